section GJYR
variable {G : gj_G} {l : Launch} {S : gj_S} {M0 M : gj_M}
set_option maxHeartbeats 4000000 in
set_option maxRecDepth 20000 in
theorem q_X12_in (hst : gj_Stat S) (h : p_F 79 [80, 81, 87, 90, 93, 96, 99, 102, 104, 105, 106] [2, 3, 4, 5] M)  (a1 a2 a3 : Int)  : gj_C G l 1 0 0 yX12_in cX12_in 6 (some .boolean) [jL a1, jL a2, jL a3] S M (gj_qI fun x S' M' => f_in a1 a2 a3 = x ∧ S = S' ∧ M = M') := by
  refine gj_Cof (by decide +kernel) (Nat.le_of_ble_eq_true rfl) ?_
  change gj_W G l 1 0 0 yX12_in cX12_in 6 (some .boolean) (gj_qI fun x S' M' => f_in a1 a2 a3 = x ∧ S = S' ∧ M = M') 0 0 0 [(0, jL a1), (2, jL a2), (4, jL a3)] [] S M
  refine gj_lload_n (q := 1) (gj_dk okX12_in 0 rfl) rfl rfl ?_
  refine gj_lload_n (q := 2) (gj_dk okX12_in 1 rfl) rfl rfl ?_
  refine gj_lcmp (q := 3) (gj_dk okX12_in 2 rfl) rfl ?_
  refine gj_if_lt (q := 6) (tgt := 17) (gj_dk okX12_in 3 rfl) (by decide) rfl (fun c3 => ?_) (fun c3 => ?_)
  · -- 17
    refine gj_iconst (q := 18) (gj_dk okX12_in 10 rfl) (by decide) rfl ?_
    exact gj_zret (gj_dk okX12_in 11 rfl) rfl (by first | decide | assumption | omega) ⟨_, rfl, (by unfold f_in; simp only [gj_cmp_neg, gj_cmp_pos] at *; split <;> omega), rfl, rfl⟩
  · -- 6
    refine gj_lload_n (q := 7) (gj_dk okX12_in 4 rfl) rfl rfl ?_
    refine gj_lload (q := 9) (gj_dk okX12_in 5 rfl) rfl rfl ?_
    refine gj_lcmp (q := 10) (gj_dk okX12_in 6 rfl) rfl ?_
    refine gj_if_gt (q := 13) (tgt := 17) (gj_dk okX12_in 7 rfl) (by decide) rfl (fun c10 => ?_) (fun c10 => ?_)
    · -- 17
      refine gj_iconst (q := 18) (gj_dk okX12_in 10 rfl) (by decide) rfl ?_
      exact gj_zret (gj_dk okX12_in 11 rfl) rfl (by first | decide | assumption | omega) ⟨_, rfl, (by unfold f_in; simp only [gj_cmp_neg, gj_cmp_pos] at *; split <;> omega), rfl, rfl⟩
    · -- 13
      refine gj_iconst (q := 14) (gj_dk okX12_in 8 rfl) (by decide) rfl ?_
      refine gj_goto (tgt := 18) (gj_dk okX12_in 9 rfl) (by decide) ?_
      exact gj_zret (gj_dk okX12_in 11 rfl) rfl (by first | decide | assumption | omega) ⟨_, rfl, (by unfold f_in; simp only [gj_cmp_neg, gj_cmp_pos] at *; split <;> omega), rfl, rfl⟩
set_option maxHeartbeats 4000000 in
set_option maxRecDepth 20000 in
theorem q_X12_refuse (hst : gj_Stat S) (h : p_F 79 [80, 81, 87, 90, 93, 96, 99, 102, 104, 105, 106] [2, 3, 4, 5] M)  (a1 : Int) (ha : 0 ≤ a1 ∧ a1 ≤ 2) : gj_C G l 1 0 0 yX12_refuse cX12_refuse 2 (some .int) [jR 79, jI a1] S M (gj_qI fun x S' M' => -1 = x ∧ S = S' ∧ p_W [80] [] M M') := by
  refine gj_Cof (by decide +kernel) (Nat.le_of_ble_eq_true rfl) ?_
  change gj_W G l 1 0 0 yX12_refuse cX12_refuse 2 (some .int) (gj_qI fun x S' M' => -1 = x ∧ S = S' ∧ p_W [80] [] M M') 0 0 0 [(0, jR 79), (1, jI a1)] [] S M
  have w0 : p_W [80] [] M M := fun _ _ _ _ _ => rfl
  refine gj_aload_n (q := 1) (gj_dk okX12_refuse 0 rfl) rfl rfl ?_
  refine gj_gR (q := 4) (j := 0) (gj_dk okX12_refuse 1 rfl) ff_X12_7 (sh79 hst) (by decide) rfl (rf79_0 hst) rfl ?_
  refine gj_iload_n (q := 5) (gj_dk okX12_refuse 2 rfl) rfl rfl ?_
  refine gj_dup2 (q := 6) (gj_dk okX12_refuse 3 rfl) rfl rfl rfl ?_
  refine gj_iald (q := 7) (gj_dk okX12_refuse 4 rfl) (sh80 hst) (by omega) (by omega) rfl ?_
  refine gj_iconst (q := 8) (gj_dk okX12_refuse 5 rfl) (by decide) rfl ?_
  refine gj_iadd (q := 9) (gj_dk okX12_refuse 6 rfl) rfl ?_
  refine gj_iast (q := 10) (gj_dk okX12_refuse 7 rfl) (sh80 hst) (by omega) (by omega) rfl ?_
  refine gj_abs (fun M1 e3 => ?_)
  have w2 : p_W [80] [] M M1 := by rw [e3]; exact w0.up rfl
  clear e3
  refine gj_iconst (q := 11) (gj_dk okX12_refuse 8 rfl) (by decide) rfl ?_
  exact gj_iret (gj_dk okX12_refuse 9 rfl) rfl ⟨_, rfl, rfl, rfl, w2⟩
set_option maxHeartbeats 4000000 in
set_option maxRecDepth 20000 in
theorem q_X12_deny (hst : gj_Stat S) (h : p_F 79 [80, 81, 87, 90, 93, 96, 99, 102, 104, 105, 106] [2, 3, 4, 5] M)  (a1 : Int) (ha : 0 ≤ a1 ∧ a1 ≤ 2) : gj_C G l 1 0 0 yX12_deny cX12_deny 2 (some .boolean) [jR 79, jI a1] S M (gj_qI fun x S' M' => 0 = x ∧ S = S' ∧ p_W [80] [] M M') := by
  refine gj_Cof (by decide +kernel) (Nat.le_of_ble_eq_true rfl) ?_
  change gj_W G l 1 0 0 yX12_deny cX12_deny 2 (some .boolean) (gj_qI fun x S' M' => 0 = x ∧ S = S' ∧ p_W [80] [] M M') 0 0 0 [(0, jR 79), (1, jI a1)] [] S M
  have w0 : p_W [80] [] M M := fun _ _ _ _ _ => rfl
  refine gj_aload_n (q := 1) (gj_dk okX12_deny 0 rfl) rfl rfl ?_
  refine gj_gR (q := 4) (j := 0) (gj_dk okX12_deny 1 rfl) ff_X12_7 (sh79 hst) (by decide) rfl (rf79_0 hst) rfl ?_
  refine gj_iload_n (q := 5) (gj_dk okX12_deny 2 rfl) rfl rfl ?_
  refine gj_dup2 (q := 6) (gj_dk okX12_deny 3 rfl) rfl rfl rfl ?_
  refine gj_iald (q := 7) (gj_dk okX12_deny 4 rfl) (sh80 hst) (by omega) (by omega) rfl ?_
  refine gj_iconst (q := 8) (gj_dk okX12_deny 5 rfl) (by decide) rfl ?_
  refine gj_iadd (q := 9) (gj_dk okX12_deny 6 rfl) rfl ?_
  refine gj_iast (q := 10) (gj_dk okX12_deny 7 rfl) (sh80 hst) (by omega) (by omega) rfl ?_
  refine gj_abs (fun M1 e3 => ?_)
  have w2 : p_W [80] [] M M1 := by rw [e3]; exact w0.up rfl
  clear e3
  refine gj_iconst (q := 11) (gj_dk okX12_deny 8 rfl) (by decide) rfl ?_
  exact gj_zret (gj_dk okX12_deny 9 rfl) rfl (by first | decide | assumption | omega) ⟨_, rfl, rfl, rfl, w2⟩
set_option maxHeartbeats 4000000 in
set_option maxRecDepth 20000 in
theorem q_X12_feeds (hst : gj_Stat S) (h : p_F 79 [80, 81, 87, 90, 93, 96, 99, 102, 104, 105, 106] [2, 3, 4, 5] M) {t : Int} (n0 : M 79 2 = t) (a1 : Int) (ht : 0 ≤ t ∧ t ≤ 496) : gj_C G l 1 0 0 yX12_feeds cX12_feeds 3 none [jR 79, jI a1] S M (gj_qV fun S' M' => S = S' ∧ p_W [81] [2] M M' ∧ M' 79 2 = t + 4) := by
  refine gj_Cof (by decide +kernel) (Nat.le_of_ble_eq_true rfl) ?_
  change gj_W G l 1 0 0 yX12_feeds cX12_feeds 3 none (gj_qV fun S' M' => S = S' ∧ p_W [81] [2] M M' ∧ M' 79 2 = t + 4) 0 0 0 [(0, jR 79), (1, jI a1)] [] S M
  have w0 : p_W [81] [2] M M := fun _ _ _ _ _ => rfl
  refine gj_iconst (q := 1) (gj_dk okX12_feeds 0 rfl) (by decide) rfl ?_
  refine gj_istore_n (q := 2) (gj_dk okX12_feeds 1 rfl) (by decide) rfl ?_
  refine gj_iload_n (q := 3) (gj_dk okX12_feeds 2 rfl) rfl rfl ?_
  refine gj_if_lt (q := 6) (tgt := 38) (gj_dk okX12_feeds 3 rfl) (by decide) rfl (fun cc => absurd cc (by decide)) (fun _ => ?_)
  refine gj_aload_n (q := 7) (gj_dk okX12_feeds 4 rfl) rfl rfl ?_
  refine gj_gR (q := 10) (j := 1) (gj_dk okX12_feeds 5 rfl) ff_X12_13 (sh79 hst) (by decide) rfl (rf79_1 hst) rfl ?_
  refine gj_aload_n (q := 11) (gj_dk okX12_feeds 6 rfl) rfl rfl ?_
  refine gj_gI (q := 14) (j := 2) (gj_dk okX12_feeds 7 rfl) ff_X12_162 (sh79 hst) (by decide) rfl rfl ?_
  rw [show M 79 2 = t from n0]
  refine gj_iload_n (q := 15) (gj_dk okX12_feeds 8 rfl) rfl rfl ?_
  refine gj_bipush (q := 17) (gj_dk okX12_feeds 9 rfl) (by decide) rfl rfl ?_
  refine gj_iload_n (q := 18) (gj_dk okX12_feeds 10 rfl) rfl rfl ?_
  refine gj_imulX (q := 19) (gj_dk okX12_feeds 11 rfl) (by decide) rfl ?_
  rw [show (8 * 3 : Int) = 24 from rfl]
  refine gj_iushr (q := 20) (gj_dk okX12_feeds 12 rfl) rfl ?_
  refine gj_i2b (q := 21) (gj_dk okX12_feeds 13 rfl) rfl ?_
  refine gj_bast (q := 22) (gj_dk okX12_feeds 14 rfl) (sh81 hst) (by omega) (by omega) (gj_b8_ok _) rfl ?_
  refine gj_abs (fun M1 e3 => ?_)
  have w2 : p_W [81] [2] M M1 := by rw [e3]; exact w0.up rfl
  have g4 : M1 79 2 = t := by rw [e3, gj_upne (by omega)]; exact n0
  clear e3
  refine gj_aload_n (q := 23) (gj_dk okX12_feeds 15 rfl) rfl rfl ?_
  refine gj_dup (q := 24) (gj_dk okX12_feeds 16 rfl) rfl rfl ?_
  refine gj_gI (q := 27) (j := 2) (gj_dk okX12_feeds 17 rfl) ff_X12_162 (sh79 hst) (by decide) rfl rfl ?_
  rw [show M1 79 2 = t from g4]
  refine gj_iconst (q := 28) (gj_dk okX12_feeds 18 rfl) (by decide) rfl ?_
  refine gj_iaddX (q := 29) (gj_dk okX12_feeds 19 rfl) (by omega) rfl ?_
  refine gj_pfI (q := 32) (j := 2) (gj_dk okX12_feeds 20 rfl) ff_X12_162 (sh79 hst) (by decide) rfl rfl ?_
  refine gj_abs (fun M5 e7 => ?_)
  have w6 : p_W [81] [2] M M5 := by rw [e7]; exact w2.up rfl
  have g8 : M5 79 2 = (t + 1) := by rw [e7]; exact if_pos ⟨rfl, rfl⟩
  clear e7
  refine gj_iinc (q := 35) (v := 2) (gj_dk okX12_feeds 21 rfl) rfl (by decide) rfl rfl ?_
  refine gj_goto (tgt := 2) (gj_dk okX12_feeds 22 rfl) (by decide) ?_
  refine gj_iload_n (q := 3) (gj_dk okX12_feeds 2 rfl) rfl rfl ?_
  refine gj_if_lt (q := 6) (tgt := 38) (gj_dk okX12_feeds 3 rfl) (by decide) rfl (fun cc => absurd cc (by decide)) (fun _ => ?_)
  refine gj_aload_n (q := 7) (gj_dk okX12_feeds 4 rfl) rfl rfl ?_
  refine gj_gR (q := 10) (j := 1) (gj_dk okX12_feeds 5 rfl) ff_X12_13 (sh79 hst) (by decide) rfl (rf79_1 hst) rfl ?_
  refine gj_aload_n (q := 11) (gj_dk okX12_feeds 6 rfl) rfl rfl ?_
  refine gj_gI (q := 14) (j := 2) (gj_dk okX12_feeds 7 rfl) ff_X12_162 (sh79 hst) (by decide) rfl rfl ?_
  rw [show M5 79 2 = t + 1 from g8]
  refine gj_iload_n (q := 15) (gj_dk okX12_feeds 8 rfl) rfl rfl ?_
  refine gj_bipush (q := 17) (gj_dk okX12_feeds 9 rfl) (by decide) rfl rfl ?_
  refine gj_iload_n (q := 18) (gj_dk okX12_feeds 10 rfl) rfl rfl ?_
  refine gj_imulX (q := 19) (gj_dk okX12_feeds 11 rfl) (by decide) rfl ?_
  rw [show (8 * 2 : Int) = 16 from rfl]
  refine gj_iushr (q := 20) (gj_dk okX12_feeds 12 rfl) rfl ?_
  refine gj_i2b (q := 21) (gj_dk okX12_feeds 13 rfl) rfl ?_
  refine gj_bast (q := 22) (gj_dk okX12_feeds 14 rfl) (sh81 hst) (by omega) (by omega) (gj_b8_ok _) rfl ?_
  refine gj_abs (fun M9 e11 => ?_)
  have w10 : p_W [81] [2] M M9 := by rw [e11]; exact w6.up rfl
  have g12 : M9 79 2 = t + 1 := by rw [e11, gj_upne (by omega)]; exact g8
  clear e11
  refine gj_aload_n (q := 23) (gj_dk okX12_feeds 15 rfl) rfl rfl ?_
  refine gj_dup (q := 24) (gj_dk okX12_feeds 16 rfl) rfl rfl ?_
  refine gj_gI (q := 27) (j := 2) (gj_dk okX12_feeds 17 rfl) ff_X12_162 (sh79 hst) (by decide) rfl rfl ?_
  rw [show M9 79 2 = t + 1 from g12]
  refine gj_iconst (q := 28) (gj_dk okX12_feeds 18 rfl) (by decide) rfl ?_
  refine gj_iaddX (q := 29) (gj_dk okX12_feeds 19 rfl) (by omega) rfl ?_
  refine gj_pfI (q := 32) (j := 2) (gj_dk okX12_feeds 20 rfl) ff_X12_162 (sh79 hst) (by decide) rfl rfl ?_
  refine gj_abs (fun M13 e15 => ?_)
  have w14 : p_W [81] [2] M M13 := by rw [e15]; exact w10.up rfl
  have g16 : M13 79 2 = ((t + 1) + 1) := by rw [e15]; exact if_pos ⟨rfl, rfl⟩
  clear e15
  refine gj_iinc (q := 35) (v := 1) (gj_dk okX12_feeds 21 rfl) rfl (by decide) rfl rfl ?_
  refine gj_goto (tgt := 2) (gj_dk okX12_feeds 22 rfl) (by decide) ?_
  refine gj_iload_n (q := 3) (gj_dk okX12_feeds 2 rfl) rfl rfl ?_
  refine gj_if_lt (q := 6) (tgt := 38) (gj_dk okX12_feeds 3 rfl) (by decide) rfl (fun cc => absurd cc (by decide)) (fun _ => ?_)
  refine gj_aload_n (q := 7) (gj_dk okX12_feeds 4 rfl) rfl rfl ?_
  refine gj_gR (q := 10) (j := 1) (gj_dk okX12_feeds 5 rfl) ff_X12_13 (sh79 hst) (by decide) rfl (rf79_1 hst) rfl ?_
  refine gj_aload_n (q := 11) (gj_dk okX12_feeds 6 rfl) rfl rfl ?_
  refine gj_gI (q := 14) (j := 2) (gj_dk okX12_feeds 7 rfl) ff_X12_162 (sh79 hst) (by decide) rfl rfl ?_
  rw [show M13 79 2 = (t + 1) + 1 from g16]
  refine gj_iload_n (q := 15) (gj_dk okX12_feeds 8 rfl) rfl rfl ?_
  refine gj_bipush (q := 17) (gj_dk okX12_feeds 9 rfl) (by decide) rfl rfl ?_
  refine gj_iload_n (q := 18) (gj_dk okX12_feeds 10 rfl) rfl rfl ?_
  refine gj_imulX (q := 19) (gj_dk okX12_feeds 11 rfl) (by decide) rfl ?_
  rw [show (8 * 1 : Int) = 8 from rfl]
  refine gj_iushr (q := 20) (gj_dk okX12_feeds 12 rfl) rfl ?_
  refine gj_i2b (q := 21) (gj_dk okX12_feeds 13 rfl) rfl ?_
  refine gj_bast (q := 22) (gj_dk okX12_feeds 14 rfl) (sh81 hst) (by omega) (by omega) (gj_b8_ok _) rfl ?_
  refine gj_abs (fun M17 e19 => ?_)
  have w18 : p_W [81] [2] M M17 := by rw [e19]; exact w14.up rfl
  have g20 : M17 79 2 = (t + 1) + 1 := by rw [e19, gj_upne (by omega)]; exact g16
  clear e19
  refine gj_aload_n (q := 23) (gj_dk okX12_feeds 15 rfl) rfl rfl ?_
  refine gj_dup (q := 24) (gj_dk okX12_feeds 16 rfl) rfl rfl ?_
  refine gj_gI (q := 27) (j := 2) (gj_dk okX12_feeds 17 rfl) ff_X12_162 (sh79 hst) (by decide) rfl rfl ?_
  rw [show M17 79 2 = (t + 1) + 1 from g20]
  refine gj_iconst (q := 28) (gj_dk okX12_feeds 18 rfl) (by decide) rfl ?_
  refine gj_iaddX (q := 29) (gj_dk okX12_feeds 19 rfl) (by omega) rfl ?_
  refine gj_pfI (q := 32) (j := 2) (gj_dk okX12_feeds 20 rfl) ff_X12_162 (sh79 hst) (by decide) rfl rfl ?_
  refine gj_abs (fun M21 e23 => ?_)
  have w22 : p_W [81] [2] M M21 := by rw [e23]; exact w18.up rfl
  have g24 : M21 79 2 = (((t + 1) + 1) + 1) := by rw [e23]; exact if_pos ⟨rfl, rfl⟩
  clear e23
  refine gj_iinc (q := 35) (v := 0) (gj_dk okX12_feeds 21 rfl) rfl (by decide) rfl rfl ?_
  refine gj_goto (tgt := 2) (gj_dk okX12_feeds 22 rfl) (by decide) ?_
  refine gj_iload_n (q := 3) (gj_dk okX12_feeds 2 rfl) rfl rfl ?_
  refine gj_if_lt (q := 6) (tgt := 38) (gj_dk okX12_feeds 3 rfl) (by decide) rfl (fun cc => absurd cc (by decide)) (fun _ => ?_)
  refine gj_aload_n (q := 7) (gj_dk okX12_feeds 4 rfl) rfl rfl ?_
  refine gj_gR (q := 10) (j := 1) (gj_dk okX12_feeds 5 rfl) ff_X12_13 (sh79 hst) (by decide) rfl (rf79_1 hst) rfl ?_
  refine gj_aload_n (q := 11) (gj_dk okX12_feeds 6 rfl) rfl rfl ?_
  refine gj_gI (q := 14) (j := 2) (gj_dk okX12_feeds 7 rfl) ff_X12_162 (sh79 hst) (by decide) rfl rfl ?_
  rw [show M21 79 2 = ((t + 1) + 1) + 1 from g24]
  refine gj_iload_n (q := 15) (gj_dk okX12_feeds 8 rfl) rfl rfl ?_
  refine gj_bipush (q := 17) (gj_dk okX12_feeds 9 rfl) (by decide) rfl rfl ?_
  refine gj_iload_n (q := 18) (gj_dk okX12_feeds 10 rfl) rfl rfl ?_
  refine gj_imulX (q := 19) (gj_dk okX12_feeds 11 rfl) (by decide) rfl ?_
  rw [show (8 * 0 : Int) = 0 from rfl]
  refine gj_iushr (q := 20) (gj_dk okX12_feeds 12 rfl) rfl ?_
  refine gj_i2b (q := 21) (gj_dk okX12_feeds 13 rfl) rfl ?_
  refine gj_bast (q := 22) (gj_dk okX12_feeds 14 rfl) (sh81 hst) (by omega) (by omega) (gj_b8_ok _) rfl ?_
  refine gj_abs (fun M25 e27 => ?_)
  have w26 : p_W [81] [2] M M25 := by rw [e27]; exact w22.up rfl
  have g28 : M25 79 2 = ((t + 1) + 1) + 1 := by rw [e27, gj_upne (by omega)]; exact g24
  clear e27
  refine gj_aload_n (q := 23) (gj_dk okX12_feeds 15 rfl) rfl rfl ?_
  refine gj_dup (q := 24) (gj_dk okX12_feeds 16 rfl) rfl rfl ?_
  refine gj_gI (q := 27) (j := 2) (gj_dk okX12_feeds 17 rfl) ff_X12_162 (sh79 hst) (by decide) rfl rfl ?_
  rw [show M25 79 2 = ((t + 1) + 1) + 1 from g28]
  refine gj_iconst (q := 28) (gj_dk okX12_feeds 18 rfl) (by decide) rfl ?_
  refine gj_iaddX (q := 29) (gj_dk okX12_feeds 19 rfl) (by omega) rfl ?_
  refine gj_pfI (q := 32) (j := 2) (gj_dk okX12_feeds 20 rfl) ff_X12_162 (sh79 hst) (by decide) rfl rfl ?_
  refine gj_abs (fun M29 e31 => ?_)
  have w30 : p_W [81] [2] M M29 := by rw [e31]; exact w26.up rfl
  have g32 : M29 79 2 = ((((t + 1) + 1) + 1) + 1) := by rw [e31]; exact if_pos ⟨rfl, rfl⟩
  clear e31
  refine gj_iinc (q := 35) (v := -1) (gj_dk okX12_feeds 21 rfl) rfl (by decide) rfl rfl ?_
  refine gj_goto (tgt := 2) (gj_dk okX12_feeds 22 rfl) (by decide) ?_
  refine gj_iload_n (q := 3) (gj_dk okX12_feeds 2 rfl) rfl rfl ?_
  refine gj_if_lt (q := 6) (tgt := 38) (gj_dk okX12_feeds 3 rfl) (by decide) rfl (fun _ => ?_) (fun cc => absurd cc (by decide))
  exact gj_vret (gj_dk okX12_feeds 23 rfl) rfl ⟨rfl, rfl, w30, (by rw [g32]; omega)⟩
set_option maxHeartbeats 4000000 in
set_option maxRecDepth 20000 in
theorem q_X12_between (hst : gj_Stat S) (h : p_F 79 [80, 81, 87, 90, 93, 96, 99, 102, 104, 105, 106] [2, 3, 4, 5] M)  (n0 : M 79 2 = 0) (a2 a3 : Int)  : gj_C G l 1 0 0 yX12_between cX12_between 4 (some .boolean) [jR 79, jI 0, jI a2, jI a3] S M (gj_qI fun x S' M' => 0 = x ∧ S = S' ∧ M = M') := by
  refine gj_Cof (by decide +kernel) (Nat.le_of_ble_eq_true rfl) ?_
  change gj_W G l 1 0 0 yX12_between cX12_between 4 (some .boolean) (gj_qI fun x S' M' => 0 = x ∧ S = S' ∧ M = M') 0 0 0 [(0, jR 79), (1, jI 0), (2, jI a2), (3, jI a3)] [] S M
  refine gj_iload_n (q := 1) (gj_dk okX12_between 0 rfl) rfl rfl ?_
  refine gj_aload_n (q := 2) (gj_dk okX12_between 1 rfl) rfl rfl ?_
  refine gj_gI (q := 5) (j := 2) (gj_dk okX12_between 2 rfl) ff_X12_162 (sh79 hst) (by decide) rfl rfl ?_
  rw [show M 79 2 = 0 from n0]
  refine gj_icmp_ge (q := 8) (tgt := 32) (gj_dk okX12_between 3 rfl) (by decide) rfl (fun _ => ?_) (fun cc => absurd cc (by decide))
  refine gj_iconst (q := 33) (gj_dk okX12_between 18 rfl) (by decide) rfl ?_
  exact gj_zret (gj_dk okX12_between 19 rfl) rfl (by first | decide | assumption | omega) ⟨_, rfl, rfl, rfl, rfl⟩
set_option maxHeartbeats 4000000 in
set_option maxRecDepth 20000 in
theorem q_X12_next (hst : gj_Stat S) (h : p_F 79 [80, 81, 87, 90, 93, 96, 99, 102, 104, 105, 106] [2, 3, 4, 5] M)  (n0 : M 79 2 = 0) (n1 : M 79 4 = 0)  : gj_C G l 2 0 0 yX12_next cX12_next 1 none [jR 79] S M (gj_qV fun S' M' => S = S' ∧ p_W [] [3, 4] M M' ∧ M' 79 3 = 0) := by
  refine gj_Cof (by decide +kernel) (Nat.le_of_ble_eq_true rfl) ?_
  change gj_W G l 2 0 0 yX12_next cX12_next 1 none (gj_qV fun S' M' => S = S' ∧ p_W [] [3, 4] M M' ∧ M' 79 3 = 0) 0 0 0 [(0, jR 79)] [] S M
  have w0 : p_W [] [3, 4] M M := fun _ _ _ _ _ => rfl
  refine gj_aload_n (q := 1) (gj_dk okX12_next 0 rfl) rfl rfl ?_
  refine gj_aload_n (q := 2) (gj_dk okX12_next 1 rfl) rfl rfl ?_
  refine gj_gI (q := 5) (j := 4) (gj_dk okX12_next 2 rfl) ff_X12_177 (sh79 hst) (by decide) rfl rfl ?_
  rw [show M 79 4 = 0 from n1]
  refine gj_pfI (q := 8) (j := 3) (gj_dk okX12_next 3 rfl) ff_X12_180 (sh79 hst) (by decide) rfl rfl ?_
  refine gj_abs (fun M1 e3 => ?_)
  have w2 : p_W [] [3, 4] M M1 := by rw [e3]; exact w0.up rfl
  have g4 : M1 79 2 = 0 := by rw [e3, gj_upne (by decide)]; exact n0
  have g5 : M1 79 4 = 0 := by rw [e3, gj_upne (by decide)]; exact n1
  have g6 : M1 79 3 = 0 := by rw [e3]; exact if_pos ⟨rfl, rfl⟩
  clear e3
  refine gj_aload_n (q := 9) (gj_dk okX12_next 4 rfl) rfl rfl ?_
  refine gj_gI (q := 12) (j := 3) (gj_dk okX12_next 5 rfl) ff_X12_180 (sh79 hst) (by decide) rfl rfl ?_
  rw [show M1 79 3 = 0 from g6]
  refine gj_aload_n (q := 13) (gj_dk okX12_next 6 rfl) rfl rfl ?_
  refine gj_gI (q := 16) (j := 2) (gj_dk okX12_next 7 rfl) ff_X12_162 (sh79 hst) (by decide) rfl rfl ?_
  rw [show M1 79 2 = 0 from g4]
  refine gj_icmp_ge (q := 19) (tgt := 60) (gj_dk okX12_next 8 rfl) (by decide) rfl (fun _ => ?_) (fun cc => absurd cc (by decide))
  refine gj_aload_n (q := 61) (gj_dk okX12_next 30 rfl) rfl rfl ?_
  refine gj_aload_n (q := 62) (gj_dk okX12_next 31 rfl) rfl rfl ?_
  refine gj_gI (q := 65) (j := 3) (gj_dk okX12_next 32 rfl) ff_X12_180 (sh79 hst) (by decide) rfl rfl ?_
  rw [show M1 79 3 = 0 from g6]
  refine gj_pfI (q := 68) (j := 4) (gj_dk okX12_next 33 rfl) ff_X12_177 (sh79 hst) (by decide) rfl rfl ?_
  refine gj_abs (fun M7 e9 => ?_)
  have w8 : p_W [] [3, 4] M M7 := by rw [e9]; exact w2.up rfl
  have g10 : M7 79 2 = 0 := by rw [e9, gj_upne (by decide)]; exact g4
  have g11 : M7 79 3 = 0 := by rw [e9, gj_upne (by decide)]; exact g6
  have g12 : M7 79 4 = 0 := by rw [e9]; exact if_pos ⟨rfl, rfl⟩
  clear e9
  refine gj_aload_n (q := 69) (gj_dk okX12_next 34 rfl) rfl rfl ?_
  refine gj_aload_n (q := 70) (gj_dk okX12_next 35 rfl) rfl rfl ?_
  refine gj_gI (q := 73) (j := 3) (gj_dk okX12_next 36 rfl) ff_X12_180 (sh79 hst) (by decide) rfl rfl ?_
  rw [show M7 79 3 = 0 from g11]
  refine gj_bipush (q := 75) (gj_dk okX12_next 37 rfl) (by decide) rfl rfl ?_
  refine gj_bipush (q := 77) (gj_dk okX12_next 38 rfl) (by decide) rfl rfl ?_
  refine gj_callV (q := 80) (z := 79) (ci := 10) [jI 0, jI 97, jI 122] rfl (q_X12_between hst (h.of w8 rfl) g10 _ _ ) (gj_dk okX12_next 39 rfl) ml_X12_183 me_X12_between (sh79 hst) rfl (gj_nm rfl) rfl (gj_kI fun x14 S2 M2 h13 => ?_)
  obtain ⟨ex14, eS, eM⟩ := h13
  subst eS
  subst eM
  subst ex14
  refine gj_if_eq (q := 83) (tgt := 111) (gj_dk okX12_next 40 rfl) (by decide) rfl (fun _ => ?_) (fun cc => absurd cc (by decide))
  refine gj_aload_n (q := 112) (gj_dk okX12_next 55 rfl) rfl rfl ?_
  refine gj_aload_n (q := 113) (gj_dk okX12_next 56 rfl) rfl rfl ?_
  refine gj_gI (q := 116) (j := 3) (gj_dk okX12_next 57 rfl) ff_X12_180 (sh79 hst) (by decide) rfl rfl ?_
  rw [show M7 79 3 = 0 from g11]
  refine gj_bipush (q := 118) (gj_dk okX12_next 58 rfl) (by decide) rfl rfl ?_
  refine gj_bipush (q := 120) (gj_dk okX12_next 59 rfl) (by decide) rfl rfl ?_
  refine gj_callV (q := 123) (z := 79) (ci := 10) [jI 0, jI 48, jI 57] rfl (q_X12_between hst (h.of w8 rfl) g10 _ _ ) (gj_dk okX12_next 60 rfl) ml_X12_183 me_X12_between (sh79 hst) rfl (gj_nm rfl) rfl (gj_kI fun x16 S2 M2 h15 => ?_)
  obtain ⟨ex16, eS, eM⟩ := h15
  subst eS
  subst eM
  subst ex16
  refine gj_if_eq (q := 126) (tgt := 154) (gj_dk okX12_next 61 rfl) (by decide) rfl (fun _ => ?_) (fun cc => absurd cc (by decide))
  refine gj_aload_n (q := 155) (gj_dk okX12_next 76 rfl) rfl rfl ?_
  refine gj_gI (q := 158) (j := 3) (gj_dk okX12_next 77 rfl) ff_X12_180 (sh79 hst) (by decide) rfl rfl ?_
  rw [show M7 79 3 = 0 from g11]
  refine gj_aload_n (q := 159) (gj_dk okX12_next 78 rfl) rfl rfl ?_
  refine gj_gI (q := 162) (j := 2) (gj_dk okX12_next 79 rfl) ff_X12_162 (sh79 hst) (by decide) rfl rfl ?_
  rw [show M7 79 2 = 0 from g10]
  refine gj_icmp_ge (q := 165) (tgt := 175) (gj_dk okX12_next 80 rfl) (by decide) rfl (fun _ => ?_) (fun cc => absurd cc (by decide))
  exact gj_vret (gj_dk okX12_next 87 rfl) rfl ⟨rfl, rfl, w8, g11⟩
set_option maxHeartbeats 4000000 in
set_option maxRecDepth 20000 in
theorem q_X12_reads (hst : gj_Stat S) (h : p_F 79 [80, 81, 87, 90, 93, 96, 99, 102, 104, 105, 106] [2, 3, 4, 5] M)  (n0 : M 79 2 = 0)  : gj_C G l 3 1 8 yX12_reads cX12_reads 3 none [jR 79] S M (gj_qV fun S' M' => gj_Stat S' ∧ p_W [87, 90, 93, 96, 99, 102, 104, 105, 106] [3, 4, 5] M M' ∧ M' 79 5 = 0) := by
  refine gj_Cof (by decide +kernel) (Nat.le_of_ble_eq_true rfl) ?_
  change gj_W G l 3 1 8 yX12_reads cX12_reads 3 none (gj_qV fun S' M' => gj_Stat S' ∧ p_W [87, 90, 93, 96, 99, 102, 104, 105, 106] [3, 4, 5] M M' ∧ M' 79 5 = 0) 0 0 0 [(0, jR 79)] [] S M
  have w0 : p_W [87, 90, 93, 96, 99, 102, 104, 105, 106] [3, 4, 5] M M := fun _ _ _ _ _ => rfl
  refine gj_aload_n (q := 1) (gj_dk okX12_reads_0 0 rfl) rfl rfl ?_
  refine gj_iconst (q := 2) (gj_dk okX12_reads_0 1 rfl) (by decide) rfl ?_
  refine gj_pfI (q := 5) (j := 5) (gj_dk okX12_reads_0 2 rfl) ff_X12_187 (sh79 hst) (by decide) rfl rfl ?_
  refine gj_abs (fun M1 e3 => ?_)
  have w2 : p_W [87, 90, 93, 96, 99, 102, 104, 105, 106] [3, 4, 5] M M1 := by rw [e3]; exact w0.up rfl
  have g4 : M1 79 2 = 0 := by rw [e3, gj_upne (by decide)]; exact n0
  have g5 : M1 79 5 = (-1) := by rw [e3]; exact if_pos ⟨rfl, rfl⟩
  clear e3
  refine gj_aload_n (q := 6) (gj_dk okX12_reads_0 3 rfl) rfl rfl ?_
  refine gj_gR (q := 9) (j := 13) (gj_dk okX12_reads_0 4 rfl) ff_X12_37 (sh79 hst) (by decide) rfl (rf79_13 hst) rfl ?_
  refine gj_iconst (q := 10) (gj_dk okX12_reads_0 5 rfl) (by decide) rfl ?_
  refine gj_aald (q := 11) (gj_dk okX12_reads_0 6 rfl) (sh100 hst) (by decide) (by decide) (by decide) (rf100_1 hst) rfl ?_
  refine gj_iconst (q := 12) (gj_dk okX12_reads_0 7 rfl) (by decide) rfl ?_
  refine gj_iconst (q := 13) (gj_dk okX12_reads_0 8 rfl) (by decide) rfl ?_
  refine gj_iast (q := 14) (gj_dk okX12_reads_0 9 rfl) (sh102 hst) (by decide) (by decide) rfl ?_
  refine gj_abs (fun M6 e8 => ?_)
  have w7 : p_W [87, 90, 93, 96, 99, 102, 104, 105, 106] [3, 4, 5] M M6 := by rw [e8]; exact w2.up rfl
  have g9 : M6 79 2 = 0 := by rw [e8, gj_upne (by omega)]; exact g4
  have g10 : M6 79 5 = -1 := by rw [e8, gj_upne (by omega)]; exact g5
  have g11 : M6 102 0 = 0 := by rw [e8]; exact if_pos ⟨rfl, rfl⟩
  clear e8
  refine gj_aload_n (q := 15) (gj_dk okX12_reads_0 10 rfl) rfl rfl ?_
  refine gj_gR (q := 18) (j := 13) (gj_dk okX12_reads_0 11 rfl) ff_X12_37 (sh79 hst) (by decide) rfl (rf79_13 hst) rfl ?_
  refine gj_iconst (q := 19) (gj_dk okX12_reads_0 12 rfl) (by decide) rfl ?_
  refine gj_aald (q := 20) (gj_dk okX12_reads_0 13 rfl) (sh100 hst) (by decide) (by decide) (by decide) (rf100_1 hst) rfl ?_
  refine gj_iconst (q := 21) (gj_dk okX12_reads_0 14 rfl) (by decide) rfl ?_
  refine gj_iconst (q := 22) (gj_dk okX12_reads_0 15 rfl) (by decide) rfl ?_
  refine gj_iast (q := 23) (gj_dk okX12_reads_0 16 rfl) (sh102 hst) (by decide) (by decide) rfl ?_
  refine gj_abs (fun M12 e14 => ?_)
  have w13 : p_W [87, 90, 93, 96, 99, 102, 104, 105, 106] [3, 4, 5] M M12 := by rw [e14]; exact w7.up rfl
  have g15 : M12 79 2 = 0 := by rw [e14, gj_upne (by omega)]; exact g9
  have g16 : M12 79 5 = -1 := by rw [e14, gj_upne (by omega)]; exact g10
  have g17 : M12 102 0 = 0 := by rw [e14, gj_upne (by decide)]; exact g11
  have g18 : M12 102 1 = 0 := by rw [e14]; exact if_pos ⟨rfl, rfl⟩
  clear e14
  refine gj_iconst (q := 24) (gj_dk okX12_reads_0 17 rfl) (by decide) rfl ?_
  refine gj_istore_n (q := 25) (gj_dk okX12_reads_0 18 rfl) (by decide) rfl ?_
  have L25 : ∀ (k20 : Nat) (x19 : Int) (M21 : gj_M), (0 ≤ x19) → p_W [87, 90, 93, 96, 99, 102, 104, 105, 106] [3, 4, 5] M M21 → M21 79 2 = 0 → M21 79 5 = -1 → M21 102 0 = 0 → M21 102 1 = 0 → (2147483647 - x19).toNat < k20 → gj_W G l 3 1 8 yX12_reads cX12_reads 3 none (gj_qV fun S' M' => gj_Stat S' ∧ p_W [87, 90, 93, 96, 99, 102, 104, 105, 106] [3, 4, 5] M M' ∧ M' 79 5 = 0) 0 0 25 [(0, jR 79), (1, jI x19)] [] S M21 := by
    intro k20
    induction k20 with
    | zero => intro x19 M21 f23 w22 g24 g25 g26 g27 hk25; exact absurd hk25 (Nat.not_lt_zero _)
    | succ k20 ih25 =>
      intro x19 M21 f23 w22 g24 g25 g26 g27 hk25
      refine gj_iload_n (q := 26) (gj_dk okX12_reads_0 19 rfl) rfl rfl ?_
      refine gj_bipush (q := 28) (gj_dk okX12_reads_0 20 rfl) (by decide) rfl rfl ?_
      refine gj_icmp_ge (q := 31) (tgt := 73) (gj_dk okX12_reads_0 21 rfl) (by decide) rfl (fun c28 => ?_) (fun c28 => ?_)
      · -- 73
        refine gj_iconst (q := 74) (gj_dk okX12_reads_0 50 rfl) (by decide) rfl ?_
        refine gj_istore_n (q := 75) (gj_dk okX12_reads_0 51 rfl) (by decide) rfl ?_
        have L75 : ∀ (k29 : Nat) (x28 : Int) (M30 : gj_M), (0 ≤ x28) → p_W [87, 90, 93, 96, 99, 102, 104, 105, 106] [3, 4, 5] M M30 → M30 79 2 = 0 → M30 79 5 = -1 → M30 102 0 = 0 → M30 102 1 = 0 → (2147483647 - x28).toNat < k29 → gj_W G l 3 1 8 yX12_reads cX12_reads 3 none (gj_qV fun S' M' => gj_Stat S' ∧ p_W [87, 90, 93, 96, 99, 102, 104, 105, 106] [3, 4, 5] M M' ∧ M' 79 5 = 0) 0 0 75 [(0, jR 79), (1, jI x28)] [] S M30 := by
          intro k29
          induction k29 with
          | zero => intro x28 M30 f32 w31 g33 g34 g35 g36 hk75; exact absurd hk75 (Nat.not_lt_zero _)
          | succ k29 ih75 =>
            intro x28 M30 f32 w31 g33 g34 g35 g36 hk75
            refine gj_iload_n (q := 76) (gj_dk okX12_reads_0 52 rfl) rfl rfl ?_
            refine gj_bipush (q := 78) (gj_dk okX12_reads_0 53 rfl) (by decide) rfl rfl ?_
            refine gj_icmp_ge (q := 81) (tgt := 104) (gj_dk okX12_reads_0 54 rfl) (by decide) rfl (fun c78 => ?_) (fun c78 => ?_)
            · -- 104
              refine gj_iconst (q := 105) (gj_dk okX12_reads_1 9 rfl) (by decide) rfl ?_
              refine gj_istore_n (q := 106) (gj_dk okX12_reads_1 10 rfl) (by decide) rfl ?_
              have L106 : ∀ (k38 : Nat) (x37 : Int) (M39 : gj_M), (0 ≤ x37) → p_W [87, 90, 93, 96, 99, 102, 104, 105, 106] [3, 4, 5] M M39 → M39 79 2 = 0 → M39 79 5 = -1 → M39 102 0 = 0 → M39 102 1 = 0 → (2147483647 - x37).toNat < k38 → gj_W G l 3 1 8 yX12_reads cX12_reads 3 none (gj_qV fun S' M' => gj_Stat S' ∧ p_W [87, 90, 93, 96, 99, 102, 104, 105, 106] [3, 4, 5] M M' ∧ M' 79 5 = 0) 0 0 106 [(0, jR 79), (1, jI x37)] [] S M39 := by
                intro k38
                induction k38 with
                | zero => intro x37 M39 f41 w40 g42 g43 g44 g45 hk106; exact absurd hk106 (Nat.not_lt_zero _)
                | succ k38 ih106 =>
                  intro x37 M39 f41 w40 g42 g43 g44 g45 hk106
                  refine gj_iload_n (q := 107) (gj_dk okX12_reads_1 11 rfl) rfl rfl ?_
                  refine gj_bipush (q := 109) (gj_dk okX12_reads_1 12 rfl) (by decide) rfl rfl ?_
                  refine gj_icmp_ge (q := 112) (tgt := 125) (gj_dk okX12_reads_1 13 rfl) (by decide) rfl (fun c109 => ?_) (fun c109 => ?_)
                  · -- 125
                    refine gj_bipush (q := 127) (gj_dk okX12_reads_1 21 rfl) (by decide) rfl rfl ?_
                    refine gj_newarr (q := 129) (kd := 0) (gj_dk okX12_reads_1 22 rfl) (by decide) rfl ka_int (by decide) (by decide) (by decide) (by decide) rfl ?_
                    refine p_newA hst (fun S48 z49 hstS48 hsz49 hzz49 hMM46 => ?_)
                    generalize gj_nM S M39 = M46 at hMM46 ⊢
                    have w47 : p_W [87, 90, 93, 96, 99, 102, 104, 105, 106] [3, 4, 5] M M46 := fun a b h1 h2 h3 => (hMM46 a b h2).trans (w40 a b h1 h2 h3)
                    have g50 : M46 79 2 = 0 := (hMM46 79 2 (by decide)).trans g42
                    have g51 : M46 79 5 = -1 := (hMM46 79 5 (by decide)).trans g43
                    have g52 : M46 102 0 = 0 := (hMM46 102 0 (by decide)).trans g44
                    have g53 : M46 102 1 = 0 := (hMM46 102 1 (by decide)).trans g45
                    clear hMM46
                    refine gj_dup (q := 130) (gj_dk okX12_reads_1 23 rfl) rfl rfl ?_
                    refine gj_iconst (q := 131) (gj_dk okX12_reads_1 24 rfl) (by decide) rfl ?_
                    refine gj_bipush (q := 133) (gj_dk okX12_reads_1 25 rfl) (by decide) rfl rfl ?_
                    refine gj_iast (q := 134) (gj_dk okX12_reads_1 26 rfl) hsz49 (by decide) (by decide) rfl ?_
                    refine gj_abs (fun M54 e56 => ?_)
                    have w55 : p_W [87, 90, 93, 96, 99, 102, 104, 105, 106] [3, 4, 5] M M54 := by rw [e56]; exact w47.upN (by omega)
                    have g57 : M54 79 2 = 0 := by rw [e56, gj_upne (by omega)]; exact g50
                    have g58 : M54 79 5 = -1 := by rw [e56, gj_upne (by omega)]; exact g51
                    have g59 : M54 102 0 = 0 := by rw [e56, gj_upne (by omega)]; exact g52
                    have g60 : M54 102 1 = 0 := by rw [e56, gj_upne (by omega)]; exact g53
                    clear e56
                    refine gj_dup (q := 135) (gj_dk okX12_reads_1 27 rfl) rfl rfl ?_
                    refine gj_iconst (q := 136) (gj_dk okX12_reads_1 28 rfl) (by decide) rfl ?_
                    refine gj_iconst (q := 137) (gj_dk okX12_reads_1 29 rfl) (by decide) rfl ?_
                    refine gj_iast (q := 138) (gj_dk okX12_reads_1 30 rfl) hsz49 (by decide) (by decide) rfl ?_
                    refine gj_abs (fun M61 e63 => ?_)
                    have w62 : p_W [87, 90, 93, 96, 99, 102, 104, 105, 106] [3, 4, 5] M M61 := by rw [e63]; exact w55.upN (by omega)
                    have g64 : M61 79 2 = 0 := by rw [e63, gj_upne (by omega)]; exact g57
                    have g65 : M61 79 5 = -1 := by rw [e63, gj_upne (by omega)]; exact g58
                    have g66 : M61 102 0 = 0 := by rw [e63, gj_upne (by omega)]; exact g59
                    have g67 : M61 102 1 = 0 := by rw [e63, gj_upne (by omega)]; exact g60
                    clear e63
                    refine gj_dup (q := 139) (gj_dk okX12_reads_1 31 rfl) rfl rfl ?_
                    refine gj_iconst (q := 140) (gj_dk okX12_reads_1 32 rfl) (by decide) rfl ?_
                    refine gj_iconst (q := 141) (gj_dk okX12_reads_1 33 rfl) (by decide) rfl ?_
                    refine gj_iast (q := 142) (gj_dk okX12_reads_1 34 rfl) hsz49 (by decide) (by decide) rfl ?_
                    refine gj_abs (fun M68 e70 => ?_)
                    have w69 : p_W [87, 90, 93, 96, 99, 102, 104, 105, 106] [3, 4, 5] M M68 := by rw [e70]; exact w62.upN (by omega)
                    have g71 : M68 79 2 = 0 := by rw [e70, gj_upne (by omega)]; exact g64
                    have g72 : M68 79 5 = -1 := by rw [e70, gj_upne (by omega)]; exact g65
                    have g73 : M68 102 0 = 0 := by rw [e70, gj_upne (by omega)]; exact g66
                    have g74 : M68 102 1 = 0 := by rw [e70, gj_upne (by omega)]; exact g67
                    clear e70
                    refine gj_dup (q := 143) (gj_dk okX12_reads_1 35 rfl) rfl rfl ?_
                    refine gj_iconst (q := 144) (gj_dk okX12_reads_1 36 rfl) (by decide) rfl ?_
                    refine gj_iconst (q := 145) (gj_dk okX12_reads_1 37 rfl) (by decide) rfl ?_
                    refine gj_iast (q := 146) (gj_dk okX12_reads_1 38 rfl) hsz49 (by decide) (by decide) rfl ?_
                    refine gj_abs (fun M75 e77 => ?_)
                    have w76 : p_W [87, 90, 93, 96, 99, 102, 104, 105, 106] [3, 4, 5] M M75 := by rw [e77]; exact w69.upN (by omega)
                    have g78 : M75 79 2 = 0 := by rw [e77, gj_upne (by omega)]; exact g71
                    have g79 : M75 79 5 = -1 := by rw [e77, gj_upne (by omega)]; exact g72
                    have g80 : M75 102 0 = 0 := by rw [e77, gj_upne (by omega)]; exact g73
                    have g81 : M75 102 1 = 0 := by rw [e77, gj_upne (by omega)]; exact g74
                    clear e77
                    refine gj_dup (q := 147) (gj_dk okX12_reads_1 39 rfl) rfl rfl ?_
                    refine gj_iconst (q := 148) (gj_dk okX12_reads_1 40 rfl) (by decide) rfl ?_
                    refine gj_iconst (q := 149) (gj_dk okX12_reads_1 41 rfl) (by decide) rfl ?_
                    refine gj_iast (q := 150) (gj_dk okX12_reads_1 42 rfl) hsz49 (by decide) (by decide) rfl ?_
                    refine gj_abs (fun M82 e84 => ?_)
                    have w83 : p_W [87, 90, 93, 96, 99, 102, 104, 105, 106] [3, 4, 5] M M82 := by rw [e84]; exact w76.upN (by omega)
                    have g85 : M82 79 2 = 0 := by rw [e84, gj_upne (by omega)]; exact g78
                    have g86 : M82 79 5 = -1 := by rw [e84, gj_upne (by omega)]; exact g79
                    have g87 : M82 102 0 = 0 := by rw [e84, gj_upne (by omega)]; exact g80
                    have g88 : M82 102 1 = 0 := by rw [e84, gj_upne (by omega)]; exact g81
                    clear e84
                    refine gj_dup (q := 151) (gj_dk okX12_reads_1 43 rfl) rfl rfl ?_
                    refine gj_iconst (q := 152) (gj_dk okX12_reads_1 44 rfl) (by decide) rfl ?_
                    refine gj_iconst (q := 153) (gj_dk okX12_reads_1 45 rfl) (by decide) rfl ?_
                    refine gj_iast (q := 154) (gj_dk okX12_reads_1 46 rfl) hsz49 (by decide) (by decide) rfl ?_
                    refine gj_abs (fun M89 e91 => ?_)
                    have w90 : p_W [87, 90, 93, 96, 99, 102, 104, 105, 106] [3, 4, 5] M M89 := by rw [e91]; exact w83.upN (by omega)
                    have g92 : M89 79 2 = 0 := by rw [e91, gj_upne (by omega)]; exact g85
                    have g93 : M89 79 5 = -1 := by rw [e91, gj_upne (by omega)]; exact g86
                    have g94 : M89 102 0 = 0 := by rw [e91, gj_upne (by omega)]; exact g87
                    have g95 : M89 102 1 = 0 := by rw [e91, gj_upne (by omega)]; exact g88
                    clear e91
                    refine gj_dup (q := 155) (gj_dk okX12_reads_1 47 rfl) rfl rfl ?_
                    refine gj_bipush (q := 157) (gj_dk okX12_reads_1 48 rfl) (by decide) rfl rfl ?_
                    refine gj_iconst (q := 158) (gj_dk okX12_reads_1 49 rfl) (by decide) rfl ?_
                    refine gj_iast (q := 159) (gj_dk okX12_reads_1 50 rfl) hsz49 (by decide) (by decide) rfl ?_
                    refine gj_abs (fun M96 e98 => ?_)
                    have w97 : p_W [87, 90, 93, 96, 99, 102, 104, 105, 106] [3, 4, 5] M M96 := by rw [e98]; exact w90.upN (by omega)
                    have g99 : M96 79 2 = 0 := by rw [e98, gj_upne (by omega)]; exact g92
                    have g100 : M96 79 5 = -1 := by rw [e98, gj_upne (by omega)]; exact g93
                    have g101 : M96 102 0 = 0 := by rw [e98, gj_upne (by omega)]; exact g94
                    have g102 : M96 102 1 = 0 := by rw [e98, gj_upne (by omega)]; exact g95
                    clear e98
                    refine gj_dup (q := 160) (gj_dk okX12_reads_1 51 rfl) rfl rfl ?_
                    refine gj_bipush (q := 162) (gj_dk okX12_reads_1 52 rfl) (by decide) rfl rfl ?_
                    refine gj_iconst (q := 163) (gj_dk okX12_reads_1 53 rfl) (by decide) rfl ?_
                    refine gj_iast (q := 164) (gj_dk okX12_reads_1 54 rfl) hsz49 (by decide) (by decide) rfl ?_
                    refine gj_abs (fun M103 e105 => ?_)
                    have w104 : p_W [87, 90, 93, 96, 99, 102, 104, 105, 106] [3, 4, 5] M M103 := by rw [e105]; exact w97.upN (by omega)
                    have g106 : M103 79 2 = 0 := by rw [e105, gj_upne (by omega)]; exact g99
                    have g107 : M103 79 5 = -1 := by rw [e105, gj_upne (by omega)]; exact g100
                    have g108 : M103 102 0 = 0 := by rw [e105, gj_upne (by omega)]; exact g101
                    have g109 : M103 102 1 = 0 := by rw [e105, gj_upne (by omega)]; exact g102
                    clear e105
                    refine gj_astore_n (q := 165) (gj_dk okX12_reads_1 55 rfl) (by decide) rfl ?_
                    refine gj_iconst (q := 166) (gj_dk okX12_reads_1 56 rfl) (by decide) rfl ?_
                    refine gj_istore_n (q := 167) (gj_dk okX12_reads_1 57 rfl) (by decide) rfl ?_
                    have L167 : ∀ (k111 : Nat) (x110 : Int) (M112 : gj_M), (0 ≤ x110) → p_W [87, 90, 93, 96, 99, 102, 104, 105, 106] [3, 4, 5] M M112 → M112 79 2 = 0 → M112 79 5 = -1 → M112 102 0 = 0 → M112 102 1 = 0 → (2147483647 - x110).toNat < k111 → gj_W G l 3 1 8 yX12_reads cX12_reads 3 none (gj_qV fun S' M' => gj_Stat S' ∧ p_W [87, 90, 93, 96, 99, 102, 104, 105, 106] [3, 4, 5] M M' ∧ M' 79 5 = 0) 1 8 167 [(0, jR 79), (1, jR z49), (2, jI x110)] [] S48 M112 := by
                      intro k111
                      induction k111 with
                      | zero => intro x110 M112 f114 w113 g115 g116 g117 g118 hk167; exact absurd hk167 (Nat.not_lt_zero _)
                      | succ k111 ih167 =>
                        intro x110 M112 f114 w113 g115 g116 g117 g118 hk167
                        refine gj_iload_n (q := 168) (gj_dk okX12_reads_1 58 rfl) rfl rfl ?_
                        refine gj_bipush (q := 170) (gj_dk okX12_reads_1 59 rfl) (by decide) rfl rfl ?_
                        refine gj_icmp_ge (q := 173) (tgt := 190) (gj_dk okX12_reads_2 0 rfl) (by decide) rfl (fun c170 => ?_) (fun c170 => ?_)
                        · -- 190
                          refine gj_aload_n (q := 191) (gj_dk okX12_reads_2 12 rfl) rfl rfl ?_
                          refine gj_iconst (q := 192) (gj_dk okX12_reads_2 13 rfl) (by decide) rfl ?_
                          refine gj_pfI (q := 195) (j := 4) (gj_dk okX12_reads_2 14 rfl) ff_X12_177 (sh79 hstS48) (by decide) rfl rfl ?_
                          refine gj_abs (fun M119 e121 => ?_)
                          have w120 : p_W [87, 90, 93, 96, 99, 102, 104, 105, 106] [3, 4, 5] M M119 := by rw [e121]; exact w113.up rfl
                          have g122 : M119 79 2 = 0 := by rw [e121, gj_upne (by decide)]; exact g115
                          have g123 : M119 79 5 = -1 := by rw [e121, gj_upne (by decide)]; exact g116
                          have g124 : M119 102 0 = 0 := by rw [e121, gj_upne (by omega)]; exact g117
                          have g125 : M119 102 1 = 0 := by rw [e121, gj_upne (by omega)]; exact g118
                          have g126 : M119 79 4 = 0 := by rw [e121]; exact if_pos ⟨rfl, rfl⟩
                          clear e121
                          refine gj_aload_n (q := 196) (gj_dk okX12_reads_2 15 rfl) rfl rfl ?_
                          refine gj_callV (q := 199) (z := 79) (ci := 10) [] rfl (q_X12_next hstS48 (h.of w120 rfl) g122 g126  ) (gj_dk okX12_reads_2 16 rfl) ml_X12_190 me_X12_next (sh79 hstS48) rfl (gj_nm rfl) rfl (gj_kV fun S2 M2 h127 => ?_)
                          obtain ⟨eS, wc, fo0⟩ := h127
                          subst eS
                          have w130 : p_W [87, 90, 93, 96, 99, 102, 104, 105, 106] [3, 4, 5] M M2 := w120.trans (wc.wide rfl)
                          have g131 : M2 79 2 = 0 := (wc 79 2 rfl rfl rfl).trans g122
                          have g132 : M2 79 5 = -1 := (wc 79 5 rfl rfl rfl).trans g123
                          have g133 : M2 102 0 = 0 := (wc 102 0 rfl rfl rfl).trans g124
                          have g134 : M2 102 1 = 0 := (wc 102 1 rfl rfl rfl).trans g125
                          have g135 : M2 79 3 = 0 := fo0
                          clear wc fo0
                          generalize M2 = M129 at *
                          refine gj_iconst (q := 200) (gj_dk okX12_reads_2 17 rfl) (by decide) rfl ?_
                          refine gj_istore_n (q := 201) (gj_dk okX12_reads_2 18 rfl) (by decide) rfl ?_
                          refine gj_iload_n (q := 202) (gj_dk okX12_reads_2 19 rfl) rfl rfl ?_
                          refine gj_if_eq (q := 205) (tgt := 224) (gj_dk okX12_reads_2 20 rfl) (by decide) rfl (fun cc => absurd cc (by decide)) (fun _ => ?_)
                          refine gj_aload_n (q := 206) (gj_dk okX12_reads_2 21 rfl) rfl rfl ?_
                          refine gj_gI (q := 209) (j := 3) (gj_dk okX12_reads_2 22 rfl) ff_X12_180 (sh79 hstS48) (by decide) rfl rfl ?_
                          rw [show M129 79 3 = 0 from g135]
                          refine gj_aload_n (q := 210) (gj_dk okX12_reads_2 23 rfl) rfl rfl ?_
                          refine gj_gI (q := 213) (j := 2) (gj_dk okX12_reads_2 24 rfl) ff_X12_162 (sh79 hstS48) (by decide) rfl rfl ?_
                          rw [show M129 79 2 = 0 from g131]
                          refine gj_icmp_ge (q := 216) (tgt := 224) (gj_dk okX12_reads_2 25 rfl) (by decide) rfl (fun _ => ?_) (fun cc => absurd cc (by decide))
                          refine gj_iload_n (q := 225) (gj_dk okX12_reads_2 30 rfl) rfl rfl ?_
                          refine gj_if_eq (q := 228) (tgt := 258) (gj_dk okX12_reads_2 31 rfl) (by decide) rfl (fun cc => absurd cc (by decide)) (fun _ => ?_)
                          refine gj_aload_n (q := 229) (gj_dk okX12_reads_2 32 rfl) rfl rfl ?_
                          refine gj_gR (q := 232) (j := 13) (gj_dk okX12_reads_2 33 rfl) ff_X12_37 (sh79 hstS48) (by decide) rfl (rf79_13 hstS48) rfl ?_
                          refine gj_iconst (q := 233) (gj_dk okX12_reads_2 34 rfl) (by decide) rfl ?_
                          refine gj_aald (q := 234) (gj_dk okX12_reads_2 35 rfl) (sh100 hstS48) (by decide) (by decide) (by decide) (rf100_1 hstS48) rfl ?_
                          refine gj_iconst (q := 235) (gj_dk okX12_reads_2 36 rfl) (by decide) rfl ?_
                          refine gj_iald (q := 236) (gj_dk okX12_reads_2 37 rfl) (sh102 hstS48) (by decide) (by decide) rfl ?_
                          rw [show M129 102 0 = 0 from g133]
                          refine gj_if_eq (q := 239) (tgt := 250) (gj_dk okX12_reads_2 38 rfl) (by decide) rfl (fun _ => ?_) (fun cc => absurd cc (by decide))
                          refine gj_aload_n (q := 251) (gj_dk okX12_reads_2 46 rfl) rfl rfl ?_
                          refine gj_aload_n (q := 252) (gj_dk okX12_reads_2 47 rfl) rfl rfl ?_
                          refine gj_gI (q := 255) (j := 2) (gj_dk okX12_reads_2 48 rfl) ff_X12_162 (sh79 hstS48) (by decide) rfl rfl ?_
                          rw [show M129 79 2 = 0 from g131]
                          refine gj_pfI (q := 258) (j := 5) (gj_dk okX12_reads_2 49 rfl) ff_X12_187 (sh79 hstS48) (by decide) rfl rfl ?_
                          refine gj_abs (fun M136 e138 => ?_)
                          have w137 : p_W [87, 90, 93, 96, 99, 102, 104, 105, 106] [3, 4, 5] M M136 := by rw [e138]; exact w130.up rfl
                          have g139 : M136 79 2 = 0 := by rw [e138, gj_upne (by decide)]; exact g131
                          have g140 : M136 102 0 = 0 := by rw [e138, gj_upne (by omega)]; exact g133
                          have g141 : M136 102 1 = 0 := by rw [e138, gj_upne (by omega)]; exact g134
                          have g142 : M136 79 3 = 0 := by rw [e138, gj_upne (by decide)]; exact g135
                          have g143 : M136 79 5 = 0 := by rw [e138]; exact if_pos ⟨rfl, rfl⟩
                          clear e138
                          exact gj_vret (gj_dk okX12_reads_2 50 rfl) rfl ⟨rfl, hstS48, w137, g143⟩
                        · -- 173
                          refine gj_aload_n (q := 174) (gj_dk okX12_reads_2 1 rfl) rfl rfl ?_
                          refine gj_gR (q := 177) (j := 12) (gj_dk okX12_reads_2 2 rfl) ff_X12_34 (sh79 hstS48) (by decide) rfl (rf79_12 hstS48) rfl ?_
                          refine gj_iconst (q := 178) (gj_dk okX12_reads_2 3 rfl) (by decide) rfl ?_
                          refine gj_aald (q := 179) (gj_dk okX12_reads_2 4 rfl) (sh97 hstS48) (by decide) (by decide) (by decide) (rf97_1 hstS48) rfl ?_
                          refine gj_iload_n (q := 180) (gj_dk okX12_reads_2 5 rfl) rfl rfl ?_
                          refine gj_aload_n (q := 181) (gj_dk okX12_reads_2 6 rfl) rfl rfl ?_
                          refine gj_iload_n (q := 182) (gj_dk okX12_reads_2 7 rfl) rfl rfl ?_
                          refine gj_iald (q := 183) (gj_dk okX12_reads_2 8 rfl) hsz49 (by omega) (by omega) rfl ?_
                          refine gj_iast (q := 184) (gj_dk okX12_reads_2 9 rfl) (sh99 hstS48) (by omega) (by omega) rfl ?_
                          refine gj_abs (fun M144 e146 => ?_)
                          have w145 : p_W [87, 90, 93, 96, 99, 102, 104, 105, 106] [3, 4, 5] M M144 := by rw [e146]; exact w113.up rfl
                          have g147 : M144 79 2 = 0 := by rw [e146, gj_upne (by omega)]; exact g115
                          have g148 : M144 79 5 = -1 := by rw [e146, gj_upne (by omega)]; exact g116
                          have g149 : M144 102 0 = 0 := by rw [e146, gj_upne (by omega)]; exact g117
                          have g150 : M144 102 1 = 0 := by rw [e146, gj_upne (by omega)]; exact g118
                          clear e146
                          refine gj_iinc (q := 187) (v := x110 + 1) (gj_dk okX12_reads_2 10 rfl) rfl (by decide) (gj_wle (by omega) (by omega)) rfl ?_
                          refine gj_goto (tgt := 167) (gj_dk okX12_reads_2 11 rfl) (by decide) ?_
                          refine gj_sub [(0, jR 79), (1, jR z49), (2, jI (x110 + 1))] ⟨rfl, rfl, rfl, trivial⟩ ?_
                          exact ih167 _ _ (by omega) w145 g147 g148 g149 g150 (by omega)
                    refine gj_sub [(0, jR 79), (1, jR z49), (2, jI 0)] ⟨rfl, rfl, rfl, trivial⟩ ?_
                    exact L167 _ _ _ (by omega) w104 g106 g107 g108 g109 (Nat.lt_succ_self _)
                  · -- 112
                    refine gj_aload_n (q := 113) (gj_dk okX12_reads_1 14 rfl) rfl rfl ?_
                    refine gj_gR (q := 116) (j := 17) (gj_dk okX12_reads_1 15 rfl) ff_X12_51 (sh79 hst) (by decide) rfl (rf79_17 hst) rfl ?_
                    refine gj_iload_n (q := 117) (gj_dk okX12_reads_1 16 rfl) rfl rfl ?_
                    refine gj_iconst (q := 118) (gj_dk okX12_reads_1 17 rfl) (by decide) rfl ?_
                    refine gj_zast (q := 119) (gj_dk okX12_reads_1 18 rfl) (sh106 hst) (by omega) (by omega) (by first | decide | assumption | omega) rfl ?_
                    refine gj_abs (fun M151 e153 => ?_)
                    have w152 : p_W [87, 90, 93, 96, 99, 102, 104, 105, 106] [3, 4, 5] M M151 := by rw [e153]; exact w40.up rfl
                    have g154 : M151 79 2 = 0 := by rw [e153, gj_upne (by omega)]; exact g42
                    have g155 : M151 79 5 = -1 := by rw [e153, gj_upne (by omega)]; exact g43
                    have g156 : M151 102 0 = 0 := by rw [e153, gj_upne (by omega)]; exact g44
                    have g157 : M151 102 1 = 0 := by rw [e153, gj_upne (by omega)]; exact g45
                    clear e153
                    refine gj_iinc (q := 122) (v := x37 + 1) (gj_dk okX12_reads_1 19 rfl) rfl (by decide) (gj_wle (by omega) (by omega)) rfl ?_
                    refine gj_goto (tgt := 106) (gj_dk okX12_reads_1 20 rfl) (by decide) ?_
                    refine gj_sub [(0, jR 79), (1, jI (x37 + 1))] ⟨rfl, rfl, trivial⟩ ?_
                    exact ih106 _ _ (by omega) w152 g154 g155 g156 g157 (by omega)
              refine gj_sub [(0, jR 79), (1, jI 0)] ⟨rfl, rfl, trivial⟩ ?_
              exact L106 _ _ _ (by omega) w31 g33 g34 g35 g36 (Nat.lt_succ_self _)
            · -- 81
              refine gj_aload_n (q := 82) (gj_dk okX12_reads_0 55 rfl) rfl rfl ?_
              refine gj_gR (q := 85) (j := 16) (gj_dk okX12_reads_0 56 rfl) ff_X12_48 (sh79 hst) (by decide) rfl (rf79_16 hst) rfl ?_
              refine gj_iload_n (q := 86) (gj_dk okX12_reads_0 57 rfl) rfl rfl ?_
              refine gj_iconst (q := 87) (gj_dk okX12_reads_0 58 rfl) (by decide) rfl ?_
              refine gj_zast (q := 88) (gj_dk okX12_reads_0 59 rfl) (sh105 hst) (by omega) (by omega) (by first | decide | assumption | omega) rfl ?_
              refine gj_abs (fun M158 e160 => ?_)
              have w159 : p_W [87, 90, 93, 96, 99, 102, 104, 105, 106] [3, 4, 5] M M158 := by rw [e160]; exact w31.up rfl
              have g161 : M158 79 2 = 0 := by rw [e160, gj_upne (by omega)]; exact g33
              have g162 : M158 79 5 = -1 := by rw [e160, gj_upne (by omega)]; exact g34
              have g163 : M158 102 0 = 0 := by rw [e160, gj_upne (by omega)]; exact g35
              have g164 : M158 102 1 = 0 := by rw [e160, gj_upne (by omega)]; exact g36
              clear e160
              refine gj_aload_n (q := 89) (gj_dk okX12_reads_1 0 rfl) rfl rfl ?_
              refine gj_gR (q := 92) (j := 11) (gj_dk okX12_reads_1 1 rfl) ff_X12_31 (sh79 hst) (by decide) rfl (rf79_11 hst) rfl ?_
              refine gj_iconst (q := 93) (gj_dk okX12_reads_1 2 rfl) (by decide) rfl ?_
              refine gj_aald (q := 94) (gj_dk okX12_reads_1 3 rfl) (sh94 hst) (by decide) (by decide) (by decide) (rf94_1 hst) rfl ?_
              refine gj_iload_n (q := 95) (gj_dk okX12_reads_1 4 rfl) rfl rfl ?_
              refine gj_bipush (q := 97) (gj_dk okX12_reads_1 5 rfl) (by decide) rfl rfl ?_
              refine gj_iast (q := 98) (gj_dk okX12_reads_1 6 rfl) (sh96 hst) (by omega) (by omega) rfl ?_
              refine gj_abs (fun M165 e167 => ?_)
              have w166 : p_W [87, 90, 93, 96, 99, 102, 104, 105, 106] [3, 4, 5] M M165 := by rw [e167]; exact w159.up rfl
              have g168 : M165 79 2 = 0 := by rw [e167, gj_upne (by omega)]; exact g161
              have g169 : M165 79 5 = -1 := by rw [e167, gj_upne (by omega)]; exact g162
              have g170 : M165 102 0 = 0 := by rw [e167, gj_upne (by omega)]; exact g163
              have g171 : M165 102 1 = 0 := by rw [e167, gj_upne (by omega)]; exact g164
              clear e167
              refine gj_iinc (q := 101) (v := x28 + 1) (gj_dk okX12_reads_1 7 rfl) rfl (by decide) (gj_wle (by omega) (by omega)) rfl ?_
              refine gj_goto (tgt := 75) (gj_dk okX12_reads_1 8 rfl) (by decide) ?_
              refine gj_sub [(0, jR 79), (1, jI (x28 + 1))] ⟨rfl, rfl, trivial⟩ ?_
              exact ih75 _ _ (by omega) w166 g168 g169 g170 g171 (by omega)
        refine gj_sub [(0, jR 79), (1, jI 0)] ⟨rfl, rfl, trivial⟩ ?_
        exact L75 _ _ _ (by omega) w22 g24 g25 g26 g27 (Nat.lt_succ_self _)
      · -- 31
        refine gj_aload_n (q := 32) (gj_dk okX12_reads_0 22 rfl) rfl rfl ?_
        refine gj_gR (q := 35) (j := 15) (gj_dk okX12_reads_0 23 rfl) ff_X12_44 (sh79 hst) (by decide) rfl (rf79_15 hst) rfl ?_
        refine gj_iload_n (q := 36) (gj_dk okX12_reads_0 24 rfl) rfl rfl ?_
        refine gj_iconst (q := 37) (gj_dk okX12_reads_0 25 rfl) (by decide) rfl ?_
        refine gj_zast (q := 38) (gj_dk okX12_reads_0 26 rfl) (sh104 hst) (by omega) (by omega) (by first | decide | assumption | omega) rfl ?_
        refine gj_abs (fun M172 e174 => ?_)
        have w173 : p_W [87, 90, 93, 96, 99, 102, 104, 105, 106] [3, 4, 5] M M172 := by rw [e174]; exact w22.up rfl
        have g175 : M172 79 2 = 0 := by rw [e174, gj_upne (by omega)]; exact g24
        have g176 : M172 79 5 = -1 := by rw [e174, gj_upne (by omega)]; exact g25
        have g177 : M172 102 0 = 0 := by rw [e174, gj_upne (by omega)]; exact g26
        have g178 : M172 102 1 = 0 := by rw [e174, gj_upne (by omega)]; exact g27
        clear e174
        refine gj_aload_n (q := 39) (gj_dk okX12_reads_0 27 rfl) rfl rfl ?_
        refine gj_gR (q := 42) (j := 8) (gj_dk okX12_reads_0 28 rfl) ff_X12_22 (sh79 hst) (by decide) rfl (rf79_8 hst) rfl ?_
        refine gj_iconst (q := 43) (gj_dk okX12_reads_0 29 rfl) (by decide) rfl ?_
        refine gj_aald (q := 44) (gj_dk okX12_reads_0 30 rfl) (sh85 hst) (by decide) (by decide) (by decide) (rf85_1 hst) rfl ?_
        refine gj_iload_n (q := 45) (gj_dk okX12_reads_0 31 rfl) rfl rfl ?_
        refine gj_bipush (q := 47) (gj_dk okX12_reads_0 32 rfl) (by decide) rfl rfl ?_
        refine gj_iast (q := 48) (gj_dk okX12_reads_0 33 rfl) (sh87 hst) (by omega) (by omega) rfl ?_
        refine gj_abs (fun M179 e181 => ?_)
        have w180 : p_W [87, 90, 93, 96, 99, 102, 104, 105, 106] [3, 4, 5] M M179 := by rw [e181]; exact w173.up rfl
        have g182 : M179 79 2 = 0 := by rw [e181, gj_upne (by omega)]; exact g175
        have g183 : M179 79 5 = -1 := by rw [e181, gj_upne (by omega)]; exact g176
        have g184 : M179 102 0 = 0 := by rw [e181, gj_upne (by omega)]; exact g177
        have g185 : M179 102 1 = 0 := by rw [e181, gj_upne (by omega)]; exact g178
        clear e181
        refine gj_aload_n (q := 49) (gj_dk okX12_reads_0 34 rfl) rfl rfl ?_
        refine gj_gR (q := 52) (j := 9) (gj_dk okX12_reads_0 35 rfl) ff_X12_25 (sh79 hst) (by decide) rfl (rf79_9 hst) rfl ?_
        refine gj_iconst (q := 53) (gj_dk okX12_reads_0 36 rfl) (by decide) rfl ?_
        refine gj_aald (q := 54) (gj_dk okX12_reads_0 37 rfl) (sh88 hst) (by decide) (by decide) (by decide) (rf88_1 hst) rfl ?_
        refine gj_iload_n (q := 55) (gj_dk okX12_reads_0 38 rfl) rfl rfl ?_
        refine gj_bipush (q := 57) (gj_dk okX12_reads_0 39 rfl) (by decide) rfl rfl ?_
        refine gj_iast (q := 58) (gj_dk okX12_reads_0 40 rfl) (sh90 hst) (by omega) (by omega) rfl ?_
        refine gj_abs (fun M186 e188 => ?_)
        have w187 : p_W [87, 90, 93, 96, 99, 102, 104, 105, 106] [3, 4, 5] M M186 := by rw [e188]; exact w180.up rfl
        have g189 : M186 79 2 = 0 := by rw [e188, gj_upne (by omega)]; exact g182
        have g190 : M186 79 5 = -1 := by rw [e188, gj_upne (by omega)]; exact g183
        have g191 : M186 102 0 = 0 := by rw [e188, gj_upne (by omega)]; exact g184
        have g192 : M186 102 1 = 0 := by rw [e188, gj_upne (by omega)]; exact g185
        clear e188
        refine gj_aload_n (q := 59) (gj_dk okX12_reads_0 41 rfl) rfl rfl ?_
        refine gj_gR (q := 62) (j := 10) (gj_dk okX12_reads_0 42 rfl) ff_X12_28 (sh79 hst) (by decide) rfl (rf79_10 hst) rfl ?_
        refine gj_iconst (q := 63) (gj_dk okX12_reads_0 43 rfl) (by decide) rfl ?_
        refine gj_aald (q := 64) (gj_dk okX12_reads_0 44 rfl) (sh91 hst) (by decide) (by decide) (by decide) (rf91_1 hst) rfl ?_
        refine gj_iload_n (q := 65) (gj_dk okX12_reads_0 45 rfl) rfl rfl ?_
        refine gj_iconst (q := 66) (gj_dk okX12_reads_0 46 rfl) (by decide) rfl ?_
        refine gj_iast (q := 67) (gj_dk okX12_reads_0 47 rfl) (sh93 hst) (by omega) (by omega) rfl ?_
        refine gj_abs (fun M193 e195 => ?_)
        have w194 : p_W [87, 90, 93, 96, 99, 102, 104, 105, 106] [3, 4, 5] M M193 := by rw [e195]; exact w187.up rfl
        have g196 : M193 79 2 = 0 := by rw [e195, gj_upne (by omega)]; exact g189
        have g197 : M193 79 5 = -1 := by rw [e195, gj_upne (by omega)]; exact g190
        have g198 : M193 102 0 = 0 := by rw [e195, gj_upne (by omega)]; exact g191
        have g199 : M193 102 1 = 0 := by rw [e195, gj_upne (by omega)]; exact g192
        clear e195
        refine gj_iinc (q := 70) (v := x19 + 1) (gj_dk okX12_reads_0 48 rfl) rfl (by decide) (gj_wle (by omega) (by omega)) rfl ?_
        refine gj_goto (tgt := 25) (gj_dk okX12_reads_0 49 rfl) (by decide) ?_
        refine gj_sub [(0, jR 79), (1, jI (x19 + 1))] ⟨rfl, rfl, trivial⟩ ?_
        exact ih25 _ _ (by omega) w194 g196 g197 g198 g199 (by omega)
  refine gj_sub [(0, jR 79), (1, jI 0)] ⟨rfl, rfl, trivial⟩ ?_
  exact L25 _ _ _ (by omega) w13 g15 g16 g17 g18 (Nat.lt_succ_self _)
set_option maxHeartbeats 4000000 in
set_option maxRecDepth 20000 in
theorem q_X12_who (hst : gj_Stat S) (h : p_F 79 [80, 81, 87, 90, 93, 96, 99, 102, 104, 105, 106] [2, 3, 4, 5] M)  (a1 : Int)  : gj_C G l 2 0 0 yX12_who cX12_who 3 (some .int) [jR 79, jI a1] S M (gj_qI fun x S' M' => -1 = x ∧ S = S' ∧ M = M') := by
  refine gj_Cof (by decide +kernel) (Nat.le_of_ble_eq_true rfl) ?_
  change gj_W G l 2 0 0 yX12_who cX12_who 3 (some .int) (gj_qI fun x S' M' => -1 = x ∧ S = S' ∧ M = M') 0 0 0 [(0, jR 79), (1, jI a1)] [] S M
  refine gj_iload_n (q := 1) (gj_dk okX12_who 0 rfl) rfl rfl ?_
  refine gj_i2l (q := 2) (gj_dk okX12_who 1 rfl) rfl ?_
  refine gj_lconst (q := 3) (z := 0) (gj_dk okX12_who 2 rfl) rfl (by decide) rfl ?_
  refine gj_ldc2 (q := 6) (z := 3) (gj_dk okX12_who 3 rfl) kl_X12_236 (by decide) rfl ?_
  refine gj_callS (q := 9) [jL a1, jL 0, jL 3] rfl (q_X12_in hst (h.of p_W.rf rfl) _ _ _) (gj_dk okX12_who 4 rfl) ml_X12_158 me_X12_in (gj_nm rfl) rfl (gj_kI fun x2 S2 M2 h1 => ?_)
  obtain ⟨ex2, eS, eM⟩ := h1; subst eS; subst eM; subst ex2
  by_cases i6 : 0 ≤ a1 ∧ a1 ≤ 3
  · rw [show f_in a1 0 3 = 1 from if_pos i6]
    refine gj_if_eq (q := 12) (tgt := 16) (gj_dk okX12_who 5 rfl) (by decide) rfl (fun cc => absurd cc (by decide)) (fun _ => ?_)
    refine gj_iload_n (q := 13) (gj_dk okX12_who 6 rfl) rfl rfl ?_
    refine gj_goto (tgt := 38) (gj_dk okX12_who 7 rfl) (by decide) ?_
    refine gj_istore_n (q := 39) (gj_dk okX12_who 19 rfl) (by decide) rfl ?_
    refine gj_aload_n (q := 40) (gj_dk okX12_who 20 rfl) rfl rfl ?_
    refine gj_gZ (q := 43) (j := 18) (gj_dk okX12_who 21 rfl) ff_X12_260 (sh79 hst) (by decide) rfl rfl ?_
    rw [show M 79 18 = 0 from (h.get 79 18 rfl rfl rfl (v := 0) (by decide))]
    refine gj_if_eq (q := 46) (tgt := 71) (gj_dk okX12_who 22 rfl) (by decide) rfl (fun _ => ?_) (fun cc => absurd cc (by decide))
    refine gj_iconst (q := 72) (gj_dk okX12_who 40 rfl) (by decide) rfl ?_
    exact gj_iret (gj_dk okX12_who 41 rfl) rfl ⟨_, rfl, rfl, rfl, rfl⟩
  · rw [show f_in a1 0 3 = 0 from if_neg i6]
    refine gj_if_eq (q := 12) (tgt := 16) (gj_dk okX12_who 5 rfl) (by decide) rfl (fun _ => ?_) (fun cc => absurd cc (by decide))
    refine gj_iload_n (q := 17) (gj_dk okX12_who 8 rfl) rfl rfl ?_
    refine gj_i2l (q := 18) (gj_dk okX12_who 9 rfl) rfl ?_
    refine gj_ldc2 (q := 21) (z := 10) (gj_dk okX12_who 10 rfl) kl_X12_277 (by decide) rfl ?_
    refine gj_ldc2 (q := 24) (z := 13) (gj_dk okX12_who 11 rfl) kl_X12_279 (by decide) rfl ?_
    refine gj_callS (q := 27) [jL a1, jL 10, jL 13] rfl (q_X12_in hst (h.of p_W.rf rfl) _ _ _) (gj_dk okX12_who 12 rfl) ml_X12_158 me_X12_in (gj_nm rfl) rfl (gj_kI fun x4 S2 M2 h3 => ?_)
    obtain ⟨ex4, eS, eM⟩ := h3; subst eS; subst eM; subst ex4
    by_cases i24 : 10 ≤ a1 ∧ a1 ≤ 13
    · rw [show f_in a1 10 13 = 1 from if_pos i24]
      refine gj_if_eq (q := 30) (tgt := 37) (gj_dk okX12_who 13 rfl) (by decide) rfl (fun cc => absurd cc (by decide)) (fun _ => ?_)
      refine gj_iload_n (q := 31) (gj_dk okX12_who 14 rfl) rfl rfl ?_
      refine gj_bipush (q := 33) (gj_dk okX12_who 15 rfl) (by decide) rfl rfl ?_
      refine gj_isub (q := 34) (gj_dk okX12_who 16 rfl) rfl ?_
      refine gj_goto (tgt := 38) (gj_dk okX12_who 17 rfl) (by decide) ?_
      refine gj_istore_n (q := 39) (gj_dk okX12_who 19 rfl) (by decide) rfl ?_
      refine gj_aload_n (q := 40) (gj_dk okX12_who 20 rfl) rfl rfl ?_
      refine gj_gZ (q := 43) (j := 18) (gj_dk okX12_who 21 rfl) ff_X12_260 (sh79 hst) (by decide) rfl rfl ?_
      rw [show M 79 18 = 0 from (h.get 79 18 rfl rfl rfl (v := 0) (by decide))]
      refine gj_if_eq (q := 46) (tgt := 71) (gj_dk okX12_who 22 rfl) (by decide) rfl (fun _ => ?_) (fun cc => absurd cc (by decide))
      refine gj_iconst (q := 72) (gj_dk okX12_who 40 rfl) (by decide) rfl ?_
      exact gj_iret (gj_dk okX12_who 41 rfl) rfl ⟨_, rfl, rfl, rfl, rfl⟩
    · rw [show f_in a1 10 13 = 0 from if_neg i24]
      refine gj_if_eq (q := 30) (tgt := 37) (gj_dk okX12_who 13 rfl) (by decide) rfl (fun _ => ?_) (fun cc => absurd cc (by decide))
      refine gj_iconst (q := 38) (gj_dk okX12_who 18 rfl) (by decide) rfl ?_
      refine gj_istore_n (q := 39) (gj_dk okX12_who 19 rfl) (by decide) rfl ?_
      refine gj_aload_n (q := 40) (gj_dk okX12_who 20 rfl) rfl rfl ?_
      refine gj_gZ (q := 43) (j := 18) (gj_dk okX12_who 21 rfl) ff_X12_260 (sh79 hst) (by decide) rfl rfl ?_
      rw [show M 79 18 = 0 from (h.get 79 18 rfl rfl rfl (v := 0) (by decide))]
      refine gj_if_eq (q := 46) (tgt := 71) (gj_dk okX12_who 22 rfl) (by decide) rfl (fun _ => ?_) (fun cc => absurd cc (by decide))
      refine gj_iconst (q := 72) (gj_dk okX12_who 40 rfl) (by decide) rfl ?_
      exact gj_iret (gj_dk okX12_who 41 rfl) rfl ⟨_, rfl, rfl, rfl, rfl⟩
set_option maxHeartbeats 4000000 in
set_option maxRecDepth 20000 in
theorem q_X12_areTwo (hst : gj_Stat S) (h : p_F 79 [80, 81, 87, 90, 93, 96, 99, 102, 104, 105, 106] [2, 3, 4, 5] M)   : gj_C G l 1 0 0 yX12_areTwo cX12_areTwo 2 (some .boolean) [jI (-1), jI (-1)] S M (gj_qI fun x S' M' => 0 = x ∧ S = S' ∧ M = M') := by
  refine gj_Cof (by decide +kernel) (Nat.le_of_ble_eq_true rfl) ?_
  change gj_W G l 1 0 0 yX12_areTwo cX12_areTwo 2 (some .boolean) (gj_qI fun x S' M' => 0 = x ∧ S = S' ∧ M = M') 0 0 0 [(0, jI (-1)), (1, jI (-1))] [] S M
  refine gj_iload_n (q := 1) (gj_dk okX12_areTwo 0 rfl) rfl rfl ?_
  refine gj_iconst (q := 2) (gj_dk okX12_areTwo 1 rfl) (by decide) rfl ?_
  refine gj_icmp_eq (q := 5) (tgt := 23) (gj_dk okX12_areTwo 2 rfl) (by decide) rfl (fun _ => ?_) (fun cc => absurd cc (by decide))
  refine gj_iconst (q := 24) (gj_dk okX12_areTwo 15 rfl) (by decide) rfl ?_
  exact gj_zret (gj_dk okX12_areTwo 16 rfl) rfl (by first | decide | assumption | omega) ⟨_, rfl, rfl, rfl, rfl⟩
set_option maxHeartbeats 4000000 in
set_option maxRecDepth 20000 in
theorem q_X12_areMays (hst : gj_Stat S) (h : p_F 79 [80, 81, 87, 90, 93, 96, 99, 102, 104, 105, 106] [2, 3, 4, 5] M)  (a1 : Int)  : gj_C G l 2 0 0 yX12_areMays cX12_areMays 1 (some .boolean) [jI a1] S M (gj_qI fun x S' M' => f_in a1 1 4 = x ∧ S = S' ∧ M = M') := by
  refine gj_Cof (by decide +kernel) (Nat.le_of_ble_eq_true rfl) ?_
  change gj_W G l 2 0 0 yX12_areMays cX12_areMays 1 (some .boolean) (gj_qI fun x S' M' => f_in a1 1 4 = x ∧ S = S' ∧ M = M') 0 0 0 [(0, jI a1)] [] S M
  refine gj_iload_n (q := 1) (gj_dk okX12_areMays 0 rfl) rfl rfl ?_
  refine gj_i2l (q := 2) (gj_dk okX12_areMays 1 rfl) rfl ?_
  refine gj_lconst (q := 3) (z := 1) (gj_dk okX12_areMays 2 rfl) rfl (by decide) rfl ?_
  refine gj_ldc2 (q := 6) (z := 4) (gj_dk okX12_areMays 3 rfl) kl_X12_351 (by decide) rfl ?_
  refine gj_callS (q := 9) [jL a1, jL 1, jL 4] rfl (q_X12_in hst (h.of p_W.rf rfl) _ _ _) (gj_dk okX12_areMays 4 rfl) ml_X12_158 me_X12_in (gj_nm rfl) rfl (gj_kI fun x2 S2 M2 h1 => ?_)
  obtain ⟨ex2, eS, eM⟩ := h1; subst eS; subst eM; subst ex2
  by_cases i6 : 1 ≤ a1 ∧ a1 ≤ 4
  · rw [show f_in a1 1 4 = 1 from if_pos i6]
    exact gj_zret (gj_dk okX12_areMays 5 rfl) rfl (by first | decide | assumption | omega) ⟨_, rfl, (by first | rfl | omega | ((repeat' split) <;> omega)), rfl, rfl⟩
  · rw [show f_in a1 1 4 = 0 from if_neg i6]
    exact gj_zret (gj_dk okX12_areMays 5 rfl) rfl (by first | decide | assumption | omega) ⟨_, rfl, (by first | rfl | omega | ((repeat' split) <;> omega)), rfl, rfl⟩
set_option maxHeartbeats 4000000 in
set_option maxRecDepth 20000 in
theorem q_X12_feed (hst : gj_Stat S) (h : p_F 79 [] [] M)  (a1 a2 a3 a4 a5 : Int)  : gj_C G l 2 0 0 yX12_feed cX12_feed 6 (some .int) [jR 79, jI a1, jI a2, jI a3, jI a4, jI a5] S M (gj_qI fun x S' M' => 20 = x ∧ S = S' ∧ p_W [81] [2] M M') := by
  refine gj_Cof (by decide +kernel) (Nat.le_of_ble_eq_true rfl) ?_
  change gj_W G l 2 0 0 yX12_feed cX12_feed 6 (some .int) (gj_qI fun x S' M' => 20 = x ∧ S = S' ∧ p_W [81] [2] M M') 0 0 0 [(0, jR 79), (1, jI a1), (2, jI a2), (3, jI a3), (4, jI a4), (5, jI a5)] [] S M
  have w0 : p_W [81] [2] M M := fun _ _ _ _ _ => rfl
  refine gj_aload_n (q := 1) (gj_dk okX12_feed 0 rfl) rfl rfl ?_
  refine gj_gI (q := 4) (j := 2) (gj_dk okX12_feed 1 rfl) ff_X12_162 (sh79 hst) (by decide) rfl rfl ?_
  rw [show M 79 2 = 0 from (h.get 79 2 rfl rfl rfl (v := 0) (by decide))]
  refine gj_bipush (q := 6) (gj_dk okX12_feed 2 rfl) (by decide) rfl rfl ?_
  refine gj_iaddX (q := 7) (gj_dk okX12_feed 3 rfl) (by decide) rfl ?_
  rw [show (0 + 20 : Int) = 20 from rfl]
  refine gj_sipush (q := 10) (gj_dk okX12_feed 4 rfl) (by decide) rfl rfl ?_
  refine gj_icmp_le (q := 13) (tgt := 19) (gj_dk okX12_feed 5 rfl) (by decide) rfl (fun _ => ?_) (fun cc => absurd cc (by decide))
  refine gj_aload_n (q := 20) (gj_dk okX12_feed 10 rfl) rfl rfl ?_
  refine gj_iload_n (q := 21) (gj_dk okX12_feed 11 rfl) rfl rfl ?_
  refine gj_callV (q := 24) (z := 79) (ci := 10) [jI a1] rfl (q_X12_feeds hst (h.of p_W.rf rfl) (h.get 79 2 rfl rfl rfl (v := 0) (by decide)) _ (by first | decide | omega)) (gj_dk okX12_feed 12 rfl) ml_X12_169 me_X12_feeds (sh79 hst) rfl (gj_nm rfl) rfl (gj_kV fun S2 M2 h1 => ?_)
  obtain ⟨eS, wc, fo0⟩ := h1
  subst eS
  have w4 : p_W [81] [2] M M2 := w0.trans (wc.wide rfl)
  have g5 : M2 79 2 = 4 := fo0
  clear wc fo0
  generalize M2 = M3 at *
  refine gj_aload_n (q := 25) (gj_dk okX12_feed 13 rfl) rfl rfl ?_
  refine gj_iload_n (q := 26) (gj_dk okX12_feed 14 rfl) rfl rfl ?_
  refine gj_callV (q := 29) (z := 79) (ci := 10) [jI a2] rfl (q_X12_feeds hst (h.of w4 rfl) g5 _ (by first | decide | omega)) (gj_dk okX12_feed 15 rfl) ml_X12_169 me_X12_feeds (sh79 hst) rfl (gj_nm rfl) rfl (gj_kV fun S2 M2 h6 => ?_)
  obtain ⟨eS, wc, fo0⟩ := h6
  subst eS
  have w9 : p_W [81] [2] M M2 := w4.trans (wc.wide rfl)
  have g10 : M2 79 2 = 8 := fo0
  clear wc fo0
  generalize M2 = M8 at *
  refine gj_aload_n (q := 30) (gj_dk okX12_feed 16 rfl) rfl rfl ?_
  refine gj_iload_n (q := 31) (gj_dk okX12_feed 17 rfl) rfl rfl ?_
  refine gj_callV (q := 34) (z := 79) (ci := 10) [jI a3] rfl (q_X12_feeds hst (h.of w9 rfl) g10 _ (by first | decide | omega)) (gj_dk okX12_feed 18 rfl) ml_X12_169 me_X12_feeds (sh79 hst) rfl (gj_nm rfl) rfl (gj_kV fun S2 M2 h11 => ?_)
  obtain ⟨eS, wc, fo0⟩ := h11
  subst eS
  have w14 : p_W [81] [2] M M2 := w9.trans (wc.wide rfl)
  have g15 : M2 79 2 = 12 := fo0
  clear wc fo0
  generalize M2 = M13 at *
  refine gj_aload_n (q := 35) (gj_dk okX12_feed 19 rfl) rfl rfl ?_
  refine gj_iload (q := 37) (gj_dk okX12_feed 20 rfl) rfl rfl ?_
  refine gj_callV (q := 40) (z := 79) (ci := 10) [jI a4] rfl (q_X12_feeds hst (h.of w14 rfl) g15 _ (by first | decide | omega)) (gj_dk okX12_feed 21 rfl) ml_X12_169 me_X12_feeds (sh79 hst) rfl (gj_nm rfl) rfl (gj_kV fun S2 M2 h16 => ?_)
  obtain ⟨eS, wc, fo0⟩ := h16
  subst eS
  have w19 : p_W [81] [2] M M2 := w14.trans (wc.wide rfl)
  have g20 : M2 79 2 = 16 := fo0
  clear wc fo0
  generalize M2 = M18 at *
  refine gj_aload_n (q := 41) (gj_dk okX12_feed 22 rfl) rfl rfl ?_
  refine gj_iload (q := 43) (gj_dk okX12_feed 23 rfl) rfl rfl ?_
  refine gj_callV (q := 46) (z := 79) (ci := 10) [jI a5] rfl (q_X12_feeds hst (h.of w19 rfl) g20 _ (by first | decide | omega)) (gj_dk okX12_feed 24 rfl) ml_X12_169 me_X12_feeds (sh79 hst) rfl (gj_nm rfl) rfl (gj_kV fun S2 M2 h21 => ?_)
  obtain ⟨eS, wc, fo0⟩ := h21
  subst eS
  have w24 : p_W [81] [2] M M2 := w19.trans (wc.wide rfl)
  have g25 : M2 79 2 = 20 := fo0
  clear wc fo0
  generalize M2 = M23 at *
  refine gj_aload_n (q := 47) (gj_dk okX12_feed 25 rfl) rfl rfl ?_
  refine gj_gI (q := 50) (j := 2) (gj_dk okX12_feed 26 rfl) ff_X12_162 (sh79 hst) (by decide) rfl rfl ?_
  rw [show M23 79 2 = 20 from g25]
  exact gj_iret (gj_dk okX12_feed 27 rfl) rfl ⟨_, rfl, rfl, rfl, w24⟩
set_option maxHeartbeats 4000000 in
set_option maxRecDepth 20000 in
theorem q_X12_end (hst : gj_Stat S) (h : p_F 79 [] [] M)  (a1 : Int)  : gj_C G l 2 0 0 yX12_end cX12_end 2 (some .boolean) [jR 79, jI a1] S M (gj_qI fun x S' M' => (if a1 = 0 then 1 else 0) = x ∧ S = S' ∧ p_W [80] [2] M M') := by
  refine gj_Cof (by decide +kernel) (Nat.le_of_ble_eq_true rfl) ?_
  change gj_W G l 2 0 0 yX12_end cX12_end 2 (some .boolean) (gj_qI fun x S' M' => (if a1 = 0 then 1 else 0) = x ∧ S = S' ∧ p_W [80] [2] M M') 0 0 0 [(0, jR 79), (1, jI a1)] [] S M
  have w0 : p_W [80] [2] M M := fun _ _ _ _ _ => rfl
  refine gj_iload_n (q := 1) (gj_dk okX12_end 0 rfl) rfl rfl ?_
  refine gj_i2l (q := 2) (gj_dk okX12_end 1 rfl) rfl ?_
  refine gj_lconst (q := 3) (z := 0) (gj_dk okX12_end 2 rfl) rfl (by decide) rfl ?_
  refine gj_aload_n (q := 4) (gj_dk okX12_end 3 rfl) rfl rfl ?_
  refine gj_gI (q := 7) (j := 2) (gj_dk okX12_end 4 rfl) ff_X12_162 (sh79 hst) (by decide) rfl rfl ?_
  rw [show M 79 2 = 0 from (h.get 79 2 rfl rfl rfl (v := 0) (by decide))]
  refine gj_i2l (q := 8) (gj_dk okX12_end 5 rfl) rfl ?_
  refine gj_callS (q := 11) [jL a1, jL 0, jL 0] rfl (q_X12_in hst (h.of p_W.rf rfl) _ _ _) (gj_dk okX12_end 6 rfl) ml_X12_158 me_X12_in (gj_nm rfl) rfl (gj_kI fun x2 S2 M2 h1 => ?_)
  obtain ⟨ex2, eS, eM⟩ := h1; subst eS; subst eM; subst ex2
  by_cases i8 : 0 ≤ a1 ∧ a1 ≤ 0
  · rw [show f_in a1 0 0 = 1 from if_pos i8]
    refine gj_if_ne (q := 14) (tgt := 20) (gj_dk okX12_end 7 rfl) (by decide) rfl (fun _ => ?_) (fun cc => absurd cc (by decide))
    refine gj_aload_n (q := 21) (gj_dk okX12_end 12 rfl) rfl rfl ?_
    refine gj_iload_n (q := 22) (gj_dk okX12_end 13 rfl) rfl rfl ?_
    refine gj_pfI (q := 25) (j := 2) (gj_dk okX12_end 14 rfl) ff_X12_162 (sh79 hst) (by decide) rfl rfl ?_
    refine gj_abs (fun M3 e5 => ?_)
    have w4 : p_W [80] [2] M M3 := by rw [e5]; exact w0.up rfl
    clear e5
    refine gj_iconst (q := 26) (gj_dk okX12_end 15 rfl) (by decide) rfl ?_
    exact gj_zret (gj_dk okX12_end 16 rfl) rfl (by first | decide | assumption | omega) ⟨_, rfl, (by first | rfl | omega | ((repeat' split) <;> omega)), rfl, w4⟩
  · rw [show f_in a1 0 0 = 0 from if_neg i8]
    refine gj_if_ne (q := 14) (tgt := 20) (gj_dk okX12_end 7 rfl) (by decide) rfl (fun cc => absurd cc (by decide)) (fun _ => ?_)
    refine gj_aload_n (q := 15) (gj_dk okX12_end 8 rfl) rfl rfl ?_
    refine gj_iconst (q := 16) (gj_dk okX12_end 9 rfl) (by decide) rfl ?_
    refine gj_callV (q := 19) (z := 79) (ci := 10) [jI 2] rfl (q_X12_deny hst (h.of p_W.rf rfl)  _ (by first | decide | omega)) (gj_dk okX12_end 10 rfl) ml_X12_173 me_X12_deny (sh79 hst) rfl (gj_nm rfl) rfl (gj_kI fun x7 S2 M2 h6 => ?_)
    obtain ⟨ex7, eS, wc⟩ := h6
    subst eS
    have w9 : p_W [80] [2] M M2 := w0.trans (wc.wide rfl)
    have g10 : M2 79 2 = 0 := (wc 79 2 rfl rfl rfl).trans (h.get 79 2 rfl rfl rfl (v := 0) (by decide))
    clear wc 
    generalize M2 = M8 at *
    subst ex7
    exact gj_zret (gj_dk okX12_end 11 rfl) rfl (by first | decide | assumption | omega) ⟨_, rfl, (by first | rfl | omega | ((repeat' split) <;> omega)), rfl, w9⟩
set_option maxHeartbeats 4000000 in
set_option maxRecDepth 20000 in
theorem q_X12_fault (hst : gj_Stat S) (h : p_F 79 [] [] M)   : gj_C G l 4 1 8 yX12_fault cX12_fault 1 (some .int) [jR 79] S M (gj_qI fun x S' M' => 0 = x ∧ gj_Stat S' ∧ p_W [87, 90, 93, 96, 99, 102, 104, 105, 106] [3, 4, 5] M M') := by
  refine gj_Cof (by decide +kernel) (Nat.le_of_ble_eq_true rfl) ?_
  change gj_W G l 4 1 8 yX12_fault cX12_fault 1 (some .int) (gj_qI fun x S' M' => 0 = x ∧ gj_Stat S' ∧ p_W [87, 90, 93, 96, 99, 102, 104, 105, 106] [3, 4, 5] M M') 0 0 0 [(0, jR 79)] [] S M
  have w0 : p_W [87, 90, 93, 96, 99, 102, 104, 105, 106] [3, 4, 5] M M := fun _ _ _ _ _ => rfl
  refine gj_aload_n (q := 1) (gj_dk okX12_fault 0 rfl) rfl rfl ?_
  refine gj_callV (q := 4) (z := 79) (ci := 10) [] rfl (q_X12_reads hst (h.of p_W.rf rfl) (h.get 79 2 rfl rfl rfl (v := 0) (by decide))  ) (gj_dk okX12_fault 1 rfl) ml_X12_253 me_X12_reads (sh79 hst) rfl (gj_nm rfl) rfl (gj_kV fun S2 M2 h1 => ?_)
  obtain ⟨eS, wc, fo0⟩ := h1
  generalize S2 = S3 at eS ⊢
  have hstS3 := eS
  have w5 : p_W [87, 90, 93, 96, 99, 102, 104, 105, 106] [3, 4, 5] M M2 := w0.trans (wc.wide rfl)
  have g6 : M2 79 5 = 0 := fo0
  clear wc fo0
  generalize M2 = M4 at *
  refine gj_aload_n (q := 5) (gj_dk okX12_fault 2 rfl) rfl rfl ?_
  refine gj_gI (q := 8) (j := 5) (gj_dk okX12_fault 3 rfl) ff_X12_187 (sh79 hstS3) (by decide) rfl rfl ?_
  rw [show M4 79 5 = 0 from g6]
  exact gj_iret (gj_dk okX12_fault 4 rfl) rfl ⟨_, rfl, rfl, hstS3, w5⟩
set_option maxHeartbeats 4000000 in
set_option maxRecDepth 20000 in
theorem q_X12_village (hst : gj_Stat S) (h : p_F 79 [] [] M)   : gj_C G l 4 1 8 yX12_village cX12_village 2 (some .int) [jR 79] S M (gj_qI fun x S' M' => -1 = x ∧ gj_Stat S' ∧ p_W [87, 90, 93, 96, 99, 102, 104, 105, 106, 80] [3, 4, 5] M M') := by
  refine gj_Cof (by decide +kernel) (Nat.le_of_ble_eq_true rfl) ?_
  change gj_W G l 4 1 8 yX12_village cX12_village 2 (some .int) (gj_qI fun x S' M' => -1 = x ∧ gj_Stat S' ∧ p_W [87, 90, 93, 96, 99, 102, 104, 105, 106, 80] [3, 4, 5] M M') 0 0 0 [(0, jR 79)] [] S M
  have w0 : p_W [87, 90, 93, 96, 99, 102, 104, 105, 106, 80] [3, 4, 5] M M := fun _ _ _ _ _ => rfl
  refine gj_aload_n (q := 1) (gj_dk okX12_village 0 rfl) rfl rfl ?_
  refine gj_callV (q := 4) (z := 79) (ci := 10) [] rfl (q_X12_reads hst (h.of p_W.rf rfl) (h.get 79 2 rfl rfl rfl (v := 0) (by decide))  ) (gj_dk okX12_village 1 rfl) ml_X12_253 me_X12_reads (sh79 hst) rfl (gj_nm rfl) rfl (gj_kV fun S2 M2 h1 => ?_)
  obtain ⟨eS, wc, fo0⟩ := h1
  generalize S2 = S3 at eS ⊢
  have hstS3 := eS
  have w5 : p_W [87, 90, 93, 96, 99, 102, 104, 105, 106, 80] [3, 4, 5] M M2 := w0.trans (wc.wide rfl)
  have g6 : M2 79 5 = 0 := fo0
  clear wc fo0
  generalize M2 = M4 at *
  refine gj_aload_n (q := 5) (gj_dk okX12_village 2 rfl) rfl rfl ?_
  refine gj_gI (q := 8) (j := 5) (gj_dk okX12_village 3 rfl) ff_X12_187 (sh79 hstS3) (by decide) rfl rfl ?_
  rw [show M4 79 5 = 0 from g6]
  refine gj_iconst (q := 9) (gj_dk okX12_village 4 rfl) (by decide) rfl ?_
  refine gj_icmp_eq (q := 12) (tgt := 18) (gj_dk okX12_village 5 rfl) (by decide) rfl (fun cc => absurd cc (by decide)) (fun _ => ?_)
  refine gj_aload_n (q := 13) (gj_dk okX12_village 6 rfl) rfl rfl ?_
  refine gj_iconst (q := 14) (gj_dk okX12_village 7 rfl) (by decide) rfl ?_
  refine gj_callV (q := 17) (z := 79) (ci := 10) [jI 2] rfl (q_X12_refuse hstS3 (h.of w5 rfl)  _ (by first | decide | omega)) (gj_dk okX12_village 8 rfl) ml_X12_165 me_X12_refuse (sh79 hstS3) rfl (gj_nm rfl) rfl (gj_kI fun x8 S2 M2 h7 => ?_)
  obtain ⟨ex8, eS, wc⟩ := h7
  subst eS
  have w10 : p_W [87, 90, 93, 96, 99, 102, 104, 105, 106, 80] [3, 4, 5] M M2 := w5.trans (wc.wide rfl)
  have g11 : M2 79 5 = 0 := (wc 79 5 rfl rfl rfl).trans g6
  clear wc 
  generalize M2 = M9 at *
  subst ex8
  exact gj_iret (gj_dk okX12_village 9 rfl) rfl ⟨_, rfl, rfl, hstS3, w10⟩
set_option maxHeartbeats 4000000 in
set_option maxRecDepth 20000 in
theorem q_X12_person (hst : gj_Stat S) (h : p_F 79 [] [] M)  (a1 a2 : Int)  : gj_C G l 3 0 0 yX12_person cX12_person 4 (some .int) [jR 79, jI a1, jI a2] S M (gj_qI fun x S' M' => -2147483648 = x ∧ S = S' ∧ M = M') := by
  refine gj_Cof (by decide +kernel) (Nat.le_of_ble_eq_true rfl) ?_
  change gj_W G l 3 0 0 yX12_person cX12_person 4 (some .int) (gj_qI fun x S' M' => -2147483648 = x ∧ S = S' ∧ M = M') 0 0 0 [(0, jR 79), (1, jI a1), (2, jI a2)] [] S M
  refine gj_aload_n (q := 1) (gj_dk okX12_person 0 rfl) rfl rfl ?_
  refine gj_iload_n (q := 2) (gj_dk okX12_person 1 rfl) rfl rfl ?_
  refine gj_callV (q := 5) (z := 79) (ci := 10) [jI a1] rfl (q_X12_who hst (h.of p_W.rf rfl)  _ ) (gj_dk okX12_person 2 rfl) ml_X12_281 me_X12_who (sh79 hst) rfl (gj_nm rfl) rfl (gj_kI fun x2 S2 M2 h1 => ?_)
  obtain ⟨ex2, eS, eM⟩ := h1
  subst eS
  subst eM
  subst ex2
  refine gj_istore_n (q := 6) (gj_dk okX12_person 3 rfl) (by decide) rfl ?_
  refine gj_iload_n (q := 7) (gj_dk okX12_person 4 rfl) rfl rfl ?_
  refine gj_iconst (q := 8) (gj_dk okX12_person 5 rfl) (by decide) rfl ?_
  refine gj_icmp_ne (q := 11) (tgt := 15) (gj_dk okX12_person 6 rfl) (by decide) rfl (fun cc => absurd cc (by decide)) (fun _ => ?_)
  refine gj_ldcw (q := 14) (z := -2147483648) (gj_dk okX12_person 7 rfl) kc_X12_284 (by decide) rfl ?_
  exact gj_iret (gj_dk okX12_person 8 rfl) rfl ⟨_, rfl, rfl, rfl, rfl⟩
set_option maxHeartbeats 4000000 in
set_option maxRecDepth 20000 in
theorem q_X12_earned (hst : gj_Stat S) (h : p_F 79 [] [] M)  (a1 : Int)  : gj_C G l 3 0 0 yX12_earned cX12_earned 3 (some .int) [jR 79, jI a1] S M (gj_qI fun x S' M' => -2147483648 = x ∧ S = S' ∧ M = M') := by
  refine gj_Cof (by decide +kernel) (Nat.le_of_ble_eq_true rfl) ?_
  change gj_W G l 3 0 0 yX12_earned cX12_earned 3 (some .int) (gj_qI fun x S' M' => -2147483648 = x ∧ S = S' ∧ M = M') 0 0 0 [(0, jR 79), (1, jI a1)] [] S M
  refine gj_aload_n (q := 1) (gj_dk okX12_earned 0 rfl) rfl rfl ?_
  refine gj_iload_n (q := 2) (gj_dk okX12_earned 1 rfl) rfl rfl ?_
  refine gj_callV (q := 5) (z := 79) (ci := 10) [jI a1] rfl (q_X12_who hst (h.of p_W.rf rfl)  _ ) (gj_dk okX12_earned 2 rfl) ml_X12_281 me_X12_who (sh79 hst) rfl (gj_nm rfl) rfl (gj_kI fun x2 S2 M2 h1 => ?_)
  obtain ⟨ex2, eS, eM⟩ := h1
  subst eS
  subst eM
  subst ex2
  refine gj_istore_n (q := 6) (gj_dk okX12_earned 3 rfl) (by decide) rfl ?_
  refine gj_iload_n (q := 7) (gj_dk okX12_earned 4 rfl) rfl rfl ?_
  refine gj_iconst (q := 8) (gj_dk okX12_earned 5 rfl) (by decide) rfl ?_
  refine gj_icmp_ne (q := 11) (tgt := 17) (gj_dk okX12_earned 6 rfl) (by decide) rfl (fun cc => absurd cc (by decide)) (fun _ => ?_)
  refine gj_ldcw (q := 14) (z := -2147483648) (gj_dk okX12_earned 7 rfl) kc_X12_284 (by decide) rfl ?_
  refine gj_goto (tgt := 23) (gj_dk okX12_earned 8 rfl) (by decide) ?_
  exact gj_iret (gj_dk okX12_earned 13 rfl) rfl ⟨_, rfl, rfl, rfl, rfl⟩
set_option maxHeartbeats 4000000 in
set_option maxRecDepth 20000 in
theorem q_X12_two_ (hst : gj_Stat S) (h : p_F 79 [] [] M)  (a1 a2 a3 : Int)  : gj_C G l 3 0 0 yX12_two_ cX12_two_ 7 (some .int) [jR 79, jI a1, jI a2, jI a3] S M (gj_qI fun x S' M' => -1 = x ∧ S = S' ∧ M = M') := by
  refine gj_Cof (by decide +kernel) (Nat.le_of_ble_eq_true rfl) ?_
  change gj_W G l 3 0 0 yX12_two_ cX12_two_ 7 (some .int) (gj_qI fun x S' M' => -1 = x ∧ S = S' ∧ M = M') 0 0 0 [(0, jR 79), (1, jI a1), (2, jI a2), (3, jI a3)] [] S M
  refine gj_aload_n (q := 1) (gj_dk okX12_two_ 0 rfl) rfl rfl ?_
  refine gj_iload_n (q := 2) (gj_dk okX12_two_ 1 rfl) rfl rfl ?_
  refine gj_callV (q := 5) (z := 79) (ci := 10) [jI a1] rfl (q_X12_who hst (h.of p_W.rf rfl)  _ ) (gj_dk okX12_two_ 2 rfl) ml_X12_281 me_X12_who (sh79 hst) rfl (gj_nm rfl) rfl (gj_kI fun x2 S2 M2 h1 => ?_)
  obtain ⟨ex2, eS, eM⟩ := h1
  subst eS
  subst eM
  subst ex2
  refine gj_istore (q := 7) (gj_dk okX12_two_ 3 rfl) (by decide) rfl ?_
  refine gj_aload_n (q := 8) (gj_dk okX12_two_ 4 rfl) rfl rfl ?_
  refine gj_iload_n (q := 9) (gj_dk okX12_two_ 5 rfl) rfl rfl ?_
  refine gj_callV (q := 12) (z := 79) (ci := 10) [jI a2] rfl (q_X12_who hst (h.of p_W.rf rfl)  _ ) (gj_dk okX12_two_ 6 rfl) ml_X12_281 me_X12_who (sh79 hst) rfl (gj_nm rfl) rfl (gj_kI fun x4 S2 M2 h3 => ?_)
  obtain ⟨ex4, eS, eM⟩ := h3
  subst eS
  subst eM
  subst ex4
  refine gj_istore (q := 14) (gj_dk okX12_two_ 7 rfl) (by decide) rfl ?_
  refine gj_iload (q := 16) (gj_dk okX12_two_ 8 rfl) rfl rfl ?_
  refine gj_iload (q := 18) (gj_dk okX12_two_ 9 rfl) rfl rfl ?_
  refine gj_callS (q := 21) [jI (-1), jI (-1)] rfl (q_X12_areTwo hst (h.of p_W.rf rfl)   ) (gj_dk okX12_two_ 10 rfl) ml_X12_288 me_X12_areTwo (gj_nm rfl) rfl (gj_kI fun x6 S2 M2 h5 => ?_)
  obtain ⟨ex6, eS, eM⟩ := h5
  subst eS
  subst eM
  subst ex6
  refine gj_if_ne (q := 24) (tgt := 26) (gj_dk okX12_two_ 11 rfl) (by decide) rfl (fun cc => absurd cc (by decide)) (fun _ => ?_)
  refine gj_iconst (q := 25) (gj_dk okX12_two_ 12 rfl) (by decide) rfl ?_
  exact gj_iret (gj_dk okX12_two_ 13 rfl) rfl ⟨_, rfl, rfl, rfl, rfl⟩
set_option maxHeartbeats 4000000 in
set_option maxRecDepth 20000 in
theorem q_X12_think (hst : gj_Stat S) (h : p_F 79 [] [] M)  (a1 a2 a3 : Int)  : gj_C G l 3 0 0 yX12_think cX12_think 7 (some .int) [jR 79, jI a1, jI a2, jI a3] S M (gj_qI fun x S' M' => -1 = x ∧ S = S' ∧ M = M') := by
  refine gj_Cof (by decide +kernel) (Nat.le_of_ble_eq_true rfl) ?_
  change gj_W G l 3 0 0 yX12_think cX12_think 7 (some .int) (gj_qI fun x S' M' => -1 = x ∧ S = S' ∧ M = M') 0 0 0 [(0, jR 79), (1, jI a1), (2, jI a2), (3, jI a3)] [] S M
  refine gj_aload_n (q := 1) (gj_dk okX12_think 0 rfl) rfl rfl ?_
  refine gj_iload_n (q := 2) (gj_dk okX12_think 1 rfl) rfl rfl ?_
  refine gj_callV (q := 5) (z := 79) (ci := 10) [jI a1] rfl (q_X12_who hst (h.of p_W.rf rfl)  _ ) (gj_dk okX12_think 2 rfl) ml_X12_281 me_X12_who (sh79 hst) rfl (gj_nm rfl) rfl (gj_kI fun x2 S2 M2 h1 => ?_)
  obtain ⟨ex2, eS, eM⟩ := h1
  subst eS
  subst eM
  subst ex2
  refine gj_istore (q := 7) (gj_dk okX12_think 3 rfl) (by decide) rfl ?_
  refine gj_aload_n (q := 8) (gj_dk okX12_think 4 rfl) rfl rfl ?_
  refine gj_iload_n (q := 9) (gj_dk okX12_think 5 rfl) rfl rfl ?_
  refine gj_callV (q := 12) (z := 79) (ci := 10) [jI a2] rfl (q_X12_who hst (h.of p_W.rf rfl)  _ ) (gj_dk okX12_think 6 rfl) ml_X12_281 me_X12_who (sh79 hst) rfl (gj_nm rfl) rfl (gj_kI fun x4 S2 M2 h3 => ?_)
  obtain ⟨ex4, eS, eM⟩ := h3
  subst eS
  subst eM
  subst ex4
  refine gj_istore (q := 14) (gj_dk okX12_think 7 rfl) (by decide) rfl ?_
  refine gj_iload (q := 16) (gj_dk okX12_think 8 rfl) rfl rfl ?_
  refine gj_iload (q := 18) (gj_dk okX12_think 9 rfl) rfl rfl ?_
  refine gj_callS (q := 21) [jI (-1), jI (-1)] rfl (q_X12_areTwo hst (h.of p_W.rf rfl)   ) (gj_dk okX12_think 10 rfl) ml_X12_288 me_X12_areTwo (gj_nm rfl) rfl (gj_kI fun x6 S2 M2 h5 => ?_)
  obtain ⟨ex6, eS, eM⟩ := h5
  subst eS
  subst eM
  subst ex6
  refine gj_if_ne (q := 24) (tgt := 26) (gj_dk okX12_think 11 rfl) (by decide) rfl (fun cc => absurd cc (by decide)) (fun _ => ?_)
  refine gj_iconst (q := 25) (gj_dk okX12_think 12 rfl) (by decide) rfl ?_
  exact gj_iret (gj_dk okX12_think 13 rfl) rfl ⟨_, rfl, rfl, rfl, rfl⟩
set_option maxHeartbeats 4000000 in
set_option maxRecDepth 20000 in
theorem q_X12_shown (hst : gj_Stat S) (h : p_F 79 [] [] M)  (a1 a2 a3 : Int)  : gj_C G l 3 0 0 yX12_shown cX12_shown 6 (some .int) [jR 79, jI a1, jI a2, jI a3] S M (gj_qI fun x S' M' => -1 = x ∧ S = S' ∧ M = M') := by
  refine gj_Cof (by decide +kernel) (Nat.le_of_ble_eq_true rfl) ?_
  change gj_W G l 3 0 0 yX12_shown cX12_shown 6 (some .int) (gj_qI fun x S' M' => -1 = x ∧ S = S' ∧ M = M') 0 0 0 [(0, jR 79), (1, jI a1), (2, jI a2), (3, jI a3)] [] S M
  refine gj_aload_n (q := 1) (gj_dk okX12_shown 0 rfl) rfl rfl ?_
  refine gj_iload_n (q := 2) (gj_dk okX12_shown 1 rfl) rfl rfl ?_
  refine gj_callV (q := 5) (z := 79) (ci := 10) [jI a1] rfl (q_X12_who hst (h.of p_W.rf rfl)  _ ) (gj_dk okX12_shown 2 rfl) ml_X12_281 me_X12_who (sh79 hst) rfl (gj_nm rfl) rfl (gj_kI fun x2 S2 M2 h1 => ?_)
  obtain ⟨ex2, eS, eM⟩ := h1
  subst eS
  subst eM
  subst ex2
  refine gj_istore (q := 7) (gj_dk okX12_shown 3 rfl) (by decide) rfl ?_
  refine gj_aload_n (q := 8) (gj_dk okX12_shown 4 rfl) rfl rfl ?_
  refine gj_iload_n (q := 9) (gj_dk okX12_shown 5 rfl) rfl rfl ?_
  refine gj_callV (q := 12) (z := 79) (ci := 10) [jI a2] rfl (q_X12_who hst (h.of p_W.rf rfl)  _ ) (gj_dk okX12_shown 6 rfl) ml_X12_281 me_X12_who (sh79 hst) rfl (gj_nm rfl) rfl (gj_kI fun x4 S2 M2 h3 => ?_)
  obtain ⟨ex4, eS, eM⟩ := h3
  subst eS
  subst eM
  subst ex4
  refine gj_istore (q := 14) (gj_dk okX12_shown 7 rfl) (by decide) rfl ?_
  refine gj_iload (q := 16) (gj_dk okX12_shown 8 rfl) rfl rfl ?_
  refine gj_iload (q := 18) (gj_dk okX12_shown 9 rfl) rfl rfl ?_
  refine gj_callS (q := 21) [jI (-1), jI (-1)] rfl (q_X12_areTwo hst (h.of p_W.rf rfl)   ) (gj_dk okX12_shown 10 rfl) ml_X12_288 me_X12_areTwo (gj_nm rfl) rfl (gj_kI fun x6 S2 M2 h5 => ?_)
  obtain ⟨ex6, eS, eM⟩ := h5
  subst eS
  subst eM
  subst ex6
  refine gj_if_eq (q := 24) (tgt := 70) (gj_dk okX12_shown 11 rfl) (by decide) rfl (fun _ => ?_) (fun cc => absurd cc (by decide))
  refine gj_iconst (q := 71) (gj_dk okX12_shown 36 rfl) (by decide) rfl ?_
  exact gj_iret (gj_dk okX12_shown 37 rfl) rfl ⟨_, rfl, rfl, rfl, rfl⟩
set_option maxHeartbeats 4000000 in
set_option maxRecDepth 20000 in
theorem q_X12_liking (hst : gj_Stat S) (h : p_F 79 [] [] M)  (a1 a2 : Int)  : gj_C G l 3 0 0 yX12_liking cX12_liking 5 (some .int) [jR 79, jI a1, jI a2] S M (gj_qI fun x S' M' => -1 = x ∧ S = S' ∧ M = M') := by
  refine gj_Cof (by decide +kernel) (Nat.le_of_ble_eq_true rfl) ?_
  change gj_W G l 3 0 0 yX12_liking cX12_liking 5 (some .int) (gj_qI fun x S' M' => -1 = x ∧ S = S' ∧ M = M') 0 0 0 [(0, jR 79), (1, jI a1), (2, jI a2)] [] S M
  refine gj_aload_n (q := 1) (gj_dk okX12_liking 0 rfl) rfl rfl ?_
  refine gj_iload_n (q := 2) (gj_dk okX12_liking 1 rfl) rfl rfl ?_
  refine gj_callV (q := 5) (z := 79) (ci := 10) [jI a1] rfl (q_X12_who hst (h.of p_W.rf rfl)  _ ) (gj_dk okX12_liking 2 rfl) ml_X12_281 me_X12_who (sh79 hst) rfl (gj_nm rfl) rfl (gj_kI fun x2 S2 M2 h1 => ?_)
  obtain ⟨ex2, eS, eM⟩ := h1
  subst eS
  subst eM
  subst ex2
  refine gj_istore_n (q := 6) (gj_dk okX12_liking 3 rfl) (by decide) rfl ?_
  refine gj_aload_n (q := 7) (gj_dk okX12_liking 4 rfl) rfl rfl ?_
  refine gj_iload_n (q := 8) (gj_dk okX12_liking 5 rfl) rfl rfl ?_
  refine gj_callV (q := 11) (z := 79) (ci := 10) [jI a2] rfl (q_X12_who hst (h.of p_W.rf rfl)  _ ) (gj_dk okX12_liking 6 rfl) ml_X12_281 me_X12_who (sh79 hst) rfl (gj_nm rfl) rfl (gj_kI fun x4 S2 M2 h3 => ?_)
  obtain ⟨ex4, eS, eM⟩ := h3
  subst eS
  subst eM
  subst ex4
  refine gj_istore (q := 13) (gj_dk okX12_liking 7 rfl) (by decide) rfl ?_
  refine gj_iload_n (q := 14) (gj_dk okX12_liking 8 rfl) rfl rfl ?_
  refine gj_iload (q := 16) (gj_dk okX12_liking 9 rfl) rfl rfl ?_
  refine gj_callS (q := 19) [jI (-1), jI (-1)] rfl (q_X12_areTwo hst (h.of p_W.rf rfl)   ) (gj_dk okX12_liking 10 rfl) ml_X12_288 me_X12_areTwo (gj_nm rfl) rfl (gj_kI fun x6 S2 M2 h5 => ?_)
  obtain ⟨ex6, eS, eM⟩ := h5
  subst eS
  subst eM
  subst ex6
  refine gj_if_eq (q := 22) (tgt := 32) (gj_dk okX12_liking 11 rfl) (by decide) rfl (fun _ => ?_) (fun cc => absurd cc (by decide))
  refine gj_iconst (q := 33) (gj_dk okX12_liking 17 rfl) (by decide) rfl ?_
  exact gj_iret (gj_dk okX12_liking 18 rfl) rfl ⟨_, rfl, rfl, rfl, rfl⟩
set_option maxHeartbeats 4000000 in
set_option maxRecDepth 20000 in
theorem q_X12_sooner (hst : gj_Stat S) (h : p_F 79 [] [] M)  (a1 a2 a3 : Int)  : gj_C G l 3 0 0 yX12_sooner cX12_sooner 7 (some .int) [jR 79, jI a1, jI a2, jI a3] S M (gj_qI fun x S' M' => -1 = x ∧ S = S' ∧ M = M') := by
  refine gj_Cof (by decide +kernel) (Nat.le_of_ble_eq_true rfl) ?_
  change gj_W G l 3 0 0 yX12_sooner cX12_sooner 7 (some .int) (gj_qI fun x S' M' => -1 = x ∧ S = S' ∧ M = M') 0 0 0 [(0, jR 79), (1, jI a1), (2, jI a2), (3, jI a3)] [] S M
  refine gj_aload_n (q := 1) (gj_dk okX12_sooner 0 rfl) rfl rfl ?_
  refine gj_iload_n (q := 2) (gj_dk okX12_sooner 1 rfl) rfl rfl ?_
  refine gj_callV (q := 5) (z := 79) (ci := 10) [jI a1] rfl (q_X12_who hst (h.of p_W.rf rfl)  _ ) (gj_dk okX12_sooner 2 rfl) ml_X12_281 me_X12_who (sh79 hst) rfl (gj_nm rfl) rfl (gj_kI fun x2 S2 M2 h1 => ?_)
  obtain ⟨ex2, eS, eM⟩ := h1
  subst eS
  subst eM
  subst ex2
  refine gj_istore (q := 7) (gj_dk okX12_sooner 3 rfl) (by decide) rfl ?_
  refine gj_aload_n (q := 8) (gj_dk okX12_sooner 4 rfl) rfl rfl ?_
  refine gj_iload_n (q := 9) (gj_dk okX12_sooner 5 rfl) rfl rfl ?_
  refine gj_callV (q := 12) (z := 79) (ci := 10) [jI a2] rfl (q_X12_who hst (h.of p_W.rf rfl)  _ ) (gj_dk okX12_sooner 6 rfl) ml_X12_281 me_X12_who (sh79 hst) rfl (gj_nm rfl) rfl (gj_kI fun x4 S2 M2 h3 => ?_)
  obtain ⟨ex4, eS, eM⟩ := h3
  subst eS
  subst eM
  subst ex4
  refine gj_istore (q := 14) (gj_dk okX12_sooner 7 rfl) (by decide) rfl ?_
  refine gj_aload_n (q := 15) (gj_dk okX12_sooner 8 rfl) rfl rfl ?_
  refine gj_iload_n (q := 16) (gj_dk okX12_sooner 9 rfl) rfl rfl ?_
  refine gj_callV (q := 19) (z := 79) (ci := 10) [jI a3] rfl (q_X12_who hst (h.of p_W.rf rfl)  _ ) (gj_dk okX12_sooner 10 rfl) ml_X12_281 me_X12_who (sh79 hst) rfl (gj_nm rfl) rfl (gj_kI fun x6 S2 M2 h5 => ?_)
  obtain ⟨ex6, eS, eM⟩ := h5
  subst eS
  subst eM
  subst ex6
  refine gj_istore (q := 21) (gj_dk okX12_sooner 11 rfl) (by decide) rfl ?_
  refine gj_iload (q := 23) (gj_dk okX12_sooner 12 rfl) rfl rfl ?_
  refine gj_iload (q := 25) (gj_dk okX12_sooner 13 rfl) rfl rfl ?_
  refine gj_callS (q := 28) [jI (-1), jI (-1)] rfl (q_X12_areTwo hst (h.of p_W.rf rfl)   ) (gj_dk okX12_sooner 14 rfl) ml_X12_288 me_X12_areTwo (gj_nm rfl) rfl (gj_kI fun x8 S2 M2 h7 => ?_)
  obtain ⟨ex8, eS, eM⟩ := h7
  subst eS
  subst eM
  subst ex8
  refine gj_if_eq (q := 31) (tgt := 62) (gj_dk okX12_sooner 15 rfl) (by decide) rfl (fun _ => ?_) (fun cc => absurd cc (by decide))
  refine gj_iconst (q := 63) (gj_dk okX12_sooner 30 rfl) (by decide) rfl ?_
  exact gj_iret (gj_dk okX12_sooner 31 rfl) rfl ⟨_, rfl, rfl, rfl, rfl⟩
set_option maxHeartbeats 4000000 in
set_option maxRecDepth 20000 in
theorem q_X12_best (hst : gj_Stat S) (h : p_F 79 [] [] M)  (a1 a2 a3 : Int)  : gj_C G l 3 0 0 yX12_best cX12_best 6 (some .int) [jR 79, jI a1, jI a2, jI a3] S M (gj_qI fun x S' M' => -2147483648 = x ∧ S = S' ∧ M = M') := by
  refine gj_Cof (by decide +kernel) (Nat.le_of_ble_eq_true rfl) ?_
  change gj_W G l 3 0 0 yX12_best cX12_best 6 (some .int) (gj_qI fun x S' M' => -2147483648 = x ∧ S = S' ∧ M = M') 0 0 0 [(0, jR 79), (1, jI a1), (2, jI a2), (3, jI a3)] [] S M
  refine gj_aload_n (q := 1) (gj_dk okX12_best 0 rfl) rfl rfl ?_
  refine gj_iload_n (q := 2) (gj_dk okX12_best 1 rfl) rfl rfl ?_
  refine gj_callV (q := 5) (z := 79) (ci := 10) [jI a1] rfl (q_X12_who hst (h.of p_W.rf rfl)  _ ) (gj_dk okX12_best 2 rfl) ml_X12_281 me_X12_who (sh79 hst) rfl (gj_nm rfl) rfl (gj_kI fun x2 S2 M2 h1 => ?_)
  obtain ⟨ex2, eS, eM⟩ := h1
  subst eS
  subst eM
  subst ex2
  refine gj_istore (q := 7) (gj_dk okX12_best 3 rfl) (by decide) rfl ?_
  refine gj_iload (q := 9) (gj_dk okX12_best 4 rfl) rfl rfl ?_
  refine gj_iconst (q := 10) (gj_dk okX12_best 5 rfl) (by decide) rfl ?_
  refine gj_icmp_eq (q := 13) (tgt := 30) (gj_dk okX12_best 6 rfl) (by decide) rfl (fun _ => ?_) (fun cc => absurd cc (by decide))
  refine gj_ldcw (q := 33) (z := -2147483648) (gj_dk okX12_best 16 rfl) kc_X12_284 (by decide) rfl ?_
  exact gj_iret (gj_dk okX12_best 17 rfl) rfl ⟨_, rfl, rfl, rfl, rfl⟩
set_option maxHeartbeats 4000000 in
set_option maxRecDepth 20000 in
theorem q_X12_act (hst : gj_Stat S) (h : p_F 79 [] [] M)  (a1 a2 a3 : Int)  : gj_C G l 3 0 0 yX12_act cX12_act 6 (some .int) [jR 79, jI a1, jI a2, jI a3] S M (gj_qI fun x S' M' => -2147483648 = x ∧ S = S' ∧ M = M') := by
  refine gj_Cof (by decide +kernel) (Nat.le_of_ble_eq_true rfl) ?_
  change gj_W G l 3 0 0 yX12_act cX12_act 6 (some .int) (gj_qI fun x S' M' => -2147483648 = x ∧ S = S' ∧ M = M') 0 0 0 [(0, jR 79), (1, jI a1), (2, jI a2), (3, jI a3)] [] S M
  refine gj_aload_n (q := 1) (gj_dk okX12_act 0 rfl) rfl rfl ?_
  refine gj_iload_n (q := 2) (gj_dk okX12_act 1 rfl) rfl rfl ?_
  refine gj_callV (q := 5) (z := 79) (ci := 10) [jI a1] rfl (q_X12_who hst (h.of p_W.rf rfl)  _ ) (gj_dk okX12_act 2 rfl) ml_X12_281 me_X12_who (sh79 hst) rfl (gj_nm rfl) rfl (gj_kI fun x2 S2 M2 h1 => ?_)
  obtain ⟨ex2, eS, eM⟩ := h1
  subst eS
  subst eM
  subst ex2
  refine gj_istore (q := 7) (gj_dk okX12_act 3 rfl) (by decide) rfl ?_
  refine gj_aload_n (q := 8) (gj_dk okX12_act 4 rfl) rfl rfl ?_
  refine gj_iload_n (q := 9) (gj_dk okX12_act 5 rfl) rfl rfl ?_
  refine gj_callV (q := 12) (z := 79) (ci := 10) [jI a3] rfl (q_X12_who hst (h.of p_W.rf rfl)  _ ) (gj_dk okX12_act 6 rfl) ml_X12_281 me_X12_who (sh79 hst) rfl (gj_nm rfl) rfl (gj_kI fun x4 S2 M2 h3 => ?_)
  obtain ⟨ex4, eS, eM⟩ := h3
  subst eS
  subst eM
  subst ex4
  refine gj_istore (q := 14) (gj_dk okX12_act 7 rfl) (by decide) rfl ?_
  refine gj_iload (q := 16) (gj_dk okX12_act 8 rfl) rfl rfl ?_
  refine gj_iconst (q := 17) (gj_dk okX12_act 9 rfl) (by decide) rfl ?_
  refine gj_icmp_eq (q := 20) (tgt := 42) (gj_dk okX12_act 10 rfl) (by decide) rfl (fun _ => ?_) (fun cc => absurd cc (by decide))
  refine gj_ldcw (q := 45) (z := -2147483648) (gj_dk okX12_act 21 rfl) kc_X12_284 (by decide) rfl ?_
  exact gj_iret (gj_dk okX12_act 22 rfl) rfl ⟨_, rfl, rfl, rfl, rfl⟩
set_option maxHeartbeats 4000000 in
set_option maxRecDepth 20000 in
theorem q_X12_silent (hst : gj_Stat S) (h : p_F 79 [] [] M)  (a1 a2 : Int)  : gj_C G l 3 0 0 yX12_silent cX12_silent 4 (some .int) [jR 79, jI a1, jI a2] S M (gj_qI fun x S' M' => -1 = x ∧ S = S' ∧ M = M') := by
  refine gj_Cof (by decide +kernel) (Nat.le_of_ble_eq_true rfl) ?_
  change gj_W G l 3 0 0 yX12_silent cX12_silent 4 (some .int) (gj_qI fun x S' M' => -1 = x ∧ S = S' ∧ M = M') 0 0 0 [(0, jR 79), (1, jI a1), (2, jI a2)] [] S M
  refine gj_aload_n (q := 1) (gj_dk okX12_silent 0 rfl) rfl rfl ?_
  refine gj_iload_n (q := 2) (gj_dk okX12_silent 1 rfl) rfl rfl ?_
  refine gj_callV (q := 5) (z := 79) (ci := 10) [jI a1] rfl (q_X12_who hst (h.of p_W.rf rfl)  _ ) (gj_dk okX12_silent 2 rfl) ml_X12_281 me_X12_who (sh79 hst) rfl (gj_nm rfl) rfl (gj_kI fun x2 S2 M2 h1 => ?_)
  obtain ⟨ex2, eS, eM⟩ := h1
  subst eS
  subst eM
  subst ex2
  refine gj_istore_n (q := 6) (gj_dk okX12_silent 3 rfl) (by decide) rfl ?_
  refine gj_iload_n (q := 7) (gj_dk okX12_silent 4 rfl) rfl rfl ?_
  refine gj_iconst (q := 8) (gj_dk okX12_silent 5 rfl) (by decide) rfl ?_
  refine gj_icmp_eq (q := 11) (tgt := 18) (gj_dk okX12_silent 6 rfl) (by decide) rfl (fun _ => ?_) (fun cc => absurd cc (by decide))
  refine gj_iconst (q := 19) (gj_dk okX12_silent 10 rfl) (by decide) rfl ?_
  refine gj_goto (tgt := 36) (gj_dk okX12_silent 11 rfl) (by decide) ?_
  exact gj_iret (gj_dk okX12_silent 20 rfl) rfl ⟨_, rfl, rfl, rfl, rfl⟩
set_option maxHeartbeats 4000000 in
set_option maxRecDepth 20000 in
theorem q_X12_bar (hst : gj_Stat S) (h : p_F 79 [] [] M)  (a1 a2 a3 a4 : Int)  : gj_C G l 3 0 0 yX12_bar cX12_bar 10 (some .int) [jR 79, jI a1, jI a2, jI a3, jI a4] S M (gj_qI fun x S' M' => -1 = x ∧ S = S' ∧ M = M') := by
  refine gj_Cof (by decide +kernel) (Nat.le_of_ble_eq_true rfl) ?_
  change gj_W G l 3 0 0 yX12_bar cX12_bar 10 (some .int) (gj_qI fun x S' M' => -1 = x ∧ S = S' ∧ M = M') 0 0 0 [(0, jR 79), (1, jI a1), (2, jI a2), (3, jI a3), (4, jI a4)] [] S M
  refine gj_aload_n (q := 1) (gj_dk okX12_bar 0 rfl) rfl rfl ?_
  refine gj_iload_n (q := 2) (gj_dk okX12_bar 1 rfl) rfl rfl ?_
  refine gj_callV (q := 5) (z := 79) (ci := 10) [jI a1] rfl (q_X12_who hst (h.of p_W.rf rfl)  _ ) (gj_dk okX12_bar 2 rfl) ml_X12_281 me_X12_who (sh79 hst) rfl (gj_nm rfl) rfl (gj_kI fun x2 S2 M2 h1 => ?_)
  obtain ⟨ex2, eS, eM⟩ := h1
  subst eS
  subst eM
  subst ex2
  refine gj_istore (q := 7) (gj_dk okX12_bar 3 rfl) (by decide) rfl ?_
  refine gj_aload_n (q := 8) (gj_dk okX12_bar 4 rfl) rfl rfl ?_
  refine gj_iload_n (q := 9) (gj_dk okX12_bar 5 rfl) rfl rfl ?_
  refine gj_callV (q := 12) (z := 79) (ci := 10) [jI a2] rfl (q_X12_who hst (h.of p_W.rf rfl)  _ ) (gj_dk okX12_bar 6 rfl) ml_X12_281 me_X12_who (sh79 hst) rfl (gj_nm rfl) rfl (gj_kI fun x4 S2 M2 h3 => ?_)
  obtain ⟨ex4, eS, eM⟩ := h3
  subst eS
  subst eM
  subst ex4
  refine gj_istore (q := 14) (gj_dk okX12_bar 7 rfl) (by decide) rfl ?_
  refine gj_iload (q := 16) (gj_dk okX12_bar 8 rfl) rfl rfl ?_
  refine gj_iload (q := 18) (gj_dk okX12_bar 9 rfl) rfl rfl ?_
  refine gj_callS (q := 21) [jI (-1), jI (-1)] rfl (q_X12_areTwo hst (h.of p_W.rf rfl)   ) (gj_dk okX12_bar 10 rfl) ml_X12_288 me_X12_areTwo (gj_nm rfl) rfl (gj_kI fun x6 S2 M2 h5 => ?_)
  obtain ⟨ex6, eS, eM⟩ := h5
  subst eS
  subst eM
  subst ex6
  refine gj_if_eq (q := 24) (tgt := 44) (gj_dk okX12_bar 11 rfl) (by decide) rfl (fun _ => ?_) (fun cc => absurd cc (by decide))
  refine gj_iconst (q := 45) (gj_dk okX12_bar 21 rfl) (by decide) rfl ?_
  exact gj_iret (gj_dk okX12_bar 22 rfl) rfl ⟨_, rfl, rfl, rfl, rfl⟩
set_option maxHeartbeats 4000000 in
set_option maxRecDepth 20000 in
theorem q_X12_price (hst : gj_Stat S) (h : p_F 79 [] [] M)  (a1 a2 : Int)  : gj_C G l 3 0 0 yX12_price cX12_price 6 (some .int) [jR 79, jI a1, jI a2] S M (gj_qI fun x S' M' => -1 = x ∧ S = S' ∧ M = M') := by
  refine gj_Cof (by decide +kernel) (Nat.le_of_ble_eq_true rfl) ?_
  change gj_W G l 3 0 0 yX12_price cX12_price 6 (some .int) (gj_qI fun x S' M' => -1 = x ∧ S = S' ∧ M = M') 0 0 0 [(0, jR 79), (1, jI a1), (2, jI a2)] [] S M
  refine gj_aload_n (q := 1) (gj_dk okX12_price 0 rfl) rfl rfl ?_
  refine gj_iload_n (q := 2) (gj_dk okX12_price 1 rfl) rfl rfl ?_
  refine gj_callV (q := 5) (z := 79) (ci := 10) [jI a1] rfl (q_X12_who hst (h.of p_W.rf rfl)  _ ) (gj_dk okX12_price 2 rfl) ml_X12_281 me_X12_who (sh79 hst) rfl (gj_nm rfl) rfl (gj_kI fun x2 S2 M2 h1 => ?_)
  obtain ⟨ex2, eS, eM⟩ := h1
  subst eS
  subst eM
  subst ex2
  refine gj_istore_n (q := 6) (gj_dk okX12_price 3 rfl) (by decide) rfl ?_
  refine gj_iload_n (q := 7) (gj_dk okX12_price 4 rfl) rfl rfl ?_
  refine gj_iconst (q := 8) (gj_dk okX12_price 5 rfl) (by decide) rfl ?_
  refine gj_icmp_eq (q := 11) (tgt := 28) (gj_dk okX12_price 6 rfl) (by decide) rfl (fun _ => ?_) (fun cc => absurd cc (by decide))
  refine gj_iconst (q := 29) (gj_dk okX12_price 16 rfl) (by decide) rfl ?_
  exact gj_iret (gj_dk okX12_price 17 rfl) rfl ⟨_, rfl, rfl, rfl, rfl⟩
set_option maxHeartbeats 4000000 in
set_option maxRecDepth 20000 in
theorem q_X12_waits (hst : gj_Stat S) (h : p_F 79 [] [] M)  (a1 a2 a3 : Int)  : gj_C G l 3 0 0 yX12_waits cX12_waits 8 (some .int) [jR 79, jI a1, jI a2, jI a3] S M (gj_qI fun x S' M' => -2147483648 = x ∧ S = S' ∧ M = M') := by
  refine gj_Cof (by decide +kernel) (Nat.le_of_ble_eq_true rfl) ?_
  change gj_W G l 3 0 0 yX12_waits cX12_waits 8 (some .int) (gj_qI fun x S' M' => -2147483648 = x ∧ S = S' ∧ M = M') 0 0 0 [(0, jR 79), (1, jI a1), (2, jI a2), (3, jI a3)] [] S M
  refine gj_aload_n (q := 1) (gj_dk okX12_waits 0 rfl) rfl rfl ?_
  refine gj_iload_n (q := 2) (gj_dk okX12_waits 1 rfl) rfl rfl ?_
  refine gj_callV (q := 5) (z := 79) (ci := 10) [jI a1] rfl (q_X12_who hst (h.of p_W.rf rfl)  _ ) (gj_dk okX12_waits 2 rfl) ml_X12_281 me_X12_who (sh79 hst) rfl (gj_nm rfl) rfl (gj_kI fun x2 S2 M2 h1 => ?_)
  obtain ⟨ex2, eS, eM⟩ := h1
  subst eS
  subst eM
  subst ex2
  refine gj_istore (q := 7) (gj_dk okX12_waits 3 rfl) (by decide) rfl ?_
  refine gj_aload_n (q := 8) (gj_dk okX12_waits 4 rfl) rfl rfl ?_
  refine gj_iload_n (q := 9) (gj_dk okX12_waits 5 rfl) rfl rfl ?_
  refine gj_callV (q := 12) (z := 79) (ci := 10) [jI a2] rfl (q_X12_who hst (h.of p_W.rf rfl)  _ ) (gj_dk okX12_waits 6 rfl) ml_X12_281 me_X12_who (sh79 hst) rfl (gj_nm rfl) rfl (gj_kI fun x4 S2 M2 h3 => ?_)
  obtain ⟨ex4, eS, eM⟩ := h3
  subst eS
  subst eM
  subst ex4
  refine gj_istore (q := 14) (gj_dk okX12_waits 7 rfl) (by decide) rfl ?_
  refine gj_iload (q := 16) (gj_dk okX12_waits 8 rfl) rfl rfl ?_
  refine gj_iload (q := 18) (gj_dk okX12_waits 9 rfl) rfl rfl ?_
  refine gj_callS (q := 21) [jI (-1), jI (-1)] rfl (q_X12_areTwo hst (h.of p_W.rf rfl)   ) (gj_dk okX12_waits 10 rfl) ml_X12_288 me_X12_areTwo (gj_nm rfl) rfl (gj_kI fun x6 S2 M2 h5 => ?_)
  obtain ⟨ex6, eS, eM⟩ := h5
  subst eS
  subst eM
  subst ex6
  refine gj_if_eq (q := 24) (tgt := 50) (gj_dk okX12_waits 11 rfl) (by decide) rfl (fun _ => ?_) (fun cc => absurd cc (by decide))
  refine gj_ldcw (q := 53) (z := -2147483648) (gj_dk okX12_waits 24 rfl) kc_X12_284 (by decide) rfl ?_
  exact gj_iret (gj_dk okX12_waits 25 rfl) rfl ⟨_, rfl, rfl, rfl, rfl⟩
set_option maxHeartbeats 4000000 in
set_option maxRecDepth 20000 in
theorem q_X12_way (hst : gj_Stat S) (h : p_F 79 [] [] M)  (a1 : Int)  : gj_C G l 2 0 0 yX12_way cX12_way 2 (some .boolean) [jR 79, jI a1] S M (gj_qI fun x S' M' => (if 0 ≤ a1 ∧ a1 ≤ 3 then 1 else 0) = x ∧ S = S' ∧ p_W [80] [28] M M') := by
  refine gj_Cof (by decide +kernel) (Nat.le_of_ble_eq_true rfl) ?_
  change gj_W G l 2 0 0 yX12_way cX12_way 2 (some .boolean) (gj_qI fun x S' M' => (if 0 ≤ a1 ∧ a1 ≤ 3 then 1 else 0) = x ∧ S = S' ∧ p_W [80] [28] M M') 0 0 0 [(0, jR 79), (1, jI a1)] [] S M
  have w0 : p_W [80] [28] M M := fun _ _ _ _ _ => rfl
  refine gj_iload_n (q := 1) (gj_dk okX12_way 0 rfl) rfl rfl ?_
  refine gj_i2l (q := 2) (gj_dk okX12_way 1 rfl) rfl ?_
  refine gj_lconst (q := 3) (z := 0) (gj_dk okX12_way 2 rfl) rfl (by decide) rfl ?_
  refine gj_ldc2 (q := 6) (z := 3) (gj_dk okX12_way 3 rfl) kl_X12_236 (by decide) rfl ?_
  refine gj_callS (q := 9) [jL a1, jL 0, jL 3] rfl (q_X12_in hst (h.of p_W.rf rfl) _ _ _) (gj_dk okX12_way 4 rfl) ml_X12_158 me_X12_in (gj_nm rfl) rfl (gj_kI fun x2 S2 M2 h1 => ?_)
  obtain ⟨ex2, eS, eM⟩ := h1; subst eS; subst eM; subst ex2
  by_cases i6 : 0 ≤ a1 ∧ a1 ≤ 3
  · rw [show f_in a1 0 3 = 1 from if_pos i6]
    refine gj_if_ne (q := 12) (tgt := 18) (gj_dk okX12_way 5 rfl) (by decide) rfl (fun _ => ?_) (fun cc => absurd cc (by decide))
    refine gj_aload_n (q := 19) (gj_dk okX12_way 10 rfl) rfl rfl ?_
    refine gj_iload_n (q := 20) (gj_dk okX12_way 11 rfl) rfl rfl ?_
    refine gj_pfI (q := 23) (j := 28) (gj_dk okX12_way 12 rfl) ff_X12_267 (sh79 hst) (by decide) rfl rfl ?_
    refine gj_abs (fun M3 e5 => ?_)
    have w4 : p_W [80] [28] M M3 := by rw [e5]; exact w0.up rfl
    clear e5
    refine gj_iconst (q := 24) (gj_dk okX12_way 13 rfl) (by decide) rfl ?_
    exact gj_zret (gj_dk okX12_way 14 rfl) rfl (by first | decide | assumption | omega) ⟨_, rfl, (by first | rfl | omega | ((repeat' split) <;> omega)), rfl, w4⟩
  · rw [show f_in a1 0 3 = 0 from if_neg i6]
    refine gj_if_ne (q := 12) (tgt := 18) (gj_dk okX12_way 5 rfl) (by decide) rfl (fun cc => absurd cc (by decide)) (fun _ => ?_)
    refine gj_aload_n (q := 13) (gj_dk okX12_way 6 rfl) rfl rfl ?_
    refine gj_iconst (q := 14) (gj_dk okX12_way 7 rfl) (by decide) rfl ?_
    refine gj_callV (q := 17) (z := 79) (ci := 10) [jI 0] rfl (q_X12_deny hst (h.of p_W.rf rfl)  _ (by first | decide | omega)) (gj_dk okX12_way 8 rfl) ml_X12_173 me_X12_deny (sh79 hst) rfl (gj_nm rfl) rfl (gj_kI fun x7 S2 M2 h6 => ?_)
    obtain ⟨ex7, eS, wc⟩ := h6
    subst eS
    have w9 : p_W [80] [28] M M2 := w0.trans (wc.wide rfl)
    clear wc 
    generalize M2 = M8 at *
    subst ex7
    exact gj_zret (gj_dk okX12_way 9 rfl) rfl (by first | decide | assumption | omega) ⟨_, rfl, (by first | rfl | omega | ((repeat' split) <;> omega)), rfl, w9⟩
set_option maxHeartbeats 4000000 in
set_option maxRecDepth 20000 in
theorem q_X12_seed (hst : gj_Stat S) (h : p_F 79 [] [] M)  (a1 : Int)  : gj_C G l 2 0 0 yX12_seed cX12_seed 2 (some .boolean) [jR 79, jI a1] S M (gj_qI fun x S' M' => (if 0 ≤ a1 ∧ a1 ≤ 1000000 then 1 else 0) = x ∧ S = S' ∧ p_W [80] [30] M M') := by
  refine gj_Cof (by decide +kernel) (Nat.le_of_ble_eq_true rfl) ?_
  change gj_W G l 2 0 0 yX12_seed cX12_seed 2 (some .boolean) (gj_qI fun x S' M' => (if 0 ≤ a1 ∧ a1 ≤ 1000000 then 1 else 0) = x ∧ S = S' ∧ p_W [80] [30] M M') 0 0 0 [(0, jR 79), (1, jI a1)] [] S M
  have w0 : p_W [80] [30] M M := fun _ _ _ _ _ => rfl
  refine gj_iload_n (q := 1) (gj_dk okX12_seed 0 rfl) rfl rfl ?_
  refine gj_i2l (q := 2) (gj_dk okX12_seed 1 rfl) rfl ?_
  refine gj_lconst (q := 3) (z := 0) (gj_dk okX12_seed 2 rfl) rfl (by decide) rfl ?_
  refine gj_ldc2 (q := 6) (z := 1000000) (gj_dk okX12_seed 3 rfl) kl_X12_394 (by decide) rfl ?_
  refine gj_callS (q := 9) [jL a1, jL 0, jL 1000000] rfl (q_X12_in hst (h.of p_W.rf rfl) _ _ _) (gj_dk okX12_seed 4 rfl) ml_X12_158 me_X12_in (gj_nm rfl) rfl (gj_kI fun x2 S2 M2 h1 => ?_)
  obtain ⟨ex2, eS, eM⟩ := h1; subst eS; subst eM; subst ex2
  by_cases i6 : 0 ≤ a1 ∧ a1 ≤ 1000000
  · rw [show f_in a1 0 1000000 = 1 from if_pos i6]
    refine gj_if_ne (q := 12) (tgt := 18) (gj_dk okX12_seed 5 rfl) (by decide) rfl (fun _ => ?_) (fun cc => absurd cc (by decide))
    refine gj_aload_n (q := 19) (gj_dk okX12_seed 10 rfl) rfl rfl ?_
    refine gj_iload_n (q := 20) (gj_dk okX12_seed 11 rfl) rfl rfl ?_
    refine gj_i2l (q := 21) (gj_dk okX12_seed 12 rfl) rfl ?_
    refine gj_pfL (q := 24) (j := 30) (gj_dk okX12_seed 13 rfl) ff_X12_270 (sh79 hst) (by decide) rfl rfl ?_
    refine gj_abs (fun M3 e5 => ?_)
    have w4 : p_W [80] [30] M M3 := by rw [e5]; exact w0.up rfl
    clear e5
    refine gj_iconst (q := 25) (gj_dk okX12_seed 14 rfl) (by decide) rfl ?_
    exact gj_zret (gj_dk okX12_seed 15 rfl) rfl (by first | decide | assumption | omega) ⟨_, rfl, (by first | rfl | omega | ((repeat' split) <;> omega)), rfl, w4⟩
  · rw [show f_in a1 0 1000000 = 0 from if_neg i6]
    refine gj_if_ne (q := 12) (tgt := 18) (gj_dk okX12_seed 5 rfl) (by decide) rfl (fun cc => absurd cc (by decide)) (fun _ => ?_)
    refine gj_aload_n (q := 13) (gj_dk okX12_seed 6 rfl) rfl rfl ?_
    refine gj_iconst (q := 14) (gj_dk okX12_seed 7 rfl) (by decide) rfl ?_
    refine gj_callV (q := 17) (z := 79) (ci := 10) [jI 2] rfl (q_X12_deny hst (h.of p_W.rf rfl)  _ (by first | decide | omega)) (gj_dk okX12_seed 8 rfl) ml_X12_173 me_X12_deny (sh79 hst) rfl (gj_nm rfl) rfl (gj_kI fun x7 S2 M2 h6 => ?_)
    obtain ⟨ex7, eS, wc⟩ := h6
    subst eS
    have w9 : p_W [80] [30] M M2 := w0.trans (wc.wide rfl)
    clear wc 
    generalize M2 = M8 at *
    subst ex7
    exact gj_zret (gj_dk okX12_seed 9 rfl) rfl (by first | decide | assumption | omega) ⟨_, rfl, (by first | rfl | omega | ((repeat' split) <;> omega)), rfl, w9⟩
set_option maxHeartbeats 4000000 in
set_option maxRecDepth 20000 in
theorem q_X12_green (hst : gj_Stat S) (h : p_F 79 [] [] M)  (a1 a2 : Int)  : gj_C G l 3 0 0 yX12_green cX12_green 5 (some .int) [jR 79, jI a1, jI a2] S M (gj_qI fun x S' M' => -2147483648 = x ∧ S = S' ∧ M = M') := by
  refine gj_Cof (by decide +kernel) (Nat.le_of_ble_eq_true rfl) ?_
  change gj_W G l 3 0 0 yX12_green cX12_green 5 (some .int) (gj_qI fun x S' M' => -2147483648 = x ∧ S = S' ∧ M = M') 0 0 0 [(0, jR 79), (1, jI a1), (2, jI a2)] [] S M
  refine gj_aload_n (q := 1) (gj_dk okX12_green 0 rfl) rfl rfl ?_
  refine gj_iload_n (q := 2) (gj_dk okX12_green 1 rfl) rfl rfl ?_
  refine gj_callV (q := 5) (z := 79) (ci := 10) [jI a2] rfl (q_X12_who hst (h.of p_W.rf rfl)  _ ) (gj_dk okX12_green 2 rfl) ml_X12_281 me_X12_who (sh79 hst) rfl (gj_nm rfl) rfl (gj_kI fun x2 S2 M2 h1 => ?_)
  obtain ⟨ex2, eS, eM⟩ := h1
  subst eS
  subst eM
  subst ex2
  refine gj_istore_n (q := 6) (gj_dk okX12_green 3 rfl) (by decide) rfl ?_
  refine gj_iload_n (q := 7) (gj_dk okX12_green 4 rfl) rfl rfl ?_
  refine gj_iconst (q := 8) (gj_dk okX12_green 5 rfl) (by decide) rfl ?_
  refine gj_icmp_eq (q := 11) (tgt := 23) (gj_dk okX12_green 6 rfl) (by decide) rfl (fun _ => ?_) (fun cc => absurd cc (by decide))
  refine gj_ldcw (q := 26) (z := -2147483648) (gj_dk okX12_green 13 rfl) kc_X12_284 (by decide) rfl ?_
  exact gj_iret (gj_dk okX12_green 14 rfl) rfl ⟨_, rfl, rfl, rfl, rfl⟩
set_option maxHeartbeats 4000000 in
set_option maxRecDepth 20000 in
theorem q_X12_may_ (hst : gj_Stat S) (h : p_F 79 [] [] M)  (a1 : Int)  : gj_C G l 2 0 0 yX12_may_ cX12_may_ 3 (some .int) [jR 79, jI a1] S M (gj_qI fun x S' M' => -1 = x ∧ S = S' ∧ p_W [80] [] M M') := by
  refine gj_Cof (by decide +kernel) (Nat.le_of_ble_eq_true rfl) ?_
  change gj_W G l 2 0 0 yX12_may_ cX12_may_ 3 (some .int) (gj_qI fun x S' M' => -1 = x ∧ S = S' ∧ p_W [80] [] M M') 0 0 0 [(0, jR 79), (1, jI a1)] [] S M
  have w0 : p_W [80] [] M M := fun _ _ _ _ _ => rfl
  refine gj_aload_n (q := 1) (gj_dk okX12_may_ 0 rfl) rfl rfl ?_
  refine gj_gZ (q := 4) (j := 18) (gj_dk okX12_may_ 1 rfl) ff_X12_260 (sh79 hst) (by decide) rfl rfl ?_
  rw [show M 79 18 = 0 from (h.get 79 18 rfl rfl rfl (v := 0) (by decide))]
  refine gj_if_eq (q := 7) (tgt := 19) (gj_dk okX12_may_ 2 rfl) (by decide) rfl (fun _ => ?_) (fun cc => absurd cc (by decide))
  refine gj_aload_n (q := 20) (gj_dk okX12_may_ 9 rfl) rfl rfl ?_
  refine gj_iconst (q := 21) (gj_dk okX12_may_ 10 rfl) (by decide) rfl ?_
  refine gj_callV (q := 24) (z := 79) (ci := 10) [jI 2] rfl (q_X12_refuse hst (h.of p_W.rf rfl)  _ (by first | decide | omega)) (gj_dk okX12_may_ 11 rfl) ml_X12_165 me_X12_refuse (sh79 hst) rfl (gj_nm rfl) rfl (gj_kI fun x2 S2 M2 h1 => ?_)
  obtain ⟨ex2, eS, wc⟩ := h1
  subst eS
  have w4 : p_W [80] [] M M2 := w0.trans (wc.wide rfl)
  clear wc 
  generalize M2 = M3 at *
  subst ex2
  exact gj_iret (gj_dk okX12_may_ 12 rfl) rfl ⟨_, rfl, rfl, rfl, w4⟩
set_option maxHeartbeats 4000000 in
set_option maxRecDepth 20000 in
theorem q_X12_join (hst : gj_Stat S) (h : p_F 79 [] [] M)  (a1 a2 : Int)  : gj_C G l 3 0 0 yX12_join cX12_join 5 (some .boolean) [jR 79, jI a1, jI a2] S M (gj_qI fun x S' M' => 0 = x ∧ S = S' ∧ p_W [80] [] M M') := by
  refine gj_Cof (by decide +kernel) (Nat.le_of_ble_eq_true rfl) ?_
  change gj_W G l 3 0 0 yX12_join cX12_join 5 (some .boolean) (gj_qI fun x S' M' => 0 = x ∧ S = S' ∧ p_W [80] [] M M') 0 0 0 [(0, jR 79), (1, jI a1), (2, jI a2)] [] S M
  have w0 : p_W [80] [] M M := fun _ _ _ _ _ => rfl
  refine gj_aload_n (q := 1) (gj_dk okX12_join 0 rfl) rfl rfl ?_
  refine gj_iload_n (q := 2) (gj_dk okX12_join 1 rfl) rfl rfl ?_
  refine gj_callV (q := 5) (z := 79) (ci := 10) [jI a1] rfl (q_X12_who hst (h.of p_W.rf rfl)  _ ) (gj_dk okX12_join 2 rfl) ml_X12_281 me_X12_who (sh79 hst) rfl (gj_nm rfl) rfl (gj_kI fun x2 S2 M2 h1 => ?_)
  obtain ⟨ex2, eS, eM⟩ := h1
  subst eS
  subst eM
  subst ex2
  refine gj_istore_n (q := 6) (gj_dk okX12_join 3 rfl) (by decide) rfl ?_
  refine gj_aload_n (q := 7) (gj_dk okX12_join 4 rfl) rfl rfl ?_
  refine gj_iload_n (q := 8) (gj_dk okX12_join 5 rfl) rfl rfl ?_
  refine gj_callV (q := 11) (z := 79) (ci := 10) [jI a2] rfl (q_X12_who hst (h.of p_W.rf rfl)  _ ) (gj_dk okX12_join 6 rfl) ml_X12_281 me_X12_who (sh79 hst) rfl (gj_nm rfl) rfl (gj_kI fun x4 S2 M2 h3 => ?_)
  obtain ⟨ex4, eS, eM⟩ := h3
  subst eS
  subst eM
  subst ex4
  refine gj_istore (q := 13) (gj_dk okX12_join 7 rfl) (by decide) rfl ?_
  refine gj_iload_n (q := 14) (gj_dk okX12_join 8 rfl) rfl rfl ?_
  refine gj_iconst (q := 15) (gj_dk okX12_join 9 rfl) (by decide) rfl ?_
  refine gj_icmp_eq (q := 18) (tgt := 35) (gj_dk okX12_join 10 rfl) (by decide) rfl (fun _ => ?_) (fun cc => absurd cc (by decide))
  refine gj_aload_n (q := 36) (gj_dk okX12_join 20 rfl) rfl rfl ?_
  refine gj_iconst (q := 37) (gj_dk okX12_join 21 rfl) (by decide) rfl ?_
  refine gj_callV (q := 40) (z := 79) (ci := 10) [jI 0] rfl (q_X12_deny hst (h.of p_W.rf rfl)  _ (by first | decide | omega)) (gj_dk okX12_join 22 rfl) ml_X12_173 me_X12_deny (sh79 hst) rfl (gj_nm rfl) rfl (gj_kI fun x6 S2 M2 h5 => ?_)
  obtain ⟨ex6, eS, wc⟩ := h5
  subst eS
  have w8 : p_W [80] [] M M2 := w0.trans (wc.wide rfl)
  clear wc 
  generalize M2 = M7 at *
  subst ex6
  exact gj_zret (gj_dk okX12_join 23 rfl) rfl (by first | decide | assumption | omega) ⟨_, rfl, rfl, rfl, w8⟩
set_option maxHeartbeats 4000000 in
set_option maxRecDepth 20000 in
theorem q_X12_part (hst : gj_Stat S) (h : p_F 79 [] [] M)  (a1 : Int)  : gj_C G l 3 0 0 yX12_part cX12_part 3 (some .boolean) [jR 79, jI a1] S M (gj_qI fun x S' M' => 0 = x ∧ S = S' ∧ p_W [80] [] M M') := by
  refine gj_Cof (by decide +kernel) (Nat.le_of_ble_eq_true rfl) ?_
  change gj_W G l 3 0 0 yX12_part cX12_part 3 (some .boolean) (gj_qI fun x S' M' => 0 = x ∧ S = S' ∧ p_W [80] [] M M') 0 0 0 [(0, jR 79), (1, jI a1)] [] S M
  have w0 : p_W [80] [] M M := fun _ _ _ _ _ => rfl
  refine gj_aload_n (q := 1) (gj_dk okX12_part 0 rfl) rfl rfl ?_
  refine gj_iload_n (q := 2) (gj_dk okX12_part 1 rfl) rfl rfl ?_
  refine gj_callV (q := 5) (z := 79) (ci := 10) [jI a1] rfl (q_X12_who hst (h.of p_W.rf rfl)  _ ) (gj_dk okX12_part 2 rfl) ml_X12_281 me_X12_who (sh79 hst) rfl (gj_nm rfl) rfl (gj_kI fun x2 S2 M2 h1 => ?_)
  obtain ⟨ex2, eS, eM⟩ := h1
  subst eS
  subst eM
  subst ex2
  refine gj_istore_n (q := 6) (gj_dk okX12_part 3 rfl) (by decide) rfl ?_
  refine gj_iload_n (q := 7) (gj_dk okX12_part 4 rfl) rfl rfl ?_
  refine gj_iconst (q := 8) (gj_dk okX12_part 5 rfl) (by decide) rfl ?_
  refine gj_icmp_eq (q := 11) (tgt := 21) (gj_dk okX12_part 6 rfl) (by decide) rfl (fun _ => ?_) (fun cc => absurd cc (by decide))
  refine gj_aload_n (q := 22) (gj_dk okX12_part 13 rfl) rfl rfl ?_
  refine gj_iload_n (q := 23) (gj_dk okX12_part 14 rfl) rfl rfl ?_
  refine gj_iconst (q := 24) (gj_dk okX12_part 15 rfl) (by decide) rfl ?_
  refine gj_icmp_ne (q := 27) (tgt := 31) (gj_dk okX12_part 16 rfl) (by decide) rfl (fun cc => absurd cc (by decide)) (fun _ => ?_)
  refine gj_iconst (q := 28) (gj_dk okX12_part 17 rfl) (by decide) rfl ?_
  refine gj_goto (tgt := 32) (gj_dk okX12_part 18 rfl) (by decide) ?_
  refine gj_callV (q := 35) (z := 79) (ci := 10) [jI 0] rfl (q_X12_deny hst (h.of p_W.rf rfl)  _ (by first | decide | omega)) (gj_dk okX12_part 20 rfl) ml_X12_173 me_X12_deny (sh79 hst) rfl (gj_nm rfl) rfl (gj_kI fun x4 S2 M2 h3 => ?_)
  obtain ⟨ex4, eS, wc⟩ := h3
  subst eS
  have w6 : p_W [80] [] M M2 := w0.trans (wc.wide rfl)
  clear wc 
  generalize M2 = M5 at *
  subst ex4
  exact gj_zret (gj_dk okX12_part 21 rfl) rfl (by first | decide | assumption | omega) ⟨_, rfl, rfl, rfl, w6⟩
set_option maxHeartbeats 4000000 in
set_option maxRecDepth 20000 in
theorem q_X12_log (hst : gj_Stat S) (h : p_F 79 [] [] M)  (a1 a2 : Int)  : gj_C G l 2 0 0 yX12_log cX12_log 3 (some .int) [jR 79, jI a1, jI a2] S M (gj_qI fun x S' M' => (if a1 = -1 then 0 else -1) = x ∧ S = S' ∧ M = M') := by
  refine gj_Cof (by decide +kernel) (Nat.le_of_ble_eq_true rfl) ?_
  change gj_W G l 2 0 0 yX12_log cX12_log 3 (some .int) (gj_qI fun x S' M' => (if a1 = -1 then 0 else -1) = x ∧ S = S' ∧ M = M') 0 0 0 [(0, jR 79), (1, jI a1), (2, jI a2)] [] S M
  refine gj_iload_n (q := 1) (gj_dk okX12_log 0 rfl) rfl rfl ?_
  refine gj_iconst (q := 2) (gj_dk okX12_log 1 rfl) (by decide) rfl ?_
  refine gj_icmp_ne (q := 5) (tgt := 10) (gj_dk okX12_log 2 rfl) (by decide) rfl (fun c2 => ?_) (fun c2 => ?_)
  · -- 10
    refine gj_iload_n (q := 11) (gj_dk okX12_log 6 rfl) rfl rfl ?_
    refine gj_i2l (q := 12) (gj_dk okX12_log 7 rfl) rfl ?_
    refine gj_lconst (q := 13) (z := 0) (gj_dk okX12_log 8 rfl) rfl (by decide) rfl ?_
    refine gj_aload_n (q := 14) (gj_dk okX12_log 9 rfl) rfl rfl ?_
    refine gj_gI (q := 17) (j := 29) (gj_dk okX12_log 10 rfl) ff_X12_274 (sh79 hst) (by decide) rfl rfl ?_
    rw [show M 79 29 = 0 from (h.get 79 29 rfl rfl rfl (v := 0) (by decide))]
    refine gj_iconst (q := 18) (gj_dk okX12_log 11 rfl) (by decide) rfl ?_
    refine gj_isubX (q := 19) (gj_dk okX12_log 12 rfl) (by decide) rfl ?_
    rw [show (0 - 1 : Int) = -1 from rfl]
    refine gj_i2l (q := 20) (gj_dk okX12_log 13 rfl) rfl ?_
    refine gj_callS (q := 23) [jL a1, jL 0, jL (-1)] rfl (q_X12_in hst (h.of p_W.rf rfl) _ _ _) (gj_dk okX12_log 14 rfl) ml_X12_158 me_X12_in (gj_nm rfl) rfl (gj_kI fun x2 S2 M2 h1 => ?_)
    obtain ⟨ex2, eS, eM⟩ := h1; subst eS; subst eM; subst ex2
    by_cases i20 : 0 ≤ a1 ∧ a1 ≤ (-1)
    · exfalso; omega
    · rw [show f_in a1 0 (-1) = 0 from if_neg i20]
      refine gj_if_eq (q := 26) (tgt := 51) (gj_dk okX12_log 15 rfl) (by decide) rfl (fun _ => ?_) (fun cc => absurd cc (by decide))
      refine gj_iconst (q := 52) (gj_dk okX12_log 31 rfl) (by decide) rfl ?_
      exact gj_iret (gj_dk okX12_log 32 rfl) rfl ⟨_, rfl, (by first | rfl | omega | ((repeat' split) <;> omega)), rfl, rfl⟩
  · -- 5
    refine gj_aload_n (q := 6) (gj_dk okX12_log 3 rfl) rfl rfl ?_
    refine gj_gI (q := 9) (j := 29) (gj_dk okX12_log 4 rfl) ff_X12_274 (sh79 hst) (by decide) rfl rfl ?_
    rw [show M 79 29 = 0 from (h.get 79 29 rfl rfl rfl (v := 0) (by decide))]
    exact gj_iret (gj_dk okX12_log 5 rfl) rfl ⟨_, rfl, (by first | rfl | omega | ((repeat' split) <;> omega)), rfl, rfl⟩
set_option maxHeartbeats 4000000 in
set_option maxRecDepth 20000 in
theorem q_X12_blocks (hst : gj_Stat S) (h : p_F 79 [] [] M)  (a1 : Int)  : gj_C G l 2 0 0 yX12_blocks cX12_blocks 5 (some .int) [jR 79, jI a1] S M (gj_qI fun x S' M' => (if a1 = -1 then 0 else -1) = x ∧ S = S' ∧ M = M') := by
  refine gj_Cof (by decide +kernel) (Nat.le_of_ble_eq_true rfl) ?_
  change gj_W G l 2 0 0 yX12_blocks cX12_blocks 5 (some .int) (gj_qI fun x S' M' => (if a1 = -1 then 0 else -1) = x ∧ S = S' ∧ M = M') 0 0 0 [(0, jR 79), (1, jI a1)] [] S M
  refine gj_aload_n (q := 1) (gj_dk okX12_blocks 0 rfl) rfl rfl ?_
  refine gj_gZ (q := 4) (j := 18) (gj_dk okX12_blocks 1 rfl) ff_X12_260 (sh79 hst) (by decide) rfl rfl ?_
  rw [show M 79 18 = 0 from (h.get 79 18 rfl rfl rfl (v := 0) (by decide))]
  refine gj_if_ne (q := 7) (tgt := 18) (gj_dk okX12_blocks 2 rfl) (by decide) rfl (fun cc => absurd cc (by decide)) (fun _ => ?_)
  refine gj_iload_n (q := 8) (gj_dk okX12_blocks 3 rfl) rfl rfl ?_
  refine gj_iconst (q := 9) (gj_dk okX12_blocks 4 rfl) (by decide) rfl ?_
  refine gj_icmp_ne (q := 12) (tgt := 16) (gj_dk okX12_blocks 5 rfl) (by decide) rfl (fun c9 => ?_) (fun c9 => ?_)
  · -- 16
    refine gj_iconst (q := 17) (gj_dk okX12_blocks 8 rfl) (by decide) rfl ?_
    exact gj_iret (gj_dk okX12_blocks 9 rfl) rfl ⟨_, rfl, (by first | rfl | omega | ((repeat' split) <;> omega)), rfl, rfl⟩
  · -- 12
    refine gj_iconst (q := 13) (gj_dk okX12_blocks 6 rfl) (by decide) rfl ?_
    refine gj_goto (tgt := 17) (gj_dk okX12_blocks 7 rfl) (by decide) ?_
    exact gj_iret (gj_dk okX12_blocks 9 rfl) rfl ⟨_, rfl, (by first | rfl | omega | ((repeat' split) <;> omega)), rfl, rfl⟩
set_option maxHeartbeats 4000000 in
set_option maxRecDepth 20000 in
theorem q_X12_parents (hst : gj_Stat S) (h : p_F 79 [] [] M)  (a1 : Int)  : gj_C G l 3 0 0 yX12_parents cX12_parents 3 (some .int) [jR 79, jI a1] S M (gj_qI fun x S' M' => -2147483648 = x ∧ S = S' ∧ M = M') := by
  refine gj_Cof (by decide +kernel) (Nat.le_of_ble_eq_true rfl) ?_
  change gj_W G l 3 0 0 yX12_parents cX12_parents 3 (some .int) (gj_qI fun x S' M' => -2147483648 = x ∧ S = S' ∧ M = M') 0 0 0 [(0, jR 79), (1, jI a1)] [] S M
  refine gj_aload_n (q := 1) (gj_dk okX12_parents 0 rfl) rfl rfl ?_
  refine gj_gZ (q := 4) (j := 18) (gj_dk okX12_parents 1 rfl) ff_X12_260 (sh79 hst) (by decide) rfl rfl ?_
  rw [show M 79 18 = 0 from (h.get 79 18 rfl rfl rfl (v := 0) (by decide))]
  refine gj_if_eq (q := 7) (tgt := 21) (gj_dk okX12_parents 2 rfl) (by decide) rfl (fun _ => ?_) (fun cc => absurd cc (by decide))
  refine gj_ldcw (q := 24) (z := -2147483648) (gj_dk okX12_parents 11 rfl) kc_X12_284 (by decide) rfl ?_
  exact gj_iret (gj_dk okX12_parents 12 rfl) rfl ⟨_, rfl, rfl, rfl, rfl⟩
set_option maxHeartbeats 4000000 in
set_option maxRecDepth 20000 in
theorem q_X12_life (hst : gj_Stat S) (h : p_F 79 [] [] M)  (a1 a2 : Int)  : gj_C G l 2 0 0 yX12_life cX12_life 4 (some .int) [jR 79, jI a1, jI a2] S M (gj_qI fun x S' M' => -2147483648 = x ∧ S = S' ∧ M = M') := by
  refine gj_Cof (by decide +kernel) (Nat.le_of_ble_eq_true rfl) ?_
  change gj_W G l 2 0 0 yX12_life cX12_life 4 (some .int) (gj_qI fun x S' M' => -2147483648 = x ∧ S = S' ∧ M = M') 0 0 0 [(0, jR 79), (1, jI a1), (2, jI a2)] [] S M
  refine gj_aload_n (q := 1) (gj_dk okX12_life 0 rfl) rfl rfl ?_
  refine gj_gZ (q := 4) (j := 18) (gj_dk okX12_life 1 rfl) ff_X12_260 (sh79 hst) (by decide) rfl rfl ?_
  rw [show M 79 18 = 0 from (h.get 79 18 rfl rfl rfl (v := 0) (by decide))]
  refine gj_if_eq (q := 7) (tgt := 29) (gj_dk okX12_life 2 rfl) (by decide) rfl (fun _ => ?_) (fun cc => absurd cc (by decide))
  refine gj_ldcw (q := 32) (z := -2147483648) (gj_dk okX12_life 15 rfl) kc_X12_284 (by decide) rfl ?_
  exact gj_iret (gj_dk okX12_life 16 rfl) rfl ⟨_, rfl, rfl, rfl, rfl⟩
set_option maxHeartbeats 4000000 in
set_option maxRecDepth 20000 in
theorem q_X12_never (hst : gj_Stat S) (h : p_F 79 [] [] M)  (a1 : Int)  : gj_C G l 2 0 0 yX12_never cX12_never 4 (some .int) [jR 79, jI a1] S M (gj_qI fun x S' M' => -2147483648 = x ∧ S = S' ∧ M = M') := by
  refine gj_Cof (by decide +kernel) (Nat.le_of_ble_eq_true rfl) ?_
  change gj_W G l 2 0 0 yX12_never cX12_never 4 (some .int) (gj_qI fun x S' M' => -2147483648 = x ∧ S = S' ∧ M = M') 0 0 0 [(0, jR 79), (1, jI a1)] [] S M
  refine gj_aload_n (q := 1) (gj_dk okX12_never 0 rfl) rfl rfl ?_
  refine gj_gZ (q := 4) (j := 18) (gj_dk okX12_never 1 rfl) ff_X12_260 (sh79 hst) (by decide) rfl rfl ?_
  rw [show M 79 18 = 0 from (h.get 79 18 rfl rfl rfl (v := 0) (by decide))]
  refine gj_if_eq (q := 7) (tgt := 17) (gj_dk okX12_never 2 rfl) (by decide) rfl (fun _ => ?_) (fun cc => absurd cc (by decide))
  refine gj_ldcw (q := 20) (z := -2147483648) (gj_dk okX12_never 9 rfl) kc_X12_284 (by decide) rfl ?_
  exact gj_iret (gj_dk okX12_never 10 rfl) rfl ⟨_, rfl, rfl, rfl, rfl⟩
set_option maxHeartbeats 4000000 in
set_option maxRecDepth 20000 in
theorem q_X12_pairs (hst : gj_Stat S) (h : p_F 79 [] [] M)  (a1 a2 : Int)  : gj_C G l 2 0 0 yX12_pairs cX12_pairs 5 (some .int) [jR 79, jI a1, jI a2] S M (gj_qI fun x S' M' => (if 0 ≤ a1 ∧ a1 ≤ 100 ∧ 0 ≤ a2 ∧ a2 ≤ 1 then 0 else -1) = x ∧ S = S' ∧ M = M') := by
  refine gj_Cof (by decide +kernel) (Nat.le_of_ble_eq_true rfl) ?_
  change gj_W G l 2 0 0 yX12_pairs cX12_pairs 5 (some .int) (gj_qI fun x S' M' => (if 0 ≤ a1 ∧ a1 ≤ 100 ∧ 0 ≤ a2 ∧ a2 ≤ 1 then 0 else -1) = x ∧ S = S' ∧ M = M') 0 0 0 [(0, jR 79), (1, jI a1), (2, jI a2)] [] S M
  refine gj_iload_n (q := 1) (gj_dk okX12_pairs 0 rfl) rfl rfl ?_
  refine gj_i2l (q := 2) (gj_dk okX12_pairs 1 rfl) rfl ?_
  refine gj_lconst (q := 3) (z := 0) (gj_dk okX12_pairs 2 rfl) rfl (by decide) rfl ?_
  refine gj_lconst (q := 4) (z := 1) (gj_dk okX12_pairs 3 rfl) rfl (by decide) rfl ?_
  refine gj_callS (q := 7) [jL a2, jL 0, jL 1] rfl (q_X12_in hst (h.of p_W.rf rfl) _ _ _) (gj_dk okX12_pairs 4 rfl) ml_X12_158 me_X12_in (gj_nm rfl) rfl (gj_kI fun x2 S2 M2 h1 => ?_)
  obtain ⟨ex2, eS, eM⟩ := h1; subst eS; subst eM; subst ex2
  by_cases i4 : 0 ≤ a2 ∧ a2 ≤ 1
  · rw [show f_in a2 0 1 = 1 from if_pos i4]
    refine gj_if_eq (q := 10) (tgt := 22) (gj_dk okX12_pairs 5 rfl) (by decide) rfl (fun cc => absurd cc (by decide)) (fun _ => ?_)
    refine gj_iload_n (q := 11) (gj_dk okX12_pairs 6 rfl) rfl rfl ?_
    refine gj_i2l (q := 12) (gj_dk okX12_pairs 7 rfl) rfl ?_
    refine gj_lconst (q := 13) (z := 0) (gj_dk okX12_pairs 8 rfl) rfl (by decide) rfl ?_
    refine gj_ldc2 (q := 16) (z := 100) (gj_dk okX12_pairs 9 rfl) kl_X12_441 (by decide) rfl ?_
    refine gj_callS (q := 19) [jL a1, jL 0, jL 100] rfl (q_X12_in hst (h.of p_W.rf rfl) _ _ _) (gj_dk okX12_pairs 10 rfl) ml_X12_158 me_X12_in (gj_nm rfl) rfl (gj_kI fun x4 S2 M2 h3 => ?_)
    obtain ⟨ex4, eS, eM⟩ := h3; subst eS; subst eM; subst ex4
    by_cases i16 : 0 ≤ a1 ∧ a1 ≤ 100
    · rw [show f_in a1 0 100 = 1 from if_pos i16]
      refine gj_if_ne (q := 22) (tgt := 24) (gj_dk okX12_pairs 11 rfl) (by decide) rfl (fun _ => ?_) (fun cc => absurd cc (by decide))
      refine gj_iconst (q := 25) (gj_dk okX12_pairs 14 rfl) (by decide) rfl ?_
      refine gj_istore_n (q := 26) (gj_dk okX12_pairs 15 rfl) (by decide) rfl ?_
      refine gj_iconst (q := 27) (gj_dk okX12_pairs 16 rfl) (by decide) rfl ?_
      refine gj_istore (q := 29) (gj_dk okX12_pairs 17 rfl) (by decide) rfl ?_
      refine gj_aload_n (q := 30) (gj_dk okX12_pairs 18 rfl) rfl rfl ?_
      refine gj_gZ (q := 33) (j := 18) (gj_dk okX12_pairs 19 rfl) ff_X12_260 (sh79 hst) (by decide) rfl rfl ?_
      rw [show M 79 18 = 0 from (h.get 79 18 rfl rfl rfl (v := 0) (by decide))]
      refine gj_if_eq (q := 36) (tgt := 89) (gj_dk okX12_pairs 20 rfl) (by decide) rfl (fun _ => ?_) (fun cc => absurd cc (by decide))
      refine gj_iload_n (q := 90) (gj_dk okX12_pairs 51 rfl) rfl rfl ?_
      exact gj_iret (gj_dk okX12_pairs 52 rfl) rfl ⟨_, rfl, (by first | rfl | omega | ((repeat' split) <;> omega)), rfl, rfl⟩
    · rw [show f_in a1 0 100 = 0 from if_neg i16]
      refine gj_if_ne (q := 22) (tgt := 24) (gj_dk okX12_pairs 11 rfl) (by decide) rfl (fun cc => absurd cc (by decide)) (fun _ => ?_)
      refine gj_iconst (q := 23) (gj_dk okX12_pairs 12 rfl) (by decide) rfl ?_
      exact gj_iret (gj_dk okX12_pairs 13 rfl) rfl ⟨_, rfl, (by first | rfl | omega | ((repeat' split) <;> omega)), rfl, rfl⟩
  · rw [show f_in a2 0 1 = 0 from if_neg i4]
    refine gj_if_eq (q := 10) (tgt := 22) (gj_dk okX12_pairs 5 rfl) (by decide) rfl (fun _ => ?_) (fun cc => absurd cc (by decide))
    refine gj_iconst (q := 23) (gj_dk okX12_pairs 12 rfl) (by decide) rfl ?_
    exact gj_iret (gj_dk okX12_pairs 13 rfl) rfl ⟨_, rfl, (by first | rfl | omega | ((repeat' split) <;> omega)), rfl, rfl⟩
set_option maxHeartbeats 4000000 in
set_option maxRecDepth 20000 in
theorem q_X12_image (hst : gj_Stat S) (h : p_F 79 [] [] M)  (a1 : Int)  : gj_C G l 2 0 0 yX12_image cX12_image 2 (some .boolean) [jR 79, jI a1] S M (gj_qI fun x S' M' => 0 = x ∧ S = S' ∧ p_W [80] [] M M') := by
  refine gj_Cof (by decide +kernel) (Nat.le_of_ble_eq_true rfl) ?_
  change gj_W G l 2 0 0 yX12_image cX12_image 2 (some .boolean) (gj_qI fun x S' M' => 0 = x ∧ S = S' ∧ p_W [80] [] M M') 0 0 0 [(0, jR 79), (1, jI a1)] [] S M
  have w0 : p_W [80] [] M M := fun _ _ _ _ _ => rfl
  refine gj_iload_n (q := 1) (gj_dk okX12_image 0 rfl) rfl rfl ?_
  refine gj_i2l (q := 2) (gj_dk okX12_image 1 rfl) rfl ?_
  refine gj_lconst (q := 3) (z := 0) (gj_dk okX12_image 2 rfl) rfl (by decide) rfl ?_
  refine gj_ldc2 (q := 6) (z := 2) (gj_dk okX12_image 3 rfl) kl_X12_156 (by decide) rfl ?_
  refine gj_callS (q := 9) [jL a1, jL 0, jL 2] rfl (q_X12_in hst (h.of p_W.rf rfl) _ _ _) (gj_dk okX12_image 4 rfl) ml_X12_158 me_X12_in (gj_nm rfl) rfl (gj_kI fun x2 S2 M2 h1 => ?_)
  obtain ⟨ex2, eS, eM⟩ := h1; subst eS; subst eM; subst ex2
  by_cases i6 : 0 ≤ a1 ∧ a1 ≤ 2
  · rw [show f_in a1 0 2 = 1 from if_pos i6]
    refine gj_if_eq (q := 12) (tgt := 19) (gj_dk okX12_image 5 rfl) (by decide) rfl (fun cc => absurd cc (by decide)) (fun _ => ?_)
    refine gj_aload_n (q := 13) (gj_dk okX12_image 6 rfl) rfl rfl ?_
    refine gj_gZ (q := 16) (j := 18) (gj_dk okX12_image 7 rfl) ff_X12_260 (sh79 hst) (by decide) rfl rfl ?_
    rw [show M 79 18 = 0 from (h.get 79 18 rfl rfl rfl (v := 0) (by decide))]
    refine gj_if_ne (q := 19) (tgt := 41) (gj_dk okX12_image 8 rfl) (by decide) rfl (fun cc => absurd cc (by decide)) (fun _ => ?_)
    refine gj_aload_n (q := 20) (gj_dk okX12_image 9 rfl) rfl rfl ?_
    refine gj_iload_n (q := 21) (gj_dk okX12_image 10 rfl) rfl rfl ?_
    refine gj_i2l (q := 22) (gj_dk okX12_image 11 rfl) rfl ?_
    refine gj_lconst (q := 23) (z := 0) (gj_dk okX12_image 12 rfl) rfl (by decide) rfl ?_
    refine gj_ldc2 (q := 26) (z := 2) (gj_dk okX12_image 13 rfl) kl_X12_156 (by decide) rfl ?_
    refine gj_callS (q := 29) [jL a1, jL 0, jL 2] rfl (q_X12_in hst (h.of p_W.rf rfl) _ _ _) (gj_dk okX12_image 14 rfl) ml_X12_158 me_X12_in (gj_nm rfl) rfl (gj_kI fun x4 S2 M2 h3 => ?_)
    obtain ⟨ex4, eS, eM⟩ := h3; subst eS; subst eM; subst ex4
    by_cases i26 : 0 ≤ a1 ∧ a1 ≤ 2
    · rw [show f_in a1 0 2 = 1 from if_pos i26]
      refine gj_if_eq (q := 32) (tgt := 36) (gj_dk okX12_image 15 rfl) (by decide) rfl (fun cc => absurd cc (by decide)) (fun _ => ?_)
      refine gj_iconst (q := 33) (gj_dk okX12_image 16 rfl) (by decide) rfl ?_
      refine gj_goto (tgt := 37) (gj_dk okX12_image 17 rfl) (by decide) ?_
      refine gj_callV (q := 40) (z := 79) (ci := 10) [jI 2] rfl (q_X12_deny hst (h.of p_W.rf rfl)  _ (by first | decide | omega)) (gj_dk okX12_image 19 rfl) ml_X12_173 me_X12_deny (sh79 hst) rfl (gj_nm rfl) rfl (gj_kI fun x6 S2 M2 h5 => ?_)
      obtain ⟨ex6, eS, wc⟩ := h5
      subst eS
      have w8 : p_W [80] [] M M2 := w0.trans (wc.wide rfl)
      clear wc 
      generalize M2 = M7 at *
      subst ex6
      exact gj_zret (gj_dk okX12_image 20 rfl) rfl (by first | decide | assumption | omega) ⟨_, rfl, rfl, rfl, w8⟩
    · rw [show f_in a1 0 2 = 0 from if_neg i26]
      refine gj_if_eq (q := 32) (tgt := 36) (gj_dk okX12_image 15 rfl) (by decide) rfl (fun _ => ?_) (fun cc => absurd cc (by decide))
      refine gj_iconst (q := 37) (gj_dk okX12_image 18 rfl) (by decide) rfl ?_
      refine gj_callV (q := 40) (z := 79) (ci := 10) [jI 0] rfl (q_X12_deny hst (h.of p_W.rf rfl)  _ (by first | decide | omega)) (gj_dk okX12_image 19 rfl) ml_X12_173 me_X12_deny (sh79 hst) rfl (gj_nm rfl) rfl (gj_kI fun x10 S2 M2 h9 => ?_)
      obtain ⟨ex10, eS, wc⟩ := h9
      subst eS
      have w12 : p_W [80] [] M M2 := w0.trans (wc.wide rfl)
      clear wc 
      generalize M2 = M11 at *
      subst ex10
      exact gj_zret (gj_dk okX12_image 20 rfl) rfl (by first | decide | assumption | omega) ⟨_, rfl, rfl, rfl, w12⟩
  · rw [show f_in a1 0 2 = 0 from if_neg i6]
    refine gj_if_eq (q := 12) (tgt := 19) (gj_dk okX12_image 5 rfl) (by decide) rfl (fun _ => ?_) (fun cc => absurd cc (by decide))
    refine gj_aload_n (q := 20) (gj_dk okX12_image 9 rfl) rfl rfl ?_
    refine gj_iload_n (q := 21) (gj_dk okX12_image 10 rfl) rfl rfl ?_
    refine gj_i2l (q := 22) (gj_dk okX12_image 11 rfl) rfl ?_
    refine gj_lconst (q := 23) (z := 0) (gj_dk okX12_image 12 rfl) rfl (by decide) rfl ?_
    refine gj_ldc2 (q := 26) (z := 2) (gj_dk okX12_image 13 rfl) kl_X12_156 (by decide) rfl ?_
    refine gj_callS (q := 29) [jL a1, jL 0, jL 2] rfl (q_X12_in hst (h.of p_W.rf rfl) _ _ _) (gj_dk okX12_image 14 rfl) ml_X12_158 me_X12_in (gj_nm rfl) rfl (gj_kI fun x14 S2 M2 h13 => ?_)
    obtain ⟨ex14, eS, eM⟩ := h13; subst eS; subst eM; subst ex14
    by_cases i26 : 0 ≤ a1 ∧ a1 ≤ 2
    · rw [show f_in a1 0 2 = 1 from if_pos i26]
      refine gj_if_eq (q := 32) (tgt := 36) (gj_dk okX12_image 15 rfl) (by decide) rfl (fun cc => absurd cc (by decide)) (fun _ => ?_)
      refine gj_iconst (q := 33) (gj_dk okX12_image 16 rfl) (by decide) rfl ?_
      refine gj_goto (tgt := 37) (gj_dk okX12_image 17 rfl) (by decide) ?_
      refine gj_callV (q := 40) (z := 79) (ci := 10) [jI 2] rfl (q_X12_deny hst (h.of p_W.rf rfl)  _ (by first | decide | omega)) (gj_dk okX12_image 19 rfl) ml_X12_173 me_X12_deny (sh79 hst) rfl (gj_nm rfl) rfl (gj_kI fun x16 S2 M2 h15 => ?_)
      obtain ⟨ex16, eS, wc⟩ := h15
      subst eS
      have w18 : p_W [80] [] M M2 := w0.trans (wc.wide rfl)
      clear wc 
      generalize M2 = M17 at *
      subst ex16
      exact gj_zret (gj_dk okX12_image 20 rfl) rfl (by first | decide | assumption | omega) ⟨_, rfl, rfl, rfl, w18⟩
    · rw [show f_in a1 0 2 = 0 from if_neg i26]
      refine gj_if_eq (q := 32) (tgt := 36) (gj_dk okX12_image 15 rfl) (by decide) rfl (fun _ => ?_) (fun cc => absurd cc (by decide))
      refine gj_iconst (q := 37) (gj_dk okX12_image 18 rfl) (by decide) rfl ?_
      refine gj_callV (q := 40) (z := 79) (ci := 10) [jI 0] rfl (q_X12_deny hst (h.of p_W.rf rfl)  _ (by first | decide | omega)) (gj_dk okX12_image 19 rfl) ml_X12_173 me_X12_deny (sh79 hst) rfl (gj_nm rfl) rfl (gj_kI fun x20 S2 M2 h19 => ?_)
      obtain ⟨ex20, eS, wc⟩ := h19
      subst eS
      have w22 : p_W [80] [] M M2 := w0.trans (wc.wide rfl)
      clear wc 
      generalize M2 = M21 at *
      subst ex20
      exact gj_zret (gj_dk okX12_image 20 rfl) rfl (by first | decide | assumption | omega) ⟨_, rfl, rfl, rfl, w22⟩
set_option maxHeartbeats 4000000 in
set_option maxRecDepth 20000 in
theorem q_X12_on (hst : gj_Stat S) (h : p_F 79 [] [] M)  (a1 : Int)  : gj_C G l 2 0 0 yX12_on cX12_on 2 (some .boolean) [jR 79, jI a1] S M (gj_qI fun x S' M' => 0 = x ∧ S = S' ∧ p_W [80] [] M M') := by
  refine gj_Cof (by decide +kernel) (Nat.le_of_ble_eq_true rfl) ?_
  change gj_W G l 2 0 0 yX12_on cX12_on 2 (some .boolean) (gj_qI fun x S' M' => 0 = x ∧ S = S' ∧ p_W [80] [] M M') 0 0 0 [(0, jR 79), (1, jI a1)] [] S M
  have w0 : p_W [80] [] M M := fun _ _ _ _ _ => rfl
  refine gj_iload_n (q := 1) (gj_dk okX12_on 0 rfl) rfl rfl ?_
  refine gj_i2l (q := 2) (gj_dk okX12_on 1 rfl) rfl ?_
  refine gj_lconst (q := 3) (z := 0) (gj_dk okX12_on 2 rfl) rfl (by decide) rfl ?_
  refine gj_ldc2 (q := 6) (z := 2) (gj_dk okX12_on 3 rfl) kl_X12_156 (by decide) rfl ?_
  refine gj_callS (q := 9) [jL a1, jL 0, jL 2] rfl (q_X12_in hst (h.of p_W.rf rfl) _ _ _) (gj_dk okX12_on 4 rfl) ml_X12_158 me_X12_in (gj_nm rfl) rfl (gj_kI fun x2 S2 M2 h1 => ?_)
  obtain ⟨ex2, eS, eM⟩ := h1; subst eS; subst eM; subst ex2
  by_cases i6 : 0 ≤ a1 ∧ a1 ≤ 2
  · rw [show f_in a1 0 2 = 1 from if_pos i6]
    refine gj_if_eq (q := 12) (tgt := 21) (gj_dk okX12_on 5 rfl) (by decide) rfl (fun cc => absurd cc (by decide)) (fun _ => ?_)
    refine gj_aload_n (q := 13) (gj_dk okX12_on 6 rfl) rfl rfl ?_
    refine gj_gR (q := 16) (j := 53) (gj_dk okX12_on 7 rfl) ff_X12_153 (sh79 hst) (by decide) rfl (rf79_53 hst) rfl ?_
    refine gj_iload_n (q := 17) (gj_dk okX12_on 8 rfl) rfl rfl ?_
    refine gj_zald (q := 18) (gj_dk okX12_on 9 rfl) (sh135 hst) (by omega) (by omega) rfl ?_
    refine gj_rng (fun _ hm17 _ => ?_)
    have hz17 : M 135 a1 = 0 ∨ M 135 a1 = 1 := (gj_okm_ld hm17 (sh135 hst) (by first | decide | omega) (by decide)).2.2.2 rfl
    clear hm17
    rw [show M 135 a1 = 0 from (h.row0 135 (a1) rfl rfl rfl)]
    refine gj_if_ne (q := 21) (tgt := 27) (gj_dk okX12_on 10 rfl) (by decide) rfl (fun cc => absurd cc (by decide)) (fun _ => ?_)
    refine gj_aload_n (q := 22) (gj_dk okX12_on 11 rfl) rfl rfl ?_
    refine gj_iconst (q := 23) (gj_dk okX12_on 12 rfl) (by decide) rfl ?_
    refine gj_callV (q := 26) (z := 79) (ci := 10) [jI 0] rfl (q_X12_deny hst (h.of p_W.rf rfl)  _ (by first | decide | omega)) (gj_dk okX12_on 13 rfl) ml_X12_173 me_X12_deny (sh79 hst) rfl (gj_nm rfl) rfl (gj_kI fun x4 S2 M2 h3 => ?_)
    obtain ⟨ex4, eS, wc⟩ := h3
    subst eS
    have w6 : p_W [80] [] M M2 := w0.trans (wc.wide rfl)
    clear wc 
    generalize M2 = M5 at *
    subst ex4
    exact gj_zret (gj_dk okX12_on 14 rfl) rfl (by first | decide | assumption | omega) ⟨_, rfl, rfl, rfl, w6⟩
  · rw [show f_in a1 0 2 = 0 from if_neg i6]
    refine gj_if_eq (q := 12) (tgt := 21) (gj_dk okX12_on 5 rfl) (by decide) rfl (fun _ => ?_) (fun cc => absurd cc (by decide))
    refine gj_aload_n (q := 22) (gj_dk okX12_on 11 rfl) rfl rfl ?_
    refine gj_iconst (q := 23) (gj_dk okX12_on 12 rfl) (by decide) rfl ?_
    refine gj_callV (q := 26) (z := 79) (ci := 10) [jI 0] rfl (q_X12_deny hst (h.of p_W.rf rfl)  _ (by first | decide | omega)) (gj_dk okX12_on 13 rfl) ml_X12_173 me_X12_deny (sh79 hst) rfl (gj_nm rfl) rfl (gj_kI fun x8 S2 M2 h7 => ?_)
    obtain ⟨ex8, eS, wc⟩ := h7
    subst eS
    have w10 : p_W [80] [] M M2 := w0.trans (wc.wide rfl)
    clear wc 
    generalize M2 = M9 at *
    subst ex8
    exact gj_zret (gj_dk okX12_on 14 rfl) rfl (by first | decide | assumption | omega) ⟨_, rfl, rfl, rfl, w10⟩
set_option maxHeartbeats 4000000 in
set_option maxRecDepth 20000 in
theorem q_X12_status (hst : gj_Stat S) (h : p_F 79 [] [] M)  (a1 : Int)  : gj_C G l 2 0 0 yX12_status cX12_status 2 (some .int) [jR 79, jI a1] S M (gj_qI fun x S' M' => (if 0 ≤ a1 ∧ a1 ≤ 2 then 0 else -1) = x ∧ S = S' ∧ M = M') := by
  refine gj_Cof (by decide +kernel) (Nat.le_of_ble_eq_true rfl) ?_
  change gj_W G l 2 0 0 yX12_status cX12_status 2 (some .int) (gj_qI fun x S' M' => (if 0 ≤ a1 ∧ a1 ≤ 2 then 0 else -1) = x ∧ S = S' ∧ M = M') 0 0 0 [(0, jR 79), (1, jI a1)] [] S M
  refine gj_iload_n (q := 1) (gj_dk okX12_status 0 rfl) rfl rfl ?_
  refine gj_i2l (q := 2) (gj_dk okX12_status 1 rfl) rfl ?_
  refine gj_lconst (q := 3) (z := 0) (gj_dk okX12_status 2 rfl) rfl (by decide) rfl ?_
  refine gj_ldc2 (q := 6) (z := 2) (gj_dk okX12_status 3 rfl) kl_X12_156 (by decide) rfl ?_
  refine gj_callS (q := 9) [jL a1, jL 0, jL 2] rfl (q_X12_in hst (h.of p_W.rf rfl) _ _ _) (gj_dk okX12_status 4 rfl) ml_X12_158 me_X12_in (gj_nm rfl) rfl (gj_kI fun x2 S2 M2 h1 => ?_)
  obtain ⟨ex2, eS, eM⟩ := h1; subst eS; subst eM; subst ex2
  by_cases i6 : 0 ≤ a1 ∧ a1 ≤ 2
  · rw [show f_in a1 0 2 = 1 from if_pos i6]
    refine gj_if_eq (q := 12) (tgt := 21) (gj_dk okX12_status 5 rfl) (by decide) rfl (fun cc => absurd cc (by decide)) (fun _ => ?_)
    refine gj_aload_n (q := 13) (gj_dk okX12_status 6 rfl) rfl rfl ?_
    refine gj_gR (q := 16) (j := 0) (gj_dk okX12_status 7 rfl) ff_X12_7 (sh79 hst) (by decide) rfl (rf79_0 hst) rfl ?_
    refine gj_iload_n (q := 17) (gj_dk okX12_status 8 rfl) rfl rfl ?_
    refine gj_iald (q := 18) (gj_dk okX12_status 9 rfl) (sh80 hst) (by omega) (by omega) rfl ?_
    rw [show M 80 a1 = 0 from (h.row0 80 (a1) rfl rfl rfl)]
    refine gj_goto (tgt := 22) (gj_dk okX12_status 10 rfl) (by decide) ?_
    exact gj_iret (gj_dk okX12_status 12 rfl) rfl ⟨_, rfl, (by first | rfl | omega | ((repeat' split) <;> omega)), rfl, rfl⟩
  · rw [show f_in a1 0 2 = 0 from if_neg i6]
    refine gj_if_eq (q := 12) (tgt := 21) (gj_dk okX12_status 5 rfl) (by decide) rfl (fun _ => ?_) (fun cc => absurd cc (by decide))
    refine gj_iconst (q := 22) (gj_dk okX12_status 11 rfl) (by decide) rfl ?_
    exact gj_iret (gj_dk okX12_status 12 rfl) rfl ⟨_, rfl, (by first | rfl | omega | ((repeat' split) <;> omega)), rfl, rfl⟩
set_option maxHeartbeats 4000000 in
set_option maxRecDepth 20000 in
theorem q_X12_count (hst : gj_Stat S) (h : p_F 79 [] [] M)  (a1 : Int)  : gj_C G l 1 0 0 yX12_count cX12_count 2 (some .int) [jR 79, jI a1] S M (gj_qI fun x S' M' => (if 0 ≤ a1 ∧ a1 ≤ 5 then 0 else -1) = x ∧ S = S' ∧ M = M') := by
  refine gj_Cof (by decide +kernel) (Nat.le_of_ble_eq_true rfl) ?_
  change gj_W G l 1 0 0 yX12_count cX12_count 2 (some .int) (gj_qI fun x S' M' => (if 0 ≤ a1 ∧ a1 ≤ 5 then 0 else -1) = x ∧ S = S' ∧ M = M') 0 0 0 [(0, jR 79), (1, jI a1)] [] S M
  refine gj_iload_n (q := 1) (gj_dk okX12_count 0 rfl) rfl rfl ?_
  by_cases c1_0 : a1 = 0
  · refine gj_tabIn (tgt := 40) (off := 39) 0 (gj_dk okX12_count 1 rfl) c1_0 ⟨by decide, by decide, rfl⟩ (by decide) ?_
    refine gj_aload_n (q := 41) (gj_dk okX12_count 2 rfl) rfl rfl ?_
    refine gj_gZ (q := 44) (j := 18) (gj_dk okX12_count 3 rfl) ff_X12_260 (sh79 hst) (by decide) rfl rfl ?_
    rw [show M 79 18 = 0 from (h.get 79 18 rfl rfl rfl (v := 0) (by decide))]
    refine gj_if_eq (q := 47) (tgt := 58) (gj_dk okX12_count 4 rfl) (by decide) rfl (fun _ => ?_) (fun cc => absurd cc (by decide))
    refine gj_iconst (q := 59) (gj_dk okX12_count 12 rfl) (by decide) rfl ?_
    exact gj_iret (gj_dk okX12_count 13 rfl) rfl ⟨_, rfl, (by first | rfl | omega | ((repeat' split) <;> omega)), rfl, rfl⟩
  by_cases c1_1 : a1 = 1
  · refine gj_tabIn (tgt := 60) (off := 59) 1 (gj_dk okX12_count 1 rfl) c1_1 ⟨by decide, by decide, rfl⟩ (by decide) ?_
    refine gj_aload_n (q := 61) (gj_dk okX12_count 14 rfl) rfl rfl ?_
    refine gj_gZ (q := 64) (j := 18) (gj_dk okX12_count 15 rfl) ff_X12_260 (sh79 hst) (by decide) rfl rfl ?_
    rw [show M 79 18 = 0 from (h.get 79 18 rfl rfl rfl (v := 0) (by decide))]
    refine gj_if_eq (q := 67) (tgt := 78) (gj_dk okX12_count 16 rfl) (by decide) rfl (fun _ => ?_) (fun cc => absurd cc (by decide))
    refine gj_iconst (q := 79) (gj_dk okX12_count 24 rfl) (by decide) rfl ?_
    exact gj_iret (gj_dk okX12_count 25 rfl) rfl ⟨_, rfl, (by first | rfl | omega | ((repeat' split) <;> omega)), rfl, rfl⟩
  by_cases c1_2 : a1 = 2
  · refine gj_tabIn (tgt := 80) (off := 79) 2 (gj_dk okX12_count 1 rfl) c1_2 ⟨by decide, by decide, rfl⟩ (by decide) ?_
    refine gj_aload_n (q := 81) (gj_dk okX12_count 26 rfl) rfl rfl ?_
    refine gj_gZ (q := 84) (j := 18) (gj_dk okX12_count 27 rfl) ff_X12_260 (sh79 hst) (by decide) rfl rfl ?_
    rw [show M 79 18 = 0 from (h.get 79 18 rfl rfl rfl (v := 0) (by decide))]
    refine gj_if_eq (q := 87) (tgt := 94) (gj_dk okX12_count 28 rfl) (by decide) rfl (fun _ => ?_) (fun cc => absurd cc (by decide))
    refine gj_iconst (q := 95) (gj_dk okX12_count 32 rfl) (by decide) rfl ?_
    exact gj_iret (gj_dk okX12_count 33 rfl) rfl ⟨_, rfl, (by first | rfl | omega | ((repeat' split) <;> omega)), rfl, rfl⟩
  by_cases c1_3 : a1 = 3
  · refine gj_tabIn (tgt := 96) (off := 95) 3 (gj_dk okX12_count 1 rfl) c1_3 ⟨by decide, by decide, rfl⟩ (by decide) ?_
    refine gj_aload_n (q := 97) (gj_dk okX12_count 34 rfl) rfl rfl ?_
    refine gj_gZ (q := 100) (j := 18) (gj_dk okX12_count 35 rfl) ff_X12_260 (sh79 hst) (by decide) rfl rfl ?_
    rw [show M 79 18 = 0 from (h.get 79 18 rfl rfl rfl (v := 0) (by decide))]
    refine gj_if_eq (q := 103) (tgt := 110) (gj_dk okX12_count 36 rfl) (by decide) rfl (fun _ => ?_) (fun cc => absurd cc (by decide))
    refine gj_iconst (q := 111) (gj_dk okX12_count 40 rfl) (by decide) rfl ?_
    exact gj_iret (gj_dk okX12_count 41 rfl) rfl ⟨_, rfl, (by first | rfl | omega | ((repeat' split) <;> omega)), rfl, rfl⟩
  by_cases c1_4 : a1 = 4
  · refine gj_tabIn (tgt := 112) (off := 111) 4 (gj_dk okX12_count 1 rfl) c1_4 ⟨by decide, by decide, rfl⟩ (by decide) ?_
    refine gj_aload_n (q := 113) (gj_dk okX12_count 42 rfl) rfl rfl ?_
    refine gj_gZ (q := 116) (j := 18) (gj_dk okX12_count 43 rfl) ff_X12_260 (sh79 hst) (by decide) rfl rfl ?_
    rw [show M 79 18 = 0 from (h.get 79 18 rfl rfl rfl (v := 0) (by decide))]
    refine gj_if_eq (q := 119) (tgt := 131) (gj_dk okX12_count 44 rfl) (by decide) rfl (fun _ => ?_) (fun cc => absurd cc (by decide))
    refine gj_iconst (q := 132) (gj_dk okX12_count 52 rfl) (by decide) rfl ?_
    exact gj_iret (gj_dk okX12_count 53 rfl) rfl ⟨_, rfl, (by first | rfl | omega | ((repeat' split) <;> omega)), rfl, rfl⟩
  by_cases c1_5 : a1 = 5
  · refine gj_tabIn (tgt := 133) (off := 132) 5 (gj_dk okX12_count 1 rfl) c1_5 ⟨by decide, by decide, rfl⟩ (by decide) ?_
    refine gj_aload_n (q := 134) (gj_dk okX12_count 54 rfl) rfl rfl ?_
    refine gj_gI (q := 137) (j := 2) (gj_dk okX12_count 55 rfl) ff_X12_162 (sh79 hst) (by decide) rfl rfl ?_
    rw [show M 79 2 = 0 from (h.get 79 2 rfl rfl rfl (v := 0) (by decide))]
    exact gj_iret (gj_dk okX12_count 56 rfl) rfl ⟨_, rfl, (by first | rfl | omega | ((repeat' split) <;> omega)), rfl, rfl⟩
  refine gj_tabOut (tgt := 138) (gj_dk okX12_count 1 rfl) (by omega) (by decide) ?_
  refine gj_iconst (q := 139) (gj_dk okX12_count 57 rfl) (by decide) rfl ?_
  exact gj_iret (gj_dk okX12_count 58 rfl) rfl ⟨_, rfl, (by first | rfl | omega | ((repeat' split) <;> omega)), rfl, rfl⟩
end GJYR
