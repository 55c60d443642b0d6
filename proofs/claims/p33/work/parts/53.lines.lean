/-! PURE: the other lines, side by side -/
theorem p_fit {b : Int} {C R : gj_M} (h : g_TK b C R) (hd : g_DD C R) : g_LS b (F_X6_readFit C) (F_X12_fitRead R) := by
  obtain ⟨s1, -, s2⟩ := p_scans h
  unfold F_X6_readFit F_X12_fitRead
  rw [s1, s2, g_if10, gj_bnd_s, gj_bnd2_s, g_if10]
  have h := g_TK_adv h
  have hd := g_DD_s hd g_sC_adv g_sR_radv
  generalize g_adv C = C at *
  generalize g_radv R = R at *
  obtain ⟨a, r, s, e1, e2, e3, e4, e5, -⟩ := p_named h hd
  rw [e1, e4, gj_bnd_s, gj_bnd_s, e3, gj_bnd_s]
  unfold f_X12_in
  dsimp only [gj_letI]
  obtain ⟨s1, -, s2⟩ := p_scans h
  by_cases c : s = -1
  · rw [if_pos c, if_pos (show s < 0 by omega), s2, g_if00, gj_bnd2_s, g_if00]
    exact g_LS_no h
  rw [if_neg c, if_neg (show ¬ s < 0 by omega)]
  by_cases c4' : ¬ s < 4
  · have c4 := c4'
    rw [if_neg c4, if_pos (show 3 < s by omega), s2, g_if00, gj_bnd2_s, g_if00]
    exact g_LS_no h
  have c4 := Decidable.not_not.mp c4'
  rw [if_pos c4, if_neg (show ¬ 3 < s by omega), s2, g_if10, gj_bnd2_s, g_if10, s1, gj_bnd_s]
  have p8 : 0 ≤ s ∧ s < 8 := by omega
  have h := g_TK_adv h
  have hd := g_DD_s hd g_sC_adv g_sR_radv
  generalize g_adv C = C at *
  generalize g_radv R = R at *
  obtain ⟨a2, r2, q, e1, e2, e3, e4, e5, -⟩ := p_named h hd
  rw [e1, e4, gj_bnd_s, gj_bnd_s, e3, gj_bnd_s]
  obtain ⟨s1, -, s2⟩ := p_scans h
  unfold J_X12_fitRead_62
  have no : ∀ k : gj_M → Option (Int × gj_M), g_LS b (some (0, C)) (gj_bnd2 (F_X12_passes 0 R) (fun x11 M12 => (if x11 = 0 then (some ((0, M12))) else k M12))) := fun k => by
    rw [s2, g_if00, gj_bnd2_s, g_if00]
    exact g_LS_no h
  by_cases c2 : q < 4
  · rw [if_pos c2, if_pos (show f_unl s q = 0 by unfold f_unl; rw [if_neg (by omega)])]
    exact no _
  have q8 : 0 ≤ q ∧ q < 8 := by omega
  rw [if_neg c2, if_neg (show ¬ f_unl s q = 0 by unfold f_unl; rw [if_pos ⟨c, by omega, by omega⟩]; decide)]
  have ec : ∀ M, f_X12_coupleOf s q M = 4 * s + (q - 4) := fun M => by rw [p_cpl p8 q8]; omega
  have ef : f_cpl s q = 4 * s + (q - 4) := by
    unfold f_cpl
    rw [if_pos (by omega), gj_wle (x := s * 4) (by omega) (by omega), gj_wle (x := s * 4 + q) (by omega) (by omega), gj_wle (by omega) (by omega)]
    omega
  have hi : 0 ≤ 4 * s + (q - 4) ∧ 4 * s + (q - 4) < 16 := by omega
  unfold gj_letI
  simp only [ec, ef]
  generalize 4 * s + (q - 4) = i at *
  rw [f_at_in hi, hd.ft i hi.1 hi.2, gj_chkp hi]
  by_cases c4 : R 105 i = 0
  · rw [if_pos c4, if_pos c4, s1, s2, g_if10, gj_bnd_s, gj_bnd2_s, g_if10, gj_chkp hi]
    unfold gj_let
    rw [f_put_in hi]
    have h := g_TK_adv h
    have hd := g_DD_s hd g_sC_adv g_sR_radv
    generalize g_adv C = C at *
    generalize g_radv R = R at *
    have h := g_TK_cu (z := 13) (i := i) (v := 1) h ⟨by decide, by decide, by omega⟩
    have h := g_TK_ru (z := 105) (i := i) (v := 1) h ⟨by decide, by omega⟩
    have hd := g_DD_ft (i := i) (v := 1) hd
    generalize gj_up C 13 i 1 = C at *
    generalize gj_up R 105 i 1 = R at *
    refine g_LS_take h hi (by decide) (by decide) (by decide) (fun v D U v0 v1 h e9 sC sR => ?_)
    have hd := g_DD_s hd sC sR
    rw [f_put_in hi, e9]
    have h := g_TK_cu (z := 8) (i := i) (v := v) h ⟨by decide, by decide, by omega⟩
    have h := g_TK_ru (z := 96) (i := i) (v := v) h ⟨by decide, by omega⟩
    have hd := g_DD_v8 (i := i) (v := v) hd ⟨v0, v1⟩
    exact g_LS_stop h hd
  · rw [if_neg c4, if_neg c4]
    exact no _
/-- what is told once -/
theorem p_first {b : Int} {C R : gj_M} {j : Nat} {w : Int} (h : g_TK b C R) (hd : g_DD C R) (hj : j < 5) (hw : w = 4 + (j : Int)) (k : gj_M → Option (Int × gj_M)) (k' : gj_M → Option (Int × gj_M))
    (hk : ∀ M, J_X12_onceRead_20 w 1 M = gj_bnd2 (F_X12_passes 1 M) (fun x2 M3 => if x2 = 0 then some (0, M3) else gj_chk (0 ≤ w ∧ w < 9) (gj_let (gj_up M3 106 w 1) k')))
    (K : ∀ D U, g_TK b D U → g_DD D U → g_LS b (k D) (k' U)) :
    g_LS b (gj_bnd2 (F_X6_firstTold (2 ^ j) C) (fun x M => if x = 0 then some (0, M) else k M)) (F_X12_onceRead w R) := by
  unfold F_X6_firstTold F_X12_onceRead
  have hb := (hd.bt).2.2 j hj
  rw [if_neg (c := w < 4) (by omega), gj_chkp (by omega)]
  rw [hw] at hk ⊢
  by_cases c : gj_and (C 10 5) (2 ^ j) = 0
  · have h1 : g_TK b (gj_up C 10 5 (gj_or (C 10 5) (2 ^ j))) R := g_TK_cu h (by decide)
    rw [if_pos c, if_pos (hb.mp c), hk]
    obtain ⟨s1, -, s2⟩ := p_scans h1
    dsimp only [gj_let]
    rw [s1, s2, g_if10, gj_bnd_s, gj_bnd2_s, gj_bnd2_s, g_if10, g_if10, gj_chkp (by omega)]
    have h2 := g_TK_adv h1
    refine K _ _ (g_TK_ru h2 ⟨by decide, by omega⟩) ?_
    have hd1 := g_DD_bt (j := j) hd hj
    have e5 : gj_up C 10 5 (gj_or (C 10 5) (2 ^ j)) 10 5 = g_adv (gj_up C 10 5 (gj_or (C 10 5) (2 ^ j))) 10 5 := g_sC_adv.2.symm
    have hu : gj_up (g_radv R) 106 (4 + (j : Int)) 1 = gj_up (g_radv R) 106 (4 + (j : Int)) 1 := rfl
    refine g_DD_s hd1 g_sC_adv (fun z hz => ?_)
    funext i
    unfold gj_up
    rw [g_sR_radv z hz]
  · rw [if_neg c, if_neg (fun q => c (hb.mpr q)), gj_bnd2_s, g_if00]
    unfold J_X12_onceRead_20
    obtain ⟨s1, -, s2⟩ := p_scans h
    rw [s2, g_if00, gj_bnd2_s, g_if00]
    exact g_LS_no h
/-- a head is told -/
theorem p_head {b : Int} {C R : gj_M} {lo hi k j : Int} {f f' : gj_M → Option (Int × gj_M)} (h : g_TK b C R) (hd : g_DD C R) (hk : 0 ≤ k ∧ k < 8) (hj : j = k + 2) (h0 : 0 ≤ lo) (h9 : hi ≤ 9999) (hb : ∀ v, lo ≤ v → v ≤ hi → g_hb k v) (K : ∀ D U, g_TK b D U → g_DD D U → g_LS b (f D) (f' U)) : g_LS b (gj_bnd2 (F_X6_takeNumber lo hi C) (fun x M => if x = 0 then some (0, M) else gj_let (gj_up M 3 j (M 10 9)) f)) (gj_bnd2 (F_X12_into 99 8 k lo hi R) (fun x M => if x = 0 then some (0, M) else f' M)) := by
  refine g_LS_take h hk h0 h9 (by decide) (fun v D U v0 v1 h e9 sC sR => ?_)
  unfold gj_let
  rw [e9, hj]
  exact K _ _ (g_TK_ru (g_TK_cu h ⟨by decide, by decide, by omega⟩) ⟨by decide, by omega⟩) (g_DD_hd (g_DD_s hd sC sR) hk.1 (hb v v0 v1))
theorem p_worth {b : Int} {C R : gj_M} (h : g_TK b C R) (hd : g_DD C R) : g_LS b (F_X6_readWorth C) (F_X12_onceRead 4 R) := by
  refine p_first (j := 0) h hd (by decide) (by decide) _ _ (fun M => by unfold J_X12_onceRead_20; simp only [if_pos]; rfl) (fun D U h hd => ?_)
  refine p_head h hd (by decide) (by decide) (by decide) (by decide) (fun v a b => by unfold g_hb; simp; omega) (fun D U h hd => ?_)
  refine p_head h hd (by decide) (by decide) (by decide) (by decide) (fun v a b => by unfold g_hb; simp; omega) (fun D U h hd => ?_)
  exact g_LS_stop h hd
theorem p_house {b : Int} {C R : gj_M} (h : g_TK b C R) (hd : g_DD C R) : g_LS b (F_X6_readHouse C) (F_X12_onceRead 5 R) := by
  refine p_first (j := 1) h hd (by decide) (by decide) _ _ (fun M => by unfold J_X12_onceRead_20; simp only [if_neg (show ¬ (5 : Int) = 4 by decide), if_pos]; rfl) (fun D U h hd => ?_)
  refine p_head h hd (by decide) (by decide) (by decide) (by decide) (fun v a b => by unfold g_hb; simp; omega) (fun D U h hd => ?_)
  refine p_head h hd (by decide) (by decide) (by decide) (by decide) (fun v a b => by unfold g_hb; simp; omega) (fun D U h hd => ?_)
  exact g_LS_stop h hd
theorem p_child {b : Int} {C R : gj_M} (h : g_TK b C R) (hd : g_DD C R) : g_LS b (F_X6_readChild C) (F_X12_onceRead 6 R) := by
  refine p_first (j := 2) h hd (by decide) (by decide) _ _ (fun M => by unfold J_X12_onceRead_20; simp only [if_neg (show ¬ (6 : Int) = 4 by decide), if_neg (show ¬ (6 : Int) = 5 by decide), if_pos]; rfl) (fun D U h hd => ?_)
  refine p_head h hd (by decide) (by decide) (by decide) (by decide) (fun v a b => by unfold g_hb; simp; omega) (fun D U h hd => ?_)
  refine p_head h hd (by decide) (by decide) (by decide) (by decide) (fun v a b => by unfold g_hb; simp; omega) (fun D U h hd => ?_)
  exact g_LS_stop h hd
theorem p_cow {b : Int} {C R : gj_M} (h : g_TK b C R) (hd : g_DD C R) : g_LS b (F_X6_readCow C) (F_X12_onceRead 7 R) := by
  refine p_first (j := 3) h hd (by decide) (by decide) _ _ (fun M => by unfold J_X12_onceRead_20; simp only [if_neg (show ¬ (7 : Int) = 4 by decide), if_neg (show ¬ (7 : Int) = 5 by decide), if_neg (show ¬ (7 : Int) = 6 by decide), if_pos]; rfl) (fun D U h hd => ?_)
  refine p_head h hd (by decide) (by decide) (by decide) (by decide) (fun v a b => by unfold g_hb; simp; omega) (fun D U h hd => ?_)
  exact g_LS_stop h hd
theorem p_ahead {b : Int} {C R : gj_M} (h : g_TK b C R) (hd : g_DD C R) : g_LS b (F_X6_readAhead C) (F_X12_onceRead 8 R) := by
  refine p_first (j := 4) h hd (by decide) (by decide) _ _ (fun M => by unfold J_X12_onceRead_20; simp only [if_neg (show ¬ (8 : Int) = 4 by decide), if_neg (show ¬ (8 : Int) = 5 by decide), if_neg (show ¬ (8 : Int) = 6 by decide), if_neg (show ¬ (8 : Int) = 7 by decide)]; rfl) (fun D U h hd => ?_)
  unfold J_X12_onceRead_210
  refine p_head h hd (by decide) (by decide) (by decide) (by decide) (fun v a b => by unfold g_hb; simp; omega) (fun D U h hd => ?_)
  exact g_LS_stop h hd
