/-! PURE: the lines, side by side -/
theorem p_think {b : Int} {C R : gj_M} (h : g_TK b C R) (hd : g_DD C R) : g_LS b (F_X6_readThink C) (F_X12_thinkRead R) := by
  obtain ⟨s1, -, s2⟩ := p_scans h
  unfold F_X6_readThink F_X12_thinkRead
  rw [s1, s2, g_if10, gj_bnd_s, gj_bnd2_s, g_if10]
  have h := g_TK_adv h
  have hd := g_DD_s hd g_sC_adv g_sR_radv
  generalize g_adv C = C at *
  generalize g_radv R = R at *
  obtain ⟨a, r, s, e1, e2, e3, e4, e5, -⟩ := p_named h hd
  rw [e1, e4, gj_bnd_s, gj_bnd_s, e3, gj_bnd_s]
  unfold J_X12_thinkRead_26
  obtain ⟨s1, -, s2⟩ := p_scans h
  by_cases c : s = -1
  · rw [if_pos c, if_pos c, s2, g_if00, gj_bnd2_s, g_if00]
    exact g_LS_no h
  rw [if_neg c, if_neg c, s2, g_if10, gj_bnd2_s, g_if10, s1, gj_bnd_s]
  have p8 : 0 ≤ s ∧ s < 8 := by omega
  have h := g_TK_adv h
  have hd := g_DD_s hd g_sC_adv g_sR_radv
  generalize g_adv C = C at *
  generalize g_radv R = R at *
  obtain ⟨a2, r2, q, e1, e2, e3, e4, e5, -⟩ := p_named h hd
  rw [e1, e4, gj_bnd_s, gj_bnd_s, e3, gj_bnd_s]
  obtain ⟨s1, -, s2⟩ := p_scans h
  unfold J_X12_thinkRead_72
  have no : ∀ k : gj_M → Option (Int × gj_M), g_LS b (some (0, C)) (gj_bnd2 (F_X12_passes 0 R) (fun x11 M12 => (if x11 = 0 then (some ((0, M12))) else k M12))) := fun k => by
    rw [s2, g_if00, gj_bnd2_s, g_if00]
    exact g_LS_no h
  by_cases c2 : q = -1
  · rw [if_pos c2, if_pos (show f_unl s q = 0 by unfold f_unl; rw [if_neg (by omega)])]
    exact no _
  have q8 : 0 ≤ q ∧ q < 8 := by omega
  rw [if_neg c2, gj_wle (x := Int.tdiv s 4) (by rw [g_tdiv p8.1]; omega) (by rw [g_tdiv p8.1]; omega), gj_wle (x := Int.tdiv q 4) (by rw [g_tdiv q8.1]; omega) (by rw [g_tdiv q8.1]; omega), g_tdiv p8.1, g_tdiv q8.1]
  by_cases c3 : s / 4 = q / 4
  · rw [if_pos c3, if_pos (show f_unl s q = 0 by unfold f_unl; rw [if_neg (by omega)])]
    exact no _
  rw [if_neg c3, if_neg (show ¬ f_unl s q = 0 by unfold f_unl; rw [if_pos ⟨c, c2, by omega⟩]; decide)]
  rw [p_vw p8 q8]
  have ec : ∀ M, f_X12_coupleOf s q M = 4 * s + q % 4 := fun M => p_cpl p8 q8
  have hi : 0 ≤ 4 * s + q % 4 ∧ 4 * s + q % 4 < 32 := by omega
  unfold gj_letI
  simp only [ec]
  generalize 4 * s + q % 4 = i at *
  rw [f_at_in hi, hd.th i hi.1 hi.2, gj_chkp hi]
  by_cases c4 : R 104 i = 0
  · rw [if_pos c4, if_pos c4, s1, s2, g_if10, gj_bnd_s, gj_bnd2_s, g_if10, gj_chkp hi]
    unfold gj_let
    rw [f_put_in hi]
    have h := g_TK_adv h
    have hd := g_DD_s hd g_sC_adv g_sR_radv
    generalize g_adv C = C at *
    generalize g_radv R = R at *
    have h := g_TK_cu (z := 12) (i := i) (v := 1) h ⟨by decide, by decide, by omega⟩
    have h := g_TK_ru (z := 104) (i := i) (v := 1) h ⟨by decide, by omega⟩
    have hd := g_DD_th (i := i) (v := 1) hd
    generalize gj_up C 12 i 1 = C at *
    generalize gj_up R 104 i 1 = R at *
    refine g_LS_take h hi (by decide) (by decide) (by decide) (fun v D U v0 v1 h e9 sC sR => ?_)
    have hd := g_DD_s hd sC sR
    rw [f_put_in hi, e9]
    have h := g_TK_cu (z := 5) (i := i) (v := v) h ⟨by decide, by decide, by omega⟩
    have h := g_TK_ru (z := 87) (i := i) (v := v) h ⟨by decide, by omega⟩
    have hd := g_DD_v5 (i := i) (v := v) hd ⟨v0, v1⟩
    generalize gj_up D 5 i v = C at *
    generalize gj_up U 87 i v = R at *
    refine g_LS_take h hi (by decide) (by decide) (by decide) (fun v D U v0 v1 h e9 sC sR => ?_)
    have hd := g_DD_s hd sC sR
    rw [f_put_in hi, e9, gj_up_eq, gj_chkp hi]
    have e10 : gj_up D 6 i v 10 9 = v := by rw [gj_up_z (by decide), e9]
    dsimp only
    rw [e10]
    have h := g_TK_cu (z := 6) (i := i) (v := v) h ⟨by decide, by decide, by omega⟩
    have h := g_TK_ru (z := 90) (i := i) (v := v) h ⟨by decide, by omega⟩
    have hd := g_DD_v6 (i := i) (v := v) hd ⟨v0, v1⟩
    generalize gj_up D 6 i v = C at *
    generalize gj_up U 90 i v = R at *
    refine g_LS_take h hi (by decide) (by omega) (by decide) (fun w D U w0 w1 h e9 sC sR => ?_)
    have hd := g_DD_s hd sC sR
    rw [f_put_in hi, e9]
    have h := g_TK_cu (z := 7) (i := i) (v := w) h ⟨by decide, by decide, by omega⟩
    have h := g_TK_ru (z := 93) (i := i) (v := w) h ⟨by decide, by omega⟩
    have hd := g_DD_v7 (i := i) (v := w) hd ⟨w0, by omega⟩
    exact g_LS_stop h hd
  · rw [if_neg c4, if_neg c4]
    exact no _
