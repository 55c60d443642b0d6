/-! PURE: a line of a person, side by side -/
theorem g_sC_both {C D : gj_M} {z i v : Int} (h : g_sC C D) (hz : z ≠ 10) : g_sC (gj_up C z i v) (gj_up D z i v) := by
  refine ⟨fun w hw => ?_, ?_⟩
  · funext j
    unfold gj_up
    rw [h.1 w hw]
  · rw [gj_up_z (fun q => hz q.symm), gj_up_z (fun q => hz q.symm)]
    exact h.2
theorem g_DD.ns {C R : gj_M} (h : g_DD C R) {s : Int} (hs : s = 0 ∨ s = 1) : C 3 s = R 102 s ∧ 0 ≤ C 3 s ∧ C 3 s ≤ 4 := by
  rcases hs with rfl | rfl
  · exact ⟨h.n0, h.b0⟩
  · exact ⟨h.n1, h.b1⟩
theorem p_person84 {b : Int} {C R : gj_M} {s i v r : Int} (hs : s = 0 ∨ s = 1) (h : g_TK b C R) (hd : g_DD C R) (hc : C 3 s < 4) (hi : i = 4 * s + C 3 s) (h9 : C 10 9 = v) (hv : 0 ≤ v ∧ v ≤ 99) (hn : g_nm (C 11 i) (R 103 i)) (h84 : R 84 i = v) :
    g_LS b (J_X6_readPerson_84 (4 * s) i C) (gj_bnd2 (F_X12_closes (gj_up R 102 s (R 102 s + 1))) (fun x M => some (x, M))) := by
  have ns := hd.ns hs
  have e84 : gj_up R 84 i v = R := by rw [← h84]; exact gj_up_id
  have np : ¬ g_pe C 3 i := by
    unfold g_pe
    rcases hs with rfl | rfl <;> omega
  have hd := g_DD_pr (i := i) (v := v) (w := v) hd np
  rw [e84] at hd
  unfold J_X6_readPerson_84
  dsimp only [gj_let]
  rw [f_put_in (by omega), h9]
  have t : g_TK b (gj_up C 4 i v) R := g_TK_cu h ⟨by decide, by decide, by omega⟩
  have ns2 := hd.ns hs
  have e3 : gj_up C 4 i v 3 s = C 3 s := gj_up_z (by decide)
  have ct := g_DD_ct hd hs (by rw [e3]; exact hc) (by rw [e3, ← hi, gj_up_z (by decide)]; exact hn) (by rw [e3, ← hi, gj_up_eq, h84]; exact ⟨rfl, hv⟩)
  rw [ns2.1] at ct
  have key : g_LS b (gj_bnd2 (F_X6_takeStop (gj_up (gj_up C 4 i v) 3 s (R 102 s + 1))) (fun x M => some (x, M))) (gj_bnd2 (F_X12_closes (gj_up R 102 s (R 102 s + 1))) (fun x M => some (x, M))) :=
    g_LS_stop' (g_TK_ru (g_TK_cu t ⟨by decide, by decide, by omega⟩) ⟨by decide, by omega⟩) ct
  have ew : gj_w (gj_up C 4 i v 3 s + 1) = R 102 s + 1 := by rw [gj_wle (by omega) (by omega), ns2.1]
  rcases hs with rfl | rfl
  · rw [if_pos (by omega), ew]
    exact key
  · rw [if_neg (by omega), ew]
    exact key
theorem p_person {b : Int} {C R : gj_M} {s : Int} (hs : s = 0 ∨ s = 1) (h : g_TK b C R) (hd : g_DD C R) : g_LS b (F_X6_readPerson (4 * s) (C 3 s) C) (F_X12_personRead s R) := by
  have ns := hd.ns hs
  obtain ⟨s1, -, s2⟩ := p_scans h
  unfold F_X6_readPerson F_X12_personRead
  dsimp only [gj_letI]
  rw [gj_chkp (c := 0 ≤ s ∧ s < 2) (by omega), gj_chkp (c := 0 ≤ s ∧ s < 2) (by omega)]
  rw [gj_wle (x := 4 * s) (by omega) (by omega), gj_wle (x := 4 * s + C 3 s) (by omega) (by omega), gj_wle (x := 4 * s + R 102 s) (by omega) (by omega)]
  unfold J_X12_personRead_31
  by_cases c' : 4 ≤ C 3 s
  · rw [if_neg (by omega), if_pos (show 4 ≤ R 102 s by omega), s2, g_if00, gj_bnd2_s, g_if00]
    exact g_LS_no h
  have c : C 3 s < 4 := by omega
  rw [if_pos c, if_neg (show ¬ 4 ≤ R 102 s by omega), s1, s2, g_if10, gj_bnd_s, gj_bnd2_s, g_if10]
  have h := g_TK_adv h
  have hd := g_DD_s hd g_sC_adv g_sR_radv
  have e3 : g_adv C 3 = C 3 := g_sC_adv.1 3 (by decide)
  have e102 : g_radv R 102 = R 102 := g_sR_radv 102 (by decide)
  rw [← e3] at c ns ⊢
  rw [← e102] at ns ⊢
  generalize g_adv C = C at *
  generalize g_radv R = R at *
  obtain ⟨a, r, q, e1, e2, e3, e4, e5, e6⟩ := p_named h hd
  obtain ⟨s1, -, s2⟩ := p_scans h
  rw [e1, e2, gj_bnd_s, gj_bnd_s, e4, gj_bnd_s]
  unfold J_X12_personRead_66
  have no : ∀ k : gj_M → Option (Int × gj_M), g_LS b (some (0, C)) (gj_bnd2 (F_X12_passes 0 R) (fun x11 M12 => (if x11 = 0 then (some ((0, M12))) else k M12))) := fun k => by
    rw [s2, g_if00, gj_bnd2_s, g_if00]
    exact g_LS_no h
  rcases e6 with ⟨a0, nm, r0, lw⟩ | ⟨r0, bad⟩
  · rw [if_neg a0, if_neg r0, lw, gj_bnd_s, g_if00, e3, gj_bnd_s]
    by_cases cq : q = -1
    · rw [if_pos cq, if_pos cq, s1, s2, g_if10, gj_bnd_s, gj_bnd2_s, g_if10, gj_chkp (by omega)]
      have h := g_TK_adv h
      have hd := g_DD_s hd g_sC_adv g_sR_radv
      have e3 : g_adv C 3 = C 3 := g_sC_adv.1 3 (by decide)
      have e102 : g_radv R 102 = R 102 := g_sR_radv 102 (by decide)
      rw [← e3] at c ns ⊢
      rw [← e102] at ns ⊢
      generalize g_adv C = C at *
      generalize g_radv R = R at *
      have ei : 4 * s + C 3 s = 4 * s + R 102 s := by rw [ns.1]
      rw [← ei]
      have np : ¬ g_pe C 3 (4 * s + C 3 s) := by
        unfold g_pe
        rcases hs with rfl | rfl <;> omega
      have hi : 0 ≤ 4 * s + C 3 s ∧ 4 * s + C 3 s < 8 := by omega
      have hcs := ns.1
      generalize hi2 : 4 * s + C 3 s = i at *
      unfold gj_let
      have t : g_TK b C (gj_up R 103 i r) := g_TK_ru h ⟨by decide, by omega⟩
      refine g_LS_take t hi (by decide) (by decide) (by decide) (fun v D U v0 v1 t2 e9 sC sR => ?_)
      have hd2 := g_DD_s (g_DD_nm (i := i) (v := a) (w := r) hd np) (g_sC_both sC (by decide)) sR
      have t3 : g_TK b (gj_up D 11 i a) (gj_up U 84 i v) := g_TK_ru (g_TK_cu t2 ⟨by decide, by decide, by omega⟩) ⟨by decide, by omega⟩
      have eU : U 102 = R 102 := by rw [sR 102 (by decide)]; funext j; exact gj_up_z (by decide)
      have eD : D 3 = C 3 := sC.1 3 (by decide)
      have e103 : U 103 i = r := by rw [sR 103 (by decide), gj_up_eq]
      have ec : gj_up U 84 i v 102 s = R 102 s := by rw [gj_up_z (by decide), eU]
      have np2 : ¬ g_pe (gj_up D 11 i a) 3 i := fun q => np (by
        unfold g_pe at q ⊢
        rw [gj_up_z (by decide), gj_up_z (by decide), eD] at q
        exact q)
      have hd3 : g_DD (gj_up D 11 i a) (gj_up U 84 i v) := by
        have := g_DD_pr (i := i) (v := gj_up D 11 i a 4 i) (w := v) hd2 np2
        rw [gj_up_id] at this
        exact this
      have ed : gj_up D 11 i a 3 s = C 3 s := by rw [gj_up_z (by decide), eD]
      have fin := p_person84 (r := r) (v := v) hs t3 hd3 (by rw [ed]; exact c) (by rw [ed]; exact hi2.symm) (by rw [gj_up_z (by decide)]; exact e9) ⟨v0, v1⟩ (by rw [gj_up_eq, gj_up_z (by decide), e103]; exact nm) gj_up_eq
      rw [ec] at fin
      rw [if_neg (by omega), if_neg (by omega), gj_chkp hi, gj_chkp (by omega), gj_chkp (by omega), ec, gj_wle (x := R 102 s + 1) (by omega) (by omega)]
      exact fin
    · rw [if_neg cq, if_neg cq]
      exact no _
  · rw [if_pos r0]
    by_cases a0 : a = 0
    · rw [if_pos a0]
      exact no _
    · rcases bad with b | ⟨x, x1, x2⟩
      · exact absurd b a0
      · rw [if_neg a0, x1, gj_bnd_s, if_neg x2]
        exact no _
