/-! PURE: a whole feed, side by side -/
theorem p_feed {C R : gj_M} {a b c d e : Int} (h : g_TX C R) (hr : g_RF C R) : ∃ x D U, F_X11_feed a b c d e C = some (x, D) ∧ F_X12_feed a b c d e R = some (x, U) ∧ g_TX D U ∧ g_RF D U := by
  have t1 := h.1
  have t2 := h.2.1.1
  have t3 := h.2.1.2.1
  unfold F_X11_feed F_X12_feed f_X9_hasRoomFor f_X9_length
  dsimp only [gj_letI]
  rw [gj_wle (x := C 1 1 + 20) (by omega) (by omega), gj_wle (x := R 79 2 + 20) (by omega) (by omega)]
  by_cases q : 500 < C 1 1 + 20
  · rw [if_pos q, if_pos rfl, if_neg (show ¬ R 79 2 + 20 ≤ 500 by omega)]
    unfold f_X11_refuse F_X12_refuse
    rw [f_put_in (show 0 ≤ (1 : Int) ∧ (1 : Int) < 3 by decide), f_at_in (show 0 ≤ (1 : Int) ∧ (1 : Int) < 3 by decide), gj_chkp (show 0 ≤ (1 : Int) ∧ (1 : Int) < 3 by decide), gj_chkp (show 0 ≤ (1 : Int) ∧ (1 : Int) < 3 by decide)]
    have bad : g_TX (gj_up C 78 1 (gj_w (C 78 1 + 1))) (gj_up R 80 1 (gj_w (R 80 1 + 1))) := g_TX_s h (funext fun _ => gj_up_z (by decide)) (funext fun _ => gj_up_z (by decide)) (gj_up_z (by decide)) (funext fun _ => gj_up_z (by decide))
    exact ⟨-1, gj_up C 78 1 (gj_w (C 78 1 + 1)), gj_up R 80 1 (gj_w (R 80 1 + 1)), rfl, rfl, bad, g_RF_up (i := 1) hr (by decide) (by decide)⟩
  · rw [if_neg q, if_neg (show ¬ (1 : Int) = 0 by decide), if_pos (show R 79 2 + 20 ≤ 500 by omega)]
    obtain ⟨C1, R1, x1, y1, h1, l1⟩ := p_feed4 (a := a) h (by omega)
    obtain ⟨C2, R2, x2, y2, h2, l2⟩ := p_feed4 (a := b) h1 (by omega)
    obtain ⟨C3, R3, x3, y3, h3, l3⟩ := p_feed4 (a := c) h2 (by omega)
    obtain ⟨C4, R4, x4, y4, h4, l4⟩ := p_feed4 (a := d) h3 (by omega)
    obtain ⟨C5, R5, x5, y5, h5, l5⟩ := p_feed4 (a := e) h4 (by omega)
    rw [x1, y1, gj_bnd_s, gj_bnd_s, x2, y2, gj_bnd_s, gj_bnd_s, x3, y3, gj_bnd_s, gj_bnd_s, x4, y4, gj_bnd_s, gj_bnd_s, x5, y5, gj_bnd_s, gj_bnd_s]
    refine ⟨C5 1 1, C5, R5, rfl, by rw [h5.1], h5, fun i p r => ?_⟩
    have c78 : ∀ {M N : gj_M} {w : Int}, F_X9_append w M = some N → N 78 i = M 78 i := fun z => fr_X9_append _ _ z 78 i (by decide) (by unfold gj_fp; simp)
    have r80 : ∀ {M N : gj_M} {w : Int}, F_X12_feeds w M = some N → N 80 i = M 80 i := fun z => fr_X12_feeds _ _ z 80 i (by decide) (by unfold gj_fp; simp)
    rw [c78 x5, c78 x4, c78 x3, c78 x2, c78 x1, r80 y5, r80 y4, r80 y3, r80 y2, r80 y1]
    exact hr i p r
