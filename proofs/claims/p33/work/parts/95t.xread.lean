/-! PURE: the full relation is kept by the reckoning calls, and the answers agree -/
theorem x_best {M : gj_M} {a b d : Int} (h : g_FK M M) : ∃ v D U, F_X11_best a b d M = some (v, D) ∧ F_X12_best a b d D = some (v, U) ∧ g_FK U U := by
  obtain ⟨v, D, v', U, e1, e2, hU⟩ := w_best (a := a) (b := b) (d := d) h.1
  have f1 : gj_Fr _ _ M D := fr_X11_best _ _ _ _ e1
  have f2 : gj_Fr _ _ D U := fr_X12_best _ _ _ _ e2
  have hD : g_FL D D := g_FL_d h.2 f1 (by decide) (by decide)
  have hM : g_FL M D := g_FL_rz h.2 f1 (by decide)
  have hV : g_VS M D := (g_WK_rz h.1 (g_hi79 f1 (by decide))).vs
  obtain ⟨x, D2, U2, k1, k2⟩ := p_bestJ (a := a) (n := b) (w := d) hV hM.dy
  obtain ⟨a1, a2⟩ := g_some2 e1 k1
  obtain ⟨b1, b2⟩ := g_some2 e2 k2
  refine ⟨v, D, U, e1, ?_, hU, g_FL_d hD f2 (by decide) (by decide)⟩
  rw [e2, b1, a1]
theorem x_act {M : gj_M} {a b d : Int} (h : g_FK M M) : ∃ v D U, F_X11_act a b d M = some (v, D) ∧ F_X12_act a b d D = some (v, U) ∧ g_FK U U := by
  obtain ⟨v, D, v', U, e1, e2, hU⟩ := w_act (a := a) (b := b) (d := d) h.1
  have f1 : gj_Fr _ _ M D := fr_X11_act _ _ _ _ e1
  have f2 : gj_Fr _ _ D U := fr_X12_act _ _ _ _ e2
  have hD : g_FL D D := g_FL_d h.2 f1 (by decide) (by decide)
  have hM : g_FL M D := g_FL_rz h.2 f1 (by decide)
  have hV : g_VS M D := (g_WK_rz h.1 (g_hi79 f1 (by decide))).vs
  obtain ⟨x, D2, U2, k1, k2⟩ := p_actJ (a := a) (n := b) (b := d) hV hM.dy
  obtain ⟨a1, a2⟩ := g_some2 e1 k1
  obtain ⟨b1, b2⟩ := g_some2 e2 k2
  refine ⟨v, D, U, e1, ?_, hU, g_FL_d hD f2 (by decide) (by decide)⟩
  rw [e2, b1, a1]
theorem x_silent {M : gj_M} {a b : Int} (h : g_FK M M) : ∃ v D U, F_X11_silent a b M = some (v, D) ∧ F_X12_silent a b D = some (v, U) ∧ g_FK U U := by
  obtain ⟨v, D, v', U, e1, e2, hU⟩ := w_silent (a := a) (b := b) h.1
  have f1 : gj_Fr _ _ M D := fr_X11_silent _ _ _ e1
  have f2 : gj_Fr _ _ D U := fr_X12_silent _ _ _ e2
  have hD : g_FL D D := g_FL_d h.2 f1 (by decide) (by decide)
  have hM : g_FL M D := g_FL_rz h.2 f1 (by decide)
  have hV : g_VS M D := (g_WK_rz h.1 (g_hi79 f1 (by decide))).vs
  obtain ⟨x, D2, U2, k1, k2⟩ := p_silentJ (a := a) (n := b) hV hM.dy
  obtain ⟨a1, a2⟩ := g_some2 e1 k1
  obtain ⟨b1, b2⟩ := g_some2 e2 k2
  refine ⟨v, D, U, e1, ?_, hU, g_FL_d hD f2 (by decide) (by decide)⟩
  rw [e2, b1, a1]
theorem x_bar {M : gj_M} {a b d f : Int} (h : g_FK M M) : ∃ v D U, F_X11_bar a b d f M = some (v, D) ∧ F_X12_bar a b d f D = some (v, U) ∧ g_FK U U := by
  obtain ⟨v, D, v', U, e1, e2, hU⟩ := w_bar (a := a) (b := b) (d := d) (f := f) h.1
  have f1 : gj_Fr _ _ M D := fr_X11_bar _ _ _ _ _ e1
  have f2 : gj_Fr _ _ D U := fr_X12_bar _ _ _ _ _ e2
  have hD : g_FL D D := g_FL_d h.2 f1 (by decide) (by decide)
  have hM : g_FL M D := g_FL_rz h.2 f1 (by decide)
  have hV : g_VS M D := (g_WK_rz h.1 (g_hi79 f1 (by decide))).vs
  obtain ⟨x, D2, U2, k1, k2⟩ := p_barJ (a := a) (b := b) (m := d) (n := f) hV hM.dy
  obtain ⟨a1, a2⟩ := g_some2 e1 k1
  obtain ⟨b1, b2⟩ := g_some2 e2 k2
  refine ⟨v, D, U, e1, ?_, hU, g_FL_d hD f2 (by decide) (by decide)⟩
  rw [e2, b1, a1]
theorem x_price {M : gj_M} {a b : Int} (h : g_FK M M) : ∃ v D U, F_X11_price a b M = some (v, D) ∧ F_X12_price a b D = some (v, U) ∧ g_FK U U := by
  obtain ⟨v, D, v', U, e1, e2, hU⟩ := w_price (a := a) (b := b) h.1
  have f1 : gj_Fr _ _ M D := fr_X11_price _ _ _ e1
  have f2 : gj_Fr _ _ D U := fr_X12_price _ _ _ e2
  have hD : g_FL D D := g_FL_d h.2 f1 (by decide) (by decide)
  have hM : g_FL M D := g_FL_rz h.2 f1 (by decide)
  have hV : g_VS M D := (g_WK_rz h.1 (g_hi79 f1 (by decide))).vs
  obtain ⟨x, D2, U2, k1, k2⟩ := p_priceJ (a := a) (n := b) hV hM.dy
  obtain ⟨a1, a2⟩ := g_some2 e1 k1
  obtain ⟨b1, b2⟩ := g_some2 e2 k2
  refine ⟨v, D, U, e1, ?_, hU, g_FL_d hD f2 (by decide) (by decide)⟩
  rw [e2, b1, a1]
theorem x_waits {M : gj_M} {a b d : Int} (h : g_FK M M) : ∃ v D U, F_X11_waits a b d M = some (v, D) ∧ F_X12_waits a b d D = some (v, U) ∧ g_FK U U := by
  obtain ⟨v, D, v', U, e1, e2, hU⟩ := w_waits (a := a) (b := b) (d := d) h.1
  have f1 : gj_Fr _ _ M D := fr_X11_waits _ _ _ _ e1
  have f2 : gj_Fr _ _ D U := fr_X12_waits _ _ _ _ e2
  have hD : g_FL D D := g_FL_d h.2 f1 (by decide) (by decide)
  have hM : g_FL M D := g_FL_rz h.2 f1 (by decide)
  have hV : g_VS M D := (g_WK_rz h.1 (g_hi79 f1 (by decide))).vs
  obtain ⟨x, D2, U2, k1, k2⟩ := p_waitsJ (a := a) (b := b) (n := d) hV hM.dy
  obtain ⟨a1, a2⟩ := g_some2 e1 k1
  obtain ⟨b1, b2⟩ := g_some2 e2 k2
  refine ⟨v, D, U, e1, ?_, hU, g_FL_d hD f2 (by decide) (by decide)⟩
  rw [e2, b1, a1]
