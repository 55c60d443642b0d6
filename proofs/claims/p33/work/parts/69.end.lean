/-! PURE: end and status, side by side -/
def g_TX (C R : gj_M) : Prop := C 1 1 = R 79 2 ∧ g_CT C ∧ g_TT (C 2) (R 81) (C 1 1)
def g_RF (C R : gj_M) : Prop := ∀ i, 0 ≤ i → i < 3 → C 78 i = R 80 i
theorem g_RF_up {C R : gj_M} {i : Int} (h : g_RF C R) (h0 : 0 ≤ i) (h3 : i < 3) : g_RF (gj_up C 78 i (gj_w (C 78 i + 1))) (gj_up R 80 i (gj_w (R 80 i + 1))) := by
  intro j a b
  rw [gj_up_if, gj_up_if, h i h0 h3]
  split
  · rfl
  · exact h j a b
theorem g_TX_cut {C R : gj_M} {a : Int} (h : g_TX C R) (h0 : 0 ≤ a) (h1 : a ≤ C 1 1) : g_TX (gj_up C 1 1 a) (gj_up R 79 2 a) := by
  obtain ⟨t1, ⟨t2, t3, t4⟩, t5⟩ := h
  have e2 : gj_up C 1 1 a 2 = C 2 := funext fun _ => gj_up_z (by decide)
  have e81 : gj_up R 79 2 a 81 = R 81 := funext fun _ => gj_up_z (by decide)
  refine ⟨by rw [gj_up_eq, gj_up_eq], ?_, ?_⟩
  · unfold g_CT
    rw [gj_up_eq, e2]
    exact ⟨h0, by omega, fun i p q => t4 i p (by omega)⟩
  · rw [gj_up_eq, e2, e81]
    exact fun i p q => t5 i p (by omega)
theorem g_TX_s {C R D U : gj_M} (h : g_TX C R) (h1 : D 1 = C 1) (h2 : D 2 = C 2) (h3 : U 79 2 = R 79 2) (h4 : U 81 = R 81) : g_TX D U := by
  unfold g_TX g_CT
  rw [h1, h2, h3, h4]
  exact h
theorem p_end {C R : gj_M} {a : Int} (h : g_TX C R) (hr : g_RF C R) : ∃ x D U, f_X11_end a C = (x, D) ∧ F_X12_end a R = some (x, U) ∧ g_TX D U ∧ g_RF D U := by
  obtain ⟨t1, ⟨t2, t3, t4⟩, t5⟩ := id h
  unfold f_X11_end F_X12_end f_X12_in f_X11_refuse F_X12_deny f_X9_length f_X9_cutTo
  dsimp only [gj_letI]
  have bad : g_TX (gj_up C 78 2 (gj_w (C 78 2 + 1))) (gj_up R 80 2 (gj_w (R 80 2 + 1))) := g_TX_s h (funext fun _ => gj_up_z (by decide)) (funext fun _ => gj_up_z (by decide)) (gj_up_z (by decide)) (funext fun _ => gj_up_z (by decide))
  have bad2 := g_RF_up (i := 2) hr (by decide) (by decide)
  rw [f_put_in (show 0 ≤ (2 : Int) ∧ (2 : Int) < 3 by decide), f_at_in (show 0 ≤ (2 : Int) ∧ (2 : Int) < 3 by decide), gj_chkp (show 0 ≤ (2 : Int) ∧ (2 : Int) < 3 by decide), gj_chkp (show 0 ≤ (2 : Int) ∧ (2 : Int) < 3 by decide)]
  by_cases c : a < 0
  · rw [if_pos c, if_pos c, if_pos rfl]
    exact ⟨0, _, _, rfl, rfl, bad, bad2⟩
  · rw [if_neg c, if_neg c, if_neg c]
    by_cases d : a ≤ C 1 1
    · rw [if_pos d, if_neg (show ¬ R 79 2 < a by omega), if_neg (show ¬ (1 : Int) = 0 by decide), if_neg (show ¬ C 1 1 < a by omega)]
      refine ⟨1, _, _, rfl, rfl, g_TX_cut h (by omega) d, fun j p q => ?_⟩
      rw [show gj_let (gj_up C 1 1 a) (fun M1 => M1) = gj_up C 1 1 a from rfl, gj_up_z (by decide), gj_up_z (by decide)]
      exact hr j p q
    · rw [if_neg d, if_pos (show R 79 2 < a by omega), if_pos rfl]
      exact ⟨0, _, _, rfl, rfl, bad, bad2⟩
