/-! PURE: what is only told, asked of the reference; the start -/
theorem r_any {C R : gj_M} (h : g_VS C R) (hy : R 79 18 = 1 → g_RG R) : ∃ D, g_VS D R ∧ (R 79 18 = 1 → g_YS D R) := by
  rcases h with x | ⟨v, p⟩
  · exact ⟨C, Or.inl x, fun q => by omega⟩
  · obtain ⟨D, p, y⟩ := (hy v).rs
    exact ⟨D, Or.inr ⟨v, p⟩, fun _ => y⟩
theorem w_person {M : gj_M} {a b : Int} (h : g_WK M M) : ∃ v, F_X12_person a b M = some v := by
  obtain ⟨D, h1, h2⟩ := r_any h.vs h.rg
  exact ⟨_, p_personOf h1 h2⟩
theorem w_earned {M : gj_M} {a : Int} (h : g_WK M M) : ∃ v, F_X12_earned a M = some v := by
  obtain ⟨D, h1, h2⟩ := r_any h.vs h.rg
  exact ⟨_, p_earned h1 h2⟩
theorem w_two {M : gj_M} {a b c : Int} (h : g_WK M M) : ∃ v, F_X12_two_ a b c M = some v := by
  obtain ⟨D, h1, h2⟩ := r_any h.vs h.rg
  exact ⟨_, p_toldTwo h1 h2⟩
theorem w_think {M : gj_M} {a b c : Int} (h : g_WK M M) : F_X12_think a b c M = some (f_X11_think a b c M) := p_thinkOf h.vs
theorem w_shown {M : gj_M} {a b c : Int} (h : g_WK M M) : ∃ v v', F_X11_shown a b c M = some v ∧ F_X12_shown a b c M = some v' := by
  obtain ⟨D, h1, h2⟩ := r_any h.vs h.rg
  obtain ⟨v', e, -⟩ := p_shownOf (a := a) (b := b) (k := c) h1 h2
  obtain ⟨v, e1⟩ := c_shown (a := a) (b := b) (k := c) h.vs h.2.1.2.2.2.2.1
  exact ⟨v, v', e1, e⟩
theorem w_liking {M : gj_M} {a b : Int} (h : g_WK M M) : ∃ v, F_X12_liking a b M = some v := by
  obtain ⟨D, h1, h2⟩ := r_any h.vs h.rg
  exact ⟨_, p_likingOf h1 h2⟩
theorem w_log {M : gj_M} {a b : Int} (h : g_WK M M) : ∃ v, F_X12_log a b M = some v := r_log h.2.2.2
theorem w_status {M : gj_M} {a : Int} : ∃ v v', F_X11_status a M = some v ∧ F_X12_status a M = some v' := by
  unfold F_X11_status F_X12_status f_X12_in
  dsimp only [gj_letI]
  by_cases c : a < 0
  · rw [if_pos c, if_pos c, if_pos rfl]
    exact ⟨_, _, rfl, rfl⟩
  · rw [if_neg c, if_neg c]
    by_cases d : a < 3
    · rw [if_pos d, if_neg (show ¬ 2 < a by omega), if_neg (show ¬ (1 : Int) = 0 by decide), gj_chkp (by omega), gj_chkp (by omega)]
      exact ⟨_, _, rfl, rfl⟩
    · rw [if_neg d, if_pos (show 2 < a by omega), if_pos rfl]
      exact ⟨_, _, rfl, rfl⟩
theorem w_count {M : gj_M} {a : Int} (h : g_WK M M) : f_X12_count a M = f_X11_count a M := (p_count h.vs h.1 (fun _ => ⟨h.2.1.2.2.1.1, h.2.1.2.1.1⟩)).symm
/-- a new object, both sides -/
theorem w_new : g_WK gj_m0 gj_m0 := by
  have z : ∀ a i : Int, a ≠ 68 → a ≠ 58 → a ≠ 48 → a ≠ 22 → ¬ (a = 79 ∧ i = 37) → gj_m0 a i = 0 := by
    intro a i h1 h2 h3 h4 h5
    unfold gj_m0 k_mF
    rw [if_neg]
    rintro (⟨q, -, -⟩ | ⟨-, q⟩)
    · simp at q
      omega
    · exact h5 q
  have z0 : ∀ a i : Int, (a ≠ 68 ∧ a ≠ 58 ∧ a ≠ 48 ∧ a ≠ 22) ∧ ¬ (a = 79 ∧ i = 37) → gj_m0 a i = 0 := fun a i h => z a i h.1.1 h.1.2.1 h.1.2.2.1 h.1.2.2.2 h.2
  refine ⟨⟨?_, ⟨?_, ?_, fun i a b => ?_⟩, fun i a b => ?_⟩, ⟨Or.inl ⟨z0 _ _ (by omega), z0 _ _ (by omega), z0 _ _ (by omega)⟩, ?_, ?_, fun k a b => ?_, fun j a b => ?_, fun k a b j x y => ?_⟩, fun q => ?_, ?_⟩
  · rw [z0 1 1 (by omega), z0 79 2 (by omega)]
  · rw [z0 1 1 (by omega)]; decide
  · rw [z0 1 1 (by omega)]; decide
  · rw [z0 1 1 (by omega)] at b; omega
  · rw [z0 1 1 (by omega)] at b; omega
  · rw [z0 21 1 (by omega), z0 79 28 (by omega)]; exact ⟨rfl, by decide, by decide⟩
  · rw [z0 21 0 (by omega), z0 79 27 (by omega)]; exact ⟨rfl, by decide⟩
  · rw [z0 77 k (by omega), z0 135 k (by omega)]; exact ⟨rfl, fun q => absurd rfl q⟩
  · rw [z0 26 j (by omega), z0 27 j (by omega)]; exact ⟨by decide, by decide⟩
  · rw [z0 (52 + 10 * k) j (by omega), z0 (53 + 10 * k) j (by omega)]; exact ⟨by decide, by decide⟩
  · rw [z0 79 18 (by omega)] at q; exact absurd q (by decide)
  · rw [z0 79 29 (by omega)]; exact ⟨by decide, by decide⟩
