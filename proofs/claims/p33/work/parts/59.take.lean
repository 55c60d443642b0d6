/-! PURE: the class takes the draft -/
def g_st (M : gj_M) (t : Int) : Int := g_sh (M 16 (t / 25)) (M 17 (t / 25)) (M 18 (t / 25)) (t / 5 % 5) (t % 5)
def g_SG (M N : gj_M) (T : Int) : Prop := (∀ t, 0 ≤ t → t < T → N 20 t = g_st M t) ∧ ∀ z, z ≠ 20 → N z = M z
theorem p_reckonShown {M : gj_M} (hv : ∀ v, 0 ≤ v → v < 32 → g_V (M 16 v) (M 17 v) (M 18 v)) : ∃ N, F_X5_reckonShown M = some N ∧ g_SG M N 800 := by
  unfold F_X5_reckonShown
  refine gj_lpM1 (fun y => ∃ N, y = some N ∧ g_SG M N 800) (fun k N => 0 ≤ k ∧ k ≤ 32 ∧ g_SG M N (25 * k)) (fun k => (32 - k).toNat) ?_ gj_fu 0 M ⟨by omega, by omega, fun t a b => by omega, fun z _ => rfl⟩ (by show _ < 2048; omega)
  rintro rec k N ⟨k0, k1, hN⟩
  unfold B_X5_reckonShown_2
  by_cases hk : 32 ≤ k
  · rw [if_pos hk]
    exact Or.inr ⟨N, rfl, by rw [show (800 : Int) = 25 * k by omega]; exact hN⟩
  · rw [if_neg hk]
    left
    refine gj_lpM2 (fun y => ∃ y0 N', y = rec y0 N' ∧ (0 ≤ y0 ∧ y0 ≤ 32 ∧ g_SG M N' (25 * y0)) ∧ (32 - y0).toNat < (32 - k).toNat) (fun a g N => a = k ∧ 0 ≤ g ∧ g ≤ 5 ∧ g_SG M N (25 * k + 5 * g)) (fun _ g => (5 - g).toNat) ?_ gj_fu k 0 N ⟨rfl, by omega, by omega, by rw [show 25 * k + 5 * 0 = 25 * k by omega]; exact hN⟩ (by show _ < 2048; omega)
    rintro rec2 a g N ⟨ha, g0, g1, hN⟩
    rw [ha]
    unfold B_X5_reckonShown_10
    by_cases hg : 5 ≤ g
    · rw [if_pos hg]
      unfold J_X5_reckonShown_57
      rw [gj_wle (by omega) (by omega)]
      exact Or.inr ⟨k + 1, N, rfl, ⟨by omega, by omega, by rw [show 25 * (k + 1) = 25 * k + 5 * g by omega]; exact hN⟩, by omega⟩
    · rw [if_neg hg]
      left
      refine gj_lpM3 (fun y => ∃ y0 y1 N', y = rec2 y0 y1 N' ∧ (y0 = k ∧ 0 ≤ y1 ∧ y1 ≤ 5 ∧ g_SG M N' (25 * k + 5 * y1)) ∧ (5 - y1).toNat < (5 - g).toNat) (fun a b p N => a = k ∧ b = g ∧ 0 ≤ p ∧ p ≤ 5 ∧ g_SG M N (25 * k + 5 * g + p)) (fun _ _ p => (5 - p).toNat) ?_ gj_fu k g 0 N ⟨rfl, rfl, by omega, by omega, by rw [show 25 * k + 5 * g + 0 = 25 * k + 5 * g by omega]; exact hN⟩ (by show _ < 2048; omega)
      rintro rec3 a b p N ⟨ha, hb, p0, p1, hN⟩
      rw [ha, hb]
      unfold B_X5_reckonShown_17
      by_cases hp : 5 ≤ p
      · rw [if_pos hp]
        unfold J_X5_reckonShown_51
        rw [gj_wle (by omega) (by omega)]
        exact Or.inr ⟨k, g + 1, N, rfl, ⟨rfl, by omega, by omega, by rw [show 25 * k + 5 * (g + 1) = 25 * k + 5 * g + p by omega]; exact hN⟩, by omega⟩
      · rw [if_neg hp]
        have e16 := hN.2 16 (by decide)
        have e17 := hN.2 17 (by decide)
        have e18 := hN.2 18 (by decide)
        rw [p_X5_goodNext ⟨k0, by omega⟩ (by rw [e16, e17, e18]; exact hv k k0 (by omega)) ⟨⟨by omega, by omega⟩, ⟨by omega, by omega⟩⟩, gj_bnd_s]
        dsimp only [gj_let]
        rw [gj_wle (x := k * 5) (by omega) (by omega), gj_wle (x := k * 5 + g) (by omega) (by omega), gj_wle (x := (k * 5 + g) * 5) (by omega) (by omega), gj_wle (x := (k * 5 + g) * 5 + p) (by omega) (by omega), gj_wle (by omega) (by omega), f_put_in (by omega), e16, e17, e18]
        refine Or.inl ⟨k, g, p + 1, _, rfl, ⟨rfl, rfl, by omega, by omega, fun t a b => ?_, fun z hz => ?_⟩, by omega⟩
        · rw [gj_up_if]
          by_cases e : t = (k * 5 + g) * 5 + p
          · rw [if_pos e]
            unfold g_st
            rw [show t / 25 = k by omega, show t / 5 % 5 = g by omega, show t % 5 = p by omega]
          · rw [if_neg e]
            exact hN.1 t a (by omega)
        · funext i
          rw [gj_up_z hz]
          exact congrFun (hN.2 z hz) i
def g_T0 (M : gj_M) : gj_M := f_copy (f_copy (f_copy (f_copy (f_copy (gj_up (gj_up (gj_up (gj_up (gj_up (gj_up (gj_up (gj_up (gj_up (gj_up M 14 0 (M 3 0)) 14 1 (M 3 1)) 14 2 (M 3 2)) 14 3 (M 3 3)) 14 4 (M 3 4)) 14 5 (M 3 5)) 14 6 (M 3 6)) 14 7 (M 3 7)) 14 8 (M 3 8)) 14 9 (M 3 9)) 4 8 15 8) 5 32 16 32) 6 32 17 32) 7 32 18 32) 8 16 19 16
theorem p_take0 {M : gj_M} : F_X5_take M = gj_bnd (F_X5_reckonShown (g_T0 M)) (fun N => some N) := by
  unfold F_X5_take g_T0
  simp only [gj_let_s]
  simp only [gj_up_z (show (3 : Int) ≠ 14 by decide)]
theorem g_T0_14 {M : gj_M} {k : Int} (a : 0 ≤ k) (b : k < 10) : g_T0 M 14 k = M 3 k := by
  unfold g_T0
  rw [f_copy_z (by decide), f_copy_z (by decide), f_copy_z (by decide), f_copy_z (by decide), f_copy_z (by decide)]
  rcases (by omega : k = 0 ∨ k = 1 ∨ k = 2 ∨ k = 3 ∨ k = 4 ∨ k = 5 ∨ k = 6 ∨ k = 7 ∨ k = 8 ∨ k = 9) with e | e | e | e | e | e | e | e | e | e <;> subst e <;> simp [gj_up]
theorem g_T0_z {M : gj_M} {z : Int} (h : z ≠ 14 ∧ z ≠ 15 ∧ z ≠ 16 ∧ z ≠ 17 ∧ z ≠ 18 ∧ z ≠ 19) : g_T0 M z = M z := by
  funext i
  unfold g_T0
  rw [f_copy_z h.2.2.2.2.2, f_copy_z h.2.2.2.2.1, f_copy_z h.2.2.2.1, f_copy_z h.2.2.1, f_copy_z h.2.1]
  rw [gj_up_z h.1, gj_up_z h.1, gj_up_z h.1, gj_up_z h.1, gj_up_z h.1, gj_up_z h.1, gj_up_z h.1, gj_up_z h.1, gj_up_z h.1, gj_up_z h.1]
theorem g_T0_r {M : gj_M} {i : Int} (a : 0 ≤ i) : (i < 8 → g_T0 M 15 i = M 4 i) ∧ (i < 32 → g_T0 M 16 i = M 5 i ∧ g_T0 M 17 i = M 6 i ∧ g_T0 M 18 i = M 7 i) ∧ (i < 16 → g_T0 M 19 i = M 8 i) := by
  unfold g_T0
  refine ⟨fun b => ?_, fun b => ⟨?_, ?_, ?_⟩, fun b => ?_⟩ <;> simp [f_copy, gj_up, a, b]
theorem p_take {M : gj_M} (hv : ∀ v, 0 ≤ v → v < 32 → g_V (M 5 v) (M 6 v) (M 7 v)) : ∃ N, F_X5_take M = some N ∧ g_SG (g_T0 M) N 800 := by
  obtain ⟨N, e, h⟩ := p_reckonShown (M := g_T0 M) (fun v a b => by
    obtain ⟨h1, h2, h3⟩ := (g_T0_r (M := M) a).2.1 b
    rw [h1, h2, h3]
    exact hv v a b)
  exact ⟨N, by rw [p_take0, e]; rfl, h⟩
