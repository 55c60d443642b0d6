/-! PURE: SHOWN -/
def g_r (c G a b : Int) : Int := c * (g_pw G a * g_pw (16 - G) b)
def g_u (c P a b : Int) : Int := (16 - c) * (g_pw P a * g_pw (16 - P) b)
/-- the chance of a GOOD year, of RIGHT, of 1000 -/
def g_sh (c G P a b : Int) : Int := if g_r c G a b + g_u c P a b = 0 then 0 else (1000 * (g_r c G a b * G + g_u c P a b * P)) / (16 * (g_r c G a b + g_u c P a b))
def g_sr (c G P a b : Int) : Int := if g_r c G a b + g_u c P a b = 0 then 0 else (1000 * g_r c G a b) / (g_r c G a b + g_u c P a b)
def g_V (c G P : Int) : Prop := (0 ≤ c ∧ c ≤ 16) ∧ (0 ≤ G ∧ G ≤ 16) ∧ (0 ≤ P ∧ P ≤ 16)
def g_K (a b : Int) : Prop := (0 ≤ a ∧ a ≤ 4) ∧ (0 ≤ b ∧ b ≤ 4)
theorem g_r_le {c G a b : Int} (hc : 0 ≤ c ∧ c ≤ 16) (hG : 0 ≤ G ∧ G ≤ 16) (hk : g_K a b) : 0 ≤ g_r c G a b ∧ g_r c G a b ≤ 68719476736 := by
  have h1 := g_pw4 hG hk.1
  have h2 := g_pw4 (o := 16 - G) (by omega) hk.2
  have h3 := g_mul hc (g_mul h1 h2)
  unfold g_r
  omega
theorem g_u_le {c P a b : Int} (hc : 0 ≤ c ∧ c ≤ 16) (hP : 0 ≤ P ∧ P ≤ 16) (hk : g_K a b) : 0 ≤ g_u c P a b ∧ g_u c P a b ≤ 68719476736 := by
  have h := g_r_le (c := 16 - c) (by omega) hP hk
  exact h
theorem g_mix {r u G P : Int} (hr : 0 ≤ r) (hu : 0 ≤ u) (hG : 0 ≤ G ∧ G ≤ 16) (hP : 0 ≤ P ∧ P ≤ 16) : 0 ≤ r * G + u * P ∧ r * G + u * P ≤ 16 * (r + u) := by
  have h1 := g_mul (a := r) (A := r) ⟨hr, Int.le_refl _⟩ hG
  have h2 := g_mul (a := u) (A := u) ⟨hu, Int.le_refl _⟩ hP
  omega
theorem g_div1000 {x y : Int} (hx : 0 ≤ x) (hy : 0 < y) (h : x ≤ y) : 0 ≤ (1000 * x) / y ∧ (1000 * x) / y ≤ 1000 := by
  refine ⟨Int.ediv_nonneg (by omega) (by omega), ?_⟩
  have : (1000 * x) / y < 1001 := Int.ediv_lt_of_lt_mul hy (by omega)
  omega
theorem g_sh_le {c G P a b : Int} (hv : g_V c G P) (hk : g_K a b) : 0 ≤ g_sh c G P a b ∧ g_sh c G P a b ≤ 1000 := by
  have h1 := g_r_le hv.1 hv.2.1 hk
  have h2 := g_u_le hv.1 hv.2.2 hk
  unfold g_sh
  generalize g_r c G a b = r at *
  generalize g_u c P a b = u at *
  split
  · omega
  · have h3 := g_mix h1.1 h2.1 hv.2.1 hv.2.2
    exact g_div1000 h3.1 (by omega) h3.2
theorem g_sr_le {c G P a b : Int} (hv : g_V c G P) (hk : g_K a b) : 0 ≤ g_sr c G P a b ∧ g_sr c G P a b ≤ 1000 := by
  have h1 := g_r_le hv.1 hv.2.1 hk
  have h2 := g_u_le hv.1 hv.2.2 hk
  unfold g_sr
  generalize g_r c G a b = r at *
  generalize g_u c P a b = u at *
  split
  · omega
  · exact g_div1000 h1.1 (by omega) (by omega)
-- the class
theorem p_X5_rightAfter {v g p : Int} {M : gj_M} (h : 0 ≤ v ∧ v < 32) (hv : g_V (M 16 v) (M 17 v) (M 18 v)) (hk : g_K g p) : F_X5_rightAfter v g p M = some (g_r (M 16 v) (M 17 v) g p) := by
  unfold F_X5_rightAfter
  have h1 := g_r_le hv.1 hv.2.1 hk
  rw [f_at_in h, f_at_in h, p_X5_oddsOf hv.2.1 hk.1 hk.2]
  show some (gj_wl (g_r (M 16 v) (M 17 v) g p)) = _
  rw [gj_wlle (by omega) (by omega)]
theorem p_X5_otherAfter {v g p : Int} {M : gj_M} (h : 0 ≤ v ∧ v < 32) (hv : g_V (M 16 v) (M 17 v) (M 18 v)) (hk : g_K g p) : F_X5_otherAfter v g p M = some (g_u (M 16 v) (M 18 v) g p) := by
  unfold F_X5_otherAfter
  have h1 := g_u_le hv.1 hv.2.2 hk
  have hc := hv.1
  rw [f_at_in h, f_at_in h, p_X5_oddsOf hv.2.2 hk.1 hk.2]
  show some (gj_wl (gj_w (16 - M 16 v) * (g_pw (M 18 v) g * g_pw (16 - M 18 v) p))) = _
  rw [gj_wle (x := 16 - M 16 v) (by omega) (by omega)]
  show some (gj_wl (g_u (M 16 v) (M 18 v) g p)) = _
  rw [gj_wlle (by omega) (by omega)]
theorem p_X5_goodNext {v g p : Int} {M : gj_M} (h : 0 ≤ v ∧ v < 32) (hv : g_V (M 16 v) (M 17 v) (M 18 v)) (hk : g_K g p) : F_X5_goodNext v g p M = some (g_sh (M 16 v) (M 17 v) (M 18 v) g p) := by
  unfold F_X5_goodNext
  have h1 := g_r_le hv.1 hv.2.1 hk
  have h2 := g_u_le hv.1 hv.2.2 hk
  have h5 := g_sh_le hv hk
  rw [p_X5_rightAfter h hv hk, p_X5_otherAfter h hv hk, f_at_in h, f_at_in h]
  unfold g_sh at h5 ⊢
  simp only [gj_bnd, gj_letI]
  generalize g_r (M 16 v) (M 17 v) g p = r at *
  generalize g_u (M 16 v) (M 18 v) g p = u at *
  have h3 := g_mix h1.1 h2.1 hv.2.1 hv.2.2
  have m1 := g_mul h1 hv.2.1
  have m2 := g_mul h2 hv.2.2
  rw [gj_wlle (x := r + u) (by omega) (by omega), gj_wlle (x := 16 * (r + u)) (by omega) (by omega)]
  by_cases h0 : r + u = 0
  · rw [if_pos h0, if_neg (by omega)]
  · rw [if_neg h0] at h5
    rw [if_neg h0, if_pos (by omega), gj_chkp (by omega), gj_wlle (x := r * M 17 v) (by omega) (by omega), gj_wlle (x := u * M 18 v) (by omega) (by omega), gj_wlle (x := r * M 17 v + u * M 18 v) (by omega) (by omega), gj_wlle (x := 1000 * _) (by omega) (by omega), g_tdiv (by omega), gj_wlle (by omega) (by omega), gj_wle (by omega) (by omega)]
theorem p_X5_shownRight {v g p : Int} {M : gj_M} (h : 0 ≤ v ∧ v < 32) (hv : g_V (M 16 v) (M 17 v) (M 18 v)) (hk : g_K g p) : F_X5_shownRight v g p M = some (g_sr (M 16 v) (M 17 v) (M 18 v) g p) := by
  unfold F_X5_shownRight
  have h1 := g_r_le hv.1 hv.2.1 hk
  have h2 := g_u_le hv.1 hv.2.2 hk
  have h5 := g_sr_le hv hk
  rw [p_X5_rightAfter h hv hk, p_X5_otherAfter h hv hk]
  unfold g_sr at h5 ⊢
  simp only [gj_bnd]
  generalize g_r (M 16 v) (M 17 v) g p = r at *
  generalize g_u (M 16 v) (M 18 v) g p = u at *
  rw [gj_wlle (x := r + u) (by omega) (by omega)]
  by_cases h0 : r + u = 0
  · rw [if_pos h0, if_neg (by omega)]
  · rw [if_neg h0] at h5
    rw [if_neg h0, if_pos (by omega), gj_chkp (by omega), gj_wlle (x := 1000 * _) (by omega) (by omega), g_tdiv (by omega), gj_wlle (by omega) (by omega), gj_wle (by omega) (by omega)]
-- the reference
theorem p_cpl {p q : Int} {M : gj_M} (hp : 0 ≤ p ∧ p < 8) (hq : 0 ≤ q ∧ q < 8) : f_X12_coupleOf p q M = 4 * p + q % 4 := by
  unfold f_X12_coupleOf
  rw [g_tmod hq.1, gj_wle (x := 4 * p) (by omega) (by omega), gj_wle (by omega) (by omega)]
theorem p_vw {p q : Int} (hp : 0 ≤ p ∧ p < 8) (hq : 0 ≤ q ∧ q < 8) : f_vw p q = 4 * p + q % 4 := by
  unfold f_vw
  rw [g_tmod hq.1, gj_wle (x := p * 4) (by omega) (by omega), gj_wle (by omega) (by omega), Int.mul_comm]
theorem p_X12_shows {p q a b w : Int} {M : gj_M} (hp : 0 ≤ p ∧ p < 8) (hq : 0 ≤ q ∧ q < 8) (hv : g_V (M 86 (4 * p + q % 4)) (M 89 (4 * p + q % 4)) (M 92 (4 * p + q % 4))) (hk : g_K a b) :
    F_X12_shows p q a b w M = some (if w = 0 then g_sr (M 86 (4 * p + q % 4)) (M 89 (4 * p + q % 4)) (M 92 (4 * p + q % 4)) a b else g_sh (M 86 (4 * p + q % 4)) (M 89 (4 * p + q % 4)) (M 92 (4 * p + q % 4)) a b) := by
  unfold F_X12_shows
  have h1 := g_r_le hv.1 hv.2.1 hk
  have h2 := g_u_le hv.1 hv.2.2 hk
  have h5 := g_sh_le hv hk
  have h6 := g_sr_le hv hk
  have hx : 0 ≤ 4 * p + q % 4 ∧ 4 * p + q % 4 < 32 := by omega
  unfold gj_letI
  simp only [p_cpl hp hq]
  generalize hcx : 4 * p + q % 4 = x at *
  have hG := hv.2.1
  have hP := hv.2.2
  have hc := hv.1
  have b1 := g_pw4 hG hk.1
  have b2 := g_pw4 (o := 16 - M 89 x) (by omega) hk.2
  have b3 := g_pw4 hP hk.1
  have b4 := g_pw4 (o := 16 - M 92 x) (by omega) hk.2
  have c1 := g_mul hc b1
  have c2 := g_mul (a := 16 - M 86 x) (A := 16) (by omega) b3
  have e1 : gj_wl (gj_wl (M 86 x * g_pw (M 89 x) a) * g_pw (16 - M 89 x) b) = g_r (M 86 x) (M 89 x) a b := by
    rw [gj_wlle (x := M 86 x * _) (by omega) (by omega), Int.mul_assoc]
    exact gj_wlle (by show -9223372036854775808 ≤ g_r _ _ a b; omega) (by show g_r _ _ a b < _; omega)
  have e2 : gj_wl (gj_wl ((16 - M 86 x) * g_pw (M 92 x) a) * g_pw (16 - M 92 x) b) = g_u (M 86 x) (M 92 x) a b := by
    rw [gj_wlle (x := (16 - M 86 x) * _) (by omega) (by omega), Int.mul_assoc]
    exact gj_wlle (by show -9223372036854775808 ≤ g_u _ _ a b; omega) (by show g_u _ _ a b < _; omega)
  simp only [gj_chkp hx, gj_wle (x := 16 - M 89 x) (by omega) (by omega), gj_wle (x := 16 - M 92 x) (by omega) (by omega), gj_wle (x := 16 - M 86 x) (by omega) (by omega), p_X12_power hG hk.1, p_X12_power (o := 16 - M 89 x) (by omega) hk.2, p_X12_power hP hk.1, p_X12_power (o := 16 - M 92 x) (by omega) hk.2, gj_bnd, e1, e2]
  unfold g_sh at h5 ⊢
  unfold g_sr at h6 ⊢
  generalize g_r (M 86 x) (M 89 x) a b = r at *
  generalize g_u (M 86 x) (M 92 x) a b = u at *
  have h3 := g_mix h1.1 h2.1 hG hP
  have m1 := g_mul h1 hG
  have m2 := g_mul h2 hP
  rw [gj_wlle (x := r + u) (by omega) (by omega), gj_wlle (x := 16 * (r + u)) (by omega) (by omega)]
  by_cases h0 : r + u = 0
  · simp only [h0, if_true]
    split <;> rfl
  · rw [if_neg h0] at h5 h6
    simp only [if_neg h0]
    by_cases hw : w = 0
    · simp only [if_pos hw]
      rw [gj_chkp h0, gj_wlle (x := 1000 * _) (by omega) (by omega), g_tdiv (by omega), gj_wlle (by omega) (by omega), gj_wle (by omega) (by omega)]
    · simp only [if_neg hw]
      rw [gj_chkp (by omega), gj_wlle (x := r * _) (by omega) (by omega), gj_wlle (x := u * _) (by omega) (by omega), gj_wlle (x := r * _ + u * _) (by omega) (by omega), gj_wlle (x := 1000 * _) (by omega) (by omega), g_tdiv (by omega), gj_wlle (by omega) (by omega), gj_wle (by omega) (by omega)]
