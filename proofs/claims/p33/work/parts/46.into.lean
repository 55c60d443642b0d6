/-! PURE: the numbers of the lines, in the reference -/
def g_rcur (M : gj_M) : Prop := 0 ≤ M 79 3 ∧ M 79 3 ≤ M 79 2 ∧ M 79 4 = g_en (M 81) (M 79 2) (M 79 3)
def g_radv (M : gj_M) : gj_M := g_nxd M (g_sp (M 81) (M 79 2) (M 79 4)) (g_en (M 81) (M 79 2) (g_sp (M 81) (M 79 2) (M 79 4)))
def g_at (M : gj_M) : gj_M := if M 79 5 = -1 then gj_up M 79 5 (M 79 3) else M
theorem p_next {M : gj_M} (h : g_RT M) (hc : g_rcur M) : F_X12_next M = some (g_radv M) := by
  obtain ⟨a, b, d⟩ := hc
  exact p_X12_next h (by rw [d]; exact Int.le_trans a g_en_ge) (by rw [d]; exact g_en_le b)
theorem p_X12_passes {M : gj_M} {x : Int} (h : g_RT M) (hc : g_rcur M) : F_X12_passes x M = some (if x = 0 then (0, g_at M) else (1, g_radv M)) := by
  unfold F_X12_passes g_at
  by_cases hx : x = 0
  · rw [if_pos hx, if_pos hx]
    by_cases h5 : M 79 5 = -1
    · rw [if_pos h5, if_pos h5]
      rfl
    · rw [if_neg h5, if_neg h5]
  · rw [if_neg hx, if_neg hx, p_next h hc]
    rfl
theorem g_RT_up {M : gj_M} {z i v : Int} (h : g_RT M) (hz : ¬ (z = 79 ∧ i = 2)) : g_RT (gj_up M z i v) := by
  have : gj_up M z i v 79 2 = M 79 2 := if_neg (fun q => hz ⟨q.1.symm, q.2.symm⟩)
  unfold g_RT
  rw [this]
  exact h
theorem g_rcur_up {M : gj_M} {z i v : Int} (h : g_rcur M) (hz : ¬ (z = 79 ∧ (i = 2 ∨ i = 3 ∨ i = 4)) ∧ z ≠ 81) : g_rcur (gj_up M z i v) := by
  have e : ∀ j, j = 2 ∨ j = 3 ∨ j = 4 → gj_up M z i v 79 j = M 79 j := fun j hj => if_neg (by omega)
  have e81 : gj_up M z i v 81 = M 81 := funext fun _ => gj_up_z (fun q => hz.2 q.symm)
  unfold g_rcur
  rw [e 2 (by decide), e 3 (by decide), e 4 (by decide), e81]
  exact h
theorem p_into92 {M : gj_M} {x lo hi l n z : Int} (h : g_RT M) (hc : g_rcur M) (hl : 0 ≤ l ∧ l < n) : J_X12_into_92 z n l lo hi (gj_up M 79 6 x) = some (if lo ≤ x ∧ x ≤ hi then (1, gj_up (g_radv (gj_up M 79 6 x)) z l x) else (0, g_at (gj_up M 79 6 x))) := by
  unfold J_X12_into_92
  dsimp only [gj_letI]
  rw [gj_up_eq, p_X12_passes (g_RT_up h (by decide)) (g_rcur_up hc (by decide))]
  unfold f_X12_in
  have e6 : g_radv (gj_up M 79 6 x) 79 6 = x := by
    unfold g_radv
    rw [g_nxd_i (by decide), gj_up_eq]
  by_cases h1 : x < lo
  · rw [if_pos h1, if_pos rfl, if_neg (by omega)]
    rfl
  · rw [if_neg h1]
    by_cases h2 : hi < x
    · rw [if_pos h2, if_pos rfl, if_neg (by omega)]
      rfl
    · rw [if_neg h2, if_neg (by decide), if_pos ⟨by omega, by omega⟩]
      dsimp only [gj_bnd2, gj_let]
      rw [if_neg (by decide), gj_chkp hl, e6]
theorem p_X12_into {M : gj_M} {lo hi l n z : Int} (h : g_RT M) (hc : g_rcur M) (hl : 0 ≤ l ∧ l < n) (h0 : 0 ≤ lo) (h9 : hi ≤ 9999) :
    (g_kd (M 81) (M 79 2) (M 79 3) = 2 ∧ lo ≤ g_tv (M 81) (M 79 3) (M 79 4) ∧ g_tv (M 81) (M 79 3) (M 79 4) ≤ hi → F_X12_into z n l lo hi M = some (1, gj_up (g_radv (gj_up M 79 6 (g_tv (M 81) (M 79 3) (M 79 4)))) z l (g_tv (M 81) (M 79 3) (M 79 4))))
    ∧ (¬ (g_kd (M 81) (M 79 2) (M 79 3) = 2 ∧ lo ≤ g_tv (M 81) (M 79 3) (M 79 4) ∧ g_tv (M 81) (M 79 3) (M 79 4) ≤ hi) → ∃ x, F_X12_into z n l lo hi M = some (0, g_at (gj_up M 79 6 x))) := by
  obtain ⟨hn0, hn1⟩ := id h
  obtain ⟨a, b, d⟩ := id hc
  have ub : ∀ x, gj_up M 79 6 x 79 3 = M 79 3 := fun x => gj_up_i (by decide)
  have u4 : ∀ x, gj_up M 79 6 x 79 4 = M 79 4 := fun x => gj_up_i (by decide)
  have u81 : ∀ x, gj_up M 79 6 x 81 = M 81 := fun x => funext fun _ => gj_up_z (by decide)
  have u6 : ∀ x, gj_up M 79 6 x 79 6 = x := fun x => gj_up_eq
  have uu : ∀ x y, gj_up (gj_up M 79 6 x) 79 6 y = gj_up M 79 6 y := fun x y => gj_up_up
  have hdig : (M 79 3 < M 79 2 ∧ 48 ≤ M 81 (M 79 3) ∧ M 81 (M 79 3) ≤ 57) ↔ g_kd (M 81) (M 79 2) (M 79 3) = 2 := by
    rw [g_kd2]
    unfold g_di
    rw [decide_eq_true_eq]
  unfold F_X12_into
  rw [p_between h a]
  dsimp only [gj_bnd]
  unfold J_X12_into_21
  dsimp only [gj_let]
  rw [ub, ub]
  by_cases hk : g_kd (M 81) (M 79 2) (M 79 3) = 2
  · rw [if_pos (hdig.mpr hk), if_neg (by decide)]
    have hk2 := g_kd2.mp hk
    have hd : ∀ i, M 79 3 ≤ i → i < M 79 4 → g_di (M 81) i = true := fun i p q => g_en_di hk2.1 hk2.2 p (by omega)
    have hge := g_en_ge (t := M 81) (n := M 79 2) (s := M 79 3)
    have hle := g_en_le (t := M 81) (n := M 79 2) (s := M 79 3) b
    have run : ∃ x, 0 ≤ x ∧ (x = g_tv (M 81) (M 79 3) (M 79 4) ∨ 9999 < x ∧ 9999 < g_tv (M 81) (M 79 3) (M 79 4)) ∧ gj_it (fun _ _ _ _ _ => none) (B_X12_into_30 z n) gj_fu l lo hi (M 79 3) (gj_up M 79 6 0) = J_X12_into_92 z n l lo hi (gj_up M 79 6 x) := by
      refine gj_lpM4 (fun y => ∃ x, 0 ≤ x ∧ (x = g_tv (M 81) (M 79 3) (M 79 4) ∨ 9999 < x ∧ 9999 < g_tv (M 81) (M 79 3) (M 79 4)) ∧ y = J_X12_into_92 z n l lo hi (gj_up M 79 6 x)) (fun y0 y1 y2 k N => y0 = l ∧ y1 = lo ∧ y2 = hi ∧ M 79 3 ≤ k ∧ k ≤ M 79 4 ∧ ∃ x, N = gj_up M 79 6 x ∧ 0 ≤ x ∧ x ≤ 100000 ∧ (x = g_tv (M 81) (M 79 3) k ∨ 9999 < x ∧ 9999 < g_tv (M 81) (M 79 3) k)) (fun _ _ _ k => (M 79 4 - k).toNat) ?_ gj_fu l lo hi (M 79 3) _ ⟨rfl, rfl, rfl, by omega, by omega, 0, rfl, by omega, by omega, Or.inl g_tv_z.symm⟩ (by show _ < 2048; omega)
      rintro rec _ _ _ k _ ⟨rfl, rfl, rfl, k0, k1, x, rfl, x0, x1, hx⟩
      unfold B_X12_into_30
      rw [u6, u4, u81, if_neg (by omega)]
      by_cases hk4 : M 79 4 ≤ k
      · rw [if_pos hk4]
        have e : k = M 79 4 := by omega
        rw [e] at hx
        exact Or.inr ⟨x, x0, hx, rfl⟩
      · rw [if_neg hk4]
        have dg := of_decide_eq_true (hd k k0 (by omega))
        have v0 := g_tv_0 (t := M 81) (s := M 79 3) (e := k) (fun i a b => hd i a (by omega))
        have vs := g_tv_s (t := M 81) k0
        unfold J_X12_into_83
        dsimp only [gj_let]
        rw [gj_wle (x := k + 1) (by omega) (by omega), uu, uu]
        by_cases h99 : x ≤ 9999
        · rw [if_pos h99, gj_chkp (by omega), gj_wle (x := 10 * x) (by omega) (by omega), gj_wle (x := 10 * x + M 81 k) (by omega) (by omega), gj_wle (by omega) (by omega)]
          exact Or.inl ⟨_, _, _, k + 1, _, rfl, ⟨rfl, rfl, rfl, by omega, by omega, _, rfl, by omega, by omega, Or.inl (by rw [vs]; omega)⟩, by omega⟩
        · rw [if_neg h99]
          exact Or.inl ⟨_, _, _, k + 1, _, rfl, ⟨rfl, rfl, rfl, by omega, by omega, _, rfl, by omega, by omega, Or.inr (by rw [vs]; omega)⟩, by omega⟩
    obtain ⟨x, x0, hx, e⟩ := run
    rw [e, p_into92 h hc hl]
    generalize g_tv (M 81) (M 79 3) (M 79 4) = v at *
    refine ⟨fun q => ?_, fun q => ⟨x, ?_⟩⟩
    · have e : x = v := by omega
      rw [e, if_pos ⟨q.2.1, q.2.2⟩]
    · rw [if_neg (fun q2 => q ⟨hk, by omega, by omega⟩)]
  · rw [if_neg (fun q => hk (hdig.mp q)), if_pos rfl]
    refine ⟨fun q => absurd q.1 hk, fun _ => ⟨-1, ?_⟩⟩
    rw [show gj_fu = 2047 + 1 from rfl, gj_it_s]
    unfold B_X12_into_30
    rw [u6, if_pos rfl, p_into92 h hc hl, if_neg (by omega)]
theorem p_X12_closes {M : gj_M} (h : g_RT M) (hc : g_rcur M) : F_X12_closes M = some (if g_kd (M 81) (M 79 2) (M 79 3) = 3 then (1, g_radv M) else (0, g_at M)) := by
  obtain ⟨hn0, hn1⟩ := id h
  obtain ⟨a, b, d⟩ := id hc
  unfold F_X12_closes
  rw [p_X12_passes h hc, p_X12_passes h hc, if_pos rfl, if_neg (c := (1 : Int) = 0) (by decide)]
  dsimp only [gj_bnd2]
  by_cases hn : M 79 2 ≤ M 79 3
  · rw [if_pos hn, if_neg (fun q => by have := g_kd3.mp q; omega)]
  · rw [if_neg hn, gj_chkp (by omega)]
    by_cases h59 : M 81 (M 79 3) = 59
    · rw [if_pos h59, if_pos (g_kd3.mpr ⟨by omega, h59⟩)]
    · rw [if_neg h59, if_neg (fun q => h59 (g_kd3.mp q).2)]
