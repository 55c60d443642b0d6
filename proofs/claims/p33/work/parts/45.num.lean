/-! PURE: the numbers of the lines, on both sides -/
theorem g_kd2 {t : Int → Int} {n s : Int} : g_kd t n s = 2 ↔ s < n ∧ g_di t s = true := by
  unfold g_kd g_le g_di
  simp only [decide_eq_true_eq]
  (repeat' split) <;> omega
theorem g_kd1 {t : Int → Int} {n s : Int} : g_kd t n s = 1 ↔ s < n ∧ g_le t s = true := by
  unfold g_kd g_le g_di
  simp only [decide_eq_true_eq]
  (repeat' split) <;> omega
theorem g_kd3 {t : Int → Int} {n s : Int} : g_kd t n s = 3 ↔ s < n ∧ t s = 59 := by
  unfold g_kd g_le g_di
  simp only [decide_eq_true_eq]
  (repeat' split) <;> omega
theorem g_en_di {t : Int → Int} {n s : Int} (h1 : s < n) (h2 : g_di t s = true) {i : Int} (h3 : s ≤ i) (h4 : i < g_en t n s) : g_di t i = true := by
  have hl : g_le t s = false := by
    unfold g_di at h2; unfold g_le
    have := of_decide_eq_true h2
    exact decide_eq_false (by omega)
  unfold g_en at h4
  rw [if_neg (by omega), hl, if_neg (by decide), if_pos h2, ← g_run_s h1 h2] at h4
  exact g_run_all h3 h4
theorem g_en_ltr {t : Int → Int} {n s : Int} (h1 : s < n) (h2 : g_le t s = true) {i : Int} (h3 : s ≤ i) (h4 : i < g_en t n s) : g_le t i = true := by
  unfold g_en at h4
  rw [if_neg (by omega), if_pos h2, ← g_run_s h1 h2] at h4
  exact g_run_all h3 h4
/-- the value of k digits from s -/
def g_nv (t : Int → Int) (s : Int) : Nat → Int
  | 0 => 0
  | k + 1 => 10 * g_nv t s k + (t (s + (k : Int)) - 48)
def g_tv (t : Int → Int) (s e : Int) : Int := g_nv t s (e - s).toNat
theorem g_nv_0 {t : Int → Int} {s : Int} : ∀ {k : Nat}, (∀ i, s ≤ i → i < s + (k : Int) → g_di t i = true) → 0 ≤ g_nv t s k
  | 0, _ => Int.le_refl _
  | k + 1, h => by
    have h1 := g_nv_0 (k := k) (fun i a b => h i a (by omega))
    have h2 := of_decide_eq_true (h (s + (k : Int)) (by omega) (by omega))
    show 0 ≤ 10 * g_nv t s k + (t (s + (k : Int)) - 48)
    omega
theorem g_tv_0 {t : Int → Int} {s e : Int} (h : ∀ i, s ≤ i → i < e → g_di t i = true) : 0 ≤ g_tv t s e := g_nv_0 (fun i a b => h i a (by omega))
theorem g_tv_z {t : Int → Int} {s : Int} : g_tv t s s = 0 := by unfold g_tv; rw [Int.sub_self]; rfl
theorem g_tv_s {t : Int → Int} {s k : Int} (h : s ≤ k) : g_tv t s (k + 1) = 10 * g_tv t s k + (t k - 48) := by
  unfold g_tv
  rw [show (k + 1 - s).toNat = (k - s).toNat + 1 by omega]
  show 10 * _ + (t (s + _) - 48) = _
  rw [show s + (((k - s).toNat : Nat) : Int) = k by omega]
theorem g_nv_eq {t u : Int → Int} {s : Int} : ∀ {k : Nat}, (∀ i, s ≤ i → i < s + (k : Int) → t i = u i) → g_nv t s k = g_nv u s k
  | 0, _ => rfl
  | k + 1, h => by
    show 10 * g_nv t s k + (t (s + (k : Int)) - 48) = 10 * g_nv u s k + (u (s + (k : Int)) - 48)
    rw [g_nv_eq (k := k) (fun i a b => h i a (by omega)), h _ (by omega) (by omega)]
theorem g_tv_eq {t u : Int → Int} {n s e : Int} (h : g_TT t u n) (hs : 0 ≤ s) (he : e ≤ n) (hd : ∀ i, s ≤ i → i < e → g_di t i = true) : g_tv t s e = g_tv u s e :=
  g_nv_eq fun i a b => by
    have h1 := of_decide_eq_true (hd i a (by omega))
    exact ((g_TT_b8 h (by omega) (by omega)).1 (by omega)).symm
theorem g_tv_le {t : Int → Int} {s : Int} : ∀ (m : Nat) (e : Int), s ≤ e → (∀ i, s ≤ i → i < e + (m : Int) → g_di t i = true) → g_tv t s e ≤ g_tv t s (e + (m : Int))
  | 0, e, _, _ => by rw [show e + ((0 : Nat) : Int) = e from Int.add_zero e]; exact Int.le_refl _
  | m + 1, e, h, hd => by
    have h1 := g_tv_le m e h (fun i a b => hd i a (by omega))
    have h2 := g_tv_0 (t := t) (s := s) (e := e) (fun i a b => hd i a (by omega))
    have h3 := of_decide_eq_true (hd (e + (m : Int)) (by omega) (by omega))
    rw [show e + ((m + 1 : Nat) : Int) = e + (m : Int) + 1 by omega, g_tv_s (by omega)]
    omega
theorem g_tv_mono {t : Int → Int} {s k e : Int} (h1 : s ≤ k) (h2 : k ≤ e) (hd : ∀ i, s ≤ i → i < e → g_di t i = true) : g_tv t s k ≤ g_tv t s e := by
  have := g_tv_le (t := t) (s := s) (e - k).toNat k h1 (fun i a b => hd i a (by omega))
  rwa [show k + (((e - k).toNat : Nat) : Int) = e by omega] at this
-- the class
def g_cap (x : Int) : Int := if x < 1000000 then x else 1000000
theorem p_X6_numberHere {M : gj_M} (h : g_CT M) (h0 : 0 ≤ M 10 7) (h1 : M 10 7 ≤ M 10 8) (h2 : M 10 8 ≤ M 1 1) (hd : ∀ i, M 10 7 ≤ i → i < M 10 8 → g_di (M 2) i = true) : F_X6_numberHere M = some (g_cap (g_tv (M 2) (M 10 7) (M 10 8))) := by
  obtain ⟨hn0, hn1, hb⟩ := h
  unfold F_X6_numberHere
  refine gj_lpQ2 (fun y => y = _) (fun x k => M 10 7 ≤ k ∧ k ≤ M 10 8 ∧ x = g_cap (g_tv (M 2) (M 10 7) k)) (fun _ k => (M 10 8 - k).toNat) ?_ gj_fu 0 (M 10 7) ⟨by omega, by omega, by rw [g_tv_z]; rfl⟩ (by show _ < 2048; omega)
  rintro rec x k ⟨k0, k1, rfl⟩
  unfold B_X6_numberHere_7
  by_cases hk : M 10 8 ≤ k
  · rw [if_pos hk, show k = M 10 8 by omega]
    exact Or.inr rfl
  · rw [if_neg hk]
    refine Or.inl ⟨_, k + 1, ?_, ⟨by omega, by omega, rfl⟩, by omega⟩
    dsimp only [gj_letI]
    have d := of_decide_eq_true (hd k k0 (by omega))
    have v0 := g_tv_0 (t := M 2) (s := M 10 7) (e := k) (fun i a b => hd i a (by omega))
    rw [p_byteAt hn1 (by omega), if_neg (by omega), gj_wle (x := k + 1) (by omega) (by omega), g_tv_s k0]
    generalize g_tv (M 2) (M 10 7) k = v at *
    have c : 0 ≤ g_cap v ∧ g_cap v ≤ 1000000 := by unfold g_cap; split <;> omega
    rw [gj_wle (x := g_cap v * 10) (by omega) (by omega), gj_wle (x := g_cap v * 10 + M 2 k) (by omega) (by omega), gj_wle (by omega) (by omega)]
    congr 1
    unfold f_min g_cap
    (repeat' split) <;> omega
/-- the class's scanner stands on the token -/
def g_cur (M : gj_M) : Prop := 0 ≤ M 10 7 ∧ M 10 7 ≤ M 1 1 ∧ M 10 6 = g_kd (M 2) (M 1 1) (M 10 7) ∧ M 10 8 = g_en (M 2) (M 1 1) (M 10 7)
/-- behind the token -/
def g_adv (M : gj_M) : gj_M := g_scd M (g_sp (M 2) (M 1 1) (M 10 8)) (g_kd (M 2) (M 1 1) (g_sp (M 2) (M 1 1) (M 10 8))) (g_en (M 2) (M 1 1) (g_sp (M 2) (M 1 1) (M 10 8)))
theorem p_scan {M : gj_M} (h : g_CT M) (hc : g_cur M) : F_X6_scan M = some (g_adv M) := by
  obtain ⟨a, b, c, d⟩ := hc
  exact p_X6_scan h (by rw [d]; exact Int.le_trans a g_en_ge) (by rw [d]; exact g_en_le b)
theorem p_X6_takeNumber {M : gj_M} {lo hi : Int} (h : g_CT M) (hc : g_cur M) (h0 : 0 ≤ lo) (h1 : hi < 1000000) : F_X6_takeNumber lo hi M = some (if M 10 6 = 2 ∧ lo ≤ g_tv (M 2) (M 10 7) (M 10 8) ∧ g_tv (M 2) (M 10 7) (M 10 8) ≤ hi then (1, g_adv (gj_up M 10 9 (g_tv (M 2) (M 10 7) (M 10 8)))) else (0, M)) := by
  unfold F_X6_takeNumber
  obtain ⟨a, b, c, d⟩ := id hc
  by_cases hk : M 10 6 = 2
  · have hk2 := g_kd2.mp (c.symm.trans hk)
    have hd : ∀ i, M 10 7 ≤ i → i < M 10 8 → g_di (M 2) i = true := fun i p q => g_en_di hk2.1 hk2.2 p (by omega)
    have hge := g_en_ge (t := M 2) (n := M 1 1) (s := M 10 7)
    have hle := g_en_le (t := M 2) (n := M 1 1) (s := M 10 7) b
    have v0 := g_tv_0 hd
    rw [if_pos hk, p_X6_numberHere h a (by omega) (by omega) hd]
    dsimp only [gj_bnd, gj_let]
    generalize g_tv (M 2) (M 10 7) (M 10 8) = v at *
    by_cases hv : v < 1000000
    · rw [show g_cap v = v from if_pos hv]
      by_cases h2 : v < lo
      · rw [if_pos h2, if_neg (by omega)]
      · rw [if_neg h2]
        by_cases h3 : v ≤ hi
        · have e8 : gj_up M 10 9 v 10 8 = M 10 8 := gj_up_i (by decide)
          have e7 : gj_up M 10 9 v 10 7 = M 10 7 := gj_up_i (by decide)
          have e6 : gj_up M 10 9 v 10 6 = M 10 6 := gj_up_i (by decide)
          have e1 : gj_up M 10 9 v 1 = M 1 := funext fun _ => gj_up_z (by decide)
          have e2 : gj_up M 10 9 v 2 = M 2 := funext fun _ => gj_up_z (by decide)
          rw [if_pos h3, if_pos ⟨hk, by omega, h3⟩, p_scan (by unfold g_CT; rw [e1, e2]; exact h) (by unfold g_cur; rw [e8, e7, e6, e1, e2]; exact hc)]
        · rw [if_neg h3, if_neg (by omega)]
    · rw [show g_cap v = 1000000 from if_neg hv, if_neg (c := M 10 6 = 2 ∧ lo ≤ v ∧ v ≤ hi) (by omega)]
      by_cases h2 : (1000000 : Int) < lo
      · rw [if_pos h2]
      · rw [if_neg h2, if_neg (by omega)]
  · rw [if_neg hk, if_neg (fun q => hk q.1)]
theorem p_X6_takeStop {M : gj_M} (h : g_CT M) (hc : g_cur M) : F_X6_takeStop M = some (if M 10 6 = 3 then (1, g_adv M) else (0, M)) := by
  unfold F_X6_takeStop
  by_cases hk : M 10 6 = 3
  · rw [if_pos hk, if_pos hk, p_scan h hc]
    rfl
  · rw [if_neg hk, if_neg hk]
