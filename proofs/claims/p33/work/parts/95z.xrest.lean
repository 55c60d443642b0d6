/-! PURE: the full relation is kept by the rest -/
theorem x_parents {M : gj_M} {a : Int} (h : g_FK M M) : ∃ v v' U, F_X11_parents a M = some v ∧ F_X12_parents a M = some (v', U) ∧ g_FK U U := by
  obtain ⟨v, v', U, e1, e2, hU⟩ := w_parents (a := a) h.1
  have f : gj_Fr _ _ M U := fr_X12_parents _ _ e2
  exact ⟨v, v', U, e1, e2, hU, g_FL_d h.2 f (by decide) (by decide)⟩
theorem x_never {M : gj_M} {a : Int} (h : g_FK M M) : ∃ v v' U, F_X11_never a M = some v ∧ F_X12_never a M = some (v', U) ∧ g_FK U U := by
  obtain ⟨v, v', U, e1, e2, hU⟩ := w_never (a := a) h.1
  have f : gj_Fr _ _ M U := fr_X12_never _ _ e2
  exact ⟨v, v', U, e1, e2, hU, g_FL_d h.2 f (by decide) (by decide)⟩
/-- life leaves lots and what is known as they were -/
theorem c_lifeLot {C D : gj_M} {a b v : Int} (e : F_X11_life a b C = some (v, D)) : D 21 2 = C 21 2 := by
  unfold F_X11_life at e
  dsimp only [gj_letI] at e
  by_cases c1 : f_X5_stands_14 C = 0
  · rw [if_pos c1] at e
    obtain ⟨-, rfl⟩ := g_some2 rfl e
    rfl
  rw [if_neg c1] at e
  by_cases c2 : a < 1
  · rw [if_pos c2] at e
    obtain ⟨-, rfl⟩ := g_some2 rfl e
    rfl
  rw [if_neg c2] at e
  by_cases c3 : 100 < a
  · rw [if_pos c3] at e
    obtain ⟨-, rfl⟩ := g_some2 rfl e
    rfl
  rw [if_neg c3] at e
  by_cases c4 : b < 0
  · rw [if_pos c4] at e
    obtain ⟨-, rfl⟩ := g_some2 rfl e
    rfl
  rw [if_neg c4] at e
  by_cases c5 : b ≤ 1
  · rw [if_pos c5] at e
    obtain ⟨C1, x1, e⟩ := gj_bndd e
    obtain ⟨C2, x2, e⟩ := gj_bndd e
    obtain ⟨C3, x3, e⟩ := gj_bndd e
    obtain ⟨s, x4, e⟩ := gj_bndd e
    have f1 : gj_Fr _ _ C C1 := fr_X2_gather 1 C1 x1
    have f2 : gj_Fr _ _ C1 C2 := fr_X2_look 0 C2 x2
    have e3 : C3 21 2 = C2 21 2 := by
      unfold F_X2_pairUp at x3
      rw [gj_let_s, gj_let_s, if_pos rfl] at x3
      obtain ⟨X, y1, y2⟩ := gj_bndd x3
      have f : gj_Fr _ _ _ X := fr_X2_askAll 0 X y1
      rw [← Option.some.inj y2, f 21 2 (by decide) (by decide), f_fill_z (by decide), f_fill_z (by decide)]
    have e4 : C3 21 2 = C 21 2 := by rw [e3, f2 21 2 (by decide) (by decide), f1 21 2 (by decide) (by decide)]
    by_cases c6 : b = 0
    · rw [if_pos c6] at e
      obtain ⟨-, rfl⟩ := g_some2 rfl e
      exact e4
    · rw [if_neg c6] at e
      obtain ⟨t, x5, e⟩ := gj_bndd e
      obtain ⟨-, rfl⟩ := g_some2 rfl e
      exact e4
  · rw [if_neg c5] at e
    obtain ⟨-, rfl⟩ := g_some2 rfl e
    rfl
theorem r_goes0 {R : gj_M} : ∀ U, F_X12_goes 0 R = some U → U 79 30 = R 79 30 := by
  unfold F_X12_goes
  refine gj_okM2 (fun y : Option gj_M => ∀ U, y = some U → U 79 30 = R 79 30) (fun l1 l2 N => l1 = 0 ∧ 0 ≤ l2 ∧ l2 ≤ 8 ∧ N 79 30 = R 79 30) (fun _ l2 _ => (8 - l2).toNat) ?_ gj_fu 0 0 R ⟨rfl, by decide, by decide, rfl⟩ (by show _ < 2048; omega)
  rintro rec l1 l2 N ⟨e1, a, b, h⟩ hr
  rw [e1]
  unfold B_X12_goes_2 J_X12_goes_21
  by_cases c : 8 ≤ l2
  · rw [if_pos c, if_neg (by decide)]
    intro U e
    obtain ⟨X, y1, y2⟩ := gj_bndd e
    have f : gj_Fr _ _ N X := fr_X12_asks 0 X y1
    rw [← Option.some.inj y2, f 79 30 (by decide) (by decide)]
    exact h
  · rw [if_neg c, gj_chkp (by omega), gj_let_s, gj_wle (by omega) (by omega)]
    exact hr _ _ _ ⟨rfl, by omega, by omega, by rw [gj_up_z (by decide)]; exact h⟩ (by omega)
def g_LK (R U : gj_M) : Prop := U 79 30 = R 79 30 ∧ ∀ z j, 112 ≤ z → z ≤ 114 → 0 ≤ j → j < 16 → U z j = R z j
theorem r_life180 {R M : gj_M} {l1 l2 : Int} (h : g_LK R M) : ∀ v U, J_X12_life_180 l1 l2 M = some (v, U) → g_LK R U := by
  intro v U e
  unfold J_X12_life_180 at e
  obtain ⟨x, -, e⟩ := gj_bndd e
  by_cases c : l2 = 0
  · rw [if_pos c] at e
    obtain ⟨-, rfl⟩ := g_some2 rfl e
    exact h
  · rw [if_neg c] at e
    obtain ⟨X, y1, e⟩ := gj_bndd e
    obtain ⟨x2, -, e⟩ := gj_bndd e
    obtain ⟨-, rfl⟩ := g_some2 rfl e
    have f : gj_Fr _ _ M X := fr_X12_findsParents X y1
    refine ⟨by rw [f 79 30 (by decide) (by decide)]; exact h.1, fun z j a b c d => ?_⟩
    rw [g_fr_rng f (a := 112) (b := 114) (by decide) z j a b (by omega)]
    exact h.2 z j a b c d
/-- what was set aside -/
def g_LS2 (R U : gj_M) : Prop := U 79 30 = R 79 30 ∧ ∀ z j, 112 ≤ z → z ≤ 114 → 0 ≤ j → j < 16 → U (z + 14) j = R z j
theorem r_life132 {R M : gj_M} {l1 l2 : Int} (h : g_LS2 R M) : ∀ v U, gj_it (fun _ _ _ _ => none) B_X12_life_132 gj_fu l1 l2 0 M = some (v, U) → g_LK R U := by
  refine gj_okM3 (fun y : Option (Int × gj_M) => ∀ v U, y = some (v, U) → g_LK R U) (fun x1 x2 l3 N => 0 ≤ l3 ∧ l3 ≤ 16 ∧ g_LS2 R N ∧ ∀ z j, 112 ≤ z → z ≤ 114 → 0 ≤ j → j < l3 → N z j = R z j) (fun _ _ l3 _ => (16 - l3).toNat) ?_ gj_fu l1 l2 0 M ⟨by decide, by decide, h, fun z j a b c d => by omega⟩ (by show _ < 2048; omega)
  rintro rec x1 x2 l3 N ⟨a, b, hs, hd⟩ hr
  unfold B_X12_life_132
  by_cases c : 16 ≤ l3
  · rw [if_pos c]
    exact r_life180 ⟨hs.1, fun z j p q r s => hd z j p q r (by omega)⟩
  · have l16 : 0 ≤ l3 ∧ l3 < 16 := by omega
    rw [if_neg c, gj_chkp l16, gj_chkp l16, gj_let_s, gj_chkp l16, gj_chkp l16, gj_let_s, gj_chkp l16, gj_chkp l16, gj_let_s, gj_wle (by omega) (by omega), gj_up_z (show (127 : Int) ≠ 112 by decide), gj_up_z (show (128 : Int) ≠ 113 by decide), gj_up_z (show (128 : Int) ≠ 112 by decide)]
    have k := fun z p q => hs.2 z l3 p q a (by omega)
    rw [show N 126 l3 = R 112 l3 from k 112 (by decide) (by decide), show N 127 l3 = R 113 l3 from k 113 (by decide) (by decide), show N 128 l3 = R 114 l3 from k 114 (by decide) (by decide)]
    refine hr _ _ _ _ ⟨by omega, by omega, ⟨?_, fun z j p q r s => ?_⟩, fun z j p q r s => ?_⟩ (by omega)
    · rw [gj_up_z (by decide), gj_up_z (by decide), gj_up_z (by decide)]
      exact hs.1
    · rw [gj_up_z (by omega), gj_up_z (by omega), gj_up_z (by omega)]
      exact hs.2 z j p q r s
    · have : z = 112 ∨ z = 113 ∨ z = 114 := by omega
      rcases this with e | e | e <;> rw [e]
      · rw [gj_up_z (by decide), gj_up_z (by decide), gj_up_if]
        by_cases t : j = l3
        · rw [if_pos t, t]
        · rw [if_neg t]; exact hd 112 j (by decide) (by decide) r (by omega)
      · rw [gj_up_z (by decide), gj_up_if, gj_up_z (by decide)]
        by_cases t : j = l3
        · rw [if_pos t, t]
        · rw [if_neg t]; exact hd 113 j (by decide) (by decide) r (by omega)
      · rw [gj_up_if, gj_up_z (by decide), gj_up_z (by decide)]
        by_cases t : j = l3
        · rw [if_pos t, t]
        · rw [if_neg t]; exact hd 114 j (by decide) (by decide) r (by omega)
theorem r_life106 {R M : gj_M} {l1 l2 : Int} (h : g_LS2 R M) : ∀ v U, J_X12_life_104 l1 l2 M = some (v, U) → g_LK R U := by
  unfold J_X12_life_104
  refine gj_okM3 (fun y : Option (Int × gj_M) => ∀ v U, y = some (v, U) → g_LK R U) (fun x1 x2 l3 N => 0 ≤ l3 ∧ l3 ≤ 8 ∧ g_LS2 R N) (fun _ _ l3 _ => (8 - l3).toNat) ?_ gj_fu l1 l2 0 M ⟨by decide, by decide, h⟩ (by show _ < 2048; omega)
  rintro rec x1 x2 l3 N ⟨a, b, hs⟩ hr
  unfold B_X12_life_106 J_X12_life_125
  by_cases c : 8 ≤ l3
  · rw [if_pos c]
    intro v U e
    obtain ⟨X, y1, e⟩ := gj_bndd e
    have f : gj_Fr _ _ N X := fr_X12_goes 0 X y1
    refine r_life132 ⟨by rw [r_goes0 X y1]; exact hs.1, fun z j p q r s => ?_⟩ v U e
    rw [g_fr_rng f (a := 126) (b := 128) (by decide) (z + 14) j (by omega) (by omega) (by omega)]
    exact hs.2 z j p q r s
  · rw [if_neg c, gj_chkp (by omega), gj_let_s, gj_wle (by omega) (by omega)]
    refine hr _ _ _ _ ⟨by omega, by omega, by rw [gj_up_z (by decide)]; exact hs.1, fun z j p q r s => ?_⟩ (by omega)
    rw [gj_up_z (by omega)]
    exact hs.2 z j p q r s
theorem r_lifeLot {R U : gj_M} {a b v : Int} (e : F_X12_life a b R = some (v, U)) : g_LK R U := by
  have self : g_LK R R := ⟨rfl, fun _ _ _ _ _ _ => rfl⟩
  unfold F_X12_life at e
  dsimp only [gj_letI] at e
  by_cases c1 : R 79 18 = 0
  · rw [if_pos c1] at e
    obtain ⟨-, rfl⟩ := g_some2 rfl e
    exact self
  rw [if_neg c1] at e
  by_cases c2 : f_X12_in a 1 100 R = 0
  · rw [if_pos c2] at e
    obtain ⟨-, rfl⟩ := g_some2 rfl e
    exact self
  rw [if_neg c2] at e
  by_cases c3 : f_X12_in b 0 1 R = 0
  · rw [if_pos c3] at e
    obtain ⟨-, rfl⟩ := g_some2 rfl e
    exact self
  rw [if_neg c3] at e
  refine gj_okM3 (fun y : Option (Int × gj_M) => ∀ v U, y = some (v, U) → g_LK R U) (fun x1 x2 l3 N => 0 ≤ l3 ∧ l3 ≤ 16 ∧ N 79 30 = R 79 30 ∧ (∀ z j, 112 ≤ z → z ≤ 114 → 0 ≤ j → j < l3 → N (z + 14) j = R z j) ∧ ∀ z j, 112 ≤ z → z ≤ 114 → l3 ≤ j → j < 16 → N z j = R z j) (fun _ _ l3 _ => (16 - l3).toNat) ?_ gj_fu a b 0 R ⟨by decide, by decide, rfl, fun z j p q r s => by omega, fun z j p q r s => rfl⟩ (by show _ < 2048; omega) v U e
  rintro rec x1 x2 l3 N ⟨p0, p1, hs, hd, hk⟩ hr
  unfold B_X12_life_35
  by_cases c : 16 ≤ l3
  · rw [if_pos c]
    exact r_life106 ⟨hs, fun z j p q r s => hd z j p q r (by omega)⟩
  · have l16 : 0 ≤ l3 ∧ l3 < 16 := by omega
    rw [if_neg c, gj_chkp l16, gj_chkp l16, gj_let_s, gj_chkp l16, gj_chkp l16, gj_let_s, gj_chkp l16, gj_chkp l16, gj_let_s, gj_chkp l16, gj_let_s, gj_chkp l16, gj_let_s, gj_chkp l16, gj_let_s, gj_wle (by omega) (by omega), gj_up_z (show (113 : Int) ≠ 126 by decide), gj_up_z (show (114 : Int) ≠ 127 by decide), gj_up_z (show (114 : Int) ≠ 126 by decide), hk 112 l3 (by decide) (by decide) (by omega) (by omega), hk 113 l3 (by decide) (by decide) (by omega) (by omega), hk 114 l3 (by decide) (by decide) (by omega) (by omega)]
    refine hr _ _ _ _ ⟨by omega, by omega, ?_, fun z j p q r s => ?_, fun z j p q r s => ?_⟩ (by omega)
    · rw [gj_up_z (by decide), gj_up_z (by decide), gj_up_z (by decide), gj_up_z (by decide), gj_up_z (by decide), gj_up_z (by decide)]
      exact hs
    · rw [gj_up_z (by omega), gj_up_z (by omega), gj_up_z (by omega)]
      have : z = 112 ∨ z = 113 ∨ z = 114 := by omega
      rcases this with e | e | e <;> rw [e]
      · rw [show (112 : Int) + 14 = 126 from rfl, gj_up_z (by decide), gj_up_z (by decide), gj_up_if]
        by_cases t : j = l3
        · rw [if_pos t, t]
        · rw [if_neg t]; exact hd 112 j (by decide) (by decide) r (by omega)
      · rw [show (113 : Int) + 14 = 127 from rfl, gj_up_z (by decide), gj_up_if, gj_up_z (by decide)]
        by_cases t : j = l3
        · rw [if_pos t, t]
        · rw [if_neg t]; exact hd 113 j (by decide) (by decide) r (by omega)
      · rw [show (114 : Int) + 14 = 128 from rfl, gj_up_if, gj_up_z (by decide), gj_up_z (by decide)]
        by_cases t : j = l3
        · rw [if_pos t, t]
        · rw [if_neg t]; exact hd 114 j (by decide) (by decide) r (by omega)
    · have ne : j ≠ l3 := by omega
      rw [gj_up_i ne, gj_up_i ne, gj_up_i ne, gj_up_z (by omega), gj_up_z (by omega), gj_up_z (by omega)]
      exact hk z j p q (by omega) s
theorem x_life {M : gj_M} {a b : Int} (h : g_FK M M) : ∃ v D v' U, F_X11_life a b M = some (v, D) ∧ F_X12_life a b D = some (v', U) ∧ g_FK U U := by
  obtain ⟨v, D, v', U, e1, e2, hU⟩ := w_life (a := a) (b := b) h.1
  have f1 : gj_Fr _ _ M D := fr_X11_life _ _ _ e1
  have f2 : gj_Fr _ _ D U := fr_X12_life _ _ _ e2
  have hi := g_hi79 f1 (by decide)
  have lo := g_lo79 f2 (by decide)
  have l1 := c_lifeLot e1
  have l2 := r_lifeLot e2
  refine ⟨v, D, v', U, e1, e2, hU, fun i i0 i1 => ?_, fun q => ?_⟩
  · rw [lo 78 i (by decide), g_fr_rng f1 (a := 78) (b := 78) (by decide) 78 i (by decide) (by decide) (by decide), g_fr_rng f2 (a := 80) (b := 80) (by decide) 80 i (by decide) (by decide) (by decide), hi 80 i (by decide) (by decide)]
    exact h.2.1 i i0 i1
  · have v1 : M 79 18 = 1 := by rw [← hi 79 18 (by decide) (by decide), ← f2 79 18 (by decide) (by decide)]; exact q
    obtain ⟨n, im⟩ := h.2.2 v1
    have cc : ∀ z i, z < 79 → (z < 36 ∨ 40 < z) → U z i = M z i := fun z i z1 z2 => by
      rw [lo z i z1]
      by_cases c : z = 21 ∧ i = 2
      · rw [c.1, c.2]; exact l1
      · refine f1 z i (by omega) ?_
        unfold gj_fp
        simp
        omega
    have rr : ∀ z i, 79 ≤ z → z < 136 → (z < 112 ∨ (114 < z ∧ z < 119) ∨ z = 122 ∨ 128 < z) → ¬ (z = 79 ∧ i = 46) → U z i = M z i := fun z i z0 z1 z2 z3 => by
      by_cases c : z = 79 ∧ i = 30
      · rw [c.1, c.2, l2.1]; exact hi 79 30 (by decide) (by decide)
      · refine (f2 z i z1 ?_).trans (hi z i z0 z1)
        unfold gj_fp
        simp
        omega
    refine ⟨?_, fun k k0 k1 hk => ?_⟩
    · exact g_NO_pt n (fun z a b => funext fun i => cc z i (by omega) (by omega)) (fun z e => funext fun i => rr z i (by omega) (by omega) (by omega) (by omega)) (fun z j a b _ _ => cc z j (by omega) (by omega)) (fun z j a b _ _ => cc z j (by omega) (by omega)) (fun x _ _ => cc 30 x (by decide) (by decide)) (fun i _ _ => cc 21 i (by decide) (by decide)) ⟨cc 29 1 (by decide) (by decide), cc 29 2 (by decide) (by decide)⟩ (fun z j a b _ _ => rr z j (by omega) (by omega) (by omega) (by omega)) (fun z j a b c d => (l2.2 z j a b c d).trans (hi z j (by omega) (by omega))) (fun x _ _ => rr 122 x (by decide) (by decide) (by decide) (by omega)) (fun i a b => rr 79 i (by decide) (by decide) (by decide) (by omega))
    · rw [rr 135 k (by decide) (by decide) (by decide) (by omega)] at hk
      exact g_FI_s ⟨k0, k1⟩ (im k k0 k1 hk) (fun z i q => cc z i (by omega) (by omega)) (fun z i q => rr z i (by omega) (by omega) (by omega) (by omega))
theorem x_log {M : gj_M} {a b : Int} (h : g_FK M M) : ∃ v, F_X12_log a b M = some v := w_log h.1
theorem x_pairs {M : gj_M} {a b : Int} (h : g_FK M M) : ∃ v v', F_X11_pairs a b M = some v ∧ F_X12_pairs a b M = some v' := w_pairs h.1
