/-! PURE: the full relation is kept by what tells, and the answers agree -/
theorem g_FL_2 {M D U : gj_M} {os os' : List Int} {ps ps' : List (Int × Int)} (h : g_FL M M) (f1 : gj_Fr os ps M D) (f2 : gj_Fr os' ps' D U) (v1 : (g_okV os ps && g_okW os ps) = true) (v2 : (g_okV os' ps' && g_okW os' ps') = true) (rf : g_RF D U) (lo : ∀ i, 0 ≤ i → i < 3 → U 78 i = D 78 i) : g_FL U U := by
  rw [Bool.and_eq_true] at v1 v2
  refine ⟨fun i a b => ?_, g_FV_fr (g_FV_fr h.2 f1 f1 v1.1 v1.2) f2 f2 v2.1 v2.2⟩
  rw [lo i a b]
  exact rf i a b
theorem x_person {M : gj_M} {a b : Int} (h : g_FK M M) : F_X12_person a b M = some (f_X11_person a b M) := p_personOf h.1.vs h.2.ys
theorem x_earned {M : gj_M} {a : Int} (h : g_FK M M) : F_X12_earned a M = some (f_X11_earned a M) := p_earned h.1.vs h.2.ys
theorem x_two {M : gj_M} {a b c : Int} (h : g_FK M M) : F_X12_two_ a b c M = some (f_X11_two a b c M) := p_toldTwo h.1.vs h.2.ys
theorem x_think {M : gj_M} {a b c : Int} (h : g_FK M M) : F_X12_think a b c M = some (f_X11_think a b c M) := w_think h.1
theorem x_shown {M : gj_M} {a b c : Int} (h : g_FK M M) : ∃ v, F_X11_shown a b c M = some v ∧ F_X12_shown a b c M = some v := by
  obtain ⟨x, e1, e2⟩ := p_shownOf (a := a) (b := b) (k := c) h.1.vs h.2.ys
  exact ⟨x, e2, e1⟩
theorem x_liking {M : gj_M} {a b : Int} (h : g_FK M M) : F_X12_liking a b M = some (f_X11_liking a b M) := p_likingOf h.1.vs h.2.ys
theorem x_status {M : gj_M} {a : Int} (h : g_FK M M) : ∃ v, F_X11_status a M = some v ∧ F_X12_status a M = some v := by
  obtain ⟨v, v', e1, e2⟩ := w_status (M := M) (a := a)
  have := p_status (a := a) h.2.1
  exact ⟨v, e1, by rw [← this]; exact e1⟩
theorem x_count {M : gj_M} {a : Int} (h : g_FK M M) : f_X12_count a M = f_X11_count a M := w_count h.1
theorem x_end {M : gj_M} {a : Int} (h : g_FK M M) : ∃ U, F_X12_end a (f_X11_end a M).2 = some ((f_X11_end a M).1, U) ∧ g_FK U U := by
  obtain ⟨U, e2, hU⟩ := w_end (a := a) h.1
  have f1 : gj_Fr _ _ M (f_X11_end a M).2 := fr_X11_end a (M := M)
  have f2 : gj_Fr _ _ (f_X11_end a M).2 U := fr_X12_end a _ e2
  have hi := g_hi79 f1 (by decide)
  obtain ⟨x, D1, U1, k1, k2, -, k4⟩ := p_end (a := a) (C := M) (R := (f_X11_end a M).2) (g_TX_s h.1.1 rfl rfl (hi 79 2 (by decide) (by decide)) (funext fun i => hi 81 i (by decide) (by decide))) (fun i a b => by rw [hi 80 i (by decide) (by decide)]; exact h.2.1 i a b)
  obtain ⟨-, rfl⟩ := g_some2 e2 k2
  have eD : (f_X11_end a M).2 = D1 := by rw [k1]
  rw [← eD] at k4
  exact ⟨U, e2, hU, g_FL_2 h.2 f1 f2 (by decide) (by decide) k4 (fun i _ _ => g_lo79 f2 (by decide) 78 i (by decide))⟩
theorem x_feed {M : gj_M} {a b c d e : Int} (h : g_FK M M) : ∃ v D U, F_X11_feed a b c d e M = some (v, D) ∧ F_X12_feed a b c d e D = some (v, U) ∧ g_FK U U := by
  obtain ⟨v, D, U, e1, e2, hU⟩ := w_feed (a := a) (b := b) (c := c) (d := d) (e := e) h.1
  have f1 : gj_Fr _ _ M D := fr_X11_feed _ _ _ _ _ _ e1
  have f2 : gj_Fr _ _ D U := fr_X12_feed _ _ _ _ _ _ e2
  have hi := g_hi79 f1 (by decide)
  obtain ⟨x, D1, U1, k1, k2, -, k4⟩ := p_feed (a := a) (b := b) (c := c) (d := d) (e := e) (C := M) (R := D) (g_TX_s h.1.1 rfl rfl (hi 79 2 (by decide) (by decide)) (funext fun i => hi 81 i (by decide) (by decide))) (fun i a b => by rw [hi 80 i (by decide) (by decide)]; exact h.2.1 i a b)
  obtain ⟨-, rfl⟩ := g_some2 e1 k1
  obtain ⟨-, rfl⟩ := g_some2 e2 k2
  exact ⟨v, D, U, e1, e2, hU, g_FL_2 h.2 f1 f2 (by decide) (by decide) k4 (fun i _ _ => g_lo79 f2 (by decide) 78 i (by decide))⟩
theorem x_fault {M : gj_M} {c : Int} (hc : 136 ≤ c) (h : g_FK M M) : ∃ v D U, F_X11_fault M = some (v, D) ∧ F_X12_fault c D = some (v, (c + 1, U)) ∧ g_FK U U := by
  obtain ⟨v, D, U, e1, e2, hU⟩ := w_fault hc h.1
  obtain ⟨v1, D1, -, y1, -, f, -⟩ := p_fault hc h.1.1.1 h.1.1.2.1 h.1.1.2.2
  obtain ⟨-, rfl⟩ := g_some2 e1 y1
  have h1 : g_WK M D := g_WK_rz h.1 (g_hi79 f (by decide))
  obtain ⟨v2, D2, U2, y2, y3, -, f'⟩ := p_fault hc h1.1.1 h1.1.2.1 h1.1.2.2
  obtain ⟨-, rfl⟩ := g_some2 e1 y2
  obtain ⟨-, y4⟩ := g_some2 e2 y3
  obtain rfl : U = U2 := (Prod.mk.inj y4).2
  exact ⟨v, D, U, e1, e2, hU, g_FL_d (g_FL_d h.2 f (by decide) (by decide)) f' (by decide) (by decide)⟩
theorem p_greenB {C D : gj_M} {w a v : Int} (e : F_X11_green w a C = some (v, D)) (h : 0 ≤ C 21 2 ∧ C 21 2 < 2147483648) : 0 ≤ D 21 2 ∧ D 21 2 < 2147483648 := by
  unfold F_X11_green at e
  dsimp only [gj_letI] at e
  by_cases c1 : f_X5_slotOf a C = -1
  · rw [if_pos c1] at e
    obtain ⟨-, rfl⟩ := g_some2 rfl e
    exact h
  rw [if_neg c1] at e
  by_cases c2 : w < 0
  · rw [if_pos c2] at e
    obtain ⟨-, rfl⟩ := g_some2 rfl e
    exact h
  rw [if_neg c2] at e
  by_cases c3 : w ≤ 2
  · rw [if_pos c3] at e
    obtain ⟨C1, x1, e⟩ := gj_bndd e
    obtain ⟨C2, x2, e⟩ := gj_bndd e
    obtain ⟨C3, x3, e⟩ := gj_bndd e
    obtain ⟨-, rfl⟩ := g_some2 rfl e
    have f1 : gj_Fr _ _ C C1 := fr_X2_gather 1 C1 x1
    have f2 : gj_Fr _ _ C1 C2 := fr_X2_look 1 C2 x2
    exact p_pairB x3 (by rw [f2 21 2 (by decide) (by decide), f1 21 2 (by decide) (by decide)]; exact h)
  · rw [if_neg c3] at e
    obtain ⟨-, rfl⟩ := g_some2 rfl e
    exact h
/-- the green may draw lots -/
theorem x_green {M : gj_M} {a b : Int} (h : g_FK M M) : ∃ v D U, F_X11_green a b M = some (v, D) ∧ F_X12_green a b D = some (v, U) ∧ g_FK U U := by
  obtain ⟨v, D, v', U, e1, e2, hU⟩ := w_green (a := a) (b := b) h.1
  have f1 : gj_Fr _ _ M D := fr_X11_green _ _ _ e1
  have f2 : gj_Fr _ _ D U := fr_X12_green _ _ _ e2
  have hi := g_hi79 f1 (by decide)
  have lo := g_lo79 f2 (by decide)
  have hV : g_VS M D := (g_WK_rz h.1 hi).vs
  have hM : g_FL M D := g_FL_rz h.2 f1 (by decide)
  obtain ⟨x, D2, U2, k1, k2, k3⟩ := p_greenJ (a := b) (w := a) hV hM.dy (fun q => (hM.2 q).1.n4.2.2.1)
  obtain ⟨a1, rfl⟩ := g_some2 e1 k1
  obtain ⟨b1, rfl⟩ := g_some2 e2 k2
  refine ⟨v, D, U, e1, by rw [e2, b1, a1], hU, fun i i0 i1 => ?_, fun q => ?_⟩
  · rw [lo 78 i (by decide), g_fr_rng f1 (a := 78) (b := 78) (by decide) 78 i (by decide) (by decide) (by decide), g_fr_rng f2 (a := 80) (b := 80) (by decide) 80 i (by decide) (by decide) (by decide), hi 80 i (by decide) (by decide)]
    exact h.2.1 i i0 i1
  · have v1 : D 79 18 = 1 := by rw [← f2 79 18 (by decide) (by decide)]; exact q
    obtain ⟨n, im⟩ := hM.2 v1
    have r := p_greenB e1 (by rw [n.n4.2.2.1]; exact n.n4.2.2.2)
    have e3 := k3 v1
    have cc : ∀ z i, z < 79 → (z < 36 ∨ 40 < z) → ¬ (z = 21 ∧ i = 2) → U z i = M z i := fun z i z1 z2 z3 => by
      rw [lo z i z1]
      refine f1 z i (by omega) ?_
      unfold gj_fp
      simp
      omega
    have rr : ∀ z i, 79 ≤ z → z < 136 → (z < 119 ∨ 121 < z) → ¬ (z = 79 ∧ i = 30) → U z i = D z i := fun z i z0 z1 z2 z3 => by
      refine f2 z i z1 ?_
      unfold gj_fp
      simp
      omega
    refine ⟨?_, fun k k0 k1' hk => ?_⟩
    · have n2 := g_NO_lot n (b := U 79 30) (by rw [← e3]; exact r)
      have wc : ∀ z i, z < 79 → (z < 36 ∨ 40 < z) → U z i = gj_up M 21 2 (U 79 30) z i := fun z i z1 z2 => by
        by_cases c : z = 21 ∧ i = 2
        · rw [c.1, c.2, gj_up_eq, lo 21 2 (by decide)]
          exact e3
        · rw [show gj_up M 21 2 (U 79 30) z i = M z i from if_neg c]
          exact cc z i z1 z2 c
      have wr : ∀ z i, 79 ≤ z → z < 136 → (z < 119 ∨ 121 < z) → U z i = gj_up D 79 30 (U 79 30) z i := fun z i z0 z1 z2 => by
        by_cases c : z = 79 ∧ i = 30
        · rw [c.1, c.2, gj_up_eq]
        · rw [show gj_up D 79 30 (U 79 30) z i = D z i from if_neg c]
          exact rr z i z0 z1 z2 c
      exact g_NO_pt n2 (fun z a b => funext fun i => wc z i (by omega) (by omega)) (fun z e => funext fun i => wr z i (by omega) (by omega) (by omega)) (fun z j a b _ _ => wc z j (by omega) (by omega)) (fun z j a b _ _ => wc z j (by omega) (by omega)) (fun x _ _ => wc 30 x (by decide) (by decide)) (fun i _ _ => wc 21 i (by decide) (by decide)) ⟨wc 29 1 (by decide) (by decide), wc 29 2 (by decide) (by decide)⟩ (fun z j a b _ _ => wr z j (by omega) (by omega) (by omega)) (fun z j a b _ _ => wr z j (by omega) (by omega) (by omega)) (fun x _ _ => wr 122 x (by decide) (by decide) (by decide)) (fun i a b => wr 79 i (by decide) (by decide) (by decide))
    · rw [rr 135 k (by decide) (by decide) (by decide) (by omega)] at hk
      exact g_FI_s ⟨k0, k1'⟩ (im k k0 k1' hk) (fun z i q => cc z i (by omega) (by omega) (by omega)) (fun z i q => rr z i (by omega) (by omega) (by omega) (by omega))
