/-! PURE: the green told alike -/
theorem g_per {C R : gj_M} {j : Int} (hp : g_PL C R) (j8 : 0 ≤ j ∧ j < 8) : (g_pe R 101 j → f_X5_isPerson_14 j C = 1) ∧ (¬ g_pe R 101 j → f_X5_isPerson_14 j C = 0) := by
  have n0 := hp.n0
  have n1 := hp.n1
  have b0 := hp.b0
  have b1 := hp.b1
  unfold f_X5_isPerson_14 g_pe
  by_cases c : 4 ≤ j
  · rw [if_pos c, gj_wle (by omega) (by omega)]
    by_cases d : C 14 1 ≤ j - 4
    · rw [if_pos d]; exact ⟨fun q => by omega, fun _ => rfl⟩
    · rw [if_neg d]; exact ⟨fun _ => rfl, fun q => by omega⟩
  · rw [if_neg c, if_neg (by omega)]
    by_cases d : C 14 0 ≤ j
    · rw [if_pos d]; exact ⟨fun q => by omega, fun _ => rfl⟩
    · rw [if_neg d]; exact ⟨fun _ => rfl, fun q => by omega⟩
/-- who is here -/
theorem p_gather {C R : gj_M} {w : Int} (hp : g_PL C R) : ∃ D, F_X2_gather w C = some D ∧ ∀ j, 0 ≤ j → j < 8 → (g_pe R 101 j ∧ (w ≠ 0 ∨ C 22 j = -1) → D 38 j = 1) ∧ (¬ (g_pe R 101 j ∧ (w ≠ 0 ∨ C 22 j = -1)) → D 38 j = 0) := by
  refine k_cps (fun P done => ?_)
  unfold F_X2_gather
  refine gj_okM2 P (fun l1 l2 K => l1 = w ∧ 0 ≤ l2 ∧ l2 ≤ 8 ∧ gj_Fr [38] [] C K ∧ ∀ j, 0 ≤ j → j < l2 → (g_pe R 101 j ∧ (w ≠ 0 ∨ C 22 j = -1) → K 38 j = 1) ∧ (¬ (g_pe R 101 j ∧ (w ≠ 0 ∨ C 22 j = -1)) → K 38 j = 0)) (fun _ l2 _ => (8 - l2).toNat) ?_ gj_fu w 0 C ⟨rfl, by omega, by omega, gj_Fr.rf, fun j a b => by omega⟩ (by show _ < 2048; omega)
  rintro rec l1 l2 K ⟨e1, a, b, f, hK⟩ hr
  rw [e1]
  unfold B_X2_gather_2 J_X2_gather_32 J_X2_gather_58
  refine k_ite (fun c => done K (fun j x y => hK j x (by omega))) (fun c => ?_)
  have l8 : 0 ≤ l2 ∧ l2 < 8 := by omega
  have k22 : K 22 = C 22 := g_fr_row [22] f (by decide) 22 rfl (by decide)
  have k14 : K 14 = C 14 := g_fr_row [14] f (by decide) 14 rfl (by decide)
  have pr := g_per hp l8
  have pk : f_X5_isPerson_14 l2 K = f_X5_isPerson_14 l2 C := by unfold f_X5_isPerson_14; rw [k14]
  rw [gj_wle (x := l2 + 1) (by omega) (by omega), pk, f_at_in l8, k22, f_put_in l8, f_put_in l8]
  have nx : ∀ v : Int, ((g_pe R 101 l2 ∧ (w ≠ 0 ∨ C 22 l2 = -1) → v = 1) ∧ (¬ (g_pe R 101 l2 ∧ (w ≠ 0 ∨ C 22 l2 = -1)) → v = 0)) → P (rec w (l2 + 1) (gj_up K 38 l2 v)) := fun v hv => by
    refine hr _ _ _ ⟨rfl, by omega, by omega, f.up (by rw [show [38].contains (38 : Int) = true from rfl]; rfl), fun j x y => ?_⟩ (by omega)
    rw [gj_up_if]
    by_cases e : j = l2
    · rw [if_pos e, e]; exact hv
    · rw [if_neg e]; exact hK j x (by omega)
  have j1 : (w ≠ 0 ∨ C 22 l2 = -1) → P (if (1 : Int) = 0 then gj_chk ((0 : Int) = 0 ∨ (0 : Int) = 1) (gj_let (gj_up K 38 l2 0) fun M3 => rec w (l2 + 1) M3) else gj_letI (f_X5_isPerson_14 l2 C) fun x1 => if x1 = 0 then gj_chk ((0 : Int) = 0 ∨ (0 : Int) = 1) (gj_let (gj_up K 38 l2 0) fun M3 => rec w (l2 + 1) M3) else gj_chk ((1 : Int) = 0 ∨ (1 : Int) = 1) (gj_let (gj_up K 38 l2 1) fun M3 => rec w (l2 + 1) M3)) := fun hw => by
    rw [if_neg (by decide)]
    refine k_letI ?_
    by_cases q : g_pe R 101 l2
    · rw [pr.1 q, if_neg (by decide)]
      exact k_chk (Or.inr rfl) (k_let (nx 1 ⟨fun _ => rfl, fun z => absurd ⟨q, hw⟩ z⟩))
    · rw [pr.2 q, if_pos rfl]
      exact k_chk (Or.inl rfl) (k_let (nx 0 ⟨fun z => absurd z.1 q, fun _ => rfl⟩))
  by_cases c1 : w = 0
  · rw [if_pos c1]
    by_cases c2 : C 22 l2 = -1
    · rw [if_pos c2]
      exact j1 (Or.inr c2)
    · rw [if_neg c2, if_pos rfl]
      exact k_chk (Or.inl rfl) (k_let (nx 0 ⟨fun z => by omega, fun _ => rfl⟩))
  · rw [if_neg c1]
    exact j1 (Or.inl c1)
theorem p_asksF {C0 D R : gj_M} {w : Int} (hw : w = 0 ∨ w = 1) (hE : g_GE C0 D R) (h40 : ∀ j, 0 ≤ j → j < 8 → D 40 j = -1) (h39 : ∀ t, 0 ≤ t → t < 16 → D 39 t = 0) (h119 : ∀ j, 0 ≤ j → j < 8 → R 119 j = -1) : ∃ N, F_X12_asks w R = some N ∧ (g_GS (g_rounds w D 17) N ∧ g_HQ N ∧ N 120 = R 120) := by
  refine k_cps (fun P done => ?_)
  unfold F_X12_asks
  refine gj_okM2 P (fun l1 l2 M => l1 = w ∧ 0 ≤ l2 ∧ l2 ≤ 16 ∧ gj_Fr [121] [] R M ∧ ∀ t, 0 ≤ t → t < l2 → M 121 t = 0) (fun _ l2 _ => (16 - l2).toNat) ?_ gj_fu w 0 R ⟨rfl, by omega, by omega, gj_Fr.rf, fun t a b => by omega⟩ (by show _ < 2048; omega)
  rintro rec l1 l2 M ⟨e1, a, b, f, hz⟩ hr
  rw [e1]
  unfold B_X12_asks_2 J_X12_asks_21
  refine k_ite (fun c => ?_) (fun c => k_chk (by omega) ?_)
  · have m119 : M 119 = R 119 := g_fr_row [119] f (by decide) 119 rfl (by decide)
    have m120 : M 120 = R 120 := g_fr_row [120] f (by decide) 120 rfl (by decide)
    have E2 : g_GE C0 D M := g_GE_s hE rfl rfl rfl (fun z hz => g_fr_row [83, 86, 89, 92, 95, 98, 101, 108, 109, 110, 111, 112, 113, 114] f (by decide) z (by
      unfold g_rk at hz
      rcases hz with e | e | e | e | e | e | e | e
      · rw [e]; rfl
      · rw [e]; rfl
      · rw [e]; rfl
      · rw [e]; rfl
      · rw [e]; rfl
      · rw [e]; rfl
      · rw [e]; rfl
      · have : z = 108 ∨ z = 109 ∨ z = 110 ∨ z = 111 ∨ z = 112 ∨ z = 113 ∨ z = 114 := by omega
        rcases this with e | e | e | e | e | e | e <;> rw [e] <;> rfl) (by unfold g_rk at hz; omega)) m120
    obtain ⟨N, eN, n1, n2, n3, n4⟩ := p_asksJ hw E2 ⟨fun j x y => by rw [h40 j x y, m119, h119 j x y], fun t x y => by rw [h39 t x y, hz t x (by omega)]⟩ (fun j x y => Or.inl (by rw [m119]; exact h119 j x y)) (fun j x y n => absurd (by rw [m119]; exact h119 j x y) n)
    rw [eN]
    exact done N ⟨n1, g_HQ_of n2 n3, by rw [n4, m120]⟩
  · rw [gj_let_s, gj_wle (by omega) (by omega)]
    refine hr _ _ _ ⟨rfl, by omega, by omega, f.up (by rw [show [121].contains (121 : Int) = true from rfl]; rfl), fun t x y => ?_⟩ (by omega)
    rw [gj_up_if]
    split
    · rfl
    · exact hz t x (by omega)
/-- a pairing by any way -/
theorem p_pairJ {C0 D R : gj_M} {w : Int} (hw : 0 ≤ w ∧ w ≤ 3) (hE : g_GE C0 D R) (hl : D 21 2 = R 79 30) : ∃ E U, F_X2_pairUp w D = some E ∧ F_X12_goes w R = some U ∧ g_G4 E U ∧ g_HQ U ∧ U 120 = R 120 ∧ E 21 2 = U 79 30 := by
  obtain ⟨D2, hD2⟩ : ∃ X, X = f_fill (f_fill D 40 8 (-1)) 39 16 0 := ⟨_, rfl⟩
  have d40 : ∀ j, 0 ≤ j → j < 8 → D2 40 j = -1 := fun j a b => by rw [hD2, f_fill_z (by decide), f_fill_in ⟨a, b⟩]
  have d39 : ∀ t, 0 ≤ t → t < 16 → D2 39 t = 0 := fun t a b => by rw [hD2, f_fill_in ⟨a, b⟩]
  have dz : ∀ z, z ≠ 39 → z ≠ 40 → D2 z = D z := fun z a b => funext fun _ => by rw [hD2, f_fill_z a, f_fill_z b]
  have gen : ∃ U, F_X12_goes w R = some U ∧ ∃ E, F_X2_pairUp w D = some E ∧ g_G4 E U ∧ g_HQ U ∧ U 120 = R 120 ∧ E 21 2 = U 79 30 := by
    refine k_cps (fun P done => ?_)
    unfold F_X12_goes
    refine gj_okM2 P (fun l1 l2 M => l1 = w ∧ 0 ≤ l2 ∧ l2 ≤ 8 ∧ gj_Fr [119] [] R M ∧ ∀ j, 0 ≤ j → j < l2 → M 119 j = -1) (fun _ l2 _ => (8 - l2).toNat) ?_ gj_fu w 0 R ⟨rfl, by omega, by omega, gj_Fr.rf, fun j a b => by omega⟩ (by show _ < 2048; omega)
    rintro rec l1 l2 M ⟨e1, a, b, f, h9⟩ hr
    rw [e1]
    unfold B_X12_goes_2 J_X12_goes_21
    refine k_ite (fun c => ?_) (fun c => k_chk (by omega) ?_)
    · have h9 : ∀ j, 0 ≤ j → j < 8 → M 119 j = -1 := fun j x y => h9 j x (by omega)
      have m120 : M 120 = R 120 := g_fr_row [120] f (by decide) 120 rfl (by decide)
      have m30 : M 79 30 = R 79 30 := f 79 30 (by decide) (by decide)
      have E2 : g_GE C0 D2 M := g_GE_s hE (dz 36 (by decide) (by decide)) (dz 37 (by decide) (by decide)) (dz 38 (by decide) (by decide)) (fun z hz => g_fr_row [83, 86, 89, 92, 95, 98, 101, 108, 109, 110, 111, 112, 113, 114] f (by decide) z (by
        unfold g_rk at hz
        rcases hz with e | e | e | e | e | e | e | e
        · rw [e]; rfl
        · rw [e]; rfl
        · rw [e]; rfl
        · rw [e]; rfl
        · rw [e]; rfl
        · rw [e]; rfl
        · rw [e]; rfl
        · have : z = 108 ∨ z = 109 ∨ z = 110 ∨ z = 111 ∨ z = 112 ∨ z = 113 ∨ z = 114 := by omega
          rcases this with e | e | e | e | e | e | e <;> rw [e] <;> rfl) (by unfold g_rk at hz; omega)) m120
      have G4 : g_G4 D2 M := fun j x y => by rw [d40 j x y, h9 j x y]
      have HQ : g_HQ M := fun j x y => Or.inl (h9 j x y)
      have l2eq : D2 21 2 = M 79 30 := by rw [dz 21 (by decide) (by decide), m30]; exact hl
      have dd21 : D2 21 = D 21 := dz 21 (by decide) (by decide)
      have pu : ∀ X : Option gj_M, X = F_X2_pairUp w D → X = (if w = 0 then gj_bnd (F_X2_askAll 0 D2) (fun M4 => some M4) else if w = 1 then gj_bnd (F_X2_askAll 4 D2) (fun M6 => some M6) else if w = 2 then gj_bnd (F_X2_takeTurns D2) (fun M8 => some M8) else gj_bnd (F_X2_drawLots D2) (fun M10 => some M10)) := fun X e => by
        rw [e, hD2]
        rfl
      have pu := pu _ rfl
      by_cases c2 : 2 ≤ w
      · rw [if_pos c2]
        by_cases c3 : w = 2
        · obtain ⟨N, eN, n1, n2, n3⟩ := p_inTurnJ E2 G4 HQ (fun j x y => h9 j x (by omega))
          have fN : gj_Fr _ _ M N := fr_X12_inTurn N eN
          have fD : gj_Fr _ _ D2 (g_turns D2 4) := fr_X2_takeTurns _ p_takeTurns
          rw [if_neg (by omega), if_neg (by omega), if_pos c3, p_takeTurns, gj_bnd_s] at pu
          rw [if_pos c3, eN, gj_bnd_s]
          refine done N ⟨_, pu, n1, n2, by rw [n3, m120], ?_⟩
          rw [fD 21 2 (by decide) (by decide), fN 79 30 (by decide) (by decide)]
          exact l2eq
        · obtain ⟨N, eN, n1, n2, n3, n4⟩ := p_byLotJ E2 G4 HQ l2eq (fun j x y => h9 j x (by omega))
          rw [if_neg (by omega), if_neg (by omega), if_neg c3, p_drawLots, gj_bnd_s] at pu
          rw [if_neg c3, eN, gj_bnd_s]
          exact done N ⟨_, pu, n1, n2, by rw [n3, m120], n4⟩
      · rw [if_neg c2]
        have hw2 : w = 0 ∨ w = 1 := by omega
        obtain ⟨N, eN, n1, n2, n3⟩ := p_asksF hw2 E2 d40 d39 h9
        have fN : gj_Fr _ _ M N := fr_X12_asks w N eN
        have fD : gj_Fr _ _ D2 (g_rounds w D2 17) := fr_X2_askAll _ _ (p_askAll hw2)
        rw [eN, gj_bnd_s]
        refine done N ⟨g_rounds w D2 17, ?_, n1.1, n2, by rw [n3, m120], ?_⟩
        · rw [pu]
          rcases hw2 with e | e
          · rw [if_pos e, show (0 : Int) = 4 * w by omega, p_askAll (by omega)]
            rfl
          · rw [if_neg (by omega), if_pos e, show (4 : Int) = 4 * w by omega, p_askAll (by omega)]
            rfl
        · rw [fD 21 2 (by decide) (by decide), fN 79 30 (by decide) (by decide)]
          exact l2eq
    · rw [gj_let_s, gj_wle (by omega) (by omega)]
      refine hr _ _ _ ⟨rfl, by omega, by omega, f.up (by rw [show [119].contains (119 : Int) = true from rfl]; rfl), fun j x y => ?_⟩ (by omega)
      rw [gj_up_if]
      split
      · rfl
      · exact h9 j x (by omega)
  obtain ⟨U, e, E, q⟩ := gen
  exact ⟨E, U, q.1, e, q.2⟩
theorem p_greenJ {C R : gj_M} {a w : Int} (h : g_VS C R) (hy : R 79 18 = 1 → g_DY C R) (hl : R 79 18 = 1 → C 21 2 = R 79 30) : ∃ v D U, F_X11_green w a C = some (v, D) ∧ F_X12_green w a R = some (v, U) ∧ (R 79 18 = 1 → D 21 2 = U 79 30) := by
  obtain ⟨s, e1, e2, e3⟩ := p_whoJ (a := a) h hy
  suffices hh : ∃ v U, F_X12_green w a R = some (v, U) ∧ ∃ D, F_X11_green w a C = some (v, D) ∧ (R 79 18 = 1 → D 21 2 = U 79 30) by
    obtain ⟨v, U, x, D, y, z⟩ := hh
    exact ⟨v, D, U, y, x, z⟩
  unfold F_X11_green
  dsimp only [gj_letI]
  rw [e1]
  refine k_cps2 (fun P done => ?_)
  unfold F_X12_green
  dsimp only [gj_letI]
  rw [e2, gj_bnd_s]
  by_cases c : s = -1
  · rw [if_pos c]
    exact done _ _ ⟨C, by rw [if_pos c], hl⟩
  · obtain ⟨s8, hp, ⟨y, yc⟩, pe⟩ : (0 ≤ s ∧ s < 8) ∧ g_PL C R ∧ g_DY C R ∧ g_pe R 101 s := by
      rcases e3 with x | x
      · exact absurd x c
      · exact x
    have v1 : R 79 18 = 1 := by
      have b0 := hp.b0
      rcases h with ⟨x, y, z⟩ | ⟨x, -⟩
      · omega
      · exact x
    rw [if_neg c]
    by_cases hw : 0 ≤ w ∧ w ≤ 2
    · rw [g_in1 hw.1 hw.2, if_neg (by decide)]
      obtain ⟨D1, d1, h38⟩ := p_gather (w := 1) hp
      have f1 : gj_Fr _ _ C D1 := fr_X2_gather 1 D1 d1
      obtain ⟨D2, d2, hlk⟩ := p_look (C := D1)
      have f2 : gj_Fr _ _ D1 D2 := fr_X2_look 1 D2 d2
      have r1 : ∀ z, z < 31 → D1 z = C z := fun z hz => funext fun i => by
        by_cases q : 0 ≤ z
        · exact f1 z i (by omega) (by unfold gj_fp; simp; omega)
        · exact f1 z i (by omega) (by unfold gj_fp; simp; omega)
      refine gj_okM3 P (fun l1 l3 l4 M => l1 = w ∧ l3 = s ∧ 0 ≤ l4 ∧ l4 ≤ 8 ∧ gj_Fr [120] [] R M ∧ ∀ j, 0 ≤ j → j < l4 → M 120 j = 0) (fun _ _ l4 _ => (8 - l4).toNat) ?_ gj_fu w s 0 R ⟨rfl, rfl, by omega, by omega, gj_Fr.rf, fun j x y => by omega⟩ (by show _ < 2048; omega)
      rintro rec l1 l3 l4 M ⟨g1, g3, a0, a8, f, h0⟩ hr
      rw [g1, g3]
      unfold B_X12_green_30 J_X12_green_51
      refine k_ite (fun c8 => ?_) (fun c8 => k_chk (by omega) ?_)
      · have h0 : ∀ j, 0 ≤ j → j < 8 → M 120 j = 0 := fun j x z => h0 j x (by omega)
        have mr : ∀ z, g_rk z → M z = R z := fun z hz => g_fr_row [83, 86, 89, 92, 95, 98, 101, 108, 109, 110, 111, 112, 113, 114] f (by decide) z (by
          unfold g_rk at hz
          rcases hz with e | e | e | e | e | e | e | e
          · rw [e]; rfl
          · rw [e]; rfl
          · rw [e]; rfl
          · rw [e]; rfl
          · rw [e]; rfl
          · rw [e]; rfl
          · rw [e]; rfl
          · have : z = 108 ∨ z = 109 ∨ z = 110 ∨ z = 111 ∨ z = 112 ∨ z = 113 ∨ z = 114 := by omega
            rcases this with e | e | e | e | e | e | e <;> rw [e] <;> rfl) (by unfold g_rk at hz; omega)
        have E2 : g_GE D1 D2 M := by
          refine ⟨g_PL_s hp (fun z a b => r1 z (by omega)) (fun z e => mr z (by unfold g_rk; omega)), g_YS_s y (fun z a b => r1 z (by omega)) (fun z a b => mr z (by unfold g_rk; omega)), hlk, fun j x z => ?_, fun j x z => Or.inl (h0 j x z)⟩
          have q := h38 j x z
          rw [g_fr_row [38] f2 (by decide) 38 rfl (by decide), h0 j x z, g_pe_s (mr 101 (by unfold g_rk; omega))]
          exact ⟨fun t => q.1 ⟨t.1, Or.inl (by decide)⟩, fun t => q.2 (fun u => t ⟨u.1, rfl⟩)⟩
        have hl2 : D2 21 2 = M 79 30 := by
          rw [f2 21 2 (by decide) (by decide), f1 21 2 (by decide) (by decide), f 79 30 (by decide) (by decide)]
          exact hl v1
        obtain ⟨E, U, p1, p2, p3, p4, p5, p6⟩ := p_pairJ (w := w) (by omega) E2 hl2
        rw [p2, gj_bnd_s]
        have cls : ∀ v, f_num (U 119 s) = v → ∃ D, (if s = -1 then some (-2147483648, C) else if w < 0 then some (-2147483648, C) else if w ≤ 2 then gj_bnd (F_X2_gather 1 C) (fun M3 => gj_bnd (F_X2_look 1 M3) (fun M5 => gj_bnd (F_X2_pairUp w M5) (fun M7 => some (f_num (f_at M7 40 8 s), M7)))) else some (-2147483648, C)) = some (v, D) ∧ (R 79 18 = 1 → D 21 2 = U 79 30) := fun v hv => by
          rw [if_neg c, if_neg (by omega), if_pos hw.2, d1, gj_bnd_s, d2, gj_bnd_s, p1, gj_bnd_s, f_at_in s8, p3 s s8.1 s8.2, hv]
          exact ⟨E, rfl, fun _ => p6⟩
        refine k_chk s8 ?_
        have q := p4 s s8.1 s8.2
        by_cases c2 : U 119 s = -1
        · rw [if_pos c2]
          exact done _ _ (cls _ (by rw [c2]; rfl))
        · rw [if_neg c2]
          refine k_chk s8 (done _ _ (cls _ ?_))
          unfold f_num f_X12_told
          by_cases c3 : U 119 s < 4
          · rw [if_pos c3, if_neg (by omega)]
          · rw [if_neg c3, if_pos (by omega), gj_wle (x := U 119 s - 4) (by omega) (by omega), gj_wle (by omega) (by omega), gj_wle (by omega) (by omega)]
            omega
      · rw [gj_let_s, gj_wle (by omega) (by omega)]
        refine hr _ _ _ _ ⟨rfl, rfl, by omega, by omega, f.up (by rw [show [120].contains (120 : Int) = true from rfl]; rfl), fun j x y => ?_⟩ (by omega)
        rw [gj_up_if]
        split
        · rfl
        · exact h0 j x (by omega)
    · rw [g_in0 hw, if_pos rfl]
      refine done _ _ ⟨C, ?_, hl⟩
      rw [if_neg c]
      by_cases w0 : w < 0
      · rw [if_pos w0]
      · rw [if_neg w0, if_neg (by omega)]
