/-! PURE: the two reckon alike: who reckons, silent -/
theorem p_mind {C R : gj_M} {s : Int} (hp : g_PL C R) (y : g_YS C R) (yc : g_YC R) (s8 : 0 ≤ s ∧ s < 8) (pe : g_pe R 101 s) : ∃ D U, F_X4_enter s C = some D ∧ F_X12_lays s R = some U ∧ g_MR s D U ∧ g_av s (D 31 7) U ∧ (D 31 7 = -1 ↔ R 108 s = -1) ∧ (R 108 s ≠ -1 → D 31 7 = R 108 s % 4) ∧ D 31 8 = (if R 108 s = -1 then 0 else R 109 s) ∧ U 108 = R 108 ∧ U 109 = R 109 ∧ D 31 9 = C 14 8 := by
  have hS : g_RS R := ⟨C, hp, y⟩
  obtain ⟨D, eD, ⟨d5, d6, d7, d8, d9, d10⟩, hE⟩ := p_enter (C := C) s8
  obtain ⟨U, eU, u35, u36, u37, hA, hB⟩ := p_lays hS yc.1 s8
  have fD : gj_Fr _ _ C D := fr_X4_enter s D eD
  have fU : gj_Fr _ _ R U := fr_X12_lays s U eU
  have hc : ∀ z, 14 ≤ z → z ≤ 20 → D z = C z := fun z a b => g_fr_row [14, 15, 16, 17, 18, 19, 20] fD (by decide) z (by
    have : z = 14 ∨ z = 15 ∨ z = 16 ∨ z = 17 ∨ z = 18 ∨ z = 19 ∨ z = 20 := by omega
    rcases this with e | e | e | e | e | e | e <;> rw [e] <;> rfl) (by omega)
  have hr : ∀ z, z = 83 ∨ z = 86 ∨ z = 89 ∨ z = 92 ∨ z = 95 ∨ z = 98 ∨ z = 101 ∨ z = 108 ∨ z = 109 → U z = R z := fun z e => g_fr_row [83, 86, 89, 92, 95, 98, 101, 108, 109] fU (by decide) z (by rcases e with e | e | e | e | e | e | e | e | e <;> rw [e] <;> rfl) (by omega)
  have n0 := hp.n0
  have n1 := hp.n1
  have hot : C 14 (g_ot s) = R 101 (g_ot s) := by rcases g_ot_01 (s := s) with e | e <;> rw [e] <;> assumption
  have b4 := hS.bs (g_ot_01 (s := s))
  have peC : g_pe C 14 s := by
    unfold g_pe at *
    rw [n0, n1]
    exact pe
  have al := hp.al s s8.1 s8.2 peC
  have hd6 := hp.hd 6 (by decide) (by decide)
  have e148 : C 14 8 = R 98 6 := hd6.1
  have b6 : 0 ≤ R 98 6 ∧ R 98 6 ≤ 999 := ⟨hd6.2.1, hd6.2.2.1⟩
  have hd5 := hp.hd 5 (by decide) (by decide)
  have e147 : C 14 7 = R 98 5 := hd5.1
  have b5 : 0 ≤ R 98 5 ∧ R 98 5 ≤ 99 := ⟨hd5.2.1, hd5.2.2.1⟩
  have mt := y.mt s s8.1 s8.2
  have yr := y.yr s s8.1 s8.2
  have u101 : U 101 = R 101 := hr 101 (by decide)
  refine ⟨D, U, eD, eU, ⟨g_PL_s hp hc (fun z e => hr z (by omega)), ⟨d5, u35, by rw [d6, u101, hot]⟩, ⟨by rw [d9, u36, e148], by rw [d9, e148]; exact b6.1, by rw [d9, e148]; exact b6.2⟩, by rw [d10, u37], ?_, fun k a b => ?_, fun k x1 x2 a b x3 => ?_⟩, ?_, ?_, ?_, ?_, hr 108 (by decide), hr 109 (by decide), d9⟩
  · rw [hc 15 (by decide) (by decide), hr 83 (by decide)]; exact al
  · rw [u101] at b
    obtain ⟨e1, e2, e3⟩ := hE k a (by omega)
    obtain ⟨f1, f2⟩ := hA k a b
    obtain ⟨q8, u, -, -⟩ := g_qq_ok (k := k) s8 (by omega)
    obtain ⟨-, t2⟩ := p_twoOf (M := C) s8 q8 u
    obtain ⟨w1, w2, w3, w4⟩ := y.nw _ t2.1 t2.2
    have ch := yc.1 _ t2.1 t2.2
    have m := g_mul (a := 1000 * R 98 5) (A := 99000) (by omega) ch
    rw [e1, e2, e3, f1, f2, e147, w3, gj_wle (x := 1000 * R 98 5) (by omega) (by omega), gj_wle (by omega) (by omega)]
    exact ⟨w1, w2, w4, by omega, by omega⟩
  · rw [u101] at b
    obtain ⟨-, -, e3⟩ := hE k a (by omega)
    obtain ⟨q8, u, -, -⟩ := g_qq_ok (k := k) s8 (by omega)
    obtain ⟨-, t2⟩ := p_twoOf (M := C) s8 q8 u
    obtain ⟨-, -, w3, -⟩ := y.nw _ t2.1 t2.2
    have ch := yc.1 _ t2.1 t2.2
    have m := g_mul (a := 1000 * R 98 5) (A := 99000) (by omega) ch
    obtain ⟨⟨x30, x31⟩, x32, x33⟩ := x3
    obtain ⟨g1, g2⟩ := hB k a b (5 * x1 + x2) (by omega) (by omega)
    rw [show (5 * x1 + x2) / 5 = x1 by omega, show (5 * x1 + x2) % 5 = x2 by omega] at g1 g2
    rw [hr 86 (by decide), hr 89 (by decide), hr 92 (by decide), hr 98 (by decide), show 25 * k + 5 * x1 + x2 = 25 * k + (5 * x1 + x2) by omega, g1, g2, e3, e147, w3, gj_wle (x := 1000 * R 98 5) (by omega) (by omega), gj_wle (by omega) (by omega)]
    exact ⟨rfl, rfl⟩
  · unfold g_av
    rw [d7, u101, mt.1]
    rcases mt.2 with e | ⟨m0, m8, mo⟩
    · rw [e]; exact Or.inl rfl
    · right
      have pm := (yc.2 s s8.1 s8.2 (by omega)).2.1
      unfold g_pe at pm
      unfold f_plc g_ot
      by_cases c : s < 4
      · rw [if_pos c, if_neg (by omega), gj_wle (by omega) (by omega)]; omega
      · rw [if_neg c, if_pos (by omega)]; omega
  · rw [d7, mt.1]
    unfold f_plc
    rcases mt.2 with e | ⟨m0, m8, mo⟩
    · rw [e, if_pos (by decide)]
    · by_cases c : R 108 s < 4
      · rw [if_pos c]
      · rw [if_neg c, gj_wle (by omega) (by omega)]; omega
  · intro hm
    rw [d7, mt.1]
    unfold f_plc
    rcases mt.2 with e | ⟨m0, m8, mo⟩
    · exact absurd e hm
    · by_cases c : R 108 s < 4
      · rw [if_pos c]; omega
      · rw [if_neg c, gj_wle (by omega) (by omega)]; omega
  · rw [d8, yr]
theorem p_mateOf {R U : gj_M} {s w : Int} (s8 : 0 ≤ s ∧ s < 8) (h1 : U 108 = R 108) (h2 : w = -1 ↔ R 108 s = -1) (h3 : R 108 s ≠ -1 → w = R 108 s % 4) (h4 : R 108 s = -1 ∨ 0 ≤ R 108 s) : F_X12_mateOf s U = some w := by
  unfold F_X12_mateOf
  rw [gj_chkp s8, h1]
  by_cases c : R 108 s = -1
  · rw [if_pos c, h2.mpr c]
  · rw [if_neg c, gj_chkp s8, g_tmod (by omega), h3 c]
/-- one's best, asked of both -/
theorem p_bestOf {C R : gj_M} {s n : Int} (hp : g_PL C R) (y : g_YS C R) (yc : g_YC R) (s8 : 0 ≤ s ∧ s < 8) (pe : g_pe R 101 s) (hn : 1 ≤ n ∧ n ≤ 4) : ∃ D U v b d, F_X4_enter s C = some D ∧ F_X4_bestAct n D = some (b, D) ∧ F_X4_bestWorth n D = some (v, D) ∧ F_X12_bestOf s n R = some (v, gj_up U 79 38 b) ∧ F_X12_mateOf s (gj_up U 79 38 b) = some (D 31 7) ∧ (D 31 7 = -1 ↔ R 108 s = -1) ∧ (-(10000000 * n) ≤ v ∧ v ≤ 10000000 * n) ∧ (-1 ≤ b ∧ b < 4) ∧ F_X4_doing (F_X4_worth 5) (D 31 7) n (D 31 7) (D 31 8) D = some (d, D) ∧ (gj_up U 79 38 b 108 = R 108) := by
  obtain ⟨D, U, eD, eU, hM, av, w1, w2, w3, u108, u109, -⟩ := p_mind hp y yc s8 pe
  obtain ⟨v, b, d, e1, e2, e3, e4, b1, b2, b3⟩ := p_best6 s8 hn hM av
  have mt := (y.mt s s8.1 s8.2).2
  have mo := p_mateOf s8 u108 w1 w2 (by omega)
  have mo2 := p_mateOf (U := gj_up U 79 38 b) s8 (by rw [← u108]; exact funext fun _ => gj_up_z (by decide)) w1 w2 (by omega)
  have c4 := hM.cnt
  refine ⟨D, U, v, b, d, eD, e1, ?_, ?_, mo2, w1, b1, ?_, e4, by rw [← u108]; exact funext fun _ => gj_up_z (by decide)⟩
  · unfold F_X4_bestWorth
    rw [e2, gj_bnd2_s]
  · unfold F_X12_bestOf
    rw [eU, gj_bnd_s, mo, gj_bnd_s, gj_chkp s8, u108]
    by_cases c : R 108 s = -1
    · rw [if_pos c] at w3 ⊢
      rw [w3] at e3
      rw [e3, gj_bnd2_s]
    · rw [if_neg c] at w3 ⊢
      rw [w3] at e3
      rw [gj_chkp s8, u109, e3, gj_bnd2_s]
  · unfold g_av at av
    have e6 := hM.2.1.2.2
    rcases b3 with ⟨-, x⟩ | ⟨-, -, x⟩ <;> omega
/-- silent, asked of both -/
theorem p_silentOf {C R : gj_M} {s n : Int} (hp : g_PL C R) (y : g_YS C R) (yc : g_YC R) (s8 : 0 ≤ s ∧ s < 8) (pe : g_pe R 101 s) (hn : 1 ≤ n ∧ n ≤ 4) : ∃ D t U, F_X4_enter s C = some D ∧ F_X4_stays n D = some (t, D) ∧ F_X12_isSilent s n R = some (1 - t, U) ∧ (t = 0 ∨ t = 1) ∧ (R 108 s = -1 → t = 1) := by
  obtain ⟨D, U, v, b, d, eD, e1, -, e3, e4, w1, -, -, -, -⟩ := p_bestOf hp y yc s8 pe hn
  by_cases c : R 108 s = -1
  · refine ⟨D, 1, R, eD, ?_, ?_, Or.inr rfl, fun _ => rfl⟩
    · unfold F_X4_stays
      rw [if_pos (w1.mpr c)]
    · unfold F_X12_isSilent
      rw [gj_chkp s8, if_pos c]
      rfl
  · have cD : ¬ D 31 7 = -1 := fun e => c (w1.mp e)
    by_cases cb : b = D 31 7
    · refine ⟨D, 1, gj_up U 79 38 b, eD, ?_, ?_, Or.inr rfl, fun _ => rfl⟩
      · unfold F_X4_stays
        rw [if_neg cD, e1, gj_bnd2_s, if_pos cb]
      · unfold F_X12_isSilent
        rw [gj_chkp s8, if_neg c, e3, gj_bnd2_s, e4, gj_bnd_s, gj_up_eq, if_pos cb]
        rfl
    · refine ⟨D, 0, gj_up U 79 38 b, eD, ?_, ?_, Or.inl rfl, fun e => absurd e c⟩
      · unfold F_X4_stays
        rw [if_neg cD, e1, gj_bnd2_s, if_neg cb]
      · unfold F_X12_isSilent
        rw [gj_chkp s8, if_neg c, e3, gj_bnd2_s, e4, gj_bnd_s, gj_up_eq, if_neg cb]
        rfl
