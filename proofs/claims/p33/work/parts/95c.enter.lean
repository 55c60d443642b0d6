/-! PURE: the two reckon alike: entering -/
/-- children in their range; mates are persons, and each other's -/
def g_YC (R : gj_M) : Prop := (∀ j, 0 ≤ j → j < 16 → 0 ≤ R 114 j ∧ R 114 j ≤ 99) ∧ (∀ j, 0 ≤ j → j < 8 → R 108 j ≠ -1 → g_pe R 101 j ∧ g_pe R 101 (R 108 j) ∧ R 108 (R 108 j) = j)
def g_qq (s k : Int) : Int := 4 * g_ot s + k
theorem g_qq_ok {s k : Int} (s8 : 0 ≤ s ∧ s < 8) (k4 : 0 ≤ k ∧ k < 4) : (0 ≤ g_qq s k ∧ g_qq s k < 8) ∧ ¬ (s < 4 ↔ g_qq s k < 4) ∧ f_fac s k = g_qq s k ∧ g_qq s k % 4 = k := by
  unfold g_qq g_ot f_fac
  by_cases c : s < 4
  · rw [if_pos c, if_neg (by omega), if_pos c, gj_wle (by omega) (by omega)]; omega
  · rw [if_neg c, if_neg (by omega), if_neg c]; omega
theorem p_likesG {M : gj_M} {s q g t : Int} (s8 : 0 ≤ s ∧ s < 8) (q8 : 0 ≤ q ∧ q < 8) (u : ¬ (s < 4 ↔ q < 4)) (ht : f_cpl s q = t) (hg : 0 ≤ g ∧ g ≤ 1000) (h0 : 0 ≤ M 98 0 ∧ M 98 0 ≤ 99) (h1 : 0 ≤ M 98 1 ∧ M 98 1 ≤ 99) (h5 : 0 ≤ M 98 5 ∧ M 98 5 ≤ 99) (hc : 0 ≤ M 114 t ∧ M 114 t ≤ 99) : F_X12_likes s q g M = some (g * M 98 0 + (1000 - g) * M 98 1 + 1000 * M 98 5 * M 114 t) := by
  unfold F_X12_likes
  obtain ⟨e, h⟩ := p_twoOf (M := M) s8 q8 u
  dsimp only [gj_letI]
  rw [e, gj_chkp h, ht]
  have b := p_brings (ch := 0) hg h0 h1
  have m := g_mul (a := 1000 * M 98 5) (A := 99000) (by omega) hc
  rw [gj_wle (x := g * M 98 0) (by omega) (by omega), gj_wle (x := 1000 - g) (by omega) (by omega), gj_wle (x := (1000 - g) * M 98 1) (by omega) (by omega), gj_wle (x := g * M 98 0 + _) (by omega) (by omega), gj_wle (x := 1000 * M 98 5) (by omega) (by omega), gj_wle (x := 1000 * M 98 5 * M 114 t) (by omega) (by omega), gj_wle (by omega) (by omega)]
/-- what lays leaves -/
def g_LA (s : Int) (R U : gj_M) (K : Int) : Prop := ∀ k, 0 ≤ k → k < K → U 115 k = R 112 (f_cpl s (g_qq s k)) ∧ U 116 k = R 113 (f_cpl s (g_qq s k))
def g_LB (s : Int) (R U : gj_M) (k N : Int) : Prop := ∀ i, 0 ≤ i → i < N → U 117 (25 * k + i) = g_sh (R 86 (4 * s + k)) (R 89 (4 * s + k)) (R 92 (4 * s + k)) (i / 5) (i % 5) ∧ U 118 (25 * k + i) = g_sh (R 86 (4 * s + k)) (R 89 (4 * s + k)) (R 92 (4 * s + k)) (i / 5) (i % 5) * R 98 0 + (1000 - g_sh (R 86 (4 * s + k)) (R 89 (4 * s + k)) (R 92 (4 * s + k)) (i / 5) (i % 5)) * R 98 1 + 1000 * R 98 5 * R 114 (f_cpl s (g_qq s k))
theorem p_lays {R : gj_M} {s : Int} (h : g_RS R) (hc : ∀ j, 0 ≤ j → j < 16 → 0 ≤ R 114 j ∧ R 114 j ≤ 99) (s8 : 0 ≤ s ∧ s < 8) : ∃ N, F_X12_lays s R = some N ∧ N 79 35 = s ∧ N 79 36 = R 98 6 ∧ N 79 37 = -1 ∧ g_LA s R N (R 101 (g_ot s)) ∧ (∀ k, 0 ≤ k → k < R 101 (g_ot s) → g_LB s R N k 25) := by
  suffices hh : ∀ P : Option gj_M → Prop, (∀ N, N 79 35 = s → N 79 36 = R 98 6 → N 79 37 = -1 → g_LA s R N (R 101 (g_ot s)) → (∀ k, 0 ≤ k → k < R 101 (g_ot s) → g_LB s R N k 25) → P (some N)) → P (F_X12_lays s R) from hh (fun y => ∃ N, y = some N ∧ N 79 35 = s ∧ N 79 36 = R 98 6 ∧ N 79 37 = -1 ∧ g_LA s R N (R 101 (g_ot s)) ∧ (∀ k, 0 ≤ k → k < R 101 (g_ot s) → g_LB s R N k 25)) (fun N a b c d e => ⟨N, rfl, a, b, c, d, e⟩)
  intro P done
  have ho := g_ot_01 (s := s)
  have hb := h.bs ho
  have h0 := h.hd 0 (by decide) (by decide)
  have h1 := h.hd 1 (by decide) (by decide)
  have h5 := h.hd 5 (by decide) (by decide)
  have W : 0 ≤ R 98 0 ∧ R 98 0 ≤ 99 := ⟨h0.1, h0.2.1⟩
  have Pq : 0 ≤ R 98 1 ∧ R 98 1 ≤ 99 := ⟨h1.1, h1.2.1⟩
  have Eb : 0 ≤ R 98 5 ∧ R 98 5 ≤ 99 := ⟨h5.1, h5.2.1⟩
  unfold F_X12_lays
  rw [gj_let_s, gj_let_s, gj_let_s, gj_up_z (z := 79) (a := 98) (by decide)]
  refine gj_okM2 P (fun l1 l2 M => l1 = s ∧ 0 ≤ l2 ∧ l2 ≤ R 101 (g_ot s) ∧ M 79 35 = s ∧ M 79 36 = R 98 6 ∧ M 79 37 = -1 ∧ g_LA s R M l2 ∧ (∀ k, 0 ≤ k → k < l2 → g_LB s R M k 25) ∧ gj_Fr [115, 116, 117, 118] [(79, 35), (79, 36), (79, 37)] R M) (fun _ l2 _ => (4 - l2).toNat) ?_ gj_fu s 0 _ ⟨rfl, by omega, by omega, ?_, ?_, ?_, fun k a b => by omega, fun k a b => by omega, ((gj_Fr.rf.up (by decide)).up (by decide)).up (by decide)⟩ (by show _ < 2048; omega)
  · rintro rec l1 l2 M ⟨e1, l20, l24, m35, m36, m37, hA, hB, f⟩ hr
    rw [e1]
    have rows : ∀ z, z = 86 ∨ z = 89 ∨ z = 92 ∨ z = 98 ∨ z = 101 ∨ z = 112 ∨ z = 113 ∨ z = 114 → M z = R z := fun z e => g_fr_row [86, 89, 92, 98, 101, 112, 113, 114] f (by decide) z (by rcases e with e | e | e | e | e | e | e | e <;> rw [e] <;> rfl) (by omega)
    unfold B_X12_lays_25
    rw [g_ot_e s8, rows 101 (by decide)]
    refine k_chk (by omega) (k_ite (fun c => ?_) (fun c => ?_))
    · have e : l2 = R 101 (g_ot s) := by omega
      rw [e] at hA hB
      exact done M m35 m36 m37 hA hB
    · have hx : gj_w (gj_w (4 * g_ot s) + l2) = g_qq s l2 := by unfold gj_w g_qq; omega
      dsimp only [gj_letI]
      rw [hx]
      obtain ⟨q8, u, -, qm⟩ := g_qq_ok (k := l2) s8 (by omega)
      obtain ⟨t1, t2⟩ := p_twoOf (M := M) s8 q8 u
      rw [t1]
      refine k_chk t2 (k_chk (by omega) ?_)
      rw [gj_let_s, (p_twoOf s8 q8 u).1]
      refine k_chk t2 (k_chk (by omega) ?_)
      rw [gj_let_s, gj_up_z (z := 115) (a := 113) (by decide), rows 112 (by decide), rows 113 (by decide)]
      have hc0 := hc _ t2.1 t2.2
      have e101 : ∀ (N : gj_M) (z i v : Int), z = 115 ∨ z = 116 ∨ z = 117 ∨ z = 118 → ∀ a b, a ≠ z → gj_up N z i v a b = N a b := fun N z i v _ a b hz => gj_up_z hz
      refine gj_okM4 P (fun m1 m2 m3 m4 N => m1 = s ∧ m2 = l2 ∧ m3 = g_qq s l2 ∧ 0 ≤ m4 ∧ m4 ≤ 25 ∧ N 79 35 = s ∧ N 79 36 = R 98 6 ∧ N 79 37 = -1 ∧ g_LA s R N (l2 + 1) ∧ (∀ k, 0 ≤ k → k < l2 → g_LB s R N k 25) ∧ g_LB s R N l2 m4 ∧ gj_Fr [115, 116, 117, 118] [(79, 35), (79, 36), (79, 37)] R N) (fun _ _ _ m4 _ => (25 - m4).toNat) ?_ gj_fu s l2 (g_qq s l2) 0 _ ⟨rfl, rfl, rfl, by omega, by omega, ?_, ?_, ?_, fun k a b => ?_, fun k a b i x y => ?_, fun i x y => by omega, ((f.up (by rw [show [115, 116, 117, 118].contains (115 : Int) = true from rfl]; rfl)).up (by rw [show [115, 116, 117, 118].contains (116 : Int) = true from rfl]; rfl))⟩ (by show _ < 2048; omega)
      · rintro rec4 m1 m2 m3 m4 N ⟨f1, f2, f3, m40, m45, n35, n36, n37, nA, nB, nC, g⟩ hr4
        rw [f1, f2, f3]
        have nr : ∀ z, z = 86 ∨ z = 89 ∨ z = 92 ∨ z = 98 ∨ z = 101 ∨ z = 112 ∨ z = 113 ∨ z = 114 → N z = R z := fun z e => g_fr_row [86, 89, 92, 98, 101, 112, 113, 114] g (by decide) z (by rcases e with e | e | e | e | e | e | e | e <;> rw [e] <;> rfl) (by omega)
        unfold B_X12_lays_86 J_X12_lays_156
        refine k_ite (fun d => ?_) (fun d => ?_)
        · have e25 : m4 = 25 := by omega
          rw [e25] at nC
          rw [gj_wle (by omega) (by omega)]
          refine hr _ _ _ ⟨rfl, by omega, by omega, n35, n36, n37, nA, fun k a b => ?_, g⟩ (by omega)
          by_cases e : k = l2
          · rw [e]; exact nC
          · exact nB k a (by omega)
        · have kk : g_K (m4 / 5) (m4 % 5) := ⟨by omega, by omega⟩
          have hv := h.vw (4 * s + l2) (by omega) (by omega)
          have gs := g_sh_le hv kk
          have sh := p_X12_shows (p := s) (q := g_qq s l2) (a := m4 / 5) (b := m4 % 5) (w := 1) (M := N) s8 q8 (by rw [nr 86 (by decide), nr 89 (by decide), nr 92 (by decide), qm]; exact hv) kk
          rw [if_neg (by decide), nr 86 (by decide), nr 89 (by decide), nr 92 (by decide), qm] at sh
          rw [show gj_w (gj_w (25 * l2) + m4) = 25 * l2 + m4 by unfold gj_w; omega, g_tdiv m40, g_tmod m40, gj_wle (x := m4 / 5) (by omega) (by omega), gj_wle (x := m4 + 1) (by omega) (by omega), sh, gj_bnd_s]
          generalize hG : g_sh (R 86 (4 * s + l2)) (R 89 (4 * s + l2)) (R 92 (4 * s + l2)) (m4 / 5) (m4 % 5) = G at *
          refine k_chk (by omega) ?_
          rw [gj_let_s]
          refine k_chk (by omega) ?_
          have lk := p_likesG (M := gj_up N 117 (25 * l2 + m4) G) (s := s) (q := g_qq s l2) (g := G) s8 q8 u rfl gs (by rw [gj_up_z (by decide), nr 98 (by decide)]; exact W) (by rw [gj_up_z (by decide), nr 98 (by decide)]; exact Pq) (by rw [gj_up_z (by decide), nr 98 (by decide)]; exact Eb) (by rw [gj_up_z (by decide), nr 114 (by decide)]; exact hc0)
          rw [gj_up_z (by decide), gj_up_z (by decide), gj_up_z (by decide), gj_up_z (by decide), nr 98 (by decide), nr 114 (by decide)] at lk
          rw [gj_up_eq, lk, gj_bnd_s]
          refine k_chk (by omega) ?_
          rw [gj_let_s]
          refine hr4 _ _ _ _ _ ⟨rfl, rfl, rfl, by omega, by omega, ?_, ?_, ?_, fun k a b => ?_, fun k a b i x y => ?_, fun i x y => ?_, ((g.up (by rw [show [115, 116, 117, 118].contains (117 : Int) = true from rfl]; rfl)).up (by rw [show [115, 116, 117, 118].contains (118 : Int) = true from rfl]; rfl))⟩ (by omega)
          · rw [gj_up_z (by decide), gj_up_z (by decide)]; exact n35
          · rw [gj_up_z (by decide), gj_up_z (by decide)]; exact n36
          · rw [gj_up_z (by decide), gj_up_z (by decide)]; exact n37
          · rw [gj_up_z (by decide), gj_up_z (by decide), gj_up_z (by decide), gj_up_z (by decide)]; exact nA k a b
          · rw [gj_up_z (by decide), gj_up_i (by omega), gj_up_i (by omega), gj_up_z (by decide)]; exact nB k a b i x y
          · by_cases e : i = m4
            · rw [e, gj_up_z (by decide), gj_up_eq, gj_up_eq, hG]
              exact ⟨rfl, rfl⟩
            · rw [gj_up_z (by decide), gj_up_i (by omega), gj_up_i (by omega), gj_up_z (by decide)]; exact nC i x (by omega)
      · rw [gj_up_z (by decide), gj_up_z (by decide)]; exact m35
      · rw [gj_up_z (by decide), gj_up_z (by decide)]; exact m36
      · rw [gj_up_z (by decide), gj_up_z (by decide)]; exact m37
      · by_cases e : k = l2
        · simp [gj_up, e]
        · have := hA k a (by omega)
          simpa [gj_up, e] using this
      · rw [gj_up_z (by decide), gj_up_z (by decide), gj_up_z (by decide), gj_up_z (by decide)]; exact hB k a b i x y
  · rw [gj_up_i (by decide), gj_up_i (by decide), gj_up_eq]
  · rw [gj_up_i (by decide), gj_up_eq]
  · rw [gj_up_eq]
/-- what enter leaves -/
def g_EN (s : Int) (C D : gj_M) (K : Int) : Prop := ∀ k, 0 ≤ k → k < K → D 32 k = C 26 (f_cpl s (g_qq s k)) ∧ D 33 k = C 27 (f_cpl s (g_qq s k)) ∧ D 34 k = gj_w (gj_w (1000 * C 14 7) * C 28 (f_cpl s (g_qq s k)))
theorem p_enter {C : gj_M} {s : Int} (s8 : 0 ≤ s ∧ s < 8) : ∃ D, F_X4_enter s C = some D ∧ (D 31 5 = s ∧ D 31 6 = C 14 (g_ot s) ∧ D 31 7 = f_plc (C 22 s) ∧ D 31 8 = C 23 s ∧ D 31 9 = C 14 8 ∧ D 31 10 = -1) ∧ g_EN s C D 4 := by
  refine k_cps (fun P done => ?_)
  unfold F_X4_enter
  rw [gj_let_s, gj_up_z (z := 31) (a := 14) (by decide), gj_up_z (z := 31) (a := 14) (by decide)]
  have core : ∀ v : Int, v = C 14 (g_ot s) → P (J_X4_enter_28 s v (gj_up C 31 5 s)) := by
    intro v hv
    unfold J_X4_enter_28
    rw [gj_let_s]
    refine gj_okM2 P (fun l1 l2 K => l1 = s ∧ 0 ≤ l2 ∧ l2 ≤ 4 ∧ K 31 5 = s ∧ K 31 6 = C 14 (g_ot s) ∧ g_EN s C K l2 ∧ (∀ z, z < 31 → K z = C z)) (fun _ l2 _ => (4 - l2).toNat) ?_ gj_fu s 0 _ ⟨rfl, by omega, by omega, ?_, ?_, fun k a b => by omega, fun z hz => funext fun _ => ?_⟩ (by show _ < 2048; omega)
    · rintro rec l1 l2 K ⟨e1, a, b, k5, k6, hE, hz⟩ hr
      rw [e1]
      unfold B_X4_enter_33 J_X4_enter_123
      refine k_ite (fun c => ?_) (fun c => ?_)
      · have e4 : l2 = 4 := by omega
        rw [e4] at hE
        rw [gj_let_s, gj_let_s, gj_let_s, gj_let_s, f_at_in s8, hz 22 (by decide), f_at_in s8, gj_up_z (z := 31) (a := 23) (by decide), hz 23 (by decide), gj_up_z (z := 31) (a := 14) (by decide), gj_up_z (z := 31) (a := 14) (by decide), hz 14 (by decide)]
        refine done _ ⟨⟨?_, ?_, ?_, ?_, ?_, ?_⟩, fun k x y => ?_⟩
        · rw [gj_up_i (by decide), gj_up_i (by decide), gj_up_i (by decide), gj_up_i (by decide)]; exact k5
        · rw [gj_up_i (by decide), gj_up_i (by decide), gj_up_i (by decide), gj_up_i (by decide)]; exact k6
        · rw [gj_up_i (by decide), gj_up_i (by decide), gj_up_i (by decide), gj_up_eq]
        · rw [gj_up_i (by decide), gj_up_i (by decide), gj_up_eq]
        · rw [gj_up_i (by decide), gj_up_eq]
        · rw [gj_up_eq]
        · have q := hE k x y
          simpa [gj_up] using q
      · have k4 : 0 ≤ l2 ∧ l2 < 4 := by omega
        obtain ⟨q8, u, ef, -⟩ := g_qq_ok (k := l2) s8 k4
        obtain ⟨-, t2⟩ := p_twoOf (M := C) s8 q8 u
        rw [gj_let_s, gj_let_s, gj_let_s, gj_wle (x := l2 + 1) (by omega) (by omega), ef, f_put_in k4, f_put_in k4, f_put_in k4]
        rw [f_at_in t2, f_at_in t2, f_at_in t2]
        refine hr _ _ _ ⟨rfl, by omega, by omega, ?_, ?_, fun k x y => ?_, fun z h31 => ?_⟩ (by omega)
        · rw [gj_up_z (by decide), gj_up_z (by decide), gj_up_z (by decide)]; exact k5
        · rw [gj_up_z (by decide), gj_up_z (by decide), gj_up_z (by decide)]; exact k6
        · by_cases e : k = l2
          · rw [e, gj_up_z (by decide), gj_up_z (by decide), gj_up_eq, gj_up_z (by decide), gj_up_eq, gj_up_eq, gj_up_z (by decide), gj_up_z (by decide), gj_up_z (by decide), gj_up_z (by decide), gj_up_z (by decide), hz 26 (by decide), hz 27 (by decide), hz 28 (by decide), hz 14 (by decide)]
            exact ⟨rfl, rfl, rfl⟩
          · rw [gj_up_z (by decide), gj_up_z (by decide), gj_up_i e, gj_up_z (by decide), gj_up_i e, gj_up_z (by decide), gj_up_i e, gj_up_z (by decide), gj_up_z (by decide)]
            exact hE k x (by omega)
        · rw [← hz z h31]
          exact funext fun _ => by rw [gj_up_z (by omega), gj_up_z (by omega), gj_up_z (by omega)]
    · rw [gj_up_i (by decide), gj_up_eq]
    · rw [gj_up_eq, hv]
    · rw [gj_up_z (by omega), gj_up_z (by omega)]
  unfold g_ot at core
  by_cases c : s < 4
  · rw [if_neg (by omega)]
    exact core _ (by rw [if_pos c])
  · rw [if_pos (by omega)]
    exact core _ (by rw [if_neg c])
