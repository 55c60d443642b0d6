/-! PURE: best, act, silent, bar and waits told alike -/
def g_DY (C R : gj_M) : Prop := g_YS C R ∧ g_YC R
theorem p_can {n : Int} {C R : gj_M} : f_X11_canReckon n C = f_X12_areMays n R := by
  unfold f_X11_canReckon f_X12_areMays f_X12_in
  rfl
/-- who is asked, on both sides -/
theorem p_whoJ {C R : gj_M} {a : Int} (h : g_VS C R) (hy : R 79 18 = 1 → g_DY C R) : ∃ s, f_X5_slotOf a C = s ∧ F_X12_who a R = some s ∧ (s = -1 ∨ ((0 ≤ s ∧ s < 8) ∧ g_PL C R ∧ g_DY C R ∧ g_pe R 101 s)) := by
  obtain ⟨s, e1, e2, e3⟩ := p_who (a := a) h
  refine ⟨s, e1, e2, e3.imp id (fun ⟨a, b, c, d, p⟩ => ⟨⟨a, b⟩, p, hy d, ?_⟩)⟩
  unfold g_pe at *
  rw [← p.n0, ← p.n1]
  exact c
theorem p_toldOf {s b : Int} {M : gj_M} (s8 : 0 ≤ s ∧ s < 8) (hb : -1 ≤ b ∧ b < 4) : f_X12_toldOf s b M = f_num (f_fac s b) := by
  unfold f_X12_toldOf f_X12_told
  by_cases c : b = -1
  · rw [if_pos c]
    unfold f_num f_fac
    rw [if_pos c, if_pos (by decide)]
  · obtain ⟨q8, u, ef, -⟩ := g_qq_ok (k := b) s8 (by omega)
    rw [if_neg c, ef, g_ot_e s8]
    dsimp only [gj_letI]
    rw [show gj_w (gj_w (4 * g_ot s) + b) = g_qq s b by have := g_ot_01 (s := s); unfold gj_w g_qq; omega]
    unfold f_num
    by_cases d : g_qq s b < 4
    · rw [if_pos d, if_neg (by omega)]
    · rw [if_neg d, if_pos (by omega), gj_wle (by omega) (by omega), gj_wle (x := g_qq s b - 4) (by omega) (by omega), gj_wle (by omega) (by omega)]
      omega
theorem p_bestJ {C R : gj_M} {a n w : Int} (h : g_VS C R) (hy : R 79 18 = 1 → g_DY C R) : ∃ v D U, F_X11_best a n w C = some (v, D) ∧ F_X12_best a n w R = some (v, U) := by
  obtain ⟨s, e1, e2, e3⟩ := p_whoJ (a := a) h hy
  unfold F_X11_best F_X12_best
  dsimp only [gj_letI]
  rw [e1, e2, gj_bnd_s, p_can (C := C) (R := R)]
  by_cases c : s = -1
  · rw [if_pos c, if_pos c]
    exact ⟨_, _, _, rfl, rfl⟩
  · obtain ⟨s8, hp, ⟨y, yc⟩, pe⟩ : (0 ≤ s ∧ s < 8) ∧ g_PL C R ∧ g_DY C R ∧ g_pe R 101 s := by
      rcases e3 with x | x
      · exact absurd x c
      · exact x
    rw [if_neg c, if_neg c]
    by_cases d : f_X12_areMays n R = 0
    · rw [if_pos d, if_pos d]
      exact ⟨_, _, _, rfl, rfl⟩
    · rw [if_neg d, if_neg d]
      have hn := g_mays d
      obtain ⟨D, U, v, b, dd, f1, f2, f3, f4, f5, f6, f7, f8, -, -⟩ := p_bestOf hp y yc s8 pe hn
      rw [f1, gj_bnd_s]
      by_cases w0 : w = 0
      · rw [if_pos w0, f3, gj_bnd2_s, g_in1 (by omega) (by omega), if_neg (by decide), f4, gj_bnd2_s, if_pos w0, gj_wle (by omega) (by omega)]
        exact ⟨_, _, _, rfl, rfl⟩
      · by_cases w1 : w = 1
        · rw [if_neg w0, if_pos w1, f2, gj_bnd2_s, g_in1 (by omega) (by omega), if_neg (by decide), f4, gj_bnd2_s, if_neg w0, gj_up_eq, p_toldOf s8 f8]
          exact ⟨_, _, _, rfl, rfl⟩
        · rw [if_neg w0, if_neg w1, g_in0 (by omega), if_pos rfl]
          exact ⟨_, _, _, rfl, rfl⟩
theorem p_plc {q : Int} (h : q = -1 ∨ (0 ≤ q ∧ q < 8)) : f_plc q = if q = -1 then -1 else q % 4 := by
  unfold f_plc
  rcases h with e | e
  · rw [e, if_pos (by decide), if_pos rfl]
  · rw [if_neg (show ¬ q = -1 by omega)]
    by_cases c : q < 4
    · rw [if_pos c]; omega
    · rw [if_neg c, gj_wle (by omega) (by omega)]; omega
theorem g_av_q {s q : Int} {R U : gj_M} (s8 : 0 ≤ s ∧ s < 8) (q8 : 0 ≤ q ∧ q < 8) (u : ¬ (s < 4 ↔ q < 4)) (pe : g_pe R 101 q) (h : U 101 = R 101) : 0 ≤ q % 4 ∧ q % 4 < U 101 (g_ot s) := by
  rw [h]
  unfold g_pe at pe
  unfold g_ot
  by_cases t : s < 4
  · rw [if_pos t]; omega
  · rw [if_neg t]; omega
theorem p_unl {s q : Int} {C R : gj_M} (hs : s = -1 ∨ (0 ≤ s ∧ s < 8)) (hq : q = -1 ∨ (0 ≤ q ∧ q < 8)) : f_X12_areTwo s q R = f_unl s q := p_areTwo hs hq
theorem p_actJ {C R : gj_M} {a n b : Int} (h : g_VS C R) (hy : R 79 18 = 1 → g_DY C R) : ∃ v D U, F_X11_act a n b C = some (v, D) ∧ F_X12_act a n b R = some (v, U) := by
  obtain ⟨s, e1, e2, e3⟩ := p_whoJ (a := a) h hy
  obtain ⟨q, f1, f2, f3⟩ := p_whoJ (a := b) h hy
  have hs : s = -1 ∨ (0 ≤ s ∧ s < 8) := e3.imp id (fun x => x.1)
  have hq : q = -1 ∨ (0 ≤ q ∧ q < 8) := f3.imp id (fun x => x.1)
  unfold F_X11_act F_X12_act
  dsimp only [gj_letI]
  rw [e1, e2, f1, f2, gj_bnd_s, gj_bnd_s, p_can (C := C) (R := R), p_areTwo hs hq]
  by_cases c : s = -1
  · rw [if_pos c, if_pos c]
    exact ⟨_, _, _, rfl, rfl⟩
  · obtain ⟨s8, hp, ⟨y, yc⟩, pe⟩ : (0 ≤ s ∧ s < 8) ∧ g_PL C R ∧ g_DY C R ∧ g_pe R 101 s := by
      rcases e3 with x | x
      · exact absurd x c
      · exact x
    rw [if_neg c, if_neg c]
    by_cases d : f_X12_areMays n R = 0
    · rw [if_pos d, if_pos d]
      exact ⟨_, _, _, rfl, rfl⟩
    · rw [if_neg d, if_neg d]
      have hn := g_mays d
      obtain ⟨D, U, eD, eU, hM, av, w1, w2, w3, u108, u109, -⟩ := p_mind hp y yc s8 pe
      have mt := (y.mt s s8.1 s8.2).2
      have mo := p_mateOf s8 u108 w1 w2 (by omega)
      have u101 : U 101 = R 101 := g_fr_row [101] (fr_X12_lays s U eU) (by decide) 101 rfl (by decide)
      -- one act
      have one : ∀ act, act = f_plc q → g_av s act U → ∃ v D2 U2, gj_bnd2 (F_X4_worthOfAct (f_plc q) n D) (fun x6 M7 => some (gj_w x6, M7)) = some (v, D2) ∧ gj_bnd2 (F_X12_by (F_X12_worthN 5) (D 31 7) (if R 108 s = -1 then 0 else R 109 s) n act U) (fun x M => some (x, M)) = some (v, U2) := by
        intro act ha hav
        obtain ⟨v, x, d1, d2, d3⟩ := p_doing (w := D 31 7) (y := D 31 8) s8 (by omega) (p_HR5 (n := n) s8 (by omega)) hM hav
        rw [w3] at d2
        unfold F_X4_worthOfAct
        rw [← ha, d1, gj_bnd2_s, gj_bnd2_s, d2, gj_bnd2_s, gj_wle (by omega) (by omega)]
        exact ⟨_, _, _, rfl, rfl⟩
      by_cases b1 : b = -1
      · have q1 : q = -1 := by
          rw [← f1, b1]
          unfold f_X5_slotOf
          rcases h with ⟨h18, c0, c1⟩ | ⟨h18, hp⟩
          · rw [c0, c1]; rfl
          · rw [if_pos (by decide), if_pos (by decide)]
        obtain ⟨v, D2, U2, o1, o2⟩ := one (-1) (by rw [p_plc hq, if_pos q1]) (Or.inl rfl)
        rw [if_pos b1, if_pos b1, eD, gj_bnd_s, o1, eU, gj_bnd_s, mo, gj_bnd_s, gj_chkp s8, u108]
        unfold J_X12_act_81
        by_cases m : R 108 s = -1
        · rw [if_pos m] at o2 ⊢
          rw [if_pos b1, o2]
          exact ⟨_, _, _, rfl, rfl⟩
        · rw [if_neg m] at o2 ⊢
          rw [gj_chkp s8, u109, if_pos b1, o2]
          exact ⟨_, _, _, rfl, rfl⟩
      · rw [if_neg b1, if_neg b1]
        by_cases two : f_unl s q = 0
        · rw [if_pos two, if_pos two]
          exact ⟨_, _, _, rfl, rfl⟩
        · have u := g_unl_in two
          have q8 : 0 ≤ q ∧ q < 8 := by omega
          have pq : g_pe R 101 q := by
            rcases f3 with x | x
            · omega
            · exact x.2.2.2
          have ak := g_av_q s8 q8 u.2.2 pq u101
          obtain ⟨v, D2, U2, o1, o2⟩ := one (q % 4) (by rw [p_plc hq, if_neg (by omega)]) (Or.inr ak)
          rw [if_neg two, if_neg two, eD, gj_bnd_s, o1, eU, gj_bnd_s, mo, gj_bnd_s, gj_chkp s8, u108]
          unfold J_X12_act_81
          rw [if_neg b1, if_neg b1, g_tmod q8.1]
          by_cases m : R 108 s = -1
          · rw [if_pos m] at o2 ⊢
            rw [o2]
            exact ⟨_, _, _, rfl, rfl⟩
          · rw [if_neg m] at o2 ⊢
            rw [gj_chkp s8, u109, o2]
            exact ⟨_, _, _, rfl, rfl⟩
theorem p_silentJ {C R : gj_M} {a n : Int} (h : g_VS C R) (hy : R 79 18 = 1 → g_DY C R) : ∃ v D U, F_X11_silent a n C = some (v, D) ∧ F_X12_silent a n R = some (v, U) := by
  obtain ⟨s, e1, e2, e3⟩ := p_whoJ (a := a) h hy
  unfold F_X11_silent F_X12_silent
  dsimp only [gj_letI]
  rw [e1, e2, gj_bnd_s, p_can (C := C) (R := R)]
  by_cases c : s = -1
  · rw [if_pos c, if_pos c]
    exact ⟨_, _, _, rfl, rfl⟩
  · obtain ⟨s8, hp, ⟨y, yc⟩, pe⟩ : (0 ≤ s ∧ s < 8) ∧ g_PL C R ∧ g_DY C R ∧ g_pe R 101 s := by
      rcases e3 with x | x
      · exact absurd x c
      · exact x
    rw [if_neg c, if_neg c]
    by_cases d : f_X12_areMays n R = 0
    · rw [if_pos d, if_pos d]
      exact ⟨_, _, _, rfl, rfl⟩
    · rw [if_neg d, if_neg d]
      obtain ⟨D, t, U, f1, f2, f3, f4, -⟩ := p_silentOf hp y yc s8 pe (g_mays d)
      rw [f1, gj_bnd_s, f2, gj_bnd2_s, f3, gj_bnd2_s]
      rcases f4 with e | e <;> rw [e]
      · exact ⟨_, _, _, rfl, rfl⟩
      · exact ⟨_, _, _, rfl, rfl⟩
theorem g_MR_31 {s i v : Int} {C R : gj_M} (h : g_MR s C R) (hi : i = 7 ∨ i = 8) : g_MR s (gj_up C 31 i v) R := by
  obtain ⟨h1, h2, h3, h4, h5, h6, h7⟩ := h
  refine ⟨g_PL_s h1 (fun z a b => funext fun _ => gj_up_z (by omega)) (fun _ _ => rfl), ?_, ?_, ?_, ?_, ?_, ?_⟩
  · rw [gj_up_i (by omega), gj_up_i (by omega)]; exact h2
  · rw [gj_up_i (by omega)]; exact h3
  · rw [gj_up_i (by omega)]; exact h4
  · rw [gj_up_z (by decide)]; exact h5
  · intro k a b
    rw [gj_up_z (by decide), gj_up_z (by decide), gj_up_z (by decide)]; exact h6 k a b
  · intro k a b x1 x2 x3
    rw [gj_up_z (by decide)]; exact h7 k a b x1 x2 x3
theorem p_barLoop {s k m n : Int} (s8 : 0 ≤ s ∧ s < 8) (hn : 1 ≤ n ∧ n ≤ 4) (hm : 1 ≤ m ∧ m ≤ 6) : ∀ (r fc fr : Nat) (t : Int) (D U : gj_M), r < fc → r < fr → m + 1 - t ≤ r → 0 ≤ t → t ≤ 7 → g_MR s D U → (0 ≤ k ∧ k < U 101 (g_ot s)) → D 31 7 = k → D 31 8 = m →
    ∃ v D2 U2, gj_it (fun _ _ _ _ _ => none) B_X4_leastGood_13 fc k m n t D = some (v, D2) ∧ gj_it (fun _ _ _ _ _ => none) B_X12_bar_61 fr m n k t U = some (v, U2)
  | r, 0, fr, t, D, U, h1, _, _, _, _, _, _, _, _ => absurd h1 (Nat.not_lt_zero _)
  | r, fc + 1, 0, t, D, U, _, h2, _, _, _, _, _, _, _ => absurd h2 (Nat.not_lt_zero _)
  | r, fc + 1, fr + 1, t, D, U, h1, h2, h3, t0, t7, hM, hk, d7, d8 => by
    have c4 := hM.cnt
    rw [gj_it_s, gj_it_s]
    have ih : ∀ (D2 U2 : gj_M), t ≤ m → g_MR s D2 U2 → (0 ≤ k ∧ k < U2 101 (g_ot s)) → D2 31 7 = k → D2 31 8 = m → ∃ v D3 U3, gj_it (fun _ _ _ _ _ => none) B_X4_leastGood_13 fc k m n (t + 1) D2 = some (v, D3) ∧ gj_it (fun _ _ _ _ _ => none) B_X12_bar_61 fr m n k (t + 1) U2 = some (v, U3) := fun D2 U2 tm a b c d => p_barLoop s8 hn hm (r - 1) fc fr (t + 1) D2 U2 (by omega) (by omega) (by omega) (by omega) (by omega) a b c d
    generalize gj_it (fun _ _ _ _ _ => none) B_X4_leastGood_13 fc = rc at *
    generalize gj_it (fun _ _ _ _ _ => none) B_X12_bar_61 fr = rr at *
    unfold B_X4_leastGood_13 B_X12_bar_61
    by_cases c : m < t
    · rw [if_pos c, if_pos c]
      exact ⟨_, _, _, rfl, rfl⟩
    · rw [if_neg c, if_neg c, gj_let_s, gj_let_s, gj_chkp (by omega), gj_let_s, gj_chkp (by omega), gj_let_s]
      have m4 : ∀ x : Int, 0 ≤ x → 0 ≤ f_min 4 x ∧ f_min 4 x ≤ 4 := fun x hx => by
        unfold f_min
        split <;> omega
      have g1 := (g_MR_k (v := f_min 4 t) hM hk (m4 t t0)).1
      have g2 := (g_MR_k (v := f_min 4 (gj_w (m - t))) g1 (by rw [gj_up_z (by decide)]; exact hk) (m4 _ (by rw [gj_wle (by omega) (by omega)]; omega))).2
      have u101 : gj_up (gj_up U 115 k (f_min 4 t)) 116 k (f_min 4 (gj_w (m - t))) 101 (g_ot s) = U 101 (g_ot s) := by rw [gj_up_z (by decide), gj_up_z (by decide)]
      have x7 : f_put (f_put D 32 4 k (f_min 4 t)) 33 4 k (f_min 4 (gj_w (m - t))) 31 7 = k := by rw [f_put_z (by decide), f_put_z (by decide)]; exact d7
      have x8 : f_put (f_put D 32 4 k (f_min 4 t)) 33 4 k (f_min 4 (gj_w (m - t))) 31 8 = m := by rw [f_put_z (by decide), f_put_z (by decide)]; exact d8
      generalize f_put (f_put D 32 4 k (f_min 4 t)) 33 4 k (f_min 4 (gj_w (m - t))) = D2 at *
      generalize gj_up (gj_up U 115 k (f_min 4 t)) 116 k (f_min 4 (gj_w (m - t))) = U2 at *
      obtain ⟨v, b, d, q1, q2, q3, q4, q5, q6, q7⟩ := p_best6 s8 hn g2 (by rw [x7]; exact Or.inr (by rw [u101]; exact hk))
      rw [x7, x8] at q3
      rw [q3, gj_bnd2_s, gj_up_eq, gj_wle (x := t + 1) (by omega) (by omega)]
      unfold F_X4_stays
      rw [x7, if_neg (show ¬ k = -1 by omega), q1, gj_bnd2_s, x7]
      by_cases cb : b = k
      · rw [if_pos cb, if_pos cb, gj_bnd2_s, if_neg (show ¬ (1 : Int) = 0 by decide)]
        exact ⟨_, _, _, rfl, rfl⟩
      · rw [if_neg cb, if_neg cb, gj_bnd2_s, if_pos rfl]
        exact ih D2 (gj_up U2 79 38 b) (by omega) (g_MR_38 g2) (by rw [gj_up_z (by decide), u101]; exact hk) x7 x8
theorem p_barJ {C R : gj_M} {a b m n : Int} (h : g_VS C R) (hy : R 79 18 = 1 → g_DY C R) : ∃ v D U, F_X11_bar a b m n C = some (v, D) ∧ F_X12_bar a b m n R = some (v, U) := by
  obtain ⟨s, e1, e2, e3⟩ := p_whoJ (a := a) h hy
  obtain ⟨q, f1, f2, f3⟩ := p_whoJ (a := b) h hy
  have hs : s = -1 ∨ (0 ≤ s ∧ s < 8) := e3.imp id (fun x => x.1)
  have hq : q = -1 ∨ (0 ≤ q ∧ q < 8) := f3.imp id (fun x => x.1)
  unfold F_X11_bar F_X12_bar
  dsimp only [gj_letI]
  rw [e1, e2, f1, f2, gj_bnd_s, gj_bnd_s, p_can (C := C) (R := R), p_areTwo hs hq]
  by_cases two : f_unl s q = 0
  · rw [if_pos two, if_pos two]
    exact ⟨_, _, _, rfl, rfl⟩
  · have u := g_unl_in two
    rw [if_neg two, if_neg two]
    by_cases hm : 1 ≤ m ∧ m ≤ 6
    · rw [if_neg (show ¬ m < 1 by omega), if_neg (show ¬ 6 < m by omega), g_in1 hm.1 hm.2, if_neg (show ¬ (1 : Int) = 0 by decide)]
      by_cases d : f_X12_areMays n R = 0
      · rw [if_pos d, if_pos d]
        exact ⟨_, _, _, rfl, rfl⟩
      · rw [if_neg d, if_neg d]
        obtain ⟨s8, hp, ⟨y, yc⟩, pe⟩ : (0 ≤ s ∧ s < 8) ∧ g_PL C R ∧ g_DY C R ∧ g_pe R 101 s := by
          rcases e3 with x | x
          · exact absurd x u.1
          · exact x
        obtain ⟨q8, -, -, pq⟩ : (0 ≤ q ∧ q < 8) ∧ g_PL C R ∧ g_DY C R ∧ g_pe R 101 q := by
          rcases f3 with x | x
          · exact absurd x u.2.1
          · exact x
        obtain ⟨D, U, eD, eU, hM, -⟩ := p_mind hp y yc s8 pe
        have u101 : U 101 = R 101 := g_fr_row [101] (fr_X12_lays s U eU) (by decide) 101 rfl (by decide)
        unfold F_X4_leastGood
        rw [eD, gj_bnd_s, eU, gj_bnd_s, gj_let_s, gj_let_s, g_tmod q8.1, p_plc hq, if_neg u.2.1]
        obtain ⟨v, D2, U2, g1, g2⟩ := p_barLoop (k := q % 4) (m := m) (n := n) s8 (g_mays d) hm 7 gj_fu gj_fu 0 (gj_up (gj_up D 31 7 (q % 4)) 31 8 m) U (by decide) (by decide) (by omega) (by omega) (by omega) (g_MR_31 (g_MR_31 hM (Or.inl rfl)) (Or.inr rfl)) (g_av_q s8 q8 u.2.2 pq u101) (by rw [gj_up_i (by decide), gj_up_eq]) (by rw [gj_up_eq])
        rw [g1, gj_bnd2_s, g2]
        exact ⟨_, _, _, rfl, rfl⟩
    · rw [g_in0 hm, if_pos rfl]
      by_cases m1 : m < 1
      · rw [if_pos m1]
        exact ⟨_, _, _, rfl, rfl⟩
      · rw [if_neg m1, if_pos (show 6 < m by omega)]
        exact ⟨_, _, _, rfl, rfl⟩
theorem p_likesB {R : gj_M} {s q x : Int} (h : g_RS R) (hc : ∀ j, 0 ≤ j → j < 16 → 0 ≤ R 114 j ∧ R 114 j ≤ 99) (s8 : 0 ≤ s ∧ s < 8) (q8 : 0 ≤ q ∧ q < 8) (u : ¬ (s < 4 ↔ q < 4)) (e : F_X12_likesNow s q R = some x) : 0 ≤ x ∧ x ≤ 9900000 := by
  obtain ⟨t1, t2⟩ := p_twoOf (M := R) s8 q8 u
  have h0 := h.hd 0 (by decide) (by decide)
  have h1 := h.hd 1 (by decide) (by decide)
  have h5 := h.hd 5 (by decide) (by decide)
  have kn := h.nw _ t2.1 t2.2
  have hv := h.vw (4 * s + q % 4) (by omega) (by omega)
  have gs := g_sh_le hv kn
  unfold F_X12_likesNow at e
  dsimp only [gj_letI] at e
  rw [t1, gj_chkp t2, gj_chkp t2, p_X12_shows s8 q8 hv kn, gj_bnd_s, if_neg (by decide), p_likesG s8 q8 u rfl gs ⟨h0.1, h0.2.1⟩ ⟨h1.1, h1.2.1⟩ ⟨h5.1, h5.2.1⟩ (hc _ t2.1 t2.2), gj_bnd_s] at e
  have br := p_brings (ch := 0) gs ⟨h0.1, h0.2.1⟩ ⟨h1.1, h1.2.1⟩
  have m := g_mul (a := 1000 * R 98 5) (A := 99000) (by have := h5.1; have := h5.2.1; omega) (hc _ t2.1 t2.2)
  have e := Option.some.inj e
  omega
theorem g_MR_sh {s v : Int} {C R : gj_M} (h : g_MR s C R) : g_MR s (gj_up C 31 10 v) (gj_up R 79 37 v) := by
  obtain ⟨h1, h2, h3, h4, h5, h6, h7⟩ := h
  refine ⟨g_PL_s h1 (fun z a b => funext fun _ => gj_up_z (by omega)) (fun z e => funext fun _ => gj_up_z (by omega)), ?_, ?_, ?_, ?_, fun k a b => ?_, fun k a b x1 x2 x3 => ?_⟩
  · rw [gj_up_i (by decide), gj_up_i (by decide), gj_up_i (by decide), gj_up_z (by decide)]; exact h2
  · rw [gj_up_i (by decide), gj_up_i (by decide)]; exact h3
  · rw [gj_up_eq, gj_up_eq]
  · rw [gj_up_z (by decide), gj_up_z (by decide)]; exact h5
  · rw [gj_up_z (by decide)] at b
    rw [gj_up_z (by decide), gj_up_z (by decide), gj_up_z (by decide), gj_up_z (by decide), gj_up_z (by decide)]; exact h6 k a b
  · rw [gj_up_z (by decide)] at x2
    rw [gj_up_z (by decide), gj_up_z (by decide), gj_up_z (by decide), gj_up_z (by decide), gj_up_z (by decide), gj_up_z (by decide), gj_up_z (by decide), gj_up_z (by decide)]; exact h7 k a b x1 x2 x3
theorem p_waitsJ {C R : gj_M} {a b n : Int} (h : g_VS C R) (hy : R 79 18 = 1 → g_DY C R) : ∃ v D U, F_X11_waits a b n C = some (v, D) ∧ F_X12_waits a b n R = some (v, U) := by
  obtain ⟨s, e1, e2, e3⟩ := p_whoJ (a := a) h hy
  obtain ⟨q, f1, f2, f3⟩ := p_whoJ (a := b) h hy
  have hs : s = -1 ∨ (0 ≤ s ∧ s < 8) := e3.imp id (fun x => x.1)
  have hq : q = -1 ∨ (0 ≤ q ∧ q < 8) := f3.imp id (fun x => x.1)
  unfold F_X11_waits F_X12_waits f_X11_canReckon
  dsimp only [gj_letI]
  rw [e1, e2, f1, f2, gj_bnd_s, gj_bnd_s, p_areTwo hs hq]
  by_cases two : f_unl s q = 0
  · rw [if_pos two, if_pos two]
    exact ⟨_, _, _, rfl, rfl⟩
  · have u := g_unl_in two
    rw [if_neg two, if_neg two]
    by_cases hn : 2 ≤ n ∧ n ≤ 4
    · obtain ⟨s8, hp, ⟨y, yc⟩, pe⟩ : (0 ≤ s ∧ s < 8) ∧ g_PL C R ∧ g_DY C R ∧ g_pe R 101 s := by
        rcases e3 with x | x
        · exact absurd x u.1
        · exact x
      obtain ⟨q8, -, -, pq⟩ : (0 ≤ q ∧ q < 8) ∧ g_PL C R ∧ g_DY C R ∧ g_pe R 101 q := by
        rcases f3 with x | x
        · exact absurd x u.2.1
        · exact x
      have mt := y.mt s s8.1 s8.2
      rw [if_neg (show ¬ n < 2 by omega), if_neg (show ¬ n < 1 by omega), if_neg (show ¬ 4 < n by omega), if_neg (show ¬ (1 : Int) = 0 by decide), g_in1 hn.1 hn.2, if_neg (show ¬ (1 : Int) = 0 by decide), gj_chkp s8]
      unfold f_X3_arePair
      rw [if_neg u.1, if_neg u.2.1, f_at_in s8, mt.1]
      by_cases pr : R 108 s = q
      · rw [if_pos pr, if_neg (show ¬ (1 : Int) = 0 by decide), if_pos pr]
        exact ⟨_, _, _, rfl, rfl⟩
      · rw [if_neg pr, if_pos rfl, if_neg pr]
        obtain ⟨D, U, eD, eU, hM, av, w1, w2, w3, u108, u109, d9⟩ := p_mind hp y yc s8 pe
        have fU : gj_Fr _ _ R U := fr_X12_lays s U eU
        have u101 : U 101 = R 101 := g_fr_row [101] fU (by decide) 101 rfl (by decide)
        have hr : ∀ z, z = 83 ∨ z = 86 ∨ z = 89 ∨ z = 92 ∨ z = 95 ∨ z = 98 ∨ z = 101 ∨ (108 ≤ z ∧ z ≤ 114) → U z = R z := fun z e => g_fr_row [83, 86, 89, 92, 95, 98, 101, 108, 109, 110, 111, 112, 113, 114] fU (by decide) z (by
          rcases e with e | e | e | e | e | e | e | e
          · rw [e]; rfl
          · rw [e]; rfl
          · rw [e]; rfl
          · rw [e]; rfl
          · rw [e]; rfl
          · rw [e]; rfl
          · rw [e]; rfl
          · have : z = 108 ∨ z = 109 ∨ z = 110 ∨ z = 111 ∨ z = 112 ∨ z = 113 ∨ z = 114 := by omega
            rcases this with e | e | e | e | e | e | e <;> rw [e] <;> rfl) (by omega)
        have hM2 := g_MR_sh (v := q % 4) hM
        have a7 : gj_up D 31 10 (q % 4) 31 7 = D 31 7 := gj_up_i (by decide)
        have a8 : gj_up D 31 10 (q % 4) 31 8 = D 31 8 := gj_up_i (by decide)
        obtain ⟨v, bb, dd, q1, q2, q3, q4, q5, q6, q7⟩ := p_best6 (n := n) s8 (by omega) hM2 (by rw [a7]; unfold g_av at *; rw [gj_up_z (by decide)]; exact av)
        rw [a7, a8] at q2 q3
        have lk := p_likesNow hp y s8 q8 u.2.2
        have lb := p_likesB ⟨C, hp, y⟩ yc.1 s8 q8 u.2.2 lk
        generalize hL : f_X2_likingOf s q 1 C = L at *
        have peC : g_pe C 14 s := by
          have n0 := hp.n0
          have n1 := hp.n1
          unfold g_pe at *
          rw [n0, n1]
          exact pe
        have al := hp.al s s8.1 s8.2 peC
        have hd6 := hp.hd 6 (by decide) (by decide)
        have e148 : C 14 8 = R 98 6 := hd6.1
        have b6 : 0 ≤ R 98 6 ∧ R 98 6 ≤ 999 := ⟨hd6.2.1, hd6.2.2.1⟩
        have m3 := g_mul (a := n - 1) (A := 3) (by omega) lb
        -- the reference's memory behind
        have mem : ∀ z i, z ≠ 79 → gj_up (gj_up U 79 37 (q % 4)) 79 38 bb z i = U z i := fun z i hz => by rw [gj_up_z hz, gj_up_z hz]
        have lk2 : F_X12_likesNow s q (gj_up (gj_up U 79 37 (q % 4)) 79 38 bb) = some L := by
          rw [← lk]
          have rr : ∀ z, z = 83 ∨ z = 86 ∨ z = 89 ∨ z = 92 ∨ z = 95 ∨ z = 98 ∨ z = 101 ∨ (108 ≤ z ∧ z ≤ 114) → gj_up (gj_up U 79 37 (q % 4)) 79 38 bb z = R z := fun z e => by
            rw [← hr z e]
            exact funext fun i => mem z i (by omega)
          rw [p_likesNow (g_PL_s hp (fun _ _ _ => rfl) (fun z e => rr z (by omega))) (g_YS_s y (fun _ _ _ => rfl) (fun z a b => rr z (by omega))) s8 q8 u.2.2, p_likesNow hp y s8 q8 u.2.2]
        have r36 : gj_up (gj_up U 79 37 (q % 4)) 79 38 bb 79 36 = R 98 6 := by
          rw [gj_up_i (by decide), gj_up_i (by decide)]
          have := hM.2.2.1.1
          rw [← this, d9, e148]
        have mo := p_mateOf (U := gj_up U 79 37 (q % 4)) s8 (by rw [← u108]; exact funext fun _ => gj_up_z (by decide)) w1 w2 (by omega)
        have cls : ∀ p : Int, 0 ≤ p ∧ p ≤ 999 → J_X11_waits_86 n s q p C = some (1000 * (R 83 s - p) + (n - 1) * L - v, gj_up D 31 10 (q % 4)) := by
          intro p hp0
          unfold J_X11_waits_86 f_X4_shutOut F_X4_bestWorth
          dsimp only [gj_letI]
          rw [hL, eD, gj_bnd_s, gj_let_s, gj_let_s, p_plc hq, if_neg u.2.1, a7, a8, q2, gj_bnd2_s, gj_bnd2_s, f_at_in s8, al.1, gj_wle (x := R 83 s - p) (by omega) (by omega), gj_wlle (x := 1000 * (R 83 s - p)) (by omega) (by omega), gj_wlle (x := n - 1) (by omega) (by omega), gj_wlle (x := (n - 1) * L) (by omega) (by omega), gj_wlle (x := _ + (n - 1) * L) (by omega) (by omega), gj_wlle (x := _ - v) (by omega) (by omega), gj_wle (by omega) (by omega)]
        have rf : ∀ on : Int, on = (if R 108 s = -1 then 0 else R 109 s) → J_X12_waits_97 n s q (D 31 7) on (gj_up U 79 37 (q % 4)) = some (1000 * (R 83 s - (if R 108 s = -1 then 0 else R 98 6)) + (n - 1) * L - v, gj_up (gj_up U 79 37 (q % 4)) 79 38 bb) := by
          intro on hon
          unfold J_X12_waits_97
          rw [w3, ← hon] at q3
          rw [q3, gj_bnd2_s, gj_chkp s8, lk2, gj_bnd_s, gj_chkp s8, mem 108 s (by decide), mem 83 s (by decide), u108, hr 83 (by decide), r36]
          dsimp only [gj_letI]
          rw [gj_wle (x := 1000 * R 83 s) (by omega) (by omega), gj_wle (x := n - 1) (by omega) (by omega), gj_wle (x := (n - 1) * L) (by omega) (by omega), gj_wle (x := 1000 * R 83 s + (n - 1) * L) (by omega) (by omega), gj_wle (x := 1000 * R 98 6) (by omega) (by omega)]
          by_cases m : R 108 s = -1
          · rw [if_pos m, if_pos m, gj_wle (x := _ - 0) (by omega) (by omega), gj_wle (by omega) (by omega)]
            congr 2
            omega
          · rw [if_neg m, if_neg m, gj_wle (x := _ - 1000 * R 98 6) (by omega) (by omega), gj_wle (by omega) (by omega)]
            congr 2
            omega
        rw [eU, gj_bnd_s, gj_let_s, g_tmod q8.1, mo, gj_bnd_s, gj_chkp s8, gj_up_z (z := 79) (a := 108) (by decide), u108]
        by_cases m : R 108 s = -1
        · have c1 := cls 0 (by decide)
          have c2 := rf 0 (by rw [if_pos m])
          rw [if_pos m] at c2
          rw [if_pos m, if_pos m, c1, c2]
          exact ⟨_, _, _, rfl, rfl⟩
        · have c1 := cls (C 14 8) (by omega)
          have c2 := rf (R 109 s) (by rw [if_neg m])
          rw [if_neg m, ← e148] at c2
          rw [if_neg m, if_neg m, c1, gj_chkp s8, gj_up_z (z := 79) (a := 109) (by decide), u109, c2]
          exact ⟨_, _, _, rfl, rfl⟩
    · rw [g_in0 hn, if_pos rfl]
      by_cases n2 : n < 2
      · rw [if_pos n2]
        exact ⟨_, _, _, rfl, rfl⟩
      · rw [if_neg n2, if_neg (show ¬ n < 1 by omega), if_pos (show 4 < n by omega), if_pos rfl]
        exact ⟨_, _, _, rfl, rfl⟩
