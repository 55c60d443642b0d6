/-! PURE: fault and village, side by side -/
theorem p_fault {C R : gj_M} {c : Int} (hc : 136 ≤ c) (tx : C 1 1 = R 79 2) (ct : g_CT C) (tt : g_TT (C 2) (R 81) (C 1 1)) : ∃ x D U, F_X11_fault C = some (x, D) ∧ F_X12_fault c R = some (x, (c + 1, U))
    ∧ gj_Fr [4, 5, 6, 7, 8, 11, 12, 13] [(3, 0), (3, 1), (3, 2), (3, 3), (3, 4), (3, 5), (3, 6), (3, 7), (3, 8), (3, 9), (10, 5), (10, 6), (10, 7), (10, 8), (10, 9)] C D
    ∧ gj_Fr [84, 87, 90, 93, 96, 99, 102, 103, 104, 105, 106] [(79, 3), (79, 4), (79, 5), (79, 6)] R U := by
  obtain ⟨x, D, U, e1, e2, e3⟩ := p_read hc tx ct tt
  refine ⟨x, D, U, ?_, ?_, fr_X6_read _ e1, fr_X12_reads hc _ e2⟩
  · unfold F_X11_fault
    rw [e1]
    rfl
  · unfold F_X12_fault
    rw [e2, gj_bnd2_s, e3.1]
/-- a new village: what stands behind it on both sides -/
def g_NV (V W : gj_M) : Prop :=
  g_PL V W
  ∧ (V 1 1 = 0 ∧ W 79 2 = 0 ∧ W 79 18 = 1)
  ∧ (V 21 0 = 0 ∧ V 21 1 = 0 ∧ V 21 2 = 0 ∧ W 79 27 = 0 ∧ W 79 28 = 0 ∧ W 79 30 = 0)
  ∧ (V 29 1 = 0 ∧ V 29 2 = 0 ∧ W 79 29 = 0)
  ∧ (∀ j, 0 ≤ j → j < 8 → (V 22 j = (-1) ∧ V 23 j = 0 ∧ V 24 j = 0 ∧ V 25 j = 0) ∧ (W 108 j = (-1) ∧ W 109 j = 0 ∧ W 110 j = 0 ∧ W 111 j = 0))
  ∧ (∀ j, 0 ≤ j → j < 16 → (V 26 j = 0 ∧ V 27 j = 0 ∧ V 28 j = 0) ∧ (W 112 j = 0 ∧ W 113 j = 0 ∧ W 114 j = 0))
  ∧ (∀ j, 0 ≤ j → j < 3 → V 77 j = 0 ∧ W 135 j = 0)
theorem p_village {C R : gj_M} {c : Int} (hc : 136 ≤ c) (tx : C 1 1 = R 79 2) (ct : g_CT C) (tt : g_TT (C 2) (R 81) (C 1 1)) :
    (∃ D U, F_X11_village C = some (-1, gj_up D 78 2 (gj_w (D 78 2 + 1))) ∧ F_X12_village c R = some (-1, (c + 1, gj_up U 80 2 (gj_w (U 80 2 + 1))))
      ∧ gj_Fr [4, 5, 6, 7, 8, 11, 12, 13] [(3, 0), (3, 1), (3, 2), (3, 3), (3, 4), (3, 5), (3, 6), (3, 7), (3, 8), (3, 9), (10, 5), (10, 6), (10, 7), (10, 8), (10, 9)] C D
      ∧ gj_Fr [84, 87, 90, 93, 96, 99, 102, 103, 104, 105, 106] [(79, 3), (79, 4), (79, 5), (79, 6)] R U)
    ∨ (∃ v V W, F_X11_village C = some (v, V) ∧ F_X12_village c R = some (v, (c + 1, W)) ∧ g_NV V W) := by
  obtain ⟨x, D, U, e1, e2, e3, e4⟩ := p_read hc tx ct tt
  by_cases hx : x = -1
  · right
    have e4 : g_DD D U ∧ 0 < D 3 0 ∧ 0 < D 3 1 := by
      rcases e4 with q | q
      · exact q.2
      · omega
    obtain ⟨hd, c0, c1⟩ := e4
    rw [hx] at e1 e3
    obtain ⟨N, n1, n2, n3⟩ := p_plan hd c0 c1
    obtain ⟨A, a1, a2, a3⟩ := p_village_C e1 n1
    obtain ⟨W, w1, w2, w3, w4, w5⟩ := p_village_R e2 e3
    have hV : ∀ z, z ≠ 1 ∧ z ≠ 77 → z < 21 → g_V1 A z = N z := fun z h k => by rw [g_V1_z h, g_begin_z (by omega), a1 z (by omega)]
    have hP : g_PL (g_V1 A) W := g_PL_s n2 (fun z h k => hV z (by omega) (by omega)) (fun z h => by
      rw [w5 z (by omega) (by omega)]
      unfold g_W1
      funext i
      rw [gj_up_z (by omega), gj_up_z (by omega), gj_up_z (by omega), gj_up_z (by omega), gj_up_z (by omega), gj_up_z (by omega)])
    have h11 : A 1 1 = C 1 1 := by
      rw [a1 1 (by decide), n3 1 (by decide)]
      exact fr_X6_read _ e1 1 1 (by decide) (by decide +kernel)
    have w79 : W 79 = g_W1 U 79 := w5 79 (by decide) (by decide)
    obtain ⟨b1, b2, b3, b4, b5⟩ := g_begin_v (M := A)
    refine ⟨_, g_V1 A, W, a3, ?_, hP, ⟨g_V1_1 (by rw [h11]; exact ct.1), ?_, ?_⟩, ⟨?_, ?_, ?_, ?_, ?_, ?_⟩, ⟨?_, ?_, ?_⟩, fun j a b => ⟨?_, w2 j a b⟩, fun j a b => ⟨?_, w3 j a b⟩, fun j a b => ⟨g_V1_77 a b, w4 j a b⟩⟩
    · rw [w1, hP.n0, hP.n1]
    · rw [w79]; unfold g_W1; simp [gj_up]
    · rw [w79]; unfold g_W1; simp [gj_up]
    · rw [g_V1_z (by decide)]; exact b1
    · rw [g_V1_z (by decide)]; exact b2
    · rw [g_V1_z (by decide)]; exact b3
    · rw [w79]; unfold g_W1; simp [gj_up]
    · rw [w79]; unfold g_W1; simp [gj_up]
    · rw [w79]; unfold g_W1; simp [gj_up]
    · rw [g_V1_z (by decide)]; exact b4
    · rw [g_V1_z (by decide)]; exact b5
    · rw [w79]; unfold g_W1; simp [gj_up]
    · rw [g_V1_z (by decide), g_V1_z (by decide), g_V1_z (by decide), g_V1_z (by decide)]
      exact (g_begin_8 a).1 b
    · rw [g_V1_z (by decide), g_V1_z (by decide), g_V1_z (by decide)]
      exact (g_begin_8 a).2 b
  · left
    refine ⟨D, U, ?_, ?_, fr_X6_read _ e1, fr_X12_reads hc _ e2⟩
    · unfold F_X11_village f_X11_refuse
      rw [e1, gj_bnd2_s, if_neg hx, gj_let_s]
      unfold gj_let2
      rw [f_put_in (by decide), f_at_in (by decide)]
    · unfold F_X12_village F_X12_refuse
      rw [e2, gj_bnd2_s, if_neg (by rw [e3]; exact hx), gj_chkp (by decide), gj_chkp (by decide), gj_let_s]
      rfl
