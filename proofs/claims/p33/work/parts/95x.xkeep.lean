/-! PURE: the full relation is kept by way, seed, join, part and village, and the answers agree -/
theorem g_NO_cell {C R D U : gj_M} (h : g_NO C R) (hz : ∀ z i, z ≠ 21 → D z i = C z i) (hz' : ∀ z i, z ≠ 79 → U z i = R z i) (n4 : g_N4 D U) (h29 : U 79 29 = R 79 29) : g_NO D U := by
  have c : ∀ z, z ≠ 21 → D z = C z := fun z n => funext fun i => hz z i n
  have r : ∀ z, z ≠ 79 → U z = R z := fun z n => funext fun i => hz' z i n
  refine g_NO_mk h (fun z a b => c z (by omega)) (fun z e => r z (by omega)) ?_ ?_ ?_ n4 ?_
  · unfold g_N1
    rw [c 22 (by decide), c 23 (by decide), c 24 (by decide), c 25 (by decide), r 108 (by decide), r 109 (by decide), r 110 (by decide), r 111 (by decide)]
    exact h.n1
  · unfold g_N2
    rw [c 26 (by decide), c 27 (by decide), c 28 (by decide), r 112 (by decide), r 113 (by decide), r 114 (by decide)]
    exact h.n2
  · unfold g_N3 g_pe
    rw [r 101 (by decide), r 108 (by decide), r 109 (by decide), r 110 (by decide)]
    exact h.n3
  · rw [c 29 (by decide), c 30 (by decide), h29, r 122 (by decide)]
    exact h.lg
theorem g_FL_c {M U : gj_M} (h : g_FL M M) (hz : ∀ z i, z ≠ 21 → z ≠ 79 → U z i = M z i) (h18 : U 79 18 = M 79 18) (n : g_NO M M → g_NO U U) : g_FL U U := by
  refine ⟨fun i a b => ?_, fun v => ⟨n (h.2 (by rw [← h18]; exact v)).1, fun k a b hk => ?_⟩⟩
  · rw [hz 78 i (by decide) (by decide), hz 80 i (by decide) (by decide)]
    exact h.1 i a b
  · rw [hz 135 k (by decide) (by decide)] at hk
    exact g_FI_s ⟨a, b⟩ ((h.2 (by rw [← h18]; exact v)).2 k a b hk) (fun z i q => hz z i (by omega) (by omega)) (fun z i q => hz z i (by omega) (by omega))
theorem g_lzN {M : gj_M} {i j v : Int} (h : g_NO (gj_up M 21 i v) (gj_up M 79 j v)) : g_NO (gj_up (gj_up M 21 i v) 79 j v) (gj_up (gj_up M 21 i v) 79 j v) := by
  have e1 : ∀ z i', z ≠ 79 → gj_up (gj_up M 21 i v) 79 j v z i' = gj_up M 21 i v z i' := fun z i' n => gj_up_z n
  have e2 : ∀ z i', z ≠ 21 → gj_up (gj_up M 21 i v) 79 j v z i' = gj_up M 79 j v z i' := fun z i' n => by
    unfold gj_up
    rw [show (if z = 21 ∧ i' = i then v else M z i') = M z i' from if_neg (fun q => n q.1)]
  exact g_NO_pt h (fun z a b => funext fun x => e1 z x (by omega)) (fun z e => funext fun x => e2 z x (by omega)) (fun z x a b _ _ => e1 z x (by omega)) (fun z x a b _ _ => e1 z x (by omega)) (fun x _ _ => e1 30 x (by decide)) (fun x _ _ => e1 21 x (by decide)) ⟨e1 29 1 (by decide), e1 29 2 (by decide)⟩ (fun z x a b _ _ => e2 z x (by omega)) (fun z x a b _ _ => e2 z x (by omega)) (fun x _ _ => e2 122 x (by decide)) (fun x _ _ => e2 79 x (by decide))
theorem x_way {M : gj_M} {a : Int} (h : g_FK M M) : ∃ v D U, f_X11_way a M = (v, D) ∧ F_X12_way a D = some (v, U) ∧ g_FK U U := by
  obtain ⟨v, D, U, e1, e2, hU⟩ := w_way (a := a) h.1
  refine ⟨v, D, U, e1, e2, hU, ?_⟩
  by_cases c : 0 ≤ a ∧ a ≤ 3
  · have y1 : f_X11_way a M = (1, gj_up M 21 1 a) := by
      unfold f_X11_way
      rw [if_neg (by omega), if_pos c.2]
      rfl
    obtain ⟨-, rfl⟩ := Prod.mk.inj (e1.symm.trans y1)
    have y2 : F_X12_way a (gj_up M 21 1 a) = some (1, gj_up (gj_up M 21 1 a) 79 28 a) := by
      unfold F_X12_way
      dsimp only [gj_letI]
      rw [g_in1 c.1 c.2, if_neg (by decide)]
      rfl
    obtain ⟨-, rfl⟩ := g_some2 e2 y2
    refine g_FL_c h.2 (fun z i p q => by rw [gj_up_z q, gj_up_z p]) (by rw [gj_up_i (by decide), gj_up_z (by decide)]) (fun n => g_lzN (g_NO_cell n (fun z i p => gj_up_z p) (fun z i p => gj_up_z p) ?_ (gj_up_i (by decide))))
    obtain ⟨n1, n2, n3⟩ := n.n4
    unfold g_N4
    rw [gj_up_eq, gj_up_eq, gj_up_i (show (0 : Int) ≠ 1 by decide), gj_up_i (show (2 : Int) ≠ 1 by decide), gj_up_i (show (27 : Int) ≠ 28 by decide), gj_up_i (show (30 : Int) ≠ 28 by decide)]
    exact ⟨n1, ⟨rfl, c.1, c.2⟩, n3⟩
  · have y1 : f_X11_way a M = (0, gj_up M 78 0 (gj_w (M 78 0 + 1))) := by
      unfold f_X11_way gj_let2
      rw [c_refuse (by decide)]
      by_cases d : a < 0
      · rw [if_pos d]
      · rw [if_neg d, if_neg (by omega)]
    obtain ⟨-, rfl⟩ := Prod.mk.inj (e1.symm.trans y1)
    have y2 : F_X12_way a (gj_up M 78 0 (gj_w (M 78 0 + 1))) = some (0, gj_up (gj_up M 78 0 (gj_w (M 78 0 + 1))) 80 0 (gj_w (gj_up M 78 0 (gj_w (M 78 0 + 1)) 80 0 + 1))) := by
      unfold F_X12_way
      dsimp only [gj_letI]
      rw [g_in0 c, if_pos rfl, r_deny (by decide), gj_bnd2_s]
    obtain ⟨-, rfl⟩ := g_some2 e2 y2
    exact g_FL_no h.2
theorem x_seed {M : gj_M} {a : Int} (h : g_FK M M) : ∃ v D U, f_X11_seed a M = (v, D) ∧ F_X12_seed a D = some (v, U) ∧ g_FK U U := by
  obtain ⟨v, D, U, e1, e2, hU⟩ := w_seed (a := a) h.1
  refine ⟨v, D, U, e1, e2, hU, ?_⟩
  by_cases c : 0 ≤ a ∧ a ≤ 1000000
  · have y1 : f_X11_seed a M = (1, gj_up M 21 2 a) := by
      unfold f_X11_seed
      rw [if_neg (by omega), if_pos c.2]
      rfl
    obtain ⟨-, rfl⟩ := Prod.mk.inj (e1.symm.trans y1)
    have y2 : F_X12_seed a (gj_up M 21 2 a) = some (1, gj_up (gj_up M 21 2 a) 79 30 a) := by
      unfold F_X12_seed
      dsimp only [gj_letI]
      rw [g_in1 c.1 c.2, if_neg (by decide)]
      rfl
    obtain ⟨-, rfl⟩ := g_some2 e2 y2
    exact g_FL_c h.2 (fun z i p q => by rw [gj_up_z q, gj_up_z p]) (by rw [gj_up_i (by decide), gj_up_z (by decide)]) (fun n => g_lzN (g_NO_lot n (by omega)))
  · have y1 : f_X11_seed a M = (0, gj_up M 78 2 (gj_w (M 78 2 + 1))) := by
      unfold f_X11_seed gj_let2
      rw [c_refuse (by decide)]
      by_cases d : a < 0
      · rw [if_pos d]
      · rw [if_neg d, if_neg (by omega)]
    obtain ⟨-, rfl⟩ := Prod.mk.inj (e1.symm.trans y1)
    have y2 : F_X12_seed a (gj_up M 78 2 (gj_w (M 78 2 + 1))) = some (0, gj_up (gj_up M 78 2 (gj_w (M 78 2 + 1))) 80 2 (gj_w (gj_up M 78 2 (gj_w (M 78 2 + 1)) 80 2 + 1))) := by
      unfold F_X12_seed
      dsimp only [gj_letI]
      rw [g_in0 c, if_pos rfl, r_deny (by decide), gj_bnd2_s]
    obtain ⟨-, rfl⟩ := g_some2 e2 y2
    exact g_FL_no h.2
/-- two join -/
theorem p_joinJ {C R : gj_M} {a b : Int} (h : g_VS C R) (hy : R 79 18 = 1 → g_NO C R) : (∃ i, (0 ≤ i ∧ i < 3) ∧ f_X11_join a b C = (0, gj_up C 78 i (gj_w (C 78 i + 1))) ∧ F_X12_join a b R = some (0, gj_up R 80 i (gj_w (R 80 i + 1)))) ∨ (∃ p q N, f_X11_join a b C = (1, f_X3_bind p q C) ∧ F_X12_join a b R = some (1, N) ∧ F_X12_joins p q R = some N ∧ g_NO (f_X3_bind p q C) N) := by
  obtain ⟨s, e1, e2, e3⟩ := p_who (a := a) h
  obtain ⟨t, f1, f2, f3⟩ := p_who (a := b) h
  unfold f_X11_join F_X12_join
  dsimp only [gj_letI]
  rw [e1, e2, f1, f2, gj_bnd_s, gj_bnd_s, r_deny (by decide), r_deny (by decide), gj_bnd2_s, gj_bnd2_s]
  unfold gj_let2
  rw [c_refuse (by decide), c_refuse (by decide)]
  by_cases s1 : s = -1
  · left
    refine ⟨0, by decide, ?_, ?_⟩
    · rw [show f_unl s t = 0 from if_neg (fun q => q.1 s1), if_pos rfl]
    · rw [if_pos s1]
  by_cases t1 : t = -1
  · left
    refine ⟨0, by decide, ?_, ?_⟩
    · rw [show f_unl s t = 0 from if_neg (fun q => q.2.1 t1), if_pos rfl]
    · rw [if_neg s1, if_pos t1]
  obtain ⟨s0, s8, sp, v, hp⟩ := e3.resolve_left s1
  obtain ⟨t0, t8, tp, -, -⟩ := f3.resolve_left t1
  have n := hy v
  have n0 := hp.n0
  have n1 := hp.n1
  rw [if_neg s1, if_neg t1]
  by_cases s4 : 4 ≤ s
  · left
    refine ⟨0, by decide, ?_, ?_⟩
    · by_cases u : t < 4
      · rw [show f_unl s t = 1 from if_pos ⟨s1, t1, by omega⟩, if_neg (by decide), if_neg (show ¬ s ≤ t by omega)]
      · rw [show f_unl s t = 0 from if_neg (fun q => q.2.2 (by omega)), if_pos rfl]
    · rw [if_pos s4]
  rw [if_neg s4]
  by_cases t4 : 4 ≤ t
  · rw [if_pos t4, show f_unl s t = 1 from if_pos ⟨s1, t1, by omega⟩, if_neg (show ¬ (1 : Int) = 0 by decide), if_pos (show s ≤ t by omega), f_at_in ⟨s0, s8⟩, f_at_in ⟨t0, t8⟩, (n.n1 s s0 s8).1, (n.n1 t t0 t8).1, gj_chkp ⟨s0, s8⟩, gj_chkp ⟨t0, t8⟩]
    by_cases m1 : R 108 s = -1
    · by_cases m2 : R 108 t = -1
      · right
        obtain ⟨N, j1, j2, -⟩ := g_NO_join n ⟨s0, s8⟩ ⟨t0, t8⟩ (by omega) (by unfold g_pe at sp ⊢; rw [← n0, ← n1]; exact sp) (by unfold g_pe at tp ⊢; rw [← n0, ← n1]; exact tp) m1 m2
        refine ⟨s, t, N, ?_, ?_, j1, j2⟩
        · rw [if_pos m1, if_pos m2, gj_let_s]
        · rw [if_pos m1, if_pos m2, j1, gj_bnd_s]
      · left
        refine ⟨2, by decide, ?_, ?_⟩
        · rw [if_pos m1, if_neg m2]
        · rw [if_pos m1, if_neg m2]
    · left
      refine ⟨2, by decide, ?_, ?_⟩
      · rw [if_neg m1]
      · rw [if_neg m1]
  · left
    refine ⟨0, by decide, ?_, ?_⟩
    · rw [show f_unl s t = 0 from if_neg (fun q => q.2.2 (by omega)), if_pos rfl]
    · rw [if_neg t4]
theorem x_join {M : gj_M} {a b : Int} (h : g_FK M M) : ∃ U, F_X12_join a b (f_X11_join a b M).2 = some ((f_X11_join a b M).1, U) ∧ g_FK U U := by
  obtain ⟨v', U, e2, hU⟩ := w_join (a := a) (b := b) h.1
  obtain ⟨D, hD⟩ : ∃ D, D = (f_X11_join a b M).2 := ⟨_, rfl⟩
  have f1 := fr_X11_join a b (M := M)
  rw [← hD] at f1
  rw [← hD] at e2
  rw [← hD]
  have f2 : gj_Fr _ _ D U := fr_X12_join _ _ _ e2
  have hi := g_hi79 f1 (by decide)
  have lo := g_lo79 f2 (by decide)
  have hV : g_VS M D := (g_WK_rz h.1 hi).vs
  have hM : g_FV M D := g_FV_fr h.2.2 (gj_Fr.rf (os := []) (ps := [])) f1 rfl (by decide)
  rcases p_joinJ (a := a) (b := b) hV (fun v => (hM v).1) with ⟨i, i3, k1, k2⟩ | ⟨p, q, N, k1, k2, k3, k4⟩
  · obtain ⟨b1, rfl⟩ := g_some2 e2 k2
    rw [k1] at hD
    refine ⟨_, by rw [e2, k1, b1], hU, ?_⟩
    rw [hD]
    exact g_FL_no h.2
  · obtain ⟨b1, rfl⟩ := g_some2 e2 k2
    rw [k1] at hD
    refine ⟨_, by rw [e2, k1, b1], hU, fun i i0 i1 => ?_, fun v => ⟨g_NO_lz (by rw [hD]; exact k4) lo, fun k k0 k1' hk => ?_⟩⟩
    · have f3 := fr_X3_bind p q (M := M)
      have f4 : gj_Fr _ _ D U := fr_X12_joins p q _ k3
      rw [lo 78 i (by decide), g_fr_rng f4 (a := 80) (b := 80) (by decide) 80 i (by decide) (by decide) (by decide), hi 80 i (by decide) (by decide), hD]
      exact (g_fr_rng f3 (a := 78) (b := 78) (by decide) 78 i (by decide) (by decide) (by decide)).trans (h.2.1 i i0 i1)
    · rw [g_fr_rng f2 (a := 131) (b := 135) (by decide) 135 k (by decide) (by decide) (by decide)] at hk
      have v1 : D 79 18 = 1 := by rw [← f2 79 18 (by decide) (by decide)]; exact v
      refine g_FI_s ⟨k0, k1'⟩ ((hM v1).2 k k0 k1' hk) (fun z i q => ?_) (fun z i q => ?_)
      · rw [lo z i (by omega)]
        rcases q with q | q
        · exact g_fr_rng f1 (a := 14) (b := 20) (by decide) z i q.1 q.2 (by omega)
        · exact g_fr_rng f1 (a := 47) (b := 76) (by decide) z i q.1 q.2 (by omega)
      · rcases q with q | q
        · rw [g_fr_row [83, 86, 89, 92, 95, 98, 101] f2 (by decide) z (g_7r q) (by omega)]
        · exact g_fr_rng f2 (a := 131) (b := 135) (by decide) z i q.1 (by omega) (by omega)
/-- one parts -/
theorem p_partJ {C R : gj_M} {a : Int} (h : g_VS C R) (hy : R 79 18 = 1 → g_NO C R) : (∃ i, (0 ≤ i ∧ i < 3) ∧ f_X11_part a C = (0, gj_up C 78 i (gj_w (C 78 i + 1))) ∧ F_X12_part a R = some (0, gj_up R 80 i (gj_w (R 80 i + 1)))) ∨ (∃ p q N, f_X11_part a C = (1, f_X3_loosen p q C) ∧ F_X12_part a R = some (1, N) ∧ F_X12_parts p R = some N ∧ g_NO (f_X3_loosen p q C) N) := by
  obtain ⟨s, e1, e2, e3⟩ := p_who (a := a) h
  unfold f_X11_part F_X12_part
  dsimp only [gj_letI]
  rw [e1, e2, gj_bnd_s, r_deny (by decide), r_deny (by decide), gj_bnd2_s, gj_bnd2_s]
  unfold gj_let2
  rw [c_refuse (by decide), c_refuse (by decide)]
  by_cases s1 : s = -1
  · left
    refine ⟨0, by decide, ?_, ?_⟩
    · rw [if_pos s1]
    · rw [if_pos s1, if_pos s1]
  obtain ⟨s0, s8, sp, v, hp⟩ := e3.resolve_left s1
  have n := hy v
  rw [if_neg s1, if_neg s1, if_neg s1, f_at_in ⟨s0, s8⟩, (n.n1 s s0 s8).1, gj_chkp ⟨s0, s8⟩]
  by_cases m1 : R 108 s = -1
  · left
    refine ⟨2, by decide, ?_, ?_⟩
    · rw [if_pos m1]
    · rw [if_pos m1]
  · right
    obtain ⟨g1, g2⟩ := g_NO_part n ⟨s0, s8⟩ rfl m1
    refine ⟨s, R 108 s, _, ?_, ?_, g2, g1⟩
    · rw [if_neg m1, gj_let_s]
    · rw [if_neg m1, g2, gj_bnd_s]
theorem x_part {M : gj_M} {a : Int} (h : g_FK M M) : ∃ U, F_X12_part a (f_X11_part a M).2 = some ((f_X11_part a M).1, U) ∧ g_FK U U := by
  obtain ⟨v', U, e2, hU⟩ := w_part (a := a) h.1
  obtain ⟨D, hD⟩ : ∃ D, D = (f_X11_part a M).2 := ⟨_, rfl⟩
  have f1 := fr_X11_part a (M := M)
  rw [← hD] at f1
  rw [← hD] at e2
  rw [← hD]
  have f2 : gj_Fr _ _ D U := fr_X12_part _ _ e2
  have hi := g_hi79 f1 (by decide)
  have lo := g_lo79 f2 (by decide)
  have hV : g_VS M D := (g_WK_rz h.1 hi).vs
  have hM : g_FV M D := g_FV_fr h.2.2 (gj_Fr.rf (os := []) (ps := [])) f1 rfl (by decide)
  rcases p_partJ (a := a) hV (fun v => (hM v).1) with ⟨i, i3, k1, k2⟩ | ⟨p, q, N, k1, k2, k3, k4⟩
  · obtain ⟨b1, rfl⟩ := g_some2 e2 k2
    rw [k1] at hD
    refine ⟨_, by rw [e2, k1, b1], hU, ?_⟩
    rw [hD]
    exact g_FL_no h.2
  · obtain ⟨b1, rfl⟩ := g_some2 e2 k2
    rw [k1] at hD
    refine ⟨_, by rw [e2, k1, b1], hU, fun i i0 i1 => ?_, fun v => ⟨g_NO_lz (by rw [hD]; exact k4) lo, fun k k0 k1' hk => ?_⟩⟩
    · have f3 := fr_X3_loosen p q (M := M)
      have f4 : gj_Fr _ _ D U := fr_X12_parts p _ k3
      rw [lo 78 i (by decide), g_fr_rng f4 (a := 80) (b := 80) (by decide) 80 i (by decide) (by decide) (by decide), hi 80 i (by decide) (by decide), hD]
      exact (g_fr_rng f3 (a := 78) (b := 78) (by decide) 78 i (by decide) (by decide) (by decide)).trans (h.2.1 i i0 i1)
    · rw [g_fr_rng f2 (a := 131) (b := 135) (by decide) 135 k (by decide) (by decide) (by decide)] at hk
      have v1 : D 79 18 = 1 := by rw [← f2 79 18 (by decide) (by decide)]; exact v
      refine g_FI_s ⟨k0, k1'⟩ ((hM v1).2 k k0 k1' hk) (fun z i q => ?_) (fun z i q => ?_)
      · rw [lo z i (by omega)]
        rcases q with q | q
        · exact g_fr_rng f1 (a := 14) (b := 20) (by decide) z i q.1 q.2 (by omega)
        · exact g_fr_rng f1 (a := 47) (b := 76) (by decide) z i q.1 q.2 (by omega)
      · rcases q with q | q
        · rw [g_fr_row [83, 86, 89, 92, 95, 98, 101] f2 (by decide) z (g_7r q) (by omega)]
        · exact g_fr_rng f2 (a := 131) (b := 135) (by decide) z i q.1 (by omega) (by omega)
/-- a new village: what was refused -/
theorem p_villageRF {C R V W : gj_M} {c c' v v' : Int} (hc : 136 ≤ c) (tx : C 1 1 = R 79 2) (ct : g_CT C) (tt : g_TT (C 2) (R 81) (C 1 1)) (e : F_X11_village C = some (v, V)) (e' : F_X12_village c R = some (v', (c', W))) (hr : g_RF C R) : g_RF V W := by
  obtain ⟨x, D, U, e1, e2, e3, e4⟩ := p_read hc tx ct tt
  have fD : gj_Fr _ _ C D := fr_X6_read _ e1
  have fU : gj_Fr _ _ R U := fr_X12_reads hc _ e2
  have d78 : ∀ i, D 78 i = C 78 i := fun i => g_fr_rng fD (a := 78) (b := 78) (by decide) 78 i (by decide) (by decide) (by decide)
  have u80 : ∀ i, U 80 i = R 80 i := fun i => g_fr_rng fU (a := 80) (b := 80) (by decide) 80 i (by decide) (by decide) (by decide)
  by_cases hx : x = -1
  · have e4 : g_DD D U ∧ 0 < D 3 0 ∧ 0 < D 3 1 := by
      rcases e4 with q | q
      · exact q.2
      · omega
    obtain ⟨hd, c0, c1⟩ := e4
    rw [hx] at e1 e3
    obtain ⟨N, n1, -, -⟩ := p_plan hd c0 c1
    obtain ⟨A, a1, a2, a3⟩ := p_village_C e1 n1
    obtain ⟨W', w1, -, -, -, w5⟩ := p_village_R e2 e3
    obtain ⟨-, rfl⟩ := g_some2 e a3
    obtain ⟨-, y⟩ := g_some2 e' w1
    obtain rfl : W = W' := (Prod.mk.inj y).2
    have fN : gj_Fr _ _ D N := fr_X5_take _ n1
    intro i i0 i1
    rw [g_V1_z (by decide), g_begin_z (by decide), a1 78 (by decide), g_fr_rng fN (a := 78) (b := 78) (by decide) 78 i (by decide) (by decide) (by decide), d78, w5 80 (by decide) (by decide)]
    unfold g_W1
    rw [gj_up_z (by decide), gj_up_z (by decide), gj_up_z (by decide), gj_up_z (by decide), gj_up_z (by decide), gj_up_z (by decide), g_W0_z (by decide), u80]
    exact hr i i0 i1
  · unfold F_X11_village at e
    rw [e1, gj_bnd2_s, if_neg hx] at e
    unfold gj_let2 at e
    rw [c_refuse (by decide)] at e
    obtain ⟨-, rfl⟩ := g_some2 rfl e
    unfold F_X12_village at e'
    rw [e2, gj_bnd2_s, if_neg (by rw [e3]; exact hx), r_refuse (by decide), gj_bnd2_s] at e'
    obtain ⟨-, y⟩ := g_some2 rfl e'
    rw [← (Prod.mk.inj y).2]
    intro i i0 i1
    show gj_up D 78 2 (gj_w (D 78 2 + 1)) 78 i = gj_up U 80 2 (gj_w (U 80 2 + 1)) 80 i
    rw [gj_up_if, gj_up_if, d78, d78, u80, u80, hr i i0 i1]
    by_cases c2 : i = 2
    · rw [if_pos c2, if_pos c2, ← c2, hr i i0 i1]
    · rw [if_neg c2, if_neg c2]
theorem x_village {M : gj_M} {c : Int} (hc : 136 ≤ c) (h : g_FK M M) : ∃ v D U, F_X11_village M = some (v, D) ∧ F_X12_village c D = some (v, (c + 1, U)) ∧ g_FK U U := by
  obtain ⟨v, D, U, e1, e2, hU⟩ := w_village hc h.1
  have fC : gj_Fr _ _ M D := fr_X11_village _ e1
  have hi := g_hi79 fC (by decide)
  have h1 : g_WK M D := g_WK_rz h.1 hi
  have rf : g_RF D U := p_villageRF hc h1.1.1 h1.1.2.1 h1.1.2.2 e1 e2 (fun i a b => by rw [hi 80 i (by decide) (by decide)]; exact h.2.1 i a b)
  have lo := r_villageLo hc h1.1.1 h1.1.2.1 h1.1.2.2 e2
  refine ⟨v, D, U, e1, e2, hU, fun i a b => by rw [lo 78 i (by decide)]; exact rf i a b, ?_⟩
  rcases p_village hc h1.1.1 h1.1.2.1 h1.1.2.2 with ⟨A, B, k1, k2, f2, f3⟩ | ⟨v2, V, W, k1, k2, nv⟩
  · obtain ⟨-, eD⟩ := g_some2 e1 k1
    obtain ⟨-, y⟩ := g_some2 e2 k2
    have eU := (Prod.mk.inj y).2
    have fD : gj_Fr [4, 5, 6, 7, 8, 11, 12, 13, 78] [(3, 0), (3, 1), (3, 2), (3, 3), (3, 4), (3, 5), (3, 6), (3, 7), (3, 8), (3, 9), (10, 5), (10, 6), (10, 7), (10, 8), (10, 9)] M D := by
      rw [eD]
      exact (f2.wide (by decide +kernel)).up (by decide +kernel)
    have fU : gj_Fr [80, 84, 87, 90, 93, 96, 99, 102, 103, 104, 105, 106] [(79, 3), (79, 4), (79, 5), (79, 6)] D U := by
      rw [eU]
      exact (f3.wide (by decide +kernel)).up (by decide +kernel)
    exact g_FV_fr (g_FV_fr h.2.2 fD fD (by decide) (by decide)) fU fU (by decide) (by decide)
  · obtain ⟨-, rfl⟩ := g_some2 e1 k1
    obtain ⟨-, y⟩ := g_some2 e2 k2
    obtain rfl : U = W := (Prod.mk.inj y).2
    obtain ⟨n1, ⟨n2, n3, n4⟩, ⟨n5, n6, n7, n8, n9, n10⟩, ⟨n11, n12, n13⟩, n14, n15, n16⟩ := nv
    have n : g_NO D U := by
      refine ⟨n1, fun j a b => ?_, fun j a b => ?_, fun j a b => Or.inl (n14 j a b).2.1, ⟨⟨by rw [n5, n8], by rw [n8]; rfl⟩, ⟨by rw [n6, n9], by rw [n9]; decide⟩, ⟨by rw [n7, n10], by rw [n10]; decide⟩⟩, ?_⟩
      · obtain ⟨⟨a1, a2, a3, a4⟩, b1, b2, b3, b4⟩ := n14 j a b
        rw [a1, a2, a3, a4, b1, b4]
        exact ⟨rfl, rfl, rfl, rfl, rfl⟩
      · obtain ⟨⟨a1, a2, a3⟩, b1, b2, b3⟩ := n15 j a b
        rw [a1, a2, a3, b1, b2, b3]
        exact ⟨rfl, rfl, rfl, ⟨by decide, by decide⟩, by decide, by decide⟩
      · rw [n11, n12, n13]
        exact ⟨rfl, by decide, by decide, fun i k i0 i1 _ _ => by omega⟩
    exact fun _ => ⟨g_NO_lz n lo, fun k a b hk => absurd (n16 k a b).2 hk⟩
