/-! PURE: without a village nobody is paired and nothing is logged; kept with the full relation -/
def g_FZ (M : gj_M) : Prop := M 79 18 = 0 → (∀ j, 0 ≤ j → j < 8 → M 22 j = -1) ∧ M 29 2 = 0 ∧ M 79 29 = 0
def g_ZK (C R : gj_M) : Prop := g_FK C R ∧ g_FZ C
theorem g_FZ_fr {M D : gj_M} {os : List Int} {ps : List (Int × Int)} (h : g_FZ M) (f : gj_Fr os ps M D) (a : g_aw os ps [22] [(29, 2), (79, 18), (79, 29)] = true) : g_FZ D := by
  intro v
  rw [f 79 18 (by decide) (g_aw_c a rfl)] at v
  obtain ⟨a1, a2, a3⟩ := h v
  refine ⟨fun j j0 j1 => ?_, ?_, ?_⟩
  · rw [g_fr_row [22] f (g_aw1 a) 22 rfl (by decide)]
    exact a1 j j0 j1
  · rw [f 29 2 (by decide) (g_aw_c a rfl)]
    exact a2
  · rw [f 79 29 (by decide) (g_aw_c a rfl)]
    exact a3
theorem g_FZ_no {M : gj_M} {i : Int} (h : g_FZ M) : g_FZ (gj_up (gj_up M 78 i (gj_w (M 78 i + 1))) 80 i (gj_w (gj_up M 78 i (gj_w (M 78 i + 1)) 80 i + 1))) := by
  have f : gj_Fr [78, 80] [] M (gj_up (gj_up M 78 i (gj_w (M 78 i + 1))) 80 i (gj_w (gj_up M 78 i (gj_w (M 78 i + 1)) 80 i + 1))) := (gj_Fr.rf.up rfl).up rfl
  exact g_FZ_fr h f (by decide)
theorem g_FZ_v {M : gj_M} (h : M 79 18 = 1) : g_FZ M := fun v => by rw [h] at v; exact absurd v (by decide)
theorem y_best {M : gj_M} {a b d : Int} (h : g_ZK M M) : ∃ v D U, F_X11_best a b d M = some (v, D) ∧ F_X12_best a b d D = some (v, U) ∧ g_ZK U U := by
  obtain ⟨v, D, U, e1, e2, hU⟩ := x_best (a := a) (b := b) (d := d) h.1
  have f1 : gj_Fr _ _ M D := fr_X11_best _ _ _ _ e1
  have f2 : gj_Fr _ _ D U := fr_X12_best _ _ _ _ e2
  exact ⟨v, D, U, e1, e2, hU, g_FZ_fr (g_FZ_fr h.2 f1 (by decide)) f2 (by decide)⟩
theorem y_act {M : gj_M} {a b d : Int} (h : g_ZK M M) : ∃ v D U, F_X11_act a b d M = some (v, D) ∧ F_X12_act a b d D = some (v, U) ∧ g_ZK U U := by
  obtain ⟨v, D, U, e1, e2, hU⟩ := x_act (a := a) (b := b) (d := d) h.1
  have f1 : gj_Fr _ _ M D := fr_X11_act _ _ _ _ e1
  have f2 : gj_Fr _ _ D U := fr_X12_act _ _ _ _ e2
  exact ⟨v, D, U, e1, e2, hU, g_FZ_fr (g_FZ_fr h.2 f1 (by decide)) f2 (by decide)⟩
theorem y_silent {M : gj_M} {a b : Int} (h : g_ZK M M) : ∃ v D U, F_X11_silent a b M = some (v, D) ∧ F_X12_silent a b D = some (v, U) ∧ g_ZK U U := by
  obtain ⟨v, D, U, e1, e2, hU⟩ := x_silent (a := a) (b := b) h.1
  have f1 : gj_Fr _ _ M D := fr_X11_silent _ _ _ e1
  have f2 : gj_Fr _ _ D U := fr_X12_silent _ _ _ e2
  exact ⟨v, D, U, e1, e2, hU, g_FZ_fr (g_FZ_fr h.2 f1 (by decide)) f2 (by decide)⟩
theorem y_bar {M : gj_M} {a b d f : Int} (h : g_ZK M M) : ∃ v D U, F_X11_bar a b d f M = some (v, D) ∧ F_X12_bar a b d f D = some (v, U) ∧ g_ZK U U := by
  obtain ⟨v, D, U, e1, e2, hU⟩ := x_bar (a := a) (b := b) (d := d) (f := f) h.1
  have f1 : gj_Fr _ _ M D := fr_X11_bar _ _ _ _ _ e1
  have f2 : gj_Fr _ _ D U := fr_X12_bar _ _ _ _ _ e2
  exact ⟨v, D, U, e1, e2, hU, g_FZ_fr (g_FZ_fr h.2 f1 (by decide)) f2 (by decide)⟩
theorem y_price {M : gj_M} {a b : Int} (h : g_ZK M M) : ∃ v D U, F_X11_price a b M = some (v, D) ∧ F_X12_price a b D = some (v, U) ∧ g_ZK U U := by
  obtain ⟨v, D, U, e1, e2, hU⟩ := x_price (a := a) (b := b) h.1
  have f1 : gj_Fr _ _ M D := fr_X11_price _ _ _ e1
  have f2 : gj_Fr _ _ D U := fr_X12_price _ _ _ e2
  exact ⟨v, D, U, e1, e2, hU, g_FZ_fr (g_FZ_fr h.2 f1 (by decide)) f2 (by decide)⟩
theorem y_waits {M : gj_M} {a b d : Int} (h : g_ZK M M) : ∃ v D U, F_X11_waits a b d M = some (v, D) ∧ F_X12_waits a b d D = some (v, U) ∧ g_ZK U U := by
  obtain ⟨v, D, U, e1, e2, hU⟩ := x_waits (a := a) (b := b) (d := d) h.1
  have f1 : gj_Fr _ _ M D := fr_X11_waits _ _ _ _ e1
  have f2 : gj_Fr _ _ D U := fr_X12_waits _ _ _ _ e2
  exact ⟨v, D, U, e1, e2, hU, g_FZ_fr (g_FZ_fr h.2 f1 (by decide)) f2 (by decide)⟩
theorem y_green {M : gj_M} {a b : Int} (h : g_ZK M M) : ∃ v D U, F_X11_green a b M = some (v, D) ∧ F_X12_green a b D = some (v, U) ∧ g_ZK U U := by
  obtain ⟨v, D, U, e1, e2, hU⟩ := x_green (a := a) (b := b) h.1
  have f1 : gj_Fr _ _ M D := fr_X11_green _ _ _ e1
  have f2 : gj_Fr _ _ D U := fr_X12_green _ _ _ e2
  exact ⟨v, D, U, e1, e2, hU, g_FZ_fr (g_FZ_fr h.2 f1 (by decide)) f2 (by decide)⟩
theorem y_image {M : gj_M} {k : Int} (h : g_ZK M M) : ∃ v D U, F_X11_image k M = some (v, D) ∧ F_X12_image k D = some (v, U) ∧ g_ZK U U := by
  obtain ⟨v, D, U, e1, e2, hU⟩ := x_image (k := k) h.1
  have f1 : gj_Fr _ _ M D := fr_X11_image _ _ e1
  have f2 : gj_Fr _ _ D U := fr_X12_image _ _ e2
  exact ⟨v, D, U, e1, e2, hU, g_FZ_fr (g_FZ_fr h.2 f1 (by decide)) f2 (by decide)⟩
theorem y_feed {M : gj_M} {a b c d e : Int} (h : g_ZK M M) : ∃ v D U, F_X11_feed a b c d e M = some (v, D) ∧ F_X12_feed a b c d e D = some (v, U) ∧ g_ZK U U := by
  obtain ⟨v, D, U, e1, e2, hU⟩ := x_feed (a := a) (b := b) (c := c) (d := d) (e := e) h.1
  have f1 : gj_Fr _ _ M D := fr_X11_feed _ _ _ _ _ _ e1
  have f2 : gj_Fr _ _ D U := fr_X12_feed _ _ _ _ _ _ e2
  exact ⟨v, D, U, e1, e2, hU, g_FZ_fr (g_FZ_fr h.2 f1 (by decide)) f2 (by decide)⟩
theorem y_life {M : gj_M} {a b : Int} (h : g_ZK M M) : ∃ v D v' U, F_X11_life a b M = some (v, D) ∧ F_X12_life a b D = some (v', U) ∧ g_ZK U U := by
  obtain ⟨v, D, v', U, e1, e2, hU⟩ := x_life (a := a) (b := b) h.1
  have f1 : gj_Fr _ _ M D := fr_X11_life _ _ _ e1
  have f2 : gj_Fr _ _ D U := fr_X12_life _ _ _ e2
  exact ⟨v, D, v', U, e1, e2, hU, g_FZ_fr (g_FZ_fr h.2 f1 (by decide)) f2 (by decide)⟩
theorem y_sooner {M : gj_M} {a b d : Int} (h : g_ZK M M) : ∃ v D, F_X11_sooner a b d M = some (v, D) ∧ F_X12_sooner a b d D = some v ∧ g_ZK D D := by
  obtain ⟨v, D, e1, e2, hU⟩ := x_sooner (a := a) (b := b) (d := d) h.1
  have f1 : gj_Fr _ _ M D := fr_X11_sooner _ _ _ _ e1
  exact ⟨v, D, e1, e2, hU, g_FZ_fr h.2 f1 (by decide)⟩
theorem y_blocks {M : gj_M} {a : Int} (h : g_ZK M M) : ∃ v D, F_X11_blocks a M = some (v, D) ∧ F_X12_blocks a D = some v ∧ g_ZK D D := by
  obtain ⟨v, D, e1, e2, hU⟩ := x_blocks (a := a) h.1
  have f1 : gj_Fr _ _ M D := fr_X11_blocks _ _ e1
  exact ⟨v, D, e1, e2, hU, g_FZ_fr h.2 f1 (by decide)⟩
theorem y_parents {M : gj_M} {a : Int} (h : g_ZK M M) : ∃ v v' U, F_X11_parents a M = some v ∧ F_X12_parents a M = some (v', U) ∧ g_ZK U U := by
  obtain ⟨v, v', U, e1, e2, hU⟩ := x_parents (a := a) h.1
  have f : gj_Fr _ _ M U := fr_X12_parents _ _ e2
  exact ⟨v, v', U, e1, e2, hU, g_FZ_fr h.2 f (by decide)⟩
theorem y_never {M : gj_M} {a : Int} (h : g_ZK M M) : ∃ v v' U, F_X11_never a M = some v ∧ F_X12_never a M = some (v', U) ∧ g_ZK U U := by
  obtain ⟨v, v', U, e1, e2, hU⟩ := x_never (a := a) h.1
  have f : gj_Fr _ _ M U := fr_X12_never _ _ e2
  exact ⟨v, v', U, e1, e2, hU, g_FZ_fr h.2 f (by decide)⟩
theorem y_end {M : gj_M} {a : Int} (h : g_ZK M M) : ∃ U, F_X12_end a (f_X11_end a M).2 = some ((f_X11_end a M).1, U) ∧ g_ZK U U := by
  obtain ⟨U, e2, hU⟩ := x_end (a := a) h.1
  have f1 : gj_Fr _ _ M (f_X11_end a M).2 := fr_X11_end a (M := M)
  have f2 : gj_Fr _ _ (f_X11_end a M).2 U := fr_X12_end a _ e2
  exact ⟨U, e2, hU, g_FZ_fr (g_FZ_fr h.2 f1 (by decide)) f2 (by decide)⟩
theorem y_way {M : gj_M} {a : Int} (h : g_ZK M M) : ∃ v D U, f_X11_way a M = (v, D) ∧ F_X12_way a D = some (v, U) ∧ g_ZK U U := by
  obtain ⟨v, D, U, e1, e2, hU⟩ := x_way (a := a) h.1
  have f1 : gj_Fr _ _ M (f_X11_way a M).2 := fr_X11_way a (M := M)
  have f2 : gj_Fr _ _ D U := fr_X12_way a _ e2
  rw [e1] at f1
  exact ⟨v, D, U, e1, e2, hU, g_FZ_fr (g_FZ_fr h.2 f1 (by decide)) f2 (by decide)⟩
theorem y_seed {M : gj_M} {a : Int} (h : g_ZK M M) : ∃ v D U, f_X11_seed a M = (v, D) ∧ F_X12_seed a D = some (v, U) ∧ g_ZK U U := by
  obtain ⟨v, D, U, e1, e2, hU⟩ := x_seed (a := a) h.1
  have f1 : gj_Fr _ _ M (f_X11_seed a M).2 := fr_X11_seed a (M := M)
  have f2 : gj_Fr _ _ D U := fr_X12_seed a _ e2
  rw [e1] at f1
  exact ⟨v, D, U, e1, e2, hU, g_FZ_fr (g_FZ_fr h.2 f1 (by decide)) f2 (by decide)⟩
theorem y_fault {M : gj_M} {c : Int} (hc : 136 ≤ c) (h : g_ZK M M) : ∃ v D U, F_X11_fault M = some (v, D) ∧ F_X12_fault c D = some (v, (c + 1, U)) ∧ g_ZK U U := by
  obtain ⟨v, D, U, e1, e2, hU⟩ := x_fault hc h.1
  have h0 := h.1.1
  obtain ⟨v1, D1, -, y1, -, f, -⟩ := p_fault hc h0.1.1 h0.1.2.1 h0.1.2.2
  obtain ⟨-, rfl⟩ := g_some2 e1 y1
  have h1 : g_WK M D := g_WK_rz h0 (g_hi79 f (by decide))
  obtain ⟨v2, D2, U2, y2, y3, -, f'⟩ := p_fault hc h1.1.1 h1.1.2.1 h1.1.2.2
  obtain ⟨-, rfl⟩ := g_some2 e1 y2
  obtain ⟨-, y4⟩ := g_some2 e2 y3
  obtain rfl : U = U2 := (Prod.mk.inj y4).2
  exact ⟨v, D, U, e1, e2, hU, g_FZ_fr (g_FZ_fr h.2 f (by decide)) f' (by decide)⟩
theorem y_village {M : gj_M} {c : Int} (hc : 136 ≤ c) (h : g_ZK M M) : ∃ v D U, F_X11_village M = some (v, D) ∧ F_X12_village c D = some (v, (c + 1, U)) ∧ g_ZK U U := by
  obtain ⟨v, D, U, e1, e2, hU⟩ := x_village hc h.1
  refine ⟨v, D, U, e1, e2, hU, ?_⟩
  have fC : gj_Fr _ _ M D := fr_X11_village _ e1
  have h1 : g_WK M D := g_WK_rz h.1.1 (g_hi79 fC (by decide))
  rcases p_village hc h1.1.1 h1.1.2.1 h1.1.2.2 with ⟨A, B, k1, k2, f2, f3⟩ | ⟨v2, V, W, k1, k2, nv⟩
  · obtain ⟨-, eD⟩ := g_some2 e1 k1
    obtain ⟨-, y⟩ := g_some2 e2 k2
    have eU := (Prod.mk.inj y).2
    have fD : gj_Fr [4, 5, 6, 7, 8, 11, 12, 13, 78] [(3, 0), (3, 1), (3, 2), (3, 3), (3, 4), (3, 5), (3, 6), (3, 7), (3, 8), (3, 9), (10, 5), (10, 6), (10, 7), (10, 8), (10, 9)] M D := by
      rw [eD]
      exact (f2.wide (by decide +kernel)).up (by decide +kernel)
    have fU : gj_Fr [80, 84, 87, 90, 93, 96, 99, 102, 103, 104, 105, 106] [(79, 3), (79, 4), (79, 5), (79, 6)] D U := by
      rw [eU]
      exact (f3.wide (by decide +kernel)).up (by decide +kernel)
    exact g_FZ_fr (g_FZ_fr h.2 fD (by decide)) fU (by decide)
  · obtain ⟨-, y⟩ := g_some2 e2 k2
    obtain rfl : U = W := (Prod.mk.inj y).2
    exact g_FZ_v nv.2.1.2.2
theorem y_may {M : gj_M} {a c : Int} (hc : 136 ≤ c) (h : g_ZK M M) : ∃ v D d U, F_X11_may a M = some (v, D) ∧ F_X12_may_ a c D = some (v, (d, U)) ∧ 136 ≤ d ∧ g_ZK U U := by
  obtain ⟨v, D, d, U, e1, e2, hd, hU⟩ := x_may (a := a) hc h.1
  refine ⟨v, D, d, U, e1, e2, hd, hU, ?_⟩
  by_cases q : (1 ≤ a ∧ a ≤ 50) ∧ M 79 18 = 1
  · obtain ⟨ha, v18⟩ := q
    have wk := h.1.1
    have hp : g_PL M M := by
      rcases wk.vs with ⟨x, -⟩ | x
      · omega
      · exact x.2
    have hd : 1 ≤ M 14 9 ∧ M 14 9 ≤ 4 := by
      obtain ⟨e, q⟩ := hp.hd 7 (by decide) (by decide)
      have e : M 14 9 = M 98 7 := e
      unfold g_hb at q
      rw [e]
      exact ⟨q.2.2 (Or.inr rfl), q.2.1⟩
    obtain ⟨D', y1, -, -, d3⟩ := c_mayOf ha (by rw [wk.vs.st]; omega) wk.vs.c4 hd wk.2.1.2.2.2.2.1 (by rw [wk.2.1.2.2.1.1]; exact wk.2.1.2.2.1.2)
    obtain ⟨-, rfl⟩ := g_some2 e1 y1
    have hi := g_hi79 d3 (by decide)
    have h1 : g_WK M D := g_WK_rz wk hi
    have r18 : D 79 18 = 1 := by rw [hi 79 18 (by decide) (by decide)]; exact v18
    obtain ⟨d', U', y2, -, -, -, u4, -⟩ := r_mayOf hc r18 ha (h1.rg r18) h1.2.2.2 h1.2.1.2.1.2.1 h1.2.1.2.2.1.2
    obtain ⟨-, y3⟩ := g_some2 e2 y2
    obtain rfl : U = U' := (Prod.mk.inj y3).2
    exact g_FZ_v (by rw [u4 79 18 (by decide) (by decide)]; exact r18)
  · have wk := h.1.1
    have no : ¬ (1 ≤ a ∧ a ≤ 50) ∨ f_X5_stands_14 M = 0 := by
      rw [wk.vs.st]
      have := wk.vs.v
      omega
    have y1 := c_mayNo (C := M) no
    obtain ⟨-, rfl⟩ := g_some2 e1 y1
    have e18 : gj_up M 78 2 (gj_w (M 78 2 + 1)) 79 18 = M 79 18 := gj_up_z (by decide)
    have y2 := r_mayNo (R := gj_up M 78 2 (gj_w (M 78 2 + 1))) (a := a) (c := c) (by rw [e18]; have := wk.vs.v; omega)
    obtain ⟨-, y3⟩ := g_some2 e2 y2
    rw [(Prod.mk.inj y3).2]
    exact g_FZ_no h.2
/-- nobody joins or parts without a village -/
theorem p_joinNo {C R : gj_M} {a b : Int} (h : g_VS C R) (v : R 79 18 = 0) : f_X11_join a b C = (0, gj_up C 78 0 (gj_w (C 78 0 + 1))) ∧ F_X12_join a b R = some (0, gj_up R 80 0 (gj_w (R 80 0 + 1))) := by
  obtain ⟨s, e1, e2, e3⟩ := p_who (a := a) h
  obtain ⟨t, f1, f2, f3⟩ := p_who (a := b) h
  have s1 : s = -1 := by
    rcases e3 with q | q
    · exact q
    · have := q.2.2.2.1
      omega
  unfold f_X11_join F_X12_join
  dsimp only [gj_letI]
  rw [e1, e2, f1, f2, gj_bnd_s, gj_bnd_s, r_deny (by decide), r_deny (by decide), gj_bnd2_s, gj_bnd2_s]
  unfold gj_let2
  rw [c_refuse (by decide), c_refuse (by decide)]
  rw [show f_unl s t = 0 from if_neg (fun q => q.1 s1), if_pos rfl, if_pos s1]
  exact ⟨rfl, rfl⟩
theorem p_partNo {C R : gj_M} {a : Int} (h : g_VS C R) (v : R 79 18 = 0) : f_X11_part a C = (0, gj_up C 78 0 (gj_w (C 78 0 + 1))) ∧ F_X12_part a R = some (0, gj_up R 80 0 (gj_w (R 80 0 + 1))) := by
  obtain ⟨s, e1, e2, e3⟩ := p_who (a := a) h
  have s1 : s = -1 := by
    rcases e3 with q | q
    · exact q
    · have := q.2.2.2.1
      omega
  unfold f_X11_part F_X12_part
  dsimp only [gj_letI]
  rw [e1, e2, gj_bnd_s, r_deny (by decide), r_deny (by decide), gj_bnd2_s, gj_bnd2_s]
  unfold gj_let2
  rw [c_refuse (by decide), c_refuse (by decide)]
  exact ⟨if_pos s1, by rw [if_pos s1, if_pos s1]⟩
theorem y_join {M : gj_M} {a b : Int} (h : g_ZK M M) : ∃ U, F_X12_join a b (f_X11_join a b M).2 = some ((f_X11_join a b M).1, U) ∧ g_ZK U U := by
  obtain ⟨U, e2, hU⟩ := x_join (a := a) (b := b) h.1
  refine ⟨U, e2, hU, ?_⟩
  have vs := h.1.1.vs
  have f1 := fr_X11_join a b (M := M)
  have f2 : gj_Fr _ _ (f_X11_join a b M).2 U := fr_X12_join _ _ _ e2
  have hi := g_hi79 f1 (by decide)
  by_cases v0 : M 79 18 = 0
  · have k1 := (p_joinNo (a := a) (b := b) vs v0).1
    have k2 := (p_joinNo (a := a) (b := b) (g_WK_rz h.1.1 hi).vs (by rw [hi 79 18 (by decide) (by decide)]; exact v0)).2
    obtain ⟨-, y⟩ := g_some2 e2 k2
    rw [y, k1]
    exact g_FZ_no h.2
  · exact g_FZ_v (by rw [f2 79 18 (by decide) (by decide), hi 79 18 (by decide) (by decide)]; have := vs.v; omega)
theorem y_part {M : gj_M} {a : Int} (h : g_ZK M M) : ∃ U, F_X12_part a (f_X11_part a M).2 = some ((f_X11_part a M).1, U) ∧ g_ZK U U := by
  obtain ⟨U, e2, hU⟩ := x_part (a := a) h.1
  refine ⟨U, e2, hU, ?_⟩
  have vs := h.1.1.vs
  have f1 := fr_X11_part a (M := M)
  have f2 : gj_Fr _ _ (f_X11_part a M).2 U := fr_X12_part _ _ e2
  have hi := g_hi79 f1 (by decide)
  by_cases v0 : M 79 18 = 0
  · have k1 := (p_partNo (a := a) vs v0).1
    have k2 := (p_partNo (a := a) (g_WK_rz h.1.1 hi).vs (by rw [hi 79 18 (by decide) (by decide)]; exact v0)).2
    obtain ⟨-, y⟩ := g_some2 e2 k2
    rw [y, k1]
    exact g_FZ_no h.2
  · exact g_FZ_v (by rw [f2 79 18 (by decide) (by decide), hi 79 18 (by decide) (by decide)]; have := vs.v; omega)
theorem y_on {M : gj_M} {k : Int} (h : g_ZK M M) : ∃ v D U, F_X11_on k M = some (v, D) ∧ F_X12_on k D = some (v, U) ∧ g_ZK U U := by
  obtain ⟨v, D, U, e1, e2, hU⟩ := x_on (k := k) h.1
  refine ⟨v, D, U, e1, e2, hU, ?_⟩
  have wk := h.1.1
  by_cases k3 : (0 ≤ k ∧ k ≤ 2) ∧ M 135 k ≠ 0
  · obtain ⟨k3, hk⟩ := k3
    obtain ⟨q77, qi⟩ := wk.2.1.2.2.2.1 k k3.1 (by omega)
    have v1 : M 79 18 = 1 := (qi hk).1
    have f1 : gj_Fr _ _ M D := fr_X11_on _ _ e1
    have f2 : gj_Fr _ _ D U := fr_X12_on _ _ e2
    exact g_FZ_v (by rw [f2 79 18 (by decide) (by decide), f1 79 18 (by decide) (by decide)]; exact v1)
  · have no : ¬ (0 ≤ k ∧ k ≤ 2) ∨ M 135 k = 0 := by omega
    have y1 := c_onNo (C := M) (k := k) (by
      rcases no with x | x
      · exact Or.inl x
      · by_cases c : 0 ≤ k ∧ k ≤ 2
        · right
          rw [(wk.2.1.2.2.2.1 k c.1 (by omega)).1]
          exact x
        · exact Or.inl c)
    obtain ⟨-, rfl⟩ := g_some2 e1 y1
    obtain ⟨-, rfl⟩ := g_some2 e2 (r_onNo (R := gj_up M 78 0 (gj_w (M 78 0 + 1))) (k := k) (by rw [gj_up_z (by decide)]; exact no))
    exact g_FZ_no h.2
theorem y_person {M : gj_M} {a b : Int} (h : g_ZK M M) : F_X12_person a b M = some (f_X11_person a b M) := x_person h.1
theorem y_earned {M : gj_M} {a : Int} (h : g_ZK M M) : F_X12_earned a M = some (f_X11_earned a M) := x_earned h.1
theorem y_two {M : gj_M} {a b c : Int} (h : g_ZK M M) : F_X12_two_ a b c M = some (f_X11_two a b c M) := x_two h.1
theorem y_think {M : gj_M} {a b c : Int} (h : g_ZK M M) : F_X12_think a b c M = some (f_X11_think a b c M) := x_think h.1
theorem y_shown {M : gj_M} {a b c : Int} (h : g_ZK M M) : ∃ v, F_X11_shown a b c M = some v ∧ F_X12_shown a b c M = some v := x_shown h.1
theorem y_liking {M : gj_M} {a b : Int} (h : g_ZK M M) : F_X12_liking a b M = some (f_X11_liking a b M) := x_liking h.1
theorem y_status {M : gj_M} {a : Int} (h : g_ZK M M) : ∃ v, F_X11_status a M = some v ∧ F_X12_status a M = some v := x_status h.1
theorem y_count {M : gj_M} {a : Int} (h : g_ZK M M) : f_X12_count a M = f_X11_count a M := x_count h.1
theorem y_pairs {M : gj_M} {a b : Int} (h : g_ZK M M) : ∃ v v', F_X11_pairs a b M = some v ∧ F_X12_pairs a b M = some v' := x_pairs h.1
/-- the log is the same -/
theorem y_log {M : gj_M} {a b : Int} (h : g_ZK M M) : F_X12_log a b M = some (f_X11_log a b M) := by
  refine p_logJ ?_
  rcases h.1.1.vs.v with v | v
  · exact Or.inr (h.2 v).2
  · exact Or.inl (h.1.2.2 v).1.lg
theorem y_new : g_ZK gj_m0 gj_m0 := by
  have z0 : ∀ a i : Int, (a ≠ 68 ∧ a ≠ 58 ∧ a ≠ 48 ∧ a ≠ 22) ∧ ¬ (a = 79 ∧ i = 37) → gj_m0 a i = 0 := by
    rintro a i ⟨⟨h1, h2, h3, h4⟩, h5⟩
    unfold gj_m0 k_mF
    rw [if_neg]
    rintro (⟨q, -, -⟩ | ⟨-, q⟩)
    · simp at q
      omega
    · exact h5 q
  refine ⟨x_new, fun _ => ⟨fun j j0 j1 => ?_, z0 29 2 (by omega), z0 79 29 (by omega)⟩⟩
  unfold gj_m0 k_mF
  rw [if_pos (Or.inl ⟨by decide, j0, j1⟩)]
