/-! PURE: with a village the class's row of the parents' way is the best of the list; kept with the full relation -/
def g_P4 (C R : gj_M) : Prop := ∃ n0 n1 : Nat, R 101 0 = n0 ∧ R 101 1 = n1 ∧ ∀ j, 0 ≤ j → j < 8 → C 43 j = e_rw (e_fo (e_S C) (e_lv n1 n0 0 e_none) (-1, e_none)).2 j
def g_P43 (M : gj_M) : Prop := M 79 18 = 1 → g_P4 M M
def g_QK (C R : gj_M) : Prop := g_FK C R ∧ g_P43 C
theorem e_S_s {C D : gj_M} (h14 : D 14 = C 14) (h15 : D 15 = C 15) (h19 : D 19 = C 19) : e_S D = e_S C := funext fun r => by
  unfold e_S
  rw [p_ysC (M := e_W C r) (N := e_W D r) (z := 0) (w := 0) (by rw [e_W_z (by decide), e_W_z (by decide)]; exact h14) (by rw [e_W_z (by decide), e_W_z (by decide)]; exact h15) (by rw [e_W_z (by decide), e_W_z (by decide)]; exact h19) (fun j _ _ => by rw [e_W_0, e_W_0])]
theorem g_P4_s {C R D U : gj_M} (h : g_P4 C R) (h14 : D 14 = C 14) (h15 : D 15 = C 15) (h19 : D 19 = C 19) (h43 : D 43 = C 43) (h101 : U 101 = R 101) : g_P4 D U := by
  obtain ⟨n0, n1, a, b, c⟩ := h
  refine ⟨n0, n1, by rw [h101]; exact a, by rw [h101]; exact b, ?_⟩
  rw [h43, e_S_s h14 h15 h19]
  exact c
theorem g_P43_fr {M D : gj_M} {os : List Int} {ps : List (Int × Int)} (h : g_P43 M) (f : gj_Fr os ps M D) (a : g_aw os ps [14, 15, 19, 43, 101] [(79, 18)] = true) : g_P43 D := by
  intro v
  rw [f 79 18 (by decide) (g_aw_c a rfl)] at v
  have r : ∀ z, ([14, 15, 19, 43, 101] : List Int).contains z = true → z < 136 → D z = M z := fun z hz k => g_fr_row _ f (g_aw1 a) z hz k
  exact g_P4_s (h v) (r 14 rfl (by decide)) (r 15 rfl (by decide)) (r 19 rfl (by decide)) (r 43 rfl (by decide)) (r 101 rfl (by decide))
theorem g_P43_no {M : gj_M} {i : Int} (h : g_P43 M) : g_P43 (gj_up (gj_up M 78 i (gj_w (M 78 i + 1))) 80 i (gj_w (gj_up M 78 i (gj_w (M 78 i + 1)) 80 i + 1))) := by
  have f : gj_Fr [78, 80] [] M (gj_up (gj_up M 78 i (gj_w (M 78 i + 1))) 80 i (gj_w (gj_up M 78 i (gj_w (M 78 i + 1)) 80 i + 1))) := (gj_Fr.rf.up rfl).up rfl
  exact g_P43_fr h f (by decide)
theorem q_best {M : gj_M} {a b d : Int} (h : g_QK M M) : ∃ v D U, F_X11_best a b d M = some (v, D) ∧ F_X12_best a b d D = some (v, U) ∧ g_QK U U := by
  obtain ⟨v, D, U, e1, e2, hU⟩ := x_best (a := a) (b := b) (d := d) h.1
  have f1 : gj_Fr _ _ M D := fr_X11_best _ _ _ _ e1
  have f2 : gj_Fr _ _ D U := fr_X12_best _ _ _ _ e2
  exact ⟨v, D, U, e1, e2, hU, g_P43_fr (g_P43_fr h.2 f1 (by decide)) f2 (by decide)⟩
theorem q_act {M : gj_M} {a b d : Int} (h : g_QK M M) : ∃ v D U, F_X11_act a b d M = some (v, D) ∧ F_X12_act a b d D = some (v, U) ∧ g_QK U U := by
  obtain ⟨v, D, U, e1, e2, hU⟩ := x_act (a := a) (b := b) (d := d) h.1
  have f1 : gj_Fr _ _ M D := fr_X11_act _ _ _ _ e1
  have f2 : gj_Fr _ _ D U := fr_X12_act _ _ _ _ e2
  exact ⟨v, D, U, e1, e2, hU, g_P43_fr (g_P43_fr h.2 f1 (by decide)) f2 (by decide)⟩
theorem q_silent {M : gj_M} {a b : Int} (h : g_QK M M) : ∃ v D U, F_X11_silent a b M = some (v, D) ∧ F_X12_silent a b D = some (v, U) ∧ g_QK U U := by
  obtain ⟨v, D, U, e1, e2, hU⟩ := x_silent (a := a) (b := b) h.1
  have f1 : gj_Fr _ _ M D := fr_X11_silent _ _ _ e1
  have f2 : gj_Fr _ _ D U := fr_X12_silent _ _ _ e2
  exact ⟨v, D, U, e1, e2, hU, g_P43_fr (g_P43_fr h.2 f1 (by decide)) f2 (by decide)⟩
theorem q_bar {M : gj_M} {a b d f : Int} (h : g_QK M M) : ∃ v D U, F_X11_bar a b d f M = some (v, D) ∧ F_X12_bar a b d f D = some (v, U) ∧ g_QK U U := by
  obtain ⟨v, D, U, e1, e2, hU⟩ := x_bar (a := a) (b := b) (d := d) (f := f) h.1
  have f1 : gj_Fr _ _ M D := fr_X11_bar _ _ _ _ _ e1
  have f2 : gj_Fr _ _ D U := fr_X12_bar _ _ _ _ _ e2
  exact ⟨v, D, U, e1, e2, hU, g_P43_fr (g_P43_fr h.2 f1 (by decide)) f2 (by decide)⟩
theorem q_price {M : gj_M} {a b : Int} (h : g_QK M M) : ∃ v D U, F_X11_price a b M = some (v, D) ∧ F_X12_price a b D = some (v, U) ∧ g_QK U U := by
  obtain ⟨v, D, U, e1, e2, hU⟩ := x_price (a := a) (b := b) h.1
  have f1 : gj_Fr _ _ M D := fr_X11_price _ _ _ e1
  have f2 : gj_Fr _ _ D U := fr_X12_price _ _ _ e2
  exact ⟨v, D, U, e1, e2, hU, g_P43_fr (g_P43_fr h.2 f1 (by decide)) f2 (by decide)⟩
theorem q_waits {M : gj_M} {a b d : Int} (h : g_QK M M) : ∃ v D U, F_X11_waits a b d M = some (v, D) ∧ F_X12_waits a b d D = some (v, U) ∧ g_QK U U := by
  obtain ⟨v, D, U, e1, e2, hU⟩ := x_waits (a := a) (b := b) (d := d) h.1
  have f1 : gj_Fr _ _ M D := fr_X11_waits _ _ _ _ e1
  have f2 : gj_Fr _ _ D U := fr_X12_waits _ _ _ _ e2
  exact ⟨v, D, U, e1, e2, hU, g_P43_fr (g_P43_fr h.2 f1 (by decide)) f2 (by decide)⟩
theorem q_green {M : gj_M} {a b : Int} (h : g_QK M M) : ∃ v D U, F_X11_green a b M = some (v, D) ∧ F_X12_green a b D = some (v, U) ∧ g_QK U U := by
  obtain ⟨v, D, U, e1, e2, hU⟩ := x_green (a := a) (b := b) h.1
  have f1 : gj_Fr _ _ M D := fr_X11_green _ _ _ e1
  have f2 : gj_Fr _ _ D U := fr_X12_green _ _ _ e2
  exact ⟨v, D, U, e1, e2, hU, g_P43_fr (g_P43_fr h.2 f1 (by decide)) f2 (by decide)⟩
theorem q_image {M : gj_M} {k : Int} (h : g_QK M M) : ∃ v D U, F_X11_image k M = some (v, D) ∧ F_X12_image k D = some (v, U) ∧ g_QK U U := by
  obtain ⟨v, D, U, e1, e2, hU⟩ := x_image (k := k) h.1
  have f1 : gj_Fr _ _ M D := fr_X11_image _ _ e1
  have f2 : gj_Fr _ _ D U := fr_X12_image _ _ e2
  exact ⟨v, D, U, e1, e2, hU, g_P43_fr (g_P43_fr h.2 f1 (by decide)) f2 (by decide)⟩
theorem q_feed {M : gj_M} {a b c d e : Int} (h : g_QK M M) : ∃ v D U, F_X11_feed a b c d e M = some (v, D) ∧ F_X12_feed a b c d e D = some (v, U) ∧ g_QK U U := by
  obtain ⟨v, D, U, e1, e2, hU⟩ := x_feed (a := a) (b := b) (c := c) (d := d) (e := e) h.1
  have f1 : gj_Fr _ _ M D := fr_X11_feed _ _ _ _ _ _ e1
  have f2 : gj_Fr _ _ D U := fr_X12_feed _ _ _ _ _ _ e2
  exact ⟨v, D, U, e1, e2, hU, g_P43_fr (g_P43_fr h.2 f1 (by decide)) f2 (by decide)⟩
theorem q_life {M : gj_M} {a b : Int} (h : g_QK M M) : ∃ v D v' U, F_X11_life a b M = some (v, D) ∧ F_X12_life a b D = some (v', U) ∧ g_QK U U := by
  obtain ⟨v, D, v', U, e1, e2, hU⟩ := x_life (a := a) (b := b) h.1
  have f1 : gj_Fr _ _ M D := fr_X11_life _ _ _ e1
  have f2 : gj_Fr _ _ D U := fr_X12_life _ _ _ e2
  exact ⟨v, D, v', U, e1, e2, hU, g_P43_fr (g_P43_fr h.2 f1 (by decide)) f2 (by decide)⟩
theorem q_sooner {M : gj_M} {a b d : Int} (h : g_QK M M) : ∃ v D, F_X11_sooner a b d M = some (v, D) ∧ F_X12_sooner a b d D = some v ∧ g_QK D D := by
  obtain ⟨v, D, e1, e2, hU⟩ := x_sooner (a := a) (b := b) (d := d) h.1
  have f1 : gj_Fr _ _ M D := fr_X11_sooner _ _ _ _ e1
  exact ⟨v, D, e1, e2, hU, g_P43_fr h.2 f1 (by decide)⟩
theorem q_blocks {M : gj_M} {a : Int} (h : g_QK M M) : ∃ v D, F_X11_blocks a M = some (v, D) ∧ F_X12_blocks a D = some v ∧ g_QK D D := by
  obtain ⟨v, D, e1, e2, hU⟩ := x_blocks (a := a) h.1
  have f1 : gj_Fr _ _ M D := fr_X11_blocks _ _ e1
  exact ⟨v, D, e1, e2, hU, g_P43_fr h.2 f1 (by decide)⟩
theorem q_end {M : gj_M} {a : Int} (h : g_QK M M) : ∃ U, F_X12_end a (f_X11_end a M).2 = some ((f_X11_end a M).1, U) ∧ g_QK U U := by
  obtain ⟨U, e2, hU⟩ := x_end (a := a) h.1
  have f1 : gj_Fr _ _ M (f_X11_end a M).2 := fr_X11_end a (M := M)
  have f2 : gj_Fr _ _ (f_X11_end a M).2 U := fr_X12_end a _ e2
  exact ⟨U, e2, hU, g_P43_fr (g_P43_fr h.2 f1 (by decide)) f2 (by decide)⟩
theorem q_way {M : gj_M} {a : Int} (h : g_QK M M) : ∃ v D U, f_X11_way a M = (v, D) ∧ F_X12_way a D = some (v, U) ∧ g_QK U U := by
  obtain ⟨v, D, U, e1, e2, hU⟩ := x_way (a := a) h.1
  have f1 : gj_Fr _ _ M (f_X11_way a M).2 := fr_X11_way a (M := M)
  have f2 : gj_Fr _ _ D U := fr_X12_way a _ e2
  rw [e1] at f1
  exact ⟨v, D, U, e1, e2, hU, g_P43_fr (g_P43_fr h.2 f1 (by decide)) f2 (by decide)⟩
theorem q_seed {M : gj_M} {a : Int} (h : g_QK M M) : ∃ v D U, f_X11_seed a M = (v, D) ∧ F_X12_seed a D = some (v, U) ∧ g_QK U U := by
  obtain ⟨v, D, U, e1, e2, hU⟩ := x_seed (a := a) h.1
  have f1 : gj_Fr _ _ M (f_X11_seed a M).2 := fr_X11_seed a (M := M)
  have f2 : gj_Fr _ _ D U := fr_X12_seed a _ e2
  rw [e1] at f1
  exact ⟨v, D, U, e1, e2, hU, g_P43_fr (g_P43_fr h.2 f1 (by decide)) f2 (by decide)⟩
theorem q_fault {M : gj_M} {c : Int} (hc : 136 ≤ c) (h : g_QK M M) : ∃ v D U, F_X11_fault M = some (v, D) ∧ F_X12_fault c D = some (v, (c + 1, U)) ∧ g_QK U U := by
  obtain ⟨v, D, U, e1, e2, hU⟩ := x_fault hc h.1
  have h0 := h.1.1
  obtain ⟨v1, D1, -, y1, -, f, -⟩ := p_fault hc h0.1.1 h0.1.2.1 h0.1.2.2
  obtain ⟨-, rfl⟩ := g_some2 e1 y1
  have h1 : g_WK M D := g_WK_rz h0 (g_hi79 f (by decide))
  obtain ⟨v2, D2, U2, y2, y3, -, f'⟩ := p_fault hc h1.1.1 h1.1.2.1 h1.1.2.2
  obtain ⟨-, rfl⟩ := g_some2 e1 y2
  obtain ⟨-, y4⟩ := g_some2 e2 y3
  obtain rfl : U = U2 := (Prod.mk.inj y4).2
  exact ⟨v, D, U, e1, e2, hU, g_P43_fr (g_P43_fr h.2 f (by decide)) f' (by decide)⟩
theorem q_join {M : gj_M} {a b : Int} (h : g_QK M M) : ∃ U, F_X12_join a b (f_X11_join a b M).2 = some ((f_X11_join a b M).1, U) ∧ g_QK U U := by
  obtain ⟨U, e2, hU⟩ := x_join (a := a) (b := b) h.1
  have f1 := fr_X11_join a b (M := M)
  have f2 : gj_Fr _ _ (f_X11_join a b M).2 U := fr_X12_join _ _ _ e2
  exact ⟨U, e2, hU, g_P43_fr (g_P43_fr h.2 f1 (by decide)) f2 (by decide)⟩
theorem q_part {M : gj_M} {a : Int} (h : g_QK M M) : ∃ U, F_X12_part a (f_X11_part a M).2 = some ((f_X11_part a M).1, U) ∧ g_QK U U := by
  obtain ⟨U, e2, hU⟩ := x_part (a := a) h.1
  have f1 := fr_X11_part a (M := M)
  have f2 : gj_Fr _ _ (f_X11_part a M).2 U := fr_X12_part _ _ e2
  exact ⟨U, e2, hU, g_P43_fr (g_P43_fr h.2 f1 (by decide)) f2 (by decide)⟩
theorem q_on {M : gj_M} {k : Int} (h : g_QK M M) : ∃ v D U, F_X11_on k M = some (v, D) ∧ F_X12_on k D = some (v, U) ∧ g_QK U U := by
  obtain ⟨v, D, U, e1, e2, hU⟩ := x_on (k := k) h.1
  have f1 : gj_Fr _ _ M D := fr_X11_on _ _ e1
  have f2 : gj_Fr _ _ D U := fr_X12_on _ _ e2
  exact ⟨v, D, U, e1, e2, hU, g_P43_fr (g_P43_fr h.2 f1 (by decide)) f2 (by decide)⟩
theorem q_may {M : gj_M} {a c : Int} (hc : 136 ≤ c) (h : g_QK M M) : ∃ v D d U, F_X11_may a M = some (v, D) ∧ F_X12_may_ a c D = some (v, (d, U)) ∧ 136 ≤ d ∧ g_QK U U := by
  obtain ⟨v, D, d, U, e1, e2, hd, hU⟩ := x_may (a := a) hc h.1
  refine ⟨v, D, d, U, e1, e2, hd, hU, ?_⟩
  by_cases q : (1 ≤ a ∧ a ≤ 50) ∧ M 79 18 = 1
  · obtain ⟨ha, v18⟩ := q
    have wk : g_WK M M := h.1.1
    have hp : g_PL M M := by
      rcases wk.vs with ⟨x, -⟩ | x
      · omega
      · exact x.2
    have hd : 1 ≤ M 14 9 ∧ M 14 9 ≤ 4 := by
      obtain ⟨e, q⟩ := hp.hd 7 (by decide) (by decide)
      have e : M 14 9 = M 98 7 := e
      unfold g_hb at q
      rw [e]
      exact ⟨q.2.2 (Or.inr rfl), q.2.1⟩
    obtain ⟨D', y1, -, -, d3⟩ := c_mayOf ha (by rw [wk.vs.st]; omega) wk.vs.c4 hd wk.2.1.2.2.2.2.1 (by rw [wk.2.1.2.2.1.1]; exact wk.2.1.2.2.1.2)
    obtain ⟨-, rfl⟩ := g_some2 e1 y1
    have hi := g_hi79 d3 (by decide)
    have h1 : g_WK M D := g_WK_rz wk hi
    have r18 : D 79 18 = 1 := by rw [hi 79 18 (by decide) (by decide)]; exact v18
    obtain ⟨d', U', y2, -, -, -, u4, -⟩ := r_mayOf hc r18 ha (h1.rg r18) h1.2.2.2 h1.2.1.2.1.2.1 h1.2.1.2.2.1.2
    obtain ⟨-, y3⟩ := g_some2 e2 y2
    obtain rfl : U = U' := (Prod.mk.inj y3).2
    exact g_P43_fr (g_P43_fr h.2 d3 (by decide)) u4 (by decide)
  · have wk : g_WK M M := h.1.1
    have no : ¬ (1 ≤ a ∧ a ≤ 50) ∨ f_X5_stands_14 M = 0 := by
      rw [wk.vs.st]
      have := wk.vs.v
      omega
    have y1 := c_mayNo (C := M) no
    obtain ⟨-, rfl⟩ := g_some2 e1 y1
    have e18 : gj_up M 78 2 (gj_w (M 78 2 + 1)) 79 18 = M 79 18 := gj_up_z (by decide)
    have y2 := r_mayNo (R := gj_up M 78 2 (gj_w (M 78 2 + 1))) (a := a) (c := c) (by rw [e18]; have := wk.vs.v; omega)
    obtain ⟨-, y3⟩ := g_some2 e2 y2
    rw [(Prod.mk.inj y3).2]
    exact g_P43_no h.2
/-- a new village: its parents' way -/
theorem p_village43 {C R : gj_M} {c : Int} (hc : 136 ≤ c) (tx : C 1 1 = R 79 2) (ct : g_CT C) (tt : g_TT (C 2) (R 81) (C 1 1)) :
    (∃ D U, F_X11_village C = some (-1, gj_up D 78 2 (gj_w (D 78 2 + 1))) ∧ F_X12_village c R = some (-1, (c + 1, gj_up U 80 2 (gj_w (U 80 2 + 1))))
      ∧ gj_Fr [4, 5, 6, 7, 8, 11, 12, 13] [(3, 0), (3, 1), (3, 2), (3, 3), (3, 4), (3, 5), (3, 6), (3, 7), (3, 8), (3, 9), (10, 5), (10, 6), (10, 7), (10, 8), (10, 9)] C D
      ∧ gj_Fr [84, 87, 90, 93, 96, 99, 102, 103, 104, 105, 106] [(79, 3), (79, 4), (79, 5), (79, 6)] R U)
    ∨ (∃ v V w W, F_X11_village C = some (v, V) ∧ F_X12_village c R = some (w, (c + 1, W)) ∧ g_P4 V W) := by
  obtain ⟨x, D, U, e1, e2, e3, e4⟩ := p_read hc tx ct tt
  by_cases hx : x = -1
  · right
    have e4 : g_DD D U ∧ 0 < D 3 0 ∧ 0 < D 3 1 := by
      rcases e4 with q | q
      · exact q.2
      · omega
    obtain ⟨hd, c0, c1⟩ := e4
    rw [hx] at e1 e3
    obtain ⟨N, n1, n2, n3⟩ := p_plan hd c0 c1
    obtain ⟨A, a1, a2, a3⟩ := p_village_C e1 n1
    obtain ⟨W, w1, w2, w3, w4, w5⟩ := p_village_R e2 e3
    have b0 := n2.b0
    have b1 := n2.b1
    have k0 := n2.n0
    have k1 := n2.n1
    have h0 : g_W0 U 101 0 = ((g_W0 U 101 0).toNat : Int) := by omega
    have h1 : g_W0 U 101 1 = ((g_W0 U 101 1).toNat : Int) := by omega
    obtain ⟨A', y1, y2⟩ := p_chooseJ n2 h0 h1
    rw [a2] at y1
    obtain rfl : A = A' := Option.some.inj y1
    have w101 : W 101 = g_W0 U 101 := by
      rw [w5 101 (by decide) (by decide)]
      unfold g_W1
      funext i
      rw [gj_up_z (by decide), gj_up_z (by decide), gj_up_z (by decide), gj_up_z (by decide), gj_up_z (by decide), gj_up_z (by decide)]
    have hV : ∀ z, z ≠ 1 ∧ z ≠ 77 → z < 21 → g_V1 A z = N z := fun z h k => by rw [g_V1_z h, g_begin_z (by omega), a1 z (by omega)]
    refine ⟨_, g_V1 A, _, W, a3, w1, (g_W0 U 101 0).toNat, (g_W0 U 101 1).toNat, by rw [w101]; exact h0, by rw [w101]; exact h1, fun j a b => ?_⟩
    rw [g_V1_z (by decide), g_begin_z (by decide), e_S_s (hV 14 (by decide) (by decide)) (hV 15 (by decide) (by decide)) (hV 19 (by decide) (by decide))]
    exact y2 j a b
  · left
    refine ⟨D, U, ?_, ?_, fr_X6_read _ e1, fr_X12_reads hc _ e2⟩
    · unfold F_X11_village f_X11_refuse
      rw [e1, gj_bnd2_s, if_neg hx, gj_let_s]
      unfold gj_let2
      rw [f_put_in (by decide), f_at_in (by decide)]
    · unfold F_X12_village F_X12_refuse
      rw [e2, gj_bnd2_s, if_neg (by rw [e3]; exact hx), gj_chkp (by decide), gj_chkp (by decide), gj_let_s]
      rfl
theorem q_village {M : gj_M} {c : Int} (hc : 136 ≤ c) (h : g_QK M M) : ∃ v D U, F_X11_village M = some (v, D) ∧ F_X12_village c D = some (v, (c + 1, U)) ∧ g_QK U U := by
  obtain ⟨v, D, U, e1, e2, hU⟩ := x_village hc h.1
  refine ⟨v, D, U, e1, e2, hU, ?_⟩
  have wk : g_WK M M := h.1.1
  have fC : gj_Fr _ _ M D := fr_X11_village _ e1
  have h1 : g_WK M D := g_WK_rz wk (g_hi79 fC (by decide))
  have lo := r_villageLo hc h1.1.1 h1.1.2.1 h1.1.2.2 e2
  rcases p_village43 hc h1.1.1 h1.1.2.1 h1.1.2.2 with ⟨A, B, k1, k2, f2, f3⟩ | ⟨v2, V, w2, W, k1, k2, nv⟩
  · obtain ⟨-, eD⟩ := g_some2 e1 k1
    obtain ⟨-, y⟩ := g_some2 e2 k2
    have eU := (Prod.mk.inj y).2
    have fD : gj_Fr [4, 5, 6, 7, 8, 11, 12, 13, 78] [(3, 0), (3, 1), (3, 2), (3, 3), (3, 4), (3, 5), (3, 6), (3, 7), (3, 8), (3, 9), (10, 5), (10, 6), (10, 7), (10, 8), (10, 9)] M D := by
      rw [eD]
      exact (f2.wide (by decide +kernel)).up (by decide +kernel)
    have fU : gj_Fr [80, 84, 87, 90, 93, 96, 99, 102, 103, 104, 105, 106] [(79, 3), (79, 4), (79, 5), (79, 6)] D U := by
      rw [eU]
      exact (f3.wide (by decide +kernel)).up (by decide +kernel)
    exact g_P43_fr (g_P43_fr h.2 fD (by decide)) fU (by decide)
  · obtain ⟨-, rfl⟩ := g_some2 e1 k1
    obtain ⟨-, y⟩ := g_some2 e2 k2
    obtain rfl : U = W := (Prod.mk.inj y).2
    have l : ∀ z, z < 79 → U z = D z := fun z k => funext fun i => lo z i k
    exact fun _ => g_P4_s nv (l 14 (by decide)) (l 15 (by decide)) (l 19 (by decide)) (l 43 (by decide)) rfl
theorem q_person {M : gj_M} {a b : Int} (h : g_QK M M) : F_X12_person a b M = some (f_X11_person a b M) := x_person h.1
theorem q_earned {M : gj_M} {a : Int} (h : g_QK M M) : F_X12_earned a M = some (f_X11_earned a M) := x_earned h.1
theorem q_two {M : gj_M} {a b c : Int} (h : g_QK M M) : F_X12_two_ a b c M = some (f_X11_two a b c M) := x_two h.1
theorem q_think {M : gj_M} {a b c : Int} (h : g_QK M M) : F_X12_think a b c M = some (f_X11_think a b c M) := x_think h.1
theorem q_shown {M : gj_M} {a b c : Int} (h : g_QK M M) : ∃ v, F_X11_shown a b c M = some v ∧ F_X12_shown a b c M = some v := x_shown h.1
theorem q_liking {M : gj_M} {a b : Int} (h : g_QK M M) : F_X12_liking a b M = some (f_X11_liking a b M) := x_liking h.1
theorem q_status {M : gj_M} {a : Int} (h : g_QK M M) : ∃ v, F_X11_status a M = some v ∧ F_X12_status a M = some v := x_status h.1
theorem q_count {M : gj_M} {a : Int} (h : g_QK M M) : f_X12_count a M = f_X11_count a M := x_count h.1
theorem q_pairs {M : gj_M} {a b : Int} (h : g_QK M M) : ∃ v v', F_X11_pairs a b M = some v ∧ F_X12_pairs a b M = some v' := x_pairs h.1
theorem q_log {M : gj_M} {a b : Int} (h : g_QK M M) : ∃ v, F_X12_log a b M = some v := x_log h.1
theorem q_new : g_QK gj_m0 gj_m0 := by
  refine ⟨x_new, fun v => ?_⟩
  have z0 : ∀ a i : Int, (a ≠ 68 ∧ a ≠ 58 ∧ a ≠ 48 ∧ a ≠ 22) ∧ ¬ (a = 79 ∧ i = 37) → gj_m0 a i = 0 := by
    rintro a i ⟨⟨h1, h2, h3, h4⟩, h5⟩
    unfold gj_m0 k_mF
    rw [if_neg]
    rintro (⟨q, -, -⟩ | ⟨-, q⟩)
    · simp at q
      omega
    · exact h5 q
  rw [z0 79 18 (by omega)] at v
  exact absurd v (by decide)
