/-! PURE: the weak relation is kept, call by call, in ONE memory -/
theorem g_lo79 {os : List Int} {ps : List (Int × Int)} {D U : gj_M} (f : gj_Fr os ps D U) (h : (os.all (fun z => decide (79 ≤ z)) && ps.all (fun q => decide (79 ≤ q.1))) = true) : ∀ z i, z < 79 → U z i = D z i := by
  intro z i hz
  refine f z i (by omega) ?_
  rw [Bool.and_eq_true] at h
  unfold gj_fp
  rw [Bool.or_eq_false_iff]
  refine ⟨?_, ?_⟩
  · rw [← Bool.not_eq_true]
    intro q
    have h1 := List.all_eq_true.mp h.1 z (List.elem_iff.mp q)
    rw [decide_eq_true_eq] at h1
    omega
  · rw [← Bool.not_eq_true]
    intro q
    have h1 := List.all_eq_true.mp h.2 (z, i) (List.elem_iff.mp q)
    rw [decide_eq_true_eq] at h1
    exact absurd h1 (by show ¬ 79 ≤ z; omega)
theorem g_hi79 {os : List Int} {ps : List (Int × Int)} {D U : gj_M} (f : gj_Fr os ps D U) (h : (os.all (fun z => decide (z < 79)) && ps.all (fun q => decide (q.1 < 79))) = true) : ∀ z i, 79 ≤ z → z < 136 → U z i = D z i := by
  intro z i hz h136
  refine f z i h136 ?_
  rw [Bool.and_eq_true] at h
  unfold gj_fp
  rw [Bool.or_eq_false_iff]
  refine ⟨?_, ?_⟩
  · rw [← Bool.not_eq_true]
    intro q
    have h1 := List.all_eq_true.mp h.1 z (List.elem_iff.mp q)
    rw [decide_eq_true_eq] at h1
    omega
  · rw [← Bool.not_eq_true]
    intro q
    have h1 := List.all_eq_true.mp h.2 (z, i) (List.elem_iff.mp q)
    rw [decide_eq_true_eq] at h1
    exact absurd h1 (by show ¬ z < 79; omega)
theorem g_wc_lo {z : Int} (h : g_wc.contains z = true) : z < 79 := by
  have := List.elem_iff.mp h
  unfold g_wc at this
  simp at this
  omega
theorem g_wr_hi {z : Int} (h : g_wr.contains z = true) : 79 ≤ z ∧ z < 136 := by
  have := List.elem_iff.mp h
  unfold g_wr at this
  simp at this
  omega
theorem g_rr_hi {z : Int} (h : g_rr.contains z = true) : 79 ≤ z ∧ z < 136 := by
  have := List.elem_iff.mp h
  unfold g_rr at this
  simp at this
  omega
theorem g_WK_lz {D U : gj_M} (h : g_WK D U) (hz : ∀ z i, z < 79 → U z i = D z i) : g_WK U U := by
  obtain ⟨h1, h2, h3, h4⟩ := h
  exact ⟨g_TX_s h1 (funext fun i => hz 1 i (by decide)) (funext fun i => hz 2 i (by decide)) rfl rfl, g_WB_s h2 (fun z e => funext fun i => hz z i (g_wc_lo e)) (hz 21 0 (by decide)) (hz 21 1 (by decide)) (fun _ _ => rfl) rfl rfl rfl, h3, h4⟩
theorem g_WK_rz {M D : gj_M} (h : g_WK M M) (hz : ∀ z i, 79 ≤ z → z < 136 → D z i = M z i) : g_WK M D := by
  obtain ⟨h1, h2, h3, h4⟩ := h
  refine ⟨g_TX_s h1 rfl rfl (hz 79 2 (by decide) (by decide)) (funext fun i => hz 81 i (by decide) (by decide)), g_WB_s h2 (fun _ _ => rfl) rfl rfl (fun z e => funext fun i => hz z i (g_wr_hi e).1 (g_wr_hi e).2) (hz 79 18 (by decide) (by decide)) (hz 79 27 (by decide) (by decide)) (hz 79 28 (by decide) (by decide)), fun v => ?_, ?_⟩
  · rw [hz 79 18 (by decide) (by decide)] at v
    exact g_RG_s (h3 v) (fun z e => funext fun i => hz z i (g_rr_hi e).1 (g_rr_hi e).2)
  · rw [hz 79 29 (by decide) (by decide)]
    exact h4
theorem g_WK_d {M D : gj_M} {os : List Int} {ps : List (Int × Int)} (h : g_WK M M) (f : gj_Fr os ps M D) (hc : g_aw os ps (1 :: 2 :: g_wc) [(21, 0), (21, 1)] = true) (hr : g_aw os ps (81 :: 108 :: 112 :: 113 :: g_wr) [(79, 2), (79, 18), (79, 27), (79, 28), (79, 29)] = true) : g_WK D D := g_WK_fr h f f hc hr
def g_wx : List Int := [14, 15, 16, 17, 18, 19, 20, 47, 52, 53, 57, 62, 63, 67, 72, 73, 77]
theorem g_wx_lo {z : Int} (h : g_wx.contains z = true) : z < 79 := by
  have := List.elem_iff.mp h
  unfold g_wx at this
  simp at this
  omega
/-- year, way and what is known may change -/
theorem g_WB_g {C R D U : gj_M} (h : g_WB C R) (hc : ∀ z, g_wx.contains z = true → D z = C z) (hk : g_CK D) (hy : D 21 0 = U 79 27 ∧ gj_w (U 79 27) = U 79 27) (hw : D 21 1 = U 79 28 ∧ 0 ≤ U 79 28 ∧ U 79 28 ≤ 3) (hr : ∀ z, g_wr.contains z = true → U z = R z) (r1 : U 79 18 = R 79 18) : g_WB D U := by
  obtain ⟨h1, h2, h3, h4, h5, h6⟩ := h
  refine ⟨g_VS_s h1 (fun z a b => hc z ?_) (fun z e => hr z (by rcases e with e | e | e | e | e | e | e <;> rw [e] <;> rfl)) r1, hw, hy, fun k a b => ?_, hk, fun k a b => ?_⟩
  · have : z = 14 ∨ z = 15 ∨ z = 16 ∨ z = 17 ∨ z = 18 ∨ z = 19 ∨ z = 20 := by omega
    rcases this with e | e | e | e | e | e | e <;> rw [e] <;> rfl
  · have q := h4 k a b
    unfold g_WI g_pe at *
    rcases g_k3 a b with e | e | e <;> rw [e] at q ⊢
    · rw [hc 77 rfl, hr 135 rfl, r1, hc (47 + 10 * 0) rfl, hr (131 + 0) rfl, hr 101 rfl]; exact q
    · rw [hc 77 rfl, hr 135 rfl, r1, hc (47 + 10 * 1) rfl, hr (131 + 1) rfl, hr 101 rfl]; exact q
    · rw [hc 77 rfl, hr 135 rfl, r1, hc (47 + 10 * 2) rfl, hr (131 + 2) rfl, hr 101 rfl]; exact q
  · have q := h6 k a b
    unfold g_CI at *
    rcases g_k3 a b with e | e | e <;> rw [e] at q ⊢
    · rw [hc (52 + 10 * 0) rfl, hc (53 + 10 * 0) rfl]; exact q
    · rw [hc (52 + 10 * 1) rfl, hc (53 + 10 * 1) rfl]; exact q
    · rw [hc (52 + 10 * 2) rfl, hc (53 + 10 * 2) rfl]; exact q
theorem g_ww (x : Int) : gj_w (gj_w x) = gj_w x := by
  unfold gj_w
  omega
theorem w_sooner {M : gj_M} {a b d : Int} (h : g_WK M M) : ∃ v D v', F_X11_sooner a b d M = some (v, D) ∧ F_X12_sooner a b d D = some v' ∧ g_WK D D := by
  obtain ⟨v, D, e⟩ := c_sooner (M := M) (a := a) (b := b) (d := d)
  have hD : g_WK D D := g_WK_d h (fr_X11_sooner _ _ _ _ e) (by decide) (by decide)
  obtain ⟨v', e'⟩ := r_sooner (a := a) (b := b) (d := d) hD.vs hD.rg
  exact ⟨v, D, v', e, e', hD⟩
theorem w_best {M : gj_M} {a b d : Int} (h : g_WK M M) : ∃ v D v' U, F_X11_best a b d M = some (v, D) ∧ F_X12_best a b d D = some (v', U) ∧ g_WK U U := by
  obtain ⟨v, D, e⟩ := c_best (a := a) (n := b) (w := d) h.vs.c4
  have hD : g_WK D D := g_WK_d h (fr_X11_best _ _ _ _ e) (by decide) (by decide)
  obtain ⟨v', U, e'⟩ := r_best (a := a) (n := b) (w := d) hD.vs hD.rg
  exact ⟨v, D, v', U, e, e', g_WK_d hD (fr_X12_best _ _ _ _ e') (by decide) (by decide)⟩
theorem w_act {M : gj_M} {a b d : Int} (h : g_WK M M) : ∃ v D v' U, F_X11_act a b d M = some (v, D) ∧ F_X12_act a b d D = some (v', U) ∧ g_WK U U := by
  obtain ⟨v, D, e⟩ := c_act (a := a) (n := b) (b := d) h.vs.c4
  have hD : g_WK D D := g_WK_d h (fr_X11_act _ _ _ _ e) (by decide) (by decide)
  obtain ⟨v', U, e'⟩ := r_act (a := a) (n := b) (b := d) hD.vs hD.rg
  exact ⟨v, D, v', U, e, e', g_WK_d hD (fr_X12_act _ _ _ _ e') (by decide) (by decide)⟩
theorem w_silent {M : gj_M} {a b : Int} (h : g_WK M M) : ∃ v D v' U, F_X11_silent a b M = some (v, D) ∧ F_X12_silent a b D = some (v', U) ∧ g_WK U U := by
  obtain ⟨v, D, e⟩ := c_silent (a := a) (n := b) h.vs.c4
  have hD : g_WK D D := g_WK_d h (fr_X11_silent _ _ _ e) (by decide) (by decide)
  obtain ⟨v', U, e'⟩ := r_silent (a := a) (n := b) hD.vs hD.rg
  exact ⟨v, D, v', U, e, e', g_WK_d hD (fr_X12_silent _ _ _ e') (by decide) (by decide)⟩
theorem w_bar {M : gj_M} {a b d f : Int} (h : g_WK M M) : ∃ v D v' U, F_X11_bar a b d f M = some (v, D) ∧ F_X12_bar a b d f D = some (v', U) ∧ g_WK U U := by
  obtain ⟨v, D, e⟩ := c_bar (a := a) (b := b) (m := d) (n := f) h.vs.c4
  have hD : g_WK D D := g_WK_d h (fr_X11_bar _ _ _ _ _ e) (by decide) (by decide)
  obtain ⟨v', U, e'⟩ := r_bar (a := a) (b := b) (m := d) (n := f) hD.vs hD.rg
  exact ⟨v, D, v', U, e, e', g_WK_d hD (fr_X12_bar _ _ _ _ _ e') (by decide) (by decide)⟩
theorem w_price {M : gj_M} {a b : Int} (h : g_WK M M) : ∃ v D v' U, F_X11_price a b M = some (v, D) ∧ F_X12_price a b D = some (v', U) ∧ g_WK U U := by
  obtain ⟨v, D, e⟩ := c_price (a := a) (n := b) h.vs.c4
  have hD : g_WK D D := g_WK_d h (fr_X11_price _ _ _ e) (by decide) (by decide)
  obtain ⟨v', U, e'⟩ := r_price (a := a) (n := b) hD.vs hD.rg
  exact ⟨v, D, v', U, e, e', g_WK_d hD (fr_X12_price _ _ _ e') (by decide) (by decide)⟩
theorem w_waits {M : gj_M} {a b d : Int} (h : g_WK M M) : ∃ v D v' U, F_X11_waits a b d M = some (v, D) ∧ F_X12_waits a b d D = some (v', U) ∧ g_WK U U := by
  obtain ⟨v, D, e⟩ := c_waits (a := a) (b := b) (n := d) h.vs.c4
  have hD : g_WK D D := g_WK_d h (fr_X11_waits _ _ _ _ e) (by decide) (by decide)
  obtain ⟨v', U, e'⟩ := r_waits (a := a) (b := b) (n := d) hD.vs hD.rg
  exact ⟨v, D, v', U, e, e', g_WK_d hD (fr_X12_waits _ _ _ _ e') (by decide) (by decide)⟩
theorem w_green {M : gj_M} {a b : Int} (h : g_WK M M) : ∃ v D v' U, F_X11_green a b M = some (v, D) ∧ F_X12_green a b D = some (v', U) ∧ g_WK U U := by
  obtain ⟨v, D, e⟩ := c_green (M := M) (w := a) (a := b)
  have hD : g_WK D D := g_WK_d h (fr_X11_green _ _ _ e) (by decide) (by decide)
  obtain ⟨v', U, e'⟩ := r_green (w := a) (a := b) hD.vs (fun q => (hD.rg q).rs)
  exact ⟨v, D, v', U, e, e', g_WK_d hD (fr_X12_green _ _ _ e') (by decide) (by decide)⟩
theorem w_blocks {M : gj_M} {a : Int} (h : g_WK M M) : ∃ v D v', F_X11_blocks a M = some (v, D) ∧ F_X12_blocks a D = some v' ∧ g_WK D D := by
  obtain ⟨v, D, e⟩ := c_blocks (k := a) h.vs.c4
  have hD : g_WK D D := g_WK_d h (fr_X11_blocks _ _ e) (by decide) (by decide)
  obtain ⟨v', e'⟩ := r_blocks (k := a) hD.vs.v hD.rg
  exact ⟨v, D, v', e, e', hD⟩
theorem w_parents {M : gj_M} {a : Int} (h : g_WK M M) : ∃ v v' U, F_X11_parents a M = some v ∧ F_X12_parents a M = some (v', U) ∧ g_WK U U := by
  obtain ⟨v, e⟩ := c_parents (C := M) (a := a)
  obtain ⟨v', U, e'⟩ := r_parents (a := a) h.vs h.rg
  exact ⟨v, v', U, e, e', g_WK_d h (fr_X12_parents _ _ e') (by decide) (by decide)⟩
theorem w_never {M : gj_M} {a : Int} (h : g_WK M M) : ∃ v v' U, F_X11_never a M = some v ∧ F_X12_never a M = some (v', U) ∧ g_WK U U := by
  obtain ⟨v, e⟩ := c_never (C := M) (a := a)
  obtain ⟨v', U, e'⟩ := r_never (w := a) h.vs.v h.rg
  exact ⟨v, v', U, e, e', g_WK_d h (fr_X12_never _ _ e') (by decide) (by decide)⟩
theorem w_pairs {M : gj_M} {a b : Int} (h : g_WK M M) : ∃ v v', F_X11_pairs a b M = some v ∧ F_X12_pairs a b M = some v' := by
  obtain ⟨v, e⟩ := c_pairs (C := M) (a := a) (b := b)
  obtain ⟨v', e'⟩ := r_pairs (m := a) (w := b) h.vs.v h.rg
  exact ⟨v, v', e, e'⟩
theorem w_life {M : gj_M} {a b : Int} (h : g_WK M M) : ∃ v D v' U, F_X11_life a b M = some (v, D) ∧ F_X12_life a b D = some (v', U) ∧ g_WK U U := by
  obtain ⟨v, D, e⟩ := c_life (C := M) (a := a) (b := b)
  have hD : g_WK D D := g_WK_d h (fr_X11_life _ _ _ e) (by decide) (by decide)
  obtain ⟨v', U, e', u1, u2, u3⟩ := r_life (n := a) (w := b) hD.vs.v hD.rg
  have f := fr_X12_life _ _ _ e'
  obtain ⟨h1, h2, h3, h4⟩ := hD
  refine ⟨v, D, v', U, e, e', g_WK_lz (D := D) ⟨g_TX_s h1 rfl rfl (f 79 2 (by decide) (by decide)) (g_fr_row [81] f (by decide) 81 rfl (by decide)), g_WB_fr h2 (gj_Fr.rf (os := []) (ps := [])) f (by decide) (by decide), fun q => ?_, ?_⟩ (g_lo79 f (by decide))⟩
  · have e18 : U 79 18 = D 79 18 := f 79 18 (by decide) (by decide)
    rw [e18] at q
    have g := h3 q
    exact g.ch (fun z hz => g_fr_row [83, 86, 89, 92, 95, 98, 101] f (by decide) z (by rcases hz with e | e | e | e | e | e | e <;> rw [e] <;> rfl) (by omega)) (g_MT_s g.2.1 (g_fr_row [108] f (by decide) 108 rfl (by decide)) (g_fr_row [101] f (by decide) 101 rfl (by decide))) (g_NW_s g.2.2 u1 u2)
  · have e29 : U 79 29 = D 79 29 := f 79 29 (by decide) (by decide)
    rw [e29]
    exact h4
theorem r_seed {M : gj_M} {a : Int} : ∃ v N, F_X12_seed a M = some (v, N) := by
  refine k_cpo2 (fun P done => ?_)
  unfold F_X12_seed
  rw [r_deny (by decide), gj_bnd2_s]
  exact k_letI (k_ite (fun _ => done _ _) (fun _ => k_let (done _ _)))
theorem w_join {M : gj_M} {a b : Int} (h : g_WK M M) : ∃ v' U, F_X12_join a b (f_X11_join a b M).2 = some (v', U) ∧ g_WK U U := by
  have hD : g_WK (f_X11_join a b M).2 (f_X11_join a b M).2 := g_WK_d h (fr_X11_join a b) (by decide) (by decide)
  generalize (f_X11_join a b M).2 = D at *
  obtain ⟨v', U, e', u⟩ := r_join (a := a) (b := b) hD.vs hD.rg
  have f := fr_X12_join _ _ _ e'
  obtain ⟨h1, h2, h3, h4⟩ := hD
  refine ⟨v', U, e', g_WK_lz (D := D) ⟨g_TX_s h1 rfl rfl (f 79 2 (by decide) (by decide)) (g_fr_row [81] f (by decide) 81 rfl (by decide)), g_WB_fr h2 (gj_Fr.rf (os := []) (ps := [])) f (by decide) (by decide), fun q => u ?_, ?_⟩ (g_lo79 f (by decide))⟩
  · have e18 : U 79 18 = D 79 18 := f 79 18 (by decide) (by decide)
    rw [e18] at q
    exact q
  · have e29 : U 79 29 = D 79 29 := f 79 29 (by decide) (by decide)
    rw [e29]
    exact h4
theorem w_part {M : gj_M} {a : Int} (h : g_WK M M) : ∃ v' U, F_X12_part a (f_X11_part a M).2 = some (v', U) ∧ g_WK U U := by
  have hD : g_WK (f_X11_part a M).2 (f_X11_part a M).2 := g_WK_d h (fr_X11_part a) (by decide) (by decide)
  generalize (f_X11_part a M).2 = D at *
  obtain ⟨v', U, e', u⟩ := r_part (a := a) hD.vs hD.rg
  have f := fr_X12_part _ _ e'
  obtain ⟨h1, h2, h3, h4⟩ := hD
  refine ⟨v', U, e', g_WK_lz (D := D) ⟨g_TX_s h1 rfl rfl (f 79 2 (by decide) (by decide)) (g_fr_row [81] f (by decide) 81 rfl (by decide)), g_WB_fr h2 (gj_Fr.rf (os := []) (ps := [])) f (by decide) (by decide), fun q => u ?_, ?_⟩ (g_lo79 f (by decide))⟩
  · have e18 : U 79 18 = D 79 18 := f 79 18 (by decide) (by decide)
    rw [e18] at q
    exact q
  · have e29 : U 79 29 = D 79 29 := f 79 29 (by decide) (by decide)
    rw [e29]
    exact h4
