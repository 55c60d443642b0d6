/-! PURE: the weak relation is kept, and the answers agree: way, seed, feed, end, fault, village, may, image, on -/
theorem g_RGf {D U : gj_M} {os : List Int} {ps : List (Int × Int)} (h : D 79 18 = 1 → g_RG D) (f : gj_Fr os ps D U) (ho : (os.all (fun z => !(g_rr.contains z)) && ps.all (fun q => !(g_rr.contains q.1))) = true) (h18 : U 79 18 = D 79 18) : U 79 18 = 1 → g_RG U := fun q => g_RG_fr (h (by rw [← h18]; exact q)) f ho
theorem w_way {M : gj_M} {a : Int} (h : g_WK M M) : ∃ v D U, f_X11_way a M = (v, D) ∧ F_X12_way a D = some (v, U) ∧ g_WK U U := by
  by_cases c : 0 ≤ a ∧ a ≤ 3
  · refine ⟨1, gj_up M 21 1 a, gj_up (gj_up M 21 1 a) 79 28 a, ?_, ?_, ?_⟩
    · unfold f_X11_way
      rw [if_neg (by omega), if_pos c.2]
      rfl
    · unfold F_X12_way
      dsimp only [gj_letI]
      rw [g_in1 c.1 c.2, if_neg (by decide)]
      rfl
    · obtain ⟨h1, h2, h3, h4⟩ := h
      have q : ∀ z i, ¬ (z = 21 ∧ i = 1) → ¬ (z = 79 ∧ i = 28) → gj_up (gj_up M 21 1 a) 79 28 a z i = M z i := fun z i x y => by
        unfold gj_up
        rw [if_neg y, if_neg x]
      have e1 : gj_up (gj_up M 21 1 a) 79 28 a 21 1 = a := by rw [gj_up_z (by decide), gj_up_eq]
      have e2 : gj_up (gj_up M 21 1 a) 79 28 a 79 28 = a := gj_up_eq
      generalize gj_up (gj_up M 21 1 a) 79 28 a = U at *
      refine ⟨g_TX_s h1 (funext fun i => q 1 i (by omega) (by omega)) (funext fun i => q 2 i (by omega) (by omega)) (q 79 2 (by omega) (by omega)) (funext fun i => q 81 i (by omega) (by omega)), g_WB_g h2 (fun z e => funext fun i => q z i ?_ ?_) (g_CK_s h2.2.2.2.2.1 (funext fun i => q 26 i (by omega) (by omega)) (funext fun i => q 27 i (by omega) (by omega))) ?_ ?_ (fun z e => funext fun i => q z i ?_ ?_) (q 79 18 (by omega) (by omega)), fun v => ?_, ?_⟩
      · rintro ⟨x, -⟩
        rw [x] at e
        exact absurd e (by decide)
      · rintro ⟨x, -⟩
        rw [x] at e
        exact absurd e (by decide)
      · rw [q 21 0 (by omega) (by omega), q 79 27 (by omega) (by omega)]
        exact h2.2.2.1
      · rw [e1, e2]
        exact ⟨rfl, c.1, c.2⟩
      · rintro ⟨x, -⟩
        rw [x] at e
        exact absurd e (by decide)
      · rintro ⟨x, -⟩
        rw [x] at e
        exact absurd e (by decide)
      · rw [q 79 18 (by omega) (by omega)] at v
        refine g_RG_s (h3 v) (fun z e => funext fun i => q z i ?_ ?_)
        · rintro ⟨x, -⟩
          rw [x] at e
          exact absurd e (by decide)
        · rintro ⟨x, -⟩
          rw [x] at e
          exact absurd e (by decide)
      · rw [q 79 29 (by omega) (by omega)]
        exact h4
  · refine ⟨0, gj_up M 78 0 (gj_w (M 78 0 + 1)), gj_up (gj_up M 78 0 (gj_w (M 78 0 + 1))) 80 0 (gj_w (gj_up M 78 0 (gj_w (M 78 0 + 1)) 80 0 + 1)), ?_, ?_, ?_⟩
    · unfold f_X11_way gj_let2
      rw [c_refuse (by decide)]
      by_cases d : a < 0
      · rw [if_pos d]
      · rw [if_neg d, if_neg (by omega)]
    · unfold F_X12_way
      dsimp only [gj_letI]
      rw [g_in0 c, if_pos rfl, r_deny (by decide), gj_bnd2_s]
    · have f : gj_Fr [78, 80] [] M (gj_up (gj_up M 78 0 (gj_w (M 78 0 + 1))) 80 0 (gj_w (gj_up M 78 0 (gj_w (M 78 0 + 1)) 80 0 + 1))) := (gj_Fr.rf.up (by decide)).up (by decide)
      exact g_WK_d h f (by decide) (by decide)
theorem w_seed {M : gj_M} {a : Int} (h : g_WK M M) : ∃ v D U, f_X11_seed a M = (v, D) ∧ F_X12_seed a D = some (v, U) ∧ g_WK U U := by
  by_cases c : 0 ≤ a ∧ a ≤ 1000000
  · refine ⟨1, gj_up M 21 2 a, gj_up (gj_up M 21 2 a) 79 30 a, ?_, ?_, ?_⟩
    · unfold f_X11_seed
      rw [if_neg (by omega), if_pos c.2]
      rfl
    · unfold F_X12_seed
      dsimp only [gj_letI]
      rw [g_in1 c.1 c.2, if_neg (by decide)]
      rfl
    · have f : gj_Fr [] [(21, 2), (79, 30)] M (gj_up (gj_up M 21 2 a) 79 30 a) := (gj_Fr.rf.up (by decide)).up (by decide)
      exact g_WK_d h f (by decide) (by decide)
  · refine ⟨0, gj_up M 78 2 (gj_w (M 78 2 + 1)), gj_up (gj_up M 78 2 (gj_w (M 78 2 + 1))) 80 2 (gj_w (gj_up M 78 2 (gj_w (M 78 2 + 1)) 80 2 + 1)), ?_, ?_, ?_⟩
    · unfold f_X11_seed gj_let2
      rw [c_refuse (by decide)]
      by_cases d : a < 0
      · rw [if_pos d]
      · rw [if_neg d, if_neg (by omega)]
    · unfold F_X12_seed
      dsimp only [gj_letI]
      rw [g_in0 c, if_pos rfl, r_deny (by decide), gj_bnd2_s]
    · have f : gj_Fr [78, 80] [] M (gj_up (gj_up M 78 2 (gj_w (M 78 2 + 1))) 80 2 (gj_w (gj_up M 78 2 (gj_w (M 78 2 + 1)) 80 2 + 1))) := (gj_Fr.rf.up (by decide)).up (by decide)
      exact g_WK_d h f (by decide) (by decide)
theorem w_end0 {C R : gj_M} {a : Int} (h : g_TX C R) : ∃ x U, (f_X11_end a C).1 = x ∧ F_X12_end a R = some (x, U) ∧ g_TX (f_X11_end a C).2 U := by
  obtain ⟨t1, ⟨t2, t3, t4⟩, t5⟩ := id h
  unfold f_X11_end F_X12_end f_X12_in f_X11_refuse F_X12_deny f_X9_length f_X9_cutTo
  dsimp only [gj_letI]
  have bad : g_TX (gj_up C 78 2 (gj_w (C 78 2 + 1))) (gj_up R 80 2 (gj_w (R 80 2 + 1))) := g_TX_s h (funext fun _ => gj_up_z (by decide)) (funext fun _ => gj_up_z (by decide)) (gj_up_z (by decide)) (funext fun _ => gj_up_z (by decide))
  rw [f_put_in (show 0 ≤ (2 : Int) ∧ (2 : Int) < 3 by decide), f_at_in (show 0 ≤ (2 : Int) ∧ (2 : Int) < 3 by decide), gj_chkp (show 0 ≤ (2 : Int) ∧ (2 : Int) < 3 by decide), gj_chkp (show 0 ≤ (2 : Int) ∧ (2 : Int) < 3 by decide)]
  by_cases c : a < 0
  · rw [if_pos c, if_pos c, if_pos rfl]
    exact ⟨0, _, rfl, rfl, bad⟩
  · rw [if_neg c, if_neg c, if_neg c]
    by_cases d : a ≤ C 1 1
    · rw [if_pos d, if_neg (show ¬ R 79 2 < a by omega), if_neg (show ¬ (1 : Int) = 0 by decide), if_neg (show ¬ C 1 1 < a by omega)]
      exact ⟨1, _, rfl, rfl, g_TX_cut h (by omega) d⟩
    · rw [if_neg d, if_pos (show R 79 2 < a by omega), if_pos rfl]
      exact ⟨0, _, rfl, rfl, bad⟩
theorem w_end {M : gj_M} {a : Int} (h : g_WK M M) : ∃ U, F_X12_end a (f_X11_end a M).2 = some ((f_X11_end a M).1, U) ∧ g_WK U U := by
  have f := fr_X11_end a (M := M)
  have h1 : g_WK M (f_X11_end a M).2 := g_WK_rz h (g_hi79 f (by decide))
  obtain ⟨x, U, e1, e2, e3⟩ := w_end0 (a := a) h1.1
  generalize (f_X11_end a M).2 = D at *
  have f' := fr_X12_end a _ e2
  rw [e1]
  refine ⟨U, e2, g_WK_lz (D := D) ⟨e3, g_WB_fr h1.2.1 f f' (by decide) (by decide), g_RGf h1.2.2.1 f' (by decide) (f' 79 18 (by decide) (by decide)), ?_⟩ (g_lo79 f' (by decide))⟩
  have e29 : U 79 29 = D 79 29 := f' 79 29 (by decide) (by decide)
  rw [e29]
  exact h1.2.2.2
theorem w_feed0 {C R : gj_M} {a b c d e : Int} (h : g_TX C R) : ∃ x D U, F_X11_feed a b c d e C = some (x, D) ∧ F_X12_feed a b c d e R = some (x, U) ∧ g_TX D U := by
  have t1 := h.1
  have t2 := h.2.1.1
  have t3 := h.2.1.2.1
  unfold F_X11_feed F_X12_feed f_X9_hasRoomFor f_X9_length
  dsimp only [gj_letI]
  rw [gj_wle (x := C 1 1 + 20) (by omega) (by omega), gj_wle (x := R 79 2 + 20) (by omega) (by omega)]
  by_cases q : 500 < C 1 1 + 20
  · rw [if_pos q, if_pos rfl, if_neg (show ¬ R 79 2 + 20 ≤ 500 by omega)]
    unfold f_X11_refuse F_X12_refuse
    rw [f_put_in (show 0 ≤ (1 : Int) ∧ (1 : Int) < 3 by decide), f_at_in (show 0 ≤ (1 : Int) ∧ (1 : Int) < 3 by decide), gj_chkp (show 0 ≤ (1 : Int) ∧ (1 : Int) < 3 by decide), gj_chkp (show 0 ≤ (1 : Int) ∧ (1 : Int) < 3 by decide)]
    have bad : g_TX (gj_up C 78 1 (gj_w (C 78 1 + 1))) (gj_up R 80 1 (gj_w (R 80 1 + 1))) := g_TX_s h (funext fun _ => gj_up_z (by decide)) (funext fun _ => gj_up_z (by decide)) (gj_up_z (by decide)) (funext fun _ => gj_up_z (by decide))
    exact ⟨-1, gj_up C 78 1 (gj_w (C 78 1 + 1)), gj_up R 80 1 (gj_w (R 80 1 + 1)), rfl, rfl, bad⟩
  · rw [if_neg q, if_neg (show ¬ (1 : Int) = 0 by decide), if_pos (show R 79 2 + 20 ≤ 500 by omega)]
    obtain ⟨C1, R1, x1, y1, h1, l1⟩ := p_feed4 (a := a) h (by omega)
    obtain ⟨C2, R2, x2, y2, h2, l2⟩ := p_feed4 (a := b) h1 (by omega)
    obtain ⟨C3, R3, x3, y3, h3, l3⟩ := p_feed4 (a := c) h2 (by omega)
    obtain ⟨C4, R4, x4, y4, h4, l4⟩ := p_feed4 (a := d) h3 (by omega)
    obtain ⟨C5, R5, x5, y5, h5, l5⟩ := p_feed4 (a := e) h4 (by omega)
    rw [x1, y1, gj_bnd_s, gj_bnd_s, x2, y2, gj_bnd_s, gj_bnd_s, x3, y3, gj_bnd_s, gj_bnd_s, x4, y4, gj_bnd_s, gj_bnd_s, x5, y5, gj_bnd_s, gj_bnd_s]
    exact ⟨C5 1 1, C5, R5, rfl, by rw [h5.1], h5⟩
theorem w_feed {M : gj_M} {a b c d e : Int} (h : g_WK M M) : ∃ v D U, F_X11_feed a b c d e M = some (v, D) ∧ F_X12_feed a b c d e D = some (v, U) ∧ g_WK U U := by
  obtain ⟨v, D, -, e1, -, -⟩ := w_feed0 (a := a) (b := b) (c := c) (d := d) (e := e) h.1
  have f := fr_X11_feed _ _ _ _ _ _ e1
  have h1 : g_WK M D := g_WK_rz h (g_hi79 f (by decide))
  obtain ⟨v2, D2, U, e2, e3, e4⟩ := w_feed0 (a := a) (b := b) (c := c) (d := d) (e := e) h1.1
  rw [e1] at e2
  obtain ⟨rfl, rfl⟩ : v = v2 ∧ D = D2 := by simpa using e2
  have f' := fr_X12_feed _ _ _ _ _ _ e3
  refine ⟨v, D, U, e1, e3, g_WK_lz (D := D) ⟨e4, g_WB_fr h1.2.1 f f' (by decide) (by decide), g_RGf h1.2.2.1 f' (by decide) (f' 79 18 (by decide) (by decide)), ?_⟩ (g_lo79 f' (by decide))⟩
  have e29 : U 79 29 = D 79 29 := f' 79 29 (by decide) (by decide)
  rw [e29]
  exact h1.2.2.2
theorem w_fault {M : gj_M} {c : Int} (hc : 136 ≤ c) (h : g_WK M M) : ∃ v D U, F_X11_fault M = some (v, D) ∧ F_X12_fault c D = some (v, (c + 1, U)) ∧ g_WK U U := by
  obtain ⟨v, D, -, e1, -, f, -⟩ := p_fault hc h.1.1 h.1.2.1 h.1.2.2
  have h1 : g_WK M D := g_WK_rz h (g_hi79 f (by decide))
  obtain ⟨v2, D2, U, e2, e3, -, f'⟩ := p_fault hc h1.1.1 h1.1.2.1 h1.1.2.2
  rw [e1] at e2
  obtain ⟨rfl, rfl⟩ : v = v2 ∧ D = D2 := by simpa using e2
  have hD : g_WK D D := g_WK_d h f (by decide) (by decide)
  exact ⟨v, D, U, e1, e3, g_WK_d hD f' (by decide) (by decide)⟩
theorem g_W1_lo {U : gj_M} {z i : Int} (h : z < 79) : g_W1 U z i = U z i := by
  unfold g_W1
  rw [gj_up_z (by omega), gj_up_z (by omega), gj_up_z (by omega), gj_up_z (by omega), gj_up_z (by omega), gj_up_z (by omega), g_W0_z (by omega)]
theorem r_villageLo {C R : gj_M} {c v : Int} {W : gj_M} (hc : 136 ≤ c) (tx : C 1 1 = R 79 2) (ct : g_CT C) (tt : g_TT (C 2) (R 81) (C 1 1)) (e : F_X12_village c R = some (v, (c + 1, W))) : ∀ z i, z < 79 → W z i = R z i := by
  obtain ⟨x, D, U, e1, e2, e3, -⟩ := p_read hc tx ct tt
  have f := fr_X12_reads hc _ e2
  have fz : ∀ z i, z < 79 → U z i = R z i := g_lo79 f (by decide)
  by_cases hx : x = -1
  · rw [hx] at e3
    obtain ⟨W2, w1, -, -, -, w5⟩ := p_village_R e2 e3
    rw [w1] at e
    have e : W2 = W := by
      have := (Prod.mk.inj (Option.some.inj e)).2
      exact (Prod.mk.inj this).2
    intro z i hz
    rw [← e, w5 z (by omega) (by omega), g_W1_lo hz]
    exact fz z i hz
  · have q : F_X12_village c R = some (-1, (c + 1, gj_up U 80 2 (gj_w (U 80 2 + 1)))) := by
      unfold F_X12_village F_X12_refuse
      rw [e2, gj_bnd2_s, if_neg (by rw [e3]; exact hx), gj_chkp (by decide), gj_chkp (by decide), gj_let_s]
      rfl
    rw [q] at e
    have e : gj_up U 80 2 (gj_w (U 80 2 + 1)) = W := by
      have := (Prod.mk.inj (Option.some.inj e)).2
      exact (Prod.mk.inj this).2
    intro z i hz
    rw [← e, gj_up_z (by omega)]
    exact fz z i hz
theorem w_village {M : gj_M} {c : Int} (hc : 136 ≤ c) (h : g_WK M M) : ∃ v D U, F_X11_village M = some (v, D) ∧ F_X12_village c D = some (v, (c + 1, U)) ∧ g_WK U U := by
  obtain ⟨v, D, e1⟩ : ∃ v D, F_X11_village M = some (v, D) := by
    rcases p_village hc h.1.1 h.1.2.1 h.1.2.2 with ⟨D, U, e, -⟩ | ⟨v, V, W, e, -⟩
    · exact ⟨_, _, e⟩
    · exact ⟨_, _, e⟩
  have fC : gj_Fr _ _ M D := fr_X11_village _ e1
  have h1 : g_WK M D := g_WK_rz h (g_hi79 fC (by decide))
  rcases p_village hc h1.1.1 h1.1.2.1 h1.1.2.2 with ⟨A, U, e2, e3, f2, f3⟩ | ⟨v2, V, W, e2, e3, nv⟩
  · rw [e1] at e2
    obtain ⟨rfl, eD⟩ : v = -1 ∧ D = gj_up A 78 2 (gj_w (A 78 2 + 1)) := by simpa using e2
    have fD : gj_Fr [4, 5, 6, 7, 8, 11, 12, 13, 78] [(3, 0), (3, 1), (3, 2), (3, 3), (3, 4), (3, 5), (3, 6), (3, 7), (3, 8), (3, 9), (10, 5), (10, 6), (10, 7), (10, 8), (10, 9)] M D := by
      rw [eD]
      exact (f2.wide (by decide +kernel)).up (by decide +kernel)
    have fU : gj_Fr [80, 84, 87, 90, 93, 96, 99, 102, 103, 104, 105, 106] [(79, 3), (79, 4), (79, 5), (79, 6)] D (gj_up U 80 2 (gj_w (U 80 2 + 1))) := (f3.wide (by decide +kernel)).up (by decide +kernel)
    have hD : g_WK D D := g_WK_d h fD (by decide) (by decide)
    exact ⟨-1, D, _, e1, e3, g_WK_d hD fU (by decide) (by decide)⟩
  · rw [e1] at e2
    obtain ⟨rfl, rfl⟩ : v = v2 ∧ D = V := by simpa using e2
    have lo := r_villageLo hc h1.1.1 h1.1.2.1 h1.1.2.2 e3
    obtain ⟨n1, ⟨n2, n3, n4⟩, ⟨n5, n6, n7, n8, n9, n10⟩, ⟨n11, n12, n13⟩, n14, n15, n16⟩ := nv
    refine ⟨v, D, W, e1, e3, g_WK_lz (D := D) ⟨⟨by rw [n2, n3], ⟨by omega, by omega, fun i a b => by omega⟩, fun i a b => by omega⟩, ⟨Or.inr ⟨n4, n1⟩, ?_, ?_, fun k a b => ?_, fun j a b => ?_, fun k a b => ?_⟩, fun _ => ⟨⟨D, n1⟩, fun j a b => Or.inl (n14 j a b).2.1, fun j a b => ?_⟩, ?_⟩ lo⟩
    · rw [n6, n9]; exact ⟨rfl, by decide, by decide⟩
    · rw [n5, n8]; exact ⟨rfl, by decide⟩
    · have := n16 k a b
      rw [this.1, this.2]
      exact ⟨rfl, fun q => absurd rfl q⟩
    · have := (n15 j a b).1
      rw [this.1, this.2.1]
      exact ⟨by decide, by decide⟩
    · have q := h.2.1.2.2.2.2.2 k a b
      unfold g_CI at *
      rcases g_k3 a b with e | e | e <;> rw [e] at q ⊢
      · rw [g_fr_row [52 + 10 * 0] fC (by decide) _ (by decide) (by decide), g_fr_row [53 + 10 * 0] fC (by decide) _ (by decide) (by decide)]; exact q
      · rw [g_fr_row [52 + 10 * 1] fC (by decide) _ (by decide) (by decide), g_fr_row [53 + 10 * 1] fC (by decide) _ (by decide) (by decide)]; exact q
      · rw [g_fr_row [52 + 10 * 2] fC (by decide) _ (by decide) (by decide), g_fr_row [53 + 10 * 2] fC (by decide) _ (by decide) (by decide)]; exact q
    · have := (n15 j a b).2
      rw [this.1, this.2.1]
      exact ⟨by decide, by decide⟩
    · rw [n13]; exact ⟨by decide, by decide⟩
theorem w_may {M : gj_M} {a c : Int} (hc : 136 ≤ c) (h : g_WK M M) : ∃ v D d U, F_X11_may a M = some (v, D) ∧ F_X12_may_ a c D = some (v, (d, U)) ∧ 136 ≤ d ∧ g_WK U U := by
  by_cases q : (1 ≤ a ∧ a ≤ 50) ∧ M 79 18 = 1
  · obtain ⟨ha, v18⟩ := q
    have hp : g_PL M M := by
      rcases h.vs with ⟨x, -⟩ | x
      · omega
      · exact x.2
    have hd : 1 ≤ M 14 9 ∧ M 14 9 ≤ 4 := by
      obtain ⟨e, q⟩ := hp.hd 7 (by decide) (by decide)
      have e : M 14 9 = M 98 7 := e
      unfold g_hb at q
      rw [e]
      exact ⟨q.2.2 (Or.inr rfl), q.2.1⟩
    obtain ⟨D, e1, d1, d2, d3⟩ := c_mayOf ha (by rw [h.vs.st]; omega) h.vs.c4 hd h.2.1.2.2.2.2.1 (by rw [h.2.1.2.2.1.1]; exact h.2.1.2.2.1.2)
    have h1 : g_WK M D := g_WK_rz h (g_hi79 d3 (by decide))
    have r18 : D 79 18 = 1 := by rw [g_hi79 d3 (by decide) 79 18 (by decide) (by decide)]; exact v18
    have y : M 21 0 = D 79 27 := h1.2.1.2.2.1.1
    obtain ⟨d, U, e2, u1, u2, u3, u4, u5⟩ := r_mayOf hc r18 ha (h1.rg r18) h1.2.2.2 h1.2.1.2.1.2.1 h1.2.1.2.2.1.2
    have e28 : U 79 28 = D 79 28 := u4 79 28 (by decide) (by decide)
    have e18 : U 79 18 = D 79 18 := u4 79 18 (by decide) (by decide)
    rw [y] at e1
    refine ⟨_, D, d, U, e1, e2, u1, g_WK_lz (D := D) ⟨g_TX_s h1.1 (g_fr_row [1] d3 (by decide) 1 rfl (by decide)) (g_fr_row [2] d3 (by decide) 2 rfl (by decide)) (u4 79 2 (by decide) (by decide)) (g_fr_row [81] u4 (by decide) 81 rfl (by decide)), g_WB_g h1.2.1 (fun z e => g_fr_row g_wx d3 (by decide) z e (by have := g_wx_lo e; omega)) d1 ?_ ?_ (fun z e => g_fr_row g_wr u4 (by decide) z e (g_wr_136 e)) e18, fun _ => u2, u3⟩ (g_lo79 u4 (by decide))⟩
    · rw [d2, u5, y, g_ww]
      exact ⟨rfl, rfl⟩
    · rw [e28, d3 21 1 (by decide) (by decide)]
      exact h1.2.1.2.1
  · have no : ¬ (1 ≤ a ∧ a ≤ 50) ∨ f_X5_stands_14 M = 0 := by
      rw [h.vs.st]
      have := h.vs.v
      omega
    have e1 := c_mayNo (C := M) no
    have e18 : gj_up M 78 2 (gj_w (M 78 2 + 1)) 79 18 = M 79 18 := gj_up_z (by decide)
    have e2 := r_mayNo (R := gj_up M 78 2 (gj_w (M 78 2 + 1))) (a := a) (c := c) (by rw [e18]; have := h.vs.v; omega)
    have f : gj_Fr [78, 80] [] M (gj_up (gj_up M 78 2 (gj_w (M 78 2 + 1))) 80 2 (gj_w (gj_up M 78 2 (gj_w (M 78 2 + 1)) 80 2 + 1))) := (gj_Fr.rf.up (by decide)).up (by decide)
    exact ⟨-1, _, c, _, e1, e2, hc, g_WK_d h f (by decide) (by decide)⟩
