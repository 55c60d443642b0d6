/-! PURE: the full relation is kept by Mays, and the answers agree -/
theorem x_may {M : gj_M} {a c : Int} (hc : 136 ≤ c) (h : g_FK M M) : ∃ v D d U, F_X11_may a M = some (v, D) ∧ F_X12_may_ a c D = some (v, (d, U)) ∧ 136 ≤ d ∧ g_FK U U := by
  obtain ⟨v, D, d, U, e1, e2, hd, hU⟩ := w_may (a := a) hc h.1
  refine ⟨v, D, d, U, e1, e2, hd, hU, ?_⟩
  by_cases q : (1 ≤ a ∧ a ≤ 50) ∧ M 79 18 = 1
  · obtain ⟨ha, v18⟩ := q
    have hp : g_PL M M := by
      rcases h.1.vs with ⟨x, -⟩ | x
      · omega
      · exact x.2
    have hd : 1 ≤ M 14 9 ∧ M 14 9 ≤ 4 := by
      obtain ⟨e, q⟩ := hp.hd 7 (by decide) (by decide)
      have e : M 14 9 = M 98 7 := e
      unfold g_hb at q
      rw [e]
      exact ⟨q.2.2 (Or.inr rfl), q.2.1⟩
    obtain ⟨D', y1, -, -, d3⟩ := c_mayOf ha (by rw [h.1.vs.st]; omega) h.1.vs.c4 hd h.1.2.1.2.2.2.2.1 (by rw [h.1.2.1.2.2.1.1]; exact h.1.2.1.2.2.1.2)
    obtain ⟨-, rfl⟩ := g_some2 e1 y1
    have hi := g_hi79 d3 (by decide)
    have h1 : g_WK M D := g_WK_rz h.1 hi
    have r18 : D 79 18 = 1 := by rw [hi 79 18 (by decide) (by decide)]; exact v18
    obtain ⟨d', U', y2, -, -, -, u4, -⟩ := r_mayOf hc r18 ha (h1.rg r18) h1.2.2.2 h1.2.1.2.1.2.1 h1.2.1.2.2.1.2
    obtain ⟨-, y3⟩ := g_some2 e2 y2
    obtain ⟨-, rfl⟩ : d = d' ∧ U = U' := ⟨(Prod.mk.inj y3).1, (Prod.mk.inj y3).2⟩
    have lo := g_lo79 u4 (by decide)
    have hV : g_FV M D := g_FV_fr h.2.2 (gj_Fr.rf (os := []) (ps := [])) d3 rfl (by decide)
    obtain ⟨n, im⟩ := hV r18
    obtain ⟨x, D2, d2, N2, k1, k2, k3⟩ := p_mayJ n r18 ha hc
    obtain ⟨-, rfl⟩ := g_some2 e1 k1
    obtain ⟨-, y4⟩ := g_some2 e2 k2
    obtain rfl : U = N2 := (Prod.mk.inj y4).2
    refine ⟨fun i i0 i1 => ?_, fun _ => ⟨g_NO_lz k3 lo, fun k k0 k1 hk => ?_⟩⟩
    · rw [lo 78 i (by decide), g_fr_rng d3 (a := 78) (b := 78) (by decide) 78 i (by decide) (by decide) (by decide), g_fr_rng u4 (a := 80) (b := 80) (by decide) 80 i (by decide) (by decide) (by decide), g_fr_rng d3 (a := 80) (b := 80) (by decide) 80 i (by decide) (by decide) (by decide)]
      exact h.2.1 i i0 i1
    · rw [g_fr_rng u4 (a := 135) (b := 135) (by decide) 135 k (by decide) (by decide) (by decide)] at hk
      refine g_FI_s ⟨k0, k1⟩ (im k k0 k1 hk) (fun z i q => ?_) (fun z i q => ?_)
      · rw [lo z i (by omega)]
        rcases q with q | q
        · exact g_fr_rng d3 (a := 14) (b := 20) (by decide) z i q.1 q.2 (by omega)
        · exact g_fr_rng d3 (a := 47) (b := 76) (by decide) z i q.1 q.2 (by omega)
      · rcases q with q | q
        · rw [g_fr_row [83, 86, 89, 92, 95, 98, 101] u4 (by decide) z (g_7r q) (by omega)]
        · exact g_fr_rng u4 (a := 131) (b := 134) (by decide) z i q.1 q.2 (by omega)
  · have no : ¬ (1 ≤ a ∧ a ≤ 50) ∨ f_X5_stands_14 M = 0 := by
      rw [h.1.vs.st]
      have := h.1.vs.v
      omega
    have y1 := c_mayNo (C := M) no
    obtain ⟨-, rfl⟩ := g_some2 e1 y1
    have e18 : gj_up M 78 2 (gj_w (M 78 2 + 1)) 79 18 = M 79 18 := gj_up_z (by decide)
    have y2 := r_mayNo (R := gj_up M 78 2 (gj_w (M 78 2 + 1))) (a := a) (c := c) (by rw [e18]; have := h.1.vs.v; omega)
    obtain ⟨-, y3⟩ := g_some2 e2 y2
    rw [(Prod.mk.inj y3).2]
    exact g_FL_no h.2
