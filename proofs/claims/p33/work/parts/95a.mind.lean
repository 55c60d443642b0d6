/-! PURE: the two reckon alike: what both hold, and one doing -/
def g_MR (s : Int) (C R : gj_M) : Prop :=
  g_PL C R
  ∧ (C 31 5 = s ∧ R 79 35 = s ∧ C 31 6 = R 101 (g_ot s))
  ∧ (C 31 9 = R 79 36 ∧ 0 ≤ C 31 9 ∧ C 31 9 ≤ 999)
  ∧ C 31 10 = R 79 37
  ∧ (C 15 s = R 83 s ∧ 0 ≤ C 15 s ∧ C 15 s ≤ 99)
  ∧ (∀ k, 0 ≤ k → k < R 101 (g_ot s) → C 32 k = R 115 k ∧ C 33 k = R 116 k ∧ g_K (C 32 k) (C 33 k) ∧ 0 ≤ C 34 k ∧ C 34 k ≤ 9801000)
  ∧ (∀ k a b, 0 ≤ k → k < R 101 (g_ot s) → g_K a b → R 117 (25 * k + 5 * a + b) = g_sh (R 86 (4 * s + k)) (R 89 (4 * s + k)) (R 92 (4 * s + k)) a b ∧ R 118 (25 * k + 5 * a + b) = g_sh (R 86 (4 * s + k)) (R 89 (4 * s + k)) (R 92 (4 * s + k)) a b * R 98 0 + (1000 - g_sh (R 86 (4 * s + k)) (R 89 (4 * s + k)) (R 92 (4 * s + k)) a b) * R 98 1 + C 34 k)
theorem g_MR.cnt {s : Int} {C R : gj_M} (h : g_MR s C R) : 1 ≤ R 101 (g_ot s) ∧ R 101 (g_ot s) ≤ 4 := by
  have p := h.1
  have b0 := p.b0
  have b1 := p.b1
  have n0 := p.n0
  have n1 := p.n1
  rcases g_ot_01 (s := s) with e | e <;> rw [e] <;> omega
theorem g_MR_s {s : Int} {C R D U : gj_M} (h : g_MR s C R) (hc : ∀ z, 14 ≤ z → z ≤ 20 → D z = C z) (h31 : D 31 = C 31) (h32 : D 32 = C 32) (h33 : D 33 = C 33) (h34 : D 34 = C 34)
    (hr : ∀ z, z = 83 ∨ z = 86 ∨ z = 89 ∨ z = 92 ∨ z = 95 ∨ z = 98 ∨ z = 101 ∨ z = 115 ∨ z = 116 ∨ z = 117 ∨ z = 118 → U z = R z) (r35 : U 79 35 = R 79 35) (r36 : U 79 36 = R 79 36) (r37 : U 79 37 = R 79 37) : g_MR s D U := by
  obtain ⟨h1, h2⟩ := h
  refine ⟨g_PL_s h1 hc (fun z e => hr z (by omega)), ?_⟩
  rw [h31, h32, h33, h34, hc 15 (by decide) (by decide), hr 83 (by decide), hr 86 (by decide), hr 89 (by decide), hr 92 (by decide), hr 98 (by decide), hr 101 (by decide), hr 115 (by decide), hr 116 (by decide), hr 117 (by decide), hr 118 (by decide), r35, r36, r37]
  exact h2
theorem g_MR_38 {s x : Int} {C R : gj_M} (h : g_MR s C R) : g_MR s C (gj_up R 79 38 x) := g_MR_s h (fun _ _ _ => rfl) rfl rfl rfl rfl (fun z e => funext fun _ => gj_up_z (by omega)) (gj_up_i (by decide)) (gj_up_i (by decide)) (gj_up_i (by decide))
theorem g_MR_k {s k v : Int} {C R : gj_M} (h : g_MR s C R) (hk : 0 ≤ k ∧ k < R 101 (g_ot s)) (hv : 0 ≤ v ∧ v ≤ 4) : g_MR s (f_put C 32 4 k v) (gj_up R 115 k v) ∧ g_MR s (f_put C 33 4 k v) (gj_up R 116 k v) := by
  have c4 := h.cnt
  rw [f_put_in (by omega), f_put_in (by omega)]
  obtain ⟨h1, h2, h3, h4, h5, h6, h7⟩ := h
  refine ⟨⟨g_PL_s h1 (fun z a b => funext fun _ => gj_up_z (by omega)) (fun z e => funext fun _ => gj_up_z (by omega)), ?_, ?_, ?_, ?_, fun j a b => ?_, fun j x y a b c => ?_⟩, ⟨g_PL_s h1 (fun z a b => funext fun _ => gj_up_z (by omega)) (fun z e => funext fun _ => gj_up_z (by omega)), ?_, ?_, ?_, ?_, fun j a b => ?_, fun j x y a b c => ?_⟩⟩
  · rw [gj_up_z (by decide), gj_up_z (by decide), gj_up_z (by decide), gj_up_z (by decide)]; exact h2
  · rw [gj_up_z (by decide), gj_up_z (by decide)]; exact h3
  · rw [gj_up_z (by decide), gj_up_z (by decide)]; exact h4
  · rw [gj_up_z (by decide), gj_up_z (by decide)]; exact h5
  · rw [gj_up_z (by decide)] at b
    obtain ⟨e1, e2, e3, e4⟩ := h6 j a b
    rw [gj_up_if, gj_up_if, gj_up_z (by decide), gj_up_z (by decide), gj_up_z (by decide)]
    by_cases q : j = k
    · rw [if_pos q, if_pos q]; exact ⟨rfl, e2, ⟨hv, e3.2⟩, e4⟩
    · rw [if_neg q, if_neg q]; exact ⟨e1, e2, e3, e4⟩
  · rw [gj_up_z (by decide)] at b
    have q := h7 j x y a b c
    rw [gj_up_z (by decide), gj_up_z (by decide), gj_up_z (by decide), gj_up_z (by decide), gj_up_z (by decide), gj_up_z (by decide), gj_up_z (by decide), gj_up_z (by decide)]
    exact q
  · rw [gj_up_z (by decide), gj_up_z (by decide), gj_up_z (by decide), gj_up_z (by decide)]; exact h2
  · rw [gj_up_z (by decide), gj_up_z (by decide)]; exact h3
  · rw [gj_up_z (by decide), gj_up_z (by decide)]; exact h4
  · rw [gj_up_z (by decide), gj_up_z (by decide)]; exact h5
  · rw [gj_up_z (by decide)] at b
    obtain ⟨e1, e2, e3, e4⟩ := h6 j a b
    rw [gj_up_z (by decide), gj_up_z (by decide), gj_up_if, gj_up_if, gj_up_z (by decide)]
    by_cases q : j = k
    · rw [if_pos q, if_pos q]; exact ⟨e1, rfl, ⟨e3.1, hv⟩, e4⟩
    · rw [if_neg q, if_neg q]; exact ⟨e1, e2, e3, e4⟩
  · rw [gj_up_z (by decide)] at b
    have q := h7 j x y a b c
    rw [gj_up_z (by decide), gj_up_z (by decide), gj_up_z (by decide), gj_up_z (by decide), gj_up_z (by decide), gj_up_z (by decide), gj_up_z (by decide), gj_up_z (by decide)]
    exact q
theorem g_puts {C : gj_M} {z k v : Int} (h : 0 ≤ k ∧ k < 4) : f_put (f_put C z 4 k v) z 4 k (C z k) = C := by
  rw [f_put_in h, f_put_in h, gj_up_up, gj_up_id]
/-- a middle value of two -/
theorem g_avg {g v w B : Int} (hg : 0 ≤ g ∧ g ≤ 1000) (hv : -B ≤ v ∧ v ≤ B) (hw : -B ≤ w ∧ w ≤ B) : (-(1000 * B) ≤ g * v ∧ g * v ≤ 1000 * B) ∧ (-(1000 * B) ≤ (1000 - g) * w ∧ (1000 - g) * w ≤ 1000 * B) ∧ (-(1000 * B) ≤ g * v + (1000 - g) * w ∧ g * v + (1000 - g) * w ≤ 1000 * B) := by
  have B0 : 0 ≤ B := by omega
  have a1 : g * v ≤ g * B := Int.mul_le_mul_of_nonneg_left hv.2 hg.1
  have a2 : g * (-B) ≤ g * v := Int.mul_le_mul_of_nonneg_left hv.1 hg.1
  have b1 : (1000 - g) * w ≤ (1000 - g) * B := Int.mul_le_mul_of_nonneg_left hw.2 (by omega)
  have b2 : (1000 - g) * (-B) ≤ (1000 - g) * w := Int.mul_le_mul_of_nonneg_left hw.1 (by omega)
  have c1 : (1000 - g) * B = 1000 * B - g * B := Int.sub_mul 1000 g B
  have c2 : (1000 - g) * (-B) = -(1000 * B) + g * B := by rw [Int.mul_neg, c1]; omega
  have c3 : g * (-B) = -(g * B) := Int.mul_neg g B
  have d1 : 0 ≤ g * B := Int.mul_nonneg hg.1 B0
  have d2 : g * B ≤ 1000 * B := Int.mul_le_mul_of_nonneg_right hg.2 B0
  omega
theorem g_td {x B : Int} (h : -(1000 * B) ≤ x ∧ x ≤ 1000 * B) : -B ≤ x.tdiv 1000 ∧ x.tdiv 1000 ≤ B := by
  by_cases c : 0 ≤ x
  · rw [g_tdiv c]; omega
  · have e : x.tdiv 1000 = -((-x).tdiv 1000) := by rw [Int.neg_tdiv, Int.neg_neg]
    rw [e, g_tdiv (by omega)]; omega
/-- what the recursions promise -/
def g_HR (s : Int) (rc : Int → Int → Int → gj_M → Option (Int × gj_M)) (rr : Int → Int → Int → gj_M → Option (Int × gj_M)) (n : Int) : Prop :=
  ∀ (w y : Int) (C R : gj_M), g_MR s C R → g_av s w R → ∃ v x, rc (gj_w (n - 1)) w y C = some (v, C) ∧ rr w y (gj_w (n - 1)) R = some (v, gj_up R 79 38 x) ∧ -(10000000 * (n - 1)) ≤ v ∧ v ≤ 10000000 * (n - 1)
theorem p_brings {g W P ch : Int} (hg : 0 ≤ g ∧ g ≤ 1000) (hW : 0 ≤ W ∧ W ≤ 99) (hP : 0 ≤ P ∧ P ≤ 99) : 0 ≤ g * W ∧ g * W ≤ 99000 ∧ 0 ≤ (1000 - g) * P ∧ (1000 - g) * P ≤ 99000 ∧ 0 ≤ g * W + (1000 - g) * P ∧ g * W + (1000 - g) * P ≤ 99000 := by
  have m1 := g_mul hg hW
  have m2 := g_mul (a := 1000 - g) (A := 1000) (by omega) hP
  have a1 : g * W ≤ g * 99 := Int.mul_le_mul_of_nonneg_left hW.2 hg.1
  have a2 : (1000 - g) * P ≤ (1000 - g) * 99 := Int.mul_le_mul_of_nonneg_left hP.2 (by omega)
  omega
theorem p_doing {s n act w y : Int} {rc rr : Int → Int → Int → gj_M → Option (Int × gj_M)} {C R : gj_M} (s8 : 0 ≤ s ∧ s < 8) (hn : 1 ≤ n ∧ n ≤ 6) (H : g_HR s rc rr n) (h : g_MR s C R) (ha : g_av s act R) :
    ∃ v x, F_X4_doing rc act n w y C = some (v, C) ∧ F_X12_by rr w y n act R = some (v, gj_up R 79 38 x) ∧ -(10000000 * n) ≤ v ∧ v ≤ 10000000 * n := by
  have c4 := h.cnt
  obtain ⟨hp, ⟨q5, q35, q6⟩, ⟨q9, b9⟩, q10, ⟨q15, b15⟩, hk, hg⟩ := id h
  have hd0 := hp.hd 0 (by decide) (by decide)
  have hd1 := hp.hd 1 (by decide) (by decide)
  have hd2 := hp.hd 2 (by decide) (by decide)
  have hd3 := hp.hd 3 (by decide) (by decide)
  have e14_2 : C 14 2 = R 98 0 := hd0.1
  have e14_3 : C 14 3 = R 98 1 := hd1.1
  have e14_4 : C 14 4 = R 98 2 := hd2.1
  have e14_5 : C 14 5 = R 98 3 := hd3.1
  have W : 0 ≤ R 98 0 ∧ R 98 0 ≤ 99 := ⟨hd0.2.1, hd0.2.2.1⟩
  have Pq : 0 ≤ R 98 1 ∧ R 98 1 ≤ 99 := ⟨hd1.2.1, hd1.2.2.1⟩
  have Hb : 0 ≤ R 98 3 ∧ R 98 3 ≤ 99 := ⟨hd3.2.1, hd3.2.2.1⟩
  -- the core: with p paid
  have core : ∀ p : Int, 0 ≤ p ∧ p ≤ 999000 → ∃ v x, J_X4_doing_23 rc act n w y p C = some (v, C) ∧ J_X12_by_23 rr w y n act p R = some (v, gj_up R 79 38 x) ∧ -(10000000 * n) ≤ v ∧ v ≤ 10000000 * n := by
    intro p hp2
    by_cases ca : act = -1
    · obtain ⟨v, x, e1, e2, e3⟩ := H (-1) 0 C R h (Or.inl rfl)
      refine ⟨1000 * R 83 s - p + v, x, ?_, ?_, by omega, by omega⟩
      · unfold J_X4_doing_23
        rw [if_pos ca, e1, gj_bnd2_s, q5, f_at_in (by omega), q15, gj_wlle (x := 1000 * R 83 s) (by omega) (by omega), gj_wlle (x := 1000 * R 83 s - p) (by omega) (by omega), gj_wlle (by omega) (by omega)]
      · unfold J_X12_by_23
        rw [if_pos ca, q35, gj_chkp s8, e2, gj_bnd2_s, gj_wle (x := 1000 * R 83 s) (by omega) (by omega), gj_wle (x := 1000 * R 83 s - p) (by omega) (by omega), gj_wle (by omega) (by omega)]
    · have ak : 0 ≤ act ∧ act < R 101 (g_ot s) := by
        rcases ha with e | e
        · exact absurd e ca
        · exact e
      have a4 : 0 ≤ act ∧ act < 4 := by omega
      obtain ⟨k1, k2, kk, kc⟩ := hk act ak.1 ak.2
      obtain ⟨g1, g2⟩ := hg act _ _ ak.1 ak.2 kk
      have sg := p_shownGood (j := 4 * s + act) hp (by omega) kk
      have gb : 0 ≤ g_sh (R 86 (4 * s + act)) (R 89 (4 * s + act)) (R 92 (4 * s + act)) (C 32 act) (C 33 act) ∧ g_sh (R 86 (4 * s + act)) (R 89 (4 * s + act)) (R 92 (4 * s + act)) (C 32 act) (C 33 act) ≤ 1000 := by
        have vv := hp.vw (4 * s + act) (by omega) (by omega)
        refine g_sh_le ?_ kk
        rw [← vv.1, ← vv.2.1, ← vv.2.2.1]
        exact vv.2.2.2
      generalize hG : g_sh (R 86 (4 * s + act)) (R 89 (4 * s + act)) (R 92 (4 * s + act)) (C 32 act) (C 33 act) = G at *
      have br := p_brings (ch := C 34 act) gb W Pq
      unfold g_K at kk
      have on : ∀ on : Int, ∃ v x, J_X4_doing_94 rc act n p (C 32 act) (C 33 act) on C = some (v, C) ∧ F_X12_with rr act on n R = some (v + p, gj_up R 79 38 x) ∧ -(10000000 * n) ≤ v ∧ v ≤ 10000000 * n := by
        intro on
        -- both recursions
        have m1 := (g_MR_k (v := f_min 4 (gj_w (C 32 act + 1))) h ak (g_min4 kk.1)).1
        obtain ⟨v1, x1, r1, s1, u1⟩ := H act (gj_w (on + 1)) _ _ m1 (Or.inr (by rw [gj_up_z (by decide)]; exact ak))
        have m2 := (g_MR_k (v := f_min 4 (gj_w (C 33 act + 1))) (g_MR_38 (x := x1) h) (by rw [gj_up_z (by decide)]; exact ak) (g_min4 kk.2)).2
        obtain ⟨v2, x2, r2, s2, u2⟩ := H act (gj_w (on + 1)) _ _ m2 (Or.inr (by rw [gj_up_z (by decide), gj_up_z (by decide)]; exact ak))
        have av := g_avg (B := 10000000 * (n - 1)) gb u1 u2
        have td := g_td av.2.2
        have tail : ∀ b : Int, 0 ≤ b ∧ b ≤ 9999000 → ∃ v x, J_X4_doing_186 rc act n p (C 32 act) (C 33 act) on G b C = some (v, C) ∧ gj_w (b + gj_w (gj_wl (Int.tdiv (gj_wl (gj_wl (G * v1) + gj_wl (gj_w (1000 - G) * v2))) 1000))) = v + p ∧ x = x2 ∧ -(10000000 * n) ≤ v ∧ v ≤ 10000000 * n := by
          intro b hb
          have e0 : gj_wl (gj_wl (G * v1) + gj_wl (gj_w (1000 - G) * v2)) = G * v1 + (1000 - G) * v2 := by
            rw [gj_wle (x := 1000 - G) (by omega) (by omega), gj_wlle (x := G * v1) (by omega) (by omega), gj_wlle (x := (1000 - G) * v2) (by omega) (by omega), gj_wlle (by omega) (by omega)]
          rw [e0]
          refine ⟨b - p + Int.tdiv (G * v1 + (1000 - G) * v2) 1000, x2, ?_, ?_, rfl, by omega, by omega⟩
          · unfold J_X4_doing_186
            by_cases c1 : 1 < n
            · rw [if_pos c1, gj_let_s, r1, gj_bnd2_s, gj_let_s, g_puts a4, gj_let_s, r2, gj_bnd2_s, gj_let_s, g_puts a4, gj_wlle (x := b - p) (by omega) (by omega), gj_wlle (x := 1000 - G) (by omega) (by omega), gj_wlle (x := G * v1) (by omega) (by omega), gj_wlle (x := (1000 - G) * v2) (by omega) (by omega), gj_wlle (x := G * v1 + (1000 - G) * v2) (by omega) (by omega), gj_wlle (x := Int.tdiv _ _) (by omega) (by omega), gj_wlle (by omega) (by omega)]
            · have n1 : n = 1 := by omega
              rw [n1] at u1 u2
              have z1 : v1 = 0 := by omega
              have z2 : v2 = 0 := by omega
              rw [if_neg c1, gj_wlle (by omega) (by omega), z1, z2, Int.mul_zero, Int.mul_zero, show ((0 : Int) + 0).tdiv 1000 = 0 by decide, Int.add_zero]
          · rw [gj_wlle (x := Int.tdiv _ _) (by omega) (by omega), gj_wle (x := Int.tdiv _ _) (by omega) (by omega), gj_wle (by omega) (by omega)]
            omega
        have restore : ∀ (d : Int) (l3 b1 b2 : Int), gj_w (b1 + b2) = l3 → J_X12_with_66 rr act on n G b1 b2 R = some (gj_w (l3 + gj_w (gj_wl (Int.tdiv (gj_wl (gj_wl (G * v1) + gj_wl (gj_w (1000 - G) * v2))) 1000))), gj_up R 79 38 x2) := by
          intro d l3 b1 b2 hl
          unfold J_X12_with_66
          rw [← k1, ← k2, gj_chkp a4, gj_chkp a4, gj_chkp a4, gj_let_s, s1, gj_bnd2_s, gj_chkp a4, gj_let_s]
          have e3 := g_rest (M := R) (z := 115) (i := act) (v := f_min 4 (gj_w (C 32 act + 1))) (x := x1) (by decide)
          rw [← k1] at e3
          rw [e3, gj_chkp a4, gj_let_s, s2, gj_bnd2_s]
          dsimp only [gj_letI]
          rw [gj_chkp a4, gj_let_s]
          have e4 := g_rest (M := gj_up R 79 38 x1) (z := 116) (i := act) (v := f_min 4 (gj_w (C 33 act + 1))) (x := x2) (by decide)
          rw [show gj_up R 79 38 x1 116 act = R 116 act from gj_up_z (by decide), ← k2, gj_up_up] at e4
          rw [e4, hl]
        have x3 : gj_w (gj_w (gj_w (25 * act) + gj_w (5 * R 115 act)) + R 116 act) = 25 * act + 5 * C 32 act + C 33 act := by
          rw [← k1, ← k2]
          unfold gj_w
          omega
        unfold F_X12_with J_X4_doing_94
        dsimp only [gj_letI]
        rw [gj_chkp a4, gj_chkp a4, x3, gj_chkp (by omega), gj_chkp (by omega), g1, g2, q5, gj_wle (x := s * 4) (by omega) (by omega), gj_wle (x := s * 4 + act) (by omega) (by omega), show s * 4 + act = 4 * s + act by omega, sg, e14_2, e14_3, e14_4, e14_5, f_at_in a4, gj_wlle (x := G * R 98 0) (by omega) (by omega), gj_wlle (x := 1000 - G) (by omega) (by omega), gj_wlle (x := (1000 - G) * R 98 1) (by omega) (by omega), gj_wlle (x := G * R 98 0 + (1000 - G) * R 98 1) (by omega) (by omega), gj_wlle (x := _ + C 34 act) (by omega) (by omega), gj_wlle (x := 1000 * R 98 3) (by omega) (by omega), gj_wlle (x := _ + 1000 * R 98 3) (by omega) (by omega), gj_wle (x := 1000 * R 98 3) (by omega) (by omega)]
        by_cases ch : on < R 98 2
        · obtain ⟨v, x, t1, t2, t3, t4⟩ := tail (G * R 98 0 + (1000 - G) * R 98 1 + C 34 act) (by omega)
          rw [if_pos ch, if_pos ch, restore 0 (G * R 98 0 + (1000 - G) * R 98 1 + C 34 act) _ _ (by rw [Int.add_zero, gj_wle (by omega) (by omega)]), t2, ← t3]
          exact ⟨v, x, t1, rfl, t4⟩
        · obtain ⟨v, x, t1, t2, t3, t4⟩ := tail (G * R 98 0 + (1000 - G) * R 98 1 + C 34 act + 1000 * R 98 3) (by omega)
          rw [if_neg ch, if_neg ch, restore 0 (G * R 98 0 + (1000 - G) * R 98 1 + C 34 act + 1000 * R 98 3) _ _ (by rw [gj_wle (by omega) (by omega)]), t2, ← t3]
          exact ⟨v, x, t1, rfl, t4⟩
      unfold J_X4_doing_23 J_X12_by_23
      rw [if_neg ca, if_neg ca, f_at_in a4, f_at_in a4]
      by_cases cw : act = w
      · obtain ⟨v, x, o1, o2, o3⟩ := on y
        rw [if_pos cw, if_pos cw, o1, o2, gj_bnd2_s, show v + p - p = v by omega, gj_wle (by omega) (by omega)]
        exact ⟨v, x, rfl, rfl, o3⟩
      · obtain ⟨v, x, o1, o2, o3⟩ := on 0
        rw [if_neg cw, if_neg cw, o1, o2, gj_bnd2_s, show v + p - p = v by omega, gj_wle (by omega) (by omega)]
        exact ⟨v, x, rfl, rfl, o3⟩
  unfold F_X4_doing F_X12_by
  by_cases c1 : w = -1
  · rw [if_pos c1, if_pos c1]
    exact core 0 (by decide)
  · rw [if_neg c1, if_neg c1]
    by_cases c2 : act = w
    · rw [if_pos c2, if_pos c2]
      exact core 0 (by decide)
    · rw [if_neg c2, if_neg c2, ← q9, gj_wlle (x := 1000 * C 31 9) (by omega) (by omega), gj_wle (x := 1000 * C 31 9) (by omega) (by omega)]
      exact core _ (by omega)
