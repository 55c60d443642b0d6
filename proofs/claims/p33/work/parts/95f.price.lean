/-! PURE: a dearer cow: what staying and going are worth then -/
theorem g_td_le {x y : Int} (h : x ≤ y) : x.tdiv 1000 ≤ y.tdiv 1000 := by
  have e : ∀ z : Int, z < 0 → z.tdiv 1000 = -((-z) / 1000) := fun z hz => by rw [← g_tdiv (show 0 ≤ -z by omega), Int.neg_tdiv, Int.neg_neg]
  by_cases c : 0 ≤ x
  · rw [g_tdiv c, g_tdiv (show 0 ≤ y by omega)]; omega
  · rw [e x (by omega)]
    by_cases d : 0 ≤ y
    · rw [g_tdiv d]; omega
    · rw [e y (by omega)]; omega
theorem g_td_sh {x y k : Int} (hk : 0 ≤ k) (h : x - 1000 * k ≤ y) : x.tdiv 1000 - k ≤ y.tdiv 1000 := by
  have e : ∀ z : Int, z < 0 → z.tdiv 1000 = -((-z) / 1000) := fun z hz => by rw [← g_tdiv (show 0 ≤ -z by omega), Int.neg_tdiv, Int.neg_neg]
  by_cases c : 0 ≤ x
  · rw [g_tdiv c]
    by_cases d : 0 ≤ y
    · rw [g_tdiv d]; omega
    · rw [e y (by omega)]; omega
  · rw [e x (by omega)]
    by_cases d : 0 ≤ y
    · rw [g_tdiv d]; omega
    · rw [e y (by omega)]; omega
def g_gG (s act : Int) (C : gj_M) : Int := f_X5_shownGood (4 * s + act) (C 32 act) (C 33 act) C
def g_bb (s act on : Int) (C : gj_M) : Int := g_gG s act C * C 14 2 + (1000 - g_gG s act C) * C 14 3 + C 34 act + (if on < C 14 4 then 0 else 1000 * C 14 5)
/-- the class's doing, by its own recursions -/
theorem c_doV {s n act w y p v1 v2 : Int} {rc : Int → Int → Int → gj_M → Option (Int × gj_M)} {C U : gj_M} (s8 : 0 ≤ s ∧ s < 8) (hn : 1 ≤ n ∧ n ≤ 6) (h : g_MR s C U) (hp0 : 0 ≤ p ∧ p ≤ 999000) (ha : 0 ≤ act ∧ act < U 101 (g_ot s))
    (r1 : rc (gj_w (n - 1)) act (gj_w ((if act = w then y else 0) + 1)) (f_put C 32 4 act (f_min 4 (gj_w (C 32 act + 1)))) = some (v1, f_put C 32 4 act (f_min 4 (gj_w (C 32 act + 1)))))
    (r2 : rc (gj_w (n - 1)) act (gj_w ((if act = w then y else 0) + 1)) (f_put C 33 4 act (f_min 4 (gj_w (C 33 act + 1)))) = some (v2, f_put C 33 4 act (f_min 4 (gj_w (C 33 act + 1)))))
    (u1 : -(10000000 * (n - 1)) ≤ v1 ∧ v1 ≤ 10000000 * (n - 1)) (u2 : -(10000000 * (n - 1)) ≤ v2 ∧ v2 ≤ 10000000 * (n - 1)) :
    J_X4_doing_23 rc act n w y p C = some (g_bb s act (if act = w then y else 0) C - p + (if 1 < n then Int.tdiv (g_gG s act C * v1 + (1000 - g_gG s act C) * v2) 1000 else 0), C) ∧ (0 ≤ g_gG s act C ∧ g_gG s act C ≤ 1000) ∧ (0 ≤ g_bb s act (if act = w then y else 0) C ∧ g_bb s act (if act = w then y else 0) C ≤ 9999000) := by
  have c4 := h.cnt
  obtain ⟨hp, ⟨q5, q35, q6⟩, -, -, -, hk, -⟩ := id h
  have hd0 := hp.hd 0 (by decide) (by decide)
  have hd1 := hp.hd 1 (by decide) (by decide)
  have hd3 := hp.hd 3 (by decide) (by decide)
  have e14_2 : C 14 2 = U 98 0 := hd0.1
  have e14_3 : C 14 3 = U 98 1 := hd1.1
  have e14_5 : C 14 5 = U 98 3 := hd3.1
  have W : 0 ≤ C 14 2 ∧ C 14 2 ≤ 99 := by rw [e14_2]; exact ⟨hd0.2.1, hd0.2.2.1⟩
  have Pq : 0 ≤ C 14 3 ∧ C 14 3 ≤ 99 := by rw [e14_3]; exact ⟨hd1.2.1, hd1.2.2.1⟩
  have Hb : 0 ≤ C 14 5 ∧ C 14 5 ≤ 99 := by rw [e14_5]; exact ⟨hd3.2.1, hd3.2.2.1⟩
  have a4 : 0 ≤ act ∧ act < 4 := by omega
  obtain ⟨k1, k2, kk, kc⟩ := hk act ha.1 ha.2
  have gb : 0 ≤ g_gG s act C ∧ g_gG s act C ≤ 1000 := by
    unfold g_gG
    rw [p_shownGood (j := 4 * s + act) hp (by omega) kk]
    have vv := hp.vw (4 * s + act) (by omega) (by omega)
    refine g_sh_le ?_ kk
    rw [← vv.1, ← vv.2.1, ← vv.2.2.1]
    exact vv.2.2.2
  have sg : f_X5_shownGood (gj_w (gj_w (s * 4) + act)) (C 32 act) (C 33 act) C = g_gG s act C := by
    unfold g_gG
    rw [gj_wle (x := s * 4) (by omega) (by omega), gj_wle (x := s * 4 + act) (by omega) (by omega), show s * 4 + act = 4 * s + act by omega]
  have br := p_brings (ch := C 34 act) gb W Pq
  have av := g_avg (B := 10000000 * (n - 1)) gb u1 u2
  have td := g_td av.2.2
  unfold g_bb
  generalize g_gG s act C = G at *
  refine ⟨?_, gb, by split <;> omega⟩
  have tail : ∀ (on b : Int), on = (if act = w then y else 0) → 0 ≤ b ∧ b ≤ 9999000 → J_X4_doing_186 rc act n p (C 32 act) (C 33 act) on G b C = some (b - p + (if 1 < n then Int.tdiv (G * v1 + (1000 - G) * v2) 1000 else 0), C) := by
    intro on b ho hb
    rw [← ho] at r1 r2
    unfold J_X4_doing_186
    by_cases c1 : 1 < n
    · rw [if_pos c1, if_pos c1, gj_let_s, r1, gj_bnd2_s, gj_let_s, g_puts a4, gj_let_s, r2, gj_bnd2_s, gj_let_s, g_puts a4, gj_wlle (x := b - p) (by omega) (by omega), gj_wlle (x := 1000 - G) (by omega) (by omega), gj_wlle (x := G * v1) (by omega) (by omega), gj_wlle (x := (1000 - G) * v2) (by omega) (by omega), gj_wlle (x := G * v1 + (1000 - G) * v2) (by omega) (by omega), gj_wlle (x := Int.tdiv _ _) (by omega) (by omega), gj_wlle (by omega) (by omega)]
    · rw [if_neg c1, if_neg c1, gj_wlle (by omega) (by omega), Int.add_zero]
  have j94 : ∀ on : Int, on = (if act = w then y else 0) → J_X4_doing_94 rc act n p (C 32 act) (C 33 act) on C = some (G * C 14 2 + (1000 - G) * C 14 3 + C 34 act + (if on < C 14 4 then 0 else 1000 * C 14 5) - p + (if 1 < n then Int.tdiv (G * v1 + (1000 - G) * v2) 1000 else 0), C) := by
    intro on ho
    unfold J_X4_doing_94
    dsimp only [gj_letI]
    rw [q5, sg, f_at_in a4, gj_wlle (x := G * C 14 2) (by omega) (by omega), gj_wlle (x := 1000 - G) (by omega) (by omega), gj_wlle (x := (1000 - G) * C 14 3) (by omega) (by omega), gj_wlle (x := G * C 14 2 + (1000 - G) * C 14 3) (by omega) (by omega), gj_wlle (x := _ + C 34 act) (by omega) (by omega), gj_wlle (x := 1000 * C 14 5) (by omega) (by omega), gj_wlle (x := _ + 1000 * C 14 5) (by omega) (by omega)]
    by_cases ch : on < C 14 4
    · rw [if_pos ch, if_pos ch, Int.add_zero]
      exact tail on _ ho (by omega)
    · rw [if_neg ch, if_neg ch]
      exact tail on _ ho (by omega)
  unfold J_X4_doing_23
  rw [if_neg (show ¬ act = -1 by omega), f_at_in a4, f_at_in a4]
  by_cases cw : act = w
  · have ho : y = (if act = w then y else 0) := by rw [if_pos cw]
    rw [if_pos cw, j94 y ho]
    congr 3
    rw [if_pos cw]
  · have ho : (0 : Int) = (if act = w then y else 0) := by rw [if_neg cw]
    rw [if_neg cw, j94 0 ho]
    congr 3
    rw [if_neg cw]
/-- the same, but for a dearer cow -/
def g_C2 (s : Int) (A B : gj_M) : Prop := (∃ U, g_MR s A U) ∧ (∃ U, g_MR s B U) ∧ B = gj_up A 31 9 (B 31 9) ∧ A 31 9 ≤ B 31 9
theorem g_C2_6 {s : Int} {A B U V : gj_M} (h : g_C2 s A B) (hA : g_MR s A U) (hB : g_MR s B V) : U 101 (g_ot s) = A 31 6 ∧ V 101 (g_ot s) = A 31 6 := by
  have e := h.2.2.1
  have b6 : B 31 6 = A 31 6 := by rw [e, gj_up_i (by decide)]
  exact ⟨hA.2.1.2.2.symm, by rw [← b6]; exact hB.2.1.2.2.symm⟩
theorem g_C2_put {s k v z : Int} {A B : gj_M} (h : g_C2 s A B) (hz : z = 32 ∨ z = 33) (hk : 0 ≤ k ∧ k < A 31 6) (hv : 0 ≤ v ∧ v ≤ 4) : g_C2 s (f_put A z 4 k v) (f_put B z 4 k v) ∧ f_put B z 4 k v 31 9 - f_put A z 4 k v 31 9 = B 31 9 - A 31 9 := by
  obtain ⟨⟨U, hA⟩, ⟨V, hB⟩, e, le⟩ := id h
  obtain ⟨e1, e2⟩ := g_C2_6 h hA hB
  have c4 := hA.cnt
  have a9 : f_put A z 4 k v 31 9 = A 31 9 := by rw [f_put_z (by omega)]
  have b9 : f_put B z 4 k v 31 9 = B 31 9 := by rw [f_put_z (by omega)]
  refine ⟨⟨?_, ?_, ?_, by rw [a9, b9]; exact le⟩, by rw [a9, b9]⟩
  · rcases hz with q | q <;> rw [q]
    · exact ⟨_, (g_MR_k hA (by rw [e1]; exact hk) hv).1⟩
    · exact ⟨_, (g_MR_k hA (by rw [e1]; exact hk) hv).2⟩
  · rcases hz with q | q <;> rw [q]
    · exact ⟨_, (g_MR_k hB (by rw [e2]; exact hk) hv).1⟩
    · exact ⟨_, (g_MR_k hB (by rw [e2]; exact hk) hv).2⟩
  · rw [b9, f_put_in (by omega), f_put_in (by omega)]
    have c := gj_up_c (M := A) (z := 31) (i := 9) (v := B 31 9) (z' := z) (i' := k) (v' := v) (by omega)
    rw [← c, ← e]
/-- what the recursions promise: less for the dearer cow, but not by more than the cow in each May -/
def g_H2 (s : Int) (rc : Int → Int → Int → gj_M → Option (Int × gj_M)) (n : Int) : Prop :=
  ∀ (w y : Int) (A B : gj_M), g_C2 s A B → (w = -1 ∨ (0 ≤ w ∧ w < A 31 6)) → ∃ va vb, rc (gj_w (n - 1)) w y A = some (va, A) ∧ rc (gj_w (n - 1)) w y B = some (vb, B) ∧ (-(10000000 * (n - 1)) ≤ va ∧ va ≤ 10000000 * (n - 1)) ∧ (-(10000000 * (n - 1)) ≤ vb ∧ vb ≤ 10000000 * (n - 1)) ∧ vb ≤ va ∧ va - 1000 * (B 31 9 - A 31 9) * (n - 1) ≤ vb
theorem m_doing {s n act w y : Int} {rc : Int → Int → Int → gj_M → Option (Int × gj_M)} {A B : gj_M} (s8 : 0 ≤ s ∧ s < 8) (hn : 1 ≤ n ∧ n ≤ 6) (H : g_H2 s rc n) (h : g_C2 s A B) (ha : act = -1 ∨ (0 ≤ act ∧ act < A 31 6)) :
    ∃ va vb, F_X4_doing rc act n w y A = some (va, A) ∧ F_X4_doing rc act n w y B = some (vb, B) ∧ vb ≤ va ∧ va - 1000 * (B 31 9 - A 31 9) * n ≤ vb := by
  obtain ⟨⟨U, hA⟩, ⟨V, hB⟩, e, le⟩ := id h
  obtain ⟨e1, e2⟩ := g_C2_6 h hA hB
  have bA := hA.2.2.1.2
  have bB := hB.2.2.1.2
  have dn : 1000 * (B 31 9 - A 31 9) * n = 1000 * (B 31 9 - A 31 9) * (n - 1) + 1000 * (B 31 9 - A 31 9) := by
    have q := Int.mul_sub (1000 * (B 31 9 - A 31 9)) n 1
    rw [Int.mul_one] at q
    omega
  have d0 : 0 ≤ 1000 * (B 31 9 - A 31 9) * (n - 1) := Int.mul_nonneg (by omega) (by omega)
  have core : ∀ pa pb : Int, 0 ≤ pa ∧ pa ≤ 999000 → 0 ≤ pb ∧ pb ≤ 999000 → pa ≤ pb → pb ≤ pa + 1000 * (B 31 9 - A 31 9) → ∃ va vb, J_X4_doing_23 rc act n w y pa A = some (va, A) ∧ J_X4_doing_23 rc act n w y pb B = some (vb, B) ∧ vb ≤ va ∧ va - 1000 * (B 31 9 - A 31 9) * n ≤ vb := by
    intro pa pb ha0 hb0 h1 h2
    by_cases ca : act = -1
    · obtain ⟨va, vb, r1, r2, u1, u2, u3, u4⟩ := H (-1) 0 A B h (Or.inl rfl)
      have q5A := hA.2.1.1
      have q5B := hB.2.1.1
      have alA := hA.2.2.2.2.1
      have alB := hB.2.2.2.2.1
      have e15 : B 15 s = A 15 s := by rw [e, gj_up_z (by decide)]
      refine ⟨1000 * A 15 s - pa + va, 1000 * A 15 s - pb + vb, ?_, ?_, by omega, by omega⟩
      · unfold J_X4_doing_23
        rw [if_pos ca, r1, gj_bnd2_s, q5A, f_at_in (by omega), gj_wlle (x := 1000 * A 15 s) (by omega) (by omega), gj_wlle (x := 1000 * A 15 s - pa) (by omega) (by omega), gj_wlle (by omega) (by omega)]
      · unfold J_X4_doing_23
        rw [if_pos ca, r2, gj_bnd2_s, q5B, f_at_in (by omega), e15, gj_wlle (x := 1000 * A 15 s) (by omega) (by omega), gj_wlle (x := 1000 * A 15 s - pb) (by omega) (by omega), gj_wlle (by omega) (by omega)]
    · have ak : 0 ≤ act ∧ act < A 31 6 := by
        rcases ha with q | q
        · exact absurd q ca
        · exact q
      have kA := hA.2.2.2.2.2.1 act ak.1 (by omega)
      have e32 : B 32 act = A 32 act := by rw [e, gj_up_z (by decide)]
      have e33 : B 33 act = A 33 act := by rw [e, gj_up_z (by decide)]
      obtain ⟨c1, c2⟩ := g_C2_put (z := 32) (k := act) (v := f_min 4 (gj_w (A 32 act + 1))) h (Or.inl rfl) ak (g_min4 kA.2.2.1.1)
      obtain ⟨c3, c4⟩ := g_C2_put (z := 33) (k := act) (v := f_min 4 (gj_w (A 33 act + 1))) h (Or.inr rfl) ak (g_min4 kA.2.2.1.2)
      have k6a : f_put A 32 4 act (f_min 4 (gj_w (A 32 act + 1))) 31 6 = A 31 6 := by rw [f_put_z (by decide)]
      have k6b : f_put A 33 4 act (f_min 4 (gj_w (A 33 act + 1))) 31 6 = A 31 6 := by rw [f_put_z (by decide)]
      obtain ⟨a1, b1, r1, s1, u1, t1, x1, z1⟩ := H act (gj_w ((if act = w then y else 0) + 1)) _ _ c1 (Or.inr (by rw [k6a]; exact ak))
      obtain ⟨a2, b2, r2, s2, u2, t2, x2, z2⟩ := H act (gj_w ((if act = w then y else 0) + 1)) _ _ c3 (Or.inr (by rw [k6b]; exact ak))
      rw [c2] at z1
      rw [c4] at z2
      obtain ⟨jA, gA, bbA⟩ := c_doV (p := pa) (w := w) (y := y) s8 hn hA ha0 ⟨ak.1, by omega⟩ r1 r2 u1 u2
      obtain ⟨jB, gB, bbB⟩ := c_doV (p := pb) (w := w) (y := y) s8 hn hB hb0 ⟨ak.1, by omega⟩ (by rw [e32]; exact s1) (by rw [e33]; exact s2) t1 t2
      have eG : g_gG s act B = g_gG s act A := by
        unfold g_gG f_X5_shownGood f_at
        rw [e32, e33, e]
        rfl
      have eb : g_bb s act (if act = w then y else 0) B = g_bb s act (if act = w then y else 0) A := by
        unfold g_bb
        rw [eG]
        have z14 : ∀ i, B 14 i = A 14 i := fun i => by rw [e, gj_up_z (by decide)]
        have z34 : B 34 act = A 34 act := by rw [e, gj_up_z (by decide)]
        rw [z14, z14, z14, z14, z34]
      rw [eG, eb] at jB
      refine ⟨_, _, jA, jB, ?_, ?_⟩
      · by_cases cn : 1 < n
        · rw [if_pos cn, if_pos cn]
          have m1 : g_gG s act A * b1 ≤ g_gG s act A * a1 := Int.mul_le_mul_of_nonneg_left x1 gA.1
          have m2 : (1000 - g_gG s act A) * b2 ≤ (1000 - g_gG s act A) * a2 := Int.mul_le_mul_of_nonneg_left x2 (by omega)
          have := g_td_le (x := g_gG s act A * b1 + (1000 - g_gG s act A) * b2) (y := g_gG s act A * a1 + (1000 - g_gG s act A) * a2) (by omega)
          omega
        · rw [if_neg cn, if_neg cn]; omega
      · by_cases cn : 1 < n
        · rw [if_pos cn, if_pos cn]
          have m1 : g_gG s act A * (a1 - 1000 * (B 31 9 - A 31 9) * (n - 1)) ≤ g_gG s act A * b1 := Int.mul_le_mul_of_nonneg_left z1 gA.1
          have m2 : (1000 - g_gG s act A) * (a2 - 1000 * (B 31 9 - A 31 9) * (n - 1)) ≤ (1000 - g_gG s act A) * b2 := Int.mul_le_mul_of_nonneg_left z2 (by omega)
          rw [Int.mul_sub] at m1 m2
          generalize 1000 * (B 31 9 - A 31 9) * (n - 1) = K at *
          have m3 : (1000 - g_gG s act A) * K = 1000 * K - g_gG s act A * K := Int.sub_mul _ _ _
          have := g_td_sh (x := g_gG s act A * a1 + (1000 - g_gG s act A) * a2) (y := g_gG s act A * b1 + (1000 - g_gG s act A) * b2) (k := K) d0 (by omega)
          omega
        · rw [if_neg cn, if_neg cn]; omega
  unfold F_X4_doing
  by_cases c1 : w = -1
  · rw [if_pos c1, if_pos c1]
    exact core 0 0 (by decide) (by decide) (by omega) (by omega)
  · rw [if_neg c1, if_neg c1]
    by_cases c2 : act = w
    · rw [if_pos c2, if_pos c2]
      exact core 0 0 (by decide) (by decide) (by omega) (by omega)
    · rw [if_neg c2, if_neg c2, gj_wlle (x := 1000 * A 31 9) (by omega) (by omega), gj_wlle (x := 1000 * B 31 9) (by omega) (by omega)]
      exact core _ _ (by omega) (by omega) (by omega) (by omega)
theorem g_sel_m {da db : Int → Int} {w nv cnt K : Int} (h : ∀ a, -1 ≤ a → a < cnt → db a ≤ da a ∧ da a - K ≤ db a) : ∀ (f : Nat) (a ma mb ba bb : Int), -1 ≤ a → mb ≤ ma → ma - K ≤ mb → (g_sel db w nv cnt f a mb bb).1 ≤ (g_sel da w nv cnt f a ma ba).1 ∧ (g_sel da w nv cnt f a ma ba).1 - K ≤ (g_sel db w nv cnt f a mb bb).1
  | 0, a, ma, mb, ba, bb, _, h1, h2 => ⟨h1, h2⟩
  | f + 1, a, ma, mb, ba, bb, ha, h1, h2 => by
    unfold g_sel
    by_cases c1 : cnt ≤ a
    · rw [if_pos c1, if_pos c1]; exact ⟨h1, h2⟩
    · rw [if_neg c1, if_neg c1]
      have q := h a ha (by omega)
      by_cases c2 : a = w ∨ (a ≠ -1 ∧ a = nv)
      · rw [if_pos c2, if_pos c2]; exact g_sel_m h f (a + 1) ma mb ba bb (by omega) h1 h2
      · rw [if_neg c2, if_neg c2]
        by_cases c3 : ma < da a
        · rw [if_pos c3]
          by_cases c4 : mb < db a
          · rw [if_pos c4]; exact g_sel_m h f (a + 1) _ _ _ _ (by omega) q.1 q.2
          · rw [if_neg c4]; exact g_sel_m h f (a + 1) _ _ _ _ (by omega) (by omega) (by omega)
        · rw [if_neg c3]
          by_cases c4 : mb < db a
          · rw [if_pos c4]; exact g_sel_m h f (a + 1) _ _ _ _ (by omega) (by omega) (by omega)
          · rw [if_neg c4]; exact g_sel_m h f (a + 1) _ _ _ _ (by omega) h1 h2
/-- a node, for two cows -/
theorem m_node {s n w y : Int} {rc rr : Int → Int → Int → gj_M → Option (Int × gj_M)} {A B : gj_M} (s8 : 0 ≤ s ∧ s < 8) (hn : 1 ≤ n ∧ n ≤ 6) (H : g_HR s rc rr n) (H2 : g_H2 s rc n) (h : g_C2 s A B) (hw : w = -1 ∨ (0 ≤ w ∧ w < A 31 6)) :
    ∃ va vb, F_X4_worthOf rc n w y A = some (va, A) ∧ F_X4_worthOf rc n w y B = some (vb, B) ∧ (-(10000000 * n) ≤ va ∧ va ≤ 10000000 * n) ∧ (-(10000000 * n) ≤ vb ∧ vb ≤ 10000000 * n) ∧ vb ≤ va ∧ va - 1000 * (B 31 9 - A 31 9) * n ≤ vb := by
  obtain ⟨⟨U, hA⟩, ⟨V, hB⟩, e, le⟩ := id h
  obtain ⟨e1, e2⟩ := g_C2_6 h hA hB
  obtain ⟨da, DA⟩ := p_dv (w := w) (y := y) s8 hn H hA
  obtain ⟨db, DB⟩ := p_dv (w := w) (y := y) s8 hn H hB
  have avA : ∀ a : Int, (a = -1 ∨ (0 ≤ a ∧ a < A 31 6)) → g_av s a U := fun a q => by unfold g_av; rw [e1]; exact q
  have avB : ∀ a : Int, (a = -1 ∨ (0 ≤ a ∧ a < A 31 6)) → g_av s a V := fun a q => by unfold g_av; rw [e2]; exact q
  have pt : ∀ a, (a = -1 ∨ (0 ≤ a ∧ a < A 31 6)) → db a ≤ da a ∧ da a - 1000 * (B 31 9 - A 31 9) * n ≤ db a := fun a q => by
    obtain ⟨va, vb, x1, x2, x3, x4⟩ := m_doing (w := w) (y := y) s8 hn H2 h q
    have f1 := (DA a (avA a q)).1
    have f2 := (DB a (avB a q)).1
    rw [x1] at f1
    rw [x2] at f2
    obtain rfl : va = da a := by simpa using f1
    obtain rfl : vb = db a := by simpa using f2
    exact ⟨x3, x4⟩
  have b6 : B 31 6 = A 31 6 := by rw [e, gj_up_i (by decide)]
  have b10 : B 31 10 = A 31 10 := by rw [e, gj_up_i (by decide)]
  obtain ⟨n1, -⟩ := p_node s8 hn hA DA (avA w hw)
  obtain ⟨n2, -⟩ := p_node s8 hn hB DB (avB w hw)
  rw [b6, b10] at n2
  have m := g_sel_m (w := w) (nv := A 31 10) (cnt := A 31 6) (K := 1000 * (B 31 9 - A 31 9) * n) (fun a x y => pt a (by omega)) 6 (-1) (da w) (db w) w w (by omega) (pt w hw).1 (pt w hw).2
  have bA := g_sel_b (dv := da) (w := w) (nv := A 31 10) (cnt := A 31 6) (B := 10000000 * n) (fun a x y => (DA a (avA a (by omega))).2.2) 6 (-1) (da w) w (by omega) (DA w (avA w hw)).2.2
  have bB := g_sel_b (dv := db) (w := w) (nv := A 31 10) (cnt := A 31 6) (B := 10000000 * n) (fun a x y => (DB a (avB a (by omega))).2.2) 6 (-1) (db w) w (by omega) (DB w (avB w hw)).2.2
  exact ⟨_, _, n1, n2, bA, bB, m.1, m.2⟩
theorem m_worth {s : Int} (s8 : 0 ≤ s ∧ s < 8) : ∀ (f : Nat) (n w y : Int) (A B : gj_M), 0 ≤ n → n < f → n ≤ 6 → g_C2 s A B → (w = -1 ∨ (0 ≤ w ∧ w < A 31 6)) → ∃ va vb, F_X4_worth f n w y A = some (va, A) ∧ F_X4_worth f n w y B = some (vb, B) ∧ (-(10000000 * n) ≤ va ∧ va ≤ 10000000 * n) ∧ (-(10000000 * n) ≤ vb ∧ vb ≤ 10000000 * n) ∧ vb ≤ va ∧ va - 1000 * (B 31 9 - A 31 9) * n ≤ vb
  | 0, n, w, y, A, B, h0, h1, _, _, _ => absurd h1 (by omega)
  | f + 1, n, w, y, A, B, h0, h1, h6, h, hw => by
    unfold F_X4_worth
    rw [gj_it_s]
    by_cases c : n = 0
    · refine ⟨0, 0, ?_, ?_, by omega, by omega, by omega, ?_⟩
      · unfold F_X4_worthOf
        rw [if_neg (by omega)]
      · unfold F_X4_worthOf
        rw [if_neg (by omega)]
      · rw [c, Int.mul_zero]
        decide
    · have en : gj_w (n - 1) = n - 1 := gj_wle (by omega) (by omega)
      have H : g_HR s (gj_it (fun _ _ _ _ => none) F_X4_worthOf f) (gj_it (fun _ _ _ _ => none) F_X12_worth f) n := fun w y C R h hw => by
        obtain ⟨v, x, q1, q2, q3⟩ := p_worthJ s8 f (n - 1) w y C R (by omega) (by omega) (by omega) h hw
        rw [en]
        exact ⟨v, x, q1, q2, q3⟩
      have H2 : g_H2 s (gj_it (fun _ _ _ _ => none) F_X4_worthOf f) n := fun w y A B h hw => by
        rw [en]
        exact m_worth s8 f (n - 1) w y A B (by omega) (by omega) (by omega) h hw
      exact m_node s8 (by omega) H H2 h hw
theorem m_H5 {s n : Int} (s8 : 0 ≤ s ∧ s < 8) (hn : 1 ≤ n ∧ n ≤ 5) : g_H2 s (F_X4_worth 5) n := fun w y A B h hw => by
  have en : gj_w (n - 1) = n - 1 := gj_wle (by omega) (by omega)
  rw [en]
  exact m_worth s8 5 (n - 1) w y A B (by omega) (by omega) (by omega) h hw
theorem g_MR_cow {s v : Int} {C R : gj_M} (h : g_MR s C R) (hv : 0 ≤ v ∧ v ≤ 999) : g_MR s (gj_up C 31 9 v) (gj_up R 79 36 v) := by
  obtain ⟨h1, h2, h3, h4, h5, h6, h7⟩ := h
  refine ⟨g_PL_s h1 (fun z a b => funext fun _ => gj_up_z (by omega)) (fun z e => funext fun _ => gj_up_z (by omega)), ?_, ?_, ?_, ?_, fun k a b => ?_, fun k a b x1 x2 x3 => ?_⟩
  · rw [gj_up_i (by decide), gj_up_i (by decide), gj_up_i (by decide), gj_up_z (by decide)]; exact h2
  · rw [gj_up_eq, gj_up_eq]; exact ⟨rfl, hv⟩
  · rw [gj_up_i (by decide), gj_up_i (by decide)]; exact h4
  · rw [gj_up_z (by decide), gj_up_z (by decide)]; exact h5
  · rw [gj_up_z (by decide)] at b
    rw [gj_up_z (by decide), gj_up_z (by decide), gj_up_z (by decide), gj_up_z (by decide), gj_up_z (by decide)]; exact h6 k a b
  · rw [gj_up_z (by decide)] at x2
    rw [gj_up_z (by decide), gj_up_z (by decide), gj_up_z (by decide), gj_up_z (by decide), gj_up_z (by decide), gj_up_z (by decide), gj_up_z (by decide), gj_up_z (by decide)]; exact h7 k a b x1 x2 x3
/-- one stays for this cow -/
def g_stay (n c : Int) (D : gj_M) : Prop := ∃ X, F_X4_bestAct n (gj_up D 31 9 c) = some (D 31 7, X)
theorem p_cowV {s n c : Int} {D U : gj_M} (s8 : 0 ≤ s ∧ s < 8) (hn : 1 ≤ n ∧ n ≤ 4) (h : g_MR s D U) (hw : g_av s (D 31 7) U) (hc : 0 ≤ c ∧ c ≤ 999) : ∃ v d b, F_X4_worth 6 n (D 31 7) (D 31 8) (gj_up D 31 9 c) = some (v, gj_up D 31 9 c) ∧ F_X4_doing (F_X4_worth 5) (D 31 7) n (D 31 7) (D 31 8) (gj_up D 31 9 c) = some (d, gj_up D 31 9 c) ∧ F_X12_worthN 6 (D 31 7) (D 31 8) n (gj_up U 79 36 c) = some (v, gj_up (gj_up U 79 36 c) 79 38 b) ∧ (-(10000000 * n) ≤ v ∧ v ≤ 10000000 * n) ∧ (-(10000000 * n) ≤ d ∧ d ≤ 10000000 * n) ∧ (b = D 31 7 ↔ g_stay n c D) ∧ (v - d ≤ 0 ↔ g_stay n c D) := by
  have h2 := g_MR_cow h hc
  have a7 : gj_up D 31 9 c 31 7 = D 31 7 := gj_up_i (by decide)
  have a8 : gj_up D 31 9 c 31 8 = D 31 8 := gj_up_i (by decide)
  obtain ⟨v, b, d, q1, q2, q3, q4, q5, q6, q7⟩ := p_best6 s8 hn h2 (by rw [a7]; unfold g_av at *; rw [gj_up_z (by decide)]; exact hw)
  rw [a7, a8] at q2 q3 q4
  rw [a7] at q7
  have st : g_stay n c D ↔ b = D 31 7 := by
    unfold g_stay
    rw [q1]
    refine ⟨fun ⟨X, e⟩ => ?_, fun e => ⟨_, by rw [e]⟩⟩
    exact (Prod.mk.inj (Option.some.inj e)).1
  refine ⟨v, d, b, q2, q4, q3, q5, q6, st.symm, ?_⟩
  rw [st]
  rcases q7 with ⟨x, y⟩ | ⟨x, y, -⟩
  · exact ⟨fun _ => y, fun _ => by omega⟩
  · exact ⟨fun q => by omega, fun q => absurd q y⟩
/-- the lead falls by no more than the cows in each May -/
theorem p_leap {s n a b va da vb db : Int} {D U : gj_M} (s8 : 0 ≤ s ∧ s < 8) (hn : 1 ≤ n ∧ n ≤ 4) (h : g_MR s D U) (hw : g_av s (D 31 7) U) (ha : 0 ≤ a) (hab : a ≤ b) (hb : b ≤ 999)
    (e1 : F_X4_worth 6 n (D 31 7) (D 31 8) (gj_up D 31 9 a) = some (va, gj_up D 31 9 a)) (e2 : F_X4_doing (F_X4_worth 5) (D 31 7) n (D 31 7) (D 31 8) (gj_up D 31 9 a) = some (da, gj_up D 31 9 a))
    (e3 : F_X4_worth 6 n (D 31 7) (D 31 8) (gj_up D 31 9 b) = some (vb, gj_up D 31 9 b)) (e4 : F_X4_doing (F_X4_worth 5) (D 31 7) n (D 31 7) (D 31 8) (gj_up D 31 9 b) = some (db, gj_up D 31 9 b)) : va - da - 1000 * (b - a) * n ≤ vb - db := by
  have cc : g_C2 s (gj_up D 31 9 a) (gj_up D 31 9 b) := ⟨⟨_, g_MR_cow h ⟨ha, by omega⟩⟩, ⟨_, g_MR_cow h ⟨by omega, hb⟩⟩, by rw [gj_up_eq, gj_up_up], by rw [gj_up_eq, gj_up_eq]; exact hab⟩
  have w6 : D 31 7 = -1 ∨ (0 ≤ D 31 7 ∧ D 31 7 < gj_up D 31 9 a 31 6) := by
    rw [gj_up_i (by decide), h.2.1.2.2]
    exact hw
  obtain ⟨x1, x2, f1, f2, -, -, f5, f6⟩ := m_worth s8 6 n (D 31 7) (D 31 8) _ _ (by omega) (by omega) (by omega) cc w6
  obtain ⟨y1, y2, g1, g2, g3, g4⟩ := m_doing (w := D 31 7) (y := D 31 8) s8 (by omega) (m_H5 (n := n) s8 (by omega)) cc w6
  rw [e1] at f1
  rw [e3] at f2
  rw [e2] at g1
  rw [e4] at g2
  rw [gj_up_eq, gj_up_eq] at f6
  obtain rfl : va = x1 := by simpa using f1
  obtain rfl : vb = x2 := by simpa using f2
  obtain rfl : da = y1 := by simpa using g1
  obtain rfl : db = y2 := by simpa using g2
  omega
