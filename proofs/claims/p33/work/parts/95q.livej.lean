/-! PURE: a year together, side by side -/
theorem g_NO_lot {C R : gj_M} {b : Int} (h : g_NO C R) (hb : 0 ≤ b ∧ b < 2147483648) : g_NO (gj_up C 21 2 b) (gj_up R 79 30 b) := by
  refine g_NO_mk h (fun z _ _ => g_upr (by omega)) (fun z e => g_upr (by omega)) ?_ ?_ ?_ ?_ ?_
  · unfold g_N1
    rw [g_upr (show (22 : Int) ≠ 21 by decide), g_upr (show (23 : Int) ≠ 21 by decide), g_upr (show (24 : Int) ≠ 21 by decide), g_upr (show (25 : Int) ≠ 21 by decide), g_upr (show (108 : Int) ≠ 79 by decide), g_upr (show (109 : Int) ≠ 79 by decide), g_upr (show (110 : Int) ≠ 79 by decide), g_upr (show (111 : Int) ≠ 79 by decide)]
    exact h.n1
  · unfold g_N2
    rw [g_upr (show (26 : Int) ≠ 21 by decide), g_upr (show (27 : Int) ≠ 21 by decide), g_upr (show (28 : Int) ≠ 21 by decide), g_upr (show (112 : Int) ≠ 79 by decide), g_upr (show (113 : Int) ≠ 79 by decide), g_upr (show (114 : Int) ≠ 79 by decide)]
    exact h.n2
  · unfold g_N3 g_pe
    rw [g_upr (show (101 : Int) ≠ 79 by decide), g_upr (show (108 : Int) ≠ 79 by decide), g_upr (show (109 : Int) ≠ 79 by decide), g_upr (show (110 : Int) ≠ 79 by decide)]
    exact h.n3
  · obtain ⟨⟨a1, a2⟩, ⟨a3, a4⟩, -⟩ := h.n4
    unfold g_N4
    rw [gj_up_eq, gj_up_eq, gj_up_i (show (0 : Int) ≠ 2 by decide), gj_up_i (show (1 : Int) ≠ 2 by decide), gj_up_i (show (27 : Int) ≠ 30 by decide), gj_up_i (show (28 : Int) ≠ 30 by decide)]
    exact ⟨⟨a1, a2⟩, ⟨a3, a4⟩, rfl, hb⟩
  · rw [g_upr (show (29 : Int) ≠ 21 by decide), g_upr (show (30 : Int) ≠ 21 by decide), gj_up_i (show (29 : Int) ≠ 30 by decide), g_upr (show (122 : Int) ≠ 79 by decide)]
    exact h.lg
/-- one May more of both -/
theorem g_NO_years {C R : gj_M} {p q x : Int} (h : g_NO C R) (p8 : 0 ≤ p ∧ p < 8) (hm : R 108 p = q) (hq : q ≠ -1) : g_NO (gj_up (gj_up C 23 p x) 23 q x) (gj_up (gj_up R 109 p x) 109 q x) := by
  have sy : ∀ i, 0 ≤ i → i < 8 → R 108 i ≠ -1 → (R 108 i = p ↔ i = q) ∧ (R 108 i = q ↔ i = p) := fun i a b n => by
    rcases h.n3 i a b with e | ⟨-, -, -, e, -⟩
    · exact absurd e n
    · rcases h.n3 p p8.1 p8.2 with g | ⟨-, -, -, g, -⟩
      · exact absurd (hm.symm.trans g) hq
      · rw [hm] at g
        refine ⟨⟨fun t => ?_, fun t => by rw [t]; exact g⟩, ⟨fun t => ?_, fun t => by rw [t]; exact hm⟩⟩
        · rw [t, hm] at e; exact e.symm
        · rw [t, g] at e; exact e.symm
  have u : ∀ (M : gj_M) (z z' : Int), z' ≠ z → gj_up (gj_up M z p x) z q x z' = M z' := fun M z z' n => by rw [g_upr n, g_upr n]
  have v : ∀ (M : gj_M) (z i : Int), gj_up (gj_up M z p x) z q x z i = if i = q ∨ i = p then x else M z i := fun M z i => by
    rw [gj_up_if, gj_up_if]
    by_cases c1 : i = q
    · rw [if_pos c1, if_pos (Or.inl c1)]
    · rw [if_neg c1]
      by_cases c2 : i = p
      · rw [if_pos c2, if_pos (Or.inr c2)]
      · rw [if_neg c2, if_neg (by omega)]
  have pq : R 108 q ≠ -1 ∧ R 108 p ≠ -1 := by
    rcases h.n3 p p8.1 p8.2 with g | ⟨-, -, -, g, -⟩
    · exact absurd (hm.symm.trans g) hq
    · rw [hm] at g; omega
  refine g_NO_mk h (fun z _ _ => u _ _ _ (by omega)) (fun z e => u _ _ _ (by omega)) (fun i a b => ?_) ?_ (fun i a b => ?_) ?_ ?_
  · rw [u _ 23 22 (by decide), u _ 23 24 (by decide), u _ 23 25 (by decide), u _ 109 108 (by decide), u _ 109 110 (by decide), u _ 109 111 (by decide), v, v]
    obtain ⟨a1, a2, a3, a4, a5⟩ := h.n1 i a b
    refine ⟨a1, ?_, a3, a4, a5⟩
    by_cases c : i = q ∨ i = p
    · rw [if_pos c, if_pos c, if_neg (show ¬ R 108 i = -1 from c.elim (fun e => by rw [e]; exact pq.1) (fun e => by rw [e]; exact pq.2))]
    · rw [if_neg c, if_neg c]; exact a2
  · unfold g_N2
    rw [u _ 23 26 (by decide), u _ 23 27 (by decide), u _ 23 28 (by decide), u _ 109 112 (by decide), u _ 109 113 (by decide), u _ 109 114 (by decide)]
    exact h.n2
  · unfold g_pe
    rw [u _ 109 101 (by decide), u _ 109 108 (by decide), u _ 109 110 (by decide), v, v]
    rcases h.n3 i a b with e | ⟨e1, e2, e3, e4, e5, e6⟩
    · exact Or.inl e
    · refine Or.inr ⟨e1, e2, e3, e4, ?_, e6⟩
      have s := sy i a b (by omega)
      by_cases c : i = q ∨ i = p
      · rw [if_pos c, if_pos (c.elim (fun t => Or.inr (s.1.mpr t)) (fun t => Or.inl (s.2.mpr t)))]
      · rw [if_neg c, if_neg (fun t => c (t.elim (fun t => Or.inr (s.2.mp t)) (fun t => Or.inl (s.1.mp t))))]
        exact e5
  · unfold g_N4
    rw [u _ 23 21 (by decide), u _ 109 79 (by decide)]
    exact h.n4
  · rw [u _ 23 29 (by decide), u _ 23 30 (by decide), u _ 109 79 (by decide), u _ 109 122 (by decide)]
    exact h.lg
/-- what the two know, and a child -/
theorem g_NO_tally {C R : gj_M} {z z' t v : Int} (h : g_NO C R) (hz : (z = 26 ∧ z' = 112 ∧ 0 ≤ v ∧ v ≤ 4) ∨ (z = 27 ∧ z' = 113 ∧ 0 ≤ v ∧ v ≤ 4) ∨ (z = 28 ∧ z' = 114 ∧ 0 ≤ v ∧ v ≤ 99)) : g_NO (gj_up C z t v) (gj_up R z' t v) := by
  have b1 : 26 ≤ z ∧ z ≤ 28 := by omega
  have b2 : 112 ≤ z' ∧ z' ≤ 114 := by omega
  refine g_NO_mk h (fun y _ _ => g_upr (by omega)) (fun y e => g_upr (by omega)) ?_ (fun i a b => ?_) ?_ ?_ ?_
  · unfold g_N1
    rw [g_upr (show (22 : Int) ≠ z by omega), g_upr (show (23 : Int) ≠ z by omega), g_upr (show (24 : Int) ≠ z by omega), g_upr (show (25 : Int) ≠ z by omega), g_upr (show (108 : Int) ≠ z' by omega), g_upr (show (109 : Int) ≠ z' by omega), g_upr (show (110 : Int) ≠ z' by omega), g_upr (show (111 : Int) ≠ z' by omega)]
    exact h.n1
  · obtain ⟨a1, a2, a3, ⟨a4, a5⟩, a6, a7⟩ := h.n2 i a b
    have k : ∀ y y', (y = z ↔ y' = z') → C y i = R y' i → gj_up C z t v y i = gj_up R z' t v y' i := fun y y' e g => by
      unfold gj_up
      by_cases c : y = z ∧ i = t
      · rw [if_pos c, if_pos ⟨e.mp c.1, c.2⟩]
      · rw [if_neg c, if_neg (fun q => c ⟨e.mpr q.1, q.2⟩)]
        exact g
    have r : ∀ (y m : Int), (0 ≤ R y i ∧ R y i ≤ m) → (y = z' → 0 ≤ v ∧ v ≤ m) → 0 ≤ gj_up R z' t v y i ∧ gj_up R z' t v y i ≤ m := fun y m g e => by
      unfold gj_up
      by_cases c : y = z' ∧ i = t
      · rw [if_pos c]; exact e c.1
      · rw [if_neg c]; exact g
    exact ⟨k 26 112 (by omega) a1, k 27 113 (by omega) a2, k 28 114 (by omega) a3, ⟨r 112 4 a4 (by omega), r 113 4 a5 (by omega)⟩, r 114 99 ⟨a6, a7⟩ (by omega)⟩
  · unfold g_N3 g_pe
    rw [g_upr (show (101 : Int) ≠ z' by omega), g_upr (show (108 : Int) ≠ z' by omega), g_upr (show (109 : Int) ≠ z' by omega), g_upr (show (110 : Int) ≠ z' by omega)]
    exact h.n3
  · unfold g_N4
    rw [g_upr (show (21 : Int) ≠ z by omega), g_upr (show (79 : Int) ≠ z' by omega)]
    exact h.n4
  · rw [g_upr (show (29 : Int) ≠ z by omega), g_upr (show (30 : Int) ≠ z by omega), g_upr (show (79 : Int) ≠ z' by omega), g_upr (show (122 : Int) ≠ z' by omega)]
    exact h.lg
/-- the reference's year of two -/
theorem p_r90 {M : gj_M} {p q t l4 s0 s1 : Int} (p8 : 0 ≤ p ∧ p < 8) (q8 : 0 ≤ q ∧ q < 8) (t16 : 0 ≤ t ∧ t < 16) (hpq : q ≠ p) : J_X12_lives_90 p q t l4 s0 s1 M = J_X12_lives_175 p q t (gj_up (gj_up (gj_up M 111 p (gj_w (M 111 p + gj_w (gj_w (s0 + s1) + gj_w (M 98 5 * M 114 t))))) 111 q (gj_w (M 111 q + gj_w (gj_w (s0 + s1) + gj_w (M 98 5 * M 114 t))))) (if l4 = 0 then 113 else 112) t (f_min 4 (gj_w (M (if l4 = 0 then 113 else 112) t + 1)))) := by
  unfold J_X12_lives_90
  dsimp only [gj_letI]
  rw [gj_chkp t16, gj_chkp p8, gj_chkp p8, gj_let_s, gj_chkp q8, gj_chkp q8, gj_let_s, gj_up_i hpq]
  by_cases c : l4 = 0
  · rw [if_pos c, if_pos c, gj_chkp t16, gj_chkp t16, gj_let_s, gj_up_z (show (113 : Int) ≠ 111 by decide), gj_up_z (show (113 : Int) ≠ 111 by decide)]
  · rw [if_neg c, if_neg c, gj_chkp t16, gj_chkp t16, gj_let_s, gj_up_z (show (112 : Int) ≠ 111 by decide), gj_up_z (show (112 : Int) ≠ 111 by decide)]
theorem p_r211 {M : gj_M} {p q : Int} (p8 : 0 ≤ p ∧ p < 8) (q8 : 0 ≤ q ∧ q < 8) (hpq : q ≠ p) : J_X12_lives_211 p q M = some (gj_up (gj_up M 109 p (gj_w (M 109 p + 1))) 109 q (gj_w (M 109 q + 1))) := by
  unfold J_X12_lives_211
  rw [gj_chkp p8, gj_chkp p8, gj_let_s, gj_chkp q8, gj_chkp q8, gj_let_s, gj_up_i hpq]
theorem p_r175 {M : gj_M} {p q t : Int} (p8 : 0 ≤ p ∧ p < 8) (q8 : 0 ≤ q ∧ q < 8) (t16 : 0 ≤ t ∧ t < 16) (hpq : q ≠ p) : J_X12_lives_175 p q t M = some (gj_up (gj_up (if M 98 4 ≤ g_lx (M 79 30) / 256 % 16 then gj_up M 79 30 (g_lx (M 79 30)) else gj_up (gj_up M 79 30 (g_lx (M 79 30))) 114 t (f_min 99 (gj_w (M 114 t + 1)))) 109 p (gj_w (M 109 p + 1))) 109 q (gj_w (M 109 q + 1))) := by
  unfold J_X12_lives_175
  rw [p_lotR (by omega), gj_bnd2_s, gj_up_z (show (98 : Int) ≠ 79 by decide)]
  by_cases c : M 98 4 ≤ g_lx (M 79 30) / 256 % 16
  · rw [if_pos c, if_pos c, p_r211 p8 q8 hpq, gj_up_z (show (109 : Int) ≠ 79 by decide), gj_up_z (show (109 : Int) ≠ 79 by decide)]
  · rw [if_neg c, if_neg c, gj_chkp t16, gj_chkp t16, gj_let_s, p_r211 p8 q8 hpq, gj_up_z (show (109 : Int) ≠ 114 by decide), gj_up_z (show (109 : Int) ≠ 114 by decide), gj_up_z (show (109 : Int) ≠ 79 by decide), gj_up_z (show (109 : Int) ≠ 79 by decide), gj_up_z (show (114 : Int) ≠ 79 by decide)]
/-- the class's year of two -/
theorem p_c147 {M : gj_M} {p q t l4 l5 l6 l7 l8 : Int} (p8 : 0 ≤ p ∧ p < 8) (q8 : 0 ≤ q ∧ q < 8) (t16 : 0 ≤ t ∧ t < 16) (hpq : q ≠ p) : ∃ B, B = gj_up (gj_up (gj_up (f_X3_earn q l8 (f_X3_earn p l8 M)) 23 p (gj_w (l6 + 1))) 23 q (gj_w (l6 + 1))) (if l4 = 0 then 27 else 26) t (f_min 4 (gj_w (M (if l4 = 0 then 27 else 26) t + 1))) ∧ J_X8_liveTogether_147 p q t l4 l5 l6 l7 l8 M = some (if l5 = 0 then B else gj_up B 28 t (f_min 99 (gj_w (l7 + 1)))) := by
  refine ⟨_, rfl, ?_⟩
  have e : ∀ z, z ≠ 25 → f_X3_earn q l8 (f_X3_earn p l8 M) z = M z := fun z hz => by
    unfold f_X3_earn
    rw [gj_let_s, gj_let_s, f_put_z hz, f_put_z hz]
  unfold J_X8_liveTogether_147
  rw [gj_let_s, gj_let_s, f_put_in p8, gj_let_s, f_put_in q8, gj_let_s]
  by_cases c : l4 = 0
  · rw [if_pos c, if_pos c, f_put_in t16, f_at_in t16, gj_let_s, gj_up_z (show (27 : Int) ≠ 23 by decide), gj_up_z (show (27 : Int) ≠ 23 by decide), e 27 (by decide)]
    by_cases d : l5 = 0
    · rw [if_pos d, if_pos d]
    · rw [if_neg d, if_neg d, f_put_in t16, gj_let_s]
  · rw [if_neg c, if_neg c, f_put_in t16, f_at_in t16, gj_let_s, gj_up_z (show (26 : Int) ≠ 23 by decide), gj_up_z (show (26 : Int) ≠ 23 by decide), e 26 (by decide)]
    by_cases d : l5 = 0
    · rw [if_pos d, if_pos d]
    · rw [if_neg d, if_neg d, f_put_in t16, gj_let_s]
theorem g_minB {a v : Int} (h : 0 ≤ v) (ha : 0 ≤ a) : 0 ≤ f_min a v ∧ f_min a v ≤ a := by
  unfold f_min
  split <;> omega
/-- reordering of what is written -/
theorem g_ordR {M : gj_M} {z p q t a b X Y y y' v w : Int} (hz : z = 113 ∨ z = 112) : gj_up (gj_up (gj_up (gj_up (gj_up (gj_up (gj_up (gj_up M 79 30 a) 111 p X) 111 q Y) z t v) 79 30 b) 114 t w) 109 p y) 109 q y' = gj_up (gj_up (gj_up (gj_up (gj_up (gj_up (gj_up M 79 30 b) 111 p X) 111 q Y) 109 p y) 109 q y') z t v) 114 t w := by
  have n1 : ∀ (M : gj_M) (i j x x' : Int), gj_up (gj_up M z i x) 79 j x' = gj_up (gj_up M 79 j x') z i x := fun M i j x x' => gj_up_c (fun e => by omega)
  have n2 : ∀ (M : gj_M) (i j x x' : Int), gj_up (gj_up M 111 i x) 79 j x' = gj_up (gj_up M 79 j x') 111 i x := fun M i j x x' => gj_up_c (fun e => absurd e.1 (by decide))
  have n3 : ∀ (M : gj_M) (i j x x' : Int), gj_up (gj_up M 114 i x) 109 j x' = gj_up (gj_up M 109 j x') 114 i x := fun M i j x x' => gj_up_c (fun e => absurd e.1 (by decide))
  have n4 : ∀ (M : gj_M) (i j x x' : Int), gj_up (gj_up M z i x) 109 j x' = gj_up (gj_up M 109 j x') z i x := fun M i j x x' => gj_up_c (fun e => by omega)
  rw [n1, n2, n2, gj_up_up, n3, n3, n4, n4]
theorem g_ordR0 {M : gj_M} {z p q t a b X Y y y' v : Int} (hz : z = 113 ∨ z = 112) : gj_up (gj_up (gj_up (gj_up (gj_up (gj_up (gj_up M 79 30 a) 111 p X) 111 q Y) z t v) 79 30 b) 109 p y) 109 q y' = gj_up (gj_up (gj_up (gj_up (gj_up (gj_up M 79 30 b) 111 p X) 111 q Y) 109 p y) 109 q y') z t v := by
  have n1 : ∀ (M : gj_M) (i j x x' : Int), gj_up (gj_up M z i x) 79 j x' = gj_up (gj_up M 79 j x') z i x := fun M i j x x' => gj_up_c (fun e => by omega)
  have n2 : ∀ (M : gj_M) (i j x x' : Int), gj_up (gj_up M 111 i x) 79 j x' = gj_up (gj_up M 79 j x') 111 i x := fun M i j x x' => gj_up_c (fun e => absurd e.1 (by decide))
  have n4 : ∀ (M : gj_M) (i j x x' : Int), gj_up (gj_up M z i x) 109 j x' = gj_up (gj_up M 109 j x') z i x := fun M i j x x' => gj_up_c (fun e => by omega)
  rw [n1, n2, n2, gj_up_up, n4, n4]
theorem g_x0 {s P : Int} : gj_w (s + gj_w P) = gj_w (gj_w (s + 0) + gj_w P) := by unfold gj_w; omega
theorem g_x1 {s P k : Int} : gj_w (gj_w (s + gj_w P) + k) = gj_w (gj_w (s + k) + gj_w P) := by unfold gj_w; omega
/-- a pair's year -/
theorem p_livesJ {C R : gj_M} {p : Int} (h : g_NO C R) (p4 : 0 ≤ p ∧ p < 4) (hm : R 108 p ≠ -1) : ∃ D N, F_X8_liveTogether p (R 108 p) C = some D ∧ F_X12_lives p R = some N ∧ g_NO D N := by
  obtain ⟨q, hq⟩ : ∃ q, q = R 108 p := ⟨_, rfl⟩
  obtain ⟨⟨q0, q1, qs⟩, pp, pq, qp, y9, y10⟩ : (0 ≤ q ∧ q < 8 ∧ (p < 4 ↔ ¬ q < 4)) ∧ g_pe R 101 p ∧ g_pe R 101 q ∧ R 108 q = p ∧ R 109 q = R 109 p ∧ R 110 q = R 110 p := by
    rw [hq]
    rcases h.n3 p (by omega) (by omega) with e | e
    · exact absurd e hm
    · exact e
  have p8 : 0 ≤ p ∧ p < 8 := by omega
  have q8 : 0 ≤ q ∧ q < 8 := ⟨q0, q1⟩
  have hpq : q ≠ p := by omega
  have hqn : q ≠ -1 := by omega
  obtain ⟨t, ht⟩ : ∃ t, t = f_cpl p q := ⟨_, rfl⟩
  obtain ⟨tw, t16⟩ := p_twoOf (M := R) p8 q8 (by omega)
  rw [← ht] at tw t16
  have l0 : C 21 2 = R 79 30 := h.n4.2.2.1
  obtain ⟨a, ha⟩ : ∃ a, a = g_lx (R 79 30) := ⟨_, rfl⟩
  obtain ⟨b, hb⟩ : ∃ b, b = g_lx a := ⟨_, rfl⟩
  have bB : 0 ≤ b ∧ b < 2147483648 := by rw [hb]; exact g_lxB
  have hd : ∀ k, 0 ≤ k → k < 8 → C 14 (k + 2) = R 98 k := fun k x y => (h.pl.hd k x y).1
  have ft : C 19 t = R 95 t := (h.pl.ft t t16.1 t16.2).1
  have c23 : C 23 p = R 109 p := by have := (h.n1 p p8.1 p8.2).2.1; rw [if_neg hm] at this; exact this
  obtain ⟨c26, c27, c28, -, k114⟩ := h.n2 t t16.1 t16.2
  have key : ∀ g : Int, ∃ D N, J_X8_liveTogether_34 p q t g (gj_up C 21 2 a) = some D ∧ J_X12_lives_35 p q t g (gj_up R 79 30 a) = some N ∧ g_NO D N := by
    intro g
    obtain ⟨kC, kR, ek, hkC, hkR⟩ : ∃ kC kR : Int, ((kC = 27 ∧ kR = 113) ∨ (kC = 26 ∧ kR = 112)) ∧ (if g = 0 then (27 : Int) else 26) = kC ∧ (if g = 0 then (113 : Int) else 112) = kR := by
      by_cases g0 : g = 0
      · exact ⟨27, 113, Or.inl ⟨rfl, rfl⟩, by rw [if_pos g0], by rw [if_pos g0]⟩
      · exact ⟨26, 112, Or.inr ⟨rfl, rfl⟩, by rw [if_neg g0], by rw [if_neg g0]⟩
    obtain ⟨home, hhome⟩ : ∃ home, home = if g = 0 then R 98 1 else R 98 0 := ⟨_, rfl⟩
    obtain ⟨house, hhouse⟩ : ∃ house, house = if R 109 p < R 98 2 then 0 else R 98 3 := ⟨_, rfl⟩
    obtain ⟨x, hx⟩ : ∃ x, x = gj_w (gj_w (home + house) + gj_w (R 98 5 * R 114 t)) := ⟨_, rfl⟩
    have kk : C kC t = R kR t := by rcases ek with e | e <;> rw [e.1, e.2]; exact c27; exact c26
    have c60 : ∀ ch, J_X8_liveTogether_60 p q t g ch (gj_up C 21 2 b) = J_X8_liveTogether_147 p q t g ch (R 109 p) (R 114 t) x (gj_up C 21 2 b) := fun ch => by
      unfold J_X8_liveTogether_60 J_X8_liveTogether_110
      dsimp only [gj_letI]
      have z : ∀ k i, k ≠ 21 → gj_up C 21 2 b k i = C k i := fun k i n => gj_up_z n
      rw [f_at_in p8, f_at_in t16, z 23 p (by decide), z 28 t (by decide), z 14 3 (by decide), z 14 2 (by decide), z 14 7 (by decide), z 14 4 (by decide), z 14 5 (by decide), c23, c28, show C 14 3 = R 98 1 from hd 1 (by decide) (by decide), show C 14 2 = R 98 0 from hd 0 (by decide) (by decide), show C 14 7 = R 98 5 from hd 5 (by decide) (by decide), show C 14 4 = R 98 2 from hd 2 (by decide) (by decide), show C 14 5 = R 98 3 from hd 3 (by decide) (by decide)]
      by_cases g0 : g = 0
      · rw [if_pos g0] at hhome
        rw [if_pos g0, ← hhome]
        by_cases d : R 109 p < R 98 2
        · rw [if_pos d] at hhouse
          rw [if_pos d, hx, hhouse, g_x0]
        · rw [if_neg d] at hhouse
          rw [if_neg d, hx, hhouse, g_x1]
      · rw [if_neg g0] at hhome
        rw [if_neg g0, ← hhome]
        by_cases d : R 109 p < R 98 2
        · rw [if_pos d] at hhouse
          rw [if_pos d, hx, hhouse, g_x0]
        · rw [if_neg d] at hhouse
          rw [if_neg d, hx, hhouse, g_x1]
    have r35 : J_X12_lives_35 p q t g (gj_up R 79 30 a) = J_X12_lives_90 p q t g home house (gj_up R 79 30 a) := by
      unfold J_X12_lives_35 J_X12_lives_61
      have z : ∀ k i, k ≠ 79 → gj_up R 79 30 a k i = R k i := fun k i n => gj_up_z n
      rw [gj_chkp p8, gj_chkp p8, z 98 0 (by decide), z 98 1 (by decide), z 98 2 (by decide), z 98 3 (by decide), z 109 p (by decide)]
      by_cases g0 : g = 0
      · rw [if_pos g0] at hhome
        rw [if_pos g0, ← hhome]
        by_cases d : R 109 p < R 98 2
        · rw [if_pos d] at hhouse
          rw [if_pos d, hhouse]
        · rw [if_neg d] at hhouse
          rw [if_neg d, hhouse]
      · rw [if_neg g0] at hhome
        rw [if_neg g0, ← hhome]
        by_cases d : R 109 p < R 98 2
        · rw [if_pos d] at hhouse
          rw [if_pos d, hhouse]
        · rw [if_neg d] at hhouse
          rw [if_neg d, hhouse]
    have z1 : ∀ k i, k ≠ 79 → gj_up R 79 30 a k i = R k i := fun k i n => gj_up_z n
    have z2 : ∀ k i, k ≠ 79 → gj_up R 79 30 b k i = R k i := fun k i n => gj_up_z n
    have er : J_X12_lives_35 p q t g (gj_up R 79 30 a) = J_X12_lives_175 p q t (gj_up (gj_up (gj_up (gj_up R 79 30 a) 111 p (gj_w (R 111 p + x))) 111 q (gj_w (R 111 q + x))) kR t (f_min 4 (gj_w (R kR t + 1)))) := by
      rw [r35, p_r90 p8 q8 t16 hpq, hkR, z1 111 p (by decide), z1 111 q (by decide), z1 98 5 (by decide), z1 114 t (by decide), z1 kR t (by omega), ← hx]
    have ec : ∀ ch, J_X8_liveTogether_60 p q t g ch (gj_up C 21 2 b) = some (if ch = 0 then gj_up (gj_up (gj_up (f_X3_earn q x (f_X3_earn p x (gj_up C 21 2 b))) 23 p (gj_w (R 109 p + 1))) 23 q (gj_w (R 109 p + 1))) kC t (f_min 4 (gj_w (R kR t + 1))) else gj_up (gj_up (gj_up (gj_up (f_X3_earn q x (f_X3_earn p x (gj_up C 21 2 b))) 23 p (gj_w (R 109 p + 1))) 23 q (gj_w (R 109 p + 1))) kC t (f_min 4 (gj_w (R kR t + 1)))) 28 t (f_min 99 (gj_w (R 114 t + 1)))) := fun ch => by
      obtain ⟨B, hB, e⟩ := p_c147 (M := gj_up C 21 2 b) (l4 := g) (l5 := ch) (l6 := R 109 p) (l7 := R 114 t) (l8 := x) p8 q8 t16 hpq
      rw [hkC, gj_up_z (show kC ≠ 21 by omega), kk] at hB
      rw [c60, e, hB]
    have h2 := g_NO_lot h bB
    have h3 := g_NO_earn (x := x) h2 p8
    have h4 := g_NO_earn (x := x) h3 q8
    rw [z2 111 p (by decide), gj_up_i hpq, z2 111 q (by decide)] at h4
    have h5 := g_NO_years (x := gj_w (R 109 p + 1)) h4 p8 (by rw [gj_up_z (by decide), gj_up_z (by decide), z2 108 p (by decide)]; exact hq.symm) hqn
    have v0 : 0 ≤ f_min 4 (gj_w (R kR t + 1)) ∧ f_min 4 (gj_w (R kR t + 1)) ≤ 4 := by
      have kb : 0 ≤ R kR t ∧ R kR t ≤ 4 := by
        have := (h.n2 t t16.1 t16.2).2.2.2.1
        unfold g_K at this
        rcases ek with e | e <;> rw [e.2]; exact this.2; exact this.1
      rw [gj_wle (by omega) (by omega)]
      exact g_minB (by omega) (by decide)
    have w0 : 0 ≤ f_min 99 (gj_w (R 114 t + 1)) ∧ f_min 99 (gj_w (R 114 t + 1)) ≤ 99 := by
      rw [gj_wle (by omega) (by omega)]
      exact g_minB (by omega) (by decide)
    have h6 := g_NO_tally (z := kC) (z' := kR) (t := t) (v := f_min 4 (gj_w (R kR t + 1))) h5 (by omega)
    have h7 := g_NO_tally (z := 28) (z' := 114) (t := t) (v := f_min 99 (gj_w (R 114 t + 1))) h6 (by omega)
    have c34 : J_X8_liveTogether_34 p q t g (gj_up C 21 2 a) = if R 98 4 ≤ b / 256 % 16 then J_X8_liveTogether_60 p q t g 0 (gj_up C 21 2 b) else J_X8_liveTogether_60 p q t g 1 (gj_up C 21 2 b) := by
      unfold J_X8_liveTogether_34
      rw [p_lotC (by omega), gj_bnd2_s, gj_up_eq, ← hb, gj_up_up, gj_up_z (show (14 : Int) ≠ 21 by decide), show C 14 6 = R 98 4 from hd 4 (by decide) (by decide)]
    have rz : ∀ k i, k ≠ 79 → k ≠ 111 → k ≠ kR → gj_up (gj_up (gj_up (gj_up R 79 30 a) 111 p (gj_w (R 111 p + x))) 111 q (gj_w (R 111 q + x))) kR t (f_min 4 (gj_w (R kR t + 1))) k i = R k i := fun k i n1 n2 n3 => by
      rw [gj_up_z n3, gj_up_z n2, gj_up_z n2, gj_up_z n1]
    have ra : gj_up (gj_up (gj_up (gj_up R 79 30 a) 111 p (gj_w (R 111 p + x))) 111 q (gj_w (R 111 q + x))) kR t (f_min 4 (gj_w (R kR t + 1))) 79 30 = a := by
      rw [gj_up_z (show (79 : Int) ≠ kR by omega), gj_up_z (show (79 : Int) ≠ 111 by decide), gj_up_z (show (79 : Int) ≠ 111 by decide), gj_up_eq]
    rw [c34, er, p_r175 p8 q8 t16 hpq, ra, ← hb, rz 98 4 (by decide) (by decide) (by omega), rz 114 t (by decide) (by decide) (by omega), rz 109 p (by decide) (by decide) (by omega), rz 109 q (by decide) (by decide) (by omega), y9]
    by_cases ch : R 98 4 ≤ b / 256 % 16
    · rw [if_pos ch, if_pos ch, ec, if_pos rfl, g_ordR0 (by omega)]
      exact ⟨_, _, rfl, rfl, h6⟩
    · rw [if_neg ch, if_neg ch, ec, if_neg (by decide), g_ordR (by omega)]
      exact ⟨_, _, rfl, rfl, h7⟩
  have eC : F_X8_liveTogether p (R 108 p) C = if R 95 t ≤ a / 256 % 16 then J_X8_liveTogether_34 p q t 0 (gj_up C 21 2 a) else J_X8_liveTogether_34 p q t 1 (gj_up C 21 2 a) := by
    unfold F_X8_liveTogether
    rw [← hq, ← ht, p_lotC (by omega), gj_bnd2_s, l0, ← ha, f_at_in t16, gj_up_z (show (19 : Int) ≠ 21 by decide), ft]
  have eR : F_X12_lives p R = if R 95 t ≤ a / 256 % 16 then J_X12_lives_35 p q t 0 (gj_up R 79 30 a) else J_X12_lives_35 p q t 1 (gj_up R 79 30 a) := by
    unfold F_X12_lives
    dsimp only [gj_letI]
    rw [gj_chkp p8, ← hq, tw, p_lotR (by omega), gj_bnd2_s, ← ha, gj_chkp t16, gj_up_z (show (95 : Int) ≠ 79 by decide)]
  rw [eC, eR]
  by_cases c : R 95 t ≤ a / 256 % 16
  · rw [if_pos c, if_pos c]; exact key 0
  · rw [if_neg c, if_neg c]; exact key 1
