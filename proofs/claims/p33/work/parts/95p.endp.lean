/-! PURE: all pairs heard, side by side -/
theorem g_NO_mk {C R D U : gj_M} (h : g_NO C R) (hc : ∀ z, 14 ≤ z → z ≤ 20 → D z = C z) (hr : ∀ z, z = 83 ∨ z = 86 ∨ z = 89 ∨ z = 92 ∨ z = 95 ∨ z = 98 ∨ z = 101 → U z = R z) (n1 : g_N1 D U) (n2 : g_N2 D U) (n3 : g_N3 U) (n4 : g_N4 D U) (n5 : g_LG (D 29 1) (D 29 2) (D 30) (U 79 29) (U 122)) : g_NO D U :=
  ⟨g_PL_s h.1 hc hr, n1, n2, n3, n4, n5⟩
theorem g_NO.n1 {C R : gj_M} (h : g_NO C R) : g_N1 C R := h.2.1
theorem g_NO.n2 {C R : gj_M} (h : g_NO C R) : g_N2 C R := h.2.2.1
theorem g_NO.n3 {C R : gj_M} (h : g_NO C R) : g_N3 R := h.2.2.2.1
theorem g_NO.n4 {C R : gj_M} (h : g_NO C R) : g_N4 C R := h.2.2.2.2.1
theorem g_NO.lg {C R : gj_M} (h : g_NO C R) : g_LG (C 29 1) (C 29 2) (C 30) (R 79 29) (R 122) := h.2.2.2.2.2
theorem gj_w_w {x : Int} : gj_w (gj_w x) = gj_w x := gj_w_id (gj_w_ok x)
/-- one earns -/
theorem g_NO_earn {C R : gj_M} {j x : Int} (h : g_NO C R) (j8 : 0 ≤ j ∧ j < 8) : g_NO (f_X3_earn j x C) (gj_up R 111 j (gj_w (R 111 j + x))) := by
  have e25 := (h.n1 j j8.1 j8.2).2.2.2.1
  have e : f_X3_earn j x C = gj_up C 25 j (gj_w (R 111 j + x)) := by
    unfold f_X3_earn
    rw [f_at_in j8, f_put_in j8, gj_let_s, e25]
  rw [e]
  refine g_NO_mk h (fun z a b => g_upr (by omega)) (fun z e => g_upr (by omega)) (fun i a b => ?_) ?_ ?_ ?_ ?_
  · rw [g_upr (show (22 : Int) ≠ 25 by decide), g_upr (show (23 : Int) ≠ 25 by decide), g_upr (show (24 : Int) ≠ 25 by decide), g_upr (show (108 : Int) ≠ 111 by decide), g_upr (show (109 : Int) ≠ 111 by decide), g_upr (show (110 : Int) ≠ 111 by decide), gj_up_if, gj_up_if]
    obtain ⟨a1, a2, a3, a4, a5⟩ := h.n1 i a b
    refine ⟨a1, a2, a3, ?_, ?_⟩
    · rw [a4]
    · by_cases c : i = j
      · rw [if_pos c]; exact gj_w_w
      · rw [if_neg c]; exact a5
  · unfold g_N2
    rw [g_upr (show (26 : Int) ≠ 25 by decide), g_upr (show (27 : Int) ≠ 25 by decide), g_upr (show (28 : Int) ≠ 25 by decide), g_upr (show (112 : Int) ≠ 111 by decide), g_upr (show (113 : Int) ≠ 111 by decide), g_upr (show (114 : Int) ≠ 111 by decide)]
    exact h.n2
  · unfold g_N3 g_pe
    rw [g_upr (show (101 : Int) ≠ 111 by decide), g_upr (show (108 : Int) ≠ 111 by decide), g_upr (show (109 : Int) ≠ 111 by decide), g_upr (show (110 : Int) ≠ 111 by decide)]
    exact h.n3
  · unfold g_N4
    rw [g_upr (show (21 : Int) ≠ 25 by decide), g_upr (show (79 : Int) ≠ 111 by decide)]
    exact h.n4
  · rw [g_upr (show (29 : Int) ≠ 25 by decide), g_upr (show (30 : Int) ≠ 25 by decide), g_upr (show (79 : Int) ≠ 111 by decide), g_upr (show (122 : Int) ≠ 111 by decide)]
    exact h.lg
/-- nothing earned -/
theorem p_earn0 {C R : gj_M} {j : Int} (h : g_NO C R) (j8 : 0 ≤ j ∧ j < 8) : f_X3_earn j 0 C = C := by
  obtain ⟨-, -, -, a4, a5⟩ := h.n1 j j8.1 j8.2
  unfold f_X3_earn
  rw [f_at_in j8, f_put_in j8, gj_let_s, Int.add_zero, a4, a5, ← a4]
  exact gj_up_id
/-- both say yes -/
theorem g_NO_yes {C R : gj_M} {p q x : Int} (h : g_NO C R) (p8 : 0 ≤ p ∧ p < 8) (hm : R 108 p = q) (hq : q ≠ -1) : g_NO (gj_up (gj_up C 24 p x) 24 q x) (gj_up (gj_up R 110 p x) 110 q x) := by
  have sy : ∀ i, 0 ≤ i → i < 8 → R 108 i ≠ -1 → (R 108 i = p ↔ i = q) ∧ (R 108 i = q ↔ i = p) := fun i a b n => by
    rcases h.n3 i a b with e | ⟨-, -, -, e, -⟩
    · exact absurd e n
    · rcases h.n3 p p8.1 p8.2 with g | ⟨-, -, -, g, -⟩
      · exact absurd (hm.symm.trans g) hq
      · rw [hm] at g
        refine ⟨⟨fun t => ?_, fun t => by rw [t]; exact g⟩, ⟨fun t => ?_, fun t => by rw [t]; exact hm⟩⟩
        · rw [t, hm] at e; exact e.symm
        · rw [t, g] at e; exact e.symm
  have u : ∀ (M : gj_M) (z z' : Int), z' ≠ z → gj_up (gj_up M z p x) z q x z' = M z' := fun M z z' n => by rw [g_upr n, g_upr n]
  have v : ∀ (M : gj_M) (z i : Int), gj_up (gj_up M z p x) z q x z i = if i = q ∨ i = p then x else M z i := fun M z i => by
    rw [gj_up_if, gj_up_if]
    by_cases c1 : i = q
    · rw [if_pos c1, if_pos (Or.inl c1)]
    · rw [if_neg c1]
      by_cases c2 : i = p
      · rw [if_pos c2, if_pos (Or.inr c2)]
      · rw [if_neg c2, if_neg (by omega)]
  have pq : R 108 q ≠ -1 ∧ R 108 p ≠ -1 := by
    rcases h.n3 p p8.1 p8.2 with g | ⟨-, -, -, g, -⟩
    · exact absurd (hm.symm.trans g) hq
    · rw [hm] at g; omega
  refine g_NO_mk h (fun z a b => u _ _ _ (by omega)) (fun z e => u _ _ _ (by omega)) (fun i a b => ?_) ?_ (fun i a b => ?_) ?_ ?_
  · rw [u _ 24 22 (by decide), u _ 24 23 (by decide), u _ 24 25 (by decide), u _ 110 108 (by decide), u _ 110 109 (by decide), u _ 110 111 (by decide), v, v]
    obtain ⟨a1, a2, a3, a4, a5⟩ := h.n1 i a b
    refine ⟨a1, a2, ?_, a4, a5⟩
    by_cases c : i = q ∨ i = p
    · rw [if_pos c, if_pos c, if_neg (show ¬ R 108 i = -1 from c.elim (fun e => by rw [e]; exact pq.1) (fun e => by rw [e]; exact pq.2))]
    · rw [if_neg c, if_neg c]; exact a3
  · unfold g_N2
    rw [u _ 24 26 (by decide), u _ 24 27 (by decide), u _ 24 28 (by decide), u _ 110 112 (by decide), u _ 110 113 (by decide), u _ 110 114 (by decide)]
    exact h.n2
  · unfold g_pe
    rw [u _ 110 101 (by decide), u _ 110 108 (by decide), u _ 110 109 (by decide), v, v]
    rcases h.n3 i a b with e | ⟨e1, e2, e3, e4, e5, e6⟩
    · exact Or.inl e
    · refine Or.inr ⟨e1, e2, e3, e4, e5, ?_⟩
      have s := sy i a b (by omega)
      by_cases c : i = q ∨ i = p
      · rw [if_pos c, if_pos (c.elim (fun t => Or.inr (s.1.mpr t)) (fun t => Or.inl (s.2.mpr t)))]
      · rw [if_neg c, if_neg (fun t => c (t.elim (fun t => Or.inr (s.2.mp t)) (fun t => Or.inl (s.1.mp t))))]
        exact e6
  · unfold g_N4
    rw [u _ 24 21 (by decide), u _ 110 79 (by decide)]
    exact h.n4
  · rw [u _ 24 29 (by decide), u _ 24 30 (by decide), u _ 110 79 (by decide), u _ 110 122 (by decide)]
    exact h.lg
/-- a pair ends -/
theorem g_NO_part {C R : gj_M} {p q : Int} (h : g_NO C R) (p8 : 0 ≤ p ∧ p < 8) (hm : R 108 p = q) (hq : q ≠ -1) : g_NO (f_X3_loosen p q C) (gj_up (gj_up R 108 q (-1)) 108 p (-1)) ∧ F_X12_parts p R = some (gj_up (gj_up R 108 q (-1)) 108 p (-1)) := by
  obtain ⟨q8, qp⟩ : (0 ≤ q ∧ q < 8) ∧ R 108 q = p := by
    rcases h.n3 p p8.1 p8.2 with g | ⟨g0, -, -, g, -⟩
    · exact absurd (hm.symm.trans g) hq
    · rw [hm] at g g0; omega
  have sy : ∀ i, 0 ≤ i → i < 8 → R 108 i ≠ -1 → (R 108 i = p → i = q) ∧ (R 108 i = q → i = p) := fun i a b n => by
    rcases h.n3 i a b with e | ⟨-, -, -, e, -⟩
    · exact absurd e n
    · exact ⟨fun t => by rw [t, hm] at e; exact e.symm, fun t => by rw [t, qp] at e; exact e.symm⟩
  refine ⟨?_, ?_⟩
  · have eC : ∀ z i, f_X3_loosen p q C z i = if (z = 22 ∨ z = 23 ∨ z = 24) ∧ (i = p ∨ i = q) then (if z = 22 then -1 else 0) else C z i := fun z i => by
      simp only [f_X3_loosen, f_X3_free, gj_let_s, f_put_in p8, f_put_in q8]
      by_cases z2 : z = 22
      · rw [z2, gj_up_z (by decide), gj_up_z (by decide), gj_up_if, gj_up_z (by decide), gj_up_z (by decide), gj_up_if, if_pos (show (22 : Int) = 22 from rfl)]
        by_cases c1 : i = q
        · rw [if_pos c1, if_pos ⟨Or.inl rfl, Or.inr c1⟩]
        · rw [if_neg c1]
          by_cases c2 : i = p
          · rw [if_pos c2, if_pos ⟨Or.inl rfl, Or.inl c2⟩]
          · rw [if_neg c2, if_neg (by omega)]
      by_cases z3 : z = 23
      · rw [z3, gj_up_z (by decide), gj_up_if, gj_up_z (by decide), gj_up_z (by decide), gj_up_if, gj_up_z (by decide), if_neg (show ¬ (23 : Int) = 22 by decide)]
        by_cases c1 : i = q
        · rw [if_pos c1, if_pos ⟨Or.inr (Or.inl rfl), Or.inr c1⟩]
        · rw [if_neg c1]
          by_cases c2 : i = p
          · rw [if_pos c2, if_pos ⟨Or.inr (Or.inl rfl), Or.inl c2⟩]
          · rw [if_neg c2, if_neg (by omega)]
      by_cases z4 : z = 24
      · rw [z4, gj_up_if, gj_up_z (by decide), gj_up_z (by decide), gj_up_if, gj_up_z (by decide), gj_up_z (by decide), if_neg (show ¬ (24 : Int) = 22 by decide)]
        by_cases c1 : i = q
        · rw [if_pos c1, if_pos ⟨Or.inr (Or.inr rfl), Or.inr c1⟩]
        · rw [if_neg c1]
          by_cases c2 : i = p
          · rw [if_pos c2, if_pos ⟨Or.inr (Or.inr rfl), Or.inl c2⟩]
          · rw [if_neg c2, if_neg (by omega)]
      · rw [gj_up_z z4, gj_up_z z3, gj_up_z z2, gj_up_z z4, gj_up_z z3, gj_up_z z2, if_neg (by omega)]
    have eR : ∀ i, gj_up (gj_up R 108 q (-1)) 108 p (-1) 108 i = if i = p ∨ i = q then -1 else R 108 i := fun i => by
      rw [gj_up_if, gj_up_if]
      by_cases c1 : i = p
      · rw [if_pos c1, if_pos (Or.inl c1)]
      · rw [if_neg c1]
        by_cases c2 : i = q
        · rw [if_pos c2, if_pos (Or.inr c2)]
        · rw [if_neg c2, if_neg (by omega)]
    have u : ∀ z', z' ≠ 108 → gj_up (gj_up R 108 q (-1)) 108 p (-1) z' = R z' := fun z' n => by rw [g_upr n, g_upr n]
    have w : ∀ z, z ≠ 22 → z ≠ 23 → z ≠ 24 → f_X3_loosen p q C z = C z := fun z a b c => funext fun i => by rw [eC, if_neg (by omega)]
    refine g_NO_mk h (fun z a b => w z (by omega) (by omega) (by omega)) (fun z e => u z (by omega)) (fun i a b => ?_) ?_ (fun i a b => ?_) ?_ ?_
    · obtain ⟨a1, a2, a3, a4, a5⟩ := h.n1 i a b
      rw [eC 22, eC 23, eC 24, w 25 (by decide) (by decide) (by decide), u 109 (by decide), u 110 (by decide), u 111 (by decide)]
      by_cases c : i = p ∨ i = q
      · have r : gj_up (gj_up R 108 q (-1)) 108 p (-1) 108 i = -1 := by rw [eR, if_pos c]
        rw [r]
        refine ⟨?_, ?_, ?_, a4, a5⟩
        · rw [if_pos ⟨Or.inl rfl, c⟩, if_pos rfl]
        · rw [if_pos ⟨Or.inr (Or.inl rfl), c⟩, if_neg (show ¬ (23 : Int) = 22 by decide), if_pos rfl]
        · rw [if_pos ⟨Or.inr (Or.inr rfl), c⟩, if_neg (show ¬ (24 : Int) = 22 by decide), if_pos rfl]
      · have r : gj_up (gj_up R 108 q (-1)) 108 p (-1) 108 i = R 108 i := by rw [eR, if_neg c]
        rw [r]
        refine ⟨?_, ?_, ?_, a4, a5⟩
        · rw [if_neg (fun t => c t.2)]; exact a1
        · rw [if_neg (c := (_ ∨ _) ∧ _) (fun t => c t.2)]; exact a2
        · rw [if_neg (c := (_ ∨ _) ∧ _) (fun t => c t.2)]; exact a3
    · unfold g_N2
      rw [w 26 (by decide) (by decide) (by decide), w 27 (by decide) (by decide) (by decide), w 28 (by decide) (by decide) (by decide), u 112 (by decide), u 113 (by decide), u 114 (by decide)]
      exact h.n2
    · unfold g_pe
      rw [u 101 (by decide), u 109 (by decide), u 110 (by decide), eR]
      by_cases c : i = p ∨ i = q
      · rw [if_pos c]; exact Or.inl rfl
      · rw [if_neg c, eR]
        rcases h.n3 i a b with e | ⟨e1, e2, e3, e4, e5, e6⟩
        · exact Or.inl e
        · have s := sy i a b (by omega)
          rw [if_neg (fun t => c (t.elim (fun t => Or.inr (s.1 t)) (fun t => Or.inl (s.2 t))))]
          exact Or.inr ⟨e1, e2, e3, e4, e5, e6⟩
    · unfold g_N4
      rw [w 21 (by decide) (by decide) (by decide), u 79 (by decide)]
      exact h.n4
    · rw [w 29 (by decide) (by decide) (by decide), w 30 (by decide) (by decide) (by decide), u 79 (by decide), u 122 (by decide)]
      exact h.lg
  · unfold F_X12_parts
    rw [gj_chkp p8, hm, gj_chkp q8, gj_let_s, gj_chkp p8, gj_let_s]
theorem g_7c {z : Int} (a : 14 ≤ z) (b : z ≤ 20) : [14, 15, 16, 17, 18, 19, (20 : Int)].contains z = true := by
  have : z = 14 ∨ z = 15 ∨ z = 16 ∨ z = 17 ∨ z = 18 ∨ z = 19 ∨ z = 20 := by omega
  rcases this with e | e | e | e | e | e | e <;> rw [e] <;> rfl
theorem g_7r {z : Int} (e : z = 83 ∨ z = 86 ∨ z = 89 ∨ z = 92 ∨ z = 95 ∨ z = 98 ∨ z = 101) : [83, 86, 89, 92, 95, 98, (101 : Int)].contains z = true := by
  rcases e with e | e | e | e | e | e | e <;> rw [e] <;> rfl
theorem f_num_told {q : Int} {M : gj_M} (q8 : 0 ≤ q ∧ q < 8) : f_X12_told q M = f_num q := by
  unfold f_X12_told f_num
  by_cases m4 : q < 4
  · rw [if_neg (by omega), if_pos m4]
  · rw [if_pos (by omega), if_neg m4, gj_wle (x := q + 6) (by omega) (by omega), gj_wle (x := q - 4) (by omega) (by omega), gj_wle (by omega) (by omega)]
    omega
/-- the end is noted -/
theorem g_NO_add {C R : gj_M} {p w c : Int} (h : g_NO C R) (c136 : 136 ≤ c) (p8 : 0 ≤ p ∧ p < 8) (hm : R 108 p ≠ -1) : ∃ N, F_X12_notes p w c R = some (c + 1, N) ∧ g_NO (f_X1_add (C 21 0) p (f_num (R 108 p)) (f_at C 23 8 p) w C) N ∧ gj_Fr [122] [(79, 29)] R N := by
  obtain ⟨lm, lc, lf, -⟩ := h.lg
  obtain ⟨s, hs⟩ : ∃ s : Int, (C 29 2 = 40 ∧ s = 1) ∨ (C 29 2 < 40 ∧ s = 0) := by
    by_cases c1 : C 29 2 = 40
    · exact ⟨1, Or.inl ⟨c1, rfl⟩⟩
    · exact ⟨0, Or.inr ⟨by omega, rfl⟩⟩
  obtain ⟨N, eN, n1, n2, n3, fN⟩ := p_notes (U := R) (p := p) (w := w) (c := c) (s := s) c136 p8 (by omega) (by omega)
  obtain ⟨D, hD⟩ : ∃ D, D = f_X1_add (C 21 0) p (f_num (R 108 p)) (f_at C 23 8 p) w C := ⟨_, rfl⟩
  obtain ⟨d1, d2, d3⟩ := p_add (a1 := C 21 0) (a2 := p) (a3 := f_num (R 108 p)) (a4 := f_at C 23 8 p) (a5 := w) (M := C) lf lc hs
  have fC : gj_Fr [30] [(29, 1), (29, 2)] C D := by rw [hD]; exact fr_X1_add _ _ _ _ _
  rw [← hD] at d1 d2 d3
  rw [← hD]
  refine ⟨N, eN, ?_, fN⟩
  have rc : ∀ z, [21, 22, 23, 24, 25, 26, 27, (28 : Int)].contains z = true → D z = C z := fun z hz => g_fr_row [21, 22, 23, 24, 25, 26, 27, 28] fC (by decide) z hz (by have := List.elem_iff.mp hz; simp at this; omega)
  have rr : ∀ z, [101, 108, 109, 110, 111, 112, 113, (114 : Int)].contains z = true → N z = R z := fun z hz => g_fr_row [101, 108, 109, 110, 111, 112, 113, 114] fN (by decide) z hz (by have := List.elem_iff.mp hz; simp at this; omega)
  refine g_NO_mk h (fun z a b => g_fr_row [14, 15, 16, 17, 18, 19, 20] fC (by decide) z (g_7c a b) (by omega)) (fun z e => g_fr_row [83, 86, 89, 92, 95, 98, 101] fN (by decide) z (g_7r e) (by omega)) ?_ ?_ ?_ ?_ ?_
  · unfold g_N1
    rw [rc 22 rfl, rc 23 rfl, rc 24 rfl, rc 25 rfl, rr 108 rfl, rr 109 rfl, rr 110 rfl, rr 111 rfl]
    exact h.n1
  · unfold g_N2
    rw [rc 26 rfl, rc 27 rfl, rc 28 rfl, rr 112 rfl, rr 113 rfl, rr 114 rfl]
    exact h.n2
  · unfold g_N3 g_pe
    rw [rr 101 rfl, rr 108 rfl, rr 109 rfl, rr 110 rfl]
    exact h.n3
  · unfold g_N4
    rw [rc 21 rfl, fN 79 27 (by decide) (by decide), fN 79 28 (by decide) (by decide), fN 79 30 (by decide) (by decide)]
    exact h.n4
  · have L := g_LG_add (row' := D 30) (logs' := N 122) (w := g_wn (C 21 0) p (f_num (R 108 p)) (f_at C 23 8 p) w) h.lg hs d3 (fun x a b => n2 x a (by omega)) (fun k a b => by
      have e1 := n3 k a b
      have e2 := h.n1 p p8.1 p8.2
      have e3 : f_X12_told (R 108 p) R = f_num (R 108 p) := by
        rcases h.n3 p p8.1 p8.2 with t | t
        · exact absurd t hm
        · exact f_num_told ⟨t.1.1, t.1.2.1⟩
      rw [if_neg hm] at e2
      rw [f_at_in p8, e2.2.1, h.n4.1.1, ← e3, ← lm]
      exact e1)
    rw [d1, d2, n1, lm]
    exact L
theorem p_tail {C R : gj_M} {p q w c : Int} (h : g_NO C R) (c136 : 136 ≤ c) (p8 : 0 ≤ p ∧ p < 4) (hm : R 108 p = q) (hq : q ≠ -1) : ∃ N, (∀ rec, J_X12_asked_191 rec p w c R = rec (p + 1) (c + 1) N) ∧ g_NO (f_X3_loosen p q (f_X1_add (C 21 0) p (f_num q) (f_at C 23 8 p) w C)) N ∧ N 123 = R 123 := by
  obtain ⟨N, eN, hN, fN⟩ := g_NO_add (w := w) h c136 (p := p) (by omega) (by rw [hm]; exact hq)
  rw [hm] at hN
  have n108 : N 108 = R 108 := g_fr_row [108] fN (by decide) 108 rfl (by decide)
  obtain ⟨g1, g2⟩ := g_NO_part hN (p := p) (q := q) (by omega) (by rw [n108]; exact hm) hq
  refine ⟨_, fun rec => ?_, g1, ?_⟩
  · unfold J_X12_asked_191 J_X12_asked_202
    rw [eN, gj_bnd2_s, g2, gj_bnd_s, gj_wle (x := p + 1) (by omega) (by omega)]
  · rw [g_upr (by decide), g_upr (by decide)]
    exact g_fr_row [123] fN (by decide) 123 rfl (by decide)
theorem g_cow {a b : Int} : gj_w (a + gj_w (-b)) = gj_w (a - b) := by unfold gj_w; omega
/-- one pair heard -/
theorem p_hear {C R : gj_M} {p c : Int} {sv : Int → Int} (h : g_NO C R) (c136 : 136 ≤ c) (p4 : 0 ≤ p ∧ p < 4) (hm : R 108 p ≠ -1) (hC : ∀ j, 0 ≤ j → j < 8 → C 45 j = sv j) (hR : ∀ j, 0 ≤ j → j < 8 → R 123 j = sv j) (hs : ∀ j, 0 ≤ j → j < 8 → sv j = 0 ∨ sv j = 1) : ∃ d N, (∀ rec, B_X12_asked_60 rec p c R = rec (p + 1) d N) ∧ 136 ≤ d ∧ g_NO (f_X8_hear p (R 108 p) C) N ∧ N 123 = R 123 := by
  obtain ⟨q, hq⟩ : ∃ q, q = R 108 p := ⟨_, rfl⟩
  obtain ⟨⟨q0, q1, qs⟩, pp, pq, qp, y9, y10⟩ : (0 ≤ q ∧ q < 8 ∧ (p < 4 ↔ ¬ q < 4)) ∧ g_pe R 101 p ∧ g_pe R 101 q ∧ R 108 q = p ∧ R 109 q = R 109 p ∧ R 110 q = R 110 p := by
    rw [hq]
    rcases h.n3 p (by omega) (by omega) with e | e
    · exact absurd e hm
    · exact e
  have p8 : 0 ≤ p ∧ p < 8 := by omega
  have q8 : 0 ≤ q ∧ q < 8 := ⟨q0, q1⟩
  have pn : ¬ R 101 0 ≤ p := by unfold g_pe at pp; omega
  have cow : C 14 8 = R 98 6 := (h.pl.hd 6 (by decide) (by decide)).1
  have c24 := (h.n1 p (by omega) (by omega)).2.2.1
  rw [if_neg hm] at c24
  rw [← hq]
  unfold B_X12_asked_60 J_X12_asked_163 f_X8_hear J_X8_hear_16 J_X8_hear_32 J_X8_hear_108 J_X8_hear_139
  rw [f_at_in p8, f_at_in q8, hC p p8.1 p8.2, hC q q8.1 q8.2]
  have st : ∀ rec : Int → Int → gj_M → Option (Int × gj_M), ∀ X : Int → Option (Int × gj_M), (if R 101 0 ≤ p then some (c, R) else gj_chk (0 ≤ p ∧ p < 8) (if R 108 p = -1 then J_X12_asked_202 rec p c R else gj_chk (0 ≤ p ∧ p < 8) (gj_chk (0 ≤ p ∧ p < 8) (gj_chk (0 ≤ R 108 p ∧ R 108 p < 8) (gj_letI (gj_w (R 123 p + gj_w (2 * R 123 (R 108 p)))) X))))) = X (gj_w (sv p + gj_w (2 * sv q))) := fun rec X => by
    rw [if_neg pn, gj_chkp p8, if_neg hm, gj_chkp p8, gj_chkp p8, ← hq, gj_chkp q8, hR p p8.1 p8.2, hR q q8.1 q8.2]
    rfl
  have e45 : ∀ j x, f_X3_earn j x C 45 = C 45 := fun j x => g_fr_row [45] (fr_X3_earn j x (M := C)) (by decide) 45 rfl (by decide)
  have e14 : ∀ j x, f_X3_earn j x C 14 = C 14 := fun j x => g_fr_row [14] (fr_X3_earn j x (M := C)) (by decide) 14 rfl (by decide)
  have z1 := p_earn0 h p8
  rcases hs p p8.1 p8.2 with sp | sp <;> rcases hs q q8.1 q8.2 with sq | sq
  · refine ⟨c, gj_up (gj_up R 110 p (gj_w (R 110 p + 1))) 110 q (gj_w (R 110 p + 1)), fun rec => ?_, c136, ?_, ?_⟩
    · rw [st, sp, sq, if_pos (show gj_w (0 + gj_w (2 * 0)) = 0 from rfl), gj_chkp p8, gj_chkp p8, gj_let_s, gj_chkp p8, gj_up_z (show (108 : Int) ≠ 110 by decide), ← hq, gj_chkp q8, gj_chkp q8, gj_let_s, gj_up_i (show q ≠ p by omega), y10]
      unfold J_X12_asked_202
      rw [gj_wle (x := p + 1) (by omega) (by omega)]
    · rw [sp, sq, if_pos rfl, if_pos rfl, if_pos (show gj_w (0 + 0) = 0 from rfl)]
      dsimp only [gj_letI]
      rw [f_at_in p8, f_put_in p8, gj_let_s, f_put_in q8, gj_let_s, c24]
      exact g_NO_yes h p8 hq.symm (by omega)
    · rw [g_upr (by decide), g_upr (by decide)]
  · have h2 := g_NO_earn (x := gj_w (-(C 14 8))) h q8
    rw [g_cow, cow] at h2
    obtain ⟨N, n1, n2, n3⟩ := p_tail (w := 2) (c := c) h2 c136 p4 (q := q) (by rw [gj_up_z (by decide)]; exact hq.symm) (by omega)
    refine ⟨c + 1, N, fun rec => ?_, by omega, ?_, n3.trans (g_upr (by decide))⟩
    · rw [st, sp, sq, if_neg (show ¬ gj_w (0 + gj_w (2 * 1)) = 0 by decide), if_neg (show ¬ gj_and (gj_w (0 + gj_w (2 * 1))) 1 = 1 by decide +kernel), if_neg (show ¬ gj_w (0 + gj_w (2 * 1)) ≤ 1 by decide), gj_chkp p8, ← hq, gj_chkp q8, gj_chkp q8, gj_let_s, show gj_w (0 + gj_w (2 * 1)) = 2 from rfl]
      exact n1 rec
    · rw [sp, sq, if_pos rfl, if_neg (show ¬ (1 : Int) = 0 by decide), if_neg (show ¬ gj_w (0 + 2) = 0 by decide), if_pos rfl, gj_let_s, z1, f_at_in q8, hC q q8.1 q8.2, sq, if_neg (show ¬ (1 : Int) = 0 by decide), gj_let_s, gj_let_s, gj_let_s, show gj_w (0 + 2) = 2 from rfl, cow]
      exact n2
  · have h2 := g_NO_earn (x := gj_w (-(C 14 8))) h p8
    rw [g_cow, cow] at h2
    obtain ⟨N, n1, n2, n3⟩ := p_tail (w := 1) (c := c) h2 c136 p4 (q := q) (by rw [gj_up_z (by decide)]; exact hq.symm) (by omega)
    refine ⟨c + 1, N, fun rec => ?_, by omega, ?_, n3.trans (g_upr (by decide))⟩
    · rw [st, sp, sq, if_neg (show ¬ gj_w (1 + gj_w (2 * 0)) = 0 by decide), if_pos (show gj_and (gj_w (1 + gj_w (2 * 0))) 1 = 1 by decide +kernel), gj_chkp p8, gj_chkp p8, gj_let_s, if_pos (show gj_w (1 + gj_w (2 * 0)) ≤ 1 by decide), show gj_w (1 + gj_w (2 * 0)) = 1 from rfl]
      exact n1 rec
    · rw [sp, sq, if_neg (show ¬ (1 : Int) = 0 by decide), if_pos rfl, if_neg (show ¬ gj_w (1 + 0) = 0 by decide), if_neg (show ¬ (1 : Int) = 0 by decide), gj_let_s, f_at_in q8, e45, hC q q8.1 q8.2, sq, if_pos rfl, gj_let_s, cow, p_earn0 h2 q8, gj_let_s, gj_let_s, show gj_w (1 + 0) = 1 from rfl]
      exact n2
  · have h2 := g_NO_earn (x := gj_w (-(C 14 8))) h p8
    rw [g_cow, cow] at h2
    have h3 := g_NO_earn (x := gj_w (-(C 14 8))) h2 q8
    rw [g_cow, cow, gj_up_i (show q ≠ p by omega)] at h3
    obtain ⟨N, n1, n2, n3⟩ := p_tail (w := 3) (c := c) h3 c136 p4 (q := q) (by rw [gj_up_z (by decide), gj_up_z (by decide)]; exact hq.symm) (by omega)
    refine ⟨c + 1, N, fun rec => ?_, by omega, ?_, n3.trans ((g_upr (by decide)).trans (g_upr (by decide)))⟩
    · rw [st, sp, sq, if_neg (show ¬ gj_w (1 + gj_w (2 * 1)) = 0 by decide), if_pos (show gj_and (gj_w (1 + gj_w (2 * 1))) 1 = 1 by decide +kernel), gj_chkp p8, gj_chkp p8, gj_let_s, if_neg (show ¬ gj_w (1 + gj_w (2 * 1)) ≤ 1 by decide), gj_chkp p8, gj_up_z (show (108 : Int) ≠ 111 by decide), ← hq, gj_chkp q8, gj_chkp q8, gj_let_s, gj_up_i (show q ≠ p by omega), gj_up_z (show (98 : Int) ≠ 111 by decide), show gj_w (1 + gj_w (2 * 1)) = 3 from rfl]
      exact n1 rec
    · rw [sp, sq, if_neg (show ¬ (1 : Int) = 0 by decide), if_neg (show ¬ (1 : Int) = 0 by decide), if_neg (show ¬ gj_w (1 + 2) = 0 by decide), if_neg (show ¬ (1 : Int) = 0 by decide), gj_let_s, f_at_in q8, e45, hC q q8.1 q8.2, sq, if_neg (show ¬ (1 : Int) = 0 by decide), gj_let_s, e14, cow, gj_let_s, gj_let_s, show gj_w (1 + 2) = 3 from rfl]
      exact n2
theorem p_idle {C : gj_M} : ∀ (f : Nat) (l : Int), (4 - l).toNat < f → 0 ≤ l → (∀ j, l ≤ j → j < 4 → C 22 j = -1) → gj_it (fun _ _ => none) B_X8_endPairs_2 f l C = some C
  | 0, l, h, _, _ => by omega
  | f + 1, l, h, l0, hj => by
    rw [gj_it_s]
    unfold B_X8_endPairs_2 J_X8_endPairs_30
    by_cases c : 4 ≤ l
    · rw [if_pos c]
    · rw [if_neg c, f_at_in (by omega), if_pos (hj l (by omega) (by omega)), gj_wle (x := l + 1) (by omega) (by omega)]
      exact p_idle f (l + 1) (by omega) (by omega) (fun j a b => hj j (by omega) b)
theorem p_endsJ {sv : Int → Int} (hs : ∀ j, 0 ≤ j → j < 8 → sv j = 0 ∨ sv j = 1) : ∀ (n f g : Nat) (l c : Int) (C R : gj_M), (4 - l).toNat = n → n < f → n < g → 0 ≤ l → g_NO C R → 136 ≤ c → (∀ j, 0 ≤ j → j < 8 → C 45 j = sv j) → (∀ j, 0 ≤ j → j < 8 → R 123 j = sv j) → ∃ D d N, gj_it (fun _ _ => none) B_X8_endPairs_2 f l C = some D ∧ gj_it (fun _ _ _ => none) B_X12_asked_60 g l c R = some (d, N) ∧ g_NO D N ∧ 136 ≤ d
  | n, 0, g, l, c, C, R, e, hf, hg, l0, h, c136, hC, hR => by omega
  | n, f + 1, 0, l, c, C, R, e, hf, hg, l0, h, c136, hC, hR => by omega
  | n, f + 1, g + 1, l, c, C, R, e, hf, hg, l0, h, c136, hC, hR => by
    have b0 := h.pl.b0
    have n0 := h.pl.n0
    by_cases c1 : R 101 0 ≤ l
    · refine ⟨C, c, R, p_idle (f + 1) l (by omega) l0 (fun j a b => ?_), ?_, h, c136⟩
      · have := h.n1 j (by omega) (by omega)
        rw [this.1]
        rcases h.n3 j (by omega) (by omega) with t | t
        · exact t
        · have := t.2.1; unfold g_pe at this; omega
      · rw [gj_it_s]
        unfold B_X12_asked_60
        rw [if_pos c1]
    · have l8 : 0 ≤ l ∧ l < 8 := by omega
      have m22 := (h.n1 l l8.1 l8.2).1
      have ec : ∀ z, gj_it z B_X8_endPairs_2 (f + 1) l C = if R 108 l = -1 then gj_it z B_X8_endPairs_2 f (l + 1) C else gj_it z B_X8_endPairs_2 f (l + 1) (f_X8_hear l (R 108 l) C) := fun z => by
        rw [gj_it_s]
        unfold B_X8_endPairs_2 J_X8_endPairs_30
        rw [if_neg (by omega), f_at_in l8, m22, gj_wle (x := l + 1) (by omega) (by omega), gj_let_s]
      rw [ec]
      by_cases c2 : R 108 l = -1
      · rw [if_pos c2]
        obtain ⟨D, d, N, e1, e2, e3⟩ := p_endsJ hs (n - 1) f g (l + 1) c C R (by omega) (by omega) (by omega) (by omega) h c136 hC hR
        refine ⟨D, d, N, e1, ?_, e3⟩
        rw [gj_it_s]
        have : ∀ rec, B_X12_asked_60 rec l c R = rec (l + 1) c R := fun rec => by
          unfold B_X12_asked_60 J_X12_asked_202
          rw [if_neg c1, gj_chkp l8, if_pos c2, gj_wle (x := l + 1) (by omega) (by omega)]
        rw [this]
        exact e2
      · rw [if_neg c2]
        obtain ⟨d1, N1, h1, h2, h3, h4⟩ := p_hear h c136 (p := l) (by omega) c2 hC hR hs
        have f45 : f_X8_hear l (R 108 l) C 45 = C 45 := g_fr_row [45] (fr_X8_hear l (R 108 l) (M := C)) (by decide) 45 rfl (by decide)
        obtain ⟨D, d, N, e1, e2, e3⟩ := p_endsJ hs (n - 1) f g (l + 1) d1 _ N1 (by omega) (by omega) (by omega) (by omega) h3 h2 (fun j a b => by rw [f45]; exact hC j a b) (fun j a b => by rw [h4]; exact hR j a b)
        refine ⟨D, d, N, e1, ?_, e3⟩
        rw [gj_it_s, h1]
        exact e2
/-- all are asked and heard -/
theorem p_askedJ {C R : gj_M} {c : Int} (h : g_NO C R) (c136 : 136 ≤ c) : ∃ D1 D d N, F_X8_askPaired C = some D1 ∧ F_X8_endPairs D1 = some D ∧ F_X12_asked c R = some (d, N) ∧ g_NO D N ∧ 136 ≤ d := by
  obtain ⟨D1, e1, f1, s1⟩ := p_askPaired h
  obtain ⟨N1, e2, f2, s2⟩ := p_asked2 (c := c) h
  have hs : ∀ j, 0 ≤ j → j < 8 → (fun j => if R 108 j = -1 then 0 else g_sv R (R 98 7) j) j = 0 ∨ (fun j => if R 108 j = -1 then 0 else g_sv R (R 98 7) j) j = 1 := fun j a b => by
    show (if R 108 j = -1 then (0 : Int) else g_sv R (R 98 7) j) = 0 ∨ (if R 108 j = -1 then (0 : Int) else g_sv R (R 98 7) j) = 1
    by_cases c1 : R 108 j = -1
    · rw [if_pos c1]; exact Or.inl rfl
    · rw [if_neg c1]
      have pe : g_pe R 101 j := by
        rcases h.n3 j a b with t | t
        · exact absurd t c1
        · exact t.2.1
      obtain ⟨D, U, -, -, -, e4, -⟩ := p_sv h ⟨a, b⟩ pe (p_aheadN h.pl).2
      exact e4
  have h2 : g_NO D1 N1 := g_NO_fr h f1 f2 (by decide) (by decide)
  obtain ⟨D, d, N, g1, g2, g3⟩ := p_endsJ hs 4 gj_fu 5 0 c D1 N1 (by decide) (by decide) (by decide) (by decide) h2 c136 s1 s2
  refine ⟨D1, D, d, N, e1, ?_, ?_, g3⟩
  · unfold F_X8_endPairs
    exact g1
  · rw [e2]
    unfold J_X12_asked_58
    exact g2
