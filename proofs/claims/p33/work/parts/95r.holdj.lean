/-! PURE: a May, side by side -/
theorem g_NO_join {C R : gj_M} {p q : Int} (h : g_NO C R) (p8 : 0 ≤ p ∧ p < 8) (q8 : 0 ≤ q ∧ q < 8) (u : p < 4 ↔ ¬ q < 4) (pp : g_pe R 101 p) (pq : g_pe R 101 q) (fp : R 108 p = -1) (fq : R 108 q = -1) : ∃ N, F_X12_joins p q R = some N ∧ g_NO (f_X3_bind p q C) N ∧ (∀ i, i ≠ p → i ≠ q → N 108 i = R 108 i) ∧ N 119 = R 119 := by
  obtain ⟨N, hN⟩ : ∃ N, N = gj_up (gj_up (gj_up (gj_up (gj_up (gj_up R 108 p q) 108 q p) 109 p 0) 109 q 0) 110 p 0) 110 q 0 := ⟨_, rfl⟩
  have n : ∀ z, z ≠ 108 → z ≠ 109 → z ≠ 110 → N z = R z := fun z a b c => by rw [hN, g_upr c, g_upr c, g_upr b, g_upr b, g_upr a, g_upr a]
  have v8 : ∀ i, N 108 i = if i = q then p else if i = p then q else R 108 i := fun i => by
    rw [hN, gj_up_z (by decide), gj_up_z (by decide), gj_up_z (by decide), gj_up_z (by decide), gj_up_if, gj_up_if]
  have v9 : ∀ i, N 109 i = if i = q then 0 else if i = p then 0 else R 109 i := fun i => by
    rw [hN, gj_up_z (by decide), gj_up_z (by decide), gj_up_if, gj_up_if, gj_up_z (by decide), gj_up_z (by decide)]
  have v10 : ∀ i, N 110 i = if i = q then 0 else if i = p then 0 else R 110 i := fun i => by
    rw [hN, gj_up_if, gj_up_if, gj_up_z (by decide), gj_up_z (by decide), gj_up_z (by decide), gj_up_z (by decide)]
  have pq' : p ≠ q := by omega
  have eB : f_X3_bind p q C = gj_up (gj_up C 22 p q) 22 q p := by
    unfold f_X3_bind
    rw [f_put_in p8, gj_let_s, f_put_in q8, gj_let_s]
  have w : ∀ z, z ≠ 22 → f_X3_bind p q C z = C z := fun z a => by rw [eB, g_upr a, g_upr a]
  have w22 : ∀ i, f_X3_bind p q C 22 i = if i = q then p else if i = p then q else C 22 i := fun i => by rw [eB, gj_up_if, gj_up_if]
  refine ⟨N, ?_, ?_, fun i a b => by rw [v8, if_neg b, if_neg a], n 119 (by decide) (by decide) (by decide)⟩
  · unfold F_X12_joins
    rw [gj_chkp p8, gj_let_s, gj_chkp q8, gj_let_s, gj_chkp p8, gj_let_s, gj_chkp q8, gj_let_s, gj_chkp p8, gj_let_s, gj_chkp q8, gj_let_s, hN]
  · refine g_NO_mk h (fun z _ _ => w z (by omega)) (fun z e => n z (by omega) (by omega) (by omega)) (fun i a b => ?_) ?_ (fun i a b => ?_) ?_ ?_
    · obtain ⟨a1, a2, a3, a4, a5⟩ := h.n1 i a b
      rw [w 23 (by decide), w 24 (by decide), w 25 (by decide), n 111 (by decide) (by decide) (by decide), w22, v8, v9, v10]
      by_cases c1 : i = q
      · rw [c1, fq, if_pos rfl] at a2 a3
        rw [if_pos c1, if_pos c1, if_pos c1, if_pos c1, if_neg (show ¬ p = -1 by omega), c1]
        rw [c1] at a4 a5
        exact ⟨rfl, a2, a3, a4, a5⟩
      by_cases c2 : i = p
      · rw [c2, fp, if_pos rfl] at a2 a3
        rw [if_neg c1, if_neg c1, if_neg c1, if_neg c1, if_pos c2, if_pos c2, if_pos c2, if_pos c2, if_neg (show ¬ q = -1 by omega), c2]
        rw [c2] at a4 a5
        exact ⟨rfl, a2, a3, a4, a5⟩
      · rw [if_neg c1, if_neg c1, if_neg c1, if_neg c1, if_neg c2, if_neg c2, if_neg c2, if_neg c2]
        exact ⟨a1, a2, a3, a4, a5⟩
    · unfold g_N2
      rw [w 26 (by decide), w 27 (by decide), w 28 (by decide), n 112 (by decide) (by decide) (by decide), n 113 (by decide) (by decide) (by decide), n 114 (by decide) (by decide) (by decide)]
      exact h.n2
    · have e101 : N 101 = R 101 := n 101 (by decide) (by decide) (by decide)
      have pe : ∀ x, g_pe N 101 x ↔ g_pe R 101 x := fun x => g_pe_s e101
      by_cases c1 : i = q
      · right
        have m : N 108 i = p := by rw [v8, if_pos c1]
        rw [m, pe, pe, v8, v9, v9, v10, v10, if_neg pq', if_neg pq', if_neg pq', if_pos rfl, if_pos rfl, if_pos rfl, if_pos c1, if_pos c1, c1]
        exact ⟨⟨p8.1, p8.2, by omega⟩, pq, pp, rfl, rfl, rfl⟩
      by_cases c2 : i = p
      · right
        have m : N 108 i = q := by rw [v8, if_neg c1, if_pos c2]
        rw [m, pe, pe, v8, v9, v9, v10, v10, if_pos rfl, if_pos rfl, if_pos rfl, if_neg c1, if_neg c1, if_pos c2, if_pos c2, c2]
        exact ⟨⟨q8.1, q8.2, u⟩, pp, pq, rfl, rfl, rfl⟩
      · have m : N 108 i = R 108 i := by rw [v8, if_neg c1, if_neg c2]
        rcases h.n3 i a b with e | ⟨e1, e2, e3, e4, e5, e6⟩
        · exact Or.inl (m.trans e)
        · right
          have r1 : R 108 i ≠ q := fun e => by rw [e, fq] at e4; omega
          have r2 : R 108 i ≠ p := fun e => by rw [e, fp] at e4; omega
          rw [m, pe, pe, v8, v9, v9, v10, v10, if_neg r1, if_neg r1, if_neg r1, if_neg r2, if_neg r2, if_neg r2, if_neg c1, if_neg c1, if_neg c2, if_neg c2]
          exact ⟨e1, e2, e3, e4, e5, e6⟩
    · unfold g_N4
      rw [w 21 (by decide), n 79 (by decide) (by decide) (by decide)]
      exact h.n4
    · rw [w 29 (by decide), w 30 (by decide), n 79 (by decide) (by decide) (by decide), n 122 (by decide) (by decide) (by decide)]
      exact h.lg
theorem p_idle2 {C : gj_M} : ∀ (f : Nat) (l : Int), (4 - l).toNat < f → 0 ≤ l → (∀ j, l ≤ j → j < 4 → C 40 j = -1) → gj_it (fun _ _ => none) B_X8_bindNewPairs_2 f l C = some C
  | 0, l, h, _, _ => by omega
  | f + 1, l, h, l0, hj => by
    rw [gj_it_s]
    unfold B_X8_bindNewPairs_2 J_X8_bindNewPairs_33
    by_cases c : 4 ≤ l
    · rw [if_pos c]
    · rw [if_neg c, f_at_in (by omega), if_pos (hj l (by omega) (by omega)), gj_wle (x := l + 1) (by omega) (by omega)]
      exact p_idle2 f (l + 1) (by omega) (by omega) (fun j a b => hj j (by omega) b)
/-- new pairs -/
theorem p_bindJ {T : Int → Int} : ∀ (n f g : Nat) (l c : Int) (C R : gj_M), (4 - l).toNat = n → n < f → n < g → 0 ≤ l → g_NO C R → (∀ j, 0 ≤ j → j < 8 → C 40 j = T j) → (∀ j, 0 ≤ j → j < 8 → R 119 j = T j) → (∀ j, l ≤ j → j < 4 → T j = -1 ∨ ((4 ≤ T j ∧ T j < 8) ∧ g_pe R 101 j ∧ g_pe R 101 (T j) ∧ T (T j) = j ∧ R 108 j = -1 ∧ R 108 (T j) = -1)) → ∃ D N, gj_it (fun _ _ => none) B_X8_bindNewPairs_2 f l C = some D ∧ gj_it (fun _ _ _ => none) B_X12_may_49 g l c R = J_X12_may_88 c N ∧ g_NO D N
  | n, 0, g, l, c, C, R, e, hf, hg, l0, h, hC, hR, hT => by omega
  | n, f + 1, 0, l, c, C, R, e, hf, hg, l0, h, hC, hR, hT => by omega
  | n, f + 1, g + 1, l, c, C, R, e, hf, hg, l0, h, hC, hR, hT => by
    have b0 := h.pl.b0
    have n0 := h.pl.n0
    by_cases c1 : R 101 0 ≤ l
    · refine ⟨C, R, p_idle2 (f + 1) l (by omega) l0 (fun j a b => ?_), ?_, h⟩
      · rw [hC j (by omega) (by omega)]
        rcases hT j a b with t | t
        · exact t
        · have := t.2.1; unfold g_pe at this; omega
      · rw [gj_it_s]
        unfold B_X12_may_49
        rw [if_pos c1]
    · have l8 : 0 ≤ l ∧ l < 8 := by omega
      have ec : ∀ z, gj_it z B_X8_bindNewPairs_2 (f + 1) l C = if T l = -1 then gj_it z B_X8_bindNewPairs_2 f (l + 1) C else gj_it z B_X8_bindNewPairs_2 f (l + 1) (f_X3_bind l (T l) C) := fun z => by
        rw [gj_it_s]
        unfold B_X8_bindNewPairs_2 J_X8_bindNewPairs_33
        rw [if_neg (by omega), f_at_in l8, hC l l8.1 l8.2, gj_wle (x := l + 1) (by omega) (by omega), gj_let_s]
      have er : ∀ rec, B_X12_may_49 rec l c R = if T l = -1 then rec (l + 1) c R else gj_bnd (F_X12_joins l (T l) R) (fun M12 => rec (l + 1) c M12) := fun rec => by
        unfold B_X12_may_49 J_X12_may_82
        rw [if_neg c1, gj_chkp l8, hR l l8.1 l8.2, gj_chkp l8, gj_wle (x := l + 1) (by omega) (by omega)]
      rw [ec, gj_it_s, er]
      by_cases c2 : T l = -1
      · rw [if_pos c2, if_pos c2]
        exact p_bindJ (T := T) (n - 1) f g (l + 1) c C R (by omega) (by omega) (by omega) (by omega) h hC hR (fun j a b => hT j (by omega) b)
      · rw [if_neg c2, if_neg c2]
        obtain ⟨t8, tp, tq, tt, m1, m2⟩ : (4 ≤ T l ∧ T l < 8) ∧ g_pe R 101 l ∧ g_pe R 101 (T l) ∧ T (T l) = l ∧ R 108 l = -1 ∧ R 108 (T l) = -1 := by
          rcases hT l (by omega) (by omega) with t | t
          · exact absurd t c2
          · exact t
        obtain ⟨N, j1, j2, j3, j4⟩ := g_NO_join h l8 (q := T l) (by omega) (by omega) tp tq m1 m2
        have e101 : N 101 = R 101 := by
          have f : gj_Fr _ _ R N := fr_X12_joins l (T l) N j1
          exact g_fr_row [101] f (by decide) 101 rfl (by decide)
        have f40 : f_X3_bind l (T l) C 40 = C 40 := g_fr_row [40] (fr_X3_bind l (T l) (M := C)) (by decide) 40 rfl (by decide)
        rw [j1, gj_bnd_s]
        refine p_bindJ (T := T) (n - 1) f g (l + 1) c _ N (by omega) (by omega) (by omega) (by omega) j2 (fun j a b => by rw [f40]; exact hC j a b) (fun j a b => by rw [j4]; exact hR j a b) (fun j a b => ?_)
        rcases hT j (by omega) b with t | ⟨t1, t2, t3, t4, t5, t6⟩
        · exact Or.inl t
        · have d1 : T j ≠ T l := fun e => by rw [e, tt] at t4; omega
          exact Or.inr ⟨t1, (g_pe_s e101).mpr t2, (g_pe_s e101).mpr t3, t4, by rw [j3 j (by omega) (by omega)]; exact t5, by rw [j3 (T j) (by omega) d1]; exact t6⟩
theorem p_idle3 {C : gj_M} : ∀ (f : Nat) (l : Int), (4 - l).toNat < f → 0 ≤ l → (∀ j, l ≤ j → j < 4 → C 22 j = -1) → gj_it (fun _ _ => none) B_X8_passYear_2 f l C = J_X8_passYear_36 C
  | 0, l, h, _, _ => by omega
  | f + 1, l, h, l0, hj => by
    rw [gj_it_s]
    unfold B_X8_passYear_2 J_X8_passYear_30
    by_cases c : 4 ≤ l
    · rw [if_pos c]
    · rw [if_neg c, f_at_in (by omega), if_pos (hj l (by omega) (by omega)), gj_wle (x := l + 1) (by omega) (by omega)]
      exact p_idle3 f (l + 1) (by omega) (by omega) (fun j a b => hj j (by omega) b)
/-- the pairs' year -/
theorem p_pairsJ : ∀ (n f g : Nat) (l c : Int) (C R : gj_M), (4 - l).toNat = n → n < f → n < g → 0 ≤ l → g_NO C R → ∃ D N, gj_it (fun _ _ => none) B_X8_passYear_2 f l C = J_X8_passYear_36 D ∧ gj_it (fun _ _ _ => none) B_X12_may_90 g l c R = J_X12_may_123 c N ∧ g_NO D N
  | n, 0, g, l, c, C, R, e, hf, hg, l0, h => by omega
  | n, f + 1, 0, l, c, C, R, e, hf, hg, l0, h => by omega
  | n, f + 1, g + 1, l, c, C, R, e, hf, hg, l0, h => by
    have b0 := h.pl.b0
    have n0 := h.pl.n0
    by_cases c1 : R 101 0 ≤ l
    · refine ⟨C, R, p_idle3 (f + 1) l (by omega) l0 (fun j a b => ?_), ?_, h⟩
      · rw [(h.n1 j (by omega) (by omega)).1]
        rcases h.n3 j (by omega) (by omega) with t | t
        · exact t
        · have := t.2.1; unfold g_pe at this; omega
      · rw [gj_it_s]
        unfold B_X12_may_90
        rw [if_pos c1]
    · have l8 : 0 ≤ l ∧ l < 8 := by omega
      have ec : ∀ z, gj_it z B_X8_passYear_2 (f + 1) l C = if R 108 l = -1 then gj_it z B_X8_passYear_2 f (l + 1) C else gj_bnd (F_X8_liveTogether l (R 108 l) C) (fun M2 => gj_it z B_X8_passYear_2 f (l + 1) M2) := fun z => by
        rw [gj_it_s]
        unfold B_X8_passYear_2 J_X8_passYear_30
        rw [if_neg (by omega), f_at_in l8, (h.n1 l l8.1 l8.2).1, gj_wle (x := l + 1) (by omega) (by omega)]
      have er : ∀ rec, B_X12_may_90 rec l c R = if R 108 l = -1 then rec (l + 1) c R else gj_bnd (F_X12_lives l R) (fun M15 => rec (l + 1) c M15) := fun rec => by
        unfold B_X12_may_90 J_X12_may_117
        rw [if_neg c1, gj_chkp l8, gj_wle (x := l + 1) (by omega) (by omega)]
      rw [ec, gj_it_s, er]
      by_cases c2 : R 108 l = -1
      · rw [if_pos c2, if_pos c2]
        exact p_pairsJ (n - 1) f g (l + 1) c C R (by omega) (by omega) (by omega) (by omega) h
      · rw [if_neg c2, if_neg c2]
        obtain ⟨D, N, j1, j2, j3⟩ := p_livesJ h (p := l) (by omega) c2
        rw [j1, j2, gj_bnd_s, gj_bnd_s]
        exact p_pairsJ (n - 1) f g (l + 1) c D N (by omega) (by omega) (by omega) (by omega) j3
/-- the year of those alone -/
theorem p_aloneJ : ∀ (n f g : Nat) (l c : Int) (C R : gj_M), (8 - l).toNat = n → n < f → n < g → 0 ≤ l → g_NO C R → ∃ D N, gj_it (fun _ _ => none) B_X8_passYear_38 f l C = J_X8_passYear_95 D ∧ gj_it (fun _ _ _ => none) B_X12_may_125 g l c R = J_X12_may_180 c N ∧ g_NO D N
  | n, 0, g, l, c, C, R, e, hf, hg, l0, h => by omega
  | n, f + 1, 0, l, c, C, R, e, hf, hg, l0, h => by omega
  | n, f + 1, g + 1, l, c, C, R, e, hf, hg, l0, h => by
    by_cases c8 : 8 ≤ l
    · refine ⟨C, R, ?_, ?_, h⟩
      · rw [gj_it_s]
        unfold B_X8_passYear_38
        rw [if_pos c8]
      · rw [gj_it_s]
        unfold B_X12_may_125
        rw [if_pos c8]
    · have l8 : 0 ≤ l ∧ l < 8 := by omega
      have n0 := h.pl.n0
      have n1 := h.pl.n1
      have pr := g_per h.pl l8
      have ec : ∀ z, gj_it z B_X8_passYear_38 (f + 1) l C = if f_X5_isPerson_14 l C = 0 then gj_it z B_X8_passYear_38 f (l + 1) C else if R 108 l = -1 then gj_it z B_X8_passYear_38 f (l + 1) (f_X3_earn l (C 15 l) C) else gj_it z B_X8_passYear_38 f (l + 1) C := fun z => by
        rw [gj_it_s]
        unfold B_X8_passYear_38 J_X8_passYear_89
        dsimp only [gj_letI]
        rw [if_neg c8, f_at_in l8, f_at_in l8, (h.n1 l l8.1 l8.2).1, gj_wle (x := l + 1) (by omega) (by omega), gj_let_s]
      have er : ∀ rec, B_X12_may_125 rec l c R = if R 101 (l / 4) ≤ l % 4 then rec (l + 1) c R else if R 108 l = -1 then rec (l + 1) c (gj_up R 111 l (gj_w (R 111 l + R 83 l))) else rec (l + 1) c R := fun rec => by
        unfold B_X12_may_125 J_X12_may_174
        rw [if_neg c8, g_tdiv l0, g_tmod l0, gj_wle (x := l / 4) (by omega) (by omega), gj_chkp (by omega), gj_chkp l8, gj_chkp l8, gj_chkp l8, gj_chkp l8, gj_wle (x := l + 1) (by omega) (by omega), gj_let_s]
      rw [ec, gj_it_s, er]
      by_cases cp : R 101 (l / 4) ≤ l % 4
      · have np : ¬ g_pe R 101 l := by
          unfold g_pe
          by_cases q : l < 4
          · rw [show l / 4 = 0 by omega] at cp; omega
          · rw [show l / 4 = 1 by omega] at cp; omega
        rw [if_pos cp, if_pos (pr.2 np)]
        exact p_aloneJ (n - 1) f g (l + 1) c C R (by omega) (by omega) (by omega) (by omega) h
      · have pe : g_pe R 101 l := by
          unfold g_pe
          by_cases q : l < 4
          · rw [show l / 4 = 0 by omega] at cp; omega
          · rw [show l / 4 = 1 by omega] at cp; omega
        rw [if_neg cp, pr.1 pe, if_neg (by decide)]
        by_cases c2 : R 108 l = -1
        · have a15 : C 15 l = R 83 l := (h.pl.al l l8.1 l8.2 (by unfold g_pe; unfold g_pe at pe; rw [n0, n1]; exact pe)).1
          rw [if_pos c2, if_pos c2, a15]
          exact p_aloneJ (n - 1) f g (l + 1) c _ _ (by omega) (by omega) (by omega) (by omega) (g_NO_earn h l8)
        · rw [if_neg c2, if_neg c2]
          exact p_aloneJ (n - 1) f g (l + 1) c C R (by omega) (by omega) (by omega) (by omega) h
theorem g_NO_year {C R : gj_M} (h : g_NO C R) : g_NO (gj_up C 21 0 (gj_w (C 21 0 + 1))) (gj_up R 79 27 (gj_w (R 79 27 + 1))) := by
  obtain ⟨⟨a1, a2⟩, ⟨a3, a4⟩, a5⟩ := h.n4
  refine g_NO_mk h (fun z _ _ => g_upr (by omega)) (fun z e => g_upr (by omega)) ?_ ?_ ?_ ?_ ?_
  · unfold g_N1
    rw [g_upr (show (22 : Int) ≠ 21 by decide), g_upr (show (23 : Int) ≠ 21 by decide), g_upr (show (24 : Int) ≠ 21 by decide), g_upr (show (25 : Int) ≠ 21 by decide), g_upr (show (108 : Int) ≠ 79 by decide), g_upr (show (109 : Int) ≠ 79 by decide), g_upr (show (110 : Int) ≠ 79 by decide), g_upr (show (111 : Int) ≠ 79 by decide)]
    exact h.n1
  · unfold g_N2
    rw [g_upr (show (26 : Int) ≠ 21 by decide), g_upr (show (27 : Int) ≠ 21 by decide), g_upr (show (28 : Int) ≠ 21 by decide), g_upr (show (112 : Int) ≠ 79 by decide), g_upr (show (113 : Int) ≠ 79 by decide), g_upr (show (114 : Int) ≠ 79 by decide)]
    exact h.n2
  · unfold g_N3 g_pe
    rw [g_upr (show (101 : Int) ≠ 79 by decide), g_upr (show (108 : Int) ≠ 79 by decide), g_upr (show (109 : Int) ≠ 79 by decide), g_upr (show (110 : Int) ≠ 79 by decide)]
    exact h.n3
  · unfold g_N4
    rw [gj_up_eq, gj_up_eq, gj_up_i (show (1 : Int) ≠ 0 by decide), gj_up_i (show (2 : Int) ≠ 0 by decide), gj_up_i (show (28 : Int) ≠ 27 by decide), gj_up_i (show (30 : Int) ≠ 27 by decide), a1]
    exact ⟨⟨rfl, gj_w_w⟩, ⟨a3, a4⟩, a5⟩
  · rw [g_upr (show (29 : Int) ≠ 21 by decide), g_upr (show (30 : Int) ≠ 21 by decide), gj_up_i (show (29 : Int) ≠ 27 by decide), g_upr (show (122 : Int) ≠ 79 by decide)]
    exact h.lg
theorem p_tied {R : gj_M} {c : Int} : ∃ N, gj_it (fun _ _ _ => none) B_X12_may_6 gj_fu 0 c R = J_X12_may_39 c N ∧ gj_Fr [120] [] R N ∧ ∀ j, 0 ≤ j → j < 8 → N 120 j = if R 108 j = -1 then 0 else 1 := by
  refine gj_okM2 (fun y => ∃ N, y = J_X12_may_39 c N ∧ gj_Fr [120] [] R N ∧ ∀ j, 0 ≤ j → j < 8 → N 120 j = if R 108 j = -1 then 0 else 1) (fun l d N => d = c ∧ 0 ≤ l ∧ l ≤ 8 ∧ gj_Fr [120] [] R N ∧ ∀ j, 0 ≤ j → j < l → N 120 j = if R 108 j = -1 then 0 else 1) (fun l _ _ => (8 - l).toNat) ?_ gj_fu 0 c R ⟨rfl, by omega, by omega, gj_Fr.rf, fun j a b => by omega⟩ (by show _ < 2048; omega)
  rintro rec l d N ⟨e1, a, b, f, hN⟩ hr
  rw [e1]
  unfold B_X12_may_6 J_X12_may_32
  by_cases c8 : 8 ≤ l
  · rw [if_pos c8]
    exact ⟨N, rfl, f, fun j x y => hN j x (by omega)⟩
  · have l8 : 0 ≤ l ∧ l < 8 := by omega
    have n108 : N 108 = R 108 := g_fr_row [108] f (by decide) 108 rfl (by decide)
    rw [if_neg c8, gj_chkp l8, gj_chkp l8, gj_chkp l8, n108, gj_let_s, gj_let_s, gj_wle (x := l + 1) (by omega) (by omega)]
    have nx : ∀ v : Int, v = (if R 108 l = -1 then 0 else 1) → ∃ X, rec (l + 1) c (gj_up N 120 l v) = J_X12_may_39 c X ∧ gj_Fr [120] [] R X ∧ ∀ j, 0 ≤ j → j < 8 → X 120 j = if R 108 j = -1 then 0 else 1 := fun v hv => by
      refine hr _ _ _ ⟨rfl, by omega, by omega, f.up (by rw [show [120].contains (120 : Int) = true from rfl]; rfl), fun j x y => ?_⟩ (by omega)
      rw [gj_up_if]
      by_cases e : j = l
      · rw [if_pos e, e]; exact hv
      · rw [if_neg e]; exact hN j x (by omega)
    by_cases c2 : R 108 l = -1
    · rw [if_pos c2]; exact nx 0 (by rw [if_pos c2])
    · rw [if_neg c2]; exact nx 1 (by rw [if_neg c2])
theorem g_drawsB {D : gj_M} (h : 0 ≤ D 21 2 ∧ D 21 2 < 2147483648) : ∀ n : Nat, 0 ≤ g_draws D n 21 2 ∧ g_draws D n 21 2 < 2147483648
  | 0 => h
  | n + 1 => by
    have ih := g_drawsB h n
    show 0 ≤ g_draw n (g_draws D n) 21 2 ∧ g_draw n (g_draws D n) 21 2 < 2147483648
    unfold g_draw
    by_cases c : g_cl n (g_draws D n) ≤ 0
    · rw [if_pos c]; exact ih
    · rw [if_neg c, fr_X2_tie _ _ (M := g_dr1 n (g_draws D n)) 21 2 (by decide) (by decide)]
      unfold g_dr1
      rw [gj_up_eq]
      exact g_lxB
theorem p_pairB {D E : gj_M} {w : Int} (e : F_X2_pairUp w D = some E) (h : 0 ≤ D 21 2 ∧ D 21 2 < 2147483648) : 0 ≤ E 21 2 ∧ E 21 2 < 2147483648 := by
  unfold F_X2_pairUp at e
  rw [gj_let_s, gj_let_s] at e
  obtain ⟨D2, hD2⟩ : ∃ X, X = f_fill (f_fill D 40 8 (-1)) 39 16 0 := ⟨_, rfl⟩
  rw [← hD2] at e
  have d21 : D2 21 2 = D 21 2 := by rw [hD2, f_fill_z (by decide), f_fill_z (by decide)]
  by_cases c0 : w = 0
  · rw [if_pos c0] at e
    obtain ⟨X, x1, x2⟩ := gj_bndd e
    have f : gj_Fr _ _ D2 X := fr_X2_askAll 0 X x1
    rw [← Option.some.inj x2, f 21 2 (by decide) (by decide), d21]; exact h
  rw [if_neg c0] at e
  by_cases c1 : w = 1
  · rw [if_pos c1] at e
    obtain ⟨X, x1, x2⟩ := gj_bndd e
    have f : gj_Fr _ _ D2 X := fr_X2_askAll 4 X x1
    rw [← Option.some.inj x2, f 21 2 (by decide) (by decide), d21]; exact h
  rw [if_neg c1] at e
  by_cases c2 : w = 2
  · rw [if_pos c2] at e
    obtain ⟨X, x1, x2⟩ := gj_bndd e
    have f : gj_Fr _ _ D2 X := fr_X2_takeTurns X x1
    rw [← Option.some.inj x2, f 21 2 (by decide) (by decide), d21]; exact h
  · rw [if_neg c2, p_drawLots, gj_bnd_s] at e
    rw [← Option.some.inj e]
    exact g_drawsB (by rw [d21]; exact h) 4
/-- a May -/
theorem p_holdJ {C R : gj_M} {c : Int} (h : g_NO C R) (c136 : 136 ≤ c) : ∃ D d N, F_X8_hold C = some D ∧ F_X12_may c R = some (d, N) ∧ g_NO D N ∧ 136 ≤ d := by
  obtain ⟨C1, C2, d, R2, a1, a2, a3, h2, d136⟩ := p_askedJ h c136
  obtain ⟨R3, b1, fR3, b2⟩ := p_tied (R := R2) (c := d)
  obtain ⟨C3, g1, g38⟩ := p_gather (w := 0) h2.pl
  have f1 : gj_Fr _ _ C2 C3 := fr_X2_gather 0 C3 g1
  obtain ⟨C4, l1, hlk⟩ := p_look (C := C3)
  have f2 : gj_Fr _ _ C3 C4 := fr_X2_look 1 C4 l1
  have h3 : g_NO C3 R3 := g_NO_fr h2 f1 fR3 (by decide) (by decide)
  have h4 : g_NO C4 R3 := g_NO_fr h3 f2 (gj_Fr.rf (os := []) (ps := [])) (by decide) (by decide)
  have m108 : R3 108 = R2 108 := g_fr_row [108] fR3 (by decide) 108 rfl (by decide)
  have m101 : R3 101 = R2 101 := g_fr_row [101] fR3 (by decide) 101 rfl (by decide)
  have E2 : g_GE C3 C4 R3 := by
    refine ⟨h3.pl, h3.ys, hlk, fun j x z => ?_, fun j x z => ?_⟩
    · have q := g38 j x z
      rw [(h2.n1 j x z).1] at q
      rw [g_fr_row [38] f2 (by decide) 38 rfl (by decide), b2 j x z, g_pe_s m101]
      by_cases c1 : R2 108 j = -1
      · rw [if_pos c1]
        exact ⟨fun t => q.1 ⟨t.1, Or.inr c1⟩, fun t => q.2 (fun u => t ⟨u.1, rfl⟩)⟩
      · rw [if_neg c1]
        exact ⟨fun t => absurd t.2 (by decide), fun t => q.2 (fun u => u.2.elim (fun k => k rfl) c1)⟩
    · rw [b2 j x z]
      by_cases c1 : R2 108 j = -1
      · rw [if_pos c1]; exact Or.inl rfl
      · rw [if_neg c1]; exact Or.inr rfl
  obtain ⟨⟨-, -⟩, ⟨wy, w0, w3⟩, ll, -⟩ := h4.n4
  obtain ⟨C5, R5, p1, p2, p3, p4, p5, p6⟩ := p_pairJ (w := R3 79 28) ⟨w0, w3⟩ E2 ll
  have f3 : gj_Fr _ _ C4 C5 := fr_X2_pairUp _ C5 p1
  have f4 : gj_Fr _ _ R3 R5 := fr_X12_goes _ R5 p2
  have lr : 0 ≤ R5 79 30 ∧ R5 79 30 < 2147483648 := by rw [← p6]; exact p_pairB p1 (by rw [ll]; exact h4.n4.2.2.2)
  have h5 : g_NO C5 R5 := by
    have cc : ∀ z, g_nc.contains z = true → C5 z = C4 z := fun z hz => g_fr_row g_nc f3 (by decide) z hz (g_nc_136 hz)
    have rr : ∀ z, g_nr.contains z = true → R5 z = R3 z := fun z hz => g_fr_row g_nr f4 (by decide) z hz (g_nr_136 hz)
    refine g_NO_mk h4 (fun z a b => g_fr_row [14, 15, 16, 17, 18, 19, 20] f3 (by decide) z (g_7c a b) (by omega)) (fun z e => g_fr_row [83, 86, 89, 92, 95, 98, 101] f4 (by decide) z (g_7r e) (by omega)) ?_ ?_ ?_ ?_ ?_
    · unfold g_N1
      rw [cc 22 rfl, cc 23 rfl, cc 24 rfl, cc 25 rfl, rr 108 rfl, rr 109 rfl, rr 110 rfl, rr 111 rfl]
      exact h4.n1
    · unfold g_N2
      rw [cc 26 rfl, cc 27 rfl, cc 28 rfl, rr 112 rfl, rr 113 rfl, rr 114 rfl]
      exact h4.n2
    · unfold g_N3 g_pe
      rw [rr 101 rfl, rr 108 rfl, rr 109 rfl, rr 110 rfl]
      exact h4.n3
    · unfold g_N4
      rw [f3 21 0 (by decide) (by decide), f3 21 1 (by decide) (by decide), f4 79 27 (by decide) (by decide), f4 79 28 (by decide) (by decide)]
      exact ⟨h4.n4.1, h4.n4.2.1, p6, lr⟩
    · rw [f3 29 1 (by decide) (by decide), f3 29 2 (by decide) (by decide), cc 30 rfl, f4 79 29 (by decide) (by decide), rr 122 rfl]
      exact h4.lg
  have r108 : R5 108 = R2 108 := (g_fr_row [108] f4 (by decide) 108 rfl (by decide)).trans m108
  have fz : ∀ j, 0 ≤ j → j < 8 → R5 120 j = 0 → R5 108 j = -1 := fun j x z e => by
    rw [p5, b2 j x z] at e
    rw [r108]
    by_cases c1 : R2 108 j = -1
    · exact c1
    · rw [if_neg c1] at e; omega
  obtain ⟨C6, R6, q1, q2, h6⟩ := p_bindJ (T := R5 119) 4 gj_fu gj_fu 0 d C5 R5 (by decide) (by decide) (by decide) (by decide) h5 p3 (fun _ _ _ => rfl) (fun j a b => by
    rcases p4 j (by omega) (by omega) with t | ⟨⟨t1, t2, t3, t4⟩, t5, t6⟩
    · exact Or.inl t
    · rcases p4 (R5 119 j) t1 t2 with s | ⟨⟨s1, s2, s3, s4⟩, s5, s6⟩
      · rw [t5] at s; omega
      · rw [t5] at s4
        exact Or.inr ⟨by omega, s4, t4, t5, fz j (by omega) (by omega) t6, fz _ t1 t2 s6⟩)
  obtain ⟨C7, R7, y1, y2, h7⟩ := p_pairsJ 4 gj_fu gj_fu 0 d C6 R6 (by decide) (by decide) (by decide) (by decide) h6
  obtain ⟨C8, R8, z1, z2, h8⟩ := p_aloneJ 8 gj_fu gj_fu 0 d C7 R7 (by decide) (by decide) (by decide) (by decide) h7
  refine ⟨_, d, _, ?_, ?_, g_NO_year h8, d136⟩
  · unfold F_X8_hold
    rw [a1, gj_bnd_s, a2, gj_bnd_s, g1, gj_bnd_s, l1, gj_bnd_s, wy, p1, gj_bnd_s]
    unfold F_X8_bindNewPairs
    rw [q1, gj_bnd_s]
    unfold F_X8_passYear
    rw [y1]
    unfold J_X8_passYear_36
    rw [z1]
    unfold J_X8_passYear_95
    rw [gj_let_s, gj_bnd_s]
  · unfold F_X12_may
    rw [a3, gj_bnd2_s, b1]
    unfold J_X12_may_39
    rw [p2, gj_bnd_s, q2]
    unfold J_X12_may_88
    rw [y2]
    unfold J_X12_may_123
    rw [z2]
    unfold J_X12_may_180
    rw [gj_let_s]
/-- some Mays -/
theorem p_mayL : ∀ (n f g : Nat) (a l c : Int) (C R : gj_M), (a - l).toNat = n → n < f → n < g → (0 ≤ l ∧ l ≤ 50) → a ≤ 50 → g_NO C R → 136 ≤ c → ∃ v D d N, gj_it (fun _ _ _ => none) B_X11_may_31 f a l C = some (v, D) ∧ gj_it (fun _ _ _ _ => none) B_X12_may__27 g a l c R = some (v, (d, N)) ∧ g_NO D N
  | n, 0, g, a, l, c, C, R, e, hf, hg, l0, a5, h, c136 => by omega
  | n, f + 1, 0, a, l, c, C, R, e, hf, hg, l0, a5, h, c136 => by omega
  | n, f + 1, g + 1, a, l, c, C, R, e, hf, hg, l0, a5, h, c136 => by
    rw [gj_it_s, gj_it_s]
    unfold B_X11_may_31 B_X12_may__27 J_X11_may_49
    by_cases q : a ≤ l
    · rw [if_pos q, if_pos q, h.n4.1.1]
      exact ⟨_, _, _, _, rfl, rfl, h⟩
    · obtain ⟨D, d, N, e1, e2, e3, e4⟩ := p_holdJ h c136
      rw [if_neg q, if_neg q, e1, e2, gj_bnd_s, gj_bnd2_s, gj_wle (x := l + 1) (by omega) (by omega)]
      exact p_mayL (n - 1) f g a (l + 1) d D N (by omega) (by omega) (by omega) (by omega) a5 e3 e4
theorem p_mayJ {C R : gj_M} {a c : Int} (h : g_NO C R) (hv : R 79 18 = 1) (ha : 1 ≤ a ∧ a ≤ 50) (c136 : 136 ≤ c) : ∃ v D d N, F_X11_may a C = some (v, D) ∧ F_X12_may_ a c R = some (v, (d, N)) ∧ g_NO D N := by
  have st : f_X5_stands_14 C ≠ 0 := by
    have b0 := h.pl.b0
    have b1 := h.pl.b1
    unfold f_X5_stands_14
    rw [if_neg (by omega), if_neg (by omega)]
    decide
  obtain ⟨v, D, d, N, e1, e2, e3⟩ := p_mayL a.toNat gj_fu 51 a 0 c C R (by rw [Int.sub_zero]) (by show _ < 2048; omega) (by omega) (by decide) ha.2 h c136
  refine ⟨v, D, d, N, ?_, ?_, e3⟩
  · unfold F_X11_may
    dsimp only [gj_letI]
    rw [if_neg (by omega), if_neg (by omega), if_neg st]
    exact e1
  · unfold F_X12_may_
    dsimp only [gj_letI]
    rw [if_neg (by omega), g_in1 ha.1 ha.2, if_neg (by decide)]
    exact e2
