/-! PURE: the two reckon alike: the most, and what brings it -/
def g_sel (dv : Int → Int) (w nv cnt : Int) : Nat → Int → Int → Int → Int × Int
  | 0, _, m, b => (m, b)
  | f + 1, a, m, b => if cnt ≤ a then (m, b) else if a = w ∨ (a ≠ -1 ∧ a = nv) then g_sel dv w nv cnt f (a + 1) m b else if m < dv a then g_sel dv w nv cnt f (a + 1) (dv a) a else g_sel dv w nv cnt f (a + 1) m b
theorem g_sel_b {dv : Int → Int} {w nv cnt B : Int} (h : ∀ a, -1 ≤ a → a < cnt → -B ≤ dv a ∧ dv a ≤ B) : ∀ (f : Nat) (a m b : Int), -1 ≤ a → -B ≤ m ∧ m ≤ B → -B ≤ (g_sel dv w nv cnt f a m b).1 ∧ (g_sel dv w nv cnt f a m b).1 ≤ B
  | 0, a, m, b, _, hm => hm
  | f + 1, a, m, b, ha, hm => by
    unfold g_sel
    by_cases c1 : cnt ≤ a
    · rw [if_pos c1]; exact hm
    · rw [if_neg c1]
      by_cases c2 : a = w ∨ (a ≠ -1 ∧ a = nv)
      · rw [if_pos c2]; exact g_sel_b h f (a + 1) m b (by omega) hm
      · rw [if_neg c2]
        by_cases c3 : m < dv a
        · rw [if_pos c3]; exact g_sel_b h f (a + 1) (dv a) a (by omega) (h a ha (by omega))
        · rw [if_neg c3]; exact g_sel_b h f (a + 1) m b (by omega) hm
def g_fu (a : Int) : Nat := (4 - a).toNat + 1
theorem g_fu_s {a : Int} (h : a < 4) : g_fu a = g_fu (a + 1) + 1 := by
  unfold g_fu
  omega
/-- values of all that one may do, alike on both sides -/
def g_DV (s n w y : Int) (rc rr : Int → Int → Int → gj_M → Option (Int × gj_M)) (C R : gj_M) (dv : Int → Int) : Prop :=
  ∀ a, g_av s a R → F_X4_doing rc a n w y C = some (dv a, C) ∧ (∀ x0, ∃ x, F_X12_by rr w y n a (gj_up R 79 38 x0) = some (dv a, gj_up R 79 38 x)) ∧ -(10000000 * n) ≤ dv a ∧ dv a ≤ 10000000 * n
theorem p_dv {s n w y : Int} {rc rr : Int → Int → Int → gj_M → Option (Int × gj_M)} {C R : gj_M} (s8 : 0 ≤ s ∧ s < 8) (hn : 1 ≤ n ∧ n ≤ 6) (H : g_HR s rc rr n) (h : g_MR s C R) : ∃ dv, g_DV s n w y rc rr C R dv := by
  refine ⟨fun a => match F_X4_doing rc a n w y C with
    | some r => r.1
    | none => 0, fun a ha => ?_⟩
  obtain ⟨v, x, e1, -, e3⟩ := p_doing (w := w) (y := y) s8 hn H h ha
  dsimp only
  rw [e1]
  refine ⟨rfl, fun x0 => ?_, e3⟩
  obtain ⟨v2, x2, f1, f2, -⟩ := p_doing (w := w) (y := y) s8 hn H (g_MR_38 (x := x0) h) (by
    unfold g_av at *
    rw [gj_up_z (by decide)]
    exact ha)
  rw [e1] at f1
  obtain rfl : v = v2 := by simpa using f1
  exact ⟨x2, by rw [f2, gj_up_up]⟩
/-- the class's most -/
theorem p_most {s n w y m b : Int} {rc rr : Int → Int → Int → gj_M → Option (Int × gj_M)} {C R : gj_M} {dv : Int → Int} (h : g_MR s C R) (H : g_DV s n w y rc rr C R dv) : gj_it (fun _ _ _ _ _ _ => none) (B_X4_worthOf_19 rc) gj_fu n w y m (-1) C = some ((g_sel dv w (C 31 10) (C 31 6) 6 (-1) m b).1, C) := by
  have c4 := h.cnt
  have e6 := h.2.1.2.2
  refine gj_okM5 (fun z => z = some ((g_sel dv w (C 31 10) (C 31 6) 6 (-1) m b).1, C)) (fun l1 l2 l3 l4 l6 D => l1 = n ∧ l2 = w ∧ l3 = y ∧ D = C ∧ -1 ≤ l6 ∧ l6 ≤ 4 ∧ ∃ b2, (g_sel dv w (C 31 10) (C 31 6) (g_fu l6) l6 l4 b2).1 = (g_sel dv w (C 31 10) (C 31 6) 6 (-1) m b).1) (fun _ _ _ _ l6 _ => (4 - l6).toNat) ?_ gj_fu n w y m (-1) C ⟨rfl, rfl, rfl, rfl, by omega, by omega, b, rfl⟩ (by show _ < 2048; omega)
  rintro rec l1 l2 l3 l4 l6 D ⟨e1, e2, e3, e4, x, z, b2, hs⟩ hr
  rw [e1, e2, e3, e4]
  unfold B_X4_worthOf_19 J_X4_worthOf_59 f_X4_isShut
  dsimp only [gj_letI]
  rw [show gj_w (l6 + 1) = l6 + 1 from gj_wle (by omega) (by omega)]
  by_cases c1 : C 31 6 ≤ l6
  · have : g_sel dv w (C 31 10) (C 31 6) (g_fu l6) l6 l4 b2 = (l4, b2) := by
      unfold g_fu g_sel
      rw [if_pos c1]
    rw [this] at hs
    rw [if_pos c1, ← hs]
  · rw [if_neg c1]
    rw [g_fu_s (by omega)] at hs
    unfold g_sel at hs
    rw [if_neg c1] at hs
    by_cases c2 : l6 = w
    · rw [if_pos (Or.inl c2)] at hs
      rw [if_pos c2]
      exact hr _ _ _ _ _ _ ⟨rfl, rfl, rfl, rfl, by omega, by omega, b2, hs⟩ (by omega)
    · rw [if_neg c2]
      by_cases c3 : l6 ≠ -1 ∧ l6 = C 31 10
      · rw [if_pos (Or.inr c3)] at hs
        rw [if_neg c3.1, if_pos c3.2, if_neg (show ¬ (1 : Int) = 0 by decide)]
        exact hr _ _ _ _ _ _ ⟨rfl, rfl, rfl, rfl, by omega, by omega, b2, hs⟩ (by omega)
      · rw [if_neg (show ¬ (l6 = w ∨ (l6 ≠ -1 ∧ l6 = C 31 10)) by omega)] at hs
        have e0 : (if l6 = -1 then (0 : Int) else if l6 = C 31 10 then 1 else 0) = 0 := by
          by_cases d1 : l6 = -1
          · rw [if_pos d1]
          · rw [if_neg d1, if_neg (by omega)]
        obtain ⟨d1, -, -⟩ := H l6 (by unfold g_av; omega)
        rw [e0, if_pos rfl, d1, gj_bnd2_s]
        unfold f_maxL
        by_cases c4 : l4 < dv l6
        · rw [if_pos c4] at hs
          rw [if_neg (show ¬ dv l6 < l4 by omega)]
          exact hr _ _ _ _ _ _ ⟨rfl, rfl, rfl, rfl, by omega, by omega, l6, hs⟩ (by omega)
        · rw [if_neg c4] at hs
          by_cases c5 : dv l6 < l4
          · rw [if_pos c5]
            exact hr _ _ _ _ _ _ ⟨rfl, rfl, rfl, rfl, by omega, by omega, b2, hs⟩ (by omega)
          · rw [if_neg c5, show dv l6 = l4 by omega]
            exact hr _ _ _ _ _ _ ⟨rfl, rfl, rfl, rfl, by omega, by omega, b2, hs⟩ (by omega)
/-- the reference's most, and what brings it -/
theorem p_mostR {s n w y m b l6 x0 : Int} {rc rr : Int → Int → Int → gj_M → Option (Int × gj_M)} {C R : gj_M} {dv : Int → Int} (s8 : 0 ≤ s ∧ s < 8) (h : g_MR s C R) (H : g_DV s n w y rc rr C R dv) (hl : l6 = -1 ∨ l6 = 0) : J_X12_worth_29 rr w y n b m l6 (gj_up R 79 38 x0) = some ((g_sel dv w (C 31 10) (C 31 6) (g_fu l6) l6 m b).1, gj_up R 79 38 (g_sel dv w (C 31 10) (C 31 6) (g_fu l6) l6 m b).2) := by
  have c4 := h.cnt
  have e6 := h.2.1.2.2
  have e10 := h.2.2.2.1
  have e35 := h.2.1.2.1
  unfold J_X12_worth_29
  refine gj_okM6 (fun z => z = some ((g_sel dv w (C 31 10) (C 31 6) (g_fu l6) l6 m b).1, gj_up R 79 38 (g_sel dv w (C 31 10) (C 31 6) (g_fu l6) l6 m b).2)) (fun l1 l2 l3 b2 m2 a D => l1 = w ∧ l2 = y ∧ l3 = n ∧ -1 ≤ a ∧ a ≤ 4 ∧ (∃ x, D = gj_up R 79 38 x) ∧ g_sel dv w (C 31 10) (C 31 6) (g_fu a) a m2 b2 = g_sel dv w (C 31 10) (C 31 6) (g_fu l6) l6 m b) (fun _ _ _ _ _ a _ => (4 - a).toNat) ?_ gj_fu w y n b m l6 _ ⟨rfl, rfl, rfl, by omega, by omega, ⟨x0, rfl⟩, rfl⟩ (by show _ < 2048; omega)
  rintro rec l1 l2 l3 b2 m2 a D ⟨e1, e2, e3, y0, y4, ⟨x, eD⟩, hs⟩ hr
  rw [e1, e2, e3, eD]
  have r35 : gj_up R 79 38 x 79 35 = s := by rw [gj_up_i (by decide)]; exact e35
  have r101 : gj_up R 79 38 x 101 (g_ot s) = C 31 6 := by rw [gj_up_z (by decide), e6]
  have r37 : gj_up R 79 38 x 79 37 = C 31 10 := by rw [gj_up_i (by decide), e10]
  have h01 := g_ot_01 (s := s)
  unfold B_X12_worth_31 F_X12_othersMany J_X12_worth_99 J_X12_worth_93
  rw [r35, g_ot_e s8, gj_chkp (by omega), gj_bnd_s, r101, r37, show gj_w (a + 1) = a + 1 from gj_wle (by omega) (by omega)]
  by_cases c1 : C 31 6 ≤ a
  · have : g_sel dv w (C 31 10) (C 31 6) (g_fu a) a m2 b2 = (m2, b2) := by
      unfold g_fu g_sel
      rw [if_pos c1]
    rw [this] at hs
    rw [if_pos c1, gj_let_s, gj_up_up, ← hs]
  · rw [if_neg c1]
    rw [g_fu_s (by omega)] at hs
    unfold g_sel at hs
    rw [if_neg c1] at hs
    have nx : ∀ (p q x' : Int), g_sel dv w (C 31 10) (C 31 6) (g_fu (a + 1)) (a + 1) q p = g_sel dv w (C 31 10) (C 31 6) (g_fu l6) l6 m b → rec w y n p q (a + 1) (gj_up R 79 38 x') = some ((g_sel dv w (C 31 10) (C 31 6) (g_fu l6) l6 m b).1, gj_up R 79 38 (g_sel dv w (C 31 10) (C 31 6) (g_fu l6) l6 m b).2) := fun p q x' hh => hr _ _ _ _ _ _ _ ⟨rfl, rfl, rfl, by omega, by omega, ⟨x', rfl⟩, hh⟩ (by omega)
    by_cases c2 : a = w
    · rw [if_pos (Or.inl c2)] at hs
      rw [if_pos c2]
      exact nx _ _ _ hs
    · rw [if_neg c2]
      have av : g_av s a R := by unfold g_av; omega
      obtain ⟨x', ex⟩ := (H a av).2.1 x
      by_cases c3 : a = -1
      · rw [if_neg (show ¬ (a = w ∨ (a ≠ -1 ∧ a = C 31 10)) by omega)] at hs
        rw [if_pos c3, ex, gj_bnd2_s]
        by_cases c4 : m2 < dv a
        · rw [if_pos c4] at hs
          rw [if_pos c4]
          exact nx _ _ _ hs
        · rw [if_neg c4] at hs
          rw [if_neg c4]
          exact nx _ _ _ hs
      · rw [if_neg c3]
        by_cases c5 : a = C 31 10
        · rw [if_pos (Or.inr ⟨c3, c5⟩)] at hs
          rw [if_pos c5]
          exact nx _ _ _ hs
        · rw [if_neg (show ¬ (a = w ∨ (a ≠ -1 ∧ a = C 31 10)) by omega)] at hs
          rw [if_neg c5, ex, gj_bnd2_s]
          by_cases c4 : m2 < dv a
          · rw [if_pos c4] at hs
            rw [if_pos c4]
            exact nx _ _ _ hs
          · rw [if_neg c4] at hs
            rw [if_neg c4]
            exact nx _ _ _ hs
theorem g_sel_w {dv : Int → Int} {nv cnt m b : Int} (h : 1 ≤ cnt) : g_sel dv (-1) nv cnt 6 (-1) m b = g_sel dv (-1) nv cnt (g_fu 0) 0 m b := by
  show g_sel dv (-1) nv cnt (5 + 1) (-1) m b = g_sel dv (-1) nv cnt 5 0 m b
  conv => lhs; unfold g_sel
  rw [if_neg (by omega), if_pos (Or.inl rfl)]
  rfl
/-- a node: class and reference -/
theorem p_node {s n w y : Int} {rc rr : Int → Int → Int → gj_M → Option (Int × gj_M)} {C R : gj_M} {dv : Int → Int} (s8 : 0 ≤ s ∧ s < 8) (hn : 1 ≤ n ∧ n ≤ 6) (h : g_MR s C R) (H : g_DV s n w y rc rr C R dv) (hw : g_av s w R) :
    F_X4_worthOf rc n w y C = some ((g_sel dv w (C 31 10) (C 31 6) 6 (-1) (dv w) w).1, C)
    ∧ F_X12_worth rr w y n R = some ((g_sel dv w (C 31 10) (C 31 6) 6 (-1) (dv w) w).1, gj_up R 79 38 (g_sel dv w (C 31 10) (C 31 6) 6 (-1) (dv w) w).2) := by
  obtain ⟨d1, d2, -⟩ := H w hw
  refine ⟨?_, ?_⟩
  · unfold F_X4_worthOf
    rw [if_pos (by omega), d1, gj_bnd2_s]
    exact p_most h H
  · obtain ⟨x, e⟩ := d2 (R 79 38)
    rw [gj_up_id] at e
    unfold F_X12_worth
    rw [if_neg (by omega), e, gj_bnd2_s]
    by_cases c : w = -1
    · rw [if_pos c, p_mostR s8 h H (Or.inr rfl), c, g_sel_w (by have := h.cnt; have := h.2.1.2.2; omega)]
    · rw [if_neg c, p_mostR s8 h H (Or.inl rfl)]
      rfl
theorem p_worthJ {s : Int} (s8 : 0 ≤ s ∧ s < 8) : ∀ (f : Nat) (n w y : Int) (C R : gj_M), 0 ≤ n → n < f → n ≤ 6 → g_MR s C R → g_av s w R → ∃ v x, F_X4_worth f n w y C = some (v, C) ∧ F_X12_worthN f w y n R = some (v, gj_up R 79 38 x) ∧ -(10000000 * n) ≤ v ∧ v ≤ 10000000 * n
  | 0, n, w, y, C, R, h0, h1, _, _, _ => absurd h1 (by omega)
  | f + 1, n, w, y, C, R, h0, h1, h6, h, hw => by
    unfold F_X4_worth F_X12_worthN
    rw [gj_it_s, gj_it_s]
    by_cases c : n = 0
    · refine ⟨0, R 79 38, ?_, ?_, by omega, by omega⟩
      · unfold F_X4_worthOf
        rw [if_neg (by omega)]
      · unfold F_X12_worth
        rw [if_pos c, gj_up_id]
    · have H : g_HR s (gj_it (fun _ _ _ _ => none) F_X4_worthOf f) (gj_it (fun _ _ _ _ => none) F_X12_worth f) n := fun w y C R h hw => by
        have e : gj_w (n - 1) = n - 1 := gj_wle (by omega) (by omega)
        obtain ⟨v, x, q1, q2, q3⟩ := p_worthJ s8 f (n - 1) w y C R (by omega) (by omega) (by omega) h hw
        rw [e]
        exact ⟨v, x, q1, q2, q3⟩
      obtain ⟨dv, D⟩ := p_dv (w := w) (y := y) s8 (by omega) H h
      obtain ⟨e1, e2⟩ := p_node s8 (by omega) h D hw
      have bd := g_sel_b (dv := dv) (w := w) (nv := C 31 10) (cnt := C 31 6) (B := 10000000 * n) (fun a x y => (D a (by unfold g_av; rw [← h.2.1.2.2]; omega)).2.2) 6 (-1) (dv w) w (by omega) (D w hw).2.2
      exact ⟨_, _, e1, e2, bd⟩
theorem g_sel_c {dv : Int → Int} {w nv cnt : Int} : ∀ (f : Nat) (a m b : Int), -1 ≤ a → g_sel dv w nv cnt f a m b = (m, b) ∨ (m < (g_sel dv w nv cnt f a m b).1 ∧ (g_sel dv w nv cnt f a m b).2 ≠ w ∧ -1 ≤ (g_sel dv w nv cnt f a m b).2 ∧ (g_sel dv w nv cnt f a m b).2 < cnt)
  | 0, a, m, b, _ => Or.inl rfl
  | f + 1, a, m, b, ha => by
    unfold g_sel
    by_cases c1 : cnt ≤ a
    · rw [if_pos c1]; exact Or.inl rfl
    · rw [if_neg c1]
      by_cases c2 : a = w ∨ (a ≠ -1 ∧ a = nv)
      · rw [if_pos c2]; exact g_sel_c f (a + 1) m b (by omega)
      · rw [if_neg c2]
        by_cases c3 : m < dv a
        · rw [if_pos c3]
          rcases g_sel_c (dv := dv) (w := w) (nv := nv) (cnt := cnt) f (a + 1) (dv a) a (by omega) with e | ⟨e1, e2, e3⟩
          · rw [e]; exact Or.inr ⟨c3, by omega, by show -1 ≤ a; omega, by show a < cnt; omega⟩
          · exact Or.inr ⟨by omega, e2, e3⟩
        · rw [if_neg c3]; exact g_sel_c f (a + 1) m b (by omega)
/-- the class's best act -/
theorem p_bestLoop {s n : Int} {C R : gj_M} {dv : Int → Int} (h : g_MR s C R) (H : g_DV s n (C 31 7) (C 31 8) (F_X4_worth 5) (F_X12_worthN 5) C R dv) {m b : Int} : gj_it (fun _ _ _ _ _ => none) B_X4_bestAct_26 gj_fu n b m (-1) C = some ((g_sel dv (C 31 7) (C 31 10) (C 31 6) 6 (-1) m b).2, C) := by
  have c4 := h.cnt
  have e6 := h.2.1.2.2
  refine gj_okM4 (fun z => z = some ((g_sel dv (C 31 7) (C 31 10) (C 31 6) 6 (-1) m b).2, C)) (fun l1 b2 m2 a D => l1 = n ∧ D = C ∧ -1 ≤ a ∧ a ≤ 4 ∧ g_sel dv (C 31 7) (C 31 10) (C 31 6) (g_fu a) a m2 b2 = g_sel dv (C 31 7) (C 31 10) (C 31 6) 6 (-1) m b) (fun _ _ _ a _ => (4 - a).toNat) ?_ gj_fu n b m (-1) C ⟨rfl, rfl, by omega, by omega, rfl⟩ (by show _ < 2048; omega)
  rintro rec l1 b2 m2 a D ⟨e1, e4, x, z, hs⟩ hr
  rw [e1, e4]
  unfold B_X4_bestAct_26 J_X4_bestAct_86 f_X4_isShut
  dsimp only [gj_letI]
  rw [show gj_w (a + 1) = a + 1 from gj_wle (by omega) (by omega)]
  by_cases c1 : C 31 6 ≤ a
  · have : g_sel dv (C 31 7) (C 31 10) (C 31 6) (g_fu a) a m2 b2 = (m2, b2) := by
      unfold g_fu g_sel
      rw [if_pos c1]
    rw [this] at hs
    rw [if_pos c1, ← hs]
  · rw [if_neg c1]
    rw [g_fu_s (by omega)] at hs
    unfold g_sel at hs
    rw [if_neg c1] at hs
    have nx : ∀ (p q : Int), g_sel dv (C 31 7) (C 31 10) (C 31 6) (g_fu (a + 1)) (a + 1) q p = g_sel dv (C 31 7) (C 31 10) (C 31 6) 6 (-1) m b → rec n p q (a + 1) C = some ((g_sel dv (C 31 7) (C 31 10) (C 31 6) 6 (-1) m b).2, C) := fun p q hh => hr _ _ _ _ _ ⟨rfl, rfl, by omega, by omega, hh⟩ (by omega)
    by_cases c2 : a = C 31 7
    · rw [if_pos (Or.inl c2)] at hs
      rw [if_pos c2]
      exact nx _ _ hs
    · rw [if_neg c2]
      by_cases c3 : a ≠ -1 ∧ a = C 31 10
      · rw [if_pos (Or.inr c3)] at hs
        rw [if_neg c3.1, if_pos c3.2, if_neg (show ¬ (1 : Int) = 0 by decide)]
        exact nx _ _ hs
      · rw [if_neg (show ¬ (a = C 31 7 ∨ (a ≠ -1 ∧ a = C 31 10)) by omega)] at hs
        have e0 : (if a = -1 then (0 : Int) else if a = C 31 10 then 1 else 0) = 0 := by
          by_cases d1 : a = -1
          · rw [if_pos d1]
          · rw [if_neg d1, if_neg (by omega)]
        obtain ⟨d1, -, -⟩ := H a (by unfold g_av; omega)
        rw [e0, if_pos rfl, d1, gj_bnd2_s]
        by_cases c4 : m2 < dv a
        · rw [if_pos c4] at hs
          rw [if_neg (show ¬ dv a ≤ m2 by omega)]
          exact nx _ _ hs
        · rw [if_neg c4] at hs
          rw [if_pos (show dv a ≤ m2 by omega)]
          exact nx _ _ hs
theorem p_HR5 {s n : Int} (s8 : 0 ≤ s ∧ s < 8) (hn : 1 ≤ n ∧ n ≤ 5) : g_HR s (F_X4_worth 5) (F_X12_worthN 5) n := fun w y C R h hw => by
  have e : gj_w (n - 1) = n - 1 := gj_wle (by omega) (by omega)
  obtain ⟨v, x, q1, q2, q3⟩ := p_worthJ s8 5 (n - 1) w y C R (by omega) (by omega) (by omega) h hw
  rw [e]
  exact ⟨v, x, q1, q2, q3⟩
/-- the class's best, told alike -/
theorem p_best6 {s n : Int} {C R : gj_M} (s8 : 0 ≤ s ∧ s < 8) (hn : 1 ≤ n ∧ n ≤ 4) (h : g_MR s C R) (hw : g_av s (C 31 7) R) : ∃ v b d, F_X4_bestAct n C = some (b, C) ∧ F_X4_worth 6 n (C 31 7) (C 31 8) C = some (v, C) ∧ F_X12_worthN 6 (C 31 7) (C 31 8) n R = some (v, gj_up R 79 38 b) ∧ F_X4_doing (F_X4_worth 5) (C 31 7) n (C 31 7) (C 31 8) C = some (d, C)
    ∧ (-(10000000 * n) ≤ v ∧ v ≤ 10000000 * n) ∧ (-(10000000 * n) ≤ d ∧ d ≤ 10000000 * n) ∧ ((v = d ∧ b = C 31 7) ∨ (d < v ∧ b ≠ C 31 7 ∧ -1 ≤ b ∧ b < C 31 6)) := by
  obtain ⟨dv, D⟩ := p_dv (w := C 31 7) (y := C 31 8) s8 (by omega) (p_HR5 (n := n) s8 (by omega)) h
  obtain ⟨e1, e2⟩ := p_node s8 (by omega) h D hw
  obtain ⟨d1, -, d3⟩ := D _ hw
  have bd := g_sel_b (dv := dv) (w := C 31 7) (nv := C 31 10) (cnt := C 31 6) (B := 10000000 * n) (fun a x y => (D a (by unfold g_av; rw [← h.2.1.2.2]; omega)).2.2) 6 (-1) (dv (C 31 7)) (C 31 7) (by omega) d3
  refine ⟨_, (g_sel dv (C 31 7) (C 31 10) (C 31 6) 6 (-1) (dv (C 31 7)) (C 31 7)).2, dv (C 31 7), ?_, e1, e2, d1, bd, d3, ?_⟩
  · unfold F_X4_bestAct
    rw [d1, gj_bnd2_s]
    exact p_bestLoop h D
  · rcases g_sel_c (dv := dv) (w := C 31 7) (nv := C 31 10) (cnt := C 31 6) 6 (-1) (dv (C 31 7)) (C 31 7) (by omega) with e | e
    · rw [e]; exact Or.inl ⟨rfl, rfl⟩
    · exact Or.inr e
