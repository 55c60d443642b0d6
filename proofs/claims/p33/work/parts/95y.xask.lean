/-! PURE: sooner, log and blocks told alike -/
theorem p_likesL {C0 D R : gj_M} {s q : Int} (hp : g_PL C0 R) (hy : g_YS C0 R) (hl : ∀ s q, 0 ≤ s → s < 4 → 4 ≤ q → q < 8 → g_lk C0 D s q) (s8 : 0 ≤ s ∧ s < 8) (q8 : 0 ≤ q ∧ q < 8) (u : ¬ (s < 4 ↔ q < 4)) : F_X12_likesNow s q R = some (f_X2_likes s q D) := by
  have e : D 36 (4 * s + q % 4) = f_X2_likingOf s q 1 C0 := by
    by_cases c : s < 4
    · exact (hl s q s8.1 c (by omega) q8.2).1
    · exact (hl q s q8.1 (by omega) (by omega) s8.2).2.1
  rw [p_likesNow hp hy s8 q8 u]
  unfold f_X2_likes
  rw [p_vw s8 q8, f_at_in (by omega), e]
theorem p_soonerL {C0 D R : gj_M} {s q r : Int} (hp : g_PL C0 R) (hy : g_YS C0 R) (hl : ∀ s q, 0 ≤ s → s < 4 → 4 ≤ q → q < 8 → g_lk C0 D s q) (s8 : 0 ≤ s ∧ s < 8) (q8 : 0 ≤ q ∧ q < 8) (u : ¬ (s < 4 ↔ q < 4)) (r8 : 0 ≤ r ∧ r < 8) (v : ¬ (s < 4 ↔ r < 4)) : F_X12_isSooner s q r R = some (f_X2_soonerOf s q r D) := by
  unfold F_X12_isSooner f_X2_soonerOf
  rw [p_likesL hp hy hl s8 q8 u, gj_bnd_s, p_likesL hp hy hl s8 r8 v, gj_bnd_s]
  dsimp only [gj_letI]
  (repeat' split) <;> rfl
theorem p_bothL {C0 D R : gj_M} {s q : Int} (hp : g_PL C0 R) (hy : g_YS C0 R) (hl : ∀ s q, 0 ≤ s → s < 4 → 4 ≤ q → q < 8 → g_lk C0 D s q) (s8 : 0 ≤ s ∧ s < 4) (q8 : 4 ≤ q ∧ q < 8) (ps : g_pe R 101 s) (pq : g_pe R 101 q) : F_X12_both s q R = some (D 37 (f_cpl s q)) := by
  have n0 := hp.n0
  have n1 := hp.n1
  have pc : ∀ j, g_pe R 101 j → g_pe C0 14 j := fun j x => by
    unfold g_pe at *
    rw [n0, n1]
    exact x
  have as := (hp.al s s8.1 (by omega) (pc s ps)).1
  have aq := (hp.al q (by omega) q8.2 (pc q pq)).1
  unfold F_X12_both F_X12_would
  rw [p_likesNow hp hy (s := s) (q := q) (by omega) (by omega) (by omega), gj_bnd_s, gj_chkp (by omega), p_likesNow hp hy (s := q) (q := s) (by omega) (by omega) (by omega), gj_bnd_s, gj_chkp (by omega), ← as, ← aq, (hl s q s8.1 s8.2 q8.1 q8.2).2.2]
  by_cases c1 : f_X2_likingOf s q 1 C0 ≤ gj_w (1000 * C0 15 s)
  · rw [if_pos c1, if_pos c1]
    rfl
  · rw [if_neg c1, if_neg c1]
    by_cases c2 : f_X2_likingOf q s 1 C0 ≤ gj_w (1000 * C0 15 q)
    · rw [if_pos c2, if_pos c2]
      rfl
    · rw [if_neg c2, if_neg c2]
      rfl
theorem p_soonerJ {C R : gj_M} {a b d : Int} (h : g_VS C R) (hy : R 79 18 = 1 → g_YS C R) : ∃ v D, F_X11_sooner a b d C = some (v, D) ∧ F_X12_sooner a b d R = some v := by
  obtain ⟨s, e1, e2, e3⟩ := p_who (a := a) h
  obtain ⟨t, f1, f2, f3⟩ := p_who (a := b) h
  obtain ⟨r, g1, g2, g3⟩ := p_who (a := d) h
  have sr : s = -1 ∨ (0 ≤ s ∧ s < 8) := e3.imp id (fun x => ⟨x.1, x.2.1⟩)
  have tr : t = -1 ∨ (0 ≤ t ∧ t < 8) := f3.imp id (fun x => ⟨x.1, x.2.1⟩)
  have rr : r = -1 ∨ (0 ≤ r ∧ r < 8) := g3.imp id (fun x => ⟨x.1, x.2.1⟩)
  unfold F_X11_sooner F_X12_sooner
  dsimp only [gj_letI]
  rw [e1, e2, f1, f2, g1, g2, gj_bnd_s, gj_bnd_s, gj_bnd_s, p_areTwo sr tr, p_areTwo sr rr]
  by_cases c1 : f_unl s t = 0
  · rw [if_pos c1, if_pos c1]
    exact ⟨-1, C, rfl, rfl⟩
  rw [if_neg c1, if_neg c1]
  by_cases c2 : f_unl s r = 0
  · rw [if_pos c2, if_pos c2]
    exact ⟨-1, C, rfl, rfl⟩
  rw [if_neg c2, if_neg c2]
  have u1 : s ≠ -1 ∧ t ≠ -1 ∧ ¬ (s < 4 ↔ t < 4) := Decidable.byContradiction (fun q => c1 (if_neg q))
  have u2 : s ≠ -1 ∧ r ≠ -1 ∧ ¬ (s < 4 ↔ r < 4) := Decidable.byContradiction (fun q => c2 (if_neg q))
  obtain ⟨s0, s8, -, v, hp⟩ := e3.resolve_left u1.1
  obtain ⟨D, l1, hlk⟩ := p_look (C := C)
  rw [l1, gj_bnd_s, p_soonerL hp (hy v) hlk (s := s) (q := t) (r := r) ⟨s0, s8⟩ (tr.resolve_left u1.2.1) u1.2.2 (rr.resolve_left u2.2.1) u2.2.2, gj_bnd_s]
  by_cases c3 : f_X2_soonerOf s t r D = 0
  · rw [if_pos c3, if_pos c3]
    exact ⟨0, D, rfl, rfl⟩
  · rw [if_neg c3, if_neg c3]
    exact ⟨1, D, rfl, rfl⟩
theorem x_sooner {M : gj_M} {a b d : Int} (h : g_FK M M) : ∃ v D, F_X11_sooner a b d M = some (v, D) ∧ F_X12_sooner a b d D = some v ∧ g_FK D D := by
  obtain ⟨v, D, v', e1, e2, hD⟩ := w_sooner (a := a) (b := b) (d := d) h.1
  have f1 : gj_Fr _ _ M D := fr_X11_sooner _ _ _ _ e1
  have hM : g_FL M D := g_FL_rz h.2 f1 (by decide)
  obtain ⟨x, D2, k1, k2⟩ := p_soonerJ (a := a) (b := b) (d := d) (g_WK_rz h.1 (g_hi79 f1 (by decide))).vs hM.ys
  obtain ⟨a1, rfl⟩ := g_some2 e1 k1
  exact ⟨v, D, e1, by rw [k2, a1], hD, g_FL_d h.2 f1 (by decide) (by decide)⟩
/-- which two would sooner -/
theorem p_freeL {C0 D R : gj_M} {s q : Int} (n : g_NO C0 R) (hl : ∀ s q, 0 ≤ s → s < 4 → 4 ≤ q → q < 8 → g_lk C0 D s q) (h22 : ∀ j, 0 ≤ j → j < 8 → D 22 j = R 108 j) (s8 : 0 ≤ s ∧ s < 8) (q8 : 0 ≤ q ∧ q < 8) (u : ¬ (s < 4 ↔ q < 4)) : F_X12_isFree s q R = some (f_X2_isBetter s q D) := by
  unfold F_X12_isFree f_X2_isBetter
  rw [gj_chkp s8, f_at_in s8, h22 s s8.1 s8.2]
  by_cases c : R 108 s = -1
  · rw [if_pos c, if_pos c]
  · obtain ⟨⟨m0, m8, mo⟩, -⟩ := (n.n3 s s8.1 s8.2).resolve_left c
    rw [if_neg c, if_neg c, gj_chkp s8, p_soonerL n.pl n.ys hl s8 q8 u ⟨m0, m8⟩ (by omega), gj_bnd_s]
    dsimp only [gj_letI]
    by_cases c2 : f_X2_soonerOf s q (R 108 s) D = 0
    · rw [if_pos c2, if_pos c2]
    · rw [if_neg c2, if_neg c2]
theorem p_wouldL {C0 D R : gj_M} {s q : Int} (n : g_NO C0 R) (hl : ∀ s q, 0 ≤ s → s < 4 → 4 ≤ q → q < 8 → g_lk C0 D s q) (h22 : ∀ j, 0 ≤ j → j < 8 → D 22 j = R 108 j) (s8 : 0 ≤ s ∧ s < 4) (q8 : 4 ≤ q ∧ q < 8) (ps : g_pe R 101 s) (pq : g_pe R 101 q) (X Y : Option Int) : (if R 108 s = q then X else gj_bnd (F_X12_both s q R) (fun x2 => if x2 = 0 then X else gj_bnd (F_X12_isFree s q R) (fun x4 => if x4 = 0 then X else gj_bnd (F_X12_isFree q s R) (fun x6 => if x6 = 0 then X else Y)))) = if f_X2_wouldSooner s q D = 0 then X else Y := by
  obtain ⟨-, t2⟩ := p_twoOf (M := C0) (s := s) (q := q) (by omega) (by omega) (by omega)
  have e : f_X2_wouldSooner s q D = if D 37 (f_cpl s q) = 0 then 0 else if R 108 s = q then 0 else if f_X2_isBetter s q D = 0 then 0 else if f_X2_isBetter q s D = 0 then 0 else 1 := by
    unfold f_X2_wouldSooner f_X3_arePair
    dsimp only [gj_letI]
    rw [f_at_in t2, if_neg (show ¬ s = -1 by omega), if_neg (show ¬ q = -1 by omega), f_at_in (show 0 ≤ s ∧ s < 8 by omega), h22 s (by omega) (by omega)]
    by_cases c0 : R 108 s = q
    · rw [if_pos c0, if_pos c0, if_neg (show ¬ (1 : Int) = 0 by decide)]
    · rw [if_neg c0, if_neg c0, if_pos (show (0 : Int) = 0 from rfl)]
  rw [p_bothL n.pl n.ys hl s8 q8 ps pq, gj_bnd_s, p_freeL n hl h22 (s := s) (q := q) (by omega) (by omega) (by omega), gj_bnd_s, p_freeL n hl h22 (s := q) (q := s) (by omega) (by omega) (by omega), gj_bnd_s]
  by_cases c0 : R 108 s = q
  · have w : f_X2_wouldSooner s q D = 0 := by
      rw [e, if_pos c0]
      split <;> rfl
    rw [if_pos c0, if_pos w]
  rw [if_neg c0]
  rw [if_neg c0] at e
  by_cases c1 : D 37 (f_cpl s q) = 0
  · rw [if_pos c1] at e
    rw [if_pos c1, if_pos e]
  rw [if_neg c1]
  rw [if_neg c1] at e
  by_cases c2 : f_X2_isBetter s q D = 0
  · rw [if_pos c2] at e
    rw [if_pos c2, if_pos e]
  rw [if_neg c2]
  rw [if_neg c2] at e
  by_cases c3 : f_X2_isBetter q s D = 0
  · rw [if_pos c3] at e
    rw [if_pos c3, if_pos e]
  · rw [if_neg c3] at e
    rw [if_neg c3, if_neg (by rw [e]; decide)]
theorem p_blkIn {C0 D R : gj_M} {k l3 : Int} (n : g_NO C0 R) (hl : ∀ s q, 0 ≤ s → s < 4 → 4 ≤ q → q < 8 → g_lk C0 D s q) (h22 : ∀ j, 0 ≤ j → j < 8 → D 22 j = R 108 j) (h14 : D 14 1 = R 101 1) (b1 : R 101 1 ≤ 4) (l30 : 0 ≤ l3 ∧ l3 < R 101 0) (b0 : R 101 0 ≤ 4) (recC : Int → Int → Int → gj_M → Option (Int × gj_M)) (recR : Int → Int → Int → Option Int) : ∀ (m f g : Nat) (l2 l4 : Int), (R 101 1 - l4).toNat = m → m < f → m < g → 0 ≤ l4 → l4 ≤ R 101 1 → 0 ≤ l2 → l2 ≤ 4 * l3 + l4 → (∃ v, gj_it (fun _ _ _ _ _ => none) (B_X11_blocks_26 recC) f k l2 l3 l4 D = some (v, D) ∧ gj_it (fun _ _ _ _ => none) (B_X12_blocks_37 R recR) g k l2 l3 (4 + l4) = some v) ∨ (∃ x, (0 ≤ x ∧ x ≤ 4 * (l3 + 1)) ∧ gj_it (fun _ _ _ _ _ => none) (B_X11_blocks_26 recC) f k l2 l3 l4 D = recC k x (l3 + 1) D ∧ gj_it (fun _ _ _ _ => none) (B_X12_blocks_37 R recR) g k l2 l3 (4 + l4) = recR k x (l3 + 1))
  | m, 0, g, l2, l4, e, hf, hg, a, b, c, d => by omega
  | m, f + 1, 0, l2, l4, e, hf, hg, a, b, c, d => by omega
  | m, f + 1, g + 1, l2, l4, e, hf, hg, a, b, c, d => by
    have eC : ∀ rec, B_X11_blocks_26 recC rec k l2 l3 l4 D = if R 101 1 ≤ l4 then recC k l2 (l3 + 1) D else if f_X2_wouldSooner l3 (4 + l4) D = 0 then rec k l2 l3 (l4 + 1) D else if l2 = k then some (l3 * 100 + 10 + l4, D) else rec k (l2 + 1) l3 (l4 + 1) D := fun rec => by
      unfold B_X11_blocks_26 J_X11_blocks_81 J_X11_blocks_61
      dsimp only [gj_letI]
      rw [h14, gj_wle (x := l3 + 1) (by omega) (by omega), gj_wle (x := 4 + l4) (by omega) (by omega), gj_wle (x := l4 + 1) (by omega) (by omega), gj_wle (x := l2 + 1) (by omega) (by omega), gj_wle (x := l3 * 100) (by omega) (by omega), gj_wle (x := l3 * 100 + 10) (by omega) (by omega), gj_wle (x := l3 * 100 + 10 + l4) (by omega) (by omega)]
    have eR : ∀ rec, B_X12_blocks_37 R recR rec k l2 l3 (4 + l4) = if R 101 1 ≤ l4 then recR k l2 (l3 + 1) else if f_X2_wouldSooner l3 (4 + l4) D = 0 then rec k l2 l3 (4 + (l4 + 1)) else if l2 = k then some (l3 * 100 + 10 + l4) else rec k (l2 + 1) l3 (4 + (l4 + 1)) := fun rec => by
      unfold B_X12_blocks_37 J_X12_blocks_121 J_X12_blocks_101 f_X12_told
      dsimp only [gj_letI]
      rw [gj_wle (x := 4 + R 101 1) (by omega) (by omega), gj_wle (x := l3 + 1) (by omega) (by omega)]
      by_cases q : R 101 1 ≤ l4
      · rw [if_pos q, if_pos (show 4 + R 101 1 ≤ 4 + l4 by omega)]
      · rw [if_neg q, if_neg (show ¬ 4 + R 101 1 ≤ 4 + l4 by omega), gj_chkp (by omega), p_wouldL n hl h22 (s := l3) (q := 4 + l4) (by omega) (by omega) (by unfold g_pe; omega) (by unfold g_pe; omega), gj_wle (x := 4 + l4 + 1) (by omega) (by omega), gj_wle (x := l2 + 1) (by omega) (by omega), if_pos (show 4 ≤ 4 + l4 by omega), gj_wle (x := 100 * l3) (by omega) (by omega), gj_wle (x := 4 + l4 + 6) (by omega) (by omega), gj_wle (x := 100 * l3 + (4 + l4 + 6)) (by omega) (by omega), show 100 * l3 + (4 + l4 + 6) = l3 * 100 + 10 + l4 by omega, show 4 + l4 + 1 = 4 + (l4 + 1) by omega]
    rw [gj_it_s, gj_it_s, eC, eR]
    by_cases q : R 101 1 ≤ l4
    · rw [if_pos q, if_pos q]
      exact Or.inr ⟨l2, by omega, rfl, rfl⟩
    rw [if_neg q, if_neg q]
    by_cases c1 : f_X2_wouldSooner l3 (4 + l4) D = 0
    · rw [if_pos c1, if_pos c1]
      exact p_blkIn n hl h22 h14 b1 l30 b0 recC recR (m - 1) f g l2 (l4 + 1) (by omega) (by omega) (by omega) (by omega) (by omega) c (by omega)
    rw [if_neg c1, if_neg c1]
    by_cases c2 : l2 = k
    · rw [if_pos c2, if_pos c2]
      exact Or.inl ⟨_, rfl, rfl⟩
    · rw [if_neg c2, if_neg c2]
      exact p_blkIn n hl h22 h14 b1 l30 b0 recC recR (m - 1) f g (l2 + 1) (l4 + 1) (by omega) (by omega) (by omega) (by omega) (by omega) (by omega) (by omega)
theorem p_blkOut {C0 D R : gj_M} {k : Int} (n : g_NO C0 R) (hl : ∀ s q, 0 ≤ s → s < 4 → 4 ≤ q → q < 8 → g_lk C0 D s q) (h22 : ∀ j, 0 ≤ j → j < 8 → D 22 j = R 108 j) (h140 : D 14 0 = R 101 0) (h14 : D 14 1 = R 101 1) (b1 : 1 ≤ R 101 1 ∧ R 101 1 ≤ 4) (b0 : R 101 0 ≤ 4) : ∀ (m f g : Nat) (l2 l3 : Int), (R 101 0 - l3).toNat = m → m < f → m < g → 0 ≤ l3 → 0 ≤ l2 → l2 ≤ 4 * l3 → ∃ v, gj_it (fun _ _ _ _ => none) B_X11_blocks_12 f k l2 l3 D = some (v, D) ∧ gj_it (fun _ _ _ => none) (B_X12_blocks_22 R) g k l2 l3 = some v
  | m, 0, g, l2, l3, e, hf, hg, a, c, d => by omega
  | m, f + 1, 0, l2, l3, e, hf, hg, a, c, d => by omega
  | m, f + 1, g + 1, l2, l3, e, hf, hg, a, c, d => by
    have eC : ∀ rec, B_X11_blocks_12 rec k l2 l3 D = if R 101 0 ≤ l3 then (if k = -1 then some (l2, D) else some (-1, D)) else gj_it (fun _ _ _ _ _ => none) (B_X11_blocks_26 rec) gj_fu k l2 l3 0 D := fun rec => by
      unfold B_X11_blocks_12 J_X11_blocks_87
      rw [h140]
    have eR : ∀ rec, B_X12_blocks_22 R rec k l2 l3 = if R 101 0 ≤ l3 then (if k = -1 then some l2 else some (-1)) else gj_it (fun _ _ _ _ => none) (B_X12_blocks_37 R rec) gj_fu k l2 l3 (4 + 0) := fun rec => by
      unfold B_X12_blocks_22 J_X12_blocks_127
      rfl
    rw [gj_it_s, gj_it_s, eC, eR]
    by_cases q : R 101 0 ≤ l3
    · rw [if_pos q, if_pos q]
      by_cases c1 : k = -1
      · rw [if_pos c1, if_pos c1]; exact ⟨_, rfl, rfl⟩
      · rw [if_neg c1, if_neg c1]; exact ⟨_, rfl, rfl⟩
    · rw [if_neg q, if_neg q]
      rcases p_blkIn (k := k) n hl h22 h14 b1.2 (l3 := l3) ⟨a, by omega⟩ b0 (gj_it (fun _ _ _ _ => none) B_X11_blocks_12 f) (gj_it (fun _ _ _ => none) (B_X12_blocks_22 R) g) (R 101 1).toNat gj_fu gj_fu l2 0 (by rw [Int.sub_zero]) (by show _ < 2048; omega) (by show _ < 2048; omega) (by decide) (by omega) c (by omega) with ⟨v, x1, x2⟩ | ⟨x, xb, x1, x2⟩
      · exact ⟨v, x1, x2⟩
      · rw [x1, x2]
        exact p_blkOut n hl h22 h140 h14 b1 b0 (m - 1) f g x (l3 + 1) (by omega) (by omega) (by omega) (by omega) xb.1 xb.2
theorem p_blocksJ {C R : gj_M} {k : Int} (h : g_VS C R) (hy : R 79 18 = 1 → g_NO C R) : ∃ v D, F_X11_blocks k C = some (v, D) ∧ F_X12_blocks k R = some v := by
  obtain ⟨D, l1, hlk⟩ := p_look (C := C)
  have f1 : gj_Fr _ _ C D := fr_X2_look 1 D l1
  have d14 : D 14 = C 14 := g_fr_row [14] f1 (by decide) 14 rfl (by decide)
  have d22 : D 22 = C 22 := g_fr_row [22] f1 (by decide) 22 rfl (by decide)
  unfold F_X11_blocks F_X12_blocks
  rw [l1, gj_bnd_s]
  rcases h with ⟨v0, x0, x1⟩ | ⟨v1, hp⟩
  · rw [if_pos v0]
    have e : gj_it (fun _ _ _ _ => none) B_X11_blocks_12 gj_fu k 0 0 D = if k = -1 then some (0, D) else some (-1, D) := by
      show gj_it (fun _ _ _ _ => none) B_X11_blocks_12 (2047 + 1) k 0 0 D = _
      rw [gj_it_s]
      unfold B_X11_blocks_12 J_X11_blocks_87
      rw [d14, x0, if_pos (by decide)]
    rw [e]
    by_cases c1 : k = -1
    · rw [if_pos c1, if_pos c1]; exact ⟨_, _, rfl, rfl⟩
    · rw [if_neg c1, if_neg c1]; exact ⟨_, _, rfl, rfl⟩
  · have n := hy v1
    have b0 := hp.b0
    have b1 := hp.b1
    have n0 := hp.n0
    have n1 := hp.n1
    rw [if_neg (by omega)]
    obtain ⟨v, y1, y2⟩ := p_blkOut (k := k) n hlk (fun j a b => by rw [d22]; exact (n.n1 j a b).1) (by rw [d14]; exact n0) (by rw [d14]; exact n1) (by omega) (by omega) (R 101 0).toNat gj_fu gj_fu 0 0 (by rw [Int.sub_zero]) (by show _ < 2048; omega) (by show _ < 2048; omega) (by decide) (by decide) (by decide)
    exact ⟨v, D, y1, y2⟩
theorem x_blocks {M : gj_M} {a : Int} (h : g_FK M M) : ∃ v D, F_X11_blocks a M = some (v, D) ∧ F_X12_blocks a D = some v ∧ g_FK D D := by
  obtain ⟨v, D, v', e1, e2, hD⟩ := w_blocks (a := a) h.1
  have f1 : gj_Fr _ _ M D := fr_X11_blocks _ _ e1
  have hM : g_FL M D := g_FL_rz h.2 f1 (by decide)
  obtain ⟨x, D2, k1, k2⟩ := p_blocksJ (k := a) (g_WK_rz h.1 (g_hi79 f1 (by decide))).vs (fun v => (hM.2 v).1)
  obtain ⟨a1, rfl⟩ := g_some2 e1 k1
  exact ⟨v, D, e1, by rw [k2, a1], hD, g_FL_d h.2 f1 (by decide) (by decide)⟩
/-- the log -/
theorem p_logJ {C R : gj_M} {a b : Int} (h : g_LG (C 29 1) (C 29 2) (C 30) (R 79 29) (R 122) ∨ (C 29 2 = 0 ∧ R 79 29 = 0)) : F_X12_log a b R = some (f_X11_log a b C) := by
  have e : R 79 29 = C 29 2 ∧ 0 ≤ C 29 2 ∧ C 29 2 ≤ 40 := by
    rcases h with q | q
    · exact ⟨q.1, q.2.1⟩
    · omega
  unfold F_X12_log f_X11_log f_X1_size f_X1_tell
  dsimp only [gj_letI]
  rw [e.1]
  by_cases c1 : a = -1
  · rw [if_pos c1, if_pos c1]
  rw [if_neg c1, if_neg c1, gj_wle (x := C 29 2 - 1) (by omega) (by omega)]
  by_cases c2 : 0 ≤ a ∧ a ≤ C 29 2 - 1
  · rw [g_in1 c2.1 c2.2, if_neg (by decide), if_neg (show ¬ a < 0 by omega), if_neg (show ¬ C 29 2 ≤ a by omega)]
    by_cases c3 : 0 ≤ b ∧ b ≤ 4
    · obtain ⟨-, -, lf, ll⟩ := h.resolve_right (by omega)
      rw [g_in1 c3.1 c3.2, if_neg (by decide), if_neg (show ¬ b < 0 by omega), if_pos (show b < 5 by omega), gj_wle (x := 5 * a) (by omega) (by omega), gj_wle (x := 5 * a + b) (by omega) (by omega), gj_chkp (by omega), gj_wle (x := C 29 1 + a) (by omega) (by omega), g_tmod (by omega), gj_wle (x := (C 29 1 + a) % 40 * 5) (by omega) (by omega), gj_wle (by omega) (by omega), f_at_in (by omega), ll a b c2.1 (by omega) c3.1 (by omega)]
    · rw [g_in0 c3, if_pos rfl]
      by_cases d : b < 0
      · rw [if_pos d]
      · rw [if_neg d, if_neg (by omega)]
  · rw [g_in0 c2, if_pos rfl]
    by_cases d : a < 0
    · rw [if_pos d]
    · rw [if_neg d, if_pos (by omega)]
/-- a new object -/
theorem x_new : g_FK gj_m0 gj_m0 := by
  have z0 : ∀ a i : Int, (a ≠ 68 ∧ a ≠ 58 ∧ a ≠ 48 ∧ a ≠ 22) ∧ ¬ (a = 79 ∧ i = 37) → gj_m0 a i = 0 := by
    rintro a i ⟨⟨h1, h2, h3, h4⟩, h5⟩
    unfold gj_m0 k_mF
    rw [if_neg]
    rintro (⟨q, -, -⟩ | ⟨-, q⟩)
    · simp at q
      omega
    · exact h5 q
  refine ⟨w_new, fun i a b => ?_, fun v => ?_⟩
  · rw [z0 78 i (by omega), z0 80 i (by omega)]
  · rw [z0 79 18 (by omega)] at v
    exact absurd v (by decide)
