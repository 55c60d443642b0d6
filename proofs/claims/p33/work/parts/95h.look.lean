/-! PURE: whom they would have: the class looks, the reference reckons each time -/
/-- of a pair (s of the LEFT, q of the RIGHT): what look writes -/
def g_lk (C D : gj_M) (s q : Int) : Prop :=
  D 36 (4 * s + q % 4) = f_X2_likingOf s q 1 C ∧ D 36 (4 * q + s % 4) = f_X2_likingOf q s 1 C
  ∧ D 37 (f_cpl s q) = (if f_X2_likingOf s q 1 C ≤ gj_w (1000 * C 15 s) then 0 else if f_X2_likingOf q s 1 C ≤ gj_w (1000 * C 15 q) then 0 else 1)
theorem g_liking_s {C D : gj_M} {s q : Int} (h14 : D 14 = C 14) (h20 : D 20 = C 20) (h26 : D 26 = C 26) (h27 : D 27 = C 27) (h28 : D 28 = C 28) : f_X2_likingOf s q 1 D = f_X2_likingOf s q 1 C := by
  unfold f_X2_likingOf J_X2_likingOf_27 J_X2_likingOf_49 f_X5_gain f_X5_shownGood f_at
  dsimp only [gj_letI]
  rw [h14, h20, h26, h27, h28]
theorem p_look {C : gj_M} : ∃ D, F_X2_look 1 C = some D ∧ ∀ s q, 0 ≤ s → s < 4 → 4 ≤ q → q < 8 → g_lk C D s q := by
  refine k_cps (fun P done => ?_)
  unfold F_X2_look
  have fr : ∀ K : gj_M, gj_Fr [36, 37] [] C K → K 14 = C 14 ∧ K 15 = C 15 ∧ K 20 = C 20 ∧ K 26 = C 26 ∧ K 27 = C 27 ∧ K 28 = C 28 := fun K f => ⟨g_fr_row [14] f (by decide) 14 rfl (by decide), g_fr_row [15] f (by decide) 15 rfl (by decide), g_fr_row [20] f (by decide) 20 rfl (by decide), g_fr_row [26] f (by decide) 26 rfl (by decide), g_fr_row [27] f (by decide) 27 rfl (by decide), g_fr_row [28] f (by decide) 28 rfl (by decide)⟩
  refine gj_okM2 P (fun l1 l2 K => l1 = 1 ∧ 0 ≤ l2 ∧ l2 ≤ 4 ∧ gj_Fr [36, 37] [] C K ∧ ∀ s q, 0 ≤ s → s < l2 → 4 ≤ q → q < 8 → g_lk C K s q) (fun _ l2 _ => (4 - l2).toNat) ?_ gj_fu 1 0 C ⟨rfl, by omega, by omega, gj_Fr.rf, fun s q a b => by omega⟩ (by show _ < 2048; omega)
  rintro rec l1 l2 K ⟨e1, a, b, f, hK⟩ hr
  rw [e1]
  unfold B_X2_look_2
  refine k_ite (fun c => done K (fun s q x y z w => hK s q x (by omega) z w)) (fun c => ?_)
  refine gj_okM3 P (fun m1 m2 m3 N => m1 = 1 ∧ m2 = l2 ∧ 4 ≤ m3 ∧ m3 ≤ 8 ∧ gj_Fr [36, 37] [] C N ∧ (∀ s q, 0 ≤ s → s < l2 → 4 ≤ q → q < 8 → g_lk C N s q) ∧ ∀ q, 4 ≤ q → q < m3 → g_lk C N l2 q) (fun _ _ m3 _ => (8 - m3).toNat) ?_ gj_fu 1 l2 4 K ⟨rfl, rfl, by omega, by omega, f, hK, fun q x y => by omega⟩ (by show _ < 2048; omega)
  rintro rec9 m1 m2 m3 N ⟨e1, e2, x, y, g, h1, h2⟩ hr9
  rw [e1, e2]
  unfold B_X2_look_9 J_X2_look_94 J_X2_look_85
  refine k_ite (fun d => ?_) (fun d => k_letI ?_)
  · rw [gj_wle (by omega) (by omega)]
    refine hr _ _ _ ⟨rfl, by omega, by omega, g, fun s q p1 p2 p3 p4 => ?_⟩ (by omega)
    by_cases e : s = l2
    · rw [e]; exact h2 q p3 (by omega)
    · exact h1 s q p1 (by omega) p3 p4
  · have s8 : 0 ≤ l2 ∧ l2 < 8 := by omega
    have q8 : 0 ≤ m3 ∧ m3 < 8 := by omega
    obtain ⟨-, t2⟩ := p_twoOf (M := C) s8 q8 (by omega)
    obtain ⟨n14, n15, n20, n26, n27, n28⟩ := fr N g
    rw [p_vw s8 q8, p_vw q8 s8, g_liking_s n14 n20 n26 n27 n28, f_put_in (by omega), gj_let_s]
    have g2 : gj_Fr [36, 37] [] C (gj_up N 36 (4 * l2 + m3 % 4) (f_X2_likingOf l2 m3 1 C)) := g.up (by rw [show [36, 37].contains (36 : Int) = true from rfl]; rfl)
    obtain ⟨o14, o15, o20, o26, o27, o28⟩ := fr _ g2
    refine k_letI ?_
    rw [g_liking_s o14 o20 o26 o27 o28, f_put_in (by omega), gj_let_s]
    have v1 : gj_up (gj_up N 36 (4 * l2 + m3 % 4) (f_X2_likingOf l2 m3 1 C)) 36 (4 * m3 + l2 % 4) (f_X2_likingOf m3 l2 1 C) 36 (4 * l2 + m3 % 4) = f_X2_likingOf l2 m3 1 C := by rw [gj_up_i (by omega), gj_up_eq]
    have v2 : gj_up (gj_up N 36 (4 * l2 + m3 % 4) (f_X2_likingOf l2 m3 1 C)) 36 (4 * m3 + l2 % 4) (f_X2_likingOf m3 l2 1 C) 36 (4 * m3 + l2 % 4) = f_X2_likingOf m3 l2 1 C := gj_up_eq
    have v3 : ∀ i, i ≠ 4 * l2 + m3 % 4 → i ≠ 4 * m3 + l2 % 4 → gj_up (gj_up N 36 (4 * l2 + m3 % 4) (f_X2_likingOf l2 m3 1 C)) 36 (4 * m3 + l2 % 4) (f_X2_likingOf m3 l2 1 C) 36 i = N 36 i := fun i p q => by rw [gj_up_i q, gj_up_i p]
    have v4 : ∀ z i, z ≠ 36 → gj_up (gj_up N 36 (4 * l2 + m3 % 4) (f_X2_likingOf l2 m3 1 C)) 36 (4 * m3 + l2 % 4) (f_X2_likingOf m3 l2 1 C) z i = N z i := fun z i p => by rw [gj_up_z p, gj_up_z p]
    have g3 : gj_Fr [36, 37] [] C (gj_up (gj_up N 36 (4 * l2 + m3 % 4) (f_X2_likingOf l2 m3 1 C)) 36 (4 * m3 + l2 % 4) (f_X2_likingOf m3 l2 1 C)) := g2.up (by rw [show [36, 37].contains (36 : Int) = true from rfl]; rfl)
    generalize gj_up (gj_up N 36 (4 * l2 + m3 % 4) (f_X2_likingOf l2 m3 1 C)) 36 (4 * m3 + l2 % 4) (f_X2_likingOf m3 l2 1 C) = A at *
    have w1 : f_X2_would l2 m3 A = if f_X2_likingOf l2 m3 1 C ≤ gj_w (1000 * C 15 l2) then 0 else 1 := by
      unfold f_X2_would f_X2_likes
      rw [p_vw s8 q8, f_at_in (by omega), f_at_in s8, v1, v4 15 _ (by decide), n15]
      rfl
    have w2 : f_X2_would m3 l2 A = if f_X2_likingOf m3 l2 1 C ≤ gj_w (1000 * C 15 m3) then 0 else 1 := by
      unfold f_X2_would f_X2_likes
      rw [p_vw q8 s8, f_at_in (by omega), f_at_in q8, v2, v4 15 _ (by decide), n15]
      rfl
    have fin : ∀ v : Int, v = (if f_X2_likingOf l2 m3 1 C ≤ gj_w (1000 * C 15 l2) then 0 else if f_X2_likingOf m3 l2 1 C ≤ gj_w (1000 * C 15 m3) then 0 else 1) → P (gj_let (f_put A 37 16 (f_cpl l2 m3) v) fun M8 => rec9 1 l2 (gj_w (m3 + 1)) M8) := by
      intro v hv
      rw [gj_let_s, f_put_in t2, gj_wle (by omega) (by omega)]
      refine hr9 _ _ _ _ ⟨rfl, rfl, by omega, by omega, g3.up (by rw [show [36, 37].contains (37 : Int) = true from rfl]; rfl), fun s q p1 p2 p3 p4 => ?_, fun q p1 p2 => ?_⟩ (by omega)
      · obtain ⟨r1, r2, r3⟩ := h1 s q p1 p2 p3 p4
        have ne : f_cpl s q ≠ f_cpl l2 m3 := fun e => by
          rcases g_cpl_inj (s := s) (q := q) (a := l2) (b := m3) (by omega) (by omega) (by omega) s8 q8 (by omega) e with ⟨x1, x2⟩ | ⟨x1, x2⟩ <;> omega
        refine ⟨?_, ?_, ?_⟩
        · rw [gj_up_z (by decide), v3 _ (by omega) (by omega)]; exact r1
        · rw [gj_up_z (by decide), v3 _ (by omega) (by omega)]; exact r2
        · rw [gj_up_i ne, v4 _ _ (by decide)]; exact r3
      · by_cases e : q = m3
        · rw [e]
          refine ⟨?_, ?_, ?_⟩
          · rw [gj_up_z (by decide)]; exact v1
          · rw [gj_up_z (by decide)]; exact v2
          · rw [gj_up_eq, hv]
        · obtain ⟨r1, r2, r3⟩ := h2 q p1 (by omega)
          have ne : f_cpl l2 q ≠ f_cpl l2 m3 := fun e => by
            rcases g_cpl_inj (s := l2) (q := q) (a := l2) (b := m3) (by omega) (by omega) (by omega) s8 q8 (by omega) e with ⟨x1, x2⟩ | ⟨x1, x2⟩ <;> omega
          refine ⟨?_, ?_, ?_⟩
          · rw [gj_up_z (by decide), v3 _ (by omega) (by omega)]; exact r1
          · rw [gj_up_z (by decide), v3 _ (by omega) (by omega)]; exact r2
          · rw [gj_up_i ne, v4 _ _ (by decide)]; exact r3
    refine k_letI ?_
    rw [w1]
    by_cases c1 : f_X2_likingOf l2 m3 1 C ≤ gj_w (1000 * C 15 l2)
    · rw [if_pos c1, if_pos rfl]
      exact k_chk (Or.inl rfl) (fin 0 (by rw [if_pos c1]))
    · rw [if_neg c1, if_neg (by decide)]
      refine k_letI ?_
      rw [w2]
      by_cases c2 : f_X2_likingOf m3 l2 1 C ≤ gj_w (1000 * C 15 m3)
      · rw [if_pos c2, if_pos rfl]
        exact k_chk (Or.inl rfl) (fin 0 (by rw [if_neg c1, if_pos c2]))
      · rw [if_neg c2, if_neg (by decide)]
        exact k_chk (Or.inr rfl) (fin 1 (by rw [if_neg c1, if_neg c2]))
/-- the environment of a pairing: D has looked (and gathered), R reckons each time; C0 is what D looked at -/
def g_GE (C0 D R : gj_M) : Prop :=
  g_PL C0 R ∧ g_YS C0 R
  ∧ (∀ s q, 0 ≤ s → s < 4 → 4 ≤ q → q < 8 → g_lk C0 D s q)
  ∧ (∀ j, 0 ≤ j → j < 8 → (g_pe R 101 j ∧ R 120 j = 0 → D 38 j = 1) ∧ (¬ (g_pe R 101 j ∧ R 120 j = 0) → D 38 j = 0))
  ∧ (∀ j, 0 ≤ j → j < 8 → R 120 j = 0 ∨ R 120 j = 1)
theorem g_GE_s {C0 D R E U : gj_M} (h : g_GE C0 D R) (h36 : E 36 = D 36) (h37 : E 37 = D 37) (h38 : E 38 = D 38) (hr : ∀ z, g_rk z → U z = R z) (h120 : U 120 = R 120) : g_GE C0 E U := by
  obtain ⟨h1, h2, h3, h4, h5⟩ := h
  refine ⟨g_PL_s h1 (fun _ _ _ => rfl) (fun z e => hr z (by unfold g_rk; omega)), g_YS_s h2 (fun _ _ _ => rfl) (fun z a b => hr z (by unfold g_rk; omega)), ?_, ?_, ?_⟩
  · unfold g_lk
    rw [h36, h37]
    exact h3
  · unfold g_pe
    rw [h38, h120, hr 101 (by unfold g_rk; omega)]
    exact h4
  · rw [h120]
    exact h5
theorem g_lk36 {C0 D R : gj_M} {s q : Int} (h : g_GE C0 D R) (s8 : 0 ≤ s ∧ s < 8) (q8 : 0 ≤ q ∧ q < 8) (u : ¬ (s < 4 ↔ q < 4)) : D 36 (4 * s + q % 4) = f_X2_likingOf s q 1 C0 := by
  by_cases c : s < 4
  · exact (h.2.2.1 s q s8.1 c (by omega) q8.2).1
  · exact (h.2.2.1 q s q8.1 (by omega) (by omega) s8.2).2.1
theorem p_likesE {C0 D R : gj_M} {s q : Int} (h : g_GE C0 D R) (s8 : 0 ≤ s ∧ s < 8) (q8 : 0 ≤ q ∧ q < 8) (u : ¬ (s < 4 ↔ q < 4)) : F_X12_likesNow s q R = some (f_X2_likes s q D) := by
  rw [p_likesNow h.1 h.2.1 s8 q8 u]
  unfold f_X2_likes
  rw [p_vw s8 q8, f_at_in (by omega), g_lk36 h s8 q8 u]
theorem p_soonerE {C0 D R : gj_M} {s q r : Int} (h : g_GE C0 D R) (s8 : 0 ≤ s ∧ s < 8) (q8 : 0 ≤ q ∧ q < 8) (u : ¬ (s < 4 ↔ q < 4)) (r8 : 0 ≤ r ∧ r < 8) (v : ¬ (s < 4 ↔ r < 4)) : F_X12_isSooner s q r R = some (f_X2_soonerOf s q r D) := by
  unfold F_X12_isSooner f_X2_soonerOf
  rw [p_likesE h s8 q8 u, gj_bnd_s, p_likesE h s8 r8 v, gj_bnd_s]
  dsimp only [gj_letI]
  (repeat' split) <;> rfl
theorem p_bothE {C0 D R : gj_M} {s q : Int} (h : g_GE C0 D R) (s8 : 0 ≤ s ∧ s < 8) (q8 : 0 ≤ q ∧ q < 8) (u : ¬ (s < 4 ↔ q < 4)) (ps : g_pe R 101 s) (pq : g_pe R 101 q) : F_X12_both s q R = some (D 37 (f_cpl s q)) := by
  have hp := h.1
  have n0 := hp.n0
  have n1 := hp.n1
  have pc : ∀ j, g_pe R 101 j → g_pe C0 14 j := fun j x => by
    unfold g_pe at *
    rw [n0, n1]
    exact x
  have as := (hp.al s s8.1 s8.2 (pc s ps)).1
  have aq := (hp.al q q8.1 q8.2 (pc q pq)).1
  unfold F_X12_both F_X12_would
  rw [p_likesNow hp h.2.1 s8 q8 u, gj_bnd_s, gj_chkp s8, p_likesNow hp h.2.1 q8 s8 (by omega), gj_bnd_s, gj_chkp q8, ← as, ← aq]
  have e : D 37 (f_cpl s q) = (if f_X2_likingOf s q 1 C0 ≤ gj_w (1000 * C0 15 s) then 0 else if f_X2_likingOf q s 1 C0 ≤ gj_w (1000 * C0 15 q) then 0 else 1) := by
    by_cases c : s < 4
    · exact (h.2.2.1 s q s8.1 c (by omega) q8.2).2.2
    · rw [g_cpl_sym s8 q8 u, (h.2.2.1 q s q8.1 (by omega) (by omega) s8.2).2.2]
      (repeat' split) <;> rfl
  rw [e]
  by_cases c1 : f_X2_likingOf s q 1 C0 ≤ gj_w (1000 * C0 15 s)
  · rw [if_pos c1, if_pos c1]
    rfl
  · rw [if_neg c1, if_neg c1]
    by_cases c2 : f_X2_likingOf q s 1 C0 ≤ gj_w (1000 * C0 15 q)
    · rw [if_pos c2, if_pos c2]
      rfl
    · rw [if_neg c2, if_neg c2]
      rfl
theorem g_meet {C0 D R : gj_M} {s q : Int} (h : g_GE C0 D R) (s8 : 0 ≤ s ∧ s < 8) (q8 : 0 ≤ q ∧ q < 8) (u : ¬ (s < 4 ↔ q < 4)) : ((g_pe R 101 s ∧ R 120 s = 0) ∧ (g_pe R 101 q ∧ R 120 q = 0) → f_X2_canMeet s q D = if D 37 (f_cpl s q) = 0 then 0 else 1) ∧ (¬ ((g_pe R 101 s ∧ R 120 s = 0) ∧ (g_pe R 101 q ∧ R 120 q = 0)) → f_X2_canMeet s q D = 0) := by
  obtain ⟨-, t2⟩ := p_twoOf (M := C0) s8 q8 u
  have a := h.2.2.2.1 s s8.1 s8.2
  have b := h.2.2.2.1 q q8.1 q8.2
  unfold f_X2_canMeet
  rw [f_at_in s8, f_at_in q8, f_at_in t2]
  refine ⟨fun ⟨c1, c2⟩ => by rw [a.1 c1, if_neg (by decide), b.1 c2, if_neg (by decide)], fun c => ?_⟩
  by_cases c1 : g_pe R 101 s ∧ R 120 s = 0
  · rw [a.1 c1, if_neg (by decide), b.2 (fun c2 => c ⟨c1, c2⟩), if_pos rfl]
  · rw [a.2 c1, if_pos rfl]
