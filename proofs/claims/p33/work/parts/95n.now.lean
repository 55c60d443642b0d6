/-! PURE: the life of the village, side by side -/
def g_LG (f c : Int) (row : Int → Int) (m : Int) (logs : Int → Int) : Prop := m = c ∧ (0 ≤ c ∧ c ≤ 40) ∧ (0 ≤ f ∧ f < 40) ∧ ∀ i k, 0 ≤ i → i < c → 0 ≤ k → k < 5 → row ((f + i) % 40 * 5 + k) = logs (5 * i + k)
/-- mates, years, yeses, earned -/
def g_N1 (C R : gj_M) : Prop := ∀ j, 0 ≤ j → j < 8 → C 22 j = R 108 j ∧ C 23 j = (if R 108 j = -1 then 0 else R 109 j) ∧ C 24 j = (if R 108 j = -1 then 0 else R 110 j) ∧ C 25 j = R 111 j ∧ gj_w (R 111 j) = R 111 j
/-- what is known, children -/
def g_N2 (C R : gj_M) : Prop := ∀ j, 0 ≤ j → j < 16 → C 26 j = R 112 j ∧ C 27 j = R 113 j ∧ C 28 j = R 114 j ∧ g_K (R 112 j) (R 113 j) ∧ 0 ≤ R 114 j ∧ R 114 j ≤ 99
/-- pairs are pairs -/
def g_N3 (R : gj_M) : Prop := ∀ j, 0 ≤ j → j < 8 → R 108 j = -1 ∨ ((0 ≤ R 108 j ∧ R 108 j < 8 ∧ (j < 4 ↔ ¬ R 108 j < 4)) ∧ g_pe R 101 j ∧ g_pe R 101 (R 108 j) ∧ R 108 (R 108 j) = j ∧ R 109 (R 108 j) = R 109 j ∧ R 110 (R 108 j) = R 110 j)
def g_N4 (C R : gj_M) : Prop := (C 21 0 = R 79 27 ∧ gj_w (R 79 27) = R 79 27) ∧ (C 21 1 = R 79 28 ∧ 0 ≤ R 79 28 ∧ R 79 28 ≤ 3) ∧ (C 21 2 = R 79 30 ∧ 0 ≤ R 79 30 ∧ R 79 30 < 2147483648)
def g_NO (C R : gj_M) : Prop := g_PL C R ∧ g_N1 C R ∧ g_N2 C R ∧ g_N3 R ∧ g_N4 C R ∧ g_LG (C 29 1) (C 29 2) (C 30) (R 79 29) (R 122)
theorem g_NO.pl {C R : gj_M} (h : g_NO C R) : g_PL C R := h.1
theorem g_NO.ys {C R : gj_M} (h : g_NO C R) : g_YS C R := by
  obtain ⟨-, h1, h2, h3, -⟩ := h
  refine ⟨fun j a b => ⟨(h1 j a b).1, (h3 j a b).imp id And.left⟩, fun j a b => (h1 j a b).2.1, fun j a b n => ?_, fun j a b => (h1 j a b).2.2.2.1, fun j a b => ?_⟩
  · have := (h1 j a b).2.2.1
    rw [if_neg n] at this
    exact this
  · obtain ⟨x1, x2, x3, x4, -⟩ := h2 j a b
    exact ⟨x1, x2, x3, by rw [x1, x2]; exact x4⟩
theorem g_NO.yc {C R : gj_M} (h : g_NO C R) : g_YC R := by
  obtain ⟨-, h1, h2, h3, -⟩ := h
  refine ⟨fun j a b => (h2 j a b).2.2.2.2, fun j a b n => ?_⟩
  rcases h3 j a b with e | ⟨-, e1, e2, e3, -⟩
  · exact absurd e n
  · exact ⟨e1, e2, e3⟩
theorem g_NO.dy {C R : gj_M} (h : g_NO C R) : g_DY C R := ⟨h.ys, h.yc⟩
/-- rows and cells that the life rests on -/
def g_nc : List Int := [14, 15, 16, 17, 18, 19, 20, 22, 23, 24, 25, 26, 27, 28, 30]
def g_nr : List Int := [83, 86, 89, 92, 95, 98, 101, 108, 109, 110, 111, 112, 113, 114, 122]
theorem g_nc_136 {z : Int} (h : g_nc.contains z = true) : z < 136 := by
  have := List.elem_iff.mp h
  unfold g_nc at this
  simp at this
  omega
theorem g_nr_136 {z : Int} (h : g_nr.contains z = true) : z < 136 := by
  have := List.elem_iff.mp h
  unfold g_nr at this
  simp at this
  omega
theorem g_NO_s {C R D U : gj_M} (h : g_NO C R) (hc : ∀ z, g_nc.contains z = true → D z = C z) (c21 : D 21 0 = C 21 0 ∧ D 21 1 = C 21 1 ∧ D 21 2 = C 21 2) (c29 : D 29 1 = C 29 1 ∧ D 29 2 = C 29 2) (hr : ∀ z, g_nr.contains z = true → U z = R z) (r79 : U 79 27 = R 79 27 ∧ U 79 28 = R 79 28 ∧ U 79 29 = R 79 29 ∧ U 79 30 = R 79 30) : g_NO D U := by
  obtain ⟨h1, h2, h3, h4, h5, h6⟩ := h
  refine ⟨g_PL_s h1 (fun z a b => hc z ?_) (fun z e => hr z (by rcases e with e | e | e | e | e | e | e <;> rw [e] <;> rfl)), ?_, ?_, ?_, ?_, ?_⟩
  · have : z = 14 ∨ z = 15 ∨ z = 16 ∨ z = 17 ∨ z = 18 ∨ z = 19 ∨ z = 20 := by omega
    rcases this with e | e | e | e | e | e | e <;> rw [e] <;> rfl
  · unfold g_N1
    rw [hc 22 rfl, hc 23 rfl, hc 24 rfl, hc 25 rfl, hr 108 rfl, hr 109 rfl, hr 110 rfl, hr 111 rfl]
    exact h2
  · unfold g_N2
    rw [hc 26 rfl, hc 27 rfl, hc 28 rfl, hr 112 rfl, hr 113 rfl, hr 114 rfl]
    exact h3
  · unfold g_N3 g_pe
    rw [hr 101 rfl, hr 108 rfl, hr 109 rfl, hr 110 rfl]
    exact h4
  · unfold g_N4
    rw [c21.1, c21.2.1, c21.2.2, r79.1, r79.2.1, r79.2.2.2]
    exact h5
  · rw [c29.1, c29.2, hc 30 rfl, r79.2.2.1, hr 122 rfl]
    exact h6
theorem g_NO_fr {C R D U : gj_M} {os os' : List Int} {ps ps' : List (Int × Int)} (h : g_NO C R) (f : gj_Fr os ps C D) (f' : gj_Fr os' ps' R U) (hc : g_aw os ps g_nc [(21, 0), (21, 1), (21, 2), (29, 1), (29, 2)] = true) (hr : g_aw os' ps' g_nr [(79, 27), (79, 28), (79, 29), (79, 30)] = true) : g_NO D U :=
  g_NO_s h (fun z hz => g_fr_row g_nc f (by unfold g_aw at hc; rw [Bool.and_eq_true] at hc; exact hc.1) z hz (g_nc_136 hz)) ⟨f 21 0 (by decide) (g_aw_c hc rfl), f 21 1 (by decide) (g_aw_c hc rfl), f 21 2 (by decide) (g_aw_c hc rfl)⟩ ⟨f 29 1 (by decide) (g_aw_c hc rfl), f 29 2 (by decide) (g_aw_c hc rfl)⟩
    (fun z hz => g_fr_row g_nr f' (by unfold g_aw at hr; rw [Bool.and_eq_true] at hr; exact hr.1) z hz (g_nr_136 hz)) ⟨f' 79 27 (by decide) (g_aw_c hr rfl), f' 79 28 (by decide) (g_aw_c hr rfl), f' 79 29 (by decide) (g_aw_c hr rfl), f' 79 30 (by decide) (g_aw_c hr rfl)⟩
/-! PURE: all are asked, side by side -/
def g_sv (R : gj_M) (n j : Int) : Int := match F_X12_isSilent j n R with
  | some r => r.1
  | none => 0
theorem p_sv {C R : gj_M} {n j : Int} (h : g_NO C R) (j8 : 0 ≤ j ∧ j < 8) (pe : g_pe R 101 j) (hn : 1 ≤ n ∧ n ≤ 4) : ∃ D U, F_X4_enter j C = some D ∧ F_X4_stays n D = some (1 - g_sv R n j, D) ∧ F_X12_isSilent j n R = some (g_sv R n j, U) ∧ (g_sv R n j = 0 ∨ g_sv R n j = 1) ∧ (R 108 j = -1 → g_sv R n j = 0) := by
  obtain ⟨D, t, U, e1, e2, e3, e4, e5⟩ := p_silentOf h.pl h.ys h.yc j8 pe hn
  have e : g_sv R n j = 1 - t := by unfold g_sv; rw [e3]
  refine ⟨D, U, e1, ?_, by rw [e]; exact e3, by omega, fun q => by have := e5 q; omega⟩
  rw [e, show 1 - (1 - t) = t by omega]
  exact e2
/-- asked at another time: the same -/
theorem p_svR {C R N : gj_M} {n j : Int} (h : g_NO C R) (h2 : g_NO C N) (j8 : 0 ≤ j ∧ j < 8) (pe : g_pe R 101 j) (pe2 : g_pe N 101 j) (hn : 1 ≤ n ∧ n ≤ 4) : g_sv N n j = g_sv R n j := by
  obtain ⟨D, U, e1, e2, -⟩ := p_sv h j8 pe hn
  obtain ⟨D2, U2, f1, f2, -⟩ := p_sv h2 j8 pe2 hn
  rw [e1] at f1
  obtain rfl := Option.some.inj f1
  rw [e2] at f2
  have := (Prod.mk.inj (Option.some.inj f2)).1
  omega
theorem p_aheadN {C R : gj_M} (h : g_PL C R) : C 14 9 = R 98 7 ∧ 1 ≤ R 98 7 ∧ R 98 7 ≤ 4 := by
  obtain ⟨e, q⟩ := h.hd 7 (by decide) (by decide)
  exact ⟨e, q.2.2 (Or.inr rfl), q.2.1⟩
theorem p_askPaired {C R : gj_M} (h : g_NO C R) : ∃ D, F_X8_askPaired C = some D ∧ (gj_Fr [32, 33, 34, 45] [(31, 5), (31, 6), (31, 7), (31, 8), (31, 9), (31, 10)] C D ∧ ∀ j, 0 ≤ j → j < 8 → D 45 j = if R 108 j = -1 then 0 else g_sv R (R 98 7) j) := by
  obtain ⟨a9, ahd⟩ := p_aheadN h.pl
  refine k_cps (fun P done => ?_)
  unfold F_X8_askPaired
  refine gj_okM1 P (fun l K => 0 ≤ l ∧ l ≤ 8 ∧ gj_Fr [32, 33, 34, 45] [(31, 5), (31, 6), (31, 7), (31, 8), (31, 9), (31, 10)] C K ∧ ∀ j, 0 ≤ j → j < l → K 45 j = if R 108 j = -1 then 0 else g_sv R (R 98 7) j) (fun l _ => (8 - l).toNat) ?_ gj_fu 0 C ⟨by omega, by omega, gj_Fr.rf, fun j a b => by omega⟩ (by show _ < 2048; omega)
  rintro rec l K ⟨a, b, f, hK⟩ hr
  unfold B_X8_askPaired_2 J_X8_askPaired_55 J_X8_askPaired_56
  refine k_ite (fun c => done K ⟨f, fun j x y => hK j x (by omega)⟩) (fun c => ?_)
  have l8 : 0 ≤ l ∧ l < 8 := by omega
  have k22 : K 22 = C 22 := g_fr_row [22] f (by decide) 22 rfl (by decide)
  have m22 := (h.2.1 l l8.1 l8.2).1
  rw [gj_wle (x := l + 1) (by omega) (by omega), f_at_in l8, k22, m22]
  have nx : ∀ (v : Int) (J : gj_M), (v = 0 ∨ v = 1) → v = (if R 108 l = -1 then 0 else g_sv R (R 98 7) l) → gj_Fr [32, 33, 34, 45] [(31, 5), (31, 6), (31, 7), (31, 8), (31, 9), (31, 10)] C J → J 45 = K 45 → P (gj_chk (v = 0 ∨ v = 1) (gj_let (f_put J 45 8 l v) fun M6 => rec (l + 1) M6)) := fun v J hv he g hJ => by
    rw [f_put_in l8]
    refine k_chk hv (k_let (hr _ _ ⟨by omega, by omega, g.up (by rw [show [32, 33, 34, 45].contains (45 : Int) = true from rfl]; rfl), fun j x y => ?_⟩ (by omega)))
    rw [gj_up_if, hJ]
    by_cases e : j = l
    · rw [if_pos e, e]; exact he
    · rw [if_neg e]; exact hK j x (by omega)
  by_cases c1 : R 108 l = -1
  · rw [if_pos c1]
    exact nx 0 K (Or.inl rfl) (by rw [if_pos c1]) f rfl
  · rw [if_neg c1]
    have pe : g_pe R 101 l := by
      rcases h.2.2.2.1 l l8.1 l8.2 with e | e
      · exact absurd e c1
      · exact e.2.1
    have hK2 : g_NO K R := g_NO_fr h f (gj_Fr.rf (os := []) (ps := [])) (by decide) (by decide)
    obtain ⟨D, U, e1, e2, -, e4, -⟩ := p_sv hK2 l8 pe ahd
    have fD : gj_Fr _ _ K D := fr_X4_enter l D e1
    have d14 : D 14 = C 14 := (g_fr_row [14] fD (by decide) 14 rfl (by decide)).trans (g_fr_row [14] f (by decide) 14 rfl (by decide))
    have d45 : D 45 = K 45 := g_fr_row [45] fD (by decide) 45 rfl (by decide)
    have g2 : gj_Fr [32, 33, 34, 45] [(31, 5), (31, 6), (31, 7), (31, 8), (31, 9), (31, 10)] C D := f.trans (fD.wide (by decide +kernel))
    rw [e1, gj_bnd_s, d14, a9, e2, gj_bnd2_s]
    by_cases c2 : 1 - g_sv R (R 98 7) l = 0
    · rw [if_pos c2]
      exact nx 1 D (Or.inr rfl) (by rw [if_neg c1]; omega) g2 d45
    · rw [if_neg c2]
      exact nx 0 D (Or.inl rfl) (by rw [if_neg c1]; omega) g2 d45
/-- the reference asks all, then goes on -/
theorem p_asked2 {C R : gj_M} {c : Int} (h : g_NO C R) : ∃ N, F_X12_asked c R = J_X12_asked_58 c N ∧ gj_Fr [115, 116, 117, 118, 123] [(79, 35), (79, 36), (79, 37), (79, 38)] R N ∧ ∀ j, 0 ≤ j → j < 8 → N 123 j = if R 108 j = -1 then 0 else g_sv R (R 98 7) j := by
  obtain ⟨-, ahd⟩ := p_aheadN h.pl
  unfold F_X12_asked
  refine gj_okM2 (fun y => ∃ N, y = J_X12_asked_58 c N ∧ gj_Fr [115, 116, 117, 118, 123] [(79, 35), (79, 36), (79, 37), (79, 38)] R N ∧ ∀ j, 0 ≤ j → j < 8 → N 123 j = if R 108 j = -1 then 0 else g_sv R (R 98 7) j) (fun l d N => d = c ∧ 0 ≤ l ∧ l ≤ 8 ∧ gj_Fr [115, 116, 117, 118, 123] [(79, 35), (79, 36), (79, 37), (79, 38)] R N ∧ ∀ j, 0 ≤ j → j < l → N 123 j = if R 108 j = -1 then 0 else g_sv R (R 98 7) j) (fun l _ _ => (8 - l).toNat) ?_ gj_fu 0 c R ⟨rfl, by omega, by omega, gj_Fr.rf, fun j a b => by omega⟩ (by show _ < 2048; omega)
  rintro rec l d N ⟨e1, a, b, f, hN⟩ hr
  rw [e1]
  unfold B_X12_asked_2 J_X12_asked_51
  by_cases c8 : 8 ≤ l
  · rw [if_pos c8]
    exact ⟨N, rfl, f, fun j x y => hN j x (by omega)⟩
  · have l8 : 0 ≤ l ∧ l < 8 := by omega
    have n101 : N 101 = R 101 := g_fr_row [101] f (by decide) 101 rfl (by decide)
    have n98 : N 98 = R 98 := g_fr_row [98] f (by decide) 98 rfl (by decide)
    have hs : g_RS R := ⟨C, h.pl, h.ys⟩
    have b0 := hs.b0
    have b1 := hs.b1
    rw [if_neg c8, g_tdiv a, g_tmod a, gj_wle (x := l / 4) (by omega) (by omega), gj_chkp (by omega), n101, n98, gj_wle (x := l + 1) (by omega) (by omega)]
    have nx : ∀ (v : Int) (J : gj_M), v = (if R 108 l = -1 then 0 else g_sv R (R 98 7) l) → gj_Fr [115, 116, 117, 118, 123] [(79, 35), (79, 36), (79, 37), (79, 38)] R J → J 123 = N 123 → ∃ X, gj_chk (0 ≤ l ∧ l < 8) (gj_let (gj_up J 123 l v) fun M5 => rec (l + 1) c M5) = J_X12_asked_58 c X ∧ gj_Fr [115, 116, 117, 118, 123] [(79, 35), (79, 36), (79, 37), (79, 38)] R X ∧ ∀ j, 0 ≤ j → j < 8 → X 123 j = if R 108 j = -1 then 0 else g_sv R (R 98 7) j := fun v J hv g hJ => by
      rw [gj_chkp l8, gj_let_s]
      refine hr _ _ _ ⟨rfl, by omega, by omega, g.up (by rw [show [115, 116, 117, 118, 123].contains (123 : Int) = true from rfl]; rfl), fun j x y => ?_⟩ (by omega)
      rw [gj_up_if, hJ]
      by_cases e : j = l
      · rw [if_pos e, e]; exact hv
      · rw [if_neg e]; exact hN j x (by omega)
    by_cases cp : R 101 (l / 4) ≤ l % 4
    · have np : ¬ g_pe R 101 l := by
        unfold g_pe
        by_cases q : l < 4
        · rw [show l / 4 = 0 by omega] at cp; omega
        · rw [show l / 4 = 1 by omega] at cp; omega
      have m1 : R 108 l = -1 := by
        rcases h.2.2.2.1 l l8.1 l8.2 with e | e
        · exact e
        · exact absurd e.2.1 np
      rw [if_pos cp]
      exact nx 0 N (by rw [if_pos m1]) f rfl
    · have pe : g_pe R 101 l := by
        unfold g_pe
        by_cases q : l < 4
        · rw [show l / 4 = 0 by omega] at cp; omega
        · rw [show l / 4 = 1 by omega] at cp; omega
      have pe2 : g_pe N 101 l := (g_pe_s n101).mpr pe
      have h2 : g_NO C N := g_NO_fr h (gj_Fr.rf (os := []) (ps := [])) f (by decide) (by decide)
      obtain ⟨D, U, -, -, e3, e4, e5⟩ := p_sv h2 l8 pe2 ahd
      rw [p_svR h h2 l8 pe pe2 ahd] at e3 e4 e5
      have n108 : N 108 = R 108 := g_fr_row [108] f (by decide) 108 rfl (by decide)
      rw [n108] at e5
      have fU : gj_Fr _ _ N U := fr_X12_isSilent l _ _ e3
      have g2 : gj_Fr [115, 116, 117, 118, 123] [(79, 35), (79, 36), (79, 37), (79, 38)] R U := f.trans (fU.wide (by decide +kernel))
      have u123 : U 123 = N 123 := g_fr_row [123] fU (by decide) 123 rfl (by decide)
      rw [if_neg cp, e3, gj_bnd2_s]
      by_cases c2 : g_sv R (R 98 7) l = 0
      · rw [if_pos c2]
        exact nx 0 U (by rw [c2]; split <;> rfl) g2 u123
      · rw [if_neg c2]
        exact nx 1 U (by rw [if_neg (fun q => c2 (e5 q))]; omega) g2 u123
