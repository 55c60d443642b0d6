/-! PURE: parents, never and life, asked of the reference; safe -/
theorem r_whoAgain {M N : gj_M} {a : Int} (h1 : N 79 18 = M 79 18) (h2 : N 101 = M 101) : F_X12_who a N = F_X12_who a M := by
  unfold F_X12_who J_X12_who_38 f_X12_in
  rw [h1, h2]
theorem r_parents {C R : gj_M} {a : Int} (h : g_VS C R) (hy : R 79 18 = 1 → g_RG R) : ∃ v N, F_X12_parents a R = some (v, N) := by
  obtain ⟨s, e1, hs⟩ := r_who (a := a) h hy
  refine k_cpo2 (fun P done => ?_)
  unfold F_X12_parents
  have hv : R 79 18 = 0 ∨ R 79 18 = 1 := by rcases h with x | x <;> omega
  refine k_ite (fun _ => done _ _) (fun v0 => ?_)
  have g := hy (by omega)
  obtain ⟨N, eN, -, -⟩ := r_finds g.1
  have f := fr_X12_findsParents N eN
  have w : F_X12_who a N = some s := by
    rw [r_whoAgain (f 79 18 (by decide) (by decide)) (g_fr_row [101] f (by decide) 101 rfl (by decide))]
    exact e1
  refine k_ite (fun c => ?_) (fun c => ?_)
  · rw [eN, gj_bnd_s, if_pos c]
    exact done _ _
  · rw [e1, gj_bnd_s]
    refine k_ite (fun _ => done _ _) (fun d => ?_)
    rw [eN, gj_bnd_s, if_neg c, w, gj_bnd_s]
    exact k_chk (by omega) (k_ite (fun _ => done _ _) (fun _ => k_letI (done _ _)))
theorem g_mt4 {R N : gj_M} (g : g_RG R) (h : N 108 = R 108) : g_NV4 108 N := fun j a b => by
  rw [h]
  have := g.2.1 j a (by omega)
  omega
theorem r_never {R : gj_M} {w : Int} (hv : R 79 18 = 0 ∨ R 79 18 = 1) (hy : R 79 18 = 1 → g_RG R) : ∃ v N, F_X12_never w R = some (v, N) := by
  refine k_cpo2 (fun P done => ?_)
  unfold F_X12_never
  refine k_ite (fun _ => done _ _) (fun v0 => k_letI (k_ite (fun _ => done _ _) (fun _ => ?_)))
  have g := hy (by omega)
  obtain ⟨N, eN, n1, n2⟩ := r_finds g.1
  have f := fr_X12_findsParents N eN
  rw [eN, gj_bnd_s]
  refine k_ite (fun _ => ?_) (fun _ => ?_)
  · obtain ⟨v, ev, -⟩ := r_sumOf n1 (g_mt4 g (g_fr_row [108] f (by decide) 108 rfl (by decide)))
    rw [ev, gj_bnd_s]
    exact done _ _
  · refine gj_okM2 P (fun _ l3 K => 0 ≤ l3 ∧ l3 ≤ 4 ∧ K = N) (fun _ l3 _ => (4 - l3).toNat) ?_ gj_fu 0 0 N ⟨by omega, by omega, rfl⟩ (by show _ < 2048; omega)
    rintro rec l2 l3 K ⟨a, b, eK⟩ hr
    rw [eK]
    unfold B_X12_never_48 J_X12_never_110
    have b0 := n1.b0
    rw [gj_wle (x := l3 + 1) (by omega) (by omega)]
    refine k_ite (fun _ => done _ _) (fun c => ?_)
    have p8 : 0 ≤ l3 ∧ l3 < 8 := by omega
    have nx : ∀ x : Int, P (rec x (l3 + 1) N) := fun x => hr x (l3 + 1) N ⟨by omega, by omega, rfl⟩ (by omega)
    refine k_chk p8 (k_ite (fun _ => nx _) (fun d => k_chk p8 (k_letI ?_)))
    have q := n2.2 l3 (by omega) (by omega)
    obtain ⟨t1, t2⟩ := p_twoOf (M := N) (s := l3) (q := N 125 l3) p8 (by omega) (by omega)
    rw [t1]
    refine k_chk t2 (k_chk p8 (k_letI ?_))
    exact k_chk t2 (k_ite (fun _ => nx _) (fun _ => nx _))
theorem r_lifeOf {M : gj_M} {z n : Int} (h : g_RP M) (hz : g_NV4 z M) : ∃ v, F_X12_lifeOf z 8 n M = some v := by
  refine k_cpo (fun P done => ?_)
  unfold F_X12_lifeOf
  obtain ⟨v, ev, -⟩ := r_sumOf h hz
  rw [ev, gj_bnd_s]
  have b0 := h.b0
  refine gj_okQ3 P (fun _ _ l4 => 0 ≤ l4 ∧ l4 ≤ 4) (fun _ _ l4 => (4 - l4).toNat) ?_ gj_fu n _ 0 ⟨by omega, by omega⟩ (by show _ < 2048; omega)
  rintro rec l2 l3 l4 ⟨a, b⟩ hr
  unfold B_X12_lifeOf_11 J_X12_lifeOf_61
  rw [gj_wle (x := l4 + 1) (by omega) (by omega)]
  refine k_ite (fun _ => done _) (fun c => ?_)
  have nx : ∀ x y : Int, P (rec x y (l4 + 1)) := fun x y => hr x y (l4 + 1) ⟨by omega, by omega⟩ (by omega)
  exact k_chk (by omega) (k_ite (fun _ => nx _ _) (fun _ => k_letI (nx _ _)))
/-- the three rows of what is known, shut down to l and laid aside -/
def g_LH (R : gj_M) (a b : Int) (M : gj_M) : Prop := (∀ j, M 112 j = if a ≤ j ∧ j < b then 0 else R 112 j) ∧ (∀ j, M 113 j = if a ≤ j ∧ j < b then 0 else R 113 j) ∧ (∀ j, M 114 j = if a ≤ j ∧ j < b then 0 else R 114 j)
def g_LS3 (R : gj_M) (a : Int) (M : gj_M) : Prop := ∀ j, 0 ≤ j → j < a → M 126 j = R 112 j ∧ M 127 j = R 113 j ∧ M 128 j = R 114 j
theorem g_LH_s {R M N : gj_M} {a b : Int} (h : g_LH R a b M) (h1 : N 112 = M 112) (h2 : N 113 = M 113) (h3 : N 114 = M 114) : g_LH R a b N := by
  unfold g_LH
  rw [h1, h2, h3]
  exact h
theorem g_LS3_s {R M N : gj_M} {a : Int} (h : g_LS3 R a M) (h1 : N 126 = M 126) (h2 : N 127 = M 127) (h3 : N 128 = M 128) : g_LS3 R a N := by
  unfold g_LS3
  rw [h1, h2, h3]
  exact h
theorem g_LH_nw {R M : gj_M} {a b : Int} (h : g_LH R a b M) (k : g_NW R) : g_NW M := by
  intro j x y
  rw [h.1 j, h.2.1 j]
  split
  · exact ⟨by omega, by omega⟩
  · exact k j x y
/-- the rows that life leaves -/
def g_lo : List Int := [112, 113, 114, 119, 120, 121, 124, 125, 126, 127, 128]
theorem g_LF {R M : gj_M} (g : g_RG R) (f : gj_Fr g_lo [(79, 30), (79, 46)] R M) (k : g_NW M) : g_RG M := g.ch (fun z hz => g_fr_row [83, 86, 89, 92, 95, 98, 101] f (by decide) z (by rcases hz with e | e | e | e | e | e | e <;> rw [e] <;> rfl) (by omega)) (g_MT_s g.2.1 (g_fr_row [108] f (by decide) 108 rfl (by decide)) (g_fr_row [101] f (by decide) 101 rfl (by decide))) k
theorem r_life {R : gj_M} {n w : Int} (hv : R 79 18 = 0 ∨ R 79 18 = 1) (hy : R 79 18 = 1 → g_RG R) : ∃ v N, F_X12_life n w R = some (v, N) ∧ N 112 = R 112 ∧ N 113 = R 113 ∧ N 114 = R 114 := by
  refine k_cps2 (fun P done => ?_)
  unfold F_X12_life
  refine k_ite (fun _ => done _ _ ⟨rfl, rfl, rfl⟩) (fun v0 => k_letI (k_ite (fun _ => done _ _ ⟨rfl, rfl, rfl⟩) (fun _ => k_letI (k_ite (fun _ => done _ _ ⟨rfl, rfl, rfl⟩) (fun _ => ?_)))))
  have g := hy (by omega)
  refine gj_okM3 P (fun l1 l2 l3 M => l1 = n ∧ l2 = w ∧ 0 ≤ l3 ∧ l3 ≤ 16 ∧ g_LH R 0 l3 M ∧ g_LS3 R l3 M ∧ gj_Fr g_lo [(79, 30), (79, 46)] R M) (fun _ _ l3 _ => (16 - l3).toNat) ?_ gj_fu n w 0 R ⟨rfl, rfl, by omega, by omega, ⟨fun j => by rw [if_neg (by omega)], fun j => by rw [if_neg (by omega)], fun j => by rw [if_neg (by omega)]⟩, fun j a b => by omega, gj_Fr.rf⟩ (by show _ < 2048; omega)
  rintro rec l1 l2 l3 M ⟨e1, e2, a, b, hL, hS, f⟩ hr
  rw [e1, e2]
  unfold B_X12_life_35 J_X12_life_104
  refine k_ite (fun c => ?_) (fun c => ?_)
  · have e16 : l3 = 16 := by omega
    rw [e16] at hL hS
    clear hr e1 e2 a b c e16
    refine gj_okM3 P (fun l1 l2 l3 M => l1 = n ∧ l2 = w ∧ 0 ≤ l3 ∧ l3 ≤ 8 ∧ g_LH R 0 16 M ∧ g_LS3 R 16 M ∧ gj_Fr g_lo [(79, 30), (79, 46)] R M) (fun _ _ l3 _ => (8 - l3).toNat) ?_ gj_fu n w 0 M ⟨rfl, rfl, by omega, by omega, hL, hS, f⟩ (by show _ < 2048; omega)
    clear hL hS f
    rintro rec l1 l2 l3 M ⟨e1, e2, a, b, hL, hS, f⟩ hr
    rw [e1, e2]
    unfold B_X12_life_106 J_X12_life_125
    refine k_ite (fun c => ?_) (fun c => k_chk (by omega) ?_)
    · clear hr e1 e2 a b c
      have gM : g_RG M := g_LF g f (g_LH_nw hL g.2.2)
      obtain ⟨K, eK, hV⟩ := r_goes (w := 0) gM.rs (by decide)
      have fK := fr_X12_goes 0 K eK
      rw [eK, gj_bnd_s]
      have hL2 : g_LH R 0 16 K := g_LH_s hL (g_fr_row [112] fK (by decide) 112 rfl (by decide)) (g_fr_row [113] fK (by decide) 113 rfl (by decide)) (g_fr_row [114] fK (by decide) 114 rfl (by decide))
      have hS2 : g_LS3 R 16 K := g_LS3_s hS (g_fr_row [126] fK (by decide) 126 rfl (by decide)) (g_fr_row [127] fK (by decide) 127 rfl (by decide)) (g_fr_row [128] fK (by decide) 128 rfl (by decide))
      have f2 : gj_Fr g_lo [(79, 30), (79, 46)] R K := f.trans (gj_Fr.wide fK (by decide +kernel))
      clear hL hS f gM fK eK
      refine gj_okM3 P (fun l1 l2 l3 M => l1 = n ∧ l2 = w ∧ 0 ≤ l3 ∧ l3 ≤ 16 ∧ g_LH R l3 16 M ∧ g_LS3 R 16 M ∧ gj_Fr g_lo [(79, 30), (79, 46)] R M ∧ g_HV M) (fun _ _ l3 _ => (16 - l3).toNat) ?_ gj_fu n w 0 K ⟨rfl, rfl, by omega, by omega, hL2, hS2, f2, hV⟩ (by show _ < 2048; omega)
      rintro rec l1 l2 l3 M ⟨e1, e2, a, b, hL, hS, f, hV⟩ hr
      rw [e1, e2]
      unfold B_X12_life_132 J_X12_life_180
      refine k_ite (fun c => ?_) (fun c => ?_)
      · have e112 : M 112 = R 112 := funext fun j => by rw [hL.1 j, if_neg (by omega)]
        have e113 : M 113 = R 113 := funext fun j => by rw [hL.2.1 j, if_neg (by omega)]
        have e114 : M 114 = R 114 := funext fun j => by rw [hL.2.2 j, if_neg (by omega)]
        have gM : g_RG M := g_LF g f (g_NW_s g.2.2 e112 e113)
        have v119 : g_NV4 119 M := fun j a b => by
          rcases hV j a (by omega) with x | x
          · exact Or.inl x
          · exact Or.inr (by omega)
        obtain ⟨v, ev⟩ := r_lifeOf (n := n) gM.1 v119
        rw [ev, gj_bnd_s]
        refine k_ite (fun _ => done _ _ ⟨e112, e113, e114⟩) (fun _ => ?_)
        obtain ⟨N, eN, n1, n2⟩ := r_finds gM.1
        have fN := fr_X12_findsParents N eN
        obtain ⟨v', ev'⟩ := r_lifeOf (n := n) n1 n2.2
        rw [eN, gj_bnd_s, ev', gj_bnd_s]
        exact done _ _ ⟨by rw [← e112]; exact g_fr_row [112] fN (by decide) 112 rfl (by decide), by rw [← e113]; exact g_fr_row [113] fN (by decide) 113 rfl (by decide), by rw [← e114]; exact g_fr_row [114] fN (by decide) 114 rfl (by decide)⟩
      · have p : 0 ≤ l3 ∧ l3 < 16 := by omega
        refine k_chk p (k_chk p ?_)
        rw [gj_let_s]
        refine k_chk p (k_chk p ?_)
        rw [gj_let_s]
        refine k_chk p (k_chk p ?_)
        rw [gj_let_s, gj_wle (x := l3 + 1) (by omega) (by omega), gj_up_z (z := 112) (by decide), gj_up_z (z := 113) (by decide), gj_up_z (z := 112) (by decide)]
        obtain ⟨s1, s2, s3⟩ := hS l3 p.1 p.2
        rw [s1, s2, s3]
        refine hr _ _ _ _ ⟨rfl, rfl, by omega, by omega, ⟨fun j => ?_, fun j => ?_, fun j => ?_⟩, g_LS3_s hS (funext fun _ => by rw [gj_up_z (by decide), gj_up_z (by decide), gj_up_z (by decide)]) (funext fun _ => by rw [gj_up_z (by decide), gj_up_z (by decide), gj_up_z (by decide)]) (funext fun _ => by rw [gj_up_z (by decide), gj_up_z (by decide), gj_up_z (by decide)]), ((f.up (by rw [show g_lo.contains 112 = true from rfl]; rfl)).up (by rw [show g_lo.contains 113 = true from rfl]; rfl)).up (by rw [show g_lo.contains 114 = true from rfl]; rfl), g_HV_s hV (funext fun _ => by rw [gj_up_z (by decide), gj_up_z (by decide), gj_up_z (by decide)]) (funext fun _ => by rw [gj_up_z (by decide), gj_up_z (by decide), gj_up_z (by decide)])⟩ (by omega)
        · rw [gj_up_z (by decide), gj_up_z (by decide), gj_up_if, hL.1 j]
          by_cases q : j = l3
          · rw [if_pos q, if_neg (by omega), q]
          · rw [if_neg q]
            by_cases t : l3 ≤ j ∧ j < 16
            · rw [if_pos t, if_pos (by omega)]
            · rw [if_neg t, if_neg (by omega)]
        · rw [gj_up_z (by decide), gj_up_if, gj_up_z (by decide), hL.2.1 j]
          by_cases q : j = l3
          · rw [if_pos q, if_neg (by omega), q]
          · rw [if_neg q]
            by_cases t : l3 ≤ j ∧ j < 16
            · rw [if_pos t, if_pos (by omega)]
            · rw [if_neg t, if_neg (by omega)]
        · rw [gj_up_if, gj_up_z (by decide), gj_up_z (by decide), hL.2.2 j]
          by_cases q : j = l3
          · rw [if_pos q, if_neg (by omega), q]
          · rw [if_neg q]
            by_cases t : l3 ≤ j ∧ j < 16
            · rw [if_pos t, if_pos (by omega)]
            · rw [if_neg t, if_neg (by omega)]
    · rw [gj_let_s, gj_wle (x := l3 + 1) (by omega) (by omega)]
      exact hr _ _ _ _ ⟨rfl, rfl, by omega, by omega, g_LH_s hL (funext fun _ => gj_up_z (by decide)) (funext fun _ => gj_up_z (by decide)) (funext fun _ => gj_up_z (by decide)), g_LS3_s hS (funext fun _ => gj_up_z (by decide)) (funext fun _ => gj_up_z (by decide)) (funext fun _ => gj_up_z (by decide)), f.up (by rw [show g_lo.contains 120 = true from rfl]; rfl)⟩ (by omega)
  · have p : 0 ≤ l3 ∧ l3 < 16 := by omega
    refine k_chk p (k_chk p ?_)
    rw [gj_let_s]
    refine k_chk p (k_chk p ?_)
    rw [gj_let_s]
    refine k_chk p (k_chk p ?_)
    rw [gj_let_s]
    refine k_chk p ?_
    rw [gj_let_s]
    refine k_chk p ?_
    rw [gj_let_s]
    refine k_chk p ?_
    rw [gj_let_s, gj_wle (x := l3 + 1) (by omega) (by omega)]
    have r1 : M 112 l3 = R 112 l3 := by rw [hL.1 l3, if_neg (by omega)]
    have r2 : M 113 l3 = R 113 l3 := by rw [hL.2.1 l3, if_neg (by omega)]
    have r3 : M 114 l3 = R 114 l3 := by rw [hL.2.2 l3, if_neg (by omega)]
    have x1 : gj_up M 126 l3 (M 112 l3) 113 l3 = M 113 l3 := gj_up_z (by decide)
    rw [x1]
    have x2 : gj_up (gj_up M 126 l3 (M 112 l3)) 127 l3 (M 113 l3) 114 l3 = M 114 l3 := by rw [gj_up_z (by decide), gj_up_z (by decide)]
    rw [x2, r1, r2, r3]
    refine hr _ _ _ _ ⟨rfl, rfl, by omega, by omega, ⟨fun j => ?_, fun j => ?_, fun j => ?_⟩, fun j x y => ?_, ?_⟩ (by omega)
    · rw [gj_up_z (by decide), gj_up_z (by decide), gj_up_if, gj_up_z (by decide), gj_up_z (by decide), gj_up_z (by decide), hL.1 j]
      by_cases q : j = l3
      · rw [if_pos q, if_pos (by omega)]
      · rw [if_neg q]
        by_cases t : 0 ≤ j ∧ j < l3
        · rw [if_pos t, if_pos (by omega)]
        · rw [if_neg t, if_neg (by omega)]
    · rw [gj_up_z (by decide), gj_up_if, gj_up_z (by decide), gj_up_z (by decide), gj_up_z (by decide), gj_up_z (by decide), hL.2.1 j]
      by_cases q : j = l3
      · rw [if_pos q, if_pos (by omega)]
      · rw [if_neg q]
        by_cases t : 0 ≤ j ∧ j < l3
        · rw [if_pos t, if_pos (by omega)]
        · rw [if_neg t, if_neg (by omega)]
    · rw [gj_up_if, gj_up_z (by decide), gj_up_z (by decide), gj_up_z (by decide), gj_up_z (by decide), gj_up_z (by decide), hL.2.2 j]
      by_cases q : j = l3
      · rw [if_pos q, if_pos (by omega)]
      · rw [if_neg q]
        by_cases t : 0 ≤ j ∧ j < l3
        · rw [if_pos t, if_pos (by omega)]
        · rw [if_neg t, if_neg (by omega)]
    · by_cases q : j = l3
      · simp [gj_up, q]
      · have := hS j x (by omega)
        simpa [gj_up, q] using this
    · have m : ∀ {N : gj_M} {z i v : Int}, z = 112 ∨ z = 113 ∨ z = 114 ∨ z = 126 ∨ z = 127 ∨ z = 128 → gj_Fr g_lo [(79, 30), (79, 46)] R N → gj_Fr g_lo [(79, 30), (79, 46)] R (gj_up N z i v) := fun {N z i v} hz hN => hN.up (by rcases hz with e | e | e | e | e | e <;> rw [e] <;> rfl)
      exact m (by decide) (m (by decide) (m (by decide) (m (by decide) (m (by decide) (m (by decide) f)))))
