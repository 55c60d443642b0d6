/-! PURE: the other calls, asked of the class; they end -/
theorem c_refuse {M : gj_M} {i : Int} (h : 0 ≤ i ∧ i < 3) : f_X11_refuse i M = (0, gj_up M 78 i (gj_w (M 78 i + 1))) := by
  unfold f_X11_refuse
  rw [f_put_in h, f_at_in h]
  rfl
theorem c_shown {C R : gj_M} {a b k : Int} (h : g_VS C R) (hk : g_CK C) : ∃ v, F_X11_shown a b k C = some v := by
  obtain ⟨s, e1, -, e3⟩ := p_who (a := a) h
  obtain ⟨q, f1, -, f3⟩ := p_who (a := b) h
  refine k_cpo (fun P done => ?_)
  unfold F_X11_shown
  rw [e1, f1]
  refine k_letI (k_letI (k_ite (fun _ => done _) (fun c => k_letI (k_letI (k_ite (fun _ => ?_) (fun _ => k_ite (fun _ => k_letI (done _)) (fun _ => done _)))))))
  have u := g_unl_in c
  have s8 : 0 ≤ s ∧ s < 8 := by omega
  have q8 : 0 ≤ q ∧ q < 8 := by omega
  have hp : g_PL C R := by
    rcases e3 with e | e
    · exact absurd e u.1
    · exact e.2.2.2.2
  obtain ⟨-, t2⟩ := p_twoOf (M := R) s8 q8 u.2.2
  rw [f_at_in t2, f_at_in t2, p_vw s8 q8]
  have v := hp.vw (4 * s + q % 4) (by omega) (by omega)
  rw [p_X5_shownRight (by omega) v.2.2.2 (hk _ t2.1 t2.2), gj_bnd_s]
  exact done _
theorem c_mayNo {C : gj_M} {a : Int} (h : ¬ (1 ≤ a ∧ a ≤ 50) ∨ f_X5_stands_14 C = 0) : F_X11_may a C = some (-1, gj_up C 78 2 (gj_w (C 78 2 + 1))) := by
  unfold F_X11_may gj_let2
  rw [c_refuse (by decide)]
  by_cases c : a < 1
  · rw [if_pos c]
  · rw [if_neg c]
    by_cases d : 50 < a
    · rw [if_pos d]
    · rw [if_neg d]
      have e : f_X5_stands_14 C = 0 := by
        rcases h with x | x
        · omega
        · exact x
      dsimp only [gj_letI]
      rw [if_pos e]
def g_co : List Int := [22, 23, 24, 25, 26, 27, 28, 30, 32, 33, 34, 36, 37, 38, 39, 40, 45]
def g_cs : List (Int × Int) := [(21, 0), (21, 2), (29, 1), (29, 2), (31, 5), (31, 6), (31, 7), (31, 8), (31, 9), (31, 10)]
theorem c_mayOf {C : gj_M} {a : Int} (ha : 1 ≤ a ∧ a ≤ 50) (hs : ¬ f_X5_stands_14 C = 0) (h : g_C4 C) (hd : 1 ≤ C 14 9 ∧ C 14 9 ≤ 4) (hk : g_CK C) (h0 : gj_w (C 21 0) = C 21 0) : ∃ N, F_X11_may a C = some (gj_w (C 21 0 + a), N) ∧ (g_CK N ∧ N 21 0 = gj_w (C 21 0 + a) ∧ gj_Fr g_co g_cs C N) := by
  suffices hh : ∀ P : Option (Int × gj_M) → Prop, (∀ N, (g_CK N ∧ N 21 0 = gj_w (C 21 0 + a) ∧ gj_Fr g_co g_cs C N) → P (some (gj_w (C 21 0 + a), N))) → P (F_X11_may a C) from hh (fun y => ∃ N, y = some (gj_w (C 21 0 + a), N) ∧ (g_CK N ∧ N 21 0 = gj_w (C 21 0 + a) ∧ gj_Fr g_co g_cs C N)) (fun N q => ⟨N, rfl, q⟩)
  intro P done
  unfold F_X11_may
  rw [if_neg (by omega), if_neg (by omega)]
  refine k_letI ?_
  rw [if_neg hs]
  refine gj_okM2 P (fun l1 l2 K => l1 = a ∧ 0 ≤ l2 ∧ l2 ≤ a ∧ g_CK K ∧ K 21 0 = gj_w (C 21 0 + l2) ∧ gj_Fr g_co g_cs C K) (fun _ l2 _ => (a - l2).toNat) ?_ gj_fu a 0 C ⟨rfl, by omega, by omega, hk, by rw [Int.add_zero, h0], gj_Fr.rf⟩ (by show _ < 2048; omega)
  rintro rec l1 l2 K ⟨e1, b0, b1, k1, k2, k3⟩ hr
  rw [e1]
  unfold B_X11_may_31 J_X11_may_49
  refine k_ite (fun q => ?_) (fun q => ?_)
  · have e : l2 = a := by omega
    rw [k2, e]
    exact done _ ⟨k1, by rw [k2, e], k3⟩
  · have e14 : K 14 = C 14 := g_fr_row [14] k3 (by decide) 14 rfl (by decide)
    obtain ⟨N, e, n1, n2⟩ := c_hold (M := K) (by unfold g_C4; rw [e14]; exact h) (by rw [e14]; exact hd) k1
    rw [e, gj_bnd_s, gj_wle (x := l2 + 1) (by omega) (by omega)]
    refine hr _ _ _ ⟨rfl, by omega, by omega, n1, ?_, k3.trans (fr_X8_hold N e)⟩ (by omega)
    rw [n2, k2]
    unfold gj_w
    omega
theorem c_blocks {C : gj_M} {k : Int} (h : g_C4 C) : ∃ v N, F_X11_blocks k C = some (v, N) := by
  refine k_cpo2 (fun P done => ?_)
  unfold F_X11_blocks
  obtain ⟨M, eM⟩ := c_look (M := C) (w := 1)
  have e14 : M 14 = C 14 := g_fr_row [14] (fr_X2_look _ M eM) (by decide) 14 rfl (by decide)
  have h : g_C4 M := by unfold g_C4; rw [e14]; exact h
  rw [eM, gj_bnd_s]
  refine gj_okM3 P (fun _ _ l3 K => 0 ≤ l3 ∧ l3 ≤ 4 ∧ K = M) (fun _ _ l3 _ => (4 - l3).toNat) ?_ gj_fu k 0 0 M ⟨by omega, by omega, rfl⟩ (by show _ < 2048; omega)
  rintro rec l1 l2 l3 K ⟨a, b, eK⟩ hr
  rw [eK]
  unfold B_X11_blocks_12 J_X11_blocks_87
  have h0 := h.1
  have h1 := h.2
  refine k_ite (fun _ => k_ite (fun _ => done _ _) (fun _ => done _ _)) (fun c => ?_)
  refine gj_okM4 P (fun _ _ m3 m4 K => m3 = l3 ∧ 0 ≤ m4 ∧ m4 ≤ 4 ∧ K = M) (fun _ _ _ m4 _ => (4 - m4).toNat) ?_ gj_fu l1 l2 l3 0 M ⟨rfl, by omega, by omega, rfl⟩ (by show _ < 2048; omega)
  rintro rec4 m1 m2 m3 m4 K ⟨e, c4, c8, eK⟩ hr4
  rw [e, eK]
  unfold B_X11_blocks_26 J_X11_blocks_81 J_X11_blocks_61
  rw [show gj_w (l3 + 1) = l3 + 1 by unfold gj_w; omega, show gj_w (m4 + 1) = m4 + 1 by unfold gj_w; omega]
  have nx : ∀ x y : Int, m4 < 4 → P (rec4 x y l3 (m4 + 1) M) := fun x y q => hr4 x y l3 (m4 + 1) M ⟨rfl, by omega, by omega, rfl⟩ (by omega)
  exact k_ite (fun _ => hr _ _ _ _ ⟨by omega, by omega, rfl⟩ (by omega)) (fun d => k_letI (k_ite (fun _ => nx _ _ (by omega)) (fun _ => k_ite (fun _ => done _ _) (fun _ => nx _ _ (by omega)))))
theorem c_parents {C : gj_M} {a : Int} : ∃ v, F_X11_parents a C = some v := by
  refine k_cpo (fun P done => ?_)
  unfold F_X11_parents
  exact k_letI (k_ite (fun _ => done _) (fun _ => k_ite (fun _ => k_bE p_yearSum0 (fun _ => done _)) (fun _ => k_letI (k_ite (fun _ => done _) (fun _ => done _)))))
theorem c_sumOf {C : gj_M} {z n a : Int} : ∃ v, F_X5_sumOf z n a C = some v := by
  refine k_cpo (fun P done => ?_)
  unfold F_X5_sumOf
  refine k_letI (k_bE p_yearSum0 (fun x => ?_))
  refine gj_okQ3 P (fun _ _ l5 => 0 ≤ l5 ∧ l5 ≤ 8) (fun _ _ l5 => (8 - l5).toNat) ?_ gj_fu _ _ 0 ⟨by omega, by omega⟩ (by show _ < 2048; omega)
  rintro rec l3 l4 l5 ⟨a, b⟩ hr
  unfold B_X5_sumOf_31 J_X5_sumOf_63
  rw [show gj_w (l5 + 1) = l5 + 1 by unfold gj_w; omega]
  have nx : ∀ x y : Int, l5 < 8 → P (rec x y (l5 + 1)) := fun x y q => hr _ _ _ ⟨by omega, by omega⟩ (by omega)
  exact k_ite (fun _ => done _) (fun c => k_letI (k_ite (fun _ => nx _ _ (by omega)) (fun _ => k_ite (fun _ => nx _ _ (by omega)) (fun _ => nx _ _ (by omega)))))
theorem c_life {C : gj_M} {a b : Int} : ∃ v N, F_X11_life a b C = some (v, N) := by
  refine k_cpo2 (fun P done => ?_)
  unfold F_X11_life
  exact k_letI (k_ite (fun _ => done _ _) (fun _ => k_ite (fun _ => done _ _) (fun _ => k_ite (fun _ => done _ _) (fun _ => k_ite (fun _ => done _ _) (fun _ => k_ite (fun _ => k_bE c_gather (fun _ => k_bE c_look (fun _ => k_bE c_pairUp (fun _ => k_bE c_sumOf (fun _ => k_ite (fun _ => done _ _) (fun _ => k_bE c_sumOf (fun _ => done _ _))))))) (fun _ => done _ _))))))
theorem c_neverTried {C : gj_M} : ∃ v, F_X11_neverTried C = some v := by
  refine k_cpo (fun P done => ?_)
  unfold F_X11_neverTried
  refine gj_okQ2 P (fun _ l2 => 0 ≤ l2 ∧ l2 ≤ 4) (fun _ l2 => (4 - l2).toNat) ?_ gj_fu 0 0 ⟨by omega, by omega⟩ (by show _ < 2048; omega)
  rintro rec l1 l2 ⟨a, b⟩ hr
  unfold B_X11_neverTried_4 J_X11_neverTried_44
  rw [show gj_w (l2 + 1) = l2 + 1 by unfold gj_w; omega]
  have nx : ∀ x : Int, l2 < 4 → P (rec x (l2 + 1)) := fun x q => hr _ _ ⟨by omega, by omega⟩ (by omega)
  exact k_ite (fun _ => done _) (fun c => k_ite (fun _ => nx _ (by omega)) (fun _ => k_letI (k_ite (fun _ => nx _ (by omega)) (fun _ => nx _ (by omega)))))
theorem c_never {C : gj_M} {a : Int} : ∃ v, F_X11_never a C = some v := by
  refine k_cpo (fun P done => ?_)
  unfold F_X11_never
  exact k_letI (k_ite (fun _ => done _) (fun _ => k_ite (fun _ => k_bE c_neverTried (fun _ => done _)) (fun _ => k_ite (fun _ => k_bE p_yearSum0 (fun _ => k_bE p_yearSum0 (fun _ => done _))) (fun _ => done _))))
theorem c_pairsOf {C : gj_M} {a : Int} : ∃ v, F_X3_pairsOf a C = some v := by
  refine k_cpo (fun P done => ?_)
  unfold F_X3_pairsOf
  refine gj_okQ3 P (fun _ _ l3 => 0 ≤ l3 ∧ l3 ≤ 4) (fun _ _ l3 => (4 - l3).toNat) ?_ gj_fu a 0 0 ⟨by omega, by omega⟩ (by show _ < 2048; omega)
  rintro rec l1 l2 l3 ⟨a, b⟩ hr
  unfold B_X3_pairsOf_4 J_X3_pairsOf_36
  rw [show gj_w (l3 + 1) = l3 + 1 by unfold gj_w; omega]
  have nx : ∀ x y : Int, l3 < 4 → P (rec x y (l3 + 1)) := fun x y q => hr _ _ _ ⟨by omega, by omega⟩ (by omega)
  exact k_ite (fun _ => done _) (fun c => k_ite (fun _ => nx _ _ (by omega)) (fun _ => k_ite (fun _ => nx _ _ (by omega)) (fun _ => nx _ _ (by omega))))
theorem c_pairs {C : gj_M} {a b : Int} : ∃ v, F_X11_pairs a b C = some v := by
  refine k_cpo (fun P done => ?_)
  unfold F_X11_pairs
  exact k_ite (fun _ => done _) (fun _ => k_ite (fun _ => k_ite (fun _ => k_bE c_pairsOf (fun _ => done _)) (fun _ => k_ite (fun _ => k_bE c_pairsOf (fun _ => done _)) (fun _ => done _))) (fun _ => done _))
theorem c_picture {C : gj_M} {k : Int} : F_X11_pictureAt k C = some (if k = 0 then 47 else if k = 1 then 57 else if k = 2 then 67 else -1) := by
  unfold F_X11_pictureAt
  by_cases a : k < 0
  · rw [if_pos a, if_neg (by omega), if_neg (by omega), if_neg (by omega)]
  · rw [if_neg a]
    by_cases b : k < 3
    · rw [if_pos b, gj_chkp (by omega)]
      by_cases c : k = 0
      · rw [if_pos c, if_pos c]
      · rw [if_neg c, if_neg c]
        by_cases d : k = 1
        · rw [if_pos d, if_pos d]
        · rw [if_neg d, if_neg d, if_pos (by omega)]
    · rw [if_neg b, if_neg (by omega), if_neg (by omega), if_neg (by omega)]
theorem c_imageNo {C : gj_M} {k : Int} (h : ¬ (0 ≤ k ∧ k ≤ 2)) : F_X11_image k C = some (0, gj_up C 78 0 (gj_w (C 78 0 + 1))) := by
  unfold F_X11_image gj_let2
  rw [c_picture, gj_bnd_s, if_neg (show ¬ k = 0 by omega), if_neg (show ¬ k = 1 by omega), if_neg (show ¬ k = 2 by omega), if_pos rfl, c_refuse (by decide)]
theorem c_imageNo2 {C : gj_M} {k : Int} (h : 0 ≤ k ∧ k ≤ 2) (v : f_X5_stands_14 C = 0) : F_X11_image k C = some (0, gj_up C 78 2 (gj_w (C 78 2 + 1))) := by
  unfold F_X11_image gj_let2
  rw [c_picture, gj_bnd_s]
  dsimp only [gj_letI]
  have cs : k = 0 ∨ k = 1 ∨ k = 2 := by omega
  rcases cs with e | e | e
  · rw [if_pos e, if_neg (by decide), if_pos rfl, if_pos v, c_refuse (by decide)]
  · rw [if_neg (show ¬ k = 0 by omega), if_pos e, if_neg (by decide), if_neg (by decide), if_pos rfl, if_pos v, c_refuse (by decide)]
  · rw [if_neg (show ¬ k = 0 by omega), if_neg (show ¬ k = 1 by omega), if_pos e, if_neg (by decide), if_neg (by decide), if_neg (by decide), if_pos rfl, if_pos v, c_refuse (by decide)]
/-- a life z copied out of the life w -/
def g_cpL (M : gj_M) (z w : Int) : gj_M :=
  f_copy (gj_up (gj_up (f_copy (f_copy (f_copy (f_copy (f_copy (f_copy (f_copy (gj_up (gj_up (gj_up M z 0 (M w 0)) z 1 (M w 1)) z 2 (M w 2)) (w + 1) 8 (z + 1) 8) (w + 2) 8 (z + 2) 8) (w + 3) 8 (z + 3) 8) (w + 4) 8 (z + 4) 8) (w + 5) 16 (z + 5) 16) (w + 6) 16 (z + 6) 16) (w + 7) 16 (z + 7) 16) (z + 8) 1 (M (w + 8) 1)) (z + 8) 2 (M (w + 8) 2)) (w + 9) 200 (z + 9) 200
theorem c_imageYes {C : gj_M} {k : Int} (h : 0 ≤ k ∧ k ≤ 2) (v : ¬ f_X5_stands_14 C = 0) : F_X11_image k C = some (1, gj_up (g_cpL C (47 + 10 * k) 21) 77 k 1) := by
  unfold F_X11_image
  rw [c_picture, gj_bnd_s]
  dsimp only [gj_letI]
  have cs : k = 0 ∨ k = 1 ∨ k = 2 := by omega
  rcases cs with e | e | e
  · rw [if_pos e, if_neg (by decide), if_pos rfl, if_neg v, gj_let_s, gj_let_s, f_put_in (by omega), e]
    have q : f_X3_copyOf_47_21 C = g_cpL C 47 21 := by
      unfold f_X3_copyOf_47_21 f_X1_copyOf_55_29
      simp only [gj_let_s]
      unfold g_cpL
      simp only [gj_up, f_copy]
      rfl
    rw [q]
    rfl
  · rw [if_neg (show ¬ k = 0 by omega), if_pos e, if_neg (by decide), if_neg (by decide), if_pos rfl, if_neg v, gj_let_s, gj_let_s, f_put_in (by omega), e]
    have q : f_X3_copyOf_57_21 C = g_cpL C 57 21 := by
      unfold f_X3_copyOf_57_21 f_X1_copyOf_65_29
      simp only [gj_let_s]
      unfold g_cpL
      simp only [gj_up, f_copy]
      rfl
    rw [q]
    rfl
  · rw [if_neg (show ¬ k = 0 by omega), if_neg (show ¬ k = 1 by omega), if_pos e, if_neg (by decide), if_neg (by decide), if_neg (by decide), if_pos rfl, if_neg v, gj_let_s, gj_let_s, f_put_in (by omega), e]
    have q : f_X3_copyOf_67_21 C = g_cpL C 67 21 := by
      unfold f_X3_copyOf_67_21 f_X1_copyOf_75_29
      simp only [gj_let_s]
      unfold g_cpL
      simp only [gj_up, f_copy]
      rfl
    rw [q]
    rfl
theorem c_onNo {C : gj_M} {k : Int} (h : ¬ (0 ≤ k ∧ k ≤ 2) ∨ C 77 k = 0) : F_X11_on k C = some (0, gj_up C 78 0 (gj_w (C 78 0 + 1))) := by
  unfold F_X11_on gj_let2
  rw [c_picture, gj_bnd_s]
  by_cases c : 0 ≤ k ∧ k ≤ 2
  · have v : f_at C 77 3 k = 0 := by
      rw [f_at_in (by omega)]
      rcases h with x | x
      · exact absurd c x
      · exact x
    have cs : k = 0 ∨ k = 1 ∨ k = 2 := by omega
    rcases cs with e | e | e
    · rw [if_pos e, if_neg (by decide), if_pos rfl, if_pos v, c_refuse (by decide)]
    · rw [if_neg (show ¬ k = 0 by omega), if_pos e, if_neg (by decide), if_neg (by decide), if_pos rfl, if_pos v, c_refuse (by decide)]
    · rw [if_neg (show ¬ k = 0 by omega), if_neg (show ¬ k = 1 by omega), if_pos e, if_neg (by decide), if_neg (by decide), if_neg (by decide), if_pos rfl, if_pos v, c_refuse (by decide)]
  · rw [if_neg (show ¬ k = 0 by omega), if_neg (show ¬ k = 1 by omega), if_neg (show ¬ k = 2 by omega), if_pos rfl, c_refuse (by decide)]
theorem c_onYes {C : gj_M} {k : Int} (h : 0 ≤ k ∧ k ≤ 2) (v : ¬ C 77 k = 0) : F_X11_on k C = some (1, g_cpL C 21 (47 + 10 * k)) := by
  unfold F_X11_on
  rw [c_picture, gj_bnd_s, f_at_in (by omega)]
  have cs : k = 0 ∨ k = 1 ∨ k = 2 := by omega
  rcases cs with e | e | e
  · rw [if_pos e, if_neg (by decide), if_pos rfl, if_neg v, gj_let_s, e]
    have q : f_X3_copyOf_21_47 C = g_cpL C 21 47 := by
      unfold f_X3_copyOf_21_47 f_X1_copyOf_29_55
      simp only [gj_let_s]
      unfold g_cpL
      simp only [gj_up, f_copy]
      rfl
    rw [q]
    rfl
  · rw [if_neg (show ¬ k = 0 by omega), if_pos e, if_neg (by decide), if_neg (by decide), if_pos rfl, if_neg v, gj_let_s, e]
    have q : f_X3_copyOf_21_57 C = g_cpL C 21 57 := by
      unfold f_X3_copyOf_21_57 f_X1_copyOf_29_65
      simp only [gj_let_s]
      unfold g_cpL
      simp only [gj_up, f_copy]
      rfl
    rw [q]
    rfl
  · rw [if_neg (show ¬ k = 0 by omega), if_neg (show ¬ k = 1 by omega), if_pos e, if_neg (by decide), if_neg (by decide), if_neg (by decide), if_pos rfl, if_neg v, gj_let_s, e]
    have q : f_X3_copyOf_21_67 C = g_cpL C 21 67 := by
      unfold f_X3_copyOf_21_67 f_X1_copyOf_29_75
      simp only [gj_let_s]
      unfold g_cpL
      simp only [gj_up, f_copy]
      rfl
    rw [q]
    rfl
