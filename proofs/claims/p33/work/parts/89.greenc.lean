/-! PURE: the green and a MAY in the class; it ends -/
theorem c_look {M : gj_M} {w : Int} : ∃ N, F_X2_look w M = some N := by
  refine k_cpo (fun P done => ?_)
  unfold F_X2_look
  refine gj_okM2 P (fun l1 l2 _ => 0 ≤ l2 ∧ l2 ≤ 4) (fun _ l2 _ => (4 - l2).toNat) ?_ gj_fu w 0 M ⟨by omega, by omega⟩ (by show _ < 2048; omega)
  rintro rec l1 l2 K ⟨a, b⟩ hr
  unfold B_X2_look_2
  refine k_ite (fun _ => done _) (fun c => ?_)
  refine gj_okM3 P (fun _ m2 m3 _ => m2 = l2 ∧ 4 ≤ m3 ∧ m3 ≤ 8) (fun _ _ m3 _ => (8 - m3).toNat) ?_ gj_fu l1 l2 4 K ⟨rfl, by omega, by omega⟩ (by show _ < 2048; omega)
  rintro rec9 m1 m2 m3 K ⟨e, x, y⟩ hr9
  rw [e]
  unfold B_X2_look_9 J_X2_look_94 J_X2_look_85
  rw [gj_wle (x := l2 + 1) (by omega) (by omega)]
  refine k_ite (fun _ => hr _ _ _ ⟨by omega, by omega⟩ (by omega)) (fun d => k_letI ?_)
  rw [gj_let_s]
  refine k_letI ?_
  rw [gj_let_s, gj_wle (x := m3 + 1) (by omega) (by omega)]
  have nx : ∀ J : gj_M, P (rec9 m1 l2 (m3 + 1) J) := fun J => hr9 _ _ _ _ ⟨rfl, by omega, by omega⟩ (by omega)
  exact k_letI (k_ite (fun _ => k_chk (Or.inl rfl) (nx _)) (fun _ => k_letI (k_ite (fun _ => k_chk (Or.inl rfl) (nx _)) (fun _ => k_chk (Or.inr rfl) (nx _)))))
theorem c_gather {M : gj_M} {w : Int} : ∃ N, F_X2_gather w M = some N := by
  refine k_cpo (fun P done => ?_)
  unfold F_X2_gather
  refine gj_okM2 P (fun l1 l2 _ => 0 ≤ l2 ∧ l2 ≤ 8) (fun _ l2 _ => (8 - l2).toNat) ?_ gj_fu w 0 M ⟨by omega, by omega⟩ (by show _ < 2048; omega)
  rintro rec l1 l2 K ⟨a, b⟩ hr
  unfold B_X2_gather_2 J_X2_gather_32 J_X2_gather_58
  refine k_ite (fun _ => done _) (fun c => ?_)
  rw [gj_wle (x := l2 + 1) (by omega) (by omega)]
  have nx : ∀ J : gj_M, P (rec l1 (l2 + 1) J) := fun J => hr _ _ _ ⟨by omega, by omega⟩ (by omega)
  have j : ∀ s : Int, P (if s = 0 then gj_chk ((0 : Int) = 0 ∨ (0 : Int) = 1) (gj_let (f_put K 38 8 l2 0) fun M3 => rec l1 (l2 + 1) M3) else gj_letI (f_X5_isPerson_14 l2 K) fun x1 => if x1 = 0 then gj_chk ((0 : Int) = 0 ∨ (0 : Int) = 1) (gj_let (f_put K 38 8 l2 0) fun M3 => rec l1 (l2 + 1) M3) else gj_chk ((1 : Int) = 0 ∨ (1 : Int) = 1) (gj_let (f_put K 38 8 l2 1) fun M3 => rec l1 (l2 + 1) M3)) := fun s => k_ite (fun _ => k_chk (Or.inl rfl) (nx _)) (fun _ => k_letI (k_ite (fun _ => k_chk (Or.inl rfl) (nx _)) (fun _ => k_chk (Or.inr rfl) (nx _))))
  exact k_ite (fun _ => k_ite (fun _ => j 1) (fun _ => j 0)) (fun _ => j 1)
theorem c_soonest {M : gj_M} {s : Int} : ∃ v, F_X2_soonestToAsk s M = some v := by
  refine k_cpo (fun P done => ?_)
  unfold F_X2_soonestToAsk
  refine gj_okQ3 P (fun _ _ l3 => 0 ≤ l3 ∧ l3 ≤ 4) (fun _ _ l3 => (4 - l3).toNat) ?_ gj_fu s (-1) 0 ⟨by omega, by omega⟩ (by show _ < 2048; omega)
  rintro rec l1 l2 l3 ⟨a, b⟩ hr
  unfold B_X2_soonestToAsk_4 J_X2_soonestToAsk_47 J_X2_soonestToAsk_73
  refine k_ite (fun _ => done _) (fun c => ?_)
  rw [gj_wle (x := l3 + 1) (by omega) (by omega)]
  have nx : ∀ x y : Int, P (rec x y (l3 + 1)) := fun x y => hr _ _ _ ⟨by omega, by omega⟩ (by omega)
  refine k_letI (k_ite (fun _ => k_ite (fun _ => nx _ _) (fun no => absurd rfl no)) (fun _ => k_ite (fun _ => k_ite (fun _ => nx _ _) (fun _ => k_ite (fun _ => nx _ _) (fun _ => k_letI (k_ite (fun _ => nx _ _) (fun _ => nx _ _))))) (fun _ => k_ite (fun _ => nx _ _) (fun no => absurd rfl no))))
theorem c_askAll {M : gj_M} {w : Int} (hw : w = 0 ∨ w = 4) : ∃ N, F_X2_askAll w M = some N := by
  refine k_cpo (fun P done => ?_)
  unfold F_X2_askAll
  refine gj_okM2 P (fun l1 l2 _ => l1 = w ∧ 0 ≤ l2 ∧ l2 ≤ 17) (fun _ l2 _ => (17 - l2).toNat) ?_ gj_fu w 0 M ⟨rfl, by omega, by omega⟩ (by show _ < 2048; omega)
  rintro rec l1 l2 K ⟨e1, a, b⟩ hr
  rw [e1]
  unfold B_X2_askAll_2
  refine k_ite (fun _ => done _) (fun c => ?_)
  refine gj_okM3 P (fun m1 m2 m3 _ => m1 = w ∧ m2 = l2 ∧ w ≤ m3 ∧ m3 ≤ w + 4) (fun _ _ m3 _ => (w + 4 - m3).toNat) ?_ gj_fu w l2 w K ⟨rfl, rfl, by omega, by omega⟩ (by show _ < 2048; omega)
  rintro rec10 m1 m2 m3 K ⟨f1, f2, x, y⟩ hr10
  rw [f1, f2]
  unfold B_X2_askAll_10 J_X2_askAll_45 J_X2_askAll_39
  rw [gj_wle (x := l2 + 1) (by omega) (by omega), gj_wle (x := w + 4) (by omega) (by omega), gj_wle (x := m3 + 1) (by omega) (by omega)]
  have nx : ∀ J : gj_M, m3 < w + 4 → P (rec10 w l2 (m3 + 1) J) := fun J h => hr10 _ _ _ _ ⟨rfl, rfl, by omega, by omega⟩ (by omega)
  exact k_ite (fun _ => hr _ _ _ ⟨rfl, by omega, by omega⟩ (by omega)) (fun d => k_ite (fun _ => k_bE c_soonest (fun x => k_let (nx _ (by omega)))) (fun _ => nx _ (by omega)))
theorem c_takeTurns {M : gj_M} : ∃ N, F_X2_takeTurns M = some N := by
  refine k_cpo (fun P done => ?_)
  unfold F_X2_takeTurns
  refine gj_okM1 P (fun l1 _ => 0 ≤ l1 ∧ l1 ≤ 4) (fun l1 _ => (4 - l1).toNat) ?_ gj_fu 0 M ⟨by omega, by omega⟩ (by show _ < 2048; omega)
  rintro rec l1 K ⟨a, b⟩ hr
  unfold B_X2_takeTurns_2
  refine k_ite (fun _ => done _) (fun c => ?_)
  refine gj_okM3 P (fun m1 _ m3 _ => m1 = l1 ∧ 4 ≤ m3 ∧ m3 ≤ 8) (fun _ _ m3 _ => (8 - m3).toNat) ?_ gj_fu l1 (-1) 4 K ⟨rfl, by omega, by omega⟩ (by show _ < 2048; omega)
  rintro rec11 m1 m2 m3 K ⟨f1, x, y⟩ hr11
  rw [f1]
  unfold B_X2_takeTurns_11 J_X2_takeTurns_49 J_X2_takeTurns_43
  rw [gj_wle (x := l1 + 1) (by omega) (by omega), gj_wle (x := m3 + 1) (by omega) (by omega)]
  have nx : ∀ z : Int, m3 < 8 → P (rec11 l1 z (m3 + 1) K) := fun z h => hr11 _ _ _ _ ⟨rfl, by omega, by omega⟩ (by omega)
  exact k_ite (fun _ => k_let (hr _ _ ⟨by omega, by omega⟩ (by omega))) (fun d => k_letI (k_ite (fun _ => nx _ (by omega)) (fun _ => k_ite (fun _ => nx _ (by omega)) (fun _ => k_letI (k_ite (fun _ => nx _ (by omega)) (fun _ => nx _ (by omega)))))))
theorem c_lot {M : gj_M} {n : Int} : ∃ v x, F_X3_lot n M = some (v, gj_up M 21 2 x) := by
  unfold F_X3_lot
  rw [gj_let_s]
  by_cases c : n ≤ 0
  · rw [if_pos c]
    exact ⟨_, _, rfl⟩
  · rw [if_neg c, gj_chkp (by omega)]
    exact ⟨_, _, rfl⟩
theorem c_openOne {M : gj_M} {a b : Int} : ∃ v, F_X2_openOne a b M = some v := by
  refine k_cpo (fun P done => ?_)
  unfold F_X2_openOne
  refine gj_okQ3 P (fun _ _ l3 => 4 ≤ l3 ∧ l3 ≤ 8) (fun _ _ l3 => (8 - l3).toNat) ?_ gj_fu a b 4 ⟨by omega, by omega⟩ (by show _ < 2048; omega)
  rintro rec l1 l2 l3 ⟨a, b⟩ hr
  unfold B_X2_openOne_5
  refine k_ite (fun _ => done _) (fun c => ?_)
  rw [gj_wle (x := l3 + 1) (by omega) (by omega)]
  have nx : ∀ x y : Int, P (rec x y (l3 + 1)) := fun x y => hr _ _ _ ⟨by omega, by omega⟩ (by omega)
  exact k_letI (k_ite (fun _ => nx _ _) (fun _ => k_ite (fun _ => done _) (fun _ => nx _ _)))
theorem c_drawLots {M : gj_M} : ∃ N, F_X2_drawLots M = some N := by
  refine k_cpo (fun P done => ?_)
  unfold F_X2_drawLots
  refine gj_okM1 P (fun l1 _ => 0 ≤ l1 ∧ l1 ≤ 4) (fun l1 _ => (4 - l1).toNat) ?_ gj_fu 0 M ⟨by omega, by omega⟩ (by show _ < 2048; omega)
  rintro rec l1 K ⟨a, b⟩ hr
  unfold B_X2_drawLots_2
  refine k_ite (fun _ => done _) (fun c => ?_)
  refine gj_okM3 P (fun m1 _ m3 _ => m1 = l1 ∧ 4 ≤ m3 ∧ m3 ≤ 8) (fun _ _ m3 _ => (8 - m3).toNat) ?_ gj_fu l1 0 4 K ⟨rfl, by omega, by omega⟩ (by show _ < 2048; omega)
  rintro rec11 m1 m2 m3 K ⟨f1, x, y⟩ hr11
  rw [f1]
  unfold B_X2_drawLots_11 J_X2_drawLots_40 J_X2_drawLots_32 J_X2_drawLots_62
  rw [gj_wle (x := l1 + 1) (by omega) (by omega), gj_wle (x := m3 + 1) (by omega) (by omega)]
  have nx : ∀ z : Int, m3 < 8 → P (rec11 l1 z (m3 + 1) K) := fun z h => hr11 _ _ _ _ ⟨rfl, by omega, by omega⟩ (by omega)
  have ny : ∀ J : gj_M, P (rec (l1 + 1) J) := fun J => hr _ _ ⟨by omega, by omega⟩ (by omega)
  refine k_ite (fun _ => k_ite (fun _ => ny _) (fun _ => ?_)) (fun d => k_letI (k_ite (fun _ => nx _ (by omega)) (fun _ => nx _ (by omega))))
  obtain ⟨v, z, e⟩ := c_lot (M := K) (n := m2)
  rw [e, gj_bnd2_s]
  exact k_bE c_openOne (fun x => k_let (ny _))
theorem c_pairUp {M : gj_M} {w : Int} : ∃ N, F_X2_pairUp w M = some N := by
  refine k_cpo (fun P done => ?_)
  unfold F_X2_pairUp
  rw [gj_let_s, gj_let_s]
  exact k_ite (fun _ => k_bE (c_askAll (Or.inl rfl)) (fun _ => done _)) (fun _ => k_ite (fun _ => k_bE (c_askAll (Or.inr rfl)) (fun _ => done _)) (fun _ => k_ite (fun _ => k_bE c_takeTurns (fun _ => done _)) (fun _ => k_bE c_drawLots (fun _ => done _))))
theorem c_green {M : gj_M} {w a : Int} : ∃ v N, F_X11_green w a M = some (v, N) := by
  refine k_cpo2 (fun P done => ?_)
  unfold F_X11_green
  exact k_letI (k_ite (fun _ => done _ _) (fun _ => k_ite (fun _ => done _ _) (fun _ => k_ite (fun _ => k_bE c_gather (fun _ => k_bE c_look (fun _ => k_bE c_pairUp (fun _ => done _ _)))) (fun _ => done _ _))))
theorem c_sooner {M : gj_M} {a b d : Int} : ∃ v N, F_X11_sooner a b d M = some (v, N) := by
  refine k_cpo2 (fun P done => ?_)
  unfold F_X11_sooner
  exact k_letI (k_letI (k_letI (k_ite (fun _ => done _ _) (fun _ => k_ite (fun _ => done _ _) (fun _ => k_bE c_look (fun _ => k_letI (k_ite (fun _ => done _ _) (fun _ => done _ _))))))))
theorem c_askPaired {M : gj_M} (h : g_C4 M) (hd : 1 ≤ M 14 9 ∧ M 14 9 ≤ 4) : ∃ N, F_X8_askPaired M = some N := by
  refine k_cpo (fun P done => ?_)
  unfold F_X8_askPaired
  refine gj_okM1 P (fun l1 K => 0 ≤ l1 ∧ l1 ≤ 8 ∧ K 14 = M 14) (fun l1 _ => (8 - l1).toNat) ?_ gj_fu 0 M ⟨by omega, by omega, rfl⟩ (by show _ < 2048; omega)
  rintro rec l1 K ⟨a, b, e14⟩ hr
  unfold B_X8_askPaired_2 J_X8_askPaired_55 J_X8_askPaired_56
  refine k_ite (fun _ => done _) (fun c => ?_)
  rw [gj_wle (x := l1 + 1) (by omega) (by omega)]
  have nx : ∀ (v : Int) (J : gj_M), v = 0 ∨ v = 1 → J 14 = M 14 → P (gj_chk (v = 0 ∨ v = 1) (gj_let (f_put J 45 8 l1 v) fun M6 => rec (l1 + 1) M6)) := fun v J hv hJ => k_chk hv (k_let (hr _ _ ⟨by omega, by omega, by rw [f_put_z (by decide)]; exact hJ⟩ (by omega)))
  refine k_ite (fun _ => nx _ _ (Or.inl rfl) e14) (fun _ => ?_)
  obtain ⟨N, e, hN⟩ := c_enter (M := K) (s := l1) (by unfold g_C4; rw [e14]; exact h)
  have n14 : N 14 = M 14 := by rw [← e14]; exact g_fr_row [14] (fr_X4_enter _ N e) (by decide) 14 rfl (by decide)
  rw [e, gj_bnd_s]
  obtain ⟨v, J, e2, -⟩ := c_stays (n := N 14 9) (by rw [n14]; exact hd) hN
  have j14 : J 14 = M 14 := by rw [← n14]; exact g_fr_row [14] (fr_X4_stays _ _ e2) (by decide) 14 rfl (by decide)
  rw [e2, gj_bnd2_s]
  exact k_ite (fun _ => nx _ _ (Or.inr rfl) j14) (fun _ => nx _ _ (Or.inl rfl) j14)
theorem c_endPairs {M : gj_M} : ∃ N, F_X8_endPairs M = some N := by
  refine k_cpo (fun P done => ?_)
  unfold F_X8_endPairs
  refine gj_okM1 P (fun l1 _ => 0 ≤ l1 ∧ l1 ≤ 4) (fun l1 _ => (4 - l1).toNat) ?_ gj_fu 0 M ⟨by omega, by omega⟩ (by show _ < 2048; omega)
  rintro rec l1 K ⟨a, b⟩ hr
  unfold B_X8_endPairs_2 J_X8_endPairs_30
  rw [show gj_w (l1 + 1) = l1 + 1 by unfold gj_w; omega]
  have nx : ∀ J : gj_M, l1 < 4 → P (rec (l1 + 1) J) := fun J q => hr _ _ ⟨by omega, by omega⟩ (by omega)
  exact k_ite (fun _ => done _) (fun c => k_ite (fun _ => nx _ (by omega)) (fun _ => k_let (nx _ (by omega))))
theorem c_bindNew {M : gj_M} : ∃ N, F_X8_bindNewPairs M = some N := by
  refine k_cpo (fun P done => ?_)
  unfold F_X8_bindNewPairs
  refine gj_okM1 P (fun l1 _ => 0 ≤ l1 ∧ l1 ≤ 4) (fun l1 _ => (4 - l1).toNat) ?_ gj_fu 0 M ⟨by omega, by omega⟩ (by show _ < 2048; omega)
  rintro rec l1 K ⟨a, b⟩ hr
  unfold B_X8_bindNewPairs_2 J_X8_bindNewPairs_33
  rw [show gj_w (l1 + 1) = l1 + 1 by unfold gj_w; omega]
  have nx : ∀ J : gj_M, l1 < 4 → P (rec (l1 + 1) J) := fun J q => hr _ _ ⟨by omega, by omega⟩ (by omega)
  exact k_ite (fun _ => done _) (fun c => k_ite (fun _ => nx _ (by omega)) (fun _ => k_let (nx _ (by omega))))
def g_CK (M : gj_M) : Prop := ∀ j, 0 ≤ j → j < 16 → g_K (M 26 j) (M 27 j)
theorem g_CK_s {M N : gj_M} (h : g_CK M) (h1 : N 26 = M 26) (h2 : N 27 = M 27) : g_CK N := by
  unfold g_CK
  rw [h1, h2]
  exact h
theorem g_CK_put {M : gj_M} {z i : Int} (h : g_CK M) (hz : z = 26 ∨ z = 27) : g_CK (f_put M z 16 i (f_min 4 (gj_w (f_at M z 16 i + 1)))) := by
  by_cases c : 0 ≤ i ∧ i < 16
  · rw [f_put_in c, f_at_in c]
    have k := h i c.1 c.2
    intro j a b
    have kj := h j a b
    rcases hz with e | e <;> rw [e]
    · rw [gj_up_if, gj_up_z (by decide)]
      split
      · next e2 => rw [e2]; exact ⟨g_min4 k.1, k.2⟩
      · exact kj
    · rw [gj_up_if, gj_up_z (by decide)]
      split
      · next e2 => rw [e2]; exact ⟨k.1, g_min4 k.2⟩
      · exact kj
  · unfold f_put
    rw [if_neg c]
    exact h
theorem c_live {M : gj_M} {p q : Int} (h : g_CK M) : ∃ N, F_X8_liveTogether p q M = some N ∧ g_CK N := by
  refine k_cps (fun P done => ?_)
  have up2 : ∀ (K : gj_M) (x : Int), g_CK K → g_CK (gj_up K 21 2 x) := fun K x hK => g_CK_s hK (funext fun _ => gj_up_z (by decide)) (funext fun _ => gj_up_z (by decide))
  have pz : ∀ (K : gj_M) (z n i v : Int), z ≠ 26 → z ≠ 27 → g_CK K → g_CK (f_put K z n i v) := fun K z n i v h1 h2 hK => g_CK_s hK (f_put_z (fun e => h1 e.symm)) (f_put_z (fun e => h2 e.symm))
  have er : ∀ (K : gj_M) (a b : Int), g_CK K → g_CK (f_X3_earn a b K) := fun K a b hK => g_CK_s hK (g_fr_row [26] (fr_X3_earn a b) (by decide) 26 rfl (by decide)) (g_fr_row [27] (fr_X3_earn a b) (by decide) 27 rfl (by decide))
  have j147 : ∀ (K : gj_M) (t a4 a5 a6 a7 a8 : Int), g_CK K → P (J_X8_liveTogether_147 p q t a4 a5 a6 a7 a8 K) := by
    intro K t a4 a5 a6 a7 a8 hK
    unfold J_X8_liveTogether_147
    rw [gj_let_s, gj_let_s, gj_let_s, gj_let_s]
    have h4 := pz _ 23 8 q (gj_w (a6 + 1)) (by decide) (by decide) (pz _ 23 8 p (gj_w (a6 + 1)) (by decide) (by decide) (er _ q a8 (er _ p a8 hK)))
    refine k_ite (fun _ => k_let ?_) (fun _ => k_let ?_)
    · exact k_ite (fun _ => done _ (g_CK_put h4 (Or.inr rfl))) (fun _ => k_let (done _ (pz _ _ _ _ _ (by decide) (by decide) (g_CK_put h4 (Or.inr rfl)))))
    · exact k_ite (fun _ => done _ (g_CK_put h4 (Or.inl rfl))) (fun _ => k_let (done _ (pz _ _ _ _ _ (by decide) (by decide) (g_CK_put h4 (Or.inl rfl)))))
  have j110 : ∀ (K : gj_M) (t a4 a5 a6 a7 s : Int), g_CK K → P (J_X8_liveTogether_110 p q t a4 a5 a6 a7 s K) := by
    intro K t a4 a5 a6 a7 s hK
    unfold J_X8_liveTogether_110
    exact k_letI (k_ite (fun _ => j147 _ _ _ _ _ _ _ hK) (fun _ => j147 _ _ _ _ _ _ _ hK))
  have j34 : ∀ (K : gj_M) (t s : Int), g_CK K → P (J_X8_liveTogether_34 p q t s K) := by
    intro K t s hK
    unfold J_X8_liveTogether_34 J_X8_liveTogether_60
    obtain ⟨v, x, e⟩ := c_lot (M := K) (n := 16)
    rw [e, gj_bnd2_s]
    have h2 := up2 K x hK
    exact k_ite (fun _ => k_ite (fun _ => j110 _ _ _ _ _ _ _ h2) (fun _ => j110 _ _ _ _ _ _ _ h2)) (fun _ => k_ite (fun _ => j110 _ _ _ _ _ _ _ h2) (fun _ => j110 _ _ _ _ _ _ _ h2))
  unfold F_X8_liveTogether
  obtain ⟨v, x, e⟩ := c_lot (M := M) (n := 16)
  rw [e, gj_bnd2_s]
  exact k_ite (fun _ => j34 _ _ _ (up2 M x h)) (fun _ => j34 _ _ _ (up2 M x h))
theorem c_passYear {M : gj_M} (h : g_CK M) : ∃ N, F_X8_passYear M = some N ∧ (g_CK N ∧ N 21 0 = gj_w (M 21 0 + 1)) := by
  refine k_cps (fun P done => ?_)
  unfold F_X8_passYear
  refine gj_okM1 P (fun l1 K => 0 ≤ l1 ∧ l1 ≤ 4 ∧ g_CK K ∧ K 21 0 = M 21 0) (fun l1 _ => (4 - l1).toNat) ?_ gj_fu 0 M ⟨by omega, by omega, h, rfl⟩ (by show _ < 2048; omega)
  rintro rec l1 K ⟨a, b, hK, yK⟩ hr
  unfold B_X8_passYear_2 J_X8_passYear_30 J_X8_passYear_36
  refine k_ite (fun _ => ?_) (fun c => ?_)
  · clear hr
    refine gj_okM1 P (fun l1 K => 0 ≤ l1 ∧ l1 ≤ 8 ∧ g_CK K ∧ K 21 0 = M 21 0) (fun l1 _ => (8 - l1).toNat) ?_ gj_fu 0 K ⟨by omega, by omega, hK, yK⟩ (by show _ < 2048; omega)
    clear hK yK a b
    rintro rec l1 K ⟨a, b, hK, yK⟩ hr
    unfold B_X8_passYear_38 J_X8_passYear_89 J_X8_passYear_95
    rw [show gj_w (l1 + 1) = l1 + 1 by unfold gj_w; omega]
    have nx : ∀ J : gj_M, l1 < 8 → g_CK J → J 21 0 = M 21 0 → P (rec (l1 + 1) J) := fun J q h1 h2 => hr _ _ ⟨by omega, by omega, h1, h2⟩ (by omega)
    refine k_ite (fun _ => k_let (done _ ⟨g_CK_s hK (funext fun _ => gj_up_z (by decide)) (funext fun _ => gj_up_z (by decide)), by rw [gj_up_eq, yK]⟩)) (fun c => k_letI (k_ite (fun _ => nx _ (by omega) hK yK) (fun _ => k_ite (fun _ => k_let (nx _ (by omega) ?_ ?_)) (fun _ => nx _ (by omega) hK yK))))
    · exact g_CK_s hK (g_fr_row [26] (fr_X3_earn _ _) (by decide) 26 rfl (by decide)) (g_fr_row [27] (fr_X3_earn _ _) (by decide) 27 rfl (by decide))
    · rw [← yK]; exact fr_X3_earn _ _ 21 0 (by decide) (by decide)
  · rw [gj_wle (x := l1 + 1) (by omega) (by omega)]
    have nx : ∀ J : gj_M, g_CK J → J 21 0 = M 21 0 → P (rec (l1 + 1) J) := fun J h1 h2 => hr _ _ ⟨by omega, by omega, h1, h2⟩ (by omega)
    refine k_ite (fun _ => nx _ hK yK) (fun _ => ?_)
    obtain ⟨N, e, hN⟩ := c_live (p := l1) (q := f_at K 22 8 l1) hK
    rw [e, gj_bnd_s]
    exact nx N hN (by rw [← yK]; exact fr_X8_liveTogether _ _ N e 21 0 (by decide) (by decide))
theorem c_hold {M : gj_M} (h : g_C4 M) (hd : 1 ≤ M 14 9 ∧ M 14 9 ≤ 4) (hk : g_CK M) : ∃ N, F_X8_hold M = some N ∧ (g_CK N ∧ N 21 0 = gj_w (M 21 0 + 1)) := by
  refine k_cps (fun P done => ?_)
  unfold F_X8_hold
  obtain ⟨A, eA⟩ := c_askPaired h hd
  have fA := fr_X8_askPaired A eA
  obtain ⟨B, eB⟩ := c_endPairs (M := A)
  have fB := fr_X8_endPairs B eB
  obtain ⟨D, eD⟩ := c_gather (M := B) (w := 0)
  have fD := fr_X2_gather _ D eD
  obtain ⟨E, eE⟩ := c_look (M := D) (w := 1)
  have fE := fr_X2_look _ E eE
  obtain ⟨F, eF⟩ := c_pairUp (M := E) (w := E 21 1)
  have fF := fr_X2_pairUp _ F eF
  obtain ⟨H, eH⟩ := c_bindNew (M := F)
  have fH := fr_X8_bindNewPairs H eH
  have row : ∀ z : Int, z = 26 ∨ z = 27 → H z = M z := fun z hz => by
    rcases hz with e | e <;> rw [e]
    · exact (g_fr_row [26] fH (by decide) 26 rfl (by decide)).trans ((g_fr_row [26] fF (by decide) 26 rfl (by decide)).trans ((g_fr_row [26] fE (by decide) 26 rfl (by decide)).trans ((g_fr_row [26] fD (by decide) 26 rfl (by decide)).trans ((g_fr_row [26] fB (by decide) 26 rfl (by decide)).trans (g_fr_row [26] fA (by decide) 26 rfl (by decide))))))
    · exact (g_fr_row [27] fH (by decide) 27 rfl (by decide)).trans ((g_fr_row [27] fF (by decide) 27 rfl (by decide)).trans ((g_fr_row [27] fE (by decide) 27 rfl (by decide)).trans ((g_fr_row [27] fD (by decide) 27 rfl (by decide)).trans ((g_fr_row [27] fB (by decide) 27 rfl (by decide)).trans (g_fr_row [27] fA (by decide) 27 rfl (by decide))))))
  have y : H 21 0 = M 21 0 := (fH 21 0 (by decide) (by decide)).trans ((fF 21 0 (by decide) (by decide)).trans ((fE 21 0 (by decide) (by decide)).trans ((fD 21 0 (by decide) (by decide)).trans ((fB 21 0 (by decide) (by decide)).trans (fA 21 0 (by decide) (by decide))))))
  obtain ⟨K, eK, k1, k2⟩ := c_passYear (M := H) (g_CK_s hk (row 26 (Or.inl rfl)) (row 27 (Or.inr rfl)))
  rw [eA, gj_bnd_s, eB, gj_bnd_s, eD, gj_bnd_s, eE, gj_bnd_s, eF, gj_bnd_s, eH, gj_bnd_s, eK, gj_bnd_s]
  exact done K ⟨k1, by rw [k2, y]⟩
