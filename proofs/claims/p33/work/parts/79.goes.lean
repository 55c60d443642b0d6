/-! PURE: in turn and by lot, in the reference; safe -/
theorem g_HV_new {M : gj_M} {p q : Int} (h : g_HV M) (p8 : 0 ≤ p ∧ p < 8) (q8 : 0 ≤ q ∧ q < 8) (u : ¬ (p < 4 ↔ q < 4)) (pp : g_pe M 101 p) (pq : g_pe M 101 q) : g_HV (gj_up (gj_up M 119 p q) 119 q p) := by
  have e101 : gj_up (gj_up M 119 p q) 119 q p 101 = M 101 := funext fun _ => by rw [gj_up_z (by decide), gj_up_z (by decide)]
  intro j a b
  rw [gj_up_if, gj_up_if]
  by_cases c : j = q
  · rw [if_pos c]
    exact Or.inr ⟨p8.1, p8.2, by omega, (g_pe_s e101).mpr pp⟩
  · rw [if_neg c]
    by_cases d : j = p
    · rw [if_pos d]
      exact Or.inr ⟨q8.1, q8.2, by omega, (g_pe_s e101).mpr pq⟩
    · rw [if_neg d]
      rcases h j a b with e | ⟨x1, x2, x3, x4⟩
      · exact Or.inl e
      · exact Or.inr ⟨x1, x2, x3, (g_pe_s e101).mpr x4⟩
theorem g_HV_s {M N : gj_M} (h : g_HV M) (h1 : N 119 = M 119) (h2 : N 101 = M 101) : g_HV N := by
  unfold g_HV g_pe
  rw [h1, h2]
  exact h
def g_HJ (M : gj_M) : Prop := g_RS M ∧ g_HV M
theorem g_HJ_new {M : gj_M} {p q : Int} (h : g_HJ M) (p8 : 0 ≤ p ∧ p < 4) (hp : p < M 101 0) (q8 : 4 ≤ q ∧ q < 4 + M 101 1) : ∃ N, F_X12_gives p q M = some N ∧ g_HJ N := by
  have b1 := h.1.b1
  refine ⟨_, r_gives (by omega) (by omega), g_RS_up (g_RS_up h.1 (by unfold g_rk; decide)) (by unfold g_rk; decide), g_HV_new h.2 (by omega) (by omega) (by omega) (Or.inl ⟨p8.2, hp⟩) (Or.inr ⟨q8.1, by omega⟩)⟩
theorem r_inTurn {R : gj_M} (h : g_HJ R) : ∃ N, F_X12_inTurn R = some N ∧ g_HV N := by
  refine k_cps (fun P done => ?_)
  unfold F_X12_inTurn
  refine gj_okM1 P (fun l1 M => 0 ≤ l1 ∧ l1 ≤ 4 ∧ g_HJ M) (fun l1 _ => (4 - l1).toNat) ?_ gj_fu 0 R ⟨by omega, by omega, h⟩ (by show _ < 2048; omega)
  rintro rec l1 M ⟨a, b, hJ⟩ hr
  unfold B_X12_inTurn_2 J_X12_inTurn_107
  have b0 := hJ.1.b0
  have b1 := hJ.1.b1
  refine k_ite (fun c => done M hJ.2) (fun c => k_chk (by omega) ?_)
  rw [gj_wle (by omega) (by omega)]
  have nx : ∀ N, g_HJ N → P (rec (l1 + 1) N) := fun N q => hr (l1 + 1) N ⟨by omega, by omega, q⟩ (by omega)
  refine k_ite (fun _ => nx M hJ) (fun _ => ?_)
  refine gj_okM3 P (fun m1 m2 m3 N => m1 = l1 ∧ (m2 = -1 ∨ (4 ≤ m2 ∧ m2 < 4 + M 101 1)) ∧ 4 ≤ m3 ∧ m3 ≤ 8 ∧ N = M) (fun _ _ m3 _ => (8 - m3).toNat) ?_ gj_fu l1 (-1) 4 M ⟨rfl, Or.inl rfl, by omega, by omega, rfl⟩ (by show _ < 2048; omega)
  rintro rec31 m1 m2 m3 N ⟨e1, e2, m30, m34, eN⟩ hr31
  rw [e1, eN]
  unfold B_X12_inTurn_31 J_X12_inTurn_96 J_X12_inTurn_90 J_X12_inTurn_107
  rw [show gj_w (4 + M 101 1) = 4 + M 101 1 from gj_wle (by omega) (by omega), show gj_w (m3 + 1) = m3 + 1 from gj_wle (by omega) (by omega), show gj_w (l1 + 1) = l1 + 1 from gj_wle (by omega) (by omega)]
  have nz : ∀ z, (z = -1 ∨ (4 ≤ z ∧ z < 4 + M 101 1)) → m3 < 4 + M 101 1 → P (rec31 l1 z (m3 + 1) M) := fun z hz hm => hr31 l1 z (m3 + 1) M ⟨rfl, hz, by omega, by omega, rfl⟩ (by omega)
  refine k_ite (fun d => k_ite (fun _ => nx M hJ) (fun d2 => k_bF (g_HJ_new hJ ⟨a, by omega⟩ (by omega) (by omega)) (fun K hK => nx K hK))) (fun d => ?_)
  have p8 : 0 ≤ l1 ∧ l1 < 8 := by omega
  have z8 : 0 ≤ m3 ∧ m3 < 8 := by omega
  refine k_chk z8 (k_ite (fun _ => k_chk z8 (k_ite (fun _ => k_bE (r_both hJ.1 p8 z8 (by omega)) (fun x => k_ite (fun _ => nz _ e2 (by omega)) (fun _ => k_ite (fun _ => nz _ (Or.inr (by omega)) (by omega)) (fun d5 => ?_)))) (fun _ => nz _ e2 (by omega)))) (fun _ => nz _ e2 (by omega)))
  exact k_bE (r_isSooner hJ.1 p8 z8 (by omega) (by omega) (by omega)) (fun x => k_ite (fun _ => nz _ e2 (by omega)) (fun _ => nz _ (Or.inr (by omega)) (by omega)))
theorem r_lot {M : gj_M} {n : Int} (h : n ≠ 0) : ∃ v x, F_X12_lot n M = some (v, gj_up M 79 30 x) := by
  unfold F_X12_lot
  rw [gj_let_s, gj_chkp h]
  exact ⟨_, _, rfl⟩
theorem r_byLot {R : gj_M} (h : g_HJ R) : ∃ N, F_X12_byLot R = some N ∧ g_HV N := by
  refine k_cps (fun P done => ?_)
  unfold F_X12_byLot
  refine gj_okM1 P (fun l1 M => 0 ≤ l1 ∧ l1 ≤ 4 ∧ g_HJ M) (fun l1 _ => (4 - l1).toNat) ?_ gj_fu 0 R ⟨by omega, by omega, h⟩ (by show _ < 2048; omega)
  rintro rec l1 M ⟨a, b, hJ⟩ hr
  unfold B_X12_byLot_2 J_X12_byLot_176
  have b0 := hJ.1.b0
  have b1 := hJ.1.b1
  refine k_ite (fun c => done M hJ.2) (fun c => k_chk (by omega) ?_)
  rw [gj_wle (by omega) (by omega)]
  have nx : ∀ N, g_HJ N → P (rec (l1 + 1) N) := fun N q => hr (l1 + 1) N ⟨by omega, by omega, q⟩ (by omega)
  have p8 : 0 ≤ l1 ∧ l1 < 8 := by omega
  refine k_ite (fun _ => nx M hJ) (fun _ => ?_)
  refine gj_okM3 P (fun m1 _ m3 N => m1 = l1 ∧ 4 ≤ m3 ∧ m3 ≤ 8 ∧ N = M) (fun _ _ m3 _ => (8 - m3).toNat) ?_ gj_fu l1 0 4 M ⟨rfl, by omega, by omega, rfl⟩ (by show _ < 2048; omega)
  rintro rec31 m1 m2 m3 N ⟨e1, m30, m34, eN⟩ hr31
  rw [e1, eN]
  unfold B_X12_byLot_31 J_X12_byLot_87 J_X12_byLot_79 J_X12_byLot_176
  rw [show gj_w (4 + M 101 1) = 4 + M 101 1 from gj_wle (by omega) (by omega), show gj_w (m3 + 1) = m3 + 1 from gj_wle (by omega) (by omega), show gj_w (l1 + 1) = l1 + 1 from gj_wle (by omega) (by omega)]
  have nz : ∀ z, m3 < 4 + M 101 1 → P (rec31 l1 z (m3 + 1) M) := fun z hm => hr31 l1 z (m3 + 1) M ⟨rfl, by omega, by omega, rfl⟩ (by omega)
  refine k_ite (fun d => k_ite (fun _ => nx M hJ) (fun d2 => ?_)) (fun d => ?_)
  · obtain ⟨v, x, e⟩ := r_lot (M := M) d2
    refine k_bnd2 e ?_
    have hJ2 : g_HJ (gj_up M 79 30 x) := ⟨g_RS_up hJ.1 (by unfold g_rk; decide), g_HV_s hJ.2 (funext fun _ => gj_up_z (by decide)) (funext fun _ => gj_up_z (by decide))⟩
    have q0 : gj_up M 79 30 x 101 0 = M 101 0 := gj_up_z (by decide)
    have q1 : gj_up M 79 30 x 101 1 = M 101 1 := gj_up_z (by decide)
    generalize gj_up M 79 30 x = K at *
    refine gj_okM3 P (fun m1 _ m3 N => m1 = l1 ∧ 4 ≤ m3 ∧ m3 ≤ 8 ∧ N = K) (fun _ _ m3 _ => (8 - m3).toNat) ?_ gj_fu l1 v 4 K ⟨rfl, by omega, by omega, rfl⟩ (by show _ < 2048; omega)
    rintro rec103 n1 n2 n3 N2 ⟨f1, n30, n34, fN⟩ hr103
    rw [f1, fN]
    unfold B_X12_byLot_103 J_X12_byLot_157 J_X12_byLot_176
    rw [show gj_w (4 + K 101 1) = 4 + K 101 1 from gj_wle (by omega) (by omega), show gj_w (n3 + 1) = n3 + 1 from gj_wle (by omega) (by omega), show gj_w (l1 + 1) = l1 + 1 from gj_wle (by omega) (by omega)]
    have ny : ∀ z, n3 < 4 + K 101 1 → P (rec103 l1 z (n3 + 1) K) := fun z hm => hr103 l1 z (n3 + 1) K ⟨rfl, by omega, by omega, rfl⟩ (by omega)
    have z8 : ¬ 4 + K 101 1 ≤ n3 → 0 ≤ n3 ∧ n3 < 8 := by omega
    exact k_ite (fun _ => nx K hJ2) (fun d4 => k_chk (z8 d4) (k_ite (fun _ => ny _ (by omega)) (fun _ => k_chk (z8 d4) (k_ite (fun _ => k_bE (r_both hJ2.1 p8 (z8 d4) (by omega)) (fun y => k_ite (fun _ => ny _ (by omega)) (fun _ => k_ite (fun _ => k_bF (g_HJ_new hJ2 ⟨a, by omega⟩ (by omega) (by omega)) (fun J hK => nx J hK)) (fun _ => ny _ (by omega))))) (fun _ => ny _ (by omega))))))
  · have z8 : 0 ≤ m3 ∧ m3 < 8 := by omega
    exact k_chk z8 (k_ite (fun _ => k_chk z8 (k_ite (fun _ => k_bE (r_both hJ.1 p8 z8 (by omega)) (fun x => k_ite (fun _ => nz _ (by omega)) (fun _ => nz _ (by omega)))) (fun _ => nz _ (by omega)))) (fun _ => nz _ (by omega)))
theorem r_goes {R : gj_M} {w : Int} (h : g_RS R) (hw : 0 ≤ w) : ∃ N, F_X12_goes w R = some N ∧ g_HV N := by
  refine k_cps (fun P done => ?_)
  unfold F_X12_goes
  refine gj_okM2 P (fun l1 l2 M => l1 = w ∧ 0 ≤ l2 ∧ l2 ≤ 8 ∧ g_RS M ∧ ∀ j, 0 ≤ j → j < l2 → M 119 j = -1) (fun _ l2 _ => (8 - l2).toNat) ?_ gj_fu w 0 R ⟨rfl, by omega, by omega, h, fun j a b => by omega⟩ (by show _ < 2048; omega)
  rintro rec l1 l2 M ⟨e1, a, b, hS, h9⟩ hr
  rw [e1]
  unfold B_X12_goes_2 J_X12_goes_21
  refine k_ite (fun c => ?_) (fun c => k_chk (by omega) ?_)
  · have hV : g_HV M := fun j a b => Or.inl (h9 j a (by omega))
    refine k_ite (fun d => k_ite (fun _ => ?_) (fun _ => ?_)) (fun d => ?_)
    · obtain ⟨N, e, k⟩ := r_inTurn ⟨hS, hV⟩
      rw [e, gj_bnd_s]
      exact done N k
    · obtain ⟨N, e, k⟩ := r_byLot ⟨hS, hV⟩
      rw [e, gj_bnd_s]
      exact done N k
    · obtain ⟨N, e, k⟩ := r_asks (w := w) (by omega) hS (fun j a b => h9 j a (by omega))
      rw [e, gj_bnd_s]
      exact done N k
  · rw [gj_let_s, gj_wle (by omega) (by omega)]
    refine hr _ _ _ ⟨rfl, by omega, by omega, g_RS_up hS (by unfold g_rk; decide), fun j a b => ?_⟩ (by omega)
    rw [gj_up_if]
    split
    · rfl
    · exact h9 j a (by omega)
theorem r_green {C R : gj_M} {w a : Int} (h : g_VS C R) (hy : R 79 18 = 1 → g_RS R) : ∃ v N, F_X12_green w a R = some (v, N) := by
  obtain ⟨s, -, e2, e3⟩ := p_who (a := a) h
  refine k_cpo2 (fun P done => ?_)
  unfold F_X12_green
  rw [e2, gj_bnd_s]
  refine k_ite (fun _ => done _ _) (fun c => ?_)
  dsimp only [gj_letI]
  refine k_ite (fun _ => done _ _) (fun d => ?_)
  have s8 : 0 ≤ s ∧ s < 8 := by omega
  have hS : g_RS R := hy (by
    rcases e3 with e | e
    · exact absurd e c
    · exact e.2.2.2.1)
  have w0 : 0 ≤ w := by
    unfold f_X12_in at d
    by_cases q : w < 0
    · rw [if_pos q] at d; exact absurd rfl d
    · omega
  refine gj_okM3 P (fun l1 l3 l4 M => l1 = w ∧ l3 = s ∧ 0 ≤ l4 ∧ l4 ≤ 8 ∧ g_RS M) (fun _ _ l4 _ => (8 - l4).toNat) ?_ gj_fu w s 0 R ⟨rfl, rfl, by omega, by omega, hS⟩ (by show _ < 2048; omega)
  rintro rec l1 l3 l4 M ⟨e1, e3, a, b, hM⟩ hr
  rw [e1, e3]
  unfold B_X12_green_30 J_X12_green_51
  refine k_ite (fun c => ?_) (fun c => k_chk (by omega) ?_)
  · obtain ⟨N, e, k⟩ := r_goes (w := w) hM w0
    rw [e, gj_bnd_s]
    refine k_chk s8 (k_ite (fun _ => done _ _) (fun _ => k_chk s8 (done _ _)))
  · rw [gj_let_s, gj_wle (by omega) (by omega)]
    exact hr _ _ _ _ ⟨rfl, rfl, by omega, by omega, g_RS_up hM (by unfold g_rk; decide)⟩ (by omega)
