/-! PURE: what one reckons, asked of the class; it ends -/
def g_CH (rec : Int → Int → Int → gj_M → Option (Int × gj_M)) (n : Int) : Prop := ∀ (w y : Int) (M : gj_M), M 31 6 ≤ 4 → ∃ v N, rec (gj_w (n - 1)) w y M = some (v, N) ∧ N 31 6 = M 31 6
theorem g_put36 {M : gj_M} {z n i v : Int} (h : z ≠ 31) : f_put M z n i v 31 6 = M 31 6 := by rw [f_put_z (fun e => h e.symm)]
theorem c_doing {rec : Int → Int → Int → gj_M → Option (Int × gj_M)} {a n w y : Int} {M : gj_M} (hrec : g_CH rec n) (h : M 31 6 ≤ 4) : ∃ v N, F_X4_doing rec a n w y M = some (v, N) ∧ N 31 6 = M 31 6 := by
  refine k_cps2 (fun P done => ?_)
  have j186 : ∀ p a7 a8 a9 a10 a12 : Int, P (J_X4_doing_186 rec a n p a7 a8 a9 a10 a12 M) := by
    intro p a7 a8 a9 a10 a12
    unfold J_X4_doing_186
    refine k_ite (fun _ => ?_) (fun _ => done _ _ rfl)
    rw [gj_let_s]
    obtain ⟨v, N, e, h1⟩ := hrec a (gj_w (a9 + 1)) (f_put M 32 4 a (f_min 4 (gj_w (a7 + 1)))) (by rw [g_put36 (by decide)]; exact h)
    rw [g_put36 (by decide)] at h1
    rw [e, gj_bnd2_s, gj_let_s, gj_let_s]
    obtain ⟨v2, N2, e2, h2⟩ := hrec a (gj_w (a9 + 1)) (f_put (f_put N 32 4 a a7) 33 4 a (f_min 4 (gj_w (a8 + 1)))) (by rw [g_put36 (by decide), g_put36 (by decide), h1]; exact h)
    rw [g_put36 (by decide), g_put36 (by decide)] at h2
    rw [e2, gj_bnd2_s, gj_let_s]
    exact done _ _ (by rw [g_put36 (by decide), h2, h1])
  have j94 : ∀ p a7 a8 s : Int, P (J_X4_doing_94 rec a n p a7 a8 s M) := by
    intro p a7 a8 s
    unfold J_X4_doing_94
    exact k_letI (k_letI (k_ite (fun _ => j186 _ _ _ _ _ _) (fun _ => k_letI (j186 _ _ _ _ _ _))))
  have j23 : ∀ p : Int, P (J_X4_doing_23 rec a n w y p M) := by
    intro p
    unfold J_X4_doing_23
    refine k_ite (fun _ => ?_) (fun _ => k_ite (fun _ => j94 _ _ _ _) (fun _ => j94 _ _ _ _))
    obtain ⟨v, N, e, h1⟩ := hrec (-1) 0 M h
    rw [e, gj_bnd2_s]
    exact done _ _ h1
  unfold F_X4_doing
  exact k_ite (fun _ => j23 _) (fun _ => k_ite (fun _ => j23 _) (fun _ => j23 _))
theorem c_worth : ∀ (f : Nat) (n w y : Int) (M : gj_M), 0 ≤ n → n < f → n ≤ 6 → M 31 6 ≤ 4 → ∃ v N, F_X4_worth f n w y M = some (v, N) ∧ N 31 6 = M 31 6
  | 0, n, w, y, M, h0, h1, _, _ => absurd h1 (by omega)
  | f + 1, n, w, y, M, h0, h1, h6, h => by
    unfold F_X4_worth
    rw [gj_it_s]
    have hrec0 : 0 < n → g_CH (gj_it (fun _ _ _ _ => none) F_X4_worthOf f) n := fun hn w y M h => c_worth f (gj_w (n - 1)) w y M (by unfold gj_w; omega) (by unfold gj_w; omega) (by unfold gj_w; omega) h
    generalize gj_it (fun _ _ _ _ => none) F_X4_worthOf f = W at *
    refine k_cps2 (fun P done => ?_)
    unfold F_X4_worthOf
    refine k_ite (fun hn => ?_) (fun _ => done _ _ rfl)
    have hrec := hrec0 hn
    obtain ⟨v, N, e, hN⟩ := c_doing (a := w) (w := w) (y := y) hrec h
    rw [e, gj_bnd2_s]
    refine gj_okM5 P (fun l1 l2 l3 _ l6 K => l1 = n ∧ -1 ≤ l6 ∧ l6 ≤ 4 ∧ K 31 6 = M 31 6) (fun _ _ _ _ l6 _ => (4 - l6).toNat) ?_ gj_fu n w y v (-1) N ⟨rfl, by omega, by omega, hN⟩ (by show _ < 2048; omega)
    rintro rec l1 l2 l3 l4 l6 K ⟨e1, a, b, hK⟩ hr
    rw [e1]
    unfold B_X4_worthOf_19 J_X4_worthOf_59
    rw [show gj_w (l6 + 1) = l6 + 1 from gj_wle (by omega) (by omega)]
    refine k_ite (fun _ => done _ _ hK) (fun c => ?_)
    have nx : ∀ (p : Int) (J : gj_M), J 31 6 = M 31 6 → P (rec n l2 l3 p (l6 + 1) J) := fun p J hJ => hr _ _ _ _ _ _ ⟨rfl, by omega, by omega, hJ⟩ (by omega)
    refine k_ite (fun _ => nx _ _ hK) (fun _ => k_letI (k_ite (fun _ => ?_) (fun _ => nx _ _ hK)))
    obtain ⟨v2, N2, e2, h2⟩ := c_doing (a := l6) (w := l2) (y := l3) hrec (M := K) (by omega)
    rw [e2, gj_bnd2_s]
    exact nx _ _ (by omega)
theorem c_CH {n : Int} (h : 1 ≤ n ∧ n ≤ 4) : g_CH (F_X4_worth 5) n := fun w y M hM => c_worth 5 (gj_w (n - 1)) w y M (by unfold gj_w; omega) (by unfold gj_w; omega) (by unfold gj_w; omega) hM
theorem c_bestWorth {M : gj_M} {n : Int} (h : 1 ≤ n ∧ n ≤ 4) (hM : M 31 6 ≤ 4) : ∃ v N, F_X4_bestWorth n M = some (v, N) ∧ N 31 6 = M 31 6 := by
  unfold F_X4_bestWorth
  obtain ⟨v, N, e, hN⟩ := c_worth 6 n (M 31 7) (M 31 8) M (by omega) (by omega) (by omega) hM
  rw [e, gj_bnd2_s]
  exact ⟨v, N, rfl, hN⟩
theorem c_bestAct {M : gj_M} {n : Int} (h : 1 ≤ n ∧ n ≤ 4) (hM : M 31 6 ≤ 4) : ∃ v N, F_X4_bestAct n M = some (v, N) ∧ N 31 6 = M 31 6 := by
  refine k_cps2 (fun P done => ?_)
  unfold F_X4_bestAct
  obtain ⟨v, N, e, hN⟩ := c_doing (a := M 31 7) (w := M 31 7) (y := M 31 8) (c_CH h) hM
  rw [e, gj_bnd2_s]
  refine gj_okM4 P (fun l1 _ _ l5 K => l1 = n ∧ -1 ≤ l5 ∧ l5 ≤ 4 ∧ K 31 6 = M 31 6) (fun _ _ _ l5 _ => (4 - l5).toNat) ?_ gj_fu n _ v (-1) N ⟨rfl, by omega, by omega, hN⟩ (by show _ < 2048; omega)
  rintro rec l1 l2 l3 l5 K ⟨e1, a, b, hK⟩ hr
  rw [e1]
  unfold B_X4_bestAct_26 J_X4_bestAct_86
  rw [show gj_w (l5 + 1) = l5 + 1 from gj_wle (by omega) (by omega)]
  refine k_ite (fun _ => done _ _ hK) (fun c => ?_)
  have nx : ∀ (p q : Int) (J : gj_M), J 31 6 = M 31 6 → P (rec n p q (l5 + 1) J) := fun p q J hJ => hr _ _ _ _ _ ⟨rfl, by omega, by omega, hJ⟩ (by omega)
  refine k_ite (fun _ => nx _ _ _ hK) (fun _ => k_letI (k_ite (fun _ => ?_) (fun _ => nx _ _ _ hK)))
  obtain ⟨v2, N2, e2, h2⟩ := c_doing (a := l5) (w := K 31 7) (y := K 31 8) (c_CH h) (M := K) (by omega)
  rw [e2, gj_bnd2_s]
  exact k_ite (fun _ => nx _ _ _ (by omega)) (fun _ => nx _ _ _ (by omega))
theorem c_stays {M : gj_M} {n : Int} (h : 1 ≤ n ∧ n ≤ 4) (hM : M 31 6 ≤ 4) : ∃ v N, F_X4_stays n M = some (v, N) ∧ N 31 6 = M 31 6 := by
  refine k_cps2 (fun P done => ?_)
  unfold F_X4_stays
  refine k_ite (fun _ => done _ _ rfl) (fun _ => ?_)
  obtain ⟨v, N, e, hN⟩ := c_bestAct h hM
  rw [e, gj_bnd2_s]
  exact k_ite (fun _ => done _ _ hN) (fun _ => done _ _ hN)
def g_C4 (M : gj_M) : Prop := M 14 0 ≤ 4 ∧ M 14 1 ≤ 4
theorem c_enter {M : gj_M} {s : Int} (h : g_C4 M) : ∃ N, F_X4_enter s M = some N ∧ N 31 6 ≤ 4 := by
  refine k_cps (fun P done => ?_)
  unfold F_X4_enter
  rw [gj_let_s]
  have core : ∀ v : Int, v ≤ 4 → P (J_X4_enter_28 s v (gj_up M 31 5 s)) := by
    intro v hv
    unfold J_X4_enter_28
    rw [gj_let_s]
    refine gj_okM2 P (fun l1 l2 K => 0 ≤ l2 ∧ l2 ≤ 4 ∧ K 31 6 ≤ 4) (fun _ l2 _ => (4 - l2).toNat) ?_ gj_fu s 0 _ ⟨by omega, by omega, by rw [gj_up_eq]; exact hv⟩ (by show _ < 2048; omega)
    rintro rec l1 l2 K ⟨a, b, hK⟩ hr
    unfold B_X4_enter_33 J_X4_enter_123
    refine k_ite (fun _ => ?_) (fun c => ?_)
    · rw [gj_let_s, gj_let_s, gj_let_s, gj_let_s]
      exact done _ (by rw [gj_up_i (by decide), gj_up_i (by decide), gj_up_i (by decide), gj_up_i (by decide)]; exact hK)
    · rw [gj_let_s, gj_let_s, gj_let_s, gj_wle (x := l2 + 1) (by omega) (by omega)]
      exact hr _ _ _ ⟨by omega, by omega, by rw [g_put36 (by decide), g_put36 (by decide), g_put36 (by decide)]; exact hK⟩ (by omega)
  refine k_ite (fun _ => core _ ?_) (fun _ => core _ ?_)
  · rw [gj_up_z (by decide)]; exact h.1
  · rw [gj_up_z (by decide)]; exact h.2
theorem c_can {a : Int} {M : gj_M} (c : ¬ f_X11_canReckon a M = 0) : 1 ≤ a ∧ a ≤ 4 := by
  unfold f_X11_canReckon at c
  by_cases p : a < 1
  · rw [if_pos p] at c; exact absurd rfl c
  · rw [if_neg p] at c
    by_cases q : 4 < a
    · rw [if_pos q] at c; exact absurd rfl c
    · omega
theorem c_best {C : gj_M} {a n w : Int} (h : g_C4 C) : ∃ v N, F_X11_best a n w C = some (v, N) := by
  refine k_cpo2 (fun P done => ?_)
  unfold F_X11_best
  refine k_letI (k_ite (fun _ => done _ _) (fun _ => k_letI (k_ite (fun _ => done _ _) (fun d => ?_))))
  have d := c_can d
  obtain ⟨N, e, hN⟩ := c_enter (s := f_X5_slotOf a C) h
  rw [e, gj_bnd_s]
  refine k_ite (fun _ => ?_) (fun _ => k_ite (fun _ => ?_) (fun _ => done _ _))
  · obtain ⟨v, K, e2, -⟩ := c_bestWorth d hN
    rw [e2, gj_bnd2_s]
    exact done _ _
  · obtain ⟨v, K, e2, -⟩ := c_bestAct d hN
    rw [e2, gj_bnd2_s]
    exact done _ _
theorem c_act {C : gj_M} {a n b : Int} (h : g_C4 C) : ∃ v N, F_X11_act a n b C = some (v, N) := by
  refine k_cpo2 (fun P done => ?_)
  unfold F_X11_act F_X4_worthOfAct
  refine k_letI (k_letI (k_ite (fun _ => done _ _) (fun _ => k_letI (k_ite (fun _ => done _ _) (fun d => ?_)))))
  have d := c_can d
  obtain ⟨N, e, hN⟩ := c_enter (s := f_X5_slotOf a C) h
  obtain ⟨v, K, e2, -⟩ := c_doing (a := f_plc (f_X5_slotOf b C)) (w := N 31 7) (y := N 31 8) (c_CH d) hN
  refine k_ite (fun _ => ?_) (fun _ => k_ite (fun _ => done _ _) (fun _ => ?_))
  · rw [e, gj_bnd_s, e2, gj_bnd2_s, gj_bnd2_s]
    exact done _ _
  · rw [e, gj_bnd_s, e2, gj_bnd2_s, gj_bnd2_s]
    exact done _ _
theorem c_silent {C : gj_M} {a n : Int} (h : g_C4 C) : ∃ v N, F_X11_silent a n C = some (v, N) := by
  refine k_cpo2 (fun P done => ?_)
  unfold F_X11_silent
  refine k_letI (k_ite (fun _ => done _ _) (fun _ => k_letI (k_ite (fun _ => done _ _) (fun d => ?_))))
  have d := c_can d
  obtain ⟨N, e, hN⟩ := c_enter (s := f_X5_slotOf a C) h
  obtain ⟨v, K, e2, -⟩ := c_stays d hN
  rw [e, gj_bnd_s, e2, gj_bnd2_s]
  exact k_ite (fun _ => done _ _) (fun _ => done _ _)
theorem c_bar {C : gj_M} {a b m n : Int} (h : g_C4 C) : ∃ v N, F_X11_bar a b m n C = some (v, N) := by
  refine k_cpo2 (fun P done => ?_)
  unfold F_X11_bar F_X4_leastGood
  refine k_letI (k_letI (k_ite (fun _ => done _ _) (fun _ => k_ite (fun _ => done _ _) (fun m1 => k_ite (fun _ => done _ _) (fun m6 => k_letI (k_ite (fun _ => done _ _) (fun d => ?_)))))))
  have d := c_can d
  obtain ⟨N, e, hN⟩ := c_enter (s := f_X5_slotOf a C) h
  rw [e, gj_bnd_s, gj_let_s, gj_let_s]
  generalize hk : f_plc (f_X5_slotOf b C) = k
  have gen : ∀ K : gj_M, K 31 6 ≤ 4 → ∃ v N, gj_it (fun _ _ _ _ _ => none) B_X4_leastGood_13 gj_fu k m n 0 K = some (v, N) := by
    intro K hK
    refine k_cpo2 (fun P done => ?_)
    refine gj_okM4 P (fun l1 l2 l3 l4 K => l2 = m ∧ l3 = n ∧ 0 ≤ l4 ∧ l4 ≤ 7 ∧ K 31 6 ≤ 4) (fun _ _ _ l4 _ => (7 - l4).toNat) ?_ gj_fu k m n 0 K ⟨rfl, rfl, by omega, by omega, hK⟩ (by show _ < 2048; omega)
    rintro rec l1 l2 l3 l4 K ⟨e1, e2, x, y, hK⟩ hr
    rw [e1, e2]
    unfold B_X4_leastGood_13
    refine k_ite (fun _ => done _ _) (fun c => ?_)
    rw [gj_let_s, gj_let_s]
    obtain ⟨v, J, eJ, hJ⟩ := c_stays (M := f_put (f_put K 32 4 l1 (f_min 4 l4)) 33 4 l1 (f_min 4 (gj_w (m - l4)))) d (by rw [g_put36 (by decide), g_put36 (by decide)]; exact hK)
    rw [g_put36 (by decide), g_put36 (by decide)] at hJ
    rw [eJ, gj_bnd2_s, gj_wle (x := l4 + 1) (by omega) (by omega)]
    exact k_ite (fun _ => hr _ _ _ _ _ ⟨rfl, rfl, by omega, by omega, by omega⟩ (by omega)) (fun _ => done _ _)
  obtain ⟨v, K, e2⟩ := gen (gj_up (gj_up N 31 7 k) 31 8 m) (by rw [gj_up_i (by decide), gj_up_i (by decide)]; exact hN)
  rw [e2, gj_bnd2_s]
  exact done _ _
theorem c_price {C : gj_M} {a n : Int} (h : g_C4 C) : ∃ v N, F_X11_price a n C = some (v, N) := by
  refine k_cpo2 (fun P done => ?_)
  unfold F_X11_price F_X4_leastCow
  refine k_letI (k_ite (fun _ => done _ _) (fun _ => k_letI (k_ite (fun _ => done _ _) (fun d => k_ite (fun _ => done _ _) (fun _ => ?_)))))
  have d := c_can d
  obtain ⟨N, e, hN⟩ := c_enter (s := f_X5_slotOf a C) h
  rw [e, gj_bnd_s]
  dsimp only [gj_letI]
  have st : gj_wl (f_max 1 n * 1000) ≠ 0 := by
    unfold f_max gj_wl
    split <;> omega
  generalize gj_wl (f_max 1 n * 1000) = st0 at *
  have gen : ∃ v J, gj_it (fun _ _ _ _ _ => none) B_X4_leastCow_17 gj_fu n st0 0 0 N = some (v, J) := by
    refine k_cpo2 (fun P done => ?_)
    refine gj_okM4 P (fun l1 l2 l4 l6 K => l1 = n ∧ l2 = st0 ∧ 0 ≤ l6 ∧ l6 ≤ 1000 ∧ K 31 6 ≤ 4) (fun _ _ _ l6 _ => (1000 - l6).toNat) ?_ gj_fu n st0 0 0 N ⟨rfl, rfl, by omega, by omega, hN⟩ (by show _ < 2048; omega)
    rintro rec l1 l2 l4 l6 K ⟨e1, e2, x, y, hK⟩ hr
    rw [e1, e2]
    unfold B_X4_leastCow_17
    refine k_ite (fun _ => done _ _) (fun c => k_ite (fun _ => done _ _) (fun _ => ?_))
    rw [gj_let_s]
    have hK2 : gj_up K 31 9 (gj_w l4) 31 6 ≤ 4 := by rw [gj_up_i (by decide)]; exact hK
    generalize gj_up K 31 9 (gj_w l4) = K2 at *
    obtain ⟨v, J, eJ, hJ⟩ := c_worth 6 n (K2 31 7) (K2 31 8) K2 (by omega) (by omega) (by omega) hK2
    rw [eJ, gj_bnd2_s]
    obtain ⟨v2, J2, eJ2, hJ2⟩ := c_doing (a := J 31 7) (w := J 31 7) (y := J 31 8) (c_CH d) (M := J) (by omega)
    rw [eJ2, gj_bnd2_s, gj_wle (x := l6 + 1) (by omega) (by omega)]
    exact k_ite (fun _ => k_chk st (k_letI (hr _ _ _ _ _ ⟨rfl, rfl, by omega, by omega, by omega⟩ (by omega)))) (fun _ => done _ _)
  obtain ⟨v, K, e2⟩ := gen
  rw [e2, gj_bnd2_s]
  exact done _ _
theorem c_waits {C : gj_M} {a b n : Int} (h : g_C4 C) : ∃ v N, F_X11_waits a b n C = some (v, N) := by
  refine k_cpo2 (fun P done => ?_)
  unfold F_X11_waits
  refine k_letI (k_letI (k_ite (fun _ => done _ _) (fun _ => k_ite (fun _ => done _ _) (fun _ => k_letI (k_ite (fun _ => done _ _) (fun d => k_letI ?_))))))
  have d := c_can d
  have j : ∀ v : Int, P (J_X11_waits_86 n (f_X5_slotOf a C) (f_X5_slotOf b C) v C) := by
    intro v
    unfold J_X11_waits_86 f_X4_shutOut
    obtain ⟨N, e, hN⟩ := c_enter (s := f_X5_slotOf a C) h
    refine k_letI (k_letI (k_letI ?_))
    rw [e, gj_bnd_s, gj_let_s]
    obtain ⟨v2, K, e2, -⟩ := c_bestWorth (M := gj_let (gj_up N 31 10 (f_plc (f_X5_slotOf b C))) (fun M1 => M1)) d (by rw [gj_let_s, gj_up_i (by decide)]; exact hN)
    rw [e2, gj_bnd2_s]
    exact done _ _
  exact k_ite (fun _ => k_ite (fun _ => j _) (fun _ => j _)) (fun _ => done _ _)
