/-! PURE: what one reckons, asked of the reference; safe -/
theorem g_in {x l h : Int} {M : gj_M} (c : ¬ f_X12_in x l h M = 0) : l ≤ x ∧ x ≤ h := by
  unfold f_X12_in at c
  by_cases a : x < l
  · rw [if_pos a] at c; exact absurd rfl c
  · rw [if_neg a] at c
    by_cases b : h < x
    · rw [if_pos b] at c; exact absurd rfl c
    · omega
theorem g_mays {x : Int} {M : gj_M} (c : ¬ f_X12_areMays x M = 0) : 1 ≤ x ∧ x ≤ 4 := by
  unfold f_X12_areMays at c
  exact g_in (M := M) c
theorem r_who {C R : gj_M} {a : Int} (h : g_VS C R) (hy : R 79 18 = 1 → g_RG R) : ∃ s, F_X12_who a R = some s ∧ (s = -1 ∨ (0 ≤ s ∧ s < 8 ∧ g_RG R ∧ g_pe R 101 s ∧ R 79 18 = 1)) := by
  obtain ⟨s, -, e2, e3⟩ := p_who (a := a) h
  refine ⟨s, e2, e3.imp id (fun ⟨a, b, c, d, p⟩ => ⟨a, b, hy d, ?_, d⟩)⟩
  unfold g_pe at *
  rw [← p.n0, ← p.n1]
  exact c
theorem r_areTwo {s q : Int} {M : gj_M} (hs : s = -1 ∨ (0 ≤ s ∧ s < 8)) (hq : q = -1 ∨ (0 ≤ q ∧ q < 8)) (c : ¬ f_X12_areTwo s q M = 0) : (0 ≤ s ∧ s < 8) ∧ (0 ≤ q ∧ q < 8) ∧ ¬ (s < 4 ↔ q < 4) := by
  rw [p_areTwo hs hq] at c
  have u := g_unl_in c
  omega
theorem r_worth6 {s k on n : Int} {N : gj_M} (s8 : 0 ≤ s ∧ s < 8) (hn : 1 ≤ n ∧ n ≤ 4) (L : g_LW s N) (a : g_av s k N) : ∃ v x, F_X12_worthN 6 k on n N = some (v, gj_up N 79 38 x) := r_worth s8 6 k on n N (by omega) (by omega) (by omega) L a
theorem g_LW_79 {s i x : Int} {M : gj_M} (h : g_LW s M) (hi : i ≠ 35) : g_LW s (gj_up M 79 i x) := by
  refine ⟨g_RS_up h.1 (by unfold g_rk; decide), ?_, fun k a b => ?_⟩
  · rw [gj_up_i (fun e => hi e.symm)]; exact h.2.1
  · rw [gj_up_z (by decide)] at b
    rw [gj_up_z (by decide), gj_up_z (by decide)]
    exact h.2.2 k a b
/-- behind lays, with the mates as they were -/
def g_LY (s : Int) (R N : gj_M) : Prop := g_LW s N ∧ N 108 = R 108 ∧ N 101 = R 101
theorem r_laysY {R : gj_M} {s : Int} (h : g_RG R) (s8 : 0 ≤ s ∧ s < 8) : ∃ N, F_X12_lays s R = some N ∧ g_LY s R N := by
  obtain ⟨N, e, h35, hk⟩ := r_lays h.rs s8
  have f := fr_X12_lays s N e
  have hN : g_RG N := g_RG_fr h f (by decide)
  exact ⟨N, e, ⟨hN.rs, h35, hk⟩, g_fr_row [108] f (by decide) 108 rfl (by decide), g_fr_row [101] f (by decide) 101 rfl (by decide)⟩
theorem g_LY_79 {s i x : Int} {R M : gj_M} (h : g_LY s R M) (hi : i ≠ 35) : g_LY s R (gj_up M 79 i x) := ⟨g_LW_79 h.1 hi, by rw [← h.2.1]; exact funext fun _ => gj_up_z (by decide), by rw [← h.2.2]; exact funext fun _ => gj_up_z (by decide)⟩
theorem g_LY_k {s z i v : Int} {R M : gj_M} (h : g_LY s R M) (hz : z = 115 ∨ z = 116) (hv : 0 ≤ v ∧ v ≤ 4) : g_LY s R (gj_up M z i v) := ⟨g_LW_k h.1 hz hv, by rw [← h.2.1]; exact funext fun _ => gj_up_z (by omega), by rw [← h.2.2]; exact funext fun _ => gj_up_z (by omega)⟩
/-- the mate's place -/
theorem r_mateOf {s : Int} {R N : gj_M} (h : g_RG R) (s8 : 0 ≤ s ∧ s < 8) (y : g_LY s R N) : ∃ k, F_X12_mateOf s N = some k ∧ g_av s k N := by
  have a := r_av h s8 y.2.2
  unfold F_X12_mateOf
  rw [gj_chkp s8, y.2.1]
  by_cases c : R 108 s = -1
  · rw [if_pos c]
    exact ⟨_, rfl, Or.inl rfl⟩
  · have m := h.2.1 s s8.1 s8.2
    rw [if_neg c, gj_chkp s8, g_tmod (by omega)]
    exact ⟨_, rfl, Or.inr (by omega)⟩
theorem r_best {C R : gj_M} {a n w : Int} (h : g_VS C R) (hy : R 79 18 = 1 → g_RG R) : ∃ v N, F_X12_best a n w R = some (v, N) := by
  obtain ⟨s, e, hs⟩ := r_who (a := a) h hy
  refine k_cpo2 (fun P done => ?_)
  unfold F_X12_best
  rw [e, gj_bnd_s]
  refine k_ite (fun _ => done _ _) (fun c => ?_)
  refine k_letI (k_ite (fun _ => done _ _) (fun d => k_letI (k_ite (fun _ => done _ _) (fun _ => ?_))))
  have d := g_mays d
  obtain ⟨s0, s8, g, -⟩ : 0 ≤ s ∧ s < 8 ∧ g_RG R ∧ g_pe R 101 s ∧ R 79 18 = 1 := by
    rcases hs with q | q
    · exact absurd q c
    · exact q
  obtain ⟨v, N, e2⟩ := r_bestOf (n := n) g ⟨s0, s8⟩ (by omega)
  rw [e2, gj_bnd2_s]
  exact k_ite (fun _ => done _ _) (fun _ => done _ _)
theorem r_act {C R : gj_M} {a n b : Int} (h : g_VS C R) (hy : R 79 18 = 1 → g_RG R) : ∃ v N, F_X12_act a n b R = some (v, N) := by
  obtain ⟨s, e, hs⟩ := r_who (a := a) h hy
  obtain ⟨q, f, hq⟩ := r_who (a := b) h hy
  refine k_cpo2 (fun P done => ?_)
  unfold F_X12_act
  rw [e, gj_bnd_s, f, gj_bnd_s]
  refine k_ite (fun _ => done _ _) (fun c => k_letI (k_ite (fun _ => done _ _) (fun d => ?_)))
  have d := g_mays d
  obtain ⟨s0, s8, g, -⟩ : 0 ≤ s ∧ s < 8 ∧ g_RG R ∧ g_pe R 101 s ∧ R 79 18 = 1 := by
    rcases hs with q | q
    · exact absurd q c
    · exact q
  have s8 : 0 ≤ s ∧ s < 8 := ⟨s0, s8⟩
  obtain ⟨N, eN, L⟩ := r_laysY g s8
  obtain ⟨k, ek, ak⟩ := r_mateOf g s8 L
  have rec1 : ∀ (k on : Int) (M : gj_M), g_LW s M → g_av s k M → ∃ v x, F_X12_worthN 5 k on (gj_w (n - 1)) M = some (v, gj_up M 79 38 x) := fun k on M h hk => r_worth s8 5 k on (gj_w (n - 1)) M (by unfold gj_w; omega) (by unfold gj_w; omega) (by unfold gj_w; omega) h hk
  have j81 : ∀ on : Int, (b = -1 ∨ g_av s (Int.tmod q 4) N) → P (J_X12_act_81 n b q k on N) := by
    intro on hb
    unfold J_X12_act_81
    refine k_ite (fun _ => ?_) (fun nb => ?_)
    · obtain ⟨v, x, ev⟩ := r_by (k := k) (on := on) (act := -1) s8 rec1 L.1 (Or.inl rfl)
      rw [ev, gj_bnd2_s]
      exact done _ _
    · obtain ⟨v, x, ev⟩ := r_by (k := k) (on := on) (act := Int.tmod q 4) s8 rec1 L.1 (by
        rcases hb with e | e
        · exact absurd e nb
        · exact e)
      rw [ev, gj_bnd2_s]
      exact done _ _
  refine k_ite (fun nb => ?_) (fun nb => k_letI (k_ite (fun _ => done _ _) (fun two => ?_)))
  · rw [eN, gj_bnd_s, ek, gj_bnd_s]
    exact k_chk s8 (k_ite (fun _ => j81 _ (Or.inl nb)) (fun _ => k_chk s8 (j81 _ (Or.inl nb))))
  · obtain ⟨-, q8, u⟩ := r_areTwo (by omega) (by omega) two
    have av : g_av s (Int.tmod q 4) N := by
      right
      rw [g_tmod q8.1, L.2.2]
      have p : g_pe R 101 q := by
        rcases hq with x | x
        · omega
        · exact x.2.2.2.1
      unfold g_pe at p
      unfold g_ot
      by_cases t : s < 4
      · rw [if_pos t]; omega
      · rw [if_neg t]; omega
    rw [eN, gj_bnd_s, ek, gj_bnd_s]
    exact k_chk s8 (k_ite (fun _ => j81 _ (Or.inr av)) (fun _ => k_chk s8 (j81 _ (Or.inr av))))
theorem r_silent {C R : gj_M} {a n : Int} (h : g_VS C R) (hy : R 79 18 = 1 → g_RG R) : ∃ v N, F_X12_silent a n R = some (v, N) := by
  obtain ⟨s, e, hs⟩ := r_who (a := a) h hy
  refine k_cpo2 (fun P done => ?_)
  unfold F_X12_silent
  rw [e, gj_bnd_s]
  refine k_ite (fun _ => done _ _) (fun c => k_letI (k_ite (fun _ => done _ _) (fun d => ?_)))
  have d := g_mays d
  obtain ⟨s0, s8, g, -⟩ : 0 ≤ s ∧ s < 8 ∧ g_RG R ∧ g_pe R 101 s ∧ R 79 18 = 1 := by
    rcases hs with q | q
    · exact absurd q c
    · exact q
  obtain ⟨v, N, e2⟩ := r_isSilent (n := n) g ⟨s0, s8⟩ (by omega)
  rw [e2, gj_bnd2_s]
  exact k_ite (fun _ => done _ _) (fun _ => done _ _)
theorem r_bar {C R : gj_M} {a b m n : Int} (h : g_VS C R) (hy : R 79 18 = 1 → g_RG R) : ∃ v N, F_X12_bar a b m n R = some (v, N) := by
  obtain ⟨s, e, hs⟩ := r_who (a := a) h hy
  obtain ⟨q, f, hq⟩ := r_who (a := b) h hy
  refine k_cpo2 (fun P done => ?_)
  unfold F_X12_bar
  rw [e, gj_bnd_s, f, gj_bnd_s]
  refine k_letI (k_ite (fun _ => done _ _) (fun two => k_letI (k_ite (fun _ => done _ _) (fun hm => k_letI (k_ite (fun _ => done _ _) (fun d => ?_))))))
  have hm := g_in hm
  have d := g_mays d
  obtain ⟨s8, q8, u⟩ := r_areTwo (by omega) (by omega) two
  have g : g_RG R := by
    rcases hs with x | x
    · omega
    · exact x.2.2.1
  have p : g_pe R 101 q := by
    rcases hq with x | x
    · omega
    · exact x.2.2.2.1
  have pk : 0 ≤ q % 4 ∧ q % 4 < R 101 (g_ot s) := by
    unfold g_pe at p
    unfold g_ot
    by_cases t : s < 4
    · rw [if_pos t]; omega
    · rw [if_neg t]; omega
  obtain ⟨N, eN, L⟩ := r_laysY g s8
  rw [eN, gj_bnd_s, g_tmod q8.1]
  generalize q % 4 = k at *
  have b4 := g.rs.bs (g_ot_01 (s := s))
  refine gj_okM4 P (fun x3 x4 x7 x8 K => x3 = m ∧ x4 = n ∧ x7 = k ∧ 0 ≤ x8 ∧ x8 ≤ 7 ∧ g_LY s R K) (fun _ _ _ x8 _ => (7 - x8).toNat) ?_ gj_fu m n k 0 N ⟨rfl, rfl, rfl, by omega, by omega, L⟩ (by show _ < 2048; omega)
  rintro rec x3 x4 x7 x8 K ⟨e1, e2, e3, y0, y7, LK⟩ hr
  rw [e1, e2, e3]
  unfold B_X12_bar_61
  refine k_ite (fun _ => done _ _) (fun nm => k_chk (by omega) ?_)
  rw [gj_let_s]
  refine k_chk (by omega) ?_
  rw [gj_let_s]
  have L2 : g_LY s R (gj_up (gj_up K 115 k (f_min 4 x8)) 116 k (f_min 4 (gj_w (m - x8)))) := by
    refine g_LY_k (g_LY_k LK (Or.inl rfl) ?_) (Or.inr rfl) ?_
    · unfold f_min; split <;> omega
    · unfold f_min
      rw [gj_wle (by omega) (by omega)]
      split <;> omega
  obtain ⟨v, x, ev⟩ := r_worth6 (k := k) (on := m) s8 d L2.1 (Or.inr (by rw [L2.2.2]; exact pk))
  rw [ev, gj_bnd2_s, gj_wle (x := x8 + 1) (by omega) (by omega)]
  exact k_ite (fun _ => done _ _) (fun _ => hr _ _ _ _ _ ⟨rfl, rfl, rfl, by omega, by omega, g_LY_79 L2 (by decide)⟩ (by omega))
theorem r_price {C R : gj_M} {a n : Int} (h : g_VS C R) (hy : R 79 18 = 1 → g_RG R) : ∃ v N, F_X12_price a n R = some (v, N) := by
  obtain ⟨s, e, hs⟩ := r_who (a := a) h hy
  refine k_cpo2 (fun P done => ?_)
  unfold F_X12_price
  rw [e, gj_bnd_s]
  refine k_ite (fun _ => done _ _) (fun c => k_letI (k_ite (fun _ => done _ _) (fun d => ?_)))
  have d := g_mays d
  obtain ⟨s0, s8, g, -⟩ : 0 ≤ s ∧ s < 8 ∧ g_RG R ∧ g_pe R 101 s ∧ R 79 18 = 1 := by
    rcases hs with q | q
    · exact absurd q c
    · exact q
  have s8 : 0 ≤ s ∧ s < 8 := ⟨s0, s8⟩
  refine k_chk s8 (k_ite (fun _ => done _ _) (fun _ => ?_))
  obtain ⟨N, eN, L⟩ := r_laysY g s8
  rw [eN, gj_bnd_s]
  refine gj_okM3 P (fun x2 x3 x4 K => x2 = n ∧ x3 = s ∧ 0 ≤ x4 ∧ x4 ≤ 1000 ∧ g_LY s R K) (fun _ _ x4 _ => (1000 - x4).toNat) ?_ gj_fu n s 0 N ⟨rfl, rfl, by omega, by omega, L⟩ (by show _ < 2048; omega)
  rintro rec x2 x3 x4 K ⟨e1, e2, y0, y7, LK⟩ hr
  rw [e1, e2]
  unfold B_X12_price_38
  refine k_ite (fun _ => done _ _) (fun _ => ?_)
  rw [gj_let_s]
  have L2 : g_LY s R (gj_up K 79 36 x4) := g_LY_79 LK (by decide)
  generalize gj_up K 79 36 x4 = K2 at *
  obtain ⟨k, ek, ak⟩ := r_mateOf g s8 L2
  rw [ek, gj_bnd_s]
  refine k_chk s8 ?_
  obtain ⟨v, x, ev⟩ := r_worth6 (k := k) (on := K2 109 s) s8 d L2.1 ak
  have L3 : g_LY s R (gj_up K2 79 38 x) := g_LY_79 L2 (by decide)
  obtain ⟨k3, ek3, -⟩ := r_mateOf g s8 L3
  rw [ev, gj_bnd2_s, ek3, gj_bnd_s, gj_wle (x := x4 + 1) (by omega) (by omega)]
  exact k_ite (fun _ => done _ _) (fun _ => hr _ _ _ _ ⟨rfl, rfl, by omega, by omega, L3⟩ (by omega))
theorem r_waits {C R : gj_M} {a b n : Int} (h : g_VS C R) (hy : R 79 18 = 1 → g_RG R) : ∃ v N, F_X12_waits a b n R = some (v, N) := by
  obtain ⟨s, e, hs⟩ := r_who (a := a) h hy
  obtain ⟨q, f, hq⟩ := r_who (a := b) h hy
  refine k_cpo2 (fun P done => ?_)
  unfold F_X12_waits
  rw [e, gj_bnd_s, f, gj_bnd_s]
  refine k_letI (k_ite (fun _ => done _ _) (fun two => k_letI (k_ite (fun _ => done _ _) (fun d => ?_))))
  have d := g_in d
  obtain ⟨s8, q8, u⟩ := r_areTwo (by omega) (by omega) two
  have g : g_RG R := by
    rcases hs with x | x
    · omega
    · exact x.2.2.1
  refine k_chk s8 (k_ite (fun _ => done _ _) (fun _ => ?_))
  obtain ⟨N, eN, L⟩ := r_laysY g s8
  rw [eN, gj_bnd_s, gj_let_s]
  have L2 : g_LY s R (gj_up N 79 37 (Int.tmod q 4)) := g_LY_79 L (by decide)
  generalize gj_up N 79 37 (Int.tmod q 4) = K2 at *
  obtain ⟨k, ek, ak⟩ := r_mateOf g s8 L2
  rw [ek, gj_bnd_s]
  have j97 : ∀ on : Int, P (J_X12_waits_97 n s q k on K2) := by
    intro on
    unfold J_X12_waits_97
    obtain ⟨v, x, ev⟩ := r_worth6 (k := k) (on := on) (n := n) s8 (by omega) L2.1 ak
    rw [ev, gj_bnd2_s]
    have L3 : g_LY s R (gj_up K2 79 38 x) := g_LY_79 L2 (by decide)
    obtain ⟨y, ey⟩ := r_likesNow L3.1.1 s8 q8 u
    refine k_chk s8 ?_
    rw [ey, gj_bnd_s]
    exact k_chk s8 (k_ite (fun _ => done _ _) (fun _ => done _ _))
  exact k_chk s8 (k_ite (fun _ => j97 _) (fun _ => k_chk s8 (j97 _)))
