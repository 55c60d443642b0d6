/-! PURE: sooner, may, join, part, log, blocks and pairs, asked of the reference; safe -/
theorem r_deny {M : gj_M} {i : Int} (h : 0 ≤ i ∧ i < 3) : F_X12_deny i M = some (0, gj_up M 80 i (gj_w (M 80 i + 1))) := by
  unfold F_X12_deny
  rw [gj_chkp h, gj_chkp h, gj_let_s]
theorem r_refuse {M : gj_M} {i : Int} (h : 0 ≤ i ∧ i < 3) : F_X12_refuse i M = some (-1, gj_up M 80 i (gj_w (M 80 i + 1))) := by
  unfold F_X12_refuse
  rw [gj_chkp h, gj_chkp h, gj_let_s]
theorem r_sooner {C R : gj_M} {a b d : Int} (h : g_VS C R) (hy : R 79 18 = 1 → g_RG R) : ∃ v, F_X12_sooner a b d R = some v := by
  obtain ⟨s, e1, hs⟩ := r_who (a := a) h hy
  obtain ⟨q, e2, hq⟩ := r_who (a := b) h hy
  obtain ⟨r, e3, hr⟩ := r_who (a := d) h hy
  refine k_cpo (fun P done => ?_)
  unfold F_X12_sooner
  rw [e1, gj_bnd_s, e2, gj_bnd_s, e3, gj_bnd_s]
  refine k_letI (k_ite (fun _ => done _) (fun two => k_letI (k_ite (fun _ => done _) (fun two' => ?_))))
  obtain ⟨s8, q8, u⟩ := r_areTwo (by omega) (by omega) two
  obtain ⟨-, r8, u'⟩ := r_areTwo (by omega) (by omega) two'
  have g : g_RG R := by
    rcases hs with x | x
    · omega
    · exact x.2.2.1
  exact k_bE (r_isSooner g.rs s8 q8 u r8 u') (fun x => k_ite (fun _ => done _) (fun _ => done _))
/-- while MAYS go on -/
def g_MY (M0 : gj_M) (c l : Int) (M : gj_M) : Prop := 136 ≤ c ∧ g_RG M ∧ (0 ≤ M 79 29 ∧ M 79 29 ≤ 40) ∧ gj_Fr g_os ((79, 27) :: g_ps) M0 M ∧ M 79 27 = gj_w (M0 79 27 + l)
theorem r_mayOf {R : gj_M} {a c : Int} (hc : 136 ≤ c) (hv : R 79 18 = 1) (ha : 1 ≤ a ∧ a ≤ 50) (g : g_RG R) (h29 : 0 ≤ R 79 29 ∧ R 79 29 ≤ 40) (hw : 0 ≤ R 79 28) (h27 : gj_w (R 79 27) = R 79 27) : ∃ d N, F_X12_may_ a c R = some (gj_w (R 79 27 + a), (d, N)) ∧ g_MY R d a N := by
  suffices hh : ∀ P : Option (Int × (Int × gj_M)) → Prop, (∀ d N, g_MY R d a N → P (some (gj_w (R 79 27 + a), (d, N)))) → P (F_X12_may_ a c R) from hh (fun y => ∃ d N, y = some (gj_w (R 79 27 + a), (d, N)) ∧ g_MY R d a N) (fun d N q => ⟨d, N, rfl, q⟩)
  intro P done
  unfold F_X12_may_ f_X12_in
  rw [if_neg (show ¬ R 79 18 = 0 by omega)]
  refine k_letI ?_
  rw [if_neg (show ¬ a < 1 by omega), if_neg (show ¬ 50 < a by omega), if_neg (show ¬ (1 : Int) = 0 by decide)]
  refine gj_okM3 P (fun l1 l2 c M => l1 = a ∧ 0 ≤ l2 ∧ l2 ≤ a ∧ g_MY R c l2 M) (fun _ l2 _ _ => (a - l2).toNat) ?_ 51 a 0 c R ⟨rfl, by omega, by omega, hc, g, h29, gj_Fr.rf, by rw [Int.add_zero, h27]⟩ (by omega)
  rintro rec l1 l2 c M ⟨e1, b0, b1, m1, m2, m3, m4, m5⟩ hr
  rw [e1]
  unfold B_X12_may__27
  refine k_ite (fun q => ?_) (fun q => ?_)
  · have e : l2 = a := by omega
    rw [m5, e]
    exact done _ _ ⟨m1, m2, m3, m4, by rw [m5, e]⟩
  · have h28 : M 79 28 = R 79 28 := m4 79 28 (by decide) (by decide)
    obtain ⟨d, N, e, ⟨n1, n2, n3, n4⟩⟩ := r_may (M0 := M) ⟨m1, m2, m3, gj_Fr.rf⟩ (by omega)
    have h27' : N 79 27 = M 79 27 := n4 79 27 (by decide) (by decide)
    rw [e, gj_bnd2_s, gj_wle (x := l2 + 1) (by omega) (by omega)]
    refine hr _ _ _ _ ⟨rfl, by omega, by omega, n1, g_RG_up n2 (by decide), ?_, ?_, ?_⟩ (by omega)
    · rw [gj_up_i (by decide)]; exact n3
    · exact (m4.trans (n4.wide (by decide +kernel))).up (by decide +kernel)
    · rw [gj_up_eq, h27', m5]
      unfold gj_w
      omega
theorem r_mayNo {R : gj_M} {a c : Int} (hv : R 79 18 = 0 ∨ ¬ (1 ≤ a ∧ a ≤ 50)) : F_X12_may_ a c R = some (-1, (c, gj_up R 80 2 (gj_w (R 80 2 + 1)))) := by
  unfold F_X12_may_
  by_cases c0 : R 79 18 = 0
  · rw [if_pos c0, r_refuse (by decide), gj_bnd2_s]
  · rw [if_neg c0]
    dsimp only [gj_letI]
    have e : f_X12_in a 1 50 R = 0 := by
      unfold f_X12_in
      by_cases q : a < 1
      · rw [if_pos q]
      · rw [if_neg q, if_pos (by omega)]
    rw [e, if_pos rfl, r_refuse (by decide), gj_bnd2_s]
theorem r_join {C R : gj_M} {a b : Int} (h : g_VS C R) (hy : R 79 18 = 1 → g_RG R) : ∃ v N, F_X12_join a b R = some (v, N) ∧ (R 79 18 = 1 → g_RG N) := by
  obtain ⟨s, e1, hs⟩ := r_who (a := a) h hy
  obtain ⟨q, e2, hq⟩ := r_who (a := b) h hy
  refine k_cps2 (fun P done => ?_)
  unfold F_X12_join
  rw [e1, gj_bnd_s, e2, gj_bnd_s]
  have dn : ∀ i : Int, 0 ≤ i ∧ i < 3 → P (gj_bnd2 (F_X12_deny i R) (fun x M => some (x, M))) := by
    intro i hi
    rw [r_deny hi, gj_bnd2_s]
    exact done _ _ (fun v => g_RG_up (hy v) (by decide))
  refine k_ite (fun _ => dn 0 (by decide)) (fun c1 => k_ite (fun _ => dn 0 (by decide)) (fun c2 => k_ite (fun _ => dn 0 (by decide)) (fun c3 => k_ite (fun c4 => ?_) (fun _ => dn 0 (by decide)))))
  obtain ⟨s0, s8, g, ps, hv⟩ : 0 ≤ s ∧ s < 8 ∧ g_RG R ∧ g_pe R 101 s ∧ R 79 18 = 1 := by
    rcases hs with x | x
    · exact absurd x c1
    · exact x
  obtain ⟨q0, q8, -, pq, -⟩ : 0 ≤ q ∧ q < 8 ∧ g_RG R ∧ g_pe R 101 q ∧ R 79 18 = 1 := by
    rcases hq with x | x
    · exact absurd x c2
    · exact x
  refine k_chk ⟨s0, s8⟩ (k_ite (fun _ => k_chk ⟨q0, q8⟩ (k_ite (fun _ => ?_) (fun _ => dn 2 (by decide)))) (fun _ => dn 2 (by decide)))
  rw [r_joins ⟨s0, s8⟩ ⟨q0, q8⟩, gj_bnd_s]
  refine done _ _ (fun _ => g_RG_up (g_RG_up (g_RG_up (g_RG_up (g_RG_108 (g_RG_108 g (fun _ _ => Or.inr ⟨by omega, pq⟩)) (fun _ _ => Or.inr ⟨by omega, ?_⟩)) (by decide)) (by decide)) (by decide)) (by decide))
  exact (g_pe_s (funext fun _ => gj_up_z (by decide))).mpr ps
theorem r_part {C R : gj_M} {a : Int} (h : g_VS C R) (hy : R 79 18 = 1 → g_RG R) : ∃ v N, F_X12_part a R = some (v, N) ∧ (R 79 18 = 1 → g_RG N) := by
  obtain ⟨s, e1, hs⟩ := r_who (a := a) h hy
  refine k_cps2 (fun P done => ?_)
  unfold F_X12_part
  rw [e1, gj_bnd_s]
  have dn : ∀ i : Int, 0 ≤ i ∧ i < 3 → P (gj_bnd2 (F_X12_deny i R) (fun x M => some (x, M))) := by
    intro i hi
    rw [r_deny hi, gj_bnd2_s]
    exact done _ _ (fun v => g_RG_up (hy v) (by decide))
  refine k_ite (fun _ => k_ite (fun _ => dn 0 (by decide)) (fun _ => dn 2 (by decide))) (fun c1 => ?_)
  obtain ⟨s0, s8, g, ps, hv⟩ : 0 ≤ s ∧ s < 8 ∧ g_RG R ∧ g_pe R 101 s ∧ R 79 18 = 1 := by
    rcases hs with x | x
    · exact absurd x c1
    · exact x
  refine k_chk ⟨s0, s8⟩ (k_ite (fun _ => k_ite (fun _ => dn 0 (by decide)) (fun _ => dn 2 (by decide))) (fun hm => ?_))
  have q8 : 0 ≤ R 108 s ∧ R 108 s < 8 := by
    rcases g.2.1 s s0 s8 with e | e
    · exact absurd e hm
    · omega
  rw [r_parts ⟨s0, s8⟩ q8, gj_bnd_s]
  exact done _ _ (fun _ => g_RG_108 (g_RG_108 g (fun _ _ => Or.inl rfl)) (fun _ _ => Or.inl rfl))
theorem r_log {R : gj_M} {k w : Int} (h : 0 ≤ R 79 29 ∧ R 79 29 ≤ 40) : ∃ v, F_X12_log k w R = some v := by
  refine k_cpo (fun P done => ?_)
  unfold F_X12_log
  refine k_ite (fun _ => done _) (fun _ => k_letI (k_ite (fun _ => done _) (fun a => k_letI (k_ite (fun _ => done _) (fun b => ?_)))))
  have a := g_in a
  have b := g_in b
  rw [gj_wle (x := R 79 29 - 1) (by omega) (by omega)] at a
  rw [gj_wle (x := 5 * k) (by omega) (by omega), gj_wle (x := 5 * k + w) (by omega) (by omega)]
  exact k_chk (by omega) (done _)
theorem r_isFree {M : gj_M} {s q : Int} (g : g_RG M) (s8 : 0 ≤ s ∧ s < 8) (q8 : 0 ≤ q ∧ q < 8) (u : ¬ (s < 4 ↔ q < 4)) : ∃ v, F_X12_isFree s q M = some v := by
  refine k_cpo (fun P done => ?_)
  unfold F_X12_isFree
  refine k_chk s8 (k_ite (fun _ => done _) (fun hm => k_chk s8 ?_))
  have m := g.2.1 s s8.1 s8.2
  exact k_bE (r_isSooner g.rs s8 q8 u (by omega) (by omega)) (fun x => k_ite (fun _ => done _) (fun _ => done _))
theorem r_blocks {R : gj_M} {k : Int} (hv : R 79 18 = 0 ∨ R 79 18 = 1) (hy : R 79 18 = 1 → g_RG R) : ∃ v, F_X12_blocks k R = some v := by
  refine k_cpo (fun P done => ?_)
  unfold F_X12_blocks
  refine k_ite (fun _ => k_ite (fun _ => done _) (fun _ => done _)) (fun v0 => ?_)
  have g := hy (by omega)
  have b0 := g.rs.b0
  have b1 := g.rs.b1
  refine gj_okQ3 P (fun _ _ l3 => 0 ≤ l3 ∧ l3 ≤ 4) (fun _ _ l3 => (4 - l3).toNat) ?_ gj_fu k 0 0 ⟨by omega, by omega⟩ (by show _ < 2048; omega)
  rintro rec l1 l2 l3 ⟨a, b⟩ hr
  unfold B_X12_blocks_22 J_X12_blocks_127
  refine k_ite (fun _ => k_ite (fun _ => done _) (fun _ => done _)) (fun c => ?_)
  refine gj_okQ4 P (fun _ _ m3 m4 => m3 = l3 ∧ 4 ≤ m4 ∧ m4 ≤ 8) (fun _ _ _ m4 => (8 - m4).toNat) ?_ gj_fu l1 l2 l3 4 ⟨rfl, by omega, by omega⟩ (by show _ < 2048; omega)
  rintro rec4 m1 m2 m3 m4 ⟨e, c4, c8⟩ hr4
  rw [e]
  unfold B_X12_blocks_37 J_X12_blocks_121 J_X12_blocks_101
  rw [gj_wle (x := 4 + R 101 1) (by omega) (by omega), gj_wle (x := l3 + 1) (by omega) (by omega), gj_wle (x := m4 + 1) (by omega) (by omega)]
  refine k_ite (fun _ => hr _ _ _ ⟨by omega, by omega⟩ (by omega)) (fun d => ?_)
  have nx : ∀ x y : Int, P (rec4 x y l3 (m4 + 1)) := fun x y => hr4 x y l3 (m4 + 1) ⟨rfl, by omega, by omega⟩ (by omega)
  have p8 : 0 ≤ l3 ∧ l3 < 8 := by omega
  have z8 : 0 ≤ m4 ∧ m4 < 8 := by omega
  refine k_chk p8 (k_ite (fun _ => nx _ _) (fun _ => k_bE (r_both g.rs p8 z8 (by omega)) (fun x => k_ite (fun _ => nx _ _) (fun _ => k_bE (r_isFree g p8 z8 (by omega)) (fun x => k_ite (fun _ => nx _ _) (fun _ => k_bE (r_isFree g z8 p8 (by omega)) (fun x => k_ite (fun _ => nx _ _) (fun _ => k_ite (fun _ => ?_) (fun _ => nx _ _)))))))))
  exact k_letI (done _)
theorem r_pairs {R : gj_M} {m w : Int} (hv : R 79 18 = 0 ∨ R 79 18 = 1) (hy : R 79 18 = 1 → g_RG R) : ∃ v, F_X12_pairs m w R = some v := by
  refine k_cpo (fun P done => ?_)
  unfold F_X12_pairs
  refine k_letI (k_ite (fun _ => done _) (fun _ => k_letI (k_ite (fun _ => done _) (fun _ => ?_))))
  refine gj_okQ4 P (fun _ _ _ l4 => 0 ≤ l4 ∧ l4 ≤ 4) (fun _ _ _ l4 => (4 - l4).toNat) ?_ gj_fu m w 0 0 ⟨by omega, by omega⟩ (by show _ < 2048; omega)
  rintro rec l1 l2 l3 l4 ⟨a, b⟩ hr
  unfold B_X12_pairs_29 J_X12_pairs_81
  refine k_ite (fun _ => done _) (fun v0 => ?_)
  have g := hy (by omega)
  have b0 := g.rs.b0
  rw [gj_wle (x := l4 + 1) (by omega) (by omega)]
  refine k_ite (fun _ => done _) (fun c => ?_)
  have p8 : 0 ≤ l4 ∧ l4 < 8 := by omega
  have nx : ∀ x y z : Int, P (rec x y z (l4 + 1)) := fun x y z => hr x y z (l4 + 1) ⟨by omega, by omega⟩ (by omega)
  exact k_chk p8 (k_ite (fun _ => nx _ _ _) (fun _ => k_ite (fun _ => nx _ _ _) (fun _ => k_chk p8 (k_ite (fun _ => nx _ _ _) (fun _ => nx _ _ _)))))
