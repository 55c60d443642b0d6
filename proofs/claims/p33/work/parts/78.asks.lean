/-! PURE: one side asks, in the reference; safe, and it ends -/
def g_ct (f : Int → Bool) : Nat → Nat
  | 0 => 0
  | n + 1 => g_ct f n + (if f n then 1 else 0)
theorem g_ct_le {f g : Int → Bool} : ∀ n : Nat, (∀ i : Int, 0 ≤ i → i < n → f i = true → g i = true) → g_ct f n ≤ g_ct g n
  | 0, _ => Nat.le_refl _
  | n + 1, h => by
    have h1 := g_ct_le n (fun i a b => h i a (by omega))
    have h2 := h n (by omega) (by omega)
    unfold g_ct
    by_cases c : f n = true
    · rw [if_pos c, if_pos (h2 c)]; omega
    · rw [if_neg c]; omega
theorem g_ct_lt {f g : Int → Bool} {k : Int} : ∀ n : Nat, 0 ≤ k → k < n → (∀ i : Int, 0 ≤ i → i < n → f i = true → g i = true) → f k = false → g k = true → g_ct f n < g_ct g n
  | 0, a, b, _, _, _ => absurd b (by omega)
  | n + 1, a, b, h, h1, h2 => by
    unfold g_ct
    by_cases e : k = n
    · have q := g_ct_le n (fun i a b => h i a (by omega))
      rw [← e, h1, h2]
      simp
      omega
    · have q := g_ct_lt n a (by omega) (fun i a b => h i a (by omega)) h1 h2
      have h2 := h n (by omega) (by omega)
      by_cases c : f n = true
      · rw [if_pos c, if_pos (h2 c)]; omega
      · rw [if_neg c]; omega
theorem g_ct_n {f : Int → Bool} : ∀ n : Nat, g_ct f n ≤ n
  | 0 => Nat.le_refl _
  | n + 1 => by
    have := g_ct_n (f := f) n
    unfold g_ct
    split <;> omega
def g_HV (M : gj_M) : Prop := ∀ j, 0 ≤ j → j < 8 → M 119 j = -1 ∨ (0 ≤ M 119 j ∧ M 119 j < 8 ∧ (j < 4 ↔ ¬ M 119 j < 4) ∧ g_pe M 101 (M 119 j))
def g_HS (M : gj_M) : Prop := ∀ j, 0 ≤ j → j < 8 → M 119 j = -1 ∨ ((0 ≤ M 119 j ∧ M 119 j < 8 ∧ (j < 4 ↔ ¬ M 119 j < 4) ∧ g_pe M 101 (M 119 j)) ∧ M 119 (M 119 j) = j ∧ M 121 (f_cpl (M 119 j) j) = 0)
theorem g_HS.v {M : gj_M} (h : g_HS M) : g_HV M := fun j a b => by
  rcases h j a b with e | e
  · exact Or.inl e
  · exact Or.inr e.1
def g_fi (M : gj_M) : Nat := 9 * g_ct (fun t => decide (M 121 t = 0)) 16 + g_ct (fun j => decide (M 119 j = -1)) 8
theorem g_fi_z {M N : gj_M} {t : Int} (a : 0 ≤ t) (b : t < 16) (h0 : M 121 t = 0) (h1 : ∀ i, N 121 i = if i = t then 1 else M 121 i) : g_fi N < g_fi M := by
  unfold g_fi
  have z := g_ct_lt (f := fun t => decide (N 121 t = 0)) (g := fun t => decide (M 121 t = 0)) (k := t) 16 a b (fun i _ _ q => by
    simp only [decide_eq_true_eq] at q ⊢
    rw [h1] at q
    split at q
    · exact absurd q (by decide)
    · exact q) (by simp [h1]) (by simp [h0])
  have q1 := g_ct_n (f := fun j => decide (N 119 j = -1)) 8
  omega
theorem g_fi_f {M N : gj_M} {p q : Int} (a : 0 ≤ p) (b : p < 8) (h0 : M 119 p = -1) (hp : q ≠ -1) (h1 : N 119 p = q) (h2 : ∀ i, 0 ≤ i → i < 8 → N 119 i = -1 → M 119 i = -1) (h3 : N 121 = M 121) : g_fi N < g_fi M := by
  unfold g_fi
  have z := g_ct_lt (f := fun j => decide (N 119 j = -1)) (g := fun j => decide (M 119 j = -1)) (k := p) 8 a b (fun i a b q => by
    simp only [decide_eq_true_eq] at q ⊢
    exact h2 i a b q) (by simp [h1, hp]) (by simp [h0])
  rw [h3]
  omega
theorem g_cplv {s q : Int} (s8 : 0 ≤ s ∧ s < 8) (q8 : 0 ≤ q ∧ q < 8) (u : ¬ (s < 4 ↔ q < 4)) : f_cpl s q = if s < 4 then 4 * s + q - 4 else 4 * q + s - 4 := by
  unfold f_cpl
  by_cases c : s < 4
  · rw [if_pos c, if_pos (by omega)]; unfold gj_w; omega
  · rw [if_neg c, if_neg (by omega)]; unfold gj_w; omega
theorem g_cpl_inj {s q a b : Int} (s8 : 0 ≤ s ∧ s < 8) (q8 : 0 ≤ q ∧ q < 8) (u : ¬ (s < 4 ↔ q < 4)) (a8 : 0 ≤ a ∧ a < 8) (b8 : 0 ≤ b ∧ b < 8) (v : ¬ (a < 4 ↔ b < 4)) (e : f_cpl s q = f_cpl a b) : (s = a ∧ q = b) ∨ (s = b ∧ q = a) := by
  rw [g_cplv s8 q8 u, g_cplv a8 b8 v] at e
  by_cases c : s < 4 <;> by_cases d : a < 4
  · rw [if_pos c, if_pos d] at e; omega
  · rw [if_pos c, if_neg d] at e; omega
  · rw [if_neg c, if_pos d] at e; omega
  · rw [if_neg c, if_neg d] at e; omega
theorem g_cpl_sym {s q : Int} (s8 : 0 ≤ s ∧ s < 8) (q8 : 0 ≤ q ∧ q < 8) (u : ¬ (s < 4 ↔ q < 4)) : f_cpl s q = f_cpl q s := by
  rw [g_cplv s8 q8 u, g_cplv q8 s8 (by omega)]
  by_cases c : s < 4
  · rw [if_pos c, if_neg (by omega)]
  · rw [if_neg c, if_pos (by omega)]
theorem r_gives {M : gj_M} {p q : Int} (p8 : 0 ≤ p ∧ p < 8) (q8 : 0 ≤ q ∧ q < 8) : F_X12_gives p q M = some (gj_up (gj_up M 119 p q) 119 q p) := by
  unfold F_X12_gives
  rw [gj_chkp p8, gj_let_s, gj_chkp q8, gj_let_s]
theorem g_pe_s {M N : gj_M} {i : Int} (h : N 101 = M 101) : g_pe N 101 i ↔ g_pe M 101 i := by
  unfold g_pe
  rw [h]
/-- a free one is given to a free one -/
theorem g_HS_new {M : gj_M} {p q : Int} (h : g_HS M) (p8 : 0 ≤ p ∧ p < 8) (q8 : 0 ≤ q ∧ q < 8) (u : ¬ (p < 4 ↔ q < 4)) (pp : g_pe M 101 p) (pq : g_pe M 101 q) (hp : M 119 p = -1) (hq : M 119 q = -1) (hs : M 121 (f_cpl p q) = 0) : g_HS (gj_up (gj_up M 119 p q) 119 q p) := by
  have e101 : gj_up (gj_up M 119 p q) 119 q p 101 = M 101 := funext fun _ => by rw [gj_up_z (by decide), gj_up_z (by decide)]
  have v : ∀ i, gj_up (gj_up M 119 p q) 119 q p 119 i = if i = q then p else if i = p then q else M 119 i := fun i => by rw [gj_up_if, gj_up_if]
  have e121 : ∀ t, gj_up (gj_up M 119 p q) 119 q p 121 t = M 121 t := fun t => by rw [gj_up_z (by decide), gj_up_z (by decide)]
  intro j a b
  rw [v j]
  by_cases c : j = q
  · rw [if_pos c, v p, if_neg (by omega), if_pos rfl, e121, c]
    exact Or.inr ⟨⟨p8.1, p8.2, by omega, (g_pe_s e101).mpr pp⟩, rfl, hs⟩
  · rw [if_neg c]
    by_cases d : j = p
    · rw [if_pos d, v q, if_pos rfl, e121, d]
      exact Or.inr ⟨⟨q8.1, q8.2, by omega, (g_pe_s e101).mpr pq⟩, rfl, by rw [← g_cpl_sym p8 q8 u]; exact hs⟩
    · rw [if_neg d]
      rcases h j a b with e | ⟨⟨x1, x2, x3, x4⟩, x5, x6⟩
      · exact Or.inl e
      · right
        rw [v, e121]
        have n1 : M 119 j ≠ q := fun e => by rw [e] at x5; omega
        have n2 : M 119 j ≠ p := fun e => by rw [e] at x5; omega
        rw [if_neg n1, if_neg n2]
        exact ⟨⟨x1, x2, x3, (g_pe_s e101).mpr x4⟩, x5, x6⟩
/-- one is told no -/
theorem g_HS_no {M : gj_M} {p q : Int} (h : g_HS M) (p8 : 0 ≤ p ∧ p < 8) (q8 : 0 ≤ q ∧ q < 8) (u : ¬ (p < 4 ↔ q < 4)) (n : M 119 p ≠ q) : g_HS (gj_up M 121 (f_cpl p q) 1) := by
  have e101 : gj_up M 121 (f_cpl p q) 1 101 = M 101 := funext fun _ => gj_up_z (by decide)
  have v : ∀ i, gj_up M 121 (f_cpl p q) 1 119 i = M 119 i := fun i => gj_up_z (by decide)
  intro j a b
  rw [v j]
  rcases h j a b with e | ⟨⟨x1, x2, x3, x4⟩, x5, x6⟩
  · exact Or.inl e
  · right
    rw [v, gj_up_if]
    refine ⟨⟨x1, x2, x3, (g_pe_s e101).mpr x4⟩, x5, ?_⟩
    split
    · next e =>
      rcases g_cpl_inj ⟨x1, x2⟩ ⟨a, b⟩ (by omega) p8 q8 u e with ⟨e1, e2⟩ | ⟨e1, e2⟩
      · rw [e1, e2] at x5; exact absurd x5 n
      · rw [e2] at e1; exact absurd e1 n
    · exact x6
/-- one leaves -/
theorem g_HS_off {M : gj_M} {w q : Int} (h : g_HS M) (w8 : 0 ≤ w ∧ w < 8) (q8 : 0 ≤ q ∧ q < 8) (hw : M 119 w = q) : g_HS (gj_up (gj_up M 119 w (-1)) 119 q (-1)) := by
  have e101 : gj_up (gj_up M 119 w (-1)) 119 q (-1) 101 = M 101 := funext fun _ => by rw [gj_up_z (by decide), gj_up_z (by decide)]
  have v : ∀ i, gj_up (gj_up M 119 w (-1)) 119 q (-1) 119 i = if i = q then -1 else if i = w then -1 else M 119 i := fun i => by rw [gj_up_if, gj_up_if]
  have e121 : ∀ t, gj_up (gj_up M 119 w (-1)) 119 q (-1) 121 t = M 121 t := fun t => by rw [gj_up_z (by decide), gj_up_z (by decide)]
  have hq : M 119 q = w := by
    rcases h w w8.1 w8.2 with e | e
    · omega
    · rw [hw] at e; exact e.2.1
  intro j a b
  rw [v j]
  by_cases c : j = q
  · rw [if_pos c]; exact Or.inl rfl
  · rw [if_neg c]
    by_cases d : j = w
    · rw [if_pos d]; exact Or.inl rfl
    · rw [if_neg d]
      rcases h j a b with e | ⟨⟨x1, x2, x3, x4⟩, x5, x6⟩
      · exact Or.inl e
      · right
        rw [v, e121]
        have n1 : M 119 j ≠ q := fun e => by rw [e] at x5; omega
        have n2 : M 119 j ≠ w := fun e => by rw [e] at x5; omega
        rw [if_neg n1, if_neg n2]
        exact ⟨⟨x1, x2, x3, (g_pe_s e101).mpr x4⟩, x5, x6⟩
def g_AJ (M : gj_M) : Prop := g_RS M ∧ g_HS M
theorem r_asks23 {w : Int} (hw : w = 0 ∨ w = 1) {R : gj_M} (h : g_AJ R) : ∃ N, gj_it (fun _ _ _ => none) B_X12_asks_23 gj_fu w 1 R = some N ∧ g_HV N := by
  refine k_cps (fun P done => ?_)
  refine gj_okM2 P (fun l1 l2 M => l1 = w ∧ (l2 = 0 ∨ l2 = 1) ∧ g_AJ M) (fun _ l2 M => 2 * g_fi M + l2.toNat) ?_ gj_fu w 1 R ⟨rfl, Or.inr rfl, h⟩ (by
    have a1 := g_ct_n (f := fun t => decide (R 121 t = 0)) 16
    have a2 := g_ct_n (f := fun j => decide (R 119 j = -1)) 8
    show 2 * g_fi R + 1 < 2048
    unfold g_fi
    omega)
  rintro rec l1 l2 M0 ⟨e1, e2, hJ0⟩ hr
  rw [e1]
  unfold B_X12_asks_23
  refine k_ite (fun c => done M0 hJ0.2.v) (fun c => ?_)
  have e2 : l2 = 1 := by omega
  rw [e2] at hr
  refine gj_okM3 P (fun m1 m2 m3 M => m1 = w ∧ 0 ≤ m3 ∧ m3 ≤ 4 ∧ g_AJ M ∧ ((m2 = 0 ∧ g_fi M ≤ g_fi M0) ∨ (m2 = 1 ∧ g_fi M < g_fi M0))) (fun _ _ m3 _ => (4 - m3).toNat) ?_ gj_fu w 0 0 M0 ⟨rfl, by omega, by omega, hJ0, Or.inl ⟨rfl, Nat.le_refl _⟩⟩ (by show _ < 2048; omega)
  rintro rec31 m1 m2 m3 M ⟨f1, m30, m34, hJ, hm⟩ hr31
  rw [f1]
  unfold B_X12_asks_31 J_X12_asks_267 J_X12_asks_261
  have hb := hJ.1.bs hw
  have hb' := hJ.1.bs (i := 1 - w) (by omega)
  refine k_chk (by omega) (k_ite (fun d => ?_) (fun d => ?_))
  · refine hr w m2 M ⟨rfl, by omega, hJ⟩ ?_
    rcases hm with ⟨x, y⟩ | ⟨x, y⟩
    · rw [x]
      show 2 * g_fi M + 0 < 2 * g_fi M0 + 1
      omega
    · rw [x]
      show 2 * g_fi M + 1 < 2 * g_fi M0 + 1
      omega
  · have hp : gj_w (gj_w (4 * w) + m3) = 4 * w + m3 := by unfold gj_w; omega
    dsimp only [gj_letI]
    rw [hp]
    have p8 : 0 ≤ 4 * w + m3 ∧ 4 * w + m3 < 8 := by omega
    have pp : g_pe M 101 (4 * w + m3) := by
      unfold g_pe
      rcases hw with e | e <;> rw [e] at d hb ⊢ <;> omega
    have ps : 4 * w + m3 < 4 ↔ w = 0 := by omega
    have nx : ∀ (b : Int) (N : gj_M), g_AJ N → ((b = 0 ∧ g_fi N ≤ g_fi M0) ∨ (b = 1 ∧ g_fi N < g_fi M0)) → P (rec31 w b (gj_w (m3 + 1)) N) := fun b N j1 j2 => by
      rw [gj_wle (by omega) (by omega)]
      exact hr31 w b (m3 + 1) N ⟨rfl, by omega, by omega, j1, j2⟩ (by omega)
    have lt : ∀ N : gj_M, g_fi N < g_fi M → g_fi N < g_fi M0 := fun N q => by
      rcases hm with ⟨x, y⟩ | ⟨x, y⟩ <;> omega
    generalize 4 * w + m3 = p at *
    refine k_chk p8 (k_ite (fun _ => nx m2 M hJ hm) (fun _ => k_chk p8 (k_ite (fun hfree => ?_) (fun _ => nx m2 M hJ hm))))
    refine gj_okM6 P (fun n1 n2 n3 n4 n5 n6 N => n1 = w ∧ n2 = m2 ∧ n3 = m3 ∧ n4 = p ∧ N = M ∧ 0 ≤ n6 ∧ n6 ≤ 4 ∧ (n5 = -1 ∨ (0 ≤ n5 ∧ n5 < 8 ∧ ¬ (p < 4 ↔ n5 < 4) ∧ g_pe M 101 n5 ∧ M 121 (f_cpl p n5) = 0))) (fun _ _ _ _ _ n6 _ => (4 - n6).toNat) ?_ gj_fu w m2 m3 p (-1) 0 M ⟨rfl, rfl, rfl, rfl, rfl, by omega, by omega, Or.inl rfl⟩ (by show _ < 2048; omega)
    rintro rec81 n1 n2 n3 n4 n5 n6 N ⟨h1, h2, h3, h4, hN, n60, n64, h5⟩ hr81
    rw [h1, h2, h3, h4, hN]
    unfold B_X12_asks_81 J_X12_asks_165
    rw [show gj_w (1 - w) = 1 - w from gj_wle (by omega) (by omega), show gj_w (n6 + 1) = n6 + 1 from gj_wle (by omega) (by omega)]
    refine k_chk (by omega) (k_ite (fun d2 => ?_) (fun d2 => ?_))
    · unfold J_X12_asks_171 J_X12_asks_237 J_X12_asks_261
      refine k_ite (fun _ => nx m2 M hJ hm) (fun d3 => ?_)
      obtain ⟨q0, q8, qu, qp, qs⟩ : 0 ≤ n5 ∧ n5 < 8 ∧ ¬ (p < 4 ↔ n5 < 4) ∧ g_pe M 101 n5 ∧ M 121 (f_cpl p n5) = 0 := by
        rcases h5 with e | e
        · exact absurd e d3
        · exact e
      obtain ⟨t1, t2⟩ := p_twoOf (M := M) p8 ⟨q0, q8⟩ qu
      refine k_chk ⟨q0, q8⟩ (k_ite (fun d4 => k_ite (fun _ => ?_) (fun no => absurd d4 no)) (fun d4 => ?_))
      · refine k_bnd (r_gives p8 ⟨q0, q8⟩) (nx 1 _ ⟨g_RS_up (g_RS_up hJ.1 (by unfold g_rk; decide)) (by unfold g_rk; decide), g_HS_new hJ.2 p8 ⟨q0, q8⟩ qu pp qp hfree d4 qs⟩ (Or.inr ⟨rfl, lt _ ?_⟩))
        refine g_fi_f (p := p) (q := n5) p8.1 p8.2 hfree d3 ?_ (fun i a b => ?_) ?_
        · rw [gj_up_i (by omega), gj_up_eq]
        · rw [gj_up_if, gj_up_if]
          split
          · omega
          · split
            · omega
            · exact id
        · funext t
          rw [gj_up_z (by decide), gj_up_z (by decide)]
      · obtain ⟨⟨w0, w8, wo, wp⟩, wb, ws⟩ : (0 ≤ M 119 n5 ∧ M 119 n5 < 8 ∧ (n5 < 4 ↔ ¬ M 119 n5 < 4) ∧ g_pe M 101 (M 119 n5)) ∧ M 119 (M 119 n5) = n5 ∧ M 121 (f_cpl (M 119 n5) n5) = 0 := by
          rcases hJ.2 n5 q0 q8 with e | e
          · exact absurd e d4
          · exact e
        have wne : M 119 n5 ≠ p := fun e => by rw [e] at wb; omega
        refine k_bE (r_isSooner hJ.1 ⟨q0, q8⟩ p8 (by omega) ⟨w0, w8⟩ (by omega)) (fun x => k_ite (fun _ => ?_) (fun _ => k_ite (fun no => absurd no d4) (fun _ => ?_)))
        · rw [t1]
          refine k_chk t2 (nx 1 _ ⟨g_RS_up hJ.1 (by unfold g_rk; decide), g_HS_no hJ.2 p8 ⟨q0, q8⟩ qu (by omega)⟩ (Or.inr ⟨rfl, lt _ ?_⟩))
          exact g_fi_z t2.1 t2.2 qs (fun i => gj_up_if)
        · refine k_chk ⟨w0, w8⟩ ?_
          rw [gj_let_s, (p_twoOf ⟨w0, w8⟩ ⟨q0, q8⟩ (by omega)).1]
          obtain ⟨-, u2⟩ := p_twoOf (M := M) ⟨w0, w8⟩ ⟨q0, q8⟩ (by omega)
          refine k_chk u2 ?_
          rw [gj_let_s]
          generalize hwas : M 119 n5 = was at *
          refine k_bnd (r_gives p8 ⟨q0, q8⟩) (nx 1 _ ⟨g_RS_up (g_RS_up (g_RS_up (g_RS_up hJ.1 (by unfold g_rk; decide)) (by unfold g_rk; decide)) (by unfold g_rk; decide)) (by unfold g_rk; decide), ?_⟩ (Or.inr ⟨rfl, lt _ ?_⟩))
          · have a1 := g_HS_off (w := was) (q := n5) hJ.2 ⟨w0, w8⟩ ⟨q0, q8⟩ wb
            have a2 := g_HS_no (p := was) (q := n5) a1 ⟨w0, w8⟩ ⟨q0, q8⟩ (by omega) (by rw [gj_up_if, gj_up_if]; split <;> omega)
            have a3 := g_HS_new (p := p) (q := n5) a2 p8 ⟨q0, q8⟩ qu ((g_pe_s (funext fun _ => by rw [gj_up_z (by decide), gj_up_z (by decide), gj_up_z (by decide)])).mpr pp) ((g_pe_s (funext fun _ => by rw [gj_up_z (by decide), gj_up_z (by decide), gj_up_z (by decide)])).mpr qp) (by rw [gj_up_z (by decide), gj_up_i (by omega), gj_up_i (by omega)]; exact hfree) (by rw [gj_up_z (by decide), gj_up_eq]) (by
              rw [gj_up_i (fun e => ?_), gj_up_z (by decide), gj_up_z (by decide)]
              · exact qs
              · rcases g_cpl_inj p8 ⟨q0, q8⟩ qu ⟨w0, w8⟩ ⟨q0, q8⟩ (by omega) e with ⟨e1, -⟩ | ⟨e1, e2⟩ <;> omega)
            have e : gj_up (gj_up (gj_up (gj_up (gj_up M 119 was (-1)) 119 n5 (-1)) 121 (f_cpl was n5) 1) 119 p n5) 119 n5 p = gj_up (gj_up (gj_up (gj_up M 119 was (-1)) 121 (f_cpl was n5) 1) 119 p n5) 119 n5 p := by
              funext a b
              unfold gj_up
              by_cases c1 : a = 119 ∧ b = n5
              · rw [if_pos c1, if_pos c1]
              · rw [if_neg c1, if_neg c1, if_neg c1]
            rw [e] at a3
            exact a3
          · refine g_fi_z u2.1 u2.2 ws (fun i => ?_)
            rw [gj_up_z (by decide), gj_up_z (by decide), gj_up_if, gj_up_z (by decide)]
    · rw [show gj_w (gj_w (4 * (1 - w)) + n6) = 4 * (1 - w) + n6 by unfold gj_w; omega]
      have z8 : 0 ≤ 4 * (1 - w) + n6 ∧ 4 * (1 - w) + n6 < 8 := by omega
      have zu : ¬ (p < 4 ↔ 4 * (1 - w) + n6 < 4) := by omega
      have zp : g_pe M 101 (4 * (1 - w) + n6) := by
        unfold g_pe
        rcases hw with e | e
        · rw [e, show (1 : Int) - 0 = 1 from rfl] at d2 hb'
          rw [e]
          omega
        · rw [e, show (1 : Int) - 1 = 0 from rfl] at d2 hb'
          rw [e]
          omega
      generalize 4 * (1 - w) + n6 = z at *
      have nz : ∀ b : Int, (b = -1 ∨ (0 ≤ b ∧ b < 8 ∧ ¬ (p < 4 ↔ b < 4) ∧ g_pe M 101 b ∧ M 121 (f_cpl p b) = 0)) → P (rec81 w m2 m3 p b (n6 + 1) M) := fun b hbb => hr81 w m2 m3 p b (n6 + 1) M ⟨rfl, rfl, rfl, rfl, rfl, by omega, by omega, hbb⟩ (by omega)
      obtain ⟨t1, t2⟩ := p_twoOf (M := M) p8 z8 zu
      refine k_chk z8 (k_ite (fun _ => ?_) (fun _ => nz _ h5))
      rw [t1]
      refine k_chk t2 (k_ite (fun hs => k_bE (r_both hJ.1 p8 z8 zu) (fun x => k_ite (fun _ => nz _ h5) (fun _ => k_ite (fun _ => nz _ (Or.inr ⟨z8.1, z8.2, zu, zp, hs⟩)) (fun d5 => ?_)))) (fun _ => nz _ h5))
      have g5 : 0 ≤ n5 ∧ n5 < 8 ∧ ¬ (p < 4 ↔ n5 < 4) := by
        rcases h5 with e | e
        · exact absurd e d5
        · exact ⟨e.1, e.2.1, e.2.2.1⟩
      exact k_bE (r_isSooner hJ.1 p8 z8 zu ⟨g5.1, g5.2.1⟩ g5.2.2) (fun x => k_ite (fun _ => nz _ h5) (fun _ => nz _ (Or.inr ⟨z8.1, z8.2, zu, zp, hs⟩)))
theorem r_asks {R : gj_M} {w : Int} (hw : w = 0 ∨ w = 1) (h : g_RS R) (h9 : ∀ j, 0 ≤ j → j < 8 → R 119 j = -1) : ∃ N, F_X12_asks w R = some N ∧ g_HV N := by
  refine k_cps (fun P done => ?_)
  unfold F_X12_asks
  refine gj_okM2 P (fun l1 l2 M => l1 = w ∧ 0 ≤ l2 ∧ l2 ≤ 16 ∧ g_RS M ∧ ∀ j, 0 ≤ j → j < 8 → M 119 j = -1) (fun _ l2 _ => (16 - l2).toNat) ?_ gj_fu w 0 R ⟨rfl, by omega, by omega, h, h9⟩ (by show _ < 2048; omega)
  rintro rec l1 l2 M ⟨e1, a, b, hS, h9⟩ hr
  rw [e1]
  unfold B_X12_asks_2 J_X12_asks_21
  refine k_ite (fun c => by
    obtain ⟨N, e, k⟩ := r_asks23 hw ⟨hS, fun j a b => Or.inl (h9 j a b)⟩
    rw [e]
    exact done N k) (fun c => k_chk (by omega) ?_)
  rw [gj_let_s, gj_wle (by omega) (by omega)]
  exact hr _ _ _ ⟨rfl, by omega, by omega, g_RS_up hS (by unfold g_rk; decide), fun j a b => by rw [gj_up_z (by decide)]; exact h9 j a b⟩ (by omega)
