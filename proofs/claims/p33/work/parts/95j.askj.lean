/-! PURE: one side asks, side by side -/
def g_step (p : Int) (D : gj_M) : gj_M := if D 40 p = -1 then f_X2_ask p (g_pa p D) D else D
def g_rd (w : Int) (D : gj_M) : Nat → gj_M
  | 0 => D
  | n + 1 => g_step (4 * w + n) (g_rd w D n)
def g_rounds (w : Int) (D : gj_M) : Nat → gj_M
  | 0 => D
  | n + 1 => g_rd w (g_rounds w D n) 4
def g_zr (M : gj_M) : Nat := g_ct (fun t => decide (M 121 t = 0)) 16
/-- nobody has anyone left to ask -/
def g_no (w : Int) (D : gj_M) : Prop := ∀ k : Nat, k < 4 → D 40 (4 * w + k) = -1 → g_pa (4 * w + k) D = -1
theorem g_step_no {p : Int} {D : gj_M} (h : D 40 p = -1 → g_pa p D = -1) : g_step p D = D := by
  unfold g_step
  by_cases c : D 40 p = -1
  · rw [if_pos c, h c]
    unfold f_X2_ask
    rw [if_pos rfl]
  · rw [if_neg c]
theorem g_rd_no {w : Int} {D : gj_M} (h : g_no w D) : ∀ n : Nat, n ≤ 4 → g_rd w D n = D
  | 0, _ => rfl
  | n + 1, hn => by
    unfold g_rd
    rw [g_rd_no h n (by omega)]
    exact g_step_no (h n (by omega))
theorem g_rounds_fix {w : Int} {D : gj_M} {i : Nat} (h : g_rd w (g_rounds w D i) 4 = g_rounds w D i) : ∀ m : Nat, g_rounds w D (i + m) = g_rounds w D i
  | 0 => rfl
  | m + 1 => by
    show g_rd w (g_rounds w D (i + m)) 4 = _
    rw [g_rounds_fix h m, h]
/-- one asks -/
theorem p_step171 {C0 D R : gj_M} {w p m2 m3 : Int} {rec23 : Int → Int → gj_M → Option gj_M} {rec31 : Int → Int → Int → gj_M → Option gj_M} (h : g_GE C0 D R) (hs : g_GS D R) (hH : g_HS R) (p8 : 0 ≤ p ∧ p < 8) (pp : g_pe R 101 p) (hf : R 119 p = -1) (hO : ∀ j, 0 ≤ j → j < 8 → R 119 j ≠ -1 → R 120 j = 0) (ht : g_pa p D ≠ -1) :
    ∃ U, J_X12_asks_171 rec23 rec31 w m2 m3 p (g_pa p D) R = rec31 w 1 (gj_w (m3 + 1)) U ∧ g_GE C0 (f_X2_ask p (g_pa p D) D) U ∧ g_GS (f_X2_ask p (g_pa p D) D) U ∧ g_HS U ∧ g_fi U < g_fi R ∧ ((U 121 = R 121 ∧ U 119 p ≠ -1 ∧ ∀ j, 0 ≤ j → j < 8 → R 119 j ≠ -1 → U 119 j ≠ -1) ∨ g_zr U < g_zr R) ∧ U 120 = R 120 ∧ U 101 = R 101 ∧ (∀ j, 0 ≤ j → j < 8 → U 119 j ≠ -1 → U 120 j = 0) := by
  obtain ⟨t8, u, ⟨-, pz⟩, tp, ts, tz⟩ : (0 ≤ g_pa p D ∧ g_pa p D < 8) ∧ ¬ (p < 4 ↔ g_pa p D < 4) ∧ (g_pe R 101 p ∧ R 120 p = 0) ∧ g_pe R 101 (g_pa p D) ∧ D 39 (f_cpl p (g_pa p D)) = 0 ∧ R 120 (g_pa p D) = 0 := by
    rcases g_pa_ok h p8 with e | e
    · exact absurd e ht
    · exact e
  generalize g_pa p D = T at *
  obtain ⟨x1, x2⟩ := p_twoOf (M := R) p8 t8 u
  have s40 := hs.1 T t8.1 t8.2
  have rs : R 121 (f_cpl p T) = 0 := by rw [← hs.2 _ x2.1 x2.2]; exact ts
  have zr : ∀ (N : gj_M) (t : Int), 0 ≤ t → t < 16 → R 121 t = 0 → (∀ i, N 121 i = if i = t then 1 else R 121 i) → g_zr N < g_zr R := fun N t a b h0 h1 => g_ct_lt (f := fun t => decide (N 121 t = 0)) (g := fun t => decide (R 121 t = 0)) (k := t) 16 a b (fun i _ _ q => by
    simp only [decide_eq_true_eq] at q ⊢
    rw [h1] at q
    split at q
    · exact absurd q (by decide)
    · exact q) (by simp [h1]) (by simp [h0])
  have rowsU : ∀ (N : gj_M) (z i v : Int), z = 119 ∨ z = 121 → (∀ a, g_rk a → N a = R a) → N 120 = R 120 → (∀ a, g_rk a → gj_up N z i v a = R a) ∧ gj_up N z i v 120 = R 120 := fun N z i v hz h1 h2 => ⟨fun a ha => by rw [← h1 a ha]; exact funext fun _ => gj_up_z (by unfold g_rk at ha; omega), by rw [← h2]; exact funext fun _ => gj_up_z (by omega)⟩
  unfold J_X12_asks_171 J_X12_asks_237 J_X12_asks_261 f_X2_ask
  dsimp only [gj_letI]
  simp only [gj_let_s]
  rw [if_neg ht, if_neg ht, gj_chkp t8, f_at_in t8, s40]
  by_cases c : R 119 T = -1
  · rw [if_pos c, if_pos c, if_pos c, if_pos c, r_gives p8 t8, gj_bnd_s]
    unfold f_X2_tie
    simp only [gj_let_s]
    rw [if_neg ht, f_put_in p8, f_put_in t8]
    obtain ⟨q1, q2⟩ := rowsU R 119 p T (Or.inl rfl) (fun _ _ => rfl) rfl
    obtain ⟨q3, q4⟩ := rowsU _ 119 T p (Or.inl rfl) q1 q2
    refine ⟨_, rfl, g_GE_s h (funext fun _ => by rw [gj_up_z (by decide), gj_up_z (by decide)]) (funext fun _ => by rw [gj_up_z (by decide), gj_up_z (by decide)]) (funext fun _ => by rw [gj_up_z (by decide), gj_up_z (by decide)]) q3 q4, ⟨fun j a b => ?_, fun t a b => ?_⟩, g_HS_new hH p8 t8 u pp tp hf c rs, ?_, Or.inl ⟨funext fun _ => by rw [gj_up_z (by decide), gj_up_z (by decide)], ?_, fun j a b n => ?_⟩, q4, q3 101 (by unfold g_rk; omega), fun j a b n => ?_⟩
    · rw [gj_up_if, gj_up_if, gj_up_if, gj_up_if, hs.1 j a b]
    · rw [gj_up_z (by decide), gj_up_z (by decide), gj_up_z (by decide), gj_up_z (by decide)]; exact hs.2 t a b
    · refine g_fi_f (p := p) (q := T) p8.1 p8.2 hf ht ?_ (fun i a b => ?_) ?_
      · rw [gj_up_i (by omega), gj_up_eq]
      · rw [gj_up_if, gj_up_if]
        split
        · omega
        · split
          · omega
          · exact id
      · exact funext fun _ => by rw [gj_up_z (by decide), gj_up_z (by decide)]
    · rw [gj_up_i (by omega), gj_up_eq]; exact ht
    · rw [gj_up_if, gj_up_if]
      split
      · omega
      · split
        · omega
        · exact n
    · rw [q4]
      rw [gj_up_if, gj_up_if] at n
      by_cases y1 : j = T
      · rw [y1]; exact tz
      · rw [if_neg y1] at n
        by_cases y2 : j = p
        · rw [y2]; exact pz
        · rw [if_neg y2] at n
          exact hO j a b n
  · obtain ⟨⟨w0, w8, wo, wp⟩, wb, ws⟩ : (0 ≤ R 119 T ∧ R 119 T < 8 ∧ (T < 4 ↔ ¬ R 119 T < 4) ∧ g_pe R 101 (R 119 T)) ∧ R 119 (R 119 T) = T ∧ R 121 (f_cpl (R 119 T) T) = 0 := by
      rcases hH T t8.1 t8.2 with e | e
      · exact absurd e c
      · exact e
    have wne : R 119 T ≠ p := fun e => by rw [e] at wb; omega
    rw [if_neg c, p_soonerE h t8 p8 (by omega) ⟨w0, w8⟩ (by omega), gj_bnd_s]
    simp only [if_neg c]
    by_cases c2 : f_X2_soonerOf T p (R 119 T) D = 0
    · rw [if_pos c2, if_pos c2, x1, gj_chkp x2, f_put_in x2]
      obtain ⟨q1, q2⟩ := rowsU R 121 (f_cpl p T) 1 (Or.inr rfl) (fun _ _ => rfl) rfl
      refine ⟨_, rfl, g_GE_s h (funext fun _ => gj_up_z (by decide)) (funext fun _ => gj_up_z (by decide)) (funext fun _ => gj_up_z (by decide)) q1 q2, ⟨fun j a b => ?_, fun t a b => ?_⟩, g_HS_no hH p8 t8 u (by omega), g_fi_z x2.1 x2.2 rs (fun i => gj_up_if), Or.inr (zr _ _ x2.1 x2.2 rs (fun i => gj_up_if)), q2, q1 101 (by unfold g_rk; omega), fun j a b n => by rw [q2]; rw [gj_up_z (by decide)] at n; exact hO j a b n⟩
      · rw [gj_up_z (by decide), gj_up_z (by decide)]; exact hs.1 j a b
      · rw [gj_up_if, gj_up_if, hs.2 t a b]
    · obtain ⟨y1, y2⟩ := p_twoOf (M := gj_up R 119 (R 119 T) (-1)) ⟨w0, w8⟩ t8 (by omega)
      rw [if_neg c2, if_neg c2, gj_chkp ⟨w0, w8⟩, y1, gj_chkp y2]
      generalize hwas : R 119 T = was at *
      rw [r_gives p8 t8, gj_bnd_s]
      unfold f_X2_tie
      simp only [gj_let_s]
      rw [if_neg ht, f_put_in y2, f_put_in ⟨w0, w8⟩, f_put_in p8, f_put_in t8]
      obtain ⟨q1, q2⟩ := rowsU R 119 was (-1) (Or.inl rfl) (fun _ _ => rfl) rfl
      obtain ⟨q3, q4⟩ := rowsU _ 121 (f_cpl was T) 1 (Or.inr rfl) q1 q2
      obtain ⟨q5, q6⟩ := rowsU _ 119 p T (Or.inl rfl) q3 q4
      obtain ⟨q7, q8'⟩ := rowsU _ 119 T p (Or.inl rfl) q5 q6
      have v121 : ∀ i, gj_up (gj_up (gj_up (gj_up R 119 was (-1)) 121 (f_cpl was T) 1) 119 p T) 119 T p 121 i = if i = f_cpl was T then 1 else R 121 i := fun i => by
        rw [gj_up_z (by decide), gj_up_z (by decide), gj_up_if, gj_up_z (by decide)]
      refine ⟨_, rfl, g_GE_s h (funext fun _ => by rw [gj_up_z (by decide), gj_up_z (by decide), gj_up_z (by decide), gj_up_z (by decide)]) (funext fun _ => by rw [gj_up_z (by decide), gj_up_z (by decide), gj_up_z (by decide), gj_up_z (by decide)]) (funext fun _ => by rw [gj_up_z (by decide), gj_up_z (by decide), gj_up_z (by decide), gj_up_z (by decide)]) q7 q8', ⟨fun j a b => ?_, fun t a b => ?_⟩, ?_, g_fi_z y2.1 y2.2 ws v121, Or.inr (zr _ _ y2.1 y2.2 ws v121), q8', q7 101 (by unfold g_rk; omega), fun j a b n => ?_⟩
      · rw [gj_up_if, gj_up_if, gj_up_if, gj_up_z (by decide), gj_up_if, gj_up_if, gj_up_z (by decide), gj_up_if, hs.1 j a b]
      · rw [v121, gj_up_z (by decide), gj_up_z (by decide), gj_up_z (by decide), gj_up_if, hs.2 t a b]
      · have a1 := g_HS_off (w := was) (q := T) hH ⟨w0, w8⟩ t8 wb
        have a2 := g_HS_no (p := was) (q := T) a1 ⟨w0, w8⟩ t8 (by omega) (by rw [gj_up_if, gj_up_if]; split <;> omega)
        have a3 := g_HS_new (p := p) (q := T) a2 p8 t8 u ((g_pe_s (funext fun _ => by rw [gj_up_z (by decide), gj_up_z (by decide), gj_up_z (by decide)])).mpr pp) ((g_pe_s (funext fun _ => by rw [gj_up_z (by decide), gj_up_z (by decide), gj_up_z (by decide)])).mpr tp) (by rw [gj_up_z (by decide), gj_up_i (by omega), gj_up_i (by omega)]; exact hf) (by rw [gj_up_z (by decide), gj_up_eq]) (by
          rw [gj_up_i (fun e => ?_), gj_up_z (by decide), gj_up_z (by decide)]
          · exact rs
          · rcases g_cpl_inj p8 t8 u ⟨w0, w8⟩ t8 (by omega) e with ⟨e1, -⟩ | ⟨e1, e2⟩ <;> omega)
        have e : gj_up (gj_up (gj_up (gj_up (gj_up R 119 was (-1)) 119 T (-1)) 121 (f_cpl was T) 1) 119 p T) 119 T p = gj_up (gj_up (gj_up (gj_up R 119 was (-1)) 121 (f_cpl was T) 1) 119 p T) 119 T p := by
          funext a b
          unfold gj_up
          by_cases c1 : a = 119 ∧ b = T
          · rw [if_pos c1, if_pos c1]
          · rw [if_neg c1, if_neg c1, if_neg c1]
        rw [e] at a3
        exact a3
      · rw [q8']
        rw [gj_up_if, gj_up_if, gj_up_z (by decide), gj_up_if] at n
        by_cases z1 : j = T
        · rw [z1]; exact tz
        · rw [if_neg z1] at n
          by_cases z2 : j = p
          · rw [z2]; exact pz
          · rw [if_neg z2] at n
            by_cases z3 : j = was
            · rw [if_pos z3] at n; exact absurd rfl n
            · rw [if_neg z3] at n
              exact hO j a b n
theorem g_pa_s {p : Int} {D E : gj_M} (p8 : 0 ≤ p ∧ p < 8) (h36 : E 36 = D 36) (h37 : E 37 = D 37) (h38 : E 38 = D 38) (h39 : ∀ t, 0 ≤ t → t < 16 → E 39 t = D 39 t) : g_pa p E = g_pa p D := by
  unfold g_pa
  refine g_pk_s h36 (fun k a b => ?_) (g_fu 0) 0 (-1) (by omega)
  obtain ⟨q8, u, -, -⟩ := g_qq_ok (k := k) p8 ⟨a, b⟩
  obtain ⟨-, t2⟩ := p_twoOf (M := D) p8 q8 u
  unfold g_oa f_X2_canMeet f_at
  rw [h37, h38, h39 _ t2.1 t2.2]
/-- the rows that the asking reads and leaves -/
def g_EQ (D E : gj_M) : Prop := E 36 = D 36 ∧ E 37 = D 37 ∧ E 38 = D 38
theorem g_EQ_ask {p T : Int} {D : gj_M} : g_EQ D (f_X2_ask p T D) := by
  have f := fr_X2_ask p T (M := D)
  exact ⟨g_fr_row [36] f (by decide) 36 rfl (by decide), g_fr_row [37] f (by decide) 37 rfl (by decide), g_fr_row [38] f (by decide) 38 rfl (by decide)⟩
theorem p_asksJ {C0 D0 R0 : gj_M} {w : Int} (hw : w = 0 ∨ w = 1) (h0 : g_GE C0 D0 R0) (hs0 : g_GS D0 R0) (hH0 : g_HS R0) (hO0 : ∀ j, 0 ≤ j → j < 8 → R0 119 j ≠ -1 → R0 120 j = 0) : ∃ N, gj_it (fun _ _ _ => none) B_X12_asks_23 gj_fu w 1 R0 = some N ∧ (g_GS (g_rounds w D0 17) N ∧ g_HS N ∧ (∀ j, 0 ≤ j → j < 8 → N 119 j ≠ -1 → N 120 j = 0) ∧ N 120 = R0 120) := by
  refine k_cps (fun P done => ?_)
  refine gj_okM2 P (fun l1 l2 M => l1 = w ∧ ∃ i : Nat, g_GE C0 (g_rounds w D0 i) M ∧ g_GS (g_rounds w D0 i) M ∧ g_HS M ∧ ((∀ j, 0 ≤ j → j < 8 → M 119 j ≠ -1 → M 120 j = 0) ∧ M 120 = R0 120) ∧ ((l2 = 1 ∧ (i + g_zr M ≤ 16 ∨ (i + g_zr M ≤ 17 ∧ g_no w (g_rounds w D0 i)))) ∨ (l2 = 0 ∧ i ≤ 17 ∧ g_rd w (g_rounds w D0 i) 4 = g_rounds w D0 i))) (fun _ l2 M => 2 * g_fi M + l2.toNat) ?_ gj_fu w 1 R0 ⟨rfl, 0, h0, hs0, hH0, ⟨hO0, rfl⟩, Or.inl ⟨rfl, Or.inl ?_⟩⟩ ?_
  · rintro rec l1 l2 M0 ⟨e1, i, hE, hS, hH, ⟨hO, h120⟩, hcase⟩ hr
    rw [e1]
    unfold B_X12_asks_23
    rcases hcase with ⟨e2, hi⟩ | ⟨e2, hi, hfix⟩
    · rw [e2, if_neg (by decide)]
      rw [e2] at hr
      -- one round
      refine gj_okM3 P (fun m1 m2 m3 M => m1 = w ∧ 0 ≤ m3 ∧ m3 ≤ 4 ∧ g_GE C0 (g_rd w (g_rounds w D0 i) m3.toNat) M ∧ g_GS (g_rd w (g_rounds w D0 i) m3.toNat) M ∧ g_HS M ∧ (∀ j, 0 ≤ j → j < 8 → M 119 j ≠ -1 → M 120 j = 0) ∧ M 120 = M0 120 ∧ M 101 = M0 101 ∧ ((m2 = 0 ∧ M = M0 ∧ g_rd w (g_rounds w D0 i) m3.toNat = g_rounds w D0 i) ∨ (m2 = 1 ∧ g_fi M < g_fi M0 ∧ ¬ g_no w (g_rounds w D0 i))) ∧ (g_zr M < g_zr M0 ∨ (M 121 = M0 121 ∧ ∀ k : Nat, k < m3 → M 119 (4 * w + k) = -1 → g_pa (4 * w + k) (g_rd w (g_rounds w D0 i) m3.toNat) = -1))) (fun _ _ m3 _ => (4 - m3).toNat) ?_ gj_fu w 0 0 M0 ⟨rfl, by omega, by omega, hE, hS, hH, hO, rfl, rfl, Or.inl ⟨rfl, rfl, rfl⟩, Or.inr ⟨rfl, fun k a => by omega⟩⟩ (by show _ < 2048; omega)
      rintro rec31 m1 m2 m3 M ⟨f1, m30, m34, gE, gS, gH, gO, g120, g101, hm, hz⟩ hr31
      rw [f1]
      have hSR : g_RS M := ⟨C0, gE.1, gE.2.1⟩
      have hb := hSR.bs hw
      -- beyond the persons nothing happens
      have skip : ∀ k : Nat, M 101 w ≤ k → k < 4 → g_pa (4 * w + k) (g_rd w (g_rounds w D0 i) m3.toNat) = -1 := fun k a b => by
        rcases g_pa_ok gE (p := 4 * w + k) (by omega) with e | ⟨-, -, ⟨pe, -⟩, -⟩
        · exact e
        · exfalso
          unfold g_pe at pe
          rcases hw with e | e <;> rw [e] at pe a <;> omega
      unfold B_X12_asks_31 J_X12_asks_267 J_X12_asks_261
      rw [gj_chkp (by omega)]
      by_cases c : M 101 w ≤ m3
      · rw [if_pos c]
        -- the round's end
        have stay : ∀ n : Nat, m3.toNat ≤ n → n ≤ 4 → g_rd w (g_rounds w D0 i) n = g_rd w (g_rounds w D0 i) m3.toNat := by
          intro n
          induction n with
          | zero => intro a b; rw [show m3.toNat = 0 by omega]
          | succ n ih =>
            intro a b
            by_cases q : m3.toNat = n + 1
            · rw [q]
            · have e := ih (by omega) (by omega)
              show g_step (4 * w + n) (g_rd w (g_rounds w D0 i) n) = _
              rw [e]
              exact g_step_no (fun _ => skip n (by omega) (by omega))
        have end4 := stay 4 (by omega) (by omega)
        rcases hm with ⟨x1, x2, x3⟩ | ⟨x1, x2, x3⟩
        · rw [x1]
          refine hr w 0 M ⟨rfl, i, ?_, ?_, gH, ⟨gO, by rw [g120]; exact h120⟩, Or.inr ⟨rfl, ?_, ?_⟩⟩ ?_
          · rw [← x3]; exact gE
          · rw [← x3]; exact gS
          · rcases hi with y | ⟨y, -⟩
            · omega
            · omega
          · rw [end4, x3]
          · rw [x2]
            show 2 * g_fi M0 + 0 < 2 * g_fi M0 + 1
            omega
        · rw [x1]
          have hi : i + g_zr M0 ≤ 16 := by
            rcases hi with y | ⟨-, y⟩
            · exact y
            · exact absurd y x3
          have eR : g_rounds w D0 (i + 1) = g_rd w (g_rounds w D0 i) m3.toNat := end4
          refine hr w 1 M ⟨rfl, i + 1, ?_, ?_, gH, ⟨gO, by rw [g120]; exact h120⟩, Or.inl ⟨rfl, ?_⟩⟩ ?_
          · rw [eR]; exact gE
          · rw [eR]; exact gS
          · rcases hz with z | ⟨z1, z2⟩
            · left; omega
            · right
              have ez : g_zr M = g_zr M0 := by unfold g_zr; rw [z1]
              refine ⟨by omega, fun k k4 hf => ?_⟩
              rw [eR] at hf ⊢
              by_cases q : M 101 w ≤ k
              · exact skip k q k4
              · rw [gS.1 _ (by omega) (by omega)] at hf
                exact z2 k (by omega) hf
          · show 2 * g_fi M + 1 < 2 * g_fi M0 + 1
            omega
      · rw [if_neg c]
        dsimp only [gj_letI]
        have ep : gj_w (gj_w (4 * w) + m3) = 4 * w + (m3.toNat : Int) := by unfold gj_w; omega
        rw [ep]
        have p8 : 0 ≤ 4 * w + (m3.toNat : Int) ∧ 4 * w + (m3.toNat : Int) < 8 := by omega
        have pp : g_pe M 101 (4 * w + (m3.toNat : Int)) := by
          unfold g_pe
          rcases hw with e | e <;> rw [e] at c hb ⊢ <;> omega
        have nxD : ∀ E : gj_M, g_step (4 * w + (m3.toNat : Int)) (g_rd w (g_rounds w D0 i) m3.toNat) = E → g_rd w (g_rounds w D0 i) (m3 + 1).toNat = E := fun E hE => by
          rw [show (m3 + 1).toNat = m3.toNat + 1 by omega]
          exact hE
        have o01 := gE.2.2.2.2 _ p8.1 p8.2
        have s40 := gS.1 _ p8.1 p8.2
        generalize hp : 4 * w + (m3.toNat : Int) = p at *
        -- nothing happens for p
        have quiet : g_step p (g_rd w (g_rounds w D0 i) m3.toNat) = g_rd w (g_rounds w D0 i) m3.toNat → (M 119 p = -1 → g_pa p (g_rd w (g_rounds w D0 i) m3.toNat) = -1) → P (rec31 w m2 (gj_w (m3 + 1)) M) := by
          intro hst hpa
          rw [gj_wle (by omega) (by omega)]
          have e := nxD _ hst
          refine hr31 w m2 (m3 + 1) M ⟨rfl, by omega, by omega, by rw [e]; exact gE, by rw [e]; exact gS, gH, gO, g120, g101, by rw [e]; exact hm, ?_⟩ (by omega)
          rw [e]
          rcases hz with z | ⟨z1, z2⟩
          · exact Or.inl z
          · refine Or.inr ⟨z1, fun k hk hf => ?_⟩
            by_cases q : (k : Int) < m3
            · exact z2 k q hf
            · have ek : 4 * w + (k : Int) = p := by omega
              rw [ek] at hf ⊢
              exact hpa hf
        rw [gj_chkp p8]
        by_cases c1 : M 120 p = 1
        · have pa : g_pa p (g_rd w (g_rounds w D0 i) m3.toNat) = -1 := by
            rcases g_pa_ok gE p8 with e | ⟨-, -, ⟨-, po⟩, -⟩
            · exact e
            · omega
          rw [if_pos c1]
          exact quiet (g_step_no (fun _ => pa)) (fun _ => pa)
        · rw [if_neg c1, gj_chkp p8]
          by_cases c2 : M 119 p = -1
          · rw [if_pos c2, p_pick81 hw gE gS (by omega) pp (by omega)]
            by_cases c3 : g_pa p (g_rd w (g_rounds w D0 i) m3.toNat) = -1
            · unfold J_X12_asks_171 J_X12_asks_261
              rw [if_pos c3]
              exact quiet (g_step_no (fun _ => c3)) (fun _ => c3)
            · obtain ⟨U, e3, uE, uS, uH, uf, uz, u120, u101, uO⟩ := p_step171 (w := w) (m2 := m2) (m3 := m3) (rec23 := rec) (rec31 := rec31) gE gS gH p8 pp c2 gO c3
              have st : g_step p (g_rd w (g_rounds w D0 i) m3.toNat) = f_X2_ask p (g_pa p (g_rd w (g_rounds w D0 i) m3.toNat)) (g_rd w (g_rounds w D0 i) m3.toNat) := by
                unfold g_step
                rw [if_pos (by rw [s40]; exact c2)]
              have e := nxD _ st
              rw [e3, gj_wle (by omega) (by omega)]
              have lt : g_fi U < g_fi M0 := by
                rcases hm with ⟨-, x2, -⟩ | ⟨-, x2, -⟩
                · rw [x2] at uf; exact uf
                · omega
              have nn : ¬ g_no w (g_rounds w D0 i) := by
                rcases hm with ⟨-, x2, x3⟩ | ⟨-, -, x3⟩
                · intro q
                  rw [x3] at c3 s40
                  have := q m3.toNat (by omega)
                  rw [hp] at this
                  exact c3 (this (by rw [s40]; exact c2))
                · exact x3
              refine hr31 w 1 (m3 + 1) U ⟨rfl, by omega, by omega, by rw [e]; exact uE, by rw [e]; exact uS, uH, uO, by rw [u120]; exact g120, by rw [u101]; exact g101, Or.inr ⟨rfl, lt, nn⟩, ?_⟩ (by omega)
              rw [e]
              rcases uz with ⟨v1, v2, v3⟩ | v
              · rcases hz with z | ⟨z1, z2⟩
                · left
                  have : g_zr U = g_zr M := by unfold g_zr; rw [v1]
                  omega
                · refine Or.inr ⟨by rw [v1, z1], fun k hk hf => ?_⟩
                  have k8 : 0 ≤ 4 * w + (k : Int) ∧ 4 * w + (k : Int) < 8 := by omega
                  by_cases q : (k : Int) < m3
                  · have old : M 119 (4 * w + k) = -1 := by
                      by_cases y : M 119 (4 * w + k) = -1
                      · exact y
                      · exact absurd hf (v3 _ k8.1 k8.2 y)
                    obtain ⟨x36, x37, x38⟩ := g_EQ_ask (p := p) (T := g_pa p (g_rd w (g_rounds w D0 i) m3.toNat)) (D := g_rd w (g_rounds w D0 i) m3.toNat)
                    rw [g_pa_s k8 x36 x37 x38 (fun t a b => by rw [uS.2 t a b, v1, gS.2 t a b])]
                    exact z2 k q old
                  · have ek : 4 * w + (k : Int) = p := by omega
                    rw [ek] at hf
                    exact absurd hf v2
              · left
                rcases hz with z | ⟨z1, -⟩
                · omega
                · have : g_zr M = g_zr M0 := by unfold g_zr; rw [z1]
                  omega
          · rw [if_neg c2]
            exact quiet (by unfold g_step; rw [if_neg (by rw [s40]; exact c2)]) (fun q => absurd q c2)
    · rw [e2, if_pos rfl]
      have e17 := g_rounds_fix hfix (17 - i)
      rw [show i + (17 - i) = 17 by omega] at e17
      exact done M0 ⟨by rw [e17]; exact hS, hH, hO, h120⟩
  · have := g_ct_n (f := fun t => decide (R0 121 t = 0)) 16
    show 0 + g_zr R0 ≤ 16
    unfold g_zr
    omega
  · have a1 := g_ct_n (f := fun t => decide (R0 121 t = 0)) 16
    have a2 := g_ct_n (f := fun j => decide (R0 119 j = -1)) 8
    show 2 * g_fi R0 + 1 < 2048
    unfold g_fi
    omega
/-- the class's rounds -/
theorem p_askAll {D : gj_M} {w : Int} (hw : w = 0 ∨ w = 1) : F_X2_askAll (4 * w) D = some (g_rounds w D 17) := by
  unfold F_X2_askAll
  refine gj_okM2 (fun y => y = some (g_rounds w D 17)) (fun l1 l2 K => l1 = 4 * w ∧ 0 ≤ l2 ∧ l2 ≤ 17 ∧ K = g_rounds w D l2.toNat) (fun _ l2 _ => (17 - l2).toNat) ?_ gj_fu (4 * w) 0 D ⟨rfl, by omega, by omega, rfl⟩ (by show _ < 2048; omega)
  rintro rec l1 l2 K ⟨e1, a, b, eK⟩ hr
  rw [e1, eK]
  unfold B_X2_askAll_2
  by_cases c : 16 < l2
  · rw [if_pos c, show l2.toNat = 17 by omega]
  · rw [if_neg c]
    refine gj_okM3 (fun y => y = some (g_rounds w D 17)) (fun m1 m2 m3 N => m1 = 4 * w ∧ m2 = l2 ∧ 4 * w ≤ m3 ∧ m3 ≤ 4 * w + 4 ∧ N = g_rd w (g_rounds w D l2.toNat) (m3 - 4 * w).toNat) (fun _ _ m3 _ => (4 * w + 4 - m3).toNat) ?_ gj_fu (4 * w) l2 (4 * w) _ ⟨rfl, rfl, by omega, by omega, by rw [show (4 * w - 4 * w).toNat = 0 by omega]; rfl⟩ (by show _ < 2048; omega)
    rintro rec10 m1 m2 m3 N ⟨f1, f2, x, y, eN⟩ hr10
    rw [f1, f2]
    unfold B_X2_askAll_10 J_X2_askAll_45 J_X2_askAll_39
    rw [gj_wle (x := 4 * w + 4) (by omega) (by omega), gj_wle (x := l2 + 1) (by omega) (by omega), gj_wle (x := m3 + 1) (by omega) (by omega)]
    by_cases d : 4 * w + 4 ≤ m3
    · rw [if_pos d]
      refine hr _ _ _ ⟨rfl, by omega, by omega, ?_⟩ (by omega)
      rw [eN, show (m3 - 4 * w).toNat = 4 by omega, show (l2 + 1).toNat = l2.toNat + 1 by omega]
      rfl
    · have p8 : 0 ≤ m3 ∧ m3 < 8 := by omega
      have nxt : g_rd w (g_rounds w D l2.toNat) (m3 + 1 - 4 * w).toNat = g_step m3 N := by
        rw [show (m3 + 1 - 4 * w).toNat = (m3 - 4 * w).toNat + 1 by omega, eN]
        show g_step (4 * w + ((m3 - 4 * w).toNat : Nat)) _ = _
        rw [show 4 * w + (((m3 - 4 * w).toNat : Nat) : Int) = m3 by omega]
      rw [if_neg d, f_at_in p8]
      by_cases e : N 40 m3 = -1
      · rw [if_pos e, p_soonest p8, gj_bnd_s, gj_let_s]
        refine hr10 _ _ _ _ ⟨rfl, rfl, by omega, by omega, ?_⟩ (by omega)
        rw [nxt]
        unfold g_step
        rw [if_pos e]
      · rw [if_neg e]
        refine hr10 _ _ _ _ ⟨rfl, rfl, by omega, by omega, ?_⟩ (by omega)
        rw [nxt]
        unfold g_step
        rw [if_neg e]
