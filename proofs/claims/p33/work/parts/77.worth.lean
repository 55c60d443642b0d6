/-! PURE: the reference reckons; safe -/
def g_LW (s : Int) (M : gj_M) : Prop := g_RS M ∧ M 79 35 = s ∧ g_KS s M
theorem g_LW_38 {s x : Int} {M : gj_M} (h : g_LW s M) : g_LW s (gj_up M 79 38 x) := by
  refine ⟨g_RS_up h.1 (by unfold g_rk; decide), ?_, fun k a b => ?_⟩
  · rw [gj_up_i (by decide)]; exact h.2.1
  · rw [gj_up_z (by decide)] at b
    rw [gj_up_z (by decide), gj_up_z (by decide)]
    exact h.2.2 k a b
theorem g_LW_k {s z i v : Int} {M : gj_M} (h : g_LW s M) (hz : z = 115 ∨ z = 116) (hv : 0 ≤ v ∧ v ≤ 4) : g_LW s (gj_up M z i v) := by
  refine ⟨g_RS_up h.1 (by unfold g_rk; omega), ?_, fun k a b => ?_⟩
  · rw [gj_up_z (by omega)]; exact h.2.1
  · rw [gj_up_z (by omega)] at b
    have := h.2.2 k a b
    unfold g_K at *
    rcases hz with e | e <;> rw [e]
    · rw [gj_up_if, gj_up_z (by decide)]
      split <;> omega
    · rw [gj_up_if, gj_up_z (by decide)]
      split <;> omega
theorem g_rest {M : gj_M} {z i v x : Int} (h : z ≠ 79) : gj_up (gj_up (gj_up M z i v) 79 38 x) z i (M z i) = gj_up M 79 38 x := by
  funext a b
  unfold gj_up
  by_cases c : a = z ∧ b = i
  · rw [if_pos c, if_neg (by omega), c.1, c.2]
  · rw [if_neg c, if_neg c]
theorem g_min4 {a : Int} (h : 0 ≤ a ∧ a ≤ 4) : 0 ≤ f_min 4 (gj_w (a + 1)) ∧ f_min 4 (gj_w (a + 1)) ≤ 4 := by
  unfold f_min
  rw [gj_wle (by omega) (by omega)]
  split <;> omega
def g_av (s k : Int) (M : gj_M) : Prop := k = -1 ∨ (0 ≤ k ∧ k < M 101 (g_ot s))
theorem r_with {rec : Int → Int → Int → gj_M → Option (Int × gj_M)} {s k on n : Int} {M : gj_M} (hrec : ∀ (k on : Int) (M : gj_M), g_LW s M → g_av s k M → ∃ v x, rec k on (gj_w (n - 1)) M = some (v, gj_up M 79 38 x)) (h : g_LW s M) (hk : 0 ≤ k ∧ k < M 101 (g_ot s)) : ∃ v x, F_X12_with rec k on n M = some (v, gj_up M 79 38 x) := by
  have hb := h.1.bs (g_ot_01 (s := s))
  have kk := h.2.2 k hk.1 hk.2
  have core : ∀ w g v : Int, ∃ v' x, J_X12_with_66 rec k on n g v w M = some (v', gj_up M 79 38 x) := by
    intro w g v
    unfold J_X12_with_66
    have h1 : g_LW s (gj_up M 115 k (f_min 4 (gj_w (M 115 k + 1)))) := g_LW_k h (Or.inl rfl) (g_min4 kk.1)
    obtain ⟨v1, x1, e1⟩ := hrec k (gj_w (on + 1)) _ h1 (Or.inr (by rw [gj_up_z (by decide)]; exact hk))
    have h2 : g_LW s (gj_up (gj_up M 79 38 x1) 116 k (f_min 4 (gj_w (M 116 k + 1)))) := g_LW_k (g_LW_38 h) (Or.inr rfl) (g_min4 kk.2)
    obtain ⟨v2, x2, e2⟩ := hrec k (gj_w (on + 1)) _ h2 (Or.inr (by rw [gj_up_z (by decide), gj_up_z (by decide)]; exact hk))
    rw [gj_chkp (by omega), gj_chkp (by omega), gj_chkp (by omega), gj_let_s, e1, gj_bnd2_s, gj_chkp (by omega), gj_let_s, g_rest (by decide), gj_chkp (by omega), gj_let_s, e2, gj_bnd2_s]
    dsimp only [gj_letI]
    rw [gj_chkp (by omega), gj_let_s]
    have e3 := g_rest (M := gj_up M 79 38 x1) (z := 116) (i := k) (v := f_min 4 (gj_w (M 116 k + 1))) (x := x2) (by decide)
    rw [show gj_up M 79 38 x1 116 k = M 116 k from gj_up_z (by decide), gj_up_up] at e3
    rw [e3]
    exact ⟨_, _, rfl⟩
  unfold F_X12_with
  dsimp only [gj_letI]
  unfold g_K at kk
  rw [gj_chkp (by omega), gj_chkp (by omega), show gj_w (gj_w (gj_w (25 * k) + gj_w (5 * M 115 k)) + M 116 k) = 25 * k + 5 * M 115 k + M 116 k by unfold gj_w; omega, gj_chkp (by omega), gj_chkp (by omega)]
  split
  · exact core _ _ _
  · exact core _ _ _
theorem r_by {rec : Int → Int → Int → gj_M → Option (Int × gj_M)} {s k on n act : Int} {M : gj_M} (s8 : 0 ≤ s ∧ s < 8) (hrec : ∀ (k on : Int) (M : gj_M), g_LW s M → g_av s k M → ∃ v x, rec k on (gj_w (n - 1)) M = some (v, gj_up M 79 38 x)) (h : g_LW s M) (hk : g_av s act M) : ∃ v x, F_X12_by rec k on n act M = some (v, gj_up M 79 38 x) := by
  have core : ∀ w : Int, ∃ v x, J_X12_by_23 rec k on n act w M = some (v, gj_up M 79 38 x) := by
    intro w
    unfold J_X12_by_23
    by_cases c : act = -1
    · obtain ⟨v, x, e⟩ := hrec (-1) 0 M h (Or.inl rfl)
      rw [if_pos c, h.2.1, gj_chkp s8, e]
      exact ⟨_, _, rfl⟩
    · have hk : 0 ≤ act ∧ act < M 101 (g_ot s) := by
        rcases hk with e | e
        · exact absurd e c
        · exact e
      rw [if_neg c]
      split
      · obtain ⟨v, x, e⟩ := r_with (on := on) hrec h hk
        rw [e]
        exact ⟨_, _, rfl⟩
      · obtain ⟨v, x, e⟩ := r_with (on := 0) hrec h hk
        rw [e]
        exact ⟨_, _, rfl⟩
  unfold F_X12_by
  (repeat' split) <;> exact core _
theorem r_worth {s : Int} (s8 : 0 ≤ s ∧ s < 8) : ∀ (f : Nat) (k on n : Int) (M : gj_M), 0 ≤ n → n < f → n ≤ 6 → g_LW s M → g_av s k M → ∃ v x, F_X12_worthN f k on n M = some (v, gj_up M 79 38 x)
  | 0, k, on, n, M, h0, h1, _, _, _ => absurd h1 (by omega)
  | f + 1, k, on, n, M, h0, h1, h6, h, hk => by
    unfold F_X12_worthN
    rw [gj_it_s]
    have hrec0 : ∀ (k on : Int) (M : gj_M), n ≠ 0 → g_LW s M → g_av s k M → ∃ v x, gj_it (fun _ _ _ _ => none) F_X12_worth f k on (gj_w (n - 1)) M = some (v, gj_up M 79 38 x) := fun k on M hn h hk => r_worth s8 f k on (gj_w (n - 1)) M (by unfold gj_w; omega) (by unfold gj_w; omega) (by unfold gj_w; omega) h hk
    generalize gj_it (fun _ _ _ _ => none) F_X12_worth f = W at *
    unfold F_X12_worth
    by_cases c : n = 0
    · rw [if_pos c]
      exact ⟨0, M 79 38, by rw [gj_up_id]⟩
    · rw [if_neg c]
      have hrec : ∀ (k on : Int) (M : gj_M), g_LW s M → g_av s k M → ∃ v x, W k on (gj_w (n - 1)) M = some (v, gj_up M 79 38 x) := fun k on M h hk => hrec0 k on M c h hk
      obtain ⟨v, x, e⟩ := r_by (k := k) (on := on) s8 hrec h hk
      rw [e, gj_bnd2_s]
      have core : ∀ l4 l5 l6 : Int, -1 ≤ l6 → l6 ≤ 4 → ∃ v' x', J_X12_worth_29 W k on n l4 l5 l6 (gj_up M 79 38 x) = some (v', gj_up M 79 38 x') := by
        intro l4 l5 l6 a6 b6
        suffices hh : ∀ P : Option (Int × gj_M) → Prop, (∀ v' x', P (some (v', gj_up M 79 38 x'))) → P (J_X12_worth_29 W k on n l4 l5 l6 (gj_up M 79 38 x)) from hh (fun y => ∃ v' x', y = some (v', gj_up M 79 38 x')) (fun v' x' => ⟨v', x', rfl⟩)
        intro P done
        unfold J_X12_worth_29
        refine gj_okM6 P (fun m1 m2 m3 _ _ m6 N => m1 = k ∧ m2 = on ∧ m3 = n ∧ -1 ≤ m6 ∧ m6 ≤ 4 ∧ ∃ x', N = gj_up M 79 38 x') (fun _ _ _ _ _ m6 _ => (4 - m6).toNat) ?_ gj_fu k on n l4 l5 l6 _ ⟨rfl, rfl, rfl, a6, b6, x, rfl⟩ (by show _ < 2048; omega)
        rintro rec m1 m2 m3 m4 m5 m6 N ⟨e1, e2, e3, q0, q4, x', eN⟩ hr
        rw [e1, e2, e3, eN]
        have hN : g_LW s (gj_up M 79 38 x') := g_LW_38 h
        have hb := hN.1.bs (g_ot_01 (s := s))
        unfold B_X12_worth_31 F_X12_othersMany J_X12_worth_99 J_X12_worth_93
        rw [hN.2.1, g_ot_e s8]
        have h01 := g_ot_01 (s := s)
        rw [gj_chkp (by omega), gj_bnd_s]
        rw [show gj_w (m6 + 1) = m6 + 1 from gj_wle (by omega) (by omega)]
        refine k_ite (fun d => ?_) (fun d => ?_)
        · rw [gj_let_s, gj_up_up]
          exact done _ _
        · have nx : ∀ a b : Int, ∀ x'' : Int, P (rec k on n a b (m6 + 1) (gj_up M 79 38 x'')) := fun a b x'' => hr k on n a b (m6 + 1) _ ⟨rfl, rfl, rfl, by omega, by omega, x'', rfl⟩ (by omega)
          have bb : ∃ v x'', F_X12_by W k on n m6 (gj_up M 79 38 x') = some (v, gj_up M 79 38 x'') := by
            obtain ⟨v, x'', e⟩ := r_by (k := k) (on := on) (act := m6) s8 hrec hN (by unfold g_av; omega)
            rw [gj_up_up] at e
            exact ⟨v, x'', e⟩
          obtain ⟨bv, bx, be⟩ := bb
          refine k_ite (fun d1 => nx _ _ _) (fun d1 => k_ite (fun d2 => ?_) (fun d2 => k_ite (fun d3 => nx _ _ _) (fun d3 => ?_)))
          · rw [be, gj_bnd2_s]
            split <;> exact nx _ _ _
          · rw [be, gj_bnd2_s]
            split <;> exact nx _ _ _
      split
      · exact core _ _ _ (by omega) (by omega)
      · exact core _ _ _ (by omega) (by omega)
