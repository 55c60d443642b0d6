/-! PURE: by lot, side by side -/
theorem g_landB {x : Int} : 0 ≤ gj_land x 2147483647 ∧ gj_land x 2147483647 < 2147483648 := by
  unfold gj_land
  have h : (Int64.ofInt x &&& Int64.ofInt 2147483647).toInt = (((x % 18446744073709551616).toNat % 2147483648 : Nat) : Int) := by
    rw [← Int64.toInt_toBitVec, Int64.toBitVec_and, Int64.toBitVec_ofInt, Int64.toBitVec_ofInt]
    have e : (BitVec.ofInt 64 x &&& BitVec.ofInt 64 2147483647).toNat = (x % 18446744073709551616).toNat % 2147483648 := by
      rw [BitVec.toNat_and, BitVec.toNat_ofInt, show (BitVec.ofInt 64 2147483647).toNat = 2 ^ 31 - 1 from rfl, Nat.and_two_pow_sub_one_eq_mod]
      rfl
    rw [BitVec.toInt_eq_toNat_of_lt (by rw [e]; omega), e]
  rw [h]
  omega
/-- the next lot -/
def g_lx (x : Int) : Int := gj_land (gj_wl (gj_wl (x * 1103515245) + 12345)) 2147483647
theorem g_lxB {x : Int} : 0 ≤ g_lx x ∧ g_lx x < 2147483648 := g_landB
theorem p_lotC {C : gj_M} {n : Int} (hn : 0 < n) : F_X3_lot n C = some (g_lx (C 21 2) / 256 % n, gj_up C 21 2 (g_lx (C 21 2))) := by
  have b := g_lxB (x := C 21 2)
  unfold F_X3_lot
  rw [show gj_land (gj_wl (gj_wl (C 21 2 * 1103515245) + 12345)) 2147483647 = g_lx (C 21 2) from rfl, gj_wle (by omega) (by omega), gj_let_s, if_neg (by omega), gj_chkp (by omega), gj_up_eq, g_tdiv b.1, gj_wle (x := g_lx (C 21 2) / 256) (by omega) (by omega), g_tmod (by omega)]
theorem p_lotR {R : gj_M} {n : Int} (hn : 0 < n ∧ n < 2147483648) : F_X12_lot n R = some (g_lx (R 79 30) / 256 % n, gj_up R 79 30 (g_lx (R 79 30))) := by
  have b := g_lxB (x := R 79 30)
  have m1 := Int.emod_nonneg (g_lx (R 79 30) / 256) (show n ≠ 0 by omega)
  have m2 := Int.emod_lt_of_pos (g_lx (R 79 30) / 256) hn.1
  unfold F_X12_lot
  rw [show gj_land (gj_wl (gj_wl (R 79 30 * 1103515245) + 12345)) 2147483647 = g_lx (R 79 30) from rfl, gj_let_s, gj_chkp (by omega), gj_up_eq, g_tdiv b.1, gj_wlle (x := g_lx (R 79 30) / 256) (by omega) (by omega), g_tmod (by omega), gj_wle (by omega) (by omega)]
def g_cn (o : Int → Int) : Nat → Int → Int → Int
  | 0, _, n => n
  | f + 1, k, n => if 4 ≤ k then n else g_cn o f (k + 1) (n + (if o k = 0 then 0 else 1))
def g_nth (o : Int → Int) (p : Int) : Nat → Int → Int → Int
  | 0, _, _ => -1
  | f + 1, k, r => if 4 ≤ k then -1 else if o k = 0 then g_nth o p f (k + 1) r else if r = 0 then g_qq p k else g_nth o p f (k + 1) (gj_w (r + (-1)))
theorem g_cn_step {o : Int → Int} {k n : Int} (hk : k < 4) : g_cn o (g_fu k) k n = g_cn o (g_fu (k + 1)) (k + 1) (n + (if o k = 0 then 0 else 1)) := by
  rw [g_fu_s hk]
  conv => lhs; unfold g_cn
  rw [if_neg (by omega)]
theorem g_cn_end {o : Int → Int} {k n : Int} (hk : 4 ≤ k) : g_cn o (g_fu k) k n = n := by
  unfold g_fu g_cn
  rw [if_pos hk]
theorem g_cn_rest {o : Int → Int} {c : Int} (h : ∀ k, c ≤ k → k < 4 → o k = 0) : ∀ (f : Nat) (k n : Int), c ≤ k → g_cn o f k n = n
  | 0, k, n, _ => rfl
  | f + 1, k, n, hk => by
    unfold g_cn
    by_cases c1 : 4 ≤ k
    · rw [if_pos c1]
    · rw [if_neg c1, if_pos (h k hk (by omega)), Int.add_zero]
      exact g_cn_rest h f (k + 1) n (by omega)
theorem g_cn_b {o : Int → Int} : ∀ (f : Nat) (k n : Int), 0 ≤ n → 0 ≤ g_cn o f k n ∧ g_cn o f k n ≤ n + f
  | 0, k, n, h => by unfold g_cn; omega
  | f + 1, k, n, h => by
    unfold g_cn
    by_cases c1 : 4 ≤ k
    · rw [if_pos c1]; omega
    · rw [if_neg c1]
      have := g_cn_b (o := o) f (k + 1) (n + (if o k = 0 then 0 else 1)) (by split <;> omega)
      split at this <;> split <;> omega
theorem g_nth_step {o : Int → Int} {p k r : Int} (hk : k < 4) : g_nth o p (g_fu k) k r = if o k = 0 then g_nth o p (g_fu (k + 1)) (k + 1) r else if r = 0 then g_qq p k else g_nth o p (g_fu (k + 1)) (k + 1) (gj_w (r + (-1))) := by
  rw [g_fu_s hk]
  conv => lhs; unfold g_nth
  rw [if_neg (by omega)]
theorem g_nth_end {o : Int → Int} {p k r : Int} (hk : 4 ≤ k) : g_nth o p (g_fu k) k r = -1 := by
  unfold g_fu g_nth
  rw [if_pos hk]
theorem g_nth_rest {o : Int → Int} {p c : Int} (h : ∀ k, c ≤ k → k < 4 → o k = 0) : ∀ (f : Nat) (k r : Int), c ≤ k → g_nth o p f k r = -1
  | 0, k, r, _ => rfl
  | f + 1, k, r, hk => by
    unfold g_nth
    by_cases c1 : 4 ≤ k
    · rw [if_pos c1]
    · rw [if_neg c1, if_pos (h k hk (by omega))]
      exact g_nth_rest h f (k + 1) r (by omega)
theorem g_nth_ok {o : Int → Int} {p : Int} : ∀ (f : Nat) (k r : Int), 0 ≤ k → g_nth o p f k r = -1 ∨ ∃ j, 0 ≤ j ∧ j < 4 ∧ o j ≠ 0 ∧ g_nth o p f k r = g_qq p j
  | 0, k, r, _ => Or.inl rfl
  | f + 1, k, r, hk => by
    unfold g_nth
    by_cases c1 : 4 ≤ k
    · rw [if_pos c1]; exact Or.inl rfl
    · rw [if_neg c1]
      by_cases c2 : o k = 0
      · rw [if_pos c2]; exact g_nth_ok f (k + 1) r (by omega)
      · rw [if_neg c2]
        by_cases c3 : r = 0
        · rw [if_pos c3]; exact Or.inr ⟨k, hk, by omega, c2, rfl⟩
        · rw [if_neg c3]; exact g_nth_ok f (k + 1) _ (by omega)
def g_ol (p : Int) (D : gj_M) (k : Int) : Int := f_X2_isLeftFor p (g_qq p k) D
def g_cl (p : Int) (D : gj_M) : Int := g_cn (g_ol p D) (g_fu 0) 0 0
def g_dr1 (p : Int) (D : gj_M) : gj_M := gj_up D 21 2 (g_lx (D 21 2))
def g_draw (p : Int) (D : gj_M) : gj_M := if g_cl p D ≤ 0 then D else f_X2_tie p (g_nth (g_ol p (g_dr1 p D)) p (g_fu 0) 0 (g_lx (D 21 2) / 256 % g_cl p D)) (g_dr1 p D)
def g_draws (D : gj_M) : Nat → gj_M
  | 0 => D
  | n + 1 => g_draw n (g_draws D n)
theorem p_openOne {D : gj_M} {p r : Int} (p4 : 0 ≤ p ∧ p < 4) : F_X2_openOne p r D = some (g_nth (g_ol p D) p (g_fu 0) 0 r) := by
  unfold F_X2_openOne
  refine gj_okQ3 (fun y => y = some (g_nth (g_ol p D) p (g_fu 0) 0 r)) (fun l1 q l4 => l1 = p ∧ 4 ≤ l4 ∧ l4 ≤ 8 ∧ g_nth (g_ol p D) p (g_fu (l4 - 4)) (l4 - 4) q = g_nth (g_ol p D) p (g_fu 0) 0 r) (fun _ _ l4 => (8 - l4).toNat) ?_ gj_fu p r 4 ⟨rfl, by omega, by omega, rfl⟩ (by show _ < 2048; omega)
  rintro rec l1 q l4 ⟨e1, a, b, hs⟩ hr
  rw [e1]
  unfold B_X2_openOne_5
  dsimp only [gj_letI]
  by_cases c : 8 ≤ l4
  · rw [g_nth_end (by omega)] at hs
    rw [if_pos c, hs]
  · rw [g_nth_step (by omega), show l4 - 4 + 1 = l4 + 1 - 4 by omega] at hs
    unfold g_ol at hs
    rw [g_qq4 p4, show 4 + (l4 - 4) = l4 by omega] at hs
    have nx : ∀ q2, g_nth (g_ol p D) p (g_fu (l4 + 1 - 4)) (l4 + 1 - 4) q2 = g_nth (g_ol p D) p (g_fu 0) 0 r → rec p q2 (l4 + 1) = some (g_nth (g_ol p D) p (g_fu 0) 0 r) := fun q2 h => hr _ _ _ ⟨rfl, by omega, by omega, h⟩ (by omega)
    rw [if_neg c, gj_wle (x := l4 + 1) (by omega) (by omega)]
    by_cases c1 : f_X2_isLeftFor p l4 D = 0
    · rw [if_pos c1] at hs
      rw [if_pos c1]
      exact nx _ hs
    · rw [if_neg c1] at hs
      rw [if_neg c1]
      by_cases c2 : q = 0
      · rw [if_pos c2] at hs
        rw [if_pos c2]
        exact congrArg some hs
      · rw [if_neg c2] at hs
        rw [if_neg c2]
        exact nx _ hs
theorem p_drawLots {D : gj_M} : F_X2_drawLots D = some (g_draws D 4) := by
  unfold F_X2_drawLots
  refine gj_okM1 (fun y => y = some (g_draws D 4)) (fun l1 K => 0 ≤ l1 ∧ l1 ≤ 4 ∧ K = g_draws D l1.toNat) (fun l1 _ => (4 - l1).toNat) ?_ gj_fu 0 D ⟨by omega, by omega, rfl⟩ (by show _ < 2048; omega)
  rintro rec l1 K ⟨a, b, eK⟩ hr
  unfold B_X2_drawLots_2
  by_cases c : 4 ≤ l1
  · rw [if_pos c, eK, show l1.toNat = 4 by omega]
  · rw [if_neg c]
    have nxt : g_draws D (l1 + 1).toNat = g_draw l1 K := by
      rw [show (l1 + 1).toNat = l1.toNat + 1 by omega]
      show g_draw (l1.toNat : Int) (g_draws D l1.toNat) = _
      rw [show ((l1.toNat : Nat) : Int) = l1 by omega, eK]
    refine gj_okM3 (fun y => y = some (g_draws D 4)) (fun m1 n m3 N => m1 = l1 ∧ 4 ≤ m3 ∧ m3 ≤ 8 ∧ 0 ≤ n ∧ n ≤ 4 + m3 ∧ N = K ∧ g_cn (g_ol l1 K) (g_fu (m3 - 4)) (m3 - 4) n = g_cl l1 K) (fun _ _ m3 _ => (8 - m3).toNat) ?_ gj_fu l1 0 4 _ ⟨rfl, by omega, by omega, by omega, by omega, rfl, rfl⟩ (by show _ < 2048; omega)
    rintro rec11 m1 n m3 N ⟨f1, x, y, n0, n8, eN, hc⟩ hr11
    rw [f1, eN]
    unfold B_X2_drawLots_11 J_X2_drawLots_40 J_X2_drawLots_32 J_X2_drawLots_62
    dsimp only [gj_letI]
    rw [gj_wle (x := l1 + 1) (by omega) (by omega), gj_wle (x := m3 + 1) (by omega) (by omega)]
    by_cases d : 8 ≤ m3
    · rw [g_cn_end (by omega)] at hc
      rw [if_pos d, hc]
      by_cases e : g_cl l1 K ≤ 0
      · rw [if_pos e]
        refine hr _ _ ⟨by omega, by omega, ?_⟩ (by omega)
        rw [nxt]
        unfold g_draw
        rw [if_pos e]
      · rw [if_neg e, p_lotC (by omega), gj_bnd2_s, p_openOne ⟨a, by omega⟩, gj_bnd_s, gj_let_s]
        refine hr _ _ ⟨by omega, by omega, ?_⟩ (by omega)
        rw [nxt]
        unfold g_draw g_dr1
        rw [if_neg e]
    · rw [g_cn_step (by omega), show m3 - 4 + 1 = m3 + 1 - 4 by omega] at hc
      have eo : g_ol l1 K (m3 - 4) = f_X2_isLeftFor l1 m3 K := by
        unfold g_ol
        rw [g_qq4 ⟨a, by omega⟩, show 4 + (m3 - 4) = m3 by omega]
      rw [eo] at hc
      rw [if_neg d]
      by_cases e : f_X2_isLeftFor l1 m3 K = 0
      · rw [if_pos e] at hc
        rw [if_pos e, gj_wle (x := n + 0) (by omega) (by omega)]
        exact hr11 _ _ _ _ ⟨rfl, by omega, by omega, by omega, by omega, rfl, hc⟩ (by omega)
      · rw [if_neg e] at hc
        rw [if_neg e, gj_wle (x := n + 1) (by omega) (by omega)]
        exact hr11 _ _ _ _ ⟨rfl, by omega, by omega, by omega, by omega, rfl, hc⟩ (by omega)
theorem p_byLotJ {C0 D0 R0 : gj_M} (h0 : g_GE C0 D0 R0) (hs0 : g_G4 D0 R0) (hH0 : g_HQ R0) (hl0 : D0 21 2 = R0 79 30) (f0 : ∀ j, 0 ≤ j → j < 4 → R0 119 j = -1) : ∃ N, F_X12_byLot R0 = some N ∧ (g_G4 (g_draws D0 4) N ∧ g_HQ N ∧ N 120 = R0 120 ∧ g_draws D0 4 21 2 = N 79 30) := by
  refine k_cps (fun P done => ?_)
  unfold F_X12_byLot
  refine gj_okM1 P (fun l1 M => 0 ≤ l1 ∧ l1 ≤ 4 ∧ g_GE C0 (g_draws D0 l1.toNat) M ∧ g_G4 (g_draws D0 l1.toNat) M ∧ g_HQ M ∧ M 120 = R0 120 ∧ g_draws D0 l1.toNat 21 2 = M 79 30 ∧ ∀ j, l1 ≤ j → j < 4 → M 119 j = -1) (fun l1 _ => (4 - l1).toNat) ?_ gj_fu 0 R0 ⟨by omega, by omega, h0, hs0, hH0, rfl, hl0, f0⟩ (by show _ < 2048; omega)
  rintro rec l1 M ⟨a, b, hE, hS, hH, h120, hl, hf⟩ hr
  have hSR : g_RS M := ⟨C0, hE.1, hE.2.1⟩
  have b0 := hSR.b0
  have b1 := hSR.b1
  -- nobody is left for one who is no person, or is out
  have none : ∀ p : Int, 0 ≤ p → p < 4 → ¬ (g_pe M 101 p ∧ M 120 p = 0) → g_cl p (g_draws D0 l1.toNat) = 0 := fun p x y z => by
    unfold g_cl
    refine g_cn_rest (c := 0) (fun k u v => ?_) _ _ _ (Int.le_refl _)
    obtain ⟨q8, uu, -, -⟩ := g_qq_ok (k := k) (s := p) (by omega) ⟨u, v⟩
    unfold g_ol
    exact (g_left hE hS (by omega) q8 uu).2 (fun w => z w.1)
  unfold B_X12_byLot_2 J_X12_byLot_176
  by_cases c : M 101 0 ≤ l1
  · rw [if_pos c]
    have stay : ∀ n : Nat, l1.toNat ≤ n → n ≤ 4 → g_draws D0 n = g_draws D0 l1.toNat := by
      intro n
      induction n with
      | zero => intro x y; rw [show l1.toNat = 0 by omega]
      | succ n ih =>
        intro x y
        by_cases q : l1.toNat = n + 1
        · rw [q]
        · have e := ih (by omega) (by omega)
          show g_draw n (g_draws D0 n) = _
          rw [e]
          unfold g_draw
          rw [if_pos]
          rw [none n (by omega) (by omega) (fun w => by unfold g_pe at w; omega)]
          omega
    rw [← stay 4 (by omega) (by omega)] at hS hl
    exact done M ⟨hS, hH, h120, hl⟩
  · have p8 : 0 ≤ l1 ∧ l1 < 8 := by omega
    have pp : g_pe M 101 l1 := by unfold g_pe; omega
    have eD : g_draws D0 (l1 + 1).toNat = g_draw l1 (g_draws D0 l1.toNat) := by
      rw [show (l1 + 1).toNat = l1.toNat + 1 by omega]
      show g_draw (l1.toNat : Int) _ = _
      rw [show ((l1.toNat : Nat) : Int) = l1 by omega]
    have quiet : g_cl l1 (g_draws D0 l1.toNat) ≤ 0 → P (rec (l1 + 1) M) := fun q => by
      have e : g_draws D0 (l1 + 1).toNat = g_draws D0 l1.toNat := by
        rw [eD]
        unfold g_draw
        rw [if_pos q]
      exact hr _ _ ⟨by omega, by omega, by rw [e]; exact hE, by rw [e]; exact hS, hH, h120, by rw [e]; exact hl, fun j x y => hf j (by omega) y⟩ (by omega)
    rw [if_neg c, gj_chkp p8, gj_wle (x := l1 + 1) (by omega) (by omega)]
    have o01 := hE.2.2.2.2 l1 p8.1 p8.2
    by_cases c1 : M 120 l1 = 1
    · rw [if_pos c1]
      exact quiet (by rw [none l1 a (by omega) (fun w => by omega)]; omega)
    · rw [if_neg c1]
      have po : M 120 l1 = 0 := by omega
      have beyond : ∀ k, M 101 1 ≤ k → k < 4 → g_ol l1 (g_draws D0 l1.toNat) k = 0 := fun k x y => by
        obtain ⟨q8, u, -, -⟩ := g_qq_ok (k := k) p8 (by omega)
        unfold g_ol
        refine (g_left hE hS p8 q8 u).2 (fun z => ?_)
        have pe := z.2.1
        rw [g_qq4 ⟨a, by omega⟩] at pe
        unfold g_pe at pe
        omega
      generalize hD : g_draws D0 l1.toNat = D at *
      refine gj_okM3 P (fun m1 n m3 N => m1 = l1 ∧ 4 ≤ m3 ∧ m3 ≤ 8 ∧ 0 ≤ n ∧ n ≤ 4 + m3 ∧ N = M ∧ g_cn (g_ol l1 D) (g_fu (m3 - 4)) (m3 - 4) n = g_cl l1 D) (fun _ _ m3 _ => (8 - m3).toNat) ?_ gj_fu l1 0 4 M ⟨rfl, by omega, by omega, by omega, by omega, rfl, rfl⟩ (by show _ < 2048; omega)
      rintro rec31 m1 n m3 N ⟨e1, m30, m34, n0, n8, eN, hc⟩ hr31
      rw [e1, eN]
      unfold B_X12_byLot_31 J_X12_byLot_87 J_X12_byLot_79 J_X12_byLot_176
      rw [show gj_w (4 + M 101 1) = 4 + M 101 1 from gj_wle (by omega) (by omega), show gj_w (m3 + 1) = m3 + 1 from gj_wle (by omega) (by omega), show gj_w (l1 + 1) = l1 + 1 from gj_wle (by omega) (by omega)]
      by_cases d : 4 + M 101 1 ≤ m3
      · rw [g_cn_rest (c := m3 - 4) (fun k x y => beyond k (by omega) y) _ _ _ (Int.le_refl _)] at hc
        rw [if_pos d, hc]
        by_cases e : g_cl l1 D = 0
        · rw [if_pos e]
          exact quiet (by omega)
        · rw [if_neg e, p_lotR (by omega), gj_bnd2_s, ← hl]
          -- behind the lot
          have hE2 : g_GE C0 (g_dr1 l1 D) (gj_up M 79 30 (g_lx (D 21 2))) := g_GE_s hE (funext fun _ => gj_up_z (by decide)) (funext fun _ => gj_up_z (by decide)) (funext fun _ => gj_up_z (by decide)) (fun z hz => funext fun _ => gj_up_z (by unfold g_rk at hz; omega)) (funext fun _ => gj_up_z (by decide))
          have hS2 : g_G4 (g_dr1 l1 D) (gj_up M 79 30 (g_lx (D 21 2))) := fun j x y => by
            unfold g_dr1
            rw [gj_up_z (by decide), gj_up_z (by decide)]
            exact hS j x y
          have u119 : ∀ j, gj_up M 79 30 (g_lx (D 21 2)) 119 j = M 119 j := fun j => gj_up_z (by decide)
          have u120 : gj_up M 79 30 (g_lx (D 21 2)) 120 = M 120 := funext fun _ => gj_up_z (by decide)
          have u101 : gj_up M 79 30 (g_lx (D 21 2)) 101 = M 101 := funext fun _ => gj_up_z (by decide)
          have hH2 : g_HQ (gj_up M 79 30 (g_lx (D 21 2))) := fun j x y => by
            rw [u119, u119, u120, g_pe_s u101]
            exact hH j x y
          have l21 : g_dr1 l1 D 21 2 = gj_up M 79 30 (g_lx (D 21 2)) 79 30 := by
            unfold g_dr1
            rw [gj_up_eq, gj_up_eq]
          have dD : g_draw l1 D = f_X2_tie l1 (g_nth (g_ol l1 (g_dr1 l1 D)) l1 (g_fu 0) 0 (g_lx (D 21 2) / 256 % g_cl l1 D)) (g_dr1 l1 D) := by
            unfold g_draw
            rw [if_neg (by omega)]
          rw [dD] at eD
          generalize g_lx (D 21 2) / 256 % g_cl l1 D = r0 at *
          generalize gj_up M 79 30 (g_lx (D 21 2)) = M2 at *
          generalize g_dr1 l1 D = D2 at *
          have beyond2 : ∀ k, M 101 1 ≤ k → k < 4 → g_ol l1 D2 k = 0 := fun k x y => by
            obtain ⟨q8, u, -, -⟩ := g_qq_ok (k := k) p8 (by omega)
            unfold g_ol
            refine (g_left hE2 hS2 p8 q8 u).2 (fun z => ?_)
            have pe := z.2.1
            rw [g_qq4 ⟨a, by omega⟩, g_pe_s u101] at pe
            unfold g_pe at pe
            omega
          refine gj_okM3 P (fun m1 r m3 N => m1 = l1 ∧ 4 ≤ m3 ∧ m3 ≤ 8 ∧ N = M2 ∧ g_nth (g_ol l1 D2) l1 (g_fu (m3 - 4)) (m3 - 4) r = g_nth (g_ol l1 D2) l1 (g_fu 0) 0 r0) (fun _ _ m3 _ => (8 - m3).toNat) ?_ gj_fu l1 r0 4 M2 ⟨rfl, by omega, by omega, rfl, rfl⟩ (by show _ < 2048; omega)
          rintro rec103 k1 r k3 N2 ⟨g1, k30, k34, gN, hn⟩ hr103
          rw [g1, gN]
          unfold B_X12_byLot_103 J_X12_byLot_157 J_X12_byLot_176
          rw [u101, show gj_w (4 + M 101 1) = 4 + M 101 1 from gj_wle (by omega) (by omega), show gj_w (k3 + 1) = k3 + 1 from gj_wle (by omega) (by omega), show gj_w (l1 + 1) = l1 + 1 from gj_wle (by omega) (by omega)]
          by_cases f : 4 + M 101 1 ≤ k3
          · rw [g_nth_rest (c := k3 - 4) (fun k x y => beyond2 k (by omega) y) _ _ _ (Int.le_refl _)] at hn
            rw [if_pos f]
            have e2 : g_draws D0 (l1 + 1).toNat = D2 := by
              rw [eD, ← hn]
              unfold f_X2_tie
              rw [if_pos rfl]
            exact hr _ _ ⟨by omega, by omega, by rw [e2]; exact hE2, by rw [e2]; exact hS2, hH2, by rw [u120]; exact h120, by rw [e2]; exact l21, fun j x y => by rw [u119]; exact hf j (by omega) y⟩ (by omega)
          · rw [g_nth_step (by omega), show k3 - 4 + 1 = k3 + 1 - 4 by omega] at hn
            have z8 : 0 ≤ k3 ∧ k3 < 8 := by omega
            have pq : g_pe M2 101 k3 := by rw [g_pe_s u101]; unfold g_pe; omega
            have lf := g_left hE2 hS2 p8 z8 (by omega)
            have eo : g_ol l1 D2 (k3 - 4) = f_X2_isLeftFor l1 k3 D2 := by
              unfold g_ol
              rw [g_qq4 ⟨a, by omega⟩, show 4 + (k3 - 4) = k3 by omega]
            rw [eo] at hn
            have pp2 : g_pe M2 101 l1 := (g_pe_s u101).mpr pp
            have po2 : M2 120 l1 = 0 := by rw [u120]; exact po
            have bo := p_bothE hE2 p8 z8 (by omega) pp2 pq
            have oq := hE2.2.2.2.2 k3 z8.1 z8.2
            have nx : ∀ r2, g_nth (g_ol l1 D2) l1 (g_fu (k3 + 1 - 4)) (k3 + 1 - 4) r2 = g_nth (g_ol l1 D2) l1 (g_fu 0) 0 r0 → P (rec103 l1 r2 (k3 + 1) M2) := fun r2 h2 => hr103 _ _ _ _ ⟨rfl, by omega, by omega, rfl, h2⟩ (by omega)
            rw [if_neg f, gj_chkp z8]
            by_cases c2 : M2 120 k3 = 1
            · have lf := lf.2 (fun x => by have := x.2.2; omega)
              rw [if_pos lf] at hn
              rw [if_pos c2]
              exact nx _ hn
            · have lf := lf.1 ⟨⟨pp2, po2⟩, pq, by omega⟩
              rw [if_neg c2, gj_chkp z8]
              by_cases c3 : M2 119 k3 = -1
              · rw [if_pos c3] at lf
                rw [if_pos c3, bo, gj_bnd_s]
                by_cases c4 : D2 37 (f_cpl l1 k3) = 0
                · rw [if_pos c4] at lf
                  rw [lf, if_pos rfl] at hn
                  rw [if_pos c4]
                  exact nx _ hn
                · rw [if_neg c4] at lf
                  rw [lf, if_neg (by decide)] at hn
                  rw [if_neg c4]
                  by_cases c5 : r = 0
                  · rw [if_pos c5, g_qq4 ⟨a, by omega⟩, show 4 + (k3 - 4) = k3 by omega] at hn
                    rw [if_pos c5]
                    obtain ⟨U, x1, x2, x3, x4, x5, x6, x7, x8, x9⟩ := p_tieG hE2 hS2 hH2 ⟨a, by omega⟩ (T := k3) (by omega) ⟨pp2, po2⟩ ⟨pq, by omega⟩ (by rw [u119]; exact hf l1 (by omega) (by omega)) c3
                    rw [← hn] at eD
                    rw [x1, gj_bnd_s]
                    exact hr _ _ ⟨by omega, by omega, by rw [eD]; exact x2, by rw [eD]; exact x3, x4, by rw [x5, u120]; exact h120, by rw [eD, x9, x8]; exact l21, fun j y z => by rw [x7 j (by omega) (by omega), u119]; exact hf j (by omega) z⟩ (by omega)
                  · rw [if_neg c5] at hn
                    rw [if_neg c5]
                    exact nx _ hn
              · rw [if_neg c3] at lf
                have l0 : f_X2_isLeftFor l1 k3 D2 = 0 := by rw [lf]; split <;> rfl
                rw [if_pos l0] at hn
                rw [if_neg c3]
                exact nx _ hn
      · rw [g_cn_step (by omega), show m3 - 4 + 1 = m3 + 1 - 4 by omega] at hc
        have z8 : 0 ≤ m3 ∧ m3 < 8 := by omega
        have pq : g_pe M 101 m3 := by unfold g_pe; omega
        have lf := g_left hE hS p8 z8 (by omega)
        have eo : g_ol l1 D (m3 - 4) = f_X2_isLeftFor l1 m3 D := by
          unfold g_ol
          rw [g_qq4 ⟨a, by omega⟩, show 4 + (m3 - 4) = m3 by omega]
        rw [eo] at hc
        have bo := p_bothE hE p8 z8 (by omega) pp pq
        have nx0 : f_X2_isLeftFor l1 m3 D = 0 → P (rec31 l1 (gj_w (n + 0)) (m3 + 1) M) := fun q => by
          rw [if_pos q] at hc
          rw [gj_wle (by omega) (by omega)]
          exact hr31 _ _ _ _ ⟨rfl, by omega, by omega, by omega, by omega, rfl, hc⟩ (by omega)
        have nx1 : ¬ f_X2_isLeftFor l1 m3 D = 0 → P (rec31 l1 (gj_w (n + 1)) (m3 + 1) M) := fun q => by
          rw [if_neg q] at hc
          rw [gj_wle (by omega) (by omega)]
          exact hr31 _ _ _ _ ⟨rfl, by omega, by omega, by omega, by omega, rfl, hc⟩ (by omega)
        rw [if_neg d, gj_chkp z8]
        by_cases c2 : M 120 m3 = 0
        · have lf := lf.1 ⟨⟨pp, po⟩, pq, c2⟩
          rw [if_pos c2, gj_chkp z8]
          by_cases c3 : M 119 m3 = -1
          · rw [if_pos c3] at lf
            rw [if_pos c3, bo, gj_bnd_s]
            by_cases c4 : D 37 (f_cpl l1 m3) = 0
            · rw [if_pos c4] at lf
              rw [if_pos c4]
              exact nx0 lf
            · rw [if_neg c4] at lf
              rw [if_neg c4]
              exact nx1 (by rw [lf]; decide)
          · rw [if_neg c3] at lf
            rw [if_neg c3]
            exact nx0 (by rw [lf]; split <;> rfl)
        · have lf := lf.2 (fun x => c2 x.2.2)
          rw [if_neg c2]
          exact nx0 lf
