/-! PURE: the tokens of a text -/
def g_rn (q : Int → Bool) (n : Int) : Nat → Int → Int
  | 0, s => s
  | f + 1, s => if s < n ∧ q s = true then g_rn q n f (s + 1) else s
/-- on from s while q holds, below n -/
def g_run (q : Int → Bool) (n s : Int) : Int := g_rn q n (n - s).toNat s
theorem g_run_s {q : Int → Bool} {n s : Int} (h : s < n) (hq : q s = true) : g_run q n s = g_run q n (s + 1) := by
  unfold g_run
  rw [show (n - s).toNat = (n - (s + 1)).toNat + 1 by omega]
  show (if s < n ∧ q s = true then _ else _) = _
  rw [if_pos ⟨h, hq⟩]
theorem g_run_e {q : Int → Bool} {n s : Int} (h : ¬ (s < n ∧ q s = true)) : g_run q n s = s := by
  unfold g_run
  cases (n - s).toNat with
  | zero => rfl
  | succ f =>
    show (if s < n ∧ q s = true then _ else _) = _
    rw [if_neg h]
theorem g_rn_le {q : Int → Bool} {n : Int} : ∀ (f : Nat) (s : Int), s ≤ g_rn q n f s ∧ (s ≤ n → g_rn q n f s ≤ n)
  | 0, s => ⟨Int.le_refl _, fun h => h⟩
  | f + 1, s => by
    show s ≤ (if s < n ∧ q s = true then g_rn q n f (s + 1) else s) ∧ (s ≤ n → (if s < n ∧ q s = true then g_rn q n f (s + 1) else s) ≤ n)
    split
    · have h := g_rn_le (q := q) (n := n) f (s + 1)
      exact ⟨by omega, fun _ => h.2 (by omega)⟩
    · exact ⟨Int.le_refl _, fun h => h⟩
theorem g_run_ge {q : Int → Bool} {n s : Int} : s ≤ g_run q n s := (g_rn_le _ s).1
theorem g_run_le {q : Int → Bool} {n s : Int} (h : s ≤ n) : g_run q n s ≤ n := (g_rn_le _ s).2 h
theorem g_rn_all {q : Int → Bool} {n : Int} : ∀ (f : Nat) (s i : Int), s ≤ i → i < g_rn q n f s → q i = true
  | 0, s, i, h1, h2 => by change i < s at h2; omega
  | f + 1, s, i, h1, h2 => by
    change i < (if s < n ∧ q s = true then g_rn q n f (s + 1) else s) at h2
    split at h2
    · rename_i h
      by_cases e : i = s
      · rw [e]; exact h.2
      · exact g_rn_all f (s + 1) i (by omega) h2
    · omega
theorem g_run_all {q : Int → Bool} {n s i : Int} (h1 : s ≤ i) (h2 : i < g_run q n s) : q i = true := g_rn_all _ s i h1 h2
theorem g_rn_congr {q q' : Int → Bool} {n : Int} (h : ∀ i, 0 ≤ i → i < n → q i = q' i) : ∀ (f : Nat) (s : Int), 0 ≤ s → g_rn q n f s = g_rn q' n f s
  | 0, s, _ => rfl
  | f + 1, s, hs => by
    show (if s < n ∧ q s = true then g_rn q n f (s + 1) else s) = (if s < n ∧ q' s = true then g_rn q' n f (s + 1) else s)
    by_cases hn : s < n
    · rw [h s hs hn, g_rn_congr h f (s + 1) (by omega)]
    · rw [if_neg (fun e => hn e.1), if_neg (fun e => hn e.1)]
theorem g_run_congr {q q' : Int → Bool} {n s : Int} (h : ∀ i, 0 ≤ i → i < n → q i = q' i) (hs : 0 ≤ s) : g_run q n s = g_run q' n s := g_rn_congr h _ s hs
def g_bl (t : Int → Int) (i : Int) : Bool := decide (t i = 32 ∨ t i = 10)
def g_le (t : Int → Int) (i : Int) : Bool := decide (97 ≤ t i ∧ t i ≤ 122)
def g_di (t : Int → Int) (i : Int) : Bool := decide (48 ≤ t i ∧ t i ≤ 57)
/-- the kind of the token at s -/
def g_kd (t : Int → Int) (n s : Int) : Int := if n ≤ s then 0 else if g_le t s = true then 1 else if g_di t s = true then 2 else if t s = 59 then 3 else 4
def g_en (t : Int → Int) (n s : Int) : Int := if n ≤ s then s else if g_le t s = true then g_run (g_le t) n (s + 1) else if g_di t s = true then g_run (g_di t) n (s + 1) else s + 1
def g_sp (t : Int → Int) (n s : Int) : Int := g_run (g_bl t) n s
theorem g_en_ge {t : Int → Int} {n s : Int} : s ≤ g_en t n s := by
  unfold g_en
  have h1 := g_run_ge (q := g_le t) (n := n) (s := s + 1)
  have h2 := g_run_ge (q := g_di t) (n := n) (s := s + 1)
  (repeat' split) <;> omega
theorem g_en_gt {t : Int → Int} {n s : Int} (h : s < n) : s < g_en t n s := by
  unfold g_en
  have h1 := g_run_ge (q := g_le t) (n := n) (s := s + 1)
  have h2 := g_run_ge (q := g_di t) (n := n) (s := s + 1)
  (repeat' split) <;> omega
theorem g_en_le {t : Int → Int} {n s : Int} (h : s ≤ n) : g_en t n s ≤ n := by
  unfold g_en
  have h1 := g_run_le (q := g_le t) (n := n) (s := s + 1)
  have h2 := g_run_le (q := g_di t) (n := n) (s := s + 1)
  (repeat' split) <;> omega
/-- both texts are the same bytes -/
def g_TT (t u : Int → Int) (n : Int) : Prop := ∀ i, 0 ≤ i → i < n → 0 ≤ t i ∧ t i < 256 ∧ u i = gj_b8 (t i)
theorem g_TT_b8 {t u : Int → Int} {n i : Int} (h : g_TT t u n) (h0 : 0 ≤ i) (h1 : i < n) : (t i < 128 → u i = t i) ∧ (128 ≤ t i → u i = t i - 256) := by
  obtain ⟨a, b, c⟩ := h i h0 h1
  rw [c]
  unfold gj_b8
  omega
theorem g_bl_eq {t u : Int → Int} {n i : Int} (h : g_TT t u n) (h0 : 0 ≤ i) (h1 : i < n) : g_bl t i = g_bl u i := by
  have h2 := g_TT_b8 h h0 h1
  have h3 := h i h0 h1
  unfold g_bl
  exact decide_eq_decide.mpr (by omega)
theorem g_le_eq {t u : Int → Int} {n i : Int} (h : g_TT t u n) (h0 : 0 ≤ i) (h1 : i < n) : g_le t i = g_le u i := by
  have h2 := g_TT_b8 h h0 h1
  have h3 := h i h0 h1
  unfold g_le
  exact decide_eq_decide.mpr (by omega)
theorem g_di_eq {t u : Int → Int} {n i : Int} (h : g_TT t u n) (h0 : 0 ≤ i) (h1 : i < n) : g_di t i = g_di u i := by
  have h2 := g_TT_b8 h h0 h1
  have h3 := h i h0 h1
  unfold g_di
  exact decide_eq_decide.mpr (by omega)
theorem g_sp_eq {t u : Int → Int} {n s : Int} (h : g_TT t u n) (hs : 0 ≤ s) : g_sp t n s = g_sp u n s := g_run_congr (fun _ a b => g_bl_eq h a b) hs
theorem g_en_eq {t u : Int → Int} {n s : Int} (h : g_TT t u n) (hs : 0 ≤ s) : g_en t n s = g_en u n s := by
  unfold g_en
  by_cases hn : n ≤ s
  · rw [if_pos hn, if_pos hn]
  · rw [if_neg hn, if_neg hn, g_le_eq h hs (by omega), g_di_eq h hs (by omega), g_run_congr (fun _ a b => g_le_eq h a b) (by omega), g_run_congr (q := g_di t) (fun _ a b => g_di_eq h a b) (by omega)]
-- the class
def g_CT (M : gj_M) : Prop := 0 ≤ M 1 1 ∧ M 1 1 ≤ 500 ∧ ∀ i, 0 ≤ i → i < M 1 1 → 0 ≤ M 2 i ∧ M 2 i < 256
theorem p_byteAt {M : gj_M} {i : Int} (hn : M 1 1 ≤ 500) (h0 : 0 ≤ i) : f_X9_byteAt i M = if M 1 1 ≤ i then -1 else M 2 i := by
  unfold f_X9_byteAt
  by_cases h : M 1 1 ≤ i
  · rw [if_pos h, if_pos h]
  · rw [if_neg h, if_neg h, f_at_in (by omega)]
theorem p_kind {M N : gj_M} {i : Int} (h : g_CT M) (h0 : 0 ≤ i) : f_X6_kindOf (if M 1 1 ≤ i then -1 else M 2 i) N = g_kd (M 2) (M 1 1) i := by
  unfold f_X6_kindOf g_kd g_le g_di
  simp only [decide_eq_true_eq]
  by_cases hn : M 1 1 ≤ i
  · rw [if_pos hn, if_pos rfl, if_pos hn]
  · have h2 := h.2.2 i h0 (by omega)
    rw [if_neg hn, if_neg hn, if_neg (by omega)]
    (repeat' split) <;> omega
theorem p_isBlank {x : Int} {N : gj_M} : f_X6_isBlank x N = if x = 32 ∨ x = 10 then 1 else 0 := by
  unfold f_X6_isBlank
  (repeat' split) <;> omega
def g_scd (M : gj_M) (s k e : Int) : gj_M := gj_up (gj_up (gj_up M 10 7 s) 10 6 k) 10 8 e
theorem p_X6_scan {M : gj_M} (h : g_CT M) (h0 : 0 ≤ M 10 8) (h1 : M 10 8 ≤ M 1 1) : F_X6_scan M = some (g_scd M (g_sp (M 2) (M 1 1) (M 10 8)) (g_kd (M 2) (M 1 1) (g_sp (M 2) (M 1 1) (M 10 8))) (g_en (M 2) (M 1 1) (g_sp (M 2) (M 1 1) (M 10 8)))) := by
  obtain ⟨hn0, hn1, hb⟩ := h
  have hs0 : 0 ≤ g_sp (M 2) (M 1 1) (M 10 8) := Int.le_trans h0 g_run_ge
  have hs1 : g_sp (M 2) (M 1 1) (M 10 8) ≤ M 1 1 := g_run_le h1
  -- behind the blanks
  have key : J_X6_scan_52 (gj_up M 10 7 (g_sp (M 2) (M 1 1) (M 10 8))) = some (g_scd M (g_sp (M 2) (M 1 1) (M 10 8)) (g_kd (M 2) (M 1 1) (g_sp (M 2) (M 1 1) (M 10 8))) (g_en (M 2) (M 1 1) (g_sp (M 2) (M 1 1) (M 10 8)))) := by
    generalize g_sp (M 2) (M 1 1) (M 10 8) = s at *
    unfold J_X6_scan_52
    dsimp only [gj_letI, gj_let]
    have e0 : f_X6_kindOf (f_X9_byteAt (gj_up M 10 7 s 10 7) (gj_up M 10 7 s)) (gj_up M 10 7 s) = g_kd (M 2) (M 1 1) s := by
      rw [show gj_up M 10 7 s 10 7 = s from gj_up_eq, p_byteAt (M := gj_up M 10 7 s) (by rw [gj_up_z (by decide)]; exact hn1) hs0, gj_up_z (by decide), gj_up_z (by decide), p_kind ⟨hn0, hn1, hb⟩ hs0]
    have e9 : ∀ k, gj_up (gj_up M 10 7 s) 10 6 k 10 7 = s := fun k => by rw [gj_up_i (by decide), gj_up_eq]
    have e10 : ∀ k, gj_up (gj_up M 10 7 s) 10 6 k 10 6 = k := fun k => gj_up_eq
    simp only [e0, e9, e10]
    have run : ∀ (q : Int → Bool) (k : Int), (k = 1 ∧ q = g_le (M 2) ∨ k = 2 ∧ q = g_di (M 2)) → g_kd (M 2) (M 1 1) s = k → s < M 1 1 →
        gj_it (fun _ => none) B_X6_scan_110 gj_fu (g_scd M s k (s + 1)) = some (g_scd M s k (g_run q (M 1 1) (s + 1))) := by
      intro q k hk hkd hs
      refine gj_lpM0 (fun y => y = some (g_scd M s k (g_run q (M 1 1) (s + 1)))) (fun N => ∃ e, N = g_scd M s k e ∧ s < e ∧ e ≤ M 1 1 ∧ g_run q (M 1 1) (s + 1) = g_run q (M 1 1) e) (fun N => (M 1 1 - N 10 8).toNat) ?_ gj_fu _ ⟨s + 1, rfl, by omega, by omega, rfl⟩ ?_
      · rintro rec N ⟨e, rfl, h2, h3, h4⟩
        have e8 : g_scd M s k e 10 8 = e := gj_up_eq
        have e6 : g_scd M s k e 10 6 = k := by unfold g_scd; rw [gj_up_i (by decide), gj_up_eq]
        have e1 : g_scd M s k e 1 1 = M 1 1 := by unfold g_scd; rw [gj_up_z (by decide), gj_up_z (by decide), gj_up_z (by decide)]
        have e2 : g_scd M s k e 2 = M 2 := by funext j; unfold g_scd; rw [gj_up_z (by decide), gj_up_z (by decide), gj_up_z (by decide)]
        unfold B_X6_scan_110
        dsimp only [gj_letI, gj_let, f_X9_length]
        rw [e8, e1, p_byteAt (by rw [e1]; exact hn1) (by omega), e1, e2, p_kind ⟨hn0, hn1, hb⟩ (by omega), e6]
        by_cases h5 : M 1 1 ≤ e
        · rw [if_pos h5, h4, g_run_e (by omega)]
          exact Or.inr rfl
        · rw [if_neg h5]
          have hq : (g_kd (M 2) (M 1 1) e = k) ↔ q e = true := by
            unfold g_kd
            rw [if_neg h5]
            rcases hk with ⟨rfl, rfl⟩ | ⟨rfl, rfl⟩
            · by_cases hl : g_le (M 2) e = true
              · simp [hl]
              · simp only [hl]
                (repeat' split) <;> simp_all
            · by_cases hl : g_le (M 2) e = true
              · have : g_di (M 2) e = false := by
                  unfold g_le at hl; unfold g_di
                  simp only [decide_eq_true_eq] at hl
                  exact decide_eq_false (by omega)
                simp [hl, this]
              · by_cases hd : g_di (M 2) e = true
                · simp [hl, hd]
                · simp only [hl, hd]
                  (repeat' split) <;> simp_all
          by_cases h6 : g_kd (M 2) (M 1 1) e = k
          · rw [if_pos h6]
            refine Or.inl ⟨g_scd M s k (e + 1), ?_, ⟨e + 1, rfl, by omega, by omega, ?_⟩, ?_⟩
            · rw [gj_wle (by omega) (by omega)]
              unfold g_scd
              rw [gj_up_up]
            · rw [h4, g_run_s (by omega) (hq.mp h6)]
            · have : g_scd M s k (e + 1) 10 8 = e + 1 := gj_up_eq
              omega
          · rw [if_neg h6, h4, g_run_e (fun q => h6 (hq.mpr q.2))]
            exact Or.inr rfl
      · have : g_scd M s k (s + 1) 10 8 = s + 1 := gj_up_eq
        rw [this]
        show _ < 2048
        omega
    have e7 : gj_up (gj_up M 10 7 s) 10 6 (g_kd (M 2) (M 1 1) s) 10 6 = g_kd (M 2) (M 1 1) s := gj_up_eq
    by_cases hn : M 1 1 ≤ s
    · have hk : g_kd (M 2) (M 1 1) s = 0 := if_pos hn
      have he : g_en (M 2) (M 1 1) s = s := if_pos hn
      rw [hk, he, if_pos rfl]
      unfold J_X6_scan_91
      dsimp only [gj_let]
      simp only [gj_up_eq, gj_up_i (show (6 : Int) ≠ 8 by decide)]
      rfl
    · have hk0 : g_kd (M 2) (M 1 1) s ≠ 0 := by
        unfold g_kd
        rw [if_neg hn]
        (repeat' split) <;> omega
      rw [if_neg hk0, gj_wle (by omega) (by omega)]
      unfold J_X6_scan_91
      dsimp only [gj_let]
      simp only [gj_up_i (show (6 : Int) ≠ 8 by decide), gj_up_eq]
      by_cases k1 : g_kd (M 2) (M 1 1) s = 1
      · rw [if_pos k1, k1]
        have hl : g_le (M 2) s = true := by
          unfold g_kd at k1
          rw [if_neg hn] at k1
          by_cases hl : g_le (M 2) s = true
          · exact hl
          · rw [if_neg hl] at k1
            (repeat' split at k1) <;> omega
        have := run (g_le (M 2)) 1 (Or.inl ⟨rfl, rfl⟩) k1 (by omega)
        unfold g_scd at this ⊢
        rw [this]
        unfold g_en
        rw [if_neg hn, if_pos hl]
      · rw [if_neg k1]
        by_cases k2 : g_kd (M 2) (M 1 1) s = 2
        · rw [if_pos k2, k2]
          have hl : g_le (M 2) s = false := by
            cases hl : g_le (M 2) s with
            | false => rfl
            | true => exact absurd (show g_kd (M 2) (M 1 1) s = 1 by unfold g_kd; rw [if_neg hn, if_pos hl]) k1
          have hd : g_di (M 2) s = true := by
            unfold g_kd at k2
            rw [if_neg hn, hl] at k2
            cases hd : g_di (M 2) s with
            | true => rfl
            | false => rw [hd] at k2; (repeat' split at k2) <;> simp_all
          have := run (g_di (M 2)) 2 (Or.inr ⟨rfl, rfl⟩) k2 (by omega)
          unfold g_scd at this ⊢
          rw [this]
          unfold g_en
          rw [if_neg hn, hl, hd]
          rfl
        · rw [if_neg k2]
          have he : g_en (M 2) (M 1 1) s = s + 1 := by
            unfold g_en
            rw [if_neg hn]
            have hl : ¬ g_le (M 2) s = true := fun hl => k1 (by unfold g_kd; rw [if_neg hn, if_pos hl])
            have hd : ¬ g_di (M 2) s = true := fun hd => k2 (by unfold g_kd; rw [if_neg hn, if_neg hl, if_pos hd])
            rw [if_neg hl, if_neg hd]
          rw [he]
          rfl
  unfold F_X6_scan
  dsimp only [gj_let]
  refine gj_lpM0 (fun y => y = _) (fun N => ∃ s, N = gj_up M 10 7 s ∧ M 10 8 ≤ s ∧ s ≤ M 1 1 ∧ g_sp (M 2) (M 1 1) (M 10 8) = g_sp (M 2) (M 1 1) s) (fun N => (M 1 1 - N 10 7).toNat) ?_ gj_fu _ ⟨M 10 8, rfl, by omega, by omega, rfl⟩ ?_
  · rintro rec N ⟨s, rfl, h2, h3, h4⟩
    unfold B_X6_scan_8
    dsimp only [gj_letI, gj_let, f_X9_length]
    rw [gj_up_eq, gj_up_z (by decide), p_byteAt (by rw [gj_up_z (by decide)]; exact hn1) (by omega), gj_up_z (by decide), gj_up_z (by decide), p_isBlank]
    by_cases h5 : M 1 1 ≤ s
    · rw [if_pos h5]
      have : g_sp (M 2) (M 1 1) (M 10 8) = s := by rw [h4]; exact g_run_e (by omega)
      rw [← this]
      exact Or.inr key
    · rw [if_neg h5, if_neg h5]
      by_cases h6 : M 2 s = 32 ∨ M 2 s = 10
      · rw [if_pos h6, if_neg (by decide)]
        refine Or.inl ⟨gj_up M 10 7 (s + 1), ?_, ⟨s + 1, rfl, by omega, by omega, ?_⟩, ?_⟩
        · rw [gj_wle (by omega) (by omega), gj_up_up]
        · rw [h4]
          exact g_run_s (by omega) (decide_eq_true h6)
        · rw [gj_up_eq]
          omega
      · rw [if_neg h6, if_pos rfl]
        have : g_sp (M 2) (M 1 1) (M 10 8) = s := by
          rw [h4]
          exact g_run_e (fun q => h6 (of_decide_eq_true q.2))
        rw [← this]
        exact Or.inr key
  · rw [gj_up_eq]
    show _ < 2048
    omega
