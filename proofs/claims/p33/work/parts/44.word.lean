/-! PURE: the words of the lines -/
def g_mt (t : Int → Int) (s : Int) (j : Nat) : Nat → Bool
  | 0 => true
  | k + 1 => g_mt t s j k && decide (gj_ch j k = t (s + (k : Int)))
/-- the j-th word of the lines stands from s up to e -/
def g_is (t : Int → Int) (s e : Int) (j : Nat) : Bool := decide (gj_len j = e - s) && g_mt t s j (gj_sl.getD j 0)
theorem g_mt_mono {t : Int → Int} {s : Int} {j : Nat} : ∀ {k m : Nat}, k ≤ m → g_mt t s j k = false → g_mt t s j m = false
  | k, 0, h, hf => by
    have : k = 0 := by omega
    subst this
    exact hf
  | k, m + 1, h, hf => by
    by_cases e : k = m + 1
    · rw [← e]; exact hf
    · show (g_mt t s j m && _) = false
      rw [g_mt_mono (by omega) hf]
      rfl
theorem g_len_ge {j : Nat} (hj : j < 9) : 3 ≤ gj_len j ∧ gj_len j ≤ 5 := by
  have h := gj_sl_ok j hj
  unfold gj_len
  omega
theorem g_is_first {t : Int → Int} {s e : Int} {j : Nat} (hj : j < 9) (h : g_is t s e j = true) : g_le t s = true := by
  unfold g_is at h
  rw [Bool.and_eq_true] at h
  have h1 := gj_sl_ok j hj
  have h2 : g_mt t s j 1 = true := by
    cases hm : g_mt t s j 1 with
    | true => rfl
    | false =>
      have := g_mt_mono (show 1 ≤ gj_sl.getD j 0 by omega) hm
      rw [h.2] at this
      cases this
  have h3 : gj_ch j 0 = t (s + ((0 : Nat) : Int)) := by
    change (true && decide (gj_ch j 0 = t (s + ((0 : Nat) : Int)))) = true at h2
    rw [Bool.true_and] at h2
    exact of_decide_eq_true h2
  have h4 : ∀ j, j < 9 → 97 ≤ gj_ch j 0 ∧ gj_ch j 0 ≤ 122 := by decide +kernel
  have h5 := h4 j hj
  have e0 : s + ((0 : Nat) : Int) = s := Int.add_zero s
  rw [h3, e0] at h5
  exact decide_eq_true h5
theorem g_mt_eq {t u : Int → Int} {n s : Int} {j : Nat} (h : g_TT t u n) (hj : j < 9) (hs : 0 ≤ s) : ∀ k : Nat, k ≤ 5 → s + (k : Int) ≤ n → g_mt t s j k = g_mt u s j k
  | 0, _, _ => rfl
  | k + 1, hk, hn => by
    show (g_mt t s j k && _) = (g_mt u s j k && _)
    rw [g_mt_eq h hj hs k (by omega) (by omega)]
    have h1 := gj_ch_ok j hj k (by omega)
    have h2 := g_TT_b8 h (i := s + (k : Int)) (by omega) (by omega)
    have h3 := h (s + (k : Int)) (by omega) (by omega)
    congr 1
    exact decide_eq_decide.mpr (by omega)
theorem g_is_eq {t u : Int → Int} {n s e : Int} {j : Nat} (h : g_TT t u n) (hj : j < 9) (hs : 0 ≤ s) (he : e ≤ n) : g_is t s e j = g_is u s e j := by
  unfold g_is
  by_cases hl : gj_len j = e - s
  · have h1 := gj_sl_ok j hj
    have h2 : gj_len j = ((gj_sl.getD j 0 : Nat) : Int) := rfl
    rw [g_mt_eq h hj hs _ (by omega) (by omega)]
  · rw [decide_eq_false hl]
    rfl
/-- which of the lines' words: the first; -1 none -/
def g_wh (t : Int → Int) (s e : Int) : Int := if g_is t s e 0 = true then 0 else if g_is t s e 1 = true then 1 else if g_is t s e 2 = true then 2 else if g_is t s e 3 = true then 3 else if g_is t s e 4 = true then 4 else if g_is t s e 5 = true then 5 else if g_is t s e 6 = true then 6 else if g_is t s e 7 = true then 7 else if g_is t s e 8 = true then 8 else -1
theorem g_wh_eq {t u : Int → Int} {n s e : Int} (h : g_TT t u n) (hs : 0 ≤ s) (he : e ≤ n) : g_wh t s e = g_wh u s e := by
  unfold g_wh
  rw [g_is_eq h (j := 0) (by decide) hs he, g_is_eq h (j := 1) (by decide) hs he, g_is_eq h (j := 2) (by decide) hs he, g_is_eq h (j := 3) (by decide) hs he, g_is_eq h (j := 4) (by decide) hs he, g_is_eq h (j := 5) (by decide) hs he, g_is_eq h (j := 6) (by decide) hs he, g_is_eq h (j := 7) (by decide) hs he, g_is_eq h (j := 8) (by decide) hs he]
theorem g_wh_at {t : Int → Int} {s e : Int} {w : Nat} (hw : w < 9) (h : ∀ j, j < w → g_is t s e j = false) (h1 : g_is t s e w = true) : g_wh t s e = w := by
  unfold g_wh
  have : w = 0 ∨ w = 1 ∨ w = 2 ∨ w = 3 ∨ w = 4 ∨ w = 5 ∨ w = 6 ∨ w = 7 ∨ w = 8 := by omega
  rcases this with rfl | rfl | rfl | rfl | rfl | rfl | rfl | rfl | rfl
  all_goals
    simp (config := { decide := true }) only [h, h1, if_true, Bool.false_eq_true, if_false]
    try rfl
theorem g_wh_no {t : Int → Int} {s e : Int} (h : ∀ j, j < 9 → g_is t s e j = false) : g_wh t s e = -1 := by
  unfold g_wh
  simp (config := { decide := true }) only [h, Bool.false_eq_true, if_false]
-- the class
theorem p_X6_isWord {M : gj_M} {j : Nat} (hj : j < 9) (h : g_CT M) (h0 : 0 ≤ M 10 7) (h1 : M 10 8 ≤ M 1 1) (h2 : M 10 7 ≤ M 10 8) : F_X6_isWord j M = some (if M 10 6 = 1 ∧ g_is (M 2) (M 10 7) (M 10 8) j = true then 1 else 0) := by
  unfold F_X6_isWord
  by_cases hk : M 10 6 = 1
  · rw [if_pos hk]
    have hl := g_len_ge hj
    by_cases hlen : gj_len j = gj_w (M 10 8 - M 10 7)
    · rw [if_pos hlen]
      have hlen2 : gj_len j = M 10 8 - M 10 7 := by unfold gj_w at hlen; have := h.2.1; omega
      have hsl : gj_len j = ((gj_sl.getD j 0 : Nat) : Int) := rfl
      refine gj_lpQ1 (fun y => y = _) (fun i => 0 ≤ i ∧ i ≤ gj_len j ∧ g_mt (M 2) (M 10 7) j i.toNat = true) (fun i => (gj_len j - i).toNat) ?_ gj_fu 0 ⟨by omega, by omega, rfl⟩ ?_
      · rintro rec i ⟨i0, i1, i2⟩
        unfold B_X6_isWord_28
        dsimp only [gj_letI]
        by_cases hi : gj_len j ≤ i
        · rw [if_pos hi]
          refine Or.inr ?_
          have e1 : i.toNat = gj_sl.getD j 0 := by omega
          rw [e1] at i2
          have : g_is (M 2) (M 10 7) (M 10 8) j = true := by
            unfold g_is
            rw [i2, decide_eq_true hlen2]
            rfl
          rw [if_pos ⟨hk, this⟩]
        · have hn := h.2.1
          rw [if_neg hi, gj_chkp (by omega), gj_wle (x := M 10 7 + i) (by omega) (by omega), p_byteAt hn (by omega), if_neg (c := M 1 1 ≤ M 10 7 + i) (by omega), gj_wle (by omega) (by omega)]
          by_cases hc : gj_ch j i.toNat = M 2 (M 10 7 + i)
          · rw [if_pos hc]
            refine Or.inl ⟨i + 1, rfl, ⟨by omega, by omega, ?_⟩, by omega⟩
            rw [show (i + 1).toNat = i.toNat + 1 by omega]
            show (g_mt _ _ _ _ && _) = true
            rw [i2, gj_pN i0, decide_eq_true hc]
            rfl
          · rw [if_neg hc]
            refine Or.inr ?_
            have h3 : g_mt (M 2) (M 10 7) j (i.toNat + 1) = false := by
              show (g_mt _ _ _ _ && _) = false
              rw [gj_pN i0, decide_eq_false hc, Bool.and_false]
            have h4 := g_mt_mono (show i.toNat + 1 ≤ gj_sl.getD j 0 by omega) h3
            have : ¬ (g_is (M 2) (M 10 7) (M 10 8) j = true) := by
              unfold g_is
              rw [h4, Bool.and_false]
              decide
            rw [if_neg (fun q => this q.2)]
      · show _ < 2048
        omega
    · rw [if_neg hlen]
      have : ¬ (g_is (M 2) (M 10 7) (M 10 8) j = true) := by
        unfold g_is
        rw [Bool.and_eq_true]
        rintro ⟨q, -⟩
        refine hlen ?_
        rw [of_decide_eq_true q, gj_wle]
        · have := of_decide_eq_true q; omega
        · have := of_decide_eq_true q; omega
      rw [if_neg (fun q => this q.2)]
  · rw [if_neg hk, if_neg (fun q => hk q.1)]
-- the reference
theorem p_X12_wordHere {M : gj_M} (h : g_RT M) (h0 : 0 ≤ M 79 3) (h1 : M 79 4 ≤ M 79 2) (h2 : M 79 3 ≤ M 79 4) (h3 : M 79 3 < M 79 2 ∨ M 79 4 = M 79 3) : F_X12_wordHere M = some (g_wh (M 81) (M 79 3) (M 79 4)) := by
  obtain ⟨hn0, hn1⟩ := h
  unfold F_X12_wordHere
  refine gj_lpQ1 (fun y => y = _) (fun w => 0 ≤ w ∧ w ≤ 9 ∧ ∀ j : Nat, (j : Int) < w → g_is (M 81) (M 79 3) (M 79 4) j = false) (fun w => (9 - w).toNat) ?_ gj_fu 0 ⟨by omega, by omega, fun j hj => absurd hj (by omega)⟩ (by decide)
  rintro rec w ⟨w0, w1, w2⟩
  unfold B_X12_wordHere_2
  by_cases hw : 9 ≤ w
  · rw [if_pos hw, g_wh_no (fun j hj => w2 j (by omega))]
    exact Or.inr rfl
  · rw [if_neg hw]
    have hj : w.toNat < 9 := by omega
    have hl := g_len_ge hj
    have hsl : gj_len w.toNat = ((gj_sl.getD w.toNat 0 : Nat) : Int) := rfl
    have fin : ∀ y, (g_is (M 81) (M 79 3) (M 79 4) w.toNat = true → y = some w) → (g_is (M 81) (M 79 3) (M 79 4) w.toNat = false → y = rec (w + 1)) →
        (∃ y1 : Int, y = rec y1 ∧ (0 ≤ y1 ∧ y1 ≤ 9 ∧ ∀ j : Nat, (j : Int) < y1 → g_is (M 81) (M 79 3) (M 79 4) j = false) ∧ (9 - y1).toNat < (9 - w).toNat) ∨ y = some (g_wh (M 81) (M 79 3) (M 79 4)) := by
      intro y a b
      cases hi : g_is (M 81) (M 79 3) (M 79 4) w.toNat with
      | true =>
        refine Or.inr ?_
        rw [a hi, g_wh_at hj (fun j hjw => w2 j (by omega)) hi, gj_pN w0]
      | false =>
        refine Or.inl ⟨w + 1, b hi, ⟨by omega, by omega, fun j hj2 => ?_⟩, by omega⟩
        by_cases e : (j : Int) < w
        · exact w2 j e
        · have : j = w.toNat := by omega
          rw [this]
          exact hi
    have j99 : ∀ x, J_X12_wordHere_99 M rec w x = if x = 0 then rec (w + 1) else some w := fun x => by
      unfold J_X12_wordHere_99
      rw [gj_wle (by omega) (by omega)]
    have none : ∀ k, J_X12_wordHere_45 M rec w 0 = rec (w + 1) ∨ k = 0 := fun k => Or.inl (by
      unfold J_X12_wordHere_45
      rw [show gj_fu = 2047 + 1 from rfl, gj_it_s]
      unfold B_X12_wordHere_51
      rw [if_pos rfl, j99, if_pos rfl])
    have no : gj_len w.toNat ≠ M 79 4 - M 79 3 → g_is (M 81) (M 79 3) (M 79 4) w.toNat = false := fun q => by
      unfold g_is
      rw [decide_eq_false q]
      rfl
    have none := (none 1).resolve_right (by decide)
    by_cases hs : M 79 2 ≤ M 79 3
    · rw [if_pos hs, none]
      exact fin _ (fun q => by rw [no (by omega)] at q; cases q) (fun _ => rfl)
    · rw [if_neg hs, gj_chkp (by omega), gj_wle (x := M 79 4 - M 79 3) (by omega) (by omega)]
      by_cases hlen : M 79 4 - M 79 3 = gj_len w.toNat
      · rw [if_pos hlen]
        refine fin _ (fun q => ?_) (fun q => ?_)
        all_goals
          unfold J_X12_wordHere_45
          refine gj_lpQ3 (fun y => y = _) (fun a x k => w = a ∧ M 79 3 ≤ k ∧ k ≤ M 79 4 ∧ x = (if g_mt (M 81) (M 79 3) w.toNat (k - M 79 3).toNat = true then 1 else 0)) (fun _ _ k => (M 79 4 - k).toNat) ?_ gj_fu w 1 (M 79 3) ⟨rfl, by omega, by omega, by rw [Int.sub_self]; rfl⟩ (by show _ < 2048; omega)
          rintro rec2 _ x k ⟨rfl, k0, k1, rfl⟩
          unfold B_X12_wordHere_51
          rw [j99]
          unfold g_is at q
          rw [decide_eq_true (by omega), Bool.true_and] at q
          cases hm : g_mt (M 81) (M 79 3) w.toNat (k - M 79 3).toNat with
          | false =>
            have h9 := g_mt_mono (show (k - M 79 3).toNat ≤ gj_sl.getD w.toNat 0 by omega) hm
            first
              | (rw [h9] at q; exact absurd q (by decide))
              | (have z0 : (if false = true then (1 : Int) else 0) = 0 := rfl
                 refine Or.inr ?_
                 first
                   | (rw [if_pos z0, if_pos z0])
                   | (rw [if_pos z0]))
          | true =>
            simp only [if_true]
            rw [if_neg (by decide)]
            by_cases hk : M 79 4 ≤ k
            · rw [if_pos hk]
              have h9 : g_mt (M 81) (M 79 3) w.toNat (gj_sl.getD w.toNat 0) = true := by rw [← hm]; congr 1; omega
              first
                | (rw [h9] at q; exact absurd q (by decide))
                | exact Or.inr rfl
            · rw [if_neg hk, gj_wle (x := k - M 79 3) (by omega) (by omega), gj_chkp (by omega), gj_chkp (by omega), gj_chkp (by omega)]
              unfold J_X12_wordHere_92
              rw [gj_wle (x := k + 1) (by omega) (by omega)]
              have e1 : (k + 1 - M 79 3).toNat = (k - M 79 3).toNat + 1 := by omega
              have e2 : M 79 3 + (((k - M 79 3).toNat : Nat) : Int) = k := by omega
              have e3 : g_mt (M 81) (M 79 3) w.toNat (k + 1 - M 79 3).toNat = decide (gj_ch w.toNat (k - M 79 3).toNat = M 81 k) := by
                rw [e1]
                show (g_mt _ _ _ _ && _) = _
                rw [hm, e2]
                rfl
              by_cases hc : M 81 k = gj_ch w.toNat (k - M 79 3).toNat
              · rw [if_pos hc]
                exact Or.inl ⟨w, _, k + 1, rfl, ⟨rfl, by omega, by omega, by rw [e3, decide_eq_true hc.symm]; rfl⟩, by omega⟩
              · rw [if_neg hc]
                exact Or.inl ⟨w, _, k + 1, rfl, ⟨rfl, by omega, by omega, by rw [e3, decide_eq_false (fun q => hc q.symm)]; rfl⟩, by omega⟩
      · rw [if_neg hlen, none]
        exact fin _ (fun q => by rw [no (fun w => hlen w.symm)] at q; cases q) (fun _ => rfl)
