/-! PURE: who is named, on both sides -/
theorem p_X6_nameHere {M : gj_M} (h : g_CT M) (hc : g_cur M) : F_X6_nameHere M = some (if M 10 6 = 1 ∧ M 10 8 - M 10 7 ≤ 8 then g_cd 256 0 (g_tw (M 2) (M 10 7) (M 10 8)) else 0) := by
  obtain ⟨hn0, hn1, hb⟩ := id h
  obtain ⟨a, b, c, d⟩ := id hc
  have hge := g_en_ge (t := M 2) (n := M 1 1) (s := M 10 7)
  have hle := g_en_le (t := M 2) (n := M 1 1) (s := M 10 7) b
  unfold F_X6_nameHere
  rw [gj_wle (x := M 10 8 - M 10 7) (by omega) (by omega)]
  by_cases hk : M 10 6 = 1
  · rw [if_pos hk]
    by_cases h8 : M 10 8 - M 10 7 ≤ 8
    · rw [if_pos h8, if_pos ⟨hk, h8⟩]
      have hk2 := g_kd1.mp (c.symm.trans hk)
      have hd : ∀ i, M 10 7 ≤ i → i < M 10 8 → g_le (M 2) i = true := fun i p q => g_en_ltr hk2.1 hk2.2 p (by omega)
      refine gj_lpQ2 (fun y => y = _) (fun x k => M 10 7 ≤ k ∧ k ≤ M 10 8 ∧ x = g_cd 256 0 (g_tw (M 2) (M 10 7) k)) (fun _ k => (M 10 8 - k).toNat) ?_ gj_fu 0 (M 10 7) ⟨by omega, by omega, by rw [g_tw_z]; rfl⟩ (by show _ < 2048; omega)
      rintro rec x k ⟨k0, k1, rfl⟩
      unfold B_X6_nameHere_31
      by_cases hk : M 10 8 ≤ k
      · rw [if_pos hk, show k = M 10 8 by omega]
        exact Or.inr rfl
      · rw [if_neg hk]
        refine Or.inl ⟨_, k + 1, ?_, ⟨by omega, by omega, rfl⟩, by omega⟩
        dsimp only [gj_letI]
        have hw1 := g_cd_a8 (w := g_tw (M 2) (M 10 7) (k + 1)) (g_tw_ls fun i a b => hd i a (by omega)) (by rw [g_tw_len]; omega)
        have hw0 := g_cd_a8 (w := g_tw (M 2) (M 10 7) k) (g_tw_ls fun i a b => hd i a (by omega)) (by rw [g_tw_len]; omega)
        have dg := of_decide_eq_true (hd k k0 (by omega))
        rw [g_tw_s k0] at hw1 ⊢
        change 0 ≤ 256 * _ + (M 2 k - 0) ∧ 256 * _ + (M 2 k - 0) < _ at hw1
        show rec (gj_wl (gj_wl (_ * 256) + _)) _ = rec (256 * _ + (M 2 k - 0)) (k + 1)
        rw [p_byteAt hn1 (by omega), if_neg (by omega), gj_wle (x := k + 1) (by omega) (by omega), gj_wlle (x := _ * 256) (by omega) (by omega), gj_wlle (by omega) (by omega)]
        congr 1
        omega
    · rw [if_neg h8, if_neg (fun q => h8 q.2)]
  · rw [if_neg hk, if_neg (fun q => hk q.1)]
theorem p_X6_isLineWord {M : gj_M} (h : g_CT M) (hc : g_cur M) (hk : M 10 6 = 1) : ∃ x, F_X6_isLineWord M = some x ∧ (x = 0 ↔ g_wh (M 2) (M 10 7) (M 10 8) = -1) := by
  obtain ⟨a, b, c, d⟩ := id hc
  have hge := g_en_ge (t := M 2) (n := M 1 1) (s := M 10 7)
  have hle := g_en_le (t := M 2) (n := M 1 1) (s := M 10 7) b
  have hw : ∀ j, j < 9 → F_X6_isWord j M = some (if g_is (M 2) (M 10 7) (M 10 8) j = true then 1 else 0) := fun j hj => by
    rw [p_X6_isWord hj h a (by omega) (by omega)]
    by_cases q : g_is (M 2) (M 10 7) (M 10 8) j = true
    · rw [if_pos ⟨hk, q⟩, if_pos q]
    · rw [if_neg (fun e => q e.2), if_neg q]
  unfold F_X6_isLineWord g_wh
  rw [hw 0 (by decide), hw 1 (by decide), hw 2 (by decide), hw 3 (by decide), hw 4 (by decide), hw 5 (by decide), hw 6 (by decide), hw 7 (by decide), hw 8 (by decide)]
  dsimp only [gj_bnd]
  have z : ∀ (q : Prop) [Decidable q], ((if q then (1 : Int) else 0) = 0) ↔ ¬ q := fun q _ => by by_cases e : q <;> simp [e]
  simp only [z]
  by_cases q0 : g_is (M 2) (M 10 7) (M 10 8) 0 = true
  · exact ⟨1, by rw [if_neg (fun e => e q0)], by rw [if_pos q0]; decide⟩
  rw [if_pos q0, if_neg q0]
  by_cases q1 : g_is (M 2) (M 10 7) (M 10 8) 1 = true
  · exact ⟨1, by rw [if_neg (fun e => e q1)], by rw [if_pos q1]; decide⟩
  rw [if_pos q1, if_neg q1]
  by_cases q2 : g_is (M 2) (M 10 7) (M 10 8) 2 = true
  · exact ⟨1, by rw [if_neg (fun e => e q2)], by rw [if_pos q2]; decide⟩
  rw [if_pos q2, if_neg q2]
  by_cases q3 : g_is (M 2) (M 10 7) (M 10 8) 3 = true
  · exact ⟨1, by rw [if_neg (fun e => e q3)], by rw [if_pos q3]; decide⟩
  rw [if_pos q3, if_neg q3]
  by_cases q4 : g_is (M 2) (M 10 7) (M 10 8) 4 = true
  · exact ⟨1, by rw [if_neg (fun e => e q4)], by rw [if_pos q4]; decide⟩
  rw [if_pos q4, if_neg q4]
  by_cases q5 : g_is (M 2) (M 10 7) (M 10 8) 5 = true
  · exact ⟨1, by rw [if_neg (fun e => e q5)], by rw [if_pos q5]; decide⟩
  rw [if_pos q5, if_neg q5]
  by_cases q6 : g_is (M 2) (M 10 7) (M 10 8) 6 = true
  · exact ⟨1, by rw [if_neg (fun e => e q6)], by rw [if_pos q6]; decide⟩
  rw [if_pos q6, if_neg q6]
  by_cases q7 : g_is (M 2) (M 10 7) (M 10 8) 7 = true
  · exact ⟨1, by rw [if_neg (fun e => e q7)], by rw [if_pos q7]; decide⟩
  rw [if_pos q7, if_neg q7]
  by_cases q8 : g_is (M 2) (M 10 7) (M 10 8) 8 = true
  · exact ⟨1, by rw [if_neg (fun e => e q8)], by rw [if_pos q8]; decide⟩
  exact ⟨0, by rw [if_pos q8], by rw [if_neg q8]; decide⟩
theorem p_X12_nameHere {M : gj_M} (h : g_RT M) (hc : g_rcur M) : F_X12_nameHere M = some (if g_kd (M 81) (M 79 2) (M 79 3) = 1 ∧ M 79 4 - M 79 3 ≤ 8 ∧ g_wh (M 81) (M 79 3) (M 79 4) = -1 then g_cd 32 96 (g_tw (M 81) (M 79 3) (M 79 4)) else -1) := by
  obtain ⟨hn0, hn1⟩ := id h
  obtain ⟨a, b, d⟩ := id hc
  have hge := g_en_ge (t := M 81) (n := M 79 2) (s := M 79 3)
  have hle := g_en_le (t := M 81) (n := M 79 2) (s := M 79 3) b
  unfold F_X12_nameHere
  rw [p_between h a]
  dsimp only [gj_bnd]
  rw [gj_wle (x := M 79 4 - M 79 3) (by omega) (by omega)]
  have hlet : (M 79 3 < M 79 2 ∧ 97 ≤ M 81 (M 79 3) ∧ M 81 (M 79 3) ≤ 122) ↔ g_kd (M 81) (M 79 2) (M 79 3) = 1 := by
    rw [g_kd1]
    unfold g_le
    rw [decide_eq_true_eq]
  by_cases hk : g_kd (M 81) (M 79 2) (M 79 3) = 1
  · rw [if_pos (hlet.mpr hk), if_neg (by decide)]
    have hk2 := g_kd1.mp hk
    have hd : ∀ i, M 79 3 ≤ i → i < M 79 4 → g_le (M 81) i = true := fun i p q => g_en_ltr hk2.1 hk2.2 p (by omega)
    by_cases h8 : M 79 4 - M 79 3 ≤ 8
    · rw [if_neg (by omega), p_X12_wordHere h a (by omega) (by omega) (Or.inl hk2.1)]
      dsimp only [gj_bnd]
      by_cases hw : g_wh (M 81) (M 79 3) (M 79 4) = -1
      · rw [if_pos hw, if_pos ⟨hk, h8, hw⟩]
        refine gj_lpQ2 (fun y => y = _) (fun x k => M 79 3 ≤ k ∧ k ≤ M 79 4 ∧ x = g_cd 32 96 (g_tw (M 81) (M 79 3) k)) (fun _ k => (M 79 4 - k).toNat) ?_ gj_fu 0 (M 79 3) ⟨by omega, by omega, by rw [g_tw_z]; rfl⟩ (by show _ < 2048; omega)
        rintro rec x k ⟨k0, k1, rfl⟩
        unfold B_X12_nameHere_48
        by_cases hk : M 79 4 ≤ k
        · rw [if_pos hk, show k = M 79 4 by omega]
          exact Or.inr rfl
        · rw [if_neg hk, gj_chkp (by omega)]
          refine Or.inl ⟨_, k + 1, ?_, ⟨by omega, by omega, rfl⟩, by omega⟩
          dsimp only [gj_letI]
          have hw0 := g_cd_r8 (w := g_tw (M 81) (M 79 3) k) (g_tw_ls fun i a b => hd i a (by omega)) (by rw [g_tw_len]; omega)
          have dg := of_decide_eq_true (hd k k0 (by omega))
          rw [g_tw_s k0]
          show rec _ _ = rec (32 * _ + (M 81 k - 96)) (k + 1)
          rw [gj_wle (x := k + 1) (by omega) (by omega), gj_wlle (x := 32 * _) (by omega) (by omega), gj_wlle (x := 32 * _ + M 81 k) (by omega) (by omega), gj_wlle (x := 32 * _ + M 81 k - 97) (by omega) (by omega), gj_wlle (by omega) (by omega)]
          congr 1
          omega
      · rw [if_neg hw, if_neg (fun q => hw q.2.2)]
    · rw [if_pos (by omega), if_neg (fun q => h8 q.2.1)]
  · rw [if_neg (fun q => hk (hlet.mp q)), if_pos rfl, if_neg (fun q => hk q.1)]
/-- a person of the heads at z -/
def g_pe (M : gj_M) (z i : Int) : Prop := (i < 4 ∧ i < M z 0) ∨ (4 ≤ i ∧ i - 4 < M z 1)
/-- r is the first of q below 8 -/
def g_F (q : Int → Prop) (r : Int) : Prop := (0 ≤ r ∧ r < 8 ∧ q r ∧ ∀ i, 0 ≤ i → i < r → ¬ q i) ∨ (r = -1 ∧ ∀ i, 0 ≤ i → i < 8 → ¬ q i)
theorem g_F_eq {q q' : Int → Prop} {r r' : Int} (h : g_F q r) (h' : g_F q' r') (e : ∀ i, 0 ≤ i → i < 8 → (q i ↔ q' i)) : r = r' := by
  rcases h with ⟨a, b, c, d⟩ | ⟨a, b⟩ <;> rcases h' with ⟨a', b', c', d'⟩ | ⟨a', b'⟩
  · by_cases h1 : r < r'
    · exact absurd ((e r a b).mp c) (d' r a h1)
    · by_cases h2 : r' < r
      · exact absurd ((e r' a' b').mpr c') (d r' a' h2)
      · omega
  · exact absurd ((e r a b).mp c) (b' r a b)
  · exact absurd ((e r' a' b').mpr c') (b r' a' b')
  · omega
theorem p_isPerson_3 {M : gj_M} {i : Int} (h0 : 0 ≤ i) (h8 : i < 8) : f_X5_isPerson_3 i M = 0 ↔ ¬ g_pe M 3 i := by
  unfold f_X5_isPerson_3 g_pe
  rw [gj_wle (by omega) (by omega)]
  (repeat' split) <;> omega
theorem p_X6_slotNamed {M : gj_M} {x : Int} : ∃ r, F_X6_slotNamed x M = some r ∧ g_F (fun i => x ≠ 0 ∧ g_pe M 3 i ∧ M 11 i = x) r := by
  unfold F_X6_slotNamed
  refine gj_lpQ2 (fun y => ∃ r, y = some r ∧ g_F (fun i => x ≠ 0 ∧ g_pe M 3 i ∧ M 11 i = x) r) (fun y k => y = x ∧ 0 ≤ k ∧ k ≤ 8 ∧ ∀ i, 0 ≤ i → i < k → ¬ (x ≠ 0 ∧ g_pe M 3 i ∧ M 11 i = x)) (fun _ k => (8 - k).toNat) ?_ gj_fu x 0 ⟨rfl, by omega, by omega, fun i a b => by omega⟩ (by show _ < 2048; omega)
  rintro rec y k ⟨hy, k0, k8, hn⟩
  rw [hy]
  unfold B_X6_slotNamed_2
  by_cases hk : 8 ≤ k
  · rw [if_pos hk]
    exact Or.inr ⟨-1, rfl, Or.inr ⟨rfl, fun i a b => hn i a (by omega)⟩⟩
  · rw [if_neg hk, gj_wle (x := k + 1) (by omega) (by omega)]
    have go : ¬ (x ≠ 0 ∧ g_pe M 3 k ∧ M 11 k = x) → ∃ y0 y1, rec x (k + 1) = rec y0 y1 ∧ (y0 = x ∧ 0 ≤ y1 ∧ y1 ≤ 8 ∧ ∀ i, 0 ≤ i → i < y1 → ¬ (x ≠ 0 ∧ g_pe M 3 i ∧ M 11 i = x)) ∧ (8 - y1).toNat < (8 - k).toNat := fun q => by
      refine ⟨x, k + 1, rfl, ⟨rfl, by omega, by omega, fun i a b => ?_⟩, by omega⟩
      by_cases e : i = k
      · rw [e]; exact q
      · exact hn i a (by omega)
    by_cases hx : x = 0
    · rw [if_pos hx]
      exact Or.inl (go (fun q => q.1 hx))
    · rw [if_neg hx]
      dsimp only [gj_letI]
      by_cases hp : f_X5_isPerson_3 k M = 0
      · rw [if_pos hp]
        exact Or.inl (go (fun q => (p_isPerson_3 k0 (by omega)).mp hp q.2.1))
      · rw [if_neg hp, gj_chkp (by omega)]
        by_cases he : M 11 k = x
        · rw [if_pos he]
          exact Or.inr ⟨k, rfl, Or.inl ⟨k0, by omega, ⟨hx, Classical.byContradiction fun q => hp ((p_isPerson_3 k0 (by omega)).mpr q), he⟩, hn⟩⟩
        · rw [if_neg he]
          exact Or.inl (go (fun q => he q.2.2))
theorem p_X12_found {M : gj_M} (h : g_RT M) (hc : g_rcur M) (h0 : 0 ≤ M 102 0 ∧ M 102 0 ≤ 4) (h1 : 0 ≤ M 102 1 ∧ M 102 1 ≤ 4) : ∃ r, F_X12_found M = some r ∧ ∀ x, F_X12_nameHere M = some x → g_F (fun i => g_pe M 102 i ∧ M 103 i = x) r := by
  unfold F_X12_found
  rw [p_X12_nameHere h hc]
  dsimp only [gj_bnd]
  generalize (if g_kd (M 81) (M 79 2) (M 79 3) = 1 ∧ M 79 4 - M 79 3 ≤ 8 ∧ g_wh (M 81) (M 79 3) (M 79 4) = -1 then g_cd 32 96 (g_tw (M 81) (M 79 3) (M 79 4)) else -1) = x
  have side : ∀ l, l = 0 ∨ l = 1 → ∀ i, 4 * l ≤ i → i < 4 * l + 4 → (g_pe M 102 i ↔ i - 4 * l < M 102 l) := by
    intro l hl i a b
    unfold g_pe
    rcases hl with rfl | rfl <;> omega
  refine Exists.elim (show ∃ r, gj_it (fun _ _ => none) (B_X12_found_7 M) gj_fu x 0 = some r ∧ g_F (fun i => g_pe M 102 i ∧ M 103 i = x) r from ?_) (fun r q => ⟨r, q.1, fun y e => by injection e with e; rw [← e]; exact q.2⟩)
  refine gj_lpQ2 (fun y => ∃ r, y = some r ∧ g_F (fun i => g_pe M 102 i ∧ M 103 i = x) r) (fun y k => y = x ∧ 0 ≤ k ∧ k ≤ 2 ∧ ∀ i, 0 ≤ i → i < 4 * k → ¬ (g_pe M 102 i ∧ M 103 i = x)) (fun _ k => (2 - k).toNat) ?_ gj_fu x 0 ⟨rfl, by omega, by omega, fun i a b => by omega⟩ (by show _ < 2048; omega)
  rintro rec y k ⟨hy, k0, k2, hn⟩
  rw [hy]
  unfold B_X12_found_7
  by_cases hk : 2 ≤ k
  · rw [if_pos hk]
    exact Or.inr ⟨-1, rfl, Or.inr ⟨rfl, fun i a b => hn i a (by omega)⟩⟩
  · rw [if_neg hk]
    have hl : k = 0 ∨ k = 1 := by omega
    have hb : 0 ≤ M 102 k ∧ M 102 k ≤ 4 := by rcases hl with rfl | rfl; exact h0; exact h1
    have inner : (gj_it (fun _ _ _ => none) (B_X12_found_15 M rec) gj_fu x k 0 = rec x (k + 1) ∧ ∀ i, 4 * k ≤ i → i < 4 * k + 4 → ¬ (g_pe M 102 i ∧ M 103 i = x)) ∨ (∃ r, gj_it (fun _ _ _ => none) (B_X12_found_15 M rec) gj_fu x k 0 = some r ∧ g_F (fun i => g_pe M 102 i ∧ M 103 i = x) r) := by
      refine gj_lpQ3 (fun y => (y = rec x (k + 1) ∧ ∀ i, 4 * k ≤ i → i < 4 * k + 4 → ¬ (g_pe M 102 i ∧ M 103 i = x)) ∨ (∃ r, y = some r ∧ g_F (fun i => g_pe M 102 i ∧ M 103 i = x) r)) (fun y l m => y = x ∧ l = k ∧ 0 ≤ m ∧ m ≤ M 102 k ∧ ∀ i, 4 * k ≤ i → i < 4 * k + m → ¬ (g_pe M 102 i ∧ M 103 i = x)) (fun _ _ m => (M 102 k - m).toNat) ?_ gj_fu x k 0 ⟨rfl, rfl, by omega, by omega, fun i a b => by omega⟩ (by show _ < 2048; omega)
      rintro rec2 y l m ⟨hy, hl2, m0, m1, hm⟩
      rw [hy, hl2]
      unfold B_X12_found_15
      rw [gj_chkp (by omega)]
      by_cases hm2 : M 102 k ≤ m
      · rw [if_pos hm2]
        unfold J_X12_found_57
        rw [gj_wle (by omega) (by omega)]
        refine Or.inr (Or.inl ⟨rfl, fun i a b q => ?_⟩)
        by_cases e : i < 4 * k + m
        · exact hm i a e q
        · have := (side k hl i a b).mp q.1
          omega
      · rw [if_neg hm2, gj_wle (x := 4 * k) (by omega) (by omega), gj_wle (x := 4 * k + m) (by omega) (by omega), gj_chkp (by omega), gj_wle (x := m + 1) (by omega) (by omega)]
        by_cases he : M 103 (4 * k + m) = x
        · rw [if_pos he]
          unfold J_X12_found_44
          rw [gj_wle (x := 4 * k) (by omega) (by omega), gj_wle (x := 4 * k + m) (by omega) (by omega)]
          refine Or.inr (Or.inr ⟨_, rfl, Or.inl ⟨by omega, by omega, ⟨(side k hl _ (by omega) (by omega)).mpr (by omega), he⟩, fun i a b => ?_⟩⟩)
          by_cases e : i < 4 * k
          · exact hn i a e
          · exact hm i (by omega) b
        · rw [if_neg he]
          refine Or.inl ⟨x, k, m + 1, rfl, ⟨rfl, rfl, by omega, by omega, fun i a b => ?_⟩, by omega⟩
          by_cases e : i = 4 * k + m
          · rw [e]; exact fun q => he q.2
          · exact hm i a (by omega)
    rcases inner with ⟨e, hq⟩ | ⟨r, e, hq⟩
    · refine Or.inl ⟨x, k + 1, e, ⟨rfl, by omega, by omega, fun i a b => ?_⟩, by omega⟩
      by_cases e : i < 4 * k
      · exact hn i a e
      · exact hq i (by omega) (by omega)
    · exact Or.inr ⟨r, e, hq⟩
