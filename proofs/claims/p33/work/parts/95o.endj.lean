/-! PURE: pairs end, side by side -/
theorem g_upr {M : gj_M} {z i v w : Int} (h : w ≠ z) : gj_up M z i v w = M w := funext fun _ => gj_up_z h
/-- a new line told of a pair's end -/
def g_wn (y p t r w k : Int) : Int := if k = 0 then y else if k = 1 then p else if k = 2 then t else if k = 3 then r else w
theorem g_LG_add {f c s : Int} {row row' logs logs' w : Int → Int} {m : Int} (h : g_LG f c row m logs) (hs : (c = 40 ∧ s = 1) ∨ (c < 40 ∧ s = 0)) (hrow : ∀ x, 0 ≤ x → x < 200 → row' x = if (f + c) % 40 * 5 ≤ x ∧ x < (f + c) % 40 * 5 + 5 then w (x - (f + c) % 40 * 5) else row x) (h1 : ∀ x, 0 ≤ x → x < 5 * (c - s) → logs' x = logs (x + 5 * s)) (h2 : ∀ k, 0 ≤ k → k < 5 → logs' (5 * (c - s) + k) = w k) : g_LG ((f + s) % 40) (c + 1 - s) row' (c + 1 - s) logs' := by
  obtain ⟨-, c0, f0, hl⟩ := h
  refine ⟨rfl, by omega, by omega, fun i k i0 i1 k0 k1 => ?_⟩
  by_cases e : i = c - s
  · rw [show ((f + s) % 40 + i) % 40 = (f + c) % 40 by omega, hrow _ (by omega) (by omega), if_pos (by omega), show 5 * i + k = 5 * (c - s) + k by omega, h2 k k0 k1]
    congr 1
    omega
  · rw [h1 _ (by omega) (by omega), hrow _ (by omega) (by omega), if_neg (by omega), show 5 * i + k + 5 * s = 5 * (i + s) + k by omega, ← hl (i + s) k (by omega) (by omega) k0 k1, show ((f + s) % 40 + i) % 40 = (f + (i + s)) % 40 by omega]
/-- the class's own -/
theorem p_add {a1 a2 a3 a4 a5 s : Int} {M : gj_M} (hf : 0 ≤ M 29 1 ∧ M 29 1 < 40) (hc : 0 ≤ M 29 2 ∧ M 29 2 ≤ 40) (hs : (M 29 2 = 40 ∧ s = 1) ∨ (M 29 2 < 40 ∧ s = 0)) : f_X1_add a1 a2 a3 a4 a5 M 29 1 = (M 29 1 + s) % 40 ∧ f_X1_add a1 a2 a3 a4 a5 M 29 2 = M 29 2 + 1 - s ∧ ∀ x, 0 ≤ x → x < 200 → f_X1_add a1 a2 a3 a4 a5 M 30 x = if (M 29 1 + M 29 2) % 40 * 5 ≤ x ∧ x < (M 29 1 + M 29 2) % 40 * 5 + 5 then g_wn a1 a2 a3 a4 a5 (x - (M 29 1 + M 29 2) % 40 * 5) else M 30 x := by
  obtain ⟨b, hb⟩ : ∃ b, b = (M 29 1 + M 29 2) % 40 * 5 := ⟨_, rfl⟩
  rw [← hb]
  have b0 : 0 ≤ b ∧ b + 5 ≤ 200 := by omega
  obtain ⟨K, hK⟩ : ∃ K, K = gj_up (gj_up (gj_up (gj_up (gj_up M 30 b a1) 30 (b + 1) a2) 30 (b + 2) a3) 30 (b + 3) a4) 30 (b + 4) a5 := ⟨_, rfl⟩
  have k29 : ∀ i, K 29 i = M 29 i := fun i => by rw [hK, gj_up_z (by decide), gj_up_z (by decide), gj_up_z (by decide), gj_up_z (by decide), gj_up_z (by decide)]
  have k30 : ∀ x, K 30 x = if b ≤ x ∧ x < b + 5 then g_wn a1 a2 a3 a4 a5 (x - b) else M 30 x := fun x => by
    rw [hK, gj_up_if, gj_up_if, gj_up_if, gj_up_if, gj_up_if]
    unfold g_wn
    by_cases e4 : x = b + 4
    · rw [if_pos e4, if_pos (by omega), if_neg (by omega), if_neg (by omega), if_neg (by omega), if_neg (by omega)]
    rw [if_neg e4]
    by_cases e3 : x = b + 3
    · rw [if_pos e3, if_pos (by omega), if_neg (by omega), if_neg (by omega), if_neg (by omega), if_pos (by omega)]
    rw [if_neg e3]
    by_cases e2 : x = b + 2
    · rw [if_pos e2, if_pos (by omega), if_neg (by omega), if_neg (by omega), if_pos (by omega)]
    rw [if_neg e2]
    by_cases e1 : x = b + 1
    · rw [if_pos e1, if_pos (by omega), if_neg (by omega), if_pos (by omega)]
    rw [if_neg e1]
    by_cases e0 : x = b
    · rw [if_pos e0, if_pos (by omega), if_pos (by omega)]
    rw [if_neg e0, if_neg (by omega)]
  have e : f_X1_add a1 a2 a3 a4 a5 M = if 40 ≤ M 29 2 then gj_up K 29 1 ((M 29 1 + 1) % 40) else gj_up K 29 2 (M 29 2 + 1) := by
    have k1 := k29 1
    have k2 := k29 2
    unfold f_X1_add
    dsimp only [gj_letI]
    rw [gj_wle (x := M 29 1 + M 29 2) (by omega) (by omega), g_tmod (by omega), gj_wle (x := (M 29 1 + M 29 2) % 40 * 5) (by omega) (by omega), ← hb, f_put_in (by omega), gj_let_s, gj_wle (x := b + 1) (by omega) (by omega), f_put_in (by omega), gj_let_s, gj_wle (x := b + 2) (by omega) (by omega), f_put_in (by omega), gj_let_s, gj_wle (x := b + 3) (by omega) (by omega), f_put_in (by omega), gj_let_s, gj_wle (x := b + 4) (by omega) (by omega), f_put_in (by omega), gj_let_s, ← hK, k1, k2, gj_wle (x := M 29 1 + 1) (by omega) (by omega), g_tmod (by omega), gj_wle (x := M 29 2 + 1) (by omega) (by omega), gj_let_s, gj_let_s]
  rw [e]
  by_cases c : 40 ≤ M 29 2
  · rw [if_pos c, gj_up_eq, gj_up_i (by decide), k29, g_upr (by decide)]
    refine ⟨by rw [show s = 1 by omega], by omega, fun x _ _ => k30 x⟩
  · rw [if_neg c, gj_up_eq, gj_up_i (by decide), k29, g_upr (by decide)]
    refine ⟨by rw [show s = 0 by omega]; omega, by omega, fun x _ _ => k30 x⟩
/-- the reference's own -/
theorem p_notes48 {N : gj_M} {p w c : Int} (c136 : 136 ≤ c) (p8 : 0 ≤ p ∧ p < 8) (h40 : 0 ≤ N 79 29 ∧ N 79 29 < 40) : ∃ K, J_X12_notes_48 p w c N = some (c + 1, K) ∧ K 79 29 = N 79 29 + 1 ∧ (∀ x, K 122 x = if 5 * N 79 29 ≤ x ∧ x < 5 * N 79 29 + 5 then g_wn (N 79 27) p (f_X12_told (N 108 p) N) (N 109 p) w (x - 5 * N 79 29) else N 122 x) ∧ gj_Fr [122] [(79, 29)] N K := by
  obtain ⟨m, hm⟩ : ∃ m, m = N 79 29 := ⟨_, rfl⟩
  obtain ⟨W, hW⟩ : ∃ W : Int → Int, W = g_wn (N 79 27) p (f_X12_told (N 108 p) N) (N 109 p) w := ⟨_, rfl⟩
  rw [← hm, ← hW]
  suffices hh : ∀ P : Option (Int × gj_M) → Prop, (∀ K, K 79 29 = m + 1 → (∀ x, K 122 x = if 5 * m ≤ x ∧ x < 5 * m + 5 then W (x - 5 * m) else N 122 x) → gj_Fr [122] [(79, 29)] N K → P (some (c + 1, K))) → P (J_X12_notes_48 p w c N) from hh (fun y => ∃ K, y = some (c + 1, K) ∧ K 79 29 = m + 1 ∧ (∀ x, K 122 x = if 5 * m ≤ x ∧ x < 5 * m + 5 then W (x - 5 * m) else N 122 x) ∧ gj_Fr [122] [(79, 29)] N K) (fun K a b d => ⟨K, rfl, a, b, d⟩)
  intro P done
  have gen : ∀ K : gj_M, (∀ z i, z < 136 → K z i = N z i) → (∀ k, 0 ≤ k → k < 5 → K c k = W k) → P (gj_it (fun _ _ _ _ => none) B_X12_notes_91 gj_fu 0 c (c + 1) K) := by
    intro K hK hw
    refine gj_okM3 P (fun l zz d J => zz = c ∧ d = c + 1 ∧ 0 ≤ l ∧ l ≤ 5 ∧ gj_Fr [122] [] N J ∧ (∀ k, 0 ≤ k → k < 5 → J c k = W k) ∧ ∀ x, J 122 x = if 5 * m ≤ x ∧ x < 5 * m + l then W (x - 5 * m) else N 122 x) (fun l _ _ _ => (5 - l).toNat) ?_ gj_fu 0 c (c + 1) K ⟨rfl, rfl, by omega, by omega, fun z i a _ => hK z i a, hw, fun x => by rw [hK 122 x (by decide), if_neg (by omega)]⟩ (by show _ < 2048; omega)
    rintro rec l zz d J ⟨e0, e1, a, b, f, hc, hx⟩ hr
    rw [e0, e1]
    unfold B_X12_notes_91 J_X12_notes_121
    have j29 : J 79 29 = m := by rw [f 79 29 (by decide) (by decide)]; exact hm.symm
    rw [j29, gj_wle (x := 5 * m) (by omega) (by omega)]
    refine k_ite (fun q => ?_) (fun q => ?_)
    · rw [gj_let_s, gj_wle (x := m + 1) (by omega) (by omega)]
      refine done _ gj_up_eq (fun x => ?_) ((f.wide (by decide)).up (by decide))
      rw [gj_up_z (by decide), hx x, show l = 5 by omega]
    · rw [gj_wle (x := 5 * m + l) (by omega) (by omega), gj_wle (x := l + 1) (by omega) (by omega)]
      refine k_chk (by omega) (k_chk (by omega) ?_)
      rw [gj_let_s]
      refine hr _ _ _ _ ⟨rfl, rfl, by omega, by omega, f.up (by rw [show [122].contains (122 : Int) = true from rfl]; rfl), fun k k0 k1 => by rw [gj_up_z (by omega)]; exact hc k k0 k1, fun x => ?_⟩ (by omega)
      rw [gj_up_if, hx x, hc l a (by omega)]
      by_cases e : x = 5 * m + l
      · rw [if_pos e, if_pos (by omega)]
        congr 1
        omega
      · rw [if_neg e]
        by_cases g : 5 * m ≤ x ∧ x < 5 * m + l
        · rw [if_pos g, if_pos (by omega)]
        · rw [if_neg g, if_neg (by omega)]
  have nz : ∀ z i, z < 136 → gj_nMc c N z i = N z i := fun z i a => if_neg (by omega)
  have tz : ∀ (x : Int) (A B : gj_M), f_X12_told x A = f_X12_told x B := fun _ _ _ => rfl
  unfold J_X12_notes_48
  dsimp only [gj_letI]
  rw [gj_let_s, gj_let_s, gj_let_s, gj_chkp p8, gj_let_s, gj_chkp p8, gj_let_s, gj_let_s]
  refine gen _ (fun z i hz => ?_) (fun k k0 k1 => ?_)
  · rw [gj_up_z (by omega), gj_up_z (by omega), gj_up_z (by omega), gj_up_z (by omega), gj_up_z (by omega)]
    exact nz z i hz
  · rw [hW]
    have : k = 0 ∨ k = 1 ∨ k = 2 ∨ k = 3 ∨ k = 4 := by omega
    rcases this with e | e | e | e | e <;> rw [e]
    · rw [gj_up_if, if_neg (by decide), gj_up_if, if_neg (by decide), gj_up_if, if_neg (by decide), gj_up_if, if_neg (by decide), gj_up_if, if_pos rfl, nz 79 27 (by decide)]
      rfl
    · rw [gj_up_if, if_neg (by decide), gj_up_if, if_neg (by decide), gj_up_if, if_neg (by decide), gj_up_if, if_pos rfl]
      rfl
    · rw [gj_up_if, if_neg (by decide), gj_up_if, if_neg (by decide), gj_up_if, if_pos rfl, gj_up_z (show (108 : Int) ≠ c by omega), gj_up_z (show (108 : Int) ≠ c by omega), nz 108 p (by decide)]
      rfl
    · rw [gj_up_if, if_neg (by decide), gj_up_if, if_pos rfl, gj_up_z (show (109 : Int) ≠ c by omega), gj_up_z (show (109 : Int) ≠ c by omega), gj_up_z (show (109 : Int) ≠ c by omega), nz 109 p (by decide)]
      rfl
    · rw [gj_up_if, if_pos rfl]
      rfl
theorem p_notes {U : gj_M} {p w c s : Int} (c136 : 136 ≤ c) (p8 : 0 ≤ p ∧ p < 8) (h40 : 0 ≤ U 79 29 ∧ U 79 29 ≤ 40) (hs : (U 79 29 = 40 ∧ s = 1) ∨ (U 79 29 < 40 ∧ s = 0)) : ∃ N, F_X12_notes p w c U = some (c + 1, N) ∧ N 79 29 = U 79 29 + 1 - s ∧ (∀ x, 0 ≤ x → x < 5 * (U 79 29 - s) → N 122 x = U 122 (x + 5 * s)) ∧ (∀ k, 0 ≤ k → k < 5 → N 122 (5 * (U 79 29 - s) + k) = g_wn (U 79 27) p (f_X12_told (U 108 p) U) (U 109 p) w k) ∧ gj_Fr [122] [(79, 29)] U N := by
  unfold F_X12_notes
  by_cases c40 : U 79 29 = 40
  · have s1 : s = 1 := by omega
    rw [if_pos c40, s1]
    refine gj_okM4 (fun y => ∃ N, y = some (c + 1, N) ∧ N 79 29 = U 79 29 + 1 - 1 ∧ (∀ x, 0 ≤ x → x < 5 * (U 79 29 - 1) → N 122 x = U 122 (x + 5 * 1)) ∧ (∀ k, 0 ≤ k → k < 5 → N 122 (5 * (U 79 29 - 1) + k) = g_wn (U 79 27) p (f_X12_told (U 108 p) U) (U 109 p) w k) ∧ gj_Fr [122] [(79, 29)] U N) (fun l1 l2 l3 d N => l1 = p ∧ l2 = w ∧ d = c ∧ 5 ≤ l3 ∧ l3 ≤ 200 ∧ gj_Fr [122] [] U N ∧ ∀ x, 0 ≤ x → N 122 x = if x < l3 - 5 then U 122 (x + 5) else U 122 x) (fun _ _ l3 _ _ => (200 - l3).toNat) ?_ gj_fu p w 5 c U ⟨rfl, rfl, rfl, by omega, by omega, gj_Fr.rf, fun x x0 => by rw [if_neg (by omega)]⟩ (by show _ < 2048; omega)
    rintro rec l1 l2 l3 d N ⟨e1, e2, e3, a, b, f, hx⟩ hr
    rw [e1, e2, e3]
    unfold B_X12_notes_11 J_X12_notes_38
    have n29 : N 79 29 = 40 := by rw [f 79 29 (by decide) (by decide)]; exact c40
    by_cases q : 200 ≤ l3
    · rw [if_pos q, gj_let_s, n29, gj_wle (x := 40 - 1) (by omega) (by omega)]
      obtain ⟨K, eK, k1, k2, k3⟩ := p_notes48 (N := gj_up N 79 29 (40 - 1)) (p := p) (w := w) c136 p8 (by rw [gj_up_eq]; omega)
      rw [gj_up_eq] at k1 k2
      have low : ∀ z i, z < 136 → z ≠ 122 → ¬ (z = 79 ∧ i = 29) → gj_up N 79 29 (40 - 1) z i = U z i := fun z i z1 z2 z3 => by
        rw [show gj_up N 79 29 (40 - 1) z i = N z i from if_neg z3]
        exact f z i z1 (by unfold gj_fp; rw [Bool.or_eq_false_iff]; exact ⟨by rw [← Bool.not_eq_true]; intro qq; have := List.elem_iff.mp qq; simp at this; exact z2 this, rfl⟩)
      rw [low 79 27 (by decide) (by decide) (by decide), low 108 p (by decide) (by decide) (by omega), low 109 p (by decide) (by decide) (by omega)] at k2
      refine ⟨K, eK, by rw [k1]; omega, fun x x0 x1 => ?_, fun k y0 y1 => ?_, ?_⟩
      · rw [k2 x, if_neg (by omega), g_upr (by decide), hx x x0, if_pos (by omega)]
        rfl
      · rw [k2 _, if_pos (by omega), show f_X12_told (U 108 p) (gj_up N 79 29 (40 - 1)) = f_X12_told (U 108 p) U from rfl]
        congr 1
        omega
      · exact ((f.wide (by decide)).up (by decide)).trans k3
    · rw [if_neg q, gj_chkp (by omega), gj_wle (x := l3 - 5) (by omega) (by omega), gj_chkp (by omega), gj_let_s, gj_wle (x := l3 + 1) (by omega) (by omega)]
      refine hr _ _ _ _ _ ⟨rfl, rfl, rfl, by omega, by omega, f.up (by rw [show [122].contains (122 : Int) = true from rfl]; rfl), fun x x0 => ?_⟩ (by omega)
      rw [gj_up_if, hx x x0, hx l3 (by omega), if_neg (show ¬ l3 < l3 - 5 by omega)]
      by_cases e : x = l3 - 5
      · rw [if_pos e, if_pos (by omega)]
        congr 1
        omega
      · rw [if_neg e]
        by_cases g : x < l3 - 5
        · rw [if_pos g, if_pos (by omega)]
        · rw [if_neg g, if_neg (by omega)]
  · have s0 : s = 0 := by omega
    rw [if_neg c40, s0]
    obtain ⟨K, eK, k1, k2, k3⟩ := p_notes48 (N := U) (p := p) (w := w) c136 p8 (by omega)
    refine ⟨K, eK, by rw [k1]; omega, fun x x0 x1 => ?_, fun k y0 y1 => ?_, k3⟩
    · rw [k2 x, if_neg (by omega), show x + 5 * 0 = x by omega]
    · rw [k2 _, if_pos (by omega)]
      congr 1
      omega
