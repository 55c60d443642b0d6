/-! PURE: price told alike -/
theorem g_least (St : Int → Prop) : ∀ N : Nat, (∃ c : Int, 0 ≤ c ∧ c < (N : Int) ∧ St c ∧ ∀ e : Int, 0 ≤ e → e < c → ¬ St e) ∨ ∀ e : Int, 0 ≤ e → e < (N : Int) → ¬ St e
  | 0 => Or.inr (fun e a b => by omega)
  | N + 1 => by
    rcases g_least St N with ⟨c, a, b, h, k⟩ | h
    · exact Or.inl ⟨c, a, by omega, h, k⟩
    · by_cases s : St N
      · exact Or.inl ⟨N, by omega, by omega, s, h⟩
      · right
        intro e a b
        by_cases q : e = N
        · rw [q]; exact s
        · exact h e a (by omega)
def g_T (St : Int → Prop) (T : Int) : Prop := (T = -1 ∧ ∀ e, 0 ≤ e → e ≤ 999 → ¬ St e) ∨ ((0 ≤ T ∧ T ≤ 999) ∧ St T ∧ ∀ e, 0 ≤ e → e < T → ¬ St e)
theorem g_T_ex (St : Int → Prop) : ∃ T, g_T St T := by
  rcases g_least St 1000 with ⟨c, a, b, h, k⟩ | h
  · exact ⟨c, Or.inr ⟨⟨a, by omega⟩, h, k⟩⟩
  · exact ⟨-1, Or.inl ⟨rfl, fun e a b => h e a (by omega)⟩⟩
theorem g_T_none {St : Int → Prop} {T t : Int} (h : g_T St T) (k : ∀ e, 0 ≤ e → e < t → e ≤ 999 → ¬ St e) (ht : 999 < t) : T = -1 := by
  rcases h with h | ⟨a, b, -⟩
  · exact h.1
  · exact absurd b (k T a.1 (by omega) a.2)
theorem g_T_some {St : Int → Prop} {T t : Int} (h : g_T St T) (k : ∀ e, 0 ≤ e → e < t → e ≤ 999 → ¬ St e) (ht : 0 ≤ t ∧ t ≤ 999) (hs : St t) : T = t := by
  rcases h with h | ⟨a, b, c⟩
  · exact absurd hs (h.2 t ht.1 ht.2)
  · by_cases q : T < t
    · exact absurd b (k T a.1 q a.2)
    · by_cases q2 : t < T
      · exact absurd hs (c t ht.1 q2)
      · omega
theorem p_cowC {s n T : Int} {D U : gj_M} (s8 : 0 ≤ s ∧ s < 8) (hn : 1 ≤ n ∧ n ≤ 4) (h : g_MR s D U) (hw : g_av s (D 31 7) U) (hT : g_T (fun c => g_stay n c D) T) : ∃ X, F_X4_leastCow n D = some (T, X) := by
  unfold F_X4_leastCow
  dsimp only [gj_letI]
  have st : gj_wl (f_max 1 n * 1000) = 1000 * n := by
    unfold f_max
    split
    · rw [gj_wlle (by omega) (by omega)]; omega
    · rw [gj_wlle (by omega) (by omega)]; omega
  rw [st]
  refine gj_okM4 (fun y => ∃ X, y = some (T, X)) (fun l1 l2 t l6 K => l1 = n ∧ l2 = 1000 * n ∧ 0 ≤ l6 ∧ l6 ≤ t ∧ l6 ≤ 1000 ∧ t ≤ 30000 ∧ (∃ x, K = gj_up D 31 9 x) ∧ ∀ e, 0 ≤ e → e < t → e ≤ 999 → ¬ g_stay n e D) (fun _ _ _ l6 _ => (1000 - l6).toNat) ?_ gj_fu n (1000 * n) 0 0 D ⟨rfl, rfl, by omega, by omega, by omega, by omega, ⟨D 31 9, by rw [gj_up_id]⟩, fun e a b => by omega⟩ (by show _ < 2048; omega)
  rintro rec l1 l2 t l6 K ⟨e1, e2, a0, a1, a2, a3, ⟨x, eK⟩, ns⟩ hr
  rw [e1, e2, eK]
  unfold B_X4_leastCow_17
  by_cases c1 : 999 < l6
  · rw [if_pos c1, g_T_none hT ns (by omega)]
    exact ⟨_, rfl⟩
  · rw [if_neg c1]
    by_cases c2 : 999 < t
    · rw [if_pos c2, g_T_none hT ns c2]
      exact ⟨_, rfl⟩
    · rw [if_neg c2, gj_let_s, gj_up_up, gj_wle (x := t) (by omega) (by omega)]
      obtain ⟨v, d, b, q1, q2, -, b1, b2, -, q7⟩ := p_cowV s8 hn h hw (c := t) (by omega)
      have a7 : gj_up D 31 9 t 31 7 = D 31 7 := gj_up_i (by decide)
      have a8 : gj_up D 31 9 t 31 8 = D 31 8 := gj_up_i (by decide)
      rw [a7, a8, q1, gj_bnd2_s, a7, a8, q2, gj_bnd2_s, gj_wlle (x := v - d) (by omega) (by omega)]
      by_cases c3 : 0 < v - d
      · rw [if_pos c3, gj_chkp (by omega)]
        have q : gj_wl (t + gj_wl (Int.tdiv (gj_wl (gj_wl (v - d + 1000 * n) - 1)) (1000 * n))) = t + (v - d + 1000 * n - 1) / (1000 * n) := by
          rw [gj_wlle (x := v - d + 1000 * n) (by omega) (by omega), gj_wlle (x := v - d + 1000 * n - 1) (by omega) (by omega), g_tdiv (by omega)]
          rcases (by omega : n = 1 ∨ n = 2 ∨ n = 3 ∨ n = 4) with e | e | e | e <;> subst e <;> unfold gj_wl <;> omega
        rw [q, gj_wle (x := l6 + 1) (by omega) (by omega)]
        refine hr _ _ _ _ _ ⟨rfl, rfl, by omega, ?_, by omega, ?_, ⟨t, rfl⟩, fun e x0 x1 x2 => ?_⟩ (by omega)
        · rcases (by omega : n = 1 ∨ n = 2 ∨ n = 3 ∨ n = 4) with e | e | e | e <;> subst e <;> omega
        · rcases (by omega : n = 1 ∨ n = 2 ∨ n = 3 ∨ n = 4) with e | e | e | e <;> subst e <;> omega
        · by_cases lt : e < t
          · exact ns e x0 lt x2
          · obtain ⟨v2, d2, b2, f1, f2, -, -, -, -, f7⟩ := p_cowV s8 hn h hw (c := e) ⟨x0, x2⟩
            have lp := p_leap s8 hn h hw (a := t) (b := e) (by omega) (by omega) x2 q1 q2 f1 f2
            rw [← f7]
            rcases (by omega : n = 1 ∨ n = 2 ∨ n = 3 ∨ n = 4) with en | en | en | en <;> subst en <;> omega
      · rw [if_neg c3, gj_up_eq, g_T_some hT ns (by omega) (q7.mp (by omega))]
        exact ⟨_, rfl⟩
theorem p_cowR {s n T : Int} {D U R : gj_M} (s8 : 0 ≤ s ∧ s < 8) (hn : 1 ≤ n ∧ n ≤ 4) (h : g_MR s D U) (hw : g_av s (D 31 7) U) (hT : g_T (fun c => g_stay n c D) T) (u1 : U 108 = R 108) (u2 : U 109 = R 109) (w1 : D 31 7 = -1 ↔ R 108 s = -1) (w2 : R 108 s ≠ -1 → D 31 7 = R 108 s % 4) (w4 : R 108 s = -1 ∨ 0 ≤ R 108 s) (d8 : D 31 8 = R 109 s) : ∃ X, gj_it (fun _ _ _ _ => none) B_X12_price_38 gj_fu n s 0 U = some (T, X) := by
  refine gj_okM3 (fun y => ∃ X, y = some (T, X)) (fun l2 l3 t K => l2 = n ∧ l3 = s ∧ 0 ≤ t ∧ t ≤ 1000 ∧ (∃ x, g_MR s (gj_up D 31 9 x) K) ∧ K 101 = U 101 ∧ K 108 = R 108 ∧ K 109 = R 109 ∧ ∀ e, 0 ≤ e → e < t → e ≤ 999 → ¬ g_stay n e D) (fun _ _ t _ => (1000 - t).toNat) ?_ gj_fu n s 0 U ⟨rfl, rfl, by omega, by omega, ⟨D 31 9, by rw [gj_up_id]; exact h⟩, rfl, u1, u2, fun e a b => by omega⟩ (by show _ < 2048; omega)
  rintro rec l2 l3 t K ⟨e1, e2, a0, a1, ⟨x, hK⟩, k101, k108, k109, ns⟩ hr
  rw [e1, e2]
  unfold B_X12_price_38
  by_cases c1 : 999 < t
  · rw [if_pos c1, g_T_none hT ns c1]
    exact ⟨_, rfl⟩
  · rw [if_neg c1, gj_let_s]
    have a7 : gj_up D 31 9 x 31 7 = D 31 7 := gj_up_i (by decide)
    have a8 : gj_up D 31 9 x 31 8 = D 31 8 := gj_up_i (by decide)
    obtain ⟨v, d, b, q1, q2, q3, b1, b2, q6, q7⟩ := p_cowV s8 hn hK (by rw [a7]; unfold g_av at *; rw [k101]; exact hw) (c := t) (by omega)
    rw [a7, a8] at q3
    rw [a7] at q6
    have sd : g_stay n t (gj_up D 31 9 x) ↔ g_stay n t D := by
      unfold g_stay
      rw [gj_up_up, a7]
    rw [sd] at q6 q7
    have m1 : gj_up K 79 36 t 108 = R 108 := by rw [← k108]; exact funext fun _ => gj_up_z (by decide)
    have m2 : gj_up K 79 36 t 109 = R 109 := by rw [← k109]; exact funext fun _ => gj_up_z (by decide)
    have mo := p_mateOf s8 m1 w1 w2 w4
    have mo2 := p_mateOf (U := gj_up (gj_up K 79 36 t) 79 38 b) s8 (by rw [← m1]; exact funext fun _ => gj_up_z (by decide)) w1 w2 w4
    rw [mo, gj_bnd_s, gj_chkp s8, m2, ← d8, q3, gj_bnd2_s, mo2, gj_bnd_s, gj_up_eq]
    by_cases c2 : b = D 31 7
    · rw [if_pos c2, g_T_some hT ns (by omega) (q6.mp c2)]
      exact ⟨_, rfl⟩
    · rw [if_neg c2, gj_wle (x := t + 1) (by omega) (by omega)]
      refine hr _ _ _ _ ⟨rfl, rfl, by omega, by omega, ⟨t, ?_⟩, ?_, ?_, ?_, fun e x0 x1 x2 => ?_⟩ (by omega)
      · have q := g_MR_38 (x := b) (g_MR_cow hK (v := t) (by omega))
        rw [gj_up_up] at q
        exact q
      · rw [← k101]; exact funext fun _ => by rw [gj_up_z (by decide), gj_up_z (by decide)]
      · rw [← k108]; exact funext fun _ => by rw [gj_up_z (by decide), gj_up_z (by decide)]
      · rw [← k109]; exact funext fun _ => by rw [gj_up_z (by decide), gj_up_z (by decide)]
      · by_cases q : e = t
        · rw [q]
          exact fun z => c2 (q6.mpr z)
        · exact ns e x0 (by omega) x2
theorem p_priceJ {C R : gj_M} {a n : Int} (h : g_VS C R) (hy : R 79 18 = 1 → g_DY C R) : ∃ v D U, F_X11_price a n C = some (v, D) ∧ F_X12_price a n R = some (v, U) := by
  obtain ⟨s, e1, e2, e3⟩ := p_whoJ (a := a) h hy
  unfold F_X11_price F_X12_price
  dsimp only [gj_letI]
  rw [e1, e2, gj_bnd_s, p_can (C := C) (R := R)]
  by_cases c : s = -1
  · rw [if_pos c, if_pos c]
    exact ⟨_, _, _, rfl, rfl⟩
  · obtain ⟨s8, hp, ⟨y, yc⟩, pe⟩ : (0 ≤ s ∧ s < 8) ∧ g_PL C R ∧ g_DY C R ∧ g_pe R 101 s := by
      rcases e3 with x | x
      · exact absurd x c
      · exact x
    rw [if_neg c, if_neg c]
    by_cases d : f_X12_areMays n R = 0
    · rw [if_pos d, if_pos d]
      exact ⟨_, _, _, rfl, rfl⟩
    · have mt := y.mt s s8.1 s8.2
      rw [if_neg d, if_neg d, f_at_in s8, mt.1, gj_chkp s8]
      by_cases m : R 108 s = -1
      · rw [if_pos m, if_pos m]
        exact ⟨_, _, _, rfl, rfl⟩
      · rw [if_neg m, if_neg m]
        obtain ⟨D, U, eD, eU, hM, av, w1, w2, w3, u108, u109, -⟩ := p_mind hp y yc s8 pe
        rw [if_neg m] at w3
        obtain ⟨T, hT⟩ := g_T_ex (fun c => g_stay n c D)
        obtain ⟨X, x1⟩ := p_cowC s8 (g_mays d) hM av hT
        obtain ⟨Y, y1⟩ := p_cowR s8 (g_mays d) hM av hT u108 u109 w1 w2 (by omega) w3
        rw [eD, gj_bnd_s, x1, gj_bnd2_s, eU, gj_bnd_s, y1]
        exact ⟨_, _, _, rfl, rfl⟩
