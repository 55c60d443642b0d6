/-! PURE: the names -/
def g_wd (t : Int → Int) (s : Int) : Nat → List Int
  | 0 => []
  | k + 1 => t (s + (k : Int)) :: g_wd t s k
def g_cd (b d : Int) : List Int → Int
  | [] => 0
  | c :: w => b * g_cd b d w + (c - d)
def g_ls (w : List Int) : Prop := ∀ c, c ∈ w → 97 ≤ c ∧ c ≤ 122
theorem g_ls_c {c : Int} {w : List Int} (h : g_ls (c :: w)) : (97 ≤ c ∧ c ≤ 122) ∧ g_ls w := ⟨h c (List.mem_cons_self ..), fun x hx => h x (List.mem_cons_of_mem _ hx)⟩
theorem g_cd_a : ∀ {w : List Int}, g_ls w → 0 ≤ g_cd 256 0 w ∧ 2 * g_cd 256 0 w + 1 ≤ (256 : Int) ^ w.length
  | [], _ => by decide
  | c :: w, h => by
    have h1 := g_ls_c h
    have h2 := g_cd_a h1.2
    show 0 ≤ 256 * g_cd 256 0 w + (c - 0) ∧ 2 * (256 * g_cd 256 0 w + (c - 0)) + 1 ≤ (256 : Int) ^ (w.length + 1)
    rw [Int.pow_succ]
    omega
theorem g_cd_r : ∀ {w : List Int}, g_ls w → 0 ≤ g_cd 32 96 w ∧ g_cd 32 96 w + 1 ≤ (32 : Int) ^ w.length
  | [], _ => by decide
  | c :: w, h => by
    have h1 := g_ls_c h
    have h2 := g_cd_r h1.2
    show 0 ≤ 32 * g_cd 32 96 w + (c - 96) ∧ 32 * g_cd 32 96 w + (c - 96) + 1 ≤ (32 : Int) ^ (w.length + 1)
    rw [Int.pow_succ]
    omega
theorem g_cd_a8 {w : List Int} (h : g_ls w) (h8 : w.length ≤ 8) : 0 ≤ g_cd 256 0 w ∧ g_cd 256 0 w < 9223372036854775808 := by
  have h1 := g_cd_a h
  have h2 : ∀ k : Nat, k < 9 → (256 : Int) ^ k ≤ 18446744073709551616 := by decide
  have h3 := h2 w.length (by omega)
  omega
theorem g_cd_r8 {w : List Int} (h : g_ls w) (h8 : w.length ≤ 8) : 0 ≤ g_cd 32 96 w ∧ g_cd 32 96 w < 1099511627776 := by
  have h1 := g_cd_r h
  have h2 : ∀ k : Nat, k < 9 → (32 : Int) ^ k ≤ 1099511627776 := by decide
  have h3 := h2 w.length (by omega)
  omega
theorem g_cd_a_inj : ∀ {w v : List Int}, g_ls w → g_ls v → g_cd 256 0 w = g_cd 256 0 v → w = v
  | [], [], _, _, _ => rfl
  | [], c :: v, _, hv, h => by
    have h1 := g_ls_c hv
    have h2 := g_cd_a h1.2
    change 0 = 256 * g_cd 256 0 v + (c - 0) at h
    omega
  | c :: w, [], hw, _, h => by
    have h1 := g_ls_c hw
    have h2 := g_cd_a h1.2
    change 256 * g_cd 256 0 w + (c - 0) = 0 at h
    omega
  | c :: w, d :: v, hw, hv, h => by
    have h1 := g_ls_c hw
    have h2 := g_ls_c hv
    change 256 * g_cd 256 0 w + (c - 0) = 256 * g_cd 256 0 v + (d - 0) at h
    have e1 : c = d := by omega
    have e2 : g_cd 256 0 w = g_cd 256 0 v := by omega
    rw [e1, g_cd_a_inj h1.2 h2.2 e2]
theorem g_cd_r_inj : ∀ {w v : List Int}, g_ls w → g_ls v → g_cd 32 96 w = g_cd 32 96 v → w = v
  | [], [], _, _, _ => rfl
  | [], c :: v, _, hv, h => by
    have h1 := g_ls_c hv
    have h2 := g_cd_r h1.2
    change 0 = 32 * g_cd 32 96 v + (c - 96) at h
    omega
  | c :: w, [], hw, _, h => by
    have h1 := g_ls_c hw
    have h2 := g_cd_r h1.2
    change 32 * g_cd 32 96 w + (c - 96) = 0 at h
    omega
  | c :: w, d :: v, hw, hv, h => by
    have h1 := g_ls_c hw
    have h2 := g_ls_c hv
    change 32 * g_cd 32 96 w + (c - 96) = 32 * g_cd 32 96 v + (d - 96) at h
    have e1 : c = d := by omega
    have e2 : g_cd 32 96 w = g_cd 32 96 v := by omega
    rw [e1, g_cd_r_inj h1.2 h2.2 e2]
theorem g_wd_len {t : Int → Int} {s : Int} : ∀ k : Nat, (g_wd t s k).length = k
  | 0 => rfl
  | k + 1 => by show (g_wd t s k).length + 1 = _; rw [g_wd_len k]
theorem g_wd_ls {t : Int → Int} {s : Int} : ∀ {k : Nat}, (∀ i, s ≤ i → i < s + (k : Int) → g_le t i = true) → g_ls (g_wd t s k)
  | 0, _ => fun c hc => absurd hc (List.not_mem_nil)
  | k + 1, h => fun c hc => by
    rcases List.mem_cons.mp hc with e | e
    · rw [e]
      exact of_decide_eq_true (h (s + (k : Int)) (by omega) (by omega))
    · exact g_wd_ls (k := k) (fun i a b => h i a (by omega)) c e
theorem g_wd_eq {t u : Int → Int} {s s' : Int} : ∀ {k : Nat}, (∀ i : Nat, i < k → t (s + (i : Int)) = u (s' + (i : Int))) → g_wd t s k = g_wd u s' k
  | 0, _ => rfl
  | k + 1, h => by
    show t (s + (k : Int)) :: g_wd t s k = u (s' + (k : Int)) :: g_wd u s' k
    rw [g_wd_eq (k := k) (fun i a => h i (by omega)), h k (by omega)]
def g_tw (t : Int → Int) (s e : Int) : List Int := g_wd t s (e - s).toNat
theorem g_tw_z {t : Int → Int} {s : Int} : g_tw t s s = [] := by unfold g_tw; rw [Int.sub_self]; rfl
theorem g_tw_s {t : Int → Int} {s k : Int} (h : s ≤ k) : g_tw t s (k + 1) = t k :: g_tw t s k := by
  unfold g_tw
  rw [show (k + 1 - s).toNat = (k - s).toNat + 1 by omega]
  show t (s + _) :: _ = _
  rw [show s + (((k - s).toNat : Nat) : Int) = k by omega]
theorem g_tw_len {t : Int → Int} {s e : Int} : (g_tw t s e).length = (e - s).toNat := g_wd_len _
theorem g_tw_ls {t : Int → Int} {s e : Int} (h : ∀ i, s ≤ i → i < e → g_le t i = true) : g_ls (g_tw t s e) := g_wd_ls (fun i a b => h i a (by omega))
theorem g_tw_eq {t u : Int → Int} {n s e : Int} (h : g_TT t u n) (hs : 0 ≤ s) (he : e ≤ n) (hd : ∀ i, s ≤ i → i < e → g_le t i = true) : g_tw t s e = g_tw u s e :=
  g_wd_eq fun i a => by
    have h1 := of_decide_eq_true (hd (s + (i : Int)) (by omega) (by omega))
    exact ((g_TT_b8 h (by omega) (by omega)).1 (by omega)).symm
/-- the words of the lines, as lists -/
def g_lw (j : Nat) : List Int := g_wd (fun i => gj_ch j i.toNat) 0 (gj_sl.getD j 0)
theorem g_mt_wd {t : Int → Int} {s : Int} {j : Nat} : ∀ k : Nat, g_mt t s j k = true ↔ g_wd t s k = g_wd (fun i => gj_ch j i.toNat) 0 k
  | 0 => ⟨fun _ => rfl, fun _ => rfl⟩
  | k + 1 => by
    show (g_mt t s j k && decide (gj_ch j k = t (s + (k : Int)))) = true ↔ t (s + (k : Int)) :: g_wd t s k = gj_ch j (0 + (k : Int)).toNat :: g_wd (fun i => gj_ch j i.toNat) 0 k
    rw [Bool.and_eq_true, g_mt_wd k, decide_eq_true_eq, List.cons.injEq, show (0 + (k : Int)).toNat = k by omega]
    exact ⟨fun h => ⟨h.2.symm, h.1⟩, fun h => ⟨h.2, h.1.symm⟩⟩
theorem g_is_lw {t : Int → Int} {s e : Int} {j : Nat} (h : s ≤ e) : g_is t s e j = true ↔ g_tw t s e = g_lw j := by
  unfold g_is g_tw g_lw
  rw [Bool.and_eq_true, decide_eq_true_eq, g_mt_wd]
  constructor
  · rintro ⟨a, b⟩
    unfold gj_len at a
    rw [show (e - s).toNat = gj_sl.getD j 0 by omega, b]
  · intro q
    have hl := congrArg List.length q
    rw [g_wd_len, g_wd_len] at hl
    refine ⟨by unfold gj_len; omega, ?_⟩
    rw [hl] at q
    exact q
theorem g_wh_lw {t : Int → Int} {s e : Int} (h : s ≤ e) : g_wh t s e = -1 ↔ ∀ j, j < 9 → g_tw t s e ≠ g_lw j := by
  constructor
  · intro q j hj hq
    have h1 : ∀ j, j < 9 → g_is t s e j = false := by
      intro j hj
      cases hh : g_is t s e j with
      | false => rfl
      | true =>
        unfold g_wh at q
        rcases (by omega : j = 0 ∨ j = 1 ∨ j = 2 ∨ j = 3 ∨ j = 4 ∨ j = 5 ∨ j = 6 ∨ j = 7 ∨ j = 8) with e | e | e | e | e | e | e | e | e <;> subst e <;> rw [hh] at q <;> (repeat' split at q) <;> first | omega | contradiction
    have h2 := h1 j hj
    rw [(g_is_lw h).mpr hq] at h2
    cases h2
  · intro q
    refine g_wh_no (fun j hj => ?_)
    cases hh : g_is t s e j with
    | false => rfl
    | true => exact absurd ((g_is_lw h).mp hh) (q j hj)
