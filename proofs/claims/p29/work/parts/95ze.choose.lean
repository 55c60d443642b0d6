/-! PURE: the class's choice for the parents' way -/
theorem e_letI {T : Type} {x : Int} {f : Int → T} : gj_letI x f = f x := rfl
theorem e_acc_s {n0 n1 l c : Nat} {r : List Nat} : e_acc n0 n1 (l + 1) c r = if c % 5 = 0 then e_acc n0 n1 l (c / 5) r else if l < n0 ∧ c % 5 - 1 < n1 ∧ r.getD (3 + c % 5) 9 = 8 then e_acc n0 n1 l (c / 5) (e_tie r l (3 + c % 5)) else none := by
  rw [e_acc]
theorem p_spreadL {C : gj_M} {n0 n1 : Nat} (h0 : C 14 0 = n0) (h1 : C 14 1 = n1) (b0 : n0 ≤ 4) (b1 : n1 ≤ 4) : ∀ (l f c : Nat) (r : List Nat) (N : gj_M), l ≤ 4 → l < f → c < 1000 → N 14 = C 14 → r.length = 8 → (∀ j, 0 ≤ j → j < 8 → N 42 j = e_rw r j) → (∃ K r', gj_it (fun _ _ _ => none) B_X0_spread_12 f c ((l : Int) - 1) N = some (1, K) ∧ e_acc n0 n1 l c r = some r' ∧ r'.length = 8 ∧ ∀ j, 0 ≤ j → j < 8 → K 42 j = e_rw r' j) ∨ (∃ K, gj_it (fun _ _ _ => none) B_X0_spread_12 f c ((l : Int) - 1) N = some (0, K) ∧ e_acc n0 n1 l c r = none) := by
  intro l
  induction l with
  | zero =>
    intro f c r N l4 lf hc h14 hl hr
    cases f with
    | zero => exact absurd lf (by omega)
    | succ f =>
      left
      rw [gj_it_s]
      unfold B_X0_spread_12
      rw [if_pos (by decide)]
      exact ⟨N, r, rfl, rfl, hl, hr⟩
  | succ l ih0 =>
    intro f c r N l4 lf hc h14 hl hr
    cases f with
    | zero => exact absurd lf (by omega)
    | succ f =>
      rw [gj_it_s]
      have ih := ih0 f (c / 5)
      generalize gj_it (fun _ _ _ => none) B_X0_spread_12 f = W at *
      unfold B_X0_spread_12
      rw [if_neg (by omega), show (((l + 1 : Nat) : Int) - 1) = (l : Int) by omega, g_tmod (by omega), g_tdiv (by omega), gj_wle (x := (l : Int) + -1) (by omega) (by omega), show (l : Int) + -1 = (l : Int) - 1 by omega, gj_wle (x := (c : Int) / 5) (by omega) (by omega), show (c : Int) / 5 = ((c / 5 : Nat) : Int) by omega, show (c : Int) % 5 = ((c % 5 : Nat) : Int) by omega]
      by_cases c5 : c % 5 = 0
      · rw [if_pos (by omega), e_acc_s, if_pos c5]
        exact ih r N (by omega) (by omega) (by omega) h14 hl hr
      · rw [if_neg (by omega), e_letI, e_letI, e_letI, gj_wle (x := 4 + ((c % 5 : Nat) : Int)) (by omega) (by omega), gj_wle (x := 4 + ((c % 5 : Nat) : Int) - 1) (by omega) (by omega), show 4 + ((c % 5 : Nat) : Int) - 1 = ((3 + c % 5 : Nat) : Int) by omega]
        have ea : e_acc n0 n1 (l + 1) c r = if l < n0 ∧ c % 5 - 1 < n1 ∧ r.getD (3 + c % 5) 9 = 8 then e_acc n0 n1 l (c / 5) (e_tie r l (3 + c % 5)) else none := by rw [e_acc_s, if_neg c5]
        have ep : f_X5_isPerson_14 (l : Int) N = if n0 ≤ l then 0 else 1 := by
          unfold f_X5_isPerson_14
          rw [h14, h0, if_neg (by omega), if_neg (by omega)]
          by_cases q : n0 ≤ l
          · rw [if_pos (by omega), if_pos q]
          · rw [if_neg (by omega), if_neg q]
        have eq : f_X5_isPerson_14 ((3 + c % 5 : Nat) : Int) N = if n1 ≤ c % 5 - 1 then 0 else 1 := by
          unfold f_X5_isPerson_14
          rw [h14, h1, if_pos (by omega), gj_wle (x := ((3 + c % 5 : Nat) : Int) - 4) (by omega) (by omega)]
          by_cases q : n1 ≤ c % 5 - 1
          · rw [if_pos (by omega), if_pos q]
          · rw [if_neg (by omega), if_neg q]
        have i8 : 0 ≤ ((3 + c % 5 : Nat) : Int) ∧ ((3 + c % 5 : Nat) : Int) < 8 := by omega
        have j8 : 0 ≤ (l : Int) ∧ (l : Int) < 8 := by omega
        have em : f_at N 42 8 ((3 + c % 5 : Nat) : Int) = -1 ↔ r.getD (3 + c % 5) 9 = 8 := by
          rw [f_at_in i8, hr _ i8.1 i8.2, e_gd hl (by omega)]
          exact e_rw_m
        rw [ea, ep, eq]
        by_cases q1 : n0 ≤ l
        · right
          rw [if_pos (if_pos q1), if_neg (fun q => by omega)]
          exact ⟨N, rfl, rfl⟩
        rw [if_neg (by rw [if_neg q1]; decide)]
        by_cases q2 : n1 ≤ c % 5 - 1
        · right
          rw [if_pos (if_pos q2), if_neg (fun q => by omega)]
          exact ⟨N, rfl, rfl⟩
        rw [if_neg (by rw [if_neg q2]; decide)]
        by_cases q3 : r.getD (3 + c % 5) 9 = 8
        · rw [if_pos (em.mpr q3), if_pos ⟨by omega, by omega, q3⟩, gj_let_s, gj_let_s, f_put_in j8, f_put_in i8]
          refine ih _ _ (by omega) (by omega) (by omega) ?_ (e_len hl) (fun j a b => ?_)
          · rw [← h14]
            exact funext fun i => by rw [gj_up_z (by decide), gj_up_z (by decide)]
          · rw [gj_up_if, gj_up_if, e_tie_r hl (by omega) (by omega) a, hr j a b]
        · right
          rw [if_neg (fun q => q3 (em.mp q)), if_neg (fun q => q3 q.2.2)]
          exact ⟨N, rfl, rfl⟩
def e_clk (n0 n1 k : Nat) : List (List Nat) := (List.range k).filterMap (fun c => e_acc n0 n1 4 c e_none)
theorem e_clk_s {n0 n1 k : Nat} : e_clk n0 n1 (k + 1) = match e_acc n0 n1 4 k e_none with
    | some r => e_clk n0 n1 k ++ [r]
    | none => e_clk n0 n1 k := by
  unfold e_clk
  rw [List.range_succ, List.filterMap_append]
  cases h : e_acc n0 n1 4 k e_none with
  | none => simp [List.filterMap, h]
  | some r => simp [List.filterMap, h]
theorem e_clk_m {n0 n1 k c : Nat} {r : List Nat} (hk : k < c) (h : e_acc n0 n1 4 k e_none = some r) : r ∈ e_clk n0 n1 c := List.mem_filterMap.mpr ⟨k, List.mem_range.mpr hk, h⟩
theorem p_chooseJ {C R : gj_M} {n0 n1 : Nat} (h : g_PL C R) (h0 : R 101 0 = n0) (h1 : R 101 1 = n1) : ∃ N, F_X0_choose C = some N ∧ ∀ j, 0 ≤ j → j < 8 → N 43 j = e_rw (e_fo (e_S C) (e_lv n1 n0 0 e_none) (-1, e_none)).2 j := by
  have b0 := h.b0
  have b1 := h.b1
  have c0 := h.n0
  have c1 := h.n1
  have n0b : 1 ≤ n0 ∧ n0 ≤ 4 := by omega
  have n1b : 1 ≤ n1 ∧ n1 ≤ 4 := by omega
  obtain ⟨al, ok, ne⟩ := e_all n0b n1b
  have ec : e_clk n0 n1 625 = e_lv n1 n0 0 e_none := al
  have ok2 : ∀ k < 625, ∀ r, e_acc n0 n1 4 k e_none = some r → e_okb n0 n1 r = true := fun k hk r hr => ok r (by rw [← ec]; exact e_clk_m hk hr)
  have fin := e_fo_m (S := e_S C) (x := e_none) ne (fun r hr => (e_S_c h h0 h1 (ok r hr)).1.1)
  refine k_cps (fun P done => ?_)
  unfold F_X0_choose
  refine gj_okM2 P (fun l1 l2 N => 0 ≤ l2 ∧ l2 ≤ 625 ∧ (∀ z, z ≠ 42 ∧ z ≠ 43 → N z = C z) ∧ l1 = (e_fo (e_S C) (e_clk n0 n1 l2.toNat) (-1, e_none)).1 ∧ ((e_fo (e_S C) (e_clk n0 n1 l2.toNat) (-1, e_none)).1 = -1 ∨ ∀ j, 0 ≤ j → j < 8 → N 43 j = e_rw (e_fo (e_S C) (e_clk n0 n1 l2.toNat) (-1, e_none)).2 j)) (fun _ l2 _ => (625 - l2).toNat) ?_ gj_fu (-1) 0 C ⟨by decide, by decide, fun z _ => rfl, rfl, Or.inl rfl⟩ (by show _ < 2048; omega)
  rintro rec l1 l2 N ⟨a, b, hz, e1, e2⟩ hr
  unfold B_X0_choose_4 J_X0_choose_49
  refine k_ite (fun c => ?_) (fun c => ?_)
  · rw [show l2.toNat = 625 by omega, ec] at e2
    refine done N (e2.resolve_left ?_)
    have := (e_S_c h h0 h1 (ok _ fin.2)).1.1
    omega
  obtain ⟨k, ek⟩ : ∃ k : Nat, l2 = k := ⟨l2.toNat, by omega⟩
  rw [show l2.toNat = k by omega] at e1 e2
  have nx : ∀ (x : Int) (K : gj_M), (∀ z, z ≠ 42 ∧ z ≠ 43 → K z = C z) → x = (e_fo (e_S C) (e_clk n0 n1 (k + 1)) (-1, e_none)).1 → ((e_fo (e_S C) (e_clk n0 n1 (k + 1)) (-1, e_none)).1 = -1 ∨ ∀ j, 0 ≤ j → j < 8 → K 43 j = e_rw (e_fo (e_S C) (e_clk n0 n1 (k + 1)) (-1, e_none)).2 j) → P (rec x (l2 + 1) K) := fun x K k1 k2 k3 => by
    refine hr x (l2 + 1) K ⟨by omega, by omega, k1, ?_, ?_⟩ (by omega)
    · rw [show (l2 + 1).toNat = k + 1 by omega]; exact k2
    · rw [show (l2 + 1).toNat = k + 1 by omega]; exact k3
  rw [gj_wle (x := l2 + 1) (by omega) (by omega)]
  obtain ⟨x, A, es, hA⟩ := p_spread0 (M := N) (a := l2)
  have hA2 : ∀ z, z ≠ 42 ∧ z ≠ 43 → A z = C z := fun z q => (hA z q.1).trans (hz z q)
  have e43 : A 43 = N 43 := hA 43 (by decide)
  rw [es, gj_bnd2_s]
  have sp := p_spreadL (C := C) (n0 := n0) (n1 := n1) (by omega) (by omega) n0b.2 n1b.2 4 gj_fu k e_none (f_fill N 42 8 (-1)) (by decide) (by show 4 < 2048; omega) (by omega) (by
    rw [← hz 14 (by decide)]
    exact funext fun i => f_fill_z (by decide)) (by decide) (fun j a b => by
    rw [f_fill_in ⟨a, b⟩]
    have : j = 0 ∨ j = 1 ∨ j = 2 ∨ j = 3 ∨ j = 4 ∨ j = 5 ∨ j = 6 ∨ j = 7 := by omega
    rcases this with e | e | e | e | e | e | e | e <;> rw [e] <;> decide)
  have es2 : gj_it (fun _ _ _ => none) B_X0_spread_12 gj_fu (k : Int) (((4 : Nat) : Int) - 1) (f_fill N 42 8 (-1)) = some (x, A) := by
    rw [← es, ← ek]
    rfl
  rcases sp with ⟨K, r', s1, s2, s3, s4⟩ | ⟨K, s1, s2⟩
  · obtain ⟨ex, rfl⟩ := g_some2 es2 s1
    have er := e_clk_s (n0 := n0) (n1 := n1) (k := k)
    rw [s2] at er
    have er : e_clk n0 n1 (k + 1) = e_clk n0 n1 k ++ [r'] := er
    have ef : e_fo (e_S C) (e_clk n0 n1 (k + 1)) (-1, e_none) = e_up (e_S C) (e_fo (e_S C) (e_clk n0 n1 k) (-1, e_none)) r' := by
      rw [er, e_fo_app]
      rfl
    obtain ⟨sb, sc⟩ := e_S_c h h0 h1 (ok2 k (by omega) r' s2)
    rw [ex, if_neg (by decide), sc A 42 (hA2 14 (by decide)) (hA2 15 (by decide)) (hA2 19 (by decide)) s4, gj_bnd_s]
    rw [ef] at nx
    unfold e_up at nx
    refine k_ite (fun d => ?_) (fun d => ?_)
    · rw [e1] at d
      rw [if_pos d] at nx
      exact nx _ _ hA2 e1 (e2.imp id (fun q j x y => by rw [e43]; exact q j x y))
    · rw [e1] at d
      rw [if_neg d] at nx
      rw [gj_let_s]
      refine nx _ _ (fun z q => ?_) rfl (Or.inr (fun j x y => ?_))
      · rw [← hA2 z q]
        exact funext fun i => f_copy_z q.2
      · rw [f_copy_in ⟨x, y, y⟩]
        exact s4 j x y
  · obtain ⟨ex, rfl⟩ := g_some2 es2 s1
    have er := e_clk_s (n0 := n0) (n1 := n1) (k := k)
    rw [s2] at er
    have er : e_clk n0 n1 (k + 1) = e_clk n0 n1 k := er
    rw [ex, if_pos rfl]
    rw [er] at nx
    exact nx _ _ hA2 e1 (e2.imp id (fun q j x y => by rw [e43]; exact q j x y))
