/-! PURE: rows as lists: those that are tried, the best of them -/
def e_rw (r : List Nat) (j : Int) : Int := if r.getD j.toNat 8 = 8 then -1 else ((r.getD j.toNat 8 : Nat) : Int)
def e_pnb (n0 n1 j : Nat) : Bool := (decide (j < 4) && decide (j < n0)) || (decide (4 ≤ j) && decide (j - 4 < n1))
def e_okb (n0 n1 : Nat) (r : List Nat) : Bool := (List.range 8).all (fun j => (r.getD j 8 == 8) || (decide (r.getD j 8 < 8) && (decide (j < 4) != decide (r.getD j 8 < 4)) && e_pnb n0 n1 j && e_pnb n0 n1 (r.getD j 8) && (r.getD (r.getD j 8) 8 == j)))
def e_okl (n0 n1 : Nat) : Bool := (e_lv n1 n0 0 e_none).all (e_okb n0 n1) && !(e_lv n1 n0 0 e_none).isEmpty
theorem e_okl1 : ∀ n1 ∈ [1, 2, 3, 4], e_okl 1 n1 = true := by decide +kernel
theorem e_okl2 : ∀ n1 ∈ [1, 2, 3, 4], e_okl 2 n1 = true := by decide +kernel
theorem e_okl3 : ∀ n1 ∈ [1, 2, 3, 4], e_okl 3 n1 = true := by decide +kernel
theorem e_okl4 : ∀ n1 ∈ [1, 2, 3, 4], e_okl 4 n1 = true := by decide +kernel
theorem e_all {n0 n1 : Nat} (h0 : 1 ≤ n0 ∧ n0 ≤ 4) (h1 : 1 ≤ n1 ∧ n1 ≤ 4) : e_cl n0 n1 = e_lv n1 n0 0 e_none ∧ (∀ s ∈ e_lv n1 n0 0 e_none, e_okb n0 n1 s = true) ∧ e_lv n1 n0 0 e_none ≠ [] := by
  have m1 : n1 ∈ [1, 2, 3, 4] := by
    have : n1 = 1 ∨ n1 = 2 ∨ n1 = 3 ∨ n1 = 4 := by omega
    rcases this with e | e | e | e <;> rw [e] <;> decide
  have k : e_cl n0 n1 = e_lv n1 n0 0 e_none ∧ e_okl n0 n1 = true := by
    have : n0 = 1 ∨ n0 = 2 ∨ n0 = 3 ∨ n0 = 4 := by omega
    rcases this with e | e | e | e <;> rw [e]
    · exact ⟨e_same1 n1 m1, e_okl1 n1 m1⟩
    · exact ⟨e_same2 n1 m1, e_okl2 n1 m1⟩
    · exact ⟨e_same3 n1 m1, e_okl3 n1 m1⟩
    · exact ⟨e_same4 n1 m1, e_okl4 n1 m1⟩
  obtain ⟨k1, k2⟩ := k
  unfold e_okl at k2
  rw [Bool.and_eq_true] at k2
  refine ⟨k1, fun s hs => List.all_eq_true.mp k2.1 s hs, fun e => ?_⟩
  rw [e] at k2
  exact absurd k2.2 (by decide)
theorem e_pn {n0 n1 j : Nat} {R : gj_M} (h0 : R 101 0 = n0) (h1 : R 101 1 = n1) (h : e_pnb n0 n1 j = true) : g_pe R 101 j := by
  unfold e_pnb at h
  rw [Bool.or_eq_true, Bool.and_eq_true, Bool.and_eq_true, decide_eq_true_eq, decide_eq_true_eq, decide_eq_true_eq, decide_eq_true_eq] at h
  unfold g_pe
  rw [h0, h1]
  omega
theorem e_sy {n0 n1 : Nat} {R : gj_M} {w : Int} {r : List Nat} (h0 : R 101 0 = n0) (h1 : R 101 1 = n1) (ok : e_okb n0 n1 r = true) (e : ∀ j, 0 ≤ j → j < 8 → R w j = e_rw r j) : g_SY w R := by
  intro j a b
  have m := List.all_eq_true.mp ok j.toNat (List.mem_range.mpr (by omega))
  rw [e j a b]
  by_cases c : r.getD j.toNat 8 = 8
  · left
    unfold e_rw
    rw [if_pos c]
  · right
    have er : e_rw r j = ((r.getD j.toNat 8 : Nat) : Int) := if_neg c
    rw [er]
    generalize r.getD j.toNat 8 = k at *
    simp only [Bool.or_eq_true, Bool.and_eq_true, beq_iff_eq, decide_eq_true_eq, bne_iff_ne, ne_eq, decide_eq_decide] at m
    obtain ⟨⟨⟨⟨k8, kx⟩, kp⟩, kq⟩, kb⟩ := m.resolve_left c
    have pj := e_pn h0 h1 kp
    rw [show ((j.toNat : Nat) : Int) = j by omega] at pj
    refine ⟨⟨by omega, by omega, by omega⟩, pj, e_pn h0 h1 kq, ?_⟩
    rw [e _ (by omega) (by omega)]
    unfold e_rw
    rw [show ((k : Int)).toNat = k by omega, kb, if_neg (by omega)]
    omega
/-- the best so far -/
def e_up (S : List Nat → Int) (st : Int × List Nat) (r : List Nat) : Int × List Nat := if S r ≤ st.1 then st else (S r, r)
def e_fo (S : List Nat → Int) (l : List (List Nat)) (st : Int × List Nat) : Int × List Nat := l.foldl (e_up S) st
theorem e_fo_app {S : List Nat → Int} {l k : List (List Nat)} {st : Int × List Nat} : e_fo S (l ++ k) st = e_fo S k (e_fo S l st) := List.foldl_append
theorem e_fo_q {S : List Nat → Int} {L : List (List Nat)} : ∀ (l : List (List Nat)) (st : Int × List Nat), (∀ r ∈ l, r ∈ L) → (st.1 = S st.2 ∧ st.2 ∈ L) → (e_fo S l st).1 = S (e_fo S l st).2 ∧ (e_fo S l st).2 ∈ L
  | [], st, _, h => h
  | a :: l, st, hl, h => by
    show (e_fo S l (e_up S st a)).1 = S (e_fo S l (e_up S st a)).2 ∧ _
    refine e_fo_q l _ (fun r hr => hl r (List.mem_cons_of_mem _ hr)) ?_
    unfold e_up
    split
    · exact h
    · exact ⟨rfl, hl a List.mem_cons_self⟩
theorem e_fo_m {S : List Nat → Int} {l : List (List Nat)} {x : List Nat} (h : l ≠ []) (hs : ∀ r ∈ l, 0 ≤ S r) : (e_fo S l (-1, x)).1 = S (e_fo S l (-1, x)).2 ∧ (e_fo S l (-1, x)).2 ∈ l := by
  cases l with
  | nil => exact absurd rfl h
  | cons a l =>
    have ha := hs a List.mem_cons_self
    show (e_fo S l (e_up S (-1, x) a)).1 = S (e_fo S l (e_up S (-1, x) a)).2 ∧ (e_fo S l (e_up S (-1, x) a)).2 ∈ a :: l
    have e : e_up S (-1, x) a = (S a, a) := by
      unfold e_up
      rw [if_neg (by show ¬ S a ≤ -1; omega)]
    rw [e]
    exact e_fo_q l _ (fun r hr => List.mem_cons_of_mem _ hr) ⟨rfl, List.mem_cons_self⟩
/-- what the plan makes of a row -/
def e_W (C : gj_M) (r : List Nat) : gj_M := fun z i => if z = 0 then e_rw r i else C z i
def e_S (C : gj_M) (r : List Nat) : Int := (F_X5_yearSum 0 8 (e_W C r)).getD 0
theorem e_W_z {C : gj_M} {r : List Nat} {z : Int} (h : z ≠ 0) : e_W C r z = C z := funext fun _ => if_neg h
theorem e_W_0 {C : gj_M} {r : List Nat} {j : Int} : e_W C r 0 j = e_rw r j := if_pos rfl
theorem e_S_r {C R N : gj_M} {r : List Nat} {w : Int} {n0 n1 : Nat} (h : g_PL C R) (h0 : R 101 0 = n0) (h1 : R 101 1 = n1) (ok : e_okb n0 n1 r = true) (hr : ∀ z, z = 83 ∨ z = 86 ∨ z = 89 ∨ z = 92 ∨ z = 95 ∨ z = 98 ∨ z = 101 → N z = R z) (e : ∀ j, 0 ≤ j → j < 8 → N w j = e_rw r j) : F_X12_sumOf w 8 N = some (e_S C r) ∧ F_X5_yearSum 0 8 (e_W C r) = some (e_S C r) ∧ 0 ≤ e_S C r ∧ e_S C r ≤ 25600 := by
  have n101 := hr 101 (by omega)
  have pl : g_PL (e_W C r) N := g_PL_s h (fun z a b => e_W_z (by omega)) hr
  obtain ⟨v, e1, e2, e3⟩ := p_sumJ (z := 0) (w := w) pl (fun j a b => by rw [e_W_0, e j a b]) (e_sy (by rw [n101]; exact h0) (by rw [n101]; exact h1) ok e)
  have ev : e_S C r = v := by
    unfold e_S
    rw [e1]
    rfl
  rw [ev]
  exact ⟨e2, e1, e3⟩
def e_W2 (R : gj_M) (r : List Nat) : gj_M := fun z i => if z = 124 then e_rw r i else R z i
theorem e_S_c {C R : gj_M} {r : List Nat} {n0 n1 : Nat} (h : g_PL C R) (h0 : R 101 0 = n0) (h1 : R 101 1 = n1) (ok : e_okb n0 n1 r = true) : (0 ≤ e_S C r ∧ e_S C r ≤ 25600) ∧ ∀ (M : gj_M) (z : Int), M 14 = C 14 → M 15 = C 15 → M 19 = C 19 → (∀ j, 0 ≤ j → j < 8 → M z j = e_rw r j) → F_X5_yearSum z 8 M = some (e_S C r) := by
  obtain ⟨-, e1, e2⟩ := e_S_r (N := e_W2 R r) (w := 124) h h0 h1 ok (fun z q => funext fun i => if_neg (by omega)) (fun j _ _ => if_pos rfl)
  refine ⟨e2, fun M z m14 m15 m19 e => ?_⟩
  rw [← e1]
  exact p_ysC (by rw [e_W_z (by decide)]; exact m14) (by rw [e_W_z (by decide)]; exact m15) (by rw [e_W_z (by decide)]; exact m19) (fun j a b => by rw [e_W_0]; exact e j a b)
/-- lists and cells -/
theorem e_gd {r : List Nat} (hl : r.length = 8) {k d : Nat} (hk : k < 8) : r.getD k d = r.getD k 8 := by
  rw [List.getD_eq_getElem?_getD, List.getD_eq_getElem?_getD, List.getElem?_eq_getElem (by omega), Option.getD_some, Option.getD_some]
theorem e_len {r : List Nat} {a w : Nat} (hl : r.length = 8) : (e_tie r a w).length = 8 := by
  unfold e_tie
  rw [List.length_set, List.length_set, hl]
theorem e_tie_g {r : List Nat} {a w k : Nat} (hl : r.length = 8) (ha : a < 8) (hw : w < 8) : (e_tie r a w).getD k 8 = if k = w then a else if k = a then w else r.getD k 8 := by
  unfold e_tie
  rw [List.getD_eq_getElem?_getD, List.getD_eq_getElem?_getD, List.getElem?_set, List.getElem?_set, List.length_set, hl]
  by_cases c : w = k
  · rw [if_pos c, if_pos (by omega), if_pos c.symm]
    rfl
  · rw [if_neg c, if_neg (show ¬ k = w from fun q => c q.symm)]
    by_cases d : a = k
    · rw [if_pos d, if_pos (by omega), if_pos d.symm]
      rfl
    · rw [if_neg d, if_neg (show ¬ k = a from fun q => d q.symm)]
theorem e_tie_r {r : List Nat} {a w : Nat} {j : Int} (hl : r.length = 8) (ha : a < 8) (hw : w < 8) (j0 : 0 ≤ j) : e_rw (e_tie r a w) j = if j = w then (a : Int) else if j = a then (w : Int) else e_rw r j := by
  unfold e_rw
  rw [e_tie_g hl ha hw]
  by_cases c : j.toNat = w
  · rw [if_pos c, if_neg (by omega), if_pos (show j = (w : Int) by omega)]
  · rw [if_neg c, if_neg (show ¬ j = (w : Int) by omega)]
    by_cases d : j.toNat = a
    · rw [if_pos d, if_neg (by omega), if_pos (show j = (a : Int) by omega)]
    · rw [if_neg d, if_neg (show ¬ j = (a : Int) by omega)]
theorem e_rw_m {r : List Nat} {k : Nat} : (e_rw r k = -1 ↔ r.getD k 8 = 8) := by
  unfold e_rw
  rw [show ((k : Int)).toNat = k by omega]
  by_cases c : r.getD k 8 = 8
  · rw [if_pos c]
    exact ⟨fun _ => c, fun _ => rfl⟩
  · rw [if_neg c]
    exact ⟨fun q => by omega, fun q => absurd q c⟩
