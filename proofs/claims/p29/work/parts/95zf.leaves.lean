/-! PURE: the reference's search for the parents' way -/
theorem e_lv_s {n1 m a : Nat} {r : List Nat} : e_lv n1 (m + 1) a r = e_lv n1 m (a + 1) r ++ (List.range n1).flatMap (fun k => if r.getD (4 + k) 9 = 8 then e_lv n1 m (a + 1) (e_tie r a (4 + k)) else []) := rfl
def e_lvk (n1 m a : Nat) (r : List Nat) (k : Nat) : List (List Nat) := e_lv n1 m (a + 1) r ++ (List.range k).flatMap (fun k => if r.getD (4 + k) 9 = 8 then e_lv n1 m (a + 1) (e_tie r a (4 + k)) else [])
theorem e_lvk_s {n1 m a k : Nat} {r : List Nat} : e_lvk n1 m a r (k + 1) = e_lvk n1 m a r k ++ (if r.getD (4 + k) 9 = 8 then e_lv n1 m (a + 1) (e_tie r a (4 + k)) else []) := by
  unfold e_lvk
  rw [List.range_succ, List.flatMap_append, List.append_assoc]
  simp
theorem e_lvk_m {n1 m a k : Nat} {r : List Nat} (hk : k < n1) (h : r.getD (4 + k) 9 = 8) : ∀ s ∈ e_lv n1 m (a + 1) (e_tie r a (4 + k)), s ∈ e_lv n1 (m + 1) a r := fun s hs => by
  rw [e_lv_s]
  refine List.mem_append.mpr (Or.inr (List.mem_flatMap.mpr ⟨k, List.mem_range.mpr hk, ?_⟩))
  rw [if_pos h]
  exact hs
/-- how far the reference has come -/
def g_ST (S : List Nat → Int) (l : List (List Nat)) (st : Int × List Nat) (N : gj_M) : Prop := N 79 46 = (e_fo S l st).1 ∧ ((e_fo S l st).1 = -1 ∨ ∀ j, 0 ≤ j → j < 8 → N 125 j = e_rw (e_fo S l st).2 j)
theorem g_ST_up {S : List Nat → Int} {l : List (List Nat)} {st : Int × List Nat} {N : gj_M} {i v : Int} (h : g_ST S l st N) : g_ST S l st (gj_up N 124 i v) := ⟨by rw [gj_up_z (by decide)]; exact h.1, h.2.imp id (fun q j a b => by rw [gj_up_z (by decide)]; exact q j a b)⟩
def g_oth (R N : gj_M) : Prop := ∀ z, z ≠ 124 → z ≠ 125 → z ≠ 79 → N z = R z
theorem g_oth_up {R N : gj_M} {z i v : Int} (h : g_oth R N) (hz : z = 124 ∨ z = 125 ∨ z = 79) : g_oth R (gj_up N z i v) := fun w a b c => by
  rw [← h w a b c]
  exact funext fun x => gj_up_z (by omega)
theorem p_lvs {C R : gj_M} {n0 n1 : Nat} (h : g_PL C R) (h0 : R 101 0 = n0) (h1 : R 101 1 = n1) (b0 : n0 ≤ 4) (b1 : n1 ≤ 4) : ∀ (f m a : Nat) (r : List Nat) (M : gj_M) (st : Int × List Nat), m < f → a + m = n0 → r.length = 8 → (∀ j, a ≤ j → j < 4 → r.getD j 8 = 8) → g_oth R M → (∀ j, 0 ≤ j → j < 8 → M 124 j = e_rw r j) → g_ST (e_S C) [] st M → (∀ s ∈ e_lv n1 m a r, e_okb n0 n1 s = true) → ∃ N, F_X12_parentsN f a M = some N ∧ g_oth R N ∧ (∀ j, 0 ≤ j → j < 8 → N 124 j = e_rw r j) ∧ g_ST (e_S C) (e_lv n1 m a r) st N
  | 0, m, a, r, M, st, mf, _, _, _, _, _, _, _ => absurd mf (by omega)
  | f + 1, 0, a, r, M, st, mf, am, hl, hn, ho, hr, hs, ok => by
    unfold F_X12_parentsN
    rw [gj_it_s]
    generalize gj_it (fun _ _ => none) F_X12_parentsFrom f = W
    refine k_cps (fun P done => ?_)
    unfold F_X12_parentsFrom
    have okr : e_okb n0 n1 r = true := ok r List.mem_cons_self
    have e101 : M 101 = R 101 := ho 101 (by decide) (by decide) (by decide)
    obtain ⟨s1, -, s3, -⟩ := e_S_r (N := M) (w := 124) h h0 h1 okr (fun z q => ho z (by omega) (by omega) (by omega)) hr
    rw [if_pos (by rw [e101]; omega), s1, gj_bnd_s]
    have hs1 : M 79 46 = st.1 := hs.1
    have ef : e_fo (e_S C) (e_lv n1 0 a r) st = if e_S C r ≤ st.1 then st else (e_S C r, r) := rfl
    refine k_ite (fun c => ?_) (fun c => ?_)
    · rw [gj_let_s]
      have c2 : ¬ e_S C r ≤ st.1 := by omega
      rw [if_neg c2] at ef
      refine gj_okM1 P (fun l N => 0 ≤ l ∧ l ≤ 8 ∧ g_oth R N ∧ (∀ j, 0 ≤ j → j < 8 → N 124 j = e_rw r j) ∧ N 79 46 = e_S C r ∧ ∀ j, 0 ≤ j → j < l → N 125 j = e_rw r j) (fun l _ => (8 - l).toNat) ?_ gj_fu 0 _ ⟨by decide, by decide, g_oth_up ho (by decide), fun j x y => by rw [gj_up_z (by decide)]; exact hr j x y, gj_up_eq, fun j x y => by omega⟩ (by show _ < 2048; omega)
      rintro rec l N ⟨x, y, k1, k2, k3, k4⟩ hrec
      unfold B_X12_parentsFrom_37
      refine k_ite (fun q => ?_) (fun q => k_chk (by omega) (k_chk (by omega) ?_))
      · refine done N ⟨k1, k2, ?_⟩
        unfold g_ST
        rw [ef]
        exact ⟨k3, Or.inr (fun j u v => k4 j u (by omega))⟩
      · rw [gj_let_s, gj_wle (x := l + 1) (by omega) (by omega)]
        refine hrec _ _ ⟨by omega, by omega, g_oth_up k1 (by decide), fun j u v => by rw [gj_up_z (by decide)]; exact k2 j u v, by rw [gj_up_z (by decide)]; exact k3, fun j u v => ?_⟩ (by omega)
        rw [gj_up_if]
        by_cases t : j = l
        · rw [if_pos t, t]
          exact k2 l x (by omega)
        · rw [if_neg t]
          exact k4 j u (by omega)
    · have c2 : e_S C r ≤ st.1 := by omega
      rw [if_pos c2] at ef
      refine done M ⟨ho, hr, ?_⟩
      unfold g_ST
      rw [ef]
      exact hs
  | f + 1, m + 1, a, r, M, st, mf, am, hl, hn, ho, hr, hs, ok => by
    unfold F_X12_parentsN
    rw [gj_it_s]
    have ih : ∀ (r : List Nat) (M : gj_M) (st : Int × List Nat), r.length = 8 → (∀ j, a + 1 ≤ j → j < 4 → r.getD j 8 = 8) → g_oth R M → (∀ j, 0 ≤ j → j < 8 → M 124 j = e_rw r j) → g_ST (e_S C) [] st M → (∀ s ∈ e_lv n1 m (a + 1) r, e_okb n0 n1 s = true) → ∃ N, gj_it (fun _ _ => none) F_X12_parentsFrom f ((a : Int) + 1) M = some N ∧ g_oth R N ∧ (∀ j, 0 ≤ j → j < 8 → N 124 j = e_rw r j) ∧ g_ST (e_S C) (e_lv n1 m (a + 1) r) st N := fun r M st x1 x2 x3 x4 x5 x6 => by
      have := p_lvs h h0 h1 b0 b1 f m (a + 1) r M st (by omega) (by omega) x1 x2 x3 x4 x5 x6
      rw [show ((a + 1 : Nat) : Int) = (a : Int) + 1 by omega] at this
      exact this
    generalize gj_it (fun _ _ => none) F_X12_parentsFrom f = W at *
    refine k_cps (fun P done => ?_)
    unfold F_X12_parentsFrom
    have e101 : M 101 = R 101 := ho 101 (by decide) (by decide) (by decide)
    have a8 : 0 ≤ (a : Int) ∧ (a : Int) < 8 := by omega
    have ra : e_rw r (a : Int) = -1 := e_rw_m.mpr (hn a (by omega) (by omega))
    rw [if_neg (by rw [e101]; omega), gj_wle (x := (a : Int) + 1) (by omega) (by omega)]
    refine k_chk a8 ?_
    rw [gj_let_s]
    obtain ⟨A, eA, A1, A2, A3⟩ := ih r (gj_up M 124 a (-1)) st hl (fun j x y => hn j (by omega) y) (g_oth_up ho (by decide)) (fun j x y => by
      rw [gj_up_if]
      by_cases t : j = a
      · rw [if_pos t, t, ra]
      · rw [if_neg t]; exact hr j x y) (g_ST_up hs) (fun s q => ok s (by rw [e_lv_s]; exact List.mem_append.mpr (Or.inl q)))
    rw [eA, gj_bnd_s]
    refine gj_okM2 P (fun l1 l2 N => l1 = a ∧ 4 ≤ l2 ∧ l2 ≤ 4 + n1 ∧ g_oth R N ∧ (∀ j : Int, 0 ≤ j → j < 8 → j ≠ (a : Int) → N 124 j = e_rw r j) ∧ g_ST (e_S C) (e_lvk n1 m a r (l2 - 4).toNat) st N) (fun _ l2 _ => (8 - l2).toNat) ?_ gj_fu a 4 A ⟨rfl, by decide, by omega, A1, fun j x y _ => A2 j x y, ?_⟩ (by show _ < 2048; omega)
    · rintro rec l1 l2 N ⟨e1, x, y, k1, k2, k3⟩ hrec
      rw [e1]
      unfold B_X12_parentsFrom_78 J_X12_parentsFrom_139 J_X12_parentsFrom_133
      have n101 : N 101 = R 101 := k1 101 (by decide) (by decide) (by decide)
      rw [n101, h1, gj_wle (x := 4 + (n1 : Int)) (by omega) (by omega), gj_wle (x := l2 + 1) (by omega) (by omega), gj_wle (x := (a : Int) + 1) (by omega) (by omega)]
      refine k_ite (fun q => k_chk a8 ?_) (fun q => ?_)
      · rw [gj_let_s]
        refine done _ ⟨g_oth_up k1 (by decide), fun j u v => ?_, g_ST_up ?_⟩
        · rw [gj_up_if]
          by_cases t : j = a
          · rw [if_pos t, t, ra]
          · rw [if_neg t]; exact k2 j u v t
        · rw [show (l2 - 4).toNat = n1 by omega] at k3
          exact k3
      · obtain ⟨k, ek⟩ : ∃ k : Nat, l2 = 4 + k := ⟨(l2 - 4).toNat, by omega⟩
        have l8 : 0 ≤ l2 ∧ l2 < 8 := by omega
        have ekn : (l2 - 4).toNat = k := by omega
        have ek1 : (l2 + 1 - 4).toNat = k + 1 := by omega
        have nx : ∀ K : gj_M, g_oth R K → (∀ j : Int, 0 ≤ j → j < 8 → j ≠ (a : Int) → K 124 j = e_rw r j) → g_ST (e_S C) (e_lvk n1 m a r (k + 1)) st K → P (rec a (l2 + 1) K) := fun K q1 q2 q3 => hrec a (l2 + 1) K ⟨rfl, by omega, by omega, q1, q2, by rw [ek1]; exact q3⟩ (by omega)
        have em : N 124 l2 = -1 ↔ r.getD (4 + k) 9 = 8 := by
          rw [k2 l2 l8.1 l8.2 (by omega), e_gd hl (by omega), ek, show (4 : Int) + (k : Int) = ((4 + k : Nat) : Int) by omega]
          exact e_rw_m
        rw [ekn] at k3
        rw [e_lvk_s] at nx
        refine k_chk l8 (k_ite (fun c => k_chk a8 ?_) (fun c => ?_))
        · have c2 := em.mp c
          rw [if_pos c2] at nx
          rw [gj_let_s]
          refine k_chk l8 ?_
          rw [gj_let_s]
          have hl2 : (e_tie r a (4 + k)).length = 8 := e_len hl
          have tr : ∀ j : Int, 0 ≤ j → e_rw (e_tie r a (4 + k)) j = if j = l2 then (a : Int) else if j = a then l2 else e_rw r j := fun j x => by
            rw [e_tie_r hl (by omega) (by omega) x, ek, show ((4 + k : Nat) : Int) = 4 + (k : Int) by omega]
          obtain ⟨B, eB, B1, B2, B3⟩ := ih (e_tie r a (4 + k)) (gj_up (gj_up N 124 a l2) 124 l2 a) (e_fo (e_S C) (e_lvk n1 m a r k) st) hl2 (fun j u v => by
            rw [e_tie_g hl (by omega) (by omega), if_neg (by omega), if_neg (by omega)]
            exact hn j (by omega) v) (g_oth_up (g_oth_up k1 (by decide)) (by decide)) (fun j u v => by
            rw [gj_up_if, gj_up_if, tr j u]
            by_cases t : j = l2
            · rw [if_pos t, if_pos t]
            · rw [if_neg t, if_neg t]
              by_cases t2 : j = a
              · rw [if_pos t2, if_pos t2]
              · rw [if_neg t2, if_neg t2]
                exact k2 j u v t2) (g_ST_up (g_ST_up k3)) (fun s q => ok s (e_lvk_m (by omega) c2 s q))
          rw [eB, gj_bnd_s]
          refine k_chk l8 ?_
          rw [gj_let_s]
          refine nx _ (g_oth_up B1 (by decide)) (fun j u v t => ?_) (g_ST_up ?_)
          · rw [gj_up_if]
            by_cases t1 : j = l2
            · rw [if_pos t1, t1, ek, show (4 : Int) + (k : Int) = ((4 + k : Nat) : Int) by omega]
              exact (e_rw_m.mpr (by rw [← e_gd hl (d := 9) (by omega)]; exact c2)).symm
            · rw [if_neg t1, B2 j u v, tr j u, if_neg t1, if_neg t]
          · unfold g_ST
            rw [e_fo_app]
            exact B3
        · have c2 : ¬ r.getD (4 + k) 9 = 8 := fun q => c (em.mpr q)
          rw [if_neg c2, List.append_nil] at nx
          exact nx N k1 k2 k3
    · show g_ST (e_S C) (e_lvk n1 m a r 0) st A
      unfold e_lvk
      rw [List.range_zero, List.flatMap_nil, List.append_nil]
      exact A3
theorem p_findsJ {C R : gj_M} {n0 n1 : Nat} (h : g_PL C R) (h0 : R 101 0 = n0) (h1 : R 101 1 = n1) : ∃ N, F_X12_findsParents R = some N ∧ g_oth R N ∧ N 79 46 = (e_fo (e_S C) (e_lv n1 n0 0 e_none) (-1, e_none)).1 ∧ (∀ j, 0 ≤ j → j < 8 → N 125 j = e_rw (e_fo (e_S C) (e_lv n1 n0 0 e_none) (-1, e_none)).2 j) := by
  have b0 := h.b0
  have b1 := h.b1
  have c0 := h.n0
  have c1 := h.n1
  have n0b : 1 ≤ n0 ∧ n0 ≤ 4 := by omega
  have n1b : 1 ≤ n1 ∧ n1 ≤ 4 := by omega
  obtain ⟨al, ok, ne⟩ := e_all n0b n1b
  have fin := e_fo_m (S := e_S C) (x := e_none) ne (fun r hr => (e_S_c h h0 h1 (ok r hr)).1.1)
  refine k_cps (fun P done => ?_)
  unfold F_X12_findsParents
  refine gj_okM1 P (fun l N => 0 ≤ l ∧ l ≤ 8 ∧ g_oth R N ∧ ∀ j, 0 ≤ j → j < l → N 124 j = -1) (fun l _ => (8 - l).toNat) ?_ gj_fu 0 R ⟨by decide, by decide, fun _ _ _ _ => rfl, fun j a b => by omega⟩ (by show _ < 2048; omega)
  rintro rec l N ⟨x, y, k1, k2⟩ hrec
  unfold B_X12_findsParents_2 J_X12_findsParents_21
  refine k_ite (fun c => ?_) (fun c => k_chk (by omega) ?_)
  · rw [gj_let_s]
    obtain ⟨K, eK, q1, -, q3⟩ := p_lvs h h0 h1 n0b.2 n1b.2 6 n0 0 e_none (gj_up N 79 46 (-1)) (-1, e_none) (by omega) (by omega) (by decide) (fun j a b => by
      have : j = 0 ∨ j = 1 ∨ j = 2 ∨ j = 3 := by omega
      rcases this with e | e | e | e <;> rw [e] <;> decide) (g_oth_up k1 (by decide)) (fun j a b => by
      rw [gj_up_z (by decide), k2 j a (by omega)]
      have : j = 0 ∨ j = 1 ∨ j = 2 ∨ j = 3 ∨ j = 4 ∨ j = 5 ∨ j = 6 ∨ j = 7 := by omega
      rcases this with e | e | e | e | e | e | e | e <;> rw [e] <;> decide) ⟨gj_up_eq, Or.inl rfl⟩ ok
    have eK : F_X12_parentsN 6 0 (gj_up N 79 46 (-1)) = some K := eK
    rw [eK, gj_bnd_s]
    refine done K ⟨q1, q3.1, q3.2.resolve_left ?_⟩
    have := (e_S_c h h0 h1 (ok _ fin.2)).1.1
    omega
  · rw [gj_let_s, gj_wle (x := l + 1) (by omega) (by omega)]
    refine hrec _ _ ⟨by omega, by omega, g_oth_up k1 (by decide), fun j a b => ?_⟩ (by omega)
    rw [gj_up_if]
    split
    · rfl
    · exact k2 j a (by omega)
