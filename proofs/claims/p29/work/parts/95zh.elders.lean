/-! PURE: parents and never told alike -/
theorem p_p43 {C R : gj_M} (h : g_PL C R) (p4 : g_P4 C R) : ∃ (st : Int) (r : List Nat) (n0 n1 : Nat) (N : gj_M), R 101 0 = n0 ∧ R 101 1 = n1 ∧ e_okb n0 n1 r = true ∧ (∀ j, 0 ≤ j → j < 8 → C 43 j = e_rw r j) ∧ F_X5_yearSum 43 8 C = some st ∧ (0 ≤ st ∧ st ≤ 25600) ∧ F_X12_findsParents R = some N ∧ g_oth R N ∧ N 79 46 = st ∧ ∀ j, 0 ≤ j → j < 8 → N 125 j = e_rw r j := by
  obtain ⟨n0, n1, h0, h1, h43⟩ := p4
  obtain ⟨N, f1, f2, f3, f4⟩ := p_findsJ h h0 h1
  have b0 := h.b0
  have b1 := h.b1
  have c0 := h.n0
  have c1 := h.n1
  obtain ⟨-, ok, ne⟩ := e_all (n0 := n0) (n1 := n1) (by omega) (by omega)
  have fin := e_fo_m (S := e_S C) (x := e_none) ne (fun r hr => (e_S_c h h0 h1 (ok r hr)).1.1)
  have okr := ok _ fin.2
  obtain ⟨bd, sc⟩ := e_S_c h h0 h1 okr
  refine ⟨_, _, n0, n1, N, h0, h1, okr, h43, sc C 43 rfl rfl rfl h43, bd, f1, f2, ?_, f4⟩
  rw [f3]
  exact fin.1
theorem e_rw_b {n0 n1 : Nat} {r : List Nat} {j : Int} (ok : e_okb n0 n1 r = true) (a : 0 ≤ j) (b : j < 8) : e_rw r j = -1 ∨ (0 ≤ e_rw r j ∧ e_rw r j < 8 ∧ (j < 4 ↔ ¬ e_rw r j < 4)) := by
  have s := e_sy (R := fun z i => if z = 101 then (if i = 0 then (n0 : Int) else (n1 : Int)) else e_rw r i) (w := 0) (n0 := n0) (n1 := n1) (r := r) rfl rfl ok (fun j _ _ => rfl)
  rcases s j a b with q | q
  · exact Or.inl q
  · exact Or.inr q.1
theorem p_parentsJ {C R : gj_M} {a : Int} (h : g_VS C R) (hy : R 79 18 = 1 → g_P4 C R) : ∃ v N, F_X11_parents a C = some v ∧ F_X12_parents a R = some (v, N) := by
  unfold F_X11_parents F_X12_parents
  rw [e_letI, h.st]
  by_cases v0 : R 79 18 = 0
  · rw [if_pos v0, if_pos v0]
    exact ⟨_, _, rfl, rfl⟩
  have v1 : R 79 18 = 1 := by have := h.v; omega
  have hp : g_PL C R := by
    rcases h with ⟨x, -⟩ | x
    · omega
    · exact x.2
  obtain ⟨st, r, n0, n1, N, h0, h1, okr, h43, ys, bd, fp, ot, n46, n125⟩ := p_p43 hp (hy v1)
  obtain ⟨s, s1, s2, s3⟩ := p_who (a := a) h
  have f := fr_X12_findsParents N fp
  have w : F_X12_who a N = some s := by
    rw [r_whoAgain (f 79 18 (by decide) (by decide)) (g_fr_row [101] f (by decide) 101 rfl (by decide))]
    exact s2
  rw [if_neg v0, if_neg v0, e_letI, s1, s2, gj_bnd_s, ys, gj_bnd_s, fp, gj_bnd_s, w, gj_bnd_s]
  by_cases c : a = -1
  · rw [if_pos c, if_pos c, if_pos c]
    exact ⟨_, _, rfl, by rw [n46]⟩
  rw [if_neg c, if_neg c]
  by_cases d : s = -1
  · rw [if_pos d, if_pos d]
    exact ⟨_, _, rfl, rfl⟩
  obtain ⟨s0, s8, -⟩ := s3.resolve_left d
  rw [if_neg d, if_neg d, if_neg c, f_at_in ⟨s0, s8⟩, gj_chkp ⟨s0, s8⟩, h43 s s0 s8, n125 s s0 s8, e_letI]
  have eb := e_rw_b okr s0 s8
  by_cases e : e_rw r s = -1
  · rw [if_pos e, e]
    exact ⟨_, _, rfl, rfl⟩
  · rw [if_neg e, f_num_told (by omega)]
    exact ⟨_, _, rfl, rfl⟩
/-- one of the parents' pairs never tried -/
def e_nt (R : gj_M) (r : List Nat) : Int → Int := fun j => if e_rw r j = -1 then 0 else if R 112 (f_cpl j (e_rw r j)) + R 113 (f_cpl j (e_rw r j)) = 0 then 1 else 0
theorem e_nt_b {R : gj_M} {r : List Nat} {j : Int} : 0 ≤ e_nt R r j ∧ e_nt R r j ≤ 3200 := by
  unfold e_nt
  (repeat' split) <;> omega
theorem e_sum_s {y : Int → Int} {k : Int} (h : 0 ≤ k) : e_sum y (k + 1).toNat = e_sum y k.toNat + y k := by
  rw [show (k + 1).toNat = k.toNat + 1 by omega]
  show e_sum y k.toNat + y ((k.toNat : Nat) : Int) = _
  rw [show ((k.toNat : Nat) : Int) = k by omega]
theorem p_neverC {C R : gj_M} {r : List Nat} {n0 n1 : Nat} (n : g_NO C R) (ok : e_okb n0 n1 r = true) (h43 : ∀ j, 0 ≤ j → j < 8 → C 43 j = e_rw r j) : F_X11_neverTried C = some (e_sum (e_nt R r) 4) := by
  unfold F_X11_neverTried
  refine gj_okQ2 (fun y : Option Int => y = some (e_sum (e_nt R r) 4)) (fun l1 l2 => 0 ≤ l2 ∧ l2 ≤ 4 ∧ l1 = e_sum (e_nt R r) l2.toNat) (fun _ l2 => (4 - l2).toNat) ?_ gj_fu 0 0 ⟨by decide, by decide, rfl⟩ (by show _ < 2048; omega)
  rintro rec l1 l2 ⟨a, b, e⟩ hr
  unfold B_X11_neverTried_4 J_X11_neverTried_44
  by_cases c : 4 ≤ l2
  · rw [if_pos c, e, show l2.toNat = 4 by omega]
  have l8 : 0 ≤ l2 ∧ l2 < 8 := by omega
  have bb := e_sum_b (y := e_nt R r) l2.toNat (fun j x y => e_nt_b)
  have nx : ∀ x : Int, x = e_nt R r l2 → rec (l1 + x) (l2 + 1) = some (e_sum (e_nt R r) 4) := fun x ex => hr _ _ ⟨by omega, by omega, by rw [e_sum_s a, e, ex]⟩ (by omega)
  rw [if_neg c, gj_wle (x := l2 + 1) (by omega) (by omega), f_at_in l8, h43 l2 l8.1 l8.2]
  have eb := e_rw_b ok l8.1 l8.2
  by_cases d : e_rw r l2 = -1
  · rw [if_pos d]
    have := nx 0 (if_pos d).symm
    rw [Int.add_zero] at this
    exact this
  · rw [if_neg d, e_letI]
    obtain ⟨-, t2⟩ := p_twoOf (M := R) (s := l2) (q := e_rw r l2) l8 (by omega) (by omega)
    obtain ⟨x1, x2, -, x4, -⟩ := n.n2 _ t2.1 t2.2
    unfold g_K at x4
    have et : f_X3_haveTried (f_cpl l2 (e_rw r l2)) C = if R 112 (f_cpl l2 (e_rw r l2)) + R 113 (f_cpl l2 (e_rw r l2)) = 0 then 0 else 1 := by
      unfold f_X3_haveTried
      rw [f_at_in t2, f_at_in t2, x1, x2, gj_wle (by omega) (by omega)]
      by_cases q : R 112 (f_cpl l2 (e_rw r l2)) + R 113 (f_cpl l2 (e_rw r l2)) = 0
      · rw [if_pos q, if_pos (by omega)]
      · rw [if_neg q, if_neg (by omega)]
    rw [et]
    by_cases q : R 112 (f_cpl l2 (e_rw r l2)) + R 113 (f_cpl l2 (e_rw r l2)) = 0
    · rw [if_pos q, if_pos rfl, gj_wle (x := l1 + 1) (by omega) (by omega)]
      refine nx 1 ?_
      unfold e_nt
      rw [if_neg d, if_pos q]
    · rw [if_neg q, if_neg (by decide)]
      have := nx 0 (by
        unfold e_nt
        rw [if_neg d, if_neg q])
      rw [Int.add_zero] at this
      exact this
theorem p_neverR {C R N : gj_M} {r : List Nat} {n0 n1 : Nat} (n : g_NO C R) (h0 : R 101 0 = n0) (h1 : R 101 1 = n1) (ok : e_okb n0 n1 r = true) (ot : g_oth R N) (n125 : ∀ j, 0 ≤ j → j < 8 → N 125 j = e_rw r j) : gj_it (fun _ _ _ => none) B_X12_never_48 gj_fu 0 0 N = some (e_sum (e_nt R r) 4, N) := by
  have b0 := n.pl.b0
  have k0 := n.pl.n0
  have e101 : N 101 = R 101 := ot 101 (by decide) (by decide) (by decide)
  have e112 : N 112 = R 112 := ot 112 (by decide) (by decide) (by decide)
  have e113 : N 113 = R 113 := ot 113 (by decide) (by decide) (by decide)
  have ext : ∀ k : Nat, n0 + k ≤ 4 → e_sum (e_nt R r) (n0 + k) = e_sum (e_nt R r) n0 := fun k => by
    induction k with
    | zero => intro _; rfl
    | succ k ih =>
      intro hk
      have sy := e_sy (R := fun z i => if z = 101 then R 101 i else e_rw r i) (w := 0) (n0 := n0) (n1 := n1) (r := r) (by exact h0) (by exact h1) ok (fun j _ _ => rfl)
      have z : e_rw r ((n0 + k : Nat) : Int) = -1 := by
        rcases sy ((n0 + k : Nat) : Int) (by omega) (by omega) with q | q
        · exact q
        · have := q.2.1
          unfold g_pe at this
          have this : (((n0 + k : Nat) : Int) < 4 ∧ ((n0 + k : Nat) : Int) < R 101 0) ∨ (4 ≤ ((n0 + k : Nat) : Int) ∧ ((n0 + k : Nat) : Int) - 4 < R 101 1) := this
          omega
      show e_sum (e_nt R r) (n0 + k) + e_nt R r ((n0 + k : Nat) : Int) = _
      rw [ih (by omega), show e_nt R r ((n0 + k : Nat) : Int) = 0 from if_pos z, Int.add_zero]
  have fin : e_sum (e_nt R r) n0 = e_sum (e_nt R r) 4 := by
    have := ext (4 - n0) (by omega)
    rw [show n0 + (4 - n0) = 4 by omega] at this
    exact this.symm
  refine gj_okM2 (fun y : Option (Int × gj_M) => y = some (e_sum (e_nt R r) 4, N)) (fun l2 l3 K => 0 ≤ l3 ∧ l3 ≤ n0 ∧ l2 = e_sum (e_nt R r) l3.toNat ∧ K = N) (fun _ l3 _ => (4 - l3).toNat) ?_ gj_fu 0 0 N ⟨by decide, by omega, rfl, rfl⟩ (by show _ < 2048; omega)
  rintro rec l2 l3 K ⟨a, b, e, eK⟩ hr
  rw [eK]
  unfold B_X12_never_48 J_X12_never_110
  rw [e101, h0]
  by_cases c : (n0 : Int) ≤ l3
  · rw [if_pos c, e, show l3.toNat = n0 by omega, fin]
  have l8 : 0 ≤ l3 ∧ l3 < 8 := by omega
  have bb := e_sum_b (y := e_nt R r) l3.toNat (fun j x y => e_nt_b)
  have nx : ∀ x : Int, 0 ≤ x → x ≤ 1 → x = e_nt R r l3 → rec (gj_w (l2 + x)) (l3 + 1) N = some (e_sum (e_nt R r) 4, N) := fun x x0 x1 ex => by
    rw [gj_wle (by omega) (by omega)]
    exact hr _ _ _ ⟨by omega, by omega, by rw [e_sum_s a, e, ex], rfl⟩ (by omega)
  rw [if_neg c, gj_chkp l8, gj_wle (x := l3 + 1) (by omega) (by omega), n125 l3 l8.1 l8.2]
  have eb := e_rw_b ok l8.1 l8.2
  by_cases d : e_rw r l3 = -1
  · rw [if_pos d]
    exact nx 0 (by decide) (by decide) (if_pos d).symm
  · obtain ⟨t1, t2⟩ := p_twoOf (M := N) (s := l3) (q := e_rw r l3) l8 (by omega) (by omega)
    obtain ⟨-, -, -, x4, -⟩ := n.n2 _ t2.1 t2.2
    unfold g_K at x4
    rw [if_neg d, gj_chkp l8, e_letI, t1, gj_chkp t2, gj_chkp l8, e_letI, gj_chkp t2, e112, e113, gj_wle (by omega) (by omega)]
    by_cases q : R 112 (f_cpl l3 (e_rw r l3)) + R 113 (f_cpl l3 (e_rw r l3)) = 0
    · rw [if_pos q]
      refine nx 1 (by decide) (by decide) ?_
      unfold e_nt
      rw [if_neg d, if_pos q]
    · rw [if_neg q]
      refine nx 0 (by decide) (by decide) ?_
      unfold e_nt
      rw [if_neg d, if_neg q]
theorem p_neverJ {C R : gj_M} {a : Int} (h : g_VS C R) (hn : R 79 18 = 1 → g_NO C R) (hy : R 79 18 = 1 → g_P4 C R) : ∃ v N, F_X11_never a C = some v ∧ F_X12_never a R = some (v, N) := by
  unfold F_X11_never F_X12_never
  rw [e_letI, h.st]
  by_cases v0 : R 79 18 = 0
  · rw [if_pos v0, if_pos v0]
    exact ⟨_, _, rfl, rfl⟩
  have v1 : R 79 18 = 1 := by have := h.v; omega
  have n := hn v1
  obtain ⟨st, r, n0, n1, N, h0, h1, okr, h43, ys, bd, fp, ot, n46, n125⟩ := p_p43 n.pl (hy v1)
  rw [if_neg v0, if_neg v0, e_letI, fp, gj_bnd_s, p_neverC n okr h43, gj_bnd_s, ys, gj_bnd_s, p_neverR n h0 h1 okr ot n125]
  have pl : g_PL C N := g_PL_s n.pl (fun _ _ _ => rfl) (fun z q => ot z (by omega) (by omega) (by omega))
  have e101 : N 101 = R 101 := ot 101 (by decide) (by decide) (by decide)
  have e108 : N 108 = R 108 := ot 108 (by decide) (by decide) (by decide)
  obtain ⟨x, x1, x2, x3⟩ := p_sumJ (z := 22) (w := 108) pl (fun j u v => by rw [e108]; exact (n.n1 j u v).1) (fun j u v => by
    rw [e108]
    rcases n.n3 j u v with q | ⟨q1, q2, q3, q4, -⟩
    · exact Or.inl q
    · refine Or.inr ⟨q1, ?_, ?_, q4⟩
      · unfold g_pe at *
        rw [e101]
        exact q2
      · unfold g_pe at *
        rw [e101]
        exact q3)
  rw [x1, gj_bnd_s, x2, gj_bnd_s, n46]
  by_cases a0 : a = 0
  · rw [if_pos a0, g_in1 (by omega) (by omega), if_neg (by decide), if_neg (by omega)]
    exact ⟨_, _, rfl, rfl⟩
  by_cases a1 : a = 1
  · rw [if_neg a0, if_pos a1, g_in1 (by omega) (by omega), if_neg (by decide), if_pos a1]
    exact ⟨_, _, rfl, rfl⟩
  · rw [if_neg a0, if_neg a1, g_in0 (by omega), if_pos rfl]
    exact ⟨_, _, rfl, rfl⟩
theorem q_parents {M : gj_M} {a : Int} (h : g_QK M M) : ∃ v U, F_X11_parents a M = some v ∧ F_X12_parents a M = some (v, U) ∧ g_QK U U := by
  obtain ⟨v, v', U, e1, e2, hU⟩ := x_parents (a := a) h.1
  have f : gj_Fr _ _ M U := fr_X12_parents _ _ e2
  obtain ⟨w, N, k1, k2⟩ := p_parentsJ (a := a) (C := M) (R := M) h.1.1.vs h.2
  obtain ⟨b1, -⟩ := g_some2 e2 k2
  have b2 : v = w := Option.some.inj (e1.symm.trans k1)
  exact ⟨v, U, e1, by rw [e2, b1, b2], hU, g_P43_fr h.2 f (by decide)⟩
theorem q_never {M : gj_M} {a : Int} (h : g_QK M M) : ∃ v U, F_X11_never a M = some v ∧ F_X12_never a M = some (v, U) ∧ g_QK U U := by
  obtain ⟨v, v', U, e1, e2, hU⟩ := x_never (a := a) h.1
  have f : gj_Fr _ _ M U := fr_X12_never _ _ e2
  obtain ⟨w, N, k1, k2⟩ := p_neverJ (a := a) (C := M) (R := M) h.1.1.vs (fun v => (h.1.2.2 v).1) h.2
  obtain ⟨b1, -⟩ := g_some2 e2 k2
  have b2 : v = w := Option.some.inj (e1.symm.trans k1)
  exact ⟨v, U, e1, by rw [e2, b1, b2], hU, g_P43_fr h.2 f (by decide)⟩
