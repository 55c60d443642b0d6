/-! PURE: a line, and all lines, side by side -/
theorem g_bnd2_id {p : Option (Int × gj_M)} : gj_bnd2 p (fun x M => some (x, M)) = p := by
  cases p with
  | none => rfl
  | some a => rfl
theorem g_LS_id {b : Int} {p q : Option (Int × gj_M)} (h : g_LS b p q) : g_LS b (gj_bnd2 p (fun x M => some (x, M))) (gj_bnd2 q (fun x M => some (x, M))) := by
  rw [g_bnd2_id, g_bnd2_id]
  exact h
theorem g_LS_01 {b : Int} {p q : Option (Int × gj_M)} (h : g_LS b p q) : g_LS b (gj_bnd2 p (fun x M => if x = 0 then some (0, M) else some (1, M))) q := by
  obtain ⟨x, C, y, R, e1, e2, e⟩ := h
  rw [e1, e2, gj_bnd2_s]
  rcases e with ⟨rfl, r⟩ | ⟨rfl, r⟩
  · rw [g_if00]; exact ⟨_, _, _, _, rfl, rfl, Or.inl ⟨rfl, r⟩⟩
  · rw [g_if10]; exact ⟨_, _, _, _, rfl, rfl, Or.inr ⟨rfl, r⟩⟩
theorem p_line {b : Int} {C R : gj_M} (h : g_TK b C R) (hd : g_DD C R) : g_LS b (F_X6_readLine C) (F_X12_line R) := by
  have h0 := h.cc.1
  have h1 := h.e0
  have h2 := h.e1
  obtain ⟨w1, w2⟩ := p_words h
  have hw : ∀ j, j < 9 → F_X6_isWord j C = some (if g_is (C 2) (C 10 7) (C 10 8) j = true then 1 else 0) := fun j hj => by
    rw [p_X6_isWord hj h.ct h0 h2 h1]
    by_cases q : g_is (C 2) (C 10 7) (C 10 8) j = true
    · have hl := g_len_ge hj
      have hq := q
      unfold g_is at hq
      rw [Bool.and_eq_true] at hq
      have hq1 := of_decide_eq_true hq.1
      have : C 10 6 = 1 := by
        rw [h.cc.2.2.1]
        exact g_kd1.mpr ⟨by omega, g_is_first hj q⟩
      rw [if_pos ⟨this, q⟩, if_pos q]
    · rw [if_neg (fun e => q e.2), if_neg q]
  unfold F_X6_readLine F_X12_line
  rw [w1, ← w2, gj_bnd_s, hw 0 (by decide), hw 1 (by decide), hw 2 (by decide), hw 3 (by decide), hw 4 (by decide), hw 5 (by decide), hw 6 (by decide), hw 7 (by decide), hw 8 (by decide)]
  simp only [gj_bnd_s]
  have z : ∀ (q : Prop) [Decidable q], ((if q then (1 : Int) else 0) = 0) ↔ ¬ q := fun q _ => by by_cases e : q <;> simp [e]
  simp only [z]
  unfold g_wh
  by_cases q0 : g_is (C 2) (C 10 7) (C 10 8) 0 = true
  · rw [if_neg (fun e => e q0), if_pos q0, if_pos rfl]
    exact g_LS_id (p_person (s := 0) (Or.inl rfl) h hd)
  rw [if_pos q0, if_neg q0]
  by_cases q1 : g_is (C 2) (C 10 7) (C 10 8) 1 = true
  · rw [if_neg (fun e => e q1), if_pos q1, if_neg (by decide), if_pos rfl]
    exact g_LS_id (p_person (s := 1) (Or.inr rfl) h hd)
  rw [if_pos q1, if_neg q1]
  by_cases q2 : g_is (C 2) (C 10 7) (C 10 8) 2 = true
  · rw [if_neg (fun e => e q2), if_pos q2, if_neg (by decide), if_neg (by decide), if_pos rfl]
    exact g_LS_id (p_think h hd)
  rw [if_pos q2, if_neg q2]
  by_cases q3 : g_is (C 2) (C 10 7) (C 10 8) 3 = true
  · rw [if_neg (fun e => e q3), if_pos q3, if_neg (by decide), if_neg (by decide), if_neg (by decide), if_pos rfl]
    exact g_LS_id (p_fit h hd)
  rw [if_pos q3, if_neg q3]
  by_cases q4 : g_is (C 2) (C 10 7) (C 10 8) 4 = true
  · rw [if_neg (fun e => e q4), if_pos q4, if_neg (by decide), if_neg (by decide), if_neg (by decide), if_neg (by decide)]
    exact g_LS_id (p_worth h hd)
  rw [if_pos q4, if_neg q4]
  by_cases q5 : g_is (C 2) (C 10 7) (C 10 8) 5 = true
  · rw [if_neg (fun e => e q5), if_pos q5, if_neg (by decide), if_neg (by decide), if_neg (by decide), if_neg (by decide)]
    exact g_LS_id (p_house h hd)
  rw [if_pos q5, if_neg q5]
  by_cases q6 : g_is (C 2) (C 10 7) (C 10 8) 6 = true
  · rw [if_neg (fun e => e q6), if_pos q6, if_neg (by decide), if_neg (by decide), if_neg (by decide), if_neg (by decide)]
    exact g_LS_id (p_child h hd)
  rw [if_pos q6, if_neg q6]
  by_cases q7 : g_is (C 2) (C 10 7) (C 10 8) 7 = true
  · rw [if_neg (fun e => e q7), if_pos q7, if_neg (by decide), if_neg (by decide), if_neg (by decide), if_neg (by decide)]
    exact g_LS_id (p_cow h hd)
  rw [if_pos q7, if_neg q7]
  by_cases q8 : g_is (C 2) (C 10 7) (C 10 8) 8 = true
  · rw [if_neg (fun e => e q8), if_pos q8, if_neg (by decide), if_neg (by decide), if_neg (by decide), if_neg (by decide)]
    have := g_LS_01 (p_ahead h hd)
    rw [← g_bnd2_id (p := F_X12_onceRead 8 R)] at this
    exact this
  rw [if_pos q8, if_neg q8, if_neg (by decide), if_neg (by decide), if_neg (by decide), if_neg (by decide)]
  unfold F_X12_onceRead J_X12_onceRead_20
  obtain ⟨-, -, s2⟩ := p_scans h
  rw [if_pos (by decide), s2, g_if00, gj_bnd2_s, g_if00, gj_bnd2_s]
  exact g_LS_no h
theorem g_kd0 {t : Int → Int} {n s : Int} : g_kd t n s = 0 ↔ n ≤ s := by
  unfold g_kd
  (repeat' split) <;> omega
/-- both readers have ended -/
def g_RE (x : Int) (C R : gj_M) : Prop := R 79 5 = x ∧ ((x = -1 ∧ g_DD C R ∧ 0 < C 3 0 ∧ 0 < C 3 1) ∨ (0 ≤ x ∧ x ≤ C 1 1))
theorem p_ends {b : Int} {C R : gj_M} {c : Int} (h : g_TK b C R) (hd : g_DD C R) : ∃ x U, J_X6_read_73 C = some (x, C) ∧ J_X12_reads_224 1 c R = some (c, U) ∧ g_RE x C U := by
  unfold J_X6_read_73 J_X12_reads_224 f_X5_stands_3 f_X9_length
  dsimp only [gj_letI, gj_let]
  have n0 := hd.n0
  have n1 := hd.n1
  have b0 := hd.b0
  have b1 := hd.b1
  have t0 := h.ct.1
  have tx := h.tx
  rw [if_neg (show ¬ (1 : Int) = 0 by decide)]
  by_cases c0 : R 102 0 = 0
  · rw [if_pos (show C 3 0 ≤ 0 by omega), if_pos rfl, if_pos c0]
    exact ⟨_, _, rfl, rfl, by rw [gj_up_eq]; exact tx.symm, Or.inr ⟨t0, Int.le_refl _⟩⟩
  · rw [if_neg (show ¬ C 3 0 ≤ 0 by omega), if_neg c0]
    by_cases c1 : R 102 1 = 0
    · rw [if_pos (show C 3 1 ≤ 0 by omega), if_pos rfl, if_pos c1]
      exact ⟨_, _, rfl, rfl, by rw [gj_up_eq]; exact tx.symm, Or.inr ⟨t0, Int.le_refl _⟩⟩
    · rw [if_neg (show ¬ C 3 1 ≤ 0 by omega), if_neg (show ¬ (1 : Int) = 0 by decide), if_neg c1]
      exact ⟨_, _, rfl, rfl, h.st, Or.inl ⟨rfl, hd, by omega, by omega⟩⟩
theorem p_loop {c : Int} : ∀ (m n n' : Nat) {l : Int} {C R : gj_M}, g_TK l C R → g_DD C R → (C 1 1 - C 10 7).toNat ≤ m → m < n → m + 1 < n' → 0 ≤ l → ∃ x D U, gj_it (fun _ _ => none) B_X6_read_37 n l C = some (x, D) ∧ gj_it (fun _ _ _ => none) B_X12_reads_201 n' 1 c R = some (c, U) ∧ g_RE x D U := by
  intro m
  induction m with
  | zero =>
    intro n n' l C R h hd hm hn hn' l0
    cases n with
    | zero => omega
    | succ n =>
      cases n' with
      | zero => omega
      | succ n' =>
        rw [gj_it_s, gj_it_s]
        unfold B_X6_read_37 B_X12_reads_201 f_X9_length
        dsimp only [gj_letI]
        have tx := h.tx
        have ps := h.ps
        have bb := h.bb
        have c1 := h.cc.2.1
        obtain ⟨x, U, e1, e2, e3⟩ := p_ends (c := c) h hd
        rw [if_neg (by omega), if_pos (show C 10 6 = 0 by rw [h.cc.2.2.1]; exact g_kd0.mpr (by omega)), if_neg (by decide), if_pos (by omega)]
        exact ⟨x, C, U, e1, e2, e3⟩
  | succ m ih =>
    intro n n' l C R h hd hm hn hn' l0
    cases n with
    | zero => omega
    | succ n =>
      cases n' with
      | zero => omega
      | succ n' =>
        rw [gj_it_s, gj_it_s]
        have tx := h.tx
        have ps := h.ps
        have bb := h.bb
        have c1 := h.cc.2.1
        have ct := h.ct.2.1
        by_cases k : C 1 1 ≤ C 10 7
        · unfold B_X6_read_37 B_X12_reads_201 f_X9_length
          dsimp only [gj_letI]
          obtain ⟨x, U, e1, e2, e3⟩ := p_ends (c := c) h hd
          rw [if_neg (by omega), if_pos (show C 10 6 = 0 by rw [h.cc.2.2.1]; exact g_kd0.mpr (by omega)), if_neg (by decide), if_pos (by omega)]
          exact ⟨x, C, U, e1, e2, e3⟩
        · have hl : g_TK (C 10 7) C R := ⟨h.tx, h.ct, h.tt, h.cc, h.cr, h.ps, h.st, Int.le_refl _⟩
          obtain ⟨x, D, y, U, e1, e2, e3⟩ := p_line hl hd
          unfold B_X6_read_37
          rw [show B_X12_reads_201 (gj_it (fun _ _ _ => none) B_X12_reads_201 n') 1 c R = gj_it (fun _ _ _ => none) B_X12_reads_201 n' y c U by
            unfold B_X12_reads_201
            rw [if_neg (by decide), if_neg (by omega), e2, gj_bnd2_s]]
          unfold f_X9_length
          dsimp only [gj_letI]
          rw [if_neg (by omega), if_neg (fun q => k (g_kd0.mp (h.cc.2.2.1.symm.trans q))), e1, gj_bnd2_s]
          rcases e3 with ⟨rfl, rfl, f1, f2, f3⟩ | ⟨rfl, rfl, t, d, f⟩
          · rw [g_if00]
            cases n' with
            | zero => omega
            | succ n' =>
              rw [gj_it_s]
              unfold B_X12_reads_201 J_X12_reads_224
              rw [if_pos rfl, if_pos rfl]
              exact ⟨_, D, U, rfl, rfl, f1, Or.inr ⟨f2, f3⟩⟩
          · rw [g_if10, gj_wle (by omega) (by omega)]
            have t2 : g_TK (l + 1) D U := ⟨t.tx, t.ct, t.tt, t.cc, t.cr, t.ps, t.st, by omega⟩
            have dc := t.cc.2.1
            have d1 : D 1 1 = C 1 1 := fr_X6_readLine _ e1 1 1 (by decide) (by decide)
            exact ih n n' t2 d (by have := t.tx; omega) (by omega) (by omega) (by omega)
