section GJC
variable {G : gj_G} {l : Launch} {S : gj_S} {M : gj_M}

def f_at (M : gj_M) (z n i : Int) : Int := if 0 ≤ i ∧ i < n then M z i else 0
def f_put (M : gj_M) (z n i v : Int) : gj_M := if 0 ≤ i ∧ i < n then gj_up M z i v else M
def f_fill (M : gj_M) (z n v : Int) : gj_M := fun a b => if a = z ∧ 0 ≤ b ∧ b < n then v else M a b
def f_copy (M : gj_M) (z n w m : Int) : gj_M := fun a b => if a = w ∧ 0 ≤ b ∧ b < m ∧ b < n then M z b else M a b
theorem f_fill_0 (M : gj_M) (z v : Int) : f_fill M z 0 v = M := by
  funext a b
  unfold f_fill
  rw [if_neg (by omega)]
theorem f_fill_s (M : gj_M) {z i v : Int} (h : 0 ≤ i) : gj_up (f_fill M z i v) z i v = f_fill M z (i + 1) v := by
  funext a b
  unfold f_fill gj_up
  dsimp only
  by_cases h1 : a = z ∧ b = i
  · rw [if_pos h1, if_pos (by omega)]
  · rw [if_neg h1]
    by_cases h2 : a = z ∧ 0 ≤ b ∧ b < i
    · rw [if_pos h2, if_pos (by omega)]
    · rw [if_neg h2, if_neg (by omega)]
theorem f_copy_0 (M : gj_M) (z n w : Int) : f_copy M z n w 0 = M := by
  funext a b
  unfold f_copy
  rw [if_neg (by omega)]
theorem f_copy_e (M : gj_M) {z n w m i : Int} (h : ¬ (i < n) ∨ ¬ (i < m)) (h1 : i ≤ n) (h2 : i ≤ m) : f_copy M z n w i = f_copy M z n w m := by
  funext a b
  unfold f_copy
  by_cases h3 : a = w ∧ 0 ≤ b ∧ b < m ∧ b < n
  · rw [if_pos (by omega), if_pos h3]
  · rw [if_neg (by omega), if_neg h3]
theorem f_copy_s (M : gj_M) {z n w i : Int} (h : 0 ≤ i) (hn : i < n) (hzw : z ≠ w) : gj_up (f_copy M z n w i) w i (f_copy M z n w i z i) = f_copy M z n w (i + 1) := by
  have e : f_copy M z n w i z i = M z i := by
    unfold f_copy
    rw [if_neg (by omega)]
  rw [e]
  funext a b
  unfold f_copy gj_up
  dsimp only
  by_cases h1 : a = w ∧ b = i
  · rw [if_pos h1, if_pos (by omega), h1.2]
  · rw [if_neg h1]
    by_cases h2 : a = w ∧ 0 ≤ b ∧ b < i ∧ b < n
    · rw [if_pos h2, if_pos (by omega)]
    · rw [if_neg h2, if_neg (by omega)]
def f_num (s : Int) : Int := if s < 4 then s else gj_w (gj_w (s - 4) + 10)
def f_plc (s : Int) : Int := if s < 4 then s else gj_w (s - 4)
def f_fac (s p : Int) : Int := if p = -1 then -1 else if s < 4 then gj_w (p + 4) else p
def f_unl (a b : Int) : Int := if a ≠ -1 ∧ b ≠ -1 ∧ ¬ (a < 4 ↔ b < 4) then 1 else 0
def f_cpl (a b : Int) : Int := if a < b then gj_w (gj_w (gj_w (a * 4) + b) - 4) else gj_w (gj_w (gj_w (b * 4) + a) - 4)
def f_vw (a b : Int) : Int := gj_w (gj_w (a * 4) + Int.tmod b 4)
theorem f_unl_01 (a b : Int) : f_unl a b = 0 ∨ f_unl a b = 1 := by unfold f_unl; split <;> simp
set_option maxHeartbeats 4000000 in
set_option maxRecDepth 20000 in
theorem c_X7_at {z n : Int} (hz : S.2.1 z = (0, n)) (h0 : 0 ≤ z) (hn : 0 ≤ n ∧ n < 2147483648) (i : Int) : gj_C G l 1 0 0 yX7_at cX7_at 2 (some .int) [jR z, jI i] S M (gj_qI fun x S' M' => f_at M z n i = x ∧ S = S' ∧ M = M') := by
  refine gj_Cof (by decide +kernel) (Nat.le_of_ble_eq_true rfl) ?_
  change gj_W G l 1 0 0 yX7_at cX7_at 2 (some .int) (gj_qI fun x S' M' => f_at M z n i = x ∧ S = S' ∧ M = M') 0 0 0 [(0, jR z), (1, jI i)] [] S M
  refine gj_aload_n (q := 1) (gj_dk okX7_at 0 rfl) rfl rfl ?_
  refine gj_ifnull (q := 4) (tgt := 20) (gj_dk okX7_at 1 rfl) (by decide) rfl (fun c1 => ?_) (fun c1 => ?_)
  · exfalso; omega
  · -- 4
    refine gj_iload_n (q := 5) (gj_dk okX7_at 2 rfl) rfl rfl ?_
    refine gj_if_lt (q := 8) (tgt := 20) (gj_dk okX7_at 3 rfl) (by decide) rfl (fun c5 => ?_) (fun c5 => ?_)
    · -- 20
      refine gj_iconst (q := 21) (gj_dk okX7_at 12 rfl) (by decide) rfl ?_
      exact gj_iret (gj_dk okX7_at 13 rfl) rfl ⟨_, rfl, by unfold f_at; split <;> first | rfl | omega | (exfalso; omega), rfl, rfl⟩
    · -- 8
      refine gj_iload_n (q := 9) (gj_dk okX7_at 4 rfl) rfl rfl ?_
      refine gj_aload_n (q := 10) (gj_dk okX7_at 5 rfl) rfl rfl ?_
      refine gj_alen (q := 11) (gj_dk okX7_at 6 rfl) hz (by decide) rfl ?_
      refine gj_icmp_ge (q := 14) (tgt := 20) (gj_dk okX7_at 7 rfl) (by decide) rfl (fun c11 => ?_) (fun c11 => ?_)
      · -- 20
        refine gj_iconst (q := 21) (gj_dk okX7_at 12 rfl) (by decide) rfl ?_
        exact gj_iret (gj_dk okX7_at 13 rfl) rfl ⟨_, rfl, by unfold f_at; split <;> first | rfl | omega | (exfalso; omega), rfl, rfl⟩
      · -- 14
        refine gj_aload_n (q := 15) (gj_dk okX7_at 8 rfl) rfl rfl ?_
        refine gj_iload_n (q := 16) (gj_dk okX7_at 9 rfl) rfl rfl ?_
        refine gj_iald (q := 17) (gj_dk okX7_at 10 rfl) hz (by omega) (by omega) rfl ?_
        refine gj_goto (tgt := 21) (gj_dk okX7_at 11 rfl) (by decide) ?_
        exact gj_iret (gj_dk okX7_at 13 rfl) rfl ⟨_, rfl, by unfold f_at; split <;> first | rfl | omega | (exfalso; omega), rfl, rfl⟩

set_option maxHeartbeats 4000000 in
set_option maxRecDepth 20000 in
theorem c_X7_is {z n : Int} (hz : S.2.1 z = (3, n)) (h0 : 0 ≤ z) (hn : 0 ≤ n ∧ n < 2147483648) (i : Int) : gj_C G l 1 0 0 yX7_is cX7_is 2 (some .boolean) [jR z, jI i] S M (gj_qI fun x S' M' => f_at M z n i = x ∧ S = S' ∧ M = M') := by
  refine gj_Cof (by decide +kernel) (Nat.le_of_ble_eq_true rfl) ?_
  change gj_W G l 1 0 0 yX7_is cX7_is 2 (some .boolean) (gj_qI fun x S' M' => f_at M z n i = x ∧ S = S' ∧ M = M') 0 0 0 [(0, jR z), (1, jI i)] [] S M
  refine gj_aload_n (q := 1) (gj_dk okX7_is 0 rfl) rfl rfl ?_
  refine gj_ifnull (q := 4) (tgt := 24) (gj_dk okX7_is 1 rfl) (by decide) rfl (fun c1 => ?_) (fun c1 => ?_)
  · exfalso; omega
  · -- 4
    refine gj_iload_n (q := 5) (gj_dk okX7_is 2 rfl) rfl rfl ?_
    refine gj_if_lt (q := 8) (tgt := 24) (gj_dk okX7_is 3 rfl) (by decide) rfl (fun c5 => ?_) (fun c5 => ?_)
    · -- 24
      refine gj_iconst (q := 25) (gj_dk okX7_is 14 rfl) (by decide) rfl ?_
      exact gj_zret (gj_dk okX7_is 15 rfl) rfl (by first | decide | omega) ⟨_, rfl, by unfold f_at; split <;> first | rfl | omega | (exfalso; omega), rfl, rfl⟩
    · -- 8
      refine gj_iload_n (q := 9) (gj_dk okX7_is 4 rfl) rfl rfl ?_
      refine gj_aload_n (q := 10) (gj_dk okX7_is 5 rfl) rfl rfl ?_
      refine gj_alen (q := 11) (gj_dk okX7_is 6 rfl) hz (by decide) rfl ?_
      refine gj_icmp_ge (q := 14) (tgt := 24) (gj_dk okX7_is 7 rfl) (by decide) rfl (fun c11 => ?_) (fun c11 => ?_)
      · -- 24
        refine gj_iconst (q := 25) (gj_dk okX7_is 14 rfl) (by decide) rfl ?_
        exact gj_zret (gj_dk okX7_is 15 rfl) rfl (by first | decide | omega) ⟨_, rfl, by unfold f_at; split <;> first | rfl | omega | (exfalso; omega), rfl, rfl⟩
      · -- 14
        refine gj_aload_n (q := 15) (gj_dk okX7_is 8 rfl) rfl rfl ?_
        refine gj_iload_n (q := 16) (gj_dk okX7_is 9 rfl) rfl rfl ?_
        refine gj_zald (q := 17) (gj_dk okX7_is 10 rfl) hz (by omega) (by omega) rfl ?_
        refine gj_rng (fun _ hm16 _ => ?_)
        have hz16 : M z i = 0 ∨ M z i = 1 := (gj_okm_ld hm16 hz (by first | decide | omega) (by decide)).2.2.2 rfl
        clear hm16
        refine gj_if_eq (q := 20) (tgt := 24) (gj_dk okX7_is 11 rfl) (by decide) rfl (fun c17 => ?_) (fun c17 => ?_)
        · -- 24
          refine gj_iconst (q := 25) (gj_dk okX7_is 14 rfl) (by decide) rfl ?_
          exact gj_zret (gj_dk okX7_is 15 rfl) rfl (by first | decide | omega) ⟨_, rfl, by unfold f_at; split <;> first | rfl | omega | (exfalso; omega), rfl, rfl⟩
        · -- 20
          refine gj_iconst (q := 21) (gj_dk okX7_is 12 rfl) (by decide) rfl ?_
          refine gj_goto (tgt := 25) (gj_dk okX7_is 13 rfl) (by decide) ?_
          exact gj_zret (gj_dk okX7_is 15 rfl) rfl (by first | decide | omega) ⟨_, rfl, by unfold f_at; split <;> first | rfl | omega | (exfalso; omega), rfl, rfl⟩

set_option maxHeartbeats 4000000 in
set_option maxRecDepth 20000 in
theorem c_X7_put {z n : Int} (hz : S.2.1 z = (0, n)) (h0 : 0 ≤ z) (hn : 0 ≤ n ∧ n < 2147483648) (i v : Int) : gj_C G l 1 0 0 yX7_put cX7_put 3 none [jR z, jI i, jI v] S M (gj_qV fun S' M' => S = S' ∧ f_put M z n i v = M') := by
  refine gj_Cof (by decide +kernel) (Nat.le_of_ble_eq_true rfl) ?_
  change gj_W G l 1 0 0 yX7_put cX7_put 3 none (gj_qV fun S' M' => S = S' ∧ f_put M z n i v = M') 0 0 0 [(0, jR z), (1, jI i), (2, jI v)] [] S M
  refine gj_aload_n (q := 1) (gj_dk okX7_put 0 rfl) rfl rfl ?_
  refine gj_ifnull (q := 4) (tgt := 18) (gj_dk okX7_put 1 rfl) (by decide) rfl (fun c1 => ?_) (fun c1 => ?_)
  · exfalso; omega
  · -- 4
    refine gj_iload_n (q := 5) (gj_dk okX7_put 2 rfl) rfl rfl ?_
    refine gj_if_lt (q := 8) (tgt := 18) (gj_dk okX7_put 3 rfl) (by decide) rfl (fun c5 => ?_) (fun c5 => ?_)
    · -- 18
      exact gj_vret (gj_dk okX7_put 12 rfl) rfl ⟨rfl, rfl, by unfold f_put; split <;> first | rfl | (exfalso; omega)⟩
    · -- 8
      refine gj_iload_n (q := 9) (gj_dk okX7_put 4 rfl) rfl rfl ?_
      refine gj_aload_n (q := 10) (gj_dk okX7_put 5 rfl) rfl rfl ?_
      refine gj_alen (q := 11) (gj_dk okX7_put 6 rfl) hz (by decide) rfl ?_
      refine gj_icmp_ge (q := 14) (tgt := 18) (gj_dk okX7_put 7 rfl) (by decide) rfl (fun c11 => ?_) (fun c11 => ?_)
      · -- 18
        exact gj_vret (gj_dk okX7_put 12 rfl) rfl ⟨rfl, rfl, by unfold f_put; split <;> first | rfl | (exfalso; omega)⟩
      · -- 14
        refine gj_aload_n (q := 15) (gj_dk okX7_put 8 rfl) rfl rfl ?_
        refine gj_iload_n (q := 16) (gj_dk okX7_put 9 rfl) rfl rfl ?_
        refine gj_iload_n (q := 17) (gj_dk okX7_put 10 rfl) rfl rfl ?_
        refine gj_iast (q := 18) (gj_dk okX7_put 11 rfl) hz (by omega) (by omega) rfl ?_
        exact gj_vret (gj_dk okX7_put 12 rfl) rfl ⟨rfl, rfl, by unfold f_put; split <;> first | rfl | (exfalso; omega)⟩

set_option maxHeartbeats 4000000 in
set_option maxRecDepth 20000 in
theorem c_X7_mark {z n : Int} (hz : S.2.1 z = (3, n)) (h0 : 0 ≤ z) (hn : 0 ≤ n ∧ n < 2147483648) (i v : Int) (hv : v = 0 ∨ v = 1) : gj_C G l 1 0 0 yX7_mark cX7_mark 3 none [jR z, jI i, jI v] S M (gj_qV fun S' M' => S = S' ∧ f_put M z n i v = M') := by
  refine gj_Cof (by decide +kernel) (Nat.le_of_ble_eq_true rfl) ?_
  change gj_W G l 1 0 0 yX7_mark cX7_mark 3 none (gj_qV fun S' M' => S = S' ∧ f_put M z n i v = M') 0 0 0 [(0, jR z), (1, jI i), (2, jI v)] [] S M
  refine gj_aload_n (q := 1) (gj_dk okX7_mark 0 rfl) rfl rfl ?_
  refine gj_ifnull (q := 4) (tgt := 18) (gj_dk okX7_mark 1 rfl) (by decide) rfl (fun c1 => ?_) (fun c1 => ?_)
  · exfalso; omega
  · -- 4
    refine gj_iload_n (q := 5) (gj_dk okX7_mark 2 rfl) rfl rfl ?_
    refine gj_if_lt (q := 8) (tgt := 18) (gj_dk okX7_mark 3 rfl) (by decide) rfl (fun c5 => ?_) (fun c5 => ?_)
    · -- 18
      exact gj_vret (gj_dk okX7_mark 12 rfl) rfl ⟨rfl, rfl, by unfold f_put; split <;> first | rfl | (exfalso; omega)⟩
    · -- 8
      refine gj_iload_n (q := 9) (gj_dk okX7_mark 4 rfl) rfl rfl ?_
      refine gj_aload_n (q := 10) (gj_dk okX7_mark 5 rfl) rfl rfl ?_
      refine gj_alen (q := 11) (gj_dk okX7_mark 6 rfl) hz (by decide) rfl ?_
      refine gj_icmp_ge (q := 14) (tgt := 18) (gj_dk okX7_mark 7 rfl) (by decide) rfl (fun c11 => ?_) (fun c11 => ?_)
      · -- 18
        exact gj_vret (gj_dk okX7_mark 12 rfl) rfl ⟨rfl, rfl, by unfold f_put; split <;> first | rfl | (exfalso; omega)⟩
      · -- 14
        refine gj_aload_n (q := 15) (gj_dk okX7_mark 8 rfl) rfl rfl ?_
        refine gj_iload_n (q := 16) (gj_dk okX7_mark 9 rfl) rfl rfl ?_
        refine gj_iload_n (q := 17) (gj_dk okX7_mark 10 rfl) rfl rfl ?_
        refine gj_zast (q := 18) (gj_dk okX7_mark 11 rfl) hz (by omega) (by omega) (by first | decide | assumption | omega) rfl ?_
        exact gj_vret (gj_dk okX7_mark 12 rfl) rfl ⟨rfl, rfl, by unfold f_put; split <;> first | rfl | (exfalso; omega)⟩

set_option maxHeartbeats 4000000 in
set_option maxRecDepth 20000 in
theorem c_X7_fill {z n : Int} (hz : S.2.1 z = (0, n)) (h0 : 0 ≤ z) (hn : 0 ≤ n ∧ n < 2147483648) (v : Int) : gj_C G l 1 0 0 yX7_fill cX7_fill 3 none [jR z, jI v] S M (gj_qV fun S' M' => S = S' ∧ f_fill M z n v = M') := by
  refine gj_Cof (by decide +kernel) (Nat.le_of_ble_eq_true rfl) ?_
  change gj_W G l 1 0 0 yX7_fill cX7_fill 3 none (gj_qV fun S' M' => S = S' ∧ f_fill M z n v = M') 0 0 0 [(0, jR z), (1, jI v)] [] S M
  refine gj_aload_n (q := 1) (gj_dk okX7_fill 0 rfl) rfl rfl ?_
  refine gj_ifnonnull (q := 4) (tgt := 5) (gj_dk okX7_fill 1 rfl) (by decide) rfl (fun c1 => ?_) (fun c1 => ?_)
  · -- 5
    refine gj_iconst (q := 6) (gj_dk okX7_fill 3 rfl) (by decide) rfl ?_
    refine gj_istore_n (q := 7) (gj_dk okX7_fill 4 rfl) (by decide) rfl ?_
    have L7 : ∀ (k2 : Nat) (x1 : Int) (M3 : gj_M), (0 ≤ x1 ∧ x1 ≤ n) → (M3 = f_fill M z x1 v) → (2147483647 - x1).toNat < k2 → gj_W G l 1 0 0 yX7_fill cX7_fill 3 none (gj_qV fun S' M' => S = S' ∧ f_fill M z n v = M') 0 0 7 [(0, jR z), (1, jI v), (2, jI x1)] [] S M3 := by
      intro k2
      induction k2 with
      | zero => intro x1 M3 f5 f6 hk7; exact absurd hk7 (Nat.not_lt_zero _)
      | succ k2 ih7 =>
        intro x1 M3 f5 f6 hk7
        refine gj_iload_n (q := 8) (gj_dk okX7_fill 5 rfl) rfl rfl ?_
        refine gj_aload_n (q := 9) (gj_dk okX7_fill 6 rfl) rfl rfl ?_
        refine gj_alen (q := 10) (gj_dk okX7_fill 7 rfl) hz (by decide) rfl ?_
        refine gj_rng (fun ho10 _ _ => ?_)
        have hb10 : -2147483648 ≤ n ∧ n < 2147483648 := gj_o0 ho10
        have ha10 : -2147483648 ≤ x1 ∧ x1 < 2147483648 := gj_o1 ho10
        clear ho10
        refine gj_icmp_ge (q := 13) (tgt := 23) (gj_dk okX7_fill 8 rfl) (by decide) rfl (fun c10 => ?_) (fun c10 => ?_)
        · -- 23
          have e9 : x1 = n := by omega
          exact gj_vret (gj_dk okX7_fill 15 rfl) rfl ⟨rfl, rfl, by rw [f6, e9]⟩
        · -- 13
          refine gj_aload_n (q := 14) (gj_dk okX7_fill 9 rfl) rfl rfl ?_
          refine gj_iload_n (q := 15) (gj_dk okX7_fill 10 rfl) rfl rfl ?_
          refine gj_iload_n (q := 16) (gj_dk okX7_fill 11 rfl) rfl rfl ?_
          refine gj_iast (q := 17) (gj_dk okX7_fill 12 rfl) hz (by omega) (by omega) rfl ?_
          refine gj_iinc (q := 20) (v := x1 + 1) (gj_dk okX7_fill 13 rfl) rfl (by decide) (gj_wle (by omega) (by omega)) rfl ?_
          refine gj_goto (tgt := 7) (gj_dk okX7_fill 14 rfl) (by decide) ?_
          refine gj_sub [(0, jR z), (1, jI v), (2, jI (x1 + 1))] ⟨rfl, rfl, rfl, trivial⟩ ?_
          exact ih7 _ _ (by omega) (by rw [f6]; exact f_fill_s M (by omega)) (by omega)
    refine gj_sub [(0, jR z), (1, jI v), (2, jI 0)] ⟨rfl, rfl, rfl, trivial⟩ ?_
    exact L7 _ _ _ (by omega) (by exact (f_fill_0 M z _).symm) (Nat.lt_succ_self _)
  · exfalso; omega

set_option maxHeartbeats 4000000 in
set_option maxRecDepth 20000 in
theorem c_X7_unmark {z n : Int} (hz : S.2.1 z = (3, n)) (h0 : 0 ≤ z) (hn : 0 ≤ n ∧ n < 2147483648) : gj_C G l 1 0 0 yX7_unmark cX7_unmark 2 none [jR z] S M (gj_qV fun S' M' => S = S' ∧ f_fill M z n 0 = M') := by
  refine gj_Cof (by decide +kernel) (Nat.le_of_ble_eq_true rfl) ?_
  change gj_W G l 1 0 0 yX7_unmark cX7_unmark 2 none (gj_qV fun S' M' => S = S' ∧ f_fill M z n 0 = M') 0 0 0 [(0, jR z)] [] S M
  refine gj_aload_n (q := 1) (gj_dk okX7_unmark 0 rfl) rfl rfl ?_
  refine gj_ifnonnull (q := 4) (tgt := 5) (gj_dk okX7_unmark 1 rfl) (by decide) rfl (fun c1 => ?_) (fun c1 => ?_)
  · -- 5
    refine gj_iconst (q := 6) (gj_dk okX7_unmark 3 rfl) (by decide) rfl ?_
    refine gj_istore_n (q := 7) (gj_dk okX7_unmark 4 rfl) (by decide) rfl ?_
    have L7 : ∀ (k2 : Nat) (x1 : Int) (M3 : gj_M), (0 ≤ x1 ∧ x1 ≤ n) → (M3 = f_fill M z x1 0) → (2147483647 - x1).toNat < k2 → gj_W G l 1 0 0 yX7_unmark cX7_unmark 2 none (gj_qV fun S' M' => S = S' ∧ f_fill M z n 0 = M') 0 0 7 [(0, jR z), (1, jI x1)] [] S M3 := by
      intro k2
      induction k2 with
      | zero => intro x1 M3 f5 f6 hk7; exact absurd hk7 (Nat.not_lt_zero _)
      | succ k2 ih7 =>
        intro x1 M3 f5 f6 hk7
        refine gj_iload_n (q := 8) (gj_dk okX7_unmark 5 rfl) rfl rfl ?_
        refine gj_aload_n (q := 9) (gj_dk okX7_unmark 6 rfl) rfl rfl ?_
        refine gj_alen (q := 10) (gj_dk okX7_unmark 7 rfl) hz (by decide) rfl ?_
        refine gj_rng (fun ho10 _ _ => ?_)
        have hb10 : -2147483648 ≤ n ∧ n < 2147483648 := gj_o0 ho10
        have ha10 : -2147483648 ≤ x1 ∧ x1 < 2147483648 := gj_o1 ho10
        clear ho10
        refine gj_icmp_ge (q := 13) (tgt := 23) (gj_dk okX7_unmark 8 rfl) (by decide) rfl (fun c10 => ?_) (fun c10 => ?_)
        · -- 23
          have e9 : x1 = n := by omega
          exact gj_vret (gj_dk okX7_unmark 15 rfl) rfl ⟨rfl, rfl, by rw [f6, e9]⟩
        · -- 13
          refine gj_aload_n (q := 14) (gj_dk okX7_unmark 9 rfl) rfl rfl ?_
          refine gj_iload_n (q := 15) (gj_dk okX7_unmark 10 rfl) rfl rfl ?_
          refine gj_iconst (q := 16) (gj_dk okX7_unmark 11 rfl) (by decide) rfl ?_
          refine gj_zast (q := 17) (gj_dk okX7_unmark 12 rfl) hz (by omega) (by omega) (by first | decide | assumption | omega) rfl ?_
          refine gj_iinc (q := 20) (v := x1 + 1) (gj_dk okX7_unmark 13 rfl) rfl (by decide) (gj_wle (by omega) (by omega)) rfl ?_
          refine gj_goto (tgt := 7) (gj_dk okX7_unmark 14 rfl) (by decide) ?_
          refine gj_sub [(0, jR z), (1, jI (x1 + 1))] ⟨rfl, rfl, trivial⟩ ?_
          exact ih7 _ _ (by omega) (by rw [f6]; exact f_fill_s M (by omega)) (by omega)
    refine gj_sub [(0, jR z), (1, jI 0)] ⟨rfl, rfl, trivial⟩ ?_
    exact L7 _ _ _ (by omega) (by exact (f_fill_0 M z _).symm) (Nat.lt_succ_self _)
  · exfalso; omega

set_option maxHeartbeats 4000000 in
set_option maxRecDepth 20000 in
theorem c_X7_copy {z n w m : Int} (hz : S.2.1 z = (0, n)) (h0 : 0 ≤ z) (hn : 0 ≤ n ∧ n < 2147483648) (hw : S.2.1 w = (0, m)) (h1 : 0 ≤ w) (hm : 0 ≤ m ∧ m < 2147483648) (hzw : z ≠ w) : gj_C G l 1 0 0 yX7_copy cX7_copy 3 none [jR z, jR w] S M (gj_qV fun S' M' => S = S' ∧ f_copy M z n w m = M') := by
  refine gj_Cof (by decide +kernel) (Nat.le_of_ble_eq_true rfl) ?_
  change gj_W G l 1 0 0 yX7_copy cX7_copy 3 none (gj_qV fun S' M' => S = S' ∧ f_copy M z n w m = M') 0 0 0 [(0, jR z), (1, jR w)] [] S M
  refine gj_aload_n (q := 1) (gj_dk okX7_copy 0 rfl) rfl rfl ?_
  refine gj_ifnull (q := 4) (tgt := 8) (gj_dk okX7_copy 1 rfl) (by decide) rfl (fun c1 => ?_) (fun c1 => ?_)
  · exfalso; omega
  · -- 4
    refine gj_aload_n (q := 5) (gj_dk okX7_copy 2 rfl) rfl rfl ?_
    refine gj_ifnonnull (q := 8) (tgt := 9) (gj_dk okX7_copy 3 rfl) (by decide) rfl (fun c5 => ?_) (fun c5 => ?_)
    · -- 9
      refine gj_iconst (q := 10) (gj_dk okX7_copy 5 rfl) (by decide) rfl ?_
      refine gj_istore_n (q := 11) (gj_dk okX7_copy 6 rfl) (by decide) rfl ?_
      have L11 : ∀ (k2 : Nat) (x1 : Int) (M3 : gj_M), (0 ≤ x1 ∧ x1 ≤ n ∧ x1 ≤ m) → (M3 = f_copy M z n w x1) → (2147483647 - x1).toNat < k2 → gj_W G l 1 0 0 yX7_copy cX7_copy 3 none (gj_qV fun S' M' => S = S' ∧ f_copy M z n w m = M') 0 0 11 [(0, jR z), (1, jR w), (2, jI x1)] [] S M3 := by
        intro k2
        induction k2 with
        | zero => intro x1 M3 f5 f6 hk11; exact absurd hk11 (Nat.not_lt_zero _)
        | succ k2 ih11 =>
          intro x1 M3 f5 f6 hk11
          refine gj_iload_n (q := 12) (gj_dk okX7_copy 7 rfl) rfl rfl ?_
          refine gj_aload_n (q := 13) (gj_dk okX7_copy 8 rfl) rfl rfl ?_
          refine gj_alen (q := 14) (gj_dk okX7_copy 9 rfl) hz (by decide) rfl ?_
          refine gj_rng (fun ho14 _ _ => ?_)
          have hb14 : -2147483648 ≤ n ∧ n < 2147483648 := gj_o0 ho14
          have ha14 : -2147483648 ≤ x1 ∧ x1 < 2147483648 := gj_o1 ho14
          clear ho14
          refine gj_icmp_ge (q := 17) (tgt := 35) (gj_dk okX7_copy 10 rfl) (by decide) rfl (fun c14 => ?_) (fun c14 => ?_)
          · -- 35
            exact gj_vret (gj_dk okX7_copy 23 rfl) rfl ⟨rfl, rfl, by rw [f6]; exact (f_copy_e M (by omega) (by omega) (by omega)).symm⟩
          · -- 17
            refine gj_iload_n (q := 18) (gj_dk okX7_copy 11 rfl) rfl rfl ?_
            refine gj_aload_n (q := 19) (gj_dk okX7_copy 12 rfl) rfl rfl ?_
            refine gj_alen (q := 20) (gj_dk okX7_copy 13 rfl) hw (by decide) rfl ?_
            refine gj_rng (fun ho20 _ _ => ?_)
            have hb20 : -2147483648 ≤ m ∧ m < 2147483648 := gj_o0 ho20
            have ha20 : -2147483648 ≤ x1 ∧ x1 < 2147483648 := gj_o1 ho20
            clear ho20
            refine gj_icmp_ge (q := 23) (tgt := 35) (gj_dk okX7_copy 14 rfl) (by decide) rfl (fun c20 => ?_) (fun c20 => ?_)
            · -- 35
              exact gj_vret (gj_dk okX7_copy 23 rfl) rfl ⟨rfl, rfl, by rw [f6]; exact (f_copy_e M (by omega) (by omega) (by omega)).symm⟩
            · -- 23
              refine gj_aload_n (q := 24) (gj_dk okX7_copy 15 rfl) rfl rfl ?_
              refine gj_iload_n (q := 25) (gj_dk okX7_copy 16 rfl) rfl rfl ?_
              refine gj_aload_n (q := 26) (gj_dk okX7_copy 17 rfl) rfl rfl ?_
              refine gj_iload_n (q := 27) (gj_dk okX7_copy 18 rfl) rfl rfl ?_
              refine gj_iald (q := 28) (gj_dk okX7_copy 19 rfl) hz (by omega) (by omega) rfl ?_
              refine gj_iast (q := 29) (gj_dk okX7_copy 20 rfl) hw (by omega) (by omega) rfl ?_
              refine gj_iinc (q := 32) (v := x1 + 1) (gj_dk okX7_copy 21 rfl) rfl (by decide) (gj_wle (by omega) (by omega)) rfl ?_
              refine gj_goto (tgt := 11) (gj_dk okX7_copy 22 rfl) (by decide) ?_
              refine gj_sub [(0, jR z), (1, jR w), (2, jI (x1 + 1))] ⟨rfl, rfl, rfl, trivial⟩ ?_
              exact ih11 _ _ (by omega) (by rw [f6]; exact f_copy_s M (by omega) (by omega) hzw) (by omega)
      refine gj_sub [(0, jR z), (1, jR w), (2, jI 0)] ⟨rfl, rfl, rfl, trivial⟩ ?_
      exact L11 _ _ _ (by omega) (by exact (f_copy_0 M z n w).symm) (Nat.lt_succ_self _)
    · exfalso; omega

set_option maxHeartbeats 4000000 in
set_option maxRecDepth 20000 in
theorem c_X10_numberOf (a : Int) : gj_C G l 1 0 0 yX10_numberOf cX10_numberOf 1 (some .int) [jI a] S M (gj_qI fun x S' M' => f_num a = x ∧ S = S' ∧ M = M') := by
  refine gj_Cof (by decide +kernel) (Nat.le_of_ble_eq_true rfl) ?_
  change gj_W G l 1 0 0 yX10_numberOf cX10_numberOf 1 (some .int) (gj_qI fun x S' M' => f_num a = x ∧ S = S' ∧ M = M') 0 0 0 [(0, jI a)] [] S M
  refine gj_iload_n (q := 1) (gj_dk okX10_numberOf 0 rfl) rfl rfl ?_
  refine gj_iconst (q := 2) (gj_dk okX10_numberOf 1 rfl) (by decide) rfl ?_
  refine gj_icmp_ge (q := 5) (tgt := 9) (gj_dk okX10_numberOf 2 rfl) (by decide) rfl (fun c2 => ?_) (fun c2 => ?_)
  · -- 9
    refine gj_iload_n (q := 10) (gj_dk okX10_numberOf 5 rfl) rfl rfl ?_
    refine gj_iconst (q := 11) (gj_dk okX10_numberOf 6 rfl) (by decide) rfl ?_
    refine gj_isub (q := 12) (gj_dk okX10_numberOf 7 rfl) rfl ?_
    refine gj_bipush (q := 14) (gj_dk okX10_numberOf 8 rfl) (by decide) rfl rfl ?_
    refine gj_iadd (q := 15) (gj_dk okX10_numberOf 9 rfl) rfl ?_
    exact gj_iret (gj_dk okX10_numberOf 10 rfl) rfl ⟨_, rfl, by unfold f_num; (repeat' split) <;> first | rfl | omega | (exfalso; omega), rfl, rfl⟩
  · -- 5
    refine gj_iload_n (q := 6) (gj_dk okX10_numberOf 3 rfl) rfl rfl ?_
    refine gj_goto (tgt := 15) (gj_dk okX10_numberOf 4 rfl) (by decide) ?_
    exact gj_iret (gj_dk okX10_numberOf 10 rfl) rfl ⟨_, rfl, by unfold f_num; (repeat' split) <;> first | rfl | omega | (exfalso; omega), rfl, rfl⟩

set_option maxHeartbeats 4000000 in
set_option maxRecDepth 20000 in
theorem c_X10_placeOf (a : Int) : gj_C G l 1 0 0 yX10_placeOf cX10_placeOf 1 (some .int) [jI a] S M (gj_qI fun x S' M' => f_plc a = x ∧ S = S' ∧ M = M') := by
  refine gj_Cof (by decide +kernel) (Nat.le_of_ble_eq_true rfl) ?_
  change gj_W G l 1 0 0 yX10_placeOf cX10_placeOf 1 (some .int) (gj_qI fun x S' M' => f_plc a = x ∧ S = S' ∧ M = M') 0 0 0 [(0, jI a)] [] S M
  refine gj_iload_n (q := 1) (gj_dk okX10_placeOf 0 rfl) rfl rfl ?_
  refine gj_iconst (q := 2) (gj_dk okX10_placeOf 1 rfl) (by decide) rfl ?_
  refine gj_icmp_ge (q := 5) (tgt := 9) (gj_dk okX10_placeOf 2 rfl) (by decide) rfl (fun c2 => ?_) (fun c2 => ?_)
  · -- 9
    refine gj_iload_n (q := 10) (gj_dk okX10_placeOf 5 rfl) rfl rfl ?_
    refine gj_iconst (q := 11) (gj_dk okX10_placeOf 6 rfl) (by decide) rfl ?_
    refine gj_isub (q := 12) (gj_dk okX10_placeOf 7 rfl) rfl ?_
    exact gj_iret (gj_dk okX10_placeOf 8 rfl) rfl ⟨_, rfl, by unfold f_plc; (repeat' split) <;> first | rfl | omega | (exfalso; omega), rfl, rfl⟩
  · -- 5
    refine gj_iload_n (q := 6) (gj_dk okX10_placeOf 3 rfl) rfl rfl ?_
    refine gj_goto (tgt := 12) (gj_dk okX10_placeOf 4 rfl) (by decide) ?_
    exact gj_iret (gj_dk okX10_placeOf 8 rfl) rfl ⟨_, rfl, by unfold f_plc; (repeat' split) <;> first | rfl | omega | (exfalso; omega), rfl, rfl⟩

set_option maxHeartbeats 4000000 in
set_option maxRecDepth 20000 in
theorem c_X10_facing (a b : Int) : gj_C G l 1 0 0 yX10_facing cX10_facing 2 (some .int) [jI a, jI b] S M (gj_qI fun x S' M' => f_fac a b = x ∧ S = S' ∧ M = M') := by
  refine gj_Cof (by decide +kernel) (Nat.le_of_ble_eq_true rfl) ?_
  change gj_W G l 1 0 0 yX10_facing cX10_facing 2 (some .int) (gj_qI fun x S' M' => f_fac a b = x ∧ S = S' ∧ M = M') 0 0 0 [(0, jI a), (1, jI b)] [] S M
  refine gj_iload_n (q := 1) (gj_dk okX10_facing 0 rfl) rfl rfl ?_
  refine gj_iconst (q := 2) (gj_dk okX10_facing 1 rfl) (by decide) rfl ?_
  refine gj_icmp_ne (q := 5) (tgt := 7) (gj_dk okX10_facing 2 rfl) (by decide) rfl (fun c2 => ?_) (fun c2 => ?_)
  · -- 7
    refine gj_iload_n (q := 8) (gj_dk okX10_facing 5 rfl) rfl rfl ?_
    refine gj_iconst (q := 9) (gj_dk okX10_facing 6 rfl) (by decide) rfl ?_
    refine gj_icmp_ge (q := 12) (tgt := 18) (gj_dk okX10_facing 7 rfl) (by decide) rfl (fun c9 => ?_) (fun c9 => ?_)
    · -- 18
      refine gj_iload_n (q := 19) (gj_dk okX10_facing 12 rfl) rfl rfl ?_
      exact gj_iret (gj_dk okX10_facing 13 rfl) rfl ⟨_, rfl, by unfold f_fac; (repeat' split) <;> first | rfl | omega | (exfalso; omega), rfl, rfl⟩
    · -- 12
      refine gj_iload_n (q := 13) (gj_dk okX10_facing 8 rfl) rfl rfl ?_
      refine gj_iconst (q := 14) (gj_dk okX10_facing 9 rfl) (by decide) rfl ?_
      refine gj_iadd (q := 15) (gj_dk okX10_facing 10 rfl) rfl ?_
      refine gj_goto (tgt := 19) (gj_dk okX10_facing 11 rfl) (by decide) ?_
      exact gj_iret (gj_dk okX10_facing 13 rfl) rfl ⟨_, rfl, by unfold f_fac; (repeat' split) <;> first | rfl | omega | (exfalso; omega), rfl, rfl⟩
  · -- 5
    refine gj_iconst (q := 6) (gj_dk okX10_facing 3 rfl) (by decide) rfl ?_
    exact gj_iret (gj_dk okX10_facing 4 rfl) rfl ⟨_, rfl, by unfold f_fac; (repeat' split) <;> first | rfl | omega | (exfalso; omega), rfl, rfl⟩

set_option maxHeartbeats 4000000 in
set_option maxRecDepth 20000 in
theorem c_X10_unlike (a b : Int) : gj_C G l 1 0 0 yX10_unlike cX10_unlike 2 (some .boolean) [jI a, jI b] S M (gj_qI fun x S' M' => f_unl a b = x ∧ S = S' ∧ M = M') := by
  refine gj_Cof (by decide +kernel) (Nat.le_of_ble_eq_true rfl) ?_
  change gj_W G l 1 0 0 yX10_unlike cX10_unlike 2 (some .boolean) (gj_qI fun x S' M' => f_unl a b = x ∧ S = S' ∧ M = M') 0 0 0 [(0, jI a), (1, jI b)] [] S M
  refine gj_iload_n (q := 1) (gj_dk okX10_unlike 0 rfl) rfl rfl ?_
  refine gj_iconst (q := 2) (gj_dk okX10_unlike 1 rfl) (by decide) rfl ?_
  refine gj_icmp_eq (q := 5) (tgt := 37) (gj_dk okX10_unlike 2 rfl) (by decide) rfl (fun c2 => ?_) (fun c2 => ?_)
  · -- 37
    refine gj_iconst (q := 38) (gj_dk okX10_unlike 21 rfl) (by decide) rfl ?_
    exact gj_zret (gj_dk okX10_unlike 22 rfl) rfl (by first | decide | omega) ⟨_, rfl, by unfold f_unl; (repeat' split) <;> first | rfl | omega | (exfalso; omega), rfl, rfl⟩
  · -- 5
    refine gj_iload_n (q := 6) (gj_dk okX10_unlike 3 rfl) rfl rfl ?_
    refine gj_iconst (q := 7) (gj_dk okX10_unlike 4 rfl) (by decide) rfl ?_
    refine gj_icmp_eq (q := 10) (tgt := 37) (gj_dk okX10_unlike 5 rfl) (by decide) rfl (fun c7 => ?_) (fun c7 => ?_)
    · -- 37
      refine gj_iconst (q := 38) (gj_dk okX10_unlike 21 rfl) (by decide) rfl ?_
      exact gj_zret (gj_dk okX10_unlike 22 rfl) rfl (by first | decide | omega) ⟨_, rfl, by unfold f_unl; (repeat' split) <;> first | rfl | omega | (exfalso; omega), rfl, rfl⟩
    · -- 10
      refine gj_iload_n (q := 11) (gj_dk okX10_unlike 6 rfl) rfl rfl ?_
      refine gj_iconst (q := 12) (gj_dk okX10_unlike 7 rfl) (by decide) rfl ?_
      refine gj_icmp_ge (q := 15) (tgt := 19) (gj_dk okX10_unlike 8 rfl) (by decide) rfl (fun c12 => ?_) (fun c12 => ?_)
      · -- 19
        refine gj_iconst (q := 20) (gj_dk okX10_unlike 11 rfl) (by decide) rfl ?_
        refine gj_iload_n (q := 21) (gj_dk okX10_unlike 12 rfl) rfl rfl ?_
        refine gj_iconst (q := 22) (gj_dk okX10_unlike 13 rfl) (by decide) rfl ?_
        refine gj_icmp_ge (q := 25) (tgt := 29) (gj_dk okX10_unlike 14 rfl) (by decide) rfl (fun c22 => ?_) (fun c22 => ?_)
        · -- 29
          refine gj_iconst (q := 30) (gj_dk okX10_unlike 17 rfl) (by decide) rfl ?_
          refine gj_icmp_eq (q := 33) (tgt := 37) (gj_dk okX10_unlike 18 rfl) (by decide) rfl (fun c30 => ?_) (fun c30 => ?_)
          · -- 37
            refine gj_iconst (q := 38) (gj_dk okX10_unlike 21 rfl) (by decide) rfl ?_
            exact gj_zret (gj_dk okX10_unlike 22 rfl) rfl (by first | decide | omega) ⟨_, rfl, by unfold f_unl; (repeat' split) <;> first | rfl | omega | (exfalso; omega), rfl, rfl⟩
          · -- 33
            refine gj_iconst (q := 34) (gj_dk okX10_unlike 19 rfl) (by decide) rfl ?_
            refine gj_goto (tgt := 38) (gj_dk okX10_unlike 20 rfl) (by decide) ?_
            exact gj_zret (gj_dk okX10_unlike 22 rfl) rfl (by first | decide | omega) ⟨_, rfl, by unfold f_unl; (repeat' split) <;> first | rfl | omega | (exfalso; omega), rfl, rfl⟩
        · -- 25
          refine gj_iconst (q := 26) (gj_dk okX10_unlike 15 rfl) (by decide) rfl ?_
          refine gj_goto (tgt := 30) (gj_dk okX10_unlike 16 rfl) (by decide) ?_
          refine gj_icmp_eq (q := 33) (tgt := 37) (gj_dk okX10_unlike 18 rfl) (by decide) rfl (fun c30 => ?_) (fun c30 => ?_)
          · -- 37
            refine gj_iconst (q := 38) (gj_dk okX10_unlike 21 rfl) (by decide) rfl ?_
            exact gj_zret (gj_dk okX10_unlike 22 rfl) rfl (by first | decide | omega) ⟨_, rfl, by unfold f_unl; (repeat' split) <;> first | rfl | omega | (exfalso; omega), rfl, rfl⟩
          · -- 33
            refine gj_iconst (q := 34) (gj_dk okX10_unlike 19 rfl) (by decide) rfl ?_
            refine gj_goto (tgt := 38) (gj_dk okX10_unlike 20 rfl) (by decide) ?_
            exact gj_zret (gj_dk okX10_unlike 22 rfl) rfl (by first | decide | omega) ⟨_, rfl, by unfold f_unl; (repeat' split) <;> first | rfl | omega | (exfalso; omega), rfl, rfl⟩
      · -- 15
        refine gj_iconst (q := 16) (gj_dk okX10_unlike 9 rfl) (by decide) rfl ?_
        refine gj_goto (tgt := 20) (gj_dk okX10_unlike 10 rfl) (by decide) ?_
        refine gj_iload_n (q := 21) (gj_dk okX10_unlike 12 rfl) rfl rfl ?_
        refine gj_iconst (q := 22) (gj_dk okX10_unlike 13 rfl) (by decide) rfl ?_
        refine gj_icmp_ge (q := 25) (tgt := 29) (gj_dk okX10_unlike 14 rfl) (by decide) rfl (fun c22 => ?_) (fun c22 => ?_)
        · -- 29
          refine gj_iconst (q := 30) (gj_dk okX10_unlike 17 rfl) (by decide) rfl ?_
          refine gj_icmp_eq (q := 33) (tgt := 37) (gj_dk okX10_unlike 18 rfl) (by decide) rfl (fun c30 => ?_) (fun c30 => ?_)
          · -- 37
            refine gj_iconst (q := 38) (gj_dk okX10_unlike 21 rfl) (by decide) rfl ?_
            exact gj_zret (gj_dk okX10_unlike 22 rfl) rfl (by first | decide | omega) ⟨_, rfl, by unfold f_unl; (repeat' split) <;> first | rfl | omega | (exfalso; omega), rfl, rfl⟩
          · -- 33
            refine gj_iconst (q := 34) (gj_dk okX10_unlike 19 rfl) (by decide) rfl ?_
            refine gj_goto (tgt := 38) (gj_dk okX10_unlike 20 rfl) (by decide) ?_
            exact gj_zret (gj_dk okX10_unlike 22 rfl) rfl (by first | decide | omega) ⟨_, rfl, by unfold f_unl; (repeat' split) <;> first | rfl | omega | (exfalso; omega), rfl, rfl⟩
        · -- 25
          refine gj_iconst (q := 26) (gj_dk okX10_unlike 15 rfl) (by decide) rfl ?_
          refine gj_goto (tgt := 30) (gj_dk okX10_unlike 16 rfl) (by decide) ?_
          refine gj_icmp_eq (q := 33) (tgt := 37) (gj_dk okX10_unlike 18 rfl) (by decide) rfl (fun c30 => ?_) (fun c30 => ?_)
          · -- 37
            refine gj_iconst (q := 38) (gj_dk okX10_unlike 21 rfl) (by decide) rfl ?_
            exact gj_zret (gj_dk okX10_unlike 22 rfl) rfl (by first | decide | omega) ⟨_, rfl, by unfold f_unl; (repeat' split) <;> first | rfl | omega | (exfalso; omega), rfl, rfl⟩
          · -- 33
            refine gj_iconst (q := 34) (gj_dk okX10_unlike 19 rfl) (by decide) rfl ?_
            refine gj_goto (tgt := 38) (gj_dk okX10_unlike 20 rfl) (by decide) ?_
            exact gj_zret (gj_dk okX10_unlike 22 rfl) rfl (by first | decide | omega) ⟨_, rfl, by unfold f_unl; (repeat' split) <;> first | rfl | omega | (exfalso; omega), rfl, rfl⟩

set_option maxHeartbeats 4000000 in
set_option maxRecDepth 20000 in
theorem c_X10_couple (a b : Int) : gj_C G l 1 0 0 yX10_couple cX10_couple 2 (some .int) [jI a, jI b] S M (gj_qI fun x S' M' => f_cpl a b = x ∧ S = S' ∧ M = M') := by
  refine gj_Cof (by decide +kernel) (Nat.le_of_ble_eq_true rfl) ?_
  change gj_W G l 1 0 0 yX10_couple cX10_couple 2 (some .int) (gj_qI fun x S' M' => f_cpl a b = x ∧ S = S' ∧ M = M') 0 0 0 [(0, jI a), (1, jI b)] [] S M
  refine gj_iload_n (q := 1) (gj_dk okX10_couple 0 rfl) rfl rfl ?_
  refine gj_iload_n (q := 2) (gj_dk okX10_couple 1 rfl) rfl rfl ?_
  refine gj_icmp_ge (q := 5) (tgt := 15) (gj_dk okX10_couple 2 rfl) (by decide) rfl (fun c2 => ?_) (fun c2 => ?_)
  · -- 15
    refine gj_iload_n (q := 16) (gj_dk okX10_couple 11 rfl) rfl rfl ?_
    refine gj_iconst (q := 17) (gj_dk okX10_couple 12 rfl) (by decide) rfl ?_
    refine gj_imul (q := 18) (gj_dk okX10_couple 13 rfl) rfl ?_
    refine gj_iload_n (q := 19) (gj_dk okX10_couple 14 rfl) rfl rfl ?_
    refine gj_iadd (q := 20) (gj_dk okX10_couple 15 rfl) rfl ?_
    refine gj_iconst (q := 21) (gj_dk okX10_couple 16 rfl) (by decide) rfl ?_
    refine gj_isub (q := 22) (gj_dk okX10_couple 17 rfl) rfl ?_
    exact gj_iret (gj_dk okX10_couple 18 rfl) rfl ⟨_, rfl, by unfold f_cpl; (repeat' split) <;> first | rfl | omega | (exfalso; omega), rfl, rfl⟩
  · -- 5
    refine gj_iload_n (q := 6) (gj_dk okX10_couple 3 rfl) rfl rfl ?_
    refine gj_iconst (q := 7) (gj_dk okX10_couple 4 rfl) (by decide) rfl ?_
    refine gj_imul (q := 8) (gj_dk okX10_couple 5 rfl) rfl ?_
    refine gj_iload_n (q := 9) (gj_dk okX10_couple 6 rfl) rfl rfl ?_
    refine gj_iadd (q := 10) (gj_dk okX10_couple 7 rfl) rfl ?_
    refine gj_iconst (q := 11) (gj_dk okX10_couple 8 rfl) (by decide) rfl ?_
    refine gj_isub (q := 12) (gj_dk okX10_couple 9 rfl) rfl ?_
    refine gj_goto (tgt := 22) (gj_dk okX10_couple 10 rfl) (by decide) ?_
    exact gj_iret (gj_dk okX10_couple 18 rfl) rfl ⟨_, rfl, by unfold f_cpl; (repeat' split) <;> first | rfl | omega | (exfalso; omega), rfl, rfl⟩

set_option maxHeartbeats 4000000 in
set_option maxRecDepth 20000 in
theorem c_X10_view (a b : Int) : gj_C G l 1 0 0 yX10_view cX10_view 2 (some .int) [jI a, jI b] S M (gj_qI fun x S' M' => f_vw a b = x ∧ S = S' ∧ M = M') := by
  refine gj_Cof (by decide +kernel) (Nat.le_of_ble_eq_true rfl) ?_
  change gj_W G l 1 0 0 yX10_view cX10_view 2 (some .int) (gj_qI fun x S' M' => f_vw a b = x ∧ S = S' ∧ M = M') 0 0 0 [(0, jI a), (1, jI b)] [] S M
  refine gj_iload_n (q := 1) (gj_dk okX10_view 0 rfl) rfl rfl ?_
  refine gj_iconst (q := 2) (gj_dk okX10_view 1 rfl) (by decide) rfl ?_
  refine gj_imul (q := 3) (gj_dk okX10_view 2 rfl) rfl ?_
  refine gj_iload_n (q := 4) (gj_dk okX10_view 3 rfl) rfl rfl ?_
  refine gj_iconst (q := 5) (gj_dk okX10_view 4 rfl) (by decide) rfl ?_
  refine gj_irem (q := 6) (gj_dk okX10_view 5 rfl) (by decide) rfl ?_
  refine gj_iadd (q := 7) (gj_dk okX10_view 6 rfl) rfl ?_
  exact gj_iret (gj_dk okX10_view 7 rfl) rfl ⟨_, rfl, rfl, rfl, rfl⟩

end GJC
