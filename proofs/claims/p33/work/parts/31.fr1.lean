section GJFR
variable {G : gj_G} {l : Launch} {S : gj_S} {M : gj_M}
def f_X12_in (a1 : Int) (a2 : Int) (a3 : Int) (M : gj_M) : Int :=
  (if a1 < a2 then (0) else (if a3 < a1 then (0) else (1)))
set_option maxHeartbeats 4000000 in
set_option maxRecDepth 20000 in
theorem t_X12_in (hst : gj_Stat S) (a1 a2 a3 : Int) {r : Int} (hF : f_X12_in a1 a2 a3 M = r) : gj_C G l 1 0 0 yX12_in cX12_in 6 (some .boolean) [jL a1, jL a2, jL a3] S M (gj_qI fun x S' M' => (x = 0 ∨ x = 1) ∧ r = x ∧ S = S' ∧ M = M') := by
  refine gj_Cof (by decide +kernel) (Nat.le_of_ble_eq_true rfl) ?_
  change gj_W G l 1 0 0 yX12_in cX12_in 6 (some .boolean) (gj_qI fun x S' M' => (x = 0 ∨ x = 1) ∧ r = x ∧ S = S' ∧ M = M') 0 0 0 [(0, jL a1), (2, jL a2), (4, jL a3)] [] S M
  unfold f_X12_in at hF
  refine gj_lload_n (q := 1) (gj_dk okX12_in 0 rfl) rfl rfl ?_
  refine gj_lload_n (q := 2) (gj_dk okX12_in 1 rfl) rfl rfl ?_
  refine gj_lcmp (q := 3) (gj_dk okX12_in 2 rfl) rfl ?_
  refine gj_if_lt (q := 6) (tgt := 17) (gj_dk okX12_in 3 rfl) (by decide) rfl (fun c3 => ?_) (fun c3 => ?_)
  · -- 17
    replace c3 := gj_cm_lt.mp c3
    replace hF := gj_ift c3 hF
    refine gj_iconst (q := 18) (gj_dk okX12_in 10 rfl) (by decide) rfl ?_
    subst hF
    exact gj_zret (gj_dk okX12_in 11 rfl) rfl (by decide) ⟨_, rfl, (by decide), rfl, rfl, rfl⟩
  · -- 6
    replace c3 := gj_cm_ltn.mp c3
    replace hF := gj_iff c3 hF
    refine gj_lload_n (q := 7) (gj_dk okX12_in 4 rfl) rfl rfl ?_
    refine gj_lload (q := 9) (gj_dk okX12_in 5 rfl) rfl rfl ?_
    refine gj_lcmp (q := 10) (gj_dk okX12_in 6 rfl) rfl ?_
    refine gj_if_gt (q := 13) (tgt := 17) (gj_dk okX12_in 7 rfl) (by decide) rfl (fun c10 => ?_) (fun c10 => ?_)
    · -- 17
      replace c10 := gj_cm_gt.mp c10
      replace hF := gj_ift c10 hF
      refine gj_iconst (q := 18) (gj_dk okX12_in 10 rfl) (by decide) rfl ?_
      subst hF
      exact gj_zret (gj_dk okX12_in 11 rfl) rfl (by decide) ⟨_, rfl, (by decide), rfl, rfl, rfl⟩
    · -- 13
      replace c10 := gj_cm_gtn.mp c10
      replace hF := gj_iff c10 hF
      refine gj_iconst (q := 14) (gj_dk okX12_in 8 rfl) (by decide) rfl ?_
      refine gj_goto (tgt := 18) (gj_dk okX12_in 9 rfl) (by decide) ?_
      subst hF
      exact gj_zret (gj_dk okX12_in 11 rfl) rfl (by decide) ⟨_, rfl, (by decide), rfl, rfl, rfl⟩
def F_X12_refuse (a1 : Int) (M : gj_M) : Option (Int × gj_M) :=
  gj_chk (0 ≤ a1 ∧ a1 < 3) (gj_chk (0 ≤ a1 ∧ a1 < 3) (gj_let (gj_up M 80 a1 (gj_w ((M 80 a1) + 1))) (fun M3 => (some ((-1, M3))))))
set_option maxHeartbeats 4000000 in
set_option maxRecDepth 20000 in
theorem t_X12_refuse (hst : gj_Stat S) (a1 : Int) {r : Int × gj_M} (hF : F_X12_refuse a1 M = some r) : gj_C G l 1 0 0 yX12_refuse cX12_refuse 2 (some .int) [jR 79, jI a1] S M (gj_qI fun x S' M' => r.1 = x ∧ S = S' ∧ r.2 = M') := by
  refine gj_Cof (by decide +kernel) (Nat.le_of_ble_eq_true rfl) ?_
  change gj_W G l 1 0 0 yX12_refuse cX12_refuse 2 (some .int) (gj_qI fun x S' M' => r.1 = x ∧ S = S' ∧ r.2 = M') 0 0 0 [(0, jR 79), (1, jI a1)] [] S M
  unfold F_X12_refuse at hF
  refine gj_aload_n (q := 1) (gj_dk okX12_refuse 0 rfl) rfl rfl ?_
  refine gj_gR (q := 4) (j := 0) (gj_dk okX12_refuse 1 rfl) ff_X12_7 (sh79 hst) (by decide) rfl (rf79_0 hst) rfl ?_
  refine gj_iload_n (q := 5) (gj_dk okX12_refuse 2 rfl) rfl rfl ?_
  refine gj_dup2 (q := 6) (gj_dk okX12_refuse 3 rfl) rfl rfl rfl ?_
  obtain ⟨b1, hF⟩ := gj_ckd hF
  refine gj_iald (q := 7) (gj_dk okX12_refuse 4 rfl) (sh80 hst) b1.1 b1.2 rfl ?_
  refine gj_iconst (q := 8) (gj_dk okX12_refuse 5 rfl) (by decide) rfl ?_
  refine gj_iadd (q := 9) (gj_dk okX12_refuse 6 rfl) rfl ?_
  obtain ⟨b2, hF⟩ := gj_ckd hF
  refine gj_iast (q := 10) (gj_dk okX12_refuse 7 rfl) (sh80 hst) b2.1 b2.2 rfl ?_
  refine gj_stp hF (fun M3 hF => ?_)
  refine gj_iconst (q := 11) (gj_dk okX12_refuse 8 rfl) (by decide) rfl ?_
  cases hF
  exact gj_iret (gj_dk okX12_refuse 9 rfl) rfl ⟨_, rfl, rfl, rfl, rfl⟩
def F_X12_deny (a1 : Int) (M : gj_M) : Option (Int × gj_M) :=
  gj_chk (0 ≤ a1 ∧ a1 < 3) (gj_chk (0 ≤ a1 ∧ a1 < 3) (gj_let (gj_up M 80 a1 (gj_w ((M 80 a1) + 1))) (fun M3 => (some ((0, M3))))))
set_option maxHeartbeats 4000000 in
set_option maxRecDepth 20000 in
theorem t_X12_deny (hst : gj_Stat S) (a1 : Int) {r : Int × gj_M} (hF : F_X12_deny a1 M = some r) : gj_C G l 1 0 0 yX12_deny cX12_deny 2 (some .boolean) [jR 79, jI a1] S M (gj_qI fun x S' M' => (x = 0 ∨ x = 1) ∧ r.1 = x ∧ S = S' ∧ r.2 = M') := by
  refine gj_Cof (by decide +kernel) (Nat.le_of_ble_eq_true rfl) ?_
  change gj_W G l 1 0 0 yX12_deny cX12_deny 2 (some .boolean) (gj_qI fun x S' M' => (x = 0 ∨ x = 1) ∧ r.1 = x ∧ S = S' ∧ r.2 = M') 0 0 0 [(0, jR 79), (1, jI a1)] [] S M
  unfold F_X12_deny at hF
  refine gj_aload_n (q := 1) (gj_dk okX12_deny 0 rfl) rfl rfl ?_
  refine gj_gR (q := 4) (j := 0) (gj_dk okX12_deny 1 rfl) ff_X12_7 (sh79 hst) (by decide) rfl (rf79_0 hst) rfl ?_
  refine gj_iload_n (q := 5) (gj_dk okX12_deny 2 rfl) rfl rfl ?_
  refine gj_dup2 (q := 6) (gj_dk okX12_deny 3 rfl) rfl rfl rfl ?_
  obtain ⟨b1, hF⟩ := gj_ckd hF
  refine gj_iald (q := 7) (gj_dk okX12_deny 4 rfl) (sh80 hst) b1.1 b1.2 rfl ?_
  refine gj_iconst (q := 8) (gj_dk okX12_deny 5 rfl) (by decide) rfl ?_
  refine gj_iadd (q := 9) (gj_dk okX12_deny 6 rfl) rfl ?_
  obtain ⟨b2, hF⟩ := gj_ckd hF
  refine gj_iast (q := 10) (gj_dk okX12_deny 7 rfl) (sh80 hst) b2.1 b2.2 rfl ?_
  refine gj_stp hF (fun M3 hF => ?_)
  refine gj_iconst (q := 11) (gj_dk okX12_deny 8 rfl) (by decide) rfl ?_
  cases hF
  exact gj_zret (gj_dk okX12_deny 9 rfl) rfl (by decide) ⟨_, rfl, (by decide), rfl, rfl, rfl⟩
def F_X12_status (a1 : Int) (M : gj_M) : Option (Int) :=
  gj_letI (f_X12_in a1 0 2 M) (fun x1 => (if x1 = 0 then (some (-1)) else gj_chk (0 ≤ a1 ∧ a1 < 3) ((some (M 80 a1)))))
set_option maxHeartbeats 4000000 in
set_option maxRecDepth 20000 in
theorem t_X12_status (hst : gj_Stat S) (a1 : Int) {r : Int} (hF : F_X12_status a1 M = some r) : gj_C G l 2 0 0 yX12_status cX12_status 2 (some .int) [jR 79, jI a1] S M (gj_qI fun x S' M' => r = x ∧ S = S' ∧ M = M') := by
  refine gj_Cof (by decide +kernel) (Nat.le_of_ble_eq_true rfl) ?_
  change gj_W G l 2 0 0 yX12_status cX12_status 2 (some .int) (gj_qI fun x S' M' => r = x ∧ S = S' ∧ M = M') 0 0 0 [(0, jR 79), (1, jI a1)] [] S M
  unfold F_X12_status at hF
  refine gj_iload_n (q := 1) (gj_dk okX12_status 0 rfl) rfl rfl ?_
  refine gj_i2l (q := 2) (gj_dk okX12_status 1 rfl) rfl ?_
  refine gj_lconst (q := 3) (z := 0) (gj_dk okX12_status 2 rfl) rfl (by decide) rfl ?_
  refine gj_ldc2 (q := 6) (z := 2) (gj_dk okX12_status 3 rfl) kl_X12_156 (by decide) rfl ?_
  refine gj_callS (q := 9) [jL a1, jL 0, jL 2] rfl (t_X12_in hst a1 0 2 rfl) (gj_dk okX12_status 4 rfl) ml_X12_158 me_X12_in (gj_nm rfl) rfl (gj_kI fun x S2 M2 h => ?_)
  obtain ⟨bz, e, eS, eM⟩ := h; subst eS; subst eM; subst e
  refine gj_stpZ bz hF (fun x1 bx1 hF => ?_)
  refine gj_if_eq (q := 12) (tgt := 21) (gj_dk okX12_status 5 rfl) (by decide) rfl (fun c9 => ?_) (fun c9 => ?_)
  · -- 21
    replace hF := gj_ift c9 hF
    refine gj_iconst (q := 22) (gj_dk okX12_status 11 rfl) (by decide) rfl ?_
    cases hF
    exact gj_iret (gj_dk okX12_status 12 rfl) rfl ⟨_, rfl, rfl, rfl, rfl⟩
  · -- 12
    replace hF := gj_iff c9 hF
    refine gj_aload_n (q := 13) (gj_dk okX12_status 6 rfl) rfl rfl ?_
    refine gj_gR (q := 16) (j := 0) (gj_dk okX12_status 7 rfl) ff_X12_7 (sh79 hst) (by decide) rfl (rf79_0 hst) rfl ?_
    refine gj_iload_n (q := 17) (gj_dk okX12_status 8 rfl) rfl rfl ?_
    obtain ⟨b2, hF⟩ := gj_ckd hF
    refine gj_iald (q := 18) (gj_dk okX12_status 9 rfl) (sh80 hst) b2.1 b2.2 rfl ?_
    refine gj_goto (tgt := 22) (gj_dk okX12_status 10 rfl) (by decide) ?_
    cases hF
    exact gj_iret (gj_dk okX12_status 12 rfl) rfl ⟨_, rfl, rfl, rfl, rfl⟩
def B_X12_feeds_2 (rec2 : Int → Int → gj_M → Option (gj_M)) (l1 l2 : Int) (M : gj_M) : Option (gj_M) :=
  (if l2 < 0 then (some (M)) else gj_chk (0 ≤ M 79 2 ∧ M 79 2 < 500) (gj_let (gj_up M 81 (M 79 2) (gj_b8 (gj_ushr l1 (gj_w (8 * l2))))) (fun M2 => gj_let (gj_up M2 79 2 (gj_w ((M2 79 2) + 1))) (fun M3 => rec2 l1 (gj_w (l2 + (-1))) M3))))
def F_X12_feeds (a1 : Int) (M : gj_M) : Option (gj_M) :=
  (gj_it (fun _ _ _ => none) (B_X12_feeds_2) gj_fu a1 3 M)
set_option maxHeartbeats 4000000 in
set_option maxRecDepth 20000 in
theorem t_B_X12_feeds_2 (hst : gj_Stat S) {r : gj_M} {rec2 : Int → Int → gj_M → Option (gj_M)} (hrec2 : ∀ (l1 l2 : Int) (M : gj_M), rec2 l1 l2 M = some r → gj_W G l 1 0 0 yX12_feeds cX12_feeds 3 none (gj_qV fun S' M' => S = S' ∧ r = M') 0 0 2 [(0, jR 79), (1, jI l1), (2, jI l2)] [] S M) (l1 l2 : Int) (M : gj_M) (hF : B_X12_feeds_2 rec2 l1 l2 M = some r) : gj_W G l 1 0 0 yX12_feeds cX12_feeds 3 none (gj_qV fun S' M' => S = S' ∧ r = M') 0 0 2 [(0, jR 79), (1, jI l1), (2, jI l2)] [] S M := by
  unfold B_X12_feeds_2 at hF
  refine gj_iload_n (q := 3) (gj_dk okX12_feeds 2 rfl) rfl rfl ?_
  refine gj_if_lt (q := 6) (tgt := 38) (gj_dk okX12_feeds 3 rfl) (by decide) rfl (fun c3 => ?_) (fun c3 => ?_)
  · -- 38
    replace hF := gj_ift c3 hF
    cases hF
    exact gj_vret (gj_dk okX12_feeds 23 rfl) rfl ⟨rfl, rfl, rfl⟩
  · -- 6
    replace hF := gj_iff c3 hF
    refine gj_aload_n (q := 7) (gj_dk okX12_feeds 4 rfl) rfl rfl ?_
    refine gj_gR (q := 10) (j := 1) (gj_dk okX12_feeds 5 rfl) ff_X12_13 (sh79 hst) (by decide) rfl (rf79_1 hst) rfl ?_
    refine gj_aload_n (q := 11) (gj_dk okX12_feeds 6 rfl) rfl rfl ?_
    refine gj_gI (q := 14) (j := 2) (gj_dk okX12_feeds 7 rfl) ff_X12_162 (sh79 hst) (by decide) rfl rfl ?_
    refine gj_iload_n (q := 15) (gj_dk okX12_feeds 8 rfl) rfl rfl ?_
    refine gj_bipush (q := 17) (gj_dk okX12_feeds 9 rfl) (by decide) rfl rfl ?_
    refine gj_iload_n (q := 18) (gj_dk okX12_feeds 10 rfl) rfl rfl ?_
    refine gj_imul (q := 19) (gj_dk okX12_feeds 11 rfl) rfl ?_
    refine gj_iushr (q := 20) (gj_dk okX12_feeds 12 rfl) rfl ?_
    refine gj_i2b (q := 21) (gj_dk okX12_feeds 13 rfl) rfl ?_
    obtain ⟨b1, hF⟩ := gj_ckd hF
    refine gj_bast (q := 22) (gj_dk okX12_feeds 14 rfl) (sh81 hst) b1.1 b1.2 (gj_b8_ok _) rfl ?_
    refine gj_stp hF (fun M2 hF => ?_)
    refine gj_aload_n (q := 23) (gj_dk okX12_feeds 15 rfl) rfl rfl ?_
    refine gj_dup (q := 24) (gj_dk okX12_feeds 16 rfl) rfl rfl ?_
    refine gj_gI (q := 27) (j := 2) (gj_dk okX12_feeds 17 rfl) ff_X12_162 (sh79 hst) (by decide) rfl rfl ?_
    refine gj_iconst (q := 28) (gj_dk okX12_feeds 18 rfl) (by decide) rfl ?_
    refine gj_iadd (q := 29) (gj_dk okX12_feeds 19 rfl) rfl ?_
    refine gj_pfI (q := 32) (j := 2) (gj_dk okX12_feeds 20 rfl) ff_X12_162 (sh79 hst) (by decide) rfl rfl ?_
    refine gj_stp hF (fun M3 hF => ?_)
    refine gj_iinc (q := 35) (v := gj_w (l2 + (-1))) (gj_dk okX12_feeds 21 rfl) rfl (by decide) rfl rfl ?_
    refine gj_goto (tgt := 2) (gj_dk okX12_feeds 22 rfl) (by decide) ?_
    refine gj_sub [(0, jR 79), (1, jI l1), (2, jI (gj_w (l2 + (-1))))] ⟨rfl, rfl, rfl, trivial⟩ ?_
    exact hrec2 l1 (gj_w (l2 + (-1))) M3 hF
theorem t_L_X12_feeds_2 (hst : gj_Stat S) {r : gj_M} : ∀ (m : Nat) (l1 : Int) (l2 : Int) (M : gj_M), gj_it (fun _ _ _ => none) (B_X12_feeds_2) m l1 l2 M = some r → gj_W G l 1 0 0 yX12_feeds cX12_feeds 3 none (gj_qV fun S' M' => S = S' ∧ r = M') 0 0 2 [(0, jR 79), (1, jI l1), (2, jI l2)] [] S M := by
  intro m
  induction m with
  | zero => intro l1 l2 M hF; cases (show (none : Option (gj_M)) = some r from hF)
  | succ m ih => intro l1 l2 M hF; exact t_B_X12_feeds_2 hst (fun l1 l2 M h => ih l1 l2 M h) l1 l2 M hF
set_option maxHeartbeats 4000000 in
set_option maxRecDepth 20000 in
theorem t_X12_feeds (hst : gj_Stat S) (a1 : Int) {r : gj_M} (hF : F_X12_feeds a1 M = some r) : gj_C G l 1 0 0 yX12_feeds cX12_feeds 3 none [jR 79, jI a1] S M (gj_qV fun S' M' => S = S' ∧ r = M') := by
  refine gj_Cof (by decide +kernel) (Nat.le_of_ble_eq_true rfl) ?_
  change gj_W G l 1 0 0 yX12_feeds cX12_feeds 3 none (gj_qV fun S' M' => S = S' ∧ r = M') 0 0 0 [(0, jR 79), (1, jI a1)] [] S M
  unfold F_X12_feeds at hF
  refine gj_iconst (q := 1) (gj_dk okX12_feeds 0 rfl) (by decide) rfl ?_
  refine gj_istore_n (q := 2) (gj_dk okX12_feeds 1 rfl) (by decide) rfl ?_
  refine gj_sub [(0, jR 79), (1, jI a1), (2, jI 3)] ⟨rfl, rfl, rfl, trivial⟩ ?_
  exact t_L_X12_feeds_2 hst gj_fu a1 3 M hF
def F_X12_feed (a1 : Int) (a2 : Int) (a3 : Int) (a4 : Int) (a5 : Int) (M : gj_M) : Option (Int × gj_M) :=
  (if gj_w ((M 79 2) + 20) ≤ 500 then gj_bnd (F_X12_feeds a1 M) (fun M2 => gj_bnd (F_X12_feeds a2 M2) (fun M4 => gj_bnd (F_X12_feeds a3 M4) (fun M6 => gj_bnd (F_X12_feeds a4 M6) (fun M8 => gj_bnd (F_X12_feeds a5 M8) (fun M10 => (some ((M10 79 2, M10)))))))) else gj_bnd2 (F_X12_refuse 1 M) (fun x11 M12 => (some ((x11, M12)))))
set_option maxHeartbeats 4000000 in
set_option maxRecDepth 20000 in
theorem t_X12_feed (hst : gj_Stat S) (a1 a2 a3 a4 a5 : Int) {r : Int × gj_M} (hF : F_X12_feed a1 a2 a3 a4 a5 M = some r) : gj_C G l 2 0 0 yX12_feed cX12_feed 6 (some .int) [jR 79, jI a1, jI a2, jI a3, jI a4, jI a5] S M (gj_qI fun x S' M' => r.1 = x ∧ S = S' ∧ r.2 = M') := by
  refine gj_Cof (by decide +kernel) (Nat.le_of_ble_eq_true rfl) ?_
  change gj_W G l 2 0 0 yX12_feed cX12_feed 6 (some .int) (gj_qI fun x S' M' => r.1 = x ∧ S = S' ∧ r.2 = M') 0 0 0 [(0, jR 79), (1, jI a1), (2, jI a2), (3, jI a3), (4, jI a4), (5, jI a5)] [] S M
  unfold F_X12_feed at hF
  refine gj_aload_n (q := 1) (gj_dk okX12_feed 0 rfl) rfl rfl ?_
  refine gj_gI (q := 4) (j := 2) (gj_dk okX12_feed 1 rfl) ff_X12_162 (sh79 hst) (by decide) rfl rfl ?_
  refine gj_bipush (q := 6) (gj_dk okX12_feed 2 rfl) (by decide) rfl rfl ?_
  refine gj_iadd (q := 7) (gj_dk okX12_feed 3 rfl) rfl ?_
  refine gj_sipush (q := 10) (gj_dk okX12_feed 4 rfl) (by decide) rfl rfl ?_
  refine gj_icmp_le (q := 13) (tgt := 19) (gj_dk okX12_feed 5 rfl) (by decide) rfl (fun c10 => ?_) (fun c10 => ?_)
  · -- 19
    replace hF := gj_ift c10 hF
    refine gj_aload_n (q := 20) (gj_dk okX12_feed 10 rfl) rfl rfl ?_
    refine gj_iload_n (q := 21) (gj_dk okX12_feed 11 rfl) rfl rfl ?_
    obtain ⟨M2, hG, hF⟩ := gj_bndd hF
    refine gj_callV (q := 24) (z := 79) (ci := 10) [jI a1] rfl (t_X12_feeds hst a1 hG) (gj_dk okX12_feed 12 rfl) ml_X12_169 me_X12_feeds (sh79 hst) rfl (gj_nm rfl) rfl (gj_kV fun S2 M2 h => ?_)
    obtain ⟨eS, eM⟩ := h; subst eS; subst eM; clear hG
    refine gj_aload_n (q := 25) (gj_dk okX12_feed 13 rfl) rfl rfl ?_
    refine gj_iload_n (q := 26) (gj_dk okX12_feed 14 rfl) rfl rfl ?_
    obtain ⟨M4, hG, hF⟩ := gj_bndd hF
    refine gj_callV (q := 29) (z := 79) (ci := 10) [jI a2] rfl (t_X12_feeds hst a2 hG) (gj_dk okX12_feed 15 rfl) ml_X12_169 me_X12_feeds (sh79 hst) rfl (gj_nm rfl) rfl (gj_kV fun S2 M2 h => ?_)
    obtain ⟨eS, eM⟩ := h; subst eS; subst eM; clear hG
    refine gj_aload_n (q := 30) (gj_dk okX12_feed 16 rfl) rfl rfl ?_
    refine gj_iload_n (q := 31) (gj_dk okX12_feed 17 rfl) rfl rfl ?_
    obtain ⟨M6, hG, hF⟩ := gj_bndd hF
    refine gj_callV (q := 34) (z := 79) (ci := 10) [jI a3] rfl (t_X12_feeds hst a3 hG) (gj_dk okX12_feed 18 rfl) ml_X12_169 me_X12_feeds (sh79 hst) rfl (gj_nm rfl) rfl (gj_kV fun S2 M2 h => ?_)
    obtain ⟨eS, eM⟩ := h; subst eS; subst eM; clear hG
    refine gj_aload_n (q := 35) (gj_dk okX12_feed 19 rfl) rfl rfl ?_
    refine gj_iload (q := 37) (gj_dk okX12_feed 20 rfl) rfl rfl ?_
    obtain ⟨M8, hG, hF⟩ := gj_bndd hF
    refine gj_callV (q := 40) (z := 79) (ci := 10) [jI a4] rfl (t_X12_feeds hst a4 hG) (gj_dk okX12_feed 21 rfl) ml_X12_169 me_X12_feeds (sh79 hst) rfl (gj_nm rfl) rfl (gj_kV fun S2 M2 h => ?_)
    obtain ⟨eS, eM⟩ := h; subst eS; subst eM; clear hG
    refine gj_aload_n (q := 41) (gj_dk okX12_feed 22 rfl) rfl rfl ?_
    refine gj_iload (q := 43) (gj_dk okX12_feed 23 rfl) rfl rfl ?_
    obtain ⟨M10, hG, hF⟩ := gj_bndd hF
    refine gj_callV (q := 46) (z := 79) (ci := 10) [jI a5] rfl (t_X12_feeds hst a5 hG) (gj_dk okX12_feed 24 rfl) ml_X12_169 me_X12_feeds (sh79 hst) rfl (gj_nm rfl) rfl (gj_kV fun S2 M2 h => ?_)
    obtain ⟨eS, eM⟩ := h; subst eS; subst eM; clear hG
    refine gj_aload_n (q := 47) (gj_dk okX12_feed 25 rfl) rfl rfl ?_
    refine gj_gI (q := 50) (j := 2) (gj_dk okX12_feed 26 rfl) ff_X12_162 (sh79 hst) (by decide) rfl rfl ?_
    cases hF
    exact gj_iret (gj_dk okX12_feed 27 rfl) rfl ⟨_, rfl, rfl, rfl, rfl⟩
  · -- 13
    replace hF := gj_iff c10 hF
    refine gj_aload_n (q := 14) (gj_dk okX12_feed 6 rfl) rfl rfl ?_
    refine gj_iconst (q := 15) (gj_dk okX12_feed 7 rfl) (by decide) rfl ?_
    obtain ⟨x11, M12, hG, hF⟩ := gj_bnd2d hF
    refine gj_callV (q := 18) (z := 79) (ci := 10) [jI 1] rfl (t_X12_refuse hst 1 hG) (gj_dk okX12_feed 8 rfl) ml_X12_165 me_X12_refuse (sh79 hst) rfl (gj_nm rfl) rfl (gj_kI fun y S2 M2 h => ?_)
    obtain ⟨e, eS, eM⟩ := h; subst eS; subst eM; subst e; clear hG
    dsimp only
    cases hF
    exact gj_iret (gj_dk okX12_feed 9 rfl) rfl ⟨_, rfl, rfl, rfl, rfl⟩
def F_X12_end (a1 : Int) (M : gj_M) : Option (Int × gj_M) :=
  gj_letI (f_X12_in a1 0 (M 79 2) M) (fun x1 => (if x1 = 0 then gj_bnd2 (F_X12_deny 2 M) (fun x3 M4 => (some ((x3, M4)))) else gj_let (gj_up M 79 2 a1) (fun M2 => (some ((1, M2))))))
set_option maxHeartbeats 4000000 in
set_option maxRecDepth 20000 in
theorem t_X12_end (hst : gj_Stat S) (a1 : Int) {r : Int × gj_M} (hF : F_X12_end a1 M = some r) : gj_C G l 2 0 0 yX12_end cX12_end 2 (some .boolean) [jR 79, jI a1] S M (gj_qI fun x S' M' => (x = 0 ∨ x = 1) ∧ r.1 = x ∧ S = S' ∧ r.2 = M') := by
  refine gj_Cof (by decide +kernel) (Nat.le_of_ble_eq_true rfl) ?_
  change gj_W G l 2 0 0 yX12_end cX12_end 2 (some .boolean) (gj_qI fun x S' M' => (x = 0 ∨ x = 1) ∧ r.1 = x ∧ S = S' ∧ r.2 = M') 0 0 0 [(0, jR 79), (1, jI a1)] [] S M
  unfold F_X12_end at hF
  refine gj_iload_n (q := 1) (gj_dk okX12_end 0 rfl) rfl rfl ?_
  refine gj_i2l (q := 2) (gj_dk okX12_end 1 rfl) rfl ?_
  refine gj_lconst (q := 3) (z := 0) (gj_dk okX12_end 2 rfl) rfl (by decide) rfl ?_
  refine gj_aload_n (q := 4) (gj_dk okX12_end 3 rfl) rfl rfl ?_
  refine gj_gI (q := 7) (j := 2) (gj_dk okX12_end 4 rfl) ff_X12_162 (sh79 hst) (by decide) rfl rfl ?_
  refine gj_i2l (q := 8) (gj_dk okX12_end 5 rfl) rfl ?_
  refine gj_callS (q := 11) [jL a1, jL 0, jL (M 79 2)] rfl (t_X12_in hst a1 0 (M 79 2) rfl) (gj_dk okX12_end 6 rfl) ml_X12_158 me_X12_in (gj_nm rfl) rfl (gj_kI fun x S2 M2 h => ?_)
  obtain ⟨bz, e, eS, eM⟩ := h; subst eS; subst eM; subst e
  refine gj_stpZ bz hF (fun x1 bx1 hF => ?_)
  refine gj_if_ne (q := 14) (tgt := 20) (gj_dk okX12_end 7 rfl) (by decide) rfl (fun c11 => ?_) (fun c11 => ?_)
  · -- 20
    replace hF := gj_iff c11 hF
    refine gj_aload_n (q := 21) (gj_dk okX12_end 12 rfl) rfl rfl ?_
    refine gj_iload_n (q := 22) (gj_dk okX12_end 13 rfl) rfl rfl ?_
    refine gj_pfI (q := 25) (j := 2) (gj_dk okX12_end 14 rfl) ff_X12_162 (sh79 hst) (by decide) rfl rfl ?_
    refine gj_stp hF (fun M2 hF => ?_)
    refine gj_iconst (q := 26) (gj_dk okX12_end 15 rfl) (by decide) rfl ?_
    cases hF
    exact gj_zret (gj_dk okX12_end 16 rfl) rfl (by decide) ⟨_, rfl, (by decide), rfl, rfl, rfl⟩
  · -- 14
    replace hF := gj_ift c11 hF
    refine gj_aload_n (q := 15) (gj_dk okX12_end 8 rfl) rfl rfl ?_
    refine gj_iconst (q := 16) (gj_dk okX12_end 9 rfl) (by decide) rfl ?_
    obtain ⟨x3, M4, hG, hF⟩ := gj_bnd2d hF
    refine gj_callV (q := 19) (z := 79) (ci := 10) [jI 2] rfl (t_X12_deny hst 2 hG) (gj_dk okX12_end 10 rfl) ml_X12_173 me_X12_deny (sh79 hst) rfl (gj_nm rfl) rfl (gj_kI fun y S2 M2 h => ?_)
    obtain ⟨bx3, e, eS, eM⟩ := h; subst eS; subst eM; subst e; clear hG
    dsimp only at bx3 ⊢
    cases hF
    exact gj_zret (gj_dk okX12_end 11 rfl) rfl bx3 ⟨_, rfl, bx3, rfl, rfl, rfl⟩
def F_X12_between (a1 : Int) (a2 : Int) (a3 : Int) (M : gj_M) : Option (Int) :=
  (if M 79 2 ≤ a1 then (some (0)) else gj_chk (0 ≤ a1 ∧ a1 < 500) ((if M 81 a1 < a2 then (some (0)) else gj_chk (0 ≤ a1 ∧ a1 < 500) ((if a3 < M 81 a1 then (some (0)) else (some (1)))))))
set_option maxHeartbeats 4000000 in
set_option maxRecDepth 20000 in
theorem t_X12_between (hst : gj_Stat S) (a1 a2 a3 : Int) {r : Int} (hF : F_X12_between a1 a2 a3 M = some r) : gj_C G l 1 0 0 yX12_between cX12_between 4 (some .boolean) [jR 79, jI a1, jI a2, jI a3] S M (gj_qI fun x S' M' => (x = 0 ∨ x = 1) ∧ r = x ∧ S = S' ∧ M = M') := by
  refine gj_Cof (by decide +kernel) (Nat.le_of_ble_eq_true rfl) ?_
  change gj_W G l 1 0 0 yX12_between cX12_between 4 (some .boolean) (gj_qI fun x S' M' => (x = 0 ∨ x = 1) ∧ r = x ∧ S = S' ∧ M = M') 0 0 0 [(0, jR 79), (1, jI a1), (2, jI a2), (3, jI a3)] [] S M
  unfold F_X12_between at hF
  refine gj_iload_n (q := 1) (gj_dk okX12_between 0 rfl) rfl rfl ?_
  refine gj_aload_n (q := 2) (gj_dk okX12_between 1 rfl) rfl rfl ?_
  refine gj_gI (q := 5) (j := 2) (gj_dk okX12_between 2 rfl) ff_X12_162 (sh79 hst) (by decide) rfl rfl ?_
  refine gj_icmp_ge (q := 8) (tgt := 32) (gj_dk okX12_between 3 rfl) (by decide) rfl (fun c5 => ?_) (fun c5 => ?_)
  · -- 32
    replace hF := gj_ift c5 hF
    refine gj_iconst (q := 33) (gj_dk okX12_between 18 rfl) (by decide) rfl ?_
    cases hF
    exact gj_zret (gj_dk okX12_between 19 rfl) rfl (by decide) ⟨_, rfl, (by decide), rfl, rfl, rfl⟩
  · -- 8
    replace hF := gj_iff c5 hF
    refine gj_aload_n (q := 9) (gj_dk okX12_between 4 rfl) rfl rfl ?_
    refine gj_gR (q := 12) (j := 1) (gj_dk okX12_between 5 rfl) ff_X12_13 (sh79 hst) (by decide) rfl (rf79_1 hst) rfl ?_
    refine gj_iload_n (q := 13) (gj_dk okX12_between 6 rfl) rfl rfl ?_
    obtain ⟨b1, hF⟩ := gj_ckd hF
    refine gj_bald (q := 14) (gj_dk okX12_between 7 rfl) (sh81 hst) b1.1 b1.2 rfl ?_
    refine gj_iload_n (q := 15) (gj_dk okX12_between 8 rfl) rfl rfl ?_
    refine gj_icmp_lt (q := 18) (tgt := 32) (gj_dk okX12_between 9 rfl) (by decide) rfl (fun c15 => ?_) (fun c15 => ?_)
    · -- 32
      replace hF := gj_ift c15 hF
      refine gj_iconst (q := 33) (gj_dk okX12_between 18 rfl) (by decide) rfl ?_
      cases hF
      exact gj_zret (gj_dk okX12_between 19 rfl) rfl (by decide) ⟨_, rfl, (by decide), rfl, rfl, rfl⟩
    · -- 18
      replace hF := gj_iff c15 hF
      refine gj_aload_n (q := 19) (gj_dk okX12_between 10 rfl) rfl rfl ?_
      refine gj_gR (q := 22) (j := 1) (gj_dk okX12_between 11 rfl) ff_X12_13 (sh79 hst) (by decide) rfl (rf79_1 hst) rfl ?_
      refine gj_iload_n (q := 23) (gj_dk okX12_between 12 rfl) rfl rfl ?_
      obtain ⟨b2, hF⟩ := gj_ckd hF
      refine gj_bald (q := 24) (gj_dk okX12_between 13 rfl) (sh81 hst) b2.1 b2.2 rfl ?_
      refine gj_iload_n (q := 25) (gj_dk okX12_between 14 rfl) rfl rfl ?_
      refine gj_icmp_gt (q := 28) (tgt := 32) (gj_dk okX12_between 15 rfl) (by decide) rfl (fun c25 => ?_) (fun c25 => ?_)
      · -- 32
        replace hF := gj_ift c25 hF
        refine gj_iconst (q := 33) (gj_dk okX12_between 18 rfl) (by decide) rfl ?_
        cases hF
        exact gj_zret (gj_dk okX12_between 19 rfl) rfl (by decide) ⟨_, rfl, (by decide), rfl, rfl, rfl⟩
      · -- 28
        replace hF := gj_iff c25 hF
        refine gj_iconst (q := 29) (gj_dk okX12_between 16 rfl) (by decide) rfl ?_
        refine gj_goto (tgt := 33) (gj_dk okX12_between 17 rfl) (by decide) ?_
        cases hF
        exact gj_zret (gj_dk okX12_between 19 rfl) rfl (by decide) ⟨_, rfl, (by decide), rfl, rfl, rfl⟩
def B_X12_next_126 (rec126 : gj_M → Option (gj_M)) (M : gj_M) : Option (gj_M) :=
  gj_bnd (F_X12_between (M 79 4) 48 57 M) (fun x12 => (if x12 = 0 then (some (M)) else gj_let (gj_up M 79 4 (gj_w ((M 79 4) + 1))) (fun M14 => rec126 M14)))
def B_X12_next_83 (rec83 : gj_M → Option (gj_M)) (M : gj_M) : Option (gj_M) :=
  gj_bnd (F_X12_between (M 79 4) 97 122 M) (fun x15 => (if x15 = 0 then (some (M)) else gj_let (gj_up M 79 4 (gj_w ((M 79 4) + 1))) (fun M17 => rec83 M17)))
def J_X12_next_60 (M : gj_M) : Option (gj_M) :=
  gj_let (gj_up M 79 4 (M 79 3)) (fun M6 => gj_bnd (F_X12_between (M6 79 3) 97 122 M6) (fun x7 => (if x7 = 0 then gj_bnd (F_X12_between (M6 79 3) 48 57 M6) (fun x9 => (if x9 = 0 then (if M6 79 2 ≤ M6 79 3 then (some (M6)) else gj_let (gj_up M6 79 4 (gj_w ((M6 79 4) + 1))) (fun M11 => (some (M11)))) else (gj_it (fun _ => none) (B_X12_next_126) gj_fu M6))) else (gj_it (fun _ => none) (B_X12_next_83) gj_fu M6))))
def B_X12_next_8 (rec8 : gj_M → Option (gj_M)) (M : gj_M) : Option (gj_M) :=
  (if M 79 2 ≤ M 79 3 then (J_X12_next_60 M) else gj_chk (0 ≤ M 79 3 ∧ M 79 3 < 500) ((if M 81 (M 79 3) = 32 then gj_let (gj_up M 79 3 (gj_w ((M 79 3) + 1))) (fun M3 => rec8 M3) else gj_chk (0 ≤ M 79 3 ∧ M 79 3 < 500) ((if M 81 (M 79 3) = 10 then gj_let (gj_up M 79 3 (gj_w ((M 79 3) + 1))) (fun M5 => rec8 M5) else (J_X12_next_60 M))))))
def F_X12_next (M : gj_M) : Option (gj_M) :=
  gj_let (gj_up M 79 3 (M 79 4)) (fun M1 => (gj_it (fun _ => none) (B_X12_next_8) gj_fu M1))
set_option maxHeartbeats 4000000 in
set_option maxRecDepth 20000 in
theorem t_B_X12_next_126 (hst : gj_Stat S) {r : gj_M} {rec126 : gj_M → Option (gj_M)} (hrec126 : ∀ (M : gj_M), rec126 M = some r → gj_W G l 2 0 0 yX12_next cX12_next 1 none (gj_qV fun S' M' => S = S' ∧ r = M') 0 0 126 [(0, jR 79)] [] S M) (M : gj_M) (hF : B_X12_next_126 rec126 M = some r) : gj_W G l 2 0 0 yX12_next cX12_next 1 none (gj_qV fun S' M' => S = S' ∧ r = M') 0 0 126 [(0, jR 79)] [] S M := by
  unfold B_X12_next_126 at hF
  refine gj_aload_n (q := 127) (gj_dk okX12_next 62 rfl) rfl rfl ?_
  refine gj_aload_n (q := 128) (gj_dk okX12_next 63 rfl) rfl rfl ?_
  refine gj_gI (q := 131) (j := 4) (gj_dk okX12_next 64 rfl) ff_X12_177 (sh79 hst) (by decide) rfl rfl ?_
  refine gj_bipush (q := 133) (gj_dk okX12_next 65 rfl) (by decide) rfl rfl ?_
  refine gj_bipush (q := 135) (gj_dk okX12_next 66 rfl) (by decide) rfl rfl ?_
  obtain ⟨x12, hG, hF⟩ := gj_bndd hF
  refine gj_callV (q := 138) (z := 79) (ci := 10) [jI (M 79 4), jI 48, jI 57] rfl (t_X12_between hst (M 79 4) 48 57 hG) (gj_dk okX12_next 67 rfl) ml_X12_183 me_X12_between (sh79 hst) rfl (gj_nm rfl) rfl (gj_kI fun y S2 M2 h => ?_)
  obtain ⟨bx12, e, eS, eM⟩ := h; subst eS; subst eM; subst e; clear hG
  refine gj_if_eq (q := 141) (tgt := 175) (gj_dk okX12_next 68 rfl) (by decide) rfl (fun c138 => ?_) (fun c138 => ?_)
  · -- 175
    replace hF := gj_ift c138 hF
    cases hF
    exact gj_vret (gj_dk okX12_next 87 rfl) rfl ⟨rfl, rfl, rfl⟩
  · -- 141
    replace hF := gj_iff c138 hF
    refine gj_aload_n (q := 142) (gj_dk okX12_next 69 rfl) rfl rfl ?_
    refine gj_dup (q := 143) (gj_dk okX12_next 70 rfl) rfl rfl ?_
    refine gj_gI (q := 146) (j := 4) (gj_dk okX12_next 71 rfl) ff_X12_177 (sh79 hst) (by decide) rfl rfl ?_
    refine gj_iconst (q := 147) (gj_dk okX12_next 72 rfl) (by decide) rfl ?_
    refine gj_iadd (q := 148) (gj_dk okX12_next 73 rfl) rfl ?_
    refine gj_pfI (q := 151) (j := 4) (gj_dk okX12_next 74 rfl) ff_X12_177 (sh79 hst) (by decide) rfl rfl ?_
    refine gj_stp hF (fun M14 hF => ?_)
    refine gj_goto (tgt := 126) (gj_dk okX12_next 75 rfl) (by decide) ?_
    refine gj_sub [(0, jR 79)] ⟨rfl, trivial⟩ ?_
    exact hrec126 M14 hF
theorem t_L_X12_next_126 (hst : gj_Stat S) {r : gj_M} : ∀ (m : Nat) (M : gj_M), gj_it (fun _ => none) (B_X12_next_126) m M = some r → gj_W G l 2 0 0 yX12_next cX12_next 1 none (gj_qV fun S' M' => S = S' ∧ r = M') 0 0 126 [(0, jR 79)] [] S M := by
  intro m
  induction m with
  | zero => intro M hF; cases (show (none : Option (gj_M)) = some r from hF)
  | succ m ih => intro M hF; exact t_B_X12_next_126 hst (fun M h => ih M h) M hF
set_option maxHeartbeats 4000000 in
set_option maxRecDepth 20000 in
theorem t_B_X12_next_83 (hst : gj_Stat S) {r : gj_M} {rec83 : gj_M → Option (gj_M)} (hrec83 : ∀ (M : gj_M), rec83 M = some r → gj_W G l 2 0 0 yX12_next cX12_next 1 none (gj_qV fun S' M' => S = S' ∧ r = M') 0 0 83 [(0, jR 79)] [] S M) (M : gj_M) (hF : B_X12_next_83 rec83 M = some r) : gj_W G l 2 0 0 yX12_next cX12_next 1 none (gj_qV fun S' M' => S = S' ∧ r = M') 0 0 83 [(0, jR 79)] [] S M := by
  unfold B_X12_next_83 at hF
  refine gj_aload_n (q := 84) (gj_dk okX12_next 41 rfl) rfl rfl ?_
  refine gj_aload_n (q := 85) (gj_dk okX12_next 42 rfl) rfl rfl ?_
  refine gj_gI (q := 88) (j := 4) (gj_dk okX12_next 43 rfl) ff_X12_177 (sh79 hst) (by decide) rfl rfl ?_
  refine gj_bipush (q := 90) (gj_dk okX12_next 44 rfl) (by decide) rfl rfl ?_
  refine gj_bipush (q := 92) (gj_dk okX12_next 45 rfl) (by decide) rfl rfl ?_
  obtain ⟨x15, hG, hF⟩ := gj_bndd hF
  refine gj_callV (q := 95) (z := 79) (ci := 10) [jI (M 79 4), jI 97, jI 122] rfl (t_X12_between hst (M 79 4) 97 122 hG) (gj_dk okX12_next 46 rfl) ml_X12_183 me_X12_between (sh79 hst) rfl (gj_nm rfl) rfl (gj_kI fun y S2 M2 h => ?_)
  obtain ⟨bx15, e, eS, eM⟩ := h; subst eS; subst eM; subst e; clear hG
  refine gj_if_eq (q := 98) (tgt := 175) (gj_dk okX12_next 47 rfl) (by decide) rfl (fun c95 => ?_) (fun c95 => ?_)
  · -- 175
    replace hF := gj_ift c95 hF
    cases hF
    exact gj_vret (gj_dk okX12_next 87 rfl) rfl ⟨rfl, rfl, rfl⟩
  · -- 98
    replace hF := gj_iff c95 hF
    refine gj_aload_n (q := 99) (gj_dk okX12_next 48 rfl) rfl rfl ?_
    refine gj_dup (q := 100) (gj_dk okX12_next 49 rfl) rfl rfl ?_
    refine gj_gI (q := 103) (j := 4) (gj_dk okX12_next 50 rfl) ff_X12_177 (sh79 hst) (by decide) rfl rfl ?_
    refine gj_iconst (q := 104) (gj_dk okX12_next 51 rfl) (by decide) rfl ?_
    refine gj_iadd (q := 105) (gj_dk okX12_next 52 rfl) rfl ?_
    refine gj_pfI (q := 108) (j := 4) (gj_dk okX12_next 53 rfl) ff_X12_177 (sh79 hst) (by decide) rfl rfl ?_
    refine gj_stp hF (fun M17 hF => ?_)
    refine gj_goto (tgt := 83) (gj_dk okX12_next 54 rfl) (by decide) ?_
    refine gj_sub [(0, jR 79)] ⟨rfl, trivial⟩ ?_
    exact hrec83 M17 hF
theorem t_L_X12_next_83 (hst : gj_Stat S) {r : gj_M} : ∀ (m : Nat) (M : gj_M), gj_it (fun _ => none) (B_X12_next_83) m M = some r → gj_W G l 2 0 0 yX12_next cX12_next 1 none (gj_qV fun S' M' => S = S' ∧ r = M') 0 0 83 [(0, jR 79)] [] S M := by
  intro m
  induction m with
  | zero => intro M hF; cases (show (none : Option (gj_M)) = some r from hF)
  | succ m ih => intro M hF; exact t_B_X12_next_83 hst (fun M h => ih M h) M hF
set_option maxHeartbeats 4000000 in
set_option maxRecDepth 20000 in
theorem t_J_X12_next_60 (hst : gj_Stat S) {r : gj_M} (M : gj_M) (hF : J_X12_next_60 M = some r) : gj_W G l 2 0 0 yX12_next cX12_next 1 none (gj_qV fun S' M' => S = S' ∧ r = M') 0 0 60 [(0, jR 79)] [] S M := by
  unfold J_X12_next_60 at hF
  refine gj_aload_n (q := 61) (gj_dk okX12_next 30 rfl) rfl rfl ?_
  refine gj_aload_n (q := 62) (gj_dk okX12_next 31 rfl) rfl rfl ?_
  refine gj_gI (q := 65) (j := 3) (gj_dk okX12_next 32 rfl) ff_X12_180 (sh79 hst) (by decide) rfl rfl ?_
  refine gj_pfI (q := 68) (j := 4) (gj_dk okX12_next 33 rfl) ff_X12_177 (sh79 hst) (by decide) rfl rfl ?_
  refine gj_stp hF (fun M6 hF => ?_)
  refine gj_aload_n (q := 69) (gj_dk okX12_next 34 rfl) rfl rfl ?_
  refine gj_aload_n (q := 70) (gj_dk okX12_next 35 rfl) rfl rfl ?_
  refine gj_gI (q := 73) (j := 3) (gj_dk okX12_next 36 rfl) ff_X12_180 (sh79 hst) (by decide) rfl rfl ?_
  refine gj_bipush (q := 75) (gj_dk okX12_next 37 rfl) (by decide) rfl rfl ?_
  refine gj_bipush (q := 77) (gj_dk okX12_next 38 rfl) (by decide) rfl rfl ?_
  obtain ⟨x7, hG, hF⟩ := gj_bndd hF
  refine gj_callV (q := 80) (z := 79) (ci := 10) [jI (M6 79 3), jI 97, jI 122] rfl (t_X12_between hst (M6 79 3) 97 122 hG) (gj_dk okX12_next 39 rfl) ml_X12_183 me_X12_between (sh79 hst) rfl (gj_nm rfl) rfl (gj_kI fun y S2 M2 h => ?_)
  obtain ⟨bx7, e, eS, eM⟩ := h; subst eS; subst eM; subst e; clear hG
  refine gj_if_eq (q := 83) (tgt := 111) (gj_dk okX12_next 40 rfl) (by decide) rfl (fun c80 => ?_) (fun c80 => ?_)
  · -- 111
    replace hF := gj_ift c80 hF
    refine gj_aload_n (q := 112) (gj_dk okX12_next 55 rfl) rfl rfl ?_
    refine gj_aload_n (q := 113) (gj_dk okX12_next 56 rfl) rfl rfl ?_
    refine gj_gI (q := 116) (j := 3) (gj_dk okX12_next 57 rfl) ff_X12_180 (sh79 hst) (by decide) rfl rfl ?_
    refine gj_bipush (q := 118) (gj_dk okX12_next 58 rfl) (by decide) rfl rfl ?_
    refine gj_bipush (q := 120) (gj_dk okX12_next 59 rfl) (by decide) rfl rfl ?_
    obtain ⟨x9, hG, hF⟩ := gj_bndd hF
    refine gj_callV (q := 123) (z := 79) (ci := 10) [jI (M6 79 3), jI 48, jI 57] rfl (t_X12_between hst (M6 79 3) 48 57 hG) (gj_dk okX12_next 60 rfl) ml_X12_183 me_X12_between (sh79 hst) rfl (gj_nm rfl) rfl (gj_kI fun y S2 M2 h => ?_)
    obtain ⟨bx9, e, eS, eM⟩ := h; subst eS; subst eM; subst e; clear hG
    refine gj_if_eq (q := 126) (tgt := 154) (gj_dk okX12_next 61 rfl) (by decide) rfl (fun c123 => ?_) (fun c123 => ?_)
    · -- 154
      replace hF := gj_ift c123 hF
      refine gj_aload_n (q := 155) (gj_dk okX12_next 76 rfl) rfl rfl ?_
      refine gj_gI (q := 158) (j := 3) (gj_dk okX12_next 77 rfl) ff_X12_180 (sh79 hst) (by decide) rfl rfl ?_
      refine gj_aload_n (q := 159) (gj_dk okX12_next 78 rfl) rfl rfl ?_
      refine gj_gI (q := 162) (j := 2) (gj_dk okX12_next 79 rfl) ff_X12_162 (sh79 hst) (by decide) rfl rfl ?_
      refine gj_icmp_ge (q := 165) (tgt := 175) (gj_dk okX12_next 80 rfl) (by decide) rfl (fun c162 => ?_) (fun c162 => ?_)
      · -- 175
        replace hF := gj_ift c162 hF
        cases hF
        exact gj_vret (gj_dk okX12_next 87 rfl) rfl ⟨rfl, rfl, rfl⟩
      · -- 165
        replace hF := gj_iff c162 hF
        refine gj_aload_n (q := 166) (gj_dk okX12_next 81 rfl) rfl rfl ?_
        refine gj_dup (q := 167) (gj_dk okX12_next 82 rfl) rfl rfl ?_
        refine gj_gI (q := 170) (j := 4) (gj_dk okX12_next 83 rfl) ff_X12_177 (sh79 hst) (by decide) rfl rfl ?_
        refine gj_iconst (q := 171) (gj_dk okX12_next 84 rfl) (by decide) rfl ?_
        refine gj_iadd (q := 172) (gj_dk okX12_next 85 rfl) rfl ?_
        refine gj_pfI (q := 175) (j := 4) (gj_dk okX12_next 86 rfl) ff_X12_177 (sh79 hst) (by decide) rfl rfl ?_
        refine gj_stp hF (fun M11 hF => ?_)
        cases hF
        exact gj_vret (gj_dk okX12_next 87 rfl) rfl ⟨rfl, rfl, rfl⟩
    · -- 126
      replace hF := gj_iff c123 hF
      refine gj_sub [(0, jR 79)] ⟨rfl, trivial⟩ ?_
      exact t_L_X12_next_126 hst gj_fu M6 hF
  · -- 83
    replace hF := gj_iff c80 hF
    refine gj_sub [(0, jR 79)] ⟨rfl, trivial⟩ ?_
    exact t_L_X12_next_83 hst gj_fu M6 hF
set_option maxHeartbeats 4000000 in
set_option maxRecDepth 20000 in
theorem t_B_X12_next_8 (hst : gj_Stat S) {r : gj_M} {rec8 : gj_M → Option (gj_M)} (hrec8 : ∀ (M : gj_M), rec8 M = some r → gj_W G l 2 0 0 yX12_next cX12_next 1 none (gj_qV fun S' M' => S = S' ∧ r = M') 0 0 8 [(0, jR 79)] [] S M) (M : gj_M) (hF : B_X12_next_8 rec8 M = some r) : gj_W G l 2 0 0 yX12_next cX12_next 1 none (gj_qV fun S' M' => S = S' ∧ r = M') 0 0 8 [(0, jR 79)] [] S M := by
  unfold B_X12_next_8 at hF
  refine gj_aload_n (q := 9) (gj_dk okX12_next 4 rfl) rfl rfl ?_
  refine gj_gI (q := 12) (j := 3) (gj_dk okX12_next 5 rfl) ff_X12_180 (sh79 hst) (by decide) rfl rfl ?_
  refine gj_aload_n (q := 13) (gj_dk okX12_next 6 rfl) rfl rfl ?_
  refine gj_gI (q := 16) (j := 2) (gj_dk okX12_next 7 rfl) ff_X12_162 (sh79 hst) (by decide) rfl rfl ?_
  refine gj_icmp_ge (q := 19) (tgt := 60) (gj_dk okX12_next 8 rfl) (by decide) rfl (fun c16 => ?_) (fun c16 => ?_)
  · -- 60
    replace hF := gj_ift c16 hF
    refine gj_sub [(0, jR 79)] ⟨rfl, trivial⟩ ?_
    exact t_J_X12_next_60 hst M hF
  · -- 19
    replace hF := gj_iff c16 hF
    refine gj_aload_n (q := 20) (gj_dk okX12_next 9 rfl) rfl rfl ?_
    refine gj_gR (q := 23) (j := 1) (gj_dk okX12_next 10 rfl) ff_X12_13 (sh79 hst) (by decide) rfl (rf79_1 hst) rfl ?_
    refine gj_aload_n (q := 24) (gj_dk okX12_next 11 rfl) rfl rfl ?_
    refine gj_gI (q := 27) (j := 3) (gj_dk okX12_next 12 rfl) ff_X12_180 (sh79 hst) (by decide) rfl rfl ?_
    obtain ⟨b2, hF⟩ := gj_ckd hF
    refine gj_bald (q := 28) (gj_dk okX12_next 13 rfl) (sh81 hst) b2.1 b2.2 rfl ?_
    refine gj_bipush (q := 30) (gj_dk okX12_next 14 rfl) (by decide) rfl rfl ?_
    refine gj_icmp_eq (q := 33) (tgt := 47) (gj_dk okX12_next 15 rfl) (by decide) rfl (fun c30 => ?_) (fun c30 => ?_)
    · -- 47
      replace hF := gj_ift c30 hF
      refine gj_aload_n (q := 48) (gj_dk okX12_next 23 rfl) rfl rfl ?_
      refine gj_dup (q := 49) (gj_dk okX12_next 24 rfl) rfl rfl ?_
      refine gj_gI (q := 52) (j := 3) (gj_dk okX12_next 25 rfl) ff_X12_180 (sh79 hst) (by decide) rfl rfl ?_
      refine gj_iconst (q := 53) (gj_dk okX12_next 26 rfl) (by decide) rfl ?_
      refine gj_iadd (q := 54) (gj_dk okX12_next 27 rfl) rfl ?_
      refine gj_pfI (q := 57) (j := 3) (gj_dk okX12_next 28 rfl) ff_X12_180 (sh79 hst) (by decide) rfl rfl ?_
      refine gj_stp hF (fun M3 hF => ?_)
      refine gj_goto (tgt := 8) (gj_dk okX12_next 29 rfl) (by decide) ?_
      refine gj_sub [(0, jR 79)] ⟨rfl, trivial⟩ ?_
      exact hrec8 M3 hF
    · -- 33
      replace hF := gj_iff c30 hF
      refine gj_aload_n (q := 34) (gj_dk okX12_next 16 rfl) rfl rfl ?_
      refine gj_gR (q := 37) (j := 1) (gj_dk okX12_next 17 rfl) ff_X12_13 (sh79 hst) (by decide) rfl (rf79_1 hst) rfl ?_
      refine gj_aload_n (q := 38) (gj_dk okX12_next 18 rfl) rfl rfl ?_
      refine gj_gI (q := 41) (j := 3) (gj_dk okX12_next 19 rfl) ff_X12_180 (sh79 hst) (by decide) rfl rfl ?_
      obtain ⟨b4, hF⟩ := gj_ckd hF
      refine gj_bald (q := 42) (gj_dk okX12_next 20 rfl) (sh81 hst) b4.1 b4.2 rfl ?_
      refine gj_bipush (q := 44) (gj_dk okX12_next 21 rfl) (by decide) rfl rfl ?_
      refine gj_icmp_ne (q := 47) (tgt := 60) (gj_dk okX12_next 22 rfl) (by decide) rfl (fun c44 => ?_) (fun c44 => ?_)
      · -- 60
        replace hF := gj_iff c44 hF
        refine gj_sub [(0, jR 79)] ⟨rfl, trivial⟩ ?_
        exact t_J_X12_next_60 hst M hF
      · -- 47
        replace hF := gj_ift c44 hF
        refine gj_aload_n (q := 48) (gj_dk okX12_next 23 rfl) rfl rfl ?_
        refine gj_dup (q := 49) (gj_dk okX12_next 24 rfl) rfl rfl ?_
        refine gj_gI (q := 52) (j := 3) (gj_dk okX12_next 25 rfl) ff_X12_180 (sh79 hst) (by decide) rfl rfl ?_
        refine gj_iconst (q := 53) (gj_dk okX12_next 26 rfl) (by decide) rfl ?_
        refine gj_iadd (q := 54) (gj_dk okX12_next 27 rfl) rfl ?_
        refine gj_pfI (q := 57) (j := 3) (gj_dk okX12_next 28 rfl) ff_X12_180 (sh79 hst) (by decide) rfl rfl ?_
        refine gj_stp hF (fun M5 hF => ?_)
        refine gj_goto (tgt := 8) (gj_dk okX12_next 29 rfl) (by decide) ?_
        refine gj_sub [(0, jR 79)] ⟨rfl, trivial⟩ ?_
        exact hrec8 M5 hF
theorem t_L_X12_next_8 (hst : gj_Stat S) {r : gj_M} : ∀ (m : Nat) (M : gj_M), gj_it (fun _ => none) (B_X12_next_8) m M = some r → gj_W G l 2 0 0 yX12_next cX12_next 1 none (gj_qV fun S' M' => S = S' ∧ r = M') 0 0 8 [(0, jR 79)] [] S M := by
  intro m
  induction m with
  | zero => intro M hF; cases (show (none : Option (gj_M)) = some r from hF)
  | succ m ih => intro M hF; exact t_B_X12_next_8 hst (fun M h => ih M h) M hF
set_option maxHeartbeats 4000000 in
set_option maxRecDepth 20000 in
theorem t_X12_next (hst : gj_Stat S) {r : gj_M} (hF : F_X12_next M = some r) : gj_C G l 2 0 0 yX12_next cX12_next 1 none [jR 79] S M (gj_qV fun S' M' => S = S' ∧ r = M') := by
  refine gj_Cof (by decide +kernel) (Nat.le_of_ble_eq_true rfl) ?_
  change gj_W G l 2 0 0 yX12_next cX12_next 1 none (gj_qV fun S' M' => S = S' ∧ r = M') 0 0 0 [(0, jR 79)] [] S M
  unfold F_X12_next at hF
  refine gj_aload_n (q := 1) (gj_dk okX12_next 0 rfl) rfl rfl ?_
  refine gj_aload_n (q := 2) (gj_dk okX12_next 1 rfl) rfl rfl ?_
  refine gj_gI (q := 5) (j := 4) (gj_dk okX12_next 2 rfl) ff_X12_177 (sh79 hst) (by decide) rfl rfl ?_
  refine gj_pfI (q := 8) (j := 3) (gj_dk okX12_next 3 rfl) ff_X12_180 (sh79 hst) (by decide) rfl rfl ?_
  refine gj_stp hF (fun M1 hF => ?_)
  refine gj_sub [(0, jR 79)] ⟨rfl, trivial⟩ ?_
  exact t_L_X12_next_8 hst gj_fu M1 hF
def F_X12_passes (a1 : Int) (M : gj_M) : Option (Int × gj_M) :=
  (if a1 = 0 then (if M 79 5 = -1 then gj_let (gj_up M 79 5 (M 79 3)) (fun M3 => (some ((0, M3)))) else (some ((0, M)))) else gj_bnd (F_X12_next M) (fun M2 => (some ((1, M2)))))
set_option maxHeartbeats 4000000 in
set_option maxRecDepth 20000 in
theorem t_X12_passes (hst : gj_Stat S) (a1 : Int) {r : Int × gj_M} (hF : F_X12_passes a1 M = some r) : gj_C G l 3 0 0 yX12_passes cX12_passes 2 (some .boolean) [jR 79, jI a1] S M (gj_qI fun x S' M' => (x = 0 ∨ x = 1) ∧ r.1 = x ∧ S = S' ∧ r.2 = M') := by
  refine gj_Cof (by decide +kernel) (Nat.le_of_ble_eq_true rfl) ?_
  change gj_W G l 3 0 0 yX12_passes cX12_passes 2 (some .boolean) (gj_qI fun x S' M' => (x = 0 ∨ x = 1) ∧ r.1 = x ∧ S = S' ∧ r.2 = M') 0 0 0 [(0, jR 79), (1, jI a1)] [] S M
  unfold F_X12_passes at hF
  refine gj_iload_n (q := 1) (gj_dk okX12_passes 0 rfl) rfl rfl ?_
  refine gj_if_ne (q := 4) (tgt := 22) (gj_dk okX12_passes 1 rfl) (by decide) rfl (fun c1 => ?_) (fun c1 => ?_)
  · -- 22
    replace hF := gj_iff c1 hF
    refine gj_aload_n (q := 23) (gj_dk okX12_passes 12 rfl) rfl rfl ?_
    obtain ⟨M2, hG, hF⟩ := gj_bndd hF
    refine gj_callV (q := 26) (z := 79) (ci := 10) [] rfl (t_X12_next hst  hG) (gj_dk okX12_passes 13 rfl) ml_X12_190 me_X12_next (sh79 hst) rfl (gj_nm rfl) rfl (gj_kV fun S2 M2 h => ?_)
    obtain ⟨eS, eM⟩ := h; subst eS; subst eM; clear hG
    refine gj_iconst (q := 27) (gj_dk okX12_passes 14 rfl) (by decide) rfl ?_
    cases hF
    exact gj_zret (gj_dk okX12_passes 15 rfl) rfl (by decide) ⟨_, rfl, (by decide), rfl, rfl, rfl⟩
  · -- 4
    replace hF := gj_ift c1 hF
    refine gj_aload_n (q := 5) (gj_dk okX12_passes 2 rfl) rfl rfl ?_
    refine gj_gI (q := 8) (j := 5) (gj_dk okX12_passes 3 rfl) ff_X12_187 (sh79 hst) (by decide) rfl rfl ?_
    refine gj_iconst (q := 9) (gj_dk okX12_passes 4 rfl) (by decide) rfl ?_
    refine gj_icmp_ne (q := 12) (tgt := 20) (gj_dk okX12_passes 5 rfl) (by decide) rfl (fun c9 => ?_) (fun c9 => ?_)
    · -- 20
      replace hF := gj_iff c9 hF
      refine gj_iconst (q := 21) (gj_dk okX12_passes 10 rfl) (by decide) rfl ?_
      cases hF
      exact gj_zret (gj_dk okX12_passes 11 rfl) rfl (by decide) ⟨_, rfl, (by decide), rfl, rfl, rfl⟩
    · -- 12
      replace hF := gj_ift c9 hF
      refine gj_aload_n (q := 13) (gj_dk okX12_passes 6 rfl) rfl rfl ?_
      refine gj_aload_n (q := 14) (gj_dk okX12_passes 7 rfl) rfl rfl ?_
      refine gj_gI (q := 17) (j := 3) (gj_dk okX12_passes 8 rfl) ff_X12_180 (sh79 hst) (by decide) rfl rfl ?_
      refine gj_pfI (q := 20) (j := 5) (gj_dk okX12_passes 9 rfl) ff_X12_187 (sh79 hst) (by decide) rfl rfl ?_
      refine gj_stp hF (fun M3 hF => ?_)
      refine gj_iconst (q := 21) (gj_dk okX12_passes 10 rfl) (by decide) rfl ?_
      cases hF
      exact gj_zret (gj_dk okX12_passes 11 rfl) rfl (by decide) ⟨_, rfl, (by decide), rfl, rfl, rfl⟩
def J_X12_wordHere_99 (M : gj_M) (rec2 : Int → Option (Int)) (l1 l2 : Int) : Option (Int) :=
  (if l2 = 0 then rec2 (gj_w (l1 + 1)) else (some (l1)))
def J_X12_wordHere_92 (M : gj_M) (rec2 : Int → Option (Int)) (rec51 : Int → Int → Int → Option (Int)) (l1 l3 s0 : Int) : Option (Int) :=
  rec51 l1 s0 (gj_w (l3 + 1))
def B_X12_wordHere_51 (M : gj_M) (rec2 : Int → Option (Int)) (rec51 : Int → Int → Int → Option (Int)) (l1 l2 l3 : Int) : Option (Int) :=
  (if l2 = 0 then (J_X12_wordHere_99 M rec2 l1 l2) else (if M 79 4 ≤ l3 then (J_X12_wordHere_99 M rec2 l1 l2) else gj_chk (0 ≤ l3 ∧ l3 < 500) (gj_chk (0 ≤ l1 ∧ l1 < 9) (gj_chk (0 ≤ gj_w (l3 - (M 79 3)) ∧ gj_w (l3 - (M 79 3)) < gj_len ((l1).toNat)) ((if M 81 l3 = gj_ch ((l1).toNat) (gj_w (l3 - (M 79 3))).toNat then (J_X12_wordHere_92 M rec2 rec51 l1 l3 1) else (J_X12_wordHere_92 M rec2 rec51 l1 l3 0)))))))
def J_X12_wordHere_45 (M : gj_M) (rec2 : Int → Option (Int)) (l1 s0 : Int) : Option (Int) :=
  (gj_it (fun _ _ _ => none) (B_X12_wordHere_51 M rec2) gj_fu l1 s0 (M 79 3))
def B_X12_wordHere_2 (M : gj_M) (rec2 : Int → Option (Int)) (l1 : Int) : Option (Int) :=
  (if 9 ≤ l1 then (some (-1)) else (if M 79 2 ≤ M 79 3 then (J_X12_wordHere_45 M rec2 l1 0) else gj_chk (0 ≤ l1 ∧ l1 < 9) ((if gj_w ((M 79 4) - (M 79 3)) = gj_len ((l1).toNat) then (J_X12_wordHere_45 M rec2 l1 1) else (J_X12_wordHere_45 M rec2 l1 0)))))
def F_X12_wordHere (M : gj_M) : Option (Int) :=
  (gj_it (fun _ => none) (B_X12_wordHere_2 M) gj_fu 0)
set_option maxHeartbeats 4000000 in
set_option maxRecDepth 20000 in
theorem t_J_X12_wordHere_99 (hst : gj_Stat S) {r : Int} {rec2 : Int → Option (Int)} (hrec2 : ∀ (l1 : Int), rec2 l1 = some r → gj_W G l 5 0 0 yX12_wordHere cX12_wordHere 4 (some .int) (gj_qI fun x S' M' => r = x ∧ S = S' ∧ M = M') 0 0 2 [(0, jR 79), (1, jI l1)] [] S M) (l1 l2 : Int) (hF : J_X12_wordHere_99 M rec2 l1 l2 = some r) : gj_W G l 5 0 0 yX12_wordHere cX12_wordHere 4 (some .int) (gj_qI fun x S' M' => r = x ∧ S = S' ∧ M = M') 0 0 99 [(0, jR 79), (1, jI l1), (2, jI l2)] [] S M := by
  unfold J_X12_wordHere_99 at hF
  refine gj_iload_n (q := 100) (gj_dk okX12_wordHere 54 rfl) rfl rfl ?_
  refine gj_if_eq (q := 103) (tgt := 105) (gj_dk okX12_wordHere 55 rfl) (by decide) rfl (fun c100 => ?_) (fun c100 => ?_)
  · -- 105
    replace hF := gj_ift c100 hF
    refine gj_iinc (q := 108) (v := gj_w (l1 + 1)) (gj_dk okX12_wordHere 58 rfl) rfl (by decide) rfl rfl ?_
    refine gj_goto (tgt := 2) (gj_dk okX12_wordHere 59 rfl) (by decide) ?_
    refine gj_sub [(0, jR 79), (1, jI (gj_w (l1 + 1)))] ⟨rfl, rfl, trivial⟩ ?_
    exact hrec2 (gj_w (l1 + 1)) hF
  · -- 103
    replace hF := gj_iff c100 hF
    refine gj_iload_n (q := 104) (gj_dk okX12_wordHere 56 rfl) rfl rfl ?_
    cases hF
    exact gj_iret (gj_dk okX12_wordHere 57 rfl) rfl ⟨_, rfl, rfl, rfl, rfl⟩
set_option maxHeartbeats 4000000 in
set_option maxRecDepth 20000 in
theorem t_J_X12_wordHere_92 (hst : gj_Stat S) {r : Int} {rec2 : Int → Option (Int)} {rec51 : Int → Int → Int → Option (Int)} (hrec2 : ∀ (l1 : Int), rec2 l1 = some r → gj_W G l 5 0 0 yX12_wordHere cX12_wordHere 4 (some .int) (gj_qI fun x S' M' => r = x ∧ S = S' ∧ M = M') 0 0 2 [(0, jR 79), (1, jI l1)] [] S M) (hrec51 : ∀ (l1 l2 l3 : Int), rec51 l1 l2 l3 = some r → gj_W G l 5 0 0 yX12_wordHere cX12_wordHere 4 (some .int) (gj_qI fun x S' M' => r = x ∧ S = S' ∧ M = M') 0 0 51 [(0, jR 79), (1, jI l1), (2, jI l2), (3, jI l3)] [] S M) (l1 l3 s0 : Int) (hF : J_X12_wordHere_92 M rec2 rec51 l1 l3 s0 = some r) : gj_W G l 5 0 0 yX12_wordHere cX12_wordHere 4 (some .int) (gj_qI fun x S' M' => r = x ∧ S = S' ∧ M = M') 0 0 92 [(0, jR 79), (1, jI l1), (3, jI l3)] [jI s0] S M := by
  unfold J_X12_wordHere_92 at hF
  refine gj_istore_n (q := 93) (gj_dk okX12_wordHere 51 rfl) (by decide) rfl ?_
  refine gj_iinc (q := 96) (v := gj_w (l3 + 1)) (gj_dk okX12_wordHere 52 rfl) rfl (by decide) rfl rfl ?_
  refine gj_goto (tgt := 51) (gj_dk okX12_wordHere 53 rfl) (by decide) ?_
  refine gj_sub [(0, jR 79), (1, jI l1), (2, jI s0), (3, jI (gj_w (l3 + 1)))] ⟨rfl, rfl, rfl, rfl, trivial⟩ ?_
  exact hrec51 l1 s0 (gj_w (l3 + 1)) hF
set_option maxHeartbeats 4000000 in
set_option maxRecDepth 20000 in
theorem t_B_X12_wordHere_51 (hst : gj_Stat S) {r : Int} {rec2 : Int → Option (Int)} {rec51 : Int → Int → Int → Option (Int)} (hrec2 : ∀ (l1 : Int), rec2 l1 = some r → gj_W G l 5 0 0 yX12_wordHere cX12_wordHere 4 (some .int) (gj_qI fun x S' M' => r = x ∧ S = S' ∧ M = M') 0 0 2 [(0, jR 79), (1, jI l1)] [] S M) (hrec51 : ∀ (l1 l2 l3 : Int), rec51 l1 l2 l3 = some r → gj_W G l 5 0 0 yX12_wordHere cX12_wordHere 4 (some .int) (gj_qI fun x S' M' => r = x ∧ S = S' ∧ M = M') 0 0 51 [(0, jR 79), (1, jI l1), (2, jI l2), (3, jI l3)] [] S M) (l1 l2 l3 : Int) (hF : B_X12_wordHere_51 M rec2 rec51 l1 l2 l3 = some r) : gj_W G l 5 0 0 yX12_wordHere cX12_wordHere 4 (some .int) (gj_qI fun x S' M' => r = x ∧ S = S' ∧ M = M') 0 0 51 [(0, jR 79), (1, jI l1), (2, jI l2), (3, jI l3)] [] S M := by
  unfold B_X12_wordHere_51 at hF
  refine gj_iload_n (q := 52) (gj_dk okX12_wordHere 28 rfl) rfl rfl ?_
  refine gj_if_eq (q := 55) (tgt := 99) (gj_dk okX12_wordHere 29 rfl) (by decide) rfl (fun c52 => ?_) (fun c52 => ?_)
  · -- 99
    replace hF := gj_ift c52 hF
    refine gj_sub [(0, jR 79), (1, jI l1), (2, jI l2)] ⟨rfl, rfl, rfl, trivial⟩ ?_
    exact t_J_X12_wordHere_99 hst hrec2 l1 l2 hF
  · -- 55
    replace hF := gj_iff c52 hF
    refine gj_iload_n (q := 56) (gj_dk okX12_wordHere 30 rfl) rfl rfl ?_
    refine gj_aload_n (q := 57) (gj_dk okX12_wordHere 31 rfl) rfl rfl ?_
    refine gj_gI (q := 60) (j := 4) (gj_dk okX12_wordHere 32 rfl) ff_X12_177 (sh79 hst) (by decide) rfl rfl ?_
    refine gj_icmp_ge (q := 63) (tgt := 99) (gj_dk okX12_wordHere 33 rfl) (by decide) rfl (fun c60 => ?_) (fun c60 => ?_)
    · -- 99
      replace hF := gj_ift c60 hF
      refine gj_sub [(0, jR 79), (1, jI l1), (2, jI l2)] ⟨rfl, rfl, rfl, trivial⟩ ?_
      exact t_J_X12_wordHere_99 hst hrec2 l1 l2 hF
    · -- 63
      replace hF := gj_iff c60 hF
      refine gj_aload_n (q := 64) (gj_dk okX12_wordHere 34 rfl) rfl rfl ?_
      refine gj_gR (q := 67) (j := 1) (gj_dk okX12_wordHere 35 rfl) ff_X12_13 (sh79 hst) (by decide) rfl (rf79_1 hst) rfl ?_
      refine gj_iload_n (q := 68) (gj_dk okX12_wordHere 36 rfl) rfl rfl ?_
      obtain ⟨b2, hF⟩ := gj_ckd hF
      refine gj_bald (q := 69) (gj_dk okX12_wordHere 37 rfl) (sh81 hst) b2.1 b2.2 rfl ?_
      refine gj_aload_n (q := 70) (gj_dk okX12_wordHere 38 rfl) rfl rfl ?_
      refine gj_gR (q := 73) (j := 19) (gj_dk okX12_wordHere 39 rfl) ff_X12_73 (sh79 hst) (by decide) rfl (rf79_19 hst) rfl ?_
      refine gj_iload_n (q := 74) (gj_dk okX12_wordHere 40 rfl) rfl rfl ?_
      obtain ⟨b3, hF⟩ := gj_ckd hF
      refine gj_aald (q := 75) (w := (-2 - ((l1).toNat : Int))) (gj_dk okX12_wordHere 41 rfl) (sh107 hst) (by decide) b3.1 b3.2 (rf107 hst b3) rfl ?_
      refine gj_iload_n (q := 76) (gj_dk okX12_wordHere 42 rfl) rfl rfl ?_
      refine gj_aload_n (q := 77) (gj_dk okX12_wordHere 43 rfl) rfl rfl ?_
      refine gj_gI (q := 80) (j := 3) (gj_dk okX12_wordHere 44 rfl) ff_X12_180 (sh79 hst) (by decide) rfl rfl ?_
      refine gj_isub (q := 81) (gj_dk okX12_wordHere 45 rfl) rfl ?_
      obtain ⟨b4, hF⟩ := gj_ckd hF
      refine gj_callT (q := 84) [jI (gj_w (l3 - (M 79 3)))] (j := (l1).toNat) (by omega) rfl rfl (c_J0_charAt (by omega) rfl b4.1 b4.2) (gj_dk okX12_wordHere 46 rfl) ml_X12_197 me_J0_charAt_5068e rfl (gj_nm rfl) rfl (gj_kI fun x S2 M2 h => ?_)
      obtain ⟨e, eS, eM⟩ := h; subst eS; subst eM; subst e
      refine gj_icmp_ne (q := 87) (tgt := 91) (gj_dk okX12_wordHere 47 rfl) (by decide) rfl (fun c84 => ?_) (fun c84 => ?_)
      · -- 91
        replace hF := gj_iff c84 hF
        refine gj_iconst (q := 92) (gj_dk okX12_wordHere 50 rfl) (by decide) rfl ?_
        refine gj_sub [(0, jR 79), (1, jI l1), (3, jI l3)] ⟨rfl, rfl, rfl, trivial⟩ ?_
        exact t_J_X12_wordHere_92 hst hrec2 hrec51 l1 l3 0 hF
      · -- 87
        replace hF := gj_ift c84 hF
        refine gj_iconst (q := 88) (gj_dk okX12_wordHere 48 rfl) (by decide) rfl ?_
        refine gj_goto (tgt := 92) (gj_dk okX12_wordHere 49 rfl) (by decide) ?_
        refine gj_sub [(0, jR 79), (1, jI l1), (3, jI l3)] ⟨rfl, rfl, rfl, trivial⟩ ?_
        exact t_J_X12_wordHere_92 hst hrec2 hrec51 l1 l3 1 hF
theorem t_L_X12_wordHere_51 (hst : gj_Stat S) {r : Int} {rec2 : Int → Option (Int)} (hrec2 : ∀ (l1 : Int), rec2 l1 = some r → gj_W G l 5 0 0 yX12_wordHere cX12_wordHere 4 (some .int) (gj_qI fun x S' M' => r = x ∧ S = S' ∧ M = M') 0 0 2 [(0, jR 79), (1, jI l1)] [] S M) : ∀ (m : Nat) (l1 : Int) (l2 : Int) (l3 : Int), gj_it (fun _ _ _ => none) (B_X12_wordHere_51 M rec2) m l1 l2 l3 = some r → gj_W G l 5 0 0 yX12_wordHere cX12_wordHere 4 (some .int) (gj_qI fun x S' M' => r = x ∧ S = S' ∧ M = M') 0 0 51 [(0, jR 79), (1, jI l1), (2, jI l2), (3, jI l3)] [] S M := by
  intro m
  induction m with
  | zero => intro l1 l2 l3 hF; cases (show (none : Option (Int)) = some r from hF)
  | succ m ih => intro l1 l2 l3 hF; exact t_B_X12_wordHere_51 hst hrec2 (fun l1 l2 l3 h => ih l1 l2 l3 h) l1 l2 l3 hF
set_option maxHeartbeats 4000000 in
set_option maxRecDepth 20000 in
theorem t_J_X12_wordHere_45 (hst : gj_Stat S) {r : Int} {rec2 : Int → Option (Int)} (hrec2 : ∀ (l1 : Int), rec2 l1 = some r → gj_W G l 5 0 0 yX12_wordHere cX12_wordHere 4 (some .int) (gj_qI fun x S' M' => r = x ∧ S = S' ∧ M = M') 0 0 2 [(0, jR 79), (1, jI l1)] [] S M) (l1 s0 : Int) (hF : J_X12_wordHere_45 M rec2 l1 s0 = some r) : gj_W G l 5 0 0 yX12_wordHere cX12_wordHere 4 (some .int) (gj_qI fun x S' M' => r = x ∧ S = S' ∧ M = M') 0 0 45 [(0, jR 79), (1, jI l1)] [jI s0] S M := by
  unfold J_X12_wordHere_45 at hF
  refine gj_istore_n (q := 46) (gj_dk okX12_wordHere 24 rfl) (by decide) rfl ?_
  refine gj_aload_n (q := 47) (gj_dk okX12_wordHere 25 rfl) rfl rfl ?_
  refine gj_gI (q := 50) (j := 3) (gj_dk okX12_wordHere 26 rfl) ff_X12_180 (sh79 hst) (by decide) rfl rfl ?_
  refine gj_istore_n (q := 51) (gj_dk okX12_wordHere 27 rfl) (by decide) rfl ?_
  refine gj_sub [(0, jR 79), (1, jI l1), (2, jI s0), (3, jI (M 79 3))] ⟨rfl, rfl, rfl, rfl, trivial⟩ ?_
  exact t_L_X12_wordHere_51 hst hrec2 gj_fu l1 s0 (M 79 3) hF
set_option maxHeartbeats 4000000 in
set_option maxRecDepth 20000 in
theorem t_B_X12_wordHere_2 (hst : gj_Stat S) {r : Int} {rec2 : Int → Option (Int)} (hrec2 : ∀ (l1 : Int), rec2 l1 = some r → gj_W G l 5 0 0 yX12_wordHere cX12_wordHere 4 (some .int) (gj_qI fun x S' M' => r = x ∧ S = S' ∧ M = M') 0 0 2 [(0, jR 79), (1, jI l1)] [] S M) (l1 : Int) (hF : B_X12_wordHere_2 M rec2 l1 = some r) : gj_W G l 5 0 0 yX12_wordHere cX12_wordHere 4 (some .int) (gj_qI fun x S' M' => r = x ∧ S = S' ∧ M = M') 0 0 2 [(0, jR 79), (1, jI l1)] [] S M := by
  unfold B_X12_wordHere_2 at hF
  refine gj_iload_n (q := 3) (gj_dk okX12_wordHere 2 rfl) rfl rfl ?_
  refine gj_bipush (q := 5) (gj_dk okX12_wordHere 3 rfl) (by decide) rfl rfl ?_
  refine gj_icmp_ge (q := 8) (tgt := 111) (gj_dk okX12_wordHere 4 rfl) (by decide) rfl (fun c5 => ?_) (fun c5 => ?_)
  · -- 111
    replace hF := gj_ift c5 hF
    refine gj_iconst (q := 112) (gj_dk okX12_wordHere 60 rfl) (by decide) rfl ?_
    cases hF
    exact gj_iret (gj_dk okX12_wordHere 61 rfl) rfl ⟨_, rfl, rfl, rfl, rfl⟩
  · -- 8
    replace hF := gj_iff c5 hF
    refine gj_aload_n (q := 9) (gj_dk okX12_wordHere 5 rfl) rfl rfl ?_
    refine gj_gI (q := 12) (j := 3) (gj_dk okX12_wordHere 6 rfl) ff_X12_180 (sh79 hst) (by decide) rfl rfl ?_
    refine gj_aload_n (q := 13) (gj_dk okX12_wordHere 7 rfl) rfl rfl ?_
    refine gj_gI (q := 16) (j := 2) (gj_dk okX12_wordHere 8 rfl) ff_X12_162 (sh79 hst) (by decide) rfl rfl ?_
    refine gj_icmp_ge (q := 19) (tgt := 44) (gj_dk okX12_wordHere 9 rfl) (by decide) rfl (fun c16 => ?_) (fun c16 => ?_)
    · -- 44
      replace hF := gj_ift c16 hF
      refine gj_iconst (q := 45) (gj_dk okX12_wordHere 23 rfl) (by decide) rfl ?_
      refine gj_sub [(0, jR 79), (1, jI l1)] ⟨rfl, rfl, trivial⟩ ?_
      exact t_J_X12_wordHere_45 hst hrec2 l1 0 hF
    · -- 19
      replace hF := gj_iff c16 hF
      refine gj_aload_n (q := 20) (gj_dk okX12_wordHere 10 rfl) rfl rfl ?_
      refine gj_gI (q := 23) (j := 4) (gj_dk okX12_wordHere 11 rfl) ff_X12_177 (sh79 hst) (by decide) rfl rfl ?_
      refine gj_aload_n (q := 24) (gj_dk okX12_wordHere 12 rfl) rfl rfl ?_
      refine gj_gI (q := 27) (j := 3) (gj_dk okX12_wordHere 13 rfl) ff_X12_180 (sh79 hst) (by decide) rfl rfl ?_
      refine gj_isub (q := 28) (gj_dk okX12_wordHere 14 rfl) rfl ?_
      refine gj_aload_n (q := 29) (gj_dk okX12_wordHere 15 rfl) rfl rfl ?_
      refine gj_gR (q := 32) (j := 19) (gj_dk okX12_wordHere 16 rfl) ff_X12_73 (sh79 hst) (by decide) rfl (rf79_19 hst) rfl ?_
      refine gj_iload_n (q := 33) (gj_dk okX12_wordHere 17 rfl) rfl rfl ?_
      obtain ⟨b1, hF⟩ := gj_ckd hF
      refine gj_aald (q := 34) (w := (-2 - ((l1).toNat : Int))) (gj_dk okX12_wordHere 18 rfl) (sh107 hst) (by decide) b1.1 b1.2 (rf107 hst b1) rfl ?_
      refine gj_callT (q := 37) [] (j := (l1).toNat) (by omega) rfl rfl (c_J0_length (by omega) rfl) (gj_dk okX12_wordHere 19 rfl) ml_X12_193 me_J0_length_8abf5 rfl (gj_nm rfl) rfl (gj_kI fun x S2 M2 h => ?_)
      obtain ⟨e, eS, eM⟩ := h; subst eS; subst eM; subst e
      refine gj_icmp_ne (q := 40) (tgt := 44) (gj_dk okX12_wordHere 20 rfl) (by decide) rfl (fun c37 => ?_) (fun c37 => ?_)
      · -- 44
        replace hF := gj_iff c37 hF
        refine gj_iconst (q := 45) (gj_dk okX12_wordHere 23 rfl) (by decide) rfl ?_
        refine gj_sub [(0, jR 79), (1, jI l1)] ⟨rfl, rfl, trivial⟩ ?_
        exact t_J_X12_wordHere_45 hst hrec2 l1 0 hF
      · -- 40
        replace hF := gj_ift c37 hF
        refine gj_iconst (q := 41) (gj_dk okX12_wordHere 21 rfl) (by decide) rfl ?_
        refine gj_goto (tgt := 45) (gj_dk okX12_wordHere 22 rfl) (by decide) ?_
        refine gj_sub [(0, jR 79), (1, jI l1)] ⟨rfl, rfl, trivial⟩ ?_
        exact t_J_X12_wordHere_45 hst hrec2 l1 1 hF
theorem t_L_X12_wordHere_2 (hst : gj_Stat S) {r : Int} : ∀ (m : Nat) (l1 : Int), gj_it (fun _ => none) (B_X12_wordHere_2 M) m l1 = some r → gj_W G l 5 0 0 yX12_wordHere cX12_wordHere 4 (some .int) (gj_qI fun x S' M' => r = x ∧ S = S' ∧ M = M') 0 0 2 [(0, jR 79), (1, jI l1)] [] S M := by
  intro m
  induction m with
  | zero => intro l1 hF; cases (show (none : Option (Int)) = some r from hF)
  | succ m ih => intro l1 hF; exact t_B_X12_wordHere_2 hst (fun l1 h => ih l1 h) l1 hF
set_option maxHeartbeats 4000000 in
set_option maxRecDepth 20000 in
theorem t_X12_wordHere (hst : gj_Stat S) {r : Int} (hF : F_X12_wordHere M = some r) : gj_C G l 5 0 0 yX12_wordHere cX12_wordHere 4 (some .int) [jR 79] S M (gj_qI fun x S' M' => r = x ∧ S = S' ∧ M = M') := by
  refine gj_Cof (by decide +kernel) (Nat.le_of_ble_eq_true rfl) ?_
  change gj_W G l 5 0 0 yX12_wordHere cX12_wordHere 4 (some .int) (gj_qI fun x S' M' => r = x ∧ S = S' ∧ M = M') 0 0 0 [(0, jR 79)] [] S M
  unfold F_X12_wordHere at hF
  refine gj_iconst (q := 1) (gj_dk okX12_wordHere 0 rfl) (by decide) rfl ?_
  refine gj_istore_n (q := 2) (gj_dk okX12_wordHere 1 rfl) (by decide) rfl ?_
  refine gj_sub [(0, jR 79), (1, jI 0)] ⟨rfl, rfl, trivial⟩ ?_
  exact t_L_X12_wordHere_2 hst gj_fu 0 hF
def F_X12_closes (M : gj_M) : Option (Int × gj_M) :=
  (if M 79 2 ≤ M 79 3 then gj_bnd2 (F_X12_passes 0 M) (fun x1 M2 => (some ((x1, M2)))) else gj_chk (0 ≤ M 79 3 ∧ M 79 3 < 500) ((if M 81 (M 79 3) = 59 then gj_bnd2 (F_X12_passes 1 M) (fun x6 M7 => (some ((x6, M7)))) else gj_bnd2 (F_X12_passes 0 M) (fun x4 M5 => (some ((x4, M5)))))))
set_option maxHeartbeats 4000000 in
set_option maxRecDepth 20000 in
theorem t_X12_closes (hst : gj_Stat S) {r : Int × gj_M} (hF : F_X12_closes M = some r) : gj_C G l 4 0 0 yX12_closes cX12_closes 1 (some .boolean) [jR 79] S M (gj_qI fun x S' M' => (x = 0 ∨ x = 1) ∧ r.1 = x ∧ S = S' ∧ r.2 = M') := by
  refine gj_Cof (by decide +kernel) (Nat.le_of_ble_eq_true rfl) ?_
  change gj_W G l 4 0 0 yX12_closes cX12_closes 1 (some .boolean) (gj_qI fun x S' M' => (x = 0 ∨ x = 1) ∧ r.1 = x ∧ S = S' ∧ r.2 = M') 0 0 0 [(0, jR 79)] [] S M
  unfold F_X12_closes at hF
  refine gj_aload_n (q := 1) (gj_dk okX12_closes 0 rfl) rfl rfl ?_
  refine gj_aload_n (q := 2) (gj_dk okX12_closes 1 rfl) rfl rfl ?_
  refine gj_gI (q := 5) (j := 3) (gj_dk okX12_closes 2 rfl) ff_X12_180 (sh79 hst) (by decide) rfl rfl ?_
  refine gj_aload_n (q := 6) (gj_dk okX12_closes 3 rfl) rfl rfl ?_
  refine gj_gI (q := 9) (j := 2) (gj_dk okX12_closes 4 rfl) ff_X12_162 (sh79 hst) (by decide) rfl rfl ?_
  refine gj_icmp_ge (q := 12) (tgt := 30) (gj_dk okX12_closes 5 rfl) (by decide) rfl (fun c9 => ?_) (fun c9 => ?_)
  · -- 30
    replace hF := gj_ift c9 hF
    refine gj_iconst (q := 31) (gj_dk okX12_closes 15 rfl) (by decide) rfl ?_
    obtain ⟨x1, M2, hG, hF⟩ := gj_bnd2d hF
    refine gj_callV (q := 34) (z := 79) (ci := 10) [jI 0] rfl (t_X12_passes hst 0 hG) (gj_dk okX12_closes 16 rfl) ml_X12_201 me_X12_passes (sh79 hst) rfl (gj_nm rfl) rfl (gj_kI fun y S2 M2 h => ?_)
    obtain ⟨bx1, e, eS, eM⟩ := h; subst eS; subst eM; subst e; clear hG
    dsimp only at bx1 ⊢
    cases hF
    exact gj_zret (gj_dk okX12_closes 17 rfl) rfl bx1 ⟨_, rfl, bx1, rfl, rfl, rfl⟩
  · -- 12
    replace hF := gj_iff c9 hF
    refine gj_aload_n (q := 13) (gj_dk okX12_closes 6 rfl) rfl rfl ?_
    refine gj_gR (q := 16) (j := 1) (gj_dk okX12_closes 7 rfl) ff_X12_13 (sh79 hst) (by decide) rfl (rf79_1 hst) rfl ?_
    refine gj_aload_n (q := 17) (gj_dk okX12_closes 8 rfl) rfl rfl ?_
    refine gj_gI (q := 20) (j := 3) (gj_dk okX12_closes 9 rfl) ff_X12_180 (sh79 hst) (by decide) rfl rfl ?_
    obtain ⟨b3, hF⟩ := gj_ckd hF
    refine gj_bald (q := 21) (gj_dk okX12_closes 10 rfl) (sh81 hst) b3.1 b3.2 rfl ?_
    refine gj_bipush (q := 23) (gj_dk okX12_closes 11 rfl) (by decide) rfl rfl ?_
    refine gj_icmp_ne (q := 26) (tgt := 30) (gj_dk okX12_closes 12 rfl) (by decide) rfl (fun c23 => ?_) (fun c23 => ?_)
    · -- 30
      replace hF := gj_iff c23 hF
      refine gj_iconst (q := 31) (gj_dk okX12_closes 15 rfl) (by decide) rfl ?_
      obtain ⟨x4, M5, hG, hF⟩ := gj_bnd2d hF
      refine gj_callV (q := 34) (z := 79) (ci := 10) [jI 0] rfl (t_X12_passes hst 0 hG) (gj_dk okX12_closes 16 rfl) ml_X12_201 me_X12_passes (sh79 hst) rfl (gj_nm rfl) rfl (gj_kI fun y S2 M2 h => ?_)
      obtain ⟨bx4, e, eS, eM⟩ := h; subst eS; subst eM; subst e; clear hG
      dsimp only at bx4 ⊢
      cases hF
      exact gj_zret (gj_dk okX12_closes 17 rfl) rfl bx4 ⟨_, rfl, bx4, rfl, rfl, rfl⟩
    · -- 26
      replace hF := gj_ift c23 hF
      refine gj_iconst (q := 27) (gj_dk okX12_closes 13 rfl) (by decide) rfl ?_
      refine gj_goto (tgt := 31) (gj_dk okX12_closes 14 rfl) (by decide) ?_
      obtain ⟨x6, M7, hG, hF⟩ := gj_bnd2d hF
      refine gj_callV (q := 34) (z := 79) (ci := 10) [jI 1] rfl (t_X12_passes hst 1 hG) (gj_dk okX12_closes 16 rfl) ml_X12_201 me_X12_passes (sh79 hst) rfl (gj_nm rfl) rfl (gj_kI fun y S2 M2 h => ?_)
      obtain ⟨bx6, e, eS, eM⟩ := h; subst eS; subst eM; subst e; clear hG
      dsimp only at bx6 ⊢
      cases hF
      exact gj_zret (gj_dk okX12_closes 17 rfl) rfl bx6 ⟨_, rfl, bx6, rfl, rfl, rfl⟩
def J_X12_into_92 (z1 n1 : Int) (l2 l3 l4 : Int) (M : gj_M) : Option (Int × gj_M) :=
  gj_letI (f_X12_in (M 79 6) l3 l4 M) (fun x5 => gj_bnd2 (F_X12_passes x5 M) (fun x6 M7 => (if x6 = 0 then (some ((0, M7))) else gj_chk (0 ≤ l2 ∧ l2 < n1) (gj_let (gj_up M7 z1 l2 (M7 79 6)) (fun M9 => (some ((1, M9))))))))
def J_X12_into_83 (z1 n1 : Int) (rec30 : Int → Int → Int → Int → gj_M → Option (Int × gj_M)) (l2 l3 l4 l5 s1 : Int) (M : gj_M) : Option (Int × gj_M) :=
  gj_let (gj_up M 79 6 s1) (fun M10 => rec30 l2 l3 l4 (gj_w (l5 + 1)) M10)
def B_X12_into_30 (z1 n1 : Int) (rec30 : Int → Int → Int → Int → gj_M → Option (Int × gj_M)) (l2 l3 l4 l5 : Int) (M : gj_M) : Option (Int × gj_M) :=
  (if M 79 6 = -1 then (J_X12_into_92 z1 n1 l2 l3 l4 M) else (if M 79 4 ≤ l5 then (J_X12_into_92 z1 n1 l2 l3 l4 M) else (if M 79 6 ≤ 9999 then gj_chk (0 ≤ l5 ∧ l5 < 500) ((J_X12_into_83 z1 n1 rec30 l2 l3 l4 l5 (gj_w ((gj_w ((gj_w (10 * (M 79 6))) + (M 81 l5))) - 48)) M)) else (J_X12_into_83 z1 n1 rec30 l2 l3 l4 l5 (M 79 6) M))))
def J_X12_into_21 (z1 n1 : Int) (l2 l3 l4 s1 : Int) (M : gj_M) : Option (Int × gj_M) :=
  gj_let (gj_up M 79 6 s1) (fun M3 => (gj_it (fun _ _ _ _ _ => none) (B_X12_into_30 z1 n1) gj_fu l2 l3 l4 (M3 79 3) M3))
def F_X12_into (z1 : Int) (n1 : Int) (a2 : Int) (a3 : Int) (a4 : Int) (M : gj_M) : Option (Int × gj_M) :=
  gj_bnd (F_X12_between (M 79 3) 48 57 M) (fun x1 => (if x1 = 0 then (J_X12_into_21 z1 n1 a2 a3 a4 (-1) M) else (J_X12_into_21 z1 n1 a2 a3 a4 0 M)))
set_option maxHeartbeats 4000000 in
set_option maxRecDepth 20000 in
theorem t_J_X12_into_92 (hst : gj_Stat S) {z1 n1 : Int} (hz1 : S.2.1 z1 = (0, n1)) (hz1p : 0 ≤ z1) (hz1n : 0 ≤ n1 ∧ n1 < 2147483648) {r : Int × gj_M} (l2 l3 l4 : Int) (M : gj_M) (hF : J_X12_into_92 z1 n1 l2 l3 l4 M = some r) : gj_W G l 4 0 0 yX12_into cX12_into 6 (some .boolean) (gj_qI fun x S' M' => (x = 0 ∨ x = 1) ∧ r.1 = x ∧ S = S' ∧ r.2 = M') 0 0 92 [(0, jR 79), (1, jR z1), (2, jI l2), (3, jI l3), (4, jI l4)] [] S M := by
  unfold J_X12_into_92 at hF
  refine gj_aload_n (q := 93) (gj_dk okX12_into 45 rfl) rfl rfl ?_
  refine gj_aload_n (q := 94) (gj_dk okX12_into 46 rfl) rfl rfl ?_
  refine gj_gI (q := 97) (j := 6) (gj_dk okX12_into 47 rfl) ff_X12_205 (sh79 hst) (by decide) rfl rfl ?_
  refine gj_i2l (q := 98) (gj_dk okX12_into 48 rfl) rfl ?_
  refine gj_iload_n (q := 99) (gj_dk okX12_into 49 rfl) rfl rfl ?_
  refine gj_i2l (q := 100) (gj_dk okX12_into 50 rfl) rfl ?_
  refine gj_iload (q := 102) (gj_dk okX12_into 51 rfl) rfl rfl ?_
  refine gj_i2l (q := 103) (gj_dk okX12_into 52 rfl) rfl ?_
  refine gj_callS (q := 106) [jL (M 79 6), jL l3, jL l4] rfl (t_X12_in hst (M 79 6) l3 l4 rfl) (gj_dk okX12_into 53 rfl) ml_X12_158 me_X12_in (gj_nm rfl) rfl (gj_kI fun x S2 M2 h => ?_)
  obtain ⟨bz, e, eS, eM⟩ := h; subst eS; subst eM; subst e
  refine gj_stpZ bz hF (fun x5 bx5 hF => ?_)
  obtain ⟨x6, M7, hG, hF⟩ := gj_bnd2d hF
  refine gj_callV (q := 109) (z := 79) (ci := 10) [jI x5] rfl (t_X12_passes hst x5 hG) (gj_dk okX12_into 54 rfl) ml_X12_201 me_X12_passes (sh79 hst) rfl (gj_nm rfl) rfl (gj_kI fun y S2 M2 h => ?_)
  obtain ⟨bx6, e, eS, eM⟩ := h; subst eS; subst eM; subst e; clear hG
  dsimp only at bx6 ⊢
  refine gj_if_ne (q := 112) (tgt := 114) (gj_dk okX12_into 55 rfl) (by decide) rfl (fun c109 => ?_) (fun c109 => ?_)
  · -- 114
    replace hF := gj_iff c109 hF
    refine gj_aload_n (q := 115) (gj_dk okX12_into 58 rfl) rfl rfl ?_
    refine gj_iload_n (q := 116) (gj_dk okX12_into 59 rfl) rfl rfl ?_
    refine gj_aload_n (q := 117) (gj_dk okX12_into 60 rfl) rfl rfl ?_
    refine gj_gI (q := 120) (j := 6) (gj_dk okX12_into 61 rfl) ff_X12_205 (sh79 hst) (by decide) rfl rfl ?_
    obtain ⟨b8, hF⟩ := gj_ckd hF
    refine gj_iast (q := 121) (gj_dk okX12_into 62 rfl) hz1 b8.1 b8.2 rfl ?_
    refine gj_stp hF (fun M9 hF => ?_)
    refine gj_iconst (q := 122) (gj_dk okX12_into 63 rfl) (by decide) rfl ?_
    cases hF
    exact gj_zret (gj_dk okX12_into 64 rfl) rfl (by decide) ⟨_, rfl, (by decide), rfl, rfl, rfl⟩
  · -- 112
    replace hF := gj_ift c109 hF
    refine gj_iconst (q := 113) (gj_dk okX12_into 56 rfl) (by decide) rfl ?_
    cases hF
    exact gj_zret (gj_dk okX12_into 57 rfl) rfl (by decide) ⟨_, rfl, (by decide), rfl, rfl, rfl⟩
set_option maxHeartbeats 4000000 in
set_option maxRecDepth 20000 in
theorem t_J_X12_into_83 (hst : gj_Stat S) {z1 n1 : Int} (hz1 : S.2.1 z1 = (0, n1)) (hz1p : 0 ≤ z1) (hz1n : 0 ≤ n1 ∧ n1 < 2147483648) {r : Int × gj_M} {rec30 : Int → Int → Int → Int → gj_M → Option (Int × gj_M)} (hrec30 : ∀ (l2 l3 l4 l5 : Int) (M : gj_M), rec30 l2 l3 l4 l5 M = some r → gj_W G l 4 0 0 yX12_into cX12_into 6 (some .boolean) (gj_qI fun x S' M' => (x = 0 ∨ x = 1) ∧ r.1 = x ∧ S = S' ∧ r.2 = M') 0 0 30 [(0, jR 79), (1, jR z1), (2, jI l2), (3, jI l3), (4, jI l4), (5, jI l5)] [] S M) (l2 l3 l4 l5 s1 : Int) (M : gj_M) (hF : J_X12_into_83 z1 n1 rec30 l2 l3 l4 l5 s1 M = some r) : gj_W G l 4 0 0 yX12_into cX12_into 6 (some .boolean) (gj_qI fun x S' M' => (x = 0 ∨ x = 1) ∧ r.1 = x ∧ S = S' ∧ r.2 = M') 0 0 83 [(0, jR 79), (1, jR z1), (2, jI l2), (3, jI l3), (4, jI l4), (5, jI l5)] [jI s1, jR 79] S M := by
  unfold J_X12_into_83 at hF
  refine gj_pfI (q := 86) (j := 6) (gj_dk okX12_into 42 rfl) ff_X12_205 (sh79 hst) (by decide) rfl rfl ?_
  refine gj_stp hF (fun M10 hF => ?_)
  refine gj_iinc (q := 89) (v := gj_w (l5 + 1)) (gj_dk okX12_into 43 rfl) rfl (by decide) rfl rfl ?_
  refine gj_goto (tgt := 30) (gj_dk okX12_into 44 rfl) (by decide) ?_
  refine gj_sub [(0, jR 79), (1, jR z1), (2, jI l2), (3, jI l3), (4, jI l4), (5, jI (gj_w (l5 + 1)))] ⟨rfl, rfl, rfl, rfl, rfl, rfl, trivial⟩ ?_
  exact hrec30 l2 l3 l4 (gj_w (l5 + 1)) M10 hF
set_option maxHeartbeats 4000000 in
set_option maxRecDepth 20000 in
theorem t_B_X12_into_30 (hst : gj_Stat S) {z1 n1 : Int} (hz1 : S.2.1 z1 = (0, n1)) (hz1p : 0 ≤ z1) (hz1n : 0 ≤ n1 ∧ n1 < 2147483648) {r : Int × gj_M} {rec30 : Int → Int → Int → Int → gj_M → Option (Int × gj_M)} (hrec30 : ∀ (l2 l3 l4 l5 : Int) (M : gj_M), rec30 l2 l3 l4 l5 M = some r → gj_W G l 4 0 0 yX12_into cX12_into 6 (some .boolean) (gj_qI fun x S' M' => (x = 0 ∨ x = 1) ∧ r.1 = x ∧ S = S' ∧ r.2 = M') 0 0 30 [(0, jR 79), (1, jR z1), (2, jI l2), (3, jI l3), (4, jI l4), (5, jI l5)] [] S M) (l2 l3 l4 l5 : Int) (M : gj_M) (hF : B_X12_into_30 z1 n1 rec30 l2 l3 l4 l5 M = some r) : gj_W G l 4 0 0 yX12_into cX12_into 6 (some .boolean) (gj_qI fun x S' M' => (x = 0 ∨ x = 1) ∧ r.1 = x ∧ S = S' ∧ r.2 = M') 0 0 30 [(0, jR 79), (1, jR z1), (2, jI l2), (3, jI l3), (4, jI l4), (5, jI l5)] [] S M := by
  unfold B_X12_into_30 at hF
  refine gj_aload_n (q := 31) (gj_dk okX12_into 15 rfl) rfl rfl ?_
  refine gj_gI (q := 34) (j := 6) (gj_dk okX12_into 16 rfl) ff_X12_205 (sh79 hst) (by decide) rfl rfl ?_
  refine gj_iconst (q := 35) (gj_dk okX12_into 17 rfl) (by decide) rfl ?_
  refine gj_icmp_eq (q := 38) (tgt := 92) (gj_dk okX12_into 18 rfl) (by decide) rfl (fun c35 => ?_) (fun c35 => ?_)
  · -- 92
    replace hF := gj_ift c35 hF
    refine gj_sub [(0, jR 79), (1, jR z1), (2, jI l2), (3, jI l3), (4, jI l4)] ⟨rfl, rfl, rfl, rfl, rfl, trivial⟩ ?_
    exact t_J_X12_into_92 hst hz1 hz1p hz1n l2 l3 l4 M hF
  · -- 38
    replace hF := gj_iff c35 hF
    refine gj_iload (q := 40) (gj_dk okX12_into 19 rfl) rfl rfl ?_
    refine gj_aload_n (q := 41) (gj_dk okX12_into 20 rfl) rfl rfl ?_
    refine gj_gI (q := 44) (j := 4) (gj_dk okX12_into 21 rfl) ff_X12_177 (sh79 hst) (by decide) rfl rfl ?_
    refine gj_icmp_ge (q := 47) (tgt := 92) (gj_dk okX12_into 22 rfl) (by decide) rfl (fun c44 => ?_) (fun c44 => ?_)
    · -- 92
      replace hF := gj_ift c44 hF
      refine gj_sub [(0, jR 79), (1, jR z1), (2, jI l2), (3, jI l3), (4, jI l4)] ⟨rfl, rfl, rfl, rfl, rfl, trivial⟩ ?_
      exact t_J_X12_into_92 hst hz1 hz1p hz1n l2 l3 l4 M hF
    · -- 47
      replace hF := gj_iff c44 hF
      refine gj_aload_n (q := 48) (gj_dk okX12_into 23 rfl) rfl rfl ?_
      refine gj_aload_n (q := 49) (gj_dk okX12_into 24 rfl) rfl rfl ?_
      refine gj_gI (q := 52) (j := 6) (gj_dk okX12_into 25 rfl) ff_X12_205 (sh79 hst) (by decide) rfl rfl ?_
      refine gj_sipush (q := 55) (gj_dk okX12_into 26 rfl) (by decide) rfl rfl ?_
      refine gj_icmp_le (q := 58) (tgt := 65) (gj_dk okX12_into 27 rfl) (by decide) rfl (fun c55 => ?_) (fun c55 => ?_)
      · -- 65
        replace hF := gj_ift c55 hF
        refine gj_bipush (q := 67) (gj_dk okX12_into 31 rfl) (by decide) rfl rfl ?_
        refine gj_aload_n (q := 68) (gj_dk okX12_into 32 rfl) rfl rfl ?_
        refine gj_gI (q := 71) (j := 6) (gj_dk okX12_into 33 rfl) ff_X12_205 (sh79 hst) (by decide) rfl rfl ?_
        refine gj_imul (q := 72) (gj_dk okX12_into 34 rfl) rfl ?_
        refine gj_aload_n (q := 73) (gj_dk okX12_into 35 rfl) rfl rfl ?_
        refine gj_gR (q := 76) (j := 1) (gj_dk okX12_into 36 rfl) ff_X12_13 (sh79 hst) (by decide) rfl (rf79_1 hst) rfl ?_
        refine gj_iload (q := 78) (gj_dk okX12_into 37 rfl) rfl rfl ?_
        obtain ⟨b4, hF⟩ := gj_ckd hF
        refine gj_bald (q := 79) (gj_dk okX12_into 38 rfl) (sh81 hst) b4.1 b4.2 rfl ?_
        refine gj_iadd (q := 80) (gj_dk okX12_into 39 rfl) rfl ?_
        refine gj_bipush (q := 82) (gj_dk okX12_into 40 rfl) (by decide) rfl rfl ?_
        refine gj_isub (q := 83) (gj_dk okX12_into 41 rfl) rfl ?_
        refine gj_sub [(0, jR 79), (1, jR z1), (2, jI l2), (3, jI l3), (4, jI l4), (5, jI l5)] ⟨rfl, rfl, rfl, rfl, rfl, rfl, trivial⟩ ?_
        exact t_J_X12_into_83 hst hz1 hz1p hz1n hrec30 l2 l3 l4 l5 (gj_w ((gj_w ((gj_w (10 * (M 79 6))) + (M 81 l5))) - 48)) M hF
      · -- 58
        replace hF := gj_iff c55 hF
        refine gj_aload_n (q := 59) (gj_dk okX12_into 28 rfl) rfl rfl ?_
        refine gj_gI (q := 62) (j := 6) (gj_dk okX12_into 29 rfl) ff_X12_205 (sh79 hst) (by decide) rfl rfl ?_
        refine gj_goto (tgt := 83) (gj_dk okX12_into 30 rfl) (by decide) ?_
        refine gj_sub [(0, jR 79), (1, jR z1), (2, jI l2), (3, jI l3), (4, jI l4), (5, jI l5)] ⟨rfl, rfl, rfl, rfl, rfl, rfl, trivial⟩ ?_
        exact t_J_X12_into_83 hst hz1 hz1p hz1n hrec30 l2 l3 l4 l5 (M 79 6) M hF
theorem t_L_X12_into_30 (hst : gj_Stat S) {z1 n1 : Int} (hz1 : S.2.1 z1 = (0, n1)) (hz1p : 0 ≤ z1) (hz1n : 0 ≤ n1 ∧ n1 < 2147483648) {r : Int × gj_M} : ∀ (m : Nat) (l2 : Int) (l3 : Int) (l4 : Int) (l5 : Int) (M : gj_M), gj_it (fun _ _ _ _ _ => none) (B_X12_into_30 z1 n1) m l2 l3 l4 l5 M = some r → gj_W G l 4 0 0 yX12_into cX12_into 6 (some .boolean) (gj_qI fun x S' M' => (x = 0 ∨ x = 1) ∧ r.1 = x ∧ S = S' ∧ r.2 = M') 0 0 30 [(0, jR 79), (1, jR z1), (2, jI l2), (3, jI l3), (4, jI l4), (5, jI l5)] [] S M := by
  intro m
  induction m with
  | zero => intro l2 l3 l4 l5 M hF; cases (show (none : Option (Int × gj_M)) = some r from hF)
  | succ m ih => intro l2 l3 l4 l5 M hF; exact t_B_X12_into_30 hst hz1 hz1p hz1n (fun l2 l3 l4 l5 M h => ih l2 l3 l4 l5 M h) l2 l3 l4 l5 M hF
set_option maxHeartbeats 4000000 in
set_option maxRecDepth 20000 in
theorem t_J_X12_into_21 (hst : gj_Stat S) {z1 n1 : Int} (hz1 : S.2.1 z1 = (0, n1)) (hz1p : 0 ≤ z1) (hz1n : 0 ≤ n1 ∧ n1 < 2147483648) {r : Int × gj_M} (l2 l3 l4 s1 : Int) (M : gj_M) (hF : J_X12_into_21 z1 n1 l2 l3 l4 s1 M = some r) : gj_W G l 4 0 0 yX12_into cX12_into 6 (some .boolean) (gj_qI fun x S' M' => (x = 0 ∨ x = 1) ∧ r.1 = x ∧ S = S' ∧ r.2 = M') 0 0 21 [(0, jR 79), (1, jR z1), (2, jI l2), (3, jI l3), (4, jI l4)] [jI s1, jR 79] S M := by
  unfold J_X12_into_21 at hF
  refine gj_pfI (q := 24) (j := 6) (gj_dk okX12_into 11 rfl) ff_X12_205 (sh79 hst) (by decide) rfl rfl ?_
  refine gj_stp hF (fun M3 hF => ?_)
  refine gj_aload_n (q := 25) (gj_dk okX12_into 12 rfl) rfl rfl ?_
  refine gj_gI (q := 28) (j := 3) (gj_dk okX12_into 13 rfl) ff_X12_180 (sh79 hst) (by decide) rfl rfl ?_
  refine gj_istore (q := 30) (gj_dk okX12_into 14 rfl) (by decide) rfl ?_
  refine gj_sub [(0, jR 79), (1, jR z1), (2, jI l2), (3, jI l3), (4, jI l4), (5, jI (M3 79 3))] ⟨rfl, rfl, rfl, rfl, rfl, rfl, trivial⟩ ?_
  exact t_L_X12_into_30 hst hz1 hz1p hz1n gj_fu l2 l3 l4 (M3 79 3) M3 hF
set_option maxHeartbeats 4000000 in
set_option maxRecDepth 20000 in
theorem t_X12_into (hst : gj_Stat S) {z1 n1 : Int} (hz1 : S.2.1 z1 = (0, n1)) (hz1p : 0 ≤ z1) (hz1n : 0 ≤ n1 ∧ n1 < 2147483648) (a2 a3 a4 : Int) {r : Int × gj_M} (hF : F_X12_into z1 n1 a2 a3 a4 M = some r) : gj_C G l 4 0 0 yX12_into cX12_into 6 (some .boolean) [jR 79, jR z1, jI a2, jI a3, jI a4] S M (gj_qI fun x S' M' => (x = 0 ∨ x = 1) ∧ r.1 = x ∧ S = S' ∧ r.2 = M') := by
  refine gj_Cof (by decide +kernel) (Nat.le_of_ble_eq_true rfl) ?_
  change gj_W G l 4 0 0 yX12_into cX12_into 6 (some .boolean) (gj_qI fun x S' M' => (x = 0 ∨ x = 1) ∧ r.1 = x ∧ S = S' ∧ r.2 = M') 0 0 0 [(0, jR 79), (1, jR z1), (2, jI a2), (3, jI a3), (4, jI a4)] [] S M
  unfold F_X12_into at hF
  refine gj_aload_n (q := 1) (gj_dk okX12_into 0 rfl) rfl rfl ?_
  refine gj_aload_n (q := 2) (gj_dk okX12_into 1 rfl) rfl rfl ?_
  refine gj_aload_n (q := 3) (gj_dk okX12_into 2 rfl) rfl rfl ?_
  refine gj_gI (q := 6) (j := 3) (gj_dk okX12_into 3 rfl) ff_X12_180 (sh79 hst) (by decide) rfl rfl ?_
  refine gj_bipush (q := 8) (gj_dk okX12_into 4 rfl) (by decide) rfl rfl ?_
  refine gj_bipush (q := 10) (gj_dk okX12_into 5 rfl) (by decide) rfl rfl ?_
  obtain ⟨x1, hG, hF⟩ := gj_bndd hF
  refine gj_callV (q := 13) (z := 79) (ci := 10) [jI (M 79 3), jI 48, jI 57] rfl (t_X12_between hst (M 79 3) 48 57 hG) (gj_dk okX12_into 6 rfl) ml_X12_183 me_X12_between (sh79 hst) rfl (gj_nm rfl) rfl (gj_kI fun y S2 M2 h => ?_)
  obtain ⟨bx1, e, eS, eM⟩ := h; subst eS; subst eM; subst e; clear hG
  refine gj_if_eq (q := 16) (tgt := 20) (gj_dk okX12_into 7 rfl) (by decide) rfl (fun c13 => ?_) (fun c13 => ?_)
  · -- 20
    replace hF := gj_ift c13 hF
    refine gj_iconst (q := 21) (gj_dk okX12_into 10 rfl) (by decide) rfl ?_
    refine gj_sub [(0, jR 79), (1, jR z1), (2, jI a2), (3, jI a3), (4, jI a4)] ⟨rfl, rfl, rfl, rfl, rfl, trivial⟩ ?_
    exact t_J_X12_into_21 hst hz1 hz1p hz1n a2 a3 a4 (-1) M hF
  · -- 16
    replace hF := gj_iff c13 hF
    refine gj_iconst (q := 17) (gj_dk okX12_into 8 rfl) (by decide) rfl ?_
    refine gj_goto (tgt := 21) (gj_dk okX12_into 9 rfl) (by decide) ?_
    refine gj_sub [(0, jR 79), (1, jR z1), (2, jI a2), (3, jI a3), (4, jI a4)] ⟨rfl, rfl, rfl, rfl, rfl, trivial⟩ ?_
    exact t_J_X12_into_21 hst hz1 hz1p hz1n a2 a3 a4 0 M hF
def B_X12_nameHere_48 (M : gj_M) (rec48 : Int → Int → Option (Int)) (l1 l3 : Int) : Option (Int) :=
  (if M 79 4 ≤ l3 then (some (l1)) else gj_chk (0 ≤ l3 ∧ l3 < 500) (gj_letI (gj_wl ((gj_wl ((gj_wl ((gj_wl (32 * l1)) + (M 81 l3))) - 97)) + 1)) (fun x6 => rec48 x6 (gj_w (l3 + 1)))))
def F_X12_nameHere (M : gj_M) : Option (Int) :=
  gj_bnd (F_X12_between (M 79 3) 97 122 M) (fun x1 => (if x1 = 0 then (some (-1)) else (if 8 < gj_w ((M 79 4) - (M 79 3)) then (some (-1)) else gj_bnd (F_X12_wordHere M) (fun x3 => (if x3 = -1 then (gj_it (fun _ _ => none) (B_X12_nameHere_48 M) gj_fu 0 (M 79 3)) else (some (-1)))))))
set_option maxHeartbeats 4000000 in
set_option maxRecDepth 20000 in
theorem t_B_X12_nameHere_48 (hst : gj_Stat S) {r : Int} {rec48 : Int → Int → Option (Int)} (hrec48 : ∀ (l1 l3 : Int), rec48 l1 l3 = some r → gj_W G l 6 0 0 yX12_nameHere cX12_nameHere 4 (some .long) (gj_qL fun x S' M' => r = x ∧ S = S' ∧ M = M') 0 0 48 [(0, jR 79), (1, jL l1), (3, jI l3)] [] S M) (l1 l3 : Int) (hF : B_X12_nameHere_48 M rec48 l1 l3 = some r) : gj_W G l 6 0 0 yX12_nameHere cX12_nameHere 4 (some .long) (gj_qL fun x S' M' => r = x ∧ S = S' ∧ M = M') 0 0 48 [(0, jR 79), (1, jL l1), (3, jI l3)] [] S M := by
  unfold B_X12_nameHere_48 at hF
  refine gj_iload_n (q := 49) (gj_dk okX12_nameHere 25 rfl) rfl rfl ?_
  refine gj_aload_n (q := 50) (gj_dk okX12_nameHere 26 rfl) rfl rfl ?_
  refine gj_gI (q := 53) (j := 4) (gj_dk okX12_nameHere 27 rfl) ff_X12_177 (sh79 hst) (by decide) rfl rfl ?_
  refine gj_icmp_ge (q := 56) (tgt := 82) (gj_dk okX12_nameHere 28 rfl) (by decide) rfl (fun c53 => ?_) (fun c53 => ?_)
  · -- 82
    replace hF := gj_ift c53 hF
    refine gj_lload_n (q := 83) (gj_dk okX12_nameHere 45 rfl) rfl rfl ?_
    cases hF
    exact gj_lret (gj_dk okX12_nameHere 46 rfl) rfl ⟨_, rfl, rfl, rfl, rfl⟩
  · -- 56
    replace hF := gj_iff c53 hF
    refine gj_ldc2 (q := 59) (z := 32) (gj_dk okX12_nameHere 29 rfl) kl_X12_213 (by decide) rfl ?_
    refine gj_lload_n (q := 60) (gj_dk okX12_nameHere 30 rfl) rfl rfl ?_
    refine gj_lmul (q := 61) (gj_dk okX12_nameHere 31 rfl) rfl ?_
    refine gj_aload_n (q := 62) (gj_dk okX12_nameHere 32 rfl) rfl rfl ?_
    refine gj_gR (q := 65) (j := 1) (gj_dk okX12_nameHere 33 rfl) ff_X12_13 (sh79 hst) (by decide) rfl (rf79_1 hst) rfl ?_
    refine gj_iload_n (q := 66) (gj_dk okX12_nameHere 34 rfl) rfl rfl ?_
    obtain ⟨b5, hF⟩ := gj_ckd hF
    refine gj_bald (q := 67) (gj_dk okX12_nameHere 35 rfl) (sh81 hst) b5.1 b5.2 rfl ?_
    refine gj_i2l (q := 68) (gj_dk okX12_nameHere 36 rfl) rfl ?_
    refine gj_ladd (q := 69) (gj_dk okX12_nameHere 37 rfl) rfl ?_
    refine gj_ldc2 (q := 72) (z := 97) (gj_dk okX12_nameHere 38 rfl) kl_X12_215 (by decide) rfl ?_
    refine gj_lsub (q := 73) (gj_dk okX12_nameHere 39 rfl) rfl ?_
    refine gj_lconst (q := 74) (z := 1) (gj_dk okX12_nameHere 40 rfl) rfl (by decide) rfl ?_
    refine gj_ladd (q := 75) (gj_dk okX12_nameHere 41 rfl) rfl ?_
    refine gj_stpL hF (fun x6 hF => ?_)
    refine gj_lstore_n (q := 76) (gj_dk okX12_nameHere 42 rfl) (by decide) rfl ?_
    refine gj_iinc (q := 79) (v := gj_w (l3 + 1)) (gj_dk okX12_nameHere 43 rfl) rfl (by decide) rfl rfl ?_
    refine gj_goto (tgt := 48) (gj_dk okX12_nameHere 44 rfl) (by decide) ?_
    refine gj_sub [(0, jR 79), (1, jL x6), (3, jI (gj_w (l3 + 1)))] ⟨rfl, rfl, rfl, trivial⟩ ?_
    exact hrec48 x6 (gj_w (l3 + 1)) hF
theorem t_L_X12_nameHere_48 (hst : gj_Stat S) {r : Int} : ∀ (m : Nat) (l1 : Int) (l3 : Int), gj_it (fun _ _ => none) (B_X12_nameHere_48 M) m l1 l3 = some r → gj_W G l 6 0 0 yX12_nameHere cX12_nameHere 4 (some .long) (gj_qL fun x S' M' => r = x ∧ S = S' ∧ M = M') 0 0 48 [(0, jR 79), (1, jL l1), (3, jI l3)] [] S M := by
  intro m
  induction m with
  | zero => intro l1 l3 hF; cases (show (none : Option (Int)) = some r from hF)
  | succ m ih => intro l1 l3 hF; exact t_B_X12_nameHere_48 hst (fun l1 l3 h => ih l1 l3 h) l1 l3 hF
set_option maxHeartbeats 4000000 in
set_option maxRecDepth 20000 in
theorem t_X12_nameHere (hst : gj_Stat S) {r : Int} (hF : F_X12_nameHere M = some r) : gj_C G l 6 0 0 yX12_nameHere cX12_nameHere 4 (some .long) [jR 79] S M (gj_qL fun x S' M' => r = x ∧ S = S' ∧ M = M') := by
  refine gj_Cof (by decide +kernel) (Nat.le_of_ble_eq_true rfl) ?_
  change gj_W G l 6 0 0 yX12_nameHere cX12_nameHere 4 (some .long) (gj_qL fun x S' M' => r = x ∧ S = S' ∧ M = M') 0 0 0 [(0, jR 79)] [] S M
  unfold F_X12_nameHere at hF
  refine gj_aload_n (q := 1) (gj_dk okX12_nameHere 0 rfl) rfl rfl ?_
  refine gj_aload_n (q := 2) (gj_dk okX12_nameHere 1 rfl) rfl rfl ?_
  refine gj_gI (q := 5) (j := 3) (gj_dk okX12_nameHere 2 rfl) ff_X12_180 (sh79 hst) (by decide) rfl rfl ?_
  refine gj_bipush (q := 7) (gj_dk okX12_nameHere 3 rfl) (by decide) rfl rfl ?_
  refine gj_bipush (q := 9) (gj_dk okX12_nameHere 4 rfl) (by decide) rfl rfl ?_
  obtain ⟨x1, hG, hF⟩ := gj_bndd hF
  refine gj_callV (q := 12) (z := 79) (ci := 10) [jI (M 79 3), jI 97, jI 122] rfl (t_X12_between hst (M 79 3) 97 122 hG) (gj_dk okX12_nameHere 5 rfl) ml_X12_183 me_X12_between (sh79 hst) rfl (gj_nm rfl) rfl (gj_kI fun y S2 M2 h => ?_)
  obtain ⟨bx1, e, eS, eM⟩ := h; subst eS; subst eM; subst e; clear hG
  refine gj_if_eq (q := 15) (tgt := 37) (gj_dk okX12_nameHere 6 rfl) (by decide) rfl (fun c12 => ?_) (fun c12 => ?_)
  · -- 37
    replace hF := gj_ift c12 hF
    refine gj_ldc2 (q := 40) (z := -1) (gj_dk okX12_nameHere 18 rfl) kl_X12_211 (by decide) rfl ?_
    cases hF
    exact gj_lret (gj_dk okX12_nameHere 19 rfl) rfl ⟨_, rfl, rfl, rfl, rfl⟩
  · -- 15
    replace hF := gj_iff c12 hF
    refine gj_aload_n (q := 16) (gj_dk okX12_nameHere 7 rfl) rfl rfl ?_
    refine gj_gI (q := 19) (j := 4) (gj_dk okX12_nameHere 8 rfl) ff_X12_177 (sh79 hst) (by decide) rfl rfl ?_
    refine gj_aload_n (q := 20) (gj_dk okX12_nameHere 9 rfl) rfl rfl ?_
    refine gj_gI (q := 23) (j := 3) (gj_dk okX12_nameHere 10 rfl) ff_X12_180 (sh79 hst) (by decide) rfl rfl ?_
    refine gj_isub (q := 24) (gj_dk okX12_nameHere 11 rfl) rfl ?_
    refine gj_bipush (q := 26) (gj_dk okX12_nameHere 12 rfl) (by decide) rfl rfl ?_
    refine gj_icmp_gt (q := 29) (tgt := 37) (gj_dk okX12_nameHere 13 rfl) (by decide) rfl (fun c26 => ?_) (fun c26 => ?_)
    · -- 37
      replace hF := gj_ift c26 hF
      refine gj_ldc2 (q := 40) (z := -1) (gj_dk okX12_nameHere 18 rfl) kl_X12_211 (by decide) rfl ?_
      cases hF
      exact gj_lret (gj_dk okX12_nameHere 19 rfl) rfl ⟨_, rfl, rfl, rfl, rfl⟩
    · -- 29
      replace hF := gj_iff c26 hF
      refine gj_aload_n (q := 30) (gj_dk okX12_nameHere 14 rfl) rfl rfl ?_
      obtain ⟨x3, hG, hF⟩ := gj_bndd hF
      refine gj_callV (q := 33) (z := 79) (ci := 10) [] rfl (t_X12_wordHere hst  hG) (gj_dk okX12_nameHere 15 rfl) ml_X12_208 me_X12_wordHere (sh79 hst) rfl (gj_nm rfl) rfl (gj_kI fun y S2 M2 h => ?_)
      obtain ⟨e, eS, eM⟩ := h; subst eS; subst eM; subst e; clear hG
      refine gj_iconst (q := 34) (gj_dk okX12_nameHere 16 rfl) (by decide) rfl ?_
      refine gj_icmp_eq (q := 37) (tgt := 41) (gj_dk okX12_nameHere 17 rfl) (by decide) rfl (fun c34 => ?_) (fun c34 => ?_)
      · -- 41
        replace hF := gj_ift c34 hF
        refine gj_lconst (q := 42) (z := 0) (gj_dk okX12_nameHere 20 rfl) rfl (by decide) rfl ?_
        refine gj_lstore_n (q := 43) (gj_dk okX12_nameHere 21 rfl) (by decide) rfl ?_
        refine gj_aload_n (q := 44) (gj_dk okX12_nameHere 22 rfl) rfl rfl ?_
        refine gj_gI (q := 47) (j := 3) (gj_dk okX12_nameHere 23 rfl) ff_X12_180 (sh79 hst) (by decide) rfl rfl ?_
        refine gj_istore_n (q := 48) (gj_dk okX12_nameHere 24 rfl) (by decide) rfl ?_
        refine gj_sub [(0, jR 79), (1, jL 0), (3, jI (M 79 3))] ⟨rfl, rfl, rfl, trivial⟩ ?_
        exact t_L_X12_nameHere_48 hst gj_fu 0 (M 79 3) hF
      · -- 37
        replace hF := gj_iff c34 hF
        refine gj_ldc2 (q := 40) (z := -1) (gj_dk okX12_nameHere 18 rfl) kl_X12_211 (by decide) rfl ?_
        cases hF
        exact gj_lret (gj_dk okX12_nameHere 19 rfl) rfl ⟨_, rfl, rfl, rfl, rfl⟩
def J_X12_found_57 (M : gj_M) (rec7 : Int → Int → Option (Int)) (l1 l3 : Int) : Option (Int) :=
  rec7 l1 (gj_w (l3 + 1))
def J_X12_found_44 (M : gj_M) (l3 l4 : Int) : Option (Int) :=
  (some (gj_w ((gj_w (4 * l3)) + l4)))
def B_X12_found_15 (M : gj_M) (rec7 : Int → Int → Option (Int)) (rec15 : Int → Int → Int → Option (Int)) (l1 l3 l4 : Int) : Option (Int) :=
  gj_chk (0 ≤ l3 ∧ l3 < 2) ((if M 102 l3 ≤ l4 then (J_X12_found_57 M rec7 l1 l3) else gj_chk (0 ≤ gj_w ((gj_w (4 * l3)) + l4) ∧ gj_w ((gj_w (4 * l3)) + l4) < 8) ((if M 103 (gj_w ((gj_w (4 * l3)) + l4)) = l1 then (J_X12_found_44 M l3 l4) else rec15 l1 l3 (gj_w (l4 + 1))))))
def B_X12_found_7 (M : gj_M) (rec7 : Int → Int → Option (Int)) (l1 l3 : Int) : Option (Int) :=
  (if 2 ≤ l3 then (some (-1)) else (gj_it (fun _ _ _ => none) (B_X12_found_15 M rec7) gj_fu l1 l3 0))
def F_X12_found (M : gj_M) : Option (Int) :=
  gj_bnd (F_X12_nameHere M) (fun x1 => (gj_it (fun _ _ => none) (B_X12_found_7 M) gj_fu x1 0))
set_option maxHeartbeats 4000000 in
set_option maxRecDepth 20000 in
theorem t_J_X12_found_57 (hst : gj_Stat S) {r : Int} {rec7 : Int → Int → Option (Int)} (hrec7 : ∀ (l1 l3 : Int), rec7 l1 l3 = some r → gj_W G l 7 0 0 yX12_found cX12_found 5 (some .int) (gj_qI fun x S' M' => r = x ∧ S = S' ∧ M = M') 0 0 7 [(0, jR 79), (1, jL l1), (3, jI l3)] [] S M) (l1 l3 : Int) (hF : J_X12_found_57 M rec7 l1 l3 = some r) : gj_W G l 7 0 0 yX12_found cX12_found 5 (some .int) (gj_qI fun x S' M' => r = x ∧ S = S' ∧ M = M') 0 0 57 [(0, jR 79), (1, jL l1), (3, jI l3)] [] S M := by
  unfold J_X12_found_57 at hF
  refine gj_iinc (q := 60) (v := gj_w (l3 + 1)) (gj_dk okX12_found 37 rfl) rfl (by decide) rfl rfl ?_
  refine gj_goto (tgt := 7) (gj_dk okX12_found 38 rfl) (by decide) ?_
  refine gj_sub [(0, jR 79), (1, jL l1), (3, jI (gj_w (l3 + 1)))] ⟨rfl, rfl, rfl, trivial⟩ ?_
  exact hrec7 l1 (gj_w (l3 + 1)) hF
set_option maxHeartbeats 4000000 in
set_option maxRecDepth 20000 in
theorem t_J_X12_found_44 (hst : gj_Stat S) {r : Int} (l3 l4 : Int) (hF : J_X12_found_44 M l3 l4 = some r) : gj_W G l 7 0 0 yX12_found cX12_found 5 (some .int) (gj_qI fun x S' M' => r = x ∧ S = S' ∧ M = M') 0 0 44 [(3, jI l3), (4, jI l4)] [] S M := by
  unfold J_X12_found_44 at hF
  refine gj_iconst (q := 45) (gj_dk okX12_found 29 rfl) (by decide) rfl ?_
  refine gj_iload_n (q := 46) (gj_dk okX12_found 30 rfl) rfl rfl ?_
  refine gj_imul (q := 47) (gj_dk okX12_found 31 rfl) rfl ?_
  refine gj_iload (q := 49) (gj_dk okX12_found 32 rfl) rfl rfl ?_
  refine gj_iadd (q := 50) (gj_dk okX12_found 33 rfl) rfl ?_
  cases hF
  exact gj_iret (gj_dk okX12_found 34 rfl) rfl ⟨_, rfl, rfl, rfl, rfl⟩
set_option maxHeartbeats 4000000 in
set_option maxRecDepth 20000 in
theorem t_B_X12_found_15 (hst : gj_Stat S) {r : Int} {rec7 : Int → Int → Option (Int)} {rec15 : Int → Int → Int → Option (Int)} (hrec7 : ∀ (l1 l3 : Int), rec7 l1 l3 = some r → gj_W G l 7 0 0 yX12_found cX12_found 5 (some .int) (gj_qI fun x S' M' => r = x ∧ S = S' ∧ M = M') 0 0 7 [(0, jR 79), (1, jL l1), (3, jI l3)] [] S M) (hrec15 : ∀ (l1 l3 l4 : Int), rec15 l1 l3 l4 = some r → gj_W G l 7 0 0 yX12_found cX12_found 5 (some .int) (gj_qI fun x S' M' => r = x ∧ S = S' ∧ M = M') 0 0 15 [(0, jR 79), (1, jL l1), (3, jI l3), (4, jI l4)] [] S M) (l1 l3 l4 : Int) (hF : B_X12_found_15 M rec7 rec15 l1 l3 l4 = some r) : gj_W G l 7 0 0 yX12_found cX12_found 5 (some .int) (gj_qI fun x S' M' => r = x ∧ S = S' ∧ M = M') 0 0 15 [(0, jR 79), (1, jL l1), (3, jI l3), (4, jI l4)] [] S M := by
  unfold B_X12_found_15 at hF
  refine gj_iload (q := 17) (gj_dk okX12_found 10 rfl) rfl rfl ?_
  refine gj_aload_n (q := 18) (gj_dk okX12_found 11 rfl) rfl rfl ?_
  refine gj_gR (q := 21) (j := 13) (gj_dk okX12_found 12 rfl) ff_X12_37 (sh79 hst) (by decide) rfl (rf79_13 hst) rfl ?_
  refine gj_iconst (q := 22) (gj_dk okX12_found 13 rfl) (by decide) rfl ?_
  refine gj_aald (q := 23) (gj_dk okX12_found 14 rfl) (sh100 hst) (by decide) (by decide) (by decide) (rf100_1 hst) rfl ?_
  refine gj_iload_n (q := 24) (gj_dk okX12_found 15 rfl) rfl rfl ?_
  obtain ⟨b3, hF⟩ := gj_ckd hF
  refine gj_iald (q := 25) (gj_dk okX12_found 16 rfl) (sh102 hst) b3.1 b3.2 rfl ?_
  refine gj_icmp_ge (q := 28) (tgt := 57) (gj_dk okX12_found 17 rfl) (by decide) rfl (fun c25 => ?_) (fun c25 => ?_)
  · -- 57
    replace hF := gj_ift c25 hF
    refine gj_sub [(0, jR 79), (1, jL l1), (3, jI l3)] ⟨rfl, rfl, rfl, trivial⟩ ?_
    exact t_J_X12_found_57 hst hrec7 l1 l3 hF
  · -- 28
    replace hF := gj_iff c25 hF
    refine gj_aload_n (q := 29) (gj_dk okX12_found 18 rfl) rfl rfl ?_
    refine gj_gR (q := 32) (j := 14) (gj_dk okX12_found 19 rfl) ff_X12_40 (sh79 hst) (by decide) rfl (rf79_14 hst) rfl ?_
    refine gj_iconst (q := 33) (gj_dk okX12_found 20 rfl) (by decide) rfl ?_
    refine gj_iload_n (q := 34) (gj_dk okX12_found 21 rfl) rfl rfl ?_
    refine gj_imul (q := 35) (gj_dk okX12_found 22 rfl) rfl ?_
    refine gj_iload (q := 37) (gj_dk okX12_found 23 rfl) rfl rfl ?_
    refine gj_iadd (q := 38) (gj_dk okX12_found 24 rfl) rfl ?_
    obtain ⟨b4, hF⟩ := gj_ckd hF
    refine gj_lald (q := 39) (gj_dk okX12_found 25 rfl) (sh103 hst) b4.1 b4.2 rfl ?_
    refine gj_lload_n (q := 40) (gj_dk okX12_found 26 rfl) rfl rfl ?_
    refine gj_lcmp (q := 41) (gj_dk okX12_found 27 rfl) rfl ?_
    refine gj_if_ne (q := 44) (tgt := 51) (gj_dk okX12_found 28 rfl) (by decide) rfl (fun c41 => ?_) (fun c41 => ?_)
    · -- 51
      replace c41 := gj_cm_ne.mp c41
      replace hF := gj_iff c41 hF
      refine gj_iinc (q := 54) (v := gj_w (l4 + 1)) (gj_dk okX12_found 35 rfl) rfl (by decide) rfl rfl ?_
      refine gj_goto (tgt := 15) (gj_dk okX12_found 36 rfl) (by decide) ?_
      refine gj_sub [(0, jR 79), (1, jL l1), (3, jI l3), (4, jI (gj_w (l4 + 1)))] ⟨rfl, rfl, rfl, rfl, trivial⟩ ?_
      exact hrec15 l1 l3 (gj_w (l4 + 1)) hF
    · -- 44
      replace c41 := gj_cm_nen.mp c41
      replace hF := gj_ift c41 hF
      refine gj_sub [(3, jI l3), (4, jI l4)] ⟨rfl, rfl, trivial⟩ ?_
      exact t_J_X12_found_44 hst l3 l4 hF
theorem t_L_X12_found_15 (hst : gj_Stat S) {r : Int} {rec7 : Int → Int → Option (Int)} (hrec7 : ∀ (l1 l3 : Int), rec7 l1 l3 = some r → gj_W G l 7 0 0 yX12_found cX12_found 5 (some .int) (gj_qI fun x S' M' => r = x ∧ S = S' ∧ M = M') 0 0 7 [(0, jR 79), (1, jL l1), (3, jI l3)] [] S M) : ∀ (m : Nat) (l1 : Int) (l3 : Int) (l4 : Int), gj_it (fun _ _ _ => none) (B_X12_found_15 M rec7) m l1 l3 l4 = some r → gj_W G l 7 0 0 yX12_found cX12_found 5 (some .int) (gj_qI fun x S' M' => r = x ∧ S = S' ∧ M = M') 0 0 15 [(0, jR 79), (1, jL l1), (3, jI l3), (4, jI l4)] [] S M := by
  intro m
  induction m with
  | zero => intro l1 l3 l4 hF; cases (show (none : Option (Int)) = some r from hF)
  | succ m ih => intro l1 l3 l4 hF; exact t_B_X12_found_15 hst hrec7 (fun l1 l3 l4 h => ih l1 l3 l4 h) l1 l3 l4 hF
set_option maxHeartbeats 4000000 in
set_option maxRecDepth 20000 in
theorem t_B_X12_found_7 (hst : gj_Stat S) {r : Int} {rec7 : Int → Int → Option (Int)} (hrec7 : ∀ (l1 l3 : Int), rec7 l1 l3 = some r → gj_W G l 7 0 0 yX12_found cX12_found 5 (some .int) (gj_qI fun x S' M' => r = x ∧ S = S' ∧ M = M') 0 0 7 [(0, jR 79), (1, jL l1), (3, jI l3)] [] S M) (l1 l3 : Int) (hF : B_X12_found_7 M rec7 l1 l3 = some r) : gj_W G l 7 0 0 yX12_found cX12_found 5 (some .int) (gj_qI fun x S' M' => r = x ∧ S = S' ∧ M = M') 0 0 7 [(0, jR 79), (1, jL l1), (3, jI l3)] [] S M := by
  unfold B_X12_found_7 at hF
  refine gj_iload_n (q := 8) (gj_dk okX12_found 5 rfl) rfl rfl ?_
  refine gj_iconst (q := 9) (gj_dk okX12_found 6 rfl) (by decide) rfl ?_
  refine gj_icmp_ge (q := 12) (tgt := 63) (gj_dk okX12_found 7 rfl) (by decide) rfl (fun c9 => ?_) (fun c9 => ?_)
  · -- 63
    replace hF := gj_ift c9 hF
    refine gj_iconst (q := 64) (gj_dk okX12_found 39 rfl) (by decide) rfl ?_
    cases hF
    exact gj_iret (gj_dk okX12_found 40 rfl) rfl ⟨_, rfl, rfl, rfl, rfl⟩
  · -- 12
    replace hF := gj_iff c9 hF
    refine gj_iconst (q := 13) (gj_dk okX12_found 8 rfl) (by decide) rfl ?_
    refine gj_istore (q := 15) (gj_dk okX12_found 9 rfl) (by decide) rfl ?_
    refine gj_sub [(0, jR 79), (1, jL l1), (3, jI l3), (4, jI 0)] ⟨rfl, rfl, rfl, rfl, trivial⟩ ?_
    exact t_L_X12_found_15 hst hrec7 gj_fu l1 l3 0 hF
theorem t_L_X12_found_7 (hst : gj_Stat S) {r : Int} : ∀ (m : Nat) (l1 : Int) (l3 : Int), gj_it (fun _ _ => none) (B_X12_found_7 M) m l1 l3 = some r → gj_W G l 7 0 0 yX12_found cX12_found 5 (some .int) (gj_qI fun x S' M' => r = x ∧ S = S' ∧ M = M') 0 0 7 [(0, jR 79), (1, jL l1), (3, jI l3)] [] S M := by
  intro m
  induction m with
  | zero => intro l1 l3 hF; cases (show (none : Option (Int)) = some r from hF)
  | succ m ih => intro l1 l3 hF; exact t_B_X12_found_7 hst (fun l1 l3 h => ih l1 l3 h) l1 l3 hF
set_option maxHeartbeats 4000000 in
set_option maxRecDepth 20000 in
theorem t_X12_found (hst : gj_Stat S) {r : Int} (hF : F_X12_found M = some r) : gj_C G l 7 0 0 yX12_found cX12_found 5 (some .int) [jR 79] S M (gj_qI fun x S' M' => r = x ∧ S = S' ∧ M = M') := by
  refine gj_Cof (by decide +kernel) (Nat.le_of_ble_eq_true rfl) ?_
  change gj_W G l 7 0 0 yX12_found cX12_found 5 (some .int) (gj_qI fun x S' M' => r = x ∧ S = S' ∧ M = M') 0 0 0 [(0, jR 79)] [] S M
  unfold F_X12_found at hF
  refine gj_aload_n (q := 1) (gj_dk okX12_found 0 rfl) rfl rfl ?_
  obtain ⟨x1, hG, hF⟩ := gj_bndd hF
  refine gj_callV (q := 4) (z := 79) (ci := 10) [] rfl (t_X12_nameHere hst  hG) (gj_dk okX12_found 1 rfl) ml_X12_217 me_X12_nameHere (sh79 hst) rfl (gj_nm rfl) rfl (gj_kL fun y S2 M2 h => ?_)
  obtain ⟨e, eS, eM⟩ := h; subst eS; subst eM; subst e; clear hG
  refine gj_lstore_n (q := 5) (gj_dk okX12_found 2 rfl) (by decide) rfl ?_
  refine gj_iconst (q := 6) (gj_dk okX12_found 3 rfl) (by decide) rfl ?_
  refine gj_istore_n (q := 7) (gj_dk okX12_found 4 rfl) (by decide) rfl ?_
  refine gj_sub [(0, jR 79), (1, jL x1), (3, jI 0)] ⟨rfl, rfl, rfl, trivial⟩ ?_
  exact t_L_X12_found_7 hst gj_fu x1 0 hF
def J_X12_personRead_66 (l1 l2 l3 s1 : Int) (M : gj_M) : Option (Int × gj_M) :=
  gj_bnd2 (F_X12_passes s1 M) (fun x10 M11 => (if x10 = 0 then (some ((0, M11))) else gj_chk (0 ≤ l2 ∧ l2 < 8) (gj_let (gj_up M11 103 l2 l3) (fun M13 => gj_bnd2 (F_X12_into 84 8 l2 0 99 M13) (fun x14 M15 => (if x14 = 0 then (some ((0, M15))) else gj_chk (0 ≤ l1 ∧ l1 < 2) (gj_chk (0 ≤ l1 ∧ l1 < 2) (gj_let (gj_up M15 102 l1 (gj_w ((M15 102 l1) + 1))) (fun M18 => gj_bnd2 (F_X12_closes M18) (fun x19 M20 => (some ((x19, M20)))))))))))))
def J_X12_personRead_31 (l1 l2 s1 : Int) (M : gj_M) : Option (Int × gj_M) :=
  gj_bnd2 (F_X12_passes s1 M) (fun x4 M5 => (if x4 = 0 then (some ((0, M5))) else gj_bnd (F_X12_nameHere M5) (fun x6 => (if x6 = -1 then (J_X12_personRead_66 l1 l2 x6 0 M5) else gj_bnd (F_X12_found M5) (fun x8 => (if x8 = -1 then (J_X12_personRead_66 l1 l2 x6 1 M5) else (J_X12_personRead_66 l1 l2 x6 0 M5)))))))
def F_X12_personRead (a1 : Int) (M : gj_M) : Option (Int × gj_M) :=
  gj_chk (0 ≤ a1 ∧ a1 < 2) (gj_letI (gj_w ((gj_w (4 * a1)) + (M 102 a1))) (fun x2 => gj_chk (0 ≤ a1 ∧ a1 < 2) ((if 4 ≤ M 102 a1 then (J_X12_personRead_31 a1 x2 0 M) else (J_X12_personRead_31 a1 x2 1 M)))))
set_option maxHeartbeats 4000000 in
set_option maxRecDepth 20000 in
theorem t_J_X12_personRead_66 (hst : gj_Stat S) {r : Int × gj_M} (l1 l2 l3 s1 : Int) (M : gj_M) (hF : J_X12_personRead_66 l1 l2 l3 s1 M = some r) : gj_W G l 8 0 0 yX12_personRead cX12_personRead 5 (some .boolean) (gj_qI fun x S' M' => (x = 0 ∨ x = 1) ∧ r.1 = x ∧ S = S' ∧ r.2 = M') 0 0 66 [(0, jR 79), (1, jI l1), (2, jI l2), (3, jL l3)] [jI s1, jR 79] S M := by
  unfold J_X12_personRead_66 at hF
  obtain ⟨x10, M11, hG, hF⟩ := gj_bnd2d hF
  refine gj_callV (q := 69) (z := 79) (ci := 10) [jI s1] rfl (t_X12_passes hst s1 hG) (gj_dk okX12_personRead 42 rfl) ml_X12_201 me_X12_passes (sh79 hst) rfl (gj_nm rfl) rfl (gj_kI fun y S2 M2 h => ?_)
  obtain ⟨bx10, e, eS, eM⟩ := h; subst eS; subst eM; subst e; clear hG
  dsimp only at bx10 ⊢
  refine gj_if_ne (q := 72) (tgt := 74) (gj_dk okX12_personRead 43 rfl) (by decide) rfl (fun c69 => ?_) (fun c69 => ?_)
  · -- 74
    replace hF := gj_iff c69 hF
    refine gj_aload_n (q := 75) (gj_dk okX12_personRead 46 rfl) rfl rfl ?_
    refine gj_gR (q := 78) (j := 14) (gj_dk okX12_personRead 47 rfl) ff_X12_40 (sh79 hst) (by decide) rfl (rf79_14 hst) rfl ?_
    refine gj_iload_n (q := 79) (gj_dk okX12_personRead 48 rfl) rfl rfl ?_
    refine gj_lload_n (q := 80) (gj_dk okX12_personRead 49 rfl) rfl rfl ?_
    obtain ⟨b12, hF⟩ := gj_ckd hF
    refine gj_last (q := 81) (gj_dk okX12_personRead 50 rfl) (sh103 hst) b12.1 b12.2 rfl ?_
    refine gj_stp hF (fun M13 hF => ?_)
    refine gj_aload_n (q := 82) (gj_dk okX12_personRead 51 rfl) rfl rfl ?_
    refine gj_aload_n (q := 83) (gj_dk okX12_personRead 52 rfl) rfl rfl ?_
    refine gj_gR (q := 86) (j := 7) (gj_dk okX12_personRead 53 rfl) ff_X12_19 (sh79 hst) (by decide) rfl (rf79_7 hst) rfl ?_
    refine gj_iconst (q := 87) (gj_dk okX12_personRead 54 rfl) (by decide) rfl ?_
    refine gj_aald (q := 88) (gj_dk okX12_personRead 55 rfl) (sh82 hst) (by decide) (by decide) (by decide) (rf82_1 hst) rfl ?_
    refine gj_iload_n (q := 89) (gj_dk okX12_personRead 56 rfl) rfl rfl ?_
    refine gj_iconst (q := 90) (gj_dk okX12_personRead 57 rfl) (by decide) rfl ?_
    refine gj_bipush (q := 92) (gj_dk okX12_personRead 58 rfl) (by decide) rfl rfl ?_
    obtain ⟨x14, M15, hG, hF⟩ := gj_bnd2d hF
    refine gj_callV (q := 95) (z := 79) (ci := 10) [jR 84, jI l2, jI 0, jI 99] rfl (t_X12_into hst (sh84 hst) (by decide) (by decide) l2 0 99 hG) (gj_dk okX12_personRead 59 rfl) ml_X12_224 me_X12_into (sh79 hst) rfl (gj_nm rfl) rfl (gj_kI fun y S2 M2 h => ?_)
    obtain ⟨bx14, e, eS, eM⟩ := h; subst eS; subst eM; subst e; clear hG
    dsimp only at bx14 ⊢
    refine gj_if_ne (q := 98) (tgt := 100) (gj_dk okX12_personRead 60 rfl) (by decide) rfl (fun c95 => ?_) (fun c95 => ?_)
    · -- 100
      replace hF := gj_iff c95 hF
      refine gj_aload_n (q := 101) (gj_dk okX12_personRead 63 rfl) rfl rfl ?_
      refine gj_gR (q := 104) (j := 13) (gj_dk okX12_personRead 64 rfl) ff_X12_37 (sh79 hst) (by decide) rfl (rf79_13 hst) rfl ?_
      refine gj_iconst (q := 105) (gj_dk okX12_personRead 65 rfl) (by decide) rfl ?_
      refine gj_aald (q := 106) (gj_dk okX12_personRead 66 rfl) (sh100 hst) (by decide) (by decide) (by decide) (rf100_1 hst) rfl ?_
      refine gj_iload_n (q := 107) (gj_dk okX12_personRead 67 rfl) rfl rfl ?_
      refine gj_dup2 (q := 108) (gj_dk okX12_personRead 68 rfl) rfl rfl rfl ?_
      obtain ⟨b16, hF⟩ := gj_ckd hF
      refine gj_iald (q := 109) (gj_dk okX12_personRead 69 rfl) (sh102 hst) b16.1 b16.2 rfl ?_
      refine gj_iconst (q := 110) (gj_dk okX12_personRead 70 rfl) (by decide) rfl ?_
      refine gj_iadd (q := 111) (gj_dk okX12_personRead 71 rfl) rfl ?_
      obtain ⟨b17, hF⟩ := gj_ckd hF
      refine gj_iast (q := 112) (gj_dk okX12_personRead 72 rfl) (sh102 hst) b17.1 b17.2 rfl ?_
      refine gj_stp hF (fun M18 hF => ?_)
      refine gj_aload_n (q := 113) (gj_dk okX12_personRead 73 rfl) rfl rfl ?_
      obtain ⟨x19, M20, hG, hF⟩ := gj_bnd2d hF
      refine gj_callV (q := 116) (z := 79) (ci := 10) [] rfl (t_X12_closes hst  hG) (gj_dk okX12_personRead 74 rfl) ml_X12_228 me_X12_closes (sh79 hst) rfl (gj_nm rfl) rfl (gj_kI fun y S2 M2 h => ?_)
      obtain ⟨bx19, e, eS, eM⟩ := h; subst eS; subst eM; subst e; clear hG
      dsimp only at bx19 ⊢
      cases hF
      exact gj_zret (gj_dk okX12_personRead 75 rfl) rfl bx19 ⟨_, rfl, bx19, rfl, rfl, rfl⟩
    · -- 98
      replace hF := gj_ift c95 hF
      refine gj_iconst (q := 99) (gj_dk okX12_personRead 61 rfl) (by decide) rfl ?_
      cases hF
      exact gj_zret (gj_dk okX12_personRead 62 rfl) rfl (by decide) ⟨_, rfl, (by decide), rfl, rfl, rfl⟩
  · -- 72
    replace hF := gj_ift c69 hF
    refine gj_iconst (q := 73) (gj_dk okX12_personRead 44 rfl) (by decide) rfl ?_
    cases hF
    exact gj_zret (gj_dk okX12_personRead 45 rfl) rfl (by decide) ⟨_, rfl, (by decide), rfl, rfl, rfl⟩
set_option maxHeartbeats 4000000 in
set_option maxRecDepth 20000 in
theorem t_J_X12_personRead_31 (hst : gj_Stat S) {r : Int × gj_M} (l1 l2 s1 : Int) (M : gj_M) (hF : J_X12_personRead_31 l1 l2 s1 M = some r) : gj_W G l 8 0 0 yX12_personRead cX12_personRead 5 (some .boolean) (gj_qI fun x S' M' => (x = 0 ∨ x = 1) ∧ r.1 = x ∧ S = S' ∧ r.2 = M') 0 0 31 [(0, jR 79), (1, jI l1), (2, jI l2)] [jI s1, jR 79] S M := by
  unfold J_X12_personRead_31 at hF
  obtain ⟨x4, M5, hG, hF⟩ := gj_bnd2d hF
  refine gj_callV (q := 34) (z := 79) (ci := 10) [jI s1] rfl (t_X12_passes hst s1 hG) (gj_dk okX12_personRead 23 rfl) ml_X12_201 me_X12_passes (sh79 hst) rfl (gj_nm rfl) rfl (gj_kI fun y S2 M2 h => ?_)
  obtain ⟨bx4, e, eS, eM⟩ := h; subst eS; subst eM; subst e; clear hG
  dsimp only at bx4 ⊢
  refine gj_if_ne (q := 37) (tgt := 39) (gj_dk okX12_personRead 24 rfl) (by decide) rfl (fun c34 => ?_) (fun c34 => ?_)
  · -- 39
    replace hF := gj_iff c34 hF
    refine gj_aload_n (q := 40) (gj_dk okX12_personRead 27 rfl) rfl rfl ?_
    obtain ⟨x6, hG, hF⟩ := gj_bndd hF
    refine gj_callV (q := 43) (z := 79) (ci := 10) [] rfl (t_X12_nameHere hst  hG) (gj_dk okX12_personRead 28 rfl) ml_X12_217 me_X12_nameHere (sh79 hst) rfl (gj_nm rfl) rfl (gj_kL fun y S2 M2 h => ?_)
    obtain ⟨e, eS, eM⟩ := h; subst eS; subst eM; subst e; clear hG
    refine gj_lstore_n (q := 44) (gj_dk okX12_personRead 29 rfl) (by decide) rfl ?_
    refine gj_aload_n (q := 45) (gj_dk okX12_personRead 30 rfl) rfl rfl ?_
    refine gj_lload_n (q := 46) (gj_dk okX12_personRead 31 rfl) rfl rfl ?_
    refine gj_ldc2 (q := 49) (z := -1) (gj_dk okX12_personRead 32 rfl) kl_X12_211 (by decide) rfl ?_
    refine gj_lcmp (q := 50) (gj_dk okX12_personRead 33 rfl) rfl ?_
    refine gj_if_eq (q := 53) (tgt := 65) (gj_dk okX12_personRead 34 rfl) (by decide) rfl (fun c50 => ?_) (fun c50 => ?_)
    · -- 65
      replace c50 := gj_cm_eq.mp c50
      replace hF := gj_ift c50 hF
      refine gj_iconst (q := 66) (gj_dk okX12_personRead 41 rfl) (by decide) rfl ?_
      refine gj_sub [(0, jR 79), (1, jI l1), (2, jI l2), (3, jL x6)] ⟨rfl, rfl, rfl, rfl, trivial⟩ ?_
      exact t_J_X12_personRead_66 hst l1 l2 x6 0 M5 hF
    · -- 53
      replace c50 := gj_cm_eqn.mp c50
      replace hF := gj_iff c50 hF
      refine gj_aload_n (q := 54) (gj_dk okX12_personRead 35 rfl) rfl rfl ?_
      obtain ⟨x8, hG, hF⟩ := gj_bndd hF
      refine gj_callV (q := 57) (z := 79) (ci := 10) [] rfl (t_X12_found hst  hG) (gj_dk okX12_personRead 36 rfl) ml_X12_221 me_X12_found (sh79 hst) rfl (gj_nm rfl) rfl (gj_kI fun y S2 M2 h => ?_)
      obtain ⟨e, eS, eM⟩ := h; subst eS; subst eM; subst e; clear hG
      refine gj_iconst (q := 58) (gj_dk okX12_personRead 37 rfl) (by decide) rfl ?_
      refine gj_icmp_ne (q := 61) (tgt := 65) (gj_dk okX12_personRead 38 rfl) (by decide) rfl (fun c58 => ?_) (fun c58 => ?_)
      · -- 65
        replace hF := gj_iff c58 hF
        refine gj_iconst (q := 66) (gj_dk okX12_personRead 41 rfl) (by decide) rfl ?_
        refine gj_sub [(0, jR 79), (1, jI l1), (2, jI l2), (3, jL x6)] ⟨rfl, rfl, rfl, rfl, trivial⟩ ?_
        exact t_J_X12_personRead_66 hst l1 l2 x6 0 M5 hF
      · -- 61
        replace hF := gj_ift c58 hF
        refine gj_iconst (q := 62) (gj_dk okX12_personRead 39 rfl) (by decide) rfl ?_
        refine gj_goto (tgt := 66) (gj_dk okX12_personRead 40 rfl) (by decide) ?_
        refine gj_sub [(0, jR 79), (1, jI l1), (2, jI l2), (3, jL x6)] ⟨rfl, rfl, rfl, rfl, trivial⟩ ?_
        exact t_J_X12_personRead_66 hst l1 l2 x6 1 M5 hF
  · -- 37
    replace hF := gj_ift c34 hF
    refine gj_iconst (q := 38) (gj_dk okX12_personRead 25 rfl) (by decide) rfl ?_
    cases hF
    exact gj_zret (gj_dk okX12_personRead 26 rfl) rfl (by decide) ⟨_, rfl, (by decide), rfl, rfl, rfl⟩
set_option maxHeartbeats 4000000 in
set_option maxRecDepth 20000 in
theorem t_X12_personRead (hst : gj_Stat S) (a1 : Int) {r : Int × gj_M} (hF : F_X12_personRead a1 M = some r) : gj_C G l 8 0 0 yX12_personRead cX12_personRead 5 (some .boolean) [jR 79, jI a1] S M (gj_qI fun x S' M' => (x = 0 ∨ x = 1) ∧ r.1 = x ∧ S = S' ∧ r.2 = M') := by
  refine gj_Cof (by decide +kernel) (Nat.le_of_ble_eq_true rfl) ?_
  change gj_W G l 8 0 0 yX12_personRead cX12_personRead 5 (some .boolean) (gj_qI fun x S' M' => (x = 0 ∨ x = 1) ∧ r.1 = x ∧ S = S' ∧ r.2 = M') 0 0 0 [(0, jR 79), (1, jI a1)] [] S M
  unfold F_X12_personRead at hF
  refine gj_iconst (q := 1) (gj_dk okX12_personRead 0 rfl) (by decide) rfl ?_
  refine gj_iload_n (q := 2) (gj_dk okX12_personRead 1 rfl) rfl rfl ?_
  refine gj_imul (q := 3) (gj_dk okX12_personRead 2 rfl) rfl ?_
  refine gj_aload_n (q := 4) (gj_dk okX12_personRead 3 rfl) rfl rfl ?_
  refine gj_gR (q := 7) (j := 13) (gj_dk okX12_personRead 4 rfl) ff_X12_37 (sh79 hst) (by decide) rfl (rf79_13 hst) rfl ?_
  refine gj_iconst (q := 8) (gj_dk okX12_personRead 5 rfl) (by decide) rfl ?_
  refine gj_aald (q := 9) (gj_dk okX12_personRead 6 rfl) (sh100 hst) (by decide) (by decide) (by decide) (rf100_1 hst) rfl ?_
  refine gj_iload_n (q := 10) (gj_dk okX12_personRead 7 rfl) rfl rfl ?_
  obtain ⟨b1, hF⟩ := gj_ckd hF
  refine gj_iald (q := 11) (gj_dk okX12_personRead 8 rfl) (sh102 hst) b1.1 b1.2 rfl ?_
  refine gj_iadd (q := 12) (gj_dk okX12_personRead 9 rfl) rfl ?_
  refine gj_stpI hF (fun x2 hF => ?_)
  refine gj_istore_n (q := 13) (gj_dk okX12_personRead 10 rfl) (by decide) rfl ?_
  refine gj_aload_n (q := 14) (gj_dk okX12_personRead 11 rfl) rfl rfl ?_
  refine gj_aload_n (q := 15) (gj_dk okX12_personRead 12 rfl) rfl rfl ?_
  refine gj_gR (q := 18) (j := 13) (gj_dk okX12_personRead 13 rfl) ff_X12_37 (sh79 hst) (by decide) rfl (rf79_13 hst) rfl ?_
  refine gj_iconst (q := 19) (gj_dk okX12_personRead 14 rfl) (by decide) rfl ?_
  refine gj_aald (q := 20) (gj_dk okX12_personRead 15 rfl) (sh100 hst) (by decide) (by decide) (by decide) (rf100_1 hst) rfl ?_
  refine gj_iload_n (q := 21) (gj_dk okX12_personRead 16 rfl) rfl rfl ?_
  obtain ⟨b3, hF⟩ := gj_ckd hF
  refine gj_iald (q := 22) (gj_dk okX12_personRead 17 rfl) (sh102 hst) b3.1 b3.2 rfl ?_
  refine gj_iconst (q := 23) (gj_dk okX12_personRead 18 rfl) (by decide) rfl ?_
  refine gj_icmp_ge (q := 26) (tgt := 30) (gj_dk okX12_personRead 19 rfl) (by decide) rfl (fun c23 => ?_) (fun c23 => ?_)
  · -- 30
    replace hF := gj_ift c23 hF
    refine gj_iconst (q := 31) (gj_dk okX12_personRead 22 rfl) (by decide) rfl ?_
    refine gj_sub [(0, jR 79), (1, jI a1), (2, jI x2)] ⟨rfl, rfl, rfl, trivial⟩ ?_
    exact t_J_X12_personRead_31 hst a1 x2 0 M hF
  · -- 26
    replace hF := gj_iff c23 hF
    refine gj_iconst (q := 27) (gj_dk okX12_personRead 20 rfl) (by decide) rfl ?_
    refine gj_goto (tgt := 31) (gj_dk okX12_personRead 21 rfl) (by decide) ?_
    refine gj_sub [(0, jR 79), (1, jI a1), (2, jI x2)] ⟨rfl, rfl, rfl, trivial⟩ ?_
    exact t_J_X12_personRead_31 hst a1 x2 1 M hF
def f_X12_coupleOf (a1 : Int) (a2 : Int) (M : gj_M) : Int :=
  (gj_w ((gj_w (4 * a1)) + (Int.tmod a2 4)))
set_option maxHeartbeats 4000000 in
set_option maxRecDepth 20000 in
theorem t_X12_coupleOf (hst : gj_Stat S) (a1 a2 : Int) {r : Int} (hF : f_X12_coupleOf a1 a2 M = r) : gj_C G l 1 0 0 yX12_coupleOf cX12_coupleOf 2 (some .int) [jI a1, jI a2] S M (gj_qI fun x S' M' => r = x ∧ S = S' ∧ M = M') := by
  refine gj_Cof (by decide +kernel) (Nat.le_of_ble_eq_true rfl) ?_
  change gj_W G l 1 0 0 yX12_coupleOf cX12_coupleOf 2 (some .int) (gj_qI fun x S' M' => r = x ∧ S = S' ∧ M = M') 0 0 0 [(0, jI a1), (1, jI a2)] [] S M
  unfold f_X12_coupleOf at hF
  refine gj_iconst (q := 1) (gj_dk okX12_coupleOf 0 rfl) (by decide) rfl ?_
  refine gj_iload_n (q := 2) (gj_dk okX12_coupleOf 1 rfl) rfl rfl ?_
  refine gj_imul (q := 3) (gj_dk okX12_coupleOf 2 rfl) rfl ?_
  refine gj_iload_n (q := 4) (gj_dk okX12_coupleOf 3 rfl) rfl rfl ?_
  refine gj_iconst (q := 5) (gj_dk okX12_coupleOf 4 rfl) (by decide) rfl ?_
  refine gj_irem (q := 6) (gj_dk okX12_coupleOf 5 rfl) (by decide) rfl ?_
  refine gj_iadd (q := 7) (gj_dk okX12_coupleOf 6 rfl) rfl ?_
  subst hF
  exact gj_iret (gj_dk okX12_coupleOf 7 rfl) rfl ⟨_, rfl, rfl, rfl, rfl⟩
def J_X12_thinkRead_72 (l1 l2 s1 : Int) (M : gj_M) : Option (Int × gj_M) :=
  gj_bnd2 (F_X12_passes s1 M) (fun x11 M12 => (if x11 = 0 then (some ((0, M12))) else gj_letI (f_X12_coupleOf l1 l2 M12) (fun x13 => gj_chk (0 ≤ x13 ∧ x13 < 32) (gj_let (gj_up M12 104 x13 1) (fun M15 => gj_bnd2 (F_X12_into 87 32 x13 0 16 M15) (fun x16 M17 => (if x16 = 0 then (some ((0, M17))) else gj_bnd2 (F_X12_into 90 32 x13 0 16 M17) (fun x18 M19 => (if x18 = 0 then (some ((0, M19))) else gj_chk (0 ≤ x13 ∧ x13 < 32) (gj_bnd2 (F_X12_into 93 32 x13 0 (M19 90 x13) M19) (fun x21 M22 => (if x21 = 0 then (some ((0, M22))) else gj_bnd2 (F_X12_closes M22) (fun x23 M24 => (if x23 = 0 then (some ((0, M24))) else (some ((1, M24)))))))))))))))))
def J_X12_thinkRead_26 (l1 s1 : Int) (M : gj_M) : Option (Int × gj_M) :=
  gj_bnd2 (F_X12_passes s1 M) (fun x5 M6 => (if x5 = 0 then (some ((0, M6))) else gj_bnd (F_X12_found M6) (fun x7 => (if x7 = -1 then (J_X12_thinkRead_72 l1 x7 0 M6) else (if gj_w (Int.tdiv l1 4) = gj_w (Int.tdiv x7 4) then (J_X12_thinkRead_72 l1 x7 0 M6) else gj_letI (f_X12_coupleOf l1 x7 M6) (fun x9 => gj_chk (0 ≤ x9 ∧ x9 < 32) ((if M6 104 x9 = 0 then (J_X12_thinkRead_72 l1 x7 1 M6) else (J_X12_thinkRead_72 l1 x7 0 M6)))))))))
def F_X12_thinkRead (M : gj_M) : Option (Int × gj_M) :=
  gj_bnd2 (F_X12_passes 1 M) (fun x1 M2 => (if x1 = 0 then (some ((0, M2))) else gj_bnd (F_X12_found M2) (fun x3 => (if x3 = -1 then (J_X12_thinkRead_26 x3 0 M2) else (J_X12_thinkRead_26 x3 1 M2)))))
set_option maxHeartbeats 4000000 in
set_option maxRecDepth 20000 in
theorem t_J_X12_thinkRead_72 (hst : gj_Stat S) {r : Int × gj_M} (l1 l2 s1 : Int) (M : gj_M) (hF : J_X12_thinkRead_72 l1 l2 s1 M = some r) : gj_W G l 8 0 0 yX12_thinkRead cX12_thinkRead 4 (some .boolean) (gj_qI fun x S' M' => (x = 0 ∨ x = 1) ∧ r.1 = x ∧ S = S' ∧ r.2 = M') 0 0 72 [(0, jR 79), (1, jI l1), (2, jI l2)] [jI s1, jR 79] S M := by
  unfold J_X12_thinkRead_72 at hF
  obtain ⟨x11, M12, hG, hF⟩ := gj_bnd2d hF
  refine gj_callV (q := 75) (z := 79) (ci := 10) [jI s1] rfl (t_X12_passes hst s1 hG) (gj_dk okX12_thinkRead 44 rfl) ml_X12_201 me_X12_passes (sh79 hst) rfl (gj_nm rfl) rfl (gj_kI fun y S2 M2 h => ?_)
  obtain ⟨bx11, e, eS, eM⟩ := h; subst eS; subst eM; subst e; clear hG
  dsimp only at bx11 ⊢
  refine gj_if_ne (q := 78) (tgt := 80) (gj_dk okX12_thinkRead 45 rfl) (by decide) rfl (fun c75 => ?_) (fun c75 => ?_)
  · -- 80
    replace hF := gj_iff c75 hF
    refine gj_iload_n (q := 81) (gj_dk okX12_thinkRead 48 rfl) rfl rfl ?_
    refine gj_iload_n (q := 82) (gj_dk okX12_thinkRead 49 rfl) rfl rfl ?_
    refine gj_callS (q := 85) [jI l1, jI l2] rfl (t_X12_coupleOf hst l1 l2 rfl) (gj_dk okX12_thinkRead 50 rfl) ml_X12_232 me_X12_coupleOf (gj_nm rfl) rfl (gj_kI fun x S2 M2 h => ?_)
    obtain ⟨e, eS, eM⟩ := h; subst eS; subst eM; subst e
    refine gj_stpI hF (fun x13 hF => ?_)
    refine gj_istore_n (q := 86) (gj_dk okX12_thinkRead 51 rfl) (by decide) rfl ?_
    refine gj_aload_n (q := 87) (gj_dk okX12_thinkRead 52 rfl) rfl rfl ?_
    refine gj_gR (q := 90) (j := 15) (gj_dk okX12_thinkRead 53 rfl) ff_X12_44 (sh79 hst) (by decide) rfl (rf79_15 hst) rfl ?_
    refine gj_iload_n (q := 91) (gj_dk okX12_thinkRead 54 rfl) rfl rfl ?_
    refine gj_iconst (q := 92) (gj_dk okX12_thinkRead 55 rfl) (by decide) rfl ?_
    obtain ⟨b14, hF⟩ := gj_ckd hF
    refine gj_zast (q := 93) (gj_dk okX12_thinkRead 56 rfl) (sh104 hst) b14.1 b14.2 (by decide) rfl ?_
    refine gj_stp hF (fun M15 hF => ?_)
    refine gj_aload_n (q := 94) (gj_dk okX12_thinkRead 57 rfl) rfl rfl ?_
    refine gj_aload_n (q := 95) (gj_dk okX12_thinkRead 58 rfl) rfl rfl ?_
    refine gj_gR (q := 98) (j := 8) (gj_dk okX12_thinkRead 59 rfl) ff_X12_22 (sh79 hst) (by decide) rfl (rf79_8 hst) rfl ?_
    refine gj_iconst (q := 99) (gj_dk okX12_thinkRead 60 rfl) (by decide) rfl ?_
    refine gj_aald (q := 100) (gj_dk okX12_thinkRead 61 rfl) (sh85 hst) (by decide) (by decide) (by decide) (rf85_1 hst) rfl ?_
    refine gj_iload_n (q := 101) (gj_dk okX12_thinkRead 62 rfl) rfl rfl ?_
    refine gj_iconst (q := 102) (gj_dk okX12_thinkRead 63 rfl) (by decide) rfl ?_
    refine gj_bipush (q := 104) (gj_dk okX12_thinkRead 64 rfl) (by decide) rfl rfl ?_
    obtain ⟨x16, M17, hG, hF⟩ := gj_bnd2d hF
    refine gj_callV (q := 107) (z := 79) (ci := 10) [jR 87, jI x13, jI 0, jI 16] rfl (t_X12_into hst (sh87 hst) (by decide) (by decide) x13 0 16 hG) (gj_dk okX12_thinkRead 65 rfl) ml_X12_224 me_X12_into (sh79 hst) rfl (gj_nm rfl) rfl (gj_kI fun y S2 M2 h => ?_)
    obtain ⟨bx16, e, eS, eM⟩ := h; subst eS; subst eM; subst e; clear hG
    dsimp only at bx16 ⊢
    refine gj_if_eq (q := 110) (tgt := 161) (gj_dk okX12_thinkRead 66 rfl) (by decide) rfl (fun c107 => ?_) (fun c107 => ?_)
    · -- 161
      replace hF := gj_ift c107 hF
      refine gj_iconst (q := 162) (gj_dk okX12_thinkRead 97 rfl) (by decide) rfl ?_
      cases hF
      exact gj_zret (gj_dk okX12_thinkRead 98 rfl) rfl (by decide) ⟨_, rfl, (by decide), rfl, rfl, rfl⟩
    · -- 110
      replace hF := gj_iff c107 hF
      refine gj_aload_n (q := 111) (gj_dk okX12_thinkRead 67 rfl) rfl rfl ?_
      refine gj_aload_n (q := 112) (gj_dk okX12_thinkRead 68 rfl) rfl rfl ?_
      refine gj_gR (q := 115) (j := 9) (gj_dk okX12_thinkRead 69 rfl) ff_X12_25 (sh79 hst) (by decide) rfl (rf79_9 hst) rfl ?_
      refine gj_iconst (q := 116) (gj_dk okX12_thinkRead 70 rfl) (by decide) rfl ?_
      refine gj_aald (q := 117) (gj_dk okX12_thinkRead 71 rfl) (sh88 hst) (by decide) (by decide) (by decide) (rf88_1 hst) rfl ?_
      refine gj_iload_n (q := 118) (gj_dk okX12_thinkRead 72 rfl) rfl rfl ?_
      refine gj_iconst (q := 119) (gj_dk okX12_thinkRead 73 rfl) (by decide) rfl ?_
      refine gj_bipush (q := 121) (gj_dk okX12_thinkRead 74 rfl) (by decide) rfl rfl ?_
      obtain ⟨x18, M19, hG, hF⟩ := gj_bnd2d hF
      refine gj_callV (q := 124) (z := 79) (ci := 10) [jR 90, jI x13, jI 0, jI 16] rfl (t_X12_into hst (sh90 hst) (by decide) (by decide) x13 0 16 hG) (gj_dk okX12_thinkRead 75 rfl) ml_X12_224 me_X12_into (sh79 hst) rfl (gj_nm rfl) rfl (gj_kI fun y S2 M2 h => ?_)
      obtain ⟨bx18, e, eS, eM⟩ := h; subst eS; subst eM; subst e; clear hG
      dsimp only at bx18 ⊢
      refine gj_if_eq (q := 127) (tgt := 161) (gj_dk okX12_thinkRead 76 rfl) (by decide) rfl (fun c124 => ?_) (fun c124 => ?_)
      · -- 161
        replace hF := gj_ift c124 hF
        refine gj_iconst (q := 162) (gj_dk okX12_thinkRead 97 rfl) (by decide) rfl ?_
        cases hF
        exact gj_zret (gj_dk okX12_thinkRead 98 rfl) rfl (by decide) ⟨_, rfl, (by decide), rfl, rfl, rfl⟩
      · -- 127
        replace hF := gj_iff c124 hF
        refine gj_aload_n (q := 128) (gj_dk okX12_thinkRead 77 rfl) rfl rfl ?_
        refine gj_aload_n (q := 129) (gj_dk okX12_thinkRead 78 rfl) rfl rfl ?_
        refine gj_gR (q := 132) (j := 10) (gj_dk okX12_thinkRead 79 rfl) ff_X12_28 (sh79 hst) (by decide) rfl (rf79_10 hst) rfl ?_
        refine gj_iconst (q := 133) (gj_dk okX12_thinkRead 80 rfl) (by decide) rfl ?_
        refine gj_aald (q := 134) (gj_dk okX12_thinkRead 81 rfl) (sh91 hst) (by decide) (by decide) (by decide) (rf91_1 hst) rfl ?_
        refine gj_iload_n (q := 135) (gj_dk okX12_thinkRead 82 rfl) rfl rfl ?_
        refine gj_iconst (q := 136) (gj_dk okX12_thinkRead 83 rfl) (by decide) rfl ?_
        refine gj_aload_n (q := 137) (gj_dk okX12_thinkRead 84 rfl) rfl rfl ?_
        refine gj_gR (q := 140) (j := 9) (gj_dk okX12_thinkRead 85 rfl) ff_X12_25 (sh79 hst) (by decide) rfl (rf79_9 hst) rfl ?_
        refine gj_iconst (q := 141) (gj_dk okX12_thinkRead 86 rfl) (by decide) rfl ?_
        refine gj_aald (q := 142) (gj_dk okX12_thinkRead 87 rfl) (sh88 hst) (by decide) (by decide) (by decide) (rf88_1 hst) rfl ?_
        refine gj_iload_n (q := 143) (gj_dk okX12_thinkRead 88 rfl) rfl rfl ?_
        obtain ⟨b20, hF⟩ := gj_ckd hF
        refine gj_iald (q := 144) (gj_dk okX12_thinkRead 89 rfl) (sh90 hst) b20.1 b20.2 rfl ?_
        obtain ⟨x21, M22, hG, hF⟩ := gj_bnd2d hF
        refine gj_callV (q := 147) (z := 79) (ci := 10) [jR 93, jI x13, jI 0, jI (M19 90 x13)] rfl (t_X12_into hst (sh93 hst) (by decide) (by decide) x13 0 (M19 90 x13) hG) (gj_dk okX12_thinkRead 90 rfl) ml_X12_224 me_X12_into (sh79 hst) rfl (gj_nm rfl) rfl (gj_kI fun y S2 M2 h => ?_)
        obtain ⟨bx21, e, eS, eM⟩ := h; subst eS; subst eM; subst e; clear hG
        dsimp only at bx21 ⊢
        refine gj_if_eq (q := 150) (tgt := 161) (gj_dk okX12_thinkRead 91 rfl) (by decide) rfl (fun c147 => ?_) (fun c147 => ?_)
        · -- 161
          replace hF := gj_ift c147 hF
          refine gj_iconst (q := 162) (gj_dk okX12_thinkRead 97 rfl) (by decide) rfl ?_
          cases hF
          exact gj_zret (gj_dk okX12_thinkRead 98 rfl) rfl (by decide) ⟨_, rfl, (by decide), rfl, rfl, rfl⟩
        · -- 150
          replace hF := gj_iff c147 hF
          refine gj_aload_n (q := 151) (gj_dk okX12_thinkRead 92 rfl) rfl rfl ?_
          obtain ⟨x23, M24, hG, hF⟩ := gj_bnd2d hF
          refine gj_callV (q := 154) (z := 79) (ci := 10) [] rfl (t_X12_closes hst  hG) (gj_dk okX12_thinkRead 93 rfl) ml_X12_228 me_X12_closes (sh79 hst) rfl (gj_nm rfl) rfl (gj_kI fun y S2 M2 h => ?_)
          obtain ⟨bx23, e, eS, eM⟩ := h; subst eS; subst eM; subst e; clear hG
          dsimp only at bx23 ⊢
          refine gj_if_eq (q := 157) (tgt := 161) (gj_dk okX12_thinkRead 94 rfl) (by decide) rfl (fun c154 => ?_) (fun c154 => ?_)
          · -- 161
            replace hF := gj_ift c154 hF
            refine gj_iconst (q := 162) (gj_dk okX12_thinkRead 97 rfl) (by decide) rfl ?_
            cases hF
            exact gj_zret (gj_dk okX12_thinkRead 98 rfl) rfl (by decide) ⟨_, rfl, (by decide), rfl, rfl, rfl⟩
          · -- 157
            replace hF := gj_iff c154 hF
            refine gj_iconst (q := 158) (gj_dk okX12_thinkRead 95 rfl) (by decide) rfl ?_
            refine gj_goto (tgt := 162) (gj_dk okX12_thinkRead 96 rfl) (by decide) ?_
            cases hF
            exact gj_zret (gj_dk okX12_thinkRead 98 rfl) rfl (by decide) ⟨_, rfl, (by decide), rfl, rfl, rfl⟩
  · -- 78
    replace hF := gj_ift c75 hF
    refine gj_iconst (q := 79) (gj_dk okX12_thinkRead 46 rfl) (by decide) rfl ?_
    cases hF
    exact gj_zret (gj_dk okX12_thinkRead 47 rfl) rfl (by decide) ⟨_, rfl, (by decide), rfl, rfl, rfl⟩
set_option maxHeartbeats 4000000 in
set_option maxRecDepth 20000 in
theorem t_J_X12_thinkRead_26 (hst : gj_Stat S) {r : Int × gj_M} (l1 s1 : Int) (M : gj_M) (hF : J_X12_thinkRead_26 l1 s1 M = some r) : gj_W G l 8 0 0 yX12_thinkRead cX12_thinkRead 4 (some .boolean) (gj_qI fun x S' M' => (x = 0 ∨ x = 1) ∧ r.1 = x ∧ S = S' ∧ r.2 = M') 0 0 26 [(0, jR 79), (1, jI l1)] [jI s1, jR 79] S M := by
  unfold J_X12_thinkRead_26 at hF
  obtain ⟨x5, M6, hG, hF⟩ := gj_bnd2d hF
  refine gj_callV (q := 29) (z := 79) (ci := 10) [jI s1] rfl (t_X12_passes hst s1 hG) (gj_dk okX12_thinkRead 16 rfl) ml_X12_201 me_X12_passes (sh79 hst) rfl (gj_nm rfl) rfl (gj_kI fun y S2 M2 h => ?_)
  obtain ⟨bx5, e, eS, eM⟩ := h; subst eS; subst eM; subst e; clear hG
  dsimp only at bx5 ⊢
  refine gj_if_ne (q := 32) (tgt := 34) (gj_dk okX12_thinkRead 17 rfl) (by decide) rfl (fun c29 => ?_) (fun c29 => ?_)
  · -- 34
    replace hF := gj_iff c29 hF
    refine gj_aload_n (q := 35) (gj_dk okX12_thinkRead 20 rfl) rfl rfl ?_
    obtain ⟨x7, hG, hF⟩ := gj_bndd hF
    refine gj_callV (q := 38) (z := 79) (ci := 10) [] rfl (t_X12_found hst  hG) (gj_dk okX12_thinkRead 21 rfl) ml_X12_221 me_X12_found (sh79 hst) rfl (gj_nm rfl) rfl (gj_kI fun y S2 M2 h => ?_)
    obtain ⟨e, eS, eM⟩ := h; subst eS; subst eM; subst e; clear hG
    refine gj_istore_n (q := 39) (gj_dk okX12_thinkRead 22 rfl) (by decide) rfl ?_
    refine gj_aload_n (q := 40) (gj_dk okX12_thinkRead 23 rfl) rfl rfl ?_
    refine gj_iload_n (q := 41) (gj_dk okX12_thinkRead 24 rfl) rfl rfl ?_
    refine gj_iconst (q := 42) (gj_dk okX12_thinkRead 25 rfl) (by decide) rfl ?_
    refine gj_icmp_eq (q := 45) (tgt := 71) (gj_dk okX12_thinkRead 26 rfl) (by decide) rfl (fun c42 => ?_) (fun c42 => ?_)
    · -- 71
      replace hF := gj_ift c42 hF
      refine gj_iconst (q := 72) (gj_dk okX12_thinkRead 43 rfl) (by decide) rfl ?_
      refine gj_sub [(0, jR 79), (1, jI l1), (2, jI x7)] ⟨rfl, rfl, rfl, trivial⟩ ?_
      exact t_J_X12_thinkRead_72 hst l1 x7 0 M6 hF
    · -- 45
      replace hF := gj_iff c42 hF
      refine gj_iload_n (q := 46) (gj_dk okX12_thinkRead 27 rfl) rfl rfl ?_
      refine gj_iconst (q := 47) (gj_dk okX12_thinkRead 28 rfl) (by decide) rfl ?_
      refine gj_idiv (q := 48) (gj_dk okX12_thinkRead 29 rfl) (by decide) rfl ?_
      refine gj_iload_n (q := 49) (gj_dk okX12_thinkRead 30 rfl) rfl rfl ?_
      refine gj_iconst (q := 50) (gj_dk okX12_thinkRead 31 rfl) (by decide) rfl ?_
      refine gj_idiv (q := 51) (gj_dk okX12_thinkRead 32 rfl) (by decide) rfl ?_
      refine gj_icmp_eq (q := 54) (tgt := 71) (gj_dk okX12_thinkRead 33 rfl) (by decide) rfl (fun c51 => ?_) (fun c51 => ?_)
      · -- 71
        replace hF := gj_ift c51 hF
        refine gj_iconst (q := 72) (gj_dk okX12_thinkRead 43 rfl) (by decide) rfl ?_
        refine gj_sub [(0, jR 79), (1, jI l1), (2, jI x7)] ⟨rfl, rfl, rfl, trivial⟩ ?_
        exact t_J_X12_thinkRead_72 hst l1 x7 0 M6 hF
      · -- 54
        replace hF := gj_iff c51 hF
        refine gj_aload_n (q := 55) (gj_dk okX12_thinkRead 34 rfl) rfl rfl ?_
        refine gj_gR (q := 58) (j := 15) (gj_dk okX12_thinkRead 35 rfl) ff_X12_44 (sh79 hst) (by decide) rfl (rf79_15 hst) rfl ?_
        refine gj_iload_n (q := 59) (gj_dk okX12_thinkRead 36 rfl) rfl rfl ?_
        refine gj_iload_n (q := 60) (gj_dk okX12_thinkRead 37 rfl) rfl rfl ?_
        refine gj_callS (q := 63) [jI l1, jI x7] rfl (t_X12_coupleOf hst l1 x7 rfl) (gj_dk okX12_thinkRead 38 rfl) ml_X12_232 me_X12_coupleOf (gj_nm rfl) rfl (gj_kI fun x S2 M2 h => ?_)
        obtain ⟨e, eS, eM⟩ := h; subst eS; subst eM; subst e
        refine gj_stpI hF (fun x9 hF => ?_)
        obtain ⟨b10, hF⟩ := gj_ckd hF
        refine gj_zald (q := 64) (gj_dk okX12_thinkRead 39 rfl) (sh104 hst) b10.1 b10.2 rfl ?_
        refine gj_if_ne (q := 67) (tgt := 71) (gj_dk okX12_thinkRead 40 rfl) (by decide) rfl (fun c64 => ?_) (fun c64 => ?_)
        · -- 71
          replace hF := gj_iff c64 hF
          refine gj_iconst (q := 72) (gj_dk okX12_thinkRead 43 rfl) (by decide) rfl ?_
          refine gj_sub [(0, jR 79), (1, jI l1), (2, jI x7)] ⟨rfl, rfl, rfl, trivial⟩ ?_
          exact t_J_X12_thinkRead_72 hst l1 x7 0 M6 hF
        · -- 67
          replace hF := gj_ift c64 hF
          refine gj_iconst (q := 68) (gj_dk okX12_thinkRead 41 rfl) (by decide) rfl ?_
          refine gj_goto (tgt := 72) (gj_dk okX12_thinkRead 42 rfl) (by decide) ?_
          refine gj_sub [(0, jR 79), (1, jI l1), (2, jI x7)] ⟨rfl, rfl, rfl, trivial⟩ ?_
          exact t_J_X12_thinkRead_72 hst l1 x7 1 M6 hF
  · -- 32
    replace hF := gj_ift c29 hF
    refine gj_iconst (q := 33) (gj_dk okX12_thinkRead 18 rfl) (by decide) rfl ?_
    cases hF
    exact gj_zret (gj_dk okX12_thinkRead 19 rfl) rfl (by decide) ⟨_, rfl, (by decide), rfl, rfl, rfl⟩
set_option maxHeartbeats 4000000 in
set_option maxRecDepth 20000 in
theorem t_X12_thinkRead (hst : gj_Stat S) {r : Int × gj_M} (hF : F_X12_thinkRead M = some r) : gj_C G l 8 0 0 yX12_thinkRead cX12_thinkRead 4 (some .boolean) [jR 79] S M (gj_qI fun x S' M' => (x = 0 ∨ x = 1) ∧ r.1 = x ∧ S = S' ∧ r.2 = M') := by
  refine gj_Cof (by decide +kernel) (Nat.le_of_ble_eq_true rfl) ?_
  change gj_W G l 8 0 0 yX12_thinkRead cX12_thinkRead 4 (some .boolean) (gj_qI fun x S' M' => (x = 0 ∨ x = 1) ∧ r.1 = x ∧ S = S' ∧ r.2 = M') 0 0 0 [(0, jR 79)] [] S M
  unfold F_X12_thinkRead at hF
  refine gj_aload_n (q := 1) (gj_dk okX12_thinkRead 0 rfl) rfl rfl ?_
  refine gj_iconst (q := 2) (gj_dk okX12_thinkRead 1 rfl) (by decide) rfl ?_
  obtain ⟨x1, M2, hG, hF⟩ := gj_bnd2d hF
  refine gj_callV (q := 5) (z := 79) (ci := 10) [jI 1] rfl (t_X12_passes hst 1 hG) (gj_dk okX12_thinkRead 2 rfl) ml_X12_201 me_X12_passes (sh79 hst) rfl (gj_nm rfl) rfl (gj_kI fun y S2 M2 h => ?_)
  obtain ⟨bx1, e, eS, eM⟩ := h; subst eS; subst eM; subst e; clear hG
  dsimp only at bx1 ⊢
  refine gj_if_ne (q := 8) (tgt := 10) (gj_dk okX12_thinkRead 3 rfl) (by decide) rfl (fun c5 => ?_) (fun c5 => ?_)
  · -- 10
    replace hF := gj_iff c5 hF
    refine gj_aload_n (q := 11) (gj_dk okX12_thinkRead 6 rfl) rfl rfl ?_
    obtain ⟨x3, hG, hF⟩ := gj_bndd hF
    refine gj_callV (q := 14) (z := 79) (ci := 10) [] rfl (t_X12_found hst  hG) (gj_dk okX12_thinkRead 7 rfl) ml_X12_221 me_X12_found (sh79 hst) rfl (gj_nm rfl) rfl (gj_kI fun y S2 M2 h => ?_)
    obtain ⟨e, eS, eM⟩ := h; subst eS; subst eM; subst e; clear hG
    refine gj_istore_n (q := 15) (gj_dk okX12_thinkRead 8 rfl) (by decide) rfl ?_
    refine gj_aload_n (q := 16) (gj_dk okX12_thinkRead 9 rfl) rfl rfl ?_
    refine gj_iload_n (q := 17) (gj_dk okX12_thinkRead 10 rfl) rfl rfl ?_
    refine gj_iconst (q := 18) (gj_dk okX12_thinkRead 11 rfl) (by decide) rfl ?_
    refine gj_icmp_eq (q := 21) (tgt := 25) (gj_dk okX12_thinkRead 12 rfl) (by decide) rfl (fun c18 => ?_) (fun c18 => ?_)
    · -- 25
      replace hF := gj_ift c18 hF
      refine gj_iconst (q := 26) (gj_dk okX12_thinkRead 15 rfl) (by decide) rfl ?_
      refine gj_sub [(0, jR 79), (1, jI x3)] ⟨rfl, rfl, trivial⟩ ?_
      exact t_J_X12_thinkRead_26 hst x3 0 M2 hF
    · -- 21
      replace hF := gj_iff c18 hF
      refine gj_iconst (q := 22) (gj_dk okX12_thinkRead 13 rfl) (by decide) rfl ?_
      refine gj_goto (tgt := 26) (gj_dk okX12_thinkRead 14 rfl) (by decide) ?_
      refine gj_sub [(0, jR 79), (1, jI x3)] ⟨rfl, rfl, trivial⟩ ?_
      exact t_J_X12_thinkRead_26 hst x3 1 M2 hF
  · -- 8
    replace hF := gj_ift c5 hF
    refine gj_iconst (q := 9) (gj_dk okX12_thinkRead 4 rfl) (by decide) rfl ?_
    cases hF
    exact gj_zret (gj_dk okX12_thinkRead 5 rfl) rfl (by decide) ⟨_, rfl, (by decide), rfl, rfl, rfl⟩
def J_X12_fitRead_62 (l1 l2 s1 : Int) (M : gj_M) : Option (Int × gj_M) :=
  gj_bnd2 (F_X12_passes s1 M) (fun x12 M13 => (if x12 = 0 then (some ((0, M13))) else gj_letI (f_X12_coupleOf l1 l2 M13) (fun x14 => gj_chk (0 ≤ x14 ∧ x14 < 16) (gj_let (gj_up M13 105 x14 1) (fun M16 => gj_letI (f_X12_coupleOf l1 l2 M16) (fun x17 => gj_bnd2 (F_X12_into 96 16 x17 0 16 M16) (fun x18 M19 => (if x18 = 0 then (some ((0, M19))) else gj_bnd2 (F_X12_closes M19) (fun x20 M21 => (if x20 = 0 then (some ((0, M21))) else (some ((1, M21)))))))))))))
def F_X12_fitRead (M : gj_M) : Option (Int × gj_M) :=
  gj_bnd2 (F_X12_passes 1 M) (fun x1 M2 => (if x1 = 0 then (some ((0, M2))) else gj_bnd (F_X12_found M2) (fun x3 => gj_letI (f_X12_in x3 0 3 M2) (fun x5 => gj_bnd2 (F_X12_passes x5 M2) (fun x6 M7 => (if x6 = 0 then (some ((0, M7))) else gj_bnd (F_X12_found M7) (fun x8 => (if x8 < 4 then (J_X12_fitRead_62 x3 x8 0 M7) else gj_letI (f_X12_coupleOf x3 x8 M7) (fun x10 => gj_chk (0 ≤ x10 ∧ x10 < 16) ((if M7 105 x10 = 0 then (J_X12_fitRead_62 x3 x8 1 M7) else (J_X12_fitRead_62 x3 x8 0 M7))))))))))))
set_option maxHeartbeats 4000000 in
set_option maxRecDepth 20000 in
theorem t_J_X12_fitRead_62 (hst : gj_Stat S) {r : Int × gj_M} (l1 l2 s1 : Int) (M : gj_M) (hF : J_X12_fitRead_62 l1 l2 s1 M = some r) : gj_W G l 8 0 0 yX12_fitRead cX12_fitRead 3 (some .boolean) (gj_qI fun x S' M' => (x = 0 ∨ x = 1) ∧ r.1 = x ∧ S = S' ∧ r.2 = M') 0 0 62 [(0, jR 79), (1, jI l1), (2, jI l2)] [jI s1, jR 79] S M := by
  unfold J_X12_fitRead_62 at hF
  obtain ⟨x12, M13, hG, hF⟩ := gj_bnd2d hF
  refine gj_callV (q := 65) (z := 79) (ci := 10) [jI s1] rfl (t_X12_passes hst s1 hG) (gj_dk okX12_fitRead 36 rfl) ml_X12_201 me_X12_passes (sh79 hst) rfl (gj_nm rfl) rfl (gj_kI fun y S2 M2 h => ?_)
  obtain ⟨bx12, e, eS, eM⟩ := h; subst eS; subst eM; subst e; clear hG
  dsimp only at bx12 ⊢
  refine gj_if_ne (q := 68) (tgt := 70) (gj_dk okX12_fitRead 37 rfl) (by decide) rfl (fun c65 => ?_) (fun c65 => ?_)
  · -- 70
    replace hF := gj_iff c65 hF
    refine gj_aload_n (q := 71) (gj_dk okX12_fitRead 40 rfl) rfl rfl ?_
    refine gj_gR (q := 74) (j := 16) (gj_dk okX12_fitRead 41 rfl) ff_X12_48 (sh79 hst) (by decide) rfl (rf79_16 hst) rfl ?_
    refine gj_iload_n (q := 75) (gj_dk okX12_fitRead 42 rfl) rfl rfl ?_
    refine gj_iload_n (q := 76) (gj_dk okX12_fitRead 43 rfl) rfl rfl ?_
    refine gj_callS (q := 79) [jI l1, jI l2] rfl (t_X12_coupleOf hst l1 l2 rfl) (gj_dk okX12_fitRead 44 rfl) ml_X12_232 me_X12_coupleOf (gj_nm rfl) rfl (gj_kI fun x S2 M2 h => ?_)
    obtain ⟨e, eS, eM⟩ := h; subst eS; subst eM; subst e
    refine gj_stpI hF (fun x14 hF => ?_)
    refine gj_iconst (q := 80) (gj_dk okX12_fitRead 45 rfl) (by decide) rfl ?_
    obtain ⟨b15, hF⟩ := gj_ckd hF
    refine gj_zast (q := 81) (gj_dk okX12_fitRead 46 rfl) (sh105 hst) b15.1 b15.2 (by decide) rfl ?_
    refine gj_stp hF (fun M16 hF => ?_)
    refine gj_aload_n (q := 82) (gj_dk okX12_fitRead 47 rfl) rfl rfl ?_
    refine gj_aload_n (q := 83) (gj_dk okX12_fitRead 48 rfl) rfl rfl ?_
    refine gj_gR (q := 86) (j := 11) (gj_dk okX12_fitRead 49 rfl) ff_X12_31 (sh79 hst) (by decide) rfl (rf79_11 hst) rfl ?_
    refine gj_iconst (q := 87) (gj_dk okX12_fitRead 50 rfl) (by decide) rfl ?_
    refine gj_aald (q := 88) (gj_dk okX12_fitRead 51 rfl) (sh94 hst) (by decide) (by decide) (by decide) (rf94_1 hst) rfl ?_
    refine gj_iload_n (q := 89) (gj_dk okX12_fitRead 52 rfl) rfl rfl ?_
    refine gj_iload_n (q := 90) (gj_dk okX12_fitRead 53 rfl) rfl rfl ?_
    refine gj_callS (q := 93) [jI l1, jI l2] rfl (t_X12_coupleOf hst l1 l2 rfl) (gj_dk okX12_fitRead 54 rfl) ml_X12_232 me_X12_coupleOf (gj_nm rfl) rfl (gj_kI fun x S2 M2 h => ?_)
    obtain ⟨e, eS, eM⟩ := h; subst eS; subst eM; subst e
    refine gj_stpI hF (fun x17 hF => ?_)
    refine gj_iconst (q := 94) (gj_dk okX12_fitRead 55 rfl) (by decide) rfl ?_
    refine gj_bipush (q := 96) (gj_dk okX12_fitRead 56 rfl) (by decide) rfl rfl ?_
    obtain ⟨x18, M19, hG, hF⟩ := gj_bnd2d hF
    refine gj_callV (q := 99) (z := 79) (ci := 10) [jR 96, jI x17, jI 0, jI 16] rfl (t_X12_into hst (sh96 hst) (by decide) (by decide) x17 0 16 hG) (gj_dk okX12_fitRead 57 rfl) ml_X12_224 me_X12_into (sh79 hst) rfl (gj_nm rfl) rfl (gj_kI fun y S2 M2 h => ?_)
    obtain ⟨bx18, e, eS, eM⟩ := h; subst eS; subst eM; subst e; clear hG
    dsimp only at bx18 ⊢
    refine gj_if_eq (q := 102) (tgt := 113) (gj_dk okX12_fitRead 58 rfl) (by decide) rfl (fun c99 => ?_) (fun c99 => ?_)
    · -- 113
      replace hF := gj_ift c99 hF
      refine gj_iconst (q := 114) (gj_dk okX12_fitRead 64 rfl) (by decide) rfl ?_
      cases hF
      exact gj_zret (gj_dk okX12_fitRead 65 rfl) rfl (by decide) ⟨_, rfl, (by decide), rfl, rfl, rfl⟩
    · -- 102
      replace hF := gj_iff c99 hF
      refine gj_aload_n (q := 103) (gj_dk okX12_fitRead 59 rfl) rfl rfl ?_
      obtain ⟨x20, M21, hG, hF⟩ := gj_bnd2d hF
      refine gj_callV (q := 106) (z := 79) (ci := 10) [] rfl (t_X12_closes hst  hG) (gj_dk okX12_fitRead 60 rfl) ml_X12_228 me_X12_closes (sh79 hst) rfl (gj_nm rfl) rfl (gj_kI fun y S2 M2 h => ?_)
      obtain ⟨bx20, e, eS, eM⟩ := h; subst eS; subst eM; subst e; clear hG
      dsimp only at bx20 ⊢
      refine gj_if_eq (q := 109) (tgt := 113) (gj_dk okX12_fitRead 61 rfl) (by decide) rfl (fun c106 => ?_) (fun c106 => ?_)
      · -- 113
        replace hF := gj_ift c106 hF
        refine gj_iconst (q := 114) (gj_dk okX12_fitRead 64 rfl) (by decide) rfl ?_
        cases hF
        exact gj_zret (gj_dk okX12_fitRead 65 rfl) rfl (by decide) ⟨_, rfl, (by decide), rfl, rfl, rfl⟩
      · -- 109
        replace hF := gj_iff c106 hF
        refine gj_iconst (q := 110) (gj_dk okX12_fitRead 62 rfl) (by decide) rfl ?_
        refine gj_goto (tgt := 114) (gj_dk okX12_fitRead 63 rfl) (by decide) ?_
        cases hF
        exact gj_zret (gj_dk okX12_fitRead 65 rfl) rfl (by decide) ⟨_, rfl, (by decide), rfl, rfl, rfl⟩
  · -- 68
    replace hF := gj_ift c65 hF
    refine gj_iconst (q := 69) (gj_dk okX12_fitRead 38 rfl) (by decide) rfl ?_
    cases hF
    exact gj_zret (gj_dk okX12_fitRead 39 rfl) rfl (by decide) ⟨_, rfl, (by decide), rfl, rfl, rfl⟩
set_option maxHeartbeats 4000000 in
set_option maxRecDepth 20000 in
theorem t_X12_fitRead (hst : gj_Stat S) {r : Int × gj_M} (hF : F_X12_fitRead M = some r) : gj_C G l 8 0 0 yX12_fitRead cX12_fitRead 3 (some .boolean) [jR 79] S M (gj_qI fun x S' M' => (x = 0 ∨ x = 1) ∧ r.1 = x ∧ S = S' ∧ r.2 = M') := by
  refine gj_Cof (by decide +kernel) (Nat.le_of_ble_eq_true rfl) ?_
  change gj_W G l 8 0 0 yX12_fitRead cX12_fitRead 3 (some .boolean) (gj_qI fun x S' M' => (x = 0 ∨ x = 1) ∧ r.1 = x ∧ S = S' ∧ r.2 = M') 0 0 0 [(0, jR 79)] [] S M
  unfold F_X12_fitRead at hF
  refine gj_aload_n (q := 1) (gj_dk okX12_fitRead 0 rfl) rfl rfl ?_
  refine gj_iconst (q := 2) (gj_dk okX12_fitRead 1 rfl) (by decide) rfl ?_
  obtain ⟨x1, M2, hG, hF⟩ := gj_bnd2d hF
  refine gj_callV (q := 5) (z := 79) (ci := 10) [jI 1] rfl (t_X12_passes hst 1 hG) (gj_dk okX12_fitRead 2 rfl) ml_X12_201 me_X12_passes (sh79 hst) rfl (gj_nm rfl) rfl (gj_kI fun y S2 M2 h => ?_)
  obtain ⟨bx1, e, eS, eM⟩ := h; subst eS; subst eM; subst e; clear hG
  dsimp only at bx1 ⊢
  refine gj_if_ne (q := 8) (tgt := 10) (gj_dk okX12_fitRead 3 rfl) (by decide) rfl (fun c5 => ?_) (fun c5 => ?_)
  · -- 10
    replace hF := gj_iff c5 hF
    refine gj_aload_n (q := 11) (gj_dk okX12_fitRead 6 rfl) rfl rfl ?_
    obtain ⟨x3, hG, hF⟩ := gj_bndd hF
    refine gj_callV (q := 14) (z := 79) (ci := 10) [] rfl (t_X12_found hst  hG) (gj_dk okX12_fitRead 7 rfl) ml_X12_221 me_X12_found (sh79 hst) rfl (gj_nm rfl) rfl (gj_kI fun y S2 M2 h => ?_)
    obtain ⟨e, eS, eM⟩ := h; subst eS; subst eM; subst e; clear hG
    refine gj_istore_n (q := 15) (gj_dk okX12_fitRead 8 rfl) (by decide) rfl ?_
    refine gj_aload_n (q := 16) (gj_dk okX12_fitRead 9 rfl) rfl rfl ?_
    refine gj_iload_n (q := 17) (gj_dk okX12_fitRead 10 rfl) rfl rfl ?_
    refine gj_i2l (q := 18) (gj_dk okX12_fitRead 11 rfl) rfl ?_
    refine gj_lconst (q := 19) (z := 0) (gj_dk okX12_fitRead 12 rfl) rfl (by decide) rfl ?_
    refine gj_ldc2 (q := 22) (z := 3) (gj_dk okX12_fitRead 13 rfl) kl_X12_236 (by decide) rfl ?_
    refine gj_callS (q := 25) [jL x3, jL 0, jL 3] rfl (t_X12_in hst x3 0 3 rfl) (gj_dk okX12_fitRead 14 rfl) ml_X12_158 me_X12_in (gj_nm rfl) rfl (gj_kI fun x S2 M2 h => ?_)
    obtain ⟨bz, e, eS, eM⟩ := h; subst eS; subst eM; subst e
    refine gj_stpZ bz hF (fun x5 bx5 hF => ?_)
    obtain ⟨x6, M7, hG, hF⟩ := gj_bnd2d hF
    refine gj_callV (q := 28) (z := 79) (ci := 10) [jI x5] rfl (t_X12_passes hst x5 hG) (gj_dk okX12_fitRead 15 rfl) ml_X12_201 me_X12_passes (sh79 hst) rfl (gj_nm rfl) rfl (gj_kI fun y S2 M2 h => ?_)
    obtain ⟨bx6, e, eS, eM⟩ := h; subst eS; subst eM; subst e; clear hG
    dsimp only at bx6 ⊢
    refine gj_if_ne (q := 31) (tgt := 33) (gj_dk okX12_fitRead 16 rfl) (by decide) rfl (fun c28 => ?_) (fun c28 => ?_)
    · -- 33
      replace hF := gj_iff c28 hF
      refine gj_aload_n (q := 34) (gj_dk okX12_fitRead 19 rfl) rfl rfl ?_
      obtain ⟨x8, hG, hF⟩ := gj_bndd hF
      refine gj_callV (q := 37) (z := 79) (ci := 10) [] rfl (t_X12_found hst  hG) (gj_dk okX12_fitRead 20 rfl) ml_X12_221 me_X12_found (sh79 hst) rfl (gj_nm rfl) rfl (gj_kI fun y S2 M2 h => ?_)
      obtain ⟨e, eS, eM⟩ := h; subst eS; subst eM; subst e; clear hG
      refine gj_istore_n (q := 38) (gj_dk okX12_fitRead 21 rfl) (by decide) rfl ?_
      refine gj_aload_n (q := 39) (gj_dk okX12_fitRead 22 rfl) rfl rfl ?_
      refine gj_iload_n (q := 40) (gj_dk okX12_fitRead 23 rfl) rfl rfl ?_
      refine gj_iconst (q := 41) (gj_dk okX12_fitRead 24 rfl) (by decide) rfl ?_
      refine gj_icmp_lt (q := 44) (tgt := 61) (gj_dk okX12_fitRead 25 rfl) (by decide) rfl (fun c41 => ?_) (fun c41 => ?_)
      · -- 61
        replace hF := gj_ift c41 hF
        refine gj_iconst (q := 62) (gj_dk okX12_fitRead 35 rfl) (by decide) rfl ?_
        refine gj_sub [(0, jR 79), (1, jI x3), (2, jI x8)] ⟨rfl, rfl, rfl, trivial⟩ ?_
        exact t_J_X12_fitRead_62 hst x3 x8 0 M7 hF
      · -- 44
        replace hF := gj_iff c41 hF
        refine gj_aload_n (q := 45) (gj_dk okX12_fitRead 26 rfl) rfl rfl ?_
        refine gj_gR (q := 48) (j := 16) (gj_dk okX12_fitRead 27 rfl) ff_X12_48 (sh79 hst) (by decide) rfl (rf79_16 hst) rfl ?_
        refine gj_iload_n (q := 49) (gj_dk okX12_fitRead 28 rfl) rfl rfl ?_
        refine gj_iload_n (q := 50) (gj_dk okX12_fitRead 29 rfl) rfl rfl ?_
        refine gj_callS (q := 53) [jI x3, jI x8] rfl (t_X12_coupleOf hst x3 x8 rfl) (gj_dk okX12_fitRead 30 rfl) ml_X12_232 me_X12_coupleOf (gj_nm rfl) rfl (gj_kI fun x S2 M2 h => ?_)
        obtain ⟨e, eS, eM⟩ := h; subst eS; subst eM; subst e
        refine gj_stpI hF (fun x10 hF => ?_)
        obtain ⟨b11, hF⟩ := gj_ckd hF
        refine gj_zald (q := 54) (gj_dk okX12_fitRead 31 rfl) (sh105 hst) b11.1 b11.2 rfl ?_
        refine gj_if_ne (q := 57) (tgt := 61) (gj_dk okX12_fitRead 32 rfl) (by decide) rfl (fun c54 => ?_) (fun c54 => ?_)
        · -- 61
          replace hF := gj_iff c54 hF
          refine gj_iconst (q := 62) (gj_dk okX12_fitRead 35 rfl) (by decide) rfl ?_
          refine gj_sub [(0, jR 79), (1, jI x3), (2, jI x8)] ⟨rfl, rfl, rfl, trivial⟩ ?_
          exact t_J_X12_fitRead_62 hst x3 x8 0 M7 hF
        · -- 57
          replace hF := gj_ift c54 hF
          refine gj_iconst (q := 58) (gj_dk okX12_fitRead 33 rfl) (by decide) rfl ?_
          refine gj_goto (tgt := 62) (gj_dk okX12_fitRead 34 rfl) (by decide) ?_
          refine gj_sub [(0, jR 79), (1, jI x3), (2, jI x8)] ⟨rfl, rfl, rfl, trivial⟩ ?_
          exact t_J_X12_fitRead_62 hst x3 x8 1 M7 hF
    · -- 31
      replace hF := gj_ift c28 hF
      refine gj_iconst (q := 32) (gj_dk okX12_fitRead 17 rfl) (by decide) rfl ?_
      cases hF
      exact gj_zret (gj_dk okX12_fitRead 18 rfl) rfl (by decide) ⟨_, rfl, (by decide), rfl, rfl, rfl⟩
  · -- 8
    replace hF := gj_ift c5 hF
    refine gj_iconst (q := 9) (gj_dk okX12_fitRead 4 rfl) (by decide) rfl ?_
    cases hF
    exact gj_zret (gj_dk okX12_fitRead 5 rfl) rfl (by decide) ⟨_, rfl, (by decide), rfl, rfl, rfl⟩
def J_X12_onceRead_210 (M : gj_M) : Option (Int × gj_M) :=
  gj_bnd2 (F_X12_into 99 8 7 1 4 M) (fun x28 M29 => (if x28 = 0 then (some ((0, M29))) else gj_bnd2 (F_X12_closes M29) (fun x30 M31 => (if x30 = 0 then (some ((0, M31))) else (some ((1, M31)))))))
def J_X12_onceRead_20 (l1 s1 : Int) (M : gj_M) : Option (Int × gj_M) :=
  gj_bnd2 (F_X12_passes s1 M) (fun x2 M3 => (if x2 = 0 then (some ((0, M3))) else gj_chk (0 ≤ l1 ∧ l1 < 9) (gj_let (gj_up M3 106 l1 1) (fun M5 => (if l1 = 4 then gj_bnd2 (F_X12_into 99 8 0 0 99 M5) (fun x6 M7 => (if x6 = 0 then (some ((0, M7))) else gj_bnd2 (F_X12_into 99 8 1 0 99 M7) (fun x8 M9 => (if x8 = 0 then (some ((0, M9))) else gj_bnd2 (F_X12_closes M9) (fun x10 M11 => (if x10 = 0 then (some ((0, M11))) else (some ((1, M11))))))))) else (if l1 = 5 then gj_bnd2 (F_X12_into 99 8 2 1 9 M5) (fun x12 M13 => (if x12 = 0 then (some ((0, M13))) else gj_bnd2 (F_X12_into 99 8 3 0 99 M13) (fun x14 M15 => (if x14 = 0 then (some ((0, M15))) else gj_bnd2 (F_X12_closes M15) (fun x16 M17 => (if x16 = 0 then (some ((0, M17))) else (some ((1, M17))))))))) else (if l1 = 6 then gj_bnd2 (F_X12_into 99 8 4 0 16 M5) (fun x18 M19 => (if x18 = 0 then (some ((0, M19))) else gj_bnd2 (F_X12_into 99 8 5 0 99 M19) (fun x20 M21 => (if x20 = 0 then (some ((0, M21))) else gj_bnd2 (F_X12_closes M21) (fun x22 M23 => (if x22 = 0 then (some ((0, M23))) else (some ((1, M23))))))))) else (if l1 = 7 then gj_bnd2 (F_X12_into 99 8 6 0 999 M5) (fun x24 M25 => (if x24 = 0 then (some ((0, M25))) else gj_bnd2 (F_X12_closes M25) (fun x26 M27 => (if x26 = 0 then (some ((0, M27))) else (some ((1, M27))))))) else (J_X12_onceRead_210 M5)))))))))
def F_X12_onceRead (a1 : Int) (M : gj_M) : Option (Int × gj_M) :=
  (if a1 < 4 then (J_X12_onceRead_20 a1 0 M) else gj_chk (0 ≤ a1 ∧ a1 < 9) ((if M 106 a1 = 0 then (J_X12_onceRead_20 a1 1 M) else (J_X12_onceRead_20 a1 0 M))))
set_option maxHeartbeats 4000000 in
set_option maxRecDepth 20000 in
theorem t_J_X12_onceRead_210 (hst : gj_Stat S) {r : Int × gj_M} (M : gj_M) (hF : J_X12_onceRead_210 M = some r) : gj_W G l 5 0 0 yX12_onceRead cX12_onceRead 3 (some .boolean) (gj_qI fun x S' M' => (x = 0 ∨ x = 1) ∧ r.1 = x ∧ S = S' ∧ r.2 = M') 0 0 210 [(0, jR 79), (2, jR 99)] [] S M := by
  unfold J_X12_onceRead_210 at hF
  refine gj_aload_n (q := 211) (gj_dk okX12_onceRead 105 rfl) rfl rfl ?_
  refine gj_aload_n (q := 212) (gj_dk okX12_onceRead 106 rfl) rfl rfl ?_
  refine gj_bipush (q := 214) (gj_dk okX12_onceRead 107 rfl) (by decide) rfl rfl ?_
  refine gj_iconst (q := 215) (gj_dk okX12_onceRead 108 rfl) (by decide) rfl ?_
  refine gj_iconst (q := 216) (gj_dk okX12_onceRead 109 rfl) (by decide) rfl ?_
  obtain ⟨x28, M29, hG, hF⟩ := gj_bnd2d hF
  refine gj_callV (q := 219) (z := 79) (ci := 10) [jR 99, jI 7, jI 1, jI 4] rfl (t_X12_into hst (sh99 hst) (by decide) (by decide) 7 1 4 hG) (gj_dk okX12_onceRead 110 rfl) ml_X12_224 me_X12_into (sh79 hst) rfl (gj_nm rfl) rfl (gj_kI fun y S2 M2 h => ?_)
  obtain ⟨bx28, e, eS, eM⟩ := h; subst eS; subst eM; subst e; clear hG
  dsimp only at bx28 ⊢
  refine gj_if_eq (q := 222) (tgt := 233) (gj_dk okX12_onceRead 111 rfl) (by decide) rfl (fun c219 => ?_) (fun c219 => ?_)
  · -- 233
    replace hF := gj_ift c219 hF
    refine gj_iconst (q := 234) (gj_dk okX12_onceRead 117 rfl) (by decide) rfl ?_
    cases hF
    exact gj_zret (gj_dk okX12_onceRead 118 rfl) rfl (by decide) ⟨_, rfl, (by decide), rfl, rfl, rfl⟩
  · -- 222
    replace hF := gj_iff c219 hF
    refine gj_aload_n (q := 223) (gj_dk okX12_onceRead 112 rfl) rfl rfl ?_
    obtain ⟨x30, M31, hG, hF⟩ := gj_bnd2d hF
    refine gj_callV (q := 226) (z := 79) (ci := 10) [] rfl (t_X12_closes hst  hG) (gj_dk okX12_onceRead 113 rfl) ml_X12_228 me_X12_closes (sh79 hst) rfl (gj_nm rfl) rfl (gj_kI fun y S2 M2 h => ?_)
    obtain ⟨bx30, e, eS, eM⟩ := h; subst eS; subst eM; subst e; clear hG
    dsimp only at bx30 ⊢
    refine gj_if_eq (q := 229) (tgt := 233) (gj_dk okX12_onceRead 114 rfl) (by decide) rfl (fun c226 => ?_) (fun c226 => ?_)
    · -- 233
      replace hF := gj_ift c226 hF
      refine gj_iconst (q := 234) (gj_dk okX12_onceRead 117 rfl) (by decide) rfl ?_
      cases hF
      exact gj_zret (gj_dk okX12_onceRead 118 rfl) rfl (by decide) ⟨_, rfl, (by decide), rfl, rfl, rfl⟩
    · -- 229
      replace hF := gj_iff c226 hF
      refine gj_iconst (q := 230) (gj_dk okX12_onceRead 115 rfl) (by decide) rfl ?_
      refine gj_goto (tgt := 234) (gj_dk okX12_onceRead 116 rfl) (by decide) ?_
      cases hF
      exact gj_zret (gj_dk okX12_onceRead 118 rfl) rfl (by decide) ⟨_, rfl, (by decide), rfl, rfl, rfl⟩
set_option maxHeartbeats 4000000 in
set_option maxRecDepth 20000 in
theorem t_J_X12_onceRead_20 (hst : gj_Stat S) {r : Int × gj_M} (l1 s1 : Int) (M : gj_M) (hF : J_X12_onceRead_20 l1 s1 M = some r) : gj_W G l 5 0 0 yX12_onceRead cX12_onceRead 3 (some .boolean) (gj_qI fun x S' M' => (x = 0 ∨ x = 1) ∧ r.1 = x ∧ S = S' ∧ r.2 = M') 0 0 20 [(0, jR 79), (1, jI l1)] [jI s1, jR 79] S M := by
  unfold J_X12_onceRead_20 at hF
  obtain ⟨x2, M3, hG, hF⟩ := gj_bnd2d hF
  refine gj_callV (q := 23) (z := 79) (ci := 10) [jI s1] rfl (t_X12_passes hst s1 hG) (gj_dk okX12_onceRead 12 rfl) ml_X12_201 me_X12_passes (sh79 hst) rfl (gj_nm rfl) rfl (gj_kI fun y S2 M2 h => ?_)
  obtain ⟨bx2, e, eS, eM⟩ := h; subst eS; subst eM; subst e; clear hG
  dsimp only at bx2 ⊢
  refine gj_if_ne (q := 26) (tgt := 28) (gj_dk okX12_onceRead 13 rfl) (by decide) rfl (fun c23 => ?_) (fun c23 => ?_)
  · -- 28
    replace hF := gj_iff c23 hF
    refine gj_aload_n (q := 29) (gj_dk okX12_onceRead 16 rfl) rfl rfl ?_
    refine gj_gR (q := 32) (j := 17) (gj_dk okX12_onceRead 17 rfl) ff_X12_51 (sh79 hst) (by decide) rfl (rf79_17 hst) rfl ?_
    refine gj_iload_n (q := 33) (gj_dk okX12_onceRead 18 rfl) rfl rfl ?_
    refine gj_iconst (q := 34) (gj_dk okX12_onceRead 19 rfl) (by decide) rfl ?_
    obtain ⟨b4, hF⟩ := gj_ckd hF
    refine gj_zast (q := 35) (gj_dk okX12_onceRead 20 rfl) (sh106 hst) b4.1 b4.2 (by decide) rfl ?_
    refine gj_stp hF (fun M5 hF => ?_)
    refine gj_aload_n (q := 36) (gj_dk okX12_onceRead 21 rfl) rfl rfl ?_
    refine gj_gR (q := 39) (j := 12) (gj_dk okX12_onceRead 22 rfl) ff_X12_34 (sh79 hst) (by decide) rfl (rf79_12 hst) rfl ?_
    refine gj_iconst (q := 40) (gj_dk okX12_onceRead 23 rfl) (by decide) rfl ?_
    refine gj_aald (q := 41) (gj_dk okX12_onceRead 24 rfl) (sh97 hst) (by decide) (by decide) (by decide) (rf97_1 hst) rfl ?_
    refine gj_astore_n (q := 42) (gj_dk okX12_onceRead 25 rfl) (by decide) rfl ?_
    refine gj_iload_n (q := 43) (gj_dk okX12_onceRead 26 rfl) rfl rfl ?_
    by_cases c43_4 : l1 = 4
    · refine gj_tabIn (tgt := 72) (off := 29) 4 (gj_dk okX12_onceRead 27 rfl) c43_4 ⟨by decide, by decide, rfl⟩ (by decide) ?_
      replace hF := gj_ift c43_4 hF
      refine gj_aload_n (q := 73) (gj_dk okX12_onceRead 28 rfl) rfl rfl ?_
      refine gj_aload_n (q := 74) (gj_dk okX12_onceRead 29 rfl) rfl rfl ?_
      refine gj_iconst (q := 75) (gj_dk okX12_onceRead 30 rfl) (by decide) rfl ?_
      refine gj_iconst (q := 76) (gj_dk okX12_onceRead 31 rfl) (by decide) rfl ?_
      refine gj_bipush (q := 78) (gj_dk okX12_onceRead 32 rfl) (by decide) rfl rfl ?_
      obtain ⟨x6, M7, hG, hF⟩ := gj_bnd2d hF
      refine gj_callV (q := 81) (z := 79) (ci := 10) [jR 99, jI 0, jI 0, jI 99] rfl (t_X12_into hst (sh99 hst) (by decide) (by decide) 0 0 99 hG) (gj_dk okX12_onceRead 33 rfl) ml_X12_224 me_X12_into (sh79 hst) rfl (gj_nm rfl) rfl (gj_kI fun y S2 M2 h => ?_)
      obtain ⟨bx6, e, eS, eM⟩ := h; subst eS; subst eM; subst e; clear hG
      dsimp only at bx6 ⊢
      refine gj_if_eq (q := 84) (tgt := 107) (gj_dk okX12_onceRead 34 rfl) (by decide) rfl (fun c81 => ?_) (fun c81 => ?_)
      · -- 107
        replace hF := gj_ift c81 hF
        refine gj_iconst (q := 108) (gj_dk okX12_onceRead 47 rfl) (by decide) rfl ?_
        cases hF
        exact gj_zret (gj_dk okX12_onceRead 48 rfl) rfl (by decide) ⟨_, rfl, (by decide), rfl, rfl, rfl⟩
      · -- 84
        replace hF := gj_iff c81 hF
        refine gj_aload_n (q := 85) (gj_dk okX12_onceRead 35 rfl) rfl rfl ?_
        refine gj_aload_n (q := 86) (gj_dk okX12_onceRead 36 rfl) rfl rfl ?_
        refine gj_iconst (q := 87) (gj_dk okX12_onceRead 37 rfl) (by decide) rfl ?_
        refine gj_iconst (q := 88) (gj_dk okX12_onceRead 38 rfl) (by decide) rfl ?_
        refine gj_bipush (q := 90) (gj_dk okX12_onceRead 39 rfl) (by decide) rfl rfl ?_
        obtain ⟨x8, M9, hG, hF⟩ := gj_bnd2d hF
        refine gj_callV (q := 93) (z := 79) (ci := 10) [jR 99, jI 1, jI 0, jI 99] rfl (t_X12_into hst (sh99 hst) (by decide) (by decide) 1 0 99 hG) (gj_dk okX12_onceRead 40 rfl) ml_X12_224 me_X12_into (sh79 hst) rfl (gj_nm rfl) rfl (gj_kI fun y S2 M2 h => ?_)
        obtain ⟨bx8, e, eS, eM⟩ := h; subst eS; subst eM; subst e; clear hG
        dsimp only at bx8 ⊢
        refine gj_if_eq (q := 96) (tgt := 107) (gj_dk okX12_onceRead 41 rfl) (by decide) rfl (fun c93 => ?_) (fun c93 => ?_)
        · -- 107
          replace hF := gj_ift c93 hF
          refine gj_iconst (q := 108) (gj_dk okX12_onceRead 47 rfl) (by decide) rfl ?_
          cases hF
          exact gj_zret (gj_dk okX12_onceRead 48 rfl) rfl (by decide) ⟨_, rfl, (by decide), rfl, rfl, rfl⟩
        · -- 96
          replace hF := gj_iff c93 hF
          refine gj_aload_n (q := 97) (gj_dk okX12_onceRead 42 rfl) rfl rfl ?_
          obtain ⟨x10, M11, hG, hF⟩ := gj_bnd2d hF
          refine gj_callV (q := 100) (z := 79) (ci := 10) [] rfl (t_X12_closes hst  hG) (gj_dk okX12_onceRead 43 rfl) ml_X12_228 me_X12_closes (sh79 hst) rfl (gj_nm rfl) rfl (gj_kI fun y S2 M2 h => ?_)
          obtain ⟨bx10, e, eS, eM⟩ := h; subst eS; subst eM; subst e; clear hG
          dsimp only at bx10 ⊢
          refine gj_if_eq (q := 103) (tgt := 107) (gj_dk okX12_onceRead 44 rfl) (by decide) rfl (fun c100 => ?_) (fun c100 => ?_)
          · -- 107
            replace hF := gj_ift c100 hF
            refine gj_iconst (q := 108) (gj_dk okX12_onceRead 47 rfl) (by decide) rfl ?_
            cases hF
            exact gj_zret (gj_dk okX12_onceRead 48 rfl) rfl (by decide) ⟨_, rfl, (by decide), rfl, rfl, rfl⟩
          · -- 103
            replace hF := gj_iff c100 hF
            refine gj_iconst (q := 104) (gj_dk okX12_onceRead 45 rfl) (by decide) rfl ?_
            refine gj_goto (tgt := 108) (gj_dk okX12_onceRead 46 rfl) (by decide) ?_
            cases hF
            exact gj_zret (gj_dk okX12_onceRead 48 rfl) rfl (by decide) ⟨_, rfl, (by decide), rfl, rfl, rfl⟩
    replace hF := gj_iff c43_4 hF
    by_cases c43_5 : l1 = 5
    · refine gj_tabIn (tgt := 109) (off := 66) 5 (gj_dk okX12_onceRead 27 rfl) c43_5 ⟨by decide, by decide, rfl⟩ (by decide) ?_
      replace hF := gj_ift c43_5 hF
      refine gj_aload_n (q := 110) (gj_dk okX12_onceRead 49 rfl) rfl rfl ?_
      refine gj_aload_n (q := 111) (gj_dk okX12_onceRead 50 rfl) rfl rfl ?_
      refine gj_iconst (q := 112) (gj_dk okX12_onceRead 51 rfl) (by decide) rfl ?_
      refine gj_iconst (q := 113) (gj_dk okX12_onceRead 52 rfl) (by decide) rfl ?_
      refine gj_bipush (q := 115) (gj_dk okX12_onceRead 53 rfl) (by decide) rfl rfl ?_
      obtain ⟨x12, M13, hG, hF⟩ := gj_bnd2d hF
      refine gj_callV (q := 118) (z := 79) (ci := 10) [jR 99, jI 2, jI 1, jI 9] rfl (t_X12_into hst (sh99 hst) (by decide) (by decide) 2 1 9 hG) (gj_dk okX12_onceRead 54 rfl) ml_X12_224 me_X12_into (sh79 hst) rfl (gj_nm rfl) rfl (gj_kI fun y S2 M2 h => ?_)
      obtain ⟨bx12, e, eS, eM⟩ := h; subst eS; subst eM; subst e; clear hG
      dsimp only at bx12 ⊢
      refine gj_if_eq (q := 121) (tgt := 144) (gj_dk okX12_onceRead 55 rfl) (by decide) rfl (fun c118 => ?_) (fun c118 => ?_)
      · -- 144
        replace hF := gj_ift c118 hF
        refine gj_iconst (q := 145) (gj_dk okX12_onceRead 68 rfl) (by decide) rfl ?_
        cases hF
        exact gj_zret (gj_dk okX12_onceRead 69 rfl) rfl (by decide) ⟨_, rfl, (by decide), rfl, rfl, rfl⟩
      · -- 121
        replace hF := gj_iff c118 hF
        refine gj_aload_n (q := 122) (gj_dk okX12_onceRead 56 rfl) rfl rfl ?_
        refine gj_aload_n (q := 123) (gj_dk okX12_onceRead 57 rfl) rfl rfl ?_
        refine gj_iconst (q := 124) (gj_dk okX12_onceRead 58 rfl) (by decide) rfl ?_
        refine gj_iconst (q := 125) (gj_dk okX12_onceRead 59 rfl) (by decide) rfl ?_
        refine gj_bipush (q := 127) (gj_dk okX12_onceRead 60 rfl) (by decide) rfl rfl ?_
        obtain ⟨x14, M15, hG, hF⟩ := gj_bnd2d hF
        refine gj_callV (q := 130) (z := 79) (ci := 10) [jR 99, jI 3, jI 0, jI 99] rfl (t_X12_into hst (sh99 hst) (by decide) (by decide) 3 0 99 hG) (gj_dk okX12_onceRead 61 rfl) ml_X12_224 me_X12_into (sh79 hst) rfl (gj_nm rfl) rfl (gj_kI fun y S2 M2 h => ?_)
        obtain ⟨bx14, e, eS, eM⟩ := h; subst eS; subst eM; subst e; clear hG
        dsimp only at bx14 ⊢
        refine gj_if_eq (q := 133) (tgt := 144) (gj_dk okX12_onceRead 62 rfl) (by decide) rfl (fun c130 => ?_) (fun c130 => ?_)
        · -- 144
          replace hF := gj_ift c130 hF
          refine gj_iconst (q := 145) (gj_dk okX12_onceRead 68 rfl) (by decide) rfl ?_
          cases hF
          exact gj_zret (gj_dk okX12_onceRead 69 rfl) rfl (by decide) ⟨_, rfl, (by decide), rfl, rfl, rfl⟩
        · -- 133
          replace hF := gj_iff c130 hF
          refine gj_aload_n (q := 134) (gj_dk okX12_onceRead 63 rfl) rfl rfl ?_
          obtain ⟨x16, M17, hG, hF⟩ := gj_bnd2d hF
          refine gj_callV (q := 137) (z := 79) (ci := 10) [] rfl (t_X12_closes hst  hG) (gj_dk okX12_onceRead 64 rfl) ml_X12_228 me_X12_closes (sh79 hst) rfl (gj_nm rfl) rfl (gj_kI fun y S2 M2 h => ?_)
          obtain ⟨bx16, e, eS, eM⟩ := h; subst eS; subst eM; subst e; clear hG
          dsimp only at bx16 ⊢
          refine gj_if_eq (q := 140) (tgt := 144) (gj_dk okX12_onceRead 65 rfl) (by decide) rfl (fun c137 => ?_) (fun c137 => ?_)
          · -- 144
            replace hF := gj_ift c137 hF
            refine gj_iconst (q := 145) (gj_dk okX12_onceRead 68 rfl) (by decide) rfl ?_
            cases hF
            exact gj_zret (gj_dk okX12_onceRead 69 rfl) rfl (by decide) ⟨_, rfl, (by decide), rfl, rfl, rfl⟩
          · -- 140
            replace hF := gj_iff c137 hF
            refine gj_iconst (q := 141) (gj_dk okX12_onceRead 66 rfl) (by decide) rfl ?_
            refine gj_goto (tgt := 145) (gj_dk okX12_onceRead 67 rfl) (by decide) ?_
            cases hF
            exact gj_zret (gj_dk okX12_onceRead 69 rfl) rfl (by decide) ⟨_, rfl, (by decide), rfl, rfl, rfl⟩
    replace hF := gj_iff c43_5 hF
    by_cases c43_6 : l1 = 6
    · refine gj_tabIn (tgt := 146) (off := 103) 6 (gj_dk okX12_onceRead 27 rfl) c43_6 ⟨by decide, by decide, rfl⟩ (by decide) ?_
      replace hF := gj_ift c43_6 hF
      refine gj_aload_n (q := 147) (gj_dk okX12_onceRead 70 rfl) rfl rfl ?_
      refine gj_aload_n (q := 148) (gj_dk okX12_onceRead 71 rfl) rfl rfl ?_
      refine gj_iconst (q := 149) (gj_dk okX12_onceRead 72 rfl) (by decide) rfl ?_
      refine gj_iconst (q := 150) (gj_dk okX12_onceRead 73 rfl) (by decide) rfl ?_
      refine gj_bipush (q := 152) (gj_dk okX12_onceRead 74 rfl) (by decide) rfl rfl ?_
      obtain ⟨x18, M19, hG, hF⟩ := gj_bnd2d hF
      refine gj_callV (q := 155) (z := 79) (ci := 10) [jR 99, jI 4, jI 0, jI 16] rfl (t_X12_into hst (sh99 hst) (by decide) (by decide) 4 0 16 hG) (gj_dk okX12_onceRead 75 rfl) ml_X12_224 me_X12_into (sh79 hst) rfl (gj_nm rfl) rfl (gj_kI fun y S2 M2 h => ?_)
      obtain ⟨bx18, e, eS, eM⟩ := h; subst eS; subst eM; subst e; clear hG
      dsimp only at bx18 ⊢
      refine gj_if_eq (q := 158) (tgt := 181) (gj_dk okX12_onceRead 76 rfl) (by decide) rfl (fun c155 => ?_) (fun c155 => ?_)
      · -- 181
        replace hF := gj_ift c155 hF
        refine gj_iconst (q := 182) (gj_dk okX12_onceRead 89 rfl) (by decide) rfl ?_
        cases hF
        exact gj_zret (gj_dk okX12_onceRead 90 rfl) rfl (by decide) ⟨_, rfl, (by decide), rfl, rfl, rfl⟩
      · -- 158
        replace hF := gj_iff c155 hF
        refine gj_aload_n (q := 159) (gj_dk okX12_onceRead 77 rfl) rfl rfl ?_
        refine gj_aload_n (q := 160) (gj_dk okX12_onceRead 78 rfl) rfl rfl ?_
        refine gj_iconst (q := 161) (gj_dk okX12_onceRead 79 rfl) (by decide) rfl ?_
        refine gj_iconst (q := 162) (gj_dk okX12_onceRead 80 rfl) (by decide) rfl ?_
        refine gj_bipush (q := 164) (gj_dk okX12_onceRead 81 rfl) (by decide) rfl rfl ?_
        obtain ⟨x20, M21, hG, hF⟩ := gj_bnd2d hF
        refine gj_callV (q := 167) (z := 79) (ci := 10) [jR 99, jI 5, jI 0, jI 99] rfl (t_X12_into hst (sh99 hst) (by decide) (by decide) 5 0 99 hG) (gj_dk okX12_onceRead 82 rfl) ml_X12_224 me_X12_into (sh79 hst) rfl (gj_nm rfl) rfl (gj_kI fun y S2 M2 h => ?_)
        obtain ⟨bx20, e, eS, eM⟩ := h; subst eS; subst eM; subst e; clear hG
        dsimp only at bx20 ⊢
        refine gj_if_eq (q := 170) (tgt := 181) (gj_dk okX12_onceRead 83 rfl) (by decide) rfl (fun c167 => ?_) (fun c167 => ?_)
        · -- 181
          replace hF := gj_ift c167 hF
          refine gj_iconst (q := 182) (gj_dk okX12_onceRead 89 rfl) (by decide) rfl ?_
          cases hF
          exact gj_zret (gj_dk okX12_onceRead 90 rfl) rfl (by decide) ⟨_, rfl, (by decide), rfl, rfl, rfl⟩
        · -- 170
          replace hF := gj_iff c167 hF
          refine gj_aload_n (q := 171) (gj_dk okX12_onceRead 84 rfl) rfl rfl ?_
          obtain ⟨x22, M23, hG, hF⟩ := gj_bnd2d hF
          refine gj_callV (q := 174) (z := 79) (ci := 10) [] rfl (t_X12_closes hst  hG) (gj_dk okX12_onceRead 85 rfl) ml_X12_228 me_X12_closes (sh79 hst) rfl (gj_nm rfl) rfl (gj_kI fun y S2 M2 h => ?_)
          obtain ⟨bx22, e, eS, eM⟩ := h; subst eS; subst eM; subst e; clear hG
          dsimp only at bx22 ⊢
          refine gj_if_eq (q := 177) (tgt := 181) (gj_dk okX12_onceRead 86 rfl) (by decide) rfl (fun c174 => ?_) (fun c174 => ?_)
          · -- 181
            replace hF := gj_ift c174 hF
            refine gj_iconst (q := 182) (gj_dk okX12_onceRead 89 rfl) (by decide) rfl ?_
            cases hF
            exact gj_zret (gj_dk okX12_onceRead 90 rfl) rfl (by decide) ⟨_, rfl, (by decide), rfl, rfl, rfl⟩
          · -- 177
            replace hF := gj_iff c174 hF
            refine gj_iconst (q := 178) (gj_dk okX12_onceRead 87 rfl) (by decide) rfl ?_
            refine gj_goto (tgt := 182) (gj_dk okX12_onceRead 88 rfl) (by decide) ?_
            cases hF
            exact gj_zret (gj_dk okX12_onceRead 90 rfl) rfl (by decide) ⟨_, rfl, (by decide), rfl, rfl, rfl⟩
    replace hF := gj_iff c43_6 hF
    by_cases c43_7 : l1 = 7
    · refine gj_tabIn (tgt := 183) (off := 140) 7 (gj_dk okX12_onceRead 27 rfl) c43_7 ⟨by decide, by decide, rfl⟩ (by decide) ?_
      replace hF := gj_ift c43_7 hF
      refine gj_aload_n (q := 184) (gj_dk okX12_onceRead 91 rfl) rfl rfl ?_
      refine gj_aload_n (q := 185) (gj_dk okX12_onceRead 92 rfl) rfl rfl ?_
      refine gj_bipush (q := 187) (gj_dk okX12_onceRead 93 rfl) (by decide) rfl rfl ?_
      refine gj_iconst (q := 188) (gj_dk okX12_onceRead 94 rfl) (by decide) rfl ?_
      refine gj_sipush (q := 191) (gj_dk okX12_onceRead 95 rfl) (by decide) rfl rfl ?_
      obtain ⟨x24, M25, hG, hF⟩ := gj_bnd2d hF
      refine gj_callV (q := 194) (z := 79) (ci := 10) [jR 99, jI 6, jI 0, jI 999] rfl (t_X12_into hst (sh99 hst) (by decide) (by decide) 6 0 999 hG) (gj_dk okX12_onceRead 96 rfl) ml_X12_224 me_X12_into (sh79 hst) rfl (gj_nm rfl) rfl (gj_kI fun y S2 M2 h => ?_)
      obtain ⟨bx24, e, eS, eM⟩ := h; subst eS; subst eM; subst e; clear hG
      dsimp only at bx24 ⊢
      refine gj_if_eq (q := 197) (tgt := 208) (gj_dk okX12_onceRead 97 rfl) (by decide) rfl (fun c194 => ?_) (fun c194 => ?_)
      · -- 208
        replace hF := gj_ift c194 hF
        refine gj_iconst (q := 209) (gj_dk okX12_onceRead 103 rfl) (by decide) rfl ?_
        cases hF
        exact gj_zret (gj_dk okX12_onceRead 104 rfl) rfl (by decide) ⟨_, rfl, (by decide), rfl, rfl, rfl⟩
      · -- 197
        replace hF := gj_iff c194 hF
        refine gj_aload_n (q := 198) (gj_dk okX12_onceRead 98 rfl) rfl rfl ?_
        obtain ⟨x26, M27, hG, hF⟩ := gj_bnd2d hF
        refine gj_callV (q := 201) (z := 79) (ci := 10) [] rfl (t_X12_closes hst  hG) (gj_dk okX12_onceRead 99 rfl) ml_X12_228 me_X12_closes (sh79 hst) rfl (gj_nm rfl) rfl (gj_kI fun y S2 M2 h => ?_)
        obtain ⟨bx26, e, eS, eM⟩ := h; subst eS; subst eM; subst e; clear hG
        dsimp only at bx26 ⊢
        refine gj_if_eq (q := 204) (tgt := 208) (gj_dk okX12_onceRead 100 rfl) (by decide) rfl (fun c201 => ?_) (fun c201 => ?_)
        · -- 208
          replace hF := gj_ift c201 hF
          refine gj_iconst (q := 209) (gj_dk okX12_onceRead 103 rfl) (by decide) rfl ?_
          cases hF
          exact gj_zret (gj_dk okX12_onceRead 104 rfl) rfl (by decide) ⟨_, rfl, (by decide), rfl, rfl, rfl⟩
        · -- 204
          replace hF := gj_iff c201 hF
          refine gj_iconst (q := 205) (gj_dk okX12_onceRead 101 rfl) (by decide) rfl ?_
          refine gj_goto (tgt := 209) (gj_dk okX12_onceRead 102 rfl) (by decide) ?_
          cases hF
          exact gj_zret (gj_dk okX12_onceRead 104 rfl) rfl (by decide) ⟨_, rfl, (by decide), rfl, rfl, rfl⟩
    replace hF := gj_iff c43_7 hF
    refine gj_tabOut (tgt := 210) (gj_dk okX12_onceRead 27 rfl) (by omega) (by decide) ?_
    refine gj_sub [(0, jR 79), (2, jR 99)] ⟨rfl, rfl, trivial⟩ ?_
    exact t_J_X12_onceRead_210 hst M5 hF
  · -- 26
    replace hF := gj_ift c23 hF
    refine gj_iconst (q := 27) (gj_dk okX12_onceRead 14 rfl) (by decide) rfl ?_
    cases hF
    exact gj_zret (gj_dk okX12_onceRead 15 rfl) rfl (by decide) ⟨_, rfl, (by decide), rfl, rfl, rfl⟩
set_option maxHeartbeats 4000000 in
set_option maxRecDepth 20000 in
theorem t_X12_onceRead (hst : gj_Stat S) (a1 : Int) {r : Int × gj_M} (hF : F_X12_onceRead a1 M = some r) : gj_C G l 5 0 0 yX12_onceRead cX12_onceRead 3 (some .boolean) [jR 79, jI a1] S M (gj_qI fun x S' M' => (x = 0 ∨ x = 1) ∧ r.1 = x ∧ S = S' ∧ r.2 = M') := by
  refine gj_Cof (by decide +kernel) (Nat.le_of_ble_eq_true rfl) ?_
  change gj_W G l 5 0 0 yX12_onceRead cX12_onceRead 3 (some .boolean) (gj_qI fun x S' M' => (x = 0 ∨ x = 1) ∧ r.1 = x ∧ S = S' ∧ r.2 = M') 0 0 0 [(0, jR 79), (1, jI a1)] [] S M
  unfold F_X12_onceRead at hF
  refine gj_aload_n (q := 1) (gj_dk okX12_onceRead 0 rfl) rfl rfl ?_
  refine gj_iload_n (q := 2) (gj_dk okX12_onceRead 1 rfl) rfl rfl ?_
  refine gj_iconst (q := 3) (gj_dk okX12_onceRead 2 rfl) (by decide) rfl ?_
  refine gj_icmp_lt (q := 6) (tgt := 19) (gj_dk okX12_onceRead 3 rfl) (by decide) rfl (fun c3 => ?_) (fun c3 => ?_)
  · -- 19
    replace hF := gj_ift c3 hF
    refine gj_iconst (q := 20) (gj_dk okX12_onceRead 11 rfl) (by decide) rfl ?_
    refine gj_sub [(0, jR 79), (1, jI a1)] ⟨rfl, rfl, trivial⟩ ?_
    exact t_J_X12_onceRead_20 hst a1 0 M hF
  · -- 6
    replace hF := gj_iff c3 hF
    refine gj_aload_n (q := 7) (gj_dk okX12_onceRead 4 rfl) rfl rfl ?_
    refine gj_gR (q := 10) (j := 17) (gj_dk okX12_onceRead 5 rfl) ff_X12_51 (sh79 hst) (by decide) rfl (rf79_17 hst) rfl ?_
    refine gj_iload_n (q := 11) (gj_dk okX12_onceRead 6 rfl) rfl rfl ?_
    obtain ⟨b1, hF⟩ := gj_ckd hF
    refine gj_zald (q := 12) (gj_dk okX12_onceRead 7 rfl) (sh106 hst) b1.1 b1.2 rfl ?_
    refine gj_if_ne (q := 15) (tgt := 19) (gj_dk okX12_onceRead 8 rfl) (by decide) rfl (fun c12 => ?_) (fun c12 => ?_)
    · -- 19
      replace hF := gj_iff c12 hF
      refine gj_iconst (q := 20) (gj_dk okX12_onceRead 11 rfl) (by decide) rfl ?_
      refine gj_sub [(0, jR 79), (1, jI a1)] ⟨rfl, rfl, trivial⟩ ?_
      exact t_J_X12_onceRead_20 hst a1 0 M hF
    · -- 15
      replace hF := gj_ift c12 hF
      refine gj_iconst (q := 16) (gj_dk okX12_onceRead 9 rfl) (by decide) rfl ?_
      refine gj_goto (tgt := 20) (gj_dk okX12_onceRead 10 rfl) (by decide) ?_
      refine gj_sub [(0, jR 79), (1, jI a1)] ⟨rfl, rfl, trivial⟩ ?_
      exact t_J_X12_onceRead_20 hst a1 1 M hF
def F_X12_line (M : gj_M) : Option (Int × gj_M) :=
  gj_bnd (F_X12_wordHere M) (fun x1 => (if x1 = 0 then gj_bnd2 (F_X12_personRead x1 M) (fun x3 M4 => (some ((x3, M4)))) else (if x1 = 1 then gj_bnd2 (F_X12_personRead x1 M) (fun x11 M12 => (some ((x11, M12)))) else (if x1 = 2 then gj_bnd2 (F_X12_thinkRead M) (fun x9 M10 => (some ((x9, M10)))) else (if x1 = 3 then gj_bnd2 (F_X12_fitRead M) (fun x7 M8 => (some ((x7, M8)))) else gj_bnd2 (F_X12_onceRead x1 M) (fun x5 M6 => (some ((x5, M6)))))))))
set_option maxHeartbeats 4000000 in
set_option maxRecDepth 20000 in
theorem t_X12_line (hst : gj_Stat S) {r : Int × gj_M} (hF : F_X12_line M = some r) : gj_C G l 9 0 0 yX12_line cX12_line 2 (some .boolean) [jR 79] S M (gj_qI fun x S' M' => (x = 0 ∨ x = 1) ∧ r.1 = x ∧ S = S' ∧ r.2 = M') := by
  refine gj_Cof (by decide +kernel) (Nat.le_of_ble_eq_true rfl) ?_
  change gj_W G l 9 0 0 yX12_line cX12_line 2 (some .boolean) (gj_qI fun x S' M' => (x = 0 ∨ x = 1) ∧ r.1 = x ∧ S = S' ∧ r.2 = M') 0 0 0 [(0, jR 79)] [] S M
  unfold F_X12_line at hF
  refine gj_aload_n (q := 1) (gj_dk okX12_line 0 rfl) rfl rfl ?_
  obtain ⟨x1, hG, hF⟩ := gj_bndd hF
  refine gj_callV (q := 4) (z := 79) (ci := 10) [] rfl (t_X12_wordHere hst  hG) (gj_dk okX12_line 1 rfl) ml_X12_208 me_X12_wordHere (sh79 hst) rfl (gj_nm rfl) rfl (gj_kI fun y S2 M2 h => ?_)
  obtain ⟨e, eS, eM⟩ := h; subst eS; subst eM; subst e; clear hG
  refine gj_istore_n (q := 5) (gj_dk okX12_line 2 rfl) (by decide) rfl ?_
  refine gj_iload_n (q := 6) (gj_dk okX12_line 3 rfl) rfl rfl ?_
  refine gj_if_eq (q := 9) (tgt := 14) (gj_dk okX12_line 4 rfl) (by decide) rfl (fun c6 => ?_) (fun c6 => ?_)
  · -- 14
    replace hF := gj_ift c6 hF
    refine gj_aload_n (q := 15) (gj_dk okX12_line 8 rfl) rfl rfl ?_
    refine gj_iload_n (q := 16) (gj_dk okX12_line 9 rfl) rfl rfl ?_
    obtain ⟨x3, M4, hG, hF⟩ := gj_bnd2d hF
    refine gj_callV (q := 19) (z := 79) (ci := 10) [jI x1] rfl (t_X12_personRead hst x1 hG) (gj_dk okX12_line 10 rfl) ml_X12_238 me_X12_personRead (sh79 hst) rfl (gj_nm rfl) rfl (gj_kI fun y S2 M2 h => ?_)
    obtain ⟨bx3, e, eS, eM⟩ := h; subst eS; subst eM; subst e; clear hG
    dsimp only at bx3 ⊢
    cases hF
    exact gj_zret (gj_dk okX12_line 11 rfl) rfl bx3 ⟨_, rfl, bx3, rfl, rfl, rfl⟩
  · -- 9
    replace hF := gj_iff c6 hF
    refine gj_iload_n (q := 10) (gj_dk okX12_line 5 rfl) rfl rfl ?_
    refine gj_iconst (q := 11) (gj_dk okX12_line 6 rfl) (by decide) rfl ?_
    refine gj_icmp_ne (q := 14) (tgt := 20) (gj_dk okX12_line 7 rfl) (by decide) rfl (fun c11 => ?_) (fun c11 => ?_)
    · -- 20
      replace hF := gj_iff c11 hF
      refine gj_iload_n (q := 21) (gj_dk okX12_line 12 rfl) rfl rfl ?_
      refine gj_iconst (q := 22) (gj_dk okX12_line 13 rfl) (by decide) rfl ?_
      refine gj_icmp_ne (q := 25) (tgt := 30) (gj_dk okX12_line 14 rfl) (by decide) rfl (fun c22 => ?_) (fun c22 => ?_)
      · -- 30
        replace hF := gj_iff c22 hF
        refine gj_iload_n (q := 31) (gj_dk okX12_line 18 rfl) rfl rfl ?_
        refine gj_iconst (q := 32) (gj_dk okX12_line 19 rfl) (by decide) rfl ?_
        refine gj_icmp_ne (q := 35) (tgt := 42) (gj_dk okX12_line 20 rfl) (by decide) rfl (fun c32 => ?_) (fun c32 => ?_)
        · -- 42
          replace hF := gj_iff c32 hF
          refine gj_aload_n (q := 43) (gj_dk okX12_line 24 rfl) rfl rfl ?_
          refine gj_iload_n (q := 44) (gj_dk okX12_line 25 rfl) rfl rfl ?_
          obtain ⟨x5, M6, hG, hF⟩ := gj_bnd2d hF
          refine gj_callV (q := 47) (z := 79) (ci := 10) [jI x1] rfl (t_X12_onceRead hst x1 hG) (gj_dk okX12_line 26 rfl) ml_X12_247 me_X12_onceRead (sh79 hst) rfl (gj_nm rfl) rfl (gj_kI fun y S2 M2 h => ?_)
          obtain ⟨bx5, e, eS, eM⟩ := h; subst eS; subst eM; subst e; clear hG
          dsimp only at bx5 ⊢
          cases hF
          exact gj_zret (gj_dk okX12_line 27 rfl) rfl bx5 ⟨_, rfl, bx5, rfl, rfl, rfl⟩
        · -- 35
          replace hF := gj_ift c32 hF
          refine gj_aload_n (q := 36) (gj_dk okX12_line 21 rfl) rfl rfl ?_
          obtain ⟨x7, M8, hG, hF⟩ := gj_bnd2d hF
          refine gj_callV (q := 39) (z := 79) (ci := 10) [] rfl (t_X12_fitRead hst  hG) (gj_dk okX12_line 22 rfl) ml_X12_244 me_X12_fitRead (sh79 hst) rfl (gj_nm rfl) rfl (gj_kI fun y S2 M2 h => ?_)
          obtain ⟨bx7, e, eS, eM⟩ := h; subst eS; subst eM; subst e; clear hG
          dsimp only at bx7 ⊢
          refine gj_goto (tgt := 47) (gj_dk okX12_line 23 rfl) (by decide) ?_
          cases hF
          exact gj_zret (gj_dk okX12_line 27 rfl) rfl bx7 ⟨_, rfl, bx7, rfl, rfl, rfl⟩
      · -- 25
        replace hF := gj_ift c22 hF
        refine gj_aload_n (q := 26) (gj_dk okX12_line 15 rfl) rfl rfl ?_
        obtain ⟨x9, M10, hG, hF⟩ := gj_bnd2d hF
        refine gj_callV (q := 29) (z := 79) (ci := 10) [] rfl (t_X12_thinkRead hst  hG) (gj_dk okX12_line 16 rfl) ml_X12_241 me_X12_thinkRead (sh79 hst) rfl (gj_nm rfl) rfl (gj_kI fun y S2 M2 h => ?_)
        obtain ⟨bx9, e, eS, eM⟩ := h; subst eS; subst eM; subst e; clear hG
        dsimp only at bx9 ⊢
        cases hF
        exact gj_zret (gj_dk okX12_line 17 rfl) rfl bx9 ⟨_, rfl, bx9, rfl, rfl, rfl⟩
    · -- 14
      replace hF := gj_ift c11 hF
      refine gj_aload_n (q := 15) (gj_dk okX12_line 8 rfl) rfl rfl ?_
      refine gj_iload_n (q := 16) (gj_dk okX12_line 9 rfl) rfl rfl ?_
      obtain ⟨x11, M12, hG, hF⟩ := gj_bnd2d hF
      refine gj_callV (q := 19) (z := 79) (ci := 10) [jI x1] rfl (t_X12_personRead hst x1 hG) (gj_dk okX12_line 10 rfl) ml_X12_238 me_X12_personRead (sh79 hst) rfl (gj_nm rfl) rfl (gj_kI fun y S2 M2 h => ?_)
      obtain ⟨bx11, e, eS, eM⟩ := h; subst eS; subst eM; subst e; clear hG
      dsimp only at bx11 ⊢
      cases hF
      exact gj_zret (gj_dk okX12_line 11 rfl) rfl bx11 ⟨_, rfl, bx11, rfl, rfl, rfl⟩
def J_X12_reads_224 (l2 : Int) (c : Int) (M : gj_M) : Option (Int × gj_M) :=
  (if l2 = 0 then (some ((c, M))) else (if M 102 0 = 0 then gj_let (gj_up M 79 5 (M 79 2)) (fun M37 => (some ((c, M37)))) else (if M 102 1 = 0 then gj_let (gj_up M 79 5 (M 79 2)) (fun M38 => (some ((c, M38)))) else (some ((c, M))))))
def B_X12_reads_201 (rec201 : Int → Int → gj_M → Option (Int × gj_M)) (l2 : Int) (c : Int) (M : gj_M) : Option (Int × gj_M) :=
  (if l2 = 0 then (J_X12_reads_224 l2 c M) else (if M 79 2 ≤ M 79 3 then (J_X12_reads_224 l2 c M) else gj_bnd2 (F_X12_line M) (fun x35 M36 => rec201 x35 c M36)))
def J_X12_reads_190 (c : Int) (M : gj_M) : Option (Int × gj_M) :=
  gj_let (gj_up M 79 4 0) (fun M32 => gj_bnd (F_X12_next M32) (fun M34 => (gj_it (fun _ _ _ => none) (B_X12_reads_201) gj_fu 1 c M34)))
def B_X12_reads_167 (rec167 : Int → Int → Int → gj_M → Option (Int × gj_M)) (l2 zz : Int) (c : Int) (M : gj_M) : Option (Int × gj_M) :=
  (if 8 ≤ l2 then (J_X12_reads_190 c M) else gj_chk (0 ≤ l2 ∧ l2 < 8) (gj_chk (0 ≤ l2 ∧ l2 < 8) (gj_let (gj_up M 99 l2 (M zz l2)) (fun M31 => rec167 (gj_w (l2 + 1)) zz c M31))))
def J_X12_reads_125 (c : Int) (M : gj_M) : Option (Int × gj_M) :=
  gj_let (gj_nMc c M) (fun M20 => gj_let (gj_up M20 c 0 10) (fun M21 => gj_let (gj_up M21 c 1 0) (fun M22 => gj_let (gj_up M22 c 2 1) (fun M23 => gj_let (gj_up M23 c 3 0) (fun M24 => gj_let (gj_up M24 c 4 0) (fun M25 => gj_let (gj_up M25 c 5 0) (fun M26 => gj_let (gj_up M26 c 6 0) (fun M27 => gj_let (gj_up M27 c 7 3) (fun M28 => (gj_it (fun _ _ _ _ => none) (B_X12_reads_167) gj_fu 0 c ((c + 1)) M28))))))))))
def B_X12_reads_106 (rec106 : Int → Int → gj_M → Option (Int × gj_M)) (l1 : Int) (c : Int) (M : gj_M) : Option (Int × gj_M) :=
  (if 9 ≤ l1 then (J_X12_reads_125 c M) else gj_chk (0 ≤ l1 ∧ l1 < 9) (gj_let (gj_up M 106 l1 0) (fun M17 => rec106 (gj_w (l1 + 1)) c M17)))
def J_X12_reads_104 (c : Int) (M : gj_M) : Option (Int × gj_M) :=
  (gj_it (fun _ _ _ => none) (B_X12_reads_106) gj_fu 0 c M)
def B_X12_reads_75 (rec75 : Int → Int → gj_M → Option (Int × gj_M)) (l1 : Int) (c : Int) (M : gj_M) : Option (Int × gj_M) :=
  (if 16 ≤ l1 then (J_X12_reads_104 c M) else gj_chk (0 ≤ l1 ∧ l1 < 16) (gj_let (gj_up M 105 l1 0) (fun M13 => gj_chk (0 ≤ l1 ∧ l1 < 16) (gj_let (gj_up M13 96 l1 8) (fun M15 => rec75 (gj_w (l1 + 1)) c M15)))))
def J_X12_reads_73 (c : Int) (M : gj_M) : Option (Int × gj_M) :=
  (gj_it (fun _ _ _ => none) (B_X12_reads_75) gj_fu 0 c M)
def B_X12_reads_25 (rec25 : Int → Int → gj_M → Option (Int × gj_M)) (l1 : Int) (c : Int) (M : gj_M) : Option (Int × gj_M) :=
  (if 32 ≤ l1 then (J_X12_reads_73 c M) else gj_chk (0 ≤ l1 ∧ l1 < 32) (gj_let (gj_up M 104 l1 0) (fun M5 => gj_chk (0 ≤ l1 ∧ l1 < 32) (gj_let (gj_up M5 87 l1 8) (fun M7 => gj_chk (0 ≤ l1 ∧ l1 < 32) (gj_let (gj_up M7 90 l1 12) (fun M9 => gj_chk (0 ≤ l1 ∧ l1 < 32) (gj_let (gj_up M9 93 l1 4) (fun M11 => rec25 (gj_w (l1 + 1)) c M11)))))))))
def F_X12_reads (c : Int) (M : gj_M) : Option (Int × gj_M) :=
  gj_let (gj_up M 79 5 (-1)) (fun M1 => gj_let (gj_up M1 102 0 0) (fun M2 => gj_let (gj_up M2 102 1 0) (fun M3 => (gj_it (fun _ _ _ => none) (B_X12_reads_25) gj_fu 0 c M3))))
set_option maxHeartbeats 4000000 in
set_option maxRecDepth 20000 in
theorem t_J_X12_reads_224 {r : Int × gj_M} : ∀ {S : gj_S} (l2 : Int) (c : Int) (M : gj_M), gj_Stat S → S.1 = c → J_X12_reads_224 l2 c M = some r → gj_W G l 10 1 8 yX12_reads cX12_reads 3 none (gj_qV fun S' M' => gj_Stat S' ∧ S'.1 = r.1 ∧ r.2 = M') 1 8 224 [(0, jR 79), (2, jI l2)] [] S M := by
  intro S l2 c M hst hc hF
  unfold J_X12_reads_224 at hF
  refine gj_iload_n (q := 225) (gj_dk okX12_reads_2 30 rfl) rfl rfl ?_
  refine gj_if_eq (q := 228) (tgt := 258) (gj_dk okX12_reads_2 31 rfl) (by decide) rfl (fun c225 => ?_) (fun c225 => ?_)
  · -- 258
    replace hF := gj_ift c225 hF
    cases hF
    exact gj_vret (gj_dk okX12_reads_2 50 rfl) rfl ⟨rfl, hst, hc, rfl⟩
  · -- 228
    replace hF := gj_iff c225 hF
    refine gj_aload_n (q := 229) (gj_dk okX12_reads_2 32 rfl) rfl rfl ?_
    refine gj_gR (q := 232) (j := 13) (gj_dk okX12_reads_2 33 rfl) ff_X12_37 (sh79 hst) (by decide) rfl (rf79_13 hst) rfl ?_
    refine gj_iconst (q := 233) (gj_dk okX12_reads_2 34 rfl) (by decide) rfl ?_
    refine gj_aald (q := 234) (gj_dk okX12_reads_2 35 rfl) (sh100 hst) (by decide) (by decide) (by decide) (rf100_1 hst) rfl ?_
    refine gj_iconst (q := 235) (gj_dk okX12_reads_2 36 rfl) (by decide) rfl ?_
    refine gj_iald (q := 236) (gj_dk okX12_reads_2 37 rfl) (sh102 hst) (by decide) (by decide) rfl ?_
    refine gj_if_eq (q := 239) (tgt := 250) (gj_dk okX12_reads_2 38 rfl) (by decide) rfl (fun c236 => ?_) (fun c236 => ?_)
    · -- 250
      replace hF := gj_ift c236 hF
      refine gj_aload_n (q := 251) (gj_dk okX12_reads_2 46 rfl) rfl rfl ?_
      refine gj_aload_n (q := 252) (gj_dk okX12_reads_2 47 rfl) rfl rfl ?_
      refine gj_gI (q := 255) (j := 2) (gj_dk okX12_reads_2 48 rfl) ff_X12_162 (sh79 hst) (by decide) rfl rfl ?_
      refine gj_pfI (q := 258) (j := 5) (gj_dk okX12_reads_2 49 rfl) ff_X12_187 (sh79 hst) (by decide) rfl rfl ?_
      refine gj_stp hF (fun M37 hF => ?_)
      cases hF
      exact gj_vret (gj_dk okX12_reads_2 50 rfl) rfl ⟨rfl, hst, hc, rfl⟩
    · -- 239
      replace hF := gj_iff c236 hF
      refine gj_aload_n (q := 240) (gj_dk okX12_reads_2 39 rfl) rfl rfl ?_
      refine gj_gR (q := 243) (j := 13) (gj_dk okX12_reads_2 40 rfl) ff_X12_37 (sh79 hst) (by decide) rfl (rf79_13 hst) rfl ?_
      refine gj_iconst (q := 244) (gj_dk okX12_reads_2 41 rfl) (by decide) rfl ?_
      refine gj_aald (q := 245) (gj_dk okX12_reads_2 42 rfl) (sh100 hst) (by decide) (by decide) (by decide) (rf100_1 hst) rfl ?_
      refine gj_iconst (q := 246) (gj_dk okX12_reads_2 43 rfl) (by decide) rfl ?_
      refine gj_iald (q := 247) (gj_dk okX12_reads_2 44 rfl) (sh102 hst) (by decide) (by decide) rfl ?_
      refine gj_if_ne (q := 250) (tgt := 258) (gj_dk okX12_reads_2 45 rfl) (by decide) rfl (fun c247 => ?_) (fun c247 => ?_)
      · -- 258
        replace hF := gj_iff c247 hF
        cases hF
        exact gj_vret (gj_dk okX12_reads_2 50 rfl) rfl ⟨rfl, hst, hc, rfl⟩
      · -- 250
        replace hF := gj_ift c247 hF
        refine gj_aload_n (q := 251) (gj_dk okX12_reads_2 46 rfl) rfl rfl ?_
        refine gj_aload_n (q := 252) (gj_dk okX12_reads_2 47 rfl) rfl rfl ?_
        refine gj_gI (q := 255) (j := 2) (gj_dk okX12_reads_2 48 rfl) ff_X12_162 (sh79 hst) (by decide) rfl rfl ?_
        refine gj_pfI (q := 258) (j := 5) (gj_dk okX12_reads_2 49 rfl) ff_X12_187 (sh79 hst) (by decide) rfl rfl ?_
        refine gj_stp hF (fun M38 hF => ?_)
        cases hF
        exact gj_vret (gj_dk okX12_reads_2 50 rfl) rfl ⟨rfl, hst, hc, rfl⟩
set_option maxHeartbeats 4000000 in
set_option maxRecDepth 20000 in
theorem t_B_X12_reads_201 {r : Int × gj_M} {rec201 : Int → Int → gj_M → Option (Int × gj_M)} (hrec201 : ∀ {S : gj_S} (l2 : Int) (c : Int) (M : gj_M), gj_Stat S → S.1 = c → rec201 l2 c M = some r → gj_W G l 10 1 8 yX12_reads cX12_reads 3 none (gj_qV fun S' M' => gj_Stat S' ∧ S'.1 = r.1 ∧ r.2 = M') 1 8 201 [(0, jR 79), (2, jI l2)] [] S M) : ∀ {S : gj_S} (l2 : Int) (c : Int) (M : gj_M), gj_Stat S → S.1 = c → B_X12_reads_201 rec201 l2 c M = some r → gj_W G l 10 1 8 yX12_reads cX12_reads 3 none (gj_qV fun S' M' => gj_Stat S' ∧ S'.1 = r.1 ∧ r.2 = M') 1 8 201 [(0, jR 79), (2, jI l2)] [] S M := by
  intro S l2 c M hst hc hF
  unfold B_X12_reads_201 at hF
  refine gj_iload_n (q := 202) (gj_dk okX12_reads_2 19 rfl) rfl rfl ?_
  refine gj_if_eq (q := 205) (tgt := 224) (gj_dk okX12_reads_2 20 rfl) (by decide) rfl (fun c202 => ?_) (fun c202 => ?_)
  · -- 224
    replace hF := gj_ift c202 hF
    refine gj_sub [(0, jR 79), (2, jI l2)] ⟨rfl, rfl, trivial⟩ ?_
    exact t_J_X12_reads_224 l2 c M hst hc hF
  · -- 205
    replace hF := gj_iff c202 hF
    refine gj_aload_n (q := 206) (gj_dk okX12_reads_2 21 rfl) rfl rfl ?_
    refine gj_gI (q := 209) (j := 3) (gj_dk okX12_reads_2 22 rfl) ff_X12_180 (sh79 hst) (by decide) rfl rfl ?_
    refine gj_aload_n (q := 210) (gj_dk okX12_reads_2 23 rfl) rfl rfl ?_
    refine gj_gI (q := 213) (j := 2) (gj_dk okX12_reads_2 24 rfl) ff_X12_162 (sh79 hst) (by decide) rfl rfl ?_
    refine gj_icmp_ge (q := 216) (tgt := 224) (gj_dk okX12_reads_2 25 rfl) (by decide) rfl (fun c213 => ?_) (fun c213 => ?_)
    · -- 224
      replace hF := gj_ift c213 hF
      refine gj_sub [(0, jR 79), (2, jI l2)] ⟨rfl, rfl, trivial⟩ ?_
      exact t_J_X12_reads_224 l2 c M hst hc hF
    · -- 216
      replace hF := gj_iff c213 hF
      refine gj_aload_n (q := 217) (gj_dk okX12_reads_2 26 rfl) rfl rfl ?_
      obtain ⟨x35, M36, hG, hF⟩ := gj_bnd2d hF
      refine gj_callV (q := 220) (z := 79) (ci := 10) [] rfl (t_X12_line hst  hG) (gj_dk okX12_reads_2 27 rfl) ml_X12_250 me_X12_line (sh79 hst) rfl ⟨by omega, Nat.le_of_ble_eq_true rfl, rfl, Nat.le_of_ble_eq_true rfl, by omega, by omega⟩ rfl (gj_kI fun y S2 M2 h => ?_)
      obtain ⟨bx35, e, eS, eM⟩ := h; subst eS; subst eM; subst e; clear hG
      dsimp only at bx35 ⊢
      refine gj_istore_n (q := 221) (gj_dk okX12_reads_2 28 rfl) (by decide) rfl ?_
      refine gj_goto (tgt := 201) (gj_dk okX12_reads_2 29 rfl) (by decide) ?_
      refine gj_sub [(0, jR 79), (2, jI x35)] ⟨rfl, rfl, trivial⟩ ?_
      exact hrec201 x35 c M36 hst hc hF
theorem t_L_X12_reads_201 {r : Int × gj_M} : ∀ (m : Nat), ∀ {S : gj_S} (l2 : Int) (c : Int) (M : gj_M), gj_Stat S → S.1 = c → gj_it (fun _ _ _ => none) (B_X12_reads_201) m l2 c M = some r → gj_W G l 10 1 8 yX12_reads cX12_reads 3 none (gj_qV fun S' M' => gj_Stat S' ∧ S'.1 = r.1 ∧ r.2 = M') 1 8 201 [(0, jR 79), (2, jI l2)] [] S M := by
  intro m
  induction m with
  | zero => intro S l2 c M hst hc hF; cases (show (none : Option (Int × gj_M)) = some r from hF)
  | succ m ih => intro S l2 c M hst hc hF; exact t_B_X12_reads_201 (fun l2 c M hst hc h => ih l2 c M hst hc h) l2 c M hst hc hF
set_option maxHeartbeats 4000000 in
set_option maxRecDepth 20000 in
theorem t_J_X12_reads_190 {r : Int × gj_M} : ∀ {S : gj_S} (c : Int) (M : gj_M), gj_Stat S → S.1 = c → J_X12_reads_190 c M = some r → gj_W G l 10 1 8 yX12_reads cX12_reads 3 none (gj_qV fun S' M' => gj_Stat S' ∧ S'.1 = r.1 ∧ r.2 = M') 1 8 190 [(0, jR 79)] [] S M := by
  intro S c M hst hc hF
  unfold J_X12_reads_190 at hF
  refine gj_aload_n (q := 191) (gj_dk okX12_reads_2 12 rfl) rfl rfl ?_
  refine gj_iconst (q := 192) (gj_dk okX12_reads_2 13 rfl) (by decide) rfl ?_
  refine gj_pfI (q := 195) (j := 4) (gj_dk okX12_reads_2 14 rfl) ff_X12_177 (sh79 hst) (by decide) rfl rfl ?_
  refine gj_stp hF (fun M32 hF => ?_)
  refine gj_aload_n (q := 196) (gj_dk okX12_reads_2 15 rfl) rfl rfl ?_
  obtain ⟨M34, hG, hF⟩ := gj_bndd hF
  refine gj_callV (q := 199) (z := 79) (ci := 10) [] rfl (t_X12_next hst  hG) (gj_dk okX12_reads_2 16 rfl) ml_X12_190 me_X12_next (sh79 hst) rfl ⟨by omega, Nat.le_of_ble_eq_true rfl, rfl, Nat.le_of_ble_eq_true rfl, by omega, by omega⟩ rfl (gj_kV fun S2 M2 h => ?_)
  obtain ⟨eS, eM⟩ := h; subst eS; subst eM; clear hG
  refine gj_iconst (q := 200) (gj_dk okX12_reads_2 17 rfl) (by decide) rfl ?_
  refine gj_istore_n (q := 201) (gj_dk okX12_reads_2 18 rfl) (by decide) rfl ?_
  refine gj_sub [(0, jR 79), (2, jI 1)] ⟨rfl, rfl, trivial⟩ ?_
  exact t_L_X12_reads_201 gj_fu 1 c M34 hst hc hF
set_option maxHeartbeats 4000000 in
set_option maxRecDepth 20000 in
theorem t_B_X12_reads_167 {r : Int × gj_M} {rec167 : Int → Int → Int → gj_M → Option (Int × gj_M)} (hrec167 : ∀ {S : gj_S} (l2 : Int) (zz : Int) (c : Int) (M : gj_M), gj_Stat S → S.1 = c → S.2.1 zz = (0, 8) → 136 ≤ zz → rec167 l2 zz c M = some r → gj_W G l 10 1 8 yX12_reads cX12_reads 3 none (gj_qV fun S' M' => gj_Stat S' ∧ S'.1 = r.1 ∧ r.2 = M') 1 8 167 [(0, jR 79), (1, jR zz), (2, jI l2)] [] S M) : ∀ {S : gj_S} (l2 : Int) (zz : Int) (c : Int) (M : gj_M), gj_Stat S → S.1 = c → S.2.1 zz = (0, 8) → 136 ≤ zz → B_X12_reads_167 rec167 l2 zz c M = some r → gj_W G l 10 1 8 yX12_reads cX12_reads 3 none (gj_qV fun S' M' => gj_Stat S' ∧ S'.1 = r.1 ∧ r.2 = M') 1 8 167 [(0, jR 79), (1, jR zz), (2, jI l2)] [] S M := by
  intro S l2 zz c M hst hc hz hz0 hF
  unfold B_X12_reads_167 at hF
  refine gj_iload_n (q := 168) (gj_dk okX12_reads_1 58 rfl) rfl rfl ?_
  refine gj_bipush (q := 170) (gj_dk okX12_reads_1 59 rfl) (by decide) rfl rfl ?_
  refine gj_icmp_ge (q := 173) (tgt := 190) (gj_dk okX12_reads_2 0 rfl) (by decide) rfl (fun c170 => ?_) (fun c170 => ?_)
  · -- 190
    replace hF := gj_ift c170 hF
    refine gj_sub [(0, jR 79)] ⟨rfl, trivial⟩ ?_
    exact t_J_X12_reads_190 c M hst hc hF
  · -- 173
    replace hF := gj_iff c170 hF
    refine gj_aload_n (q := 174) (gj_dk okX12_reads_2 1 rfl) rfl rfl ?_
    refine gj_gR (q := 177) (j := 12) (gj_dk okX12_reads_2 2 rfl) ff_X12_34 (sh79 hst) (by decide) rfl (rf79_12 hst) rfl ?_
    refine gj_iconst (q := 178) (gj_dk okX12_reads_2 3 rfl) (by decide) rfl ?_
    refine gj_aald (q := 179) (gj_dk okX12_reads_2 4 rfl) (sh97 hst) (by decide) (by decide) (by decide) (rf97_1 hst) rfl ?_
    refine gj_iload_n (q := 180) (gj_dk okX12_reads_2 5 rfl) rfl rfl ?_
    refine gj_aload_n (q := 181) (gj_dk okX12_reads_2 6 rfl) rfl rfl ?_
    refine gj_iload_n (q := 182) (gj_dk okX12_reads_2 7 rfl) rfl rfl ?_
    obtain ⟨b29, hF⟩ := gj_ckd hF
    refine gj_iald (q := 183) (gj_dk okX12_reads_2 8 rfl) hz b29.1 b29.2 rfl ?_
    obtain ⟨b30, hF⟩ := gj_ckd hF
    refine gj_iast (q := 184) (gj_dk okX12_reads_2 9 rfl) (sh99 hst) b30.1 b30.2 rfl ?_
    refine gj_stp hF (fun M31 hF => ?_)
    refine gj_iinc (q := 187) (v := gj_w (l2 + 1)) (gj_dk okX12_reads_2 10 rfl) rfl (by decide) rfl rfl ?_
    refine gj_goto (tgt := 167) (gj_dk okX12_reads_2 11 rfl) (by decide) ?_
    refine gj_sub [(0, jR 79), (1, jR zz), (2, jI (gj_w (l2 + 1)))] ⟨rfl, rfl, rfl, trivial⟩ ?_
    exact hrec167 (gj_w (l2 + 1)) zz c M31 hst hc hz hz0 hF
theorem t_L_X12_reads_167 {r : Int × gj_M} : ∀ (m : Nat), ∀ {S : gj_S} (l2 : Int) (zz : Int) (c : Int) (M : gj_M), gj_Stat S → S.1 = c → S.2.1 zz = (0, 8) → 136 ≤ zz → gj_it (fun _ _ _ _ => none) (B_X12_reads_167) m l2 zz c M = some r → gj_W G l 10 1 8 yX12_reads cX12_reads 3 none (gj_qV fun S' M' => gj_Stat S' ∧ S'.1 = r.1 ∧ r.2 = M') 1 8 167 [(0, jR 79), (1, jR zz), (2, jI l2)] [] S M := by
  intro m
  induction m with
  | zero => intro S l2 zz c M hst hc hz hz0 hF; cases (show (none : Option (Int × gj_M)) = some r from hF)
  | succ m ih => intro S l2 zz c M hst hc hz hz0 hF; exact t_B_X12_reads_167 (fun l2 zz c M hst hc hz hz0 h => ih l2 zz c M hst hc hz hz0 h) l2 zz c M hst hc hz hz0 hF
set_option maxHeartbeats 4000000 in
set_option maxRecDepth 20000 in
theorem t_J_X12_reads_125 {r : Int × gj_M} : ∀ {S : gj_S} (c : Int) (M : gj_M), gj_Stat S → S.1 = c → J_X12_reads_125 c M = some r → gj_W G l 10 1 8 yX12_reads cX12_reads 3 none (gj_qV fun S' M' => gj_Stat S' ∧ S'.1 = r.1 ∧ r.2 = M') 0 0 125 [(0, jR 79)] [] S M := by
  intro S c M hst hc hF
  unfold J_X12_reads_125 at hF
  refine gj_bipush (q := 127) (gj_dk okX12_reads_1 21 rfl) (by decide) rfl rfl ?_
  refine gj_newarr (q := 129) (kd := 0) (gj_dk okX12_reads_1 22 rfl) (by decide) rfl ka_int (by decide) (by decide) (by omega) (by omega) rfl ?_
  refine gj_newC hst hc (fun S19 hst hc' hz hz0 => ?_)
  replace hc := hc'; clear hc'
  refine gj_stp hF (fun M20 hF => ?_)
  refine gj_dup (q := 130) (gj_dk okX12_reads_1 23 rfl) rfl rfl ?_
  refine gj_iconst (q := 131) (gj_dk okX12_reads_1 24 rfl) (by decide) rfl ?_
  refine gj_bipush (q := 133) (gj_dk okX12_reads_1 25 rfl) (by decide) rfl rfl ?_
  refine gj_iast (q := 134) (gj_dk okX12_reads_1 26 rfl) hz (by decide) (by decide) rfl ?_
  refine gj_stp hF (fun M21 hF => ?_)
  refine gj_dup (q := 135) (gj_dk okX12_reads_1 27 rfl) rfl rfl ?_
  refine gj_iconst (q := 136) (gj_dk okX12_reads_1 28 rfl) (by decide) rfl ?_
  refine gj_iconst (q := 137) (gj_dk okX12_reads_1 29 rfl) (by decide) rfl ?_
  refine gj_iast (q := 138) (gj_dk okX12_reads_1 30 rfl) hz (by decide) (by decide) rfl ?_
  refine gj_stp hF (fun M22 hF => ?_)
  refine gj_dup (q := 139) (gj_dk okX12_reads_1 31 rfl) rfl rfl ?_
  refine gj_iconst (q := 140) (gj_dk okX12_reads_1 32 rfl) (by decide) rfl ?_
  refine gj_iconst (q := 141) (gj_dk okX12_reads_1 33 rfl) (by decide) rfl ?_
  refine gj_iast (q := 142) (gj_dk okX12_reads_1 34 rfl) hz (by decide) (by decide) rfl ?_
  refine gj_stp hF (fun M23 hF => ?_)
  refine gj_dup (q := 143) (gj_dk okX12_reads_1 35 rfl) rfl rfl ?_
  refine gj_iconst (q := 144) (gj_dk okX12_reads_1 36 rfl) (by decide) rfl ?_
  refine gj_iconst (q := 145) (gj_dk okX12_reads_1 37 rfl) (by decide) rfl ?_
  refine gj_iast (q := 146) (gj_dk okX12_reads_1 38 rfl) hz (by decide) (by decide) rfl ?_
  refine gj_stp hF (fun M24 hF => ?_)
  refine gj_dup (q := 147) (gj_dk okX12_reads_1 39 rfl) rfl rfl ?_
  refine gj_iconst (q := 148) (gj_dk okX12_reads_1 40 rfl) (by decide) rfl ?_
  refine gj_iconst (q := 149) (gj_dk okX12_reads_1 41 rfl) (by decide) rfl ?_
  refine gj_iast (q := 150) (gj_dk okX12_reads_1 42 rfl) hz (by decide) (by decide) rfl ?_
  refine gj_stp hF (fun M25 hF => ?_)
  refine gj_dup (q := 151) (gj_dk okX12_reads_1 43 rfl) rfl rfl ?_
  refine gj_iconst (q := 152) (gj_dk okX12_reads_1 44 rfl) (by decide) rfl ?_
  refine gj_iconst (q := 153) (gj_dk okX12_reads_1 45 rfl) (by decide) rfl ?_
  refine gj_iast (q := 154) (gj_dk okX12_reads_1 46 rfl) hz (by decide) (by decide) rfl ?_
  refine gj_stp hF (fun M26 hF => ?_)
  refine gj_dup (q := 155) (gj_dk okX12_reads_1 47 rfl) rfl rfl ?_
  refine gj_bipush (q := 157) (gj_dk okX12_reads_1 48 rfl) (by decide) rfl rfl ?_
  refine gj_iconst (q := 158) (gj_dk okX12_reads_1 49 rfl) (by decide) rfl ?_
  refine gj_iast (q := 159) (gj_dk okX12_reads_1 50 rfl) hz (by decide) (by decide) rfl ?_
  refine gj_stp hF (fun M27 hF => ?_)
  refine gj_dup (q := 160) (gj_dk okX12_reads_1 51 rfl) rfl rfl ?_
  refine gj_bipush (q := 162) (gj_dk okX12_reads_1 52 rfl) (by decide) rfl rfl ?_
  refine gj_iconst (q := 163) (gj_dk okX12_reads_1 53 rfl) (by decide) rfl ?_
  refine gj_iast (q := 164) (gj_dk okX12_reads_1 54 rfl) hz (by decide) (by decide) rfl ?_
  refine gj_stp hF (fun M28 hF => ?_)
  refine gj_astore_n (q := 165) (gj_dk okX12_reads_1 55 rfl) (by decide) rfl ?_
  refine gj_iconst (q := 166) (gj_dk okX12_reads_1 56 rfl) (by decide) rfl ?_
  refine gj_istore_n (q := 167) (gj_dk okX12_reads_1 57 rfl) (by decide) rfl ?_
  refine gj_wid (k' := 1) (n' := 8) (by omega) (by omega) (by omega) (by omega) ?_
  refine gj_sub [(0, jR 79), (1, jR c), (2, jI 0)] ⟨rfl, rfl, rfl, trivial⟩ ?_
  exact t_L_X12_reads_167 gj_fu 0 c ((c + 1)) M28 hst hc hz hz0 hF
set_option maxHeartbeats 4000000 in
set_option maxRecDepth 20000 in
theorem t_B_X12_reads_106 {r : Int × gj_M} {rec106 : Int → Int → gj_M → Option (Int × gj_M)} (hrec106 : ∀ {S : gj_S} (l1 : Int) (c : Int) (M : gj_M), gj_Stat S → S.1 = c → rec106 l1 c M = some r → gj_W G l 10 1 8 yX12_reads cX12_reads 3 none (gj_qV fun S' M' => gj_Stat S' ∧ S'.1 = r.1 ∧ r.2 = M') 0 0 106 [(0, jR 79), (1, jI l1)] [] S M) : ∀ {S : gj_S} (l1 : Int) (c : Int) (M : gj_M), gj_Stat S → S.1 = c → B_X12_reads_106 rec106 l1 c M = some r → gj_W G l 10 1 8 yX12_reads cX12_reads 3 none (gj_qV fun S' M' => gj_Stat S' ∧ S'.1 = r.1 ∧ r.2 = M') 0 0 106 [(0, jR 79), (1, jI l1)] [] S M := by
  intro S l1 c M hst hc hF
  unfold B_X12_reads_106 at hF
  refine gj_iload_n (q := 107) (gj_dk okX12_reads_1 11 rfl) rfl rfl ?_
  refine gj_bipush (q := 109) (gj_dk okX12_reads_1 12 rfl) (by decide) rfl rfl ?_
  refine gj_icmp_ge (q := 112) (tgt := 125) (gj_dk okX12_reads_1 13 rfl) (by decide) rfl (fun c109 => ?_) (fun c109 => ?_)
  · -- 125
    replace hF := gj_ift c109 hF
    refine gj_sub [(0, jR 79)] ⟨rfl, trivial⟩ ?_
    exact t_J_X12_reads_125 c M hst hc hF
  · -- 112
    replace hF := gj_iff c109 hF
    refine gj_aload_n (q := 113) (gj_dk okX12_reads_1 14 rfl) rfl rfl ?_
    refine gj_gR (q := 116) (j := 17) (gj_dk okX12_reads_1 15 rfl) ff_X12_51 (sh79 hst) (by decide) rfl (rf79_17 hst) rfl ?_
    refine gj_iload_n (q := 117) (gj_dk okX12_reads_1 16 rfl) rfl rfl ?_
    refine gj_iconst (q := 118) (gj_dk okX12_reads_1 17 rfl) (by decide) rfl ?_
    obtain ⟨b16, hF⟩ := gj_ckd hF
    refine gj_zast (q := 119) (gj_dk okX12_reads_1 18 rfl) (sh106 hst) b16.1 b16.2 (by decide) rfl ?_
    refine gj_stp hF (fun M17 hF => ?_)
    refine gj_iinc (q := 122) (v := gj_w (l1 + 1)) (gj_dk okX12_reads_1 19 rfl) rfl (by decide) rfl rfl ?_
    refine gj_goto (tgt := 106) (gj_dk okX12_reads_1 20 rfl) (by decide) ?_
    refine gj_sub [(0, jR 79), (1, jI (gj_w (l1 + 1)))] ⟨rfl, rfl, trivial⟩ ?_
    exact hrec106 (gj_w (l1 + 1)) c M17 hst hc hF
theorem t_L_X12_reads_106 {r : Int × gj_M} : ∀ (m : Nat), ∀ {S : gj_S} (l1 : Int) (c : Int) (M : gj_M), gj_Stat S → S.1 = c → gj_it (fun _ _ _ => none) (B_X12_reads_106) m l1 c M = some r → gj_W G l 10 1 8 yX12_reads cX12_reads 3 none (gj_qV fun S' M' => gj_Stat S' ∧ S'.1 = r.1 ∧ r.2 = M') 0 0 106 [(0, jR 79), (1, jI l1)] [] S M := by
  intro m
  induction m with
  | zero => intro S l1 c M hst hc hF; cases (show (none : Option (Int × gj_M)) = some r from hF)
  | succ m ih => intro S l1 c M hst hc hF; exact t_B_X12_reads_106 (fun l1 c M hst hc h => ih l1 c M hst hc h) l1 c M hst hc hF
set_option maxHeartbeats 4000000 in
set_option maxRecDepth 20000 in
theorem t_J_X12_reads_104 {r : Int × gj_M} : ∀ {S : gj_S} (c : Int) (M : gj_M), gj_Stat S → S.1 = c → J_X12_reads_104 c M = some r → gj_W G l 10 1 8 yX12_reads cX12_reads 3 none (gj_qV fun S' M' => gj_Stat S' ∧ S'.1 = r.1 ∧ r.2 = M') 0 0 104 [(0, jR 79)] [] S M := by
  intro S c M hst hc hF
  unfold J_X12_reads_104 at hF
  refine gj_iconst (q := 105) (gj_dk okX12_reads_1 9 rfl) (by decide) rfl ?_
  refine gj_istore_n (q := 106) (gj_dk okX12_reads_1 10 rfl) (by decide) rfl ?_
  refine gj_sub [(0, jR 79), (1, jI 0)] ⟨rfl, rfl, trivial⟩ ?_
  exact t_L_X12_reads_106 gj_fu 0 c M hst hc hF
set_option maxHeartbeats 4000000 in
set_option maxRecDepth 20000 in
theorem t_B_X12_reads_75 {r : Int × gj_M} {rec75 : Int → Int → gj_M → Option (Int × gj_M)} (hrec75 : ∀ {S : gj_S} (l1 : Int) (c : Int) (M : gj_M), gj_Stat S → S.1 = c → rec75 l1 c M = some r → gj_W G l 10 1 8 yX12_reads cX12_reads 3 none (gj_qV fun S' M' => gj_Stat S' ∧ S'.1 = r.1 ∧ r.2 = M') 0 0 75 [(0, jR 79), (1, jI l1)] [] S M) : ∀ {S : gj_S} (l1 : Int) (c : Int) (M : gj_M), gj_Stat S → S.1 = c → B_X12_reads_75 rec75 l1 c M = some r → gj_W G l 10 1 8 yX12_reads cX12_reads 3 none (gj_qV fun S' M' => gj_Stat S' ∧ S'.1 = r.1 ∧ r.2 = M') 0 0 75 [(0, jR 79), (1, jI l1)] [] S M := by
  intro S l1 c M hst hc hF
  unfold B_X12_reads_75 at hF
  refine gj_iload_n (q := 76) (gj_dk okX12_reads_0 52 rfl) rfl rfl ?_
  refine gj_bipush (q := 78) (gj_dk okX12_reads_0 53 rfl) (by decide) rfl rfl ?_
  refine gj_icmp_ge (q := 81) (tgt := 104) (gj_dk okX12_reads_0 54 rfl) (by decide) rfl (fun c78 => ?_) (fun c78 => ?_)
  · -- 104
    replace hF := gj_ift c78 hF
    refine gj_sub [(0, jR 79)] ⟨rfl, trivial⟩ ?_
    exact t_J_X12_reads_104 c M hst hc hF
  · -- 81
    replace hF := gj_iff c78 hF
    refine gj_aload_n (q := 82) (gj_dk okX12_reads_0 55 rfl) rfl rfl ?_
    refine gj_gR (q := 85) (j := 16) (gj_dk okX12_reads_0 56 rfl) ff_X12_48 (sh79 hst) (by decide) rfl (rf79_16 hst) rfl ?_
    refine gj_iload_n (q := 86) (gj_dk okX12_reads_0 57 rfl) rfl rfl ?_
    refine gj_iconst (q := 87) (gj_dk okX12_reads_0 58 rfl) (by decide) rfl ?_
    obtain ⟨b12, hF⟩ := gj_ckd hF
    refine gj_zast (q := 88) (gj_dk okX12_reads_0 59 rfl) (sh105 hst) b12.1 b12.2 (by decide) rfl ?_
    refine gj_stp hF (fun M13 hF => ?_)
    refine gj_aload_n (q := 89) (gj_dk okX12_reads_1 0 rfl) rfl rfl ?_
    refine gj_gR (q := 92) (j := 11) (gj_dk okX12_reads_1 1 rfl) ff_X12_31 (sh79 hst) (by decide) rfl (rf79_11 hst) rfl ?_
    refine gj_iconst (q := 93) (gj_dk okX12_reads_1 2 rfl) (by decide) rfl ?_
    refine gj_aald (q := 94) (gj_dk okX12_reads_1 3 rfl) (sh94 hst) (by decide) (by decide) (by decide) (rf94_1 hst) rfl ?_
    refine gj_iload_n (q := 95) (gj_dk okX12_reads_1 4 rfl) rfl rfl ?_
    refine gj_bipush (q := 97) (gj_dk okX12_reads_1 5 rfl) (by decide) rfl rfl ?_
    obtain ⟨b14, hF⟩ := gj_ckd hF
    refine gj_iast (q := 98) (gj_dk okX12_reads_1 6 rfl) (sh96 hst) b14.1 b14.2 rfl ?_
    refine gj_stp hF (fun M15 hF => ?_)
    refine gj_iinc (q := 101) (v := gj_w (l1 + 1)) (gj_dk okX12_reads_1 7 rfl) rfl (by decide) rfl rfl ?_
    refine gj_goto (tgt := 75) (gj_dk okX12_reads_1 8 rfl) (by decide) ?_
    refine gj_sub [(0, jR 79), (1, jI (gj_w (l1 + 1)))] ⟨rfl, rfl, trivial⟩ ?_
    exact hrec75 (gj_w (l1 + 1)) c M15 hst hc hF
theorem t_L_X12_reads_75 {r : Int × gj_M} : ∀ (m : Nat), ∀ {S : gj_S} (l1 : Int) (c : Int) (M : gj_M), gj_Stat S → S.1 = c → gj_it (fun _ _ _ => none) (B_X12_reads_75) m l1 c M = some r → gj_W G l 10 1 8 yX12_reads cX12_reads 3 none (gj_qV fun S' M' => gj_Stat S' ∧ S'.1 = r.1 ∧ r.2 = M') 0 0 75 [(0, jR 79), (1, jI l1)] [] S M := by
  intro m
  induction m with
  | zero => intro S l1 c M hst hc hF; cases (show (none : Option (Int × gj_M)) = some r from hF)
  | succ m ih => intro S l1 c M hst hc hF; exact t_B_X12_reads_75 (fun l1 c M hst hc h => ih l1 c M hst hc h) l1 c M hst hc hF
set_option maxHeartbeats 4000000 in
set_option maxRecDepth 20000 in
theorem t_J_X12_reads_73 {r : Int × gj_M} : ∀ {S : gj_S} (c : Int) (M : gj_M), gj_Stat S → S.1 = c → J_X12_reads_73 c M = some r → gj_W G l 10 1 8 yX12_reads cX12_reads 3 none (gj_qV fun S' M' => gj_Stat S' ∧ S'.1 = r.1 ∧ r.2 = M') 0 0 73 [(0, jR 79)] [] S M := by
  intro S c M hst hc hF
  unfold J_X12_reads_73 at hF
  refine gj_iconst (q := 74) (gj_dk okX12_reads_0 50 rfl) (by decide) rfl ?_
  refine gj_istore_n (q := 75) (gj_dk okX12_reads_0 51 rfl) (by decide) rfl ?_
  refine gj_sub [(0, jR 79), (1, jI 0)] ⟨rfl, rfl, trivial⟩ ?_
  exact t_L_X12_reads_75 gj_fu 0 c M hst hc hF
set_option maxHeartbeats 4000000 in
set_option maxRecDepth 20000 in
theorem t_B_X12_reads_25 {r : Int × gj_M} {rec25 : Int → Int → gj_M → Option (Int × gj_M)} (hrec25 : ∀ {S : gj_S} (l1 : Int) (c : Int) (M : gj_M), gj_Stat S → S.1 = c → rec25 l1 c M = some r → gj_W G l 10 1 8 yX12_reads cX12_reads 3 none (gj_qV fun S' M' => gj_Stat S' ∧ S'.1 = r.1 ∧ r.2 = M') 0 0 25 [(0, jR 79), (1, jI l1)] [] S M) : ∀ {S : gj_S} (l1 : Int) (c : Int) (M : gj_M), gj_Stat S → S.1 = c → B_X12_reads_25 rec25 l1 c M = some r → gj_W G l 10 1 8 yX12_reads cX12_reads 3 none (gj_qV fun S' M' => gj_Stat S' ∧ S'.1 = r.1 ∧ r.2 = M') 0 0 25 [(0, jR 79), (1, jI l1)] [] S M := by
  intro S l1 c M hst hc hF
  unfold B_X12_reads_25 at hF
  refine gj_iload_n (q := 26) (gj_dk okX12_reads_0 19 rfl) rfl rfl ?_
  refine gj_bipush (q := 28) (gj_dk okX12_reads_0 20 rfl) (by decide) rfl rfl ?_
  refine gj_icmp_ge (q := 31) (tgt := 73) (gj_dk okX12_reads_0 21 rfl) (by decide) rfl (fun c28 => ?_) (fun c28 => ?_)
  · -- 73
    replace hF := gj_ift c28 hF
    refine gj_sub [(0, jR 79)] ⟨rfl, trivial⟩ ?_
    exact t_J_X12_reads_73 c M hst hc hF
  · -- 31
    replace hF := gj_iff c28 hF
    refine gj_aload_n (q := 32) (gj_dk okX12_reads_0 22 rfl) rfl rfl ?_
    refine gj_gR (q := 35) (j := 15) (gj_dk okX12_reads_0 23 rfl) ff_X12_44 (sh79 hst) (by decide) rfl (rf79_15 hst) rfl ?_
    refine gj_iload_n (q := 36) (gj_dk okX12_reads_0 24 rfl) rfl rfl ?_
    refine gj_iconst (q := 37) (gj_dk okX12_reads_0 25 rfl) (by decide) rfl ?_
    obtain ⟨b4, hF⟩ := gj_ckd hF
    refine gj_zast (q := 38) (gj_dk okX12_reads_0 26 rfl) (sh104 hst) b4.1 b4.2 (by decide) rfl ?_
    refine gj_stp hF (fun M5 hF => ?_)
    refine gj_aload_n (q := 39) (gj_dk okX12_reads_0 27 rfl) rfl rfl ?_
    refine gj_gR (q := 42) (j := 8) (gj_dk okX12_reads_0 28 rfl) ff_X12_22 (sh79 hst) (by decide) rfl (rf79_8 hst) rfl ?_
    refine gj_iconst (q := 43) (gj_dk okX12_reads_0 29 rfl) (by decide) rfl ?_
    refine gj_aald (q := 44) (gj_dk okX12_reads_0 30 rfl) (sh85 hst) (by decide) (by decide) (by decide) (rf85_1 hst) rfl ?_
    refine gj_iload_n (q := 45) (gj_dk okX12_reads_0 31 rfl) rfl rfl ?_
    refine gj_bipush (q := 47) (gj_dk okX12_reads_0 32 rfl) (by decide) rfl rfl ?_
    obtain ⟨b6, hF⟩ := gj_ckd hF
    refine gj_iast (q := 48) (gj_dk okX12_reads_0 33 rfl) (sh87 hst) b6.1 b6.2 rfl ?_
    refine gj_stp hF (fun M7 hF => ?_)
    refine gj_aload_n (q := 49) (gj_dk okX12_reads_0 34 rfl) rfl rfl ?_
    refine gj_gR (q := 52) (j := 9) (gj_dk okX12_reads_0 35 rfl) ff_X12_25 (sh79 hst) (by decide) rfl (rf79_9 hst) rfl ?_
    refine gj_iconst (q := 53) (gj_dk okX12_reads_0 36 rfl) (by decide) rfl ?_
    refine gj_aald (q := 54) (gj_dk okX12_reads_0 37 rfl) (sh88 hst) (by decide) (by decide) (by decide) (rf88_1 hst) rfl ?_
    refine gj_iload_n (q := 55) (gj_dk okX12_reads_0 38 rfl) rfl rfl ?_
    refine gj_bipush (q := 57) (gj_dk okX12_reads_0 39 rfl) (by decide) rfl rfl ?_
    obtain ⟨b8, hF⟩ := gj_ckd hF
    refine gj_iast (q := 58) (gj_dk okX12_reads_0 40 rfl) (sh90 hst) b8.1 b8.2 rfl ?_
    refine gj_stp hF (fun M9 hF => ?_)
    refine gj_aload_n (q := 59) (gj_dk okX12_reads_0 41 rfl) rfl rfl ?_
    refine gj_gR (q := 62) (j := 10) (gj_dk okX12_reads_0 42 rfl) ff_X12_28 (sh79 hst) (by decide) rfl (rf79_10 hst) rfl ?_
    refine gj_iconst (q := 63) (gj_dk okX12_reads_0 43 rfl) (by decide) rfl ?_
    refine gj_aald (q := 64) (gj_dk okX12_reads_0 44 rfl) (sh91 hst) (by decide) (by decide) (by decide) (rf91_1 hst) rfl ?_
    refine gj_iload_n (q := 65) (gj_dk okX12_reads_0 45 rfl) rfl rfl ?_
    refine gj_iconst (q := 66) (gj_dk okX12_reads_0 46 rfl) (by decide) rfl ?_
    obtain ⟨b10, hF⟩ := gj_ckd hF
    refine gj_iast (q := 67) (gj_dk okX12_reads_0 47 rfl) (sh93 hst) b10.1 b10.2 rfl ?_
    refine gj_stp hF (fun M11 hF => ?_)
    refine gj_iinc (q := 70) (v := gj_w (l1 + 1)) (gj_dk okX12_reads_0 48 rfl) rfl (by decide) rfl rfl ?_
    refine gj_goto (tgt := 25) (gj_dk okX12_reads_0 49 rfl) (by decide) ?_
    refine gj_sub [(0, jR 79), (1, jI (gj_w (l1 + 1)))] ⟨rfl, rfl, trivial⟩ ?_
    exact hrec25 (gj_w (l1 + 1)) c M11 hst hc hF
theorem t_L_X12_reads_25 {r : Int × gj_M} : ∀ (m : Nat), ∀ {S : gj_S} (l1 : Int) (c : Int) (M : gj_M), gj_Stat S → S.1 = c → gj_it (fun _ _ _ => none) (B_X12_reads_25) m l1 c M = some r → gj_W G l 10 1 8 yX12_reads cX12_reads 3 none (gj_qV fun S' M' => gj_Stat S' ∧ S'.1 = r.1 ∧ r.2 = M') 0 0 25 [(0, jR 79), (1, jI l1)] [] S M := by
  intro m
  induction m with
  | zero => intro S l1 c M hst hc hF; cases (show (none : Option (Int × gj_M)) = some r from hF)
  | succ m ih => intro S l1 c M hst hc hF; exact t_B_X12_reads_25 (fun l1 c M hst hc h => ih l1 c M hst hc h) l1 c M hst hc hF
set_option maxHeartbeats 4000000 in
set_option maxRecDepth 20000 in
theorem t_X12_reads {S : gj_S} (hst : gj_Stat S) {c : Int} (hc : S.1 = c) {r : Int × gj_M} (hF : F_X12_reads c M = some r) : gj_C G l 10 1 8 yX12_reads cX12_reads 3 none [jR 79] S M (gj_qV fun S' M' => gj_Stat S' ∧ S'.1 = r.1 ∧ r.2 = M') := by
  refine gj_Cof (by decide +kernel) (Nat.le_of_ble_eq_true rfl) ?_
  change gj_W G l 10 1 8 yX12_reads cX12_reads 3 none (gj_qV fun S' M' => gj_Stat S' ∧ S'.1 = r.1 ∧ r.2 = M') 0 0 0 [(0, jR 79)] [] S M
  unfold F_X12_reads at hF
  refine gj_aload_n (q := 1) (gj_dk okX12_reads_0 0 rfl) rfl rfl ?_
  refine gj_iconst (q := 2) (gj_dk okX12_reads_0 1 rfl) (by decide) rfl ?_
  refine gj_pfI (q := 5) (j := 5) (gj_dk okX12_reads_0 2 rfl) ff_X12_187 (sh79 hst) (by decide) rfl rfl ?_
  refine gj_stp hF (fun M1 hF => ?_)
  refine gj_aload_n (q := 6) (gj_dk okX12_reads_0 3 rfl) rfl rfl ?_
  refine gj_gR (q := 9) (j := 13) (gj_dk okX12_reads_0 4 rfl) ff_X12_37 (sh79 hst) (by decide) rfl (rf79_13 hst) rfl ?_
  refine gj_iconst (q := 10) (gj_dk okX12_reads_0 5 rfl) (by decide) rfl ?_
  refine gj_aald (q := 11) (gj_dk okX12_reads_0 6 rfl) (sh100 hst) (by decide) (by decide) (by decide) (rf100_1 hst) rfl ?_
  refine gj_iconst (q := 12) (gj_dk okX12_reads_0 7 rfl) (by decide) rfl ?_
  refine gj_iconst (q := 13) (gj_dk okX12_reads_0 8 rfl) (by decide) rfl ?_
  refine gj_iast (q := 14) (gj_dk okX12_reads_0 9 rfl) (sh102 hst) (by decide) (by decide) rfl ?_
  refine gj_stp hF (fun M2 hF => ?_)
  refine gj_aload_n (q := 15) (gj_dk okX12_reads_0 10 rfl) rfl rfl ?_
  refine gj_gR (q := 18) (j := 13) (gj_dk okX12_reads_0 11 rfl) ff_X12_37 (sh79 hst) (by decide) rfl (rf79_13 hst) rfl ?_
  refine gj_iconst (q := 19) (gj_dk okX12_reads_0 12 rfl) (by decide) rfl ?_
  refine gj_aald (q := 20) (gj_dk okX12_reads_0 13 rfl) (sh100 hst) (by decide) (by decide) (by decide) (rf100_1 hst) rfl ?_
  refine gj_iconst (q := 21) (gj_dk okX12_reads_0 14 rfl) (by decide) rfl ?_
  refine gj_iconst (q := 22) (gj_dk okX12_reads_0 15 rfl) (by decide) rfl ?_
  refine gj_iast (q := 23) (gj_dk okX12_reads_0 16 rfl) (sh102 hst) (by decide) (by decide) rfl ?_
  refine gj_stp hF (fun M3 hF => ?_)
  refine gj_iconst (q := 24) (gj_dk okX12_reads_0 17 rfl) (by decide) rfl ?_
  refine gj_istore_n (q := 25) (gj_dk okX12_reads_0 18 rfl) (by decide) rfl ?_
  refine gj_sub [(0, jR 79), (1, jI 0)] ⟨rfl, rfl, trivial⟩ ?_
  exact t_L_X12_reads_25 gj_fu 0 c M3 hst hc hF
def F_X12_fault (c : Int) (M : gj_M) : Option (Int × (Int × gj_M)) :=
  gj_bnd2 (F_X12_reads c M) (fun k3 M2 => (some ((M2 79 5, (k3, M2)))))
set_option maxHeartbeats 4000000 in
set_option maxRecDepth 20000 in
theorem t_X12_fault {S : gj_S} (hst : gj_Stat S) {c : Int} (hc : S.1 = c) {r : Int × (Int × gj_M)} (hF : F_X12_fault c M = some r) : gj_C G l 11 1 8 yX12_fault cX12_fault 1 (some .int) [jR 79] S M (gj_qI fun x S' M' => r.1 = x ∧ gj_Stat S' ∧ S'.1 = r.2.1 ∧ r.2.2 = M') := by
  refine gj_Cof (by decide +kernel) (Nat.le_of_ble_eq_true rfl) ?_
  change gj_W G l 11 1 8 yX12_fault cX12_fault 1 (some .int) (gj_qI fun x S' M' => r.1 = x ∧ gj_Stat S' ∧ S'.1 = r.2.1 ∧ r.2.2 = M') 0 0 0 [(0, jR 79)] [] S M
  unfold F_X12_fault at hF
  refine gj_aload_n (q := 1) (gj_dk okX12_fault 0 rfl) rfl rfl ?_
  obtain ⟨k3, M2, hG, hF⟩ := gj_bnd2d hF
  refine gj_callV (q := 4) (z := 79) (ci := 10) [] rfl (t_X12_reads hst hc  hG) (gj_dk okX12_fault 1 rfl) ml_X12_253 me_X12_reads (sh79 hst) rfl ⟨by omega, Nat.le_of_ble_eq_true rfl, rfl, Nat.le_of_ble_eq_true rfl, by omega, by omega⟩ rfl (gj_kV fun S2 M2 h => ?_)
  obtain ⟨hst2, hc2, eM⟩ := h; subst eM; dsimp only at hc2; clear hst; clear hc; have hst := hst2; have hc := hc2; clear hst2; clear hc2
  refine gj_aload_n (q := 5) (gj_dk okX12_fault 2 rfl) rfl rfl ?_
  refine gj_gI (q := 8) (j := 5) (gj_dk okX12_fault 3 rfl) ff_X12_187 (sh79 hst) (by decide) rfl rfl ?_
  cases hF
  exact gj_iret (gj_dk okX12_fault 4 rfl) rfl ⟨_, rfl, rfl, hst, hc, rfl⟩
def B_X12_copies_82_2 (rec2 : Int → gj_M → Option (gj_M)) (l1 : Int) (M : gj_M) : Option (gj_M) :=
  (if 8 ≤ l1 then (some (M)) else gj_chk (0 ≤ l1 ∧ l1 < 8) (gj_chk (0 ≤ l1 ∧ l1 < 8) (gj_let (gj_up M 83 l1 (M 84 l1)) (fun M3 => rec2 (gj_w (l1 + 1)) M3))))
def F_X12_copies_82 (M : gj_M) : Option (gj_M) :=
  (gj_it (fun _ _ => none) (B_X12_copies_82_2) gj_fu 0 M)
set_option maxHeartbeats 4000000 in
set_option maxRecDepth 20000 in
theorem t_B_X12_copies_82_2 (hst : gj_Stat S) {r : gj_M} {rec2 : Int → gj_M → Option (gj_M)} (hrec2 : ∀ (l1 : Int) (M : gj_M), rec2 l1 M = some r → gj_W G l 1 0 0 yX12_copies cX12_copies 2 none (gj_qV fun S' M' => S = S' ∧ r = M') 0 0 2 [(0, jR 82), (1, jI l1)] [] S M) (l1 : Int) (M : gj_M) (hF : B_X12_copies_82_2 rec2 l1 M = some r) : gj_W G l 1 0 0 yX12_copies cX12_copies 2 none (gj_qV fun S' M' => S = S' ∧ r = M') 0 0 2 [(0, jR 82), (1, jI l1)] [] S M := by
  unfold B_X12_copies_82_2 at hF
  refine gj_iload_n (q := 3) (gj_dk okX12_copies 2 rfl) rfl rfl ?_
  refine gj_aload_n (q := 4) (gj_dk okX12_copies 3 rfl) rfl rfl ?_
  refine gj_iconst (q := 5) (gj_dk okX12_copies 4 rfl) (by decide) rfl ?_
  refine gj_aald (q := 6) (gj_dk okX12_copies 5 rfl) (sh82 hst) (by decide) (by decide) (by decide) (rf82_0 hst) rfl ?_
  refine gj_alen (q := 7) (gj_dk okX12_copies 6 rfl) (sh83 hst) (by decide) rfl ?_
  refine gj_icmp_ge (q := 10) (tgt := 26) (gj_dk okX12_copies 7 rfl) (by decide) rfl (fun c7 => ?_) (fun c7 => ?_)
  · -- 26
    replace hF := gj_ift c7 hF
    cases hF
    exact gj_vret (gj_dk okX12_copies 20 rfl) rfl ⟨rfl, rfl, rfl⟩
  · -- 10
    replace hF := gj_iff c7 hF
    refine gj_aload_n (q := 11) (gj_dk okX12_copies 8 rfl) rfl rfl ?_
    refine gj_iconst (q := 12) (gj_dk okX12_copies 9 rfl) (by decide) rfl ?_
    refine gj_aald (q := 13) (gj_dk okX12_copies 10 rfl) (sh82 hst) (by decide) (by decide) (by decide) (rf82_0 hst) rfl ?_
    refine gj_iload_n (q := 14) (gj_dk okX12_copies 11 rfl) rfl rfl ?_
    refine gj_aload_n (q := 15) (gj_dk okX12_copies 12 rfl) rfl rfl ?_
    refine gj_iconst (q := 16) (gj_dk okX12_copies 13 rfl) (by decide) rfl ?_
    refine gj_aald (q := 17) (gj_dk okX12_copies 14 rfl) (sh82 hst) (by decide) (by decide) (by decide) (rf82_1 hst) rfl ?_
    refine gj_iload_n (q := 18) (gj_dk okX12_copies 15 rfl) rfl rfl ?_
    obtain ⟨b1, hF⟩ := gj_ckd hF
    refine gj_iald (q := 19) (gj_dk okX12_copies 16 rfl) (sh84 hst) b1.1 b1.2 rfl ?_
    obtain ⟨b2, hF⟩ := gj_ckd hF
    refine gj_iast (q := 20) (gj_dk okX12_copies 17 rfl) (sh83 hst) b2.1 b2.2 rfl ?_
    refine gj_stp hF (fun M3 hF => ?_)
    refine gj_iinc (q := 23) (v := gj_w (l1 + 1)) (gj_dk okX12_copies 18 rfl) rfl (by decide) rfl rfl ?_
    refine gj_goto (tgt := 2) (gj_dk okX12_copies 19 rfl) (by decide) ?_
    refine gj_sub [(0, jR 82), (1, jI (gj_w (l1 + 1)))] ⟨rfl, rfl, trivial⟩ ?_
    exact hrec2 (gj_w (l1 + 1)) M3 hF
theorem t_L_X12_copies_82_2 (hst : gj_Stat S) {r : gj_M} : ∀ (m : Nat) (l1 : Int) (M : gj_M), gj_it (fun _ _ => none) (B_X12_copies_82_2) m l1 M = some r → gj_W G l 1 0 0 yX12_copies cX12_copies 2 none (gj_qV fun S' M' => S = S' ∧ r = M') 0 0 2 [(0, jR 82), (1, jI l1)] [] S M := by
  intro m
  induction m with
  | zero => intro l1 M hF; cases (show (none : Option (gj_M)) = some r from hF)
  | succ m ih => intro l1 M hF; exact t_B_X12_copies_82_2 hst (fun l1 M h => ih l1 M h) l1 M hF
set_option maxHeartbeats 4000000 in
set_option maxRecDepth 20000 in
theorem t_X12_copies_82 (hst : gj_Stat S) {r : gj_M} (hF : F_X12_copies_82 M = some r) : gj_C G l 1 0 0 yX12_copies cX12_copies 2 none [jR 82] S M (gj_qV fun S' M' => S = S' ∧ r = M') := by
  refine gj_Cof (by decide +kernel) (Nat.le_of_ble_eq_true rfl) ?_
  change gj_W G l 1 0 0 yX12_copies cX12_copies 2 none (gj_qV fun S' M' => S = S' ∧ r = M') 0 0 0 [(0, jR 82)] [] S M
  unfold F_X12_copies_82 at hF
  refine gj_iconst (q := 1) (gj_dk okX12_copies 0 rfl) (by decide) rfl ?_
  refine gj_istore_n (q := 2) (gj_dk okX12_copies 1 rfl) (by decide) rfl ?_
  refine gj_sub [(0, jR 82), (1, jI 0)] ⟨rfl, rfl, trivial⟩ ?_
  exact t_L_X12_copies_82_2 hst gj_fu 0 M hF
def B_X12_copies_85_2 (rec2 : Int → gj_M → Option (gj_M)) (l1 : Int) (M : gj_M) : Option (gj_M) :=
  (if 32 ≤ l1 then (some (M)) else gj_chk (0 ≤ l1 ∧ l1 < 32) (gj_chk (0 ≤ l1 ∧ l1 < 32) (gj_let (gj_up M 86 l1 (M 87 l1)) (fun M3 => rec2 (gj_w (l1 + 1)) M3))))
def F_X12_copies_85 (M : gj_M) : Option (gj_M) :=
  (gj_it (fun _ _ => none) (B_X12_copies_85_2) gj_fu 0 M)
set_option maxHeartbeats 4000000 in
set_option maxRecDepth 20000 in
theorem t_B_X12_copies_85_2 (hst : gj_Stat S) {r : gj_M} {rec2 : Int → gj_M → Option (gj_M)} (hrec2 : ∀ (l1 : Int) (M : gj_M), rec2 l1 M = some r → gj_W G l 1 0 0 yX12_copies cX12_copies 2 none (gj_qV fun S' M' => S = S' ∧ r = M') 0 0 2 [(0, jR 85), (1, jI l1)] [] S M) (l1 : Int) (M : gj_M) (hF : B_X12_copies_85_2 rec2 l1 M = some r) : gj_W G l 1 0 0 yX12_copies cX12_copies 2 none (gj_qV fun S' M' => S = S' ∧ r = M') 0 0 2 [(0, jR 85), (1, jI l1)] [] S M := by
  unfold B_X12_copies_85_2 at hF
  refine gj_iload_n (q := 3) (gj_dk okX12_copies 2 rfl) rfl rfl ?_
  refine gj_aload_n (q := 4) (gj_dk okX12_copies 3 rfl) rfl rfl ?_
  refine gj_iconst (q := 5) (gj_dk okX12_copies 4 rfl) (by decide) rfl ?_
  refine gj_aald (q := 6) (gj_dk okX12_copies 5 rfl) (sh85 hst) (by decide) (by decide) (by decide) (rf85_0 hst) rfl ?_
  refine gj_alen (q := 7) (gj_dk okX12_copies 6 rfl) (sh86 hst) (by decide) rfl ?_
  refine gj_icmp_ge (q := 10) (tgt := 26) (gj_dk okX12_copies 7 rfl) (by decide) rfl (fun c7 => ?_) (fun c7 => ?_)
  · -- 26
    replace hF := gj_ift c7 hF
    cases hF
    exact gj_vret (gj_dk okX12_copies 20 rfl) rfl ⟨rfl, rfl, rfl⟩
  · -- 10
    replace hF := gj_iff c7 hF
    refine gj_aload_n (q := 11) (gj_dk okX12_copies 8 rfl) rfl rfl ?_
    refine gj_iconst (q := 12) (gj_dk okX12_copies 9 rfl) (by decide) rfl ?_
    refine gj_aald (q := 13) (gj_dk okX12_copies 10 rfl) (sh85 hst) (by decide) (by decide) (by decide) (rf85_0 hst) rfl ?_
    refine gj_iload_n (q := 14) (gj_dk okX12_copies 11 rfl) rfl rfl ?_
    refine gj_aload_n (q := 15) (gj_dk okX12_copies 12 rfl) rfl rfl ?_
    refine gj_iconst (q := 16) (gj_dk okX12_copies 13 rfl) (by decide) rfl ?_
    refine gj_aald (q := 17) (gj_dk okX12_copies 14 rfl) (sh85 hst) (by decide) (by decide) (by decide) (rf85_1 hst) rfl ?_
    refine gj_iload_n (q := 18) (gj_dk okX12_copies 15 rfl) rfl rfl ?_
    obtain ⟨b1, hF⟩ := gj_ckd hF
    refine gj_iald (q := 19) (gj_dk okX12_copies 16 rfl) (sh87 hst) b1.1 b1.2 rfl ?_
    obtain ⟨b2, hF⟩ := gj_ckd hF
    refine gj_iast (q := 20) (gj_dk okX12_copies 17 rfl) (sh86 hst) b2.1 b2.2 rfl ?_
    refine gj_stp hF (fun M3 hF => ?_)
    refine gj_iinc (q := 23) (v := gj_w (l1 + 1)) (gj_dk okX12_copies 18 rfl) rfl (by decide) rfl rfl ?_
    refine gj_goto (tgt := 2) (gj_dk okX12_copies 19 rfl) (by decide) ?_
    refine gj_sub [(0, jR 85), (1, jI (gj_w (l1 + 1)))] ⟨rfl, rfl, trivial⟩ ?_
    exact hrec2 (gj_w (l1 + 1)) M3 hF
theorem t_L_X12_copies_85_2 (hst : gj_Stat S) {r : gj_M} : ∀ (m : Nat) (l1 : Int) (M : gj_M), gj_it (fun _ _ => none) (B_X12_copies_85_2) m l1 M = some r → gj_W G l 1 0 0 yX12_copies cX12_copies 2 none (gj_qV fun S' M' => S = S' ∧ r = M') 0 0 2 [(0, jR 85), (1, jI l1)] [] S M := by
  intro m
  induction m with
  | zero => intro l1 M hF; cases (show (none : Option (gj_M)) = some r from hF)
  | succ m ih => intro l1 M hF; exact t_B_X12_copies_85_2 hst (fun l1 M h => ih l1 M h) l1 M hF
set_option maxHeartbeats 4000000 in
set_option maxRecDepth 20000 in
theorem t_X12_copies_85 (hst : gj_Stat S) {r : gj_M} (hF : F_X12_copies_85 M = some r) : gj_C G l 1 0 0 yX12_copies cX12_copies 2 none [jR 85] S M (gj_qV fun S' M' => S = S' ∧ r = M') := by
  refine gj_Cof (by decide +kernel) (Nat.le_of_ble_eq_true rfl) ?_
  change gj_W G l 1 0 0 yX12_copies cX12_copies 2 none (gj_qV fun S' M' => S = S' ∧ r = M') 0 0 0 [(0, jR 85)] [] S M
  unfold F_X12_copies_85 at hF
  refine gj_iconst (q := 1) (gj_dk okX12_copies 0 rfl) (by decide) rfl ?_
  refine gj_istore_n (q := 2) (gj_dk okX12_copies 1 rfl) (by decide) rfl ?_
  refine gj_sub [(0, jR 85), (1, jI 0)] ⟨rfl, rfl, trivial⟩ ?_
  exact t_L_X12_copies_85_2 hst gj_fu 0 M hF
def B_X12_copies_88_2 (rec2 : Int → gj_M → Option (gj_M)) (l1 : Int) (M : gj_M) : Option (gj_M) :=
  (if 32 ≤ l1 then (some (M)) else gj_chk (0 ≤ l1 ∧ l1 < 32) (gj_chk (0 ≤ l1 ∧ l1 < 32) (gj_let (gj_up M 89 l1 (M 90 l1)) (fun M3 => rec2 (gj_w (l1 + 1)) M3))))
def F_X12_copies_88 (M : gj_M) : Option (gj_M) :=
  (gj_it (fun _ _ => none) (B_X12_copies_88_2) gj_fu 0 M)
set_option maxHeartbeats 4000000 in
set_option maxRecDepth 20000 in
theorem t_B_X12_copies_88_2 (hst : gj_Stat S) {r : gj_M} {rec2 : Int → gj_M → Option (gj_M)} (hrec2 : ∀ (l1 : Int) (M : gj_M), rec2 l1 M = some r → gj_W G l 1 0 0 yX12_copies cX12_copies 2 none (gj_qV fun S' M' => S = S' ∧ r = M') 0 0 2 [(0, jR 88), (1, jI l1)] [] S M) (l1 : Int) (M : gj_M) (hF : B_X12_copies_88_2 rec2 l1 M = some r) : gj_W G l 1 0 0 yX12_copies cX12_copies 2 none (gj_qV fun S' M' => S = S' ∧ r = M') 0 0 2 [(0, jR 88), (1, jI l1)] [] S M := by
  unfold B_X12_copies_88_2 at hF
  refine gj_iload_n (q := 3) (gj_dk okX12_copies 2 rfl) rfl rfl ?_
  refine gj_aload_n (q := 4) (gj_dk okX12_copies 3 rfl) rfl rfl ?_
  refine gj_iconst (q := 5) (gj_dk okX12_copies 4 rfl) (by decide) rfl ?_
  refine gj_aald (q := 6) (gj_dk okX12_copies 5 rfl) (sh88 hst) (by decide) (by decide) (by decide) (rf88_0 hst) rfl ?_
  refine gj_alen (q := 7) (gj_dk okX12_copies 6 rfl) (sh89 hst) (by decide) rfl ?_
  refine gj_icmp_ge (q := 10) (tgt := 26) (gj_dk okX12_copies 7 rfl) (by decide) rfl (fun c7 => ?_) (fun c7 => ?_)
  · -- 26
    replace hF := gj_ift c7 hF
    cases hF
    exact gj_vret (gj_dk okX12_copies 20 rfl) rfl ⟨rfl, rfl, rfl⟩
  · -- 10
    replace hF := gj_iff c7 hF
    refine gj_aload_n (q := 11) (gj_dk okX12_copies 8 rfl) rfl rfl ?_
    refine gj_iconst (q := 12) (gj_dk okX12_copies 9 rfl) (by decide) rfl ?_
    refine gj_aald (q := 13) (gj_dk okX12_copies 10 rfl) (sh88 hst) (by decide) (by decide) (by decide) (rf88_0 hst) rfl ?_
    refine gj_iload_n (q := 14) (gj_dk okX12_copies 11 rfl) rfl rfl ?_
    refine gj_aload_n (q := 15) (gj_dk okX12_copies 12 rfl) rfl rfl ?_
    refine gj_iconst (q := 16) (gj_dk okX12_copies 13 rfl) (by decide) rfl ?_
    refine gj_aald (q := 17) (gj_dk okX12_copies 14 rfl) (sh88 hst) (by decide) (by decide) (by decide) (rf88_1 hst) rfl ?_
    refine gj_iload_n (q := 18) (gj_dk okX12_copies 15 rfl) rfl rfl ?_
    obtain ⟨b1, hF⟩ := gj_ckd hF
    refine gj_iald (q := 19) (gj_dk okX12_copies 16 rfl) (sh90 hst) b1.1 b1.2 rfl ?_
    obtain ⟨b2, hF⟩ := gj_ckd hF
    refine gj_iast (q := 20) (gj_dk okX12_copies 17 rfl) (sh89 hst) b2.1 b2.2 rfl ?_
    refine gj_stp hF (fun M3 hF => ?_)
    refine gj_iinc (q := 23) (v := gj_w (l1 + 1)) (gj_dk okX12_copies 18 rfl) rfl (by decide) rfl rfl ?_
    refine gj_goto (tgt := 2) (gj_dk okX12_copies 19 rfl) (by decide) ?_
    refine gj_sub [(0, jR 88), (1, jI (gj_w (l1 + 1)))] ⟨rfl, rfl, trivial⟩ ?_
    exact hrec2 (gj_w (l1 + 1)) M3 hF
theorem t_L_X12_copies_88_2 (hst : gj_Stat S) {r : gj_M} : ∀ (m : Nat) (l1 : Int) (M : gj_M), gj_it (fun _ _ => none) (B_X12_copies_88_2) m l1 M = some r → gj_W G l 1 0 0 yX12_copies cX12_copies 2 none (gj_qV fun S' M' => S = S' ∧ r = M') 0 0 2 [(0, jR 88), (1, jI l1)] [] S M := by
  intro m
  induction m with
  | zero => intro l1 M hF; cases (show (none : Option (gj_M)) = some r from hF)
  | succ m ih => intro l1 M hF; exact t_B_X12_copies_88_2 hst (fun l1 M h => ih l1 M h) l1 M hF
set_option maxHeartbeats 4000000 in
set_option maxRecDepth 20000 in
theorem t_X12_copies_88 (hst : gj_Stat S) {r : gj_M} (hF : F_X12_copies_88 M = some r) : gj_C G l 1 0 0 yX12_copies cX12_copies 2 none [jR 88] S M (gj_qV fun S' M' => S = S' ∧ r = M') := by
  refine gj_Cof (by decide +kernel) (Nat.le_of_ble_eq_true rfl) ?_
  change gj_W G l 1 0 0 yX12_copies cX12_copies 2 none (gj_qV fun S' M' => S = S' ∧ r = M') 0 0 0 [(0, jR 88)] [] S M
  unfold F_X12_copies_88 at hF
  refine gj_iconst (q := 1) (gj_dk okX12_copies 0 rfl) (by decide) rfl ?_
  refine gj_istore_n (q := 2) (gj_dk okX12_copies 1 rfl) (by decide) rfl ?_
  refine gj_sub [(0, jR 88), (1, jI 0)] ⟨rfl, rfl, trivial⟩ ?_
  exact t_L_X12_copies_88_2 hst gj_fu 0 M hF
def B_X12_copies_91_2 (rec2 : Int → gj_M → Option (gj_M)) (l1 : Int) (M : gj_M) : Option (gj_M) :=
  (if 32 ≤ l1 then (some (M)) else gj_chk (0 ≤ l1 ∧ l1 < 32) (gj_chk (0 ≤ l1 ∧ l1 < 32) (gj_let (gj_up M 92 l1 (M 93 l1)) (fun M3 => rec2 (gj_w (l1 + 1)) M3))))
def F_X12_copies_91 (M : gj_M) : Option (gj_M) :=
  (gj_it (fun _ _ => none) (B_X12_copies_91_2) gj_fu 0 M)
set_option maxHeartbeats 4000000 in
set_option maxRecDepth 20000 in
theorem t_B_X12_copies_91_2 (hst : gj_Stat S) {r : gj_M} {rec2 : Int → gj_M → Option (gj_M)} (hrec2 : ∀ (l1 : Int) (M : gj_M), rec2 l1 M = some r → gj_W G l 1 0 0 yX12_copies cX12_copies 2 none (gj_qV fun S' M' => S = S' ∧ r = M') 0 0 2 [(0, jR 91), (1, jI l1)] [] S M) (l1 : Int) (M : gj_M) (hF : B_X12_copies_91_2 rec2 l1 M = some r) : gj_W G l 1 0 0 yX12_copies cX12_copies 2 none (gj_qV fun S' M' => S = S' ∧ r = M') 0 0 2 [(0, jR 91), (1, jI l1)] [] S M := by
  unfold B_X12_copies_91_2 at hF
  refine gj_iload_n (q := 3) (gj_dk okX12_copies 2 rfl) rfl rfl ?_
  refine gj_aload_n (q := 4) (gj_dk okX12_copies 3 rfl) rfl rfl ?_
  refine gj_iconst (q := 5) (gj_dk okX12_copies 4 rfl) (by decide) rfl ?_
  refine gj_aald (q := 6) (gj_dk okX12_copies 5 rfl) (sh91 hst) (by decide) (by decide) (by decide) (rf91_0 hst) rfl ?_
  refine gj_alen (q := 7) (gj_dk okX12_copies 6 rfl) (sh92 hst) (by decide) rfl ?_
  refine gj_icmp_ge (q := 10) (tgt := 26) (gj_dk okX12_copies 7 rfl) (by decide) rfl (fun c7 => ?_) (fun c7 => ?_)
  · -- 26
    replace hF := gj_ift c7 hF
    cases hF
    exact gj_vret (gj_dk okX12_copies 20 rfl) rfl ⟨rfl, rfl, rfl⟩
  · -- 10
    replace hF := gj_iff c7 hF
    refine gj_aload_n (q := 11) (gj_dk okX12_copies 8 rfl) rfl rfl ?_
    refine gj_iconst (q := 12) (gj_dk okX12_copies 9 rfl) (by decide) rfl ?_
    refine gj_aald (q := 13) (gj_dk okX12_copies 10 rfl) (sh91 hst) (by decide) (by decide) (by decide) (rf91_0 hst) rfl ?_
    refine gj_iload_n (q := 14) (gj_dk okX12_copies 11 rfl) rfl rfl ?_
    refine gj_aload_n (q := 15) (gj_dk okX12_copies 12 rfl) rfl rfl ?_
    refine gj_iconst (q := 16) (gj_dk okX12_copies 13 rfl) (by decide) rfl ?_
    refine gj_aald (q := 17) (gj_dk okX12_copies 14 rfl) (sh91 hst) (by decide) (by decide) (by decide) (rf91_1 hst) rfl ?_
    refine gj_iload_n (q := 18) (gj_dk okX12_copies 15 rfl) rfl rfl ?_
    obtain ⟨b1, hF⟩ := gj_ckd hF
    refine gj_iald (q := 19) (gj_dk okX12_copies 16 rfl) (sh93 hst) b1.1 b1.2 rfl ?_
    obtain ⟨b2, hF⟩ := gj_ckd hF
    refine gj_iast (q := 20) (gj_dk okX12_copies 17 rfl) (sh92 hst) b2.1 b2.2 rfl ?_
    refine gj_stp hF (fun M3 hF => ?_)
    refine gj_iinc (q := 23) (v := gj_w (l1 + 1)) (gj_dk okX12_copies 18 rfl) rfl (by decide) rfl rfl ?_
    refine gj_goto (tgt := 2) (gj_dk okX12_copies 19 rfl) (by decide) ?_
    refine gj_sub [(0, jR 91), (1, jI (gj_w (l1 + 1)))] ⟨rfl, rfl, trivial⟩ ?_
    exact hrec2 (gj_w (l1 + 1)) M3 hF
theorem t_L_X12_copies_91_2 (hst : gj_Stat S) {r : gj_M} : ∀ (m : Nat) (l1 : Int) (M : gj_M), gj_it (fun _ _ => none) (B_X12_copies_91_2) m l1 M = some r → gj_W G l 1 0 0 yX12_copies cX12_copies 2 none (gj_qV fun S' M' => S = S' ∧ r = M') 0 0 2 [(0, jR 91), (1, jI l1)] [] S M := by
  intro m
  induction m with
  | zero => intro l1 M hF; cases (show (none : Option (gj_M)) = some r from hF)
  | succ m ih => intro l1 M hF; exact t_B_X12_copies_91_2 hst (fun l1 M h => ih l1 M h) l1 M hF
set_option maxHeartbeats 4000000 in
set_option maxRecDepth 20000 in
theorem t_X12_copies_91 (hst : gj_Stat S) {r : gj_M} (hF : F_X12_copies_91 M = some r) : gj_C G l 1 0 0 yX12_copies cX12_copies 2 none [jR 91] S M (gj_qV fun S' M' => S = S' ∧ r = M') := by
  refine gj_Cof (by decide +kernel) (Nat.le_of_ble_eq_true rfl) ?_
  change gj_W G l 1 0 0 yX12_copies cX12_copies 2 none (gj_qV fun S' M' => S = S' ∧ r = M') 0 0 0 [(0, jR 91)] [] S M
  unfold F_X12_copies_91 at hF
  refine gj_iconst (q := 1) (gj_dk okX12_copies 0 rfl) (by decide) rfl ?_
  refine gj_istore_n (q := 2) (gj_dk okX12_copies 1 rfl) (by decide) rfl ?_
  refine gj_sub [(0, jR 91), (1, jI 0)] ⟨rfl, rfl, trivial⟩ ?_
  exact t_L_X12_copies_91_2 hst gj_fu 0 M hF
def B_X12_copies_94_2 (rec2 : Int → gj_M → Option (gj_M)) (l1 : Int) (M : gj_M) : Option (gj_M) :=
  (if 16 ≤ l1 then (some (M)) else gj_chk (0 ≤ l1 ∧ l1 < 16) (gj_chk (0 ≤ l1 ∧ l1 < 16) (gj_let (gj_up M 95 l1 (M 96 l1)) (fun M3 => rec2 (gj_w (l1 + 1)) M3))))
def F_X12_copies_94 (M : gj_M) : Option (gj_M) :=
  (gj_it (fun _ _ => none) (B_X12_copies_94_2) gj_fu 0 M)
set_option maxHeartbeats 4000000 in
set_option maxRecDepth 20000 in
theorem t_B_X12_copies_94_2 (hst : gj_Stat S) {r : gj_M} {rec2 : Int → gj_M → Option (gj_M)} (hrec2 : ∀ (l1 : Int) (M : gj_M), rec2 l1 M = some r → gj_W G l 1 0 0 yX12_copies cX12_copies 2 none (gj_qV fun S' M' => S = S' ∧ r = M') 0 0 2 [(0, jR 94), (1, jI l1)] [] S M) (l1 : Int) (M : gj_M) (hF : B_X12_copies_94_2 rec2 l1 M = some r) : gj_W G l 1 0 0 yX12_copies cX12_copies 2 none (gj_qV fun S' M' => S = S' ∧ r = M') 0 0 2 [(0, jR 94), (1, jI l1)] [] S M := by
  unfold B_X12_copies_94_2 at hF
  refine gj_iload_n (q := 3) (gj_dk okX12_copies 2 rfl) rfl rfl ?_
  refine gj_aload_n (q := 4) (gj_dk okX12_copies 3 rfl) rfl rfl ?_
  refine gj_iconst (q := 5) (gj_dk okX12_copies 4 rfl) (by decide) rfl ?_
  refine gj_aald (q := 6) (gj_dk okX12_copies 5 rfl) (sh94 hst) (by decide) (by decide) (by decide) (rf94_0 hst) rfl ?_
  refine gj_alen (q := 7) (gj_dk okX12_copies 6 rfl) (sh95 hst) (by decide) rfl ?_
  refine gj_icmp_ge (q := 10) (tgt := 26) (gj_dk okX12_copies 7 rfl) (by decide) rfl (fun c7 => ?_) (fun c7 => ?_)
  · -- 26
    replace hF := gj_ift c7 hF
    cases hF
    exact gj_vret (gj_dk okX12_copies 20 rfl) rfl ⟨rfl, rfl, rfl⟩
  · -- 10
    replace hF := gj_iff c7 hF
    refine gj_aload_n (q := 11) (gj_dk okX12_copies 8 rfl) rfl rfl ?_
    refine gj_iconst (q := 12) (gj_dk okX12_copies 9 rfl) (by decide) rfl ?_
    refine gj_aald (q := 13) (gj_dk okX12_copies 10 rfl) (sh94 hst) (by decide) (by decide) (by decide) (rf94_0 hst) rfl ?_
    refine gj_iload_n (q := 14) (gj_dk okX12_copies 11 rfl) rfl rfl ?_
    refine gj_aload_n (q := 15) (gj_dk okX12_copies 12 rfl) rfl rfl ?_
    refine gj_iconst (q := 16) (gj_dk okX12_copies 13 rfl) (by decide) rfl ?_
    refine gj_aald (q := 17) (gj_dk okX12_copies 14 rfl) (sh94 hst) (by decide) (by decide) (by decide) (rf94_1 hst) rfl ?_
    refine gj_iload_n (q := 18) (gj_dk okX12_copies 15 rfl) rfl rfl ?_
    obtain ⟨b1, hF⟩ := gj_ckd hF
    refine gj_iald (q := 19) (gj_dk okX12_copies 16 rfl) (sh96 hst) b1.1 b1.2 rfl ?_
    obtain ⟨b2, hF⟩ := gj_ckd hF
    refine gj_iast (q := 20) (gj_dk okX12_copies 17 rfl) (sh95 hst) b2.1 b2.2 rfl ?_
    refine gj_stp hF (fun M3 hF => ?_)
    refine gj_iinc (q := 23) (v := gj_w (l1 + 1)) (gj_dk okX12_copies 18 rfl) rfl (by decide) rfl rfl ?_
    refine gj_goto (tgt := 2) (gj_dk okX12_copies 19 rfl) (by decide) ?_
    refine gj_sub [(0, jR 94), (1, jI (gj_w (l1 + 1)))] ⟨rfl, rfl, trivial⟩ ?_
    exact hrec2 (gj_w (l1 + 1)) M3 hF
theorem t_L_X12_copies_94_2 (hst : gj_Stat S) {r : gj_M} : ∀ (m : Nat) (l1 : Int) (M : gj_M), gj_it (fun _ _ => none) (B_X12_copies_94_2) m l1 M = some r → gj_W G l 1 0 0 yX12_copies cX12_copies 2 none (gj_qV fun S' M' => S = S' ∧ r = M') 0 0 2 [(0, jR 94), (1, jI l1)] [] S M := by
  intro m
  induction m with
  | zero => intro l1 M hF; cases (show (none : Option (gj_M)) = some r from hF)
  | succ m ih => intro l1 M hF; exact t_B_X12_copies_94_2 hst (fun l1 M h => ih l1 M h) l1 M hF
set_option maxHeartbeats 4000000 in
set_option maxRecDepth 20000 in
theorem t_X12_copies_94 (hst : gj_Stat S) {r : gj_M} (hF : F_X12_copies_94 M = some r) : gj_C G l 1 0 0 yX12_copies cX12_copies 2 none [jR 94] S M (gj_qV fun S' M' => S = S' ∧ r = M') := by
  refine gj_Cof (by decide +kernel) (Nat.le_of_ble_eq_true rfl) ?_
  change gj_W G l 1 0 0 yX12_copies cX12_copies 2 none (gj_qV fun S' M' => S = S' ∧ r = M') 0 0 0 [(0, jR 94)] [] S M
  unfold F_X12_copies_94 at hF
  refine gj_iconst (q := 1) (gj_dk okX12_copies 0 rfl) (by decide) rfl ?_
  refine gj_istore_n (q := 2) (gj_dk okX12_copies 1 rfl) (by decide) rfl ?_
  refine gj_sub [(0, jR 94), (1, jI 0)] ⟨rfl, rfl, trivial⟩ ?_
  exact t_L_X12_copies_94_2 hst gj_fu 0 M hF
end GJFR
