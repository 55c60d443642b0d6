section GJFR
variable {G : gj_G} {l : Launch} {S : gj_S} {M : gj_M}
def B_X12_may__27 (rec27 : Int → Int → Int → gj_M → Option (Int × (Int × gj_M))) (l1 l2 : Int) (c : Int) (M : gj_M) : Option (Int × (Int × gj_M)) :=
  (if l1 ≤ l2 then (some ((M 79 27, (c, M)))) else gj_bnd2 (F_X12_may c M) (fun k8 M7 => rec27 l1 (gj_w (l2 + 1)) k8 M7))
def F_X12_may_ (a1 : Int) (c : Int) (M : gj_M) : Option (Int × (Int × gj_M)) :=
  (if M 79 18 = 0 then gj_bnd2 (F_X12_refuse 2 M) (fun x1 M2 => (some ((x1, (c, M2))))) else gj_letI (f_X12_in a1 1 50 M) (fun x3 => (if x3 = 0 then gj_bnd2 (F_X12_refuse 2 M) (fun x4 M5 => (some ((x4, (c, M5))))) else (gj_it (fun _ _ _ _ => none) (B_X12_may__27) 51 a1 0 c M))))
set_option maxHeartbeats 4000000 in
set_option maxRecDepth 20000 in
theorem t_B_X12_may__27 {K N : Nat} (hK : K + 5 ≤ 255) (hN : N + 25 ≤ 1275) {r : Int × (Int × gj_M)} {rec27 : Int → Int → Int → gj_M → Option (Int × (Int × gj_M))} (hrec27 : ∀ {S : gj_S} (l1 : Int) (l2 : Int) (c : Int) (M : gj_M), gj_Stat S → S.1 = c → rec27 l1 l2 c M = some r → gj_W G l 27 255 1275 yX12_may_ cX12_may_ 3 (some .int) (gj_qI fun x S' M' => r.1 = x ∧ gj_Stat S' ∧ S'.1 = r.2.1 ∧ r.2.2 = M') (K + 5) (N + 25) 27 [(0, jR 79), (1, jI l1), (2, jI l2)] [] S M) : ∀ {S : gj_S} (l1 : Int) (l2 : Int) (c : Int) (M : gj_M), gj_Stat S → S.1 = c → B_X12_may__27 rec27 l1 l2 c M = some r → gj_W G l 27 255 1275 yX12_may_ cX12_may_ 3 (some .int) (gj_qI fun x S' M' => r.1 = x ∧ gj_Stat S' ∧ S'.1 = r.2.1 ∧ r.2.2 = M') K N 27 [(0, jR 79), (1, jI l1), (2, jI l2)] [] S M := by
  intro S l1 l2 c M hst hc hF
  unfold B_X12_may__27 at hF
  refine gj_iload_n (q := 28) (gj_dk okX12_may_ 15 rfl) rfl rfl ?_
  refine gj_iload_n (q := 29) (gj_dk okX12_may_ 16 rfl) rfl rfl ?_
  refine gj_icmp_ge (q := 32) (tgt := 42) (gj_dk okX12_may_ 17 rfl) (by decide) rfl (fun c29 => ?_) (fun c29 => ?_)
  · -- 42
    replace hF := gj_ift c29 hF
    refine gj_aload_n (q := 43) (gj_dk okX12_may_ 22 rfl) rfl rfl ?_
    refine gj_gI (q := 46) (j := 27) (gj_dk okX12_may_ 23 rfl) ff_X12_264 (sh79 hst) (by decide) rfl rfl ?_
    cases hF
    exact gj_iret (gj_dk okX12_may_ 24 rfl) rfl ⟨_, rfl, rfl, hst, hc, rfl⟩
  · -- 32
    replace hF := gj_iff c29 hF
    refine gj_aload_n (q := 33) (gj_dk okX12_may_ 18 rfl) rfl rfl ?_
    obtain ⟨k8, M7, hG, hF⟩ := gj_bnd2d hF
    refine gj_callV (q := 36) (z := 79) (ci := 10) [] rfl (t_X12_may hst hc  hG) (gj_dk okX12_may_ 19 rfl) ml_X12_416 me_X12_may (sh79 hst) rfl ⟨by omega, Nat.le_of_ble_eq_true rfl, rfl, Nat.le_of_ble_eq_true rfl, by omega, by omega⟩ rfl (gj_kV fun S2 M2 h => ?_)
    obtain ⟨hst2, hc2, eM⟩ := h; subst eM; dsimp only at hc2; clear hst; clear hc; have hst := hst2; have hc := hc2; clear hst2; clear hc2
    refine gj_iinc (q := 39) (v := gj_w (l2 + 1)) (gj_dk okX12_may_ 20 rfl) rfl (by decide) rfl rfl ?_
    refine gj_goto (tgt := 27) (gj_dk okX12_may_ 21 rfl) (by decide) ?_
    refine gj_sub [(0, jR 79), (1, jI l1), (2, jI (gj_w (l2 + 1)))] ⟨rfl, rfl, rfl, trivial⟩ ?_
    exact hrec27 l1 (gj_w (l2 + 1)) k8 M7 hst hc hF
theorem t_L_X12_may__27 {r : Int × (Int × gj_M)} : ∀ (m : Nat) (K N : Nat), K + m * 5 ≤ 255 → N + m * 25 ≤ 1275 → ∀ {S : gj_S} (l1 : Int) (l2 : Int) (c : Int) (M : gj_M), gj_Stat S → S.1 = c → gj_it (fun _ _ _ _ => none) (B_X12_may__27) m l1 l2 c M = some r → gj_W G l 27 255 1275 yX12_may_ cX12_may_ 3 (some .int) (gj_qI fun x S' M' => r.1 = x ∧ gj_Stat S' ∧ S'.1 = r.2.1 ∧ r.2.2 = M') K N 27 [(0, jR 79), (1, jI l1), (2, jI l2)] [] S M := by
  intro m
  induction m with
  | zero => intro K N hK hN S l1 l2 c M hst hc hF; cases (show (none : Option (Int × (Int × gj_M))) = some r from hF)
  | succ m ih => intro K N hK hN S l1 l2 c M hst hc hF; exact t_B_X12_may__27 (by omega) (by omega) (fun l1 l2 c M hst hc h => ih (K + 5) (N + 25) (by omega) (by omega) l1 l2 c M hst hc h) l1 l2 c M hst hc hF
set_option maxHeartbeats 4000000 in
set_option maxRecDepth 20000 in
theorem t_X12_may_ {S : gj_S} (hst : gj_Stat S) {c : Int} (hc : S.1 = c) (a1 : Int) {r : Int × (Int × gj_M)} (hF : F_X12_may_ a1 c M = some r) : gj_C G l 27 255 1275 yX12_may_ cX12_may_ 3 (some .int) [jR 79, jI a1] S M (gj_qI fun x S' M' => r.1 = x ∧ gj_Stat S' ∧ S'.1 = r.2.1 ∧ r.2.2 = M') := by
  refine gj_Cof (by decide +kernel) (Nat.le_of_ble_eq_true rfl) ?_
  change gj_W G l 27 255 1275 yX12_may_ cX12_may_ 3 (some .int) (gj_qI fun x S' M' => r.1 = x ∧ gj_Stat S' ∧ S'.1 = r.2.1 ∧ r.2.2 = M') 0 0 0 [(0, jR 79), (1, jI a1)] [] S M
  unfold F_X12_may_ at hF
  refine gj_aload_n (q := 1) (gj_dk okX12_may_ 0 rfl) rfl rfl ?_
  refine gj_gZ (q := 4) (j := 18) (gj_dk okX12_may_ 1 rfl) ff_X12_260 (sh79 hst) (by decide) rfl rfl ?_
  refine gj_if_eq (q := 7) (tgt := 19) (gj_dk okX12_may_ 2 rfl) (by decide) rfl (fun c4 => ?_) (fun c4 => ?_)
  · -- 19
    replace hF := gj_ift c4 hF
    refine gj_aload_n (q := 20) (gj_dk okX12_may_ 9 rfl) rfl rfl ?_
    refine gj_iconst (q := 21) (gj_dk okX12_may_ 10 rfl) (by decide) rfl ?_
    obtain ⟨x1, M2, hG, hF⟩ := gj_bnd2d hF
    refine gj_callV (q := 24) (z := 79) (ci := 10) [jI 2] rfl (t_X12_refuse hst 2 hG) (gj_dk okX12_may_ 11 rfl) ml_X12_165 me_X12_refuse (sh79 hst) rfl ⟨by omega, Nat.le_of_ble_eq_true rfl, rfl, Nat.le_of_ble_eq_true rfl, by omega, by omega⟩ rfl (gj_kI fun y S2 M2 h => ?_)
    obtain ⟨e, eS, eM⟩ := h; subst eS; subst eM; subst e; clear hG
    dsimp only
    cases hF
    exact gj_iret (gj_dk okX12_may_ 12 rfl) rfl ⟨_, rfl, rfl, hst, hc, rfl⟩
  · -- 7
    replace hF := gj_iff c4 hF
    refine gj_iload_n (q := 8) (gj_dk okX12_may_ 3 rfl) rfl rfl ?_
    refine gj_i2l (q := 9) (gj_dk okX12_may_ 4 rfl) rfl ?_
    refine gj_lconst (q := 10) (z := 1) (gj_dk okX12_may_ 5 rfl) rfl (by decide) rfl ?_
    refine gj_ldc2 (q := 13) (z := 50) (gj_dk okX12_may_ 6 rfl) kl_X12_414 (by decide) rfl ?_
    refine gj_callS (q := 16) [jL a1, jL 1, jL 50] rfl (t_X12_in hst a1 1 50 rfl) (gj_dk okX12_may_ 7 rfl) ml_X12_158 me_X12_in ⟨by omega, Nat.le_of_ble_eq_true rfl, rfl, Nat.le_of_ble_eq_true rfl, by omega, by omega⟩ rfl (gj_kI fun x S2 M2 h => ?_)
    obtain ⟨bz, e, eS, eM⟩ := h; subst eS; subst eM; subst e
    refine gj_stpZ bz hF (fun x3 bx3 hF => ?_)
    refine gj_if_ne (q := 19) (tgt := 25) (gj_dk okX12_may_ 8 rfl) (by decide) rfl (fun c16 => ?_) (fun c16 => ?_)
    · -- 25
      replace hF := gj_iff c16 hF
      refine gj_iconst (q := 26) (gj_dk okX12_may_ 13 rfl) (by decide) rfl ?_
      refine gj_istore_n (q := 27) (gj_dk okX12_may_ 14 rfl) (by decide) rfl ?_
      refine gj_sub [(0, jR 79), (1, jI a1), (2, jI 0)] ⟨rfl, rfl, rfl, trivial⟩ ?_
      exact t_L_X12_may__27 51 0 0 (by decide) (by decide) a1 0 c M hst hc hF
    · -- 19
      replace hF := gj_ift c16 hF
      refine gj_aload_n (q := 20) (gj_dk okX12_may_ 9 rfl) rfl rfl ?_
      refine gj_iconst (q := 21) (gj_dk okX12_may_ 10 rfl) (by decide) rfl ?_
      obtain ⟨x4, M5, hG, hF⟩ := gj_bnd2d hF
      refine gj_callV (q := 24) (z := 79) (ci := 10) [jI 2] rfl (t_X12_refuse hst 2 hG) (gj_dk okX12_may_ 11 rfl) ml_X12_165 me_X12_refuse (sh79 hst) rfl ⟨by omega, Nat.le_of_ble_eq_true rfl, rfl, Nat.le_of_ble_eq_true rfl, by omega, by omega⟩ rfl (gj_kI fun y S2 M2 h => ?_)
      obtain ⟨e, eS, eM⟩ := h; subst eS; subst eM; subst e; clear hG
      dsimp only
      cases hF
      exact gj_iret (gj_dk okX12_may_ 12 rfl) rfl ⟨_, rfl, rfl, hst, hc, rfl⟩
def F_X12_join (a1 : Int) (a2 : Int) (M : gj_M) : Option (Int × gj_M) :=
  gj_bnd (F_X12_who a1 M) (fun x1 => gj_bnd (F_X12_who a2 M) (fun x3 => (if x1 = -1 then gj_bnd2 (F_X12_deny 0 M) (fun x5 M6 => (some ((x5, M6)))) else (if x3 = -1 then gj_bnd2 (F_X12_deny 0 M) (fun x7 M8 => (some ((x7, M8)))) else (if 4 ≤ x1 then gj_bnd2 (F_X12_deny 0 M) (fun x9 M10 => (some ((x9, M10)))) else (if 4 ≤ x3 then gj_chk (0 ≤ x1 ∧ x1 < 8) ((if M 108 x1 = -1 then gj_chk (0 ≤ x3 ∧ x3 < 8) ((if M 108 x3 = -1 then gj_bnd (F_X12_joins x1 x3 M) (fun M16 => (some ((1, M16)))) else gj_bnd2 (F_X12_deny 2 M) (fun x17 M18 => (some ((x17, M18)))))) else gj_bnd2 (F_X12_deny 2 M) (fun x12 M13 => (some ((x12, M13)))))) else gj_bnd2 (F_X12_deny 0 M) (fun x19 M20 => (some ((x19, M20))))))))))
set_option maxHeartbeats 4000000 in
set_option maxRecDepth 20000 in
theorem t_X12_join (hst : gj_Stat S) (a1 a2 : Int) {r : Int × gj_M} (hF : F_X12_join a1 a2 M = some r) : gj_C G l 3 0 0 yX12_join cX12_join 5 (some .boolean) [jR 79, jI a1, jI a2] S M (gj_qI fun x S' M' => (x = 0 ∨ x = 1) ∧ r.1 = x ∧ S = S' ∧ r.2 = M') := by
  refine gj_Cof (by decide +kernel) (Nat.le_of_ble_eq_true rfl) ?_
  change gj_W G l 3 0 0 yX12_join cX12_join 5 (some .boolean) (gj_qI fun x S' M' => (x = 0 ∨ x = 1) ∧ r.1 = x ∧ S = S' ∧ r.2 = M') 0 0 0 [(0, jR 79), (1, jI a1), (2, jI a2)] [] S M
  unfold F_X12_join at hF
  refine gj_aload_n (q := 1) (gj_dk okX12_join 0 rfl) rfl rfl ?_
  refine gj_iload_n (q := 2) (gj_dk okX12_join 1 rfl) rfl rfl ?_
  obtain ⟨x1, hG, hF⟩ := gj_bndd hF
  refine gj_callV (q := 5) (z := 79) (ci := 10) [jI a1] rfl (t_X12_who hst a1 hG) (gj_dk okX12_join 2 rfl) ml_X12_281 me_X12_who (sh79 hst) rfl (gj_nm rfl) rfl (gj_kI fun y S2 M2 h => ?_)
  obtain ⟨e, eS, eM⟩ := h; subst eS; subst eM; subst e; clear hG
  refine gj_istore_n (q := 6) (gj_dk okX12_join 3 rfl) (by decide) rfl ?_
  refine gj_aload_n (q := 7) (gj_dk okX12_join 4 rfl) rfl rfl ?_
  refine gj_iload_n (q := 8) (gj_dk okX12_join 5 rfl) rfl rfl ?_
  obtain ⟨x3, hG, hF⟩ := gj_bndd hF
  refine gj_callV (q := 11) (z := 79) (ci := 10) [jI a2] rfl (t_X12_who hst a2 hG) (gj_dk okX12_join 6 rfl) ml_X12_281 me_X12_who (sh79 hst) rfl (gj_nm rfl) rfl (gj_kI fun y S2 M2 h => ?_)
  obtain ⟨e, eS, eM⟩ := h; subst eS; subst eM; subst e; clear hG
  refine gj_istore (q := 13) (gj_dk okX12_join 7 rfl) (by decide) rfl ?_
  refine gj_iload_n (q := 14) (gj_dk okX12_join 8 rfl) rfl rfl ?_
  refine gj_iconst (q := 15) (gj_dk okX12_join 9 rfl) (by decide) rfl ?_
  refine gj_icmp_eq (q := 18) (tgt := 35) (gj_dk okX12_join 10 rfl) (by decide) rfl (fun c15 => ?_) (fun c15 => ?_)
  · -- 35
    replace hF := gj_ift c15 hF
    refine gj_aload_n (q := 36) (gj_dk okX12_join 20 rfl) rfl rfl ?_
    refine gj_iconst (q := 37) (gj_dk okX12_join 21 rfl) (by decide) rfl ?_
    obtain ⟨x5, M6, hG, hF⟩ := gj_bnd2d hF
    refine gj_callV (q := 40) (z := 79) (ci := 10) [jI 0] rfl (t_X12_deny hst 0 hG) (gj_dk okX12_join 22 rfl) ml_X12_173 me_X12_deny (sh79 hst) rfl (gj_nm rfl) rfl (gj_kI fun y S2 M2 h => ?_)
    obtain ⟨bx5, e, eS, eM⟩ := h; subst eS; subst eM; subst e; clear hG
    dsimp only at bx5 ⊢
    cases hF
    exact gj_zret (gj_dk okX12_join 23 rfl) rfl bx5 ⟨_, rfl, bx5, rfl, rfl, rfl⟩
  · -- 18
    replace hF := gj_iff c15 hF
    refine gj_iload (q := 20) (gj_dk okX12_join 11 rfl) rfl rfl ?_
    refine gj_iconst (q := 21) (gj_dk okX12_join 12 rfl) (by decide) rfl ?_
    refine gj_icmp_eq (q := 24) (tgt := 35) (gj_dk okX12_join 13 rfl) (by decide) rfl (fun c21 => ?_) (fun c21 => ?_)
    · -- 35
      replace hF := gj_ift c21 hF
      refine gj_aload_n (q := 36) (gj_dk okX12_join 20 rfl) rfl rfl ?_
      refine gj_iconst (q := 37) (gj_dk okX12_join 21 rfl) (by decide) rfl ?_
      obtain ⟨x7, M8, hG, hF⟩ := gj_bnd2d hF
      refine gj_callV (q := 40) (z := 79) (ci := 10) [jI 0] rfl (t_X12_deny hst 0 hG) (gj_dk okX12_join 22 rfl) ml_X12_173 me_X12_deny (sh79 hst) rfl (gj_nm rfl) rfl (gj_kI fun y S2 M2 h => ?_)
      obtain ⟨bx7, e, eS, eM⟩ := h; subst eS; subst eM; subst e; clear hG
      dsimp only at bx7 ⊢
      cases hF
      exact gj_zret (gj_dk okX12_join 23 rfl) rfl bx7 ⟨_, rfl, bx7, rfl, rfl, rfl⟩
    · -- 24
      replace hF := gj_iff c21 hF
      refine gj_iload_n (q := 25) (gj_dk okX12_join 14 rfl) rfl rfl ?_
      refine gj_iconst (q := 26) (gj_dk okX12_join 15 rfl) (by decide) rfl ?_
      refine gj_icmp_ge (q := 29) (tgt := 35) (gj_dk okX12_join 16 rfl) (by decide) rfl (fun c26 => ?_) (fun c26 => ?_)
      · -- 35
        replace hF := gj_ift c26 hF
        refine gj_aload_n (q := 36) (gj_dk okX12_join 20 rfl) rfl rfl ?_
        refine gj_iconst (q := 37) (gj_dk okX12_join 21 rfl) (by decide) rfl ?_
        obtain ⟨x9, M10, hG, hF⟩ := gj_bnd2d hF
        refine gj_callV (q := 40) (z := 79) (ci := 10) [jI 0] rfl (t_X12_deny hst 0 hG) (gj_dk okX12_join 22 rfl) ml_X12_173 me_X12_deny (sh79 hst) rfl (gj_nm rfl) rfl (gj_kI fun y S2 M2 h => ?_)
        obtain ⟨bx9, e, eS, eM⟩ := h; subst eS; subst eM; subst e; clear hG
        dsimp only at bx9 ⊢
        cases hF
        exact gj_zret (gj_dk okX12_join 23 rfl) rfl bx9 ⟨_, rfl, bx9, rfl, rfl, rfl⟩
      · -- 29
        replace hF := gj_iff c26 hF
        refine gj_iload (q := 31) (gj_dk okX12_join 17 rfl) rfl rfl ?_
        refine gj_iconst (q := 32) (gj_dk okX12_join 18 rfl) (by decide) rfl ?_
        refine gj_icmp_ge (q := 35) (tgt := 41) (gj_dk okX12_join 19 rfl) (by decide) rfl (fun c32 => ?_) (fun c32 => ?_)
        · -- 41
          replace hF := gj_ift c32 hF
          refine gj_aload_n (q := 42) (gj_dk okX12_join 24 rfl) rfl rfl ?_
          refine gj_gR (q := 45) (j := 20) (gj_dk okX12_join 25 rfl) ff_X12_77 (sh79 hst) (by decide) rfl (rf79_20 hst) rfl ?_
          refine gj_iload_n (q := 46) (gj_dk okX12_join 26 rfl) rfl rfl ?_
          obtain ⟨b11, hF⟩ := gj_ckd hF
          refine gj_iald (q := 47) (gj_dk okX12_join 27 rfl) (sh108 hst) b11.1 b11.2 rfl ?_
          refine gj_iconst (q := 48) (gj_dk okX12_join 28 rfl) (by decide) rfl ?_
          refine gj_icmp_ne (q := 51) (tgt := 62) (gj_dk okX12_join 29 rfl) (by decide) rfl (fun c48 => ?_) (fun c48 => ?_)
          · -- 62
            replace hF := gj_iff c48 hF
            refine gj_aload_n (q := 63) (gj_dk okX12_join 36 rfl) rfl rfl ?_
            refine gj_iconst (q := 64) (gj_dk okX12_join 37 rfl) (by decide) rfl ?_
            obtain ⟨x12, M13, hG, hF⟩ := gj_bnd2d hF
            refine gj_callV (q := 67) (z := 79) (ci := 10) [jI 2] rfl (t_X12_deny hst 2 hG) (gj_dk okX12_join 38 rfl) ml_X12_173 me_X12_deny (sh79 hst) rfl (gj_nm rfl) rfl (gj_kI fun y S2 M2 h => ?_)
            obtain ⟨bx12, e, eS, eM⟩ := h; subst eS; subst eM; subst e; clear hG
            dsimp only at bx12 ⊢
            cases hF
            exact gj_zret (gj_dk okX12_join 39 rfl) rfl bx12 ⟨_, rfl, bx12, rfl, rfl, rfl⟩
          · -- 51
            replace hF := gj_ift c48 hF
            refine gj_aload_n (q := 52) (gj_dk okX12_join 30 rfl) rfl rfl ?_
            refine gj_gR (q := 55) (j := 20) (gj_dk okX12_join 31 rfl) ff_X12_77 (sh79 hst) (by decide) rfl (rf79_20 hst) rfl ?_
            refine gj_iload (q := 57) (gj_dk okX12_join 32 rfl) rfl rfl ?_
            obtain ⟨b14, hF⟩ := gj_ckd hF
            refine gj_iald (q := 58) (gj_dk okX12_join 33 rfl) (sh108 hst) b14.1 b14.2 rfl ?_
            refine gj_iconst (q := 59) (gj_dk okX12_join 34 rfl) (by decide) rfl ?_
            refine gj_icmp_eq (q := 62) (tgt := 68) (gj_dk okX12_join 35 rfl) (by decide) rfl (fun c59 => ?_) (fun c59 => ?_)
            · -- 68
              replace hF := gj_ift c59 hF
              refine gj_aload_n (q := 69) (gj_dk okX12_join 40 rfl) rfl rfl ?_
              refine gj_iload_n (q := 70) (gj_dk okX12_join 41 rfl) rfl rfl ?_
              refine gj_iload (q := 72) (gj_dk okX12_join 42 rfl) rfl rfl ?_
              obtain ⟨M16, hG, hF⟩ := gj_bndd hF
              refine gj_callV (q := 75) (z := 79) (ci := 10) [jI x1, jI x3] rfl (t_X12_joins hst x1 x3 hG) (gj_dk okX12_join 43 rfl) ml_X12_408 me_X12_joins (sh79 hst) rfl (gj_nm rfl) rfl (gj_kV fun S2 M2 h => ?_)
              obtain ⟨eS, eM⟩ := h; subst eS; subst eM; clear hG
              refine gj_iconst (q := 76) (gj_dk okX12_join 44 rfl) (by decide) rfl ?_
              cases hF
              exact gj_zret (gj_dk okX12_join 45 rfl) rfl (by decide) ⟨_, rfl, (by decide), rfl, rfl, rfl⟩
            · -- 62
              replace hF := gj_iff c59 hF
              refine gj_aload_n (q := 63) (gj_dk okX12_join 36 rfl) rfl rfl ?_
              refine gj_iconst (q := 64) (gj_dk okX12_join 37 rfl) (by decide) rfl ?_
              obtain ⟨x17, M18, hG, hF⟩ := gj_bnd2d hF
              refine gj_callV (q := 67) (z := 79) (ci := 10) [jI 2] rfl (t_X12_deny hst 2 hG) (gj_dk okX12_join 38 rfl) ml_X12_173 me_X12_deny (sh79 hst) rfl (gj_nm rfl) rfl (gj_kI fun y S2 M2 h => ?_)
              obtain ⟨bx17, e, eS, eM⟩ := h; subst eS; subst eM; subst e; clear hG
              dsimp only at bx17 ⊢
              cases hF
              exact gj_zret (gj_dk okX12_join 39 rfl) rfl bx17 ⟨_, rfl, bx17, rfl, rfl, rfl⟩
        · -- 35
          replace hF := gj_iff c32 hF
          refine gj_aload_n (q := 36) (gj_dk okX12_join 20 rfl) rfl rfl ?_
          refine gj_iconst (q := 37) (gj_dk okX12_join 21 rfl) (by decide) rfl ?_
          obtain ⟨x19, M20, hG, hF⟩ := gj_bnd2d hF
          refine gj_callV (q := 40) (z := 79) (ci := 10) [jI 0] rfl (t_X12_deny hst 0 hG) (gj_dk okX12_join 22 rfl) ml_X12_173 me_X12_deny (sh79 hst) rfl (gj_nm rfl) rfl (gj_kI fun y S2 M2 h => ?_)
          obtain ⟨bx19, e, eS, eM⟩ := h; subst eS; subst eM; subst e; clear hG
          dsimp only at bx19 ⊢
          cases hF
          exact gj_zret (gj_dk okX12_join 23 rfl) rfl bx19 ⟨_, rfl, bx19, rfl, rfl, rfl⟩
def F_X12_part (a1 : Int) (M : gj_M) : Option (Int × gj_M) :=
  gj_bnd (F_X12_who a1 M) (fun x1 => (if x1 = -1 then (if x1 = -1 then gj_bnd2 (F_X12_deny 0 M) (fun x5 M6 => (some ((x5, M6)))) else gj_bnd2 (F_X12_deny 2 M) (fun x3 M4 => (some ((x3, M4))))) else gj_chk (0 ≤ x1 ∧ x1 < 8) ((if M 108 x1 = -1 then (if x1 = -1 then gj_bnd2 (F_X12_deny 0 M) (fun x12 M13 => (some ((x12, M13)))) else gj_bnd2 (F_X12_deny 2 M) (fun x10 M11 => (some ((x10, M11))))) else gj_bnd (F_X12_parts x1 M) (fun M9 => (some ((1, M9))))))))
set_option maxHeartbeats 4000000 in
set_option maxRecDepth 20000 in
theorem t_X12_part (hst : gj_Stat S) (a1 : Int) {r : Int × gj_M} (hF : F_X12_part a1 M = some r) : gj_C G l 3 0 0 yX12_part cX12_part 3 (some .boolean) [jR 79, jI a1] S M (gj_qI fun x S' M' => (x = 0 ∨ x = 1) ∧ r.1 = x ∧ S = S' ∧ r.2 = M') := by
  refine gj_Cof (by decide +kernel) (Nat.le_of_ble_eq_true rfl) ?_
  change gj_W G l 3 0 0 yX12_part cX12_part 3 (some .boolean) (gj_qI fun x S' M' => (x = 0 ∨ x = 1) ∧ r.1 = x ∧ S = S' ∧ r.2 = M') 0 0 0 [(0, jR 79), (1, jI a1)] [] S M
  unfold F_X12_part at hF
  refine gj_aload_n (q := 1) (gj_dk okX12_part 0 rfl) rfl rfl ?_
  refine gj_iload_n (q := 2) (gj_dk okX12_part 1 rfl) rfl rfl ?_
  obtain ⟨x1, hG, hF⟩ := gj_bndd hF
  refine gj_callV (q := 5) (z := 79) (ci := 10) [jI a1] rfl (t_X12_who hst a1 hG) (gj_dk okX12_part 2 rfl) ml_X12_281 me_X12_who (sh79 hst) rfl (gj_nm rfl) rfl (gj_kI fun y S2 M2 h => ?_)
  obtain ⟨e, eS, eM⟩ := h; subst eS; subst eM; subst e; clear hG
  refine gj_istore_n (q := 6) (gj_dk okX12_part 3 rfl) (by decide) rfl ?_
  refine gj_iload_n (q := 7) (gj_dk okX12_part 4 rfl) rfl rfl ?_
  refine gj_iconst (q := 8) (gj_dk okX12_part 5 rfl) (by decide) rfl ?_
  refine gj_icmp_eq (q := 11) (tgt := 21) (gj_dk okX12_part 6 rfl) (by decide) rfl (fun c8 => ?_) (fun c8 => ?_)
  · -- 21
    replace hF := gj_ift c8 hF
    refine gj_aload_n (q := 22) (gj_dk okX12_part 13 rfl) rfl rfl ?_
    refine gj_iload_n (q := 23) (gj_dk okX12_part 14 rfl) rfl rfl ?_
    refine gj_iconst (q := 24) (gj_dk okX12_part 15 rfl) (by decide) rfl ?_
    refine gj_icmp_ne (q := 27) (tgt := 31) (gj_dk okX12_part 16 rfl) (by decide) rfl (fun c24 => ?_) (fun c24 => ?_)
    · -- 31
      replace hF := gj_iff c24 hF
      refine gj_iconst (q := 32) (gj_dk okX12_part 19 rfl) (by decide) rfl ?_
      obtain ⟨x3, M4, hG, hF⟩ := gj_bnd2d hF
      refine gj_callV (q := 35) (z := 79) (ci := 10) [jI 2] rfl (t_X12_deny hst 2 hG) (gj_dk okX12_part 20 rfl) ml_X12_173 me_X12_deny (sh79 hst) rfl (gj_nm rfl) rfl (gj_kI fun y S2 M2 h => ?_)
      obtain ⟨bx3, e, eS, eM⟩ := h; subst eS; subst eM; subst e; clear hG
      dsimp only at bx3 ⊢
      cases hF
      exact gj_zret (gj_dk okX12_part 21 rfl) rfl bx3 ⟨_, rfl, bx3, rfl, rfl, rfl⟩
    · -- 27
      replace hF := gj_ift c24 hF
      refine gj_iconst (q := 28) (gj_dk okX12_part 17 rfl) (by decide) rfl ?_
      refine gj_goto (tgt := 32) (gj_dk okX12_part 18 rfl) (by decide) ?_
      obtain ⟨x5, M6, hG, hF⟩ := gj_bnd2d hF
      refine gj_callV (q := 35) (z := 79) (ci := 10) [jI 0] rfl (t_X12_deny hst 0 hG) (gj_dk okX12_part 20 rfl) ml_X12_173 me_X12_deny (sh79 hst) rfl (gj_nm rfl) rfl (gj_kI fun y S2 M2 h => ?_)
      obtain ⟨bx5, e, eS, eM⟩ := h; subst eS; subst eM; subst e; clear hG
      dsimp only at bx5 ⊢
      cases hF
      exact gj_zret (gj_dk okX12_part 21 rfl) rfl bx5 ⟨_, rfl, bx5, rfl, rfl, rfl⟩
  · -- 11
    replace hF := gj_iff c8 hF
    refine gj_aload_n (q := 12) (gj_dk okX12_part 7 rfl) rfl rfl ?_
    refine gj_gR (q := 15) (j := 20) (gj_dk okX12_part 8 rfl) ff_X12_77 (sh79 hst) (by decide) rfl (rf79_20 hst) rfl ?_
    refine gj_iload_n (q := 16) (gj_dk okX12_part 9 rfl) rfl rfl ?_
    obtain ⟨b7, hF⟩ := gj_ckd hF
    refine gj_iald (q := 17) (gj_dk okX12_part 10 rfl) (sh108 hst) b7.1 b7.2 rfl ?_
    refine gj_iconst (q := 18) (gj_dk okX12_part 11 rfl) (by decide) rfl ?_
    refine gj_icmp_ne (q := 21) (tgt := 36) (gj_dk okX12_part 12 rfl) (by decide) rfl (fun c18 => ?_) (fun c18 => ?_)
    · -- 36
      replace hF := gj_iff c18 hF
      refine gj_aload_n (q := 37) (gj_dk okX12_part 22 rfl) rfl rfl ?_
      refine gj_iload_n (q := 38) (gj_dk okX12_part 23 rfl) rfl rfl ?_
      obtain ⟨M9, hG, hF⟩ := gj_bndd hF
      refine gj_callV (q := 41) (z := 79) (ci := 10) [jI x1] rfl (t_X12_parts hst x1 hG) (gj_dk okX12_part 24 rfl) ml_X12_402 me_X12_parts (sh79 hst) rfl (gj_nm rfl) rfl (gj_kV fun S2 M2 h => ?_)
      obtain ⟨eS, eM⟩ := h; subst eS; subst eM; clear hG
      refine gj_iconst (q := 42) (gj_dk okX12_part 25 rfl) (by decide) rfl ?_
      cases hF
      exact gj_zret (gj_dk okX12_part 26 rfl) rfl (by decide) ⟨_, rfl, (by decide), rfl, rfl, rfl⟩
    · -- 21
      replace hF := gj_ift c18 hF
      refine gj_aload_n (q := 22) (gj_dk okX12_part 13 rfl) rfl rfl ?_
      refine gj_iload_n (q := 23) (gj_dk okX12_part 14 rfl) rfl rfl ?_
      refine gj_iconst (q := 24) (gj_dk okX12_part 15 rfl) (by decide) rfl ?_
      refine gj_icmp_ne (q := 27) (tgt := 31) (gj_dk okX12_part 16 rfl) (by decide) rfl (fun c24 => ?_) (fun c24 => ?_)
      · -- 31
        replace hF := gj_iff c24 hF
        refine gj_iconst (q := 32) (gj_dk okX12_part 19 rfl) (by decide) rfl ?_
        obtain ⟨x10, M11, hG, hF⟩ := gj_bnd2d hF
        refine gj_callV (q := 35) (z := 79) (ci := 10) [jI 2] rfl (t_X12_deny hst 2 hG) (gj_dk okX12_part 20 rfl) ml_X12_173 me_X12_deny (sh79 hst) rfl (gj_nm rfl) rfl (gj_kI fun y S2 M2 h => ?_)
        obtain ⟨bx10, e, eS, eM⟩ := h; subst eS; subst eM; subst e; clear hG
        dsimp only at bx10 ⊢
        cases hF
        exact gj_zret (gj_dk okX12_part 21 rfl) rfl bx10 ⟨_, rfl, bx10, rfl, rfl, rfl⟩
      · -- 27
        replace hF := gj_ift c24 hF
        refine gj_iconst (q := 28) (gj_dk okX12_part 17 rfl) (by decide) rfl ?_
        refine gj_goto (tgt := 32) (gj_dk okX12_part 18 rfl) (by decide) ?_
        obtain ⟨x12, M13, hG, hF⟩ := gj_bnd2d hF
        refine gj_callV (q := 35) (z := 79) (ci := 10) [jI 0] rfl (t_X12_deny hst 0 hG) (gj_dk okX12_part 20 rfl) ml_X12_173 me_X12_deny (sh79 hst) rfl (gj_nm rfl) rfl (gj_kI fun y S2 M2 h => ?_)
        obtain ⟨bx12, e, eS, eM⟩ := h; subst eS; subst eM; subst e; clear hG
        dsimp only at bx12 ⊢
        cases hF
        exact gj_zret (gj_dk okX12_part 21 rfl) rfl bx12 ⟨_, rfl, bx12, rfl, rfl, rfl⟩
def F_X12_isFree (a1 : Int) (a2 : Int) (M : gj_M) : Option (Int) :=
  gj_chk (0 ≤ a1 ∧ a1 < 8) ((if M 108 a1 = -1 then (some (1)) else gj_chk (0 ≤ a1 ∧ a1 < 8) (gj_bnd (F_X12_isSooner a1 a2 (M 108 a1) M) (fun x3 => (if x3 = 0 then (some (0)) else (some (1)))))))
set_option maxHeartbeats 4000000 in
set_option maxRecDepth 20000 in
theorem t_X12_isFree (hst : gj_Stat S) (a1 a2 : Int) {r : Int} (hF : F_X12_isFree a1 a2 M = some r) : gj_C G l 5 0 0 yX12_isFree cX12_isFree 3 (some .boolean) [jR 79, jI a1, jI a2] S M (gj_qI fun x S' M' => (x = 0 ∨ x = 1) ∧ r = x ∧ S = S' ∧ M = M') := by
  refine gj_Cof (by decide +kernel) (Nat.le_of_ble_eq_true rfl) ?_
  change gj_W G l 5 0 0 yX12_isFree cX12_isFree 3 (some .boolean) (gj_qI fun x S' M' => (x = 0 ∨ x = 1) ∧ r = x ∧ S = S' ∧ M = M') 0 0 0 [(0, jR 79), (1, jI a1), (2, jI a2)] [] S M
  unfold F_X12_isFree at hF
  refine gj_aload_n (q := 1) (gj_dk okX12_isFree 0 rfl) rfl rfl ?_
  refine gj_gR (q := 4) (j := 20) (gj_dk okX12_isFree 1 rfl) ff_X12_77 (sh79 hst) (by decide) rfl (rf79_20 hst) rfl ?_
  refine gj_iload_n (q := 5) (gj_dk okX12_isFree 2 rfl) rfl rfl ?_
  obtain ⟨b1, hF⟩ := gj_ckd hF
  refine gj_iald (q := 6) (gj_dk okX12_isFree 3 rfl) (sh108 hst) b1.1 b1.2 rfl ?_
  refine gj_iconst (q := 7) (gj_dk okX12_isFree 4 rfl) (by decide) rfl ?_
  refine gj_icmp_eq (q := 10) (tgt := 25) (gj_dk okX12_isFree 5 rfl) (by decide) rfl (fun c7 => ?_) (fun c7 => ?_)
  · -- 25
    replace hF := gj_ift c7 hF
    refine gj_iconst (q := 26) (gj_dk okX12_isFree 15 rfl) (by decide) rfl ?_
    refine gj_goto (tgt := 30) (gj_dk okX12_isFree 16 rfl) (by decide) ?_
    cases hF
    exact gj_zret (gj_dk okX12_isFree 18 rfl) rfl (by decide) ⟨_, rfl, (by decide), rfl, rfl, rfl⟩
  · -- 10
    replace hF := gj_iff c7 hF
    refine gj_aload_n (q := 11) (gj_dk okX12_isFree 6 rfl) rfl rfl ?_
    refine gj_iload_n (q := 12) (gj_dk okX12_isFree 7 rfl) rfl rfl ?_
    refine gj_iload_n (q := 13) (gj_dk okX12_isFree 8 rfl) rfl rfl ?_
    refine gj_aload_n (q := 14) (gj_dk okX12_isFree 9 rfl) rfl rfl ?_
    refine gj_gR (q := 17) (j := 20) (gj_dk okX12_isFree 10 rfl) ff_X12_77 (sh79 hst) (by decide) rfl (rf79_20 hst) rfl ?_
    refine gj_iload_n (q := 18) (gj_dk okX12_isFree 11 rfl) rfl rfl ?_
    obtain ⟨b2, hF⟩ := gj_ckd hF
    refine gj_iald (q := 19) (gj_dk okX12_isFree 12 rfl) (sh108 hst) b2.1 b2.2 rfl ?_
    obtain ⟨x3, hG, hF⟩ := gj_bndd hF
    refine gj_callV (q := 22) (z := 79) (ci := 10) [jI a1, jI a2, jI (M 108 a1)] rfl (t_X12_isSooner hst a1 a2 (M 108 a1) hG) (gj_dk okX12_isFree 13 rfl) ml_X12_314 me_X12_isSooner (sh79 hst) rfl (gj_nm rfl) rfl (gj_kI fun y S2 M2 h => ?_)
    obtain ⟨bx3, e, eS, eM⟩ := h; subst eS; subst eM; subst e; clear hG
    refine gj_if_eq (q := 25) (tgt := 29) (gj_dk okX12_isFree 14 rfl) (by decide) rfl (fun c22 => ?_) (fun c22 => ?_)
    · -- 29
      replace hF := gj_ift c22 hF
      refine gj_iconst (q := 30) (gj_dk okX12_isFree 17 rfl) (by decide) rfl ?_
      cases hF
      exact gj_zret (gj_dk okX12_isFree 18 rfl) rfl (by decide) ⟨_, rfl, (by decide), rfl, rfl, rfl⟩
    · -- 25
      replace hF := gj_iff c22 hF
      refine gj_iconst (q := 26) (gj_dk okX12_isFree 15 rfl) (by decide) rfl ?_
      refine gj_goto (tgt := 30) (gj_dk okX12_isFree 16 rfl) (by decide) ?_
      cases hF
      exact gj_zret (gj_dk okX12_isFree 18 rfl) rfl (by decide) ⟨_, rfl, (by decide), rfl, rfl, rfl⟩
def J_X12_blocks_127 (M : gj_M) (l1 l2 : Int) : Option (Int) :=
  (if l1 = -1 then (some (l2)) else (some (-1)))
def J_X12_blocks_121 (M : gj_M) (rec22 : Int → Int → Int → Option (Int)) (l1 l2 l3 : Int) : Option (Int) :=
  rec22 l1 l2 (gj_w (l3 + 1))
def J_X12_blocks_101 (M : gj_M) (l3 l4 : Int) : Option (Int) :=
  gj_letI (f_X12_told l4 M) (fun x8 => (some (gj_w ((gj_w (100 * l3)) + x8))))
def B_X12_blocks_37 (M : gj_M) (rec22 : Int → Int → Int → Option (Int)) (rec37 : Int → Int → Int → Int → Option (Int)) (l1 l2 l3 l4 : Int) : Option (Int) :=
  (if gj_w (4 + (M 101 1)) ≤ l4 then (J_X12_blocks_121 M rec22 l1 l2 l3) else gj_chk (0 ≤ l3 ∧ l3 < 8) ((if M 108 l3 = l4 then rec37 l1 l2 l3 (gj_w (l4 + 1)) else gj_bnd (F_X12_both l3 l4 M) (fun x2 => (if x2 = 0 then rec37 l1 l2 l3 (gj_w (l4 + 1)) else gj_bnd (F_X12_isFree l3 l4 M) (fun x4 => (if x4 = 0 then rec37 l1 l2 l3 (gj_w (l4 + 1)) else gj_bnd (F_X12_isFree l4 l3 M) (fun x6 => (if x6 = 0 then rec37 l1 l2 l3 (gj_w (l4 + 1)) else (if l2 = l1 then (J_X12_blocks_101 M l3 l4) else rec37 l1 (gj_w (l2 + 1)) l3 (gj_w (l4 + 1))))))))))))
def B_X12_blocks_22 (M : gj_M) (rec22 : Int → Int → Int → Option (Int)) (l1 l2 l3 : Int) : Option (Int) :=
  (if M 101 0 ≤ l3 then (J_X12_blocks_127 M l1 l2) else (gj_it (fun _ _ _ _ => none) (B_X12_blocks_37 M rec22) gj_fu l1 l2 l3 4))
def F_X12_blocks (a1 : Int) (M : gj_M) : Option (Int) :=
  (if M 79 18 = 0 then (if a1 = -1 then (some (0)) else (some (-1))) else (gj_it (fun _ _ _ => none) (B_X12_blocks_22 M) gj_fu a1 0 0))
set_option maxHeartbeats 4000000 in
set_option maxRecDepth 20000 in
theorem t_J_X12_blocks_127 (hst : gj_Stat S) {r : Int} (l1 l2 : Int) (hF : J_X12_blocks_127 M l1 l2 = some r) : gj_W G l 6 0 0 yX12_blocks cX12_blocks 5 (some .int) (gj_qI fun x S' M' => r = x ∧ S = S' ∧ M = M') 0 0 127 [(1, jI l1), (2, jI l2)] [] S M := by
  unfold J_X12_blocks_127 at hF
  refine gj_iload_n (q := 128) (gj_dk okX12_blocks 71 rfl) rfl rfl ?_
  refine gj_iconst (q := 129) (gj_dk okX12_blocks 72 rfl) (by decide) rfl ?_
  refine gj_icmp_ne (q := 132) (tgt := 136) (gj_dk okX12_blocks 73 rfl) (by decide) rfl (fun c129 => ?_) (fun c129 => ?_)
  · -- 136
    replace hF := gj_iff c129 hF
    refine gj_iconst (q := 137) (gj_dk okX12_blocks 76 rfl) (by decide) rfl ?_
    cases hF
    exact gj_iret (gj_dk okX12_blocks 77 rfl) rfl ⟨_, rfl, rfl, rfl, rfl⟩
  · -- 132
    replace hF := gj_ift c129 hF
    refine gj_iload_n (q := 133) (gj_dk okX12_blocks 74 rfl) rfl rfl ?_
    refine gj_goto (tgt := 137) (gj_dk okX12_blocks 75 rfl) (by decide) ?_
    cases hF
    exact gj_iret (gj_dk okX12_blocks 77 rfl) rfl ⟨_, rfl, rfl, rfl, rfl⟩
set_option maxHeartbeats 4000000 in
set_option maxRecDepth 20000 in
theorem t_J_X12_blocks_121 (hst : gj_Stat S) {r : Int} {rec22 : Int → Int → Int → Option (Int)} (hrec22 : ∀ (l1 l2 l3 : Int), rec22 l1 l2 l3 = some r → gj_W G l 6 0 0 yX12_blocks cX12_blocks 5 (some .int) (gj_qI fun x S' M' => r = x ∧ S = S' ∧ M = M') 0 0 22 [(0, jR 79), (1, jI l1), (2, jI l2), (3, jI l3)] [] S M) (l1 l2 l3 : Int) (hF : J_X12_blocks_121 M rec22 l1 l2 l3 = some r) : gj_W G l 6 0 0 yX12_blocks cX12_blocks 5 (some .int) (gj_qI fun x S' M' => r = x ∧ S = S' ∧ M = M') 0 0 121 [(0, jR 79), (1, jI l1), (2, jI l2), (3, jI l3)] [] S M := by
  unfold J_X12_blocks_121 at hF
  refine gj_iinc (q := 124) (v := gj_w (l3 + 1)) (gj_dk okX12_blocks 69 rfl) rfl (by decide) rfl rfl ?_
  refine gj_goto (tgt := 22) (gj_dk okX12_blocks 70 rfl) (by decide) ?_
  refine gj_sub [(0, jR 79), (1, jI l1), (2, jI l2), (3, jI (gj_w (l3 + 1)))] ⟨rfl, rfl, rfl, rfl, trivial⟩ ?_
  exact hrec22 l1 l2 (gj_w (l3 + 1)) hF
set_option maxHeartbeats 4000000 in
set_option maxRecDepth 20000 in
theorem t_J_X12_blocks_101 (hst : gj_Stat S) {r : Int} (l3 l4 : Int) (hF : J_X12_blocks_101 M l3 l4 = some r) : gj_W G l 6 0 0 yX12_blocks cX12_blocks 5 (some .int) (gj_qI fun x S' M' => r = x ∧ S = S' ∧ M = M') 0 0 101 [(3, jI l3), (4, jI l4)] [] S M := by
  unfold J_X12_blocks_101 at hF
  refine gj_bipush (q := 103) (gj_dk okX12_blocks 59 rfl) (by decide) rfl rfl ?_
  refine gj_iload_n (q := 104) (gj_dk okX12_blocks 60 rfl) rfl rfl ?_
  refine gj_imul (q := 105) (gj_dk okX12_blocks 61 rfl) rfl ?_
  refine gj_iload (q := 107) (gj_dk okX12_blocks 62 rfl) rfl rfl ?_
  refine gj_callS (q := 110) [jI l4] rfl (t_X12_told hst l4 rfl) (gj_dk okX12_blocks 63 rfl) ml_X12_285 me_X12_told (gj_nm rfl) rfl (gj_kI fun x S2 M2 h => ?_)
  obtain ⟨e, eS, eM⟩ := h; subst eS; subst eM; subst e
  refine gj_stpI hF (fun x8 hF => ?_)
  refine gj_iadd (q := 111) (gj_dk okX12_blocks 64 rfl) rfl ?_
  cases hF
  exact gj_iret (gj_dk okX12_blocks 65 rfl) rfl ⟨_, rfl, rfl, rfl, rfl⟩
set_option maxHeartbeats 4000000 in
set_option maxRecDepth 20000 in
theorem t_B_X12_blocks_37 (hst : gj_Stat S) {r : Int} {rec22 : Int → Int → Int → Option (Int)} {rec37 : Int → Int → Int → Int → Option (Int)} (hrec22 : ∀ (l1 l2 l3 : Int), rec22 l1 l2 l3 = some r → gj_W G l 6 0 0 yX12_blocks cX12_blocks 5 (some .int) (gj_qI fun x S' M' => r = x ∧ S = S' ∧ M = M') 0 0 22 [(0, jR 79), (1, jI l1), (2, jI l2), (3, jI l3)] [] S M) (hrec37 : ∀ (l1 l2 l3 l4 : Int), rec37 l1 l2 l3 l4 = some r → gj_W G l 6 0 0 yX12_blocks cX12_blocks 5 (some .int) (gj_qI fun x S' M' => r = x ∧ S = S' ∧ M = M') 0 0 37 [(0, jR 79), (1, jI l1), (2, jI l2), (3, jI l3), (4, jI l4)] [] S M) (l1 l2 l3 l4 : Int) (hF : B_X12_blocks_37 M rec22 rec37 l1 l2 l3 l4 = some r) : gj_W G l 6 0 0 yX12_blocks cX12_blocks 5 (some .int) (gj_qI fun x S' M' => r = x ∧ S = S' ∧ M = M') 0 0 37 [(0, jR 79), (1, jI l1), (2, jI l2), (3, jI l3), (4, jI l4)] [] S M := by
  unfold B_X12_blocks_37 at hF
  refine gj_iload (q := 39) (gj_dk okX12_blocks 24 rfl) rfl rfl ?_
  refine gj_iconst (q := 40) (gj_dk okX12_blocks 25 rfl) (by decide) rfl ?_
  refine gj_aload_n (q := 41) (gj_dk okX12_blocks 26 rfl) rfl rfl ?_
  refine gj_gR (q := 44) (j := 13) (gj_dk okX12_blocks 27 rfl) ff_X12_37 (sh79 hst) (by decide) rfl (rf79_13 hst) rfl ?_
  refine gj_iconst (q := 45) (gj_dk okX12_blocks 28 rfl) (by decide) rfl ?_
  refine gj_aald (q := 46) (gj_dk okX12_blocks 29 rfl) (sh100 hst) (by decide) (by decide) (by decide) (rf100_0 hst) rfl ?_
  refine gj_iconst (q := 47) (gj_dk okX12_blocks 30 rfl) (by decide) rfl ?_
  refine gj_iald (q := 48) (gj_dk okX12_blocks 31 rfl) (sh101 hst) (by decide) (by decide) rfl ?_
  refine gj_iadd (q := 49) (gj_dk okX12_blocks 32 rfl) rfl ?_
  refine gj_icmp_ge (q := 52) (tgt := 121) (gj_dk okX12_blocks 33 rfl) (by decide) rfl (fun c49 => ?_) (fun c49 => ?_)
  · -- 121
    replace hF := gj_ift c49 hF
    refine gj_sub [(0, jR 79), (1, jI l1), (2, jI l2), (3, jI l3)] ⟨rfl, rfl, rfl, rfl, trivial⟩ ?_
    exact t_J_X12_blocks_121 hst hrec22 l1 l2 l3 hF
  · -- 52
    replace hF := gj_iff c49 hF
    refine gj_aload_n (q := 53) (gj_dk okX12_blocks 34 rfl) rfl rfl ?_
    refine gj_gR (q := 56) (j := 20) (gj_dk okX12_blocks 35 rfl) ff_X12_77 (sh79 hst) (by decide) rfl (rf79_20 hst) rfl ?_
    refine gj_iload_n (q := 57) (gj_dk okX12_blocks 36 rfl) rfl rfl ?_
    obtain ⟨b1, hF⟩ := gj_ckd hF
    refine gj_iald (q := 58) (gj_dk okX12_blocks 37 rfl) (sh108 hst) b1.1 b1.2 rfl ?_
    refine gj_iload (q := 60) (gj_dk okX12_blocks 38 rfl) rfl rfl ?_
    refine gj_icmp_eq (q := 63) (tgt := 115) (gj_dk okX12_blocks 39 rfl) (by decide) rfl (fun c60 => ?_) (fun c60 => ?_)
    · -- 115
      replace hF := gj_ift c60 hF
      refine gj_iinc (q := 118) (v := gj_w (l4 + 1)) (gj_dk okX12_blocks 67 rfl) rfl (by decide) rfl rfl ?_
      refine gj_goto (tgt := 37) (gj_dk okX12_blocks 68 rfl) (by decide) ?_
      refine gj_sub [(0, jR 79), (1, jI l1), (2, jI l2), (3, jI l3), (4, jI (gj_w (l4 + 1)))] ⟨rfl, rfl, rfl, rfl, rfl, trivial⟩ ?_
      exact hrec37 l1 l2 l3 (gj_w (l4 + 1)) hF
    · -- 63
      replace hF := gj_iff c60 hF
      refine gj_aload_n (q := 64) (gj_dk okX12_blocks 40 rfl) rfl rfl ?_
      refine gj_iload_n (q := 65) (gj_dk okX12_blocks 41 rfl) rfl rfl ?_
      refine gj_iload (q := 67) (gj_dk okX12_blocks 42 rfl) rfl rfl ?_
      obtain ⟨x2, hG, hF⟩ := gj_bndd hF
      refine gj_callV (q := 70) (z := 79) (ci := 10) [jI l3, jI l4] rfl (t_X12_both hst l3 l4 hG) (gj_dk okX12_blocks 43 rfl) ml_X12_375 me_X12_both (sh79 hst) rfl (gj_nm rfl) rfl (gj_kI fun y S2 M2 h => ?_)
      obtain ⟨bx2, e, eS, eM⟩ := h; subst eS; subst eM; subst e; clear hG
      refine gj_if_eq (q := 73) (tgt := 115) (gj_dk okX12_blocks 44 rfl) (by decide) rfl (fun c70 => ?_) (fun c70 => ?_)
      · -- 115
        replace hF := gj_ift c70 hF
        refine gj_iinc (q := 118) (v := gj_w (l4 + 1)) (gj_dk okX12_blocks 67 rfl) rfl (by decide) rfl rfl ?_
        refine gj_goto (tgt := 37) (gj_dk okX12_blocks 68 rfl) (by decide) ?_
        refine gj_sub [(0, jR 79), (1, jI l1), (2, jI l2), (3, jI l3), (4, jI (gj_w (l4 + 1)))] ⟨rfl, rfl, rfl, rfl, rfl, trivial⟩ ?_
        exact hrec37 l1 l2 l3 (gj_w (l4 + 1)) hF
      · -- 73
        replace hF := gj_iff c70 hF
        refine gj_aload_n (q := 74) (gj_dk okX12_blocks 45 rfl) rfl rfl ?_
        refine gj_iload_n (q := 75) (gj_dk okX12_blocks 46 rfl) rfl rfl ?_
        refine gj_iload (q := 77) (gj_dk okX12_blocks 47 rfl) rfl rfl ?_
        obtain ⟨x4, hG, hF⟩ := gj_bndd hF
        refine gj_callV (q := 80) (z := 79) (ci := 10) [jI l3, jI l4] rfl (t_X12_isFree hst l3 l4 hG) (gj_dk okX12_blocks 48 rfl) ml_X12_419 me_X12_isFree (sh79 hst) rfl (gj_nm rfl) rfl (gj_kI fun y S2 M2 h => ?_)
        obtain ⟨bx4, e, eS, eM⟩ := h; subst eS; subst eM; subst e; clear hG
        refine gj_if_eq (q := 83) (tgt := 115) (gj_dk okX12_blocks 49 rfl) (by decide) rfl (fun c80 => ?_) (fun c80 => ?_)
        · -- 115
          replace hF := gj_ift c80 hF
          refine gj_iinc (q := 118) (v := gj_w (l4 + 1)) (gj_dk okX12_blocks 67 rfl) rfl (by decide) rfl rfl ?_
          refine gj_goto (tgt := 37) (gj_dk okX12_blocks 68 rfl) (by decide) ?_
          refine gj_sub [(0, jR 79), (1, jI l1), (2, jI l2), (3, jI l3), (4, jI (gj_w (l4 + 1)))] ⟨rfl, rfl, rfl, rfl, rfl, trivial⟩ ?_
          exact hrec37 l1 l2 l3 (gj_w (l4 + 1)) hF
        · -- 83
          replace hF := gj_iff c80 hF
          refine gj_aload_n (q := 84) (gj_dk okX12_blocks 50 rfl) rfl rfl ?_
          refine gj_iload (q := 86) (gj_dk okX12_blocks 51 rfl) rfl rfl ?_
          refine gj_iload_n (q := 87) (gj_dk okX12_blocks 52 rfl) rfl rfl ?_
          obtain ⟨x6, hG, hF⟩ := gj_bndd hF
          refine gj_callV (q := 90) (z := 79) (ci := 10) [jI l4, jI l3] rfl (t_X12_isFree hst l4 l3 hG) (gj_dk okX12_blocks 53 rfl) ml_X12_419 me_X12_isFree (sh79 hst) rfl (gj_nm rfl) rfl (gj_kI fun y S2 M2 h => ?_)
          obtain ⟨bx6, e, eS, eM⟩ := h; subst eS; subst eM; subst e; clear hG
          refine gj_if_ne (q := 93) (tgt := 96) (gj_dk okX12_blocks 54 rfl) (by decide) rfl (fun c90 => ?_) (fun c90 => ?_)
          · -- 96
            replace hF := gj_iff c90 hF
            refine gj_iload_n (q := 97) (gj_dk okX12_blocks 56 rfl) rfl rfl ?_
            refine gj_iload_n (q := 98) (gj_dk okX12_blocks 57 rfl) rfl rfl ?_
            refine gj_icmp_ne (q := 101) (tgt := 112) (gj_dk okX12_blocks 58 rfl) (by decide) rfl (fun c98 => ?_) (fun c98 => ?_)
            · -- 112
              replace hF := gj_iff c98 hF
              refine gj_iinc (q := 115) (v := gj_w (l2 + 1)) (gj_dk okX12_blocks 66 rfl) rfl (by decide) rfl rfl ?_
              refine gj_iinc (q := 118) (v := gj_w (l4 + 1)) (gj_dk okX12_blocks 67 rfl) rfl (by decide) rfl rfl ?_
              refine gj_goto (tgt := 37) (gj_dk okX12_blocks 68 rfl) (by decide) ?_
              refine gj_sub [(0, jR 79), (1, jI l1), (2, jI (gj_w (l2 + 1))), (3, jI l3), (4, jI (gj_w (l4 + 1)))] ⟨rfl, rfl, rfl, rfl, rfl, trivial⟩ ?_
              exact hrec37 l1 (gj_w (l2 + 1)) l3 (gj_w (l4 + 1)) hF
            · -- 101
              replace hF := gj_ift c98 hF
              refine gj_sub [(3, jI l3), (4, jI l4)] ⟨rfl, rfl, trivial⟩ ?_
              exact t_J_X12_blocks_101 hst l3 l4 hF
          · -- 93
            replace hF := gj_ift c90 hF
            refine gj_goto (tgt := 115) (gj_dk okX12_blocks 55 rfl) (by decide) ?_
            refine gj_iinc (q := 118) (v := gj_w (l4 + 1)) (gj_dk okX12_blocks 67 rfl) rfl (by decide) rfl rfl ?_
            refine gj_goto (tgt := 37) (gj_dk okX12_blocks 68 rfl) (by decide) ?_
            refine gj_sub [(0, jR 79), (1, jI l1), (2, jI l2), (3, jI l3), (4, jI (gj_w (l4 + 1)))] ⟨rfl, rfl, rfl, rfl, rfl, trivial⟩ ?_
            exact hrec37 l1 l2 l3 (gj_w (l4 + 1)) hF
theorem t_L_X12_blocks_37 (hst : gj_Stat S) {r : Int} {rec22 : Int → Int → Int → Option (Int)} (hrec22 : ∀ (l1 l2 l3 : Int), rec22 l1 l2 l3 = some r → gj_W G l 6 0 0 yX12_blocks cX12_blocks 5 (some .int) (gj_qI fun x S' M' => r = x ∧ S = S' ∧ M = M') 0 0 22 [(0, jR 79), (1, jI l1), (2, jI l2), (3, jI l3)] [] S M) : ∀ (m : Nat) (l1 : Int) (l2 : Int) (l3 : Int) (l4 : Int), gj_it (fun _ _ _ _ => none) (B_X12_blocks_37 M rec22) m l1 l2 l3 l4 = some r → gj_W G l 6 0 0 yX12_blocks cX12_blocks 5 (some .int) (gj_qI fun x S' M' => r = x ∧ S = S' ∧ M = M') 0 0 37 [(0, jR 79), (1, jI l1), (2, jI l2), (3, jI l3), (4, jI l4)] [] S M := by
  intro m
  induction m with
  | zero => intro l1 l2 l3 l4 hF; cases (show (none : Option (Int)) = some r from hF)
  | succ m ih => intro l1 l2 l3 l4 hF; exact t_B_X12_blocks_37 hst hrec22 (fun l1 l2 l3 l4 h => ih l1 l2 l3 l4 h) l1 l2 l3 l4 hF
set_option maxHeartbeats 4000000 in
set_option maxRecDepth 20000 in
theorem t_B_X12_blocks_22 (hst : gj_Stat S) {r : Int} {rec22 : Int → Int → Int → Option (Int)} (hrec22 : ∀ (l1 l2 l3 : Int), rec22 l1 l2 l3 = some r → gj_W G l 6 0 0 yX12_blocks cX12_blocks 5 (some .int) (gj_qI fun x S' M' => r = x ∧ S = S' ∧ M = M') 0 0 22 [(0, jR 79), (1, jI l1), (2, jI l2), (3, jI l3)] [] S M) (l1 l2 l3 : Int) (hF : B_X12_blocks_22 M rec22 l1 l2 l3 = some r) : gj_W G l 6 0 0 yX12_blocks cX12_blocks 5 (some .int) (gj_qI fun x S' M' => r = x ∧ S = S' ∧ M = M') 0 0 22 [(0, jR 79), (1, jI l1), (2, jI l2), (3, jI l3)] [] S M := by
  unfold B_X12_blocks_22 at hF
  refine gj_iload_n (q := 23) (gj_dk okX12_blocks 14 rfl) rfl rfl ?_
  refine gj_aload_n (q := 24) (gj_dk okX12_blocks 15 rfl) rfl rfl ?_
  refine gj_gR (q := 27) (j := 13) (gj_dk okX12_blocks 16 rfl) ff_X12_37 (sh79 hst) (by decide) rfl (rf79_13 hst) rfl ?_
  refine gj_iconst (q := 28) (gj_dk okX12_blocks 17 rfl) (by decide) rfl ?_
  refine gj_aald (q := 29) (gj_dk okX12_blocks 18 rfl) (sh100 hst) (by decide) (by decide) (by decide) (rf100_0 hst) rfl ?_
  refine gj_iconst (q := 30) (gj_dk okX12_blocks 19 rfl) (by decide) rfl ?_
  refine gj_iald (q := 31) (gj_dk okX12_blocks 20 rfl) (sh101 hst) (by decide) (by decide) rfl ?_
  refine gj_icmp_ge (q := 34) (tgt := 127) (gj_dk okX12_blocks 21 rfl) (by decide) rfl (fun c31 => ?_) (fun c31 => ?_)
  · -- 127
    replace hF := gj_ift c31 hF
    refine gj_sub [(1, jI l1), (2, jI l2)] ⟨rfl, rfl, trivial⟩ ?_
    exact t_J_X12_blocks_127 hst l1 l2 hF
  · -- 34
    replace hF := gj_iff c31 hF
    refine gj_iconst (q := 35) (gj_dk okX12_blocks 22 rfl) (by decide) rfl ?_
    refine gj_istore (q := 37) (gj_dk okX12_blocks 23 rfl) (by decide) rfl ?_
    refine gj_sub [(0, jR 79), (1, jI l1), (2, jI l2), (3, jI l3), (4, jI 4)] ⟨rfl, rfl, rfl, rfl, rfl, trivial⟩ ?_
    exact t_L_X12_blocks_37 hst hrec22 gj_fu l1 l2 l3 4 hF
theorem t_L_X12_blocks_22 (hst : gj_Stat S) {r : Int} : ∀ (m : Nat) (l1 : Int) (l2 : Int) (l3 : Int), gj_it (fun _ _ _ => none) (B_X12_blocks_22 M) m l1 l2 l3 = some r → gj_W G l 6 0 0 yX12_blocks cX12_blocks 5 (some .int) (gj_qI fun x S' M' => r = x ∧ S = S' ∧ M = M') 0 0 22 [(0, jR 79), (1, jI l1), (2, jI l2), (3, jI l3)] [] S M := by
  intro m
  induction m with
  | zero => intro l1 l2 l3 hF; cases (show (none : Option (Int)) = some r from hF)
  | succ m ih => intro l1 l2 l3 hF; exact t_B_X12_blocks_22 hst (fun l1 l2 l3 h => ih l1 l2 l3 h) l1 l2 l3 hF
set_option maxHeartbeats 4000000 in
set_option maxRecDepth 20000 in
theorem t_X12_blocks (hst : gj_Stat S) (a1 : Int) {r : Int} (hF : F_X12_blocks a1 M = some r) : gj_C G l 6 0 0 yX12_blocks cX12_blocks 5 (some .int) [jR 79, jI a1] S M (gj_qI fun x S' M' => r = x ∧ S = S' ∧ M = M') := by
  refine gj_Cof (by decide +kernel) (Nat.le_of_ble_eq_true rfl) ?_
  change gj_W G l 6 0 0 yX12_blocks cX12_blocks 5 (some .int) (gj_qI fun x S' M' => r = x ∧ S = S' ∧ M = M') 0 0 0 [(0, jR 79), (1, jI a1)] [] S M
  unfold F_X12_blocks at hF
  refine gj_aload_n (q := 1) (gj_dk okX12_blocks 0 rfl) rfl rfl ?_
  refine gj_gZ (q := 4) (j := 18) (gj_dk okX12_blocks 1 rfl) ff_X12_260 (sh79 hst) (by decide) rfl rfl ?_
  refine gj_if_ne (q := 7) (tgt := 18) (gj_dk okX12_blocks 2 rfl) (by decide) rfl (fun c4 => ?_) (fun c4 => ?_)
  · -- 18
    replace hF := gj_iff c4 hF
    refine gj_iconst (q := 19) (gj_dk okX12_blocks 10 rfl) (by decide) rfl ?_
    refine gj_istore_n (q := 20) (gj_dk okX12_blocks 11 rfl) (by decide) rfl ?_
    refine gj_iconst (q := 21) (gj_dk okX12_blocks 12 rfl) (by decide) rfl ?_
    refine gj_istore_n (q := 22) (gj_dk okX12_blocks 13 rfl) (by decide) rfl ?_
    refine gj_sub [(0, jR 79), (1, jI a1), (2, jI 0), (3, jI 0)] ⟨rfl, rfl, rfl, rfl, trivial⟩ ?_
    exact t_L_X12_blocks_22 hst gj_fu a1 0 0 hF
  · -- 7
    replace hF := gj_ift c4 hF
    refine gj_iload_n (q := 8) (gj_dk okX12_blocks 3 rfl) rfl rfl ?_
    refine gj_iconst (q := 9) (gj_dk okX12_blocks 4 rfl) (by decide) rfl ?_
    refine gj_icmp_ne (q := 12) (tgt := 16) (gj_dk okX12_blocks 5 rfl) (by decide) rfl (fun c9 => ?_) (fun c9 => ?_)
    · -- 16
      replace hF := gj_iff c9 hF
      refine gj_iconst (q := 17) (gj_dk okX12_blocks 8 rfl) (by decide) rfl ?_
      cases hF
      exact gj_iret (gj_dk okX12_blocks 9 rfl) rfl ⟨_, rfl, rfl, rfl, rfl⟩
    · -- 12
      replace hF := gj_ift c9 hF
      refine gj_iconst (q := 13) (gj_dk okX12_blocks 6 rfl) (by decide) rfl ?_
      refine gj_goto (tgt := 17) (gj_dk okX12_blocks 7 rfl) (by decide) ?_
      cases hF
      exact gj_iret (gj_dk okX12_blocks 9 rfl) rfl ⟨_, rfl, rfl, rfl, rfl⟩
def F_X12_truly (a1 : Int) (a2 : Int) (M : gj_M) : Option (Int) :=
  gj_letI (f_X12_two a1 a2 M) (fun x1 => gj_chk (0 ≤ x1 ∧ x1 < 16) ((some (gj_w (2 * (gj_w ((gj_w ((M 95 x1) * (M 98 0))) + (gj_w ((gj_w (16 - (M 95 x1))) * (M 98 1))))))))))
set_option maxHeartbeats 4000000 in
set_option maxRecDepth 20000 in
theorem t_X12_truly (hst : gj_Stat S) (a1 a2 : Int) {r : Int} (hF : F_X12_truly a1 a2 M = some r) : gj_C G l 2 0 0 yX12_truly cX12_truly 4 (some .int) [jR 79, jI a1, jI a2] S M (gj_qI fun x S' M' => r = x ∧ S = S' ∧ M = M') := by
  refine gj_Cof (by decide +kernel) (Nat.le_of_ble_eq_true rfl) ?_
  change gj_W G l 2 0 0 yX12_truly cX12_truly 4 (some .int) (gj_qI fun x S' M' => r = x ∧ S = S' ∧ M = M') 0 0 0 [(0, jR 79), (1, jI a1), (2, jI a2)] [] S M
  unfold F_X12_truly at hF
  refine gj_aload_n (q := 1) (gj_dk okX12_truly 0 rfl) rfl rfl ?_
  refine gj_gR (q := 4) (j := 11) (gj_dk okX12_truly 1 rfl) ff_X12_31 (sh79 hst) (by decide) rfl (rf79_11 hst) rfl ?_
  refine gj_iconst (q := 5) (gj_dk okX12_truly 2 rfl) (by decide) rfl ?_
  refine gj_aald (q := 6) (gj_dk okX12_truly 3 rfl) (sh94 hst) (by decide) (by decide) (by decide) (rf94_0 hst) rfl ?_
  refine gj_iload_n (q := 7) (gj_dk okX12_truly 4 rfl) rfl rfl ?_
  refine gj_iload_n (q := 8) (gj_dk okX12_truly 5 rfl) rfl rfl ?_
  refine gj_callS (q := 11) [jI a1, jI a2] rfl (t_X12_two hst a1 a2 rfl) (gj_dk okX12_truly 6 rfl) ml_X12_292 me_X12_two (gj_nm rfl) rfl (gj_kI fun x S2 M2 h => ?_)
  obtain ⟨e, eS, eM⟩ := h; subst eS; subst eM; subst e
  refine gj_stpI hF (fun x1 hF => ?_)
  obtain ⟨b2, hF⟩ := gj_ckd hF
  refine gj_iald (q := 12) (gj_dk okX12_truly 7 rfl) (sh95 hst) b2.1 b2.2 rfl ?_
  refine gj_istore_n (q := 13) (gj_dk okX12_truly 8 rfl) (by decide) rfl ?_
  refine gj_iconst (q := 14) (gj_dk okX12_truly 9 rfl) (by decide) rfl ?_
  refine gj_iload_n (q := 15) (gj_dk okX12_truly 10 rfl) rfl rfl ?_
  refine gj_aload_n (q := 16) (gj_dk okX12_truly 11 rfl) rfl rfl ?_
  refine gj_gR (q := 19) (j := 12) (gj_dk okX12_truly 12 rfl) ff_X12_34 (sh79 hst) (by decide) rfl (rf79_12 hst) rfl ?_
  refine gj_iconst (q := 20) (gj_dk okX12_truly 13 rfl) (by decide) rfl ?_
  refine gj_aald (q := 21) (gj_dk okX12_truly 14 rfl) (sh97 hst) (by decide) (by decide) (by decide) (rf97_0 hst) rfl ?_
  refine gj_iconst (q := 22) (gj_dk okX12_truly 15 rfl) (by decide) rfl ?_
  refine gj_iald (q := 23) (gj_dk okX12_truly 16 rfl) (sh98 hst) (by decide) (by decide) rfl ?_
  refine gj_imul (q := 24) (gj_dk okX12_truly 17 rfl) rfl ?_
  refine gj_bipush (q := 26) (gj_dk okX12_truly 18 rfl) (by decide) rfl rfl ?_
  refine gj_iload_n (q := 27) (gj_dk okX12_truly 19 rfl) rfl rfl ?_
  refine gj_isub (q := 28) (gj_dk okX12_truly 20 rfl) rfl ?_
  refine gj_aload_n (q := 29) (gj_dk okX12_truly 21 rfl) rfl rfl ?_
  refine gj_gR (q := 32) (j := 12) (gj_dk okX12_truly 22 rfl) ff_X12_34 (sh79 hst) (by decide) rfl (rf79_12 hst) rfl ?_
  refine gj_iconst (q := 33) (gj_dk okX12_truly 23 rfl) (by decide) rfl ?_
  refine gj_aald (q := 34) (gj_dk okX12_truly 24 rfl) (sh97 hst) (by decide) (by decide) (by decide) (rf97_0 hst) rfl ?_
  refine gj_iconst (q := 35) (gj_dk okX12_truly 25 rfl) (by decide) rfl ?_
  refine gj_iald (q := 36) (gj_dk okX12_truly 26 rfl) (sh98 hst) (by decide) (by decide) rfl ?_
  refine gj_imul (q := 37) (gj_dk okX12_truly 27 rfl) rfl ?_
  refine gj_iadd (q := 38) (gj_dk okX12_truly 28 rfl) rfl ?_
  refine gj_imul (q := 39) (gj_dk okX12_truly 29 rfl) rfl ?_
  cases hF
  exact gj_iret (gj_dk okX12_truly 30 rfl) rfl ⟨_, rfl, rfl, rfl, rfl⟩
def J_X12_sumOf_69 (z1 n1 : Int) (M : gj_M) (rec4 : Int → Int → Option (Int)) (l2 l3 : Int) : Option (Int) :=
  rec4 l2 (gj_w (l3 + 1))
def B_X12_sumOf_4 (z1 n1 : Int) (M : gj_M) (rec4 : Int → Int → Option (Int)) (l2 l3 : Int) : Option (Int) :=
  (if 8 ≤ l3 then (some (l2)) else gj_chk (0 ≤ gj_w (Int.tdiv l3 4) ∧ gj_w (Int.tdiv l3 4) < 2) ((if Int.tmod l3 4 < M 101 (gj_w (Int.tdiv l3 4)) then gj_chk (0 ≤ l3 ∧ l3 < n1) ((if M z1 l3 = -1 then gj_chk (0 ≤ l3 ∧ l3 < 8) (gj_letI (gj_w (l2 + (gj_w (16 * (M 83 l3))))) (fun x7 => (J_X12_sumOf_69 z1 n1 M rec4 x7 l3))) else (if 4 ≤ l3 then (J_X12_sumOf_69 z1 n1 M rec4 l2 l3) else gj_chk (0 ≤ l3 ∧ l3 < n1) (gj_bnd (F_X12_truly l3 (M z1 l3) M) (fun x4 => (J_X12_sumOf_69 z1 n1 M rec4 (gj_w (l2 + x4)) l3)))))) else (J_X12_sumOf_69 z1 n1 M rec4 l2 l3))))
def F_X12_sumOf (z1 : Int) (n1 : Int) (M : gj_M) : Option (Int) :=
  (gj_it (fun _ _ => none) (B_X12_sumOf_4 z1 n1 M) gj_fu 0 0)
set_option maxHeartbeats 4000000 in
set_option maxRecDepth 20000 in
theorem t_J_X12_sumOf_69 (hst : gj_Stat S) {z1 n1 : Int} (hz1 : S.2.1 z1 = (0, n1)) (hz1p : 0 ≤ z1) (hz1n : 0 ≤ n1 ∧ n1 < 2147483648) {r : Int} {rec4 : Int → Int → Option (Int)} (hrec4 : ∀ (l2 l3 : Int), rec4 l2 l3 = some r → gj_W G l 3 0 0 yX12_sumOf cX12_sumOf 4 (some .int) (gj_qI fun x S' M' => r = x ∧ S = S' ∧ M = M') 0 0 4 [(0, jR 79), (1, jR z1), (2, jI l2), (3, jI l3)] [] S M) (l2 l3 : Int) (hF : J_X12_sumOf_69 z1 n1 M rec4 l2 l3 = some r) : gj_W G l 3 0 0 yX12_sumOf cX12_sumOf 4 (some .int) (gj_qI fun x S' M' => r = x ∧ S = S' ∧ M = M') 0 0 69 [(0, jR 79), (1, jR z1), (2, jI l2), (3, jI l3)] [] S M := by
  unfold J_X12_sumOf_69 at hF
  refine gj_iinc (q := 72) (v := gj_w (l3 + 1)) (gj_dk okX12_sumOf 49 rfl) rfl (by decide) rfl rfl ?_
  refine gj_goto (tgt := 4) (gj_dk okX12_sumOf 50 rfl) (by decide) ?_
  refine gj_sub [(0, jR 79), (1, jR z1), (2, jI l2), (3, jI (gj_w (l3 + 1)))] ⟨rfl, rfl, rfl, rfl, trivial⟩ ?_
  exact hrec4 l2 (gj_w (l3 + 1)) hF
set_option maxHeartbeats 4000000 in
set_option maxRecDepth 20000 in
theorem t_B_X12_sumOf_4 (hst : gj_Stat S) {z1 n1 : Int} (hz1 : S.2.1 z1 = (0, n1)) (hz1p : 0 ≤ z1) (hz1n : 0 ≤ n1 ∧ n1 < 2147483648) {r : Int} {rec4 : Int → Int → Option (Int)} (hrec4 : ∀ (l2 l3 : Int), rec4 l2 l3 = some r → gj_W G l 3 0 0 yX12_sumOf cX12_sumOf 4 (some .int) (gj_qI fun x S' M' => r = x ∧ S = S' ∧ M = M') 0 0 4 [(0, jR 79), (1, jR z1), (2, jI l2), (3, jI l3)] [] S M) (l2 l3 : Int) (hF : B_X12_sumOf_4 z1 n1 M rec4 l2 l3 = some r) : gj_W G l 3 0 0 yX12_sumOf cX12_sumOf 4 (some .int) (gj_qI fun x S' M' => r = x ∧ S = S' ∧ M = M') 0 0 4 [(0, jR 79), (1, jR z1), (2, jI l2), (3, jI l3)] [] S M := by
  unfold B_X12_sumOf_4 at hF
  refine gj_iload_n (q := 5) (gj_dk okX12_sumOf 4 rfl) rfl rfl ?_
  refine gj_bipush (q := 7) (gj_dk okX12_sumOf 5 rfl) (by decide) rfl rfl ?_
  refine gj_icmp_ge (q := 10) (tgt := 75) (gj_dk okX12_sumOf 6 rfl) (by decide) rfl (fun c7 => ?_) (fun c7 => ?_)
  · -- 75
    replace hF := gj_ift c7 hF
    refine gj_iload_n (q := 76) (gj_dk okX12_sumOf 51 rfl) rfl rfl ?_
    cases hF
    exact gj_iret (gj_dk okX12_sumOf 52 rfl) rfl ⟨_, rfl, rfl, rfl, rfl⟩
  · -- 10
    replace hF := gj_iff c7 hF
    refine gj_iload_n (q := 11) (gj_dk okX12_sumOf 7 rfl) rfl rfl ?_
    refine gj_iconst (q := 12) (gj_dk okX12_sumOf 8 rfl) (by decide) rfl ?_
    refine gj_irem (q := 13) (gj_dk okX12_sumOf 9 rfl) (by decide) rfl ?_
    refine gj_aload_n (q := 14) (gj_dk okX12_sumOf 10 rfl) rfl rfl ?_
    refine gj_gR (q := 17) (j := 13) (gj_dk okX12_sumOf 11 rfl) ff_X12_37 (sh79 hst) (by decide) rfl (rf79_13 hst) rfl ?_
    refine gj_iconst (q := 18) (gj_dk okX12_sumOf 12 rfl) (by decide) rfl ?_
    refine gj_aald (q := 19) (gj_dk okX12_sumOf 13 rfl) (sh100 hst) (by decide) (by decide) (by decide) (rf100_0 hst) rfl ?_
    refine gj_iload_n (q := 20) (gj_dk okX12_sumOf 14 rfl) rfl rfl ?_
    refine gj_iconst (q := 21) (gj_dk okX12_sumOf 15 rfl) (by decide) rfl ?_
    refine gj_idiv (q := 22) (gj_dk okX12_sumOf 16 rfl) (by decide) rfl ?_
    obtain ⟨b1, hF⟩ := gj_ckd hF
    refine gj_iald (q := 23) (gj_dk okX12_sumOf 17 rfl) (sh101 hst) b1.1 b1.2 rfl ?_
    refine gj_icmp_lt (q := 26) (tgt := 29) (gj_dk okX12_sumOf 18 rfl) (by decide) rfl (fun c23 => ?_) (fun c23 => ?_)
    · -- 29
      replace hF := gj_ift c23 hF
      refine gj_aload_n (q := 30) (gj_dk okX12_sumOf 20 rfl) rfl rfl ?_
      refine gj_iload_n (q := 31) (gj_dk okX12_sumOf 21 rfl) rfl rfl ?_
      obtain ⟨b2, hF⟩ := gj_ckd hF
      refine gj_iald (q := 32) (gj_dk okX12_sumOf 22 rfl) hz1 b2.1 b2.2 rfl ?_
      refine gj_iconst (q := 33) (gj_dk okX12_sumOf 23 rfl) (by decide) rfl ?_
      refine gj_icmp_ne (q := 36) (tgt := 53) (gj_dk okX12_sumOf 24 rfl) (by decide) rfl (fun c33 => ?_) (fun c33 => ?_)
      · -- 53
        replace hF := gj_iff c33 hF
        refine gj_iload_n (q := 54) (gj_dk okX12_sumOf 37 rfl) rfl rfl ?_
        refine gj_iconst (q := 55) (gj_dk okX12_sumOf 38 rfl) (by decide) rfl ?_
        refine gj_icmp_ge (q := 58) (tgt := 69) (gj_dk okX12_sumOf 39 rfl) (by decide) rfl (fun c55 => ?_) (fun c55 => ?_)
        · -- 69
          replace hF := gj_ift c55 hF
          refine gj_sub [(0, jR 79), (1, jR z1), (2, jI l2), (3, jI l3)] ⟨rfl, rfl, rfl, rfl, trivial⟩ ?_
          exact t_J_X12_sumOf_69 hst hz1 hz1p hz1n hrec4 l2 l3 hF
        · -- 58
          replace hF := gj_iff c55 hF
          refine gj_iload_n (q := 59) (gj_dk okX12_sumOf 40 rfl) rfl rfl ?_
          refine gj_aload_n (q := 60) (gj_dk okX12_sumOf 41 rfl) rfl rfl ?_
          refine gj_iload_n (q := 61) (gj_dk okX12_sumOf 42 rfl) rfl rfl ?_
          refine gj_aload_n (q := 62) (gj_dk okX12_sumOf 43 rfl) rfl rfl ?_
          refine gj_iload_n (q := 63) (gj_dk okX12_sumOf 44 rfl) rfl rfl ?_
          obtain ⟨b3, hF⟩ := gj_ckd hF
          refine gj_iald (q := 64) (gj_dk okX12_sumOf 45 rfl) hz1 b3.1 b3.2 rfl ?_
          obtain ⟨x4, hG, hF⟩ := gj_bndd hF
          refine gj_callV (q := 67) (z := 79) (ci := 10) [jI l3, jI (M z1 l3)] rfl (t_X12_truly hst l3 (M z1 l3) hG) (gj_dk okX12_sumOf 46 rfl) ml_X12_422 me_X12_truly (sh79 hst) rfl (gj_nm rfl) rfl (gj_kI fun y S2 M2 h => ?_)
          obtain ⟨e, eS, eM⟩ := h; subst eS; subst eM; subst e; clear hG
          refine gj_iadd (q := 68) (gj_dk okX12_sumOf 47 rfl) rfl ?_
          refine gj_istore_n (q := 69) (gj_dk okX12_sumOf 48 rfl) (by decide) rfl ?_
          refine gj_sub [(0, jR 79), (1, jR z1), (2, jI (gj_w (l2 + x4))), (3, jI l3)] ⟨rfl, rfl, rfl, rfl, trivial⟩ ?_
          exact t_J_X12_sumOf_69 hst hz1 hz1p hz1n hrec4 (gj_w (l2 + x4)) l3 hF
      · -- 36
        replace hF := gj_ift c33 hF
        refine gj_iload_n (q := 37) (gj_dk okX12_sumOf 25 rfl) rfl rfl ?_
        refine gj_bipush (q := 39) (gj_dk okX12_sumOf 26 rfl) (by decide) rfl rfl ?_
        refine gj_aload_n (q := 40) (gj_dk okX12_sumOf 27 rfl) rfl rfl ?_
        refine gj_gR (q := 43) (j := 7) (gj_dk okX12_sumOf 28 rfl) ff_X12_19 (sh79 hst) (by decide) rfl (rf79_7 hst) rfl ?_
        refine gj_iconst (q := 44) (gj_dk okX12_sumOf 29 rfl) (by decide) rfl ?_
        refine gj_aald (q := 45) (gj_dk okX12_sumOf 30 rfl) (sh82 hst) (by decide) (by decide) (by decide) (rf82_0 hst) rfl ?_
        refine gj_iload_n (q := 46) (gj_dk okX12_sumOf 31 rfl) rfl rfl ?_
        obtain ⟨b6, hF⟩ := gj_ckd hF
        refine gj_iald (q := 47) (gj_dk okX12_sumOf 32 rfl) (sh83 hst) b6.1 b6.2 rfl ?_
        refine gj_imul (q := 48) (gj_dk okX12_sumOf 33 rfl) rfl ?_
        refine gj_iadd (q := 49) (gj_dk okX12_sumOf 34 rfl) rfl ?_
        refine gj_stpI hF (fun x7 hF => ?_)
        refine gj_istore_n (q := 50) (gj_dk okX12_sumOf 35 rfl) (by decide) rfl ?_
        refine gj_goto (tgt := 69) (gj_dk okX12_sumOf 36 rfl) (by decide) ?_
        refine gj_sub [(0, jR 79), (1, jR z1), (2, jI x7), (3, jI l3)] ⟨rfl, rfl, rfl, rfl, trivial⟩ ?_
        exact t_J_X12_sumOf_69 hst hz1 hz1p hz1n hrec4 x7 l3 hF
    · -- 26
      replace hF := gj_iff c23 hF
      refine gj_goto (tgt := 69) (gj_dk okX12_sumOf 19 rfl) (by decide) ?_
      refine gj_sub [(0, jR 79), (1, jR z1), (2, jI l2), (3, jI l3)] ⟨rfl, rfl, rfl, rfl, trivial⟩ ?_
      exact t_J_X12_sumOf_69 hst hz1 hz1p hz1n hrec4 l2 l3 hF
theorem t_L_X12_sumOf_4 (hst : gj_Stat S) {z1 n1 : Int} (hz1 : S.2.1 z1 = (0, n1)) (hz1p : 0 ≤ z1) (hz1n : 0 ≤ n1 ∧ n1 < 2147483648) {r : Int} : ∀ (m : Nat) (l2 : Int) (l3 : Int), gj_it (fun _ _ => none) (B_X12_sumOf_4 z1 n1 M) m l2 l3 = some r → gj_W G l 3 0 0 yX12_sumOf cX12_sumOf 4 (some .int) (gj_qI fun x S' M' => r = x ∧ S = S' ∧ M = M') 0 0 4 [(0, jR 79), (1, jR z1), (2, jI l2), (3, jI l3)] [] S M := by
  intro m
  induction m with
  | zero => intro l2 l3 hF; cases (show (none : Option (Int)) = some r from hF)
  | succ m ih => intro l2 l3 hF; exact t_B_X12_sumOf_4 hst hz1 hz1p hz1n (fun l2 l3 h => ih l2 l3 h) l2 l3 hF
set_option maxHeartbeats 4000000 in
set_option maxRecDepth 20000 in
theorem t_X12_sumOf (hst : gj_Stat S) {z1 n1 : Int} (hz1 : S.2.1 z1 = (0, n1)) (hz1p : 0 ≤ z1) (hz1n : 0 ≤ n1 ∧ n1 < 2147483648) {r : Int} (hF : F_X12_sumOf z1 n1 M = some r) : gj_C G l 3 0 0 yX12_sumOf cX12_sumOf 4 (some .int) [jR 79, jR z1] S M (gj_qI fun x S' M' => r = x ∧ S = S' ∧ M = M') := by
  refine gj_Cof (by decide +kernel) (Nat.le_of_ble_eq_true rfl) ?_
  change gj_W G l 3 0 0 yX12_sumOf cX12_sumOf 4 (some .int) (gj_qI fun x S' M' => r = x ∧ S = S' ∧ M = M') 0 0 0 [(0, jR 79), (1, jR z1)] [] S M
  unfold F_X12_sumOf at hF
  refine gj_iconst (q := 1) (gj_dk okX12_sumOf 0 rfl) (by decide) rfl ?_
  refine gj_istore_n (q := 2) (gj_dk okX12_sumOf 1 rfl) (by decide) rfl ?_
  refine gj_iconst (q := 3) (gj_dk okX12_sumOf 2 rfl) (by decide) rfl ?_
  refine gj_istore_n (q := 4) (gj_dk okX12_sumOf 3 rfl) (by decide) rfl ?_
  refine gj_sub [(0, jR 79), (1, jR z1), (2, jI 0), (3, jI 0)] ⟨rfl, rfl, rfl, rfl, trivial⟩ ?_
  exact t_L_X12_sumOf_4 hst hz1 hz1p hz1n gj_fu 0 0 hF
def J_X12_parentsFrom_139 (rec : Int → gj_M → Option (gj_M)) (l1 : Int) (M : gj_M) : Option (gj_M) :=
  gj_chk (0 ≤ l1 ∧ l1 < 8) (gj_let (gj_up M 124 l1 (-1)) (fun M21 => (some (M21))))
def J_X12_parentsFrom_133 (rec : Int → gj_M → Option (gj_M)) (rec78 : Int → Int → gj_M → Option (gj_M)) (l1 l2 : Int) (M : gj_M) : Option (gj_M) :=
  rec78 l1 (gj_w (l2 + 1)) M
def B_X12_parentsFrom_78 (rec : Int → gj_M → Option (gj_M)) (rec78 : Int → Int → gj_M → Option (gj_M)) (l1 l2 : Int) (M : gj_M) : Option (gj_M) :=
  (if gj_w (4 + (M 101 1)) ≤ l2 then (J_X12_parentsFrom_139 rec l1 M) else gj_chk (0 ≤ l2 ∧ l2 < 8) ((if M 124 l2 = -1 then gj_chk (0 ≤ l1 ∧ l1 < 8) (gj_let (gj_up M 124 l1 l2) (fun M10 => gj_chk (0 ≤ l2 ∧ l2 < 8) (gj_let (gj_up M10 124 l2 l1) (fun M12 => gj_bnd (rec (gj_w (l1 + 1)) M12) (fun M14 => gj_chk (0 ≤ l2 ∧ l2 < 8) (gj_let (gj_up M14 124 l2 (-1)) (fun M16 => (J_X12_parentsFrom_133 rec rec78 l1 l2 M16)))))))) else (J_X12_parentsFrom_133 rec rec78 l1 l2 M))))
def B_X12_parentsFrom_37 (rec : Int → gj_M → Option (gj_M)) (rec37 : Int → gj_M → Option (gj_M)) (l3 : Int) (M : gj_M) : Option (gj_M) :=
  (if 8 ≤ l3 then (some (M)) else gj_chk (0 ≤ l3 ∧ l3 < 8) (gj_chk (0 ≤ l3 ∧ l3 < 8) (gj_let (gj_up M 125 l3 (M 124 l3)) (fun M19 => rec37 (gj_w (l3 + 1)) M19))))
def F_X12_parentsFrom (rec : Int → gj_M → Option (gj_M)) (a1 : Int) (M : gj_M) : Option (gj_M) :=
  (if a1 = M 101 0 then gj_bnd (F_X12_sumOf 124 8 M) (fun x5 => (if M 79 46 < x5 then gj_let (gj_up M 79 46 x5) (fun M7 => (gj_it (fun _ _ => none) (B_X12_parentsFrom_37 rec) gj_fu 0 M7)) else (some (M)))) else gj_chk (0 ≤ a1 ∧ a1 < 8) (gj_let (gj_up M 124 a1 (-1)) (fun M2 => gj_bnd (rec (gj_w (a1 + 1)) M2) (fun M4 => (gj_it (fun _ _ _ => none) (B_X12_parentsFrom_78 rec) gj_fu a1 4 M4)))))
set_option maxHeartbeats 4000000 in
set_option maxRecDepth 20000 in
theorem t_J_X12_parentsFrom_139 (hst : gj_Stat S) {dd : Nat} (hdd : 4 ≤ dd) {rec : Int → gj_M → Option (gj_M)} (hrec : ∀ (a1 : Int) (M : gj_M) (r : gj_M), rec a1 M = some r → gj_C G l dd 0 0 yX12_parentsFrom cX12_parentsFrom 4 none [jR 79, jI a1] S M (gj_qV fun S' M' => S = S' ∧ r = M')) {r : gj_M} (l1 : Int) (M : gj_M) (hF : J_X12_parentsFrom_139 rec l1 M = some r) : gj_W G l ((dd + 1)) 0 0 yX12_parentsFrom cX12_parentsFrom 4 none (gj_qV fun S' M' => S = S' ∧ r = M') 0 0 139 [(0, jR 79), (1, jI l1)] [] S M := by
  unfold J_X12_parentsFrom_139 at hF
  refine gj_aload_n (q := 140) (gj_dk okX12_parentsFrom 88 rfl) rfl rfl ?_
  refine gj_gR (q := 143) (j := 44) (gj_dk okX12_parentsFrom 89 rfl) ff_X12_129 (sh79 hst) (by decide) rfl (rf79_44 hst) rfl ?_
  refine gj_iload_n (q := 144) (gj_dk okX12_parentsFrom 90 rfl) rfl rfl ?_
  refine gj_iconst (q := 145) (gj_dk okX12_parentsFrom 91 rfl) (by decide) rfl ?_
  obtain ⟨b20, hF⟩ := gj_ckd hF
  refine gj_iast (q := 146) (gj_dk okX12_parentsFrom 92 rfl) (sh124 hst) b20.1 b20.2 rfl ?_
  refine gj_stp hF (fun M21 hF => ?_)
  cases hF
  exact gj_vret (gj_dk okX12_parentsFrom 93 rfl) rfl ⟨rfl, rfl, rfl⟩
set_option maxHeartbeats 4000000 in
set_option maxRecDepth 20000 in
theorem t_J_X12_parentsFrom_133 (hst : gj_Stat S) {dd : Nat} (hdd : 4 ≤ dd) {rec : Int → gj_M → Option (gj_M)} (hrec : ∀ (a1 : Int) (M : gj_M) (r : gj_M), rec a1 M = some r → gj_C G l dd 0 0 yX12_parentsFrom cX12_parentsFrom 4 none [jR 79, jI a1] S M (gj_qV fun S' M' => S = S' ∧ r = M')) {r : gj_M} {rec78 : Int → Int → gj_M → Option (gj_M)} (hrec78 : ∀ (l1 l2 : Int) (M : gj_M), rec78 l1 l2 M = some r → gj_W G l ((dd + 1)) 0 0 yX12_parentsFrom cX12_parentsFrom 4 none (gj_qV fun S' M' => S = S' ∧ r = M') 0 0 78 [(0, jR 79), (1, jI l1), (2, jI l2)] [] S M) (l1 l2 : Int) (M : gj_M) (hF : J_X12_parentsFrom_133 rec rec78 l1 l2 M = some r) : gj_W G l ((dd + 1)) 0 0 yX12_parentsFrom cX12_parentsFrom 4 none (gj_qV fun S' M' => S = S' ∧ r = M') 0 0 133 [(0, jR 79), (1, jI l1), (2, jI l2)] [] S M := by
  unfold J_X12_parentsFrom_133 at hF
  refine gj_iinc (q := 136) (v := gj_w (l2 + 1)) (gj_dk okX12_parentsFrom 86 rfl) rfl (by decide) rfl rfl ?_
  refine gj_goto (tgt := 78) (gj_dk okX12_parentsFrom 87 rfl) (by decide) ?_
  refine gj_sub [(0, jR 79), (1, jI l1), (2, jI (gj_w (l2 + 1)))] ⟨rfl, rfl, rfl, trivial⟩ ?_
  exact hrec78 l1 (gj_w (l2 + 1)) M hF
set_option maxHeartbeats 4000000 in
set_option maxRecDepth 20000 in
theorem t_B_X12_parentsFrom_78 (hst : gj_Stat S) {dd : Nat} (hdd : 4 ≤ dd) {rec : Int → gj_M → Option (gj_M)} (hrec : ∀ (a1 : Int) (M : gj_M) (r : gj_M), rec a1 M = some r → gj_C G l dd 0 0 yX12_parentsFrom cX12_parentsFrom 4 none [jR 79, jI a1] S M (gj_qV fun S' M' => S = S' ∧ r = M')) {r : gj_M} {rec78 : Int → Int → gj_M → Option (gj_M)} (hrec78 : ∀ (l1 l2 : Int) (M : gj_M), rec78 l1 l2 M = some r → gj_W G l ((dd + 1)) 0 0 yX12_parentsFrom cX12_parentsFrom 4 none (gj_qV fun S' M' => S = S' ∧ r = M') 0 0 78 [(0, jR 79), (1, jI l1), (2, jI l2)] [] S M) (l1 l2 : Int) (M : gj_M) (hF : B_X12_parentsFrom_78 rec rec78 l1 l2 M = some r) : gj_W G l ((dd + 1)) 0 0 yX12_parentsFrom cX12_parentsFrom 4 none (gj_qV fun S' M' => S = S' ∧ r = M') 0 0 78 [(0, jR 79), (1, jI l1), (2, jI l2)] [] S M := by
  unfold B_X12_parentsFrom_78 at hF
  refine gj_iload_n (q := 79) (gj_dk okX12_parentsFrom 49 rfl) rfl rfl ?_
  refine gj_iconst (q := 80) (gj_dk okX12_parentsFrom 50 rfl) (by decide) rfl ?_
  refine gj_aload_n (q := 81) (gj_dk okX12_parentsFrom 51 rfl) rfl rfl ?_
  refine gj_gR (q := 84) (j := 13) (gj_dk okX12_parentsFrom 52 rfl) ff_X12_37 (sh79 hst) (by decide) rfl (rf79_13 hst) rfl ?_
  refine gj_iconst (q := 85) (gj_dk okX12_parentsFrom 53 rfl) (by decide) rfl ?_
  refine gj_aald (q := 86) (gj_dk okX12_parentsFrom 54 rfl) (sh100 hst) (by decide) (by decide) (by decide) (rf100_0 hst) rfl ?_
  refine gj_iconst (q := 87) (gj_dk okX12_parentsFrom 55 rfl) (by decide) rfl ?_
  refine gj_iald (q := 88) (gj_dk okX12_parentsFrom 56 rfl) (sh101 hst) (by decide) (by decide) rfl ?_
  refine gj_iadd (q := 89) (gj_dk okX12_parentsFrom 57 rfl) rfl ?_
  refine gj_icmp_ge (q := 92) (tgt := 139) (gj_dk okX12_parentsFrom 58 rfl) (by decide) rfl (fun c89 => ?_) (fun c89 => ?_)
  · -- 139
    replace hF := gj_ift c89 hF
    refine gj_sub [(0, jR 79), (1, jI l1)] ⟨rfl, rfl, trivial⟩ ?_
    exact t_J_X12_parentsFrom_139 hst hdd hrec l1 M hF
  · -- 92
    replace hF := gj_iff c89 hF
    refine gj_aload_n (q := 93) (gj_dk okX12_parentsFrom 59 rfl) rfl rfl ?_
    refine gj_gR (q := 96) (j := 44) (gj_dk okX12_parentsFrom 60 rfl) ff_X12_129 (sh79 hst) (by decide) rfl (rf79_44 hst) rfl ?_
    refine gj_iload_n (q := 97) (gj_dk okX12_parentsFrom 61 rfl) rfl rfl ?_
    obtain ⟨b8, hF⟩ := gj_ckd hF
    refine gj_iald (q := 98) (gj_dk okX12_parentsFrom 62 rfl) (sh124 hst) b8.1 b8.2 rfl ?_
    refine gj_iconst (q := 99) (gj_dk okX12_parentsFrom 63 rfl) (by decide) rfl ?_
    refine gj_icmp_eq (q := 102) (tgt := 105) (gj_dk okX12_parentsFrom 64 rfl) (by decide) rfl (fun c99 => ?_) (fun c99 => ?_)
    · -- 105
      replace hF := gj_ift c99 hF
      refine gj_aload_n (q := 106) (gj_dk okX12_parentsFrom 66 rfl) rfl rfl ?_
      refine gj_gR (q := 109) (j := 44) (gj_dk okX12_parentsFrom 67 rfl) ff_X12_129 (sh79 hst) (by decide) rfl (rf79_44 hst) rfl ?_
      refine gj_iload_n (q := 110) (gj_dk okX12_parentsFrom 68 rfl) rfl rfl ?_
      refine gj_iload_n (q := 111) (gj_dk okX12_parentsFrom 69 rfl) rfl rfl ?_
      obtain ⟨b9, hF⟩ := gj_ckd hF
      refine gj_iast (q := 112) (gj_dk okX12_parentsFrom 70 rfl) (sh124 hst) b9.1 b9.2 rfl ?_
      refine gj_stp hF (fun M10 hF => ?_)
      refine gj_aload_n (q := 113) (gj_dk okX12_parentsFrom 71 rfl) rfl rfl ?_
      refine gj_gR (q := 116) (j := 44) (gj_dk okX12_parentsFrom 72 rfl) ff_X12_129 (sh79 hst) (by decide) rfl (rf79_44 hst) rfl ?_
      refine gj_iload_n (q := 117) (gj_dk okX12_parentsFrom 73 rfl) rfl rfl ?_
      refine gj_iload_n (q := 118) (gj_dk okX12_parentsFrom 74 rfl) rfl rfl ?_
      obtain ⟨b11, hF⟩ := gj_ckd hF
      refine gj_iast (q := 119) (gj_dk okX12_parentsFrom 75 rfl) (sh124 hst) b11.1 b11.2 rfl ?_
      refine gj_stp hF (fun M12 hF => ?_)
      refine gj_aload_n (q := 120) (gj_dk okX12_parentsFrom 76 rfl) rfl rfl ?_
      refine gj_iload_n (q := 121) (gj_dk okX12_parentsFrom 77 rfl) rfl rfl ?_
      refine gj_iconst (q := 122) (gj_dk okX12_parentsFrom 78 rfl) (by decide) rfl ?_
      refine gj_iadd (q := 123) (gj_dk okX12_parentsFrom 79 rfl) rfl ?_
      obtain ⟨M14, hG, hF⟩ := gj_bndd hF
      refine gj_callV (q := 126) (z := 79) (ci := 10) [jI (gj_w (l1 + 1))] rfl (hrec (gj_w (l1 + 1)) _ _ hG) (gj_dk okX12_parentsFrom 80 rfl) ml_X12_432 me_X12_parentsFrom (sh79 hst) rfl ⟨by omega, Nat.le_of_ble_eq_true rfl, rfl, Nat.le_of_ble_eq_true rfl, by omega, by omega⟩ rfl (gj_kV fun S2 M2 h => ?_)
      obtain ⟨eS, eM⟩ := h; subst eS; subst eM; clear hG
      refine gj_aload_n (q := 127) (gj_dk okX12_parentsFrom 81 rfl) rfl rfl ?_
      refine gj_gR (q := 130) (j := 44) (gj_dk okX12_parentsFrom 82 rfl) ff_X12_129 (sh79 hst) (by decide) rfl (rf79_44 hst) rfl ?_
      refine gj_iload_n (q := 131) (gj_dk okX12_parentsFrom 83 rfl) rfl rfl ?_
      refine gj_iconst (q := 132) (gj_dk okX12_parentsFrom 84 rfl) (by decide) rfl ?_
      obtain ⟨b15, hF⟩ := gj_ckd hF
      refine gj_iast (q := 133) (gj_dk okX12_parentsFrom 85 rfl) (sh124 hst) b15.1 b15.2 rfl ?_
      refine gj_stp hF (fun M16 hF => ?_)
      refine gj_sub [(0, jR 79), (1, jI l1), (2, jI l2)] ⟨rfl, rfl, rfl, trivial⟩ ?_
      exact t_J_X12_parentsFrom_133 hst hdd hrec hrec78 l1 l2 M16 hF
    · -- 102
      replace hF := gj_iff c99 hF
      refine gj_goto (tgt := 133) (gj_dk okX12_parentsFrom 65 rfl) (by decide) ?_
      refine gj_sub [(0, jR 79), (1, jI l1), (2, jI l2)] ⟨rfl, rfl, rfl, trivial⟩ ?_
      exact t_J_X12_parentsFrom_133 hst hdd hrec hrec78 l1 l2 M hF
theorem t_L_X12_parentsFrom_78 (hst : gj_Stat S) {dd : Nat} (hdd : 4 ≤ dd) {rec : Int → gj_M → Option (gj_M)} (hrec : ∀ (a1 : Int) (M : gj_M) (r : gj_M), rec a1 M = some r → gj_C G l dd 0 0 yX12_parentsFrom cX12_parentsFrom 4 none [jR 79, jI a1] S M (gj_qV fun S' M' => S = S' ∧ r = M')) {r : gj_M} : ∀ (m : Nat) (l1 : Int) (l2 : Int) (M : gj_M), gj_it (fun _ _ _ => none) (B_X12_parentsFrom_78 rec) m l1 l2 M = some r → gj_W G l ((dd + 1)) 0 0 yX12_parentsFrom cX12_parentsFrom 4 none (gj_qV fun S' M' => S = S' ∧ r = M') 0 0 78 [(0, jR 79), (1, jI l1), (2, jI l2)] [] S M := by
  intro m
  induction m with
  | zero => intro l1 l2 M hF; cases (show (none : Option (gj_M)) = some r from hF)
  | succ m ih => intro l1 l2 M hF; exact t_B_X12_parentsFrom_78 hst hdd hrec (fun l1 l2 M h => ih l1 l2 M h) l1 l2 M hF
set_option maxHeartbeats 4000000 in
set_option maxRecDepth 20000 in
theorem t_B_X12_parentsFrom_37 (hst : gj_Stat S) {dd : Nat} (hdd : 4 ≤ dd) {rec : Int → gj_M → Option (gj_M)} (hrec : ∀ (a1 : Int) (M : gj_M) (r : gj_M), rec a1 M = some r → gj_C G l dd 0 0 yX12_parentsFrom cX12_parentsFrom 4 none [jR 79, jI a1] S M (gj_qV fun S' M' => S = S' ∧ r = M')) {r : gj_M} {rec37 : Int → gj_M → Option (gj_M)} (hrec37 : ∀ (l3 : Int) (M : gj_M), rec37 l3 M = some r → gj_W G l ((dd + 1)) 0 0 yX12_parentsFrom cX12_parentsFrom 4 none (gj_qV fun S' M' => S = S' ∧ r = M') 0 0 37 [(0, jR 79), (3, jI l3)] [] S M) (l3 : Int) (M : gj_M) (hF : B_X12_parentsFrom_37 rec rec37 l3 M = some r) : gj_W G l ((dd + 1)) 0 0 yX12_parentsFrom cX12_parentsFrom 4 none (gj_qV fun S' M' => S = S' ∧ r = M') 0 0 37 [(0, jR 79), (3, jI l3)] [] S M := by
  unfold B_X12_parentsFrom_37 at hF
  refine gj_iload_n (q := 38) (gj_dk okX12_parentsFrom 23 rfl) rfl rfl ?_
  refine gj_bipush (q := 40) (gj_dk okX12_parentsFrom 24 rfl) (by decide) rfl rfl ?_
  refine gj_icmp_ge (q := 43) (tgt := 61) (gj_dk okX12_parentsFrom 25 rfl) (by decide) rfl (fun c40 => ?_) (fun c40 => ?_)
  · -- 61
    replace hF := gj_ift c40 hF
    cases hF
    exact gj_vret (gj_dk okX12_parentsFrom 36 rfl) rfl ⟨rfl, rfl, rfl⟩
  · -- 43
    replace hF := gj_iff c40 hF
    refine gj_aload_n (q := 44) (gj_dk okX12_parentsFrom 26 rfl) rfl rfl ?_
    refine gj_gR (q := 47) (j := 45) (gj_dk okX12_parentsFrom 27 rfl) ff_X12_132 (sh79 hst) (by decide) rfl (rf79_45 hst) rfl ?_
    refine gj_iload_n (q := 48) (gj_dk okX12_parentsFrom 28 rfl) rfl rfl ?_
    refine gj_aload_n (q := 49) (gj_dk okX12_parentsFrom 29 rfl) rfl rfl ?_
    refine gj_gR (q := 52) (j := 44) (gj_dk okX12_parentsFrom 30 rfl) ff_X12_129 (sh79 hst) (by decide) rfl (rf79_44 hst) rfl ?_
    refine gj_iload_n (q := 53) (gj_dk okX12_parentsFrom 31 rfl) rfl rfl ?_
    obtain ⟨b17, hF⟩ := gj_ckd hF
    refine gj_iald (q := 54) (gj_dk okX12_parentsFrom 32 rfl) (sh124 hst) b17.1 b17.2 rfl ?_
    obtain ⟨b18, hF⟩ := gj_ckd hF
    refine gj_iast (q := 55) (gj_dk okX12_parentsFrom 33 rfl) (sh125 hst) b18.1 b18.2 rfl ?_
    refine gj_stp hF (fun M19 hF => ?_)
    refine gj_iinc (q := 58) (v := gj_w (l3 + 1)) (gj_dk okX12_parentsFrom 34 rfl) rfl (by decide) rfl rfl ?_
    refine gj_goto (tgt := 37) (gj_dk okX12_parentsFrom 35 rfl) (by decide) ?_
    refine gj_sub [(0, jR 79), (3, jI (gj_w (l3 + 1)))] ⟨rfl, rfl, trivial⟩ ?_
    exact hrec37 (gj_w (l3 + 1)) M19 hF
theorem t_L_X12_parentsFrom_37 (hst : gj_Stat S) {dd : Nat} (hdd : 4 ≤ dd) {rec : Int → gj_M → Option (gj_M)} (hrec : ∀ (a1 : Int) (M : gj_M) (r : gj_M), rec a1 M = some r → gj_C G l dd 0 0 yX12_parentsFrom cX12_parentsFrom 4 none [jR 79, jI a1] S M (gj_qV fun S' M' => S = S' ∧ r = M')) {r : gj_M} : ∀ (m : Nat) (l3 : Int) (M : gj_M), gj_it (fun _ _ => none) (B_X12_parentsFrom_37 rec) m l3 M = some r → gj_W G l ((dd + 1)) 0 0 yX12_parentsFrom cX12_parentsFrom 4 none (gj_qV fun S' M' => S = S' ∧ r = M') 0 0 37 [(0, jR 79), (3, jI l3)] [] S M := by
  intro m
  induction m with
  | zero => intro l3 M hF; cases (show (none : Option (gj_M)) = some r from hF)
  | succ m ih => intro l3 M hF; exact t_B_X12_parentsFrom_37 hst hdd hrec (fun l3 M h => ih l3 M h) l3 M hF
set_option maxHeartbeats 4000000 in
set_option maxRecDepth 20000 in
theorem t_X12_parentsFrom (hst : gj_Stat S) {dd : Nat} (hdd : 4 ≤ dd) {rec : Int → gj_M → Option (gj_M)} (hrec : ∀ (a1 : Int) (M : gj_M) (r : gj_M), rec a1 M = some r → gj_C G l dd 0 0 yX12_parentsFrom cX12_parentsFrom 4 none [jR 79, jI a1] S M (gj_qV fun S' M' => S = S' ∧ r = M')) (a1 : Int) {r : gj_M} (hF : F_X12_parentsFrom rec a1 M = some r) : gj_C G l ((dd + 1)) 0 0 yX12_parentsFrom cX12_parentsFrom 4 none [jR 79, jI a1] S M (gj_qV fun S' M' => S = S' ∧ r = M') := by
  refine gj_Cof (by decide +kernel) (Nat.le_of_ble_eq_true rfl) ?_
  change gj_W G l ((dd + 1)) 0 0 yX12_parentsFrom cX12_parentsFrom 4 none (gj_qV fun S' M' => S = S' ∧ r = M') 0 0 0 [(0, jR 79), (1, jI a1)] [] S M
  unfold F_X12_parentsFrom at hF
  refine gj_iload_n (q := 1) (gj_dk okX12_parentsFrom 0 rfl) rfl rfl ?_
  refine gj_aload_n (q := 2) (gj_dk okX12_parentsFrom 1 rfl) rfl rfl ?_
  refine gj_gR (q := 5) (j := 13) (gj_dk okX12_parentsFrom 2 rfl) ff_X12_37 (sh79 hst) (by decide) rfl (rf79_13 hst) rfl ?_
  refine gj_iconst (q := 6) (gj_dk okX12_parentsFrom 3 rfl) (by decide) rfl ?_
  refine gj_aald (q := 7) (gj_dk okX12_parentsFrom 4 rfl) (sh100 hst) (by decide) (by decide) (by decide) (rf100_0 hst) rfl ?_
  refine gj_iconst (q := 8) (gj_dk okX12_parentsFrom 5 rfl) (by decide) rfl ?_
  refine gj_iald (q := 9) (gj_dk okX12_parentsFrom 6 rfl) (sh101 hst) (by decide) (by decide) rfl ?_
  refine gj_icmp_ne (q := 12) (tgt := 62) (gj_dk okX12_parentsFrom 7 rfl) (by decide) rfl (fun c9 => ?_) (fun c9 => ?_)
  · -- 62
    replace hF := gj_iff c9 hF
    refine gj_aload_n (q := 63) (gj_dk okX12_parentsFrom 37 rfl) rfl rfl ?_
    refine gj_gR (q := 66) (j := 44) (gj_dk okX12_parentsFrom 38 rfl) ff_X12_129 (sh79 hst) (by decide) rfl (rf79_44 hst) rfl ?_
    refine gj_iload_n (q := 67) (gj_dk okX12_parentsFrom 39 rfl) rfl rfl ?_
    refine gj_iconst (q := 68) (gj_dk okX12_parentsFrom 40 rfl) (by decide) rfl ?_
    obtain ⟨b1, hF⟩ := gj_ckd hF
    refine gj_iast (q := 69) (gj_dk okX12_parentsFrom 41 rfl) (sh124 hst) b1.1 b1.2 rfl ?_
    refine gj_stp hF (fun M2 hF => ?_)
    refine gj_aload_n (q := 70) (gj_dk okX12_parentsFrom 42 rfl) rfl rfl ?_
    refine gj_iload_n (q := 71) (gj_dk okX12_parentsFrom 43 rfl) rfl rfl ?_
    refine gj_iconst (q := 72) (gj_dk okX12_parentsFrom 44 rfl) (by decide) rfl ?_
    refine gj_iadd (q := 73) (gj_dk okX12_parentsFrom 45 rfl) rfl ?_
    obtain ⟨M4, hG, hF⟩ := gj_bndd hF
    refine gj_callV (q := 76) (z := 79) (ci := 10) [jI (gj_w (a1 + 1))] rfl (hrec (gj_w (a1 + 1)) _ _ hG) (gj_dk okX12_parentsFrom 46 rfl) ml_X12_432 me_X12_parentsFrom (sh79 hst) rfl ⟨by omega, Nat.le_of_ble_eq_true rfl, rfl, Nat.le_of_ble_eq_true rfl, by omega, by omega⟩ rfl (gj_kV fun S2 M2 h => ?_)
    obtain ⟨eS, eM⟩ := h; subst eS; subst eM; clear hG
    refine gj_iconst (q := 77) (gj_dk okX12_parentsFrom 47 rfl) (by decide) rfl ?_
    refine gj_istore_n (q := 78) (gj_dk okX12_parentsFrom 48 rfl) (by decide) rfl ?_
    refine gj_sub [(0, jR 79), (1, jI a1), (2, jI 4)] ⟨rfl, rfl, rfl, trivial⟩ ?_
    exact t_L_X12_parentsFrom_78 hst hdd hrec gj_fu a1 4 M4 hF
  · -- 12
    replace hF := gj_ift c9 hF
    refine gj_aload_n (q := 13) (gj_dk okX12_parentsFrom 8 rfl) rfl rfl ?_
    refine gj_aload_n (q := 14) (gj_dk okX12_parentsFrom 9 rfl) rfl rfl ?_
    refine gj_gR (q := 17) (j := 44) (gj_dk okX12_parentsFrom 10 rfl) ff_X12_129 (sh79 hst) (by decide) rfl (rf79_44 hst) rfl ?_
    obtain ⟨x5, hG, hF⟩ := gj_bndd hF
    refine gj_callV (q := 20) (z := 79) (ci := 10) [jR 124] rfl (t_X12_sumOf hst (sh124 hst) (by decide) (by decide)  hG) (gj_dk okX12_parentsFrom 11 rfl) ml_X12_425 me_X12_sumOf (sh79 hst) rfl ⟨by omega, Nat.le_of_ble_eq_true rfl, rfl, Nat.le_of_ble_eq_true rfl, by omega, by omega⟩ rfl (gj_kI fun y S2 M2 h => ?_)
    obtain ⟨e, eS, eM⟩ := h; subst eS; subst eM; subst e; clear hG
    refine gj_istore_n (q := 21) (gj_dk okX12_parentsFrom 12 rfl) (by decide) rfl ?_
    refine gj_iload_n (q := 22) (gj_dk okX12_parentsFrom 13 rfl) rfl rfl ?_
    refine gj_aload_n (q := 23) (gj_dk okX12_parentsFrom 14 rfl) rfl rfl ?_
    refine gj_gI (q := 26) (j := 46) (gj_dk okX12_parentsFrom 15 rfl) ff_X12_429 (sh79 hst) (by decide) rfl rfl ?_
    refine gj_icmp_gt (q := 29) (tgt := 30) (gj_dk okX12_parentsFrom 16 rfl) (by decide) rfl (fun c26 => ?_) (fun c26 => ?_)
    · -- 30
      replace hF := gj_ift c26 hF
      refine gj_aload_n (q := 31) (gj_dk okX12_parentsFrom 18 rfl) rfl rfl ?_
      refine gj_iload_n (q := 32) (gj_dk okX12_parentsFrom 19 rfl) rfl rfl ?_
      refine gj_pfI (q := 35) (j := 46) (gj_dk okX12_parentsFrom 20 rfl) ff_X12_429 (sh79 hst) (by decide) rfl rfl ?_
      refine gj_stp hF (fun M7 hF => ?_)
      refine gj_iconst (q := 36) (gj_dk okX12_parentsFrom 21 rfl) (by decide) rfl ?_
      refine gj_istore_n (q := 37) (gj_dk okX12_parentsFrom 22 rfl) (by decide) rfl ?_
      refine gj_sub [(0, jR 79), (3, jI 0)] ⟨rfl, rfl, trivial⟩ ?_
      exact t_L_X12_parentsFrom_37 hst hdd hrec gj_fu 0 M7 hF
    · -- 29
      replace hF := gj_iff c26 hF
      cases hF
      exact gj_vret (gj_dk okX12_parentsFrom 17 rfl) rfl ⟨rfl, rfl, rfl⟩
def F_X12_parentsN : Nat → Int → gj_M → Option (gj_M) := gj_it (fun _ _ => none) F_X12_parentsFrom
theorem t_X12_parentsN (hst : gj_Stat S) : ∀ n : Nat, ∀ (a1 : Int) (M : gj_M) (r : gj_M), F_X12_parentsN n a1 M = some r → gj_C G l (4 + n) 0 0 yX12_parentsFrom cX12_parentsFrom 4 none [jR 79, jI a1] S M (gj_qV fun S' M' => S = S' ∧ r = M')
  | 0 => fun a1 M r h => by cases (show (none : Option (gj_M)) = some r from h)
  | n + 1 => fun a1 M r h => t_X12_parentsFrom hst (by omega) (t_X12_parentsN hst n) a1 h
theorem t_X12_parentsC (hst : gj_Stat S) (a1 : Int) {r : gj_M} (h : F_X12_parentsN 6 a1 M = some r) : gj_C G l 10 0 0 yX12_parentsFrom cX12_parentsFrom 4 none [jR 79, jI a1] S M (gj_qV fun S' M' => S = S' ∧ r = M') := t_X12_parentsN hst 6 a1 M r h
def J_X12_findsParents_21 (M : gj_M) : Option (gj_M) :=
  gj_let (gj_up M 79 46 (-1)) (fun M3 => gj_bnd (F_X12_parentsN 6 0 M3) (fun M5 => (some (M5))))
def B_X12_findsParents_2 (rec2 : Int → gj_M → Option (gj_M)) (l1 : Int) (M : gj_M) : Option (gj_M) :=
  (if 8 ≤ l1 then (J_X12_findsParents_21 M) else gj_chk (0 ≤ l1 ∧ l1 < 8) (gj_let (gj_up M 124 l1 (-1)) (fun M2 => rec2 (gj_w (l1 + 1)) M2)))
def F_X12_findsParents (M : gj_M) : Option (gj_M) :=
  (gj_it (fun _ _ => none) (B_X12_findsParents_2) gj_fu 0 M)
set_option maxHeartbeats 4000000 in
set_option maxRecDepth 20000 in
theorem t_J_X12_findsParents_21 (hst : gj_Stat S) {r : gj_M} (M : gj_M) (hF : J_X12_findsParents_21 M = some r) : gj_W G l 11 0 0 yX12_findsParents cX12_findsParents 2 none (gj_qV fun S' M' => S = S' ∧ r = M') 0 0 21 [(0, jR 79)] [] S M := by
  unfold J_X12_findsParents_21 at hF
  refine gj_aload_n (q := 22) (gj_dk okX12_findsParents 12 rfl) rfl rfl ?_
  refine gj_iconst (q := 23) (gj_dk okX12_findsParents 13 rfl) (by decide) rfl ?_
  refine gj_pfI (q := 26) (j := 46) (gj_dk okX12_findsParents 14 rfl) ff_X12_429 (sh79 hst) (by decide) rfl rfl ?_
  refine gj_stp hF (fun M3 hF => ?_)
  refine gj_aload_n (q := 27) (gj_dk okX12_findsParents 15 rfl) rfl rfl ?_
  refine gj_iconst (q := 28) (gj_dk okX12_findsParents 16 rfl) (by decide) rfl ?_
  obtain ⟨M5, hG, hF⟩ := gj_bndd hF
  refine gj_callV (q := 31) (z := 79) (ci := 10) [jI 0] rfl (t_X12_parentsC hst 0 hG) (gj_dk okX12_findsParents 17 rfl) ml_X12_432 me_X12_parentsFrom (sh79 hst) rfl (gj_nm rfl) rfl (gj_kV fun S2 M2 h => ?_)
  obtain ⟨eS, eM⟩ := h; subst eS; subst eM; clear hG
  cases hF
  exact gj_vret (gj_dk okX12_findsParents 18 rfl) rfl ⟨rfl, rfl, rfl⟩
set_option maxHeartbeats 4000000 in
set_option maxRecDepth 20000 in
theorem t_B_X12_findsParents_2 (hst : gj_Stat S) {r : gj_M} {rec2 : Int → gj_M → Option (gj_M)} (hrec2 : ∀ (l1 : Int) (M : gj_M), rec2 l1 M = some r → gj_W G l 11 0 0 yX12_findsParents cX12_findsParents 2 none (gj_qV fun S' M' => S = S' ∧ r = M') 0 0 2 [(0, jR 79), (1, jI l1)] [] S M) (l1 : Int) (M : gj_M) (hF : B_X12_findsParents_2 rec2 l1 M = some r) : gj_W G l 11 0 0 yX12_findsParents cX12_findsParents 2 none (gj_qV fun S' M' => S = S' ∧ r = M') 0 0 2 [(0, jR 79), (1, jI l1)] [] S M := by
  unfold B_X12_findsParents_2 at hF
  refine gj_iload_n (q := 3) (gj_dk okX12_findsParents 2 rfl) rfl rfl ?_
  refine gj_bipush (q := 5) (gj_dk okX12_findsParents 3 rfl) (by decide) rfl rfl ?_
  refine gj_icmp_ge (q := 8) (tgt := 21) (gj_dk okX12_findsParents 4 rfl) (by decide) rfl (fun c5 => ?_) (fun c5 => ?_)
  · -- 21
    replace hF := gj_ift c5 hF
    refine gj_sub [(0, jR 79)] ⟨rfl, trivial⟩ ?_
    exact t_J_X12_findsParents_21 hst M hF
  · -- 8
    replace hF := gj_iff c5 hF
    refine gj_aload_n (q := 9) (gj_dk okX12_findsParents 5 rfl) rfl rfl ?_
    refine gj_gR (q := 12) (j := 44) (gj_dk okX12_findsParents 6 rfl) ff_X12_129 (sh79 hst) (by decide) rfl (rf79_44 hst) rfl ?_
    refine gj_iload_n (q := 13) (gj_dk okX12_findsParents 7 rfl) rfl rfl ?_
    refine gj_iconst (q := 14) (gj_dk okX12_findsParents 8 rfl) (by decide) rfl ?_
    obtain ⟨b1, hF⟩ := gj_ckd hF
    refine gj_iast (q := 15) (gj_dk okX12_findsParents 9 rfl) (sh124 hst) b1.1 b1.2 rfl ?_
    refine gj_stp hF (fun M2 hF => ?_)
    refine gj_iinc (q := 18) (v := gj_w (l1 + 1)) (gj_dk okX12_findsParents 10 rfl) rfl (by decide) rfl rfl ?_
    refine gj_goto (tgt := 2) (gj_dk okX12_findsParents 11 rfl) (by decide) ?_
    refine gj_sub [(0, jR 79), (1, jI (gj_w (l1 + 1)))] ⟨rfl, rfl, trivial⟩ ?_
    exact hrec2 (gj_w (l1 + 1)) M2 hF
theorem t_L_X12_findsParents_2 (hst : gj_Stat S) {r : gj_M} : ∀ (m : Nat) (l1 : Int) (M : gj_M), gj_it (fun _ _ => none) (B_X12_findsParents_2) m l1 M = some r → gj_W G l 11 0 0 yX12_findsParents cX12_findsParents 2 none (gj_qV fun S' M' => S = S' ∧ r = M') 0 0 2 [(0, jR 79), (1, jI l1)] [] S M := by
  intro m
  induction m with
  | zero => intro l1 M hF; cases (show (none : Option (gj_M)) = some r from hF)
  | succ m ih => intro l1 M hF; exact t_B_X12_findsParents_2 hst (fun l1 M h => ih l1 M h) l1 M hF
set_option maxHeartbeats 4000000 in
set_option maxRecDepth 20000 in
theorem t_X12_findsParents (hst : gj_Stat S) {r : gj_M} (hF : F_X12_findsParents M = some r) : gj_C G l 11 0 0 yX12_findsParents cX12_findsParents 2 none [jR 79] S M (gj_qV fun S' M' => S = S' ∧ r = M') := by
  refine gj_Cof (by decide +kernel) (Nat.le_of_ble_eq_true rfl) ?_
  change gj_W G l 11 0 0 yX12_findsParents cX12_findsParents 2 none (gj_qV fun S' M' => S = S' ∧ r = M') 0 0 0 [(0, jR 79)] [] S M
  unfold F_X12_findsParents at hF
  refine gj_iconst (q := 1) (gj_dk okX12_findsParents 0 rfl) (by decide) rfl ?_
  refine gj_istore_n (q := 2) (gj_dk okX12_findsParents 1 rfl) (by decide) rfl ?_
  refine gj_sub [(0, jR 79), (1, jI 0)] ⟨rfl, rfl, trivial⟩ ?_
  exact t_L_X12_findsParents_2 hst gj_fu 0 M hF
def F_X12_parents (a1 : Int) (M : gj_M) : Option (Int × gj_M) :=
  (if M 79 18 = 0 then (some ((-2147483648, M))) else (if a1 = -1 then gj_bnd (F_X12_findsParents M) (fun M2 => (if a1 = -1 then (some ((M2 79 46, M2))) else gj_bnd (F_X12_who a1 M2) (fun x3 => gj_chk (0 ≤ x3 ∧ x3 < 8) ((if M2 125 x3 = -1 then (some ((-1, M2))) else gj_letI (f_X12_told (M2 125 x3) M2) (fun x6 => (some ((x6, M2))))))))) else gj_bnd (F_X12_who a1 M) (fun x7 => (if x7 = -1 then (some ((-2147483648, M))) else gj_bnd (F_X12_findsParents M) (fun M10 => (if a1 = -1 then (some ((M10 79 46, M10))) else gj_bnd (F_X12_who a1 M10) (fun x11 => gj_chk (0 ≤ x11 ∧ x11 < 8) ((if M10 125 x11 = -1 then (some ((-1, M10))) else gj_letI (f_X12_told (M10 125 x11) M10) (fun x14 => (some ((x14, M10)))))))))))))
set_option maxHeartbeats 4000000 in
set_option maxRecDepth 20000 in
theorem t_X12_parents (hst : gj_Stat S) (a1 : Int) {r : Int × gj_M} (hF : F_X12_parents a1 M = some r) : gj_C G l 12 0 0 yX12_parents cX12_parents 3 (some .int) [jR 79, jI a1] S M (gj_qI fun x S' M' => r.1 = x ∧ S = S' ∧ r.2 = M') := by
  refine gj_Cof (by decide +kernel) (Nat.le_of_ble_eq_true rfl) ?_
  change gj_W G l 12 0 0 yX12_parents cX12_parents 3 (some .int) (gj_qI fun x S' M' => r.1 = x ∧ S = S' ∧ r.2 = M') 0 0 0 [(0, jR 79), (1, jI a1)] [] S M
  unfold F_X12_parents at hF
  refine gj_aload_n (q := 1) (gj_dk okX12_parents 0 rfl) rfl rfl ?_
  refine gj_gZ (q := 4) (j := 18) (gj_dk okX12_parents 1 rfl) ff_X12_260 (sh79 hst) (by decide) rfl rfl ?_
  refine gj_if_eq (q := 7) (tgt := 21) (gj_dk okX12_parents 2 rfl) (by decide) rfl (fun c4 => ?_) (fun c4 => ?_)
  · -- 21
    replace hF := gj_ift c4 hF
    refine gj_ldcw (q := 24) (z := -2147483648) (gj_dk okX12_parents 11 rfl) kc_X12_284 (by decide) rfl ?_
    cases hF
    exact gj_iret (gj_dk okX12_parents 12 rfl) rfl ⟨_, rfl, rfl, rfl, rfl⟩
  · -- 7
    replace hF := gj_iff c4 hF
    refine gj_iload_n (q := 8) (gj_dk okX12_parents 3 rfl) rfl rfl ?_
    refine gj_iconst (q := 9) (gj_dk okX12_parents 4 rfl) (by decide) rfl ?_
    refine gj_icmp_eq (q := 12) (tgt := 25) (gj_dk okX12_parents 5 rfl) (by decide) rfl (fun c9 => ?_) (fun c9 => ?_)
    · -- 25
      replace hF := gj_ift c9 hF
      refine gj_aload_n (q := 26) (gj_dk okX12_parents 13 rfl) rfl rfl ?_
      obtain ⟨M2, hG, hF⟩ := gj_bndd hF
      refine gj_callV (q := 29) (z := 79) (ci := 10) [] rfl (t_X12_findsParents hst  hG) (gj_dk okX12_parents 14 rfl) ml_X12_435 me_X12_findsParents (sh79 hst) rfl (gj_nm rfl) rfl (gj_kV fun S2 M2 h => ?_)
      obtain ⟨eS, eM⟩ := h; subst eS; subst eM; clear hG
      refine gj_iload_n (q := 30) (gj_dk okX12_parents 15 rfl) rfl rfl ?_
      refine gj_iconst (q := 31) (gj_dk okX12_parents 16 rfl) (by decide) rfl ?_
      refine gj_icmp_ne (q := 34) (tgt := 39) (gj_dk okX12_parents 17 rfl) (by decide) rfl (fun c31 => ?_) (fun c31 => ?_)
      · -- 39
        replace hF := gj_iff c31 hF
        refine gj_aload_n (q := 40) (gj_dk okX12_parents 21 rfl) rfl rfl ?_
        refine gj_gR (q := 43) (j := 45) (gj_dk okX12_parents 22 rfl) ff_X12_132 (sh79 hst) (by decide) rfl (rf79_45 hst) rfl ?_
        refine gj_aload_n (q := 44) (gj_dk okX12_parents 23 rfl) rfl rfl ?_
        refine gj_iload_n (q := 45) (gj_dk okX12_parents 24 rfl) rfl rfl ?_
        obtain ⟨x3, hG, hF⟩ := gj_bndd hF
        refine gj_callV (q := 48) (z := 79) (ci := 10) [jI a1] rfl (t_X12_who hst a1 hG) (gj_dk okX12_parents 25 rfl) ml_X12_281 me_X12_who (sh79 hst) rfl (gj_nm rfl) rfl (gj_kI fun y S2 M2 h => ?_)
        obtain ⟨e, eS, eM⟩ := h; subst eS; subst eM; subst e; clear hG
        obtain ⟨b5, hF⟩ := gj_ckd hF
        refine gj_iald (q := 49) (gj_dk okX12_parents 26 rfl) (sh125 hst) b5.1 b5.2 rfl ?_
        refine gj_istore_n (q := 50) (gj_dk okX12_parents 27 rfl) (by decide) rfl ?_
        refine gj_iload_n (q := 51) (gj_dk okX12_parents 28 rfl) rfl rfl ?_
        refine gj_iconst (q := 52) (gj_dk okX12_parents 29 rfl) (by decide) rfl ?_
        refine gj_icmp_ne (q := 55) (tgt := 59) (gj_dk okX12_parents 30 rfl) (by decide) rfl (fun c52 => ?_) (fun c52 => ?_)
        · -- 59
          replace hF := gj_iff c52 hF
          refine gj_iload_n (q := 60) (gj_dk okX12_parents 33 rfl) rfl rfl ?_
          refine gj_callS (q := 63) [jI (M2 125 x3)] rfl (t_X12_told hst (M2 125 x3) rfl) (gj_dk okX12_parents 34 rfl) ml_X12_285 me_X12_told (gj_nm rfl) rfl (gj_kI fun x S2 M2 h => ?_)
          obtain ⟨e, eS, eM⟩ := h; subst eS; subst eM; subst e
          refine gj_stpI hF (fun x6 hF => ?_)
          cases hF
          exact gj_iret (gj_dk okX12_parents 35 rfl) rfl ⟨_, rfl, rfl, rfl, rfl⟩
        · -- 55
          replace hF := gj_ift c52 hF
          refine gj_iconst (q := 56) (gj_dk okX12_parents 31 rfl) (by decide) rfl ?_
          refine gj_goto (tgt := 63) (gj_dk okX12_parents 32 rfl) (by decide) ?_
          cases hF
          exact gj_iret (gj_dk okX12_parents 35 rfl) rfl ⟨_, rfl, rfl, rfl, rfl⟩
      · -- 34
        replace hF := gj_ift c31 hF
        refine gj_aload_n (q := 35) (gj_dk okX12_parents 18 rfl) rfl rfl ?_
        refine gj_gI (q := 38) (j := 46) (gj_dk okX12_parents 19 rfl) ff_X12_429 (sh79 hst) (by decide) rfl rfl ?_
        cases hF
        exact gj_iret (gj_dk okX12_parents 20 rfl) rfl ⟨_, rfl, rfl, rfl, rfl⟩
    · -- 12
      replace hF := gj_iff c9 hF
      refine gj_aload_n (q := 13) (gj_dk okX12_parents 6 rfl) rfl rfl ?_
      refine gj_iload_n (q := 14) (gj_dk okX12_parents 7 rfl) rfl rfl ?_
      obtain ⟨x7, hG, hF⟩ := gj_bndd hF
      refine gj_callV (q := 17) (z := 79) (ci := 10) [jI a1] rfl (t_X12_who hst a1 hG) (gj_dk okX12_parents 8 rfl) ml_X12_281 me_X12_who (sh79 hst) rfl (gj_nm rfl) rfl (gj_kI fun y S2 M2 h => ?_)
      obtain ⟨e, eS, eM⟩ := h; subst eS; subst eM; subst e; clear hG
      refine gj_iconst (q := 18) (gj_dk okX12_parents 9 rfl) (by decide) rfl ?_
      refine gj_icmp_ne (q := 21) (tgt := 25) (gj_dk okX12_parents 10 rfl) (by decide) rfl (fun c18 => ?_) (fun c18 => ?_)
      · -- 25
        replace hF := gj_iff c18 hF
        refine gj_aload_n (q := 26) (gj_dk okX12_parents 13 rfl) rfl rfl ?_
        obtain ⟨M10, hG, hF⟩ := gj_bndd hF
        refine gj_callV (q := 29) (z := 79) (ci := 10) [] rfl (t_X12_findsParents hst  hG) (gj_dk okX12_parents 14 rfl) ml_X12_435 me_X12_findsParents (sh79 hst) rfl (gj_nm rfl) rfl (gj_kV fun S2 M2 h => ?_)
        obtain ⟨eS, eM⟩ := h; subst eS; subst eM; clear hG
        refine gj_iload_n (q := 30) (gj_dk okX12_parents 15 rfl) rfl rfl ?_
        refine gj_iconst (q := 31) (gj_dk okX12_parents 16 rfl) (by decide) rfl ?_
        refine gj_icmp_ne (q := 34) (tgt := 39) (gj_dk okX12_parents 17 rfl) (by decide) rfl (fun c31 => ?_) (fun c31 => ?_)
        · -- 39
          replace hF := gj_iff c31 hF
          refine gj_aload_n (q := 40) (gj_dk okX12_parents 21 rfl) rfl rfl ?_
          refine gj_gR (q := 43) (j := 45) (gj_dk okX12_parents 22 rfl) ff_X12_132 (sh79 hst) (by decide) rfl (rf79_45 hst) rfl ?_
          refine gj_aload_n (q := 44) (gj_dk okX12_parents 23 rfl) rfl rfl ?_
          refine gj_iload_n (q := 45) (gj_dk okX12_parents 24 rfl) rfl rfl ?_
          obtain ⟨x11, hG, hF⟩ := gj_bndd hF
          refine gj_callV (q := 48) (z := 79) (ci := 10) [jI a1] rfl (t_X12_who hst a1 hG) (gj_dk okX12_parents 25 rfl) ml_X12_281 me_X12_who (sh79 hst) rfl (gj_nm rfl) rfl (gj_kI fun y S2 M2 h => ?_)
          obtain ⟨e, eS, eM⟩ := h; subst eS; subst eM; subst e; clear hG
          obtain ⟨b13, hF⟩ := gj_ckd hF
          refine gj_iald (q := 49) (gj_dk okX12_parents 26 rfl) (sh125 hst) b13.1 b13.2 rfl ?_
          refine gj_istore_n (q := 50) (gj_dk okX12_parents 27 rfl) (by decide) rfl ?_
          refine gj_iload_n (q := 51) (gj_dk okX12_parents 28 rfl) rfl rfl ?_
          refine gj_iconst (q := 52) (gj_dk okX12_parents 29 rfl) (by decide) rfl ?_
          refine gj_icmp_ne (q := 55) (tgt := 59) (gj_dk okX12_parents 30 rfl) (by decide) rfl (fun c52 => ?_) (fun c52 => ?_)
          · -- 59
            replace hF := gj_iff c52 hF
            refine gj_iload_n (q := 60) (gj_dk okX12_parents 33 rfl) rfl rfl ?_
            refine gj_callS (q := 63) [jI (M10 125 x11)] rfl (t_X12_told hst (M10 125 x11) rfl) (gj_dk okX12_parents 34 rfl) ml_X12_285 me_X12_told (gj_nm rfl) rfl (gj_kI fun x S2 M2 h => ?_)
            obtain ⟨e, eS, eM⟩ := h; subst eS; subst eM; subst e
            refine gj_stpI hF (fun x14 hF => ?_)
            cases hF
            exact gj_iret (gj_dk okX12_parents 35 rfl) rfl ⟨_, rfl, rfl, rfl, rfl⟩
          · -- 55
            replace hF := gj_ift c52 hF
            refine gj_iconst (q := 56) (gj_dk okX12_parents 31 rfl) (by decide) rfl ?_
            refine gj_goto (tgt := 63) (gj_dk okX12_parents 32 rfl) (by decide) ?_
            cases hF
            exact gj_iret (gj_dk okX12_parents 35 rfl) rfl ⟨_, rfl, rfl, rfl, rfl⟩
        · -- 34
          replace hF := gj_ift c31 hF
          refine gj_aload_n (q := 35) (gj_dk okX12_parents 18 rfl) rfl rfl ?_
          refine gj_gI (q := 38) (j := 46) (gj_dk okX12_parents 19 rfl) ff_X12_429 (sh79 hst) (by decide) rfl rfl ?_
          cases hF
          exact gj_iret (gj_dk okX12_parents 20 rfl) rfl ⟨_, rfl, rfl, rfl, rfl⟩
      · -- 21
        replace hF := gj_ift c18 hF
        refine gj_ldcw (q := 24) (z := -2147483648) (gj_dk okX12_parents 11 rfl) kc_X12_284 (by decide) rfl ?_
        cases hF
        exact gj_iret (gj_dk okX12_parents 12 rfl) rfl ⟨_, rfl, rfl, rfl, rfl⟩
def J_X12_lifeOf_61 (z1 n1 : Int) (M : gj_M) (rec11 : Int → Int → Int → Option (Int)) (l2 l3 l4 : Int) : Option (Int) :=
  rec11 l2 l3 (gj_w (l4 + 1))
def B_X12_lifeOf_11 (z1 n1 : Int) (M : gj_M) (rec11 : Int → Int → Int → Option (Int)) (l2 l3 l4 : Int) : Option (Int) :=
  (if M 101 0 ≤ l4 then (some (l3)) else gj_chk (0 ≤ l4 ∧ l4 < n1) ((if M z1 l4 = -1 then (J_X12_lifeOf_61 z1 n1 M rec11 l2 l3 l4) else gj_letI (gj_w (l3 + (gj_w ((gj_w (32 * (M 98 3))) * (f_max 0 (gj_w (l2 - (M 98 2)))))))) (fun x4 => (J_X12_lifeOf_61 z1 n1 M rec11 l2 x4 l4)))))
def F_X12_lifeOf (z1 : Int) (n1 : Int) (a2 : Int) (M : gj_M) : Option (Int) :=
  gj_bnd (F_X12_sumOf z1 n1 M) (fun x1 => (gj_it (fun _ _ _ => none) (B_X12_lifeOf_11 z1 n1 M) gj_fu a2 (gj_w (a2 * x1)) 0))
set_option maxHeartbeats 4000000 in
set_option maxRecDepth 20000 in
theorem t_J_X12_lifeOf_61 (hst : gj_Stat S) {z1 n1 : Int} (hz1 : S.2.1 z1 = (0, n1)) (hz1p : 0 ≤ z1) (hz1n : 0 ≤ n1 ∧ n1 < 2147483648) {r : Int} {rec11 : Int → Int → Int → Option (Int)} (hrec11 : ∀ (l2 l3 l4 : Int), rec11 l2 l3 l4 = some r → gj_W G l 4 0 0 yX12_lifeOf cX12_lifeOf 5 (some .int) (gj_qI fun x S' M' => r = x ∧ S = S' ∧ M = M') 0 0 11 [(0, jR 79), (1, jR z1), (2, jI l2), (3, jI l3), (4, jI l4)] [] S M) (l2 l3 l4 : Int) (hF : J_X12_lifeOf_61 z1 n1 M rec11 l2 l3 l4 = some r) : gj_W G l 4 0 0 yX12_lifeOf cX12_lifeOf 5 (some .int) (gj_qI fun x S' M' => r = x ∧ S = S' ∧ M = M') 0 0 61 [(0, jR 79), (1, jR z1), (2, jI l2), (3, jI l3), (4, jI l4)] [] S M := by
  unfold J_X12_lifeOf_61 at hF
  refine gj_iinc (q := 64) (v := gj_w (l4 + 1)) (gj_dk okX12_lifeOf 43 rfl) rfl (by decide) rfl rfl ?_
  refine gj_goto (tgt := 11) (gj_dk okX12_lifeOf 44 rfl) (by decide) ?_
  refine gj_sub [(0, jR 79), (1, jR z1), (2, jI l2), (3, jI l3), (4, jI (gj_w (l4 + 1)))] ⟨rfl, rfl, rfl, rfl, rfl, trivial⟩ ?_
  exact hrec11 l2 l3 (gj_w (l4 + 1)) hF
set_option maxHeartbeats 4000000 in
set_option maxRecDepth 20000 in
theorem t_B_X12_lifeOf_11 (hst : gj_Stat S) {z1 n1 : Int} (hz1 : S.2.1 z1 = (0, n1)) (hz1p : 0 ≤ z1) (hz1n : 0 ≤ n1 ∧ n1 < 2147483648) {r : Int} {rec11 : Int → Int → Int → Option (Int)} (hrec11 : ∀ (l2 l3 l4 : Int), rec11 l2 l3 l4 = some r → gj_W G l 4 0 0 yX12_lifeOf cX12_lifeOf 5 (some .int) (gj_qI fun x S' M' => r = x ∧ S = S' ∧ M = M') 0 0 11 [(0, jR 79), (1, jR z1), (2, jI l2), (3, jI l3), (4, jI l4)] [] S M) (l2 l3 l4 : Int) (hF : B_X12_lifeOf_11 z1 n1 M rec11 l2 l3 l4 = some r) : gj_W G l 4 0 0 yX12_lifeOf cX12_lifeOf 5 (some .int) (gj_qI fun x S' M' => r = x ∧ S = S' ∧ M = M') 0 0 11 [(0, jR 79), (1, jR z1), (2, jI l2), (3, jI l3), (4, jI l4)] [] S M := by
  unfold B_X12_lifeOf_11 at hF
  refine gj_iload (q := 13) (gj_dk okX12_lifeOf 8 rfl) rfl rfl ?_
  refine gj_aload_n (q := 14) (gj_dk okX12_lifeOf 9 rfl) rfl rfl ?_
  refine gj_gR (q := 17) (j := 13) (gj_dk okX12_lifeOf 10 rfl) ff_X12_37 (sh79 hst) (by decide) rfl (rf79_13 hst) rfl ?_
  refine gj_iconst (q := 18) (gj_dk okX12_lifeOf 11 rfl) (by decide) rfl ?_
  refine gj_aald (q := 19) (gj_dk okX12_lifeOf 12 rfl) (sh100 hst) (by decide) (by decide) (by decide) (rf100_0 hst) rfl ?_
  refine gj_iconst (q := 20) (gj_dk okX12_lifeOf 13 rfl) (by decide) rfl ?_
  refine gj_iald (q := 21) (gj_dk okX12_lifeOf 14 rfl) (sh101 hst) (by decide) (by decide) rfl ?_
  refine gj_icmp_ge (q := 24) (tgt := 67) (gj_dk okX12_lifeOf 15 rfl) (by decide) rfl (fun c21 => ?_) (fun c21 => ?_)
  · -- 67
    replace hF := gj_ift c21 hF
    refine gj_iload_n (q := 68) (gj_dk okX12_lifeOf 45 rfl) rfl rfl ?_
    cases hF
    exact gj_iret (gj_dk okX12_lifeOf 46 rfl) rfl ⟨_, rfl, rfl, rfl, rfl⟩
  · -- 24
    replace hF := gj_iff c21 hF
    refine gj_aload_n (q := 25) (gj_dk okX12_lifeOf 16 rfl) rfl rfl ?_
    refine gj_iload (q := 27) (gj_dk okX12_lifeOf 17 rfl) rfl rfl ?_
    obtain ⟨b3, hF⟩ := gj_ckd hF
    refine gj_iald (q := 28) (gj_dk okX12_lifeOf 18 rfl) hz1 b3.1 b3.2 rfl ?_
    refine gj_iconst (q := 29) (gj_dk okX12_lifeOf 19 rfl) (by decide) rfl ?_
    refine gj_icmp_eq (q := 32) (tgt := 61) (gj_dk okX12_lifeOf 20 rfl) (by decide) rfl (fun c29 => ?_) (fun c29 => ?_)
    · -- 61
      replace hF := gj_ift c29 hF
      refine gj_sub [(0, jR 79), (1, jR z1), (2, jI l2), (3, jI l3), (4, jI l4)] ⟨rfl, rfl, rfl, rfl, rfl, trivial⟩ ?_
      exact t_J_X12_lifeOf_61 hst hz1 hz1p hz1n hrec11 l2 l3 l4 hF
    · -- 32
      replace hF := gj_iff c29 hF
      refine gj_iload_n (q := 33) (gj_dk okX12_lifeOf 21 rfl) rfl rfl ?_
      refine gj_bipush (q := 35) (gj_dk okX12_lifeOf 22 rfl) (by decide) rfl rfl ?_
      refine gj_aload_n (q := 36) (gj_dk okX12_lifeOf 23 rfl) rfl rfl ?_
      refine gj_gR (q := 39) (j := 12) (gj_dk okX12_lifeOf 24 rfl) ff_X12_34 (sh79 hst) (by decide) rfl (rf79_12 hst) rfl ?_
      refine gj_iconst (q := 40) (gj_dk okX12_lifeOf 25 rfl) (by decide) rfl ?_
      refine gj_aald (q := 41) (gj_dk okX12_lifeOf 26 rfl) (sh97 hst) (by decide) (by decide) (by decide) (rf97_0 hst) rfl ?_
      refine gj_iconst (q := 42) (gj_dk okX12_lifeOf 27 rfl) (by decide) rfl ?_
      refine gj_iald (q := 43) (gj_dk okX12_lifeOf 28 rfl) (sh98 hst) (by decide) (by decide) rfl ?_
      refine gj_imul (q := 44) (gj_dk okX12_lifeOf 29 rfl) rfl ?_
      refine gj_iconst (q := 45) (gj_dk okX12_lifeOf 30 rfl) (by decide) rfl ?_
      refine gj_iload_n (q := 46) (gj_dk okX12_lifeOf 31 rfl) rfl rfl ?_
      refine gj_aload_n (q := 47) (gj_dk okX12_lifeOf 32 rfl) rfl rfl ?_
      refine gj_gR (q := 50) (j := 12) (gj_dk okX12_lifeOf 33 rfl) ff_X12_34 (sh79 hst) (by decide) rfl (rf79_12 hst) rfl ?_
      refine gj_iconst (q := 51) (gj_dk okX12_lifeOf 34 rfl) (by decide) rfl ?_
      refine gj_aald (q := 52) (gj_dk okX12_lifeOf 35 rfl) (sh97 hst) (by decide) (by decide) (by decide) (rf97_0 hst) rfl ?_
      refine gj_iconst (q := 53) (gj_dk okX12_lifeOf 36 rfl) (by decide) rfl ?_
      refine gj_iald (q := 54) (gj_dk okX12_lifeOf 37 rfl) (sh98 hst) (by decide) (by decide) rfl ?_
      refine gj_isub (q := 55) (gj_dk okX12_lifeOf 38 rfl) rfl ?_
      refine gj_mmax (q := 58) (gj_dk okX12_lifeOf 39 rfl) ml_X12_438 ⟨by omega, Nat.le_of_ble_eq_true rfl⟩ rfl ?_
      refine gj_imul (q := 59) (gj_dk okX12_lifeOf 40 rfl) rfl ?_
      refine gj_iadd (q := 60) (gj_dk okX12_lifeOf 41 rfl) rfl ?_
      refine gj_stpI hF (fun x4 hF => ?_)
      refine gj_istore_n (q := 61) (gj_dk okX12_lifeOf 42 rfl) (by decide) rfl ?_
      refine gj_sub [(0, jR 79), (1, jR z1), (2, jI l2), (3, jI x4), (4, jI l4)] ⟨rfl, rfl, rfl, rfl, rfl, trivial⟩ ?_
      exact t_J_X12_lifeOf_61 hst hz1 hz1p hz1n hrec11 l2 x4 l4 hF
theorem t_L_X12_lifeOf_11 (hst : gj_Stat S) {z1 n1 : Int} (hz1 : S.2.1 z1 = (0, n1)) (hz1p : 0 ≤ z1) (hz1n : 0 ≤ n1 ∧ n1 < 2147483648) {r : Int} : ∀ (m : Nat) (l2 : Int) (l3 : Int) (l4 : Int), gj_it (fun _ _ _ => none) (B_X12_lifeOf_11 z1 n1 M) m l2 l3 l4 = some r → gj_W G l 4 0 0 yX12_lifeOf cX12_lifeOf 5 (some .int) (gj_qI fun x S' M' => r = x ∧ S = S' ∧ M = M') 0 0 11 [(0, jR 79), (1, jR z1), (2, jI l2), (3, jI l3), (4, jI l4)] [] S M := by
  intro m
  induction m with
  | zero => intro l2 l3 l4 hF; cases (show (none : Option (Int)) = some r from hF)
  | succ m ih => intro l2 l3 l4 hF; exact t_B_X12_lifeOf_11 hst hz1 hz1p hz1n (fun l2 l3 l4 h => ih l2 l3 l4 h) l2 l3 l4 hF
set_option maxHeartbeats 4000000 in
set_option maxRecDepth 20000 in
theorem t_X12_lifeOf (hst : gj_Stat S) {z1 n1 : Int} (hz1 : S.2.1 z1 = (0, n1)) (hz1p : 0 ≤ z1) (hz1n : 0 ≤ n1 ∧ n1 < 2147483648) (a2 : Int) {r : Int} (hF : F_X12_lifeOf z1 n1 a2 M = some r) : gj_C G l 4 0 0 yX12_lifeOf cX12_lifeOf 5 (some .int) [jR 79, jR z1, jI a2] S M (gj_qI fun x S' M' => r = x ∧ S = S' ∧ M = M') := by
  refine gj_Cof (by decide +kernel) (Nat.le_of_ble_eq_true rfl) ?_
  change gj_W G l 4 0 0 yX12_lifeOf cX12_lifeOf 5 (some .int) (gj_qI fun x S' M' => r = x ∧ S = S' ∧ M = M') 0 0 0 [(0, jR 79), (1, jR z1), (2, jI a2)] [] S M
  unfold F_X12_lifeOf at hF
  refine gj_iload_n (q := 1) (gj_dk okX12_lifeOf 0 rfl) rfl rfl ?_
  refine gj_aload_n (q := 2) (gj_dk okX12_lifeOf 1 rfl) rfl rfl ?_
  refine gj_aload_n (q := 3) (gj_dk okX12_lifeOf 2 rfl) rfl rfl ?_
  obtain ⟨x1, hG, hF⟩ := gj_bndd hF
  refine gj_callV (q := 6) (z := 79) (ci := 10) [jR z1] rfl (t_X12_sumOf hst hz1 hz1p hz1n  hG) (gj_dk okX12_lifeOf 3 rfl) ml_X12_425 me_X12_sumOf (sh79 hst) rfl (gj_nm rfl) rfl (gj_kI fun y S2 M2 h => ?_)
  obtain ⟨e, eS, eM⟩ := h; subst eS; subst eM; subst e; clear hG
  refine gj_imul (q := 7) (gj_dk okX12_lifeOf 4 rfl) rfl ?_
  refine gj_istore_n (q := 8) (gj_dk okX12_lifeOf 5 rfl) (by decide) rfl ?_
  refine gj_iconst (q := 9) (gj_dk okX12_lifeOf 6 rfl) (by decide) rfl ?_
  refine gj_istore (q := 11) (gj_dk okX12_lifeOf 7 rfl) (by decide) rfl ?_
  refine gj_sub [(0, jR 79), (1, jR z1), (2, jI a2), (3, jI (gj_w (a2 * x1))), (4, jI 0)] ⟨rfl, rfl, rfl, rfl, rfl, trivial⟩ ?_
  exact t_L_X12_lifeOf_11 hst hz1 hz1p hz1n gj_fu a2 (gj_w (a2 * x1)) 0 hF
def J_X12_life_180 (l1 l2 : Int) (M : gj_M) : Option (Int × gj_M) :=
  gj_bnd (F_X12_lifeOf 119 8 l1 M) (fun x31 => (if l2 = 0 then (some ((x31, M))) else gj_bnd (F_X12_findsParents M) (fun M34 => gj_bnd (F_X12_lifeOf 125 8 l1 M34) (fun x35 => (some ((gj_w (x31 - x35), M34)))))))
def B_X12_life_132 (rec132 : Int → Int → Int → gj_M → Option (Int × gj_M)) (l1 l2 l3 : Int) (M : gj_M) : Option (Int × gj_M) :=
  (if 16 ≤ l3 then (J_X12_life_180 l1 l2 M) else gj_chk (0 ≤ l3 ∧ l3 < 16) (gj_chk (0 ≤ l3 ∧ l3 < 16) (gj_let (gj_up M 112 l3 (M 126 l3)) (fun M24 => gj_chk (0 ≤ l3 ∧ l3 < 16) (gj_chk (0 ≤ l3 ∧ l3 < 16) (gj_let (gj_up M24 113 l3 (M24 127 l3)) (fun M27 => gj_chk (0 ≤ l3 ∧ l3 < 16) (gj_chk (0 ≤ l3 ∧ l3 < 16) (gj_let (gj_up M27 114 l3 (M27 128 l3)) (fun M30 => rec132 l1 l2 (gj_w (l3 + 1)) M30))))))))))
def J_X12_life_125 (l1 l2 : Int) (M : gj_M) : Option (Int × gj_M) :=
  gj_bnd (F_X12_goes 0 M) (fun M21 => (gj_it (fun _ _ _ _ => none) (B_X12_life_132) gj_fu l1 l2 0 M21))
def B_X12_life_106 (rec106 : Int → Int → Int → gj_M → Option (Int × gj_M)) (l1 l2 l3 : Int) (M : gj_M) : Option (Int × gj_M) :=
  (if 8 ≤ l3 then (J_X12_life_125 l1 l2 M) else gj_chk (0 ≤ l3 ∧ l3 < 8) (gj_let (gj_up M 120 l3 0) (fun M19 => rec106 l1 l2 (gj_w (l3 + 1)) M19)))
def J_X12_life_104 (l1 l2 : Int) (M : gj_M) : Option (Int × gj_M) :=
  (gj_it (fun _ _ _ _ => none) (B_X12_life_106) gj_fu l1 l2 0 M)
def B_X12_life_35 (rec35 : Int → Int → Int → gj_M → Option (Int × gj_M)) (l1 l2 l3 : Int) (M : gj_M) : Option (Int × gj_M) :=
  (if 16 ≤ l3 then (J_X12_life_104 l1 l2 M) else gj_chk (0 ≤ l3 ∧ l3 < 16) (gj_chk (0 ≤ l3 ∧ l3 < 16) (gj_let (gj_up M 126 l3 (M 112 l3)) (fun M5 => gj_chk (0 ≤ l3 ∧ l3 < 16) (gj_chk (0 ≤ l3 ∧ l3 < 16) (gj_let (gj_up M5 127 l3 (M5 113 l3)) (fun M8 => gj_chk (0 ≤ l3 ∧ l3 < 16) (gj_chk (0 ≤ l3 ∧ l3 < 16) (gj_let (gj_up M8 128 l3 (M8 114 l3)) (fun M11 => gj_chk (0 ≤ l3 ∧ l3 < 16) (gj_let (gj_up M11 112 l3 0) (fun M13 => gj_chk (0 ≤ l3 ∧ l3 < 16) (gj_let (gj_up M13 113 l3 0) (fun M15 => gj_chk (0 ≤ l3 ∧ l3 < 16) (gj_let (gj_up M15 114 l3 0) (fun M17 => rec35 l1 l2 (gj_w (l3 + 1)) M17))))))))))))))))
def F_X12_life (a1 : Int) (a2 : Int) (M : gj_M) : Option (Int × gj_M) :=
  (if M 79 18 = 0 then (some ((-2147483648, M))) else gj_letI (f_X12_in a1 1 100 M) (fun x1 => (if x1 = 0 then (some ((-2147483648, M))) else gj_letI (f_X12_in a2 0 1 M) (fun x2 => (if x2 = 0 then (some ((-2147483648, M))) else (gj_it (fun _ _ _ _ => none) (B_X12_life_35) gj_fu a1 a2 0 M))))))
set_option maxHeartbeats 4000000 in
set_option maxRecDepth 20000 in
theorem t_J_X12_life_180 (hst : gj_Stat S) {r : Int × gj_M} (l1 l2 : Int) (M : gj_M) (hF : J_X12_life_180 l1 l2 M = some r) : gj_W G l 12 0 0 yX12_life cX12_life 4 (some .int) (gj_qI fun x S' M' => r.1 = x ∧ S = S' ∧ r.2 = M') 0 0 180 [(0, jR 79), (1, jI l1), (2, jI l2)] [] S M := by
  unfold J_X12_life_180 at hF
  refine gj_aload_n (q := 181) (gj_dk okX12_life 109 rfl) rfl rfl ?_
  refine gj_aload_n (q := 182) (gj_dk okX12_life 110 rfl) rfl rfl ?_
  refine gj_gR (q := 185) (j := 39) (gj_dk okX12_life 111 rfl) ff_X12_114 (sh79 hst) (by decide) rfl (rf79_39 hst) rfl ?_
  refine gj_iload_n (q := 186) (gj_dk okX12_life 112 rfl) rfl rfl ?_
  obtain ⟨x31, hG, hF⟩ := gj_bndd hF
  refine gj_callV (q := 189) (z := 79) (ci := 10) [jR 119, jI l1] rfl (t_X12_lifeOf hst (sh119 hst) (by decide) (by decide) l1 hG) (gj_dk okX12_life 113 rfl) ml_X12_443 me_X12_lifeOf (sh79 hst) rfl (gj_nm rfl) rfl (gj_kI fun y S2 M2 h => ?_)
  obtain ⟨e, eS, eM⟩ := h; subst eS; subst eM; subst e; clear hG
  refine gj_istore_n (q := 190) (gj_dk okX12_life 114 rfl) (by decide) rfl ?_
  refine gj_iload_n (q := 191) (gj_dk okX12_life 115 rfl) rfl rfl ?_
  refine gj_if_ne (q := 194) (tgt := 196) (gj_dk okX12_life 116 rfl) (by decide) rfl (fun c191 => ?_) (fun c191 => ?_)
  · -- 196
    replace hF := gj_iff c191 hF
    refine gj_aload_n (q := 197) (gj_dk okX12_life 119 rfl) rfl rfl ?_
    obtain ⟨M34, hG, hF⟩ := gj_bndd hF
    refine gj_callV (q := 200) (z := 79) (ci := 10) [] rfl (t_X12_findsParents hst  hG) (gj_dk okX12_life 120 rfl) ml_X12_435 me_X12_findsParents (sh79 hst) rfl (gj_nm rfl) rfl (gj_kV fun S2 M2 h => ?_)
    obtain ⟨eS, eM⟩ := h; subst eS; subst eM; clear hG
    refine gj_iload_n (q := 201) (gj_dk okX12_life 121 rfl) rfl rfl ?_
    refine gj_aload_n (q := 202) (gj_dk okX12_life 122 rfl) rfl rfl ?_
    refine gj_aload_n (q := 203) (gj_dk okX12_life 123 rfl) rfl rfl ?_
    refine gj_gR (q := 206) (j := 45) (gj_dk okX12_life 124 rfl) ff_X12_132 (sh79 hst) (by decide) rfl (rf79_45 hst) rfl ?_
    refine gj_iload_n (q := 207) (gj_dk okX12_life 125 rfl) rfl rfl ?_
    obtain ⟨x35, hG, hF⟩ := gj_bndd hF
    refine gj_callV (q := 210) (z := 79) (ci := 10) [jR 125, jI l1] rfl (t_X12_lifeOf hst (sh125 hst) (by decide) (by decide) l1 hG) (gj_dk okX12_life 126 rfl) ml_X12_443 me_X12_lifeOf (sh79 hst) rfl (gj_nm rfl) rfl (gj_kI fun y S2 M2 h => ?_)
    obtain ⟨e, eS, eM⟩ := h; subst eS; subst eM; subst e; clear hG
    refine gj_isub (q := 211) (gj_dk okX12_life 127 rfl) rfl ?_
    cases hF
    exact gj_iret (gj_dk okX12_life 128 rfl) rfl ⟨_, rfl, rfl, rfl, rfl⟩
  · -- 194
    replace hF := gj_ift c191 hF
    refine gj_iload_n (q := 195) (gj_dk okX12_life 117 rfl) rfl rfl ?_
    cases hF
    exact gj_iret (gj_dk okX12_life 118 rfl) rfl ⟨_, rfl, rfl, rfl, rfl⟩
set_option maxHeartbeats 4000000 in
set_option maxRecDepth 20000 in
theorem t_B_X12_life_132 (hst : gj_Stat S) {r : Int × gj_M} {rec132 : Int → Int → Int → gj_M → Option (Int × gj_M)} (hrec132 : ∀ (l1 l2 l3 : Int) (M : gj_M), rec132 l1 l2 l3 M = some r → gj_W G l 12 0 0 yX12_life cX12_life 4 (some .int) (gj_qI fun x S' M' => r.1 = x ∧ S = S' ∧ r.2 = M') 0 0 132 [(0, jR 79), (1, jI l1), (2, jI l2), (3, jI l3)] [] S M) (l1 l2 l3 : Int) (M : gj_M) (hF : B_X12_life_132 rec132 l1 l2 l3 M = some r) : gj_W G l 12 0 0 yX12_life cX12_life 4 (some .int) (gj_qI fun x S' M' => r.1 = x ∧ S = S' ∧ r.2 = M') 0 0 132 [(0, jR 79), (1, jI l1), (2, jI l2), (3, jI l3)] [] S M := by
  unfold B_X12_life_132 at hF
  refine gj_iload_n (q := 133) (gj_dk okX12_life 80 rfl) rfl rfl ?_
  refine gj_bipush (q := 135) (gj_dk okX12_life 81 rfl) (by decide) rfl rfl ?_
  refine gj_icmp_ge (q := 138) (tgt := 180) (gj_dk okX12_life 82 rfl) (by decide) rfl (fun c135 => ?_) (fun c135 => ?_)
  · -- 180
    replace hF := gj_ift c135 hF
    refine gj_sub [(0, jR 79), (1, jI l1), (2, jI l2)] ⟨rfl, rfl, rfl, trivial⟩ ?_
    exact t_J_X12_life_180 hst l1 l2 M hF
  · -- 138
    replace hF := gj_iff c135 hF
    refine gj_aload_n (q := 139) (gj_dk okX12_life 83 rfl) rfl rfl ?_
    refine gj_gR (q := 142) (j := 24) (gj_dk okX12_life 84 rfl) ff_X12_89 (sh79 hst) (by decide) rfl (rf79_24 hst) rfl ?_
    refine gj_iload_n (q := 143) (gj_dk okX12_life 85 rfl) rfl rfl ?_
    refine gj_aload_n (q := 144) (gj_dk okX12_life 86 rfl) rfl rfl ?_
    refine gj_gR (q := 147) (j := 47) (gj_dk okX12_life 87 rfl) ff_X12_135 (sh79 hst) (by decide) rfl (rf79_47 hst) rfl ?_
    refine gj_iload_n (q := 148) (gj_dk okX12_life 88 rfl) rfl rfl ?_
    obtain ⟨b22, hF⟩ := gj_ckd hF
    refine gj_iald (q := 149) (gj_dk okX12_life 89 rfl) (sh126 hst) b22.1 b22.2 rfl ?_
    obtain ⟨b23, hF⟩ := gj_ckd hF
    refine gj_iast (q := 150) (gj_dk okX12_life 90 rfl) (sh112 hst) b23.1 b23.2 rfl ?_
    refine gj_stp hF (fun M24 hF => ?_)
    refine gj_aload_n (q := 151) (gj_dk okX12_life 91 rfl) rfl rfl ?_
    refine gj_gR (q := 154) (j := 25) (gj_dk okX12_life 92 rfl) ff_X12_92 (sh79 hst) (by decide) rfl (rf79_25 hst) rfl ?_
    refine gj_iload_n (q := 155) (gj_dk okX12_life 93 rfl) rfl rfl ?_
    refine gj_aload_n (q := 156) (gj_dk okX12_life 94 rfl) rfl rfl ?_
    refine gj_gR (q := 159) (j := 48) (gj_dk okX12_life 95 rfl) ff_X12_138 (sh79 hst) (by decide) rfl (rf79_48 hst) rfl ?_
    refine gj_iload_n (q := 160) (gj_dk okX12_life 96 rfl) rfl rfl ?_
    obtain ⟨b25, hF⟩ := gj_ckd hF
    refine gj_iald (q := 161) (gj_dk okX12_life 97 rfl) (sh127 hst) b25.1 b25.2 rfl ?_
    obtain ⟨b26, hF⟩ := gj_ckd hF
    refine gj_iast (q := 162) (gj_dk okX12_life 98 rfl) (sh113 hst) b26.1 b26.2 rfl ?_
    refine gj_stp hF (fun M27 hF => ?_)
    refine gj_aload_n (q := 163) (gj_dk okX12_life 99 rfl) rfl rfl ?_
    refine gj_gR (q := 166) (j := 26) (gj_dk okX12_life 100 rfl) ff_X12_95 (sh79 hst) (by decide) rfl (rf79_26 hst) rfl ?_
    refine gj_iload_n (q := 167) (gj_dk okX12_life 101 rfl) rfl rfl ?_
    refine gj_aload_n (q := 168) (gj_dk okX12_life 102 rfl) rfl rfl ?_
    refine gj_gR (q := 171) (j := 49) (gj_dk okX12_life 103 rfl) ff_X12_141 (sh79 hst) (by decide) rfl (rf79_49 hst) rfl ?_
    refine gj_iload_n (q := 172) (gj_dk okX12_life 104 rfl) rfl rfl ?_
    obtain ⟨b28, hF⟩ := gj_ckd hF
    refine gj_iald (q := 173) (gj_dk okX12_life 105 rfl) (sh128 hst) b28.1 b28.2 rfl ?_
    obtain ⟨b29, hF⟩ := gj_ckd hF
    refine gj_iast (q := 174) (gj_dk okX12_life 106 rfl) (sh114 hst) b29.1 b29.2 rfl ?_
    refine gj_stp hF (fun M30 hF => ?_)
    refine gj_iinc (q := 177) (v := gj_w (l3 + 1)) (gj_dk okX12_life 107 rfl) rfl (by decide) rfl rfl ?_
    refine gj_goto (tgt := 132) (gj_dk okX12_life 108 rfl) (by decide) ?_
    refine gj_sub [(0, jR 79), (1, jI l1), (2, jI l2), (3, jI (gj_w (l3 + 1)))] ⟨rfl, rfl, rfl, rfl, trivial⟩ ?_
    exact hrec132 l1 l2 (gj_w (l3 + 1)) M30 hF
theorem t_L_X12_life_132 (hst : gj_Stat S) {r : Int × gj_M} : ∀ (m : Nat) (l1 : Int) (l2 : Int) (l3 : Int) (M : gj_M), gj_it (fun _ _ _ _ => none) (B_X12_life_132) m l1 l2 l3 M = some r → gj_W G l 12 0 0 yX12_life cX12_life 4 (some .int) (gj_qI fun x S' M' => r.1 = x ∧ S = S' ∧ r.2 = M') 0 0 132 [(0, jR 79), (1, jI l1), (2, jI l2), (3, jI l3)] [] S M := by
  intro m
  induction m with
  | zero => intro l1 l2 l3 M hF; cases (show (none : Option (Int × gj_M)) = some r from hF)
  | succ m ih => intro l1 l2 l3 M hF; exact t_B_X12_life_132 hst (fun l1 l2 l3 M h => ih l1 l2 l3 M h) l1 l2 l3 M hF
set_option maxHeartbeats 4000000 in
set_option maxRecDepth 20000 in
theorem t_J_X12_life_125 (hst : gj_Stat S) {r : Int × gj_M} (l1 l2 : Int) (M : gj_M) (hF : J_X12_life_125 l1 l2 M = some r) : gj_W G l 12 0 0 yX12_life cX12_life 4 (some .int) (gj_qI fun x S' M' => r.1 = x ∧ S = S' ∧ r.2 = M') 0 0 125 [(0, jR 79), (1, jI l1), (2, jI l2)] [] S M := by
  unfold J_X12_life_125 at hF
  refine gj_aload_n (q := 126) (gj_dk okX12_life 75 rfl) rfl rfl ?_
  refine gj_iconst (q := 127) (gj_dk okX12_life 76 rfl) (by decide) rfl ?_
  obtain ⟨M21, hG, hF⟩ := gj_bndd hF
  refine gj_callV (q := 130) (z := 79) (ci := 10) [jI 0] rfl (t_X12_goes hst 0 hG) (gj_dk okX12_life 77 rfl) ml_X12_396 me_X12_goes (sh79 hst) rfl (gj_nm rfl) rfl (gj_kV fun S2 M2 h => ?_)
  obtain ⟨eS, eM⟩ := h; subst eS; subst eM; clear hG
  refine gj_iconst (q := 131) (gj_dk okX12_life 78 rfl) (by decide) rfl ?_
  refine gj_istore_n (q := 132) (gj_dk okX12_life 79 rfl) (by decide) rfl ?_
  refine gj_sub [(0, jR 79), (1, jI l1), (2, jI l2), (3, jI 0)] ⟨rfl, rfl, rfl, rfl, trivial⟩ ?_
  exact t_L_X12_life_132 hst gj_fu l1 l2 0 M21 hF
set_option maxHeartbeats 4000000 in
set_option maxRecDepth 20000 in
theorem t_B_X12_life_106 (hst : gj_Stat S) {r : Int × gj_M} {rec106 : Int → Int → Int → gj_M → Option (Int × gj_M)} (hrec106 : ∀ (l1 l2 l3 : Int) (M : gj_M), rec106 l1 l2 l3 M = some r → gj_W G l 12 0 0 yX12_life cX12_life 4 (some .int) (gj_qI fun x S' M' => r.1 = x ∧ S = S' ∧ r.2 = M') 0 0 106 [(0, jR 79), (1, jI l1), (2, jI l2), (3, jI l3)] [] S M) (l1 l2 l3 : Int) (M : gj_M) (hF : B_X12_life_106 rec106 l1 l2 l3 M = some r) : gj_W G l 12 0 0 yX12_life cX12_life 4 (some .int) (gj_qI fun x S' M' => r.1 = x ∧ S = S' ∧ r.2 = M') 0 0 106 [(0, jR 79), (1, jI l1), (2, jI l2), (3, jI l3)] [] S M := by
  unfold B_X12_life_106 at hF
  refine gj_iload_n (q := 107) (gj_dk okX12_life 65 rfl) rfl rfl ?_
  refine gj_bipush (q := 109) (gj_dk okX12_life 66 rfl) (by decide) rfl rfl ?_
  refine gj_icmp_ge (q := 112) (tgt := 125) (gj_dk okX12_life 67 rfl) (by decide) rfl (fun c109 => ?_) (fun c109 => ?_)
  · -- 125
    replace hF := gj_ift c109 hF
    refine gj_sub [(0, jR 79), (1, jI l1), (2, jI l2)] ⟨rfl, rfl, rfl, trivial⟩ ?_
    exact t_J_X12_life_125 hst l1 l2 M hF
  · -- 112
    replace hF := gj_iff c109 hF
    refine gj_aload_n (q := 113) (gj_dk okX12_life 68 rfl) rfl rfl ?_
    refine gj_gR (q := 116) (j := 40) (gj_dk okX12_life 69 rfl) ff_X12_117 (sh79 hst) (by decide) rfl (rf79_40 hst) rfl ?_
    refine gj_iload_n (q := 117) (gj_dk okX12_life 70 rfl) rfl rfl ?_
    refine gj_iconst (q := 118) (gj_dk okX12_life 71 rfl) (by decide) rfl ?_
    obtain ⟨b18, hF⟩ := gj_ckd hF
    refine gj_iast (q := 119) (gj_dk okX12_life 72 rfl) (sh120 hst) b18.1 b18.2 rfl ?_
    refine gj_stp hF (fun M19 hF => ?_)
    refine gj_iinc (q := 122) (v := gj_w (l3 + 1)) (gj_dk okX12_life 73 rfl) rfl (by decide) rfl rfl ?_
    refine gj_goto (tgt := 106) (gj_dk okX12_life 74 rfl) (by decide) ?_
    refine gj_sub [(0, jR 79), (1, jI l1), (2, jI l2), (3, jI (gj_w (l3 + 1)))] ⟨rfl, rfl, rfl, rfl, trivial⟩ ?_
    exact hrec106 l1 l2 (gj_w (l3 + 1)) M19 hF
theorem t_L_X12_life_106 (hst : gj_Stat S) {r : Int × gj_M} : ∀ (m : Nat) (l1 : Int) (l2 : Int) (l3 : Int) (M : gj_M), gj_it (fun _ _ _ _ => none) (B_X12_life_106) m l1 l2 l3 M = some r → gj_W G l 12 0 0 yX12_life cX12_life 4 (some .int) (gj_qI fun x S' M' => r.1 = x ∧ S = S' ∧ r.2 = M') 0 0 106 [(0, jR 79), (1, jI l1), (2, jI l2), (3, jI l3)] [] S M := by
  intro m
  induction m with
  | zero => intro l1 l2 l3 M hF; cases (show (none : Option (Int × gj_M)) = some r from hF)
  | succ m ih => intro l1 l2 l3 M hF; exact t_B_X12_life_106 hst (fun l1 l2 l3 M h => ih l1 l2 l3 M h) l1 l2 l3 M hF
set_option maxHeartbeats 4000000 in
set_option maxRecDepth 20000 in
theorem t_J_X12_life_104 (hst : gj_Stat S) {r : Int × gj_M} (l1 l2 : Int) (M : gj_M) (hF : J_X12_life_104 l1 l2 M = some r) : gj_W G l 12 0 0 yX12_life cX12_life 4 (some .int) (gj_qI fun x S' M' => r.1 = x ∧ S = S' ∧ r.2 = M') 0 0 104 [(0, jR 79), (1, jI l1), (2, jI l2)] [] S M := by
  unfold J_X12_life_104 at hF
  refine gj_iconst (q := 105) (gj_dk okX12_life 63 rfl) (by decide) rfl ?_
  refine gj_istore_n (q := 106) (gj_dk okX12_life 64 rfl) (by decide) rfl ?_
  refine gj_sub [(0, jR 79), (1, jI l1), (2, jI l2), (3, jI 0)] ⟨rfl, rfl, rfl, rfl, trivial⟩ ?_
  exact t_L_X12_life_106 hst gj_fu l1 l2 0 M hF
set_option maxHeartbeats 4000000 in
set_option maxRecDepth 20000 in
theorem t_B_X12_life_35 (hst : gj_Stat S) {r : Int × gj_M} {rec35 : Int → Int → Int → gj_M → Option (Int × gj_M)} (hrec35 : ∀ (l1 l2 l3 : Int) (M : gj_M), rec35 l1 l2 l3 M = some r → gj_W G l 12 0 0 yX12_life cX12_life 4 (some .int) (gj_qI fun x S' M' => r.1 = x ∧ S = S' ∧ r.2 = M') 0 0 35 [(0, jR 79), (1, jI l1), (2, jI l2), (3, jI l3)] [] S M) (l1 l2 l3 : Int) (M : gj_M) (hF : B_X12_life_35 rec35 l1 l2 l3 M = some r) : gj_W G l 12 0 0 yX12_life cX12_life 4 (some .int) (gj_qI fun x S' M' => r.1 = x ∧ S = S' ∧ r.2 = M') 0 0 35 [(0, jR 79), (1, jI l1), (2, jI l2), (3, jI l3)] [] S M := by
  unfold B_X12_life_35 at hF
  refine gj_iload_n (q := 36) (gj_dk okX12_life 19 rfl) rfl rfl ?_
  refine gj_bipush (q := 38) (gj_dk okX12_life 20 rfl) (by decide) rfl rfl ?_
  refine gj_icmp_ge (q := 41) (tgt := 104) (gj_dk okX12_life 21 rfl) (by decide) rfl (fun c38 => ?_) (fun c38 => ?_)
  · -- 104
    replace hF := gj_ift c38 hF
    refine gj_sub [(0, jR 79), (1, jI l1), (2, jI l2)] ⟨rfl, rfl, rfl, trivial⟩ ?_
    exact t_J_X12_life_104 hst l1 l2 M hF
  · -- 41
    replace hF := gj_iff c38 hF
    refine gj_aload_n (q := 42) (gj_dk okX12_life 22 rfl) rfl rfl ?_
    refine gj_gR (q := 45) (j := 47) (gj_dk okX12_life 23 rfl) ff_X12_135 (sh79 hst) (by decide) rfl (rf79_47 hst) rfl ?_
    refine gj_iload_n (q := 46) (gj_dk okX12_life 24 rfl) rfl rfl ?_
    refine gj_aload_n (q := 47) (gj_dk okX12_life 25 rfl) rfl rfl ?_
    refine gj_gR (q := 50) (j := 24) (gj_dk okX12_life 26 rfl) ff_X12_89 (sh79 hst) (by decide) rfl (rf79_24 hst) rfl ?_
    refine gj_iload_n (q := 51) (gj_dk okX12_life 27 rfl) rfl rfl ?_
    obtain ⟨b3, hF⟩ := gj_ckd hF
    refine gj_iald (q := 52) (gj_dk okX12_life 28 rfl) (sh112 hst) b3.1 b3.2 rfl ?_
    obtain ⟨b4, hF⟩ := gj_ckd hF
    refine gj_iast (q := 53) (gj_dk okX12_life 29 rfl) (sh126 hst) b4.1 b4.2 rfl ?_
    refine gj_stp hF (fun M5 hF => ?_)
    refine gj_aload_n (q := 54) (gj_dk okX12_life 30 rfl) rfl rfl ?_
    refine gj_gR (q := 57) (j := 48) (gj_dk okX12_life 31 rfl) ff_X12_138 (sh79 hst) (by decide) rfl (rf79_48 hst) rfl ?_
    refine gj_iload_n (q := 58) (gj_dk okX12_life 32 rfl) rfl rfl ?_
    refine gj_aload_n (q := 59) (gj_dk okX12_life 33 rfl) rfl rfl ?_
    refine gj_gR (q := 62) (j := 25) (gj_dk okX12_life 34 rfl) ff_X12_92 (sh79 hst) (by decide) rfl (rf79_25 hst) rfl ?_
    refine gj_iload_n (q := 63) (gj_dk okX12_life 35 rfl) rfl rfl ?_
    obtain ⟨b6, hF⟩ := gj_ckd hF
    refine gj_iald (q := 64) (gj_dk okX12_life 36 rfl) (sh113 hst) b6.1 b6.2 rfl ?_
    obtain ⟨b7, hF⟩ := gj_ckd hF
    refine gj_iast (q := 65) (gj_dk okX12_life 37 rfl) (sh127 hst) b7.1 b7.2 rfl ?_
    refine gj_stp hF (fun M8 hF => ?_)
    refine gj_aload_n (q := 66) (gj_dk okX12_life 38 rfl) rfl rfl ?_
    refine gj_gR (q := 69) (j := 49) (gj_dk okX12_life 39 rfl) ff_X12_141 (sh79 hst) (by decide) rfl (rf79_49 hst) rfl ?_
    refine gj_iload_n (q := 70) (gj_dk okX12_life 40 rfl) rfl rfl ?_
    refine gj_aload_n (q := 71) (gj_dk okX12_life 41 rfl) rfl rfl ?_
    refine gj_gR (q := 74) (j := 26) (gj_dk okX12_life 42 rfl) ff_X12_95 (sh79 hst) (by decide) rfl (rf79_26 hst) rfl ?_
    refine gj_iload_n (q := 75) (gj_dk okX12_life 43 rfl) rfl rfl ?_
    obtain ⟨b9, hF⟩ := gj_ckd hF
    refine gj_iald (q := 76) (gj_dk okX12_life 44 rfl) (sh114 hst) b9.1 b9.2 rfl ?_
    obtain ⟨b10, hF⟩ := gj_ckd hF
    refine gj_iast (q := 77) (gj_dk okX12_life 45 rfl) (sh128 hst) b10.1 b10.2 rfl ?_
    refine gj_stp hF (fun M11 hF => ?_)
    refine gj_aload_n (q := 78) (gj_dk okX12_life 46 rfl) rfl rfl ?_
    refine gj_gR (q := 81) (j := 24) (gj_dk okX12_life 47 rfl) ff_X12_89 (sh79 hst) (by decide) rfl (rf79_24 hst) rfl ?_
    refine gj_iload_n (q := 82) (gj_dk okX12_life 48 rfl) rfl rfl ?_
    refine gj_iconst (q := 83) (gj_dk okX12_life 49 rfl) (by decide) rfl ?_
    obtain ⟨b12, hF⟩ := gj_ckd hF
    refine gj_iast (q := 84) (gj_dk okX12_life 50 rfl) (sh112 hst) b12.1 b12.2 rfl ?_
    refine gj_stp hF (fun M13 hF => ?_)
    refine gj_aload_n (q := 85) (gj_dk okX12_life 51 rfl) rfl rfl ?_
    refine gj_gR (q := 88) (j := 25) (gj_dk okX12_life 52 rfl) ff_X12_92 (sh79 hst) (by decide) rfl (rf79_25 hst) rfl ?_
    refine gj_iload_n (q := 89) (gj_dk okX12_life 53 rfl) rfl rfl ?_
    refine gj_iconst (q := 90) (gj_dk okX12_life 54 rfl) (by decide) rfl ?_
    obtain ⟨b14, hF⟩ := gj_ckd hF
    refine gj_iast (q := 91) (gj_dk okX12_life 55 rfl) (sh113 hst) b14.1 b14.2 rfl ?_
    refine gj_stp hF (fun M15 hF => ?_)
    refine gj_aload_n (q := 92) (gj_dk okX12_life 56 rfl) rfl rfl ?_
    refine gj_gR (q := 95) (j := 26) (gj_dk okX12_life 57 rfl) ff_X12_95 (sh79 hst) (by decide) rfl (rf79_26 hst) rfl ?_
    refine gj_iload_n (q := 96) (gj_dk okX12_life 58 rfl) rfl rfl ?_
    refine gj_iconst (q := 97) (gj_dk okX12_life 59 rfl) (by decide) rfl ?_
    obtain ⟨b16, hF⟩ := gj_ckd hF
    refine gj_iast (q := 98) (gj_dk okX12_life 60 rfl) (sh114 hst) b16.1 b16.2 rfl ?_
    refine gj_stp hF (fun M17 hF => ?_)
    refine gj_iinc (q := 101) (v := gj_w (l3 + 1)) (gj_dk okX12_life 61 rfl) rfl (by decide) rfl rfl ?_
    refine gj_goto (tgt := 35) (gj_dk okX12_life 62 rfl) (by decide) ?_
    refine gj_sub [(0, jR 79), (1, jI l1), (2, jI l2), (3, jI (gj_w (l3 + 1)))] ⟨rfl, rfl, rfl, rfl, trivial⟩ ?_
    exact hrec35 l1 l2 (gj_w (l3 + 1)) M17 hF
theorem t_L_X12_life_35 (hst : gj_Stat S) {r : Int × gj_M} : ∀ (m : Nat) (l1 : Int) (l2 : Int) (l3 : Int) (M : gj_M), gj_it (fun _ _ _ _ => none) (B_X12_life_35) m l1 l2 l3 M = some r → gj_W G l 12 0 0 yX12_life cX12_life 4 (some .int) (gj_qI fun x S' M' => r.1 = x ∧ S = S' ∧ r.2 = M') 0 0 35 [(0, jR 79), (1, jI l1), (2, jI l2), (3, jI l3)] [] S M := by
  intro m
  induction m with
  | zero => intro l1 l2 l3 M hF; cases (show (none : Option (Int × gj_M)) = some r from hF)
  | succ m ih => intro l1 l2 l3 M hF; exact t_B_X12_life_35 hst (fun l1 l2 l3 M h => ih l1 l2 l3 M h) l1 l2 l3 M hF
set_option maxHeartbeats 4000000 in
set_option maxRecDepth 20000 in
theorem t_X12_life (hst : gj_Stat S) (a1 a2 : Int) {r : Int × gj_M} (hF : F_X12_life a1 a2 M = some r) : gj_C G l 12 0 0 yX12_life cX12_life 4 (some .int) [jR 79, jI a1, jI a2] S M (gj_qI fun x S' M' => r.1 = x ∧ S = S' ∧ r.2 = M') := by
  refine gj_Cof (by decide +kernel) (Nat.le_of_ble_eq_true rfl) ?_
  change gj_W G l 12 0 0 yX12_life cX12_life 4 (some .int) (gj_qI fun x S' M' => r.1 = x ∧ S = S' ∧ r.2 = M') 0 0 0 [(0, jR 79), (1, jI a1), (2, jI a2)] [] S M
  unfold F_X12_life at hF
  refine gj_aload_n (q := 1) (gj_dk okX12_life 0 rfl) rfl rfl ?_
  refine gj_gZ (q := 4) (j := 18) (gj_dk okX12_life 1 rfl) ff_X12_260 (sh79 hst) (by decide) rfl rfl ?_
  refine gj_if_eq (q := 7) (tgt := 29) (gj_dk okX12_life 2 rfl) (by decide) rfl (fun c4 => ?_) (fun c4 => ?_)
  · -- 29
    replace hF := gj_ift c4 hF
    refine gj_ldcw (q := 32) (z := -2147483648) (gj_dk okX12_life 15 rfl) kc_X12_284 (by decide) rfl ?_
    cases hF
    exact gj_iret (gj_dk okX12_life 16 rfl) rfl ⟨_, rfl, rfl, rfl, rfl⟩
  · -- 7
    replace hF := gj_iff c4 hF
    refine gj_iload_n (q := 8) (gj_dk okX12_life 3 rfl) rfl rfl ?_
    refine gj_i2l (q := 9) (gj_dk okX12_life 4 rfl) rfl ?_
    refine gj_lconst (q := 10) (z := 1) (gj_dk okX12_life 5 rfl) rfl (by decide) rfl ?_
    refine gj_ldc2 (q := 13) (z := 100) (gj_dk okX12_life 6 rfl) kl_X12_441 (by decide) rfl ?_
    refine gj_callS (q := 16) [jL a1, jL 1, jL 100] rfl (t_X12_in hst a1 1 100 rfl) (gj_dk okX12_life 7 rfl) ml_X12_158 me_X12_in (gj_nm rfl) rfl (gj_kI fun x S2 M2 h => ?_)
    obtain ⟨bz, e, eS, eM⟩ := h; subst eS; subst eM; subst e
    refine gj_stpZ bz hF (fun x1 bx1 hF => ?_)
    refine gj_if_eq (q := 19) (tgt := 29) (gj_dk okX12_life 8 rfl) (by decide) rfl (fun c16 => ?_) (fun c16 => ?_)
    · -- 29
      replace hF := gj_ift c16 hF
      refine gj_ldcw (q := 32) (z := -2147483648) (gj_dk okX12_life 15 rfl) kc_X12_284 (by decide) rfl ?_
      cases hF
      exact gj_iret (gj_dk okX12_life 16 rfl) rfl ⟨_, rfl, rfl, rfl, rfl⟩
    · -- 19
      replace hF := gj_iff c16 hF
      refine gj_iload_n (q := 20) (gj_dk okX12_life 9 rfl) rfl rfl ?_
      refine gj_i2l (q := 21) (gj_dk okX12_life 10 rfl) rfl ?_
      refine gj_lconst (q := 22) (z := 0) (gj_dk okX12_life 11 rfl) rfl (by decide) rfl ?_
      refine gj_lconst (q := 23) (z := 1) (gj_dk okX12_life 12 rfl) rfl (by decide) rfl ?_
      refine gj_callS (q := 26) [jL a2, jL 0, jL 1] rfl (t_X12_in hst a2 0 1 rfl) (gj_dk okX12_life 13 rfl) ml_X12_158 me_X12_in (gj_nm rfl) rfl (gj_kI fun x S2 M2 h => ?_)
      obtain ⟨bz, e, eS, eM⟩ := h; subst eS; subst eM; subst e
      refine gj_stpZ bz hF (fun x2 bx2 hF => ?_)
      refine gj_if_ne (q := 29) (tgt := 33) (gj_dk okX12_life 14 rfl) (by decide) rfl (fun c26 => ?_) (fun c26 => ?_)
      · -- 33
        replace hF := gj_iff c26 hF
        refine gj_iconst (q := 34) (gj_dk okX12_life 17 rfl) (by decide) rfl ?_
        refine gj_istore_n (q := 35) (gj_dk okX12_life 18 rfl) (by decide) rfl ?_
        refine gj_sub [(0, jR 79), (1, jI a1), (2, jI a2), (3, jI 0)] ⟨rfl, rfl, rfl, rfl, trivial⟩ ?_
        exact t_L_X12_life_35 hst gj_fu a1 a2 0 M hF
      · -- 29
        replace hF := gj_ift c26 hF
        refine gj_ldcw (q := 32) (z := -2147483648) (gj_dk okX12_life 15 rfl) kc_X12_284 (by decide) rfl ?_
        cases hF
        exact gj_iret (gj_dk okX12_life 16 rfl) rfl ⟨_, rfl, rfl, rfl, rfl⟩
def J_X12_never_110 (rec48 : Int → Int → gj_M → Option (Int × gj_M)) (l3 s0 s1 : Int) (M : gj_M) : Option (Int × gj_M) :=
  rec48 (gj_w (s0 + s1)) (gj_w (l3 + 1)) M
def B_X12_never_48 (rec48 : Int → Int → gj_M → Option (Int × gj_M)) (l2 l3 : Int) (M : gj_M) : Option (Int × gj_M) :=
  (if M 101 0 ≤ l3 then (some ((l2, M))) else gj_chk (0 ≤ l3 ∧ l3 < 8) ((if M 125 l3 = -1 then (J_X12_never_110 rec48 l3 l2 0 M) else gj_chk (0 ≤ l3 ∧ l3 < 8) (gj_letI (f_X12_two l3 (M 125 l3) M) (fun x8 => gj_chk (0 ≤ x8 ∧ x8 < 16) (gj_chk (0 ≤ l3 ∧ l3 < 8) (gj_letI (f_X12_two l3 (M 125 l3) M) (fun x11 => gj_chk (0 ≤ x11 ∧ x11 < 16) ((if gj_w ((M 112 x8) + (M 113 x11)) = 0 then (J_X12_never_110 rec48 l3 l2 1 M) else (J_X12_never_110 rec48 l3 l2 0 M)))))))))))
def F_X12_never (a1 : Int) (M : gj_M) : Option (Int × gj_M) :=
  (if M 79 18 = 0 then (some ((-2147483648, M))) else gj_letI (f_X12_in a1 0 1 M) (fun x1 => (if x1 = 0 then (some ((-2147483648, M))) else gj_bnd (F_X12_findsParents M) (fun M3 => (if a1 = 1 then gj_bnd (F_X12_sumOf 108 8 M3) (fun x4 => (some ((gj_w ((M3 79 46) - x4), M3)))) else (gj_it (fun _ _ _ => none) (B_X12_never_48) gj_fu 0 0 M3))))))
set_option maxHeartbeats 4000000 in
set_option maxRecDepth 20000 in
theorem t_J_X12_never_110 (hst : gj_Stat S) {r : Int × gj_M} {rec48 : Int → Int → gj_M → Option (Int × gj_M)} (hrec48 : ∀ (l2 l3 : Int) (M : gj_M), rec48 l2 l3 M = some r → gj_W G l 12 0 0 yX12_never cX12_never 4 (some .int) (gj_qI fun x S' M' => r.1 = x ∧ S = S' ∧ r.2 = M') 0 0 48 [(0, jR 79), (2, jI l2), (3, jI l3)] [] S M) (l3 s0 s1 : Int) (M : gj_M) (hF : J_X12_never_110 rec48 l3 s0 s1 M = some r) : gj_W G l 12 0 0 yX12_never cX12_never 4 (some .int) (gj_qI fun x S' M' => r.1 = x ∧ S = S' ∧ r.2 = M') 0 0 110 [(0, jR 79), (3, jI l3)] [jI s1, jI s0] S M := by
  unfold J_X12_never_110 at hF
  refine gj_iadd (q := 111) (gj_dk okX12_never 66 rfl) rfl ?_
  refine gj_istore_n (q := 112) (gj_dk okX12_never 67 rfl) (by decide) rfl ?_
  refine gj_iinc (q := 115) (v := gj_w (l3 + 1)) (gj_dk okX12_never 68 rfl) rfl (by decide) rfl rfl ?_
  refine gj_goto (tgt := 48) (gj_dk okX12_never 69 rfl) (by decide) ?_
  refine gj_sub [(0, jR 79), (2, jI (gj_w (s0 + s1))), (3, jI (gj_w (l3 + 1)))] ⟨rfl, rfl, rfl, trivial⟩ ?_
  exact hrec48 (gj_w (s0 + s1)) (gj_w (l3 + 1)) M hF
set_option maxHeartbeats 4000000 in
set_option maxRecDepth 20000 in
theorem t_B_X12_never_48 (hst : gj_Stat S) {r : Int × gj_M} {rec48 : Int → Int → gj_M → Option (Int × gj_M)} (hrec48 : ∀ (l2 l3 : Int) (M : gj_M), rec48 l2 l3 M = some r → gj_W G l 12 0 0 yX12_never cX12_never 4 (some .int) (gj_qI fun x S' M' => r.1 = x ∧ S = S' ∧ r.2 = M') 0 0 48 [(0, jR 79), (2, jI l2), (3, jI l3)] [] S M) (l2 l3 : Int) (M : gj_M) (hF : B_X12_never_48 rec48 l2 l3 M = some r) : gj_W G l 12 0 0 yX12_never cX12_never 4 (some .int) (gj_qI fun x S' M' => r.1 = x ∧ S = S' ∧ r.2 = M') 0 0 48 [(0, jR 79), (2, jI l2), (3, jI l3)] [] S M := by
  unfold B_X12_never_48 at hF
  refine gj_iload_n (q := 49) (gj_dk okX12_never 28 rfl) rfl rfl ?_
  refine gj_aload_n (q := 50) (gj_dk okX12_never 29 rfl) rfl rfl ?_
  refine gj_gR (q := 53) (j := 13) (gj_dk okX12_never 30 rfl) ff_X12_37 (sh79 hst) (by decide) rfl (rf79_13 hst) rfl ?_
  refine gj_iconst (q := 54) (gj_dk okX12_never 31 rfl) (by decide) rfl ?_
  refine gj_aald (q := 55) (gj_dk okX12_never 32 rfl) (sh100 hst) (by decide) (by decide) (by decide) (rf100_0 hst) rfl ?_
  refine gj_iconst (q := 56) (gj_dk okX12_never 33 rfl) (by decide) rfl ?_
  refine gj_iald (q := 57) (gj_dk okX12_never 34 rfl) (sh101 hst) (by decide) (by decide) rfl ?_
  refine gj_icmp_ge (q := 60) (tgt := 118) (gj_dk okX12_never 35 rfl) (by decide) rfl (fun c57 => ?_) (fun c57 => ?_)
  · -- 118
    replace hF := gj_ift c57 hF
    refine gj_iload_n (q := 119) (gj_dk okX12_never 70 rfl) rfl rfl ?_
    cases hF
    exact gj_iret (gj_dk okX12_never 71 rfl) rfl ⟨_, rfl, rfl, rfl, rfl⟩
  · -- 60
    replace hF := gj_iff c57 hF
    refine gj_iload_n (q := 61) (gj_dk okX12_never 36 rfl) rfl rfl ?_
    refine gj_aload_n (q := 62) (gj_dk okX12_never 37 rfl) rfl rfl ?_
    refine gj_gR (q := 65) (j := 45) (gj_dk okX12_never 38 rfl) ff_X12_132 (sh79 hst) (by decide) rfl (rf79_45 hst) rfl ?_
    refine gj_iload_n (q := 66) (gj_dk okX12_never 39 rfl) rfl rfl ?_
    obtain ⟨b6, hF⟩ := gj_ckd hF
    refine gj_iald (q := 67) (gj_dk okX12_never 40 rfl) (sh125 hst) b6.1 b6.2 rfl ?_
    refine gj_iconst (q := 68) (gj_dk okX12_never 41 rfl) (by decide) rfl ?_
    refine gj_icmp_eq (q := 71) (tgt := 109) (gj_dk okX12_never 42 rfl) (by decide) rfl (fun c68 => ?_) (fun c68 => ?_)
    · -- 109
      replace hF := gj_ift c68 hF
      refine gj_iconst (q := 110) (gj_dk okX12_never 65 rfl) (by decide) rfl ?_
      refine gj_sub [(0, jR 79), (3, jI l3)] ⟨rfl, rfl, trivial⟩ ?_
      exact t_J_X12_never_110 hst hrec48 l3 l2 0 M hF
    · -- 71
      replace hF := gj_iff c68 hF
      refine gj_aload_n (q := 72) (gj_dk okX12_never 43 rfl) rfl rfl ?_
      refine gj_gR (q := 75) (j := 24) (gj_dk okX12_never 44 rfl) ff_X12_89 (sh79 hst) (by decide) rfl (rf79_24 hst) rfl ?_
      refine gj_iload_n (q := 76) (gj_dk okX12_never 45 rfl) rfl rfl ?_
      refine gj_aload_n (q := 77) (gj_dk okX12_never 46 rfl) rfl rfl ?_
      refine gj_gR (q := 80) (j := 45) (gj_dk okX12_never 47 rfl) ff_X12_132 (sh79 hst) (by decide) rfl (rf79_45 hst) rfl ?_
      refine gj_iload_n (q := 81) (gj_dk okX12_never 48 rfl) rfl rfl ?_
      obtain ⟨b7, hF⟩ := gj_ckd hF
      refine gj_iald (q := 82) (gj_dk okX12_never 49 rfl) (sh125 hst) b7.1 b7.2 rfl ?_
      refine gj_callS (q := 85) [jI l3, jI (M 125 l3)] rfl (t_X12_two hst l3 (M 125 l3) rfl) (gj_dk okX12_never 50 rfl) ml_X12_292 me_X12_two (gj_nm rfl) rfl (gj_kI fun x S2 M2 h => ?_)
      obtain ⟨e, eS, eM⟩ := h; subst eS; subst eM; subst e
      refine gj_stpI hF (fun x8 hF => ?_)
      obtain ⟨b9, hF⟩ := gj_ckd hF
      refine gj_iald (q := 86) (gj_dk okX12_never 51 rfl) (sh112 hst) b9.1 b9.2 rfl ?_
      refine gj_aload_n (q := 87) (gj_dk okX12_never 52 rfl) rfl rfl ?_
      refine gj_gR (q := 90) (j := 25) (gj_dk okX12_never 53 rfl) ff_X12_92 (sh79 hst) (by decide) rfl (rf79_25 hst) rfl ?_
      refine gj_iload_n (q := 91) (gj_dk okX12_never 54 rfl) rfl rfl ?_
      refine gj_aload_n (q := 92) (gj_dk okX12_never 55 rfl) rfl rfl ?_
      refine gj_gR (q := 95) (j := 45) (gj_dk okX12_never 56 rfl) ff_X12_132 (sh79 hst) (by decide) rfl (rf79_45 hst) rfl ?_
      refine gj_iload_n (q := 96) (gj_dk okX12_never 57 rfl) rfl rfl ?_
      obtain ⟨b10, hF⟩ := gj_ckd hF
      refine gj_iald (q := 97) (gj_dk okX12_never 58 rfl) (sh125 hst) b10.1 b10.2 rfl ?_
      refine gj_callS (q := 100) [jI l3, jI (M 125 l3)] rfl (t_X12_two hst l3 (M 125 l3) rfl) (gj_dk okX12_never 59 rfl) ml_X12_292 me_X12_two (gj_nm rfl) rfl (gj_kI fun x S2 M2 h => ?_)
      obtain ⟨e, eS, eM⟩ := h; subst eS; subst eM; subst e
      refine gj_stpI hF (fun x11 hF => ?_)
      obtain ⟨b12, hF⟩ := gj_ckd hF
      refine gj_iald (q := 101) (gj_dk okX12_never 60 rfl) (sh113 hst) b12.1 b12.2 rfl ?_
      refine gj_iadd (q := 102) (gj_dk okX12_never 61 rfl) rfl ?_
      refine gj_if_ne (q := 105) (tgt := 109) (gj_dk okX12_never 62 rfl) (by decide) rfl (fun c102 => ?_) (fun c102 => ?_)
      · -- 109
        replace hF := gj_iff c102 hF
        refine gj_iconst (q := 110) (gj_dk okX12_never 65 rfl) (by decide) rfl ?_
        refine gj_sub [(0, jR 79), (3, jI l3)] ⟨rfl, rfl, trivial⟩ ?_
        exact t_J_X12_never_110 hst hrec48 l3 l2 0 M hF
      · -- 105
        replace hF := gj_ift c102 hF
        refine gj_iconst (q := 106) (gj_dk okX12_never 63 rfl) (by decide) rfl ?_
        refine gj_goto (tgt := 110) (gj_dk okX12_never 64 rfl) (by decide) ?_
        refine gj_sub [(0, jR 79), (3, jI l3)] ⟨rfl, rfl, trivial⟩ ?_
        exact t_J_X12_never_110 hst hrec48 l3 l2 1 M hF
theorem t_L_X12_never_48 (hst : gj_Stat S) {r : Int × gj_M} : ∀ (m : Nat) (l2 : Int) (l3 : Int) (M : gj_M), gj_it (fun _ _ _ => none) (B_X12_never_48) m l2 l3 M = some r → gj_W G l 12 0 0 yX12_never cX12_never 4 (some .int) (gj_qI fun x S' M' => r.1 = x ∧ S = S' ∧ r.2 = M') 0 0 48 [(0, jR 79), (2, jI l2), (3, jI l3)] [] S M := by
  intro m
  induction m with
  | zero => intro l2 l3 M hF; cases (show (none : Option (Int × gj_M)) = some r from hF)
  | succ m ih => intro l2 l3 M hF; exact t_B_X12_never_48 hst (fun l2 l3 M h => ih l2 l3 M h) l2 l3 M hF
set_option maxHeartbeats 4000000 in
set_option maxRecDepth 20000 in
theorem t_X12_never (hst : gj_Stat S) (a1 : Int) {r : Int × gj_M} (hF : F_X12_never a1 M = some r) : gj_C G l 12 0 0 yX12_never cX12_never 4 (some .int) [jR 79, jI a1] S M (gj_qI fun x S' M' => r.1 = x ∧ S = S' ∧ r.2 = M') := by
  refine gj_Cof (by decide +kernel) (Nat.le_of_ble_eq_true rfl) ?_
  change gj_W G l 12 0 0 yX12_never cX12_never 4 (some .int) (gj_qI fun x S' M' => r.1 = x ∧ S = S' ∧ r.2 = M') 0 0 0 [(0, jR 79), (1, jI a1)] [] S M
  unfold F_X12_never at hF
  refine gj_aload_n (q := 1) (gj_dk okX12_never 0 rfl) rfl rfl ?_
  refine gj_gZ (q := 4) (j := 18) (gj_dk okX12_never 1 rfl) ff_X12_260 (sh79 hst) (by decide) rfl rfl ?_
  refine gj_if_eq (q := 7) (tgt := 17) (gj_dk okX12_never 2 rfl) (by decide) rfl (fun c4 => ?_) (fun c4 => ?_)
  · -- 17
    replace hF := gj_ift c4 hF
    refine gj_ldcw (q := 20) (z := -2147483648) (gj_dk okX12_never 9 rfl) kc_X12_284 (by decide) rfl ?_
    cases hF
    exact gj_iret (gj_dk okX12_never 10 rfl) rfl ⟨_, rfl, rfl, rfl, rfl⟩
  · -- 7
    replace hF := gj_iff c4 hF
    refine gj_iload_n (q := 8) (gj_dk okX12_never 3 rfl) rfl rfl ?_
    refine gj_i2l (q := 9) (gj_dk okX12_never 4 rfl) rfl ?_
    refine gj_lconst (q := 10) (z := 0) (gj_dk okX12_never 5 rfl) rfl (by decide) rfl ?_
    refine gj_lconst (q := 11) (z := 1) (gj_dk okX12_never 6 rfl) rfl (by decide) rfl ?_
    refine gj_callS (q := 14) [jL a1, jL 0, jL 1] rfl (t_X12_in hst a1 0 1 rfl) (gj_dk okX12_never 7 rfl) ml_X12_158 me_X12_in (gj_nm rfl) rfl (gj_kI fun x S2 M2 h => ?_)
    obtain ⟨bz, e, eS, eM⟩ := h; subst eS; subst eM; subst e
    refine gj_stpZ bz hF (fun x1 bx1 hF => ?_)
    refine gj_if_ne (q := 17) (tgt := 21) (gj_dk okX12_never 8 rfl) (by decide) rfl (fun c14 => ?_) (fun c14 => ?_)
    · -- 21
      replace hF := gj_iff c14 hF
      refine gj_aload_n (q := 22) (gj_dk okX12_never 11 rfl) rfl rfl ?_
      obtain ⟨M3, hG, hF⟩ := gj_bndd hF
      refine gj_callV (q := 25) (z := 79) (ci := 10) [] rfl (t_X12_findsParents hst  hG) (gj_dk okX12_never 12 rfl) ml_X12_435 me_X12_findsParents (sh79 hst) rfl (gj_nm rfl) rfl (gj_kV fun S2 M2 h => ?_)
      obtain ⟨eS, eM⟩ := h; subst eS; subst eM; clear hG
      refine gj_iload_n (q := 26) (gj_dk okX12_never 13 rfl) rfl rfl ?_
      refine gj_iconst (q := 27) (gj_dk okX12_never 14 rfl) (by decide) rfl ?_
      refine gj_icmp_ne (q := 30) (tgt := 44) (gj_dk okX12_never 15 rfl) (by decide) rfl (fun c27 => ?_) (fun c27 => ?_)
      · -- 44
        replace hF := gj_iff c27 hF
        refine gj_iconst (q := 45) (gj_dk okX12_never 24 rfl) (by decide) rfl ?_
        refine gj_istore_n (q := 46) (gj_dk okX12_never 25 rfl) (by decide) rfl ?_
        refine gj_iconst (q := 47) (gj_dk okX12_never 26 rfl) (by decide) rfl ?_
        refine gj_istore_n (q := 48) (gj_dk okX12_never 27 rfl) (by decide) rfl ?_
        refine gj_sub [(0, jR 79), (2, jI 0), (3, jI 0)] ⟨rfl, rfl, rfl, trivial⟩ ?_
        exact t_L_X12_never_48 hst gj_fu 0 0 M3 hF
      · -- 30
        replace hF := gj_ift c27 hF
        refine gj_aload_n (q := 31) (gj_dk okX12_never 16 rfl) rfl rfl ?_
        refine gj_gI (q := 34) (j := 46) (gj_dk okX12_never 17 rfl) ff_X12_429 (sh79 hst) (by decide) rfl rfl ?_
        refine gj_aload_n (q := 35) (gj_dk okX12_never 18 rfl) rfl rfl ?_
        refine gj_aload_n (q := 36) (gj_dk okX12_never 19 rfl) rfl rfl ?_
        refine gj_gR (q := 39) (j := 20) (gj_dk okX12_never 20 rfl) ff_X12_77 (sh79 hst) (by decide) rfl (rf79_20 hst) rfl ?_
        obtain ⟨x4, hG, hF⟩ := gj_bndd hF
        refine gj_callV (q := 42) (z := 79) (ci := 10) [jR 108] rfl (t_X12_sumOf hst (sh108 hst) (by decide) (by decide)  hG) (gj_dk okX12_never 21 rfl) ml_X12_425 me_X12_sumOf (sh79 hst) rfl (gj_nm rfl) rfl (gj_kI fun y S2 M2 h => ?_)
        obtain ⟨e, eS, eM⟩ := h; subst eS; subst eM; subst e; clear hG
        refine gj_isub (q := 43) (gj_dk okX12_never 22 rfl) rfl ?_
        cases hF
        exact gj_iret (gj_dk okX12_never 23 rfl) rfl ⟨_, rfl, rfl, rfl, rfl⟩
    · -- 17
      replace hF := gj_ift c14 hF
      refine gj_ldcw (q := 20) (z := -2147483648) (gj_dk okX12_never 9 rfl) kc_X12_284 (by decide) rfl ?_
      cases hF
      exact gj_iret (gj_dk okX12_never 10 rfl) rfl ⟨_, rfl, rfl, rfl, rfl⟩
def J_X12_pairs_81 (M : gj_M) (rec29 : Int → Int → Int → Int → Option (Int)) (l1 l2 l4 s0 s1 : Int) : Option (Int) :=
  rec29 l1 l2 (gj_w (s0 + s1)) (gj_w (l4 + 1))
def B_X12_pairs_29 (M : gj_M) (rec29 : Int → Int → Int → Int → Option (Int)) (l1 l2 l3 l4 : Int) : Option (Int) :=
  (if M 79 18 = 0 then (some (l3)) else (if M 101 0 ≤ l4 then (some (l3)) else gj_chk (0 ≤ l4 ∧ l4 < 8) ((if M 108 l4 = -1 then (J_X12_pairs_81 M rec29 l1 l2 l4 l3 0) else (if l2 = 0 then (J_X12_pairs_81 M rec29 l1 l2 l4 l3 1) else gj_chk (0 ≤ l4 ∧ l4 < 8) ((if M 110 l4 < l1 then (J_X12_pairs_81 M rec29 l1 l2 l4 l3 0) else (J_X12_pairs_81 M rec29 l1 l2 l4 l3 1))))))))
def F_X12_pairs (a1 : Int) (a2 : Int) (M : gj_M) : Option (Int) :=
  gj_letI (f_X12_in a2 0 1 M) (fun x1 => (if x1 = 0 then (some (-1)) else gj_letI (f_X12_in a1 0 100 M) (fun x2 => (if x2 = 0 then (some (-1)) else (gj_it (fun _ _ _ _ => none) (B_X12_pairs_29 M) gj_fu a1 a2 0 0)))))
set_option maxHeartbeats 4000000 in
set_option maxRecDepth 20000 in
theorem t_J_X12_pairs_81 (hst : gj_Stat S) {r : Int} {rec29 : Int → Int → Int → Int → Option (Int)} (hrec29 : ∀ (l1 l2 l3 l4 : Int), rec29 l1 l2 l3 l4 = some r → gj_W G l 2 0 0 yX12_pairs cX12_pairs 5 (some .int) (gj_qI fun x S' M' => r = x ∧ S = S' ∧ M = M') 0 0 29 [(0, jR 79), (1, jI l1), (2, jI l2), (3, jI l3), (4, jI l4)] [] S M) (l1 l2 l4 s0 s1 : Int) (hF : J_X12_pairs_81 M rec29 l1 l2 l4 s0 s1 = some r) : gj_W G l 2 0 0 yX12_pairs cX12_pairs 5 (some .int) (gj_qI fun x S' M' => r = x ∧ S = S' ∧ M = M') 0 0 81 [(0, jR 79), (1, jI l1), (2, jI l2), (4, jI l4)] [jI s1, jI s0] S M := by
  unfold J_X12_pairs_81 at hF
  refine gj_iadd (q := 82) (gj_dk okX12_pairs 47 rfl) rfl ?_
  refine gj_istore_n (q := 83) (gj_dk okX12_pairs 48 rfl) (by decide) rfl ?_
  refine gj_iinc (q := 86) (v := gj_w (l4 + 1)) (gj_dk okX12_pairs 49 rfl) rfl (by decide) rfl rfl ?_
  refine gj_goto (tgt := 29) (gj_dk okX12_pairs 50 rfl) (by decide) ?_
  refine gj_sub [(0, jR 79), (1, jI l1), (2, jI l2), (3, jI (gj_w (s0 + s1))), (4, jI (gj_w (l4 + 1)))] ⟨rfl, rfl, rfl, rfl, rfl, trivial⟩ ?_
  exact hrec29 l1 l2 (gj_w (s0 + s1)) (gj_w (l4 + 1)) hF
set_option maxHeartbeats 4000000 in
set_option maxRecDepth 20000 in
theorem t_B_X12_pairs_29 (hst : gj_Stat S) {r : Int} {rec29 : Int → Int → Int → Int → Option (Int)} (hrec29 : ∀ (l1 l2 l3 l4 : Int), rec29 l1 l2 l3 l4 = some r → gj_W G l 2 0 0 yX12_pairs cX12_pairs 5 (some .int) (gj_qI fun x S' M' => r = x ∧ S = S' ∧ M = M') 0 0 29 [(0, jR 79), (1, jI l1), (2, jI l2), (3, jI l3), (4, jI l4)] [] S M) (l1 l2 l3 l4 : Int) (hF : B_X12_pairs_29 M rec29 l1 l2 l3 l4 = some r) : gj_W G l 2 0 0 yX12_pairs cX12_pairs 5 (some .int) (gj_qI fun x S' M' => r = x ∧ S = S' ∧ M = M') 0 0 29 [(0, jR 79), (1, jI l1), (2, jI l2), (3, jI l3), (4, jI l4)] [] S M := by
  unfold B_X12_pairs_29 at hF
  refine gj_aload_n (q := 30) (gj_dk okX12_pairs 18 rfl) rfl rfl ?_
  refine gj_gZ (q := 33) (j := 18) (gj_dk okX12_pairs 19 rfl) ff_X12_260 (sh79 hst) (by decide) rfl rfl ?_
  refine gj_if_eq (q := 36) (tgt := 89) (gj_dk okX12_pairs 20 rfl) (by decide) rfl (fun c33 => ?_) (fun c33 => ?_)
  · -- 89
    replace hF := gj_ift c33 hF
    refine gj_iload_n (q := 90) (gj_dk okX12_pairs 51 rfl) rfl rfl ?_
    cases hF
    exact gj_iret (gj_dk okX12_pairs 52 rfl) rfl ⟨_, rfl, rfl, rfl, rfl⟩
  · -- 36
    replace hF := gj_iff c33 hF
    refine gj_iload (q := 38) (gj_dk okX12_pairs 21 rfl) rfl rfl ?_
    refine gj_aload_n (q := 39) (gj_dk okX12_pairs 22 rfl) rfl rfl ?_
    refine gj_gR (q := 42) (j := 13) (gj_dk okX12_pairs 23 rfl) ff_X12_37 (sh79 hst) (by decide) rfl (rf79_13 hst) rfl ?_
    refine gj_iconst (q := 43) (gj_dk okX12_pairs 24 rfl) (by decide) rfl ?_
    refine gj_aald (q := 44) (gj_dk okX12_pairs 25 rfl) (sh100 hst) (by decide) (by decide) (by decide) (rf100_0 hst) rfl ?_
    refine gj_iconst (q := 45) (gj_dk okX12_pairs 26 rfl) (by decide) rfl ?_
    refine gj_iald (q := 46) (gj_dk okX12_pairs 27 rfl) (sh101 hst) (by decide) (by decide) rfl ?_
    refine gj_icmp_ge (q := 49) (tgt := 89) (gj_dk okX12_pairs 28 rfl) (by decide) rfl (fun c46 => ?_) (fun c46 => ?_)
    · -- 89
      replace hF := gj_ift c46 hF
      refine gj_iload_n (q := 90) (gj_dk okX12_pairs 51 rfl) rfl rfl ?_
      cases hF
      exact gj_iret (gj_dk okX12_pairs 52 rfl) rfl ⟨_, rfl, rfl, rfl, rfl⟩
    · -- 49
      replace hF := gj_iff c46 hF
      refine gj_iload_n (q := 50) (gj_dk okX12_pairs 29 rfl) rfl rfl ?_
      refine gj_aload_n (q := 51) (gj_dk okX12_pairs 30 rfl) rfl rfl ?_
      refine gj_gR (q := 54) (j := 20) (gj_dk okX12_pairs 31 rfl) ff_X12_77 (sh79 hst) (by decide) rfl (rf79_20 hst) rfl ?_
      refine gj_iload (q := 56) (gj_dk okX12_pairs 32 rfl) rfl rfl ?_
      obtain ⟨b3, hF⟩ := gj_ckd hF
      refine gj_iald (q := 57) (gj_dk okX12_pairs 33 rfl) (sh108 hst) b3.1 b3.2 rfl ?_
      refine gj_iconst (q := 58) (gj_dk okX12_pairs 34 rfl) (by decide) rfl ?_
      refine gj_icmp_eq (q := 61) (tgt := 80) (gj_dk okX12_pairs 35 rfl) (by decide) rfl (fun c58 => ?_) (fun c58 => ?_)
      · -- 80
        replace hF := gj_ift c58 hF
        refine gj_iconst (q := 81) (gj_dk okX12_pairs 46 rfl) (by decide) rfl ?_
        refine gj_sub [(0, jR 79), (1, jI l1), (2, jI l2), (4, jI l4)] ⟨rfl, rfl, rfl, rfl, trivial⟩ ?_
        exact t_J_X12_pairs_81 hst hrec29 l1 l2 l4 l3 0 hF
      · -- 61
        replace hF := gj_iff c58 hF
        refine gj_iload_n (q := 62) (gj_dk okX12_pairs 36 rfl) rfl rfl ?_
        refine gj_if_eq (q := 65) (tgt := 76) (gj_dk okX12_pairs 37 rfl) (by decide) rfl (fun c62 => ?_) (fun c62 => ?_)
        · -- 76
          replace hF := gj_ift c62 hF
          refine gj_iconst (q := 77) (gj_dk okX12_pairs 44 rfl) (by decide) rfl ?_
          refine gj_goto (tgt := 81) (gj_dk okX12_pairs 45 rfl) (by decide) ?_
          refine gj_sub [(0, jR 79), (1, jI l1), (2, jI l2), (4, jI l4)] ⟨rfl, rfl, rfl, rfl, trivial⟩ ?_
          exact t_J_X12_pairs_81 hst hrec29 l1 l2 l4 l3 1 hF
        · -- 65
          replace hF := gj_iff c62 hF
          refine gj_aload_n (q := 66) (gj_dk okX12_pairs 38 rfl) rfl rfl ?_
          refine gj_gR (q := 69) (j := 22) (gj_dk okX12_pairs 39 rfl) ff_X12_83 (sh79 hst) (by decide) rfl (rf79_22 hst) rfl ?_
          refine gj_iload (q := 71) (gj_dk okX12_pairs 40 rfl) rfl rfl ?_
          obtain ⟨b4, hF⟩ := gj_ckd hF
          refine gj_iald (q := 72) (gj_dk okX12_pairs 41 rfl) (sh110 hst) b4.1 b4.2 rfl ?_
          refine gj_iload_n (q := 73) (gj_dk okX12_pairs 42 rfl) rfl rfl ?_
          refine gj_icmp_lt (q := 76) (tgt := 80) (gj_dk okX12_pairs 43 rfl) (by decide) rfl (fun c73 => ?_) (fun c73 => ?_)
          · -- 80
            replace hF := gj_ift c73 hF
            refine gj_iconst (q := 81) (gj_dk okX12_pairs 46 rfl) (by decide) rfl ?_
            refine gj_sub [(0, jR 79), (1, jI l1), (2, jI l2), (4, jI l4)] ⟨rfl, rfl, rfl, rfl, trivial⟩ ?_
            exact t_J_X12_pairs_81 hst hrec29 l1 l2 l4 l3 0 hF
          · -- 76
            replace hF := gj_iff c73 hF
            refine gj_iconst (q := 77) (gj_dk okX12_pairs 44 rfl) (by decide) rfl ?_
            refine gj_goto (tgt := 81) (gj_dk okX12_pairs 45 rfl) (by decide) ?_
            refine gj_sub [(0, jR 79), (1, jI l1), (2, jI l2), (4, jI l4)] ⟨rfl, rfl, rfl, rfl, trivial⟩ ?_
            exact t_J_X12_pairs_81 hst hrec29 l1 l2 l4 l3 1 hF
theorem t_L_X12_pairs_29 (hst : gj_Stat S) {r : Int} : ∀ (m : Nat) (l1 : Int) (l2 : Int) (l3 : Int) (l4 : Int), gj_it (fun _ _ _ _ => none) (B_X12_pairs_29 M) m l1 l2 l3 l4 = some r → gj_W G l 2 0 0 yX12_pairs cX12_pairs 5 (some .int) (gj_qI fun x S' M' => r = x ∧ S = S' ∧ M = M') 0 0 29 [(0, jR 79), (1, jI l1), (2, jI l2), (3, jI l3), (4, jI l4)] [] S M := by
  intro m
  induction m with
  | zero => intro l1 l2 l3 l4 hF; cases (show (none : Option (Int)) = some r from hF)
  | succ m ih => intro l1 l2 l3 l4 hF; exact t_B_X12_pairs_29 hst (fun l1 l2 l3 l4 h => ih l1 l2 l3 l4 h) l1 l2 l3 l4 hF
set_option maxHeartbeats 4000000 in
set_option maxRecDepth 20000 in
theorem t_X12_pairs (hst : gj_Stat S) (a1 a2 : Int) {r : Int} (hF : F_X12_pairs a1 a2 M = some r) : gj_C G l 2 0 0 yX12_pairs cX12_pairs 5 (some .int) [jR 79, jI a1, jI a2] S M (gj_qI fun x S' M' => r = x ∧ S = S' ∧ M = M') := by
  refine gj_Cof (by decide +kernel) (Nat.le_of_ble_eq_true rfl) ?_
  change gj_W G l 2 0 0 yX12_pairs cX12_pairs 5 (some .int) (gj_qI fun x S' M' => r = x ∧ S = S' ∧ M = M') 0 0 0 [(0, jR 79), (1, jI a1), (2, jI a2)] [] S M
  unfold F_X12_pairs at hF
  refine gj_iload_n (q := 1) (gj_dk okX12_pairs 0 rfl) rfl rfl ?_
  refine gj_i2l (q := 2) (gj_dk okX12_pairs 1 rfl) rfl ?_
  refine gj_lconst (q := 3) (z := 0) (gj_dk okX12_pairs 2 rfl) rfl (by decide) rfl ?_
  refine gj_lconst (q := 4) (z := 1) (gj_dk okX12_pairs 3 rfl) rfl (by decide) rfl ?_
  refine gj_callS (q := 7) [jL a2, jL 0, jL 1] rfl (t_X12_in hst a2 0 1 rfl) (gj_dk okX12_pairs 4 rfl) ml_X12_158 me_X12_in (gj_nm rfl) rfl (gj_kI fun x S2 M2 h => ?_)
  obtain ⟨bz, e, eS, eM⟩ := h; subst eS; subst eM; subst e
  refine gj_stpZ bz hF (fun x1 bx1 hF => ?_)
  refine gj_if_eq (q := 10) (tgt := 22) (gj_dk okX12_pairs 5 rfl) (by decide) rfl (fun c7 => ?_) (fun c7 => ?_)
  · -- 22
    replace hF := gj_ift c7 hF
    refine gj_iconst (q := 23) (gj_dk okX12_pairs 12 rfl) (by decide) rfl ?_
    cases hF
    exact gj_iret (gj_dk okX12_pairs 13 rfl) rfl ⟨_, rfl, rfl, rfl, rfl⟩
  · -- 10
    replace hF := gj_iff c7 hF
    refine gj_iload_n (q := 11) (gj_dk okX12_pairs 6 rfl) rfl rfl ?_
    refine gj_i2l (q := 12) (gj_dk okX12_pairs 7 rfl) rfl ?_
    refine gj_lconst (q := 13) (z := 0) (gj_dk okX12_pairs 8 rfl) rfl (by decide) rfl ?_
    refine gj_ldc2 (q := 16) (z := 100) (gj_dk okX12_pairs 9 rfl) kl_X12_441 (by decide) rfl ?_
    refine gj_callS (q := 19) [jL a1, jL 0, jL 100] rfl (t_X12_in hst a1 0 100 rfl) (gj_dk okX12_pairs 10 rfl) ml_X12_158 me_X12_in (gj_nm rfl) rfl (gj_kI fun x S2 M2 h => ?_)
    obtain ⟨bz, e, eS, eM⟩ := h; subst eS; subst eM; subst e
    refine gj_stpZ bz hF (fun x2 bx2 hF => ?_)
    refine gj_if_ne (q := 22) (tgt := 24) (gj_dk okX12_pairs 11 rfl) (by decide) rfl (fun c19 => ?_) (fun c19 => ?_)
    · -- 24
      replace hF := gj_iff c19 hF
      refine gj_iconst (q := 25) (gj_dk okX12_pairs 14 rfl) (by decide) rfl ?_
      refine gj_istore_n (q := 26) (gj_dk okX12_pairs 15 rfl) (by decide) rfl ?_
      refine gj_iconst (q := 27) (gj_dk okX12_pairs 16 rfl) (by decide) rfl ?_
      refine gj_istore (q := 29) (gj_dk okX12_pairs 17 rfl) (by decide) rfl ?_
      refine gj_sub [(0, jR 79), (1, jI a1), (2, jI a2), (3, jI 0), (4, jI 0)] ⟨rfl, rfl, rfl, rfl, rfl, trivial⟩ ?_
      exact t_L_X12_pairs_29 hst gj_fu a1 a2 0 0 hF
    · -- 22
      replace hF := gj_ift c19 hF
      refine gj_iconst (q := 23) (gj_dk okX12_pairs 12 rfl) (by decide) rfl ?_
      cases hF
      exact gj_iret (gj_dk okX12_pairs 13 rfl) rfl ⟨_, rfl, rfl, rfl, rfl⟩
def J_X12_move_37 (z1 n1 : Int) (z2 n2 : Int) (rec3 : Int → Int → gj_M → Option (gj_M)) (l3 l4 : Int) (M : gj_M) : Option (gj_M) :=
  gj_let (gj_up M 79 54 (gj_w ((M 79 54) + 1))) (fun M7 => rec3 l3 (gj_w (l4 + 1)) M7)
def B_X12_move_3 (z1 n1 : Int) (z2 n2 : Int) (rec3 : Int → Int → gj_M → Option (gj_M)) (l3 l4 : Int) (M : gj_M) : Option (gj_M) :=
  (if n1 ≤ l4 then (some (M)) else (if l3 = 0 then gj_chk (0 ≤ M 79 54 ∧ M 79 54 < n2) (gj_chk (0 ≤ l4 ∧ l4 < n1) (gj_let (gj_up M z1 l4 (M z2 (M 79 54))) (fun M3 => (J_X12_move_37 z1 n1 z2 n2 rec3 l3 l4 M3)))) else gj_chk (0 ≤ l4 ∧ l4 < n1) (gj_chk (0 ≤ M 79 54 ∧ M 79 54 < n2) (gj_let (gj_up M z2 (M 79 54) (M z1 l4)) (fun M6 => (J_X12_move_37 z1 n1 z2 n2 rec3 l3 l4 M6))))))
def F_X12_move (z1 : Int) (n1 : Int) (z2 : Int) (n2 : Int) (a3 : Int) (M : gj_M) : Option (gj_M) :=
  (gj_it (fun _ _ _ => none) (B_X12_move_3 z1 n1 z2 n2) gj_fu a3 0 M)
set_option maxHeartbeats 4000000 in
set_option maxRecDepth 20000 in
theorem t_J_X12_move_37 (hst : gj_Stat S) {z1 n1 : Int} (hz1 : S.2.1 z1 = (0, n1)) (hz1p : 0 ≤ z1) (hz1n : 0 ≤ n1 ∧ n1 < 2147483648) {z2 n2 : Int} (hz2 : S.2.1 z2 = (0, n2)) (hz2p : 0 ≤ z2) (hz2n : 0 ≤ n2 ∧ n2 < 2147483648) {r : gj_M} {rec3 : Int → Int → gj_M → Option (gj_M)} (hrec3 : ∀ (l3 l4 : Int) (M : gj_M), rec3 l3 l4 M = some r → gj_W G l 1 0 0 yX12_move cX12_move 5 none (gj_qV fun S' M' => S = S' ∧ r = M') 0 0 3 [(0, jR 79), (1, jR z1), (2, jR z2), (3, jI l3), (4, jI l4)] [] S M) (l3 l4 : Int) (M : gj_M) (hF : J_X12_move_37 z1 n1 z2 n2 rec3 l3 l4 M = some r) : gj_W G l 1 0 0 yX12_move cX12_move 5 none (gj_qV fun S' M' => S = S' ∧ r = M') 0 0 37 [(0, jR 79), (1, jR z1), (2, jR z2), (3, jI l3), (4, jI l4)] [] S M := by
  unfold J_X12_move_37 at hF
  refine gj_aload_n (q := 38) (gj_dk okX12_move 23 rfl) rfl rfl ?_
  refine gj_dup (q := 39) (gj_dk okX12_move 24 rfl) rfl rfl ?_
  refine gj_gI (q := 42) (j := 54) (gj_dk okX12_move 25 rfl) ff_X12_447 (sh79 hst) (by decide) rfl rfl ?_
  refine gj_iconst (q := 43) (gj_dk okX12_move 26 rfl) (by decide) rfl ?_
  refine gj_iadd (q := 44) (gj_dk okX12_move 27 rfl) rfl ?_
  refine gj_pfI (q := 47) (j := 54) (gj_dk okX12_move 28 rfl) ff_X12_447 (sh79 hst) (by decide) rfl rfl ?_
  refine gj_stp hF (fun M7 hF => ?_)
  refine gj_iinc (q := 50) (v := gj_w (l4 + 1)) (gj_dk okX12_move 29 rfl) rfl (by decide) rfl rfl ?_
  refine gj_goto (tgt := 3) (gj_dk okX12_move 30 rfl) (by decide) ?_
  refine gj_sub [(0, jR 79), (1, jR z1), (2, jR z2), (3, jI l3), (4, jI (gj_w (l4 + 1)))] ⟨rfl, rfl, rfl, rfl, rfl, trivial⟩ ?_
  exact hrec3 l3 (gj_w (l4 + 1)) M7 hF
set_option maxHeartbeats 4000000 in
set_option maxRecDepth 20000 in
theorem t_B_X12_move_3 (hst : gj_Stat S) {z1 n1 : Int} (hz1 : S.2.1 z1 = (0, n1)) (hz1p : 0 ≤ z1) (hz1n : 0 ≤ n1 ∧ n1 < 2147483648) {z2 n2 : Int} (hz2 : S.2.1 z2 = (0, n2)) (hz2p : 0 ≤ z2) (hz2n : 0 ≤ n2 ∧ n2 < 2147483648) {r : gj_M} {rec3 : Int → Int → gj_M → Option (gj_M)} (hrec3 : ∀ (l3 l4 : Int) (M : gj_M), rec3 l3 l4 M = some r → gj_W G l 1 0 0 yX12_move cX12_move 5 none (gj_qV fun S' M' => S = S' ∧ r = M') 0 0 3 [(0, jR 79), (1, jR z1), (2, jR z2), (3, jI l3), (4, jI l4)] [] S M) (l3 l4 : Int) (M : gj_M) (hF : B_X12_move_3 z1 n1 z2 n2 rec3 l3 l4 M = some r) : gj_W G l 1 0 0 yX12_move cX12_move 5 none (gj_qV fun S' M' => S = S' ∧ r = M') 0 0 3 [(0, jR 79), (1, jR z1), (2, jR z2), (3, jI l3), (4, jI l4)] [] S M := by
  unfold B_X12_move_3 at hF
  refine gj_iload (q := 5) (gj_dk okX12_move 2 rfl) rfl rfl ?_
  refine gj_aload_n (q := 6) (gj_dk okX12_move 3 rfl) rfl rfl ?_
  refine gj_alen (q := 7) (gj_dk okX12_move 4 rfl) hz1 (by decide) rfl ?_
  refine gj_icmp_ge (q := 10) (tgt := 53) (gj_dk okX12_move 5 rfl) (by decide) rfl (fun c7 => ?_) (fun c7 => ?_)
  · -- 53
    replace hF := gj_ift c7 hF
    cases hF
    exact gj_vret (gj_dk okX12_move 31 rfl) rfl ⟨rfl, rfl, rfl⟩
  · -- 10
    replace hF := gj_iff c7 hF
    refine gj_iload_n (q := 11) (gj_dk okX12_move 6 rfl) rfl rfl ?_
    refine gj_if_eq (q := 14) (tgt := 27) (gj_dk okX12_move 7 rfl) (by decide) rfl (fun c11 => ?_) (fun c11 => ?_)
    · -- 27
      replace hF := gj_ift c11 hF
      refine gj_aload_n (q := 28) (gj_dk okX12_move 16 rfl) rfl rfl ?_
      refine gj_iload (q := 30) (gj_dk okX12_move 17 rfl) rfl rfl ?_
      refine gj_aload_n (q := 31) (gj_dk okX12_move 18 rfl) rfl rfl ?_
      refine gj_aload_n (q := 32) (gj_dk okX12_move 19 rfl) rfl rfl ?_
      refine gj_gI (q := 35) (j := 54) (gj_dk okX12_move 20 rfl) ff_X12_447 (sh79 hst) (by decide) rfl rfl ?_
      obtain ⟨b1, hF⟩ := gj_ckd hF
      refine gj_iald (q := 36) (gj_dk okX12_move 21 rfl) hz2 b1.1 b1.2 rfl ?_
      obtain ⟨b2, hF⟩ := gj_ckd hF
      refine gj_iast (q := 37) (gj_dk okX12_move 22 rfl) hz1 b2.1 b2.2 rfl ?_
      refine gj_stp hF (fun M3 hF => ?_)
      refine gj_sub [(0, jR 79), (1, jR z1), (2, jR z2), (3, jI l3), (4, jI l4)] ⟨rfl, rfl, rfl, rfl, rfl, trivial⟩ ?_
      exact t_J_X12_move_37 hst hz1 hz1p hz1n hz2 hz2p hz2n hrec3 l3 l4 M3 hF
    · -- 14
      replace hF := gj_iff c11 hF
      refine gj_aload_n (q := 15) (gj_dk okX12_move 8 rfl) rfl rfl ?_
      refine gj_aload_n (q := 16) (gj_dk okX12_move 9 rfl) rfl rfl ?_
      refine gj_gI (q := 19) (j := 54) (gj_dk okX12_move 10 rfl) ff_X12_447 (sh79 hst) (by decide) rfl rfl ?_
      refine gj_aload_n (q := 20) (gj_dk okX12_move 11 rfl) rfl rfl ?_
      refine gj_iload (q := 22) (gj_dk okX12_move 12 rfl) rfl rfl ?_
      obtain ⟨b4, hF⟩ := gj_ckd hF
      refine gj_iald (q := 23) (gj_dk okX12_move 13 rfl) hz1 b4.1 b4.2 rfl ?_
      obtain ⟨b5, hF⟩ := gj_ckd hF
      refine gj_iast (q := 24) (gj_dk okX12_move 14 rfl) hz2 b5.1 b5.2 rfl ?_
      refine gj_stp hF (fun M6 hF => ?_)
      refine gj_goto (tgt := 37) (gj_dk okX12_move 15 rfl) (by decide) ?_
      refine gj_sub [(0, jR 79), (1, jR z1), (2, jR z2), (3, jI l3), (4, jI l4)] ⟨rfl, rfl, rfl, rfl, rfl, trivial⟩ ?_
      exact t_J_X12_move_37 hst hz1 hz1p hz1n hz2 hz2p hz2n hrec3 l3 l4 M6 hF
theorem t_L_X12_move_3 (hst : gj_Stat S) {z1 n1 : Int} (hz1 : S.2.1 z1 = (0, n1)) (hz1p : 0 ≤ z1) (hz1n : 0 ≤ n1 ∧ n1 < 2147483648) {z2 n2 : Int} (hz2 : S.2.1 z2 = (0, n2)) (hz2p : 0 ≤ z2) (hz2n : 0 ≤ n2 ∧ n2 < 2147483648) {r : gj_M} : ∀ (m : Nat) (l3 : Int) (l4 : Int) (M : gj_M), gj_it (fun _ _ _ => none) (B_X12_move_3 z1 n1 z2 n2) m l3 l4 M = some r → gj_W G l 1 0 0 yX12_move cX12_move 5 none (gj_qV fun S' M' => S = S' ∧ r = M') 0 0 3 [(0, jR 79), (1, jR z1), (2, jR z2), (3, jI l3), (4, jI l4)] [] S M := by
  intro m
  induction m with
  | zero => intro l3 l4 M hF; cases (show (none : Option (gj_M)) = some r from hF)
  | succ m ih => intro l3 l4 M hF; exact t_B_X12_move_3 hst hz1 hz1p hz1n hz2 hz2p hz2n (fun l3 l4 M h => ih l3 l4 M h) l3 l4 M hF
set_option maxHeartbeats 4000000 in
set_option maxRecDepth 20000 in
theorem t_X12_move (hst : gj_Stat S) {z1 n1 : Int} (hz1 : S.2.1 z1 = (0, n1)) (hz1p : 0 ≤ z1) (hz1n : 0 ≤ n1 ∧ n1 < 2147483648) {z2 n2 : Int} (hz2 : S.2.1 z2 = (0, n2)) (hz2p : 0 ≤ z2) (hz2n : 0 ≤ n2 ∧ n2 < 2147483648) (a3 : Int) {r : gj_M} (hF : F_X12_move z1 n1 z2 n2 a3 M = some r) : gj_C G l 1 0 0 yX12_move cX12_move 5 none [jR 79, jR z1, jR z2, jI a3] S M (gj_qV fun S' M' => S = S' ∧ r = M') := by
  refine gj_Cof (by decide +kernel) (Nat.le_of_ble_eq_true rfl) ?_
  change gj_W G l 1 0 0 yX12_move cX12_move 5 none (gj_qV fun S' M' => S = S' ∧ r = M') 0 0 0 [(0, jR 79), (1, jR z1), (2, jR z2), (3, jI a3)] [] S M
  unfold F_X12_move at hF
  refine gj_iconst (q := 1) (gj_dk okX12_move 0 rfl) (by decide) rfl ?_
  refine gj_istore (q := 3) (gj_dk okX12_move 1 rfl) (by decide) rfl ?_
  refine gj_sub [(0, jR 79), (1, jR z1), (2, jR z2), (3, jI a3), (4, jI 0)] ⟨rfl, rfl, rfl, rfl, rfl, trivial⟩ ?_
  exact t_L_X12_move_3 hst hz1 hz1p hz1n hz2 hz2p hz2n gj_fu a3 0 M hF
def F_X12_moves (z1 : Int) (n1 : Int) (a2 : Int) (M : gj_M) : Option (gj_M) :=
  gj_let (gj_up M 79 54 4) (fun M1 => gj_bnd (F_X12_move 108 8 z1 n1 a2 M1) (fun M3 => gj_bnd (F_X12_move 109 8 z1 n1 a2 M3) (fun M5 => gj_bnd (F_X12_move 110 8 z1 n1 a2 M5) (fun M7 => gj_bnd (F_X12_move 111 8 z1 n1 a2 M7) (fun M9 => gj_bnd (F_X12_move 112 16 z1 n1 a2 M9) (fun M11 => gj_bnd (F_X12_move 113 16 z1 n1 a2 M11) (fun M13 => gj_bnd (F_X12_move 114 16 z1 n1 a2 M13) (fun M15 => gj_bnd (F_X12_move 122 200 z1 n1 a2 M15) (fun M17 => (some (M17)))))))))))
set_option maxHeartbeats 4000000 in
set_option maxRecDepth 20000 in
theorem t_X12_moves (hst : gj_Stat S) {z1 n1 : Int} (hz1 : S.2.1 z1 = (0, n1)) (hz1p : 0 ≤ z1) (hz1n : 0 ≤ n1 ∧ n1 < 2147483648) (a2 : Int) {r : gj_M} (hF : F_X12_moves z1 n1 a2 M = some r) : gj_C G l 2 0 0 yX12_moves cX12_moves 3 none [jR 79, jR z1, jI a2] S M (gj_qV fun S' M' => S = S' ∧ r = M') := by
  refine gj_Cof (by decide +kernel) (Nat.le_of_ble_eq_true rfl) ?_
  change gj_W G l 2 0 0 yX12_moves cX12_moves 3 none (gj_qV fun S' M' => S = S' ∧ r = M') 0 0 0 [(0, jR 79), (1, jR z1), (2, jI a2)] [] S M
  unfold F_X12_moves at hF
  refine gj_aload_n (q := 1) (gj_dk okX12_moves 0 rfl) rfl rfl ?_
  refine gj_iconst (q := 2) (gj_dk okX12_moves 1 rfl) (by decide) rfl ?_
  refine gj_pfI (q := 5) (j := 54) (gj_dk okX12_moves 2 rfl) ff_X12_447 (sh79 hst) (by decide) rfl rfl ?_
  refine gj_stp hF (fun M1 hF => ?_)
  refine gj_aload_n (q := 6) (gj_dk okX12_moves 3 rfl) rfl rfl ?_
  refine gj_aload_n (q := 7) (gj_dk okX12_moves 4 rfl) rfl rfl ?_
  refine gj_gR (q := 10) (j := 20) (gj_dk okX12_moves 5 rfl) ff_X12_77 (sh79 hst) (by decide) rfl (rf79_20 hst) rfl ?_
  refine gj_aload_n (q := 11) (gj_dk okX12_moves 6 rfl) rfl rfl ?_
  refine gj_iload_n (q := 12) (gj_dk okX12_moves 7 rfl) rfl rfl ?_
  obtain ⟨M3, hG, hF⟩ := gj_bndd hF
  refine gj_callV (q := 15) (z := 79) (ci := 10) [jR 108, jR z1, jI a2] rfl (t_X12_move hst (sh108 hst) (by decide) (by decide) hz1 hz1p hz1n a2 hG) (gj_dk okX12_moves 8 rfl) ml_X12_450 me_X12_move (sh79 hst) rfl (gj_nm rfl) rfl (gj_kV fun S2 M2 h => ?_)
  obtain ⟨eS, eM⟩ := h; subst eS; subst eM; clear hG
  refine gj_aload_n (q := 16) (gj_dk okX12_moves 9 rfl) rfl rfl ?_
  refine gj_aload_n (q := 17) (gj_dk okX12_moves 10 rfl) rfl rfl ?_
  refine gj_gR (q := 20) (j := 21) (gj_dk okX12_moves 11 rfl) ff_X12_80 (sh79 hst) (by decide) rfl (rf79_21 hst) rfl ?_
  refine gj_aload_n (q := 21) (gj_dk okX12_moves 12 rfl) rfl rfl ?_
  refine gj_iload_n (q := 22) (gj_dk okX12_moves 13 rfl) rfl rfl ?_
  obtain ⟨M5, hG, hF⟩ := gj_bndd hF
  refine gj_callV (q := 25) (z := 79) (ci := 10) [jR 109, jR z1, jI a2] rfl (t_X12_move hst (sh109 hst) (by decide) (by decide) hz1 hz1p hz1n a2 hG) (gj_dk okX12_moves 14 rfl) ml_X12_450 me_X12_move (sh79 hst) rfl (gj_nm rfl) rfl (gj_kV fun S2 M2 h => ?_)
  obtain ⟨eS, eM⟩ := h; subst eS; subst eM; clear hG
  refine gj_aload_n (q := 26) (gj_dk okX12_moves 15 rfl) rfl rfl ?_
  refine gj_aload_n (q := 27) (gj_dk okX12_moves 16 rfl) rfl rfl ?_
  refine gj_gR (q := 30) (j := 22) (gj_dk okX12_moves 17 rfl) ff_X12_83 (sh79 hst) (by decide) rfl (rf79_22 hst) rfl ?_
  refine gj_aload_n (q := 31) (gj_dk okX12_moves 18 rfl) rfl rfl ?_
  refine gj_iload_n (q := 32) (gj_dk okX12_moves 19 rfl) rfl rfl ?_
  obtain ⟨M7, hG, hF⟩ := gj_bndd hF
  refine gj_callV (q := 35) (z := 79) (ci := 10) [jR 110, jR z1, jI a2] rfl (t_X12_move hst (sh110 hst) (by decide) (by decide) hz1 hz1p hz1n a2 hG) (gj_dk okX12_moves 20 rfl) ml_X12_450 me_X12_move (sh79 hst) rfl (gj_nm rfl) rfl (gj_kV fun S2 M2 h => ?_)
  obtain ⟨eS, eM⟩ := h; subst eS; subst eM; clear hG
  refine gj_aload_n (q := 36) (gj_dk okX12_moves 21 rfl) rfl rfl ?_
  refine gj_aload_n (q := 37) (gj_dk okX12_moves 22 rfl) rfl rfl ?_
  refine gj_gR (q := 40) (j := 23) (gj_dk okX12_moves 23 rfl) ff_X12_86 (sh79 hst) (by decide) rfl (rf79_23 hst) rfl ?_
  refine gj_aload_n (q := 41) (gj_dk okX12_moves 24 rfl) rfl rfl ?_
  refine gj_iload_n (q := 42) (gj_dk okX12_moves 25 rfl) rfl rfl ?_
  obtain ⟨M9, hG, hF⟩ := gj_bndd hF
  refine gj_callV (q := 45) (z := 79) (ci := 10) [jR 111, jR z1, jI a2] rfl (t_X12_move hst (sh111 hst) (by decide) (by decide) hz1 hz1p hz1n a2 hG) (gj_dk okX12_moves 26 rfl) ml_X12_450 me_X12_move (sh79 hst) rfl (gj_nm rfl) rfl (gj_kV fun S2 M2 h => ?_)
  obtain ⟨eS, eM⟩ := h; subst eS; subst eM; clear hG
  refine gj_aload_n (q := 46) (gj_dk okX12_moves 27 rfl) rfl rfl ?_
  refine gj_aload_n (q := 47) (gj_dk okX12_moves 28 rfl) rfl rfl ?_
  refine gj_gR (q := 50) (j := 24) (gj_dk okX12_moves 29 rfl) ff_X12_89 (sh79 hst) (by decide) rfl (rf79_24 hst) rfl ?_
  refine gj_aload_n (q := 51) (gj_dk okX12_moves 30 rfl) rfl rfl ?_
  refine gj_iload_n (q := 52) (gj_dk okX12_moves 31 rfl) rfl rfl ?_
  obtain ⟨M11, hG, hF⟩ := gj_bndd hF
  refine gj_callV (q := 55) (z := 79) (ci := 10) [jR 112, jR z1, jI a2] rfl (t_X12_move hst (sh112 hst) (by decide) (by decide) hz1 hz1p hz1n a2 hG) (gj_dk okX12_moves 32 rfl) ml_X12_450 me_X12_move (sh79 hst) rfl (gj_nm rfl) rfl (gj_kV fun S2 M2 h => ?_)
  obtain ⟨eS, eM⟩ := h; subst eS; subst eM; clear hG
  refine gj_aload_n (q := 56) (gj_dk okX12_moves 33 rfl) rfl rfl ?_
  refine gj_aload_n (q := 57) (gj_dk okX12_moves 34 rfl) rfl rfl ?_
  refine gj_gR (q := 60) (j := 25) (gj_dk okX12_moves 35 rfl) ff_X12_92 (sh79 hst) (by decide) rfl (rf79_25 hst) rfl ?_
  refine gj_aload_n (q := 61) (gj_dk okX12_moves 36 rfl) rfl rfl ?_
  refine gj_iload_n (q := 62) (gj_dk okX12_moves 37 rfl) rfl rfl ?_
  obtain ⟨M13, hG, hF⟩ := gj_bndd hF
  refine gj_callV (q := 65) (z := 79) (ci := 10) [jR 113, jR z1, jI a2] rfl (t_X12_move hst (sh113 hst) (by decide) (by decide) hz1 hz1p hz1n a2 hG) (gj_dk okX12_moves 38 rfl) ml_X12_450 me_X12_move (sh79 hst) rfl (gj_nm rfl) rfl (gj_kV fun S2 M2 h => ?_)
  obtain ⟨eS, eM⟩ := h; subst eS; subst eM; clear hG
  refine gj_aload_n (q := 66) (gj_dk okX12_moves 39 rfl) rfl rfl ?_
  refine gj_aload_n (q := 67) (gj_dk okX12_moves 40 rfl) rfl rfl ?_
  refine gj_gR (q := 70) (j := 26) (gj_dk okX12_moves 41 rfl) ff_X12_95 (sh79 hst) (by decide) rfl (rf79_26 hst) rfl ?_
  refine gj_aload_n (q := 71) (gj_dk okX12_moves 42 rfl) rfl rfl ?_
  refine gj_iload_n (q := 72) (gj_dk okX12_moves 43 rfl) rfl rfl ?_
  obtain ⟨M15, hG, hF⟩ := gj_bndd hF
  refine gj_callV (q := 75) (z := 79) (ci := 10) [jR 114, jR z1, jI a2] rfl (t_X12_move hst (sh114 hst) (by decide) (by decide) hz1 hz1p hz1n a2 hG) (gj_dk okX12_moves 44 rfl) ml_X12_450 me_X12_move (sh79 hst) rfl (gj_nm rfl) rfl (gj_kV fun S2 M2 h => ?_)
  obtain ⟨eS, eM⟩ := h; subst eS; subst eM; clear hG
  refine gj_aload_n (q := 76) (gj_dk okX12_moves 45 rfl) rfl rfl ?_
  refine gj_aload_n (q := 77) (gj_dk okX12_moves 46 rfl) rfl rfl ?_
  refine gj_gR (q := 80) (j := 42) (gj_dk okX12_moves 47 rfl) ff_X12_123 (sh79 hst) (by decide) rfl (rf79_42 hst) rfl ?_
  refine gj_aload_n (q := 81) (gj_dk okX12_moves 48 rfl) rfl rfl ?_
  refine gj_iload_n (q := 82) (gj_dk okX12_moves 49 rfl) rfl rfl ?_
  obtain ⟨M17, hG, hF⟩ := gj_bndd hF
  refine gj_callV (q := 85) (z := 79) (ci := 10) [jR 122, jR z1, jI a2] rfl (t_X12_move hst (sh122 hst) (by decide) (by decide) hz1 hz1p hz1n a2 hG) (gj_dk okX12_moves 50 rfl) ml_X12_450 me_X12_move (sh79 hst) rfl (gj_nm rfl) rfl (gj_kV fun S2 M2 h => ?_)
  obtain ⟨eS, eM⟩ := h; subst eS; subst eM; clear hG
  cases hF
  exact gj_vret (gj_dk okX12_moves 51 rfl) rfl ⟨rfl, rfl, rfl⟩
def F_X12_image (a1 : Int) (M : gj_M) : Option (Int × gj_M) :=
  gj_letI (f_X12_in a1 0 2 M) (fun x1 => (if x1 = 0 then gj_letI (f_X12_in a1 0 2 M) (fun x2 => (if x2 = 0 then gj_bnd2 (F_X12_deny 0 M) (fun x3 M4 => (some ((x3, M4)))) else gj_bnd2 (F_X12_deny 2 M) (fun x5 M6 => (some ((x5, M6)))))) else (if M 79 18 = 0 then gj_letI (f_X12_in a1 0 2 M) (fun x29 => (if x29 = 0 then gj_bnd2 (F_X12_deny 0 M) (fun x30 M31 => (some ((x30, M31)))) else gj_bnd2 (F_X12_deny 2 M) (fun x32 M33 => (some ((x32, M33)))))) else gj_chk (0 ≤ a1 ∧ a1 < 3) ((if a1 = 0 then gj_let (gj_up M 131 0 (M 79 27)) (fun M8 => gj_let (gj_up M8 131 1 (M8 79 28)) (fun M9 => gj_let (gj_up M9 131 2 (M9 79 29)) (fun M10 => gj_let (gj_up M10 134 0 (M10 79 30)) (fun M11 => gj_bnd (F_X12_moves 131 284 1 M11) (fun M13 => gj_let (gj_up M13 135 0 1) (fun M14 => (some ((1, M14))))))))) else (if a1 = 1 then gj_let (gj_up M 132 0 (M 79 27)) (fun M15 => gj_let (gj_up M15 132 1 (M15 79 28)) (fun M16 => gj_let (gj_up M16 132 2 (M16 79 29)) (fun M17 => gj_let (gj_up M17 134 1 (M17 79 30)) (fun M18 => gj_bnd (F_X12_moves 132 284 1 M18) (fun M20 => gj_let (gj_up M20 135 1 1) (fun M21 => (some ((1, M21))))))))) else gj_let (gj_up M 133 0 (M 79 27)) (fun M22 => gj_let (gj_up M22 133 1 (M22 79 28)) (fun M23 => gj_let (gj_up M23 133 2 (M23 79 29)) (fun M24 => gj_let (gj_up M24 134 2 (M24 79 30)) (fun M25 => gj_bnd (F_X12_moves 133 284 1 M25) (fun M27 => gj_let (gj_up M27 135 2 1) (fun M28 => (some ((1, M28)))))))))))))))
set_option maxHeartbeats 4000000 in
set_option maxRecDepth 20000 in
theorem t_X12_image (hst : gj_Stat S) (a1 : Int) {r : Int × gj_M} (hF : F_X12_image a1 M = some r) : gj_C G l 3 0 0 yX12_image cX12_image 2 (some .boolean) [jR 79, jI a1] S M (gj_qI fun x S' M' => (x = 0 ∨ x = 1) ∧ r.1 = x ∧ S = S' ∧ r.2 = M') := by
  refine gj_Cof (by decide +kernel) (Nat.le_of_ble_eq_true rfl) ?_
  change gj_W G l 3 0 0 yX12_image cX12_image 2 (some .boolean) (gj_qI fun x S' M' => (x = 0 ∨ x = 1) ∧ r.1 = x ∧ S = S' ∧ r.2 = M') 0 0 0 [(0, jR 79), (1, jI a1)] [] S M
  unfold F_X12_image at hF
  refine gj_iload_n (q := 1) (gj_dk okX12_image 0 rfl) rfl rfl ?_
  refine gj_i2l (q := 2) (gj_dk okX12_image 1 rfl) rfl ?_
  refine gj_lconst (q := 3) (z := 0) (gj_dk okX12_image 2 rfl) rfl (by decide) rfl ?_
  refine gj_ldc2 (q := 6) (z := 2) (gj_dk okX12_image 3 rfl) kl_X12_156 (by decide) rfl ?_
  refine gj_callS (q := 9) [jL a1, jL 0, jL 2] rfl (t_X12_in hst a1 0 2 rfl) (gj_dk okX12_image 4 rfl) ml_X12_158 me_X12_in (gj_nm rfl) rfl (gj_kI fun x S2 M2 h => ?_)
  obtain ⟨bz, e, eS, eM⟩ := h; subst eS; subst eM; subst e
  refine gj_stpZ bz hF (fun x1 bx1 hF => ?_)
  refine gj_if_eq (q := 12) (tgt := 19) (gj_dk okX12_image 5 rfl) (by decide) rfl (fun c9 => ?_) (fun c9 => ?_)
  · -- 19
    replace hF := gj_ift c9 hF
    refine gj_aload_n (q := 20) (gj_dk okX12_image 9 rfl) rfl rfl ?_
    refine gj_iload_n (q := 21) (gj_dk okX12_image 10 rfl) rfl rfl ?_
    refine gj_i2l (q := 22) (gj_dk okX12_image 11 rfl) rfl ?_
    refine gj_lconst (q := 23) (z := 0) (gj_dk okX12_image 12 rfl) rfl (by decide) rfl ?_
    refine gj_ldc2 (q := 26) (z := 2) (gj_dk okX12_image 13 rfl) kl_X12_156 (by decide) rfl ?_
    refine gj_callS (q := 29) [jL a1, jL 0, jL 2] rfl (t_X12_in hst a1 0 2 rfl) (gj_dk okX12_image 14 rfl) ml_X12_158 me_X12_in (gj_nm rfl) rfl (gj_kI fun x S2 M2 h => ?_)
    obtain ⟨bz, e, eS, eM⟩ := h; subst eS; subst eM; subst e
    refine gj_stpZ bz hF (fun x2 bx2 hF => ?_)
    refine gj_if_eq (q := 32) (tgt := 36) (gj_dk okX12_image 15 rfl) (by decide) rfl (fun c29 => ?_) (fun c29 => ?_)
    · -- 36
      replace hF := gj_ift c29 hF
      refine gj_iconst (q := 37) (gj_dk okX12_image 18 rfl) (by decide) rfl ?_
      obtain ⟨x3, M4, hG, hF⟩ := gj_bnd2d hF
      refine gj_callV (q := 40) (z := 79) (ci := 10) [jI 0] rfl (t_X12_deny hst 0 hG) (gj_dk okX12_image 19 rfl) ml_X12_173 me_X12_deny (sh79 hst) rfl (gj_nm rfl) rfl (gj_kI fun y S2 M2 h => ?_)
      obtain ⟨bx3, e, eS, eM⟩ := h; subst eS; subst eM; subst e; clear hG
      dsimp only at bx3 ⊢
      cases hF
      exact gj_zret (gj_dk okX12_image 20 rfl) rfl bx3 ⟨_, rfl, bx3, rfl, rfl, rfl⟩
    · -- 32
      replace hF := gj_iff c29 hF
      refine gj_iconst (q := 33) (gj_dk okX12_image 16 rfl) (by decide) rfl ?_
      refine gj_goto (tgt := 37) (gj_dk okX12_image 17 rfl) (by decide) ?_
      obtain ⟨x5, M6, hG, hF⟩ := gj_bnd2d hF
      refine gj_callV (q := 40) (z := 79) (ci := 10) [jI 2] rfl (t_X12_deny hst 2 hG) (gj_dk okX12_image 19 rfl) ml_X12_173 me_X12_deny (sh79 hst) rfl (gj_nm rfl) rfl (gj_kI fun y S2 M2 h => ?_)
      obtain ⟨bx5, e, eS, eM⟩ := h; subst eS; subst eM; subst e; clear hG
      dsimp only at bx5 ⊢
      cases hF
      exact gj_zret (gj_dk okX12_image 20 rfl) rfl bx5 ⟨_, rfl, bx5, rfl, rfl, rfl⟩
  · -- 12
    replace hF := gj_iff c9 hF
    refine gj_aload_n (q := 13) (gj_dk okX12_image 6 rfl) rfl rfl ?_
    refine gj_gZ (q := 16) (j := 18) (gj_dk okX12_image 7 rfl) ff_X12_260 (sh79 hst) (by decide) rfl rfl ?_
    refine gj_if_ne (q := 19) (tgt := 41) (gj_dk okX12_image 8 rfl) (by decide) rfl (fun c16 => ?_) (fun c16 => ?_)
    · -- 41
      replace hF := gj_iff c16 hF
      refine gj_aload_n (q := 42) (gj_dk okX12_image 21 rfl) rfl rfl ?_
      refine gj_gR (q := 45) (j := 51) (gj_dk okX12_image 22 rfl) ff_X12_147 (sh79 hst) (by decide) rfl (rf79_51 hst) rfl ?_
      refine gj_iload_n (q := 46) (gj_dk okX12_image 23 rfl) rfl rfl ?_
      obtain ⟨b7, hF⟩ := gj_ckd hF
      by_cases i46_0 : a1 = 0
      · replace hF := gj_ift i46_0 hF
        revert hF; subst i46_0; intro hF
        refine gj_aald (q := 47) (w := 131) (gj_dk okX12_image 24 rfl) (sh130 hst) (by decide) (by decide) (by decide) (rf130_0 hst) rfl ?_
        refine gj_iconst (q := 48) (gj_dk okX12_image 25 rfl) (by decide) rfl ?_
        refine gj_aload_n (q := 49) (gj_dk okX12_image 26 rfl) rfl rfl ?_
        refine gj_gI (q := 52) (j := 27) (gj_dk okX12_image 27 rfl) ff_X12_264 (sh79 hst) (by decide) rfl rfl ?_
        refine gj_iast (q := 53) (gj_dk okX12_image 28 rfl) (sh131 hst) (by decide) (by decide) rfl ?_
        refine gj_stp hF (fun M8 hF => ?_)
        refine gj_aload_n (q := 54) (gj_dk okX12_image 29 rfl) rfl rfl ?_
        refine gj_gR (q := 57) (j := 51) (gj_dk okX12_image 30 rfl) ff_X12_147 (sh79 hst) (by decide) rfl (rf79_51 hst) rfl ?_
        refine gj_iload_n (q := 58) (gj_dk okX12_image 31 rfl) rfl rfl ?_
        refine gj_aald (q := 59) (gj_dk okX12_image 32 rfl) (sh130 hst) (by decide) (by decide) (by decide) (rf130_0 hst) rfl ?_
        refine gj_iconst (q := 60) (gj_dk okX12_image 33 rfl) (by decide) rfl ?_
        refine gj_aload_n (q := 61) (gj_dk okX12_image 34 rfl) rfl rfl ?_
        refine gj_gI (q := 64) (j := 28) (gj_dk okX12_image 35 rfl) ff_X12_267 (sh79 hst) (by decide) rfl rfl ?_
        refine gj_iast (q := 65) (gj_dk okX12_image 36 rfl) (sh131 hst) (by decide) (by decide) rfl ?_
        refine gj_stp hF (fun M9 hF => ?_)
        refine gj_aload_n (q := 66) (gj_dk okX12_image 37 rfl) rfl rfl ?_
        refine gj_gR (q := 69) (j := 51) (gj_dk okX12_image 38 rfl) ff_X12_147 (sh79 hst) (by decide) rfl (rf79_51 hst) rfl ?_
        refine gj_iload_n (q := 70) (gj_dk okX12_image 39 rfl) rfl rfl ?_
        refine gj_aald (q := 71) (gj_dk okX12_image 40 rfl) (sh130 hst) (by decide) (by decide) (by decide) (rf130_0 hst) rfl ?_
        refine gj_iconst (q := 72) (gj_dk okX12_image 41 rfl) (by decide) rfl ?_
        refine gj_aload_n (q := 73) (gj_dk okX12_image 42 rfl) rfl rfl ?_
        refine gj_gI (q := 76) (j := 29) (gj_dk okX12_image 43 rfl) ff_X12_274 (sh79 hst) (by decide) rfl rfl ?_
        refine gj_iast (q := 77) (gj_dk okX12_image 44 rfl) (sh131 hst) (by decide) (by decide) rfl ?_
        refine gj_stp hF (fun M10 hF => ?_)
        refine gj_aload_n (q := 78) (gj_dk okX12_image 45 rfl) rfl rfl ?_
        refine gj_gR (q := 81) (j := 52) (gj_dk okX12_image 46 rfl) ff_X12_150 (sh79 hst) (by decide) rfl (rf79_52 hst) rfl ?_
        refine gj_iload_n (q := 82) (gj_dk okX12_image 47 rfl) rfl rfl ?_
        refine gj_aload_n (q := 83) (gj_dk okX12_image 48 rfl) rfl rfl ?_
        refine gj_gL (q := 86) (j := 30) (gj_dk okX12_image 49 rfl) ff_X12_270 (sh79 hst) (by decide) rfl rfl ?_
        refine gj_last (q := 87) (gj_dk okX12_image 50 rfl) (sh134 hst) (by decide) (by decide) rfl ?_
        refine gj_stp hF (fun M11 hF => ?_)
        refine gj_aload_n (q := 88) (gj_dk okX12_image 51 rfl) rfl rfl ?_
        refine gj_aload_n (q := 89) (gj_dk okX12_image 52 rfl) rfl rfl ?_
        refine gj_gR (q := 92) (j := 51) (gj_dk okX12_image 53 rfl) ff_X12_147 (sh79 hst) (by decide) rfl (rf79_51 hst) rfl ?_
        refine gj_iload_n (q := 93) (gj_dk okX12_image 54 rfl) rfl rfl ?_
        refine gj_aald (q := 94) (gj_dk okX12_image 55 rfl) (sh130 hst) (by decide) (by decide) (by decide) (rf130_0 hst) rfl ?_
        refine gj_iconst (q := 95) (gj_dk okX12_image 56 rfl) (by decide) rfl ?_
        obtain ⟨M13, hG, hF⟩ := gj_bndd hF
        refine gj_callV (q := 98) (z := 79) (ci := 10) [jR 131, jI 1] rfl (t_X12_moves hst (sh131 hst) (by decide) (by decide) 1 hG) (gj_dk okX12_image 57 rfl) ml_X12_454 me_X12_moves (sh79 hst) rfl (gj_nm rfl) rfl (gj_kV fun S2 M2 h => ?_)
        obtain ⟨eS, eM⟩ := h; subst eS; subst eM; clear hG
        refine gj_aload_n (q := 99) (gj_dk okX12_image 58 rfl) rfl rfl ?_
        refine gj_gR (q := 102) (j := 53) (gj_dk okX12_image 59 rfl) ff_X12_153 (sh79 hst) (by decide) rfl (rf79_53 hst) rfl ?_
        refine gj_iload_n (q := 103) (gj_dk okX12_image 60 rfl) rfl rfl ?_
        refine gj_iconst (q := 104) (gj_dk okX12_image 61 rfl) (by decide) rfl ?_
        refine gj_zast (q := 105) (gj_dk okX12_image 62 rfl) (sh135 hst) (by decide) (by decide) (by decide) rfl ?_
        refine gj_stp hF (fun M14 hF => ?_)
        refine gj_iconst (q := 106) (gj_dk okX12_image 63 rfl) (by decide) rfl ?_
        cases hF
        exact gj_zret (gj_dk okX12_image 64 rfl) rfl (by decide) ⟨_, rfl, (by decide), rfl, rfl, rfl⟩
      replace hF := gj_iff i46_0 hF
      by_cases i46_1 : a1 = 1
      · replace hF := gj_ift i46_1 hF
        revert hF; subst i46_1; intro hF
        refine gj_aald (q := 47) (w := 132) (gj_dk okX12_image 24 rfl) (sh130 hst) (by decide) (by decide) (by decide) (rf130_1 hst) rfl ?_
        refine gj_iconst (q := 48) (gj_dk okX12_image 25 rfl) (by decide) rfl ?_
        refine gj_aload_n (q := 49) (gj_dk okX12_image 26 rfl) rfl rfl ?_
        refine gj_gI (q := 52) (j := 27) (gj_dk okX12_image 27 rfl) ff_X12_264 (sh79 hst) (by decide) rfl rfl ?_
        refine gj_iast (q := 53) (gj_dk okX12_image 28 rfl) (sh132 hst) (by decide) (by decide) rfl ?_
        refine gj_stp hF (fun M15 hF => ?_)
        refine gj_aload_n (q := 54) (gj_dk okX12_image 29 rfl) rfl rfl ?_
        refine gj_gR (q := 57) (j := 51) (gj_dk okX12_image 30 rfl) ff_X12_147 (sh79 hst) (by decide) rfl (rf79_51 hst) rfl ?_
        refine gj_iload_n (q := 58) (gj_dk okX12_image 31 rfl) rfl rfl ?_
        refine gj_aald (q := 59) (gj_dk okX12_image 32 rfl) (sh130 hst) (by decide) (by decide) (by decide) (rf130_1 hst) rfl ?_
        refine gj_iconst (q := 60) (gj_dk okX12_image 33 rfl) (by decide) rfl ?_
        refine gj_aload_n (q := 61) (gj_dk okX12_image 34 rfl) rfl rfl ?_
        refine gj_gI (q := 64) (j := 28) (gj_dk okX12_image 35 rfl) ff_X12_267 (sh79 hst) (by decide) rfl rfl ?_
        refine gj_iast (q := 65) (gj_dk okX12_image 36 rfl) (sh132 hst) (by decide) (by decide) rfl ?_
        refine gj_stp hF (fun M16 hF => ?_)
        refine gj_aload_n (q := 66) (gj_dk okX12_image 37 rfl) rfl rfl ?_
        refine gj_gR (q := 69) (j := 51) (gj_dk okX12_image 38 rfl) ff_X12_147 (sh79 hst) (by decide) rfl (rf79_51 hst) rfl ?_
        refine gj_iload_n (q := 70) (gj_dk okX12_image 39 rfl) rfl rfl ?_
        refine gj_aald (q := 71) (gj_dk okX12_image 40 rfl) (sh130 hst) (by decide) (by decide) (by decide) (rf130_1 hst) rfl ?_
        refine gj_iconst (q := 72) (gj_dk okX12_image 41 rfl) (by decide) rfl ?_
        refine gj_aload_n (q := 73) (gj_dk okX12_image 42 rfl) rfl rfl ?_
        refine gj_gI (q := 76) (j := 29) (gj_dk okX12_image 43 rfl) ff_X12_274 (sh79 hst) (by decide) rfl rfl ?_
        refine gj_iast (q := 77) (gj_dk okX12_image 44 rfl) (sh132 hst) (by decide) (by decide) rfl ?_
        refine gj_stp hF (fun M17 hF => ?_)
        refine gj_aload_n (q := 78) (gj_dk okX12_image 45 rfl) rfl rfl ?_
        refine gj_gR (q := 81) (j := 52) (gj_dk okX12_image 46 rfl) ff_X12_150 (sh79 hst) (by decide) rfl (rf79_52 hst) rfl ?_
        refine gj_iload_n (q := 82) (gj_dk okX12_image 47 rfl) rfl rfl ?_
        refine gj_aload_n (q := 83) (gj_dk okX12_image 48 rfl) rfl rfl ?_
        refine gj_gL (q := 86) (j := 30) (gj_dk okX12_image 49 rfl) ff_X12_270 (sh79 hst) (by decide) rfl rfl ?_
        refine gj_last (q := 87) (gj_dk okX12_image 50 rfl) (sh134 hst) (by decide) (by decide) rfl ?_
        refine gj_stp hF (fun M18 hF => ?_)
        refine gj_aload_n (q := 88) (gj_dk okX12_image 51 rfl) rfl rfl ?_
        refine gj_aload_n (q := 89) (gj_dk okX12_image 52 rfl) rfl rfl ?_
        refine gj_gR (q := 92) (j := 51) (gj_dk okX12_image 53 rfl) ff_X12_147 (sh79 hst) (by decide) rfl (rf79_51 hst) rfl ?_
        refine gj_iload_n (q := 93) (gj_dk okX12_image 54 rfl) rfl rfl ?_
        refine gj_aald (q := 94) (gj_dk okX12_image 55 rfl) (sh130 hst) (by decide) (by decide) (by decide) (rf130_1 hst) rfl ?_
        refine gj_iconst (q := 95) (gj_dk okX12_image 56 rfl) (by decide) rfl ?_
        obtain ⟨M20, hG, hF⟩ := gj_bndd hF
        refine gj_callV (q := 98) (z := 79) (ci := 10) [jR 132, jI 1] rfl (t_X12_moves hst (sh132 hst) (by decide) (by decide) 1 hG) (gj_dk okX12_image 57 rfl) ml_X12_454 me_X12_moves (sh79 hst) rfl (gj_nm rfl) rfl (gj_kV fun S2 M2 h => ?_)
        obtain ⟨eS, eM⟩ := h; subst eS; subst eM; clear hG
        refine gj_aload_n (q := 99) (gj_dk okX12_image 58 rfl) rfl rfl ?_
        refine gj_gR (q := 102) (j := 53) (gj_dk okX12_image 59 rfl) ff_X12_153 (sh79 hst) (by decide) rfl (rf79_53 hst) rfl ?_
        refine gj_iload_n (q := 103) (gj_dk okX12_image 60 rfl) rfl rfl ?_
        refine gj_iconst (q := 104) (gj_dk okX12_image 61 rfl) (by decide) rfl ?_
        refine gj_zast (q := 105) (gj_dk okX12_image 62 rfl) (sh135 hst) (by decide) (by decide) (by decide) rfl ?_
        refine gj_stp hF (fun M21 hF => ?_)
        refine gj_iconst (q := 106) (gj_dk okX12_image 63 rfl) (by decide) rfl ?_
        cases hF
        exact gj_zret (gj_dk okX12_image 64 rfl) rfl (by decide) ⟨_, rfl, (by decide), rfl, rfl, rfl⟩
      replace hF := gj_iff i46_1 hF
      have i46_2 : a1 = 2 := by omega
      revert hF; subst i46_2; intro hF
      refine gj_aald (q := 47) (w := 133) (gj_dk okX12_image 24 rfl) (sh130 hst) (by decide) (by decide) (by decide) (rf130_2 hst) rfl ?_
      refine gj_iconst (q := 48) (gj_dk okX12_image 25 rfl) (by decide) rfl ?_
      refine gj_aload_n (q := 49) (gj_dk okX12_image 26 rfl) rfl rfl ?_
      refine gj_gI (q := 52) (j := 27) (gj_dk okX12_image 27 rfl) ff_X12_264 (sh79 hst) (by decide) rfl rfl ?_
      refine gj_iast (q := 53) (gj_dk okX12_image 28 rfl) (sh133 hst) (by decide) (by decide) rfl ?_
      refine gj_stp hF (fun M22 hF => ?_)
      refine gj_aload_n (q := 54) (gj_dk okX12_image 29 rfl) rfl rfl ?_
      refine gj_gR (q := 57) (j := 51) (gj_dk okX12_image 30 rfl) ff_X12_147 (sh79 hst) (by decide) rfl (rf79_51 hst) rfl ?_
      refine gj_iload_n (q := 58) (gj_dk okX12_image 31 rfl) rfl rfl ?_
      refine gj_aald (q := 59) (gj_dk okX12_image 32 rfl) (sh130 hst) (by decide) (by decide) (by decide) (rf130_2 hst) rfl ?_
      refine gj_iconst (q := 60) (gj_dk okX12_image 33 rfl) (by decide) rfl ?_
      refine gj_aload_n (q := 61) (gj_dk okX12_image 34 rfl) rfl rfl ?_
      refine gj_gI (q := 64) (j := 28) (gj_dk okX12_image 35 rfl) ff_X12_267 (sh79 hst) (by decide) rfl rfl ?_
      refine gj_iast (q := 65) (gj_dk okX12_image 36 rfl) (sh133 hst) (by decide) (by decide) rfl ?_
      refine gj_stp hF (fun M23 hF => ?_)
      refine gj_aload_n (q := 66) (gj_dk okX12_image 37 rfl) rfl rfl ?_
      refine gj_gR (q := 69) (j := 51) (gj_dk okX12_image 38 rfl) ff_X12_147 (sh79 hst) (by decide) rfl (rf79_51 hst) rfl ?_
      refine gj_iload_n (q := 70) (gj_dk okX12_image 39 rfl) rfl rfl ?_
      refine gj_aald (q := 71) (gj_dk okX12_image 40 rfl) (sh130 hst) (by decide) (by decide) (by decide) (rf130_2 hst) rfl ?_
      refine gj_iconst (q := 72) (gj_dk okX12_image 41 rfl) (by decide) rfl ?_
      refine gj_aload_n (q := 73) (gj_dk okX12_image 42 rfl) rfl rfl ?_
      refine gj_gI (q := 76) (j := 29) (gj_dk okX12_image 43 rfl) ff_X12_274 (sh79 hst) (by decide) rfl rfl ?_
      refine gj_iast (q := 77) (gj_dk okX12_image 44 rfl) (sh133 hst) (by decide) (by decide) rfl ?_
      refine gj_stp hF (fun M24 hF => ?_)
      refine gj_aload_n (q := 78) (gj_dk okX12_image 45 rfl) rfl rfl ?_
      refine gj_gR (q := 81) (j := 52) (gj_dk okX12_image 46 rfl) ff_X12_150 (sh79 hst) (by decide) rfl (rf79_52 hst) rfl ?_
      refine gj_iload_n (q := 82) (gj_dk okX12_image 47 rfl) rfl rfl ?_
      refine gj_aload_n (q := 83) (gj_dk okX12_image 48 rfl) rfl rfl ?_
      refine gj_gL (q := 86) (j := 30) (gj_dk okX12_image 49 rfl) ff_X12_270 (sh79 hst) (by decide) rfl rfl ?_
      refine gj_last (q := 87) (gj_dk okX12_image 50 rfl) (sh134 hst) (by decide) (by decide) rfl ?_
      refine gj_stp hF (fun M25 hF => ?_)
      refine gj_aload_n (q := 88) (gj_dk okX12_image 51 rfl) rfl rfl ?_
      refine gj_aload_n (q := 89) (gj_dk okX12_image 52 rfl) rfl rfl ?_
      refine gj_gR (q := 92) (j := 51) (gj_dk okX12_image 53 rfl) ff_X12_147 (sh79 hst) (by decide) rfl (rf79_51 hst) rfl ?_
      refine gj_iload_n (q := 93) (gj_dk okX12_image 54 rfl) rfl rfl ?_
      refine gj_aald (q := 94) (gj_dk okX12_image 55 rfl) (sh130 hst) (by decide) (by decide) (by decide) (rf130_2 hst) rfl ?_
      refine gj_iconst (q := 95) (gj_dk okX12_image 56 rfl) (by decide) rfl ?_
      obtain ⟨M27, hG, hF⟩ := gj_bndd hF
      refine gj_callV (q := 98) (z := 79) (ci := 10) [jR 133, jI 1] rfl (t_X12_moves hst (sh133 hst) (by decide) (by decide) 1 hG) (gj_dk okX12_image 57 rfl) ml_X12_454 me_X12_moves (sh79 hst) rfl (gj_nm rfl) rfl (gj_kV fun S2 M2 h => ?_)
      obtain ⟨eS, eM⟩ := h; subst eS; subst eM; clear hG
      refine gj_aload_n (q := 99) (gj_dk okX12_image 58 rfl) rfl rfl ?_
      refine gj_gR (q := 102) (j := 53) (gj_dk okX12_image 59 rfl) ff_X12_153 (sh79 hst) (by decide) rfl (rf79_53 hst) rfl ?_
      refine gj_iload_n (q := 103) (gj_dk okX12_image 60 rfl) rfl rfl ?_
      refine gj_iconst (q := 104) (gj_dk okX12_image 61 rfl) (by decide) rfl ?_
      refine gj_zast (q := 105) (gj_dk okX12_image 62 rfl) (sh135 hst) (by decide) (by decide) (by decide) rfl ?_
      refine gj_stp hF (fun M28 hF => ?_)
      refine gj_iconst (q := 106) (gj_dk okX12_image 63 rfl) (by decide) rfl ?_
      cases hF
      exact gj_zret (gj_dk okX12_image 64 rfl) rfl (by decide) ⟨_, rfl, (by decide), rfl, rfl, rfl⟩
    · -- 19
      replace hF := gj_ift c16 hF
      refine gj_aload_n (q := 20) (gj_dk okX12_image 9 rfl) rfl rfl ?_
      refine gj_iload_n (q := 21) (gj_dk okX12_image 10 rfl) rfl rfl ?_
      refine gj_i2l (q := 22) (gj_dk okX12_image 11 rfl) rfl ?_
      refine gj_lconst (q := 23) (z := 0) (gj_dk okX12_image 12 rfl) rfl (by decide) rfl ?_
      refine gj_ldc2 (q := 26) (z := 2) (gj_dk okX12_image 13 rfl) kl_X12_156 (by decide) rfl ?_
      refine gj_callS (q := 29) [jL a1, jL 0, jL 2] rfl (t_X12_in hst a1 0 2 rfl) (gj_dk okX12_image 14 rfl) ml_X12_158 me_X12_in (gj_nm rfl) rfl (gj_kI fun x S2 M2 h => ?_)
      obtain ⟨bz, e, eS, eM⟩ := h; subst eS; subst eM; subst e
      refine gj_stpZ bz hF (fun x29 bx29 hF => ?_)
      refine gj_if_eq (q := 32) (tgt := 36) (gj_dk okX12_image 15 rfl) (by decide) rfl (fun c29 => ?_) (fun c29 => ?_)
      · -- 36
        replace hF := gj_ift c29 hF
        refine gj_iconst (q := 37) (gj_dk okX12_image 18 rfl) (by decide) rfl ?_
        obtain ⟨x30, M31, hG, hF⟩ := gj_bnd2d hF
        refine gj_callV (q := 40) (z := 79) (ci := 10) [jI 0] rfl (t_X12_deny hst 0 hG) (gj_dk okX12_image 19 rfl) ml_X12_173 me_X12_deny (sh79 hst) rfl (gj_nm rfl) rfl (gj_kI fun y S2 M2 h => ?_)
        obtain ⟨bx30, e, eS, eM⟩ := h; subst eS; subst eM; subst e; clear hG
        dsimp only at bx30 ⊢
        cases hF
        exact gj_zret (gj_dk okX12_image 20 rfl) rfl bx30 ⟨_, rfl, bx30, rfl, rfl, rfl⟩
      · -- 32
        replace hF := gj_iff c29 hF
        refine gj_iconst (q := 33) (gj_dk okX12_image 16 rfl) (by decide) rfl ?_
        refine gj_goto (tgt := 37) (gj_dk okX12_image 17 rfl) (by decide) ?_
        obtain ⟨x32, M33, hG, hF⟩ := gj_bnd2d hF
        refine gj_callV (q := 40) (z := 79) (ci := 10) [jI 2] rfl (t_X12_deny hst 2 hG) (gj_dk okX12_image 19 rfl) ml_X12_173 me_X12_deny (sh79 hst) rfl (gj_nm rfl) rfl (gj_kI fun y S2 M2 h => ?_)
        obtain ⟨bx32, e, eS, eM⟩ := h; subst eS; subst eM; subst e; clear hG
        dsimp only at bx32 ⊢
        cases hF
        exact gj_zret (gj_dk okX12_image 20 rfl) rfl bx32 ⟨_, rfl, bx32, rfl, rfl, rfl⟩
def F_X12_on (a1 : Int) (M : gj_M) : Option (Int × gj_M) :=
  gj_letI (f_X12_in a1 0 2 M) (fun x1 => (if x1 = 0 then gj_bnd2 (F_X12_deny 0 M) (fun x2 M3 => (some ((x2, M3)))) else gj_chk (0 ≤ a1 ∧ a1 < 3) ((if M 135 a1 = 0 then gj_bnd2 (F_X12_deny 0 M) (fun x24 M25 => (some ((x24, M25)))) else gj_chk (0 ≤ a1 ∧ a1 < 3) ((if a1 = 0 then gj_let (gj_up M 79 27 (M 131 0)) (fun M6 => gj_let (gj_up M6 79 28 (M6 131 1)) (fun M7 => gj_let (gj_up M7 79 29 (M7 131 2)) (fun M8 => gj_let (gj_up M8 79 30 (M8 134 0)) (fun M9 => gj_bnd (F_X12_moves 131 284 0 M9) (fun M11 => (some ((1, M11)))))))) else (if a1 = 1 then gj_let (gj_up M 79 27 (M 132 0)) (fun M12 => gj_let (gj_up M12 79 28 (M12 132 1)) (fun M13 => gj_let (gj_up M13 79 29 (M13 132 2)) (fun M14 => gj_let (gj_up M14 79 30 (M14 134 1)) (fun M15 => gj_bnd (F_X12_moves 132 284 0 M15) (fun M17 => (some ((1, M17)))))))) else gj_let (gj_up M 79 27 (M 133 0)) (fun M18 => gj_let (gj_up M18 79 28 (M18 133 1)) (fun M19 => gj_let (gj_up M19 79 29 (M19 133 2)) (fun M20 => gj_let (gj_up M20 79 30 (M20 134 2)) (fun M21 => gj_bnd (F_X12_moves 133 284 0 M21) (fun M23 => (some ((1, M23)))))))))))))))
set_option maxHeartbeats 4000000 in
set_option maxRecDepth 20000 in
theorem t_X12_on (hst : gj_Stat S) (a1 : Int) {r : Int × gj_M} (hF : F_X12_on a1 M = some r) : gj_C G l 3 0 0 yX12_on cX12_on 2 (some .boolean) [jR 79, jI a1] S M (gj_qI fun x S' M' => (x = 0 ∨ x = 1) ∧ r.1 = x ∧ S = S' ∧ r.2 = M') := by
  refine gj_Cof (by decide +kernel) (Nat.le_of_ble_eq_true rfl) ?_
  change gj_W G l 3 0 0 yX12_on cX12_on 2 (some .boolean) (gj_qI fun x S' M' => (x = 0 ∨ x = 1) ∧ r.1 = x ∧ S = S' ∧ r.2 = M') 0 0 0 [(0, jR 79), (1, jI a1)] [] S M
  unfold F_X12_on at hF
  refine gj_iload_n (q := 1) (gj_dk okX12_on 0 rfl) rfl rfl ?_
  refine gj_i2l (q := 2) (gj_dk okX12_on 1 rfl) rfl ?_
  refine gj_lconst (q := 3) (z := 0) (gj_dk okX12_on 2 rfl) rfl (by decide) rfl ?_
  refine gj_ldc2 (q := 6) (z := 2) (gj_dk okX12_on 3 rfl) kl_X12_156 (by decide) rfl ?_
  refine gj_callS (q := 9) [jL a1, jL 0, jL 2] rfl (t_X12_in hst a1 0 2 rfl) (gj_dk okX12_on 4 rfl) ml_X12_158 me_X12_in (gj_nm rfl) rfl (gj_kI fun x S2 M2 h => ?_)
  obtain ⟨bz, e, eS, eM⟩ := h; subst eS; subst eM; subst e
  refine gj_stpZ bz hF (fun x1 bx1 hF => ?_)
  refine gj_if_eq (q := 12) (tgt := 21) (gj_dk okX12_on 5 rfl) (by decide) rfl (fun c9 => ?_) (fun c9 => ?_)
  · -- 21
    replace hF := gj_ift c9 hF
    refine gj_aload_n (q := 22) (gj_dk okX12_on 11 rfl) rfl rfl ?_
    refine gj_iconst (q := 23) (gj_dk okX12_on 12 rfl) (by decide) rfl ?_
    obtain ⟨x2, M3, hG, hF⟩ := gj_bnd2d hF
    refine gj_callV (q := 26) (z := 79) (ci := 10) [jI 0] rfl (t_X12_deny hst 0 hG) (gj_dk okX12_on 13 rfl) ml_X12_173 me_X12_deny (sh79 hst) rfl (gj_nm rfl) rfl (gj_kI fun y S2 M2 h => ?_)
    obtain ⟨bx2, e, eS, eM⟩ := h; subst eS; subst eM; subst e; clear hG
    dsimp only at bx2 ⊢
    cases hF
    exact gj_zret (gj_dk okX12_on 14 rfl) rfl bx2 ⟨_, rfl, bx2, rfl, rfl, rfl⟩
  · -- 12
    replace hF := gj_iff c9 hF
    refine gj_aload_n (q := 13) (gj_dk okX12_on 6 rfl) rfl rfl ?_
    refine gj_gR (q := 16) (j := 53) (gj_dk okX12_on 7 rfl) ff_X12_153 (sh79 hst) (by decide) rfl (rf79_53 hst) rfl ?_
    refine gj_iload_n (q := 17) (gj_dk okX12_on 8 rfl) rfl rfl ?_
    obtain ⟨b4, hF⟩ := gj_ckd hF
    refine gj_zald (q := 18) (gj_dk okX12_on 9 rfl) (sh135 hst) b4.1 b4.2 rfl ?_
    refine gj_if_ne (q := 21) (tgt := 27) (gj_dk okX12_on 10 rfl) (by decide) rfl (fun c18 => ?_) (fun c18 => ?_)
    · -- 27
      replace hF := gj_iff c18 hF
      refine gj_aload_n (q := 28) (gj_dk okX12_on 15 rfl) rfl rfl ?_
      refine gj_aload_n (q := 29) (gj_dk okX12_on 16 rfl) rfl rfl ?_
      refine gj_gR (q := 32) (j := 51) (gj_dk okX12_on 17 rfl) ff_X12_147 (sh79 hst) (by decide) rfl (rf79_51 hst) rfl ?_
      refine gj_iload_n (q := 33) (gj_dk okX12_on 18 rfl) rfl rfl ?_
      obtain ⟨b5, hF⟩ := gj_ckd hF
      by_cases i33_0 : a1 = 0
      · replace hF := gj_ift i33_0 hF
        revert hF; subst i33_0; intro hF
        refine gj_aald (q := 34) (w := 131) (gj_dk okX12_on 19 rfl) (sh130 hst) (by decide) (by decide) (by decide) (rf130_0 hst) rfl ?_
        refine gj_iconst (q := 35) (gj_dk okX12_on 20 rfl) (by decide) rfl ?_
        refine gj_iald (q := 36) (gj_dk okX12_on 21 rfl) (sh131 hst) (by decide) (by decide) rfl ?_
        refine gj_pfI (q := 39) (j := 27) (gj_dk okX12_on 22 rfl) ff_X12_264 (sh79 hst) (by decide) rfl rfl ?_
        refine gj_stp hF (fun M6 hF => ?_)
        refine gj_aload_n (q := 40) (gj_dk okX12_on 23 rfl) rfl rfl ?_
        refine gj_aload_n (q := 41) (gj_dk okX12_on 24 rfl) rfl rfl ?_
        refine gj_gR (q := 44) (j := 51) (gj_dk okX12_on 25 rfl) ff_X12_147 (sh79 hst) (by decide) rfl (rf79_51 hst) rfl ?_
        refine gj_iload_n (q := 45) (gj_dk okX12_on 26 rfl) rfl rfl ?_
        refine gj_aald (q := 46) (gj_dk okX12_on 27 rfl) (sh130 hst) (by decide) (by decide) (by decide) (rf130_0 hst) rfl ?_
        refine gj_iconst (q := 47) (gj_dk okX12_on 28 rfl) (by decide) rfl ?_
        refine gj_iald (q := 48) (gj_dk okX12_on 29 rfl) (sh131 hst) (by decide) (by decide) rfl ?_
        refine gj_pfI (q := 51) (j := 28) (gj_dk okX12_on 30 rfl) ff_X12_267 (sh79 hst) (by decide) rfl rfl ?_
        refine gj_stp hF (fun M7 hF => ?_)
        refine gj_aload_n (q := 52) (gj_dk okX12_on 31 rfl) rfl rfl ?_
        refine gj_aload_n (q := 53) (gj_dk okX12_on 32 rfl) rfl rfl ?_
        refine gj_gR (q := 56) (j := 51) (gj_dk okX12_on 33 rfl) ff_X12_147 (sh79 hst) (by decide) rfl (rf79_51 hst) rfl ?_
        refine gj_iload_n (q := 57) (gj_dk okX12_on 34 rfl) rfl rfl ?_
        refine gj_aald (q := 58) (gj_dk okX12_on 35 rfl) (sh130 hst) (by decide) (by decide) (by decide) (rf130_0 hst) rfl ?_
        refine gj_iconst (q := 59) (gj_dk okX12_on 36 rfl) (by decide) rfl ?_
        refine gj_iald (q := 60) (gj_dk okX12_on 37 rfl) (sh131 hst) (by decide) (by decide) rfl ?_
        refine gj_pfI (q := 63) (j := 29) (gj_dk okX12_on 38 rfl) ff_X12_274 (sh79 hst) (by decide) rfl rfl ?_
        refine gj_stp hF (fun M8 hF => ?_)
        refine gj_aload_n (q := 64) (gj_dk okX12_on 39 rfl) rfl rfl ?_
        refine gj_aload_n (q := 65) (gj_dk okX12_on 40 rfl) rfl rfl ?_
        refine gj_gR (q := 68) (j := 52) (gj_dk okX12_on 41 rfl) ff_X12_150 (sh79 hst) (by decide) rfl (rf79_52 hst) rfl ?_
        refine gj_iload_n (q := 69) (gj_dk okX12_on 42 rfl) rfl rfl ?_
        refine gj_lald (q := 70) (gj_dk okX12_on 43 rfl) (sh134 hst) (by decide) (by decide) rfl ?_
        refine gj_pfL (q := 73) (j := 30) (gj_dk okX12_on 44 rfl) ff_X12_270 (sh79 hst) (by decide) rfl rfl ?_
        refine gj_stp hF (fun M9 hF => ?_)
        refine gj_aload_n (q := 74) (gj_dk okX12_on 45 rfl) rfl rfl ?_
        refine gj_aload_n (q := 75) (gj_dk okX12_on 46 rfl) rfl rfl ?_
        refine gj_gR (q := 78) (j := 51) (gj_dk okX12_on 47 rfl) ff_X12_147 (sh79 hst) (by decide) rfl (rf79_51 hst) rfl ?_
        refine gj_iload_n (q := 79) (gj_dk okX12_on 48 rfl) rfl rfl ?_
        refine gj_aald (q := 80) (gj_dk okX12_on 49 rfl) (sh130 hst) (by decide) (by decide) (by decide) (rf130_0 hst) rfl ?_
        refine gj_iconst (q := 81) (gj_dk okX12_on 50 rfl) (by decide) rfl ?_
        obtain ⟨M11, hG, hF⟩ := gj_bndd hF
        refine gj_callV (q := 84) (z := 79) (ci := 10) [jR 131, jI 0] rfl (t_X12_moves hst (sh131 hst) (by decide) (by decide) 0 hG) (gj_dk okX12_on 51 rfl) ml_X12_454 me_X12_moves (sh79 hst) rfl (gj_nm rfl) rfl (gj_kV fun S2 M2 h => ?_)
        obtain ⟨eS, eM⟩ := h; subst eS; subst eM; clear hG
        refine gj_iconst (q := 85) (gj_dk okX12_on 52 rfl) (by decide) rfl ?_
        cases hF
        exact gj_zret (gj_dk okX12_on 53 rfl) rfl (by decide) ⟨_, rfl, (by decide), rfl, rfl, rfl⟩
      replace hF := gj_iff i33_0 hF
      by_cases i33_1 : a1 = 1
      · replace hF := gj_ift i33_1 hF
        revert hF; subst i33_1; intro hF
        refine gj_aald (q := 34) (w := 132) (gj_dk okX12_on 19 rfl) (sh130 hst) (by decide) (by decide) (by decide) (rf130_1 hst) rfl ?_
        refine gj_iconst (q := 35) (gj_dk okX12_on 20 rfl) (by decide) rfl ?_
        refine gj_iald (q := 36) (gj_dk okX12_on 21 rfl) (sh132 hst) (by decide) (by decide) rfl ?_
        refine gj_pfI (q := 39) (j := 27) (gj_dk okX12_on 22 rfl) ff_X12_264 (sh79 hst) (by decide) rfl rfl ?_
        refine gj_stp hF (fun M12 hF => ?_)
        refine gj_aload_n (q := 40) (gj_dk okX12_on 23 rfl) rfl rfl ?_
        refine gj_aload_n (q := 41) (gj_dk okX12_on 24 rfl) rfl rfl ?_
        refine gj_gR (q := 44) (j := 51) (gj_dk okX12_on 25 rfl) ff_X12_147 (sh79 hst) (by decide) rfl (rf79_51 hst) rfl ?_
        refine gj_iload_n (q := 45) (gj_dk okX12_on 26 rfl) rfl rfl ?_
        refine gj_aald (q := 46) (gj_dk okX12_on 27 rfl) (sh130 hst) (by decide) (by decide) (by decide) (rf130_1 hst) rfl ?_
        refine gj_iconst (q := 47) (gj_dk okX12_on 28 rfl) (by decide) rfl ?_
        refine gj_iald (q := 48) (gj_dk okX12_on 29 rfl) (sh132 hst) (by decide) (by decide) rfl ?_
        refine gj_pfI (q := 51) (j := 28) (gj_dk okX12_on 30 rfl) ff_X12_267 (sh79 hst) (by decide) rfl rfl ?_
        refine gj_stp hF (fun M13 hF => ?_)
        refine gj_aload_n (q := 52) (gj_dk okX12_on 31 rfl) rfl rfl ?_
        refine gj_aload_n (q := 53) (gj_dk okX12_on 32 rfl) rfl rfl ?_
        refine gj_gR (q := 56) (j := 51) (gj_dk okX12_on 33 rfl) ff_X12_147 (sh79 hst) (by decide) rfl (rf79_51 hst) rfl ?_
        refine gj_iload_n (q := 57) (gj_dk okX12_on 34 rfl) rfl rfl ?_
        refine gj_aald (q := 58) (gj_dk okX12_on 35 rfl) (sh130 hst) (by decide) (by decide) (by decide) (rf130_1 hst) rfl ?_
        refine gj_iconst (q := 59) (gj_dk okX12_on 36 rfl) (by decide) rfl ?_
        refine gj_iald (q := 60) (gj_dk okX12_on 37 rfl) (sh132 hst) (by decide) (by decide) rfl ?_
        refine gj_pfI (q := 63) (j := 29) (gj_dk okX12_on 38 rfl) ff_X12_274 (sh79 hst) (by decide) rfl rfl ?_
        refine gj_stp hF (fun M14 hF => ?_)
        refine gj_aload_n (q := 64) (gj_dk okX12_on 39 rfl) rfl rfl ?_
        refine gj_aload_n (q := 65) (gj_dk okX12_on 40 rfl) rfl rfl ?_
        refine gj_gR (q := 68) (j := 52) (gj_dk okX12_on 41 rfl) ff_X12_150 (sh79 hst) (by decide) rfl (rf79_52 hst) rfl ?_
        refine gj_iload_n (q := 69) (gj_dk okX12_on 42 rfl) rfl rfl ?_
        refine gj_lald (q := 70) (gj_dk okX12_on 43 rfl) (sh134 hst) (by decide) (by decide) rfl ?_
        refine gj_pfL (q := 73) (j := 30) (gj_dk okX12_on 44 rfl) ff_X12_270 (sh79 hst) (by decide) rfl rfl ?_
        refine gj_stp hF (fun M15 hF => ?_)
        refine gj_aload_n (q := 74) (gj_dk okX12_on 45 rfl) rfl rfl ?_
        refine gj_aload_n (q := 75) (gj_dk okX12_on 46 rfl) rfl rfl ?_
        refine gj_gR (q := 78) (j := 51) (gj_dk okX12_on 47 rfl) ff_X12_147 (sh79 hst) (by decide) rfl (rf79_51 hst) rfl ?_
        refine gj_iload_n (q := 79) (gj_dk okX12_on 48 rfl) rfl rfl ?_
        refine gj_aald (q := 80) (gj_dk okX12_on 49 rfl) (sh130 hst) (by decide) (by decide) (by decide) (rf130_1 hst) rfl ?_
        refine gj_iconst (q := 81) (gj_dk okX12_on 50 rfl) (by decide) rfl ?_
        obtain ⟨M17, hG, hF⟩ := gj_bndd hF
        refine gj_callV (q := 84) (z := 79) (ci := 10) [jR 132, jI 0] rfl (t_X12_moves hst (sh132 hst) (by decide) (by decide) 0 hG) (gj_dk okX12_on 51 rfl) ml_X12_454 me_X12_moves (sh79 hst) rfl (gj_nm rfl) rfl (gj_kV fun S2 M2 h => ?_)
        obtain ⟨eS, eM⟩ := h; subst eS; subst eM; clear hG
        refine gj_iconst (q := 85) (gj_dk okX12_on 52 rfl) (by decide) rfl ?_
        cases hF
        exact gj_zret (gj_dk okX12_on 53 rfl) rfl (by decide) ⟨_, rfl, (by decide), rfl, rfl, rfl⟩
      replace hF := gj_iff i33_1 hF
      have i33_2 : a1 = 2 := by omega
      revert hF; subst i33_2; intro hF
      refine gj_aald (q := 34) (w := 133) (gj_dk okX12_on 19 rfl) (sh130 hst) (by decide) (by decide) (by decide) (rf130_2 hst) rfl ?_
      refine gj_iconst (q := 35) (gj_dk okX12_on 20 rfl) (by decide) rfl ?_
      refine gj_iald (q := 36) (gj_dk okX12_on 21 rfl) (sh133 hst) (by decide) (by decide) rfl ?_
      refine gj_pfI (q := 39) (j := 27) (gj_dk okX12_on 22 rfl) ff_X12_264 (sh79 hst) (by decide) rfl rfl ?_
      refine gj_stp hF (fun M18 hF => ?_)
      refine gj_aload_n (q := 40) (gj_dk okX12_on 23 rfl) rfl rfl ?_
      refine gj_aload_n (q := 41) (gj_dk okX12_on 24 rfl) rfl rfl ?_
      refine gj_gR (q := 44) (j := 51) (gj_dk okX12_on 25 rfl) ff_X12_147 (sh79 hst) (by decide) rfl (rf79_51 hst) rfl ?_
      refine gj_iload_n (q := 45) (gj_dk okX12_on 26 rfl) rfl rfl ?_
      refine gj_aald (q := 46) (gj_dk okX12_on 27 rfl) (sh130 hst) (by decide) (by decide) (by decide) (rf130_2 hst) rfl ?_
      refine gj_iconst (q := 47) (gj_dk okX12_on 28 rfl) (by decide) rfl ?_
      refine gj_iald (q := 48) (gj_dk okX12_on 29 rfl) (sh133 hst) (by decide) (by decide) rfl ?_
      refine gj_pfI (q := 51) (j := 28) (gj_dk okX12_on 30 rfl) ff_X12_267 (sh79 hst) (by decide) rfl rfl ?_
      refine gj_stp hF (fun M19 hF => ?_)
      refine gj_aload_n (q := 52) (gj_dk okX12_on 31 rfl) rfl rfl ?_
      refine gj_aload_n (q := 53) (gj_dk okX12_on 32 rfl) rfl rfl ?_
      refine gj_gR (q := 56) (j := 51) (gj_dk okX12_on 33 rfl) ff_X12_147 (sh79 hst) (by decide) rfl (rf79_51 hst) rfl ?_
      refine gj_iload_n (q := 57) (gj_dk okX12_on 34 rfl) rfl rfl ?_
      refine gj_aald (q := 58) (gj_dk okX12_on 35 rfl) (sh130 hst) (by decide) (by decide) (by decide) (rf130_2 hst) rfl ?_
      refine gj_iconst (q := 59) (gj_dk okX12_on 36 rfl) (by decide) rfl ?_
      refine gj_iald (q := 60) (gj_dk okX12_on 37 rfl) (sh133 hst) (by decide) (by decide) rfl ?_
      refine gj_pfI (q := 63) (j := 29) (gj_dk okX12_on 38 rfl) ff_X12_274 (sh79 hst) (by decide) rfl rfl ?_
      refine gj_stp hF (fun M20 hF => ?_)
      refine gj_aload_n (q := 64) (gj_dk okX12_on 39 rfl) rfl rfl ?_
      refine gj_aload_n (q := 65) (gj_dk okX12_on 40 rfl) rfl rfl ?_
      refine gj_gR (q := 68) (j := 52) (gj_dk okX12_on 41 rfl) ff_X12_150 (sh79 hst) (by decide) rfl (rf79_52 hst) rfl ?_
      refine gj_iload_n (q := 69) (gj_dk okX12_on 42 rfl) rfl rfl ?_
      refine gj_lald (q := 70) (gj_dk okX12_on 43 rfl) (sh134 hst) (by decide) (by decide) rfl ?_
      refine gj_pfL (q := 73) (j := 30) (gj_dk okX12_on 44 rfl) ff_X12_270 (sh79 hst) (by decide) rfl rfl ?_
      refine gj_stp hF (fun M21 hF => ?_)
      refine gj_aload_n (q := 74) (gj_dk okX12_on 45 rfl) rfl rfl ?_
      refine gj_aload_n (q := 75) (gj_dk okX12_on 46 rfl) rfl rfl ?_
      refine gj_gR (q := 78) (j := 51) (gj_dk okX12_on 47 rfl) ff_X12_147 (sh79 hst) (by decide) rfl (rf79_51 hst) rfl ?_
      refine gj_iload_n (q := 79) (gj_dk okX12_on 48 rfl) rfl rfl ?_
      refine gj_aald (q := 80) (gj_dk okX12_on 49 rfl) (sh130 hst) (by decide) (by decide) (by decide) (rf130_2 hst) rfl ?_
      refine gj_iconst (q := 81) (gj_dk okX12_on 50 rfl) (by decide) rfl ?_
      obtain ⟨M23, hG, hF⟩ := gj_bndd hF
      refine gj_callV (q := 84) (z := 79) (ci := 10) [jR 133, jI 0] rfl (t_X12_moves hst (sh133 hst) (by decide) (by decide) 0 hG) (gj_dk okX12_on 51 rfl) ml_X12_454 me_X12_moves (sh79 hst) rfl (gj_nm rfl) rfl (gj_kV fun S2 M2 h => ?_)
      obtain ⟨eS, eM⟩ := h; subst eS; subst eM; clear hG
      refine gj_iconst (q := 85) (gj_dk okX12_on 52 rfl) (by decide) rfl ?_
      cases hF
      exact gj_zret (gj_dk okX12_on 53 rfl) rfl (by decide) ⟨_, rfl, (by decide), rfl, rfl, rfl⟩
    · -- 21
      replace hF := gj_ift c18 hF
      refine gj_aload_n (q := 22) (gj_dk okX12_on 11 rfl) rfl rfl ?_
      refine gj_iconst (q := 23) (gj_dk okX12_on 12 rfl) (by decide) rfl ?_
      obtain ⟨x24, M25, hG, hF⟩ := gj_bnd2d hF
      refine gj_callV (q := 26) (z := 79) (ci := 10) [jI 0] rfl (t_X12_deny hst 0 hG) (gj_dk okX12_on 13 rfl) ml_X12_173 me_X12_deny (sh79 hst) rfl (gj_nm rfl) rfl (gj_kI fun y S2 M2 h => ?_)
      obtain ⟨bx24, e, eS, eM⟩ := h; subst eS; subst eM; subst e; clear hG
      dsimp only at bx24 ⊢
      cases hF
      exact gj_zret (gj_dk okX12_on 14 rfl) rfl bx24 ⟨_, rfl, bx24, rfl, rfl, rfl⟩
def f_X12_count (a1 : Int) (M : gj_M) : Int :=
  (if a1 = 0 then (if M 79 18 = 0 then (0) else (M 101 0)) else (if a1 = 1 then (if M 79 18 = 0 then (0) else (M 101 1)) else (if a1 = 2 then (if M 79 18 = 0 then (0) else (M 79 27)) else (if a1 = 3 then (if M 79 18 = 0 then (0) else (M 79 28)) else (if a1 = 4 then (if M 79 18 = 0 then (0) else (M 98 7)) else (if a1 = 5 then (M 79 2) else (-1)))))))
set_option maxHeartbeats 4000000 in
set_option maxRecDepth 20000 in
theorem t_X12_count (hst : gj_Stat S) (a1 : Int) {r : Int} (hF : f_X12_count a1 M = r) : gj_C G l 1 0 0 yX12_count cX12_count 2 (some .int) [jR 79, jI a1] S M (gj_qI fun x S' M' => r = x ∧ S = S' ∧ M = M') := by
  refine gj_Cof (by decide +kernel) (Nat.le_of_ble_eq_true rfl) ?_
  change gj_W G l 1 0 0 yX12_count cX12_count 2 (some .int) (gj_qI fun x S' M' => r = x ∧ S = S' ∧ M = M') 0 0 0 [(0, jR 79), (1, jI a1)] [] S M
  unfold f_X12_count at hF
  refine gj_iload_n (q := 1) (gj_dk okX12_count 0 rfl) rfl rfl ?_
  by_cases c1_0 : a1 = 0
  · refine gj_tabIn (tgt := 40) (off := 39) 0 (gj_dk okX12_count 1 rfl) c1_0 ⟨by decide, by decide, rfl⟩ (by decide) ?_
    replace hF := gj_ift c1_0 hF
    refine gj_aload_n (q := 41) (gj_dk okX12_count 2 rfl) rfl rfl ?_
    refine gj_gZ (q := 44) (j := 18) (gj_dk okX12_count 3 rfl) ff_X12_260 (sh79 hst) (by decide) rfl rfl ?_
    refine gj_if_eq (q := 47) (tgt := 58) (gj_dk okX12_count 4 rfl) (by decide) rfl (fun c44 => ?_) (fun c44 => ?_)
    · -- 58
      replace hF := gj_ift c44 hF
      refine gj_iconst (q := 59) (gj_dk okX12_count 12 rfl) (by decide) rfl ?_
      subst hF
      exact gj_iret (gj_dk okX12_count 13 rfl) rfl ⟨_, rfl, rfl, rfl, rfl⟩
    · -- 47
      replace hF := gj_iff c44 hF
      refine gj_aload_n (q := 48) (gj_dk okX12_count 5 rfl) rfl rfl ?_
      refine gj_gR (q := 51) (j := 13) (gj_dk okX12_count 6 rfl) ff_X12_37 (sh79 hst) (by decide) rfl (rf79_13 hst) rfl ?_
      refine gj_iconst (q := 52) (gj_dk okX12_count 7 rfl) (by decide) rfl ?_
      refine gj_aald (q := 53) (gj_dk okX12_count 8 rfl) (sh100 hst) (by decide) (by decide) (by decide) (rf100_0 hst) rfl ?_
      refine gj_iconst (q := 54) (gj_dk okX12_count 9 rfl) (by decide) rfl ?_
      refine gj_iald (q := 55) (gj_dk okX12_count 10 rfl) (sh101 hst) (by decide) (by decide) rfl ?_
      refine gj_goto (tgt := 59) (gj_dk okX12_count 11 rfl) (by decide) ?_
      subst hF
      exact gj_iret (gj_dk okX12_count 13 rfl) rfl ⟨_, rfl, rfl, rfl, rfl⟩
  replace hF := gj_iff c1_0 hF
  by_cases c1_1 : a1 = 1
  · refine gj_tabIn (tgt := 60) (off := 59) 1 (gj_dk okX12_count 1 rfl) c1_1 ⟨by decide, by decide, rfl⟩ (by decide) ?_
    replace hF := gj_ift c1_1 hF
    refine gj_aload_n (q := 61) (gj_dk okX12_count 14 rfl) rfl rfl ?_
    refine gj_gZ (q := 64) (j := 18) (gj_dk okX12_count 15 rfl) ff_X12_260 (sh79 hst) (by decide) rfl rfl ?_
    refine gj_if_eq (q := 67) (tgt := 78) (gj_dk okX12_count 16 rfl) (by decide) rfl (fun c64 => ?_) (fun c64 => ?_)
    · -- 78
      replace hF := gj_ift c64 hF
      refine gj_iconst (q := 79) (gj_dk okX12_count 24 rfl) (by decide) rfl ?_
      subst hF
      exact gj_iret (gj_dk okX12_count 25 rfl) rfl ⟨_, rfl, rfl, rfl, rfl⟩
    · -- 67
      replace hF := gj_iff c64 hF
      refine gj_aload_n (q := 68) (gj_dk okX12_count 17 rfl) rfl rfl ?_
      refine gj_gR (q := 71) (j := 13) (gj_dk okX12_count 18 rfl) ff_X12_37 (sh79 hst) (by decide) rfl (rf79_13 hst) rfl ?_
      refine gj_iconst (q := 72) (gj_dk okX12_count 19 rfl) (by decide) rfl ?_
      refine gj_aald (q := 73) (gj_dk okX12_count 20 rfl) (sh100 hst) (by decide) (by decide) (by decide) (rf100_0 hst) rfl ?_
      refine gj_iconst (q := 74) (gj_dk okX12_count 21 rfl) (by decide) rfl ?_
      refine gj_iald (q := 75) (gj_dk okX12_count 22 rfl) (sh101 hst) (by decide) (by decide) rfl ?_
      refine gj_goto (tgt := 79) (gj_dk okX12_count 23 rfl) (by decide) ?_
      subst hF
      exact gj_iret (gj_dk okX12_count 25 rfl) rfl ⟨_, rfl, rfl, rfl, rfl⟩
  replace hF := gj_iff c1_1 hF
  by_cases c1_2 : a1 = 2
  · refine gj_tabIn (tgt := 80) (off := 79) 2 (gj_dk okX12_count 1 rfl) c1_2 ⟨by decide, by decide, rfl⟩ (by decide) ?_
    replace hF := gj_ift c1_2 hF
    refine gj_aload_n (q := 81) (gj_dk okX12_count 26 rfl) rfl rfl ?_
    refine gj_gZ (q := 84) (j := 18) (gj_dk okX12_count 27 rfl) ff_X12_260 (sh79 hst) (by decide) rfl rfl ?_
    refine gj_if_eq (q := 87) (tgt := 94) (gj_dk okX12_count 28 rfl) (by decide) rfl (fun c84 => ?_) (fun c84 => ?_)
    · -- 94
      replace hF := gj_ift c84 hF
      refine gj_iconst (q := 95) (gj_dk okX12_count 32 rfl) (by decide) rfl ?_
      subst hF
      exact gj_iret (gj_dk okX12_count 33 rfl) rfl ⟨_, rfl, rfl, rfl, rfl⟩
    · -- 87
      replace hF := gj_iff c84 hF
      refine gj_aload_n (q := 88) (gj_dk okX12_count 29 rfl) rfl rfl ?_
      refine gj_gI (q := 91) (j := 27) (gj_dk okX12_count 30 rfl) ff_X12_264 (sh79 hst) (by decide) rfl rfl ?_
      refine gj_goto (tgt := 95) (gj_dk okX12_count 31 rfl) (by decide) ?_
      subst hF
      exact gj_iret (gj_dk okX12_count 33 rfl) rfl ⟨_, rfl, rfl, rfl, rfl⟩
  replace hF := gj_iff c1_2 hF
  by_cases c1_3 : a1 = 3
  · refine gj_tabIn (tgt := 96) (off := 95) 3 (gj_dk okX12_count 1 rfl) c1_3 ⟨by decide, by decide, rfl⟩ (by decide) ?_
    replace hF := gj_ift c1_3 hF
    refine gj_aload_n (q := 97) (gj_dk okX12_count 34 rfl) rfl rfl ?_
    refine gj_gZ (q := 100) (j := 18) (gj_dk okX12_count 35 rfl) ff_X12_260 (sh79 hst) (by decide) rfl rfl ?_
    refine gj_if_eq (q := 103) (tgt := 110) (gj_dk okX12_count 36 rfl) (by decide) rfl (fun c100 => ?_) (fun c100 => ?_)
    · -- 110
      replace hF := gj_ift c100 hF
      refine gj_iconst (q := 111) (gj_dk okX12_count 40 rfl) (by decide) rfl ?_
      subst hF
      exact gj_iret (gj_dk okX12_count 41 rfl) rfl ⟨_, rfl, rfl, rfl, rfl⟩
    · -- 103
      replace hF := gj_iff c100 hF
      refine gj_aload_n (q := 104) (gj_dk okX12_count 37 rfl) rfl rfl ?_
      refine gj_gI (q := 107) (j := 28) (gj_dk okX12_count 38 rfl) ff_X12_267 (sh79 hst) (by decide) rfl rfl ?_
      refine gj_goto (tgt := 111) (gj_dk okX12_count 39 rfl) (by decide) ?_
      subst hF
      exact gj_iret (gj_dk okX12_count 41 rfl) rfl ⟨_, rfl, rfl, rfl, rfl⟩
  replace hF := gj_iff c1_3 hF
  by_cases c1_4 : a1 = 4
  · refine gj_tabIn (tgt := 112) (off := 111) 4 (gj_dk okX12_count 1 rfl) c1_4 ⟨by decide, by decide, rfl⟩ (by decide) ?_
    replace hF := gj_ift c1_4 hF
    refine gj_aload_n (q := 113) (gj_dk okX12_count 42 rfl) rfl rfl ?_
    refine gj_gZ (q := 116) (j := 18) (gj_dk okX12_count 43 rfl) ff_X12_260 (sh79 hst) (by decide) rfl rfl ?_
    refine gj_if_eq (q := 119) (tgt := 131) (gj_dk okX12_count 44 rfl) (by decide) rfl (fun c116 => ?_) (fun c116 => ?_)
    · -- 131
      replace hF := gj_ift c116 hF
      refine gj_iconst (q := 132) (gj_dk okX12_count 52 rfl) (by decide) rfl ?_
      subst hF
      exact gj_iret (gj_dk okX12_count 53 rfl) rfl ⟨_, rfl, rfl, rfl, rfl⟩
    · -- 119
      replace hF := gj_iff c116 hF
      refine gj_aload_n (q := 120) (gj_dk okX12_count 45 rfl) rfl rfl ?_
      refine gj_gR (q := 123) (j := 12) (gj_dk okX12_count 46 rfl) ff_X12_34 (sh79 hst) (by decide) rfl (rf79_12 hst) rfl ?_
      refine gj_iconst (q := 124) (gj_dk okX12_count 47 rfl) (by decide) rfl ?_
      refine gj_aald (q := 125) (gj_dk okX12_count 48 rfl) (sh97 hst) (by decide) (by decide) (by decide) (rf97_0 hst) rfl ?_
      refine gj_bipush (q := 127) (gj_dk okX12_count 49 rfl) (by decide) rfl rfl ?_
      refine gj_iald (q := 128) (gj_dk okX12_count 50 rfl) (sh98 hst) (by decide) (by decide) rfl ?_
      refine gj_goto (tgt := 132) (gj_dk okX12_count 51 rfl) (by decide) ?_
      subst hF
      exact gj_iret (gj_dk okX12_count 53 rfl) rfl ⟨_, rfl, rfl, rfl, rfl⟩
  replace hF := gj_iff c1_4 hF
  by_cases c1_5 : a1 = 5
  · refine gj_tabIn (tgt := 133) (off := 132) 5 (gj_dk okX12_count 1 rfl) c1_5 ⟨by decide, by decide, rfl⟩ (by decide) ?_
    replace hF := gj_ift c1_5 hF
    refine gj_aload_n (q := 134) (gj_dk okX12_count 54 rfl) rfl rfl ?_
    refine gj_gI (q := 137) (j := 2) (gj_dk okX12_count 55 rfl) ff_X12_162 (sh79 hst) (by decide) rfl rfl ?_
    subst hF
    exact gj_iret (gj_dk okX12_count 56 rfl) rfl ⟨_, rfl, rfl, rfl, rfl⟩
  replace hF := gj_iff c1_5 hF
  refine gj_tabOut (tgt := 138) (gj_dk okX12_count 1 rfl) (by omega) (by decide) ?_
  refine gj_iconst (q := 139) (gj_dk okX12_count 57 rfl) (by decide) rfl ?_
  subst hF
  exact gj_iret (gj_dk okX12_count 58 rfl) rfl ⟨_, rfl, rfl, rfl, rfl⟩
end GJFR
