section GJFR
variable {G : gj_G} {l : Launch} {S : gj_S} {M : gj_M}
def B_X12_price_38 (rec38 : Int → Int → Int → gj_M → Option (Int × gj_M)) (l2 l3 l4 : Int) (M : gj_M) : Option (Int × gj_M) :=
  (if 999 < l4 then (some ((-1, M))) else gj_let (gj_up M 79 36 l4) (fun M7 => gj_bnd (F_X12_mateOf l3 M7) (fun x8 => gj_chk (0 ≤ l3 ∧ l3 < 8) (gj_bnd2 (F_X12_worthN 6 x8 (M7 109 l3) l2 M7) (fun x11 M12 => gj_bnd (F_X12_mateOf l3 M12) (fun x13 => (if M12 79 38 = x13 then (some ((l4, M12))) else rec38 l2 l3 (gj_w (l4 + 1)) M12)))))))
def F_X12_price (a1 : Int) (a2 : Int) (M : gj_M) : Option (Int × gj_M) :=
  gj_bnd (F_X12_who a1 M) (fun x1 => (if x1 = -1 then (some ((-1, M))) else gj_letI (f_X12_areMays a2 M) (fun x3 => (if x3 = 0 then (some ((-1, M))) else gj_chk (0 ≤ x1 ∧ x1 < 8) ((if M 108 x1 = -1 then (some ((-1, M))) else gj_bnd (F_X12_lays x1 M) (fun M6 => (gj_it (fun _ _ _ _ => none) (B_X12_price_38) gj_fu a2 x1 0 M6))))))))
set_option maxHeartbeats 4000000 in
set_option maxRecDepth 20000 in
theorem t_B_X12_price_38 (hst : gj_Stat S) {r : Int × gj_M} {rec38 : Int → Int → Int → gj_M → Option (Int × gj_M)} (hrec38 : ∀ (l2 l3 l4 : Int) (M : gj_M), rec38 l2 l3 l4 M = some r → gj_W G l 23 0 0 yX12_price cX12_price 6 (some .int) (gj_qI fun x S' M' => r.1 = x ∧ S = S' ∧ r.2 = M') 0 0 38 [(0, jR 79), (2, jI l2), (3, jI l3), (4, jI l4)] [] S M) (l2 l3 l4 : Int) (M : gj_M) (hF : B_X12_price_38 rec38 l2 l3 l4 M = some r) : gj_W G l 23 0 0 yX12_price cX12_price 6 (some .int) (gj_qI fun x S' M' => r.1 = x ∧ S = S' ∧ r.2 = M') 0 0 38 [(0, jR 79), (2, jI l2), (3, jI l3), (4, jI l4)] [] S M := by
  unfold B_X12_price_38 at hF
  refine gj_iload (q := 40) (gj_dk okX12_price 23 rfl) rfl rfl ?_
  refine gj_sipush (q := 43) (gj_dk okX12_price 24 rfl) (by decide) rfl rfl ?_
  refine gj_icmp_gt (q := 46) (tgt := 91) (gj_dk okX12_price 25 rfl) (by decide) rfl (fun c43 => ?_) (fun c43 => ?_)
  · -- 91
    replace hF := gj_ift c43 hF
    refine gj_iconst (q := 92) (gj_dk okX12_price 50 rfl) (by decide) rfl ?_
    cases hF
    exact gj_iret (gj_dk okX12_price 51 rfl) rfl ⟨_, rfl, rfl, rfl, rfl⟩
  · -- 46
    replace hF := gj_iff c43 hF
    refine gj_aload_n (q := 47) (gj_dk okX12_price 26 rfl) rfl rfl ?_
    refine gj_iload (q := 49) (gj_dk okX12_price 27 rfl) rfl rfl ?_
    refine gj_pfI (q := 52) (j := 36) (gj_dk okX12_price 28 rfl) ff_X12_323 (sh79 hst) (by decide) rfl rfl ?_
    refine gj_stp hF (fun M7 hF => ?_)
    refine gj_aload_n (q := 53) (gj_dk okX12_price 29 rfl) rfl rfl ?_
    refine gj_aload_n (q := 54) (gj_dk okX12_price 30 rfl) rfl rfl ?_
    refine gj_iload_n (q := 55) (gj_dk okX12_price 31 rfl) rfl rfl ?_
    obtain ⟨x8, hG, hF⟩ := gj_bndd hF
    refine gj_callV (q := 58) (z := 79) (ci := 10) [jI l3] rfl (t_X12_mateOf hst l3 hG) (gj_dk okX12_price 32 rfl) ml_X12_348 me_X12_mateOf (sh79 hst) rfl (gj_nm rfl) rfl (gj_kI fun y S2 M2 h => ?_)
    obtain ⟨e, eS, eM⟩ := h; subst eS; subst eM; subst e; clear hG
    refine gj_aload_n (q := 59) (gj_dk okX12_price 33 rfl) rfl rfl ?_
    refine gj_gR (q := 62) (j := 21) (gj_dk okX12_price 34 rfl) ff_X12_80 (sh79 hst) (by decide) rfl (rf79_21 hst) rfl ?_
    refine gj_iload_n (q := 63) (gj_dk okX12_price 35 rfl) rfl rfl ?_
    obtain ⟨b10, hF⟩ := gj_ckd hF
    refine gj_iald (q := 64) (gj_dk okX12_price 36 rfl) (sh109 hst) b10.1 b10.2 rfl ?_
    refine gj_iload_n (q := 65) (gj_dk okX12_price 37 rfl) rfl rfl ?_
    obtain ⟨x11, M12, hG, hF⟩ := gj_bnd2d hF
    refine gj_callV (q := 68) (z := 79) (ci := 10) [jI x8, jI (M7 109 l3), jI l2] rfl (t_X12_worthC hst x8 (M7 109 l3) l2 hG) (gj_dk okX12_price 38 rfl) ml_X12_330 me_X12_worth (sh79 hst) rfl (gj_nm rfl) rfl (gj_kI fun y S2 M2 h => ?_)
    obtain ⟨e, eS, eM⟩ := h; subst eS; subst eM; subst e; clear hG
    dsimp only
    refine gj_istore (q := 70) (gj_dk okX12_price 39 rfl) (by decide) rfl ?_
    refine gj_aload_n (q := 71) (gj_dk okX12_price 40 rfl) rfl rfl ?_
    refine gj_gI (q := 74) (j := 38) (gj_dk okX12_price 41 rfl) ff_X12_342 (sh79 hst) (by decide) rfl rfl ?_
    refine gj_aload_n (q := 75) (gj_dk okX12_price 42 rfl) rfl rfl ?_
    refine gj_iload_n (q := 76) (gj_dk okX12_price 43 rfl) rfl rfl ?_
    obtain ⟨x13, hG, hF⟩ := gj_bndd hF
    refine gj_callV (q := 79) (z := 79) (ci := 10) [jI l3] rfl (t_X12_mateOf hst l3 hG) (gj_dk okX12_price 44 rfl) ml_X12_348 me_X12_mateOf (sh79 hst) rfl (gj_nm rfl) rfl (gj_kI fun y S2 M2 h => ?_)
    obtain ⟨e, eS, eM⟩ := h; subst eS; subst eM; subst e; clear hG
    refine gj_icmp_ne (q := 82) (tgt := 85) (gj_dk okX12_price 45 rfl) (by decide) rfl (fun c79 => ?_) (fun c79 => ?_)
    · -- 85
      replace hF := gj_iff c79 hF
      refine gj_iinc (q := 88) (v := gj_w (l4 + 1)) (gj_dk okX12_price 48 rfl) rfl (by decide) rfl rfl ?_
      refine gj_goto (tgt := 38) (gj_dk okX12_price 49 rfl) (by decide) ?_
      refine gj_sub [(0, jR 79), (2, jI l2), (3, jI l3), (4, jI (gj_w (l4 + 1)))] ⟨rfl, rfl, rfl, rfl, trivial⟩ ?_
      exact hrec38 l2 l3 (gj_w (l4 + 1)) M12 hF
    · -- 82
      replace hF := gj_ift c79 hF
      refine gj_iload (q := 84) (gj_dk okX12_price 46 rfl) rfl rfl ?_
      cases hF
      exact gj_iret (gj_dk okX12_price 47 rfl) rfl ⟨_, rfl, rfl, rfl, rfl⟩
theorem t_L_X12_price_38 (hst : gj_Stat S) {r : Int × gj_M} : ∀ (m : Nat) (l2 : Int) (l3 : Int) (l4 : Int) (M : gj_M), gj_it (fun _ _ _ _ => none) (B_X12_price_38) m l2 l3 l4 M = some r → gj_W G l 23 0 0 yX12_price cX12_price 6 (some .int) (gj_qI fun x S' M' => r.1 = x ∧ S = S' ∧ r.2 = M') 0 0 38 [(0, jR 79), (2, jI l2), (3, jI l3), (4, jI l4)] [] S M := by
  intro m
  induction m with
  | zero => intro l2 l3 l4 M hF; cases (show (none : Option (Int × gj_M)) = some r from hF)
  | succ m ih => intro l2 l3 l4 M hF; exact t_B_X12_price_38 hst (fun l2 l3 l4 M h => ih l2 l3 l4 M h) l2 l3 l4 M hF
set_option maxHeartbeats 4000000 in
set_option maxRecDepth 20000 in
theorem t_X12_price (hst : gj_Stat S) (a1 a2 : Int) {r : Int × gj_M} (hF : F_X12_price a1 a2 M = some r) : gj_C G l 23 0 0 yX12_price cX12_price 6 (some .int) [jR 79, jI a1, jI a2] S M (gj_qI fun x S' M' => r.1 = x ∧ S = S' ∧ r.2 = M') := by
  refine gj_Cof (by decide +kernel) (Nat.le_of_ble_eq_true rfl) ?_
  change gj_W G l 23 0 0 yX12_price cX12_price 6 (some .int) (gj_qI fun x S' M' => r.1 = x ∧ S = S' ∧ r.2 = M') 0 0 0 [(0, jR 79), (1, jI a1), (2, jI a2)] [] S M
  unfold F_X12_price at hF
  refine gj_aload_n (q := 1) (gj_dk okX12_price 0 rfl) rfl rfl ?_
  refine gj_iload_n (q := 2) (gj_dk okX12_price 1 rfl) rfl rfl ?_
  obtain ⟨x1, hG, hF⟩ := gj_bndd hF
  refine gj_callV (q := 5) (z := 79) (ci := 10) [jI a1] rfl (t_X12_who hst a1 hG) (gj_dk okX12_price 2 rfl) ml_X12_281 me_X12_who (sh79 hst) rfl (gj_nm rfl) rfl (gj_kI fun y S2 M2 h => ?_)
  obtain ⟨e, eS, eM⟩ := h; subst eS; subst eM; subst e; clear hG
  refine gj_istore_n (q := 6) (gj_dk okX12_price 3 rfl) (by decide) rfl ?_
  refine gj_iload_n (q := 7) (gj_dk okX12_price 4 rfl) rfl rfl ?_
  refine gj_iconst (q := 8) (gj_dk okX12_price 5 rfl) (by decide) rfl ?_
  refine gj_icmp_eq (q := 11) (tgt := 28) (gj_dk okX12_price 6 rfl) (by decide) rfl (fun c8 => ?_) (fun c8 => ?_)
  · -- 28
    replace hF := gj_ift c8 hF
    refine gj_iconst (q := 29) (gj_dk okX12_price 16 rfl) (by decide) rfl ?_
    cases hF
    exact gj_iret (gj_dk okX12_price 17 rfl) rfl ⟨_, rfl, rfl, rfl, rfl⟩
  · -- 11
    replace hF := gj_iff c8 hF
    refine gj_iload_n (q := 12) (gj_dk okX12_price 7 rfl) rfl rfl ?_
    refine gj_callS (q := 15) [jI a2] rfl (t_X12_areMays hst a2 rfl) (gj_dk okX12_price 8 rfl) ml_X12_353 me_X12_areMays (gj_nm rfl) rfl (gj_kI fun x S2 M2 h => ?_)
    obtain ⟨bz, e, eS, eM⟩ := h; subst eS; subst eM; subst e
    refine gj_stpZ bz hF (fun x3 bx3 hF => ?_)
    refine gj_if_eq (q := 18) (tgt := 28) (gj_dk okX12_price 9 rfl) (by decide) rfl (fun c15 => ?_) (fun c15 => ?_)
    · -- 28
      replace hF := gj_ift c15 hF
      refine gj_iconst (q := 29) (gj_dk okX12_price 16 rfl) (by decide) rfl ?_
      cases hF
      exact gj_iret (gj_dk okX12_price 17 rfl) rfl ⟨_, rfl, rfl, rfl, rfl⟩
    · -- 18
      replace hF := gj_iff c15 hF
      refine gj_aload_n (q := 19) (gj_dk okX12_price 10 rfl) rfl rfl ?_
      refine gj_gR (q := 22) (j := 20) (gj_dk okX12_price 11 rfl) ff_X12_77 (sh79 hst) (by decide) rfl (rf79_20 hst) rfl ?_
      refine gj_iload_n (q := 23) (gj_dk okX12_price 12 rfl) rfl rfl ?_
      obtain ⟨b4, hF⟩ := gj_ckd hF
      refine gj_iald (q := 24) (gj_dk okX12_price 13 rfl) (sh108 hst) b4.1 b4.2 rfl ?_
      refine gj_iconst (q := 25) (gj_dk okX12_price 14 rfl) (by decide) rfl ?_
      refine gj_icmp_ne (q := 28) (tgt := 30) (gj_dk okX12_price 15 rfl) (by decide) rfl (fun c25 => ?_) (fun c25 => ?_)
      · -- 30
        replace hF := gj_iff c25 hF
        refine gj_aload_n (q := 31) (gj_dk okX12_price 18 rfl) rfl rfl ?_
        refine gj_iload_n (q := 32) (gj_dk okX12_price 19 rfl) rfl rfl ?_
        obtain ⟨M6, hG, hF⟩ := gj_bndd hF
        refine gj_callV (q := 35) (z := 79) (ci := 10) [jI x1] rfl (t_X12_lays hst x1 hG) (gj_dk okX12_price 20 rfl) ml_X12_345 me_X12_lays (sh79 hst) rfl (gj_nm rfl) rfl (gj_kV fun S2 M2 h => ?_)
        obtain ⟨eS, eM⟩ := h; subst eS; subst eM; clear hG
        refine gj_iconst (q := 36) (gj_dk okX12_price 21 rfl) (by decide) rfl ?_
        refine gj_istore (q := 38) (gj_dk okX12_price 22 rfl) (by decide) rfl ?_
        refine gj_sub [(0, jR 79), (2, jI a2), (3, jI x1), (4, jI 0)] ⟨rfl, rfl, rfl, rfl, trivial⟩ ?_
        exact t_L_X12_price_38 hst gj_fu a2 x1 0 M6 hF
      · -- 28
        replace hF := gj_ift c25 hF
        refine gj_iconst (q := 29) (gj_dk okX12_price 16 rfl) (by decide) rfl ?_
        cases hF
        exact gj_iret (gj_dk okX12_price 17 rfl) rfl ⟨_, rfl, rfl, rfl, rfl⟩
def J_X12_waits_97 (l3 l4 l5 s1 s2 : Int) (M : gj_M) : Option (Int × gj_M) :=
  gj_bnd2 (F_X12_worthN 6 s1 s2 l3 M) (fun x15 M16 => gj_chk (0 ≤ l4 ∧ l4 < 8) (gj_bnd (F_X12_likesNow l4 l5 M16) (fun x18 => gj_chk (0 ≤ l4 ∧ l4 < 8) ((if M16 108 l4 = -1 then gj_letI (gj_w ((gj_w ((gj_w (1000 * (M16 83 l4))) + (gj_w ((gj_w (l3 - 1)) * x18)))) - 0)) (fun x22 => (some ((gj_w (x22 - x15), M16)))) else gj_letI (gj_w ((gj_w ((gj_w (1000 * (M16 83 l4))) + (gj_w ((gj_w (l3 - 1)) * x18)))) - (gj_w (1000 * (M16 79 36))))) (fun x21 => (some ((gj_w (x21 - x15), M16)))))))))
def F_X12_waits (a1 : Int) (a2 : Int) (a3 : Int) (M : gj_M) : Option (Int × gj_M) :=
  gj_bnd (F_X12_who a1 M) (fun x1 => gj_bnd (F_X12_who a2 M) (fun x3 => gj_letI (f_X12_areTwo x1 x3 M) (fun x5 => (if x5 = 0 then (some ((-2147483648, M))) else gj_letI (f_X12_in a3 2 4 M) (fun x6 => (if x6 = 0 then (some ((-2147483648, M))) else gj_chk (0 ≤ x1 ∧ x1 < 8) ((if M 108 x1 = x3 then (some ((-2147483648, M))) else gj_bnd (F_X12_lays x1 M) (fun M9 => gj_let (gj_up M9 79 37 (Int.tmod x3 4)) (fun M10 => gj_bnd (F_X12_mateOf x1 M10) (fun x11 => gj_chk (0 ≤ x1 ∧ x1 < 8) ((if M10 108 x1 = -1 then (J_X12_waits_97 a3 x1 x3 x11 0 M10) else gj_chk (0 ≤ x1 ∧ x1 < 8) ((J_X12_waits_97 a3 x1 x3 x11 (M10 109 x1) M10)))))))))))))))
set_option maxHeartbeats 4000000 in
set_option maxRecDepth 20000 in
theorem t_J_X12_waits_97 (hst : gj_Stat S) {r : Int × gj_M} (l3 l4 l5 s1 s2 : Int) (M : gj_M) (hF : J_X12_waits_97 l3 l4 l5 s1 s2 M = some r) : gj_W G l 23 0 0 yX12_waits cX12_waits 8 (some .int) (gj_qI fun x S' M' => r.1 = x ∧ S = S' ∧ r.2 = M') 0 0 97 [(0, jR 79), (3, jI l3), (4, jI l4), (5, jI l5)] [jI s2, jI s1, jR 79] S M := by
  unfold J_X12_waits_97 at hF
  refine gj_iload_n (q := 98) (gj_dk okX12_waits 50 rfl) rfl rfl ?_
  obtain ⟨x15, M16, hG, hF⟩ := gj_bnd2d hF
  refine gj_callV (q := 101) (z := 79) (ci := 10) [jI s1, jI s2, jI l3] rfl (t_X12_worthC hst s1 s2 l3 hG) (gj_dk okX12_waits 51 rfl) ml_X12_330 me_X12_worth (sh79 hst) rfl (gj_nm rfl) rfl (gj_kI fun y S2 M2 h => ?_)
  obtain ⟨e, eS, eM⟩ := h; subst eS; subst eM; subst e; clear hG
  dsimp only
  refine gj_istore (q := 103) (gj_dk okX12_waits 52 rfl) (by decide) rfl ?_
  refine gj_sipush (q := 106) (gj_dk okX12_waits 53 rfl) (by decide) rfl rfl ?_
  refine gj_aload_n (q := 107) (gj_dk okX12_waits 54 rfl) rfl rfl ?_
  refine gj_gR (q := 110) (j := 7) (gj_dk okX12_waits 55 rfl) ff_X12_19 (sh79 hst) (by decide) rfl (rf79_7 hst) rfl ?_
  refine gj_iconst (q := 111) (gj_dk okX12_waits 56 rfl) (by decide) rfl ?_
  refine gj_aald (q := 112) (gj_dk okX12_waits 57 rfl) (sh82 hst) (by decide) (by decide) (by decide) (rf82_0 hst) rfl ?_
  refine gj_iload (q := 114) (gj_dk okX12_waits 58 rfl) rfl rfl ?_
  obtain ⟨b17, hF⟩ := gj_ckd hF
  refine gj_iald (q := 115) (gj_dk okX12_waits 59 rfl) (sh83 hst) b17.1 b17.2 rfl ?_
  refine gj_imul (q := 116) (gj_dk okX12_waits 60 rfl) rfl ?_
  refine gj_iload_n (q := 117) (gj_dk okX12_waits 61 rfl) rfl rfl ?_
  refine gj_iconst (q := 118) (gj_dk okX12_waits 62 rfl) (by decide) rfl ?_
  refine gj_isub (q := 119) (gj_dk okX12_waits 63 rfl) rfl ?_
  refine gj_aload_n (q := 120) (gj_dk okX12_waits 64 rfl) rfl rfl ?_
  refine gj_iload (q := 122) (gj_dk okX12_waits 65 rfl) rfl rfl ?_
  refine gj_iload (q := 124) (gj_dk okX12_waits 66 rfl) rfl rfl ?_
  obtain ⟨x18, hG, hF⟩ := gj_bndd hF
  refine gj_callV (q := 127) (z := 79) (ci := 10) [jI l4, jI l5] rfl (t_X12_likesNow hst l4 l5 hG) (gj_dk okX12_waits 67 rfl) ml_X12_311 me_X12_likesNow (sh79 hst) rfl (gj_nm rfl) rfl (gj_kI fun y S2 M2 h => ?_)
  obtain ⟨e, eS, eM⟩ := h; subst eS; subst eM; subst e; clear hG
  refine gj_imul (q := 128) (gj_dk okX12_waits 68 rfl) rfl ?_
  refine gj_iadd (q := 129) (gj_dk okX12_waits 69 rfl) rfl ?_
  refine gj_aload_n (q := 130) (gj_dk okX12_waits 70 rfl) rfl rfl ?_
  refine gj_gR (q := 133) (j := 20) (gj_dk okX12_waits 71 rfl) ff_X12_77 (sh79 hst) (by decide) rfl (rf79_20 hst) rfl ?_
  refine gj_iload (q := 135) (gj_dk okX12_waits 72 rfl) rfl rfl ?_
  obtain ⟨b20, hF⟩ := gj_ckd hF
  refine gj_iald (q := 136) (gj_dk okX12_waits 73 rfl) (sh108 hst) b20.1 b20.2 rfl ?_
  refine gj_iconst (q := 137) (gj_dk okX12_waits 74 rfl) (by decide) rfl ?_
  refine gj_icmp_ne (q := 140) (tgt := 144) (gj_dk okX12_waits 75 rfl) (by decide) rfl (fun c137 => ?_) (fun c137 => ?_)
  · -- 144
    replace hF := gj_iff c137 hF
    refine gj_sipush (q := 147) (gj_dk okX12_waits 78 rfl) (by decide) rfl rfl ?_
    refine gj_aload_n (q := 148) (gj_dk okX12_waits 79 rfl) rfl rfl ?_
    refine gj_gI (q := 151) (j := 36) (gj_dk okX12_waits 80 rfl) ff_X12_323 (sh79 hst) (by decide) rfl rfl ?_
    refine gj_imul (q := 152) (gj_dk okX12_waits 81 rfl) rfl ?_
    refine gj_isub (q := 153) (gj_dk okX12_waits 82 rfl) rfl ?_
    refine gj_stpI hF (fun x21 hF => ?_)
    refine gj_istore (q := 155) (gj_dk okX12_waits 83 rfl) (by decide) rfl ?_
    refine gj_iload (q := 157) (gj_dk okX12_waits 84 rfl) rfl rfl ?_
    refine gj_iload (q := 159) (gj_dk okX12_waits 85 rfl) rfl rfl ?_
    refine gj_isub (q := 160) (gj_dk okX12_waits 86 rfl) rfl ?_
    cases hF
    exact gj_iret (gj_dk okX12_waits 87 rfl) rfl ⟨_, rfl, rfl, rfl, rfl⟩
  · -- 140
    replace hF := gj_ift c137 hF
    refine gj_iconst (q := 141) (gj_dk okX12_waits 76 rfl) (by decide) rfl ?_
    refine gj_goto (tgt := 152) (gj_dk okX12_waits 77 rfl) (by decide) ?_
    refine gj_isub (q := 153) (gj_dk okX12_waits 82 rfl) rfl ?_
    refine gj_stpI hF (fun x22 hF => ?_)
    refine gj_istore (q := 155) (gj_dk okX12_waits 83 rfl) (by decide) rfl ?_
    refine gj_iload (q := 157) (gj_dk okX12_waits 84 rfl) rfl rfl ?_
    refine gj_iload (q := 159) (gj_dk okX12_waits 85 rfl) rfl rfl ?_
    refine gj_isub (q := 160) (gj_dk okX12_waits 86 rfl) rfl ?_
    cases hF
    exact gj_iret (gj_dk okX12_waits 87 rfl) rfl ⟨_, rfl, rfl, rfl, rfl⟩
set_option maxHeartbeats 4000000 in
set_option maxRecDepth 20000 in
theorem t_X12_waits (hst : gj_Stat S) (a1 a2 a3 : Int) {r : Int × gj_M} (hF : F_X12_waits a1 a2 a3 M = some r) : gj_C G l 23 0 0 yX12_waits cX12_waits 8 (some .int) [jR 79, jI a1, jI a2, jI a3] S M (gj_qI fun x S' M' => r.1 = x ∧ S = S' ∧ r.2 = M') := by
  refine gj_Cof (by decide +kernel) (Nat.le_of_ble_eq_true rfl) ?_
  change gj_W G l 23 0 0 yX12_waits cX12_waits 8 (some .int) (gj_qI fun x S' M' => r.1 = x ∧ S = S' ∧ r.2 = M') 0 0 0 [(0, jR 79), (1, jI a1), (2, jI a2), (3, jI a3)] [] S M
  unfold F_X12_waits at hF
  refine gj_aload_n (q := 1) (gj_dk okX12_waits 0 rfl) rfl rfl ?_
  refine gj_iload_n (q := 2) (gj_dk okX12_waits 1 rfl) rfl rfl ?_
  obtain ⟨x1, hG, hF⟩ := gj_bndd hF
  refine gj_callV (q := 5) (z := 79) (ci := 10) [jI a1] rfl (t_X12_who hst a1 hG) (gj_dk okX12_waits 2 rfl) ml_X12_281 me_X12_who (sh79 hst) rfl (gj_nm rfl) rfl (gj_kI fun y S2 M2 h => ?_)
  obtain ⟨e, eS, eM⟩ := h; subst eS; subst eM; subst e; clear hG
  refine gj_istore (q := 7) (gj_dk okX12_waits 3 rfl) (by decide) rfl ?_
  refine gj_aload_n (q := 8) (gj_dk okX12_waits 4 rfl) rfl rfl ?_
  refine gj_iload_n (q := 9) (gj_dk okX12_waits 5 rfl) rfl rfl ?_
  obtain ⟨x3, hG, hF⟩ := gj_bndd hF
  refine gj_callV (q := 12) (z := 79) (ci := 10) [jI a2] rfl (t_X12_who hst a2 hG) (gj_dk okX12_waits 6 rfl) ml_X12_281 me_X12_who (sh79 hst) rfl (gj_nm rfl) rfl (gj_kI fun y S2 M2 h => ?_)
  obtain ⟨e, eS, eM⟩ := h; subst eS; subst eM; subst e; clear hG
  refine gj_istore (q := 14) (gj_dk okX12_waits 7 rfl) (by decide) rfl ?_
  refine gj_iload (q := 16) (gj_dk okX12_waits 8 rfl) rfl rfl ?_
  refine gj_iload (q := 18) (gj_dk okX12_waits 9 rfl) rfl rfl ?_
  refine gj_callS (q := 21) [jI x1, jI x3] rfl (t_X12_areTwo hst x1 x3 rfl) (gj_dk okX12_waits 10 rfl) ml_X12_288 me_X12_areTwo (gj_nm rfl) rfl (gj_kI fun x S2 M2 h => ?_)
  obtain ⟨bz, e, eS, eM⟩ := h; subst eS; subst eM; subst e
  refine gj_stpZ bz hF (fun x5 bx5 hF => ?_)
  refine gj_if_eq (q := 24) (tgt := 50) (gj_dk okX12_waits 11 rfl) (by decide) rfl (fun c21 => ?_) (fun c21 => ?_)
  · -- 50
    replace hF := gj_ift c21 hF
    refine gj_ldcw (q := 53) (z := -2147483648) (gj_dk okX12_waits 24 rfl) kc_X12_284 (by decide) rfl ?_
    cases hF
    exact gj_iret (gj_dk okX12_waits 25 rfl) rfl ⟨_, rfl, rfl, rfl, rfl⟩
  · -- 24
    replace hF := gj_iff c21 hF
    refine gj_iload_n (q := 25) (gj_dk okX12_waits 12 rfl) rfl rfl ?_
    refine gj_i2l (q := 26) (gj_dk okX12_waits 13 rfl) rfl ?_
    refine gj_ldc2 (q := 29) (z := 2) (gj_dk okX12_waits 14 rfl) kl_X12_156 (by decide) rfl ?_
    refine gj_ldc2 (q := 32) (z := 4) (gj_dk okX12_waits 15 rfl) kl_X12_351 (by decide) rfl ?_
    refine gj_callS (q := 35) [jL a3, jL 2, jL 4] rfl (t_X12_in hst a3 2 4 rfl) (gj_dk okX12_waits 16 rfl) ml_X12_158 me_X12_in (gj_nm rfl) rfl (gj_kI fun x S2 M2 h => ?_)
    obtain ⟨bz, e, eS, eM⟩ := h; subst eS; subst eM; subst e
    refine gj_stpZ bz hF (fun x6 bx6 hF => ?_)
    refine gj_if_eq (q := 38) (tgt := 50) (gj_dk okX12_waits 17 rfl) (by decide) rfl (fun c35 => ?_) (fun c35 => ?_)
    · -- 50
      replace hF := gj_ift c35 hF
      refine gj_ldcw (q := 53) (z := -2147483648) (gj_dk okX12_waits 24 rfl) kc_X12_284 (by decide) rfl ?_
      cases hF
      exact gj_iret (gj_dk okX12_waits 25 rfl) rfl ⟨_, rfl, rfl, rfl, rfl⟩
    · -- 38
      replace hF := gj_iff c35 hF
      refine gj_aload_n (q := 39) (gj_dk okX12_waits 18 rfl) rfl rfl ?_
      refine gj_gR (q := 42) (j := 20) (gj_dk okX12_waits 19 rfl) ff_X12_77 (sh79 hst) (by decide) rfl (rf79_20 hst) rfl ?_
      refine gj_iload (q := 44) (gj_dk okX12_waits 20 rfl) rfl rfl ?_
      obtain ⟨b7, hF⟩ := gj_ckd hF
      refine gj_iald (q := 45) (gj_dk okX12_waits 21 rfl) (sh108 hst) b7.1 b7.2 rfl ?_
      refine gj_iload (q := 47) (gj_dk okX12_waits 22 rfl) rfl rfl ?_
      refine gj_icmp_ne (q := 50) (tgt := 54) (gj_dk okX12_waits 23 rfl) (by decide) rfl (fun c47 => ?_) (fun c47 => ?_)
      · -- 54
        replace hF := gj_iff c47 hF
        refine gj_aload_n (q := 55) (gj_dk okX12_waits 26 rfl) rfl rfl ?_
        refine gj_iload (q := 57) (gj_dk okX12_waits 27 rfl) rfl rfl ?_
        obtain ⟨M9, hG, hF⟩ := gj_bndd hF
        refine gj_callV (q := 60) (z := 79) (ci := 10) [jI x1] rfl (t_X12_lays hst x1 hG) (gj_dk okX12_waits 28 rfl) ml_X12_345 me_X12_lays (sh79 hst) rfl (gj_nm rfl) rfl (gj_kV fun S2 M2 h => ?_)
        obtain ⟨eS, eM⟩ := h; subst eS; subst eM; clear hG
        refine gj_aload_n (q := 61) (gj_dk okX12_waits 29 rfl) rfl rfl ?_
        refine gj_iload (q := 63) (gj_dk okX12_waits 30 rfl) rfl rfl ?_
        refine gj_iconst (q := 64) (gj_dk okX12_waits 31 rfl) (by decide) rfl ?_
        refine gj_irem (q := 65) (gj_dk okX12_waits 32 rfl) (by decide) rfl ?_
        refine gj_pfI (q := 68) (j := 37) (gj_dk okX12_waits 33 rfl) ff_X12_110 (sh79 hst) (by decide) rfl rfl ?_
        refine gj_stp hF (fun M10 hF => ?_)
        refine gj_aload_n (q := 69) (gj_dk okX12_waits 34 rfl) rfl rfl ?_
        refine gj_aload_n (q := 70) (gj_dk okX12_waits 35 rfl) rfl rfl ?_
        refine gj_iload (q := 72) (gj_dk okX12_waits 36 rfl) rfl rfl ?_
        obtain ⟨x11, hG, hF⟩ := gj_bndd hF
        refine gj_callV (q := 75) (z := 79) (ci := 10) [jI x1] rfl (t_X12_mateOf hst x1 hG) (gj_dk okX12_waits 37 rfl) ml_X12_348 me_X12_mateOf (sh79 hst) rfl (gj_nm rfl) rfl (gj_kI fun y S2 M2 h => ?_)
        obtain ⟨e, eS, eM⟩ := h; subst eS; subst eM; subst e; clear hG
        refine gj_aload_n (q := 76) (gj_dk okX12_waits 38 rfl) rfl rfl ?_
        refine gj_gR (q := 79) (j := 20) (gj_dk okX12_waits 39 rfl) ff_X12_77 (sh79 hst) (by decide) rfl (rf79_20 hst) rfl ?_
        refine gj_iload (q := 81) (gj_dk okX12_waits 40 rfl) rfl rfl ?_
        obtain ⟨b13, hF⟩ := gj_ckd hF
        refine gj_iald (q := 82) (gj_dk okX12_waits 41 rfl) (sh108 hst) b13.1 b13.2 rfl ?_
        refine gj_iconst (q := 83) (gj_dk okX12_waits 42 rfl) (by decide) rfl ?_
        refine gj_icmp_ne (q := 86) (tgt := 90) (gj_dk okX12_waits 43 rfl) (by decide) rfl (fun c83 => ?_) (fun c83 => ?_)
        · -- 90
          replace hF := gj_iff c83 hF
          refine gj_aload_n (q := 91) (gj_dk okX12_waits 46 rfl) rfl rfl ?_
          refine gj_gR (q := 94) (j := 21) (gj_dk okX12_waits 47 rfl) ff_X12_80 (sh79 hst) (by decide) rfl (rf79_21 hst) rfl ?_
          refine gj_iload (q := 96) (gj_dk okX12_waits 48 rfl) rfl rfl ?_
          obtain ⟨b14, hF⟩ := gj_ckd hF
          refine gj_iald (q := 97) (gj_dk okX12_waits 49 rfl) (sh109 hst) b14.1 b14.2 rfl ?_
          refine gj_sub [(0, jR 79), (3, jI a3), (4, jI x1), (5, jI x3)] ⟨rfl, rfl, rfl, rfl, trivial⟩ ?_
          exact t_J_X12_waits_97 hst a3 x1 x3 x11 (M10 109 x1) M10 hF
        · -- 86
          replace hF := gj_ift c83 hF
          refine gj_iconst (q := 87) (gj_dk okX12_waits 44 rfl) (by decide) rfl ?_
          refine gj_goto (tgt := 97) (gj_dk okX12_waits 45 rfl) (by decide) ?_
          refine gj_sub [(0, jR 79), (3, jI a3), (4, jI x1), (5, jI x3)] ⟨rfl, rfl, rfl, rfl, trivial⟩ ?_
          exact t_J_X12_waits_97 hst a3 x1 x3 x11 0 M10 hF
      · -- 50
        replace hF := gj_ift c47 hF
        refine gj_ldcw (q := 53) (z := -2147483648) (gj_dk okX12_waits 24 rfl) kc_X12_284 (by decide) rfl ?_
        cases hF
        exact gj_iret (gj_dk okX12_waits 25 rfl) rfl ⟨_, rfl, rfl, rfl, rfl⟩
def F_X12_lot (a1 : Int) (M : gj_M) : Option (Int × gj_M) :=
  gj_let (gj_up M 79 30 (gj_land (gj_wl ((gj_wl ((M 79 30) * 1103515245)) + 12345)) 2147483647)) (fun M1 => gj_chk (¬ a1 = 0) ((some ((gj_w (Int.tmod (gj_wl (Int.tdiv (M1 79 30) 256)) a1), M1)))))
set_option maxHeartbeats 4000000 in
set_option maxRecDepth 20000 in
theorem t_X12_lot (hst : gj_Stat S) (a1 : Int) {r : Int × gj_M} (hF : F_X12_lot a1 M = some r) : gj_C G l 1 0 0 yX12_lot cX12_lot 2 (some .int) [jR 79, jI a1] S M (gj_qI fun x S' M' => r.1 = x ∧ S = S' ∧ r.2 = M') := by
  refine gj_Cof (by decide +kernel) (Nat.le_of_ble_eq_true rfl) ?_
  change gj_W G l 1 0 0 yX12_lot cX12_lot 2 (some .int) (gj_qI fun x S' M' => r.1 = x ∧ S = S' ∧ r.2 = M') 0 0 0 [(0, jR 79), (1, jI a1)] [] S M
  unfold F_X12_lot at hF
  refine gj_aload_n (q := 1) (gj_dk okX12_lot 0 rfl) rfl rfl ?_
  refine gj_aload_n (q := 2) (gj_dk okX12_lot 1 rfl) rfl rfl ?_
  refine gj_gL (q := 5) (j := 30) (gj_dk okX12_lot 2 rfl) ff_X12_270 (sh79 hst) (by decide) rfl rfl ?_
  refine gj_ldc2 (q := 8) (z := 1103515245) (gj_dk okX12_lot 3 rfl) kl_X12_367 (by decide) rfl ?_
  refine gj_lmul (q := 9) (gj_dk okX12_lot 4 rfl) rfl ?_
  refine gj_ldc2 (q := 12) (z := 12345) (gj_dk okX12_lot 5 rfl) kl_X12_369 (by decide) rfl ?_
  refine gj_ladd (q := 13) (gj_dk okX12_lot 6 rfl) rfl ?_
  refine gj_ldc2 (q := 16) (z := 2147483647) (gj_dk okX12_lot 7 rfl) kl_X12_371 (by decide) rfl ?_
  refine gj_landR (q := 17) (gj_dk okX12_lot 8 rfl) rfl ?_
  refine gj_pfL (q := 20) (j := 30) (gj_dk okX12_lot 9 rfl) ff_X12_270 (sh79 hst) (by decide) rfl rfl ?_
  refine gj_stp hF (fun M1 hF => ?_)
  refine gj_aload_n (q := 21) (gj_dk okX12_lot 10 rfl) rfl rfl ?_
  refine gj_gL (q := 24) (j := 30) (gj_dk okX12_lot 11 rfl) ff_X12_270 (sh79 hst) (by decide) rfl rfl ?_
  refine gj_ldc2 (q := 27) (z := 256) (gj_dk okX12_lot 12 rfl) kl_X12_373 (by decide) rfl ?_
  refine gj_ldiv (q := 28) (gj_dk okX12_lot 13 rfl) (by decide) rfl ?_
  refine gj_iload_n (q := 29) (gj_dk okX12_lot 14 rfl) rfl rfl ?_
  refine gj_i2l (q := 30) (gj_dk okX12_lot 15 rfl) rfl ?_
  obtain ⟨b2, hF⟩ := gj_ckd hF
  refine gj_lrem (q := 31) (gj_dk okX12_lot 16 rfl) b2 rfl ?_
  refine gj_l2i (q := 32) (gj_dk okX12_lot 17 rfl) rfl ?_
  cases hF
  exact gj_iret (gj_dk okX12_lot 18 rfl) rfl ⟨_, rfl, rfl, rfl, rfl⟩
def F_X12_gives (a1 : Int) (a2 : Int) (M : gj_M) : Option (gj_M) :=
  gj_chk (0 ≤ a1 ∧ a1 < 8) (gj_let (gj_up M 119 a1 a2) (fun M2 => gj_chk (0 ≤ a2 ∧ a2 < 8) (gj_let (gj_up M2 119 a2 a1) (fun M4 => (some (M4))))))
set_option maxHeartbeats 4000000 in
set_option maxRecDepth 20000 in
theorem t_X12_gives (hst : gj_Stat S) (a1 a2 : Int) {r : gj_M} (hF : F_X12_gives a1 a2 M = some r) : gj_C G l 1 0 0 yX12_gives cX12_gives 3 none [jR 79, jI a1, jI a2] S M (gj_qV fun S' M' => S = S' ∧ r = M') := by
  refine gj_Cof (by decide +kernel) (Nat.le_of_ble_eq_true rfl) ?_
  change gj_W G l 1 0 0 yX12_gives cX12_gives 3 none (gj_qV fun S' M' => S = S' ∧ r = M') 0 0 0 [(0, jR 79), (1, jI a1), (2, jI a2)] [] S M
  unfold F_X12_gives at hF
  refine gj_aload_n (q := 1) (gj_dk okX12_gives 0 rfl) rfl rfl ?_
  refine gj_gR (q := 4) (j := 39) (gj_dk okX12_gives 1 rfl) ff_X12_114 (sh79 hst) (by decide) rfl (rf79_39 hst) rfl ?_
  refine gj_iload_n (q := 5) (gj_dk okX12_gives 2 rfl) rfl rfl ?_
  refine gj_iload_n (q := 6) (gj_dk okX12_gives 3 rfl) rfl rfl ?_
  obtain ⟨b1, hF⟩ := gj_ckd hF
  refine gj_iast (q := 7) (gj_dk okX12_gives 4 rfl) (sh119 hst) b1.1 b1.2 rfl ?_
  refine gj_stp hF (fun M2 hF => ?_)
  refine gj_aload_n (q := 8) (gj_dk okX12_gives 5 rfl) rfl rfl ?_
  refine gj_gR (q := 11) (j := 39) (gj_dk okX12_gives 6 rfl) ff_X12_114 (sh79 hst) (by decide) rfl (rf79_39 hst) rfl ?_
  refine gj_iload_n (q := 12) (gj_dk okX12_gives 7 rfl) rfl rfl ?_
  refine gj_iload_n (q := 13) (gj_dk okX12_gives 8 rfl) rfl rfl ?_
  obtain ⟨b3, hF⟩ := gj_ckd hF
  refine gj_iast (q := 14) (gj_dk okX12_gives 9 rfl) (sh119 hst) b3.1 b3.2 rfl ?_
  refine gj_stp hF (fun M4 hF => ?_)
  cases hF
  exact gj_vret (gj_dk okX12_gives 10 rfl) rfl ⟨rfl, rfl, rfl⟩
def J_X12_asks_267 (rec23 : Int → Int → gj_M → Option (gj_M)) (l1 l2 : Int) (M : gj_M) : Option (gj_M) :=
  rec23 l1 l2 M
def J_X12_asks_261 (rec23 : Int → Int → gj_M → Option (gj_M)) (rec31 : Int → Int → Int → gj_M → Option (gj_M)) (l1 l2 l3 : Int) (M : gj_M) : Option (gj_M) :=
  rec31 l1 l2 (gj_w (l3 + 1)) M
def J_X12_asks_237 (rec23 : Int → Int → gj_M → Option (gj_M)) (rec31 : Int → Int → Int → gj_M → Option (gj_M)) (l1 l2 l3 l4 l5 : Int) (M : gj_M) : Option (gj_M) :=
  gj_bnd (F_X12_gives l4 l5 M) (fun M33 => (J_X12_asks_261 rec23 rec31 l1 l2 l3 M33))
def J_X12_asks_171 (rec23 : Int → Int → gj_M → Option (gj_M)) (rec31 : Int → Int → Int → gj_M → Option (gj_M)) (l1 l2 l3 l4 l5 : Int) (M : gj_M) : Option (gj_M) :=
  (if l5 = -1 then (J_X12_asks_261 rec23 rec31 l1 l2 l3 M) else gj_chk (0 ≤ l5 ∧ l5 < 8) ((if M 119 l5 = -1 then (if M 119 l5 = -1 then (J_X12_asks_237 rec23 rec31 l1 1 l3 l4 l5 M) else gj_chk (0 ≤ M 119 l5 ∧ M 119 l5 < 8) (gj_let (gj_up M 119 (M 119 l5) (-1)) (fun M18 => gj_letI (f_X12_two (M 119 l5) l5 M18) (fun x19 => gj_chk (0 ≤ x19 ∧ x19 < 16) (gj_let (gj_up M18 121 x19 1) (fun M21 => (J_X12_asks_237 rec23 rec31 l1 1 l3 l4 l5 M21))))))) else gj_bnd (F_X12_isSooner l5 l4 (M 119 l5) M) (fun x22 => (if x22 = 0 then gj_letI (f_X12_two l4 l5 M) (fun x24 => gj_chk (0 ≤ x24 ∧ x24 < 16) (gj_let (gj_up M 121 x24 1) (fun M26 => (J_X12_asks_261 rec23 rec31 l1 1 l3 M26)))) else (if M 119 l5 = -1 then (J_X12_asks_237 rec23 rec31 l1 1 l3 l4 l5 M) else gj_chk (0 ≤ M 119 l5 ∧ M 119 l5 < 8) (gj_let (gj_up M 119 (M 119 l5) (-1)) (fun M28 => gj_letI (f_X12_two (M 119 l5) l5 M28) (fun x29 => gj_chk (0 ≤ x29 ∧ x29 < 16) (gj_let (gj_up M28 121 x29 1) (fun M31 => (J_X12_asks_237 rec23 rec31 l1 1 l3 l4 l5 M31))))))))))))
def J_X12_asks_165 (rec23 : Int → Int → gj_M → Option (gj_M)) (rec31 : Int → Int → Int → gj_M → Option (gj_M)) (rec81 : Int → Int → Int → Int → Int → Int → gj_M → Option (gj_M)) (l1 l2 l3 l4 l5 l6 : Int) (M : gj_M) : Option (gj_M) :=
  rec81 l1 l2 l3 l4 l5 (gj_w (l6 + 1)) M
def B_X12_asks_81 (rec23 : Int → Int → gj_M → Option (gj_M)) (rec31 : Int → Int → Int → gj_M → Option (gj_M)) (rec81 : Int → Int → Int → Int → Int → Int → gj_M → Option (gj_M)) (l1 l2 l3 l4 l5 l6 : Int) (M : gj_M) : Option (gj_M) :=
  gj_chk (0 ≤ gj_w (1 - l1) ∧ gj_w (1 - l1) < 2) ((if M 101 (gj_w (1 - l1)) ≤ l6 then (J_X12_asks_171 rec23 rec31 l1 l2 l3 l4 l5 M) else gj_letI (gj_w ((gj_w (4 * (gj_w (1 - l1)))) + l6)) (fun x8 => gj_chk (0 ≤ x8 ∧ x8 < 8) ((if M 120 x8 = 0 then gj_letI (f_X12_two l4 x8 M) (fun x10 => gj_chk (0 ≤ x10 ∧ x10 < 16) ((if M 121 x10 = 0 then gj_bnd (F_X12_both l4 x8 M) (fun x12 => (if x12 = 0 then (J_X12_asks_165 rec23 rec31 rec81 l1 l2 l3 l4 l5 l6 M) else (if l5 = -1 then (J_X12_asks_165 rec23 rec31 rec81 l1 l2 l3 l4 x8 l6 M) else gj_bnd (F_X12_isSooner l4 x8 l5 M) (fun x14 => (if x14 = 0 then (J_X12_asks_165 rec23 rec31 rec81 l1 l2 l3 l4 l5 l6 M) else (J_X12_asks_165 rec23 rec31 rec81 l1 l2 l3 l4 x8 l6 M)))))) else (J_X12_asks_165 rec23 rec31 rec81 l1 l2 l3 l4 l5 l6 M)))) else (J_X12_asks_165 rec23 rec31 rec81 l1 l2 l3 l4 l5 l6 M))))))
def B_X12_asks_31 (rec23 : Int → Int → gj_M → Option (gj_M)) (rec31 : Int → Int → Int → gj_M → Option (gj_M)) (l1 l2 l3 : Int) (M : gj_M) : Option (gj_M) :=
  gj_chk (0 ≤ l1 ∧ l1 < 2) ((if M 101 l1 ≤ l3 then (J_X12_asks_267 rec23 l1 l2 M) else gj_letI (gj_w ((gj_w (4 * l1)) + l3)) (fun x4 => gj_chk (0 ≤ x4 ∧ x4 < 8) ((if M 120 x4 = 1 then (J_X12_asks_261 rec23 rec31 l1 l2 l3 M) else gj_chk (0 ≤ x4 ∧ x4 < 8) ((if M 119 x4 = -1 then (gj_it (fun _ _ _ _ _ _ _ => none) (B_X12_asks_81 rec23 rec31) gj_fu l1 l2 l3 x4 (-1) 0 M) else (J_X12_asks_261 rec23 rec31 l1 l2 l3 M))))))))
def B_X12_asks_23 (rec23 : Int → Int → gj_M → Option (gj_M)) (l1 l2 : Int) (M : gj_M) : Option (gj_M) :=
  (if l2 = 0 then (some (M)) else (gj_it (fun _ _ _ _ => none) (B_X12_asks_31 rec23) gj_fu l1 0 0 M))
def J_X12_asks_21 (l1 : Int) (M : gj_M) : Option (gj_M) :=
  (gj_it (fun _ _ _ => none) (B_X12_asks_23) gj_fu l1 1 M)
def B_X12_asks_2 (rec2 : Int → Int → gj_M → Option (gj_M)) (l1 l2 : Int) (M : gj_M) : Option (gj_M) :=
  (if 16 ≤ l2 then (J_X12_asks_21 l1 M) else gj_chk (0 ≤ l2 ∧ l2 < 16) (gj_let (gj_up M 121 l2 0) (fun M2 => rec2 l1 (gj_w (l2 + 1)) M2)))
def F_X12_asks (a1 : Int) (M : gj_M) : Option (gj_M) :=
  (gj_it (fun _ _ _ => none) (B_X12_asks_2) gj_fu a1 0 M)
set_option maxHeartbeats 4000000 in
set_option maxRecDepth 20000 in
theorem t_J_X12_asks_267 (hst : gj_Stat S) {r : gj_M} {rec23 : Int → Int → gj_M → Option (gj_M)} (hrec23 : ∀ (l1 l2 : Int) (M : gj_M), rec23 l1 l2 M = some r → gj_W G l 6 0 0 yX12_asks cX12_asks 8 none (gj_qV fun S' M' => S = S' ∧ r = M') 0 0 23 [(0, jR 79), (1, jI l1), (2, jI l2)] [] S M) (l1 l2 : Int) (M : gj_M) (hF : J_X12_asks_267 rec23 l1 l2 M = some r) : gj_W G l 6 0 0 yX12_asks cX12_asks 8 none (gj_qV fun S' M' => S = S' ∧ r = M') 0 0 267 [(0, jR 79), (1, jI l1), (2, jI l2)] [] S M := by
  unfold J_X12_asks_267 at hF
  refine gj_goto (tgt := 23) (gj_dk okX12_asks 148 rfl) (by decide) ?_
  refine gj_sub [(0, jR 79), (1, jI l1), (2, jI l2)] ⟨rfl, rfl, rfl, trivial⟩ ?_
  exact hrec23 l1 l2 M hF
set_option maxHeartbeats 4000000 in
set_option maxRecDepth 20000 in
theorem t_J_X12_asks_261 (hst : gj_Stat S) {r : gj_M} {rec23 : Int → Int → gj_M → Option (gj_M)} {rec31 : Int → Int → Int → gj_M → Option (gj_M)} (hrec23 : ∀ (l1 l2 : Int) (M : gj_M), rec23 l1 l2 M = some r → gj_W G l 6 0 0 yX12_asks cX12_asks 8 none (gj_qV fun S' M' => S = S' ∧ r = M') 0 0 23 [(0, jR 79), (1, jI l1), (2, jI l2)] [] S M) (hrec31 : ∀ (l1 l2 l3 : Int) (M : gj_M), rec31 l1 l2 l3 M = some r → gj_W G l 6 0 0 yX12_asks cX12_asks 8 none (gj_qV fun S' M' => S = S' ∧ r = M') 0 0 31 [(0, jR 79), (1, jI l1), (2, jI l2), (3, jI l3)] [] S M) (l1 l2 l3 : Int) (M : gj_M) (hF : J_X12_asks_261 rec23 rec31 l1 l2 l3 M = some r) : gj_W G l 6 0 0 yX12_asks cX12_asks 8 none (gj_qV fun S' M' => S = S' ∧ r = M') 0 0 261 [(0, jR 79), (1, jI l1), (2, jI l2), (3, jI l3)] [] S M := by
  unfold J_X12_asks_261 at hF
  refine gj_iinc (q := 264) (v := gj_w (l3 + 1)) (gj_dk okX12_asks 146 rfl) rfl (by decide) rfl rfl ?_
  refine gj_goto (tgt := 31) (gj_dk okX12_asks 147 rfl) (by decide) ?_
  refine gj_sub [(0, jR 79), (1, jI l1), (2, jI l2), (3, jI (gj_w (l3 + 1)))] ⟨rfl, rfl, rfl, rfl, trivial⟩ ?_
  exact hrec31 l1 l2 (gj_w (l3 + 1)) M hF
set_option maxHeartbeats 4000000 in
set_option maxRecDepth 20000 in
theorem t_J_X12_asks_237 (hst : gj_Stat S) {r : gj_M} {rec23 : Int → Int → gj_M → Option (gj_M)} {rec31 : Int → Int → Int → gj_M → Option (gj_M)} (hrec23 : ∀ (l1 l2 : Int) (M : gj_M), rec23 l1 l2 M = some r → gj_W G l 6 0 0 yX12_asks cX12_asks 8 none (gj_qV fun S' M' => S = S' ∧ r = M') 0 0 23 [(0, jR 79), (1, jI l1), (2, jI l2)] [] S M) (hrec31 : ∀ (l1 l2 l3 : Int) (M : gj_M), rec31 l1 l2 l3 M = some r → gj_W G l 6 0 0 yX12_asks cX12_asks 8 none (gj_qV fun S' M' => S = S' ∧ r = M') 0 0 31 [(0, jR 79), (1, jI l1), (2, jI l2), (3, jI l3)] [] S M) (l1 l2 l3 l4 l5 : Int) (M : gj_M) (hF : J_X12_asks_237 rec23 rec31 l1 l2 l3 l4 l5 M = some r) : gj_W G l 6 0 0 yX12_asks cX12_asks 8 none (gj_qV fun S' M' => S = S' ∧ r = M') 0 0 237 [(0, jR 79), (1, jI l1), (2, jI l2), (3, jI l3), (4, jI l4), (5, jI l5)] [] S M := by
  unfold J_X12_asks_237 at hF
  refine gj_aload_n (q := 238) (gj_dk okX12_asks 134 rfl) rfl rfl ?_
  refine gj_iload (q := 240) (gj_dk okX12_asks 135 rfl) rfl rfl ?_
  refine gj_iload (q := 242) (gj_dk okX12_asks 136 rfl) rfl rfl ?_
  obtain ⟨M33, hG, hF⟩ := gj_bndd hF
  refine gj_callV (q := 245) (z := 79) (ci := 10) [jI l4, jI l5] rfl (t_X12_gives hst l4 l5 hG) (gj_dk okX12_asks 137 rfl) ml_X12_378 me_X12_gives (sh79 hst) rfl (gj_nm rfl) rfl (gj_kV fun S2 M2 h => ?_)
  obtain ⟨eS, eM⟩ := h; subst eS; subst eM; clear hG
  refine gj_goto (tgt := 261) (gj_dk okX12_asks 138 rfl) (by decide) ?_
  refine gj_sub [(0, jR 79), (1, jI l1), (2, jI l2), (3, jI l3)] ⟨rfl, rfl, rfl, rfl, trivial⟩ ?_
  exact t_J_X12_asks_261 hst hrec23 hrec31 l1 l2 l3 M33 hF
set_option maxHeartbeats 4000000 in
set_option maxRecDepth 20000 in
theorem t_J_X12_asks_171 (hst : gj_Stat S) {r : gj_M} {rec23 : Int → Int → gj_M → Option (gj_M)} {rec31 : Int → Int → Int → gj_M → Option (gj_M)} (hrec23 : ∀ (l1 l2 : Int) (M : gj_M), rec23 l1 l2 M = some r → gj_W G l 6 0 0 yX12_asks cX12_asks 8 none (gj_qV fun S' M' => S = S' ∧ r = M') 0 0 23 [(0, jR 79), (1, jI l1), (2, jI l2)] [] S M) (hrec31 : ∀ (l1 l2 l3 : Int) (M : gj_M), rec31 l1 l2 l3 M = some r → gj_W G l 6 0 0 yX12_asks cX12_asks 8 none (gj_qV fun S' M' => S = S' ∧ r = M') 0 0 31 [(0, jR 79), (1, jI l1), (2, jI l2), (3, jI l3)] [] S M) (l1 l2 l3 l4 l5 : Int) (M : gj_M) (hF : J_X12_asks_171 rec23 rec31 l1 l2 l3 l4 l5 M = some r) : gj_W G l 6 0 0 yX12_asks cX12_asks 8 none (gj_qV fun S' M' => S = S' ∧ r = M') 0 0 171 [(0, jR 79), (1, jI l1), (2, jI l2), (3, jI l3), (4, jI l4), (5, jI l5)] [] S M := by
  unfold J_X12_asks_171 at hF
  refine gj_iload (q := 173) (gj_dk okX12_asks 99 rfl) rfl rfl ?_
  refine gj_iconst (q := 174) (gj_dk okX12_asks 100 rfl) (by decide) rfl ?_
  refine gj_icmp_ne (q := 177) (tgt := 180) (gj_dk okX12_asks 101 rfl) (by decide) rfl (fun c174 => ?_) (fun c174 => ?_)
  · -- 180
    replace hF := gj_iff c174 hF
    refine gj_iconst (q := 181) (gj_dk okX12_asks 103 rfl) (by decide) rfl ?_
    refine gj_istore_n (q := 182) (gj_dk okX12_asks 104 rfl) (by decide) rfl ?_
    refine gj_aload_n (q := 183) (gj_dk okX12_asks 105 rfl) rfl rfl ?_
    refine gj_gR (q := 186) (j := 39) (gj_dk okX12_asks 106 rfl) ff_X12_114 (sh79 hst) (by decide) rfl (rf79_39 hst) rfl ?_
    refine gj_iload (q := 188) (gj_dk okX12_asks 107 rfl) rfl rfl ?_
    obtain ⟨b16, hF⟩ := gj_ckd hF
    refine gj_iald (q := 189) (gj_dk okX12_asks 108 rfl) (sh119 hst) b16.1 b16.2 rfl ?_
    refine gj_istore (q := 191) (gj_dk okX12_asks 109 rfl) (by decide) rfl ?_
    refine gj_iload (q := 193) (gj_dk okX12_asks 110 rfl) rfl rfl ?_
    refine gj_iconst (q := 194) (gj_dk okX12_asks 111 rfl) (by decide) rfl ?_
    refine gj_icmp_eq (q := 197) (tgt := 210) (gj_dk okX12_asks 112 rfl) (by decide) rfl (fun c194 => ?_) (fun c194 => ?_)
    · -- 210
      replace hF := gj_ift c194 hF
      refine gj_iload (q := 212) (gj_dk okX12_asks 119 rfl) rfl rfl ?_
      refine gj_iconst (q := 213) (gj_dk okX12_asks 120 rfl) (by decide) rfl ?_
      refine gj_icmp_eq (q := 216) (tgt := 237) (gj_dk okX12_asks 121 rfl) (by decide) rfl (fun c213 => ?_) (fun c213 => ?_)
      · -- 237
        replace hF := gj_ift c213 hF
        refine gj_sub [(0, jR 79), (1, jI l1), (2, jI 1), (3, jI l3), (4, jI l4), (5, jI l5)] ⟨rfl, rfl, rfl, rfl, rfl, rfl, trivial⟩ ?_
        exact t_J_X12_asks_237 hst hrec23 hrec31 l1 1 l3 l4 l5 M hF
      · -- 216
        replace hF := gj_iff c213 hF
        refine gj_aload_n (q := 217) (gj_dk okX12_asks 122 rfl) rfl rfl ?_
        refine gj_gR (q := 220) (j := 39) (gj_dk okX12_asks 123 rfl) ff_X12_114 (sh79 hst) (by decide) rfl (rf79_39 hst) rfl ?_
        refine gj_iload (q := 222) (gj_dk okX12_asks 124 rfl) rfl rfl ?_
        refine gj_iconst (q := 223) (gj_dk okX12_asks 125 rfl) (by decide) rfl ?_
        obtain ⟨b17, hF⟩ := gj_ckd hF
        refine gj_iast (q := 224) (gj_dk okX12_asks 126 rfl) (sh119 hst) b17.1 b17.2 rfl ?_
        refine gj_stp hF (fun M18 hF => ?_)
        refine gj_aload_n (q := 225) (gj_dk okX12_asks 127 rfl) rfl rfl ?_
        refine gj_gR (q := 228) (j := 41) (gj_dk okX12_asks 128 rfl) ff_X12_120 (sh79 hst) (by decide) rfl (rf79_41 hst) rfl ?_
        refine gj_iload (q := 230) (gj_dk okX12_asks 129 rfl) rfl rfl ?_
        refine gj_iload (q := 232) (gj_dk okX12_asks 130 rfl) rfl rfl ?_
        refine gj_callS (q := 235) [jI (M 119 l5), jI l5] rfl (t_X12_two hst (M 119 l5) l5 rfl) (gj_dk okX12_asks 131 rfl) ml_X12_292 me_X12_two (gj_nm rfl) rfl (gj_kI fun x S2 M2 h => ?_)
        obtain ⟨e, eS, eM⟩ := h; subst eS; subst eM; subst e
        refine gj_stpI hF (fun x19 hF => ?_)
        refine gj_iconst (q := 236) (gj_dk okX12_asks 132 rfl) (by decide) rfl ?_
        obtain ⟨b20, hF⟩ := gj_ckd hF
        refine gj_iast (q := 237) (gj_dk okX12_asks 133 rfl) (sh121 hst) b20.1 b20.2 rfl ?_
        refine gj_stp hF (fun M21 hF => ?_)
        refine gj_sub [(0, jR 79), (1, jI l1), (2, jI 1), (3, jI l3), (4, jI l4), (5, jI l5)] ⟨rfl, rfl, rfl, rfl, rfl, rfl, trivial⟩ ?_
        exact t_J_X12_asks_237 hst hrec23 hrec31 l1 1 l3 l4 l5 M21 hF
    · -- 197
      replace hF := gj_iff c194 hF
      refine gj_aload_n (q := 198) (gj_dk okX12_asks 113 rfl) rfl rfl ?_
      refine gj_iload (q := 200) (gj_dk okX12_asks 114 rfl) rfl rfl ?_
      refine gj_iload (q := 202) (gj_dk okX12_asks 115 rfl) rfl rfl ?_
      refine gj_iload (q := 204) (gj_dk okX12_asks 116 rfl) rfl rfl ?_
      obtain ⟨x22, hG, hF⟩ := gj_bndd hF
      refine gj_callV (q := 207) (z := 79) (ci := 10) [jI l5, jI l4, jI (M 119 l5)] rfl (t_X12_isSooner hst l5 l4 (M 119 l5) hG) (gj_dk okX12_asks 117 rfl) ml_X12_314 me_X12_isSooner (sh79 hst) rfl (gj_nm rfl) rfl (gj_kI fun y S2 M2 h => ?_)
      obtain ⟨bx22, e, eS, eM⟩ := h; subst eS; subst eM; subst e; clear hG
      refine gj_if_eq (q := 210) (tgt := 248) (gj_dk okX12_asks 118 rfl) (by decide) rfl (fun c207 => ?_) (fun c207 => ?_)
      · -- 248
        replace hF := gj_ift c207 hF
        refine gj_aload_n (q := 249) (gj_dk okX12_asks 139 rfl) rfl rfl ?_
        refine gj_gR (q := 252) (j := 41) (gj_dk okX12_asks 140 rfl) ff_X12_120 (sh79 hst) (by decide) rfl (rf79_41 hst) rfl ?_
        refine gj_iload (q := 254) (gj_dk okX12_asks 141 rfl) rfl rfl ?_
        refine gj_iload (q := 256) (gj_dk okX12_asks 142 rfl) rfl rfl ?_
        refine gj_callS (q := 259) [jI l4, jI l5] rfl (t_X12_two hst l4 l5 rfl) (gj_dk okX12_asks 143 rfl) ml_X12_292 me_X12_two (gj_nm rfl) rfl (gj_kI fun x S2 M2 h => ?_)
        obtain ⟨e, eS, eM⟩ := h; subst eS; subst eM; subst e
        refine gj_stpI hF (fun x24 hF => ?_)
        refine gj_iconst (q := 260) (gj_dk okX12_asks 144 rfl) (by decide) rfl ?_
        obtain ⟨b25, hF⟩ := gj_ckd hF
        refine gj_iast (q := 261) (gj_dk okX12_asks 145 rfl) (sh121 hst) b25.1 b25.2 rfl ?_
        refine gj_stp hF (fun M26 hF => ?_)
        refine gj_sub [(0, jR 79), (1, jI l1), (2, jI 1), (3, jI l3)] ⟨rfl, rfl, rfl, rfl, trivial⟩ ?_
        exact t_J_X12_asks_261 hst hrec23 hrec31 l1 1 l3 M26 hF
      · -- 210
        replace hF := gj_iff c207 hF
        refine gj_iload (q := 212) (gj_dk okX12_asks 119 rfl) rfl rfl ?_
        refine gj_iconst (q := 213) (gj_dk okX12_asks 120 rfl) (by decide) rfl ?_
        refine gj_icmp_eq (q := 216) (tgt := 237) (gj_dk okX12_asks 121 rfl) (by decide) rfl (fun c213 => ?_) (fun c213 => ?_)
        · -- 237
          replace hF := gj_ift c213 hF
          refine gj_sub [(0, jR 79), (1, jI l1), (2, jI 1), (3, jI l3), (4, jI l4), (5, jI l5)] ⟨rfl, rfl, rfl, rfl, rfl, rfl, trivial⟩ ?_
          exact t_J_X12_asks_237 hst hrec23 hrec31 l1 1 l3 l4 l5 M hF
        · -- 216
          replace hF := gj_iff c213 hF
          refine gj_aload_n (q := 217) (gj_dk okX12_asks 122 rfl) rfl rfl ?_
          refine gj_gR (q := 220) (j := 39) (gj_dk okX12_asks 123 rfl) ff_X12_114 (sh79 hst) (by decide) rfl (rf79_39 hst) rfl ?_
          refine gj_iload (q := 222) (gj_dk okX12_asks 124 rfl) rfl rfl ?_
          refine gj_iconst (q := 223) (gj_dk okX12_asks 125 rfl) (by decide) rfl ?_
          obtain ⟨b27, hF⟩ := gj_ckd hF
          refine gj_iast (q := 224) (gj_dk okX12_asks 126 rfl) (sh119 hst) b27.1 b27.2 rfl ?_
          refine gj_stp hF (fun M28 hF => ?_)
          refine gj_aload_n (q := 225) (gj_dk okX12_asks 127 rfl) rfl rfl ?_
          refine gj_gR (q := 228) (j := 41) (gj_dk okX12_asks 128 rfl) ff_X12_120 (sh79 hst) (by decide) rfl (rf79_41 hst) rfl ?_
          refine gj_iload (q := 230) (gj_dk okX12_asks 129 rfl) rfl rfl ?_
          refine gj_iload (q := 232) (gj_dk okX12_asks 130 rfl) rfl rfl ?_
          refine gj_callS (q := 235) [jI (M 119 l5), jI l5] rfl (t_X12_two hst (M 119 l5) l5 rfl) (gj_dk okX12_asks 131 rfl) ml_X12_292 me_X12_two (gj_nm rfl) rfl (gj_kI fun x S2 M2 h => ?_)
          obtain ⟨e, eS, eM⟩ := h; subst eS; subst eM; subst e
          refine gj_stpI hF (fun x29 hF => ?_)
          refine gj_iconst (q := 236) (gj_dk okX12_asks 132 rfl) (by decide) rfl ?_
          obtain ⟨b30, hF⟩ := gj_ckd hF
          refine gj_iast (q := 237) (gj_dk okX12_asks 133 rfl) (sh121 hst) b30.1 b30.2 rfl ?_
          refine gj_stp hF (fun M31 hF => ?_)
          refine gj_sub [(0, jR 79), (1, jI l1), (2, jI 1), (3, jI l3), (4, jI l4), (5, jI l5)] ⟨rfl, rfl, rfl, rfl, rfl, rfl, trivial⟩ ?_
          exact t_J_X12_asks_237 hst hrec23 hrec31 l1 1 l3 l4 l5 M31 hF
  · -- 177
    replace hF := gj_ift c174 hF
    refine gj_goto (tgt := 261) (gj_dk okX12_asks 102 rfl) (by decide) ?_
    refine gj_sub [(0, jR 79), (1, jI l1), (2, jI l2), (3, jI l3)] ⟨rfl, rfl, rfl, rfl, trivial⟩ ?_
    exact t_J_X12_asks_261 hst hrec23 hrec31 l1 l2 l3 M hF
set_option maxHeartbeats 4000000 in
set_option maxRecDepth 20000 in
theorem t_J_X12_asks_165 (hst : gj_Stat S) {r : gj_M} {rec23 : Int → Int → gj_M → Option (gj_M)} {rec31 : Int → Int → Int → gj_M → Option (gj_M)} {rec81 : Int → Int → Int → Int → Int → Int → gj_M → Option (gj_M)} (hrec23 : ∀ (l1 l2 : Int) (M : gj_M), rec23 l1 l2 M = some r → gj_W G l 6 0 0 yX12_asks cX12_asks 8 none (gj_qV fun S' M' => S = S' ∧ r = M') 0 0 23 [(0, jR 79), (1, jI l1), (2, jI l2)] [] S M) (hrec31 : ∀ (l1 l2 l3 : Int) (M : gj_M), rec31 l1 l2 l3 M = some r → gj_W G l 6 0 0 yX12_asks cX12_asks 8 none (gj_qV fun S' M' => S = S' ∧ r = M') 0 0 31 [(0, jR 79), (1, jI l1), (2, jI l2), (3, jI l3)] [] S M) (hrec81 : ∀ (l1 l2 l3 l4 l5 l6 : Int) (M : gj_M), rec81 l1 l2 l3 l4 l5 l6 M = some r → gj_W G l 6 0 0 yX12_asks cX12_asks 8 none (gj_qV fun S' M' => S = S' ∧ r = M') 0 0 81 [(0, jR 79), (1, jI l1), (2, jI l2), (3, jI l3), (4, jI l4), (5, jI l5), (6, jI l6)] [] S M) (l1 l2 l3 l4 l5 l6 : Int) (M : gj_M) (hF : J_X12_asks_165 rec23 rec31 rec81 l1 l2 l3 l4 l5 l6 M = some r) : gj_W G l 6 0 0 yX12_asks cX12_asks 8 none (gj_qV fun S' M' => S = S' ∧ r = M') 0 0 165 [(0, jR 79), (1, jI l1), (2, jI l2), (3, jI l3), (4, jI l4), (5, jI l5), (6, jI l6)] [] S M := by
  unfold J_X12_asks_165 at hF
  refine gj_iinc (q := 168) (v := gj_w (l6 + 1)) (gj_dk okX12_asks 97 rfl) rfl (by decide) rfl rfl ?_
  refine gj_goto (tgt := 81) (gj_dk okX12_asks 98 rfl) (by decide) ?_
  refine gj_sub [(0, jR 79), (1, jI l1), (2, jI l2), (3, jI l3), (4, jI l4), (5, jI l5), (6, jI (gj_w (l6 + 1)))] ⟨rfl, rfl, rfl, rfl, rfl, rfl, rfl, trivial⟩ ?_
  exact hrec81 l1 l2 l3 l4 l5 (gj_w (l6 + 1)) M hF
set_option maxHeartbeats 4000000 in
set_option maxRecDepth 20000 in
theorem t_B_X12_asks_81 (hst : gj_Stat S) {r : gj_M} {rec23 : Int → Int → gj_M → Option (gj_M)} {rec31 : Int → Int → Int → gj_M → Option (gj_M)} {rec81 : Int → Int → Int → Int → Int → Int → gj_M → Option (gj_M)} (hrec23 : ∀ (l1 l2 : Int) (M : gj_M), rec23 l1 l2 M = some r → gj_W G l 6 0 0 yX12_asks cX12_asks 8 none (gj_qV fun S' M' => S = S' ∧ r = M') 0 0 23 [(0, jR 79), (1, jI l1), (2, jI l2)] [] S M) (hrec31 : ∀ (l1 l2 l3 : Int) (M : gj_M), rec31 l1 l2 l3 M = some r → gj_W G l 6 0 0 yX12_asks cX12_asks 8 none (gj_qV fun S' M' => S = S' ∧ r = M') 0 0 31 [(0, jR 79), (1, jI l1), (2, jI l2), (3, jI l3)] [] S M) (hrec81 : ∀ (l1 l2 l3 l4 l5 l6 : Int) (M : gj_M), rec81 l1 l2 l3 l4 l5 l6 M = some r → gj_W G l 6 0 0 yX12_asks cX12_asks 8 none (gj_qV fun S' M' => S = S' ∧ r = M') 0 0 81 [(0, jR 79), (1, jI l1), (2, jI l2), (3, jI l3), (4, jI l4), (5, jI l5), (6, jI l6)] [] S M) (l1 l2 l3 l4 l5 l6 : Int) (M : gj_M) (hF : B_X12_asks_81 rec23 rec31 rec81 l1 l2 l3 l4 l5 l6 M = some r) : gj_W G l 6 0 0 yX12_asks cX12_asks 8 none (gj_qV fun S' M' => S = S' ∧ r = M') 0 0 81 [(0, jR 79), (1, jI l1), (2, jI l2), (3, jI l3), (4, jI l4), (5, jI l5), (6, jI l6)] [] S M := by
  unfold B_X12_asks_81 at hF
  refine gj_iload (q := 83) (gj_dk okX12_asks 51 rfl) rfl rfl ?_
  refine gj_aload_n (q := 84) (gj_dk okX12_asks 52 rfl) rfl rfl ?_
  refine gj_gR (q := 87) (j := 13) (gj_dk okX12_asks 53 rfl) ff_X12_37 (sh79 hst) (by decide) rfl (rf79_13 hst) rfl ?_
  refine gj_iconst (q := 88) (gj_dk okX12_asks 54 rfl) (by decide) rfl ?_
  refine gj_aald (q := 89) (gj_dk okX12_asks 55 rfl) (sh100 hst) (by decide) (by decide) (by decide) (rf100_0 hst) rfl ?_
  refine gj_iconst (q := 90) (gj_dk okX12_asks 56 rfl) (by decide) rfl ?_
  refine gj_iload_n (q := 91) (gj_dk okX12_asks 57 rfl) rfl rfl ?_
  refine gj_isub (q := 92) (gj_dk okX12_asks 58 rfl) rfl ?_
  obtain ⟨b7, hF⟩ := gj_ckd hF
  refine gj_iald (q := 93) (gj_dk okX12_asks 59 rfl) (sh101 hst) b7.1 b7.2 rfl ?_
  refine gj_icmp_ge (q := 96) (tgt := 171) (gj_dk okX12_asks 60 rfl) (by decide) rfl (fun c93 => ?_) (fun c93 => ?_)
  · -- 171
    replace hF := gj_ift c93 hF
    refine gj_sub [(0, jR 79), (1, jI l1), (2, jI l2), (3, jI l3), (4, jI l4), (5, jI l5)] ⟨rfl, rfl, rfl, rfl, rfl, rfl, trivial⟩ ?_
    exact t_J_X12_asks_171 hst hrec23 hrec31 l1 l2 l3 l4 l5 M hF
  · -- 96
    replace hF := gj_iff c93 hF
    refine gj_iconst (q := 97) (gj_dk okX12_asks 61 rfl) (by decide) rfl ?_
    refine gj_iconst (q := 98) (gj_dk okX12_asks 62 rfl) (by decide) rfl ?_
    refine gj_iload_n (q := 99) (gj_dk okX12_asks 63 rfl) rfl rfl ?_
    refine gj_isub (q := 100) (gj_dk okX12_asks 64 rfl) rfl ?_
    refine gj_imul (q := 101) (gj_dk okX12_asks 65 rfl) rfl ?_
    refine gj_iload (q := 103) (gj_dk okX12_asks 66 rfl) rfl rfl ?_
    refine gj_iadd (q := 104) (gj_dk okX12_asks 67 rfl) rfl ?_
    refine gj_stpI hF (fun x8 hF => ?_)
    refine gj_istore (q := 106) (gj_dk okX12_asks 68 rfl) (by decide) rfl ?_
    refine gj_aload_n (q := 107) (gj_dk okX12_asks 69 rfl) rfl rfl ?_
    refine gj_gR (q := 110) (j := 40) (gj_dk okX12_asks 70 rfl) ff_X12_117 (sh79 hst) (by decide) rfl (rf79_40 hst) rfl ?_
    refine gj_iload (q := 112) (gj_dk okX12_asks 71 rfl) rfl rfl ?_
    obtain ⟨b9, hF⟩ := gj_ckd hF
    refine gj_iald (q := 113) (gj_dk okX12_asks 72 rfl) (sh120 hst) b9.1 b9.2 rfl ?_
    refine gj_if_ne (q := 116) (tgt := 165) (gj_dk okX12_asks 73 rfl) (by decide) rfl (fun c113 => ?_) (fun c113 => ?_)
    · -- 165
      replace hF := gj_iff c113 hF
      refine gj_sub [(0, jR 79), (1, jI l1), (2, jI l2), (3, jI l3), (4, jI l4), (5, jI l5), (6, jI l6)] ⟨rfl, rfl, rfl, rfl, rfl, rfl, rfl, trivial⟩ ?_
      exact t_J_X12_asks_165 hst hrec23 hrec31 hrec81 l1 l2 l3 l4 l5 l6 M hF
    · -- 116
      replace hF := gj_ift c113 hF
      refine gj_aload_n (q := 117) (gj_dk okX12_asks 74 rfl) rfl rfl ?_
      refine gj_gR (q := 120) (j := 41) (gj_dk okX12_asks 75 rfl) ff_X12_120 (sh79 hst) (by decide) rfl (rf79_41 hst) rfl ?_
      refine gj_iload (q := 122) (gj_dk okX12_asks 76 rfl) rfl rfl ?_
      refine gj_iload (q := 124) (gj_dk okX12_asks 77 rfl) rfl rfl ?_
      refine gj_callS (q := 127) [jI l4, jI x8] rfl (t_X12_two hst l4 x8 rfl) (gj_dk okX12_asks 78 rfl) ml_X12_292 me_X12_two (gj_nm rfl) rfl (gj_kI fun x S2 M2 h => ?_)
      obtain ⟨e, eS, eM⟩ := h; subst eS; subst eM; subst e
      refine gj_stpI hF (fun x10 hF => ?_)
      obtain ⟨b11, hF⟩ := gj_ckd hF
      refine gj_iald (q := 128) (gj_dk okX12_asks 79 rfl) (sh121 hst) b11.1 b11.2 rfl ?_
      refine gj_if_ne (q := 131) (tgt := 165) (gj_dk okX12_asks 80 rfl) (by decide) rfl (fun c128 => ?_) (fun c128 => ?_)
      · -- 165
        replace hF := gj_iff c128 hF
        refine gj_sub [(0, jR 79), (1, jI l1), (2, jI l2), (3, jI l3), (4, jI l4), (5, jI l5), (6, jI l6)] ⟨rfl, rfl, rfl, rfl, rfl, rfl, rfl, trivial⟩ ?_
        exact t_J_X12_asks_165 hst hrec23 hrec31 hrec81 l1 l2 l3 l4 l5 l6 M hF
      · -- 131
        replace hF := gj_ift c128 hF
        refine gj_aload_n (q := 132) (gj_dk okX12_asks 81 rfl) rfl rfl ?_
        refine gj_iload (q := 134) (gj_dk okX12_asks 82 rfl) rfl rfl ?_
        refine gj_iload (q := 136) (gj_dk okX12_asks 83 rfl) rfl rfl ?_
        obtain ⟨x12, hG, hF⟩ := gj_bndd hF
        refine gj_callV (q := 139) (z := 79) (ci := 10) [jI l4, jI x8] rfl (t_X12_both hst l4 x8 hG) (gj_dk okX12_asks 84 rfl) ml_X12_375 me_X12_both (sh79 hst) rfl (gj_nm rfl) rfl (gj_kI fun y S2 M2 h => ?_)
        obtain ⟨bx12, e, eS, eM⟩ := h; subst eS; subst eM; subst e; clear hG
        refine gj_if_eq (q := 142) (tgt := 165) (gj_dk okX12_asks 85 rfl) (by decide) rfl (fun c139 => ?_) (fun c139 => ?_)
        · -- 165
          replace hF := gj_ift c139 hF
          refine gj_sub [(0, jR 79), (1, jI l1), (2, jI l2), (3, jI l3), (4, jI l4), (5, jI l5), (6, jI l6)] ⟨rfl, rfl, rfl, rfl, rfl, rfl, rfl, trivial⟩ ?_
          exact t_J_X12_asks_165 hst hrec23 hrec31 hrec81 l1 l2 l3 l4 l5 l6 M hF
        · -- 142
          replace hF := gj_iff c139 hF
          refine gj_iload (q := 144) (gj_dk okX12_asks 86 rfl) rfl rfl ?_
          refine gj_iconst (q := 145) (gj_dk okX12_asks 87 rfl) (by decide) rfl ?_
          refine gj_icmp_eq (q := 148) (tgt := 161) (gj_dk okX12_asks 88 rfl) (by decide) rfl (fun c145 => ?_) (fun c145 => ?_)
          · -- 161
            replace hF := gj_ift c145 hF
            refine gj_iload (q := 163) (gj_dk okX12_asks 95 rfl) rfl rfl ?_
            refine gj_istore (q := 165) (gj_dk okX12_asks 96 rfl) (by decide) rfl ?_
            refine gj_sub [(0, jR 79), (1, jI l1), (2, jI l2), (3, jI l3), (4, jI l4), (5, jI x8), (6, jI l6)] ⟨rfl, rfl, rfl, rfl, rfl, rfl, rfl, trivial⟩ ?_
            exact t_J_X12_asks_165 hst hrec23 hrec31 hrec81 l1 l2 l3 l4 x8 l6 M hF
          · -- 148
            replace hF := gj_iff c145 hF
            refine gj_aload_n (q := 149) (gj_dk okX12_asks 89 rfl) rfl rfl ?_
            refine gj_iload (q := 151) (gj_dk okX12_asks 90 rfl) rfl rfl ?_
            refine gj_iload (q := 153) (gj_dk okX12_asks 91 rfl) rfl rfl ?_
            refine gj_iload (q := 155) (gj_dk okX12_asks 92 rfl) rfl rfl ?_
            obtain ⟨x14, hG, hF⟩ := gj_bndd hF
            refine gj_callV (q := 158) (z := 79) (ci := 10) [jI l4, jI x8, jI l5] rfl (t_X12_isSooner hst l4 x8 l5 hG) (gj_dk okX12_asks 93 rfl) ml_X12_314 me_X12_isSooner (sh79 hst) rfl (gj_nm rfl) rfl (gj_kI fun y S2 M2 h => ?_)
            obtain ⟨bx14, e, eS, eM⟩ := h; subst eS; subst eM; subst e; clear hG
            refine gj_if_eq (q := 161) (tgt := 165) (gj_dk okX12_asks 94 rfl) (by decide) rfl (fun c158 => ?_) (fun c158 => ?_)
            · -- 165
              replace hF := gj_ift c158 hF
              refine gj_sub [(0, jR 79), (1, jI l1), (2, jI l2), (3, jI l3), (4, jI l4), (5, jI l5), (6, jI l6)] ⟨rfl, rfl, rfl, rfl, rfl, rfl, rfl, trivial⟩ ?_
              exact t_J_X12_asks_165 hst hrec23 hrec31 hrec81 l1 l2 l3 l4 l5 l6 M hF
            · -- 161
              replace hF := gj_iff c158 hF
              refine gj_iload (q := 163) (gj_dk okX12_asks 95 rfl) rfl rfl ?_
              refine gj_istore (q := 165) (gj_dk okX12_asks 96 rfl) (by decide) rfl ?_
              refine gj_sub [(0, jR 79), (1, jI l1), (2, jI l2), (3, jI l3), (4, jI l4), (5, jI x8), (6, jI l6)] ⟨rfl, rfl, rfl, rfl, rfl, rfl, rfl, trivial⟩ ?_
              exact t_J_X12_asks_165 hst hrec23 hrec31 hrec81 l1 l2 l3 l4 x8 l6 M hF
theorem t_L_X12_asks_81 (hst : gj_Stat S) {r : gj_M} {rec23 : Int → Int → gj_M → Option (gj_M)} {rec31 : Int → Int → Int → gj_M → Option (gj_M)} (hrec23 : ∀ (l1 l2 : Int) (M : gj_M), rec23 l1 l2 M = some r → gj_W G l 6 0 0 yX12_asks cX12_asks 8 none (gj_qV fun S' M' => S = S' ∧ r = M') 0 0 23 [(0, jR 79), (1, jI l1), (2, jI l2)] [] S M) (hrec31 : ∀ (l1 l2 l3 : Int) (M : gj_M), rec31 l1 l2 l3 M = some r → gj_W G l 6 0 0 yX12_asks cX12_asks 8 none (gj_qV fun S' M' => S = S' ∧ r = M') 0 0 31 [(0, jR 79), (1, jI l1), (2, jI l2), (3, jI l3)] [] S M) : ∀ (m : Nat) (l1 : Int) (l2 : Int) (l3 : Int) (l4 : Int) (l5 : Int) (l6 : Int) (M : gj_M), gj_it (fun _ _ _ _ _ _ _ => none) (B_X12_asks_81 rec23 rec31) m l1 l2 l3 l4 l5 l6 M = some r → gj_W G l 6 0 0 yX12_asks cX12_asks 8 none (gj_qV fun S' M' => S = S' ∧ r = M') 0 0 81 [(0, jR 79), (1, jI l1), (2, jI l2), (3, jI l3), (4, jI l4), (5, jI l5), (6, jI l6)] [] S M := by
  intro m
  induction m with
  | zero => intro l1 l2 l3 l4 l5 l6 M hF; cases (show (none : Option (gj_M)) = some r from hF)
  | succ m ih => intro l1 l2 l3 l4 l5 l6 M hF; exact t_B_X12_asks_81 hst hrec23 hrec31 (fun l1 l2 l3 l4 l5 l6 M h => ih l1 l2 l3 l4 l5 l6 M h) l1 l2 l3 l4 l5 l6 M hF
set_option maxHeartbeats 4000000 in
set_option maxRecDepth 20000 in
theorem t_B_X12_asks_31 (hst : gj_Stat S) {r : gj_M} {rec23 : Int → Int → gj_M → Option (gj_M)} {rec31 : Int → Int → Int → gj_M → Option (gj_M)} (hrec23 : ∀ (l1 l2 : Int) (M : gj_M), rec23 l1 l2 M = some r → gj_W G l 6 0 0 yX12_asks cX12_asks 8 none (gj_qV fun S' M' => S = S' ∧ r = M') 0 0 23 [(0, jR 79), (1, jI l1), (2, jI l2)] [] S M) (hrec31 : ∀ (l1 l2 l3 : Int) (M : gj_M), rec31 l1 l2 l3 M = some r → gj_W G l 6 0 0 yX12_asks cX12_asks 8 none (gj_qV fun S' M' => S = S' ∧ r = M') 0 0 31 [(0, jR 79), (1, jI l1), (2, jI l2), (3, jI l3)] [] S M) (l1 l2 l3 : Int) (M : gj_M) (hF : B_X12_asks_31 rec23 rec31 l1 l2 l3 M = some r) : gj_W G l 6 0 0 yX12_asks cX12_asks 8 none (gj_qV fun S' M' => S = S' ∧ r = M') 0 0 31 [(0, jR 79), (1, jI l1), (2, jI l2), (3, jI l3)] [] S M := by
  unfold B_X12_asks_31 at hF
  refine gj_iload_n (q := 32) (gj_dk okX12_asks 20 rfl) rfl rfl ?_
  refine gj_aload_n (q := 33) (gj_dk okX12_asks 21 rfl) rfl rfl ?_
  refine gj_gR (q := 36) (j := 13) (gj_dk okX12_asks 22 rfl) ff_X12_37 (sh79 hst) (by decide) rfl (rf79_13 hst) rfl ?_
  refine gj_iconst (q := 37) (gj_dk okX12_asks 23 rfl) (by decide) rfl ?_
  refine gj_aald (q := 38) (gj_dk okX12_asks 24 rfl) (sh100 hst) (by decide) (by decide) (by decide) (rf100_0 hst) rfl ?_
  refine gj_iload_n (q := 39) (gj_dk okX12_asks 25 rfl) rfl rfl ?_
  obtain ⟨b3, hF⟩ := gj_ckd hF
  refine gj_iald (q := 40) (gj_dk okX12_asks 26 rfl) (sh101 hst) b3.1 b3.2 rfl ?_
  refine gj_icmp_ge (q := 43) (tgt := 267) (gj_dk okX12_asks 27 rfl) (by decide) rfl (fun c40 => ?_) (fun c40 => ?_)
  · -- 267
    replace hF := gj_ift c40 hF
    refine gj_sub [(0, jR 79), (1, jI l1), (2, jI l2)] ⟨rfl, rfl, rfl, trivial⟩ ?_
    exact t_J_X12_asks_267 hst hrec23 l1 l2 M hF
  · -- 43
    replace hF := gj_iff c40 hF
    refine gj_iconst (q := 44) (gj_dk okX12_asks 28 rfl) (by decide) rfl ?_
    refine gj_iload_n (q := 45) (gj_dk okX12_asks 29 rfl) rfl rfl ?_
    refine gj_imul (q := 46) (gj_dk okX12_asks 30 rfl) rfl ?_
    refine gj_iload_n (q := 47) (gj_dk okX12_asks 31 rfl) rfl rfl ?_
    refine gj_iadd (q := 48) (gj_dk okX12_asks 32 rfl) rfl ?_
    refine gj_stpI hF (fun x4 hF => ?_)
    refine gj_istore (q := 50) (gj_dk okX12_asks 33 rfl) (by decide) rfl ?_
    refine gj_aload_n (q := 51) (gj_dk okX12_asks 34 rfl) rfl rfl ?_
    refine gj_gR (q := 54) (j := 40) (gj_dk okX12_asks 35 rfl) ff_X12_117 (sh79 hst) (by decide) rfl (rf79_40 hst) rfl ?_
    refine gj_iload (q := 56) (gj_dk okX12_asks 36 rfl) rfl rfl ?_
    obtain ⟨b5, hF⟩ := gj_ckd hF
    refine gj_iald (q := 57) (gj_dk okX12_asks 37 rfl) (sh120 hst) b5.1 b5.2 rfl ?_
    refine gj_iconst (q := 58) (gj_dk okX12_asks 38 rfl) (by decide) rfl ?_
    refine gj_icmp_eq (q := 61) (tgt := 261) (gj_dk okX12_asks 39 rfl) (by decide) rfl (fun c58 => ?_) (fun c58 => ?_)
    · -- 261
      replace hF := gj_ift c58 hF
      refine gj_sub [(0, jR 79), (1, jI l1), (2, jI l2), (3, jI l3)] ⟨rfl, rfl, rfl, rfl, trivial⟩ ?_
      exact t_J_X12_asks_261 hst hrec23 hrec31 l1 l2 l3 M hF
    · -- 61
      replace hF := gj_iff c58 hF
      refine gj_aload_n (q := 62) (gj_dk okX12_asks 40 rfl) rfl rfl ?_
      refine gj_gR (q := 65) (j := 39) (gj_dk okX12_asks 41 rfl) ff_X12_114 (sh79 hst) (by decide) rfl (rf79_39 hst) rfl ?_
      refine gj_iload (q := 67) (gj_dk okX12_asks 42 rfl) rfl rfl ?_
      obtain ⟨b6, hF⟩ := gj_ckd hF
      refine gj_iald (q := 68) (gj_dk okX12_asks 43 rfl) (sh119 hst) b6.1 b6.2 rfl ?_
      refine gj_iconst (q := 69) (gj_dk okX12_asks 44 rfl) (by decide) rfl ?_
      refine gj_icmp_eq (q := 72) (tgt := 75) (gj_dk okX12_asks 45 rfl) (by decide) rfl (fun c69 => ?_) (fun c69 => ?_)
      · -- 75
        replace hF := gj_ift c69 hF
        refine gj_iconst (q := 76) (gj_dk okX12_asks 47 rfl) (by decide) rfl ?_
        refine gj_istore (q := 78) (gj_dk okX12_asks 48 rfl) (by decide) rfl ?_
        refine gj_iconst (q := 79) (gj_dk okX12_asks 49 rfl) (by decide) rfl ?_
        refine gj_istore (q := 81) (gj_dk okX12_asks 50 rfl) (by decide) rfl ?_
        refine gj_sub [(0, jR 79), (1, jI l1), (2, jI l2), (3, jI l3), (4, jI x4), (5, jI (-1)), (6, jI 0)] ⟨rfl, rfl, rfl, rfl, rfl, rfl, rfl, trivial⟩ ?_
        exact t_L_X12_asks_81 hst hrec23 hrec31 gj_fu l1 l2 l3 x4 (-1) 0 M hF
      · -- 72
        replace hF := gj_iff c69 hF
        refine gj_goto (tgt := 261) (gj_dk okX12_asks 46 rfl) (by decide) ?_
        refine gj_sub [(0, jR 79), (1, jI l1), (2, jI l2), (3, jI l3)] ⟨rfl, rfl, rfl, rfl, trivial⟩ ?_
        exact t_J_X12_asks_261 hst hrec23 hrec31 l1 l2 l3 M hF
theorem t_L_X12_asks_31 (hst : gj_Stat S) {r : gj_M} {rec23 : Int → Int → gj_M → Option (gj_M)} (hrec23 : ∀ (l1 l2 : Int) (M : gj_M), rec23 l1 l2 M = some r → gj_W G l 6 0 0 yX12_asks cX12_asks 8 none (gj_qV fun S' M' => S = S' ∧ r = M') 0 0 23 [(0, jR 79), (1, jI l1), (2, jI l2)] [] S M) : ∀ (m : Nat) (l1 : Int) (l2 : Int) (l3 : Int) (M : gj_M), gj_it (fun _ _ _ _ => none) (B_X12_asks_31 rec23) m l1 l2 l3 M = some r → gj_W G l 6 0 0 yX12_asks cX12_asks 8 none (gj_qV fun S' M' => S = S' ∧ r = M') 0 0 31 [(0, jR 79), (1, jI l1), (2, jI l2), (3, jI l3)] [] S M := by
  intro m
  induction m with
  | zero => intro l1 l2 l3 M hF; cases (show (none : Option (gj_M)) = some r from hF)
  | succ m ih => intro l1 l2 l3 M hF; exact t_B_X12_asks_31 hst hrec23 (fun l1 l2 l3 M h => ih l1 l2 l3 M h) l1 l2 l3 M hF
set_option maxHeartbeats 4000000 in
set_option maxRecDepth 20000 in
theorem t_B_X12_asks_23 (hst : gj_Stat S) {r : gj_M} {rec23 : Int → Int → gj_M → Option (gj_M)} (hrec23 : ∀ (l1 l2 : Int) (M : gj_M), rec23 l1 l2 M = some r → gj_W G l 6 0 0 yX12_asks cX12_asks 8 none (gj_qV fun S' M' => S = S' ∧ r = M') 0 0 23 [(0, jR 79), (1, jI l1), (2, jI l2)] [] S M) (l1 l2 : Int) (M : gj_M) (hF : B_X12_asks_23 rec23 l1 l2 M = some r) : gj_W G l 6 0 0 yX12_asks cX12_asks 8 none (gj_qV fun S' M' => S = S' ∧ r = M') 0 0 23 [(0, jR 79), (1, jI l1), (2, jI l2)] [] S M := by
  unfold B_X12_asks_23 at hF
  refine gj_iload_n (q := 24) (gj_dk okX12_asks 14 rfl) rfl rfl ?_
  refine gj_if_eq (q := 27) (tgt := 270) (gj_dk okX12_asks 15 rfl) (by decide) rfl (fun c24 => ?_) (fun c24 => ?_)
  · -- 270
    replace hF := gj_ift c24 hF
    cases hF
    exact gj_vret (gj_dk okX12_asks 149 rfl) rfl ⟨rfl, rfl, rfl⟩
  · -- 27
    replace hF := gj_iff c24 hF
    refine gj_iconst (q := 28) (gj_dk okX12_asks 16 rfl) (by decide) rfl ?_
    refine gj_istore_n (q := 29) (gj_dk okX12_asks 17 rfl) (by decide) rfl ?_
    refine gj_iconst (q := 30) (gj_dk okX12_asks 18 rfl) (by decide) rfl ?_
    refine gj_istore_n (q := 31) (gj_dk okX12_asks 19 rfl) (by decide) rfl ?_
    refine gj_sub [(0, jR 79), (1, jI l1), (2, jI 0), (3, jI 0)] ⟨rfl, rfl, rfl, rfl, trivial⟩ ?_
    exact t_L_X12_asks_31 hst hrec23 gj_fu l1 0 0 M hF
theorem t_L_X12_asks_23 (hst : gj_Stat S) {r : gj_M} : ∀ (m : Nat) (l1 : Int) (l2 : Int) (M : gj_M), gj_it (fun _ _ _ => none) (B_X12_asks_23) m l1 l2 M = some r → gj_W G l 6 0 0 yX12_asks cX12_asks 8 none (gj_qV fun S' M' => S = S' ∧ r = M') 0 0 23 [(0, jR 79), (1, jI l1), (2, jI l2)] [] S M := by
  intro m
  induction m with
  | zero => intro l1 l2 M hF; cases (show (none : Option (gj_M)) = some r from hF)
  | succ m ih => intro l1 l2 M hF; exact t_B_X12_asks_23 hst (fun l1 l2 M h => ih l1 l2 M h) l1 l2 M hF
set_option maxHeartbeats 4000000 in
set_option maxRecDepth 20000 in
theorem t_J_X12_asks_21 (hst : gj_Stat S) {r : gj_M} (l1 : Int) (M : gj_M) (hF : J_X12_asks_21 l1 M = some r) : gj_W G l 6 0 0 yX12_asks cX12_asks 8 none (gj_qV fun S' M' => S = S' ∧ r = M') 0 0 21 [(0, jR 79), (1, jI l1)] [] S M := by
  unfold J_X12_asks_21 at hF
  refine gj_iconst (q := 22) (gj_dk okX12_asks 12 rfl) (by decide) rfl ?_
  refine gj_istore_n (q := 23) (gj_dk okX12_asks 13 rfl) (by decide) rfl ?_
  refine gj_sub [(0, jR 79), (1, jI l1), (2, jI 1)] ⟨rfl, rfl, rfl, trivial⟩ ?_
  exact t_L_X12_asks_23 hst gj_fu l1 1 M hF
set_option maxHeartbeats 4000000 in
set_option maxRecDepth 20000 in
theorem t_B_X12_asks_2 (hst : gj_Stat S) {r : gj_M} {rec2 : Int → Int → gj_M → Option (gj_M)} (hrec2 : ∀ (l1 l2 : Int) (M : gj_M), rec2 l1 l2 M = some r → gj_W G l 6 0 0 yX12_asks cX12_asks 8 none (gj_qV fun S' M' => S = S' ∧ r = M') 0 0 2 [(0, jR 79), (1, jI l1), (2, jI l2)] [] S M) (l1 l2 : Int) (M : gj_M) (hF : B_X12_asks_2 rec2 l1 l2 M = some r) : gj_W G l 6 0 0 yX12_asks cX12_asks 8 none (gj_qV fun S' M' => S = S' ∧ r = M') 0 0 2 [(0, jR 79), (1, jI l1), (2, jI l2)] [] S M := by
  unfold B_X12_asks_2 at hF
  refine gj_iload_n (q := 3) (gj_dk okX12_asks 2 rfl) rfl rfl ?_
  refine gj_bipush (q := 5) (gj_dk okX12_asks 3 rfl) (by decide) rfl rfl ?_
  refine gj_icmp_ge (q := 8) (tgt := 21) (gj_dk okX12_asks 4 rfl) (by decide) rfl (fun c5 => ?_) (fun c5 => ?_)
  · -- 21
    replace hF := gj_ift c5 hF
    refine gj_sub [(0, jR 79), (1, jI l1)] ⟨rfl, rfl, trivial⟩ ?_
    exact t_J_X12_asks_21 hst l1 M hF
  · -- 8
    replace hF := gj_iff c5 hF
    refine gj_aload_n (q := 9) (gj_dk okX12_asks 5 rfl) rfl rfl ?_
    refine gj_gR (q := 12) (j := 41) (gj_dk okX12_asks 6 rfl) ff_X12_120 (sh79 hst) (by decide) rfl (rf79_41 hst) rfl ?_
    refine gj_iload_n (q := 13) (gj_dk okX12_asks 7 rfl) rfl rfl ?_
    refine gj_iconst (q := 14) (gj_dk okX12_asks 8 rfl) (by decide) rfl ?_
    obtain ⟨b1, hF⟩ := gj_ckd hF
    refine gj_iast (q := 15) (gj_dk okX12_asks 9 rfl) (sh121 hst) b1.1 b1.2 rfl ?_
    refine gj_stp hF (fun M2 hF => ?_)
    refine gj_iinc (q := 18) (v := gj_w (l2 + 1)) (gj_dk okX12_asks 10 rfl) rfl (by decide) rfl rfl ?_
    refine gj_goto (tgt := 2) (gj_dk okX12_asks 11 rfl) (by decide) ?_
    refine gj_sub [(0, jR 79), (1, jI l1), (2, jI (gj_w (l2 + 1)))] ⟨rfl, rfl, rfl, trivial⟩ ?_
    exact hrec2 l1 (gj_w (l2 + 1)) M2 hF
theorem t_L_X12_asks_2 (hst : gj_Stat S) {r : gj_M} : ∀ (m : Nat) (l1 : Int) (l2 : Int) (M : gj_M), gj_it (fun _ _ _ => none) (B_X12_asks_2) m l1 l2 M = some r → gj_W G l 6 0 0 yX12_asks cX12_asks 8 none (gj_qV fun S' M' => S = S' ∧ r = M') 0 0 2 [(0, jR 79), (1, jI l1), (2, jI l2)] [] S M := by
  intro m
  induction m with
  | zero => intro l1 l2 M hF; cases (show (none : Option (gj_M)) = some r from hF)
  | succ m ih => intro l1 l2 M hF; exact t_B_X12_asks_2 hst (fun l1 l2 M h => ih l1 l2 M h) l1 l2 M hF
set_option maxHeartbeats 4000000 in
set_option maxRecDepth 20000 in
theorem t_X12_asks (hst : gj_Stat S) (a1 : Int) {r : gj_M} (hF : F_X12_asks a1 M = some r) : gj_C G l 6 0 0 yX12_asks cX12_asks 8 none [jR 79, jI a1] S M (gj_qV fun S' M' => S = S' ∧ r = M') := by
  refine gj_Cof (by decide +kernel) (Nat.le_of_ble_eq_true rfl) ?_
  change gj_W G l 6 0 0 yX12_asks cX12_asks 8 none (gj_qV fun S' M' => S = S' ∧ r = M') 0 0 0 [(0, jR 79), (1, jI a1)] [] S M
  unfold F_X12_asks at hF
  refine gj_iconst (q := 1) (gj_dk okX12_asks 0 rfl) (by decide) rfl ?_
  refine gj_istore_n (q := 2) (gj_dk okX12_asks 1 rfl) (by decide) rfl ?_
  refine gj_sub [(0, jR 79), (1, jI a1), (2, jI 0)] ⟨rfl, rfl, rfl, trivial⟩ ?_
  exact t_L_X12_asks_2 hst gj_fu a1 0 M hF
def J_X12_inTurn_107 (rec2 : Int → gj_M → Option (gj_M)) (l1 : Int) (M : gj_M) : Option (gj_M) :=
  rec2 (gj_w (l1 + 1)) M
def J_X12_inTurn_96 (rec2 : Int → gj_M → Option (gj_M)) (l1 l2 : Int) (M : gj_M) : Option (gj_M) :=
  (if l2 = -1 then (J_X12_inTurn_107 rec2 l1 M) else gj_bnd (F_X12_gives l1 l2 M) (fun M9 => (J_X12_inTurn_107 rec2 l1 M9)))
def J_X12_inTurn_90 (rec2 : Int → gj_M → Option (gj_M)) (rec31 : Int → Int → Int → gj_M → Option (gj_M)) (l1 l2 l3 : Int) (M : gj_M) : Option (gj_M) :=
  rec31 l1 l2 (gj_w (l3 + 1)) M
def B_X12_inTurn_31 (rec2 : Int → gj_M → Option (gj_M)) (rec31 : Int → Int → Int → gj_M → Option (gj_M)) (l1 l2 l3 : Int) (M : gj_M) : Option (gj_M) :=
  (if gj_w (4 + (M 101 1)) ≤ l3 then (J_X12_inTurn_96 rec2 l1 l2 M) else gj_chk (0 ≤ l3 ∧ l3 < 8) ((if M 120 l3 = 0 then gj_chk (0 ≤ l3 ∧ l3 < 8) ((if M 119 l3 = -1 then gj_bnd (F_X12_both l1 l3 M) (fun x4 => (if x4 = 0 then (J_X12_inTurn_90 rec2 rec31 l1 l2 l3 M) else (if l2 = -1 then (J_X12_inTurn_90 rec2 rec31 l1 l3 l3 M) else gj_bnd (F_X12_isSooner l1 l3 l2 M) (fun x6 => (if x6 = 0 then (J_X12_inTurn_90 rec2 rec31 l1 l2 l3 M) else (J_X12_inTurn_90 rec2 rec31 l1 l3 l3 M)))))) else (J_X12_inTurn_90 rec2 rec31 l1 l2 l3 M))) else (J_X12_inTurn_90 rec2 rec31 l1 l2 l3 M))))
def B_X12_inTurn_2 (rec2 : Int → gj_M → Option (gj_M)) (l1 : Int) (M : gj_M) : Option (gj_M) :=
  (if M 101 0 ≤ l1 then (some (M)) else gj_chk (0 ≤ l1 ∧ l1 < 8) ((if M 120 l1 = 1 then (J_X12_inTurn_107 rec2 l1 M) else (gj_it (fun _ _ _ _ => none) (B_X12_inTurn_31 rec2) gj_fu l1 (-1) 4 M))))
def F_X12_inTurn (M : gj_M) : Option (gj_M) :=
  (gj_it (fun _ _ => none) (B_X12_inTurn_2) gj_fu 0 M)
set_option maxHeartbeats 4000000 in
set_option maxRecDepth 20000 in
theorem t_J_X12_inTurn_107 (hst : gj_Stat S) {r : gj_M} {rec2 : Int → gj_M → Option (gj_M)} (hrec2 : ∀ (l1 : Int) (M : gj_M), rec2 l1 M = some r → gj_W G l 6 0 0 yX12_inTurn cX12_inTurn 4 none (gj_qV fun S' M' => S = S' ∧ r = M') 0 0 2 [(0, jR 79), (1, jI l1)] [] S M) (l1 : Int) (M : gj_M) (hF : J_X12_inTurn_107 rec2 l1 M = some r) : gj_W G l 6 0 0 yX12_inTurn cX12_inTurn 4 none (gj_qV fun S' M' => S = S' ∧ r = M') 0 0 107 [(0, jR 79), (1, jI l1)] [] S M := by
  unfold J_X12_inTurn_107 at hF
  refine gj_iinc (q := 110) (v := gj_w (l1 + 1)) (gj_dk okX12_inTurn 67 rfl) rfl (by decide) rfl rfl ?_
  refine gj_goto (tgt := 2) (gj_dk okX12_inTurn 68 rfl) (by decide) ?_
  refine gj_sub [(0, jR 79), (1, jI (gj_w (l1 + 1)))] ⟨rfl, rfl, trivial⟩ ?_
  exact hrec2 (gj_w (l1 + 1)) M hF
set_option maxHeartbeats 4000000 in
set_option maxRecDepth 20000 in
theorem t_J_X12_inTurn_96 (hst : gj_Stat S) {r : gj_M} {rec2 : Int → gj_M → Option (gj_M)} (hrec2 : ∀ (l1 : Int) (M : gj_M), rec2 l1 M = some r → gj_W G l 6 0 0 yX12_inTurn cX12_inTurn 4 none (gj_qV fun S' M' => S = S' ∧ r = M') 0 0 2 [(0, jR 79), (1, jI l1)] [] S M) (l1 l2 : Int) (M : gj_M) (hF : J_X12_inTurn_96 rec2 l1 l2 M = some r) : gj_W G l 6 0 0 yX12_inTurn cX12_inTurn 4 none (gj_qV fun S' M' => S = S' ∧ r = M') 0 0 96 [(0, jR 79), (1, jI l1), (2, jI l2)] [] S M := by
  unfold J_X12_inTurn_96 at hF
  refine gj_iload_n (q := 97) (gj_dk okX12_inTurn 60 rfl) rfl rfl ?_
  refine gj_iconst (q := 98) (gj_dk okX12_inTurn 61 rfl) (by decide) rfl ?_
  refine gj_icmp_eq (q := 101) (tgt := 107) (gj_dk okX12_inTurn 62 rfl) (by decide) rfl (fun c98 => ?_) (fun c98 => ?_)
  · -- 107
    replace hF := gj_ift c98 hF
    refine gj_sub [(0, jR 79), (1, jI l1)] ⟨rfl, rfl, trivial⟩ ?_
    exact t_J_X12_inTurn_107 hst hrec2 l1 M hF
  · -- 101
    replace hF := gj_iff c98 hF
    refine gj_aload_n (q := 102) (gj_dk okX12_inTurn 63 rfl) rfl rfl ?_
    refine gj_iload_n (q := 103) (gj_dk okX12_inTurn 64 rfl) rfl rfl ?_
    refine gj_iload_n (q := 104) (gj_dk okX12_inTurn 65 rfl) rfl rfl ?_
    obtain ⟨M9, hG, hF⟩ := gj_bndd hF
    refine gj_callV (q := 107) (z := 79) (ci := 10) [jI l1, jI l2] rfl (t_X12_gives hst l1 l2 hG) (gj_dk okX12_inTurn 66 rfl) ml_X12_378 me_X12_gives (sh79 hst) rfl (gj_nm rfl) rfl (gj_kV fun S2 M2 h => ?_)
    obtain ⟨eS, eM⟩ := h; subst eS; subst eM; clear hG
    refine gj_sub [(0, jR 79), (1, jI l1)] ⟨rfl, rfl, trivial⟩ ?_
    exact t_J_X12_inTurn_107 hst hrec2 l1 M9 hF
set_option maxHeartbeats 4000000 in
set_option maxRecDepth 20000 in
theorem t_J_X12_inTurn_90 (hst : gj_Stat S) {r : gj_M} {rec2 : Int → gj_M → Option (gj_M)} {rec31 : Int → Int → Int → gj_M → Option (gj_M)} (hrec2 : ∀ (l1 : Int) (M : gj_M), rec2 l1 M = some r → gj_W G l 6 0 0 yX12_inTurn cX12_inTurn 4 none (gj_qV fun S' M' => S = S' ∧ r = M') 0 0 2 [(0, jR 79), (1, jI l1)] [] S M) (hrec31 : ∀ (l1 l2 l3 : Int) (M : gj_M), rec31 l1 l2 l3 M = some r → gj_W G l 6 0 0 yX12_inTurn cX12_inTurn 4 none (gj_qV fun S' M' => S = S' ∧ r = M') 0 0 31 [(0, jR 79), (1, jI l1), (2, jI l2), (3, jI l3)] [] S M) (l1 l2 l3 : Int) (M : gj_M) (hF : J_X12_inTurn_90 rec2 rec31 l1 l2 l3 M = some r) : gj_W G l 6 0 0 yX12_inTurn cX12_inTurn 4 none (gj_qV fun S' M' => S = S' ∧ r = M') 0 0 90 [(0, jR 79), (1, jI l1), (2, jI l2), (3, jI l3)] [] S M := by
  unfold J_X12_inTurn_90 at hF
  refine gj_iinc (q := 93) (v := gj_w (l3 + 1)) (gj_dk okX12_inTurn 58 rfl) rfl (by decide) rfl rfl ?_
  refine gj_goto (tgt := 31) (gj_dk okX12_inTurn 59 rfl) (by decide) ?_
  refine gj_sub [(0, jR 79), (1, jI l1), (2, jI l2), (3, jI (gj_w (l3 + 1)))] ⟨rfl, rfl, rfl, rfl, trivial⟩ ?_
  exact hrec31 l1 l2 (gj_w (l3 + 1)) M hF
set_option maxHeartbeats 4000000 in
set_option maxRecDepth 20000 in
theorem t_B_X12_inTurn_31 (hst : gj_Stat S) {r : gj_M} {rec2 : Int → gj_M → Option (gj_M)} {rec31 : Int → Int → Int → gj_M → Option (gj_M)} (hrec2 : ∀ (l1 : Int) (M : gj_M), rec2 l1 M = some r → gj_W G l 6 0 0 yX12_inTurn cX12_inTurn 4 none (gj_qV fun S' M' => S = S' ∧ r = M') 0 0 2 [(0, jR 79), (1, jI l1)] [] S M) (hrec31 : ∀ (l1 l2 l3 : Int) (M : gj_M), rec31 l1 l2 l3 M = some r → gj_W G l 6 0 0 yX12_inTurn cX12_inTurn 4 none (gj_qV fun S' M' => S = S' ∧ r = M') 0 0 31 [(0, jR 79), (1, jI l1), (2, jI l2), (3, jI l3)] [] S M) (l1 l2 l3 : Int) (M : gj_M) (hF : B_X12_inTurn_31 rec2 rec31 l1 l2 l3 M = some r) : gj_W G l 6 0 0 yX12_inTurn cX12_inTurn 4 none (gj_qV fun S' M' => S = S' ∧ r = M') 0 0 31 [(0, jR 79), (1, jI l1), (2, jI l2), (3, jI l3)] [] S M := by
  unfold B_X12_inTurn_31 at hF
  refine gj_iload_n (q := 32) (gj_dk okX12_inTurn 21 rfl) rfl rfl ?_
  refine gj_iconst (q := 33) (gj_dk okX12_inTurn 22 rfl) (by decide) rfl ?_
  refine gj_aload_n (q := 34) (gj_dk okX12_inTurn 23 rfl) rfl rfl ?_
  refine gj_gR (q := 37) (j := 13) (gj_dk okX12_inTurn 24 rfl) ff_X12_37 (sh79 hst) (by decide) rfl (rf79_13 hst) rfl ?_
  refine gj_iconst (q := 38) (gj_dk okX12_inTurn 25 rfl) (by decide) rfl ?_
  refine gj_aald (q := 39) (gj_dk okX12_inTurn 26 rfl) (sh100 hst) (by decide) (by decide) (by decide) (rf100_0 hst) rfl ?_
  refine gj_iconst (q := 40) (gj_dk okX12_inTurn 27 rfl) (by decide) rfl ?_
  refine gj_iald (q := 41) (gj_dk okX12_inTurn 28 rfl) (sh101 hst) (by decide) (by decide) rfl ?_
  refine gj_iadd (q := 42) (gj_dk okX12_inTurn 29 rfl) rfl ?_
  refine gj_icmp_ge (q := 45) (tgt := 96) (gj_dk okX12_inTurn 30 rfl) (by decide) rfl (fun c42 => ?_) (fun c42 => ?_)
  · -- 96
    replace hF := gj_ift c42 hF
    refine gj_sub [(0, jR 79), (1, jI l1), (2, jI l2)] ⟨rfl, rfl, rfl, trivial⟩ ?_
    exact t_J_X12_inTurn_96 hst hrec2 l1 l2 M hF
  · -- 45
    replace hF := gj_iff c42 hF
    refine gj_aload_n (q := 46) (gj_dk okX12_inTurn 31 rfl) rfl rfl ?_
    refine gj_gR (q := 49) (j := 40) (gj_dk okX12_inTurn 32 rfl) ff_X12_117 (sh79 hst) (by decide) rfl (rf79_40 hst) rfl ?_
    refine gj_iload_n (q := 50) (gj_dk okX12_inTurn 33 rfl) rfl rfl ?_
    obtain ⟨b2, hF⟩ := gj_ckd hF
    refine gj_iald (q := 51) (gj_dk okX12_inTurn 34 rfl) (sh120 hst) b2.1 b2.2 rfl ?_
    refine gj_if_ne (q := 54) (tgt := 90) (gj_dk okX12_inTurn 35 rfl) (by decide) rfl (fun c51 => ?_) (fun c51 => ?_)
    · -- 90
      replace hF := gj_iff c51 hF
      refine gj_sub [(0, jR 79), (1, jI l1), (2, jI l2), (3, jI l3)] ⟨rfl, rfl, rfl, rfl, trivial⟩ ?_
      exact t_J_X12_inTurn_90 hst hrec2 hrec31 l1 l2 l3 M hF
    · -- 54
      replace hF := gj_ift c51 hF
      refine gj_aload_n (q := 55) (gj_dk okX12_inTurn 36 rfl) rfl rfl ?_
      refine gj_gR (q := 58) (j := 39) (gj_dk okX12_inTurn 37 rfl) ff_X12_114 (sh79 hst) (by decide) rfl (rf79_39 hst) rfl ?_
      refine gj_iload_n (q := 59) (gj_dk okX12_inTurn 38 rfl) rfl rfl ?_
      obtain ⟨b3, hF⟩ := gj_ckd hF
      refine gj_iald (q := 60) (gj_dk okX12_inTurn 39 rfl) (sh119 hst) b3.1 b3.2 rfl ?_
      refine gj_iconst (q := 61) (gj_dk okX12_inTurn 40 rfl) (by decide) rfl ?_
      refine gj_icmp_ne (q := 64) (tgt := 90) (gj_dk okX12_inTurn 41 rfl) (by decide) rfl (fun c61 => ?_) (fun c61 => ?_)
      · -- 90
        replace hF := gj_iff c61 hF
        refine gj_sub [(0, jR 79), (1, jI l1), (2, jI l2), (3, jI l3)] ⟨rfl, rfl, rfl, rfl, trivial⟩ ?_
        exact t_J_X12_inTurn_90 hst hrec2 hrec31 l1 l2 l3 M hF
      · -- 64
        replace hF := gj_ift c61 hF
        refine gj_aload_n (q := 65) (gj_dk okX12_inTurn 42 rfl) rfl rfl ?_
        refine gj_iload_n (q := 66) (gj_dk okX12_inTurn 43 rfl) rfl rfl ?_
        refine gj_iload_n (q := 67) (gj_dk okX12_inTurn 44 rfl) rfl rfl ?_
        obtain ⟨x4, hG, hF⟩ := gj_bndd hF
        refine gj_callV (q := 70) (z := 79) (ci := 10) [jI l1, jI l3] rfl (t_X12_both hst l1 l3 hG) (gj_dk okX12_inTurn 45 rfl) ml_X12_375 me_X12_both (sh79 hst) rfl (gj_nm rfl) rfl (gj_kI fun y S2 M2 h => ?_)
        obtain ⟨bx4, e, eS, eM⟩ := h; subst eS; subst eM; subst e; clear hG
        refine gj_if_eq (q := 73) (tgt := 90) (gj_dk okX12_inTurn 46 rfl) (by decide) rfl (fun c70 => ?_) (fun c70 => ?_)
        · -- 90
          replace hF := gj_ift c70 hF
          refine gj_sub [(0, jR 79), (1, jI l1), (2, jI l2), (3, jI l3)] ⟨rfl, rfl, rfl, rfl, trivial⟩ ?_
          exact t_J_X12_inTurn_90 hst hrec2 hrec31 l1 l2 l3 M hF
        · -- 73
          replace hF := gj_iff c70 hF
          refine gj_iload_n (q := 74) (gj_dk okX12_inTurn 47 rfl) rfl rfl ?_
          refine gj_iconst (q := 75) (gj_dk okX12_inTurn 48 rfl) (by decide) rfl ?_
          refine gj_icmp_eq (q := 78) (tgt := 88) (gj_dk okX12_inTurn 49 rfl) (by decide) rfl (fun c75 => ?_) (fun c75 => ?_)
          · -- 88
            replace hF := gj_ift c75 hF
            refine gj_iload_n (q := 89) (gj_dk okX12_inTurn 56 rfl) rfl rfl ?_
            refine gj_istore_n (q := 90) (gj_dk okX12_inTurn 57 rfl) (by decide) rfl ?_
            refine gj_sub [(0, jR 79), (1, jI l1), (2, jI l3), (3, jI l3)] ⟨rfl, rfl, rfl, rfl, trivial⟩ ?_
            exact t_J_X12_inTurn_90 hst hrec2 hrec31 l1 l3 l3 M hF
          · -- 78
            replace hF := gj_iff c75 hF
            refine gj_aload_n (q := 79) (gj_dk okX12_inTurn 50 rfl) rfl rfl ?_
            refine gj_iload_n (q := 80) (gj_dk okX12_inTurn 51 rfl) rfl rfl ?_
            refine gj_iload_n (q := 81) (gj_dk okX12_inTurn 52 rfl) rfl rfl ?_
            refine gj_iload_n (q := 82) (gj_dk okX12_inTurn 53 rfl) rfl rfl ?_
            obtain ⟨x6, hG, hF⟩ := gj_bndd hF
            refine gj_callV (q := 85) (z := 79) (ci := 10) [jI l1, jI l3, jI l2] rfl (t_X12_isSooner hst l1 l3 l2 hG) (gj_dk okX12_inTurn 54 rfl) ml_X12_314 me_X12_isSooner (sh79 hst) rfl (gj_nm rfl) rfl (gj_kI fun y S2 M2 h => ?_)
            obtain ⟨bx6, e, eS, eM⟩ := h; subst eS; subst eM; subst e; clear hG
            refine gj_if_eq (q := 88) (tgt := 90) (gj_dk okX12_inTurn 55 rfl) (by decide) rfl (fun c85 => ?_) (fun c85 => ?_)
            · -- 90
              replace hF := gj_ift c85 hF
              refine gj_sub [(0, jR 79), (1, jI l1), (2, jI l2), (3, jI l3)] ⟨rfl, rfl, rfl, rfl, trivial⟩ ?_
              exact t_J_X12_inTurn_90 hst hrec2 hrec31 l1 l2 l3 M hF
            · -- 88
              replace hF := gj_iff c85 hF
              refine gj_iload_n (q := 89) (gj_dk okX12_inTurn 56 rfl) rfl rfl ?_
              refine gj_istore_n (q := 90) (gj_dk okX12_inTurn 57 rfl) (by decide) rfl ?_
              refine gj_sub [(0, jR 79), (1, jI l1), (2, jI l3), (3, jI l3)] ⟨rfl, rfl, rfl, rfl, trivial⟩ ?_
              exact t_J_X12_inTurn_90 hst hrec2 hrec31 l1 l3 l3 M hF
theorem t_L_X12_inTurn_31 (hst : gj_Stat S) {r : gj_M} {rec2 : Int → gj_M → Option (gj_M)} (hrec2 : ∀ (l1 : Int) (M : gj_M), rec2 l1 M = some r → gj_W G l 6 0 0 yX12_inTurn cX12_inTurn 4 none (gj_qV fun S' M' => S = S' ∧ r = M') 0 0 2 [(0, jR 79), (1, jI l1)] [] S M) : ∀ (m : Nat) (l1 : Int) (l2 : Int) (l3 : Int) (M : gj_M), gj_it (fun _ _ _ _ => none) (B_X12_inTurn_31 rec2) m l1 l2 l3 M = some r → gj_W G l 6 0 0 yX12_inTurn cX12_inTurn 4 none (gj_qV fun S' M' => S = S' ∧ r = M') 0 0 31 [(0, jR 79), (1, jI l1), (2, jI l2), (3, jI l3)] [] S M := by
  intro m
  induction m with
  | zero => intro l1 l2 l3 M hF; cases (show (none : Option (gj_M)) = some r from hF)
  | succ m ih => intro l1 l2 l3 M hF; exact t_B_X12_inTurn_31 hst hrec2 (fun l1 l2 l3 M h => ih l1 l2 l3 M h) l1 l2 l3 M hF
set_option maxHeartbeats 4000000 in
set_option maxRecDepth 20000 in
theorem t_B_X12_inTurn_2 (hst : gj_Stat S) {r : gj_M} {rec2 : Int → gj_M → Option (gj_M)} (hrec2 : ∀ (l1 : Int) (M : gj_M), rec2 l1 M = some r → gj_W G l 6 0 0 yX12_inTurn cX12_inTurn 4 none (gj_qV fun S' M' => S = S' ∧ r = M') 0 0 2 [(0, jR 79), (1, jI l1)] [] S M) (l1 : Int) (M : gj_M) (hF : B_X12_inTurn_2 rec2 l1 M = some r) : gj_W G l 6 0 0 yX12_inTurn cX12_inTurn 4 none (gj_qV fun S' M' => S = S' ∧ r = M') 0 0 2 [(0, jR 79), (1, jI l1)] [] S M := by
  unfold B_X12_inTurn_2 at hF
  refine gj_iload_n (q := 3) (gj_dk okX12_inTurn 2 rfl) rfl rfl ?_
  refine gj_aload_n (q := 4) (gj_dk okX12_inTurn 3 rfl) rfl rfl ?_
  refine gj_gR (q := 7) (j := 13) (gj_dk okX12_inTurn 4 rfl) ff_X12_37 (sh79 hst) (by decide) rfl (rf79_13 hst) rfl ?_
  refine gj_iconst (q := 8) (gj_dk okX12_inTurn 5 rfl) (by decide) rfl ?_
  refine gj_aald (q := 9) (gj_dk okX12_inTurn 6 rfl) (sh100 hst) (by decide) (by decide) (by decide) (rf100_0 hst) rfl ?_
  refine gj_iconst (q := 10) (gj_dk okX12_inTurn 7 rfl) (by decide) rfl ?_
  refine gj_iald (q := 11) (gj_dk okX12_inTurn 8 rfl) (sh101 hst) (by decide) (by decide) rfl ?_
  refine gj_icmp_ge (q := 14) (tgt := 113) (gj_dk okX12_inTurn 9 rfl) (by decide) rfl (fun c11 => ?_) (fun c11 => ?_)
  · -- 113
    replace hF := gj_ift c11 hF
    cases hF
    exact gj_vret (gj_dk okX12_inTurn 69 rfl) rfl ⟨rfl, rfl, rfl⟩
  · -- 14
    replace hF := gj_iff c11 hF
    refine gj_aload_n (q := 15) (gj_dk okX12_inTurn 10 rfl) rfl rfl ?_
    refine gj_gR (q := 18) (j := 40) (gj_dk okX12_inTurn 11 rfl) ff_X12_117 (sh79 hst) (by decide) rfl (rf79_40 hst) rfl ?_
    refine gj_iload_n (q := 19) (gj_dk okX12_inTurn 12 rfl) rfl rfl ?_
    obtain ⟨b1, hF⟩ := gj_ckd hF
    refine gj_iald (q := 20) (gj_dk okX12_inTurn 13 rfl) (sh120 hst) b1.1 b1.2 rfl ?_
    refine gj_iconst (q := 21) (gj_dk okX12_inTurn 14 rfl) (by decide) rfl ?_
    refine gj_icmp_ne (q := 24) (tgt := 27) (gj_dk okX12_inTurn 15 rfl) (by decide) rfl (fun c21 => ?_) (fun c21 => ?_)
    · -- 27
      replace hF := gj_iff c21 hF
      refine gj_iconst (q := 28) (gj_dk okX12_inTurn 17 rfl) (by decide) rfl ?_
      refine gj_istore_n (q := 29) (gj_dk okX12_inTurn 18 rfl) (by decide) rfl ?_
      refine gj_iconst (q := 30) (gj_dk okX12_inTurn 19 rfl) (by decide) rfl ?_
      refine gj_istore_n (q := 31) (gj_dk okX12_inTurn 20 rfl) (by decide) rfl ?_
      refine gj_sub [(0, jR 79), (1, jI l1), (2, jI (-1)), (3, jI 4)] ⟨rfl, rfl, rfl, rfl, trivial⟩ ?_
      exact t_L_X12_inTurn_31 hst hrec2 gj_fu l1 (-1) 4 M hF
    · -- 24
      replace hF := gj_ift c21 hF
      refine gj_goto (tgt := 107) (gj_dk okX12_inTurn 16 rfl) (by decide) ?_
      refine gj_sub [(0, jR 79), (1, jI l1)] ⟨rfl, rfl, trivial⟩ ?_
      exact t_J_X12_inTurn_107 hst hrec2 l1 M hF
theorem t_L_X12_inTurn_2 (hst : gj_Stat S) {r : gj_M} : ∀ (m : Nat) (l1 : Int) (M : gj_M), gj_it (fun _ _ => none) (B_X12_inTurn_2) m l1 M = some r → gj_W G l 6 0 0 yX12_inTurn cX12_inTurn 4 none (gj_qV fun S' M' => S = S' ∧ r = M') 0 0 2 [(0, jR 79), (1, jI l1)] [] S M := by
  intro m
  induction m with
  | zero => intro l1 M hF; cases (show (none : Option (gj_M)) = some r from hF)
  | succ m ih => intro l1 M hF; exact t_B_X12_inTurn_2 hst (fun l1 M h => ih l1 M h) l1 M hF
set_option maxHeartbeats 4000000 in
set_option maxRecDepth 20000 in
theorem t_X12_inTurn (hst : gj_Stat S) {r : gj_M} (hF : F_X12_inTurn M = some r) : gj_C G l 6 0 0 yX12_inTurn cX12_inTurn 4 none [jR 79] S M (gj_qV fun S' M' => S = S' ∧ r = M') := by
  refine gj_Cof (by decide +kernel) (Nat.le_of_ble_eq_true rfl) ?_
  change gj_W G l 6 0 0 yX12_inTurn cX12_inTurn 4 none (gj_qV fun S' M' => S = S' ∧ r = M') 0 0 0 [(0, jR 79)] [] S M
  unfold F_X12_inTurn at hF
  refine gj_iconst (q := 1) (gj_dk okX12_inTurn 0 rfl) (by decide) rfl ?_
  refine gj_istore_n (q := 2) (gj_dk okX12_inTurn 1 rfl) (by decide) rfl ?_
  refine gj_sub [(0, jR 79), (1, jI 0)] ⟨rfl, rfl, trivial⟩ ?_
  exact t_L_X12_inTurn_2 hst gj_fu 0 M hF
def J_X12_byLot_176 (rec2 : Int → gj_M → Option (gj_M)) (l1 : Int) (M : gj_M) : Option (gj_M) :=
  rec2 (gj_w (l1 + 1)) M
def J_X12_byLot_157 (rec2 : Int → gj_M → Option (gj_M)) (l1 l4 : Int) (M : gj_M) : Option (gj_M) :=
  gj_bnd (F_X12_gives l1 l4 M) (fun M13 => (J_X12_byLot_176 rec2 l1 M13))
def B_X12_byLot_103 (rec2 : Int → gj_M → Option (gj_M)) (rec103 : Int → Int → Int → gj_M → Option (gj_M)) (l1 l3 l4 : Int) (M : gj_M) : Option (gj_M) :=
  (if gj_w (4 + (M 101 1)) ≤ l4 then (J_X12_byLot_176 rec2 l1 M) else gj_chk (0 ≤ l4 ∧ l4 < 8) ((if M 120 l4 = 1 then rec103 l1 l3 (gj_w (l4 + 1)) M else gj_chk (0 ≤ l4 ∧ l4 < 8) ((if M 119 l4 = -1 then gj_bnd (F_X12_both l1 l4 M) (fun x10 => (if x10 = 0 then rec103 l1 l3 (gj_w (l4 + 1)) M else (if l3 = 0 then (J_X12_byLot_157 rec2 l1 l4 M) else rec103 l1 (gj_w (l3 + (-1))) (gj_w (l4 + 1)) M))) else rec103 l1 l3 (gj_w (l4 + 1)) M)))))
def J_X12_byLot_87 (rec2 : Int → gj_M → Option (gj_M)) (l1 l2 : Int) (M : gj_M) : Option (gj_M) :=
  (if l2 = 0 then (J_X12_byLot_176 rec2 l1 M) else gj_bnd2 (F_X12_lot l2 M) (fun x6 M7 => (gj_it (fun _ _ _ _ => none) (B_X12_byLot_103 rec2) gj_fu l1 x6 4 M7)))
def J_X12_byLot_79 (rec2 : Int → gj_M → Option (gj_M)) (rec31 : Int → Int → Int → gj_M → Option (gj_M)) (l1 l3 s0 s1 : Int) (M : gj_M) : Option (gj_M) :=
  rec31 l1 (gj_w (s0 + s1)) (gj_w (l3 + 1)) M
def B_X12_byLot_31 (rec2 : Int → gj_M → Option (gj_M)) (rec31 : Int → Int → Int → gj_M → Option (gj_M)) (l1 l2 l3 : Int) (M : gj_M) : Option (gj_M) :=
  (if gj_w (4 + (M 101 1)) ≤ l3 then (J_X12_byLot_87 rec2 l1 l2 M) else gj_chk (0 ≤ l3 ∧ l3 < 8) ((if M 120 l3 = 0 then gj_chk (0 ≤ l3 ∧ l3 < 8) ((if M 119 l3 = -1 then gj_bnd (F_X12_both l1 l3 M) (fun x4 => (if x4 = 0 then (J_X12_byLot_79 rec2 rec31 l1 l3 l2 0 M) else (J_X12_byLot_79 rec2 rec31 l1 l3 l2 1 M))) else (J_X12_byLot_79 rec2 rec31 l1 l3 l2 0 M))) else (J_X12_byLot_79 rec2 rec31 l1 l3 l2 0 M))))
def B_X12_byLot_2 (rec2 : Int → gj_M → Option (gj_M)) (l1 : Int) (M : gj_M) : Option (gj_M) :=
  (if M 101 0 ≤ l1 then (some (M)) else gj_chk (0 ≤ l1 ∧ l1 < 8) ((if M 120 l1 = 1 then (J_X12_byLot_176 rec2 l1 M) else (gj_it (fun _ _ _ _ => none) (B_X12_byLot_31 rec2) gj_fu l1 0 4 M))))
def F_X12_byLot (M : gj_M) : Option (gj_M) :=
  (gj_it (fun _ _ => none) (B_X12_byLot_2) gj_fu 0 M)
set_option maxHeartbeats 4000000 in
set_option maxRecDepth 20000 in
theorem t_J_X12_byLot_176 (hst : gj_Stat S) {r : gj_M} {rec2 : Int → gj_M → Option (gj_M)} (hrec2 : ∀ (l1 : Int) (M : gj_M), rec2 l1 M = some r → gj_W G l 6 0 0 yX12_byLot cX12_byLot 5 none (gj_qV fun S' M' => S = S' ∧ r = M') 0 0 2 [(0, jR 79), (1, jI l1)] [] S M) (l1 : Int) (M : gj_M) (hF : J_X12_byLot_176 rec2 l1 M = some r) : gj_W G l 6 0 0 yX12_byLot cX12_byLot 5 none (gj_qV fun S' M' => S = S' ∧ r = M') 0 0 176 [(0, jR 79), (1, jI l1)] [] S M := by
  unfold J_X12_byLot_176 at hF
  refine gj_iinc (q := 179) (v := gj_w (l1 + 1)) (gj_dk okX12_byLot 102 rfl) rfl (by decide) rfl rfl ?_
  refine gj_goto (tgt := 2) (gj_dk okX12_byLot 103 rfl) (by decide) ?_
  refine gj_sub [(0, jR 79), (1, jI (gj_w (l1 + 1)))] ⟨rfl, rfl, trivial⟩ ?_
  exact hrec2 (gj_w (l1 + 1)) M hF
set_option maxHeartbeats 4000000 in
set_option maxRecDepth 20000 in
theorem t_J_X12_byLot_157 (hst : gj_Stat S) {r : gj_M} {rec2 : Int → gj_M → Option (gj_M)} (hrec2 : ∀ (l1 : Int) (M : gj_M), rec2 l1 M = some r → gj_W G l 6 0 0 yX12_byLot cX12_byLot 5 none (gj_qV fun S' M' => S = S' ∧ r = M') 0 0 2 [(0, jR 79), (1, jI l1)] [] S M) (l1 l4 : Int) (M : gj_M) (hF : J_X12_byLot_157 rec2 l1 l4 M = some r) : gj_W G l 6 0 0 yX12_byLot cX12_byLot 5 none (gj_qV fun S' M' => S = S' ∧ r = M') 0 0 157 [(0, jR 79), (1, jI l1), (4, jI l4)] [] S M := by
  unfold J_X12_byLot_157 at hF
  refine gj_aload_n (q := 158) (gj_dk okX12_byLot 94 rfl) rfl rfl ?_
  refine gj_iload_n (q := 159) (gj_dk okX12_byLot 95 rfl) rfl rfl ?_
  refine gj_iload (q := 161) (gj_dk okX12_byLot 96 rfl) rfl rfl ?_
  obtain ⟨M13, hG, hF⟩ := gj_bndd hF
  refine gj_callV (q := 164) (z := 79) (ci := 10) [jI l1, jI l4] rfl (t_X12_gives hst l1 l4 hG) (gj_dk okX12_byLot 97 rfl) ml_X12_378 me_X12_gives (sh79 hst) rfl (gj_nm rfl) rfl (gj_kV fun S2 M2 h => ?_)
  obtain ⟨eS, eM⟩ := h; subst eS; subst eM; clear hG
  refine gj_goto (tgt := 176) (gj_dk okX12_byLot 98 rfl) (by decide) ?_
  refine gj_sub [(0, jR 79), (1, jI l1)] ⟨rfl, rfl, trivial⟩ ?_
  exact t_J_X12_byLot_176 hst hrec2 l1 M13 hF
set_option maxHeartbeats 4000000 in
set_option maxRecDepth 20000 in
theorem t_B_X12_byLot_103 (hst : gj_Stat S) {r : gj_M} {rec2 : Int → gj_M → Option (gj_M)} {rec103 : Int → Int → Int → gj_M → Option (gj_M)} (hrec2 : ∀ (l1 : Int) (M : gj_M), rec2 l1 M = some r → gj_W G l 6 0 0 yX12_byLot cX12_byLot 5 none (gj_qV fun S' M' => S = S' ∧ r = M') 0 0 2 [(0, jR 79), (1, jI l1)] [] S M) (hrec103 : ∀ (l1 l3 l4 : Int) (M : gj_M), rec103 l1 l3 l4 M = some r → gj_W G l 6 0 0 yX12_byLot cX12_byLot 5 none (gj_qV fun S' M' => S = S' ∧ r = M') 0 0 103 [(0, jR 79), (1, jI l1), (3, jI l3), (4, jI l4)] [] S M) (l1 l3 l4 : Int) (M : gj_M) (hF : B_X12_byLot_103 rec2 rec103 l1 l3 l4 M = some r) : gj_W G l 6 0 0 yX12_byLot cX12_byLot 5 none (gj_qV fun S' M' => S = S' ∧ r = M') 0 0 103 [(0, jR 79), (1, jI l1), (3, jI l3), (4, jI l4)] [] S M := by
  unfold B_X12_byLot_103 at hF
  refine gj_iload (q := 105) (gj_dk okX12_byLot 64 rfl) rfl rfl ?_
  refine gj_iconst (q := 106) (gj_dk okX12_byLot 65 rfl) (by decide) rfl ?_
  refine gj_aload_n (q := 107) (gj_dk okX12_byLot 66 rfl) rfl rfl ?_
  refine gj_gR (q := 110) (j := 13) (gj_dk okX12_byLot 67 rfl) ff_X12_37 (sh79 hst) (by decide) rfl (rf79_13 hst) rfl ?_
  refine gj_iconst (q := 111) (gj_dk okX12_byLot 68 rfl) (by decide) rfl ?_
  refine gj_aald (q := 112) (gj_dk okX12_byLot 69 rfl) (sh100 hst) (by decide) (by decide) (by decide) (rf100_0 hst) rfl ?_
  refine gj_iconst (q := 113) (gj_dk okX12_byLot 70 rfl) (by decide) rfl ?_
  refine gj_iald (q := 114) (gj_dk okX12_byLot 71 rfl) (sh101 hst) (by decide) (by decide) rfl ?_
  refine gj_iadd (q := 115) (gj_dk okX12_byLot 72 rfl) rfl ?_
  refine gj_icmp_ge (q := 118) (tgt := 176) (gj_dk okX12_byLot 73 rfl) (by decide) rfl (fun c115 => ?_) (fun c115 => ?_)
  · -- 176
    replace hF := gj_ift c115 hF
    refine gj_sub [(0, jR 79), (1, jI l1)] ⟨rfl, rfl, trivial⟩ ?_
    exact t_J_X12_byLot_176 hst hrec2 l1 M hF
  · -- 118
    replace hF := gj_iff c115 hF
    refine gj_aload_n (q := 119) (gj_dk okX12_byLot 74 rfl) rfl rfl ?_
    refine gj_gR (q := 122) (j := 40) (gj_dk okX12_byLot 75 rfl) ff_X12_117 (sh79 hst) (by decide) rfl (rf79_40 hst) rfl ?_
    refine gj_iload (q := 124) (gj_dk okX12_byLot 76 rfl) rfl rfl ?_
    obtain ⟨b8, hF⟩ := gj_ckd hF
    refine gj_iald (q := 125) (gj_dk okX12_byLot 77 rfl) (sh120 hst) b8.1 b8.2 rfl ?_
    refine gj_iconst (q := 126) (gj_dk okX12_byLot 78 rfl) (by decide) rfl ?_
    refine gj_icmp_eq (q := 129) (tgt := 170) (gj_dk okX12_byLot 79 rfl) (by decide) rfl (fun c126 => ?_) (fun c126 => ?_)
    · -- 170
      replace hF := gj_ift c126 hF
      refine gj_iinc (q := 173) (v := gj_w (l4 + 1)) (gj_dk okX12_byLot 100 rfl) rfl (by decide) rfl rfl ?_
      refine gj_goto (tgt := 103) (gj_dk okX12_byLot 101 rfl) (by decide) ?_
      refine gj_sub [(0, jR 79), (1, jI l1), (3, jI l3), (4, jI (gj_w (l4 + 1)))] ⟨rfl, rfl, rfl, rfl, trivial⟩ ?_
      exact hrec103 l1 l3 (gj_w (l4 + 1)) M hF
    · -- 129
      replace hF := gj_iff c126 hF
      refine gj_aload_n (q := 130) (gj_dk okX12_byLot 80 rfl) rfl rfl ?_
      refine gj_gR (q := 133) (j := 39) (gj_dk okX12_byLot 81 rfl) ff_X12_114 (sh79 hst) (by decide) rfl (rf79_39 hst) rfl ?_
      refine gj_iload (q := 135) (gj_dk okX12_byLot 82 rfl) rfl rfl ?_
      obtain ⟨b9, hF⟩ := gj_ckd hF
      refine gj_iald (q := 136) (gj_dk okX12_byLot 83 rfl) (sh119 hst) b9.1 b9.2 rfl ?_
      refine gj_iconst (q := 137) (gj_dk okX12_byLot 84 rfl) (by decide) rfl ?_
      refine gj_icmp_ne (q := 140) (tgt := 170) (gj_dk okX12_byLot 85 rfl) (by decide) rfl (fun c137 => ?_) (fun c137 => ?_)
      · -- 170
        replace hF := gj_iff c137 hF
        refine gj_iinc (q := 173) (v := gj_w (l4 + 1)) (gj_dk okX12_byLot 100 rfl) rfl (by decide) rfl rfl ?_
        refine gj_goto (tgt := 103) (gj_dk okX12_byLot 101 rfl) (by decide) ?_
        refine gj_sub [(0, jR 79), (1, jI l1), (3, jI l3), (4, jI (gj_w (l4 + 1)))] ⟨rfl, rfl, rfl, rfl, trivial⟩ ?_
        exact hrec103 l1 l3 (gj_w (l4 + 1)) M hF
      · -- 140
        replace hF := gj_ift c137 hF
        refine gj_aload_n (q := 141) (gj_dk okX12_byLot 86 rfl) rfl rfl ?_
        refine gj_iload_n (q := 142) (gj_dk okX12_byLot 87 rfl) rfl rfl ?_
        refine gj_iload (q := 144) (gj_dk okX12_byLot 88 rfl) rfl rfl ?_
        obtain ⟨x10, hG, hF⟩ := gj_bndd hF
        refine gj_callV (q := 147) (z := 79) (ci := 10) [jI l1, jI l4] rfl (t_X12_both hst l1 l4 hG) (gj_dk okX12_byLot 89 rfl) ml_X12_375 me_X12_both (sh79 hst) rfl (gj_nm rfl) rfl (gj_kI fun y S2 M2 h => ?_)
        obtain ⟨bx10, e, eS, eM⟩ := h; subst eS; subst eM; subst e; clear hG
        refine gj_if_ne (q := 150) (tgt := 153) (gj_dk okX12_byLot 90 rfl) (by decide) rfl (fun c147 => ?_) (fun c147 => ?_)
        · -- 153
          replace hF := gj_iff c147 hF
          refine gj_iload_n (q := 154) (gj_dk okX12_byLot 92 rfl) rfl rfl ?_
          refine gj_if_ne (q := 157) (tgt := 167) (gj_dk okX12_byLot 93 rfl) (by decide) rfl (fun c154 => ?_) (fun c154 => ?_)
          · -- 167
            replace hF := gj_iff c154 hF
            refine gj_iinc (q := 170) (v := gj_w (l3 + (-1))) (gj_dk okX12_byLot 99 rfl) rfl (by decide) rfl rfl ?_
            refine gj_iinc (q := 173) (v := gj_w (l4 + 1)) (gj_dk okX12_byLot 100 rfl) rfl (by decide) rfl rfl ?_
            refine gj_goto (tgt := 103) (gj_dk okX12_byLot 101 rfl) (by decide) ?_
            refine gj_sub [(0, jR 79), (1, jI l1), (3, jI (gj_w (l3 + (-1)))), (4, jI (gj_w (l4 + 1)))] ⟨rfl, rfl, rfl, rfl, trivial⟩ ?_
            exact hrec103 l1 (gj_w (l3 + (-1))) (gj_w (l4 + 1)) M hF
          · -- 157
            replace hF := gj_ift c154 hF
            refine gj_sub [(0, jR 79), (1, jI l1), (4, jI l4)] ⟨rfl, rfl, rfl, trivial⟩ ?_
            exact t_J_X12_byLot_157 hst hrec2 l1 l4 M hF
        · -- 150
          replace hF := gj_ift c147 hF
          refine gj_goto (tgt := 170) (gj_dk okX12_byLot 91 rfl) (by decide) ?_
          refine gj_iinc (q := 173) (v := gj_w (l4 + 1)) (gj_dk okX12_byLot 100 rfl) rfl (by decide) rfl rfl ?_
          refine gj_goto (tgt := 103) (gj_dk okX12_byLot 101 rfl) (by decide) ?_
          refine gj_sub [(0, jR 79), (1, jI l1), (3, jI l3), (4, jI (gj_w (l4 + 1)))] ⟨rfl, rfl, rfl, rfl, trivial⟩ ?_
          exact hrec103 l1 l3 (gj_w (l4 + 1)) M hF
theorem t_L_X12_byLot_103 (hst : gj_Stat S) {r : gj_M} {rec2 : Int → gj_M → Option (gj_M)} (hrec2 : ∀ (l1 : Int) (M : gj_M), rec2 l1 M = some r → gj_W G l 6 0 0 yX12_byLot cX12_byLot 5 none (gj_qV fun S' M' => S = S' ∧ r = M') 0 0 2 [(0, jR 79), (1, jI l1)] [] S M) : ∀ (m : Nat) (l1 : Int) (l3 : Int) (l4 : Int) (M : gj_M), gj_it (fun _ _ _ _ => none) (B_X12_byLot_103 rec2) m l1 l3 l4 M = some r → gj_W G l 6 0 0 yX12_byLot cX12_byLot 5 none (gj_qV fun S' M' => S = S' ∧ r = M') 0 0 103 [(0, jR 79), (1, jI l1), (3, jI l3), (4, jI l4)] [] S M := by
  intro m
  induction m with
  | zero => intro l1 l3 l4 M hF; cases (show (none : Option (gj_M)) = some r from hF)
  | succ m ih => intro l1 l3 l4 M hF; exact t_B_X12_byLot_103 hst hrec2 (fun l1 l3 l4 M h => ih l1 l3 l4 M h) l1 l3 l4 M hF
set_option maxHeartbeats 4000000 in
set_option maxRecDepth 20000 in
theorem t_J_X12_byLot_87 (hst : gj_Stat S) {r : gj_M} {rec2 : Int → gj_M → Option (gj_M)} (hrec2 : ∀ (l1 : Int) (M : gj_M), rec2 l1 M = some r → gj_W G l 6 0 0 yX12_byLot cX12_byLot 5 none (gj_qV fun S' M' => S = S' ∧ r = M') 0 0 2 [(0, jR 79), (1, jI l1)] [] S M) (l1 l2 : Int) (M : gj_M) (hF : J_X12_byLot_87 rec2 l1 l2 M = some r) : gj_W G l 6 0 0 yX12_byLot cX12_byLot 5 none (gj_qV fun S' M' => S = S' ∧ r = M') 0 0 87 [(0, jR 79), (1, jI l1), (2, jI l2)] [] S M := by
  unfold J_X12_byLot_87 at hF
  refine gj_iload_n (q := 88) (gj_dk okX12_byLot 55 rfl) rfl rfl ?_
  refine gj_if_ne (q := 91) (tgt := 94) (gj_dk okX12_byLot 56 rfl) (by decide) rfl (fun c88 => ?_) (fun c88 => ?_)
  · -- 94
    replace hF := gj_iff c88 hF
    refine gj_aload_n (q := 95) (gj_dk okX12_byLot 58 rfl) rfl rfl ?_
    refine gj_iload_n (q := 96) (gj_dk okX12_byLot 59 rfl) rfl rfl ?_
    obtain ⟨x6, M7, hG, hF⟩ := gj_bnd2d hF
    refine gj_callV (q := 99) (z := 79) (ci := 10) [jI l2] rfl (t_X12_lot hst l2 hG) (gj_dk okX12_byLot 60 rfl) ml_X12_382 me_X12_lot (sh79 hst) rfl (gj_nm rfl) rfl (gj_kI fun y S2 M2 h => ?_)
    obtain ⟨e, eS, eM⟩ := h; subst eS; subst eM; subst e; clear hG
    dsimp only
    refine gj_istore_n (q := 100) (gj_dk okX12_byLot 61 rfl) (by decide) rfl ?_
    refine gj_iconst (q := 101) (gj_dk okX12_byLot 62 rfl) (by decide) rfl ?_
    refine gj_istore (q := 103) (gj_dk okX12_byLot 63 rfl) (by decide) rfl ?_
    refine gj_sub [(0, jR 79), (1, jI l1), (3, jI x6), (4, jI 4)] ⟨rfl, rfl, rfl, rfl, trivial⟩ ?_
    exact t_L_X12_byLot_103 hst hrec2 gj_fu l1 x6 4 M7 hF
  · -- 91
    replace hF := gj_ift c88 hF
    refine gj_goto (tgt := 176) (gj_dk okX12_byLot 57 rfl) (by decide) ?_
    refine gj_sub [(0, jR 79), (1, jI l1)] ⟨rfl, rfl, trivial⟩ ?_
    exact t_J_X12_byLot_176 hst hrec2 l1 M hF
set_option maxHeartbeats 4000000 in
set_option maxRecDepth 20000 in
theorem t_J_X12_byLot_79 (hst : gj_Stat S) {r : gj_M} {rec2 : Int → gj_M → Option (gj_M)} {rec31 : Int → Int → Int → gj_M → Option (gj_M)} (hrec2 : ∀ (l1 : Int) (M : gj_M), rec2 l1 M = some r → gj_W G l 6 0 0 yX12_byLot cX12_byLot 5 none (gj_qV fun S' M' => S = S' ∧ r = M') 0 0 2 [(0, jR 79), (1, jI l1)] [] S M) (hrec31 : ∀ (l1 l2 l3 : Int) (M : gj_M), rec31 l1 l2 l3 M = some r → gj_W G l 6 0 0 yX12_byLot cX12_byLot 5 none (gj_qV fun S' M' => S = S' ∧ r = M') 0 0 31 [(0, jR 79), (1, jI l1), (2, jI l2), (3, jI l3)] [] S M) (l1 l3 s0 s1 : Int) (M : gj_M) (hF : J_X12_byLot_79 rec2 rec31 l1 l3 s0 s1 M = some r) : gj_W G l 6 0 0 yX12_byLot cX12_byLot 5 none (gj_qV fun S' M' => S = S' ∧ r = M') 0 0 79 [(0, jR 79), (1, jI l1), (3, jI l3)] [jI s1, jI s0] S M := by
  unfold J_X12_byLot_79 at hF
  refine gj_iadd (q := 80) (gj_dk okX12_byLot 51 rfl) rfl ?_
  refine gj_istore_n (q := 81) (gj_dk okX12_byLot 52 rfl) (by decide) rfl ?_
  refine gj_iinc (q := 84) (v := gj_w (l3 + 1)) (gj_dk okX12_byLot 53 rfl) rfl (by decide) rfl rfl ?_
  refine gj_goto (tgt := 31) (gj_dk okX12_byLot 54 rfl) (by decide) ?_
  refine gj_sub [(0, jR 79), (1, jI l1), (2, jI (gj_w (s0 + s1))), (3, jI (gj_w (l3 + 1)))] ⟨rfl, rfl, rfl, rfl, trivial⟩ ?_
  exact hrec31 l1 (gj_w (s0 + s1)) (gj_w (l3 + 1)) M hF
set_option maxHeartbeats 4000000 in
set_option maxRecDepth 20000 in
theorem t_B_X12_byLot_31 (hst : gj_Stat S) {r : gj_M} {rec2 : Int → gj_M → Option (gj_M)} {rec31 : Int → Int → Int → gj_M → Option (gj_M)} (hrec2 : ∀ (l1 : Int) (M : gj_M), rec2 l1 M = some r → gj_W G l 6 0 0 yX12_byLot cX12_byLot 5 none (gj_qV fun S' M' => S = S' ∧ r = M') 0 0 2 [(0, jR 79), (1, jI l1)] [] S M) (hrec31 : ∀ (l1 l2 l3 : Int) (M : gj_M), rec31 l1 l2 l3 M = some r → gj_W G l 6 0 0 yX12_byLot cX12_byLot 5 none (gj_qV fun S' M' => S = S' ∧ r = M') 0 0 31 [(0, jR 79), (1, jI l1), (2, jI l2), (3, jI l3)] [] S M) (l1 l2 l3 : Int) (M : gj_M) (hF : B_X12_byLot_31 rec2 rec31 l1 l2 l3 M = some r) : gj_W G l 6 0 0 yX12_byLot cX12_byLot 5 none (gj_qV fun S' M' => S = S' ∧ r = M') 0 0 31 [(0, jR 79), (1, jI l1), (2, jI l2), (3, jI l3)] [] S M := by
  unfold B_X12_byLot_31 at hF
  refine gj_iload_n (q := 32) (gj_dk okX12_byLot 21 rfl) rfl rfl ?_
  refine gj_iconst (q := 33) (gj_dk okX12_byLot 22 rfl) (by decide) rfl ?_
  refine gj_aload_n (q := 34) (gj_dk okX12_byLot 23 rfl) rfl rfl ?_
  refine gj_gR (q := 37) (j := 13) (gj_dk okX12_byLot 24 rfl) ff_X12_37 (sh79 hst) (by decide) rfl (rf79_13 hst) rfl ?_
  refine gj_iconst (q := 38) (gj_dk okX12_byLot 25 rfl) (by decide) rfl ?_
  refine gj_aald (q := 39) (gj_dk okX12_byLot 26 rfl) (sh100 hst) (by decide) (by decide) (by decide) (rf100_0 hst) rfl ?_
  refine gj_iconst (q := 40) (gj_dk okX12_byLot 27 rfl) (by decide) rfl ?_
  refine gj_iald (q := 41) (gj_dk okX12_byLot 28 rfl) (sh101 hst) (by decide) (by decide) rfl ?_
  refine gj_iadd (q := 42) (gj_dk okX12_byLot 29 rfl) rfl ?_
  refine gj_icmp_ge (q := 45) (tgt := 87) (gj_dk okX12_byLot 30 rfl) (by decide) rfl (fun c42 => ?_) (fun c42 => ?_)
  · -- 87
    replace hF := gj_ift c42 hF
    refine gj_sub [(0, jR 79), (1, jI l1), (2, jI l2)] ⟨rfl, rfl, rfl, trivial⟩ ?_
    exact t_J_X12_byLot_87 hst hrec2 l1 l2 M hF
  · -- 45
    replace hF := gj_iff c42 hF
    refine gj_iload_n (q := 46) (gj_dk okX12_byLot 31 rfl) rfl rfl ?_
    refine gj_aload_n (q := 47) (gj_dk okX12_byLot 32 rfl) rfl rfl ?_
    refine gj_gR (q := 50) (j := 40) (gj_dk okX12_byLot 33 rfl) ff_X12_117 (sh79 hst) (by decide) rfl (rf79_40 hst) rfl ?_
    refine gj_iload_n (q := 51) (gj_dk okX12_byLot 34 rfl) rfl rfl ?_
    obtain ⟨b2, hF⟩ := gj_ckd hF
    refine gj_iald (q := 52) (gj_dk okX12_byLot 35 rfl) (sh120 hst) b2.1 b2.2 rfl ?_
    refine gj_if_ne (q := 55) (tgt := 78) (gj_dk okX12_byLot 36 rfl) (by decide) rfl (fun c52 => ?_) (fun c52 => ?_)
    · -- 78
      replace hF := gj_iff c52 hF
      refine gj_iconst (q := 79) (gj_dk okX12_byLot 50 rfl) (by decide) rfl ?_
      refine gj_sub [(0, jR 79), (1, jI l1), (3, jI l3)] ⟨rfl, rfl, rfl, trivial⟩ ?_
      exact t_J_X12_byLot_79 hst hrec2 hrec31 l1 l3 l2 0 M hF
    · -- 55
      replace hF := gj_ift c52 hF
      refine gj_aload_n (q := 56) (gj_dk okX12_byLot 37 rfl) rfl rfl ?_
      refine gj_gR (q := 59) (j := 39) (gj_dk okX12_byLot 38 rfl) ff_X12_114 (sh79 hst) (by decide) rfl (rf79_39 hst) rfl ?_
      refine gj_iload_n (q := 60) (gj_dk okX12_byLot 39 rfl) rfl rfl ?_
      obtain ⟨b3, hF⟩ := gj_ckd hF
      refine gj_iald (q := 61) (gj_dk okX12_byLot 40 rfl) (sh119 hst) b3.1 b3.2 rfl ?_
      refine gj_iconst (q := 62) (gj_dk okX12_byLot 41 rfl) (by decide) rfl ?_
      refine gj_icmp_ne (q := 65) (tgt := 78) (gj_dk okX12_byLot 42 rfl) (by decide) rfl (fun c62 => ?_) (fun c62 => ?_)
      · -- 78
        replace hF := gj_iff c62 hF
        refine gj_iconst (q := 79) (gj_dk okX12_byLot 50 rfl) (by decide) rfl ?_
        refine gj_sub [(0, jR 79), (1, jI l1), (3, jI l3)] ⟨rfl, rfl, rfl, trivial⟩ ?_
        exact t_J_X12_byLot_79 hst hrec2 hrec31 l1 l3 l2 0 M hF
      · -- 65
        replace hF := gj_ift c62 hF
        refine gj_aload_n (q := 66) (gj_dk okX12_byLot 43 rfl) rfl rfl ?_
        refine gj_iload_n (q := 67) (gj_dk okX12_byLot 44 rfl) rfl rfl ?_
        refine gj_iload_n (q := 68) (gj_dk okX12_byLot 45 rfl) rfl rfl ?_
        obtain ⟨x4, hG, hF⟩ := gj_bndd hF
        refine gj_callV (q := 71) (z := 79) (ci := 10) [jI l1, jI l3] rfl (t_X12_both hst l1 l3 hG) (gj_dk okX12_byLot 46 rfl) ml_X12_375 me_X12_both (sh79 hst) rfl (gj_nm rfl) rfl (gj_kI fun y S2 M2 h => ?_)
        obtain ⟨bx4, e, eS, eM⟩ := h; subst eS; subst eM; subst e; clear hG
        refine gj_if_eq (q := 74) (tgt := 78) (gj_dk okX12_byLot 47 rfl) (by decide) rfl (fun c71 => ?_) (fun c71 => ?_)
        · -- 78
          replace hF := gj_ift c71 hF
          refine gj_iconst (q := 79) (gj_dk okX12_byLot 50 rfl) (by decide) rfl ?_
          refine gj_sub [(0, jR 79), (1, jI l1), (3, jI l3)] ⟨rfl, rfl, rfl, trivial⟩ ?_
          exact t_J_X12_byLot_79 hst hrec2 hrec31 l1 l3 l2 0 M hF
        · -- 74
          replace hF := gj_iff c71 hF
          refine gj_iconst (q := 75) (gj_dk okX12_byLot 48 rfl) (by decide) rfl ?_
          refine gj_goto (tgt := 79) (gj_dk okX12_byLot 49 rfl) (by decide) ?_
          refine gj_sub [(0, jR 79), (1, jI l1), (3, jI l3)] ⟨rfl, rfl, rfl, trivial⟩ ?_
          exact t_J_X12_byLot_79 hst hrec2 hrec31 l1 l3 l2 1 M hF
theorem t_L_X12_byLot_31 (hst : gj_Stat S) {r : gj_M} {rec2 : Int → gj_M → Option (gj_M)} (hrec2 : ∀ (l1 : Int) (M : gj_M), rec2 l1 M = some r → gj_W G l 6 0 0 yX12_byLot cX12_byLot 5 none (gj_qV fun S' M' => S = S' ∧ r = M') 0 0 2 [(0, jR 79), (1, jI l1)] [] S M) : ∀ (m : Nat) (l1 : Int) (l2 : Int) (l3 : Int) (M : gj_M), gj_it (fun _ _ _ _ => none) (B_X12_byLot_31 rec2) m l1 l2 l3 M = some r → gj_W G l 6 0 0 yX12_byLot cX12_byLot 5 none (gj_qV fun S' M' => S = S' ∧ r = M') 0 0 31 [(0, jR 79), (1, jI l1), (2, jI l2), (3, jI l3)] [] S M := by
  intro m
  induction m with
  | zero => intro l1 l2 l3 M hF; cases (show (none : Option (gj_M)) = some r from hF)
  | succ m ih => intro l1 l2 l3 M hF; exact t_B_X12_byLot_31 hst hrec2 (fun l1 l2 l3 M h => ih l1 l2 l3 M h) l1 l2 l3 M hF
set_option maxHeartbeats 4000000 in
set_option maxRecDepth 20000 in
theorem t_B_X12_byLot_2 (hst : gj_Stat S) {r : gj_M} {rec2 : Int → gj_M → Option (gj_M)} (hrec2 : ∀ (l1 : Int) (M : gj_M), rec2 l1 M = some r → gj_W G l 6 0 0 yX12_byLot cX12_byLot 5 none (gj_qV fun S' M' => S = S' ∧ r = M') 0 0 2 [(0, jR 79), (1, jI l1)] [] S M) (l1 : Int) (M : gj_M) (hF : B_X12_byLot_2 rec2 l1 M = some r) : gj_W G l 6 0 0 yX12_byLot cX12_byLot 5 none (gj_qV fun S' M' => S = S' ∧ r = M') 0 0 2 [(0, jR 79), (1, jI l1)] [] S M := by
  unfold B_X12_byLot_2 at hF
  refine gj_iload_n (q := 3) (gj_dk okX12_byLot 2 rfl) rfl rfl ?_
  refine gj_aload_n (q := 4) (gj_dk okX12_byLot 3 rfl) rfl rfl ?_
  refine gj_gR (q := 7) (j := 13) (gj_dk okX12_byLot 4 rfl) ff_X12_37 (sh79 hst) (by decide) rfl (rf79_13 hst) rfl ?_
  refine gj_iconst (q := 8) (gj_dk okX12_byLot 5 rfl) (by decide) rfl ?_
  refine gj_aald (q := 9) (gj_dk okX12_byLot 6 rfl) (sh100 hst) (by decide) (by decide) (by decide) (rf100_0 hst) rfl ?_
  refine gj_iconst (q := 10) (gj_dk okX12_byLot 7 rfl) (by decide) rfl ?_
  refine gj_iald (q := 11) (gj_dk okX12_byLot 8 rfl) (sh101 hst) (by decide) (by decide) rfl ?_
  refine gj_icmp_ge (q := 14) (tgt := 182) (gj_dk okX12_byLot 9 rfl) (by decide) rfl (fun c11 => ?_) (fun c11 => ?_)
  · -- 182
    replace hF := gj_ift c11 hF
    cases hF
    exact gj_vret (gj_dk okX12_byLot 104 rfl) rfl ⟨rfl, rfl, rfl⟩
  · -- 14
    replace hF := gj_iff c11 hF
    refine gj_aload_n (q := 15) (gj_dk okX12_byLot 10 rfl) rfl rfl ?_
    refine gj_gR (q := 18) (j := 40) (gj_dk okX12_byLot 11 rfl) ff_X12_117 (sh79 hst) (by decide) rfl (rf79_40 hst) rfl ?_
    refine gj_iload_n (q := 19) (gj_dk okX12_byLot 12 rfl) rfl rfl ?_
    obtain ⟨b1, hF⟩ := gj_ckd hF
    refine gj_iald (q := 20) (gj_dk okX12_byLot 13 rfl) (sh120 hst) b1.1 b1.2 rfl ?_
    refine gj_iconst (q := 21) (gj_dk okX12_byLot 14 rfl) (by decide) rfl ?_
    refine gj_icmp_ne (q := 24) (tgt := 27) (gj_dk okX12_byLot 15 rfl) (by decide) rfl (fun c21 => ?_) (fun c21 => ?_)
    · -- 27
      replace hF := gj_iff c21 hF
      refine gj_iconst (q := 28) (gj_dk okX12_byLot 17 rfl) (by decide) rfl ?_
      refine gj_istore_n (q := 29) (gj_dk okX12_byLot 18 rfl) (by decide) rfl ?_
      refine gj_iconst (q := 30) (gj_dk okX12_byLot 19 rfl) (by decide) rfl ?_
      refine gj_istore_n (q := 31) (gj_dk okX12_byLot 20 rfl) (by decide) rfl ?_
      refine gj_sub [(0, jR 79), (1, jI l1), (2, jI 0), (3, jI 4)] ⟨rfl, rfl, rfl, rfl, trivial⟩ ?_
      exact t_L_X12_byLot_31 hst hrec2 gj_fu l1 0 4 M hF
    · -- 24
      replace hF := gj_ift c21 hF
      refine gj_goto (tgt := 176) (gj_dk okX12_byLot 16 rfl) (by decide) ?_
      refine gj_sub [(0, jR 79), (1, jI l1)] ⟨rfl, rfl, trivial⟩ ?_
      exact t_J_X12_byLot_176 hst hrec2 l1 M hF
theorem t_L_X12_byLot_2 (hst : gj_Stat S) {r : gj_M} : ∀ (m : Nat) (l1 : Int) (M : gj_M), gj_it (fun _ _ => none) (B_X12_byLot_2) m l1 M = some r → gj_W G l 6 0 0 yX12_byLot cX12_byLot 5 none (gj_qV fun S' M' => S = S' ∧ r = M') 0 0 2 [(0, jR 79), (1, jI l1)] [] S M := by
  intro m
  induction m with
  | zero => intro l1 M hF; cases (show (none : Option (gj_M)) = some r from hF)
  | succ m ih => intro l1 M hF; exact t_B_X12_byLot_2 hst (fun l1 M h => ih l1 M h) l1 M hF
set_option maxHeartbeats 4000000 in
set_option maxRecDepth 20000 in
theorem t_X12_byLot (hst : gj_Stat S) {r : gj_M} (hF : F_X12_byLot M = some r) : gj_C G l 6 0 0 yX12_byLot cX12_byLot 5 none [jR 79] S M (gj_qV fun S' M' => S = S' ∧ r = M') := by
  refine gj_Cof (by decide +kernel) (Nat.le_of_ble_eq_true rfl) ?_
  change gj_W G l 6 0 0 yX12_byLot cX12_byLot 5 none (gj_qV fun S' M' => S = S' ∧ r = M') 0 0 0 [(0, jR 79)] [] S M
  unfold F_X12_byLot at hF
  refine gj_iconst (q := 1) (gj_dk okX12_byLot 0 rfl) (by decide) rfl ?_
  refine gj_istore_n (q := 2) (gj_dk okX12_byLot 1 rfl) (by decide) rfl ?_
  refine gj_sub [(0, jR 79), (1, jI 0)] ⟨rfl, rfl, trivial⟩ ?_
  exact t_L_X12_byLot_2 hst gj_fu 0 M hF
def J_X12_goes_21 (l1 : Int) (M : gj_M) : Option (gj_M) :=
  (if 2 ≤ l1 then (if l1 = 2 then gj_bnd (F_X12_inTurn M) (fun M6 => (some (M6))) else gj_bnd (F_X12_byLot M) (fun M4 => (some (M4)))) else gj_bnd (F_X12_asks l1 M) (fun M8 => (some (M8))))
def B_X12_goes_2 (rec2 : Int → Int → gj_M → Option (gj_M)) (l1 l2 : Int) (M : gj_M) : Option (gj_M) :=
  (if 8 ≤ l2 then (J_X12_goes_21 l1 M) else gj_chk (0 ≤ l2 ∧ l2 < 8) (gj_let (gj_up M 119 l2 (-1)) (fun M2 => rec2 l1 (gj_w (l2 + 1)) M2)))
def F_X12_goes (a1 : Int) (M : gj_M) : Option (gj_M) :=
  (gj_it (fun _ _ _ => none) (B_X12_goes_2) gj_fu a1 0 M)
set_option maxHeartbeats 4000000 in
set_option maxRecDepth 20000 in
theorem t_J_X12_goes_21 (hst : gj_Stat S) {r : gj_M} (l1 : Int) (M : gj_M) (hF : J_X12_goes_21 l1 M = some r) : gj_W G l 7 0 0 yX12_goes cX12_goes 3 none (gj_qV fun S' M' => S = S' ∧ r = M') 0 0 21 [(0, jR 79), (1, jI l1)] [] S M := by
  unfold J_X12_goes_21 at hF
  refine gj_iload_n (q := 22) (gj_dk okX12_goes 12 rfl) rfl rfl ?_
  refine gj_iconst (q := 23) (gj_dk okX12_goes 13 rfl) (by decide) rfl ?_
  refine gj_icmp_ge (q := 26) (tgt := 34) (gj_dk okX12_goes 14 rfl) (by decide) rfl (fun c23 => ?_) (fun c23 => ?_)
  · -- 34
    replace hF := gj_ift c23 hF
    refine gj_iload_n (q := 35) (gj_dk okX12_goes 19 rfl) rfl rfl ?_
    refine gj_iconst (q := 36) (gj_dk okX12_goes 20 rfl) (by decide) rfl ?_
    refine gj_icmp_ne (q := 39) (tgt := 46) (gj_dk okX12_goes 21 rfl) (by decide) rfl (fun c36 => ?_) (fun c36 => ?_)
    · -- 46
      replace hF := gj_iff c36 hF
      refine gj_aload_n (q := 47) (gj_dk okX12_goes 25 rfl) rfl rfl ?_
      obtain ⟨M4, hG, hF⟩ := gj_bndd hF
      refine gj_callV (q := 50) (z := 79) (ci := 10) [] rfl (t_X12_byLot hst  hG) (gj_dk okX12_goes 26 rfl) ml_X12_391 me_X12_byLot (sh79 hst) rfl (gj_nm rfl) rfl (gj_kV fun S2 M2 h => ?_)
      obtain ⟨eS, eM⟩ := h; subst eS; subst eM; clear hG
      cases hF
      exact gj_vret (gj_dk okX12_goes 27 rfl) rfl ⟨rfl, rfl, rfl⟩
    · -- 39
      replace hF := gj_ift c36 hF
      refine gj_aload_n (q := 40) (gj_dk okX12_goes 22 rfl) rfl rfl ?_
      obtain ⟨M6, hG, hF⟩ := gj_bndd hF
      refine gj_callV (q := 43) (z := 79) (ci := 10) [] rfl (t_X12_inTurn hst  hG) (gj_dk okX12_goes 23 rfl) ml_X12_388 me_X12_inTurn (sh79 hst) rfl (gj_nm rfl) rfl (gj_kV fun S2 M2 h => ?_)
      obtain ⟨eS, eM⟩ := h; subst eS; subst eM; clear hG
      refine gj_goto (tgt := 50) (gj_dk okX12_goes 24 rfl) (by decide) ?_
      cases hF
      exact gj_vret (gj_dk okX12_goes 27 rfl) rfl ⟨rfl, rfl, rfl⟩
  · -- 26
    replace hF := gj_iff c23 hF
    refine gj_aload_n (q := 27) (gj_dk okX12_goes 15 rfl) rfl rfl ?_
    refine gj_iload_n (q := 28) (gj_dk okX12_goes 16 rfl) rfl rfl ?_
    obtain ⟨M8, hG, hF⟩ := gj_bndd hF
    refine gj_callV (q := 31) (z := 79) (ci := 10) [jI l1] rfl (t_X12_asks hst l1 hG) (gj_dk okX12_goes 17 rfl) ml_X12_385 me_X12_asks (sh79 hst) rfl (gj_nm rfl) rfl (gj_kV fun S2 M2 h => ?_)
    obtain ⟨eS, eM⟩ := h; subst eS; subst eM; clear hG
    refine gj_goto (tgt := 50) (gj_dk okX12_goes 18 rfl) (by decide) ?_
    cases hF
    exact gj_vret (gj_dk okX12_goes 27 rfl) rfl ⟨rfl, rfl, rfl⟩
set_option maxHeartbeats 4000000 in
set_option maxRecDepth 20000 in
theorem t_B_X12_goes_2 (hst : gj_Stat S) {r : gj_M} {rec2 : Int → Int → gj_M → Option (gj_M)} (hrec2 : ∀ (l1 l2 : Int) (M : gj_M), rec2 l1 l2 M = some r → gj_W G l 7 0 0 yX12_goes cX12_goes 3 none (gj_qV fun S' M' => S = S' ∧ r = M') 0 0 2 [(0, jR 79), (1, jI l1), (2, jI l2)] [] S M) (l1 l2 : Int) (M : gj_M) (hF : B_X12_goes_2 rec2 l1 l2 M = some r) : gj_W G l 7 0 0 yX12_goes cX12_goes 3 none (gj_qV fun S' M' => S = S' ∧ r = M') 0 0 2 [(0, jR 79), (1, jI l1), (2, jI l2)] [] S M := by
  unfold B_X12_goes_2 at hF
  refine gj_iload_n (q := 3) (gj_dk okX12_goes 2 rfl) rfl rfl ?_
  refine gj_bipush (q := 5) (gj_dk okX12_goes 3 rfl) (by decide) rfl rfl ?_
  refine gj_icmp_ge (q := 8) (tgt := 21) (gj_dk okX12_goes 4 rfl) (by decide) rfl (fun c5 => ?_) (fun c5 => ?_)
  · -- 21
    replace hF := gj_ift c5 hF
    refine gj_sub [(0, jR 79), (1, jI l1)] ⟨rfl, rfl, trivial⟩ ?_
    exact t_J_X12_goes_21 hst l1 M hF
  · -- 8
    replace hF := gj_iff c5 hF
    refine gj_aload_n (q := 9) (gj_dk okX12_goes 5 rfl) rfl rfl ?_
    refine gj_gR (q := 12) (j := 39) (gj_dk okX12_goes 6 rfl) ff_X12_114 (sh79 hst) (by decide) rfl (rf79_39 hst) rfl ?_
    refine gj_iload_n (q := 13) (gj_dk okX12_goes 7 rfl) rfl rfl ?_
    refine gj_iconst (q := 14) (gj_dk okX12_goes 8 rfl) (by decide) rfl ?_
    obtain ⟨b1, hF⟩ := gj_ckd hF
    refine gj_iast (q := 15) (gj_dk okX12_goes 9 rfl) (sh119 hst) b1.1 b1.2 rfl ?_
    refine gj_stp hF (fun M2 hF => ?_)
    refine gj_iinc (q := 18) (v := gj_w (l2 + 1)) (gj_dk okX12_goes 10 rfl) rfl (by decide) rfl rfl ?_
    refine gj_goto (tgt := 2) (gj_dk okX12_goes 11 rfl) (by decide) ?_
    refine gj_sub [(0, jR 79), (1, jI l1), (2, jI (gj_w (l2 + 1)))] ⟨rfl, rfl, rfl, trivial⟩ ?_
    exact hrec2 l1 (gj_w (l2 + 1)) M2 hF
theorem t_L_X12_goes_2 (hst : gj_Stat S) {r : gj_M} : ∀ (m : Nat) (l1 : Int) (l2 : Int) (M : gj_M), gj_it (fun _ _ _ => none) (B_X12_goes_2) m l1 l2 M = some r → gj_W G l 7 0 0 yX12_goes cX12_goes 3 none (gj_qV fun S' M' => S = S' ∧ r = M') 0 0 2 [(0, jR 79), (1, jI l1), (2, jI l2)] [] S M := by
  intro m
  induction m with
  | zero => intro l1 l2 M hF; cases (show (none : Option (gj_M)) = some r from hF)
  | succ m ih => intro l1 l2 M hF; exact t_B_X12_goes_2 hst (fun l1 l2 M h => ih l1 l2 M h) l1 l2 M hF
set_option maxHeartbeats 4000000 in
set_option maxRecDepth 20000 in
theorem t_X12_goes (hst : gj_Stat S) (a1 : Int) {r : gj_M} (hF : F_X12_goes a1 M = some r) : gj_C G l 7 0 0 yX12_goes cX12_goes 3 none [jR 79, jI a1] S M (gj_qV fun S' M' => S = S' ∧ r = M') := by
  refine gj_Cof (by decide +kernel) (Nat.le_of_ble_eq_true rfl) ?_
  change gj_W G l 7 0 0 yX12_goes cX12_goes 3 none (gj_qV fun S' M' => S = S' ∧ r = M') 0 0 0 [(0, jR 79), (1, jI a1)] [] S M
  unfold F_X12_goes at hF
  refine gj_iconst (q := 1) (gj_dk okX12_goes 0 rfl) (by decide) rfl ?_
  refine gj_istore_n (q := 2) (gj_dk okX12_goes 1 rfl) (by decide) rfl ?_
  refine gj_sub [(0, jR 79), (1, jI a1), (2, jI 0)] ⟨rfl, rfl, rfl, trivial⟩ ?_
  exact t_L_X12_goes_2 hst gj_fu a1 0 M hF
def F_X12_way (a1 : Int) (M : gj_M) : Option (Int × gj_M) :=
  gj_letI (f_X12_in a1 0 3 M) (fun x1 => (if x1 = 0 then gj_bnd2 (F_X12_deny 0 M) (fun x3 M4 => (some ((x3, M4)))) else gj_let (gj_up M 79 28 a1) (fun M2 => (some ((1, M2))))))
set_option maxHeartbeats 4000000 in
set_option maxRecDepth 20000 in
theorem t_X12_way (hst : gj_Stat S) (a1 : Int) {r : Int × gj_M} (hF : F_X12_way a1 M = some r) : gj_C G l 2 0 0 yX12_way cX12_way 2 (some .boolean) [jR 79, jI a1] S M (gj_qI fun x S' M' => (x = 0 ∨ x = 1) ∧ r.1 = x ∧ S = S' ∧ r.2 = M') := by
  refine gj_Cof (by decide +kernel) (Nat.le_of_ble_eq_true rfl) ?_
  change gj_W G l 2 0 0 yX12_way cX12_way 2 (some .boolean) (gj_qI fun x S' M' => (x = 0 ∨ x = 1) ∧ r.1 = x ∧ S = S' ∧ r.2 = M') 0 0 0 [(0, jR 79), (1, jI a1)] [] S M
  unfold F_X12_way at hF
  refine gj_iload_n (q := 1) (gj_dk okX12_way 0 rfl) rfl rfl ?_
  refine gj_i2l (q := 2) (gj_dk okX12_way 1 rfl) rfl ?_
  refine gj_lconst (q := 3) (z := 0) (gj_dk okX12_way 2 rfl) rfl (by decide) rfl ?_
  refine gj_ldc2 (q := 6) (z := 3) (gj_dk okX12_way 3 rfl) kl_X12_236 (by decide) rfl ?_
  refine gj_callS (q := 9) [jL a1, jL 0, jL 3] rfl (t_X12_in hst a1 0 3 rfl) (gj_dk okX12_way 4 rfl) ml_X12_158 me_X12_in (gj_nm rfl) rfl (gj_kI fun x S2 M2 h => ?_)
  obtain ⟨bz, e, eS, eM⟩ := h; subst eS; subst eM; subst e
  refine gj_stpZ bz hF (fun x1 bx1 hF => ?_)
  refine gj_if_ne (q := 12) (tgt := 18) (gj_dk okX12_way 5 rfl) (by decide) rfl (fun c9 => ?_) (fun c9 => ?_)
  · -- 18
    replace hF := gj_iff c9 hF
    refine gj_aload_n (q := 19) (gj_dk okX12_way 10 rfl) rfl rfl ?_
    refine gj_iload_n (q := 20) (gj_dk okX12_way 11 rfl) rfl rfl ?_
    refine gj_pfI (q := 23) (j := 28) (gj_dk okX12_way 12 rfl) ff_X12_267 (sh79 hst) (by decide) rfl rfl ?_
    refine gj_stp hF (fun M2 hF => ?_)
    refine gj_iconst (q := 24) (gj_dk okX12_way 13 rfl) (by decide) rfl ?_
    cases hF
    exact gj_zret (gj_dk okX12_way 14 rfl) rfl (by decide) ⟨_, rfl, (by decide), rfl, rfl, rfl⟩
  · -- 12
    replace hF := gj_ift c9 hF
    refine gj_aload_n (q := 13) (gj_dk okX12_way 6 rfl) rfl rfl ?_
    refine gj_iconst (q := 14) (gj_dk okX12_way 7 rfl) (by decide) rfl ?_
    obtain ⟨x3, M4, hG, hF⟩ := gj_bnd2d hF
    refine gj_callV (q := 17) (z := 79) (ci := 10) [jI 0] rfl (t_X12_deny hst 0 hG) (gj_dk okX12_way 8 rfl) ml_X12_173 me_X12_deny (sh79 hst) rfl (gj_nm rfl) rfl (gj_kI fun y S2 M2 h => ?_)
    obtain ⟨bx3, e, eS, eM⟩ := h; subst eS; subst eM; subst e; clear hG
    dsimp only at bx3 ⊢
    cases hF
    exact gj_zret (gj_dk okX12_way 9 rfl) rfl bx3 ⟨_, rfl, bx3, rfl, rfl, rfl⟩
def F_X12_seed (a1 : Int) (M : gj_M) : Option (Int × gj_M) :=
  gj_letI (f_X12_in a1 0 1000000 M) (fun x1 => (if x1 = 0 then gj_bnd2 (F_X12_deny 2 M) (fun x3 M4 => (some ((x3, M4)))) else gj_let (gj_up M 79 30 a1) (fun M2 => (some ((1, M2))))))
set_option maxHeartbeats 4000000 in
set_option maxRecDepth 20000 in
theorem t_X12_seed (hst : gj_Stat S) (a1 : Int) {r : Int × gj_M} (hF : F_X12_seed a1 M = some r) : gj_C G l 2 0 0 yX12_seed cX12_seed 2 (some .boolean) [jR 79, jI a1] S M (gj_qI fun x S' M' => (x = 0 ∨ x = 1) ∧ r.1 = x ∧ S = S' ∧ r.2 = M') := by
  refine gj_Cof (by decide +kernel) (Nat.le_of_ble_eq_true rfl) ?_
  change gj_W G l 2 0 0 yX12_seed cX12_seed 2 (some .boolean) (gj_qI fun x S' M' => (x = 0 ∨ x = 1) ∧ r.1 = x ∧ S = S' ∧ r.2 = M') 0 0 0 [(0, jR 79), (1, jI a1)] [] S M
  unfold F_X12_seed at hF
  refine gj_iload_n (q := 1) (gj_dk okX12_seed 0 rfl) rfl rfl ?_
  refine gj_i2l (q := 2) (gj_dk okX12_seed 1 rfl) rfl ?_
  refine gj_lconst (q := 3) (z := 0) (gj_dk okX12_seed 2 rfl) rfl (by decide) rfl ?_
  refine gj_ldc2 (q := 6) (z := 1000000) (gj_dk okX12_seed 3 rfl) kl_X12_394 (by decide) rfl ?_
  refine gj_callS (q := 9) [jL a1, jL 0, jL 1000000] rfl (t_X12_in hst a1 0 1000000 rfl) (gj_dk okX12_seed 4 rfl) ml_X12_158 me_X12_in (gj_nm rfl) rfl (gj_kI fun x S2 M2 h => ?_)
  obtain ⟨bz, e, eS, eM⟩ := h; subst eS; subst eM; subst e
  refine gj_stpZ bz hF (fun x1 bx1 hF => ?_)
  refine gj_if_ne (q := 12) (tgt := 18) (gj_dk okX12_seed 5 rfl) (by decide) rfl (fun c9 => ?_) (fun c9 => ?_)
  · -- 18
    replace hF := gj_iff c9 hF
    refine gj_aload_n (q := 19) (gj_dk okX12_seed 10 rfl) rfl rfl ?_
    refine gj_iload_n (q := 20) (gj_dk okX12_seed 11 rfl) rfl rfl ?_
    refine gj_i2l (q := 21) (gj_dk okX12_seed 12 rfl) rfl ?_
    refine gj_pfL (q := 24) (j := 30) (gj_dk okX12_seed 13 rfl) ff_X12_270 (sh79 hst) (by decide) rfl rfl ?_
    refine gj_stp hF (fun M2 hF => ?_)
    refine gj_iconst (q := 25) (gj_dk okX12_seed 14 rfl) (by decide) rfl ?_
    cases hF
    exact gj_zret (gj_dk okX12_seed 15 rfl) rfl (by decide) ⟨_, rfl, (by decide), rfl, rfl, rfl⟩
  · -- 12
    replace hF := gj_ift c9 hF
    refine gj_aload_n (q := 13) (gj_dk okX12_seed 6 rfl) rfl rfl ?_
    refine gj_iconst (q := 14) (gj_dk okX12_seed 7 rfl) (by decide) rfl ?_
    obtain ⟨x3, M4, hG, hF⟩ := gj_bnd2d hF
    refine gj_callV (q := 17) (z := 79) (ci := 10) [jI 2] rfl (t_X12_deny hst 2 hG) (gj_dk okX12_seed 8 rfl) ml_X12_173 me_X12_deny (sh79 hst) rfl (gj_nm rfl) rfl (gj_kI fun y S2 M2 h => ?_)
    obtain ⟨bx3, e, eS, eM⟩ := h; subst eS; subst eM; subst e; clear hG
    dsimp only at bx3 ⊢
    cases hF
    exact gj_zret (gj_dk okX12_seed 9 rfl) rfl bx3 ⟨_, rfl, bx3, rfl, rfl, rfl⟩
def J_X12_green_51 (l1 l3 : Int) (M : gj_M) : Option (Int × gj_M) :=
  gj_bnd (F_X12_goes l1 M) (fun M7 => gj_chk (0 ≤ l3 ∧ l3 < 8) ((if M7 119 l3 = -1 then (some ((-1, M7))) else gj_chk (0 ≤ l3 ∧ l3 < 8) (gj_letI (f_X12_told (M7 119 l3) M7) (fun x10 => (some ((x10, M7))))))))
def B_X12_green_30 (rec30 : Int → Int → Int → gj_M → Option (Int × gj_M)) (l1 l3 l4 : Int) (M : gj_M) : Option (Int × gj_M) :=
  (if 8 ≤ l4 then (J_X12_green_51 l1 l3 M) else gj_chk (0 ≤ l4 ∧ l4 < 8) (gj_let (gj_up M 120 l4 0) (fun M5 => rec30 l1 l3 (gj_w (l4 + 1)) M5)))
def F_X12_green (a1 : Int) (a2 : Int) (M : gj_M) : Option (Int × gj_M) :=
  gj_bnd (F_X12_who a2 M) (fun x1 => (if x1 = -1 then (some ((-2147483648, M))) else gj_letI (f_X12_in a1 0 2 M) (fun x3 => (if x3 = 0 then (some ((-2147483648, M))) else (gj_it (fun _ _ _ _ => none) (B_X12_green_30) gj_fu a1 x1 0 M)))))
set_option maxHeartbeats 4000000 in
set_option maxRecDepth 20000 in
theorem t_J_X12_green_51 (hst : gj_Stat S) {r : Int × gj_M} (l1 l3 : Int) (M : gj_M) (hF : J_X12_green_51 l1 l3 M = some r) : gj_W G l 8 0 0 yX12_green cX12_green 5 (some .int) (gj_qI fun x S' M' => r.1 = x ∧ S = S' ∧ r.2 = M') 0 0 51 [(0, jR 79), (1, jI l1), (3, jI l3)] [] S M := by
  unfold J_X12_green_51 at hF
  refine gj_aload_n (q := 52) (gj_dk okX12_green 27 rfl) rfl rfl ?_
  refine gj_iload_n (q := 53) (gj_dk okX12_green 28 rfl) rfl rfl ?_
  obtain ⟨M7, hG, hF⟩ := gj_bndd hF
  refine gj_callV (q := 56) (z := 79) (ci := 10) [jI l1] rfl (t_X12_goes hst l1 hG) (gj_dk okX12_green 29 rfl) ml_X12_396 me_X12_goes (sh79 hst) rfl (gj_nm rfl) rfl (gj_kV fun S2 M2 h => ?_)
  obtain ⟨eS, eM⟩ := h; subst eS; subst eM; clear hG
  refine gj_aload_n (q := 57) (gj_dk okX12_green 30 rfl) rfl rfl ?_
  refine gj_gR (q := 60) (j := 39) (gj_dk okX12_green 31 rfl) ff_X12_114 (sh79 hst) (by decide) rfl (rf79_39 hst) rfl ?_
  refine gj_iload_n (q := 61) (gj_dk okX12_green 32 rfl) rfl rfl ?_
  obtain ⟨b8, hF⟩ := gj_ckd hF
  refine gj_iald (q := 62) (gj_dk okX12_green 33 rfl) (sh119 hst) b8.1 b8.2 rfl ?_
  refine gj_iconst (q := 63) (gj_dk okX12_green 34 rfl) (by decide) rfl ?_
  refine gj_icmp_ne (q := 66) (tgt := 70) (gj_dk okX12_green 35 rfl) (by decide) rfl (fun c63 => ?_) (fun c63 => ?_)
  · -- 70
    replace hF := gj_iff c63 hF
    refine gj_aload_n (q := 71) (gj_dk okX12_green 38 rfl) rfl rfl ?_
    refine gj_gR (q := 74) (j := 39) (gj_dk okX12_green 39 rfl) ff_X12_114 (sh79 hst) (by decide) rfl (rf79_39 hst) rfl ?_
    refine gj_iload_n (q := 75) (gj_dk okX12_green 40 rfl) rfl rfl ?_
    obtain ⟨b9, hF⟩ := gj_ckd hF
    refine gj_iald (q := 76) (gj_dk okX12_green 41 rfl) (sh119 hst) b9.1 b9.2 rfl ?_
    refine gj_callS (q := 79) [jI (M7 119 l3)] rfl (t_X12_told hst (M7 119 l3) rfl) (gj_dk okX12_green 42 rfl) ml_X12_285 me_X12_told (gj_nm rfl) rfl (gj_kI fun x S2 M2 h => ?_)
    obtain ⟨e, eS, eM⟩ := h; subst eS; subst eM; subst e
    refine gj_stpI hF (fun x10 hF => ?_)
    cases hF
    exact gj_iret (gj_dk okX12_green 43 rfl) rfl ⟨_, rfl, rfl, rfl, rfl⟩
  · -- 66
    replace hF := gj_ift c63 hF
    refine gj_iconst (q := 67) (gj_dk okX12_green 36 rfl) (by decide) rfl ?_
    refine gj_goto (tgt := 79) (gj_dk okX12_green 37 rfl) (by decide) ?_
    cases hF
    exact gj_iret (gj_dk okX12_green 43 rfl) rfl ⟨_, rfl, rfl, rfl, rfl⟩
set_option maxHeartbeats 4000000 in
set_option maxRecDepth 20000 in
theorem t_B_X12_green_30 (hst : gj_Stat S) {r : Int × gj_M} {rec30 : Int → Int → Int → gj_M → Option (Int × gj_M)} (hrec30 : ∀ (l1 l3 l4 : Int) (M : gj_M), rec30 l1 l3 l4 M = some r → gj_W G l 8 0 0 yX12_green cX12_green 5 (some .int) (gj_qI fun x S' M' => r.1 = x ∧ S = S' ∧ r.2 = M') 0 0 30 [(0, jR 79), (1, jI l1), (3, jI l3), (4, jI l4)] [] S M) (l1 l3 l4 : Int) (M : gj_M) (hF : B_X12_green_30 rec30 l1 l3 l4 M = some r) : gj_W G l 8 0 0 yX12_green cX12_green 5 (some .int) (gj_qI fun x S' M' => r.1 = x ∧ S = S' ∧ r.2 = M') 0 0 30 [(0, jR 79), (1, jI l1), (3, jI l3), (4, jI l4)] [] S M := by
  unfold B_X12_green_30 at hF
  refine gj_iload (q := 32) (gj_dk okX12_green 17 rfl) rfl rfl ?_
  refine gj_bipush (q := 34) (gj_dk okX12_green 18 rfl) (by decide) rfl rfl ?_
  refine gj_icmp_ge (q := 37) (tgt := 51) (gj_dk okX12_green 19 rfl) (by decide) rfl (fun c34 => ?_) (fun c34 => ?_)
  · -- 51
    replace hF := gj_ift c34 hF
    refine gj_sub [(0, jR 79), (1, jI l1), (3, jI l3)] ⟨rfl, rfl, rfl, trivial⟩ ?_
    exact t_J_X12_green_51 hst l1 l3 M hF
  · -- 37
    replace hF := gj_iff c34 hF
    refine gj_aload_n (q := 38) (gj_dk okX12_green 20 rfl) rfl rfl ?_
    refine gj_gR (q := 41) (j := 40) (gj_dk okX12_green 21 rfl) ff_X12_117 (sh79 hst) (by decide) rfl (rf79_40 hst) rfl ?_
    refine gj_iload (q := 43) (gj_dk okX12_green 22 rfl) rfl rfl ?_
    refine gj_iconst (q := 44) (gj_dk okX12_green 23 rfl) (by decide) rfl ?_
    obtain ⟨b4, hF⟩ := gj_ckd hF
    refine gj_iast (q := 45) (gj_dk okX12_green 24 rfl) (sh120 hst) b4.1 b4.2 rfl ?_
    refine gj_stp hF (fun M5 hF => ?_)
    refine gj_iinc (q := 48) (v := gj_w (l4 + 1)) (gj_dk okX12_green 25 rfl) rfl (by decide) rfl rfl ?_
    refine gj_goto (tgt := 30) (gj_dk okX12_green 26 rfl) (by decide) ?_
    refine gj_sub [(0, jR 79), (1, jI l1), (3, jI l3), (4, jI (gj_w (l4 + 1)))] ⟨rfl, rfl, rfl, rfl, trivial⟩ ?_
    exact hrec30 l1 l3 (gj_w (l4 + 1)) M5 hF
theorem t_L_X12_green_30 (hst : gj_Stat S) {r : Int × gj_M} : ∀ (m : Nat) (l1 : Int) (l3 : Int) (l4 : Int) (M : gj_M), gj_it (fun _ _ _ _ => none) (B_X12_green_30) m l1 l3 l4 M = some r → gj_W G l 8 0 0 yX12_green cX12_green 5 (some .int) (gj_qI fun x S' M' => r.1 = x ∧ S = S' ∧ r.2 = M') 0 0 30 [(0, jR 79), (1, jI l1), (3, jI l3), (4, jI l4)] [] S M := by
  intro m
  induction m with
  | zero => intro l1 l3 l4 M hF; cases (show (none : Option (Int × gj_M)) = some r from hF)
  | succ m ih => intro l1 l3 l4 M hF; exact t_B_X12_green_30 hst (fun l1 l3 l4 M h => ih l1 l3 l4 M h) l1 l3 l4 M hF
set_option maxHeartbeats 4000000 in
set_option maxRecDepth 20000 in
theorem t_X12_green (hst : gj_Stat S) (a1 a2 : Int) {r : Int × gj_M} (hF : F_X12_green a1 a2 M = some r) : gj_C G l 8 0 0 yX12_green cX12_green 5 (some .int) [jR 79, jI a1, jI a2] S M (gj_qI fun x S' M' => r.1 = x ∧ S = S' ∧ r.2 = M') := by
  refine gj_Cof (by decide +kernel) (Nat.le_of_ble_eq_true rfl) ?_
  change gj_W G l 8 0 0 yX12_green cX12_green 5 (some .int) (gj_qI fun x S' M' => r.1 = x ∧ S = S' ∧ r.2 = M') 0 0 0 [(0, jR 79), (1, jI a1), (2, jI a2)] [] S M
  unfold F_X12_green at hF
  refine gj_aload_n (q := 1) (gj_dk okX12_green 0 rfl) rfl rfl ?_
  refine gj_iload_n (q := 2) (gj_dk okX12_green 1 rfl) rfl rfl ?_
  obtain ⟨x1, hG, hF⟩ := gj_bndd hF
  refine gj_callV (q := 5) (z := 79) (ci := 10) [jI a2] rfl (t_X12_who hst a2 hG) (gj_dk okX12_green 2 rfl) ml_X12_281 me_X12_who (sh79 hst) rfl (gj_nm rfl) rfl (gj_kI fun y S2 M2 h => ?_)
  obtain ⟨e, eS, eM⟩ := h; subst eS; subst eM; subst e; clear hG
  refine gj_istore_n (q := 6) (gj_dk okX12_green 3 rfl) (by decide) rfl ?_
  refine gj_iload_n (q := 7) (gj_dk okX12_green 4 rfl) rfl rfl ?_
  refine gj_iconst (q := 8) (gj_dk okX12_green 5 rfl) (by decide) rfl ?_
  refine gj_icmp_eq (q := 11) (tgt := 23) (gj_dk okX12_green 6 rfl) (by decide) rfl (fun c8 => ?_) (fun c8 => ?_)
  · -- 23
    replace hF := gj_ift c8 hF
    refine gj_ldcw (q := 26) (z := -2147483648) (gj_dk okX12_green 13 rfl) kc_X12_284 (by decide) rfl ?_
    cases hF
    exact gj_iret (gj_dk okX12_green 14 rfl) rfl ⟨_, rfl, rfl, rfl, rfl⟩
  · -- 11
    replace hF := gj_iff c8 hF
    refine gj_iload_n (q := 12) (gj_dk okX12_green 7 rfl) rfl rfl ?_
    refine gj_i2l (q := 13) (gj_dk okX12_green 8 rfl) rfl ?_
    refine gj_lconst (q := 14) (z := 0) (gj_dk okX12_green 9 rfl) rfl (by decide) rfl ?_
    refine gj_ldc2 (q := 17) (z := 2) (gj_dk okX12_green 10 rfl) kl_X12_156 (by decide) rfl ?_
    refine gj_callS (q := 20) [jL a1, jL 0, jL 2] rfl (t_X12_in hst a1 0 2 rfl) (gj_dk okX12_green 11 rfl) ml_X12_158 me_X12_in (gj_nm rfl) rfl (gj_kI fun x S2 M2 h => ?_)
    obtain ⟨bz, e, eS, eM⟩ := h; subst eS; subst eM; subst e
    refine gj_stpZ bz hF (fun x3 bx3 hF => ?_)
    refine gj_if_ne (q := 23) (tgt := 27) (gj_dk okX12_green 12 rfl) (by decide) rfl (fun c20 => ?_) (fun c20 => ?_)
    · -- 27
      replace hF := gj_iff c20 hF
      refine gj_iconst (q := 28) (gj_dk okX12_green 15 rfl) (by decide) rfl ?_
      refine gj_istore (q := 30) (gj_dk okX12_green 16 rfl) (by decide) rfl ?_
      refine gj_sub [(0, jR 79), (1, jI a1), (3, jI x1), (4, jI 0)] ⟨rfl, rfl, rfl, rfl, trivial⟩ ?_
      exact t_L_X12_green_30 hst gj_fu a1 x1 0 M hF
    · -- 23
      replace hF := gj_ift c20 hF
      refine gj_ldcw (q := 26) (z := -2147483648) (gj_dk okX12_green 13 rfl) kc_X12_284 (by decide) rfl ?_
      cases hF
      exact gj_iret (gj_dk okX12_green 14 rfl) rfl ⟨_, rfl, rfl, rfl, rfl⟩
def J_X12_notes_121 (c : Int) (M : gj_M) : Option (Int × gj_M) :=
  gj_let (gj_up M 79 29 (gj_w ((M 79 29) + 1))) (fun M19 => (some ((c, M19))))
def B_X12_notes_91 (rec91 : Int → Int → Int → gj_M → Option (Int × gj_M)) (l4 zz : Int) (c : Int) (M : gj_M) : Option (Int × gj_M) :=
  (if 5 ≤ l4 then (J_X12_notes_121 c M) else gj_chk (0 ≤ l4 ∧ l4 < 5) (gj_chk (0 ≤ gj_w ((gj_w (5 * (M 79 29))) + l4) ∧ gj_w ((gj_w (5 * (M 79 29))) + l4) < 200) (gj_let (gj_up M 122 (gj_w ((gj_w (5 * (M 79 29))) + l4)) (M zz l4)) (fun M17 => rec91 (gj_w (l4 + 1)) zz c M17))))
def J_X12_notes_48 (l1 l2 : Int) (c : Int) (M : gj_M) : Option (Int × gj_M) :=
  gj_let (gj_nMc c M) (fun M3 => gj_let (gj_up M3 c 0 (M3 79 27)) (fun M4 => gj_let (gj_up M4 c 1 l1) (fun M5 => gj_chk (0 ≤ l1 ∧ l1 < 8) (gj_letI (f_X12_told (M5 108 l1) M5) (fun x7 => gj_let (gj_up M5 c 2 x7) (fun M8 => gj_chk (0 ≤ l1 ∧ l1 < 8) (gj_let (gj_up M8 c 3 (M8 109 l1)) (fun M10 => gj_let (gj_up M10 c 4 l2) (fun M11 => (gj_it (fun _ _ _ _ => none) (B_X12_notes_91) gj_fu 0 c ((c + 1)) M11))))))))))
def J_X12_notes_38 (l1 l2 : Int) (c : Int) (M : gj_M) : Option (Int × gj_M) :=
  gj_let (gj_up M 79 29 (gj_w ((M 79 29) - 1))) (fun M18 => (J_X12_notes_48 l1 l2 c M18))
def B_X12_notes_11 (rec11 : Int → Int → Int → Int → gj_M → Option (Int × gj_M)) (l1 l2 l3 : Int) (c : Int) (M : gj_M) : Option (Int × gj_M) :=
  (if 200 ≤ l3 then (J_X12_notes_38 l1 l2 c M) else gj_chk (0 ≤ l3 ∧ l3 < 200) (gj_chk (0 ≤ gj_w (l3 - 5) ∧ gj_w (l3 - 5) < 200) (gj_let (gj_up M 122 (gj_w (l3 - 5)) (M 122 l3)) (fun M14 => rec11 l1 l2 (gj_w (l3 + 1)) c M14))))
def F_X12_notes (a1 : Int) (a2 : Int) (c : Int) (M : gj_M) : Option (Int × gj_M) :=
  (if M 79 29 = 40 then (gj_it (fun _ _ _ _ _ => none) (B_X12_notes_11) gj_fu a1 a2 5 c M) else (J_X12_notes_48 a1 a2 c M))
set_option maxHeartbeats 4000000 in
set_option maxRecDepth 20000 in
theorem t_J_X12_notes_121 {r : Int × gj_M} : ∀ {S : gj_S} (c : Int) (M : gj_M), gj_Stat S → S.1 = c → J_X12_notes_121 c M = some r → gj_W G l 2 1 5 yX12_notes cX12_notes 5 none (gj_qV fun S' M' => gj_Stat S' ∧ S'.1 = r.1 ∧ r.2 = M') 1 5 121 [(0, jR 79)] [] S M := by
  intro S c M hst hc hF
  unfold J_X12_notes_121 at hF
  refine gj_aload_n (q := 122) (gj_dk okX12_notes 77 rfl) rfl rfl ?_
  refine gj_dup (q := 123) (gj_dk okX12_notes 78 rfl) rfl rfl ?_
  refine gj_gI (q := 126) (j := 29) (gj_dk okX12_notes 79 rfl) ff_X12_274 (sh79 hst) (by decide) rfl rfl ?_
  refine gj_iconst (q := 127) (gj_dk okX12_notes 80 rfl) (by decide) rfl ?_
  refine gj_iadd (q := 128) (gj_dk okX12_notes 81 rfl) rfl ?_
  refine gj_pfI (q := 131) (j := 29) (gj_dk okX12_notes 82 rfl) ff_X12_274 (sh79 hst) (by decide) rfl rfl ?_
  refine gj_stp hF (fun M19 hF => ?_)
  cases hF
  exact gj_vret (gj_dk okX12_notes 83 rfl) rfl ⟨rfl, hst, hc, rfl⟩
set_option maxHeartbeats 4000000 in
set_option maxRecDepth 20000 in
theorem t_B_X12_notes_91 {r : Int × gj_M} {rec91 : Int → Int → Int → gj_M → Option (Int × gj_M)} (hrec91 : ∀ {S : gj_S} (l4 : Int) (zz : Int) (c : Int) (M : gj_M), gj_Stat S → S.1 = c → S.2.1 zz = (0, 5) → 136 ≤ zz → rec91 l4 zz c M = some r → gj_W G l 2 1 5 yX12_notes cX12_notes 5 none (gj_qV fun S' M' => gj_Stat S' ∧ S'.1 = r.1 ∧ r.2 = M') 1 5 91 [(0, jR 79), (3, jR zz), (4, jI l4)] [] S M) : ∀ {S : gj_S} (l4 : Int) (zz : Int) (c : Int) (M : gj_M), gj_Stat S → S.1 = c → S.2.1 zz = (0, 5) → 136 ≤ zz → B_X12_notes_91 rec91 l4 zz c M = some r → gj_W G l 2 1 5 yX12_notes cX12_notes 5 none (gj_qV fun S' M' => gj_Stat S' ∧ S'.1 = r.1 ∧ r.2 = M') 1 5 91 [(0, jR 79), (3, jR zz), (4, jI l4)] [] S M := by
  intro S l4 zz c M hst hc hz hz0 hF
  unfold B_X12_notes_91 at hF
  refine gj_iload (q := 93) (gj_dk okX12_notes 60 rfl) rfl rfl ?_
  refine gj_iconst (q := 94) (gj_dk okX12_notes 61 rfl) (by decide) rfl ?_
  refine gj_icmp_ge (q := 97) (tgt := 121) (gj_dk okX12_notes 62 rfl) (by decide) rfl (fun c94 => ?_) (fun c94 => ?_)
  · -- 121
    replace hF := gj_ift c94 hF
    refine gj_sub [(0, jR 79)] ⟨rfl, trivial⟩ ?_
    exact t_J_X12_notes_121 c M hst hc hF
  · -- 97
    replace hF := gj_iff c94 hF
    refine gj_aload_n (q := 98) (gj_dk okX12_notes 63 rfl) rfl rfl ?_
    refine gj_gR (q := 101) (j := 42) (gj_dk okX12_notes 64 rfl) ff_X12_123 (sh79 hst) (by decide) rfl (rf79_42 hst) rfl ?_
    refine gj_iconst (q := 102) (gj_dk okX12_notes 65 rfl) (by decide) rfl ?_
    refine gj_aload_n (q := 103) (gj_dk okX12_notes 66 rfl) rfl rfl ?_
    refine gj_gI (q := 106) (j := 29) (gj_dk okX12_notes 67 rfl) ff_X12_274 (sh79 hst) (by decide) rfl rfl ?_
    refine gj_imul (q := 107) (gj_dk okX12_notes 68 rfl) rfl ?_
    refine gj_iload (q := 109) (gj_dk okX12_notes 69 rfl) rfl rfl ?_
    refine gj_iadd (q := 110) (gj_dk okX12_notes 70 rfl) rfl ?_
    refine gj_aload_n (q := 111) (gj_dk okX12_notes 71 rfl) rfl rfl ?_
    refine gj_iload (q := 113) (gj_dk okX12_notes 72 rfl) rfl rfl ?_
    obtain ⟨b15, hF⟩ := gj_ckd hF
    refine gj_iald (q := 114) (gj_dk okX12_notes 73 rfl) hz b15.1 b15.2 rfl ?_
    obtain ⟨b16, hF⟩ := gj_ckd hF
    refine gj_iast (q := 115) (gj_dk okX12_notes 74 rfl) (sh122 hst) b16.1 b16.2 rfl ?_
    refine gj_stp hF (fun M17 hF => ?_)
    refine gj_iinc (q := 118) (v := gj_w (l4 + 1)) (gj_dk okX12_notes 75 rfl) rfl (by decide) rfl rfl ?_
    refine gj_goto (tgt := 91) (gj_dk okX12_notes 76 rfl) (by decide) ?_
    refine gj_sub [(0, jR 79), (3, jR zz), (4, jI (gj_w (l4 + 1)))] ⟨rfl, rfl, rfl, trivial⟩ ?_
    exact hrec91 (gj_w (l4 + 1)) zz c M17 hst hc hz hz0 hF
theorem t_L_X12_notes_91 {r : Int × gj_M} : ∀ (m : Nat), ∀ {S : gj_S} (l4 : Int) (zz : Int) (c : Int) (M : gj_M), gj_Stat S → S.1 = c → S.2.1 zz = (0, 5) → 136 ≤ zz → gj_it (fun _ _ _ _ => none) (B_X12_notes_91) m l4 zz c M = some r → gj_W G l 2 1 5 yX12_notes cX12_notes 5 none (gj_qV fun S' M' => gj_Stat S' ∧ S'.1 = r.1 ∧ r.2 = M') 1 5 91 [(0, jR 79), (3, jR zz), (4, jI l4)] [] S M := by
  intro m
  induction m with
  | zero => intro S l4 zz c M hst hc hz hz0 hF; cases (show (none : Option (Int × gj_M)) = some r from hF)
  | succ m ih => intro S l4 zz c M hst hc hz hz0 hF; exact t_B_X12_notes_91 (fun l4 zz c M hst hc hz hz0 h => ih l4 zz c M hst hc hz hz0 h) l4 zz c M hst hc hz hz0 hF
set_option maxHeartbeats 4000000 in
set_option maxRecDepth 20000 in
theorem t_J_X12_notes_48 {r : Int × gj_M} : ∀ {S : gj_S} (l1 : Int) (l2 : Int) (c : Int) (M : gj_M), gj_Stat S → S.1 = c → J_X12_notes_48 l1 l2 c M = some r → gj_W G l 2 1 5 yX12_notes cX12_notes 5 none (gj_qV fun S' M' => gj_Stat S' ∧ S'.1 = r.1 ∧ r.2 = M') 0 0 48 [(0, jR 79), (1, jI l1), (2, jI l2)] [] S M := by
  intro S l1 l2 c M hst hc hF
  unfold J_X12_notes_48 at hF
  refine gj_iconst (q := 49) (gj_dk okX12_notes 27 rfl) (by decide) rfl ?_
  refine gj_newarr (q := 51) (kd := 0) (gj_dk okX12_notes 28 rfl) (by decide) rfl ka_int (by decide) (by decide) (by omega) (by omega) rfl ?_
  refine gj_newC hst hc (fun S2 hst hc' hz hz0 => ?_)
  replace hc := hc'; clear hc'
  refine gj_stp hF (fun M3 hF => ?_)
  refine gj_dup (q := 52) (gj_dk okX12_notes 29 rfl) rfl rfl ?_
  refine gj_iconst (q := 53) (gj_dk okX12_notes 30 rfl) (by decide) rfl ?_
  refine gj_aload_n (q := 54) (gj_dk okX12_notes 31 rfl) rfl rfl ?_
  refine gj_gI (q := 57) (j := 27) (gj_dk okX12_notes 32 rfl) ff_X12_264 (sh79 hst) (by decide) rfl rfl ?_
  refine gj_iast (q := 58) (gj_dk okX12_notes 33 rfl) hz (by decide) (by decide) rfl ?_
  refine gj_stp hF (fun M4 hF => ?_)
  refine gj_dup (q := 59) (gj_dk okX12_notes 34 rfl) rfl rfl ?_
  refine gj_iconst (q := 60) (gj_dk okX12_notes 35 rfl) (by decide) rfl ?_
  refine gj_iload_n (q := 61) (gj_dk okX12_notes 36 rfl) rfl rfl ?_
  refine gj_iast (q := 62) (gj_dk okX12_notes 37 rfl) hz (by decide) (by decide) rfl ?_
  refine gj_stp hF (fun M5 hF => ?_)
  refine gj_dup (q := 63) (gj_dk okX12_notes 38 rfl) rfl rfl ?_
  refine gj_iconst (q := 64) (gj_dk okX12_notes 39 rfl) (by decide) rfl ?_
  refine gj_aload_n (q := 65) (gj_dk okX12_notes 40 rfl) rfl rfl ?_
  refine gj_gR (q := 68) (j := 20) (gj_dk okX12_notes 41 rfl) ff_X12_77 (sh79 hst) (by decide) rfl (rf79_20 hst) rfl ?_
  refine gj_iload_n (q := 69) (gj_dk okX12_notes 42 rfl) rfl rfl ?_
  obtain ⟨b6, hF⟩ := gj_ckd hF
  refine gj_iald (q := 70) (gj_dk okX12_notes 43 rfl) (sh108 hst) b6.1 b6.2 rfl ?_
  refine gj_callS (q := 73) [jI (M5 108 l1)] rfl (t_X12_told hst (M5 108 l1) rfl) (gj_dk okX12_notes 44 rfl) ml_X12_285 me_X12_told ⟨by omega, Nat.le_of_ble_eq_true rfl, rfl, Nat.le_of_ble_eq_true rfl, by omega, by omega⟩ rfl (gj_kI fun x S2 M2 h => ?_)
  obtain ⟨e, eS, eM⟩ := h; subst eS; subst eM; subst e
  refine gj_stpI hF (fun x7 hF => ?_)
  refine gj_iast (q := 74) (gj_dk okX12_notes 45 rfl) hz (by decide) (by decide) rfl ?_
  refine gj_stp hF (fun M8 hF => ?_)
  refine gj_dup (q := 75) (gj_dk okX12_notes 46 rfl) rfl rfl ?_
  refine gj_iconst (q := 76) (gj_dk okX12_notes 47 rfl) (by decide) rfl ?_
  refine gj_aload_n (q := 77) (gj_dk okX12_notes 48 rfl) rfl rfl ?_
  refine gj_gR (q := 80) (j := 21) (gj_dk okX12_notes 49 rfl) ff_X12_80 (sh79 hst) (by decide) rfl (rf79_21 hst) rfl ?_
  refine gj_iload_n (q := 81) (gj_dk okX12_notes 50 rfl) rfl rfl ?_
  obtain ⟨b9, hF⟩ := gj_ckd hF
  refine gj_iald (q := 82) (gj_dk okX12_notes 51 rfl) (sh109 hst) b9.1 b9.2 rfl ?_
  refine gj_iast (q := 83) (gj_dk okX12_notes 52 rfl) hz (by decide) (by decide) rfl ?_
  refine gj_stp hF (fun M10 hF => ?_)
  refine gj_dup (q := 84) (gj_dk okX12_notes 53 rfl) rfl rfl ?_
  refine gj_iconst (q := 85) (gj_dk okX12_notes 54 rfl) (by decide) rfl ?_
  refine gj_iload_n (q := 86) (gj_dk okX12_notes 55 rfl) rfl rfl ?_
  refine gj_iast (q := 87) (gj_dk okX12_notes 56 rfl) hz (by decide) (by decide) rfl ?_
  refine gj_stp hF (fun M11 hF => ?_)
  refine gj_astore_n (q := 88) (gj_dk okX12_notes 57 rfl) (by decide) rfl ?_
  refine gj_iconst (q := 89) (gj_dk okX12_notes 58 rfl) (by decide) rfl ?_
  refine gj_istore (q := 91) (gj_dk okX12_notes 59 rfl) (by decide) rfl ?_
  refine gj_wid (k' := 1) (n' := 5) (by omega) (by omega) (by omega) (by omega) ?_
  refine gj_sub [(0, jR 79), (3, jR c), (4, jI 0)] ⟨rfl, rfl, rfl, trivial⟩ ?_
  exact t_L_X12_notes_91 gj_fu 0 c ((c + 1)) M11 hst hc hz hz0 hF
set_option maxHeartbeats 4000000 in
set_option maxRecDepth 20000 in
theorem t_J_X12_notes_38 {r : Int × gj_M} : ∀ {S : gj_S} (l1 : Int) (l2 : Int) (c : Int) (M : gj_M), gj_Stat S → S.1 = c → J_X12_notes_38 l1 l2 c M = some r → gj_W G l 2 1 5 yX12_notes cX12_notes 5 none (gj_qV fun S' M' => gj_Stat S' ∧ S'.1 = r.1 ∧ r.2 = M') 0 0 38 [(0, jR 79), (1, jI l1), (2, jI l2)] [] S M := by
  intro S l1 l2 c M hst hc hF
  unfold J_X12_notes_38 at hF
  refine gj_aload_n (q := 39) (gj_dk okX12_notes 21 rfl) rfl rfl ?_
  refine gj_dup (q := 40) (gj_dk okX12_notes 22 rfl) rfl rfl ?_
  refine gj_gI (q := 43) (j := 29) (gj_dk okX12_notes 23 rfl) ff_X12_274 (sh79 hst) (by decide) rfl rfl ?_
  refine gj_iconst (q := 44) (gj_dk okX12_notes 24 rfl) (by decide) rfl ?_
  refine gj_isub (q := 45) (gj_dk okX12_notes 25 rfl) rfl ?_
  refine gj_pfI (q := 48) (j := 29) (gj_dk okX12_notes 26 rfl) ff_X12_274 (sh79 hst) (by decide) rfl rfl ?_
  refine gj_stp hF (fun M18 hF => ?_)
  refine gj_sub [(0, jR 79), (1, jI l1), (2, jI l2)] ⟨rfl, rfl, rfl, trivial⟩ ?_
  exact t_J_X12_notes_48 l1 l2 c M18 hst hc hF
set_option maxHeartbeats 4000000 in
set_option maxRecDepth 20000 in
theorem t_B_X12_notes_11 {r : Int × gj_M} {rec11 : Int → Int → Int → Int → gj_M → Option (Int × gj_M)} (hrec11 : ∀ {S : gj_S} (l1 : Int) (l2 : Int) (l3 : Int) (c : Int) (M : gj_M), gj_Stat S → S.1 = c → rec11 l1 l2 l3 c M = some r → gj_W G l 2 1 5 yX12_notes cX12_notes 5 none (gj_qV fun S' M' => gj_Stat S' ∧ S'.1 = r.1 ∧ r.2 = M') 0 0 11 [(0, jR 79), (1, jI l1), (2, jI l2), (3, jI l3)] [] S M) : ∀ {S : gj_S} (l1 : Int) (l2 : Int) (l3 : Int) (c : Int) (M : gj_M), gj_Stat S → S.1 = c → B_X12_notes_11 rec11 l1 l2 l3 c M = some r → gj_W G l 2 1 5 yX12_notes cX12_notes 5 none (gj_qV fun S' M' => gj_Stat S' ∧ S'.1 = r.1 ∧ r.2 = M') 0 0 11 [(0, jR 79), (1, jI l1), (2, jI l2), (3, jI l3)] [] S M := by
  intro S l1 l2 l3 c M hst hc hF
  unfold B_X12_notes_11 at hF
  refine gj_iload_n (q := 12) (gj_dk okX12_notes 6 rfl) rfl rfl ?_
  refine gj_sipush (q := 15) (gj_dk okX12_notes 7 rfl) (by decide) rfl rfl ?_
  refine gj_icmp_ge (q := 18) (tgt := 38) (gj_dk okX12_notes 8 rfl) (by decide) rfl (fun c15 => ?_) (fun c15 => ?_)
  · -- 38
    replace hF := gj_ift c15 hF
    refine gj_sub [(0, jR 79), (1, jI l1), (2, jI l2)] ⟨rfl, rfl, rfl, trivial⟩ ?_
    exact t_J_X12_notes_38 l1 l2 c M hst hc hF
  · -- 18
    replace hF := gj_iff c15 hF
    refine gj_aload_n (q := 19) (gj_dk okX12_notes 9 rfl) rfl rfl ?_
    refine gj_gR (q := 22) (j := 42) (gj_dk okX12_notes 10 rfl) ff_X12_123 (sh79 hst) (by decide) rfl (rf79_42 hst) rfl ?_
    refine gj_iload_n (q := 23) (gj_dk okX12_notes 11 rfl) rfl rfl ?_
    refine gj_iconst (q := 24) (gj_dk okX12_notes 12 rfl) (by decide) rfl ?_
    refine gj_isub (q := 25) (gj_dk okX12_notes 13 rfl) rfl ?_
    refine gj_aload_n (q := 26) (gj_dk okX12_notes 14 rfl) rfl rfl ?_
    refine gj_gR (q := 29) (j := 42) (gj_dk okX12_notes 15 rfl) ff_X12_123 (sh79 hst) (by decide) rfl (rf79_42 hst) rfl ?_
    refine gj_iload_n (q := 30) (gj_dk okX12_notes 16 rfl) rfl rfl ?_
    obtain ⟨b12, hF⟩ := gj_ckd hF
    refine gj_iald (q := 31) (gj_dk okX12_notes 17 rfl) (sh122 hst) b12.1 b12.2 rfl ?_
    obtain ⟨b13, hF⟩ := gj_ckd hF
    refine gj_iast (q := 32) (gj_dk okX12_notes 18 rfl) (sh122 hst) b13.1 b13.2 rfl ?_
    refine gj_stp hF (fun M14 hF => ?_)
    refine gj_iinc (q := 35) (v := gj_w (l3 + 1)) (gj_dk okX12_notes 19 rfl) rfl (by decide) rfl rfl ?_
    refine gj_goto (tgt := 11) (gj_dk okX12_notes 20 rfl) (by decide) ?_
    refine gj_sub [(0, jR 79), (1, jI l1), (2, jI l2), (3, jI (gj_w (l3 + 1)))] ⟨rfl, rfl, rfl, rfl, trivial⟩ ?_
    exact hrec11 l1 l2 (gj_w (l3 + 1)) c M14 hst hc hF
theorem t_L_X12_notes_11 {r : Int × gj_M} : ∀ (m : Nat), ∀ {S : gj_S} (l1 : Int) (l2 : Int) (l3 : Int) (c : Int) (M : gj_M), gj_Stat S → S.1 = c → gj_it (fun _ _ _ _ _ => none) (B_X12_notes_11) m l1 l2 l3 c M = some r → gj_W G l 2 1 5 yX12_notes cX12_notes 5 none (gj_qV fun S' M' => gj_Stat S' ∧ S'.1 = r.1 ∧ r.2 = M') 0 0 11 [(0, jR 79), (1, jI l1), (2, jI l2), (3, jI l3)] [] S M := by
  intro m
  induction m with
  | zero => intro S l1 l2 l3 c M hst hc hF; cases (show (none : Option (Int × gj_M)) = some r from hF)
  | succ m ih => intro S l1 l2 l3 c M hst hc hF; exact t_B_X12_notes_11 (fun l1 l2 l3 c M hst hc h => ih l1 l2 l3 c M hst hc h) l1 l2 l3 c M hst hc hF
set_option maxHeartbeats 4000000 in
set_option maxRecDepth 20000 in
theorem t_X12_notes {S : gj_S} (hst : gj_Stat S) {c : Int} (hc : S.1 = c) (a1 a2 : Int) {r : Int × gj_M} (hF : F_X12_notes a1 a2 c M = some r) : gj_C G l 2 1 5 yX12_notes cX12_notes 5 none [jR 79, jI a1, jI a2] S M (gj_qV fun S' M' => gj_Stat S' ∧ S'.1 = r.1 ∧ r.2 = M') := by
  refine gj_Cof (by decide +kernel) (Nat.le_of_ble_eq_true rfl) ?_
  change gj_W G l 2 1 5 yX12_notes cX12_notes 5 none (gj_qV fun S' M' => gj_Stat S' ∧ S'.1 = r.1 ∧ r.2 = M') 0 0 0 [(0, jR 79), (1, jI a1), (2, jI a2)] [] S M
  unfold F_X12_notes at hF
  refine gj_aload_n (q := 1) (gj_dk okX12_notes 0 rfl) rfl rfl ?_
  refine gj_gI (q := 4) (j := 29) (gj_dk okX12_notes 1 rfl) ff_X12_274 (sh79 hst) (by decide) rfl rfl ?_
  refine gj_bipush (q := 6) (gj_dk okX12_notes 2 rfl) (by decide) rfl rfl ?_
  refine gj_icmp_ne (q := 9) (tgt := 48) (gj_dk okX12_notes 3 rfl) (by decide) rfl (fun c6 => ?_) (fun c6 => ?_)
  · -- 48
    replace hF := gj_iff c6 hF
    refine gj_sub [(0, jR 79), (1, jI a1), (2, jI a2)] ⟨rfl, rfl, rfl, trivial⟩ ?_
    exact t_J_X12_notes_48 a1 a2 c M hst hc hF
  · -- 9
    replace hF := gj_ift c6 hF
    refine gj_iconst (q := 10) (gj_dk okX12_notes 4 rfl) (by decide) rfl ?_
    refine gj_istore_n (q := 11) (gj_dk okX12_notes 5 rfl) (by decide) rfl ?_
    refine gj_sub [(0, jR 79), (1, jI a1), (2, jI a2), (3, jI 5)] ⟨rfl, rfl, rfl, rfl, trivial⟩ ?_
    exact t_L_X12_notes_11 gj_fu a1 a2 5 c M hst hc hF
def F_X12_log (a1 : Int) (a2 : Int) (M : gj_M) : Option (Int) :=
  (if a1 = -1 then (some (M 79 29)) else gj_letI (f_X12_in a1 0 (gj_w ((M 79 29) - 1)) M) (fun x1 => (if x1 = 0 then (some (-1)) else gj_letI (f_X12_in a2 0 4 M) (fun x2 => (if x2 = 0 then (some (-1)) else gj_chk (0 ≤ gj_w ((gj_w (5 * a1)) + a2) ∧ gj_w ((gj_w (5 * a1)) + a2) < 200) ((some (M 122 (gj_w ((gj_w (5 * a1)) + a2))))))))))
set_option maxHeartbeats 4000000 in
set_option maxRecDepth 20000 in
theorem t_X12_log (hst : gj_Stat S) (a1 a2 : Int) {r : Int} (hF : F_X12_log a1 a2 M = some r) : gj_C G l 2 0 0 yX12_log cX12_log 3 (some .int) [jR 79, jI a1, jI a2] S M (gj_qI fun x S' M' => r = x ∧ S = S' ∧ M = M') := by
  refine gj_Cof (by decide +kernel) (Nat.le_of_ble_eq_true rfl) ?_
  change gj_W G l 2 0 0 yX12_log cX12_log 3 (some .int) (gj_qI fun x S' M' => r = x ∧ S = S' ∧ M = M') 0 0 0 [(0, jR 79), (1, jI a1), (2, jI a2)] [] S M
  unfold F_X12_log at hF
  refine gj_iload_n (q := 1) (gj_dk okX12_log 0 rfl) rfl rfl ?_
  refine gj_iconst (q := 2) (gj_dk okX12_log 1 rfl) (by decide) rfl ?_
  refine gj_icmp_ne (q := 5) (tgt := 10) (gj_dk okX12_log 2 rfl) (by decide) rfl (fun c2 => ?_) (fun c2 => ?_)
  · -- 10
    replace hF := gj_iff c2 hF
    refine gj_iload_n (q := 11) (gj_dk okX12_log 6 rfl) rfl rfl ?_
    refine gj_i2l (q := 12) (gj_dk okX12_log 7 rfl) rfl ?_
    refine gj_lconst (q := 13) (z := 0) (gj_dk okX12_log 8 rfl) rfl (by decide) rfl ?_
    refine gj_aload_n (q := 14) (gj_dk okX12_log 9 rfl) rfl rfl ?_
    refine gj_gI (q := 17) (j := 29) (gj_dk okX12_log 10 rfl) ff_X12_274 (sh79 hst) (by decide) rfl rfl ?_
    refine gj_iconst (q := 18) (gj_dk okX12_log 11 rfl) (by decide) rfl ?_
    refine gj_isub (q := 19) (gj_dk okX12_log 12 rfl) rfl ?_
    refine gj_i2l (q := 20) (gj_dk okX12_log 13 rfl) rfl ?_
    refine gj_callS (q := 23) [jL a1, jL 0, jL (gj_w ((M 79 29) - 1))] rfl (t_X12_in hst a1 0 (gj_w ((M 79 29) - 1)) rfl) (gj_dk okX12_log 14 rfl) ml_X12_158 me_X12_in (gj_nm rfl) rfl (gj_kI fun x S2 M2 h => ?_)
    obtain ⟨bz, e, eS, eM⟩ := h; subst eS; subst eM; subst e
    refine gj_stpZ bz hF (fun x1 bx1 hF => ?_)
    refine gj_if_eq (q := 26) (tgt := 51) (gj_dk okX12_log 15 rfl) (by decide) rfl (fun c23 => ?_) (fun c23 => ?_)
    · -- 51
      replace hF := gj_ift c23 hF
      refine gj_iconst (q := 52) (gj_dk okX12_log 31 rfl) (by decide) rfl ?_
      cases hF
      exact gj_iret (gj_dk okX12_log 32 rfl) rfl ⟨_, rfl, rfl, rfl, rfl⟩
    · -- 26
      replace hF := gj_iff c23 hF
      refine gj_iload_n (q := 27) (gj_dk okX12_log 16 rfl) rfl rfl ?_
      refine gj_i2l (q := 28) (gj_dk okX12_log 17 rfl) rfl ?_
      refine gj_lconst (q := 29) (z := 0) (gj_dk okX12_log 18 rfl) rfl (by decide) rfl ?_
      refine gj_ldc2 (q := 32) (z := 4) (gj_dk okX12_log 19 rfl) kl_X12_351 (by decide) rfl ?_
      refine gj_callS (q := 35) [jL a2, jL 0, jL 4] rfl (t_X12_in hst a2 0 4 rfl) (gj_dk okX12_log 20 rfl) ml_X12_158 me_X12_in (gj_nm rfl) rfl (gj_kI fun x S2 M2 h => ?_)
      obtain ⟨bz, e, eS, eM⟩ := h; subst eS; subst eM; subst e
      refine gj_stpZ bz hF (fun x2 bx2 hF => ?_)
      refine gj_if_eq (q := 38) (tgt := 51) (gj_dk okX12_log 21 rfl) (by decide) rfl (fun c35 => ?_) (fun c35 => ?_)
      · -- 51
        replace hF := gj_ift c35 hF
        refine gj_iconst (q := 52) (gj_dk okX12_log 31 rfl) (by decide) rfl ?_
        cases hF
        exact gj_iret (gj_dk okX12_log 32 rfl) rfl ⟨_, rfl, rfl, rfl, rfl⟩
      · -- 38
        replace hF := gj_iff c35 hF
        refine gj_aload_n (q := 39) (gj_dk okX12_log 22 rfl) rfl rfl ?_
        refine gj_gR (q := 42) (j := 42) (gj_dk okX12_log 23 rfl) ff_X12_123 (sh79 hst) (by decide) rfl (rf79_42 hst) rfl ?_
        refine gj_iconst (q := 43) (gj_dk okX12_log 24 rfl) (by decide) rfl ?_
        refine gj_iload_n (q := 44) (gj_dk okX12_log 25 rfl) rfl rfl ?_
        refine gj_imul (q := 45) (gj_dk okX12_log 26 rfl) rfl ?_
        refine gj_iload_n (q := 46) (gj_dk okX12_log 27 rfl) rfl rfl ?_
        refine gj_iadd (q := 47) (gj_dk okX12_log 28 rfl) rfl ?_
        obtain ⟨b3, hF⟩ := gj_ckd hF
        refine gj_iald (q := 48) (gj_dk okX12_log 29 rfl) (sh122 hst) b3.1 b3.2 rfl ?_
        refine gj_goto (tgt := 52) (gj_dk okX12_log 30 rfl) (by decide) ?_
        cases hF
        exact gj_iret (gj_dk okX12_log 32 rfl) rfl ⟨_, rfl, rfl, rfl, rfl⟩
  · -- 5
    replace hF := gj_ift c2 hF
    refine gj_aload_n (q := 6) (gj_dk okX12_log 3 rfl) rfl rfl ?_
    refine gj_gI (q := 9) (j := 29) (gj_dk okX12_log 4 rfl) ff_X12_274 (sh79 hst) (by decide) rfl rfl ?_
    cases hF
    exact gj_iret (gj_dk okX12_log 5 rfl) rfl ⟨_, rfl, rfl, rfl, rfl⟩
def F_X12_joins (a1 : Int) (a2 : Int) (M : gj_M) : Option (gj_M) :=
  gj_chk (0 ≤ a1 ∧ a1 < 8) (gj_let (gj_up M 108 a1 a2) (fun M2 => gj_chk (0 ≤ a2 ∧ a2 < 8) (gj_let (gj_up M2 108 a2 a1) (fun M4 => gj_chk (0 ≤ a1 ∧ a1 < 8) (gj_let (gj_up M4 109 a1 0) (fun M6 => gj_chk (0 ≤ a2 ∧ a2 < 8) (gj_let (gj_up M6 109 a2 0) (fun M8 => gj_chk (0 ≤ a1 ∧ a1 < 8) (gj_let (gj_up M8 110 a1 0) (fun M10 => gj_chk (0 ≤ a2 ∧ a2 < 8) (gj_let (gj_up M10 110 a2 0) (fun M12 => (some (M12))))))))))))))
set_option maxHeartbeats 4000000 in
set_option maxRecDepth 20000 in
theorem t_X12_joins (hst : gj_Stat S) (a1 a2 : Int) {r : gj_M} (hF : F_X12_joins a1 a2 M = some r) : gj_C G l 1 0 0 yX12_joins cX12_joins 3 none [jR 79, jI a1, jI a2] S M (gj_qV fun S' M' => S = S' ∧ r = M') := by
  refine gj_Cof (by decide +kernel) (Nat.le_of_ble_eq_true rfl) ?_
  change gj_W G l 1 0 0 yX12_joins cX12_joins 3 none (gj_qV fun S' M' => S = S' ∧ r = M') 0 0 0 [(0, jR 79), (1, jI a1), (2, jI a2)] [] S M
  unfold F_X12_joins at hF
  refine gj_aload_n (q := 1) (gj_dk okX12_joins 0 rfl) rfl rfl ?_
  refine gj_gR (q := 4) (j := 20) (gj_dk okX12_joins 1 rfl) ff_X12_77 (sh79 hst) (by decide) rfl (rf79_20 hst) rfl ?_
  refine gj_iload_n (q := 5) (gj_dk okX12_joins 2 rfl) rfl rfl ?_
  refine gj_iload_n (q := 6) (gj_dk okX12_joins 3 rfl) rfl rfl ?_
  obtain ⟨b1, hF⟩ := gj_ckd hF
  refine gj_iast (q := 7) (gj_dk okX12_joins 4 rfl) (sh108 hst) b1.1 b1.2 rfl ?_
  refine gj_stp hF (fun M2 hF => ?_)
  refine gj_aload_n (q := 8) (gj_dk okX12_joins 5 rfl) rfl rfl ?_
  refine gj_gR (q := 11) (j := 20) (gj_dk okX12_joins 6 rfl) ff_X12_77 (sh79 hst) (by decide) rfl (rf79_20 hst) rfl ?_
  refine gj_iload_n (q := 12) (gj_dk okX12_joins 7 rfl) rfl rfl ?_
  refine gj_iload_n (q := 13) (gj_dk okX12_joins 8 rfl) rfl rfl ?_
  obtain ⟨b3, hF⟩ := gj_ckd hF
  refine gj_iast (q := 14) (gj_dk okX12_joins 9 rfl) (sh108 hst) b3.1 b3.2 rfl ?_
  refine gj_stp hF (fun M4 hF => ?_)
  refine gj_aload_n (q := 15) (gj_dk okX12_joins 10 rfl) rfl rfl ?_
  refine gj_gR (q := 18) (j := 21) (gj_dk okX12_joins 11 rfl) ff_X12_80 (sh79 hst) (by decide) rfl (rf79_21 hst) rfl ?_
  refine gj_iload_n (q := 19) (gj_dk okX12_joins 12 rfl) rfl rfl ?_
  refine gj_iconst (q := 20) (gj_dk okX12_joins 13 rfl) (by decide) rfl ?_
  obtain ⟨b5, hF⟩ := gj_ckd hF
  refine gj_iast (q := 21) (gj_dk okX12_joins 14 rfl) (sh109 hst) b5.1 b5.2 rfl ?_
  refine gj_stp hF (fun M6 hF => ?_)
  refine gj_aload_n (q := 22) (gj_dk okX12_joins 15 rfl) rfl rfl ?_
  refine gj_gR (q := 25) (j := 21) (gj_dk okX12_joins 16 rfl) ff_X12_80 (sh79 hst) (by decide) rfl (rf79_21 hst) rfl ?_
  refine gj_iload_n (q := 26) (gj_dk okX12_joins 17 rfl) rfl rfl ?_
  refine gj_iconst (q := 27) (gj_dk okX12_joins 18 rfl) (by decide) rfl ?_
  obtain ⟨b7, hF⟩ := gj_ckd hF
  refine gj_iast (q := 28) (gj_dk okX12_joins 19 rfl) (sh109 hst) b7.1 b7.2 rfl ?_
  refine gj_stp hF (fun M8 hF => ?_)
  refine gj_aload_n (q := 29) (gj_dk okX12_joins 20 rfl) rfl rfl ?_
  refine gj_gR (q := 32) (j := 22) (gj_dk okX12_joins 21 rfl) ff_X12_83 (sh79 hst) (by decide) rfl (rf79_22 hst) rfl ?_
  refine gj_iload_n (q := 33) (gj_dk okX12_joins 22 rfl) rfl rfl ?_
  refine gj_iconst (q := 34) (gj_dk okX12_joins 23 rfl) (by decide) rfl ?_
  obtain ⟨b9, hF⟩ := gj_ckd hF
  refine gj_iast (q := 35) (gj_dk okX12_joins 24 rfl) (sh110 hst) b9.1 b9.2 rfl ?_
  refine gj_stp hF (fun M10 hF => ?_)
  refine gj_aload_n (q := 36) (gj_dk okX12_joins 25 rfl) rfl rfl ?_
  refine gj_gR (q := 39) (j := 22) (gj_dk okX12_joins 26 rfl) ff_X12_83 (sh79 hst) (by decide) rfl (rf79_22 hst) rfl ?_
  refine gj_iload_n (q := 40) (gj_dk okX12_joins 27 rfl) rfl rfl ?_
  refine gj_iconst (q := 41) (gj_dk okX12_joins 28 rfl) (by decide) rfl ?_
  obtain ⟨b11, hF⟩ := gj_ckd hF
  refine gj_iast (q := 42) (gj_dk okX12_joins 29 rfl) (sh110 hst) b11.1 b11.2 rfl ?_
  refine gj_stp hF (fun M12 hF => ?_)
  cases hF
  exact gj_vret (gj_dk okX12_joins 30 rfl) rfl ⟨rfl, rfl, rfl⟩
def F_X12_parts (a1 : Int) (M : gj_M) : Option (gj_M) :=
  gj_chk (0 ≤ a1 ∧ a1 < 8) (gj_chk (0 ≤ M 108 a1 ∧ M 108 a1 < 8) (gj_let (gj_up M 108 (M 108 a1) (-1)) (fun M3 => gj_chk (0 ≤ a1 ∧ a1 < 8) (gj_let (gj_up M3 108 a1 (-1)) (fun M5 => (some (M5)))))))
set_option maxHeartbeats 4000000 in
set_option maxRecDepth 20000 in
theorem t_X12_parts (hst : gj_Stat S) (a1 : Int) {r : gj_M} (hF : F_X12_parts a1 M = some r) : gj_C G l 1 0 0 yX12_parts cX12_parts 2 none [jR 79, jI a1] S M (gj_qV fun S' M' => S = S' ∧ r = M') := by
  refine gj_Cof (by decide +kernel) (Nat.le_of_ble_eq_true rfl) ?_
  change gj_W G l 1 0 0 yX12_parts cX12_parts 2 none (gj_qV fun S' M' => S = S' ∧ r = M') 0 0 0 [(0, jR 79), (1, jI a1)] [] S M
  unfold F_X12_parts at hF
  refine gj_aload_n (q := 1) (gj_dk okX12_parts 0 rfl) rfl rfl ?_
  refine gj_gR (q := 4) (j := 20) (gj_dk okX12_parts 1 rfl) ff_X12_77 (sh79 hst) (by decide) rfl (rf79_20 hst) rfl ?_
  refine gj_aload_n (q := 5) (gj_dk okX12_parts 2 rfl) rfl rfl ?_
  refine gj_gR (q := 8) (j := 20) (gj_dk okX12_parts 3 rfl) ff_X12_77 (sh79 hst) (by decide) rfl (rf79_20 hst) rfl ?_
  refine gj_iload_n (q := 9) (gj_dk okX12_parts 4 rfl) rfl rfl ?_
  obtain ⟨b1, hF⟩ := gj_ckd hF
  refine gj_iald (q := 10) (gj_dk okX12_parts 5 rfl) (sh108 hst) b1.1 b1.2 rfl ?_
  refine gj_iconst (q := 11) (gj_dk okX12_parts 6 rfl) (by decide) rfl ?_
  obtain ⟨b2, hF⟩ := gj_ckd hF
  refine gj_iast (q := 12) (gj_dk okX12_parts 7 rfl) (sh108 hst) b2.1 b2.2 rfl ?_
  refine gj_stp hF (fun M3 hF => ?_)
  refine gj_aload_n (q := 13) (gj_dk okX12_parts 8 rfl) rfl rfl ?_
  refine gj_gR (q := 16) (j := 20) (gj_dk okX12_parts 9 rfl) ff_X12_77 (sh79 hst) (by decide) rfl (rf79_20 hst) rfl ?_
  refine gj_iload_n (q := 17) (gj_dk okX12_parts 10 rfl) rfl rfl ?_
  refine gj_iconst (q := 18) (gj_dk okX12_parts 11 rfl) (by decide) rfl ?_
  obtain ⟨b4, hF⟩ := gj_ckd hF
  refine gj_iast (q := 19) (gj_dk okX12_parts 12 rfl) (sh108 hst) b4.1 b4.2 rfl ?_
  refine gj_stp hF (fun M5 hF => ?_)
  cases hF
  exact gj_vret (gj_dk okX12_parts 13 rfl) rfl ⟨rfl, rfl, rfl⟩
def J_X12_asked_202 (rec60 : Int → Int → gj_M → Option (Int × gj_M)) (l1 : Int) (c : Int) (M : gj_M) : Option (Int × gj_M) :=
  rec60 (gj_w (l1 + 1)) c M
def J_X12_asked_191 (rec60 : Int → Int → gj_M → Option (Int × gj_M)) (l1 l2 : Int) (c : Int) (M : gj_M) : Option (Int × gj_M) :=
  gj_bnd2 (F_X12_notes l1 l2 c M) (fun k27 M26 => gj_bnd (F_X12_parts l1 M26) (fun M29 => (J_X12_asked_202 rec60 l1 k27 M29)))
def J_X12_asked_163 (rec60 : Int → Int → gj_M → Option (Int × gj_M)) (l1 l2 : Int) (c : Int) (M : gj_M) : Option (Int × gj_M) :=
  (if l2 ≤ 1 then (J_X12_asked_191 rec60 l1 l2 c M) else gj_chk (0 ≤ l1 ∧ l1 < 8) (gj_chk (0 ≤ M 108 l1 ∧ M 108 l1 < 8) (gj_chk (0 ≤ M 108 l1 ∧ M 108 l1 < 8) (gj_let (gj_up M 111 (M 108 l1) (gj_w ((M 111 (M 108 l1)) - (M 98 6)))) (fun M24 => (J_X12_asked_191 rec60 l1 l2 c M24))))))
def B_X12_asked_60 (rec60 : Int → Int → gj_M → Option (Int × gj_M)) (l1 : Int) (c : Int) (M : gj_M) : Option (Int × gj_M) :=
  (if M 101 0 ≤ l1 then (some ((c, M))) else gj_chk (0 ≤ l1 ∧ l1 < 8) ((if M 108 l1 = -1 then (J_X12_asked_202 rec60 l1 c M) else gj_chk (0 ≤ l1 ∧ l1 < 8) (gj_chk (0 ≤ l1 ∧ l1 < 8) (gj_chk (0 ≤ M 108 l1 ∧ M 108 l1 < 8) (gj_letI (gj_w ((M 123 l1) + (gj_w (2 * (M 123 (M 108 l1)))))) (fun x10 => (if x10 = 0 then gj_chk (0 ≤ l1 ∧ l1 < 8) (gj_chk (0 ≤ l1 ∧ l1 < 8) (gj_let (gj_up M 110 l1 (gj_w ((M 110 l1) + 1))) (fun M16 => gj_chk (0 ≤ l1 ∧ l1 < 8) (gj_chk (0 ≤ M16 108 l1 ∧ M16 108 l1 < 8) (gj_chk (0 ≤ M16 108 l1 ∧ M16 108 l1 < 8) (gj_let (gj_up M16 110 (M16 108 l1) (gj_w ((M16 110 (M16 108 l1)) + 1))) (fun M20 => (J_X12_asked_202 rec60 l1 c M20)))))))) else (if gj_and x10 1 = 1 then gj_chk (0 ≤ l1 ∧ l1 < 8) (gj_chk (0 ≤ l1 ∧ l1 < 8) (gj_let (gj_up M 111 l1 (gj_w ((M 111 l1) - (M 98 6)))) (fun M13 => (J_X12_asked_163 rec60 l1 x10 c M13)))) else (J_X12_asked_163 rec60 l1 x10 c M))))))))))
def J_X12_asked_58 (c : Int) (M : gj_M) : Option (Int × gj_M) :=
  (gj_it (fun _ _ _ => none) (B_X12_asked_60) 5 0 c M)
def J_X12_asked_51 (rec2 : Int → Int → gj_M → Option (Int × gj_M)) (l1 s1 s2 : Int) (c : Int) (M : gj_M) : Option (Int × gj_M) :=
  gj_chk (0 ≤ s1 ∧ s1 < 8) (gj_let (gj_up M 123 s1 s2) (fun M5 => rec2 (gj_w (l1 + 1)) c M5))
def B_X12_asked_2 (rec2 : Int → Int → gj_M → Option (Int × gj_M)) (l1 : Int) (c : Int) (M : gj_M) : Option (Int × gj_M) :=
  (if 8 ≤ l1 then (J_X12_asked_58 c M) else gj_chk (0 ≤ gj_w (Int.tdiv l1 4) ∧ gj_w (Int.tdiv l1 4) < 2) ((if M 101 (gj_w (Int.tdiv l1 4)) ≤ Int.tmod l1 4 then (J_X12_asked_51 rec2 l1 l1 0 c M) else gj_bnd2 (F_X12_isSilent l1 (M 98 7) M) (fun x2 M3 => (if x2 = 0 then (J_X12_asked_51 rec2 l1 l1 0 c M3) else (J_X12_asked_51 rec2 l1 l1 1 c M3))))))
def F_X12_asked (c : Int) (M : gj_M) : Option (Int × gj_M) :=
  (gj_it (fun _ _ _ => none) (B_X12_asked_2) gj_fu 0 c M)
set_option maxHeartbeats 4000000 in
set_option maxRecDepth 20000 in
theorem t_J_X12_asked_202 {K N : Nat} (hK : K + 1 ≤ 5) (hN : N + 5 ≤ 25) {r : Int × gj_M} {rec60 : Int → Int → gj_M → Option (Int × gj_M)} (hrec60 : ∀ {S : gj_S} (l1 : Int) (c : Int) (M : gj_M), gj_Stat S → S.1 = c → rec60 l1 c M = some r → gj_W G l 25 5 25 yX12_asked cX12_asked 3 none (gj_qV fun S' M' => gj_Stat S' ∧ S'.1 = r.1 ∧ r.2 = M') (K + 1) (N + 5) 60 [(0, jR 79), (1, jI l1)] [] S M) : ∀ {S : gj_S} (l1 : Int) (c : Int) (M : gj_M), gj_Stat S → S.1 = c → J_X12_asked_202 rec60 l1 c M = some r → gj_W G l 25 5 25 yX12_asked cX12_asked 3 none (gj_qV fun S' M' => gj_Stat S' ∧ S'.1 = r.1 ∧ r.2 = M') (K + 1) (N + 5) 202 [(0, jR 79), (1, jI l1)] [] S M := by
  intro S l1 c M hst hc hF
  unfold J_X12_asked_202 at hF
  refine gj_iinc (q := 205) (v := gj_w (l1 + 1)) (gj_dk okX12_asked 134 rfl) rfl (by decide) rfl rfl ?_
  refine gj_goto (tgt := 60) (gj_dk okX12_asked 135 rfl) (by decide) ?_
  refine gj_sub [(0, jR 79), (1, jI (gj_w (l1 + 1)))] ⟨rfl, rfl, trivial⟩ ?_
  exact hrec60 (gj_w (l1 + 1)) c M hst hc hF
set_option maxHeartbeats 4000000 in
set_option maxRecDepth 20000 in
theorem t_J_X12_asked_191 {K N : Nat} (hK : K + 1 ≤ 5) (hN : N + 5 ≤ 25) {r : Int × gj_M} {rec60 : Int → Int → gj_M → Option (Int × gj_M)} (hrec60 : ∀ {S : gj_S} (l1 : Int) (c : Int) (M : gj_M), gj_Stat S → S.1 = c → rec60 l1 c M = some r → gj_W G l 25 5 25 yX12_asked cX12_asked 3 none (gj_qV fun S' M' => gj_Stat S' ∧ S'.1 = r.1 ∧ r.2 = M') (K + 1) (N + 5) 60 [(0, jR 79), (1, jI l1)] [] S M) : ∀ {S : gj_S} (l1 : Int) (l2 : Int) (c : Int) (M : gj_M), gj_Stat S → S.1 = c → J_X12_asked_191 rec60 l1 l2 c M = some r → gj_W G l 25 5 25 yX12_asked cX12_asked 3 none (gj_qV fun S' M' => gj_Stat S' ∧ S'.1 = r.1 ∧ r.2 = M') K N 191 [(0, jR 79), (1, jI l1), (2, jI l2)] [] S M := by
  intro S l1 l2 c M hst hc hF
  unfold J_X12_asked_191 at hF
  refine gj_aload_n (q := 192) (gj_dk okX12_asked 127 rfl) rfl rfl ?_
  refine gj_iload_n (q := 193) (gj_dk okX12_asked 128 rfl) rfl rfl ?_
  refine gj_iload_n (q := 194) (gj_dk okX12_asked 129 rfl) rfl rfl ?_
  obtain ⟨k27, M26, hG, hF⟩ := gj_bnd2d hF
  refine gj_callV (q := 197) (z := 79) (ci := 10) [jI l1, jI l2] rfl (t_X12_notes hst hc l1 l2 hG) (gj_dk okX12_asked 130 rfl) ml_X12_399 me_X12_notes (sh79 hst) rfl ⟨by omega, Nat.le_of_ble_eq_true rfl, rfl, Nat.le_of_ble_eq_true rfl, by omega, by omega⟩ rfl (gj_kV fun S2 M2 h => ?_)
  obtain ⟨hst2, hc2, eM⟩ := h; subst eM; dsimp only at hc2; clear hst; clear hc; have hst := hst2; have hc := hc2; clear hst2; clear hc2
  refine gj_aload_n (q := 198) (gj_dk okX12_asked 131 rfl) rfl rfl ?_
  refine gj_iload_n (q := 199) (gj_dk okX12_asked 132 rfl) rfl rfl ?_
  obtain ⟨M29, hG, hF⟩ := gj_bndd hF
  refine gj_callV (q := 202) (z := 79) (ci := 10) [jI l1] rfl (t_X12_parts hst l1 hG) (gj_dk okX12_asked 133 rfl) ml_X12_402 me_X12_parts (sh79 hst) rfl ⟨by omega, Nat.le_of_ble_eq_true rfl, rfl, Nat.le_of_ble_eq_true rfl, by omega, by omega⟩ rfl (gj_kV fun S2 M2 h => ?_)
  obtain ⟨eS, eM⟩ := h; subst eS; subst eM; clear hG
  refine gj_sub [(0, jR 79), (1, jI l1)] ⟨rfl, rfl, trivial⟩ ?_
  exact t_J_X12_asked_202 hK hN hrec60 l1 k27 M29 hst hc hF
set_option maxHeartbeats 4000000 in
set_option maxRecDepth 20000 in
theorem t_J_X12_asked_163 {K N : Nat} (hK : K + 1 ≤ 5) (hN : N + 5 ≤ 25) {r : Int × gj_M} {rec60 : Int → Int → gj_M → Option (Int × gj_M)} (hrec60 : ∀ {S : gj_S} (l1 : Int) (c : Int) (M : gj_M), gj_Stat S → S.1 = c → rec60 l1 c M = some r → gj_W G l 25 5 25 yX12_asked cX12_asked 3 none (gj_qV fun S' M' => gj_Stat S' ∧ S'.1 = r.1 ∧ r.2 = M') (K + 1) (N + 5) 60 [(0, jR 79), (1, jI l1)] [] S M) : ∀ {S : gj_S} (l1 : Int) (l2 : Int) (c : Int) (M : gj_M), gj_Stat S → S.1 = c → J_X12_asked_163 rec60 l1 l2 c M = some r → gj_W G l 25 5 25 yX12_asked cX12_asked 3 none (gj_qV fun S' M' => gj_Stat S' ∧ S'.1 = r.1 ∧ r.2 = M') K N 163 [(0, jR 79), (1, jI l1), (2, jI l2)] [] S M := by
  intro S l1 l2 c M hst hc hF
  unfold J_X12_asked_163 at hF
  refine gj_iload_n (q := 164) (gj_dk okX12_asked 108 rfl) rfl rfl ?_
  refine gj_iconst (q := 165) (gj_dk okX12_asked 109 rfl) (by decide) rfl ?_
  refine gj_icmp_le (q := 168) (tgt := 191) (gj_dk okX12_asked 110 rfl) (by decide) rfl (fun c165 => ?_) (fun c165 => ?_)
  · -- 191
    replace hF := gj_ift c165 hF
    refine gj_sub [(0, jR 79), (1, jI l1), (2, jI l2)] ⟨rfl, rfl, rfl, trivial⟩ ?_
    exact t_J_X12_asked_191 hK hN hrec60 l1 l2 c M hst hc hF
  · -- 168
    replace hF := gj_iff c165 hF
    refine gj_aload_n (q := 169) (gj_dk okX12_asked 111 rfl) rfl rfl ?_
    refine gj_gR (q := 172) (j := 23) (gj_dk okX12_asked 112 rfl) ff_X12_86 (sh79 hst) (by decide) rfl (rf79_23 hst) rfl ?_
    refine gj_aload_n (q := 173) (gj_dk okX12_asked 113 rfl) rfl rfl ?_
    refine gj_gR (q := 176) (j := 20) (gj_dk okX12_asked 114 rfl) ff_X12_77 (sh79 hst) (by decide) rfl (rf79_20 hst) rfl ?_
    refine gj_iload_n (q := 177) (gj_dk okX12_asked 115 rfl) rfl rfl ?_
    obtain ⟨b21, hF⟩ := gj_ckd hF
    refine gj_iald (q := 178) (gj_dk okX12_asked 116 rfl) (sh108 hst) b21.1 b21.2 rfl ?_
    refine gj_dup2 (q := 179) (gj_dk okX12_asked 117 rfl) rfl rfl rfl ?_
    obtain ⟨b22, hF⟩ := gj_ckd hF
    refine gj_iald (q := 180) (gj_dk okX12_asked 118 rfl) (sh111 hst) b22.1 b22.2 rfl ?_
    refine gj_aload_n (q := 181) (gj_dk okX12_asked 119 rfl) rfl rfl ?_
    refine gj_gR (q := 184) (j := 12) (gj_dk okX12_asked 120 rfl) ff_X12_34 (sh79 hst) (by decide) rfl (rf79_12 hst) rfl ?_
    refine gj_iconst (q := 185) (gj_dk okX12_asked 121 rfl) (by decide) rfl ?_
    refine gj_aald (q := 186) (gj_dk okX12_asked 122 rfl) (sh97 hst) (by decide) (by decide) (by decide) (rf97_0 hst) rfl ?_
    refine gj_bipush (q := 188) (gj_dk okX12_asked 123 rfl) (by decide) rfl rfl ?_
    refine gj_iald (q := 189) (gj_dk okX12_asked 124 rfl) (sh98 hst) (by decide) (by decide) rfl ?_
    refine gj_isub (q := 190) (gj_dk okX12_asked 125 rfl) rfl ?_
    obtain ⟨b23, hF⟩ := gj_ckd hF
    refine gj_iast (q := 191) (gj_dk okX12_asked 126 rfl) (sh111 hst) b23.1 b23.2 rfl ?_
    refine gj_stp hF (fun M24 hF => ?_)
    refine gj_sub [(0, jR 79), (1, jI l1), (2, jI l2)] ⟨rfl, rfl, rfl, trivial⟩ ?_
    exact t_J_X12_asked_191 hK hN hrec60 l1 l2 c M24 hst hc hF
set_option maxHeartbeats 4000000 in
set_option maxRecDepth 20000 in
theorem t_B_X12_asked_60 {K N : Nat} (hK : K + 1 ≤ 5) (hN : N + 5 ≤ 25) {r : Int × gj_M} {rec60 : Int → Int → gj_M → Option (Int × gj_M)} (hrec60 : ∀ {S : gj_S} (l1 : Int) (c : Int) (M : gj_M), gj_Stat S → S.1 = c → rec60 l1 c M = some r → gj_W G l 25 5 25 yX12_asked cX12_asked 3 none (gj_qV fun S' M' => gj_Stat S' ∧ S'.1 = r.1 ∧ r.2 = M') (K + 1) (N + 5) 60 [(0, jR 79), (1, jI l1)] [] S M) : ∀ {S : gj_S} (l1 : Int) (c : Int) (M : gj_M), gj_Stat S → S.1 = c → B_X12_asked_60 rec60 l1 c M = some r → gj_W G l 25 5 25 yX12_asked cX12_asked 3 none (gj_qV fun S' M' => gj_Stat S' ∧ S'.1 = r.1 ∧ r.2 = M') K N 60 [(0, jR 79), (1, jI l1)] [] S M := by
  intro S l1 c M hst hc hF
  unfold B_X12_asked_60 at hF
  refine gj_iload_n (q := 61) (gj_dk okX12_asked 38 rfl) rfl rfl ?_
  refine gj_aload_n (q := 62) (gj_dk okX12_asked 39 rfl) rfl rfl ?_
  refine gj_gR (q := 65) (j := 13) (gj_dk okX12_asked 40 rfl) ff_X12_37 (sh79 hst) (by decide) rfl (rf79_13 hst) rfl ?_
  refine gj_iconst (q := 66) (gj_dk okX12_asked 41 rfl) (by decide) rfl ?_
  refine gj_aald (q := 67) (gj_dk okX12_asked 42 rfl) (sh100 hst) (by decide) (by decide) (by decide) (rf100_0 hst) rfl ?_
  refine gj_iconst (q := 68) (gj_dk okX12_asked 43 rfl) (by decide) rfl ?_
  refine gj_iald (q := 69) (gj_dk okX12_asked 44 rfl) (sh101 hst) (by decide) (by decide) rfl ?_
  refine gj_icmp_ge (q := 72) (tgt := 208) (gj_dk okX12_asked 45 rfl) (by decide) rfl (fun c69 => ?_) (fun c69 => ?_)
  · -- 208
    replace hF := gj_ift c69 hF
    cases hF
    exact gj_vret (gj_dk okX12_asked 136 rfl) rfl ⟨rfl, hst, hc, rfl⟩
  · -- 72
    replace hF := gj_iff c69 hF
    refine gj_aload_n (q := 73) (gj_dk okX12_asked 46 rfl) rfl rfl ?_
    refine gj_gR (q := 76) (j := 20) (gj_dk okX12_asked 47 rfl) ff_X12_77 (sh79 hst) (by decide) rfl (rf79_20 hst) rfl ?_
    refine gj_iload_n (q := 77) (gj_dk okX12_asked 48 rfl) rfl rfl ?_
    obtain ⟨b6, hF⟩ := gj_ckd hF
    refine gj_iald (q := 78) (gj_dk okX12_asked 49 rfl) (sh108 hst) b6.1 b6.2 rfl ?_
    refine gj_iconst (q := 79) (gj_dk okX12_asked 50 rfl) (by decide) rfl ?_
    refine gj_icmp_ne (q := 82) (tgt := 85) (gj_dk okX12_asked 51 rfl) (by decide) rfl (fun c79 => ?_) (fun c79 => ?_)
    · -- 85
      replace hF := gj_iff c79 hF
      refine gj_aload_n (q := 86) (gj_dk okX12_asked 53 rfl) rfl rfl ?_
      refine gj_gR (q := 89) (j := 43) (gj_dk okX12_asked 54 rfl) ff_X12_126 (sh79 hst) (by decide) rfl (rf79_43 hst) rfl ?_
      refine gj_iload_n (q := 90) (gj_dk okX12_asked 55 rfl) rfl rfl ?_
      obtain ⟨b7, hF⟩ := gj_ckd hF
      refine gj_iald (q := 91) (gj_dk okX12_asked 56 rfl) (sh123 hst) b7.1 b7.2 rfl ?_
      refine gj_iconst (q := 92) (gj_dk okX12_asked 57 rfl) (by decide) rfl ?_
      refine gj_aload_n (q := 93) (gj_dk okX12_asked 58 rfl) rfl rfl ?_
      refine gj_gR (q := 96) (j := 43) (gj_dk okX12_asked 59 rfl) ff_X12_126 (sh79 hst) (by decide) rfl (rf79_43 hst) rfl ?_
      refine gj_aload_n (q := 97) (gj_dk okX12_asked 60 rfl) rfl rfl ?_
      refine gj_gR (q := 100) (j := 20) (gj_dk okX12_asked 61 rfl) ff_X12_77 (sh79 hst) (by decide) rfl (rf79_20 hst) rfl ?_
      refine gj_iload_n (q := 101) (gj_dk okX12_asked 62 rfl) rfl rfl ?_
      obtain ⟨b8, hF⟩ := gj_ckd hF
      refine gj_iald (q := 102) (gj_dk okX12_asked 63 rfl) (sh108 hst) b8.1 b8.2 rfl ?_
      obtain ⟨b9, hF⟩ := gj_ckd hF
      refine gj_iald (q := 103) (gj_dk okX12_asked 64 rfl) (sh123 hst) b9.1 b9.2 rfl ?_
      refine gj_imul (q := 104) (gj_dk okX12_asked 65 rfl) rfl ?_
      refine gj_iadd (q := 105) (gj_dk okX12_asked 66 rfl) rfl ?_
      refine gj_stpI hF (fun x10 hF => ?_)
      refine gj_istore_n (q := 106) (gj_dk okX12_asked 67 rfl) (by decide) rfl ?_
      refine gj_iload_n (q := 107) (gj_dk okX12_asked 68 rfl) rfl rfl ?_
      refine gj_if_ne (q := 110) (tgt := 138) (gj_dk okX12_asked 69 rfl) (by decide) rfl (fun c107 => ?_) (fun c107 => ?_)
      · -- 138
        replace hF := gj_iff c107 hF
        refine gj_iload_n (q := 139) (gj_dk okX12_asked 90 rfl) rfl rfl ?_
        refine gj_iconst (q := 140) (gj_dk okX12_asked 91 rfl) (by decide) rfl ?_
        refine gj_iand (q := 141) (gj_dk okX12_asked 92 rfl) rfl ?_
        refine gj_iconst (q := 142) (gj_dk okX12_asked 93 rfl) (by decide) rfl ?_
        refine gj_icmp_ne (q := 145) (tgt := 163) (gj_dk okX12_asked 94 rfl) (by decide) rfl (fun c142 => ?_) (fun c142 => ?_)
        · -- 163
          replace hF := gj_iff c142 hF
          refine gj_sub [(0, jR 79), (1, jI l1), (2, jI x10)] ⟨rfl, rfl, rfl, trivial⟩ ?_
          exact t_J_X12_asked_163 hK hN hrec60 l1 x10 c M hst hc hF
        · -- 145
          replace hF := gj_ift c142 hF
          refine gj_aload_n (q := 146) (gj_dk okX12_asked 95 rfl) rfl rfl ?_
          refine gj_gR (q := 149) (j := 23) (gj_dk okX12_asked 96 rfl) ff_X12_86 (sh79 hst) (by decide) rfl (rf79_23 hst) rfl ?_
          refine gj_iload_n (q := 150) (gj_dk okX12_asked 97 rfl) rfl rfl ?_
          refine gj_dup2 (q := 151) (gj_dk okX12_asked 98 rfl) rfl rfl rfl ?_
          obtain ⟨b11, hF⟩ := gj_ckd hF
          refine gj_iald (q := 152) (gj_dk okX12_asked 99 rfl) (sh111 hst) b11.1 b11.2 rfl ?_
          refine gj_aload_n (q := 153) (gj_dk okX12_asked 100 rfl) rfl rfl ?_
          refine gj_gR (q := 156) (j := 12) (gj_dk okX12_asked 101 rfl) ff_X12_34 (sh79 hst) (by decide) rfl (rf79_12 hst) rfl ?_
          refine gj_iconst (q := 157) (gj_dk okX12_asked 102 rfl) (by decide) rfl ?_
          refine gj_aald (q := 158) (gj_dk okX12_asked 103 rfl) (sh97 hst) (by decide) (by decide) (by decide) (rf97_0 hst) rfl ?_
          refine gj_bipush (q := 160) (gj_dk okX12_asked 104 rfl) (by decide) rfl rfl ?_
          refine gj_iald (q := 161) (gj_dk okX12_asked 105 rfl) (sh98 hst) (by decide) (by decide) rfl ?_
          refine gj_isub (q := 162) (gj_dk okX12_asked 106 rfl) rfl ?_
          obtain ⟨b12, hF⟩ := gj_ckd hF
          refine gj_iast (q := 163) (gj_dk okX12_asked 107 rfl) (sh111 hst) b12.1 b12.2 rfl ?_
          refine gj_stp hF (fun M13 hF => ?_)
          refine gj_sub [(0, jR 79), (1, jI l1), (2, jI x10)] ⟨rfl, rfl, rfl, trivial⟩ ?_
          exact t_J_X12_asked_163 hK hN hrec60 l1 x10 c M13 hst hc hF
      · -- 110
        replace hF := gj_ift c107 hF
        refine gj_aload_n (q := 111) (gj_dk okX12_asked 70 rfl) rfl rfl ?_
        refine gj_gR (q := 114) (j := 22) (gj_dk okX12_asked 71 rfl) ff_X12_83 (sh79 hst) (by decide) rfl (rf79_22 hst) rfl ?_
        refine gj_iload_n (q := 115) (gj_dk okX12_asked 72 rfl) rfl rfl ?_
        refine gj_dup2 (q := 116) (gj_dk okX12_asked 73 rfl) rfl rfl rfl ?_
        obtain ⟨b14, hF⟩ := gj_ckd hF
        refine gj_iald (q := 117) (gj_dk okX12_asked 74 rfl) (sh110 hst) b14.1 b14.2 rfl ?_
        refine gj_iconst (q := 118) (gj_dk okX12_asked 75 rfl) (by decide) rfl ?_
        refine gj_iadd (q := 119) (gj_dk okX12_asked 76 rfl) rfl ?_
        obtain ⟨b15, hF⟩ := gj_ckd hF
        refine gj_iast (q := 120) (gj_dk okX12_asked 77 rfl) (sh110 hst) b15.1 b15.2 rfl ?_
        refine gj_stp hF (fun M16 hF => ?_)
        refine gj_aload_n (q := 121) (gj_dk okX12_asked 78 rfl) rfl rfl ?_
        refine gj_gR (q := 124) (j := 22) (gj_dk okX12_asked 79 rfl) ff_X12_83 (sh79 hst) (by decide) rfl (rf79_22 hst) rfl ?_
        refine gj_aload_n (q := 125) (gj_dk okX12_asked 80 rfl) rfl rfl ?_
        refine gj_gR (q := 128) (j := 20) (gj_dk okX12_asked 81 rfl) ff_X12_77 (sh79 hst) (by decide) rfl (rf79_20 hst) rfl ?_
        refine gj_iload_n (q := 129) (gj_dk okX12_asked 82 rfl) rfl rfl ?_
        obtain ⟨b17, hF⟩ := gj_ckd hF
        refine gj_iald (q := 130) (gj_dk okX12_asked 83 rfl) (sh108 hst) b17.1 b17.2 rfl ?_
        refine gj_dup2 (q := 131) (gj_dk okX12_asked 84 rfl) rfl rfl rfl ?_
        obtain ⟨b18, hF⟩ := gj_ckd hF
        refine gj_iald (q := 132) (gj_dk okX12_asked 85 rfl) (sh110 hst) b18.1 b18.2 rfl ?_
        refine gj_iconst (q := 133) (gj_dk okX12_asked 86 rfl) (by decide) rfl ?_
        refine gj_iadd (q := 134) (gj_dk okX12_asked 87 rfl) rfl ?_
        obtain ⟨b19, hF⟩ := gj_ckd hF
        refine gj_iast (q := 135) (gj_dk okX12_asked 88 rfl) (sh110 hst) b19.1 b19.2 rfl ?_
        refine gj_stp hF (fun M20 hF => ?_)
        refine gj_goto (tgt := 202) (gj_dk okX12_asked 89 rfl) (by decide) ?_
        refine gj_wid (k' := (K + 1)) (n' := (N + 5)) (by omega) (by omega) (by omega) (by omega) ?_
        refine gj_sub [(0, jR 79), (1, jI l1)] ⟨rfl, rfl, trivial⟩ ?_
        exact t_J_X12_asked_202 hK hN hrec60 l1 c M20 hst hc hF
    · -- 82
      replace hF := gj_ift c79 hF
      refine gj_goto (tgt := 202) (gj_dk okX12_asked 52 rfl) (by decide) ?_
      refine gj_wid (k' := (K + 1)) (n' := (N + 5)) (by omega) (by omega) (by omega) (by omega) ?_
      refine gj_sub [(0, jR 79), (1, jI l1)] ⟨rfl, rfl, trivial⟩ ?_
      exact t_J_X12_asked_202 hK hN hrec60 l1 c M hst hc hF
theorem t_L_X12_asked_60 {r : Int × gj_M} : ∀ (m : Nat) (K N : Nat), K + m * 1 ≤ 5 → N + m * 5 ≤ 25 → ∀ {S : gj_S} (l1 : Int) (c : Int) (M : gj_M), gj_Stat S → S.1 = c → gj_it (fun _ _ _ => none) (B_X12_asked_60) m l1 c M = some r → gj_W G l 25 5 25 yX12_asked cX12_asked 3 none (gj_qV fun S' M' => gj_Stat S' ∧ S'.1 = r.1 ∧ r.2 = M') K N 60 [(0, jR 79), (1, jI l1)] [] S M := by
  intro m
  induction m with
  | zero => intro K N hK hN S l1 c M hst hc hF; cases (show (none : Option (Int × gj_M)) = some r from hF)
  | succ m ih => intro K N hK hN S l1 c M hst hc hF; exact t_B_X12_asked_60 (by omega) (by omega) (fun l1 c M hst hc h => ih (K + 1) (N + 5) (by omega) (by omega) l1 c M hst hc h) l1 c M hst hc hF
set_option maxHeartbeats 4000000 in
set_option maxRecDepth 20000 in
theorem t_J_X12_asked_58 {r : Int × gj_M} : ∀ {S : gj_S} (c : Int) (M : gj_M), gj_Stat S → S.1 = c → J_X12_asked_58 c M = some r → gj_W G l 25 5 25 yX12_asked cX12_asked 3 none (gj_qV fun S' M' => gj_Stat S' ∧ S'.1 = r.1 ∧ r.2 = M') 0 0 58 [(0, jR 79)] [] S M := by
  intro S c M hst hc hF
  unfold J_X12_asked_58 at hF
  refine gj_iconst (q := 59) (gj_dk okX12_asked 36 rfl) (by decide) rfl ?_
  refine gj_istore_n (q := 60) (gj_dk okX12_asked 37 rfl) (by decide) rfl ?_
  refine gj_sub [(0, jR 79), (1, jI 0)] ⟨rfl, rfl, trivial⟩ ?_
  exact t_L_X12_asked_60 5 0 0 (by decide) (by decide) 0 c M hst hc hF
set_option maxHeartbeats 4000000 in
set_option maxRecDepth 20000 in
theorem t_J_X12_asked_51 {r : Int × gj_M} {rec2 : Int → Int → gj_M → Option (Int × gj_M)} (hrec2 : ∀ {S : gj_S} (l1 : Int) (c : Int) (M : gj_M), gj_Stat S → S.1 = c → rec2 l1 c M = some r → gj_W G l 25 5 25 yX12_asked cX12_asked 3 none (gj_qV fun S' M' => gj_Stat S' ∧ S'.1 = r.1 ∧ r.2 = M') 0 0 2 [(0, jR 79), (1, jI l1)] [] S M) : ∀ {S : gj_S} (l1 : Int) (s1 : Int) (s2 : Int) (c : Int) (M : gj_M), gj_Stat S → S.1 = c → J_X12_asked_51 rec2 l1 s1 s2 c M = some r → gj_W G l 25 5 25 yX12_asked cX12_asked 3 none (gj_qV fun S' M' => gj_Stat S' ∧ S'.1 = r.1 ∧ r.2 = M') 0 0 51 [(0, jR 79), (1, jI l1)] [jI s2, jI s1, jR 123] S M := by
  intro S l1 s1 s2 c M hst hc hF
  unfold J_X12_asked_51 at hF
  obtain ⟨b4, hF⟩ := gj_ckd hF
  refine gj_iast (q := 52) (gj_dk okX12_asked 33 rfl) (sh123 hst) b4.1 b4.2 rfl ?_
  refine gj_stp hF (fun M5 hF => ?_)
  refine gj_iinc (q := 55) (v := gj_w (l1 + 1)) (gj_dk okX12_asked 34 rfl) rfl (by decide) rfl rfl ?_
  refine gj_goto (tgt := 2) (gj_dk okX12_asked 35 rfl) (by decide) ?_
  refine gj_sub [(0, jR 79), (1, jI (gj_w (l1 + 1)))] ⟨rfl, rfl, trivial⟩ ?_
  exact hrec2 (gj_w (l1 + 1)) c M5 hst hc hF
set_option maxHeartbeats 4000000 in
set_option maxRecDepth 20000 in
theorem t_B_X12_asked_2 {r : Int × gj_M} {rec2 : Int → Int → gj_M → Option (Int × gj_M)} (hrec2 : ∀ {S : gj_S} (l1 : Int) (c : Int) (M : gj_M), gj_Stat S → S.1 = c → rec2 l1 c M = some r → gj_W G l 25 5 25 yX12_asked cX12_asked 3 none (gj_qV fun S' M' => gj_Stat S' ∧ S'.1 = r.1 ∧ r.2 = M') 0 0 2 [(0, jR 79), (1, jI l1)] [] S M) : ∀ {S : gj_S} (l1 : Int) (c : Int) (M : gj_M), gj_Stat S → S.1 = c → B_X12_asked_2 rec2 l1 c M = some r → gj_W G l 25 5 25 yX12_asked cX12_asked 3 none (gj_qV fun S' M' => gj_Stat S' ∧ S'.1 = r.1 ∧ r.2 = M') 0 0 2 [(0, jR 79), (1, jI l1)] [] S M := by
  intro S l1 c M hst hc hF
  unfold B_X12_asked_2 at hF
  refine gj_iload_n (q := 3) (gj_dk okX12_asked 2 rfl) rfl rfl ?_
  refine gj_bipush (q := 5) (gj_dk okX12_asked 3 rfl) (by decide) rfl rfl ?_
  refine gj_icmp_ge (q := 8) (tgt := 58) (gj_dk okX12_asked 4 rfl) (by decide) rfl (fun c5 => ?_) (fun c5 => ?_)
  · -- 58
    replace hF := gj_ift c5 hF
    refine gj_sub [(0, jR 79)] ⟨rfl, trivial⟩ ?_
    exact t_J_X12_asked_58 c M hst hc hF
  · -- 8
    replace hF := gj_iff c5 hF
    refine gj_aload_n (q := 9) (gj_dk okX12_asked 5 rfl) rfl rfl ?_
    refine gj_gR (q := 12) (j := 43) (gj_dk okX12_asked 6 rfl) ff_X12_126 (sh79 hst) (by decide) rfl (rf79_43 hst) rfl ?_
    refine gj_iload_n (q := 13) (gj_dk okX12_asked 7 rfl) rfl rfl ?_
    refine gj_iload_n (q := 14) (gj_dk okX12_asked 8 rfl) rfl rfl ?_
    refine gj_iconst (q := 15) (gj_dk okX12_asked 9 rfl) (by decide) rfl ?_
    refine gj_irem (q := 16) (gj_dk okX12_asked 10 rfl) (by decide) rfl ?_
    refine gj_aload_n (q := 17) (gj_dk okX12_asked 11 rfl) rfl rfl ?_
    refine gj_gR (q := 20) (j := 13) (gj_dk okX12_asked 12 rfl) ff_X12_37 (sh79 hst) (by decide) rfl (rf79_13 hst) rfl ?_
    refine gj_iconst (q := 21) (gj_dk okX12_asked 13 rfl) (by decide) rfl ?_
    refine gj_aald (q := 22) (gj_dk okX12_asked 14 rfl) (sh100 hst) (by decide) (by decide) (by decide) (rf100_0 hst) rfl ?_
    refine gj_iload_n (q := 23) (gj_dk okX12_asked 15 rfl) rfl rfl ?_
    refine gj_iconst (q := 24) (gj_dk okX12_asked 16 rfl) (by decide) rfl ?_
    refine gj_idiv (q := 25) (gj_dk okX12_asked 17 rfl) (by decide) rfl ?_
    obtain ⟨b1, hF⟩ := gj_ckd hF
    refine gj_iald (q := 26) (gj_dk okX12_asked 18 rfl) (sh101 hst) b1.1 b1.2 rfl ?_
    refine gj_icmp_ge (q := 29) (tgt := 50) (gj_dk okX12_asked 19 rfl) (by decide) rfl (fun c26 => ?_) (fun c26 => ?_)
    · -- 50
      replace hF := gj_ift c26 hF
      refine gj_iconst (q := 51) (gj_dk okX12_asked 32 rfl) (by decide) rfl ?_
      refine gj_sub [(0, jR 79), (1, jI l1)] ⟨rfl, rfl, trivial⟩ ?_
      exact t_J_X12_asked_51 hrec2 l1 l1 0 c M hst hc hF
    · -- 29
      replace hF := gj_iff c26 hF
      refine gj_aload_n (q := 30) (gj_dk okX12_asked 20 rfl) rfl rfl ?_
      refine gj_iload_n (q := 31) (gj_dk okX12_asked 21 rfl) rfl rfl ?_
      refine gj_aload_n (q := 32) (gj_dk okX12_asked 22 rfl) rfl rfl ?_
      refine gj_gR (q := 35) (j := 12) (gj_dk okX12_asked 23 rfl) ff_X12_34 (sh79 hst) (by decide) rfl (rf79_12 hst) rfl ?_
      refine gj_iconst (q := 36) (gj_dk okX12_asked 24 rfl) (by decide) rfl ?_
      refine gj_aald (q := 37) (gj_dk okX12_asked 25 rfl) (sh97 hst) (by decide) (by decide) (by decide) (rf97_0 hst) rfl ?_
      refine gj_bipush (q := 39) (gj_dk okX12_asked 26 rfl) (by decide) rfl rfl ?_
      refine gj_iald (q := 40) (gj_dk okX12_asked 27 rfl) (sh98 hst) (by decide) (by decide) rfl ?_
      obtain ⟨x2, M3, hG, hF⟩ := gj_bnd2d hF
      refine gj_callV (q := 43) (z := 79) (ci := 10) [jI l1, jI (M 98 7)] rfl (t_X12_isSilent hst l1 (M 98 7) hG) (gj_dk okX12_asked 28 rfl) ml_X12_362 me_X12_isSilent (sh79 hst) rfl ⟨by omega, Nat.le_of_ble_eq_true rfl, rfl, Nat.le_of_ble_eq_true rfl, by omega, by omega⟩ rfl (gj_kI fun y S2 M2 h => ?_)
      obtain ⟨bx2, e, eS, eM⟩ := h; subst eS; subst eM; subst e; clear hG
      dsimp only at bx2 ⊢
      refine gj_if_eq (q := 46) (tgt := 50) (gj_dk okX12_asked 29 rfl) (by decide) rfl (fun c43 => ?_) (fun c43 => ?_)
      · -- 50
        replace hF := gj_ift c43 hF
        refine gj_iconst (q := 51) (gj_dk okX12_asked 32 rfl) (by decide) rfl ?_
        refine gj_sub [(0, jR 79), (1, jI l1)] ⟨rfl, rfl, trivial⟩ ?_
        exact t_J_X12_asked_51 hrec2 l1 l1 0 c M3 hst hc hF
      · -- 46
        replace hF := gj_iff c43 hF
        refine gj_iconst (q := 47) (gj_dk okX12_asked 30 rfl) (by decide) rfl ?_
        refine gj_goto (tgt := 51) (gj_dk okX12_asked 31 rfl) (by decide) ?_
        refine gj_sub [(0, jR 79), (1, jI l1)] ⟨rfl, rfl, trivial⟩ ?_
        exact t_J_X12_asked_51 hrec2 l1 l1 1 c M3 hst hc hF
theorem t_L_X12_asked_2 {r : Int × gj_M} : ∀ (m : Nat), ∀ {S : gj_S} (l1 : Int) (c : Int) (M : gj_M), gj_Stat S → S.1 = c → gj_it (fun _ _ _ => none) (B_X12_asked_2) m l1 c M = some r → gj_W G l 25 5 25 yX12_asked cX12_asked 3 none (gj_qV fun S' M' => gj_Stat S' ∧ S'.1 = r.1 ∧ r.2 = M') 0 0 2 [(0, jR 79), (1, jI l1)] [] S M := by
  intro m
  induction m with
  | zero => intro S l1 c M hst hc hF; cases (show (none : Option (Int × gj_M)) = some r from hF)
  | succ m ih => intro S l1 c M hst hc hF; exact t_B_X12_asked_2 (fun l1 c M hst hc h => ih l1 c M hst hc h) l1 c M hst hc hF
set_option maxHeartbeats 4000000 in
set_option maxRecDepth 20000 in
theorem t_X12_asked {S : gj_S} (hst : gj_Stat S) {c : Int} (hc : S.1 = c) {r : Int × gj_M} (hF : F_X12_asked c M = some r) : gj_C G l 25 5 25 yX12_asked cX12_asked 3 none [jR 79] S M (gj_qV fun S' M' => gj_Stat S' ∧ S'.1 = r.1 ∧ r.2 = M') := by
  refine gj_Cof (by decide +kernel) (Nat.le_of_ble_eq_true rfl) ?_
  change gj_W G l 25 5 25 yX12_asked cX12_asked 3 none (gj_qV fun S' M' => gj_Stat S' ∧ S'.1 = r.1 ∧ r.2 = M') 0 0 0 [(0, jR 79)] [] S M
  unfold F_X12_asked at hF
  refine gj_iconst (q := 1) (gj_dk okX12_asked 0 rfl) (by decide) rfl ?_
  refine gj_istore_n (q := 2) (gj_dk okX12_asked 1 rfl) (by decide) rfl ?_
  refine gj_sub [(0, jR 79), (1, jI 0)] ⟨rfl, rfl, trivial⟩ ?_
  exact t_L_X12_asked_2 gj_fu 0 c M hst hc hF
def J_X12_lives_211 (l1 l2 : Int) (M : gj_M) : Option (gj_M) :=
  gj_chk (0 ≤ l1 ∧ l1 < 8) (gj_chk (0 ≤ l1 ∧ l1 < 8) (gj_let (gj_up M 109 l1 (gj_w ((M 109 l1) + 1))) (fun M28 => gj_chk (0 ≤ l2 ∧ l2 < 8) (gj_chk (0 ≤ l2 ∧ l2 < 8) (gj_let (gj_up M28 109 l2 (gj_w ((M28 109 l2) + 1))) (fun M31 => (some (M31))))))))
def J_X12_lives_175 (l1 l2 l3 : Int) (M : gj_M) : Option (gj_M) :=
  gj_bnd2 (F_X12_lot 16 M) (fun x21 M22 => (if M22 98 4 ≤ x21 then (J_X12_lives_211 l1 l2 M22) else gj_chk (0 ≤ l3 ∧ l3 < 16) (gj_chk (0 ≤ l3 ∧ l3 < 16) (gj_let (gj_up M22 114 l3 (f_min 99 (gj_w ((M22 114 l3) + 1)))) (fun M25 => (J_X12_lives_211 l1 l2 M25))))))
def J_X12_lives_90 (l1 l2 l3 l4 s0 s1 : Int) (M : gj_M) : Option (gj_M) :=
  gj_chk (0 ≤ l3 ∧ l3 < 16) (gj_letI (gj_w ((gj_w (s0 + s1)) + (gj_w ((M 98 5) * (M 114 l3))))) (fun x8 => gj_chk (0 ≤ l1 ∧ l1 < 8) (gj_chk (0 ≤ l1 ∧ l1 < 8) (gj_let (gj_up M 111 l1 (gj_w ((M 111 l1) + x8))) (fun M11 => gj_chk (0 ≤ l2 ∧ l2 < 8) (gj_chk (0 ≤ l2 ∧ l2 < 8) (gj_let (gj_up M11 111 l2 (gj_w ((M11 111 l2) + x8))) (fun M14 => (if l4 = 0 then gj_chk (0 ≤ l3 ∧ l3 < 16) (gj_chk (0 ≤ l3 ∧ l3 < 16) (gj_let (gj_up M14 113 l3 (f_min 4 (gj_w ((M14 113 l3) + 1)))) (fun M17 => (J_X12_lives_175 l1 l2 l3 M17)))) else gj_chk (0 ≤ l3 ∧ l3 < 16) (gj_chk (0 ≤ l3 ∧ l3 < 16) (gj_let (gj_up M14 112 l3 (f_min 4 (gj_w ((M14 112 l3) + 1)))) (fun M20 => (J_X12_lives_175 l1 l2 l3 M20)))))))))))))
def J_X12_lives_61 (l1 l2 l3 l4 s0 : Int) (M : gj_M) : Option (gj_M) :=
  gj_chk (0 ≤ l1 ∧ l1 < 8) ((if M 109 l1 < M 98 2 then (J_X12_lives_90 l1 l2 l3 l4 s0 0 M) else (J_X12_lives_90 l1 l2 l3 l4 s0 (M 98 3) M)))
def J_X12_lives_35 (l1 l2 l3 s0 : Int) (M : gj_M) : Option (gj_M) :=
  (if s0 = 0 then (J_X12_lives_61 l1 l2 l3 s0 (M 98 1) M) else (J_X12_lives_61 l1 l2 l3 s0 (M 98 0) M))
def F_X12_lives (a1 : Int) (M : gj_M) : Option (gj_M) :=
  gj_chk (0 ≤ a1 ∧ a1 < 8) (gj_letI (f_X12_two a1 (M 108 a1) M) (fun x2 => gj_bnd2 (F_X12_lot 16 M) (fun x3 M4 => gj_chk (0 ≤ x2 ∧ x2 < 16) ((if M4 95 x2 ≤ x3 then (J_X12_lives_35 a1 (M 108 a1) x2 0 M4) else (J_X12_lives_35 a1 (M 108 a1) x2 1 M4))))))
set_option maxHeartbeats 4000000 in
set_option maxRecDepth 20000 in
theorem t_J_X12_lives_211 (hst : gj_Stat S) {r : gj_M} (l1 l2 : Int) (M : gj_M) (hF : J_X12_lives_211 l1 l2 M = some r) : gj_W G l 2 0 0 yX12_lives cX12_lives 6 none (gj_qV fun S' M' => S = S' ∧ r = M') 0 0 211 [(0, jR 79), (1, jI l1), (2, jI l2)] [] S M := by
  unfold J_X12_lives_211 at hF
  refine gj_aload_n (q := 212) (gj_dk okX12_lives_2 16 rfl) rfl rfl ?_
  refine gj_gR (q := 215) (j := 21) (gj_dk okX12_lives_2 17 rfl) ff_X12_80 (sh79 hst) (by decide) rfl (rf79_21 hst) rfl ?_
  refine gj_iload_n (q := 216) (gj_dk okX12_lives_2 18 rfl) rfl rfl ?_
  refine gj_dup2 (q := 217) (gj_dk okX12_lives_2 19 rfl) rfl rfl rfl ?_
  obtain ⟨b26, hF⟩ := gj_ckd hF
  refine gj_iald (q := 218) (gj_dk okX12_lives_2 20 rfl) (sh109 hst) b26.1 b26.2 rfl ?_
  refine gj_iconst (q := 219) (gj_dk okX12_lives_2 21 rfl) (by decide) rfl ?_
  refine gj_iadd (q := 220) (gj_dk okX12_lives_2 22 rfl) rfl ?_
  obtain ⟨b27, hF⟩ := gj_ckd hF
  refine gj_iast (q := 221) (gj_dk okX12_lives_2 23 rfl) (sh109 hst) b27.1 b27.2 rfl ?_
  refine gj_stp hF (fun M28 hF => ?_)
  refine gj_aload_n (q := 222) (gj_dk okX12_lives_2 24 rfl) rfl rfl ?_
  refine gj_gR (q := 225) (j := 21) (gj_dk okX12_lives_2 25 rfl) ff_X12_80 (sh79 hst) (by decide) rfl (rf79_21 hst) rfl ?_
  refine gj_iload_n (q := 226) (gj_dk okX12_lives_2 26 rfl) rfl rfl ?_
  refine gj_dup2 (q := 227) (gj_dk okX12_lives_2 27 rfl) rfl rfl rfl ?_
  obtain ⟨b29, hF⟩ := gj_ckd hF
  refine gj_iald (q := 228) (gj_dk okX12_lives_2 28 rfl) (sh109 hst) b29.1 b29.2 rfl ?_
  refine gj_iconst (q := 229) (gj_dk okX12_lives_2 29 rfl) (by decide) rfl ?_
  refine gj_iadd (q := 230) (gj_dk okX12_lives_2 30 rfl) rfl ?_
  obtain ⟨b30, hF⟩ := gj_ckd hF
  refine gj_iast (q := 231) (gj_dk okX12_lives_2 31 rfl) (sh109 hst) b30.1 b30.2 rfl ?_
  refine gj_stp hF (fun M31 hF => ?_)
  cases hF
  exact gj_vret (gj_dk okX12_lives_2 32 rfl) rfl ⟨rfl, rfl, rfl⟩
set_option maxHeartbeats 4000000 in
set_option maxRecDepth 20000 in
theorem t_J_X12_lives_175 (hst : gj_Stat S) {r : gj_M} (l1 l2 l3 : Int) (M : gj_M) (hF : J_X12_lives_175 l1 l2 l3 M = some r) : gj_W G l 2 0 0 yX12_lives cX12_lives 6 none (gj_qV fun S' M' => S = S' ∧ r = M') 0 0 175 [(0, jR 79), (1, jI l1), (2, jI l2), (3, jI l3)] [] S M := by
  unfold J_X12_lives_175 at hF
  refine gj_aload_n (q := 176) (gj_dk okX12_lives_1 54 rfl) rfl rfl ?_
  refine gj_bipush (q := 178) (gj_dk okX12_lives_1 55 rfl) (by decide) rfl rfl ?_
  obtain ⟨x21, M22, hG, hF⟩ := gj_bnd2d hF
  refine gj_callV (q := 181) (z := 79) (ci := 10) [jI 16] rfl (t_X12_lot hst 16 hG) (gj_dk okX12_lives_1 56 rfl) ml_X12_382 me_X12_lot (sh79 hst) rfl (gj_nm rfl) rfl (gj_kI fun y S2 M2 h => ?_)
  obtain ⟨e, eS, eM⟩ := h; subst eS; subst eM; subst e; clear hG
  dsimp only
  refine gj_aload_n (q := 182) (gj_dk okX12_lives_1 57 rfl) rfl rfl ?_
  refine gj_gR (q := 185) (j := 12) (gj_dk okX12_lives_1 58 rfl) ff_X12_34 (sh79 hst) (by decide) rfl (rf79_12 hst) rfl ?_
  refine gj_iconst (q := 186) (gj_dk okX12_lives_1 59 rfl) (by decide) rfl ?_
  refine gj_aald (q := 187) (gj_dk okX12_lives_2 0 rfl) (sh97 hst) (by decide) (by decide) (by decide) (rf97_0 hst) rfl ?_
  refine gj_iconst (q := 188) (gj_dk okX12_lives_2 1 rfl) (by decide) rfl ?_
  refine gj_iald (q := 189) (gj_dk okX12_lives_2 2 rfl) (sh98 hst) (by decide) (by decide) rfl ?_
  refine gj_icmp_ge (q := 192) (tgt := 211) (gj_dk okX12_lives_2 3 rfl) (by decide) rfl (fun c189 => ?_) (fun c189 => ?_)
  · -- 211
    replace hF := gj_ift c189 hF
    refine gj_sub [(0, jR 79), (1, jI l1), (2, jI l2)] ⟨rfl, rfl, rfl, trivial⟩ ?_
    exact t_J_X12_lives_211 hst l1 l2 M22 hF
  · -- 192
    replace hF := gj_iff c189 hF
    refine gj_aload_n (q := 193) (gj_dk okX12_lives_2 4 rfl) rfl rfl ?_
    refine gj_gR (q := 196) (j := 26) (gj_dk okX12_lives_2 5 rfl) ff_X12_95 (sh79 hst) (by decide) rfl (rf79_26 hst) rfl ?_
    refine gj_iload_n (q := 197) (gj_dk okX12_lives_2 6 rfl) rfl rfl ?_
    refine gj_bipush (q := 199) (gj_dk okX12_lives_2 7 rfl) (by decide) rfl rfl ?_
    refine gj_aload_n (q := 200) (gj_dk okX12_lives_2 8 rfl) rfl rfl ?_
    refine gj_gR (q := 203) (j := 26) (gj_dk okX12_lives_2 9 rfl) ff_X12_95 (sh79 hst) (by decide) rfl (rf79_26 hst) rfl ?_
    refine gj_iload_n (q := 204) (gj_dk okX12_lives_2 10 rfl) rfl rfl ?_
    obtain ⟨b23, hF⟩ := gj_ckd hF
    refine gj_iald (q := 205) (gj_dk okX12_lives_2 11 rfl) (sh114 hst) b23.1 b23.2 rfl ?_
    refine gj_iconst (q := 206) (gj_dk okX12_lives_2 12 rfl) (by decide) rfl ?_
    refine gj_iadd (q := 207) (gj_dk okX12_lives_2 13 rfl) rfl ?_
    refine gj_mmin (q := 210) (gj_dk okX12_lives_2 14 rfl) ml_X12_325 ⟨by omega, Nat.le_of_ble_eq_true rfl⟩ rfl ?_
    obtain ⟨b24, hF⟩ := gj_ckd hF
    refine gj_iast (q := 211) (gj_dk okX12_lives_2 15 rfl) (sh114 hst) b24.1 b24.2 rfl ?_
    refine gj_stp hF (fun M25 hF => ?_)
    refine gj_sub [(0, jR 79), (1, jI l1), (2, jI l2)] ⟨rfl, rfl, rfl, trivial⟩ ?_
    exact t_J_X12_lives_211 hst l1 l2 M25 hF
set_option maxHeartbeats 4000000 in
set_option maxRecDepth 20000 in
theorem t_J_X12_lives_90 (hst : gj_Stat S) {r : gj_M} (l1 l2 l3 l4 s0 s1 : Int) (M : gj_M) (hF : J_X12_lives_90 l1 l2 l3 l4 s0 s1 M = some r) : gj_W G l 2 0 0 yX12_lives cX12_lives 6 none (gj_qV fun S' M' => S = S' ∧ r = M') 0 0 90 [(0, jR 79), (1, jI l1), (2, jI l2), (3, jI l3), (4, jI l4)] [jI s1, jI s0] S M := by
  unfold J_X12_lives_90 at hF
  refine gj_iadd (q := 91) (gj_dk okX12_lives_0 57 rfl) rfl ?_
  refine gj_aload_n (q := 92) (gj_dk okX12_lives_0 58 rfl) rfl rfl ?_
  refine gj_gR (q := 95) (j := 12) (gj_dk okX12_lives_0 59 rfl) ff_X12_34 (sh79 hst) (by decide) rfl (rf79_12 hst) rfl ?_
  refine gj_iconst (q := 96) (gj_dk okX12_lives_1 0 rfl) (by decide) rfl ?_
  refine gj_aald (q := 97) (gj_dk okX12_lives_1 1 rfl) (sh97 hst) (by decide) (by decide) (by decide) (rf97_0 hst) rfl ?_
  refine gj_iconst (q := 98) (gj_dk okX12_lives_1 2 rfl) (by decide) rfl ?_
  refine gj_iald (q := 99) (gj_dk okX12_lives_1 3 rfl) (sh98 hst) (by decide) (by decide) rfl ?_
  refine gj_aload_n (q := 100) (gj_dk okX12_lives_1 4 rfl) rfl rfl ?_
  refine gj_gR (q := 103) (j := 26) (gj_dk okX12_lives_1 5 rfl) ff_X12_95 (sh79 hst) (by decide) rfl (rf79_26 hst) rfl ?_
  refine gj_iload_n (q := 104) (gj_dk okX12_lives_1 6 rfl) rfl rfl ?_
  obtain ⟨b7, hF⟩ := gj_ckd hF
  refine gj_iald (q := 105) (gj_dk okX12_lives_1 7 rfl) (sh114 hst) b7.1 b7.2 rfl ?_
  refine gj_imul (q := 106) (gj_dk okX12_lives_1 8 rfl) rfl ?_
  refine gj_iadd (q := 107) (gj_dk okX12_lives_1 9 rfl) rfl ?_
  refine gj_stpI hF (fun x8 hF => ?_)
  refine gj_istore (q := 109) (gj_dk okX12_lives_1 10 rfl) (by decide) rfl ?_
  refine gj_aload_n (q := 110) (gj_dk okX12_lives_1 11 rfl) rfl rfl ?_
  refine gj_gR (q := 113) (j := 23) (gj_dk okX12_lives_1 12 rfl) ff_X12_86 (sh79 hst) (by decide) rfl (rf79_23 hst) rfl ?_
  refine gj_iload_n (q := 114) (gj_dk okX12_lives_1 13 rfl) rfl rfl ?_
  refine gj_dup2 (q := 115) (gj_dk okX12_lives_1 14 rfl) rfl rfl rfl ?_
  obtain ⟨b9, hF⟩ := gj_ckd hF
  refine gj_iald (q := 116) (gj_dk okX12_lives_1 15 rfl) (sh111 hst) b9.1 b9.2 rfl ?_
  refine gj_iload (q := 118) (gj_dk okX12_lives_1 16 rfl) rfl rfl ?_
  refine gj_iadd (q := 119) (gj_dk okX12_lives_1 17 rfl) rfl ?_
  obtain ⟨b10, hF⟩ := gj_ckd hF
  refine gj_iast (q := 120) (gj_dk okX12_lives_1 18 rfl) (sh111 hst) b10.1 b10.2 rfl ?_
  refine gj_stp hF (fun M11 hF => ?_)
  refine gj_aload_n (q := 121) (gj_dk okX12_lives_1 19 rfl) rfl rfl ?_
  refine gj_gR (q := 124) (j := 23) (gj_dk okX12_lives_1 20 rfl) ff_X12_86 (sh79 hst) (by decide) rfl (rf79_23 hst) rfl ?_
  refine gj_iload_n (q := 125) (gj_dk okX12_lives_1 21 rfl) rfl rfl ?_
  refine gj_dup2 (q := 126) (gj_dk okX12_lives_1 22 rfl) rfl rfl rfl ?_
  obtain ⟨b12, hF⟩ := gj_ckd hF
  refine gj_iald (q := 127) (gj_dk okX12_lives_1 23 rfl) (sh111 hst) b12.1 b12.2 rfl ?_
  refine gj_iload (q := 129) (gj_dk okX12_lives_1 24 rfl) rfl rfl ?_
  refine gj_iadd (q := 130) (gj_dk okX12_lives_1 25 rfl) rfl ?_
  obtain ⟨b13, hF⟩ := gj_ckd hF
  refine gj_iast (q := 131) (gj_dk okX12_lives_1 26 rfl) (sh111 hst) b13.1 b13.2 rfl ?_
  refine gj_stp hF (fun M14 hF => ?_)
  refine gj_iload (q := 133) (gj_dk okX12_lives_1 27 rfl) rfl rfl ?_
  refine gj_if_eq (q := 136) (tgt := 157) (gj_dk okX12_lives_1 28 rfl) (by decide) rfl (fun c133 => ?_) (fun c133 => ?_)
  · -- 157
    replace hF := gj_ift c133 hF
    refine gj_aload_n (q := 158) (gj_dk okX12_lives_1 42 rfl) rfl rfl ?_
    refine gj_gR (q := 161) (j := 25) (gj_dk okX12_lives_1 43 rfl) ff_X12_92 (sh79 hst) (by decide) rfl (rf79_25 hst) rfl ?_
    refine gj_iload_n (q := 162) (gj_dk okX12_lives_1 44 rfl) rfl rfl ?_
    refine gj_iconst (q := 163) (gj_dk okX12_lives_1 45 rfl) (by decide) rfl ?_
    refine gj_aload_n (q := 164) (gj_dk okX12_lives_1 46 rfl) rfl rfl ?_
    refine gj_gR (q := 167) (j := 25) (gj_dk okX12_lives_1 47 rfl) ff_X12_92 (sh79 hst) (by decide) rfl (rf79_25 hst) rfl ?_
    refine gj_iload_n (q := 168) (gj_dk okX12_lives_1 48 rfl) rfl rfl ?_
    obtain ⟨b15, hF⟩ := gj_ckd hF
    refine gj_iald (q := 169) (gj_dk okX12_lives_1 49 rfl) (sh113 hst) b15.1 b15.2 rfl ?_
    refine gj_iconst (q := 170) (gj_dk okX12_lives_1 50 rfl) (by decide) rfl ?_
    refine gj_iadd (q := 171) (gj_dk okX12_lives_1 51 rfl) rfl ?_
    refine gj_mmin (q := 174) (gj_dk okX12_lives_1 52 rfl) ml_X12_325 ⟨by omega, Nat.le_of_ble_eq_true rfl⟩ rfl ?_
    obtain ⟨b16, hF⟩ := gj_ckd hF
    refine gj_iast (q := 175) (gj_dk okX12_lives_1 53 rfl) (sh113 hst) b16.1 b16.2 rfl ?_
    refine gj_stp hF (fun M17 hF => ?_)
    refine gj_sub [(0, jR 79), (1, jI l1), (2, jI l2), (3, jI l3)] ⟨rfl, rfl, rfl, rfl, trivial⟩ ?_
    exact t_J_X12_lives_175 hst l1 l2 l3 M17 hF
  · -- 136
    replace hF := gj_iff c133 hF
    refine gj_aload_n (q := 137) (gj_dk okX12_lives_1 29 rfl) rfl rfl ?_
    refine gj_gR (q := 140) (j := 24) (gj_dk okX12_lives_1 30 rfl) ff_X12_89 (sh79 hst) (by decide) rfl (rf79_24 hst) rfl ?_
    refine gj_iload_n (q := 141) (gj_dk okX12_lives_1 31 rfl) rfl rfl ?_
    refine gj_iconst (q := 142) (gj_dk okX12_lives_1 32 rfl) (by decide) rfl ?_
    refine gj_aload_n (q := 143) (gj_dk okX12_lives_1 33 rfl) rfl rfl ?_
    refine gj_gR (q := 146) (j := 24) (gj_dk okX12_lives_1 34 rfl) ff_X12_89 (sh79 hst) (by decide) rfl (rf79_24 hst) rfl ?_
    refine gj_iload_n (q := 147) (gj_dk okX12_lives_1 35 rfl) rfl rfl ?_
    obtain ⟨b18, hF⟩ := gj_ckd hF
    refine gj_iald (q := 148) (gj_dk okX12_lives_1 36 rfl) (sh112 hst) b18.1 b18.2 rfl ?_
    refine gj_iconst (q := 149) (gj_dk okX12_lives_1 37 rfl) (by decide) rfl ?_
    refine gj_iadd (q := 150) (gj_dk okX12_lives_1 38 rfl) rfl ?_
    refine gj_mmin (q := 153) (gj_dk okX12_lives_1 39 rfl) ml_X12_325 ⟨by omega, Nat.le_of_ble_eq_true rfl⟩ rfl ?_
    obtain ⟨b19, hF⟩ := gj_ckd hF
    refine gj_iast (q := 154) (gj_dk okX12_lives_1 40 rfl) (sh112 hst) b19.1 b19.2 rfl ?_
    refine gj_stp hF (fun M20 hF => ?_)
    refine gj_goto (tgt := 175) (gj_dk okX12_lives_1 41 rfl) (by decide) ?_
    refine gj_sub [(0, jR 79), (1, jI l1), (2, jI l2), (3, jI l3)] ⟨rfl, rfl, rfl, rfl, trivial⟩ ?_
    exact t_J_X12_lives_175 hst l1 l2 l3 M20 hF
set_option maxHeartbeats 4000000 in
set_option maxRecDepth 20000 in
theorem t_J_X12_lives_61 (hst : gj_Stat S) {r : gj_M} (l1 l2 l3 l4 s0 : Int) (M : gj_M) (hF : J_X12_lives_61 l1 l2 l3 l4 s0 M = some r) : gj_W G l 2 0 0 yX12_lives cX12_lives 6 none (gj_qV fun S' M' => S = S' ∧ r = M') 0 0 61 [(0, jR 79), (1, jI l1), (2, jI l2), (3, jI l3), (4, jI l4)] [jI s0] S M := by
  unfold J_X12_lives_61 at hF
  refine gj_aload_n (q := 62) (gj_dk okX12_lives_0 38 rfl) rfl rfl ?_
  refine gj_gR (q := 65) (j := 21) (gj_dk okX12_lives_0 39 rfl) ff_X12_80 (sh79 hst) (by decide) rfl (rf79_21 hst) rfl ?_
  refine gj_iload_n (q := 66) (gj_dk okX12_lives_0 40 rfl) rfl rfl ?_
  obtain ⟨b6, hF⟩ := gj_ckd hF
  refine gj_iald (q := 67) (gj_dk okX12_lives_0 41 rfl) (sh109 hst) b6.1 b6.2 rfl ?_
  refine gj_aload_n (q := 68) (gj_dk okX12_lives_0 42 rfl) rfl rfl ?_
  refine gj_gR (q := 71) (j := 12) (gj_dk okX12_lives_0 43 rfl) ff_X12_34 (sh79 hst) (by decide) rfl (rf79_12 hst) rfl ?_
  refine gj_iconst (q := 72) (gj_dk okX12_lives_0 44 rfl) (by decide) rfl ?_
  refine gj_aald (q := 73) (gj_dk okX12_lives_0 45 rfl) (sh97 hst) (by decide) (by decide) (by decide) (rf97_0 hst) rfl ?_
  refine gj_iconst (q := 74) (gj_dk okX12_lives_0 46 rfl) (by decide) rfl ?_
  refine gj_iald (q := 75) (gj_dk okX12_lives_0 47 rfl) (sh98 hst) (by decide) (by decide) rfl ?_
  refine gj_icmp_lt (q := 78) (tgt := 89) (gj_dk okX12_lives_0 48 rfl) (by decide) rfl (fun c75 => ?_) (fun c75 => ?_)
  · -- 89
    replace hF := gj_ift c75 hF
    refine gj_iconst (q := 90) (gj_dk okX12_lives_0 56 rfl) (by decide) rfl ?_
    refine gj_sub [(0, jR 79), (1, jI l1), (2, jI l2), (3, jI l3), (4, jI l4)] ⟨rfl, rfl, rfl, rfl, rfl, trivial⟩ ?_
    exact t_J_X12_lives_90 hst l1 l2 l3 l4 s0 0 M hF
  · -- 78
    replace hF := gj_iff c75 hF
    refine gj_aload_n (q := 79) (gj_dk okX12_lives_0 49 rfl) rfl rfl ?_
    refine gj_gR (q := 82) (j := 12) (gj_dk okX12_lives_0 50 rfl) ff_X12_34 (sh79 hst) (by decide) rfl (rf79_12 hst) rfl ?_
    refine gj_iconst (q := 83) (gj_dk okX12_lives_0 51 rfl) (by decide) rfl ?_
    refine gj_aald (q := 84) (gj_dk okX12_lives_0 52 rfl) (sh97 hst) (by decide) (by decide) (by decide) (rf97_0 hst) rfl ?_
    refine gj_iconst (q := 85) (gj_dk okX12_lives_0 53 rfl) (by decide) rfl ?_
    refine gj_iald (q := 86) (gj_dk okX12_lives_0 54 rfl) (sh98 hst) (by decide) (by decide) rfl ?_
    refine gj_goto (tgt := 90) (gj_dk okX12_lives_0 55 rfl) (by decide) ?_
    refine gj_sub [(0, jR 79), (1, jI l1), (2, jI l2), (3, jI l3), (4, jI l4)] ⟨rfl, rfl, rfl, rfl, rfl, trivial⟩ ?_
    exact t_J_X12_lives_90 hst l1 l2 l3 l4 s0 (M 98 3) M hF
set_option maxHeartbeats 4000000 in
set_option maxRecDepth 20000 in
theorem t_J_X12_lives_35 (hst : gj_Stat S) {r : gj_M} (l1 l2 l3 s0 : Int) (M : gj_M) (hF : J_X12_lives_35 l1 l2 l3 s0 M = some r) : gj_W G l 2 0 0 yX12_lives cX12_lives 6 none (gj_qV fun S' M' => S = S' ∧ r = M') 0 0 35 [(0, jR 79), (1, jI l1), (2, jI l2), (3, jI l3)] [jI s0] S M := by
  unfold J_X12_lives_35 at hF
  refine gj_istore (q := 37) (gj_dk okX12_lives_0 22 rfl) (by decide) rfl ?_
  refine gj_iload (q := 39) (gj_dk okX12_lives_0 23 rfl) rfl rfl ?_
  refine gj_if_eq (q := 42) (tgt := 53) (gj_dk okX12_lives_0 24 rfl) (by decide) rfl (fun c39 => ?_) (fun c39 => ?_)
  · -- 53
    replace hF := gj_ift c39 hF
    refine gj_aload_n (q := 54) (gj_dk okX12_lives_0 32 rfl) rfl rfl ?_
    refine gj_gR (q := 57) (j := 12) (gj_dk okX12_lives_0 33 rfl) ff_X12_34 (sh79 hst) (by decide) rfl (rf79_12 hst) rfl ?_
    refine gj_iconst (q := 58) (gj_dk okX12_lives_0 34 rfl) (by decide) rfl ?_
    refine gj_aald (q := 59) (gj_dk okX12_lives_0 35 rfl) (sh97 hst) (by decide) (by decide) (by decide) (rf97_0 hst) rfl ?_
    refine gj_iconst (q := 60) (gj_dk okX12_lives_0 36 rfl) (by decide) rfl ?_
    refine gj_iald (q := 61) (gj_dk okX12_lives_0 37 rfl) (sh98 hst) (by decide) (by decide) rfl ?_
    refine gj_sub [(0, jR 79), (1, jI l1), (2, jI l2), (3, jI l3), (4, jI s0)] ⟨rfl, rfl, rfl, rfl, rfl, trivial⟩ ?_
    exact t_J_X12_lives_61 hst l1 l2 l3 s0 (M 98 1) M hF
  · -- 42
    replace hF := gj_iff c39 hF
    refine gj_aload_n (q := 43) (gj_dk okX12_lives_0 25 rfl) rfl rfl ?_
    refine gj_gR (q := 46) (j := 12) (gj_dk okX12_lives_0 26 rfl) ff_X12_34 (sh79 hst) (by decide) rfl (rf79_12 hst) rfl ?_
    refine gj_iconst (q := 47) (gj_dk okX12_lives_0 27 rfl) (by decide) rfl ?_
    refine gj_aald (q := 48) (gj_dk okX12_lives_0 28 rfl) (sh97 hst) (by decide) (by decide) (by decide) (rf97_0 hst) rfl ?_
    refine gj_iconst (q := 49) (gj_dk okX12_lives_0 29 rfl) (by decide) rfl ?_
    refine gj_iald (q := 50) (gj_dk okX12_lives_0 30 rfl) (sh98 hst) (by decide) (by decide) rfl ?_
    refine gj_goto (tgt := 61) (gj_dk okX12_lives_0 31 rfl) (by decide) ?_
    refine gj_sub [(0, jR 79), (1, jI l1), (2, jI l2), (3, jI l3), (4, jI s0)] ⟨rfl, rfl, rfl, rfl, rfl, trivial⟩ ?_
    exact t_J_X12_lives_61 hst l1 l2 l3 s0 (M 98 0) M hF
set_option maxHeartbeats 4000000 in
set_option maxRecDepth 20000 in
theorem t_X12_lives (hst : gj_Stat S) (a1 : Int) {r : gj_M} (hF : F_X12_lives a1 M = some r) : gj_C G l 2 0 0 yX12_lives cX12_lives 6 none [jR 79, jI a1] S M (gj_qV fun S' M' => S = S' ∧ r = M') := by
  refine gj_Cof (by decide +kernel) (Nat.le_of_ble_eq_true rfl) ?_
  change gj_W G l 2 0 0 yX12_lives cX12_lives 6 none (gj_qV fun S' M' => S = S' ∧ r = M') 0 0 0 [(0, jR 79), (1, jI a1)] [] S M
  unfold F_X12_lives at hF
  refine gj_aload_n (q := 1) (gj_dk okX12_lives_0 0 rfl) rfl rfl ?_
  refine gj_gR (q := 4) (j := 20) (gj_dk okX12_lives_0 1 rfl) ff_X12_77 (sh79 hst) (by decide) rfl (rf79_20 hst) rfl ?_
  refine gj_iload_n (q := 5) (gj_dk okX12_lives_0 2 rfl) rfl rfl ?_
  obtain ⟨b1, hF⟩ := gj_ckd hF
  refine gj_iald (q := 6) (gj_dk okX12_lives_0 3 rfl) (sh108 hst) b1.1 b1.2 rfl ?_
  refine gj_istore_n (q := 7) (gj_dk okX12_lives_0 4 rfl) (by decide) rfl ?_
  refine gj_iload_n (q := 8) (gj_dk okX12_lives_0 5 rfl) rfl rfl ?_
  refine gj_iload_n (q := 9) (gj_dk okX12_lives_0 6 rfl) rfl rfl ?_
  refine gj_callS (q := 12) [jI a1, jI (M 108 a1)] rfl (t_X12_two hst a1 (M 108 a1) rfl) (gj_dk okX12_lives_0 7 rfl) ml_X12_292 me_X12_two (gj_nm rfl) rfl (gj_kI fun x S2 M2 h => ?_)
  obtain ⟨e, eS, eM⟩ := h; subst eS; subst eM; subst e
  refine gj_stpI hF (fun x2 hF => ?_)
  refine gj_istore_n (q := 13) (gj_dk okX12_lives_0 8 rfl) (by decide) rfl ?_
  refine gj_aload_n (q := 14) (gj_dk okX12_lives_0 9 rfl) rfl rfl ?_
  refine gj_bipush (q := 16) (gj_dk okX12_lives_0 10 rfl) (by decide) rfl rfl ?_
  obtain ⟨x3, M4, hG, hF⟩ := gj_bnd2d hF
  refine gj_callV (q := 19) (z := 79) (ci := 10) [jI 16] rfl (t_X12_lot hst 16 hG) (gj_dk okX12_lives_0 11 rfl) ml_X12_382 me_X12_lot (sh79 hst) rfl (gj_nm rfl) rfl (gj_kI fun y S2 M2 h => ?_)
  obtain ⟨e, eS, eM⟩ := h; subst eS; subst eM; subst e; clear hG
  dsimp only
  refine gj_aload_n (q := 20) (gj_dk okX12_lives_0 12 rfl) rfl rfl ?_
  refine gj_gR (q := 23) (j := 11) (gj_dk okX12_lives_0 13 rfl) ff_X12_31 (sh79 hst) (by decide) rfl (rf79_11 hst) rfl ?_
  refine gj_iconst (q := 24) (gj_dk okX12_lives_0 14 rfl) (by decide) rfl ?_
  refine gj_aald (q := 25) (gj_dk okX12_lives_0 15 rfl) (sh94 hst) (by decide) (by decide) (by decide) (rf94_0 hst) rfl ?_
  refine gj_iload_n (q := 26) (gj_dk okX12_lives_0 16 rfl) rfl rfl ?_
  obtain ⟨b5, hF⟩ := gj_ckd hF
  refine gj_iald (q := 27) (gj_dk okX12_lives_0 17 rfl) (sh95 hst) b5.1 b5.2 rfl ?_
  refine gj_icmp_ge (q := 30) (tgt := 34) (gj_dk okX12_lives_0 18 rfl) (by decide) rfl (fun c27 => ?_) (fun c27 => ?_)
  · -- 34
    replace hF := gj_ift c27 hF
    refine gj_iconst (q := 35) (gj_dk okX12_lives_0 21 rfl) (by decide) rfl ?_
    refine gj_sub [(0, jR 79), (1, jI a1), (2, jI (M 108 a1)), (3, jI x2)] ⟨rfl, rfl, rfl, rfl, trivial⟩ ?_
    exact t_J_X12_lives_35 hst a1 (M 108 a1) x2 0 M4 hF
  · -- 30
    replace hF := gj_iff c27 hF
    refine gj_iconst (q := 31) (gj_dk okX12_lives_0 19 rfl) (by decide) rfl ?_
    refine gj_goto (tgt := 35) (gj_dk okX12_lives_0 20 rfl) (by decide) ?_
    refine gj_sub [(0, jR 79), (1, jI a1), (2, jI (M 108 a1)), (3, jI x2)] ⟨rfl, rfl, rfl, rfl, trivial⟩ ?_
    exact t_J_X12_lives_35 hst a1 (M 108 a1) x2 1 M4 hF
def J_X12_may_180 (c : Int) (M : gj_M) : Option (Int × gj_M) :=
  gj_let (gj_up M 79 27 (gj_w ((M 79 27) + 1))) (fun M22 => (some ((c, M22))))
def J_X12_may_174 (rec125 : Int → Int → gj_M → Option (Int × gj_M)) (l1 : Int) (c : Int) (M : gj_M) : Option (Int × gj_M) :=
  rec125 (gj_w (l1 + 1)) c M
def B_X12_may_125 (rec125 : Int → Int → gj_M → Option (Int × gj_M)) (l1 : Int) (c : Int) (M : gj_M) : Option (Int × gj_M) :=
  (if 8 ≤ l1 then (J_X12_may_180 c M) else gj_chk (0 ≤ gj_w (Int.tdiv l1 4) ∧ gj_w (Int.tdiv l1 4) < 2) ((if M 101 (gj_w (Int.tdiv l1 4)) ≤ Int.tmod l1 4 then (J_X12_may_174 rec125 l1 c M) else gj_chk (0 ≤ l1 ∧ l1 < 8) ((if M 108 l1 = -1 then gj_chk (0 ≤ l1 ∧ l1 < 8) (gj_chk (0 ≤ l1 ∧ l1 < 8) (gj_chk (0 ≤ l1 ∧ l1 < 8) (gj_let (gj_up M 111 l1 (gj_w ((M 111 l1) + (M 83 l1)))) (fun M21 => (J_X12_may_174 rec125 l1 c M21))))) else (J_X12_may_174 rec125 l1 c M))))))
def J_X12_may_123 (c : Int) (M : gj_M) : Option (Int × gj_M) :=
  (gj_it (fun _ _ _ => none) (B_X12_may_125) gj_fu 0 c M)
def J_X12_may_117 (rec90 : Int → Int → gj_M → Option (Int × gj_M)) (l1 : Int) (c : Int) (M : gj_M) : Option (Int × gj_M) :=
  rec90 (gj_w (l1 + 1)) c M
def B_X12_may_90 (rec90 : Int → Int → gj_M → Option (Int × gj_M)) (l1 : Int) (c : Int) (M : gj_M) : Option (Int × gj_M) :=
  (if M 101 0 ≤ l1 then (J_X12_may_123 c M) else gj_chk (0 ≤ l1 ∧ l1 < 8) ((if M 108 l1 = -1 then (J_X12_may_117 rec90 l1 c M) else gj_bnd (F_X12_lives l1 M) (fun M15 => (J_X12_may_117 rec90 l1 c M15)))))
def J_X12_may_88 (c : Int) (M : gj_M) : Option (Int × gj_M) :=
  (gj_it (fun _ _ _ => none) (B_X12_may_90) gj_fu 0 c M)
def J_X12_may_82 (rec49 : Int → Int → gj_M → Option (Int × gj_M)) (l1 : Int) (c : Int) (M : gj_M) : Option (Int × gj_M) :=
  rec49 (gj_w (l1 + 1)) c M
def B_X12_may_49 (rec49 : Int → Int → gj_M → Option (Int × gj_M)) (l1 : Int) (c : Int) (M : gj_M) : Option (Int × gj_M) :=
  (if M 101 0 ≤ l1 then (J_X12_may_88 c M) else gj_chk (0 ≤ l1 ∧ l1 < 8) ((if M 119 l1 = -1 then (J_X12_may_82 rec49 l1 c M) else gj_chk (0 ≤ l1 ∧ l1 < 8) (gj_bnd (F_X12_joins l1 (M 119 l1) M) (fun M12 => (J_X12_may_82 rec49 l1 c M12))))))
def J_X12_may_39 (c : Int) (M : gj_M) : Option (Int × gj_M) :=
  gj_bnd (F_X12_goes (M 79 28) M) (fun M6 => (gj_it (fun _ _ _ => none) (B_X12_may_49) gj_fu 0 c M6))
def J_X12_may_32 (rec6 : Int → Int → gj_M → Option (Int × gj_M)) (l1 s1 s2 : Int) (c : Int) (M : gj_M) : Option (Int × gj_M) :=
  gj_chk (0 ≤ s1 ∧ s1 < 8) (gj_let (gj_up M 120 s1 s2) (fun M8 => rec6 (gj_w (l1 + 1)) c M8))
def B_X12_may_6 (rec6 : Int → Int → gj_M → Option (Int × gj_M)) (l1 : Int) (c : Int) (M : gj_M) : Option (Int × gj_M) :=
  (if 8 ≤ l1 then (J_X12_may_39 c M) else gj_chk (0 ≤ l1 ∧ l1 < 8) ((if M 108 l1 = -1 then (J_X12_may_32 rec6 l1 l1 0 c M) else (J_X12_may_32 rec6 l1 l1 1 c M))))
def F_X12_may (c : Int) (M : gj_M) : Option (Int × gj_M) :=
  gj_bnd2 (F_X12_asked c M) (fun k3 M2 => (gj_it (fun _ _ _ => none) (B_X12_may_6) gj_fu 0 k3 M2))
set_option maxHeartbeats 4000000 in
set_option maxRecDepth 20000 in
theorem t_J_X12_may_180 {r : Int × gj_M} : ∀ {S : gj_S} (c : Int) (M : gj_M), gj_Stat S → S.1 = c → J_X12_may_180 c M = some r → gj_W G l 26 5 25 yX12_may cX12_may 2 none (gj_qV fun S' M' => gj_Stat S' ∧ S'.1 = r.1 ∧ r.2 = M') 5 25 180 [(0, jR 79)] [] S M := by
  intro S c M hst hc hF
  unfold J_X12_may_180 at hF
  refine gj_aload_n (q := 181) (gj_dk okX12_may 110 rfl) rfl rfl ?_
  refine gj_dup (q := 182) (gj_dk okX12_may 111 rfl) rfl rfl ?_
  refine gj_gI (q := 185) (j := 27) (gj_dk okX12_may 112 rfl) ff_X12_264 (sh79 hst) (by decide) rfl rfl ?_
  refine gj_iconst (q := 186) (gj_dk okX12_may 113 rfl) (by decide) rfl ?_
  refine gj_iadd (q := 187) (gj_dk okX12_may 114 rfl) rfl ?_
  refine gj_pfI (q := 190) (j := 27) (gj_dk okX12_may 115 rfl) ff_X12_264 (sh79 hst) (by decide) rfl rfl ?_
  refine gj_stp hF (fun M22 hF => ?_)
  cases hF
  exact gj_vret (gj_dk okX12_may 116 rfl) rfl ⟨rfl, hst, hc, rfl⟩
set_option maxHeartbeats 4000000 in
set_option maxRecDepth 20000 in
theorem t_J_X12_may_174 {r : Int × gj_M} {rec125 : Int → Int → gj_M → Option (Int × gj_M)} (hrec125 : ∀ {S : gj_S} (l1 : Int) (c : Int) (M : gj_M), gj_Stat S → S.1 = c → rec125 l1 c M = some r → gj_W G l 26 5 25 yX12_may cX12_may 2 none (gj_qV fun S' M' => gj_Stat S' ∧ S'.1 = r.1 ∧ r.2 = M') 5 25 125 [(0, jR 79), (1, jI l1)] [] S M) : ∀ {S : gj_S} (l1 : Int) (c : Int) (M : gj_M), gj_Stat S → S.1 = c → J_X12_may_174 rec125 l1 c M = some r → gj_W G l 26 5 25 yX12_may cX12_may 2 none (gj_qV fun S' M' => gj_Stat S' ∧ S'.1 = r.1 ∧ r.2 = M') 5 25 174 [(0, jR 79), (1, jI l1)] [] S M := by
  intro S l1 c M hst hc hF
  unfold J_X12_may_174 at hF
  refine gj_iinc (q := 177) (v := gj_w (l1 + 1)) (gj_dk okX12_may 108 rfl) rfl (by decide) rfl rfl ?_
  refine gj_goto (tgt := 125) (gj_dk okX12_may 109 rfl) (by decide) ?_
  refine gj_sub [(0, jR 79), (1, jI (gj_w (l1 + 1)))] ⟨rfl, rfl, trivial⟩ ?_
  exact hrec125 (gj_w (l1 + 1)) c M hst hc hF
set_option maxHeartbeats 4000000 in
set_option maxRecDepth 20000 in
theorem t_B_X12_may_125 {r : Int × gj_M} {rec125 : Int → Int → gj_M → Option (Int × gj_M)} (hrec125 : ∀ {S : gj_S} (l1 : Int) (c : Int) (M : gj_M), gj_Stat S → S.1 = c → rec125 l1 c M = some r → gj_W G l 26 5 25 yX12_may cX12_may 2 none (gj_qV fun S' M' => gj_Stat S' ∧ S'.1 = r.1 ∧ r.2 = M') 5 25 125 [(0, jR 79), (1, jI l1)] [] S M) : ∀ {S : gj_S} (l1 : Int) (c : Int) (M : gj_M), gj_Stat S → S.1 = c → B_X12_may_125 rec125 l1 c M = some r → gj_W G l 26 5 25 yX12_may cX12_may 2 none (gj_qV fun S' M' => gj_Stat S' ∧ S'.1 = r.1 ∧ r.2 = M') 5 25 125 [(0, jR 79), (1, jI l1)] [] S M := by
  intro S l1 c M hst hc hF
  unfold B_X12_may_125 at hF
  refine gj_iload_n (q := 126) (gj_dk okX12_may 74 rfl) rfl rfl ?_
  refine gj_bipush (q := 128) (gj_dk okX12_may 75 rfl) (by decide) rfl rfl ?_
  refine gj_icmp_ge (q := 131) (tgt := 180) (gj_dk okX12_may 76 rfl) (by decide) rfl (fun c128 => ?_) (fun c128 => ?_)
  · -- 180
    replace hF := gj_ift c128 hF
    refine gj_sub [(0, jR 79)] ⟨rfl, trivial⟩ ?_
    exact t_J_X12_may_180 c M hst hc hF
  · -- 131
    replace hF := gj_iff c128 hF
    refine gj_iload_n (q := 132) (gj_dk okX12_may 77 rfl) rfl rfl ?_
    refine gj_iconst (q := 133) (gj_dk okX12_may 78 rfl) (by decide) rfl ?_
    refine gj_irem (q := 134) (gj_dk okX12_may 79 rfl) (by decide) rfl ?_
    refine gj_aload_n (q := 135) (gj_dk okX12_may 80 rfl) rfl rfl ?_
    refine gj_gR (q := 138) (j := 13) (gj_dk okX12_may 81 rfl) ff_X12_37 (sh79 hst) (by decide) rfl (rf79_13 hst) rfl ?_
    refine gj_iconst (q := 139) (gj_dk okX12_may 82 rfl) (by decide) rfl ?_
    refine gj_aald (q := 140) (gj_dk okX12_may 83 rfl) (sh100 hst) (by decide) (by decide) (by decide) (rf100_0 hst) rfl ?_
    refine gj_iload_n (q := 141) (gj_dk okX12_may 84 rfl) rfl rfl ?_
    refine gj_iconst (q := 142) (gj_dk okX12_may 85 rfl) (by decide) rfl ?_
    refine gj_idiv (q := 143) (gj_dk okX12_may 86 rfl) (by decide) rfl ?_
    obtain ⟨b16, hF⟩ := gj_ckd hF
    refine gj_iald (q := 144) (gj_dk okX12_may 87 rfl) (sh101 hst) b16.1 b16.2 rfl ?_
    refine gj_icmp_ge (q := 147) (tgt := 174) (gj_dk okX12_may 88 rfl) (by decide) rfl (fun c144 => ?_) (fun c144 => ?_)
    · -- 174
      replace hF := gj_ift c144 hF
      refine gj_sub [(0, jR 79), (1, jI l1)] ⟨rfl, rfl, trivial⟩ ?_
      exact t_J_X12_may_174 hrec125 l1 c M hst hc hF
    · -- 147
      replace hF := gj_iff c144 hF
      refine gj_aload_n (q := 148) (gj_dk okX12_may 89 rfl) rfl rfl ?_
      refine gj_gR (q := 151) (j := 20) (gj_dk okX12_may 90 rfl) ff_X12_77 (sh79 hst) (by decide) rfl (rf79_20 hst) rfl ?_
      refine gj_iload_n (q := 152) (gj_dk okX12_may 91 rfl) rfl rfl ?_
      obtain ⟨b17, hF⟩ := gj_ckd hF
      refine gj_iald (q := 153) (gj_dk okX12_may 92 rfl) (sh108 hst) b17.1 b17.2 rfl ?_
      refine gj_iconst (q := 154) (gj_dk okX12_may 93 rfl) (by decide) rfl ?_
      refine gj_icmp_ne (q := 157) (tgt := 174) (gj_dk okX12_may 94 rfl) (by decide) rfl (fun c154 => ?_) (fun c154 => ?_)
      · -- 174
        replace hF := gj_iff c154 hF
        refine gj_sub [(0, jR 79), (1, jI l1)] ⟨rfl, rfl, trivial⟩ ?_
        exact t_J_X12_may_174 hrec125 l1 c M hst hc hF
      · -- 157
        replace hF := gj_ift c154 hF
        refine gj_aload_n (q := 158) (gj_dk okX12_may 95 rfl) rfl rfl ?_
        refine gj_gR (q := 161) (j := 23) (gj_dk okX12_may 96 rfl) ff_X12_86 (sh79 hst) (by decide) rfl (rf79_23 hst) rfl ?_
        refine gj_iload_n (q := 162) (gj_dk okX12_may 97 rfl) rfl rfl ?_
        refine gj_dup2 (q := 163) (gj_dk okX12_may 98 rfl) rfl rfl rfl ?_
        obtain ⟨b18, hF⟩ := gj_ckd hF
        refine gj_iald (q := 164) (gj_dk okX12_may 99 rfl) (sh111 hst) b18.1 b18.2 rfl ?_
        refine gj_aload_n (q := 165) (gj_dk okX12_may 100 rfl) rfl rfl ?_
        refine gj_gR (q := 168) (j := 7) (gj_dk okX12_may 101 rfl) ff_X12_19 (sh79 hst) (by decide) rfl (rf79_7 hst) rfl ?_
        refine gj_iconst (q := 169) (gj_dk okX12_may 102 rfl) (by decide) rfl ?_
        refine gj_aald (q := 170) (gj_dk okX12_may 103 rfl) (sh82 hst) (by decide) (by decide) (by decide) (rf82_0 hst) rfl ?_
        refine gj_iload_n (q := 171) (gj_dk okX12_may 104 rfl) rfl rfl ?_
        obtain ⟨b19, hF⟩ := gj_ckd hF
        refine gj_iald (q := 172) (gj_dk okX12_may 105 rfl) (sh83 hst) b19.1 b19.2 rfl ?_
        refine gj_iadd (q := 173) (gj_dk okX12_may 106 rfl) rfl ?_
        obtain ⟨b20, hF⟩ := gj_ckd hF
        refine gj_iast (q := 174) (gj_dk okX12_may 107 rfl) (sh111 hst) b20.1 b20.2 rfl ?_
        refine gj_stp hF (fun M21 hF => ?_)
        refine gj_sub [(0, jR 79), (1, jI l1)] ⟨rfl, rfl, trivial⟩ ?_
        exact t_J_X12_may_174 hrec125 l1 c M21 hst hc hF
theorem t_L_X12_may_125 {r : Int × gj_M} : ∀ (m : Nat), ∀ {S : gj_S} (l1 : Int) (c : Int) (M : gj_M), gj_Stat S → S.1 = c → gj_it (fun _ _ _ => none) (B_X12_may_125) m l1 c M = some r → gj_W G l 26 5 25 yX12_may cX12_may 2 none (gj_qV fun S' M' => gj_Stat S' ∧ S'.1 = r.1 ∧ r.2 = M') 5 25 125 [(0, jR 79), (1, jI l1)] [] S M := by
  intro m
  induction m with
  | zero => intro S l1 c M hst hc hF; cases (show (none : Option (Int × gj_M)) = some r from hF)
  | succ m ih => intro S l1 c M hst hc hF; exact t_B_X12_may_125 (fun l1 c M hst hc h => ih l1 c M hst hc h) l1 c M hst hc hF
set_option maxHeartbeats 4000000 in
set_option maxRecDepth 20000 in
theorem t_J_X12_may_123 {r : Int × gj_M} : ∀ {S : gj_S} (c : Int) (M : gj_M), gj_Stat S → S.1 = c → J_X12_may_123 c M = some r → gj_W G l 26 5 25 yX12_may cX12_may 2 none (gj_qV fun S' M' => gj_Stat S' ∧ S'.1 = r.1 ∧ r.2 = M') 5 25 123 [(0, jR 79)] [] S M := by
  intro S c M hst hc hF
  unfold J_X12_may_123 at hF
  refine gj_iconst (q := 124) (gj_dk okX12_may 72 rfl) (by decide) rfl ?_
  refine gj_istore_n (q := 125) (gj_dk okX12_may 73 rfl) (by decide) rfl ?_
  refine gj_sub [(0, jR 79), (1, jI 0)] ⟨rfl, rfl, trivial⟩ ?_
  exact t_L_X12_may_125 gj_fu 0 c M hst hc hF
set_option maxHeartbeats 4000000 in
set_option maxRecDepth 20000 in
theorem t_J_X12_may_117 {r : Int × gj_M} {rec90 : Int → Int → gj_M → Option (Int × gj_M)} (hrec90 : ∀ {S : gj_S} (l1 : Int) (c : Int) (M : gj_M), gj_Stat S → S.1 = c → rec90 l1 c M = some r → gj_W G l 26 5 25 yX12_may cX12_may 2 none (gj_qV fun S' M' => gj_Stat S' ∧ S'.1 = r.1 ∧ r.2 = M') 5 25 90 [(0, jR 79), (1, jI l1)] [] S M) : ∀ {S : gj_S} (l1 : Int) (c : Int) (M : gj_M), gj_Stat S → S.1 = c → J_X12_may_117 rec90 l1 c M = some r → gj_W G l 26 5 25 yX12_may cX12_may 2 none (gj_qV fun S' M' => gj_Stat S' ∧ S'.1 = r.1 ∧ r.2 = M') 5 25 117 [(0, jR 79), (1, jI l1)] [] S M := by
  intro S l1 c M hst hc hF
  unfold J_X12_may_117 at hF
  refine gj_iinc (q := 120) (v := gj_w (l1 + 1)) (gj_dk okX12_may 70 rfl) rfl (by decide) rfl rfl ?_
  refine gj_goto (tgt := 90) (gj_dk okX12_may 71 rfl) (by decide) ?_
  refine gj_sub [(0, jR 79), (1, jI (gj_w (l1 + 1)))] ⟨rfl, rfl, trivial⟩ ?_
  exact hrec90 (gj_w (l1 + 1)) c M hst hc hF
set_option maxHeartbeats 4000000 in
set_option maxRecDepth 20000 in
theorem t_B_X12_may_90 {r : Int × gj_M} {rec90 : Int → Int → gj_M → Option (Int × gj_M)} (hrec90 : ∀ {S : gj_S} (l1 : Int) (c : Int) (M : gj_M), gj_Stat S → S.1 = c → rec90 l1 c M = some r → gj_W G l 26 5 25 yX12_may cX12_may 2 none (gj_qV fun S' M' => gj_Stat S' ∧ S'.1 = r.1 ∧ r.2 = M') 5 25 90 [(0, jR 79), (1, jI l1)] [] S M) : ∀ {S : gj_S} (l1 : Int) (c : Int) (M : gj_M), gj_Stat S → S.1 = c → B_X12_may_90 rec90 l1 c M = some r → gj_W G l 26 5 25 yX12_may cX12_may 2 none (gj_qV fun S' M' => gj_Stat S' ∧ S'.1 = r.1 ∧ r.2 = M') 5 25 90 [(0, jR 79), (1, jI l1)] [] S M := by
  intro S l1 c M hst hc hF
  unfold B_X12_may_90 at hF
  refine gj_iload_n (q := 91) (gj_dk okX12_may 53 rfl) rfl rfl ?_
  refine gj_aload_n (q := 92) (gj_dk okX12_may 54 rfl) rfl rfl ?_
  refine gj_gR (q := 95) (j := 13) (gj_dk okX12_may 55 rfl) ff_X12_37 (sh79 hst) (by decide) rfl (rf79_13 hst) rfl ?_
  refine gj_iconst (q := 96) (gj_dk okX12_may 56 rfl) (by decide) rfl ?_
  refine gj_aald (q := 97) (gj_dk okX12_may 57 rfl) (sh100 hst) (by decide) (by decide) (by decide) (rf100_0 hst) rfl ?_
  refine gj_iconst (q := 98) (gj_dk okX12_may 58 rfl) (by decide) rfl ?_
  refine gj_iald (q := 99) (gj_dk okX12_may 59 rfl) (sh101 hst) (by decide) (by decide) rfl ?_
  refine gj_icmp_ge (q := 102) (tgt := 123) (gj_dk okX12_may 60 rfl) (by decide) rfl (fun c99 => ?_) (fun c99 => ?_)
  · -- 123
    replace hF := gj_ift c99 hF
    refine gj_sub [(0, jR 79)] ⟨rfl, trivial⟩ ?_
    exact t_J_X12_may_123 c M hst hc hF
  · -- 102
    replace hF := gj_iff c99 hF
    refine gj_aload_n (q := 103) (gj_dk okX12_may 61 rfl) rfl rfl ?_
    refine gj_gR (q := 106) (j := 20) (gj_dk okX12_may 62 rfl) ff_X12_77 (sh79 hst) (by decide) rfl (rf79_20 hst) rfl ?_
    refine gj_iload_n (q := 107) (gj_dk okX12_may 63 rfl) rfl rfl ?_
    obtain ⟨b13, hF⟩ := gj_ckd hF
    refine gj_iald (q := 108) (gj_dk okX12_may 64 rfl) (sh108 hst) b13.1 b13.2 rfl ?_
    refine gj_iconst (q := 109) (gj_dk okX12_may 65 rfl) (by decide) rfl ?_
    refine gj_icmp_eq (q := 112) (tgt := 117) (gj_dk okX12_may 66 rfl) (by decide) rfl (fun c109 => ?_) (fun c109 => ?_)
    · -- 117
      replace hF := gj_ift c109 hF
      refine gj_sub [(0, jR 79), (1, jI l1)] ⟨rfl, rfl, trivial⟩ ?_
      exact t_J_X12_may_117 hrec90 l1 c M hst hc hF
    · -- 112
      replace hF := gj_iff c109 hF
      refine gj_aload_n (q := 113) (gj_dk okX12_may 67 rfl) rfl rfl ?_
      refine gj_iload_n (q := 114) (gj_dk okX12_may 68 rfl) rfl rfl ?_
      obtain ⟨M15, hG, hF⟩ := gj_bndd hF
      refine gj_callV (q := 117) (z := 79) (ci := 10) [jI l1] rfl (t_X12_lives hst l1 hG) (gj_dk okX12_may 69 rfl) ml_X12_411 me_X12_lives (sh79 hst) rfl ⟨by omega, Nat.le_of_ble_eq_true rfl, rfl, Nat.le_of_ble_eq_true rfl, by omega, by omega⟩ rfl (gj_kV fun S2 M2 h => ?_)
      obtain ⟨eS, eM⟩ := h; subst eS; subst eM; clear hG
      refine gj_sub [(0, jR 79), (1, jI l1)] ⟨rfl, rfl, trivial⟩ ?_
      exact t_J_X12_may_117 hrec90 l1 c M15 hst hc hF
theorem t_L_X12_may_90 {r : Int × gj_M} : ∀ (m : Nat), ∀ {S : gj_S} (l1 : Int) (c : Int) (M : gj_M), gj_Stat S → S.1 = c → gj_it (fun _ _ _ => none) (B_X12_may_90) m l1 c M = some r → gj_W G l 26 5 25 yX12_may cX12_may 2 none (gj_qV fun S' M' => gj_Stat S' ∧ S'.1 = r.1 ∧ r.2 = M') 5 25 90 [(0, jR 79), (1, jI l1)] [] S M := by
  intro m
  induction m with
  | zero => intro S l1 c M hst hc hF; cases (show (none : Option (Int × gj_M)) = some r from hF)
  | succ m ih => intro S l1 c M hst hc hF; exact t_B_X12_may_90 (fun l1 c M hst hc h => ih l1 c M hst hc h) l1 c M hst hc hF
set_option maxHeartbeats 4000000 in
set_option maxRecDepth 20000 in
theorem t_J_X12_may_88 {r : Int × gj_M} : ∀ {S : gj_S} (c : Int) (M : gj_M), gj_Stat S → S.1 = c → J_X12_may_88 c M = some r → gj_W G l 26 5 25 yX12_may cX12_may 2 none (gj_qV fun S' M' => gj_Stat S' ∧ S'.1 = r.1 ∧ r.2 = M') 5 25 88 [(0, jR 79)] [] S M := by
  intro S c M hst hc hF
  unfold J_X12_may_88 at hF
  refine gj_iconst (q := 89) (gj_dk okX12_may 51 rfl) (by decide) rfl ?_
  refine gj_istore_n (q := 90) (gj_dk okX12_may 52 rfl) (by decide) rfl ?_
  refine gj_sub [(0, jR 79), (1, jI 0)] ⟨rfl, rfl, trivial⟩ ?_
  exact t_L_X12_may_90 gj_fu 0 c M hst hc hF
set_option maxHeartbeats 4000000 in
set_option maxRecDepth 20000 in
theorem t_J_X12_may_82 {r : Int × gj_M} {rec49 : Int → Int → gj_M → Option (Int × gj_M)} (hrec49 : ∀ {S : gj_S} (l1 : Int) (c : Int) (M : gj_M), gj_Stat S → S.1 = c → rec49 l1 c M = some r → gj_W G l 26 5 25 yX12_may cX12_may 2 none (gj_qV fun S' M' => gj_Stat S' ∧ S'.1 = r.1 ∧ r.2 = M') 5 25 49 [(0, jR 79), (1, jI l1)] [] S M) : ∀ {S : gj_S} (l1 : Int) (c : Int) (M : gj_M), gj_Stat S → S.1 = c → J_X12_may_82 rec49 l1 c M = some r → gj_W G l 26 5 25 yX12_may cX12_may 2 none (gj_qV fun S' M' => gj_Stat S' ∧ S'.1 = r.1 ∧ r.2 = M') 5 25 82 [(0, jR 79), (1, jI l1)] [] S M := by
  intro S l1 c M hst hc hF
  unfold J_X12_may_82 at hF
  refine gj_iinc (q := 85) (v := gj_w (l1 + 1)) (gj_dk okX12_may 49 rfl) rfl (by decide) rfl rfl ?_
  refine gj_goto (tgt := 49) (gj_dk okX12_may 50 rfl) (by decide) ?_
  refine gj_sub [(0, jR 79), (1, jI (gj_w (l1 + 1)))] ⟨rfl, rfl, trivial⟩ ?_
  exact hrec49 (gj_w (l1 + 1)) c M hst hc hF
set_option maxHeartbeats 4000000 in
set_option maxRecDepth 20000 in
theorem t_B_X12_may_49 {r : Int × gj_M} {rec49 : Int → Int → gj_M → Option (Int × gj_M)} (hrec49 : ∀ {S : gj_S} (l1 : Int) (c : Int) (M : gj_M), gj_Stat S → S.1 = c → rec49 l1 c M = some r → gj_W G l 26 5 25 yX12_may cX12_may 2 none (gj_qV fun S' M' => gj_Stat S' ∧ S'.1 = r.1 ∧ r.2 = M') 5 25 49 [(0, jR 79), (1, jI l1)] [] S M) : ∀ {S : gj_S} (l1 : Int) (c : Int) (M : gj_M), gj_Stat S → S.1 = c → B_X12_may_49 rec49 l1 c M = some r → gj_W G l 26 5 25 yX12_may cX12_may 2 none (gj_qV fun S' M' => gj_Stat S' ∧ S'.1 = r.1 ∧ r.2 = M') 5 25 49 [(0, jR 79), (1, jI l1)] [] S M := by
  intro S l1 c M hst hc hF
  unfold B_X12_may_49 at hF
  refine gj_iload_n (q := 50) (gj_dk okX12_may 28 rfl) rfl rfl ?_
  refine gj_aload_n (q := 51) (gj_dk okX12_may 29 rfl) rfl rfl ?_
  refine gj_gR (q := 54) (j := 13) (gj_dk okX12_may 30 rfl) ff_X12_37 (sh79 hst) (by decide) rfl (rf79_13 hst) rfl ?_
  refine gj_iconst (q := 55) (gj_dk okX12_may 31 rfl) (by decide) rfl ?_
  refine gj_aald (q := 56) (gj_dk okX12_may 32 rfl) (sh100 hst) (by decide) (by decide) (by decide) (rf100_0 hst) rfl ?_
  refine gj_iconst (q := 57) (gj_dk okX12_may 33 rfl) (by decide) rfl ?_
  refine gj_iald (q := 58) (gj_dk okX12_may 34 rfl) (sh101 hst) (by decide) (by decide) rfl ?_
  refine gj_icmp_ge (q := 61) (tgt := 88) (gj_dk okX12_may 35 rfl) (by decide) rfl (fun c58 => ?_) (fun c58 => ?_)
  · -- 88
    replace hF := gj_ift c58 hF
    refine gj_sub [(0, jR 79)] ⟨rfl, trivial⟩ ?_
    exact t_J_X12_may_88 c M hst hc hF
  · -- 61
    replace hF := gj_iff c58 hF
    refine gj_aload_n (q := 62) (gj_dk okX12_may 36 rfl) rfl rfl ?_
    refine gj_gR (q := 65) (j := 39) (gj_dk okX12_may 37 rfl) ff_X12_114 (sh79 hst) (by decide) rfl (rf79_39 hst) rfl ?_
    refine gj_iload_n (q := 66) (gj_dk okX12_may 38 rfl) rfl rfl ?_
    obtain ⟨b9, hF⟩ := gj_ckd hF
    refine gj_iald (q := 67) (gj_dk okX12_may 39 rfl) (sh119 hst) b9.1 b9.2 rfl ?_
    refine gj_iconst (q := 68) (gj_dk okX12_may 40 rfl) (by decide) rfl ?_
    refine gj_icmp_eq (q := 71) (tgt := 82) (gj_dk okX12_may 41 rfl) (by decide) rfl (fun c68 => ?_) (fun c68 => ?_)
    · -- 82
      replace hF := gj_ift c68 hF
      refine gj_sub [(0, jR 79), (1, jI l1)] ⟨rfl, rfl, trivial⟩ ?_
      exact t_J_X12_may_82 hrec49 l1 c M hst hc hF
    · -- 71
      replace hF := gj_iff c68 hF
      refine gj_aload_n (q := 72) (gj_dk okX12_may 42 rfl) rfl rfl ?_
      refine gj_iload_n (q := 73) (gj_dk okX12_may 43 rfl) rfl rfl ?_
      refine gj_aload_n (q := 74) (gj_dk okX12_may 44 rfl) rfl rfl ?_
      refine gj_gR (q := 77) (j := 39) (gj_dk okX12_may 45 rfl) ff_X12_114 (sh79 hst) (by decide) rfl (rf79_39 hst) rfl ?_
      refine gj_iload_n (q := 78) (gj_dk okX12_may 46 rfl) rfl rfl ?_
      obtain ⟨b10, hF⟩ := gj_ckd hF
      refine gj_iald (q := 79) (gj_dk okX12_may 47 rfl) (sh119 hst) b10.1 b10.2 rfl ?_
      obtain ⟨M12, hG, hF⟩ := gj_bndd hF
      refine gj_callV (q := 82) (z := 79) (ci := 10) [jI l1, jI (M 119 l1)] rfl (t_X12_joins hst l1 (M 119 l1) hG) (gj_dk okX12_may 48 rfl) ml_X12_408 me_X12_joins (sh79 hst) rfl ⟨by omega, Nat.le_of_ble_eq_true rfl, rfl, Nat.le_of_ble_eq_true rfl, by omega, by omega⟩ rfl (gj_kV fun S2 M2 h => ?_)
      obtain ⟨eS, eM⟩ := h; subst eS; subst eM; clear hG
      refine gj_sub [(0, jR 79), (1, jI l1)] ⟨rfl, rfl, trivial⟩ ?_
      exact t_J_X12_may_82 hrec49 l1 c M12 hst hc hF
theorem t_L_X12_may_49 {r : Int × gj_M} : ∀ (m : Nat), ∀ {S : gj_S} (l1 : Int) (c : Int) (M : gj_M), gj_Stat S → S.1 = c → gj_it (fun _ _ _ => none) (B_X12_may_49) m l1 c M = some r → gj_W G l 26 5 25 yX12_may cX12_may 2 none (gj_qV fun S' M' => gj_Stat S' ∧ S'.1 = r.1 ∧ r.2 = M') 5 25 49 [(0, jR 79), (1, jI l1)] [] S M := by
  intro m
  induction m with
  | zero => intro S l1 c M hst hc hF; cases (show (none : Option (Int × gj_M)) = some r from hF)
  | succ m ih => intro S l1 c M hst hc hF; exact t_B_X12_may_49 (fun l1 c M hst hc h => ih l1 c M hst hc h) l1 c M hst hc hF
set_option maxHeartbeats 4000000 in
set_option maxRecDepth 20000 in
theorem t_J_X12_may_39 {r : Int × gj_M} : ∀ {S : gj_S} (c : Int) (M : gj_M), gj_Stat S → S.1 = c → J_X12_may_39 c M = some r → gj_W G l 26 5 25 yX12_may cX12_may 2 none (gj_qV fun S' M' => gj_Stat S' ∧ S'.1 = r.1 ∧ r.2 = M') 5 25 39 [(0, jR 79)] [] S M := by
  intro S c M hst hc hF
  unfold J_X12_may_39 at hF
  refine gj_aload_n (q := 40) (gj_dk okX12_may 22 rfl) rfl rfl ?_
  refine gj_aload_n (q := 41) (gj_dk okX12_may 23 rfl) rfl rfl ?_
  refine gj_gI (q := 44) (j := 28) (gj_dk okX12_may 24 rfl) ff_X12_267 (sh79 hst) (by decide) rfl rfl ?_
  obtain ⟨M6, hG, hF⟩ := gj_bndd hF
  refine gj_callV (q := 47) (z := 79) (ci := 10) [jI (M 79 28)] rfl (t_X12_goes hst (M 79 28) hG) (gj_dk okX12_may 25 rfl) ml_X12_396 me_X12_goes (sh79 hst) rfl ⟨by omega, Nat.le_of_ble_eq_true rfl, rfl, Nat.le_of_ble_eq_true rfl, by omega, by omega⟩ rfl (gj_kV fun S2 M2 h => ?_)
  obtain ⟨eS, eM⟩ := h; subst eS; subst eM; clear hG
  refine gj_iconst (q := 48) (gj_dk okX12_may 26 rfl) (by decide) rfl ?_
  refine gj_istore_n (q := 49) (gj_dk okX12_may 27 rfl) (by decide) rfl ?_
  refine gj_sub [(0, jR 79), (1, jI 0)] ⟨rfl, rfl, trivial⟩ ?_
  exact t_L_X12_may_49 gj_fu 0 c M6 hst hc hF
set_option maxHeartbeats 4000000 in
set_option maxRecDepth 20000 in
theorem t_J_X12_may_32 {r : Int × gj_M} {rec6 : Int → Int → gj_M → Option (Int × gj_M)} (hrec6 : ∀ {S : gj_S} (l1 : Int) (c : Int) (M : gj_M), gj_Stat S → S.1 = c → rec6 l1 c M = some r → gj_W G l 26 5 25 yX12_may cX12_may 2 none (gj_qV fun S' M' => gj_Stat S' ∧ S'.1 = r.1 ∧ r.2 = M') 5 25 6 [(0, jR 79), (1, jI l1)] [] S M) : ∀ {S : gj_S} (l1 : Int) (s1 : Int) (s2 : Int) (c : Int) (M : gj_M), gj_Stat S → S.1 = c → J_X12_may_32 rec6 l1 s1 s2 c M = some r → gj_W G l 26 5 25 yX12_may cX12_may 2 none (gj_qV fun S' M' => gj_Stat S' ∧ S'.1 = r.1 ∧ r.2 = M') 5 25 32 [(0, jR 79), (1, jI l1)] [jI s2, jI s1, jR 120] S M := by
  intro S l1 s1 s2 c M hst hc hF
  unfold J_X12_may_32 at hF
  obtain ⟨b7, hF⟩ := gj_ckd hF
  refine gj_iast (q := 33) (gj_dk okX12_may 19 rfl) (sh120 hst) b7.1 b7.2 rfl ?_
  refine gj_stp hF (fun M8 hF => ?_)
  refine gj_iinc (q := 36) (v := gj_w (l1 + 1)) (gj_dk okX12_may 20 rfl) rfl (by decide) rfl rfl ?_
  refine gj_goto (tgt := 6) (gj_dk okX12_may 21 rfl) (by decide) ?_
  refine gj_sub [(0, jR 79), (1, jI (gj_w (l1 + 1)))] ⟨rfl, rfl, trivial⟩ ?_
  exact hrec6 (gj_w (l1 + 1)) c M8 hst hc hF
set_option maxHeartbeats 4000000 in
set_option maxRecDepth 20000 in
theorem t_B_X12_may_6 {r : Int × gj_M} {rec6 : Int → Int → gj_M → Option (Int × gj_M)} (hrec6 : ∀ {S : gj_S} (l1 : Int) (c : Int) (M : gj_M), gj_Stat S → S.1 = c → rec6 l1 c M = some r → gj_W G l 26 5 25 yX12_may cX12_may 2 none (gj_qV fun S' M' => gj_Stat S' ∧ S'.1 = r.1 ∧ r.2 = M') 5 25 6 [(0, jR 79), (1, jI l1)] [] S M) : ∀ {S : gj_S} (l1 : Int) (c : Int) (M : gj_M), gj_Stat S → S.1 = c → B_X12_may_6 rec6 l1 c M = some r → gj_W G l 26 5 25 yX12_may cX12_may 2 none (gj_qV fun S' M' => gj_Stat S' ∧ S'.1 = r.1 ∧ r.2 = M') 5 25 6 [(0, jR 79), (1, jI l1)] [] S M := by
  intro S l1 c M hst hc hF
  unfold B_X12_may_6 at hF
  refine gj_iload_n (q := 7) (gj_dk okX12_may 4 rfl) rfl rfl ?_
  refine gj_bipush (q := 9) (gj_dk okX12_may 5 rfl) (by decide) rfl rfl ?_
  refine gj_icmp_ge (q := 12) (tgt := 39) (gj_dk okX12_may 6 rfl) (by decide) rfl (fun c9 => ?_) (fun c9 => ?_)
  · -- 39
    replace hF := gj_ift c9 hF
    refine gj_sub [(0, jR 79)] ⟨rfl, trivial⟩ ?_
    exact t_J_X12_may_39 c M hst hc hF
  · -- 12
    replace hF := gj_iff c9 hF
    refine gj_aload_n (q := 13) (gj_dk okX12_may 7 rfl) rfl rfl ?_
    refine gj_gR (q := 16) (j := 40) (gj_dk okX12_may 8 rfl) ff_X12_117 (sh79 hst) (by decide) rfl (rf79_40 hst) rfl ?_
    refine gj_iload_n (q := 17) (gj_dk okX12_may 9 rfl) rfl rfl ?_
    refine gj_aload_n (q := 18) (gj_dk okX12_may 10 rfl) rfl rfl ?_
    refine gj_gR (q := 21) (j := 20) (gj_dk okX12_may 11 rfl) ff_X12_77 (sh79 hst) (by decide) rfl (rf79_20 hst) rfl ?_
    refine gj_iload_n (q := 22) (gj_dk okX12_may 12 rfl) rfl rfl ?_
    obtain ⟨b4, hF⟩ := gj_ckd hF
    refine gj_iald (q := 23) (gj_dk okX12_may 13 rfl) (sh108 hst) b4.1 b4.2 rfl ?_
    refine gj_iconst (q := 24) (gj_dk okX12_may 14 rfl) (by decide) rfl ?_
    refine gj_icmp_eq (q := 27) (tgt := 31) (gj_dk okX12_may 15 rfl) (by decide) rfl (fun c24 => ?_) (fun c24 => ?_)
    · -- 31
      replace hF := gj_ift c24 hF
      refine gj_iconst (q := 32) (gj_dk okX12_may 18 rfl) (by decide) rfl ?_
      refine gj_sub [(0, jR 79), (1, jI l1)] ⟨rfl, rfl, trivial⟩ ?_
      exact t_J_X12_may_32 hrec6 l1 l1 0 c M hst hc hF
    · -- 27
      replace hF := gj_iff c24 hF
      refine gj_iconst (q := 28) (gj_dk okX12_may 16 rfl) (by decide) rfl ?_
      refine gj_goto (tgt := 32) (gj_dk okX12_may 17 rfl) (by decide) ?_
      refine gj_sub [(0, jR 79), (1, jI l1)] ⟨rfl, rfl, trivial⟩ ?_
      exact t_J_X12_may_32 hrec6 l1 l1 1 c M hst hc hF
theorem t_L_X12_may_6 {r : Int × gj_M} : ∀ (m : Nat), ∀ {S : gj_S} (l1 : Int) (c : Int) (M : gj_M), gj_Stat S → S.1 = c → gj_it (fun _ _ _ => none) (B_X12_may_6) m l1 c M = some r → gj_W G l 26 5 25 yX12_may cX12_may 2 none (gj_qV fun S' M' => gj_Stat S' ∧ S'.1 = r.1 ∧ r.2 = M') 5 25 6 [(0, jR 79), (1, jI l1)] [] S M := by
  intro m
  induction m with
  | zero => intro S l1 c M hst hc hF; cases (show (none : Option (Int × gj_M)) = some r from hF)
  | succ m ih => intro S l1 c M hst hc hF; exact t_B_X12_may_6 (fun l1 c M hst hc h => ih l1 c M hst hc h) l1 c M hst hc hF
set_option maxHeartbeats 4000000 in
set_option maxRecDepth 20000 in
theorem t_X12_may {S : gj_S} (hst : gj_Stat S) {c : Int} (hc : S.1 = c) {r : Int × gj_M} (hF : F_X12_may c M = some r) : gj_C G l 26 5 25 yX12_may cX12_may 2 none [jR 79] S M (gj_qV fun S' M' => gj_Stat S' ∧ S'.1 = r.1 ∧ r.2 = M') := by
  refine gj_Cof (by decide +kernel) (Nat.le_of_ble_eq_true rfl) ?_
  change gj_W G l 26 5 25 yX12_may cX12_may 2 none (gj_qV fun S' M' => gj_Stat S' ∧ S'.1 = r.1 ∧ r.2 = M') 0 0 0 [(0, jR 79)] [] S M
  unfold F_X12_may at hF
  refine gj_aload_n (q := 1) (gj_dk okX12_may 0 rfl) rfl rfl ?_
  obtain ⟨k3, M2, hG, hF⟩ := gj_bnd2d hF
  refine gj_callV (q := 4) (z := 79) (ci := 10) [] rfl (t_X12_asked hst hc  hG) (gj_dk okX12_may 1 rfl) ml_X12_405 me_X12_asked (sh79 hst) rfl ⟨by omega, Nat.le_of_ble_eq_true rfl, rfl, Nat.le_of_ble_eq_true rfl, by omega, by omega⟩ rfl (gj_kV fun S2 M2 h => ?_)
  obtain ⟨hst2, hc2, eM⟩ := h; subst eM; dsimp only at hc2; clear hst; clear hc; have hst := hst2; have hc := hc2; clear hst2; clear hc2
  refine gj_iconst (q := 5) (gj_dk okX12_may 2 rfl) (by decide) rfl ?_
  refine gj_istore_n (q := 6) (gj_dk okX12_may 3 rfl) (by decide) rfl ?_
  refine gj_wid (k' := 5) (n' := 25) (by omega) (by omega) (by omega) (by omega) ?_
  refine gj_sub [(0, jR 79), (1, jI 0)] ⟨rfl, rfl, trivial⟩ ?_
  exact t_L_X12_may_6 gj_fu 0 k3 M2 hst hc hF
end GJFR
