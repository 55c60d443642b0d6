section GJFR
variable {G : gj_G} {l : Launch} {S : gj_S} {M : gj_M}
def B_X12_copies_97_2 (rec2 : Int → gj_M → Option (gj_M)) (l1 : Int) (M : gj_M) : Option (gj_M) :=
  (if 8 ≤ l1 then (some (M)) else gj_chk (0 ≤ l1 ∧ l1 < 8) (gj_chk (0 ≤ l1 ∧ l1 < 8) (gj_let (gj_up M 98 l1 (M 99 l1)) (fun M3 => rec2 (gj_w (l1 + 1)) M3))))
def F_X12_copies_97 (M : gj_M) : Option (gj_M) :=
  (gj_it (fun _ _ => none) (B_X12_copies_97_2) gj_fu 0 M)
set_option maxHeartbeats 4000000 in
set_option maxRecDepth 20000 in
theorem t_B_X12_copies_97_2 (hst : gj_Stat S) {r : gj_M} {rec2 : Int → gj_M → Option (gj_M)} (hrec2 : ∀ (l1 : Int) (M : gj_M), rec2 l1 M = some r → gj_W G l 1 0 0 yX12_copies cX12_copies 2 none (gj_qV fun S' M' => S = S' ∧ r = M') 0 0 2 [(0, jR 97), (1, jI l1)] [] S M) (l1 : Int) (M : gj_M) (hF : B_X12_copies_97_2 rec2 l1 M = some r) : gj_W G l 1 0 0 yX12_copies cX12_copies 2 none (gj_qV fun S' M' => S = S' ∧ r = M') 0 0 2 [(0, jR 97), (1, jI l1)] [] S M := by
  unfold B_X12_copies_97_2 at hF
  refine gj_iload_n (q := 3) (gj_dk okX12_copies 2 rfl) rfl rfl ?_
  refine gj_aload_n (q := 4) (gj_dk okX12_copies 3 rfl) rfl rfl ?_
  refine gj_iconst (q := 5) (gj_dk okX12_copies 4 rfl) (by decide) rfl ?_
  refine gj_aald (q := 6) (gj_dk okX12_copies 5 rfl) (sh97 hst) (by decide) (by decide) (by decide) (rf97_0 hst) rfl ?_
  refine gj_alen (q := 7) (gj_dk okX12_copies 6 rfl) (sh98 hst) (by decide) rfl ?_
  refine gj_icmp_ge (q := 10) (tgt := 26) (gj_dk okX12_copies 7 rfl) (by decide) rfl (fun c7 => ?_) (fun c7 => ?_)
  · -- 26
    replace hF := gj_ift c7 hF
    cases hF
    exact gj_vret (gj_dk okX12_copies 20 rfl) rfl ⟨rfl, rfl, rfl⟩
  · -- 10
    replace hF := gj_iff c7 hF
    refine gj_aload_n (q := 11) (gj_dk okX12_copies 8 rfl) rfl rfl ?_
    refine gj_iconst (q := 12) (gj_dk okX12_copies 9 rfl) (by decide) rfl ?_
    refine gj_aald (q := 13) (gj_dk okX12_copies 10 rfl) (sh97 hst) (by decide) (by decide) (by decide) (rf97_0 hst) rfl ?_
    refine gj_iload_n (q := 14) (gj_dk okX12_copies 11 rfl) rfl rfl ?_
    refine gj_aload_n (q := 15) (gj_dk okX12_copies 12 rfl) rfl rfl ?_
    refine gj_iconst (q := 16) (gj_dk okX12_copies 13 rfl) (by decide) rfl ?_
    refine gj_aald (q := 17) (gj_dk okX12_copies 14 rfl) (sh97 hst) (by decide) (by decide) (by decide) (rf97_1 hst) rfl ?_
    refine gj_iload_n (q := 18) (gj_dk okX12_copies 15 rfl) rfl rfl ?_
    obtain ⟨b1, hF⟩ := gj_ckd hF
    refine gj_iald (q := 19) (gj_dk okX12_copies 16 rfl) (sh99 hst) b1.1 b1.2 rfl ?_
    obtain ⟨b2, hF⟩ := gj_ckd hF
    refine gj_iast (q := 20) (gj_dk okX12_copies 17 rfl) (sh98 hst) b2.1 b2.2 rfl ?_
    refine gj_stp hF (fun M3 hF => ?_)
    refine gj_iinc (q := 23) (v := gj_w (l1 + 1)) (gj_dk okX12_copies 18 rfl) rfl (by decide) rfl rfl ?_
    refine gj_goto (tgt := 2) (gj_dk okX12_copies 19 rfl) (by decide) ?_
    refine gj_sub [(0, jR 97), (1, jI (gj_w (l1 + 1)))] ⟨rfl, rfl, trivial⟩ ?_
    exact hrec2 (gj_w (l1 + 1)) M3 hF
theorem t_L_X12_copies_97_2 (hst : gj_Stat S) {r : gj_M} : ∀ (m : Nat) (l1 : Int) (M : gj_M), gj_it (fun _ _ => none) (B_X12_copies_97_2) m l1 M = some r → gj_W G l 1 0 0 yX12_copies cX12_copies 2 none (gj_qV fun S' M' => S = S' ∧ r = M') 0 0 2 [(0, jR 97), (1, jI l1)] [] S M := by
  intro m
  induction m with
  | zero => intro l1 M hF; cases (show (none : Option (gj_M)) = some r from hF)
  | succ m ih => intro l1 M hF; exact t_B_X12_copies_97_2 hst (fun l1 M h => ih l1 M h) l1 M hF
set_option maxHeartbeats 4000000 in
set_option maxRecDepth 20000 in
theorem t_X12_copies_97 (hst : gj_Stat S) {r : gj_M} (hF : F_X12_copies_97 M = some r) : gj_C G l 1 0 0 yX12_copies cX12_copies 2 none [jR 97] S M (gj_qV fun S' M' => S = S' ∧ r = M') := by
  refine gj_Cof (by decide +kernel) (Nat.le_of_ble_eq_true rfl) ?_
  change gj_W G l 1 0 0 yX12_copies cX12_copies 2 none (gj_qV fun S' M' => S = S' ∧ r = M') 0 0 0 [(0, jR 97)] [] S M
  unfold F_X12_copies_97 at hF
  refine gj_iconst (q := 1) (gj_dk okX12_copies 0 rfl) (by decide) rfl ?_
  refine gj_istore_n (q := 2) (gj_dk okX12_copies 1 rfl) (by decide) rfl ?_
  refine gj_sub [(0, jR 97), (1, jI 0)] ⟨rfl, rfl, trivial⟩ ?_
  exact t_L_X12_copies_97_2 hst gj_fu 0 M hF
def B_X12_copies_100_2 (rec2 : Int → gj_M → Option (gj_M)) (l1 : Int) (M : gj_M) : Option (gj_M) :=
  (if 2 ≤ l1 then (some (M)) else gj_chk (0 ≤ l1 ∧ l1 < 2) (gj_chk (0 ≤ l1 ∧ l1 < 2) (gj_let (gj_up M 101 l1 (M 102 l1)) (fun M3 => rec2 (gj_w (l1 + 1)) M3))))
def F_X12_copies_100 (M : gj_M) : Option (gj_M) :=
  (gj_it (fun _ _ => none) (B_X12_copies_100_2) gj_fu 0 M)
set_option maxHeartbeats 4000000 in
set_option maxRecDepth 20000 in
theorem t_B_X12_copies_100_2 (hst : gj_Stat S) {r : gj_M} {rec2 : Int → gj_M → Option (gj_M)} (hrec2 : ∀ (l1 : Int) (M : gj_M), rec2 l1 M = some r → gj_W G l 1 0 0 yX12_copies cX12_copies 2 none (gj_qV fun S' M' => S = S' ∧ r = M') 0 0 2 [(0, jR 100), (1, jI l1)] [] S M) (l1 : Int) (M : gj_M) (hF : B_X12_copies_100_2 rec2 l1 M = some r) : gj_W G l 1 0 0 yX12_copies cX12_copies 2 none (gj_qV fun S' M' => S = S' ∧ r = M') 0 0 2 [(0, jR 100), (1, jI l1)] [] S M := by
  unfold B_X12_copies_100_2 at hF
  refine gj_iload_n (q := 3) (gj_dk okX12_copies 2 rfl) rfl rfl ?_
  refine gj_aload_n (q := 4) (gj_dk okX12_copies 3 rfl) rfl rfl ?_
  refine gj_iconst (q := 5) (gj_dk okX12_copies 4 rfl) (by decide) rfl ?_
  refine gj_aald (q := 6) (gj_dk okX12_copies 5 rfl) (sh100 hst) (by decide) (by decide) (by decide) (rf100_0 hst) rfl ?_
  refine gj_alen (q := 7) (gj_dk okX12_copies 6 rfl) (sh101 hst) (by decide) rfl ?_
  refine gj_icmp_ge (q := 10) (tgt := 26) (gj_dk okX12_copies 7 rfl) (by decide) rfl (fun c7 => ?_) (fun c7 => ?_)
  · -- 26
    replace hF := gj_ift c7 hF
    cases hF
    exact gj_vret (gj_dk okX12_copies 20 rfl) rfl ⟨rfl, rfl, rfl⟩
  · -- 10
    replace hF := gj_iff c7 hF
    refine gj_aload_n (q := 11) (gj_dk okX12_copies 8 rfl) rfl rfl ?_
    refine gj_iconst (q := 12) (gj_dk okX12_copies 9 rfl) (by decide) rfl ?_
    refine gj_aald (q := 13) (gj_dk okX12_copies 10 rfl) (sh100 hst) (by decide) (by decide) (by decide) (rf100_0 hst) rfl ?_
    refine gj_iload_n (q := 14) (gj_dk okX12_copies 11 rfl) rfl rfl ?_
    refine gj_aload_n (q := 15) (gj_dk okX12_copies 12 rfl) rfl rfl ?_
    refine gj_iconst (q := 16) (gj_dk okX12_copies 13 rfl) (by decide) rfl ?_
    refine gj_aald (q := 17) (gj_dk okX12_copies 14 rfl) (sh100 hst) (by decide) (by decide) (by decide) (rf100_1 hst) rfl ?_
    refine gj_iload_n (q := 18) (gj_dk okX12_copies 15 rfl) rfl rfl ?_
    obtain ⟨b1, hF⟩ := gj_ckd hF
    refine gj_iald (q := 19) (gj_dk okX12_copies 16 rfl) (sh102 hst) b1.1 b1.2 rfl ?_
    obtain ⟨b2, hF⟩ := gj_ckd hF
    refine gj_iast (q := 20) (gj_dk okX12_copies 17 rfl) (sh101 hst) b2.1 b2.2 rfl ?_
    refine gj_stp hF (fun M3 hF => ?_)
    refine gj_iinc (q := 23) (v := gj_w (l1 + 1)) (gj_dk okX12_copies 18 rfl) rfl (by decide) rfl rfl ?_
    refine gj_goto (tgt := 2) (gj_dk okX12_copies 19 rfl) (by decide) ?_
    refine gj_sub [(0, jR 100), (1, jI (gj_w (l1 + 1)))] ⟨rfl, rfl, trivial⟩ ?_
    exact hrec2 (gj_w (l1 + 1)) M3 hF
theorem t_L_X12_copies_100_2 (hst : gj_Stat S) {r : gj_M} : ∀ (m : Nat) (l1 : Int) (M : gj_M), gj_it (fun _ _ => none) (B_X12_copies_100_2) m l1 M = some r → gj_W G l 1 0 0 yX12_copies cX12_copies 2 none (gj_qV fun S' M' => S = S' ∧ r = M') 0 0 2 [(0, jR 100), (1, jI l1)] [] S M := by
  intro m
  induction m with
  | zero => intro l1 M hF; cases (show (none : Option (gj_M)) = some r from hF)
  | succ m ih => intro l1 M hF; exact t_B_X12_copies_100_2 hst (fun l1 M h => ih l1 M h) l1 M hF
set_option maxHeartbeats 4000000 in
set_option maxRecDepth 20000 in
theorem t_X12_copies_100 (hst : gj_Stat S) {r : gj_M} (hF : F_X12_copies_100 M = some r) : gj_C G l 1 0 0 yX12_copies cX12_copies 2 none [jR 100] S M (gj_qV fun S' M' => S = S' ∧ r = M') := by
  refine gj_Cof (by decide +kernel) (Nat.le_of_ble_eq_true rfl) ?_
  change gj_W G l 1 0 0 yX12_copies cX12_copies 2 none (gj_qV fun S' M' => S = S' ∧ r = M') 0 0 0 [(0, jR 100)] [] S M
  unfold F_X12_copies_100 at hF
  refine gj_iconst (q := 1) (gj_dk okX12_copies 0 rfl) (by decide) rfl ?_
  refine gj_istore_n (q := 2) (gj_dk okX12_copies 1 rfl) (by decide) rfl ?_
  refine gj_sub [(0, jR 100), (1, jI 0)] ⟨rfl, rfl, trivial⟩ ?_
  exact t_L_X12_copies_100_2 hst gj_fu 0 M hF
def J_X12_village_194 (c : Int) (M : gj_M) : Option (Int × (Int × gj_M)) :=
  (some ((gj_w ((M 101 0) + (M 101 1)), (c, M))))
def B_X12_village_176 (rec176 : Int → Int → gj_M → Option (Int × (Int × gj_M))) (l1 : Int) (c : Int) (M : gj_M) : Option (Int × (Int × gj_M)) :=
  (if 3 ≤ l1 then (J_X12_village_194 c M) else gj_chk (0 ≤ l1 ∧ l1 < 3) (gj_let (gj_up M 135 l1 0) (fun M41 => rec176 (gj_w (l1 + 1)) c M41)))
def J_X12_village_174 (c : Int) (M : gj_M) : Option (Int × (Int × gj_M)) :=
  (gj_it (fun _ _ _ => none) (B_X12_village_176) gj_fu 0 c M)
def B_X12_village_141 (rec141 : Int → Int → gj_M → Option (Int × (Int × gj_M))) (l1 : Int) (c : Int) (M : gj_M) : Option (Int × (Int × gj_M)) :=
  (if 16 ≤ l1 then (J_X12_village_174 c M) else gj_chk (0 ≤ l1 ∧ l1 < 16) (gj_let (gj_up M 112 l1 0) (fun M35 => gj_chk (0 ≤ l1 ∧ l1 < 16) (gj_let (gj_up M35 113 l1 0) (fun M37 => gj_chk (0 ≤ l1 ∧ l1 < 16) (gj_let (gj_up M37 114 l1 0) (fun M39 => rec141 (gj_w (l1 + 1)) c M39)))))))
def J_X12_village_139 (c : Int) (M : gj_M) : Option (Int × (Int × gj_M)) :=
  (gj_it (fun _ _ _ => none) (B_X12_village_141) gj_fu 0 c M)
def B_X12_village_99 (rec99 : Int → Int → gj_M → Option (Int × (Int × gj_M))) (l1 : Int) (c : Int) (M : gj_M) : Option (Int × (Int × gj_M)) :=
  (if 8 ≤ l1 then (J_X12_village_139 c M) else gj_chk (0 ≤ l1 ∧ l1 < 8) (gj_let (gj_up M 108 l1 (-1)) (fun M27 => gj_chk (0 ≤ l1 ∧ l1 < 8) (gj_let (gj_up M27 109 l1 0) (fun M29 => gj_chk (0 ≤ l1 ∧ l1 < 8) (gj_let (gj_up M29 110 l1 0) (fun M31 => gj_chk (0 ≤ l1 ∧ l1 < 8) (gj_let (gj_up M31 111 l1 0) (fun M33 => rec99 (gj_w (l1 + 1)) c M33)))))))))
def F_X12_village (c : Int) (M : gj_M) : Option (Int × (Int × gj_M)) :=
  gj_bnd2 (F_X12_reads c M) (fun k3 M2 => (if M2 79 5 = -1 then gj_bnd (F_X12_copies_82 M2) (fun M5 => gj_bnd (F_X12_copies_85 M5) (fun M7 => gj_bnd (F_X12_copies_88 M7) (fun M9 => gj_bnd (F_X12_copies_91 M9) (fun M11 => gj_bnd (F_X12_copies_94 M11) (fun M13 => gj_bnd (F_X12_copies_97 M13) (fun M15 => gj_bnd (F_X12_copies_100 M15) (fun M17 => gj_let (gj_up M17 79 2 0) (fun M18 => gj_let (gj_up M18 79 18 1) (fun M19 => gj_let (gj_up M19 79 27 0) (fun M20 => gj_let (gj_up M20 79 28 0) (fun M21 => gj_let (gj_up M21 79 30 0) (fun M22 => gj_let (gj_up M22 79 29 0) (fun M23 => (gj_it (fun _ _ _ => none) (B_X12_village_99) gj_fu 0 k3 M23)))))))))))))) else gj_bnd2 (F_X12_refuse 2 M2) (fun x24 M25 => (some ((x24, (k3, M25)))))))
set_option maxHeartbeats 4000000 in
set_option maxRecDepth 20000 in
theorem t_J_X12_village_194 {r : Int × (Int × gj_M)} : ∀ {S : gj_S} (c : Int) (M : gj_M), gj_Stat S → S.1 = c → J_X12_village_194 c M = some r → gj_W G l 11 1 8 yX12_village cX12_village 2 (some .int) (gj_qI fun x S' M' => r.1 = x ∧ gj_Stat S' ∧ S'.1 = r.2.1 ∧ r.2.2 = M') 1 8 194 [(0, jR 79)] [] S M := by
  intro S c M hst hc hF
  unfold J_X12_village_194 at hF
  refine gj_aload_n (q := 195) (gj_dk okX12_village 110 rfl) rfl rfl ?_
  refine gj_gR (q := 198) (j := 13) (gj_dk okX12_village 111 rfl) ff_X12_37 (sh79 hst) (by decide) rfl (rf79_13 hst) rfl ?_
  refine gj_iconst (q := 199) (gj_dk okX12_village 112 rfl) (by decide) rfl ?_
  refine gj_aald (q := 200) (gj_dk okX12_village 113 rfl) (sh100 hst) (by decide) (by decide) (by decide) (rf100_0 hst) rfl ?_
  refine gj_iconst (q := 201) (gj_dk okX12_village 114 rfl) (by decide) rfl ?_
  refine gj_iald (q := 202) (gj_dk okX12_village 115 rfl) (sh101 hst) (by decide) (by decide) rfl ?_
  refine gj_aload_n (q := 203) (gj_dk okX12_village 116 rfl) rfl rfl ?_
  refine gj_gR (q := 206) (j := 13) (gj_dk okX12_village 117 rfl) ff_X12_37 (sh79 hst) (by decide) rfl (rf79_13 hst) rfl ?_
  refine gj_iconst (q := 207) (gj_dk okX12_village 118 rfl) (by decide) rfl ?_
  refine gj_aald (q := 208) (gj_dk okX12_village 119 rfl) (sh100 hst) (by decide) (by decide) (by decide) (rf100_0 hst) rfl ?_
  refine gj_iconst (q := 209) (gj_dk okX12_village 120 rfl) (by decide) rfl ?_
  refine gj_iald (q := 210) (gj_dk okX12_village 121 rfl) (sh101 hst) (by decide) (by decide) rfl ?_
  refine gj_iadd (q := 211) (gj_dk okX12_village 122 rfl) rfl ?_
  cases hF
  exact gj_iret (gj_dk okX12_village 123 rfl) rfl ⟨_, rfl, rfl, hst, hc, rfl⟩
set_option maxHeartbeats 4000000 in
set_option maxRecDepth 20000 in
theorem t_B_X12_village_176 {r : Int × (Int × gj_M)} {rec176 : Int → Int → gj_M → Option (Int × (Int × gj_M))} (hrec176 : ∀ {S : gj_S} (l1 : Int) (c : Int) (M : gj_M), gj_Stat S → S.1 = c → rec176 l1 c M = some r → gj_W G l 11 1 8 yX12_village cX12_village 2 (some .int) (gj_qI fun x S' M' => r.1 = x ∧ gj_Stat S' ∧ S'.1 = r.2.1 ∧ r.2.2 = M') 1 8 176 [(0, jR 79), (1, jI l1)] [] S M) : ∀ {S : gj_S} (l1 : Int) (c : Int) (M : gj_M), gj_Stat S → S.1 = c → B_X12_village_176 rec176 l1 c M = some r → gj_W G l 11 1 8 yX12_village cX12_village 2 (some .int) (gj_qI fun x S' M' => r.1 = x ∧ gj_Stat S' ∧ S'.1 = r.2.1 ∧ r.2.2 = M') 1 8 176 [(0, jR 79), (1, jI l1)] [] S M := by
  intro S l1 c M hst hc hF
  unfold B_X12_village_176 at hF
  refine gj_iload_n (q := 177) (gj_dk okX12_village 100 rfl) rfl rfl ?_
  refine gj_iconst (q := 178) (gj_dk okX12_village 101 rfl) (by decide) rfl ?_
  refine gj_icmp_ge (q := 181) (tgt := 194) (gj_dk okX12_village 102 rfl) (by decide) rfl (fun c178 => ?_) (fun c178 => ?_)
  · -- 194
    replace hF := gj_ift c178 hF
    refine gj_sub [(0, jR 79)] ⟨rfl, trivial⟩ ?_
    exact t_J_X12_village_194 c M hst hc hF
  · -- 181
    replace hF := gj_iff c178 hF
    refine gj_aload_n (q := 182) (gj_dk okX12_village 103 rfl) rfl rfl ?_
    refine gj_gR (q := 185) (j := 53) (gj_dk okX12_village 104 rfl) ff_X12_153 (sh79 hst) (by decide) rfl (rf79_53 hst) rfl ?_
    refine gj_iload_n (q := 186) (gj_dk okX12_village 105 rfl) rfl rfl ?_
    refine gj_iconst (q := 187) (gj_dk okX12_village 106 rfl) (by decide) rfl ?_
    obtain ⟨b40, hF⟩ := gj_ckd hF
    refine gj_zast (q := 188) (gj_dk okX12_village 107 rfl) (sh135 hst) b40.1 b40.2 (by decide) rfl ?_
    refine gj_stp hF (fun M41 hF => ?_)
    refine gj_iinc (q := 191) (v := gj_w (l1 + 1)) (gj_dk okX12_village 108 rfl) rfl (by decide) rfl rfl ?_
    refine gj_goto (tgt := 176) (gj_dk okX12_village 109 rfl) (by decide) ?_
    refine gj_sub [(0, jR 79), (1, jI (gj_w (l1 + 1)))] ⟨rfl, rfl, trivial⟩ ?_
    exact hrec176 (gj_w (l1 + 1)) c M41 hst hc hF
theorem t_L_X12_village_176 {r : Int × (Int × gj_M)} : ∀ (m : Nat), ∀ {S : gj_S} (l1 : Int) (c : Int) (M : gj_M), gj_Stat S → S.1 = c → gj_it (fun _ _ _ => none) (B_X12_village_176) m l1 c M = some r → gj_W G l 11 1 8 yX12_village cX12_village 2 (some .int) (gj_qI fun x S' M' => r.1 = x ∧ gj_Stat S' ∧ S'.1 = r.2.1 ∧ r.2.2 = M') 1 8 176 [(0, jR 79), (1, jI l1)] [] S M := by
  intro m
  induction m with
  | zero => intro S l1 c M hst hc hF; cases (show (none : Option (Int × (Int × gj_M))) = some r from hF)
  | succ m ih => intro S l1 c M hst hc hF; exact t_B_X12_village_176 (fun l1 c M hst hc h => ih l1 c M hst hc h) l1 c M hst hc hF
set_option maxHeartbeats 4000000 in
set_option maxRecDepth 20000 in
theorem t_J_X12_village_174 {r : Int × (Int × gj_M)} : ∀ {S : gj_S} (c : Int) (M : gj_M), gj_Stat S → S.1 = c → J_X12_village_174 c M = some r → gj_W G l 11 1 8 yX12_village cX12_village 2 (some .int) (gj_qI fun x S' M' => r.1 = x ∧ gj_Stat S' ∧ S'.1 = r.2.1 ∧ r.2.2 = M') 1 8 174 [(0, jR 79)] [] S M := by
  intro S c M hst hc hF
  unfold J_X12_village_174 at hF
  refine gj_iconst (q := 175) (gj_dk okX12_village 98 rfl) (by decide) rfl ?_
  refine gj_istore_n (q := 176) (gj_dk okX12_village 99 rfl) (by decide) rfl ?_
  refine gj_sub [(0, jR 79), (1, jI 0)] ⟨rfl, rfl, trivial⟩ ?_
  exact t_L_X12_village_176 gj_fu 0 c M hst hc hF
set_option maxHeartbeats 4000000 in
set_option maxRecDepth 20000 in
theorem t_B_X12_village_141 {r : Int × (Int × gj_M)} {rec141 : Int → Int → gj_M → Option (Int × (Int × gj_M))} (hrec141 : ∀ {S : gj_S} (l1 : Int) (c : Int) (M : gj_M), gj_Stat S → S.1 = c → rec141 l1 c M = some r → gj_W G l 11 1 8 yX12_village cX12_village 2 (some .int) (gj_qI fun x S' M' => r.1 = x ∧ gj_Stat S' ∧ S'.1 = r.2.1 ∧ r.2.2 = M') 1 8 141 [(0, jR 79), (1, jI l1)] [] S M) : ∀ {S : gj_S} (l1 : Int) (c : Int) (M : gj_M), gj_Stat S → S.1 = c → B_X12_village_141 rec141 l1 c M = some r → gj_W G l 11 1 8 yX12_village cX12_village 2 (some .int) (gj_qI fun x S' M' => r.1 = x ∧ gj_Stat S' ∧ S'.1 = r.2.1 ∧ r.2.2 = M') 1 8 141 [(0, jR 79), (1, jI l1)] [] S M := by
  intro S l1 c M hst hc hF
  unfold B_X12_village_141 at hF
  refine gj_iload_n (q := 142) (gj_dk okX12_village 78 rfl) rfl rfl ?_
  refine gj_bipush (q := 144) (gj_dk okX12_village 79 rfl) (by decide) rfl rfl ?_
  refine gj_icmp_ge (q := 147) (tgt := 174) (gj_dk okX12_village 80 rfl) (by decide) rfl (fun c144 => ?_) (fun c144 => ?_)
  · -- 174
    replace hF := gj_ift c144 hF
    refine gj_sub [(0, jR 79)] ⟨rfl, trivial⟩ ?_
    exact t_J_X12_village_174 c M hst hc hF
  · -- 147
    replace hF := gj_iff c144 hF
    refine gj_aload_n (q := 148) (gj_dk okX12_village 81 rfl) rfl rfl ?_
    refine gj_gR (q := 151) (j := 24) (gj_dk okX12_village 82 rfl) ff_X12_89 (sh79 hst) (by decide) rfl (rf79_24 hst) rfl ?_
    refine gj_iload_n (q := 152) (gj_dk okX12_village 83 rfl) rfl rfl ?_
    refine gj_iconst (q := 153) (gj_dk okX12_village 84 rfl) (by decide) rfl ?_
    obtain ⟨b34, hF⟩ := gj_ckd hF
    refine gj_iast (q := 154) (gj_dk okX12_village 85 rfl) (sh112 hst) b34.1 b34.2 rfl ?_
    refine gj_stp hF (fun M35 hF => ?_)
    refine gj_aload_n (q := 155) (gj_dk okX12_village 86 rfl) rfl rfl ?_
    refine gj_gR (q := 158) (j := 25) (gj_dk okX12_village 87 rfl) ff_X12_92 (sh79 hst) (by decide) rfl (rf79_25 hst) rfl ?_
    refine gj_iload_n (q := 159) (gj_dk okX12_village 88 rfl) rfl rfl ?_
    refine gj_iconst (q := 160) (gj_dk okX12_village 89 rfl) (by decide) rfl ?_
    obtain ⟨b36, hF⟩ := gj_ckd hF
    refine gj_iast (q := 161) (gj_dk okX12_village 90 rfl) (sh113 hst) b36.1 b36.2 rfl ?_
    refine gj_stp hF (fun M37 hF => ?_)
    refine gj_aload_n (q := 162) (gj_dk okX12_village 91 rfl) rfl rfl ?_
    refine gj_gR (q := 165) (j := 26) (gj_dk okX12_village 92 rfl) ff_X12_95 (sh79 hst) (by decide) rfl (rf79_26 hst) rfl ?_
    refine gj_iload_n (q := 166) (gj_dk okX12_village 93 rfl) rfl rfl ?_
    refine gj_iconst (q := 167) (gj_dk okX12_village 94 rfl) (by decide) rfl ?_
    obtain ⟨b38, hF⟩ := gj_ckd hF
    refine gj_iast (q := 168) (gj_dk okX12_village 95 rfl) (sh114 hst) b38.1 b38.2 rfl ?_
    refine gj_stp hF (fun M39 hF => ?_)
    refine gj_iinc (q := 171) (v := gj_w (l1 + 1)) (gj_dk okX12_village 96 rfl) rfl (by decide) rfl rfl ?_
    refine gj_goto (tgt := 141) (gj_dk okX12_village 97 rfl) (by decide) ?_
    refine gj_sub [(0, jR 79), (1, jI (gj_w (l1 + 1)))] ⟨rfl, rfl, trivial⟩ ?_
    exact hrec141 (gj_w (l1 + 1)) c M39 hst hc hF
theorem t_L_X12_village_141 {r : Int × (Int × gj_M)} : ∀ (m : Nat), ∀ {S : gj_S} (l1 : Int) (c : Int) (M : gj_M), gj_Stat S → S.1 = c → gj_it (fun _ _ _ => none) (B_X12_village_141) m l1 c M = some r → gj_W G l 11 1 8 yX12_village cX12_village 2 (some .int) (gj_qI fun x S' M' => r.1 = x ∧ gj_Stat S' ∧ S'.1 = r.2.1 ∧ r.2.2 = M') 1 8 141 [(0, jR 79), (1, jI l1)] [] S M := by
  intro m
  induction m with
  | zero => intro S l1 c M hst hc hF; cases (show (none : Option (Int × (Int × gj_M))) = some r from hF)
  | succ m ih => intro S l1 c M hst hc hF; exact t_B_X12_village_141 (fun l1 c M hst hc h => ih l1 c M hst hc h) l1 c M hst hc hF
set_option maxHeartbeats 4000000 in
set_option maxRecDepth 20000 in
theorem t_J_X12_village_139 {r : Int × (Int × gj_M)} : ∀ {S : gj_S} (c : Int) (M : gj_M), gj_Stat S → S.1 = c → J_X12_village_139 c M = some r → gj_W G l 11 1 8 yX12_village cX12_village 2 (some .int) (gj_qI fun x S' M' => r.1 = x ∧ gj_Stat S' ∧ S'.1 = r.2.1 ∧ r.2.2 = M') 1 8 139 [(0, jR 79)] [] S M := by
  intro S c M hst hc hF
  unfold J_X12_village_139 at hF
  refine gj_iconst (q := 140) (gj_dk okX12_village 76 rfl) (by decide) rfl ?_
  refine gj_istore_n (q := 141) (gj_dk okX12_village 77 rfl) (by decide) rfl ?_
  refine gj_sub [(0, jR 79), (1, jI 0)] ⟨rfl, rfl, trivial⟩ ?_
  exact t_L_X12_village_141 gj_fu 0 c M hst hc hF
set_option maxHeartbeats 4000000 in
set_option maxRecDepth 20000 in
theorem t_B_X12_village_99 {r : Int × (Int × gj_M)} {rec99 : Int → Int → gj_M → Option (Int × (Int × gj_M))} (hrec99 : ∀ {S : gj_S} (l1 : Int) (c : Int) (M : gj_M), gj_Stat S → S.1 = c → rec99 l1 c M = some r → gj_W G l 11 1 8 yX12_village cX12_village 2 (some .int) (gj_qI fun x S' M' => r.1 = x ∧ gj_Stat S' ∧ S'.1 = r.2.1 ∧ r.2.2 = M') 1 8 99 [(0, jR 79), (1, jI l1)] [] S M) : ∀ {S : gj_S} (l1 : Int) (c : Int) (M : gj_M), gj_Stat S → S.1 = c → B_X12_village_99 rec99 l1 c M = some r → gj_W G l 11 1 8 yX12_village cX12_village 2 (some .int) (gj_qI fun x S' M' => r.1 = x ∧ gj_Stat S' ∧ S'.1 = r.2.1 ∧ r.2.2 = M') 1 8 99 [(0, jR 79), (1, jI l1)] [] S M := by
  intro S l1 c M hst hc hF
  unfold B_X12_village_99 at hF
  refine gj_iload_n (q := 100) (gj_dk okX12_village 51 rfl) rfl rfl ?_
  refine gj_bipush (q := 102) (gj_dk okX12_village 52 rfl) (by decide) rfl rfl ?_
  refine gj_icmp_ge (q := 105) (tgt := 139) (gj_dk okX12_village 53 rfl) (by decide) rfl (fun c102 => ?_) (fun c102 => ?_)
  · -- 139
    replace hF := gj_ift c102 hF
    refine gj_sub [(0, jR 79)] ⟨rfl, trivial⟩ ?_
    exact t_J_X12_village_139 c M hst hc hF
  · -- 105
    replace hF := gj_iff c102 hF
    refine gj_aload_n (q := 106) (gj_dk okX12_village 54 rfl) rfl rfl ?_
    refine gj_gR (q := 109) (j := 20) (gj_dk okX12_village 55 rfl) ff_X12_77 (sh79 hst) (by decide) rfl (rf79_20 hst) rfl ?_
    refine gj_iload_n (q := 110) (gj_dk okX12_village 56 rfl) rfl rfl ?_
    refine gj_iconst (q := 111) (gj_dk okX12_village 57 rfl) (by decide) rfl ?_
    obtain ⟨b26, hF⟩ := gj_ckd hF
    refine gj_iast (q := 112) (gj_dk okX12_village 58 rfl) (sh108 hst) b26.1 b26.2 rfl ?_
    refine gj_stp hF (fun M27 hF => ?_)
    refine gj_aload_n (q := 113) (gj_dk okX12_village 59 rfl) rfl rfl ?_
    refine gj_gR (q := 116) (j := 21) (gj_dk okX12_village 60 rfl) ff_X12_80 (sh79 hst) (by decide) rfl (rf79_21 hst) rfl ?_
    refine gj_iload_n (q := 117) (gj_dk okX12_village 61 rfl) rfl rfl ?_
    refine gj_iconst (q := 118) (gj_dk okX12_village 62 rfl) (by decide) rfl ?_
    obtain ⟨b28, hF⟩ := gj_ckd hF
    refine gj_iast (q := 119) (gj_dk okX12_village 63 rfl) (sh109 hst) b28.1 b28.2 rfl ?_
    refine gj_stp hF (fun M29 hF => ?_)
    refine gj_aload_n (q := 120) (gj_dk okX12_village 64 rfl) rfl rfl ?_
    refine gj_gR (q := 123) (j := 22) (gj_dk okX12_village 65 rfl) ff_X12_83 (sh79 hst) (by decide) rfl (rf79_22 hst) rfl ?_
    refine gj_iload_n (q := 124) (gj_dk okX12_village 66 rfl) rfl rfl ?_
    refine gj_iconst (q := 125) (gj_dk okX12_village 67 rfl) (by decide) rfl ?_
    obtain ⟨b30, hF⟩ := gj_ckd hF
    refine gj_iast (q := 126) (gj_dk okX12_village 68 rfl) (sh110 hst) b30.1 b30.2 rfl ?_
    refine gj_stp hF (fun M31 hF => ?_)
    refine gj_aload_n (q := 127) (gj_dk okX12_village 69 rfl) rfl rfl ?_
    refine gj_gR (q := 130) (j := 23) (gj_dk okX12_village 70 rfl) ff_X12_86 (sh79 hst) (by decide) rfl (rf79_23 hst) rfl ?_
    refine gj_iload_n (q := 131) (gj_dk okX12_village 71 rfl) rfl rfl ?_
    refine gj_iconst (q := 132) (gj_dk okX12_village 72 rfl) (by decide) rfl ?_
    obtain ⟨b32, hF⟩ := gj_ckd hF
    refine gj_iast (q := 133) (gj_dk okX12_village 73 rfl) (sh111 hst) b32.1 b32.2 rfl ?_
    refine gj_stp hF (fun M33 hF => ?_)
    refine gj_iinc (q := 136) (v := gj_w (l1 + 1)) (gj_dk okX12_village 74 rfl) rfl (by decide) rfl rfl ?_
    refine gj_goto (tgt := 99) (gj_dk okX12_village 75 rfl) (by decide) ?_
    refine gj_sub [(0, jR 79), (1, jI (gj_w (l1 + 1)))] ⟨rfl, rfl, trivial⟩ ?_
    exact hrec99 (gj_w (l1 + 1)) c M33 hst hc hF
theorem t_L_X12_village_99 {r : Int × (Int × gj_M)} : ∀ (m : Nat), ∀ {S : gj_S} (l1 : Int) (c : Int) (M : gj_M), gj_Stat S → S.1 = c → gj_it (fun _ _ _ => none) (B_X12_village_99) m l1 c M = some r → gj_W G l 11 1 8 yX12_village cX12_village 2 (some .int) (gj_qI fun x S' M' => r.1 = x ∧ gj_Stat S' ∧ S'.1 = r.2.1 ∧ r.2.2 = M') 1 8 99 [(0, jR 79), (1, jI l1)] [] S M := by
  intro m
  induction m with
  | zero => intro S l1 c M hst hc hF; cases (show (none : Option (Int × (Int × gj_M))) = some r from hF)
  | succ m ih => intro S l1 c M hst hc hF; exact t_B_X12_village_99 (fun l1 c M hst hc h => ih l1 c M hst hc h) l1 c M hst hc hF
set_option maxHeartbeats 4000000 in
set_option maxRecDepth 20000 in
theorem t_X12_village {S : gj_S} (hst : gj_Stat S) {c : Int} (hc : S.1 = c) {r : Int × (Int × gj_M)} (hF : F_X12_village c M = some r) : gj_C G l 11 1 8 yX12_village cX12_village 2 (some .int) [jR 79] S M (gj_qI fun x S' M' => r.1 = x ∧ gj_Stat S' ∧ S'.1 = r.2.1 ∧ r.2.2 = M') := by
  refine gj_Cof (by decide +kernel) (Nat.le_of_ble_eq_true rfl) ?_
  change gj_W G l 11 1 8 yX12_village cX12_village 2 (some .int) (gj_qI fun x S' M' => r.1 = x ∧ gj_Stat S' ∧ S'.1 = r.2.1 ∧ r.2.2 = M') 0 0 0 [(0, jR 79)] [] S M
  unfold F_X12_village at hF
  refine gj_aload_n (q := 1) (gj_dk okX12_village 0 rfl) rfl rfl ?_
  obtain ⟨k3, M2, hG, hF⟩ := gj_bnd2d hF
  refine gj_callV (q := 4) (z := 79) (ci := 10) [] rfl (t_X12_reads hst hc  hG) (gj_dk okX12_village 1 rfl) ml_X12_253 me_X12_reads (sh79 hst) rfl ⟨by omega, Nat.le_of_ble_eq_true rfl, rfl, Nat.le_of_ble_eq_true rfl, by omega, by omega⟩ rfl (gj_kV fun S2 M2 h => ?_)
  obtain ⟨hst2, hc2, eM⟩ := h; subst eM; dsimp only at hc2; clear hst; clear hc; have hst := hst2; have hc := hc2; clear hst2; clear hc2
  refine gj_aload_n (q := 5) (gj_dk okX12_village 2 rfl) rfl rfl ?_
  refine gj_gI (q := 8) (j := 5) (gj_dk okX12_village 3 rfl) ff_X12_187 (sh79 hst) (by decide) rfl rfl ?_
  refine gj_iconst (q := 9) (gj_dk okX12_village 4 rfl) (by decide) rfl ?_
  refine gj_icmp_eq (q := 12) (tgt := 18) (gj_dk okX12_village 5 rfl) (by decide) rfl (fun c9 => ?_) (fun c9 => ?_)
  · -- 18
    replace hF := gj_ift c9 hF
    refine gj_aload_n (q := 19) (gj_dk okX12_village 10 rfl) rfl rfl ?_
    refine gj_gR (q := 22) (j := 7) (gj_dk okX12_village 11 rfl) ff_X12_19 (sh79 hst) (by decide) rfl (rf79_7 hst) rfl ?_
    obtain ⟨M5, hG, hF⟩ := gj_bndd hF
    refine gj_callS (q := 25) [jR 82] rfl (t_X12_copies_82 hst  hG) (gj_dk okX12_village 12 rfl) ml_X12_256 me_X12_copies ⟨by omega, Nat.le_of_ble_eq_true rfl, rfl, Nat.le_of_ble_eq_true rfl, by omega, by omega⟩ rfl (gj_kV fun S2 M2 h => ?_)
    obtain ⟨eS, eM⟩ := h; subst eS; subst eM; clear hG
    refine gj_aload_n (q := 26) (gj_dk okX12_village 13 rfl) rfl rfl ?_
    refine gj_gR (q := 29) (j := 8) (gj_dk okX12_village 14 rfl) ff_X12_22 (sh79 hst) (by decide) rfl (rf79_8 hst) rfl ?_
    obtain ⟨M7, hG, hF⟩ := gj_bndd hF
    refine gj_callS (q := 32) [jR 85] rfl (t_X12_copies_85 hst  hG) (gj_dk okX12_village 15 rfl) ml_X12_256 me_X12_copies ⟨by omega, Nat.le_of_ble_eq_true rfl, rfl, Nat.le_of_ble_eq_true rfl, by omega, by omega⟩ rfl (gj_kV fun S2 M2 h => ?_)
    obtain ⟨eS, eM⟩ := h; subst eS; subst eM; clear hG
    refine gj_aload_n (q := 33) (gj_dk okX12_village 16 rfl) rfl rfl ?_
    refine gj_gR (q := 36) (j := 9) (gj_dk okX12_village 17 rfl) ff_X12_25 (sh79 hst) (by decide) rfl (rf79_9 hst) rfl ?_
    obtain ⟨M9, hG, hF⟩ := gj_bndd hF
    refine gj_callS (q := 39) [jR 88] rfl (t_X12_copies_88 hst  hG) (gj_dk okX12_village 18 rfl) ml_X12_256 me_X12_copies ⟨by omega, Nat.le_of_ble_eq_true rfl, rfl, Nat.le_of_ble_eq_true rfl, by omega, by omega⟩ rfl (gj_kV fun S2 M2 h => ?_)
    obtain ⟨eS, eM⟩ := h; subst eS; subst eM; clear hG
    refine gj_aload_n (q := 40) (gj_dk okX12_village 19 rfl) rfl rfl ?_
    refine gj_gR (q := 43) (j := 10) (gj_dk okX12_village 20 rfl) ff_X12_28 (sh79 hst) (by decide) rfl (rf79_10 hst) rfl ?_
    obtain ⟨M11, hG, hF⟩ := gj_bndd hF
    refine gj_callS (q := 46) [jR 91] rfl (t_X12_copies_91 hst  hG) (gj_dk okX12_village 21 rfl) ml_X12_256 me_X12_copies ⟨by omega, Nat.le_of_ble_eq_true rfl, rfl, Nat.le_of_ble_eq_true rfl, by omega, by omega⟩ rfl (gj_kV fun S2 M2 h => ?_)
    obtain ⟨eS, eM⟩ := h; subst eS; subst eM; clear hG
    refine gj_aload_n (q := 47) (gj_dk okX12_village 22 rfl) rfl rfl ?_
    refine gj_gR (q := 50) (j := 11) (gj_dk okX12_village 23 rfl) ff_X12_31 (sh79 hst) (by decide) rfl (rf79_11 hst) rfl ?_
    obtain ⟨M13, hG, hF⟩ := gj_bndd hF
    refine gj_callS (q := 53) [jR 94] rfl (t_X12_copies_94 hst  hG) (gj_dk okX12_village 24 rfl) ml_X12_256 me_X12_copies ⟨by omega, Nat.le_of_ble_eq_true rfl, rfl, Nat.le_of_ble_eq_true rfl, by omega, by omega⟩ rfl (gj_kV fun S2 M2 h => ?_)
    obtain ⟨eS, eM⟩ := h; subst eS; subst eM; clear hG
    refine gj_aload_n (q := 54) (gj_dk okX12_village 25 rfl) rfl rfl ?_
    refine gj_gR (q := 57) (j := 12) (gj_dk okX12_village 26 rfl) ff_X12_34 (sh79 hst) (by decide) rfl (rf79_12 hst) rfl ?_
    obtain ⟨M15, hG, hF⟩ := gj_bndd hF
    refine gj_callS (q := 60) [jR 97] rfl (t_X12_copies_97 hst  hG) (gj_dk okX12_village 27 rfl) ml_X12_256 me_X12_copies ⟨by omega, Nat.le_of_ble_eq_true rfl, rfl, Nat.le_of_ble_eq_true rfl, by omega, by omega⟩ rfl (gj_kV fun S2 M2 h => ?_)
    obtain ⟨eS, eM⟩ := h; subst eS; subst eM; clear hG
    refine gj_aload_n (q := 61) (gj_dk okX12_village 28 rfl) rfl rfl ?_
    refine gj_gR (q := 64) (j := 13) (gj_dk okX12_village 29 rfl) ff_X12_37 (sh79 hst) (by decide) rfl (rf79_13 hst) rfl ?_
    obtain ⟨M17, hG, hF⟩ := gj_bndd hF
    refine gj_callS (q := 67) [jR 100] rfl (t_X12_copies_100 hst  hG) (gj_dk okX12_village 30 rfl) ml_X12_256 me_X12_copies ⟨by omega, Nat.le_of_ble_eq_true rfl, rfl, Nat.le_of_ble_eq_true rfl, by omega, by omega⟩ rfl (gj_kV fun S2 M2 h => ?_)
    obtain ⟨eS, eM⟩ := h; subst eS; subst eM; clear hG
    refine gj_aload_n (q := 68) (gj_dk okX12_village 31 rfl) rfl rfl ?_
    refine gj_iconst (q := 69) (gj_dk okX12_village 32 rfl) (by decide) rfl ?_
    refine gj_pfI (q := 72) (j := 2) (gj_dk okX12_village 33 rfl) ff_X12_162 (sh79 hst) (by decide) rfl rfl ?_
    refine gj_stp hF (fun M18 hF => ?_)
    refine gj_aload_n (q := 73) (gj_dk okX12_village 34 rfl) rfl rfl ?_
    refine gj_iconst (q := 74) (gj_dk okX12_village 35 rfl) (by decide) rfl ?_
    refine gj_pfZ (q := 77) (j := 18) (gj_dk okX12_village 36 rfl) ff_X12_260 (sh79 hst) (by decide) (by decide) rfl rfl ?_
    refine gj_stp hF (fun M19 hF => ?_)
    refine gj_aload_n (q := 78) (gj_dk okX12_village 37 rfl) rfl rfl ?_
    refine gj_iconst (q := 79) (gj_dk okX12_village 38 rfl) (by decide) rfl ?_
    refine gj_pfI (q := 82) (j := 27) (gj_dk okX12_village 39 rfl) ff_X12_264 (sh79 hst) (by decide) rfl rfl ?_
    refine gj_stp hF (fun M20 hF => ?_)
    refine gj_aload_n (q := 83) (gj_dk okX12_village 40 rfl) rfl rfl ?_
    refine gj_iconst (q := 84) (gj_dk okX12_village 41 rfl) (by decide) rfl ?_
    refine gj_pfI (q := 87) (j := 28) (gj_dk okX12_village 42 rfl) ff_X12_267 (sh79 hst) (by decide) rfl rfl ?_
    refine gj_stp hF (fun M21 hF => ?_)
    refine gj_aload_n (q := 88) (gj_dk okX12_village 43 rfl) rfl rfl ?_
    refine gj_lconst (q := 89) (z := 0) (gj_dk okX12_village 44 rfl) rfl (by decide) rfl ?_
    refine gj_pfL (q := 92) (j := 30) (gj_dk okX12_village 45 rfl) ff_X12_270 (sh79 hst) (by decide) rfl rfl ?_
    refine gj_stp hF (fun M22 hF => ?_)
    refine gj_aload_n (q := 93) (gj_dk okX12_village 46 rfl) rfl rfl ?_
    refine gj_iconst (q := 94) (gj_dk okX12_village 47 rfl) (by decide) rfl ?_
    refine gj_pfI (q := 97) (j := 29) (gj_dk okX12_village 48 rfl) ff_X12_274 (sh79 hst) (by decide) rfl rfl ?_
    refine gj_stp hF (fun M23 hF => ?_)
    refine gj_iconst (q := 98) (gj_dk okX12_village 49 rfl) (by decide) rfl ?_
    refine gj_istore_n (q := 99) (gj_dk okX12_village 50 rfl) (by decide) rfl ?_
    refine gj_wid (k' := 1) (n' := 8) (by omega) (by omega) (by omega) (by omega) ?_
    refine gj_sub [(0, jR 79), (1, jI 0)] ⟨rfl, rfl, trivial⟩ ?_
    exact t_L_X12_village_99 gj_fu 0 k3 M23 hst hc hF
  · -- 12
    replace hF := gj_iff c9 hF
    refine gj_aload_n (q := 13) (gj_dk okX12_village 6 rfl) rfl rfl ?_
    refine gj_iconst (q := 14) (gj_dk okX12_village 7 rfl) (by decide) rfl ?_
    obtain ⟨x24, M25, hG, hF⟩ := gj_bnd2d hF
    refine gj_callV (q := 17) (z := 79) (ci := 10) [jI 2] rfl (t_X12_refuse hst 2 hG) (gj_dk okX12_village 8 rfl) ml_X12_165 me_X12_refuse (sh79 hst) rfl ⟨by omega, Nat.le_of_ble_eq_true rfl, rfl, Nat.le_of_ble_eq_true rfl, by omega, by omega⟩ rfl (gj_kI fun y S2 M2 h => ?_)
    obtain ⟨e, eS, eM⟩ := h; subst eS; subst eM; subst e; clear hG
    dsimp only
    cases hF
    exact gj_iret (gj_dk okX12_village 9 rfl) rfl ⟨_, rfl, rfl, hst, hc, rfl⟩
def J_X12_who_38 (M : gj_M) (s0 : Int) : Option (Int) :=
  (if M 79 18 = 0 then (some (-1)) else (if s0 = -1 then (some (-1)) else gj_chk (0 ≤ gj_w (Int.tdiv s0 4) ∧ gj_w (Int.tdiv s0 4) < 2) ((if M 101 (gj_w (Int.tdiv s0 4)) ≤ Int.tmod s0 4 then (some (-1)) else (some (s0))))))
def F_X12_who (a1 : Int) (M : gj_M) : Option (Int) :=
  gj_letI (f_X12_in a1 0 3 M) (fun x1 => (if x1 = 0 then gj_letI (f_X12_in a1 10 13 M) (fun x2 => (if x2 = 0 then (J_X12_who_38 M (-1)) else (J_X12_who_38 M (gj_w (a1 - 6))))) else (J_X12_who_38 M a1)))
set_option maxHeartbeats 4000000 in
set_option maxRecDepth 20000 in
theorem t_J_X12_who_38 (hst : gj_Stat S) {r : Int} (s0 : Int) (hF : J_X12_who_38 M s0 = some r) : gj_W G l 2 0 0 yX12_who cX12_who 3 (some .int) (gj_qI fun x S' M' => r = x ∧ S = S' ∧ M = M') 0 0 38 [(0, jR 79)] [jI s0] S M := by
  unfold J_X12_who_38 at hF
  refine gj_istore_n (q := 39) (gj_dk okX12_who 19 rfl) (by decide) rfl ?_
  refine gj_aload_n (q := 40) (gj_dk okX12_who 20 rfl) rfl rfl ?_
  refine gj_gZ (q := 43) (j := 18) (gj_dk okX12_who 21 rfl) ff_X12_260 (sh79 hst) (by decide) rfl rfl ?_
  refine gj_if_eq (q := 46) (tgt := 71) (gj_dk okX12_who 22 rfl) (by decide) rfl (fun c43 => ?_) (fun c43 => ?_)
  · -- 71
    replace hF := gj_ift c43 hF
    refine gj_iconst (q := 72) (gj_dk okX12_who 40 rfl) (by decide) rfl ?_
    cases hF
    exact gj_iret (gj_dk okX12_who 41 rfl) rfl ⟨_, rfl, rfl, rfl, rfl⟩
  · -- 46
    replace hF := gj_iff c43 hF
    refine gj_iload_n (q := 47) (gj_dk okX12_who 23 rfl) rfl rfl ?_
    refine gj_iconst (q := 48) (gj_dk okX12_who 24 rfl) (by decide) rfl ?_
    refine gj_icmp_eq (q := 51) (tgt := 71) (gj_dk okX12_who 25 rfl) (by decide) rfl (fun c48 => ?_) (fun c48 => ?_)
    · -- 71
      replace hF := gj_ift c48 hF
      refine gj_iconst (q := 72) (gj_dk okX12_who 40 rfl) (by decide) rfl ?_
      cases hF
      exact gj_iret (gj_dk okX12_who 41 rfl) rfl ⟨_, rfl, rfl, rfl, rfl⟩
    · -- 51
      replace hF := gj_iff c48 hF
      refine gj_iload_n (q := 52) (gj_dk okX12_who 26 rfl) rfl rfl ?_
      refine gj_iconst (q := 53) (gj_dk okX12_who 27 rfl) (by decide) rfl ?_
      refine gj_irem (q := 54) (gj_dk okX12_who 28 rfl) (by decide) rfl ?_
      refine gj_aload_n (q := 55) (gj_dk okX12_who 29 rfl) rfl rfl ?_
      refine gj_gR (q := 58) (j := 13) (gj_dk okX12_who 30 rfl) ff_X12_37 (sh79 hst) (by decide) rfl (rf79_13 hst) rfl ?_
      refine gj_iconst (q := 59) (gj_dk okX12_who 31 rfl) (by decide) rfl ?_
      refine gj_aald (q := 60) (gj_dk okX12_who 32 rfl) (sh100 hst) (by decide) (by decide) (by decide) (rf100_0 hst) rfl ?_
      refine gj_iload_n (q := 61) (gj_dk okX12_who 33 rfl) rfl rfl ?_
      refine gj_iconst (q := 62) (gj_dk okX12_who 34 rfl) (by decide) rfl ?_
      refine gj_idiv (q := 63) (gj_dk okX12_who 35 rfl) (by decide) rfl ?_
      obtain ⟨b3, hF⟩ := gj_ckd hF
      refine gj_iald (q := 64) (gj_dk okX12_who 36 rfl) (sh101 hst) b3.1 b3.2 rfl ?_
      refine gj_icmp_ge (q := 67) (tgt := 71) (gj_dk okX12_who 37 rfl) (by decide) rfl (fun c64 => ?_) (fun c64 => ?_)
      · -- 71
        replace hF := gj_ift c64 hF
        refine gj_iconst (q := 72) (gj_dk okX12_who 40 rfl) (by decide) rfl ?_
        cases hF
        exact gj_iret (gj_dk okX12_who 41 rfl) rfl ⟨_, rfl, rfl, rfl, rfl⟩
      · -- 67
        replace hF := gj_iff c64 hF
        refine gj_iload_n (q := 68) (gj_dk okX12_who 38 rfl) rfl rfl ?_
        refine gj_goto (tgt := 72) (gj_dk okX12_who 39 rfl) (by decide) ?_
        cases hF
        exact gj_iret (gj_dk okX12_who 41 rfl) rfl ⟨_, rfl, rfl, rfl, rfl⟩
set_option maxHeartbeats 4000000 in
set_option maxRecDepth 20000 in
theorem t_X12_who (hst : gj_Stat S) (a1 : Int) {r : Int} (hF : F_X12_who a1 M = some r) : gj_C G l 2 0 0 yX12_who cX12_who 3 (some .int) [jR 79, jI a1] S M (gj_qI fun x S' M' => r = x ∧ S = S' ∧ M = M') := by
  refine gj_Cof (by decide +kernel) (Nat.le_of_ble_eq_true rfl) ?_
  change gj_W G l 2 0 0 yX12_who cX12_who 3 (some .int) (gj_qI fun x S' M' => r = x ∧ S = S' ∧ M = M') 0 0 0 [(0, jR 79), (1, jI a1)] [] S M
  unfold F_X12_who at hF
  refine gj_iload_n (q := 1) (gj_dk okX12_who 0 rfl) rfl rfl ?_
  refine gj_i2l (q := 2) (gj_dk okX12_who 1 rfl) rfl ?_
  refine gj_lconst (q := 3) (z := 0) (gj_dk okX12_who 2 rfl) rfl (by decide) rfl ?_
  refine gj_ldc2 (q := 6) (z := 3) (gj_dk okX12_who 3 rfl) kl_X12_236 (by decide) rfl ?_
  refine gj_callS (q := 9) [jL a1, jL 0, jL 3] rfl (t_X12_in hst a1 0 3 rfl) (gj_dk okX12_who 4 rfl) ml_X12_158 me_X12_in (gj_nm rfl) rfl (gj_kI fun x S2 M2 h => ?_)
  obtain ⟨bz, e, eS, eM⟩ := h; subst eS; subst eM; subst e
  refine gj_stpZ bz hF (fun x1 bx1 hF => ?_)
  refine gj_if_eq (q := 12) (tgt := 16) (gj_dk okX12_who 5 rfl) (by decide) rfl (fun c9 => ?_) (fun c9 => ?_)
  · -- 16
    replace hF := gj_ift c9 hF
    refine gj_iload_n (q := 17) (gj_dk okX12_who 8 rfl) rfl rfl ?_
    refine gj_i2l (q := 18) (gj_dk okX12_who 9 rfl) rfl ?_
    refine gj_ldc2 (q := 21) (z := 10) (gj_dk okX12_who 10 rfl) kl_X12_277 (by decide) rfl ?_
    refine gj_ldc2 (q := 24) (z := 13) (gj_dk okX12_who 11 rfl) kl_X12_279 (by decide) rfl ?_
    refine gj_callS (q := 27) [jL a1, jL 10, jL 13] rfl (t_X12_in hst a1 10 13 rfl) (gj_dk okX12_who 12 rfl) ml_X12_158 me_X12_in (gj_nm rfl) rfl (gj_kI fun x S2 M2 h => ?_)
    obtain ⟨bz, e, eS, eM⟩ := h; subst eS; subst eM; subst e
    refine gj_stpZ bz hF (fun x2 bx2 hF => ?_)
    refine gj_if_eq (q := 30) (tgt := 37) (gj_dk okX12_who 13 rfl) (by decide) rfl (fun c27 => ?_) (fun c27 => ?_)
    · -- 37
      replace hF := gj_ift c27 hF
      refine gj_iconst (q := 38) (gj_dk okX12_who 18 rfl) (by decide) rfl ?_
      refine gj_sub [(0, jR 79)] ⟨rfl, trivial⟩ ?_
      exact t_J_X12_who_38 hst (-1) hF
    · -- 30
      replace hF := gj_iff c27 hF
      refine gj_iload_n (q := 31) (gj_dk okX12_who 14 rfl) rfl rfl ?_
      refine gj_bipush (q := 33) (gj_dk okX12_who 15 rfl) (by decide) rfl rfl ?_
      refine gj_isub (q := 34) (gj_dk okX12_who 16 rfl) rfl ?_
      refine gj_goto (tgt := 38) (gj_dk okX12_who 17 rfl) (by decide) ?_
      refine gj_sub [(0, jR 79)] ⟨rfl, trivial⟩ ?_
      exact t_J_X12_who_38 hst (gj_w (a1 - 6)) hF
  · -- 12
    replace hF := gj_iff c9 hF
    refine gj_iload_n (q := 13) (gj_dk okX12_who 6 rfl) rfl rfl ?_
    refine gj_goto (tgt := 38) (gj_dk okX12_who 7 rfl) (by decide) ?_
    refine gj_sub [(0, jR 79)] ⟨rfl, trivial⟩ ?_
    exact t_J_X12_who_38 hst a1 hF
def f_X12_told (a1 : Int) (M : gj_M) : Int :=
  (if 4 ≤ a1 then (gj_w (a1 + 6)) else (a1))
set_option maxHeartbeats 4000000 in
set_option maxRecDepth 20000 in
theorem t_X12_told (hst : gj_Stat S) (a1 : Int) {r : Int} (hF : f_X12_told a1 M = r) : gj_C G l 1 0 0 yX12_told cX12_told 1 (some .int) [jI a1] S M (gj_qI fun x S' M' => r = x ∧ S = S' ∧ M = M') := by
  refine gj_Cof (by decide +kernel) (Nat.le_of_ble_eq_true rfl) ?_
  change gj_W G l 1 0 0 yX12_told cX12_told 1 (some .int) (gj_qI fun x S' M' => r = x ∧ S = S' ∧ M = M') 0 0 0 [(0, jI a1)] [] S M
  unfold f_X12_told at hF
  refine gj_iload_n (q := 1) (gj_dk okX12_told 0 rfl) rfl rfl ?_
  refine gj_iconst (q := 2) (gj_dk okX12_told 1 rfl) (by decide) rfl ?_
  refine gj_icmp_ge (q := 5) (tgt := 9) (gj_dk okX12_told 2 rfl) (by decide) rfl (fun c2 => ?_) (fun c2 => ?_)
  · -- 9
    replace hF := gj_ift c2 hF
    refine gj_iload_n (q := 10) (gj_dk okX12_told 5 rfl) rfl rfl ?_
    refine gj_bipush (q := 12) (gj_dk okX12_told 6 rfl) (by decide) rfl rfl ?_
    refine gj_iadd (q := 13) (gj_dk okX12_told 7 rfl) rfl ?_
    subst hF
    exact gj_iret (gj_dk okX12_told 8 rfl) rfl ⟨_, rfl, rfl, rfl, rfl⟩
  · -- 5
    replace hF := gj_iff c2 hF
    refine gj_iload_n (q := 6) (gj_dk okX12_told 3 rfl) rfl rfl ?_
    refine gj_goto (tgt := 13) (gj_dk okX12_told 4 rfl) (by decide) ?_
    subst hF
    exact gj_iret (gj_dk okX12_told 8 rfl) rfl ⟨_, rfl, rfl, rfl, rfl⟩
def f_X12_two (a1 : Int) (a2 : Int) (M : gj_M) : Int :=
  (if 4 ≤ a1 then (gj_w ((gj_w ((gj_w (4 * a2)) + a1)) - 4)) else (gj_w ((gj_w ((gj_w (4 * a1)) + a2)) - 4)))
set_option maxHeartbeats 4000000 in
set_option maxRecDepth 20000 in
theorem t_X12_two (hst : gj_Stat S) (a1 a2 : Int) {r : Int} (hF : f_X12_two a1 a2 M = r) : gj_C G l 1 0 0 yX12_two cX12_two 2 (some .int) [jI a1, jI a2] S M (gj_qI fun x S' M' => r = x ∧ S = S' ∧ M = M') := by
  refine gj_Cof (by decide +kernel) (Nat.le_of_ble_eq_true rfl) ?_
  change gj_W G l 1 0 0 yX12_two cX12_two 2 (some .int) (gj_qI fun x S' M' => r = x ∧ S = S' ∧ M = M') 0 0 0 [(0, jI a1), (1, jI a2)] [] S M
  unfold f_X12_two at hF
  refine gj_iload_n (q := 1) (gj_dk okX12_two 0 rfl) rfl rfl ?_
  refine gj_iconst (q := 2) (gj_dk okX12_two 1 rfl) (by decide) rfl ?_
  refine gj_icmp_ge (q := 5) (tgt := 15) (gj_dk okX12_two 2 rfl) (by decide) rfl (fun c2 => ?_) (fun c2 => ?_)
  · -- 15
    replace hF := gj_ift c2 hF
    refine gj_iconst (q := 16) (gj_dk okX12_two 11 rfl) (by decide) rfl ?_
    refine gj_iload_n (q := 17) (gj_dk okX12_two 12 rfl) rfl rfl ?_
    refine gj_imul (q := 18) (gj_dk okX12_two 13 rfl) rfl ?_
    refine gj_iload_n (q := 19) (gj_dk okX12_two 14 rfl) rfl rfl ?_
    refine gj_iadd (q := 20) (gj_dk okX12_two 15 rfl) rfl ?_
    refine gj_iconst (q := 21) (gj_dk okX12_two 16 rfl) (by decide) rfl ?_
    refine gj_isub (q := 22) (gj_dk okX12_two 17 rfl) rfl ?_
    subst hF
    exact gj_iret (gj_dk okX12_two 18 rfl) rfl ⟨_, rfl, rfl, rfl, rfl⟩
  · -- 5
    replace hF := gj_iff c2 hF
    refine gj_iconst (q := 6) (gj_dk okX12_two 3 rfl) (by decide) rfl ?_
    refine gj_iload_n (q := 7) (gj_dk okX12_two 4 rfl) rfl rfl ?_
    refine gj_imul (q := 8) (gj_dk okX12_two 5 rfl) rfl ?_
    refine gj_iload_n (q := 9) (gj_dk okX12_two 6 rfl) rfl rfl ?_
    refine gj_iadd (q := 10) (gj_dk okX12_two 7 rfl) rfl ?_
    refine gj_iconst (q := 11) (gj_dk okX12_two 8 rfl) (by decide) rfl ?_
    refine gj_isub (q := 12) (gj_dk okX12_two 9 rfl) rfl ?_
    refine gj_goto (tgt := 22) (gj_dk okX12_two 10 rfl) (by decide) ?_
    subst hF
    exact gj_iret (gj_dk okX12_two 18 rfl) rfl ⟨_, rfl, rfl, rfl, rfl⟩
def f_X12_areTwo (a1 : Int) (a2 : Int) (M : gj_M) : Int :=
  (if a1 = -1 then (0) else (if a2 = -1 then (0) else (if gj_w (Int.tdiv a1 4) = gj_w (Int.tdiv a2 4) then (0) else (1))))
set_option maxHeartbeats 4000000 in
set_option maxRecDepth 20000 in
theorem t_X12_areTwo (hst : gj_Stat S) (a1 a2 : Int) {r : Int} (hF : f_X12_areTwo a1 a2 M = r) : gj_C G l 1 0 0 yX12_areTwo cX12_areTwo 2 (some .boolean) [jI a1, jI a2] S M (gj_qI fun x S' M' => (x = 0 ∨ x = 1) ∧ r = x ∧ S = S' ∧ M = M') := by
  refine gj_Cof (by decide +kernel) (Nat.le_of_ble_eq_true rfl) ?_
  change gj_W G l 1 0 0 yX12_areTwo cX12_areTwo 2 (some .boolean) (gj_qI fun x S' M' => (x = 0 ∨ x = 1) ∧ r = x ∧ S = S' ∧ M = M') 0 0 0 [(0, jI a1), (1, jI a2)] [] S M
  unfold f_X12_areTwo at hF
  refine gj_iload_n (q := 1) (gj_dk okX12_areTwo 0 rfl) rfl rfl ?_
  refine gj_iconst (q := 2) (gj_dk okX12_areTwo 1 rfl) (by decide) rfl ?_
  refine gj_icmp_eq (q := 5) (tgt := 23) (gj_dk okX12_areTwo 2 rfl) (by decide) rfl (fun c2 => ?_) (fun c2 => ?_)
  · -- 23
    replace hF := gj_ift c2 hF
    refine gj_iconst (q := 24) (gj_dk okX12_areTwo 15 rfl) (by decide) rfl ?_
    subst hF
    exact gj_zret (gj_dk okX12_areTwo 16 rfl) rfl (by decide) ⟨_, rfl, (by decide), rfl, rfl, rfl⟩
  · -- 5
    replace hF := gj_iff c2 hF
    refine gj_iload_n (q := 6) (gj_dk okX12_areTwo 3 rfl) rfl rfl ?_
    refine gj_iconst (q := 7) (gj_dk okX12_areTwo 4 rfl) (by decide) rfl ?_
    refine gj_icmp_eq (q := 10) (tgt := 23) (gj_dk okX12_areTwo 5 rfl) (by decide) rfl (fun c7 => ?_) (fun c7 => ?_)
    · -- 23
      replace hF := gj_ift c7 hF
      refine gj_iconst (q := 24) (gj_dk okX12_areTwo 15 rfl) (by decide) rfl ?_
      subst hF
      exact gj_zret (gj_dk okX12_areTwo 16 rfl) rfl (by decide) ⟨_, rfl, (by decide), rfl, rfl, rfl⟩
    · -- 10
      replace hF := gj_iff c7 hF
      refine gj_iload_n (q := 11) (gj_dk okX12_areTwo 6 rfl) rfl rfl ?_
      refine gj_iconst (q := 12) (gj_dk okX12_areTwo 7 rfl) (by decide) rfl ?_
      refine gj_idiv (q := 13) (gj_dk okX12_areTwo 8 rfl) (by decide) rfl ?_
      refine gj_iload_n (q := 14) (gj_dk okX12_areTwo 9 rfl) rfl rfl ?_
      refine gj_iconst (q := 15) (gj_dk okX12_areTwo 10 rfl) (by decide) rfl ?_
      refine gj_idiv (q := 16) (gj_dk okX12_areTwo 11 rfl) (by decide) rfl ?_
      refine gj_icmp_eq (q := 19) (tgt := 23) (gj_dk okX12_areTwo 12 rfl) (by decide) rfl (fun c16 => ?_) (fun c16 => ?_)
      · -- 23
        replace hF := gj_ift c16 hF
        refine gj_iconst (q := 24) (gj_dk okX12_areTwo 15 rfl) (by decide) rfl ?_
        subst hF
        exact gj_zret (gj_dk okX12_areTwo 16 rfl) rfl (by decide) ⟨_, rfl, (by decide), rfl, rfl, rfl⟩
      · -- 19
        replace hF := gj_iff c16 hF
        refine gj_iconst (q := 20) (gj_dk okX12_areTwo 13 rfl) (by decide) rfl ?_
        refine gj_goto (tgt := 24) (gj_dk okX12_areTwo 14 rfl) (by decide) ?_
        subst hF
        exact gj_zret (gj_dk okX12_areTwo 16 rfl) rfl (by decide) ⟨_, rfl, (by decide), rfl, rfl, rfl⟩
def F_X12_person (a1 : Int) (a2 : Int) (M : gj_M) : Option (Int) :=
  gj_bnd (F_X12_who a1 M) (fun x1 => (if x1 = -1 then (some (-2147483648)) else (if a2 = 0 then gj_chk (0 ≤ x1 ∧ x1 < 8) ((some (M 83 x1))) else (if a2 = 1 then gj_chk (0 ≤ x1 ∧ x1 < 8) ((if M 108 x1 = -1 then (some (-1)) else gj_chk (0 ≤ x1 ∧ x1 < 8) (gj_letI (f_X12_told (M 108 x1) M) (fun x6 => (some (x6)))))) else (if a2 = 2 then gj_chk (0 ≤ x1 ∧ x1 < 8) ((if M 108 x1 = -1 then (some (0)) else gj_chk (0 ≤ x1 ∧ x1 < 8) ((some (M 109 x1))))) else (some (-2147483648)))))))
set_option maxHeartbeats 4000000 in
set_option maxRecDepth 20000 in
theorem t_X12_person (hst : gj_Stat S) (a1 a2 : Int) {r : Int} (hF : F_X12_person a1 a2 M = some r) : gj_C G l 3 0 0 yX12_person cX12_person 4 (some .int) [jR 79, jI a1, jI a2] S M (gj_qI fun x S' M' => r = x ∧ S = S' ∧ M = M') := by
  refine gj_Cof (by decide +kernel) (Nat.le_of_ble_eq_true rfl) ?_
  change gj_W G l 3 0 0 yX12_person cX12_person 4 (some .int) (gj_qI fun x S' M' => r = x ∧ S = S' ∧ M = M') 0 0 0 [(0, jR 79), (1, jI a1), (2, jI a2)] [] S M
  unfold F_X12_person at hF
  refine gj_aload_n (q := 1) (gj_dk okX12_person 0 rfl) rfl rfl ?_
  refine gj_iload_n (q := 2) (gj_dk okX12_person 1 rfl) rfl rfl ?_
  obtain ⟨x1, hG, hF⟩ := gj_bndd hF
  refine gj_callV (q := 5) (z := 79) (ci := 10) [jI a1] rfl (t_X12_who hst a1 hG) (gj_dk okX12_person 2 rfl) ml_X12_281 me_X12_who (sh79 hst) rfl (gj_nm rfl) rfl (gj_kI fun y S2 M2 h => ?_)
  obtain ⟨e, eS, eM⟩ := h; subst eS; subst eM; subst e; clear hG
  refine gj_istore_n (q := 6) (gj_dk okX12_person 3 rfl) (by decide) rfl ?_
  refine gj_iload_n (q := 7) (gj_dk okX12_person 4 rfl) rfl rfl ?_
  refine gj_iconst (q := 8) (gj_dk okX12_person 5 rfl) (by decide) rfl ?_
  refine gj_icmp_ne (q := 11) (tgt := 15) (gj_dk okX12_person 6 rfl) (by decide) rfl (fun c8 => ?_) (fun c8 => ?_)
  · -- 15
    replace hF := gj_iff c8 hF
    refine gj_iload_n (q := 16) (gj_dk okX12_person 9 rfl) rfl rfl ?_
    by_cases c16_0 : a2 = 0
    · refine gj_tabIn (tgt := 44) (off := 28) 0 (gj_dk okX12_person 10 rfl) c16_0 ⟨by decide, by decide, rfl⟩ (by decide) ?_
      replace hF := gj_ift c16_0 hF
      refine gj_aload_n (q := 45) (gj_dk okX12_person 11 rfl) rfl rfl ?_
      refine gj_gR (q := 48) (j := 7) (gj_dk okX12_person 12 rfl) ff_X12_19 (sh79 hst) (by decide) rfl (rf79_7 hst) rfl ?_
      refine gj_iconst (q := 49) (gj_dk okX12_person 13 rfl) (by decide) rfl ?_
      refine gj_aald (q := 50) (gj_dk okX12_person 14 rfl) (sh82 hst) (by decide) (by decide) (by decide) (rf82_0 hst) rfl ?_
      refine gj_iload_n (q := 51) (gj_dk okX12_person 15 rfl) rfl rfl ?_
      obtain ⟨b3, hF⟩ := gj_ckd hF
      refine gj_iald (q := 52) (gj_dk okX12_person 16 rfl) (sh83 hst) b3.1 b3.2 rfl ?_
      cases hF
      exact gj_iret (gj_dk okX12_person 17 rfl) rfl ⟨_, rfl, rfl, rfl, rfl⟩
    replace hF := gj_iff c16_0 hF
    by_cases c16_1 : a2 = 1
    · refine gj_tabIn (tgt := 53) (off := 37) 1 (gj_dk okX12_person 10 rfl) c16_1 ⟨by decide, by decide, rfl⟩ (by decide) ?_
      replace hF := gj_ift c16_1 hF
      refine gj_aload_n (q := 54) (gj_dk okX12_person 18 rfl) rfl rfl ?_
      refine gj_gR (q := 57) (j := 20) (gj_dk okX12_person 19 rfl) ff_X12_77 (sh79 hst) (by decide) rfl (rf79_20 hst) rfl ?_
      refine gj_iload_n (q := 58) (gj_dk okX12_person 20 rfl) rfl rfl ?_
      obtain ⟨b4, hF⟩ := gj_ckd hF
      refine gj_iald (q := 59) (gj_dk okX12_person 21 rfl) (sh108 hst) b4.1 b4.2 rfl ?_
      refine gj_iconst (q := 60) (gj_dk okX12_person 22 rfl) (by decide) rfl ?_
      refine gj_icmp_ne (q := 63) (tgt := 67) (gj_dk okX12_person 23 rfl) (by decide) rfl (fun c60 => ?_) (fun c60 => ?_)
      · -- 67
        replace hF := gj_iff c60 hF
        refine gj_aload_n (q := 68) (gj_dk okX12_person 26 rfl) rfl rfl ?_
        refine gj_gR (q := 71) (j := 20) (gj_dk okX12_person 27 rfl) ff_X12_77 (sh79 hst) (by decide) rfl (rf79_20 hst) rfl ?_
        refine gj_iload_n (q := 72) (gj_dk okX12_person 28 rfl) rfl rfl ?_
        obtain ⟨b5, hF⟩ := gj_ckd hF
        refine gj_iald (q := 73) (gj_dk okX12_person 29 rfl) (sh108 hst) b5.1 b5.2 rfl ?_
        refine gj_callS (q := 76) [jI (M 108 x1)] rfl (t_X12_told hst (M 108 x1) rfl) (gj_dk okX12_person 30 rfl) ml_X12_285 me_X12_told (gj_nm rfl) rfl (gj_kI fun x S2 M2 h => ?_)
        obtain ⟨e, eS, eM⟩ := h; subst eS; subst eM; subst e
        refine gj_stpI hF (fun x6 hF => ?_)
        cases hF
        exact gj_iret (gj_dk okX12_person 31 rfl) rfl ⟨_, rfl, rfl, rfl, rfl⟩
      · -- 63
        replace hF := gj_ift c60 hF
        refine gj_iconst (q := 64) (gj_dk okX12_person 24 rfl) (by decide) rfl ?_
        refine gj_goto (tgt := 76) (gj_dk okX12_person 25 rfl) (by decide) ?_
        cases hF
        exact gj_iret (gj_dk okX12_person 31 rfl) rfl ⟨_, rfl, rfl, rfl, rfl⟩
    replace hF := gj_iff c16_1 hF
    by_cases c16_2 : a2 = 2
    · refine gj_tabIn (tgt := 77) (off := 61) 2 (gj_dk okX12_person 10 rfl) c16_2 ⟨by decide, by decide, rfl⟩ (by decide) ?_
      replace hF := gj_ift c16_2 hF
      refine gj_aload_n (q := 78) (gj_dk okX12_person 32 rfl) rfl rfl ?_
      refine gj_gR (q := 81) (j := 20) (gj_dk okX12_person 33 rfl) ff_X12_77 (sh79 hst) (by decide) rfl (rf79_20 hst) rfl ?_
      refine gj_iload_n (q := 82) (gj_dk okX12_person 34 rfl) rfl rfl ?_
      obtain ⟨b7, hF⟩ := gj_ckd hF
      refine gj_iald (q := 83) (gj_dk okX12_person 35 rfl) (sh108 hst) b7.1 b7.2 rfl ?_
      refine gj_iconst (q := 84) (gj_dk okX12_person 36 rfl) (by decide) rfl ?_
      refine gj_icmp_ne (q := 87) (tgt := 91) (gj_dk okX12_person 37 rfl) (by decide) rfl (fun c84 => ?_) (fun c84 => ?_)
      · -- 91
        replace hF := gj_iff c84 hF
        refine gj_aload_n (q := 92) (gj_dk okX12_person 40 rfl) rfl rfl ?_
        refine gj_gR (q := 95) (j := 21) (gj_dk okX12_person 41 rfl) ff_X12_80 (sh79 hst) (by decide) rfl (rf79_21 hst) rfl ?_
        refine gj_iload_n (q := 96) (gj_dk okX12_person 42 rfl) rfl rfl ?_
        obtain ⟨b8, hF⟩ := gj_ckd hF
        refine gj_iald (q := 97) (gj_dk okX12_person 43 rfl) (sh109 hst) b8.1 b8.2 rfl ?_
        cases hF
        exact gj_iret (gj_dk okX12_person 44 rfl) rfl ⟨_, rfl, rfl, rfl, rfl⟩
      · -- 87
        replace hF := gj_ift c84 hF
        refine gj_iconst (q := 88) (gj_dk okX12_person 38 rfl) (by decide) rfl ?_
        refine gj_goto (tgt := 97) (gj_dk okX12_person 39 rfl) (by decide) ?_
        cases hF
        exact gj_iret (gj_dk okX12_person 44 rfl) rfl ⟨_, rfl, rfl, rfl, rfl⟩
    replace hF := gj_iff c16_2 hF
    refine gj_tabOut (tgt := 98) (gj_dk okX12_person 10 rfl) (by omega) (by decide) ?_
    refine gj_ldcw (q := 101) (z := -2147483648) (gj_dk okX12_person 45 rfl) kc_X12_284 (by decide) rfl ?_
    cases hF
    exact gj_iret (gj_dk okX12_person 46 rfl) rfl ⟨_, rfl, rfl, rfl, rfl⟩
  · -- 11
    replace hF := gj_ift c8 hF
    refine gj_ldcw (q := 14) (z := -2147483648) (gj_dk okX12_person 7 rfl) kc_X12_284 (by decide) rfl ?_
    cases hF
    exact gj_iret (gj_dk okX12_person 8 rfl) rfl ⟨_, rfl, rfl, rfl, rfl⟩
def F_X12_earned (a1 : Int) (M : gj_M) : Option (Int) :=
  gj_bnd (F_X12_who a1 M) (fun x1 => (if x1 = -1 then (some (-2147483648)) else gj_chk (0 ≤ x1 ∧ x1 < 8) ((some (M 111 x1)))))
set_option maxHeartbeats 4000000 in
set_option maxRecDepth 20000 in
theorem t_X12_earned (hst : gj_Stat S) (a1 : Int) {r : Int} (hF : F_X12_earned a1 M = some r) : gj_C G l 3 0 0 yX12_earned cX12_earned 3 (some .int) [jR 79, jI a1] S M (gj_qI fun x S' M' => r = x ∧ S = S' ∧ M = M') := by
  refine gj_Cof (by decide +kernel) (Nat.le_of_ble_eq_true rfl) ?_
  change gj_W G l 3 0 0 yX12_earned cX12_earned 3 (some .int) (gj_qI fun x S' M' => r = x ∧ S = S' ∧ M = M') 0 0 0 [(0, jR 79), (1, jI a1)] [] S M
  unfold F_X12_earned at hF
  refine gj_aload_n (q := 1) (gj_dk okX12_earned 0 rfl) rfl rfl ?_
  refine gj_iload_n (q := 2) (gj_dk okX12_earned 1 rfl) rfl rfl ?_
  obtain ⟨x1, hG, hF⟩ := gj_bndd hF
  refine gj_callV (q := 5) (z := 79) (ci := 10) [jI a1] rfl (t_X12_who hst a1 hG) (gj_dk okX12_earned 2 rfl) ml_X12_281 me_X12_who (sh79 hst) rfl (gj_nm rfl) rfl (gj_kI fun y S2 M2 h => ?_)
  obtain ⟨e, eS, eM⟩ := h; subst eS; subst eM; subst e; clear hG
  refine gj_istore_n (q := 6) (gj_dk okX12_earned 3 rfl) (by decide) rfl ?_
  refine gj_iload_n (q := 7) (gj_dk okX12_earned 4 rfl) rfl rfl ?_
  refine gj_iconst (q := 8) (gj_dk okX12_earned 5 rfl) (by decide) rfl ?_
  refine gj_icmp_ne (q := 11) (tgt := 17) (gj_dk okX12_earned 6 rfl) (by decide) rfl (fun c8 => ?_) (fun c8 => ?_)
  · -- 17
    replace hF := gj_iff c8 hF
    refine gj_aload_n (q := 18) (gj_dk okX12_earned 9 rfl) rfl rfl ?_
    refine gj_gR (q := 21) (j := 23) (gj_dk okX12_earned 10 rfl) ff_X12_86 (sh79 hst) (by decide) rfl (rf79_23 hst) rfl ?_
    refine gj_iload_n (q := 22) (gj_dk okX12_earned 11 rfl) rfl rfl ?_
    obtain ⟨b3, hF⟩ := gj_ckd hF
    refine gj_iald (q := 23) (gj_dk okX12_earned 12 rfl) (sh111 hst) b3.1 b3.2 rfl ?_
    cases hF
    exact gj_iret (gj_dk okX12_earned 13 rfl) rfl ⟨_, rfl, rfl, rfl, rfl⟩
  · -- 11
    replace hF := gj_ift c8 hF
    refine gj_ldcw (q := 14) (z := -2147483648) (gj_dk okX12_earned 7 rfl) kc_X12_284 (by decide) rfl ?_
    refine gj_goto (tgt := 23) (gj_dk okX12_earned 8 rfl) (by decide) ?_
    cases hF
    exact gj_iret (gj_dk okX12_earned 13 rfl) rfl ⟨_, rfl, rfl, rfl, rfl⟩
def F_X12_two_ (a1 : Int) (a2 : Int) (a3 : Int) (M : gj_M) : Option (Int) :=
  gj_bnd (F_X12_who a1 M) (fun x1 => gj_bnd (F_X12_who a2 M) (fun x3 => gj_letI (f_X12_areTwo x1 x3 M) (fun x5 => (if x5 = 0 then (some (-1)) else gj_letI (f_X12_two x1 x3 M) (fun x6 => (if a3 = 0 then gj_chk (0 ≤ x6 ∧ x6 < 16) ((some (M 112 x6))) else (if a3 = 1 then gj_chk (0 ≤ x6 ∧ x6 < 16) ((some (M 113 x6))) else (if a3 = 2 then gj_chk (0 ≤ x6 ∧ x6 < 16) ((some (M 114 x6))) else (if a3 = 3 then gj_chk (0 ≤ x6 ∧ x6 < 16) ((some (M 95 x6))) else (if a3 = 4 then gj_chk (0 ≤ x1 ∧ x1 < 8) ((if M 108 x1 = x3 then gj_chk (0 ≤ x1 ∧ x1 < 8) ((some (M 110 x1))) else (some (0)))) else (some (-1))))))))))))
set_option maxHeartbeats 4000000 in
set_option maxRecDepth 20000 in
theorem t_X12_two_ (hst : gj_Stat S) (a1 a2 a3 : Int) {r : Int} (hF : F_X12_two_ a1 a2 a3 M = some r) : gj_C G l 3 0 0 yX12_two_ cX12_two_ 7 (some .int) [jR 79, jI a1, jI a2, jI a3] S M (gj_qI fun x S' M' => r = x ∧ S = S' ∧ M = M') := by
  refine gj_Cof (by decide +kernel) (Nat.le_of_ble_eq_true rfl) ?_
  change gj_W G l 3 0 0 yX12_two_ cX12_two_ 7 (some .int) (gj_qI fun x S' M' => r = x ∧ S = S' ∧ M = M') 0 0 0 [(0, jR 79), (1, jI a1), (2, jI a2), (3, jI a3)] [] S M
  unfold F_X12_two_ at hF
  refine gj_aload_n (q := 1) (gj_dk okX12_two_ 0 rfl) rfl rfl ?_
  refine gj_iload_n (q := 2) (gj_dk okX12_two_ 1 rfl) rfl rfl ?_
  obtain ⟨x1, hG, hF⟩ := gj_bndd hF
  refine gj_callV (q := 5) (z := 79) (ci := 10) [jI a1] rfl (t_X12_who hst a1 hG) (gj_dk okX12_two_ 2 rfl) ml_X12_281 me_X12_who (sh79 hst) rfl (gj_nm rfl) rfl (gj_kI fun y S2 M2 h => ?_)
  obtain ⟨e, eS, eM⟩ := h; subst eS; subst eM; subst e; clear hG
  refine gj_istore (q := 7) (gj_dk okX12_two_ 3 rfl) (by decide) rfl ?_
  refine gj_aload_n (q := 8) (gj_dk okX12_two_ 4 rfl) rfl rfl ?_
  refine gj_iload_n (q := 9) (gj_dk okX12_two_ 5 rfl) rfl rfl ?_
  obtain ⟨x3, hG, hF⟩ := gj_bndd hF
  refine gj_callV (q := 12) (z := 79) (ci := 10) [jI a2] rfl (t_X12_who hst a2 hG) (gj_dk okX12_two_ 6 rfl) ml_X12_281 me_X12_who (sh79 hst) rfl (gj_nm rfl) rfl (gj_kI fun y S2 M2 h => ?_)
  obtain ⟨e, eS, eM⟩ := h; subst eS; subst eM; subst e; clear hG
  refine gj_istore (q := 14) (gj_dk okX12_two_ 7 rfl) (by decide) rfl ?_
  refine gj_iload (q := 16) (gj_dk okX12_two_ 8 rfl) rfl rfl ?_
  refine gj_iload (q := 18) (gj_dk okX12_two_ 9 rfl) rfl rfl ?_
  refine gj_callS (q := 21) [jI x1, jI x3] rfl (t_X12_areTwo hst x1 x3 rfl) (gj_dk okX12_two_ 10 rfl) ml_X12_288 me_X12_areTwo (gj_nm rfl) rfl (gj_kI fun x S2 M2 h => ?_)
  obtain ⟨bz, e, eS, eM⟩ := h; subst eS; subst eM; subst e
  refine gj_stpZ bz hF (fun x5 bx5 hF => ?_)
  refine gj_if_ne (q := 24) (tgt := 26) (gj_dk okX12_two_ 11 rfl) (by decide) rfl (fun c21 => ?_) (fun c21 => ?_)
  · -- 26
    replace hF := gj_iff c21 hF
    refine gj_iload (q := 28) (gj_dk okX12_two_ 14 rfl) rfl rfl ?_
    refine gj_iload (q := 30) (gj_dk okX12_two_ 15 rfl) rfl rfl ?_
    refine gj_callS (q := 33) [jI x1, jI x3] rfl (t_X12_two hst x1 x3 rfl) (gj_dk okX12_two_ 16 rfl) ml_X12_292 me_X12_two (gj_nm rfl) rfl (gj_kI fun x S2 M2 h => ?_)
    obtain ⟨e, eS, eM⟩ := h; subst eS; subst eM; subst e
    refine gj_stpI hF (fun x6 hF => ?_)
    refine gj_istore (q := 35) (gj_dk okX12_two_ 17 rfl) (by decide) rfl ?_
    refine gj_iload_n (q := 36) (gj_dk okX12_two_ 18 rfl) rfl rfl ?_
    by_cases c36_0 : a3 = 0
    · refine gj_tabIn (tgt := 72) (off := 36) 0 (gj_dk okX12_two_ 19 rfl) c36_0 ⟨by decide, by decide, rfl⟩ (by decide) ?_
      replace hF := gj_ift c36_0 hF
      refine gj_aload_n (q := 73) (gj_dk okX12_two_ 20 rfl) rfl rfl ?_
      refine gj_gR (q := 76) (j := 24) (gj_dk okX12_two_ 21 rfl) ff_X12_89 (sh79 hst) (by decide) rfl (rf79_24 hst) rfl ?_
      refine gj_iload (q := 78) (gj_dk okX12_two_ 22 rfl) rfl rfl ?_
      obtain ⟨b7, hF⟩ := gj_ckd hF
      refine gj_iald (q := 79) (gj_dk okX12_two_ 23 rfl) (sh112 hst) b7.1 b7.2 rfl ?_
      cases hF
      exact gj_iret (gj_dk okX12_two_ 24 rfl) rfl ⟨_, rfl, rfl, rfl, rfl⟩
    replace hF := gj_iff c36_0 hF
    by_cases c36_1 : a3 = 1
    · refine gj_tabIn (tgt := 80) (off := 44) 1 (gj_dk okX12_two_ 19 rfl) c36_1 ⟨by decide, by decide, rfl⟩ (by decide) ?_
      replace hF := gj_ift c36_1 hF
      refine gj_aload_n (q := 81) (gj_dk okX12_two_ 25 rfl) rfl rfl ?_
      refine gj_gR (q := 84) (j := 25) (gj_dk okX12_two_ 26 rfl) ff_X12_92 (sh79 hst) (by decide) rfl (rf79_25 hst) rfl ?_
      refine gj_iload (q := 86) (gj_dk okX12_two_ 27 rfl) rfl rfl ?_
      obtain ⟨b8, hF⟩ := gj_ckd hF
      refine gj_iald (q := 87) (gj_dk okX12_two_ 28 rfl) (sh113 hst) b8.1 b8.2 rfl ?_
      cases hF
      exact gj_iret (gj_dk okX12_two_ 29 rfl) rfl ⟨_, rfl, rfl, rfl, rfl⟩
    replace hF := gj_iff c36_1 hF
    by_cases c36_2 : a3 = 2
    · refine gj_tabIn (tgt := 88) (off := 52) 2 (gj_dk okX12_two_ 19 rfl) c36_2 ⟨by decide, by decide, rfl⟩ (by decide) ?_
      replace hF := gj_ift c36_2 hF
      refine gj_aload_n (q := 89) (gj_dk okX12_two_ 30 rfl) rfl rfl ?_
      refine gj_gR (q := 92) (j := 26) (gj_dk okX12_two_ 31 rfl) ff_X12_95 (sh79 hst) (by decide) rfl (rf79_26 hst) rfl ?_
      refine gj_iload (q := 94) (gj_dk okX12_two_ 32 rfl) rfl rfl ?_
      obtain ⟨b9, hF⟩ := gj_ckd hF
      refine gj_iald (q := 95) (gj_dk okX12_two_ 33 rfl) (sh114 hst) b9.1 b9.2 rfl ?_
      cases hF
      exact gj_iret (gj_dk okX12_two_ 34 rfl) rfl ⟨_, rfl, rfl, rfl, rfl⟩
    replace hF := gj_iff c36_2 hF
    by_cases c36_3 : a3 = 3
    · refine gj_tabIn (tgt := 96) (off := 60) 3 (gj_dk okX12_two_ 19 rfl) c36_3 ⟨by decide, by decide, rfl⟩ (by decide) ?_
      replace hF := gj_ift c36_3 hF
      refine gj_aload_n (q := 97) (gj_dk okX12_two_ 35 rfl) rfl rfl ?_
      refine gj_gR (q := 100) (j := 11) (gj_dk okX12_two_ 36 rfl) ff_X12_31 (sh79 hst) (by decide) rfl (rf79_11 hst) rfl ?_
      refine gj_iconst (q := 101) (gj_dk okX12_two_ 37 rfl) (by decide) rfl ?_
      refine gj_aald (q := 102) (gj_dk okX12_two_ 38 rfl) (sh94 hst) (by decide) (by decide) (by decide) (rf94_0 hst) rfl ?_
      refine gj_iload (q := 104) (gj_dk okX12_two_ 39 rfl) rfl rfl ?_
      obtain ⟨b10, hF⟩ := gj_ckd hF
      refine gj_iald (q := 105) (gj_dk okX12_two_ 40 rfl) (sh95 hst) b10.1 b10.2 rfl ?_
      cases hF
      exact gj_iret (gj_dk okX12_two_ 41 rfl) rfl ⟨_, rfl, rfl, rfl, rfl⟩
    replace hF := gj_iff c36_3 hF
    by_cases c36_4 : a3 = 4
    · refine gj_tabIn (tgt := 106) (off := 70) 4 (gj_dk okX12_two_ 19 rfl) c36_4 ⟨by decide, by decide, rfl⟩ (by decide) ?_
      replace hF := gj_ift c36_4 hF
      refine gj_aload_n (q := 107) (gj_dk okX12_two_ 42 rfl) rfl rfl ?_
      refine gj_gR (q := 110) (j := 20) (gj_dk okX12_two_ 43 rfl) ff_X12_77 (sh79 hst) (by decide) rfl (rf79_20 hst) rfl ?_
      refine gj_iload (q := 112) (gj_dk okX12_two_ 44 rfl) rfl rfl ?_
      obtain ⟨b11, hF⟩ := gj_ckd hF
      refine gj_iald (q := 113) (gj_dk okX12_two_ 45 rfl) (sh108 hst) b11.1 b11.2 rfl ?_
      refine gj_iload (q := 115) (gj_dk okX12_two_ 46 rfl) rfl rfl ?_
      refine gj_icmp_ne (q := 118) (tgt := 128) (gj_dk okX12_two_ 47 rfl) (by decide) rfl (fun c115 => ?_) (fun c115 => ?_)
      · -- 128
        replace hF := gj_iff c115 hF
        refine gj_iconst (q := 129) (gj_dk okX12_two_ 53 rfl) (by decide) rfl ?_
        cases hF
        exact gj_iret (gj_dk okX12_two_ 54 rfl) rfl ⟨_, rfl, rfl, rfl, rfl⟩
      · -- 118
        replace hF := gj_ift c115 hF
        refine gj_aload_n (q := 119) (gj_dk okX12_two_ 48 rfl) rfl rfl ?_
        refine gj_gR (q := 122) (j := 22) (gj_dk okX12_two_ 49 rfl) ff_X12_83 (sh79 hst) (by decide) rfl (rf79_22 hst) rfl ?_
        refine gj_iload (q := 124) (gj_dk okX12_two_ 50 rfl) rfl rfl ?_
        obtain ⟨b12, hF⟩ := gj_ckd hF
        refine gj_iald (q := 125) (gj_dk okX12_two_ 51 rfl) (sh110 hst) b12.1 b12.2 rfl ?_
        refine gj_goto (tgt := 129) (gj_dk okX12_two_ 52 rfl) (by decide) ?_
        cases hF
        exact gj_iret (gj_dk okX12_two_ 54 rfl) rfl ⟨_, rfl, rfl, rfl, rfl⟩
    replace hF := gj_iff c36_4 hF
    refine gj_tabOut (tgt := 130) (gj_dk okX12_two_ 19 rfl) (by omega) (by decide) ?_
    refine gj_iconst (q := 131) (gj_dk okX12_two_ 55 rfl) (by decide) rfl ?_
    cases hF
    exact gj_iret (gj_dk okX12_two_ 56 rfl) rfl ⟨_, rfl, rfl, rfl, rfl⟩
  · -- 24
    replace hF := gj_ift c21 hF
    refine gj_iconst (q := 25) (gj_dk okX12_two_ 12 rfl) (by decide) rfl ?_
    cases hF
    exact gj_iret (gj_dk okX12_two_ 13 rfl) rfl ⟨_, rfl, rfl, rfl, rfl⟩
def F_X12_think (a1 : Int) (a2 : Int) (a3 : Int) (M : gj_M) : Option (Int) :=
  gj_bnd (F_X12_who a1 M) (fun x1 => gj_bnd (F_X12_who a2 M) (fun x3 => gj_letI (f_X12_areTwo x1 x3 M) (fun x5 => (if x5 = 0 then (some (-1)) else gj_letI (f_X12_coupleOf x1 x3 M) (fun x6 => (if a3 = 0 then gj_chk (0 ≤ x6 ∧ x6 < 32) ((some (M 86 x6))) else (if a3 = 1 then gj_chk (0 ≤ x6 ∧ x6 < 32) ((some (M 89 x6))) else (if a3 = 2 then gj_chk (0 ≤ x6 ∧ x6 < 32) ((some (M 92 x6))) else (some (-1))))))))))
set_option maxHeartbeats 4000000 in
set_option maxRecDepth 20000 in
theorem t_X12_think (hst : gj_Stat S) (a1 a2 a3 : Int) {r : Int} (hF : F_X12_think a1 a2 a3 M = some r) : gj_C G l 3 0 0 yX12_think cX12_think 7 (some .int) [jR 79, jI a1, jI a2, jI a3] S M (gj_qI fun x S' M' => r = x ∧ S = S' ∧ M = M') := by
  refine gj_Cof (by decide +kernel) (Nat.le_of_ble_eq_true rfl) ?_
  change gj_W G l 3 0 0 yX12_think cX12_think 7 (some .int) (gj_qI fun x S' M' => r = x ∧ S = S' ∧ M = M') 0 0 0 [(0, jR 79), (1, jI a1), (2, jI a2), (3, jI a3)] [] S M
  unfold F_X12_think at hF
  refine gj_aload_n (q := 1) (gj_dk okX12_think 0 rfl) rfl rfl ?_
  refine gj_iload_n (q := 2) (gj_dk okX12_think 1 rfl) rfl rfl ?_
  obtain ⟨x1, hG, hF⟩ := gj_bndd hF
  refine gj_callV (q := 5) (z := 79) (ci := 10) [jI a1] rfl (t_X12_who hst a1 hG) (gj_dk okX12_think 2 rfl) ml_X12_281 me_X12_who (sh79 hst) rfl (gj_nm rfl) rfl (gj_kI fun y S2 M2 h => ?_)
  obtain ⟨e, eS, eM⟩ := h; subst eS; subst eM; subst e; clear hG
  refine gj_istore (q := 7) (gj_dk okX12_think 3 rfl) (by decide) rfl ?_
  refine gj_aload_n (q := 8) (gj_dk okX12_think 4 rfl) rfl rfl ?_
  refine gj_iload_n (q := 9) (gj_dk okX12_think 5 rfl) rfl rfl ?_
  obtain ⟨x3, hG, hF⟩ := gj_bndd hF
  refine gj_callV (q := 12) (z := 79) (ci := 10) [jI a2] rfl (t_X12_who hst a2 hG) (gj_dk okX12_think 6 rfl) ml_X12_281 me_X12_who (sh79 hst) rfl (gj_nm rfl) rfl (gj_kI fun y S2 M2 h => ?_)
  obtain ⟨e, eS, eM⟩ := h; subst eS; subst eM; subst e; clear hG
  refine gj_istore (q := 14) (gj_dk okX12_think 7 rfl) (by decide) rfl ?_
  refine gj_iload (q := 16) (gj_dk okX12_think 8 rfl) rfl rfl ?_
  refine gj_iload (q := 18) (gj_dk okX12_think 9 rfl) rfl rfl ?_
  refine gj_callS (q := 21) [jI x1, jI x3] rfl (t_X12_areTwo hst x1 x3 rfl) (gj_dk okX12_think 10 rfl) ml_X12_288 me_X12_areTwo (gj_nm rfl) rfl (gj_kI fun x S2 M2 h => ?_)
  obtain ⟨bz, e, eS, eM⟩ := h; subst eS; subst eM; subst e
  refine gj_stpZ bz hF (fun x5 bx5 hF => ?_)
  refine gj_if_ne (q := 24) (tgt := 26) (gj_dk okX12_think 11 rfl) (by decide) rfl (fun c21 => ?_) (fun c21 => ?_)
  · -- 26
    replace hF := gj_iff c21 hF
    refine gj_iload (q := 28) (gj_dk okX12_think 14 rfl) rfl rfl ?_
    refine gj_iload (q := 30) (gj_dk okX12_think 15 rfl) rfl rfl ?_
    refine gj_callS (q := 33) [jI x1, jI x3] rfl (t_X12_coupleOf hst x1 x3 rfl) (gj_dk okX12_think 16 rfl) ml_X12_232 me_X12_coupleOf (gj_nm rfl) rfl (gj_kI fun x S2 M2 h => ?_)
    obtain ⟨e, eS, eM⟩ := h; subst eS; subst eM; subst e
    refine gj_stpI hF (fun x6 hF => ?_)
    refine gj_istore (q := 35) (gj_dk okX12_think 17 rfl) (by decide) rfl ?_
    refine gj_iload_n (q := 36) (gj_dk okX12_think 18 rfl) rfl rfl ?_
    refine gj_if_ne (q := 39) (tgt := 51) (gj_dk okX12_think 19 rfl) (by decide) rfl (fun c36 => ?_) (fun c36 => ?_)
    · -- 51
      replace hF := gj_iff c36 hF
      refine gj_iload_n (q := 52) (gj_dk okX12_think 27 rfl) rfl rfl ?_
      refine gj_iconst (q := 53) (gj_dk okX12_think 28 rfl) (by decide) rfl ?_
      refine gj_icmp_ne (q := 56) (tgt := 68) (gj_dk okX12_think 29 rfl) (by decide) rfl (fun c53 => ?_) (fun c53 => ?_)
      · -- 68
        replace hF := gj_iff c53 hF
        refine gj_iload_n (q := 69) (gj_dk okX12_think 37 rfl) rfl rfl ?_
        refine gj_iconst (q := 70) (gj_dk okX12_think 38 rfl) (by decide) rfl ?_
        refine gj_icmp_ne (q := 73) (tgt := 85) (gj_dk okX12_think 39 rfl) (by decide) rfl (fun c70 => ?_) (fun c70 => ?_)
        · -- 85
          replace hF := gj_iff c70 hF
          refine gj_iconst (q := 86) (gj_dk okX12_think 47 rfl) (by decide) rfl ?_
          cases hF
          exact gj_iret (gj_dk okX12_think 48 rfl) rfl ⟨_, rfl, rfl, rfl, rfl⟩
        · -- 73
          replace hF := gj_ift c70 hF
          refine gj_aload_n (q := 74) (gj_dk okX12_think 40 rfl) rfl rfl ?_
          refine gj_gR (q := 77) (j := 10) (gj_dk okX12_think 41 rfl) ff_X12_28 (sh79 hst) (by decide) rfl (rf79_10 hst) rfl ?_
          refine gj_iconst (q := 78) (gj_dk okX12_think 42 rfl) (by decide) rfl ?_
          refine gj_aald (q := 79) (gj_dk okX12_think 43 rfl) (sh91 hst) (by decide) (by decide) (by decide) (rf91_0 hst) rfl ?_
          refine gj_iload (q := 81) (gj_dk okX12_think 44 rfl) rfl rfl ?_
          obtain ⟨b7, hF⟩ := gj_ckd hF
          refine gj_iald (q := 82) (gj_dk okX12_think 45 rfl) (sh92 hst) b7.1 b7.2 rfl ?_
          refine gj_goto (tgt := 86) (gj_dk okX12_think 46 rfl) (by decide) ?_
          cases hF
          exact gj_iret (gj_dk okX12_think 48 rfl) rfl ⟨_, rfl, rfl, rfl, rfl⟩
      · -- 56
        replace hF := gj_ift c53 hF
        refine gj_aload_n (q := 57) (gj_dk okX12_think 30 rfl) rfl rfl ?_
        refine gj_gR (q := 60) (j := 9) (gj_dk okX12_think 31 rfl) ff_X12_25 (sh79 hst) (by decide) rfl (rf79_9 hst) rfl ?_
        refine gj_iconst (q := 61) (gj_dk okX12_think 32 rfl) (by decide) rfl ?_
        refine gj_aald (q := 62) (gj_dk okX12_think 33 rfl) (sh88 hst) (by decide) (by decide) (by decide) (rf88_0 hst) rfl ?_
        refine gj_iload (q := 64) (gj_dk okX12_think 34 rfl) rfl rfl ?_
        obtain ⟨b8, hF⟩ := gj_ckd hF
        refine gj_iald (q := 65) (gj_dk okX12_think 35 rfl) (sh89 hst) b8.1 b8.2 rfl ?_
        refine gj_goto (tgt := 86) (gj_dk okX12_think 36 rfl) (by decide) ?_
        cases hF
        exact gj_iret (gj_dk okX12_think 48 rfl) rfl ⟨_, rfl, rfl, rfl, rfl⟩
    · -- 39
      replace hF := gj_ift c36 hF
      refine gj_aload_n (q := 40) (gj_dk okX12_think 20 rfl) rfl rfl ?_
      refine gj_gR (q := 43) (j := 8) (gj_dk okX12_think 21 rfl) ff_X12_22 (sh79 hst) (by decide) rfl (rf79_8 hst) rfl ?_
      refine gj_iconst (q := 44) (gj_dk okX12_think 22 rfl) (by decide) rfl ?_
      refine gj_aald (q := 45) (gj_dk okX12_think 23 rfl) (sh85 hst) (by decide) (by decide) (by decide) (rf85_0 hst) rfl ?_
      refine gj_iload (q := 47) (gj_dk okX12_think 24 rfl) rfl rfl ?_
      obtain ⟨b9, hF⟩ := gj_ckd hF
      refine gj_iald (q := 48) (gj_dk okX12_think 25 rfl) (sh86 hst) b9.1 b9.2 rfl ?_
      refine gj_goto (tgt := 86) (gj_dk okX12_think 26 rfl) (by decide) ?_
      cases hF
      exact gj_iret (gj_dk okX12_think 48 rfl) rfl ⟨_, rfl, rfl, rfl, rfl⟩
  · -- 24
    replace hF := gj_ift c21 hF
    refine gj_iconst (q := 25) (gj_dk okX12_think 12 rfl) (by decide) rfl ?_
    cases hF
    exact gj_iret (gj_dk okX12_think 13 rfl) rfl ⟨_, rfl, rfl, rfl, rfl⟩
def B_X12_power_5 (M : gj_M) (rec5 : Int → Int → Int → Int → Option (Int)) (l0 l1 l2 l4 : Int) : Option (Int) :=
  (if l1 ≤ l4 then (some (l2)) else rec5 l0 l1 (gj_wl (l2 * l0)) (gj_w (l4 + 1)))
def F_X12_power (a1 : Int) (a2 : Int) (M : gj_M) : Option (Int) :=
  (gj_it (fun _ _ _ _ => none) (B_X12_power_5 M) gj_fu a1 a2 1 0)
set_option maxHeartbeats 4000000 in
set_option maxRecDepth 20000 in
theorem t_B_X12_power_5 (hst : gj_Stat S) {r : Int} {rec5 : Int → Int → Int → Int → Option (Int)} (hrec5 : ∀ (l0 l1 l2 l4 : Int), rec5 l0 l1 l2 l4 = some r → gj_W G l 1 0 0 yX12_power cX12_power 5 (some .long) (gj_qL fun x S' M' => r = x ∧ S = S' ∧ M = M') 0 0 5 [(0, jI l0), (1, jI l1), (2, jL l2), (4, jI l4)] [] S M) (l0 l1 l2 l4 : Int) (hF : B_X12_power_5 M rec5 l0 l1 l2 l4 = some r) : gj_W G l 1 0 0 yX12_power cX12_power 5 (some .long) (gj_qL fun x S' M' => r = x ∧ S = S' ∧ M = M') 0 0 5 [(0, jI l0), (1, jI l1), (2, jL l2), (4, jI l4)] [] S M := by
  unfold B_X12_power_5 at hF
  refine gj_iload (q := 7) (gj_dk okX12_power 4 rfl) rfl rfl ?_
  refine gj_iload_n (q := 8) (gj_dk okX12_power 5 rfl) rfl rfl ?_
  refine gj_icmp_ge (q := 11) (tgt := 22) (gj_dk okX12_power 6 rfl) (by decide) rfl (fun c8 => ?_) (fun c8 => ?_)
  · -- 22
    replace hF := gj_ift c8 hF
    refine gj_lload_n (q := 23) (gj_dk okX12_power 14 rfl) rfl rfl ?_
    cases hF
    exact gj_lret (gj_dk okX12_power 15 rfl) rfl ⟨_, rfl, rfl, rfl, rfl⟩
  · -- 11
    replace hF := gj_iff c8 hF
    refine gj_lload_n (q := 12) (gj_dk okX12_power 7 rfl) rfl rfl ?_
    refine gj_iload_n (q := 13) (gj_dk okX12_power 8 rfl) rfl rfl ?_
    refine gj_i2l (q := 14) (gj_dk okX12_power 9 rfl) rfl ?_
    refine gj_lmul (q := 15) (gj_dk okX12_power 10 rfl) rfl ?_
    refine gj_lstore_n (q := 16) (gj_dk okX12_power 11 rfl) (by decide) rfl ?_
    refine gj_iinc (q := 19) (v := gj_w (l4 + 1)) (gj_dk okX12_power 12 rfl) rfl (by decide) rfl rfl ?_
    refine gj_goto (tgt := 5) (gj_dk okX12_power 13 rfl) (by decide) ?_
    refine gj_sub [(0, jI l0), (1, jI l1), (2, jL (gj_wl (l2 * l0))), (4, jI (gj_w (l4 + 1)))] ⟨rfl, rfl, rfl, rfl, trivial⟩ ?_
    exact hrec5 l0 l1 (gj_wl (l2 * l0)) (gj_w (l4 + 1)) hF
theorem t_L_X12_power_5 (hst : gj_Stat S) {r : Int} : ∀ (m : Nat) (l0 : Int) (l1 : Int) (l2 : Int) (l4 : Int), gj_it (fun _ _ _ _ => none) (B_X12_power_5 M) m l0 l1 l2 l4 = some r → gj_W G l 1 0 0 yX12_power cX12_power 5 (some .long) (gj_qL fun x S' M' => r = x ∧ S = S' ∧ M = M') 0 0 5 [(0, jI l0), (1, jI l1), (2, jL l2), (4, jI l4)] [] S M := by
  intro m
  induction m with
  | zero => intro l0 l1 l2 l4 hF; cases (show (none : Option (Int)) = some r from hF)
  | succ m ih => intro l0 l1 l2 l4 hF; exact t_B_X12_power_5 hst (fun l0 l1 l2 l4 h => ih l0 l1 l2 l4 h) l0 l1 l2 l4 hF
set_option maxHeartbeats 4000000 in
set_option maxRecDepth 20000 in
theorem t_X12_power (hst : gj_Stat S) (a1 a2 : Int) {r : Int} (hF : F_X12_power a1 a2 M = some r) : gj_C G l 1 0 0 yX12_power cX12_power 5 (some .long) [jI a1, jI a2] S M (gj_qL fun x S' M' => r = x ∧ S = S' ∧ M = M') := by
  refine gj_Cof (by decide +kernel) (Nat.le_of_ble_eq_true rfl) ?_
  change gj_W G l 1 0 0 yX12_power cX12_power 5 (some .long) (gj_qL fun x S' M' => r = x ∧ S = S' ∧ M = M') 0 0 0 [(0, jI a1), (1, jI a2)] [] S M
  unfold F_X12_power at hF
  refine gj_lconst (q := 1) (z := 1) (gj_dk okX12_power 0 rfl) rfl (by decide) rfl ?_
  refine gj_lstore_n (q := 2) (gj_dk okX12_power 1 rfl) (by decide) rfl ?_
  refine gj_iconst (q := 3) (gj_dk okX12_power 2 rfl) (by decide) rfl ?_
  refine gj_istore (q := 5) (gj_dk okX12_power 3 rfl) (by decide) rfl ?_
  refine gj_sub [(0, jI a1), (1, jI a2), (2, jL 1), (4, jI 0)] ⟨rfl, rfl, rfl, rfl, trivial⟩ ?_
  exact t_L_X12_power_5 hst gj_fu a1 a2 1 0 hF
def F_X12_shows (a1 : Int) (a2 : Int) (a3 : Int) (a4 : Int) (a5 : Int) (M : gj_M) : Option (Int) :=
  gj_letI (f_X12_coupleOf a1 a2 M) (fun x1 => gj_chk (0 ≤ x1 ∧ x1 < 32) (gj_chk (0 ≤ x1 ∧ x1 < 32) (gj_bnd (F_X12_power (M 89 x1) a3 M) (fun x4 => gj_chk (0 ≤ x1 ∧ x1 < 32) (gj_bnd (F_X12_power (gj_w (16 - (M 89 x1))) a4 M) (fun x7 => gj_letI (gj_wl ((gj_wl ((M 86 x1) * x4)) * x7)) (fun x9 => gj_chk (0 ≤ x1 ∧ x1 < 32) (gj_chk (0 ≤ x1 ∧ x1 < 32) (gj_bnd (F_X12_power (M 92 x1) a3 M) (fun x12 => gj_chk (0 ≤ x1 ∧ x1 < 32) (gj_bnd (F_X12_power (gj_w (16 - (M 92 x1))) a4 M) (fun x15 => gj_letI (gj_wl ((gj_wl ((gj_w (16 - (M 86 x1))) * x12)) * x15)) (fun x17 => (if gj_wl (x9 + x17) = 0 then (some (0)) else (if a5 = 0 then gj_chk (¬ gj_wl (x9 + x17) = 0) ((some (gj_w (gj_wl (Int.tdiv (gj_wl (1000 * x9)) (gj_wl (x9 + x17))))))) else gj_chk (0 ≤ x1 ∧ x1 < 32) (gj_chk (0 ≤ x1 ∧ x1 < 32) (gj_chk (¬ gj_wl (16 * (gj_wl (x9 + x17))) = 0) ((some (gj_w (gj_wl (Int.tdiv (gj_wl (1000 * (gj_wl ((gj_wl (x9 * (M 89 x1))) + (gj_wl (x17 * (M 92 x1))))))) (gj_wl (16 * (gj_wl (x9 + x17))))))))))))))))))))))))))
set_option maxHeartbeats 4000000 in
set_option maxRecDepth 20000 in
theorem t_X12_shows (hst : gj_Stat S) (a1 a2 a3 a4 a5 : Int) {r : Int} (hF : F_X12_shows a1 a2 a3 a4 a5 M = some r) : gj_C G l 2 0 0 yX12_shows cX12_shows 11 (some .int) [jR 79, jI a1, jI a2, jI a3, jI a4, jI a5] S M (gj_qI fun x S' M' => r = x ∧ S = S' ∧ M = M') := by
  refine gj_Cof (by decide +kernel) (Nat.le_of_ble_eq_true rfl) ?_
  change gj_W G l 2 0 0 yX12_shows cX12_shows 11 (some .int) (gj_qI fun x S' M' => r = x ∧ S = S' ∧ M = M') 0 0 0 [(0, jR 79), (1, jI a1), (2, jI a2), (3, jI a3), (4, jI a4), (5, jI a5)] [] S M
  unfold F_X12_shows at hF
  refine gj_iload_n (q := 1) (gj_dk okX12_shows 0 rfl) rfl rfl ?_
  refine gj_iload_n (q := 2) (gj_dk okX12_shows 1 rfl) rfl rfl ?_
  refine gj_callS (q := 5) [jI a1, jI a2] rfl (t_X12_coupleOf hst a1 a2 rfl) (gj_dk okX12_shows 2 rfl) ml_X12_232 me_X12_coupleOf (gj_nm rfl) rfl (gj_kI fun x S2 M2 h => ?_)
  obtain ⟨e, eS, eM⟩ := h; subst eS; subst eM; subst e
  refine gj_stpI hF (fun x1 hF => ?_)
  refine gj_istore (q := 7) (gj_dk okX12_shows 3 rfl) (by decide) rfl ?_
  refine gj_aload_n (q := 8) (gj_dk okX12_shows 4 rfl) rfl rfl ?_
  refine gj_gR (q := 11) (j := 8) (gj_dk okX12_shows 5 rfl) ff_X12_22 (sh79 hst) (by decide) rfl (rf79_8 hst) rfl ?_
  refine gj_iconst (q := 12) (gj_dk okX12_shows 6 rfl) (by decide) rfl ?_
  refine gj_aald (q := 13) (gj_dk okX12_shows 7 rfl) (sh85 hst) (by decide) (by decide) (by decide) (rf85_0 hst) rfl ?_
  refine gj_iload (q := 15) (gj_dk okX12_shows 8 rfl) rfl rfl ?_
  obtain ⟨b2, hF⟩ := gj_ckd hF
  refine gj_iald (q := 16) (gj_dk okX12_shows 9 rfl) (sh86 hst) b2.1 b2.2 rfl ?_
  refine gj_i2l (q := 17) (gj_dk okX12_shows 10 rfl) rfl ?_
  refine gj_aload_n (q := 18) (gj_dk okX12_shows 11 rfl) rfl rfl ?_
  refine gj_gR (q := 21) (j := 9) (gj_dk okX12_shows 12 rfl) ff_X12_25 (sh79 hst) (by decide) rfl (rf79_9 hst) rfl ?_
  refine gj_iconst (q := 22) (gj_dk okX12_shows 13 rfl) (by decide) rfl ?_
  refine gj_aald (q := 23) (gj_dk okX12_shows 14 rfl) (sh88 hst) (by decide) (by decide) (by decide) (rf88_0 hst) rfl ?_
  refine gj_iload (q := 25) (gj_dk okX12_shows 15 rfl) rfl rfl ?_
  obtain ⟨b3, hF⟩ := gj_ckd hF
  refine gj_iald (q := 26) (gj_dk okX12_shows 16 rfl) (sh89 hst) b3.1 b3.2 rfl ?_
  refine gj_iload_n (q := 27) (gj_dk okX12_shows 17 rfl) rfl rfl ?_
  obtain ⟨x4, hG, hF⟩ := gj_bndd hF
  refine gj_callS (q := 30) [jI (M 89 x1), jI a3] rfl (t_X12_power hst (M 89 x1) a3 hG) (gj_dk okX12_shows 18 rfl) ml_X12_295 me_X12_power (gj_nm rfl) rfl (gj_kL fun y S2 M2 h => ?_)
  obtain ⟨e, eS, eM⟩ := h; subst eS; subst eM; subst e; clear hG
  refine gj_lmul (q := 31) (gj_dk okX12_shows 19 rfl) rfl ?_
  refine gj_bipush (q := 33) (gj_dk okX12_shows 20 rfl) (by decide) rfl rfl ?_
  refine gj_aload_n (q := 34) (gj_dk okX12_shows 21 rfl) rfl rfl ?_
  refine gj_gR (q := 37) (j := 9) (gj_dk okX12_shows 22 rfl) ff_X12_25 (sh79 hst) (by decide) rfl (rf79_9 hst) rfl ?_
  refine gj_iconst (q := 38) (gj_dk okX12_shows 23 rfl) (by decide) rfl ?_
  refine gj_aald (q := 39) (gj_dk okX12_shows 24 rfl) (sh88 hst) (by decide) (by decide) (by decide) (rf88_0 hst) rfl ?_
  refine gj_iload (q := 41) (gj_dk okX12_shows 25 rfl) rfl rfl ?_
  obtain ⟨b6, hF⟩ := gj_ckd hF
  refine gj_iald (q := 42) (gj_dk okX12_shows 26 rfl) (sh89 hst) b6.1 b6.2 rfl ?_
  refine gj_isub (q := 43) (gj_dk okX12_shows 27 rfl) rfl ?_
  refine gj_iload (q := 45) (gj_dk okX12_shows 28 rfl) rfl rfl ?_
  obtain ⟨x7, hG, hF⟩ := gj_bndd hF
  refine gj_callS (q := 48) [jI (gj_w (16 - (M 89 x1))), jI a4] rfl (t_X12_power hst (gj_w (16 - (M 89 x1))) a4 hG) (gj_dk okX12_shows 29 rfl) ml_X12_295 me_X12_power (gj_nm rfl) rfl (gj_kL fun y S2 M2 h => ?_)
  obtain ⟨e, eS, eM⟩ := h; subst eS; subst eM; subst e; clear hG
  refine gj_lmul (q := 49) (gj_dk okX12_shows 30 rfl) rfl ?_
  refine gj_stpL hF (fun x9 hF => ?_)
  refine gj_lstore (q := 51) (gj_dk okX12_shows 31 rfl) (by decide) rfl ?_
  refine gj_bipush (q := 53) (gj_dk okX12_shows 32 rfl) (by decide) rfl rfl ?_
  refine gj_aload_n (q := 54) (gj_dk okX12_shows 33 rfl) rfl rfl ?_
  refine gj_gR (q := 57) (j := 8) (gj_dk okX12_shows 34 rfl) ff_X12_22 (sh79 hst) (by decide) rfl (rf79_8 hst) rfl ?_
  refine gj_iconst (q := 58) (gj_dk okX12_shows 35 rfl) (by decide) rfl ?_
  refine gj_aald (q := 59) (gj_dk okX12_shows 36 rfl) (sh85 hst) (by decide) (by decide) (by decide) (rf85_0 hst) rfl ?_
  refine gj_iload (q := 61) (gj_dk okX12_shows 37 rfl) rfl rfl ?_
  obtain ⟨b10, hF⟩ := gj_ckd hF
  refine gj_iald (q := 62) (gj_dk okX12_shows 38 rfl) (sh86 hst) b10.1 b10.2 rfl ?_
  refine gj_isub (q := 63) (gj_dk okX12_shows 39 rfl) rfl ?_
  refine gj_i2l (q := 64) (gj_dk okX12_shows 40 rfl) rfl ?_
  refine gj_aload_n (q := 65) (gj_dk okX12_shows 41 rfl) rfl rfl ?_
  refine gj_gR (q := 68) (j := 10) (gj_dk okX12_shows 42 rfl) ff_X12_28 (sh79 hst) (by decide) rfl (rf79_10 hst) rfl ?_
  refine gj_iconst (q := 69) (gj_dk okX12_shows 43 rfl) (by decide) rfl ?_
  refine gj_aald (q := 70) (gj_dk okX12_shows 44 rfl) (sh91 hst) (by decide) (by decide) (by decide) (rf91_0 hst) rfl ?_
  refine gj_iload (q := 72) (gj_dk okX12_shows 45 rfl) rfl rfl ?_
  obtain ⟨b11, hF⟩ := gj_ckd hF
  refine gj_iald (q := 73) (gj_dk okX12_shows 46 rfl) (sh92 hst) b11.1 b11.2 rfl ?_
  refine gj_iload_n (q := 74) (gj_dk okX12_shows 47 rfl) rfl rfl ?_
  obtain ⟨x12, hG, hF⟩ := gj_bndd hF
  refine gj_callS (q := 77) [jI (M 92 x1), jI a3] rfl (t_X12_power hst (M 92 x1) a3 hG) (gj_dk okX12_shows 48 rfl) ml_X12_295 me_X12_power (gj_nm rfl) rfl (gj_kL fun y S2 M2 h => ?_)
  obtain ⟨e, eS, eM⟩ := h; subst eS; subst eM; subst e; clear hG
  refine gj_lmul (q := 78) (gj_dk okX12_shows 49 rfl) rfl ?_
  refine gj_bipush (q := 80) (gj_dk okX12_shows 50 rfl) (by decide) rfl rfl ?_
  refine gj_aload_n (q := 81) (gj_dk okX12_shows 51 rfl) rfl rfl ?_
  refine gj_gR (q := 84) (j := 10) (gj_dk okX12_shows 52 rfl) ff_X12_28 (sh79 hst) (by decide) rfl (rf79_10 hst) rfl ?_
  refine gj_iconst (q := 85) (gj_dk okX12_shows 53 rfl) (by decide) rfl ?_
  refine gj_aald (q := 86) (gj_dk okX12_shows 54 rfl) (sh91 hst) (by decide) (by decide) (by decide) (rf91_0 hst) rfl ?_
  refine gj_iload (q := 88) (gj_dk okX12_shows 55 rfl) rfl rfl ?_
  obtain ⟨b14, hF⟩ := gj_ckd hF
  refine gj_iald (q := 89) (gj_dk okX12_shows 56 rfl) (sh92 hst) b14.1 b14.2 rfl ?_
  refine gj_isub (q := 90) (gj_dk okX12_shows 57 rfl) rfl ?_
  refine gj_iload (q := 92) (gj_dk okX12_shows 58 rfl) rfl rfl ?_
  obtain ⟨x15, hG, hF⟩ := gj_bndd hF
  refine gj_callS (q := 95) [jI (gj_w (16 - (M 92 x1))), jI a4] rfl (t_X12_power hst (gj_w (16 - (M 92 x1))) a4 hG) (gj_dk okX12_shows 59 rfl) ml_X12_295 me_X12_power (gj_nm rfl) rfl (gj_kL fun y S2 M2 h => ?_)
  obtain ⟨e, eS, eM⟩ := h; subst eS; subst eM; subst e; clear hG
  refine gj_lmul (q := 96) (gj_dk okX12_shows 60 rfl) rfl ?_
  refine gj_stpL hF (fun x17 hF => ?_)
  refine gj_lstore (q := 98) (gj_dk okX12_shows 61 rfl) (by decide) rfl ?_
  refine gj_lload (q := 100) (gj_dk okX12_shows 62 rfl) rfl rfl ?_
  refine gj_lload (q := 102) (gj_dk okX12_shows 63 rfl) rfl rfl ?_
  refine gj_ladd (q := 103) (gj_dk okX12_shows 64 rfl) rfl ?_
  refine gj_lconst (q := 104) (z := 0) (gj_dk okX12_shows 65 rfl) rfl (by decide) rfl ?_
  refine gj_lcmp (q := 105) (gj_dk okX12_shows 66 rfl) rfl ?_
  refine gj_if_ne (q := 108) (tgt := 110) (gj_dk okX12_shows 67 rfl) (by decide) rfl (fun c105 => ?_) (fun c105 => ?_)
  · -- 110
    replace c105 := gj_cm_ne.mp c105
    replace hF := gj_iff c105 hF
    refine gj_iload (q := 112) (gj_dk okX12_shows 70 rfl) rfl rfl ?_
    refine gj_if_ne (q := 115) (tgt := 130) (gj_dk okX12_shows 71 rfl) (by decide) rfl (fun c112 => ?_) (fun c112 => ?_)
    · -- 130
      replace hF := gj_iff c112 hF
      refine gj_ldc2 (q := 133) (z := 1000) (gj_dk okX12_shows 80 rfl) kl_X12_299 (by decide) rfl ?_
      refine gj_lload (q := 135) (gj_dk okX12_shows 81 rfl) rfl rfl ?_
      refine gj_aload_n (q := 136) (gj_dk okX12_shows 82 rfl) rfl rfl ?_
      refine gj_gR (q := 139) (j := 9) (gj_dk okX12_shows 83 rfl) ff_X12_25 (sh79 hst) (by decide) rfl (rf79_9 hst) rfl ?_
      refine gj_iconst (q := 140) (gj_dk okX12_shows 84 rfl) (by decide) rfl ?_
      refine gj_aald (q := 141) (gj_dk okX12_shows 85 rfl) (sh88 hst) (by decide) (by decide) (by decide) (rf88_0 hst) rfl ?_
      refine gj_iload (q := 143) (gj_dk okX12_shows 86 rfl) rfl rfl ?_
      obtain ⟨b18, hF⟩ := gj_ckd hF
      refine gj_iald (q := 144) (gj_dk okX12_shows 87 rfl) (sh89 hst) b18.1 b18.2 rfl ?_
      refine gj_i2l (q := 145) (gj_dk okX12_shows 88 rfl) rfl ?_
      refine gj_lmul (q := 146) (gj_dk okX12_shows 89 rfl) rfl ?_
      refine gj_lload (q := 148) (gj_dk okX12_shows 90 rfl) rfl rfl ?_
      refine gj_aload_n (q := 149) (gj_dk okX12_shows 91 rfl) rfl rfl ?_
      refine gj_gR (q := 152) (j := 10) (gj_dk okX12_shows 92 rfl) ff_X12_28 (sh79 hst) (by decide) rfl (rf79_10 hst) rfl ?_
      refine gj_iconst (q := 153) (gj_dk okX12_shows 93 rfl) (by decide) rfl ?_
      refine gj_aald (q := 154) (gj_dk okX12_shows 94 rfl) (sh91 hst) (by decide) (by decide) (by decide) (rf91_0 hst) rfl ?_
      refine gj_iload (q := 156) (gj_dk okX12_shows 95 rfl) rfl rfl ?_
      obtain ⟨b19, hF⟩ := gj_ckd hF
      refine gj_iald (q := 157) (gj_dk okX12_shows 96 rfl) (sh92 hst) b19.1 b19.2 rfl ?_
      refine gj_i2l (q := 158) (gj_dk okX12_shows 97 rfl) rfl ?_
      refine gj_lmul (q := 159) (gj_dk okX12_shows 98 rfl) rfl ?_
      refine gj_ladd (q := 160) (gj_dk okX12_shows 99 rfl) rfl ?_
      refine gj_lmul (q := 161) (gj_dk okX12_shows 100 rfl) rfl ?_
      refine gj_ldc2 (q := 164) (z := 16) (gj_dk okX12_shows 101 rfl) kl_X12_301 (by decide) rfl ?_
      refine gj_lload (q := 166) (gj_dk okX12_shows 102 rfl) rfl rfl ?_
      refine gj_lload (q := 168) (gj_dk okX12_shows 103 rfl) rfl rfl ?_
      refine gj_ladd (q := 169) (gj_dk okX12_shows 104 rfl) rfl ?_
      refine gj_lmul (q := 170) (gj_dk okX12_shows 105 rfl) rfl ?_
      obtain ⟨b20, hF⟩ := gj_ckd hF
      refine gj_ldiv (q := 171) (gj_dk okX12_shows 106 rfl) b20 rfl ?_
      refine gj_l2i (q := 172) (gj_dk okX12_shows 107 rfl) rfl ?_
      cases hF
      exact gj_iret (gj_dk okX12_shows 108 rfl) rfl ⟨_, rfl, rfl, rfl, rfl⟩
    · -- 115
      replace hF := gj_ift c112 hF
      refine gj_ldc2 (q := 118) (z := 1000) (gj_dk okX12_shows 72 rfl) kl_X12_299 (by decide) rfl ?_
      refine gj_lload (q := 120) (gj_dk okX12_shows 73 rfl) rfl rfl ?_
      refine gj_lmul (q := 121) (gj_dk okX12_shows 74 rfl) rfl ?_
      refine gj_lload (q := 123) (gj_dk okX12_shows 75 rfl) rfl rfl ?_
      refine gj_lload (q := 125) (gj_dk okX12_shows 76 rfl) rfl rfl ?_
      refine gj_ladd (q := 126) (gj_dk okX12_shows 77 rfl) rfl ?_
      obtain ⟨b21, hF⟩ := gj_ckd hF
      refine gj_ldiv (q := 127) (gj_dk okX12_shows 78 rfl) b21 rfl ?_
      refine gj_goto (tgt := 171) (gj_dk okX12_shows 79 rfl) (by decide) ?_
      refine gj_l2i (q := 172) (gj_dk okX12_shows 107 rfl) rfl ?_
      cases hF
      exact gj_iret (gj_dk okX12_shows 108 rfl) rfl ⟨_, rfl, rfl, rfl, rfl⟩
  · -- 108
    replace c105 := gj_cm_nen.mp c105
    replace hF := gj_ift c105 hF
    refine gj_iconst (q := 109) (gj_dk okX12_shows 68 rfl) (by decide) rfl ?_
    cases hF
    exact gj_iret (gj_dk okX12_shows 69 rfl) rfl ⟨_, rfl, rfl, rfl, rfl⟩
def F_X12_shown (a1 : Int) (a2 : Int) (a3 : Int) (M : gj_M) : Option (Int) :=
  gj_bnd (F_X12_who a1 M) (fun x1 => gj_bnd (F_X12_who a2 M) (fun x3 => gj_letI (f_X12_areTwo x1 x3 M) (fun x5 => (if x5 = 0 then (some (-1)) else gj_letI (f_X12_in a3 0 1 M) (fun x6 => (if x6 = 0 then (some (-1)) else gj_letI (f_X12_two x1 x3 M) (fun x7 => gj_chk (0 ≤ x7 ∧ x7 < 16) (gj_letI (f_X12_two x1 x3 M) (fun x9 => gj_chk (0 ≤ x9 ∧ x9 < 16) (gj_bnd (F_X12_shows x1 x3 (M 112 x7) (M 113 x9) a3 M) (fun x11 => (some (x11)))))))))))))
set_option maxHeartbeats 4000000 in
set_option maxRecDepth 20000 in
theorem t_X12_shown (hst : gj_Stat S) (a1 a2 a3 : Int) {r : Int} (hF : F_X12_shown a1 a2 a3 M = some r) : gj_C G l 3 0 0 yX12_shown cX12_shown 6 (some .int) [jR 79, jI a1, jI a2, jI a3] S M (gj_qI fun x S' M' => r = x ∧ S = S' ∧ M = M') := by
  refine gj_Cof (by decide +kernel) (Nat.le_of_ble_eq_true rfl) ?_
  change gj_W G l 3 0 0 yX12_shown cX12_shown 6 (some .int) (gj_qI fun x S' M' => r = x ∧ S = S' ∧ M = M') 0 0 0 [(0, jR 79), (1, jI a1), (2, jI a2), (3, jI a3)] [] S M
  unfold F_X12_shown at hF
  refine gj_aload_n (q := 1) (gj_dk okX12_shown 0 rfl) rfl rfl ?_
  refine gj_iload_n (q := 2) (gj_dk okX12_shown 1 rfl) rfl rfl ?_
  obtain ⟨x1, hG, hF⟩ := gj_bndd hF
  refine gj_callV (q := 5) (z := 79) (ci := 10) [jI a1] rfl (t_X12_who hst a1 hG) (gj_dk okX12_shown 2 rfl) ml_X12_281 me_X12_who (sh79 hst) rfl (gj_nm rfl) rfl (gj_kI fun y S2 M2 h => ?_)
  obtain ⟨e, eS, eM⟩ := h; subst eS; subst eM; subst e; clear hG
  refine gj_istore (q := 7) (gj_dk okX12_shown 3 rfl) (by decide) rfl ?_
  refine gj_aload_n (q := 8) (gj_dk okX12_shown 4 rfl) rfl rfl ?_
  refine gj_iload_n (q := 9) (gj_dk okX12_shown 5 rfl) rfl rfl ?_
  obtain ⟨x3, hG, hF⟩ := gj_bndd hF
  refine gj_callV (q := 12) (z := 79) (ci := 10) [jI a2] rfl (t_X12_who hst a2 hG) (gj_dk okX12_shown 6 rfl) ml_X12_281 me_X12_who (sh79 hst) rfl (gj_nm rfl) rfl (gj_kI fun y S2 M2 h => ?_)
  obtain ⟨e, eS, eM⟩ := h; subst eS; subst eM; subst e; clear hG
  refine gj_istore (q := 14) (gj_dk okX12_shown 7 rfl) (by decide) rfl ?_
  refine gj_iload (q := 16) (gj_dk okX12_shown 8 rfl) rfl rfl ?_
  refine gj_iload (q := 18) (gj_dk okX12_shown 9 rfl) rfl rfl ?_
  refine gj_callS (q := 21) [jI x1, jI x3] rfl (t_X12_areTwo hst x1 x3 rfl) (gj_dk okX12_shown 10 rfl) ml_X12_288 me_X12_areTwo (gj_nm rfl) rfl (gj_kI fun x S2 M2 h => ?_)
  obtain ⟨bz, e, eS, eM⟩ := h; subst eS; subst eM; subst e
  refine gj_stpZ bz hF (fun x5 bx5 hF => ?_)
  refine gj_if_eq (q := 24) (tgt := 70) (gj_dk okX12_shown 11 rfl) (by decide) rfl (fun c21 => ?_) (fun c21 => ?_)
  · -- 70
    replace hF := gj_ift c21 hF
    refine gj_iconst (q := 71) (gj_dk okX12_shown 36 rfl) (by decide) rfl ?_
    cases hF
    exact gj_iret (gj_dk okX12_shown 37 rfl) rfl ⟨_, rfl, rfl, rfl, rfl⟩
  · -- 24
    replace hF := gj_iff c21 hF
    refine gj_iload_n (q := 25) (gj_dk okX12_shown 12 rfl) rfl rfl ?_
    refine gj_i2l (q := 26) (gj_dk okX12_shown 13 rfl) rfl ?_
    refine gj_lconst (q := 27) (z := 0) (gj_dk okX12_shown 14 rfl) rfl (by decide) rfl ?_
    refine gj_lconst (q := 28) (z := 1) (gj_dk okX12_shown 15 rfl) rfl (by decide) rfl ?_
    refine gj_callS (q := 31) [jL a3, jL 0, jL 1] rfl (t_X12_in hst a3 0 1 rfl) (gj_dk okX12_shown 16 rfl) ml_X12_158 me_X12_in (gj_nm rfl) rfl (gj_kI fun x S2 M2 h => ?_)
    obtain ⟨bz, e, eS, eM⟩ := h; subst eS; subst eM; subst e
    refine gj_stpZ bz hF (fun x6 bx6 hF => ?_)
    refine gj_if_eq (q := 34) (tgt := 70) (gj_dk okX12_shown 17 rfl) (by decide) rfl (fun c31 => ?_) (fun c31 => ?_)
    · -- 70
      replace hF := gj_ift c31 hF
      refine gj_iconst (q := 71) (gj_dk okX12_shown 36 rfl) (by decide) rfl ?_
      cases hF
      exact gj_iret (gj_dk okX12_shown 37 rfl) rfl ⟨_, rfl, rfl, rfl, rfl⟩
    · -- 34
      replace hF := gj_iff c31 hF
      refine gj_aload_n (q := 35) (gj_dk okX12_shown 18 rfl) rfl rfl ?_
      refine gj_iload (q := 37) (gj_dk okX12_shown 19 rfl) rfl rfl ?_
      refine gj_iload (q := 39) (gj_dk okX12_shown 20 rfl) rfl rfl ?_
      refine gj_aload_n (q := 40) (gj_dk okX12_shown 21 rfl) rfl rfl ?_
      refine gj_gR (q := 43) (j := 24) (gj_dk okX12_shown 22 rfl) ff_X12_89 (sh79 hst) (by decide) rfl (rf79_24 hst) rfl ?_
      refine gj_iload (q := 45) (gj_dk okX12_shown 23 rfl) rfl rfl ?_
      refine gj_iload (q := 47) (gj_dk okX12_shown 24 rfl) rfl rfl ?_
      refine gj_callS (q := 50) [jI x1, jI x3] rfl (t_X12_two hst x1 x3 rfl) (gj_dk okX12_shown 25 rfl) ml_X12_292 me_X12_two (gj_nm rfl) rfl (gj_kI fun x S2 M2 h => ?_)
      obtain ⟨e, eS, eM⟩ := h; subst eS; subst eM; subst e
      refine gj_stpI hF (fun x7 hF => ?_)
      obtain ⟨b8, hF⟩ := gj_ckd hF
      refine gj_iald (q := 51) (gj_dk okX12_shown 26 rfl) (sh112 hst) b8.1 b8.2 rfl ?_
      refine gj_aload_n (q := 52) (gj_dk okX12_shown 27 rfl) rfl rfl ?_
      refine gj_gR (q := 55) (j := 25) (gj_dk okX12_shown 28 rfl) ff_X12_92 (sh79 hst) (by decide) rfl (rf79_25 hst) rfl ?_
      refine gj_iload (q := 57) (gj_dk okX12_shown 29 rfl) rfl rfl ?_
      refine gj_iload (q := 59) (gj_dk okX12_shown 30 rfl) rfl rfl ?_
      refine gj_callS (q := 62) [jI x1, jI x3] rfl (t_X12_two hst x1 x3 rfl) (gj_dk okX12_shown 31 rfl) ml_X12_292 me_X12_two (gj_nm rfl) rfl (gj_kI fun x S2 M2 h => ?_)
      obtain ⟨e, eS, eM⟩ := h; subst eS; subst eM; subst e
      refine gj_stpI hF (fun x9 hF => ?_)
      obtain ⟨b10, hF⟩ := gj_ckd hF
      refine gj_iald (q := 63) (gj_dk okX12_shown 32 rfl) (sh113 hst) b10.1 b10.2 rfl ?_
      refine gj_iload_n (q := 64) (gj_dk okX12_shown 33 rfl) rfl rfl ?_
      obtain ⟨x11, hG, hF⟩ := gj_bndd hF
      refine gj_callV (q := 67) (z := 79) (ci := 10) [jI x1, jI x3, jI (M 112 x7), jI (M 113 x9), jI a3] rfl (t_X12_shows hst x1 x3 (M 112 x7) (M 113 x9) a3 hG) (gj_dk okX12_shown 34 rfl) ml_X12_303 me_X12_shows (sh79 hst) rfl (gj_nm rfl) rfl (gj_kI fun y S2 M2 h => ?_)
      obtain ⟨e, eS, eM⟩ := h; subst eS; subst eM; subst e; clear hG
      refine gj_goto (tgt := 71) (gj_dk okX12_shown 35 rfl) (by decide) ?_
      cases hF
      exact gj_iret (gj_dk okX12_shown 37 rfl) rfl ⟨_, rfl, rfl, rfl, rfl⟩
def F_X12_likes (a1 : Int) (a2 : Int) (a3 : Int) (M : gj_M) : Option (Int) :=
  gj_letI (f_X12_two a1 a2 M) (fun x1 => gj_chk (0 ≤ x1 ∧ x1 < 16) ((some (gj_w ((gj_w ((gj_w (a3 * (M 98 0))) + (gj_w ((gj_w (1000 - a3)) * (M 98 1))))) + (gj_w ((gj_w (1000 * (M 98 5))) * (M 114 x1))))))))
set_option maxHeartbeats 4000000 in
set_option maxRecDepth 20000 in
theorem t_X12_likes (hst : gj_Stat S) (a1 a2 a3 : Int) {r : Int} (hF : F_X12_likes a1 a2 a3 M = some r) : gj_C G l 2 0 0 yX12_likes cX12_likes 4 (some .int) [jR 79, jI a1, jI a2, jI a3] S M (gj_qI fun x S' M' => r = x ∧ S = S' ∧ M = M') := by
  refine gj_Cof (by decide +kernel) (Nat.le_of_ble_eq_true rfl) ?_
  change gj_W G l 2 0 0 yX12_likes cX12_likes 4 (some .int) (gj_qI fun x S' M' => r = x ∧ S = S' ∧ M = M') 0 0 0 [(0, jR 79), (1, jI a1), (2, jI a2), (3, jI a3)] [] S M
  unfold F_X12_likes at hF
  refine gj_iload_n (q := 1) (gj_dk okX12_likes 0 rfl) rfl rfl ?_
  refine gj_aload_n (q := 2) (gj_dk okX12_likes 1 rfl) rfl rfl ?_
  refine gj_gR (q := 5) (j := 12) (gj_dk okX12_likes 2 rfl) ff_X12_34 (sh79 hst) (by decide) rfl (rf79_12 hst) rfl ?_
  refine gj_iconst (q := 6) (gj_dk okX12_likes 3 rfl) (by decide) rfl ?_
  refine gj_aald (q := 7) (gj_dk okX12_likes 4 rfl) (sh97 hst) (by decide) (by decide) (by decide) (rf97_0 hst) rfl ?_
  refine gj_iconst (q := 8) (gj_dk okX12_likes 5 rfl) (by decide) rfl ?_
  refine gj_iald (q := 9) (gj_dk okX12_likes 6 rfl) (sh98 hst) (by decide) (by decide) rfl ?_
  refine gj_imul (q := 10) (gj_dk okX12_likes 7 rfl) rfl ?_
  refine gj_sipush (q := 13) (gj_dk okX12_likes 8 rfl) (by decide) rfl rfl ?_
  refine gj_iload_n (q := 14) (gj_dk okX12_likes 9 rfl) rfl rfl ?_
  refine gj_isub (q := 15) (gj_dk okX12_likes 10 rfl) rfl ?_
  refine gj_aload_n (q := 16) (gj_dk okX12_likes 11 rfl) rfl rfl ?_
  refine gj_gR (q := 19) (j := 12) (gj_dk okX12_likes 12 rfl) ff_X12_34 (sh79 hst) (by decide) rfl (rf79_12 hst) rfl ?_
  refine gj_iconst (q := 20) (gj_dk okX12_likes 13 rfl) (by decide) rfl ?_
  refine gj_aald (q := 21) (gj_dk okX12_likes 14 rfl) (sh97 hst) (by decide) (by decide) (by decide) (rf97_0 hst) rfl ?_
  refine gj_iconst (q := 22) (gj_dk okX12_likes 15 rfl) (by decide) rfl ?_
  refine gj_iald (q := 23) (gj_dk okX12_likes 16 rfl) (sh98 hst) (by decide) (by decide) rfl ?_
  refine gj_imul (q := 24) (gj_dk okX12_likes 17 rfl) rfl ?_
  refine gj_iadd (q := 25) (gj_dk okX12_likes 18 rfl) rfl ?_
  refine gj_sipush (q := 28) (gj_dk okX12_likes 19 rfl) (by decide) rfl rfl ?_
  refine gj_aload_n (q := 29) (gj_dk okX12_likes 20 rfl) rfl rfl ?_
  refine gj_gR (q := 32) (j := 12) (gj_dk okX12_likes 21 rfl) ff_X12_34 (sh79 hst) (by decide) rfl (rf79_12 hst) rfl ?_
  refine gj_iconst (q := 33) (gj_dk okX12_likes 22 rfl) (by decide) rfl ?_
  refine gj_aald (q := 34) (gj_dk okX12_likes 23 rfl) (sh97 hst) (by decide) (by decide) (by decide) (rf97_0 hst) rfl ?_
  refine gj_iconst (q := 35) (gj_dk okX12_likes 24 rfl) (by decide) rfl ?_
  refine gj_iald (q := 36) (gj_dk okX12_likes 25 rfl) (sh98 hst) (by decide) (by decide) rfl ?_
  refine gj_imul (q := 37) (gj_dk okX12_likes 26 rfl) rfl ?_
  refine gj_aload_n (q := 38) (gj_dk okX12_likes 27 rfl) rfl rfl ?_
  refine gj_gR (q := 41) (j := 26) (gj_dk okX12_likes 28 rfl) ff_X12_95 (sh79 hst) (by decide) rfl (rf79_26 hst) rfl ?_
  refine gj_iload_n (q := 42) (gj_dk okX12_likes 29 rfl) rfl rfl ?_
  refine gj_iload_n (q := 43) (gj_dk okX12_likes 30 rfl) rfl rfl ?_
  refine gj_callS (q := 46) [jI a1, jI a2] rfl (t_X12_two hst a1 a2 rfl) (gj_dk okX12_likes 31 rfl) ml_X12_292 me_X12_two (gj_nm rfl) rfl (gj_kI fun x S2 M2 h => ?_)
  obtain ⟨e, eS, eM⟩ := h; subst eS; subst eM; subst e
  refine gj_stpI hF (fun x1 hF => ?_)
  obtain ⟨b2, hF⟩ := gj_ckd hF
  refine gj_iald (q := 47) (gj_dk okX12_likes 32 rfl) (sh114 hst) b2.1 b2.2 rfl ?_
  refine gj_imul (q := 48) (gj_dk okX12_likes 33 rfl) rfl ?_
  refine gj_iadd (q := 49) (gj_dk okX12_likes 34 rfl) rfl ?_
  cases hF
  exact gj_iret (gj_dk okX12_likes 35 rfl) rfl ⟨_, rfl, rfl, rfl, rfl⟩
def F_X12_likesNow (a1 : Int) (a2 : Int) (M : gj_M) : Option (Int) :=
  gj_letI (f_X12_two a1 a2 M) (fun x1 => gj_chk (0 ≤ x1 ∧ x1 < 16) (gj_letI (f_X12_two a1 a2 M) (fun x3 => gj_chk (0 ≤ x3 ∧ x3 < 16) (gj_bnd (F_X12_shows a1 a2 (M 112 x1) (M 113 x3) 1 M) (fun x5 => gj_bnd (F_X12_likes a1 a2 x5 M) (fun x7 => (some (x7))))))))
set_option maxHeartbeats 4000000 in
set_option maxRecDepth 20000 in
theorem t_X12_likesNow (hst : gj_Stat S) (a1 a2 : Int) {r : Int} (hF : F_X12_likesNow a1 a2 M = some r) : gj_C G l 3 0 0 yX12_likesNow cX12_likesNow 3 (some .int) [jR 79, jI a1, jI a2] S M (gj_qI fun x S' M' => r = x ∧ S = S' ∧ M = M') := by
  refine gj_Cof (by decide +kernel) (Nat.le_of_ble_eq_true rfl) ?_
  change gj_W G l 3 0 0 yX12_likesNow cX12_likesNow 3 (some .int) (gj_qI fun x S' M' => r = x ∧ S = S' ∧ M = M') 0 0 0 [(0, jR 79), (1, jI a1), (2, jI a2)] [] S M
  unfold F_X12_likesNow at hF
  refine gj_aload_n (q := 1) (gj_dk okX12_likesNow 0 rfl) rfl rfl ?_
  refine gj_iload_n (q := 2) (gj_dk okX12_likesNow 1 rfl) rfl rfl ?_
  refine gj_iload_n (q := 3) (gj_dk okX12_likesNow 2 rfl) rfl rfl ?_
  refine gj_aload_n (q := 4) (gj_dk okX12_likesNow 3 rfl) rfl rfl ?_
  refine gj_iload_n (q := 5) (gj_dk okX12_likesNow 4 rfl) rfl rfl ?_
  refine gj_iload_n (q := 6) (gj_dk okX12_likesNow 5 rfl) rfl rfl ?_
  refine gj_aload_n (q := 7) (gj_dk okX12_likesNow 6 rfl) rfl rfl ?_
  refine gj_gR (q := 10) (j := 24) (gj_dk okX12_likesNow 7 rfl) ff_X12_89 (sh79 hst) (by decide) rfl (rf79_24 hst) rfl ?_
  refine gj_iload_n (q := 11) (gj_dk okX12_likesNow 8 rfl) rfl rfl ?_
  refine gj_iload_n (q := 12) (gj_dk okX12_likesNow 9 rfl) rfl rfl ?_
  refine gj_callS (q := 15) [jI a1, jI a2] rfl (t_X12_two hst a1 a2 rfl) (gj_dk okX12_likesNow 10 rfl) ml_X12_292 me_X12_two (gj_nm rfl) rfl (gj_kI fun x S2 M2 h => ?_)
  obtain ⟨e, eS, eM⟩ := h; subst eS; subst eM; subst e
  refine gj_stpI hF (fun x1 hF => ?_)
  obtain ⟨b2, hF⟩ := gj_ckd hF
  refine gj_iald (q := 16) (gj_dk okX12_likesNow 11 rfl) (sh112 hst) b2.1 b2.2 rfl ?_
  refine gj_aload_n (q := 17) (gj_dk okX12_likesNow 12 rfl) rfl rfl ?_
  refine gj_gR (q := 20) (j := 25) (gj_dk okX12_likesNow 13 rfl) ff_X12_92 (sh79 hst) (by decide) rfl (rf79_25 hst) rfl ?_
  refine gj_iload_n (q := 21) (gj_dk okX12_likesNow 14 rfl) rfl rfl ?_
  refine gj_iload_n (q := 22) (gj_dk okX12_likesNow 15 rfl) rfl rfl ?_
  refine gj_callS (q := 25) [jI a1, jI a2] rfl (t_X12_two hst a1 a2 rfl) (gj_dk okX12_likesNow 16 rfl) ml_X12_292 me_X12_two (gj_nm rfl) rfl (gj_kI fun x S2 M2 h => ?_)
  obtain ⟨e, eS, eM⟩ := h; subst eS; subst eM; subst e
  refine gj_stpI hF (fun x3 hF => ?_)
  obtain ⟨b4, hF⟩ := gj_ckd hF
  refine gj_iald (q := 26) (gj_dk okX12_likesNow 17 rfl) (sh113 hst) b4.1 b4.2 rfl ?_
  refine gj_iconst (q := 27) (gj_dk okX12_likesNow 18 rfl) (by decide) rfl ?_
  obtain ⟨x5, hG, hF⟩ := gj_bndd hF
  refine gj_callV (q := 30) (z := 79) (ci := 10) [jI a1, jI a2, jI (M 112 x1), jI (M 113 x3), jI 1] rfl (t_X12_shows hst a1 a2 (M 112 x1) (M 113 x3) 1 hG) (gj_dk okX12_likesNow 19 rfl) ml_X12_303 me_X12_shows (sh79 hst) rfl (gj_nm rfl) rfl (gj_kI fun y S2 M2 h => ?_)
  obtain ⟨e, eS, eM⟩ := h; subst eS; subst eM; subst e; clear hG
  obtain ⟨x7, hG, hF⟩ := gj_bndd hF
  refine gj_callV (q := 33) (z := 79) (ci := 10) [jI a1, jI a2, jI x5] rfl (t_X12_likes hst a1 a2 x5 hG) (gj_dk okX12_likesNow 20 rfl) ml_X12_307 me_X12_likes (sh79 hst) rfl (gj_nm rfl) rfl (gj_kI fun y S2 M2 h => ?_)
  obtain ⟨e, eS, eM⟩ := h; subst eS; subst eM; subst e; clear hG
  cases hF
  exact gj_iret (gj_dk okX12_likesNow 21 rfl) rfl ⟨_, rfl, rfl, rfl, rfl⟩
def F_X12_liking (a1 : Int) (a2 : Int) (M : gj_M) : Option (Int) :=
  gj_bnd (F_X12_who a1 M) (fun x1 => gj_bnd (F_X12_who a2 M) (fun x3 => gj_letI (f_X12_areTwo x1 x3 M) (fun x5 => (if x5 = 0 then (some (-1)) else gj_bnd (F_X12_likesNow x1 x3 M) (fun x6 => (some (x6)))))))
set_option maxHeartbeats 4000000 in
set_option maxRecDepth 20000 in
theorem t_X12_liking (hst : gj_Stat S) (a1 a2 : Int) {r : Int} (hF : F_X12_liking a1 a2 M = some r) : gj_C G l 4 0 0 yX12_liking cX12_liking 5 (some .int) [jR 79, jI a1, jI a2] S M (gj_qI fun x S' M' => r = x ∧ S = S' ∧ M = M') := by
  refine gj_Cof (by decide +kernel) (Nat.le_of_ble_eq_true rfl) ?_
  change gj_W G l 4 0 0 yX12_liking cX12_liking 5 (some .int) (gj_qI fun x S' M' => r = x ∧ S = S' ∧ M = M') 0 0 0 [(0, jR 79), (1, jI a1), (2, jI a2)] [] S M
  unfold F_X12_liking at hF
  refine gj_aload_n (q := 1) (gj_dk okX12_liking 0 rfl) rfl rfl ?_
  refine gj_iload_n (q := 2) (gj_dk okX12_liking 1 rfl) rfl rfl ?_
  obtain ⟨x1, hG, hF⟩ := gj_bndd hF
  refine gj_callV (q := 5) (z := 79) (ci := 10) [jI a1] rfl (t_X12_who hst a1 hG) (gj_dk okX12_liking 2 rfl) ml_X12_281 me_X12_who (sh79 hst) rfl (gj_nm rfl) rfl (gj_kI fun y S2 M2 h => ?_)
  obtain ⟨e, eS, eM⟩ := h; subst eS; subst eM; subst e; clear hG
  refine gj_istore_n (q := 6) (gj_dk okX12_liking 3 rfl) (by decide) rfl ?_
  refine gj_aload_n (q := 7) (gj_dk okX12_liking 4 rfl) rfl rfl ?_
  refine gj_iload_n (q := 8) (gj_dk okX12_liking 5 rfl) rfl rfl ?_
  obtain ⟨x3, hG, hF⟩ := gj_bndd hF
  refine gj_callV (q := 11) (z := 79) (ci := 10) [jI a2] rfl (t_X12_who hst a2 hG) (gj_dk okX12_liking 6 rfl) ml_X12_281 me_X12_who (sh79 hst) rfl (gj_nm rfl) rfl (gj_kI fun y S2 M2 h => ?_)
  obtain ⟨e, eS, eM⟩ := h; subst eS; subst eM; subst e; clear hG
  refine gj_istore (q := 13) (gj_dk okX12_liking 7 rfl) (by decide) rfl ?_
  refine gj_iload_n (q := 14) (gj_dk okX12_liking 8 rfl) rfl rfl ?_
  refine gj_iload (q := 16) (gj_dk okX12_liking 9 rfl) rfl rfl ?_
  refine gj_callS (q := 19) [jI x1, jI x3] rfl (t_X12_areTwo hst x1 x3 rfl) (gj_dk okX12_liking 10 rfl) ml_X12_288 me_X12_areTwo (gj_nm rfl) rfl (gj_kI fun x S2 M2 h => ?_)
  obtain ⟨bz, e, eS, eM⟩ := h; subst eS; subst eM; subst e
  refine gj_stpZ bz hF (fun x5 bx5 hF => ?_)
  refine gj_if_eq (q := 22) (tgt := 32) (gj_dk okX12_liking 11 rfl) (by decide) rfl (fun c19 => ?_) (fun c19 => ?_)
  · -- 32
    replace hF := gj_ift c19 hF
    refine gj_iconst (q := 33) (gj_dk okX12_liking 17 rfl) (by decide) rfl ?_
    cases hF
    exact gj_iret (gj_dk okX12_liking 18 rfl) rfl ⟨_, rfl, rfl, rfl, rfl⟩
  · -- 22
    replace hF := gj_iff c19 hF
    refine gj_aload_n (q := 23) (gj_dk okX12_liking 12 rfl) rfl rfl ?_
    refine gj_iload_n (q := 24) (gj_dk okX12_liking 13 rfl) rfl rfl ?_
    refine gj_iload (q := 26) (gj_dk okX12_liking 14 rfl) rfl rfl ?_
    obtain ⟨x6, hG, hF⟩ := gj_bndd hF
    refine gj_callV (q := 29) (z := 79) (ci := 10) [jI x1, jI x3] rfl (t_X12_likesNow hst x1 x3 hG) (gj_dk okX12_liking 15 rfl) ml_X12_311 me_X12_likesNow (sh79 hst) rfl (gj_nm rfl) rfl (gj_kI fun y S2 M2 h => ?_)
    obtain ⟨e, eS, eM⟩ := h; subst eS; subst eM; subst e; clear hG
    refine gj_goto (tgt := 33) (gj_dk okX12_liking 16 rfl) (by decide) ?_
    cases hF
    exact gj_iret (gj_dk okX12_liking 18 rfl) rfl ⟨_, rfl, rfl, rfl, rfl⟩
def F_X12_isSooner (a1 : Int) (a2 : Int) (a3 : Int) (M : gj_M) : Option (Int) :=
  gj_bnd (F_X12_likesNow a1 a2 M) (fun x1 => gj_bnd (F_X12_likesNow a1 a3 M) (fun x3 => (if x3 < x1 then (some (1)) else (if x1 = x3 then (if a3 ≤ a2 then (some (0)) else (some (1))) else (some (0))))))
set_option maxHeartbeats 4000000 in
set_option maxRecDepth 20000 in
theorem t_X12_isSooner (hst : gj_Stat S) (a1 a2 a3 : Int) {r : Int} (hF : F_X12_isSooner a1 a2 a3 M = some r) : gj_C G l 4 0 0 yX12_isSooner cX12_isSooner 6 (some .boolean) [jR 79, jI a1, jI a2, jI a3] S M (gj_qI fun x S' M' => (x = 0 ∨ x = 1) ∧ r = x ∧ S = S' ∧ M = M') := by
  refine gj_Cof (by decide +kernel) (Nat.le_of_ble_eq_true rfl) ?_
  change gj_W G l 4 0 0 yX12_isSooner cX12_isSooner 6 (some .boolean) (gj_qI fun x S' M' => (x = 0 ∨ x = 1) ∧ r = x ∧ S = S' ∧ M = M') 0 0 0 [(0, jR 79), (1, jI a1), (2, jI a2), (3, jI a3)] [] S M
  unfold F_X12_isSooner at hF
  refine gj_aload_n (q := 1) (gj_dk okX12_isSooner 0 rfl) rfl rfl ?_
  refine gj_iload_n (q := 2) (gj_dk okX12_isSooner 1 rfl) rfl rfl ?_
  refine gj_iload_n (q := 3) (gj_dk okX12_isSooner 2 rfl) rfl rfl ?_
  obtain ⟨x1, hG, hF⟩ := gj_bndd hF
  refine gj_callV (q := 6) (z := 79) (ci := 10) [jI a1, jI a2] rfl (t_X12_likesNow hst a1 a2 hG) (gj_dk okX12_isSooner 3 rfl) ml_X12_311 me_X12_likesNow (sh79 hst) rfl (gj_nm rfl) rfl (gj_kI fun y S2 M2 h => ?_)
  obtain ⟨e, eS, eM⟩ := h; subst eS; subst eM; subst e; clear hG
  refine gj_istore (q := 8) (gj_dk okX12_isSooner 4 rfl) (by decide) rfl ?_
  refine gj_aload_n (q := 9) (gj_dk okX12_isSooner 5 rfl) rfl rfl ?_
  refine gj_iload_n (q := 10) (gj_dk okX12_isSooner 6 rfl) rfl rfl ?_
  refine gj_iload_n (q := 11) (gj_dk okX12_isSooner 7 rfl) rfl rfl ?_
  obtain ⟨x3, hG, hF⟩ := gj_bndd hF
  refine gj_callV (q := 14) (z := 79) (ci := 10) [jI a1, jI a3] rfl (t_X12_likesNow hst a1 a3 hG) (gj_dk okX12_isSooner 8 rfl) ml_X12_311 me_X12_likesNow (sh79 hst) rfl (gj_nm rfl) rfl (gj_kI fun y S2 M2 h => ?_)
  obtain ⟨e, eS, eM⟩ := h; subst eS; subst eM; subst e; clear hG
  refine gj_istore (q := 16) (gj_dk okX12_isSooner 9 rfl) (by decide) rfl ?_
  refine gj_iload (q := 18) (gj_dk okX12_isSooner 10 rfl) rfl rfl ?_
  refine gj_iload (q := 20) (gj_dk okX12_isSooner 11 rfl) rfl rfl ?_
  refine gj_icmp_gt (q := 23) (tgt := 35) (gj_dk okX12_isSooner 12 rfl) (by decide) rfl (fun c20 => ?_) (fun c20 => ?_)
  · -- 35
    replace hF := gj_ift c20 hF
    refine gj_iconst (q := 36) (gj_dk okX12_isSooner 19 rfl) (by decide) rfl ?_
    refine gj_goto (tgt := 40) (gj_dk okX12_isSooner 20 rfl) (by decide) ?_
    cases hF
    exact gj_zret (gj_dk okX12_isSooner 22 rfl) rfl (by decide) ⟨_, rfl, (by decide), rfl, rfl, rfl⟩
  · -- 23
    replace hF := gj_iff c20 hF
    refine gj_iload (q := 25) (gj_dk okX12_isSooner 13 rfl) rfl rfl ?_
    refine gj_iload (q := 27) (gj_dk okX12_isSooner 14 rfl) rfl rfl ?_
    refine gj_icmp_ne (q := 30) (tgt := 39) (gj_dk okX12_isSooner 15 rfl) (by decide) rfl (fun c27 => ?_) (fun c27 => ?_)
    · -- 39
      replace hF := gj_iff c27 hF
      refine gj_iconst (q := 40) (gj_dk okX12_isSooner 21 rfl) (by decide) rfl ?_
      cases hF
      exact gj_zret (gj_dk okX12_isSooner 22 rfl) rfl (by decide) ⟨_, rfl, (by decide), rfl, rfl, rfl⟩
    · -- 30
      replace hF := gj_ift c27 hF
      refine gj_iload_n (q := 31) (gj_dk okX12_isSooner 16 rfl) rfl rfl ?_
      refine gj_iload_n (q := 32) (gj_dk okX12_isSooner 17 rfl) rfl rfl ?_
      refine gj_icmp_ge (q := 35) (tgt := 39) (gj_dk okX12_isSooner 18 rfl) (by decide) rfl (fun c32 => ?_) (fun c32 => ?_)
      · -- 39
        replace hF := gj_ift c32 hF
        refine gj_iconst (q := 40) (gj_dk okX12_isSooner 21 rfl) (by decide) rfl ?_
        cases hF
        exact gj_zret (gj_dk okX12_isSooner 22 rfl) rfl (by decide) ⟨_, rfl, (by decide), rfl, rfl, rfl⟩
      · -- 35
        replace hF := gj_iff c32 hF
        refine gj_iconst (q := 36) (gj_dk okX12_isSooner 19 rfl) (by decide) rfl ?_
        refine gj_goto (tgt := 40) (gj_dk okX12_isSooner 20 rfl) (by decide) ?_
        cases hF
        exact gj_zret (gj_dk okX12_isSooner 22 rfl) rfl (by decide) ⟨_, rfl, (by decide), rfl, rfl, rfl⟩
def F_X12_sooner (a1 : Int) (a2 : Int) (a3 : Int) (M : gj_M) : Option (Int) :=
  gj_bnd (F_X12_who a1 M) (fun x1 => gj_bnd (F_X12_who a2 M) (fun x3 => gj_bnd (F_X12_who a3 M) (fun x5 => gj_letI (f_X12_areTwo x1 x3 M) (fun x7 => (if x7 = 0 then (some (-1)) else gj_letI (f_X12_areTwo x1 x5 M) (fun x8 => (if x8 = 0 then (some (-1)) else gj_bnd (F_X12_isSooner x1 x3 x5 M) (fun x9 => (if x9 = 0 then (some (0)) else (some (1)))))))))))
set_option maxHeartbeats 4000000 in
set_option maxRecDepth 20000 in
theorem t_X12_sooner (hst : gj_Stat S) (a1 a2 a3 : Int) {r : Int} (hF : F_X12_sooner a1 a2 a3 M = some r) : gj_C G l 5 0 0 yX12_sooner cX12_sooner 7 (some .int) [jR 79, jI a1, jI a2, jI a3] S M (gj_qI fun x S' M' => r = x ∧ S = S' ∧ M = M') := by
  refine gj_Cof (by decide +kernel) (Nat.le_of_ble_eq_true rfl) ?_
  change gj_W G l 5 0 0 yX12_sooner cX12_sooner 7 (some .int) (gj_qI fun x S' M' => r = x ∧ S = S' ∧ M = M') 0 0 0 [(0, jR 79), (1, jI a1), (2, jI a2), (3, jI a3)] [] S M
  unfold F_X12_sooner at hF
  refine gj_aload_n (q := 1) (gj_dk okX12_sooner 0 rfl) rfl rfl ?_
  refine gj_iload_n (q := 2) (gj_dk okX12_sooner 1 rfl) rfl rfl ?_
  obtain ⟨x1, hG, hF⟩ := gj_bndd hF
  refine gj_callV (q := 5) (z := 79) (ci := 10) [jI a1] rfl (t_X12_who hst a1 hG) (gj_dk okX12_sooner 2 rfl) ml_X12_281 me_X12_who (sh79 hst) rfl (gj_nm rfl) rfl (gj_kI fun y S2 M2 h => ?_)
  obtain ⟨e, eS, eM⟩ := h; subst eS; subst eM; subst e; clear hG
  refine gj_istore (q := 7) (gj_dk okX12_sooner 3 rfl) (by decide) rfl ?_
  refine gj_aload_n (q := 8) (gj_dk okX12_sooner 4 rfl) rfl rfl ?_
  refine gj_iload_n (q := 9) (gj_dk okX12_sooner 5 rfl) rfl rfl ?_
  obtain ⟨x3, hG, hF⟩ := gj_bndd hF
  refine gj_callV (q := 12) (z := 79) (ci := 10) [jI a2] rfl (t_X12_who hst a2 hG) (gj_dk okX12_sooner 6 rfl) ml_X12_281 me_X12_who (sh79 hst) rfl (gj_nm rfl) rfl (gj_kI fun y S2 M2 h => ?_)
  obtain ⟨e, eS, eM⟩ := h; subst eS; subst eM; subst e; clear hG
  refine gj_istore (q := 14) (gj_dk okX12_sooner 7 rfl) (by decide) rfl ?_
  refine gj_aload_n (q := 15) (gj_dk okX12_sooner 8 rfl) rfl rfl ?_
  refine gj_iload_n (q := 16) (gj_dk okX12_sooner 9 rfl) rfl rfl ?_
  obtain ⟨x5, hG, hF⟩ := gj_bndd hF
  refine gj_callV (q := 19) (z := 79) (ci := 10) [jI a3] rfl (t_X12_who hst a3 hG) (gj_dk okX12_sooner 10 rfl) ml_X12_281 me_X12_who (sh79 hst) rfl (gj_nm rfl) rfl (gj_kI fun y S2 M2 h => ?_)
  obtain ⟨e, eS, eM⟩ := h; subst eS; subst eM; subst e; clear hG
  refine gj_istore (q := 21) (gj_dk okX12_sooner 11 rfl) (by decide) rfl ?_
  refine gj_iload (q := 23) (gj_dk okX12_sooner 12 rfl) rfl rfl ?_
  refine gj_iload (q := 25) (gj_dk okX12_sooner 13 rfl) rfl rfl ?_
  refine gj_callS (q := 28) [jI x1, jI x3] rfl (t_X12_areTwo hst x1 x3 rfl) (gj_dk okX12_sooner 14 rfl) ml_X12_288 me_X12_areTwo (gj_nm rfl) rfl (gj_kI fun x S2 M2 h => ?_)
  obtain ⟨bz, e, eS, eM⟩ := h; subst eS; subst eM; subst e
  refine gj_stpZ bz hF (fun x7 bx7 hF => ?_)
  refine gj_if_eq (q := 31) (tgt := 62) (gj_dk okX12_sooner 15 rfl) (by decide) rfl (fun c28 => ?_) (fun c28 => ?_)
  · -- 62
    replace hF := gj_ift c28 hF
    refine gj_iconst (q := 63) (gj_dk okX12_sooner 30 rfl) (by decide) rfl ?_
    cases hF
    exact gj_iret (gj_dk okX12_sooner 31 rfl) rfl ⟨_, rfl, rfl, rfl, rfl⟩
  · -- 31
    replace hF := gj_iff c28 hF
    refine gj_iload (q := 33) (gj_dk okX12_sooner 16 rfl) rfl rfl ?_
    refine gj_iload (q := 35) (gj_dk okX12_sooner 17 rfl) rfl rfl ?_
    refine gj_callS (q := 38) [jI x1, jI x5] rfl (t_X12_areTwo hst x1 x5 rfl) (gj_dk okX12_sooner 18 rfl) ml_X12_288 me_X12_areTwo (gj_nm rfl) rfl (gj_kI fun x S2 M2 h => ?_)
    obtain ⟨bz, e, eS, eM⟩ := h; subst eS; subst eM; subst e
    refine gj_stpZ bz hF (fun x8 bx8 hF => ?_)
    refine gj_if_eq (q := 41) (tgt := 62) (gj_dk okX12_sooner 19 rfl) (by decide) rfl (fun c38 => ?_) (fun c38 => ?_)
    · -- 62
      replace hF := gj_ift c38 hF
      refine gj_iconst (q := 63) (gj_dk okX12_sooner 30 rfl) (by decide) rfl ?_
      cases hF
      exact gj_iret (gj_dk okX12_sooner 31 rfl) rfl ⟨_, rfl, rfl, rfl, rfl⟩
    · -- 41
      replace hF := gj_iff c38 hF
      refine gj_aload_n (q := 42) (gj_dk okX12_sooner 20 rfl) rfl rfl ?_
      refine gj_iload (q := 44) (gj_dk okX12_sooner 21 rfl) rfl rfl ?_
      refine gj_iload (q := 46) (gj_dk okX12_sooner 22 rfl) rfl rfl ?_
      refine gj_iload (q := 48) (gj_dk okX12_sooner 23 rfl) rfl rfl ?_
      obtain ⟨x9, hG, hF⟩ := gj_bndd hF
      refine gj_callV (q := 51) (z := 79) (ci := 10) [jI x1, jI x3, jI x5] rfl (t_X12_isSooner hst x1 x3 x5 hG) (gj_dk okX12_sooner 24 rfl) ml_X12_314 me_X12_isSooner (sh79 hst) rfl (gj_nm rfl) rfl (gj_kI fun y S2 M2 h => ?_)
      obtain ⟨bx9, e, eS, eM⟩ := h; subst eS; subst eM; subst e; clear hG
      refine gj_if_eq (q := 54) (tgt := 58) (gj_dk okX12_sooner 25 rfl) (by decide) rfl (fun c51 => ?_) (fun c51 => ?_)
      · -- 58
        replace hF := gj_ift c51 hF
        refine gj_iconst (q := 59) (gj_dk okX12_sooner 28 rfl) (by decide) rfl ?_
        refine gj_goto (tgt := 63) (gj_dk okX12_sooner 29 rfl) (by decide) ?_
        cases hF
        exact gj_iret (gj_dk okX12_sooner 31 rfl) rfl ⟨_, rfl, rfl, rfl, rfl⟩
      · -- 54
        replace hF := gj_iff c51 hF
        refine gj_iconst (q := 55) (gj_dk okX12_sooner 26 rfl) (by decide) rfl ?_
        refine gj_goto (tgt := 63) (gj_dk okX12_sooner 27 rfl) (by decide) ?_
        cases hF
        exact gj_iret (gj_dk okX12_sooner 31 rfl) rfl ⟨_, rfl, rfl, rfl, rfl⟩
def F_X12_would (a1 : Int) (a2 : Int) (M : gj_M) : Option (Int) :=
  gj_bnd (F_X12_likesNow a1 a2 M) (fun x1 => gj_chk (0 ≤ a1 ∧ a1 < 8) ((if x1 ≤ gj_w (1000 * (M 83 a1)) then (some (0)) else (some (1)))))
set_option maxHeartbeats 4000000 in
set_option maxRecDepth 20000 in
theorem t_X12_would (hst : gj_Stat S) (a1 a2 : Int) {r : Int} (hF : F_X12_would a1 a2 M = some r) : gj_C G l 4 0 0 yX12_would cX12_would 3 (some .boolean) [jR 79, jI a1, jI a2] S M (gj_qI fun x S' M' => (x = 0 ∨ x = 1) ∧ r = x ∧ S = S' ∧ M = M') := by
  refine gj_Cof (by decide +kernel) (Nat.le_of_ble_eq_true rfl) ?_
  change gj_W G l 4 0 0 yX12_would cX12_would 3 (some .boolean) (gj_qI fun x S' M' => (x = 0 ∨ x = 1) ∧ r = x ∧ S = S' ∧ M = M') 0 0 0 [(0, jR 79), (1, jI a1), (2, jI a2)] [] S M
  unfold F_X12_would at hF
  refine gj_aload_n (q := 1) (gj_dk okX12_would 0 rfl) rfl rfl ?_
  refine gj_iload_n (q := 2) (gj_dk okX12_would 1 rfl) rfl rfl ?_
  refine gj_iload_n (q := 3) (gj_dk okX12_would 2 rfl) rfl rfl ?_
  obtain ⟨x1, hG, hF⟩ := gj_bndd hF
  refine gj_callV (q := 6) (z := 79) (ci := 10) [jI a1, jI a2] rfl (t_X12_likesNow hst a1 a2 hG) (gj_dk okX12_would 3 rfl) ml_X12_311 me_X12_likesNow (sh79 hst) rfl (gj_nm rfl) rfl (gj_kI fun y S2 M2 h => ?_)
  obtain ⟨e, eS, eM⟩ := h; subst eS; subst eM; subst e; clear hG
  refine gj_sipush (q := 9) (gj_dk okX12_would 4 rfl) (by decide) rfl rfl ?_
  refine gj_aload_n (q := 10) (gj_dk okX12_would 5 rfl) rfl rfl ?_
  refine gj_gR (q := 13) (j := 7) (gj_dk okX12_would 6 rfl) ff_X12_19 (sh79 hst) (by decide) rfl (rf79_7 hst) rfl ?_
  refine gj_iconst (q := 14) (gj_dk okX12_would 7 rfl) (by decide) rfl ?_
  refine gj_aald (q := 15) (gj_dk okX12_would 8 rfl) (sh82 hst) (by decide) (by decide) (by decide) (rf82_0 hst) rfl ?_
  refine gj_iload_n (q := 16) (gj_dk okX12_would 9 rfl) rfl rfl ?_
  obtain ⟨b3, hF⟩ := gj_ckd hF
  refine gj_iald (q := 17) (gj_dk okX12_would 10 rfl) (sh83 hst) b3.1 b3.2 rfl ?_
  refine gj_imul (q := 18) (gj_dk okX12_would 11 rfl) rfl ?_
  refine gj_icmp_le (q := 21) (tgt := 25) (gj_dk okX12_would 12 rfl) (by decide) rfl (fun c18 => ?_) (fun c18 => ?_)
  · -- 25
    replace hF := gj_ift c18 hF
    refine gj_iconst (q := 26) (gj_dk okX12_would 15 rfl) (by decide) rfl ?_
    cases hF
    exact gj_zret (gj_dk okX12_would 16 rfl) rfl (by decide) ⟨_, rfl, (by decide), rfl, rfl, rfl⟩
  · -- 21
    replace hF := gj_iff c18 hF
    refine gj_iconst (q := 22) (gj_dk okX12_would 13 rfl) (by decide) rfl ?_
    refine gj_goto (tgt := 26) (gj_dk okX12_would 14 rfl) (by decide) ?_
    cases hF
    exact gj_zret (gj_dk okX12_would 16 rfl) rfl (by decide) ⟨_, rfl, (by decide), rfl, rfl, rfl⟩
def F_X12_both (a1 : Int) (a2 : Int) (M : gj_M) : Option (Int) :=
  gj_bnd (F_X12_would a1 a2 M) (fun x1 => (if x1 = 0 then (some (0)) else gj_bnd (F_X12_would a2 a1 M) (fun x3 => (if x3 = 0 then (some (0)) else (some (1))))))
set_option maxHeartbeats 4000000 in
set_option maxRecDepth 20000 in
theorem t_X12_both (hst : gj_Stat S) (a1 a2 : Int) {r : Int} (hF : F_X12_both a1 a2 M = some r) : gj_C G l 5 0 0 yX12_both cX12_both 3 (some .boolean) [jR 79, jI a1, jI a2] S M (gj_qI fun x S' M' => (x = 0 ∨ x = 1) ∧ r = x ∧ S = S' ∧ M = M') := by
  refine gj_Cof (by decide +kernel) (Nat.le_of_ble_eq_true rfl) ?_
  change gj_W G l 5 0 0 yX12_both cX12_both 3 (some .boolean) (gj_qI fun x S' M' => (x = 0 ∨ x = 1) ∧ r = x ∧ S = S' ∧ M = M') 0 0 0 [(0, jR 79), (1, jI a1), (2, jI a2)] [] S M
  unfold F_X12_both at hF
  refine gj_aload_n (q := 1) (gj_dk okX12_both 0 rfl) rfl rfl ?_
  refine gj_iload_n (q := 2) (gj_dk okX12_both 1 rfl) rfl rfl ?_
  refine gj_iload_n (q := 3) (gj_dk okX12_both 2 rfl) rfl rfl ?_
  obtain ⟨x1, hG, hF⟩ := gj_bndd hF
  refine gj_callV (q := 6) (z := 79) (ci := 10) [jI a1, jI a2] rfl (t_X12_would hst a1 a2 hG) (gj_dk okX12_both 3 rfl) ml_X12_317 me_X12_would (sh79 hst) rfl (gj_nm rfl) rfl (gj_kI fun y S2 M2 h => ?_)
  obtain ⟨bx1, e, eS, eM⟩ := h; subst eS; subst eM; subst e; clear hG
  refine gj_if_eq (q := 9) (tgt := 22) (gj_dk okX12_both 4 rfl) (by decide) rfl (fun c6 => ?_) (fun c6 => ?_)
  · -- 22
    replace hF := gj_ift c6 hF
    refine gj_iconst (q := 23) (gj_dk okX12_both 12 rfl) (by decide) rfl ?_
    cases hF
    exact gj_zret (gj_dk okX12_both 13 rfl) rfl (by decide) ⟨_, rfl, (by decide), rfl, rfl, rfl⟩
  · -- 9
    replace hF := gj_iff c6 hF
    refine gj_aload_n (q := 10) (gj_dk okX12_both 5 rfl) rfl rfl ?_
    refine gj_iload_n (q := 11) (gj_dk okX12_both 6 rfl) rfl rfl ?_
    refine gj_iload_n (q := 12) (gj_dk okX12_both 7 rfl) rfl rfl ?_
    obtain ⟨x3, hG, hF⟩ := gj_bndd hF
    refine gj_callV (q := 15) (z := 79) (ci := 10) [jI a2, jI a1] rfl (t_X12_would hst a2 a1 hG) (gj_dk okX12_both 8 rfl) ml_X12_317 me_X12_would (sh79 hst) rfl (gj_nm rfl) rfl (gj_kI fun y S2 M2 h => ?_)
    obtain ⟨bx3, e, eS, eM⟩ := h; subst eS; subst eM; subst e; clear hG
    refine gj_if_eq (q := 18) (tgt := 22) (gj_dk okX12_both 9 rfl) (by decide) rfl (fun c15 => ?_) (fun c15 => ?_)
    · -- 22
      replace hF := gj_ift c15 hF
      refine gj_iconst (q := 23) (gj_dk okX12_both 12 rfl) (by decide) rfl ?_
      cases hF
      exact gj_zret (gj_dk okX12_both 13 rfl) rfl (by decide) ⟨_, rfl, (by decide), rfl, rfl, rfl⟩
    · -- 18
      replace hF := gj_iff c15 hF
      refine gj_iconst (q := 19) (gj_dk okX12_both 10 rfl) (by decide) rfl ?_
      refine gj_goto (tgt := 23) (gj_dk okX12_both 11 rfl) (by decide) ?_
      cases hF
      exact gj_zret (gj_dk okX12_both 13 rfl) rfl (by decide) ⟨_, rfl, (by decide), rfl, rfl, rfl⟩
def J_X12_lays_156 (rec25 : Int → Int → gj_M → Option (gj_M)) (l1 l2 : Int) (M : gj_M) : Option (gj_M) :=
  rec25 l1 (gj_w (l2 + 1)) M
def B_X12_lays_86 (rec25 : Int → Int → gj_M → Option (gj_M)) (rec86 : Int → Int → Int → Int → gj_M → Option (gj_M)) (l1 l2 l3 l4 : Int) (M : gj_M) : Option (gj_M) :=
  (if 25 ≤ l4 then (J_X12_lays_156 rec25 l1 l2 M) else gj_bnd (F_X12_shows l1 l3 (gj_w (Int.tdiv l4 5)) (Int.tmod l4 5) 1 M) (fun x14 => gj_chk (0 ≤ gj_w ((gj_w (25 * l2)) + l4) ∧ gj_w ((gj_w (25 * l2)) + l4) < 100) (gj_let (gj_up M 117 (gj_w ((gj_w (25 * l2)) + l4)) x14) (fun M17 => gj_chk (0 ≤ gj_w ((gj_w (25 * l2)) + l4) ∧ gj_w ((gj_w (25 * l2)) + l4) < 100) (gj_bnd (F_X12_likes l1 l3 (M17 117 (gj_w ((gj_w (25 * l2)) + l4))) M17) (fun x19 => gj_chk (0 ≤ gj_w ((gj_w (25 * l2)) + l4) ∧ gj_w ((gj_w (25 * l2)) + l4) < 100) (gj_let (gj_up M17 118 (gj_w ((gj_w (25 * l2)) + l4)) x19) (fun M22 => rec86 l1 l2 l3 (gj_w (l4 + 1)) M22))))))))
def B_X12_lays_25 (rec25 : Int → Int → gj_M → Option (gj_M)) (l1 l2 : Int) (M : gj_M) : Option (gj_M) :=
  gj_chk (0 ≤ gj_w (1 - (gj_w (Int.tdiv l1 4))) ∧ gj_w (1 - (gj_w (Int.tdiv l1 4))) < 2) ((if M 101 (gj_w (1 - (gj_w (Int.tdiv l1 4)))) ≤ l2 then (some (M)) else gj_letI (gj_w ((gj_w (4 * (gj_w (1 - (gj_w (Int.tdiv l1 4)))))) + l2)) (fun x5 => gj_letI (f_X12_two l1 x5 M) (fun x6 => gj_chk (0 ≤ x6 ∧ x6 < 16) (gj_chk (0 ≤ l2 ∧ l2 < 4) (gj_let (gj_up M 115 l2 (M 112 x6)) (fun M9 => gj_letI (f_X12_two l1 x5 M9) (fun x10 => gj_chk (0 ≤ x10 ∧ x10 < 16) (gj_chk (0 ≤ l2 ∧ l2 < 4) (gj_let (gj_up M9 116 l2 (M9 113 x10)) (fun M13 => (gj_it (fun _ _ _ _ _ => none) (B_X12_lays_86 rec25) gj_fu l1 l2 x5 0 M13))))))))))))
def F_X12_lays (a1 : Int) (M : gj_M) : Option (gj_M) :=
  gj_let (gj_up M 79 35 a1) (fun M1 => gj_let (gj_up M1 79 36 (M1 98 6)) (fun M2 => gj_let (gj_up M2 79 37 (-1)) (fun M3 => (gj_it (fun _ _ _ => none) (B_X12_lays_25) gj_fu a1 0 M3))))
set_option maxHeartbeats 4000000 in
set_option maxRecDepth 20000 in
theorem t_J_X12_lays_156 (hst : gj_Stat S) {r : gj_M} {rec25 : Int → Int → gj_M → Option (gj_M)} (hrec25 : ∀ (l1 l2 : Int) (M : gj_M), rec25 l1 l2 M = some r → gj_W G l 3 0 0 yX12_lays cX12_lays 5 none (gj_qV fun S' M' => S = S' ∧ r = M') 0 0 25 [(0, jR 79), (1, jI l1), (2, jI l2)] [] S M) (l1 l2 : Int) (M : gj_M) (hF : J_X12_lays_156 rec25 l1 l2 M = some r) : gj_W G l 3 0 0 yX12_lays cX12_lays 5 none (gj_qV fun S' M' => S = S' ∧ r = M') 0 0 156 [(0, jR 79), (1, jI l1), (2, jI l2)] [] S M := by
  unfold J_X12_lays_156 at hF
  refine gj_iinc (q := 159) (v := gj_w (l2 + 1)) (gj_dk okX12_lays 104 rfl) rfl (by decide) rfl rfl ?_
  refine gj_goto (tgt := 25) (gj_dk okX12_lays 105 rfl) (by decide) ?_
  refine gj_sub [(0, jR 79), (1, jI l1), (2, jI (gj_w (l2 + 1)))] ⟨rfl, rfl, rfl, trivial⟩ ?_
  exact hrec25 l1 (gj_w (l2 + 1)) M hF
set_option maxHeartbeats 4000000 in
set_option maxRecDepth 20000 in
theorem t_B_X12_lays_86 (hst : gj_Stat S) {r : gj_M} {rec25 : Int → Int → gj_M → Option (gj_M)} {rec86 : Int → Int → Int → Int → gj_M → Option (gj_M)} (hrec25 : ∀ (l1 l2 : Int) (M : gj_M), rec25 l1 l2 M = some r → gj_W G l 3 0 0 yX12_lays cX12_lays 5 none (gj_qV fun S' M' => S = S' ∧ r = M') 0 0 25 [(0, jR 79), (1, jI l1), (2, jI l2)] [] S M) (hrec86 : ∀ (l1 l2 l3 l4 : Int) (M : gj_M), rec86 l1 l2 l3 l4 M = some r → gj_W G l 3 0 0 yX12_lays cX12_lays 5 none (gj_qV fun S' M' => S = S' ∧ r = M') 0 0 86 [(0, jR 79), (1, jI l1), (2, jI l2), (3, jI l3), (4, jI l4)] [] S M) (l1 l2 l3 l4 : Int) (M : gj_M) (hF : B_X12_lays_86 rec25 rec86 l1 l2 l3 l4 M = some r) : gj_W G l 3 0 0 yX12_lays cX12_lays 5 none (gj_qV fun S' M' => S = S' ∧ r = M') 0 0 86 [(0, jR 79), (1, jI l1), (2, jI l2), (3, jI l3), (4, jI l4)] [] S M := by
  unfold B_X12_lays_86 at hF
  refine gj_iload (q := 88) (gj_dk okX12_lays 60 rfl) rfl rfl ?_
  refine gj_bipush (q := 90) (gj_dk okX12_lays 61 rfl) (by decide) rfl rfl ?_
  refine gj_icmp_ge (q := 93) (tgt := 156) (gj_dk okX12_lays 62 rfl) (by decide) rfl (fun c90 => ?_) (fun c90 => ?_)
  · -- 156
    replace hF := gj_ift c90 hF
    refine gj_sub [(0, jR 79), (1, jI l1), (2, jI l2)] ⟨rfl, rfl, rfl, trivial⟩ ?_
    exact t_J_X12_lays_156 hst hrec25 l1 l2 M hF
  · -- 93
    replace hF := gj_iff c90 hF
    refine gj_aload_n (q := 94) (gj_dk okX12_lays 63 rfl) rfl rfl ?_
    refine gj_gR (q := 97) (j := 33) (gj_dk okX12_lays 64 rfl) ff_X12_104 (sh79 hst) (by decide) rfl (rf79_33 hst) rfl ?_
    refine gj_bipush (q := 99) (gj_dk okX12_lays 65 rfl) (by decide) rfl rfl ?_
    refine gj_iload_n (q := 100) (gj_dk okX12_lays 66 rfl) rfl rfl ?_
    refine gj_imul (q := 101) (gj_dk okX12_lays 67 rfl) rfl ?_
    refine gj_iload (q := 103) (gj_dk okX12_lays 68 rfl) rfl rfl ?_
    refine gj_iadd (q := 104) (gj_dk okX12_lays 69 rfl) rfl ?_
    refine gj_aload_n (q := 105) (gj_dk okX12_lays 70 rfl) rfl rfl ?_
    refine gj_iload_n (q := 106) (gj_dk okX12_lays 71 rfl) rfl rfl ?_
    refine gj_iload_n (q := 107) (gj_dk okX12_lays 72 rfl) rfl rfl ?_
    refine gj_iload (q := 109) (gj_dk okX12_lays 73 rfl) rfl rfl ?_
    refine gj_iconst (q := 110) (gj_dk okX12_lays 74 rfl) (by decide) rfl ?_
    refine gj_idiv (q := 111) (gj_dk okX12_lays 75 rfl) (by decide) rfl ?_
    refine gj_iload (q := 113) (gj_dk okX12_lays 76 rfl) rfl rfl ?_
    refine gj_iconst (q := 114) (gj_dk okX12_lays 77 rfl) (by decide) rfl ?_
    refine gj_irem (q := 115) (gj_dk okX12_lays 78 rfl) (by decide) rfl ?_
    refine gj_iconst (q := 116) (gj_dk okX12_lays 79 rfl) (by decide) rfl ?_
    obtain ⟨x14, hG, hF⟩ := gj_bndd hF
    refine gj_callV (q := 119) (z := 79) (ci := 10) [jI l1, jI l3, jI (gj_w (Int.tdiv l4 5)), jI (Int.tmod l4 5), jI 1] rfl (t_X12_shows hst l1 l3 (gj_w (Int.tdiv l4 5)) (Int.tmod l4 5) 1 hG) (gj_dk okX12_lays 80 rfl) ml_X12_303 me_X12_shows (sh79 hst) rfl (gj_nm rfl) rfl (gj_kI fun y S2 M2 h => ?_)
    obtain ⟨e, eS, eM⟩ := h; subst eS; subst eM; subst e; clear hG
    obtain ⟨b16, hF⟩ := gj_ckd hF
    refine gj_iast (q := 120) (gj_dk okX12_lays 81 rfl) (sh117 hst) b16.1 b16.2 rfl ?_
    refine gj_stp hF (fun M17 hF => ?_)
    refine gj_aload_n (q := 121) (gj_dk okX12_lays 82 rfl) rfl rfl ?_
    refine gj_gR (q := 124) (j := 34) (gj_dk okX12_lays 83 rfl) ff_X12_107 (sh79 hst) (by decide) rfl (rf79_34 hst) rfl ?_
    refine gj_bipush (q := 126) (gj_dk okX12_lays 84 rfl) (by decide) rfl rfl ?_
    refine gj_iload_n (q := 127) (gj_dk okX12_lays 85 rfl) rfl rfl ?_
    refine gj_imul (q := 128) (gj_dk okX12_lays 86 rfl) rfl ?_
    refine gj_iload (q := 130) (gj_dk okX12_lays 87 rfl) rfl rfl ?_
    refine gj_iadd (q := 131) (gj_dk okX12_lays 88 rfl) rfl ?_
    refine gj_aload_n (q := 132) (gj_dk okX12_lays 89 rfl) rfl rfl ?_
    refine gj_iload_n (q := 133) (gj_dk okX12_lays 90 rfl) rfl rfl ?_
    refine gj_iload_n (q := 134) (gj_dk okX12_lays 91 rfl) rfl rfl ?_
    refine gj_aload_n (q := 135) (gj_dk okX12_lays 92 rfl) rfl rfl ?_
    refine gj_gR (q := 138) (j := 33) (gj_dk okX12_lays 93 rfl) ff_X12_104 (sh79 hst) (by decide) rfl (rf79_33 hst) rfl ?_
    refine gj_bipush (q := 140) (gj_dk okX12_lays 94 rfl) (by decide) rfl rfl ?_
    refine gj_iload_n (q := 141) (gj_dk okX12_lays 95 rfl) rfl rfl ?_
    refine gj_imul (q := 142) (gj_dk okX12_lays 96 rfl) rfl ?_
    refine gj_iload (q := 144) (gj_dk okX12_lays 97 rfl) rfl rfl ?_
    refine gj_iadd (q := 145) (gj_dk okX12_lays 98 rfl) rfl ?_
    obtain ⟨b18, hF⟩ := gj_ckd hF
    refine gj_iald (q := 146) (gj_dk okX12_lays 99 rfl) (sh117 hst) b18.1 b18.2 rfl ?_
    obtain ⟨x19, hG, hF⟩ := gj_bndd hF
    refine gj_callV (q := 149) (z := 79) (ci := 10) [jI l1, jI l3, jI (M17 117 (gj_w ((gj_w (25 * l2)) + l4)))] rfl (t_X12_likes hst l1 l3 (M17 117 (gj_w ((gj_w (25 * l2)) + l4))) hG) (gj_dk okX12_lays 100 rfl) ml_X12_307 me_X12_likes (sh79 hst) rfl (gj_nm rfl) rfl (gj_kI fun y S2 M2 h => ?_)
    obtain ⟨e, eS, eM⟩ := h; subst eS; subst eM; subst e; clear hG
    obtain ⟨b21, hF⟩ := gj_ckd hF
    refine gj_iast (q := 150) (gj_dk okX12_lays 101 rfl) (sh118 hst) b21.1 b21.2 rfl ?_
    refine gj_stp hF (fun M22 hF => ?_)
    refine gj_iinc (q := 153) (v := gj_w (l4 + 1)) (gj_dk okX12_lays 102 rfl) rfl (by decide) rfl rfl ?_
    refine gj_goto (tgt := 86) (gj_dk okX12_lays 103 rfl) (by decide) ?_
    refine gj_sub [(0, jR 79), (1, jI l1), (2, jI l2), (3, jI l3), (4, jI (gj_w (l4 + 1)))] ⟨rfl, rfl, rfl, rfl, rfl, trivial⟩ ?_
    exact hrec86 l1 l2 l3 (gj_w (l4 + 1)) M22 hF
theorem t_L_X12_lays_86 (hst : gj_Stat S) {r : gj_M} {rec25 : Int → Int → gj_M → Option (gj_M)} (hrec25 : ∀ (l1 l2 : Int) (M : gj_M), rec25 l1 l2 M = some r → gj_W G l 3 0 0 yX12_lays cX12_lays 5 none (gj_qV fun S' M' => S = S' ∧ r = M') 0 0 25 [(0, jR 79), (1, jI l1), (2, jI l2)] [] S M) : ∀ (m : Nat) (l1 : Int) (l2 : Int) (l3 : Int) (l4 : Int) (M : gj_M), gj_it (fun _ _ _ _ _ => none) (B_X12_lays_86 rec25) m l1 l2 l3 l4 M = some r → gj_W G l 3 0 0 yX12_lays cX12_lays 5 none (gj_qV fun S' M' => S = S' ∧ r = M') 0 0 86 [(0, jR 79), (1, jI l1), (2, jI l2), (3, jI l3), (4, jI l4)] [] S M := by
  intro m
  induction m with
  | zero => intro l1 l2 l3 l4 M hF; cases (show (none : Option (gj_M)) = some r from hF)
  | succ m ih => intro l1 l2 l3 l4 M hF; exact t_B_X12_lays_86 hst hrec25 (fun l1 l2 l3 l4 M h => ih l1 l2 l3 l4 M h) l1 l2 l3 l4 M hF
set_option maxHeartbeats 4000000 in
set_option maxRecDepth 20000 in
theorem t_B_X12_lays_25 (hst : gj_Stat S) {r : gj_M} {rec25 : Int → Int → gj_M → Option (gj_M)} (hrec25 : ∀ (l1 l2 : Int) (M : gj_M), rec25 l1 l2 M = some r → gj_W G l 3 0 0 yX12_lays cX12_lays 5 none (gj_qV fun S' M' => S = S' ∧ r = M') 0 0 25 [(0, jR 79), (1, jI l1), (2, jI l2)] [] S M) (l1 l2 : Int) (M : gj_M) (hF : B_X12_lays_25 rec25 l1 l2 M = some r) : gj_W G l 3 0 0 yX12_lays cX12_lays 5 none (gj_qV fun S' M' => S = S' ∧ r = M') 0 0 25 [(0, jR 79), (1, jI l1), (2, jI l2)] [] S M := by
  unfold B_X12_lays_25 at hF
  refine gj_iload_n (q := 26) (gj_dk okX12_lays 16 rfl) rfl rfl ?_
  refine gj_aload_n (q := 27) (gj_dk okX12_lays 17 rfl) rfl rfl ?_
  refine gj_gR (q := 30) (j := 13) (gj_dk okX12_lays 18 rfl) ff_X12_37 (sh79 hst) (by decide) rfl (rf79_13 hst) rfl ?_
  refine gj_iconst (q := 31) (gj_dk okX12_lays 19 rfl) (by decide) rfl ?_
  refine gj_aald (q := 32) (gj_dk okX12_lays 20 rfl) (sh100 hst) (by decide) (by decide) (by decide) (rf100_0 hst) rfl ?_
  refine gj_iconst (q := 33) (gj_dk okX12_lays 21 rfl) (by decide) rfl ?_
  refine gj_iload_n (q := 34) (gj_dk okX12_lays 22 rfl) rfl rfl ?_
  refine gj_iconst (q := 35) (gj_dk okX12_lays 23 rfl) (by decide) rfl ?_
  refine gj_idiv (q := 36) (gj_dk okX12_lays 24 rfl) (by decide) rfl ?_
  refine gj_isub (q := 37) (gj_dk okX12_lays 25 rfl) rfl ?_
  obtain ⟨b4, hF⟩ := gj_ckd hF
  refine gj_iald (q := 38) (gj_dk okX12_lays 26 rfl) (sh101 hst) b4.1 b4.2 rfl ?_
  refine gj_icmp_ge (q := 41) (tgt := 162) (gj_dk okX12_lays 27 rfl) (by decide) rfl (fun c38 => ?_) (fun c38 => ?_)
  · -- 162
    replace hF := gj_ift c38 hF
    cases hF
    exact gj_vret (gj_dk okX12_lays 106 rfl) rfl ⟨rfl, rfl, rfl⟩
  · -- 41
    replace hF := gj_iff c38 hF
    refine gj_iconst (q := 42) (gj_dk okX12_lays 28 rfl) (by decide) rfl ?_
    refine gj_iconst (q := 43) (gj_dk okX12_lays 29 rfl) (by decide) rfl ?_
    refine gj_iload_n (q := 44) (gj_dk okX12_lays 30 rfl) rfl rfl ?_
    refine gj_iconst (q := 45) (gj_dk okX12_lays 31 rfl) (by decide) rfl ?_
    refine gj_idiv (q := 46) (gj_dk okX12_lays 32 rfl) (by decide) rfl ?_
    refine gj_isub (q := 47) (gj_dk okX12_lays 33 rfl) rfl ?_
    refine gj_imul (q := 48) (gj_dk okX12_lays 34 rfl) rfl ?_
    refine gj_iload_n (q := 49) (gj_dk okX12_lays 35 rfl) rfl rfl ?_
    refine gj_iadd (q := 50) (gj_dk okX12_lays 36 rfl) rfl ?_
    refine gj_stpI hF (fun x5 hF => ?_)
    refine gj_istore_n (q := 51) (gj_dk okX12_lays 37 rfl) (by decide) rfl ?_
    refine gj_aload_n (q := 52) (gj_dk okX12_lays 38 rfl) rfl rfl ?_
    refine gj_gR (q := 55) (j := 31) (gj_dk okX12_lays 39 rfl) ff_X12_98 (sh79 hst) (by decide) rfl (rf79_31 hst) rfl ?_
    refine gj_iload_n (q := 56) (gj_dk okX12_lays 40 rfl) rfl rfl ?_
    refine gj_aload_n (q := 57) (gj_dk okX12_lays 41 rfl) rfl rfl ?_
    refine gj_gR (q := 60) (j := 24) (gj_dk okX12_lays 42 rfl) ff_X12_89 (sh79 hst) (by decide) rfl (rf79_24 hst) rfl ?_
    refine gj_iload_n (q := 61) (gj_dk okX12_lays 43 rfl) rfl rfl ?_
    refine gj_iload_n (q := 62) (gj_dk okX12_lays 44 rfl) rfl rfl ?_
    refine gj_callS (q := 65) [jI l1, jI x5] rfl (t_X12_two hst l1 x5 rfl) (gj_dk okX12_lays 45 rfl) ml_X12_292 me_X12_two (gj_nm rfl) rfl (gj_kI fun x S2 M2 h => ?_)
    obtain ⟨e, eS, eM⟩ := h; subst eS; subst eM; subst e
    refine gj_stpI hF (fun x6 hF => ?_)
    obtain ⟨b7, hF⟩ := gj_ckd hF
    refine gj_iald (q := 66) (gj_dk okX12_lays 46 rfl) (sh112 hst) b7.1 b7.2 rfl ?_
    obtain ⟨b8, hF⟩ := gj_ckd hF
    refine gj_iast (q := 67) (gj_dk okX12_lays 47 rfl) (sh115 hst) b8.1 b8.2 rfl ?_
    refine gj_stp hF (fun M9 hF => ?_)
    refine gj_aload_n (q := 68) (gj_dk okX12_lays 48 rfl) rfl rfl ?_
    refine gj_gR (q := 71) (j := 32) (gj_dk okX12_lays 49 rfl) ff_X12_101 (sh79 hst) (by decide) rfl (rf79_32 hst) rfl ?_
    refine gj_iload_n (q := 72) (gj_dk okX12_lays 50 rfl) rfl rfl ?_
    refine gj_aload_n (q := 73) (gj_dk okX12_lays 51 rfl) rfl rfl ?_
    refine gj_gR (q := 76) (j := 25) (gj_dk okX12_lays 52 rfl) ff_X12_92 (sh79 hst) (by decide) rfl (rf79_25 hst) rfl ?_
    refine gj_iload_n (q := 77) (gj_dk okX12_lays 53 rfl) rfl rfl ?_
    refine gj_iload_n (q := 78) (gj_dk okX12_lays 54 rfl) rfl rfl ?_
    refine gj_callS (q := 81) [jI l1, jI x5] rfl (t_X12_two hst l1 x5 rfl) (gj_dk okX12_lays 55 rfl) ml_X12_292 me_X12_two (gj_nm rfl) rfl (gj_kI fun x S2 M2 h => ?_)
    obtain ⟨e, eS, eM⟩ := h; subst eS; subst eM; subst e
    refine gj_stpI hF (fun x10 hF => ?_)
    obtain ⟨b11, hF⟩ := gj_ckd hF
    refine gj_iald (q := 82) (gj_dk okX12_lays 56 rfl) (sh113 hst) b11.1 b11.2 rfl ?_
    obtain ⟨b12, hF⟩ := gj_ckd hF
    refine gj_iast (q := 83) (gj_dk okX12_lays 57 rfl) (sh116 hst) b12.1 b12.2 rfl ?_
    refine gj_stp hF (fun M13 hF => ?_)
    refine gj_iconst (q := 84) (gj_dk okX12_lays 58 rfl) (by decide) rfl ?_
    refine gj_istore (q := 86) (gj_dk okX12_lays 59 rfl) (by decide) rfl ?_
    refine gj_sub [(0, jR 79), (1, jI l1), (2, jI l2), (3, jI x5), (4, jI 0)] ⟨rfl, rfl, rfl, rfl, rfl, trivial⟩ ?_
    exact t_L_X12_lays_86 hst hrec25 gj_fu l1 l2 x5 0 M13 hF
theorem t_L_X12_lays_25 (hst : gj_Stat S) {r : gj_M} : ∀ (m : Nat) (l1 : Int) (l2 : Int) (M : gj_M), gj_it (fun _ _ _ => none) (B_X12_lays_25) m l1 l2 M = some r → gj_W G l 3 0 0 yX12_lays cX12_lays 5 none (gj_qV fun S' M' => S = S' ∧ r = M') 0 0 25 [(0, jR 79), (1, jI l1), (2, jI l2)] [] S M := by
  intro m
  induction m with
  | zero => intro l1 l2 M hF; cases (show (none : Option (gj_M)) = some r from hF)
  | succ m ih => intro l1 l2 M hF; exact t_B_X12_lays_25 hst (fun l1 l2 M h => ih l1 l2 M h) l1 l2 M hF
set_option maxHeartbeats 4000000 in
set_option maxRecDepth 20000 in
theorem t_X12_lays (hst : gj_Stat S) (a1 : Int) {r : gj_M} (hF : F_X12_lays a1 M = some r) : gj_C G l 3 0 0 yX12_lays cX12_lays 5 none [jR 79, jI a1] S M (gj_qV fun S' M' => S = S' ∧ r = M') := by
  refine gj_Cof (by decide +kernel) (Nat.le_of_ble_eq_true rfl) ?_
  change gj_W G l 3 0 0 yX12_lays cX12_lays 5 none (gj_qV fun S' M' => S = S' ∧ r = M') 0 0 0 [(0, jR 79), (1, jI a1)] [] S M
  unfold F_X12_lays at hF
  refine gj_aload_n (q := 1) (gj_dk okX12_lays 0 rfl) rfl rfl ?_
  refine gj_iload_n (q := 2) (gj_dk okX12_lays 1 rfl) rfl rfl ?_
  refine gj_pfI (q := 5) (j := 35) (gj_dk okX12_lays 2 rfl) ff_X12_320 (sh79 hst) (by decide) rfl rfl ?_
  refine gj_stp hF (fun M1 hF => ?_)
  refine gj_aload_n (q := 6) (gj_dk okX12_lays 3 rfl) rfl rfl ?_
  refine gj_aload_n (q := 7) (gj_dk okX12_lays 4 rfl) rfl rfl ?_
  refine gj_gR (q := 10) (j := 12) (gj_dk okX12_lays 5 rfl) ff_X12_34 (sh79 hst) (by decide) rfl (rf79_12 hst) rfl ?_
  refine gj_iconst (q := 11) (gj_dk okX12_lays 6 rfl) (by decide) rfl ?_
  refine gj_aald (q := 12) (gj_dk okX12_lays 7 rfl) (sh97 hst) (by decide) (by decide) (by decide) (rf97_0 hst) rfl ?_
  refine gj_bipush (q := 14) (gj_dk okX12_lays 8 rfl) (by decide) rfl rfl ?_
  refine gj_iald (q := 15) (gj_dk okX12_lays 9 rfl) (sh98 hst) (by decide) (by decide) rfl ?_
  refine gj_pfI (q := 18) (j := 36) (gj_dk okX12_lays 10 rfl) ff_X12_323 (sh79 hst) (by decide) rfl rfl ?_
  refine gj_stp hF (fun M2 hF => ?_)
  refine gj_aload_n (q := 19) (gj_dk okX12_lays 11 rfl) rfl rfl ?_
  refine gj_iconst (q := 20) (gj_dk okX12_lays 12 rfl) (by decide) rfl ?_
  refine gj_pfI (q := 23) (j := 37) (gj_dk okX12_lays 13 rfl) ff_X12_110 (sh79 hst) (by decide) rfl rfl ?_
  refine gj_stp hF (fun M3 hF => ?_)
  refine gj_iconst (q := 24) (gj_dk okX12_lays 14 rfl) (by decide) rfl ?_
  refine gj_istore_n (q := 25) (gj_dk okX12_lays 15 rfl) (by decide) rfl ?_
  refine gj_sub [(0, jR 79), (1, jI a1), (2, jI 0)] ⟨rfl, rfl, rfl, trivial⟩ ?_
  exact t_L_X12_lays_25 hst gj_fu a1 0 M3 hF
def F_X12_othersMany (M : gj_M) : Option (Int) :=
  gj_chk (0 ≤ gj_w (1 - (gj_w (Int.tdiv (M 79 35) 4))) ∧ gj_w (1 - (gj_w (Int.tdiv (M 79 35) 4))) < 2) ((some (M 101 (gj_w (1 - (gj_w (Int.tdiv (M 79 35) 4)))))))
set_option maxHeartbeats 4000000 in
set_option maxRecDepth 20000 in
theorem t_X12_othersMany (hst : gj_Stat S) {r : Int} (hF : F_X12_othersMany M = some r) : gj_C G l 1 0 0 yX12_othersMany cX12_othersMany 1 (some .int) [jR 79] S M (gj_qI fun x S' M' => r = x ∧ S = S' ∧ M = M') := by
  refine gj_Cof (by decide +kernel) (Nat.le_of_ble_eq_true rfl) ?_
  change gj_W G l 1 0 0 yX12_othersMany cX12_othersMany 1 (some .int) (gj_qI fun x S' M' => r = x ∧ S = S' ∧ M = M') 0 0 0 [(0, jR 79)] [] S M
  unfold F_X12_othersMany at hF
  refine gj_aload_n (q := 1) (gj_dk okX12_othersMany 0 rfl) rfl rfl ?_
  refine gj_gR (q := 4) (j := 13) (gj_dk okX12_othersMany 1 rfl) ff_X12_37 (sh79 hst) (by decide) rfl (rf79_13 hst) rfl ?_
  refine gj_iconst (q := 5) (gj_dk okX12_othersMany 2 rfl) (by decide) rfl ?_
  refine gj_aald (q := 6) (gj_dk okX12_othersMany 3 rfl) (sh100 hst) (by decide) (by decide) (by decide) (rf100_0 hst) rfl ?_
  refine gj_iconst (q := 7) (gj_dk okX12_othersMany 4 rfl) (by decide) rfl ?_
  refine gj_aload_n (q := 8) (gj_dk okX12_othersMany 5 rfl) rfl rfl ?_
  refine gj_gI (q := 11) (j := 35) (gj_dk okX12_othersMany 6 rfl) ff_X12_320 (sh79 hst) (by decide) rfl rfl ?_
  refine gj_iconst (q := 12) (gj_dk okX12_othersMany 7 rfl) (by decide) rfl ?_
  refine gj_idiv (q := 13) (gj_dk okX12_othersMany 8 rfl) (by decide) rfl ?_
  refine gj_isub (q := 14) (gj_dk okX12_othersMany 9 rfl) rfl ?_
  obtain ⟨b1, hF⟩ := gj_ckd hF
  refine gj_iald (q := 15) (gj_dk okX12_othersMany 10 rfl) (sh101 hst) b1.1 b1.2 rfl ?_
  cases hF
  exact gj_iret (gj_dk okX12_othersMany 11 rfl) rfl ⟨_, rfl, rfl, rfl, rfl⟩
def J_X12_with_66 (rec : Int → Int → Int → gj_M → Option (Int × gj_M)) (l1 l2 l3 l5 s0 s1 : Int) (M : gj_M) : Option (Int × gj_M) :=
  gj_chk (0 ≤ l1 ∧ l1 < 4) (gj_chk (0 ≤ l1 ∧ l1 < 4) (gj_chk (0 ≤ l1 ∧ l1 < 4) (gj_let (gj_up M 115 l1 (f_min 4 (gj_w ((M 115 l1) + 1)))) (fun M9 => gj_bnd2 (rec l1 (gj_w (l2 + 1)) (gj_w (l3 - 1)) M9) (fun x10 M11 => gj_chk (0 ≤ l1 ∧ l1 < 4) (gj_let (gj_up M11 115 l1 (M 115 l1)) (fun M13 => gj_chk (0 ≤ l1 ∧ l1 < 4) (gj_let (gj_up M13 116 l1 (f_min 4 (gj_w ((M 116 l1) + 1)))) (fun M15 => gj_bnd2 (rec l1 (gj_w (l2 + 1)) (gj_w (l3 - 1)) M15) (fun x16 M17 => gj_letI (gj_wl ((gj_wl (l5 * x10)) + (gj_wl ((gj_w (1000 - l5)) * x16)))) (fun x18 => gj_chk (0 ≤ l1 ∧ l1 < 4) (gj_let (gj_up M17 116 l1 (M 116 l1)) (fun M20 => (some ((gj_w ((gj_w (s0 + s1)) + (gj_w (gj_wl (Int.tdiv x18 1000)))), M20))))))))))))))))
def F_X12_with (rec : Int → Int → Int → gj_M → Option (Int × gj_M)) (a1 : Int) (a2 : Int) (a3 : Int) (M : gj_M) : Option (Int × gj_M) :=
  gj_chk (0 ≤ a1 ∧ a1 < 4) (gj_chk (0 ≤ a1 ∧ a1 < 4) (gj_letI (gj_w ((gj_w ((gj_w (25 * a1)) + (gj_w (5 * (M 115 a1))))) + (M 116 a1))) (fun x3 => gj_chk (0 ≤ x3 ∧ x3 < 100) (gj_chk (0 ≤ x3 ∧ x3 < 100) ((if a2 < M 98 2 then (J_X12_with_66 rec a1 a2 a3 (M 117 x3) (M 118 x3) 0 M) else (J_X12_with_66 rec a1 a2 a3 (M 117 x3) (M 118 x3) (gj_w (1000 * (M 98 3))) M)))))))
set_option maxHeartbeats 4000000 in
set_option maxRecDepth 20000 in
theorem t_J_X12_with_66 (hst : gj_Stat S) {dd : Nat} (hdd : 4 ≤ dd) {rec : Int → Int → Int → gj_M → Option (Int × gj_M)} (hrec : ∀ (a1 a2 a3 : Int) (M : gj_M) (r : Int × gj_M), rec a1 a2 a3 M = some r → gj_C G l dd 0 0 yX12_worth cX12_worth 8 (some .int) [jR 79, jI a1, jI a2, jI a3] S M (gj_qI fun x S' M' => r.1 = x ∧ S = S' ∧ r.2 = M')) {r : Int × gj_M} (l1 l2 l3 l5 s0 s1 : Int) (M : gj_M) (hF : J_X12_with_66 rec l1 l2 l3 l5 s0 s1 M = some r) : gj_W G l ((dd + 1)) 0 0 yX12_with cX12_with 11 (some .int) (gj_qI fun x S' M' => r.1 = x ∧ S = S' ∧ r.2 = M') 0 0 66 [(0, jR 79), (1, jI l1), (2, jI l2), (3, jI l3), (5, jI l5)] [jI s1, jI s0] S M := by
  unfold J_X12_with_66 at hF
  refine gj_iadd (q := 67) (gj_dk okX12_with 43 rfl) rfl ?_
  refine gj_istore (q := 69) (gj_dk okX12_with 44 rfl) (by decide) rfl ?_
  refine gj_aload_n (q := 70) (gj_dk okX12_with 45 rfl) rfl rfl ?_
  refine gj_gR (q := 73) (j := 31) (gj_dk okX12_with 46 rfl) ff_X12_98 (sh79 hst) (by decide) rfl (rf79_31 hst) rfl ?_
  refine gj_iload_n (q := 74) (gj_dk okX12_with 47 rfl) rfl rfl ?_
  obtain ⟨b6, hF⟩ := gj_ckd hF
  refine gj_iald (q := 75) (gj_dk okX12_with 48 rfl) (sh115 hst) b6.1 b6.2 rfl ?_
  refine gj_istore (q := 77) (gj_dk okX12_with 49 rfl) (by decide) rfl ?_
  refine gj_aload_n (q := 78) (gj_dk okX12_with 50 rfl) rfl rfl ?_
  refine gj_gR (q := 81) (j := 32) (gj_dk okX12_with 51 rfl) ff_X12_101 (sh79 hst) (by decide) rfl (rf79_32 hst) rfl ?_
  refine gj_iload_n (q := 82) (gj_dk okX12_with 52 rfl) rfl rfl ?_
  obtain ⟨b7, hF⟩ := gj_ckd hF
  refine gj_iald (q := 83) (gj_dk okX12_with 53 rfl) (sh116 hst) b7.1 b7.2 rfl ?_
  refine gj_istore (q := 85) (gj_dk okX12_with 54 rfl) (by decide) rfl ?_
  refine gj_aload_n (q := 86) (gj_dk okX12_with 55 rfl) rfl rfl ?_
  refine gj_gR (q := 89) (j := 31) (gj_dk okX12_with 56 rfl) ff_X12_98 (sh79 hst) (by decide) rfl (rf79_31 hst) rfl ?_
  refine gj_iload_n (q := 90) (gj_dk okX12_with 57 rfl) rfl rfl ?_
  refine gj_iconst (q := 91) (gj_dk okX12_with 58 rfl) (by decide) rfl ?_
  refine gj_iload (q := 93) (gj_dk okX12_with 59 rfl) rfl rfl ?_
  refine gj_iconst (q := 94) (gj_dk okX12_with 60 rfl) (by decide) rfl ?_
  refine gj_iadd (q := 95) (gj_dk okX12_with 61 rfl) rfl ?_
  refine gj_mmin (q := 98) (gj_dk okX12_with 62 rfl) ml_X12_325 ⟨by omega, Nat.le_of_ble_eq_true rfl⟩ rfl ?_
  obtain ⟨b8, hF⟩ := gj_ckd hF
  refine gj_iast (q := 99) (gj_dk okX12_with 63 rfl) (sh115 hst) b8.1 b8.2 rfl ?_
  refine gj_stp hF (fun M9 hF => ?_)
  refine gj_iload (q := 101) (gj_dk okX12_with 64 rfl) rfl rfl ?_
  refine gj_i2l (q := 102) (gj_dk okX12_with 65 rfl) rfl ?_
  refine gj_aload_n (q := 103) (gj_dk okX12_with 66 rfl) rfl rfl ?_
  refine gj_iload_n (q := 104) (gj_dk okX12_with 67 rfl) rfl rfl ?_
  refine gj_iload_n (q := 105) (gj_dk okX12_with 68 rfl) rfl rfl ?_
  refine gj_iconst (q := 106) (gj_dk okX12_with 69 rfl) (by decide) rfl ?_
  refine gj_iadd (q := 107) (gj_dk okX12_with 70 rfl) rfl ?_
  refine gj_iload_n (q := 108) (gj_dk okX12_with 71 rfl) rfl rfl ?_
  refine gj_iconst (q := 109) (gj_dk okX12_with 72 rfl) (by decide) rfl ?_
  refine gj_isub (q := 110) (gj_dk okX12_with 73 rfl) rfl ?_
  obtain ⟨x10, M11, hG, hF⟩ := gj_bnd2d hF
  refine gj_callV (q := 113) (z := 79) (ci := 10) [jI l1, jI (gj_w (l2 + 1)), jI (gj_w (l3 - 1))] rfl (hrec l1 (gj_w (l2 + 1)) (gj_w (l3 - 1)) _ _ hG) (gj_dk okX12_with 74 rfl) ml_X12_330 me_X12_worth (sh79 hst) rfl ⟨by omega, Nat.le_of_ble_eq_true rfl, rfl, Nat.le_of_ble_eq_true rfl, by omega, by omega⟩ rfl (gj_kI fun y S2 M2 h => ?_)
  obtain ⟨e, eS, eM⟩ := h; subst eS; subst eM; subst e; clear hG
  dsimp only
  refine gj_i2l (q := 114) (gj_dk okX12_with 75 rfl) rfl ?_
  refine gj_lmul (q := 115) (gj_dk okX12_with 76 rfl) rfl ?_
  refine gj_lstore (q := 117) (gj_dk okX12_with 77 rfl) (by decide) rfl ?_
  refine gj_aload_n (q := 118) (gj_dk okX12_with 78 rfl) rfl rfl ?_
  refine gj_gR (q := 121) (j := 31) (gj_dk okX12_with 79 rfl) ff_X12_98 (sh79 hst) (by decide) rfl (rf79_31 hst) rfl ?_
  refine gj_iload_n (q := 122) (gj_dk okX12_with 80 rfl) rfl rfl ?_
  refine gj_iload (q := 124) (gj_dk okX12_with 81 rfl) rfl rfl ?_
  obtain ⟨b12, hF⟩ := gj_ckd hF
  refine gj_iast (q := 125) (gj_dk okX12_with 82 rfl) (sh115 hst) b12.1 b12.2 rfl ?_
  refine gj_stp hF (fun M13 hF => ?_)
  refine gj_aload_n (q := 126) (gj_dk okX12_with 83 rfl) rfl rfl ?_
  refine gj_gR (q := 129) (j := 32) (gj_dk okX12_with 84 rfl) ff_X12_101 (sh79 hst) (by decide) rfl (rf79_32 hst) rfl ?_
  refine gj_iload_n (q := 130) (gj_dk okX12_with 85 rfl) rfl rfl ?_
  refine gj_iconst (q := 131) (gj_dk okX12_with 86 rfl) (by decide) rfl ?_
  refine gj_iload (q := 133) (gj_dk okX12_with 87 rfl) rfl rfl ?_
  refine gj_iconst (q := 134) (gj_dk okX12_with 88 rfl) (by decide) rfl ?_
  refine gj_iadd (q := 135) (gj_dk okX12_with 89 rfl) rfl ?_
  refine gj_mmin (q := 138) (gj_dk okX12_with 90 rfl) ml_X12_325 ⟨by omega, Nat.le_of_ble_eq_true rfl⟩ rfl ?_
  obtain ⟨b14, hF⟩ := gj_ckd hF
  refine gj_iast (q := 139) (gj_dk okX12_with 91 rfl) (sh116 hst) b14.1 b14.2 rfl ?_
  refine gj_stp hF (fun M15 hF => ?_)
  refine gj_lload (q := 141) (gj_dk okX12_with 92 rfl) rfl rfl ?_
  refine gj_sipush (q := 144) (gj_dk okX12_with 93 rfl) (by decide) rfl rfl ?_
  refine gj_iload (q := 146) (gj_dk okX12_with 94 rfl) rfl rfl ?_
  refine gj_isub (q := 147) (gj_dk okX12_with 95 rfl) rfl ?_
  refine gj_i2l (q := 148) (gj_dk okX12_with 96 rfl) rfl ?_
  refine gj_aload_n (q := 149) (gj_dk okX12_with 97 rfl) rfl rfl ?_
  refine gj_iload_n (q := 150) (gj_dk okX12_with 98 rfl) rfl rfl ?_
  refine gj_iload_n (q := 151) (gj_dk okX12_with 99 rfl) rfl rfl ?_
  refine gj_iconst (q := 152) (gj_dk okX12_with 100 rfl) (by decide) rfl ?_
  refine gj_iadd (q := 153) (gj_dk okX12_with 101 rfl) rfl ?_
  refine gj_iload_n (q := 154) (gj_dk okX12_with 102 rfl) rfl rfl ?_
  refine gj_iconst (q := 155) (gj_dk okX12_with 103 rfl) (by decide) rfl ?_
  refine gj_isub (q := 156) (gj_dk okX12_with 104 rfl) rfl ?_
  obtain ⟨x16, M17, hG, hF⟩ := gj_bnd2d hF
  refine gj_callV (q := 159) (z := 79) (ci := 10) [jI l1, jI (gj_w (l2 + 1)), jI (gj_w (l3 - 1))] rfl (hrec l1 (gj_w (l2 + 1)) (gj_w (l3 - 1)) _ _ hG) (gj_dk okX12_with 105 rfl) ml_X12_330 me_X12_worth (sh79 hst) rfl ⟨by omega, Nat.le_of_ble_eq_true rfl, rfl, Nat.le_of_ble_eq_true rfl, by omega, by omega⟩ rfl (gj_kI fun y S2 M2 h => ?_)
  obtain ⟨e, eS, eM⟩ := h; subst eS; subst eM; subst e; clear hG
  dsimp only
  refine gj_i2l (q := 160) (gj_dk okX12_with 106 rfl) rfl ?_
  refine gj_lmul (q := 161) (gj_dk okX12_with 107 rfl) rfl ?_
  refine gj_ladd (q := 162) (gj_dk okX12_with 108 rfl) rfl ?_
  refine gj_stpL hF (fun x18 hF => ?_)
  refine gj_lstore (q := 164) (gj_dk okX12_with 109 rfl) (by decide) rfl ?_
  refine gj_aload_n (q := 165) (gj_dk okX12_with 110 rfl) rfl rfl ?_
  refine gj_gR (q := 168) (j := 32) (gj_dk okX12_with 111 rfl) ff_X12_101 (sh79 hst) (by decide) rfl (rf79_32 hst) rfl ?_
  refine gj_iload_n (q := 169) (gj_dk okX12_with 112 rfl) rfl rfl ?_
  refine gj_iload (q := 171) (gj_dk okX12_with 113 rfl) rfl rfl ?_
  obtain ⟨b19, hF⟩ := gj_ckd hF
  refine gj_iast (q := 172) (gj_dk okX12_with 114 rfl) (sh116 hst) b19.1 b19.2 rfl ?_
  refine gj_stp hF (fun M20 hF => ?_)
  refine gj_iload (q := 174) (gj_dk okX12_with 115 rfl) rfl rfl ?_
  refine gj_lload (q := 176) (gj_dk okX12_with 116 rfl) rfl rfl ?_
  refine gj_ldc2 (q := 179) (z := 1000) (gj_dk okX12_with 117 rfl) kl_X12_299 (by decide) rfl ?_
  refine gj_ldiv (q := 180) (gj_dk okX12_with 118 rfl) (by decide) rfl ?_
  refine gj_l2i (q := 181) (gj_dk okX12_with 119 rfl) rfl ?_
  refine gj_iadd (q := 182) (gj_dk okX12_with 120 rfl) rfl ?_
  cases hF
  exact gj_iret (gj_dk okX12_with 121 rfl) rfl ⟨_, rfl, rfl, rfl, rfl⟩
set_option maxHeartbeats 4000000 in
set_option maxRecDepth 20000 in
theorem t_X12_with (hst : gj_Stat S) {dd : Nat} (hdd : 4 ≤ dd) {rec : Int → Int → Int → gj_M → Option (Int × gj_M)} (hrec : ∀ (a1 a2 a3 : Int) (M : gj_M) (r : Int × gj_M), rec a1 a2 a3 M = some r → gj_C G l dd 0 0 yX12_worth cX12_worth 8 (some .int) [jR 79, jI a1, jI a2, jI a3] S M (gj_qI fun x S' M' => r.1 = x ∧ S = S' ∧ r.2 = M')) (a1 a2 a3 : Int) {r : Int × gj_M} (hF : F_X12_with rec a1 a2 a3 M = some r) : gj_C G l ((dd + 1)) 0 0 yX12_with cX12_with 11 (some .int) [jR 79, jI a1, jI a2, jI a3] S M (gj_qI fun x S' M' => r.1 = x ∧ S = S' ∧ r.2 = M') := by
  refine gj_Cof (by decide +kernel) (Nat.le_of_ble_eq_true rfl) ?_
  change gj_W G l ((dd + 1)) 0 0 yX12_with cX12_with 11 (some .int) (gj_qI fun x S' M' => r.1 = x ∧ S = S' ∧ r.2 = M') 0 0 0 [(0, jR 79), (1, jI a1), (2, jI a2), (3, jI a3)] [] S M
  unfold F_X12_with at hF
  refine gj_bipush (q := 2) (gj_dk okX12_with 0 rfl) (by decide) rfl rfl ?_
  refine gj_iload_n (q := 3) (gj_dk okX12_with 1 rfl) rfl rfl ?_
  refine gj_imul (q := 4) (gj_dk okX12_with 2 rfl) rfl ?_
  refine gj_iconst (q := 5) (gj_dk okX12_with 3 rfl) (by decide) rfl ?_
  refine gj_aload_n (q := 6) (gj_dk okX12_with 4 rfl) rfl rfl ?_
  refine gj_gR (q := 9) (j := 31) (gj_dk okX12_with 5 rfl) ff_X12_98 (sh79 hst) (by decide) rfl (rf79_31 hst) rfl ?_
  refine gj_iload_n (q := 10) (gj_dk okX12_with 6 rfl) rfl rfl ?_
  obtain ⟨b1, hF⟩ := gj_ckd hF
  refine gj_iald (q := 11) (gj_dk okX12_with 7 rfl) (sh115 hst) b1.1 b1.2 rfl ?_
  refine gj_imul (q := 12) (gj_dk okX12_with 8 rfl) rfl ?_
  refine gj_iadd (q := 13) (gj_dk okX12_with 9 rfl) rfl ?_
  refine gj_aload_n (q := 14) (gj_dk okX12_with 10 rfl) rfl rfl ?_
  refine gj_gR (q := 17) (j := 32) (gj_dk okX12_with 11 rfl) ff_X12_101 (sh79 hst) (by decide) rfl (rf79_32 hst) rfl ?_
  refine gj_iload_n (q := 18) (gj_dk okX12_with 12 rfl) rfl rfl ?_
  obtain ⟨b2, hF⟩ := gj_ckd hF
  refine gj_iald (q := 19) (gj_dk okX12_with 13 rfl) (sh116 hst) b2.1 b2.2 rfl ?_
  refine gj_iadd (q := 20) (gj_dk okX12_with 14 rfl) rfl ?_
  refine gj_stpI hF (fun x3 hF => ?_)
  refine gj_istore (q := 22) (gj_dk okX12_with 15 rfl) (by decide) rfl ?_
  refine gj_aload_n (q := 23) (gj_dk okX12_with 16 rfl) rfl rfl ?_
  refine gj_gR (q := 26) (j := 33) (gj_dk okX12_with 17 rfl) ff_X12_104 (sh79 hst) (by decide) rfl (rf79_33 hst) rfl ?_
  refine gj_iload (q := 28) (gj_dk okX12_with 18 rfl) rfl rfl ?_
  obtain ⟨b4, hF⟩ := gj_ckd hF
  refine gj_iald (q := 29) (gj_dk okX12_with 19 rfl) (sh117 hst) b4.1 b4.2 rfl ?_
  refine gj_istore (q := 31) (gj_dk okX12_with 20 rfl) (by decide) rfl ?_
  refine gj_aload_n (q := 32) (gj_dk okX12_with 21 rfl) rfl rfl ?_
  refine gj_gR (q := 35) (j := 34) (gj_dk okX12_with 22 rfl) ff_X12_107 (sh79 hst) (by decide) rfl (rf79_34 hst) rfl ?_
  refine gj_iload (q := 37) (gj_dk okX12_with 23 rfl) rfl rfl ?_
  obtain ⟨b5, hF⟩ := gj_ckd hF
  refine gj_iald (q := 38) (gj_dk okX12_with 24 rfl) (sh118 hst) b5.1 b5.2 rfl ?_
  refine gj_iload_n (q := 39) (gj_dk okX12_with 25 rfl) rfl rfl ?_
  refine gj_aload_n (q := 40) (gj_dk okX12_with 26 rfl) rfl rfl ?_
  refine gj_gR (q := 43) (j := 12) (gj_dk okX12_with 27 rfl) ff_X12_34 (sh79 hst) (by decide) rfl (rf79_12 hst) rfl ?_
  refine gj_iconst (q := 44) (gj_dk okX12_with 28 rfl) (by decide) rfl ?_
  refine gj_aald (q := 45) (gj_dk okX12_with 29 rfl) (sh97 hst) (by decide) (by decide) (by decide) (rf97_0 hst) rfl ?_
  refine gj_iconst (q := 46) (gj_dk okX12_with 30 rfl) (by decide) rfl ?_
  refine gj_iald (q := 47) (gj_dk okX12_with 31 rfl) (sh98 hst) (by decide) (by decide) rfl ?_
  refine gj_icmp_lt (q := 50) (tgt := 65) (gj_dk okX12_with 32 rfl) (by decide) rfl (fun c47 => ?_) (fun c47 => ?_)
  · -- 65
    replace hF := gj_ift c47 hF
    refine gj_iconst (q := 66) (gj_dk okX12_with 42 rfl) (by decide) rfl ?_
    refine gj_sub [(0, jR 79), (1, jI a1), (2, jI a2), (3, jI a3), (5, jI (M 117 x3))] ⟨rfl, rfl, rfl, rfl, rfl, trivial⟩ ?_
    exact t_J_X12_with_66 hst hdd hrec a1 a2 a3 (M 117 x3) (M 118 x3) 0 M hF
  · -- 50
    replace hF := gj_iff c47 hF
    refine gj_sipush (q := 53) (gj_dk okX12_with 33 rfl) (by decide) rfl rfl ?_
    refine gj_aload_n (q := 54) (gj_dk okX12_with 34 rfl) rfl rfl ?_
    refine gj_gR (q := 57) (j := 12) (gj_dk okX12_with 35 rfl) ff_X12_34 (sh79 hst) (by decide) rfl (rf79_12 hst) rfl ?_
    refine gj_iconst (q := 58) (gj_dk okX12_with 36 rfl) (by decide) rfl ?_
    refine gj_aald (q := 59) (gj_dk okX12_with 37 rfl) (sh97 hst) (by decide) (by decide) (by decide) (rf97_0 hst) rfl ?_
    refine gj_iconst (q := 60) (gj_dk okX12_with 38 rfl) (by decide) rfl ?_
    refine gj_iald (q := 61) (gj_dk okX12_with 39 rfl) (sh98 hst) (by decide) (by decide) rfl ?_
    refine gj_imul (q := 62) (gj_dk okX12_with 40 rfl) rfl ?_
    refine gj_goto (tgt := 66) (gj_dk okX12_with 41 rfl) (by decide) ?_
    refine gj_sub [(0, jR 79), (1, jI a1), (2, jI a2), (3, jI a3), (5, jI (M 117 x3))] ⟨rfl, rfl, rfl, rfl, rfl, trivial⟩ ?_
    exact t_J_X12_with_66 hst hdd hrec a1 a2 a3 (M 117 x3) (M 118 x3) (gj_w (1000 * (M 98 3))) M hF
def J_X12_by_23 (rec : Int → Int → Int → gj_M → Option (Int × gj_M)) (l1 l2 l3 l4 s0 : Int) (M : gj_M) : Option (Int × gj_M) :=
  (if l4 = -1 then gj_chk (0 ≤ M 79 35 ∧ M 79 35 < 8) (gj_bnd2 (rec (-1) 0 (gj_w (l3 - 1)) M) (fun x6 M7 => (some ((gj_w ((gj_w ((gj_w (1000 * (M 83 (M 79 35)))) - s0)) + x6), M7))))) else (if l4 = l1 then gj_bnd2 (F_X12_with rec l4 l2 l3 M) (fun x3 M4 => (some ((gj_w (x3 - s0), M4)))) else gj_bnd2 (F_X12_with rec l4 0 l3 M) (fun x1 M2 => (some ((gj_w (x1 - s0), M2))))))
def F_X12_by (rec : Int → Int → Int → gj_M → Option (Int × gj_M)) (a1 : Int) (a2 : Int) (a3 : Int) (a4 : Int) (M : gj_M) : Option (Int × gj_M) :=
  (if a1 = -1 then (J_X12_by_23 rec a1 a2 a3 a4 0 M) else (if a4 = a1 then (J_X12_by_23 rec a1 a2 a3 a4 0 M) else (J_X12_by_23 rec a1 a2 a3 a4 (gj_w (1000 * (M 79 36))) M)))
set_option maxHeartbeats 4000000 in
set_option maxRecDepth 20000 in
theorem t_J_X12_by_23 (hst : gj_Stat S) {dd : Nat} (hdd : 4 ≤ dd) {rec : Int → Int → Int → gj_M → Option (Int × gj_M)} (hrec : ∀ (a1 a2 a3 : Int) (M : gj_M) (r : Int × gj_M), rec a1 a2 a3 M = some r → gj_C G l dd 0 0 yX12_worth cX12_worth 8 (some .int) [jR 79, jI a1, jI a2, jI a3] S M (gj_qI fun x S' M' => r.1 = x ∧ S = S' ∧ r.2 = M')) {r : Int × gj_M} (l1 l2 l3 l4 s0 : Int) (M : gj_M) (hF : J_X12_by_23 rec l1 l2 l3 l4 s0 M = some r) : gj_W G l ((dd + 2)) 0 0 yX12_by cX12_by 6 (some .int) (gj_qI fun x S' M' => r.1 = x ∧ S = S' ∧ r.2 = M') 0 0 23 [(0, jR 79), (1, jI l1), (2, jI l2), (3, jI l3), (4, jI l4)] [jI s0] S M := by
  unfold J_X12_by_23 at hF
  refine gj_istore (q := 25) (gj_dk okX12_by 12 rfl) (by decide) rfl ?_
  refine gj_iload (q := 27) (gj_dk okX12_by 13 rfl) rfl rfl ?_
  refine gj_iconst (q := 28) (gj_dk okX12_by 14 rfl) (by decide) rfl ?_
  refine gj_icmp_ne (q := 31) (tgt := 60) (gj_dk okX12_by 15 rfl) (by decide) rfl (fun c28 => ?_) (fun c28 => ?_)
  · -- 60
    replace hF := gj_iff c28 hF
    refine gj_aload_n (q := 61) (gj_dk okX12_by 36 rfl) rfl rfl ?_
    refine gj_iload (q := 63) (gj_dk okX12_by 37 rfl) rfl rfl ?_
    refine gj_iload (q := 65) (gj_dk okX12_by 38 rfl) rfl rfl ?_
    refine gj_iload_n (q := 66) (gj_dk okX12_by 39 rfl) rfl rfl ?_
    refine gj_icmp_ne (q := 69) (tgt := 73) (gj_dk okX12_by 40 rfl) (by decide) rfl (fun c66 => ?_) (fun c66 => ?_)
    · -- 73
      replace hF := gj_iff c66 hF
      refine gj_iconst (q := 74) (gj_dk okX12_by 43 rfl) (by decide) rfl ?_
      refine gj_iload_n (q := 75) (gj_dk okX12_by 44 rfl) rfl rfl ?_
      obtain ⟨x1, M2, hG, hF⟩ := gj_bnd2d hF
      refine gj_callV (q := 78) (z := 79) (ci := 10) [jI l4, jI 0, jI l3] rfl (t_X12_with hst hdd hrec l4 0 l3 hG) (gj_dk okX12_by 45 rfl) ml_X12_332 me_X12_with (sh79 hst) rfl ⟨by omega, Nat.le_of_ble_eq_true rfl, rfl, Nat.le_of_ble_eq_true rfl, by omega, by omega⟩ rfl (gj_kI fun y S2 M2 h => ?_)
      obtain ⟨e, eS, eM⟩ := h; subst eS; subst eM; subst e; clear hG
      dsimp only
      refine gj_iload (q := 80) (gj_dk okX12_by 46 rfl) rfl rfl ?_
      refine gj_isub (q := 81) (gj_dk okX12_by 47 rfl) rfl ?_
      cases hF
      exact gj_iret (gj_dk okX12_by 48 rfl) rfl ⟨_, rfl, rfl, rfl, rfl⟩
    · -- 69
      replace hF := gj_ift c66 hF
      refine gj_iload_n (q := 70) (gj_dk okX12_by 41 rfl) rfl rfl ?_
      refine gj_goto (tgt := 74) (gj_dk okX12_by 42 rfl) (by decide) ?_
      refine gj_iload_n (q := 75) (gj_dk okX12_by 44 rfl) rfl rfl ?_
      obtain ⟨x3, M4, hG, hF⟩ := gj_bnd2d hF
      refine gj_callV (q := 78) (z := 79) (ci := 10) [jI l4, jI l2, jI l3] rfl (t_X12_with hst hdd hrec l4 l2 l3 hG) (gj_dk okX12_by 45 rfl) ml_X12_332 me_X12_with (sh79 hst) rfl ⟨by omega, Nat.le_of_ble_eq_true rfl, rfl, Nat.le_of_ble_eq_true rfl, by omega, by omega⟩ rfl (gj_kI fun y S2 M2 h => ?_)
      obtain ⟨e, eS, eM⟩ := h; subst eS; subst eM; subst e; clear hG
      dsimp only
      refine gj_iload (q := 80) (gj_dk okX12_by 46 rfl) rfl rfl ?_
      refine gj_isub (q := 81) (gj_dk okX12_by 47 rfl) rfl ?_
      cases hF
      exact gj_iret (gj_dk okX12_by 48 rfl) rfl ⟨_, rfl, rfl, rfl, rfl⟩
  · -- 31
    replace hF := gj_ift c28 hF
    refine gj_sipush (q := 34) (gj_dk okX12_by 16 rfl) (by decide) rfl rfl ?_
    refine gj_aload_n (q := 35) (gj_dk okX12_by 17 rfl) rfl rfl ?_
    refine gj_gR (q := 38) (j := 7) (gj_dk okX12_by 18 rfl) ff_X12_19 (sh79 hst) (by decide) rfl (rf79_7 hst) rfl ?_
    refine gj_iconst (q := 39) (gj_dk okX12_by 19 rfl) (by decide) rfl ?_
    refine gj_aald (q := 40) (gj_dk okX12_by 20 rfl) (sh82 hst) (by decide) (by decide) (by decide) (rf82_0 hst) rfl ?_
    refine gj_aload_n (q := 41) (gj_dk okX12_by 21 rfl) rfl rfl ?_
    refine gj_gI (q := 44) (j := 35) (gj_dk okX12_by 22 rfl) ff_X12_320 (sh79 hst) (by decide) rfl rfl ?_
    obtain ⟨b5, hF⟩ := gj_ckd hF
    refine gj_iald (q := 45) (gj_dk okX12_by 23 rfl) (sh83 hst) b5.1 b5.2 rfl ?_
    refine gj_imul (q := 46) (gj_dk okX12_by 24 rfl) rfl ?_
    refine gj_iload (q := 48) (gj_dk okX12_by 25 rfl) rfl rfl ?_
    refine gj_isub (q := 49) (gj_dk okX12_by 26 rfl) rfl ?_
    refine gj_aload_n (q := 50) (gj_dk okX12_by 27 rfl) rfl rfl ?_
    refine gj_iconst (q := 51) (gj_dk okX12_by 28 rfl) (by decide) rfl ?_
    refine gj_iconst (q := 52) (gj_dk okX12_by 29 rfl) (by decide) rfl ?_
    refine gj_iload_n (q := 53) (gj_dk okX12_by 30 rfl) rfl rfl ?_
    refine gj_iconst (q := 54) (gj_dk okX12_by 31 rfl) (by decide) rfl ?_
    refine gj_isub (q := 55) (gj_dk okX12_by 32 rfl) rfl ?_
    obtain ⟨x6, M7, hG, hF⟩ := gj_bnd2d hF
    refine gj_callV (q := 58) (z := 79) (ci := 10) [jI (-1), jI 0, jI (gj_w (l3 - 1))] rfl (hrec (-1) 0 (gj_w (l3 - 1)) _ _ hG) (gj_dk okX12_by 33 rfl) ml_X12_330 me_X12_worth (sh79 hst) rfl ⟨by omega, Nat.le_of_ble_eq_true rfl, rfl, Nat.le_of_ble_eq_true rfl, by omega, by omega⟩ rfl (gj_kI fun y S2 M2 h => ?_)
    obtain ⟨e, eS, eM⟩ := h; subst eS; subst eM; subst e; clear hG
    dsimp only
    refine gj_iadd (q := 59) (gj_dk okX12_by 34 rfl) rfl ?_
    cases hF
    exact gj_iret (gj_dk okX12_by 35 rfl) rfl ⟨_, rfl, rfl, rfl, rfl⟩
set_option maxHeartbeats 4000000 in
set_option maxRecDepth 20000 in
theorem t_X12_by (hst : gj_Stat S) {dd : Nat} (hdd : 4 ≤ dd) {rec : Int → Int → Int → gj_M → Option (Int × gj_M)} (hrec : ∀ (a1 a2 a3 : Int) (M : gj_M) (r : Int × gj_M), rec a1 a2 a3 M = some r → gj_C G l dd 0 0 yX12_worth cX12_worth 8 (some .int) [jR 79, jI a1, jI a2, jI a3] S M (gj_qI fun x S' M' => r.1 = x ∧ S = S' ∧ r.2 = M')) (a1 a2 a3 a4 : Int) {r : Int × gj_M} (hF : F_X12_by rec a1 a2 a3 a4 M = some r) : gj_C G l ((dd + 2)) 0 0 yX12_by cX12_by 6 (some .int) [jR 79, jI a1, jI a2, jI a3, jI a4] S M (gj_qI fun x S' M' => r.1 = x ∧ S = S' ∧ r.2 = M') := by
  refine gj_Cof (by decide +kernel) (Nat.le_of_ble_eq_true rfl) ?_
  change gj_W G l ((dd + 2)) 0 0 yX12_by cX12_by 6 (some .int) (gj_qI fun x S' M' => r.1 = x ∧ S = S' ∧ r.2 = M') 0 0 0 [(0, jR 79), (1, jI a1), (2, jI a2), (3, jI a3), (4, jI a4)] [] S M
  unfold F_X12_by at hF
  refine gj_iload_n (q := 1) (gj_dk okX12_by 0 rfl) rfl rfl ?_
  refine gj_iconst (q := 2) (gj_dk okX12_by 1 rfl) (by decide) rfl ?_
  refine gj_icmp_eq (q := 5) (tgt := 22) (gj_dk okX12_by 2 rfl) (by decide) rfl (fun c2 => ?_) (fun c2 => ?_)
  · -- 22
    replace hF := gj_ift c2 hF
    refine gj_iconst (q := 23) (gj_dk okX12_by 11 rfl) (by decide) rfl ?_
    refine gj_sub [(0, jR 79), (1, jI a1), (2, jI a2), (3, jI a3), (4, jI a4)] ⟨rfl, rfl, rfl, rfl, rfl, trivial⟩ ?_
    exact t_J_X12_by_23 hst hdd hrec a1 a2 a3 a4 0 M hF
  · -- 5
    replace hF := gj_iff c2 hF
    refine gj_iload (q := 7) (gj_dk okX12_by 3 rfl) rfl rfl ?_
    refine gj_iload_n (q := 8) (gj_dk okX12_by 4 rfl) rfl rfl ?_
    refine gj_icmp_eq (q := 11) (tgt := 22) (gj_dk okX12_by 5 rfl) (by decide) rfl (fun c8 => ?_) (fun c8 => ?_)
    · -- 22
      replace hF := gj_ift c8 hF
      refine gj_iconst (q := 23) (gj_dk okX12_by 11 rfl) (by decide) rfl ?_
      refine gj_sub [(0, jR 79), (1, jI a1), (2, jI a2), (3, jI a3), (4, jI a4)] ⟨rfl, rfl, rfl, rfl, rfl, trivial⟩ ?_
      exact t_J_X12_by_23 hst hdd hrec a1 a2 a3 a4 0 M hF
    · -- 11
      replace hF := gj_iff c8 hF
      refine gj_sipush (q := 14) (gj_dk okX12_by 6 rfl) (by decide) rfl rfl ?_
      refine gj_aload_n (q := 15) (gj_dk okX12_by 7 rfl) rfl rfl ?_
      refine gj_gI (q := 18) (j := 36) (gj_dk okX12_by 8 rfl) ff_X12_323 (sh79 hst) (by decide) rfl rfl ?_
      refine gj_imul (q := 19) (gj_dk okX12_by 9 rfl) rfl ?_
      refine gj_goto (tgt := 23) (gj_dk okX12_by 10 rfl) (by decide) ?_
      refine gj_sub [(0, jR 79), (1, jI a1), (2, jI a2), (3, jI a3), (4, jI a4)] ⟨rfl, rfl, rfl, rfl, rfl, trivial⟩ ?_
      exact t_J_X12_by_23 hst hdd hrec a1 a2 a3 a4 (gj_w (1000 * (M 79 36))) M hF
def J_X12_worth_99 (rec : Int → Int → Int → gj_M → Option (Int × gj_M)) (l4 l5 : Int) (M : gj_M) : Option (Int × gj_M) :=
  gj_let (gj_up M 79 38 l4) (fun M9 => (some ((l5, M9))))
def J_X12_worth_93 (rec : Int → Int → Int → gj_M → Option (Int × gj_M)) (rec31 : Int → Int → Int → Int → Int → Int → gj_M → Option (Int × gj_M)) (l1 l2 l3 l4 l5 l6 : Int) (M : gj_M) : Option (Int × gj_M) :=
  rec31 l1 l2 l3 l4 l5 (gj_w (l6 + 1)) M
def B_X12_worth_31 (rec : Int → Int → Int → gj_M → Option (Int × gj_M)) (rec31 : Int → Int → Int → Int → Int → Int → gj_M → Option (Int × gj_M)) (l1 l2 l3 l4 l5 l6 : Int) (M : gj_M) : Option (Int × gj_M) :=
  gj_bnd (F_X12_othersMany M) (fun x3 => (if x3 ≤ l6 then (J_X12_worth_99 rec l4 l5 M) else (if l6 = l1 then (J_X12_worth_93 rec rec31 l1 l2 l3 l4 l5 l6 M) else (if l6 = -1 then gj_bnd2 (F_X12_by rec l1 l2 l3 l6 M) (fun x5 M6 => (if l5 < x5 then (J_X12_worth_93 rec rec31 l1 l2 l3 l6 x5 l6 M6) else (J_X12_worth_93 rec rec31 l1 l2 l3 l4 l5 l6 M6))) else (if l6 = M 79 37 then (J_X12_worth_93 rec rec31 l1 l2 l3 l4 l5 l6 M) else gj_bnd2 (F_X12_by rec l1 l2 l3 l6 M) (fun x7 M8 => (if l5 < x7 then (J_X12_worth_93 rec rec31 l1 l2 l3 l6 x7 l6 M8) else (J_X12_worth_93 rec rec31 l1 l2 l3 l4 l5 l6 M8))))))))
def J_X12_worth_29 (rec : Int → Int → Int → gj_M → Option (Int × gj_M)) (l1 l2 l3 l4 l5 s0 : Int) (M : gj_M) : Option (Int × gj_M) :=
  (gj_it (fun _ _ _ _ _ _ _ => none) (B_X12_worth_31 rec) gj_fu l1 l2 l3 l4 l5 s0 M)
def F_X12_worth (rec : Int → Int → Int → gj_M → Option (Int × gj_M)) (a1 : Int) (a2 : Int) (a3 : Int) (M : gj_M) : Option (Int × gj_M) :=
  (if a3 = 0 then (some ((0, M))) else gj_bnd2 (F_X12_by rec a1 a2 a3 a1 M) (fun x1 M2 => (if a1 = -1 then (J_X12_worth_29 rec a1 a2 a3 a1 x1 0 M2) else (J_X12_worth_29 rec a1 a2 a3 a1 x1 (-1) M2))))
set_option maxHeartbeats 4000000 in
set_option maxRecDepth 20000 in
theorem t_J_X12_worth_99 (hst : gj_Stat S) {dd : Nat} (hdd : 4 ≤ dd) {rec : Int → Int → Int → gj_M → Option (Int × gj_M)} (hrec : ∀ (a1 a2 a3 : Int) (M : gj_M) (r : Int × gj_M), rec a1 a2 a3 M = some r → gj_C G l dd 0 0 yX12_worth cX12_worth 8 (some .int) [jR 79, jI a1, jI a2, jI a3] S M (gj_qI fun x S' M' => r.1 = x ∧ S = S' ∧ r.2 = M')) {r : Int × gj_M} (l4 l5 : Int) (M : gj_M) (hF : J_X12_worth_99 rec l4 l5 M = some r) : gj_W G l ((dd + 3)) 0 0 yX12_worth cX12_worth 8 (some .int) (gj_qI fun x S' M' => r.1 = x ∧ S = S' ∧ r.2 = M') 0 0 99 [(0, jR 79), (4, jI l4), (5, jI l5)] [] S M := by
  unfold J_X12_worth_99 at hF
  refine gj_aload_n (q := 100) (gj_dk okX12_worth 52 rfl) rfl rfl ?_
  refine gj_iload (q := 102) (gj_dk okX12_worth 53 rfl) rfl rfl ?_
  refine gj_pfI (q := 105) (j := 38) (gj_dk okX12_worth 54 rfl) ff_X12_342 (sh79 hst) (by decide) rfl rfl ?_
  refine gj_stp hF (fun M9 hF => ?_)
  refine gj_iload (q := 107) (gj_dk okX12_worth 55 rfl) rfl rfl ?_
  cases hF
  exact gj_iret (gj_dk okX12_worth 56 rfl) rfl ⟨_, rfl, rfl, rfl, rfl⟩
set_option maxHeartbeats 4000000 in
set_option maxRecDepth 20000 in
theorem t_J_X12_worth_93 (hst : gj_Stat S) {dd : Nat} (hdd : 4 ≤ dd) {rec : Int → Int → Int → gj_M → Option (Int × gj_M)} (hrec : ∀ (a1 a2 a3 : Int) (M : gj_M) (r : Int × gj_M), rec a1 a2 a3 M = some r → gj_C G l dd 0 0 yX12_worth cX12_worth 8 (some .int) [jR 79, jI a1, jI a2, jI a3] S M (gj_qI fun x S' M' => r.1 = x ∧ S = S' ∧ r.2 = M')) {r : Int × gj_M} {rec31 : Int → Int → Int → Int → Int → Int → gj_M → Option (Int × gj_M)} (hrec31 : ∀ (l1 l2 l3 l4 l5 l6 : Int) (M : gj_M), rec31 l1 l2 l3 l4 l5 l6 M = some r → gj_W G l ((dd + 3)) 0 0 yX12_worth cX12_worth 8 (some .int) (gj_qI fun x S' M' => r.1 = x ∧ S = S' ∧ r.2 = M') 0 0 31 [(0, jR 79), (1, jI l1), (2, jI l2), (3, jI l3), (4, jI l4), (5, jI l5), (6, jI l6)] [] S M) (l1 l2 l3 l4 l5 l6 : Int) (M : gj_M) (hF : J_X12_worth_93 rec rec31 l1 l2 l3 l4 l5 l6 M = some r) : gj_W G l ((dd + 3)) 0 0 yX12_worth cX12_worth 8 (some .int) (gj_qI fun x S' M' => r.1 = x ∧ S = S' ∧ r.2 = M') 0 0 93 [(0, jR 79), (1, jI l1), (2, jI l2), (3, jI l3), (4, jI l4), (5, jI l5), (6, jI l6)] [] S M := by
  unfold J_X12_worth_93 at hF
  refine gj_iinc (q := 96) (v := gj_w (l6 + 1)) (gj_dk okX12_worth 50 rfl) rfl (by decide) rfl rfl ?_
  refine gj_goto (tgt := 31) (gj_dk okX12_worth 51 rfl) (by decide) ?_
  refine gj_sub [(0, jR 79), (1, jI l1), (2, jI l2), (3, jI l3), (4, jI l4), (5, jI l5), (6, jI (gj_w (l6 + 1)))] ⟨rfl, rfl, rfl, rfl, rfl, rfl, rfl, trivial⟩ ?_
  exact hrec31 l1 l2 l3 l4 l5 (gj_w (l6 + 1)) M hF
set_option maxHeartbeats 4000000 in
set_option maxRecDepth 20000 in
theorem t_B_X12_worth_31 (hst : gj_Stat S) {dd : Nat} (hdd : 4 ≤ dd) {rec : Int → Int → Int → gj_M → Option (Int × gj_M)} (hrec : ∀ (a1 a2 a3 : Int) (M : gj_M) (r : Int × gj_M), rec a1 a2 a3 M = some r → gj_C G l dd 0 0 yX12_worth cX12_worth 8 (some .int) [jR 79, jI a1, jI a2, jI a3] S M (gj_qI fun x S' M' => r.1 = x ∧ S = S' ∧ r.2 = M')) {r : Int × gj_M} {rec31 : Int → Int → Int → Int → Int → Int → gj_M → Option (Int × gj_M)} (hrec31 : ∀ (l1 l2 l3 l4 l5 l6 : Int) (M : gj_M), rec31 l1 l2 l3 l4 l5 l6 M = some r → gj_W G l ((dd + 3)) 0 0 yX12_worth cX12_worth 8 (some .int) (gj_qI fun x S' M' => r.1 = x ∧ S = S' ∧ r.2 = M') 0 0 31 [(0, jR 79), (1, jI l1), (2, jI l2), (3, jI l3), (4, jI l4), (5, jI l5), (6, jI l6)] [] S M) (l1 l2 l3 l4 l5 l6 : Int) (M : gj_M) (hF : B_X12_worth_31 rec rec31 l1 l2 l3 l4 l5 l6 M = some r) : gj_W G l ((dd + 3)) 0 0 yX12_worth cX12_worth 8 (some .int) (gj_qI fun x S' M' => r.1 = x ∧ S = S' ∧ r.2 = M') 0 0 31 [(0, jR 79), (1, jI l1), (2, jI l2), (3, jI l3), (4, jI l4), (5, jI l5), (6, jI l6)] [] S M := by
  unfold B_X12_worth_31 at hF
  refine gj_iload (q := 33) (gj_dk okX12_worth 20 rfl) rfl rfl ?_
  refine gj_aload_n (q := 34) (gj_dk okX12_worth 21 rfl) rfl rfl ?_
  obtain ⟨x3, hG, hF⟩ := gj_bndd hF
  refine gj_callV (q := 37) (z := 79) (ci := 10) [] rfl (t_X12_othersMany hst  hG) (gj_dk okX12_worth 22 rfl) ml_X12_339 me_X12_othersMany (sh79 hst) rfl ⟨by omega, Nat.le_of_ble_eq_true rfl, rfl, Nat.le_of_ble_eq_true rfl, by omega, by omega⟩ rfl (gj_kI fun y S2 M2 h => ?_)
  obtain ⟨e, eS, eM⟩ := h; subst eS; subst eM; subst e; clear hG
  refine gj_icmp_ge (q := 40) (tgt := 99) (gj_dk okX12_worth 23 rfl) (by decide) rfl (fun c37 => ?_) (fun c37 => ?_)
  · -- 99
    replace hF := gj_ift c37 hF
    refine gj_sub [(0, jR 79), (4, jI l4), (5, jI l5)] ⟨rfl, rfl, rfl, trivial⟩ ?_
    exact t_J_X12_worth_99 hst hdd hrec l4 l5 M hF
  · -- 40
    replace hF := gj_iff c37 hF
    refine gj_iload (q := 42) (gj_dk okX12_worth 24 rfl) rfl rfl ?_
    refine gj_iload_n (q := 43) (gj_dk okX12_worth 25 rfl) rfl rfl ?_
    refine gj_icmp_eq (q := 46) (tgt := 93) (gj_dk okX12_worth 26 rfl) (by decide) rfl (fun c43 => ?_) (fun c43 => ?_)
    · -- 93
      replace hF := gj_ift c43 hF
      refine gj_sub [(0, jR 79), (1, jI l1), (2, jI l2), (3, jI l3), (4, jI l4), (5, jI l5), (6, jI l6)] ⟨rfl, rfl, rfl, rfl, rfl, rfl, rfl, trivial⟩ ?_
      exact t_J_X12_worth_93 hst hdd hrec hrec31 l1 l2 l3 l4 l5 l6 M hF
    · -- 46
      replace hF := gj_iff c43 hF
      refine gj_iload (q := 48) (gj_dk okX12_worth 27 rfl) rfl rfl ?_
      refine gj_iconst (q := 49) (gj_dk okX12_worth 28 rfl) (by decide) rfl ?_
      refine gj_icmp_eq (q := 52) (tgt := 64) (gj_dk okX12_worth 29 rfl) (by decide) rfl (fun c49 => ?_) (fun c49 => ?_)
      · -- 64
        replace hF := gj_ift c49 hF
        refine gj_aload_n (q := 65) (gj_dk okX12_worth 35 rfl) rfl rfl ?_
        refine gj_iload_n (q := 66) (gj_dk okX12_worth 36 rfl) rfl rfl ?_
        refine gj_iload_n (q := 67) (gj_dk okX12_worth 37 rfl) rfl rfl ?_
        refine gj_iload_n (q := 68) (gj_dk okX12_worth 38 rfl) rfl rfl ?_
        refine gj_iload (q := 70) (gj_dk okX12_worth 39 rfl) rfl rfl ?_
        obtain ⟨x5, M6, hG, hF⟩ := gj_bnd2d hF
        refine gj_callV (q := 73) (z := 79) (ci := 10) [jI l1, jI l2, jI l3, jI l6] rfl (t_X12_by hst hdd hrec l1 l2 l3 l6 hG) (gj_dk okX12_worth 40 rfl) ml_X12_335 me_X12_by (sh79 hst) rfl ⟨by omega, Nat.le_of_ble_eq_true rfl, rfl, Nat.le_of_ble_eq_true rfl, by omega, by omega⟩ rfl (gj_kI fun y S2 M2 h => ?_)
        obtain ⟨e, eS, eM⟩ := h; subst eS; subst eM; subst e; clear hG
        dsimp only
        refine gj_istore (q := 75) (gj_dk okX12_worth 41 rfl) (by decide) rfl ?_
        refine gj_iload (q := 77) (gj_dk okX12_worth 42 rfl) rfl rfl ?_
        refine gj_iload (q := 79) (gj_dk okX12_worth 43 rfl) rfl rfl ?_
        refine gj_icmp_gt (q := 82) (tgt := 85) (gj_dk okX12_worth 44 rfl) (by decide) rfl (fun c79 => ?_) (fun c79 => ?_)
        · -- 85
          replace hF := gj_ift c79 hF
          refine gj_iload (q := 87) (gj_dk okX12_worth 46 rfl) rfl rfl ?_
          refine gj_istore (q := 89) (gj_dk okX12_worth 47 rfl) (by decide) rfl ?_
          refine gj_iload (q := 91) (gj_dk okX12_worth 48 rfl) rfl rfl ?_
          refine gj_istore (q := 93) (gj_dk okX12_worth 49 rfl) (by decide) rfl ?_
          refine gj_sub [(0, jR 79), (1, jI l1), (2, jI l2), (3, jI l3), (4, jI l6), (5, jI x5), (6, jI l6)] ⟨rfl, rfl, rfl, rfl, rfl, rfl, rfl, trivial⟩ ?_
          exact t_J_X12_worth_93 hst hdd hrec hrec31 l1 l2 l3 l6 x5 l6 M6 hF
        · -- 82
          replace hF := gj_iff c79 hF
          refine gj_goto (tgt := 93) (gj_dk okX12_worth 45 rfl) (by decide) ?_
          refine gj_sub [(0, jR 79), (1, jI l1), (2, jI l2), (3, jI l3), (4, jI l4), (5, jI l5), (6, jI l6)] ⟨rfl, rfl, rfl, rfl, rfl, rfl, rfl, trivial⟩ ?_
          exact t_J_X12_worth_93 hst hdd hrec hrec31 l1 l2 l3 l4 l5 l6 M6 hF
      · -- 52
        replace hF := gj_iff c49 hF
        refine gj_iload (q := 54) (gj_dk okX12_worth 30 rfl) rfl rfl ?_
        refine gj_aload_n (q := 55) (gj_dk okX12_worth 31 rfl) rfl rfl ?_
        refine gj_gI (q := 58) (j := 37) (gj_dk okX12_worth 32 rfl) ff_X12_110 (sh79 hst) (by decide) rfl rfl ?_
        refine gj_icmp_ne (q := 61) (tgt := 64) (gj_dk okX12_worth 33 rfl) (by decide) rfl (fun c58 => ?_) (fun c58 => ?_)
        · -- 64
          replace hF := gj_iff c58 hF
          refine gj_aload_n (q := 65) (gj_dk okX12_worth 35 rfl) rfl rfl ?_
          refine gj_iload_n (q := 66) (gj_dk okX12_worth 36 rfl) rfl rfl ?_
          refine gj_iload_n (q := 67) (gj_dk okX12_worth 37 rfl) rfl rfl ?_
          refine gj_iload_n (q := 68) (gj_dk okX12_worth 38 rfl) rfl rfl ?_
          refine gj_iload (q := 70) (gj_dk okX12_worth 39 rfl) rfl rfl ?_
          obtain ⟨x7, M8, hG, hF⟩ := gj_bnd2d hF
          refine gj_callV (q := 73) (z := 79) (ci := 10) [jI l1, jI l2, jI l3, jI l6] rfl (t_X12_by hst hdd hrec l1 l2 l3 l6 hG) (gj_dk okX12_worth 40 rfl) ml_X12_335 me_X12_by (sh79 hst) rfl ⟨by omega, Nat.le_of_ble_eq_true rfl, rfl, Nat.le_of_ble_eq_true rfl, by omega, by omega⟩ rfl (gj_kI fun y S2 M2 h => ?_)
          obtain ⟨e, eS, eM⟩ := h; subst eS; subst eM; subst e; clear hG
          dsimp only
          refine gj_istore (q := 75) (gj_dk okX12_worth 41 rfl) (by decide) rfl ?_
          refine gj_iload (q := 77) (gj_dk okX12_worth 42 rfl) rfl rfl ?_
          refine gj_iload (q := 79) (gj_dk okX12_worth 43 rfl) rfl rfl ?_
          refine gj_icmp_gt (q := 82) (tgt := 85) (gj_dk okX12_worth 44 rfl) (by decide) rfl (fun c79 => ?_) (fun c79 => ?_)
          · -- 85
            replace hF := gj_ift c79 hF
            refine gj_iload (q := 87) (gj_dk okX12_worth 46 rfl) rfl rfl ?_
            refine gj_istore (q := 89) (gj_dk okX12_worth 47 rfl) (by decide) rfl ?_
            refine gj_iload (q := 91) (gj_dk okX12_worth 48 rfl) rfl rfl ?_
            refine gj_istore (q := 93) (gj_dk okX12_worth 49 rfl) (by decide) rfl ?_
            refine gj_sub [(0, jR 79), (1, jI l1), (2, jI l2), (3, jI l3), (4, jI l6), (5, jI x7), (6, jI l6)] ⟨rfl, rfl, rfl, rfl, rfl, rfl, rfl, trivial⟩ ?_
            exact t_J_X12_worth_93 hst hdd hrec hrec31 l1 l2 l3 l6 x7 l6 M8 hF
          · -- 82
            replace hF := gj_iff c79 hF
            refine gj_goto (tgt := 93) (gj_dk okX12_worth 45 rfl) (by decide) ?_
            refine gj_sub [(0, jR 79), (1, jI l1), (2, jI l2), (3, jI l3), (4, jI l4), (5, jI l5), (6, jI l6)] ⟨rfl, rfl, rfl, rfl, rfl, rfl, rfl, trivial⟩ ?_
            exact t_J_X12_worth_93 hst hdd hrec hrec31 l1 l2 l3 l4 l5 l6 M8 hF
        · -- 61
          replace hF := gj_ift c58 hF
          refine gj_goto (tgt := 93) (gj_dk okX12_worth 34 rfl) (by decide) ?_
          refine gj_sub [(0, jR 79), (1, jI l1), (2, jI l2), (3, jI l3), (4, jI l4), (5, jI l5), (6, jI l6)] ⟨rfl, rfl, rfl, rfl, rfl, rfl, rfl, trivial⟩ ?_
          exact t_J_X12_worth_93 hst hdd hrec hrec31 l1 l2 l3 l4 l5 l6 M hF
theorem t_L_X12_worth_31 (hst : gj_Stat S) {dd : Nat} (hdd : 4 ≤ dd) {rec : Int → Int → Int → gj_M → Option (Int × gj_M)} (hrec : ∀ (a1 a2 a3 : Int) (M : gj_M) (r : Int × gj_M), rec a1 a2 a3 M = some r → gj_C G l dd 0 0 yX12_worth cX12_worth 8 (some .int) [jR 79, jI a1, jI a2, jI a3] S M (gj_qI fun x S' M' => r.1 = x ∧ S = S' ∧ r.2 = M')) {r : Int × gj_M} : ∀ (m : Nat) (l1 : Int) (l2 : Int) (l3 : Int) (l4 : Int) (l5 : Int) (l6 : Int) (M : gj_M), gj_it (fun _ _ _ _ _ _ _ => none) (B_X12_worth_31 rec) m l1 l2 l3 l4 l5 l6 M = some r → gj_W G l ((dd + 3)) 0 0 yX12_worth cX12_worth 8 (some .int) (gj_qI fun x S' M' => r.1 = x ∧ S = S' ∧ r.2 = M') 0 0 31 [(0, jR 79), (1, jI l1), (2, jI l2), (3, jI l3), (4, jI l4), (5, jI l5), (6, jI l6)] [] S M := by
  intro m
  induction m with
  | zero => intro l1 l2 l3 l4 l5 l6 M hF; cases (show (none : Option (Int × gj_M)) = some r from hF)
  | succ m ih => intro l1 l2 l3 l4 l5 l6 M hF; exact t_B_X12_worth_31 hst hdd hrec (fun l1 l2 l3 l4 l5 l6 M h => ih l1 l2 l3 l4 l5 l6 M h) l1 l2 l3 l4 l5 l6 M hF
set_option maxHeartbeats 4000000 in
set_option maxRecDepth 20000 in
theorem t_J_X12_worth_29 (hst : gj_Stat S) {dd : Nat} (hdd : 4 ≤ dd) {rec : Int → Int → Int → gj_M → Option (Int × gj_M)} (hrec : ∀ (a1 a2 a3 : Int) (M : gj_M) (r : Int × gj_M), rec a1 a2 a3 M = some r → gj_C G l dd 0 0 yX12_worth cX12_worth 8 (some .int) [jR 79, jI a1, jI a2, jI a3] S M (gj_qI fun x S' M' => r.1 = x ∧ S = S' ∧ r.2 = M')) {r : Int × gj_M} (l1 l2 l3 l4 l5 s0 : Int) (M : gj_M) (hF : J_X12_worth_29 rec l1 l2 l3 l4 l5 s0 M = some r) : gj_W G l ((dd + 3)) 0 0 yX12_worth cX12_worth 8 (some .int) (gj_qI fun x S' M' => r.1 = x ∧ S = S' ∧ r.2 = M') 0 0 29 [(0, jR 79), (1, jI l1), (2, jI l2), (3, jI l3), (4, jI l4), (5, jI l5)] [jI s0] S M := by
  unfold J_X12_worth_29 at hF
  refine gj_istore (q := 31) (gj_dk okX12_worth 19 rfl) (by decide) rfl ?_
  refine gj_sub [(0, jR 79), (1, jI l1), (2, jI l2), (3, jI l3), (4, jI l4), (5, jI l5), (6, jI s0)] ⟨rfl, rfl, rfl, rfl, rfl, rfl, rfl, trivial⟩ ?_
  exact t_L_X12_worth_31 hst hdd hrec gj_fu l1 l2 l3 l4 l5 s0 M hF
set_option maxHeartbeats 4000000 in
set_option maxRecDepth 20000 in
theorem t_X12_worth (hst : gj_Stat S) {dd : Nat} (hdd : 4 ≤ dd) {rec : Int → Int → Int → gj_M → Option (Int × gj_M)} (hrec : ∀ (a1 a2 a3 : Int) (M : gj_M) (r : Int × gj_M), rec a1 a2 a3 M = some r → gj_C G l dd 0 0 yX12_worth cX12_worth 8 (some .int) [jR 79, jI a1, jI a2, jI a3] S M (gj_qI fun x S' M' => r.1 = x ∧ S = S' ∧ r.2 = M')) (a1 a2 a3 : Int) {r : Int × gj_M} (hF : F_X12_worth rec a1 a2 a3 M = some r) : gj_C G l ((dd + 3)) 0 0 yX12_worth cX12_worth 8 (some .int) [jR 79, jI a1, jI a2, jI a3] S M (gj_qI fun x S' M' => r.1 = x ∧ S = S' ∧ r.2 = M') := by
  refine gj_Cof (by decide +kernel) (Nat.le_of_ble_eq_true rfl) ?_
  change gj_W G l ((dd + 3)) 0 0 yX12_worth cX12_worth 8 (some .int) (gj_qI fun x S' M' => r.1 = x ∧ S = S' ∧ r.2 = M') 0 0 0 [(0, jR 79), (1, jI a1), (2, jI a2), (3, jI a3)] [] S M
  unfold F_X12_worth at hF
  refine gj_iload_n (q := 1) (gj_dk okX12_worth 0 rfl) rfl rfl ?_
  refine gj_if_ne (q := 4) (tgt := 6) (gj_dk okX12_worth 1 rfl) (by decide) rfl (fun c1 => ?_) (fun c1 => ?_)
  · -- 6
    replace hF := gj_iff c1 hF
    refine gj_iload_n (q := 7) (gj_dk okX12_worth 4 rfl) rfl rfl ?_
    refine gj_istore (q := 9) (gj_dk okX12_worth 5 rfl) (by decide) rfl ?_
    refine gj_aload_n (q := 10) (gj_dk okX12_worth 6 rfl) rfl rfl ?_
    refine gj_iload_n (q := 11) (gj_dk okX12_worth 7 rfl) rfl rfl ?_
    refine gj_iload_n (q := 12) (gj_dk okX12_worth 8 rfl) rfl rfl ?_
    refine gj_iload_n (q := 13) (gj_dk okX12_worth 9 rfl) rfl rfl ?_
    refine gj_iload_n (q := 14) (gj_dk okX12_worth 10 rfl) rfl rfl ?_
    obtain ⟨x1, M2, hG, hF⟩ := gj_bnd2d hF
    refine gj_callV (q := 17) (z := 79) (ci := 10) [jI a1, jI a2, jI a3, jI a1] rfl (t_X12_by hst hdd hrec a1 a2 a3 a1 hG) (gj_dk okX12_worth 11 rfl) ml_X12_335 me_X12_by (sh79 hst) rfl ⟨by omega, Nat.le_of_ble_eq_true rfl, rfl, Nat.le_of_ble_eq_true rfl, by omega, by omega⟩ rfl (gj_kI fun y S2 M2 h => ?_)
    obtain ⟨e, eS, eM⟩ := h; subst eS; subst eM; subst e; clear hG
    dsimp only
    refine gj_istore (q := 19) (gj_dk okX12_worth 12 rfl) (by decide) rfl ?_
    refine gj_iload_n (q := 20) (gj_dk okX12_worth 13 rfl) rfl rfl ?_
    refine gj_iconst (q := 21) (gj_dk okX12_worth 14 rfl) (by decide) rfl ?_
    refine gj_icmp_ne (q := 24) (tgt := 28) (gj_dk okX12_worth 15 rfl) (by decide) rfl (fun c21 => ?_) (fun c21 => ?_)
    · -- 28
      replace hF := gj_iff c21 hF
      refine gj_iconst (q := 29) (gj_dk okX12_worth 18 rfl) (by decide) rfl ?_
      refine gj_sub [(0, jR 79), (1, jI a1), (2, jI a2), (3, jI a3), (4, jI a1), (5, jI x1)] ⟨rfl, rfl, rfl, rfl, rfl, rfl, trivial⟩ ?_
      exact t_J_X12_worth_29 hst hdd hrec a1 a2 a3 a1 x1 (-1) M2 hF
    · -- 24
      replace hF := gj_ift c21 hF
      refine gj_iconst (q := 25) (gj_dk okX12_worth 16 rfl) (by decide) rfl ?_
      refine gj_goto (tgt := 29) (gj_dk okX12_worth 17 rfl) (by decide) ?_
      refine gj_sub [(0, jR 79), (1, jI a1), (2, jI a2), (3, jI a3), (4, jI a1), (5, jI x1)] ⟨rfl, rfl, rfl, rfl, rfl, rfl, trivial⟩ ?_
      exact t_J_X12_worth_29 hst hdd hrec a1 a2 a3 a1 x1 0 M2 hF
  · -- 4
    replace hF := gj_ift c1 hF
    refine gj_iconst (q := 5) (gj_dk okX12_worth 2 rfl) (by decide) rfl ?_
    cases hF
    exact gj_iret (gj_dk okX12_worth 3 rfl) rfl ⟨_, rfl, rfl, rfl, rfl⟩
def F_X12_worthN : Nat → Int → Int → Int → gj_M → Option (Int × gj_M) := gj_it (fun _ _ _ _ => none) F_X12_worth
theorem t_X12_worthN (hst : gj_Stat S) : ∀ n : Nat, ∀ (a1 a2 a3 : Int) (M : gj_M) (r : Int × gj_M), F_X12_worthN n a1 a2 a3 M = some r → gj_C G l (4 + 3 * n) 0 0 yX12_worth cX12_worth 8 (some .int) [jR 79, jI a1, jI a2, jI a3] S M (gj_qI fun x S' M' => r.1 = x ∧ S = S' ∧ r.2 = M')
  | 0 => fun a1 a2 a3 M r h => by cases (show (none : Option (Int × gj_M)) = some r from h)
  | n + 1 => fun a1 a2 a3 M r h => t_X12_worth hst (by omega) (t_X12_worthN hst n) a1 a2 a3 h
theorem t_X12_worthC (hst : gj_Stat S) (a1 a2 a3 : Int) {r : Int × gj_M} (h : F_X12_worthN 6 a1 a2 a3 M = some r) : gj_C G l 22 0 0 yX12_worth cX12_worth 8 (some .int) [jR 79, jI a1, jI a2, jI a3] S M (gj_qI fun x S' M' => r.1 = x ∧ S = S' ∧ r.2 = M') := t_X12_worthN hst 6 a1 a2 a3 M r h
theorem t_X12_byC (hst : gj_Stat S) (a1 a2 a3 a4 : Int) {r : Int × gj_M} (h : F_X12_by (F_X12_worthN 5) a1 a2 a3 a4 M = some r) : gj_C G l 21 0 0 yX12_by cX12_by 6 (some .int) [jR 79, jI a1, jI a2, jI a3, jI a4] S M (gj_qI fun x S' M' => r.1 = x ∧ S = S' ∧ r.2 = M') := t_X12_by hst (by omega) (t_X12_worthN hst 5) a1 a2 a3 a4 h
def F_X12_mateOf (a1 : Int) (M : gj_M) : Option (Int) :=
  gj_chk (0 ≤ a1 ∧ a1 < 8) ((if M 108 a1 = -1 then (some (-1)) else gj_chk (0 ≤ a1 ∧ a1 < 8) ((some (Int.tmod (M 108 a1) 4)))))
set_option maxHeartbeats 4000000 in
set_option maxRecDepth 20000 in
theorem t_X12_mateOf (hst : gj_Stat S) (a1 : Int) {r : Int} (hF : F_X12_mateOf a1 M = some r) : gj_C G l 1 0 0 yX12_mateOf cX12_mateOf 2 (some .int) [jR 79, jI a1] S M (gj_qI fun x S' M' => r = x ∧ S = S' ∧ M = M') := by
  refine gj_Cof (by decide +kernel) (Nat.le_of_ble_eq_true rfl) ?_
  change gj_W G l 1 0 0 yX12_mateOf cX12_mateOf 2 (some .int) (gj_qI fun x S' M' => r = x ∧ S = S' ∧ M = M') 0 0 0 [(0, jR 79), (1, jI a1)] [] S M
  unfold F_X12_mateOf at hF
  refine gj_aload_n (q := 1) (gj_dk okX12_mateOf 0 rfl) rfl rfl ?_
  refine gj_gR (q := 4) (j := 20) (gj_dk okX12_mateOf 1 rfl) ff_X12_77 (sh79 hst) (by decide) rfl (rf79_20 hst) rfl ?_
  refine gj_iload_n (q := 5) (gj_dk okX12_mateOf 2 rfl) rfl rfl ?_
  obtain ⟨b1, hF⟩ := gj_ckd hF
  refine gj_iald (q := 6) (gj_dk okX12_mateOf 3 rfl) (sh108 hst) b1.1 b1.2 rfl ?_
  refine gj_iconst (q := 7) (gj_dk okX12_mateOf 4 rfl) (by decide) rfl ?_
  refine gj_icmp_ne (q := 10) (tgt := 14) (gj_dk okX12_mateOf 5 rfl) (by decide) rfl (fun c7 => ?_) (fun c7 => ?_)
  · -- 14
    replace hF := gj_iff c7 hF
    refine gj_aload_n (q := 15) (gj_dk okX12_mateOf 8 rfl) rfl rfl ?_
    refine gj_gR (q := 18) (j := 20) (gj_dk okX12_mateOf 9 rfl) ff_X12_77 (sh79 hst) (by decide) rfl (rf79_20 hst) rfl ?_
    refine gj_iload_n (q := 19) (gj_dk okX12_mateOf 10 rfl) rfl rfl ?_
    obtain ⟨b2, hF⟩ := gj_ckd hF
    refine gj_iald (q := 20) (gj_dk okX12_mateOf 11 rfl) (sh108 hst) b2.1 b2.2 rfl ?_
    refine gj_iconst (q := 21) (gj_dk okX12_mateOf 12 rfl) (by decide) rfl ?_
    refine gj_irem (q := 22) (gj_dk okX12_mateOf 13 rfl) (by decide) rfl ?_
    cases hF
    exact gj_iret (gj_dk okX12_mateOf 14 rfl) rfl ⟨_, rfl, rfl, rfl, rfl⟩
  · -- 10
    replace hF := gj_ift c7 hF
    refine gj_iconst (q := 11) (gj_dk okX12_mateOf 6 rfl) (by decide) rfl ?_
    refine gj_goto (tgt := 22) (gj_dk okX12_mateOf 7 rfl) (by decide) ?_
    cases hF
    exact gj_iret (gj_dk okX12_mateOf 14 rfl) rfl ⟨_, rfl, rfl, rfl, rfl⟩
def F_X12_bestOf (a1 : Int) (a2 : Int) (M : gj_M) : Option (Int × gj_M) :=
  gj_bnd (F_X12_lays a1 M) (fun M2 => gj_bnd (F_X12_mateOf a1 M2) (fun x3 => gj_chk (0 ≤ a1 ∧ a1 < 8) ((if M2 108 a1 = -1 then gj_bnd2 (F_X12_worthN 6 x3 0 a2 M2) (fun x9 M10 => (some ((x9, M10)))) else gj_chk (0 ≤ a1 ∧ a1 < 8) (gj_bnd2 (F_X12_worthN 6 x3 (M2 109 a1) a2 M2) (fun x7 M8 => (some ((x7, M8)))))))))
set_option maxHeartbeats 4000000 in
set_option maxRecDepth 20000 in
theorem t_X12_bestOf (hst : gj_Stat S) (a1 a2 : Int) {r : Int × gj_M} (hF : F_X12_bestOf a1 a2 M = some r) : gj_C G l 23 0 0 yX12_bestOf cX12_bestOf 3 (some .int) [jR 79, jI a1, jI a2] S M (gj_qI fun x S' M' => r.1 = x ∧ S = S' ∧ r.2 = M') := by
  refine gj_Cof (by decide +kernel) (Nat.le_of_ble_eq_true rfl) ?_
  change gj_W G l 23 0 0 yX12_bestOf cX12_bestOf 3 (some .int) (gj_qI fun x S' M' => r.1 = x ∧ S = S' ∧ r.2 = M') 0 0 0 [(0, jR 79), (1, jI a1), (2, jI a2)] [] S M
  unfold F_X12_bestOf at hF
  refine gj_aload_n (q := 1) (gj_dk okX12_bestOf 0 rfl) rfl rfl ?_
  refine gj_iload_n (q := 2) (gj_dk okX12_bestOf 1 rfl) rfl rfl ?_
  obtain ⟨M2, hG, hF⟩ := gj_bndd hF
  refine gj_callV (q := 5) (z := 79) (ci := 10) [jI a1] rfl (t_X12_lays hst a1 hG) (gj_dk okX12_bestOf 2 rfl) ml_X12_345 me_X12_lays (sh79 hst) rfl (gj_nm rfl) rfl (gj_kV fun S2 M2 h => ?_)
  obtain ⟨eS, eM⟩ := h; subst eS; subst eM; clear hG
  refine gj_aload_n (q := 6) (gj_dk okX12_bestOf 3 rfl) rfl rfl ?_
  refine gj_aload_n (q := 7) (gj_dk okX12_bestOf 4 rfl) rfl rfl ?_
  refine gj_iload_n (q := 8) (gj_dk okX12_bestOf 5 rfl) rfl rfl ?_
  obtain ⟨x3, hG, hF⟩ := gj_bndd hF
  refine gj_callV (q := 11) (z := 79) (ci := 10) [jI a1] rfl (t_X12_mateOf hst a1 hG) (gj_dk okX12_bestOf 6 rfl) ml_X12_348 me_X12_mateOf (sh79 hst) rfl (gj_nm rfl) rfl (gj_kI fun y S2 M2 h => ?_)
  obtain ⟨e, eS, eM⟩ := h; subst eS; subst eM; subst e; clear hG
  refine gj_aload_n (q := 12) (gj_dk okX12_bestOf 7 rfl) rfl rfl ?_
  refine gj_gR (q := 15) (j := 20) (gj_dk okX12_bestOf 8 rfl) ff_X12_77 (sh79 hst) (by decide) rfl (rf79_20 hst) rfl ?_
  refine gj_iload_n (q := 16) (gj_dk okX12_bestOf 9 rfl) rfl rfl ?_
  obtain ⟨b5, hF⟩ := gj_ckd hF
  refine gj_iald (q := 17) (gj_dk okX12_bestOf 10 rfl) (sh108 hst) b5.1 b5.2 rfl ?_
  refine gj_iconst (q := 18) (gj_dk okX12_bestOf 11 rfl) (by decide) rfl ?_
  refine gj_icmp_ne (q := 21) (tgt := 25) (gj_dk okX12_bestOf 12 rfl) (by decide) rfl (fun c18 => ?_) (fun c18 => ?_)
  · -- 25
    replace hF := gj_iff c18 hF
    refine gj_aload_n (q := 26) (gj_dk okX12_bestOf 15 rfl) rfl rfl ?_
    refine gj_gR (q := 29) (j := 21) (gj_dk okX12_bestOf 16 rfl) ff_X12_80 (sh79 hst) (by decide) rfl (rf79_21 hst) rfl ?_
    refine gj_iload_n (q := 30) (gj_dk okX12_bestOf 17 rfl) rfl rfl ?_
    obtain ⟨b6, hF⟩ := gj_ckd hF
    refine gj_iald (q := 31) (gj_dk okX12_bestOf 18 rfl) (sh109 hst) b6.1 b6.2 rfl ?_
    refine gj_iload_n (q := 32) (gj_dk okX12_bestOf 19 rfl) rfl rfl ?_
    obtain ⟨x7, M8, hG, hF⟩ := gj_bnd2d hF
    refine gj_callV (q := 35) (z := 79) (ci := 10) [jI x3, jI (M2 109 a1), jI a2] rfl (t_X12_worthC hst x3 (M2 109 a1) a2 hG) (gj_dk okX12_bestOf 20 rfl) ml_X12_330 me_X12_worth (sh79 hst) rfl (gj_nm rfl) rfl (gj_kI fun y S2 M2 h => ?_)
    obtain ⟨e, eS, eM⟩ := h; subst eS; subst eM; subst e; clear hG
    dsimp only
    cases hF
    exact gj_iret (gj_dk okX12_bestOf 21 rfl) rfl ⟨_, rfl, rfl, rfl, rfl⟩
  · -- 21
    replace hF := gj_ift c18 hF
    refine gj_iconst (q := 22) (gj_dk okX12_bestOf 13 rfl) (by decide) rfl ?_
    refine gj_goto (tgt := 31) (gj_dk okX12_bestOf 14 rfl) (by decide) ?_
    refine gj_iload_n (q := 32) (gj_dk okX12_bestOf 19 rfl) rfl rfl ?_
    obtain ⟨x9, M10, hG, hF⟩ := gj_bnd2d hF
    refine gj_callV (q := 35) (z := 79) (ci := 10) [jI x3, jI 0, jI a2] rfl (t_X12_worthC hst x3 0 a2 hG) (gj_dk okX12_bestOf 20 rfl) ml_X12_330 me_X12_worth (sh79 hst) rfl (gj_nm rfl) rfl (gj_kI fun y S2 M2 h => ?_)
    obtain ⟨e, eS, eM⟩ := h; subst eS; subst eM; subst e; clear hG
    dsimp only
    cases hF
    exact gj_iret (gj_dk okX12_bestOf 21 rfl) rfl ⟨_, rfl, rfl, rfl, rfl⟩
def f_X12_toldOf (a1 : Int) (a2 : Int) (M : gj_M) : Int :=
  (if a2 = -1 then (-1) else gj_letI (f_X12_told (gj_w ((gj_w (4 * (gj_w (1 - (gj_w (Int.tdiv a1 4)))))) + a2)) M) (fun x1 => (x1)))
set_option maxHeartbeats 4000000 in
set_option maxRecDepth 20000 in
theorem t_X12_toldOf (hst : gj_Stat S) (a1 a2 : Int) {r : Int} (hF : f_X12_toldOf a1 a2 M = r) : gj_C G l 2 0 0 yX12_toldOf cX12_toldOf 3 (some .int) [jR 79, jI a1, jI a2] S M (gj_qI fun x S' M' => r = x ∧ S = S' ∧ M = M') := by
  refine gj_Cof (by decide +kernel) (Nat.le_of_ble_eq_true rfl) ?_
  change gj_W G l 2 0 0 yX12_toldOf cX12_toldOf 3 (some .int) (gj_qI fun x S' M' => r = x ∧ S = S' ∧ M = M') 0 0 0 [(0, jR 79), (1, jI a1), (2, jI a2)] [] S M
  unfold f_X12_toldOf at hF
  refine gj_iload_n (q := 1) (gj_dk okX12_toldOf 0 rfl) rfl rfl ?_
  refine gj_iconst (q := 2) (gj_dk okX12_toldOf 1 rfl) (by decide) rfl ?_
  refine gj_icmp_ne (q := 5) (tgt := 9) (gj_dk okX12_toldOf 2 rfl) (by decide) rfl (fun c2 => ?_) (fun c2 => ?_)
  · -- 9
    replace hF := gj_iff c2 hF
    refine gj_iconst (q := 10) (gj_dk okX12_toldOf 5 rfl) (by decide) rfl ?_
    refine gj_iconst (q := 11) (gj_dk okX12_toldOf 6 rfl) (by decide) rfl ?_
    refine gj_iload_n (q := 12) (gj_dk okX12_toldOf 7 rfl) rfl rfl ?_
    refine gj_iconst (q := 13) (gj_dk okX12_toldOf 8 rfl) (by decide) rfl ?_
    refine gj_idiv (q := 14) (gj_dk okX12_toldOf 9 rfl) (by decide) rfl ?_
    refine gj_isub (q := 15) (gj_dk okX12_toldOf 10 rfl) rfl ?_
    refine gj_imul (q := 16) (gj_dk okX12_toldOf 11 rfl) rfl ?_
    refine gj_iload_n (q := 17) (gj_dk okX12_toldOf 12 rfl) rfl rfl ?_
    refine gj_iadd (q := 18) (gj_dk okX12_toldOf 13 rfl) rfl ?_
    refine gj_callS (q := 21) [jI (gj_w ((gj_w (4 * (gj_w (1 - (gj_w (Int.tdiv a1 4)))))) + a2))] rfl (t_X12_told hst (gj_w ((gj_w (4 * (gj_w (1 - (gj_w (Int.tdiv a1 4)))))) + a2)) rfl) (gj_dk okX12_toldOf 14 rfl) ml_X12_285 me_X12_told (gj_nm rfl) rfl (gj_kI fun x S2 M2 h => ?_)
    obtain ⟨e, eS, eM⟩ := h; subst eS; subst eM; subst e
    refine gj_stpI hF (fun x1 hF => ?_)
    subst hF
    exact gj_iret (gj_dk okX12_toldOf 15 rfl) rfl ⟨_, rfl, rfl, rfl, rfl⟩
  · -- 5
    replace hF := gj_ift c2 hF
    refine gj_iconst (q := 6) (gj_dk okX12_toldOf 3 rfl) (by decide) rfl ?_
    refine gj_goto (tgt := 21) (gj_dk okX12_toldOf 4 rfl) (by decide) ?_
    subst hF
    exact gj_iret (gj_dk okX12_toldOf 15 rfl) rfl ⟨_, rfl, rfl, rfl, rfl⟩
def f_X12_areMays (a1 : Int) (M : gj_M) : Int :=
  gj_letI (f_X12_in a1 1 4 M) (fun x1 => (x1))
set_option maxHeartbeats 4000000 in
set_option maxRecDepth 20000 in
theorem t_X12_areMays (hst : gj_Stat S) (a1 : Int) {r : Int} (hF : f_X12_areMays a1 M = r) : gj_C G l 2 0 0 yX12_areMays cX12_areMays 1 (some .boolean) [jI a1] S M (gj_qI fun x S' M' => (x = 0 ∨ x = 1) ∧ r = x ∧ S = S' ∧ M = M') := by
  refine gj_Cof (by decide +kernel) (Nat.le_of_ble_eq_true rfl) ?_
  change gj_W G l 2 0 0 yX12_areMays cX12_areMays 1 (some .boolean) (gj_qI fun x S' M' => (x = 0 ∨ x = 1) ∧ r = x ∧ S = S' ∧ M = M') 0 0 0 [(0, jI a1)] [] S M
  unfold f_X12_areMays at hF
  refine gj_iload_n (q := 1) (gj_dk okX12_areMays 0 rfl) rfl rfl ?_
  refine gj_i2l (q := 2) (gj_dk okX12_areMays 1 rfl) rfl ?_
  refine gj_lconst (q := 3) (z := 1) (gj_dk okX12_areMays 2 rfl) rfl (by decide) rfl ?_
  refine gj_ldc2 (q := 6) (z := 4) (gj_dk okX12_areMays 3 rfl) kl_X12_351 (by decide) rfl ?_
  refine gj_callS (q := 9) [jL a1, jL 1, jL 4] rfl (t_X12_in hst a1 1 4 rfl) (gj_dk okX12_areMays 4 rfl) ml_X12_158 me_X12_in (gj_nm rfl) rfl (gj_kI fun x S2 M2 h => ?_)
  obtain ⟨bz, e, eS, eM⟩ := h; subst eS; subst eM; subst e
  refine gj_stpZ bz hF (fun x1 bx1 hF => ?_)
  subst hF
  exact gj_zret (gj_dk okX12_areMays 5 rfl) rfl bx1 ⟨_, rfl, bx1, rfl, rfl, rfl⟩
def F_X12_best (a1 : Int) (a2 : Int) (a3 : Int) (M : gj_M) : Option (Int × gj_M) :=
  gj_bnd (F_X12_who a1 M) (fun x1 => (if x1 = -1 then (some ((-2147483648, M))) else gj_letI (f_X12_areMays a2 M) (fun x3 => (if x3 = 0 then (some ((-2147483648, M))) else gj_letI (f_X12_in a3 0 1 M) (fun x4 => (if x4 = 0 then (some ((-2147483648, M))) else gj_bnd2 (F_X12_bestOf x1 a2 M) (fun x5 M6 => (if a3 = 0 then (some ((x5, M6))) else gj_letI (f_X12_toldOf x1 (M6 79 38) M6) (fun x7 => (some ((x7, M6))))))))))))
set_option maxHeartbeats 4000000 in
set_option maxRecDepth 20000 in
theorem t_X12_best (hst : gj_Stat S) (a1 a2 a3 : Int) {r : Int × gj_M} (hF : F_X12_best a1 a2 a3 M = some r) : gj_C G l 24 0 0 yX12_best cX12_best 6 (some .int) [jR 79, jI a1, jI a2, jI a3] S M (gj_qI fun x S' M' => r.1 = x ∧ S = S' ∧ r.2 = M') := by
  refine gj_Cof (by decide +kernel) (Nat.le_of_ble_eq_true rfl) ?_
  change gj_W G l 24 0 0 yX12_best cX12_best 6 (some .int) (gj_qI fun x S' M' => r.1 = x ∧ S = S' ∧ r.2 = M') 0 0 0 [(0, jR 79), (1, jI a1), (2, jI a2), (3, jI a3)] [] S M
  unfold F_X12_best at hF
  refine gj_aload_n (q := 1) (gj_dk okX12_best 0 rfl) rfl rfl ?_
  refine gj_iload_n (q := 2) (gj_dk okX12_best 1 rfl) rfl rfl ?_
  obtain ⟨x1, hG, hF⟩ := gj_bndd hF
  refine gj_callV (q := 5) (z := 79) (ci := 10) [jI a1] rfl (t_X12_who hst a1 hG) (gj_dk okX12_best 2 rfl) ml_X12_281 me_X12_who (sh79 hst) rfl (gj_nm rfl) rfl (gj_kI fun y S2 M2 h => ?_)
  obtain ⟨e, eS, eM⟩ := h; subst eS; subst eM; subst e; clear hG
  refine gj_istore (q := 7) (gj_dk okX12_best 3 rfl) (by decide) rfl ?_
  refine gj_iload (q := 9) (gj_dk okX12_best 4 rfl) rfl rfl ?_
  refine gj_iconst (q := 10) (gj_dk okX12_best 5 rfl) (by decide) rfl ?_
  refine gj_icmp_eq (q := 13) (tgt := 30) (gj_dk okX12_best 6 rfl) (by decide) rfl (fun c10 => ?_) (fun c10 => ?_)
  · -- 30
    replace hF := gj_ift c10 hF
    refine gj_ldcw (q := 33) (z := -2147483648) (gj_dk okX12_best 16 rfl) kc_X12_284 (by decide) rfl ?_
    cases hF
    exact gj_iret (gj_dk okX12_best 17 rfl) rfl ⟨_, rfl, rfl, rfl, rfl⟩
  · -- 13
    replace hF := gj_iff c10 hF
    refine gj_iload_n (q := 14) (gj_dk okX12_best 7 rfl) rfl rfl ?_
    refine gj_callS (q := 17) [jI a2] rfl (t_X12_areMays hst a2 rfl) (gj_dk okX12_best 8 rfl) ml_X12_353 me_X12_areMays (gj_nm rfl) rfl (gj_kI fun x S2 M2 h => ?_)
    obtain ⟨bz, e, eS, eM⟩ := h; subst eS; subst eM; subst e
    refine gj_stpZ bz hF (fun x3 bx3 hF => ?_)
    refine gj_if_eq (q := 20) (tgt := 30) (gj_dk okX12_best 9 rfl) (by decide) rfl (fun c17 => ?_) (fun c17 => ?_)
    · -- 30
      replace hF := gj_ift c17 hF
      refine gj_ldcw (q := 33) (z := -2147483648) (gj_dk okX12_best 16 rfl) kc_X12_284 (by decide) rfl ?_
      cases hF
      exact gj_iret (gj_dk okX12_best 17 rfl) rfl ⟨_, rfl, rfl, rfl, rfl⟩
    · -- 20
      replace hF := gj_iff c17 hF
      refine gj_iload_n (q := 21) (gj_dk okX12_best 10 rfl) rfl rfl ?_
      refine gj_i2l (q := 22) (gj_dk okX12_best 11 rfl) rfl ?_
      refine gj_lconst (q := 23) (z := 0) (gj_dk okX12_best 12 rfl) rfl (by decide) rfl ?_
      refine gj_lconst (q := 24) (z := 1) (gj_dk okX12_best 13 rfl) rfl (by decide) rfl ?_
      refine gj_callS (q := 27) [jL a3, jL 0, jL 1] rfl (t_X12_in hst a3 0 1 rfl) (gj_dk okX12_best 14 rfl) ml_X12_158 me_X12_in (gj_nm rfl) rfl (gj_kI fun x S2 M2 h => ?_)
      obtain ⟨bz, e, eS, eM⟩ := h; subst eS; subst eM; subst e
      refine gj_stpZ bz hF (fun x4 bx4 hF => ?_)
      refine gj_if_ne (q := 30) (tgt := 34) (gj_dk okX12_best 15 rfl) (by decide) rfl (fun c27 => ?_) (fun c27 => ?_)
      · -- 34
        replace hF := gj_iff c27 hF
        refine gj_aload_n (q := 35) (gj_dk okX12_best 18 rfl) rfl rfl ?_
        refine gj_iload (q := 37) (gj_dk okX12_best 19 rfl) rfl rfl ?_
        refine gj_iload_n (q := 38) (gj_dk okX12_best 20 rfl) rfl rfl ?_
        obtain ⟨x5, M6, hG, hF⟩ := gj_bnd2d hF
        refine gj_callV (q := 41) (z := 79) (ci := 10) [jI x1, jI a2] rfl (t_X12_bestOf hst x1 a2 hG) (gj_dk okX12_best 21 rfl) ml_X12_356 me_X12_bestOf (sh79 hst) rfl (gj_nm rfl) rfl (gj_kI fun y S2 M2 h => ?_)
        obtain ⟨e, eS, eM⟩ := h; subst eS; subst eM; subst e; clear hG
        dsimp only
        refine gj_istore (q := 43) (gj_dk okX12_best 22 rfl) (by decide) rfl ?_
        refine gj_iload_n (q := 44) (gj_dk okX12_best 23 rfl) rfl rfl ?_
        refine gj_if_ne (q := 47) (tgt := 52) (gj_dk okX12_best 24 rfl) (by decide) rfl (fun c44 => ?_) (fun c44 => ?_)
        · -- 52
          replace hF := gj_iff c44 hF
          refine gj_aload_n (q := 53) (gj_dk okX12_best 27 rfl) rfl rfl ?_
          refine gj_iload (q := 55) (gj_dk okX12_best 28 rfl) rfl rfl ?_
          refine gj_aload_n (q := 56) (gj_dk okX12_best 29 rfl) rfl rfl ?_
          refine gj_gI (q := 59) (j := 38) (gj_dk okX12_best 30 rfl) ff_X12_342 (sh79 hst) (by decide) rfl rfl ?_
          refine gj_callV (q := 62) (z := 79) (ci := 10) [jI x1, jI (M6 79 38)] rfl (t_X12_toldOf hst x1 (M6 79 38) rfl) (gj_dk okX12_best 31 rfl) ml_X12_359 me_X12_toldOf (sh79 hst) rfl (gj_nm rfl) rfl (gj_kI fun x S2 M2 h => ?_)
          obtain ⟨e, eS, eM⟩ := h; subst eS; subst eM; subst e
          refine gj_stpI hF (fun x7 hF => ?_)
          cases hF
          exact gj_iret (gj_dk okX12_best 32 rfl) rfl ⟨_, rfl, rfl, rfl, rfl⟩
        · -- 47
          replace hF := gj_ift c44 hF
          refine gj_iload (q := 49) (gj_dk okX12_best 25 rfl) rfl rfl ?_
          refine gj_goto (tgt := 62) (gj_dk okX12_best 26 rfl) (by decide) ?_
          cases hF
          exact gj_iret (gj_dk okX12_best 32 rfl) rfl ⟨_, rfl, rfl, rfl, rfl⟩
      · -- 30
        replace hF := gj_ift c27 hF
        refine gj_ldcw (q := 33) (z := -2147483648) (gj_dk okX12_best 16 rfl) kc_X12_284 (by decide) rfl ?_
        cases hF
        exact gj_iret (gj_dk okX12_best 17 rfl) rfl ⟨_, rfl, rfl, rfl, rfl⟩
def J_X12_act_81 (l2 l3 l5 s1 s2 : Int) (M : gj_M) : Option (Int × gj_M) :=
  (if l3 = -1 then gj_bnd2 (F_X12_by (F_X12_worthN 5) s1 s2 l2 (-1) M) (fun x21 M22 => (some ((x21, M22)))) else gj_bnd2 (F_X12_by (F_X12_worthN 5) s1 s2 l2 (Int.tmod l5 4) M) (fun x19 M20 => (some ((x19, M20)))))
def F_X12_act (a1 : Int) (a2 : Int) (a3 : Int) (M : gj_M) : Option (Int × gj_M) :=
  gj_bnd (F_X12_who a1 M) (fun x1 => gj_bnd (F_X12_who a3 M) (fun x3 => (if x1 = -1 then (some ((-2147483648, M))) else gj_letI (f_X12_areMays a2 M) (fun x5 => (if x5 = 0 then (some ((-2147483648, M))) else (if a3 = -1 then gj_bnd (F_X12_lays x1 M) (fun M7 => gj_bnd (F_X12_mateOf x1 M7) (fun x8 => gj_chk (0 ≤ x1 ∧ x1 < 8) ((if M7 108 x1 = -1 then (J_X12_act_81 a2 a3 x3 x8 0 M7) else gj_chk (0 ≤ x1 ∧ x1 < 8) ((J_X12_act_81 a2 a3 x3 x8 (M7 109 x1) M7)))))) else gj_letI (f_X12_areTwo x1 x3 M) (fun x12 => (if x12 = 0 then (some ((-2147483648, M))) else gj_bnd (F_X12_lays x1 M) (fun M14 => gj_bnd (F_X12_mateOf x1 M14) (fun x15 => gj_chk (0 ≤ x1 ∧ x1 < 8) ((if M14 108 x1 = -1 then (J_X12_act_81 a2 a3 x3 x15 0 M14) else gj_chk (0 ≤ x1 ∧ x1 < 8) ((J_X12_act_81 a2 a3 x3 x15 (M14 109 x1) M14))))))))))))))
set_option maxHeartbeats 4000000 in
set_option maxRecDepth 20000 in
theorem t_J_X12_act_81 (hst : gj_Stat S) {r : Int × gj_M} (l2 l3 l5 s1 s2 : Int) (M : gj_M) (hF : J_X12_act_81 l2 l3 l5 s1 s2 M = some r) : gj_W G l 22 0 0 yX12_act cX12_act 6 (some .int) (gj_qI fun x S' M' => r.1 = x ∧ S = S' ∧ r.2 = M') 0 0 81 [(2, jI l2), (3, jI l3), (5, jI l5)] [jI s2, jI s1, jR 79] S M := by
  unfold J_X12_act_81 at hF
  refine gj_iload_n (q := 82) (gj_dk okX12_act 42 rfl) rfl rfl ?_
  refine gj_iload_n (q := 83) (gj_dk okX12_act 43 rfl) rfl rfl ?_
  refine gj_iconst (q := 84) (gj_dk okX12_act 44 rfl) (by decide) rfl ?_
  refine gj_icmp_ne (q := 87) (tgt := 91) (gj_dk okX12_act 45 rfl) (by decide) rfl (fun c84 => ?_) (fun c84 => ?_)
  · -- 91
    replace hF := gj_iff c84 hF
    refine gj_iload (q := 93) (gj_dk okX12_act 48 rfl) rfl rfl ?_
    refine gj_iconst (q := 94) (gj_dk okX12_act 49 rfl) (by decide) rfl ?_
    refine gj_irem (q := 95) (gj_dk okX12_act 50 rfl) (by decide) rfl ?_
    obtain ⟨x19, M20, hG, hF⟩ := gj_bnd2d hF
    refine gj_callV (q := 98) (z := 79) (ci := 10) [jI s1, jI s2, jI l2, jI (Int.tmod l5 4)] rfl (t_X12_byC hst s1 s2 l2 (Int.tmod l5 4) hG) (gj_dk okX12_act 51 rfl) ml_X12_335 me_X12_by (sh79 hst) rfl (gj_nm rfl) rfl (gj_kI fun y S2 M2 h => ?_)
    obtain ⟨e, eS, eM⟩ := h; subst eS; subst eM; subst e; clear hG
    dsimp only
    cases hF
    exact gj_iret (gj_dk okX12_act 52 rfl) rfl ⟨_, rfl, rfl, rfl, rfl⟩
  · -- 87
    replace hF := gj_ift c84 hF
    refine gj_iconst (q := 88) (gj_dk okX12_act 46 rfl) (by decide) rfl ?_
    refine gj_goto (tgt := 95) (gj_dk okX12_act 47 rfl) (by decide) ?_
    obtain ⟨x21, M22, hG, hF⟩ := gj_bnd2d hF
    refine gj_callV (q := 98) (z := 79) (ci := 10) [jI s1, jI s2, jI l2, jI (-1)] rfl (t_X12_byC hst s1 s2 l2 (-1) hG) (gj_dk okX12_act 51 rfl) ml_X12_335 me_X12_by (sh79 hst) rfl (gj_nm rfl) rfl (gj_kI fun y S2 M2 h => ?_)
    obtain ⟨e, eS, eM⟩ := h; subst eS; subst eM; subst e; clear hG
    dsimp only
    cases hF
    exact gj_iret (gj_dk okX12_act 52 rfl) rfl ⟨_, rfl, rfl, rfl, rfl⟩
set_option maxHeartbeats 4000000 in
set_option maxRecDepth 20000 in
theorem t_X12_act (hst : gj_Stat S) (a1 a2 a3 : Int) {r : Int × gj_M} (hF : F_X12_act a1 a2 a3 M = some r) : gj_C G l 22 0 0 yX12_act cX12_act 6 (some .int) [jR 79, jI a1, jI a2, jI a3] S M (gj_qI fun x S' M' => r.1 = x ∧ S = S' ∧ r.2 = M') := by
  refine gj_Cof (by decide +kernel) (Nat.le_of_ble_eq_true rfl) ?_
  change gj_W G l 22 0 0 yX12_act cX12_act 6 (some .int) (gj_qI fun x S' M' => r.1 = x ∧ S = S' ∧ r.2 = M') 0 0 0 [(0, jR 79), (1, jI a1), (2, jI a2), (3, jI a3)] [] S M
  unfold F_X12_act at hF
  refine gj_aload_n (q := 1) (gj_dk okX12_act 0 rfl) rfl rfl ?_
  refine gj_iload_n (q := 2) (gj_dk okX12_act 1 rfl) rfl rfl ?_
  obtain ⟨x1, hG, hF⟩ := gj_bndd hF
  refine gj_callV (q := 5) (z := 79) (ci := 10) [jI a1] rfl (t_X12_who hst a1 hG) (gj_dk okX12_act 2 rfl) ml_X12_281 me_X12_who (sh79 hst) rfl (gj_nm rfl) rfl (gj_kI fun y S2 M2 h => ?_)
  obtain ⟨e, eS, eM⟩ := h; subst eS; subst eM; subst e; clear hG
  refine gj_istore (q := 7) (gj_dk okX12_act 3 rfl) (by decide) rfl ?_
  refine gj_aload_n (q := 8) (gj_dk okX12_act 4 rfl) rfl rfl ?_
  refine gj_iload_n (q := 9) (gj_dk okX12_act 5 rfl) rfl rfl ?_
  obtain ⟨x3, hG, hF⟩ := gj_bndd hF
  refine gj_callV (q := 12) (z := 79) (ci := 10) [jI a3] rfl (t_X12_who hst a3 hG) (gj_dk okX12_act 6 rfl) ml_X12_281 me_X12_who (sh79 hst) rfl (gj_nm rfl) rfl (gj_kI fun y S2 M2 h => ?_)
  obtain ⟨e, eS, eM⟩ := h; subst eS; subst eM; subst e; clear hG
  refine gj_istore (q := 14) (gj_dk okX12_act 7 rfl) (by decide) rfl ?_
  refine gj_iload (q := 16) (gj_dk okX12_act 8 rfl) rfl rfl ?_
  refine gj_iconst (q := 17) (gj_dk okX12_act 9 rfl) (by decide) rfl ?_
  refine gj_icmp_eq (q := 20) (tgt := 42) (gj_dk okX12_act 10 rfl) (by decide) rfl (fun c17 => ?_) (fun c17 => ?_)
  · -- 42
    replace hF := gj_ift c17 hF
    refine gj_ldcw (q := 45) (z := -2147483648) (gj_dk okX12_act 21 rfl) kc_X12_284 (by decide) rfl ?_
    cases hF
    exact gj_iret (gj_dk okX12_act 22 rfl) rfl ⟨_, rfl, rfl, rfl, rfl⟩
  · -- 20
    replace hF := gj_iff c17 hF
    refine gj_iload_n (q := 21) (gj_dk okX12_act 11 rfl) rfl rfl ?_
    refine gj_callS (q := 24) [jI a2] rfl (t_X12_areMays hst a2 rfl) (gj_dk okX12_act 12 rfl) ml_X12_353 me_X12_areMays (gj_nm rfl) rfl (gj_kI fun x S2 M2 h => ?_)
    obtain ⟨bz, e, eS, eM⟩ := h; subst eS; subst eM; subst e
    refine gj_stpZ bz hF (fun x5 bx5 hF => ?_)
    refine gj_if_eq (q := 27) (tgt := 42) (gj_dk okX12_act 13 rfl) (by decide) rfl (fun c24 => ?_) (fun c24 => ?_)
    · -- 42
      replace hF := gj_ift c24 hF
      refine gj_ldcw (q := 45) (z := -2147483648) (gj_dk okX12_act 21 rfl) kc_X12_284 (by decide) rfl ?_
      cases hF
      exact gj_iret (gj_dk okX12_act 22 rfl) rfl ⟨_, rfl, rfl, rfl, rfl⟩
    · -- 27
      replace hF := gj_iff c24 hF
      refine gj_iload_n (q := 28) (gj_dk okX12_act 14 rfl) rfl rfl ?_
      refine gj_iconst (q := 29) (gj_dk okX12_act 15 rfl) (by decide) rfl ?_
      refine gj_icmp_eq (q := 32) (tgt := 46) (gj_dk okX12_act 16 rfl) (by decide) rfl (fun c29 => ?_) (fun c29 => ?_)
      · -- 46
        replace hF := gj_ift c29 hF
        refine gj_aload_n (q := 47) (gj_dk okX12_act 23 rfl) rfl rfl ?_
        refine gj_iload (q := 49) (gj_dk okX12_act 24 rfl) rfl rfl ?_
        obtain ⟨M7, hG, hF⟩ := gj_bndd hF
        refine gj_callV (q := 52) (z := 79) (ci := 10) [jI x1] rfl (t_X12_lays hst x1 hG) (gj_dk okX12_act 25 rfl) ml_X12_345 me_X12_lays (sh79 hst) rfl (gj_nm rfl) rfl (gj_kV fun S2 M2 h => ?_)
        obtain ⟨eS, eM⟩ := h; subst eS; subst eM; clear hG
        refine gj_aload_n (q := 53) (gj_dk okX12_act 26 rfl) rfl rfl ?_
        refine gj_aload_n (q := 54) (gj_dk okX12_act 27 rfl) rfl rfl ?_
        refine gj_iload (q := 56) (gj_dk okX12_act 28 rfl) rfl rfl ?_
        obtain ⟨x8, hG, hF⟩ := gj_bndd hF
        refine gj_callV (q := 59) (z := 79) (ci := 10) [jI x1] rfl (t_X12_mateOf hst x1 hG) (gj_dk okX12_act 29 rfl) ml_X12_348 me_X12_mateOf (sh79 hst) rfl (gj_nm rfl) rfl (gj_kI fun y S2 M2 h => ?_)
        obtain ⟨e, eS, eM⟩ := h; subst eS; subst eM; subst e; clear hG
        refine gj_aload_n (q := 60) (gj_dk okX12_act 30 rfl) rfl rfl ?_
        refine gj_gR (q := 63) (j := 20) (gj_dk okX12_act 31 rfl) ff_X12_77 (sh79 hst) (by decide) rfl (rf79_20 hst) rfl ?_
        refine gj_iload (q := 65) (gj_dk okX12_act 32 rfl) rfl rfl ?_
        obtain ⟨b10, hF⟩ := gj_ckd hF
        refine gj_iald (q := 66) (gj_dk okX12_act 33 rfl) (sh108 hst) b10.1 b10.2 rfl ?_
        refine gj_iconst (q := 67) (gj_dk okX12_act 34 rfl) (by decide) rfl ?_
        refine gj_icmp_ne (q := 70) (tgt := 74) (gj_dk okX12_act 35 rfl) (by decide) rfl (fun c67 => ?_) (fun c67 => ?_)
        · -- 74
          replace hF := gj_iff c67 hF
          refine gj_aload_n (q := 75) (gj_dk okX12_act 38 rfl) rfl rfl ?_
          refine gj_gR (q := 78) (j := 21) (gj_dk okX12_act 39 rfl) ff_X12_80 (sh79 hst) (by decide) rfl (rf79_21 hst) rfl ?_
          refine gj_iload (q := 80) (gj_dk okX12_act 40 rfl) rfl rfl ?_
          obtain ⟨b11, hF⟩ := gj_ckd hF
          refine gj_iald (q := 81) (gj_dk okX12_act 41 rfl) (sh109 hst) b11.1 b11.2 rfl ?_
          refine gj_sub [(2, jI a2), (3, jI a3), (5, jI x3)] ⟨rfl, rfl, rfl, trivial⟩ ?_
          exact t_J_X12_act_81 hst a2 a3 x3 x8 (M7 109 x1) M7 hF
        · -- 70
          replace hF := gj_ift c67 hF
          refine gj_iconst (q := 71) (gj_dk okX12_act 36 rfl) (by decide) rfl ?_
          refine gj_goto (tgt := 81) (gj_dk okX12_act 37 rfl) (by decide) ?_
          refine gj_sub [(2, jI a2), (3, jI a3), (5, jI x3)] ⟨rfl, rfl, rfl, trivial⟩ ?_
          exact t_J_X12_act_81 hst a2 a3 x3 x8 0 M7 hF
      · -- 32
        replace hF := gj_iff c29 hF
        refine gj_iload (q := 34) (gj_dk okX12_act 17 rfl) rfl rfl ?_
        refine gj_iload (q := 36) (gj_dk okX12_act 18 rfl) rfl rfl ?_
        refine gj_callS (q := 39) [jI x1, jI x3] rfl (t_X12_areTwo hst x1 x3 rfl) (gj_dk okX12_act 19 rfl) ml_X12_288 me_X12_areTwo (gj_nm rfl) rfl (gj_kI fun x S2 M2 h => ?_)
        obtain ⟨bz, e, eS, eM⟩ := h; subst eS; subst eM; subst e
        refine gj_stpZ bz hF (fun x12 bx12 hF => ?_)
        refine gj_if_ne (q := 42) (tgt := 46) (gj_dk okX12_act 20 rfl) (by decide) rfl (fun c39 => ?_) (fun c39 => ?_)
        · -- 46
          replace hF := gj_iff c39 hF
          refine gj_aload_n (q := 47) (gj_dk okX12_act 23 rfl) rfl rfl ?_
          refine gj_iload (q := 49) (gj_dk okX12_act 24 rfl) rfl rfl ?_
          obtain ⟨M14, hG, hF⟩ := gj_bndd hF
          refine gj_callV (q := 52) (z := 79) (ci := 10) [jI x1] rfl (t_X12_lays hst x1 hG) (gj_dk okX12_act 25 rfl) ml_X12_345 me_X12_lays (sh79 hst) rfl (gj_nm rfl) rfl (gj_kV fun S2 M2 h => ?_)
          obtain ⟨eS, eM⟩ := h; subst eS; subst eM; clear hG
          refine gj_aload_n (q := 53) (gj_dk okX12_act 26 rfl) rfl rfl ?_
          refine gj_aload_n (q := 54) (gj_dk okX12_act 27 rfl) rfl rfl ?_
          refine gj_iload (q := 56) (gj_dk okX12_act 28 rfl) rfl rfl ?_
          obtain ⟨x15, hG, hF⟩ := gj_bndd hF
          refine gj_callV (q := 59) (z := 79) (ci := 10) [jI x1] rfl (t_X12_mateOf hst x1 hG) (gj_dk okX12_act 29 rfl) ml_X12_348 me_X12_mateOf (sh79 hst) rfl (gj_nm rfl) rfl (gj_kI fun y S2 M2 h => ?_)
          obtain ⟨e, eS, eM⟩ := h; subst eS; subst eM; subst e; clear hG
          refine gj_aload_n (q := 60) (gj_dk okX12_act 30 rfl) rfl rfl ?_
          refine gj_gR (q := 63) (j := 20) (gj_dk okX12_act 31 rfl) ff_X12_77 (sh79 hst) (by decide) rfl (rf79_20 hst) rfl ?_
          refine gj_iload (q := 65) (gj_dk okX12_act 32 rfl) rfl rfl ?_
          obtain ⟨b17, hF⟩ := gj_ckd hF
          refine gj_iald (q := 66) (gj_dk okX12_act 33 rfl) (sh108 hst) b17.1 b17.2 rfl ?_
          refine gj_iconst (q := 67) (gj_dk okX12_act 34 rfl) (by decide) rfl ?_
          refine gj_icmp_ne (q := 70) (tgt := 74) (gj_dk okX12_act 35 rfl) (by decide) rfl (fun c67 => ?_) (fun c67 => ?_)
          · -- 74
            replace hF := gj_iff c67 hF
            refine gj_aload_n (q := 75) (gj_dk okX12_act 38 rfl) rfl rfl ?_
            refine gj_gR (q := 78) (j := 21) (gj_dk okX12_act 39 rfl) ff_X12_80 (sh79 hst) (by decide) rfl (rf79_21 hst) rfl ?_
            refine gj_iload (q := 80) (gj_dk okX12_act 40 rfl) rfl rfl ?_
            obtain ⟨b18, hF⟩ := gj_ckd hF
            refine gj_iald (q := 81) (gj_dk okX12_act 41 rfl) (sh109 hst) b18.1 b18.2 rfl ?_
            refine gj_sub [(2, jI a2), (3, jI a3), (5, jI x3)] ⟨rfl, rfl, rfl, trivial⟩ ?_
            exact t_J_X12_act_81 hst a2 a3 x3 x15 (M14 109 x1) M14 hF
          · -- 70
            replace hF := gj_ift c67 hF
            refine gj_iconst (q := 71) (gj_dk okX12_act 36 rfl) (by decide) rfl ?_
            refine gj_goto (tgt := 81) (gj_dk okX12_act 37 rfl) (by decide) ?_
            refine gj_sub [(2, jI a2), (3, jI a3), (5, jI x3)] ⟨rfl, rfl, rfl, trivial⟩ ?_
            exact t_J_X12_act_81 hst a2 a3 x3 x15 0 M14 hF
        · -- 42
          replace hF := gj_ift c39 hF
          refine gj_ldcw (q := 45) (z := -2147483648) (gj_dk okX12_act 21 rfl) kc_X12_284 (by decide) rfl ?_
          cases hF
          exact gj_iret (gj_dk okX12_act 22 rfl) rfl ⟨_, rfl, rfl, rfl, rfl⟩
def F_X12_isSilent (a1 : Int) (a2 : Int) (M : gj_M) : Option (Int × gj_M) :=
  gj_chk (0 ≤ a1 ∧ a1 < 8) ((if M 108 a1 = -1 then (some ((0, M))) else gj_bnd2 (F_X12_bestOf a1 a2 M) (fun x2 M3 => gj_bnd (F_X12_mateOf a1 M3) (fun x4 => (if M3 79 38 = x4 then (some ((0, M3))) else (some ((1, M3))))))))
set_option maxHeartbeats 4000000 in
set_option maxRecDepth 20000 in
theorem t_X12_isSilent (hst : gj_Stat S) (a1 a2 : Int) {r : Int × gj_M} (hF : F_X12_isSilent a1 a2 M = some r) : gj_C G l 24 0 0 yX12_isSilent cX12_isSilent 4 (some .boolean) [jR 79, jI a1, jI a2] S M (gj_qI fun x S' M' => (x = 0 ∨ x = 1) ∧ r.1 = x ∧ S = S' ∧ r.2 = M') := by
  refine gj_Cof (by decide +kernel) (Nat.le_of_ble_eq_true rfl) ?_
  change gj_W G l 24 0 0 yX12_isSilent cX12_isSilent 4 (some .boolean) (gj_qI fun x S' M' => (x = 0 ∨ x = 1) ∧ r.1 = x ∧ S = S' ∧ r.2 = M') 0 0 0 [(0, jR 79), (1, jI a1), (2, jI a2)] [] S M
  unfold F_X12_isSilent at hF
  refine gj_aload_n (q := 1) (gj_dk okX12_isSilent 0 rfl) rfl rfl ?_
  refine gj_gR (q := 4) (j := 20) (gj_dk okX12_isSilent 1 rfl) ff_X12_77 (sh79 hst) (by decide) rfl (rf79_20 hst) rfl ?_
  refine gj_iload_n (q := 5) (gj_dk okX12_isSilent 2 rfl) rfl rfl ?_
  obtain ⟨b1, hF⟩ := gj_ckd hF
  refine gj_iald (q := 6) (gj_dk okX12_isSilent 3 rfl) (sh108 hst) b1.1 b1.2 rfl ?_
  refine gj_iconst (q := 7) (gj_dk okX12_isSilent 4 rfl) (by decide) rfl ?_
  refine gj_icmp_ne (q := 10) (tgt := 12) (gj_dk okX12_isSilent 5 rfl) (by decide) rfl (fun c7 => ?_) (fun c7 => ?_)
  · -- 12
    replace hF := gj_iff c7 hF
    refine gj_aload_n (q := 13) (gj_dk okX12_isSilent 8 rfl) rfl rfl ?_
    refine gj_iload_n (q := 14) (gj_dk okX12_isSilent 9 rfl) rfl rfl ?_
    refine gj_iload_n (q := 15) (gj_dk okX12_isSilent 10 rfl) rfl rfl ?_
    obtain ⟨x2, M3, hG, hF⟩ := gj_bnd2d hF
    refine gj_callV (q := 18) (z := 79) (ci := 10) [jI a1, jI a2] rfl (t_X12_bestOf hst a1 a2 hG) (gj_dk okX12_isSilent 11 rfl) ml_X12_356 me_X12_bestOf (sh79 hst) rfl (gj_nm rfl) rfl (gj_kI fun y S2 M2 h => ?_)
    obtain ⟨e, eS, eM⟩ := h; subst eS; subst eM; subst e; clear hG
    dsimp only
    refine gj_istore_n (q := 19) (gj_dk okX12_isSilent 12 rfl) (by decide) rfl ?_
    refine gj_aload_n (q := 20) (gj_dk okX12_isSilent 13 rfl) rfl rfl ?_
    refine gj_gI (q := 23) (j := 38) (gj_dk okX12_isSilent 14 rfl) ff_X12_342 (sh79 hst) (by decide) rfl rfl ?_
    refine gj_aload_n (q := 24) (gj_dk okX12_isSilent 15 rfl) rfl rfl ?_
    refine gj_iload_n (q := 25) (gj_dk okX12_isSilent 16 rfl) rfl rfl ?_
    obtain ⟨x4, hG, hF⟩ := gj_bndd hF
    refine gj_callV (q := 28) (z := 79) (ci := 10) [jI a1] rfl (t_X12_mateOf hst a1 hG) (gj_dk okX12_isSilent 17 rfl) ml_X12_348 me_X12_mateOf (sh79 hst) rfl (gj_nm rfl) rfl (gj_kI fun y S2 M2 h => ?_)
    obtain ⟨e, eS, eM⟩ := h; subst eS; subst eM; subst e; clear hG
    refine gj_icmp_eq (q := 31) (tgt := 35) (gj_dk okX12_isSilent 18 rfl) (by decide) rfl (fun c28 => ?_) (fun c28 => ?_)
    · -- 35
      replace hF := gj_ift c28 hF
      refine gj_iconst (q := 36) (gj_dk okX12_isSilent 21 rfl) (by decide) rfl ?_
      cases hF
      exact gj_zret (gj_dk okX12_isSilent 22 rfl) rfl (by decide) ⟨_, rfl, (by decide), rfl, rfl, rfl⟩
    · -- 31
      replace hF := gj_iff c28 hF
      refine gj_iconst (q := 32) (gj_dk okX12_isSilent 19 rfl) (by decide) rfl ?_
      refine gj_goto (tgt := 36) (gj_dk okX12_isSilent 20 rfl) (by decide) ?_
      cases hF
      exact gj_zret (gj_dk okX12_isSilent 22 rfl) rfl (by decide) ⟨_, rfl, (by decide), rfl, rfl, rfl⟩
  · -- 10
    replace hF := gj_ift c7 hF
    refine gj_iconst (q := 11) (gj_dk okX12_isSilent 6 rfl) (by decide) rfl ?_
    cases hF
    exact gj_zret (gj_dk okX12_isSilent 7 rfl) rfl (by decide) ⟨_, rfl, (by decide), rfl, rfl, rfl⟩
def F_X12_silent (a1 : Int) (a2 : Int) (M : gj_M) : Option (Int × gj_M) :=
  gj_bnd (F_X12_who a1 M) (fun x1 => (if x1 = -1 then (some ((-1, M))) else gj_letI (f_X12_areMays a2 M) (fun x3 => (if x3 = 0 then (some ((-1, M))) else gj_bnd2 (F_X12_isSilent x1 a2 M) (fun x4 M5 => (if x4 = 0 then (some ((0, M5))) else (some ((1, M5)))))))))
set_option maxHeartbeats 4000000 in
set_option maxRecDepth 20000 in
theorem t_X12_silent (hst : gj_Stat S) (a1 a2 : Int) {r : Int × gj_M} (hF : F_X12_silent a1 a2 M = some r) : gj_C G l 25 0 0 yX12_silent cX12_silent 4 (some .int) [jR 79, jI a1, jI a2] S M (gj_qI fun x S' M' => r.1 = x ∧ S = S' ∧ r.2 = M') := by
  refine gj_Cof (by decide +kernel) (Nat.le_of_ble_eq_true rfl) ?_
  change gj_W G l 25 0 0 yX12_silent cX12_silent 4 (some .int) (gj_qI fun x S' M' => r.1 = x ∧ S = S' ∧ r.2 = M') 0 0 0 [(0, jR 79), (1, jI a1), (2, jI a2)] [] S M
  unfold F_X12_silent at hF
  refine gj_aload_n (q := 1) (gj_dk okX12_silent 0 rfl) rfl rfl ?_
  refine gj_iload_n (q := 2) (gj_dk okX12_silent 1 rfl) rfl rfl ?_
  obtain ⟨x1, hG, hF⟩ := gj_bndd hF
  refine gj_callV (q := 5) (z := 79) (ci := 10) [jI a1] rfl (t_X12_who hst a1 hG) (gj_dk okX12_silent 2 rfl) ml_X12_281 me_X12_who (sh79 hst) rfl (gj_nm rfl) rfl (gj_kI fun y S2 M2 h => ?_)
  obtain ⟨e, eS, eM⟩ := h; subst eS; subst eM; subst e; clear hG
  refine gj_istore_n (q := 6) (gj_dk okX12_silent 3 rfl) (by decide) rfl ?_
  refine gj_iload_n (q := 7) (gj_dk okX12_silent 4 rfl) rfl rfl ?_
  refine gj_iconst (q := 8) (gj_dk okX12_silent 5 rfl) (by decide) rfl ?_
  refine gj_icmp_eq (q := 11) (tgt := 18) (gj_dk okX12_silent 6 rfl) (by decide) rfl (fun c8 => ?_) (fun c8 => ?_)
  · -- 18
    replace hF := gj_ift c8 hF
    refine gj_iconst (q := 19) (gj_dk okX12_silent 10 rfl) (by decide) rfl ?_
    refine gj_goto (tgt := 36) (gj_dk okX12_silent 11 rfl) (by decide) ?_
    cases hF
    exact gj_iret (gj_dk okX12_silent 20 rfl) rfl ⟨_, rfl, rfl, rfl, rfl⟩
  · -- 11
    replace hF := gj_iff c8 hF
    refine gj_iload_n (q := 12) (gj_dk okX12_silent 7 rfl) rfl rfl ?_
    refine gj_callS (q := 15) [jI a2] rfl (t_X12_areMays hst a2 rfl) (gj_dk okX12_silent 8 rfl) ml_X12_353 me_X12_areMays (gj_nm rfl) rfl (gj_kI fun x S2 M2 h => ?_)
    obtain ⟨bz, e, eS, eM⟩ := h; subst eS; subst eM; subst e
    refine gj_stpZ bz hF (fun x3 bx3 hF => ?_)
    refine gj_if_ne (q := 18) (tgt := 22) (gj_dk okX12_silent 9 rfl) (by decide) rfl (fun c15 => ?_) (fun c15 => ?_)
    · -- 22
      replace hF := gj_iff c15 hF
      refine gj_aload_n (q := 23) (gj_dk okX12_silent 12 rfl) rfl rfl ?_
      refine gj_iload_n (q := 24) (gj_dk okX12_silent 13 rfl) rfl rfl ?_
      refine gj_iload_n (q := 25) (gj_dk okX12_silent 14 rfl) rfl rfl ?_
      obtain ⟨x4, M5, hG, hF⟩ := gj_bnd2d hF
      refine gj_callV (q := 28) (z := 79) (ci := 10) [jI x1, jI a2] rfl (t_X12_isSilent hst x1 a2 hG) (gj_dk okX12_silent 15 rfl) ml_X12_362 me_X12_isSilent (sh79 hst) rfl (gj_nm rfl) rfl (gj_kI fun y S2 M2 h => ?_)
      obtain ⟨bx4, e, eS, eM⟩ := h; subst eS; subst eM; subst e; clear hG
      dsimp only at bx4 ⊢
      refine gj_if_eq (q := 31) (tgt := 35) (gj_dk okX12_silent 16 rfl) (by decide) rfl (fun c28 => ?_) (fun c28 => ?_)
      · -- 35
        replace hF := gj_ift c28 hF
        refine gj_iconst (q := 36) (gj_dk okX12_silent 19 rfl) (by decide) rfl ?_
        cases hF
        exact gj_iret (gj_dk okX12_silent 20 rfl) rfl ⟨_, rfl, rfl, rfl, rfl⟩
      · -- 31
        replace hF := gj_iff c28 hF
        refine gj_iconst (q := 32) (gj_dk okX12_silent 17 rfl) (by decide) rfl ?_
        refine gj_goto (tgt := 36) (gj_dk okX12_silent 18 rfl) (by decide) ?_
        cases hF
        exact gj_iret (gj_dk okX12_silent 20 rfl) rfl ⟨_, rfl, rfl, rfl, rfl⟩
    · -- 18
      replace hF := gj_ift c15 hF
      refine gj_iconst (q := 19) (gj_dk okX12_silent 10 rfl) (by decide) rfl ?_
      refine gj_goto (tgt := 36) (gj_dk okX12_silent 11 rfl) (by decide) ?_
      cases hF
      exact gj_iret (gj_dk okX12_silent 20 rfl) rfl ⟨_, rfl, rfl, rfl, rfl⟩
def B_X12_bar_61 (rec61 : Int → Int → Int → Int → gj_M → Option (Int × gj_M)) (l3 l4 l7 l8 : Int) (M : gj_M) : Option (Int × gj_M) :=
  (if l3 < l8 then (some ((-1, M))) else gj_chk (0 ≤ l7 ∧ l7 < 4) (gj_let (gj_up M 115 l7 (f_min 4 l8)) (fun M11 => gj_chk (0 ≤ l7 ∧ l7 < 4) (gj_let (gj_up M11 116 l7 (f_min 4 (gj_w (l3 - l8)))) (fun M13 => gj_bnd2 (F_X12_worthN 6 l7 l3 l4 M13) (fun x14 M15 => (if M15 79 38 = l7 then (some ((l8, M15))) else rec61 l3 l4 l7 (gj_w (l8 + 1)) M15)))))))
def F_X12_bar (a1 : Int) (a2 : Int) (a3 : Int) (a4 : Int) (M : gj_M) : Option (Int × gj_M) :=
  gj_bnd (F_X12_who a1 M) (fun x1 => gj_bnd (F_X12_who a2 M) (fun x3 => gj_letI (f_X12_areTwo x1 x3 M) (fun x5 => (if x5 = 0 then (some ((-1, M))) else gj_letI (f_X12_in a3 1 6 M) (fun x6 => (if x6 = 0 then (some ((-1, M))) else gj_letI (f_X12_areMays a4 M) (fun x7 => (if x7 = 0 then (some ((-1, M))) else gj_bnd (F_X12_lays x1 M) (fun M9 => (gj_it (fun _ _ _ _ _ => none) (B_X12_bar_61) gj_fu a3 a4 (Int.tmod x3 4) 0 M9))))))))))
set_option maxHeartbeats 4000000 in
set_option maxRecDepth 20000 in
theorem t_B_X12_bar_61 (hst : gj_Stat S) {r : Int × gj_M} {rec61 : Int → Int → Int → Int → gj_M → Option (Int × gj_M)} (hrec61 : ∀ (l3 l4 l7 l8 : Int) (M : gj_M), rec61 l3 l4 l7 l8 M = some r → gj_W G l 23 0 0 yX12_bar cX12_bar 10 (some .int) (gj_qI fun x S' M' => r.1 = x ∧ S = S' ∧ r.2 = M') 0 0 61 [(0, jR 79), (3, jI l3), (4, jI l4), (7, jI l7), (8, jI l8)] [] S M) (l3 l4 l7 l8 : Int) (M : gj_M) (hF : B_X12_bar_61 rec61 l3 l4 l7 l8 M = some r) : gj_W G l 23 0 0 yX12_bar cX12_bar 10 (some .int) (gj_qI fun x S' M' => r.1 = x ∧ S = S' ∧ r.2 = M') 0 0 61 [(0, jR 79), (3, jI l3), (4, jI l4), (7, jI l7), (8, jI l8)] [] S M := by
  unfold B_X12_bar_61 at hF
  refine gj_iload (q := 63) (gj_dk okX12_bar 32 rfl) rfl rfl ?_
  refine gj_iload_n (q := 64) (gj_dk okX12_bar 33 rfl) rfl rfl ?_
  refine gj_icmp_gt (q := 67) (tgt := 124) (gj_dk okX12_bar 34 rfl) (by decide) rfl (fun c64 => ?_) (fun c64 => ?_)
  · -- 124
    replace hF := gj_ift c64 hF
    refine gj_iconst (q := 125) (gj_dk okX12_bar 65 rfl) (by decide) rfl ?_
    cases hF
    exact gj_iret (gj_dk okX12_bar 66 rfl) rfl ⟨_, rfl, rfl, rfl, rfl⟩
  · -- 67
    replace hF := gj_iff c64 hF
    refine gj_aload_n (q := 68) (gj_dk okX12_bar 35 rfl) rfl rfl ?_
    refine gj_gR (q := 71) (j := 31) (gj_dk okX12_bar 36 rfl) ff_X12_98 (sh79 hst) (by decide) rfl (rf79_31 hst) rfl ?_
    refine gj_iload (q := 73) (gj_dk okX12_bar 37 rfl) rfl rfl ?_
    refine gj_iconst (q := 74) (gj_dk okX12_bar 38 rfl) (by decide) rfl ?_
    refine gj_iload (q := 76) (gj_dk okX12_bar 39 rfl) rfl rfl ?_
    refine gj_mmin (q := 79) (gj_dk okX12_bar 40 rfl) ml_X12_325 ⟨by omega, Nat.le_of_ble_eq_true rfl⟩ rfl ?_
    obtain ⟨b10, hF⟩ := gj_ckd hF
    refine gj_iast (q := 80) (gj_dk okX12_bar 41 rfl) (sh115 hst) b10.1 b10.2 rfl ?_
    refine gj_stp hF (fun M11 hF => ?_)
    refine gj_aload_n (q := 81) (gj_dk okX12_bar 42 rfl) rfl rfl ?_
    refine gj_gR (q := 84) (j := 32) (gj_dk okX12_bar 43 rfl) ff_X12_101 (sh79 hst) (by decide) rfl (rf79_32 hst) rfl ?_
    refine gj_iload (q := 86) (gj_dk okX12_bar 44 rfl) rfl rfl ?_
    refine gj_iconst (q := 87) (gj_dk okX12_bar 45 rfl) (by decide) rfl ?_
    refine gj_iload_n (q := 88) (gj_dk okX12_bar 46 rfl) rfl rfl ?_
    refine gj_iload (q := 90) (gj_dk okX12_bar 47 rfl) rfl rfl ?_
    refine gj_isub (q := 91) (gj_dk okX12_bar 48 rfl) rfl ?_
    refine gj_mmin (q := 94) (gj_dk okX12_bar 49 rfl) ml_X12_325 ⟨by omega, Nat.le_of_ble_eq_true rfl⟩ rfl ?_
    obtain ⟨b12, hF⟩ := gj_ckd hF
    refine gj_iast (q := 95) (gj_dk okX12_bar 50 rfl) (sh116 hst) b12.1 b12.2 rfl ?_
    refine gj_stp hF (fun M13 hF => ?_)
    refine gj_aload_n (q := 96) (gj_dk okX12_bar 51 rfl) rfl rfl ?_
    refine gj_iload (q := 98) (gj_dk okX12_bar 52 rfl) rfl rfl ?_
    refine gj_iload_n (q := 99) (gj_dk okX12_bar 53 rfl) rfl rfl ?_
    refine gj_iload (q := 101) (gj_dk okX12_bar 54 rfl) rfl rfl ?_
    obtain ⟨x14, M15, hG, hF⟩ := gj_bnd2d hF
    refine gj_callV (q := 104) (z := 79) (ci := 10) [jI l7, jI l3, jI l4] rfl (t_X12_worthC hst l7 l3 l4 hG) (gj_dk okX12_bar 55 rfl) ml_X12_330 me_X12_worth (sh79 hst) rfl (gj_nm rfl) rfl (gj_kI fun y S2 M2 h => ?_)
    obtain ⟨e, eS, eM⟩ := h; subst eS; subst eM; subst e; clear hG
    dsimp only
    refine gj_istore (q := 106) (gj_dk okX12_bar 56 rfl) (by decide) rfl ?_
    refine gj_aload_n (q := 107) (gj_dk okX12_bar 57 rfl) rfl rfl ?_
    refine gj_gI (q := 110) (j := 38) (gj_dk okX12_bar 58 rfl) ff_X12_342 (sh79 hst) (by decide) rfl rfl ?_
    refine gj_iload (q := 112) (gj_dk okX12_bar 59 rfl) rfl rfl ?_
    refine gj_icmp_ne (q := 115) (tgt := 118) (gj_dk okX12_bar 60 rfl) (by decide) rfl (fun c112 => ?_) (fun c112 => ?_)
    · -- 118
      replace hF := gj_iff c112 hF
      refine gj_iinc (q := 121) (v := gj_w (l8 + 1)) (gj_dk okX12_bar 63 rfl) rfl (by decide) rfl rfl ?_
      refine gj_goto (tgt := 61) (gj_dk okX12_bar 64 rfl) (by decide) ?_
      refine gj_sub [(0, jR 79), (3, jI l3), (4, jI l4), (7, jI l7), (8, jI (gj_w (l8 + 1)))] ⟨rfl, rfl, rfl, rfl, rfl, trivial⟩ ?_
      exact hrec61 l3 l4 l7 (gj_w (l8 + 1)) M15 hF
    · -- 115
      replace hF := gj_ift c112 hF
      refine gj_iload (q := 117) (gj_dk okX12_bar 61 rfl) rfl rfl ?_
      cases hF
      exact gj_iret (gj_dk okX12_bar 62 rfl) rfl ⟨_, rfl, rfl, rfl, rfl⟩
theorem t_L_X12_bar_61 (hst : gj_Stat S) {r : Int × gj_M} : ∀ (m : Nat) (l3 : Int) (l4 : Int) (l7 : Int) (l8 : Int) (M : gj_M), gj_it (fun _ _ _ _ _ => none) (B_X12_bar_61) m l3 l4 l7 l8 M = some r → gj_W G l 23 0 0 yX12_bar cX12_bar 10 (some .int) (gj_qI fun x S' M' => r.1 = x ∧ S = S' ∧ r.2 = M') 0 0 61 [(0, jR 79), (3, jI l3), (4, jI l4), (7, jI l7), (8, jI l8)] [] S M := by
  intro m
  induction m with
  | zero => intro l3 l4 l7 l8 M hF; cases (show (none : Option (Int × gj_M)) = some r from hF)
  | succ m ih => intro l3 l4 l7 l8 M hF; exact t_B_X12_bar_61 hst (fun l3 l4 l7 l8 M h => ih l3 l4 l7 l8 M h) l3 l4 l7 l8 M hF
set_option maxHeartbeats 4000000 in
set_option maxRecDepth 20000 in
theorem t_X12_bar (hst : gj_Stat S) (a1 a2 a3 a4 : Int) {r : Int × gj_M} (hF : F_X12_bar a1 a2 a3 a4 M = some r) : gj_C G l 23 0 0 yX12_bar cX12_bar 10 (some .int) [jR 79, jI a1, jI a2, jI a3, jI a4] S M (gj_qI fun x S' M' => r.1 = x ∧ S = S' ∧ r.2 = M') := by
  refine gj_Cof (by decide +kernel) (Nat.le_of_ble_eq_true rfl) ?_
  change gj_W G l 23 0 0 yX12_bar cX12_bar 10 (some .int) (gj_qI fun x S' M' => r.1 = x ∧ S = S' ∧ r.2 = M') 0 0 0 [(0, jR 79), (1, jI a1), (2, jI a2), (3, jI a3), (4, jI a4)] [] S M
  unfold F_X12_bar at hF
  refine gj_aload_n (q := 1) (gj_dk okX12_bar 0 rfl) rfl rfl ?_
  refine gj_iload_n (q := 2) (gj_dk okX12_bar 1 rfl) rfl rfl ?_
  obtain ⟨x1, hG, hF⟩ := gj_bndd hF
  refine gj_callV (q := 5) (z := 79) (ci := 10) [jI a1] rfl (t_X12_who hst a1 hG) (gj_dk okX12_bar 2 rfl) ml_X12_281 me_X12_who (sh79 hst) rfl (gj_nm rfl) rfl (gj_kI fun y S2 M2 h => ?_)
  obtain ⟨e, eS, eM⟩ := h; subst eS; subst eM; subst e; clear hG
  refine gj_istore (q := 7) (gj_dk okX12_bar 3 rfl) (by decide) rfl ?_
  refine gj_aload_n (q := 8) (gj_dk okX12_bar 4 rfl) rfl rfl ?_
  refine gj_iload_n (q := 9) (gj_dk okX12_bar 5 rfl) rfl rfl ?_
  obtain ⟨x3, hG, hF⟩ := gj_bndd hF
  refine gj_callV (q := 12) (z := 79) (ci := 10) [jI a2] rfl (t_X12_who hst a2 hG) (gj_dk okX12_bar 6 rfl) ml_X12_281 me_X12_who (sh79 hst) rfl (gj_nm rfl) rfl (gj_kI fun y S2 M2 h => ?_)
  obtain ⟨e, eS, eM⟩ := h; subst eS; subst eM; subst e; clear hG
  refine gj_istore (q := 14) (gj_dk okX12_bar 7 rfl) (by decide) rfl ?_
  refine gj_iload (q := 16) (gj_dk okX12_bar 8 rfl) rfl rfl ?_
  refine gj_iload (q := 18) (gj_dk okX12_bar 9 rfl) rfl rfl ?_
  refine gj_callS (q := 21) [jI x1, jI x3] rfl (t_X12_areTwo hst x1 x3 rfl) (gj_dk okX12_bar 10 rfl) ml_X12_288 me_X12_areTwo (gj_nm rfl) rfl (gj_kI fun x S2 M2 h => ?_)
  obtain ⟨bz, e, eS, eM⟩ := h; subst eS; subst eM; subst e
  refine gj_stpZ bz hF (fun x5 bx5 hF => ?_)
  refine gj_if_eq (q := 24) (tgt := 44) (gj_dk okX12_bar 11 rfl) (by decide) rfl (fun c21 => ?_) (fun c21 => ?_)
  · -- 44
    replace hF := gj_ift c21 hF
    refine gj_iconst (q := 45) (gj_dk okX12_bar 21 rfl) (by decide) rfl ?_
    cases hF
    exact gj_iret (gj_dk okX12_bar 22 rfl) rfl ⟨_, rfl, rfl, rfl, rfl⟩
  · -- 24
    replace hF := gj_iff c21 hF
    refine gj_iload_n (q := 25) (gj_dk okX12_bar 12 rfl) rfl rfl ?_
    refine gj_i2l (q := 26) (gj_dk okX12_bar 13 rfl) rfl ?_
    refine gj_lconst (q := 27) (z := 1) (gj_dk okX12_bar 14 rfl) rfl (by decide) rfl ?_
    refine gj_ldc2 (q := 30) (z := 6) (gj_dk okX12_bar 15 rfl) kl_X12_365 (by decide) rfl ?_
    refine gj_callS (q := 33) [jL a3, jL 1, jL 6] rfl (t_X12_in hst a3 1 6 rfl) (gj_dk okX12_bar 16 rfl) ml_X12_158 me_X12_in (gj_nm rfl) rfl (gj_kI fun x S2 M2 h => ?_)
    obtain ⟨bz, e, eS, eM⟩ := h; subst eS; subst eM; subst e
    refine gj_stpZ bz hF (fun x6 bx6 hF => ?_)
    refine gj_if_eq (q := 36) (tgt := 44) (gj_dk okX12_bar 17 rfl) (by decide) rfl (fun c33 => ?_) (fun c33 => ?_)
    · -- 44
      replace hF := gj_ift c33 hF
      refine gj_iconst (q := 45) (gj_dk okX12_bar 21 rfl) (by decide) rfl ?_
      cases hF
      exact gj_iret (gj_dk okX12_bar 22 rfl) rfl ⟨_, rfl, rfl, rfl, rfl⟩
    · -- 36
      replace hF := gj_iff c33 hF
      refine gj_iload (q := 38) (gj_dk okX12_bar 18 rfl) rfl rfl ?_
      refine gj_callS (q := 41) [jI a4] rfl (t_X12_areMays hst a4 rfl) (gj_dk okX12_bar 19 rfl) ml_X12_353 me_X12_areMays (gj_nm rfl) rfl (gj_kI fun x S2 M2 h => ?_)
      obtain ⟨bz, e, eS, eM⟩ := h; subst eS; subst eM; subst e
      refine gj_stpZ bz hF (fun x7 bx7 hF => ?_)
      refine gj_if_ne (q := 44) (tgt := 46) (gj_dk okX12_bar 20 rfl) (by decide) rfl (fun c41 => ?_) (fun c41 => ?_)
      · -- 46
        replace hF := gj_iff c41 hF
        refine gj_aload_n (q := 47) (gj_dk okX12_bar 23 rfl) rfl rfl ?_
        refine gj_iload (q := 49) (gj_dk okX12_bar 24 rfl) rfl rfl ?_
        obtain ⟨M9, hG, hF⟩ := gj_bndd hF
        refine gj_callV (q := 52) (z := 79) (ci := 10) [jI x1] rfl (t_X12_lays hst x1 hG) (gj_dk okX12_bar 25 rfl) ml_X12_345 me_X12_lays (sh79 hst) rfl (gj_nm rfl) rfl (gj_kV fun S2 M2 h => ?_)
        obtain ⟨eS, eM⟩ := h; subst eS; subst eM; clear hG
        refine gj_iload (q := 54) (gj_dk okX12_bar 26 rfl) rfl rfl ?_
        refine gj_iconst (q := 55) (gj_dk okX12_bar 27 rfl) (by decide) rfl ?_
        refine gj_irem (q := 56) (gj_dk okX12_bar 28 rfl) (by decide) rfl ?_
        refine gj_istore (q := 58) (gj_dk okX12_bar 29 rfl) (by decide) rfl ?_
        refine gj_iconst (q := 59) (gj_dk okX12_bar 30 rfl) (by decide) rfl ?_
        refine gj_istore (q := 61) (gj_dk okX12_bar 31 rfl) (by decide) rfl ?_
        refine gj_sub [(0, jR 79), (3, jI a3), (4, jI a4), (7, jI (Int.tmod x3 4)), (8, jI 0)] ⟨rfl, rfl, rfl, rfl, rfl, trivial⟩ ?_
        exact t_L_X12_bar_61 hst gj_fu a3 a4 (Int.tmod x3 4) 0 M9 hF
      · -- 44
        replace hF := gj_ift c41 hF
        refine gj_iconst (q := 45) (gj_dk okX12_bar 21 rfl) (by decide) rfl ?_
        cases hF
        exact gj_iret (gj_dk okX12_bar 22 rfl) rfl ⟨_, rfl, rfl, rfl, rfl⟩
end GJFR
