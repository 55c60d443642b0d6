/-! THE LAW: all its calls -/
section GJLL
variable {G : gj_G} {l : Launch}
set_option maxHeartbeats 4000000 in
set_option maxRecDepth 20000 in
theorem n_case_0 {S : gj_S} {M : gj_M} {i : Int} {k n : Nat} (hst : gj_Stat S) (hW : g_FK M M) (i0 : 0 ≤ i) (i1 : i + 6 ≤ (gj_n G : Int)) (iN : (gj_n G : Int) ≤ 3072) (hk : k + 255 ≤ 600000) (hn : n + 1275 ≤ 7302249) (J : ∀ (k2 n2 : Nat) (S2 : gj_S) (M2 : gj_M), k2 ≤ k + 255 → n2 ≤ n + 1275 → gj_Stat S2 → g_FK M2 M2 → gj_W G l 1000 600000 7302249 yL_law cL_law 4 (some .boolean) (gj_qI fun x _ _ => 1 = x) k2 n2 1219 [(0, jR (-100)), (1, jR 0), (2, jR 79), (3, jI i)] [] S2 M2) : gj_W G l 1000 600000 7302249 yL_law cL_law 4 (some .boolean) (gj_qI fun x _ _ => 1 = x) k n 180 [(0, jR (-100)), (1, jR 0), (2, jR 79), (3, jI i)] [] S M := by
  obtain ⟨v1, hv1⟩ : ∃ v, (gj_x G ((i + 1)).toNat).toInt = v := ⟨_, rfl⟩
  obtain ⟨v2, hv2⟩ : ∃ v, (gj_x G ((i + 2)).toNat).toInt = v := ⟨_, rfl⟩
  obtain ⟨v3, hv3⟩ : ∃ v, (gj_x G ((i + 3)).toNat).toInt = v := ⟨_, rfl⟩
  obtain ⟨v4, hv4⟩ : ∃ v, (gj_x G ((i + 4)).toNat).toInt = v := ⟨_, rfl⟩
  obtain ⟨v5, hv5⟩ : ∃ v, (gj_x G ((i + 5)).toNat).toInt = v := ⟨_, rfl⟩
  obtain ⟨w1, D, U, e1, e2, hU⟩ := x_feed (a := v1) (b := v2) (c := v3) (d := v4) (e := v5) hW
  refine gj_aload_n (q := 181) (gj_dk okL_law_0 22 rfl) rfl rfl ?_
  refine gj_aload_n (q := 182) (gj_dk okL_law_0 23 rfl) rfl rfl ?_
  refine gj_iload_n (q := 183) (gj_dk okL_law_0 24 rfl) rfl rfl ?_
  refine gj_iconst (q := 184) (gj_dk okL_law_0 25 rfl) (by decide) rfl ?_
  refine gj_iaddX (q := 185) (gj_dk okL_law_0 26 rfl) (by omega) rfl ?_
  refine gj_sld (q := 186) (gj_dk okL_law_0 27 rfl) (by omega) (by omega) rfl ?_
  rw [hv1]
  refine gj_aload_n (q := 187) (gj_dk okL_law_0 28 rfl) rfl rfl ?_
  refine gj_iload_n (q := 188) (gj_dk okL_law_0 29 rfl) rfl rfl ?_
  refine gj_iconst (q := 189) (gj_dk okL_law_0 30 rfl) (by decide) rfl ?_
  refine gj_iaddX (q := 190) (gj_dk okL_law_0 31 rfl) (by omega) rfl ?_
  refine gj_sld (q := 191) (gj_dk okL_law_0 32 rfl) (by omega) (by omega) rfl ?_
  rw [hv2]
  refine gj_aload_n (q := 192) (gj_dk okL_law_0 33 rfl) rfl rfl ?_
  refine gj_iload_n (q := 193) (gj_dk okL_law_0 34 rfl) rfl rfl ?_
  refine gj_iconst (q := 194) (gj_dk okL_law_0 35 rfl) (by decide) rfl ?_
  refine gj_iaddX (q := 195) (gj_dk okL_law_0 36 rfl) (by omega) rfl ?_
  refine gj_sld (q := 196) (gj_dk okL_law_0 37 rfl) (by omega) (by omega) rfl ?_
  rw [hv3]
  refine gj_aload_n (q := 197) (gj_dk okL_law_0 38 rfl) rfl rfl ?_
  refine gj_iload_n (q := 198) (gj_dk okL_law_0 39 rfl) rfl rfl ?_
  refine gj_iconst (q := 199) (gj_dk okL_law_0 40 rfl) (by decide) rfl ?_
  refine gj_iaddX (q := 200) (gj_dk okL_law_0 41 rfl) (by omega) rfl ?_
  refine gj_sld (q := 201) (gj_dk okL_law_0 42 rfl) (by omega) (by omega) rfl ?_
  rw [hv4]
  refine gj_aload_n (q := 202) (gj_dk okL_law_0 43 rfl) rfl rfl ?_
  refine gj_iload_n (q := 203) (gj_dk okL_law_0 44 rfl) rfl rfl ?_
  refine gj_iconst (q := 204) (gj_dk okL_law_0 45 rfl) (by decide) rfl ?_
  refine gj_iaddX (q := 205) (gj_dk okL_law_0 46 rfl) (by omega) rfl ?_
  refine gj_sld (q := 206) (gj_dk okL_law_0 47 rfl) (by omega) (by omega) rfl ?_
  rw [hv5]
  refine gj_callV (q := 209) (z := 0) (ci := 9) [jI v1, jI v2, jI v3, jI v4, jI v5] rfl (t_X11_feed hst v1 v2 v3 v4 v5 e1) (gj_dk okL_law_0 48 rfl) ml_L_13 me_X11_feed (sh0 hst) rfl ⟨by decide, by decide, rfl, Nat.le_of_ble_eq_true rfl, by omega, by omega⟩ rfl (gj_kI fun x0 S2 M2 h0 => ?_)
  obtain ⟨ex, eS, eM⟩ := h0
  dsimp only at ex eM
  subst ex; subst eM
  subst eS
  refine gj_pop (q := 210) (gj_dk okL_law_0 49 rfl) rfl rfl ?_
  refine gj_aload_n (q := 211) (gj_dk okL_law_0 50 rfl) rfl rfl ?_
  refine gj_aload_n (q := 212) (gj_dk okL_law_0 51 rfl) rfl rfl ?_
  refine gj_iload_n (q := 213) (gj_dk okL_law_0 52 rfl) rfl rfl ?_
  refine gj_iconst (q := 214) (gj_dk okL_law_0 53 rfl) (by decide) rfl ?_
  refine gj_iaddX (q := 215) (gj_dk okL_law_0 54 rfl) (by omega) rfl ?_
  refine gj_sld (q := 216) (gj_dk okL_law_0 55 rfl) (by omega) (by omega) rfl ?_
  rw [hv1]
  refine gj_aload_n (q := 217) (gj_dk okL_law_0 56 rfl) rfl rfl ?_
  refine gj_iload_n (q := 218) (gj_dk okL_law_0 57 rfl) rfl rfl ?_
  refine gj_iconst (q := 219) (gj_dk okL_law_0 58 rfl) (by decide) rfl ?_
  refine gj_iaddX (q := 220) (gj_dk okL_law_0 59 rfl) (by omega) rfl ?_
  refine gj_sld (q := 221) (gj_dk okL_law_1 0 rfl) (by omega) (by omega) rfl ?_
  rw [hv2]
  refine gj_aload_n (q := 222) (gj_dk okL_law_1 1 rfl) rfl rfl ?_
  refine gj_iload_n (q := 223) (gj_dk okL_law_1 2 rfl) rfl rfl ?_
  refine gj_iconst (q := 224) (gj_dk okL_law_1 3 rfl) (by decide) rfl ?_
  refine gj_iaddX (q := 225) (gj_dk okL_law_1 4 rfl) (by omega) rfl ?_
  refine gj_sld (q := 226) (gj_dk okL_law_1 5 rfl) (by omega) (by omega) rfl ?_
  rw [hv3]
  refine gj_aload_n (q := 227) (gj_dk okL_law_1 6 rfl) rfl rfl ?_
  refine gj_iload_n (q := 228) (gj_dk okL_law_1 7 rfl) rfl rfl ?_
  refine gj_iconst (q := 229) (gj_dk okL_law_1 8 rfl) (by decide) rfl ?_
  refine gj_iaddX (q := 230) (gj_dk okL_law_1 9 rfl) (by omega) rfl ?_
  refine gj_sld (q := 231) (gj_dk okL_law_1 10 rfl) (by omega) (by omega) rfl ?_
  rw [hv4]
  refine gj_aload_n (q := 232) (gj_dk okL_law_1 11 rfl) rfl rfl ?_
  refine gj_iload_n (q := 233) (gj_dk okL_law_1 12 rfl) rfl rfl ?_
  refine gj_iconst (q := 234) (gj_dk okL_law_1 13 rfl) (by decide) rfl ?_
  refine gj_iaddX (q := 235) (gj_dk okL_law_1 14 rfl) (by omega) rfl ?_
  refine gj_sld (q := 236) (gj_dk okL_law_1 15 rfl) (by omega) (by omega) rfl ?_
  rw [hv5]
  refine gj_callV (q := 239) (z := 79) (ci := 10) [jI v1, jI v2, jI v3, jI v4, jI v5] rfl (t_X12_feed hst v1 v2 v3 v4 v5 e2) (gj_dk okL_law_1 16 rfl) ml_L_17 me_X12_feed (sh79 hst) rfl ⟨by decide, by decide, rfl, Nat.le_of_ble_eq_true rfl, by omega, by omega⟩ rfl (gj_kI fun x1 S2 M2 h1 => ?_)
  obtain ⟨ex, eS, eM⟩ := h1
  dsimp only at ex eM
  subst ex; subst eM
  subst eS
  refine gj_pop (q := 240) (gj_dk okL_law_1 17 rfl) rfl rfl ?_
  refine gj_goto (tgt := 1219) (gj_dk okL_law_1 18 rfl) (by decide) ?_
  exact J _ _ _ _ (by omega) (by omega) hst hU
set_option maxHeartbeats 4000000 in
set_option maxRecDepth 20000 in
theorem n_case_1 {S : gj_S} {M : gj_M} {i : Int} {k n : Nat} (hst : gj_Stat S) (hW : g_FK M M) (i0 : 0 ≤ i) (i1 : i + 6 ≤ (gj_n G : Int)) (iN : (gj_n G : Int) ≤ 3072) (hk : k + 255 ≤ 600000) (hn : n + 1275 ≤ 7302249) (J : ∀ (k2 n2 : Nat) (S2 : gj_S) (M2 : gj_M), k2 ≤ k + 255 → n2 ≤ n + 1275 → gj_Stat S2 → g_FK M2 M2 → gj_W G l 1000 600000 7302249 yL_law cL_law 4 (some .boolean) (gj_qI fun x _ _ => 1 = x) k2 n2 1219 [(0, jR (-100)), (1, jR 0), (2, jR 79), (3, jI i)] [] S2 M2) : gj_W G l 1000 600000 7302249 yL_law cL_law 4 (some .boolean) (gj_qI fun x _ _ => 1 = x) k n 243 [(0, jR (-100)), (1, jR 0), (2, jR 79), (3, jI i)] [] S M := by
  obtain ⟨v1, hv1⟩ : ∃ v, (gj_x G ((i + 1)).toNat).toInt = v := ⟨_, rfl⟩
  obtain ⟨U, e2, hU⟩ := x_end (a := v1) hW
  obtain ⟨w1, D, e1⟩ : ∃ v D, f_X11_end v1 M = (v, D) := ⟨_, _, rfl⟩
  rw [e1] at e2
  dsimp only at e2
  refine gj_aload_n (q := 244) (gj_dk okL_law_1 19 rfl) rfl rfl ?_
  refine gj_aload_n (q := 245) (gj_dk okL_law_1 20 rfl) rfl rfl ?_
  refine gj_iload_n (q := 246) (gj_dk okL_law_1 21 rfl) rfl rfl ?_
  refine gj_iconst (q := 247) (gj_dk okL_law_1 22 rfl) (by decide) rfl ?_
  refine gj_iaddX (q := 248) (gj_dk okL_law_1 23 rfl) (by omega) rfl ?_
  refine gj_sld (q := 249) (gj_dk okL_law_1 24 rfl) (by omega) (by omega) rfl ?_
  rw [hv1]
  refine gj_callV (q := 252) (z := 0) (ci := 9) [jI v1] rfl (t_X11_end hst v1 e1) (gj_dk okL_law_1 25 rfl) ml_L_18 me_X11_end (sh0 hst) rfl ⟨by decide, by decide, rfl, Nat.le_of_ble_eq_true rfl, by omega, by omega⟩ rfl (gj_kI fun x0 S2 M2 h0 => ?_)
  obtain ⟨-, ex, eS, eM⟩ := h0
  dsimp only at ex eM
  subst ex; subst eM
  subst eS
  refine gj_pop (q := 253) (gj_dk okL_law_1 26 rfl) rfl rfl ?_
  refine gj_aload_n (q := 254) (gj_dk okL_law_1 27 rfl) rfl rfl ?_
  refine gj_aload_n (q := 255) (gj_dk okL_law_1 28 rfl) rfl rfl ?_
  refine gj_iload_n (q := 256) (gj_dk okL_law_1 29 rfl) rfl rfl ?_
  refine gj_iconst (q := 257) (gj_dk okL_law_1 30 rfl) (by decide) rfl ?_
  refine gj_iaddX (q := 258) (gj_dk okL_law_1 31 rfl) (by omega) rfl ?_
  refine gj_sld (q := 259) (gj_dk okL_law_1 32 rfl) (by omega) (by omega) rfl ?_
  rw [hv1]
  refine gj_callV (q := 262) (z := 79) (ci := 10) [jI v1] rfl (t_X12_end hst v1 e2) (gj_dk okL_law_1 33 rfl) ml_L_22 me_X12_end (sh79 hst) rfl ⟨by decide, by decide, rfl, Nat.le_of_ble_eq_true rfl, by omega, by omega⟩ rfl (gj_kI fun x1 S2 M2 h1 => ?_)
  obtain ⟨-, ex, eS, eM⟩ := h1
  dsimp only at ex eM
  subst ex; subst eM
  subst eS
  refine gj_pop (q := 263) (gj_dk okL_law_1 34 rfl) rfl rfl ?_
  refine gj_goto (tgt := 1219) (gj_dk okL_law_1 35 rfl) (by decide) ?_
  exact J _ _ _ _ (by omega) (by omega) hst hU
set_option maxHeartbeats 4000000 in
set_option maxRecDepth 20000 in
theorem n_case_2 {S : gj_S} {M : gj_M} {i : Int} {k n : Nat} (hst : gj_Stat S) (hW : g_FK M M) (i0 : 0 ≤ i) (i1 : i + 6 ≤ (gj_n G : Int)) (iN : (gj_n G : Int) ≤ 3072) (hk : k + 255 ≤ 600000) (hn : n + 1275 ≤ 7302249) (J : ∀ (k2 n2 : Nat) (S2 : gj_S) (M2 : gj_M), k2 ≤ k + 255 → n2 ≤ n + 1275 → gj_Stat S2 → g_FK M2 M2 → gj_W G l 1000 600000 7302249 yL_law cL_law 4 (some .boolean) (gj_qI fun x _ _ => 1 = x) k2 n2 1219 [(0, jR (-100)), (1, jR 0), (2, jR 79), (3, jI i)] [] S2 M2) : gj_W G l 1000 600000 7302249 yL_law cL_law 4 (some .boolean) (gj_qI fun x _ _ => 1 = x) k n 266 [(0, jR (-100)), (1, jR 0), (2, jR 79), (3, jI i)] [] S M := by
  obtain ⟨w1, D, U, e1, e2, hU⟩ := x_fault hst.1 hW
  refine gj_aload_n (q := 267) (gj_dk okL_law_1 36 rfl) rfl rfl ?_
  refine gj_callV (q := 270) (z := 0) (ci := 9) [] rfl (t_X11_fault hst e1) (gj_dk okL_law_1 37 rfl) ml_L_23 me_X11_fault (sh0 hst) rfl ⟨by decide, by decide, rfl, Nat.le_of_ble_eq_true rfl, by omega, by omega⟩ rfl (gj_kI fun x0 S2 M2 h0 => ?_)
  obtain ⟨ex, eS, eM⟩ := h0
  dsimp only at ex eM
  subst ex; subst eM
  subst eS
  refine gj_pop (q := 271) (gj_dk okL_law_1 38 rfl) rfl rfl ?_
  refine gj_aload_n (q := 272) (gj_dk okL_law_1 39 rfl) rfl rfl ?_
  refine gj_callV (q := 275) (z := 79) (ci := 10) [] rfl (t_X12_fault hst rfl e2) (gj_dk okL_law_1 40 rfl) ml_L_27 me_X12_fault (sh79 hst) rfl ⟨by decide, by decide, rfl, Nat.le_of_ble_eq_true rfl, by omega, by omega⟩ rfl (gj_kI fun x1 S2 M2 h1 => ?_)
  obtain ⟨ex, hst2, eS, eM⟩ := h1
  dsimp only at ex eM eS
  subst ex; subst eM
  clear eS
  refine gj_pop (q := 276) (gj_dk okL_law_1 41 rfl) rfl rfl ?_
  refine gj_goto (tgt := 1219) (gj_dk okL_law_1 42 rfl) (by decide) ?_
  exact J _ _ _ _ (by omega) (by omega) hst2 hU
set_option maxHeartbeats 4000000 in
set_option maxRecDepth 20000 in
theorem n_case_3 {S : gj_S} {M : gj_M} {i : Int} {k n : Nat} (hst : gj_Stat S) (hW : g_FK M M) (i0 : 0 ≤ i) (i1 : i + 6 ≤ (gj_n G : Int)) (iN : (gj_n G : Int) ≤ 3072) (hk : k + 255 ≤ 600000) (hn : n + 1275 ≤ 7302249) (J : ∀ (k2 n2 : Nat) (S2 : gj_S) (M2 : gj_M), k2 ≤ k + 255 → n2 ≤ n + 1275 → gj_Stat S2 → g_FK M2 M2 → gj_W G l 1000 600000 7302249 yL_law cL_law 4 (some .boolean) (gj_qI fun x _ _ => 1 = x) k2 n2 1219 [(0, jR (-100)), (1, jR 0), (2, jR 79), (3, jI i)] [] S2 M2) : gj_W G l 1000 600000 7302249 yL_law cL_law 4 (some .boolean) (gj_qI fun x _ _ => 1 = x) k n 279 [(0, jR (-100)), (1, jR 0), (2, jR 79), (3, jI i)] [] S M := by
  obtain ⟨w1, D, U, e1, e2, hU⟩ := x_village hst.1 hW
  refine gj_aload_n (q := 280) (gj_dk okL_law_1 43 rfl) rfl rfl ?_
  refine gj_callV (q := 283) (z := 0) (ci := 9) [] rfl (t_X11_village hst e1) (gj_dk okL_law_1 44 rfl) ml_L_28 me_X11_village (sh0 hst) rfl ⟨by decide, by decide, rfl, Nat.le_of_ble_eq_true rfl, by omega, by omega⟩ rfl (gj_kI fun x0 S2 M2 h0 => ?_)
  obtain ⟨ex, eS, eM⟩ := h0
  dsimp only at ex eM
  subst ex; subst eM
  subst eS
  refine gj_pop (q := 284) (gj_dk okL_law_1 45 rfl) rfl rfl ?_
  refine gj_aload_n (q := 285) (gj_dk okL_law_1 46 rfl) rfl rfl ?_
  refine gj_callV (q := 288) (z := 79) (ci := 10) [] rfl (t_X12_village hst rfl e2) (gj_dk okL_law_1 47 rfl) ml_L_31 me_X12_village (sh79 hst) rfl ⟨by decide, by decide, rfl, Nat.le_of_ble_eq_true rfl, by omega, by omega⟩ rfl (gj_kI fun x1 S2 M2 h1 => ?_)
  obtain ⟨ex, hst2, eS, eM⟩ := h1
  dsimp only at ex eM eS
  subst ex; subst eM
  clear eS
  refine gj_pop (q := 289) (gj_dk okL_law_1 48 rfl) rfl rfl ?_
  refine gj_goto (tgt := 1219) (gj_dk okL_law_1 49 rfl) (by decide) ?_
  exact J _ _ _ _ (by omega) (by omega) hst2 hU
set_option maxHeartbeats 4000000 in
set_option maxRecDepth 20000 in
theorem n_case_4 {S : gj_S} {M : gj_M} {i : Int} {k n : Nat} (hst : gj_Stat S) (hW : g_FK M M) (i0 : 0 ≤ i) (i1 : i + 6 ≤ (gj_n G : Int)) (iN : (gj_n G : Int) ≤ 3072) (hk : k + 255 ≤ 600000) (hn : n + 1275 ≤ 7302249) (J : ∀ (k2 n2 : Nat) (S2 : gj_S) (M2 : gj_M), k2 ≤ k + 255 → n2 ≤ n + 1275 → gj_Stat S2 → g_FK M2 M2 → gj_W G l 1000 600000 7302249 yL_law cL_law 4 (some .boolean) (gj_qI fun x _ _ => 1 = x) k2 n2 1219 [(0, jR (-100)), (1, jR 0), (2, jR 79), (3, jI i)] [] S2 M2) : gj_W G l 1000 600000 7302249 yL_law cL_law 4 (some .boolean) (gj_qI fun x _ _ => 1 = x) k n 292 [(0, jR (-100)), (1, jR 0), (2, jR 79), (3, jI i)] [] S M := by
  obtain ⟨v1, hv1⟩ : ∃ v, (gj_x G ((i + 1)).toNat).toInt = v := ⟨_, rfl⟩
  obtain ⟨v2, hv2⟩ : ∃ v, (gj_x G ((i + 2)).toNat).toInt = v := ⟨_, rfl⟩
  obtain ⟨w1, e1⟩ : ∃ v, f_X11_person v1 v2 M = v := ⟨_, rfl⟩
  have e2 := x_person (a := v1) (b := v2) hW
  rw [e1] at e2
  refine gj_aload_n (q := 293) (gj_dk okL_law_1 50 rfl) rfl rfl ?_
  refine gj_aload_n (q := 294) (gj_dk okL_law_1 51 rfl) rfl rfl ?_
  refine gj_iload_n (q := 295) (gj_dk okL_law_1 52 rfl) rfl rfl ?_
  refine gj_iconst (q := 296) (gj_dk okL_law_1 53 rfl) (by decide) rfl ?_
  refine gj_iaddX (q := 297) (gj_dk okL_law_1 54 rfl) (by omega) rfl ?_
  refine gj_sld (q := 298) (gj_dk okL_law_1 55 rfl) (by omega) (by omega) rfl ?_
  rw [hv1]
  refine gj_aload_n (q := 299) (gj_dk okL_law_1 56 rfl) rfl rfl ?_
  refine gj_iload_n (q := 300) (gj_dk okL_law_1 57 rfl) rfl rfl ?_
  refine gj_iconst (q := 301) (gj_dk okL_law_1 58 rfl) (by decide) rfl ?_
  refine gj_iaddX (q := 302) (gj_dk okL_law_1 59 rfl) (by omega) rfl ?_
  refine gj_sld (q := 303) (gj_dk okL_law_2 0 rfl) (by omega) (by omega) rfl ?_
  rw [hv2]
  refine gj_callV (q := 306) (z := 0) (ci := 9) [jI v1, jI v2] rfl (t_X11_person hst v1 v2 e1) (gj_dk okL_law_2 1 rfl) ml_L_32 me_X11_person (sh0 hst) rfl ⟨by decide, by decide, rfl, Nat.le_of_ble_eq_true rfl, by omega, by omega⟩ rfl (gj_kI fun x0 S2 M2 h0 => ?_)
  obtain ⟨ex, eS, eM⟩ := h0
  subst ex; subst eM
  subst eS
  refine gj_pop (q := 307) (gj_dk okL_law_2 2 rfl) rfl rfl ?_
  refine gj_aload_n (q := 308) (gj_dk okL_law_2 3 rfl) rfl rfl ?_
  refine gj_aload_n (q := 309) (gj_dk okL_law_2 4 rfl) rfl rfl ?_
  refine gj_iload_n (q := 310) (gj_dk okL_law_2 5 rfl) rfl rfl ?_
  refine gj_iconst (q := 311) (gj_dk okL_law_2 6 rfl) (by decide) rfl ?_
  refine gj_iaddX (q := 312) (gj_dk okL_law_2 7 rfl) (by omega) rfl ?_
  refine gj_sld (q := 313) (gj_dk okL_law_2 8 rfl) (by omega) (by omega) rfl ?_
  rw [hv1]
  refine gj_aload_n (q := 314) (gj_dk okL_law_2 9 rfl) rfl rfl ?_
  refine gj_iload_n (q := 315) (gj_dk okL_law_2 10 rfl) rfl rfl ?_
  refine gj_iconst (q := 316) (gj_dk okL_law_2 11 rfl) (by decide) rfl ?_
  refine gj_iaddX (q := 317) (gj_dk okL_law_2 12 rfl) (by omega) rfl ?_
  refine gj_sld (q := 318) (gj_dk okL_law_2 13 rfl) (by omega) (by omega) rfl ?_
  rw [hv2]
  refine gj_callV (q := 321) (z := 79) (ci := 10) [jI v1, jI v2] rfl (t_X12_person hst v1 v2 e2) (gj_dk okL_law_2 14 rfl) ml_L_36 me_X12_person (sh79 hst) rfl ⟨by decide, by decide, rfl, Nat.le_of_ble_eq_true rfl, by omega, by omega⟩ rfl (gj_kI fun x1 S2 M2 h1 => ?_)
  obtain ⟨ex, eS, eM⟩ := h1
  subst ex; subst eM
  subst eS
  refine gj_pop (q := 322) (gj_dk okL_law_2 15 rfl) rfl rfl ?_
  refine gj_goto (tgt := 1219) (gj_dk okL_law_2 16 rfl) (by decide) ?_
  exact J _ _ _ _ (by omega) (by omega) hst hW
set_option maxHeartbeats 4000000 in
set_option maxRecDepth 20000 in
theorem n_case_5 {S : gj_S} {M : gj_M} {i : Int} {k n : Nat} (hst : gj_Stat S) (hW : g_FK M M) (i0 : 0 ≤ i) (i1 : i + 6 ≤ (gj_n G : Int)) (iN : (gj_n G : Int) ≤ 3072) (hk : k + 255 ≤ 600000) (hn : n + 1275 ≤ 7302249) (J : ∀ (k2 n2 : Nat) (S2 : gj_S) (M2 : gj_M), k2 ≤ k + 255 → n2 ≤ n + 1275 → gj_Stat S2 → g_FK M2 M2 → gj_W G l 1000 600000 7302249 yL_law cL_law 4 (some .boolean) (gj_qI fun x _ _ => 1 = x) k2 n2 1219 [(0, jR (-100)), (1, jR 0), (2, jR 79), (3, jI i)] [] S2 M2) : gj_W G l 1000 600000 7302249 yL_law cL_law 4 (some .boolean) (gj_qI fun x _ _ => 1 = x) k n 325 [(0, jR (-100)), (1, jR 0), (2, jR 79), (3, jI i)] [] S M := by
  obtain ⟨v1, hv1⟩ : ∃ v, (gj_x G ((i + 1)).toNat).toInt = v := ⟨_, rfl⟩
  obtain ⟨w1, e1⟩ : ∃ v, f_X11_earned v1 M = v := ⟨_, rfl⟩
  have e2 := x_earned (a := v1) hW
  rw [e1] at e2
  refine gj_aload_n (q := 326) (gj_dk okL_law_2 17 rfl) rfl rfl ?_
  refine gj_aload_n (q := 327) (gj_dk okL_law_2 18 rfl) rfl rfl ?_
  refine gj_iload_n (q := 328) (gj_dk okL_law_2 19 rfl) rfl rfl ?_
  refine gj_iconst (q := 329) (gj_dk okL_law_2 20 rfl) (by decide) rfl ?_
  refine gj_iaddX (q := 330) (gj_dk okL_law_2 21 rfl) (by omega) rfl ?_
  refine gj_sld (q := 331) (gj_dk okL_law_2 22 rfl) (by omega) (by omega) rfl ?_
  rw [hv1]
  refine gj_callV (q := 334) (z := 0) (ci := 9) [jI v1] rfl (t_X11_earned hst v1 e1) (gj_dk okL_law_2 23 rfl) ml_L_37 me_X11_earned (sh0 hst) rfl ⟨by decide, by decide, rfl, Nat.le_of_ble_eq_true rfl, by omega, by omega⟩ rfl (gj_kI fun x0 S2 M2 h0 => ?_)
  obtain ⟨ex, eS, eM⟩ := h0
  subst ex; subst eM
  subst eS
  refine gj_pop (q := 335) (gj_dk okL_law_2 24 rfl) rfl rfl ?_
  refine gj_aload_n (q := 336) (gj_dk okL_law_2 25 rfl) rfl rfl ?_
  refine gj_aload_n (q := 337) (gj_dk okL_law_2 26 rfl) rfl rfl ?_
  refine gj_iload_n (q := 338) (gj_dk okL_law_2 27 rfl) rfl rfl ?_
  refine gj_iconst (q := 339) (gj_dk okL_law_2 28 rfl) (by decide) rfl ?_
  refine gj_iaddX (q := 340) (gj_dk okL_law_2 29 rfl) (by omega) rfl ?_
  refine gj_sld (q := 341) (gj_dk okL_law_2 30 rfl) (by omega) (by omega) rfl ?_
  rw [hv1]
  refine gj_callV (q := 344) (z := 79) (ci := 10) [jI v1] rfl (t_X12_earned hst v1 e2) (gj_dk okL_law_2 31 rfl) ml_L_41 me_X12_earned (sh79 hst) rfl ⟨by decide, by decide, rfl, Nat.le_of_ble_eq_true rfl, by omega, by omega⟩ rfl (gj_kI fun x1 S2 M2 h1 => ?_)
  obtain ⟨ex, eS, eM⟩ := h1
  subst ex; subst eM
  subst eS
  refine gj_pop (q := 345) (gj_dk okL_law_2 32 rfl) rfl rfl ?_
  refine gj_goto (tgt := 1219) (gj_dk okL_law_2 33 rfl) (by decide) ?_
  exact J _ _ _ _ (by omega) (by omega) hst hW
set_option maxHeartbeats 4000000 in
set_option maxRecDepth 20000 in
theorem n_case_6 {S : gj_S} {M : gj_M} {i : Int} {k n : Nat} (hst : gj_Stat S) (hW : g_FK M M) (i0 : 0 ≤ i) (i1 : i + 6 ≤ (gj_n G : Int)) (iN : (gj_n G : Int) ≤ 3072) (hk : k + 255 ≤ 600000) (hn : n + 1275 ≤ 7302249) (J : ∀ (k2 n2 : Nat) (S2 : gj_S) (M2 : gj_M), k2 ≤ k + 255 → n2 ≤ n + 1275 → gj_Stat S2 → g_FK M2 M2 → gj_W G l 1000 600000 7302249 yL_law cL_law 4 (some .boolean) (gj_qI fun x _ _ => 1 = x) k2 n2 1219 [(0, jR (-100)), (1, jR 0), (2, jR 79), (3, jI i)] [] S2 M2) : gj_W G l 1000 600000 7302249 yL_law cL_law 4 (some .boolean) (gj_qI fun x _ _ => 1 = x) k n 348 [(0, jR (-100)), (1, jR 0), (2, jR 79), (3, jI i)] [] S M := by
  obtain ⟨v1, hv1⟩ : ∃ v, (gj_x G ((i + 1)).toNat).toInt = v := ⟨_, rfl⟩
  obtain ⟨v2, hv2⟩ : ∃ v, (gj_x G ((i + 2)).toNat).toInt = v := ⟨_, rfl⟩
  obtain ⟨v3, hv3⟩ : ∃ v, (gj_x G ((i + 3)).toNat).toInt = v := ⟨_, rfl⟩
  obtain ⟨w1, e1⟩ : ∃ v, f_X11_two v1 v2 v3 M = v := ⟨_, rfl⟩
  have e2 := x_two (a := v1) (b := v2) (c := v3) hW
  rw [e1] at e2
  refine gj_aload_n (q := 349) (gj_dk okL_law_2 34 rfl) rfl rfl ?_
  refine gj_aload_n (q := 350) (gj_dk okL_law_2 35 rfl) rfl rfl ?_
  refine gj_iload_n (q := 351) (gj_dk okL_law_2 36 rfl) rfl rfl ?_
  refine gj_iconst (q := 352) (gj_dk okL_law_2 37 rfl) (by decide) rfl ?_
  refine gj_iaddX (q := 353) (gj_dk okL_law_2 38 rfl) (by omega) rfl ?_
  refine gj_sld (q := 354) (gj_dk okL_law_2 39 rfl) (by omega) (by omega) rfl ?_
  rw [hv1]
  refine gj_aload_n (q := 355) (gj_dk okL_law_2 40 rfl) rfl rfl ?_
  refine gj_iload_n (q := 356) (gj_dk okL_law_2 41 rfl) rfl rfl ?_
  refine gj_iconst (q := 357) (gj_dk okL_law_2 42 rfl) (by decide) rfl ?_
  refine gj_iaddX (q := 358) (gj_dk okL_law_2 43 rfl) (by omega) rfl ?_
  refine gj_sld (q := 359) (gj_dk okL_law_2 44 rfl) (by omega) (by omega) rfl ?_
  rw [hv2]
  refine gj_aload_n (q := 360) (gj_dk okL_law_2 45 rfl) rfl rfl ?_
  refine gj_iload_n (q := 361) (gj_dk okL_law_2 46 rfl) rfl rfl ?_
  refine gj_iconst (q := 362) (gj_dk okL_law_2 47 rfl) (by decide) rfl ?_
  refine gj_iaddX (q := 363) (gj_dk okL_law_2 48 rfl) (by omega) rfl ?_
  refine gj_sld (q := 364) (gj_dk okL_law_2 49 rfl) (by omega) (by omega) rfl ?_
  rw [hv3]
  refine gj_callV (q := 367) (z := 0) (ci := 9) [jI v1, jI v2, jI v3] rfl (t_X11_two hst v1 v2 v3 e1) (gj_dk okL_law_2 50 rfl) ml_L_42 me_X11_two (sh0 hst) rfl ⟨by decide, by decide, rfl, Nat.le_of_ble_eq_true rfl, by omega, by omega⟩ rfl (gj_kI fun x0 S2 M2 h0 => ?_)
  obtain ⟨ex, eS, eM⟩ := h0
  subst ex; subst eM
  subst eS
  refine gj_pop (q := 368) (gj_dk okL_law_2 51 rfl) rfl rfl ?_
  refine gj_aload_n (q := 369) (gj_dk okL_law_2 52 rfl) rfl rfl ?_
  refine gj_aload_n (q := 370) (gj_dk okL_law_2 53 rfl) rfl rfl ?_
  refine gj_iload_n (q := 371) (gj_dk okL_law_2 54 rfl) rfl rfl ?_
  refine gj_iconst (q := 372) (gj_dk okL_law_2 55 rfl) (by decide) rfl ?_
  refine gj_iaddX (q := 373) (gj_dk okL_law_2 56 rfl) (by omega) rfl ?_
  refine gj_sld (q := 374) (gj_dk okL_law_2 57 rfl) (by omega) (by omega) rfl ?_
  rw [hv1]
  refine gj_aload_n (q := 375) (gj_dk okL_law_2 58 rfl) rfl rfl ?_
  refine gj_iload_n (q := 376) (gj_dk okL_law_2 59 rfl) rfl rfl ?_
  refine gj_iconst (q := 377) (gj_dk okL_law_3 0 rfl) (by decide) rfl ?_
  refine gj_iaddX (q := 378) (gj_dk okL_law_3 1 rfl) (by omega) rfl ?_
  refine gj_sld (q := 379) (gj_dk okL_law_3 2 rfl) (by omega) (by omega) rfl ?_
  rw [hv2]
  refine gj_aload_n (q := 380) (gj_dk okL_law_3 3 rfl) rfl rfl ?_
  refine gj_iload_n (q := 381) (gj_dk okL_law_3 4 rfl) rfl rfl ?_
  refine gj_iconst (q := 382) (gj_dk okL_law_3 5 rfl) (by decide) rfl ?_
  refine gj_iaddX (q := 383) (gj_dk okL_law_3 6 rfl) (by omega) rfl ?_
  refine gj_sld (q := 384) (gj_dk okL_law_3 7 rfl) (by omega) (by omega) rfl ?_
  rw [hv3]
  refine gj_callV (q := 387) (z := 79) (ci := 10) [jI v1, jI v2, jI v3] rfl (t_X12_two_ hst v1 v2 v3 e2) (gj_dk okL_law_3 8 rfl) ml_L_46 me_X12_two_ (sh79 hst) rfl ⟨by decide, by decide, rfl, Nat.le_of_ble_eq_true rfl, by omega, by omega⟩ rfl (gj_kI fun x1 S2 M2 h1 => ?_)
  obtain ⟨ex, eS, eM⟩ := h1
  subst ex; subst eM
  subst eS
  refine gj_pop (q := 388) (gj_dk okL_law_3 9 rfl) rfl rfl ?_
  refine gj_goto (tgt := 1219) (gj_dk okL_law_3 10 rfl) (by decide) ?_
  exact J _ _ _ _ (by omega) (by omega) hst hW
set_option maxHeartbeats 4000000 in
set_option maxRecDepth 20000 in
theorem n_case_7 {S : gj_S} {M : gj_M} {i : Int} {k n : Nat} (hst : gj_Stat S) (hW : g_FK M M) (i0 : 0 ≤ i) (i1 : i + 6 ≤ (gj_n G : Int)) (iN : (gj_n G : Int) ≤ 3072) (hk : k + 255 ≤ 600000) (hn : n + 1275 ≤ 7302249) (J : ∀ (k2 n2 : Nat) (S2 : gj_S) (M2 : gj_M), k2 ≤ k + 255 → n2 ≤ n + 1275 → gj_Stat S2 → g_FK M2 M2 → gj_W G l 1000 600000 7302249 yL_law cL_law 4 (some .boolean) (gj_qI fun x _ _ => 1 = x) k2 n2 1219 [(0, jR (-100)), (1, jR 0), (2, jR 79), (3, jI i)] [] S2 M2) : gj_W G l 1000 600000 7302249 yL_law cL_law 4 (some .boolean) (gj_qI fun x _ _ => 1 = x) k n 391 [(0, jR (-100)), (1, jR 0), (2, jR 79), (3, jI i)] [] S M := by
  obtain ⟨v1, hv1⟩ : ∃ v, (gj_x G ((i + 1)).toNat).toInt = v := ⟨_, rfl⟩
  obtain ⟨v2, hv2⟩ : ∃ v, (gj_x G ((i + 2)).toNat).toInt = v := ⟨_, rfl⟩
  obtain ⟨v3, hv3⟩ : ∃ v, (gj_x G ((i + 3)).toNat).toInt = v := ⟨_, rfl⟩
  obtain ⟨w1, e1⟩ : ∃ v, f_X11_think v1 v2 v3 M = v := ⟨_, rfl⟩
  have e2 := x_think (a := v1) (b := v2) (c := v3) hW
  rw [e1] at e2
  refine gj_aload_n (q := 392) (gj_dk okL_law_3 11 rfl) rfl rfl ?_
  refine gj_aload_n (q := 393) (gj_dk okL_law_3 12 rfl) rfl rfl ?_
  refine gj_iload_n (q := 394) (gj_dk okL_law_3 13 rfl) rfl rfl ?_
  refine gj_iconst (q := 395) (gj_dk okL_law_3 14 rfl) (by decide) rfl ?_
  refine gj_iaddX (q := 396) (gj_dk okL_law_3 15 rfl) (by omega) rfl ?_
  refine gj_sld (q := 397) (gj_dk okL_law_3 16 rfl) (by omega) (by omega) rfl ?_
  rw [hv1]
  refine gj_aload_n (q := 398) (gj_dk okL_law_3 17 rfl) rfl rfl ?_
  refine gj_iload_n (q := 399) (gj_dk okL_law_3 18 rfl) rfl rfl ?_
  refine gj_iconst (q := 400) (gj_dk okL_law_3 19 rfl) (by decide) rfl ?_
  refine gj_iaddX (q := 401) (gj_dk okL_law_3 20 rfl) (by omega) rfl ?_
  refine gj_sld (q := 402) (gj_dk okL_law_3 21 rfl) (by omega) (by omega) rfl ?_
  rw [hv2]
  refine gj_aload_n (q := 403) (gj_dk okL_law_3 22 rfl) rfl rfl ?_
  refine gj_iload_n (q := 404) (gj_dk okL_law_3 23 rfl) rfl rfl ?_
  refine gj_iconst (q := 405) (gj_dk okL_law_3 24 rfl) (by decide) rfl ?_
  refine gj_iaddX (q := 406) (gj_dk okL_law_3 25 rfl) (by omega) rfl ?_
  refine gj_sld (q := 407) (gj_dk okL_law_3 26 rfl) (by omega) (by omega) rfl ?_
  rw [hv3]
  refine gj_callV (q := 410) (z := 0) (ci := 9) [jI v1, jI v2, jI v3] rfl (t_X11_think hst v1 v2 v3 e1) (gj_dk okL_law_3 27 rfl) ml_L_47 me_X11_think (sh0 hst) rfl ⟨by decide, by decide, rfl, Nat.le_of_ble_eq_true rfl, by omega, by omega⟩ rfl (gj_kI fun x0 S2 M2 h0 => ?_)
  obtain ⟨ex, eS, eM⟩ := h0
  subst ex; subst eM
  subst eS
  refine gj_pop (q := 411) (gj_dk okL_law_3 28 rfl) rfl rfl ?_
  refine gj_aload_n (q := 412) (gj_dk okL_law_3 29 rfl) rfl rfl ?_
  refine gj_aload_n (q := 413) (gj_dk okL_law_3 30 rfl) rfl rfl ?_
  refine gj_iload_n (q := 414) (gj_dk okL_law_3 31 rfl) rfl rfl ?_
  refine gj_iconst (q := 415) (gj_dk okL_law_3 32 rfl) (by decide) rfl ?_
  refine gj_iaddX (q := 416) (gj_dk okL_law_3 33 rfl) (by omega) rfl ?_
  refine gj_sld (q := 417) (gj_dk okL_law_3 34 rfl) (by omega) (by omega) rfl ?_
  rw [hv1]
  refine gj_aload_n (q := 418) (gj_dk okL_law_3 35 rfl) rfl rfl ?_
  refine gj_iload_n (q := 419) (gj_dk okL_law_3 36 rfl) rfl rfl ?_
  refine gj_iconst (q := 420) (gj_dk okL_law_3 37 rfl) (by decide) rfl ?_
  refine gj_iaddX (q := 421) (gj_dk okL_law_3 38 rfl) (by omega) rfl ?_
  refine gj_sld (q := 422) (gj_dk okL_law_3 39 rfl) (by omega) (by omega) rfl ?_
  rw [hv2]
  refine gj_aload_n (q := 423) (gj_dk okL_law_3 40 rfl) rfl rfl ?_
  refine gj_iload_n (q := 424) (gj_dk okL_law_3 41 rfl) rfl rfl ?_
  refine gj_iconst (q := 425) (gj_dk okL_law_3 42 rfl) (by decide) rfl ?_
  refine gj_iaddX (q := 426) (gj_dk okL_law_3 43 rfl) (by omega) rfl ?_
  refine gj_sld (q := 427) (gj_dk okL_law_3 44 rfl) (by omega) (by omega) rfl ?_
  rw [hv3]
  refine gj_callV (q := 430) (z := 79) (ci := 10) [jI v1, jI v2, jI v3] rfl (t_X12_think hst v1 v2 v3 e2) (gj_dk okL_law_3 45 rfl) ml_L_50 me_X12_think (sh79 hst) rfl ⟨by decide, by decide, rfl, Nat.le_of_ble_eq_true rfl, by omega, by omega⟩ rfl (gj_kI fun x1 S2 M2 h1 => ?_)
  obtain ⟨ex, eS, eM⟩ := h1
  subst ex; subst eM
  subst eS
  refine gj_pop (q := 431) (gj_dk okL_law_3 46 rfl) rfl rfl ?_
  refine gj_goto (tgt := 1219) (gj_dk okL_law_3 47 rfl) (by decide) ?_
  exact J _ _ _ _ (by omega) (by omega) hst hW
set_option maxHeartbeats 4000000 in
set_option maxRecDepth 20000 in
theorem n_case_8 {S : gj_S} {M : gj_M} {i : Int} {k n : Nat} (hst : gj_Stat S) (hW : g_FK M M) (i0 : 0 ≤ i) (i1 : i + 6 ≤ (gj_n G : Int)) (iN : (gj_n G : Int) ≤ 3072) (hk : k + 255 ≤ 600000) (hn : n + 1275 ≤ 7302249) (J : ∀ (k2 n2 : Nat) (S2 : gj_S) (M2 : gj_M), k2 ≤ k + 255 → n2 ≤ n + 1275 → gj_Stat S2 → g_FK M2 M2 → gj_W G l 1000 600000 7302249 yL_law cL_law 4 (some .boolean) (gj_qI fun x _ _ => 1 = x) k2 n2 1219 [(0, jR (-100)), (1, jR 0), (2, jR 79), (3, jI i)] [] S2 M2) : gj_W G l 1000 600000 7302249 yL_law cL_law 4 (some .boolean) (gj_qI fun x _ _ => 1 = x) k n 434 [(0, jR (-100)), (1, jR 0), (2, jR 79), (3, jI i)] [] S M := by
  obtain ⟨v1, hv1⟩ : ∃ v, (gj_x G ((i + 1)).toNat).toInt = v := ⟨_, rfl⟩
  obtain ⟨v2, hv2⟩ : ∃ v, (gj_x G ((i + 2)).toNat).toInt = v := ⟨_, rfl⟩
  obtain ⟨v3, hv3⟩ : ∃ v, (gj_x G ((i + 3)).toNat).toInt = v := ⟨_, rfl⟩
  obtain ⟨w1, e1, e2⟩ := x_shown (a := v1) (b := v2) (c := v3) hW
  refine gj_aload_n (q := 435) (gj_dk okL_law_3 48 rfl) rfl rfl ?_
  refine gj_aload_n (q := 436) (gj_dk okL_law_3 49 rfl) rfl rfl ?_
  refine gj_iload_n (q := 437) (gj_dk okL_law_3 50 rfl) rfl rfl ?_
  refine gj_iconst (q := 438) (gj_dk okL_law_3 51 rfl) (by decide) rfl ?_
  refine gj_iaddX (q := 439) (gj_dk okL_law_3 52 rfl) (by omega) rfl ?_
  refine gj_sld (q := 440) (gj_dk okL_law_3 53 rfl) (by omega) (by omega) rfl ?_
  rw [hv1]
  refine gj_aload_n (q := 441) (gj_dk okL_law_3 54 rfl) rfl rfl ?_
  refine gj_iload_n (q := 442) (gj_dk okL_law_3 55 rfl) rfl rfl ?_
  refine gj_iconst (q := 443) (gj_dk okL_law_3 56 rfl) (by decide) rfl ?_
  refine gj_iaddX (q := 444) (gj_dk okL_law_3 57 rfl) (by omega) rfl ?_
  refine gj_sld (q := 445) (gj_dk okL_law_3 58 rfl) (by omega) (by omega) rfl ?_
  rw [hv2]
  refine gj_aload_n (q := 446) (gj_dk okL_law_3 59 rfl) rfl rfl ?_
  refine gj_iload_n (q := 447) (gj_dk okL_law_4 0 rfl) rfl rfl ?_
  refine gj_iconst (q := 448) (gj_dk okL_law_4 1 rfl) (by decide) rfl ?_
  refine gj_iaddX (q := 449) (gj_dk okL_law_4 2 rfl) (by omega) rfl ?_
  refine gj_sld (q := 450) (gj_dk okL_law_4 3 rfl) (by omega) (by omega) rfl ?_
  rw [hv3]
  refine gj_callV (q := 453) (z := 0) (ci := 9) [jI v1, jI v2, jI v3] rfl (t_X11_shown hst v1 v2 v3 e1) (gj_dk okL_law_4 4 rfl) ml_L_51 me_X11_shown (sh0 hst) rfl ⟨by decide, by decide, rfl, Nat.le_of_ble_eq_true rfl, by omega, by omega⟩ rfl (gj_kI fun x0 S2 M2 h0 => ?_)
  obtain ⟨ex, eS, eM⟩ := h0
  subst ex; subst eM
  subst eS
  refine gj_pop (q := 454) (gj_dk okL_law_4 5 rfl) rfl rfl ?_
  refine gj_aload_n (q := 455) (gj_dk okL_law_4 6 rfl) rfl rfl ?_
  refine gj_aload_n (q := 456) (gj_dk okL_law_4 7 rfl) rfl rfl ?_
  refine gj_iload_n (q := 457) (gj_dk okL_law_4 8 rfl) rfl rfl ?_
  refine gj_iconst (q := 458) (gj_dk okL_law_4 9 rfl) (by decide) rfl ?_
  refine gj_iaddX (q := 459) (gj_dk okL_law_4 10 rfl) (by omega) rfl ?_
  refine gj_sld (q := 460) (gj_dk okL_law_4 11 rfl) (by omega) (by omega) rfl ?_
  rw [hv1]
  refine gj_aload_n (q := 461) (gj_dk okL_law_4 12 rfl) rfl rfl ?_
  refine gj_iload_n (q := 462) (gj_dk okL_law_4 13 rfl) rfl rfl ?_
  refine gj_iconst (q := 463) (gj_dk okL_law_4 14 rfl) (by decide) rfl ?_
  refine gj_iaddX (q := 464) (gj_dk okL_law_4 15 rfl) (by omega) rfl ?_
  refine gj_sld (q := 465) (gj_dk okL_law_4 16 rfl) (by omega) (by omega) rfl ?_
  rw [hv2]
  refine gj_aload_n (q := 466) (gj_dk okL_law_4 17 rfl) rfl rfl ?_
  refine gj_iload_n (q := 467) (gj_dk okL_law_4 18 rfl) rfl rfl ?_
  refine gj_iconst (q := 468) (gj_dk okL_law_4 19 rfl) (by decide) rfl ?_
  refine gj_iaddX (q := 469) (gj_dk okL_law_4 20 rfl) (by omega) rfl ?_
  refine gj_sld (q := 470) (gj_dk okL_law_4 21 rfl) (by omega) (by omega) rfl ?_
  rw [hv3]
  refine gj_callV (q := 473) (z := 79) (ci := 10) [jI v1, jI v2, jI v3] rfl (t_X12_shown hst v1 v2 v3 e2) (gj_dk okL_law_4 22 rfl) ml_L_54 me_X12_shown (sh79 hst) rfl ⟨by decide, by decide, rfl, Nat.le_of_ble_eq_true rfl, by omega, by omega⟩ rfl (gj_kI fun x1 S2 M2 h1 => ?_)
  obtain ⟨ex, eS, eM⟩ := h1
  subst ex; subst eM
  subst eS
  refine gj_pop (q := 474) (gj_dk okL_law_4 23 rfl) rfl rfl ?_
  refine gj_goto (tgt := 1219) (gj_dk okL_law_4 24 rfl) (by decide) ?_
  exact J _ _ _ _ (by omega) (by omega) hst hW
set_option maxHeartbeats 4000000 in
set_option maxRecDepth 20000 in
theorem n_case_9 {S : gj_S} {M : gj_M} {i : Int} {k n : Nat} (hst : gj_Stat S) (hW : g_FK M M) (i0 : 0 ≤ i) (i1 : i + 6 ≤ (gj_n G : Int)) (iN : (gj_n G : Int) ≤ 3072) (hk : k + 255 ≤ 600000) (hn : n + 1275 ≤ 7302249) (J : ∀ (k2 n2 : Nat) (S2 : gj_S) (M2 : gj_M), k2 ≤ k + 255 → n2 ≤ n + 1275 → gj_Stat S2 → g_FK M2 M2 → gj_W G l 1000 600000 7302249 yL_law cL_law 4 (some .boolean) (gj_qI fun x _ _ => 1 = x) k2 n2 1219 [(0, jR (-100)), (1, jR 0), (2, jR 79), (3, jI i)] [] S2 M2) : gj_W G l 1000 600000 7302249 yL_law cL_law 4 (some .boolean) (gj_qI fun x _ _ => 1 = x) k n 477 [(0, jR (-100)), (1, jR 0), (2, jR 79), (3, jI i)] [] S M := by
  obtain ⟨v1, hv1⟩ : ∃ v, (gj_x G ((i + 1)).toNat).toInt = v := ⟨_, rfl⟩
  obtain ⟨v2, hv2⟩ : ∃ v, (gj_x G ((i + 2)).toNat).toInt = v := ⟨_, rfl⟩
  obtain ⟨w1, e1⟩ : ∃ v, f_X11_liking v1 v2 M = v := ⟨_, rfl⟩
  have e2 := x_liking (a := v1) (b := v2) hW
  rw [e1] at e2
  refine gj_aload_n (q := 478) (gj_dk okL_law_4 25 rfl) rfl rfl ?_
  refine gj_aload_n (q := 479) (gj_dk okL_law_4 26 rfl) rfl rfl ?_
  refine gj_iload_n (q := 480) (gj_dk okL_law_4 27 rfl) rfl rfl ?_
  refine gj_iconst (q := 481) (gj_dk okL_law_4 28 rfl) (by decide) rfl ?_
  refine gj_iaddX (q := 482) (gj_dk okL_law_4 29 rfl) (by omega) rfl ?_
  refine gj_sld (q := 483) (gj_dk okL_law_4 30 rfl) (by omega) (by omega) rfl ?_
  rw [hv1]
  refine gj_aload_n (q := 484) (gj_dk okL_law_4 31 rfl) rfl rfl ?_
  refine gj_iload_n (q := 485) (gj_dk okL_law_4 32 rfl) rfl rfl ?_
  refine gj_iconst (q := 486) (gj_dk okL_law_4 33 rfl) (by decide) rfl ?_
  refine gj_iaddX (q := 487) (gj_dk okL_law_4 34 rfl) (by omega) rfl ?_
  refine gj_sld (q := 488) (gj_dk okL_law_4 35 rfl) (by omega) (by omega) rfl ?_
  rw [hv2]
  refine gj_callV (q := 491) (z := 0) (ci := 9) [jI v1, jI v2] rfl (t_X11_liking hst v1 v2 e1) (gj_dk okL_law_4 36 rfl) ml_L_55 me_X11_liking (sh0 hst) rfl ⟨by decide, by decide, rfl, Nat.le_of_ble_eq_true rfl, by omega, by omega⟩ rfl (gj_kI fun x0 S2 M2 h0 => ?_)
  obtain ⟨ex, eS, eM⟩ := h0
  subst ex; subst eM
  subst eS
  refine gj_pop (q := 492) (gj_dk okL_law_4 37 rfl) rfl rfl ?_
  refine gj_aload_n (q := 493) (gj_dk okL_law_4 38 rfl) rfl rfl ?_
  refine gj_aload_n (q := 494) (gj_dk okL_law_4 39 rfl) rfl rfl ?_
  refine gj_iload_n (q := 495) (gj_dk okL_law_4 40 rfl) rfl rfl ?_
  refine gj_iconst (q := 496) (gj_dk okL_law_4 41 rfl) (by decide) rfl ?_
  refine gj_iaddX (q := 497) (gj_dk okL_law_4 42 rfl) (by omega) rfl ?_
  refine gj_sld (q := 498) (gj_dk okL_law_4 43 rfl) (by omega) (by omega) rfl ?_
  rw [hv1]
  refine gj_aload_n (q := 499) (gj_dk okL_law_4 44 rfl) rfl rfl ?_
  refine gj_iload_n (q := 500) (gj_dk okL_law_4 45 rfl) rfl rfl ?_
  refine gj_iconst (q := 501) (gj_dk okL_law_4 46 rfl) (by decide) rfl ?_
  refine gj_iaddX (q := 502) (gj_dk okL_law_4 47 rfl) (by omega) rfl ?_
  refine gj_sld (q := 503) (gj_dk okL_law_4 48 rfl) (by omega) (by omega) rfl ?_
  rw [hv2]
  refine gj_callV (q := 506) (z := 79) (ci := 10) [jI v1, jI v2] rfl (t_X12_liking hst v1 v2 e2) (gj_dk okL_law_4 49 rfl) ml_L_58 me_X12_liking (sh79 hst) rfl ⟨by decide, by decide, rfl, Nat.le_of_ble_eq_true rfl, by omega, by omega⟩ rfl (gj_kI fun x1 S2 M2 h1 => ?_)
  obtain ⟨ex, eS, eM⟩ := h1
  subst ex; subst eM
  subst eS
  refine gj_pop (q := 507) (gj_dk okL_law_4 50 rfl) rfl rfl ?_
  refine gj_goto (tgt := 1219) (gj_dk okL_law_4 51 rfl) (by decide) ?_
  exact J _ _ _ _ (by omega) (by omega) hst hW
set_option maxHeartbeats 4000000 in
set_option maxRecDepth 20000 in
theorem n_case_10 {S : gj_S} {M : gj_M} {i : Int} {k n : Nat} (hst : gj_Stat S) (hW : g_FK M M) (i0 : 0 ≤ i) (i1 : i + 6 ≤ (gj_n G : Int)) (iN : (gj_n G : Int) ≤ 3072) (hk : k + 255 ≤ 600000) (hn : n + 1275 ≤ 7302249) (J : ∀ (k2 n2 : Nat) (S2 : gj_S) (M2 : gj_M), k2 ≤ k + 255 → n2 ≤ n + 1275 → gj_Stat S2 → g_FK M2 M2 → gj_W G l 1000 600000 7302249 yL_law cL_law 4 (some .boolean) (gj_qI fun x _ _ => 1 = x) k2 n2 1219 [(0, jR (-100)), (1, jR 0), (2, jR 79), (3, jI i)] [] S2 M2) : gj_W G l 1000 600000 7302249 yL_law cL_law 4 (some .boolean) (gj_qI fun x _ _ => 1 = x) k n 510 [(0, jR (-100)), (1, jR 0), (2, jR 79), (3, jI i)] [] S M := by
  obtain ⟨v1, hv1⟩ : ∃ v, (gj_x G ((i + 1)).toNat).toInt = v := ⟨_, rfl⟩
  obtain ⟨v2, hv2⟩ : ∃ v, (gj_x G ((i + 2)).toNat).toInt = v := ⟨_, rfl⟩
  obtain ⟨v3, hv3⟩ : ∃ v, (gj_x G ((i + 3)).toNat).toInt = v := ⟨_, rfl⟩
  obtain ⟨w1, D, e1, e2, hU⟩ := x_sooner (a := v1) (b := v2) (d := v3) hW
  refine gj_aload_n (q := 511) (gj_dk okL_law_4 52 rfl) rfl rfl ?_
  refine gj_aload_n (q := 512) (gj_dk okL_law_4 53 rfl) rfl rfl ?_
  refine gj_iload_n (q := 513) (gj_dk okL_law_4 54 rfl) rfl rfl ?_
  refine gj_iconst (q := 514) (gj_dk okL_law_4 55 rfl) (by decide) rfl ?_
  refine gj_iaddX (q := 515) (gj_dk okL_law_4 56 rfl) (by omega) rfl ?_
  refine gj_sld (q := 516) (gj_dk okL_law_4 57 rfl) (by omega) (by omega) rfl ?_
  rw [hv1]
  refine gj_aload_n (q := 517) (gj_dk okL_law_4 58 rfl) rfl rfl ?_
  refine gj_iload_n (q := 518) (gj_dk okL_law_4 59 rfl) rfl rfl ?_
  refine gj_iconst (q := 519) (gj_dk okL_law_5 0 rfl) (by decide) rfl ?_
  refine gj_iaddX (q := 520) (gj_dk okL_law_5 1 rfl) (by omega) rfl ?_
  refine gj_sld (q := 521) (gj_dk okL_law_5 2 rfl) (by omega) (by omega) rfl ?_
  rw [hv2]
  refine gj_aload_n (q := 522) (gj_dk okL_law_5 3 rfl) rfl rfl ?_
  refine gj_iload_n (q := 523) (gj_dk okL_law_5 4 rfl) rfl rfl ?_
  refine gj_iconst (q := 524) (gj_dk okL_law_5 5 rfl) (by decide) rfl ?_
  refine gj_iaddX (q := 525) (gj_dk okL_law_5 6 rfl) (by omega) rfl ?_
  refine gj_sld (q := 526) (gj_dk okL_law_5 7 rfl) (by omega) (by omega) rfl ?_
  rw [hv3]
  refine gj_callV (q := 529) (z := 0) (ci := 9) [jI v1, jI v2, jI v3] rfl (t_X11_sooner hst v1 v2 v3 e1) (gj_dk okL_law_5 8 rfl) ml_L_59 me_X11_sooner (sh0 hst) rfl ⟨by decide, by decide, rfl, Nat.le_of_ble_eq_true rfl, by omega, by omega⟩ rfl (gj_kI fun x0 S2 M2 h0 => ?_)
  obtain ⟨ex, eS, eM⟩ := h0
  dsimp only at ex eM
  subst ex; subst eM
  subst eS
  refine gj_pop (q := 530) (gj_dk okL_law_5 9 rfl) rfl rfl ?_
  refine gj_aload_n (q := 531) (gj_dk okL_law_5 10 rfl) rfl rfl ?_
  refine gj_aload_n (q := 532) (gj_dk okL_law_5 11 rfl) rfl rfl ?_
  refine gj_iload_n (q := 533) (gj_dk okL_law_5 12 rfl) rfl rfl ?_
  refine gj_iconst (q := 534) (gj_dk okL_law_5 13 rfl) (by decide) rfl ?_
  refine gj_iaddX (q := 535) (gj_dk okL_law_5 14 rfl) (by omega) rfl ?_
  refine gj_sld (q := 536) (gj_dk okL_law_5 15 rfl) (by omega) (by omega) rfl ?_
  rw [hv1]
  refine gj_aload_n (q := 537) (gj_dk okL_law_5 16 rfl) rfl rfl ?_
  refine gj_iload_n (q := 538) (gj_dk okL_law_5 17 rfl) rfl rfl ?_
  refine gj_iconst (q := 539) (gj_dk okL_law_5 18 rfl) (by decide) rfl ?_
  refine gj_iaddX (q := 540) (gj_dk okL_law_5 19 rfl) (by omega) rfl ?_
  refine gj_sld (q := 541) (gj_dk okL_law_5 20 rfl) (by omega) (by omega) rfl ?_
  rw [hv2]
  refine gj_aload_n (q := 542) (gj_dk okL_law_5 21 rfl) rfl rfl ?_
  refine gj_iload_n (q := 543) (gj_dk okL_law_5 22 rfl) rfl rfl ?_
  refine gj_iconst (q := 544) (gj_dk okL_law_5 23 rfl) (by decide) rfl ?_
  refine gj_iaddX (q := 545) (gj_dk okL_law_5 24 rfl) (by omega) rfl ?_
  refine gj_sld (q := 546) (gj_dk okL_law_5 25 rfl) (by omega) (by omega) rfl ?_
  rw [hv3]
  refine gj_callV (q := 549) (z := 79) (ci := 10) [jI v1, jI v2, jI v3] rfl (t_X12_sooner hst v1 v2 v3 e2) (gj_dk okL_law_5 26 rfl) ml_L_62 me_X12_sooner (sh79 hst) rfl ⟨by decide, by decide, rfl, Nat.le_of_ble_eq_true rfl, by omega, by omega⟩ rfl (gj_kI fun x1 S2 M2 h1 => ?_)
  obtain ⟨ex, eS, eM⟩ := h1
  subst ex; subst eM
  subst eS
  refine gj_pop (q := 550) (gj_dk okL_law_5 27 rfl) rfl rfl ?_
  refine gj_goto (tgt := 1219) (gj_dk okL_law_5 28 rfl) (by decide) ?_
  exact J _ _ _ _ (by omega) (by omega) hst hU
set_option maxHeartbeats 4000000 in
set_option maxRecDepth 20000 in
theorem n_case_11 {S : gj_S} {M : gj_M} {i : Int} {k n : Nat} (hst : gj_Stat S) (hW : g_FK M M) (i0 : 0 ≤ i) (i1 : i + 6 ≤ (gj_n G : Int)) (iN : (gj_n G : Int) ≤ 3072) (hk : k + 255 ≤ 600000) (hn : n + 1275 ≤ 7302249) (J : ∀ (k2 n2 : Nat) (S2 : gj_S) (M2 : gj_M), k2 ≤ k + 255 → n2 ≤ n + 1275 → gj_Stat S2 → g_FK M2 M2 → gj_W G l 1000 600000 7302249 yL_law cL_law 4 (some .boolean) (gj_qI fun x _ _ => 1 = x) k2 n2 1219 [(0, jR (-100)), (1, jR 0), (2, jR 79), (3, jI i)] [] S2 M2) : gj_W G l 1000 600000 7302249 yL_law cL_law 4 (some .boolean) (gj_qI fun x _ _ => 1 = x) k n 553 [(0, jR (-100)), (1, jR 0), (2, jR 79), (3, jI i)] [] S M := by
  obtain ⟨v1, hv1⟩ : ∃ v, (gj_x G ((i + 1)).toNat).toInt = v := ⟨_, rfl⟩
  obtain ⟨v2, hv2⟩ : ∃ v, (gj_x G ((i + 2)).toNat).toInt = v := ⟨_, rfl⟩
  obtain ⟨v3, hv3⟩ : ∃ v, (gj_x G ((i + 3)).toNat).toInt = v := ⟨_, rfl⟩
  obtain ⟨w1, D, U, e1, e2, hU⟩ := x_best (a := v1) (b := v2) (d := v3) hW
  refine gj_aload_n (q := 554) (gj_dk okL_law_5 29 rfl) rfl rfl ?_
  refine gj_aload_n (q := 555) (gj_dk okL_law_5 30 rfl) rfl rfl ?_
  refine gj_iload_n (q := 556) (gj_dk okL_law_5 31 rfl) rfl rfl ?_
  refine gj_iconst (q := 557) (gj_dk okL_law_5 32 rfl) (by decide) rfl ?_
  refine gj_iaddX (q := 558) (gj_dk okL_law_5 33 rfl) (by omega) rfl ?_
  refine gj_sld (q := 559) (gj_dk okL_law_5 34 rfl) (by omega) (by omega) rfl ?_
  rw [hv1]
  refine gj_aload_n (q := 560) (gj_dk okL_law_5 35 rfl) rfl rfl ?_
  refine gj_iload_n (q := 561) (gj_dk okL_law_5 36 rfl) rfl rfl ?_
  refine gj_iconst (q := 562) (gj_dk okL_law_5 37 rfl) (by decide) rfl ?_
  refine gj_iaddX (q := 563) (gj_dk okL_law_5 38 rfl) (by omega) rfl ?_
  refine gj_sld (q := 564) (gj_dk okL_law_5 39 rfl) (by omega) (by omega) rfl ?_
  rw [hv2]
  refine gj_aload_n (q := 565) (gj_dk okL_law_5 40 rfl) rfl rfl ?_
  refine gj_iload_n (q := 566) (gj_dk okL_law_5 41 rfl) rfl rfl ?_
  refine gj_iconst (q := 567) (gj_dk okL_law_5 42 rfl) (by decide) rfl ?_
  refine gj_iaddX (q := 568) (gj_dk okL_law_5 43 rfl) (by omega) rfl ?_
  refine gj_sld (q := 569) (gj_dk okL_law_5 44 rfl) (by omega) (by omega) rfl ?_
  rw [hv3]
  refine gj_callV (q := 572) (z := 0) (ci := 9) [jI v1, jI v2, jI v3] rfl (t_X11_best hst v1 v2 v3 e1) (gj_dk okL_law_5 45 rfl) ml_L_63 me_X11_best (sh0 hst) rfl ⟨by decide, by decide, rfl, Nat.le_of_ble_eq_true rfl, by omega, by omega⟩ rfl (gj_kI fun x0 S2 M2 h0 => ?_)
  obtain ⟨ex, eS, eM⟩ := h0
  dsimp only at ex eM
  subst ex; subst eM
  subst eS
  refine gj_pop (q := 573) (gj_dk okL_law_5 46 rfl) rfl rfl ?_
  refine gj_aload_n (q := 574) (gj_dk okL_law_5 47 rfl) rfl rfl ?_
  refine gj_aload_n (q := 575) (gj_dk okL_law_5 48 rfl) rfl rfl ?_
  refine gj_iload_n (q := 576) (gj_dk okL_law_5 49 rfl) rfl rfl ?_
  refine gj_iconst (q := 577) (gj_dk okL_law_5 50 rfl) (by decide) rfl ?_
  refine gj_iaddX (q := 578) (gj_dk okL_law_5 51 rfl) (by omega) rfl ?_
  refine gj_sld (q := 579) (gj_dk okL_law_5 52 rfl) (by omega) (by omega) rfl ?_
  rw [hv1]
  refine gj_aload_n (q := 580) (gj_dk okL_law_5 53 rfl) rfl rfl ?_
  refine gj_iload_n (q := 581) (gj_dk okL_law_5 54 rfl) rfl rfl ?_
  refine gj_iconst (q := 582) (gj_dk okL_law_5 55 rfl) (by decide) rfl ?_
  refine gj_iaddX (q := 583) (gj_dk okL_law_5 56 rfl) (by omega) rfl ?_
  refine gj_sld (q := 584) (gj_dk okL_law_5 57 rfl) (by omega) (by omega) rfl ?_
  rw [hv2]
  refine gj_aload_n (q := 585) (gj_dk okL_law_5 58 rfl) rfl rfl ?_
  refine gj_iload_n (q := 586) (gj_dk okL_law_5 59 rfl) rfl rfl ?_
  refine gj_iconst (q := 587) (gj_dk okL_law_6 0 rfl) (by decide) rfl ?_
  refine gj_iaddX (q := 588) (gj_dk okL_law_6 1 rfl) (by omega) rfl ?_
  refine gj_sld (q := 589) (gj_dk okL_law_6 2 rfl) (by omega) (by omega) rfl ?_
  rw [hv3]
  refine gj_callV (q := 592) (z := 79) (ci := 10) [jI v1, jI v2, jI v3] rfl (t_X12_best hst v1 v2 v3 e2) (gj_dk okL_law_6 3 rfl) ml_L_66 me_X12_best (sh79 hst) rfl ⟨by decide, by decide, rfl, Nat.le_of_ble_eq_true rfl, by omega, by omega⟩ rfl (gj_kI fun x1 S2 M2 h1 => ?_)
  obtain ⟨ex, eS, eM⟩ := h1
  dsimp only at ex eM
  subst ex; subst eM
  subst eS
  refine gj_pop (q := 593) (gj_dk okL_law_6 4 rfl) rfl rfl ?_
  refine gj_goto (tgt := 1219) (gj_dk okL_law_6 5 rfl) (by decide) ?_
  exact J _ _ _ _ (by omega) (by omega) hst hU
set_option maxHeartbeats 4000000 in
set_option maxRecDepth 20000 in
theorem n_case_12 {S : gj_S} {M : gj_M} {i : Int} {k n : Nat} (hst : gj_Stat S) (hW : g_FK M M) (i0 : 0 ≤ i) (i1 : i + 6 ≤ (gj_n G : Int)) (iN : (gj_n G : Int) ≤ 3072) (hk : k + 255 ≤ 600000) (hn : n + 1275 ≤ 7302249) (J : ∀ (k2 n2 : Nat) (S2 : gj_S) (M2 : gj_M), k2 ≤ k + 255 → n2 ≤ n + 1275 → gj_Stat S2 → g_FK M2 M2 → gj_W G l 1000 600000 7302249 yL_law cL_law 4 (some .boolean) (gj_qI fun x _ _ => 1 = x) k2 n2 1219 [(0, jR (-100)), (1, jR 0), (2, jR 79), (3, jI i)] [] S2 M2) : gj_W G l 1000 600000 7302249 yL_law cL_law 4 (some .boolean) (gj_qI fun x _ _ => 1 = x) k n 596 [(0, jR (-100)), (1, jR 0), (2, jR 79), (3, jI i)] [] S M := by
  obtain ⟨v1, hv1⟩ : ∃ v, (gj_x G ((i + 1)).toNat).toInt = v := ⟨_, rfl⟩
  obtain ⟨v2, hv2⟩ : ∃ v, (gj_x G ((i + 2)).toNat).toInt = v := ⟨_, rfl⟩
  obtain ⟨v3, hv3⟩ : ∃ v, (gj_x G ((i + 3)).toNat).toInt = v := ⟨_, rfl⟩
  obtain ⟨w1, D, U, e1, e2, hU⟩ := x_act (a := v1) (b := v2) (d := v3) hW
  refine gj_aload_n (q := 597) (gj_dk okL_law_6 6 rfl) rfl rfl ?_
  refine gj_aload_n (q := 598) (gj_dk okL_law_6 7 rfl) rfl rfl ?_
  refine gj_iload_n (q := 599) (gj_dk okL_law_6 8 rfl) rfl rfl ?_
  refine gj_iconst (q := 600) (gj_dk okL_law_6 9 rfl) (by decide) rfl ?_
  refine gj_iaddX (q := 601) (gj_dk okL_law_6 10 rfl) (by omega) rfl ?_
  refine gj_sld (q := 602) (gj_dk okL_law_6 11 rfl) (by omega) (by omega) rfl ?_
  rw [hv1]
  refine gj_aload_n (q := 603) (gj_dk okL_law_6 12 rfl) rfl rfl ?_
  refine gj_iload_n (q := 604) (gj_dk okL_law_6 13 rfl) rfl rfl ?_
  refine gj_iconst (q := 605) (gj_dk okL_law_6 14 rfl) (by decide) rfl ?_
  refine gj_iaddX (q := 606) (gj_dk okL_law_6 15 rfl) (by omega) rfl ?_
  refine gj_sld (q := 607) (gj_dk okL_law_6 16 rfl) (by omega) (by omega) rfl ?_
  rw [hv2]
  refine gj_aload_n (q := 608) (gj_dk okL_law_6 17 rfl) rfl rfl ?_
  refine gj_iload_n (q := 609) (gj_dk okL_law_6 18 rfl) rfl rfl ?_
  refine gj_iconst (q := 610) (gj_dk okL_law_6 19 rfl) (by decide) rfl ?_
  refine gj_iaddX (q := 611) (gj_dk okL_law_6 20 rfl) (by omega) rfl ?_
  refine gj_sld (q := 612) (gj_dk okL_law_6 21 rfl) (by omega) (by omega) rfl ?_
  rw [hv3]
  refine gj_callV (q := 615) (z := 0) (ci := 9) [jI v1, jI v2, jI v3] rfl (t_X11_act hst v1 v2 v3 e1) (gj_dk okL_law_6 22 rfl) ml_L_67 me_X11_act (sh0 hst) rfl ⟨by decide, by decide, rfl, Nat.le_of_ble_eq_true rfl, by omega, by omega⟩ rfl (gj_kI fun x0 S2 M2 h0 => ?_)
  obtain ⟨ex, eS, eM⟩ := h0
  dsimp only at ex eM
  subst ex; subst eM
  subst eS
  refine gj_pop (q := 616) (gj_dk okL_law_6 23 rfl) rfl rfl ?_
  refine gj_aload_n (q := 617) (gj_dk okL_law_6 24 rfl) rfl rfl ?_
  refine gj_aload_n (q := 618) (gj_dk okL_law_6 25 rfl) rfl rfl ?_
  refine gj_iload_n (q := 619) (gj_dk okL_law_6 26 rfl) rfl rfl ?_
  refine gj_iconst (q := 620) (gj_dk okL_law_6 27 rfl) (by decide) rfl ?_
  refine gj_iaddX (q := 621) (gj_dk okL_law_6 28 rfl) (by omega) rfl ?_
  refine gj_sld (q := 622) (gj_dk okL_law_6 29 rfl) (by omega) (by omega) rfl ?_
  rw [hv1]
  refine gj_aload_n (q := 623) (gj_dk okL_law_6 30 rfl) rfl rfl ?_
  refine gj_iload_n (q := 624) (gj_dk okL_law_6 31 rfl) rfl rfl ?_
  refine gj_iconst (q := 625) (gj_dk okL_law_6 32 rfl) (by decide) rfl ?_
  refine gj_iaddX (q := 626) (gj_dk okL_law_6 33 rfl) (by omega) rfl ?_
  refine gj_sld (q := 627) (gj_dk okL_law_6 34 rfl) (by omega) (by omega) rfl ?_
  rw [hv2]
  refine gj_aload_n (q := 628) (gj_dk okL_law_6 35 rfl) rfl rfl ?_
  refine gj_iload_n (q := 629) (gj_dk okL_law_6 36 rfl) rfl rfl ?_
  refine gj_iconst (q := 630) (gj_dk okL_law_6 37 rfl) (by decide) rfl ?_
  refine gj_iaddX (q := 631) (gj_dk okL_law_6 38 rfl) (by omega) rfl ?_
  refine gj_sld (q := 632) (gj_dk okL_law_6 39 rfl) (by omega) (by omega) rfl ?_
  rw [hv3]
  refine gj_callV (q := 635) (z := 79) (ci := 10) [jI v1, jI v2, jI v3] rfl (t_X12_act hst v1 v2 v3 e2) (gj_dk okL_law_6 40 rfl) ml_L_70 me_X12_act (sh79 hst) rfl ⟨by decide, by decide, rfl, Nat.le_of_ble_eq_true rfl, by omega, by omega⟩ rfl (gj_kI fun x1 S2 M2 h1 => ?_)
  obtain ⟨ex, eS, eM⟩ := h1
  dsimp only at ex eM
  subst ex; subst eM
  subst eS
  refine gj_pop (q := 636) (gj_dk okL_law_6 41 rfl) rfl rfl ?_
  refine gj_goto (tgt := 1219) (gj_dk okL_law_6 42 rfl) (by decide) ?_
  exact J _ _ _ _ (by omega) (by omega) hst hU
set_option maxHeartbeats 4000000 in
set_option maxRecDepth 20000 in
theorem n_case_13 {S : gj_S} {M : gj_M} {i : Int} {k n : Nat} (hst : gj_Stat S) (hW : g_FK M M) (i0 : 0 ≤ i) (i1 : i + 6 ≤ (gj_n G : Int)) (iN : (gj_n G : Int) ≤ 3072) (hk : k + 255 ≤ 600000) (hn : n + 1275 ≤ 7302249) (J : ∀ (k2 n2 : Nat) (S2 : gj_S) (M2 : gj_M), k2 ≤ k + 255 → n2 ≤ n + 1275 → gj_Stat S2 → g_FK M2 M2 → gj_W G l 1000 600000 7302249 yL_law cL_law 4 (some .boolean) (gj_qI fun x _ _ => 1 = x) k2 n2 1219 [(0, jR (-100)), (1, jR 0), (2, jR 79), (3, jI i)] [] S2 M2) : gj_W G l 1000 600000 7302249 yL_law cL_law 4 (some .boolean) (gj_qI fun x _ _ => 1 = x) k n 639 [(0, jR (-100)), (1, jR 0), (2, jR 79), (3, jI i)] [] S M := by
  obtain ⟨v1, hv1⟩ : ∃ v, (gj_x G ((i + 1)).toNat).toInt = v := ⟨_, rfl⟩
  obtain ⟨v2, hv2⟩ : ∃ v, (gj_x G ((i + 2)).toNat).toInt = v := ⟨_, rfl⟩
  obtain ⟨w1, D, U, e1, e2, hU⟩ := x_silent (a := v1) (b := v2) hW
  refine gj_aload_n (q := 640) (gj_dk okL_law_6 43 rfl) rfl rfl ?_
  refine gj_aload_n (q := 641) (gj_dk okL_law_6 44 rfl) rfl rfl ?_
  refine gj_iload_n (q := 642) (gj_dk okL_law_6 45 rfl) rfl rfl ?_
  refine gj_iconst (q := 643) (gj_dk okL_law_6 46 rfl) (by decide) rfl ?_
  refine gj_iaddX (q := 644) (gj_dk okL_law_6 47 rfl) (by omega) rfl ?_
  refine gj_sld (q := 645) (gj_dk okL_law_6 48 rfl) (by omega) (by omega) rfl ?_
  rw [hv1]
  refine gj_aload_n (q := 646) (gj_dk okL_law_6 49 rfl) rfl rfl ?_
  refine gj_iload_n (q := 647) (gj_dk okL_law_6 50 rfl) rfl rfl ?_
  refine gj_iconst (q := 648) (gj_dk okL_law_6 51 rfl) (by decide) rfl ?_
  refine gj_iaddX (q := 649) (gj_dk okL_law_6 52 rfl) (by omega) rfl ?_
  refine gj_sld (q := 650) (gj_dk okL_law_6 53 rfl) (by omega) (by omega) rfl ?_
  rw [hv2]
  refine gj_callV (q := 653) (z := 0) (ci := 9) [jI v1, jI v2] rfl (t_X11_silent hst v1 v2 e1) (gj_dk okL_law_6 54 rfl) ml_L_71 me_X11_silent (sh0 hst) rfl ⟨by decide, by decide, rfl, Nat.le_of_ble_eq_true rfl, by omega, by omega⟩ rfl (gj_kI fun x0 S2 M2 h0 => ?_)
  obtain ⟨ex, eS, eM⟩ := h0
  dsimp only at ex eM
  subst ex; subst eM
  subst eS
  refine gj_pop (q := 654) (gj_dk okL_law_6 55 rfl) rfl rfl ?_
  refine gj_aload_n (q := 655) (gj_dk okL_law_6 56 rfl) rfl rfl ?_
  refine gj_aload_n (q := 656) (gj_dk okL_law_6 57 rfl) rfl rfl ?_
  refine gj_iload_n (q := 657) (gj_dk okL_law_6 58 rfl) rfl rfl ?_
  refine gj_iconst (q := 658) (gj_dk okL_law_6 59 rfl) (by decide) rfl ?_
  refine gj_iaddX (q := 659) (gj_dk okL_law_7 0 rfl) (by omega) rfl ?_
  refine gj_sld (q := 660) (gj_dk okL_law_7 1 rfl) (by omega) (by omega) rfl ?_
  rw [hv1]
  refine gj_aload_n (q := 661) (gj_dk okL_law_7 2 rfl) rfl rfl ?_
  refine gj_iload_n (q := 662) (gj_dk okL_law_7 3 rfl) rfl rfl ?_
  refine gj_iconst (q := 663) (gj_dk okL_law_7 4 rfl) (by decide) rfl ?_
  refine gj_iaddX (q := 664) (gj_dk okL_law_7 5 rfl) (by omega) rfl ?_
  refine gj_sld (q := 665) (gj_dk okL_law_7 6 rfl) (by omega) (by omega) rfl ?_
  rw [hv2]
  refine gj_callV (q := 668) (z := 79) (ci := 10) [jI v1, jI v2] rfl (t_X12_silent hst v1 v2 e2) (gj_dk okL_law_7 7 rfl) ml_L_74 me_X12_silent (sh79 hst) rfl ⟨by decide, by decide, rfl, Nat.le_of_ble_eq_true rfl, by omega, by omega⟩ rfl (gj_kI fun x1 S2 M2 h1 => ?_)
  obtain ⟨ex, eS, eM⟩ := h1
  dsimp only at ex eM
  subst ex; subst eM
  subst eS
  refine gj_pop (q := 669) (gj_dk okL_law_7 8 rfl) rfl rfl ?_
  refine gj_goto (tgt := 1219) (gj_dk okL_law_7 9 rfl) (by decide) ?_
  exact J _ _ _ _ (by omega) (by omega) hst hU
set_option maxHeartbeats 4000000 in
set_option maxRecDepth 20000 in
theorem n_case_14 {S : gj_S} {M : gj_M} {i : Int} {k n : Nat} (hst : gj_Stat S) (hW : g_FK M M) (i0 : 0 ≤ i) (i1 : i + 6 ≤ (gj_n G : Int)) (iN : (gj_n G : Int) ≤ 3072) (hk : k + 255 ≤ 600000) (hn : n + 1275 ≤ 7302249) (J : ∀ (k2 n2 : Nat) (S2 : gj_S) (M2 : gj_M), k2 ≤ k + 255 → n2 ≤ n + 1275 → gj_Stat S2 → g_FK M2 M2 → gj_W G l 1000 600000 7302249 yL_law cL_law 4 (some .boolean) (gj_qI fun x _ _ => 1 = x) k2 n2 1219 [(0, jR (-100)), (1, jR 0), (2, jR 79), (3, jI i)] [] S2 M2) : gj_W G l 1000 600000 7302249 yL_law cL_law 4 (some .boolean) (gj_qI fun x _ _ => 1 = x) k n 672 [(0, jR (-100)), (1, jR 0), (2, jR 79), (3, jI i)] [] S M := by
  obtain ⟨v1, hv1⟩ : ∃ v, (gj_x G ((i + 1)).toNat).toInt = v := ⟨_, rfl⟩
  obtain ⟨v2, hv2⟩ : ∃ v, (gj_x G ((i + 2)).toNat).toInt = v := ⟨_, rfl⟩
  obtain ⟨v3, hv3⟩ : ∃ v, (gj_x G ((i + 3)).toNat).toInt = v := ⟨_, rfl⟩
  obtain ⟨v4, hv4⟩ : ∃ v, (gj_x G ((i + 4)).toNat).toInt = v := ⟨_, rfl⟩
  obtain ⟨w1, D, U, e1, e2, hU⟩ := x_bar (a := v1) (b := v2) (d := v3) (f := v4) hW
  refine gj_aload_n (q := 673) (gj_dk okL_law_7 10 rfl) rfl rfl ?_
  refine gj_aload_n (q := 674) (gj_dk okL_law_7 11 rfl) rfl rfl ?_
  refine gj_iload_n (q := 675) (gj_dk okL_law_7 12 rfl) rfl rfl ?_
  refine gj_iconst (q := 676) (gj_dk okL_law_7 13 rfl) (by decide) rfl ?_
  refine gj_iaddX (q := 677) (gj_dk okL_law_7 14 rfl) (by omega) rfl ?_
  refine gj_sld (q := 678) (gj_dk okL_law_7 15 rfl) (by omega) (by omega) rfl ?_
  rw [hv1]
  refine gj_aload_n (q := 679) (gj_dk okL_law_7 16 rfl) rfl rfl ?_
  refine gj_iload_n (q := 680) (gj_dk okL_law_7 17 rfl) rfl rfl ?_
  refine gj_iconst (q := 681) (gj_dk okL_law_7 18 rfl) (by decide) rfl ?_
  refine gj_iaddX (q := 682) (gj_dk okL_law_7 19 rfl) (by omega) rfl ?_
  refine gj_sld (q := 683) (gj_dk okL_law_7 20 rfl) (by omega) (by omega) rfl ?_
  rw [hv2]
  refine gj_aload_n (q := 684) (gj_dk okL_law_7 21 rfl) rfl rfl ?_
  refine gj_iload_n (q := 685) (gj_dk okL_law_7 22 rfl) rfl rfl ?_
  refine gj_iconst (q := 686) (gj_dk okL_law_7 23 rfl) (by decide) rfl ?_
  refine gj_iaddX (q := 687) (gj_dk okL_law_7 24 rfl) (by omega) rfl ?_
  refine gj_sld (q := 688) (gj_dk okL_law_7 25 rfl) (by omega) (by omega) rfl ?_
  rw [hv3]
  refine gj_aload_n (q := 689) (gj_dk okL_law_7 26 rfl) rfl rfl ?_
  refine gj_iload_n (q := 690) (gj_dk okL_law_7 27 rfl) rfl rfl ?_
  refine gj_iconst (q := 691) (gj_dk okL_law_7 28 rfl) (by decide) rfl ?_
  refine gj_iaddX (q := 692) (gj_dk okL_law_7 29 rfl) (by omega) rfl ?_
  refine gj_sld (q := 693) (gj_dk okL_law_7 30 rfl) (by omega) (by omega) rfl ?_
  rw [hv4]
  refine gj_callV (q := 696) (z := 0) (ci := 9) [jI v1, jI v2, jI v3, jI v4] rfl (t_X11_bar hst v1 v2 v3 v4 e1) (gj_dk okL_law_7 31 rfl) ml_L_75 me_X11_bar (sh0 hst) rfl ⟨by decide, by decide, rfl, Nat.le_of_ble_eq_true rfl, by omega, by omega⟩ rfl (gj_kI fun x0 S2 M2 h0 => ?_)
  obtain ⟨ex, eS, eM⟩ := h0
  dsimp only at ex eM
  subst ex; subst eM
  subst eS
  refine gj_pop (q := 697) (gj_dk okL_law_7 32 rfl) rfl rfl ?_
  refine gj_aload_n (q := 698) (gj_dk okL_law_7 33 rfl) rfl rfl ?_
  refine gj_aload_n (q := 699) (gj_dk okL_law_7 34 rfl) rfl rfl ?_
  refine gj_iload_n (q := 700) (gj_dk okL_law_7 35 rfl) rfl rfl ?_
  refine gj_iconst (q := 701) (gj_dk okL_law_7 36 rfl) (by decide) rfl ?_
  refine gj_iaddX (q := 702) (gj_dk okL_law_7 37 rfl) (by omega) rfl ?_
  refine gj_sld (q := 703) (gj_dk okL_law_7 38 rfl) (by omega) (by omega) rfl ?_
  rw [hv1]
  refine gj_aload_n (q := 704) (gj_dk okL_law_7 39 rfl) rfl rfl ?_
  refine gj_iload_n (q := 705) (gj_dk okL_law_7 40 rfl) rfl rfl ?_
  refine gj_iconst (q := 706) (gj_dk okL_law_7 41 rfl) (by decide) rfl ?_
  refine gj_iaddX (q := 707) (gj_dk okL_law_7 42 rfl) (by omega) rfl ?_
  refine gj_sld (q := 708) (gj_dk okL_law_7 43 rfl) (by omega) (by omega) rfl ?_
  rw [hv2]
  refine gj_aload_n (q := 709) (gj_dk okL_law_7 44 rfl) rfl rfl ?_
  refine gj_iload_n (q := 710) (gj_dk okL_law_7 45 rfl) rfl rfl ?_
  refine gj_iconst (q := 711) (gj_dk okL_law_7 46 rfl) (by decide) rfl ?_
  refine gj_iaddX (q := 712) (gj_dk okL_law_7 47 rfl) (by omega) rfl ?_
  refine gj_sld (q := 713) (gj_dk okL_law_7 48 rfl) (by omega) (by omega) rfl ?_
  rw [hv3]
  refine gj_aload_n (q := 714) (gj_dk okL_law_7 49 rfl) rfl rfl ?_
  refine gj_iload_n (q := 715) (gj_dk okL_law_7 50 rfl) rfl rfl ?_
  refine gj_iconst (q := 716) (gj_dk okL_law_7 51 rfl) (by decide) rfl ?_
  refine gj_iaddX (q := 717) (gj_dk okL_law_7 52 rfl) (by omega) rfl ?_
  refine gj_sld (q := 718) (gj_dk okL_law_7 53 rfl) (by omega) (by omega) rfl ?_
  rw [hv4]
  refine gj_callV (q := 721) (z := 79) (ci := 10) [jI v1, jI v2, jI v3, jI v4] rfl (t_X12_bar hst v1 v2 v3 v4 e2) (gj_dk okL_law_7 54 rfl) ml_L_79 me_X12_bar (sh79 hst) rfl ⟨by decide, by decide, rfl, Nat.le_of_ble_eq_true rfl, by omega, by omega⟩ rfl (gj_kI fun x1 S2 M2 h1 => ?_)
  obtain ⟨ex, eS, eM⟩ := h1
  dsimp only at ex eM
  subst ex; subst eM
  subst eS
  refine gj_pop (q := 722) (gj_dk okL_law_7 55 rfl) rfl rfl ?_
  refine gj_goto (tgt := 1219) (gj_dk okL_law_7 56 rfl) (by decide) ?_
  exact J _ _ _ _ (by omega) (by omega) hst hU
set_option maxHeartbeats 4000000 in
set_option maxRecDepth 20000 in
theorem n_case_15 {S : gj_S} {M : gj_M} {i : Int} {k n : Nat} (hst : gj_Stat S) (hW : g_FK M M) (i0 : 0 ≤ i) (i1 : i + 6 ≤ (gj_n G : Int)) (iN : (gj_n G : Int) ≤ 3072) (hk : k + 255 ≤ 600000) (hn : n + 1275 ≤ 7302249) (J : ∀ (k2 n2 : Nat) (S2 : gj_S) (M2 : gj_M), k2 ≤ k + 255 → n2 ≤ n + 1275 → gj_Stat S2 → g_FK M2 M2 → gj_W G l 1000 600000 7302249 yL_law cL_law 4 (some .boolean) (gj_qI fun x _ _ => 1 = x) k2 n2 1219 [(0, jR (-100)), (1, jR 0), (2, jR 79), (3, jI i)] [] S2 M2) : gj_W G l 1000 600000 7302249 yL_law cL_law 4 (some .boolean) (gj_qI fun x _ _ => 1 = x) k n 725 [(0, jR (-100)), (1, jR 0), (2, jR 79), (3, jI i)] [] S M := by
  obtain ⟨v1, hv1⟩ : ∃ v, (gj_x G ((i + 1)).toNat).toInt = v := ⟨_, rfl⟩
  obtain ⟨v2, hv2⟩ : ∃ v, (gj_x G ((i + 2)).toNat).toInt = v := ⟨_, rfl⟩
  obtain ⟨w1, D, U, e1, e2, hU⟩ := x_price (a := v1) (b := v2) hW
  refine gj_aload_n (q := 726) (gj_dk okL_law_7 57 rfl) rfl rfl ?_
  refine gj_aload_n (q := 727) (gj_dk okL_law_7 58 rfl) rfl rfl ?_
  refine gj_iload_n (q := 728) (gj_dk okL_law_7 59 rfl) rfl rfl ?_
  refine gj_iconst (q := 729) (gj_dk okL_law_8 0 rfl) (by decide) rfl ?_
  refine gj_iaddX (q := 730) (gj_dk okL_law_8 1 rfl) (by omega) rfl ?_
  refine gj_sld (q := 731) (gj_dk okL_law_8 2 rfl) (by omega) (by omega) rfl ?_
  rw [hv1]
  refine gj_aload_n (q := 732) (gj_dk okL_law_8 3 rfl) rfl rfl ?_
  refine gj_iload_n (q := 733) (gj_dk okL_law_8 4 rfl) rfl rfl ?_
  refine gj_iconst (q := 734) (gj_dk okL_law_8 5 rfl) (by decide) rfl ?_
  refine gj_iaddX (q := 735) (gj_dk okL_law_8 6 rfl) (by omega) rfl ?_
  refine gj_sld (q := 736) (gj_dk okL_law_8 7 rfl) (by omega) (by omega) rfl ?_
  rw [hv2]
  refine gj_callV (q := 739) (z := 0) (ci := 9) [jI v1, jI v2] rfl (t_X11_price hst v1 v2 e1) (gj_dk okL_law_8 8 rfl) ml_L_80 me_X11_price (sh0 hst) rfl ⟨by decide, by decide, rfl, Nat.le_of_ble_eq_true rfl, by omega, by omega⟩ rfl (gj_kI fun x0 S2 M2 h0 => ?_)
  obtain ⟨ex, eS, eM⟩ := h0
  dsimp only at ex eM
  subst ex; subst eM
  subst eS
  refine gj_pop (q := 740) (gj_dk okL_law_8 9 rfl) rfl rfl ?_
  refine gj_aload_n (q := 741) (gj_dk okL_law_8 10 rfl) rfl rfl ?_
  refine gj_aload_n (q := 742) (gj_dk okL_law_8 11 rfl) rfl rfl ?_
  refine gj_iload_n (q := 743) (gj_dk okL_law_8 12 rfl) rfl rfl ?_
  refine gj_iconst (q := 744) (gj_dk okL_law_8 13 rfl) (by decide) rfl ?_
  refine gj_iaddX (q := 745) (gj_dk okL_law_8 14 rfl) (by omega) rfl ?_
  refine gj_sld (q := 746) (gj_dk okL_law_8 15 rfl) (by omega) (by omega) rfl ?_
  rw [hv1]
  refine gj_aload_n (q := 747) (gj_dk okL_law_8 16 rfl) rfl rfl ?_
  refine gj_iload_n (q := 748) (gj_dk okL_law_8 17 rfl) rfl rfl ?_
  refine gj_iconst (q := 749) (gj_dk okL_law_8 18 rfl) (by decide) rfl ?_
  refine gj_iaddX (q := 750) (gj_dk okL_law_8 19 rfl) (by omega) rfl ?_
  refine gj_sld (q := 751) (gj_dk okL_law_8 20 rfl) (by omega) (by omega) rfl ?_
  rw [hv2]
  refine gj_callV (q := 754) (z := 79) (ci := 10) [jI v1, jI v2] rfl (t_X12_price hst v1 v2 e2) (gj_dk okL_law_8 21 rfl) ml_L_83 me_X12_price (sh79 hst) rfl ⟨by decide, by decide, rfl, Nat.le_of_ble_eq_true rfl, by omega, by omega⟩ rfl (gj_kI fun x1 S2 M2 h1 => ?_)
  obtain ⟨ex, eS, eM⟩ := h1
  dsimp only at ex eM
  subst ex; subst eM
  subst eS
  refine gj_pop (q := 755) (gj_dk okL_law_8 22 rfl) rfl rfl ?_
  refine gj_goto (tgt := 1219) (gj_dk okL_law_8 23 rfl) (by decide) ?_
  exact J _ _ _ _ (by omega) (by omega) hst hU
set_option maxHeartbeats 4000000 in
set_option maxRecDepth 20000 in
theorem n_case_16 {S : gj_S} {M : gj_M} {i : Int} {k n : Nat} (hst : gj_Stat S) (hW : g_FK M M) (i0 : 0 ≤ i) (i1 : i + 6 ≤ (gj_n G : Int)) (iN : (gj_n G : Int) ≤ 3072) (hk : k + 255 ≤ 600000) (hn : n + 1275 ≤ 7302249) (J : ∀ (k2 n2 : Nat) (S2 : gj_S) (M2 : gj_M), k2 ≤ k + 255 → n2 ≤ n + 1275 → gj_Stat S2 → g_FK M2 M2 → gj_W G l 1000 600000 7302249 yL_law cL_law 4 (some .boolean) (gj_qI fun x _ _ => 1 = x) k2 n2 1219 [(0, jR (-100)), (1, jR 0), (2, jR 79), (3, jI i)] [] S2 M2) : gj_W G l 1000 600000 7302249 yL_law cL_law 4 (some .boolean) (gj_qI fun x _ _ => 1 = x) k n 758 [(0, jR (-100)), (1, jR 0), (2, jR 79), (3, jI i)] [] S M := by
  obtain ⟨v1, hv1⟩ : ∃ v, (gj_x G ((i + 1)).toNat).toInt = v := ⟨_, rfl⟩
  obtain ⟨v2, hv2⟩ : ∃ v, (gj_x G ((i + 2)).toNat).toInt = v := ⟨_, rfl⟩
  obtain ⟨v3, hv3⟩ : ∃ v, (gj_x G ((i + 3)).toNat).toInt = v := ⟨_, rfl⟩
  obtain ⟨w1, D, U, e1, e2, hU⟩ := x_waits (a := v1) (b := v2) (d := v3) hW
  refine gj_aload_n (q := 759) (gj_dk okL_law_8 24 rfl) rfl rfl ?_
  refine gj_aload_n (q := 760) (gj_dk okL_law_8 25 rfl) rfl rfl ?_
  refine gj_iload_n (q := 761) (gj_dk okL_law_8 26 rfl) rfl rfl ?_
  refine gj_iconst (q := 762) (gj_dk okL_law_8 27 rfl) (by decide) rfl ?_
  refine gj_iaddX (q := 763) (gj_dk okL_law_8 28 rfl) (by omega) rfl ?_
  refine gj_sld (q := 764) (gj_dk okL_law_8 29 rfl) (by omega) (by omega) rfl ?_
  rw [hv1]
  refine gj_aload_n (q := 765) (gj_dk okL_law_8 30 rfl) rfl rfl ?_
  refine gj_iload_n (q := 766) (gj_dk okL_law_8 31 rfl) rfl rfl ?_
  refine gj_iconst (q := 767) (gj_dk okL_law_8 32 rfl) (by decide) rfl ?_
  refine gj_iaddX (q := 768) (gj_dk okL_law_8 33 rfl) (by omega) rfl ?_
  refine gj_sld (q := 769) (gj_dk okL_law_8 34 rfl) (by omega) (by omega) rfl ?_
  rw [hv2]
  refine gj_aload_n (q := 770) (gj_dk okL_law_8 35 rfl) rfl rfl ?_
  refine gj_iload_n (q := 771) (gj_dk okL_law_8 36 rfl) rfl rfl ?_
  refine gj_iconst (q := 772) (gj_dk okL_law_8 37 rfl) (by decide) rfl ?_
  refine gj_iaddX (q := 773) (gj_dk okL_law_8 38 rfl) (by omega) rfl ?_
  refine gj_sld (q := 774) (gj_dk okL_law_8 39 rfl) (by omega) (by omega) rfl ?_
  rw [hv3]
  refine gj_callV (q := 777) (z := 0) (ci := 9) [jI v1, jI v2, jI v3] rfl (t_X11_waits hst v1 v2 v3 e1) (gj_dk okL_law_8 40 rfl) ml_L_84 me_X11_waits (sh0 hst) rfl ⟨by decide, by decide, rfl, Nat.le_of_ble_eq_true rfl, by omega, by omega⟩ rfl (gj_kI fun x0 S2 M2 h0 => ?_)
  obtain ⟨ex, eS, eM⟩ := h0
  dsimp only at ex eM
  subst ex; subst eM
  subst eS
  refine gj_pop (q := 778) (gj_dk okL_law_8 41 rfl) rfl rfl ?_
  refine gj_aload_n (q := 779) (gj_dk okL_law_8 42 rfl) rfl rfl ?_
  refine gj_aload_n (q := 780) (gj_dk okL_law_8 43 rfl) rfl rfl ?_
  refine gj_iload_n (q := 781) (gj_dk okL_law_8 44 rfl) rfl rfl ?_
  refine gj_iconst (q := 782) (gj_dk okL_law_8 45 rfl) (by decide) rfl ?_
  refine gj_iaddX (q := 783) (gj_dk okL_law_8 46 rfl) (by omega) rfl ?_
  refine gj_sld (q := 784) (gj_dk okL_law_8 47 rfl) (by omega) (by omega) rfl ?_
  rw [hv1]
  refine gj_aload_n (q := 785) (gj_dk okL_law_8 48 rfl) rfl rfl ?_
  refine gj_iload_n (q := 786) (gj_dk okL_law_8 49 rfl) rfl rfl ?_
  refine gj_iconst (q := 787) (gj_dk okL_law_8 50 rfl) (by decide) rfl ?_
  refine gj_iaddX (q := 788) (gj_dk okL_law_8 51 rfl) (by omega) rfl ?_
  refine gj_sld (q := 789) (gj_dk okL_law_8 52 rfl) (by omega) (by omega) rfl ?_
  rw [hv2]
  refine gj_aload_n (q := 790) (gj_dk okL_law_8 53 rfl) rfl rfl ?_
  refine gj_iload_n (q := 791) (gj_dk okL_law_8 54 rfl) rfl rfl ?_
  refine gj_iconst (q := 792) (gj_dk okL_law_8 55 rfl) (by decide) rfl ?_
  refine gj_iaddX (q := 793) (gj_dk okL_law_8 56 rfl) (by omega) rfl ?_
  refine gj_sld (q := 794) (gj_dk okL_law_8 57 rfl) (by omega) (by omega) rfl ?_
  rw [hv3]
  refine gj_callV (q := 797) (z := 79) (ci := 10) [jI v1, jI v2, jI v3] rfl (t_X12_waits hst v1 v2 v3 e2) (gj_dk okL_law_8 58 rfl) ml_L_87 me_X12_waits (sh79 hst) rfl ⟨by decide, by decide, rfl, Nat.le_of_ble_eq_true rfl, by omega, by omega⟩ rfl (gj_kI fun x1 S2 M2 h1 => ?_)
  obtain ⟨ex, eS, eM⟩ := h1
  dsimp only at ex eM
  subst ex; subst eM
  subst eS
  refine gj_pop (q := 798) (gj_dk okL_law_8 59 rfl) rfl rfl ?_
  refine gj_goto (tgt := 1219) (gj_dk okL_law_9 0 rfl) (by decide) ?_
  exact J _ _ _ _ (by omega) (by omega) hst hU
set_option maxHeartbeats 4000000 in
set_option maxRecDepth 20000 in
theorem n_case_17 {S : gj_S} {M : gj_M} {i : Int} {k n : Nat} (hst : gj_Stat S) (hW : g_FK M M) (i0 : 0 ≤ i) (i1 : i + 6 ≤ (gj_n G : Int)) (iN : (gj_n G : Int) ≤ 3072) (hk : k + 255 ≤ 600000) (hn : n + 1275 ≤ 7302249) (J : ∀ (k2 n2 : Nat) (S2 : gj_S) (M2 : gj_M), k2 ≤ k + 255 → n2 ≤ n + 1275 → gj_Stat S2 → g_FK M2 M2 → gj_W G l 1000 600000 7302249 yL_law cL_law 4 (some .boolean) (gj_qI fun x _ _ => 1 = x) k2 n2 1219 [(0, jR (-100)), (1, jR 0), (2, jR 79), (3, jI i)] [] S2 M2) : gj_W G l 1000 600000 7302249 yL_law cL_law 4 (some .boolean) (gj_qI fun x _ _ => 1 = x) k n 801 [(0, jR (-100)), (1, jR 0), (2, jR 79), (3, jI i)] [] S M := by
  obtain ⟨v1, hv1⟩ : ∃ v, (gj_x G ((i + 1)).toNat).toInt = v := ⟨_, rfl⟩
  obtain ⟨w1, D, U, e1, e2, hU⟩ := x_way (a := v1) hW
  refine gj_aload_n (q := 802) (gj_dk okL_law_9 1 rfl) rfl rfl ?_
  refine gj_aload_n (q := 803) (gj_dk okL_law_9 2 rfl) rfl rfl ?_
  refine gj_iload_n (q := 804) (gj_dk okL_law_9 3 rfl) rfl rfl ?_
  refine gj_iconst (q := 805) (gj_dk okL_law_9 4 rfl) (by decide) rfl ?_
  refine gj_iaddX (q := 806) (gj_dk okL_law_9 5 rfl) (by omega) rfl ?_
  refine gj_sld (q := 807) (gj_dk okL_law_9 6 rfl) (by omega) (by omega) rfl ?_
  rw [hv1]
  refine gj_callV (q := 810) (z := 0) (ci := 9) [jI v1] rfl (t_X11_way hst v1 e1) (gj_dk okL_law_9 7 rfl) ml_L_88 me_X11_way (sh0 hst) rfl ⟨by decide, by decide, rfl, Nat.le_of_ble_eq_true rfl, by omega, by omega⟩ rfl (gj_kI fun x0 S2 M2 h0 => ?_)
  obtain ⟨-, ex, eS, eM⟩ := h0
  dsimp only at ex eM
  subst ex; subst eM
  subst eS
  refine gj_pop (q := 811) (gj_dk okL_law_9 8 rfl) rfl rfl ?_
  refine gj_aload_n (q := 812) (gj_dk okL_law_9 9 rfl) rfl rfl ?_
  refine gj_aload_n (q := 813) (gj_dk okL_law_9 10 rfl) rfl rfl ?_
  refine gj_iload_n (q := 814) (gj_dk okL_law_9 11 rfl) rfl rfl ?_
  refine gj_iconst (q := 815) (gj_dk okL_law_9 12 rfl) (by decide) rfl ?_
  refine gj_iaddX (q := 816) (gj_dk okL_law_9 13 rfl) (by omega) rfl ?_
  refine gj_sld (q := 817) (gj_dk okL_law_9 14 rfl) (by omega) (by omega) rfl ?_
  rw [hv1]
  refine gj_callV (q := 820) (z := 79) (ci := 10) [jI v1] rfl (t_X12_way hst v1 e2) (gj_dk okL_law_9 15 rfl) ml_L_91 me_X12_way (sh79 hst) rfl ⟨by decide, by decide, rfl, Nat.le_of_ble_eq_true rfl, by omega, by omega⟩ rfl (gj_kI fun x1 S2 M2 h1 => ?_)
  obtain ⟨-, ex, eS, eM⟩ := h1
  dsimp only at ex eM
  subst ex; subst eM
  subst eS
  refine gj_pop (q := 821) (gj_dk okL_law_9 16 rfl) rfl rfl ?_
  refine gj_goto (tgt := 1219) (gj_dk okL_law_9 17 rfl) (by decide) ?_
  exact J _ _ _ _ (by omega) (by omega) hst hU
set_option maxHeartbeats 4000000 in
set_option maxRecDepth 20000 in
theorem n_case_18 {S : gj_S} {M : gj_M} {i : Int} {k n : Nat} (hst : gj_Stat S) (hW : g_FK M M) (i0 : 0 ≤ i) (i1 : i + 6 ≤ (gj_n G : Int)) (iN : (gj_n G : Int) ≤ 3072) (hk : k + 255 ≤ 600000) (hn : n + 1275 ≤ 7302249) (J : ∀ (k2 n2 : Nat) (S2 : gj_S) (M2 : gj_M), k2 ≤ k + 255 → n2 ≤ n + 1275 → gj_Stat S2 → g_FK M2 M2 → gj_W G l 1000 600000 7302249 yL_law cL_law 4 (some .boolean) (gj_qI fun x _ _ => 1 = x) k2 n2 1219 [(0, jR (-100)), (1, jR 0), (2, jR 79), (3, jI i)] [] S2 M2) : gj_W G l 1000 600000 7302249 yL_law cL_law 4 (some .boolean) (gj_qI fun x _ _ => 1 = x) k n 824 [(0, jR (-100)), (1, jR 0), (2, jR 79), (3, jI i)] [] S M := by
  obtain ⟨v1, hv1⟩ : ∃ v, (gj_x G ((i + 1)).toNat).toInt = v := ⟨_, rfl⟩
  obtain ⟨w1, D, U, e1, e2, hU⟩ := x_seed (a := v1) hW
  refine gj_aload_n (q := 825) (gj_dk okL_law_9 18 rfl) rfl rfl ?_
  refine gj_aload_n (q := 826) (gj_dk okL_law_9 19 rfl) rfl rfl ?_
  refine gj_iload_n (q := 827) (gj_dk okL_law_9 20 rfl) rfl rfl ?_
  refine gj_iconst (q := 828) (gj_dk okL_law_9 21 rfl) (by decide) rfl ?_
  refine gj_iaddX (q := 829) (gj_dk okL_law_9 22 rfl) (by omega) rfl ?_
  refine gj_sld (q := 830) (gj_dk okL_law_9 23 rfl) (by omega) (by omega) rfl ?_
  rw [hv1]
  refine gj_callV (q := 833) (z := 0) (ci := 9) [jI v1] rfl (t_X11_seed hst v1 e1) (gj_dk okL_law_9 24 rfl) ml_L_92 me_X11_seed (sh0 hst) rfl ⟨by decide, by decide, rfl, Nat.le_of_ble_eq_true rfl, by omega, by omega⟩ rfl (gj_kI fun x0 S2 M2 h0 => ?_)
  obtain ⟨-, ex, eS, eM⟩ := h0
  dsimp only at ex eM
  subst ex; subst eM
  subst eS
  refine gj_pop (q := 834) (gj_dk okL_law_9 25 rfl) rfl rfl ?_
  refine gj_aload_n (q := 835) (gj_dk okL_law_9 26 rfl) rfl rfl ?_
  refine gj_aload_n (q := 836) (gj_dk okL_law_9 27 rfl) rfl rfl ?_
  refine gj_iload_n (q := 837) (gj_dk okL_law_9 28 rfl) rfl rfl ?_
  refine gj_iconst (q := 838) (gj_dk okL_law_9 29 rfl) (by decide) rfl ?_
  refine gj_iaddX (q := 839) (gj_dk okL_law_9 30 rfl) (by omega) rfl ?_
  refine gj_sld (q := 840) (gj_dk okL_law_9 31 rfl) (by omega) (by omega) rfl ?_
  rw [hv1]
  refine gj_callV (q := 843) (z := 79) (ci := 10) [jI v1] rfl (t_X12_seed hst v1 e2) (gj_dk okL_law_9 32 rfl) ml_L_95 me_X12_seed (sh79 hst) rfl ⟨by decide, by decide, rfl, Nat.le_of_ble_eq_true rfl, by omega, by omega⟩ rfl (gj_kI fun x1 S2 M2 h1 => ?_)
  obtain ⟨-, ex, eS, eM⟩ := h1
  dsimp only at ex eM
  subst ex; subst eM
  subst eS
  refine gj_pop (q := 844) (gj_dk okL_law_9 33 rfl) rfl rfl ?_
  refine gj_goto (tgt := 1219) (gj_dk okL_law_9 34 rfl) (by decide) ?_
  exact J _ _ _ _ (by omega) (by omega) hst hU
set_option maxHeartbeats 4000000 in
set_option maxRecDepth 20000 in
theorem n_case_19 {S : gj_S} {M : gj_M} {i : Int} {k n : Nat} (hst : gj_Stat S) (hW : g_FK M M) (i0 : 0 ≤ i) (i1 : i + 6 ≤ (gj_n G : Int)) (iN : (gj_n G : Int) ≤ 3072) (hk : k + 255 ≤ 600000) (hn : n + 1275 ≤ 7302249) (J : ∀ (k2 n2 : Nat) (S2 : gj_S) (M2 : gj_M), k2 ≤ k + 255 → n2 ≤ n + 1275 → gj_Stat S2 → g_FK M2 M2 → gj_W G l 1000 600000 7302249 yL_law cL_law 4 (some .boolean) (gj_qI fun x _ _ => 1 = x) k2 n2 1219 [(0, jR (-100)), (1, jR 0), (2, jR 79), (3, jI i)] [] S2 M2) : gj_W G l 1000 600000 7302249 yL_law cL_law 4 (some .boolean) (gj_qI fun x _ _ => 1 = x) k n 847 [(0, jR (-100)), (1, jR 0), (2, jR 79), (3, jI i)] [] S M := by
  obtain ⟨v1, hv1⟩ : ∃ v, (gj_x G ((i + 1)).toNat).toInt = v := ⟨_, rfl⟩
  obtain ⟨v2, hv2⟩ : ∃ v, (gj_x G ((i + 2)).toNat).toInt = v := ⟨_, rfl⟩
  obtain ⟨w1, D, U, e1, e2, hU⟩ := x_green (a := v1) (b := v2) hW
  refine gj_aload_n (q := 848) (gj_dk okL_law_9 35 rfl) rfl rfl ?_
  refine gj_aload_n (q := 849) (gj_dk okL_law_9 36 rfl) rfl rfl ?_
  refine gj_iload_n (q := 850) (gj_dk okL_law_9 37 rfl) rfl rfl ?_
  refine gj_iconst (q := 851) (gj_dk okL_law_9 38 rfl) (by decide) rfl ?_
  refine gj_iaddX (q := 852) (gj_dk okL_law_9 39 rfl) (by omega) rfl ?_
  refine gj_sld (q := 853) (gj_dk okL_law_9 40 rfl) (by omega) (by omega) rfl ?_
  rw [hv1]
  refine gj_aload_n (q := 854) (gj_dk okL_law_9 41 rfl) rfl rfl ?_
  refine gj_iload_n (q := 855) (gj_dk okL_law_9 42 rfl) rfl rfl ?_
  refine gj_iconst (q := 856) (gj_dk okL_law_9 43 rfl) (by decide) rfl ?_
  refine gj_iaddX (q := 857) (gj_dk okL_law_9 44 rfl) (by omega) rfl ?_
  refine gj_sld (q := 858) (gj_dk okL_law_9 45 rfl) (by omega) (by omega) rfl ?_
  rw [hv2]
  refine gj_callV (q := 861) (z := 0) (ci := 9) [jI v1, jI v2] rfl (t_X11_green hst v1 v2 e1) (gj_dk okL_law_9 46 rfl) ml_L_96 me_X11_green (sh0 hst) rfl ⟨by decide, by decide, rfl, Nat.le_of_ble_eq_true rfl, by omega, by omega⟩ rfl (gj_kI fun x0 S2 M2 h0 => ?_)
  obtain ⟨ex, eS, eM⟩ := h0
  dsimp only at ex eM
  subst ex; subst eM
  subst eS
  refine gj_pop (q := 862) (gj_dk okL_law_9 47 rfl) rfl rfl ?_
  refine gj_aload_n (q := 863) (gj_dk okL_law_9 48 rfl) rfl rfl ?_
  refine gj_aload_n (q := 864) (gj_dk okL_law_9 49 rfl) rfl rfl ?_
  refine gj_iload_n (q := 865) (gj_dk okL_law_9 50 rfl) rfl rfl ?_
  refine gj_iconst (q := 866) (gj_dk okL_law_9 51 rfl) (by decide) rfl ?_
  refine gj_iaddX (q := 867) (gj_dk okL_law_9 52 rfl) (by omega) rfl ?_
  refine gj_sld (q := 868) (gj_dk okL_law_9 53 rfl) (by omega) (by omega) rfl ?_
  rw [hv1]
  refine gj_aload_n (q := 869) (gj_dk okL_law_9 54 rfl) rfl rfl ?_
  refine gj_iload_n (q := 870) (gj_dk okL_law_9 55 rfl) rfl rfl ?_
  refine gj_iconst (q := 871) (gj_dk okL_law_9 56 rfl) (by decide) rfl ?_
  refine gj_iaddX (q := 872) (gj_dk okL_law_9 57 rfl) (by omega) rfl ?_
  refine gj_sld (q := 873) (gj_dk okL_law_9 58 rfl) (by omega) (by omega) rfl ?_
  rw [hv2]
  refine gj_callV (q := 876) (z := 79) (ci := 10) [jI v1, jI v2] rfl (t_X12_green hst v1 v2 e2) (gj_dk okL_law_9 59 rfl) ml_L_99 me_X12_green (sh79 hst) rfl ⟨by decide, by decide, rfl, Nat.le_of_ble_eq_true rfl, by omega, by omega⟩ rfl (gj_kI fun x1 S2 M2 h1 => ?_)
  obtain ⟨ex, eS, eM⟩ := h1
  dsimp only at ex eM
  subst ex; subst eM
  subst eS
  refine gj_pop (q := 877) (gj_dk okL_law_10 0 rfl) rfl rfl ?_
  refine gj_goto (tgt := 1219) (gj_dk okL_law_10 1 rfl) (by decide) ?_
  exact J _ _ _ _ (by omega) (by omega) hst hU
set_option maxHeartbeats 4000000 in
set_option maxRecDepth 20000 in
theorem n_case_20 {S : gj_S} {M : gj_M} {i : Int} {k n : Nat} (hst : gj_Stat S) (hW : g_FK M M) (i0 : 0 ≤ i) (i1 : i + 6 ≤ (gj_n G : Int)) (iN : (gj_n G : Int) ≤ 3072) (hk : k + 255 ≤ 600000) (hn : n + 1275 ≤ 7302249) (J : ∀ (k2 n2 : Nat) (S2 : gj_S) (M2 : gj_M), k2 ≤ k + 255 → n2 ≤ n + 1275 → gj_Stat S2 → g_FK M2 M2 → gj_W G l 1000 600000 7302249 yL_law cL_law 4 (some .boolean) (gj_qI fun x _ _ => 1 = x) k2 n2 1219 [(0, jR (-100)), (1, jR 0), (2, jR 79), (3, jI i)] [] S2 M2) : gj_W G l 1000 600000 7302249 yL_law cL_law 4 (some .boolean) (gj_qI fun x _ _ => 1 = x) k n 880 [(0, jR (-100)), (1, jR 0), (2, jR 79), (3, jI i)] [] S M := by
  obtain ⟨v1, hv1⟩ : ∃ v, (gj_x G ((i + 1)).toNat).toInt = v := ⟨_, rfl⟩
  obtain ⟨w1, D, c2, U, e1, e2, hc2, hU⟩ := x_may (a := v1) hst.1 hW
  refine gj_aload_n (q := 881) (gj_dk okL_law_10 2 rfl) rfl rfl ?_
  refine gj_aload_n (q := 882) (gj_dk okL_law_10 3 rfl) rfl rfl ?_
  refine gj_iload_n (q := 883) (gj_dk okL_law_10 4 rfl) rfl rfl ?_
  refine gj_iconst (q := 884) (gj_dk okL_law_10 5 rfl) (by decide) rfl ?_
  refine gj_iaddX (q := 885) (gj_dk okL_law_10 6 rfl) (by omega) rfl ?_
  refine gj_sld (q := 886) (gj_dk okL_law_10 7 rfl) (by omega) (by omega) rfl ?_
  rw [hv1]
  refine gj_callV (q := 889) (z := 0) (ci := 9) [jI v1] rfl (t_X11_may hst v1 e1) (gj_dk okL_law_10 8 rfl) ml_L_100 me_X11_may (sh0 hst) rfl ⟨by decide, by decide, rfl, Nat.le_of_ble_eq_true rfl, by omega, by omega⟩ rfl (gj_kI fun x0 S2 M2 h0 => ?_)
  obtain ⟨ex, eS, eM⟩ := h0
  dsimp only at ex eM
  subst ex; subst eM
  subst eS
  refine gj_pop (q := 890) (gj_dk okL_law_10 9 rfl) rfl rfl ?_
  refine gj_aload_n (q := 891) (gj_dk okL_law_10 10 rfl) rfl rfl ?_
  refine gj_aload_n (q := 892) (gj_dk okL_law_10 11 rfl) rfl rfl ?_
  refine gj_iload_n (q := 893) (gj_dk okL_law_10 12 rfl) rfl rfl ?_
  refine gj_iconst (q := 894) (gj_dk okL_law_10 13 rfl) (by decide) rfl ?_
  refine gj_iaddX (q := 895) (gj_dk okL_law_10 14 rfl) (by omega) rfl ?_
  refine gj_sld (q := 896) (gj_dk okL_law_10 15 rfl) (by omega) (by omega) rfl ?_
  rw [hv1]
  refine gj_callV (q := 899) (z := 79) (ci := 10) [jI v1] rfl (t_X12_may_ hst rfl v1 e2) (gj_dk okL_law_10 16 rfl) ml_L_103 me_X12_may_ (sh79 hst) rfl ⟨by decide, by decide, rfl, Nat.le_of_ble_eq_true rfl, by omega, by omega⟩ rfl (gj_kI fun x1 S2 M2 h1 => ?_)
  obtain ⟨ex, hst2, eS, eM⟩ := h1
  dsimp only at ex eM eS
  subst ex; subst eM
  clear eS
  refine gj_pop (q := 900) (gj_dk okL_law_10 17 rfl) rfl rfl ?_
  refine gj_goto (tgt := 1219) (gj_dk okL_law_10 18 rfl) (by decide) ?_
  exact J _ _ _ _ (by omega) (by omega) hst2 hU
set_option maxHeartbeats 4000000 in
set_option maxRecDepth 20000 in
theorem n_case_21 {S : gj_S} {M : gj_M} {i : Int} {k n : Nat} (hst : gj_Stat S) (hW : g_FK M M) (i0 : 0 ≤ i) (i1 : i + 6 ≤ (gj_n G : Int)) (iN : (gj_n G : Int) ≤ 3072) (hk : k + 255 ≤ 600000) (hn : n + 1275 ≤ 7302249) (J : ∀ (k2 n2 : Nat) (S2 : gj_S) (M2 : gj_M), k2 ≤ k + 255 → n2 ≤ n + 1275 → gj_Stat S2 → g_FK M2 M2 → gj_W G l 1000 600000 7302249 yL_law cL_law 4 (some .boolean) (gj_qI fun x _ _ => 1 = x) k2 n2 1219 [(0, jR (-100)), (1, jR 0), (2, jR 79), (3, jI i)] [] S2 M2) : gj_W G l 1000 600000 7302249 yL_law cL_law 4 (some .boolean) (gj_qI fun x _ _ => 1 = x) k n 903 [(0, jR (-100)), (1, jR 0), (2, jR 79), (3, jI i)] [] S M := by
  obtain ⟨v1, hv1⟩ : ∃ v, (gj_x G ((i + 1)).toNat).toInt = v := ⟨_, rfl⟩
  obtain ⟨v2, hv2⟩ : ∃ v, (gj_x G ((i + 2)).toNat).toInt = v := ⟨_, rfl⟩
  obtain ⟨U, e2, hU⟩ := x_join (a := v1) (b := v2) hW
  obtain ⟨w1, D, e1⟩ : ∃ v D, f_X11_join v1 v2 M = (v, D) := ⟨_, _, rfl⟩
  rw [e1] at e2
  dsimp only at e2
  refine gj_aload_n (q := 904) (gj_dk okL_law_10 19 rfl) rfl rfl ?_
  refine gj_aload_n (q := 905) (gj_dk okL_law_10 20 rfl) rfl rfl ?_
  refine gj_iload_n (q := 906) (gj_dk okL_law_10 21 rfl) rfl rfl ?_
  refine gj_iconst (q := 907) (gj_dk okL_law_10 22 rfl) (by decide) rfl ?_
  refine gj_iaddX (q := 908) (gj_dk okL_law_10 23 rfl) (by omega) rfl ?_
  refine gj_sld (q := 909) (gj_dk okL_law_10 24 rfl) (by omega) (by omega) rfl ?_
  rw [hv1]
  refine gj_aload_n (q := 910) (gj_dk okL_law_10 25 rfl) rfl rfl ?_
  refine gj_iload_n (q := 911) (gj_dk okL_law_10 26 rfl) rfl rfl ?_
  refine gj_iconst (q := 912) (gj_dk okL_law_10 27 rfl) (by decide) rfl ?_
  refine gj_iaddX (q := 913) (gj_dk okL_law_10 28 rfl) (by omega) rfl ?_
  refine gj_sld (q := 914) (gj_dk okL_law_10 29 rfl) (by omega) (by omega) rfl ?_
  rw [hv2]
  refine gj_callV (q := 917) (z := 0) (ci := 9) [jI v1, jI v2] rfl (t_X11_join hst v1 v2 e1) (gj_dk okL_law_10 30 rfl) ml_L_104 me_X11_join (sh0 hst) rfl ⟨by decide, by decide, rfl, Nat.le_of_ble_eq_true rfl, by omega, by omega⟩ rfl (gj_kI fun x0 S2 M2 h0 => ?_)
  obtain ⟨-, ex, eS, eM⟩ := h0
  dsimp only at ex eM
  subst ex; subst eM
  subst eS
  refine gj_pop (q := 918) (gj_dk okL_law_10 31 rfl) rfl rfl ?_
  refine gj_aload_n (q := 919) (gj_dk okL_law_10 32 rfl) rfl rfl ?_
  refine gj_aload_n (q := 920) (gj_dk okL_law_10 33 rfl) rfl rfl ?_
  refine gj_iload_n (q := 921) (gj_dk okL_law_10 34 rfl) rfl rfl ?_
  refine gj_iconst (q := 922) (gj_dk okL_law_10 35 rfl) (by decide) rfl ?_
  refine gj_iaddX (q := 923) (gj_dk okL_law_10 36 rfl) (by omega) rfl ?_
  refine gj_sld (q := 924) (gj_dk okL_law_10 37 rfl) (by omega) (by omega) rfl ?_
  rw [hv1]
  refine gj_aload_n (q := 925) (gj_dk okL_law_10 38 rfl) rfl rfl ?_
  refine gj_iload_n (q := 926) (gj_dk okL_law_10 39 rfl) rfl rfl ?_
  refine gj_iconst (q := 927) (gj_dk okL_law_10 40 rfl) (by decide) rfl ?_
  refine gj_iaddX (q := 928) (gj_dk okL_law_10 41 rfl) (by omega) rfl ?_
  refine gj_sld (q := 929) (gj_dk okL_law_10 42 rfl) (by omega) (by omega) rfl ?_
  rw [hv2]
  refine gj_callV (q := 932) (z := 79) (ci := 10) [jI v1, jI v2] rfl (t_X12_join hst v1 v2 e2) (gj_dk okL_law_10 43 rfl) ml_L_108 me_X12_join (sh79 hst) rfl ⟨by decide, by decide, rfl, Nat.le_of_ble_eq_true rfl, by omega, by omega⟩ rfl (gj_kI fun x1 S2 M2 h1 => ?_)
  obtain ⟨-, ex, eS, eM⟩ := h1
  dsimp only at ex eM
  subst ex; subst eM
  subst eS
  refine gj_pop (q := 933) (gj_dk okL_law_10 44 rfl) rfl rfl ?_
  refine gj_goto (tgt := 1219) (gj_dk okL_law_10 45 rfl) (by decide) ?_
  exact J _ _ _ _ (by omega) (by omega) hst hU
set_option maxHeartbeats 4000000 in
set_option maxRecDepth 20000 in
theorem n_case_22 {S : gj_S} {M : gj_M} {i : Int} {k n : Nat} (hst : gj_Stat S) (hW : g_FK M M) (i0 : 0 ≤ i) (i1 : i + 6 ≤ (gj_n G : Int)) (iN : (gj_n G : Int) ≤ 3072) (hk : k + 255 ≤ 600000) (hn : n + 1275 ≤ 7302249) (J : ∀ (k2 n2 : Nat) (S2 : gj_S) (M2 : gj_M), k2 ≤ k + 255 → n2 ≤ n + 1275 → gj_Stat S2 → g_FK M2 M2 → gj_W G l 1000 600000 7302249 yL_law cL_law 4 (some .boolean) (gj_qI fun x _ _ => 1 = x) k2 n2 1219 [(0, jR (-100)), (1, jR 0), (2, jR 79), (3, jI i)] [] S2 M2) : gj_W G l 1000 600000 7302249 yL_law cL_law 4 (some .boolean) (gj_qI fun x _ _ => 1 = x) k n 936 [(0, jR (-100)), (1, jR 0), (2, jR 79), (3, jI i)] [] S M := by
  obtain ⟨v1, hv1⟩ : ∃ v, (gj_x G ((i + 1)).toNat).toInt = v := ⟨_, rfl⟩
  obtain ⟨U, e2, hU⟩ := x_part (a := v1) hW
  obtain ⟨w1, D, e1⟩ : ∃ v D, f_X11_part v1 M = (v, D) := ⟨_, _, rfl⟩
  rw [e1] at e2
  dsimp only at e2
  refine gj_aload_n (q := 937) (gj_dk okL_law_10 46 rfl) rfl rfl ?_
  refine gj_aload_n (q := 938) (gj_dk okL_law_10 47 rfl) rfl rfl ?_
  refine gj_iload_n (q := 939) (gj_dk okL_law_10 48 rfl) rfl rfl ?_
  refine gj_iconst (q := 940) (gj_dk okL_law_10 49 rfl) (by decide) rfl ?_
  refine gj_iaddX (q := 941) (gj_dk okL_law_10 50 rfl) (by omega) rfl ?_
  refine gj_sld (q := 942) (gj_dk okL_law_10 51 rfl) (by omega) (by omega) rfl ?_
  rw [hv1]
  refine gj_callV (q := 945) (z := 0) (ci := 9) [jI v1] rfl (t_X11_part hst v1 e1) (gj_dk okL_law_10 52 rfl) ml_L_109 me_X11_part (sh0 hst) rfl ⟨by decide, by decide, rfl, Nat.le_of_ble_eq_true rfl, by omega, by omega⟩ rfl (gj_kI fun x0 S2 M2 h0 => ?_)
  obtain ⟨-, ex, eS, eM⟩ := h0
  dsimp only at ex eM
  subst ex; subst eM
  subst eS
  refine gj_pop (q := 946) (gj_dk okL_law_10 53 rfl) rfl rfl ?_
  refine gj_aload_n (q := 947) (gj_dk okL_law_10 54 rfl) rfl rfl ?_
  refine gj_aload_n (q := 948) (gj_dk okL_law_10 55 rfl) rfl rfl ?_
  refine gj_iload_n (q := 949) (gj_dk okL_law_10 56 rfl) rfl rfl ?_
  refine gj_iconst (q := 950) (gj_dk okL_law_10 57 rfl) (by decide) rfl ?_
  refine gj_iaddX (q := 951) (gj_dk okL_law_10 58 rfl) (by omega) rfl ?_
  refine gj_sld (q := 952) (gj_dk okL_law_10 59 rfl) (by omega) (by omega) rfl ?_
  rw [hv1]
  refine gj_callV (q := 955) (z := 79) (ci := 10) [jI v1] rfl (t_X12_part hst v1 e2) (gj_dk okL_law_11 0 rfl) ml_L_112 me_X12_part (sh79 hst) rfl ⟨by decide, by decide, rfl, Nat.le_of_ble_eq_true rfl, by omega, by omega⟩ rfl (gj_kI fun x1 S2 M2 h1 => ?_)
  obtain ⟨-, ex, eS, eM⟩ := h1
  dsimp only at ex eM
  subst ex; subst eM
  subst eS
  refine gj_pop (q := 956) (gj_dk okL_law_11 1 rfl) rfl rfl ?_
  refine gj_goto (tgt := 1219) (gj_dk okL_law_11 2 rfl) (by decide) ?_
  exact J _ _ _ _ (by omega) (by omega) hst hU
set_option maxHeartbeats 4000000 in
set_option maxRecDepth 20000 in
theorem n_case_23 {S : gj_S} {M : gj_M} {i : Int} {k n : Nat} (hst : gj_Stat S) (hW : g_FK M M) (i0 : 0 ≤ i) (i1 : i + 6 ≤ (gj_n G : Int)) (iN : (gj_n G : Int) ≤ 3072) (hk : k + 255 ≤ 600000) (hn : n + 1275 ≤ 7302249) (J : ∀ (k2 n2 : Nat) (S2 : gj_S) (M2 : gj_M), k2 ≤ k + 255 → n2 ≤ n + 1275 → gj_Stat S2 → g_FK M2 M2 → gj_W G l 1000 600000 7302249 yL_law cL_law 4 (some .boolean) (gj_qI fun x _ _ => 1 = x) k2 n2 1219 [(0, jR (-100)), (1, jR 0), (2, jR 79), (3, jI i)] [] S2 M2) : gj_W G l 1000 600000 7302249 yL_law cL_law 4 (some .boolean) (gj_qI fun x _ _ => 1 = x) k n 959 [(0, jR (-100)), (1, jR 0), (2, jR 79), (3, jI i)] [] S M := by
  obtain ⟨v1, hv1⟩ : ∃ v, (gj_x G ((i + 1)).toNat).toInt = v := ⟨_, rfl⟩
  obtain ⟨v2, hv2⟩ : ∃ v, (gj_x G ((i + 2)).toNat).toInt = v := ⟨_, rfl⟩
  obtain ⟨w1, e1⟩ : ∃ v, f_X11_log v1 v2 M = v := ⟨_, rfl⟩
  obtain ⟨w2, e2⟩ := x_log (a := v1) (b := v2) hW
  refine gj_aload_n (q := 960) (gj_dk okL_law_11 3 rfl) rfl rfl ?_
  refine gj_aload_n (q := 961) (gj_dk okL_law_11 4 rfl) rfl rfl ?_
  refine gj_iload_n (q := 962) (gj_dk okL_law_11 5 rfl) rfl rfl ?_
  refine gj_iconst (q := 963) (gj_dk okL_law_11 6 rfl) (by decide) rfl ?_
  refine gj_iaddX (q := 964) (gj_dk okL_law_11 7 rfl) (by omega) rfl ?_
  refine gj_sld (q := 965) (gj_dk okL_law_11 8 rfl) (by omega) (by omega) rfl ?_
  rw [hv1]
  refine gj_aload_n (q := 966) (gj_dk okL_law_11 9 rfl) rfl rfl ?_
  refine gj_iload_n (q := 967) (gj_dk okL_law_11 10 rfl) rfl rfl ?_
  refine gj_iconst (q := 968) (gj_dk okL_law_11 11 rfl) (by decide) rfl ?_
  refine gj_iaddX (q := 969) (gj_dk okL_law_11 12 rfl) (by omega) rfl ?_
  refine gj_sld (q := 970) (gj_dk okL_law_11 13 rfl) (by omega) (by omega) rfl ?_
  rw [hv2]
  refine gj_callV (q := 973) (z := 0) (ci := 9) [jI v1, jI v2] rfl (t_X11_log hst v1 v2 e1) (gj_dk okL_law_11 14 rfl) ml_L_113 me_X11_log (sh0 hst) rfl ⟨by decide, by decide, rfl, Nat.le_of_ble_eq_true rfl, by omega, by omega⟩ rfl (gj_kI fun x0 S2 M2 h0 => ?_)
  obtain ⟨ex, eS, eM⟩ := h0
  subst ex; subst eM
  subst eS
  refine gj_pop (q := 974) (gj_dk okL_law_11 15 rfl) rfl rfl ?_
  refine gj_aload_n (q := 975) (gj_dk okL_law_11 16 rfl) rfl rfl ?_
  refine gj_aload_n (q := 976) (gj_dk okL_law_11 17 rfl) rfl rfl ?_
  refine gj_iload_n (q := 977) (gj_dk okL_law_11 18 rfl) rfl rfl ?_
  refine gj_iconst (q := 978) (gj_dk okL_law_11 19 rfl) (by decide) rfl ?_
  refine gj_iaddX (q := 979) (gj_dk okL_law_11 20 rfl) (by omega) rfl ?_
  refine gj_sld (q := 980) (gj_dk okL_law_11 21 rfl) (by omega) (by omega) rfl ?_
  rw [hv1]
  refine gj_aload_n (q := 981) (gj_dk okL_law_11 22 rfl) rfl rfl ?_
  refine gj_iload_n (q := 982) (gj_dk okL_law_11 23 rfl) rfl rfl ?_
  refine gj_iconst (q := 983) (gj_dk okL_law_11 24 rfl) (by decide) rfl ?_
  refine gj_iaddX (q := 984) (gj_dk okL_law_11 25 rfl) (by omega) rfl ?_
  refine gj_sld (q := 985) (gj_dk okL_law_11 26 rfl) (by omega) (by omega) rfl ?_
  rw [hv2]
  refine gj_callV (q := 988) (z := 79) (ci := 10) [jI v1, jI v2] rfl (t_X12_log hst v1 v2 e2) (gj_dk okL_law_11 27 rfl) ml_L_116 me_X12_log (sh79 hst) rfl ⟨by decide, by decide, rfl, Nat.le_of_ble_eq_true rfl, by omega, by omega⟩ rfl (gj_kI fun x1 S2 M2 h1 => ?_)
  obtain ⟨ex, eS, eM⟩ := h1
  subst ex; subst eM
  subst eS
  refine gj_pop (q := 989) (gj_dk okL_law_11 28 rfl) rfl rfl ?_
  refine gj_goto (tgt := 1219) (gj_dk okL_law_11 29 rfl) (by decide) ?_
  exact J _ _ _ _ (by omega) (by omega) hst hW
set_option maxHeartbeats 4000000 in
set_option maxRecDepth 20000 in
theorem n_case_24 {S : gj_S} {M : gj_M} {i : Int} {k n : Nat} (hst : gj_Stat S) (hW : g_FK M M) (i0 : 0 ≤ i) (i1 : i + 6 ≤ (gj_n G : Int)) (iN : (gj_n G : Int) ≤ 3072) (hk : k + 255 ≤ 600000) (hn : n + 1275 ≤ 7302249) (J : ∀ (k2 n2 : Nat) (S2 : gj_S) (M2 : gj_M), k2 ≤ k + 255 → n2 ≤ n + 1275 → gj_Stat S2 → g_FK M2 M2 → gj_W G l 1000 600000 7302249 yL_law cL_law 4 (some .boolean) (gj_qI fun x _ _ => 1 = x) k2 n2 1219 [(0, jR (-100)), (1, jR 0), (2, jR 79), (3, jI i)] [] S2 M2) : gj_W G l 1000 600000 7302249 yL_law cL_law 4 (some .boolean) (gj_qI fun x _ _ => 1 = x) k n 992 [(0, jR (-100)), (1, jR 0), (2, jR 79), (3, jI i)] [] S M := by
  obtain ⟨v1, hv1⟩ : ∃ v, (gj_x G ((i + 1)).toNat).toInt = v := ⟨_, rfl⟩
  obtain ⟨w1, D, e1, e2, hU⟩ := x_blocks (a := v1) hW
  refine gj_aload_n (q := 993) (gj_dk okL_law_11 30 rfl) rfl rfl ?_
  refine gj_aload_n (q := 994) (gj_dk okL_law_11 31 rfl) rfl rfl ?_
  refine gj_iload_n (q := 995) (gj_dk okL_law_11 32 rfl) rfl rfl ?_
  refine gj_iconst (q := 996) (gj_dk okL_law_11 33 rfl) (by decide) rfl ?_
  refine gj_iaddX (q := 997) (gj_dk okL_law_11 34 rfl) (by omega) rfl ?_
  refine gj_sld (q := 998) (gj_dk okL_law_11 35 rfl) (by omega) (by omega) rfl ?_
  rw [hv1]
  refine gj_callV (q := 1001) (z := 0) (ci := 9) [jI v1] rfl (t_X11_blocks hst v1 e1) (gj_dk okL_law_11 36 rfl) ml_L_117 me_X11_blocks (sh0 hst) rfl ⟨by decide, by decide, rfl, Nat.le_of_ble_eq_true rfl, by omega, by omega⟩ rfl (gj_kI fun x0 S2 M2 h0 => ?_)
  obtain ⟨ex, eS, eM⟩ := h0
  dsimp only at ex eM
  subst ex; subst eM
  subst eS
  refine gj_pop (q := 1002) (gj_dk okL_law_11 37 rfl) rfl rfl ?_
  refine gj_aload_n (q := 1003) (gj_dk okL_law_11 38 rfl) rfl rfl ?_
  refine gj_aload_n (q := 1004) (gj_dk okL_law_11 39 rfl) rfl rfl ?_
  refine gj_iload_n (q := 1005) (gj_dk okL_law_11 40 rfl) rfl rfl ?_
  refine gj_iconst (q := 1006) (gj_dk okL_law_11 41 rfl) (by decide) rfl ?_
  refine gj_iaddX (q := 1007) (gj_dk okL_law_11 42 rfl) (by omega) rfl ?_
  refine gj_sld (q := 1008) (gj_dk okL_law_11 43 rfl) (by omega) (by omega) rfl ?_
  rw [hv1]
  refine gj_callV (q := 1011) (z := 79) (ci := 10) [jI v1] rfl (t_X12_blocks hst v1 e2) (gj_dk okL_law_11 44 rfl) ml_L_120 me_X12_blocks (sh79 hst) rfl ⟨by decide, by decide, rfl, Nat.le_of_ble_eq_true rfl, by omega, by omega⟩ rfl (gj_kI fun x1 S2 M2 h1 => ?_)
  obtain ⟨ex, eS, eM⟩ := h1
  subst ex; subst eM
  subst eS
  refine gj_pop (q := 1012) (gj_dk okL_law_11 45 rfl) rfl rfl ?_
  refine gj_goto (tgt := 1219) (gj_dk okL_law_11 46 rfl) (by decide) ?_
  exact J _ _ _ _ (by omega) (by omega) hst hU
set_option maxHeartbeats 4000000 in
set_option maxRecDepth 20000 in
theorem n_case_25 {S : gj_S} {M : gj_M} {i : Int} {k n : Nat} (hst : gj_Stat S) (hW : g_FK M M) (i0 : 0 ≤ i) (i1 : i + 6 ≤ (gj_n G : Int)) (iN : (gj_n G : Int) ≤ 3072) (hk : k + 255 ≤ 600000) (hn : n + 1275 ≤ 7302249) (J : ∀ (k2 n2 : Nat) (S2 : gj_S) (M2 : gj_M), k2 ≤ k + 255 → n2 ≤ n + 1275 → gj_Stat S2 → g_FK M2 M2 → gj_W G l 1000 600000 7302249 yL_law cL_law 4 (some .boolean) (gj_qI fun x _ _ => 1 = x) k2 n2 1219 [(0, jR (-100)), (1, jR 0), (2, jR 79), (3, jI i)] [] S2 M2) : gj_W G l 1000 600000 7302249 yL_law cL_law 4 (some .boolean) (gj_qI fun x _ _ => 1 = x) k n 1015 [(0, jR (-100)), (1, jR 0), (2, jR 79), (3, jI i)] [] S M := by
  obtain ⟨v1, hv1⟩ : ∃ v, (gj_x G ((i + 1)).toNat).toInt = v := ⟨_, rfl⟩
  obtain ⟨w1, w2, U, e1, e2, hU⟩ := x_parents (a := v1) hW
  refine gj_aload_n (q := 1016) (gj_dk okL_law_11 47 rfl) rfl rfl ?_
  refine gj_aload_n (q := 1017) (gj_dk okL_law_11 48 rfl) rfl rfl ?_
  refine gj_iload_n (q := 1018) (gj_dk okL_law_11 49 rfl) rfl rfl ?_
  refine gj_iconst (q := 1019) (gj_dk okL_law_11 50 rfl) (by decide) rfl ?_
  refine gj_iaddX (q := 1020) (gj_dk okL_law_11 51 rfl) (by omega) rfl ?_
  refine gj_sld (q := 1021) (gj_dk okL_law_11 52 rfl) (by omega) (by omega) rfl ?_
  rw [hv1]
  refine gj_callV (q := 1024) (z := 0) (ci := 9) [jI v1] rfl (t_X11_parents hst v1 e1) (gj_dk okL_law_11 53 rfl) ml_L_121 me_X11_parents (sh0 hst) rfl ⟨by decide, by decide, rfl, Nat.le_of_ble_eq_true rfl, by omega, by omega⟩ rfl (gj_kI fun x0 S2 M2 h0 => ?_)
  obtain ⟨ex, eS, eM⟩ := h0
  subst ex; subst eM
  subst eS
  refine gj_pop (q := 1025) (gj_dk okL_law_11 54 rfl) rfl rfl ?_
  refine gj_aload_n (q := 1026) (gj_dk okL_law_11 55 rfl) rfl rfl ?_
  refine gj_aload_n (q := 1027) (gj_dk okL_law_11 56 rfl) rfl rfl ?_
  refine gj_iload_n (q := 1028) (gj_dk okL_law_11 57 rfl) rfl rfl ?_
  refine gj_iconst (q := 1029) (gj_dk okL_law_11 58 rfl) (by decide) rfl ?_
  refine gj_iaddX (q := 1030) (gj_dk okL_law_11 59 rfl) (by omega) rfl ?_
  refine gj_sld (q := 1031) (gj_dk okL_law_12 0 rfl) (by omega) (by omega) rfl ?_
  rw [hv1]
  refine gj_callV (q := 1034) (z := 79) (ci := 10) [jI v1] rfl (t_X12_parents hst v1 e2) (gj_dk okL_law_12 1 rfl) ml_L_124 me_X12_parents (sh79 hst) rfl ⟨by decide, by decide, rfl, Nat.le_of_ble_eq_true rfl, by omega, by omega⟩ rfl (gj_kI fun x1 S2 M2 h1 => ?_)
  obtain ⟨ex, eS, eM⟩ := h1
  dsimp only at ex eM
  subst ex; subst eM
  subst eS
  refine gj_pop (q := 1035) (gj_dk okL_law_12 2 rfl) rfl rfl ?_
  refine gj_goto (tgt := 1219) (gj_dk okL_law_12 3 rfl) (by decide) ?_
  exact J _ _ _ _ (by omega) (by omega) hst hU
set_option maxHeartbeats 4000000 in
set_option maxRecDepth 20000 in
theorem n_case_26 {S : gj_S} {M : gj_M} {i : Int} {k n : Nat} (hst : gj_Stat S) (hW : g_FK M M) (i0 : 0 ≤ i) (i1 : i + 6 ≤ (gj_n G : Int)) (iN : (gj_n G : Int) ≤ 3072) (hk : k + 255 ≤ 600000) (hn : n + 1275 ≤ 7302249) (J : ∀ (k2 n2 : Nat) (S2 : gj_S) (M2 : gj_M), k2 ≤ k + 255 → n2 ≤ n + 1275 → gj_Stat S2 → g_FK M2 M2 → gj_W G l 1000 600000 7302249 yL_law cL_law 4 (some .boolean) (gj_qI fun x _ _ => 1 = x) k2 n2 1219 [(0, jR (-100)), (1, jR 0), (2, jR 79), (3, jI i)] [] S2 M2) : gj_W G l 1000 600000 7302249 yL_law cL_law 4 (some .boolean) (gj_qI fun x _ _ => 1 = x) k n 1038 [(0, jR (-100)), (1, jR 0), (2, jR 79), (3, jI i)] [] S M := by
  obtain ⟨v1, hv1⟩ : ∃ v, (gj_x G ((i + 1)).toNat).toInt = v := ⟨_, rfl⟩
  obtain ⟨v2, hv2⟩ : ∃ v, (gj_x G ((i + 2)).toNat).toInt = v := ⟨_, rfl⟩
  obtain ⟨w1, D, w2, U, e1, e2, hU⟩ := x_life (a := v1) (b := v2) hW
  refine gj_aload_n (q := 1039) (gj_dk okL_law_12 4 rfl) rfl rfl ?_
  refine gj_aload_n (q := 1040) (gj_dk okL_law_12 5 rfl) rfl rfl ?_
  refine gj_iload_n (q := 1041) (gj_dk okL_law_12 6 rfl) rfl rfl ?_
  refine gj_iconst (q := 1042) (gj_dk okL_law_12 7 rfl) (by decide) rfl ?_
  refine gj_iaddX (q := 1043) (gj_dk okL_law_12 8 rfl) (by omega) rfl ?_
  refine gj_sld (q := 1044) (gj_dk okL_law_12 9 rfl) (by omega) (by omega) rfl ?_
  rw [hv1]
  refine gj_aload_n (q := 1045) (gj_dk okL_law_12 10 rfl) rfl rfl ?_
  refine gj_iload_n (q := 1046) (gj_dk okL_law_12 11 rfl) rfl rfl ?_
  refine gj_iconst (q := 1047) (gj_dk okL_law_12 12 rfl) (by decide) rfl ?_
  refine gj_iaddX (q := 1048) (gj_dk okL_law_12 13 rfl) (by omega) rfl ?_
  refine gj_sld (q := 1049) (gj_dk okL_law_12 14 rfl) (by omega) (by omega) rfl ?_
  rw [hv2]
  refine gj_callV (q := 1052) (z := 0) (ci := 9) [jI v1, jI v2] rfl (t_X11_life hst v1 v2 e1) (gj_dk okL_law_12 15 rfl) ml_L_125 me_X11_life (sh0 hst) rfl ⟨by decide, by decide, rfl, Nat.le_of_ble_eq_true rfl, by omega, by omega⟩ rfl (gj_kI fun x0 S2 M2 h0 => ?_)
  obtain ⟨ex, eS, eM⟩ := h0
  dsimp only at ex eM
  subst ex; subst eM
  subst eS
  refine gj_pop (q := 1053) (gj_dk okL_law_12 16 rfl) rfl rfl ?_
  refine gj_aload_n (q := 1054) (gj_dk okL_law_12 17 rfl) rfl rfl ?_
  refine gj_aload_n (q := 1055) (gj_dk okL_law_12 18 rfl) rfl rfl ?_
  refine gj_iload_n (q := 1056) (gj_dk okL_law_12 19 rfl) rfl rfl ?_
  refine gj_iconst (q := 1057) (gj_dk okL_law_12 20 rfl) (by decide) rfl ?_
  refine gj_iaddX (q := 1058) (gj_dk okL_law_12 21 rfl) (by omega) rfl ?_
  refine gj_sld (q := 1059) (gj_dk okL_law_12 22 rfl) (by omega) (by omega) rfl ?_
  rw [hv1]
  refine gj_aload_n (q := 1060) (gj_dk okL_law_12 23 rfl) rfl rfl ?_
  refine gj_iload_n (q := 1061) (gj_dk okL_law_12 24 rfl) rfl rfl ?_
  refine gj_iconst (q := 1062) (gj_dk okL_law_12 25 rfl) (by decide) rfl ?_
  refine gj_iaddX (q := 1063) (gj_dk okL_law_12 26 rfl) (by omega) rfl ?_
  refine gj_sld (q := 1064) (gj_dk okL_law_12 27 rfl) (by omega) (by omega) rfl ?_
  rw [hv2]
  refine gj_callV (q := 1067) (z := 79) (ci := 10) [jI v1, jI v2] rfl (t_X12_life hst v1 v2 e2) (gj_dk okL_law_12 28 rfl) ml_L_128 me_X12_life (sh79 hst) rfl ⟨by decide, by decide, rfl, Nat.le_of_ble_eq_true rfl, by omega, by omega⟩ rfl (gj_kI fun x1 S2 M2 h1 => ?_)
  obtain ⟨ex, eS, eM⟩ := h1
  dsimp only at ex eM
  subst ex; subst eM
  subst eS
  refine gj_pop (q := 1068) (gj_dk okL_law_12 29 rfl) rfl rfl ?_
  refine gj_goto (tgt := 1219) (gj_dk okL_law_12 30 rfl) (by decide) ?_
  exact J _ _ _ _ (by omega) (by omega) hst hU
set_option maxHeartbeats 4000000 in
set_option maxRecDepth 20000 in
theorem n_case_27 {S : gj_S} {M : gj_M} {i : Int} {k n : Nat} (hst : gj_Stat S) (hW : g_FK M M) (i0 : 0 ≤ i) (i1 : i + 6 ≤ (gj_n G : Int)) (iN : (gj_n G : Int) ≤ 3072) (hk : k + 255 ≤ 600000) (hn : n + 1275 ≤ 7302249) (J : ∀ (k2 n2 : Nat) (S2 : gj_S) (M2 : gj_M), k2 ≤ k + 255 → n2 ≤ n + 1275 → gj_Stat S2 → g_FK M2 M2 → gj_W G l 1000 600000 7302249 yL_law cL_law 4 (some .boolean) (gj_qI fun x _ _ => 1 = x) k2 n2 1219 [(0, jR (-100)), (1, jR 0), (2, jR 79), (3, jI i)] [] S2 M2) : gj_W G l 1000 600000 7302249 yL_law cL_law 4 (some .boolean) (gj_qI fun x _ _ => 1 = x) k n 1071 [(0, jR (-100)), (1, jR 0), (2, jR 79), (3, jI i)] [] S M := by
  obtain ⟨v1, hv1⟩ : ∃ v, (gj_x G ((i + 1)).toNat).toInt = v := ⟨_, rfl⟩
  obtain ⟨w1, w2, U, e1, e2, hU⟩ := x_never (a := v1) hW
  refine gj_aload_n (q := 1072) (gj_dk okL_law_12 31 rfl) rfl rfl ?_
  refine gj_aload_n (q := 1073) (gj_dk okL_law_12 32 rfl) rfl rfl ?_
  refine gj_iload_n (q := 1074) (gj_dk okL_law_12 33 rfl) rfl rfl ?_
  refine gj_iconst (q := 1075) (gj_dk okL_law_12 34 rfl) (by decide) rfl ?_
  refine gj_iaddX (q := 1076) (gj_dk okL_law_12 35 rfl) (by omega) rfl ?_
  refine gj_sld (q := 1077) (gj_dk okL_law_12 36 rfl) (by omega) (by omega) rfl ?_
  rw [hv1]
  refine gj_callV (q := 1080) (z := 0) (ci := 9) [jI v1] rfl (t_X11_never hst v1 e1) (gj_dk okL_law_12 37 rfl) ml_L_129 me_X11_never (sh0 hst) rfl ⟨by decide, by decide, rfl, Nat.le_of_ble_eq_true rfl, by omega, by omega⟩ rfl (gj_kI fun x0 S2 M2 h0 => ?_)
  obtain ⟨ex, eS, eM⟩ := h0
  subst ex; subst eM
  subst eS
  refine gj_pop (q := 1081) (gj_dk okL_law_12 38 rfl) rfl rfl ?_
  refine gj_aload_n (q := 1082) (gj_dk okL_law_12 39 rfl) rfl rfl ?_
  refine gj_aload_n (q := 1083) (gj_dk okL_law_12 40 rfl) rfl rfl ?_
  refine gj_iload_n (q := 1084) (gj_dk okL_law_12 41 rfl) rfl rfl ?_
  refine gj_iconst (q := 1085) (gj_dk okL_law_12 42 rfl) (by decide) rfl ?_
  refine gj_iaddX (q := 1086) (gj_dk okL_law_12 43 rfl) (by omega) rfl ?_
  refine gj_sld (q := 1087) (gj_dk okL_law_12 44 rfl) (by omega) (by omega) rfl ?_
  rw [hv1]
  refine gj_callV (q := 1090) (z := 79) (ci := 10) [jI v1] rfl (t_X12_never hst v1 e2) (gj_dk okL_law_12 45 rfl) ml_L_132 me_X12_never (sh79 hst) rfl ⟨by decide, by decide, rfl, Nat.le_of_ble_eq_true rfl, by omega, by omega⟩ rfl (gj_kI fun x1 S2 M2 h1 => ?_)
  obtain ⟨ex, eS, eM⟩ := h1
  dsimp only at ex eM
  subst ex; subst eM
  subst eS
  refine gj_pop (q := 1091) (gj_dk okL_law_12 46 rfl) rfl rfl ?_
  refine gj_goto (tgt := 1219) (gj_dk okL_law_12 47 rfl) (by decide) ?_
  exact J _ _ _ _ (by omega) (by omega) hst hU
set_option maxHeartbeats 4000000 in
set_option maxRecDepth 20000 in
theorem n_case_28 {S : gj_S} {M : gj_M} {i : Int} {k n : Nat} (hst : gj_Stat S) (hW : g_FK M M) (i0 : 0 ≤ i) (i1 : i + 6 ≤ (gj_n G : Int)) (iN : (gj_n G : Int) ≤ 3072) (hk : k + 255 ≤ 600000) (hn : n + 1275 ≤ 7302249) (J : ∀ (k2 n2 : Nat) (S2 : gj_S) (M2 : gj_M), k2 ≤ k + 255 → n2 ≤ n + 1275 → gj_Stat S2 → g_FK M2 M2 → gj_W G l 1000 600000 7302249 yL_law cL_law 4 (some .boolean) (gj_qI fun x _ _ => 1 = x) k2 n2 1219 [(0, jR (-100)), (1, jR 0), (2, jR 79), (3, jI i)] [] S2 M2) : gj_W G l 1000 600000 7302249 yL_law cL_law 4 (some .boolean) (gj_qI fun x _ _ => 1 = x) k n 1094 [(0, jR (-100)), (1, jR 0), (2, jR 79), (3, jI i)] [] S M := by
  obtain ⟨v1, hv1⟩ : ∃ v, (gj_x G ((i + 1)).toNat).toInt = v := ⟨_, rfl⟩
  obtain ⟨v2, hv2⟩ : ∃ v, (gj_x G ((i + 2)).toNat).toInt = v := ⟨_, rfl⟩
  obtain ⟨w1, w2, e1, e2⟩ := x_pairs (a := v1) (b := v2) hW
  refine gj_aload_n (q := 1095) (gj_dk okL_law_12 48 rfl) rfl rfl ?_
  refine gj_aload_n (q := 1096) (gj_dk okL_law_12 49 rfl) rfl rfl ?_
  refine gj_iload_n (q := 1097) (gj_dk okL_law_12 50 rfl) rfl rfl ?_
  refine gj_iconst (q := 1098) (gj_dk okL_law_12 51 rfl) (by decide) rfl ?_
  refine gj_iaddX (q := 1099) (gj_dk okL_law_12 52 rfl) (by omega) rfl ?_
  refine gj_sld (q := 1100) (gj_dk okL_law_12 53 rfl) (by omega) (by omega) rfl ?_
  rw [hv1]
  refine gj_aload_n (q := 1101) (gj_dk okL_law_12 54 rfl) rfl rfl ?_
  refine gj_iload_n (q := 1102) (gj_dk okL_law_12 55 rfl) rfl rfl ?_
  refine gj_iconst (q := 1103) (gj_dk okL_law_12 56 rfl) (by decide) rfl ?_
  refine gj_iaddX (q := 1104) (gj_dk okL_law_12 57 rfl) (by omega) rfl ?_
  refine gj_sld (q := 1105) (gj_dk okL_law_12 58 rfl) (by omega) (by omega) rfl ?_
  rw [hv2]
  refine gj_callV (q := 1108) (z := 0) (ci := 9) [jI v1, jI v2] rfl (t_X11_pairs hst v1 v2 e1) (gj_dk okL_law_12 59 rfl) ml_L_133 me_X11_pairs (sh0 hst) rfl ⟨by decide, by decide, rfl, Nat.le_of_ble_eq_true rfl, by omega, by omega⟩ rfl (gj_kI fun x0 S2 M2 h0 => ?_)
  obtain ⟨ex, eS, eM⟩ := h0
  subst ex; subst eM
  subst eS
  refine gj_pop (q := 1109) (gj_dk okL_law_13 0 rfl) rfl rfl ?_
  refine gj_aload_n (q := 1110) (gj_dk okL_law_13 1 rfl) rfl rfl ?_
  refine gj_aload_n (q := 1111) (gj_dk okL_law_13 2 rfl) rfl rfl ?_
  refine gj_iload_n (q := 1112) (gj_dk okL_law_13 3 rfl) rfl rfl ?_
  refine gj_iconst (q := 1113) (gj_dk okL_law_13 4 rfl) (by decide) rfl ?_
  refine gj_iaddX (q := 1114) (gj_dk okL_law_13 5 rfl) (by omega) rfl ?_
  refine gj_sld (q := 1115) (gj_dk okL_law_13 6 rfl) (by omega) (by omega) rfl ?_
  rw [hv1]
  refine gj_aload_n (q := 1116) (gj_dk okL_law_13 7 rfl) rfl rfl ?_
  refine gj_iload_n (q := 1117) (gj_dk okL_law_13 8 rfl) rfl rfl ?_
  refine gj_iconst (q := 1118) (gj_dk okL_law_13 9 rfl) (by decide) rfl ?_
  refine gj_iaddX (q := 1119) (gj_dk okL_law_13 10 rfl) (by omega) rfl ?_
  refine gj_sld (q := 1120) (gj_dk okL_law_13 11 rfl) (by omega) (by omega) rfl ?_
  rw [hv2]
  refine gj_callV (q := 1123) (z := 79) (ci := 10) [jI v1, jI v2] rfl (t_X12_pairs hst v1 v2 e2) (gj_dk okL_law_13 12 rfl) ml_L_136 me_X12_pairs (sh79 hst) rfl ⟨by decide, by decide, rfl, Nat.le_of_ble_eq_true rfl, by omega, by omega⟩ rfl (gj_kI fun x1 S2 M2 h1 => ?_)
  obtain ⟨ex, eS, eM⟩ := h1
  subst ex; subst eM
  subst eS
  refine gj_pop (q := 1124) (gj_dk okL_law_13 13 rfl) rfl rfl ?_
  refine gj_goto (tgt := 1219) (gj_dk okL_law_13 14 rfl) (by decide) ?_
  exact J _ _ _ _ (by omega) (by omega) hst hW
set_option maxHeartbeats 4000000 in
set_option maxRecDepth 20000 in
theorem n_case_29 {S : gj_S} {M : gj_M} {i : Int} {k n : Nat} (hst : gj_Stat S) (hW : g_FK M M) (i0 : 0 ≤ i) (i1 : i + 6 ≤ (gj_n G : Int)) (iN : (gj_n G : Int) ≤ 3072) (hk : k + 255 ≤ 600000) (hn : n + 1275 ≤ 7302249) (J : ∀ (k2 n2 : Nat) (S2 : gj_S) (M2 : gj_M), k2 ≤ k + 255 → n2 ≤ n + 1275 → gj_Stat S2 → g_FK M2 M2 → gj_W G l 1000 600000 7302249 yL_law cL_law 4 (some .boolean) (gj_qI fun x _ _ => 1 = x) k2 n2 1219 [(0, jR (-100)), (1, jR 0), (2, jR 79), (3, jI i)] [] S2 M2) : gj_W G l 1000 600000 7302249 yL_law cL_law 4 (some .boolean) (gj_qI fun x _ _ => 1 = x) k n 1127 [(0, jR (-100)), (1, jR 0), (2, jR 79), (3, jI i)] [] S M := by
  obtain ⟨v1, hv1⟩ : ∃ v, (gj_x G ((i + 1)).toNat).toInt = v := ⟨_, rfl⟩
  obtain ⟨w1, D, U, e1, e2, hU⟩ := x_image (k := v1) hW
  refine gj_aload_n (q := 1128) (gj_dk okL_law_13 15 rfl) rfl rfl ?_
  refine gj_aload_n (q := 1129) (gj_dk okL_law_13 16 rfl) rfl rfl ?_
  refine gj_iload_n (q := 1130) (gj_dk okL_law_13 17 rfl) rfl rfl ?_
  refine gj_iconst (q := 1131) (gj_dk okL_law_13 18 rfl) (by decide) rfl ?_
  refine gj_iaddX (q := 1132) (gj_dk okL_law_13 19 rfl) (by omega) rfl ?_
  refine gj_sld (q := 1133) (gj_dk okL_law_13 20 rfl) (by omega) (by omega) rfl ?_
  rw [hv1]
  refine gj_callV (q := 1136) (z := 0) (ci := 9) [jI v1] rfl (t_X11_image hst v1 e1) (gj_dk okL_law_13 21 rfl) ml_L_137 me_X11_image (sh0 hst) rfl ⟨by decide, by decide, rfl, Nat.le_of_ble_eq_true rfl, by omega, by omega⟩ rfl (gj_kI fun x0 S2 M2 h0 => ?_)
  obtain ⟨-, ex, eS, eM⟩ := h0
  dsimp only at ex eM
  subst ex; subst eM
  subst eS
  refine gj_pop (q := 1137) (gj_dk okL_law_13 22 rfl) rfl rfl ?_
  refine gj_aload_n (q := 1138) (gj_dk okL_law_13 23 rfl) rfl rfl ?_
  refine gj_aload_n (q := 1139) (gj_dk okL_law_13 24 rfl) rfl rfl ?_
  refine gj_iload_n (q := 1140) (gj_dk okL_law_13 25 rfl) rfl rfl ?_
  refine gj_iconst (q := 1141) (gj_dk okL_law_13 26 rfl) (by decide) rfl ?_
  refine gj_iaddX (q := 1142) (gj_dk okL_law_13 27 rfl) (by omega) rfl ?_
  refine gj_sld (q := 1143) (gj_dk okL_law_13 28 rfl) (by omega) (by omega) rfl ?_
  rw [hv1]
  refine gj_callV (q := 1146) (z := 79) (ci := 10) [jI v1] rfl (t_X12_image hst v1 e2) (gj_dk okL_law_13 29 rfl) ml_L_140 me_X12_image (sh79 hst) rfl ⟨by decide, by decide, rfl, Nat.le_of_ble_eq_true rfl, by omega, by omega⟩ rfl (gj_kI fun x1 S2 M2 h1 => ?_)
  obtain ⟨-, ex, eS, eM⟩ := h1
  dsimp only at ex eM
  subst ex; subst eM
  subst eS
  refine gj_pop (q := 1147) (gj_dk okL_law_13 30 rfl) rfl rfl ?_
  refine gj_goto (tgt := 1219) (gj_dk okL_law_13 31 rfl) (by decide) ?_
  exact J _ _ _ _ (by omega) (by omega) hst hU
set_option maxHeartbeats 4000000 in
set_option maxRecDepth 20000 in
theorem n_case_30 {S : gj_S} {M : gj_M} {i : Int} {k n : Nat} (hst : gj_Stat S) (hW : g_FK M M) (i0 : 0 ≤ i) (i1 : i + 6 ≤ (gj_n G : Int)) (iN : (gj_n G : Int) ≤ 3072) (hk : k + 255 ≤ 600000) (hn : n + 1275 ≤ 7302249) (J : ∀ (k2 n2 : Nat) (S2 : gj_S) (M2 : gj_M), k2 ≤ k + 255 → n2 ≤ n + 1275 → gj_Stat S2 → g_FK M2 M2 → gj_W G l 1000 600000 7302249 yL_law cL_law 4 (some .boolean) (gj_qI fun x _ _ => 1 = x) k2 n2 1219 [(0, jR (-100)), (1, jR 0), (2, jR 79), (3, jI i)] [] S2 M2) : gj_W G l 1000 600000 7302249 yL_law cL_law 4 (some .boolean) (gj_qI fun x _ _ => 1 = x) k n 1150 [(0, jR (-100)), (1, jR 0), (2, jR 79), (3, jI i)] [] S M := by
  obtain ⟨v1, hv1⟩ : ∃ v, (gj_x G ((i + 1)).toNat).toInt = v := ⟨_, rfl⟩
  obtain ⟨w1, D, U, e1, e2, hU⟩ := x_on (k := v1) hW
  refine gj_aload_n (q := 1151) (gj_dk okL_law_13 32 rfl) rfl rfl ?_
  refine gj_aload_n (q := 1152) (gj_dk okL_law_13 33 rfl) rfl rfl ?_
  refine gj_iload_n (q := 1153) (gj_dk okL_law_13 34 rfl) rfl rfl ?_
  refine gj_iconst (q := 1154) (gj_dk okL_law_13 35 rfl) (by decide) rfl ?_
  refine gj_iaddX (q := 1155) (gj_dk okL_law_13 36 rfl) (by omega) rfl ?_
  refine gj_sld (q := 1156) (gj_dk okL_law_13 37 rfl) (by omega) (by omega) rfl ?_
  rw [hv1]
  refine gj_callV (q := 1159) (z := 0) (ci := 9) [jI v1] rfl (t_X11_on hst v1 e1) (gj_dk okL_law_13 38 rfl) ml_L_141 me_X11_on (sh0 hst) rfl ⟨by decide, by decide, rfl, Nat.le_of_ble_eq_true rfl, by omega, by omega⟩ rfl (gj_kI fun x0 S2 M2 h0 => ?_)
  obtain ⟨-, ex, eS, eM⟩ := h0
  dsimp only at ex eM
  subst ex; subst eM
  subst eS
  refine gj_pop (q := 1160) (gj_dk okL_law_13 39 rfl) rfl rfl ?_
  refine gj_aload_n (q := 1161) (gj_dk okL_law_13 40 rfl) rfl rfl ?_
  refine gj_aload_n (q := 1162) (gj_dk okL_law_13 41 rfl) rfl rfl ?_
  refine gj_iload_n (q := 1163) (gj_dk okL_law_13 42 rfl) rfl rfl ?_
  refine gj_iconst (q := 1164) (gj_dk okL_law_13 43 rfl) (by decide) rfl ?_
  refine gj_iaddX (q := 1165) (gj_dk okL_law_13 44 rfl) (by omega) rfl ?_
  refine gj_sld (q := 1166) (gj_dk okL_law_13 45 rfl) (by omega) (by omega) rfl ?_
  rw [hv1]
  refine gj_callV (q := 1169) (z := 79) (ci := 10) [jI v1] rfl (t_X12_on hst v1 e2) (gj_dk okL_law_13 46 rfl) ml_L_144 me_X12_on (sh79 hst) rfl ⟨by decide, by decide, rfl, Nat.le_of_ble_eq_true rfl, by omega, by omega⟩ rfl (gj_kI fun x1 S2 M2 h1 => ?_)
  obtain ⟨-, ex, eS, eM⟩ := h1
  dsimp only at ex eM
  subst ex; subst eM
  subst eS
  refine gj_pop (q := 1170) (gj_dk okL_law_13 47 rfl) rfl rfl ?_
  refine gj_goto (tgt := 1219) (gj_dk okL_law_13 48 rfl) (by decide) ?_
  exact J _ _ _ _ (by omega) (by omega) hst hU
set_option maxHeartbeats 4000000 in
set_option maxRecDepth 20000 in
theorem n_case_31 {S : gj_S} {M : gj_M} {i : Int} {k n : Nat} (hst : gj_Stat S) (hW : g_FK M M) (i0 : 0 ≤ i) (i1 : i + 6 ≤ (gj_n G : Int)) (iN : (gj_n G : Int) ≤ 3072) (hk : k + 255 ≤ 600000) (hn : n + 1275 ≤ 7302249) (J : ∀ (k2 n2 : Nat) (S2 : gj_S) (M2 : gj_M), k2 ≤ k + 255 → n2 ≤ n + 1275 → gj_Stat S2 → g_FK M2 M2 → gj_W G l 1000 600000 7302249 yL_law cL_law 4 (some .boolean) (gj_qI fun x _ _ => 1 = x) k2 n2 1219 [(0, jR (-100)), (1, jR 0), (2, jR 79), (3, jI i)] [] S2 M2) : gj_W G l 1000 600000 7302249 yL_law cL_law 4 (some .boolean) (gj_qI fun x _ _ => 1 = x) k n 1173 [(0, jR (-100)), (1, jR 0), (2, jR 79), (3, jI i)] [] S M := by
  obtain ⟨v1, hv1⟩ : ∃ v, (gj_x G ((i + 1)).toNat).toInt = v := ⟨_, rfl⟩
  obtain ⟨w1, e1, e2⟩ := x_status (a := v1) hW
  refine gj_aload_n (q := 1174) (gj_dk okL_law_13 49 rfl) rfl rfl ?_
  refine gj_aload_n (q := 1175) (gj_dk okL_law_13 50 rfl) rfl rfl ?_
  refine gj_iload_n (q := 1176) (gj_dk okL_law_13 51 rfl) rfl rfl ?_
  refine gj_iconst (q := 1177) (gj_dk okL_law_13 52 rfl) (by decide) rfl ?_
  refine gj_iaddX (q := 1178) (gj_dk okL_law_13 53 rfl) (by omega) rfl ?_
  refine gj_sld (q := 1179) (gj_dk okL_law_13 54 rfl) (by omega) (by omega) rfl ?_
  rw [hv1]
  refine gj_callV (q := 1182) (z := 0) (ci := 9) [jI v1] rfl (t_X11_status hst v1 e1) (gj_dk okL_law_13 55 rfl) ml_L_145 me_X11_status (sh0 hst) rfl ⟨by decide, by decide, rfl, Nat.le_of_ble_eq_true rfl, by omega, by omega⟩ rfl (gj_kI fun x0 S2 M2 h0 => ?_)
  obtain ⟨ex, eS, eM⟩ := h0
  subst ex; subst eM
  subst eS
  refine gj_aload_n (q := 1183) (gj_dk okL_law_13 56 rfl) rfl rfl ?_
  refine gj_aload_n (q := 1184) (gj_dk okL_law_13 57 rfl) rfl rfl ?_
  refine gj_iload_n (q := 1185) (gj_dk okL_law_13 58 rfl) rfl rfl ?_
  refine gj_iconst (q := 1186) (gj_dk okL_law_13 59 rfl) (by decide) rfl ?_
  refine gj_iaddX (q := 1187) (gj_dk okL_law_14 0 rfl) (by omega) rfl ?_
  refine gj_sld (q := 1188) (gj_dk okL_law_14 1 rfl) (by omega) (by omega) rfl ?_
  rw [hv1]
  refine gj_callV (q := 1191) (z := 79) (ci := 10) [jI v1] rfl (t_X12_status hst v1 e2) (gj_dk okL_law_14 2 rfl) ml_L_148 me_X12_status (sh79 hst) rfl ⟨by decide, by decide, rfl, Nat.le_of_ble_eq_true rfl, by omega, by omega⟩ rfl (gj_kI fun x1 S2 M2 h1 => ?_)
  obtain ⟨ex, eS, eM⟩ := h1
  subst ex; subst eM
  subst eS
  refine gj_icmp_eq (q := 1194) (tgt := 1219) (gj_dk okL_law_14 3 rfl) (by decide) rfl (fun _ => ?_) (fun c => absurd rfl c)
  exact J _ _ _ _ (by omega) (by omega) hst hW
set_option maxHeartbeats 4000000 in
set_option maxRecDepth 20000 in
theorem n_case_32 {S : gj_S} {M : gj_M} {i : Int} {k n : Nat} (hst : gj_Stat S) (hW : g_FK M M) (i0 : 0 ≤ i) (i1 : i + 6 ≤ (gj_n G : Int)) (iN : (gj_n G : Int) ≤ 3072) (hk : k + 255 ≤ 600000) (hn : n + 1275 ≤ 7302249) (J : ∀ (k2 n2 : Nat) (S2 : gj_S) (M2 : gj_M), k2 ≤ k + 255 → n2 ≤ n + 1275 → gj_Stat S2 → g_FK M2 M2 → gj_W G l 1000 600000 7302249 yL_law cL_law 4 (some .boolean) (gj_qI fun x _ _ => 1 = x) k2 n2 1219 [(0, jR (-100)), (1, jR 0), (2, jR 79), (3, jI i)] [] S2 M2) : gj_W G l 1000 600000 7302249 yL_law cL_law 4 (some .boolean) (gj_qI fun x _ _ => 1 = x) k n 1196 [(0, jR (-100)), (1, jR 0), (2, jR 79), (3, jI i)] [] S M := by
  obtain ⟨v1, hv1⟩ : ∃ v, (gj_x G ((i + 1)).toNat).toInt = v := ⟨_, rfl⟩
  obtain ⟨w1, e1⟩ : ∃ v, f_X11_count v1 M = v := ⟨_, rfl⟩
  have e2 := x_count (a := v1) hW
  rw [e1] at e2
  refine gj_aload_n (q := 1197) (gj_dk okL_law_14 6 rfl) rfl rfl ?_
  refine gj_aload_n (q := 1198) (gj_dk okL_law_14 7 rfl) rfl rfl ?_
  refine gj_iload_n (q := 1199) (gj_dk okL_law_14 8 rfl) rfl rfl ?_
  refine gj_iconst (q := 1200) (gj_dk okL_law_14 9 rfl) (by decide) rfl ?_
  refine gj_iaddX (q := 1201) (gj_dk okL_law_14 10 rfl) (by omega) rfl ?_
  refine gj_sld (q := 1202) (gj_dk okL_law_14 11 rfl) (by omega) (by omega) rfl ?_
  rw [hv1]
  refine gj_callV (q := 1205) (z := 0) (ci := 9) [jI v1] rfl (t_X11_count hst v1 e1) (gj_dk okL_law_14 12 rfl) ml_L_149 me_X11_count (sh0 hst) rfl ⟨by decide, by decide, rfl, Nat.le_of_ble_eq_true rfl, by omega, by omega⟩ rfl (gj_kI fun x0 S2 M2 h0 => ?_)
  obtain ⟨ex, eS, eM⟩ := h0
  subst ex; subst eM
  subst eS
  refine gj_pop (q := 1206) (gj_dk okL_law_14 13 rfl) rfl rfl ?_
  refine gj_aload_n (q := 1207) (gj_dk okL_law_14 14 rfl) rfl rfl ?_
  refine gj_aload_n (q := 1208) (gj_dk okL_law_14 15 rfl) rfl rfl ?_
  refine gj_iload_n (q := 1209) (gj_dk okL_law_14 16 rfl) rfl rfl ?_
  refine gj_iconst (q := 1210) (gj_dk okL_law_14 17 rfl) (by decide) rfl ?_
  refine gj_iaddX (q := 1211) (gj_dk okL_law_14 18 rfl) (by omega) rfl ?_
  refine gj_sld (q := 1212) (gj_dk okL_law_14 19 rfl) (by omega) (by omega) rfl ?_
  rw [hv1]
  refine gj_callV (q := 1215) (z := 79) (ci := 10) [jI v1] rfl (t_X12_count hst v1 e2) (gj_dk okL_law_14 20 rfl) ml_L_152 me_X12_count (sh79 hst) rfl ⟨by decide, by decide, rfl, Nat.le_of_ble_eq_true rfl, by omega, by omega⟩ rfl (gj_kI fun x1 S2 M2 h1 => ?_)
  obtain ⟨ex, eS, eM⟩ := h1
  subst ex; subst eM
  subst eS
  refine gj_pop (q := 1216) (gj_dk okL_law_14 21 rfl) rfl rfl ?_
  refine gj_goto (tgt := 1219) (gj_dk okL_law_14 22 rfl) (by decide) ?_
  exact J _ _ _ _ (by omega) (by omega) hst hW
set_option maxHeartbeats 4000000 in
set_option maxRecDepth 20000 in
theorem n_loop (iN : (gj_n G : Int) ≤ 3072) : ∀ (m : Nat) (i : Int) (k n : Nat) (S : gj_S) (M : gj_M), 0 ≤ i → i ≤ 4000 → (gj_n G : Int) - i < 6 * m → k + 255 * m ≤ 600000 → n + 1275 * m ≤ 7302249 → gj_Stat S → g_FK M M → gj_W G l 1000 600000 7302249 yL_law cL_law 4 (some .boolean) (gj_qI fun x _ _ => 1 = x) k n 18 [(0, jR (-100)), (1, jR 0), (2, jR 79), (3, jI i)] [] S M
  | m, i, k, n, S, M, i0, i4, im, hk, hn, hst, hW => by
    refine gj_iload_n (q := 19) (gj_dk okL_law_0 10 rfl) rfl rfl ?_
    refine gj_aload_n (q := 20) (gj_dk okL_law_0 11 rfl) rfl rfl ?_
    refine gj_slen (q := 21) (gj_dk okL_law_0 12 rfl) rfl ?_
    refine gj_bipush (q := 23) (gj_dk okL_law_0 13 rfl) (by decide) rfl rfl ?_
    refine gj_isubX (q := 24) (gj_dk okL_law_0 14 rfl) (by omega) rfl ?_
    refine gj_icmp_gt (q := 27) (tgt := 1225) (gj_dk okL_law_0 15 rfl) (by decide) rfl (fun _ => ?_) (fun c0 => ?_)
    · refine gj_iconst (q := 1226) (gj_dk okL_law_14 25 rfl) (by decide) rfl ?_
      exact gj_zret (gj_dk okL_law_14 26 rfl) rfl (Or.inr rfl) ⟨_, rfl, rfl⟩
    · obtain ⟨m2, em⟩ : ∃ m2, m = m2 + 1 := ⟨m - 1, by omega⟩
      have J : ∀ (k2 n2 : Nat) (S2 : gj_S) (M2 : gj_M), k2 ≤ k + 255 → n2 ≤ n + 1275 → gj_Stat S2 → g_FK M2 M2 → gj_W G l 1000 600000 7302249 yL_law cL_law 4 (some .boolean) (gj_qI fun x _ _ => 1 = x) k2 n2 1219 [(0, jR (-100)), (1, jR 0), (2, jR 79), (3, jI i)] [] S2 M2 := by
        intro k2 n2 S2 M2 a1 a2 a3 a4
        refine gj_iinc (q := 1222) (v := i + 6) (gj_dk okL_law_14 23 rfl) rfl (by decide) (gj_wle (by omega) (by omega)) rfl ?_
        refine gj_goto (tgt := 18) (gj_dk okL_law_14 24 rfl) (by decide) ?_
        refine gj_sub [(0, jR (-100)), (1, jR 0), (2, jR 79), (3, jI (i + 6))] ⟨rfl, rfl, rfl, rfl, trivial⟩ ?_
        exact n_loop iN m2 (i + 6) k2 n2 S2 M2 (by omega) (by omega) (by omega) (by omega) (by omega) a3 a4
      refine gj_aload_n (q := 28) (gj_dk okL_law_0 16 rfl) rfl rfl ?_
      refine gj_iload_n (q := 29) (gj_dk okL_law_0 17 rfl) rfl rfl ?_
      refine gj_sld (q := 30) (gj_dk okL_law_0 18 rfl) (by omega) (by omega) rfl ?_
      refine gj_bipush (q := 32) (gj_dk okL_law_0 19 rfl) (by decide) rfl rfl ?_
      refine gj_iand (q := 33) (gj_dk okL_law_0 20 rfl) rfl ?_
      generalize gj_and (gj_x G i.toNat).toInt 63 = v
      by_cases c0 : v = 0
      · refine gj_tabIn (tgt := 180) (off := 147) 0 (gj_dk okL_law_0 21 rfl) c0 ⟨by decide, by decide, rfl⟩ (by decide) ?_
        exact n_case_0 hst hW i0 (by omega) iN (by omega) (by omega) J
      by_cases c1 : v = 1
      · refine gj_tabIn (tgt := 243) (off := 210) 1 (gj_dk okL_law_0 21 rfl) c1 ⟨by decide, by decide, rfl⟩ (by decide) ?_
        exact n_case_1 hst hW i0 (by omega) iN (by omega) (by omega) J
      by_cases c2 : v = 2
      · refine gj_tabIn (tgt := 266) (off := 233) 2 (gj_dk okL_law_0 21 rfl) c2 ⟨by decide, by decide, rfl⟩ (by decide) ?_
        exact n_case_2 hst hW i0 (by omega) iN (by omega) (by omega) J
      by_cases c3 : v = 3
      · refine gj_tabIn (tgt := 279) (off := 246) 3 (gj_dk okL_law_0 21 rfl) c3 ⟨by decide, by decide, rfl⟩ (by decide) ?_
        exact n_case_3 hst hW i0 (by omega) iN (by omega) (by omega) J
      by_cases c4 : v = 4
      · refine gj_tabIn (tgt := 292) (off := 259) 4 (gj_dk okL_law_0 21 rfl) c4 ⟨by decide, by decide, rfl⟩ (by decide) ?_
        exact n_case_4 hst hW i0 (by omega) iN (by omega) (by omega) J
      by_cases c5 : v = 5
      · refine gj_tabIn (tgt := 325) (off := 292) 5 (gj_dk okL_law_0 21 rfl) c5 ⟨by decide, by decide, rfl⟩ (by decide) ?_
        exact n_case_5 hst hW i0 (by omega) iN (by omega) (by omega) J
      by_cases c6 : v = 6
      · refine gj_tabIn (tgt := 348) (off := 315) 6 (gj_dk okL_law_0 21 rfl) c6 ⟨by decide, by decide, rfl⟩ (by decide) ?_
        exact n_case_6 hst hW i0 (by omega) iN (by omega) (by omega) J
      by_cases c7 : v = 7
      · refine gj_tabIn (tgt := 391) (off := 358) 7 (gj_dk okL_law_0 21 rfl) c7 ⟨by decide, by decide, rfl⟩ (by decide) ?_
        exact n_case_7 hst hW i0 (by omega) iN (by omega) (by omega) J
      by_cases c8 : v = 8
      · refine gj_tabIn (tgt := 434) (off := 401) 8 (gj_dk okL_law_0 21 rfl) c8 ⟨by decide, by decide, rfl⟩ (by decide) ?_
        exact n_case_8 hst hW i0 (by omega) iN (by omega) (by omega) J
      by_cases c9 : v = 9
      · refine gj_tabIn (tgt := 477) (off := 444) 9 (gj_dk okL_law_0 21 rfl) c9 ⟨by decide, by decide, rfl⟩ (by decide) ?_
        exact n_case_9 hst hW i0 (by omega) iN (by omega) (by omega) J
      by_cases c10 : v = 10
      · refine gj_tabIn (tgt := 510) (off := 477) 10 (gj_dk okL_law_0 21 rfl) c10 ⟨by decide, by decide, rfl⟩ (by decide) ?_
        exact n_case_10 hst hW i0 (by omega) iN (by omega) (by omega) J
      by_cases c11 : v = 11
      · refine gj_tabIn (tgt := 553) (off := 520) 11 (gj_dk okL_law_0 21 rfl) c11 ⟨by decide, by decide, rfl⟩ (by decide) ?_
        exact n_case_11 hst hW i0 (by omega) iN (by omega) (by omega) J
      by_cases c12 : v = 12
      · refine gj_tabIn (tgt := 596) (off := 563) 12 (gj_dk okL_law_0 21 rfl) c12 ⟨by decide, by decide, rfl⟩ (by decide) ?_
        exact n_case_12 hst hW i0 (by omega) iN (by omega) (by omega) J
      by_cases c13 : v = 13
      · refine gj_tabIn (tgt := 639) (off := 606) 13 (gj_dk okL_law_0 21 rfl) c13 ⟨by decide, by decide, rfl⟩ (by decide) ?_
        exact n_case_13 hst hW i0 (by omega) iN (by omega) (by omega) J
      by_cases c14 : v = 14
      · refine gj_tabIn (tgt := 672) (off := 639) 14 (gj_dk okL_law_0 21 rfl) c14 ⟨by decide, by decide, rfl⟩ (by decide) ?_
        exact n_case_14 hst hW i0 (by omega) iN (by omega) (by omega) J
      by_cases c15 : v = 15
      · refine gj_tabIn (tgt := 725) (off := 692) 15 (gj_dk okL_law_0 21 rfl) c15 ⟨by decide, by decide, rfl⟩ (by decide) ?_
        exact n_case_15 hst hW i0 (by omega) iN (by omega) (by omega) J
      by_cases c16 : v = 16
      · refine gj_tabIn (tgt := 758) (off := 725) 16 (gj_dk okL_law_0 21 rfl) c16 ⟨by decide, by decide, rfl⟩ (by decide) ?_
        exact n_case_16 hst hW i0 (by omega) iN (by omega) (by omega) J
      by_cases c17 : v = 17
      · refine gj_tabIn (tgt := 801) (off := 768) 17 (gj_dk okL_law_0 21 rfl) c17 ⟨by decide, by decide, rfl⟩ (by decide) ?_
        exact n_case_17 hst hW i0 (by omega) iN (by omega) (by omega) J
      by_cases c18 : v = 18
      · refine gj_tabIn (tgt := 824) (off := 791) 18 (gj_dk okL_law_0 21 rfl) c18 ⟨by decide, by decide, rfl⟩ (by decide) ?_
        exact n_case_18 hst hW i0 (by omega) iN (by omega) (by omega) J
      by_cases c19 : v = 19
      · refine gj_tabIn (tgt := 847) (off := 814) 19 (gj_dk okL_law_0 21 rfl) c19 ⟨by decide, by decide, rfl⟩ (by decide) ?_
        exact n_case_19 hst hW i0 (by omega) iN (by omega) (by omega) J
      by_cases c20 : v = 20
      · refine gj_tabIn (tgt := 880) (off := 847) 20 (gj_dk okL_law_0 21 rfl) c20 ⟨by decide, by decide, rfl⟩ (by decide) ?_
        exact n_case_20 hst hW i0 (by omega) iN (by omega) (by omega) J
      by_cases c21 : v = 21
      · refine gj_tabIn (tgt := 903) (off := 870) 21 (gj_dk okL_law_0 21 rfl) c21 ⟨by decide, by decide, rfl⟩ (by decide) ?_
        exact n_case_21 hst hW i0 (by omega) iN (by omega) (by omega) J
      by_cases c22 : v = 22
      · refine gj_tabIn (tgt := 936) (off := 903) 22 (gj_dk okL_law_0 21 rfl) c22 ⟨by decide, by decide, rfl⟩ (by decide) ?_
        exact n_case_22 hst hW i0 (by omega) iN (by omega) (by omega) J
      by_cases c23 : v = 23
      · refine gj_tabIn (tgt := 959) (off := 926) 23 (gj_dk okL_law_0 21 rfl) c23 ⟨by decide, by decide, rfl⟩ (by decide) ?_
        exact n_case_23 hst hW i0 (by omega) iN (by omega) (by omega) J
      by_cases c24 : v = 24
      · refine gj_tabIn (tgt := 992) (off := 959) 24 (gj_dk okL_law_0 21 rfl) c24 ⟨by decide, by decide, rfl⟩ (by decide) ?_
        exact n_case_24 hst hW i0 (by omega) iN (by omega) (by omega) J
      by_cases c25 : v = 25
      · refine gj_tabIn (tgt := 1015) (off := 982) 25 (gj_dk okL_law_0 21 rfl) c25 ⟨by decide, by decide, rfl⟩ (by decide) ?_
        exact n_case_25 hst hW i0 (by omega) iN (by omega) (by omega) J
      by_cases c26 : v = 26
      · refine gj_tabIn (tgt := 1038) (off := 1005) 26 (gj_dk okL_law_0 21 rfl) c26 ⟨by decide, by decide, rfl⟩ (by decide) ?_
        exact n_case_26 hst hW i0 (by omega) iN (by omega) (by omega) J
      by_cases c27 : v = 27
      · refine gj_tabIn (tgt := 1071) (off := 1038) 27 (gj_dk okL_law_0 21 rfl) c27 ⟨by decide, by decide, rfl⟩ (by decide) ?_
        exact n_case_27 hst hW i0 (by omega) iN (by omega) (by omega) J
      by_cases c28 : v = 28
      · refine gj_tabIn (tgt := 1094) (off := 1061) 28 (gj_dk okL_law_0 21 rfl) c28 ⟨by decide, by decide, rfl⟩ (by decide) ?_
        exact n_case_28 hst hW i0 (by omega) iN (by omega) (by omega) J
      by_cases c29 : v = 29
      · refine gj_tabIn (tgt := 1127) (off := 1094) 29 (gj_dk okL_law_0 21 rfl) c29 ⟨by decide, by decide, rfl⟩ (by decide) ?_
        exact n_case_29 hst hW i0 (by omega) iN (by omega) (by omega) J
      by_cases c30 : v = 30
      · refine gj_tabIn (tgt := 1150) (off := 1117) 30 (gj_dk okL_law_0 21 rfl) c30 ⟨by decide, by decide, rfl⟩ (by decide) ?_
        exact n_case_30 hst hW i0 (by omega) iN (by omega) (by omega) J
      by_cases c31 : v = 31
      · refine gj_tabIn (tgt := 1173) (off := 1140) 31 (gj_dk okL_law_0 21 rfl) c31 ⟨by decide, by decide, rfl⟩ (by decide) ?_
        exact n_case_31 hst hW i0 (by omega) iN (by omega) (by omega) J
      by_cases c32 : v = 32
      · refine gj_tabIn (tgt := 1196) (off := 1163) 32 (gj_dk okL_law_0 21 rfl) c32 ⟨by decide, by decide, rfl⟩ (by decide) ?_
        exact n_case_32 hst hW i0 (by omega) iN (by omega) (by omega) J
      refine gj_tabOut (tgt := 1219) (gj_dk okL_law_0 21 rfl) (by omega) (by decide) ?_
      exact J k n S M (by omega) (by omega) hst hW
set_option maxHeartbeats 8000000 in
set_option maxRecDepth 20000 in
theorem n_law (iN : (gj_n G : Int) ≤ 3072) : gj_W G l 1000 600000 7302249 yL_law cL_law 4 (some .boolean) (gj_qI fun x _ _ => 1 = x) 0 0 0 [(0, jR (-100))] [] n_S0 n_M0 := by
  rw [show n_M0 = k_mF [] false from by funext z i; unfold n_M0 k_mF; rw [if_neg (by simp)]]
  have hp0 : k_Pt 0 [] n_S0 := ⟨rfl, fun z h1 h2 => absurd h2 (by omega), fun z i h1 h2 => absurd h2 (by omega)⟩
  refine gj_new (q := 3) (ci := 9) (gj_dk okL_law_0 0 rfl) rfl cl_L_7 ins_X11 ini_X11 (by decide) (Nat.le_of_ble_eq_true rfl) (Nat.le_of_ble_eq_true rfl) rfl ?_
  refine k_made hp0 [(0, 0), (0, 1), (0, 2), (0, 3), (0, 4), (0, 5), (0, 6), (0, 7), (0, 8), (0, 9), (0, 10), (0, 11)] (by decide) (by decide) (by decide) (by decide) (by decide) (by decide) (fun S1 hp1 => ?_)
  replace hp1 : k_Pt 1 [(0, 0), (0, 1), (0, 2), (0, 3), (0, 4), (0, 5), (0, 6), (0, 7), (0, 8), (0, 9), (0, 10), (0, 11)] S1 := hp1
  refine gj_dup (q := 4) (gj_dk okL_law_0 1 rfl) rfl rfl ?_
  refine gj_callI (q := 7) [] rfl (k_X11_init_0 hp1) (gj_dk okL_law_0 2 rfl) ml_L_9 me_X11_init (by decide) (gj_nm rfl) rfl (gj_kV fun S2 M2 h2 => ?_)
  obtain ⟨hp2, eM⟩ := h2; subst eM
  refine gj_astore_n (q := 8) (gj_dk okL_law_0 3 rfl) (by decide) rfl ?_
  refine gj_new (q := 11) (ci := 10) (gj_dk okL_law_0 4 rfl) rfl cl_L_10 ins_X12 ini_X12 (by decide) (Nat.le_of_ble_eq_true rfl) (Nat.le_of_ble_eq_true rfl) rfl ?_
  refine k_made hp2 [(79, 0), (79, 1), (79, 7), (79, 8), (79, 9), (79, 10), (79, 11), (79, 12), (79, 13), (79, 14), (79, 15), (79, 16), (79, 17), (79, 19), (79, 20), (79, 21), (79, 22), (79, 23), (79, 24), (79, 25), (79, 26), (79, 31), (79, 32), (79, 33), (79, 34), (79, 39), (79, 40), (79, 41), (79, 42), (79, 43), (79, 44), (79, 45), (79, 47), (79, 48), (79, 49), (79, 50), (79, 51), (79, 52), (79, 53)] (by decide) (by decide) (by decide) (by decide) (by decide) (by decide) (fun S3 hp3 => ?_)
  replace hp3 : k_Pt 80 [(79, 0), (79, 1), (79, 7), (79, 8), (79, 9), (79, 10), (79, 11), (79, 12), (79, 13), (79, 14), (79, 15), (79, 16), (79, 17), (79, 19), (79, 20), (79, 21), (79, 22), (79, 23), (79, 24), (79, 25), (79, 26), (79, 31), (79, 32), (79, 33), (79, 34), (79, 39), (79, 40), (79, 41), (79, 42), (79, 43), (79, 44), (79, 45), (79, 47), (79, 48), (79, 49), (79, 50), (79, 51), (79, 52), (79, 53)] S3 := hp3
  refine gj_dup (q := 12) (gj_dk okL_law_0 5 rfl) rfl rfl ?_
  refine gj_callI (q := 15) [] rfl (k_X12_init_79 hp3) (gj_dk okL_law_0 6 rfl) ml_L_12 me_X12_init (by decide) (gj_nm rfl) rfl (gj_kV fun S M h2 => ?_)
  obtain ⟨hp, eM⟩ := h2; subst eM; have hst := k_Stat hp
  refine gj_astore_n (q := 16) (gj_dk okL_law_0 7 rfl) (by decide) rfl ?_
  clear hp0 hp1 hp2 hp3
  refine gj_sub [(0, jR ((-100))), (1, jR 0), (2, jR 79)] ⟨rfl, rfl, rfl, trivial⟩ ?_
  change gj_W G l 1000 600000 7302249 yL_law cL_law 4 (some .boolean) (gj_qI fun x _ _ => 1 = x) 136 6146 16 [(0, jR ((-100))), (1, jR 0), (2, jR 79)] [] S gj_m0
  refine gj_iconst (q := 17) (gj_dk okL_law_0 8 rfl) (by decide) rfl ?_
  refine gj_istore_n (q := 18) (gj_dk okL_law_0 9 rfl) (by decide) rfl ?_
  refine gj_sub [(0, jR (-100)), (1, jR 0), (2, jR 79), (3, jI 0)] ⟨rfl, rfl, rfl, rfl, trivial⟩ ?_
  exact n_loop iN 513 0 136 6146 S gj_m0 (by decide) (by decide) (by omega) (by decide) (by decide) hst x_new
end GJLL
