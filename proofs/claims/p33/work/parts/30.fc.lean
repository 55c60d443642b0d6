/-! THE METHODS AS PURE FUNCTIONS: what F is made of -/
def gj_it {T : Type} (z : T) (B : T → T) : Nat → T
  | 0 => z
  | n + 1 => B (gj_it z B n)
def gj_fu : Nat := 2048
def gj_chk (c : Prop) [Decidable c] {A : Type} (x : Option A) : Option A := if c then x else none
def gj_let {T : Type} (A : gj_M) (f : gj_M → T) : T := f A
def gj_letI {T : Type} (v : Int) (f : Int → T) : T := f v
def gj_let2 {T : Type} (p : Int × gj_M) (f : Int → gj_M → T) : T := f p.1 p.2
def gj_bnd {A B : Type} (x : Option A) (f : A → Option B) : Option B := match x with
  | none => none
  | some a => f a
def gj_bnd2 {A A' B : Type} (x : Option (A × A')) (f : A → A' → Option B) : Option B := match x with
  | none => none
  | some a => f a.1 a.2
def gj_bnd3 {A A' A'' B : Type} (x : Option (A × (A' × A''))) (f : A → A' → A'' → Option B) : Option B := match x with
  | none => none
  | some a => f a.1 a.2.1 a.2.2
theorem gj_ckd {c : Prop} [Decidable c] {A : Type} {x : Option A} {r : A} (h : gj_chk c x = some r) : c ∧ x = some r := by
  unfold gj_chk at h
  split at h
  · exact ⟨by assumption, h⟩
  · cases h
theorem gj_ift {c : Prop} [Decidable c] {T : Type} {x y r : T} (hc : c) (h : (if c then x else y) = r) : x = r := by rw [if_pos hc] at h; exact h
theorem gj_iff {c : Prop} [Decidable c] {T : Type} {x y r : T} (hc : ¬ c) (h : (if c then x else y) = r) : y = r := by rw [if_neg hc] at h; exact h
theorem gj_bndd {A B : Type} {x : Option A} {f : A → Option B} {r : B} (h : gj_bnd x f = some r) : ∃ a, x = some a ∧ f a = some r := by
  cases x with
  | none => cases h
  | some a => exact ⟨a, rfl, h⟩
theorem gj_bnd2d {A A' B : Type} {x : Option (A × A')} {f : A → A' → Option B} {r : B} (h : gj_bnd2 x f = some r) : ∃ a a', x = some (a, a') ∧ f a a' = some r := by
  cases x with
  | none => cases h
  | some a => exact ⟨a.1, a.2, rfl, h⟩
theorem gj_bnd3d {A A' A'' B : Type} {x : Option (A × (A' × A''))} {f : A → A' → A'' → Option B} {r : B} (h : gj_bnd3 x f = some r) : ∃ a a' a'', x = some (a, (a', a'')) ∧ f a a' a'' = some r := by
  cases x with
  | none => cases h
  | some a => exact ⟨a.1, a.2.1, a.2.2, rfl, h⟩
theorem gj_cm_lt {a b : Int} : gj_cmp a b < 0 ↔ a < b := by unfold gj_cmp; split <;> (try split) <;> omega
theorem gj_cm_gt {a b : Int} : 0 < gj_cmp a b ↔ b < a := by unfold gj_cmp; split <;> (try split) <;> omega
theorem gj_cm_le {a b : Int} : gj_cmp a b ≤ 0 ↔ a ≤ b := by unfold gj_cmp; split <;> (try split) <;> omega
theorem gj_cm_ge {a b : Int} : 0 ≤ gj_cmp a b ↔ b ≤ a := by unfold gj_cmp; split <;> (try split) <;> omega
theorem gj_cm_eq {a b : Int} : gj_cmp a b = 0 ↔ a = b := by unfold gj_cmp; split <;> (try split) <;> omega
theorem gj_cm_ltn {a b : Int} : ¬ (gj_cmp a b < 0) ↔ ¬ (a < b) := not_congr gj_cm_lt
theorem gj_cm_gtn {a b : Int} : ¬ (0 < gj_cmp a b) ↔ ¬ (b < a) := not_congr gj_cm_gt
theorem gj_cm_len {a b : Int} : ¬ (gj_cmp a b ≤ 0) ↔ ¬ (a ≤ b) := not_congr gj_cm_le
theorem gj_cm_gen {a b : Int} : ¬ (0 ≤ gj_cmp a b) ↔ ¬ (b ≤ a) := not_congr gj_cm_ge
theorem gj_cm_eqn {a b : Int} : ¬ (gj_cmp a b = 0) ↔ ¬ (a = b) := not_congr gj_cm_eq
theorem gj_cm_ne {a b : Int} : ¬ (gj_cmp a b = 0) ↔ ¬ (a = b) := not_congr gj_cm_eq
theorem gj_cm_nen {a b : Int} : gj_cmp a b = 0 ↔ a = b := gj_cm_eq
theorem rf107 {S : gj_S} (hst : gj_Stat S) {w : Int} (h : 0 ≤ w ∧ w < 9) : S.2.2 107 w = -2 - (w.toNat : Int) := by
  rw [hst.2.2 107 w (by decide) (by decide) h.1]
  obtain rfl | rfl | rfl | rfl | rfl | rfl | rfl | rfl | rfl : w = 0 ∨ w = 1 ∨ w = 2 ∨ w = 3 ∨ w = 4 ∨ w = 5 ∨ w = 6 ∨ w = 7 ∨ w = 8 := by omega
  all_goals rfl
def gj_nMc (c : Int) (M : gj_M) : gj_M := fun z b => if z = c then 0 else M z b
theorem gj_Stat.new {S : gj_S} (h : gj_Stat S) {kd : Nat} {len : Int} : gj_Stat (gj_nS S kd len) := by
  obtain ⟨h1, h2, h3⟩ := h
  refine ⟨by show 136 ≤ S.1 + 1; omega, fun z a b => ?_, fun z i a b c => ?_⟩
  · show (if z = S.1 then (kd, len) else S.2.1 z) = _
    rw [if_neg (by omega)]
    exact h2 z a b
  · show (if z = S.1 then -1 else S.2.2 z i) = _
    rw [if_neg (by omega)]
    exact h3 z i a b c
section GJF
variable {G : gj_G} {l : Launch} {d mc ms : Nat} {y : MethodName} {cc : ByteArray} {nL : Nat} {ret : Option FieldType} {Q : Option gj_V → gj_S → gj_M → Prop} {k n pc q : Nat} {ls : List (Nat × gj_V)} {st st' : List gj_V} {S : gj_S} {M : gj_M}
theorem gj_stp {T : Type} {A : gj_M} {f : gj_M → T} {r : T} (hF : gj_let A f = r) (K : ∀ M1, f M1 = r → gj_W G l d mc ms y cc nL ret Q k n pc ls st S M1) : gj_W G l d mc ms y cc nL ret Q k n pc ls st S A := K A hF
theorem gj_stpI {T : Type} {v : Int} {f : Int → T} {r : T} (hF : gj_letI v f = r) (K : ∀ x, f x = r → gj_W G l d mc ms y cc nL ret Q k n pc ls (jI x :: st) S M) : gj_W G l d mc ms y cc nL ret Q k n pc ls (jI v :: st) S M := K v hF
theorem gj_stpL {T : Type} {v : Int} {f : Int → T} {r : T} (hF : gj_letI v f = r) (K : ∀ x, f x = r → gj_W G l d mc ms y cc nL ret Q k n pc ls (jL x :: st) S M) : gj_W G l d mc ms y cc nL ret Q k n pc ls (jL v :: st) S M := K v hF
theorem gj_stpZ {T : Type} {v : Int} {f : Int → T} {r : T} (hb : v = 0 ∨ v = 1) (hF : gj_letI v f = r) (K : ∀ x, (x = 0 ∨ x = 1) → f x = r → gj_W G l d mc ms y cc nL ret Q k n pc ls (jI x :: st) S M) : gj_W G l d mc ms y cc nL ret Q k n pc ls (jI v :: st) S M := K v hb hF
theorem gj_stp2I {T : Type} {p : Int × gj_M} {f : Int → gj_M → T} {r : T} (hF : gj_let2 p f = r) (K : ∀ x m, f x m = r → gj_W G l d mc ms y cc nL ret Q k n pc ls (jI x :: st) S m) : gj_W G l d mc ms y cc nL ret Q k n pc ls (jI p.1 :: st) S p.2 := K _ _ hF
theorem gj_stp2L {T : Type} {p : Int × gj_M} {f : Int → gj_M → T} {r : T} (hF : gj_let2 p f = r) (K : ∀ x m, f x m = r → gj_W G l d mc ms y cc nL ret Q k n pc ls (jL x :: st) S m) : gj_W G l d mc ms y cc nL ret Q k n pc ls (jL p.1 :: st) S p.2 := K _ _ hF
theorem gj_stp2Z {T : Type} {p : Int × gj_M} {f : Int → gj_M → T} {r : T} (hb : p.1 = 0 ∨ p.1 = 1) (hF : gj_let2 p f = r) (K : ∀ x m, (x = 0 ∨ x = 1) → f x m = r → gj_W G l d mc ms y cc nL ret Q k n pc ls (jI x :: st) S m) : gj_W G l d mc ms y cc nL ret Q k n pc ls (jI p.1 :: st) S p.2 := K _ _ hb hF
theorem gj_wid {k' n' : Nat} (hk : k ≤ k') (hn : n ≤ n') (hk2 : k' ≤ mc) (hn2 : n' ≤ ms) (K : gj_W G l d mc ms y cc nL ret Q k' n' pc ls st S M) : gj_W G l d mc ms y cc nL ret Q k n pc ls st S M := by
  intro p e R s m args below meth c H locs lsm Z X hZ hR hlc hl ho h1 h2
  exact W.widen hk hn (K p e R s m args below meth c H locs lsm Z X hZ hR hlc hl ho hk2 hn2)
theorem gj_newC {len c : Int} (hst : gj_Stat S) (hc : S.1 = c) (K : ∀ S' : gj_S, gj_Stat S' → S'.1 = c + 1 → S'.2.1 c = (0, len) → 136 ≤ c → gj_W G l d mc ms y cc nL ret Q k n pc ls (jR c :: st) S' (gj_nMc c M)) : gj_W G l d mc ms y cc nL ret Q k n pc ls (jR S.1 :: st) (gj_nS S 0 len) (gj_nM S M) := by
  subst hc
  have h1 := hst.1
  exact K _ hst.new rfl (if_pos rfl) h1
theorem gj_iaddX {a b : Int} (hd : decode cc pc = .ok (.iadd, 1)) (h : -2147483648 ≤ a + b ∧ a + b < 2147483648) (hq : pc + 1 = q) (K : gj_W G l d mc ms y cc nL ret Q k n q ls (jI (a + b) :: st) S M) : gj_W G l d mc ms y cc nL ret Q k n pc ls (jI b :: jI a :: st) S M := gj_iadd hd hq (by rw [gj_w_id h]; exact K)
theorem gj_isubX {a b : Int} (hd : decode cc pc = .ok (.isub, 1)) (h : -2147483648 ≤ a - b ∧ a - b < 2147483648) (hq : pc + 1 = q) (K : gj_W G l d mc ms y cc nL ret Q k n q ls (jI (a - b) :: st) S M) : gj_W G l d mc ms y cc nL ret Q k n pc ls (jI b :: jI a :: st) S M := gj_isub hd hq (by rw [gj_w_id h]; exact K)
theorem gj_imulX {a b : Int} (hd : decode cc pc = .ok (.imul, 1)) (h : -2147483648 ≤ a * b ∧ a * b < 2147483648) (hq : pc + 1 = q) (K : gj_W G l d mc ms y cc nL ret Q k n q ls (jI (a * b) :: st) S M) : gj_W G l d mc ms y cc nL ret Q k n pc ls (jI b :: jI a :: st) S M := gj_imul hd hq (by rw [gj_w_id h]; exact K)
end GJF

section GJFC
variable {G : gj_G} {l : Launch} {S : gj_S} {M : gj_M}
def f_X9_hasRoomFor (a1 : Int) (M : gj_M) : Int :=
  (if 500 < gj_w ((M 1 1) + a1) then (0) else (1))
set_option maxHeartbeats 4000000 in
set_option maxRecDepth 20000 in
theorem t_X9_hasRoomFor (hst : gj_Stat S) (a1 : Int) {r : Int} (hF : f_X9_hasRoomFor a1 M = r) : gj_C G l 1 0 0 yX9_hasRoomFor cX9_hasRoomFor 2 (some .boolean) [jR 1, jI a1] S M (gj_qI fun x S' M' => (x = 0 ∨ x = 1) ∧ r = x ∧ S = S' ∧ M = M') := by
  refine gj_Cof (by decide +kernel) (Nat.le_of_ble_eq_true rfl) ?_
  change gj_W G l 1 0 0 yX9_hasRoomFor cX9_hasRoomFor 2 (some .boolean) (gj_qI fun x S' M' => (x = 0 ∨ x = 1) ∧ r = x ∧ S = S' ∧ M = M') 0 0 0 [(0, jR 1), (1, jI a1)] [] S M
  unfold f_X9_hasRoomFor at hF
  refine gj_aload_n (q := 1) (gj_dk okX9_hasRoomFor 0 rfl) rfl rfl ?_
  refine gj_gI (q := 4) (j := 1) (gj_dk okX9_hasRoomFor 1 rfl) ff_X9_15 (sh1 hst) (by decide) rfl rfl ?_
  refine gj_iload_n (q := 5) (gj_dk okX9_hasRoomFor 2 rfl) rfl rfl ?_
  refine gj_iadd (q := 6) (gj_dk okX9_hasRoomFor 3 rfl) rfl ?_
  refine gj_aload_n (q := 7) (gj_dk okX9_hasRoomFor 4 rfl) rfl rfl ?_
  refine gj_gR (q := 10) (j := 0) (gj_dk okX9_hasRoomFor 5 rfl) ff_X9_9 (sh1 hst) (by decide) rfl (rf1_0 hst) rfl ?_
  refine gj_alen (q := 11) (gj_dk okX9_hasRoomFor 6 rfl) (sh2 hst) (by decide) rfl ?_
  refine gj_icmp_gt (q := 14) (tgt := 18) (gj_dk okX9_hasRoomFor 7 rfl) (by decide) rfl (fun c11 => ?_) (fun c11 => ?_)
  · -- 18
    replace hF := gj_ift c11 hF
    refine gj_iconst (q := 19) (gj_dk okX9_hasRoomFor 10 rfl) (by decide) rfl ?_
    subst hF
    exact gj_zret (gj_dk okX9_hasRoomFor 11 rfl) rfl (by decide) ⟨_, rfl, (by decide), rfl, rfl, rfl⟩
  · -- 14
    replace hF := gj_iff c11 hF
    refine gj_iconst (q := 15) (gj_dk okX9_hasRoomFor 8 rfl) (by decide) rfl ?_
    refine gj_goto (tgt := 19) (gj_dk okX9_hasRoomFor 9 rfl) (by decide) ?_
    subst hF
    exact gj_zret (gj_dk okX9_hasRoomFor 11 rfl) rfl (by decide) ⟨_, rfl, (by decide), rfl, rfl, rfl⟩
def f_X11_refuse (a1 : Int) (M : gj_M) : Int × gj_M :=
  gj_let (f_put M 78 3 a1 (gj_w ((f_at M 78 3 a1) + 1))) (fun M1 => ((0, M1)))
set_option maxHeartbeats 4000000 in
set_option maxRecDepth 20000 in
theorem t_X11_refuse (hst : gj_Stat S) (a1 : Int) {r : Int × gj_M} (hF : f_X11_refuse a1 M = r) : gj_C G l 2 0 0 yX11_refuse cX11_refuse 2 (some .boolean) [jR 0, jI a1] S M (gj_qI fun x S' M' => (x = 0 ∨ x = 1) ∧ r.1 = x ∧ S = S' ∧ r.2 = M') := by
  refine gj_Cof (by decide +kernel) (Nat.le_of_ble_eq_true rfl) ?_
  change gj_W G l 2 0 0 yX11_refuse cX11_refuse 2 (some .boolean) (gj_qI fun x S' M' => (x = 0 ∨ x = 1) ∧ r.1 = x ∧ S = S' ∧ r.2 = M') 0 0 0 [(0, jR 0), (1, jI a1)] [] S M
  unfold f_X11_refuse at hF
  refine gj_aload_n (q := 1) (gj_dk okX11_refuse 0 rfl) rfl rfl ?_
  refine gj_gR (q := 4) (j := 11) (gj_dk okX11_refuse 1 rfl) ff_X11_84 (sh0 hst) (by decide) rfl (rf0_11 hst) rfl ?_
  refine gj_iload_n (q := 5) (gj_dk okX11_refuse 2 rfl) rfl rfl ?_
  refine gj_aload_n (q := 6) (gj_dk okX11_refuse 3 rfl) rfl rfl ?_
  refine gj_gR (q := 9) (j := 11) (gj_dk okX11_refuse 4 rfl) ff_X11_84 (sh0 hst) (by decide) rfl (rf0_11 hst) rfl ?_
  refine gj_iload_n (q := 10) (gj_dk okX11_refuse 5 rfl) rfl rfl ?_
  refine gj_callS (q := 13) [jR 78, jI a1] rfl (c_X7_at (sh78 hst) (by decide) (by decide) _) (gj_dk okX11_refuse 6 rfl) ml_X11_139 me_X7_at (gj_nm rfl) rfl (gj_kI fun x S2 M2 h => ?_)
  obtain ⟨e, eS, eM⟩ := h; subst eS; subst eM; subst e
  refine gj_iconst (q := 14) (gj_dk okX11_refuse 7 rfl) (by decide) rfl ?_
  refine gj_iadd (q := 15) (gj_dk okX11_refuse 8 rfl) rfl ?_
  refine gj_callS (q := 18) [jR 78, jI a1, jI (gj_w ((f_at M 78 3 a1) + 1))] rfl (c_X7_put (sh78 hst) (by decide) (by decide) _ _) (gj_dk okX11_refuse 9 rfl) ml_X11_333 me_X7_put (gj_nm rfl) rfl (gj_kV fun S2 M2 h => ?_)
  obtain ⟨eS, eM⟩ := h; subst eS; subst eM
  refine gj_stp hF (fun M1 hF => ?_)
  refine gj_iconst (q := 19) (gj_dk okX11_refuse 10 rfl) (by decide) rfl ?_
  subst hF
  exact gj_zret (gj_dk okX11_refuse 11 rfl) rfl (by decide) ⟨_, rfl, (by decide), rfl, rfl, rfl⟩
def J_X9_append_47 (rec3 : Int → Int → gj_M → Option (gj_M)) (l1 l2 : Int) (M : gj_M) : Option (gj_M) :=
  rec3 l1 (gj_w (l2 + (-8))) M
def B_X9_append_3 (rec3 : Int → Int → gj_M → Option (gj_M)) (l1 l2 : Int) (M : gj_M) : Option (gj_M) :=
  (if l2 < 0 then (some (M)) else (if 500 ≤ M 1 1 then (J_X9_append_47 rec3 l1 l2 M) else gj_let (f_put M 2 500 (M 1 1) (gj_and (gj_ushr l1 l2) 255)) (fun M1 => gj_let (gj_up M1 1 1 (gj_w ((M1 1 1) + 1))) (fun M2 => (J_X9_append_47 rec3 l1 l2 M2)))))
def F_X9_append (a1 : Int) (M : gj_M) : Option (gj_M) :=
  (gj_it (fun _ _ _ => none) (B_X9_append_3) gj_fu a1 24 M)
set_option maxHeartbeats 4000000 in
set_option maxRecDepth 20000 in
theorem t_J_X9_append_47 (hst : gj_Stat S) {r : gj_M} {rec3 : Int → Int → gj_M → Option (gj_M)} (hrec3 : ∀ (l1 l2 : Int) (M : gj_M), rec3 l1 l2 M = some r → gj_W G l 2 0 0 yX9_append cX9_append 3 none (gj_qV fun S' M' => S = S' ∧ r = M') 0 0 3 [(0, jR 1), (1, jI l1), (2, jI l2)] [] S M) (l1 l2 : Int) (M : gj_M) (hF : J_X9_append_47 rec3 l1 l2 M = some r) : gj_W G l 2 0 0 yX9_append cX9_append 3 none (gj_qV fun S' M' => S = S' ∧ r = M') 0 0 47 [(0, jR 1), (1, jI l1), (2, jI l2)] [] S M := by
  unfold J_X9_append_47 at hF
  refine gj_iinc (q := 50) (v := gj_w (l2 + (-8))) (gj_dk okX9_append 26 rfl) rfl (by decide) rfl rfl ?_
  refine gj_goto (tgt := 3) (gj_dk okX9_append 27 rfl) (by decide) ?_
  refine gj_sub [(0, jR 1), (1, jI l1), (2, jI (gj_w (l2 + (-8))))] ⟨rfl, rfl, rfl, trivial⟩ ?_
  exact hrec3 l1 (gj_w (l2 + (-8))) M hF
set_option maxHeartbeats 4000000 in
set_option maxRecDepth 20000 in
theorem t_B_X9_append_3 (hst : gj_Stat S) {r : gj_M} {rec3 : Int → Int → gj_M → Option (gj_M)} (hrec3 : ∀ (l1 l2 : Int) (M : gj_M), rec3 l1 l2 M = some r → gj_W G l 2 0 0 yX9_append cX9_append 3 none (gj_qV fun S' M' => S = S' ∧ r = M') 0 0 3 [(0, jR 1), (1, jI l1), (2, jI l2)] [] S M) (l1 l2 : Int) (M : gj_M) (hF : B_X9_append_3 rec3 l1 l2 M = some r) : gj_W G l 2 0 0 yX9_append cX9_append 3 none (gj_qV fun S' M' => S = S' ∧ r = M') 0 0 3 [(0, jR 1), (1, jI l1), (2, jI l2)] [] S M := by
  unfold B_X9_append_3 at hF
  refine gj_iload_n (q := 4) (gj_dk okX9_append 2 rfl) rfl rfl ?_
  refine gj_if_lt (q := 7) (tgt := 53) (gj_dk okX9_append 3 rfl) (by decide) rfl (fun c4 => ?_) (fun c4 => ?_)
  · -- 53
    replace hF := gj_ift c4 hF
    cases hF
    exact gj_vret (gj_dk okX9_append 28 rfl) rfl ⟨rfl, rfl, rfl⟩
  · -- 7
    replace hF := gj_iff c4 hF
    refine gj_aload_n (q := 8) (gj_dk okX9_append 4 rfl) rfl rfl ?_
    refine gj_gI (q := 11) (j := 1) (gj_dk okX9_append 5 rfl) ff_X9_15 (sh1 hst) (by decide) rfl rfl ?_
    refine gj_aload_n (q := 12) (gj_dk okX9_append 6 rfl) rfl rfl ?_
    refine gj_gR (q := 15) (j := 0) (gj_dk okX9_append 7 rfl) ff_X9_9 (sh1 hst) (by decide) rfl (rf1_0 hst) rfl ?_
    refine gj_alen (q := 16) (gj_dk okX9_append 8 rfl) (sh2 hst) (by decide) rfl ?_
    refine gj_icmp_ge (q := 19) (tgt := 47) (gj_dk okX9_append 9 rfl) (by decide) rfl (fun c16 => ?_) (fun c16 => ?_)
    · -- 47
      replace hF := gj_ift c16 hF
      refine gj_sub [(0, jR 1), (1, jI l1), (2, jI l2)] ⟨rfl, rfl, rfl, trivial⟩ ?_
      exact t_J_X9_append_47 hst hrec3 l1 l2 M hF
    · -- 19
      replace hF := gj_iff c16 hF
      refine gj_aload_n (q := 20) (gj_dk okX9_append 10 rfl) rfl rfl ?_
      refine gj_gR (q := 23) (j := 0) (gj_dk okX9_append 11 rfl) ff_X9_9 (sh1 hst) (by decide) rfl (rf1_0 hst) rfl ?_
      refine gj_aload_n (q := 24) (gj_dk okX9_append 12 rfl) rfl rfl ?_
      refine gj_gI (q := 27) (j := 1) (gj_dk okX9_append 13 rfl) ff_X9_15 (sh1 hst) (by decide) rfl rfl ?_
      refine gj_iload_n (q := 28) (gj_dk okX9_append 14 rfl) rfl rfl ?_
      refine gj_iload_n (q := 29) (gj_dk okX9_append 15 rfl) rfl rfl ?_
      refine gj_iushr (q := 30) (gj_dk okX9_append 16 rfl) rfl ?_
      refine gj_sipush (q := 33) (gj_dk okX9_append 17 rfl) (by decide) rfl rfl ?_
      refine gj_iand (q := 34) (gj_dk okX9_append 18 rfl) rfl ?_
      refine gj_callS (q := 37) [jR 2, jI (M 1 1), jI (gj_and (gj_ushr l1 l2) 255)] rfl (c_X7_put (sh2 hst) (by decide) (by decide) _ _) (gj_dk okX9_append 19 rfl) ml_X9_19 me_X7_put (gj_nm rfl) rfl (gj_kV fun S2 M2 h => ?_)
      obtain ⟨eS, eM⟩ := h; subst eS; subst eM
      refine gj_stp hF (fun M1 hF => ?_)
      refine gj_aload_n (q := 38) (gj_dk okX9_append 20 rfl) rfl rfl ?_
      refine gj_dup (q := 39) (gj_dk okX9_append 21 rfl) rfl rfl ?_
      refine gj_gI (q := 42) (j := 1) (gj_dk okX9_append 22 rfl) ff_X9_15 (sh1 hst) (by decide) rfl rfl ?_
      refine gj_iconst (q := 43) (gj_dk okX9_append 23 rfl) (by decide) rfl ?_
      refine gj_iadd (q := 44) (gj_dk okX9_append 24 rfl) rfl ?_
      refine gj_pfI (q := 47) (j := 1) (gj_dk okX9_append 25 rfl) ff_X9_15 (sh1 hst) (by decide) rfl rfl ?_
      refine gj_stp hF (fun M2 hF => ?_)
      refine gj_sub [(0, jR 1), (1, jI l1), (2, jI l2)] ⟨rfl, rfl, rfl, trivial⟩ ?_
      exact t_J_X9_append_47 hst hrec3 l1 l2 M2 hF
theorem t_L_X9_append_3 (hst : gj_Stat S) {r : gj_M} : ∀ (m : Nat) (l1 : Int) (l2 : Int) (M : gj_M), gj_it (fun _ _ _ => none) (B_X9_append_3) m l1 l2 M = some r → gj_W G l 2 0 0 yX9_append cX9_append 3 none (gj_qV fun S' M' => S = S' ∧ r = M') 0 0 3 [(0, jR 1), (1, jI l1), (2, jI l2)] [] S M := by
  intro m
  induction m with
  | zero => intro l1 l2 M hF; cases (show (none : Option (gj_M)) = some r from hF)
  | succ m ih => intro l1 l2 M hF; exact t_B_X9_append_3 hst (fun l1 l2 M h => ih l1 l2 M h) l1 l2 M hF
set_option maxHeartbeats 4000000 in
set_option maxRecDepth 20000 in
theorem t_X9_append (hst : gj_Stat S) (a1 : Int) {r : gj_M} (hF : F_X9_append a1 M = some r) : gj_C G l 2 0 0 yX9_append cX9_append 3 none [jR 1, jI a1] S M (gj_qV fun S' M' => S = S' ∧ r = M') := by
  refine gj_Cof (by decide +kernel) (Nat.le_of_ble_eq_true rfl) ?_
  change gj_W G l 2 0 0 yX9_append cX9_append 3 none (gj_qV fun S' M' => S = S' ∧ r = M') 0 0 0 [(0, jR 1), (1, jI a1)] [] S M
  unfold F_X9_append at hF
  refine gj_bipush (q := 2) (gj_dk okX9_append 0 rfl) (by decide) rfl rfl ?_
  refine gj_istore_n (q := 3) (gj_dk okX9_append 1 rfl) (by decide) rfl ?_
  refine gj_sub [(0, jR 1), (1, jI a1), (2, jI 24)] ⟨rfl, rfl, rfl, trivial⟩ ?_
  exact t_L_X9_append_3 hst gj_fu a1 24 M hF
def f_X9_length (M : gj_M) : Int :=
  (M 1 1)
set_option maxHeartbeats 4000000 in
set_option maxRecDepth 20000 in
theorem t_X9_length (hst : gj_Stat S) {r : Int} (hF : f_X9_length M = r) : gj_C G l 1 0 0 yX9_length cX9_length 1 (some .int) [jR 1] S M (gj_qI fun x S' M' => r = x ∧ S = S' ∧ M = M') := by
  refine gj_Cof (by decide +kernel) (Nat.le_of_ble_eq_true rfl) ?_
  change gj_W G l 1 0 0 yX9_length cX9_length 1 (some .int) (gj_qI fun x S' M' => r = x ∧ S = S' ∧ M = M') 0 0 0 [(0, jR 1)] [] S M
  unfold f_X9_length at hF
  refine gj_aload_n (q := 1) (gj_dk okX9_length 0 rfl) rfl rfl ?_
  refine gj_gI (q := 4) (j := 1) (gj_dk okX9_length 1 rfl) ff_X9_15 (sh1 hst) (by decide) rfl rfl ?_
  subst hF
  exact gj_iret (gj_dk okX9_length 2 rfl) rfl ⟨_, rfl, rfl, rfl, rfl⟩
def F_X11_feed (a1 : Int) (a2 : Int) (a3 : Int) (a4 : Int) (a5 : Int) (M : gj_M) : Option (Int × gj_M) :=
  gj_letI (f_X9_hasRoomFor 20 M) (fun x1 => (if x1 = 0 then gj_let2 (f_X11_refuse 1 M) (fun x13 M14 => (some ((-1, M14)))) else gj_bnd (F_X9_append a1 M) (fun M3 => gj_bnd (F_X9_append a2 M3) (fun M5 => gj_bnd (F_X9_append a3 M5) (fun M7 => gj_bnd (F_X9_append a4 M7) (fun M9 => gj_bnd (F_X9_append a5 M9) (fun M11 => gj_letI (f_X9_length M11) (fun x12 => (some ((x12, M11)))))))))))
set_option maxHeartbeats 4000000 in
set_option maxRecDepth 20000 in
theorem t_X11_feed (hst : gj_Stat S) (a1 a2 a3 a4 a5 : Int) {r : Int × gj_M} (hF : F_X11_feed a1 a2 a3 a4 a5 M = some r) : gj_C G l 3 0 0 yX11_feed cX11_feed 6 (some .int) [jR 0, jI a1, jI a2, jI a3, jI a4, jI a5] S M (gj_qI fun x S' M' => r.1 = x ∧ S = S' ∧ r.2 = M') := by
  refine gj_Cof (by decide +kernel) (Nat.le_of_ble_eq_true rfl) ?_
  change gj_W G l 3 0 0 yX11_feed cX11_feed 6 (some .int) (gj_qI fun x S' M' => r.1 = x ∧ S = S' ∧ r.2 = M') 0 0 0 [(0, jR 0), (1, jI a1), (2, jI a2), (3, jI a3), (4, jI a4), (5, jI a5)] [] S M
  unfold F_X11_feed at hF
  refine gj_aload_n (q := 1) (gj_dk okX11_feed 0 rfl) rfl rfl ?_
  refine gj_gR (q := 4) (j := 0) (gj_dk okX11_feed 1 rfl) ff_X11_10 (sh0 hst) (by decide) rfl (rf0_0 hst) rfl ?_
  refine gj_bipush (q := 6) (gj_dk okX11_feed 2 rfl) (by decide) rfl rfl ?_
  refine gj_callV (q := 9) (z := 1) (ci := 8) [jI 20] rfl (t_X9_hasRoomFor hst 20 rfl) (gj_dk okX11_feed 3 rfl) ml_X11_88 me_X9_hasRoomFor (sh1 hst) rfl (gj_nm rfl) rfl (gj_kI fun x S2 M2 h => ?_)
  obtain ⟨bz, e, eS, eM⟩ := h; subst eS; subst eM; subst e
  refine gj_stpZ bz hF (fun x1 bx1 hF => ?_)
  refine gj_if_ne (q := 12) (tgt := 20) (gj_dk okX11_feed 4 rfl) (by decide) rfl (fun c9 => ?_) (fun c9 => ?_)
  · -- 20
    replace hF := gj_iff c9 hF
    refine gj_aload_n (q := 21) (gj_dk okX11_feed 11 rfl) rfl rfl ?_
    refine gj_gR (q := 24) (j := 0) (gj_dk okX11_feed 12 rfl) ff_X11_10 (sh0 hst) (by decide) rfl (rf0_0 hst) rfl ?_
    refine gj_iload_n (q := 25) (gj_dk okX11_feed 13 rfl) rfl rfl ?_
    obtain ⟨M3, hG, hF⟩ := gj_bndd hF
    refine gj_callV (q := 28) (z := 1) (ci := 8) [jI a1] rfl (t_X9_append hst a1 hG) (gj_dk okX11_feed 14 rfl) ml_X11_95 me_X9_append (sh1 hst) rfl (gj_nm rfl) rfl (gj_kV fun S2 M2 h => ?_)
    obtain ⟨eS, eM⟩ := h; subst eS; subst eM; clear hG
    refine gj_aload_n (q := 29) (gj_dk okX11_feed 15 rfl) rfl rfl ?_
    refine gj_gR (q := 32) (j := 0) (gj_dk okX11_feed 16 rfl) ff_X11_10 (sh0 hst) (by decide) rfl (rf0_0 hst) rfl ?_
    refine gj_iload_n (q := 33) (gj_dk okX11_feed 17 rfl) rfl rfl ?_
    obtain ⟨M5, hG, hF⟩ := gj_bndd hF
    refine gj_callV (q := 36) (z := 1) (ci := 8) [jI a2] rfl (t_X9_append hst a2 hG) (gj_dk okX11_feed 18 rfl) ml_X11_95 me_X9_append (sh1 hst) rfl (gj_nm rfl) rfl (gj_kV fun S2 M2 h => ?_)
    obtain ⟨eS, eM⟩ := h; subst eS; subst eM; clear hG
    refine gj_aload_n (q := 37) (gj_dk okX11_feed 19 rfl) rfl rfl ?_
    refine gj_gR (q := 40) (j := 0) (gj_dk okX11_feed 20 rfl) ff_X11_10 (sh0 hst) (by decide) rfl (rf0_0 hst) rfl ?_
    refine gj_iload_n (q := 41) (gj_dk okX11_feed 21 rfl) rfl rfl ?_
    obtain ⟨M7, hG, hF⟩ := gj_bndd hF
    refine gj_callV (q := 44) (z := 1) (ci := 8) [jI a3] rfl (t_X9_append hst a3 hG) (gj_dk okX11_feed 22 rfl) ml_X11_95 me_X9_append (sh1 hst) rfl (gj_nm rfl) rfl (gj_kV fun S2 M2 h => ?_)
    obtain ⟨eS, eM⟩ := h; subst eS; subst eM; clear hG
    refine gj_aload_n (q := 45) (gj_dk okX11_feed 23 rfl) rfl rfl ?_
    refine gj_gR (q := 48) (j := 0) (gj_dk okX11_feed 24 rfl) ff_X11_10 (sh0 hst) (by decide) rfl (rf0_0 hst) rfl ?_
    refine gj_iload (q := 50) (gj_dk okX11_feed 25 rfl) rfl rfl ?_
    obtain ⟨M9, hG, hF⟩ := gj_bndd hF
    refine gj_callV (q := 53) (z := 1) (ci := 8) [jI a4] rfl (t_X9_append hst a4 hG) (gj_dk okX11_feed 26 rfl) ml_X11_95 me_X9_append (sh1 hst) rfl (gj_nm rfl) rfl (gj_kV fun S2 M2 h => ?_)
    obtain ⟨eS, eM⟩ := h; subst eS; subst eM; clear hG
    refine gj_aload_n (q := 54) (gj_dk okX11_feed 27 rfl) rfl rfl ?_
    refine gj_gR (q := 57) (j := 0) (gj_dk okX11_feed 28 rfl) ff_X11_10 (sh0 hst) (by decide) rfl (rf0_0 hst) rfl ?_
    refine gj_iload (q := 59) (gj_dk okX11_feed 29 rfl) rfl rfl ?_
    obtain ⟨M11, hG, hF⟩ := gj_bndd hF
    refine gj_callV (q := 62) (z := 1) (ci := 8) [jI a5] rfl (t_X9_append hst a5 hG) (gj_dk okX11_feed 30 rfl) ml_X11_95 me_X9_append (sh1 hst) rfl (gj_nm rfl) rfl (gj_kV fun S2 M2 h => ?_)
    obtain ⟨eS, eM⟩ := h; subst eS; subst eM; clear hG
    refine gj_aload_n (q := 63) (gj_dk okX11_feed 31 rfl) rfl rfl ?_
    refine gj_gR (q := 66) (j := 0) (gj_dk okX11_feed 32 rfl) ff_X11_10 (sh0 hst) (by decide) rfl (rf0_0 hst) rfl ?_
    refine gj_callV (q := 69) (z := 1) (ci := 8) [] rfl (t_X9_length hst  rfl) (gj_dk okX11_feed 33 rfl) ml_X11_99 me_X9_length (sh1 hst) rfl (gj_nm rfl) rfl (gj_kI fun x S2 M2 h => ?_)
    obtain ⟨e, eS, eM⟩ := h; subst eS; subst eM; subst e
    refine gj_stpI hF (fun x12 hF => ?_)
    cases hF
    exact gj_iret (gj_dk okX11_feed 34 rfl) rfl ⟨_, rfl, rfl, rfl, rfl⟩
  · -- 12
    replace hF := gj_ift c9 hF
    refine gj_aload_n (q := 13) (gj_dk okX11_feed 5 rfl) rfl rfl ?_
    refine gj_iconst (q := 14) (gj_dk okX11_feed 6 rfl) (by decide) rfl ?_
    refine gj_callV (q := 17) (z := 0) (ci := 9) [jI 1] rfl (t_X11_refuse hst 1 rfl) (gj_dk okX11_feed 7 rfl) ml_X11_92 me_X11_refuse (sh0 hst) rfl (gj_nm rfl) rfl (gj_kI fun x S2 M2 h => ?_)
    obtain ⟨bz, e, eS, eM⟩ := h; subst eS; subst eM; subst e
    refine gj_stp2Z bz hF (fun x13 M14 bx13 hF => ?_)
    refine gj_pop (q := 18) (gj_dk okX11_feed 8 rfl) rfl rfl ?_
    refine gj_iconst (q := 19) (gj_dk okX11_feed 9 rfl) (by decide) rfl ?_
    cases hF
    exact gj_iret (gj_dk okX11_feed 10 rfl) rfl ⟨_, rfl, rfl, rfl, rfl⟩
def f_X9_cutTo (a1 : Int) (M : gj_M) : gj_M :=
  (if a1 < 0 then (M) else (if M 1 1 < a1 then (M) else gj_let (gj_up M 1 1 a1) (fun M1 => (M1))))
set_option maxHeartbeats 4000000 in
set_option maxRecDepth 20000 in
theorem t_X9_cutTo (hst : gj_Stat S) (a1 : Int) {r : gj_M} (hF : f_X9_cutTo a1 M = r) : gj_C G l 1 0 0 yX9_cutTo cX9_cutTo 2 none [jR 1, jI a1] S M (gj_qV fun S' M' => S = S' ∧ r = M') := by
  refine gj_Cof (by decide +kernel) (Nat.le_of_ble_eq_true rfl) ?_
  change gj_W G l 1 0 0 yX9_cutTo cX9_cutTo 2 none (gj_qV fun S' M' => S = S' ∧ r = M') 0 0 0 [(0, jR 1), (1, jI a1)] [] S M
  unfold f_X9_cutTo at hF
  refine gj_iload_n (q := 1) (gj_dk okX9_cutTo 0 rfl) rfl rfl ?_
  refine gj_if_lt (q := 4) (tgt := 17) (gj_dk okX9_cutTo 1 rfl) (by decide) rfl (fun c1 => ?_) (fun c1 => ?_)
  · -- 17
    replace hF := gj_ift c1 hF
    subst hF
    exact gj_vret (gj_dk okX9_cutTo 9 rfl) rfl ⟨rfl, rfl, rfl⟩
  · -- 4
    replace hF := gj_iff c1 hF
    refine gj_iload_n (q := 5) (gj_dk okX9_cutTo 2 rfl) rfl rfl ?_
    refine gj_aload_n (q := 6) (gj_dk okX9_cutTo 3 rfl) rfl rfl ?_
    refine gj_gI (q := 9) (j := 1) (gj_dk okX9_cutTo 4 rfl) ff_X9_15 (sh1 hst) (by decide) rfl rfl ?_
    refine gj_icmp_gt (q := 12) (tgt := 17) (gj_dk okX9_cutTo 5 rfl) (by decide) rfl (fun c9 => ?_) (fun c9 => ?_)
    · -- 17
      replace hF := gj_ift c9 hF
      subst hF
      exact gj_vret (gj_dk okX9_cutTo 9 rfl) rfl ⟨rfl, rfl, rfl⟩
    · -- 12
      replace hF := gj_iff c9 hF
      refine gj_aload_n (q := 13) (gj_dk okX9_cutTo 6 rfl) rfl rfl ?_
      refine gj_iload_n (q := 14) (gj_dk okX9_cutTo 7 rfl) rfl rfl ?_
      refine gj_pfI (q := 17) (j := 1) (gj_dk okX9_cutTo 8 rfl) ff_X9_15 (sh1 hst) (by decide) rfl rfl ?_
      refine gj_stp hF (fun M1 hF => ?_)
      subst hF
      exact gj_vret (gj_dk okX9_cutTo 9 rfl) rfl ⟨rfl, rfl, rfl⟩
def f_X11_end (a1 : Int) (M : gj_M) : Int × gj_M :=
  (if a1 < 0 then gj_let2 (f_X11_refuse 2 M) (fun x1 M2 => ((x1, M2))) else gj_letI (f_X9_length M) (fun x3 => (if a1 ≤ x3 then gj_let (f_X9_cutTo a1 M) (fun M4 => ((1, M4))) else gj_let2 (f_X11_refuse 2 M) (fun x5 M6 => ((x5, M6))))))
set_option maxHeartbeats 4000000 in
set_option maxRecDepth 20000 in
theorem t_X11_end (hst : gj_Stat S) (a1 : Int) {r : Int × gj_M} (hF : f_X11_end a1 M = r) : gj_C G l 3 0 0 yX11_end cX11_end 2 (some .boolean) [jR 0, jI a1] S M (gj_qI fun x S' M' => (x = 0 ∨ x = 1) ∧ r.1 = x ∧ S = S' ∧ r.2 = M') := by
  refine gj_Cof (by decide +kernel) (Nat.le_of_ble_eq_true rfl) ?_
  change gj_W G l 3 0 0 yX11_end cX11_end 2 (some .boolean) (gj_qI fun x S' M' => (x = 0 ∨ x = 1) ∧ r.1 = x ∧ S = S' ∧ r.2 = M') 0 0 0 [(0, jR 0), (1, jI a1)] [] S M
  unfold f_X11_end at hF
  refine gj_iload_n (q := 1) (gj_dk okX11_end 0 rfl) rfl rfl ?_
  refine gj_if_lt (q := 4) (tgt := 15) (gj_dk okX11_end 1 rfl) (by decide) rfl (fun c1 => ?_) (fun c1 => ?_)
  · -- 15
    replace hF := gj_ift c1 hF
    refine gj_aload_n (q := 16) (gj_dk okX11_end 7 rfl) rfl rfl ?_
    refine gj_iconst (q := 17) (gj_dk okX11_end 8 rfl) (by decide) rfl ?_
    refine gj_callV (q := 20) (z := 0) (ci := 9) [jI 2] rfl (t_X11_refuse hst 2 rfl) (gj_dk okX11_end 9 rfl) ml_X11_92 me_X11_refuse (sh0 hst) rfl (gj_nm rfl) rfl (gj_kI fun x S2 M2 h => ?_)
    obtain ⟨bz, e, eS, eM⟩ := h; subst eS; subst eM; subst e
    refine gj_stp2Z bz hF (fun x1 M2 bx1 hF => ?_)
    subst hF
    exact gj_zret (gj_dk okX11_end 10 rfl) rfl bx1 ⟨_, rfl, bx1, rfl, rfl, rfl⟩
  · -- 4
    replace hF := gj_iff c1 hF
    refine gj_iload_n (q := 5) (gj_dk okX11_end 2 rfl) rfl rfl ?_
    refine gj_aload_n (q := 6) (gj_dk okX11_end 3 rfl) rfl rfl ?_
    refine gj_gR (q := 9) (j := 0) (gj_dk okX11_end 4 rfl) ff_X11_10 (sh0 hst) (by decide) rfl (rf0_0 hst) rfl ?_
    refine gj_callV (q := 12) (z := 1) (ci := 8) [] rfl (t_X9_length hst  rfl) (gj_dk okX11_end 5 rfl) ml_X11_99 me_X9_length (sh1 hst) rfl (gj_nm rfl) rfl (gj_kI fun x S2 M2 h => ?_)
    obtain ⟨e, eS, eM⟩ := h; subst eS; subst eM; subst e
    refine gj_stpI hF (fun x3 hF => ?_)
    refine gj_icmp_le (q := 15) (tgt := 21) (gj_dk okX11_end 6 rfl) (by decide) rfl (fun c12 => ?_) (fun c12 => ?_)
    · -- 21
      replace hF := gj_ift c12 hF
      refine gj_aload_n (q := 22) (gj_dk okX11_end 11 rfl) rfl rfl ?_
      refine gj_gR (q := 25) (j := 0) (gj_dk okX11_end 12 rfl) ff_X11_10 (sh0 hst) (by decide) rfl (rf0_0 hst) rfl ?_
      refine gj_iload_n (q := 26) (gj_dk okX11_end 13 rfl) rfl rfl ?_
      refine gj_callV (q := 29) (z := 1) (ci := 8) [jI a1] rfl (t_X9_cutTo hst a1 rfl) (gj_dk okX11_end 14 rfl) ml_X11_103 me_X9_cutTo (sh1 hst) rfl (gj_nm rfl) rfl (gj_kV fun S2 M2 h => ?_)
      obtain ⟨eS, eM⟩ := h; subst eS; subst eM
      refine gj_stp hF (fun M4 hF => ?_)
      refine gj_iconst (q := 30) (gj_dk okX11_end 15 rfl) (by decide) rfl ?_
      subst hF
      exact gj_zret (gj_dk okX11_end 16 rfl) rfl (by decide) ⟨_, rfl, (by decide), rfl, rfl, rfl⟩
    · -- 15
      replace hF := gj_iff c12 hF
      refine gj_aload_n (q := 16) (gj_dk okX11_end 7 rfl) rfl rfl ?_
      refine gj_iconst (q := 17) (gj_dk okX11_end 8 rfl) (by decide) rfl ?_
      refine gj_callV (q := 20) (z := 0) (ci := 9) [jI 2] rfl (t_X11_refuse hst 2 rfl) (gj_dk okX11_end 9 rfl) ml_X11_92 me_X11_refuse (sh0 hst) rfl (gj_nm rfl) rfl (gj_kI fun x S2 M2 h => ?_)
      obtain ⟨bz, e, eS, eM⟩ := h; subst eS; subst eM; subst e
      refine gj_stp2Z bz hF (fun x5 M6 bx5 hF => ?_)
      subst hF
      exact gj_zret (gj_dk okX11_end 10 rfl) rfl bx5 ⟨_, rfl, bx5, rfl, rfl, rfl⟩
def f_X5_clear (M : gj_M) : gj_M :=
  gj_let (gj_up M 3 0 0) (fun M1 => gj_let (gj_up M1 3 1 0) (fun M2 => gj_let (gj_up M2 3 2 10) (fun M3 => gj_let (gj_up M3 3 3 0) (fun M4 => gj_let (gj_up M4 3 4 1) (fun M5 => gj_let (gj_up M5 3 5 0) (fun M6 => gj_let (gj_up M6 3 6 0) (fun M7 => gj_let (gj_up M7 3 7 0) (fun M8 => gj_let (gj_up M8 3 8 0) (fun M9 => gj_let (gj_up M9 3 9 3) (fun M10 => gj_let (f_fill M10 4 8 0) (fun M11 => gj_let (f_fill M11 5 32 8) (fun M12 => gj_let (f_fill M12 6 32 12) (fun M13 => gj_let (f_fill M13 7 32 4) (fun M14 => gj_let (f_fill M14 8 16 8) (fun M15 => (M15))))))))))))))))
set_option maxHeartbeats 4000000 in
set_option maxRecDepth 20000 in
theorem t_X5_clear (hst : gj_Stat S) {r : gj_M} (hF : f_X5_clear M = r) : gj_C G l 2 0 0 yX5_clear cX5_clear 1 none [jR 3] S M (gj_qV fun S' M' => S = S' ∧ r = M') := by
  refine gj_Cof (by decide +kernel) (Nat.le_of_ble_eq_true rfl) ?_
  change gj_W G l 2 0 0 yX5_clear cX5_clear 1 none (gj_qV fun S' M' => S = S' ∧ r = M') 0 0 0 [(0, jR 3)] [] S M
  unfold f_X5_clear at hF
  refine gj_aload_n (q := 1) (gj_dk okX5_clear 0 rfl) rfl rfl ?_
  refine gj_iconst (q := 2) (gj_dk okX5_clear 1 rfl) (by decide) rfl ?_
  refine gj_pfI (q := 5) (j := 0) (gj_dk okX5_clear 2 rfl) ff_X5_30 (sh3 hst) (by decide) rfl rfl ?_
  refine gj_stp hF (fun M1 hF => ?_)
  refine gj_aload_n (q := 6) (gj_dk okX5_clear 3 rfl) rfl rfl ?_
  refine gj_iconst (q := 7) (gj_dk okX5_clear 4 rfl) (by decide) rfl ?_
  refine gj_pfI (q := 10) (j := 1) (gj_dk okX5_clear 5 rfl) ff_X5_34 (sh3 hst) (by decide) rfl rfl ?_
  refine gj_stp hF (fun M2 hF => ?_)
  refine gj_aload_n (q := 11) (gj_dk okX5_clear 6 rfl) rfl rfl ?_
  refine gj_bipush (q := 13) (gj_dk okX5_clear 7 rfl) (by decide) rfl rfl ?_
  refine gj_pfI (q := 16) (j := 2) (gj_dk okX5_clear 8 rfl) ff_X5_37 (sh3 hst) (by decide) rfl rfl ?_
  refine gj_stp hF (fun M3 hF => ?_)
  refine gj_aload_n (q := 17) (gj_dk okX5_clear 9 rfl) rfl rfl ?_
  refine gj_iconst (q := 18) (gj_dk okX5_clear 10 rfl) (by decide) rfl ?_
  refine gj_pfI (q := 21) (j := 3) (gj_dk okX5_clear 11 rfl) ff_X5_40 (sh3 hst) (by decide) rfl rfl ?_
  refine gj_stp hF (fun M4 hF => ?_)
  refine gj_aload_n (q := 22) (gj_dk okX5_clear 12 rfl) rfl rfl ?_
  refine gj_iconst (q := 23) (gj_dk okX5_clear 13 rfl) (by decide) rfl ?_
  refine gj_pfI (q := 26) (j := 4) (gj_dk okX5_clear 14 rfl) ff_X5_43 (sh3 hst) (by decide) rfl rfl ?_
  refine gj_stp hF (fun M5 hF => ?_)
  refine gj_aload_n (q := 27) (gj_dk okX5_clear 15 rfl) rfl rfl ?_
  refine gj_iconst (q := 28) (gj_dk okX5_clear 16 rfl) (by decide) rfl ?_
  refine gj_pfI (q := 31) (j := 5) (gj_dk okX5_clear 17 rfl) ff_X5_46 (sh3 hst) (by decide) rfl rfl ?_
  refine gj_stp hF (fun M6 hF => ?_)
  refine gj_aload_n (q := 32) (gj_dk okX5_clear 18 rfl) rfl rfl ?_
  refine gj_iconst (q := 33) (gj_dk okX5_clear 19 rfl) (by decide) rfl ?_
  refine gj_pfI (q := 36) (j := 6) (gj_dk okX5_clear 20 rfl) ff_X5_49 (sh3 hst) (by decide) rfl rfl ?_
  refine gj_stp hF (fun M7 hF => ?_)
  refine gj_aload_n (q := 37) (gj_dk okX5_clear 21 rfl) rfl rfl ?_
  refine gj_iconst (q := 38) (gj_dk okX5_clear 22 rfl) (by decide) rfl ?_
  refine gj_pfI (q := 41) (j := 7) (gj_dk okX5_clear 23 rfl) ff_X5_52 (sh3 hst) (by decide) rfl rfl ?_
  refine gj_stp hF (fun M8 hF => ?_)
  refine gj_aload_n (q := 42) (gj_dk okX5_clear 24 rfl) rfl rfl ?_
  refine gj_iconst (q := 43) (gj_dk okX5_clear 25 rfl) (by decide) rfl ?_
  refine gj_pfI (q := 46) (j := 8) (gj_dk okX5_clear 26 rfl) ff_X5_55 (sh3 hst) (by decide) rfl rfl ?_
  refine gj_stp hF (fun M9 hF => ?_)
  refine gj_aload_n (q := 47) (gj_dk okX5_clear 27 rfl) rfl rfl ?_
  refine gj_iconst (q := 48) (gj_dk okX5_clear 28 rfl) (by decide) rfl ?_
  refine gj_pfI (q := 51) (j := 9) (gj_dk okX5_clear 29 rfl) ff_X5_58 (sh3 hst) (by decide) rfl rfl ?_
  refine gj_stp hF (fun M10 hF => ?_)
  refine gj_aload_n (q := 52) (gj_dk okX5_clear 30 rfl) rfl rfl ?_
  refine gj_gR (q := 55) (j := 10) (gj_dk okX5_clear 31 rfl) ff_X5_9 (sh3 hst) (by decide) rfl (rf3_10 hst) rfl ?_
  refine gj_iconst (q := 56) (gj_dk okX5_clear 32 rfl) (by decide) rfl ?_
  refine gj_callS (q := 59) [jR 4, jI 0] rfl (c_X7_fill (sh4 hst) (by decide) (by decide) _) (gj_dk okX5_clear 33 rfl) ml_X5_61 me_X7_fill (gj_nm rfl) rfl (gj_kV fun S2 M2 h => ?_)
  obtain ⟨eS, eM⟩ := h; subst eS; subst eM
  refine gj_stp hF (fun M11 hF => ?_)
  refine gj_aload_n (q := 60) (gj_dk okX5_clear 34 rfl) rfl rfl ?_
  refine gj_gR (q := 63) (j := 11) (gj_dk okX5_clear 35 rfl) ff_X5_15 (sh3 hst) (by decide) rfl (rf3_11 hst) rfl ?_
  refine gj_bipush (q := 65) (gj_dk okX5_clear 36 rfl) (by decide) rfl rfl ?_
  refine gj_callS (q := 68) [jR 5, jI 8] rfl (c_X7_fill (sh5 hst) (by decide) (by decide) _) (gj_dk okX5_clear 37 rfl) ml_X5_61 me_X7_fill (gj_nm rfl) rfl (gj_kV fun S2 M2 h => ?_)
  obtain ⟨eS, eM⟩ := h; subst eS; subst eM
  refine gj_stp hF (fun M12 hF => ?_)
  refine gj_aload_n (q := 69) (gj_dk okX5_clear 38 rfl) rfl rfl ?_
  refine gj_gR (q := 72) (j := 12) (gj_dk okX5_clear 39 rfl) ff_X5_18 (sh3 hst) (by decide) rfl (rf3_12 hst) rfl ?_
  refine gj_bipush (q := 74) (gj_dk okX5_clear 40 rfl) (by decide) rfl rfl ?_
  refine gj_callS (q := 77) [jR 6, jI 12] rfl (c_X7_fill (sh6 hst) (by decide) (by decide) _) (gj_dk okX5_clear 41 rfl) ml_X5_61 me_X7_fill (gj_nm rfl) rfl (gj_kV fun S2 M2 h => ?_)
  obtain ⟨eS, eM⟩ := h; subst eS; subst eM
  refine gj_stp hF (fun M13 hF => ?_)
  refine gj_aload_n (q := 78) (gj_dk okX5_clear 42 rfl) rfl rfl ?_
  refine gj_gR (q := 81) (j := 13) (gj_dk okX5_clear 43 rfl) ff_X5_21 (sh3 hst) (by decide) rfl (rf3_13 hst) rfl ?_
  refine gj_iconst (q := 82) (gj_dk okX5_clear 44 rfl) (by decide) rfl ?_
  refine gj_callS (q := 85) [jR 7, jI 4] rfl (c_X7_fill (sh7 hst) (by decide) (by decide) _) (gj_dk okX5_clear 45 rfl) ml_X5_61 me_X7_fill (gj_nm rfl) rfl (gj_kV fun S2 M2 h => ?_)
  obtain ⟨eS, eM⟩ := h; subst eS; subst eM
  refine gj_stp hF (fun M14 hF => ?_)
  refine gj_aload_n (q := 86) (gj_dk okX5_clear 46 rfl) rfl rfl ?_
  refine gj_gR (q := 89) (j := 14) (gj_dk okX5_clear 47 rfl) ff_X5_24 (sh3 hst) (by decide) rfl (rf3_14 hst) rfl ?_
  refine gj_bipush (q := 91) (gj_dk okX5_clear 48 rfl) (by decide) rfl rfl ?_
  refine gj_callS (q := 94) [jR 8, jI 8] rfl (c_X7_fill (sh8 hst) (by decide) (by decide) _) (gj_dk okX5_clear 49 rfl) ml_X5_61 me_X7_fill (gj_nm rfl) rfl (gj_kV fun S2 M2 h => ?_)
  obtain ⟨eS, eM⟩ := h; subst eS; subst eM
  refine gj_stp hF (fun M15 hF => ?_)
  subst hF
  exact gj_vret (gj_dk okX5_clear 50 rfl) rfl ⟨rfl, rfl, rfl⟩
def f_X9_byteAt (a1 : Int) (M : gj_M) : Int :=
  (if M 1 1 ≤ a1 then (-1) else (f_at M 2 500 a1))
set_option maxHeartbeats 4000000 in
set_option maxRecDepth 20000 in
theorem t_X9_byteAt (hst : gj_Stat S) (a1 : Int) {r : Int} (hF : f_X9_byteAt a1 M = r) : gj_C G l 2 0 0 yX9_byteAt cX9_byteAt 2 (some .int) [jR 1, jI a1] S M (gj_qI fun x S' M' => r = x ∧ S = S' ∧ M = M') := by
  refine gj_Cof (by decide +kernel) (Nat.le_of_ble_eq_true rfl) ?_
  change gj_W G l 2 0 0 yX9_byteAt cX9_byteAt 2 (some .int) (gj_qI fun x S' M' => r = x ∧ S = S' ∧ M = M') 0 0 0 [(0, jR 1), (1, jI a1)] [] S M
  unfold f_X9_byteAt at hF
  refine gj_iload_n (q := 1) (gj_dk okX9_byteAt 0 rfl) rfl rfl ?_
  refine gj_aload_n (q := 2) (gj_dk okX9_byteAt 1 rfl) rfl rfl ?_
  refine gj_gI (q := 5) (j := 1) (gj_dk okX9_byteAt 2 rfl) ff_X9_15 (sh1 hst) (by decide) rfl rfl ?_
  refine gj_icmp_ge (q := 8) (tgt := 19) (gj_dk okX9_byteAt 3 rfl) (by decide) rfl (fun c5 => ?_) (fun c5 => ?_)
  · -- 19
    replace hF := gj_ift c5 hF
    refine gj_iconst (q := 20) (gj_dk okX9_byteAt 9 rfl) (by decide) rfl ?_
    subst hF
    exact gj_iret (gj_dk okX9_byteAt 10 rfl) rfl ⟨_, rfl, rfl, rfl, rfl⟩
  · -- 8
    replace hF := gj_iff c5 hF
    refine gj_aload_n (q := 9) (gj_dk okX9_byteAt 4 rfl) rfl rfl ?_
    refine gj_gR (q := 12) (j := 0) (gj_dk okX9_byteAt 5 rfl) ff_X9_9 (sh1 hst) (by decide) rfl (rf1_0 hst) rfl ?_
    refine gj_iload_n (q := 13) (gj_dk okX9_byteAt 6 rfl) rfl rfl ?_
    refine gj_callS (q := 16) [jR 2, jI a1] rfl (c_X7_at (sh2 hst) (by decide) (by decide) _) (gj_dk okX9_byteAt 7 rfl) ml_X9_25 me_X7_at (gj_nm rfl) rfl (gj_kI fun x S2 M2 h => ?_)
    obtain ⟨e, eS, eM⟩ := h; subst eS; subst eM; subst e
    refine gj_goto (tgt := 20) (gj_dk okX9_byteAt 8 rfl) (by decide) ?_
    subst hF
    exact gj_iret (gj_dk okX9_byteAt 10 rfl) rfl ⟨_, rfl, rfl, rfl, rfl⟩
def f_X6_isBlank (a1 : Int) (M : gj_M) : Int :=
  (if a1 = 32 then (1) else (if a1 = 10 then (1) else (0)))
set_option maxHeartbeats 4000000 in
set_option maxRecDepth 20000 in
theorem t_X6_isBlank (hst : gj_Stat S) (a1 : Int) {r : Int} (hF : f_X6_isBlank a1 M = r) : gj_C G l 1 0 0 yX6_isBlank cX6_isBlank 1 (some .boolean) [jI a1] S M (gj_qI fun x S' M' => (x = 0 ∨ x = 1) ∧ r = x ∧ S = S' ∧ M = M') := by
  refine gj_Cof (by decide +kernel) (Nat.le_of_ble_eq_true rfl) ?_
  change gj_W G l 1 0 0 yX6_isBlank cX6_isBlank 1 (some .boolean) (gj_qI fun x S' M' => (x = 0 ∨ x = 1) ∧ r = x ∧ S = S' ∧ M = M') 0 0 0 [(0, jI a1)] [] S M
  unfold f_X6_isBlank at hF
  refine gj_iload_n (q := 1) (gj_dk okX6_isBlank 0 rfl) rfl rfl ?_
  refine gj_bipush (q := 3) (gj_dk okX6_isBlank 1 rfl) (by decide) rfl rfl ?_
  refine gj_icmp_eq (q := 6) (tgt := 12) (gj_dk okX6_isBlank 2 rfl) (by decide) rfl (fun c3 => ?_) (fun c3 => ?_)
  · -- 12
    replace hF := gj_ift c3 hF
    refine gj_iconst (q := 13) (gj_dk okX6_isBlank 6 rfl) (by decide) rfl ?_
    refine gj_goto (tgt := 17) (gj_dk okX6_isBlank 7 rfl) (by decide) ?_
    subst hF
    exact gj_zret (gj_dk okX6_isBlank 9 rfl) rfl (by decide) ⟨_, rfl, (by decide), rfl, rfl, rfl⟩
  · -- 6
    replace hF := gj_iff c3 hF
    refine gj_iload_n (q := 7) (gj_dk okX6_isBlank 3 rfl) rfl rfl ?_
    refine gj_bipush (q := 9) (gj_dk okX6_isBlank 4 rfl) (by decide) rfl rfl ?_
    refine gj_icmp_ne (q := 12) (tgt := 16) (gj_dk okX6_isBlank 5 rfl) (by decide) rfl (fun c9 => ?_) (fun c9 => ?_)
    · -- 16
      replace hF := gj_iff c9 hF
      refine gj_iconst (q := 17) (gj_dk okX6_isBlank 8 rfl) (by decide) rfl ?_
      subst hF
      exact gj_zret (gj_dk okX6_isBlank 9 rfl) rfl (by decide) ⟨_, rfl, (by decide), rfl, rfl, rfl⟩
    · -- 12
      replace hF := gj_ift c9 hF
      refine gj_iconst (q := 13) (gj_dk okX6_isBlank 6 rfl) (by decide) rfl ?_
      refine gj_goto (tgt := 17) (gj_dk okX6_isBlank 7 rfl) (by decide) ?_
      subst hF
      exact gj_zret (gj_dk okX6_isBlank 9 rfl) rfl (by decide) ⟨_, rfl, (by decide), rfl, rfl, rfl⟩
def f_X6_kindOf (a1 : Int) (M : gj_M) : Int :=
  (if a1 = -1 then (0) else (if a1 < 97 then (if a1 < 48 then (if a1 = 59 then (3) else (4)) else (if 57 < a1 then (if a1 = 59 then (3) else (4)) else (2))) else (if 122 < a1 then (if a1 < 48 then (if a1 = 59 then (3) else (4)) else (if 57 < a1 then (if a1 = 59 then (3) else (4)) else (2))) else (1))))
set_option maxHeartbeats 4000000 in
set_option maxRecDepth 20000 in
theorem t_X6_kindOf (hst : gj_Stat S) (a1 : Int) {r : Int} (hF : f_X6_kindOf a1 M = r) : gj_C G l 1 0 0 yX6_kindOf cX6_kindOf 1 (some .int) [jI a1] S M (gj_qI fun x S' M' => r = x ∧ S = S' ∧ M = M') := by
  refine gj_Cof (by decide +kernel) (Nat.le_of_ble_eq_true rfl) ?_
  change gj_W G l 1 0 0 yX6_kindOf cX6_kindOf 1 (some .int) (gj_qI fun x S' M' => r = x ∧ S = S' ∧ M = M') 0 0 0 [(0, jI a1)] [] S M
  unfold f_X6_kindOf at hF
  refine gj_iload_n (q := 1) (gj_dk okX6_kindOf 0 rfl) rfl rfl ?_
  refine gj_iconst (q := 2) (gj_dk okX6_kindOf 1 rfl) (by decide) rfl ?_
  refine gj_icmp_ne (q := 5) (tgt := 7) (gj_dk okX6_kindOf 2 rfl) (by decide) rfl (fun c2 => ?_) (fun c2 => ?_)
  · -- 7
    replace hF := gj_iff c2 hF
    refine gj_iload_n (q := 8) (gj_dk okX6_kindOf 5 rfl) rfl rfl ?_
    refine gj_bipush (q := 10) (gj_dk okX6_kindOf 6 rfl) (by decide) rfl rfl ?_
    refine gj_icmp_lt (q := 13) (tgt := 21) (gj_dk okX6_kindOf 7 rfl) (by decide) rfl (fun c10 => ?_) (fun c10 => ?_)
    · -- 21
      replace hF := gj_ift c10 hF
      refine gj_iload_n (q := 22) (gj_dk okX6_kindOf 13 rfl) rfl rfl ?_
      refine gj_bipush (q := 24) (gj_dk okX6_kindOf 14 rfl) (by decide) rfl rfl ?_
      refine gj_icmp_lt (q := 27) (tgt := 35) (gj_dk okX6_kindOf 15 rfl) (by decide) rfl (fun c24 => ?_) (fun c24 => ?_)
      · -- 35
        replace hF := gj_ift c24 hF
        refine gj_iload_n (q := 36) (gj_dk okX6_kindOf 21 rfl) rfl rfl ?_
        refine gj_bipush (q := 38) (gj_dk okX6_kindOf 22 rfl) (by decide) rfl rfl ?_
        refine gj_icmp_ne (q := 41) (tgt := 45) (gj_dk okX6_kindOf 23 rfl) (by decide) rfl (fun c38 => ?_) (fun c38 => ?_)
        · -- 45
          replace hF := gj_iff c38 hF
          refine gj_iconst (q := 46) (gj_dk okX6_kindOf 26 rfl) (by decide) rfl ?_
          subst hF
          exact gj_iret (gj_dk okX6_kindOf 27 rfl) rfl ⟨_, rfl, rfl, rfl, rfl⟩
        · -- 41
          replace hF := gj_ift c38 hF
          refine gj_iconst (q := 42) (gj_dk okX6_kindOf 24 rfl) (by decide) rfl ?_
          refine gj_goto (tgt := 46) (gj_dk okX6_kindOf 25 rfl) (by decide) ?_
          subst hF
          exact gj_iret (gj_dk okX6_kindOf 27 rfl) rfl ⟨_, rfl, rfl, rfl, rfl⟩
      · -- 27
        replace hF := gj_iff c24 hF
        refine gj_iload_n (q := 28) (gj_dk okX6_kindOf 16 rfl) rfl rfl ?_
        refine gj_bipush (q := 30) (gj_dk okX6_kindOf 17 rfl) (by decide) rfl rfl ?_
        refine gj_icmp_gt (q := 33) (tgt := 35) (gj_dk okX6_kindOf 18 rfl) (by decide) rfl (fun c30 => ?_) (fun c30 => ?_)
        · -- 35
          replace hF := gj_ift c30 hF
          refine gj_iload_n (q := 36) (gj_dk okX6_kindOf 21 rfl) rfl rfl ?_
          refine gj_bipush (q := 38) (gj_dk okX6_kindOf 22 rfl) (by decide) rfl rfl ?_
          refine gj_icmp_ne (q := 41) (tgt := 45) (gj_dk okX6_kindOf 23 rfl) (by decide) rfl (fun c38 => ?_) (fun c38 => ?_)
          · -- 45
            replace hF := gj_iff c38 hF
            refine gj_iconst (q := 46) (gj_dk okX6_kindOf 26 rfl) (by decide) rfl ?_
            subst hF
            exact gj_iret (gj_dk okX6_kindOf 27 rfl) rfl ⟨_, rfl, rfl, rfl, rfl⟩
          · -- 41
            replace hF := gj_ift c38 hF
            refine gj_iconst (q := 42) (gj_dk okX6_kindOf 24 rfl) (by decide) rfl ?_
            refine gj_goto (tgt := 46) (gj_dk okX6_kindOf 25 rfl) (by decide) ?_
            subst hF
            exact gj_iret (gj_dk okX6_kindOf 27 rfl) rfl ⟨_, rfl, rfl, rfl, rfl⟩
        · -- 33
          replace hF := gj_iff c30 hF
          refine gj_iconst (q := 34) (gj_dk okX6_kindOf 19 rfl) (by decide) rfl ?_
          subst hF
          exact gj_iret (gj_dk okX6_kindOf 20 rfl) rfl ⟨_, rfl, rfl, rfl, rfl⟩
    · -- 13
      replace hF := gj_iff c10 hF
      refine gj_iload_n (q := 14) (gj_dk okX6_kindOf 8 rfl) rfl rfl ?_
      refine gj_bipush (q := 16) (gj_dk okX6_kindOf 9 rfl) (by decide) rfl rfl ?_
      refine gj_icmp_gt (q := 19) (tgt := 21) (gj_dk okX6_kindOf 10 rfl) (by decide) rfl (fun c16 => ?_) (fun c16 => ?_)
      · -- 21
        replace hF := gj_ift c16 hF
        refine gj_iload_n (q := 22) (gj_dk okX6_kindOf 13 rfl) rfl rfl ?_
        refine gj_bipush (q := 24) (gj_dk okX6_kindOf 14 rfl) (by decide) rfl rfl ?_
        refine gj_icmp_lt (q := 27) (tgt := 35) (gj_dk okX6_kindOf 15 rfl) (by decide) rfl (fun c24 => ?_) (fun c24 => ?_)
        · -- 35
          replace hF := gj_ift c24 hF
          refine gj_iload_n (q := 36) (gj_dk okX6_kindOf 21 rfl) rfl rfl ?_
          refine gj_bipush (q := 38) (gj_dk okX6_kindOf 22 rfl) (by decide) rfl rfl ?_
          refine gj_icmp_ne (q := 41) (tgt := 45) (gj_dk okX6_kindOf 23 rfl) (by decide) rfl (fun c38 => ?_) (fun c38 => ?_)
          · -- 45
            replace hF := gj_iff c38 hF
            refine gj_iconst (q := 46) (gj_dk okX6_kindOf 26 rfl) (by decide) rfl ?_
            subst hF
            exact gj_iret (gj_dk okX6_kindOf 27 rfl) rfl ⟨_, rfl, rfl, rfl, rfl⟩
          · -- 41
            replace hF := gj_ift c38 hF
            refine gj_iconst (q := 42) (gj_dk okX6_kindOf 24 rfl) (by decide) rfl ?_
            refine gj_goto (tgt := 46) (gj_dk okX6_kindOf 25 rfl) (by decide) ?_
            subst hF
            exact gj_iret (gj_dk okX6_kindOf 27 rfl) rfl ⟨_, rfl, rfl, rfl, rfl⟩
        · -- 27
          replace hF := gj_iff c24 hF
          refine gj_iload_n (q := 28) (gj_dk okX6_kindOf 16 rfl) rfl rfl ?_
          refine gj_bipush (q := 30) (gj_dk okX6_kindOf 17 rfl) (by decide) rfl rfl ?_
          refine gj_icmp_gt (q := 33) (tgt := 35) (gj_dk okX6_kindOf 18 rfl) (by decide) rfl (fun c30 => ?_) (fun c30 => ?_)
          · -- 35
            replace hF := gj_ift c30 hF
            refine gj_iload_n (q := 36) (gj_dk okX6_kindOf 21 rfl) rfl rfl ?_
            refine gj_bipush (q := 38) (gj_dk okX6_kindOf 22 rfl) (by decide) rfl rfl ?_
            refine gj_icmp_ne (q := 41) (tgt := 45) (gj_dk okX6_kindOf 23 rfl) (by decide) rfl (fun c38 => ?_) (fun c38 => ?_)
            · -- 45
              replace hF := gj_iff c38 hF
              refine gj_iconst (q := 46) (gj_dk okX6_kindOf 26 rfl) (by decide) rfl ?_
              subst hF
              exact gj_iret (gj_dk okX6_kindOf 27 rfl) rfl ⟨_, rfl, rfl, rfl, rfl⟩
            · -- 41
              replace hF := gj_ift c38 hF
              refine gj_iconst (q := 42) (gj_dk okX6_kindOf 24 rfl) (by decide) rfl ?_
              refine gj_goto (tgt := 46) (gj_dk okX6_kindOf 25 rfl) (by decide) ?_
              subst hF
              exact gj_iret (gj_dk okX6_kindOf 27 rfl) rfl ⟨_, rfl, rfl, rfl, rfl⟩
          · -- 33
            replace hF := gj_iff c30 hF
            refine gj_iconst (q := 34) (gj_dk okX6_kindOf 19 rfl) (by decide) rfl ?_
            subst hF
            exact gj_iret (gj_dk okX6_kindOf 20 rfl) rfl ⟨_, rfl, rfl, rfl, rfl⟩
      · -- 19
        replace hF := gj_iff c16 hF
        refine gj_iconst (q := 20) (gj_dk okX6_kindOf 11 rfl) (by decide) rfl ?_
        subst hF
        exact gj_iret (gj_dk okX6_kindOf 12 rfl) rfl ⟨_, rfl, rfl, rfl, rfl⟩
  · -- 5
    replace hF := gj_ift c2 hF
    refine gj_iconst (q := 6) (gj_dk okX6_kindOf 3 rfl) (by decide) rfl ?_
    subst hF
    exact gj_iret (gj_dk okX6_kindOf 4 rfl) rfl ⟨_, rfl, rfl, rfl, rfl⟩
def B_X6_scan_110 (rec110 : gj_M → Option (gj_M)) (M : gj_M) : Option (gj_M) :=
  gj_letI (f_X9_length M) (fun x10 => (if x10 ≤ M 10 8 then (some (M)) else gj_letI (f_X9_byteAt (M 10 8) M) (fun x11 => gj_letI (f_X6_kindOf x11 M) (fun x12 => (if x12 = M 10 6 then gj_let (gj_up M 10 8 (gj_w ((M 10 8) + 1))) (fun M13 => rec110 M13) else (some (M)))))))
def J_X6_scan_91 (s1 : Int) (M : gj_M) : Option (gj_M) :=
  gj_let (gj_up M 10 8 s1) (fun M9 => (if M9 10 6 = 1 then (gj_it (fun _ => none) (B_X6_scan_110) gj_fu M9) else (if M9 10 6 = 2 then (gj_it (fun _ => none) (B_X6_scan_110) gj_fu M9) else (some (M9)))))
def J_X6_scan_52 (M : gj_M) : Option (gj_M) :=
  gj_letI (f_X9_byteAt (M 10 7) M) (fun x6 => gj_letI (f_X6_kindOf x6 M) (fun x7 => gj_let (gj_up M 10 6 x7) (fun M8 => (if M8 10 6 = 0 then (J_X6_scan_91 (M8 10 7) M8) else (J_X6_scan_91 (gj_w ((M8 10 7) + 1)) M8)))))
def B_X6_scan_8 (rec8 : gj_M → Option (gj_M)) (M : gj_M) : Option (gj_M) :=
  gj_letI (f_X9_length M) (fun x2 => (if x2 ≤ M 10 7 then (J_X6_scan_52 M) else gj_letI (f_X9_byteAt (M 10 7) M) (fun x3 => gj_letI (f_X6_isBlank x3 M) (fun x4 => (if x4 = 0 then (J_X6_scan_52 M) else gj_let (gj_up M 10 7 (gj_w ((M 10 7) + 1))) (fun M5 => rec8 M5))))))
def F_X6_scan (M : gj_M) : Option (gj_M) :=
  gj_let (gj_up M 10 7 (M 10 8)) (fun M1 => (gj_it (fun _ => none) (B_X6_scan_8) gj_fu M1))
set_option maxHeartbeats 4000000 in
set_option maxRecDepth 20000 in
theorem t_B_X6_scan_110 (hst : gj_Stat S) {r : gj_M} {rec110 : gj_M → Option (gj_M)} (hrec110 : ∀ (M : gj_M), rec110 M = some r → gj_W G l 3 0 0 yX6_scan cX6_scan 1 none (gj_qV fun S' M' => S = S' ∧ r = M') 0 0 110 [(0, jR 10)] [] S M) (M : gj_M) (hF : B_X6_scan_110 rec110 M = some r) : gj_W G l 3 0 0 yX6_scan cX6_scan 1 none (gj_qV fun S' M' => S = S' ∧ r = M') 0 0 110 [(0, jR 10)] [] S M := by
  unfold B_X6_scan_110 at hF
  refine gj_aload_n (q := 111) (gj_dk okX6_scan 52 rfl) rfl rfl ?_
  refine gj_gI (q := 114) (j := 8) (gj_dk okX6_scan 53 rfl) ff_X6_39 (sh10 hst) (by decide) rfl rfl ?_
  refine gj_aload_n (q := 115) (gj_dk okX6_scan 54 rfl) rfl rfl ?_
  refine gj_gR (q := 118) (j := 0) (gj_dk okX6_scan 55 rfl) ff_X6_22 (sh10 hst) (by decide) rfl (rf10_0 hst) rfl ?_
  refine gj_callV (q := 121) (z := 1) (ci := 8) [] rfl (t_X9_length hst  rfl) (gj_dk okX6_scan 56 rfl) ml_X6_51 me_X9_length (sh1 hst) rfl (gj_nm rfl) rfl (gj_kI fun x S2 M2 h => ?_)
  obtain ⟨e, eS, eM⟩ := h; subst eS; subst eM; subst e
  refine gj_stpI hF (fun x10 hF => ?_)
  refine gj_icmp_ge (q := 124) (tgt := 158) (gj_dk okX6_scan 57 rfl) (by decide) rfl (fun c121 => ?_) (fun c121 => ?_)
  · -- 158
    replace hF := gj_ift c121 hF
    cases hF
    exact gj_vret (gj_dk okX6_scan 74 rfl) rfl ⟨rfl, rfl, rfl⟩
  · -- 124
    replace hF := gj_iff c121 hF
    refine gj_aload_n (q := 125) (gj_dk okX6_scan 58 rfl) rfl rfl ?_
    refine gj_gR (q := 128) (j := 0) (gj_dk okX6_scan 59 rfl) ff_X6_22 (sh10 hst) (by decide) rfl (rf10_0 hst) rfl ?_
    refine gj_aload_n (q := 129) (gj_dk okX6_scan 60 rfl) rfl rfl ?_
    refine gj_gI (q := 132) (j := 8) (gj_dk okX6_scan 61 rfl) ff_X6_39 (sh10 hst) (by decide) rfl rfl ?_
    refine gj_callV (q := 135) (z := 1) (ci := 8) [jI (M 10 8)] rfl (t_X9_byteAt hst (M 10 8) rfl) (gj_dk okX6_scan 62 rfl) ml_X6_70 me_X9_byteAt (sh1 hst) rfl (gj_nm rfl) rfl (gj_kI fun x S2 M2 h => ?_)
    obtain ⟨e, eS, eM⟩ := h; subst eS; subst eM; subst e
    refine gj_stpI hF (fun x11 hF => ?_)
    refine gj_callS (q := 138) [jI x11] rfl (t_X6_kindOf hst x11 rfl) (gj_dk okX6_scan 63 rfl) ml_X6_78 me_X6_kindOf (gj_nm rfl) rfl (gj_kI fun x S2 M2 h => ?_)
    obtain ⟨e, eS, eM⟩ := h; subst eS; subst eM; subst e
    refine gj_stpI hF (fun x12 hF => ?_)
    refine gj_aload_n (q := 139) (gj_dk okX6_scan 64 rfl) rfl rfl ?_
    refine gj_gI (q := 142) (j := 6) (gj_dk okX6_scan 65 rfl) ff_X6_57 (sh10 hst) (by decide) rfl rfl ?_
    refine gj_icmp_ne (q := 145) (tgt := 158) (gj_dk okX6_scan 66 rfl) (by decide) rfl (fun c142 => ?_) (fun c142 => ?_)
    · -- 158
      replace hF := gj_iff c142 hF
      cases hF
      exact gj_vret (gj_dk okX6_scan 74 rfl) rfl ⟨rfl, rfl, rfl⟩
    · -- 145
      replace hF := gj_ift c142 hF
      refine gj_aload_n (q := 146) (gj_dk okX6_scan 67 rfl) rfl rfl ?_
      refine gj_dup (q := 147) (gj_dk okX6_scan 68 rfl) rfl rfl ?_
      refine gj_gI (q := 150) (j := 8) (gj_dk okX6_scan 69 rfl) ff_X6_39 (sh10 hst) (by decide) rfl rfl ?_
      refine gj_iconst (q := 151) (gj_dk okX6_scan 70 rfl) (by decide) rfl ?_
      refine gj_iadd (q := 152) (gj_dk okX6_scan 71 rfl) rfl ?_
      refine gj_pfI (q := 155) (j := 8) (gj_dk okX6_scan 72 rfl) ff_X6_39 (sh10 hst) (by decide) rfl rfl ?_
      refine gj_stp hF (fun M13 hF => ?_)
      refine gj_goto (tgt := 110) (gj_dk okX6_scan 73 rfl) (by decide) ?_
      refine gj_sub [(0, jR 10)] ⟨rfl, trivial⟩ ?_
      exact hrec110 M13 hF
theorem t_L_X6_scan_110 (hst : gj_Stat S) {r : gj_M} : ∀ (m : Nat) (M : gj_M), gj_it (fun _ => none) (B_X6_scan_110) m M = some r → gj_W G l 3 0 0 yX6_scan cX6_scan 1 none (gj_qV fun S' M' => S = S' ∧ r = M') 0 0 110 [(0, jR 10)] [] S M := by
  intro m
  induction m with
  | zero => intro M hF; cases (show (none : Option (gj_M)) = some r from hF)
  | succ m ih => intro M hF; exact t_B_X6_scan_110 hst (fun M h => ih M h) M hF
set_option maxHeartbeats 4000000 in
set_option maxRecDepth 20000 in
theorem t_J_X6_scan_91 (hst : gj_Stat S) {r : gj_M} (s1 : Int) (M : gj_M) (hF : J_X6_scan_91 s1 M = some r) : gj_W G l 3 0 0 yX6_scan cX6_scan 1 none (gj_qV fun S' M' => S = S' ∧ r = M') 0 0 91 [(0, jR 10)] [jI s1, jR 10] S M := by
  unfold J_X6_scan_91 at hF
  refine gj_pfI (q := 94) (j := 8) (gj_dk okX6_scan 43 rfl) ff_X6_39 (sh10 hst) (by decide) rfl rfl ?_
  refine gj_stp hF (fun M9 hF => ?_)
  refine gj_aload_n (q := 95) (gj_dk okX6_scan 44 rfl) rfl rfl ?_
  refine gj_gI (q := 98) (j := 6) (gj_dk okX6_scan 45 rfl) ff_X6_57 (sh10 hst) (by decide) rfl rfl ?_
  refine gj_iconst (q := 99) (gj_dk okX6_scan 46 rfl) (by decide) rfl ?_
  refine gj_icmp_eq (q := 102) (tgt := 110) (gj_dk okX6_scan 47 rfl) (by decide) rfl (fun c99 => ?_) (fun c99 => ?_)
  · -- 110
    replace hF := gj_ift c99 hF
    refine gj_sub [(0, jR 10)] ⟨rfl, trivial⟩ ?_
    exact t_L_X6_scan_110 hst gj_fu M9 hF
  · -- 102
    replace hF := gj_iff c99 hF
    refine gj_aload_n (q := 103) (gj_dk okX6_scan 48 rfl) rfl rfl ?_
    refine gj_gI (q := 106) (j := 6) (gj_dk okX6_scan 49 rfl) ff_X6_57 (sh10 hst) (by decide) rfl rfl ?_
    refine gj_iconst (q := 107) (gj_dk okX6_scan 50 rfl) (by decide) rfl ?_
    refine gj_icmp_ne (q := 110) (tgt := 158) (gj_dk okX6_scan 51 rfl) (by decide) rfl (fun c107 => ?_) (fun c107 => ?_)
    · -- 158
      replace hF := gj_iff c107 hF
      cases hF
      exact gj_vret (gj_dk okX6_scan 74 rfl) rfl ⟨rfl, rfl, rfl⟩
    · -- 110
      replace hF := gj_ift c107 hF
      refine gj_sub [(0, jR 10)] ⟨rfl, trivial⟩ ?_
      exact t_L_X6_scan_110 hst gj_fu M9 hF
set_option maxHeartbeats 4000000 in
set_option maxRecDepth 20000 in
theorem t_J_X6_scan_52 (hst : gj_Stat S) {r : gj_M} (M : gj_M) (hF : J_X6_scan_52 M = some r) : gj_W G l 3 0 0 yX6_scan cX6_scan 1 none (gj_qV fun S' M' => S = S' ∧ r = M') 0 0 52 [(0, jR 10)] [] S M := by
  unfold J_X6_scan_52 at hF
  refine gj_aload_n (q := 53) (gj_dk okX6_scan 24 rfl) rfl rfl ?_
  refine gj_aload_n (q := 54) (gj_dk okX6_scan 25 rfl) rfl rfl ?_
  refine gj_gR (q := 57) (j := 0) (gj_dk okX6_scan 26 rfl) ff_X6_22 (sh10 hst) (by decide) rfl (rf10_0 hst) rfl ?_
  refine gj_aload_n (q := 58) (gj_dk okX6_scan 27 rfl) rfl rfl ?_
  refine gj_gI (q := 61) (j := 7) (gj_dk okX6_scan 28 rfl) ff_X6_64 (sh10 hst) (by decide) rfl rfl ?_
  refine gj_callV (q := 64) (z := 1) (ci := 8) [jI (M 10 7)] rfl (t_X9_byteAt hst (M 10 7) rfl) (gj_dk okX6_scan 29 rfl) ml_X6_70 me_X9_byteAt (sh1 hst) rfl (gj_nm rfl) rfl (gj_kI fun x S2 M2 h => ?_)
  obtain ⟨e, eS, eM⟩ := h; subst eS; subst eM; subst e
  refine gj_stpI hF (fun x6 hF => ?_)
  refine gj_callS (q := 67) [jI x6] rfl (t_X6_kindOf hst x6 rfl) (gj_dk okX6_scan 30 rfl) ml_X6_78 me_X6_kindOf (gj_nm rfl) rfl (gj_kI fun x S2 M2 h => ?_)
  obtain ⟨e, eS, eM⟩ := h; subst eS; subst eM; subst e
  refine gj_stpI hF (fun x7 hF => ?_)
  refine gj_pfI (q := 70) (j := 6) (gj_dk okX6_scan 31 rfl) ff_X6_57 (sh10 hst) (by decide) rfl rfl ?_
  refine gj_stp hF (fun M8 hF => ?_)
  refine gj_aload_n (q := 71) (gj_dk okX6_scan 32 rfl) rfl rfl ?_
  refine gj_aload_n (q := 72) (gj_dk okX6_scan 33 rfl) rfl rfl ?_
  refine gj_gI (q := 75) (j := 6) (gj_dk okX6_scan 34 rfl) ff_X6_57 (sh10 hst) (by decide) rfl rfl ?_
  refine gj_if_ne (q := 78) (tgt := 85) (gj_dk okX6_scan 35 rfl) (by decide) rfl (fun c75 => ?_) (fun c75 => ?_)
  · -- 85
    replace hF := gj_iff c75 hF
    refine gj_aload_n (q := 86) (gj_dk okX6_scan 39 rfl) rfl rfl ?_
    refine gj_gI (q := 89) (j := 7) (gj_dk okX6_scan 40 rfl) ff_X6_64 (sh10 hst) (by decide) rfl rfl ?_
    refine gj_iconst (q := 90) (gj_dk okX6_scan 41 rfl) (by decide) rfl ?_
    refine gj_iadd (q := 91) (gj_dk okX6_scan 42 rfl) rfl ?_
    refine gj_sub [(0, jR 10)] ⟨rfl, trivial⟩ ?_
    exact t_J_X6_scan_91 hst (gj_w ((M8 10 7) + 1)) M8 hF
  · -- 78
    replace hF := gj_ift c75 hF
    refine gj_aload_n (q := 79) (gj_dk okX6_scan 36 rfl) rfl rfl ?_
    refine gj_gI (q := 82) (j := 7) (gj_dk okX6_scan 37 rfl) ff_X6_64 (sh10 hst) (by decide) rfl rfl ?_
    refine gj_goto (tgt := 91) (gj_dk okX6_scan 38 rfl) (by decide) ?_
    refine gj_sub [(0, jR 10)] ⟨rfl, trivial⟩ ?_
    exact t_J_X6_scan_91 hst (M8 10 7) M8 hF
set_option maxHeartbeats 4000000 in
set_option maxRecDepth 20000 in
theorem t_B_X6_scan_8 (hst : gj_Stat S) {r : gj_M} {rec8 : gj_M → Option (gj_M)} (hrec8 : ∀ (M : gj_M), rec8 M = some r → gj_W G l 3 0 0 yX6_scan cX6_scan 1 none (gj_qV fun S' M' => S = S' ∧ r = M') 0 0 8 [(0, jR 10)] [] S M) (M : gj_M) (hF : B_X6_scan_8 rec8 M = some r) : gj_W G l 3 0 0 yX6_scan cX6_scan 1 none (gj_qV fun S' M' => S = S' ∧ r = M') 0 0 8 [(0, jR 10)] [] S M := by
  unfold B_X6_scan_8 at hF
  refine gj_aload_n (q := 9) (gj_dk okX6_scan 4 rfl) rfl rfl ?_
  refine gj_gI (q := 12) (j := 7) (gj_dk okX6_scan 5 rfl) ff_X6_64 (sh10 hst) (by decide) rfl rfl ?_
  refine gj_aload_n (q := 13) (gj_dk okX6_scan 6 rfl) rfl rfl ?_
  refine gj_gR (q := 16) (j := 0) (gj_dk okX6_scan 7 rfl) ff_X6_22 (sh10 hst) (by decide) rfl (rf10_0 hst) rfl ?_
  refine gj_callV (q := 19) (z := 1) (ci := 8) [] rfl (t_X9_length hst  rfl) (gj_dk okX6_scan 8 rfl) ml_X6_51 me_X9_length (sh1 hst) rfl (gj_nm rfl) rfl (gj_kI fun x S2 M2 h => ?_)
  obtain ⟨e, eS, eM⟩ := h; subst eS; subst eM; subst e
  refine gj_stpI hF (fun x2 hF => ?_)
  refine gj_icmp_ge (q := 22) (tgt := 52) (gj_dk okX6_scan 9 rfl) (by decide) rfl (fun c19 => ?_) (fun c19 => ?_)
  · -- 52
    replace hF := gj_ift c19 hF
    refine gj_sub [(0, jR 10)] ⟨rfl, trivial⟩ ?_
    exact t_J_X6_scan_52 hst M hF
  · -- 22
    replace hF := gj_iff c19 hF
    refine gj_aload_n (q := 23) (gj_dk okX6_scan 10 rfl) rfl rfl ?_
    refine gj_gR (q := 26) (j := 0) (gj_dk okX6_scan 11 rfl) ff_X6_22 (sh10 hst) (by decide) rfl (rf10_0 hst) rfl ?_
    refine gj_aload_n (q := 27) (gj_dk okX6_scan 12 rfl) rfl rfl ?_
    refine gj_gI (q := 30) (j := 7) (gj_dk okX6_scan 13 rfl) ff_X6_64 (sh10 hst) (by decide) rfl rfl ?_
    refine gj_callV (q := 33) (z := 1) (ci := 8) [jI (M 10 7)] rfl (t_X9_byteAt hst (M 10 7) rfl) (gj_dk okX6_scan 14 rfl) ml_X6_70 me_X9_byteAt (sh1 hst) rfl (gj_nm rfl) rfl (gj_kI fun x S2 M2 h => ?_)
    obtain ⟨e, eS, eM⟩ := h; subst eS; subst eM; subst e
    refine gj_stpI hF (fun x3 hF => ?_)
    refine gj_callS (q := 36) [jI x3] rfl (t_X6_isBlank hst x3 rfl) (gj_dk okX6_scan 15 rfl) ml_X6_74 me_X6_isBlank (gj_nm rfl) rfl (gj_kI fun x S2 M2 h => ?_)
    obtain ⟨bz, e, eS, eM⟩ := h; subst eS; subst eM; subst e
    refine gj_stpZ bz hF (fun x4 bx4 hF => ?_)
    refine gj_if_eq (q := 39) (tgt := 52) (gj_dk okX6_scan 16 rfl) (by decide) rfl (fun c36 => ?_) (fun c36 => ?_)
    · -- 52
      replace hF := gj_ift c36 hF
      refine gj_sub [(0, jR 10)] ⟨rfl, trivial⟩ ?_
      exact t_J_X6_scan_52 hst M hF
    · -- 39
      replace hF := gj_iff c36 hF
      refine gj_aload_n (q := 40) (gj_dk okX6_scan 17 rfl) rfl rfl ?_
      refine gj_dup (q := 41) (gj_dk okX6_scan 18 rfl) rfl rfl ?_
      refine gj_gI (q := 44) (j := 7) (gj_dk okX6_scan 19 rfl) ff_X6_64 (sh10 hst) (by decide) rfl rfl ?_
      refine gj_iconst (q := 45) (gj_dk okX6_scan 20 rfl) (by decide) rfl ?_
      refine gj_iadd (q := 46) (gj_dk okX6_scan 21 rfl) rfl ?_
      refine gj_pfI (q := 49) (j := 7) (gj_dk okX6_scan 22 rfl) ff_X6_64 (sh10 hst) (by decide) rfl rfl ?_
      refine gj_stp hF (fun M5 hF => ?_)
      refine gj_goto (tgt := 8) (gj_dk okX6_scan 23 rfl) (by decide) ?_
      refine gj_sub [(0, jR 10)] ⟨rfl, trivial⟩ ?_
      exact hrec8 M5 hF
theorem t_L_X6_scan_8 (hst : gj_Stat S) {r : gj_M} : ∀ (m : Nat) (M : gj_M), gj_it (fun _ => none) (B_X6_scan_8) m M = some r → gj_W G l 3 0 0 yX6_scan cX6_scan 1 none (gj_qV fun S' M' => S = S' ∧ r = M') 0 0 8 [(0, jR 10)] [] S M := by
  intro m
  induction m with
  | zero => intro M hF; cases (show (none : Option (gj_M)) = some r from hF)
  | succ m ih => intro M hF; exact t_B_X6_scan_8 hst (fun M h => ih M h) M hF
set_option maxHeartbeats 4000000 in
set_option maxRecDepth 20000 in
theorem t_X6_scan (hst : gj_Stat S) {r : gj_M} (hF : F_X6_scan M = some r) : gj_C G l 3 0 0 yX6_scan cX6_scan 1 none [jR 10] S M (gj_qV fun S' M' => S = S' ∧ r = M') := by
  refine gj_Cof (by decide +kernel) (Nat.le_of_ble_eq_true rfl) ?_
  change gj_W G l 3 0 0 yX6_scan cX6_scan 1 none (gj_qV fun S' M' => S = S' ∧ r = M') 0 0 0 [(0, jR 10)] [] S M
  unfold F_X6_scan at hF
  refine gj_aload_n (q := 1) (gj_dk okX6_scan 0 rfl) rfl rfl ?_
  refine gj_aload_n (q := 2) (gj_dk okX6_scan 1 rfl) rfl rfl ?_
  refine gj_gI (q := 5) (j := 8) (gj_dk okX6_scan 2 rfl) ff_X6_39 (sh10 hst) (by decide) rfl rfl ?_
  refine gj_pfI (q := 8) (j := 7) (gj_dk okX6_scan 3 rfl) ff_X6_64 (sh10 hst) (by decide) rfl rfl ?_
  refine gj_stp hF (fun M1 hF => ?_)
  refine gj_sub [(0, jR 10)] ⟨rfl, trivial⟩ ?_
  exact t_L_X6_scan_8 hst gj_fu M1 hF
def B_X6_isWord_28 (j1 : Nat) (M : gj_M) (rec28 : Int → Option (Int)) (l2 : Int) : Option (Int) :=
  (if gj_len j1 ≤ l2 then (some (1)) else gj_chk (0 ≤ l2 ∧ l2 < gj_len j1) (gj_letI (f_X9_byteAt (gj_w ((M 10 7) + l2)) M) (fun x2 => (if gj_ch j1 (l2).toNat = x2 then rec28 (gj_w (l2 + 1)) else (some (0))))))
def F_X6_isWord (j1 : Nat) (M : gj_M) : Option (Int) :=
  (if M 10 6 = 1 then (if gj_len j1 = gj_w ((M 10 8) - (M 10 7)) then (gj_it (fun _ => none) (B_X6_isWord_28 j1 M) gj_fu 0) else (some (0))) else (some (0)))
set_option maxHeartbeats 4000000 in
set_option maxRecDepth 20000 in
theorem t_B_X6_isWord_28 (hst : gj_Stat S) (j1 : Nat) (hj1 : j1 < 9) {r : Int} {rec28 : Int → Option (Int)} (hrec28 : ∀ (l2 : Int), rec28 l2 = some r → gj_W G l 5 0 0 yX6_isWord cX6_isWord 3 (some .boolean) (gj_qI fun x S' M' => (x = 0 ∨ x = 1) ∧ r = x ∧ S = S' ∧ M = M') 0 0 28 [(0, jR 10), (1, jR ((-2 - (j1 : Int)))), (2, jI l2)] [] S M) (l2 : Int) (hF : B_X6_isWord_28 j1 M rec28 l2 = some r) : gj_W G l 5 0 0 yX6_isWord cX6_isWord 3 (some .boolean) (gj_qI fun x S' M' => (x = 0 ∨ x = 1) ∧ r = x ∧ S = S' ∧ M = M') 0 0 28 [(0, jR 10), (1, jR ((-2 - (j1 : Int)))), (2, jI l2)] [] S M := by
  unfold B_X6_isWord_28 at hF
  refine gj_iload_n (q := 29) (gj_dk okX6_isWord 16 rfl) rfl rfl ?_
  refine gj_aload_n (q := 30) (gj_dk okX6_isWord 17 rfl) rfl rfl ?_
  refine gj_callT (q := 33) [] (j := j1) hj1 rfl rfl (c_J0_length hj1 rfl) (gj_dk okX6_isWord 18 rfl) ml_X6_230 me_J0_length_8abf5 rfl (gj_nm rfl) rfl (gj_kI fun x S2 M2 h => ?_)
  obtain ⟨e, eS, eM⟩ := h; subst eS; subst eM; subst e
  refine gj_icmp_ge (q := 36) (tgt := 65) (gj_dk okX6_isWord 19 rfl) (by decide) rfl (fun c33 => ?_) (fun c33 => ?_)
  · -- 65
    replace hF := gj_ift c33 hF
    refine gj_iconst (q := 66) (gj_dk okX6_isWord 35 rfl) (by decide) rfl ?_
    cases hF
    exact gj_zret (gj_dk okX6_isWord 36 rfl) rfl (by decide) ⟨_, rfl, (by decide), rfl, rfl, rfl⟩
  · -- 36
    replace hF := gj_iff c33 hF
    refine gj_aload_n (q := 37) (gj_dk okX6_isWord 20 rfl) rfl rfl ?_
    refine gj_iload_n (q := 38) (gj_dk okX6_isWord 21 rfl) rfl rfl ?_
    obtain ⟨b1, hF⟩ := gj_ckd hF
    refine gj_callT (q := 41) [jI l2] (j := j1) hj1 rfl rfl (c_J0_charAt hj1 rfl b1.1 b1.2) (gj_dk okX6_isWord 22 rfl) ml_X6_233 me_J0_charAt_5068e rfl (gj_nm rfl) rfl (gj_kI fun x S2 M2 h => ?_)
    obtain ⟨e, eS, eM⟩ := h; subst eS; subst eM; subst e
    refine gj_aload_n (q := 42) (gj_dk okX6_isWord 23 rfl) rfl rfl ?_
    refine gj_gR (q := 45) (j := 0) (gj_dk okX6_isWord 24 rfl) ff_X6_22 (sh10 hst) (by decide) rfl (rf10_0 hst) rfl ?_
    refine gj_aload_n (q := 46) (gj_dk okX6_isWord 25 rfl) rfl rfl ?_
    refine gj_gI (q := 49) (j := 7) (gj_dk okX6_isWord 26 rfl) ff_X6_64 (sh10 hst) (by decide) rfl rfl ?_
    refine gj_iload_n (q := 50) (gj_dk okX6_isWord 27 rfl) rfl rfl ?_
    refine gj_iadd (q := 51) (gj_dk okX6_isWord 28 rfl) rfl ?_
    refine gj_callV (q := 54) (z := 1) (ci := 8) [jI (gj_w ((M 10 7) + l2))] rfl (t_X9_byteAt hst (gj_w ((M 10 7) + l2)) rfl) (gj_dk okX6_isWord 29 rfl) ml_X6_70 me_X9_byteAt (sh1 hst) rfl (gj_nm rfl) rfl (gj_kI fun x S2 M2 h => ?_)
    obtain ⟨e, eS, eM⟩ := h; subst eS; subst eM; subst e
    refine gj_stpI hF (fun x2 hF => ?_)
    refine gj_icmp_eq (q := 57) (tgt := 59) (gj_dk okX6_isWord 30 rfl) (by decide) rfl (fun c54 => ?_) (fun c54 => ?_)
    · -- 59
      replace hF := gj_ift c54 hF
      refine gj_iinc (q := 62) (v := gj_w (l2 + 1)) (gj_dk okX6_isWord 33 rfl) rfl (by decide) rfl rfl ?_
      refine gj_goto (tgt := 28) (gj_dk okX6_isWord 34 rfl) (by decide) ?_
      refine gj_sub [(0, jR 10), (1, jR ((-2 - (j1 : Int)))), (2, jI (gj_w (l2 + 1)))] ⟨rfl, rfl, rfl, trivial⟩ ?_
      exact hrec28 (gj_w (l2 + 1)) hF
    · -- 57
      replace hF := gj_iff c54 hF
      refine gj_iconst (q := 58) (gj_dk okX6_isWord 31 rfl) (by decide) rfl ?_
      cases hF
      exact gj_zret (gj_dk okX6_isWord 32 rfl) rfl (by decide) ⟨_, rfl, (by decide), rfl, rfl, rfl⟩
theorem t_L_X6_isWord_28 (hst : gj_Stat S) (j1 : Nat) (hj1 : j1 < 9) {r : Int} : ∀ (m : Nat) (l2 : Int), gj_it (fun _ => none) (B_X6_isWord_28 j1 M) m l2 = some r → gj_W G l 5 0 0 yX6_isWord cX6_isWord 3 (some .boolean) (gj_qI fun x S' M' => (x = 0 ∨ x = 1) ∧ r = x ∧ S = S' ∧ M = M') 0 0 28 [(0, jR 10), (1, jR ((-2 - (j1 : Int)))), (2, jI l2)] [] S M := by
  intro m
  induction m with
  | zero => intro l2 hF; cases (show (none : Option (Int)) = some r from hF)
  | succ m ih => intro l2 hF; exact t_B_X6_isWord_28 hst j1 hj1 (fun l2 h => ih l2 h) l2 hF
set_option maxHeartbeats 4000000 in
set_option maxRecDepth 20000 in
theorem t_X6_isWord (hst : gj_Stat S) (j1 : Nat) (hj1 : j1 < 9) {r : Int} (hF : F_X6_isWord j1 M = some r) : gj_C G l 5 0 0 yX6_isWord cX6_isWord 3 (some .boolean) [jR 10, jR ((-2 - (j1 : Int)))] S M (gj_qI fun x S' M' => (x = 0 ∨ x = 1) ∧ r = x ∧ S = S' ∧ M = M') := by
  refine gj_Cof (by decide +kernel) (Nat.le_of_ble_eq_true rfl) ?_
  change gj_W G l 5 0 0 yX6_isWord cX6_isWord 3 (some .boolean) (gj_qI fun x S' M' => (x = 0 ∨ x = 1) ∧ r = x ∧ S = S' ∧ M = M') 0 0 0 [(0, jR 10), (1, jR ((-2 - (j1 : Int))))] [] S M
  unfold F_X6_isWord at hF
  refine gj_aload_n (q := 1) (gj_dk okX6_isWord 0 rfl) rfl rfl ?_
  refine gj_gI (q := 4) (j := 6) (gj_dk okX6_isWord 1 rfl) ff_X6_57 (sh10 hst) (by decide) rfl rfl ?_
  refine gj_iconst (q := 5) (gj_dk okX6_isWord 2 rfl) (by decide) rfl ?_
  refine gj_icmp_ne (q := 8) (tgt := 24) (gj_dk okX6_isWord 3 rfl) (by decide) rfl (fun c5 => ?_) (fun c5 => ?_)
  · -- 24
    replace hF := gj_iff c5 hF
    refine gj_iconst (q := 25) (gj_dk okX6_isWord 12 rfl) (by decide) rfl ?_
    cases hF
    exact gj_zret (gj_dk okX6_isWord 13 rfl) rfl (by decide) ⟨_, rfl, (by decide), rfl, rfl, rfl⟩
  · -- 8
    replace hF := gj_ift c5 hF
    refine gj_aload_n (q := 9) (gj_dk okX6_isWord 4 rfl) rfl rfl ?_
    refine gj_callT (q := 12) [] (j := j1) hj1 rfl rfl (c_J0_length hj1 rfl) (gj_dk okX6_isWord 5 rfl) ml_X6_230 me_J0_length_8abf5 rfl (gj_nm rfl) rfl (gj_kI fun x S2 M2 h => ?_)
    obtain ⟨e, eS, eM⟩ := h; subst eS; subst eM; subst e
    refine gj_aload_n (q := 13) (gj_dk okX6_isWord 6 rfl) rfl rfl ?_
    refine gj_gI (q := 16) (j := 8) (gj_dk okX6_isWord 7 rfl) ff_X6_39 (sh10 hst) (by decide) rfl rfl ?_
    refine gj_aload_n (q := 17) (gj_dk okX6_isWord 8 rfl) rfl rfl ?_
    refine gj_gI (q := 20) (j := 7) (gj_dk okX6_isWord 9 rfl) ff_X6_64 (sh10 hst) (by decide) rfl rfl ?_
    refine gj_isub (q := 21) (gj_dk okX6_isWord 10 rfl) rfl ?_
    refine gj_icmp_eq (q := 24) (tgt := 26) (gj_dk okX6_isWord 11 rfl) (by decide) rfl (fun c21 => ?_) (fun c21 => ?_)
    · -- 26
      replace hF := gj_ift c21 hF
      refine gj_iconst (q := 27) (gj_dk okX6_isWord 14 rfl) (by decide) rfl ?_
      refine gj_istore_n (q := 28) (gj_dk okX6_isWord 15 rfl) (by decide) rfl ?_
      refine gj_sub [(0, jR 10), (1, jR ((-2 - (j1 : Int)))), (2, jI 0)] ⟨rfl, rfl, rfl, trivial⟩ ?_
      exact t_L_X6_isWord_28 hst j1 hj1 gj_fu 0 hF
    · -- 24
      replace hF := gj_iff c21 hF
      refine gj_iconst (q := 25) (gj_dk okX6_isWord 12 rfl) (by decide) rfl ?_
      cases hF
      exact gj_zret (gj_dk okX6_isWord 13 rfl) rfl (by decide) ⟨_, rfl, (by decide), rfl, rfl, rfl⟩
def B_X6_nameHere_31 (M : gj_M) (rec31 : Int → Int → Option (Int)) (l1 l3 : Int) : Option (Int) :=
  (if M 10 8 ≤ l3 then (some (l1)) else gj_letI (f_X9_byteAt l3 M) (fun x1 => gj_letI (gj_wl ((gj_wl (l1 * 256)) + x1)) (fun x2 => rec31 x2 (gj_w (l3 + 1)))))
def F_X6_nameHere (M : gj_M) : Option (Int) :=
  (if M 10 6 = 1 then (if gj_w ((M 10 8) - (M 10 7)) ≤ 8 then (gj_it (fun _ _ => none) (B_X6_nameHere_31 M) gj_fu 0 (M 10 7)) else (some (0))) else (some (0)))
set_option maxHeartbeats 4000000 in
set_option maxRecDepth 20000 in
theorem t_B_X6_nameHere_31 (hst : gj_Stat S) {r : Int} {rec31 : Int → Int → Option (Int)} (hrec31 : ∀ (l1 l3 : Int), rec31 l1 l3 = some r → gj_W G l 3 0 0 yX6_nameHere cX6_nameHere 4 (some .long) (gj_qL fun x S' M' => r = x ∧ S = S' ∧ M = M') 0 0 31 [(0, jR 10), (1, jL l1), (3, jI l3)] [] S M) (l1 l3 : Int) (hF : B_X6_nameHere_31 M rec31 l1 l3 = some r) : gj_W G l 3 0 0 yX6_nameHere cX6_nameHere 4 (some .long) (gj_qL fun x S' M' => r = x ∧ S = S' ∧ M = M') 0 0 31 [(0, jR 10), (1, jL l1), (3, jI l3)] [] S M := by
  unfold B_X6_nameHere_31 at hF
  refine gj_iload_n (q := 32) (gj_dk okX6_nameHere 18 rfl) rfl rfl ?_
  refine gj_aload_n (q := 33) (gj_dk okX6_nameHere 19 rfl) rfl rfl ?_
  refine gj_gI (q := 36) (j := 8) (gj_dk okX6_nameHere 20 rfl) ff_X6_39 (sh10 hst) (by decide) rfl rfl ?_
  refine gj_icmp_ge (q := 39) (tgt := 61) (gj_dk okX6_nameHere 21 rfl) (by decide) rfl (fun c36 => ?_) (fun c36 => ?_)
  · -- 61
    replace hF := gj_ift c36 hF
    refine gj_lload_n (q := 62) (gj_dk okX6_nameHere 34 rfl) rfl rfl ?_
    cases hF
    exact gj_lret (gj_dk okX6_nameHere 35 rfl) rfl ⟨_, rfl, rfl, rfl, rfl⟩
  · -- 39
    replace hF := gj_iff c36 hF
    refine gj_lload_n (q := 40) (gj_dk okX6_nameHere 22 rfl) rfl rfl ?_
    refine gj_ldc2 (q := 43) (z := 256) (gj_dk okX6_nameHere 23 rfl) kl_X6_225 (by decide) rfl ?_
    refine gj_lmul (q := 44) (gj_dk okX6_nameHere 24 rfl) rfl ?_
    refine gj_aload_n (q := 45) (gj_dk okX6_nameHere 25 rfl) rfl rfl ?_
    refine gj_gR (q := 48) (j := 0) (gj_dk okX6_nameHere 26 rfl) ff_X6_22 (sh10 hst) (by decide) rfl (rf10_0 hst) rfl ?_
    refine gj_iload_n (q := 49) (gj_dk okX6_nameHere 27 rfl) rfl rfl ?_
    refine gj_callV (q := 52) (z := 1) (ci := 8) [jI l3] rfl (t_X9_byteAt hst l3 rfl) (gj_dk okX6_nameHere 28 rfl) ml_X6_70 me_X9_byteAt (sh1 hst) rfl (gj_nm rfl) rfl (gj_kI fun x S2 M2 h => ?_)
    obtain ⟨e, eS, eM⟩ := h; subst eS; subst eM; subst e
    refine gj_stpI hF (fun x1 hF => ?_)
    refine gj_i2l (q := 53) (gj_dk okX6_nameHere 29 rfl) rfl ?_
    refine gj_ladd (q := 54) (gj_dk okX6_nameHere 30 rfl) rfl ?_
    refine gj_stpL hF (fun x2 hF => ?_)
    refine gj_lstore_n (q := 55) (gj_dk okX6_nameHere 31 rfl) (by decide) rfl ?_
    refine gj_iinc (q := 58) (v := gj_w (l3 + 1)) (gj_dk okX6_nameHere 32 rfl) rfl (by decide) rfl rfl ?_
    refine gj_goto (tgt := 31) (gj_dk okX6_nameHere 33 rfl) (by decide) ?_
    refine gj_sub [(0, jR 10), (1, jL x2), (3, jI (gj_w (l3 + 1)))] ⟨rfl, rfl, rfl, trivial⟩ ?_
    exact hrec31 x2 (gj_w (l3 + 1)) hF
theorem t_L_X6_nameHere_31 (hst : gj_Stat S) {r : Int} : ∀ (m : Nat) (l1 : Int) (l3 : Int), gj_it (fun _ _ => none) (B_X6_nameHere_31 M) m l1 l3 = some r → gj_W G l 3 0 0 yX6_nameHere cX6_nameHere 4 (some .long) (gj_qL fun x S' M' => r = x ∧ S = S' ∧ M = M') 0 0 31 [(0, jR 10), (1, jL l1), (3, jI l3)] [] S M := by
  intro m
  induction m with
  | zero => intro l1 l3 hF; cases (show (none : Option (Int)) = some r from hF)
  | succ m ih => intro l1 l3 hF; exact t_B_X6_nameHere_31 hst (fun l1 l3 h => ih l1 l3 h) l1 l3 hF
set_option maxHeartbeats 4000000 in
set_option maxRecDepth 20000 in
theorem t_X6_nameHere (hst : gj_Stat S) {r : Int} (hF : F_X6_nameHere M = some r) : gj_C G l 3 0 0 yX6_nameHere cX6_nameHere 4 (some .long) [jR 10] S M (gj_qL fun x S' M' => r = x ∧ S = S' ∧ M = M') := by
  refine gj_Cof (by decide +kernel) (Nat.le_of_ble_eq_true rfl) ?_
  change gj_W G l 3 0 0 yX6_nameHere cX6_nameHere 4 (some .long) (gj_qL fun x S' M' => r = x ∧ S = S' ∧ M = M') 0 0 0 [(0, jR 10)] [] S M
  unfold F_X6_nameHere at hF
  refine gj_aload_n (q := 1) (gj_dk okX6_nameHere 0 rfl) rfl rfl ?_
  refine gj_gI (q := 4) (j := 6) (gj_dk okX6_nameHere 1 rfl) ff_X6_57 (sh10 hst) (by decide) rfl rfl ?_
  refine gj_iconst (q := 5) (gj_dk okX6_nameHere 2 rfl) (by decide) rfl ?_
  refine gj_icmp_ne (q := 8) (tgt := 22) (gj_dk okX6_nameHere 3 rfl) (by decide) rfl (fun c5 => ?_) (fun c5 => ?_)
  · -- 22
    replace hF := gj_iff c5 hF
    refine gj_lconst (q := 23) (z := 0) (gj_dk okX6_nameHere 11 rfl) rfl (by decide) rfl ?_
    cases hF
    exact gj_lret (gj_dk okX6_nameHere 12 rfl) rfl ⟨_, rfl, rfl, rfl, rfl⟩
  · -- 8
    replace hF := gj_ift c5 hF
    refine gj_aload_n (q := 9) (gj_dk okX6_nameHere 4 rfl) rfl rfl ?_
    refine gj_gI (q := 12) (j := 8) (gj_dk okX6_nameHere 5 rfl) ff_X6_39 (sh10 hst) (by decide) rfl rfl ?_
    refine gj_aload_n (q := 13) (gj_dk okX6_nameHere 6 rfl) rfl rfl ?_
    refine gj_gI (q := 16) (j := 7) (gj_dk okX6_nameHere 7 rfl) ff_X6_64 (sh10 hst) (by decide) rfl rfl ?_
    refine gj_isub (q := 17) (gj_dk okX6_nameHere 8 rfl) rfl ?_
    refine gj_bipush (q := 19) (gj_dk okX6_nameHere 9 rfl) (by decide) rfl rfl ?_
    refine gj_icmp_le (q := 22) (tgt := 24) (gj_dk okX6_nameHere 10 rfl) (by decide) rfl (fun c19 => ?_) (fun c19 => ?_)
    · -- 24
      replace hF := gj_ift c19 hF
      refine gj_lconst (q := 25) (z := 0) (gj_dk okX6_nameHere 13 rfl) rfl (by decide) rfl ?_
      refine gj_lstore_n (q := 26) (gj_dk okX6_nameHere 14 rfl) (by decide) rfl ?_
      refine gj_aload_n (q := 27) (gj_dk okX6_nameHere 15 rfl) rfl rfl ?_
      refine gj_gI (q := 30) (j := 7) (gj_dk okX6_nameHere 16 rfl) ff_X6_64 (sh10 hst) (by decide) rfl rfl ?_
      refine gj_istore_n (q := 31) (gj_dk okX6_nameHere 17 rfl) (by decide) rfl ?_
      refine gj_sub [(0, jR 10), (1, jL 0), (3, jI (M 10 7))] ⟨rfl, rfl, rfl, trivial⟩ ?_
      exact t_L_X6_nameHere_31 hst gj_fu 0 (M 10 7) hF
    · -- 22
      replace hF := gj_iff c19 hF
      refine gj_lconst (q := 23) (z := 0) (gj_dk okX6_nameHere 11 rfl) rfl (by decide) rfl ?_
      cases hF
      exact gj_lret (gj_dk okX6_nameHere 12 rfl) rfl ⟨_, rfl, rfl, rfl, rfl⟩
def F_X6_isLineWord (M : gj_M) : Option (Int) :=
  gj_bnd (F_X6_isWord 0 M) (fun x1 => (if x1 = 0 then gj_bnd (F_X6_isWord 1 M) (fun x3 => (if x3 = 0 then gj_bnd (F_X6_isWord 2 M) (fun x5 => (if x5 = 0 then gj_bnd (F_X6_isWord 3 M) (fun x7 => (if x7 = 0 then gj_bnd (F_X6_isWord 4 M) (fun x9 => (if x9 = 0 then gj_bnd (F_X6_isWord 5 M) (fun x11 => (if x11 = 0 then gj_bnd (F_X6_isWord 6 M) (fun x13 => (if x13 = 0 then gj_bnd (F_X6_isWord 7 M) (fun x15 => (if x15 = 0 then gj_bnd (F_X6_isWord 8 M) (fun x17 => (if x17 = 0 then (some (0)) else (some (1)))) else (some (1)))) else (some (1)))) else (some (1)))) else (some (1)))) else (some (1)))) else (some (1)))) else (some (1)))) else (some (1))))
set_option maxHeartbeats 4000000 in
set_option maxRecDepth 20000 in
theorem t_X6_isLineWord (hst : gj_Stat S) {r : Int} (hF : F_X6_isLineWord M = some r) : gj_C G l 6 0 0 yX6_isLineWord cX6_isLineWord 1 (some .boolean) [jR 10] S M (gj_qI fun x S' M' => (x = 0 ∨ x = 1) ∧ r = x ∧ S = S' ∧ M = M') := by
  refine gj_Cof (by decide +kernel) (Nat.le_of_ble_eq_true rfl) ?_
  change gj_W G l 6 0 0 yX6_isLineWord cX6_isLineWord 1 (some .boolean) (gj_qI fun x S' M' => (x = 0 ∨ x = 1) ∧ r = x ∧ S = S' ∧ M = M') 0 0 0 [(0, jR 10)] [] S M
  unfold F_X6_isLineWord at hF
  refine gj_aload_n (q := 1) (gj_dk okX6_isLineWord 0 rfl) rfl rfl ?_
  refine gj_ldc6 (q := 3) (z := -2) 0 (gj_dk okX6_isLineWord 1 rfl) rfl (by decide) rfl rfl rfl ?_
  obtain ⟨x1, hG, hF⟩ := gj_bndd hF
  refine gj_callV (q := 6) (z := 10) (ci := 6) [jR (-2)] rfl (t_X6_isWord hst 0 (by decide)  hG) (gj_dk okX6_isLineWord 2 rfl) ml_X6_83 me_X6_isWord (sh10 hst) rfl (gj_nm rfl) rfl (gj_kI fun y S2 M2 h => ?_)
  obtain ⟨bx1, e, eS, eM⟩ := h; subst eS; subst eM; subst e; clear hG
  refine gj_if_ne (q := 9) (tgt := 81) (gj_dk okX6_isLineWord 3 rfl) (by decide) rfl (fun c6 => ?_) (fun c6 => ?_)
  · -- 81
    replace hF := gj_iff c6 hF
    refine gj_iconst (q := 82) (gj_dk okX6_isLineWord 36 rfl) (by decide) rfl ?_
    refine gj_goto (tgt := 86) (gj_dk okX6_isLineWord 37 rfl) (by decide) ?_
    cases hF
    exact gj_zret (gj_dk okX6_isLineWord 39 rfl) rfl (by decide) ⟨_, rfl, (by decide), rfl, rfl, rfl⟩
  · -- 9
    replace hF := gj_ift c6 hF
    refine gj_aload_n (q := 10) (gj_dk okX6_isLineWord 4 rfl) rfl rfl ?_
    refine gj_ldc6 (q := 12) (z := -3) 1 (gj_dk okX6_isLineWord 5 rfl) rfl (by decide) rfl rfl rfl ?_
    obtain ⟨x3, hG, hF⟩ := gj_bndd hF
    refine gj_callV (q := 15) (z := 10) (ci := 6) [jR (-3)] rfl (t_X6_isWord hst 1 (by decide)  hG) (gj_dk okX6_isLineWord 6 rfl) ml_X6_83 me_X6_isWord (sh10 hst) rfl (gj_nm rfl) rfl (gj_kI fun y S2 M2 h => ?_)
    obtain ⟨bx3, e, eS, eM⟩ := h; subst eS; subst eM; subst e; clear hG
    refine gj_if_ne (q := 18) (tgt := 81) (gj_dk okX6_isLineWord 7 rfl) (by decide) rfl (fun c15 => ?_) (fun c15 => ?_)
    · -- 81
      replace hF := gj_iff c15 hF
      refine gj_iconst (q := 82) (gj_dk okX6_isLineWord 36 rfl) (by decide) rfl ?_
      refine gj_goto (tgt := 86) (gj_dk okX6_isLineWord 37 rfl) (by decide) ?_
      cases hF
      exact gj_zret (gj_dk okX6_isLineWord 39 rfl) rfl (by decide) ⟨_, rfl, (by decide), rfl, rfl, rfl⟩
    · -- 18
      replace hF := gj_ift c15 hF
      refine gj_aload_n (q := 19) (gj_dk okX6_isLineWord 8 rfl) rfl rfl ?_
      refine gj_ldc6 (q := 21) (z := -4) 2 (gj_dk okX6_isLineWord 9 rfl) rfl (by decide) rfl rfl rfl ?_
      obtain ⟨x5, hG, hF⟩ := gj_bndd hF
      refine gj_callV (q := 24) (z := 10) (ci := 6) [jR (-4)] rfl (t_X6_isWord hst 2 (by decide)  hG) (gj_dk okX6_isLineWord 10 rfl) ml_X6_83 me_X6_isWord (sh10 hst) rfl (gj_nm rfl) rfl (gj_kI fun y S2 M2 h => ?_)
      obtain ⟨bx5, e, eS, eM⟩ := h; subst eS; subst eM; subst e; clear hG
      refine gj_if_ne (q := 27) (tgt := 81) (gj_dk okX6_isLineWord 11 rfl) (by decide) rfl (fun c24 => ?_) (fun c24 => ?_)
      · -- 81
        replace hF := gj_iff c24 hF
        refine gj_iconst (q := 82) (gj_dk okX6_isLineWord 36 rfl) (by decide) rfl ?_
        refine gj_goto (tgt := 86) (gj_dk okX6_isLineWord 37 rfl) (by decide) ?_
        cases hF
        exact gj_zret (gj_dk okX6_isLineWord 39 rfl) rfl (by decide) ⟨_, rfl, (by decide), rfl, rfl, rfl⟩
      · -- 27
        replace hF := gj_ift c24 hF
        refine gj_aload_n (q := 28) (gj_dk okX6_isLineWord 12 rfl) rfl rfl ?_
        refine gj_ldc6 (q := 30) (z := -5) 3 (gj_dk okX6_isLineWord 13 rfl) rfl (by decide) rfl rfl rfl ?_
        obtain ⟨x7, hG, hF⟩ := gj_bndd hF
        refine gj_callV (q := 33) (z := 10) (ci := 6) [jR (-5)] rfl (t_X6_isWord hst 3 (by decide)  hG) (gj_dk okX6_isLineWord 14 rfl) ml_X6_83 me_X6_isWord (sh10 hst) rfl (gj_nm rfl) rfl (gj_kI fun y S2 M2 h => ?_)
        obtain ⟨bx7, e, eS, eM⟩ := h; subst eS; subst eM; subst e; clear hG
        refine gj_if_ne (q := 36) (tgt := 81) (gj_dk okX6_isLineWord 15 rfl) (by decide) rfl (fun c33 => ?_) (fun c33 => ?_)
        · -- 81
          replace hF := gj_iff c33 hF
          refine gj_iconst (q := 82) (gj_dk okX6_isLineWord 36 rfl) (by decide) rfl ?_
          refine gj_goto (tgt := 86) (gj_dk okX6_isLineWord 37 rfl) (by decide) ?_
          cases hF
          exact gj_zret (gj_dk okX6_isLineWord 39 rfl) rfl (by decide) ⟨_, rfl, (by decide), rfl, rfl, rfl⟩
        · -- 36
          replace hF := gj_ift c33 hF
          refine gj_aload_n (q := 37) (gj_dk okX6_isLineWord 16 rfl) rfl rfl ?_
          refine gj_ldc6 (q := 39) (z := -6) 4 (gj_dk okX6_isLineWord 17 rfl) rfl (by decide) rfl rfl rfl ?_
          obtain ⟨x9, hG, hF⟩ := gj_bndd hF
          refine gj_callV (q := 42) (z := 10) (ci := 6) [jR (-6)] rfl (t_X6_isWord hst 4 (by decide)  hG) (gj_dk okX6_isLineWord 18 rfl) ml_X6_83 me_X6_isWord (sh10 hst) rfl (gj_nm rfl) rfl (gj_kI fun y S2 M2 h => ?_)
          obtain ⟨bx9, e, eS, eM⟩ := h; subst eS; subst eM; subst e; clear hG
          refine gj_if_ne (q := 45) (tgt := 81) (gj_dk okX6_isLineWord 19 rfl) (by decide) rfl (fun c42 => ?_) (fun c42 => ?_)
          · -- 81
            replace hF := gj_iff c42 hF
            refine gj_iconst (q := 82) (gj_dk okX6_isLineWord 36 rfl) (by decide) rfl ?_
            refine gj_goto (tgt := 86) (gj_dk okX6_isLineWord 37 rfl) (by decide) ?_
            cases hF
            exact gj_zret (gj_dk okX6_isLineWord 39 rfl) rfl (by decide) ⟨_, rfl, (by decide), rfl, rfl, rfl⟩
          · -- 45
            replace hF := gj_ift c42 hF
            refine gj_aload_n (q := 46) (gj_dk okX6_isLineWord 20 rfl) rfl rfl ?_
            refine gj_ldc6 (q := 48) (z := -7) 5 (gj_dk okX6_isLineWord 21 rfl) rfl (by decide) rfl rfl rfl ?_
            obtain ⟨x11, hG, hF⟩ := gj_bndd hF
            refine gj_callV (q := 51) (z := 10) (ci := 6) [jR (-7)] rfl (t_X6_isWord hst 5 (by decide)  hG) (gj_dk okX6_isLineWord 22 rfl) ml_X6_83 me_X6_isWord (sh10 hst) rfl (gj_nm rfl) rfl (gj_kI fun y S2 M2 h => ?_)
            obtain ⟨bx11, e, eS, eM⟩ := h; subst eS; subst eM; subst e; clear hG
            refine gj_if_ne (q := 54) (tgt := 81) (gj_dk okX6_isLineWord 23 rfl) (by decide) rfl (fun c51 => ?_) (fun c51 => ?_)
            · -- 81
              replace hF := gj_iff c51 hF
              refine gj_iconst (q := 82) (gj_dk okX6_isLineWord 36 rfl) (by decide) rfl ?_
              refine gj_goto (tgt := 86) (gj_dk okX6_isLineWord 37 rfl) (by decide) ?_
              cases hF
              exact gj_zret (gj_dk okX6_isLineWord 39 rfl) rfl (by decide) ⟨_, rfl, (by decide), rfl, rfl, rfl⟩
            · -- 54
              replace hF := gj_ift c51 hF
              refine gj_aload_n (q := 55) (gj_dk okX6_isLineWord 24 rfl) rfl rfl ?_
              refine gj_ldc6 (q := 57) (z := -8) 6 (gj_dk okX6_isLineWord 25 rfl) rfl (by decide) rfl rfl rfl ?_
              obtain ⟨x13, hG, hF⟩ := gj_bndd hF
              refine gj_callV (q := 60) (z := 10) (ci := 6) [jR (-8)] rfl (t_X6_isWord hst 6 (by decide)  hG) (gj_dk okX6_isLineWord 26 rfl) ml_X6_83 me_X6_isWord (sh10 hst) rfl (gj_nm rfl) rfl (gj_kI fun y S2 M2 h => ?_)
              obtain ⟨bx13, e, eS, eM⟩ := h; subst eS; subst eM; subst e; clear hG
              refine gj_if_ne (q := 63) (tgt := 81) (gj_dk okX6_isLineWord 27 rfl) (by decide) rfl (fun c60 => ?_) (fun c60 => ?_)
              · -- 81
                replace hF := gj_iff c60 hF
                refine gj_iconst (q := 82) (gj_dk okX6_isLineWord 36 rfl) (by decide) rfl ?_
                refine gj_goto (tgt := 86) (gj_dk okX6_isLineWord 37 rfl) (by decide) ?_
                cases hF
                exact gj_zret (gj_dk okX6_isLineWord 39 rfl) rfl (by decide) ⟨_, rfl, (by decide), rfl, rfl, rfl⟩
              · -- 63
                replace hF := gj_ift c60 hF
                refine gj_aload_n (q := 64) (gj_dk okX6_isLineWord 28 rfl) rfl rfl ?_
                refine gj_ldc6 (q := 66) (z := -9) 7 (gj_dk okX6_isLineWord 29 rfl) rfl (by decide) rfl rfl rfl ?_
                obtain ⟨x15, hG, hF⟩ := gj_bndd hF
                refine gj_callV (q := 69) (z := 10) (ci := 6) [jR (-9)] rfl (t_X6_isWord hst 7 (by decide)  hG) (gj_dk okX6_isLineWord 30 rfl) ml_X6_83 me_X6_isWord (sh10 hst) rfl (gj_nm rfl) rfl (gj_kI fun y S2 M2 h => ?_)
                obtain ⟨bx15, e, eS, eM⟩ := h; subst eS; subst eM; subst e; clear hG
                refine gj_if_ne (q := 72) (tgt := 81) (gj_dk okX6_isLineWord 31 rfl) (by decide) rfl (fun c69 => ?_) (fun c69 => ?_)
                · -- 81
                  replace hF := gj_iff c69 hF
                  refine gj_iconst (q := 82) (gj_dk okX6_isLineWord 36 rfl) (by decide) rfl ?_
                  refine gj_goto (tgt := 86) (gj_dk okX6_isLineWord 37 rfl) (by decide) ?_
                  cases hF
                  exact gj_zret (gj_dk okX6_isLineWord 39 rfl) rfl (by decide) ⟨_, rfl, (by decide), rfl, rfl, rfl⟩
                · -- 72
                  replace hF := gj_ift c69 hF
                  refine gj_aload_n (q := 73) (gj_dk okX6_isLineWord 32 rfl) rfl rfl ?_
                  refine gj_ldc6 (q := 75) (z := -10) 8 (gj_dk okX6_isLineWord 33 rfl) rfl (by decide) rfl rfl rfl ?_
                  obtain ⟨x17, hG, hF⟩ := gj_bndd hF
                  refine gj_callV (q := 78) (z := 10) (ci := 6) [jR (-10)] rfl (t_X6_isWord hst 8 (by decide)  hG) (gj_dk okX6_isLineWord 34 rfl) ml_X6_83 me_X6_isWord (sh10 hst) rfl (gj_nm rfl) rfl (gj_kI fun y S2 M2 h => ?_)
                  obtain ⟨bx17, e, eS, eM⟩ := h; subst eS; subst eM; subst e; clear hG
                  refine gj_if_eq (q := 81) (tgt := 85) (gj_dk okX6_isLineWord 35 rfl) (by decide) rfl (fun c78 => ?_) (fun c78 => ?_)
                  · -- 85
                    replace hF := gj_ift c78 hF
                    refine gj_iconst (q := 86) (gj_dk okX6_isLineWord 38 rfl) (by decide) rfl ?_
                    cases hF
                    exact gj_zret (gj_dk okX6_isLineWord 39 rfl) rfl (by decide) ⟨_, rfl, (by decide), rfl, rfl, rfl⟩
                  · -- 81
                    replace hF := gj_iff c78 hF
                    refine gj_iconst (q := 82) (gj_dk okX6_isLineWord 36 rfl) (by decide) rfl ?_
                    refine gj_goto (tgt := 86) (gj_dk okX6_isLineWord 37 rfl) (by decide) ?_
                    cases hF
                    exact gj_zret (gj_dk okX6_isLineWord 39 rfl) rfl (by decide) ⟨_, rfl, (by decide), rfl, rfl, rfl⟩
def f_X5_isPerson_3 (a1 : Int) (M : gj_M) : Int :=
  (if 4 ≤ a1 then (if M 3 1 ≤ gj_w (a1 - 4) then (0) else (1)) else (if a1 < 0 then (0) else (if M 3 0 ≤ a1 then (0) else (1))))
set_option maxHeartbeats 4000000 in
set_option maxRecDepth 20000 in
theorem t_X5_isPerson_3 (hst : gj_Stat S) (a1 : Int) {r : Int} (hF : f_X5_isPerson_3 a1 M = r) : gj_C G l 1 0 0 yX5_isPerson cX5_isPerson 2 (some .boolean) [jR 3, jI a1] S M (gj_qI fun x S' M' => (x = 0 ∨ x = 1) ∧ r = x ∧ S = S' ∧ M = M') := by
  refine gj_Cof (by decide +kernel) (Nat.le_of_ble_eq_true rfl) ?_
  change gj_W G l 1 0 0 yX5_isPerson cX5_isPerson 2 (some .boolean) (gj_qI fun x S' M' => (x = 0 ∨ x = 1) ∧ r = x ∧ S = S' ∧ M = M') 0 0 0 [(0, jR 3), (1, jI a1)] [] S M
  unfold f_X5_isPerson_3 at hF
  refine gj_iload_n (q := 1) (gj_dk okX5_isPerson 0 rfl) rfl rfl ?_
  refine gj_iconst (q := 2) (gj_dk okX5_isPerson 1 rfl) (by decide) rfl ?_
  refine gj_icmp_ge (q := 5) (tgt := 25) (gj_dk okX5_isPerson 2 rfl) (by decide) rfl (fun c2 => ?_) (fun c2 => ?_)
  · -- 25
    replace hF := gj_ift c2 hF
    refine gj_iload_n (q := 26) (gj_dk okX5_isPerson 13 rfl) rfl rfl ?_
    refine gj_iconst (q := 27) (gj_dk okX5_isPerson 14 rfl) (by decide) rfl ?_
    refine gj_isub (q := 28) (gj_dk okX5_isPerson 15 rfl) rfl ?_
    refine gj_aload_n (q := 29) (gj_dk okX5_isPerson 16 rfl) rfl rfl ?_
    refine gj_gI (q := 32) (j := 1) (gj_dk okX5_isPerson 17 rfl) ff_X5_34 (sh3 hst) (by decide) rfl rfl ?_
    refine gj_icmp_ge (q := 35) (tgt := 39) (gj_dk okX5_isPerson 18 rfl) (by decide) rfl (fun c32 => ?_) (fun c32 => ?_)
    · -- 39
      replace hF := gj_ift c32 hF
      refine gj_iconst (q := 40) (gj_dk okX5_isPerson 21 rfl) (by decide) rfl ?_
      subst hF
      exact gj_zret (gj_dk okX5_isPerson 22 rfl) rfl (by decide) ⟨_, rfl, (by decide), rfl, rfl, rfl⟩
    · -- 35
      replace hF := gj_iff c32 hF
      refine gj_iconst (q := 36) (gj_dk okX5_isPerson 19 rfl) (by decide) rfl ?_
      refine gj_goto (tgt := 40) (gj_dk okX5_isPerson 20 rfl) (by decide) ?_
      subst hF
      exact gj_zret (gj_dk okX5_isPerson 22 rfl) rfl (by decide) ⟨_, rfl, (by decide), rfl, rfl, rfl⟩
  · -- 5
    replace hF := gj_iff c2 hF
    refine gj_iload_n (q := 6) (gj_dk okX5_isPerson 3 rfl) rfl rfl ?_
    refine gj_if_lt (q := 9) (tgt := 21) (gj_dk okX5_isPerson 4 rfl) (by decide) rfl (fun c6 => ?_) (fun c6 => ?_)
    · -- 21
      replace hF := gj_ift c6 hF
      refine gj_iconst (q := 22) (gj_dk okX5_isPerson 11 rfl) (by decide) rfl ?_
      refine gj_goto (tgt := 40) (gj_dk okX5_isPerson 12 rfl) (by decide) ?_
      subst hF
      exact gj_zret (gj_dk okX5_isPerson 22 rfl) rfl (by decide) ⟨_, rfl, (by decide), rfl, rfl, rfl⟩
    · -- 9
      replace hF := gj_iff c6 hF
      refine gj_iload_n (q := 10) (gj_dk okX5_isPerson 5 rfl) rfl rfl ?_
      refine gj_aload_n (q := 11) (gj_dk okX5_isPerson 6 rfl) rfl rfl ?_
      refine gj_gI (q := 14) (j := 0) (gj_dk okX5_isPerson 7 rfl) ff_X5_30 (sh3 hst) (by decide) rfl rfl ?_
      refine gj_icmp_ge (q := 17) (tgt := 21) (gj_dk okX5_isPerson 8 rfl) (by decide) rfl (fun c14 => ?_) (fun c14 => ?_)
      · -- 21
        replace hF := gj_ift c14 hF
        refine gj_iconst (q := 22) (gj_dk okX5_isPerson 11 rfl) (by decide) rfl ?_
        refine gj_goto (tgt := 40) (gj_dk okX5_isPerson 12 rfl) (by decide) ?_
        subst hF
        exact gj_zret (gj_dk okX5_isPerson 22 rfl) rfl (by decide) ⟨_, rfl, (by decide), rfl, rfl, rfl⟩
      · -- 17
        replace hF := gj_iff c14 hF
        refine gj_iconst (q := 18) (gj_dk okX5_isPerson 9 rfl) (by decide) rfl ?_
        refine gj_goto (tgt := 40) (gj_dk okX5_isPerson 10 rfl) (by decide) ?_
        subst hF
        exact gj_zret (gj_dk okX5_isPerson 22 rfl) rfl (by decide) ⟨_, rfl, (by decide), rfl, rfl, rfl⟩
def f_X5_isPerson_14 (a1 : Int) (M : gj_M) : Int :=
  (if 4 ≤ a1 then (if M 14 1 ≤ gj_w (a1 - 4) then (0) else (1)) else (if a1 < 0 then (0) else (if M 14 0 ≤ a1 then (0) else (1))))
set_option maxHeartbeats 4000000 in
set_option maxRecDepth 20000 in
theorem t_X5_isPerson_14 (hst : gj_Stat S) (a1 : Int) {r : Int} (hF : f_X5_isPerson_14 a1 M = r) : gj_C G l 1 0 0 yX5_isPerson cX5_isPerson 2 (some .boolean) [jR 14, jI a1] S M (gj_qI fun x S' M' => (x = 0 ∨ x = 1) ∧ r = x ∧ S = S' ∧ M = M') := by
  refine gj_Cof (by decide +kernel) (Nat.le_of_ble_eq_true rfl) ?_
  change gj_W G l 1 0 0 yX5_isPerson cX5_isPerson 2 (some .boolean) (gj_qI fun x S' M' => (x = 0 ∨ x = 1) ∧ r = x ∧ S = S' ∧ M = M') 0 0 0 [(0, jR 14), (1, jI a1)] [] S M
  unfold f_X5_isPerson_14 at hF
  refine gj_iload_n (q := 1) (gj_dk okX5_isPerson 0 rfl) rfl rfl ?_
  refine gj_iconst (q := 2) (gj_dk okX5_isPerson 1 rfl) (by decide) rfl ?_
  refine gj_icmp_ge (q := 5) (tgt := 25) (gj_dk okX5_isPerson 2 rfl) (by decide) rfl (fun c2 => ?_) (fun c2 => ?_)
  · -- 25
    replace hF := gj_ift c2 hF
    refine gj_iload_n (q := 26) (gj_dk okX5_isPerson 13 rfl) rfl rfl ?_
    refine gj_iconst (q := 27) (gj_dk okX5_isPerson 14 rfl) (by decide) rfl ?_
    refine gj_isub (q := 28) (gj_dk okX5_isPerson 15 rfl) rfl ?_
    refine gj_aload_n (q := 29) (gj_dk okX5_isPerson 16 rfl) rfl rfl ?_
    refine gj_gI (q := 32) (j := 1) (gj_dk okX5_isPerson 17 rfl) ff_X5_34 (sh14 hst) (by decide) rfl rfl ?_
    refine gj_icmp_ge (q := 35) (tgt := 39) (gj_dk okX5_isPerson 18 rfl) (by decide) rfl (fun c32 => ?_) (fun c32 => ?_)
    · -- 39
      replace hF := gj_ift c32 hF
      refine gj_iconst (q := 40) (gj_dk okX5_isPerson 21 rfl) (by decide) rfl ?_
      subst hF
      exact gj_zret (gj_dk okX5_isPerson 22 rfl) rfl (by decide) ⟨_, rfl, (by decide), rfl, rfl, rfl⟩
    · -- 35
      replace hF := gj_iff c32 hF
      refine gj_iconst (q := 36) (gj_dk okX5_isPerson 19 rfl) (by decide) rfl ?_
      refine gj_goto (tgt := 40) (gj_dk okX5_isPerson 20 rfl) (by decide) ?_
      subst hF
      exact gj_zret (gj_dk okX5_isPerson 22 rfl) rfl (by decide) ⟨_, rfl, (by decide), rfl, rfl, rfl⟩
  · -- 5
    replace hF := gj_iff c2 hF
    refine gj_iload_n (q := 6) (gj_dk okX5_isPerson 3 rfl) rfl rfl ?_
    refine gj_if_lt (q := 9) (tgt := 21) (gj_dk okX5_isPerson 4 rfl) (by decide) rfl (fun c6 => ?_) (fun c6 => ?_)
    · -- 21
      replace hF := gj_ift c6 hF
      refine gj_iconst (q := 22) (gj_dk okX5_isPerson 11 rfl) (by decide) rfl ?_
      refine gj_goto (tgt := 40) (gj_dk okX5_isPerson 12 rfl) (by decide) ?_
      subst hF
      exact gj_zret (gj_dk okX5_isPerson 22 rfl) rfl (by decide) ⟨_, rfl, (by decide), rfl, rfl, rfl⟩
    · -- 9
      replace hF := gj_iff c6 hF
      refine gj_iload_n (q := 10) (gj_dk okX5_isPerson 5 rfl) rfl rfl ?_
      refine gj_aload_n (q := 11) (gj_dk okX5_isPerson 6 rfl) rfl rfl ?_
      refine gj_gI (q := 14) (j := 0) (gj_dk okX5_isPerson 7 rfl) ff_X5_30 (sh14 hst) (by decide) rfl rfl ?_
      refine gj_icmp_ge (q := 17) (tgt := 21) (gj_dk okX5_isPerson 8 rfl) (by decide) rfl (fun c14 => ?_) (fun c14 => ?_)
      · -- 21
        replace hF := gj_ift c14 hF
        refine gj_iconst (q := 22) (gj_dk okX5_isPerson 11 rfl) (by decide) rfl ?_
        refine gj_goto (tgt := 40) (gj_dk okX5_isPerson 12 rfl) (by decide) ?_
        subst hF
        exact gj_zret (gj_dk okX5_isPerson 22 rfl) rfl (by decide) ⟨_, rfl, (by decide), rfl, rfl, rfl⟩
      · -- 17
        replace hF := gj_iff c14 hF
        refine gj_iconst (q := 18) (gj_dk okX5_isPerson 9 rfl) (by decide) rfl ?_
        refine gj_goto (tgt := 40) (gj_dk okX5_isPerson 10 rfl) (by decide) ?_
        subst hF
        exact gj_zret (gj_dk okX5_isPerson 22 rfl) rfl (by decide) ⟨_, rfl, (by decide), rfl, rfl, rfl⟩
def B_X6_slotNamed_2 (M : gj_M) (rec2 : Int → Int → Option (Int)) (l1 l3 : Int) : Option (Int) :=
  (if 8 ≤ l3 then (some (-1)) else (if l1 = 0 then rec2 l1 (gj_w (l3 + 1)) else gj_letI (f_X5_isPerson_3 l3 M) (fun x1 => (if x1 = 0 then rec2 l1 (gj_w (l3 + 1)) else gj_chk (0 ≤ l3 ∧ l3 < 8) ((if M 11 l3 = l1 then (some (l3)) else rec2 l1 (gj_w (l3 + 1))))))))
def F_X6_slotNamed (a1 : Int) (M : gj_M) : Option (Int) :=
  (gj_it (fun _ _ => none) (B_X6_slotNamed_2 M) gj_fu a1 0)
set_option maxHeartbeats 4000000 in
set_option maxRecDepth 20000 in
theorem t_B_X6_slotNamed_2 (hst : gj_Stat S) {r : Int} {rec2 : Int → Int → Option (Int)} (hrec2 : ∀ (l1 l3 : Int), rec2 l1 l3 = some r → gj_W G l 2 0 0 yX6_slotNamed cX6_slotNamed 4 (some .int) (gj_qI fun x S' M' => r = x ∧ S = S' ∧ M = M') 0 0 2 [(0, jR 10), (1, jL l1), (3, jI l3)] [] S M) (l1 l3 : Int) (hF : B_X6_slotNamed_2 M rec2 l1 l3 = some r) : gj_W G l 2 0 0 yX6_slotNamed cX6_slotNamed 4 (some .int) (gj_qI fun x S' M' => r = x ∧ S = S' ∧ M = M') 0 0 2 [(0, jR 10), (1, jL l1), (3, jI l3)] [] S M := by
  unfold B_X6_slotNamed_2 at hF
  refine gj_iload_n (q := 3) (gj_dk okX6_slotNamed 2 rfl) rfl rfl ?_
  refine gj_aload_n (q := 4) (gj_dk okX6_slotNamed 3 rfl) rfl rfl ?_
  refine gj_gR (q := 7) (j := 2) (gj_dk okX6_slotNamed 4 rfl) ff_X6_9 (sh10 hst) (by decide) rfl (rf10_2 hst) rfl ?_
  refine gj_alen (q := 8) (gj_dk okX6_slotNamed 5 rfl) (sh11 hst) (by decide) rfl ?_
  refine gj_icmp_ge (q := 11) (tgt := 47) (gj_dk okX6_slotNamed 6 rfl) (by decide) rfl (fun c8 => ?_) (fun c8 => ?_)
  · -- 47
    replace hF := gj_ift c8 hF
    refine gj_iconst (q := 48) (gj_dk okX6_slotNamed 27 rfl) (by decide) rfl ?_
    cases hF
    exact gj_iret (gj_dk okX6_slotNamed 28 rfl) rfl ⟨_, rfl, rfl, rfl, rfl⟩
  · -- 11
    replace hF := gj_iff c8 hF
    refine gj_lload_n (q := 12) (gj_dk okX6_slotNamed 7 rfl) rfl rfl ?_
    refine gj_lconst (q := 13) (z := 0) (gj_dk okX6_slotNamed 8 rfl) rfl (by decide) rfl ?_
    refine gj_lcmp (q := 14) (gj_dk okX6_slotNamed 9 rfl) rfl ?_
    refine gj_if_eq (q := 17) (tgt := 41) (gj_dk okX6_slotNamed 10 rfl) (by decide) rfl (fun c14 => ?_) (fun c14 => ?_)
    · -- 41
      replace c14 := gj_cm_eq.mp c14
      replace hF := gj_ift c14 hF
      refine gj_iinc (q := 44) (v := gj_w (l3 + 1)) (gj_dk okX6_slotNamed 25 rfl) rfl (by decide) rfl rfl ?_
      refine gj_goto (tgt := 2) (gj_dk okX6_slotNamed 26 rfl) (by decide) ?_
      refine gj_sub [(0, jR 10), (1, jL l1), (3, jI (gj_w (l3 + 1)))] ⟨rfl, rfl, rfl, trivial⟩ ?_
      exact hrec2 l1 (gj_w (l3 + 1)) hF
    · -- 17
      replace c14 := gj_cm_eqn.mp c14
      replace hF := gj_iff c14 hF
      refine gj_aload_n (q := 18) (gj_dk okX6_slotNamed 11 rfl) rfl rfl ?_
      refine gj_gR (q := 21) (j := 1) (gj_dk okX6_slotNamed 12 rfl) ff_X6_26 (sh10 hst) (by decide) rfl (rf10_1 hst) rfl ?_
      refine gj_iload_n (q := 22) (gj_dk okX6_slotNamed 13 rfl) rfl rfl ?_
      refine gj_callV (q := 25) (z := 3) (ci := 5) [jI l3] rfl (t_X5_isPerson_3 hst l3 rfl) (gj_dk okX6_slotNamed 14 rfl) ml_X6_227 me_X5_isPerson (sh3 hst) rfl (gj_nm rfl) rfl (gj_kI fun x S2 M2 h => ?_)
      obtain ⟨bz, e, eS, eM⟩ := h; subst eS; subst eM; subst e
      refine gj_stpZ bz hF (fun x1 bx1 hF => ?_)
      refine gj_if_eq (q := 28) (tgt := 41) (gj_dk okX6_slotNamed 15 rfl) (by decide) rfl (fun c25 => ?_) (fun c25 => ?_)
      · -- 41
        replace hF := gj_ift c25 hF
        refine gj_iinc (q := 44) (v := gj_w (l3 + 1)) (gj_dk okX6_slotNamed 25 rfl) rfl (by decide) rfl rfl ?_
        refine gj_goto (tgt := 2) (gj_dk okX6_slotNamed 26 rfl) (by decide) ?_
        refine gj_sub [(0, jR 10), (1, jL l1), (3, jI (gj_w (l3 + 1)))] ⟨rfl, rfl, rfl, trivial⟩ ?_
        exact hrec2 l1 (gj_w (l3 + 1)) hF
      · -- 28
        replace hF := gj_iff c25 hF
        refine gj_aload_n (q := 29) (gj_dk okX6_slotNamed 16 rfl) rfl rfl ?_
        refine gj_gR (q := 32) (j := 2) (gj_dk okX6_slotNamed 17 rfl) ff_X6_9 (sh10 hst) (by decide) rfl (rf10_2 hst) rfl ?_
        refine gj_iload_n (q := 33) (gj_dk okX6_slotNamed 18 rfl) rfl rfl ?_
        obtain ⟨b2, hF⟩ := gj_ckd hF
        refine gj_lald (q := 34) (gj_dk okX6_slotNamed 19 rfl) (sh11 hst) b2.1 b2.2 rfl ?_
        refine gj_lload_n (q := 35) (gj_dk okX6_slotNamed 20 rfl) rfl rfl ?_
        refine gj_lcmp (q := 36) (gj_dk okX6_slotNamed 21 rfl) rfl ?_
        refine gj_if_ne (q := 39) (tgt := 41) (gj_dk okX6_slotNamed 22 rfl) (by decide) rfl (fun c36 => ?_) (fun c36 => ?_)
        · -- 41
          replace c36 := gj_cm_ne.mp c36
          replace hF := gj_iff c36 hF
          refine gj_iinc (q := 44) (v := gj_w (l3 + 1)) (gj_dk okX6_slotNamed 25 rfl) rfl (by decide) rfl rfl ?_
          refine gj_goto (tgt := 2) (gj_dk okX6_slotNamed 26 rfl) (by decide) ?_
          refine gj_sub [(0, jR 10), (1, jL l1), (3, jI (gj_w (l3 + 1)))] ⟨rfl, rfl, rfl, trivial⟩ ?_
          exact hrec2 l1 (gj_w (l3 + 1)) hF
        · -- 39
          replace c36 := gj_cm_nen.mp c36
          replace hF := gj_ift c36 hF
          refine gj_iload_n (q := 40) (gj_dk okX6_slotNamed 23 rfl) rfl rfl ?_
          cases hF
          exact gj_iret (gj_dk okX6_slotNamed 24 rfl) rfl ⟨_, rfl, rfl, rfl, rfl⟩
theorem t_L_X6_slotNamed_2 (hst : gj_Stat S) {r : Int} : ∀ (m : Nat) (l1 : Int) (l3 : Int), gj_it (fun _ _ => none) (B_X6_slotNamed_2 M) m l1 l3 = some r → gj_W G l 2 0 0 yX6_slotNamed cX6_slotNamed 4 (some .int) (gj_qI fun x S' M' => r = x ∧ S = S' ∧ M = M') 0 0 2 [(0, jR 10), (1, jL l1), (3, jI l3)] [] S M := by
  intro m
  induction m with
  | zero => intro l1 l3 hF; cases (show (none : Option (Int)) = some r from hF)
  | succ m ih => intro l1 l3 hF; exact t_B_X6_slotNamed_2 hst (fun l1 l3 h => ih l1 l3 h) l1 l3 hF
set_option maxHeartbeats 4000000 in
set_option maxRecDepth 20000 in
theorem t_X6_slotNamed (hst : gj_Stat S) (a1 : Int) {r : Int} (hF : F_X6_slotNamed a1 M = some r) : gj_C G l 2 0 0 yX6_slotNamed cX6_slotNamed 4 (some .int) [jR 10, jL a1] S M (gj_qI fun x S' M' => r = x ∧ S = S' ∧ M = M') := by
  refine gj_Cof (by decide +kernel) (Nat.le_of_ble_eq_true rfl) ?_
  change gj_W G l 2 0 0 yX6_slotNamed cX6_slotNamed 4 (some .int) (gj_qI fun x S' M' => r = x ∧ S = S' ∧ M = M') 0 0 0 [(0, jR 10), (1, jL a1)] [] S M
  unfold F_X6_slotNamed at hF
  refine gj_iconst (q := 1) (gj_dk okX6_slotNamed 0 rfl) (by decide) rfl ?_
  refine gj_istore_n (q := 2) (gj_dk okX6_slotNamed 1 rfl) (by decide) rfl ?_
  refine gj_sub [(0, jR 10), (1, jL a1), (3, jI 0)] ⟨rfl, rfl, rfl, trivial⟩ ?_
  exact t_L_X6_slotNamed_2 hst gj_fu a1 0 hF
def B_X6_numberHere_7 (M : gj_M) (rec7 : Int → Int → Option (Int)) (l1 l2 : Int) : Option (Int) :=
  (if M 10 8 ≤ l2 then (some (l1)) else gj_letI (f_X9_byteAt l2 M) (fun x1 => gj_letI (f_min 1000000 (gj_w ((gj_w ((gj_w (l1 * 10)) + x1)) - 48))) (fun x2 => rec7 x2 (gj_w (l2 + 1)))))
def F_X6_numberHere (M : gj_M) : Option (Int) :=
  (gj_it (fun _ _ => none) (B_X6_numberHere_7 M) gj_fu 0 (M 10 7))
set_option maxHeartbeats 4000000 in
set_option maxRecDepth 20000 in
theorem t_B_X6_numberHere_7 (hst : gj_Stat S) {r : Int} {rec7 : Int → Int → Option (Int)} (hrec7 : ∀ (l1 l2 : Int), rec7 l1 l2 = some r → gj_W G l 3 0 0 yX6_numberHere cX6_numberHere 3 (some .int) (gj_qI fun x S' M' => r = x ∧ S = S' ∧ M = M') 0 0 7 [(0, jR 10), (1, jI l1), (2, jI l2)] [] S M) (l1 l2 : Int) (hF : B_X6_numberHere_7 M rec7 l1 l2 = some r) : gj_W G l 3 0 0 yX6_numberHere cX6_numberHere 3 (some .int) (gj_qI fun x S' M' => r = x ∧ S = S' ∧ M = M') 0 0 7 [(0, jR 10), (1, jI l1), (2, jI l2)] [] S M := by
  unfold B_X6_numberHere_7 at hF
  refine gj_iload_n (q := 8) (gj_dk okX6_numberHere 5 rfl) rfl rfl ?_
  refine gj_aload_n (q := 9) (gj_dk okX6_numberHere 6 rfl) rfl rfl ?_
  refine gj_gI (q := 12) (j := 8) (gj_dk okX6_numberHere 7 rfl) ff_X6_39 (sh10 hst) (by decide) rfl rfl ?_
  refine gj_icmp_ge (q := 15) (tgt := 43) (gj_dk okX6_numberHere 8 rfl) (by decide) rfl (fun c12 => ?_) (fun c12 => ?_)
  · -- 43
    replace hF := gj_ift c12 hF
    refine gj_iload_n (q := 44) (gj_dk okX6_numberHere 24 rfl) rfl rfl ?_
    cases hF
    exact gj_iret (gj_dk okX6_numberHere 25 rfl) rfl ⟨_, rfl, rfl, rfl, rfl⟩
  · -- 15
    replace hF := gj_iff c12 hF
    refine gj_ldc (q := 17) (z := 1000000) (gj_dk okX6_numberHere 9 rfl) kc_X6_219 (by decide) rfl ?_
    refine gj_iload_n (q := 18) (gj_dk okX6_numberHere 10 rfl) rfl rfl ?_
    refine gj_bipush (q := 20) (gj_dk okX6_numberHere 11 rfl) (by decide) rfl rfl ?_
    refine gj_imul (q := 21) (gj_dk okX6_numberHere 12 rfl) rfl ?_
    refine gj_aload_n (q := 22) (gj_dk okX6_numberHere 13 rfl) rfl rfl ?_
    refine gj_gR (q := 25) (j := 0) (gj_dk okX6_numberHere 14 rfl) ff_X6_22 (sh10 hst) (by decide) rfl (rf10_0 hst) rfl ?_
    refine gj_iload_n (q := 26) (gj_dk okX6_numberHere 15 rfl) rfl rfl ?_
    refine gj_callV (q := 29) (z := 1) (ci := 8) [jI l2] rfl (t_X9_byteAt hst l2 rfl) (gj_dk okX6_numberHere 16 rfl) ml_X6_70 me_X9_byteAt (sh1 hst) rfl (gj_nm rfl) rfl (gj_kI fun x S2 M2 h => ?_)
    obtain ⟨e, eS, eM⟩ := h; subst eS; subst eM; subst e
    refine gj_stpI hF (fun x1 hF => ?_)
    refine gj_iadd (q := 30) (gj_dk okX6_numberHere 17 rfl) rfl ?_
    refine gj_bipush (q := 32) (gj_dk okX6_numberHere 18 rfl) (by decide) rfl rfl ?_
    refine gj_isub (q := 33) (gj_dk okX6_numberHere 19 rfl) rfl ?_
    refine gj_mmin (q := 36) (gj_dk okX6_numberHere 20 rfl) ml_X6_220 ⟨by omega, Nat.le_of_ble_eq_true rfl⟩ rfl ?_
    refine gj_stpI hF (fun x2 hF => ?_)
    refine gj_istore_n (q := 37) (gj_dk okX6_numberHere 21 rfl) (by decide) rfl ?_
    refine gj_iinc (q := 40) (v := gj_w (l2 + 1)) (gj_dk okX6_numberHere 22 rfl) rfl (by decide) rfl rfl ?_
    refine gj_goto (tgt := 7) (gj_dk okX6_numberHere 23 rfl) (by decide) ?_
    refine gj_sub [(0, jR 10), (1, jI x2), (2, jI (gj_w (l2 + 1)))] ⟨rfl, rfl, rfl, trivial⟩ ?_
    exact hrec7 x2 (gj_w (l2 + 1)) hF
theorem t_L_X6_numberHere_7 (hst : gj_Stat S) {r : Int} : ∀ (m : Nat) (l1 : Int) (l2 : Int), gj_it (fun _ _ => none) (B_X6_numberHere_7 M) m l1 l2 = some r → gj_W G l 3 0 0 yX6_numberHere cX6_numberHere 3 (some .int) (gj_qI fun x S' M' => r = x ∧ S = S' ∧ M = M') 0 0 7 [(0, jR 10), (1, jI l1), (2, jI l2)] [] S M := by
  intro m
  induction m with
  | zero => intro l1 l2 hF; cases (show (none : Option (Int)) = some r from hF)
  | succ m ih => intro l1 l2 hF; exact t_B_X6_numberHere_7 hst (fun l1 l2 h => ih l1 l2 h) l1 l2 hF
set_option maxHeartbeats 4000000 in
set_option maxRecDepth 20000 in
theorem t_X6_numberHere (hst : gj_Stat S) {r : Int} (hF : F_X6_numberHere M = some r) : gj_C G l 3 0 0 yX6_numberHere cX6_numberHere 3 (some .int) [jR 10] S M (gj_qI fun x S' M' => r = x ∧ S = S' ∧ M = M') := by
  refine gj_Cof (by decide +kernel) (Nat.le_of_ble_eq_true rfl) ?_
  change gj_W G l 3 0 0 yX6_numberHere cX6_numberHere 3 (some .int) (gj_qI fun x S' M' => r = x ∧ S = S' ∧ M = M') 0 0 0 [(0, jR 10)] [] S M
  unfold F_X6_numberHere at hF
  refine gj_iconst (q := 1) (gj_dk okX6_numberHere 0 rfl) (by decide) rfl ?_
  refine gj_istore_n (q := 2) (gj_dk okX6_numberHere 1 rfl) (by decide) rfl ?_
  refine gj_aload_n (q := 3) (gj_dk okX6_numberHere 2 rfl) rfl rfl ?_
  refine gj_gI (q := 6) (j := 7) (gj_dk okX6_numberHere 3 rfl) ff_X6_64 (sh10 hst) (by decide) rfl rfl ?_
  refine gj_istore_n (q := 7) (gj_dk okX6_numberHere 4 rfl) (by decide) rfl ?_
  refine gj_sub [(0, jR 10), (1, jI 0), (2, jI (M 10 7))] ⟨rfl, rfl, rfl, trivial⟩ ?_
  exact t_L_X6_numberHere_7 hst gj_fu 0 (M 10 7) hF
def F_X6_takeNumber (a1 : Int) (a2 : Int) (M : gj_M) : Option (Int × gj_M) :=
  (if M 10 6 = 2 then gj_bnd (F_X6_numberHere M) (fun x1 => (if x1 < a1 then (some ((0, M))) else (if x1 ≤ a2 then gj_let (gj_up M 10 9 x1) (fun M3 => gj_bnd (F_X6_scan M3) (fun M5 => (some ((1, M5))))) else (some ((0, M)))))) else (some ((0, M))))
set_option maxHeartbeats 4000000 in
set_option maxRecDepth 20000 in
theorem t_X6_takeNumber (hst : gj_Stat S) (a1 a2 : Int) {r : Int × gj_M} (hF : F_X6_takeNumber a1 a2 M = some r) : gj_C G l 4 0 0 yX6_takeNumber cX6_takeNumber 4 (some .boolean) [jR 10, jI a1, jI a2] S M (gj_qI fun x S' M' => (x = 0 ∨ x = 1) ∧ r.1 = x ∧ S = S' ∧ r.2 = M') := by
  refine gj_Cof (by decide +kernel) (Nat.le_of_ble_eq_true rfl) ?_
  change gj_W G l 4 0 0 yX6_takeNumber cX6_takeNumber 4 (some .boolean) (gj_qI fun x S' M' => (x = 0 ∨ x = 1) ∧ r.1 = x ∧ S = S' ∧ r.2 = M') 0 0 0 [(0, jR 10), (1, jI a1), (2, jI a2)] [] S M
  unfold F_X6_takeNumber at hF
  refine gj_aload_n (q := 1) (gj_dk okX6_takeNumber 0 rfl) rfl rfl ?_
  refine gj_gI (q := 4) (j := 6) (gj_dk okX6_takeNumber 1 rfl) ff_X6_57 (sh10 hst) (by decide) rfl rfl ?_
  refine gj_iconst (q := 5) (gj_dk okX6_takeNumber 2 rfl) (by decide) rfl ?_
  refine gj_icmp_eq (q := 8) (tgt := 10) (gj_dk okX6_takeNumber 3 rfl) (by decide) rfl (fun c5 => ?_) (fun c5 => ?_)
  · -- 10
    replace hF := gj_ift c5 hF
    refine gj_aload_n (q := 11) (gj_dk okX6_takeNumber 6 rfl) rfl rfl ?_
    obtain ⟨x1, hG, hF⟩ := gj_bndd hF
    refine gj_callV (q := 14) (z := 10) (ci := 6) [] rfl (t_X6_numberHere hst  hG) (gj_dk okX6_takeNumber 7 rfl) ml_X6_216 me_X6_numberHere (sh10 hst) rfl (gj_nm rfl) rfl (gj_kI fun y S2 M2 h => ?_)
    obtain ⟨e, eS, eM⟩ := h; subst eS; subst eM; subst e; clear hG
    refine gj_istore_n (q := 15) (gj_dk okX6_takeNumber 8 rfl) (by decide) rfl ?_
    refine gj_iload_n (q := 16) (gj_dk okX6_takeNumber 9 rfl) rfl rfl ?_
    refine gj_iload_n (q := 17) (gj_dk okX6_takeNumber 10 rfl) rfl rfl ?_
    refine gj_icmp_lt (q := 20) (tgt := 25) (gj_dk okX6_takeNumber 11 rfl) (by decide) rfl (fun c17 => ?_) (fun c17 => ?_)
    · -- 25
      replace hF := gj_ift c17 hF
      refine gj_iconst (q := 26) (gj_dk okX6_takeNumber 15 rfl) (by decide) rfl ?_
      cases hF
      exact gj_zret (gj_dk okX6_takeNumber 16 rfl) rfl (by decide) ⟨_, rfl, (by decide), rfl, rfl, rfl⟩
    · -- 20
      replace hF := gj_iff c17 hF
      refine gj_iload_n (q := 21) (gj_dk okX6_takeNumber 12 rfl) rfl rfl ?_
      refine gj_iload_n (q := 22) (gj_dk okX6_takeNumber 13 rfl) rfl rfl ?_
      refine gj_icmp_le (q := 25) (tgt := 27) (gj_dk okX6_takeNumber 14 rfl) (by decide) rfl (fun c22 => ?_) (fun c22 => ?_)
      · -- 27
        replace hF := gj_ift c22 hF
        refine gj_aload_n (q := 28) (gj_dk okX6_takeNumber 17 rfl) rfl rfl ?_
        refine gj_iload_n (q := 29) (gj_dk okX6_takeNumber 18 rfl) rfl rfl ?_
        refine gj_pfI (q := 32) (j := 9) (gj_dk okX6_takeNumber 19 rfl) ff_X6_152 (sh10 hst) (by decide) rfl rfl ?_
        refine gj_stp hF (fun M3 hF => ?_)
        refine gj_aload_n (q := 33) (gj_dk okX6_takeNumber 20 rfl) rfl rfl ?_
        obtain ⟨M5, hG, hF⟩ := gj_bndd hF
        refine gj_callV (q := 36) (z := 10) (ci := 6) [] rfl (t_X6_scan hst  hG) (gj_dk okX6_takeNumber 21 rfl) ml_X6_48 me_X6_scan (sh10 hst) rfl (gj_nm rfl) rfl (gj_kV fun S2 M2 h => ?_)
        obtain ⟨eS, eM⟩ := h; subst eS; subst eM; clear hG
        refine gj_iconst (q := 37) (gj_dk okX6_takeNumber 22 rfl) (by decide) rfl ?_
        cases hF
        exact gj_zret (gj_dk okX6_takeNumber 23 rfl) rfl (by decide) ⟨_, rfl, (by decide), rfl, rfl, rfl⟩
      · -- 25
        replace hF := gj_iff c22 hF
        refine gj_iconst (q := 26) (gj_dk okX6_takeNumber 15 rfl) (by decide) rfl ?_
        cases hF
        exact gj_zret (gj_dk okX6_takeNumber 16 rfl) rfl (by decide) ⟨_, rfl, (by decide), rfl, rfl, rfl⟩
  · -- 8
    replace hF := gj_iff c5 hF
    refine gj_iconst (q := 9) (gj_dk okX6_takeNumber 4 rfl) (by decide) rfl ?_
    cases hF
    exact gj_zret (gj_dk okX6_takeNumber 5 rfl) rfl (by decide) ⟨_, rfl, (by decide), rfl, rfl, rfl⟩
def F_X6_takeStop (M : gj_M) : Option (Int × gj_M) :=
  (if M 10 6 = 3 then gj_bnd (F_X6_scan M) (fun M2 => (some ((1, M2)))) else (some ((0, M))))
set_option maxHeartbeats 4000000 in
set_option maxRecDepth 20000 in
theorem t_X6_takeStop (hst : gj_Stat S) {r : Int × gj_M} (hF : F_X6_takeStop M = some r) : gj_C G l 4 0 0 yX6_takeStop cX6_takeStop 1 (some .boolean) [jR 10] S M (gj_qI fun x S' M' => (x = 0 ∨ x = 1) ∧ r.1 = x ∧ S = S' ∧ r.2 = M') := by
  refine gj_Cof (by decide +kernel) (Nat.le_of_ble_eq_true rfl) ?_
  change gj_W G l 4 0 0 yX6_takeStop cX6_takeStop 1 (some .boolean) (gj_qI fun x S' M' => (x = 0 ∨ x = 1) ∧ r.1 = x ∧ S = S' ∧ r.2 = M') 0 0 0 [(0, jR 10)] [] S M
  unfold F_X6_takeStop at hF
  refine gj_aload_n (q := 1) (gj_dk okX6_takeStop 0 rfl) rfl rfl ?_
  refine gj_gI (q := 4) (j := 6) (gj_dk okX6_takeStop 1 rfl) ff_X6_57 (sh10 hst) (by decide) rfl rfl ?_
  refine gj_iconst (q := 5) (gj_dk okX6_takeStop 2 rfl) (by decide) rfl ?_
  refine gj_icmp_eq (q := 8) (tgt := 10) (gj_dk okX6_takeStop 3 rfl) (by decide) rfl (fun c5 => ?_) (fun c5 => ?_)
  · -- 10
    replace hF := gj_ift c5 hF
    refine gj_aload_n (q := 11) (gj_dk okX6_takeStop 6 rfl) rfl rfl ?_
    obtain ⟨M2, hG, hF⟩ := gj_bndd hF
    refine gj_callV (q := 14) (z := 10) (ci := 6) [] rfl (t_X6_scan hst  hG) (gj_dk okX6_takeStop 7 rfl) ml_X6_48 me_X6_scan (sh10 hst) rfl (gj_nm rfl) rfl (gj_kV fun S2 M2 h => ?_)
    obtain ⟨eS, eM⟩ := h; subst eS; subst eM; clear hG
    refine gj_iconst (q := 15) (gj_dk okX6_takeStop 8 rfl) (by decide) rfl ?_
    cases hF
    exact gj_zret (gj_dk okX6_takeStop 9 rfl) rfl (by decide) ⟨_, rfl, (by decide), rfl, rfl, rfl⟩
  · -- 8
    replace hF := gj_iff c5 hF
    refine gj_iconst (q := 9) (gj_dk okX6_takeStop 4 rfl) (by decide) rfl ?_
    cases hF
    exact gj_zret (gj_dk okX6_takeStop 5 rfl) rfl (by decide) ⟨_, rfl, (by decide), rfl, rfl, rfl⟩
def J_X6_readPerson_84 (l1 l5 : Int) (M : gj_M) : Option (Int × gj_M) :=
  gj_let (f_put M 4 8 l5 (M 10 9)) (fun M15 => (if l1 = 0 then gj_let (gj_up M15 3 0 (gj_w ((M15 3 0) + 1))) (fun M19 => gj_bnd2 (F_X6_takeStop M19) (fun x20 M21 => (some ((x20, M21))))) else gj_let (gj_up M15 3 1 (gj_w ((M15 3 1) + 1))) (fun M16 => gj_bnd2 (F_X6_takeStop M16) (fun x17 M18 => (some ((x17, M18)))))))
def F_X6_readPerson (a1 : Int) (a2 : Int) (M : gj_M) : Option (Int × gj_M) :=
  (if a2 < 4 then gj_bnd (F_X6_scan M) (fun M2 => gj_bnd (F_X6_nameHere M2) (fun x3 => (if x3 = 0 then (some ((0, M2))) else gj_bnd (F_X6_isLineWord M2) (fun x5 => (if x5 = 0 then gj_bnd (F_X6_slotNamed x3 M2) (fun x7 => (if x7 = -1 then gj_bnd (F_X6_scan M2) (fun M10 => gj_bnd2 (F_X6_takeNumber 0 99 M10) (fun x11 M12 => (if x11 = 0 then (some ((0, M12))) else (if gj_w (a1 + a2) < 0 then (J_X6_readPerson_84 a1 (gj_w (a1 + a2)) M12) else (if 8 ≤ gj_w (a1 + a2) then (J_X6_readPerson_84 a1 (gj_w (a1 + a2)) M12) else gj_chk (0 ≤ gj_w (a1 + a2) ∧ gj_w (a1 + a2) < 8) (gj_let (gj_up M12 11 (gj_w (a1 + a2)) x3) (fun M14 => (J_X6_readPerson_84 a1 (gj_w (a1 + a2)) M14)))))))) else (some ((0, M2))))) else (some ((0, M2)))))))) else (some ((0, M))))
set_option maxHeartbeats 4000000 in
set_option maxRecDepth 20000 in
theorem t_J_X6_readPerson_84 (hst : gj_Stat S) {r : Int × gj_M} (l1 l5 : Int) (M : gj_M) (hF : J_X6_readPerson_84 l1 l5 M = some r) : gj_W G l 7 0 0 yX6_readPerson cX6_readPerson 6 (some .boolean) (gj_qI fun x S' M' => (x = 0 ∨ x = 1) ∧ r.1 = x ∧ S = S' ∧ r.2 = M') 0 0 84 [(0, jR 10), (1, jI l1), (5, jI l5)] [] S M := by
  unfold J_X6_readPerson_84 at hF
  refine gj_aload_n (q := 85) (gj_dk okX6_readPerson 49 rfl) rfl rfl ?_
  refine gj_gR (q := 88) (j := 1) (gj_dk okX6_readPerson 50 rfl) ff_X6_26 (sh10 hst) (by decide) rfl (rf10_1 hst) rfl ?_
  refine gj_gR (q := 91) (j := 10) (gj_dk okX6_readPerson 51 rfl) ff_X6_148 (sh3 hst) (by decide) rfl (rf3_10 hst) rfl ?_
  refine gj_iload (q := 93) (gj_dk okX6_readPerson 52 rfl) rfl rfl ?_
  refine gj_aload_n (q := 94) (gj_dk okX6_readPerson 53 rfl) rfl rfl ?_
  refine gj_gI (q := 97) (j := 9) (gj_dk okX6_readPerson 54 rfl) ff_X6_152 (sh10 hst) (by decide) rfl rfl ?_
  refine gj_callS (q := 100) [jR 4, jI l5, jI (M 10 9)] rfl (c_X7_put (sh4 hst) (by decide) (by decide) _ _) (gj_dk okX6_readPerson 55 rfl) ml_X6_155 me_X7_put (gj_nm rfl) rfl (gj_kV fun S2 M2 h => ?_)
  obtain ⟨eS, eM⟩ := h; subst eS; subst eM
  refine gj_stp hF (fun M15 hF => ?_)
  refine gj_iload_n (q := 101) (gj_dk okX6_readPerson 56 rfl) rfl rfl ?_
  refine gj_if_ne (q := 104) (tgt := 120) (gj_dk okX6_readPerson 57 rfl) (by decide) rfl (fun c101 => ?_) (fun c101 => ?_)
  · -- 120
    replace hF := gj_iff c101 hF
    refine gj_aload_n (q := 121) (gj_dk okX6_readPerson 66 rfl) rfl rfl ?_
    refine gj_gR (q := 124) (j := 1) (gj_dk okX6_readPerson 67 rfl) ff_X6_26 (sh10 hst) (by decide) rfl (rf10_1 hst) rfl ?_
    refine gj_dup (q := 125) (gj_dk okX6_readPerson 68 rfl) rfl rfl ?_
    refine gj_gI (q := 128) (j := 1) (gj_dk okX6_readPerson 69 rfl) ff_X6_96 (sh3 hst) (by decide) rfl rfl ?_
    refine gj_iconst (q := 129) (gj_dk okX6_readPerson 70 rfl) (by decide) rfl ?_
    refine gj_iadd (q := 130) (gj_dk okX6_readPerson 71 rfl) rfl ?_
    refine gj_pfI (q := 133) (j := 1) (gj_dk okX6_readPerson 72 rfl) ff_X6_96 (sh3 hst) (by decide) rfl rfl ?_
    refine gj_stp hF (fun M16 hF => ?_)
    refine gj_aload_n (q := 134) (gj_dk okX6_readPerson 73 rfl) rfl rfl ?_
    obtain ⟨x17, M18, hG, hF⟩ := gj_bnd2d hF
    refine gj_callV (q := 137) (z := 10) (ci := 6) [] rfl (t_X6_takeStop hst  hG) (gj_dk okX6_readPerson 74 rfl) ml_X6_159 me_X6_takeStop (sh10 hst) rfl (gj_nm rfl) rfl (gj_kI fun y S2 M2 h => ?_)
    obtain ⟨bx17, e, eS, eM⟩ := h; subst eS; subst eM; subst e; clear hG
    dsimp only at bx17 ⊢
    cases hF
    exact gj_zret (gj_dk okX6_readPerson 75 rfl) rfl bx17 ⟨_, rfl, bx17, rfl, rfl, rfl⟩
  · -- 104
    replace hF := gj_ift c101 hF
    refine gj_aload_n (q := 105) (gj_dk okX6_readPerson 58 rfl) rfl rfl ?_
    refine gj_gR (q := 108) (j := 1) (gj_dk okX6_readPerson 59 rfl) ff_X6_26 (sh10 hst) (by decide) rfl (rf10_1 hst) rfl ?_
    refine gj_dup (q := 109) (gj_dk okX6_readPerson 60 rfl) rfl rfl ?_
    refine gj_gI (q := 112) (j := 0) (gj_dk okX6_readPerson 61 rfl) ff_X6_87 (sh3 hst) (by decide) rfl rfl ?_
    refine gj_iconst (q := 113) (gj_dk okX6_readPerson 62 rfl) (by decide) rfl ?_
    refine gj_iadd (q := 114) (gj_dk okX6_readPerson 63 rfl) rfl ?_
    refine gj_pfI (q := 117) (j := 0) (gj_dk okX6_readPerson 64 rfl) ff_X6_87 (sh3 hst) (by decide) rfl rfl ?_
    refine gj_stp hF (fun M19 hF => ?_)
    refine gj_goto (tgt := 133) (gj_dk okX6_readPerson 65 rfl) (by decide) ?_
    refine gj_aload_n (q := 134) (gj_dk okX6_readPerson 73 rfl) rfl rfl ?_
    obtain ⟨x20, M21, hG, hF⟩ := gj_bnd2d hF
    refine gj_callV (q := 137) (z := 10) (ci := 6) [] rfl (t_X6_takeStop hst  hG) (gj_dk okX6_readPerson 74 rfl) ml_X6_159 me_X6_takeStop (sh10 hst) rfl (gj_nm rfl) rfl (gj_kI fun y S2 M2 h => ?_)
    obtain ⟨bx20, e, eS, eM⟩ := h; subst eS; subst eM; subst e; clear hG
    dsimp only at bx20 ⊢
    cases hF
    exact gj_zret (gj_dk okX6_readPerson 75 rfl) rfl bx20 ⟨_, rfl, bx20, rfl, rfl, rfl⟩
set_option maxHeartbeats 4000000 in
set_option maxRecDepth 20000 in
theorem t_X6_readPerson (hst : gj_Stat S) (a1 a2 : Int) {r : Int × gj_M} (hF : F_X6_readPerson a1 a2 M = some r) : gj_C G l 7 0 0 yX6_readPerson cX6_readPerson 6 (some .boolean) [jR 10, jI a1, jI a2] S M (gj_qI fun x S' M' => (x = 0 ∨ x = 1) ∧ r.1 = x ∧ S = S' ∧ r.2 = M') := by
  refine gj_Cof (by decide +kernel) (Nat.le_of_ble_eq_true rfl) ?_
  change gj_W G l 7 0 0 yX6_readPerson cX6_readPerson 6 (some .boolean) (gj_qI fun x S' M' => (x = 0 ∨ x = 1) ∧ r.1 = x ∧ S = S' ∧ r.2 = M') 0 0 0 [(0, jR 10), (1, jI a1), (2, jI a2)] [] S M
  unfold F_X6_readPerson at hF
  refine gj_iload_n (q := 1) (gj_dk okX6_readPerson 0 rfl) rfl rfl ?_
  refine gj_iconst (q := 2) (gj_dk okX6_readPerson 1 rfl) (by decide) rfl ?_
  refine gj_icmp_lt (q := 5) (tgt := 7) (gj_dk okX6_readPerson 2 rfl) (by decide) rfl (fun c2 => ?_) (fun c2 => ?_)
  · -- 7
    replace hF := gj_ift c2 hF
    refine gj_aload_n (q := 8) (gj_dk okX6_readPerson 5 rfl) rfl rfl ?_
    obtain ⟨M2, hG, hF⟩ := gj_bndd hF
    refine gj_callV (q := 11) (z := 10) (ci := 6) [] rfl (t_X6_scan hst  hG) (gj_dk okX6_readPerson 6 rfl) ml_X6_48 me_X6_scan (sh10 hst) rfl (gj_nm rfl) rfl (gj_kV fun S2 M2 h => ?_)
    obtain ⟨eS, eM⟩ := h; subst eS; subst eM; clear hG
    refine gj_aload_n (q := 12) (gj_dk okX6_readPerson 7 rfl) rfl rfl ?_
    obtain ⟨x3, hG, hF⟩ := gj_bndd hF
    refine gj_callV (q := 15) (z := 10) (ci := 6) [] rfl (t_X6_nameHere hst  hG) (gj_dk okX6_readPerson 8 rfl) ml_X6_134 me_X6_nameHere (sh10 hst) rfl (gj_nm rfl) rfl (gj_kL fun y S2 M2 h => ?_)
    obtain ⟨e, eS, eM⟩ := h; subst eS; subst eM; subst e; clear hG
    refine gj_lstore_n (q := 16) (gj_dk okX6_readPerson 9 rfl) (by decide) rfl ?_
    refine gj_lload_n (q := 17) (gj_dk okX6_readPerson 10 rfl) rfl rfl ?_
    refine gj_lconst (q := 18) (z := 0) (gj_dk okX6_readPerson 11 rfl) rfl (by decide) rfl ?_
    refine gj_lcmp (q := 19) (gj_dk okX6_readPerson 12 rfl) rfl ?_
    refine gj_if_eq (q := 22) (tgt := 38) (gj_dk okX6_readPerson 13 rfl) (by decide) rfl (fun c19 => ?_) (fun c19 => ?_)
    · -- 38
      replace c19 := gj_cm_eq.mp c19
      replace hF := gj_ift c19 hF
      refine gj_iconst (q := 39) (gj_dk okX6_readPerson 22 rfl) (by decide) rfl ?_
      cases hF
      exact gj_zret (gj_dk okX6_readPerson 23 rfl) rfl (by decide) ⟨_, rfl, (by decide), rfl, rfl, rfl⟩
    · -- 22
      replace c19 := gj_cm_eqn.mp c19
      replace hF := gj_iff c19 hF
      refine gj_aload_n (q := 23) (gj_dk okX6_readPerson 14 rfl) rfl rfl ?_
      obtain ⟨x5, hG, hF⟩ := gj_bndd hF
      refine gj_callV (q := 26) (z := 10) (ci := 6) [] rfl (t_X6_isLineWord hst  hG) (gj_dk okX6_readPerson 15 rfl) ml_X6_138 me_X6_isLineWord (sh10 hst) rfl (gj_nm rfl) rfl (gj_kI fun y S2 M2 h => ?_)
      obtain ⟨bx5, e, eS, eM⟩ := h; subst eS; subst eM; subst e; clear hG
      refine gj_if_ne (q := 29) (tgt := 38) (gj_dk okX6_readPerson 16 rfl) (by decide) rfl (fun c26 => ?_) (fun c26 => ?_)
      · -- 38
        replace hF := gj_iff c26 hF
        refine gj_iconst (q := 39) (gj_dk okX6_readPerson 22 rfl) (by decide) rfl ?_
        cases hF
        exact gj_zret (gj_dk okX6_readPerson 23 rfl) rfl (by decide) ⟨_, rfl, (by decide), rfl, rfl, rfl⟩
      · -- 29
        replace hF := gj_ift c26 hF
        refine gj_aload_n (q := 30) (gj_dk okX6_readPerson 17 rfl) rfl rfl ?_
        refine gj_lload_n (q := 31) (gj_dk okX6_readPerson 18 rfl) rfl rfl ?_
        obtain ⟨x7, hG, hF⟩ := gj_bndd hF
        refine gj_callV (q := 34) (z := 10) (ci := 6) [jL x3] rfl (t_X6_slotNamed hst x3 hG) (gj_dk okX6_readPerson 19 rfl) ml_X6_141 me_X6_slotNamed (sh10 hst) rfl (gj_nm rfl) rfl (gj_kI fun y S2 M2 h => ?_)
        obtain ⟨e, eS, eM⟩ := h; subst eS; subst eM; subst e; clear hG
        refine gj_iconst (q := 35) (gj_dk okX6_readPerson 20 rfl) (by decide) rfl ?_
        refine gj_icmp_eq (q := 38) (tgt := 40) (gj_dk okX6_readPerson 21 rfl) (by decide) rfl (fun c35 => ?_) (fun c35 => ?_)
        · -- 40
          replace hF := gj_ift c35 hF
          refine gj_aload_n (q := 41) (gj_dk okX6_readPerson 24 rfl) rfl rfl ?_
          obtain ⟨M10, hG, hF⟩ := gj_bndd hF
          refine gj_callV (q := 44) (z := 10) (ci := 6) [] rfl (t_X6_scan hst  hG) (gj_dk okX6_readPerson 25 rfl) ml_X6_48 me_X6_scan (sh10 hst) rfl (gj_nm rfl) rfl (gj_kV fun S2 M2 h => ?_)
          obtain ⟨eS, eM⟩ := h; subst eS; subst eM; clear hG
          refine gj_aload_n (q := 45) (gj_dk okX6_readPerson 26 rfl) rfl rfl ?_
          refine gj_iconst (q := 46) (gj_dk okX6_readPerson 27 rfl) (by decide) rfl ?_
          refine gj_bipush (q := 48) (gj_dk okX6_readPerson 28 rfl) (by decide) rfl rfl ?_
          obtain ⟨x11, M12, hG, hF⟩ := gj_bnd2d hF
          refine gj_callV (q := 51) (z := 10) (ci := 6) [jI 0, jI 99] rfl (t_X6_takeNumber hst 0 99 hG) (gj_dk okX6_readPerson 29 rfl) ml_X6_145 me_X6_takeNumber (sh10 hst) rfl (gj_nm rfl) rfl (gj_kI fun y S2 M2 h => ?_)
          obtain ⟨bx11, e, eS, eM⟩ := h; subst eS; subst eM; subst e; clear hG
          dsimp only at bx11 ⊢
          refine gj_if_ne (q := 54) (tgt := 56) (gj_dk okX6_readPerson 30 rfl) (by decide) rfl (fun c51 => ?_) (fun c51 => ?_)
          · -- 56
            replace hF := gj_iff c51 hF
            refine gj_iload_n (q := 57) (gj_dk okX6_readPerson 33 rfl) rfl rfl ?_
            refine gj_iload_n (q := 58) (gj_dk okX6_readPerson 34 rfl) rfl rfl ?_
            refine gj_iadd (q := 59) (gj_dk okX6_readPerson 35 rfl) rfl ?_
            refine gj_istore (q := 61) (gj_dk okX6_readPerson 36 rfl) (by decide) rfl ?_
            refine gj_iload (q := 63) (gj_dk okX6_readPerson 37 rfl) rfl rfl ?_
            refine gj_if_lt (q := 66) (tgt := 84) (gj_dk okX6_readPerson 38 rfl) (by decide) rfl (fun c63 => ?_) (fun c63 => ?_)
            · -- 84
              replace hF := gj_ift c63 hF
              refine gj_sub [(0, jR 10), (1, jI a1), (5, jI (gj_w (a1 + a2)))] ⟨rfl, rfl, rfl, trivial⟩ ?_
              exact t_J_X6_readPerson_84 hst a1 (gj_w (a1 + a2)) M12 hF
            · -- 66
              replace hF := gj_iff c63 hF
              refine gj_iload (q := 68) (gj_dk okX6_readPerson 39 rfl) rfl rfl ?_
              refine gj_aload_n (q := 69) (gj_dk okX6_readPerson 40 rfl) rfl rfl ?_
              refine gj_gR (q := 72) (j := 2) (gj_dk okX6_readPerson 41 rfl) ff_X6_9 (sh10 hst) (by decide) rfl (rf10_2 hst) rfl ?_
              refine gj_alen (q := 73) (gj_dk okX6_readPerson 42 rfl) (sh11 hst) (by decide) rfl ?_
              refine gj_icmp_ge (q := 76) (tgt := 84) (gj_dk okX6_readPerson 43 rfl) (by decide) rfl (fun c73 => ?_) (fun c73 => ?_)
              · -- 84
                replace hF := gj_ift c73 hF
                refine gj_sub [(0, jR 10), (1, jI a1), (5, jI (gj_w (a1 + a2)))] ⟨rfl, rfl, rfl, trivial⟩ ?_
                exact t_J_X6_readPerson_84 hst a1 (gj_w (a1 + a2)) M12 hF
              · -- 76
                replace hF := gj_iff c73 hF
                refine gj_aload_n (q := 77) (gj_dk okX6_readPerson 44 rfl) rfl rfl ?_
                refine gj_gR (q := 80) (j := 2) (gj_dk okX6_readPerson 45 rfl) ff_X6_9 (sh10 hst) (by decide) rfl (rf10_2 hst) rfl ?_
                refine gj_iload (q := 82) (gj_dk okX6_readPerson 46 rfl) rfl rfl ?_
                refine gj_lload_n (q := 83) (gj_dk okX6_readPerson 47 rfl) rfl rfl ?_
                obtain ⟨b13, hF⟩ := gj_ckd hF
                refine gj_last (q := 84) (gj_dk okX6_readPerson 48 rfl) (sh11 hst) b13.1 b13.2 rfl ?_
                refine gj_stp hF (fun M14 hF => ?_)
                refine gj_sub [(0, jR 10), (1, jI a1), (5, jI (gj_w (a1 + a2)))] ⟨rfl, rfl, rfl, trivial⟩ ?_
                exact t_J_X6_readPerson_84 hst a1 (gj_w (a1 + a2)) M14 hF
          · -- 54
            replace hF := gj_ift c51 hF
            refine gj_iconst (q := 55) (gj_dk okX6_readPerson 31 rfl) (by decide) rfl ?_
            cases hF
            exact gj_zret (gj_dk okX6_readPerson 32 rfl) rfl (by decide) ⟨_, rfl, (by decide), rfl, rfl, rfl⟩
        · -- 38
          replace hF := gj_iff c35 hF
          refine gj_iconst (q := 39) (gj_dk okX6_readPerson 22 rfl) (by decide) rfl ?_
          cases hF
          exact gj_zret (gj_dk okX6_readPerson 23 rfl) rfl (by decide) ⟨_, rfl, (by decide), rfl, rfl, rfl⟩
  · -- 5
    replace hF := gj_iff c2 hF
    refine gj_iconst (q := 6) (gj_dk okX6_readPerson 3 rfl) (by decide) rfl ?_
    cases hF
    exact gj_zret (gj_dk okX6_readPerson 4 rfl) rfl (by decide) ⟨_, rfl, (by decide), rfl, rfl, rfl⟩
def F_X6_readThink (M : gj_M) : Option (Int × gj_M) :=
  gj_bnd (F_X6_scan M) (fun M2 => gj_bnd (F_X6_nameHere M2) (fun x3 => gj_bnd (F_X6_slotNamed x3 M2) (fun x5 => (if x5 = -1 then (some ((0, M2))) else gj_bnd (F_X6_scan M2) (fun M8 => gj_bnd (F_X6_nameHere M8) (fun x9 => gj_bnd (F_X6_slotNamed x9 M8) (fun x11 => (if f_unl x5 x11 = 0 then (some ((0, M8))) else (if f_at M8 12 32 (f_vw x5 x11) = 0 then gj_bnd (F_X6_scan M8) (fun M14 => gj_let (f_put M14 12 32 (f_vw x5 x11) 1) (fun M15 => gj_bnd2 (F_X6_takeNumber 0 16 M15) (fun x16 M17 => (if x16 = 0 then (some ((0, M17))) else gj_let (f_put M17 5 32 (f_vw x5 x11) (M17 10 9)) (fun M18 => gj_bnd2 (F_X6_takeNumber 0 16 M18) (fun x19 M20 => (if x19 = 0 then (some ((0, M20))) else gj_let (f_put M20 6 32 (f_vw x5 x11) (M20 10 9)) (fun M21 => gj_bnd2 (F_X6_takeNumber 0 (M21 10 9) M21) (fun x22 M23 => (if x22 = 0 then (some ((0, M23))) else gj_let (f_put M23 7 32 (f_vw x5 x11) (M23 10 9)) (fun M24 => gj_bnd2 (F_X6_takeStop M24) (fun x25 M26 => (some ((x25, M26))))))))))))))) else (some ((0, M8))))))))))))
set_option maxHeartbeats 4000000 in
set_option maxRecDepth 20000 in
theorem t_X6_readThink (hst : gj_Stat S) {r : Int × gj_M} (hF : F_X6_readThink M = some r) : gj_C G l 5 0 0 yX6_readThink cX6_readThink 4 (some .boolean) [jR 10] S M (gj_qI fun x S' M' => (x = 0 ∨ x = 1) ∧ r.1 = x ∧ S = S' ∧ r.2 = M') := by
  refine gj_Cof (by decide +kernel) (Nat.le_of_ble_eq_true rfl) ?_
  change gj_W G l 5 0 0 yX6_readThink cX6_readThink 4 (some .boolean) (gj_qI fun x S' M' => (x = 0 ∨ x = 1) ∧ r.1 = x ∧ S = S' ∧ r.2 = M') 0 0 0 [(0, jR 10)] [] S M
  unfold F_X6_readThink at hF
  refine gj_aload_n (q := 1) (gj_dk okX6_readThink 0 rfl) rfl rfl ?_
  obtain ⟨M2, hG, hF⟩ := gj_bndd hF
  refine gj_callV (q := 4) (z := 10) (ci := 6) [] rfl (t_X6_scan hst  hG) (gj_dk okX6_readThink 1 rfl) ml_X6_48 me_X6_scan (sh10 hst) rfl (gj_nm rfl) rfl (gj_kV fun S2 M2 h => ?_)
  obtain ⟨eS, eM⟩ := h; subst eS; subst eM; clear hG
  refine gj_aload_n (q := 5) (gj_dk okX6_readThink 2 rfl) rfl rfl ?_
  refine gj_aload_n (q := 6) (gj_dk okX6_readThink 3 rfl) rfl rfl ?_
  obtain ⟨x3, hG, hF⟩ := gj_bndd hF
  refine gj_callV (q := 9) (z := 10) (ci := 6) [] rfl (t_X6_nameHere hst  hG) (gj_dk okX6_readThink 4 rfl) ml_X6_134 me_X6_nameHere (sh10 hst) rfl (gj_nm rfl) rfl (gj_kL fun y S2 M2 h => ?_)
  obtain ⟨e, eS, eM⟩ := h; subst eS; subst eM; subst e; clear hG
  obtain ⟨x5, hG, hF⟩ := gj_bndd hF
  refine gj_callV (q := 12) (z := 10) (ci := 6) [jL x3] rfl (t_X6_slotNamed hst x3 hG) (gj_dk okX6_readThink 5 rfl) ml_X6_141 me_X6_slotNamed (sh10 hst) rfl (gj_nm rfl) rfl (gj_kI fun y S2 M2 h => ?_)
  obtain ⟨e, eS, eM⟩ := h; subst eS; subst eM; subst e; clear hG
  refine gj_istore_n (q := 13) (gj_dk okX6_readThink 6 rfl) (by decide) rfl ?_
  refine gj_iload_n (q := 14) (gj_dk okX6_readThink 7 rfl) rfl rfl ?_
  refine gj_iconst (q := 15) (gj_dk okX6_readThink 8 rfl) (by decide) rfl ?_
  refine gj_icmp_ne (q := 18) (tgt := 20) (gj_dk okX6_readThink 9 rfl) (by decide) rfl (fun c15 => ?_) (fun c15 => ?_)
  · -- 20
    replace hF := gj_iff c15 hF
    refine gj_aload_n (q := 21) (gj_dk okX6_readThink 12 rfl) rfl rfl ?_
    obtain ⟨M8, hG, hF⟩ := gj_bndd hF
    refine gj_callV (q := 24) (z := 10) (ci := 6) [] rfl (t_X6_scan hst  hG) (gj_dk okX6_readThink 13 rfl) ml_X6_48 me_X6_scan (sh10 hst) rfl (gj_nm rfl) rfl (gj_kV fun S2 M2 h => ?_)
    obtain ⟨eS, eM⟩ := h; subst eS; subst eM; clear hG
    refine gj_aload_n (q := 25) (gj_dk okX6_readThink 14 rfl) rfl rfl ?_
    refine gj_aload_n (q := 26) (gj_dk okX6_readThink 15 rfl) rfl rfl ?_
    obtain ⟨x9, hG, hF⟩ := gj_bndd hF
    refine gj_callV (q := 29) (z := 10) (ci := 6) [] rfl (t_X6_nameHere hst  hG) (gj_dk okX6_readThink 16 rfl) ml_X6_134 me_X6_nameHere (sh10 hst) rfl (gj_nm rfl) rfl (gj_kL fun y S2 M2 h => ?_)
    obtain ⟨e, eS, eM⟩ := h; subst eS; subst eM; subst e; clear hG
    obtain ⟨x11, hG, hF⟩ := gj_bndd hF
    refine gj_callV (q := 32) (z := 10) (ci := 6) [jL x9] rfl (t_X6_slotNamed hst x9 hG) (gj_dk okX6_readThink 17 rfl) ml_X6_141 me_X6_slotNamed (sh10 hst) rfl (gj_nm rfl) rfl (gj_kI fun y S2 M2 h => ?_)
    obtain ⟨e, eS, eM⟩ := h; subst eS; subst eM; subst e; clear hG
    refine gj_istore_n (q := 33) (gj_dk okX6_readThink 18 rfl) (by decide) rfl ?_
    refine gj_iload_n (q := 34) (gj_dk okX6_readThink 19 rfl) rfl rfl ?_
    refine gj_iload_n (q := 35) (gj_dk okX6_readThink 20 rfl) rfl rfl ?_
    refine gj_callS (q := 38) [jI x5, jI x11] rfl (c_X10_unlike _ _) (gj_dk okX6_readThink 21 rfl) ml_X6_162 me_X10_unlike (gj_nm rfl) rfl (gj_kI fun x S2 M2 h => ?_)
    obtain ⟨e, eS, eM⟩ := h; subst eS; subst eM; subst e
    refine gj_if_eq (q := 41) (tgt := 56) (gj_dk okX6_readThink 22 rfl) (by decide) rfl (fun c38 => ?_) (fun c38 => ?_)
    · -- 56
      replace hF := gj_ift c38 hF
      refine gj_iconst (q := 57) (gj_dk okX6_readThink 30 rfl) (by decide) rfl ?_
      cases hF
      exact gj_zret (gj_dk okX6_readThink 31 rfl) rfl (by decide) ⟨_, rfl, (by decide), rfl, rfl, rfl⟩
    · -- 41
      replace hF := gj_iff c38 hF
      refine gj_aload_n (q := 42) (gj_dk okX6_readThink 23 rfl) rfl rfl ?_
      refine gj_gR (q := 45) (j := 3) (gj_dk okX6_readThink 24 rfl) ff_X6_15 (sh10 hst) (by decide) rfl (rf10_3 hst) rfl ?_
      refine gj_iload_n (q := 46) (gj_dk okX6_readThink 25 rfl) rfl rfl ?_
      refine gj_iload_n (q := 47) (gj_dk okX6_readThink 26 rfl) rfl rfl ?_
      refine gj_callS (q := 50) [jI x5, jI x11] rfl (c_X10_view _ _) (gj_dk okX6_readThink 27 rfl) ml_X6_167 me_X10_view (gj_nm rfl) rfl (gj_kI fun x S2 M2 h => ?_)
      obtain ⟨e, eS, eM⟩ := h; subst eS; subst eM; subst e
      refine gj_callS (q := 53) [jR 12, jI (f_vw x5 x11)] rfl (c_X7_is (sh12 hst) (by decide) (by decide) _) (gj_dk okX6_readThink 28 rfl) ml_X6_171 me_X7_is (gj_nm rfl) rfl (gj_kI fun x S2 M2 h => ?_)
      obtain ⟨e, eS, eM⟩ := h; subst eS; subst eM; subst e
      refine gj_if_eq (q := 56) (tgt := 58) (gj_dk okX6_readThink 29 rfl) (by decide) rfl (fun c53 => ?_) (fun c53 => ?_)
      · -- 58
        replace hF := gj_ift c53 hF
        refine gj_iload_n (q := 59) (gj_dk okX6_readThink 32 rfl) rfl rfl ?_
        refine gj_iload_n (q := 60) (gj_dk okX6_readThink 33 rfl) rfl rfl ?_
        refine gj_callS (q := 63) [jI x5, jI x11] rfl (c_X10_view _ _) (gj_dk okX6_readThink 34 rfl) ml_X6_167 me_X10_view (gj_nm rfl) rfl (gj_kI fun x S2 M2 h => ?_)
        obtain ⟨e, eS, eM⟩ := h; subst eS; subst eM; subst e
        refine gj_istore_n (q := 64) (gj_dk okX6_readThink 35 rfl) (by decide) rfl ?_
        refine gj_aload_n (q := 65) (gj_dk okX6_readThink 36 rfl) rfl rfl ?_
        obtain ⟨M14, hG, hF⟩ := gj_bndd hF
        refine gj_callV (q := 68) (z := 10) (ci := 6) [] rfl (t_X6_scan hst  hG) (gj_dk okX6_readThink 37 rfl) ml_X6_48 me_X6_scan (sh10 hst) rfl (gj_nm rfl) rfl (gj_kV fun S2 M2 h => ?_)
        obtain ⟨eS, eM⟩ := h; subst eS; subst eM; clear hG
        refine gj_aload_n (q := 69) (gj_dk okX6_readThink 38 rfl) rfl rfl ?_
        refine gj_gR (q := 72) (j := 3) (gj_dk okX6_readThink 39 rfl) ff_X6_15 (sh10 hst) (by decide) rfl (rf10_3 hst) rfl ?_
        refine gj_iload_n (q := 73) (gj_dk okX6_readThink 40 rfl) rfl rfl ?_
        refine gj_iconst (q := 74) (gj_dk okX6_readThink 41 rfl) (by decide) rfl ?_
        refine gj_callS (q := 77) [jR 12, jI (f_vw x5 x11), jI 1] rfl (c_X7_mark (sh12 hst) (by decide) (by decide) _ _ (by decide)) (gj_dk okX6_readThink 42 rfl) ml_X6_175 me_X7_mark (gj_nm rfl) rfl (gj_kV fun S2 M2 h => ?_)
        obtain ⟨eS, eM⟩ := h; subst eS; subst eM
        refine gj_stp hF (fun M15 hF => ?_)
        refine gj_aload_n (q := 78) (gj_dk okX6_readThink 43 rfl) rfl rfl ?_
        refine gj_iconst (q := 79) (gj_dk okX6_readThink 44 rfl) (by decide) rfl ?_
        refine gj_bipush (q := 81) (gj_dk okX6_readThink 45 rfl) (by decide) rfl rfl ?_
        obtain ⟨x16, M17, hG, hF⟩ := gj_bnd2d hF
        refine gj_callV (q := 84) (z := 10) (ci := 6) [jI 0, jI 16] rfl (t_X6_takeNumber hst 0 16 hG) (gj_dk okX6_readThink 46 rfl) ml_X6_145 me_X6_takeNumber (sh10 hst) rfl (gj_nm rfl) rfl (gj_kI fun y S2 M2 h => ?_)
        obtain ⟨bx16, e, eS, eM⟩ := h; subst eS; subst eM; subst e; clear hG
        dsimp only at bx16 ⊢
        refine gj_if_ne (q := 87) (tgt := 89) (gj_dk okX6_readThink 47 rfl) (by decide) rfl (fun c84 => ?_) (fun c84 => ?_)
        · -- 89
          replace hF := gj_iff c84 hF
          refine gj_aload_n (q := 90) (gj_dk okX6_readThink 50 rfl) rfl rfl ?_
          refine gj_gR (q := 93) (j := 1) (gj_dk okX6_readThink 51 rfl) ff_X6_26 (sh10 hst) (by decide) rfl (rf10_1 hst) rfl ?_
          refine gj_gR (q := 96) (j := 11) (gj_dk okX6_readThink 52 rfl) ff_X6_179 (sh3 hst) (by decide) rfl (rf3_11 hst) rfl ?_
          refine gj_iload_n (q := 97) (gj_dk okX6_readThink 53 rfl) rfl rfl ?_
          refine gj_aload_n (q := 98) (gj_dk okX6_readThink 54 rfl) rfl rfl ?_
          refine gj_gI (q := 101) (j := 9) (gj_dk okX6_readThink 55 rfl) ff_X6_152 (sh10 hst) (by decide) rfl rfl ?_
          refine gj_callS (q := 104) [jR 5, jI (f_vw x5 x11), jI (M17 10 9)] rfl (c_X7_put (sh5 hst) (by decide) (by decide) _ _) (gj_dk okX6_readThink 56 rfl) ml_X6_155 me_X7_put (gj_nm rfl) rfl (gj_kV fun S2 M2 h => ?_)
          obtain ⟨eS, eM⟩ := h; subst eS; subst eM
          refine gj_stp hF (fun M18 hF => ?_)
          refine gj_aload_n (q := 105) (gj_dk okX6_readThink 57 rfl) rfl rfl ?_
          refine gj_iconst (q := 106) (gj_dk okX6_readThink 58 rfl) (by decide) rfl ?_
          refine gj_bipush (q := 108) (gj_dk okX6_readThink 59 rfl) (by decide) rfl rfl ?_
          obtain ⟨x19, M20, hG, hF⟩ := gj_bnd2d hF
          refine gj_callV (q := 111) (z := 10) (ci := 6) [jI 0, jI 16] rfl (t_X6_takeNumber hst 0 16 hG) (gj_dk okX6_readThink 60 rfl) ml_X6_145 me_X6_takeNumber (sh10 hst) rfl (gj_nm rfl) rfl (gj_kI fun y S2 M2 h => ?_)
          obtain ⟨bx19, e, eS, eM⟩ := h; subst eS; subst eM; subst e; clear hG
          dsimp only at bx19 ⊢
          refine gj_if_ne (q := 114) (tgt := 116) (gj_dk okX6_readThink 61 rfl) (by decide) rfl (fun c111 => ?_) (fun c111 => ?_)
          · -- 116
            replace hF := gj_iff c111 hF
            refine gj_aload_n (q := 117) (gj_dk okX6_readThink 64 rfl) rfl rfl ?_
            refine gj_gR (q := 120) (j := 1) (gj_dk okX6_readThink 65 rfl) ff_X6_26 (sh10 hst) (by decide) rfl (rf10_1 hst) rfl ?_
            refine gj_gR (q := 123) (j := 12) (gj_dk okX6_readThink 66 rfl) ff_X6_182 (sh3 hst) (by decide) rfl (rf3_12 hst) rfl ?_
            refine gj_iload_n (q := 124) (gj_dk okX6_readThink 67 rfl) rfl rfl ?_
            refine gj_aload_n (q := 125) (gj_dk okX6_readThink 68 rfl) rfl rfl ?_
            refine gj_gI (q := 128) (j := 9) (gj_dk okX6_readThink 69 rfl) ff_X6_152 (sh10 hst) (by decide) rfl rfl ?_
            refine gj_callS (q := 131) [jR 6, jI (f_vw x5 x11), jI (M20 10 9)] rfl (c_X7_put (sh6 hst) (by decide) (by decide) _ _) (gj_dk okX6_readThink 70 rfl) ml_X6_155 me_X7_put (gj_nm rfl) rfl (gj_kV fun S2 M2 h => ?_)
            obtain ⟨eS, eM⟩ := h; subst eS; subst eM
            refine gj_stp hF (fun M21 hF => ?_)
            refine gj_aload_n (q := 132) (gj_dk okX6_readThink 71 rfl) rfl rfl ?_
            refine gj_iconst (q := 133) (gj_dk okX6_readThink 72 rfl) (by decide) rfl ?_
            refine gj_aload_n (q := 134) (gj_dk okX6_readThink 73 rfl) rfl rfl ?_
            refine gj_gI (q := 137) (j := 9) (gj_dk okX6_readThink 74 rfl) ff_X6_152 (sh10 hst) (by decide) rfl rfl ?_
            obtain ⟨x22, M23, hG, hF⟩ := gj_bnd2d hF
            refine gj_callV (q := 140) (z := 10) (ci := 6) [jI 0, jI (M21 10 9)] rfl (t_X6_takeNumber hst 0 (M21 10 9) hG) (gj_dk okX6_readThink 75 rfl) ml_X6_145 me_X6_takeNumber (sh10 hst) rfl (gj_nm rfl) rfl (gj_kI fun y S2 M2 h => ?_)
            obtain ⟨bx22, e, eS, eM⟩ := h; subst eS; subst eM; subst e; clear hG
            dsimp only at bx22 ⊢
            refine gj_if_ne (q := 143) (tgt := 145) (gj_dk okX6_readThink 76 rfl) (by decide) rfl (fun c140 => ?_) (fun c140 => ?_)
            · -- 145
              replace hF := gj_iff c140 hF
              refine gj_aload_n (q := 146) (gj_dk okX6_readThink 79 rfl) rfl rfl ?_
              refine gj_gR (q := 149) (j := 1) (gj_dk okX6_readThink 80 rfl) ff_X6_26 (sh10 hst) (by decide) rfl (rf10_1 hst) rfl ?_
              refine gj_gR (q := 152) (j := 13) (gj_dk okX6_readThink 81 rfl) ff_X6_185 (sh3 hst) (by decide) rfl (rf3_13 hst) rfl ?_
              refine gj_iload_n (q := 153) (gj_dk okX6_readThink 82 rfl) rfl rfl ?_
              refine gj_aload_n (q := 154) (gj_dk okX6_readThink 83 rfl) rfl rfl ?_
              refine gj_gI (q := 157) (j := 9) (gj_dk okX6_readThink 84 rfl) ff_X6_152 (sh10 hst) (by decide) rfl rfl ?_
              refine gj_callS (q := 160) [jR 7, jI (f_vw x5 x11), jI (M23 10 9)] rfl (c_X7_put (sh7 hst) (by decide) (by decide) _ _) (gj_dk okX6_readThink 85 rfl) ml_X6_155 me_X7_put (gj_nm rfl) rfl (gj_kV fun S2 M2 h => ?_)
              obtain ⟨eS, eM⟩ := h; subst eS; subst eM
              refine gj_stp hF (fun M24 hF => ?_)
              refine gj_aload_n (q := 161) (gj_dk okX6_readThink 86 rfl) rfl rfl ?_
              obtain ⟨x25, M26, hG, hF⟩ := gj_bnd2d hF
              refine gj_callV (q := 164) (z := 10) (ci := 6) [] rfl (t_X6_takeStop hst  hG) (gj_dk okX6_readThink 87 rfl) ml_X6_159 me_X6_takeStop (sh10 hst) rfl (gj_nm rfl) rfl (gj_kI fun y S2 M2 h => ?_)
              obtain ⟨bx25, e, eS, eM⟩ := h; subst eS; subst eM; subst e; clear hG
              dsimp only at bx25 ⊢
              cases hF
              exact gj_zret (gj_dk okX6_readThink 88 rfl) rfl bx25 ⟨_, rfl, bx25, rfl, rfl, rfl⟩
            · -- 143
              replace hF := gj_ift c140 hF
              refine gj_iconst (q := 144) (gj_dk okX6_readThink 77 rfl) (by decide) rfl ?_
              cases hF
              exact gj_zret (gj_dk okX6_readThink 78 rfl) rfl (by decide) ⟨_, rfl, (by decide), rfl, rfl, rfl⟩
          · -- 114
            replace hF := gj_ift c111 hF
            refine gj_iconst (q := 115) (gj_dk okX6_readThink 62 rfl) (by decide) rfl ?_
            cases hF
            exact gj_zret (gj_dk okX6_readThink 63 rfl) rfl (by decide) ⟨_, rfl, (by decide), rfl, rfl, rfl⟩
        · -- 87
          replace hF := gj_ift c84 hF
          refine gj_iconst (q := 88) (gj_dk okX6_readThink 48 rfl) (by decide) rfl ?_
          cases hF
          exact gj_zret (gj_dk okX6_readThink 49 rfl) rfl (by decide) ⟨_, rfl, (by decide), rfl, rfl, rfl⟩
      · -- 56
        replace hF := gj_iff c53 hF
        refine gj_iconst (q := 57) (gj_dk okX6_readThink 30 rfl) (by decide) rfl ?_
        cases hF
        exact gj_zret (gj_dk okX6_readThink 31 rfl) rfl (by decide) ⟨_, rfl, (by decide), rfl, rfl, rfl⟩
  · -- 18
    replace hF := gj_ift c15 hF
    refine gj_iconst (q := 19) (gj_dk okX6_readThink 10 rfl) (by decide) rfl ?_
    cases hF
    exact gj_zret (gj_dk okX6_readThink 11 rfl) rfl (by decide) ⟨_, rfl, (by decide), rfl, rfl, rfl⟩
def F_X6_readFit (M : gj_M) : Option (Int × gj_M) :=
  gj_bnd (F_X6_scan M) (fun M2 => gj_bnd (F_X6_nameHere M2) (fun x3 => gj_bnd (F_X6_slotNamed x3 M2) (fun x5 => (if x5 = -1 then (some ((0, M2))) else (if x5 < 4 then gj_bnd (F_X6_scan M2) (fun M8 => gj_bnd (F_X6_nameHere M8) (fun x9 => gj_bnd (F_X6_slotNamed x9 M8) (fun x11 => (if f_unl x5 x11 = 0 then (some ((0, M8))) else (if f_at M8 13 16 (f_cpl x5 x11) = 0 then gj_bnd (F_X6_scan M8) (fun M14 => gj_let (f_put M14 13 16 (f_cpl x5 x11) 1) (fun M15 => gj_bnd2 (F_X6_takeNumber 0 16 M15) (fun x16 M17 => (if x16 = 0 then (some ((0, M17))) else gj_let (f_put M17 8 16 (f_cpl x5 x11) (M17 10 9)) (fun M18 => gj_bnd2 (F_X6_takeStop M18) (fun x19 M20 => (some ((x19, M20))))))))) else (some ((0, M8)))))))) else (some ((0, M2))))))))
set_option maxHeartbeats 4000000 in
set_option maxRecDepth 20000 in
theorem t_X6_readFit (hst : gj_Stat S) {r : Int × gj_M} (hF : F_X6_readFit M = some r) : gj_C G l 5 0 0 yX6_readFit cX6_readFit 4 (some .boolean) [jR 10] S M (gj_qI fun x S' M' => (x = 0 ∨ x = 1) ∧ r.1 = x ∧ S = S' ∧ r.2 = M') := by
  refine gj_Cof (by decide +kernel) (Nat.le_of_ble_eq_true rfl) ?_
  change gj_W G l 5 0 0 yX6_readFit cX6_readFit 4 (some .boolean) (gj_qI fun x S' M' => (x = 0 ∨ x = 1) ∧ r.1 = x ∧ S = S' ∧ r.2 = M') 0 0 0 [(0, jR 10)] [] S M
  unfold F_X6_readFit at hF
  refine gj_aload_n (q := 1) (gj_dk okX6_readFit 0 rfl) rfl rfl ?_
  obtain ⟨M2, hG, hF⟩ := gj_bndd hF
  refine gj_callV (q := 4) (z := 10) (ci := 6) [] rfl (t_X6_scan hst  hG) (gj_dk okX6_readFit 1 rfl) ml_X6_48 me_X6_scan (sh10 hst) rfl (gj_nm rfl) rfl (gj_kV fun S2 M2 h => ?_)
  obtain ⟨eS, eM⟩ := h; subst eS; subst eM; clear hG
  refine gj_aload_n (q := 5) (gj_dk okX6_readFit 2 rfl) rfl rfl ?_
  refine gj_aload_n (q := 6) (gj_dk okX6_readFit 3 rfl) rfl rfl ?_
  obtain ⟨x3, hG, hF⟩ := gj_bndd hF
  refine gj_callV (q := 9) (z := 10) (ci := 6) [] rfl (t_X6_nameHere hst  hG) (gj_dk okX6_readFit 4 rfl) ml_X6_134 me_X6_nameHere (sh10 hst) rfl (gj_nm rfl) rfl (gj_kL fun y S2 M2 h => ?_)
  obtain ⟨e, eS, eM⟩ := h; subst eS; subst eM; subst e; clear hG
  obtain ⟨x5, hG, hF⟩ := gj_bndd hF
  refine gj_callV (q := 12) (z := 10) (ci := 6) [jL x3] rfl (t_X6_slotNamed hst x3 hG) (gj_dk okX6_readFit 5 rfl) ml_X6_141 me_X6_slotNamed (sh10 hst) rfl (gj_nm rfl) rfl (gj_kI fun y S2 M2 h => ?_)
  obtain ⟨e, eS, eM⟩ := h; subst eS; subst eM; subst e; clear hG
  refine gj_istore_n (q := 13) (gj_dk okX6_readFit 6 rfl) (by decide) rfl ?_
  refine gj_iload_n (q := 14) (gj_dk okX6_readFit 7 rfl) rfl rfl ?_
  refine gj_iconst (q := 15) (gj_dk okX6_readFit 8 rfl) (by decide) rfl ?_
  refine gj_icmp_eq (q := 18) (tgt := 23) (gj_dk okX6_readFit 9 rfl) (by decide) rfl (fun c15 => ?_) (fun c15 => ?_)
  · -- 23
    replace hF := gj_ift c15 hF
    refine gj_iconst (q := 24) (gj_dk okX6_readFit 13 rfl) (by decide) rfl ?_
    cases hF
    exact gj_zret (gj_dk okX6_readFit 14 rfl) rfl (by decide) ⟨_, rfl, (by decide), rfl, rfl, rfl⟩
  · -- 18
    replace hF := gj_iff c15 hF
    refine gj_iload_n (q := 19) (gj_dk okX6_readFit 10 rfl) rfl rfl ?_
    refine gj_iconst (q := 20) (gj_dk okX6_readFit 11 rfl) (by decide) rfl ?_
    refine gj_icmp_lt (q := 23) (tgt := 25) (gj_dk okX6_readFit 12 rfl) (by decide) rfl (fun c20 => ?_) (fun c20 => ?_)
    · -- 25
      replace hF := gj_ift c20 hF
      refine gj_aload_n (q := 26) (gj_dk okX6_readFit 15 rfl) rfl rfl ?_
      obtain ⟨M8, hG, hF⟩ := gj_bndd hF
      refine gj_callV (q := 29) (z := 10) (ci := 6) [] rfl (t_X6_scan hst  hG) (gj_dk okX6_readFit 16 rfl) ml_X6_48 me_X6_scan (sh10 hst) rfl (gj_nm rfl) rfl (gj_kV fun S2 M2 h => ?_)
      obtain ⟨eS, eM⟩ := h; subst eS; subst eM; clear hG
      refine gj_aload_n (q := 30) (gj_dk okX6_readFit 17 rfl) rfl rfl ?_
      refine gj_aload_n (q := 31) (gj_dk okX6_readFit 18 rfl) rfl rfl ?_
      obtain ⟨x9, hG, hF⟩ := gj_bndd hF
      refine gj_callV (q := 34) (z := 10) (ci := 6) [] rfl (t_X6_nameHere hst  hG) (gj_dk okX6_readFit 19 rfl) ml_X6_134 me_X6_nameHere (sh10 hst) rfl (gj_nm rfl) rfl (gj_kL fun y S2 M2 h => ?_)
      obtain ⟨e, eS, eM⟩ := h; subst eS; subst eM; subst e; clear hG
      obtain ⟨x11, hG, hF⟩ := gj_bndd hF
      refine gj_callV (q := 37) (z := 10) (ci := 6) [jL x9] rfl (t_X6_slotNamed hst x9 hG) (gj_dk okX6_readFit 20 rfl) ml_X6_141 me_X6_slotNamed (sh10 hst) rfl (gj_nm rfl) rfl (gj_kI fun y S2 M2 h => ?_)
      obtain ⟨e, eS, eM⟩ := h; subst eS; subst eM; subst e; clear hG
      refine gj_istore_n (q := 38) (gj_dk okX6_readFit 21 rfl) (by decide) rfl ?_
      refine gj_iload_n (q := 39) (gj_dk okX6_readFit 22 rfl) rfl rfl ?_
      refine gj_iload_n (q := 40) (gj_dk okX6_readFit 23 rfl) rfl rfl ?_
      refine gj_callS (q := 43) [jI x5, jI x11] rfl (c_X10_unlike _ _) (gj_dk okX6_readFit 24 rfl) ml_X6_162 me_X10_unlike (gj_nm rfl) rfl (gj_kI fun x S2 M2 h => ?_)
      obtain ⟨e, eS, eM⟩ := h; subst eS; subst eM; subst e
      refine gj_if_eq (q := 46) (tgt := 61) (gj_dk okX6_readFit 25 rfl) (by decide) rfl (fun c43 => ?_) (fun c43 => ?_)
      · -- 61
        replace hF := gj_ift c43 hF
        refine gj_iconst (q := 62) (gj_dk okX6_readFit 33 rfl) (by decide) rfl ?_
        cases hF
        exact gj_zret (gj_dk okX6_readFit 34 rfl) rfl (by decide) ⟨_, rfl, (by decide), rfl, rfl, rfl⟩
      · -- 46
        replace hF := gj_iff c43 hF
        refine gj_aload_n (q := 47) (gj_dk okX6_readFit 26 rfl) rfl rfl ?_
        refine gj_gR (q := 50) (j := 4) (gj_dk okX6_readFit 27 rfl) ff_X6_19 (sh10 hst) (by decide) rfl (rf10_4 hst) rfl ?_
        refine gj_iload_n (q := 51) (gj_dk okX6_readFit 28 rfl) rfl rfl ?_
        refine gj_iload_n (q := 52) (gj_dk okX6_readFit 29 rfl) rfl rfl ?_
        refine gj_callS (q := 55) [jI x5, jI x11] rfl (c_X10_couple _ _) (gj_dk okX6_readFit 30 rfl) ml_X6_188 me_X10_couple (gj_nm rfl) rfl (gj_kI fun x S2 M2 h => ?_)
        obtain ⟨e, eS, eM⟩ := h; subst eS; subst eM; subst e
        refine gj_callS (q := 58) [jR 13, jI (f_cpl x5 x11)] rfl (c_X7_is (sh13 hst) (by decide) (by decide) _) (gj_dk okX6_readFit 31 rfl) ml_X6_171 me_X7_is (gj_nm rfl) rfl (gj_kI fun x S2 M2 h => ?_)
        obtain ⟨e, eS, eM⟩ := h; subst eS; subst eM; subst e
        refine gj_if_eq (q := 61) (tgt := 63) (gj_dk okX6_readFit 32 rfl) (by decide) rfl (fun c58 => ?_) (fun c58 => ?_)
        · -- 63
          replace hF := gj_ift c58 hF
          refine gj_iload_n (q := 64) (gj_dk okX6_readFit 35 rfl) rfl rfl ?_
          refine gj_iload_n (q := 65) (gj_dk okX6_readFit 36 rfl) rfl rfl ?_
          refine gj_callS (q := 68) [jI x5, jI x11] rfl (c_X10_couple _ _) (gj_dk okX6_readFit 37 rfl) ml_X6_188 me_X10_couple (gj_nm rfl) rfl (gj_kI fun x S2 M2 h => ?_)
          obtain ⟨e, eS, eM⟩ := h; subst eS; subst eM; subst e
          refine gj_istore_n (q := 69) (gj_dk okX6_readFit 38 rfl) (by decide) rfl ?_
          refine gj_aload_n (q := 70) (gj_dk okX6_readFit 39 rfl) rfl rfl ?_
          obtain ⟨M14, hG, hF⟩ := gj_bndd hF
          refine gj_callV (q := 73) (z := 10) (ci := 6) [] rfl (t_X6_scan hst  hG) (gj_dk okX6_readFit 40 rfl) ml_X6_48 me_X6_scan (sh10 hst) rfl (gj_nm rfl) rfl (gj_kV fun S2 M2 h => ?_)
          obtain ⟨eS, eM⟩ := h; subst eS; subst eM; clear hG
          refine gj_aload_n (q := 74) (gj_dk okX6_readFit 41 rfl) rfl rfl ?_
          refine gj_gR (q := 77) (j := 4) (gj_dk okX6_readFit 42 rfl) ff_X6_19 (sh10 hst) (by decide) rfl (rf10_4 hst) rfl ?_
          refine gj_iload_n (q := 78) (gj_dk okX6_readFit 43 rfl) rfl rfl ?_
          refine gj_iconst (q := 79) (gj_dk okX6_readFit 44 rfl) (by decide) rfl ?_
          refine gj_callS (q := 82) [jR 13, jI (f_cpl x5 x11), jI 1] rfl (c_X7_mark (sh13 hst) (by decide) (by decide) _ _ (by decide)) (gj_dk okX6_readFit 45 rfl) ml_X6_175 me_X7_mark (gj_nm rfl) rfl (gj_kV fun S2 M2 h => ?_)
          obtain ⟨eS, eM⟩ := h; subst eS; subst eM
          refine gj_stp hF (fun M15 hF => ?_)
          refine gj_aload_n (q := 83) (gj_dk okX6_readFit 46 rfl) rfl rfl ?_
          refine gj_iconst (q := 84) (gj_dk okX6_readFit 47 rfl) (by decide) rfl ?_
          refine gj_bipush (q := 86) (gj_dk okX6_readFit 48 rfl) (by decide) rfl rfl ?_
          obtain ⟨x16, M17, hG, hF⟩ := gj_bnd2d hF
          refine gj_callV (q := 89) (z := 10) (ci := 6) [jI 0, jI 16] rfl (t_X6_takeNumber hst 0 16 hG) (gj_dk okX6_readFit 49 rfl) ml_X6_145 me_X6_takeNumber (sh10 hst) rfl (gj_nm rfl) rfl (gj_kI fun y S2 M2 h => ?_)
          obtain ⟨bx16, e, eS, eM⟩ := h; subst eS; subst eM; subst e; clear hG
          dsimp only at bx16 ⊢
          refine gj_if_ne (q := 92) (tgt := 94) (gj_dk okX6_readFit 50 rfl) (by decide) rfl (fun c89 => ?_) (fun c89 => ?_)
          · -- 94
            replace hF := gj_iff c89 hF
            refine gj_aload_n (q := 95) (gj_dk okX6_readFit 53 rfl) rfl rfl ?_
            refine gj_gR (q := 98) (j := 1) (gj_dk okX6_readFit 54 rfl) ff_X6_26 (sh10 hst) (by decide) rfl (rf10_1 hst) rfl ?_
            refine gj_gR (q := 101) (j := 14) (gj_dk okX6_readFit 55 rfl) ff_X6_191 (sh3 hst) (by decide) rfl (rf3_14 hst) rfl ?_
            refine gj_iload_n (q := 102) (gj_dk okX6_readFit 56 rfl) rfl rfl ?_
            refine gj_aload_n (q := 103) (gj_dk okX6_readFit 57 rfl) rfl rfl ?_
            refine gj_gI (q := 106) (j := 9) (gj_dk okX6_readFit 58 rfl) ff_X6_152 (sh10 hst) (by decide) rfl rfl ?_
            refine gj_callS (q := 109) [jR 8, jI (f_cpl x5 x11), jI (M17 10 9)] rfl (c_X7_put (sh8 hst) (by decide) (by decide) _ _) (gj_dk okX6_readFit 59 rfl) ml_X6_155 me_X7_put (gj_nm rfl) rfl (gj_kV fun S2 M2 h => ?_)
            obtain ⟨eS, eM⟩ := h; subst eS; subst eM
            refine gj_stp hF (fun M18 hF => ?_)
            refine gj_aload_n (q := 110) (gj_dk okX6_readFit 60 rfl) rfl rfl ?_
            obtain ⟨x19, M20, hG, hF⟩ := gj_bnd2d hF
            refine gj_callV (q := 113) (z := 10) (ci := 6) [] rfl (t_X6_takeStop hst  hG) (gj_dk okX6_readFit 61 rfl) ml_X6_159 me_X6_takeStop (sh10 hst) rfl (gj_nm rfl) rfl (gj_kI fun y S2 M2 h => ?_)
            obtain ⟨bx19, e, eS, eM⟩ := h; subst eS; subst eM; subst e; clear hG
            dsimp only at bx19 ⊢
            cases hF
            exact gj_zret (gj_dk okX6_readFit 62 rfl) rfl bx19 ⟨_, rfl, bx19, rfl, rfl, rfl⟩
          · -- 92
            replace hF := gj_ift c89 hF
            refine gj_iconst (q := 93) (gj_dk okX6_readFit 51 rfl) (by decide) rfl ?_
            cases hF
            exact gj_zret (gj_dk okX6_readFit 52 rfl) rfl (by decide) ⟨_, rfl, (by decide), rfl, rfl, rfl⟩
        · -- 61
          replace hF := gj_iff c58 hF
          refine gj_iconst (q := 62) (gj_dk okX6_readFit 33 rfl) (by decide) rfl ?_
          cases hF
          exact gj_zret (gj_dk okX6_readFit 34 rfl) rfl (by decide) ⟨_, rfl, (by decide), rfl, rfl, rfl⟩
    · -- 23
      replace hF := gj_iff c20 hF
      refine gj_iconst (q := 24) (gj_dk okX6_readFit 13 rfl) (by decide) rfl ?_
      cases hF
      exact gj_zret (gj_dk okX6_readFit 14 rfl) rfl (by decide) ⟨_, rfl, (by decide), rfl, rfl, rfl⟩
def F_X6_firstTold (a1 : Int) (M : gj_M) : Option (Int × gj_M) :=
  (if gj_and (M 10 5) a1 = 0 then gj_let (gj_up M 10 5 (gj_or (M 10 5) a1)) (fun M1 => gj_bnd (F_X6_scan M1) (fun M3 => (some ((1, M3))))) else (some ((0, M))))
set_option maxHeartbeats 4000000 in
set_option maxRecDepth 20000 in
theorem t_X6_firstTold (hst : gj_Stat S) (a1 : Int) {r : Int × gj_M} (hF : F_X6_firstTold a1 M = some r) : gj_C G l 4 0 0 yX6_firstTold cX6_firstTold 2 (some .boolean) [jR 10, jI a1] S M (gj_qI fun x S' M' => (x = 0 ∨ x = 1) ∧ r.1 = x ∧ S = S' ∧ r.2 = M') := by
  refine gj_Cof (by decide +kernel) (Nat.le_of_ble_eq_true rfl) ?_
  change gj_W G l 4 0 0 yX6_firstTold cX6_firstTold 2 (some .boolean) (gj_qI fun x S' M' => (x = 0 ∨ x = 1) ∧ r.1 = x ∧ S = S' ∧ r.2 = M') 0 0 0 [(0, jR 10), (1, jI a1)] [] S M
  unfold F_X6_firstTold at hF
  refine gj_aload_n (q := 1) (gj_dk okX6_firstTold 0 rfl) rfl rfl ?_
  refine gj_gI (q := 4) (j := 5) (gj_dk okX6_firstTold 1 rfl) ff_X6_35 (sh10 hst) (by decide) rfl rfl ?_
  refine gj_iload_n (q := 5) (gj_dk okX6_firstTold 2 rfl) rfl rfl ?_
  refine gj_iand (q := 6) (gj_dk okX6_firstTold 3 rfl) rfl ?_
  refine gj_if_eq (q := 9) (tgt := 11) (gj_dk okX6_firstTold 4 rfl) (by decide) rfl (fun c6 => ?_) (fun c6 => ?_)
  · -- 11
    replace hF := gj_ift c6 hF
    refine gj_aload_n (q := 12) (gj_dk okX6_firstTold 7 rfl) rfl rfl ?_
    refine gj_dup (q := 13) (gj_dk okX6_firstTold 8 rfl) rfl rfl ?_
    refine gj_gI (q := 16) (j := 5) (gj_dk okX6_firstTold 9 rfl) ff_X6_35 (sh10 hst) (by decide) rfl rfl ?_
    refine gj_iload_n (q := 17) (gj_dk okX6_firstTold 10 rfl) rfl rfl ?_
    refine gj_ior (q := 18) (gj_dk okX6_firstTold 11 rfl) rfl ?_
    refine gj_pfI (q := 21) (j := 5) (gj_dk okX6_firstTold 12 rfl) ff_X6_35 (sh10 hst) (by decide) rfl rfl ?_
    refine gj_stp hF (fun M1 hF => ?_)
    refine gj_aload_n (q := 22) (gj_dk okX6_firstTold 13 rfl) rfl rfl ?_
    obtain ⟨M3, hG, hF⟩ := gj_bndd hF
    refine gj_callV (q := 25) (z := 10) (ci := 6) [] rfl (t_X6_scan hst  hG) (gj_dk okX6_firstTold 14 rfl) ml_X6_48 me_X6_scan (sh10 hst) rfl (gj_nm rfl) rfl (gj_kV fun S2 M2 h => ?_)
    obtain ⟨eS, eM⟩ := h; subst eS; subst eM; clear hG
    refine gj_iconst (q := 26) (gj_dk okX6_firstTold 15 rfl) (by decide) rfl ?_
    cases hF
    exact gj_zret (gj_dk okX6_firstTold 16 rfl) rfl (by decide) ⟨_, rfl, (by decide), rfl, rfl, rfl⟩
  · -- 9
    replace hF := gj_iff c6 hF
    refine gj_iconst (q := 10) (gj_dk okX6_firstTold 5 rfl) (by decide) rfl ?_
    cases hF
    exact gj_zret (gj_dk okX6_firstTold 6 rfl) rfl (by decide) ⟨_, rfl, (by decide), rfl, rfl, rfl⟩
def F_X6_readWorth (M : gj_M) : Option (Int × gj_M) :=
  gj_bnd2 (F_X6_firstTold 1 M) (fun x1 M2 => (if x1 = 0 then (some ((0, M2))) else gj_bnd2 (F_X6_takeNumber 0 99 M2) (fun x3 M4 => (if x3 = 0 then (some ((0, M4))) else gj_let (gj_up M4 3 2 (M4 10 9)) (fun M5 => gj_bnd2 (F_X6_takeNumber 0 99 M5) (fun x6 M7 => (if x6 = 0 then (some ((0, M7))) else gj_let (gj_up M7 3 3 (M7 10 9)) (fun M8 => gj_bnd2 (F_X6_takeStop M8) (fun x9 M10 => (some ((x9, M10))))))))))))
set_option maxHeartbeats 4000000 in
set_option maxRecDepth 20000 in
theorem t_X6_readWorth (hst : gj_Stat S) {r : Int × gj_M} (hF : F_X6_readWorth M = some r) : gj_C G l 5 0 0 yX6_readWorth cX6_readWorth 1 (some .boolean) [jR 10] S M (gj_qI fun x S' M' => (x = 0 ∨ x = 1) ∧ r.1 = x ∧ S = S' ∧ r.2 = M') := by
  refine gj_Cof (by decide +kernel) (Nat.le_of_ble_eq_true rfl) ?_
  change gj_W G l 5 0 0 yX6_readWorth cX6_readWorth 1 (some .boolean) (gj_qI fun x S' M' => (x = 0 ∨ x = 1) ∧ r.1 = x ∧ S = S' ∧ r.2 = M') 0 0 0 [(0, jR 10)] [] S M
  unfold F_X6_readWorth at hF
  refine gj_aload_n (q := 1) (gj_dk okX6_readWorth 0 rfl) rfl rfl ?_
  refine gj_iconst (q := 2) (gj_dk okX6_readWorth 1 rfl) (by decide) rfl ?_
  obtain ⟨x1, M2, hG, hF⟩ := gj_bnd2d hF
  refine gj_callV (q := 5) (z := 10) (ci := 6) [jI 1] rfl (t_X6_firstTold hst 1 hG) (gj_dk okX6_readWorth 2 rfl) ml_X6_193 me_X6_firstTold (sh10 hst) rfl (gj_nm rfl) rfl (gj_kI fun y S2 M2 h => ?_)
  obtain ⟨bx1, e, eS, eM⟩ := h; subst eS; subst eM; subst e; clear hG
  dsimp only at bx1 ⊢
  refine gj_if_eq (q := 8) (tgt := 18) (gj_dk okX6_readWorth 3 rfl) (by decide) rfl (fun c5 => ?_) (fun c5 => ?_)
  · -- 18
    replace hF := gj_ift c5 hF
    refine gj_iconst (q := 19) (gj_dk okX6_readWorth 9 rfl) (by decide) rfl ?_
    cases hF
    exact gj_zret (gj_dk okX6_readWorth 10 rfl) rfl (by decide) ⟨_, rfl, (by decide), rfl, rfl, rfl⟩
  · -- 8
    replace hF := gj_iff c5 hF
    refine gj_aload_n (q := 9) (gj_dk okX6_readWorth 4 rfl) rfl rfl ?_
    refine gj_iconst (q := 10) (gj_dk okX6_readWorth 5 rfl) (by decide) rfl ?_
    refine gj_bipush (q := 12) (gj_dk okX6_readWorth 6 rfl) (by decide) rfl rfl ?_
    obtain ⟨x3, M4, hG, hF⟩ := gj_bnd2d hF
    refine gj_callV (q := 15) (z := 10) (ci := 6) [jI 0, jI 99] rfl (t_X6_takeNumber hst 0 99 hG) (gj_dk okX6_readWorth 7 rfl) ml_X6_145 me_X6_takeNumber (sh10 hst) rfl (gj_nm rfl) rfl (gj_kI fun y S2 M2 h => ?_)
    obtain ⟨bx3, e, eS, eM⟩ := h; subst eS; subst eM; subst e; clear hG
    dsimp only at bx3 ⊢
    refine gj_if_ne (q := 18) (tgt := 20) (gj_dk okX6_readWorth 8 rfl) (by decide) rfl (fun c15 => ?_) (fun c15 => ?_)
    · -- 20
      replace hF := gj_iff c15 hF
      refine gj_aload_n (q := 21) (gj_dk okX6_readWorth 11 rfl) rfl rfl ?_
      refine gj_gR (q := 24) (j := 1) (gj_dk okX6_readWorth 12 rfl) ff_X6_26 (sh10 hst) (by decide) rfl (rf10_1 hst) rfl ?_
      refine gj_aload_n (q := 25) (gj_dk okX6_readWorth 13 rfl) rfl rfl ?_
      refine gj_gI (q := 28) (j := 9) (gj_dk okX6_readWorth 14 rfl) ff_X6_152 (sh10 hst) (by decide) rfl rfl ?_
      refine gj_pfI (q := 31) (j := 2) (gj_dk okX6_readWorth 15 rfl) ff_X6_196 (sh3 hst) (by decide) rfl rfl ?_
      refine gj_stp hF (fun M5 hF => ?_)
      refine gj_aload_n (q := 32) (gj_dk okX6_readWorth 16 rfl) rfl rfl ?_
      refine gj_iconst (q := 33) (gj_dk okX6_readWorth 17 rfl) (by decide) rfl ?_
      refine gj_bipush (q := 35) (gj_dk okX6_readWorth 18 rfl) (by decide) rfl rfl ?_
      obtain ⟨x6, M7, hG, hF⟩ := gj_bnd2d hF
      refine gj_callV (q := 38) (z := 10) (ci := 6) [jI 0, jI 99] rfl (t_X6_takeNumber hst 0 99 hG) (gj_dk okX6_readWorth 19 rfl) ml_X6_145 me_X6_takeNumber (sh10 hst) rfl (gj_nm rfl) rfl (gj_kI fun y S2 M2 h => ?_)
      obtain ⟨bx6, e, eS, eM⟩ := h; subst eS; subst eM; subst e; clear hG
      dsimp only at bx6 ⊢
      refine gj_if_ne (q := 41) (tgt := 43) (gj_dk okX6_readWorth 20 rfl) (by decide) rfl (fun c38 => ?_) (fun c38 => ?_)
      · -- 43
        replace hF := gj_iff c38 hF
        refine gj_aload_n (q := 44) (gj_dk okX6_readWorth 23 rfl) rfl rfl ?_
        refine gj_gR (q := 47) (j := 1) (gj_dk okX6_readWorth 24 rfl) ff_X6_26 (sh10 hst) (by decide) rfl (rf10_1 hst) rfl ?_
        refine gj_aload_n (q := 48) (gj_dk okX6_readWorth 25 rfl) rfl rfl ?_
        refine gj_gI (q := 51) (j := 9) (gj_dk okX6_readWorth 26 rfl) ff_X6_152 (sh10 hst) (by decide) rfl rfl ?_
        refine gj_pfI (q := 54) (j := 3) (gj_dk okX6_readWorth 27 rfl) ff_X6_199 (sh3 hst) (by decide) rfl rfl ?_
        refine gj_stp hF (fun M8 hF => ?_)
        refine gj_aload_n (q := 55) (gj_dk okX6_readWorth 28 rfl) rfl rfl ?_
        obtain ⟨x9, M10, hG, hF⟩ := gj_bnd2d hF
        refine gj_callV (q := 58) (z := 10) (ci := 6) [] rfl (t_X6_takeStop hst  hG) (gj_dk okX6_readWorth 29 rfl) ml_X6_159 me_X6_takeStop (sh10 hst) rfl (gj_nm rfl) rfl (gj_kI fun y S2 M2 h => ?_)
        obtain ⟨bx9, e, eS, eM⟩ := h; subst eS; subst eM; subst e; clear hG
        dsimp only at bx9 ⊢
        cases hF
        exact gj_zret (gj_dk okX6_readWorth 30 rfl) rfl bx9 ⟨_, rfl, bx9, rfl, rfl, rfl⟩
      · -- 41
        replace hF := gj_ift c38 hF
        refine gj_iconst (q := 42) (gj_dk okX6_readWorth 21 rfl) (by decide) rfl ?_
        cases hF
        exact gj_zret (gj_dk okX6_readWorth 22 rfl) rfl (by decide) ⟨_, rfl, (by decide), rfl, rfl, rfl⟩
    · -- 18
      replace hF := gj_ift c15 hF
      refine gj_iconst (q := 19) (gj_dk okX6_readWorth 9 rfl) (by decide) rfl ?_
      cases hF
      exact gj_zret (gj_dk okX6_readWorth 10 rfl) rfl (by decide) ⟨_, rfl, (by decide), rfl, rfl, rfl⟩
def F_X6_readHouse (M : gj_M) : Option (Int × gj_M) :=
  gj_bnd2 (F_X6_firstTold 2 M) (fun x1 M2 => (if x1 = 0 then (some ((0, M2))) else gj_bnd2 (F_X6_takeNumber 1 9 M2) (fun x3 M4 => (if x3 = 0 then (some ((0, M4))) else gj_let (gj_up M4 3 4 (M4 10 9)) (fun M5 => gj_bnd2 (F_X6_takeNumber 0 99 M5) (fun x6 M7 => (if x6 = 0 then (some ((0, M7))) else gj_let (gj_up M7 3 5 (M7 10 9)) (fun M8 => gj_bnd2 (F_X6_takeStop M8) (fun x9 M10 => (some ((x9, M10))))))))))))
set_option maxHeartbeats 4000000 in
set_option maxRecDepth 20000 in
theorem t_X6_readHouse (hst : gj_Stat S) {r : Int × gj_M} (hF : F_X6_readHouse M = some r) : gj_C G l 5 0 0 yX6_readHouse cX6_readHouse 1 (some .boolean) [jR 10] S M (gj_qI fun x S' M' => (x = 0 ∨ x = 1) ∧ r.1 = x ∧ S = S' ∧ r.2 = M') := by
  refine gj_Cof (by decide +kernel) (Nat.le_of_ble_eq_true rfl) ?_
  change gj_W G l 5 0 0 yX6_readHouse cX6_readHouse 1 (some .boolean) (gj_qI fun x S' M' => (x = 0 ∨ x = 1) ∧ r.1 = x ∧ S = S' ∧ r.2 = M') 0 0 0 [(0, jR 10)] [] S M
  unfold F_X6_readHouse at hF
  refine gj_aload_n (q := 1) (gj_dk okX6_readHouse 0 rfl) rfl rfl ?_
  refine gj_iconst (q := 2) (gj_dk okX6_readHouse 1 rfl) (by decide) rfl ?_
  obtain ⟨x1, M2, hG, hF⟩ := gj_bnd2d hF
  refine gj_callV (q := 5) (z := 10) (ci := 6) [jI 2] rfl (t_X6_firstTold hst 2 hG) (gj_dk okX6_readHouse 2 rfl) ml_X6_193 me_X6_firstTold (sh10 hst) rfl (gj_nm rfl) rfl (gj_kI fun y S2 M2 h => ?_)
  obtain ⟨bx1, e, eS, eM⟩ := h; subst eS; subst eM; subst e; clear hG
  dsimp only at bx1 ⊢
  refine gj_if_eq (q := 8) (tgt := 18) (gj_dk okX6_readHouse 3 rfl) (by decide) rfl (fun c5 => ?_) (fun c5 => ?_)
  · -- 18
    replace hF := gj_ift c5 hF
    refine gj_iconst (q := 19) (gj_dk okX6_readHouse 9 rfl) (by decide) rfl ?_
    cases hF
    exact gj_zret (gj_dk okX6_readHouse 10 rfl) rfl (by decide) ⟨_, rfl, (by decide), rfl, rfl, rfl⟩
  · -- 8
    replace hF := gj_iff c5 hF
    refine gj_aload_n (q := 9) (gj_dk okX6_readHouse 4 rfl) rfl rfl ?_
    refine gj_iconst (q := 10) (gj_dk okX6_readHouse 5 rfl) (by decide) rfl ?_
    refine gj_bipush (q := 12) (gj_dk okX6_readHouse 6 rfl) (by decide) rfl rfl ?_
    obtain ⟨x3, M4, hG, hF⟩ := gj_bnd2d hF
    refine gj_callV (q := 15) (z := 10) (ci := 6) [jI 1, jI 9] rfl (t_X6_takeNumber hst 1 9 hG) (gj_dk okX6_readHouse 7 rfl) ml_X6_145 me_X6_takeNumber (sh10 hst) rfl (gj_nm rfl) rfl (gj_kI fun y S2 M2 h => ?_)
    obtain ⟨bx3, e, eS, eM⟩ := h; subst eS; subst eM; subst e; clear hG
    dsimp only at bx3 ⊢
    refine gj_if_ne (q := 18) (tgt := 20) (gj_dk okX6_readHouse 8 rfl) (by decide) rfl (fun c15 => ?_) (fun c15 => ?_)
    · -- 20
      replace hF := gj_iff c15 hF
      refine gj_aload_n (q := 21) (gj_dk okX6_readHouse 11 rfl) rfl rfl ?_
      refine gj_gR (q := 24) (j := 1) (gj_dk okX6_readHouse 12 rfl) ff_X6_26 (sh10 hst) (by decide) rfl (rf10_1 hst) rfl ?_
      refine gj_aload_n (q := 25) (gj_dk okX6_readHouse 13 rfl) rfl rfl ?_
      refine gj_gI (q := 28) (j := 9) (gj_dk okX6_readHouse 14 rfl) ff_X6_152 (sh10 hst) (by decide) rfl rfl ?_
      refine gj_pfI (q := 31) (j := 4) (gj_dk okX6_readHouse 15 rfl) ff_X6_202 (sh3 hst) (by decide) rfl rfl ?_
      refine gj_stp hF (fun M5 hF => ?_)
      refine gj_aload_n (q := 32) (gj_dk okX6_readHouse 16 rfl) rfl rfl ?_
      refine gj_iconst (q := 33) (gj_dk okX6_readHouse 17 rfl) (by decide) rfl ?_
      refine gj_bipush (q := 35) (gj_dk okX6_readHouse 18 rfl) (by decide) rfl rfl ?_
      obtain ⟨x6, M7, hG, hF⟩ := gj_bnd2d hF
      refine gj_callV (q := 38) (z := 10) (ci := 6) [jI 0, jI 99] rfl (t_X6_takeNumber hst 0 99 hG) (gj_dk okX6_readHouse 19 rfl) ml_X6_145 me_X6_takeNumber (sh10 hst) rfl (gj_nm rfl) rfl (gj_kI fun y S2 M2 h => ?_)
      obtain ⟨bx6, e, eS, eM⟩ := h; subst eS; subst eM; subst e; clear hG
      dsimp only at bx6 ⊢
      refine gj_if_ne (q := 41) (tgt := 43) (gj_dk okX6_readHouse 20 rfl) (by decide) rfl (fun c38 => ?_) (fun c38 => ?_)
      · -- 43
        replace hF := gj_iff c38 hF
        refine gj_aload_n (q := 44) (gj_dk okX6_readHouse 23 rfl) rfl rfl ?_
        refine gj_gR (q := 47) (j := 1) (gj_dk okX6_readHouse 24 rfl) ff_X6_26 (sh10 hst) (by decide) rfl (rf10_1 hst) rfl ?_
        refine gj_aload_n (q := 48) (gj_dk okX6_readHouse 25 rfl) rfl rfl ?_
        refine gj_gI (q := 51) (j := 9) (gj_dk okX6_readHouse 26 rfl) ff_X6_152 (sh10 hst) (by decide) rfl rfl ?_
        refine gj_pfI (q := 54) (j := 5) (gj_dk okX6_readHouse 27 rfl) ff_X6_205 (sh3 hst) (by decide) rfl rfl ?_
        refine gj_stp hF (fun M8 hF => ?_)
        refine gj_aload_n (q := 55) (gj_dk okX6_readHouse 28 rfl) rfl rfl ?_
        obtain ⟨x9, M10, hG, hF⟩ := gj_bnd2d hF
        refine gj_callV (q := 58) (z := 10) (ci := 6) [] rfl (t_X6_takeStop hst  hG) (gj_dk okX6_readHouse 29 rfl) ml_X6_159 me_X6_takeStop (sh10 hst) rfl (gj_nm rfl) rfl (gj_kI fun y S2 M2 h => ?_)
        obtain ⟨bx9, e, eS, eM⟩ := h; subst eS; subst eM; subst e; clear hG
        dsimp only at bx9 ⊢
        cases hF
        exact gj_zret (gj_dk okX6_readHouse 30 rfl) rfl bx9 ⟨_, rfl, bx9, rfl, rfl, rfl⟩
      · -- 41
        replace hF := gj_ift c38 hF
        refine gj_iconst (q := 42) (gj_dk okX6_readHouse 21 rfl) (by decide) rfl ?_
        cases hF
        exact gj_zret (gj_dk okX6_readHouse 22 rfl) rfl (by decide) ⟨_, rfl, (by decide), rfl, rfl, rfl⟩
    · -- 18
      replace hF := gj_ift c15 hF
      refine gj_iconst (q := 19) (gj_dk okX6_readHouse 9 rfl) (by decide) rfl ?_
      cases hF
      exact gj_zret (gj_dk okX6_readHouse 10 rfl) rfl (by decide) ⟨_, rfl, (by decide), rfl, rfl, rfl⟩
def F_X6_readChild (M : gj_M) : Option (Int × gj_M) :=
  gj_bnd2 (F_X6_firstTold 4 M) (fun x1 M2 => (if x1 = 0 then (some ((0, M2))) else gj_bnd2 (F_X6_takeNumber 0 16 M2) (fun x3 M4 => (if x3 = 0 then (some ((0, M4))) else gj_let (gj_up M4 3 6 (M4 10 9)) (fun M5 => gj_bnd2 (F_X6_takeNumber 0 99 M5) (fun x6 M7 => (if x6 = 0 then (some ((0, M7))) else gj_let (gj_up M7 3 7 (M7 10 9)) (fun M8 => gj_bnd2 (F_X6_takeStop M8) (fun x9 M10 => (some ((x9, M10))))))))))))
set_option maxHeartbeats 4000000 in
set_option maxRecDepth 20000 in
theorem t_X6_readChild (hst : gj_Stat S) {r : Int × gj_M} (hF : F_X6_readChild M = some r) : gj_C G l 5 0 0 yX6_readChild cX6_readChild 1 (some .boolean) [jR 10] S M (gj_qI fun x S' M' => (x = 0 ∨ x = 1) ∧ r.1 = x ∧ S = S' ∧ r.2 = M') := by
  refine gj_Cof (by decide +kernel) (Nat.le_of_ble_eq_true rfl) ?_
  change gj_W G l 5 0 0 yX6_readChild cX6_readChild 1 (some .boolean) (gj_qI fun x S' M' => (x = 0 ∨ x = 1) ∧ r.1 = x ∧ S = S' ∧ r.2 = M') 0 0 0 [(0, jR 10)] [] S M
  unfold F_X6_readChild at hF
  refine gj_aload_n (q := 1) (gj_dk okX6_readChild 0 rfl) rfl rfl ?_
  refine gj_iconst (q := 2) (gj_dk okX6_readChild 1 rfl) (by decide) rfl ?_
  obtain ⟨x1, M2, hG, hF⟩ := gj_bnd2d hF
  refine gj_callV (q := 5) (z := 10) (ci := 6) [jI 4] rfl (t_X6_firstTold hst 4 hG) (gj_dk okX6_readChild 2 rfl) ml_X6_193 me_X6_firstTold (sh10 hst) rfl (gj_nm rfl) rfl (gj_kI fun y S2 M2 h => ?_)
  obtain ⟨bx1, e, eS, eM⟩ := h; subst eS; subst eM; subst e; clear hG
  dsimp only at bx1 ⊢
  refine gj_if_eq (q := 8) (tgt := 18) (gj_dk okX6_readChild 3 rfl) (by decide) rfl (fun c5 => ?_) (fun c5 => ?_)
  · -- 18
    replace hF := gj_ift c5 hF
    refine gj_iconst (q := 19) (gj_dk okX6_readChild 9 rfl) (by decide) rfl ?_
    cases hF
    exact gj_zret (gj_dk okX6_readChild 10 rfl) rfl (by decide) ⟨_, rfl, (by decide), rfl, rfl, rfl⟩
  · -- 8
    replace hF := gj_iff c5 hF
    refine gj_aload_n (q := 9) (gj_dk okX6_readChild 4 rfl) rfl rfl ?_
    refine gj_iconst (q := 10) (gj_dk okX6_readChild 5 rfl) (by decide) rfl ?_
    refine gj_bipush (q := 12) (gj_dk okX6_readChild 6 rfl) (by decide) rfl rfl ?_
    obtain ⟨x3, M4, hG, hF⟩ := gj_bnd2d hF
    refine gj_callV (q := 15) (z := 10) (ci := 6) [jI 0, jI 16] rfl (t_X6_takeNumber hst 0 16 hG) (gj_dk okX6_readChild 7 rfl) ml_X6_145 me_X6_takeNumber (sh10 hst) rfl (gj_nm rfl) rfl (gj_kI fun y S2 M2 h => ?_)
    obtain ⟨bx3, e, eS, eM⟩ := h; subst eS; subst eM; subst e; clear hG
    dsimp only at bx3 ⊢
    refine gj_if_ne (q := 18) (tgt := 20) (gj_dk okX6_readChild 8 rfl) (by decide) rfl (fun c15 => ?_) (fun c15 => ?_)
    · -- 20
      replace hF := gj_iff c15 hF
      refine gj_aload_n (q := 21) (gj_dk okX6_readChild 11 rfl) rfl rfl ?_
      refine gj_gR (q := 24) (j := 1) (gj_dk okX6_readChild 12 rfl) ff_X6_26 (sh10 hst) (by decide) rfl (rf10_1 hst) rfl ?_
      refine gj_aload_n (q := 25) (gj_dk okX6_readChild 13 rfl) rfl rfl ?_
      refine gj_gI (q := 28) (j := 9) (gj_dk okX6_readChild 14 rfl) ff_X6_152 (sh10 hst) (by decide) rfl rfl ?_
      refine gj_pfI (q := 31) (j := 6) (gj_dk okX6_readChild 15 rfl) ff_X6_207 (sh3 hst) (by decide) rfl rfl ?_
      refine gj_stp hF (fun M5 hF => ?_)
      refine gj_aload_n (q := 32) (gj_dk okX6_readChild 16 rfl) rfl rfl ?_
      refine gj_iconst (q := 33) (gj_dk okX6_readChild 17 rfl) (by decide) rfl ?_
      refine gj_bipush (q := 35) (gj_dk okX6_readChild 18 rfl) (by decide) rfl rfl ?_
      obtain ⟨x6, M7, hG, hF⟩ := gj_bnd2d hF
      refine gj_callV (q := 38) (z := 10) (ci := 6) [jI 0, jI 99] rfl (t_X6_takeNumber hst 0 99 hG) (gj_dk okX6_readChild 19 rfl) ml_X6_145 me_X6_takeNumber (sh10 hst) rfl (gj_nm rfl) rfl (gj_kI fun y S2 M2 h => ?_)
      obtain ⟨bx6, e, eS, eM⟩ := h; subst eS; subst eM; subst e; clear hG
      dsimp only at bx6 ⊢
      refine gj_if_ne (q := 41) (tgt := 43) (gj_dk okX6_readChild 20 rfl) (by decide) rfl (fun c38 => ?_) (fun c38 => ?_)
      · -- 43
        replace hF := gj_iff c38 hF
        refine gj_aload_n (q := 44) (gj_dk okX6_readChild 23 rfl) rfl rfl ?_
        refine gj_gR (q := 47) (j := 1) (gj_dk okX6_readChild 24 rfl) ff_X6_26 (sh10 hst) (by decide) rfl (rf10_1 hst) rfl ?_
        refine gj_aload_n (q := 48) (gj_dk okX6_readChild 25 rfl) rfl rfl ?_
        refine gj_gI (q := 51) (j := 9) (gj_dk okX6_readChild 26 rfl) ff_X6_152 (sh10 hst) (by decide) rfl rfl ?_
        refine gj_pfI (q := 54) (j := 7) (gj_dk okX6_readChild 27 rfl) ff_X6_210 (sh3 hst) (by decide) rfl rfl ?_
        refine gj_stp hF (fun M8 hF => ?_)
        refine gj_aload_n (q := 55) (gj_dk okX6_readChild 28 rfl) rfl rfl ?_
        obtain ⟨x9, M10, hG, hF⟩ := gj_bnd2d hF
        refine gj_callV (q := 58) (z := 10) (ci := 6) [] rfl (t_X6_takeStop hst  hG) (gj_dk okX6_readChild 29 rfl) ml_X6_159 me_X6_takeStop (sh10 hst) rfl (gj_nm rfl) rfl (gj_kI fun y S2 M2 h => ?_)
        obtain ⟨bx9, e, eS, eM⟩ := h; subst eS; subst eM; subst e; clear hG
        dsimp only at bx9 ⊢
        cases hF
        exact gj_zret (gj_dk okX6_readChild 30 rfl) rfl bx9 ⟨_, rfl, bx9, rfl, rfl, rfl⟩
      · -- 41
        replace hF := gj_ift c38 hF
        refine gj_iconst (q := 42) (gj_dk okX6_readChild 21 rfl) (by decide) rfl ?_
        cases hF
        exact gj_zret (gj_dk okX6_readChild 22 rfl) rfl (by decide) ⟨_, rfl, (by decide), rfl, rfl, rfl⟩
    · -- 18
      replace hF := gj_ift c15 hF
      refine gj_iconst (q := 19) (gj_dk okX6_readChild 9 rfl) (by decide) rfl ?_
      cases hF
      exact gj_zret (gj_dk okX6_readChild 10 rfl) rfl (by decide) ⟨_, rfl, (by decide), rfl, rfl, rfl⟩
def F_X6_readCow (M : gj_M) : Option (Int × gj_M) :=
  gj_bnd2 (F_X6_firstTold 8 M) (fun x1 M2 => (if x1 = 0 then (some ((0, M2))) else gj_bnd2 (F_X6_takeNumber 0 999 M2) (fun x3 M4 => (if x3 = 0 then (some ((0, M4))) else gj_let (gj_up M4 3 8 (M4 10 9)) (fun M5 => gj_bnd2 (F_X6_takeStop M5) (fun x6 M7 => (some ((x6, M7)))))))))
set_option maxHeartbeats 4000000 in
set_option maxRecDepth 20000 in
theorem t_X6_readCow (hst : gj_Stat S) {r : Int × gj_M} (hF : F_X6_readCow M = some r) : gj_C G l 5 0 0 yX6_readCow cX6_readCow 1 (some .boolean) [jR 10] S M (gj_qI fun x S' M' => (x = 0 ∨ x = 1) ∧ r.1 = x ∧ S = S' ∧ r.2 = M') := by
  refine gj_Cof (by decide +kernel) (Nat.le_of_ble_eq_true rfl) ?_
  change gj_W G l 5 0 0 yX6_readCow cX6_readCow 1 (some .boolean) (gj_qI fun x S' M' => (x = 0 ∨ x = 1) ∧ r.1 = x ∧ S = S' ∧ r.2 = M') 0 0 0 [(0, jR 10)] [] S M
  unfold F_X6_readCow at hF
  refine gj_aload_n (q := 1) (gj_dk okX6_readCow 0 rfl) rfl rfl ?_
  refine gj_bipush (q := 3) (gj_dk okX6_readCow 1 rfl) (by decide) rfl rfl ?_
  obtain ⟨x1, M2, hG, hF⟩ := gj_bnd2d hF
  refine gj_callV (q := 6) (z := 10) (ci := 6) [jI 8] rfl (t_X6_firstTold hst 8 hG) (gj_dk okX6_readCow 2 rfl) ml_X6_193 me_X6_firstTold (sh10 hst) rfl (gj_nm rfl) rfl (gj_kI fun y S2 M2 h => ?_)
  obtain ⟨bx1, e, eS, eM⟩ := h; subst eS; subst eM; subst e; clear hG
  dsimp only at bx1 ⊢
  refine gj_if_eq (q := 9) (tgt := 20) (gj_dk okX6_readCow 3 rfl) (by decide) rfl (fun c6 => ?_) (fun c6 => ?_)
  · -- 20
    replace hF := gj_ift c6 hF
    refine gj_iconst (q := 21) (gj_dk okX6_readCow 9 rfl) (by decide) rfl ?_
    cases hF
    exact gj_zret (gj_dk okX6_readCow 10 rfl) rfl (by decide) ⟨_, rfl, (by decide), rfl, rfl, rfl⟩
  · -- 9
    replace hF := gj_iff c6 hF
    refine gj_aload_n (q := 10) (gj_dk okX6_readCow 4 rfl) rfl rfl ?_
    refine gj_iconst (q := 11) (gj_dk okX6_readCow 5 rfl) (by decide) rfl ?_
    refine gj_sipush (q := 14) (gj_dk okX6_readCow 6 rfl) (by decide) rfl rfl ?_
    obtain ⟨x3, M4, hG, hF⟩ := gj_bnd2d hF
    refine gj_callV (q := 17) (z := 10) (ci := 6) [jI 0, jI 999] rfl (t_X6_takeNumber hst 0 999 hG) (gj_dk okX6_readCow 7 rfl) ml_X6_145 me_X6_takeNumber (sh10 hst) rfl (gj_nm rfl) rfl (gj_kI fun y S2 M2 h => ?_)
    obtain ⟨bx3, e, eS, eM⟩ := h; subst eS; subst eM; subst e; clear hG
    dsimp only at bx3 ⊢
    refine gj_if_ne (q := 20) (tgt := 22) (gj_dk okX6_readCow 8 rfl) (by decide) rfl (fun c17 => ?_) (fun c17 => ?_)
    · -- 22
      replace hF := gj_iff c17 hF
      refine gj_aload_n (q := 23) (gj_dk okX6_readCow 11 rfl) rfl rfl ?_
      refine gj_gR (q := 26) (j := 1) (gj_dk okX6_readCow 12 rfl) ff_X6_26 (sh10 hst) (by decide) rfl (rf10_1 hst) rfl ?_
      refine gj_aload_n (q := 27) (gj_dk okX6_readCow 13 rfl) rfl rfl ?_
      refine gj_gI (q := 30) (j := 9) (gj_dk okX6_readCow 14 rfl) ff_X6_152 (sh10 hst) (by decide) rfl rfl ?_
      refine gj_pfI (q := 33) (j := 8) (gj_dk okX6_readCow 15 rfl) ff_X6_212 (sh3 hst) (by decide) rfl rfl ?_
      refine gj_stp hF (fun M5 hF => ?_)
      refine gj_aload_n (q := 34) (gj_dk okX6_readCow 16 rfl) rfl rfl ?_
      obtain ⟨x6, M7, hG, hF⟩ := gj_bnd2d hF
      refine gj_callV (q := 37) (z := 10) (ci := 6) [] rfl (t_X6_takeStop hst  hG) (gj_dk okX6_readCow 17 rfl) ml_X6_159 me_X6_takeStop (sh10 hst) rfl (gj_nm rfl) rfl (gj_kI fun y S2 M2 h => ?_)
      obtain ⟨bx6, e, eS, eM⟩ := h; subst eS; subst eM; subst e; clear hG
      dsimp only at bx6 ⊢
      cases hF
      exact gj_zret (gj_dk okX6_readCow 18 rfl) rfl bx6 ⟨_, rfl, bx6, rfl, rfl, rfl⟩
    · -- 20
      replace hF := gj_ift c17 hF
      refine gj_iconst (q := 21) (gj_dk okX6_readCow 9 rfl) (by decide) rfl ?_
      cases hF
      exact gj_zret (gj_dk okX6_readCow 10 rfl) rfl (by decide) ⟨_, rfl, (by decide), rfl, rfl, rfl⟩
def F_X6_readAhead (M : gj_M) : Option (Int × gj_M) :=
  gj_bnd2 (F_X6_firstTold 16 M) (fun x1 M2 => (if x1 = 0 then (some ((0, M2))) else gj_bnd2 (F_X6_takeNumber 1 4 M2) (fun x3 M4 => (if x3 = 0 then (some ((0, M4))) else gj_let (gj_up M4 3 9 (M4 10 9)) (fun M5 => gj_bnd2 (F_X6_takeStop M5) (fun x6 M7 => (some ((x6, M7)))))))))
set_option maxHeartbeats 4000000 in
set_option maxRecDepth 20000 in
theorem t_X6_readAhead (hst : gj_Stat S) {r : Int × gj_M} (hF : F_X6_readAhead M = some r) : gj_C G l 5 0 0 yX6_readAhead cX6_readAhead 1 (some .boolean) [jR 10] S M (gj_qI fun x S' M' => (x = 0 ∨ x = 1) ∧ r.1 = x ∧ S = S' ∧ r.2 = M') := by
  refine gj_Cof (by decide +kernel) (Nat.le_of_ble_eq_true rfl) ?_
  change gj_W G l 5 0 0 yX6_readAhead cX6_readAhead 1 (some .boolean) (gj_qI fun x S' M' => (x = 0 ∨ x = 1) ∧ r.1 = x ∧ S = S' ∧ r.2 = M') 0 0 0 [(0, jR 10)] [] S M
  unfold F_X6_readAhead at hF
  refine gj_aload_n (q := 1) (gj_dk okX6_readAhead 0 rfl) rfl rfl ?_
  refine gj_bipush (q := 3) (gj_dk okX6_readAhead 1 rfl) (by decide) rfl rfl ?_
  obtain ⟨x1, M2, hG, hF⟩ := gj_bnd2d hF
  refine gj_callV (q := 6) (z := 10) (ci := 6) [jI 16] rfl (t_X6_firstTold hst 16 hG) (gj_dk okX6_readAhead 2 rfl) ml_X6_193 me_X6_firstTold (sh10 hst) rfl (gj_nm rfl) rfl (gj_kI fun y S2 M2 h => ?_)
  obtain ⟨bx1, e, eS, eM⟩ := h; subst eS; subst eM; subst e; clear hG
  dsimp only at bx1 ⊢
  refine gj_if_eq (q := 9) (tgt := 18) (gj_dk okX6_readAhead 3 rfl) (by decide) rfl (fun c6 => ?_) (fun c6 => ?_)
  · -- 18
    replace hF := gj_ift c6 hF
    refine gj_iconst (q := 19) (gj_dk okX6_readAhead 9 rfl) (by decide) rfl ?_
    cases hF
    exact gj_zret (gj_dk okX6_readAhead 10 rfl) rfl (by decide) ⟨_, rfl, (by decide), rfl, rfl, rfl⟩
  · -- 9
    replace hF := gj_iff c6 hF
    refine gj_aload_n (q := 10) (gj_dk okX6_readAhead 4 rfl) rfl rfl ?_
    refine gj_iconst (q := 11) (gj_dk okX6_readAhead 5 rfl) (by decide) rfl ?_
    refine gj_iconst (q := 12) (gj_dk okX6_readAhead 6 rfl) (by decide) rfl ?_
    obtain ⟨x3, M4, hG, hF⟩ := gj_bnd2d hF
    refine gj_callV (q := 15) (z := 10) (ci := 6) [jI 1, jI 4] rfl (t_X6_takeNumber hst 1 4 hG) (gj_dk okX6_readAhead 7 rfl) ml_X6_145 me_X6_takeNumber (sh10 hst) rfl (gj_nm rfl) rfl (gj_kI fun y S2 M2 h => ?_)
    obtain ⟨bx3, e, eS, eM⟩ := h; subst eS; subst eM; subst e; clear hG
    dsimp only at bx3 ⊢
    refine gj_if_ne (q := 18) (tgt := 20) (gj_dk okX6_readAhead 8 rfl) (by decide) rfl (fun c15 => ?_) (fun c15 => ?_)
    · -- 20
      replace hF := gj_iff c15 hF
      refine gj_aload_n (q := 21) (gj_dk okX6_readAhead 11 rfl) rfl rfl ?_
      refine gj_gR (q := 24) (j := 1) (gj_dk okX6_readAhead 12 rfl) ff_X6_26 (sh10 hst) (by decide) rfl (rf10_1 hst) rfl ?_
      refine gj_aload_n (q := 25) (gj_dk okX6_readAhead 13 rfl) rfl rfl ?_
      refine gj_gI (q := 28) (j := 9) (gj_dk okX6_readAhead 14 rfl) ff_X6_152 (sh10 hst) (by decide) rfl rfl ?_
      refine gj_pfI (q := 31) (j := 9) (gj_dk okX6_readAhead 15 rfl) ff_X6_214 (sh3 hst) (by decide) rfl rfl ?_
      refine gj_stp hF (fun M5 hF => ?_)
      refine gj_aload_n (q := 32) (gj_dk okX6_readAhead 16 rfl) rfl rfl ?_
      obtain ⟨x6, M7, hG, hF⟩ := gj_bnd2d hF
      refine gj_callV (q := 35) (z := 10) (ci := 6) [] rfl (t_X6_takeStop hst  hG) (gj_dk okX6_readAhead 17 rfl) ml_X6_159 me_X6_takeStop (sh10 hst) rfl (gj_nm rfl) rfl (gj_kI fun y S2 M2 h => ?_)
      obtain ⟨bx6, e, eS, eM⟩ := h; subst eS; subst eM; subst e; clear hG
      dsimp only at bx6 ⊢
      cases hF
      exact gj_zret (gj_dk okX6_readAhead 18 rfl) rfl bx6 ⟨_, rfl, bx6, rfl, rfl, rfl⟩
    · -- 18
      replace hF := gj_ift c15 hF
      refine gj_iconst (q := 19) (gj_dk okX6_readAhead 9 rfl) (by decide) rfl ?_
      cases hF
      exact gj_zret (gj_dk okX6_readAhead 10 rfl) rfl (by decide) ⟨_, rfl, (by decide), rfl, rfl, rfl⟩
def F_X6_readLine (M : gj_M) : Option (Int × gj_M) :=
  gj_bnd (F_X6_isWord 0 M) (fun x1 => (if x1 = 0 then gj_bnd (F_X6_isWord 1 M) (fun x3 => (if x3 = 0 then gj_bnd (F_X6_isWord 2 M) (fun x5 => (if x5 = 0 then gj_bnd (F_X6_isWord 3 M) (fun x7 => (if x7 = 0 then gj_bnd (F_X6_isWord 4 M) (fun x9 => (if x9 = 0 then gj_bnd (F_X6_isWord 5 M) (fun x11 => (if x11 = 0 then gj_bnd (F_X6_isWord 6 M) (fun x13 => (if x13 = 0 then gj_bnd (F_X6_isWord 7 M) (fun x15 => (if x15 = 0 then gj_bnd (F_X6_isWord 8 M) (fun x17 => (if x17 = 0 then (some ((0, M))) else gj_bnd2 (F_X6_readAhead M) (fun x19 M20 => (if x19 = 0 then (some ((0, M20))) else (some ((1, M20))))))) else gj_bnd2 (F_X6_readCow M) (fun x21 M22 => (some ((x21, M22)))))) else gj_bnd2 (F_X6_readChild M) (fun x23 M24 => (some ((x23, M24)))))) else gj_bnd2 (F_X6_readHouse M) (fun x25 M26 => (some ((x25, M26)))))) else gj_bnd2 (F_X6_readWorth M) (fun x27 M28 => (some ((x27, M28)))))) else gj_bnd2 (F_X6_readFit M) (fun x29 M30 => (some ((x29, M30)))))) else gj_bnd2 (F_X6_readThink M) (fun x31 M32 => (some ((x31, M32)))))) else gj_bnd2 (F_X6_readPerson 4 (M 3 1) M) (fun x33 M34 => (some ((x33, M34)))))) else gj_bnd2 (F_X6_readPerson 0 (M 3 0) M) (fun x35 M36 => (some ((x35, M36))))))
set_option maxHeartbeats 4000000 in
set_option maxRecDepth 20000 in
theorem t_X6_readLine (hst : gj_Stat S) {r : Int × gj_M} (hF : F_X6_readLine M = some r) : gj_C G l 8 0 0 yX6_readLine cX6_readLine 1 (some .boolean) [jR 10] S M (gj_qI fun x S' M' => (x = 0 ∨ x = 1) ∧ r.1 = x ∧ S = S' ∧ r.2 = M') := by
  refine gj_Cof (by decide +kernel) (Nat.le_of_ble_eq_true rfl) ?_
  change gj_W G l 8 0 0 yX6_readLine cX6_readLine 1 (some .boolean) (gj_qI fun x S' M' => (x = 0 ∨ x = 1) ∧ r.1 = x ∧ S = S' ∧ r.2 = M') 0 0 0 [(0, jR 10)] [] S M
  unfold F_X6_readLine at hF
  refine gj_aload_n (q := 1) (gj_dk okX6_readLine 0 rfl) rfl rfl ?_
  refine gj_ldc6 (q := 3) (z := -2) 0 (gj_dk okX6_readLine 1 rfl) rfl (by decide) rfl rfl rfl ?_
  obtain ⟨x1, hG, hF⟩ := gj_bndd hF
  refine gj_callV (q := 6) (z := 10) (ci := 6) [jR (-2)] rfl (t_X6_isWord hst 0 (by decide)  hG) (gj_dk okX6_readLine 2 rfl) ml_X6_83 me_X6_isWord (sh10 hst) rfl (gj_nm rfl) rfl (gj_kI fun y S2 M2 h => ?_)
  obtain ⟨bx1, e, eS, eM⟩ := h; subst eS; subst eM; subst e; clear hG
  refine gj_if_eq (q := 9) (tgt := 22) (gj_dk okX6_readLine 3 rfl) (by decide) rfl (fun c6 => ?_) (fun c6 => ?_)
  · -- 22
    replace hF := gj_ift c6 hF
    refine gj_aload_n (q := 23) (gj_dk okX6_readLine 11 rfl) rfl rfl ?_
    refine gj_ldc6 (q := 25) (z := -3) 1 (gj_dk okX6_readLine 12 rfl) rfl (by decide) rfl rfl rfl ?_
    obtain ⟨x3, hG, hF⟩ := gj_bndd hF
    refine gj_callV (q := 28) (z := 10) (ci := 6) [jR (-3)] rfl (t_X6_isWord hst 1 (by decide)  hG) (gj_dk okX6_readLine 13 rfl) ml_X6_83 me_X6_isWord (sh10 hst) rfl (gj_nm rfl) rfl (gj_kI fun y S2 M2 h => ?_)
    obtain ⟨bx3, e, eS, eM⟩ := h; subst eS; subst eM; subst e; clear hG
    refine gj_if_eq (q := 31) (tgt := 44) (gj_dk okX6_readLine 14 rfl) (by decide) rfl (fun c28 => ?_) (fun c28 => ?_)
    · -- 44
      replace hF := gj_ift c28 hF
      refine gj_aload_n (q := 45) (gj_dk okX6_readLine 22 rfl) rfl rfl ?_
      refine gj_ldc6 (q := 47) (z := -4) 2 (gj_dk okX6_readLine 23 rfl) rfl (by decide) rfl rfl rfl ?_
      obtain ⟨x5, hG, hF⟩ := gj_bndd hF
      refine gj_callV (q := 50) (z := 10) (ci := 6) [jR (-4)] rfl (t_X6_isWord hst 2 (by decide)  hG) (gj_dk okX6_readLine 24 rfl) ml_X6_83 me_X6_isWord (sh10 hst) rfl (gj_nm rfl) rfl (gj_kI fun y S2 M2 h => ?_)
      obtain ⟨bx5, e, eS, eM⟩ := h; subst eS; subst eM; subst e; clear hG
      refine gj_if_eq (q := 53) (tgt := 58) (gj_dk okX6_readLine 25 rfl) (by decide) rfl (fun c50 => ?_) (fun c50 => ?_)
      · -- 58
        replace hF := gj_ift c50 hF
        refine gj_aload_n (q := 59) (gj_dk okX6_readLine 29 rfl) rfl rfl ?_
        refine gj_ldc6 (q := 61) (z := -5) 3 (gj_dk okX6_readLine 30 rfl) rfl (by decide) rfl rfl rfl ?_
        obtain ⟨x7, hG, hF⟩ := gj_bndd hF
        refine gj_callV (q := 64) (z := 10) (ci := 6) [jR (-5)] rfl (t_X6_isWord hst 3 (by decide)  hG) (gj_dk okX6_readLine 31 rfl) ml_X6_83 me_X6_isWord (sh10 hst) rfl (gj_nm rfl) rfl (gj_kI fun y S2 M2 h => ?_)
        obtain ⟨bx7, e, eS, eM⟩ := h; subst eS; subst eM; subst e; clear hG
        refine gj_if_eq (q := 67) (tgt := 72) (gj_dk okX6_readLine 32 rfl) (by decide) rfl (fun c64 => ?_) (fun c64 => ?_)
        · -- 72
          replace hF := gj_ift c64 hF
          refine gj_aload_n (q := 73) (gj_dk okX6_readLine 36 rfl) rfl rfl ?_
          refine gj_ldc6 (q := 75) (z := -6) 4 (gj_dk okX6_readLine 37 rfl) rfl (by decide) rfl rfl rfl ?_
          obtain ⟨x9, hG, hF⟩ := gj_bndd hF
          refine gj_callV (q := 78) (z := 10) (ci := 6) [jR (-6)] rfl (t_X6_isWord hst 4 (by decide)  hG) (gj_dk okX6_readLine 38 rfl) ml_X6_83 me_X6_isWord (sh10 hst) rfl (gj_nm rfl) rfl (gj_kI fun y S2 M2 h => ?_)
          obtain ⟨bx9, e, eS, eM⟩ := h; subst eS; subst eM; subst e; clear hG
          refine gj_if_eq (q := 81) (tgt := 86) (gj_dk okX6_readLine 39 rfl) (by decide) rfl (fun c78 => ?_) (fun c78 => ?_)
          · -- 86
            replace hF := gj_ift c78 hF
            refine gj_aload_n (q := 87) (gj_dk okX6_readLine 43 rfl) rfl rfl ?_
            refine gj_ldc6 (q := 89) (z := -7) 5 (gj_dk okX6_readLine 44 rfl) rfl (by decide) rfl rfl rfl ?_
            obtain ⟨x11, hG, hF⟩ := gj_bndd hF
            refine gj_callV (q := 92) (z := 10) (ci := 6) [jR (-7)] rfl (t_X6_isWord hst 5 (by decide)  hG) (gj_dk okX6_readLine 45 rfl) ml_X6_83 me_X6_isWord (sh10 hst) rfl (gj_nm rfl) rfl (gj_kI fun y S2 M2 h => ?_)
            obtain ⟨bx11, e, eS, eM⟩ := h; subst eS; subst eM; subst e; clear hG
            refine gj_if_eq (q := 95) (tgt := 100) (gj_dk okX6_readLine 46 rfl) (by decide) rfl (fun c92 => ?_) (fun c92 => ?_)
            · -- 100
              replace hF := gj_ift c92 hF
              refine gj_aload_n (q := 101) (gj_dk okX6_readLine 50 rfl) rfl rfl ?_
              refine gj_ldc6 (q := 103) (z := -8) 6 (gj_dk okX6_readLine 51 rfl) rfl (by decide) rfl rfl rfl ?_
              obtain ⟨x13, hG, hF⟩ := gj_bndd hF
              refine gj_callV (q := 106) (z := 10) (ci := 6) [jR (-8)] rfl (t_X6_isWord hst 6 (by decide)  hG) (gj_dk okX6_readLine 52 rfl) ml_X6_83 me_X6_isWord (sh10 hst) rfl (gj_nm rfl) rfl (gj_kI fun y S2 M2 h => ?_)
              obtain ⟨bx13, e, eS, eM⟩ := h; subst eS; subst eM; subst e; clear hG
              refine gj_if_eq (q := 109) (tgt := 114) (gj_dk okX6_readLine 53 rfl) (by decide) rfl (fun c106 => ?_) (fun c106 => ?_)
              · -- 114
                replace hF := gj_ift c106 hF
                refine gj_aload_n (q := 115) (gj_dk okX6_readLine 57 rfl) rfl rfl ?_
                refine gj_ldc6 (q := 117) (z := -9) 7 (gj_dk okX6_readLine 58 rfl) rfl (by decide) rfl rfl rfl ?_
                obtain ⟨x15, hG, hF⟩ := gj_bndd hF
                refine gj_callV (q := 120) (z := 10) (ci := 6) [jR (-9)] rfl (t_X6_isWord hst 7 (by decide)  hG) (gj_dk okX6_readLine 59 rfl) ml_X6_83 me_X6_isWord (sh10 hst) rfl (gj_nm rfl) rfl (gj_kI fun y S2 M2 h => ?_)
                obtain ⟨bx15, e, eS, eM⟩ := h; subst eS; subst eM; subst e; clear hG
                refine gj_if_eq (q := 123) (tgt := 128) (gj_dk okX6_readLine 60 rfl) (by decide) rfl (fun c120 => ?_) (fun c120 => ?_)
                · -- 128
                  replace hF := gj_ift c120 hF
                  refine gj_aload_n (q := 129) (gj_dk okX6_readLine 64 rfl) rfl rfl ?_
                  refine gj_ldc6 (q := 131) (z := -10) 8 (gj_dk okX6_readLine 65 rfl) rfl (by decide) rfl rfl rfl ?_
                  obtain ⟨x17, hG, hF⟩ := gj_bndd hF
                  refine gj_callV (q := 134) (z := 10) (ci := 6) [jR (-10)] rfl (t_X6_isWord hst 8 (by decide)  hG) (gj_dk okX6_readLine 66 rfl) ml_X6_83 me_X6_isWord (sh10 hst) rfl (gj_nm rfl) rfl (gj_kI fun y S2 M2 h => ?_)
                  obtain ⟨bx17, e, eS, eM⟩ := h; subst eS; subst eM; subst e; clear hG
                  refine gj_if_eq (q := 137) (tgt := 148) (gj_dk okX6_readLine 67 rfl) (by decide) rfl (fun c134 => ?_) (fun c134 => ?_)
                  · -- 148
                    replace hF := gj_ift c134 hF
                    refine gj_iconst (q := 149) (gj_dk okX6_readLine 73 rfl) (by decide) rfl ?_
                    cases hF
                    exact gj_zret (gj_dk okX6_readLine 74 rfl) rfl (by decide) ⟨_, rfl, (by decide), rfl, rfl, rfl⟩
                  · -- 137
                    replace hF := gj_iff c134 hF
                    refine gj_aload_n (q := 138) (gj_dk okX6_readLine 68 rfl) rfl rfl ?_
                    obtain ⟨x19, M20, hG, hF⟩ := gj_bnd2d hF
                    refine gj_callV (q := 141) (z := 10) (ci := 6) [] rfl (t_X6_readAhead hst  hG) (gj_dk okX6_readLine 69 rfl) ml_X6_131 me_X6_readAhead (sh10 hst) rfl (gj_nm rfl) rfl (gj_kI fun y S2 M2 h => ?_)
                    obtain ⟨bx19, e, eS, eM⟩ := h; subst eS; subst eM; subst e; clear hG
                    dsimp only at bx19 ⊢
                    refine gj_if_eq (q := 144) (tgt := 148) (gj_dk okX6_readLine 70 rfl) (by decide) rfl (fun c141 => ?_) (fun c141 => ?_)
                    · -- 148
                      replace hF := gj_ift c141 hF
                      refine gj_iconst (q := 149) (gj_dk okX6_readLine 73 rfl) (by decide) rfl ?_
                      cases hF
                      exact gj_zret (gj_dk okX6_readLine 74 rfl) rfl (by decide) ⟨_, rfl, (by decide), rfl, rfl, rfl⟩
                    · -- 144
                      replace hF := gj_iff c141 hF
                      refine gj_iconst (q := 145) (gj_dk okX6_readLine 71 rfl) (by decide) rfl ?_
                      refine gj_goto (tgt := 149) (gj_dk okX6_readLine 72 rfl) (by decide) ?_
                      cases hF
                      exact gj_zret (gj_dk okX6_readLine 74 rfl) rfl (by decide) ⟨_, rfl, (by decide), rfl, rfl, rfl⟩
                · -- 123
                  replace hF := gj_iff c120 hF
                  refine gj_aload_n (q := 124) (gj_dk okX6_readLine 61 rfl) rfl rfl ?_
                  obtain ⟨x21, M22, hG, hF⟩ := gj_bnd2d hF
                  refine gj_callV (q := 127) (z := 10) (ci := 6) [] rfl (t_X6_readCow hst  hG) (gj_dk okX6_readLine 62 rfl) ml_X6_126 me_X6_readCow (sh10 hst) rfl (gj_nm rfl) rfl (gj_kI fun y S2 M2 h => ?_)
                  obtain ⟨bx21, e, eS, eM⟩ := h; subst eS; subst eM; subst e; clear hG
                  dsimp only at bx21 ⊢
                  cases hF
                  exact gj_zret (gj_dk okX6_readLine 63 rfl) rfl bx21 ⟨_, rfl, bx21, rfl, rfl, rfl⟩
              · -- 109
                replace hF := gj_iff c106 hF
                refine gj_aload_n (q := 110) (gj_dk okX6_readLine 54 rfl) rfl rfl ?_
                obtain ⟨x23, M24, hG, hF⟩ := gj_bnd2d hF
                refine gj_callV (q := 113) (z := 10) (ci := 6) [] rfl (t_X6_readChild hst  hG) (gj_dk okX6_readLine 55 rfl) ml_X6_121 me_X6_readChild (sh10 hst) rfl (gj_nm rfl) rfl (gj_kI fun y S2 M2 h => ?_)
                obtain ⟨bx23, e, eS, eM⟩ := h; subst eS; subst eM; subst e; clear hG
                dsimp only at bx23 ⊢
                cases hF
                exact gj_zret (gj_dk okX6_readLine 56 rfl) rfl bx23 ⟨_, rfl, bx23, rfl, rfl, rfl⟩
            · -- 95
              replace hF := gj_iff c92 hF
              refine gj_aload_n (q := 96) (gj_dk okX6_readLine 47 rfl) rfl rfl ?_
              obtain ⟨x25, M26, hG, hF⟩ := gj_bnd2d hF
              refine gj_callV (q := 99) (z := 10) (ci := 6) [] rfl (t_X6_readHouse hst  hG) (gj_dk okX6_readLine 48 rfl) ml_X6_116 me_X6_readHouse (sh10 hst) rfl (gj_nm rfl) rfl (gj_kI fun y S2 M2 h => ?_)
              obtain ⟨bx25, e, eS, eM⟩ := h; subst eS; subst eM; subst e; clear hG
              dsimp only at bx25 ⊢
              cases hF
              exact gj_zret (gj_dk okX6_readLine 49 rfl) rfl bx25 ⟨_, rfl, bx25, rfl, rfl, rfl⟩
          · -- 81
            replace hF := gj_iff c78 hF
            refine gj_aload_n (q := 82) (gj_dk okX6_readLine 40 rfl) rfl rfl ?_
            obtain ⟨x27, M28, hG, hF⟩ := gj_bnd2d hF
            refine gj_callV (q := 85) (z := 10) (ci := 6) [] rfl (t_X6_readWorth hst  hG) (gj_dk okX6_readLine 41 rfl) ml_X6_111 me_X6_readWorth (sh10 hst) rfl (gj_nm rfl) rfl (gj_kI fun y S2 M2 h => ?_)
            obtain ⟨bx27, e, eS, eM⟩ := h; subst eS; subst eM; subst e; clear hG
            dsimp only at bx27 ⊢
            cases hF
            exact gj_zret (gj_dk okX6_readLine 42 rfl) rfl bx27 ⟨_, rfl, bx27, rfl, rfl, rfl⟩
        · -- 67
          replace hF := gj_iff c64 hF
          refine gj_aload_n (q := 68) (gj_dk okX6_readLine 33 rfl) rfl rfl ?_
          obtain ⟨x29, M30, hG, hF⟩ := gj_bnd2d hF
          refine gj_callV (q := 71) (z := 10) (ci := 6) [] rfl (t_X6_readFit hst  hG) (gj_dk okX6_readLine 34 rfl) ml_X6_106 me_X6_readFit (sh10 hst) rfl (gj_nm rfl) rfl (gj_kI fun y S2 M2 h => ?_)
          obtain ⟨bx29, e, eS, eM⟩ := h; subst eS; subst eM; subst e; clear hG
          dsimp only at bx29 ⊢
          cases hF
          exact gj_zret (gj_dk okX6_readLine 35 rfl) rfl bx29 ⟨_, rfl, bx29, rfl, rfl, rfl⟩
      · -- 53
        replace hF := gj_iff c50 hF
        refine gj_aload_n (q := 54) (gj_dk okX6_readLine 26 rfl) rfl rfl ?_
        obtain ⟨x31, M32, hG, hF⟩ := gj_bnd2d hF
        refine gj_callV (q := 57) (z := 10) (ci := 6) [] rfl (t_X6_readThink hst  hG) (gj_dk okX6_readLine 27 rfl) ml_X6_101 me_X6_readThink (sh10 hst) rfl (gj_nm rfl) rfl (gj_kI fun y S2 M2 h => ?_)
        obtain ⟨bx31, e, eS, eM⟩ := h; subst eS; subst eM; subst e; clear hG
        dsimp only at bx31 ⊢
        cases hF
        exact gj_zret (gj_dk okX6_readLine 28 rfl) rfl bx31 ⟨_, rfl, bx31, rfl, rfl, rfl⟩
    · -- 31
      replace hF := gj_iff c28 hF
      refine gj_aload_n (q := 32) (gj_dk okX6_readLine 15 rfl) rfl rfl ?_
      refine gj_iconst (q := 33) (gj_dk okX6_readLine 16 rfl) (by decide) rfl ?_
      refine gj_aload_n (q := 34) (gj_dk okX6_readLine 17 rfl) rfl rfl ?_
      refine gj_gR (q := 37) (j := 1) (gj_dk okX6_readLine 18 rfl) ff_X6_26 (sh10 hst) (by decide) rfl (rf10_1 hst) rfl ?_
      refine gj_gI (q := 40) (j := 1) (gj_dk okX6_readLine 19 rfl) ff_X6_96 (sh3 hst) (by decide) rfl rfl ?_
      obtain ⟨x33, M34, hG, hF⟩ := gj_bnd2d hF
      refine gj_callV (q := 43) (z := 10) (ci := 6) [jI 4, jI (M 3 1)] rfl (t_X6_readPerson hst 4 (M 3 1) hG) (gj_dk okX6_readLine 20 rfl) ml_X6_90 me_X6_readPerson (sh10 hst) rfl (gj_nm rfl) rfl (gj_kI fun y S2 M2 h => ?_)
      obtain ⟨bx33, e, eS, eM⟩ := h; subst eS; subst eM; subst e; clear hG
      dsimp only at bx33 ⊢
      cases hF
      exact gj_zret (gj_dk okX6_readLine 21 rfl) rfl bx33 ⟨_, rfl, bx33, rfl, rfl, rfl⟩
  · -- 9
    replace hF := gj_iff c6 hF
    refine gj_aload_n (q := 10) (gj_dk okX6_readLine 4 rfl) rfl rfl ?_
    refine gj_iconst (q := 11) (gj_dk okX6_readLine 5 rfl) (by decide) rfl ?_
    refine gj_aload_n (q := 12) (gj_dk okX6_readLine 6 rfl) rfl rfl ?_
    refine gj_gR (q := 15) (j := 1) (gj_dk okX6_readLine 7 rfl) ff_X6_26 (sh10 hst) (by decide) rfl (rf10_1 hst) rfl ?_
    refine gj_gI (q := 18) (j := 0) (gj_dk okX6_readLine 8 rfl) ff_X6_87 (sh3 hst) (by decide) rfl rfl ?_
    obtain ⟨x35, M36, hG, hF⟩ := gj_bnd2d hF
    refine gj_callV (q := 21) (z := 10) (ci := 6) [jI 0, jI (M 3 0)] rfl (t_X6_readPerson hst 0 (M 3 0) hG) (gj_dk okX6_readLine 9 rfl) ml_X6_90 me_X6_readPerson (sh10 hst) rfl (gj_nm rfl) rfl (gj_kI fun y S2 M2 h => ?_)
    obtain ⟨bx35, e, eS, eM⟩ := h; subst eS; subst eM; subst e; clear hG
    dsimp only at bx35 ⊢
    cases hF
    exact gj_zret (gj_dk okX6_readLine 10 rfl) rfl bx35 ⟨_, rfl, bx35, rfl, rfl, rfl⟩
def f_X5_stands_3 (M : gj_M) : Int :=
  (if M 3 0 ≤ 0 then (0) else (if M 3 1 ≤ 0 then (0) else (1)))
set_option maxHeartbeats 4000000 in
set_option maxRecDepth 20000 in
theorem t_X5_stands_3 (hst : gj_Stat S) {r : Int} (hF : f_X5_stands_3 M = r) : gj_C G l 1 0 0 yX5_stands cX5_stands 1 (some .boolean) [jR 3] S M (gj_qI fun x S' M' => (x = 0 ∨ x = 1) ∧ r = x ∧ S = S' ∧ M = M') := by
  refine gj_Cof (by decide +kernel) (Nat.le_of_ble_eq_true rfl) ?_
  change gj_W G l 1 0 0 yX5_stands cX5_stands 1 (some .boolean) (gj_qI fun x S' M' => (x = 0 ∨ x = 1) ∧ r = x ∧ S = S' ∧ M = M') 0 0 0 [(0, jR 3)] [] S M
  unfold f_X5_stands_3 at hF
  refine gj_aload_n (q := 1) (gj_dk okX5_stands 0 rfl) rfl rfl ?_
  refine gj_gI (q := 4) (j := 0) (gj_dk okX5_stands 1 rfl) ff_X5_30 (sh3 hst) (by decide) rfl rfl ?_
  refine gj_if_le (q := 7) (tgt := 18) (gj_dk okX5_stands 2 rfl) (by decide) rfl (fun c4 => ?_) (fun c4 => ?_)
  · -- 18
    replace hF := gj_ift c4 hF
    refine gj_iconst (q := 19) (gj_dk okX5_stands 8 rfl) (by decide) rfl ?_
    subst hF
    exact gj_zret (gj_dk okX5_stands 9 rfl) rfl (by decide) ⟨_, rfl, (by decide), rfl, rfl, rfl⟩
  · -- 7
    replace hF := gj_iff c4 hF
    refine gj_aload_n (q := 8) (gj_dk okX5_stands 3 rfl) rfl rfl ?_
    refine gj_gI (q := 11) (j := 1) (gj_dk okX5_stands 4 rfl) ff_X5_34 (sh3 hst) (by decide) rfl rfl ?_
    refine gj_if_le (q := 14) (tgt := 18) (gj_dk okX5_stands 5 rfl) (by decide) rfl (fun c11 => ?_) (fun c11 => ?_)
    · -- 18
      replace hF := gj_ift c11 hF
      refine gj_iconst (q := 19) (gj_dk okX5_stands 8 rfl) (by decide) rfl ?_
      subst hF
      exact gj_zret (gj_dk okX5_stands 9 rfl) rfl (by decide) ⟨_, rfl, (by decide), rfl, rfl, rfl⟩
    · -- 14
      replace hF := gj_iff c11 hF
      refine gj_iconst (q := 15) (gj_dk okX5_stands 6 rfl) (by decide) rfl ?_
      refine gj_goto (tgt := 19) (gj_dk okX5_stands 7 rfl) (by decide) ?_
      subst hF
      exact gj_zret (gj_dk okX5_stands 9 rfl) rfl (by decide) ⟨_, rfl, (by decide), rfl, rfl, rfl⟩
def f_X5_stands_14 (M : gj_M) : Int :=
  (if M 14 0 ≤ 0 then (0) else (if M 14 1 ≤ 0 then (0) else (1)))
set_option maxHeartbeats 4000000 in
set_option maxRecDepth 20000 in
theorem t_X5_stands_14 (hst : gj_Stat S) {r : Int} (hF : f_X5_stands_14 M = r) : gj_C G l 1 0 0 yX5_stands cX5_stands 1 (some .boolean) [jR 14] S M (gj_qI fun x S' M' => (x = 0 ∨ x = 1) ∧ r = x ∧ S = S' ∧ M = M') := by
  refine gj_Cof (by decide +kernel) (Nat.le_of_ble_eq_true rfl) ?_
  change gj_W G l 1 0 0 yX5_stands cX5_stands 1 (some .boolean) (gj_qI fun x S' M' => (x = 0 ∨ x = 1) ∧ r = x ∧ S = S' ∧ M = M') 0 0 0 [(0, jR 14)] [] S M
  unfold f_X5_stands_14 at hF
  refine gj_aload_n (q := 1) (gj_dk okX5_stands 0 rfl) rfl rfl ?_
  refine gj_gI (q := 4) (j := 0) (gj_dk okX5_stands 1 rfl) ff_X5_30 (sh14 hst) (by decide) rfl rfl ?_
  refine gj_if_le (q := 7) (tgt := 18) (gj_dk okX5_stands 2 rfl) (by decide) rfl (fun c4 => ?_) (fun c4 => ?_)
  · -- 18
    replace hF := gj_ift c4 hF
    refine gj_iconst (q := 19) (gj_dk okX5_stands 8 rfl) (by decide) rfl ?_
    subst hF
    exact gj_zret (gj_dk okX5_stands 9 rfl) rfl (by decide) ⟨_, rfl, (by decide), rfl, rfl, rfl⟩
  · -- 7
    replace hF := gj_iff c4 hF
    refine gj_aload_n (q := 8) (gj_dk okX5_stands 3 rfl) rfl rfl ?_
    refine gj_gI (q := 11) (j := 1) (gj_dk okX5_stands 4 rfl) ff_X5_34 (sh14 hst) (by decide) rfl rfl ?_
    refine gj_if_le (q := 14) (tgt := 18) (gj_dk okX5_stands 5 rfl) (by decide) rfl (fun c11 => ?_) (fun c11 => ?_)
    · -- 18
      replace hF := gj_ift c11 hF
      refine gj_iconst (q := 19) (gj_dk okX5_stands 8 rfl) (by decide) rfl ?_
      subst hF
      exact gj_zret (gj_dk okX5_stands 9 rfl) rfl (by decide) ⟨_, rfl, (by decide), rfl, rfl, rfl⟩
    · -- 14
      replace hF := gj_iff c11 hF
      refine gj_iconst (q := 15) (gj_dk okX5_stands 6 rfl) (by decide) rfl ?_
      refine gj_goto (tgt := 19) (gj_dk okX5_stands 7 rfl) (by decide) ?_
      subst hF
      exact gj_zret (gj_dk okX5_stands 9 rfl) rfl (by decide) ⟨_, rfl, (by decide), rfl, rfl, rfl⟩
def J_X6_read_73 (M : gj_M) : Option (Int × gj_M) :=
  gj_letI (f_X5_stands_3 M) (fun x11 => (if x11 = 0 then gj_letI (f_X9_length M) (fun x12 => (some ((x12, M)))) else (some ((-1, M)))))
def B_X6_read_37 (rec37 : Int → gj_M → Option (Int × gj_M)) (l1 : Int) (M : gj_M) : Option (Int × gj_M) :=
  gj_letI (f_X9_length M) (fun x8 => (if x8 < l1 then (J_X6_read_73 M) else (if M 10 6 = 0 then (J_X6_read_73 M) else gj_bnd2 (F_X6_readLine M) (fun x9 M10 => (if x9 = 0 then (some ((M10 10 7, M10))) else rec37 (gj_w (l1 + 1)) M10)))))
def F_X6_read (M : gj_M) : Option (Int × gj_M) :=
  gj_let (f_X5_clear M) (fun M1 => gj_let (gj_up M1 10 5 0) (fun M2 => gj_let (gj_up M2 10 8 0) (fun M3 => gj_let (f_fill M3 12 32 0) (fun M4 => gj_let (f_fill M4 13 16 0) (fun M5 => gj_bnd (F_X6_scan M5) (fun M7 => (gj_it (fun _ _ => none) (B_X6_read_37) gj_fu 0 M7)))))))
set_option maxHeartbeats 4000000 in
set_option maxRecDepth 20000 in
theorem t_J_X6_read_73 (hst : gj_Stat S) {r : Int × gj_M} (M : gj_M) (hF : J_X6_read_73 M = some r) : gj_W G l 9 0 0 yX6_read cX6_read 2 (some .int) (gj_qI fun x S' M' => r.1 = x ∧ S = S' ∧ r.2 = M') 0 0 73 [(0, jR 10)] [] S M := by
  unfold J_X6_read_73 at hF
  refine gj_aload_n (q := 74) (gj_dk okX6_read 35 rfl) rfl rfl ?_
  refine gj_gR (q := 77) (j := 1) (gj_dk okX6_read 36 rfl) ff_X6_26 (sh10 hst) (by decide) rfl (rf10_1 hst) rfl ?_
  refine gj_callV (q := 80) (z := 3) (ci := 5) [] rfl (t_X5_stands_3 hst  rfl) (gj_dk okX6_read 37 rfl) ml_X6_67 me_X5_stands (sh3 hst) rfl (gj_nm rfl) rfl (gj_kI fun x S2 M2 h => ?_)
  obtain ⟨bz, e, eS, eM⟩ := h; subst eS; subst eM; subst e
  refine gj_stpZ bz hF (fun x11 bx11 hF => ?_)
  refine gj_if_eq (q := 83) (tgt := 87) (gj_dk okX6_read 38 rfl) (by decide) rfl (fun c80 => ?_) (fun c80 => ?_)
  · -- 87
    replace hF := gj_ift c80 hF
    refine gj_aload_n (q := 88) (gj_dk okX6_read 41 rfl) rfl rfl ?_
    refine gj_gR (q := 91) (j := 0) (gj_dk okX6_read 42 rfl) ff_X6_22 (sh10 hst) (by decide) rfl (rf10_0 hst) rfl ?_
    refine gj_callV (q := 94) (z := 1) (ci := 8) [] rfl (t_X9_length hst  rfl) (gj_dk okX6_read 43 rfl) ml_X6_51 me_X9_length (sh1 hst) rfl (gj_nm rfl) rfl (gj_kI fun x S2 M2 h => ?_)
    obtain ⟨e, eS, eM⟩ := h; subst eS; subst eM; subst e
    refine gj_stpI hF (fun x12 hF => ?_)
    cases hF
    exact gj_iret (gj_dk okX6_read 44 rfl) rfl ⟨_, rfl, rfl, rfl, rfl⟩
  · -- 83
    replace hF := gj_iff c80 hF
    refine gj_iconst (q := 84) (gj_dk okX6_read 39 rfl) (by decide) rfl ?_
    refine gj_goto (tgt := 94) (gj_dk okX6_read 40 rfl) (by decide) ?_
    cases hF
    exact gj_iret (gj_dk okX6_read 44 rfl) rfl ⟨_, rfl, rfl, rfl, rfl⟩
set_option maxHeartbeats 4000000 in
set_option maxRecDepth 20000 in
theorem t_B_X6_read_37 (hst : gj_Stat S) {r : Int × gj_M} {rec37 : Int → gj_M → Option (Int × gj_M)} (hrec37 : ∀ (l1 : Int) (M : gj_M), rec37 l1 M = some r → gj_W G l 9 0 0 yX6_read cX6_read 2 (some .int) (gj_qI fun x S' M' => r.1 = x ∧ S = S' ∧ r.2 = M') 0 0 37 [(0, jR 10), (1, jI l1)] [] S M) (l1 : Int) (M : gj_M) (hF : B_X6_read_37 rec37 l1 M = some r) : gj_W G l 9 0 0 yX6_read cX6_read 2 (some .int) (gj_qI fun x S' M' => r.1 = x ∧ S = S' ∧ r.2 = M') 0 0 37 [(0, jR 10), (1, jI l1)] [] S M := by
  unfold B_X6_read_37 at hF
  refine gj_iload_n (q := 38) (gj_dk okX6_read 19 rfl) rfl rfl ?_
  refine gj_aload_n (q := 39) (gj_dk okX6_read 20 rfl) rfl rfl ?_
  refine gj_gR (q := 42) (j := 0) (gj_dk okX6_read 21 rfl) ff_X6_22 (sh10 hst) (by decide) rfl (rf10_0 hst) rfl ?_
  refine gj_callV (q := 45) (z := 1) (ci := 8) [] rfl (t_X9_length hst  rfl) (gj_dk okX6_read 22 rfl) ml_X6_51 me_X9_length (sh1 hst) rfl (gj_nm rfl) rfl (gj_kI fun x S2 M2 h => ?_)
  obtain ⟨e, eS, eM⟩ := h; subst eS; subst eM; subst e
  refine gj_stpI hF (fun x8 hF => ?_)
  refine gj_icmp_gt (q := 48) (tgt := 73) (gj_dk okX6_read 23 rfl) (by decide) rfl (fun c45 => ?_) (fun c45 => ?_)
  · -- 73
    replace hF := gj_ift c45 hF
    refine gj_sub [(0, jR 10)] ⟨rfl, trivial⟩ ?_
    exact t_J_X6_read_73 hst M hF
  · -- 48
    replace hF := gj_iff c45 hF
    refine gj_aload_n (q := 49) (gj_dk okX6_read 24 rfl) rfl rfl ?_
    refine gj_gI (q := 52) (j := 6) (gj_dk okX6_read 25 rfl) ff_X6_57 (sh10 hst) (by decide) rfl rfl ?_
    refine gj_if_eq (q := 55) (tgt := 73) (gj_dk okX6_read 26 rfl) (by decide) rfl (fun c52 => ?_) (fun c52 => ?_)
    · -- 73
      replace hF := gj_ift c52 hF
      refine gj_sub [(0, jR 10)] ⟨rfl, trivial⟩ ?_
      exact t_J_X6_read_73 hst M hF
    · -- 55
      replace hF := gj_iff c52 hF
      refine gj_aload_n (q := 56) (gj_dk okX6_read 27 rfl) rfl rfl ?_
      obtain ⟨x9, M10, hG, hF⟩ := gj_bnd2d hF
      refine gj_callV (q := 59) (z := 10) (ci := 6) [] rfl (t_X6_readLine hst  hG) (gj_dk okX6_read 28 rfl) ml_X6_60 me_X6_readLine (sh10 hst) rfl (gj_nm rfl) rfl (gj_kI fun y S2 M2 h => ?_)
      obtain ⟨bx9, e, eS, eM⟩ := h; subst eS; subst eM; subst e; clear hG
      dsimp only at bx9 ⊢
      refine gj_if_ne (q := 62) (tgt := 67) (gj_dk okX6_read 29 rfl) (by decide) rfl (fun c59 => ?_) (fun c59 => ?_)
      · -- 67
        replace hF := gj_iff c59 hF
        refine gj_iinc (q := 70) (v := gj_w (l1 + 1)) (gj_dk okX6_read 33 rfl) rfl (by decide) rfl rfl ?_
        refine gj_goto (tgt := 37) (gj_dk okX6_read 34 rfl) (by decide) ?_
        refine gj_sub [(0, jR 10), (1, jI (gj_w (l1 + 1)))] ⟨rfl, rfl, trivial⟩ ?_
        exact hrec37 (gj_w (l1 + 1)) M10 hF
      · -- 62
        replace hF := gj_ift c59 hF
        refine gj_aload_n (q := 63) (gj_dk okX6_read 30 rfl) rfl rfl ?_
        refine gj_gI (q := 66) (j := 7) (gj_dk okX6_read 31 rfl) ff_X6_64 (sh10 hst) (by decide) rfl rfl ?_
        cases hF
        exact gj_iret (gj_dk okX6_read 32 rfl) rfl ⟨_, rfl, rfl, rfl, rfl⟩
theorem t_L_X6_read_37 (hst : gj_Stat S) {r : Int × gj_M} : ∀ (m : Nat) (l1 : Int) (M : gj_M), gj_it (fun _ _ => none) (B_X6_read_37) m l1 M = some r → gj_W G l 9 0 0 yX6_read cX6_read 2 (some .int) (gj_qI fun x S' M' => r.1 = x ∧ S = S' ∧ r.2 = M') 0 0 37 [(0, jR 10), (1, jI l1)] [] S M := by
  intro m
  induction m with
  | zero => intro l1 M hF; cases (show (none : Option (Int × gj_M)) = some r from hF)
  | succ m ih => intro l1 M hF; exact t_B_X6_read_37 hst (fun l1 M h => ih l1 M h) l1 M hF
set_option maxHeartbeats 4000000 in
set_option maxRecDepth 20000 in
theorem t_X6_read (hst : gj_Stat S) {r : Int × gj_M} (hF : F_X6_read M = some r) : gj_C G l 9 0 0 yX6_read cX6_read 2 (some .int) [jR 10] S M (gj_qI fun x S' M' => r.1 = x ∧ S = S' ∧ r.2 = M') := by
  refine gj_Cof (by decide +kernel) (Nat.le_of_ble_eq_true rfl) ?_
  change gj_W G l 9 0 0 yX6_read cX6_read 2 (some .int) (gj_qI fun x S' M' => r.1 = x ∧ S = S' ∧ r.2 = M') 0 0 0 [(0, jR 10)] [] S M
  unfold F_X6_read at hF
  refine gj_aload_n (q := 1) (gj_dk okX6_read 0 rfl) rfl rfl ?_
  refine gj_gR (q := 4) (j := 1) (gj_dk okX6_read 1 rfl) ff_X6_26 (sh10 hst) (by decide) rfl (rf10_1 hst) rfl ?_
  refine gj_callV (q := 7) (z := 3) (ci := 5) [] rfl (t_X5_clear hst  rfl) (gj_dk okX6_read 2 rfl) ml_X6_30 me_X5_clear (sh3 hst) rfl (gj_nm rfl) rfl (gj_kV fun S2 M2 h => ?_)
  obtain ⟨eS, eM⟩ := h; subst eS; subst eM
  refine gj_stp hF (fun M1 hF => ?_)
  refine gj_aload_n (q := 8) (gj_dk okX6_read 3 rfl) rfl rfl ?_
  refine gj_iconst (q := 9) (gj_dk okX6_read 4 rfl) (by decide) rfl ?_
  refine gj_pfI (q := 12) (j := 5) (gj_dk okX6_read 5 rfl) ff_X6_35 (sh10 hst) (by decide) rfl rfl ?_
  refine gj_stp hF (fun M2 hF => ?_)
  refine gj_aload_n (q := 13) (gj_dk okX6_read 6 rfl) rfl rfl ?_
  refine gj_iconst (q := 14) (gj_dk okX6_read 7 rfl) (by decide) rfl ?_
  refine gj_pfI (q := 17) (j := 8) (gj_dk okX6_read 8 rfl) ff_X6_39 (sh10 hst) (by decide) rfl rfl ?_
  refine gj_stp hF (fun M3 hF => ?_)
  refine gj_aload_n (q := 18) (gj_dk okX6_read 9 rfl) rfl rfl ?_
  refine gj_gR (q := 21) (j := 3) (gj_dk okX6_read 10 rfl) ff_X6_15 (sh10 hst) (by decide) rfl (rf10_3 hst) rfl ?_
  refine gj_callS (q := 24) [jR 12] rfl (c_X7_unmark (sh12 hst) (by decide) (by decide)) (gj_dk okX6_read 11 rfl) ml_X6_42 me_X7_unmark (gj_nm rfl) rfl (gj_kV fun S2 M2 h => ?_)
  obtain ⟨eS, eM⟩ := h; subst eS; subst eM
  refine gj_stp hF (fun M4 hF => ?_)
  refine gj_aload_n (q := 25) (gj_dk okX6_read 12 rfl) rfl rfl ?_
  refine gj_gR (q := 28) (j := 4) (gj_dk okX6_read 13 rfl) ff_X6_19 (sh10 hst) (by decide) rfl (rf10_4 hst) rfl ?_
  refine gj_callS (q := 31) [jR 13] rfl (c_X7_unmark (sh13 hst) (by decide) (by decide)) (gj_dk okX6_read 14 rfl) ml_X6_42 me_X7_unmark (gj_nm rfl) rfl (gj_kV fun S2 M2 h => ?_)
  obtain ⟨eS, eM⟩ := h; subst eS; subst eM
  refine gj_stp hF (fun M5 hF => ?_)
  refine gj_aload_n (q := 32) (gj_dk okX6_read 15 rfl) rfl rfl ?_
  obtain ⟨M7, hG, hF⟩ := gj_bndd hF
  refine gj_callV (q := 35) (z := 10) (ci := 6) [] rfl (t_X6_scan hst  hG) (gj_dk okX6_read 16 rfl) ml_X6_48 me_X6_scan (sh10 hst) rfl (gj_nm rfl) rfl (gj_kV fun S2 M2 h => ?_)
  obtain ⟨eS, eM⟩ := h; subst eS; subst eM; clear hG
  refine gj_iconst (q := 36) (gj_dk okX6_read 17 rfl) (by decide) rfl ?_
  refine gj_istore_n (q := 37) (gj_dk okX6_read 18 rfl) (by decide) rfl ?_
  refine gj_sub [(0, jR 10), (1, jI 0)] ⟨rfl, rfl, trivial⟩ ?_
  exact t_L_X6_read_37 hst gj_fu 0 M7 hF
def F_X11_fault (M : gj_M) : Option (Int × gj_M) :=
  gj_bnd2 (F_X6_read M) (fun x1 M2 => (some ((x1, M2))))
set_option maxHeartbeats 4000000 in
set_option maxRecDepth 20000 in
theorem t_X11_fault (hst : gj_Stat S) {r : Int × gj_M} (hF : F_X11_fault M = some r) : gj_C G l 10 0 0 yX11_fault cX11_fault 1 (some .int) [jR 0] S M (gj_qI fun x S' M' => r.1 = x ∧ S = S' ∧ r.2 = M') := by
  refine gj_Cof (by decide +kernel) (Nat.le_of_ble_eq_true rfl) ?_
  change gj_W G l 10 0 0 yX11_fault cX11_fault 1 (some .int) (gj_qI fun x S' M' => r.1 = x ∧ S = S' ∧ r.2 = M') 0 0 0 [(0, jR 0)] [] S M
  unfold F_X11_fault at hF
  refine gj_aload_n (q := 1) (gj_dk okX11_fault 0 rfl) rfl rfl ?_
  refine gj_gR (q := 4) (j := 2) (gj_dk okX11_fault 1 rfl) ff_X11_28 (sh0 hst) (by decide) rfl (rf0_2 hst) rfl ?_
  obtain ⟨x1, M2, hG, hF⟩ := gj_bnd2d hF
  refine gj_callV (q := 7) (z := 10) (ci := 6) [] rfl (t_X6_read hst  hG) (gj_dk okX11_fault 2 rfl) ml_X11_106 me_X6_read (sh10 hst) rfl (gj_nm rfl) rfl (gj_kI fun y S2 M2 h => ?_)
  obtain ⟨e, eS, eM⟩ := h; subst eS; subst eM; subst e; clear hG
  dsimp only
  cases hF
  exact gj_iret (gj_dk okX11_fault 3 rfl) rfl ⟨_, rfl, rfl, rfl, rfl⟩
def B_X5_oddsOf_31 (M : gj_M) (rec31 : Int → Int → Int → Int → Option (Int)) (l0 l2 l3 l5 : Int) : Option (Int) :=
  (if l2 ≤ l5 then (some (l3)) else (if 4 ≤ l5 then (some (l3)) else gj_letI (gj_wl (l3 * (gj_w (16 - l0)))) (fun x1 => rec31 l0 l2 x1 (gj_w (l5 + 1)))))
def J_X5_oddsOf_28 (M : gj_M) (l0 l2 l3 : Int) : Option (Int) :=
  (gj_it (fun _ _ _ _ => none) (B_X5_oddsOf_31 M) gj_fu l0 l2 l3 0)
def B_X5_oddsOf_5 (M : gj_M) (rec5 : Int → Int → Int → Int → Int → Option (Int)) (l0 l1 l2 l3 l5 : Int) : Option (Int) :=
  (if l1 ≤ l5 then (J_X5_oddsOf_28 M l0 l2 l3) else (if 4 ≤ l5 then (J_X5_oddsOf_28 M l0 l2 l3) else rec5 l0 l1 l2 (gj_wl (l3 * l0)) (gj_w (l5 + 1))))
def F_X5_oddsOf (a1 : Int) (a2 : Int) (a3 : Int) (M : gj_M) : Option (Int) :=
  (gj_it (fun _ _ _ _ _ => none) (B_X5_oddsOf_5 M) gj_fu a1 a2 a3 1 0)
set_option maxHeartbeats 4000000 in
set_option maxRecDepth 20000 in
theorem t_B_X5_oddsOf_31 (hst : gj_Stat S) {r : Int} {rec31 : Int → Int → Int → Int → Option (Int)} (hrec31 : ∀ (l0 l2 l3 l5 : Int), rec31 l0 l2 l3 l5 = some r → gj_W G l 1 0 0 yX5_oddsOf cX5_oddsOf 6 (some .long) (gj_qL fun x S' M' => r = x ∧ S = S' ∧ M = M') 0 0 31 [(0, jI l0), (2, jI l2), (3, jL l3), (5, jI l5)] [] S M) (l0 l2 l3 l5 : Int) (hF : B_X5_oddsOf_31 M rec31 l0 l2 l3 l5 = some r) : gj_W G l 1 0 0 yX5_oddsOf cX5_oddsOf 6 (some .long) (gj_qL fun x S' M' => r = x ∧ S = S' ∧ M = M') 0 0 31 [(0, jI l0), (2, jI l2), (3, jL l3), (5, jI l5)] [] S M := by
  unfold B_X5_oddsOf_31 at hF
  refine gj_iload (q := 33) (gj_dk okX5_oddsOf 19 rfl) rfl rfl ?_
  refine gj_iload_n (q := 34) (gj_dk okX5_oddsOf 20 rfl) rfl rfl ?_
  refine gj_icmp_ge (q := 37) (tgt := 57) (gj_dk okX5_oddsOf 21 rfl) (by decide) rfl (fun c34 => ?_) (fun c34 => ?_)
  · -- 57
    replace hF := gj_ift c34 hF
    refine gj_lload_n (q := 58) (gj_dk okX5_oddsOf 34 rfl) rfl rfl ?_
    cases hF
    exact gj_lret (gj_dk okX5_oddsOf 35 rfl) rfl ⟨_, rfl, rfl, rfl, rfl⟩
  · -- 37
    replace hF := gj_iff c34 hF
    refine gj_iload (q := 39) (gj_dk okX5_oddsOf 22 rfl) rfl rfl ?_
    refine gj_iconst (q := 40) (gj_dk okX5_oddsOf 23 rfl) (by decide) rfl ?_
    refine gj_icmp_ge (q := 43) (tgt := 57) (gj_dk okX5_oddsOf 24 rfl) (by decide) rfl (fun c40 => ?_) (fun c40 => ?_)
    · -- 57
      replace hF := gj_ift c40 hF
      refine gj_lload_n (q := 58) (gj_dk okX5_oddsOf 34 rfl) rfl rfl ?_
      cases hF
      exact gj_lret (gj_dk okX5_oddsOf 35 rfl) rfl ⟨_, rfl, rfl, rfl, rfl⟩
    · -- 43
      replace hF := gj_iff c40 hF
      refine gj_lload_n (q := 44) (gj_dk okX5_oddsOf 25 rfl) rfl rfl ?_
      refine gj_bipush (q := 46) (gj_dk okX5_oddsOf 26 rfl) (by decide) rfl rfl ?_
      refine gj_iload_n (q := 47) (gj_dk okX5_oddsOf 27 rfl) rfl rfl ?_
      refine gj_isub (q := 48) (gj_dk okX5_oddsOf 28 rfl) rfl ?_
      refine gj_i2l (q := 49) (gj_dk okX5_oddsOf 29 rfl) rfl ?_
      refine gj_lmul (q := 50) (gj_dk okX5_oddsOf 30 rfl) rfl ?_
      refine gj_stpL hF (fun x1 hF => ?_)
      refine gj_lstore_n (q := 51) (gj_dk okX5_oddsOf 31 rfl) (by decide) rfl ?_
      refine gj_iinc (q := 54) (v := gj_w (l5 + 1)) (gj_dk okX5_oddsOf 32 rfl) rfl (by decide) rfl rfl ?_
      refine gj_goto (tgt := 31) (gj_dk okX5_oddsOf 33 rfl) (by decide) ?_
      refine gj_sub [(0, jI l0), (2, jI l2), (3, jL x1), (5, jI (gj_w (l5 + 1)))] ⟨rfl, rfl, rfl, rfl, trivial⟩ ?_
      exact hrec31 l0 l2 x1 (gj_w (l5 + 1)) hF
theorem t_L_X5_oddsOf_31 (hst : gj_Stat S) {r : Int} : ∀ (m : Nat) (l0 : Int) (l2 : Int) (l3 : Int) (l5 : Int), gj_it (fun _ _ _ _ => none) (B_X5_oddsOf_31 M) m l0 l2 l3 l5 = some r → gj_W G l 1 0 0 yX5_oddsOf cX5_oddsOf 6 (some .long) (gj_qL fun x S' M' => r = x ∧ S = S' ∧ M = M') 0 0 31 [(0, jI l0), (2, jI l2), (3, jL l3), (5, jI l5)] [] S M := by
  intro m
  induction m with
  | zero => intro l0 l2 l3 l5 hF; cases (show (none : Option (Int)) = some r from hF)
  | succ m ih => intro l0 l2 l3 l5 hF; exact t_B_X5_oddsOf_31 hst (fun l0 l2 l3 l5 h => ih l0 l2 l3 l5 h) l0 l2 l3 l5 hF
set_option maxHeartbeats 4000000 in
set_option maxRecDepth 20000 in
theorem t_J_X5_oddsOf_28 (hst : gj_Stat S) {r : Int} (l0 l2 l3 : Int) (hF : J_X5_oddsOf_28 M l0 l2 l3 = some r) : gj_W G l 1 0 0 yX5_oddsOf cX5_oddsOf 6 (some .long) (gj_qL fun x S' M' => r = x ∧ S = S' ∧ M = M') 0 0 28 [(0, jI l0), (2, jI l2), (3, jL l3)] [] S M := by
  unfold J_X5_oddsOf_28 at hF
  refine gj_iconst (q := 29) (gj_dk okX5_oddsOf 17 rfl) (by decide) rfl ?_
  refine gj_istore (q := 31) (gj_dk okX5_oddsOf 18 rfl) (by decide) rfl ?_
  refine gj_sub [(0, jI l0), (2, jI l2), (3, jL l3), (5, jI 0)] ⟨rfl, rfl, rfl, rfl, trivial⟩ ?_
  exact t_L_X5_oddsOf_31 hst gj_fu l0 l2 l3 0 hF
set_option maxHeartbeats 4000000 in
set_option maxRecDepth 20000 in
theorem t_B_X5_oddsOf_5 (hst : gj_Stat S) {r : Int} {rec5 : Int → Int → Int → Int → Int → Option (Int)} (hrec5 : ∀ (l0 l1 l2 l3 l5 : Int), rec5 l0 l1 l2 l3 l5 = some r → gj_W G l 1 0 0 yX5_oddsOf cX5_oddsOf 6 (some .long) (gj_qL fun x S' M' => r = x ∧ S = S' ∧ M = M') 0 0 5 [(0, jI l0), (1, jI l1), (2, jI l2), (3, jL l3), (5, jI l5)] [] S M) (l0 l1 l2 l3 l5 : Int) (hF : B_X5_oddsOf_5 M rec5 l0 l1 l2 l3 l5 = some r) : gj_W G l 1 0 0 yX5_oddsOf cX5_oddsOf 6 (some .long) (gj_qL fun x S' M' => r = x ∧ S = S' ∧ M = M') 0 0 5 [(0, jI l0), (1, jI l1), (2, jI l2), (3, jL l3), (5, jI l5)] [] S M := by
  unfold B_X5_oddsOf_5 at hF
  refine gj_iload (q := 7) (gj_dk okX5_oddsOf 4 rfl) rfl rfl ?_
  refine gj_iload_n (q := 8) (gj_dk okX5_oddsOf 5 rfl) rfl rfl ?_
  refine gj_icmp_ge (q := 11) (tgt := 28) (gj_dk okX5_oddsOf 6 rfl) (by decide) rfl (fun c8 => ?_) (fun c8 => ?_)
  · -- 28
    replace hF := gj_ift c8 hF
    refine gj_sub [(0, jI l0), (2, jI l2), (3, jL l3)] ⟨rfl, rfl, rfl, trivial⟩ ?_
    exact t_J_X5_oddsOf_28 hst l0 l2 l3 hF
  · -- 11
    replace hF := gj_iff c8 hF
    refine gj_iload (q := 13) (gj_dk okX5_oddsOf 7 rfl) rfl rfl ?_
    refine gj_iconst (q := 14) (gj_dk okX5_oddsOf 8 rfl) (by decide) rfl ?_
    refine gj_icmp_ge (q := 17) (tgt := 28) (gj_dk okX5_oddsOf 9 rfl) (by decide) rfl (fun c14 => ?_) (fun c14 => ?_)
    · -- 28
      replace hF := gj_ift c14 hF
      refine gj_sub [(0, jI l0), (2, jI l2), (3, jL l3)] ⟨rfl, rfl, rfl, trivial⟩ ?_
      exact t_J_X5_oddsOf_28 hst l0 l2 l3 hF
    · -- 17
      replace hF := gj_iff c14 hF
      refine gj_lload_n (q := 18) (gj_dk okX5_oddsOf 10 rfl) rfl rfl ?_
      refine gj_iload_n (q := 19) (gj_dk okX5_oddsOf 11 rfl) rfl rfl ?_
      refine gj_i2l (q := 20) (gj_dk okX5_oddsOf 12 rfl) rfl ?_
      refine gj_lmul (q := 21) (gj_dk okX5_oddsOf 13 rfl) rfl ?_
      refine gj_lstore_n (q := 22) (gj_dk okX5_oddsOf 14 rfl) (by decide) rfl ?_
      refine gj_iinc (q := 25) (v := gj_w (l5 + 1)) (gj_dk okX5_oddsOf 15 rfl) rfl (by decide) rfl rfl ?_
      refine gj_goto (tgt := 5) (gj_dk okX5_oddsOf 16 rfl) (by decide) ?_
      refine gj_sub [(0, jI l0), (1, jI l1), (2, jI l2), (3, jL (gj_wl (l3 * l0))), (5, jI (gj_w (l5 + 1)))] ⟨rfl, rfl, rfl, rfl, rfl, trivial⟩ ?_
      exact hrec5 l0 l1 l2 (gj_wl (l3 * l0)) (gj_w (l5 + 1)) hF
theorem t_L_X5_oddsOf_5 (hst : gj_Stat S) {r : Int} : ∀ (m : Nat) (l0 : Int) (l1 : Int) (l2 : Int) (l3 : Int) (l5 : Int), gj_it (fun _ _ _ _ _ => none) (B_X5_oddsOf_5 M) m l0 l1 l2 l3 l5 = some r → gj_W G l 1 0 0 yX5_oddsOf cX5_oddsOf 6 (some .long) (gj_qL fun x S' M' => r = x ∧ S = S' ∧ M = M') 0 0 5 [(0, jI l0), (1, jI l1), (2, jI l2), (3, jL l3), (5, jI l5)] [] S M := by
  intro m
  induction m with
  | zero => intro l0 l1 l2 l3 l5 hF; cases (show (none : Option (Int)) = some r from hF)
  | succ m ih => intro l0 l1 l2 l3 l5 hF; exact t_B_X5_oddsOf_5 hst (fun l0 l1 l2 l3 l5 h => ih l0 l1 l2 l3 l5 h) l0 l1 l2 l3 l5 hF
set_option maxHeartbeats 4000000 in
set_option maxRecDepth 20000 in
theorem t_X5_oddsOf (hst : gj_Stat S) (a1 a2 a3 : Int) {r : Int} (hF : F_X5_oddsOf a1 a2 a3 M = some r) : gj_C G l 1 0 0 yX5_oddsOf cX5_oddsOf 6 (some .long) [jI a1, jI a2, jI a3] S M (gj_qL fun x S' M' => r = x ∧ S = S' ∧ M = M') := by
  refine gj_Cof (by decide +kernel) (Nat.le_of_ble_eq_true rfl) ?_
  change gj_W G l 1 0 0 yX5_oddsOf cX5_oddsOf 6 (some .long) (gj_qL fun x S' M' => r = x ∧ S = S' ∧ M = M') 0 0 0 [(0, jI a1), (1, jI a2), (2, jI a3)] [] S M
  unfold F_X5_oddsOf at hF
  refine gj_lconst (q := 1) (z := 1) (gj_dk okX5_oddsOf 0 rfl) rfl (by decide) rfl ?_
  refine gj_lstore_n (q := 2) (gj_dk okX5_oddsOf 1 rfl) (by decide) rfl ?_
  refine gj_iconst (q := 3) (gj_dk okX5_oddsOf 2 rfl) (by decide) rfl ?_
  refine gj_istore (q := 5) (gj_dk okX5_oddsOf 3 rfl) (by decide) rfl ?_
  refine gj_sub [(0, jI a1), (1, jI a2), (2, jI a3), (3, jL 1), (5, jI 0)] ⟨rfl, rfl, rfl, rfl, rfl, trivial⟩ ?_
  exact t_L_X5_oddsOf_5 hst gj_fu a1 a2 a3 1 0 hF
def F_X5_rightAfter (a1 : Int) (a2 : Int) (a3 : Int) (M : gj_M) : Option (Int) :=
  gj_bnd (F_X5_oddsOf (f_at M 17 32 a1) a2 a3 M) (fun x1 => (some (gj_wl ((f_at M 16 32 a1) * x1))))
set_option maxHeartbeats 4000000 in
set_option maxRecDepth 20000 in
theorem t_X5_rightAfter (hst : gj_Stat S) (a1 a2 a3 : Int) {r : Int} (hF : F_X5_rightAfter a1 a2 a3 M = some r) : gj_C G l 2 0 0 yX5_rightAfter cX5_rightAfter 4 (some .long) [jR 14, jI a1, jI a2, jI a3] S M (gj_qL fun x S' M' => r = x ∧ S = S' ∧ M = M') := by
  refine gj_Cof (by decide +kernel) (Nat.le_of_ble_eq_true rfl) ?_
  change gj_W G l 2 0 0 yX5_rightAfter cX5_rightAfter 4 (some .long) (gj_qL fun x S' M' => r = x ∧ S = S' ∧ M = M') 0 0 0 [(0, jR 14), (1, jI a1), (2, jI a2), (3, jI a3)] [] S M
  unfold F_X5_rightAfter at hF
  refine gj_aload_n (q := 1) (gj_dk okX5_rightAfter 0 rfl) rfl rfl ?_
  refine gj_gR (q := 4) (j := 11) (gj_dk okX5_rightAfter 1 rfl) ff_X5_15 (sh14 hst) (by decide) rfl (rf14_11 hst) rfl ?_
  refine gj_iload_n (q := 5) (gj_dk okX5_rightAfter 2 rfl) rfl rfl ?_
  refine gj_callS (q := 8) [jR 16, jI a1] rfl (c_X7_at (sh16 hst) (by decide) (by decide) _) (gj_dk okX5_rightAfter 3 rfl) ml_X5_83 me_X7_at (gj_nm rfl) rfl (gj_kI fun x S2 M2 h => ?_)
  obtain ⟨e, eS, eM⟩ := h; subst eS; subst eM; subst e
  refine gj_i2l (q := 9) (gj_dk okX5_rightAfter 4 rfl) rfl ?_
  refine gj_aload_n (q := 10) (gj_dk okX5_rightAfter 5 rfl) rfl rfl ?_
  refine gj_gR (q := 13) (j := 12) (gj_dk okX5_rightAfter 6 rfl) ff_X5_18 (sh14 hst) (by decide) rfl (rf14_12 hst) rfl ?_
  refine gj_iload_n (q := 14) (gj_dk okX5_rightAfter 7 rfl) rfl rfl ?_
  refine gj_callS (q := 17) [jR 17, jI a1] rfl (c_X7_at (sh17 hst) (by decide) (by decide) _) (gj_dk okX5_rightAfter 8 rfl) ml_X5_83 me_X7_at (gj_nm rfl) rfl (gj_kI fun x S2 M2 h => ?_)
  obtain ⟨e, eS, eM⟩ := h; subst eS; subst eM; subst e
  refine gj_iload_n (q := 18) (gj_dk okX5_rightAfter 9 rfl) rfl rfl ?_
  refine gj_iload_n (q := 19) (gj_dk okX5_rightAfter 10 rfl) rfl rfl ?_
  obtain ⟨x1, hG, hF⟩ := gj_bndd hF
  refine gj_callS (q := 22) [jI (f_at M 17 32 a1), jI a2, jI a3] rfl (t_X5_oddsOf hst (f_at M 17 32 a1) a2 a3 hG) (gj_dk okX5_rightAfter 11 rfl) ml_X5_122 me_X5_oddsOf (gj_nm rfl) rfl (gj_kL fun y S2 M2 h => ?_)
  obtain ⟨e, eS, eM⟩ := h; subst eS; subst eM; subst e; clear hG
  refine gj_lmul (q := 23) (gj_dk okX5_rightAfter 12 rfl) rfl ?_
  cases hF
  exact gj_lret (gj_dk okX5_rightAfter 13 rfl) rfl ⟨_, rfl, rfl, rfl, rfl⟩
def F_X5_otherAfter (a1 : Int) (a2 : Int) (a3 : Int) (M : gj_M) : Option (Int) :=
  gj_bnd (F_X5_oddsOf (f_at M 18 32 a1) a2 a3 M) (fun x1 => (some (gj_wl ((gj_w (16 - (f_at M 16 32 a1))) * x1))))
set_option maxHeartbeats 4000000 in
set_option maxRecDepth 20000 in
theorem t_X5_otherAfter (hst : gj_Stat S) (a1 a2 a3 : Int) {r : Int} (hF : F_X5_otherAfter a1 a2 a3 M = some r) : gj_C G l 2 0 0 yX5_otherAfter cX5_otherAfter 4 (some .long) [jR 14, jI a1, jI a2, jI a3] S M (gj_qL fun x S' M' => r = x ∧ S = S' ∧ M = M') := by
  refine gj_Cof (by decide +kernel) (Nat.le_of_ble_eq_true rfl) ?_
  change gj_W G l 2 0 0 yX5_otherAfter cX5_otherAfter 4 (some .long) (gj_qL fun x S' M' => r = x ∧ S = S' ∧ M = M') 0 0 0 [(0, jR 14), (1, jI a1), (2, jI a2), (3, jI a3)] [] S M
  unfold F_X5_otherAfter at hF
  refine gj_bipush (q := 2) (gj_dk okX5_otherAfter 0 rfl) (by decide) rfl rfl ?_
  refine gj_aload_n (q := 3) (gj_dk okX5_otherAfter 1 rfl) rfl rfl ?_
  refine gj_gR (q := 6) (j := 11) (gj_dk okX5_otherAfter 2 rfl) ff_X5_15 (sh14 hst) (by decide) rfl (rf14_11 hst) rfl ?_
  refine gj_iload_n (q := 7) (gj_dk okX5_otherAfter 3 rfl) rfl rfl ?_
  refine gj_callS (q := 10) [jR 16, jI a1] rfl (c_X7_at (sh16 hst) (by decide) (by decide) _) (gj_dk okX5_otherAfter 4 rfl) ml_X5_83 me_X7_at (gj_nm rfl) rfl (gj_kI fun x S2 M2 h => ?_)
  obtain ⟨e, eS, eM⟩ := h; subst eS; subst eM; subst e
  refine gj_isub (q := 11) (gj_dk okX5_otherAfter 5 rfl) rfl ?_
  refine gj_i2l (q := 12) (gj_dk okX5_otherAfter 6 rfl) rfl ?_
  refine gj_aload_n (q := 13) (gj_dk okX5_otherAfter 7 rfl) rfl rfl ?_
  refine gj_gR (q := 16) (j := 13) (gj_dk okX5_otherAfter 8 rfl) ff_X5_21 (sh14 hst) (by decide) rfl (rf14_13 hst) rfl ?_
  refine gj_iload_n (q := 17) (gj_dk okX5_otherAfter 9 rfl) rfl rfl ?_
  refine gj_callS (q := 20) [jR 18, jI a1] rfl (c_X7_at (sh18 hst) (by decide) (by decide) _) (gj_dk okX5_otherAfter 10 rfl) ml_X5_83 me_X7_at (gj_nm rfl) rfl (gj_kI fun x S2 M2 h => ?_)
  obtain ⟨e, eS, eM⟩ := h; subst eS; subst eM; subst e
  refine gj_iload_n (q := 21) (gj_dk okX5_otherAfter 11 rfl) rfl rfl ?_
  refine gj_iload_n (q := 22) (gj_dk okX5_otherAfter 12 rfl) rfl rfl ?_
  obtain ⟨x1, hG, hF⟩ := gj_bndd hF
  refine gj_callS (q := 25) [jI (f_at M 18 32 a1), jI a2, jI a3] rfl (t_X5_oddsOf hst (f_at M 18 32 a1) a2 a3 hG) (gj_dk okX5_otherAfter 13 rfl) ml_X5_122 me_X5_oddsOf (gj_nm rfl) rfl (gj_kL fun y S2 M2 h => ?_)
  obtain ⟨e, eS, eM⟩ := h; subst eS; subst eM; subst e; clear hG
  refine gj_lmul (q := 26) (gj_dk okX5_otherAfter 14 rfl) rfl ?_
  cases hF
  exact gj_lret (gj_dk okX5_otherAfter 15 rfl) rfl ⟨_, rfl, rfl, rfl, rfl⟩
def F_X5_goodNext (a1 : Int) (a2 : Int) (a3 : Int) (M : gj_M) : Option (Int) :=
  gj_bnd (F_X5_rightAfter a1 a2 a3 M) (fun x1 => gj_bnd (F_X5_otherAfter a1 a2 a3 M) (fun x3 => gj_letI (gj_wl (16 * (gj_wl (x1 + x3)))) (fun x5 => (if 0 < x5 then gj_chk (¬ x5 = 0) ((some (gj_w (gj_wl (Int.tdiv (gj_wl (1000 * (gj_wl ((gj_wl (x1 * (f_at M 17 32 a1))) + (gj_wl (x3 * (f_at M 18 32 a1))))))) x5))))) else (some (0))))))
set_option maxHeartbeats 4000000 in
set_option maxRecDepth 20000 in
theorem t_X5_goodNext (hst : gj_Stat S) (a1 a2 a3 : Int) {r : Int} (hF : F_X5_goodNext a1 a2 a3 M = some r) : gj_C G l 3 0 0 yX5_goodNext cX5_goodNext 10 (some .int) [jR 14, jI a1, jI a2, jI a3] S M (gj_qI fun x S' M' => r = x ∧ S = S' ∧ M = M') := by
  refine gj_Cof (by decide +kernel) (Nat.le_of_ble_eq_true rfl) ?_
  change gj_W G l 3 0 0 yX5_goodNext cX5_goodNext 10 (some .int) (gj_qI fun x S' M' => r = x ∧ S = S' ∧ M = M') 0 0 0 [(0, jR 14), (1, jI a1), (2, jI a2), (3, jI a3)] [] S M
  unfold F_X5_goodNext at hF
  refine gj_aload_n (q := 1) (gj_dk okX5_goodNext 0 rfl) rfl rfl ?_
  refine gj_iload_n (q := 2) (gj_dk okX5_goodNext 1 rfl) rfl rfl ?_
  refine gj_iload_n (q := 3) (gj_dk okX5_goodNext 2 rfl) rfl rfl ?_
  refine gj_iload_n (q := 4) (gj_dk okX5_goodNext 3 rfl) rfl rfl ?_
  obtain ⟨x1, hG, hF⟩ := gj_bndd hF
  refine gj_callV (q := 7) (z := 14) (ci := 5) [jI a1, jI a2, jI a3] rfl (t_X5_rightAfter hst a1 a2 a3 hG) (gj_dk okX5_goodNext 4 rfl) ml_X5_74 me_X5_rightAfter (sh14 hst) rfl (gj_nm rfl) rfl (gj_kL fun y S2 M2 h => ?_)
  obtain ⟨e, eS, eM⟩ := h; subst eS; subst eM; subst e; clear hG
  refine gj_lstore (q := 9) (gj_dk okX5_goodNext 5 rfl) (by decide) rfl ?_
  refine gj_aload_n (q := 10) (gj_dk okX5_goodNext 6 rfl) rfl rfl ?_
  refine gj_iload_n (q := 11) (gj_dk okX5_goodNext 7 rfl) rfl rfl ?_
  refine gj_iload_n (q := 12) (gj_dk okX5_goodNext 8 rfl) rfl rfl ?_
  refine gj_iload_n (q := 13) (gj_dk okX5_goodNext 9 rfl) rfl rfl ?_
  obtain ⟨x3, hG, hF⟩ := gj_bndd hF
  refine gj_callV (q := 16) (z := 14) (ci := 5) [jI a1, jI a2, jI a3] rfl (t_X5_otherAfter hst a1 a2 a3 hG) (gj_dk okX5_goodNext 10 rfl) ml_X5_78 me_X5_otherAfter (sh14 hst) rfl (gj_nm rfl) rfl (gj_kL fun y S2 M2 h => ?_)
  obtain ⟨e, eS, eM⟩ := h; subst eS; subst eM; subst e; clear hG
  refine gj_lstore (q := 18) (gj_dk okX5_goodNext 11 rfl) (by decide) rfl ?_
  refine gj_ldc2 (q := 21) (z := 16) (gj_dk okX5_goodNext 12 rfl) kl_X5_120 (by decide) rfl ?_
  refine gj_lload (q := 23) (gj_dk okX5_goodNext 13 rfl) rfl rfl ?_
  refine gj_lload (q := 25) (gj_dk okX5_goodNext 14 rfl) rfl rfl ?_
  refine gj_ladd (q := 26) (gj_dk okX5_goodNext 15 rfl) rfl ?_
  refine gj_lmul (q := 27) (gj_dk okX5_goodNext 16 rfl) rfl ?_
  refine gj_stpL hF (fun x5 hF => ?_)
  refine gj_lstore (q := 29) (gj_dk okX5_goodNext 17 rfl) (by decide) rfl ?_
  refine gj_lload (q := 31) (gj_dk okX5_goodNext 18 rfl) rfl rfl ?_
  refine gj_lconst (q := 32) (z := 0) (gj_dk okX5_goodNext 19 rfl) rfl (by decide) rfl ?_
  refine gj_lcmp (q := 33) (gj_dk okX5_goodNext 20 rfl) rfl ?_
  refine gj_if_gt (q := 36) (tgt := 38) (gj_dk okX5_goodNext 21 rfl) (by decide) rfl (fun c33 => ?_) (fun c33 => ?_)
  · -- 38
    replace c33 := gj_cm_gt.mp c33
    replace hF := gj_ift c33 hF
    refine gj_ldc2 (q := 41) (z := 1000) (gj_dk okX5_goodNext 24 rfl) kl_X5_81 (by decide) rfl ?_
    refine gj_lload (q := 43) (gj_dk okX5_goodNext 25 rfl) rfl rfl ?_
    refine gj_aload_n (q := 44) (gj_dk okX5_goodNext 26 rfl) rfl rfl ?_
    refine gj_gR (q := 47) (j := 12) (gj_dk okX5_goodNext 27 rfl) ff_X5_18 (sh14 hst) (by decide) rfl (rf14_12 hst) rfl ?_
    refine gj_iload_n (q := 48) (gj_dk okX5_goodNext 28 rfl) rfl rfl ?_
    refine gj_callS (q := 51) [jR 17, jI a1] rfl (c_X7_at (sh17 hst) (by decide) (by decide) _) (gj_dk okX5_goodNext 29 rfl) ml_X5_83 me_X7_at (gj_nm rfl) rfl (gj_kI fun x S2 M2 h => ?_)
    obtain ⟨e, eS, eM⟩ := h; subst eS; subst eM; subst e
    refine gj_i2l (q := 52) (gj_dk okX5_goodNext 30 rfl) rfl ?_
    refine gj_lmul (q := 53) (gj_dk okX5_goodNext 31 rfl) rfl ?_
    refine gj_lload (q := 55) (gj_dk okX5_goodNext 32 rfl) rfl rfl ?_
    refine gj_aload_n (q := 56) (gj_dk okX5_goodNext 33 rfl) rfl rfl ?_
    refine gj_gR (q := 59) (j := 13) (gj_dk okX5_goodNext 34 rfl) ff_X5_21 (sh14 hst) (by decide) rfl (rf14_13 hst) rfl ?_
    refine gj_iload_n (q := 60) (gj_dk okX5_goodNext 35 rfl) rfl rfl ?_
    refine gj_callS (q := 63) [jR 18, jI a1] rfl (c_X7_at (sh18 hst) (by decide) (by decide) _) (gj_dk okX5_goodNext 36 rfl) ml_X5_83 me_X7_at (gj_nm rfl) rfl (gj_kI fun x S2 M2 h => ?_)
    obtain ⟨e, eS, eM⟩ := h; subst eS; subst eM; subst e
    refine gj_i2l (q := 64) (gj_dk okX5_goodNext 37 rfl) rfl ?_
    refine gj_lmul (q := 65) (gj_dk okX5_goodNext 38 rfl) rfl ?_
    refine gj_ladd (q := 66) (gj_dk okX5_goodNext 39 rfl) rfl ?_
    refine gj_lmul (q := 67) (gj_dk okX5_goodNext 40 rfl) rfl ?_
    refine gj_lload (q := 69) (gj_dk okX5_goodNext 41 rfl) rfl rfl ?_
    obtain ⟨b6, hF⟩ := gj_ckd hF
    refine gj_ldiv (q := 70) (gj_dk okX5_goodNext 42 rfl) b6 rfl ?_
    refine gj_l2i (q := 71) (gj_dk okX5_goodNext 43 rfl) rfl ?_
    cases hF
    exact gj_iret (gj_dk okX5_goodNext 44 rfl) rfl ⟨_, rfl, rfl, rfl, rfl⟩
  · -- 36
    replace c33 := gj_cm_gtn.mp c33
    replace hF := gj_iff c33 hF
    refine gj_iconst (q := 37) (gj_dk okX5_goodNext 22 rfl) (by decide) rfl ?_
    cases hF
    exact gj_iret (gj_dk okX5_goodNext 23 rfl) rfl ⟨_, rfl, rfl, rfl, rfl⟩
def J_X5_reckonShown_57 (rec2 : Int → gj_M → Option (gj_M)) (l1 : Int) (M : gj_M) : Option (gj_M) :=
  rec2 (gj_w (l1 + 1)) M
def J_X5_reckonShown_51 (rec2 : Int → gj_M → Option (gj_M)) (rec10 : Int → Int → gj_M → Option (gj_M)) (l1 l2 : Int) (M : gj_M) : Option (gj_M) :=
  rec10 l1 (gj_w (l2 + 1)) M
def B_X5_reckonShown_17 (rec2 : Int → gj_M → Option (gj_M)) (rec10 : Int → Int → gj_M → Option (gj_M)) (rec17 : Int → Int → Int → gj_M → Option (gj_M)) (l1 l2 l3 : Int) (M : gj_M) : Option (gj_M) :=
  (if 5 ≤ l3 then (J_X5_reckonShown_51 rec2 rec10 l1 l2 M) else gj_bnd (F_X5_goodNext l1 l2 l3 M) (fun x1 => gj_let (f_put M 20 800 (gj_w ((gj_w ((gj_w ((gj_w (l1 * 5)) + l2)) * 5)) + l3)) x1) (fun M3 => rec17 l1 l2 (gj_w (l3 + 1)) M3)))
def B_X5_reckonShown_10 (rec2 : Int → gj_M → Option (gj_M)) (rec10 : Int → Int → gj_M → Option (gj_M)) (l1 l2 : Int) (M : gj_M) : Option (gj_M) :=
  (if 5 ≤ l2 then (J_X5_reckonShown_57 rec2 l1 M) else (gj_it (fun _ _ _ _ => none) (B_X5_reckonShown_17 rec2 rec10) gj_fu l1 l2 0 M))
def B_X5_reckonShown_2 (rec2 : Int → gj_M → Option (gj_M)) (l1 : Int) (M : gj_M) : Option (gj_M) :=
  (if 32 ≤ l1 then (some (M)) else (gj_it (fun _ _ _ => none) (B_X5_reckonShown_10 rec2) gj_fu l1 0 M))
def F_X5_reckonShown (M : gj_M) : Option (gj_M) :=
  (gj_it (fun _ _ => none) (B_X5_reckonShown_2) gj_fu 0 M)
set_option maxHeartbeats 4000000 in
set_option maxRecDepth 20000 in
theorem t_J_X5_reckonShown_57 (hst : gj_Stat S) {r : gj_M} {rec2 : Int → gj_M → Option (gj_M)} (hrec2 : ∀ (l1 : Int) (M : gj_M), rec2 l1 M = some r → gj_W G l 4 0 0 yX5_reckonShown cX5_reckonShown 4 none (gj_qV fun S' M' => S = S' ∧ r = M') 0 0 2 [(0, jR 14), (1, jI l1)] [] S M) (l1 : Int) (M : gj_M) (hF : J_X5_reckonShown_57 rec2 l1 M = some r) : gj_W G l 4 0 0 yX5_reckonShown cX5_reckonShown 4 none (gj_qV fun S' M' => S = S' ∧ r = M') 0 0 57 [(0, jR 14), (1, jI l1)] [] S M := by
  unfold J_X5_reckonShown_57 at hF
  refine gj_iinc (q := 60) (v := gj_w (l1 + 1)) (gj_dk okX5_reckonShown 36 rfl) rfl (by decide) rfl rfl ?_
  refine gj_goto (tgt := 2) (gj_dk okX5_reckonShown 37 rfl) (by decide) ?_
  refine gj_sub [(0, jR 14), (1, jI (gj_w (l1 + 1)))] ⟨rfl, rfl, trivial⟩ ?_
  exact hrec2 (gj_w (l1 + 1)) M hF
set_option maxHeartbeats 4000000 in
set_option maxRecDepth 20000 in
theorem t_J_X5_reckonShown_51 (hst : gj_Stat S) {r : gj_M} {rec2 : Int → gj_M → Option (gj_M)} {rec10 : Int → Int → gj_M → Option (gj_M)} (hrec2 : ∀ (l1 : Int) (M : gj_M), rec2 l1 M = some r → gj_W G l 4 0 0 yX5_reckonShown cX5_reckonShown 4 none (gj_qV fun S' M' => S = S' ∧ r = M') 0 0 2 [(0, jR 14), (1, jI l1)] [] S M) (hrec10 : ∀ (l1 l2 : Int) (M : gj_M), rec10 l1 l2 M = some r → gj_W G l 4 0 0 yX5_reckonShown cX5_reckonShown 4 none (gj_qV fun S' M' => S = S' ∧ r = M') 0 0 10 [(0, jR 14), (1, jI l1), (2, jI l2)] [] S M) (l1 l2 : Int) (M : gj_M) (hF : J_X5_reckonShown_51 rec2 rec10 l1 l2 M = some r) : gj_W G l 4 0 0 yX5_reckonShown cX5_reckonShown 4 none (gj_qV fun S' M' => S = S' ∧ r = M') 0 0 51 [(0, jR 14), (1, jI l1), (2, jI l2)] [] S M := by
  unfold J_X5_reckonShown_51 at hF
  refine gj_iinc (q := 54) (v := gj_w (l2 + 1)) (gj_dk okX5_reckonShown 34 rfl) rfl (by decide) rfl rfl ?_
  refine gj_goto (tgt := 10) (gj_dk okX5_reckonShown 35 rfl) (by decide) ?_
  refine gj_sub [(0, jR 14), (1, jI l1), (2, jI (gj_w (l2 + 1)))] ⟨rfl, rfl, rfl, trivial⟩ ?_
  exact hrec10 l1 (gj_w (l2 + 1)) M hF
set_option maxHeartbeats 4000000 in
set_option maxRecDepth 20000 in
theorem t_B_X5_reckonShown_17 (hst : gj_Stat S) {r : gj_M} {rec2 : Int → gj_M → Option (gj_M)} {rec10 : Int → Int → gj_M → Option (gj_M)} {rec17 : Int → Int → Int → gj_M → Option (gj_M)} (hrec2 : ∀ (l1 : Int) (M : gj_M), rec2 l1 M = some r → gj_W G l 4 0 0 yX5_reckonShown cX5_reckonShown 4 none (gj_qV fun S' M' => S = S' ∧ r = M') 0 0 2 [(0, jR 14), (1, jI l1)] [] S M) (hrec10 : ∀ (l1 l2 : Int) (M : gj_M), rec10 l1 l2 M = some r → gj_W G l 4 0 0 yX5_reckonShown cX5_reckonShown 4 none (gj_qV fun S' M' => S = S' ∧ r = M') 0 0 10 [(0, jR 14), (1, jI l1), (2, jI l2)] [] S M) (hrec17 : ∀ (l1 l2 l3 : Int) (M : gj_M), rec17 l1 l2 l3 M = some r → gj_W G l 4 0 0 yX5_reckonShown cX5_reckonShown 4 none (gj_qV fun S' M' => S = S' ∧ r = M') 0 0 17 [(0, jR 14), (1, jI l1), (2, jI l2), (3, jI l3)] [] S M) (l1 l2 l3 : Int) (M : gj_M) (hF : B_X5_reckonShown_17 rec2 rec10 rec17 l1 l2 l3 M = some r) : gj_W G l 4 0 0 yX5_reckonShown cX5_reckonShown 4 none (gj_qV fun S' M' => S = S' ∧ r = M') 0 0 17 [(0, jR 14), (1, jI l1), (2, jI l2), (3, jI l3)] [] S M := by
  unfold B_X5_reckonShown_17 at hF
  refine gj_iload_n (q := 18) (gj_dk okX5_reckonShown 12 rfl) rfl rfl ?_
  refine gj_iconst (q := 19) (gj_dk okX5_reckonShown 13 rfl) (by decide) rfl ?_
  refine gj_icmp_ge (q := 22) (tgt := 51) (gj_dk okX5_reckonShown 14 rfl) (by decide) rfl (fun c19 => ?_) (fun c19 => ?_)
  · -- 51
    replace hF := gj_ift c19 hF
    refine gj_sub [(0, jR 14), (1, jI l1), (2, jI l2)] ⟨rfl, rfl, rfl, trivial⟩ ?_
    exact t_J_X5_reckonShown_51 hst hrec2 hrec10 l1 l2 M hF
  · -- 22
    replace hF := gj_iff c19 hF
    refine gj_aload_n (q := 23) (gj_dk okX5_reckonShown 15 rfl) rfl rfl ?_
    refine gj_gR (q := 26) (j := 15) (gj_dk okX5_reckonShown 16 rfl) ff_X5_27 (sh14 hst) (by decide) rfl (rf14_15 hst) rfl ?_
    refine gj_iload_n (q := 27) (gj_dk okX5_reckonShown 17 rfl) rfl rfl ?_
    refine gj_iconst (q := 28) (gj_dk okX5_reckonShown 18 rfl) (by decide) rfl ?_
    refine gj_imul (q := 29) (gj_dk okX5_reckonShown 19 rfl) rfl ?_
    refine gj_iload_n (q := 30) (gj_dk okX5_reckonShown 20 rfl) rfl rfl ?_
    refine gj_iadd (q := 31) (gj_dk okX5_reckonShown 21 rfl) rfl ?_
    refine gj_iconst (q := 32) (gj_dk okX5_reckonShown 22 rfl) (by decide) rfl ?_
    refine gj_imul (q := 33) (gj_dk okX5_reckonShown 23 rfl) rfl ?_
    refine gj_iload_n (q := 34) (gj_dk okX5_reckonShown 24 rfl) rfl rfl ?_
    refine gj_iadd (q := 35) (gj_dk okX5_reckonShown 25 rfl) rfl ?_
    refine gj_aload_n (q := 36) (gj_dk okX5_reckonShown 26 rfl) rfl rfl ?_
    refine gj_iload_n (q := 37) (gj_dk okX5_reckonShown 27 rfl) rfl rfl ?_
    refine gj_iload_n (q := 38) (gj_dk okX5_reckonShown 28 rfl) rfl rfl ?_
    refine gj_iload_n (q := 39) (gj_dk okX5_reckonShown 29 rfl) rfl rfl ?_
    obtain ⟨x1, hG, hF⟩ := gj_bndd hF
    refine gj_callV (q := 42) (z := 14) (ci := 5) [jI l1, jI l2, jI l3] rfl (t_X5_goodNext hst l1 l2 l3 hG) (gj_dk okX5_reckonShown 30 rfl) ml_X5_113 me_X5_goodNext (sh14 hst) rfl (gj_nm rfl) rfl (gj_kI fun y S2 M2 h => ?_)
    obtain ⟨e, eS, eM⟩ := h; subst eS; subst eM; subst e; clear hG
    refine gj_callS (q := 45) [jR 20, jI (gj_w ((gj_w ((gj_w ((gj_w (l1 * 5)) + l2)) * 5)) + l3)), jI x1] rfl (c_X7_put (sh20 hst) (by decide) (by decide) _ _) (gj_dk okX5_reckonShown 31 rfl) ml_X5_116 me_X7_put (gj_nm rfl) rfl (gj_kV fun S2 M2 h => ?_)
    obtain ⟨eS, eM⟩ := h; subst eS; subst eM
    refine gj_stp hF (fun M3 hF => ?_)
    refine gj_iinc (q := 48) (v := gj_w (l3 + 1)) (gj_dk okX5_reckonShown 32 rfl) rfl (by decide) rfl rfl ?_
    refine gj_goto (tgt := 17) (gj_dk okX5_reckonShown 33 rfl) (by decide) ?_
    refine gj_sub [(0, jR 14), (1, jI l1), (2, jI l2), (3, jI (gj_w (l3 + 1)))] ⟨rfl, rfl, rfl, rfl, trivial⟩ ?_
    exact hrec17 l1 l2 (gj_w (l3 + 1)) M3 hF
theorem t_L_X5_reckonShown_17 (hst : gj_Stat S) {r : gj_M} {rec2 : Int → gj_M → Option (gj_M)} {rec10 : Int → Int → gj_M → Option (gj_M)} (hrec2 : ∀ (l1 : Int) (M : gj_M), rec2 l1 M = some r → gj_W G l 4 0 0 yX5_reckonShown cX5_reckonShown 4 none (gj_qV fun S' M' => S = S' ∧ r = M') 0 0 2 [(0, jR 14), (1, jI l1)] [] S M) (hrec10 : ∀ (l1 l2 : Int) (M : gj_M), rec10 l1 l2 M = some r → gj_W G l 4 0 0 yX5_reckonShown cX5_reckonShown 4 none (gj_qV fun S' M' => S = S' ∧ r = M') 0 0 10 [(0, jR 14), (1, jI l1), (2, jI l2)] [] S M) : ∀ (m : Nat) (l1 : Int) (l2 : Int) (l3 : Int) (M : gj_M), gj_it (fun _ _ _ _ => none) (B_X5_reckonShown_17 rec2 rec10) m l1 l2 l3 M = some r → gj_W G l 4 0 0 yX5_reckonShown cX5_reckonShown 4 none (gj_qV fun S' M' => S = S' ∧ r = M') 0 0 17 [(0, jR 14), (1, jI l1), (2, jI l2), (3, jI l3)] [] S M := by
  intro m
  induction m with
  | zero => intro l1 l2 l3 M hF; cases (show (none : Option (gj_M)) = some r from hF)
  | succ m ih => intro l1 l2 l3 M hF; exact t_B_X5_reckonShown_17 hst hrec2 hrec10 (fun l1 l2 l3 M h => ih l1 l2 l3 M h) l1 l2 l3 M hF
set_option maxHeartbeats 4000000 in
set_option maxRecDepth 20000 in
theorem t_B_X5_reckonShown_10 (hst : gj_Stat S) {r : gj_M} {rec2 : Int → gj_M → Option (gj_M)} {rec10 : Int → Int → gj_M → Option (gj_M)} (hrec2 : ∀ (l1 : Int) (M : gj_M), rec2 l1 M = some r → gj_W G l 4 0 0 yX5_reckonShown cX5_reckonShown 4 none (gj_qV fun S' M' => S = S' ∧ r = M') 0 0 2 [(0, jR 14), (1, jI l1)] [] S M) (hrec10 : ∀ (l1 l2 : Int) (M : gj_M), rec10 l1 l2 M = some r → gj_W G l 4 0 0 yX5_reckonShown cX5_reckonShown 4 none (gj_qV fun S' M' => S = S' ∧ r = M') 0 0 10 [(0, jR 14), (1, jI l1), (2, jI l2)] [] S M) (l1 l2 : Int) (M : gj_M) (hF : B_X5_reckonShown_10 rec2 rec10 l1 l2 M = some r) : gj_W G l 4 0 0 yX5_reckonShown cX5_reckonShown 4 none (gj_qV fun S' M' => S = S' ∧ r = M') 0 0 10 [(0, jR 14), (1, jI l1), (2, jI l2)] [] S M := by
  unfold B_X5_reckonShown_10 at hF
  refine gj_iload_n (q := 11) (gj_dk okX5_reckonShown 7 rfl) rfl rfl ?_
  refine gj_iconst (q := 12) (gj_dk okX5_reckonShown 8 rfl) (by decide) rfl ?_
  refine gj_icmp_ge (q := 15) (tgt := 57) (gj_dk okX5_reckonShown 9 rfl) (by decide) rfl (fun c12 => ?_) (fun c12 => ?_)
  · -- 57
    replace hF := gj_ift c12 hF
    refine gj_sub [(0, jR 14), (1, jI l1)] ⟨rfl, rfl, trivial⟩ ?_
    exact t_J_X5_reckonShown_57 hst hrec2 l1 M hF
  · -- 15
    replace hF := gj_iff c12 hF
    refine gj_iconst (q := 16) (gj_dk okX5_reckonShown 10 rfl) (by decide) rfl ?_
    refine gj_istore_n (q := 17) (gj_dk okX5_reckonShown 11 rfl) (by decide) rfl ?_
    refine gj_sub [(0, jR 14), (1, jI l1), (2, jI l2), (3, jI 0)] ⟨rfl, rfl, rfl, rfl, trivial⟩ ?_
    exact t_L_X5_reckonShown_17 hst hrec2 hrec10 gj_fu l1 l2 0 M hF
theorem t_L_X5_reckonShown_10 (hst : gj_Stat S) {r : gj_M} {rec2 : Int → gj_M → Option (gj_M)} (hrec2 : ∀ (l1 : Int) (M : gj_M), rec2 l1 M = some r → gj_W G l 4 0 0 yX5_reckonShown cX5_reckonShown 4 none (gj_qV fun S' M' => S = S' ∧ r = M') 0 0 2 [(0, jR 14), (1, jI l1)] [] S M) : ∀ (m : Nat) (l1 : Int) (l2 : Int) (M : gj_M), gj_it (fun _ _ _ => none) (B_X5_reckonShown_10 rec2) m l1 l2 M = some r → gj_W G l 4 0 0 yX5_reckonShown cX5_reckonShown 4 none (gj_qV fun S' M' => S = S' ∧ r = M') 0 0 10 [(0, jR 14), (1, jI l1), (2, jI l2)] [] S M := by
  intro m
  induction m with
  | zero => intro l1 l2 M hF; cases (show (none : Option (gj_M)) = some r from hF)
  | succ m ih => intro l1 l2 M hF; exact t_B_X5_reckonShown_10 hst hrec2 (fun l1 l2 M h => ih l1 l2 M h) l1 l2 M hF
set_option maxHeartbeats 4000000 in
set_option maxRecDepth 20000 in
theorem t_B_X5_reckonShown_2 (hst : gj_Stat S) {r : gj_M} {rec2 : Int → gj_M → Option (gj_M)} (hrec2 : ∀ (l1 : Int) (M : gj_M), rec2 l1 M = some r → gj_W G l 4 0 0 yX5_reckonShown cX5_reckonShown 4 none (gj_qV fun S' M' => S = S' ∧ r = M') 0 0 2 [(0, jR 14), (1, jI l1)] [] S M) (l1 : Int) (M : gj_M) (hF : B_X5_reckonShown_2 rec2 l1 M = some r) : gj_W G l 4 0 0 yX5_reckonShown cX5_reckonShown 4 none (gj_qV fun S' M' => S = S' ∧ r = M') 0 0 2 [(0, jR 14), (1, jI l1)] [] S M := by
  unfold B_X5_reckonShown_2 at hF
  refine gj_iload_n (q := 3) (gj_dk okX5_reckonShown 2 rfl) rfl rfl ?_
  refine gj_bipush (q := 5) (gj_dk okX5_reckonShown 3 rfl) (by decide) rfl rfl ?_
  refine gj_icmp_ge (q := 8) (tgt := 63) (gj_dk okX5_reckonShown 4 rfl) (by decide) rfl (fun c5 => ?_) (fun c5 => ?_)
  · -- 63
    replace hF := gj_ift c5 hF
    cases hF
    exact gj_vret (gj_dk okX5_reckonShown 38 rfl) rfl ⟨rfl, rfl, rfl⟩
  · -- 8
    replace hF := gj_iff c5 hF
    refine gj_iconst (q := 9) (gj_dk okX5_reckonShown 5 rfl) (by decide) rfl ?_
    refine gj_istore_n (q := 10) (gj_dk okX5_reckonShown 6 rfl) (by decide) rfl ?_
    refine gj_sub [(0, jR 14), (1, jI l1), (2, jI 0)] ⟨rfl, rfl, rfl, trivial⟩ ?_
    exact t_L_X5_reckonShown_10 hst hrec2 gj_fu l1 0 M hF
theorem t_L_X5_reckonShown_2 (hst : gj_Stat S) {r : gj_M} : ∀ (m : Nat) (l1 : Int) (M : gj_M), gj_it (fun _ _ => none) (B_X5_reckonShown_2) m l1 M = some r → gj_W G l 4 0 0 yX5_reckonShown cX5_reckonShown 4 none (gj_qV fun S' M' => S = S' ∧ r = M') 0 0 2 [(0, jR 14), (1, jI l1)] [] S M := by
  intro m
  induction m with
  | zero => intro l1 M hF; cases (show (none : Option (gj_M)) = some r from hF)
  | succ m ih => intro l1 M hF; exact t_B_X5_reckonShown_2 hst (fun l1 M h => ih l1 M h) l1 M hF
set_option maxHeartbeats 4000000 in
set_option maxRecDepth 20000 in
theorem t_X5_reckonShown (hst : gj_Stat S) {r : gj_M} (hF : F_X5_reckonShown M = some r) : gj_C G l 4 0 0 yX5_reckonShown cX5_reckonShown 4 none [jR 14] S M (gj_qV fun S' M' => S = S' ∧ r = M') := by
  refine gj_Cof (by decide +kernel) (Nat.le_of_ble_eq_true rfl) ?_
  change gj_W G l 4 0 0 yX5_reckonShown cX5_reckonShown 4 none (gj_qV fun S' M' => S = S' ∧ r = M') 0 0 0 [(0, jR 14)] [] S M
  unfold F_X5_reckonShown at hF
  refine gj_iconst (q := 1) (gj_dk okX5_reckonShown 0 rfl) (by decide) rfl ?_
  refine gj_istore_n (q := 2) (gj_dk okX5_reckonShown 1 rfl) (by decide) rfl ?_
  refine gj_sub [(0, jR 14), (1, jI 0)] ⟨rfl, rfl, trivial⟩ ?_
  exact t_L_X5_reckonShown_2 hst gj_fu 0 M hF
def F_X5_take (M : gj_M) : Option (gj_M) :=
  gj_let (gj_up M 14 0 (M 3 0)) (fun M1 => gj_let (gj_up M1 14 1 (M1 3 1)) (fun M2 => gj_let (gj_up M2 14 2 (M2 3 2)) (fun M3 => gj_let (gj_up M3 14 3 (M3 3 3)) (fun M4 => gj_let (gj_up M4 14 4 (M4 3 4)) (fun M5 => gj_let (gj_up M5 14 5 (M5 3 5)) (fun M6 => gj_let (gj_up M6 14 6 (M6 3 6)) (fun M7 => gj_let (gj_up M7 14 7 (M7 3 7)) (fun M8 => gj_let (gj_up M8 14 8 (M8 3 8)) (fun M9 => gj_let (gj_up M9 14 9 (M9 3 9)) (fun M10 => gj_let (f_copy M10 4 8 15 8) (fun M11 => gj_let (f_copy M11 5 32 16 32) (fun M12 => gj_let (f_copy M12 6 32 17 32) (fun M13 => gj_let (f_copy M13 7 32 18 32) (fun M14 => gj_let (f_copy M14 8 16 19 16) (fun M15 => gj_bnd (F_X5_reckonShown M15) (fun M17 => (some (M17))))))))))))))))))
set_option maxHeartbeats 4000000 in
set_option maxRecDepth 20000 in
theorem t_X5_take (hst : gj_Stat S) {r : gj_M} (hF : F_X5_take M = some r) : gj_C G l 5 0 0 yX5_take cX5_take 2 none [jR 14, jR 3] S M (gj_qV fun S' M' => S = S' ∧ r = M') := by
  refine gj_Cof (by decide +kernel) (Nat.le_of_ble_eq_true rfl) ?_
  change gj_W G l 5 0 0 yX5_take cX5_take 2 none (gj_qV fun S' M' => S = S' ∧ r = M') 0 0 0 [(0, jR 14), (1, jR 3)] [] S M
  unfold F_X5_take at hF
  refine gj_aload_n (q := 1) (gj_dk okX5_take 0 rfl) rfl rfl ?_
  refine gj_ifnonnull (q := 4) (tgt := 5) (gj_dk okX5_take 1 rfl) (by decide) rfl (fun _ => ?_) (fun cc => absurd cc (by decide))
  refine gj_aload_n (q := 6) (gj_dk okX5_take 3 rfl) rfl rfl ?_
  refine gj_aload_n (q := 7) (gj_dk okX5_take 4 rfl) rfl rfl ?_
  refine gj_gI (q := 10) (j := 0) (gj_dk okX5_take 5 rfl) ff_X5_30 (sh3 hst) (by decide) rfl rfl ?_
  refine gj_pfI (q := 13) (j := 0) (gj_dk okX5_take 6 rfl) ff_X5_30 (sh14 hst) (by decide) rfl rfl ?_
  refine gj_stp hF (fun M1 hF => ?_)
  refine gj_aload_n (q := 14) (gj_dk okX5_take 7 rfl) rfl rfl ?_
  refine gj_aload_n (q := 15) (gj_dk okX5_take 8 rfl) rfl rfl ?_
  refine gj_gI (q := 18) (j := 1) (gj_dk okX5_take 9 rfl) ff_X5_34 (sh3 hst) (by decide) rfl rfl ?_
  refine gj_pfI (q := 21) (j := 1) (gj_dk okX5_take 10 rfl) ff_X5_34 (sh14 hst) (by decide) rfl rfl ?_
  refine gj_stp hF (fun M2 hF => ?_)
  refine gj_aload_n (q := 22) (gj_dk okX5_take 11 rfl) rfl rfl ?_
  refine gj_aload_n (q := 23) (gj_dk okX5_take 12 rfl) rfl rfl ?_
  refine gj_gI (q := 26) (j := 2) (gj_dk okX5_take 13 rfl) ff_X5_37 (sh3 hst) (by decide) rfl rfl ?_
  refine gj_pfI (q := 29) (j := 2) (gj_dk okX5_take 14 rfl) ff_X5_37 (sh14 hst) (by decide) rfl rfl ?_
  refine gj_stp hF (fun M3 hF => ?_)
  refine gj_aload_n (q := 30) (gj_dk okX5_take 15 rfl) rfl rfl ?_
  refine gj_aload_n (q := 31) (gj_dk okX5_take 16 rfl) rfl rfl ?_
  refine gj_gI (q := 34) (j := 3) (gj_dk okX5_take 17 rfl) ff_X5_40 (sh3 hst) (by decide) rfl rfl ?_
  refine gj_pfI (q := 37) (j := 3) (gj_dk okX5_take 18 rfl) ff_X5_40 (sh14 hst) (by decide) rfl rfl ?_
  refine gj_stp hF (fun M4 hF => ?_)
  refine gj_aload_n (q := 38) (gj_dk okX5_take 19 rfl) rfl rfl ?_
  refine gj_aload_n (q := 39) (gj_dk okX5_take 20 rfl) rfl rfl ?_
  refine gj_gI (q := 42) (j := 4) (gj_dk okX5_take 21 rfl) ff_X5_43 (sh3 hst) (by decide) rfl rfl ?_
  refine gj_pfI (q := 45) (j := 4) (gj_dk okX5_take 22 rfl) ff_X5_43 (sh14 hst) (by decide) rfl rfl ?_
  refine gj_stp hF (fun M5 hF => ?_)
  refine gj_aload_n (q := 46) (gj_dk okX5_take 23 rfl) rfl rfl ?_
  refine gj_aload_n (q := 47) (gj_dk okX5_take 24 rfl) rfl rfl ?_
  refine gj_gI (q := 50) (j := 5) (gj_dk okX5_take 25 rfl) ff_X5_46 (sh3 hst) (by decide) rfl rfl ?_
  refine gj_pfI (q := 53) (j := 5) (gj_dk okX5_take 26 rfl) ff_X5_46 (sh14 hst) (by decide) rfl rfl ?_
  refine gj_stp hF (fun M6 hF => ?_)
  refine gj_aload_n (q := 54) (gj_dk okX5_take 27 rfl) rfl rfl ?_
  refine gj_aload_n (q := 55) (gj_dk okX5_take 28 rfl) rfl rfl ?_
  refine gj_gI (q := 58) (j := 6) (gj_dk okX5_take 29 rfl) ff_X5_49 (sh3 hst) (by decide) rfl rfl ?_
  refine gj_pfI (q := 61) (j := 6) (gj_dk okX5_take 30 rfl) ff_X5_49 (sh14 hst) (by decide) rfl rfl ?_
  refine gj_stp hF (fun M7 hF => ?_)
  refine gj_aload_n (q := 62) (gj_dk okX5_take 31 rfl) rfl rfl ?_
  refine gj_aload_n (q := 63) (gj_dk okX5_take 32 rfl) rfl rfl ?_
  refine gj_gI (q := 66) (j := 7) (gj_dk okX5_take 33 rfl) ff_X5_52 (sh3 hst) (by decide) rfl rfl ?_
  refine gj_pfI (q := 69) (j := 7) (gj_dk okX5_take 34 rfl) ff_X5_52 (sh14 hst) (by decide) rfl rfl ?_
  refine gj_stp hF (fun M8 hF => ?_)
  refine gj_aload_n (q := 70) (gj_dk okX5_take 35 rfl) rfl rfl ?_
  refine gj_aload_n (q := 71) (gj_dk okX5_take 36 rfl) rfl rfl ?_
  refine gj_gI (q := 74) (j := 8) (gj_dk okX5_take 37 rfl) ff_X5_55 (sh3 hst) (by decide) rfl rfl ?_
  refine gj_pfI (q := 77) (j := 8) (gj_dk okX5_take 38 rfl) ff_X5_55 (sh14 hst) (by decide) rfl rfl ?_
  refine gj_stp hF (fun M9 hF => ?_)
  refine gj_aload_n (q := 78) (gj_dk okX5_take 39 rfl) rfl rfl ?_
  refine gj_aload_n (q := 79) (gj_dk okX5_take 40 rfl) rfl rfl ?_
  refine gj_gI (q := 82) (j := 9) (gj_dk okX5_take 41 rfl) ff_X5_58 (sh3 hst) (by decide) rfl rfl ?_
  refine gj_pfI (q := 85) (j := 9) (gj_dk okX5_take 42 rfl) ff_X5_58 (sh14 hst) (by decide) rfl rfl ?_
  refine gj_stp hF (fun M10 hF => ?_)
  refine gj_aload_n (q := 86) (gj_dk okX5_take 43 rfl) rfl rfl ?_
  refine gj_gR (q := 89) (j := 10) (gj_dk okX5_take 44 rfl) ff_X5_9 (sh3 hst) (by decide) rfl (rf3_10 hst) rfl ?_
  refine gj_aload_n (q := 90) (gj_dk okX5_take 45 rfl) rfl rfl ?_
  refine gj_gR (q := 93) (j := 10) (gj_dk okX5_take 46 rfl) ff_X5_9 (sh14 hst) (by decide) rfl (rf14_10 hst) rfl ?_
  refine gj_callS (q := 96) [jR 4, jR 15] rfl (c_X7_copy (sh4 hst) (by decide) (by decide) (sh15 hst) (by decide) (by decide) (by decide)) (gj_dk okX5_take 47 rfl) ml_X5_67 me_X7_copy (gj_nm rfl) rfl (gj_kV fun S2 M2 h => ?_)
  obtain ⟨eS, eM⟩ := h; subst eS; subst eM
  refine gj_stp hF (fun M11 hF => ?_)
  refine gj_aload_n (q := 97) (gj_dk okX5_take 48 rfl) rfl rfl ?_
  refine gj_gR (q := 100) (j := 11) (gj_dk okX5_take 49 rfl) ff_X5_15 (sh3 hst) (by decide) rfl (rf3_11 hst) rfl ?_
  refine gj_aload_n (q := 101) (gj_dk okX5_take 50 rfl) rfl rfl ?_
  refine gj_gR (q := 104) (j := 11) (gj_dk okX5_take 51 rfl) ff_X5_15 (sh14 hst) (by decide) rfl (rf14_11 hst) rfl ?_
  refine gj_callS (q := 107) [jR 5, jR 16] rfl (c_X7_copy (sh5 hst) (by decide) (by decide) (sh16 hst) (by decide) (by decide) (by decide)) (gj_dk okX5_take 52 rfl) ml_X5_67 me_X7_copy (gj_nm rfl) rfl (gj_kV fun S2 M2 h => ?_)
  obtain ⟨eS, eM⟩ := h; subst eS; subst eM
  refine gj_stp hF (fun M12 hF => ?_)
  refine gj_aload_n (q := 108) (gj_dk okX5_take 53 rfl) rfl rfl ?_
  refine gj_gR (q := 111) (j := 12) (gj_dk okX5_take 54 rfl) ff_X5_18 (sh3 hst) (by decide) rfl (rf3_12 hst) rfl ?_
  refine gj_aload_n (q := 112) (gj_dk okX5_take 55 rfl) rfl rfl ?_
  refine gj_gR (q := 115) (j := 12) (gj_dk okX5_take 56 rfl) ff_X5_18 (sh14 hst) (by decide) rfl (rf14_12 hst) rfl ?_
  refine gj_callS (q := 118) [jR 6, jR 17] rfl (c_X7_copy (sh6 hst) (by decide) (by decide) (sh17 hst) (by decide) (by decide) (by decide)) (gj_dk okX5_take 57 rfl) ml_X5_67 me_X7_copy (gj_nm rfl) rfl (gj_kV fun S2 M2 h => ?_)
  obtain ⟨eS, eM⟩ := h; subst eS; subst eM
  refine gj_stp hF (fun M13 hF => ?_)
  refine gj_aload_n (q := 119) (gj_dk okX5_take 58 rfl) rfl rfl ?_
  refine gj_gR (q := 122) (j := 13) (gj_dk okX5_take 59 rfl) ff_X5_21 (sh3 hst) (by decide) rfl (rf3_13 hst) rfl ?_
  refine gj_aload_n (q := 123) (gj_dk okX5_take 60 rfl) rfl rfl ?_
  refine gj_gR (q := 126) (j := 13) (gj_dk okX5_take 61 rfl) ff_X5_21 (sh14 hst) (by decide) rfl (rf14_13 hst) rfl ?_
  refine gj_callS (q := 129) [jR 7, jR 18] rfl (c_X7_copy (sh7 hst) (by decide) (by decide) (sh18 hst) (by decide) (by decide) (by decide)) (gj_dk okX5_take 62 rfl) ml_X5_67 me_X7_copy (gj_nm rfl) rfl (gj_kV fun S2 M2 h => ?_)
  obtain ⟨eS, eM⟩ := h; subst eS; subst eM
  refine gj_stp hF (fun M14 hF => ?_)
  refine gj_aload_n (q := 130) (gj_dk okX5_take 63 rfl) rfl rfl ?_
  refine gj_gR (q := 133) (j := 14) (gj_dk okX5_take 64 rfl) ff_X5_24 (sh3 hst) (by decide) rfl (rf3_14 hst) rfl ?_
  refine gj_aload_n (q := 134) (gj_dk okX5_take 65 rfl) rfl rfl ?_
  refine gj_gR (q := 137) (j := 14) (gj_dk okX5_take 66 rfl) ff_X5_24 (sh14 hst) (by decide) rfl (rf14_14 hst) rfl ?_
  refine gj_callS (q := 140) [jR 8, jR 19] rfl (c_X7_copy (sh8 hst) (by decide) (by decide) (sh19 hst) (by decide) (by decide) (by decide)) (gj_dk okX5_take 67 rfl) ml_X5_67 me_X7_copy (gj_nm rfl) rfl (gj_kV fun S2 M2 h => ?_)
  obtain ⟨eS, eM⟩ := h; subst eS; subst eM
  refine gj_stp hF (fun M15 hF => ?_)
  refine gj_aload_n (q := 141) (gj_dk okX5_take 68 rfl) rfl rfl ?_
  obtain ⟨M17, hG, hF⟩ := gj_bndd hF
  refine gj_callV (q := 144) (z := 14) (ci := 5) [] rfl (t_X5_reckonShown hst  hG) (gj_dk okX5_take 69 rfl) ml_X5_71 me_X5_reckonShown (sh14 hst) rfl (gj_nm rfl) rfl (gj_kV fun S2 M2 h => ?_)
  obtain ⟨eS, eM⟩ := h; subst eS; subst eM; clear hG
  cases hF
  exact gj_vret (gj_dk okX5_take 70 rfl) rfl ⟨rfl, rfl, rfl⟩
def B_X0_spread_12 (rec12 : Int → Int → gj_M → Option (Int × gj_M)) (l2 l3 : Int) (M : gj_M) : Option (Int × gj_M) :=
  (if l3 < 0 then (some ((1, M))) else (if Int.tmod l2 5 = 0 then rec12 (gj_w (Int.tdiv l2 5)) (gj_w (l3 + (-1))) M else gj_letI (gj_w ((gj_w (4 + (Int.tmod l2 5))) - 1)) (fun x2 => gj_letI (f_X5_isPerson_14 l3 M) (fun x3 => (if x3 = 0 then (some ((0, M))) else gj_letI (f_X5_isPerson_14 x2 M) (fun x4 => (if x4 = 0 then (some ((0, M))) else (if f_at M 42 8 x2 = -1 then gj_let (f_put M 42 8 l3 x2) (fun M5 => gj_let (f_put M5 42 8 x2 l3) (fun M6 => rec12 (gj_w (Int.tdiv l2 5)) (gj_w (l3 + (-1))) M6)) else (some ((0, M)))))))))))
def F_X0_spread (a1 : Int) (M : gj_M) : Option (Int × gj_M) :=
  gj_let (f_fill M 42 8 (-1)) (fun M1 => (gj_it (fun _ _ _ => none) (B_X0_spread_12) gj_fu a1 3 M1))
set_option maxHeartbeats 4000000 in
set_option maxRecDepth 20000 in
theorem t_B_X0_spread_12 (hst : gj_Stat S) {r : Int × gj_M} {rec12 : Int → Int → gj_M → Option (Int × gj_M)} (hrec12 : ∀ (l2 l3 : Int) (M : gj_M), rec12 l2 l3 M = some r → gj_W G l 2 0 0 yX0_spread cX0_spread 6 (some .boolean) (gj_qI fun x S' M' => (x = 0 ∨ x = 1) ∧ r.1 = x ∧ S = S' ∧ r.2 = M') 0 0 12 [(0, jR 41), (2, jI l2), (3, jI l3)] [] S M) (l2 l3 : Int) (M : gj_M) (hF : B_X0_spread_12 rec12 l2 l3 M = some r) : gj_W G l 2 0 0 yX0_spread cX0_spread 6 (some .boolean) (gj_qI fun x S' M' => (x = 0 ∨ x = 1) ∧ r.1 = x ∧ S = S' ∧ r.2 = M') 0 0 12 [(0, jR 41), (2, jI l2), (3, jI l3)] [] S M := by
  unfold B_X0_spread_12 at hF
  refine gj_iload_n (q := 13) (gj_dk okX0_spread 8 rfl) rfl rfl ?_
  refine gj_if_lt (q := 16) (tgt := 105) (gj_dk okX0_spread 9 rfl) (by decide) rfl (fun c13 => ?_) (fun c13 => ?_)
  · -- 105
    replace hF := gj_ift c13 hF
    refine gj_iconst (q := 106) (gj_dk okX0_spread 57 rfl) (by decide) rfl ?_
    cases hF
    exact gj_zret (gj_dk okX0_spread 58 rfl) rfl (by decide) ⟨_, rfl, (by decide), rfl, rfl, rfl⟩
  · -- 16
    replace hF := gj_iff c13 hF
    refine gj_iload_n (q := 17) (gj_dk okX0_spread 10 rfl) rfl rfl ?_
    refine gj_iconst (q := 18) (gj_dk okX0_spread 11 rfl) (by decide) rfl ?_
    refine gj_irem (q := 19) (gj_dk okX0_spread 12 rfl) (by decide) rfl ?_
    refine gj_istore (q := 21) (gj_dk okX0_spread 13 rfl) (by decide) rfl ?_
    refine gj_iload_n (q := 22) (gj_dk okX0_spread 14 rfl) rfl rfl ?_
    refine gj_iconst (q := 23) (gj_dk okX0_spread 15 rfl) (by decide) rfl ?_
    refine gj_idiv (q := 24) (gj_dk okX0_spread 16 rfl) (by decide) rfl ?_
    refine gj_istore_n (q := 25) (gj_dk okX0_spread 17 rfl) (by decide) rfl ?_
    refine gj_iload (q := 27) (gj_dk okX0_spread 18 rfl) rfl rfl ?_
    refine gj_if_ne (q := 30) (tgt := 33) (gj_dk okX0_spread 19 rfl) (by decide) rfl (fun c27 => ?_) (fun c27 => ?_)
    · -- 33
      replace hF := gj_iff c27 hF
      refine gj_iconst (q := 34) (gj_dk okX0_spread 21 rfl) (by decide) rfl ?_
      refine gj_iload (q := 36) (gj_dk okX0_spread 22 rfl) rfl rfl ?_
      refine gj_iadd (q := 37) (gj_dk okX0_spread 23 rfl) rfl ?_
      refine gj_iconst (q := 38) (gj_dk okX0_spread 24 rfl) (by decide) rfl ?_
      refine gj_isub (q := 39) (gj_dk okX0_spread 25 rfl) rfl ?_
      refine gj_stpI hF (fun x2 hF => ?_)
      refine gj_istore (q := 41) (gj_dk okX0_spread 26 rfl) (by decide) rfl ?_
      refine gj_aload_n (q := 42) (gj_dk okX0_spread 27 rfl) rfl rfl ?_
      refine gj_gR (q := 45) (j := 0) (gj_dk okX0_spread 28 rfl) ff_X0_18 (sh41 hst) (by decide) rfl (rf41_0 hst) rfl ?_
      refine gj_iload_n (q := 46) (gj_dk okX0_spread 29 rfl) rfl rfl ?_
      refine gj_callV (q := 49) (z := 14) (ci := 5) [jI l3] rfl (t_X5_isPerson_14 hst l3 rfl) (gj_dk okX0_spread 30 rfl) ml_X0_42 me_X5_isPerson (sh14 hst) rfl (gj_nm rfl) rfl (gj_kI fun x S2 M2 h => ?_)
      obtain ⟨bz, e, eS, eM⟩ := h; subst eS; subst eM; subst e
      refine gj_stpZ bz hF (fun x3 bx3 hF => ?_)
      refine gj_if_eq (q := 52) (tgt := 77) (gj_dk okX0_spread 31 rfl) (by decide) rfl (fun c49 => ?_) (fun c49 => ?_)
      · -- 77
        replace hF := gj_ift c49 hF
        refine gj_iconst (q := 78) (gj_dk okX0_spread 43 rfl) (by decide) rfl ?_
        cases hF
        exact gj_zret (gj_dk okX0_spread 44 rfl) rfl (by decide) ⟨_, rfl, (by decide), rfl, rfl, rfl⟩
      · -- 52
        replace hF := gj_iff c49 hF
        refine gj_aload_n (q := 53) (gj_dk okX0_spread 32 rfl) rfl rfl ?_
        refine gj_gR (q := 56) (j := 0) (gj_dk okX0_spread 33 rfl) ff_X0_18 (sh41 hst) (by decide) rfl (rf41_0 hst) rfl ?_
        refine gj_iload (q := 58) (gj_dk okX0_spread 34 rfl) rfl rfl ?_
        refine gj_callV (q := 61) (z := 14) (ci := 5) [jI x2] rfl (t_X5_isPerson_14 hst x2 rfl) (gj_dk okX0_spread 35 rfl) ml_X0_42 me_X5_isPerson (sh14 hst) rfl (gj_nm rfl) rfl (gj_kI fun x S2 M2 h => ?_)
        obtain ⟨bz, e, eS, eM⟩ := h; subst eS; subst eM; subst e
        refine gj_stpZ bz hF (fun x4 bx4 hF => ?_)
        refine gj_if_eq (q := 64) (tgt := 77) (gj_dk okX0_spread 36 rfl) (by decide) rfl (fun c61 => ?_) (fun c61 => ?_)
        · -- 77
          replace hF := gj_ift c61 hF
          refine gj_iconst (q := 78) (gj_dk okX0_spread 43 rfl) (by decide) rfl ?_
          cases hF
          exact gj_zret (gj_dk okX0_spread 44 rfl) rfl (by decide) ⟨_, rfl, (by decide), rfl, rfl, rfl⟩
        · -- 64
          replace hF := gj_iff c61 hF
          refine gj_aload_n (q := 65) (gj_dk okX0_spread 37 rfl) rfl rfl ?_
          refine gj_gR (q := 68) (j := 1) (gj_dk okX0_spread 38 rfl) ff_X0_11 (sh41 hst) (by decide) rfl (rf41_1 hst) rfl ?_
          refine gj_iload (q := 70) (gj_dk okX0_spread 39 rfl) rfl rfl ?_
          refine gj_callS (q := 73) [jR 42, jI x2] rfl (c_X7_at (sh42 hst) (by decide) (by decide) _) (gj_dk okX0_spread 40 rfl) ml_X0_45 me_X7_at (gj_nm rfl) rfl (gj_kI fun x S2 M2 h => ?_)
          obtain ⟨e, eS, eM⟩ := h; subst eS; subst eM; subst e
          refine gj_iconst (q := 74) (gj_dk okX0_spread 41 rfl) (by decide) rfl ?_
          refine gj_icmp_eq (q := 77) (tgt := 79) (gj_dk okX0_spread 42 rfl) (by decide) rfl (fun c74 => ?_) (fun c74 => ?_)
          · -- 79
            replace hF := gj_ift c74 hF
            refine gj_aload_n (q := 80) (gj_dk okX0_spread 45 rfl) rfl rfl ?_
            refine gj_gR (q := 83) (j := 1) (gj_dk okX0_spread 46 rfl) ff_X0_11 (sh41 hst) (by decide) rfl (rf41_1 hst) rfl ?_
            refine gj_iload_n (q := 84) (gj_dk okX0_spread 47 rfl) rfl rfl ?_
            refine gj_iload (q := 86) (gj_dk okX0_spread 48 rfl) rfl rfl ?_
            refine gj_callS (q := 89) [jR 42, jI l3, jI x2] rfl (c_X7_put (sh42 hst) (by decide) (by decide) _ _) (gj_dk okX0_spread 49 rfl) ml_X0_49 me_X7_put (gj_nm rfl) rfl (gj_kV fun S2 M2 h => ?_)
            obtain ⟨eS, eM⟩ := h; subst eS; subst eM
            refine gj_stp hF (fun M5 hF => ?_)
            refine gj_aload_n (q := 90) (gj_dk okX0_spread 50 rfl) rfl rfl ?_
            refine gj_gR (q := 93) (j := 1) (gj_dk okX0_spread 51 rfl) ff_X0_11 (sh41 hst) (by decide) rfl (rf41_1 hst) rfl ?_
            refine gj_iload (q := 95) (gj_dk okX0_spread 52 rfl) rfl rfl ?_
            refine gj_iload_n (q := 96) (gj_dk okX0_spread 53 rfl) rfl rfl ?_
            refine gj_callS (q := 99) [jR 42, jI x2, jI l3] rfl (c_X7_put (sh42 hst) (by decide) (by decide) _ _) (gj_dk okX0_spread 54 rfl) ml_X0_49 me_X7_put (gj_nm rfl) rfl (gj_kV fun S2 M2 h => ?_)
            obtain ⟨eS, eM⟩ := h; subst eS; subst eM
            refine gj_stp hF (fun M6 hF => ?_)
            refine gj_iinc (q := 102) (v := gj_w (l3 + (-1))) (gj_dk okX0_spread 55 rfl) rfl (by decide) rfl rfl ?_
            refine gj_goto (tgt := 12) (gj_dk okX0_spread 56 rfl) (by decide) ?_
            refine gj_sub [(0, jR 41), (2, jI (gj_w (Int.tdiv l2 5))), (3, jI (gj_w (l3 + (-1))))] ⟨rfl, rfl, rfl, trivial⟩ ?_
            exact hrec12 (gj_w (Int.tdiv l2 5)) (gj_w (l3 + (-1))) M6 hF
          · -- 77
            replace hF := gj_iff c74 hF
            refine gj_iconst (q := 78) (gj_dk okX0_spread 43 rfl) (by decide) rfl ?_
            cases hF
            exact gj_zret (gj_dk okX0_spread 44 rfl) rfl (by decide) ⟨_, rfl, (by decide), rfl, rfl, rfl⟩
    · -- 30
      replace hF := gj_ift c27 hF
      refine gj_goto (tgt := 99) (gj_dk okX0_spread 20 rfl) (by decide) ?_
      refine gj_iinc (q := 102) (v := gj_w (l3 + (-1))) (gj_dk okX0_spread 55 rfl) rfl (by decide) rfl rfl ?_
      refine gj_goto (tgt := 12) (gj_dk okX0_spread 56 rfl) (by decide) ?_
      refine gj_sub [(0, jR 41), (2, jI (gj_w (Int.tdiv l2 5))), (3, jI (gj_w (l3 + (-1))))] ⟨rfl, rfl, rfl, trivial⟩ ?_
      exact hrec12 (gj_w (Int.tdiv l2 5)) (gj_w (l3 + (-1))) M hF
theorem t_L_X0_spread_12 (hst : gj_Stat S) {r : Int × gj_M} : ∀ (m : Nat) (l2 : Int) (l3 : Int) (M : gj_M), gj_it (fun _ _ _ => none) (B_X0_spread_12) m l2 l3 M = some r → gj_W G l 2 0 0 yX0_spread cX0_spread 6 (some .boolean) (gj_qI fun x S' M' => (x = 0 ∨ x = 1) ∧ r.1 = x ∧ S = S' ∧ r.2 = M') 0 0 12 [(0, jR 41), (2, jI l2), (3, jI l3)] [] S M := by
  intro m
  induction m with
  | zero => intro l2 l3 M hF; cases (show (none : Option (Int × gj_M)) = some r from hF)
  | succ m ih => intro l2 l3 M hF; exact t_B_X0_spread_12 hst (fun l2 l3 M h => ih l2 l3 M h) l2 l3 M hF
set_option maxHeartbeats 4000000 in
set_option maxRecDepth 20000 in
theorem t_X0_spread (hst : gj_Stat S) (a1 : Int) {r : Int × gj_M} (hF : F_X0_spread a1 M = some r) : gj_C G l 2 0 0 yX0_spread cX0_spread 6 (some .boolean) [jR 41, jI a1] S M (gj_qI fun x S' M' => (x = 0 ∨ x = 1) ∧ r.1 = x ∧ S = S' ∧ r.2 = M') := by
  refine gj_Cof (by decide +kernel) (Nat.le_of_ble_eq_true rfl) ?_
  change gj_W G l 2 0 0 yX0_spread cX0_spread 6 (some .boolean) (gj_qI fun x S' M' => (x = 0 ∨ x = 1) ∧ r.1 = x ∧ S = S' ∧ r.2 = M') 0 0 0 [(0, jR 41), (1, jI a1)] [] S M
  unfold F_X0_spread at hF
  refine gj_aload_n (q := 1) (gj_dk okX0_spread 0 rfl) rfl rfl ?_
  refine gj_gR (q := 4) (j := 1) (gj_dk okX0_spread 1 rfl) ff_X0_11 (sh41 hst) (by decide) rfl (rf41_1 hst) rfl ?_
  refine gj_iconst (q := 5) (gj_dk okX0_spread 2 rfl) (by decide) rfl ?_
  refine gj_callS (q := 8) [jR 42, jI (-1)] rfl (c_X7_fill (sh42 hst) (by decide) (by decide) _) (gj_dk okX0_spread 3 rfl) ml_X0_38 me_X7_fill (gj_nm rfl) rfl (gj_kV fun S2 M2 h => ?_)
  obtain ⟨eS, eM⟩ := h; subst eS; subst eM
  refine gj_stp hF (fun M1 hF => ?_)
  refine gj_iload_n (q := 9) (gj_dk okX0_spread 4 rfl) rfl rfl ?_
  refine gj_istore_n (q := 10) (gj_dk okX0_spread 5 rfl) (by decide) rfl ?_
  refine gj_iconst (q := 11) (gj_dk okX0_spread 6 rfl) (by decide) rfl ?_
  refine gj_istore_n (q := 12) (gj_dk okX0_spread 7 rfl) (by decide) rfl ?_
  refine gj_sub [(0, jR 41), (2, jI a1), (3, jI 3)] ⟨rfl, rfl, rfl, trivial⟩ ?_
  exact t_L_X0_spread_12 hst gj_fu a1 3 M1 hF
def f_X5_trueYear (a1 : Int) (a2 : Int) (M : gj_M) : Int :=
  (if a2 = -1 then (gj_w (16 * (f_at M 15 8 a1))) else gj_letI (f_at M 19 16 (f_cpl a1 a2)) (fun x1 => (gj_w ((gj_w (x1 * (M 14 2))) + (gj_w ((gj_w (16 - x1)) * (M 14 3)))))))
set_option maxHeartbeats 4000000 in
set_option maxRecDepth 20000 in
theorem t_X5_trueYear (hst : gj_Stat S) (a1 a2 : Int) {r : Int} (hF : f_X5_trueYear a1 a2 M = r) : gj_C G l 2 0 0 yX5_trueYear cX5_trueYear 4 (some .int) [jR 14, jI a1, jI a2] S M (gj_qI fun x S' M' => r = x ∧ S = S' ∧ M = M') := by
  refine gj_Cof (by decide +kernel) (Nat.le_of_ble_eq_true rfl) ?_
  change gj_W G l 2 0 0 yX5_trueYear cX5_trueYear 4 (some .int) (gj_qI fun x S' M' => r = x ∧ S = S' ∧ M = M') 0 0 0 [(0, jR 14), (1, jI a1), (2, jI a2)] [] S M
  unfold f_X5_trueYear at hF
  refine gj_iload_n (q := 1) (gj_dk okX5_trueYear 0 rfl) rfl rfl ?_
  refine gj_iconst (q := 2) (gj_dk okX5_trueYear 1 rfl) (by decide) rfl ?_
  refine gj_icmp_ne (q := 5) (tgt := 17) (gj_dk okX5_trueYear 2 rfl) (by decide) rfl (fun c2 => ?_) (fun c2 => ?_)
  · -- 17
    replace hF := gj_iff c2 hF
    refine gj_aload_n (q := 18) (gj_dk okX5_trueYear 10 rfl) rfl rfl ?_
    refine gj_gR (q := 21) (j := 14) (gj_dk okX5_trueYear 11 rfl) ff_X5_24 (sh14 hst) (by decide) rfl (rf14_14 hst) rfl ?_
    refine gj_iload_n (q := 22) (gj_dk okX5_trueYear 12 rfl) rfl rfl ?_
    refine gj_iload_n (q := 23) (gj_dk okX5_trueYear 13 rfl) rfl rfl ?_
    refine gj_callS (q := 26) [jI a1, jI a2] rfl (c_X10_couple _ _) (gj_dk okX5_trueYear 14 rfl) ml_X5_108 me_X10_couple (gj_nm rfl) rfl (gj_kI fun x S2 M2 h => ?_)
    obtain ⟨e, eS, eM⟩ := h; subst eS; subst eM; subst e
    refine gj_callS (q := 29) [jR 19, jI (f_cpl a1 a2)] rfl (c_X7_at (sh19 hst) (by decide) (by decide) _) (gj_dk okX5_trueYear 15 rfl) ml_X5_83 me_X7_at (gj_nm rfl) rfl (gj_kI fun x S2 M2 h => ?_)
    obtain ⟨e, eS, eM⟩ := h; subst eS; subst eM; subst e
    refine gj_stpI hF (fun x1 hF => ?_)
    refine gj_istore_n (q := 30) (gj_dk okX5_trueYear 16 rfl) (by decide) rfl ?_
    refine gj_iload_n (q := 31) (gj_dk okX5_trueYear 17 rfl) rfl rfl ?_
    refine gj_aload_n (q := 32) (gj_dk okX5_trueYear 18 rfl) rfl rfl ?_
    refine gj_gI (q := 35) (j := 2) (gj_dk okX5_trueYear 19 rfl) ff_X5_37 (sh14 hst) (by decide) rfl rfl ?_
    refine gj_imul (q := 36) (gj_dk okX5_trueYear 20 rfl) rfl ?_
    refine gj_bipush (q := 38) (gj_dk okX5_trueYear 21 rfl) (by decide) rfl rfl ?_
    refine gj_iload_n (q := 39) (gj_dk okX5_trueYear 22 rfl) rfl rfl ?_
    refine gj_isub (q := 40) (gj_dk okX5_trueYear 23 rfl) rfl ?_
    refine gj_aload_n (q := 41) (gj_dk okX5_trueYear 24 rfl) rfl rfl ?_
    refine gj_gI (q := 44) (j := 3) (gj_dk okX5_trueYear 25 rfl) ff_X5_40 (sh14 hst) (by decide) rfl rfl ?_
    refine gj_imul (q := 45) (gj_dk okX5_trueYear 26 rfl) rfl ?_
    refine gj_iadd (q := 46) (gj_dk okX5_trueYear 27 rfl) rfl ?_
    subst hF
    exact gj_iret (gj_dk okX5_trueYear 28 rfl) rfl ⟨_, rfl, rfl, rfl, rfl⟩
  · -- 5
    replace hF := gj_ift c2 hF
    refine gj_bipush (q := 7) (gj_dk okX5_trueYear 3 rfl) (by decide) rfl rfl ?_
    refine gj_aload_n (q := 8) (gj_dk okX5_trueYear 4 rfl) rfl rfl ?_
    refine gj_gR (q := 11) (j := 10) (gj_dk okX5_trueYear 5 rfl) ff_X5_9 (sh14 hst) (by decide) rfl (rf14_10 hst) rfl ?_
    refine gj_iload_n (q := 12) (gj_dk okX5_trueYear 6 rfl) rfl rfl ?_
    refine gj_callS (q := 15) [jR 15, jI a1] rfl (c_X7_at (sh15 hst) (by decide) (by decide) _) (gj_dk okX5_trueYear 7 rfl) ml_X5_83 me_X7_at (gj_nm rfl) rfl (gj_kI fun x S2 M2 h => ?_)
    obtain ⟨e, eS, eM⟩ := h; subst eS; subst eM; subst e
    refine gj_imul (q := 16) (gj_dk okX5_trueYear 8 rfl) rfl ?_
    subst hF
    exact gj_iret (gj_dk okX5_trueYear 9 rfl) rfl ⟨_, rfl, rfl, rfl, rfl⟩
def J_X5_yearSum_31 (z1 n1 : Int) (M : gj_M) (rec4 : Int → Int → Option (Int)) (l2 l3 : Int) : Option (Int) :=
  rec4 l2 (gj_w (l3 + 1))
def B_X5_yearSum_4 (z1 n1 : Int) (M : gj_M) (rec4 : Int → Int → Option (Int)) (l2 l3 : Int) : Option (Int) :=
  (if 8 ≤ l3 then (some (l2)) else gj_letI (f_X5_isPerson_14 l3 M) (fun x1 => (if x1 = 0 then (J_X5_yearSum_31 z1 n1 M rec4 l2 l3) else gj_letI (f_X5_trueYear l3 (f_at M z1 n1 l3) M) (fun x2 => (J_X5_yearSum_31 z1 n1 M rec4 (gj_w (l2 + x2)) l3)))))
def F_X5_yearSum (z1 : Int) (n1 : Int) (M : gj_M) : Option (Int) :=
  (gj_it (fun _ _ => none) (B_X5_yearSum_4 z1 n1 M) gj_fu 0 0)
set_option maxHeartbeats 4000000 in
set_option maxRecDepth 20000 in
theorem t_J_X5_yearSum_31 (hst : gj_Stat S) {z1 n1 : Int} (hz1 : S.2.1 z1 = (0, n1)) (hz1p : 0 ≤ z1) (hz1n : 0 ≤ n1 ∧ n1 < 2147483648) {r : Int} {rec4 : Int → Int → Option (Int)} (hrec4 : ∀ (l2 l3 : Int), rec4 l2 l3 = some r → gj_W G l 3 0 0 yX5_yearSum cX5_yearSum 4 (some .int) (gj_qI fun x S' M' => r = x ∧ S = S' ∧ M = M') 0 0 4 [(0, jR 14), (1, jR z1), (2, jI l2), (3, jI l3)] [] S M) (l2 l3 : Int) (hF : J_X5_yearSum_31 z1 n1 M rec4 l2 l3 = some r) : gj_W G l 3 0 0 yX5_yearSum cX5_yearSum 4 (some .int) (gj_qI fun x S' M' => r = x ∧ S = S' ∧ M = M') 0 0 31 [(0, jR 14), (1, jR z1), (2, jI l2), (3, jI l3)] [] S M := by
  unfold J_X5_yearSum_31 at hF
  refine gj_iinc (q := 34) (v := gj_w (l3 + 1)) (gj_dk okX5_yearSum 20 rfl) rfl (by decide) rfl rfl ?_
  refine gj_goto (tgt := 4) (gj_dk okX5_yearSum 21 rfl) (by decide) ?_
  refine gj_sub [(0, jR 14), (1, jR z1), (2, jI l2), (3, jI (gj_w (l3 + 1)))] ⟨rfl, rfl, rfl, rfl, trivial⟩ ?_
  exact hrec4 l2 (gj_w (l3 + 1)) hF
set_option maxHeartbeats 4000000 in
set_option maxRecDepth 20000 in
theorem t_B_X5_yearSum_4 (hst : gj_Stat S) {z1 n1 : Int} (hz1 : S.2.1 z1 = (0, n1)) (hz1p : 0 ≤ z1) (hz1n : 0 ≤ n1 ∧ n1 < 2147483648) {r : Int} {rec4 : Int → Int → Option (Int)} (hrec4 : ∀ (l2 l3 : Int), rec4 l2 l3 = some r → gj_W G l 3 0 0 yX5_yearSum cX5_yearSum 4 (some .int) (gj_qI fun x S' M' => r = x ∧ S = S' ∧ M = M') 0 0 4 [(0, jR 14), (1, jR z1), (2, jI l2), (3, jI l3)] [] S M) (l2 l3 : Int) (hF : B_X5_yearSum_4 z1 n1 M rec4 l2 l3 = some r) : gj_W G l 3 0 0 yX5_yearSum cX5_yearSum 4 (some .int) (gj_qI fun x S' M' => r = x ∧ S = S' ∧ M = M') 0 0 4 [(0, jR 14), (1, jR z1), (2, jI l2), (3, jI l3)] [] S M := by
  unfold B_X5_yearSum_4 at hF
  refine gj_iload_n (q := 5) (gj_dk okX5_yearSum 4 rfl) rfl rfl ?_
  refine gj_bipush (q := 7) (gj_dk okX5_yearSum 5 rfl) (by decide) rfl rfl ?_
  refine gj_icmp_ge (q := 10) (tgt := 37) (gj_dk okX5_yearSum 6 rfl) (by decide) rfl (fun c7 => ?_) (fun c7 => ?_)
  · -- 37
    replace hF := gj_ift c7 hF
    refine gj_iload_n (q := 38) (gj_dk okX5_yearSum 22 rfl) rfl rfl ?_
    cases hF
    exact gj_iret (gj_dk okX5_yearSum 23 rfl) rfl ⟨_, rfl, rfl, rfl, rfl⟩
  · -- 10
    replace hF := gj_iff c7 hF
    refine gj_aload_n (q := 11) (gj_dk okX5_yearSum 7 rfl) rfl rfl ?_
    refine gj_iload_n (q := 12) (gj_dk okX5_yearSum 8 rfl) rfl rfl ?_
    refine gj_callV (q := 15) (z := 14) (ci := 5) [jI l3] rfl (t_X5_isPerson_14 hst l3 rfl) (gj_dk okX5_yearSum 9 rfl) ml_X5_91 me_X5_isPerson (sh14 hst) rfl (gj_nm rfl) rfl (gj_kI fun x S2 M2 h => ?_)
    obtain ⟨bz, e, eS, eM⟩ := h; subst eS; subst eM; subst e
    refine gj_stpZ bz hF (fun x1 bx1 hF => ?_)
    refine gj_if_eq (q := 18) (tgt := 31) (gj_dk okX5_yearSum 10 rfl) (by decide) rfl (fun c15 => ?_) (fun c15 => ?_)
    · -- 31
      replace hF := gj_ift c15 hF
      refine gj_sub [(0, jR 14), (1, jR z1), (2, jI l2), (3, jI l3)] ⟨rfl, rfl, rfl, rfl, trivial⟩ ?_
      exact t_J_X5_yearSum_31 hst hz1 hz1p hz1n hrec4 l2 l3 hF
    · -- 18
      replace hF := gj_iff c15 hF
      refine gj_iload_n (q := 19) (gj_dk okX5_yearSum 11 rfl) rfl rfl ?_
      refine gj_aload_n (q := 20) (gj_dk okX5_yearSum 12 rfl) rfl rfl ?_
      refine gj_iload_n (q := 21) (gj_dk okX5_yearSum 13 rfl) rfl rfl ?_
      refine gj_aload_n (q := 22) (gj_dk okX5_yearSum 14 rfl) rfl rfl ?_
      refine gj_iload_n (q := 23) (gj_dk okX5_yearSum 15 rfl) rfl rfl ?_
      refine gj_callS (q := 26) [jR z1, jI l3] rfl (c_X7_at hz1 hz1p hz1n _) (gj_dk okX5_yearSum 16 rfl) ml_X5_83 me_X7_at (gj_nm rfl) rfl (gj_kI fun x S2 M2 h => ?_)
      obtain ⟨e, eS, eM⟩ := h; subst eS; subst eM; subst e
      refine gj_callV (q := 29) (z := 14) (ci := 5) [jI l3, jI (f_at M z1 n1 l3)] rfl (t_X5_trueYear hst l3 (f_at M z1 n1 l3) rfl) (gj_dk okX5_yearSum 17 rfl) ml_X5_95 me_X5_trueYear (sh14 hst) rfl (gj_nm rfl) rfl (gj_kI fun x S2 M2 h => ?_)
      obtain ⟨e, eS, eM⟩ := h; subst eS; subst eM; subst e
      refine gj_stpI hF (fun x2 hF => ?_)
      refine gj_iadd (q := 30) (gj_dk okX5_yearSum 18 rfl) rfl ?_
      refine gj_istore_n (q := 31) (gj_dk okX5_yearSum 19 rfl) (by decide) rfl ?_
      refine gj_sub [(0, jR 14), (1, jR z1), (2, jI (gj_w (l2 + x2))), (3, jI l3)] ⟨rfl, rfl, rfl, rfl, trivial⟩ ?_
      exact t_J_X5_yearSum_31 hst hz1 hz1p hz1n hrec4 (gj_w (l2 + x2)) l3 hF
theorem t_L_X5_yearSum_4 (hst : gj_Stat S) {z1 n1 : Int} (hz1 : S.2.1 z1 = (0, n1)) (hz1p : 0 ≤ z1) (hz1n : 0 ≤ n1 ∧ n1 < 2147483648) {r : Int} : ∀ (m : Nat) (l2 : Int) (l3 : Int), gj_it (fun _ _ => none) (B_X5_yearSum_4 z1 n1 M) m l2 l3 = some r → gj_W G l 3 0 0 yX5_yearSum cX5_yearSum 4 (some .int) (gj_qI fun x S' M' => r = x ∧ S = S' ∧ M = M') 0 0 4 [(0, jR 14), (1, jR z1), (2, jI l2), (3, jI l3)] [] S M := by
  intro m
  induction m with
  | zero => intro l2 l3 hF; cases (show (none : Option (Int)) = some r from hF)
  | succ m ih => intro l2 l3 hF; exact t_B_X5_yearSum_4 hst hz1 hz1p hz1n (fun l2 l3 h => ih l2 l3 h) l2 l3 hF
set_option maxHeartbeats 4000000 in
set_option maxRecDepth 20000 in
theorem t_X5_yearSum (hst : gj_Stat S) {z1 n1 : Int} (hz1 : S.2.1 z1 = (0, n1)) (hz1p : 0 ≤ z1) (hz1n : 0 ≤ n1 ∧ n1 < 2147483648) {r : Int} (hF : F_X5_yearSum z1 n1 M = some r) : gj_C G l 3 0 0 yX5_yearSum cX5_yearSum 4 (some .int) [jR 14, jR z1] S M (gj_qI fun x S' M' => r = x ∧ S = S' ∧ M = M') := by
  refine gj_Cof (by decide +kernel) (Nat.le_of_ble_eq_true rfl) ?_
  change gj_W G l 3 0 0 yX5_yearSum cX5_yearSum 4 (some .int) (gj_qI fun x S' M' => r = x ∧ S = S' ∧ M = M') 0 0 0 [(0, jR 14), (1, jR z1)] [] S M
  unfold F_X5_yearSum at hF
  refine gj_iconst (q := 1) (gj_dk okX5_yearSum 0 rfl) (by decide) rfl ?_
  refine gj_istore_n (q := 2) (gj_dk okX5_yearSum 1 rfl) (by decide) rfl ?_
  refine gj_iconst (q := 3) (gj_dk okX5_yearSum 2 rfl) (by decide) rfl ?_
  refine gj_istore_n (q := 4) (gj_dk okX5_yearSum 3 rfl) (by decide) rfl ?_
  refine gj_sub [(0, jR 14), (1, jR z1), (2, jI 0), (3, jI 0)] ⟨rfl, rfl, rfl, rfl, trivial⟩ ?_
  exact t_L_X5_yearSum_4 hst hz1 hz1p hz1n gj_fu 0 0 hF
def J_X0_choose_49 (rec4 : Int → Int → gj_M → Option (gj_M)) (l1 l2 : Int) (M : gj_M) : Option (gj_M) :=
  rec4 l1 (gj_w (l2 + 1)) M
def B_X0_choose_4 (rec4 : Int → Int → gj_M → Option (gj_M)) (l1 l2 : Int) (M : gj_M) : Option (gj_M) :=
  (if 625 ≤ l2 then (some (M)) else gj_bnd2 (F_X0_spread l2 M) (fun x1 M2 => (if x1 = 0 then (J_X0_choose_49 rec4 l1 l2 M2) else gj_bnd (F_X5_yearSum 42 8 M2) (fun x3 => (if x3 ≤ l1 then (J_X0_choose_49 rec4 l1 l2 M2) else gj_let (f_copy M2 42 8 43 8) (fun M5 => (J_X0_choose_49 rec4 x3 l2 M5)))))))
def F_X0_choose (M : gj_M) : Option (gj_M) :=
  (gj_it (fun _ _ _ => none) (B_X0_choose_4) gj_fu (-1) 0 M)
set_option maxHeartbeats 4000000 in
set_option maxRecDepth 20000 in
theorem t_J_X0_choose_49 (hst : gj_Stat S) {r : gj_M} {rec4 : Int → Int → gj_M → Option (gj_M)} (hrec4 : ∀ (l1 l2 : Int) (M : gj_M), rec4 l1 l2 M = some r → gj_W G l 4 0 0 yX0_choose cX0_choose 4 none (gj_qV fun S' M' => S = S' ∧ r = M') 0 0 4 [(0, jR 41), (1, jI l1), (2, jI l2)] [] S M) (l1 l2 : Int) (M : gj_M) (hF : J_X0_choose_49 rec4 l1 l2 M = some r) : gj_W G l 4 0 0 yX0_choose cX0_choose 4 none (gj_qV fun S' M' => S = S' ∧ r = M') 0 0 49 [(0, jR 41), (1, jI l1), (2, jI l2)] [] S M := by
  unfold J_X0_choose_49 at hF
  refine gj_iinc (q := 52) (v := gj_w (l2 + 1)) (gj_dk okX0_choose 27 rfl) rfl (by decide) rfl rfl ?_
  refine gj_goto (tgt := 4) (gj_dk okX0_choose 28 rfl) (by decide) ?_
  refine gj_sub [(0, jR 41), (1, jI l1), (2, jI (gj_w (l2 + 1)))] ⟨rfl, rfl, rfl, trivial⟩ ?_
  exact hrec4 l1 (gj_w (l2 + 1)) M hF
set_option maxHeartbeats 4000000 in
set_option maxRecDepth 20000 in
theorem t_B_X0_choose_4 (hst : gj_Stat S) {r : gj_M} {rec4 : Int → Int → gj_M → Option (gj_M)} (hrec4 : ∀ (l1 l2 : Int) (M : gj_M), rec4 l1 l2 M = some r → gj_W G l 4 0 0 yX0_choose cX0_choose 4 none (gj_qV fun S' M' => S = S' ∧ r = M') 0 0 4 [(0, jR 41), (1, jI l1), (2, jI l2)] [] S M) (l1 l2 : Int) (M : gj_M) (hF : B_X0_choose_4 rec4 l1 l2 M = some r) : gj_W G l 4 0 0 yX0_choose cX0_choose 4 none (gj_qV fun S' M' => S = S' ∧ r = M') 0 0 4 [(0, jR 41), (1, jI l1), (2, jI l2)] [] S M := by
  unfold B_X0_choose_4 at hF
  refine gj_iload_n (q := 5) (gj_dk okX0_choose 4 rfl) rfl rfl ?_
  refine gj_sipush (q := 8) (gj_dk okX0_choose 5 rfl) (by decide) rfl rfl ?_
  refine gj_icmp_ge (q := 11) (tgt := 55) (gj_dk okX0_choose 6 rfl) (by decide) rfl (fun c8 => ?_) (fun c8 => ?_)
  · -- 55
    replace hF := gj_ift c8 hF
    cases hF
    exact gj_vret (gj_dk okX0_choose 29 rfl) rfl ⟨rfl, rfl, rfl⟩
  · -- 11
    replace hF := gj_iff c8 hF
    refine gj_aload_n (q := 12) (gj_dk okX0_choose 7 rfl) rfl rfl ?_
    refine gj_iload_n (q := 13) (gj_dk okX0_choose 8 rfl) rfl rfl ?_
    obtain ⟨x1, M2, hG, hF⟩ := gj_bnd2d hF
    refine gj_callV (q := 16) (z := 41) (ci := 0) [jI l2] rfl (t_X0_spread hst l2 hG) (gj_dk okX0_choose 9 rfl) ml_X0_22 me_X0_spread (sh41 hst) rfl (gj_nm rfl) rfl (gj_kI fun y S2 M2 h => ?_)
    obtain ⟨bx1, e, eS, eM⟩ := h; subst eS; subst eM; subst e; clear hG
    dsimp only at bx1 ⊢
    refine gj_if_eq (q := 19) (tgt := 49) (gj_dk okX0_choose 10 rfl) (by decide) rfl (fun c16 => ?_) (fun c16 => ?_)
    · -- 49
      replace hF := gj_ift c16 hF
      refine gj_sub [(0, jR 41), (1, jI l1), (2, jI l2)] ⟨rfl, rfl, rfl, trivial⟩ ?_
      exact t_J_X0_choose_49 hst hrec4 l1 l2 M2 hF
    · -- 19
      replace hF := gj_iff c16 hF
      refine gj_aload_n (q := 20) (gj_dk okX0_choose 11 rfl) rfl rfl ?_
      refine gj_gR (q := 23) (j := 0) (gj_dk okX0_choose 12 rfl) ff_X0_18 (sh41 hst) (by decide) rfl (rf41_0 hst) rfl ?_
      refine gj_aload_n (q := 24) (gj_dk okX0_choose 13 rfl) rfl rfl ?_
      refine gj_gR (q := 27) (j := 1) (gj_dk okX0_choose 14 rfl) ff_X0_11 (sh41 hst) (by decide) rfl (rf41_1 hst) rfl ?_
      obtain ⟨x3, hG, hF⟩ := gj_bndd hF
      refine gj_callV (q := 30) (z := 14) (ci := 5) [jR 42] rfl (t_X5_yearSum hst (sh42 hst) (by decide) (by decide)  hG) (gj_dk okX0_choose 15 rfl) ml_X0_26 me_X5_yearSum (sh14 hst) rfl (gj_nm rfl) rfl (gj_kI fun y S2 M2 h => ?_)
      obtain ⟨e, eS, eM⟩ := h; subst eS; subst eM; subst e; clear hG
      refine gj_istore_n (q := 31) (gj_dk okX0_choose 16 rfl) (by decide) rfl ?_
      refine gj_iload_n (q := 32) (gj_dk okX0_choose 17 rfl) rfl rfl ?_
      refine gj_iload_n (q := 33) (gj_dk okX0_choose 18 rfl) rfl rfl ?_
      refine gj_icmp_le (q := 36) (tgt := 49) (gj_dk okX0_choose 19 rfl) (by decide) rfl (fun c33 => ?_) (fun c33 => ?_)
      · -- 49
        replace hF := gj_ift c33 hF
        refine gj_sub [(0, jR 41), (1, jI l1), (2, jI l2)] ⟨rfl, rfl, rfl, trivial⟩ ?_
        exact t_J_X0_choose_49 hst hrec4 l1 l2 M2 hF
      · -- 36
        replace hF := gj_iff c33 hF
        refine gj_iload_n (q := 37) (gj_dk okX0_choose 20 rfl) rfl rfl ?_
        refine gj_istore_n (q := 38) (gj_dk okX0_choose 21 rfl) (by decide) rfl ?_
        refine gj_aload_n (q := 39) (gj_dk okX0_choose 22 rfl) rfl rfl ?_
        refine gj_gR (q := 42) (j := 1) (gj_dk okX0_choose 23 rfl) ff_X0_11 (sh41 hst) (by decide) rfl (rf41_1 hst) rfl ?_
        refine gj_aload_n (q := 43) (gj_dk okX0_choose 24 rfl) rfl rfl ?_
        refine gj_gR (q := 46) (j := 2) (gj_dk okX0_choose 25 rfl) ff_X0_15 (sh41 hst) (by decide) rfl (rf41_2 hst) rfl ?_
        refine gj_callS (q := 49) [jR 42, jR 43] rfl (c_X7_copy (sh42 hst) (by decide) (by decide) (sh43 hst) (by decide) (by decide) (by decide)) (gj_dk okX0_choose 26 rfl) ml_X0_32 me_X7_copy (gj_nm rfl) rfl (gj_kV fun S2 M2 h => ?_)
        obtain ⟨eS, eM⟩ := h; subst eS; subst eM
        refine gj_stp hF (fun M5 hF => ?_)
        refine gj_sub [(0, jR 41), (1, jI x3), (2, jI l2)] ⟨rfl, rfl, rfl, trivial⟩ ?_
        exact t_J_X0_choose_49 hst hrec4 x3 l2 M5 hF
theorem t_L_X0_choose_4 (hst : gj_Stat S) {r : gj_M} : ∀ (m : Nat) (l1 : Int) (l2 : Int) (M : gj_M), gj_it (fun _ _ _ => none) (B_X0_choose_4) m l1 l2 M = some r → gj_W G l 4 0 0 yX0_choose cX0_choose 4 none (gj_qV fun S' M' => S = S' ∧ r = M') 0 0 4 [(0, jR 41), (1, jI l1), (2, jI l2)] [] S M := by
  intro m
  induction m with
  | zero => intro l1 l2 M hF; cases (show (none : Option (gj_M)) = some r from hF)
  | succ m ih => intro l1 l2 M hF; exact t_B_X0_choose_4 hst (fun l1 l2 M h => ih l1 l2 M h) l1 l2 M hF
set_option maxHeartbeats 4000000 in
set_option maxRecDepth 20000 in
theorem t_X0_choose (hst : gj_Stat S) {r : gj_M} (hF : F_X0_choose M = some r) : gj_C G l 4 0 0 yX0_choose cX0_choose 4 none [jR 41] S M (gj_qV fun S' M' => S = S' ∧ r = M') := by
  refine gj_Cof (by decide +kernel) (Nat.le_of_ble_eq_true rfl) ?_
  change gj_W G l 4 0 0 yX0_choose cX0_choose 4 none (gj_qV fun S' M' => S = S' ∧ r = M') 0 0 0 [(0, jR 41)] [] S M
  unfold F_X0_choose at hF
  refine gj_iconst (q := 1) (gj_dk okX0_choose 0 rfl) (by decide) rfl ?_
  refine gj_istore_n (q := 2) (gj_dk okX0_choose 1 rfl) (by decide) rfl ?_
  refine gj_iconst (q := 3) (gj_dk okX0_choose 2 rfl) (by decide) rfl ?_
  refine gj_istore_n (q := 4) (gj_dk okX0_choose 3 rfl) (by decide) rfl ?_
  refine gj_sub [(0, jR 41), (1, jI (-1)), (2, jI 0)] ⟨rfl, rfl, rfl, trivial⟩ ?_
  exact t_L_X0_choose_4 hst gj_fu (-1) 0 M hF
def f_X1_clear (M : gj_M) : gj_M :=
  gj_let (gj_up M 29 1 0) (fun M1 => gj_let (gj_up M1 29 2 0) (fun M2 => (M2)))
set_option maxHeartbeats 4000000 in
set_option maxRecDepth 20000 in
theorem t_X1_clear (hst : gj_Stat S) {r : gj_M} (hF : f_X1_clear M = r) : gj_C G l 1 0 0 yX1_clear cX1_clear 1 none [jR 29] S M (gj_qV fun S' M' => S = S' ∧ r = M') := by
  refine gj_Cof (by decide +kernel) (Nat.le_of_ble_eq_true rfl) ?_
  change gj_W G l 1 0 0 yX1_clear cX1_clear 1 none (gj_qV fun S' M' => S = S' ∧ r = M') 0 0 0 [(0, jR 29)] [] S M
  unfold f_X1_clear at hF
  refine gj_aload_n (q := 1) (gj_dk okX1_clear 0 rfl) rfl rfl ?_
  refine gj_iconst (q := 2) (gj_dk okX1_clear 1 rfl) (by decide) rfl ?_
  refine gj_pfI (q := 5) (j := 1) (gj_dk okX1_clear 2 rfl) ff_X1_19 (sh29 hst) (by decide) rfl rfl ?_
  refine gj_stp hF (fun M1 hF => ?_)
  refine gj_aload_n (q := 6) (gj_dk okX1_clear 3 rfl) rfl rfl ?_
  refine gj_iconst (q := 7) (gj_dk okX1_clear 4 rfl) (by decide) rfl ?_
  refine gj_pfI (q := 10) (j := 2) (gj_dk okX1_clear 5 rfl) ff_X1_15 (sh29 hst) (by decide) rfl rfl ?_
  refine gj_stp hF (fun M2 hF => ?_)
  subst hF
  exact gj_vret (gj_dk okX1_clear 6 rfl) rfl ⟨rfl, rfl, rfl⟩
def f_X3_begin (M : gj_M) : gj_M :=
  gj_let (gj_up M 21 0 0) (fun M1 => gj_let (gj_up M1 21 1 0) (fun M2 => gj_let (gj_up M2 21 2 0) (fun M3 => gj_let (f_fill M3 22 8 (-1)) (fun M4 => gj_let (f_fill M4 23 8 0) (fun M5 => gj_let (f_fill M5 24 8 0) (fun M6 => gj_let (f_fill M6 25 8 0) (fun M7 => gj_let (f_fill M7 26 16 0) (fun M8 => gj_let (f_fill M8 27 16 0) (fun M9 => gj_let (f_fill M9 28 16 0) (fun M10 => gj_let (f_X1_clear M10) (fun M11 => (M11))))))))))))
set_option maxHeartbeats 4000000 in
set_option maxRecDepth 20000 in
theorem t_X3_begin (hst : gj_Stat S) {r : gj_M} (hF : f_X3_begin M = r) : gj_C G l 2 0 0 yX3_begin cX3_begin 1 none [jR 21] S M (gj_qV fun S' M' => S = S' ∧ r = M') := by
  refine gj_Cof (by decide +kernel) (Nat.le_of_ble_eq_true rfl) ?_
  change gj_W G l 2 0 0 yX3_begin cX3_begin 1 none (gj_qV fun S' M' => S = S' ∧ r = M') 0 0 0 [(0, jR 21)] [] S M
  unfold f_X3_begin at hF
  refine gj_aload_n (q := 1) (gj_dk okX3_begin 0 rfl) rfl rfl ?_
  refine gj_iconst (q := 2) (gj_dk okX3_begin 1 rfl) (by decide) rfl ?_
  refine gj_pfI (q := 5) (j := 0) (gj_dk okX3_begin 2 rfl) ff_X3_46 (sh21 hst) (by decide) rfl rfl ?_
  refine gj_stp hF (fun M1 hF => ?_)
  refine gj_aload_n (q := 6) (gj_dk okX3_begin 3 rfl) rfl rfl ?_
  refine gj_iconst (q := 7) (gj_dk okX3_begin 4 rfl) (by decide) rfl ?_
  refine gj_pfI (q := 10) (j := 1) (gj_dk okX3_begin 5 rfl) ff_X3_50 (sh21 hst) (by decide) rfl rfl ?_
  refine gj_stp hF (fun M2 hF => ?_)
  refine gj_aload_n (q := 11) (gj_dk okX3_begin 6 rfl) rfl rfl ?_
  refine gj_iconst (q := 12) (gj_dk okX3_begin 7 rfl) (by decide) rfl ?_
  refine gj_pfI (q := 15) (j := 2) (gj_dk okX3_begin 8 rfl) ff_X3_53 (sh21 hst) (by decide) rfl rfl ?_
  refine gj_stp hF (fun M3 hF => ?_)
  refine gj_aload_n (q := 16) (gj_dk okX3_begin 9 rfl) rfl rfl ?_
  refine gj_gR (q := 19) (j := 3) (gj_dk okX3_begin 10 rfl) ff_X3_9 (sh21 hst) (by decide) rfl (rf21_3 hst) rfl ?_
  refine gj_iconst (q := 20) (gj_dk okX3_begin 11 rfl) (by decide) rfl ?_
  refine gj_callS (q := 23) [jR 22, jI (-1)] rfl (c_X7_fill (sh22 hst) (by decide) (by decide) _) (gj_dk okX3_begin 12 rfl) ml_X3_40 me_X7_fill (gj_nm rfl) rfl (gj_kV fun S2 M2 h => ?_)
  obtain ⟨eS, eM⟩ := h; subst eS; subst eM
  refine gj_stp hF (fun M4 hF => ?_)
  refine gj_aload_n (q := 24) (gj_dk okX3_begin 13 rfl) rfl rfl ?_
  refine gj_gR (q := 27) (j := 4) (gj_dk okX3_begin 14 rfl) ff_X3_15 (sh21 hst) (by decide) rfl (rf21_4 hst) rfl ?_
  refine gj_iconst (q := 28) (gj_dk okX3_begin 15 rfl) (by decide) rfl ?_
  refine gj_callS (q := 31) [jR 23, jI 0] rfl (c_X7_fill (sh23 hst) (by decide) (by decide) _) (gj_dk okX3_begin 16 rfl) ml_X3_40 me_X7_fill (gj_nm rfl) rfl (gj_kV fun S2 M2 h => ?_)
  obtain ⟨eS, eM⟩ := h; subst eS; subst eM
  refine gj_stp hF (fun M5 hF => ?_)
  refine gj_aload_n (q := 32) (gj_dk okX3_begin 17 rfl) rfl rfl ?_
  refine gj_gR (q := 35) (j := 5) (gj_dk okX3_begin 18 rfl) ff_X3_18 (sh21 hst) (by decide) rfl (rf21_5 hst) rfl ?_
  refine gj_iconst (q := 36) (gj_dk okX3_begin 19 rfl) (by decide) rfl ?_
  refine gj_callS (q := 39) [jR 24, jI 0] rfl (c_X7_fill (sh24 hst) (by decide) (by decide) _) (gj_dk okX3_begin 20 rfl) ml_X3_40 me_X7_fill (gj_nm rfl) rfl (gj_kV fun S2 M2 h => ?_)
  obtain ⟨eS, eM⟩ := h; subst eS; subst eM
  refine gj_stp hF (fun M6 hF => ?_)
  refine gj_aload_n (q := 40) (gj_dk okX3_begin 21 rfl) rfl rfl ?_
  refine gj_gR (q := 43) (j := 6) (gj_dk okX3_begin 22 rfl) ff_X3_21 (sh21 hst) (by decide) rfl (rf21_6 hst) rfl ?_
  refine gj_iconst (q := 44) (gj_dk okX3_begin 23 rfl) (by decide) rfl ?_
  refine gj_callS (q := 47) [jR 25, jI 0] rfl (c_X7_fill (sh25 hst) (by decide) (by decide) _) (gj_dk okX3_begin 24 rfl) ml_X3_40 me_X7_fill (gj_nm rfl) rfl (gj_kV fun S2 M2 h => ?_)
  obtain ⟨eS, eM⟩ := h; subst eS; subst eM
  refine gj_stp hF (fun M7 hF => ?_)
  refine gj_aload_n (q := 48) (gj_dk okX3_begin 25 rfl) rfl rfl ?_
  refine gj_gR (q := 51) (j := 7) (gj_dk okX3_begin 26 rfl) ff_X3_24 (sh21 hst) (by decide) rfl (rf21_7 hst) rfl ?_
  refine gj_iconst (q := 52) (gj_dk okX3_begin 27 rfl) (by decide) rfl ?_
  refine gj_callS (q := 55) [jR 26, jI 0] rfl (c_X7_fill (sh26 hst) (by decide) (by decide) _) (gj_dk okX3_begin 28 rfl) ml_X3_40 me_X7_fill (gj_nm rfl) rfl (gj_kV fun S2 M2 h => ?_)
  obtain ⟨eS, eM⟩ := h; subst eS; subst eM
  refine gj_stp hF (fun M8 hF => ?_)
  refine gj_aload_n (q := 56) (gj_dk okX3_begin 29 rfl) rfl rfl ?_
  refine gj_gR (q := 59) (j := 8) (gj_dk okX3_begin 30 rfl) ff_X3_27 (sh21 hst) (by decide) rfl (rf21_8 hst) rfl ?_
  refine gj_iconst (q := 60) (gj_dk okX3_begin 31 rfl) (by decide) rfl ?_
  refine gj_callS (q := 63) [jR 27, jI 0] rfl (c_X7_fill (sh27 hst) (by decide) (by decide) _) (gj_dk okX3_begin 32 rfl) ml_X3_40 me_X7_fill (gj_nm rfl) rfl (gj_kV fun S2 M2 h => ?_)
  obtain ⟨eS, eM⟩ := h; subst eS; subst eM
  refine gj_stp hF (fun M9 hF => ?_)
  refine gj_aload_n (q := 64) (gj_dk okX3_begin 33 rfl) rfl rfl ?_
  refine gj_gR (q := 67) (j := 9) (gj_dk okX3_begin 34 rfl) ff_X3_30 (sh21 hst) (by decide) rfl (rf21_9 hst) rfl ?_
  refine gj_iconst (q := 68) (gj_dk okX3_begin 35 rfl) (by decide) rfl ?_
  refine gj_callS (q := 71) [jR 28, jI 0] rfl (c_X7_fill (sh28 hst) (by decide) (by decide) _) (gj_dk okX3_begin 36 rfl) ml_X3_40 me_X7_fill (gj_nm rfl) rfl (gj_kV fun S2 M2 h => ?_)
  obtain ⟨eS, eM⟩ := h; subst eS; subst eM
  refine gj_stp hF (fun M10 hF => ?_)
  refine gj_aload_n (q := 72) (gj_dk okX3_begin 37 rfl) rfl rfl ?_
  refine gj_gR (q := 75) (j := 10) (gj_dk okX3_begin 38 rfl) ff_X3_36 (sh21 hst) (by decide) rfl (rf21_10 hst) rfl ?_
  refine gj_callV (q := 78) (z := 29) (ci := 1) [] rfl (t_X1_clear hst  rfl) (gj_dk okX3_begin 39 rfl) ml_X3_56 me_X1_clear (sh29 hst) rfl (gj_nm rfl) rfl (gj_kV fun S2 M2 h => ?_)
  obtain ⟨eS, eM⟩ := h; subst eS; subst eM
  refine gj_stp hF (fun M11 hF => ?_)
  subst hF
  exact gj_vret (gj_dk okX3_begin 40 rfl) rfl ⟨rfl, rfl, rfl⟩
def F_X11_village (M : gj_M) : Option (Int × gj_M) :=
  gj_bnd2 (F_X6_read M) (fun x1 M2 => (if x1 = -1 then gj_bnd (F_X5_take M2) (fun M4 => gj_bnd (F_X0_choose M4) (fun M6 => gj_let (f_X3_begin M6) (fun M7 => gj_let (f_fill M7 77 3 0) (fun M8 => gj_let (f_X9_cutTo 0 M8) (fun M9 => (some ((gj_w ((M9 14 0) + (M9 14 1)), M9)))))))) else gj_let2 (f_X11_refuse 2 M2) (fun x10 M11 => (some ((-1, M11))))))
set_option maxHeartbeats 4000000 in
set_option maxRecDepth 20000 in
theorem t_X11_village (hst : gj_Stat S) {r : Int × gj_M} (hF : F_X11_village M = some r) : gj_C G l 10 0 0 yX11_village cX11_village 1 (some .int) [jR 0] S M (gj_qI fun x S' M' => r.1 = x ∧ S = S' ∧ r.2 = M') := by
  refine gj_Cof (by decide +kernel) (Nat.le_of_ble_eq_true rfl) ?_
  change gj_W G l 10 0 0 yX11_village cX11_village 1 (some .int) (gj_qI fun x S' M' => r.1 = x ∧ S = S' ∧ r.2 = M') 0 0 0 [(0, jR 0)] [] S M
  unfold F_X11_village at hF
  refine gj_aload_n (q := 1) (gj_dk okX11_village 0 rfl) rfl rfl ?_
  refine gj_gR (q := 4) (j := 2) (gj_dk okX11_village 1 rfl) ff_X11_28 (sh0 hst) (by decide) rfl (rf0_2 hst) rfl ?_
  obtain ⟨x1, M2, hG, hF⟩ := gj_bnd2d hF
  refine gj_callV (q := 7) (z := 10) (ci := 6) [] rfl (t_X6_read hst  hG) (gj_dk okX11_village 2 rfl) ml_X11_106 me_X6_read (sh10 hst) rfl (gj_nm rfl) rfl (gj_kI fun y S2 M2 h => ?_)
  obtain ⟨e, eS, eM⟩ := h; subst eS; subst eM; subst e; clear hG
  dsimp only
  refine gj_iconst (q := 8) (gj_dk okX11_village 3 rfl) (by decide) rfl ?_
  refine gj_icmp_eq (q := 11) (tgt := 19) (gj_dk okX11_village 4 rfl) (by decide) rfl (fun c8 => ?_) (fun c8 => ?_)
  · -- 19
    replace hF := gj_ift c8 hF
    refine gj_aload_n (q := 20) (gj_dk okX11_village 11 rfl) rfl rfl ?_
    refine gj_gR (q := 23) (j := 3) (gj_dk okX11_village 12 rfl) ff_X11_32 (sh0 hst) (by decide) rfl (rf0_3 hst) rfl ?_
    refine gj_aload_n (q := 24) (gj_dk okX11_village 13 rfl) rfl rfl ?_
    refine gj_gR (q := 27) (j := 1) (gj_dk okX11_village 14 rfl) ff_X11_19 (sh0 hst) (by decide) rfl (rf0_1 hst) rfl ?_
    obtain ⟨M4, hG, hF⟩ := gj_bndd hF
    refine gj_callV (q := 30) (z := 14) (ci := 5) [jR 3] rfl (t_X5_take hst  hG) (gj_dk okX11_village 15 rfl) ml_X11_109 me_X5_take (sh14 hst) rfl (gj_nm rfl) rfl (gj_kV fun S2 M2 h => ?_)
    obtain ⟨eS, eM⟩ := h; subst eS; subst eM; clear hG
    refine gj_aload_n (q := 31) (gj_dk okX11_village 16 rfl) rfl rfl ?_
    refine gj_gR (q := 34) (j := 7) (gj_dk okX11_village 17 rfl) ff_X11_63 (sh0 hst) (by decide) rfl (rf0_7 hst) rfl ?_
    obtain ⟨M6, hG, hF⟩ := gj_bndd hF
    refine gj_callV (q := 37) (z := 41) (ci := 0) [] rfl (t_X0_choose hst  hG) (gj_dk okX11_village 18 rfl) ml_X11_112 me_X0_choose (sh41 hst) rfl (gj_nm rfl) rfl (gj_kV fun S2 M2 h => ?_)
    obtain ⟨eS, eM⟩ := h; subst eS; subst eM; clear hG
    refine gj_aload_n (q := 38) (gj_dk okX11_village 19 rfl) rfl rfl ?_
    refine gj_gR (q := 41) (j := 4) (gj_dk okX11_village 20 rfl) ff_X11_38 (sh0 hst) (by decide) rfl (rf0_4 hst) rfl ?_
    refine gj_callV (q := 44) (z := 21) (ci := 3) [] rfl (t_X3_begin hst  rfl) (gj_dk okX11_village 21 rfl) ml_X11_115 me_X3_begin (sh21 hst) rfl (gj_nm rfl) rfl (gj_kV fun S2 M2 h => ?_)
    obtain ⟨eS, eM⟩ := h; subst eS; subst eM
    refine gj_stp hF (fun M7 hF => ?_)
    refine gj_aload_n (q := 45) (gj_dk okX11_village 22 rfl) rfl rfl ?_
    refine gj_gR (q := 48) (j := 10) (gj_dk okX11_village 23 rfl) ff_X11_80 (sh0 hst) (by decide) rfl (rf0_10 hst) rfl ?_
    refine gj_callS (q := 51) [jR 77] rfl (c_X7_unmark (sh77 hst) (by decide) (by decide)) (gj_dk okX11_village 24 rfl) ml_X11_118 me_X7_unmark (gj_nm rfl) rfl (gj_kV fun S2 M2 h => ?_)
    obtain ⟨eS, eM⟩ := h; subst eS; subst eM
    refine gj_stp hF (fun M8 hF => ?_)
    refine gj_aload_n (q := 52) (gj_dk okX11_village 25 rfl) rfl rfl ?_
    refine gj_gR (q := 55) (j := 0) (gj_dk okX11_village 26 rfl) ff_X11_10 (sh0 hst) (by decide) rfl (rf0_0 hst) rfl ?_
    refine gj_iconst (q := 56) (gj_dk okX11_village 27 rfl) (by decide) rfl ?_
    refine gj_callV (q := 59) (z := 1) (ci := 8) [jI 0] rfl (t_X9_cutTo hst 0 rfl) (gj_dk okX11_village 28 rfl) ml_X11_103 me_X9_cutTo (sh1 hst) rfl (gj_nm rfl) rfl (gj_kV fun S2 M2 h => ?_)
    obtain ⟨eS, eM⟩ := h; subst eS; subst eM
    refine gj_stp hF (fun M9 hF => ?_)
    refine gj_aload_n (q := 60) (gj_dk okX11_village 29 rfl) rfl rfl ?_
    refine gj_gR (q := 63) (j := 3) (gj_dk okX11_village 30 rfl) ff_X11_32 (sh0 hst) (by decide) rfl (rf0_3 hst) rfl ?_
    refine gj_gI (q := 66) (j := 0) (gj_dk okX11_village 31 rfl) ff_X11_124 (sh14 hst) (by decide) rfl rfl ?_
    refine gj_aload_n (q := 67) (gj_dk okX11_village 32 rfl) rfl rfl ?_
    refine gj_gR (q := 70) (j := 3) (gj_dk okX11_village 33 rfl) ff_X11_32 (sh0 hst) (by decide) rfl (rf0_3 hst) rfl ?_
    refine gj_gI (q := 73) (j := 1) (gj_dk okX11_village 34 rfl) ff_X11_128 (sh14 hst) (by decide) rfl rfl ?_
    refine gj_iadd (q := 74) (gj_dk okX11_village 35 rfl) rfl ?_
    cases hF
    exact gj_iret (gj_dk okX11_village 36 rfl) rfl ⟨_, rfl, rfl, rfl, rfl⟩
  · -- 11
    replace hF := gj_iff c8 hF
    refine gj_aload_n (q := 12) (gj_dk okX11_village 5 rfl) rfl rfl ?_
    refine gj_iconst (q := 13) (gj_dk okX11_village 6 rfl) (by decide) rfl ?_
    refine gj_callV (q := 16) (z := 0) (ci := 9) [jI 2] rfl (t_X11_refuse hst 2 rfl) (gj_dk okX11_village 7 rfl) ml_X11_92 me_X11_refuse (sh0 hst) rfl (gj_nm rfl) rfl (gj_kI fun x S2 M2 h => ?_)
    obtain ⟨bz, e, eS, eM⟩ := h; subst eS; subst eM; subst e
    refine gj_stp2Z bz hF (fun x10 M11 bx10 hF => ?_)
    refine gj_pop (q := 17) (gj_dk okX11_village 8 rfl) rfl rfl ?_
    refine gj_iconst (q := 18) (gj_dk okX11_village 9 rfl) (by decide) rfl ?_
    cases hF
    exact gj_iret (gj_dk okX11_village 10 rfl) rfl ⟨_, rfl, rfl, rfl, rfl⟩
def f_X5_slotOf (a1 : Int) (M : gj_M) : Int :=
  (if a1 < 0 then (if a1 < 10 then (-1) else (if gj_w (10 + (M 14 1)) ≤ a1 then (-1) else (gj_w ((gj_w (a1 - 10)) + 4)))) else (if M 14 0 ≤ a1 then (if a1 < 10 then (-1) else (if gj_w (10 + (M 14 1)) ≤ a1 then (-1) else (gj_w ((gj_w (a1 - 10)) + 4)))) else (a1)))
set_option maxHeartbeats 4000000 in
set_option maxRecDepth 20000 in
theorem t_X5_slotOf (hst : gj_Stat S) (a1 : Int) {r : Int} (hF : f_X5_slotOf a1 M = r) : gj_C G l 1 0 0 yX5_slotOf cX5_slotOf 2 (some .int) [jR 14, jI a1] S M (gj_qI fun x S' M' => r = x ∧ S = S' ∧ M = M') := by
  refine gj_Cof (by decide +kernel) (Nat.le_of_ble_eq_true rfl) ?_
  change gj_W G l 1 0 0 yX5_slotOf cX5_slotOf 2 (some .int) (gj_qI fun x S' M' => r = x ∧ S = S' ∧ M = M') 0 0 0 [(0, jR 14), (1, jI a1)] [] S M
  unfold f_X5_slotOf at hF
  refine gj_iload_n (q := 1) (gj_dk okX5_slotOf 0 rfl) rfl rfl ?_
  refine gj_if_lt (q := 4) (tgt := 14) (gj_dk okX5_slotOf 1 rfl) (by decide) rfl (fun c1 => ?_) (fun c1 => ?_)
  · -- 14
    replace hF := gj_ift c1 hF
    refine gj_iload_n (q := 15) (gj_dk okX5_slotOf 8 rfl) rfl rfl ?_
    refine gj_bipush (q := 17) (gj_dk okX5_slotOf 9 rfl) (by decide) rfl rfl ?_
    refine gj_icmp_lt (q := 20) (tgt := 38) (gj_dk okX5_slotOf 10 rfl) (by decide) rfl (fun c17 => ?_) (fun c17 => ?_)
    · -- 38
      replace hF := gj_ift c17 hF
      refine gj_iconst (q := 39) (gj_dk okX5_slotOf 23 rfl) (by decide) rfl ?_
      subst hF
      exact gj_iret (gj_dk okX5_slotOf 24 rfl) rfl ⟨_, rfl, rfl, rfl, rfl⟩
    · -- 20
      replace hF := gj_iff c17 hF
      refine gj_iload_n (q := 21) (gj_dk okX5_slotOf 11 rfl) rfl rfl ?_
      refine gj_bipush (q := 23) (gj_dk okX5_slotOf 12 rfl) (by decide) rfl rfl ?_
      refine gj_aload_n (q := 24) (gj_dk okX5_slotOf 13 rfl) rfl rfl ?_
      refine gj_gI (q := 27) (j := 1) (gj_dk okX5_slotOf 14 rfl) ff_X5_34 (sh14 hst) (by decide) rfl rfl ?_
      refine gj_iadd (q := 28) (gj_dk okX5_slotOf 15 rfl) rfl ?_
      refine gj_icmp_ge (q := 31) (tgt := 38) (gj_dk okX5_slotOf 16 rfl) (by decide) rfl (fun c28 => ?_) (fun c28 => ?_)
      · -- 38
        replace hF := gj_ift c28 hF
        refine gj_iconst (q := 39) (gj_dk okX5_slotOf 23 rfl) (by decide) rfl ?_
        subst hF
        exact gj_iret (gj_dk okX5_slotOf 24 rfl) rfl ⟨_, rfl, rfl, rfl, rfl⟩
      · -- 31
        replace hF := gj_iff c28 hF
        refine gj_iload_n (q := 32) (gj_dk okX5_slotOf 17 rfl) rfl rfl ?_
        refine gj_bipush (q := 34) (gj_dk okX5_slotOf 18 rfl) (by decide) rfl rfl ?_
        refine gj_isub (q := 35) (gj_dk okX5_slotOf 19 rfl) rfl ?_
        refine gj_iconst (q := 36) (gj_dk okX5_slotOf 20 rfl) (by decide) rfl ?_
        refine gj_iadd (q := 37) (gj_dk okX5_slotOf 21 rfl) rfl ?_
        subst hF
        exact gj_iret (gj_dk okX5_slotOf 22 rfl) rfl ⟨_, rfl, rfl, rfl, rfl⟩
  · -- 4
    replace hF := gj_iff c1 hF
    refine gj_iload_n (q := 5) (gj_dk okX5_slotOf 2 rfl) rfl rfl ?_
    refine gj_aload_n (q := 6) (gj_dk okX5_slotOf 3 rfl) rfl rfl ?_
    refine gj_gI (q := 9) (j := 0) (gj_dk okX5_slotOf 4 rfl) ff_X5_30 (sh14 hst) (by decide) rfl rfl ?_
    refine gj_icmp_ge (q := 12) (tgt := 14) (gj_dk okX5_slotOf 5 rfl) (by decide) rfl (fun c9 => ?_) (fun c9 => ?_)
    · -- 14
      replace hF := gj_ift c9 hF
      refine gj_iload_n (q := 15) (gj_dk okX5_slotOf 8 rfl) rfl rfl ?_
      refine gj_bipush (q := 17) (gj_dk okX5_slotOf 9 rfl) (by decide) rfl rfl ?_
      refine gj_icmp_lt (q := 20) (tgt := 38) (gj_dk okX5_slotOf 10 rfl) (by decide) rfl (fun c17 => ?_) (fun c17 => ?_)
      · -- 38
        replace hF := gj_ift c17 hF
        refine gj_iconst (q := 39) (gj_dk okX5_slotOf 23 rfl) (by decide) rfl ?_
        subst hF
        exact gj_iret (gj_dk okX5_slotOf 24 rfl) rfl ⟨_, rfl, rfl, rfl, rfl⟩
      · -- 20
        replace hF := gj_iff c17 hF
        refine gj_iload_n (q := 21) (gj_dk okX5_slotOf 11 rfl) rfl rfl ?_
        refine gj_bipush (q := 23) (gj_dk okX5_slotOf 12 rfl) (by decide) rfl rfl ?_
        refine gj_aload_n (q := 24) (gj_dk okX5_slotOf 13 rfl) rfl rfl ?_
        refine gj_gI (q := 27) (j := 1) (gj_dk okX5_slotOf 14 rfl) ff_X5_34 (sh14 hst) (by decide) rfl rfl ?_
        refine gj_iadd (q := 28) (gj_dk okX5_slotOf 15 rfl) rfl ?_
        refine gj_icmp_ge (q := 31) (tgt := 38) (gj_dk okX5_slotOf 16 rfl) (by decide) rfl (fun c28 => ?_) (fun c28 => ?_)
        · -- 38
          replace hF := gj_ift c28 hF
          refine gj_iconst (q := 39) (gj_dk okX5_slotOf 23 rfl) (by decide) rfl ?_
          subst hF
          exact gj_iret (gj_dk okX5_slotOf 24 rfl) rfl ⟨_, rfl, rfl, rfl, rfl⟩
        · -- 31
          replace hF := gj_iff c28 hF
          refine gj_iload_n (q := 32) (gj_dk okX5_slotOf 17 rfl) rfl rfl ?_
          refine gj_bipush (q := 34) (gj_dk okX5_slotOf 18 rfl) (by decide) rfl rfl ?_
          refine gj_isub (q := 35) (gj_dk okX5_slotOf 19 rfl) rfl ?_
          refine gj_iconst (q := 36) (gj_dk okX5_slotOf 20 rfl) (by decide) rfl ?_
          refine gj_iadd (q := 37) (gj_dk okX5_slotOf 21 rfl) rfl ?_
          subst hF
          exact gj_iret (gj_dk okX5_slotOf 22 rfl) rfl ⟨_, rfl, rfl, rfl, rfl⟩
    · -- 12
      replace hF := gj_iff c9 hF
      refine gj_iload_n (q := 13) (gj_dk okX5_slotOf 6 rfl) rfl rfl ?_
      subst hF
      exact gj_iret (gj_dk okX5_slotOf 7 rfl) rfl ⟨_, rfl, rfl, rfl, rfl⟩
def f_X11_person (a1 : Int) (a2 : Int) (M : gj_M) : Int :=
  gj_letI (f_X5_slotOf a1 M) (fun x1 => (if x1 = -1 then (-2147483648) else (if a2 = 0 then (f_at M 15 8 x1) else (if a2 = 1 then (f_num (f_at M 22 8 x1)) else (if a2 = 2 then (f_at M 23 8 x1) else (-2147483648))))))
set_option maxHeartbeats 4000000 in
set_option maxRecDepth 20000 in
theorem t_X11_person (hst : gj_Stat S) (a1 a2 : Int) {r : Int} (hF : f_X11_person a1 a2 M = r) : gj_C G l 2 0 0 yX11_person cX11_person 4 (some .int) [jR 0, jI a1, jI a2] S M (gj_qI fun x S' M' => r = x ∧ S = S' ∧ M = M') := by
  refine gj_Cof (by decide +kernel) (Nat.le_of_ble_eq_true rfl) ?_
  change gj_W G l 2 0 0 yX11_person cX11_person 4 (some .int) (gj_qI fun x S' M' => r = x ∧ S = S' ∧ M = M') 0 0 0 [(0, jR 0), (1, jI a1), (2, jI a2)] [] S M
  unfold f_X11_person at hF
  refine gj_aload_n (q := 1) (gj_dk okX11_person 0 rfl) rfl rfl ?_
  refine gj_gR (q := 4) (j := 3) (gj_dk okX11_person 1 rfl) ff_X11_32 (sh0 hst) (by decide) rfl (rf0_3 hst) rfl ?_
  refine gj_iload_n (q := 5) (gj_dk okX11_person 2 rfl) rfl rfl ?_
  refine gj_callV (q := 8) (z := 14) (ci := 5) [jI a1] rfl (t_X5_slotOf hst a1 rfl) (gj_dk okX11_person 3 rfl) ml_X11_131 me_X5_slotOf (sh14 hst) rfl (gj_nm rfl) rfl (gj_kI fun x S2 M2 h => ?_)
  obtain ⟨e, eS, eM⟩ := h; subst eS; subst eM; subst e
  refine gj_stpI hF (fun x1 hF => ?_)
  refine gj_istore_n (q := 9) (gj_dk okX11_person 4 rfl) (by decide) rfl ?_
  refine gj_iload_n (q := 10) (gj_dk okX11_person 5 rfl) rfl rfl ?_
  refine gj_iconst (q := 11) (gj_dk okX11_person 6 rfl) (by decide) rfl ?_
  refine gj_icmp_ne (q := 14) (tgt := 17) (gj_dk okX11_person 7 rfl) (by decide) rfl (fun c11 => ?_) (fun c11 => ?_)
  · -- 17
    replace hF := gj_iff c11 hF
    refine gj_iload_n (q := 18) (gj_dk okX11_person 10 rfl) rfl rfl ?_
    by_cases c18_0 : a2 = 0
    · refine gj_tabIn (tgt := 44) (off := 26) 0 (gj_dk okX11_person 11 rfl) c18_0 ⟨by decide, by decide, rfl⟩ (by decide) ?_
      replace hF := gj_ift c18_0 hF
      refine gj_aload_n (q := 45) (gj_dk okX11_person 12 rfl) rfl rfl ?_
      refine gj_gR (q := 48) (j := 3) (gj_dk okX11_person 13 rfl) ff_X11_32 (sh0 hst) (by decide) rfl (rf0_3 hst) rfl ?_
      refine gj_gR (q := 51) (j := 10) (gj_dk okX11_person 14 rfl) ff_X11_136 (sh14 hst) (by decide) rfl (rf14_10 hst) rfl ?_
      refine gj_iload_n (q := 52) (gj_dk okX11_person 15 rfl) rfl rfl ?_
      refine gj_callS (q := 55) [jR 15, jI x1] rfl (c_X7_at (sh15 hst) (by decide) (by decide) _) (gj_dk okX11_person 16 rfl) ml_X11_139 me_X7_at (gj_nm rfl) rfl (gj_kI fun x S2 M2 h => ?_)
      obtain ⟨e, eS, eM⟩ := h; subst eS; subst eM; subst e
      subst hF
      exact gj_iret (gj_dk okX11_person 17 rfl) rfl ⟨_, rfl, rfl, rfl, rfl⟩
    replace hF := gj_iff c18_0 hF
    by_cases c18_1 : a2 = 1
    · refine gj_tabIn (tgt := 56) (off := 38) 1 (gj_dk okX11_person 11 rfl) c18_1 ⟨by decide, by decide, rfl⟩ (by decide) ?_
      replace hF := gj_ift c18_1 hF
      refine gj_aload_n (q := 57) (gj_dk okX11_person 18 rfl) rfl rfl ?_
      refine gj_gR (q := 60) (j := 4) (gj_dk okX11_person 19 rfl) ff_X11_38 (sh0 hst) (by decide) rfl (rf0_4 hst) rfl ?_
      refine gj_gR (q := 63) (j := 3) (gj_dk okX11_person 20 rfl) ff_X11_143 (sh21 hst) (by decide) rfl (rf21_3 hst) rfl ?_
      refine gj_iload_n (q := 64) (gj_dk okX11_person 21 rfl) rfl rfl ?_
      refine gj_callS (q := 67) [jR 22, jI x1] rfl (c_X7_at (sh22 hst) (by decide) (by decide) _) (gj_dk okX11_person 22 rfl) ml_X11_139 me_X7_at (gj_nm rfl) rfl (gj_kI fun x S2 M2 h => ?_)
      obtain ⟨e, eS, eM⟩ := h; subst eS; subst eM; subst e
      refine gj_callS (q := 70) [jI (f_at M 22 8 x1)] rfl (c_X10_numberOf _) (gj_dk okX11_person 23 rfl) ml_X11_146 me_X10_numberOf (gj_nm rfl) rfl (gj_kI fun x S2 M2 h => ?_)
      obtain ⟨e, eS, eM⟩ := h; subst eS; subst eM; subst e
      subst hF
      exact gj_iret (gj_dk okX11_person 24 rfl) rfl ⟨_, rfl, rfl, rfl, rfl⟩
    replace hF := gj_iff c18_1 hF
    by_cases c18_2 : a2 = 2
    · refine gj_tabIn (tgt := 71) (off := 53) 2 (gj_dk okX11_person 11 rfl) c18_2 ⟨by decide, by decide, rfl⟩ (by decide) ?_
      replace hF := gj_ift c18_2 hF
      refine gj_aload_n (q := 72) (gj_dk okX11_person 25 rfl) rfl rfl ?_
      refine gj_gR (q := 75) (j := 4) (gj_dk okX11_person 26 rfl) ff_X11_38 (sh0 hst) (by decide) rfl (rf0_4 hst) rfl ?_
      refine gj_gR (q := 78) (j := 4) (gj_dk okX11_person 27 rfl) ff_X11_151 (sh21 hst) (by decide) rfl (rf21_4 hst) rfl ?_
      refine gj_iload_n (q := 79) (gj_dk okX11_person 28 rfl) rfl rfl ?_
      refine gj_callS (q := 82) [jR 23, jI x1] rfl (c_X7_at (sh23 hst) (by decide) (by decide) _) (gj_dk okX11_person 29 rfl) ml_X11_139 me_X7_at (gj_nm rfl) rfl (gj_kI fun x S2 M2 h => ?_)
      obtain ⟨e, eS, eM⟩ := h; subst eS; subst eM; subst e
      subst hF
      exact gj_iret (gj_dk okX11_person 30 rfl) rfl ⟨_, rfl, rfl, rfl, rfl⟩
    replace hF := gj_iff c18_2 hF
    refine gj_tabOut (tgt := 83) (gj_dk okX11_person 11 rfl) (by omega) (by decide) ?_
    refine gj_ldc (q := 85) (z := -2147483648) (gj_dk okX11_person 31 rfl) kc_X11_135 (by decide) rfl ?_
    subst hF
    exact gj_iret (gj_dk okX11_person 32 rfl) rfl ⟨_, rfl, rfl, rfl, rfl⟩
  · -- 14
    replace hF := gj_ift c11 hF
    refine gj_ldc (q := 16) (z := -2147483648) (gj_dk okX11_person 8 rfl) kc_X11_135 (by decide) rfl ?_
    subst hF
    exact gj_iret (gj_dk okX11_person 9 rfl) rfl ⟨_, rfl, rfl, rfl, rfl⟩
def f_X11_earned (a1 : Int) (M : gj_M) : Int :=
  gj_letI (f_X5_slotOf a1 M) (fun x1 => (if x1 = -1 then (-2147483648) else (f_at M 25 8 x1)))
set_option maxHeartbeats 4000000 in
set_option maxRecDepth 20000 in
theorem t_X11_earned (hst : gj_Stat S) (a1 : Int) {r : Int} (hF : f_X11_earned a1 M = r) : gj_C G l 2 0 0 yX11_earned cX11_earned 3 (some .int) [jR 0, jI a1] S M (gj_qI fun x S' M' => r = x ∧ S = S' ∧ M = M') := by
  refine gj_Cof (by decide +kernel) (Nat.le_of_ble_eq_true rfl) ?_
  change gj_W G l 2 0 0 yX11_earned cX11_earned 3 (some .int) (gj_qI fun x S' M' => r = x ∧ S = S' ∧ M = M') 0 0 0 [(0, jR 0), (1, jI a1)] [] S M
  unfold f_X11_earned at hF
  refine gj_aload_n (q := 1) (gj_dk okX11_earned 0 rfl) rfl rfl ?_
  refine gj_gR (q := 4) (j := 3) (gj_dk okX11_earned 1 rfl) ff_X11_32 (sh0 hst) (by decide) rfl (rf0_3 hst) rfl ?_
  refine gj_iload_n (q := 5) (gj_dk okX11_earned 2 rfl) rfl rfl ?_
  refine gj_callV (q := 8) (z := 14) (ci := 5) [jI a1] rfl (t_X5_slotOf hst a1 rfl) (gj_dk okX11_earned 3 rfl) ml_X11_131 me_X5_slotOf (sh14 hst) rfl (gj_nm rfl) rfl (gj_kI fun x S2 M2 h => ?_)
  obtain ⟨e, eS, eM⟩ := h; subst eS; subst eM; subst e
  refine gj_stpI hF (fun x1 hF => ?_)
  refine gj_istore_n (q := 9) (gj_dk okX11_earned 4 rfl) (by decide) rfl ?_
  refine gj_iload_n (q := 10) (gj_dk okX11_earned 5 rfl) rfl rfl ?_
  refine gj_iconst (q := 11) (gj_dk okX11_earned 6 rfl) (by decide) rfl ?_
  refine gj_icmp_ne (q := 14) (tgt := 19) (gj_dk okX11_earned 7 rfl) (by decide) rfl (fun c11 => ?_) (fun c11 => ?_)
  · -- 19
    replace hF := gj_iff c11 hF
    refine gj_aload_n (q := 20) (gj_dk okX11_earned 10 rfl) rfl rfl ?_
    refine gj_gR (q := 23) (j := 4) (gj_dk okX11_earned 11 rfl) ff_X11_38 (sh0 hst) (by decide) rfl (rf0_4 hst) rfl ?_
    refine gj_gR (q := 26) (j := 6) (gj_dk okX11_earned 12 rfl) ff_X11_154 (sh21 hst) (by decide) rfl (rf21_6 hst) rfl ?_
    refine gj_iload_n (q := 27) (gj_dk okX11_earned 13 rfl) rfl rfl ?_
    refine gj_callS (q := 30) [jR 25, jI x1] rfl (c_X7_at (sh25 hst) (by decide) (by decide) _) (gj_dk okX11_earned 14 rfl) ml_X11_139 me_X7_at (gj_nm rfl) rfl (gj_kI fun x S2 M2 h => ?_)
    obtain ⟨e, eS, eM⟩ := h; subst eS; subst eM; subst e
    subst hF
    exact gj_iret (gj_dk okX11_earned 15 rfl) rfl ⟨_, rfl, rfl, rfl, rfl⟩
  · -- 14
    replace hF := gj_ift c11 hF
    refine gj_ldc (q := 16) (z := -2147483648) (gj_dk okX11_earned 8 rfl) kc_X11_135 (by decide) rfl ?_
    refine gj_goto (tgt := 30) (gj_dk okX11_earned 9 rfl) (by decide) ?_
    subst hF
    exact gj_iret (gj_dk okX11_earned 15 rfl) rfl ⟨_, rfl, rfl, rfl, rfl⟩
def f_X3_arePair (a1 : Int) (a2 : Int) (M : gj_M) : Int :=
  (if a1 = -1 then (0) else (if a2 = -1 then (0) else (if f_at M 22 8 a1 = a2 then (1) else (0))))
set_option maxHeartbeats 4000000 in
set_option maxRecDepth 20000 in
theorem t_X3_arePair (hst : gj_Stat S) (a1 a2 : Int) {r : Int} (hF : f_X3_arePair a1 a2 M = r) : gj_C G l 2 0 0 yX3_arePair cX3_arePair 3 (some .boolean) [jR 21, jI a1, jI a2] S M (gj_qI fun x S' M' => (x = 0 ∨ x = 1) ∧ r = x ∧ S = S' ∧ M = M') := by
  refine gj_Cof (by decide +kernel) (Nat.le_of_ble_eq_true rfl) ?_
  change gj_W G l 2 0 0 yX3_arePair cX3_arePair 3 (some .boolean) (gj_qI fun x S' M' => (x = 0 ∨ x = 1) ∧ r = x ∧ S = S' ∧ M = M') 0 0 0 [(0, jR 21), (1, jI a1), (2, jI a2)] [] S M
  unfold f_X3_arePair at hF
  refine gj_iload_n (q := 1) (gj_dk okX3_arePair 0 rfl) rfl rfl ?_
  refine gj_iconst (q := 2) (gj_dk okX3_arePair 1 rfl) (by decide) rfl ?_
  refine gj_icmp_eq (q := 5) (tgt := 26) (gj_dk okX3_arePair 2 rfl) (by decide) rfl (fun c2 => ?_) (fun c2 => ?_)
  · -- 26
    replace hF := gj_ift c2 hF
    refine gj_iconst (q := 27) (gj_dk okX3_arePair 14 rfl) (by decide) rfl ?_
    subst hF
    exact gj_zret (gj_dk okX3_arePair 15 rfl) rfl (by decide) ⟨_, rfl, (by decide), rfl, rfl, rfl⟩
  · -- 5
    replace hF := gj_iff c2 hF
    refine gj_iload_n (q := 6) (gj_dk okX3_arePair 3 rfl) rfl rfl ?_
    refine gj_iconst (q := 7) (gj_dk okX3_arePair 4 rfl) (by decide) rfl ?_
    refine gj_icmp_eq (q := 10) (tgt := 26) (gj_dk okX3_arePair 5 rfl) (by decide) rfl (fun c7 => ?_) (fun c7 => ?_)
    · -- 26
      replace hF := gj_ift c7 hF
      refine gj_iconst (q := 27) (gj_dk okX3_arePair 14 rfl) (by decide) rfl ?_
      subst hF
      exact gj_zret (gj_dk okX3_arePair 15 rfl) rfl (by decide) ⟨_, rfl, (by decide), rfl, rfl, rfl⟩
    · -- 10
      replace hF := gj_iff c7 hF
      refine gj_aload_n (q := 11) (gj_dk okX3_arePair 6 rfl) rfl rfl ?_
      refine gj_gR (q := 14) (j := 3) (gj_dk okX3_arePair 7 rfl) ff_X3_9 (sh21 hst) (by decide) rfl (rf21_3 hst) rfl ?_
      refine gj_iload_n (q := 15) (gj_dk okX3_arePair 8 rfl) rfl rfl ?_
      refine gj_callS (q := 18) [jR 22, jI a1] rfl (c_X7_at (sh22 hst) (by decide) (by decide) _) (gj_dk okX3_arePair 9 rfl) ml_X3_75 me_X7_at (gj_nm rfl) rfl (gj_kI fun x S2 M2 h => ?_)
      obtain ⟨e, eS, eM⟩ := h; subst eS; subst eM; subst e
      refine gj_iload_n (q := 19) (gj_dk okX3_arePair 10 rfl) rfl rfl ?_
      refine gj_icmp_ne (q := 22) (tgt := 26) (gj_dk okX3_arePair 11 rfl) (by decide) rfl (fun c19 => ?_) (fun c19 => ?_)
      · -- 26
        replace hF := gj_iff c19 hF
        refine gj_iconst (q := 27) (gj_dk okX3_arePair 14 rfl) (by decide) rfl ?_
        subst hF
        exact gj_zret (gj_dk okX3_arePair 15 rfl) rfl (by decide) ⟨_, rfl, (by decide), rfl, rfl, rfl⟩
      · -- 22
        replace hF := gj_ift c19 hF
        refine gj_iconst (q := 23) (gj_dk okX3_arePair 12 rfl) (by decide) rfl ?_
        refine gj_goto (tgt := 27) (gj_dk okX3_arePair 13 rfl) (by decide) ?_
        subst hF
        exact gj_zret (gj_dk okX3_arePair 15 rfl) rfl (by decide) ⟨_, rfl, (by decide), rfl, rfl, rfl⟩
def f_X11_two (a1 : Int) (a2 : Int) (a3 : Int) (M : gj_M) : Int :=
  gj_letI (f_X5_slotOf a1 M) (fun x1 => gj_letI (f_X5_slotOf a2 M) (fun x2 => (if f_unl x1 x2 = 0 then (-1) else (if a3 = 0 then (f_at M 26 16 (f_cpl x1 x2)) else (if a3 = 1 then (f_at M 27 16 (f_cpl x1 x2)) else (if a3 = 2 then (f_at M 28 16 (f_cpl x1 x2)) else (if a3 = 3 then (f_at M 19 16 (f_cpl x1 x2)) else (if a3 = 4 then gj_letI (f_X3_arePair x1 x2 M) (fun x3 => (if x3 = 0 then (0) else (f_at M 24 8 x1))) else (-1)))))))))
set_option maxHeartbeats 4000000 in
set_option maxRecDepth 20000 in
theorem t_X11_two (hst : gj_Stat S) (a1 a2 a3 : Int) {r : Int} (hF : f_X11_two a1 a2 a3 M = r) : gj_C G l 3 0 0 yX11_two cX11_two 7 (some .int) [jR 0, jI a1, jI a2, jI a3] S M (gj_qI fun x S' M' => r = x ∧ S = S' ∧ M = M') := by
  refine gj_Cof (by decide +kernel) (Nat.le_of_ble_eq_true rfl) ?_
  change gj_W G l 3 0 0 yX11_two cX11_two 7 (some .int) (gj_qI fun x S' M' => r = x ∧ S = S' ∧ M = M') 0 0 0 [(0, jR 0), (1, jI a1), (2, jI a2), (3, jI a3)] [] S M
  unfold f_X11_two at hF
  refine gj_aload_n (q := 1) (gj_dk okX11_two 0 rfl) rfl rfl ?_
  refine gj_gR (q := 4) (j := 3) (gj_dk okX11_two 1 rfl) ff_X11_32 (sh0 hst) (by decide) rfl (rf0_3 hst) rfl ?_
  refine gj_iload_n (q := 5) (gj_dk okX11_two 2 rfl) rfl rfl ?_
  refine gj_callV (q := 8) (z := 14) (ci := 5) [jI a1] rfl (t_X5_slotOf hst a1 rfl) (gj_dk okX11_two 3 rfl) ml_X11_131 me_X5_slotOf (sh14 hst) rfl (gj_nm rfl) rfl (gj_kI fun x S2 M2 h => ?_)
  obtain ⟨e, eS, eM⟩ := h; subst eS; subst eM; subst e
  refine gj_stpI hF (fun x1 hF => ?_)
  refine gj_istore (q := 10) (gj_dk okX11_two 4 rfl) (by decide) rfl ?_
  refine gj_aload_n (q := 11) (gj_dk okX11_two 5 rfl) rfl rfl ?_
  refine gj_gR (q := 14) (j := 3) (gj_dk okX11_two 6 rfl) ff_X11_32 (sh0 hst) (by decide) rfl (rf0_3 hst) rfl ?_
  refine gj_iload_n (q := 15) (gj_dk okX11_two 7 rfl) rfl rfl ?_
  refine gj_callV (q := 18) (z := 14) (ci := 5) [jI a2] rfl (t_X5_slotOf hst a2 rfl) (gj_dk okX11_two 8 rfl) ml_X11_131 me_X5_slotOf (sh14 hst) rfl (gj_nm rfl) rfl (gj_kI fun x S2 M2 h => ?_)
  obtain ⟨e, eS, eM⟩ := h; subst eS; subst eM; subst e
  refine gj_stpI hF (fun x2 hF => ?_)
  refine gj_istore (q := 20) (gj_dk okX11_two 9 rfl) (by decide) rfl ?_
  refine gj_iload (q := 22) (gj_dk okX11_two 10 rfl) rfl rfl ?_
  refine gj_iload (q := 24) (gj_dk okX11_two 11 rfl) rfl rfl ?_
  refine gj_callS (q := 27) [jI x1, jI x2] rfl (c_X10_unlike _ _) (gj_dk okX11_two 12 rfl) ml_X11_157 me_X10_unlike (gj_nm rfl) rfl (gj_kI fun x S2 M2 h => ?_)
  obtain ⟨e, eS, eM⟩ := h; subst eS; subst eM; subst e
  refine gj_if_ne (q := 30) (tgt := 32) (gj_dk okX11_two 13 rfl) (by decide) rfl (fun c27 => ?_) (fun c27 => ?_)
  · -- 32
    replace hF := gj_iff c27 hF
    refine gj_iload (q := 34) (gj_dk okX11_two 16 rfl) rfl rfl ?_
    refine gj_iload (q := 36) (gj_dk okX11_two 17 rfl) rfl rfl ?_
    refine gj_callS (q := 39) [jI x1, jI x2] rfl (c_X10_couple _ _) (gj_dk okX11_two 18 rfl) ml_X11_161 me_X10_couple (gj_nm rfl) rfl (gj_kI fun x S2 M2 h => ?_)
    obtain ⟨e, eS, eM⟩ := h; subst eS; subst eM; subst e
    refine gj_istore (q := 41) (gj_dk okX11_two 19 rfl) (by decide) rfl ?_
    refine gj_iload_n (q := 42) (gj_dk okX11_two 20 rfl) rfl rfl ?_
    by_cases c42_0 : a3 = 0
    · refine gj_tabIn (tgt := 76) (off := 34) 0 (gj_dk okX11_two 21 rfl) c42_0 ⟨by decide, by decide, rfl⟩ (by decide) ?_
      replace hF := gj_ift c42_0 hF
      refine gj_aload_n (q := 77) (gj_dk okX11_two 22 rfl) rfl rfl ?_
      refine gj_gR (q := 80) (j := 4) (gj_dk okX11_two 23 rfl) ff_X11_38 (sh0 hst) (by decide) rfl (rf0_4 hst) rfl ?_
      refine gj_gR (q := 83) (j := 7) (gj_dk okX11_two 24 rfl) ff_X11_165 (sh21 hst) (by decide) rfl (rf21_7 hst) rfl ?_
      refine gj_iload (q := 85) (gj_dk okX11_two 25 rfl) rfl rfl ?_
      refine gj_callS (q := 88) [jR 26, jI (f_cpl x1 x2)] rfl (c_X7_at (sh26 hst) (by decide) (by decide) _) (gj_dk okX11_two 26 rfl) ml_X11_139 me_X7_at (gj_nm rfl) rfl (gj_kI fun x S2 M2 h => ?_)
      obtain ⟨e, eS, eM⟩ := h; subst eS; subst eM; subst e
      subst hF
      exact gj_iret (gj_dk okX11_two 27 rfl) rfl ⟨_, rfl, rfl, rfl, rfl⟩
    replace hF := gj_iff c42_0 hF
    by_cases c42_1 : a3 = 1
    · refine gj_tabIn (tgt := 89) (off := 47) 1 (gj_dk okX11_two 21 rfl) c42_1 ⟨by decide, by decide, rfl⟩ (by decide) ?_
      replace hF := gj_ift c42_1 hF
      refine gj_aload_n (q := 90) (gj_dk okX11_two 28 rfl) rfl rfl ?_
      refine gj_gR (q := 93) (j := 4) (gj_dk okX11_two 29 rfl) ff_X11_38 (sh0 hst) (by decide) rfl (rf0_4 hst) rfl ?_
      refine gj_gR (q := 96) (j := 8) (gj_dk okX11_two 30 rfl) ff_X11_168 (sh21 hst) (by decide) rfl (rf21_8 hst) rfl ?_
      refine gj_iload (q := 98) (gj_dk okX11_two 31 rfl) rfl rfl ?_
      refine gj_callS (q := 101) [jR 27, jI (f_cpl x1 x2)] rfl (c_X7_at (sh27 hst) (by decide) (by decide) _) (gj_dk okX11_two 32 rfl) ml_X11_139 me_X7_at (gj_nm rfl) rfl (gj_kI fun x S2 M2 h => ?_)
      obtain ⟨e, eS, eM⟩ := h; subst eS; subst eM; subst e
      subst hF
      exact gj_iret (gj_dk okX11_two 33 rfl) rfl ⟨_, rfl, rfl, rfl, rfl⟩
    replace hF := gj_iff c42_1 hF
    by_cases c42_2 : a3 = 2
    · refine gj_tabIn (tgt := 102) (off := 60) 2 (gj_dk okX11_two 21 rfl) c42_2 ⟨by decide, by decide, rfl⟩ (by decide) ?_
      replace hF := gj_ift c42_2 hF
      refine gj_aload_n (q := 103) (gj_dk okX11_two 34 rfl) rfl rfl ?_
      refine gj_gR (q := 106) (j := 4) (gj_dk okX11_two 35 rfl) ff_X11_38 (sh0 hst) (by decide) rfl (rf0_4 hst) rfl ?_
      refine gj_gR (q := 109) (j := 9) (gj_dk okX11_two 36 rfl) ff_X11_171 (sh21 hst) (by decide) rfl (rf21_9 hst) rfl ?_
      refine gj_iload (q := 111) (gj_dk okX11_two 37 rfl) rfl rfl ?_
      refine gj_callS (q := 114) [jR 28, jI (f_cpl x1 x2)] rfl (c_X7_at (sh28 hst) (by decide) (by decide) _) (gj_dk okX11_two 38 rfl) ml_X11_139 me_X7_at (gj_nm rfl) rfl (gj_kI fun x S2 M2 h => ?_)
      obtain ⟨e, eS, eM⟩ := h; subst eS; subst eM; subst e
      subst hF
      exact gj_iret (gj_dk okX11_two 39 rfl) rfl ⟨_, rfl, rfl, rfl, rfl⟩
    replace hF := gj_iff c42_2 hF
    by_cases c42_3 : a3 = 3
    · refine gj_tabIn (tgt := 115) (off := 73) 3 (gj_dk okX11_two 21 rfl) c42_3 ⟨by decide, by decide, rfl⟩ (by decide) ?_
      replace hF := gj_ift c42_3 hF
      refine gj_aload_n (q := 116) (gj_dk okX11_two 40 rfl) rfl rfl ?_
      refine gj_gR (q := 119) (j := 3) (gj_dk okX11_two 41 rfl) ff_X11_32 (sh0 hst) (by decide) rfl (rf0_3 hst) rfl ?_
      refine gj_gR (q := 122) (j := 14) (gj_dk okX11_two 42 rfl) ff_X11_174 (sh14 hst) (by decide) rfl (rf14_14 hst) rfl ?_
      refine gj_iload (q := 124) (gj_dk okX11_two 43 rfl) rfl rfl ?_
      refine gj_callS (q := 127) [jR 19, jI (f_cpl x1 x2)] rfl (c_X7_at (sh19 hst) (by decide) (by decide) _) (gj_dk okX11_two 44 rfl) ml_X11_139 me_X7_at (gj_nm rfl) rfl (gj_kI fun x S2 M2 h => ?_)
      obtain ⟨e, eS, eM⟩ := h; subst eS; subst eM; subst e
      subst hF
      exact gj_iret (gj_dk okX11_two 45 rfl) rfl ⟨_, rfl, rfl, rfl, rfl⟩
    replace hF := gj_iff c42_3 hF
    by_cases c42_4 : a3 = 4
    · refine gj_tabIn (tgt := 128) (off := 86) 4 (gj_dk okX11_two 21 rfl) c42_4 ⟨by decide, by decide, rfl⟩ (by decide) ?_
      replace hF := gj_ift c42_4 hF
      refine gj_aload_n (q := 129) (gj_dk okX11_two 46 rfl) rfl rfl ?_
      refine gj_gR (q := 132) (j := 4) (gj_dk okX11_two 47 rfl) ff_X11_38 (sh0 hst) (by decide) rfl (rf0_4 hst) rfl ?_
      refine gj_iload (q := 134) (gj_dk okX11_two 48 rfl) rfl rfl ?_
      refine gj_iload (q := 136) (gj_dk okX11_two 49 rfl) rfl rfl ?_
      refine gj_callV (q := 139) (z := 21) (ci := 3) [jI x1, jI x2] rfl (t_X3_arePair hst x1 x2 rfl) (gj_dk okX11_two 50 rfl) ml_X11_177 me_X3_arePair (sh21 hst) rfl (gj_nm rfl) rfl (gj_kI fun x S2 M2 h => ?_)
      obtain ⟨bz, e, eS, eM⟩ := h; subst eS; subst eM; subst e
      refine gj_stpZ bz hF (fun x3 bx3 hF => ?_)
      refine gj_if_eq (q := 142) (tgt := 157) (gj_dk okX11_two 51 rfl) (by decide) rfl (fun c139 => ?_) (fun c139 => ?_)
      · -- 157
        replace hF := gj_ift c139 hF
        refine gj_iconst (q := 158) (gj_dk okX11_two 58 rfl) (by decide) rfl ?_
        subst hF
        exact gj_iret (gj_dk okX11_two 59 rfl) rfl ⟨_, rfl, rfl, rfl, rfl⟩
      · -- 142
        replace hF := gj_iff c139 hF
        refine gj_aload_n (q := 143) (gj_dk okX11_two 52 rfl) rfl rfl ?_
        refine gj_gR (q := 146) (j := 4) (gj_dk okX11_two 53 rfl) ff_X11_38 (sh0 hst) (by decide) rfl (rf0_4 hst) rfl ?_
        refine gj_gR (q := 149) (j := 5) (gj_dk okX11_two 54 rfl) ff_X11_180 (sh21 hst) (by decide) rfl (rf21_5 hst) rfl ?_
        refine gj_iload (q := 151) (gj_dk okX11_two 55 rfl) rfl rfl ?_
        refine gj_callS (q := 154) [jR 24, jI x1] rfl (c_X7_at (sh24 hst) (by decide) (by decide) _) (gj_dk okX11_two 56 rfl) ml_X11_139 me_X7_at (gj_nm rfl) rfl (gj_kI fun x S2 M2 h => ?_)
        obtain ⟨e, eS, eM⟩ := h; subst eS; subst eM; subst e
        refine gj_goto (tgt := 158) (gj_dk okX11_two 57 rfl) (by decide) ?_
        subst hF
        exact gj_iret (gj_dk okX11_two 59 rfl) rfl ⟨_, rfl, rfl, rfl, rfl⟩
    replace hF := gj_iff c42_4 hF
    refine gj_tabOut (tgt := 159) (gj_dk okX11_two 21 rfl) (by omega) (by decide) ?_
    refine gj_iconst (q := 160) (gj_dk okX11_two 60 rfl) (by decide) rfl ?_
    subst hF
    exact gj_iret (gj_dk okX11_two 61 rfl) rfl ⟨_, rfl, rfl, rfl, rfl⟩
  · -- 30
    replace hF := gj_ift c27 hF
    refine gj_iconst (q := 31) (gj_dk okX11_two 14 rfl) (by decide) rfl ?_
    subst hF
    exact gj_iret (gj_dk okX11_two 15 rfl) rfl ⟨_, rfl, rfl, rfl, rfl⟩
def f_X11_think (a1 : Int) (a2 : Int) (a3 : Int) (M : gj_M) : Int :=
  gj_letI (f_X5_slotOf a1 M) (fun x1 => gj_letI (f_X5_slotOf a2 M) (fun x2 => (if f_unl x1 x2 = 0 then (-1) else (if a3 = 0 then (f_at M 16 32 (f_vw x1 x2)) else (if a3 = 1 then (f_at M 17 32 (f_vw x1 x2)) else (if a3 = 2 then (f_at M 18 32 (f_vw x1 x2)) else (-1)))))))
set_option maxHeartbeats 4000000 in
set_option maxRecDepth 20000 in
theorem t_X11_think (hst : gj_Stat S) (a1 a2 a3 : Int) {r : Int} (hF : f_X11_think a1 a2 a3 M = r) : gj_C G l 2 0 0 yX11_think cX11_think 7 (some .int) [jR 0, jI a1, jI a2, jI a3] S M (gj_qI fun x S' M' => r = x ∧ S = S' ∧ M = M') := by
  refine gj_Cof (by decide +kernel) (Nat.le_of_ble_eq_true rfl) ?_
  change gj_W G l 2 0 0 yX11_think cX11_think 7 (some .int) (gj_qI fun x S' M' => r = x ∧ S = S' ∧ M = M') 0 0 0 [(0, jR 0), (1, jI a1), (2, jI a2), (3, jI a3)] [] S M
  unfold f_X11_think at hF
  refine gj_aload_n (q := 1) (gj_dk okX11_think 0 rfl) rfl rfl ?_
  refine gj_gR (q := 4) (j := 3) (gj_dk okX11_think 1 rfl) ff_X11_32 (sh0 hst) (by decide) rfl (rf0_3 hst) rfl ?_
  refine gj_iload_n (q := 5) (gj_dk okX11_think 2 rfl) rfl rfl ?_
  refine gj_callV (q := 8) (z := 14) (ci := 5) [jI a1] rfl (t_X5_slotOf hst a1 rfl) (gj_dk okX11_think 3 rfl) ml_X11_131 me_X5_slotOf (sh14 hst) rfl (gj_nm rfl) rfl (gj_kI fun x S2 M2 h => ?_)
  obtain ⟨e, eS, eM⟩ := h; subst eS; subst eM; subst e
  refine gj_stpI hF (fun x1 hF => ?_)
  refine gj_istore (q := 10) (gj_dk okX11_think 4 rfl) (by decide) rfl ?_
  refine gj_aload_n (q := 11) (gj_dk okX11_think 5 rfl) rfl rfl ?_
  refine gj_gR (q := 14) (j := 3) (gj_dk okX11_think 6 rfl) ff_X11_32 (sh0 hst) (by decide) rfl (rf0_3 hst) rfl ?_
  refine gj_iload_n (q := 15) (gj_dk okX11_think 7 rfl) rfl rfl ?_
  refine gj_callV (q := 18) (z := 14) (ci := 5) [jI a2] rfl (t_X5_slotOf hst a2 rfl) (gj_dk okX11_think 8 rfl) ml_X11_131 me_X5_slotOf (sh14 hst) rfl (gj_nm rfl) rfl (gj_kI fun x S2 M2 h => ?_)
  obtain ⟨e, eS, eM⟩ := h; subst eS; subst eM; subst e
  refine gj_stpI hF (fun x2 hF => ?_)
  refine gj_istore (q := 20) (gj_dk okX11_think 9 rfl) (by decide) rfl ?_
  refine gj_iload (q := 22) (gj_dk okX11_think 10 rfl) rfl rfl ?_
  refine gj_iload (q := 24) (gj_dk okX11_think 11 rfl) rfl rfl ?_
  refine gj_callS (q := 27) [jI x1, jI x2] rfl (c_X10_unlike _ _) (gj_dk okX11_think 12 rfl) ml_X11_157 me_X10_unlike (gj_nm rfl) rfl (gj_kI fun x S2 M2 h => ?_)
  obtain ⟨e, eS, eM⟩ := h; subst eS; subst eM; subst e
  refine gj_if_ne (q := 30) (tgt := 32) (gj_dk okX11_think 13 rfl) (by decide) rfl (fun c27 => ?_) (fun c27 => ?_)
  · -- 32
    replace hF := gj_iff c27 hF
    refine gj_iload (q := 34) (gj_dk okX11_think 16 rfl) rfl rfl ?_
    refine gj_iload (q := 36) (gj_dk okX11_think 17 rfl) rfl rfl ?_
    refine gj_callS (q := 39) [jI x1, jI x2] rfl (c_X10_view _ _) (gj_dk okX11_think 18 rfl) ml_X11_183 me_X10_view (gj_nm rfl) rfl (gj_kI fun x S2 M2 h => ?_)
    obtain ⟨e, eS, eM⟩ := h; subst eS; subst eM; subst e
    refine gj_istore (q := 41) (gj_dk okX11_think 19 rfl) (by decide) rfl ?_
    refine gj_iload_n (q := 42) (gj_dk okX11_think 20 rfl) rfl rfl ?_
    by_cases c42_0 : a3 = 0
    · refine gj_tabIn (tgt := 68) (off := 26) 0 (gj_dk okX11_think 21 rfl) c42_0 ⟨by decide, by decide, rfl⟩ (by decide) ?_
      replace hF := gj_ift c42_0 hF
      refine gj_aload_n (q := 69) (gj_dk okX11_think 22 rfl) rfl rfl ?_
      refine gj_gR (q := 72) (j := 3) (gj_dk okX11_think 23 rfl) ff_X11_32 (sh0 hst) (by decide) rfl (rf0_3 hst) rfl ?_
      refine gj_gR (q := 75) (j := 11) (gj_dk okX11_think 24 rfl) ff_X11_186 (sh14 hst) (by decide) rfl (rf14_11 hst) rfl ?_
      refine gj_iload (q := 77) (gj_dk okX11_think 25 rfl) rfl rfl ?_
      refine gj_callS (q := 80) [jR 16, jI (f_vw x1 x2)] rfl (c_X7_at (sh16 hst) (by decide) (by decide) _) (gj_dk okX11_think 26 rfl) ml_X11_139 me_X7_at (gj_nm rfl) rfl (gj_kI fun x S2 M2 h => ?_)
      obtain ⟨e, eS, eM⟩ := h; subst eS; subst eM; subst e
      subst hF
      exact gj_iret (gj_dk okX11_think 27 rfl) rfl ⟨_, rfl, rfl, rfl, rfl⟩
    replace hF := gj_iff c42_0 hF
    by_cases c42_1 : a3 = 1
    · refine gj_tabIn (tgt := 81) (off := 39) 1 (gj_dk okX11_think 21 rfl) c42_1 ⟨by decide, by decide, rfl⟩ (by decide) ?_
      replace hF := gj_ift c42_1 hF
      refine gj_aload_n (q := 82) (gj_dk okX11_think 28 rfl) rfl rfl ?_
      refine gj_gR (q := 85) (j := 3) (gj_dk okX11_think 29 rfl) ff_X11_32 (sh0 hst) (by decide) rfl (rf0_3 hst) rfl ?_
      refine gj_gR (q := 88) (j := 12) (gj_dk okX11_think 30 rfl) ff_X11_189 (sh14 hst) (by decide) rfl (rf14_12 hst) rfl ?_
      refine gj_iload (q := 90) (gj_dk okX11_think 31 rfl) rfl rfl ?_
      refine gj_callS (q := 93) [jR 17, jI (f_vw x1 x2)] rfl (c_X7_at (sh17 hst) (by decide) (by decide) _) (gj_dk okX11_think 32 rfl) ml_X11_139 me_X7_at (gj_nm rfl) rfl (gj_kI fun x S2 M2 h => ?_)
      obtain ⟨e, eS, eM⟩ := h; subst eS; subst eM; subst e
      subst hF
      exact gj_iret (gj_dk okX11_think 33 rfl) rfl ⟨_, rfl, rfl, rfl, rfl⟩
    replace hF := gj_iff c42_1 hF
    by_cases c42_2 : a3 = 2
    · refine gj_tabIn (tgt := 94) (off := 52) 2 (gj_dk okX11_think 21 rfl) c42_2 ⟨by decide, by decide, rfl⟩ (by decide) ?_
      replace hF := gj_ift c42_2 hF
      refine gj_aload_n (q := 95) (gj_dk okX11_think 34 rfl) rfl rfl ?_
      refine gj_gR (q := 98) (j := 3) (gj_dk okX11_think 35 rfl) ff_X11_32 (sh0 hst) (by decide) rfl (rf0_3 hst) rfl ?_
      refine gj_gR (q := 101) (j := 13) (gj_dk okX11_think 36 rfl) ff_X11_192 (sh14 hst) (by decide) rfl (rf14_13 hst) rfl ?_
      refine gj_iload (q := 103) (gj_dk okX11_think 37 rfl) rfl rfl ?_
      refine gj_callS (q := 106) [jR 18, jI (f_vw x1 x2)] rfl (c_X7_at (sh18 hst) (by decide) (by decide) _) (gj_dk okX11_think 38 rfl) ml_X11_139 me_X7_at (gj_nm rfl) rfl (gj_kI fun x S2 M2 h => ?_)
      obtain ⟨e, eS, eM⟩ := h; subst eS; subst eM; subst e
      subst hF
      exact gj_iret (gj_dk okX11_think 39 rfl) rfl ⟨_, rfl, rfl, rfl, rfl⟩
    replace hF := gj_iff c42_2 hF
    refine gj_tabOut (tgt := 107) (gj_dk okX11_think 21 rfl) (by omega) (by decide) ?_
    refine gj_iconst (q := 108) (gj_dk okX11_think 40 rfl) (by decide) rfl ?_
    subst hF
    exact gj_iret (gj_dk okX11_think 41 rfl) rfl ⟨_, rfl, rfl, rfl, rfl⟩
  · -- 30
    replace hF := gj_ift c27 hF
    refine gj_iconst (q := 31) (gj_dk okX11_think 14 rfl) (by decide) rfl ?_
    subst hF
    exact gj_iret (gj_dk okX11_think 15 rfl) rfl ⟨_, rfl, rfl, rfl, rfl⟩
def F_X5_shownRight (a1 : Int) (a2 : Int) (a3 : Int) (M : gj_M) : Option (Int) :=
  gj_bnd (F_X5_rightAfter a1 a2 a3 M) (fun x1 => gj_bnd (F_X5_otherAfter a1 a2 a3 M) (fun x3 => (if 0 < gj_wl (x1 + x3) then gj_chk (¬ gj_wl (x1 + x3) = 0) ((some (gj_w (gj_wl (Int.tdiv (gj_wl (1000 * x1)) (gj_wl (x1 + x3))))))) else (some (0)))))
set_option maxHeartbeats 4000000 in
set_option maxRecDepth 20000 in
theorem t_X5_shownRight (hst : gj_Stat S) (a1 a2 a3 : Int) {r : Int} (hF : F_X5_shownRight a1 a2 a3 M = some r) : gj_C G l 3 0 0 yX5_shownRight cX5_shownRight 8 (some .int) [jR 14, jI a1, jI a2, jI a3] S M (gj_qI fun x S' M' => r = x ∧ S = S' ∧ M = M') := by
  refine gj_Cof (by decide +kernel) (Nat.le_of_ble_eq_true rfl) ?_
  change gj_W G l 3 0 0 yX5_shownRight cX5_shownRight 8 (some .int) (gj_qI fun x S' M' => r = x ∧ S = S' ∧ M = M') 0 0 0 [(0, jR 14), (1, jI a1), (2, jI a2), (3, jI a3)] [] S M
  unfold F_X5_shownRight at hF
  refine gj_aload_n (q := 1) (gj_dk okX5_shownRight 0 rfl) rfl rfl ?_
  refine gj_iload_n (q := 2) (gj_dk okX5_shownRight 1 rfl) rfl rfl ?_
  refine gj_iload_n (q := 3) (gj_dk okX5_shownRight 2 rfl) rfl rfl ?_
  refine gj_iload_n (q := 4) (gj_dk okX5_shownRight 3 rfl) rfl rfl ?_
  obtain ⟨x1, hG, hF⟩ := gj_bndd hF
  refine gj_callV (q := 7) (z := 14) (ci := 5) [jI a1, jI a2, jI a3] rfl (t_X5_rightAfter hst a1 a2 a3 hG) (gj_dk okX5_shownRight 4 rfl) ml_X5_74 me_X5_rightAfter (sh14 hst) rfl (gj_nm rfl) rfl (gj_kL fun y S2 M2 h => ?_)
  obtain ⟨e, eS, eM⟩ := h; subst eS; subst eM; subst e; clear hG
  refine gj_lstore (q := 9) (gj_dk okX5_shownRight 5 rfl) (by decide) rfl ?_
  refine gj_lload (q := 11) (gj_dk okX5_shownRight 6 rfl) rfl rfl ?_
  refine gj_aload_n (q := 12) (gj_dk okX5_shownRight 7 rfl) rfl rfl ?_
  refine gj_iload_n (q := 13) (gj_dk okX5_shownRight 8 rfl) rfl rfl ?_
  refine gj_iload_n (q := 14) (gj_dk okX5_shownRight 9 rfl) rfl rfl ?_
  refine gj_iload_n (q := 15) (gj_dk okX5_shownRight 10 rfl) rfl rfl ?_
  obtain ⟨x3, hG, hF⟩ := gj_bndd hF
  refine gj_callV (q := 18) (z := 14) (ci := 5) [jI a1, jI a2, jI a3] rfl (t_X5_otherAfter hst a1 a2 a3 hG) (gj_dk okX5_shownRight 11 rfl) ml_X5_78 me_X5_otherAfter (sh14 hst) rfl (gj_nm rfl) rfl (gj_kL fun y S2 M2 h => ?_)
  obtain ⟨e, eS, eM⟩ := h; subst eS; subst eM; subst e; clear hG
  refine gj_ladd (q := 19) (gj_dk okX5_shownRight 12 rfl) rfl ?_
  refine gj_lstore (q := 21) (gj_dk okX5_shownRight 13 rfl) (by decide) rfl ?_
  refine gj_lload (q := 23) (gj_dk okX5_shownRight 14 rfl) rfl rfl ?_
  refine gj_lconst (q := 24) (z := 0) (gj_dk okX5_shownRight 15 rfl) rfl (by decide) rfl ?_
  refine gj_lcmp (q := 25) (gj_dk okX5_shownRight 16 rfl) rfl ?_
  refine gj_if_gt (q := 28) (tgt := 32) (gj_dk okX5_shownRight 17 rfl) (by decide) rfl (fun c25 => ?_) (fun c25 => ?_)
  · -- 32
    replace c25 := gj_cm_gt.mp c25
    replace hF := gj_ift c25 hF
    refine gj_ldc2 (q := 35) (z := 1000) (gj_dk okX5_shownRight 20 rfl) kl_X5_81 (by decide) rfl ?_
    refine gj_lload (q := 37) (gj_dk okX5_shownRight 21 rfl) rfl rfl ?_
    refine gj_lmul (q := 38) (gj_dk okX5_shownRight 22 rfl) rfl ?_
    refine gj_lload (q := 40) (gj_dk okX5_shownRight 23 rfl) rfl rfl ?_
    obtain ⟨b5, hF⟩ := gj_ckd hF
    refine gj_ldiv (q := 41) (gj_dk okX5_shownRight 24 rfl) b5 rfl ?_
    refine gj_l2i (q := 42) (gj_dk okX5_shownRight 25 rfl) rfl ?_
    cases hF
    exact gj_iret (gj_dk okX5_shownRight 26 rfl) rfl ⟨_, rfl, rfl, rfl, rfl⟩
  · -- 28
    replace c25 := gj_cm_gtn.mp c25
    replace hF := gj_iff c25 hF
    refine gj_iconst (q := 29) (gj_dk okX5_shownRight 18 rfl) (by decide) rfl ?_
    refine gj_goto (tgt := 42) (gj_dk okX5_shownRight 19 rfl) (by decide) ?_
    cases hF
    exact gj_iret (gj_dk okX5_shownRight 26 rfl) rfl ⟨_, rfl, rfl, rfl, rfl⟩
def f_X5_shownGood (a1 : Int) (a2 : Int) (a3 : Int) (M : gj_M) : Int :=
  (f_at M 20 800 (gj_w ((gj_w ((gj_w ((gj_w (a1 * 5)) + a2)) * 5)) + a3)))
set_option maxHeartbeats 4000000 in
set_option maxRecDepth 20000 in
theorem t_X5_shownGood (hst : gj_Stat S) (a1 a2 a3 : Int) {r : Int} (hF : f_X5_shownGood a1 a2 a3 M = r) : gj_C G l 2 0 0 yX5_shownGood cX5_shownGood 4 (some .int) [jR 14, jI a1, jI a2, jI a3] S M (gj_qI fun x S' M' => r = x ∧ S = S' ∧ M = M') := by
  refine gj_Cof (by decide +kernel) (Nat.le_of_ble_eq_true rfl) ?_
  change gj_W G l 2 0 0 yX5_shownGood cX5_shownGood 4 (some .int) (gj_qI fun x S' M' => r = x ∧ S = S' ∧ M = M') 0 0 0 [(0, jR 14), (1, jI a1), (2, jI a2), (3, jI a3)] [] S M
  unfold f_X5_shownGood at hF
  refine gj_aload_n (q := 1) (gj_dk okX5_shownGood 0 rfl) rfl rfl ?_
  refine gj_gR (q := 4) (j := 15) (gj_dk okX5_shownGood 1 rfl) ff_X5_27 (sh14 hst) (by decide) rfl (rf14_15 hst) rfl ?_
  refine gj_iload_n (q := 5) (gj_dk okX5_shownGood 2 rfl) rfl rfl ?_
  refine gj_iconst (q := 6) (gj_dk okX5_shownGood 3 rfl) (by decide) rfl ?_
  refine gj_imul (q := 7) (gj_dk okX5_shownGood 4 rfl) rfl ?_
  refine gj_iload_n (q := 8) (gj_dk okX5_shownGood 5 rfl) rfl rfl ?_
  refine gj_iadd (q := 9) (gj_dk okX5_shownGood 6 rfl) rfl ?_
  refine gj_iconst (q := 10) (gj_dk okX5_shownGood 7 rfl) (by decide) rfl ?_
  refine gj_imul (q := 11) (gj_dk okX5_shownGood 8 rfl) rfl ?_
  refine gj_iload_n (q := 12) (gj_dk okX5_shownGood 9 rfl) rfl rfl ?_
  refine gj_iadd (q := 13) (gj_dk okX5_shownGood 10 rfl) rfl ?_
  refine gj_callS (q := 16) [jR 20, jI (gj_w ((gj_w ((gj_w ((gj_w (a1 * 5)) + a2)) * 5)) + a3))] rfl (c_X7_at (sh20 hst) (by decide) (by decide) _) (gj_dk okX5_shownGood 11 rfl) ml_X5_83 me_X7_at (gj_nm rfl) rfl (gj_kI fun x S2 M2 h => ?_)
  obtain ⟨e, eS, eM⟩ := h; subst eS; subst eM; subst e
  subst hF
  exact gj_iret (gj_dk okX5_shownGood 12 rfl) rfl ⟨_, rfl, rfl, rfl, rfl⟩
def F_X11_shown (a1 : Int) (a2 : Int) (a3 : Int) (M : gj_M) : Option (Int) :=
  gj_letI (f_X5_slotOf a1 M) (fun x1 => gj_letI (f_X5_slotOf a2 M) (fun x2 => (if f_unl x1 x2 = 0 then (some (-1)) else gj_letI (f_at M 26 16 (f_cpl x1 x2)) (fun x3 => gj_letI (f_at M 27 16 (f_cpl x1 x2)) (fun x4 => (if a3 = 0 then gj_bnd (F_X5_shownRight (f_vw x1 x2) x3 x4 M) (fun x5 => (some (x5))) else (if a3 = 1 then gj_letI (f_X5_shownGood (f_vw x1 x2) x3 x4 M) (fun x7 => (some (x7))) else (some (-1)))))))))
set_option maxHeartbeats 4000000 in
set_option maxRecDepth 20000 in
theorem t_X11_shown (hst : gj_Stat S) (a1 a2 a3 : Int) {r : Int} (hF : F_X11_shown a1 a2 a3 M = some r) : gj_C G l 4 0 0 yX11_shown cX11_shown 10 (some .int) [jR 0, jI a1, jI a2, jI a3] S M (gj_qI fun x S' M' => r = x ∧ S = S' ∧ M = M') := by
  refine gj_Cof (by decide +kernel) (Nat.le_of_ble_eq_true rfl) ?_
  change gj_W G l 4 0 0 yX11_shown cX11_shown 10 (some .int) (gj_qI fun x S' M' => r = x ∧ S = S' ∧ M = M') 0 0 0 [(0, jR 0), (1, jI a1), (2, jI a2), (3, jI a3)] [] S M
  unfold F_X11_shown at hF
  refine gj_aload_n (q := 1) (gj_dk okX11_shown 0 rfl) rfl rfl ?_
  refine gj_gR (q := 4) (j := 3) (gj_dk okX11_shown 1 rfl) ff_X11_32 (sh0 hst) (by decide) rfl (rf0_3 hst) rfl ?_
  refine gj_iload_n (q := 5) (gj_dk okX11_shown 2 rfl) rfl rfl ?_
  refine gj_callV (q := 8) (z := 14) (ci := 5) [jI a1] rfl (t_X5_slotOf hst a1 rfl) (gj_dk okX11_shown 3 rfl) ml_X11_131 me_X5_slotOf (sh14 hst) rfl (gj_nm rfl) rfl (gj_kI fun x S2 M2 h => ?_)
  obtain ⟨e, eS, eM⟩ := h; subst eS; subst eM; subst e
  refine gj_stpI hF (fun x1 hF => ?_)
  refine gj_istore (q := 10) (gj_dk okX11_shown 4 rfl) (by decide) rfl ?_
  refine gj_aload_n (q := 11) (gj_dk okX11_shown 5 rfl) rfl rfl ?_
  refine gj_gR (q := 14) (j := 3) (gj_dk okX11_shown 6 rfl) ff_X11_32 (sh0 hst) (by decide) rfl (rf0_3 hst) rfl ?_
  refine gj_iload_n (q := 15) (gj_dk okX11_shown 7 rfl) rfl rfl ?_
  refine gj_callV (q := 18) (z := 14) (ci := 5) [jI a2] rfl (t_X5_slotOf hst a2 rfl) (gj_dk okX11_shown 8 rfl) ml_X11_131 me_X5_slotOf (sh14 hst) rfl (gj_nm rfl) rfl (gj_kI fun x S2 M2 h => ?_)
  obtain ⟨e, eS, eM⟩ := h; subst eS; subst eM; subst e
  refine gj_stpI hF (fun x2 hF => ?_)
  refine gj_istore (q := 20) (gj_dk okX11_shown 9 rfl) (by decide) rfl ?_
  refine gj_iload (q := 22) (gj_dk okX11_shown 10 rfl) rfl rfl ?_
  refine gj_iload (q := 24) (gj_dk okX11_shown 11 rfl) rfl rfl ?_
  refine gj_callS (q := 27) [jI x1, jI x2] rfl (c_X10_unlike _ _) (gj_dk okX11_shown 12 rfl) ml_X11_157 me_X10_unlike (gj_nm rfl) rfl (gj_kI fun x S2 M2 h => ?_)
  obtain ⟨e, eS, eM⟩ := h; subst eS; subst eM; subst e
  refine gj_if_ne (q := 30) (tgt := 32) (gj_dk okX11_shown 13 rfl) (by decide) rfl (fun c27 => ?_) (fun c27 => ?_)
  · -- 32
    replace hF := gj_iff c27 hF
    refine gj_iload (q := 34) (gj_dk okX11_shown 16 rfl) rfl rfl ?_
    refine gj_iload (q := 36) (gj_dk okX11_shown 17 rfl) rfl rfl ?_
    refine gj_callS (q := 39) [jI x1, jI x2] rfl (c_X10_view _ _) (gj_dk okX11_shown 18 rfl) ml_X11_183 me_X10_view (gj_nm rfl) rfl (gj_kI fun x S2 M2 h => ?_)
    obtain ⟨e, eS, eM⟩ := h; subst eS; subst eM; subst e
    refine gj_istore (q := 41) (gj_dk okX11_shown 19 rfl) (by decide) rfl ?_
    refine gj_iload (q := 43) (gj_dk okX11_shown 20 rfl) rfl rfl ?_
    refine gj_iload (q := 45) (gj_dk okX11_shown 21 rfl) rfl rfl ?_
    refine gj_callS (q := 48) [jI x1, jI x2] rfl (c_X10_couple _ _) (gj_dk okX11_shown 22 rfl) ml_X11_161 me_X10_couple (gj_nm rfl) rfl (gj_kI fun x S2 M2 h => ?_)
    obtain ⟨e, eS, eM⟩ := h; subst eS; subst eM; subst e
    refine gj_istore (q := 50) (gj_dk okX11_shown 23 rfl) (by decide) rfl ?_
    refine gj_aload_n (q := 51) (gj_dk okX11_shown 24 rfl) rfl rfl ?_
    refine gj_gR (q := 54) (j := 4) (gj_dk okX11_shown 25 rfl) ff_X11_38 (sh0 hst) (by decide) rfl (rf0_4 hst) rfl ?_
    refine gj_gR (q := 57) (j := 7) (gj_dk okX11_shown 26 rfl) ff_X11_165 (sh21 hst) (by decide) rfl (rf21_7 hst) rfl ?_
    refine gj_iload (q := 59) (gj_dk okX11_shown 27 rfl) rfl rfl ?_
    refine gj_callS (q := 62) [jR 26, jI (f_cpl x1 x2)] rfl (c_X7_at (sh26 hst) (by decide) (by decide) _) (gj_dk okX11_shown 28 rfl) ml_X11_139 me_X7_at (gj_nm rfl) rfl (gj_kI fun x S2 M2 h => ?_)
    obtain ⟨e, eS, eM⟩ := h; subst eS; subst eM; subst e
    refine gj_stpI hF (fun x3 hF => ?_)
    refine gj_istore (q := 64) (gj_dk okX11_shown 29 rfl) (by decide) rfl ?_
    refine gj_aload_n (q := 65) (gj_dk okX11_shown 30 rfl) rfl rfl ?_
    refine gj_gR (q := 68) (j := 4) (gj_dk okX11_shown 31 rfl) ff_X11_38 (sh0 hst) (by decide) rfl (rf0_4 hst) rfl ?_
    refine gj_gR (q := 71) (j := 8) (gj_dk okX11_shown 32 rfl) ff_X11_168 (sh21 hst) (by decide) rfl (rf21_8 hst) rfl ?_
    refine gj_iload (q := 73) (gj_dk okX11_shown 33 rfl) rfl rfl ?_
    refine gj_callS (q := 76) [jR 27, jI (f_cpl x1 x2)] rfl (c_X7_at (sh27 hst) (by decide) (by decide) _) (gj_dk okX11_shown 34 rfl) ml_X11_139 me_X7_at (gj_nm rfl) rfl (gj_kI fun x S2 M2 h => ?_)
    obtain ⟨e, eS, eM⟩ := h; subst eS; subst eM; subst e
    refine gj_stpI hF (fun x4 hF => ?_)
    refine gj_istore (q := 78) (gj_dk okX11_shown 35 rfl) (by decide) rfl ?_
    refine gj_iload_n (q := 79) (gj_dk okX11_shown 36 rfl) rfl rfl ?_
    by_cases c79_0 : a3 = 0
    · refine gj_lookup (tgt := 104) (off := 25) (gj_dk okX11_shown 37 rfl) (by decide) (by rw [c79_0]; rfl) (by decide) ?_
      replace hF := gj_ift c79_0 hF
      refine gj_aload_n (q := 105) (gj_dk okX11_shown 38 rfl) rfl rfl ?_
      refine gj_gR (q := 108) (j := 3) (gj_dk okX11_shown 39 rfl) ff_X11_32 (sh0 hst) (by decide) rfl (rf0_3 hst) rfl ?_
      refine gj_iload (q := 110) (gj_dk okX11_shown 40 rfl) rfl rfl ?_
      refine gj_iload (q := 112) (gj_dk okX11_shown 41 rfl) rfl rfl ?_
      refine gj_iload (q := 114) (gj_dk okX11_shown 42 rfl) rfl rfl ?_
      obtain ⟨x5, hG, hF⟩ := gj_bndd hF
      refine gj_callV (q := 117) (z := 14) (ci := 5) [jI (f_vw x1 x2), jI x3, jI x4] rfl (t_X5_shownRight hst (f_vw x1 x2) x3 x4 hG) (gj_dk okX11_shown 43 rfl) ml_X11_195 me_X5_shownRight (sh14 hst) rfl (gj_nm rfl) rfl (gj_kI fun y S2 M2 h => ?_)
      obtain ⟨e, eS, eM⟩ := h; subst eS; subst eM; subst e; clear hG
      cases hF
      exact gj_iret (gj_dk okX11_shown 44 rfl) rfl ⟨_, rfl, rfl, rfl, rfl⟩
    replace hF := gj_iff c79_0 hF
    by_cases c79_1 : a3 = 1
    · refine gj_lookup (tgt := 118) (off := 39) (gj_dk okX11_shown 37 rfl) (by decide) (by rw [c79_1]; rfl) (by decide) ?_
      replace hF := gj_ift c79_1 hF
      refine gj_aload_n (q := 119) (gj_dk okX11_shown 45 rfl) rfl rfl ?_
      refine gj_gR (q := 122) (j := 3) (gj_dk okX11_shown 46 rfl) ff_X11_32 (sh0 hst) (by decide) rfl (rf0_3 hst) rfl ?_
      refine gj_iload (q := 124) (gj_dk okX11_shown 47 rfl) rfl rfl ?_
      refine gj_iload (q := 126) (gj_dk okX11_shown 48 rfl) rfl rfl ?_
      refine gj_iload (q := 128) (gj_dk okX11_shown 49 rfl) rfl rfl ?_
      refine gj_callV (q := 131) (z := 14) (ci := 5) [jI (f_vw x1 x2), jI x3, jI x4] rfl (t_X5_shownGood hst (f_vw x1 x2) x3 x4 rfl) (gj_dk okX11_shown 50 rfl) ml_X11_199 me_X5_shownGood (sh14 hst) rfl (gj_nm rfl) rfl (gj_kI fun x S2 M2 h => ?_)
      obtain ⟨e, eS, eM⟩ := h; subst eS; subst eM; subst e
      refine gj_stpI hF (fun x7 hF => ?_)
      cases hF
      exact gj_iret (gj_dk okX11_shown 51 rfl) rfl ⟨_, rfl, rfl, rfl, rfl⟩
    replace hF := gj_iff c79_1 hF
    refine gj_lookup (tgt := 132) (off := 53) (gj_dk okX11_shown 37 rfl) (by decide) (by simp [Op.lookupswitch.offset, c79_0, Ne.symm c79_0, c79_1, Ne.symm c79_1]) (by decide) ?_
    refine gj_iconst (q := 133) (gj_dk okX11_shown 52 rfl) (by decide) rfl ?_
    cases hF
    exact gj_iret (gj_dk okX11_shown 53 rfl) rfl ⟨_, rfl, rfl, rfl, rfl⟩
  · -- 30
    replace hF := gj_ift c27 hF
    refine gj_iconst (q := 31) (gj_dk okX11_shown 14 rfl) (by decide) rfl ?_
    cases hF
    exact gj_iret (gj_dk okX11_shown 15 rfl) rfl ⟨_, rfl, rfl, rfl, rfl⟩
def f_X5_gain (a1 : Int) (a2 : Int) (a3 : Int) (M : gj_M) : Int :=
  gj_letI (f_X5_shownGood a1 a2 a3 M) (fun x1 => (gj_w ((gj_w (x1 * (M 14 2))) + (gj_w ((gj_w (1000 - x1)) * (M 14 3))))))
set_option maxHeartbeats 4000000 in
set_option maxRecDepth 20000 in
theorem t_X5_gain (hst : gj_Stat S) (a1 a2 a3 : Int) {r : Int} (hF : f_X5_gain a1 a2 a3 M = r) : gj_C G l 3 0 0 yX5_gain cX5_gain 5 (some .int) [jR 14, jI a1, jI a2, jI a3] S M (gj_qI fun x S' M' => r = x ∧ S = S' ∧ M = M') := by
  refine gj_Cof (by decide +kernel) (Nat.le_of_ble_eq_true rfl) ?_
  change gj_W G l 3 0 0 yX5_gain cX5_gain 5 (some .int) (gj_qI fun x S' M' => r = x ∧ S = S' ∧ M = M') 0 0 0 [(0, jR 14), (1, jI a1), (2, jI a2), (3, jI a3)] [] S M
  unfold f_X5_gain at hF
  refine gj_aload_n (q := 1) (gj_dk okX5_gain 0 rfl) rfl rfl ?_
  refine gj_iload_n (q := 2) (gj_dk okX5_gain 1 rfl) rfl rfl ?_
  refine gj_iload_n (q := 3) (gj_dk okX5_gain 2 rfl) rfl rfl ?_
  refine gj_iload_n (q := 4) (gj_dk okX5_gain 3 rfl) rfl rfl ?_
  refine gj_callV (q := 7) (z := 14) (ci := 5) [jI a1, jI a2, jI a3] rfl (t_X5_shownGood hst a1 a2 a3 rfl) (gj_dk okX5_gain 4 rfl) ml_X5_87 me_X5_shownGood (sh14 hst) rfl (gj_nm rfl) rfl (gj_kI fun x S2 M2 h => ?_)
  obtain ⟨e, eS, eM⟩ := h; subst eS; subst eM; subst e
  refine gj_stpI hF (fun x1 hF => ?_)
  refine gj_istore (q := 9) (gj_dk okX5_gain 5 rfl) (by decide) rfl ?_
  refine gj_iload (q := 11) (gj_dk okX5_gain 6 rfl) rfl rfl ?_
  refine gj_aload_n (q := 12) (gj_dk okX5_gain 7 rfl) rfl rfl ?_
  refine gj_gI (q := 15) (j := 2) (gj_dk okX5_gain 8 rfl) ff_X5_37 (sh14 hst) (by decide) rfl rfl ?_
  refine gj_imul (q := 16) (gj_dk okX5_gain 9 rfl) rfl ?_
  refine gj_sipush (q := 19) (gj_dk okX5_gain 10 rfl) (by decide) rfl rfl ?_
  refine gj_iload (q := 21) (gj_dk okX5_gain 11 rfl) rfl rfl ?_
  refine gj_isub (q := 22) (gj_dk okX5_gain 12 rfl) rfl ?_
  refine gj_aload_n (q := 23) (gj_dk okX5_gain 13 rfl) rfl rfl ?_
  refine gj_gI (q := 26) (j := 3) (gj_dk okX5_gain 14 rfl) ff_X5_40 (sh14 hst) (by decide) rfl rfl ?_
  refine gj_imul (q := 27) (gj_dk okX5_gain 15 rfl) rfl ?_
  refine gj_iadd (q := 28) (gj_dk okX5_gain 16 rfl) rfl ?_
  subst hF
  exact gj_iret (gj_dk okX5_gain 17 rfl) rfl ⟨_, rfl, rfl, rfl, rfl⟩
def J_X2_likingOf_49 (M : gj_M) (l1 l2 l4 l5 s0 : Int) : Int :=
  gj_letI (f_X5_gain (f_vw l1 l2) l5 s0 M) (fun x1 => (gj_w (x1 + (gj_w ((gj_w (1000 * (M 14 7))) * (f_at M 28 16 l4))))))
def J_X2_likingOf_27 (M : gj_M) (l1 l2 l3 l4 s0 : Int) : Int :=
  (if l3 = 0 then (J_X2_likingOf_49 M l1 l2 l4 s0 0) else (J_X2_likingOf_49 M l1 l2 l4 s0 (f_at M 27 16 l4)))
def f_X2_likingOf (a1 : Int) (a2 : Int) (a3 : Int) (M : gj_M) : Int :=
  (if a3 = 0 then (J_X2_likingOf_27 M a1 a2 a3 (f_cpl a1 a2) 0) else (J_X2_likingOf_27 M a1 a2 a3 (f_cpl a1 a2) (f_at M 26 16 (f_cpl a1 a2))))
set_option maxHeartbeats 4000000 in
set_option maxRecDepth 20000 in
theorem t_J_X2_likingOf_49 (hst : gj_Stat S) {r : Int} (l1 l2 l4 l5 s0 : Int) (hF : J_X2_likingOf_49 M l1 l2 l4 l5 s0 = r) : gj_W G l 4 0 0 yX2_likingOf cX2_likingOf 8 (some .int) (gj_qI fun x S' M' => r = x ∧ S = S' ∧ M = M') 0 0 49 [(0, jR 35), (1, jI l1), (2, jI l2), (4, jI l4), (5, jI l5)] [jI s0] S M := by
  unfold J_X2_likingOf_49 at hF
  refine gj_istore (q := 51) (gj_dk okX2_likingOf 23 rfl) (by decide) rfl ?_
  refine gj_aload_n (q := 52) (gj_dk okX2_likingOf 24 rfl) rfl rfl ?_
  refine gj_gR (q := 55) (j := 0) (gj_dk okX2_likingOf 25 rfl) ff_X2_28 (sh35 hst) (by decide) rfl (rf35_0 hst) rfl ?_
  refine gj_iload_n (q := 56) (gj_dk okX2_likingOf 26 rfl) rfl rfl ?_
  refine gj_iload_n (q := 57) (gj_dk okX2_likingOf 27 rfl) rfl rfl ?_
  refine gj_callS (q := 60) [jI l1, jI l2] rfl (c_X10_view _ _) (gj_dk okX2_likingOf 28 rfl) ml_X2_55 me_X10_view (gj_nm rfl) rfl (gj_kI fun x S2 M2 h => ?_)
  obtain ⟨e, eS, eM⟩ := h; subst eS; subst eM; subst e
  refine gj_iload (q := 62) (gj_dk okX2_likingOf 29 rfl) rfl rfl ?_
  refine gj_iload (q := 64) (gj_dk okX2_likingOf 30 rfl) rfl rfl ?_
  refine gj_callV (q := 67) (z := 14) (ci := 5) [jI (f_vw l1 l2), jI l5, jI s0] rfl (t_X5_gain hst (f_vw l1 l2) l5 s0 rfl) (gj_dk okX2_likingOf 31 rfl) ml_X2_117 me_X5_gain (sh14 hst) rfl (gj_nm rfl) rfl (gj_kI fun x S2 M2 h => ?_)
  obtain ⟨e, eS, eM⟩ := h; subst eS; subst eM; subst e
  refine gj_stpI hF (fun x1 hF => ?_)
  refine gj_istore (q := 69) (gj_dk okX2_likingOf 32 rfl) (by decide) rfl ?_
  refine gj_iload (q := 71) (gj_dk okX2_likingOf 33 rfl) rfl rfl ?_
  refine gj_sipush (q := 74) (gj_dk okX2_likingOf 34 rfl) (by decide) rfl rfl ?_
  refine gj_aload_n (q := 75) (gj_dk okX2_likingOf 35 rfl) rfl rfl ?_
  refine gj_gR (q := 78) (j := 0) (gj_dk okX2_likingOf 36 rfl) ff_X2_28 (sh35 hst) (by decide) rfl (rf35_0 hst) rfl ?_
  refine gj_gI (q := 81) (j := 7) (gj_dk okX2_likingOf 37 rfl) ff_X2_121 (sh14 hst) (by decide) rfl rfl ?_
  refine gj_imul (q := 82) (gj_dk okX2_likingOf 38 rfl) rfl ?_
  refine gj_aload_n (q := 83) (gj_dk okX2_likingOf 39 rfl) rfl rfl ?_
  refine gj_gR (q := 86) (j := 1) (gj_dk okX2_likingOf 40 rfl) ff_X2_32 (sh35 hst) (by decide) rfl (rf35_1 hst) rfl ?_
  refine gj_gR (q := 89) (j := 9) (gj_dk okX2_likingOf 41 rfl) ff_X2_125 (sh21 hst) (by decide) rfl (rf21_9 hst) rfl ?_
  refine gj_iload (q := 91) (gj_dk okX2_likingOf 42 rfl) rfl rfl ?_
  refine gj_callS (q := 94) [jR 28, jI l4] rfl (c_X7_at (sh28 hst) (by decide) (by decide) _) (gj_dk okX2_likingOf 43 rfl) ml_X2_39 me_X7_at (gj_nm rfl) rfl (gj_kI fun x S2 M2 h => ?_)
  obtain ⟨e, eS, eM⟩ := h; subst eS; subst eM; subst e
  refine gj_imul (q := 95) (gj_dk okX2_likingOf 44 rfl) rfl ?_
  refine gj_iadd (q := 96) (gj_dk okX2_likingOf 45 rfl) rfl ?_
  subst hF
  exact gj_iret (gj_dk okX2_likingOf 46 rfl) rfl ⟨_, rfl, rfl, rfl, rfl⟩
set_option maxHeartbeats 4000000 in
set_option maxRecDepth 20000 in
theorem t_J_X2_likingOf_27 (hst : gj_Stat S) {r : Int} (l1 l2 l3 l4 s0 : Int) (hF : J_X2_likingOf_27 M l1 l2 l3 l4 s0 = r) : gj_W G l 4 0 0 yX2_likingOf cX2_likingOf 8 (some .int) (gj_qI fun x S' M' => r = x ∧ S = S' ∧ M = M') 0 0 27 [(0, jR 35), (1, jI l1), (2, jI l2), (3, jI l3), (4, jI l4)] [jI s0] S M := by
  unfold J_X2_likingOf_27 at hF
  refine gj_istore (q := 29) (gj_dk okX2_likingOf 13 rfl) (by decide) rfl ?_
  refine gj_iload_n (q := 30) (gj_dk okX2_likingOf 14 rfl) rfl rfl ?_
  refine gj_if_eq (q := 33) (tgt := 48) (gj_dk okX2_likingOf 15 rfl) (by decide) rfl (fun c30 => ?_) (fun c30 => ?_)
  · -- 48
    replace hF := gj_ift c30 hF
    refine gj_iconst (q := 49) (gj_dk okX2_likingOf 22 rfl) (by decide) rfl ?_
    refine gj_sub [(0, jR 35), (1, jI l1), (2, jI l2), (4, jI l4), (5, jI s0)] ⟨rfl, rfl, rfl, rfl, rfl, trivial⟩ ?_
    exact t_J_X2_likingOf_49 hst l1 l2 l4 s0 0 hF
  · -- 33
    replace hF := gj_iff c30 hF
    refine gj_aload_n (q := 34) (gj_dk okX2_likingOf 16 rfl) rfl rfl ?_
    refine gj_gR (q := 37) (j := 1) (gj_dk okX2_likingOf 17 rfl) ff_X2_32 (sh35 hst) (by decide) rfl (rf35_1 hst) rfl ?_
    refine gj_gR (q := 40) (j := 8) (gj_dk okX2_likingOf 18 rfl) ff_X2_114 (sh21 hst) (by decide) rfl (rf21_8 hst) rfl ?_
    refine gj_iload (q := 42) (gj_dk okX2_likingOf 19 rfl) rfl rfl ?_
    refine gj_callS (q := 45) [jR 27, jI l4] rfl (c_X7_at (sh27 hst) (by decide) (by decide) _) (gj_dk okX2_likingOf 20 rfl) ml_X2_39 me_X7_at (gj_nm rfl) rfl (gj_kI fun x S2 M2 h => ?_)
    obtain ⟨e, eS, eM⟩ := h; subst eS; subst eM; subst e
    refine gj_goto (tgt := 49) (gj_dk okX2_likingOf 21 rfl) (by decide) ?_
    refine gj_sub [(0, jR 35), (1, jI l1), (2, jI l2), (4, jI l4), (5, jI s0)] ⟨rfl, rfl, rfl, rfl, rfl, trivial⟩ ?_
    exact t_J_X2_likingOf_49 hst l1 l2 l4 s0 (f_at M 27 16 l4) hF
set_option maxHeartbeats 4000000 in
set_option maxRecDepth 20000 in
theorem t_X2_likingOf (hst : gj_Stat S) (a1 a2 a3 : Int) {r : Int} (hF : f_X2_likingOf a1 a2 a3 M = r) : gj_C G l 4 0 0 yX2_likingOf cX2_likingOf 8 (some .int) [jR 35, jI a1, jI a2, jI a3] S M (gj_qI fun x S' M' => r = x ∧ S = S' ∧ M = M') := by
  refine gj_Cof (by decide +kernel) (Nat.le_of_ble_eq_true rfl) ?_
  change gj_W G l 4 0 0 yX2_likingOf cX2_likingOf 8 (some .int) (gj_qI fun x S' M' => r = x ∧ S = S' ∧ M = M') 0 0 0 [(0, jR 35), (1, jI a1), (2, jI a2), (3, jI a3)] [] S M
  unfold f_X2_likingOf at hF
  refine gj_iload_n (q := 1) (gj_dk okX2_likingOf 0 rfl) rfl rfl ?_
  refine gj_iload_n (q := 2) (gj_dk okX2_likingOf 1 rfl) rfl rfl ?_
  refine gj_callS (q := 5) [jI a1, jI a2] rfl (c_X10_couple _ _) (gj_dk okX2_likingOf 2 rfl) ml_X2_69 me_X10_couple (gj_nm rfl) rfl (gj_kI fun x S2 M2 h => ?_)
  obtain ⟨e, eS, eM⟩ := h; subst eS; subst eM; subst e
  refine gj_istore (q := 7) (gj_dk okX2_likingOf 3 rfl) (by decide) rfl ?_
  refine gj_iload_n (q := 8) (gj_dk okX2_likingOf 4 rfl) rfl rfl ?_
  refine gj_if_eq (q := 11) (tgt := 26) (gj_dk okX2_likingOf 5 rfl) (by decide) rfl (fun c8 => ?_) (fun c8 => ?_)
  · -- 26
    replace hF := gj_ift c8 hF
    refine gj_iconst (q := 27) (gj_dk okX2_likingOf 12 rfl) (by decide) rfl ?_
    refine gj_sub [(0, jR 35), (1, jI a1), (2, jI a2), (3, jI a3), (4, jI (f_cpl a1 a2))] ⟨rfl, rfl, rfl, rfl, rfl, trivial⟩ ?_
    exact t_J_X2_likingOf_27 hst a1 a2 a3 (f_cpl a1 a2) 0 hF
  · -- 11
    replace hF := gj_iff c8 hF
    refine gj_aload_n (q := 12) (gj_dk okX2_likingOf 6 rfl) rfl rfl ?_
    refine gj_gR (q := 15) (j := 1) (gj_dk okX2_likingOf 7 rfl) ff_X2_32 (sh35 hst) (by decide) rfl (rf35_1 hst) rfl ?_
    refine gj_gR (q := 18) (j := 7) (gj_dk okX2_likingOf 8 rfl) ff_X2_111 (sh21 hst) (by decide) rfl (rf21_7 hst) rfl ?_
    refine gj_iload (q := 20) (gj_dk okX2_likingOf 9 rfl) rfl rfl ?_
    refine gj_callS (q := 23) [jR 26, jI (f_cpl a1 a2)] rfl (c_X7_at (sh26 hst) (by decide) (by decide) _) (gj_dk okX2_likingOf 10 rfl) ml_X2_39 me_X7_at (gj_nm rfl) rfl (gj_kI fun x S2 M2 h => ?_)
    obtain ⟨e, eS, eM⟩ := h; subst eS; subst eM; subst e
    refine gj_goto (tgt := 27) (gj_dk okX2_likingOf 11 rfl) (by decide) ?_
    refine gj_sub [(0, jR 35), (1, jI a1), (2, jI a2), (3, jI a3), (4, jI (f_cpl a1 a2))] ⟨rfl, rfl, rfl, rfl, rfl, trivial⟩ ?_
    exact t_J_X2_likingOf_27 hst a1 a2 a3 (f_cpl a1 a2) (f_at M 26 16 (f_cpl a1 a2)) hF
def f_X11_liking (a1 : Int) (a2 : Int) (M : gj_M) : Int :=
  gj_letI (f_X5_slotOf a1 M) (fun x1 => gj_letI (f_X5_slotOf a2 M) (fun x2 => (if f_unl x1 x2 = 0 then (-1) else gj_letI (f_X2_likingOf x1 x2 1 M) (fun x3 => (x3)))))
set_option maxHeartbeats 4000000 in
set_option maxRecDepth 20000 in
theorem t_X11_liking (hst : gj_Stat S) (a1 a2 : Int) {r : Int} (hF : f_X11_liking a1 a2 M = r) : gj_C G l 5 0 0 yX11_liking cX11_liking 5 (some .int) [jR 0, jI a1, jI a2] S M (gj_qI fun x S' M' => r = x ∧ S = S' ∧ M = M') := by
  refine gj_Cof (by decide +kernel) (Nat.le_of_ble_eq_true rfl) ?_
  change gj_W G l 5 0 0 yX11_liking cX11_liking 5 (some .int) (gj_qI fun x S' M' => r = x ∧ S = S' ∧ M = M') 0 0 0 [(0, jR 0), (1, jI a1), (2, jI a2)] [] S M
  unfold f_X11_liking at hF
  refine gj_aload_n (q := 1) (gj_dk okX11_liking 0 rfl) rfl rfl ?_
  refine gj_gR (q := 4) (j := 3) (gj_dk okX11_liking 1 rfl) ff_X11_32 (sh0 hst) (by decide) rfl (rf0_3 hst) rfl ?_
  refine gj_iload_n (q := 5) (gj_dk okX11_liking 2 rfl) rfl rfl ?_
  refine gj_callV (q := 8) (z := 14) (ci := 5) [jI a1] rfl (t_X5_slotOf hst a1 rfl) (gj_dk okX11_liking 3 rfl) ml_X11_131 me_X5_slotOf (sh14 hst) rfl (gj_nm rfl) rfl (gj_kI fun x S2 M2 h => ?_)
  obtain ⟨e, eS, eM⟩ := h; subst eS; subst eM; subst e
  refine gj_stpI hF (fun x1 hF => ?_)
  refine gj_istore_n (q := 9) (gj_dk okX11_liking 4 rfl) (by decide) rfl ?_
  refine gj_aload_n (q := 10) (gj_dk okX11_liking 5 rfl) rfl rfl ?_
  refine gj_gR (q := 13) (j := 3) (gj_dk okX11_liking 6 rfl) ff_X11_32 (sh0 hst) (by decide) rfl (rf0_3 hst) rfl ?_
  refine gj_iload_n (q := 14) (gj_dk okX11_liking 7 rfl) rfl rfl ?_
  refine gj_callV (q := 17) (z := 14) (ci := 5) [jI a2] rfl (t_X5_slotOf hst a2 rfl) (gj_dk okX11_liking 8 rfl) ml_X11_131 me_X5_slotOf (sh14 hst) rfl (gj_nm rfl) rfl (gj_kI fun x S2 M2 h => ?_)
  obtain ⟨e, eS, eM⟩ := h; subst eS; subst eM; subst e
  refine gj_stpI hF (fun x2 hF => ?_)
  refine gj_istore (q := 19) (gj_dk okX11_liking 9 rfl) (by decide) rfl ?_
  refine gj_iload_n (q := 20) (gj_dk okX11_liking 10 rfl) rfl rfl ?_
  refine gj_iload (q := 22) (gj_dk okX11_liking 11 rfl) rfl rfl ?_
  refine gj_callS (q := 25) [jI x1, jI x2] rfl (c_X10_unlike _ _) (gj_dk okX11_liking 12 rfl) ml_X11_157 me_X10_unlike (gj_nm rfl) rfl (gj_kI fun x S2 M2 h => ?_)
  obtain ⟨e, eS, eM⟩ := h; subst eS; subst eM; subst e
  refine gj_if_eq (q := 28) (tgt := 42) (gj_dk okX11_liking 13 rfl) (by decide) rfl (fun c25 => ?_) (fun c25 => ?_)
  · -- 42
    replace hF := gj_ift c25 hF
    refine gj_iconst (q := 43) (gj_dk okX11_liking 21 rfl) (by decide) rfl ?_
    subst hF
    exact gj_iret (gj_dk okX11_liking 22 rfl) rfl ⟨_, rfl, rfl, rfl, rfl⟩
  · -- 28
    replace hF := gj_iff c25 hF
    refine gj_aload_n (q := 29) (gj_dk okX11_liking 14 rfl) rfl rfl ?_
    refine gj_gR (q := 32) (j := 6) (gj_dk okX11_liking 15 rfl) ff_X11_54 (sh0 hst) (by decide) rfl (rf0_6 hst) rfl ?_
    refine gj_iload_n (q := 33) (gj_dk okX11_liking 16 rfl) rfl rfl ?_
    refine gj_iload (q := 35) (gj_dk okX11_liking 17 rfl) rfl rfl ?_
    refine gj_iconst (q := 36) (gj_dk okX11_liking 18 rfl) (by decide) rfl ?_
    refine gj_callV (q := 39) (z := 35) (ci := 2) [jI x1, jI x2, jI 1] rfl (t_X2_likingOf hst x1 x2 1 rfl) (gj_dk okX11_liking 19 rfl) ml_X11_202 me_X2_likingOf (sh35 hst) rfl (gj_nm rfl) rfl (gj_kI fun x S2 M2 h => ?_)
    obtain ⟨e, eS, eM⟩ := h; subst eS; subst eM; subst e
    refine gj_stpI hF (fun x3 hF => ?_)
    refine gj_goto (tgt := 43) (gj_dk okX11_liking 20 rfl) (by decide) ?_
    subst hF
    exact gj_iret (gj_dk okX11_liking 22 rfl) rfl ⟨_, rfl, rfl, rfl, rfl⟩
def f_X2_likes (a1 : Int) (a2 : Int) (M : gj_M) : Int :=
  (f_at M 36 32 (f_vw a1 a2))
set_option maxHeartbeats 4000000 in
set_option maxRecDepth 20000 in
theorem t_X2_likes (hst : gj_Stat S) (a1 a2 : Int) {r : Int} (hF : f_X2_likes a1 a2 M = r) : gj_C G l 2 0 0 yX2_likes cX2_likes 3 (some .int) [jR 35, jI a1, jI a2] S M (gj_qI fun x S' M' => r = x ∧ S = S' ∧ M = M') := by
  refine gj_Cof (by decide +kernel) (Nat.le_of_ble_eq_true rfl) ?_
  change gj_W G l 2 0 0 yX2_likes cX2_likes 3 (some .int) (gj_qI fun x S' M' => r = x ∧ S = S' ∧ M = M') 0 0 0 [(0, jR 35), (1, jI a1), (2, jI a2)] [] S M
  unfold f_X2_likes at hF
  refine gj_aload_n (q := 1) (gj_dk okX2_likes 0 rfl) rfl rfl ?_
  refine gj_gR (q := 4) (j := 2) (gj_dk okX2_likes 1 rfl) ff_X2_9 (sh35 hst) (by decide) rfl (rf35_2 hst) rfl ?_
  refine gj_iload_n (q := 5) (gj_dk okX2_likes 2 rfl) rfl rfl ?_
  refine gj_iload_n (q := 6) (gj_dk okX2_likes 3 rfl) rfl rfl ?_
  refine gj_callS (q := 9) [jI a1, jI a2] rfl (c_X10_view _ _) (gj_dk okX2_likes 4 rfl) ml_X2_55 me_X10_view (gj_nm rfl) rfl (gj_kI fun x S2 M2 h => ?_)
  obtain ⟨e, eS, eM⟩ := h; subst eS; subst eM; subst e
  refine gj_callS (q := 12) [jR 36, jI (f_vw a1 a2)] rfl (c_X7_at (sh36 hst) (by decide) (by decide) _) (gj_dk okX2_likes 5 rfl) ml_X2_39 me_X7_at (gj_nm rfl) rfl (gj_kI fun x S2 M2 h => ?_)
  obtain ⟨e, eS, eM⟩ := h; subst eS; subst eM; subst e
  subst hF
  exact gj_iret (gj_dk okX2_likes 6 rfl) rfl ⟨_, rfl, rfl, rfl, rfl⟩
def f_X2_would (a1 : Int) (a2 : Int) (M : gj_M) : Int :=
  gj_letI (f_X2_likes a1 a2 M) (fun x1 => (if x1 ≤ gj_w (1000 * (f_at M 15 8 a1)) then (0) else (1)))
set_option maxHeartbeats 4000000 in
set_option maxRecDepth 20000 in
theorem t_X2_would (hst : gj_Stat S) (a1 a2 : Int) {r : Int} (hF : f_X2_would a1 a2 M = r) : gj_C G l 3 0 0 yX2_would cX2_would 3 (some .boolean) [jR 35, jI a1, jI a2] S M (gj_qI fun x S' M' => (x = 0 ∨ x = 1) ∧ r = x ∧ S = S' ∧ M = M') := by
  refine gj_Cof (by decide +kernel) (Nat.le_of_ble_eq_true rfl) ?_
  change gj_W G l 3 0 0 yX2_would cX2_would 3 (some .boolean) (gj_qI fun x S' M' => (x = 0 ∨ x = 1) ∧ r = x ∧ S = S' ∧ M = M') 0 0 0 [(0, jR 35), (1, jI a1), (2, jI a2)] [] S M
  unfold f_X2_would at hF
  refine gj_aload_n (q := 1) (gj_dk okX2_would 0 rfl) rfl rfl ?_
  refine gj_iload_n (q := 2) (gj_dk okX2_would 1 rfl) rfl rfl ?_
  refine gj_iload_n (q := 3) (gj_dk okX2_would 2 rfl) rfl rfl ?_
  refine gj_callV (q := 6) (z := 35) (ci := 2) [jI a1, jI a2] rfl (t_X2_likes hst a1 a2 rfl) (gj_dk okX2_would 3 rfl) ml_X2_94 me_X2_likes (sh35 hst) rfl (gj_nm rfl) rfl (gj_kI fun x S2 M2 h => ?_)
  obtain ⟨e, eS, eM⟩ := h; subst eS; subst eM; subst e
  refine gj_stpI hF (fun x1 hF => ?_)
  refine gj_sipush (q := 9) (gj_dk okX2_would 4 rfl) (by decide) rfl rfl ?_
  refine gj_aload_n (q := 10) (gj_dk okX2_would 5 rfl) rfl rfl ?_
  refine gj_gR (q := 13) (j := 0) (gj_dk okX2_would 6 rfl) ff_X2_28 (sh35 hst) (by decide) rfl (rf35_0 hst) rfl ?_
  refine gj_gR (q := 16) (j := 10) (gj_dk okX2_would 7 rfl) ff_X2_128 (sh14 hst) (by decide) rfl (rf14_10 hst) rfl ?_
  refine gj_iload_n (q := 17) (gj_dk okX2_would 8 rfl) rfl rfl ?_
  refine gj_callS (q := 20) [jR 15, jI a1] rfl (c_X7_at (sh15 hst) (by decide) (by decide) _) (gj_dk okX2_would 9 rfl) ml_X2_39 me_X7_at (gj_nm rfl) rfl (gj_kI fun x S2 M2 h => ?_)
  obtain ⟨e, eS, eM⟩ := h; subst eS; subst eM; subst e
  refine gj_imul (q := 21) (gj_dk okX2_would 10 rfl) rfl ?_
  refine gj_icmp_le (q := 24) (tgt := 28) (gj_dk okX2_would 11 rfl) (by decide) rfl (fun c21 => ?_) (fun c21 => ?_)
  · -- 28
    replace hF := gj_ift c21 hF
    refine gj_iconst (q := 29) (gj_dk okX2_would 14 rfl) (by decide) rfl ?_
    subst hF
    exact gj_zret (gj_dk okX2_would 15 rfl) rfl (by decide) ⟨_, rfl, (by decide), rfl, rfl, rfl⟩
  · -- 24
    replace hF := gj_iff c21 hF
    refine gj_iconst (q := 25) (gj_dk okX2_would 12 rfl) (by decide) rfl ?_
    refine gj_goto (tgt := 29) (gj_dk okX2_would 13 rfl) (by decide) ?_
    subst hF
    exact gj_zret (gj_dk okX2_would 15 rfl) rfl (by decide) ⟨_, rfl, (by decide), rfl, rfl, rfl⟩
def J_X2_look_94 (rec2 : Int → Int → gj_M → Option (gj_M)) (l1 l2 : Int) (M : gj_M) : Option (gj_M) :=
  rec2 l1 (gj_w (l2 + 1)) M
def J_X2_look_85 (rec2 : Int → Int → gj_M → Option (gj_M)) (rec9 : Int → Int → Int → gj_M → Option (gj_M)) (l1 l2 l3 s1 s2 : Int) (M : gj_M) : Option (gj_M) :=
  gj_chk (s2 = 0 ∨ s2 = 1) (gj_let (f_put M 37 16 s1 s2) (fun M8 => rec9 l1 l2 (gj_w (l3 + 1)) M8))
def B_X2_look_9 (rec2 : Int → Int → gj_M → Option (gj_M)) (rec9 : Int → Int → Int → gj_M → Option (gj_M)) (l1 l2 l3 : Int) (M : gj_M) : Option (gj_M) :=
  (if 8 ≤ l3 then (J_X2_look_94 rec2 l1 l2 M) else gj_letI (f_X2_likingOf l2 l3 l1 M) (fun x1 => gj_let (f_put M 36 32 (f_vw l2 l3) x1) (fun M2 => gj_letI (f_X2_likingOf l3 l2 l1 M2) (fun x3 => gj_let (f_put M2 36 32 (f_vw l3 l2) x3) (fun M4 => gj_letI (f_X2_would l2 l3 M4) (fun x5 => (if x5 = 0 then (J_X2_look_85 rec2 rec9 l1 l2 l3 (f_cpl l2 l3) 0 M4) else gj_letI (f_X2_would l3 l2 M4) (fun x6 => (if x6 = 0 then (J_X2_look_85 rec2 rec9 l1 l2 l3 (f_cpl l2 l3) 0 M4) else (J_X2_look_85 rec2 rec9 l1 l2 l3 (f_cpl l2 l3) 1 M4))))))))))
def B_X2_look_2 (rec2 : Int → Int → gj_M → Option (gj_M)) (l1 l2 : Int) (M : gj_M) : Option (gj_M) :=
  (if 4 ≤ l2 then (some (M)) else (gj_it (fun _ _ _ _ => none) (B_X2_look_9 rec2) gj_fu l1 l2 4 M))
def F_X2_look (a1 : Int) (M : gj_M) : Option (gj_M) :=
  (gj_it (fun _ _ _ => none) (B_X2_look_2) gj_fu a1 0 M)
set_option maxHeartbeats 4000000 in
set_option maxRecDepth 20000 in
theorem t_J_X2_look_94 (hst : gj_Stat S) {r : gj_M} {rec2 : Int → Int → gj_M → Option (gj_M)} (hrec2 : ∀ (l1 l2 : Int) (M : gj_M), rec2 l1 l2 M = some r → gj_W G l 5 0 0 yX2_look cX2_look 4 none (gj_qV fun S' M' => S = S' ∧ r = M') 0 0 2 [(0, jR 35), (1, jI l1), (2, jI l2)] [] S M) (l1 l2 : Int) (M : gj_M) (hF : J_X2_look_94 rec2 l1 l2 M = some r) : gj_W G l 5 0 0 yX2_look cX2_look 4 none (gj_qV fun S' M' => S = S' ∧ r = M') 0 0 94 [(0, jR 35), (1, jI l1), (2, jI l2)] [] S M := by
  unfold J_X2_look_94 at hF
  refine gj_iinc (q := 97) (v := gj_w (l2 + 1)) (gj_dk okX2_look 53 rfl) rfl (by decide) rfl rfl ?_
  refine gj_goto (tgt := 2) (gj_dk okX2_look 54 rfl) (by decide) ?_
  refine gj_sub [(0, jR 35), (1, jI l1), (2, jI (gj_w (l2 + 1)))] ⟨rfl, rfl, rfl, trivial⟩ ?_
  exact hrec2 l1 (gj_w (l2 + 1)) M hF
set_option maxHeartbeats 4000000 in
set_option maxRecDepth 20000 in
theorem t_J_X2_look_85 (hst : gj_Stat S) {r : gj_M} {rec2 : Int → Int → gj_M → Option (gj_M)} {rec9 : Int → Int → Int → gj_M → Option (gj_M)} (hrec2 : ∀ (l1 l2 : Int) (M : gj_M), rec2 l1 l2 M = some r → gj_W G l 5 0 0 yX2_look cX2_look 4 none (gj_qV fun S' M' => S = S' ∧ r = M') 0 0 2 [(0, jR 35), (1, jI l1), (2, jI l2)] [] S M) (hrec9 : ∀ (l1 l2 l3 : Int) (M : gj_M), rec9 l1 l2 l3 M = some r → gj_W G l 5 0 0 yX2_look cX2_look 4 none (gj_qV fun S' M' => S = S' ∧ r = M') 0 0 9 [(0, jR 35), (1, jI l1), (2, jI l2), (3, jI l3)] [] S M) (l1 l2 l3 s1 s2 : Int) (M : gj_M) (hF : J_X2_look_85 rec2 rec9 l1 l2 l3 s1 s2 M = some r) : gj_W G l 5 0 0 yX2_look cX2_look 4 none (gj_qV fun S' M' => S = S' ∧ r = M') 0 0 85 [(0, jR 35), (1, jI l1), (2, jI l2), (3, jI l3)] [jI s2, jI s1, jR 37] S M := by
  unfold J_X2_look_85 at hF
  obtain ⟨b7, hF⟩ := gj_ckd hF
  refine gj_callS (q := 88) [jR 37, jI s1, jI s2] rfl (c_X7_mark (sh37 hst) (by decide) (by decide) _ _ b7) (gj_dk okX2_look 50 rfl) ml_X2_51 me_X7_mark (gj_nm rfl) rfl (gj_kV fun S2 M2 h => ?_)
  obtain ⟨eS, eM⟩ := h; subst eS; subst eM
  refine gj_stp hF (fun M8 hF => ?_)
  refine gj_iinc (q := 91) (v := gj_w (l3 + 1)) (gj_dk okX2_look 51 rfl) rfl (by decide) rfl rfl ?_
  refine gj_goto (tgt := 9) (gj_dk okX2_look 52 rfl) (by decide) ?_
  refine gj_sub [(0, jR 35), (1, jI l1), (2, jI l2), (3, jI (gj_w (l3 + 1)))] ⟨rfl, rfl, rfl, rfl, trivial⟩ ?_
  exact hrec9 l1 l2 (gj_w (l3 + 1)) M8 hF
set_option maxHeartbeats 4000000 in
set_option maxRecDepth 20000 in
theorem t_B_X2_look_9 (hst : gj_Stat S) {r : gj_M} {rec2 : Int → Int → gj_M → Option (gj_M)} {rec9 : Int → Int → Int → gj_M → Option (gj_M)} (hrec2 : ∀ (l1 l2 : Int) (M : gj_M), rec2 l1 l2 M = some r → gj_W G l 5 0 0 yX2_look cX2_look 4 none (gj_qV fun S' M' => S = S' ∧ r = M') 0 0 2 [(0, jR 35), (1, jI l1), (2, jI l2)] [] S M) (hrec9 : ∀ (l1 l2 l3 : Int) (M : gj_M), rec9 l1 l2 l3 M = some r → gj_W G l 5 0 0 yX2_look cX2_look 4 none (gj_qV fun S' M' => S = S' ∧ r = M') 0 0 9 [(0, jR 35), (1, jI l1), (2, jI l2), (3, jI l3)] [] S M) (l1 l2 l3 : Int) (M : gj_M) (hF : B_X2_look_9 rec2 rec9 l1 l2 l3 M = some r) : gj_W G l 5 0 0 yX2_look cX2_look 4 none (gj_qV fun S' M' => S = S' ∧ r = M') 0 0 9 [(0, jR 35), (1, jI l1), (2, jI l2), (3, jI l3)] [] S M := by
  unfold B_X2_look_9 at hF
  refine gj_iload_n (q := 10) (gj_dk okX2_look 7 rfl) rfl rfl ?_
  refine gj_bipush (q := 12) (gj_dk okX2_look 8 rfl) (by decide) rfl rfl ?_
  refine gj_icmp_ge (q := 15) (tgt := 94) (gj_dk okX2_look 9 rfl) (by decide) rfl (fun c12 => ?_) (fun c12 => ?_)
  · -- 94
    replace hF := gj_ift c12 hF
    refine gj_sub [(0, jR 35), (1, jI l1), (2, jI l2)] ⟨rfl, rfl, rfl, trivial⟩ ?_
    exact t_J_X2_look_94 hst hrec2 l1 l2 M hF
  · -- 15
    replace hF := gj_iff c12 hF
    refine gj_aload_n (q := 16) (gj_dk okX2_look 10 rfl) rfl rfl ?_
    refine gj_gR (q := 19) (j := 2) (gj_dk okX2_look 11 rfl) ff_X2_9 (sh35 hst) (by decide) rfl (rf35_2 hst) rfl ?_
    refine gj_iload_n (q := 20) (gj_dk okX2_look 12 rfl) rfl rfl ?_
    refine gj_iload_n (q := 21) (gj_dk okX2_look 13 rfl) rfl rfl ?_
    refine gj_callS (q := 24) [jI l2, jI l3] rfl (c_X10_view _ _) (gj_dk okX2_look 14 rfl) ml_X2_55 me_X10_view (gj_nm rfl) rfl (gj_kI fun x S2 M2 h => ?_)
    obtain ⟨e, eS, eM⟩ := h; subst eS; subst eM; subst e
    refine gj_aload_n (q := 25) (gj_dk okX2_look 15 rfl) rfl rfl ?_
    refine gj_iload_n (q := 26) (gj_dk okX2_look 16 rfl) rfl rfl ?_
    refine gj_iload_n (q := 27) (gj_dk okX2_look 17 rfl) rfl rfl ?_
    refine gj_iload_n (q := 28) (gj_dk okX2_look 18 rfl) rfl rfl ?_
    refine gj_callV (q := 31) (z := 35) (ci := 2) [jI l2, jI l3, jI l1] rfl (t_X2_likingOf hst l2 l3 l1 rfl) (gj_dk okX2_look 19 rfl) ml_X2_61 me_X2_likingOf (sh35 hst) rfl (gj_nm rfl) rfl (gj_kI fun x S2 M2 h => ?_)
    obtain ⟨e, eS, eM⟩ := h; subst eS; subst eM; subst e
    refine gj_stpI hF (fun x1 hF => ?_)
    refine gj_callS (q := 34) [jR 36, jI (f_vw l2 l3), jI x1] rfl (c_X7_put (sh36 hst) (by decide) (by decide) _ _) (gj_dk okX2_look 20 rfl) ml_X2_65 me_X7_put (gj_nm rfl) rfl (gj_kV fun S2 M2 h => ?_)
    obtain ⟨eS, eM⟩ := h; subst eS; subst eM
    refine gj_stp hF (fun M2 hF => ?_)
    refine gj_aload_n (q := 35) (gj_dk okX2_look 21 rfl) rfl rfl ?_
    refine gj_gR (q := 38) (j := 2) (gj_dk okX2_look 22 rfl) ff_X2_9 (sh35 hst) (by decide) rfl (rf35_2 hst) rfl ?_
    refine gj_iload_n (q := 39) (gj_dk okX2_look 23 rfl) rfl rfl ?_
    refine gj_iload_n (q := 40) (gj_dk okX2_look 24 rfl) rfl rfl ?_
    refine gj_callS (q := 43) [jI l3, jI l2] rfl (c_X10_view _ _) (gj_dk okX2_look 25 rfl) ml_X2_55 me_X10_view (gj_nm rfl) rfl (gj_kI fun x S2 M2 h => ?_)
    obtain ⟨e, eS, eM⟩ := h; subst eS; subst eM; subst e
    refine gj_aload_n (q := 44) (gj_dk okX2_look 26 rfl) rfl rfl ?_
    refine gj_iload_n (q := 45) (gj_dk okX2_look 27 rfl) rfl rfl ?_
    refine gj_iload_n (q := 46) (gj_dk okX2_look 28 rfl) rfl rfl ?_
    refine gj_iload_n (q := 47) (gj_dk okX2_look 29 rfl) rfl rfl ?_
    refine gj_callV (q := 50) (z := 35) (ci := 2) [jI l3, jI l2, jI l1] rfl (t_X2_likingOf hst l3 l2 l1 rfl) (gj_dk okX2_look 30 rfl) ml_X2_61 me_X2_likingOf (sh35 hst) rfl (gj_nm rfl) rfl (gj_kI fun x S2 M2 h => ?_)
    obtain ⟨e, eS, eM⟩ := h; subst eS; subst eM; subst e
    refine gj_stpI hF (fun x3 hF => ?_)
    refine gj_callS (q := 53) [jR 36, jI (f_vw l3 l2), jI x3] rfl (c_X7_put (sh36 hst) (by decide) (by decide) _ _) (gj_dk okX2_look 31 rfl) ml_X2_65 me_X7_put (gj_nm rfl) rfl (gj_kV fun S2 M2 h => ?_)
    obtain ⟨eS, eM⟩ := h; subst eS; subst eM
    refine gj_stp hF (fun M4 hF => ?_)
    refine gj_aload_n (q := 54) (gj_dk okX2_look 32 rfl) rfl rfl ?_
    refine gj_gR (q := 57) (j := 3) (gj_dk okX2_look 33 rfl) ff_X2_15 (sh35 hst) (by decide) rfl (rf35_3 hst) rfl ?_
    refine gj_iload_n (q := 58) (gj_dk okX2_look 34 rfl) rfl rfl ?_
    refine gj_iload_n (q := 59) (gj_dk okX2_look 35 rfl) rfl rfl ?_
    refine gj_callS (q := 62) [jI l2, jI l3] rfl (c_X10_couple _ _) (gj_dk okX2_look 36 rfl) ml_X2_69 me_X10_couple (gj_nm rfl) rfl (gj_kI fun x S2 M2 h => ?_)
    obtain ⟨e, eS, eM⟩ := h; subst eS; subst eM; subst e
    refine gj_aload_n (q := 63) (gj_dk okX2_look 37 rfl) rfl rfl ?_
    refine gj_iload_n (q := 64) (gj_dk okX2_look 38 rfl) rfl rfl ?_
    refine gj_iload_n (q := 65) (gj_dk okX2_look 39 rfl) rfl rfl ?_
    refine gj_callV (q := 68) (z := 35) (ci := 2) [jI l2, jI l3] rfl (t_X2_would hst l2 l3 rfl) (gj_dk okX2_look 40 rfl) ml_X2_72 me_X2_would (sh35 hst) rfl (gj_nm rfl) rfl (gj_kI fun x S2 M2 h => ?_)
    obtain ⟨bz, e, eS, eM⟩ := h; subst eS; subst eM; subst e
    refine gj_stpZ bz hF (fun x5 bx5 hF => ?_)
    refine gj_if_eq (q := 71) (tgt := 84) (gj_dk okX2_look 41 rfl) (by decide) rfl (fun c68 => ?_) (fun c68 => ?_)
    · -- 84
      replace hF := gj_ift c68 hF
      refine gj_iconst (q := 85) (gj_dk okX2_look 49 rfl) (by decide) rfl ?_
      refine gj_sub [(0, jR 35), (1, jI l1), (2, jI l2), (3, jI l3)] ⟨rfl, rfl, rfl, rfl, trivial⟩ ?_
      exact t_J_X2_look_85 hst hrec2 hrec9 l1 l2 l3 (f_cpl l2 l3) 0 M4 hF
    · -- 71
      replace hF := gj_iff c68 hF
      refine gj_aload_n (q := 72) (gj_dk okX2_look 42 rfl) rfl rfl ?_
      refine gj_iload_n (q := 73) (gj_dk okX2_look 43 rfl) rfl rfl ?_
      refine gj_iload_n (q := 74) (gj_dk okX2_look 44 rfl) rfl rfl ?_
      refine gj_callV (q := 77) (z := 35) (ci := 2) [jI l3, jI l2] rfl (t_X2_would hst l3 l2 rfl) (gj_dk okX2_look 45 rfl) ml_X2_72 me_X2_would (sh35 hst) rfl (gj_nm rfl) rfl (gj_kI fun x S2 M2 h => ?_)
      obtain ⟨bz, e, eS, eM⟩ := h; subst eS; subst eM; subst e
      refine gj_stpZ bz hF (fun x6 bx6 hF => ?_)
      refine gj_if_eq (q := 80) (tgt := 84) (gj_dk okX2_look 46 rfl) (by decide) rfl (fun c77 => ?_) (fun c77 => ?_)
      · -- 84
        replace hF := gj_ift c77 hF
        refine gj_iconst (q := 85) (gj_dk okX2_look 49 rfl) (by decide) rfl ?_
        refine gj_sub [(0, jR 35), (1, jI l1), (2, jI l2), (3, jI l3)] ⟨rfl, rfl, rfl, rfl, trivial⟩ ?_
        exact t_J_X2_look_85 hst hrec2 hrec9 l1 l2 l3 (f_cpl l2 l3) 0 M4 hF
      · -- 80
        replace hF := gj_iff c77 hF
        refine gj_iconst (q := 81) (gj_dk okX2_look 47 rfl) (by decide) rfl ?_
        refine gj_goto (tgt := 85) (gj_dk okX2_look 48 rfl) (by decide) ?_
        refine gj_sub [(0, jR 35), (1, jI l1), (2, jI l2), (3, jI l3)] ⟨rfl, rfl, rfl, rfl, trivial⟩ ?_
        exact t_J_X2_look_85 hst hrec2 hrec9 l1 l2 l3 (f_cpl l2 l3) 1 M4 hF
theorem t_L_X2_look_9 (hst : gj_Stat S) {r : gj_M} {rec2 : Int → Int → gj_M → Option (gj_M)} (hrec2 : ∀ (l1 l2 : Int) (M : gj_M), rec2 l1 l2 M = some r → gj_W G l 5 0 0 yX2_look cX2_look 4 none (gj_qV fun S' M' => S = S' ∧ r = M') 0 0 2 [(0, jR 35), (1, jI l1), (2, jI l2)] [] S M) : ∀ (m : Nat) (l1 : Int) (l2 : Int) (l3 : Int) (M : gj_M), gj_it (fun _ _ _ _ => none) (B_X2_look_9 rec2) m l1 l2 l3 M = some r → gj_W G l 5 0 0 yX2_look cX2_look 4 none (gj_qV fun S' M' => S = S' ∧ r = M') 0 0 9 [(0, jR 35), (1, jI l1), (2, jI l2), (3, jI l3)] [] S M := by
  intro m
  induction m with
  | zero => intro l1 l2 l3 M hF; cases (show (none : Option (gj_M)) = some r from hF)
  | succ m ih => intro l1 l2 l3 M hF; exact t_B_X2_look_9 hst hrec2 (fun l1 l2 l3 M h => ih l1 l2 l3 M h) l1 l2 l3 M hF
set_option maxHeartbeats 4000000 in
set_option maxRecDepth 20000 in
theorem t_B_X2_look_2 (hst : gj_Stat S) {r : gj_M} {rec2 : Int → Int → gj_M → Option (gj_M)} (hrec2 : ∀ (l1 l2 : Int) (M : gj_M), rec2 l1 l2 M = some r → gj_W G l 5 0 0 yX2_look cX2_look 4 none (gj_qV fun S' M' => S = S' ∧ r = M') 0 0 2 [(0, jR 35), (1, jI l1), (2, jI l2)] [] S M) (l1 l2 : Int) (M : gj_M) (hF : B_X2_look_2 rec2 l1 l2 M = some r) : gj_W G l 5 0 0 yX2_look cX2_look 4 none (gj_qV fun S' M' => S = S' ∧ r = M') 0 0 2 [(0, jR 35), (1, jI l1), (2, jI l2)] [] S M := by
  unfold B_X2_look_2 at hF
  refine gj_iload_n (q := 3) (gj_dk okX2_look 2 rfl) rfl rfl ?_
  refine gj_iconst (q := 4) (gj_dk okX2_look 3 rfl) (by decide) rfl ?_
  refine gj_icmp_ge (q := 7) (tgt := 100) (gj_dk okX2_look 4 rfl) (by decide) rfl (fun c4 => ?_) (fun c4 => ?_)
  · -- 100
    replace hF := gj_ift c4 hF
    cases hF
    exact gj_vret (gj_dk okX2_look 55 rfl) rfl ⟨rfl, rfl, rfl⟩
  · -- 7
    replace hF := gj_iff c4 hF
    refine gj_iconst (q := 8) (gj_dk okX2_look 5 rfl) (by decide) rfl ?_
    refine gj_istore_n (q := 9) (gj_dk okX2_look 6 rfl) (by decide) rfl ?_
    refine gj_sub [(0, jR 35), (1, jI l1), (2, jI l2), (3, jI 4)] ⟨rfl, rfl, rfl, rfl, trivial⟩ ?_
    exact t_L_X2_look_9 hst hrec2 gj_fu l1 l2 4 M hF
theorem t_L_X2_look_2 (hst : gj_Stat S) {r : gj_M} : ∀ (m : Nat) (l1 : Int) (l2 : Int) (M : gj_M), gj_it (fun _ _ _ => none) (B_X2_look_2) m l1 l2 M = some r → gj_W G l 5 0 0 yX2_look cX2_look 4 none (gj_qV fun S' M' => S = S' ∧ r = M') 0 0 2 [(0, jR 35), (1, jI l1), (2, jI l2)] [] S M := by
  intro m
  induction m with
  | zero => intro l1 l2 M hF; cases (show (none : Option (gj_M)) = some r from hF)
  | succ m ih => intro l1 l2 M hF; exact t_B_X2_look_2 hst (fun l1 l2 M h => ih l1 l2 M h) l1 l2 M hF
set_option maxHeartbeats 4000000 in
set_option maxRecDepth 20000 in
theorem t_X2_look (hst : gj_Stat S) (a1 : Int) {r : gj_M} (hF : F_X2_look a1 M = some r) : gj_C G l 5 0 0 yX2_look cX2_look 4 none [jR 35, jI a1] S M (gj_qV fun S' M' => S = S' ∧ r = M') := by
  refine gj_Cof (by decide +kernel) (Nat.le_of_ble_eq_true rfl) ?_
  change gj_W G l 5 0 0 yX2_look cX2_look 4 none (gj_qV fun S' M' => S = S' ∧ r = M') 0 0 0 [(0, jR 35), (1, jI a1)] [] S M
  unfold F_X2_look at hF
  refine gj_iconst (q := 1) (gj_dk okX2_look 0 rfl) (by decide) rfl ?_
  refine gj_istore_n (q := 2) (gj_dk okX2_look 1 rfl) (by decide) rfl ?_
  refine gj_sub [(0, jR 35), (1, jI a1), (2, jI 0)] ⟨rfl, rfl, rfl, trivial⟩ ?_
  exact t_L_X2_look_2 hst gj_fu a1 0 M hF
def f_X2_soonerOf (a1 : Int) (a2 : Int) (a3 : Int) (M : gj_M) : Int :=
  gj_letI (f_X2_likes a1 a2 M) (fun x1 => gj_letI (f_X2_likes a1 a3 M) (fun x2 => (if x2 < x1 then (1) else (if x1 = x2 then (if a3 ≤ a2 then (0) else (1)) else (0)))))
set_option maxHeartbeats 4000000 in
set_option maxRecDepth 20000 in
theorem t_X2_soonerOf (hst : gj_Stat S) (a1 a2 a3 : Int) {r : Int} (hF : f_X2_soonerOf a1 a2 a3 M = r) : gj_C G l 3 0 0 yX2_soonerOf cX2_soonerOf 6 (some .boolean) [jR 35, jI a1, jI a2, jI a3] S M (gj_qI fun x S' M' => (x = 0 ∨ x = 1) ∧ r = x ∧ S = S' ∧ M = M') := by
  refine gj_Cof (by decide +kernel) (Nat.le_of_ble_eq_true rfl) ?_
  change gj_W G l 3 0 0 yX2_soonerOf cX2_soonerOf 6 (some .boolean) (gj_qI fun x S' M' => (x = 0 ∨ x = 1) ∧ r = x ∧ S = S' ∧ M = M') 0 0 0 [(0, jR 35), (1, jI a1), (2, jI a2), (3, jI a3)] [] S M
  unfold f_X2_soonerOf at hF
  refine gj_aload_n (q := 1) (gj_dk okX2_soonerOf 0 rfl) rfl rfl ?_
  refine gj_iload_n (q := 2) (gj_dk okX2_soonerOf 1 rfl) rfl rfl ?_
  refine gj_iload_n (q := 3) (gj_dk okX2_soonerOf 2 rfl) rfl rfl ?_
  refine gj_callV (q := 6) (z := 35) (ci := 2) [jI a1, jI a2] rfl (t_X2_likes hst a1 a2 rfl) (gj_dk okX2_soonerOf 3 rfl) ml_X2_94 me_X2_likes (sh35 hst) rfl (gj_nm rfl) rfl (gj_kI fun x S2 M2 h => ?_)
  obtain ⟨e, eS, eM⟩ := h; subst eS; subst eM; subst e
  refine gj_stpI hF (fun x1 hF => ?_)
  refine gj_istore (q := 8) (gj_dk okX2_soonerOf 4 rfl) (by decide) rfl ?_
  refine gj_aload_n (q := 9) (gj_dk okX2_soonerOf 5 rfl) rfl rfl ?_
  refine gj_iload_n (q := 10) (gj_dk okX2_soonerOf 6 rfl) rfl rfl ?_
  refine gj_iload_n (q := 11) (gj_dk okX2_soonerOf 7 rfl) rfl rfl ?_
  refine gj_callV (q := 14) (z := 35) (ci := 2) [jI a1, jI a3] rfl (t_X2_likes hst a1 a3 rfl) (gj_dk okX2_soonerOf 8 rfl) ml_X2_94 me_X2_likes (sh35 hst) rfl (gj_nm rfl) rfl (gj_kI fun x S2 M2 h => ?_)
  obtain ⟨e, eS, eM⟩ := h; subst eS; subst eM; subst e
  refine gj_stpI hF (fun x2 hF => ?_)
  refine gj_istore (q := 16) (gj_dk okX2_soonerOf 9 rfl) (by decide) rfl ?_
  refine gj_iload (q := 18) (gj_dk okX2_soonerOf 10 rfl) rfl rfl ?_
  refine gj_iload (q := 20) (gj_dk okX2_soonerOf 11 rfl) rfl rfl ?_
  refine gj_icmp_gt (q := 23) (tgt := 35) (gj_dk okX2_soonerOf 12 rfl) (by decide) rfl (fun c20 => ?_) (fun c20 => ?_)
  · -- 35
    replace hF := gj_ift c20 hF
    refine gj_iconst (q := 36) (gj_dk okX2_soonerOf 19 rfl) (by decide) rfl ?_
    refine gj_goto (tgt := 40) (gj_dk okX2_soonerOf 20 rfl) (by decide) ?_
    subst hF
    exact gj_zret (gj_dk okX2_soonerOf 22 rfl) rfl (by decide) ⟨_, rfl, (by decide), rfl, rfl, rfl⟩
  · -- 23
    replace hF := gj_iff c20 hF
    refine gj_iload (q := 25) (gj_dk okX2_soonerOf 13 rfl) rfl rfl ?_
    refine gj_iload (q := 27) (gj_dk okX2_soonerOf 14 rfl) rfl rfl ?_
    refine gj_icmp_ne (q := 30) (tgt := 39) (gj_dk okX2_soonerOf 15 rfl) (by decide) rfl (fun c27 => ?_) (fun c27 => ?_)
    · -- 39
      replace hF := gj_iff c27 hF
      refine gj_iconst (q := 40) (gj_dk okX2_soonerOf 21 rfl) (by decide) rfl ?_
      subst hF
      exact gj_zret (gj_dk okX2_soonerOf 22 rfl) rfl (by decide) ⟨_, rfl, (by decide), rfl, rfl, rfl⟩
    · -- 30
      replace hF := gj_ift c27 hF
      refine gj_iload_n (q := 31) (gj_dk okX2_soonerOf 16 rfl) rfl rfl ?_
      refine gj_iload_n (q := 32) (gj_dk okX2_soonerOf 17 rfl) rfl rfl ?_
      refine gj_icmp_ge (q := 35) (tgt := 39) (gj_dk okX2_soonerOf 18 rfl) (by decide) rfl (fun c32 => ?_) (fun c32 => ?_)
      · -- 39
        replace hF := gj_ift c32 hF
        refine gj_iconst (q := 40) (gj_dk okX2_soonerOf 21 rfl) (by decide) rfl ?_
        subst hF
        exact gj_zret (gj_dk okX2_soonerOf 22 rfl) rfl (by decide) ⟨_, rfl, (by decide), rfl, rfl, rfl⟩
      · -- 35
        replace hF := gj_iff c32 hF
        refine gj_iconst (q := 36) (gj_dk okX2_soonerOf 19 rfl) (by decide) rfl ?_
        refine gj_goto (tgt := 40) (gj_dk okX2_soonerOf 20 rfl) (by decide) ?_
        subst hF
        exact gj_zret (gj_dk okX2_soonerOf 22 rfl) rfl (by decide) ⟨_, rfl, (by decide), rfl, rfl, rfl⟩
def F_X11_sooner (a1 : Int) (a2 : Int) (a3 : Int) (M : gj_M) : Option (Int × gj_M) :=
  gj_letI (f_X5_slotOf a1 M) (fun x1 => gj_letI (f_X5_slotOf a2 M) (fun x2 => gj_letI (f_X5_slotOf a3 M) (fun x3 => (if f_unl x1 x2 = 0 then (some ((-1, M))) else (if f_unl x1 x3 = 0 then (some ((-1, M))) else gj_bnd (F_X2_look 1 M) (fun M5 => gj_letI (f_X2_soonerOf x1 x2 x3 M5) (fun x6 => (if x6 = 0 then (some ((0, M5))) else (some ((1, M5)))))))))))
set_option maxHeartbeats 4000000 in
set_option maxRecDepth 20000 in
theorem t_X11_sooner (hst : gj_Stat S) (a1 a2 a3 : Int) {r : Int × gj_M} (hF : F_X11_sooner a1 a2 a3 M = some r) : gj_C G l 6 0 0 yX11_sooner cX11_sooner 7 (some .int) [jR 0, jI a1, jI a2, jI a3] S M (gj_qI fun x S' M' => r.1 = x ∧ S = S' ∧ r.2 = M') := by
  refine gj_Cof (by decide +kernel) (Nat.le_of_ble_eq_true rfl) ?_
  change gj_W G l 6 0 0 yX11_sooner cX11_sooner 7 (some .int) (gj_qI fun x S' M' => r.1 = x ∧ S = S' ∧ r.2 = M') 0 0 0 [(0, jR 0), (1, jI a1), (2, jI a2), (3, jI a3)] [] S M
  unfold F_X11_sooner at hF
  refine gj_aload_n (q := 1) (gj_dk okX11_sooner 0 rfl) rfl rfl ?_
  refine gj_gR (q := 4) (j := 3) (gj_dk okX11_sooner 1 rfl) ff_X11_32 (sh0 hst) (by decide) rfl (rf0_3 hst) rfl ?_
  refine gj_iload_n (q := 5) (gj_dk okX11_sooner 2 rfl) rfl rfl ?_
  refine gj_callV (q := 8) (z := 14) (ci := 5) [jI a1] rfl (t_X5_slotOf hst a1 rfl) (gj_dk okX11_sooner 3 rfl) ml_X11_131 me_X5_slotOf (sh14 hst) rfl (gj_nm rfl) rfl (gj_kI fun x S2 M2 h => ?_)
  obtain ⟨e, eS, eM⟩ := h; subst eS; subst eM; subst e
  refine gj_stpI hF (fun x1 hF => ?_)
  refine gj_istore (q := 10) (gj_dk okX11_sooner 4 rfl) (by decide) rfl ?_
  refine gj_aload_n (q := 11) (gj_dk okX11_sooner 5 rfl) rfl rfl ?_
  refine gj_gR (q := 14) (j := 3) (gj_dk okX11_sooner 6 rfl) ff_X11_32 (sh0 hst) (by decide) rfl (rf0_3 hst) rfl ?_
  refine gj_iload_n (q := 15) (gj_dk okX11_sooner 7 rfl) rfl rfl ?_
  refine gj_callV (q := 18) (z := 14) (ci := 5) [jI a2] rfl (t_X5_slotOf hst a2 rfl) (gj_dk okX11_sooner 8 rfl) ml_X11_131 me_X5_slotOf (sh14 hst) rfl (gj_nm rfl) rfl (gj_kI fun x S2 M2 h => ?_)
  obtain ⟨e, eS, eM⟩ := h; subst eS; subst eM; subst e
  refine gj_stpI hF (fun x2 hF => ?_)
  refine gj_istore (q := 20) (gj_dk okX11_sooner 9 rfl) (by decide) rfl ?_
  refine gj_aload_n (q := 21) (gj_dk okX11_sooner 10 rfl) rfl rfl ?_
  refine gj_gR (q := 24) (j := 3) (gj_dk okX11_sooner 11 rfl) ff_X11_32 (sh0 hst) (by decide) rfl (rf0_3 hst) rfl ?_
  refine gj_iload_n (q := 25) (gj_dk okX11_sooner 12 rfl) rfl rfl ?_
  refine gj_callV (q := 28) (z := 14) (ci := 5) [jI a3] rfl (t_X5_slotOf hst a3 rfl) (gj_dk okX11_sooner 13 rfl) ml_X11_131 me_X5_slotOf (sh14 hst) rfl (gj_nm rfl) rfl (gj_kI fun x S2 M2 h => ?_)
  obtain ⟨e, eS, eM⟩ := h; subst eS; subst eM; subst e
  refine gj_stpI hF (fun x3 hF => ?_)
  refine gj_istore (q := 30) (gj_dk okX11_sooner 14 rfl) (by decide) rfl ?_
  refine gj_iload (q := 32) (gj_dk okX11_sooner 15 rfl) rfl rfl ?_
  refine gj_iload (q := 34) (gj_dk okX11_sooner 16 rfl) rfl rfl ?_
  refine gj_callS (q := 37) [jI x1, jI x2] rfl (c_X10_unlike _ _) (gj_dk okX11_sooner 17 rfl) ml_X11_157 me_X10_unlike (gj_nm rfl) rfl (gj_kI fun x S2 M2 h => ?_)
  obtain ⟨e, eS, eM⟩ := h; subst eS; subst eM; subst e
  refine gj_if_eq (q := 40) (tgt := 50) (gj_dk okX11_sooner 18 rfl) (by decide) rfl (fun c37 => ?_) (fun c37 => ?_)
  · -- 50
    replace hF := gj_ift c37 hF
    refine gj_iconst (q := 51) (gj_dk okX11_sooner 23 rfl) (by decide) rfl ?_
    cases hF
    exact gj_iret (gj_dk okX11_sooner 24 rfl) rfl ⟨_, rfl, rfl, rfl, rfl⟩
  · -- 40
    replace hF := gj_iff c37 hF
    refine gj_iload (q := 42) (gj_dk okX11_sooner 19 rfl) rfl rfl ?_
    refine gj_iload (q := 44) (gj_dk okX11_sooner 20 rfl) rfl rfl ?_
    refine gj_callS (q := 47) [jI x1, jI x3] rfl (c_X10_unlike _ _) (gj_dk okX11_sooner 21 rfl) ml_X11_157 me_X10_unlike (gj_nm rfl) rfl (gj_kI fun x S2 M2 h => ?_)
    obtain ⟨e, eS, eM⟩ := h; subst eS; subst eM; subst e
    refine gj_if_ne (q := 50) (tgt := 52) (gj_dk okX11_sooner 22 rfl) (by decide) rfl (fun c47 => ?_) (fun c47 => ?_)
    · -- 52
      replace hF := gj_iff c47 hF
      refine gj_aload_n (q := 53) (gj_dk okX11_sooner 25 rfl) rfl rfl ?_
      refine gj_gR (q := 56) (j := 6) (gj_dk okX11_sooner 26 rfl) ff_X11_54 (sh0 hst) (by decide) rfl (rf0_6 hst) rfl ?_
      refine gj_iconst (q := 57) (gj_dk okX11_sooner 27 rfl) (by decide) rfl ?_
      obtain ⟨M5, hG, hF⟩ := gj_bndd hF
      refine gj_callV (q := 60) (z := 35) (ci := 2) [jI 1] rfl (t_X2_look hst 1 hG) (gj_dk okX11_sooner 28 rfl) ml_X11_206 me_X2_look (sh35 hst) rfl (gj_nm rfl) rfl (gj_kV fun S2 M2 h => ?_)
      obtain ⟨eS, eM⟩ := h; subst eS; subst eM; clear hG
      refine gj_aload_n (q := 61) (gj_dk okX11_sooner 29 rfl) rfl rfl ?_
      refine gj_gR (q := 64) (j := 6) (gj_dk okX11_sooner 30 rfl) ff_X11_54 (sh0 hst) (by decide) rfl (rf0_6 hst) rfl ?_
      refine gj_iload (q := 66) (gj_dk okX11_sooner 31 rfl) rfl rfl ?_
      refine gj_iload (q := 68) (gj_dk okX11_sooner 32 rfl) rfl rfl ?_
      refine gj_iload (q := 70) (gj_dk okX11_sooner 33 rfl) rfl rfl ?_
      refine gj_callV (q := 73) (z := 35) (ci := 2) [jI x1, jI x2, jI x3] rfl (t_X2_soonerOf hst x1 x2 x3 rfl) (gj_dk okX11_sooner 34 rfl) ml_X11_210 me_X2_soonerOf (sh35 hst) rfl (gj_nm rfl) rfl (gj_kI fun x S2 M2 h => ?_)
      obtain ⟨bz, e, eS, eM⟩ := h; subst eS; subst eM; subst e
      refine gj_stpZ bz hF (fun x6 bx6 hF => ?_)
      refine gj_if_eq (q := 76) (tgt := 80) (gj_dk okX11_sooner 35 rfl) (by decide) rfl (fun c73 => ?_) (fun c73 => ?_)
      · -- 80
        replace hF := gj_ift c73 hF
        refine gj_iconst (q := 81) (gj_dk okX11_sooner 38 rfl) (by decide) rfl ?_
        cases hF
        exact gj_iret (gj_dk okX11_sooner 39 rfl) rfl ⟨_, rfl, rfl, rfl, rfl⟩
      · -- 76
        replace hF := gj_iff c73 hF
        refine gj_iconst (q := 77) (gj_dk okX11_sooner 36 rfl) (by decide) rfl ?_
        refine gj_goto (tgt := 81) (gj_dk okX11_sooner 37 rfl) (by decide) ?_
        cases hF
        exact gj_iret (gj_dk okX11_sooner 39 rfl) rfl ⟨_, rfl, rfl, rfl, rfl⟩
    · -- 50
      replace hF := gj_ift c47 hF
      refine gj_iconst (q := 51) (gj_dk okX11_sooner 23 rfl) (by decide) rfl ?_
      cases hF
      exact gj_iret (gj_dk okX11_sooner 24 rfl) rfl ⟨_, rfl, rfl, rfl, rfl⟩
def f_X11_canReckon (a1 : Int) (M : gj_M) : Int :=
  (if a1 < 1 then (0) else (if 4 < a1 then (0) else (1)))
set_option maxHeartbeats 4000000 in
set_option maxRecDepth 20000 in
theorem t_X11_canReckon (hst : gj_Stat S) (a1 : Int) {r : Int} (hF : f_X11_canReckon a1 M = r) : gj_C G l 1 0 0 yX11_canReckon cX11_canReckon 1 (some .boolean) [jI a1] S M (gj_qI fun x S' M' => (x = 0 ∨ x = 1) ∧ r = x ∧ S = S' ∧ M = M') := by
  refine gj_Cof (by decide +kernel) (Nat.le_of_ble_eq_true rfl) ?_
  change gj_W G l 1 0 0 yX11_canReckon cX11_canReckon 1 (some .boolean) (gj_qI fun x S' M' => (x = 0 ∨ x = 1) ∧ r = x ∧ S = S' ∧ M = M') 0 0 0 [(0, jI a1)] [] S M
  unfold f_X11_canReckon at hF
  refine gj_iload_n (q := 1) (gj_dk okX11_canReckon 0 rfl) rfl rfl ?_
  refine gj_iconst (q := 2) (gj_dk okX11_canReckon 1 rfl) (by decide) rfl ?_
  refine gj_icmp_lt (q := 5) (tgt := 14) (gj_dk okX11_canReckon 2 rfl) (by decide) rfl (fun c2 => ?_) (fun c2 => ?_)
  · -- 14
    replace hF := gj_ift c2 hF
    refine gj_iconst (q := 15) (gj_dk okX11_canReckon 8 rfl) (by decide) rfl ?_
    subst hF
    exact gj_zret (gj_dk okX11_canReckon 9 rfl) rfl (by decide) ⟨_, rfl, (by decide), rfl, rfl, rfl⟩
  · -- 5
    replace hF := gj_iff c2 hF
    refine gj_iload_n (q := 6) (gj_dk okX11_canReckon 3 rfl) rfl rfl ?_
    refine gj_iconst (q := 7) (gj_dk okX11_canReckon 4 rfl) (by decide) rfl ?_
    refine gj_icmp_gt (q := 10) (tgt := 14) (gj_dk okX11_canReckon 5 rfl) (by decide) rfl (fun c7 => ?_) (fun c7 => ?_)
    · -- 14
      replace hF := gj_ift c7 hF
      refine gj_iconst (q := 15) (gj_dk okX11_canReckon 8 rfl) (by decide) rfl ?_
      subst hF
      exact gj_zret (gj_dk okX11_canReckon 9 rfl) rfl (by decide) ⟨_, rfl, (by decide), rfl, rfl, rfl⟩
    · -- 10
      replace hF := gj_iff c7 hF
      refine gj_iconst (q := 11) (gj_dk okX11_canReckon 6 rfl) (by decide) rfl ?_
      refine gj_goto (tgt := 15) (gj_dk okX11_canReckon 7 rfl) (by decide) ?_
      subst hF
      exact gj_zret (gj_dk okX11_canReckon 9 rfl) rfl (by decide) ⟨_, rfl, (by decide), rfl, rfl, rfl⟩
def J_X4_enter_123 (l1 : Int) (M : gj_M) : Option (gj_M) :=
  gj_let (gj_up M 31 7 (f_plc (f_at M 22 8 l1))) (fun M6 => gj_let (gj_up M6 31 8 (f_at M6 23 8 l1)) (fun M7 => gj_let (gj_up M7 31 9 (M7 14 8)) (fun M8 => gj_let (gj_up M8 31 10 (-1)) (fun M9 => (some (M9))))))
def B_X4_enter_33 (rec33 : Int → Int → gj_M → Option (gj_M)) (l1 l2 : Int) (M : gj_M) : Option (gj_M) :=
  (if 4 ≤ l2 then (J_X4_enter_123 l1 M) else gj_let (f_put M 32 4 l2 (f_at M 26 16 (f_cpl l1 (f_fac l1 l2)))) (fun M3 => gj_let (f_put M3 33 4 l2 (f_at M3 27 16 (f_cpl l1 (f_fac l1 l2)))) (fun M4 => gj_let (f_put M4 34 4 l2 (gj_w ((gj_w (1000 * (M4 14 7))) * (f_at M4 28 16 (f_cpl l1 (f_fac l1 l2)))))) (fun M5 => rec33 l1 (gj_w (l2 + 1)) M5))))
def J_X4_enter_28 (l1 s1 : Int) (M : gj_M) : Option (gj_M) :=
  gj_let (gj_up M 31 6 s1) (fun M2 => (gj_it (fun _ _ _ => none) (B_X4_enter_33) gj_fu l1 0 M2))
def F_X4_enter (a1 : Int) (M : gj_M) : Option (gj_M) :=
  gj_let (gj_up M 31 5 a1) (fun M1 => (if 4 ≤ a1 then (J_X4_enter_28 a1 (M1 14 0) M1) else (J_X4_enter_28 a1 (M1 14 1) M1)))
set_option maxHeartbeats 4000000 in
set_option maxRecDepth 20000 in
theorem t_J_X4_enter_123 (hst : gj_Stat S) {r : gj_M} (l1 : Int) (M : gj_M) (hF : J_X4_enter_123 l1 M = some r) : gj_W G l 2 0 0 yX4_enter cX4_enter 4 none (gj_qV fun S' M' => S = S' ∧ r = M') 0 0 123 [(0, jR 31), (1, jI l1)] [] S M := by
  unfold J_X4_enter_123 at hF
  refine gj_aload_n (q := 124) (gj_dk okX4_enter 61 rfl) rfl rfl ?_
  refine gj_aload_n (q := 125) (gj_dk okX4_enter 62 rfl) rfl rfl ?_
  refine gj_gR (q := 128) (j := 1) (gj_dk okX4_enter 63 rfl) ff_X4_25 (sh31 hst) (by decide) rfl (rf31_1 hst) rfl ?_
  refine gj_gR (q := 131) (j := 3) (gj_dk okX4_enter 64 rfl) ff_X4_73 (sh21 hst) (by decide) rfl (rf21_3 hst) rfl ?_
  refine gj_iload_n (q := 132) (gj_dk okX4_enter 65 rfl) rfl rfl ?_
  refine gj_callS (q := 135) [jR 22, jI l1] rfl (c_X7_at (sh22 hst) (by decide) (by decide) _) (gj_dk okX4_enter 66 rfl) ml_X4_56 me_X7_at (gj_nm rfl) rfl (gj_kI fun x S2 M2 h => ?_)
  obtain ⟨e, eS, eM⟩ := h; subst eS; subst eM; subst e
  refine gj_callS (q := 138) [jI (f_at M 22 8 l1)] rfl (c_X10_placeOf _) (gj_dk okX4_enter 67 rfl) ml_X4_76 me_X10_placeOf (gj_nm rfl) rfl (gj_kI fun x S2 M2 h => ?_)
  obtain ⟨e, eS, eM⟩ := h; subst eS; subst eM; subst e
  refine gj_pfI (q := 141) (j := 7) (gj_dk okX4_enter 68 rfl) ff_X4_80 (sh31 hst) (by decide) rfl rfl ?_
  refine gj_stp hF (fun M6 hF => ?_)
  refine gj_aload_n (q := 142) (gj_dk okX4_enter 69 rfl) rfl rfl ?_
  refine gj_aload_n (q := 143) (gj_dk okX4_enter 70 rfl) rfl rfl ?_
  refine gj_gR (q := 146) (j := 1) (gj_dk okX4_enter 71 rfl) ff_X4_25 (sh31 hst) (by decide) rfl (rf31_1 hst) rfl ?_
  refine gj_gR (q := 149) (j := 4) (gj_dk okX4_enter 72 rfl) ff_X4_83 (sh21 hst) (by decide) rfl (rf21_4 hst) rfl ?_
  refine gj_iload_n (q := 150) (gj_dk okX4_enter 73 rfl) rfl rfl ?_
  refine gj_callS (q := 153) [jR 23, jI l1] rfl (c_X7_at (sh23 hst) (by decide) (by decide) _) (gj_dk okX4_enter 74 rfl) ml_X4_56 me_X7_at (gj_nm rfl) rfl (gj_kI fun x S2 M2 h => ?_)
  obtain ⟨e, eS, eM⟩ := h; subst eS; subst eM; subst e
  refine gj_pfI (q := 156) (j := 8) (gj_dk okX4_enter 75 rfl) ff_X4_86 (sh31 hst) (by decide) rfl rfl ?_
  refine gj_stp hF (fun M7 hF => ?_)
  refine gj_aload_n (q := 157) (gj_dk okX4_enter 76 rfl) rfl rfl ?_
  refine gj_aload_n (q := 158) (gj_dk okX4_enter 77 rfl) rfl rfl ?_
  refine gj_gR (q := 161) (j := 0) (gj_dk okX4_enter 78 rfl) ff_X4_21 (sh31 hst) (by decide) rfl (rf31_0 hst) rfl ?_
  refine gj_gI (q := 164) (j := 8) (gj_dk okX4_enter 79 rfl) ff_X4_89 (sh14 hst) (by decide) rfl rfl ?_
  refine gj_pfI (q := 167) (j := 9) (gj_dk okX4_enter 80 rfl) ff_X4_92 (sh31 hst) (by decide) rfl rfl ?_
  refine gj_stp hF (fun M8 hF => ?_)
  refine gj_aload_n (q := 168) (gj_dk okX4_enter 81 rfl) rfl rfl ?_
  refine gj_iconst (q := 169) (gj_dk okX4_enter 82 rfl) (by decide) rfl ?_
  refine gj_pfI (q := 172) (j := 10) (gj_dk okX4_enter 83 rfl) ff_X4_93 (sh31 hst) (by decide) rfl rfl ?_
  refine gj_stp hF (fun M9 hF => ?_)
  cases hF
  exact gj_vret (gj_dk okX4_enter 84 rfl) rfl ⟨rfl, rfl, rfl⟩
set_option maxHeartbeats 4000000 in
set_option maxRecDepth 20000 in
theorem t_B_X4_enter_33 (hst : gj_Stat S) {r : gj_M} {rec33 : Int → Int → gj_M → Option (gj_M)} (hrec33 : ∀ (l1 l2 : Int) (M : gj_M), rec33 l1 l2 M = some r → gj_W G l 2 0 0 yX4_enter cX4_enter 4 none (gj_qV fun S' M' => S = S' ∧ r = M') 0 0 33 [(0, jR 31), (1, jI l1), (2, jI l2)] [] S M) (l1 l2 : Int) (M : gj_M) (hF : B_X4_enter_33 rec33 l1 l2 M = some r) : gj_W G l 2 0 0 yX4_enter cX4_enter 4 none (gj_qV fun S' M' => S = S' ∧ r = M') 0 0 33 [(0, jR 31), (1, jI l1), (2, jI l2)] [] S M := by
  unfold B_X4_enter_33 at hF
  refine gj_iload_n (q := 34) (gj_dk okX4_enter 17 rfl) rfl rfl ?_
  refine gj_iconst (q := 35) (gj_dk okX4_enter 18 rfl) (by decide) rfl ?_
  refine gj_icmp_ge (q := 38) (tgt := 123) (gj_dk okX4_enter 19 rfl) (by decide) rfl (fun c35 => ?_) (fun c35 => ?_)
  · -- 123
    replace hF := gj_ift c35 hF
    refine gj_sub [(0, jR 31), (1, jI l1)] ⟨rfl, rfl, trivial⟩ ?_
    exact t_J_X4_enter_123 hst l1 M hF
  · -- 38
    replace hF := gj_iff c35 hF
    refine gj_iload_n (q := 39) (gj_dk okX4_enter 20 rfl) rfl rfl ?_
    refine gj_iload_n (q := 40) (gj_dk okX4_enter 21 rfl) rfl rfl ?_
    refine gj_iload_n (q := 41) (gj_dk okX4_enter 22 rfl) rfl rfl ?_
    refine gj_callS (q := 44) [jI l1, jI l2] rfl (c_X10_facing _ _) (gj_dk okX4_enter 23 rfl) ml_X4_44 me_X10_facing (gj_nm rfl) rfl (gj_kI fun x S2 M2 h => ?_)
    obtain ⟨e, eS, eM⟩ := h; subst eS; subst eM; subst e
    refine gj_callS (q := 47) [jI l1, jI (f_fac l1 l2)] rfl (c_X10_couple _ _) (gj_dk okX4_enter 24 rfl) ml_X4_50 me_X10_couple (gj_nm rfl) rfl (gj_kI fun x S2 M2 h => ?_)
    obtain ⟨e, eS, eM⟩ := h; subst eS; subst eM; subst e
    refine gj_istore_n (q := 48) (gj_dk okX4_enter 25 rfl) (by decide) rfl ?_
    refine gj_aload_n (q := 49) (gj_dk okX4_enter 26 rfl) rfl rfl ?_
    refine gj_gR (q := 52) (j := 2) (gj_dk okX4_enter 27 rfl) ff_X4_9 (sh31 hst) (by decide) rfl (rf31_2 hst) rfl ?_
    refine gj_iload_n (q := 53) (gj_dk okX4_enter 28 rfl) rfl rfl ?_
    refine gj_aload_n (q := 54) (gj_dk okX4_enter 29 rfl) rfl rfl ?_
    refine gj_gR (q := 57) (j := 1) (gj_dk okX4_enter 30 rfl) ff_X4_25 (sh31 hst) (by decide) rfl (rf31_1 hst) rfl ?_
    refine gj_gR (q := 60) (j := 7) (gj_dk okX4_enter 31 rfl) ff_X4_53 (sh21 hst) (by decide) rfl (rf21_7 hst) rfl ?_
    refine gj_iload_n (q := 61) (gj_dk okX4_enter 32 rfl) rfl rfl ?_
    refine gj_callS (q := 64) [jR 26, jI (f_cpl l1 (f_fac l1 l2))] rfl (c_X7_at (sh26 hst) (by decide) (by decide) _) (gj_dk okX4_enter 33 rfl) ml_X4_56 me_X7_at (gj_nm rfl) rfl (gj_kI fun x S2 M2 h => ?_)
    obtain ⟨e, eS, eM⟩ := h; subst eS; subst eM; subst e
    refine gj_callS (q := 67) [jR 32, jI l2, jI (f_at M 26 16 (f_cpl l1 (f_fac l1 l2)))] rfl (c_X7_put (sh32 hst) (by decide) (by decide) _ _) (gj_dk okX4_enter 34 rfl) ml_X4_62 me_X7_put (gj_nm rfl) rfl (gj_kV fun S2 M2 h => ?_)
    obtain ⟨eS, eM⟩ := h; subst eS; subst eM
    refine gj_stp hF (fun M3 hF => ?_)
    refine gj_aload_n (q := 68) (gj_dk okX4_enter 35 rfl) rfl rfl ?_
    refine gj_gR (q := 71) (j := 3) (gj_dk okX4_enter 36 rfl) ff_X4_15 (sh31 hst) (by decide) rfl (rf31_3 hst) rfl ?_
    refine gj_iload_n (q := 72) (gj_dk okX4_enter 37 rfl) rfl rfl ?_
    refine gj_aload_n (q := 73) (gj_dk okX4_enter 38 rfl) rfl rfl ?_
    refine gj_gR (q := 76) (j := 1) (gj_dk okX4_enter 39 rfl) ff_X4_25 (sh31 hst) (by decide) rfl (rf31_1 hst) rfl ?_
    refine gj_gR (q := 79) (j := 8) (gj_dk okX4_enter 40 rfl) ff_X4_66 (sh21 hst) (by decide) rfl (rf21_8 hst) rfl ?_
    refine gj_iload_n (q := 80) (gj_dk okX4_enter 41 rfl) rfl rfl ?_
    refine gj_callS (q := 83) [jR 27, jI (f_cpl l1 (f_fac l1 l2))] rfl (c_X7_at (sh27 hst) (by decide) (by decide) _) (gj_dk okX4_enter 42 rfl) ml_X4_56 me_X7_at (gj_nm rfl) rfl (gj_kI fun x S2 M2 h => ?_)
    obtain ⟨e, eS, eM⟩ := h; subst eS; subst eM; subst e
    refine gj_callS (q := 86) [jR 33, jI l2, jI (f_at M3 27 16 (f_cpl l1 (f_fac l1 l2)))] rfl (c_X7_put (sh33 hst) (by decide) (by decide) _ _) (gj_dk okX4_enter 43 rfl) ml_X4_62 me_X7_put (gj_nm rfl) rfl (gj_kV fun S2 M2 h => ?_)
    obtain ⟨eS, eM⟩ := h; subst eS; subst eM
    refine gj_stp hF (fun M4 hF => ?_)
    refine gj_aload_n (q := 87) (gj_dk okX4_enter 44 rfl) rfl rfl ?_
    refine gj_gR (q := 90) (j := 4) (gj_dk okX4_enter 45 rfl) ff_X4_18 (sh31 hst) (by decide) rfl (rf31_4 hst) rfl ?_
    refine gj_iload_n (q := 91) (gj_dk okX4_enter 46 rfl) rfl rfl ?_
    refine gj_sipush (q := 94) (gj_dk okX4_enter 47 rfl) (by decide) rfl rfl ?_
    refine gj_aload_n (q := 95) (gj_dk okX4_enter 48 rfl) rfl rfl ?_
    refine gj_gR (q := 98) (j := 0) (gj_dk okX4_enter 49 rfl) ff_X4_21 (sh31 hst) (by decide) rfl (rf31_0 hst) rfl ?_
    refine gj_gI (q := 101) (j := 7) (gj_dk okX4_enter 50 rfl) ff_X4_67 (sh14 hst) (by decide) rfl rfl ?_
    refine gj_imul (q := 102) (gj_dk okX4_enter 51 rfl) rfl ?_
    refine gj_aload_n (q := 103) (gj_dk okX4_enter 52 rfl) rfl rfl ?_
    refine gj_gR (q := 106) (j := 1) (gj_dk okX4_enter 53 rfl) ff_X4_25 (sh31 hst) (by decide) rfl (rf31_1 hst) rfl ?_
    refine gj_gR (q := 109) (j := 9) (gj_dk okX4_enter 54 rfl) ff_X4_70 (sh21 hst) (by decide) rfl (rf21_9 hst) rfl ?_
    refine gj_iload_n (q := 110) (gj_dk okX4_enter 55 rfl) rfl rfl ?_
    refine gj_callS (q := 113) [jR 28, jI (f_cpl l1 (f_fac l1 l2))] rfl (c_X7_at (sh28 hst) (by decide) (by decide) _) (gj_dk okX4_enter 56 rfl) ml_X4_56 me_X7_at (gj_nm rfl) rfl (gj_kI fun x S2 M2 h => ?_)
    obtain ⟨e, eS, eM⟩ := h; subst eS; subst eM; subst e
    refine gj_imul (q := 114) (gj_dk okX4_enter 57 rfl) rfl ?_
    refine gj_callS (q := 117) [jR 34, jI l2, jI (gj_w ((gj_w (1000 * (M4 14 7))) * (f_at M4 28 16 (f_cpl l1 (f_fac l1 l2)))))] rfl (c_X7_put (sh34 hst) (by decide) (by decide) _ _) (gj_dk okX4_enter 58 rfl) ml_X4_62 me_X7_put (gj_nm rfl) rfl (gj_kV fun S2 M2 h => ?_)
    obtain ⟨eS, eM⟩ := h; subst eS; subst eM
    refine gj_stp hF (fun M5 hF => ?_)
    refine gj_iinc (q := 120) (v := gj_w (l2 + 1)) (gj_dk okX4_enter 59 rfl) rfl (by decide) rfl rfl ?_
    refine gj_goto (tgt := 33) (gj_dk okX4_enter 60 rfl) (by decide) ?_
    refine gj_sub [(0, jR 31), (1, jI l1), (2, jI (gj_w (l2 + 1)))] ⟨rfl, rfl, rfl, trivial⟩ ?_
    exact hrec33 l1 (gj_w (l2 + 1)) M5 hF
theorem t_L_X4_enter_33 (hst : gj_Stat S) {r : gj_M} : ∀ (m : Nat) (l1 : Int) (l2 : Int) (M : gj_M), gj_it (fun _ _ _ => none) (B_X4_enter_33) m l1 l2 M = some r → gj_W G l 2 0 0 yX4_enter cX4_enter 4 none (gj_qV fun S' M' => S = S' ∧ r = M') 0 0 33 [(0, jR 31), (1, jI l1), (2, jI l2)] [] S M := by
  intro m
  induction m with
  | zero => intro l1 l2 M hF; cases (show (none : Option (gj_M)) = some r from hF)
  | succ m ih => intro l1 l2 M hF; exact t_B_X4_enter_33 hst (fun l1 l2 M h => ih l1 l2 M h) l1 l2 M hF
set_option maxHeartbeats 4000000 in
set_option maxRecDepth 20000 in
theorem t_J_X4_enter_28 (hst : gj_Stat S) {r : gj_M} (l1 s1 : Int) (M : gj_M) (hF : J_X4_enter_28 l1 s1 M = some r) : gj_W G l 2 0 0 yX4_enter cX4_enter 4 none (gj_qV fun S' M' => S = S' ∧ r = M') 0 0 28 [(0, jR 31), (1, jI l1)] [jI s1, jR 31] S M := by
  unfold J_X4_enter_28 at hF
  refine gj_pfI (q := 31) (j := 6) (gj_dk okX4_enter 14 rfl) ff_X4_41 (sh31 hst) (by decide) rfl rfl ?_
  refine gj_stp hF (fun M2 hF => ?_)
  refine gj_iconst (q := 32) (gj_dk okX4_enter 15 rfl) (by decide) rfl ?_
  refine gj_istore_n (q := 33) (gj_dk okX4_enter 16 rfl) (by decide) rfl ?_
  refine gj_sub [(0, jR 31), (1, jI l1), (2, jI 0)] ⟨rfl, rfl, rfl, trivial⟩ ?_
  exact t_L_X4_enter_33 hst gj_fu l1 0 M2 hF
set_option maxHeartbeats 4000000 in
set_option maxRecDepth 20000 in
theorem t_X4_enter (hst : gj_Stat S) (a1 : Int) {r : gj_M} (hF : F_X4_enter a1 M = some r) : gj_C G l 2 0 0 yX4_enter cX4_enter 4 none [jR 31, jI a1] S M (gj_qV fun S' M' => S = S' ∧ r = M') := by
  refine gj_Cof (by decide +kernel) (Nat.le_of_ble_eq_true rfl) ?_
  change gj_W G l 2 0 0 yX4_enter cX4_enter 4 none (gj_qV fun S' M' => S = S' ∧ r = M') 0 0 0 [(0, jR 31), (1, jI a1)] [] S M
  unfold F_X4_enter at hF
  refine gj_aload_n (q := 1) (gj_dk okX4_enter 0 rfl) rfl rfl ?_
  refine gj_iload_n (q := 2) (gj_dk okX4_enter 1 rfl) rfl rfl ?_
  refine gj_pfI (q := 5) (j := 5) (gj_dk okX4_enter 2 rfl) ff_X4_29 (sh31 hst) (by decide) rfl rfl ?_
  refine gj_stp hF (fun M1 hF => ?_)
  refine gj_aload_n (q := 6) (gj_dk okX4_enter 3 rfl) rfl rfl ?_
  refine gj_iload_n (q := 7) (gj_dk okX4_enter 4 rfl) rfl rfl ?_
  refine gj_iconst (q := 8) (gj_dk okX4_enter 5 rfl) (by decide) rfl ?_
  refine gj_icmp_ge (q := 11) (tgt := 21) (gj_dk okX4_enter 6 rfl) (by decide) rfl (fun c8 => ?_) (fun c8 => ?_)
  · -- 21
    replace hF := gj_ift c8 hF
    refine gj_aload_n (q := 22) (gj_dk okX4_enter 11 rfl) rfl rfl ?_
    refine gj_gR (q := 25) (j := 0) (gj_dk okX4_enter 12 rfl) ff_X4_21 (sh31 hst) (by decide) rfl (rf31_0 hst) rfl ?_
    refine gj_gI (q := 28) (j := 0) (gj_dk okX4_enter 13 rfl) ff_X4_38 (sh14 hst) (by decide) rfl rfl ?_
    refine gj_sub [(0, jR 31), (1, jI a1)] ⟨rfl, rfl, trivial⟩ ?_
    exact t_J_X4_enter_28 hst a1 (M1 14 0) M1 hF
  · -- 11
    replace hF := gj_iff c8 hF
    refine gj_aload_n (q := 12) (gj_dk okX4_enter 7 rfl) rfl rfl ?_
    refine gj_gR (q := 15) (j := 0) (gj_dk okX4_enter 8 rfl) ff_X4_21 (sh31 hst) (by decide) rfl (rf31_0 hst) rfl ?_
    refine gj_gI (q := 18) (j := 1) (gj_dk okX4_enter 9 rfl) ff_X4_33 (sh14 hst) (by decide) rfl rfl ?_
    refine gj_goto (tgt := 28) (gj_dk okX4_enter 10 rfl) (by decide) ?_
    refine gj_sub [(0, jR 31), (1, jI a1)] ⟨rfl, rfl, trivial⟩ ?_
    exact t_J_X4_enter_28 hst a1 (M1 14 1) M1 hF
def f_X4_isShut (a1 : Int) (M : gj_M) : Int :=
  (if a1 = -1 then (0) else (if a1 = M 31 10 then (1) else (0)))
set_option maxHeartbeats 4000000 in
set_option maxRecDepth 20000 in
theorem t_X4_isShut (hst : gj_Stat S) (a1 : Int) {r : Int} (hF : f_X4_isShut a1 M = r) : gj_C G l 1 0 0 yX4_isShut cX4_isShut 2 (some .boolean) [jR 31, jI a1] S M (gj_qI fun x S' M' => (x = 0 ∨ x = 1) ∧ r = x ∧ S = S' ∧ M = M') := by
  refine gj_Cof (by decide +kernel) (Nat.le_of_ble_eq_true rfl) ?_
  change gj_W G l 1 0 0 yX4_isShut cX4_isShut 2 (some .boolean) (gj_qI fun x S' M' => (x = 0 ∨ x = 1) ∧ r = x ∧ S = S' ∧ M = M') 0 0 0 [(0, jR 31), (1, jI a1)] [] S M
  unfold f_X4_isShut at hF
  refine gj_iload_n (q := 1) (gj_dk okX4_isShut 0 rfl) rfl rfl ?_
  refine gj_iconst (q := 2) (gj_dk okX4_isShut 1 rfl) (by decide) rfl ?_
  refine gj_icmp_eq (q := 5) (tgt := 17) (gj_dk okX4_isShut 2 rfl) (by decide) rfl (fun c2 => ?_) (fun c2 => ?_)
  · -- 17
    replace hF := gj_ift c2 hF
    refine gj_iconst (q := 18) (gj_dk okX4_isShut 9 rfl) (by decide) rfl ?_
    subst hF
    exact gj_zret (gj_dk okX4_isShut 10 rfl) rfl (by decide) ⟨_, rfl, (by decide), rfl, rfl, rfl⟩
  · -- 5
    replace hF := gj_iff c2 hF
    refine gj_iload_n (q := 6) (gj_dk okX4_isShut 3 rfl) rfl rfl ?_
    refine gj_aload_n (q := 7) (gj_dk okX4_isShut 4 rfl) rfl rfl ?_
    refine gj_gI (q := 10) (j := 10) (gj_dk okX4_isShut 5 rfl) ff_X4_93 (sh31 hst) (by decide) rfl rfl ?_
    refine gj_icmp_ne (q := 13) (tgt := 17) (gj_dk okX4_isShut 6 rfl) (by decide) rfl (fun c10 => ?_) (fun c10 => ?_)
    · -- 17
      replace hF := gj_iff c10 hF
      refine gj_iconst (q := 18) (gj_dk okX4_isShut 9 rfl) (by decide) rfl ?_
      subst hF
      exact gj_zret (gj_dk okX4_isShut 10 rfl) rfl (by decide) ⟨_, rfl, (by decide), rfl, rfl, rfl⟩
    · -- 13
      replace hF := gj_ift c10 hF
      refine gj_iconst (q := 14) (gj_dk okX4_isShut 7 rfl) (by decide) rfl ?_
      refine gj_goto (tgt := 18) (gj_dk okX4_isShut 8 rfl) (by decide) ?_
      subst hF
      exact gj_zret (gj_dk okX4_isShut 10 rfl) rfl (by decide) ⟨_, rfl, (by decide), rfl, rfl, rfl⟩
def J_X4_doing_186 (rec : Int → Int → Int → gj_M → Option (Int × gj_M)) (l1 l2 l5 l7 l8 l9 l10 l12 : Int) (M : gj_M) : Option (Int × gj_M) :=
  (if 1 < l2 then gj_let (f_put M 32 4 l1 (f_min 4 (gj_w (l7 + 1)))) (fun M6 => gj_bnd2 (rec (gj_w (l2 - 1)) l1 (gj_w (l9 + 1)) M6) (fun x7 M8 => gj_let (f_put M8 32 4 l1 l7) (fun M9 => gj_let (f_put M9 33 4 l1 (f_min 4 (gj_w (l8 + 1)))) (fun M10 => gj_bnd2 (rec (gj_w (l2 - 1)) l1 (gj_w (l9 + 1)) M10) (fun x11 M12 => gj_let (f_put M12 33 4 l1 l8) (fun M13 => (some ((gj_wl ((gj_wl (l12 - l5)) + (gj_wl (Int.tdiv (gj_wl ((gj_wl (l10 * x7)) + (gj_wl ((gj_wl (1000 - l10)) * x11)))) 1000))), M13))))))))) else (some ((gj_wl (l12 - l5), M))))
def J_X4_doing_94 (rec : Int → Int → Int → gj_M → Option (Int × gj_M)) (l1 l2 l5 l7 l8 s0 : Int) (M : gj_M) : Option (Int × gj_M) :=
  gj_letI (f_X5_shownGood (gj_w ((gj_w ((M 31 5) * 4)) + l1)) l7 l8 M) (fun x3 => gj_letI (gj_wl ((gj_wl ((gj_wl (x3 * (M 14 2))) + (gj_wl ((gj_wl (1000 - x3)) * (M 14 3))))) + (f_at M 34 4 l1))) (fun x4 => (if s0 < M 14 4 then (J_X4_doing_186 rec l1 l2 l5 l7 l8 s0 x3 x4 M) else gj_letI (gj_wl (x4 + (gj_wl (1000 * (M 14 5))))) (fun x5 => (J_X4_doing_186 rec l1 l2 l5 l7 l8 s0 x3 x5 M)))))
def J_X4_doing_23 (rec : Int → Int → Int → gj_M → Option (Int × gj_M)) (l1 l2 l3 l4 s0 : Int) (M : gj_M) : Option (Int × gj_M) :=
  (if l1 = -1 then gj_bnd2 (rec (gj_w (l2 - 1)) (-1) 0 M) (fun x1 M2 => (some ((gj_wl ((gj_wl ((gj_wl (1000 * (f_at M 15 8 (M 31 5)))) - s0)) + x1), M2)))) else (if l1 = l3 then (J_X4_doing_94 rec l1 l2 s0 (f_at M 32 4 l1) (f_at M 33 4 l1) l4 M) else (J_X4_doing_94 rec l1 l2 s0 (f_at M 32 4 l1) (f_at M 33 4 l1) 0 M)))
def F_X4_doing (rec : Int → Int → Int → gj_M → Option (Int × gj_M)) (a1 : Int) (a2 : Int) (a3 : Int) (a4 : Int) (M : gj_M) : Option (Int × gj_M) :=
  (if a3 = -1 then (J_X4_doing_23 rec a1 a2 a3 a4 0 M) else (if a1 = a3 then (J_X4_doing_23 rec a1 a2 a3 a4 0 M) else (J_X4_doing_23 rec a1 a2 a3 a4 (gj_wl (1000 * (M 31 9))) M)))
set_option maxHeartbeats 4000000 in
set_option maxRecDepth 20000 in
theorem t_J_X4_doing_186 (hst : gj_Stat S) {dd : Nat} (hdd : 4 ≤ dd) {rec : Int → Int → Int → gj_M → Option (Int × gj_M)} (hrec : ∀ (a1 a2 a3 : Int) (M : gj_M) (r : Int × gj_M), rec a1 a2 a3 M = some r → gj_C G l dd 0 0 yX4_worthOf cX4_worthOf 7 (some .long) [jR 31, jI a1, jI a2, jI a3] S M (gj_qL fun x S' M' => r.1 = x ∧ S = S' ∧ r.2 = M')) {r : Int × gj_M} (l1 l2 l5 l7 l8 l9 l10 l12 : Int) (M : gj_M) (hF : J_X4_doing_186 rec l1 l2 l5 l7 l8 l9 l10 l12 M = some r) : gj_W G l ((dd + 1)) 0 0 yX4_doing cX4_doing 18 (some .long) (gj_qL fun x S' M' => r.1 = x ∧ S = S' ∧ r.2 = M') 0 0 186 [(0, jR 31), (1, jI l1), (2, jI l2), (5, jL l5), (7, jI l7), (8, jI l8), (9, jI l9), (10, jL l10), (12, jL l12)] [] S M := by
  unfold J_X4_doing_186 at hF
  refine gj_iload_n (q := 187) (gj_dk okX4_doing_1 43 rfl) rfl rfl ?_
  refine gj_iconst (q := 188) (gj_dk okX4_doing_1 44 rfl) (by decide) rfl ?_
  refine gj_icmp_gt (q := 191) (tgt := 197) (gj_dk okX4_doing_1 45 rfl) (by decide) rfl (fun c188 => ?_) (fun c188 => ?_)
  · -- 197
    replace hF := gj_ift c188 hF
    refine gj_aload_n (q := 198) (gj_dk okX4_doing_1 50 rfl) rfl rfl ?_
    refine gj_gR (q := 201) (j := 2) (gj_dk okX4_doing_1 51 rfl) ff_X4_9 (sh31 hst) (by decide) rfl (rf31_2 hst) rfl ?_
    refine gj_iload_n (q := 202) (gj_dk okX4_doing_1 52 rfl) rfl rfl ?_
    refine gj_iconst (q := 203) (gj_dk okX4_doing_1 53 rfl) (by decide) rfl ?_
    refine gj_iload (q := 205) (gj_dk okX4_doing_1 54 rfl) rfl rfl ?_
    refine gj_iconst (q := 206) (gj_dk okX4_doing_1 55 rfl) (by decide) rfl ?_
    refine gj_iadd (q := 207) (gj_dk okX4_doing_1 56 rfl) rfl ?_
    refine gj_mmin (q := 210) (gj_dk okX4_doing_1 57 rfl) ml_X4_111 ⟨by omega, Nat.le_of_ble_eq_true rfl⟩ rfl ?_
    refine gj_callS (q := 213) [jR 32, jI l1, jI (f_min 4 (gj_w (l7 + 1)))] rfl (c_X7_put (sh32 hst) (by decide) (by decide) _ _) (gj_dk okX4_doing_1 58 rfl) ml_X4_62 me_X7_put ⟨by omega, Nat.le_of_ble_eq_true rfl, rfl, Nat.le_of_ble_eq_true rfl, by omega, by omega⟩ rfl (gj_kV fun S2 M2 h => ?_)
    obtain ⟨eS, eM⟩ := h; subst eS; subst eM
    refine gj_stp hF (fun M6 hF => ?_)
    refine gj_aload_n (q := 214) (gj_dk okX4_doing_1 59 rfl) rfl rfl ?_
    refine gj_iload_n (q := 215) (gj_dk okX4_doing_2 0 rfl) rfl rfl ?_
    refine gj_iconst (q := 216) (gj_dk okX4_doing_2 1 rfl) (by decide) rfl ?_
    refine gj_isub (q := 217) (gj_dk okX4_doing_2 2 rfl) rfl ?_
    refine gj_iload_n (q := 218) (gj_dk okX4_doing_2 3 rfl) rfl rfl ?_
    refine gj_iload (q := 220) (gj_dk okX4_doing_2 4 rfl) rfl rfl ?_
    refine gj_iconst (q := 221) (gj_dk okX4_doing_2 5 rfl) (by decide) rfl ?_
    refine gj_iadd (q := 222) (gj_dk okX4_doing_2 6 rfl) rfl ?_
    obtain ⟨x7, M8, hG, hF⟩ := gj_bnd2d hF
    refine gj_callV (q := 225) (z := 31) (ci := 4) [jI (gj_w (l2 - 1)), jI l1, jI (gj_w (l9 + 1))] rfl (hrec (gj_w (l2 - 1)) l1 (gj_w (l9 + 1)) _ _ hG) (gj_dk okX4_doing_2 7 rfl) ml_X4_96 me_X4_worthOf (sh31 hst) rfl ⟨by omega, Nat.le_of_ble_eq_true rfl, rfl, Nat.le_of_ble_eq_true rfl, by omega, by omega⟩ rfl (gj_kL fun y S2 M2 h => ?_)
    obtain ⟨e, eS, eM⟩ := h; subst eS; subst eM; subst e; clear hG
    dsimp only
    refine gj_lstore (q := 227) (gj_dk okX4_doing_2 8 rfl) (by decide) rfl ?_
    refine gj_aload_n (q := 228) (gj_dk okX4_doing_2 9 rfl) rfl rfl ?_
    refine gj_gR (q := 231) (j := 2) (gj_dk okX4_doing_2 10 rfl) ff_X4_9 (sh31 hst) (by decide) rfl (rf31_2 hst) rfl ?_
    refine gj_iload_n (q := 232) (gj_dk okX4_doing_2 11 rfl) rfl rfl ?_
    refine gj_iload (q := 234) (gj_dk okX4_doing_2 12 rfl) rfl rfl ?_
    refine gj_callS (q := 237) [jR 32, jI l1, jI l7] rfl (c_X7_put (sh32 hst) (by decide) (by decide) _ _) (gj_dk okX4_doing_2 13 rfl) ml_X4_62 me_X7_put ⟨by omega, Nat.le_of_ble_eq_true rfl, rfl, Nat.le_of_ble_eq_true rfl, by omega, by omega⟩ rfl (gj_kV fun S2 M2 h => ?_)
    obtain ⟨eS, eM⟩ := h; subst eS; subst eM
    refine gj_stp hF (fun M9 hF => ?_)
    refine gj_aload_n (q := 238) (gj_dk okX4_doing_2 14 rfl) rfl rfl ?_
    refine gj_gR (q := 241) (j := 3) (gj_dk okX4_doing_2 15 rfl) ff_X4_15 (sh31 hst) (by decide) rfl (rf31_3 hst) rfl ?_
    refine gj_iload_n (q := 242) (gj_dk okX4_doing_2 16 rfl) rfl rfl ?_
    refine gj_iconst (q := 243) (gj_dk okX4_doing_2 17 rfl) (by decide) rfl ?_
    refine gj_iload (q := 245) (gj_dk okX4_doing_2 18 rfl) rfl rfl ?_
    refine gj_iconst (q := 246) (gj_dk okX4_doing_2 19 rfl) (by decide) rfl ?_
    refine gj_iadd (q := 247) (gj_dk okX4_doing_2 20 rfl) rfl ?_
    refine gj_mmin (q := 250) (gj_dk okX4_doing_2 21 rfl) ml_X4_111 ⟨by omega, Nat.le_of_ble_eq_true rfl⟩ rfl ?_
    refine gj_callS (q := 253) [jR 33, jI l1, jI (f_min 4 (gj_w (l8 + 1)))] rfl (c_X7_put (sh33 hst) (by decide) (by decide) _ _) (gj_dk okX4_doing_2 22 rfl) ml_X4_62 me_X7_put ⟨by omega, Nat.le_of_ble_eq_true rfl, rfl, Nat.le_of_ble_eq_true rfl, by omega, by omega⟩ rfl (gj_kV fun S2 M2 h => ?_)
    obtain ⟨eS, eM⟩ := h; subst eS; subst eM
    refine gj_stp hF (fun M10 hF => ?_)
    refine gj_aload_n (q := 254) (gj_dk okX4_doing_2 23 rfl) rfl rfl ?_
    refine gj_iload_n (q := 255) (gj_dk okX4_doing_2 24 rfl) rfl rfl ?_
    refine gj_iconst (q := 256) (gj_dk okX4_doing_2 25 rfl) (by decide) rfl ?_
    refine gj_isub (q := 257) (gj_dk okX4_doing_2 26 rfl) rfl ?_
    refine gj_iload_n (q := 258) (gj_dk okX4_doing_2 27 rfl) rfl rfl ?_
    refine gj_iload (q := 260) (gj_dk okX4_doing_2 28 rfl) rfl rfl ?_
    refine gj_iconst (q := 261) (gj_dk okX4_doing_2 29 rfl) (by decide) rfl ?_
    refine gj_iadd (q := 262) (gj_dk okX4_doing_2 30 rfl) rfl ?_
    obtain ⟨x11, M12, hG, hF⟩ := gj_bnd2d hF
    refine gj_callV (q := 265) (z := 31) (ci := 4) [jI (gj_w (l2 - 1)), jI l1, jI (gj_w (l9 + 1))] rfl (hrec (gj_w (l2 - 1)) l1 (gj_w (l9 + 1)) _ _ hG) (gj_dk okX4_doing_2 31 rfl) ml_X4_96 me_X4_worthOf (sh31 hst) rfl ⟨by omega, Nat.le_of_ble_eq_true rfl, rfl, Nat.le_of_ble_eq_true rfl, by omega, by omega⟩ rfl (gj_kL fun y S2 M2 h => ?_)
    obtain ⟨e, eS, eM⟩ := h; subst eS; subst eM; subst e; clear hG
    dsimp only
    refine gj_lstore (q := 267) (gj_dk okX4_doing_2 32 rfl) (by decide) rfl ?_
    refine gj_aload_n (q := 268) (gj_dk okX4_doing_2 33 rfl) rfl rfl ?_
    refine gj_gR (q := 271) (j := 3) (gj_dk okX4_doing_2 34 rfl) ff_X4_15 (sh31 hst) (by decide) rfl (rf31_3 hst) rfl ?_
    refine gj_iload_n (q := 272) (gj_dk okX4_doing_2 35 rfl) rfl rfl ?_
    refine gj_iload (q := 274) (gj_dk okX4_doing_2 36 rfl) rfl rfl ?_
    refine gj_callS (q := 277) [jR 33, jI l1, jI l8] rfl (c_X7_put (sh33 hst) (by decide) (by decide) _ _) (gj_dk okX4_doing_2 37 rfl) ml_X4_62 me_X7_put ⟨by omega, Nat.le_of_ble_eq_true rfl, rfl, Nat.le_of_ble_eq_true rfl, by omega, by omega⟩ rfl (gj_kV fun S2 M2 h => ?_)
    obtain ⟨eS, eM⟩ := h; subst eS; subst eM
    refine gj_stp hF (fun M13 hF => ?_)
    refine gj_lload (q := 279) (gj_dk okX4_doing_2 38 rfl) rfl rfl ?_
    refine gj_lload (q := 281) (gj_dk okX4_doing_2 39 rfl) rfl rfl ?_
    refine gj_lsub (q := 282) (gj_dk okX4_doing_2 40 rfl) rfl ?_
    refine gj_lload (q := 284) (gj_dk okX4_doing_2 41 rfl) rfl rfl ?_
    refine gj_lload (q := 286) (gj_dk okX4_doing_2 42 rfl) rfl rfl ?_
    refine gj_lmul (q := 287) (gj_dk okX4_doing_2 43 rfl) rfl ?_
    refine gj_ldc2 (q := 290) (z := 1000) (gj_dk okX4_doing_2 44 rfl) kl_X4_122 (by decide) rfl ?_
    refine gj_lload (q := 292) (gj_dk okX4_doing_2 45 rfl) rfl rfl ?_
    refine gj_lsub (q := 293) (gj_dk okX4_doing_2 46 rfl) rfl ?_
    refine gj_lload (q := 295) (gj_dk okX4_doing_2 47 rfl) rfl rfl ?_
    refine gj_lmul (q := 296) (gj_dk okX4_doing_2 48 rfl) rfl ?_
    refine gj_ladd (q := 297) (gj_dk okX4_doing_2 49 rfl) rfl ?_
    refine gj_ldc2 (q := 300) (z := 1000) (gj_dk okX4_doing_2 50 rfl) kl_X4_122 (by decide) rfl ?_
    refine gj_ldiv (q := 301) (gj_dk okX4_doing_2 51 rfl) (by decide) rfl ?_
    refine gj_ladd (q := 302) (gj_dk okX4_doing_2 52 rfl) rfl ?_
    cases hF
    exact gj_lret (gj_dk okX4_doing_2 53 rfl) rfl ⟨_, rfl, rfl, rfl, rfl⟩
  · -- 191
    replace hF := gj_iff c188 hF
    refine gj_lload (q := 193) (gj_dk okX4_doing_1 46 rfl) rfl rfl ?_
    refine gj_lload (q := 195) (gj_dk okX4_doing_1 47 rfl) rfl rfl ?_
    refine gj_lsub (q := 196) (gj_dk okX4_doing_1 48 rfl) rfl ?_
    cases hF
    exact gj_lret (gj_dk okX4_doing_1 49 rfl) rfl ⟨_, rfl, rfl, rfl, rfl⟩
set_option maxHeartbeats 4000000 in
set_option maxRecDepth 20000 in
theorem t_J_X4_doing_94 (hst : gj_Stat S) {dd : Nat} (hdd : 4 ≤ dd) {rec : Int → Int → Int → gj_M → Option (Int × gj_M)} (hrec : ∀ (a1 a2 a3 : Int) (M : gj_M) (r : Int × gj_M), rec a1 a2 a3 M = some r → gj_C G l dd 0 0 yX4_worthOf cX4_worthOf 7 (some .long) [jR 31, jI a1, jI a2, jI a3] S M (gj_qL fun x S' M' => r.1 = x ∧ S = S' ∧ r.2 = M')) {r : Int × gj_M} (l1 l2 l5 l7 l8 s0 : Int) (M : gj_M) (hF : J_X4_doing_94 rec l1 l2 l5 l7 l8 s0 M = some r) : gj_W G l ((dd + 1)) 0 0 yX4_doing cX4_doing 18 (some .long) (gj_qL fun x S' M' => r.1 = x ∧ S = S' ∧ r.2 = M') 0 0 94 [(0, jR 31), (1, jI l1), (2, jI l2), (5, jL l5), (7, jI l7), (8, jI l8)] [jI s0] S M := by
  unfold J_X4_doing_94 at hF
  refine gj_istore (q := 96) (gj_dk okX4_doing_0 53 rfl) (by decide) rfl ?_
  refine gj_aload_n (q := 97) (gj_dk okX4_doing_0 54 rfl) rfl rfl ?_
  refine gj_gR (q := 100) (j := 0) (gj_dk okX4_doing_0 55 rfl) ff_X4_21 (sh31 hst) (by decide) rfl (rf31_0 hst) rfl ?_
  refine gj_aload_n (q := 101) (gj_dk okX4_doing_0 56 rfl) rfl rfl ?_
  refine gj_gI (q := 104) (j := 5) (gj_dk okX4_doing_0 57 rfl) ff_X4_29 (sh31 hst) (by decide) rfl rfl ?_
  refine gj_iconst (q := 105) (gj_dk okX4_doing_0 58 rfl) (by decide) rfl ?_
  refine gj_imul (q := 106) (gj_dk okX4_doing_0 59 rfl) rfl ?_
  refine gj_iload_n (q := 107) (gj_dk okX4_doing_1 0 rfl) rfl rfl ?_
  refine gj_iadd (q := 108) (gj_dk okX4_doing_1 1 rfl) rfl ?_
  refine gj_iload (q := 110) (gj_dk okX4_doing_1 2 rfl) rfl rfl ?_
  refine gj_iload (q := 112) (gj_dk okX4_doing_1 3 rfl) rfl rfl ?_
  refine gj_callV (q := 115) (z := 14) (ci := 5) [jI (gj_w ((gj_w ((M 31 5) * 4)) + l1)), jI l7, jI l8] rfl (t_X5_shownGood hst (gj_w ((gj_w ((M 31 5) * 4)) + l1)) l7 l8 rfl) (gj_dk okX4_doing_1 4 rfl) ml_X4_132 me_X5_shownGood (sh14 hst) rfl ⟨by omega, Nat.le_of_ble_eq_true rfl, rfl, Nat.le_of_ble_eq_true rfl, by omega, by omega⟩ rfl (gj_kI fun x S2 M2 h => ?_)
  obtain ⟨e, eS, eM⟩ := h; subst eS; subst eM; subst e
  refine gj_stpI hF (fun x3 hF => ?_)
  refine gj_i2l (q := 116) (gj_dk okX4_doing_1 5 rfl) rfl ?_
  refine gj_lstore (q := 118) (gj_dk okX4_doing_1 6 rfl) (by decide) rfl ?_
  refine gj_lload (q := 120) (gj_dk okX4_doing_1 7 rfl) rfl rfl ?_
  refine gj_aload_n (q := 121) (gj_dk okX4_doing_1 8 rfl) rfl rfl ?_
  refine gj_gR (q := 124) (j := 0) (gj_dk okX4_doing_1 9 rfl) ff_X4_21 (sh31 hst) (by decide) rfl (rf31_0 hst) rfl ?_
  refine gj_gI (q := 127) (j := 2) (gj_dk okX4_doing_1 10 rfl) ff_X4_136 (sh14 hst) (by decide) rfl rfl ?_
  refine gj_i2l (q := 128) (gj_dk okX4_doing_1 11 rfl) rfl ?_
  refine gj_lmul (q := 129) (gj_dk okX4_doing_1 12 rfl) rfl ?_
  refine gj_ldc2 (q := 132) (z := 1000) (gj_dk okX4_doing_1 13 rfl) kl_X4_122 (by decide) rfl ?_
  refine gj_lload (q := 134) (gj_dk okX4_doing_1 14 rfl) rfl rfl ?_
  refine gj_lsub (q := 135) (gj_dk okX4_doing_1 15 rfl) rfl ?_
  refine gj_aload_n (q := 136) (gj_dk okX4_doing_1 16 rfl) rfl rfl ?_
  refine gj_gR (q := 139) (j := 0) (gj_dk okX4_doing_1 17 rfl) ff_X4_21 (sh31 hst) (by decide) rfl (rf31_0 hst) rfl ?_
  refine gj_gI (q := 142) (j := 3) (gj_dk okX4_doing_1 18 rfl) ff_X4_139 (sh14 hst) (by decide) rfl rfl ?_
  refine gj_i2l (q := 143) (gj_dk okX4_doing_1 19 rfl) rfl ?_
  refine gj_lmul (q := 144) (gj_dk okX4_doing_1 20 rfl) rfl ?_
  refine gj_ladd (q := 145) (gj_dk okX4_doing_1 21 rfl) rfl ?_
  refine gj_aload_n (q := 146) (gj_dk okX4_doing_1 22 rfl) rfl rfl ?_
  refine gj_gR (q := 149) (j := 4) (gj_dk okX4_doing_1 23 rfl) ff_X4_18 (sh31 hst) (by decide) rfl (rf31_4 hst) rfl ?_
  refine gj_iload_n (q := 150) (gj_dk okX4_doing_1 24 rfl) rfl rfl ?_
  refine gj_callS (q := 153) [jR 34, jI l1] rfl (c_X7_at (sh34 hst) (by decide) (by decide) _) (gj_dk okX4_doing_1 25 rfl) ml_X4_56 me_X7_at ⟨by omega, Nat.le_of_ble_eq_true rfl, rfl, Nat.le_of_ble_eq_true rfl, by omega, by omega⟩ rfl (gj_kI fun x S2 M2 h => ?_)
  obtain ⟨e, eS, eM⟩ := h; subst eS; subst eM; subst e
  refine gj_i2l (q := 154) (gj_dk okX4_doing_1 26 rfl) rfl ?_
  refine gj_ladd (q := 155) (gj_dk okX4_doing_1 27 rfl) rfl ?_
  refine gj_stpL hF (fun x4 hF => ?_)
  refine gj_lstore (q := 157) (gj_dk okX4_doing_1 28 rfl) (by decide) rfl ?_
  refine gj_iload (q := 159) (gj_dk okX4_doing_1 29 rfl) rfl rfl ?_
  refine gj_aload_n (q := 160) (gj_dk okX4_doing_1 30 rfl) rfl rfl ?_
  refine gj_gR (q := 163) (j := 0) (gj_dk okX4_doing_1 31 rfl) ff_X4_21 (sh31 hst) (by decide) rfl (rf31_0 hst) rfl ?_
  refine gj_gI (q := 166) (j := 4) (gj_dk okX4_doing_1 32 rfl) ff_X4_142 (sh14 hst) (by decide) rfl rfl ?_
  refine gj_icmp_lt (q := 169) (tgt := 186) (gj_dk okX4_doing_1 33 rfl) (by decide) rfl (fun c166 => ?_) (fun c166 => ?_)
  · -- 186
    replace hF := gj_ift c166 hF
    refine gj_sub [(0, jR 31), (1, jI l1), (2, jI l2), (5, jL l5), (7, jI l7), (8, jI l8), (9, jI s0), (10, jL x3), (12, jL x4)] ⟨rfl, rfl, rfl, rfl, rfl, rfl, rfl, rfl, rfl, trivial⟩ ?_
    exact t_J_X4_doing_186 hst hdd hrec l1 l2 l5 l7 l8 s0 x3 x4 M hF
  · -- 169
    replace hF := gj_iff c166 hF
    refine gj_lload (q := 171) (gj_dk okX4_doing_1 34 rfl) rfl rfl ?_
    refine gj_ldc2 (q := 174) (z := 1000) (gj_dk okX4_doing_1 35 rfl) kl_X4_122 (by decide) rfl ?_
    refine gj_aload_n (q := 175) (gj_dk okX4_doing_1 36 rfl) rfl rfl ?_
    refine gj_gR (q := 178) (j := 0) (gj_dk okX4_doing_1 37 rfl) ff_X4_21 (sh31 hst) (by decide) rfl (rf31_0 hst) rfl ?_
    refine gj_gI (q := 181) (j := 5) (gj_dk okX4_doing_1 38 rfl) ff_X4_145 (sh14 hst) (by decide) rfl rfl ?_
    refine gj_i2l (q := 182) (gj_dk okX4_doing_1 39 rfl) rfl ?_
    refine gj_lmul (q := 183) (gj_dk okX4_doing_1 40 rfl) rfl ?_
    refine gj_ladd (q := 184) (gj_dk okX4_doing_1 41 rfl) rfl ?_
    refine gj_stpL hF (fun x5 hF => ?_)
    refine gj_lstore (q := 186) (gj_dk okX4_doing_1 42 rfl) (by decide) rfl ?_
    refine gj_sub [(0, jR 31), (1, jI l1), (2, jI l2), (5, jL l5), (7, jI l7), (8, jI l8), (9, jI s0), (10, jL x3), (12, jL x5)] ⟨rfl, rfl, rfl, rfl, rfl, rfl, rfl, rfl, rfl, trivial⟩ ?_
    exact t_J_X4_doing_186 hst hdd hrec l1 l2 l5 l7 l8 s0 x3 x5 M hF
set_option maxHeartbeats 4000000 in
set_option maxRecDepth 20000 in
theorem t_J_X4_doing_23 (hst : gj_Stat S) {dd : Nat} (hdd : 4 ≤ dd) {rec : Int → Int → Int → gj_M → Option (Int × gj_M)} (hrec : ∀ (a1 a2 a3 : Int) (M : gj_M) (r : Int × gj_M), rec a1 a2 a3 M = some r → gj_C G l dd 0 0 yX4_worthOf cX4_worthOf 7 (some .long) [jR 31, jI a1, jI a2, jI a3] S M (gj_qL fun x S' M' => r.1 = x ∧ S = S' ∧ r.2 = M')) {r : Int × gj_M} (l1 l2 l3 l4 s0 : Int) (M : gj_M) (hF : J_X4_doing_23 rec l1 l2 l3 l4 s0 M = some r) : gj_W G l ((dd + 1)) 0 0 yX4_doing cX4_doing 18 (some .long) (gj_qL fun x S' M' => r.1 = x ∧ S = S' ∧ r.2 = M') 0 0 23 [(0, jR 31), (1, jI l1), (2, jI l2), (3, jI l3), (4, jI l4)] [jL s0] S M := by
  unfold J_X4_doing_23 at hF
  refine gj_lstore (q := 25) (gj_dk okX4_doing_0 13 rfl) (by decide) rfl ?_
  refine gj_iload_n (q := 26) (gj_dk okX4_doing_0 14 rfl) rfl rfl ?_
  refine gj_iconst (q := 27) (gj_dk okX4_doing_0 15 rfl) (by decide) rfl ?_
  refine gj_icmp_ne (q := 30) (tgt := 63) (gj_dk okX4_doing_0 16 rfl) (by decide) rfl (fun c27 => ?_) (fun c27 => ?_)
  · -- 63
    replace hF := gj_iff c27 hF
    refine gj_aload_n (q := 64) (gj_dk okX4_doing_0 37 rfl) rfl rfl ?_
    refine gj_gR (q := 67) (j := 2) (gj_dk okX4_doing_0 38 rfl) ff_X4_9 (sh31 hst) (by decide) rfl (rf31_2 hst) rfl ?_
    refine gj_iload_n (q := 68) (gj_dk okX4_doing_0 39 rfl) rfl rfl ?_
    refine gj_callS (q := 71) [jR 32, jI l1] rfl (c_X7_at (sh32 hst) (by decide) (by decide) _) (gj_dk okX4_doing_0 40 rfl) ml_X4_56 me_X7_at ⟨by omega, Nat.le_of_ble_eq_true rfl, rfl, Nat.le_of_ble_eq_true rfl, by omega, by omega⟩ rfl (gj_kI fun x S2 M2 h => ?_)
    obtain ⟨e, eS, eM⟩ := h; subst eS; subst eM; subst e
    refine gj_istore (q := 73) (gj_dk okX4_doing_0 41 rfl) (by decide) rfl ?_
    refine gj_aload_n (q := 74) (gj_dk okX4_doing_0 42 rfl) rfl rfl ?_
    refine gj_gR (q := 77) (j := 3) (gj_dk okX4_doing_0 43 rfl) ff_X4_15 (sh31 hst) (by decide) rfl (rf31_3 hst) rfl ?_
    refine gj_iload_n (q := 78) (gj_dk okX4_doing_0 44 rfl) rfl rfl ?_
    refine gj_callS (q := 81) [jR 33, jI l1] rfl (c_X7_at (sh33 hst) (by decide) (by decide) _) (gj_dk okX4_doing_0 45 rfl) ml_X4_56 me_X7_at ⟨by omega, Nat.le_of_ble_eq_true rfl, rfl, Nat.le_of_ble_eq_true rfl, by omega, by omega⟩ rfl (gj_kI fun x S2 M2 h => ?_)
    obtain ⟨e, eS, eM⟩ := h; subst eS; subst eM; subst e
    refine gj_istore (q := 83) (gj_dk okX4_doing_0 46 rfl) (by decide) rfl ?_
    refine gj_iload_n (q := 84) (gj_dk okX4_doing_0 47 rfl) rfl rfl ?_
    refine gj_iload_n (q := 85) (gj_dk okX4_doing_0 48 rfl) rfl rfl ?_
    refine gj_icmp_ne (q := 88) (tgt := 93) (gj_dk okX4_doing_0 49 rfl) (by decide) rfl (fun c85 => ?_) (fun c85 => ?_)
    · -- 93
      replace hF := gj_iff c85 hF
      refine gj_iconst (q := 94) (gj_dk okX4_doing_0 52 rfl) (by decide) rfl ?_
      refine gj_sub [(0, jR 31), (1, jI l1), (2, jI l2), (5, jL s0), (7, jI (f_at M 32 4 l1)), (8, jI (f_at M 33 4 l1))] ⟨rfl, rfl, rfl, rfl, rfl, rfl, trivial⟩ ?_
      exact t_J_X4_doing_94 hst hdd hrec l1 l2 s0 (f_at M 32 4 l1) (f_at M 33 4 l1) 0 M hF
    · -- 88
      replace hF := gj_ift c85 hF
      refine gj_iload (q := 90) (gj_dk okX4_doing_0 50 rfl) rfl rfl ?_
      refine gj_goto (tgt := 94) (gj_dk okX4_doing_0 51 rfl) (by decide) ?_
      refine gj_sub [(0, jR 31), (1, jI l1), (2, jI l2), (5, jL s0), (7, jI (f_at M 32 4 l1)), (8, jI (f_at M 33 4 l1))] ⟨rfl, rfl, rfl, rfl, rfl, rfl, trivial⟩ ?_
      exact t_J_X4_doing_94 hst hdd hrec l1 l2 s0 (f_at M 32 4 l1) (f_at M 33 4 l1) l4 M hF
  · -- 30
    replace hF := gj_ift c27 hF
    refine gj_ldc2 (q := 33) (z := 1000) (gj_dk okX4_doing_0 17 rfl) kl_X4_122 (by decide) rfl ?_
    refine gj_aload_n (q := 34) (gj_dk okX4_doing_0 18 rfl) rfl rfl ?_
    refine gj_gR (q := 37) (j := 0) (gj_dk okX4_doing_0 19 rfl) ff_X4_21 (sh31 hst) (by decide) rfl (rf31_0 hst) rfl ?_
    refine gj_gR (q := 40) (j := 10) (gj_dk okX4_doing_0 20 rfl) ff_X4_129 (sh14 hst) (by decide) rfl (rf14_10 hst) rfl ?_
    refine gj_aload_n (q := 41) (gj_dk okX4_doing_0 21 rfl) rfl rfl ?_
    refine gj_gI (q := 44) (j := 5) (gj_dk okX4_doing_0 22 rfl) ff_X4_29 (sh31 hst) (by decide) rfl rfl ?_
    refine gj_callS (q := 47) [jR 15, jI (M 31 5)] rfl (c_X7_at (sh15 hst) (by decide) (by decide) _) (gj_dk okX4_doing_0 23 rfl) ml_X4_56 me_X7_at ⟨by omega, Nat.le_of_ble_eq_true rfl, rfl, Nat.le_of_ble_eq_true rfl, by omega, by omega⟩ rfl (gj_kI fun x S2 M2 h => ?_)
    obtain ⟨e, eS, eM⟩ := h; subst eS; subst eM; subst e
    refine gj_i2l (q := 48) (gj_dk okX4_doing_0 24 rfl) rfl ?_
    refine gj_lmul (q := 49) (gj_dk okX4_doing_0 25 rfl) rfl ?_
    refine gj_lload (q := 51) (gj_dk okX4_doing_0 26 rfl) rfl rfl ?_
    refine gj_lsub (q := 52) (gj_dk okX4_doing_0 27 rfl) rfl ?_
    refine gj_aload_n (q := 53) (gj_dk okX4_doing_0 28 rfl) rfl rfl ?_
    refine gj_iload_n (q := 54) (gj_dk okX4_doing_0 29 rfl) rfl rfl ?_
    refine gj_iconst (q := 55) (gj_dk okX4_doing_0 30 rfl) (by decide) rfl ?_
    refine gj_isub (q := 56) (gj_dk okX4_doing_0 31 rfl) rfl ?_
    refine gj_iconst (q := 57) (gj_dk okX4_doing_0 32 rfl) (by decide) rfl ?_
    refine gj_iconst (q := 58) (gj_dk okX4_doing_0 33 rfl) (by decide) rfl ?_
    obtain ⟨x1, M2, hG, hF⟩ := gj_bnd2d hF
    refine gj_callV (q := 61) (z := 31) (ci := 4) [jI (gj_w (l2 - 1)), jI (-1), jI 0] rfl (hrec (gj_w (l2 - 1)) (-1) 0 _ _ hG) (gj_dk okX4_doing_0 34 rfl) ml_X4_96 me_X4_worthOf (sh31 hst) rfl ⟨by omega, Nat.le_of_ble_eq_true rfl, rfl, Nat.le_of_ble_eq_true rfl, by omega, by omega⟩ rfl (gj_kL fun y S2 M2 h => ?_)
    obtain ⟨e, eS, eM⟩ := h; subst eS; subst eM; subst e; clear hG
    dsimp only
    refine gj_ladd (q := 62) (gj_dk okX4_doing_0 35 rfl) rfl ?_
    cases hF
    exact gj_lret (gj_dk okX4_doing_0 36 rfl) rfl ⟨_, rfl, rfl, rfl, rfl⟩
set_option maxHeartbeats 4000000 in
set_option maxRecDepth 20000 in
theorem t_X4_doing (hst : gj_Stat S) {dd : Nat} (hdd : 4 ≤ dd) {rec : Int → Int → Int → gj_M → Option (Int × gj_M)} (hrec : ∀ (a1 a2 a3 : Int) (M : gj_M) (r : Int × gj_M), rec a1 a2 a3 M = some r → gj_C G l dd 0 0 yX4_worthOf cX4_worthOf 7 (some .long) [jR 31, jI a1, jI a2, jI a3] S M (gj_qL fun x S' M' => r.1 = x ∧ S = S' ∧ r.2 = M')) (a1 a2 a3 a4 : Int) {r : Int × gj_M} (hF : F_X4_doing rec a1 a2 a3 a4 M = some r) : gj_C G l ((dd + 1)) 0 0 yX4_doing cX4_doing 18 (some .long) [jR 31, jI a1, jI a2, jI a3, jI a4] S M (gj_qL fun x S' M' => r.1 = x ∧ S = S' ∧ r.2 = M') := by
  refine gj_Cof (by decide +kernel) (Nat.le_of_ble_eq_true rfl) ?_
  change gj_W G l ((dd + 1)) 0 0 yX4_doing cX4_doing 18 (some .long) (gj_qL fun x S' M' => r.1 = x ∧ S = S' ∧ r.2 = M') 0 0 0 [(0, jR 31), (1, jI a1), (2, jI a2), (3, jI a3), (4, jI a4)] [] S M
  unfold F_X4_doing at hF
  refine gj_iload_n (q := 1) (gj_dk okX4_doing_0 0 rfl) rfl rfl ?_
  refine gj_iconst (q := 2) (gj_dk okX4_doing_0 1 rfl) (by decide) rfl ?_
  refine gj_icmp_eq (q := 5) (tgt := 22) (gj_dk okX4_doing_0 2 rfl) (by decide) rfl (fun c2 => ?_) (fun c2 => ?_)
  · -- 22
    replace hF := gj_ift c2 hF
    refine gj_lconst (q := 23) (z := 0) (gj_dk okX4_doing_0 12 rfl) rfl (by decide) rfl ?_
    refine gj_sub [(0, jR 31), (1, jI a1), (2, jI a2), (3, jI a3), (4, jI a4)] ⟨rfl, rfl, rfl, rfl, rfl, trivial⟩ ?_
    exact t_J_X4_doing_23 hst hdd hrec a1 a2 a3 a4 0 M hF
  · -- 5
    replace hF := gj_iff c2 hF
    refine gj_iload_n (q := 6) (gj_dk okX4_doing_0 3 rfl) rfl rfl ?_
    refine gj_iload_n (q := 7) (gj_dk okX4_doing_0 4 rfl) rfl rfl ?_
    refine gj_icmp_eq (q := 10) (tgt := 22) (gj_dk okX4_doing_0 5 rfl) (by decide) rfl (fun c7 => ?_) (fun c7 => ?_)
    · -- 22
      replace hF := gj_ift c7 hF
      refine gj_lconst (q := 23) (z := 0) (gj_dk okX4_doing_0 12 rfl) rfl (by decide) rfl ?_
      refine gj_sub [(0, jR 31), (1, jI a1), (2, jI a2), (3, jI a3), (4, jI a4)] ⟨rfl, rfl, rfl, rfl, rfl, trivial⟩ ?_
      exact t_J_X4_doing_23 hst hdd hrec a1 a2 a3 a4 0 M hF
    · -- 10
      replace hF := gj_iff c7 hF
      refine gj_ldc2 (q := 13) (z := 1000) (gj_dk okX4_doing_0 6 rfl) kl_X4_122 (by decide) rfl ?_
      refine gj_aload_n (q := 14) (gj_dk okX4_doing_0 7 rfl) rfl rfl ?_
      refine gj_gI (q := 17) (j := 9) (gj_dk okX4_doing_0 8 rfl) ff_X4_92 (sh31 hst) (by decide) rfl rfl ?_
      refine gj_i2l (q := 18) (gj_dk okX4_doing_0 9 rfl) rfl ?_
      refine gj_lmul (q := 19) (gj_dk okX4_doing_0 10 rfl) rfl ?_
      refine gj_goto (tgt := 23) (gj_dk okX4_doing_0 11 rfl) (by decide) ?_
      refine gj_sub [(0, jR 31), (1, jI a1), (2, jI a2), (3, jI a3), (4, jI a4)] ⟨rfl, rfl, rfl, rfl, rfl, trivial⟩ ?_
      exact t_J_X4_doing_23 hst hdd hrec a1 a2 a3 a4 (gj_wl (1000 * (M 31 9))) M hF
def J_X4_worthOf_59 (rec : Int → Int → Int → gj_M → Option (Int × gj_M)) (rec19 : Int → Int → Int → Int → Int → gj_M → Option (Int × gj_M)) (l1 l2 l3 l4 l6 : Int) (M : gj_M) : Option (Int × gj_M) :=
  rec19 l1 l2 l3 l4 (gj_w (l6 + 1)) M
def B_X4_worthOf_19 (rec : Int → Int → Int → gj_M → Option (Int × gj_M)) (rec19 : Int → Int → Int → Int → Int → gj_M → Option (Int × gj_M)) (l1 l2 l3 l4 l6 : Int) (M : gj_M) : Option (Int × gj_M) :=
  (if M 31 6 ≤ l6 then (some ((l4, M))) else (if l6 = l2 then (J_X4_worthOf_59 rec rec19 l1 l2 l3 l4 l6 M) else gj_letI (f_X4_isShut l6 M) (fun x3 => (if x3 = 0 then gj_bnd2 (F_X4_doing rec l6 l1 l2 l3 M) (fun x4 M5 => (J_X4_worthOf_59 rec rec19 l1 l2 l3 (f_maxL l4 x4) l6 M5)) else (J_X4_worthOf_59 rec rec19 l1 l2 l3 l4 l6 M)))))
def F_X4_worthOf (rec : Int → Int → Int → gj_M → Option (Int × gj_M)) (a1 : Int) (a2 : Int) (a3 : Int) (M : gj_M) : Option (Int × gj_M) :=
  (if 0 < a1 then gj_bnd2 (F_X4_doing rec a2 a1 a2 a3 M) (fun x1 M2 => (gj_it (fun _ _ _ _ _ _ => none) (B_X4_worthOf_19 rec) gj_fu a1 a2 a3 x1 (-1) M2)) else (some ((0, M))))
set_option maxHeartbeats 4000000 in
set_option maxRecDepth 20000 in
theorem t_J_X4_worthOf_59 (hst : gj_Stat S) {dd : Nat} (hdd : 4 ≤ dd) {rec : Int → Int → Int → gj_M → Option (Int × gj_M)} (hrec : ∀ (a1 a2 a3 : Int) (M : gj_M) (r : Int × gj_M), rec a1 a2 a3 M = some r → gj_C G l dd 0 0 yX4_worthOf cX4_worthOf 7 (some .long) [jR 31, jI a1, jI a2, jI a3] S M (gj_qL fun x S' M' => r.1 = x ∧ S = S' ∧ r.2 = M')) {r : Int × gj_M} {rec19 : Int → Int → Int → Int → Int → gj_M → Option (Int × gj_M)} (hrec19 : ∀ (l1 l2 l3 l4 l6 : Int) (M : gj_M), rec19 l1 l2 l3 l4 l6 M = some r → gj_W G l ((dd + 2)) 0 0 yX4_worthOf cX4_worthOf 7 (some .long) (gj_qL fun x S' M' => r.1 = x ∧ S = S' ∧ r.2 = M') 0 0 19 [(0, jR 31), (1, jI l1), (2, jI l2), (3, jI l3), (4, jL l4), (6, jI l6)] [] S M) (l1 l2 l3 l4 l6 : Int) (M : gj_M) (hF : J_X4_worthOf_59 rec rec19 l1 l2 l3 l4 l6 M = some r) : gj_W G l ((dd + 2)) 0 0 yX4_worthOf cX4_worthOf 7 (some .long) (gj_qL fun x S' M' => r.1 = x ∧ S = S' ∧ r.2 = M') 0 0 59 [(0, jR 31), (1, jI l1), (2, jI l2), (3, jI l3), (4, jL l4), (6, jI l6)] [] S M := by
  unfold J_X4_worthOf_59 at hF
  refine gj_iinc (q := 62) (v := gj_w (l6 + 1)) (gj_dk okX4_worthOf 33 rfl) rfl (by decide) rfl rfl ?_
  refine gj_goto (tgt := 19) (gj_dk okX4_worthOf 34 rfl) (by decide) ?_
  refine gj_sub [(0, jR 31), (1, jI l1), (2, jI l2), (3, jI l3), (4, jL l4), (6, jI (gj_w (l6 + 1)))] ⟨rfl, rfl, rfl, rfl, rfl, rfl, trivial⟩ ?_
  exact hrec19 l1 l2 l3 l4 (gj_w (l6 + 1)) M hF
set_option maxHeartbeats 4000000 in
set_option maxRecDepth 20000 in
theorem t_B_X4_worthOf_19 (hst : gj_Stat S) {dd : Nat} (hdd : 4 ≤ dd) {rec : Int → Int → Int → gj_M → Option (Int × gj_M)} (hrec : ∀ (a1 a2 a3 : Int) (M : gj_M) (r : Int × gj_M), rec a1 a2 a3 M = some r → gj_C G l dd 0 0 yX4_worthOf cX4_worthOf 7 (some .long) [jR 31, jI a1, jI a2, jI a3] S M (gj_qL fun x S' M' => r.1 = x ∧ S = S' ∧ r.2 = M')) {r : Int × gj_M} {rec19 : Int → Int → Int → Int → Int → gj_M → Option (Int × gj_M)} (hrec19 : ∀ (l1 l2 l3 l4 l6 : Int) (M : gj_M), rec19 l1 l2 l3 l4 l6 M = some r → gj_W G l ((dd + 2)) 0 0 yX4_worthOf cX4_worthOf 7 (some .long) (gj_qL fun x S' M' => r.1 = x ∧ S = S' ∧ r.2 = M') 0 0 19 [(0, jR 31), (1, jI l1), (2, jI l2), (3, jI l3), (4, jL l4), (6, jI l6)] [] S M) (l1 l2 l3 l4 l6 : Int) (M : gj_M) (hF : B_X4_worthOf_19 rec rec19 l1 l2 l3 l4 l6 M = some r) : gj_W G l ((dd + 2)) 0 0 yX4_worthOf cX4_worthOf 7 (some .long) (gj_qL fun x S' M' => r.1 = x ∧ S = S' ∧ r.2 = M') 0 0 19 [(0, jR 31), (1, jI l1), (2, jI l2), (3, jI l3), (4, jL l4), (6, jI l6)] [] S M := by
  unfold B_X4_worthOf_19 at hF
  refine gj_iload (q := 21) (gj_dk okX4_worthOf 13 rfl) rfl rfl ?_
  refine gj_aload_n (q := 22) (gj_dk okX4_worthOf 14 rfl) rfl rfl ?_
  refine gj_gI (q := 25) (j := 6) (gj_dk okX4_worthOf 15 rfl) ff_X4_41 (sh31 hst) (by decide) rfl rfl ?_
  refine gj_icmp_ge (q := 28) (tgt := 65) (gj_dk okX4_worthOf 16 rfl) (by decide) rfl (fun c25 => ?_) (fun c25 => ?_)
  · -- 65
    replace hF := gj_ift c25 hF
    refine gj_lload (q := 67) (gj_dk okX4_worthOf 35 rfl) rfl rfl ?_
    cases hF
    exact gj_lret (gj_dk okX4_worthOf 36 rfl) rfl ⟨_, rfl, rfl, rfl, rfl⟩
  · -- 28
    replace hF := gj_iff c25 hF
    refine gj_iload (q := 30) (gj_dk okX4_worthOf 17 rfl) rfl rfl ?_
    refine gj_iload_n (q := 31) (gj_dk okX4_worthOf 18 rfl) rfl rfl ?_
    refine gj_icmp_eq (q := 34) (tgt := 59) (gj_dk okX4_worthOf 19 rfl) (by decide) rfl (fun c31 => ?_) (fun c31 => ?_)
    · -- 59
      replace hF := gj_ift c31 hF
      refine gj_sub [(0, jR 31), (1, jI l1), (2, jI l2), (3, jI l3), (4, jL l4), (6, jI l6)] ⟨rfl, rfl, rfl, rfl, rfl, rfl, trivial⟩ ?_
      exact t_J_X4_worthOf_59 hst hdd hrec hrec19 l1 l2 l3 l4 l6 M hF
    · -- 34
      replace hF := gj_iff c31 hF
      refine gj_aload_n (q := 35) (gj_dk okX4_worthOf 20 rfl) rfl rfl ?_
      refine gj_iload (q := 37) (gj_dk okX4_worthOf 21 rfl) rfl rfl ?_
      refine gj_callV (q := 40) (z := 31) (ci := 4) [jI l6] rfl (t_X4_isShut hst l6 rfl) (gj_dk okX4_worthOf 22 rfl) ml_X4_104 me_X4_isShut (sh31 hst) rfl ⟨by omega, Nat.le_of_ble_eq_true rfl, rfl, Nat.le_of_ble_eq_true rfl, by omega, by omega⟩ rfl (gj_kI fun x S2 M2 h => ?_)
      obtain ⟨bz, e, eS, eM⟩ := h; subst eS; subst eM; subst e
      refine gj_stpZ bz hF (fun x3 bx3 hF => ?_)
      refine gj_if_ne (q := 43) (tgt := 59) (gj_dk okX4_worthOf 23 rfl) (by decide) rfl (fun c40 => ?_) (fun c40 => ?_)
      · -- 59
        replace hF := gj_iff c40 hF
        refine gj_sub [(0, jR 31), (1, jI l1), (2, jI l2), (3, jI l3), (4, jL l4), (6, jI l6)] ⟨rfl, rfl, rfl, rfl, rfl, rfl, trivial⟩ ?_
        exact t_J_X4_worthOf_59 hst hdd hrec hrec19 l1 l2 l3 l4 l6 M hF
      · -- 43
        replace hF := gj_ift c40 hF
        refine gj_lload (q := 45) (gj_dk okX4_worthOf 24 rfl) rfl rfl ?_
        refine gj_aload_n (q := 46) (gj_dk okX4_worthOf 25 rfl) rfl rfl ?_
        refine gj_iload (q := 48) (gj_dk okX4_worthOf 26 rfl) rfl rfl ?_
        refine gj_iload_n (q := 49) (gj_dk okX4_worthOf 27 rfl) rfl rfl ?_
        refine gj_iload_n (q := 50) (gj_dk okX4_worthOf 28 rfl) rfl rfl ?_
        refine gj_iload_n (q := 51) (gj_dk okX4_worthOf 29 rfl) rfl rfl ?_
        obtain ⟨x4, M5, hG, hF⟩ := gj_bnd2d hF
        refine gj_callV (q := 54) (z := 31) (ci := 4) [jI l6, jI l1, jI l2, jI l3] rfl (t_X4_doing hst hdd hrec l6 l1 l2 l3 hG) (gj_dk okX4_worthOf 30 rfl) ml_X4_100 me_X4_doing (sh31 hst) rfl ⟨by omega, Nat.le_of_ble_eq_true rfl, rfl, Nat.le_of_ble_eq_true rfl, by omega, by omega⟩ rfl (gj_kL fun y S2 M2 h => ?_)
        obtain ⟨e, eS, eM⟩ := h; subst eS; subst eM; subst e; clear hG
        dsimp only
        refine gj_mmaxL (q := 57) (gj_dk okX4_worthOf 31 rfl) ml_X4_126 ⟨by omega, Nat.le_of_ble_eq_true rfl⟩ rfl ?_
        refine gj_lstore (q := 59) (gj_dk okX4_worthOf 32 rfl) (by decide) rfl ?_
        refine gj_sub [(0, jR 31), (1, jI l1), (2, jI l2), (3, jI l3), (4, jL (f_maxL l4 x4)), (6, jI l6)] ⟨rfl, rfl, rfl, rfl, rfl, rfl, trivial⟩ ?_
        exact t_J_X4_worthOf_59 hst hdd hrec hrec19 l1 l2 l3 (f_maxL l4 x4) l6 M5 hF
theorem t_L_X4_worthOf_19 (hst : gj_Stat S) {dd : Nat} (hdd : 4 ≤ dd) {rec : Int → Int → Int → gj_M → Option (Int × gj_M)} (hrec : ∀ (a1 a2 a3 : Int) (M : gj_M) (r : Int × gj_M), rec a1 a2 a3 M = some r → gj_C G l dd 0 0 yX4_worthOf cX4_worthOf 7 (some .long) [jR 31, jI a1, jI a2, jI a3] S M (gj_qL fun x S' M' => r.1 = x ∧ S = S' ∧ r.2 = M')) {r : Int × gj_M} : ∀ (m : Nat) (l1 : Int) (l2 : Int) (l3 : Int) (l4 : Int) (l6 : Int) (M : gj_M), gj_it (fun _ _ _ _ _ _ => none) (B_X4_worthOf_19 rec) m l1 l2 l3 l4 l6 M = some r → gj_W G l ((dd + 2)) 0 0 yX4_worthOf cX4_worthOf 7 (some .long) (gj_qL fun x S' M' => r.1 = x ∧ S = S' ∧ r.2 = M') 0 0 19 [(0, jR 31), (1, jI l1), (2, jI l2), (3, jI l3), (4, jL l4), (6, jI l6)] [] S M := by
  intro m
  induction m with
  | zero => intro l1 l2 l3 l4 l6 M hF; cases (show (none : Option (Int × gj_M)) = some r from hF)
  | succ m ih => intro l1 l2 l3 l4 l6 M hF; exact t_B_X4_worthOf_19 hst hdd hrec (fun l1 l2 l3 l4 l6 M h => ih l1 l2 l3 l4 l6 M h) l1 l2 l3 l4 l6 M hF
set_option maxHeartbeats 4000000 in
set_option maxRecDepth 20000 in
theorem t_X4_worthOf (hst : gj_Stat S) {dd : Nat} (hdd : 4 ≤ dd) {rec : Int → Int → Int → gj_M → Option (Int × gj_M)} (hrec : ∀ (a1 a2 a3 : Int) (M : gj_M) (r : Int × gj_M), rec a1 a2 a3 M = some r → gj_C G l dd 0 0 yX4_worthOf cX4_worthOf 7 (some .long) [jR 31, jI a1, jI a2, jI a3] S M (gj_qL fun x S' M' => r.1 = x ∧ S = S' ∧ r.2 = M')) (a1 a2 a3 : Int) {r : Int × gj_M} (hF : F_X4_worthOf rec a1 a2 a3 M = some r) : gj_C G l ((dd + 2)) 0 0 yX4_worthOf cX4_worthOf 7 (some .long) [jR 31, jI a1, jI a2, jI a3] S M (gj_qL fun x S' M' => r.1 = x ∧ S = S' ∧ r.2 = M') := by
  refine gj_Cof (by decide +kernel) (Nat.le_of_ble_eq_true rfl) ?_
  change gj_W G l ((dd + 2)) 0 0 yX4_worthOf cX4_worthOf 7 (some .long) (gj_qL fun x S' M' => r.1 = x ∧ S = S' ∧ r.2 = M') 0 0 0 [(0, jR 31), (1, jI a1), (2, jI a2), (3, jI a3)] [] S M
  unfold F_X4_worthOf at hF
  refine gj_iload_n (q := 1) (gj_dk okX4_worthOf 0 rfl) rfl rfl ?_
  refine gj_if_gt (q := 4) (tgt := 6) (gj_dk okX4_worthOf 1 rfl) (by decide) rfl (fun c1 => ?_) (fun c1 => ?_)
  · -- 6
    replace hF := gj_ift c1 hF
    refine gj_aload_n (q := 7) (gj_dk okX4_worthOf 4 rfl) rfl rfl ?_
    refine gj_iload_n (q := 8) (gj_dk okX4_worthOf 5 rfl) rfl rfl ?_
    refine gj_iload_n (q := 9) (gj_dk okX4_worthOf 6 rfl) rfl rfl ?_
    refine gj_iload_n (q := 10) (gj_dk okX4_worthOf 7 rfl) rfl rfl ?_
    refine gj_iload_n (q := 11) (gj_dk okX4_worthOf 8 rfl) rfl rfl ?_
    obtain ⟨x1, M2, hG, hF⟩ := gj_bnd2d hF
    refine gj_callV (q := 14) (z := 31) (ci := 4) [jI a2, jI a1, jI a2, jI a3] rfl (t_X4_doing hst hdd hrec a2 a1 a2 a3 hG) (gj_dk okX4_worthOf 9 rfl) ml_X4_100 me_X4_doing (sh31 hst) rfl ⟨by omega, Nat.le_of_ble_eq_true rfl, rfl, Nat.le_of_ble_eq_true rfl, by omega, by omega⟩ rfl (gj_kL fun y S2 M2 h => ?_)
    obtain ⟨e, eS, eM⟩ := h; subst eS; subst eM; subst e; clear hG
    dsimp only
    refine gj_lstore (q := 16) (gj_dk okX4_worthOf 10 rfl) (by decide) rfl ?_
    refine gj_iconst (q := 17) (gj_dk okX4_worthOf 11 rfl) (by decide) rfl ?_
    refine gj_istore (q := 19) (gj_dk okX4_worthOf 12 rfl) (by decide) rfl ?_
    refine gj_sub [(0, jR 31), (1, jI a1), (2, jI a2), (3, jI a3), (4, jL x1), (6, jI (-1))] ⟨rfl, rfl, rfl, rfl, rfl, rfl, trivial⟩ ?_
    exact t_L_X4_worthOf_19 hst hdd hrec gj_fu a1 a2 a3 x1 (-1) M2 hF
  · -- 4
    replace hF := gj_iff c1 hF
    refine gj_lconst (q := 5) (z := 0) (gj_dk okX4_worthOf 2 rfl) rfl (by decide) rfl ?_
    cases hF
    exact gj_lret (gj_dk okX4_worthOf 3 rfl) rfl ⟨_, rfl, rfl, rfl, rfl⟩
def F_X4_worth : Nat → Int → Int → Int → gj_M → Option (Int × gj_M) := gj_it (fun _ _ _ _ => none) F_X4_worthOf
theorem t_X4_worthN (hst : gj_Stat S) : ∀ n : Nat, ∀ (a1 a2 a3 : Int) (M : gj_M) (r : Int × gj_M), F_X4_worth n a1 a2 a3 M = some r → gj_C G l (4 + 2 * n) 0 0 yX4_worthOf cX4_worthOf 7 (some .long) [jR 31, jI a1, jI a2, jI a3] S M (gj_qL fun x S' M' => r.1 = x ∧ S = S' ∧ r.2 = M')
  | 0 => fun a1 a2 a3 M r h => by cases (show (none : Option (Int × gj_M)) = some r from h)
  | n + 1 => fun a1 a2 a3 M r h => t_X4_worthOf hst (by omega) (t_X4_worthN hst n) a1 a2 a3 h
theorem t_X4_worthC (hst : gj_Stat S) (a1 a2 a3 : Int) {r : Int × gj_M} (h : F_X4_worth 6 a1 a2 a3 M = some r) : gj_C G l 16 0 0 yX4_worthOf cX4_worthOf 7 (some .long) [jR 31, jI a1, jI a2, jI a3] S M (gj_qL fun x S' M' => r.1 = x ∧ S = S' ∧ r.2 = M') := t_X4_worthN hst 6 a1 a2 a3 M r h
theorem t_X4_doingC (hst : gj_Stat S) (a1 a2 a3 a4 : Int) {r : Int × gj_M} (h : F_X4_doing (F_X4_worth 5) a1 a2 a3 a4 M = some r) : gj_C G l 15 0 0 yX4_doing cX4_doing 18 (some .long) [jR 31, jI a1, jI a2, jI a3, jI a4] S M (gj_qL fun x S' M' => r.1 = x ∧ S = S' ∧ r.2 = M') := t_X4_doing hst (by omega) (t_X4_worthN hst 5) a1 a2 a3 a4 h
def F_X4_bestWorth (a1 : Int) (M : gj_M) : Option (Int × gj_M) :=
  gj_bnd2 (F_X4_worth 6 a1 (M 31 7) (M 31 8) M) (fun x1 M2 => (some ((x1, M2))))
set_option maxHeartbeats 4000000 in
set_option maxRecDepth 20000 in
theorem t_X4_bestWorth (hst : gj_Stat S) (a1 : Int) {r : Int × gj_M} (hF : F_X4_bestWorth a1 M = some r) : gj_C G l 17 0 0 yX4_bestWorth cX4_bestWorth 2 (some .long) [jR 31, jI a1] S M (gj_qL fun x S' M' => r.1 = x ∧ S = S' ∧ r.2 = M') := by
  refine gj_Cof (by decide +kernel) (Nat.le_of_ble_eq_true rfl) ?_
  change gj_W G l 17 0 0 yX4_bestWorth cX4_bestWorth 2 (some .long) (gj_qL fun x S' M' => r.1 = x ∧ S = S' ∧ r.2 = M') 0 0 0 [(0, jR 31), (1, jI a1)] [] S M
  unfold F_X4_bestWorth at hF
  refine gj_aload_n (q := 1) (gj_dk okX4_bestWorth 0 rfl) rfl rfl ?_
  refine gj_iload_n (q := 2) (gj_dk okX4_bestWorth 1 rfl) rfl rfl ?_
  refine gj_aload_n (q := 3) (gj_dk okX4_bestWorth 2 rfl) rfl rfl ?_
  refine gj_gI (q := 6) (j := 7) (gj_dk okX4_bestWorth 3 rfl) ff_X4_80 (sh31 hst) (by decide) rfl rfl ?_
  refine gj_aload_n (q := 7) (gj_dk okX4_bestWorth 4 rfl) rfl rfl ?_
  refine gj_gI (q := 10) (j := 8) (gj_dk okX4_bestWorth 5 rfl) ff_X4_86 (sh31 hst) (by decide) rfl rfl ?_
  obtain ⟨x1, M2, hG, hF⟩ := gj_bnd2d hF
  refine gj_callV (q := 13) (z := 31) (ci := 4) [jI a1, jI (M 31 7), jI (M 31 8)] rfl (t_X4_worthC hst a1 (M 31 7) (M 31 8) hG) (gj_dk okX4_bestWorth 6 rfl) ml_X4_96 me_X4_worthOf (sh31 hst) rfl (gj_nm rfl) rfl (gj_kL fun y S2 M2 h => ?_)
  obtain ⟨e, eS, eM⟩ := h; subst eS; subst eM; subst e; clear hG
  dsimp only
  cases hF
  exact gj_lret (gj_dk okX4_bestWorth 7 rfl) rfl ⟨_, rfl, rfl, rfl, rfl⟩
def J_X4_bestAct_86 (rec26 : Int → Int → Int → Int → gj_M → Option (Int × gj_M)) (l1 l2 l3 l5 : Int) (M : gj_M) : Option (Int × gj_M) :=
  rec26 l1 l2 l3 (gj_w (l5 + 1)) M
def B_X4_bestAct_26 (rec26 : Int → Int → Int → Int → gj_M → Option (Int × gj_M)) (l1 l2 l3 l5 : Int) (M : gj_M) : Option (Int × gj_M) :=
  (if M 31 6 ≤ l5 then (some ((l2, M))) else (if l5 = M 31 7 then (J_X4_bestAct_86 rec26 l1 l2 l3 l5 M) else gj_letI (f_X4_isShut l5 M) (fun x3 => (if x3 = 0 then gj_bnd2 (F_X4_doing (F_X4_worth 5) l5 l1 (M 31 7) (M 31 8) M) (fun x4 M5 => (if x4 ≤ l3 then (J_X4_bestAct_86 rec26 l1 l2 l3 l5 M5) else (J_X4_bestAct_86 rec26 l1 l5 x4 l5 M5))) else (J_X4_bestAct_86 rec26 l1 l2 l3 l5 M)))))
def F_X4_bestAct (a1 : Int) (M : gj_M) : Option (Int × gj_M) :=
  gj_bnd2 (F_X4_doing (F_X4_worth 5) (M 31 7) a1 (M 31 7) (M 31 8) M) (fun x1 M2 => (gj_it (fun _ _ _ _ _ => none) (B_X4_bestAct_26) gj_fu a1 (M 31 7) x1 (-1) M2))
set_option maxHeartbeats 4000000 in
set_option maxRecDepth 20000 in
theorem t_J_X4_bestAct_86 (hst : gj_Stat S) {r : Int × gj_M} {rec26 : Int → Int → Int → Int → gj_M → Option (Int × gj_M)} (hrec26 : ∀ (l1 l2 l3 l5 : Int) (M : gj_M), rec26 l1 l2 l3 l5 M = some r → gj_W G l 16 0 0 yX4_bestAct cX4_bestAct 8 (some .int) (gj_qI fun x S' M' => r.1 = x ∧ S = S' ∧ r.2 = M') 0 0 26 [(0, jR 31), (1, jI l1), (2, jI l2), (3, jL l3), (5, jI l5)] [] S M) (l1 l2 l3 l5 : Int) (M : gj_M) (hF : J_X4_bestAct_86 rec26 l1 l2 l3 l5 M = some r) : gj_W G l 16 0 0 yX4_bestAct cX4_bestAct 8 (some .int) (gj_qI fun x S' M' => r.1 = x ∧ S = S' ∧ r.2 = M') 0 0 86 [(0, jR 31), (1, jI l1), (2, jI l2), (3, jL l3), (5, jI l5)] [] S M := by
  unfold J_X4_bestAct_86 at hF
  refine gj_iinc (q := 89) (v := gj_w (l5 + 1)) (gj_dk okX4_bestAct 45 rfl) rfl (by decide) rfl rfl ?_
  refine gj_goto (tgt := 26) (gj_dk okX4_bestAct 46 rfl) (by decide) ?_
  refine gj_sub [(0, jR 31), (1, jI l1), (2, jI l2), (3, jL l3), (5, jI (gj_w (l5 + 1)))] ⟨rfl, rfl, rfl, rfl, rfl, trivial⟩ ?_
  exact hrec26 l1 l2 l3 (gj_w (l5 + 1)) M hF
set_option maxHeartbeats 4000000 in
set_option maxRecDepth 20000 in
theorem t_B_X4_bestAct_26 (hst : gj_Stat S) {r : Int × gj_M} {rec26 : Int → Int → Int → Int → gj_M → Option (Int × gj_M)} (hrec26 : ∀ (l1 l2 l3 l5 : Int) (M : gj_M), rec26 l1 l2 l3 l5 M = some r → gj_W G l 16 0 0 yX4_bestAct cX4_bestAct 8 (some .int) (gj_qI fun x S' M' => r.1 = x ∧ S = S' ∧ r.2 = M') 0 0 26 [(0, jR 31), (1, jI l1), (2, jI l2), (3, jL l3), (5, jI l5)] [] S M) (l1 l2 l3 l5 : Int) (M : gj_M) (hF : B_X4_bestAct_26 rec26 l1 l2 l3 l5 M = some r) : gj_W G l 16 0 0 yX4_bestAct cX4_bestAct 8 (some .int) (gj_qI fun x S' M' => r.1 = x ∧ S = S' ∧ r.2 = M') 0 0 26 [(0, jR 31), (1, jI l1), (2, jI l2), (3, jL l3), (5, jI l5)] [] S M := by
  unfold B_X4_bestAct_26 at hF
  refine gj_iload (q := 28) (gj_dk okX4_bestAct 15 rfl) rfl rfl ?_
  refine gj_aload_n (q := 29) (gj_dk okX4_bestAct 16 rfl) rfl rfl ?_
  refine gj_gI (q := 32) (j := 6) (gj_dk okX4_bestAct 17 rfl) ff_X4_41 (sh31 hst) (by decide) rfl rfl ?_
  refine gj_icmp_ge (q := 35) (tgt := 92) (gj_dk okX4_bestAct 18 rfl) (by decide) rfl (fun c32 => ?_) (fun c32 => ?_)
  · -- 92
    replace hF := gj_ift c32 hF
    refine gj_iload_n (q := 93) (gj_dk okX4_bestAct 47 rfl) rfl rfl ?_
    cases hF
    exact gj_iret (gj_dk okX4_bestAct 48 rfl) rfl ⟨_, rfl, rfl, rfl, rfl⟩
  · -- 35
    replace hF := gj_iff c32 hF
    refine gj_iload (q := 37) (gj_dk okX4_bestAct 19 rfl) rfl rfl ?_
    refine gj_aload_n (q := 38) (gj_dk okX4_bestAct 20 rfl) rfl rfl ?_
    refine gj_gI (q := 41) (j := 7) (gj_dk okX4_bestAct 21 rfl) ff_X4_80 (sh31 hst) (by decide) rfl rfl ?_
    refine gj_icmp_eq (q := 44) (tgt := 86) (gj_dk okX4_bestAct 22 rfl) (by decide) rfl (fun c41 => ?_) (fun c41 => ?_)
    · -- 86
      replace hF := gj_ift c41 hF
      refine gj_sub [(0, jR 31), (1, jI l1), (2, jI l2), (3, jL l3), (5, jI l5)] ⟨rfl, rfl, rfl, rfl, rfl, trivial⟩ ?_
      exact t_J_X4_bestAct_86 hst hrec26 l1 l2 l3 l5 M hF
    · -- 44
      replace hF := gj_iff c41 hF
      refine gj_aload_n (q := 45) (gj_dk okX4_bestAct 23 rfl) rfl rfl ?_
      refine gj_iload (q := 47) (gj_dk okX4_bestAct 24 rfl) rfl rfl ?_
      refine gj_callV (q := 50) (z := 31) (ci := 4) [jI l5] rfl (t_X4_isShut hst l5 rfl) (gj_dk okX4_bestAct 25 rfl) ml_X4_104 me_X4_isShut (sh31 hst) rfl (gj_nm rfl) rfl (gj_kI fun x S2 M2 h => ?_)
      obtain ⟨bz, e, eS, eM⟩ := h; subst eS; subst eM; subst e
      refine gj_stpZ bz hF (fun x3 bx3 hF => ?_)
      refine gj_if_eq (q := 53) (tgt := 56) (gj_dk okX4_bestAct 26 rfl) (by decide) rfl (fun c50 => ?_) (fun c50 => ?_)
      · -- 56
        replace hF := gj_ift c50 hF
        refine gj_aload_n (q := 57) (gj_dk okX4_bestAct 28 rfl) rfl rfl ?_
        refine gj_iload (q := 59) (gj_dk okX4_bestAct 29 rfl) rfl rfl ?_
        refine gj_iload_n (q := 60) (gj_dk okX4_bestAct 30 rfl) rfl rfl ?_
        refine gj_aload_n (q := 61) (gj_dk okX4_bestAct 31 rfl) rfl rfl ?_
        refine gj_gI (q := 64) (j := 7) (gj_dk okX4_bestAct 32 rfl) ff_X4_80 (sh31 hst) (by decide) rfl rfl ?_
        refine gj_aload_n (q := 65) (gj_dk okX4_bestAct 33 rfl) rfl rfl ?_
        refine gj_gI (q := 68) (j := 8) (gj_dk okX4_bestAct 34 rfl) ff_X4_86 (sh31 hst) (by decide) rfl rfl ?_
        obtain ⟨x4, M5, hG, hF⟩ := gj_bnd2d hF
        refine gj_callV (q := 71) (z := 31) (ci := 4) [jI l5, jI l1, jI (M 31 7), jI (M 31 8)] rfl (t_X4_doingC hst l5 l1 (M 31 7) (M 31 8) hG) (gj_dk okX4_bestAct 35 rfl) ml_X4_100 me_X4_doing (sh31 hst) rfl (gj_nm rfl) rfl (gj_kL fun y S2 M2 h => ?_)
        obtain ⟨e, eS, eM⟩ := h; subst eS; subst eM; subst e; clear hG
        dsimp only
        refine gj_lstore (q := 73) (gj_dk okX4_bestAct 36 rfl) (by decide) rfl ?_
        refine gj_lload (q := 75) (gj_dk okX4_bestAct 37 rfl) rfl rfl ?_
        refine gj_lload_n (q := 76) (gj_dk okX4_bestAct 38 rfl) rfl rfl ?_
        refine gj_lcmp (q := 77) (gj_dk okX4_bestAct 39 rfl) rfl ?_
        refine gj_if_le (q := 80) (tgt := 86) (gj_dk okX4_bestAct 40 rfl) (by decide) rfl (fun c77 => ?_) (fun c77 => ?_)
        · -- 86
          replace c77 := gj_cm_le.mp c77
          replace hF := gj_ift c77 hF
          refine gj_sub [(0, jR 31), (1, jI l1), (2, jI l2), (3, jL l3), (5, jI l5)] ⟨rfl, rfl, rfl, rfl, rfl, trivial⟩ ?_
          exact t_J_X4_bestAct_86 hst hrec26 l1 l2 l3 l5 M5 hF
        · -- 80
          replace c77 := gj_cm_len.mp c77
          replace hF := gj_iff c77 hF
          refine gj_lload (q := 82) (gj_dk okX4_bestAct 41 rfl) rfl rfl ?_
          refine gj_lstore_n (q := 83) (gj_dk okX4_bestAct 42 rfl) (by decide) rfl ?_
          refine gj_iload (q := 85) (gj_dk okX4_bestAct 43 rfl) rfl rfl ?_
          refine gj_istore_n (q := 86) (gj_dk okX4_bestAct 44 rfl) (by decide) rfl ?_
          refine gj_sub [(0, jR 31), (1, jI l1), (2, jI l5), (3, jL x4), (5, jI l5)] ⟨rfl, rfl, rfl, rfl, rfl, trivial⟩ ?_
          exact t_J_X4_bestAct_86 hst hrec26 l1 l5 x4 l5 M5 hF
      · -- 53
        replace hF := gj_iff c50 hF
        refine gj_goto (tgt := 86) (gj_dk okX4_bestAct 27 rfl) (by decide) ?_
        refine gj_sub [(0, jR 31), (1, jI l1), (2, jI l2), (3, jL l3), (5, jI l5)] ⟨rfl, rfl, rfl, rfl, rfl, trivial⟩ ?_
        exact t_J_X4_bestAct_86 hst hrec26 l1 l2 l3 l5 M hF
theorem t_L_X4_bestAct_26 (hst : gj_Stat S) {r : Int × gj_M} : ∀ (m : Nat) (l1 : Int) (l2 : Int) (l3 : Int) (l5 : Int) (M : gj_M), gj_it (fun _ _ _ _ _ => none) (B_X4_bestAct_26) m l1 l2 l3 l5 M = some r → gj_W G l 16 0 0 yX4_bestAct cX4_bestAct 8 (some .int) (gj_qI fun x S' M' => r.1 = x ∧ S = S' ∧ r.2 = M') 0 0 26 [(0, jR 31), (1, jI l1), (2, jI l2), (3, jL l3), (5, jI l5)] [] S M := by
  intro m
  induction m with
  | zero => intro l1 l2 l3 l5 M hF; cases (show (none : Option (Int × gj_M)) = some r from hF)
  | succ m ih => intro l1 l2 l3 l5 M hF; exact t_B_X4_bestAct_26 hst (fun l1 l2 l3 l5 M h => ih l1 l2 l3 l5 M h) l1 l2 l3 l5 M hF
set_option maxHeartbeats 4000000 in
set_option maxRecDepth 20000 in
theorem t_X4_bestAct (hst : gj_Stat S) (a1 : Int) {r : Int × gj_M} (hF : F_X4_bestAct a1 M = some r) : gj_C G l 16 0 0 yX4_bestAct cX4_bestAct 8 (some .int) [jR 31, jI a1] S M (gj_qI fun x S' M' => r.1 = x ∧ S = S' ∧ r.2 = M') := by
  refine gj_Cof (by decide +kernel) (Nat.le_of_ble_eq_true rfl) ?_
  change gj_W G l 16 0 0 yX4_bestAct cX4_bestAct 8 (some .int) (gj_qI fun x S' M' => r.1 = x ∧ S = S' ∧ r.2 = M') 0 0 0 [(0, jR 31), (1, jI a1)] [] S M
  unfold F_X4_bestAct at hF
  refine gj_aload_n (q := 1) (gj_dk okX4_bestAct 0 rfl) rfl rfl ?_
  refine gj_gI (q := 4) (j := 7) (gj_dk okX4_bestAct 1 rfl) ff_X4_80 (sh31 hst) (by decide) rfl rfl ?_
  refine gj_istore_n (q := 5) (gj_dk okX4_bestAct 2 rfl) (by decide) rfl ?_
  refine gj_aload_n (q := 6) (gj_dk okX4_bestAct 3 rfl) rfl rfl ?_
  refine gj_aload_n (q := 7) (gj_dk okX4_bestAct 4 rfl) rfl rfl ?_
  refine gj_gI (q := 10) (j := 7) (gj_dk okX4_bestAct 5 rfl) ff_X4_80 (sh31 hst) (by decide) rfl rfl ?_
  refine gj_iload_n (q := 11) (gj_dk okX4_bestAct 6 rfl) rfl rfl ?_
  refine gj_aload_n (q := 12) (gj_dk okX4_bestAct 7 rfl) rfl rfl ?_
  refine gj_gI (q := 15) (j := 7) (gj_dk okX4_bestAct 8 rfl) ff_X4_80 (sh31 hst) (by decide) rfl rfl ?_
  refine gj_aload_n (q := 16) (gj_dk okX4_bestAct 9 rfl) rfl rfl ?_
  refine gj_gI (q := 19) (j := 8) (gj_dk okX4_bestAct 10 rfl) ff_X4_86 (sh31 hst) (by decide) rfl rfl ?_
  obtain ⟨x1, M2, hG, hF⟩ := gj_bnd2d hF
  refine gj_callV (q := 22) (z := 31) (ci := 4) [jI (M 31 7), jI a1, jI (M 31 7), jI (M 31 8)] rfl (t_X4_doingC hst (M 31 7) a1 (M 31 7) (M 31 8) hG) (gj_dk okX4_bestAct 11 rfl) ml_X4_100 me_X4_doing (sh31 hst) rfl (gj_nm rfl) rfl (gj_kL fun y S2 M2 h => ?_)
  obtain ⟨e, eS, eM⟩ := h; subst eS; subst eM; subst e; clear hG
  dsimp only
  refine gj_lstore_n (q := 23) (gj_dk okX4_bestAct 12 rfl) (by decide) rfl ?_
  refine gj_iconst (q := 24) (gj_dk okX4_bestAct 13 rfl) (by decide) rfl ?_
  refine gj_istore (q := 26) (gj_dk okX4_bestAct 14 rfl) (by decide) rfl ?_
  refine gj_sub [(0, jR 31), (1, jI a1), (2, jI (M 31 7)), (3, jL x1), (5, jI (-1))] ⟨rfl, rfl, rfl, rfl, rfl, trivial⟩ ?_
  exact t_L_X4_bestAct_26 hst gj_fu a1 (M 31 7) x1 (-1) M2 hF
def F_X11_best (a1 : Int) (a2 : Int) (a3 : Int) (M : gj_M) : Option (Int × gj_M) :=
  gj_letI (f_X5_slotOf a1 M) (fun x1 => (if x1 = -1 then (some ((-2147483648, M))) else gj_letI (f_X11_canReckon a2 M) (fun x2 => (if x2 = 0 then (some ((-2147483648, M))) else gj_bnd (F_X4_enter x1 M) (fun M4 => (if a3 = 0 then gj_bnd2 (F_X4_bestWorth a2 M4) (fun x5 M6 => (some ((gj_w x5, M6)))) else (if a3 = 1 then gj_bnd2 (F_X4_bestAct a2 M4) (fun x7 M8 => (some ((f_num (f_fac x1 x7), M8)))) else (some ((-2147483648, M4))))))))))
set_option maxHeartbeats 4000000 in
set_option maxRecDepth 20000 in
theorem t_X11_best (hst : gj_Stat S) (a1 a2 a3 : Int) {r : Int × gj_M} (hF : F_X11_best a1 a2 a3 M = some r) : gj_C G l 18 0 0 yX11_best cX11_best 5 (some .int) [jR 0, jI a1, jI a2, jI a3] S M (gj_qI fun x S' M' => r.1 = x ∧ S = S' ∧ r.2 = M') := by
  refine gj_Cof (by decide +kernel) (Nat.le_of_ble_eq_true rfl) ?_
  change gj_W G l 18 0 0 yX11_best cX11_best 5 (some .int) (gj_qI fun x S' M' => r.1 = x ∧ S = S' ∧ r.2 = M') 0 0 0 [(0, jR 0), (1, jI a1), (2, jI a2), (3, jI a3)] [] S M
  unfold F_X11_best at hF
  refine gj_aload_n (q := 1) (gj_dk okX11_best 0 rfl) rfl rfl ?_
  refine gj_gR (q := 4) (j := 3) (gj_dk okX11_best 1 rfl) ff_X11_32 (sh0 hst) (by decide) rfl (rf0_3 hst) rfl ?_
  refine gj_iload_n (q := 5) (gj_dk okX11_best 2 rfl) rfl rfl ?_
  refine gj_callV (q := 8) (z := 14) (ci := 5) [jI a1] rfl (t_X5_slotOf hst a1 rfl) (gj_dk okX11_best 3 rfl) ml_X11_131 me_X5_slotOf (sh14 hst) rfl (gj_nm rfl) rfl (gj_kI fun x S2 M2 h => ?_)
  obtain ⟨e, eS, eM⟩ := h; subst eS; subst eM; subst e
  refine gj_stpI hF (fun x1 hF => ?_)
  refine gj_istore (q := 10) (gj_dk okX11_best 4 rfl) (by decide) rfl ?_
  refine gj_iload (q := 12) (gj_dk okX11_best 5 rfl) rfl rfl ?_
  refine gj_iconst (q := 13) (gj_dk okX11_best 6 rfl) (by decide) rfl ?_
  refine gj_icmp_eq (q := 16) (tgt := 23) (gj_dk okX11_best 7 rfl) (by decide) rfl (fun c13 => ?_) (fun c13 => ?_)
  · -- 23
    replace hF := gj_ift c13 hF
    refine gj_ldc (q := 25) (z := -2147483648) (gj_dk okX11_best 11 rfl) kc_X11_135 (by decide) rfl ?_
    cases hF
    exact gj_iret (gj_dk okX11_best 12 rfl) rfl ⟨_, rfl, rfl, rfl, rfl⟩
  · -- 16
    replace hF := gj_iff c13 hF
    refine gj_iload_n (q := 17) (gj_dk okX11_best 8 rfl) rfl rfl ?_
    refine gj_callS (q := 20) [jI a2] rfl (t_X11_canReckon hst a2 rfl) (gj_dk okX11_best 9 rfl) ml_X11_214 me_X11_canReckon (gj_nm rfl) rfl (gj_kI fun x S2 M2 h => ?_)
    obtain ⟨bz, e, eS, eM⟩ := h; subst eS; subst eM; subst e
    refine gj_stpZ bz hF (fun x2 bx2 hF => ?_)
    refine gj_if_ne (q := 23) (tgt := 26) (gj_dk okX11_best 10 rfl) (by decide) rfl (fun c20 => ?_) (fun c20 => ?_)
    · -- 26
      replace hF := gj_iff c20 hF
      refine gj_aload_n (q := 27) (gj_dk okX11_best 13 rfl) rfl rfl ?_
      refine gj_gR (q := 30) (j := 5) (gj_dk okX11_best 14 rfl) ff_X11_47 (sh0 hst) (by decide) rfl (rf0_5 hst) rfl ?_
      refine gj_iload (q := 32) (gj_dk okX11_best 15 rfl) rfl rfl ?_
      obtain ⟨M4, hG, hF⟩ := gj_bndd hF
      refine gj_callV (q := 35) (z := 31) (ci := 4) [jI x1] rfl (t_X4_enter hst x1 hG) (gj_dk okX11_best 16 rfl) ml_X11_217 me_X4_enter (sh31 hst) rfl (gj_nm rfl) rfl (gj_kV fun S2 M2 h => ?_)
      obtain ⟨eS, eM⟩ := h; subst eS; subst eM; clear hG
      refine gj_iload_n (q := 36) (gj_dk okX11_best 17 rfl) rfl rfl ?_
      by_cases c36_0 : a3 = 0
      · refine gj_lookup (tgt := 64) (off := 28) (gj_dk okX11_best 18 rfl) (by decide) (by rw [c36_0]; rfl) (by decide) ?_
        replace hF := gj_ift c36_0 hF
        refine gj_aload_n (q := 65) (gj_dk okX11_best 19 rfl) rfl rfl ?_
        refine gj_gR (q := 68) (j := 5) (gj_dk okX11_best 20 rfl) ff_X11_47 (sh0 hst) (by decide) rfl (rf0_5 hst) rfl ?_
        refine gj_iload_n (q := 69) (gj_dk okX11_best 21 rfl) rfl rfl ?_
        obtain ⟨x5, M6, hG, hF⟩ := gj_bnd2d hF
        refine gj_callV (q := 72) (z := 31) (ci := 4) [jI a2] rfl (t_X4_bestWorth hst a2 hG) (gj_dk okX11_best 22 rfl) ml_X11_220 me_X4_bestWorth (sh31 hst) rfl (gj_nm rfl) rfl (gj_kL fun y S2 M2 h => ?_)
        obtain ⟨e, eS, eM⟩ := h; subst eS; subst eM; subst e; clear hG
        dsimp only
        refine gj_l2i (q := 73) (gj_dk okX11_best 23 rfl) rfl ?_
        cases hF
        exact gj_iret (gj_dk okX11_best 24 rfl) rfl ⟨_, rfl, rfl, rfl, rfl⟩
      replace hF := gj_iff c36_0 hF
      by_cases c36_1 : a3 = 1
      · refine gj_lookup (tgt := 74) (off := 38) (gj_dk okX11_best 18 rfl) (by decide) (by rw [c36_1]; rfl) (by decide) ?_
        replace hF := gj_ift c36_1 hF
        refine gj_iload (q := 76) (gj_dk okX11_best 25 rfl) rfl rfl ?_
        refine gj_aload_n (q := 77) (gj_dk okX11_best 26 rfl) rfl rfl ?_
        refine gj_gR (q := 80) (j := 5) (gj_dk okX11_best 27 rfl) ff_X11_47 (sh0 hst) (by decide) rfl (rf0_5 hst) rfl ?_
        refine gj_iload_n (q := 81) (gj_dk okX11_best 28 rfl) rfl rfl ?_
        obtain ⟨x7, M8, hG, hF⟩ := gj_bnd2d hF
        refine gj_callV (q := 84) (z := 31) (ci := 4) [jI a2] rfl (t_X4_bestAct hst a2 hG) (gj_dk okX11_best 29 rfl) ml_X11_224 me_X4_bestAct (sh31 hst) rfl (gj_nm rfl) rfl (gj_kI fun y S2 M2 h => ?_)
        obtain ⟨e, eS, eM⟩ := h; subst eS; subst eM; subst e; clear hG
        dsimp only
        refine gj_callS (q := 87) [jI x1, jI x7] rfl (c_X10_facing _ _) (gj_dk okX11_best 30 rfl) ml_X11_227 me_X10_facing (gj_nm rfl) rfl (gj_kI fun x S2 M2 h => ?_)
        obtain ⟨e, eS, eM⟩ := h; subst eS; subst eM; subst e
        refine gj_callS (q := 90) [jI (f_fac x1 x7)] rfl (c_X10_numberOf _) (gj_dk okX11_best 31 rfl) ml_X11_146 me_X10_numberOf (gj_nm rfl) rfl (gj_kI fun x S2 M2 h => ?_)
        obtain ⟨e, eS, eM⟩ := h; subst eS; subst eM; subst e
        cases hF
        exact gj_iret (gj_dk okX11_best 32 rfl) rfl ⟨_, rfl, rfl, rfl, rfl⟩
      replace hF := gj_iff c36_1 hF
      refine gj_lookup (tgt := 91) (off := 55) (gj_dk okX11_best 18 rfl) (by decide) (by simp [Op.lookupswitch.offset, c36_0, Ne.symm c36_0, c36_1, Ne.symm c36_1]) (by decide) ?_
      refine gj_ldc (q := 93) (z := -2147483648) (gj_dk okX11_best 33 rfl) kc_X11_135 (by decide) rfl ?_
      cases hF
      exact gj_iret (gj_dk okX11_best 34 rfl) rfl ⟨_, rfl, rfl, rfl, rfl⟩
    · -- 23
      replace hF := gj_ift c20 hF
      refine gj_ldc (q := 25) (z := -2147483648) (gj_dk okX11_best 11 rfl) kc_X11_135 (by decide) rfl ?_
      cases hF
      exact gj_iret (gj_dk okX11_best 12 rfl) rfl ⟨_, rfl, rfl, rfl, rfl⟩
def F_X4_worthOfAct (a1 : Int) (a2 : Int) (M : gj_M) : Option (Int × gj_M) :=
  gj_bnd2 (F_X4_doing (F_X4_worth 5) a1 a2 (M 31 7) (M 31 8) M) (fun x1 M2 => (some ((x1, M2))))
set_option maxHeartbeats 4000000 in
set_option maxRecDepth 20000 in
theorem t_X4_worthOfAct (hst : gj_Stat S) (a1 a2 : Int) {r : Int × gj_M} (hF : F_X4_worthOfAct a1 a2 M = some r) : gj_C G l 16 0 0 yX4_worthOfAct cX4_worthOfAct 3 (some .long) [jR 31, jI a1, jI a2] S M (gj_qL fun x S' M' => r.1 = x ∧ S = S' ∧ r.2 = M') := by
  refine gj_Cof (by decide +kernel) (Nat.le_of_ble_eq_true rfl) ?_
  change gj_W G l 16 0 0 yX4_worthOfAct cX4_worthOfAct 3 (some .long) (gj_qL fun x S' M' => r.1 = x ∧ S = S' ∧ r.2 = M') 0 0 0 [(0, jR 31), (1, jI a1), (2, jI a2)] [] S M
  unfold F_X4_worthOfAct at hF
  refine gj_aload_n (q := 1) (gj_dk okX4_worthOfAct 0 rfl) rfl rfl ?_
  refine gj_iload_n (q := 2) (gj_dk okX4_worthOfAct 1 rfl) rfl rfl ?_
  refine gj_iload_n (q := 3) (gj_dk okX4_worthOfAct 2 rfl) rfl rfl ?_
  refine gj_aload_n (q := 4) (gj_dk okX4_worthOfAct 3 rfl) rfl rfl ?_
  refine gj_gI (q := 7) (j := 7) (gj_dk okX4_worthOfAct 4 rfl) ff_X4_80 (sh31 hst) (by decide) rfl rfl ?_
  refine gj_aload_n (q := 8) (gj_dk okX4_worthOfAct 5 rfl) rfl rfl ?_
  refine gj_gI (q := 11) (j := 8) (gj_dk okX4_worthOfAct 6 rfl) ff_X4_86 (sh31 hst) (by decide) rfl rfl ?_
  obtain ⟨x1, M2, hG, hF⟩ := gj_bnd2d hF
  refine gj_callV (q := 14) (z := 31) (ci := 4) [jI a1, jI a2, jI (M 31 7), jI (M 31 8)] rfl (t_X4_doingC hst a1 a2 (M 31 7) (M 31 8) hG) (gj_dk okX4_worthOfAct 7 rfl) ml_X4_100 me_X4_doing (sh31 hst) rfl (gj_nm rfl) rfl (gj_kL fun y S2 M2 h => ?_)
  obtain ⟨e, eS, eM⟩ := h; subst eS; subst eM; subst e; clear hG
  dsimp only
  cases hF
  exact gj_lret (gj_dk okX4_worthOfAct 8 rfl) rfl ⟨_, rfl, rfl, rfl, rfl⟩
def F_X11_act (a1 : Int) (a2 : Int) (a3 : Int) (M : gj_M) : Option (Int × gj_M) :=
  gj_letI (f_X5_slotOf a1 M) (fun x1 => gj_letI (f_X5_slotOf a3 M) (fun x2 => (if x1 = -1 then (some ((-2147483648, M))) else gj_letI (f_X11_canReckon a2 M) (fun x3 => (if x3 = 0 then (some ((-2147483648, M))) else (if a3 = -1 then gj_bnd (F_X4_enter x1 M) (fun M5 => gj_bnd2 (F_X4_worthOfAct (f_plc x2) a2 M5) (fun x6 M7 => (some ((gj_w x6, M7))))) else (if f_unl x1 x2 = 0 then (some ((-2147483648, M))) else gj_bnd (F_X4_enter x1 M) (fun M9 => gj_bnd2 (F_X4_worthOfAct (f_plc x2) a2 M9) (fun x10 M11 => (some ((gj_w x10, M11))))))))))))
set_option maxHeartbeats 4000000 in
set_option maxRecDepth 20000 in
theorem t_X11_act (hst : gj_Stat S) (a1 a2 a3 : Int) {r : Int × gj_M} (hF : F_X11_act a1 a2 a3 M = some r) : gj_C G l 17 0 0 yX11_act cX11_act 6 (some .int) [jR 0, jI a1, jI a2, jI a3] S M (gj_qI fun x S' M' => r.1 = x ∧ S = S' ∧ r.2 = M') := by
  refine gj_Cof (by decide +kernel) (Nat.le_of_ble_eq_true rfl) ?_
  change gj_W G l 17 0 0 yX11_act cX11_act 6 (some .int) (gj_qI fun x S' M' => r.1 = x ∧ S = S' ∧ r.2 = M') 0 0 0 [(0, jR 0), (1, jI a1), (2, jI a2), (3, jI a3)] [] S M
  unfold F_X11_act at hF
  refine gj_aload_n (q := 1) (gj_dk okX11_act 0 rfl) rfl rfl ?_
  refine gj_gR (q := 4) (j := 3) (gj_dk okX11_act 1 rfl) ff_X11_32 (sh0 hst) (by decide) rfl (rf0_3 hst) rfl ?_
  refine gj_iload_n (q := 5) (gj_dk okX11_act 2 rfl) rfl rfl ?_
  refine gj_callV (q := 8) (z := 14) (ci := 5) [jI a1] rfl (t_X5_slotOf hst a1 rfl) (gj_dk okX11_act 3 rfl) ml_X11_131 me_X5_slotOf (sh14 hst) rfl (gj_nm rfl) rfl (gj_kI fun x S2 M2 h => ?_)
  obtain ⟨e, eS, eM⟩ := h; subst eS; subst eM; subst e
  refine gj_stpI hF (fun x1 hF => ?_)
  refine gj_istore (q := 10) (gj_dk okX11_act 4 rfl) (by decide) rfl ?_
  refine gj_aload_n (q := 11) (gj_dk okX11_act 5 rfl) rfl rfl ?_
  refine gj_gR (q := 14) (j := 3) (gj_dk okX11_act 6 rfl) ff_X11_32 (sh0 hst) (by decide) rfl (rf0_3 hst) rfl ?_
  refine gj_iload_n (q := 15) (gj_dk okX11_act 7 rfl) rfl rfl ?_
  refine gj_callV (q := 18) (z := 14) (ci := 5) [jI a3] rfl (t_X5_slotOf hst a3 rfl) (gj_dk okX11_act 8 rfl) ml_X11_131 me_X5_slotOf (sh14 hst) rfl (gj_nm rfl) rfl (gj_kI fun x S2 M2 h => ?_)
  obtain ⟨e, eS, eM⟩ := h; subst eS; subst eM; subst e
  refine gj_stpI hF (fun x2 hF => ?_)
  refine gj_istore (q := 20) (gj_dk okX11_act 9 rfl) (by decide) rfl ?_
  refine gj_iload (q := 22) (gj_dk okX11_act 10 rfl) rfl rfl ?_
  refine gj_iconst (q := 23) (gj_dk okX11_act 11 rfl) (by decide) rfl ?_
  refine gj_icmp_eq (q := 26) (tgt := 48) (gj_dk okX11_act 12 rfl) (by decide) rfl (fun c23 => ?_) (fun c23 => ?_)
  · -- 48
    replace hF := gj_ift c23 hF
    refine gj_ldc (q := 50) (z := -2147483648) (gj_dk okX11_act 23 rfl) kc_X11_135 (by decide) rfl ?_
    cases hF
    exact gj_iret (gj_dk okX11_act 24 rfl) rfl ⟨_, rfl, rfl, rfl, rfl⟩
  · -- 26
    replace hF := gj_iff c23 hF
    refine gj_iload_n (q := 27) (gj_dk okX11_act 13 rfl) rfl rfl ?_
    refine gj_callS (q := 30) [jI a2] rfl (t_X11_canReckon hst a2 rfl) (gj_dk okX11_act 14 rfl) ml_X11_214 me_X11_canReckon (gj_nm rfl) rfl (gj_kI fun x S2 M2 h => ?_)
    obtain ⟨bz, e, eS, eM⟩ := h; subst eS; subst eM; subst e
    refine gj_stpZ bz hF (fun x3 bx3 hF => ?_)
    refine gj_if_eq (q := 33) (tgt := 48) (gj_dk okX11_act 15 rfl) (by decide) rfl (fun c30 => ?_) (fun c30 => ?_)
    · -- 48
      replace hF := gj_ift c30 hF
      refine gj_ldc (q := 50) (z := -2147483648) (gj_dk okX11_act 23 rfl) kc_X11_135 (by decide) rfl ?_
      cases hF
      exact gj_iret (gj_dk okX11_act 24 rfl) rfl ⟨_, rfl, rfl, rfl, rfl⟩
    · -- 33
      replace hF := gj_iff c30 hF
      refine gj_iload_n (q := 34) (gj_dk okX11_act 16 rfl) rfl rfl ?_
      refine gj_iconst (q := 35) (gj_dk okX11_act 17 rfl) (by decide) rfl ?_
      refine gj_icmp_eq (q := 38) (tgt := 51) (gj_dk okX11_act 18 rfl) (by decide) rfl (fun c35 => ?_) (fun c35 => ?_)
      · -- 51
        replace hF := gj_ift c35 hF
        refine gj_aload_n (q := 52) (gj_dk okX11_act 25 rfl) rfl rfl ?_
        refine gj_gR (q := 55) (j := 5) (gj_dk okX11_act 26 rfl) ff_X11_47 (sh0 hst) (by decide) rfl (rf0_5 hst) rfl ?_
        refine gj_iload (q := 57) (gj_dk okX11_act 27 rfl) rfl rfl ?_
        obtain ⟨M5, hG, hF⟩ := gj_bndd hF
        refine gj_callV (q := 60) (z := 31) (ci := 4) [jI x1] rfl (t_X4_enter hst x1 hG) (gj_dk okX11_act 28 rfl) ml_X11_217 me_X4_enter (sh31 hst) rfl (gj_nm rfl) rfl (gj_kV fun S2 M2 h => ?_)
        obtain ⟨eS, eM⟩ := h; subst eS; subst eM; clear hG
        refine gj_aload_n (q := 61) (gj_dk okX11_act 29 rfl) rfl rfl ?_
        refine gj_gR (q := 64) (j := 5) (gj_dk okX11_act 30 rfl) ff_X11_47 (sh0 hst) (by decide) rfl (rf0_5 hst) rfl ?_
        refine gj_iload (q := 66) (gj_dk okX11_act 31 rfl) rfl rfl ?_
        refine gj_callS (q := 69) [jI x2] rfl (c_X10_placeOf _) (gj_dk okX11_act 32 rfl) ml_X11_230 me_X10_placeOf (gj_nm rfl) rfl (gj_kI fun x S2 M2 h => ?_)
        obtain ⟨e, eS, eM⟩ := h; subst eS; subst eM; subst e
        refine gj_iload_n (q := 70) (gj_dk okX11_act 33 rfl) rfl rfl ?_
        obtain ⟨x6, M7, hG, hF⟩ := gj_bnd2d hF
        refine gj_callV (q := 73) (z := 31) (ci := 4) [jI (f_plc x2), jI a2] rfl (t_X4_worthOfAct hst (f_plc x2) a2 hG) (gj_dk okX11_act 34 rfl) ml_X11_233 me_X4_worthOfAct (sh31 hst) rfl (gj_nm rfl) rfl (gj_kL fun y S2 M2 h => ?_)
        obtain ⟨e, eS, eM⟩ := h; subst eS; subst eM; subst e; clear hG
        dsimp only
        refine gj_l2i (q := 74) (gj_dk okX11_act 35 rfl) rfl ?_
        cases hF
        exact gj_iret (gj_dk okX11_act 36 rfl) rfl ⟨_, rfl, rfl, rfl, rfl⟩
      · -- 38
        replace hF := gj_iff c35 hF
        refine gj_iload (q := 40) (gj_dk okX11_act 19 rfl) rfl rfl ?_
        refine gj_iload (q := 42) (gj_dk okX11_act 20 rfl) rfl rfl ?_
        refine gj_callS (q := 45) [jI x1, jI x2] rfl (c_X10_unlike _ _) (gj_dk okX11_act 21 rfl) ml_X11_157 me_X10_unlike (gj_nm rfl) rfl (gj_kI fun x S2 M2 h => ?_)
        obtain ⟨e, eS, eM⟩ := h; subst eS; subst eM; subst e
        refine gj_if_ne (q := 48) (tgt := 51) (gj_dk okX11_act 22 rfl) (by decide) rfl (fun c45 => ?_) (fun c45 => ?_)
        · -- 51
          replace hF := gj_iff c45 hF
          refine gj_aload_n (q := 52) (gj_dk okX11_act 25 rfl) rfl rfl ?_
          refine gj_gR (q := 55) (j := 5) (gj_dk okX11_act 26 rfl) ff_X11_47 (sh0 hst) (by decide) rfl (rf0_5 hst) rfl ?_
          refine gj_iload (q := 57) (gj_dk okX11_act 27 rfl) rfl rfl ?_
          obtain ⟨M9, hG, hF⟩ := gj_bndd hF
          refine gj_callV (q := 60) (z := 31) (ci := 4) [jI x1] rfl (t_X4_enter hst x1 hG) (gj_dk okX11_act 28 rfl) ml_X11_217 me_X4_enter (sh31 hst) rfl (gj_nm rfl) rfl (gj_kV fun S2 M2 h => ?_)
          obtain ⟨eS, eM⟩ := h; subst eS; subst eM; clear hG
          refine gj_aload_n (q := 61) (gj_dk okX11_act 29 rfl) rfl rfl ?_
          refine gj_gR (q := 64) (j := 5) (gj_dk okX11_act 30 rfl) ff_X11_47 (sh0 hst) (by decide) rfl (rf0_5 hst) rfl ?_
          refine gj_iload (q := 66) (gj_dk okX11_act 31 rfl) rfl rfl ?_
          refine gj_callS (q := 69) [jI x2] rfl (c_X10_placeOf _) (gj_dk okX11_act 32 rfl) ml_X11_230 me_X10_placeOf (gj_nm rfl) rfl (gj_kI fun x S2 M2 h => ?_)
          obtain ⟨e, eS, eM⟩ := h; subst eS; subst eM; subst e
          refine gj_iload_n (q := 70) (gj_dk okX11_act 33 rfl) rfl rfl ?_
          obtain ⟨x10, M11, hG, hF⟩ := gj_bnd2d hF
          refine gj_callV (q := 73) (z := 31) (ci := 4) [jI (f_plc x2), jI a2] rfl (t_X4_worthOfAct hst (f_plc x2) a2 hG) (gj_dk okX11_act 34 rfl) ml_X11_233 me_X4_worthOfAct (sh31 hst) rfl (gj_nm rfl) rfl (gj_kL fun y S2 M2 h => ?_)
          obtain ⟨e, eS, eM⟩ := h; subst eS; subst eM; subst e; clear hG
          dsimp only
          refine gj_l2i (q := 74) (gj_dk okX11_act 35 rfl) rfl ?_
          cases hF
          exact gj_iret (gj_dk okX11_act 36 rfl) rfl ⟨_, rfl, rfl, rfl, rfl⟩
        · -- 48
          replace hF := gj_ift c45 hF
          refine gj_ldc (q := 50) (z := -2147483648) (gj_dk okX11_act 23 rfl) kc_X11_135 (by decide) rfl ?_
          cases hF
          exact gj_iret (gj_dk okX11_act 24 rfl) rfl ⟨_, rfl, rfl, rfl, rfl⟩
def F_X4_stays (a1 : Int) (M : gj_M) : Option (Int × gj_M) :=
  (if M 31 7 = -1 then (some ((1, M))) else gj_bnd2 (F_X4_bestAct a1 M) (fun x1 M2 => (if x1 = M2 31 7 then (some ((1, M2))) else (some ((0, M2))))))
set_option maxHeartbeats 4000000 in
set_option maxRecDepth 20000 in
theorem t_X4_stays (hst : gj_Stat S) (a1 : Int) {r : Int × gj_M} (hF : F_X4_stays a1 M = some r) : gj_C G l 17 0 0 yX4_stays cX4_stays 2 (some .boolean) [jR 31, jI a1] S M (gj_qI fun x S' M' => (x = 0 ∨ x = 1) ∧ r.1 = x ∧ S = S' ∧ r.2 = M') := by
  refine gj_Cof (by decide +kernel) (Nat.le_of_ble_eq_true rfl) ?_
  change gj_W G l 17 0 0 yX4_stays cX4_stays 2 (some .boolean) (gj_qI fun x S' M' => (x = 0 ∨ x = 1) ∧ r.1 = x ∧ S = S' ∧ r.2 = M') 0 0 0 [(0, jR 31), (1, jI a1)] [] S M
  unfold F_X4_stays at hF
  refine gj_aload_n (q := 1) (gj_dk okX4_stays 0 rfl) rfl rfl ?_
  refine gj_gI (q := 4) (j := 7) (gj_dk okX4_stays 1 rfl) ff_X4_80 (sh31 hst) (by decide) rfl rfl ?_
  refine gj_iconst (q := 5) (gj_dk okX4_stays 2 rfl) (by decide) rfl ?_
  refine gj_icmp_eq (q := 8) (tgt := 20) (gj_dk okX4_stays 3 rfl) (by decide) rfl (fun c5 => ?_) (fun c5 => ?_)
  · -- 20
    replace hF := gj_ift c5 hF
    refine gj_iconst (q := 21) (gj_dk okX4_stays 10 rfl) (by decide) rfl ?_
    refine gj_goto (tgt := 25) (gj_dk okX4_stays 11 rfl) (by decide) ?_
    cases hF
    exact gj_zret (gj_dk okX4_stays 13 rfl) rfl (by decide) ⟨_, rfl, (by decide), rfl, rfl, rfl⟩
  · -- 8
    replace hF := gj_iff c5 hF
    refine gj_aload_n (q := 9) (gj_dk okX4_stays 4 rfl) rfl rfl ?_
    refine gj_iload_n (q := 10) (gj_dk okX4_stays 5 rfl) rfl rfl ?_
    obtain ⟨x1, M2, hG, hF⟩ := gj_bnd2d hF
    refine gj_callV (q := 13) (z := 31) (ci := 4) [jI a1] rfl (t_X4_bestAct hst a1 hG) (gj_dk okX4_stays 6 rfl) ml_X4_108 me_X4_bestAct (sh31 hst) rfl (gj_nm rfl) rfl (gj_kI fun y S2 M2 h => ?_)
    obtain ⟨e, eS, eM⟩ := h; subst eS; subst eM; subst e; clear hG
    dsimp only
    refine gj_aload_n (q := 14) (gj_dk okX4_stays 7 rfl) rfl rfl ?_
    refine gj_gI (q := 17) (j := 7) (gj_dk okX4_stays 8 rfl) ff_X4_80 (sh31 hst) (by decide) rfl rfl ?_
    refine gj_icmp_ne (q := 20) (tgt := 24) (gj_dk okX4_stays 9 rfl) (by decide) rfl (fun c17 => ?_) (fun c17 => ?_)
    · -- 24
      replace hF := gj_iff c17 hF
      refine gj_iconst (q := 25) (gj_dk okX4_stays 12 rfl) (by decide) rfl ?_
      cases hF
      exact gj_zret (gj_dk okX4_stays 13 rfl) rfl (by decide) ⟨_, rfl, (by decide), rfl, rfl, rfl⟩
    · -- 20
      replace hF := gj_ift c17 hF
      refine gj_iconst (q := 21) (gj_dk okX4_stays 10 rfl) (by decide) rfl ?_
      refine gj_goto (tgt := 25) (gj_dk okX4_stays 11 rfl) (by decide) ?_
      cases hF
      exact gj_zret (gj_dk okX4_stays 13 rfl) rfl (by decide) ⟨_, rfl, (by decide), rfl, rfl, rfl⟩
def F_X11_silent (a1 : Int) (a2 : Int) (M : gj_M) : Option (Int × gj_M) :=
  gj_letI (f_X5_slotOf a1 M) (fun x1 => (if x1 = -1 then (some ((-1, M))) else gj_letI (f_X11_canReckon a2 M) (fun x2 => (if x2 = 0 then (some ((-1, M))) else gj_bnd (F_X4_enter x1 M) (fun M4 => gj_bnd2 (F_X4_stays a2 M4) (fun x5 M6 => (if x5 = 0 then (some ((1, M6))) else (some ((0, M6))))))))))
set_option maxHeartbeats 4000000 in
set_option maxRecDepth 20000 in
theorem t_X11_silent (hst : gj_Stat S) (a1 a2 : Int) {r : Int × gj_M} (hF : F_X11_silent a1 a2 M = some r) : gj_C G l 18 0 0 yX11_silent cX11_silent 4 (some .int) [jR 0, jI a1, jI a2] S M (gj_qI fun x S' M' => r.1 = x ∧ S = S' ∧ r.2 = M') := by
  refine gj_Cof (by decide +kernel) (Nat.le_of_ble_eq_true rfl) ?_
  change gj_W G l 18 0 0 yX11_silent cX11_silent 4 (some .int) (gj_qI fun x S' M' => r.1 = x ∧ S = S' ∧ r.2 = M') 0 0 0 [(0, jR 0), (1, jI a1), (2, jI a2)] [] S M
  unfold F_X11_silent at hF
  refine gj_aload_n (q := 1) (gj_dk okX11_silent 0 rfl) rfl rfl ?_
  refine gj_gR (q := 4) (j := 3) (gj_dk okX11_silent 1 rfl) ff_X11_32 (sh0 hst) (by decide) rfl (rf0_3 hst) rfl ?_
  refine gj_iload_n (q := 5) (gj_dk okX11_silent 2 rfl) rfl rfl ?_
  refine gj_callV (q := 8) (z := 14) (ci := 5) [jI a1] rfl (t_X5_slotOf hst a1 rfl) (gj_dk okX11_silent 3 rfl) ml_X11_131 me_X5_slotOf (sh14 hst) rfl (gj_nm rfl) rfl (gj_kI fun x S2 M2 h => ?_)
  obtain ⟨e, eS, eM⟩ := h; subst eS; subst eM; subst e
  refine gj_stpI hF (fun x1 hF => ?_)
  refine gj_istore_n (q := 9) (gj_dk okX11_silent 4 rfl) (by decide) rfl ?_
  refine gj_iload_n (q := 10) (gj_dk okX11_silent 5 rfl) rfl rfl ?_
  refine gj_iconst (q := 11) (gj_dk okX11_silent 6 rfl) (by decide) rfl ?_
  refine gj_icmp_eq (q := 14) (tgt := 21) (gj_dk okX11_silent 7 rfl) (by decide) rfl (fun c11 => ?_) (fun c11 => ?_)
  · -- 21
    replace hF := gj_ift c11 hF
    refine gj_iconst (q := 22) (gj_dk okX11_silent 11 rfl) (by decide) rfl ?_
    cases hF
    exact gj_iret (gj_dk okX11_silent 12 rfl) rfl ⟨_, rfl, rfl, rfl, rfl⟩
  · -- 14
    replace hF := gj_iff c11 hF
    refine gj_iload_n (q := 15) (gj_dk okX11_silent 8 rfl) rfl rfl ?_
    refine gj_callS (q := 18) [jI a2] rfl (t_X11_canReckon hst a2 rfl) (gj_dk okX11_silent 9 rfl) ml_X11_214 me_X11_canReckon (gj_nm rfl) rfl (gj_kI fun x S2 M2 h => ?_)
    obtain ⟨bz, e, eS, eM⟩ := h; subst eS; subst eM; subst e
    refine gj_stpZ bz hF (fun x2 bx2 hF => ?_)
    refine gj_if_ne (q := 21) (tgt := 23) (gj_dk okX11_silent 10 rfl) (by decide) rfl (fun c18 => ?_) (fun c18 => ?_)
    · -- 23
      replace hF := gj_iff c18 hF
      refine gj_aload_n (q := 24) (gj_dk okX11_silent 13 rfl) rfl rfl ?_
      refine gj_gR (q := 27) (j := 5) (gj_dk okX11_silent 14 rfl) ff_X11_47 (sh0 hst) (by decide) rfl (rf0_5 hst) rfl ?_
      refine gj_iload_n (q := 28) (gj_dk okX11_silent 15 rfl) rfl rfl ?_
      obtain ⟨M4, hG, hF⟩ := gj_bndd hF
      refine gj_callV (q := 31) (z := 31) (ci := 4) [jI x1] rfl (t_X4_enter hst x1 hG) (gj_dk okX11_silent 16 rfl) ml_X11_217 me_X4_enter (sh31 hst) rfl (gj_nm rfl) rfl (gj_kV fun S2 M2 h => ?_)
      obtain ⟨eS, eM⟩ := h; subst eS; subst eM; clear hG
      refine gj_aload_n (q := 32) (gj_dk okX11_silent 17 rfl) rfl rfl ?_
      refine gj_gR (q := 35) (j := 5) (gj_dk okX11_silent 18 rfl) ff_X11_47 (sh0 hst) (by decide) rfl (rf0_5 hst) rfl ?_
      refine gj_iload_n (q := 36) (gj_dk okX11_silent 19 rfl) rfl rfl ?_
      obtain ⟨x5, M6, hG, hF⟩ := gj_bnd2d hF
      refine gj_callV (q := 39) (z := 31) (ci := 4) [jI a2] rfl (t_X4_stays hst a2 hG) (gj_dk okX11_silent 20 rfl) ml_X11_237 me_X4_stays (sh31 hst) rfl (gj_nm rfl) rfl (gj_kI fun y S2 M2 h => ?_)
      obtain ⟨bx5, e, eS, eM⟩ := h; subst eS; subst eM; subst e; clear hG
      dsimp only at bx5 ⊢
      refine gj_if_eq (q := 42) (tgt := 46) (gj_dk okX11_silent 21 rfl) (by decide) rfl (fun c39 => ?_) (fun c39 => ?_)
      · -- 46
        replace hF := gj_ift c39 hF
        refine gj_iconst (q := 47) (gj_dk okX11_silent 24 rfl) (by decide) rfl ?_
        cases hF
        exact gj_iret (gj_dk okX11_silent 25 rfl) rfl ⟨_, rfl, rfl, rfl, rfl⟩
      · -- 42
        replace hF := gj_iff c39 hF
        refine gj_iconst (q := 43) (gj_dk okX11_silent 22 rfl) (by decide) rfl ?_
        refine gj_goto (tgt := 47) (gj_dk okX11_silent 23 rfl) (by decide) ?_
        cases hF
        exact gj_iret (gj_dk okX11_silent 25 rfl) rfl ⟨_, rfl, rfl, rfl, rfl⟩
    · -- 21
      replace hF := gj_ift c18 hF
      refine gj_iconst (q := 22) (gj_dk okX11_silent 11 rfl) (by decide) rfl ?_
      cases hF
      exact gj_iret (gj_dk okX11_silent 12 rfl) rfl ⟨_, rfl, rfl, rfl, rfl⟩
def B_X4_leastGood_13 (rec13 : Int → Int → Int → Int → gj_M → Option (Int × gj_M)) (l1 l2 l3 l4 : Int) (M : gj_M) : Option (Int × gj_M) :=
  (if l2 < l4 then (some ((-1, M))) else gj_let (f_put M 32 4 l1 (f_min 4 l4)) (fun M3 => gj_let (f_put M3 33 4 l1 (f_min 4 (gj_w (l2 - l4)))) (fun M4 => gj_bnd2 (F_X4_stays l3 M4) (fun x5 M6 => (if x5 = 0 then rec13 l1 l2 l3 (gj_w (l4 + 1)) M6 else (some ((l4, M6))))))))
def F_X4_leastGood (a1 : Int) (a2 : Int) (a3 : Int) (M : gj_M) : Option (Int × gj_M) :=
  gj_let (gj_up M 31 7 a1) (fun M1 => gj_let (gj_up M1 31 8 a2) (fun M2 => (gj_it (fun _ _ _ _ _ => none) (B_X4_leastGood_13) gj_fu a1 a2 a3 0 M2)))
set_option maxHeartbeats 4000000 in
set_option maxRecDepth 20000 in
theorem t_B_X4_leastGood_13 (hst : gj_Stat S) {r : Int × gj_M} {rec13 : Int → Int → Int → Int → gj_M → Option (Int × gj_M)} (hrec13 : ∀ (l1 l2 l3 l4 : Int) (M : gj_M), rec13 l1 l2 l3 l4 M = some r → gj_W G l 18 0 0 yX4_leastGood cX4_leastGood 5 (some .int) (gj_qI fun x S' M' => r.1 = x ∧ S = S' ∧ r.2 = M') 0 0 13 [(0, jR 31), (1, jI l1), (2, jI l2), (3, jI l3), (4, jI l4)] [] S M) (l1 l2 l3 l4 : Int) (M : gj_M) (hF : B_X4_leastGood_13 rec13 l1 l2 l3 l4 M = some r) : gj_W G l 18 0 0 yX4_leastGood cX4_leastGood 5 (some .int) (gj_qI fun x S' M' => r.1 = x ∧ S = S' ∧ r.2 = M') 0 0 13 [(0, jR 31), (1, jI l1), (2, jI l2), (3, jI l3), (4, jI l4)] [] S M := by
  unfold B_X4_leastGood_13 at hF
  refine gj_iload (q := 15) (gj_dk okX4_leastGood 8 rfl) rfl rfl ?_
  refine gj_iload_n (q := 16) (gj_dk okX4_leastGood 9 rfl) rfl rfl ?_
  refine gj_icmp_gt (q := 19) (tgt := 66) (gj_dk okX4_leastGood 10 rfl) (by decide) rfl (fun c16 => ?_) (fun c16 => ?_)
  · -- 66
    replace hF := gj_ift c16 hF
    refine gj_iconst (q := 67) (gj_dk okX4_leastGood 35 rfl) (by decide) rfl ?_
    cases hF
    exact gj_iret (gj_dk okX4_leastGood 36 rfl) rfl ⟨_, rfl, rfl, rfl, rfl⟩
  · -- 19
    replace hF := gj_iff c16 hF
    refine gj_aload_n (q := 20) (gj_dk okX4_leastGood 11 rfl) rfl rfl ?_
    refine gj_gR (q := 23) (j := 2) (gj_dk okX4_leastGood 12 rfl) ff_X4_9 (sh31 hst) (by decide) rfl (rf31_2 hst) rfl ?_
    refine gj_iload_n (q := 24) (gj_dk okX4_leastGood 13 rfl) rfl rfl ?_
    refine gj_iconst (q := 25) (gj_dk okX4_leastGood 14 rfl) (by decide) rfl ?_
    refine gj_iload (q := 27) (gj_dk okX4_leastGood 15 rfl) rfl rfl ?_
    refine gj_mmin (q := 30) (gj_dk okX4_leastGood 16 rfl) ml_X4_111 ⟨by omega, Nat.le_of_ble_eq_true rfl⟩ rfl ?_
    refine gj_callS (q := 33) [jR 32, jI l1, jI (f_min 4 l4)] rfl (c_X7_put (sh32 hst) (by decide) (by decide) _ _) (gj_dk okX4_leastGood 17 rfl) ml_X4_62 me_X7_put (gj_nm rfl) rfl (gj_kV fun S2 M2 h => ?_)
    obtain ⟨eS, eM⟩ := h; subst eS; subst eM
    refine gj_stp hF (fun M3 hF => ?_)
    refine gj_aload_n (q := 34) (gj_dk okX4_leastGood 18 rfl) rfl rfl ?_
    refine gj_gR (q := 37) (j := 3) (gj_dk okX4_leastGood 19 rfl) ff_X4_15 (sh31 hst) (by decide) rfl (rf31_3 hst) rfl ?_
    refine gj_iload_n (q := 38) (gj_dk okX4_leastGood 20 rfl) rfl rfl ?_
    refine gj_iconst (q := 39) (gj_dk okX4_leastGood 21 rfl) (by decide) rfl ?_
    refine gj_iload_n (q := 40) (gj_dk okX4_leastGood 22 rfl) rfl rfl ?_
    refine gj_iload (q := 42) (gj_dk okX4_leastGood 23 rfl) rfl rfl ?_
    refine gj_isub (q := 43) (gj_dk okX4_leastGood 24 rfl) rfl ?_
    refine gj_mmin (q := 46) (gj_dk okX4_leastGood 25 rfl) ml_X4_111 ⟨by omega, Nat.le_of_ble_eq_true rfl⟩ rfl ?_
    refine gj_callS (q := 49) [jR 33, jI l1, jI (f_min 4 (gj_w (l2 - l4)))] rfl (c_X7_put (sh33 hst) (by decide) (by decide) _ _) (gj_dk okX4_leastGood 26 rfl) ml_X4_62 me_X7_put (gj_nm rfl) rfl (gj_kV fun S2 M2 h => ?_)
    obtain ⟨eS, eM⟩ := h; subst eS; subst eM
    refine gj_stp hF (fun M4 hF => ?_)
    refine gj_aload_n (q := 50) (gj_dk okX4_leastGood 27 rfl) rfl rfl ?_
    refine gj_iload_n (q := 51) (gj_dk okX4_leastGood 28 rfl) rfl rfl ?_
    obtain ⟨x5, M6, hG, hF⟩ := gj_bnd2d hF
    refine gj_callV (q := 54) (z := 31) (ci := 4) [jI l3] rfl (t_X4_stays hst l3 hG) (gj_dk okX4_leastGood 29 rfl) ml_X4_116 me_X4_stays (sh31 hst) rfl (gj_nm rfl) rfl (gj_kI fun y S2 M2 h => ?_)
    obtain ⟨bx5, e, eS, eM⟩ := h; subst eS; subst eM; subst e; clear hG
    dsimp only at bx5 ⊢
    refine gj_if_eq (q := 57) (tgt := 60) (gj_dk okX4_leastGood 30 rfl) (by decide) rfl (fun c54 => ?_) (fun c54 => ?_)
    · -- 60
      replace hF := gj_ift c54 hF
      refine gj_iinc (q := 63) (v := gj_w (l4 + 1)) (gj_dk okX4_leastGood 33 rfl) rfl (by decide) rfl rfl ?_
      refine gj_goto (tgt := 13) (gj_dk okX4_leastGood 34 rfl) (by decide) ?_
      refine gj_sub [(0, jR 31), (1, jI l1), (2, jI l2), (3, jI l3), (4, jI (gj_w (l4 + 1)))] ⟨rfl, rfl, rfl, rfl, rfl, trivial⟩ ?_
      exact hrec13 l1 l2 l3 (gj_w (l4 + 1)) M6 hF
    · -- 57
      replace hF := gj_iff c54 hF
      refine gj_iload (q := 59) (gj_dk okX4_leastGood 31 rfl) rfl rfl ?_
      cases hF
      exact gj_iret (gj_dk okX4_leastGood 32 rfl) rfl ⟨_, rfl, rfl, rfl, rfl⟩
theorem t_L_X4_leastGood_13 (hst : gj_Stat S) {r : Int × gj_M} : ∀ (m : Nat) (l1 : Int) (l2 : Int) (l3 : Int) (l4 : Int) (M : gj_M), gj_it (fun _ _ _ _ _ => none) (B_X4_leastGood_13) m l1 l2 l3 l4 M = some r → gj_W G l 18 0 0 yX4_leastGood cX4_leastGood 5 (some .int) (gj_qI fun x S' M' => r.1 = x ∧ S = S' ∧ r.2 = M') 0 0 13 [(0, jR 31), (1, jI l1), (2, jI l2), (3, jI l3), (4, jI l4)] [] S M := by
  intro m
  induction m with
  | zero => intro l1 l2 l3 l4 M hF; cases (show (none : Option (Int × gj_M)) = some r from hF)
  | succ m ih => intro l1 l2 l3 l4 M hF; exact t_B_X4_leastGood_13 hst (fun l1 l2 l3 l4 M h => ih l1 l2 l3 l4 M h) l1 l2 l3 l4 M hF
set_option maxHeartbeats 4000000 in
set_option maxRecDepth 20000 in
theorem t_X4_leastGood (hst : gj_Stat S) (a1 a2 a3 : Int) {r : Int × gj_M} (hF : F_X4_leastGood a1 a2 a3 M = some r) : gj_C G l 18 0 0 yX4_leastGood cX4_leastGood 5 (some .int) [jR 31, jI a1, jI a2, jI a3] S M (gj_qI fun x S' M' => r.1 = x ∧ S = S' ∧ r.2 = M') := by
  refine gj_Cof (by decide +kernel) (Nat.le_of_ble_eq_true rfl) ?_
  change gj_W G l 18 0 0 yX4_leastGood cX4_leastGood 5 (some .int) (gj_qI fun x S' M' => r.1 = x ∧ S = S' ∧ r.2 = M') 0 0 0 [(0, jR 31), (1, jI a1), (2, jI a2), (3, jI a3)] [] S M
  unfold F_X4_leastGood at hF
  refine gj_aload_n (q := 1) (gj_dk okX4_leastGood 0 rfl) rfl rfl ?_
  refine gj_iload_n (q := 2) (gj_dk okX4_leastGood 1 rfl) rfl rfl ?_
  refine gj_pfI (q := 5) (j := 7) (gj_dk okX4_leastGood 2 rfl) ff_X4_80 (sh31 hst) (by decide) rfl rfl ?_
  refine gj_stp hF (fun M1 hF => ?_)
  refine gj_aload_n (q := 6) (gj_dk okX4_leastGood 3 rfl) rfl rfl ?_
  refine gj_iload_n (q := 7) (gj_dk okX4_leastGood 4 rfl) rfl rfl ?_
  refine gj_pfI (q := 10) (j := 8) (gj_dk okX4_leastGood 5 rfl) ff_X4_86 (sh31 hst) (by decide) rfl rfl ?_
  refine gj_stp hF (fun M2 hF => ?_)
  refine gj_iconst (q := 11) (gj_dk okX4_leastGood 6 rfl) (by decide) rfl ?_
  refine gj_istore (q := 13) (gj_dk okX4_leastGood 7 rfl) (by decide) rfl ?_
  refine gj_sub [(0, jR 31), (1, jI a1), (2, jI a2), (3, jI a3), (4, jI 0)] ⟨rfl, rfl, rfl, rfl, rfl, trivial⟩ ?_
  exact t_L_X4_leastGood_13 hst gj_fu a1 a2 a3 0 M2 hF
def F_X11_bar (a1 : Int) (a2 : Int) (a3 : Int) (a4 : Int) (M : gj_M) : Option (Int × gj_M) :=
  gj_letI (f_X5_slotOf a1 M) (fun x1 => gj_letI (f_X5_slotOf a2 M) (fun x2 => (if f_unl x1 x2 = 0 then (some ((-1, M))) else (if a3 < 1 then (some ((-1, M))) else (if 6 < a3 then (some ((-1, M))) else gj_letI (f_X11_canReckon a4 M) (fun x3 => (if x3 = 0 then (some ((-1, M))) else gj_bnd (F_X4_enter x1 M) (fun M5 => gj_bnd2 (F_X4_leastGood (f_plc x2) a3 a4 M5) (fun x6 M7 => (some ((x6, M7))))))))))))
set_option maxHeartbeats 4000000 in
set_option maxRecDepth 20000 in
theorem t_X11_bar (hst : gj_Stat S) (a1 a2 a3 a4 : Int) {r : Int × gj_M} (hF : F_X11_bar a1 a2 a3 a4 M = some r) : gj_C G l 19 0 0 yX11_bar cX11_bar 7 (some .int) [jR 0, jI a1, jI a2, jI a3, jI a4] S M (gj_qI fun x S' M' => r.1 = x ∧ S = S' ∧ r.2 = M') := by
  refine gj_Cof (by decide +kernel) (Nat.le_of_ble_eq_true rfl) ?_
  change gj_W G l 19 0 0 yX11_bar cX11_bar 7 (some .int) (gj_qI fun x S' M' => r.1 = x ∧ S = S' ∧ r.2 = M') 0 0 0 [(0, jR 0), (1, jI a1), (2, jI a2), (3, jI a3), (4, jI a4)] [] S M
  unfold F_X11_bar at hF
  refine gj_aload_n (q := 1) (gj_dk okX11_bar 0 rfl) rfl rfl ?_
  refine gj_gR (q := 4) (j := 3) (gj_dk okX11_bar 1 rfl) ff_X11_32 (sh0 hst) (by decide) rfl (rf0_3 hst) rfl ?_
  refine gj_iload_n (q := 5) (gj_dk okX11_bar 2 rfl) rfl rfl ?_
  refine gj_callV (q := 8) (z := 14) (ci := 5) [jI a1] rfl (t_X5_slotOf hst a1 rfl) (gj_dk okX11_bar 3 rfl) ml_X11_131 me_X5_slotOf (sh14 hst) rfl (gj_nm rfl) rfl (gj_kI fun x S2 M2 h => ?_)
  obtain ⟨e, eS, eM⟩ := h; subst eS; subst eM; subst e
  refine gj_stpI hF (fun x1 hF => ?_)
  refine gj_istore (q := 10) (gj_dk okX11_bar 4 rfl) (by decide) rfl ?_
  refine gj_aload_n (q := 11) (gj_dk okX11_bar 5 rfl) rfl rfl ?_
  refine gj_gR (q := 14) (j := 3) (gj_dk okX11_bar 6 rfl) ff_X11_32 (sh0 hst) (by decide) rfl (rf0_3 hst) rfl ?_
  refine gj_iload_n (q := 15) (gj_dk okX11_bar 7 rfl) rfl rfl ?_
  refine gj_callV (q := 18) (z := 14) (ci := 5) [jI a2] rfl (t_X5_slotOf hst a2 rfl) (gj_dk okX11_bar 8 rfl) ml_X11_131 me_X5_slotOf (sh14 hst) rfl (gj_nm rfl) rfl (gj_kI fun x S2 M2 h => ?_)
  obtain ⟨e, eS, eM⟩ := h; subst eS; subst eM; subst e
  refine gj_stpI hF (fun x2 hF => ?_)
  refine gj_istore (q := 20) (gj_dk okX11_bar 9 rfl) (by decide) rfl ?_
  refine gj_iload (q := 22) (gj_dk okX11_bar 10 rfl) rfl rfl ?_
  refine gj_iload (q := 24) (gj_dk okX11_bar 11 rfl) rfl rfl ?_
  refine gj_callS (q := 27) [jI x1, jI x2] rfl (c_X10_unlike _ _) (gj_dk okX11_bar 12 rfl) ml_X11_157 me_X10_unlike (gj_nm rfl) rfl (gj_kI fun x S2 M2 h => ?_)
  obtain ⟨e, eS, eM⟩ := h; subst eS; subst eM; subst e
  refine gj_if_eq (q := 30) (tgt := 49) (gj_dk okX11_bar 13 rfl) (by decide) rfl (fun c27 => ?_) (fun c27 => ?_)
  · -- 49
    replace hF := gj_ift c27 hF
    refine gj_iconst (q := 50) (gj_dk okX11_bar 23 rfl) (by decide) rfl ?_
    cases hF
    exact gj_iret (gj_dk okX11_bar 24 rfl) rfl ⟨_, rfl, rfl, rfl, rfl⟩
  · -- 30
    replace hF := gj_iff c27 hF
    refine gj_iload_n (q := 31) (gj_dk okX11_bar 14 rfl) rfl rfl ?_
    refine gj_iconst (q := 32) (gj_dk okX11_bar 15 rfl) (by decide) rfl ?_
    refine gj_icmp_lt (q := 35) (tgt := 49) (gj_dk okX11_bar 16 rfl) (by decide) rfl (fun c32 => ?_) (fun c32 => ?_)
    · -- 49
      replace hF := gj_ift c32 hF
      refine gj_iconst (q := 50) (gj_dk okX11_bar 23 rfl) (by decide) rfl ?_
      cases hF
      exact gj_iret (gj_dk okX11_bar 24 rfl) rfl ⟨_, rfl, rfl, rfl, rfl⟩
    · -- 35
      replace hF := gj_iff c32 hF
      refine gj_iload_n (q := 36) (gj_dk okX11_bar 17 rfl) rfl rfl ?_
      refine gj_bipush (q := 38) (gj_dk okX11_bar 18 rfl) (by decide) rfl rfl ?_
      refine gj_icmp_gt (q := 41) (tgt := 49) (gj_dk okX11_bar 19 rfl) (by decide) rfl (fun c38 => ?_) (fun c38 => ?_)
      · -- 49
        replace hF := gj_ift c38 hF
        refine gj_iconst (q := 50) (gj_dk okX11_bar 23 rfl) (by decide) rfl ?_
        cases hF
        exact gj_iret (gj_dk okX11_bar 24 rfl) rfl ⟨_, rfl, rfl, rfl, rfl⟩
      · -- 41
        replace hF := gj_iff c38 hF
        refine gj_iload (q := 43) (gj_dk okX11_bar 20 rfl) rfl rfl ?_
        refine gj_callS (q := 46) [jI a4] rfl (t_X11_canReckon hst a4 rfl) (gj_dk okX11_bar 21 rfl) ml_X11_214 me_X11_canReckon (gj_nm rfl) rfl (gj_kI fun x S2 M2 h => ?_)
        obtain ⟨bz, e, eS, eM⟩ := h; subst eS; subst eM; subst e
        refine gj_stpZ bz hF (fun x3 bx3 hF => ?_)
        refine gj_if_ne (q := 49) (tgt := 51) (gj_dk okX11_bar 22 rfl) (by decide) rfl (fun c46 => ?_) (fun c46 => ?_)
        · -- 51
          replace hF := gj_iff c46 hF
          refine gj_aload_n (q := 52) (gj_dk okX11_bar 25 rfl) rfl rfl ?_
          refine gj_gR (q := 55) (j := 5) (gj_dk okX11_bar 26 rfl) ff_X11_47 (sh0 hst) (by decide) rfl (rf0_5 hst) rfl ?_
          refine gj_iload (q := 57) (gj_dk okX11_bar 27 rfl) rfl rfl ?_
          obtain ⟨M5, hG, hF⟩ := gj_bndd hF
          refine gj_callV (q := 60) (z := 31) (ci := 4) [jI x1] rfl (t_X4_enter hst x1 hG) (gj_dk okX11_bar 28 rfl) ml_X11_217 me_X4_enter (sh31 hst) rfl (gj_nm rfl) rfl (gj_kV fun S2 M2 h => ?_)
          obtain ⟨eS, eM⟩ := h; subst eS; subst eM; clear hG
          refine gj_aload_n (q := 61) (gj_dk okX11_bar 29 rfl) rfl rfl ?_
          refine gj_gR (q := 64) (j := 5) (gj_dk okX11_bar 30 rfl) ff_X11_47 (sh0 hst) (by decide) rfl (rf0_5 hst) rfl ?_
          refine gj_iload (q := 66) (gj_dk okX11_bar 31 rfl) rfl rfl ?_
          refine gj_callS (q := 69) [jI x2] rfl (c_X10_placeOf _) (gj_dk okX11_bar 32 rfl) ml_X11_230 me_X10_placeOf (gj_nm rfl) rfl (gj_kI fun x S2 M2 h => ?_)
          obtain ⟨e, eS, eM⟩ := h; subst eS; subst eM; subst e
          refine gj_iload_n (q := 70) (gj_dk okX11_bar 33 rfl) rfl rfl ?_
          refine gj_iload (q := 72) (gj_dk okX11_bar 34 rfl) rfl rfl ?_
          obtain ⟨x6, M7, hG, hF⟩ := gj_bnd2d hF
          refine gj_callV (q := 75) (z := 31) (ci := 4) [jI (f_plc x2), jI a3, jI a4] rfl (t_X4_leastGood hst (f_plc x2) a3 a4 hG) (gj_dk okX11_bar 35 rfl) ml_X11_240 me_X4_leastGood (sh31 hst) rfl (gj_nm rfl) rfl (gj_kI fun y S2 M2 h => ?_)
          obtain ⟨e, eS, eM⟩ := h; subst eS; subst eM; subst e; clear hG
          dsimp only
          cases hF
          exact gj_iret (gj_dk okX11_bar 36 rfl) rfl ⟨_, rfl, rfl, rfl, rfl⟩
        · -- 49
          replace hF := gj_ift c46 hF
          refine gj_iconst (q := 50) (gj_dk okX11_bar 23 rfl) (by decide) rfl ?_
          cases hF
          exact gj_iret (gj_dk okX11_bar 24 rfl) rfl ⟨_, rfl, rfl, rfl, rfl⟩
def B_X4_leastCow_17 (rec17 : Int → Int → Int → Int → gj_M → Option (Int × gj_M)) (l1 l2 l4 l6 : Int) (M : gj_M) : Option (Int × gj_M) :=
  (if 999 < l6 then (some ((-1, M))) else (if 999 < l4 then (some ((-1, M))) else gj_let (gj_up M 31 9 (gj_w l4)) (fun M2 => gj_bnd2 (F_X4_worth 6 l1 (M2 31 7) (M2 31 8) M2) (fun x3 M4 => gj_bnd2 (F_X4_doing (F_X4_worth 5) (M4 31 7) l1 (M4 31 7) (M4 31 8) M4) (fun x5 M6 => (if 0 < gj_wl (x3 - x5) then gj_chk (¬ l2 = 0) (gj_letI (gj_wl (l4 + (gj_wl (Int.tdiv (gj_wl ((gj_wl ((gj_wl (x3 - x5)) + l2)) - 1)) l2)))) (fun x8 => rec17 l1 l2 x8 (gj_w (l6 + 1)) M6)) else (some ((M6 31 9, M6)))))))))
def F_X4_leastCow (a1 : Int) (M : gj_M) : Option (Int × gj_M) :=
  gj_letI (gj_wl ((f_max 1 a1) * 1000)) (fun x1 => (gj_it (fun _ _ _ _ _ => none) (B_X4_leastCow_17) gj_fu a1 x1 0 0 M))
set_option maxHeartbeats 4000000 in
set_option maxRecDepth 20000 in
theorem t_B_X4_leastCow_17 (hst : gj_Stat S) {r : Int × gj_M} {rec17 : Int → Int → Int → Int → gj_M → Option (Int × gj_M)} (hrec17 : ∀ (l1 l2 l4 l6 : Int) (M : gj_M), rec17 l1 l2 l4 l6 M = some r → gj_W G l 17 0 0 yX4_leastCow cX4_leastCow 9 (some .int) (gj_qI fun x S' M' => r.1 = x ∧ S = S' ∧ r.2 = M') 0 0 17 [(0, jR 31), (1, jI l1), (2, jL l2), (4, jL l4), (6, jI l6)] [] S M) (l1 l2 l4 l6 : Int) (M : gj_M) (hF : B_X4_leastCow_17 rec17 l1 l2 l4 l6 M = some r) : gj_W G l 17 0 0 yX4_leastCow cX4_leastCow 9 (some .int) (gj_qI fun x S' M' => r.1 = x ∧ S = S' ∧ r.2 = M') 0 0 17 [(0, jR 31), (1, jI l1), (2, jL l2), (4, jL l4), (6, jI l6)] [] S M := by
  unfold B_X4_leastCow_17 at hF
  refine gj_iload (q := 19) (gj_dk okX4_leastCow 11 rfl) rfl rfl ?_
  refine gj_sipush (q := 22) (gj_dk okX4_leastCow 12 rfl) (by decide) rfl rfl ?_
  refine gj_icmp_gt (q := 25) (tgt := 105) (gj_dk okX4_leastCow 13 rfl) (by decide) rfl (fun c22 => ?_) (fun c22 => ?_)
  · -- 105
    replace hF := gj_ift c22 hF
    refine gj_iconst (q := 106) (gj_dk okX4_leastCow 59 rfl) (by decide) rfl ?_
    cases hF
    exact gj_iret (gj_dk okX4_leastCow 60 rfl) rfl ⟨_, rfl, rfl, rfl, rfl⟩
  · -- 25
    replace hF := gj_iff c22 hF
    refine gj_lload (q := 27) (gj_dk okX4_leastCow 14 rfl) rfl rfl ?_
    refine gj_ldc2 (q := 30) (z := 999) (gj_dk okX4_leastCow 15 rfl) kl_X4_124 (by decide) rfl ?_
    refine gj_lcmp (q := 31) (gj_dk okX4_leastCow 16 rfl) rfl ?_
    refine gj_if_gt (q := 34) (tgt := 105) (gj_dk okX4_leastCow 17 rfl) (by decide) rfl (fun c31 => ?_) (fun c31 => ?_)
    · -- 105
      replace c31 := gj_cm_gt.mp c31
      replace hF := gj_ift c31 hF
      refine gj_iconst (q := 106) (gj_dk okX4_leastCow 59 rfl) (by decide) rfl ?_
      cases hF
      exact gj_iret (gj_dk okX4_leastCow 60 rfl) rfl ⟨_, rfl, rfl, rfl, rfl⟩
    · -- 34
      replace c31 := gj_cm_gtn.mp c31
      replace hF := gj_iff c31 hF
      refine gj_aload_n (q := 35) (gj_dk okX4_leastCow 18 rfl) rfl rfl ?_
      refine gj_lload (q := 37) (gj_dk okX4_leastCow 19 rfl) rfl rfl ?_
      refine gj_l2i (q := 38) (gj_dk okX4_leastCow 20 rfl) rfl ?_
      refine gj_pfI (q := 41) (j := 9) (gj_dk okX4_leastCow 21 rfl) ff_X4_92 (sh31 hst) (by decide) rfl rfl ?_
      refine gj_stp hF (fun M2 hF => ?_)
      refine gj_aload_n (q := 42) (gj_dk okX4_leastCow 22 rfl) rfl rfl ?_
      refine gj_iload_n (q := 43) (gj_dk okX4_leastCow 23 rfl) rfl rfl ?_
      refine gj_aload_n (q := 44) (gj_dk okX4_leastCow 24 rfl) rfl rfl ?_
      refine gj_gI (q := 47) (j := 7) (gj_dk okX4_leastCow 25 rfl) ff_X4_80 (sh31 hst) (by decide) rfl rfl ?_
      refine gj_aload_n (q := 48) (gj_dk okX4_leastCow 26 rfl) rfl rfl ?_
      refine gj_gI (q := 51) (j := 8) (gj_dk okX4_leastCow 27 rfl) ff_X4_86 (sh31 hst) (by decide) rfl rfl ?_
      obtain ⟨x3, M4, hG, hF⟩ := gj_bnd2d hF
      refine gj_callV (q := 54) (z := 31) (ci := 4) [jI l1, jI (M2 31 7), jI (M2 31 8)] rfl (t_X4_worthC hst l1 (M2 31 7) (M2 31 8) hG) (gj_dk okX4_leastCow 28 rfl) ml_X4_96 me_X4_worthOf (sh31 hst) rfl (gj_nm rfl) rfl (gj_kL fun y S2 M2 h => ?_)
      obtain ⟨e, eS, eM⟩ := h; subst eS; subst eM; subst e; clear hG
      dsimp only
      refine gj_aload_n (q := 55) (gj_dk okX4_leastCow 29 rfl) rfl rfl ?_
      refine gj_aload_n (q := 56) (gj_dk okX4_leastCow 30 rfl) rfl rfl ?_
      refine gj_gI (q := 59) (j := 7) (gj_dk okX4_leastCow 31 rfl) ff_X4_80 (sh31 hst) (by decide) rfl rfl ?_
      refine gj_iload_n (q := 60) (gj_dk okX4_leastCow 32 rfl) rfl rfl ?_
      refine gj_aload_n (q := 61) (gj_dk okX4_leastCow 33 rfl) rfl rfl ?_
      refine gj_gI (q := 64) (j := 7) (gj_dk okX4_leastCow 34 rfl) ff_X4_80 (sh31 hst) (by decide) rfl rfl ?_
      refine gj_aload_n (q := 65) (gj_dk okX4_leastCow 35 rfl) rfl rfl ?_
      refine gj_gI (q := 68) (j := 8) (gj_dk okX4_leastCow 36 rfl) ff_X4_86 (sh31 hst) (by decide) rfl rfl ?_
      obtain ⟨x5, M6, hG, hF⟩ := gj_bnd2d hF
      refine gj_callV (q := 71) (z := 31) (ci := 4) [jI (M4 31 7), jI l1, jI (M4 31 7), jI (M4 31 8)] rfl (t_X4_doingC hst (M4 31 7) l1 (M4 31 7) (M4 31 8) hG) (gj_dk okX4_leastCow 37 rfl) ml_X4_100 me_X4_doing (sh31 hst) rfl (gj_nm rfl) rfl (gj_kL fun y S2 M2 h => ?_)
      obtain ⟨e, eS, eM⟩ := h; subst eS; subst eM; subst e; clear hG
      dsimp only
      refine gj_lsub (q := 72) (gj_dk okX4_leastCow 38 rfl) rfl ?_
      refine gj_lstore (q := 74) (gj_dk okX4_leastCow 39 rfl) (by decide) rfl ?_
      refine gj_lload (q := 76) (gj_dk okX4_leastCow 40 rfl) rfl rfl ?_
      refine gj_lconst (q := 77) (z := 0) (gj_dk okX4_leastCow 41 rfl) rfl (by decide) rfl ?_
      refine gj_lcmp (q := 78) (gj_dk okX4_leastCow 42 rfl) rfl ?_
      refine gj_if_gt (q := 81) (tgt := 86) (gj_dk okX4_leastCow 43 rfl) (by decide) rfl (fun c78 => ?_) (fun c78 => ?_)
      · -- 86
        replace c78 := gj_cm_gt.mp c78
        replace hF := gj_ift c78 hF
        refine gj_lload (q := 88) (gj_dk okX4_leastCow 47 rfl) rfl rfl ?_
        refine gj_lload (q := 90) (gj_dk okX4_leastCow 48 rfl) rfl rfl ?_
        refine gj_lload_n (q := 91) (gj_dk okX4_leastCow 49 rfl) rfl rfl ?_
        refine gj_ladd (q := 92) (gj_dk okX4_leastCow 50 rfl) rfl ?_
        refine gj_lconst (q := 93) (z := 1) (gj_dk okX4_leastCow 51 rfl) rfl (by decide) rfl ?_
        refine gj_lsub (q := 94) (gj_dk okX4_leastCow 52 rfl) rfl ?_
        refine gj_lload_n (q := 95) (gj_dk okX4_leastCow 53 rfl) rfl rfl ?_
        obtain ⟨b7, hF⟩ := gj_ckd hF
        refine gj_ldiv (q := 96) (gj_dk okX4_leastCow 54 rfl) b7 rfl ?_
        refine gj_ladd (q := 97) (gj_dk okX4_leastCow 55 rfl) rfl ?_
        refine gj_stpL hF (fun x8 hF => ?_)
        refine gj_lstore (q := 99) (gj_dk okX4_leastCow 56 rfl) (by decide) rfl ?_
        refine gj_iinc (q := 102) (v := gj_w (l6 + 1)) (gj_dk okX4_leastCow 57 rfl) rfl (by decide) rfl rfl ?_
        refine gj_goto (tgt := 17) (gj_dk okX4_leastCow 58 rfl) (by decide) ?_
        refine gj_sub [(0, jR 31), (1, jI l1), (2, jL l2), (4, jL x8), (6, jI (gj_w (l6 + 1)))] ⟨rfl, rfl, rfl, rfl, rfl, trivial⟩ ?_
        exact hrec17 l1 l2 x8 (gj_w (l6 + 1)) M6 hF
      · -- 81
        replace c78 := gj_cm_gtn.mp c78
        replace hF := gj_iff c78 hF
        refine gj_aload_n (q := 82) (gj_dk okX4_leastCow 44 rfl) rfl rfl ?_
        refine gj_gI (q := 85) (j := 9) (gj_dk okX4_leastCow 45 rfl) ff_X4_92 (sh31 hst) (by decide) rfl rfl ?_
        cases hF
        exact gj_iret (gj_dk okX4_leastCow 46 rfl) rfl ⟨_, rfl, rfl, rfl, rfl⟩
theorem t_L_X4_leastCow_17 (hst : gj_Stat S) {r : Int × gj_M} : ∀ (m : Nat) (l1 : Int) (l2 : Int) (l4 : Int) (l6 : Int) (M : gj_M), gj_it (fun _ _ _ _ _ => none) (B_X4_leastCow_17) m l1 l2 l4 l6 M = some r → gj_W G l 17 0 0 yX4_leastCow cX4_leastCow 9 (some .int) (gj_qI fun x S' M' => r.1 = x ∧ S = S' ∧ r.2 = M') 0 0 17 [(0, jR 31), (1, jI l1), (2, jL l2), (4, jL l4), (6, jI l6)] [] S M := by
  intro m
  induction m with
  | zero => intro l1 l2 l4 l6 M hF; cases (show (none : Option (Int × gj_M)) = some r from hF)
  | succ m ih => intro l1 l2 l4 l6 M hF; exact t_B_X4_leastCow_17 hst (fun l1 l2 l4 l6 M h => ih l1 l2 l4 l6 M h) l1 l2 l4 l6 M hF
set_option maxHeartbeats 4000000 in
set_option maxRecDepth 20000 in
theorem t_X4_leastCow (hst : gj_Stat S) (a1 : Int) {r : Int × gj_M} (hF : F_X4_leastCow a1 M = some r) : gj_C G l 17 0 0 yX4_leastCow cX4_leastCow 9 (some .int) [jR 31, jI a1] S M (gj_qI fun x S' M' => r.1 = x ∧ S = S' ∧ r.2 = M') := by
  refine gj_Cof (by decide +kernel) (Nat.le_of_ble_eq_true rfl) ?_
  change gj_W G l 17 0 0 yX4_leastCow cX4_leastCow 9 (some .int) (gj_qI fun x S' M' => r.1 = x ∧ S = S' ∧ r.2 = M') 0 0 0 [(0, jR 31), (1, jI a1)] [] S M
  unfold F_X4_leastCow at hF
  refine gj_iconst (q := 1) (gj_dk okX4_leastCow 0 rfl) (by decide) rfl ?_
  refine gj_iload_n (q := 2) (gj_dk okX4_leastCow 1 rfl) rfl rfl ?_
  refine gj_mmax (q := 5) (gj_dk okX4_leastCow 2 rfl) ml_X4_119 ⟨by omega, Nat.le_of_ble_eq_true rfl⟩ rfl ?_
  refine gj_i2l (q := 6) (gj_dk okX4_leastCow 3 rfl) rfl ?_
  refine gj_ldc2 (q := 9) (z := 1000) (gj_dk okX4_leastCow 4 rfl) kl_X4_122 (by decide) rfl ?_
  refine gj_lmul (q := 10) (gj_dk okX4_leastCow 5 rfl) rfl ?_
  refine gj_stpL hF (fun x1 hF => ?_)
  refine gj_lstore_n (q := 11) (gj_dk okX4_leastCow 6 rfl) (by decide) rfl ?_
  refine gj_lconst (q := 12) (z := 0) (gj_dk okX4_leastCow 7 rfl) rfl (by decide) rfl ?_
  refine gj_lstore (q := 14) (gj_dk okX4_leastCow 8 rfl) (by decide) rfl ?_
  refine gj_iconst (q := 15) (gj_dk okX4_leastCow 9 rfl) (by decide) rfl ?_
  refine gj_istore (q := 17) (gj_dk okX4_leastCow 10 rfl) (by decide) rfl ?_
  refine gj_sub [(0, jR 31), (1, jI a1), (2, jL x1), (4, jL 0), (6, jI 0)] ⟨rfl, rfl, rfl, rfl, rfl, trivial⟩ ?_
  exact t_L_X4_leastCow_17 hst gj_fu a1 x1 0 0 M hF
def F_X11_price (a1 : Int) (a2 : Int) (M : gj_M) : Option (Int × gj_M) :=
  gj_letI (f_X5_slotOf a1 M) (fun x1 => (if x1 = -1 then (some ((-1, M))) else gj_letI (f_X11_canReckon a2 M) (fun x2 => (if x2 = 0 then (some ((-1, M))) else (if f_at M 22 8 x1 = -1 then (some ((-1, M))) else gj_bnd (F_X4_enter x1 M) (fun M4 => gj_bnd2 (F_X4_leastCow a2 M4) (fun x5 M6 => (some ((x5, M6))))))))))
set_option maxHeartbeats 4000000 in
set_option maxRecDepth 20000 in
theorem t_X11_price (hst : gj_Stat S) (a1 a2 : Int) {r : Int × gj_M} (hF : F_X11_price a1 a2 M = some r) : gj_C G l 18 0 0 yX11_price cX11_price 4 (some .int) [jR 0, jI a1, jI a2] S M (gj_qI fun x S' M' => r.1 = x ∧ S = S' ∧ r.2 = M') := by
  refine gj_Cof (by decide +kernel) (Nat.le_of_ble_eq_true rfl) ?_
  change gj_W G l 18 0 0 yX11_price cX11_price 4 (some .int) (gj_qI fun x S' M' => r.1 = x ∧ S = S' ∧ r.2 = M') 0 0 0 [(0, jR 0), (1, jI a1), (2, jI a2)] [] S M
  unfold F_X11_price at hF
  refine gj_aload_n (q := 1) (gj_dk okX11_price 0 rfl) rfl rfl ?_
  refine gj_gR (q := 4) (j := 3) (gj_dk okX11_price 1 rfl) ff_X11_32 (sh0 hst) (by decide) rfl (rf0_3 hst) rfl ?_
  refine gj_iload_n (q := 5) (gj_dk okX11_price 2 rfl) rfl rfl ?_
  refine gj_callV (q := 8) (z := 14) (ci := 5) [jI a1] rfl (t_X5_slotOf hst a1 rfl) (gj_dk okX11_price 3 rfl) ml_X11_131 me_X5_slotOf (sh14 hst) rfl (gj_nm rfl) rfl (gj_kI fun x S2 M2 h => ?_)
  obtain ⟨e, eS, eM⟩ := h; subst eS; subst eM; subst e
  refine gj_stpI hF (fun x1 hF => ?_)
  refine gj_istore_n (q := 9) (gj_dk okX11_price 4 rfl) (by decide) rfl ?_
  refine gj_iload_n (q := 10) (gj_dk okX11_price 5 rfl) rfl rfl ?_
  refine gj_iconst (q := 11) (gj_dk okX11_price 6 rfl) (by decide) rfl ?_
  refine gj_icmp_eq (q := 14) (tgt := 36) (gj_dk okX11_price 7 rfl) (by decide) rfl (fun c11 => ?_) (fun c11 => ?_)
  · -- 36
    replace hF := gj_ift c11 hF
    refine gj_iconst (q := 37) (gj_dk okX11_price 18 rfl) (by decide) rfl ?_
    cases hF
    exact gj_iret (gj_dk okX11_price 19 rfl) rfl ⟨_, rfl, rfl, rfl, rfl⟩
  · -- 14
    replace hF := gj_iff c11 hF
    refine gj_iload_n (q := 15) (gj_dk okX11_price 8 rfl) rfl rfl ?_
    refine gj_callS (q := 18) [jI a2] rfl (t_X11_canReckon hst a2 rfl) (gj_dk okX11_price 9 rfl) ml_X11_214 me_X11_canReckon (gj_nm rfl) rfl (gj_kI fun x S2 M2 h => ?_)
    obtain ⟨bz, e, eS, eM⟩ := h; subst eS; subst eM; subst e
    refine gj_stpZ bz hF (fun x2 bx2 hF => ?_)
    refine gj_if_eq (q := 21) (tgt := 36) (gj_dk okX11_price 10 rfl) (by decide) rfl (fun c18 => ?_) (fun c18 => ?_)
    · -- 36
      replace hF := gj_ift c18 hF
      refine gj_iconst (q := 37) (gj_dk okX11_price 18 rfl) (by decide) rfl ?_
      cases hF
      exact gj_iret (gj_dk okX11_price 19 rfl) rfl ⟨_, rfl, rfl, rfl, rfl⟩
    · -- 21
      replace hF := gj_iff c18 hF
      refine gj_aload_n (q := 22) (gj_dk okX11_price 11 rfl) rfl rfl ?_
      refine gj_gR (q := 25) (j := 4) (gj_dk okX11_price 12 rfl) ff_X11_38 (sh0 hst) (by decide) rfl (rf0_4 hst) rfl ?_
      refine gj_gR (q := 28) (j := 3) (gj_dk okX11_price 13 rfl) ff_X11_143 (sh21 hst) (by decide) rfl (rf21_3 hst) rfl ?_
      refine gj_iload_n (q := 29) (gj_dk okX11_price 14 rfl) rfl rfl ?_
      refine gj_callS (q := 32) [jR 22, jI x1] rfl (c_X7_at (sh22 hst) (by decide) (by decide) _) (gj_dk okX11_price 15 rfl) ml_X11_139 me_X7_at (gj_nm rfl) rfl (gj_kI fun x S2 M2 h => ?_)
      obtain ⟨e, eS, eM⟩ := h; subst eS; subst eM; subst e
      refine gj_iconst (q := 33) (gj_dk okX11_price 16 rfl) (by decide) rfl ?_
      refine gj_icmp_ne (q := 36) (tgt := 38) (gj_dk okX11_price 17 rfl) (by decide) rfl (fun c33 => ?_) (fun c33 => ?_)
      · -- 38
        replace hF := gj_iff c33 hF
        refine gj_aload_n (q := 39) (gj_dk okX11_price 20 rfl) rfl rfl ?_
        refine gj_gR (q := 42) (j := 5) (gj_dk okX11_price 21 rfl) ff_X11_47 (sh0 hst) (by decide) rfl (rf0_5 hst) rfl ?_
        refine gj_iload_n (q := 43) (gj_dk okX11_price 22 rfl) rfl rfl ?_
        obtain ⟨M4, hG, hF⟩ := gj_bndd hF
        refine gj_callV (q := 46) (z := 31) (ci := 4) [jI x1] rfl (t_X4_enter hst x1 hG) (gj_dk okX11_price 23 rfl) ml_X11_217 me_X4_enter (sh31 hst) rfl (gj_nm rfl) rfl (gj_kV fun S2 M2 h => ?_)
        obtain ⟨eS, eM⟩ := h; subst eS; subst eM; clear hG
        refine gj_aload_n (q := 47) (gj_dk okX11_price 24 rfl) rfl rfl ?_
        refine gj_gR (q := 50) (j := 5) (gj_dk okX11_price 25 rfl) ff_X11_47 (sh0 hst) (by decide) rfl (rf0_5 hst) rfl ?_
        refine gj_iload_n (q := 51) (gj_dk okX11_price 26 rfl) rfl rfl ?_
        obtain ⟨x5, M6, hG, hF⟩ := gj_bnd2d hF
        refine gj_callV (q := 54) (z := 31) (ci := 4) [jI a2] rfl (t_X4_leastCow hst a2 hG) (gj_dk okX11_price 27 rfl) ml_X11_243 me_X4_leastCow (sh31 hst) rfl (gj_nm rfl) rfl (gj_kI fun y S2 M2 h => ?_)
        obtain ⟨e, eS, eM⟩ := h; subst eS; subst eM; subst e; clear hG
        dsimp only
        cases hF
        exact gj_iret (gj_dk okX11_price 28 rfl) rfl ⟨_, rfl, rfl, rfl, rfl⟩
      · -- 36
        replace hF := gj_ift c33 hF
        refine gj_iconst (q := 37) (gj_dk okX11_price 18 rfl) (by decide) rfl ?_
        cases hF
        exact gj_iret (gj_dk okX11_price 19 rfl) rfl ⟨_, rfl, rfl, rfl, rfl⟩
def f_X4_shutOut (a1 : Int) (M : gj_M) : gj_M :=
  gj_let (gj_up M 31 10 a1) (fun M1 => (M1))
set_option maxHeartbeats 4000000 in
set_option maxRecDepth 20000 in
theorem t_X4_shutOut (hst : gj_Stat S) (a1 : Int) {r : gj_M} (hF : f_X4_shutOut a1 M = r) : gj_C G l 1 0 0 yX4_shutOut cX4_shutOut 2 none [jR 31, jI a1] S M (gj_qV fun S' M' => S = S' ∧ r = M') := by
  refine gj_Cof (by decide +kernel) (Nat.le_of_ble_eq_true rfl) ?_
  change gj_W G l 1 0 0 yX4_shutOut cX4_shutOut 2 none (gj_qV fun S' M' => S = S' ∧ r = M') 0 0 0 [(0, jR 31), (1, jI a1)] [] S M
  unfold f_X4_shutOut at hF
  refine gj_aload_n (q := 1) (gj_dk okX4_shutOut 0 rfl) rfl rfl ?_
  refine gj_iload_n (q := 2) (gj_dk okX4_shutOut 1 rfl) rfl rfl ?_
  refine gj_pfI (q := 5) (j := 10) (gj_dk okX4_shutOut 2 rfl) ff_X4_93 (sh31 hst) (by decide) rfl rfl ?_
  refine gj_stp hF (fun M1 hF => ?_)
  subst hF
  exact gj_vret (gj_dk okX4_shutOut 3 rfl) rfl ⟨rfl, rfl, rfl⟩
def J_X11_waits_86 (l3 l4 l5 s0 : Int) (M : gj_M) : Option (Int × gj_M) :=
  gj_letI (gj_wl (1000 * (gj_w ((f_at M 15 8 l4) - s0)))) (fun x5 => gj_letI (f_X2_likingOf l4 l5 1 M) (fun x6 => gj_letI (gj_wl (x5 + (gj_wl ((gj_wl (l3 - 1)) * x6)))) (fun x7 => gj_bnd (F_X4_enter l4 M) (fun M9 => gj_let (f_X4_shutOut (f_plc l5) M9) (fun M10 => gj_bnd2 (F_X4_bestWorth l3 M10) (fun x11 M12 => (some ((gj_w (gj_wl (x7 - x11)), M12)))))))))
def F_X11_waits (a1 : Int) (a2 : Int) (a3 : Int) (M : gj_M) : Option (Int × gj_M) :=
  gj_letI (f_X5_slotOf a1 M) (fun x1 => gj_letI (f_X5_slotOf a2 M) (fun x2 => (if f_unl x1 x2 = 0 then (some ((-2147483648, M))) else (if a3 < 2 then (some ((-2147483648, M))) else gj_letI (f_X11_canReckon a3 M) (fun x3 => (if x3 = 0 then (some ((-2147483648, M))) else gj_letI (f_X3_arePair x1 x2 M) (fun x4 => (if x4 = 0 then (if f_at M 22 8 x1 = -1 then (J_X11_waits_86 a3 x1 x2 0 M) else (J_X11_waits_86 a3 x1 x2 (M 14 8) M)) else (some ((-2147483648, M)))))))))))
set_option maxHeartbeats 4000000 in
set_option maxRecDepth 20000 in
theorem t_J_X11_waits_86 (hst : gj_Stat S) {r : Int × gj_M} (l3 l4 l5 s0 : Int) (M : gj_M) (hF : J_X11_waits_86 l3 l4 l5 s0 M = some r) : gj_W G l 18 0 0 yX11_waits cX11_waits 9 (some .int) (gj_qI fun x S' M' => r.1 = x ∧ S = S' ∧ r.2 = M') 0 0 86 [(0, jR 0), (3, jI l3), (4, jI l4), (5, jI l5)] [jI s0] S M := by
  unfold J_X11_waits_86 at hF
  refine gj_istore (q := 88) (gj_dk okX11_waits 40 rfl) (by decide) rfl ?_
  refine gj_ldc2 (q := 91) (z := 1000) (gj_dk okX11_waits 41 rfl) kl_X11_249 (by decide) rfl ?_
  refine gj_aload_n (q := 92) (gj_dk okX11_waits 42 rfl) rfl rfl ?_
  refine gj_gR (q := 95) (j := 3) (gj_dk okX11_waits 43 rfl) ff_X11_32 (sh0 hst) (by decide) rfl (rf0_3 hst) rfl ?_
  refine gj_gR (q := 98) (j := 10) (gj_dk okX11_waits 44 rfl) ff_X11_136 (sh14 hst) (by decide) rfl (rf14_10 hst) rfl ?_
  refine gj_iload (q := 100) (gj_dk okX11_waits 45 rfl) rfl rfl ?_
  refine gj_callS (q := 103) [jR 15, jI l4] rfl (c_X7_at (sh15 hst) (by decide) (by decide) _) (gj_dk okX11_waits 46 rfl) ml_X11_139 me_X7_at (gj_nm rfl) rfl (gj_kI fun x S2 M2 h => ?_)
  obtain ⟨e, eS, eM⟩ := h; subst eS; subst eM; subst e
  refine gj_iload (q := 105) (gj_dk okX11_waits 47 rfl) rfl rfl ?_
  refine gj_isub (q := 106) (gj_dk okX11_waits 48 rfl) rfl ?_
  refine gj_i2l (q := 107) (gj_dk okX11_waits 49 rfl) rfl ?_
  refine gj_lmul (q := 108) (gj_dk okX11_waits 50 rfl) rfl ?_
  refine gj_stpL hF (fun x5 hF => ?_)
  refine gj_lstore (q := 110) (gj_dk okX11_waits 51 rfl) (by decide) rfl ?_
  refine gj_lload (q := 112) (gj_dk okX11_waits 52 rfl) rfl rfl ?_
  refine gj_iload_n (q := 113) (gj_dk okX11_waits 53 rfl) rfl rfl ?_
  refine gj_i2l (q := 114) (gj_dk okX11_waits 54 rfl) rfl ?_
  refine gj_lconst (q := 115) (z := 1) (gj_dk okX11_waits 55 rfl) rfl (by decide) rfl ?_
  refine gj_lsub (q := 116) (gj_dk okX11_waits 56 rfl) rfl ?_
  refine gj_aload_n (q := 117) (gj_dk okX11_waits 57 rfl) rfl rfl ?_
  refine gj_gR (q := 120) (j := 6) (gj_dk okX11_waits 58 rfl) ff_X11_54 (sh0 hst) (by decide) rfl (rf0_6 hst) rfl ?_
  refine gj_iload (q := 122) (gj_dk okX11_waits 59 rfl) rfl rfl ?_
  refine gj_iload (q := 124) (gj_dk okX11_waits 60 rfl) rfl rfl ?_
  refine gj_iconst (q := 125) (gj_dk okX11_waits 61 rfl) (by decide) rfl ?_
  refine gj_callV (q := 128) (z := 35) (ci := 2) [jI l4, jI l5, jI 1] rfl (t_X2_likingOf hst l4 l5 1 rfl) (gj_dk okX11_waits 62 rfl) ml_X11_202 me_X2_likingOf (sh35 hst) rfl (gj_nm rfl) rfl (gj_kI fun x S2 M2 h => ?_)
  obtain ⟨e, eS, eM⟩ := h; subst eS; subst eM; subst e
  refine gj_stpI hF (fun x6 hF => ?_)
  refine gj_i2l (q := 129) (gj_dk okX11_waits 63 rfl) rfl ?_
  refine gj_lmul (q := 130) (gj_dk okX11_waits 64 rfl) rfl ?_
  refine gj_ladd (q := 131) (gj_dk okX11_waits 65 rfl) rfl ?_
  refine gj_stpL hF (fun x7 hF => ?_)
  refine gj_lstore (q := 133) (gj_dk okX11_waits 66 rfl) (by decide) rfl ?_
  refine gj_aload_n (q := 134) (gj_dk okX11_waits 67 rfl) rfl rfl ?_
  refine gj_gR (q := 137) (j := 5) (gj_dk okX11_waits 68 rfl) ff_X11_47 (sh0 hst) (by decide) rfl (rf0_5 hst) rfl ?_
  refine gj_iload (q := 139) (gj_dk okX11_waits 69 rfl) rfl rfl ?_
  obtain ⟨M9, hG, hF⟩ := gj_bndd hF
  refine gj_callV (q := 142) (z := 31) (ci := 4) [jI l4] rfl (t_X4_enter hst l4 hG) (gj_dk okX11_waits 70 rfl) ml_X11_217 me_X4_enter (sh31 hst) rfl (gj_nm rfl) rfl (gj_kV fun S2 M2 h => ?_)
  obtain ⟨eS, eM⟩ := h; subst eS; subst eM; clear hG
  refine gj_aload_n (q := 143) (gj_dk okX11_waits 71 rfl) rfl rfl ?_
  refine gj_gR (q := 146) (j := 5) (gj_dk okX11_waits 72 rfl) ff_X11_47 (sh0 hst) (by decide) rfl (rf0_5 hst) rfl ?_
  refine gj_iload (q := 148) (gj_dk okX11_waits 73 rfl) rfl rfl ?_
  refine gj_callS (q := 151) [jI l5] rfl (c_X10_placeOf _) (gj_dk okX11_waits 74 rfl) ml_X11_230 me_X10_placeOf (gj_nm rfl) rfl (gj_kI fun x S2 M2 h => ?_)
  obtain ⟨e, eS, eM⟩ := h; subst eS; subst eM; subst e
  refine gj_callV (q := 154) (z := 31) (ci := 4) [jI (f_plc l5)] rfl (t_X4_shutOut hst (f_plc l5) rfl) (gj_dk okX11_waits 75 rfl) ml_X11_251 me_X4_shutOut (sh31 hst) rfl (gj_nm rfl) rfl (gj_kV fun S2 M2 h => ?_)
  obtain ⟨eS, eM⟩ := h; subst eS; subst eM
  refine gj_stp hF (fun M10 hF => ?_)
  refine gj_lload (q := 156) (gj_dk okX11_waits 76 rfl) rfl rfl ?_
  refine gj_aload_n (q := 157) (gj_dk okX11_waits 77 rfl) rfl rfl ?_
  refine gj_gR (q := 160) (j := 5) (gj_dk okX11_waits 78 rfl) ff_X11_47 (sh0 hst) (by decide) rfl (rf0_5 hst) rfl ?_
  refine gj_iload_n (q := 161) (gj_dk okX11_waits 79 rfl) rfl rfl ?_
  obtain ⟨x11, M12, hG, hF⟩ := gj_bnd2d hF
  refine gj_callV (q := 164) (z := 31) (ci := 4) [jI l3] rfl (t_X4_bestWorth hst l3 hG) (gj_dk okX11_waits 80 rfl) ml_X11_220 me_X4_bestWorth (sh31 hst) rfl (gj_nm rfl) rfl (gj_kL fun y S2 M2 h => ?_)
  obtain ⟨e, eS, eM⟩ := h; subst eS; subst eM; subst e; clear hG
  dsimp only
  refine gj_lsub (q := 165) (gj_dk okX11_waits 81 rfl) rfl ?_
  refine gj_l2i (q := 166) (gj_dk okX11_waits 82 rfl) rfl ?_
  cases hF
  exact gj_iret (gj_dk okX11_waits 83 rfl) rfl ⟨_, rfl, rfl, rfl, rfl⟩
set_option maxHeartbeats 4000000 in
set_option maxRecDepth 20000 in
theorem t_X11_waits (hst : gj_Stat S) (a1 a2 a3 : Int) {r : Int × gj_M} (hF : F_X11_waits a1 a2 a3 M = some r) : gj_C G l 18 0 0 yX11_waits cX11_waits 9 (some .int) [jR 0, jI a1, jI a2, jI a3] S M (gj_qI fun x S' M' => r.1 = x ∧ S = S' ∧ r.2 = M') := by
  refine gj_Cof (by decide +kernel) (Nat.le_of_ble_eq_true rfl) ?_
  change gj_W G l 18 0 0 yX11_waits cX11_waits 9 (some .int) (gj_qI fun x S' M' => r.1 = x ∧ S = S' ∧ r.2 = M') 0 0 0 [(0, jR 0), (1, jI a1), (2, jI a2), (3, jI a3)] [] S M
  unfold F_X11_waits at hF
  refine gj_aload_n (q := 1) (gj_dk okX11_waits 0 rfl) rfl rfl ?_
  refine gj_gR (q := 4) (j := 3) (gj_dk okX11_waits 1 rfl) ff_X11_32 (sh0 hst) (by decide) rfl (rf0_3 hst) rfl ?_
  refine gj_iload_n (q := 5) (gj_dk okX11_waits 2 rfl) rfl rfl ?_
  refine gj_callV (q := 8) (z := 14) (ci := 5) [jI a1] rfl (t_X5_slotOf hst a1 rfl) (gj_dk okX11_waits 3 rfl) ml_X11_131 me_X5_slotOf (sh14 hst) rfl (gj_nm rfl) rfl (gj_kI fun x S2 M2 h => ?_)
  obtain ⟨e, eS, eM⟩ := h; subst eS; subst eM; subst e
  refine gj_stpI hF (fun x1 hF => ?_)
  refine gj_istore (q := 10) (gj_dk okX11_waits 4 rfl) (by decide) rfl ?_
  refine gj_aload_n (q := 11) (gj_dk okX11_waits 5 rfl) rfl rfl ?_
  refine gj_gR (q := 14) (j := 3) (gj_dk okX11_waits 6 rfl) ff_X11_32 (sh0 hst) (by decide) rfl (rf0_3 hst) rfl ?_
  refine gj_iload_n (q := 15) (gj_dk okX11_waits 7 rfl) rfl rfl ?_
  refine gj_callV (q := 18) (z := 14) (ci := 5) [jI a2] rfl (t_X5_slotOf hst a2 rfl) (gj_dk okX11_waits 8 rfl) ml_X11_131 me_X5_slotOf (sh14 hst) rfl (gj_nm rfl) rfl (gj_kI fun x S2 M2 h => ?_)
  obtain ⟨e, eS, eM⟩ := h; subst eS; subst eM; subst e
  refine gj_stpI hF (fun x2 hF => ?_)
  refine gj_istore (q := 20) (gj_dk okX11_waits 9 rfl) (by decide) rfl ?_
  refine gj_iload (q := 22) (gj_dk okX11_waits 10 rfl) rfl rfl ?_
  refine gj_iload (q := 24) (gj_dk okX11_waits 11 rfl) rfl rfl ?_
  refine gj_callS (q := 27) [jI x1, jI x2] rfl (c_X10_unlike _ _) (gj_dk okX11_waits 12 rfl) ml_X11_157 me_X10_unlike (gj_nm rfl) rfl (gj_kI fun x S2 M2 h => ?_)
  obtain ⟨e, eS, eM⟩ := h; subst eS; subst eM; subst e
  refine gj_if_eq (q := 30) (tgt := 56) (gj_dk okX11_waits 13 rfl) (by decide) rfl (fun c27 => ?_) (fun c27 => ?_)
  · -- 56
    replace hF := gj_ift c27 hF
    refine gj_ldc (q := 58) (z := -2147483648) (gj_dk okX11_waits 26 rfl) kc_X11_135 (by decide) rfl ?_
    cases hF
    exact gj_iret (gj_dk okX11_waits 27 rfl) rfl ⟨_, rfl, rfl, rfl, rfl⟩
  · -- 30
    replace hF := gj_iff c27 hF
    refine gj_iload_n (q := 31) (gj_dk okX11_waits 14 rfl) rfl rfl ?_
    refine gj_iconst (q := 32) (gj_dk okX11_waits 15 rfl) (by decide) rfl ?_
    refine gj_icmp_lt (q := 35) (tgt := 56) (gj_dk okX11_waits 16 rfl) (by decide) rfl (fun c32 => ?_) (fun c32 => ?_)
    · -- 56
      replace hF := gj_ift c32 hF
      refine gj_ldc (q := 58) (z := -2147483648) (gj_dk okX11_waits 26 rfl) kc_X11_135 (by decide) rfl ?_
      cases hF
      exact gj_iret (gj_dk okX11_waits 27 rfl) rfl ⟨_, rfl, rfl, rfl, rfl⟩
    · -- 35
      replace hF := gj_iff c32 hF
      refine gj_iload_n (q := 36) (gj_dk okX11_waits 17 rfl) rfl rfl ?_
      refine gj_callS (q := 39) [jI a3] rfl (t_X11_canReckon hst a3 rfl) (gj_dk okX11_waits 18 rfl) ml_X11_214 me_X11_canReckon (gj_nm rfl) rfl (gj_kI fun x S2 M2 h => ?_)
      obtain ⟨bz, e, eS, eM⟩ := h; subst eS; subst eM; subst e
      refine gj_stpZ bz hF (fun x3 bx3 hF => ?_)
      refine gj_if_eq (q := 42) (tgt := 56) (gj_dk okX11_waits 19 rfl) (by decide) rfl (fun c39 => ?_) (fun c39 => ?_)
      · -- 56
        replace hF := gj_ift c39 hF
        refine gj_ldc (q := 58) (z := -2147483648) (gj_dk okX11_waits 26 rfl) kc_X11_135 (by decide) rfl ?_
        cases hF
        exact gj_iret (gj_dk okX11_waits 27 rfl) rfl ⟨_, rfl, rfl, rfl, rfl⟩
      · -- 42
        replace hF := gj_iff c39 hF
        refine gj_aload_n (q := 43) (gj_dk okX11_waits 20 rfl) rfl rfl ?_
        refine gj_gR (q := 46) (j := 4) (gj_dk okX11_waits 21 rfl) ff_X11_38 (sh0 hst) (by decide) rfl (rf0_4 hst) rfl ?_
        refine gj_iload (q := 48) (gj_dk okX11_waits 22 rfl) rfl rfl ?_
        refine gj_iload (q := 50) (gj_dk okX11_waits 23 rfl) rfl rfl ?_
        refine gj_callV (q := 53) (z := 21) (ci := 3) [jI x1, jI x2] rfl (t_X3_arePair hst x1 x2 rfl) (gj_dk okX11_waits 24 rfl) ml_X11_177 me_X3_arePair (sh21 hst) rfl (gj_nm rfl) rfl (gj_kI fun x S2 M2 h => ?_)
        obtain ⟨bz, e, eS, eM⟩ := h; subst eS; subst eM; subst e
        refine gj_stpZ bz hF (fun x4 bx4 hF => ?_)
        refine gj_if_eq (q := 56) (tgt := 59) (gj_dk okX11_waits 25 rfl) (by decide) rfl (fun c53 => ?_) (fun c53 => ?_)
        · -- 59
          replace hF := gj_ift c53 hF
          refine gj_aload_n (q := 60) (gj_dk okX11_waits 28 rfl) rfl rfl ?_
          refine gj_gR (q := 63) (j := 4) (gj_dk okX11_waits 29 rfl) ff_X11_38 (sh0 hst) (by decide) rfl (rf0_4 hst) rfl ?_
          refine gj_gR (q := 66) (j := 3) (gj_dk okX11_waits 30 rfl) ff_X11_143 (sh21 hst) (by decide) rfl (rf21_3 hst) rfl ?_
          refine gj_iload (q := 68) (gj_dk okX11_waits 31 rfl) rfl rfl ?_
          refine gj_callS (q := 71) [jR 22, jI x1] rfl (c_X7_at (sh22 hst) (by decide) (by decide) _) (gj_dk okX11_waits 32 rfl) ml_X11_139 me_X7_at (gj_nm rfl) rfl (gj_kI fun x S2 M2 h => ?_)
          obtain ⟨e, eS, eM⟩ := h; subst eS; subst eM; subst e
          refine gj_iconst (q := 72) (gj_dk okX11_waits 33 rfl) (by decide) rfl ?_
          refine gj_icmp_ne (q := 75) (tgt := 79) (gj_dk okX11_waits 34 rfl) (by decide) rfl (fun c72 => ?_) (fun c72 => ?_)
          · -- 79
            replace hF := gj_iff c72 hF
            refine gj_aload_n (q := 80) (gj_dk okX11_waits 37 rfl) rfl rfl ?_
            refine gj_gR (q := 83) (j := 3) (gj_dk okX11_waits 38 rfl) ff_X11_32 (sh0 hst) (by decide) rfl (rf0_3 hst) rfl ?_
            refine gj_gI (q := 86) (j := 8) (gj_dk okX11_waits 39 rfl) ff_X11_246 (sh14 hst) (by decide) rfl rfl ?_
            refine gj_sub [(0, jR 0), (3, jI a3), (4, jI x1), (5, jI x2)] ⟨rfl, rfl, rfl, rfl, trivial⟩ ?_
            exact t_J_X11_waits_86 hst a3 x1 x2 (M 14 8) M hF
          · -- 75
            replace hF := gj_ift c72 hF
            refine gj_iconst (q := 76) (gj_dk okX11_waits 35 rfl) (by decide) rfl ?_
            refine gj_goto (tgt := 86) (gj_dk okX11_waits 36 rfl) (by decide) ?_
            refine gj_sub [(0, jR 0), (3, jI a3), (4, jI x1), (5, jI x2)] ⟨rfl, rfl, rfl, rfl, trivial⟩ ?_
            exact t_J_X11_waits_86 hst a3 x1 x2 0 M hF
        · -- 56
          replace hF := gj_iff c53 hF
          refine gj_ldc (q := 58) (z := -2147483648) (gj_dk okX11_waits 26 rfl) kc_X11_135 (by decide) rfl ?_
          cases hF
          exact gj_iret (gj_dk okX11_waits 27 rfl) rfl ⟨_, rfl, rfl, rfl, rfl⟩
def f_X11_way (a1 : Int) (M : gj_M) : Int × gj_M :=
  (if a1 < 0 then gj_let2 (f_X11_refuse 0 M) (fun x1 M2 => ((x1, M2))) else (if a1 ≤ 3 then gj_let (gj_up M 21 1 a1) (fun M3 => ((1, M3))) else gj_let2 (f_X11_refuse 0 M) (fun x4 M5 => ((x4, M5)))))
set_option maxHeartbeats 4000000 in
set_option maxRecDepth 20000 in
theorem t_X11_way (hst : gj_Stat S) (a1 : Int) {r : Int × gj_M} (hF : f_X11_way a1 M = r) : gj_C G l 3 0 0 yX11_way cX11_way 2 (some .boolean) [jR 0, jI a1] S M (gj_qI fun x S' M' => (x = 0 ∨ x = 1) ∧ r.1 = x ∧ S = S' ∧ r.2 = M') := by
  refine gj_Cof (by decide +kernel) (Nat.le_of_ble_eq_true rfl) ?_
  change gj_W G l 3 0 0 yX11_way cX11_way 2 (some .boolean) (gj_qI fun x S' M' => (x = 0 ∨ x = 1) ∧ r.1 = x ∧ S = S' ∧ r.2 = M') 0 0 0 [(0, jR 0), (1, jI a1)] [] S M
  unfold f_X11_way at hF
  refine gj_iload_n (q := 1) (gj_dk okX11_way 0 rfl) rfl rfl ?_
  refine gj_if_lt (q := 4) (tgt := 9) (gj_dk okX11_way 1 rfl) (by decide) rfl (fun c1 => ?_) (fun c1 => ?_)
  · -- 9
    replace hF := gj_ift c1 hF
    refine gj_aload_n (q := 10) (gj_dk okX11_way 5 rfl) rfl rfl ?_
    refine gj_iconst (q := 11) (gj_dk okX11_way 6 rfl) (by decide) rfl ?_
    refine gj_callV (q := 14) (z := 0) (ci := 9) [jI 0] rfl (t_X11_refuse hst 0 rfl) (gj_dk okX11_way 7 rfl) ml_X11_92 me_X11_refuse (sh0 hst) rfl (gj_nm rfl) rfl (gj_kI fun x S2 M2 h => ?_)
    obtain ⟨bz, e, eS, eM⟩ := h; subst eS; subst eM; subst e
    refine gj_stp2Z bz hF (fun x1 M2 bx1 hF => ?_)
    subst hF
    exact gj_zret (gj_dk okX11_way 8 rfl) rfl bx1 ⟨_, rfl, bx1, rfl, rfl, rfl⟩
  · -- 4
    replace hF := gj_iff c1 hF
    refine gj_iload_n (q := 5) (gj_dk okX11_way 2 rfl) rfl rfl ?_
    refine gj_iconst (q := 6) (gj_dk okX11_way 3 rfl) (by decide) rfl ?_
    refine gj_icmp_le (q := 9) (tgt := 15) (gj_dk okX11_way 4 rfl) (by decide) rfl (fun c6 => ?_) (fun c6 => ?_)
    · -- 15
      replace hF := gj_ift c6 hF
      refine gj_aload_n (q := 16) (gj_dk okX11_way 9 rfl) rfl rfl ?_
      refine gj_gR (q := 19) (j := 4) (gj_dk okX11_way 10 rfl) ff_X11_38 (sh0 hst) (by decide) rfl (rf0_4 hst) rfl ?_
      refine gj_iload_n (q := 20) (gj_dk okX11_way 11 rfl) rfl rfl ?_
      refine gj_pfI (q := 23) (j := 1) (gj_dk okX11_way 12 rfl) ff_X11_254 (sh21 hst) (by decide) rfl rfl ?_
      refine gj_stp hF (fun M3 hF => ?_)
      refine gj_iconst (q := 24) (gj_dk okX11_way 13 rfl) (by decide) rfl ?_
      subst hF
      exact gj_zret (gj_dk okX11_way 14 rfl) rfl (by decide) ⟨_, rfl, (by decide), rfl, rfl, rfl⟩
    · -- 9
      replace hF := gj_iff c6 hF
      refine gj_aload_n (q := 10) (gj_dk okX11_way 5 rfl) rfl rfl ?_
      refine gj_iconst (q := 11) (gj_dk okX11_way 6 rfl) (by decide) rfl ?_
      refine gj_callV (q := 14) (z := 0) (ci := 9) [jI 0] rfl (t_X11_refuse hst 0 rfl) (gj_dk okX11_way 7 rfl) ml_X11_92 me_X11_refuse (sh0 hst) rfl (gj_nm rfl) rfl (gj_kI fun x S2 M2 h => ?_)
      obtain ⟨bz, e, eS, eM⟩ := h; subst eS; subst eM; subst e
      refine gj_stp2Z bz hF (fun x4 M5 bx4 hF => ?_)
      subst hF
      exact gj_zret (gj_dk okX11_way 8 rfl) rfl bx4 ⟨_, rfl, bx4, rfl, rfl, rfl⟩
def f_X11_seed (a1 : Int) (M : gj_M) : Int × gj_M :=
  (if a1 < 0 then gj_let2 (f_X11_refuse 2 M) (fun x1 M2 => ((x1, M2))) else (if a1 ≤ 1000000 then gj_let (gj_up M 21 2 a1) (fun M3 => ((1, M3))) else gj_let2 (f_X11_refuse 2 M) (fun x4 M5 => ((x4, M5)))))
set_option maxHeartbeats 4000000 in
set_option maxRecDepth 20000 in
theorem t_X11_seed (hst : gj_Stat S) (a1 : Int) {r : Int × gj_M} (hF : f_X11_seed a1 M = r) : gj_C G l 3 0 0 yX11_seed cX11_seed 2 (some .boolean) [jR 0, jI a1] S M (gj_qI fun x S' M' => (x = 0 ∨ x = 1) ∧ r.1 = x ∧ S = S' ∧ r.2 = M') := by
  refine gj_Cof (by decide +kernel) (Nat.le_of_ble_eq_true rfl) ?_
  change gj_W G l 3 0 0 yX11_seed cX11_seed 2 (some .boolean) (gj_qI fun x S' M' => (x = 0 ∨ x = 1) ∧ r.1 = x ∧ S = S' ∧ r.2 = M') 0 0 0 [(0, jR 0), (1, jI a1)] [] S M
  unfold f_X11_seed at hF
  refine gj_iload_n (q := 1) (gj_dk okX11_seed 0 rfl) rfl rfl ?_
  refine gj_if_lt (q := 4) (tgt := 11) (gj_dk okX11_seed 1 rfl) (by decide) rfl (fun c1 => ?_) (fun c1 => ?_)
  · -- 11
    replace hF := gj_ift c1 hF
    refine gj_aload_n (q := 12) (gj_dk okX11_seed 5 rfl) rfl rfl ?_
    refine gj_iconst (q := 13) (gj_dk okX11_seed 6 rfl) (by decide) rfl ?_
    refine gj_callV (q := 16) (z := 0) (ci := 9) [jI 2] rfl (t_X11_refuse hst 2 rfl) (gj_dk okX11_seed 7 rfl) ml_X11_92 me_X11_refuse (sh0 hst) rfl (gj_nm rfl) rfl (gj_kI fun x S2 M2 h => ?_)
    obtain ⟨bz, e, eS, eM⟩ := h; subst eS; subst eM; subst e
    refine gj_stp2Z bz hF (fun x1 M2 bx1 hF => ?_)
    subst hF
    exact gj_zret (gj_dk okX11_seed 8 rfl) rfl bx1 ⟨_, rfl, bx1, rfl, rfl, rfl⟩
  · -- 4
    replace hF := gj_iff c1 hF
    refine gj_iload_n (q := 5) (gj_dk okX11_seed 2 rfl) rfl rfl ?_
    refine gj_ldcw (q := 8) (z := 1000000) (gj_dk okX11_seed 3 rfl) kc_X11_257 (by decide) rfl ?_
    refine gj_icmp_le (q := 11) (tgt := 17) (gj_dk okX11_seed 4 rfl) (by decide) rfl (fun c8 => ?_) (fun c8 => ?_)
    · -- 17
      replace hF := gj_ift c8 hF
      refine gj_aload_n (q := 18) (gj_dk okX11_seed 9 rfl) rfl rfl ?_
      refine gj_gR (q := 21) (j := 4) (gj_dk okX11_seed 10 rfl) ff_X11_38 (sh0 hst) (by decide) rfl (rf0_4 hst) rfl ?_
      refine gj_iload_n (q := 22) (gj_dk okX11_seed 11 rfl) rfl rfl ?_
      refine gj_pfI (q := 25) (j := 2) (gj_dk okX11_seed 12 rfl) ff_X11_258 (sh21 hst) (by decide) rfl rfl ?_
      refine gj_stp hF (fun M3 hF => ?_)
      refine gj_iconst (q := 26) (gj_dk okX11_seed 13 rfl) (by decide) rfl ?_
      subst hF
      exact gj_zret (gj_dk okX11_seed 14 rfl) rfl (by decide) ⟨_, rfl, (by decide), rfl, rfl, rfl⟩
    · -- 11
      replace hF := gj_iff c8 hF
      refine gj_aload_n (q := 12) (gj_dk okX11_seed 5 rfl) rfl rfl ?_
      refine gj_iconst (q := 13) (gj_dk okX11_seed 6 rfl) (by decide) rfl ?_
      refine gj_callV (q := 16) (z := 0) (ci := 9) [jI 2] rfl (t_X11_refuse hst 2 rfl) (gj_dk okX11_seed 7 rfl) ml_X11_92 me_X11_refuse (sh0 hst) rfl (gj_nm rfl) rfl (gj_kI fun x S2 M2 h => ?_)
      obtain ⟨bz, e, eS, eM⟩ := h; subst eS; subst eM; subst e
      refine gj_stp2Z bz hF (fun x4 M5 bx4 hF => ?_)
      subst hF
      exact gj_zret (gj_dk okX11_seed 8 rfl) rfl bx4 ⟨_, rfl, bx4, rfl, rfl, rfl⟩
def J_X2_gather_58 (rec2 : Int → Int → gj_M → Option (gj_M)) (l1 l2 s1 s2 : Int) (M : gj_M) : Option (gj_M) :=
  gj_chk (s2 = 0 ∨ s2 = 1) (gj_let (f_put M 38 8 s1 s2) (fun M3 => rec2 l1 (gj_w (l2 + 1)) M3))
def J_X2_gather_32 (rec2 : Int → Int → gj_M → Option (gj_M)) (l1 l2 s0 : Int) (M : gj_M) : Option (gj_M) :=
  (if s0 = 0 then (J_X2_gather_58 rec2 l1 l2 l2 0 M) else gj_letI (f_X5_isPerson_14 l2 M) (fun x1 => (if x1 = 0 then (J_X2_gather_58 rec2 l1 l2 l2 0 M) else (J_X2_gather_58 rec2 l1 l2 l2 1 M))))
def B_X2_gather_2 (rec2 : Int → Int → gj_M → Option (gj_M)) (l1 l2 : Int) (M : gj_M) : Option (gj_M) :=
  (if 8 ≤ l2 then (some (M)) else (if l1 = 0 then (if f_at M 22 8 l2 = -1 then (J_X2_gather_32 rec2 l1 l2 1 M) else (J_X2_gather_32 rec2 l1 l2 0 M)) else (J_X2_gather_32 rec2 l1 l2 1 M)))
def F_X2_gather (a1 : Int) (M : gj_M) : Option (gj_M) :=
  (gj_it (fun _ _ _ => none) (B_X2_gather_2) gj_fu a1 0 M)
set_option maxHeartbeats 4000000 in
set_option maxRecDepth 20000 in
theorem t_J_X2_gather_58 (hst : gj_Stat S) {r : gj_M} {rec2 : Int → Int → gj_M → Option (gj_M)} (hrec2 : ∀ (l1 l2 : Int) (M : gj_M), rec2 l1 l2 M = some r → gj_W G l 2 0 0 yX2_gather cX2_gather 4 none (gj_qV fun S' M' => S = S' ∧ r = M') 0 0 2 [(0, jR 35), (1, jI l1), (2, jI l2)] [] S M) (l1 l2 s1 s2 : Int) (M : gj_M) (hF : J_X2_gather_58 rec2 l1 l2 s1 s2 M = some r) : gj_W G l 2 0 0 yX2_gather cX2_gather 4 none (gj_qV fun S' M' => S = S' ∧ r = M') 0 0 58 [(0, jR 35), (1, jI l1), (2, jI l2)] [jI s2, jI s1, jR 38] S M := by
  unfold J_X2_gather_58 at hF
  obtain ⟨b2, hF⟩ := gj_ckd hF
  refine gj_callS (q := 61) [jR 38, jI s1, jI s2] rfl (c_X7_mark (sh38 hst) (by decide) (by decide) _ _ b2) (gj_dk okX2_gather 31 rfl) ml_X2_51 me_X7_mark (gj_nm rfl) rfl (gj_kV fun S2 M2 h => ?_)
  obtain ⟨eS, eM⟩ := h; subst eS; subst eM
  refine gj_stp hF (fun M3 hF => ?_)
  refine gj_iinc (q := 64) (v := gj_w (l2 + 1)) (gj_dk okX2_gather 32 rfl) rfl (by decide) rfl rfl ?_
  refine gj_goto (tgt := 2) (gj_dk okX2_gather 33 rfl) (by decide) ?_
  refine gj_sub [(0, jR 35), (1, jI l1), (2, jI (gj_w (l2 + 1)))] ⟨rfl, rfl, rfl, trivial⟩ ?_
  exact hrec2 l1 (gj_w (l2 + 1)) M3 hF
set_option maxHeartbeats 4000000 in
set_option maxRecDepth 20000 in
theorem t_J_X2_gather_32 (hst : gj_Stat S) {r : gj_M} {rec2 : Int → Int → gj_M → Option (gj_M)} (hrec2 : ∀ (l1 l2 : Int) (M : gj_M), rec2 l1 l2 M = some r → gj_W G l 2 0 0 yX2_gather cX2_gather 4 none (gj_qV fun S' M' => S = S' ∧ r = M') 0 0 2 [(0, jR 35), (1, jI l1), (2, jI l2)] [] S M) (l1 l2 s0 : Int) (M : gj_M) (hF : J_X2_gather_32 rec2 l1 l2 s0 M = some r) : gj_W G l 2 0 0 yX2_gather cX2_gather 4 none (gj_qV fun S' M' => S = S' ∧ r = M') 0 0 32 [(0, jR 35), (1, jI l1), (2, jI l2)] [jI s0] S M := by
  unfold J_X2_gather_32 at hF
  refine gj_istore_n (q := 33) (gj_dk okX2_gather 17 rfl) (by decide) rfl ?_
  refine gj_aload_n (q := 34) (gj_dk okX2_gather 18 rfl) rfl rfl ?_
  refine gj_gR (q := 37) (j := 4) (gj_dk okX2_gather 19 rfl) ff_X2_19 (sh35 hst) (by decide) rfl (rf35_4 hst) rfl ?_
  refine gj_iload_n (q := 38) (gj_dk okX2_gather 20 rfl) rfl rfl ?_
  refine gj_iload_n (q := 39) (gj_dk okX2_gather 21 rfl) rfl rfl ?_
  refine gj_if_eq (q := 42) (tgt := 57) (gj_dk okX2_gather 22 rfl) (by decide) rfl (fun c39 => ?_) (fun c39 => ?_)
  · -- 57
    replace hF := gj_ift c39 hF
    refine gj_iconst (q := 58) (gj_dk okX2_gather 30 rfl) (by decide) rfl ?_
    refine gj_sub [(0, jR 35), (1, jI l1), (2, jI l2)] ⟨rfl, rfl, rfl, trivial⟩ ?_
    exact t_J_X2_gather_58 hst hrec2 l1 l2 l2 0 M hF
  · -- 42
    replace hF := gj_iff c39 hF
    refine gj_aload_n (q := 43) (gj_dk okX2_gather 23 rfl) rfl rfl ?_
    refine gj_gR (q := 46) (j := 0) (gj_dk okX2_gather 24 rfl) ff_X2_28 (sh35 hst) (by decide) rfl (rf35_0 hst) rfl ?_
    refine gj_iload_n (q := 47) (gj_dk okX2_gather 25 rfl) rfl rfl ?_
    refine gj_callV (q := 50) (z := 14) (ci := 5) [jI l2] rfl (t_X5_isPerson_14 hst l2 rfl) (gj_dk okX2_gather 26 rfl) ml_X2_45 me_X5_isPerson (sh14 hst) rfl (gj_nm rfl) rfl (gj_kI fun x S2 M2 h => ?_)
    obtain ⟨bz, e, eS, eM⟩ := h; subst eS; subst eM; subst e
    refine gj_stpZ bz hF (fun x1 bx1 hF => ?_)
    refine gj_if_eq (q := 53) (tgt := 57) (gj_dk okX2_gather 27 rfl) (by decide) rfl (fun c50 => ?_) (fun c50 => ?_)
    · -- 57
      replace hF := gj_ift c50 hF
      refine gj_iconst (q := 58) (gj_dk okX2_gather 30 rfl) (by decide) rfl ?_
      refine gj_sub [(0, jR 35), (1, jI l1), (2, jI l2)] ⟨rfl, rfl, rfl, trivial⟩ ?_
      exact t_J_X2_gather_58 hst hrec2 l1 l2 l2 0 M hF
    · -- 53
      replace hF := gj_iff c50 hF
      refine gj_iconst (q := 54) (gj_dk okX2_gather 28 rfl) (by decide) rfl ?_
      refine gj_goto (tgt := 58) (gj_dk okX2_gather 29 rfl) (by decide) ?_
      refine gj_sub [(0, jR 35), (1, jI l1), (2, jI l2)] ⟨rfl, rfl, rfl, trivial⟩ ?_
      exact t_J_X2_gather_58 hst hrec2 l1 l2 l2 1 M hF
set_option maxHeartbeats 4000000 in
set_option maxRecDepth 20000 in
theorem t_B_X2_gather_2 (hst : gj_Stat S) {r : gj_M} {rec2 : Int → Int → gj_M → Option (gj_M)} (hrec2 : ∀ (l1 l2 : Int) (M : gj_M), rec2 l1 l2 M = some r → gj_W G l 2 0 0 yX2_gather cX2_gather 4 none (gj_qV fun S' M' => S = S' ∧ r = M') 0 0 2 [(0, jR 35), (1, jI l1), (2, jI l2)] [] S M) (l1 l2 : Int) (M : gj_M) (hF : B_X2_gather_2 rec2 l1 l2 M = some r) : gj_W G l 2 0 0 yX2_gather cX2_gather 4 none (gj_qV fun S' M' => S = S' ∧ r = M') 0 0 2 [(0, jR 35), (1, jI l1), (2, jI l2)] [] S M := by
  unfold B_X2_gather_2 at hF
  refine gj_iload_n (q := 3) (gj_dk okX2_gather 2 rfl) rfl rfl ?_
  refine gj_bipush (q := 5) (gj_dk okX2_gather 3 rfl) (by decide) rfl rfl ?_
  refine gj_icmp_ge (q := 8) (tgt := 67) (gj_dk okX2_gather 4 rfl) (by decide) rfl (fun c5 => ?_) (fun c5 => ?_)
  · -- 67
    replace hF := gj_ift c5 hF
    cases hF
    exact gj_vret (gj_dk okX2_gather 34 rfl) rfl ⟨rfl, rfl, rfl⟩
  · -- 8
    replace hF := gj_iff c5 hF
    refine gj_iload_n (q := 9) (gj_dk okX2_gather 5 rfl) rfl rfl ?_
    refine gj_if_ne (q := 12) (tgt := 27) (gj_dk okX2_gather 6 rfl) (by decide) rfl (fun c9 => ?_) (fun c9 => ?_)
    · -- 27
      replace hF := gj_iff c9 hF
      refine gj_iconst (q := 28) (gj_dk okX2_gather 14 rfl) (by decide) rfl ?_
      refine gj_goto (tgt := 32) (gj_dk okX2_gather 15 rfl) (by decide) ?_
      refine gj_sub [(0, jR 35), (1, jI l1), (2, jI l2)] ⟨rfl, rfl, rfl, trivial⟩ ?_
      exact t_J_X2_gather_32 hst hrec2 l1 l2 1 M hF
    · -- 12
      replace hF := gj_ift c9 hF
      refine gj_aload_n (q := 13) (gj_dk okX2_gather 7 rfl) rfl rfl ?_
      refine gj_gR (q := 16) (j := 1) (gj_dk okX2_gather 8 rfl) ff_X2_32 (sh35 hst) (by decide) rfl (rf35_1 hst) rfl ?_
      refine gj_gR (q := 19) (j := 3) (gj_dk okX2_gather 9 rfl) ff_X2_36 (sh21 hst) (by decide) rfl (rf21_3 hst) rfl ?_
      refine gj_iload_n (q := 20) (gj_dk okX2_gather 10 rfl) rfl rfl ?_
      refine gj_callS (q := 23) [jR 22, jI l2] rfl (c_X7_at (sh22 hst) (by decide) (by decide) _) (gj_dk okX2_gather 11 rfl) ml_X2_39 me_X7_at (gj_nm rfl) rfl (gj_kI fun x S2 M2 h => ?_)
      obtain ⟨e, eS, eM⟩ := h; subst eS; subst eM; subst e
      refine gj_iconst (q := 24) (gj_dk okX2_gather 12 rfl) (by decide) rfl ?_
      refine gj_icmp_ne (q := 27) (tgt := 31) (gj_dk okX2_gather 13 rfl) (by decide) rfl (fun c24 => ?_) (fun c24 => ?_)
      · -- 31
        replace hF := gj_iff c24 hF
        refine gj_iconst (q := 32) (gj_dk okX2_gather 16 rfl) (by decide) rfl ?_
        refine gj_sub [(0, jR 35), (1, jI l1), (2, jI l2)] ⟨rfl, rfl, rfl, trivial⟩ ?_
        exact t_J_X2_gather_32 hst hrec2 l1 l2 0 M hF
      · -- 27
        replace hF := gj_ift c24 hF
        refine gj_iconst (q := 28) (gj_dk okX2_gather 14 rfl) (by decide) rfl ?_
        refine gj_goto (tgt := 32) (gj_dk okX2_gather 15 rfl) (by decide) ?_
        refine gj_sub [(0, jR 35), (1, jI l1), (2, jI l2)] ⟨rfl, rfl, rfl, trivial⟩ ?_
        exact t_J_X2_gather_32 hst hrec2 l1 l2 1 M hF
theorem t_L_X2_gather_2 (hst : gj_Stat S) {r : gj_M} : ∀ (m : Nat) (l1 : Int) (l2 : Int) (M : gj_M), gj_it (fun _ _ _ => none) (B_X2_gather_2) m l1 l2 M = some r → gj_W G l 2 0 0 yX2_gather cX2_gather 4 none (gj_qV fun S' M' => S = S' ∧ r = M') 0 0 2 [(0, jR 35), (1, jI l1), (2, jI l2)] [] S M := by
  intro m
  induction m with
  | zero => intro l1 l2 M hF; cases (show (none : Option (gj_M)) = some r from hF)
  | succ m ih => intro l1 l2 M hF; exact t_B_X2_gather_2 hst (fun l1 l2 M h => ih l1 l2 M h) l1 l2 M hF
set_option maxHeartbeats 4000000 in
set_option maxRecDepth 20000 in
theorem t_X2_gather (hst : gj_Stat S) (a1 : Int) {r : gj_M} (hF : F_X2_gather a1 M = some r) : gj_C G l 2 0 0 yX2_gather cX2_gather 4 none [jR 35, jI a1] S M (gj_qV fun S' M' => S = S' ∧ r = M') := by
  refine gj_Cof (by decide +kernel) (Nat.le_of_ble_eq_true rfl) ?_
  change gj_W G l 2 0 0 yX2_gather cX2_gather 4 none (gj_qV fun S' M' => S = S' ∧ r = M') 0 0 0 [(0, jR 35), (1, jI a1)] [] S M
  unfold F_X2_gather at hF
  refine gj_iconst (q := 1) (gj_dk okX2_gather 0 rfl) (by decide) rfl ?_
  refine gj_istore_n (q := 2) (gj_dk okX2_gather 1 rfl) (by decide) rfl ?_
  refine gj_sub [(0, jR 35), (1, jI a1), (2, jI 0)] ⟨rfl, rfl, rfl, trivial⟩ ?_
  exact t_L_X2_gather_2 hst gj_fu a1 0 M hF
def f_X2_canMeet (a1 : Int) (a2 : Int) (M : gj_M) : Int :=
  (if f_at M 38 8 a1 = 0 then (0) else (if f_at M 38 8 a2 = 0 then (0) else (if f_at M 37 16 (f_cpl a1 a2) = 0 then (0) else (1))))
set_option maxHeartbeats 4000000 in
set_option maxRecDepth 20000 in
theorem t_X2_canMeet (hst : gj_Stat S) (a1 a2 : Int) {r : Int} (hF : f_X2_canMeet a1 a2 M = r) : gj_C G l 2 0 0 yX2_canMeet cX2_canMeet 3 (some .boolean) [jR 35, jI a1, jI a2] S M (gj_qI fun x S' M' => (x = 0 ∨ x = 1) ∧ r = x ∧ S = S' ∧ M = M') := by
  refine gj_Cof (by decide +kernel) (Nat.le_of_ble_eq_true rfl) ?_
  change gj_W G l 2 0 0 yX2_canMeet cX2_canMeet 3 (some .boolean) (gj_qI fun x S' M' => (x = 0 ∨ x = 1) ∧ r = x ∧ S = S' ∧ M = M') 0 0 0 [(0, jR 35), (1, jI a1), (2, jI a2)] [] S M
  unfold f_X2_canMeet at hF
  refine gj_aload_n (q := 1) (gj_dk okX2_canMeet 0 rfl) rfl rfl ?_
  refine gj_gR (q := 4) (j := 4) (gj_dk okX2_canMeet 1 rfl) ff_X2_19 (sh35 hst) (by decide) rfl (rf35_4 hst) rfl ?_
  refine gj_iload_n (q := 5) (gj_dk okX2_canMeet 2 rfl) rfl rfl ?_
  refine gj_callS (q := 8) [jR 38, jI a1] rfl (c_X7_is (sh38 hst) (by decide) (by decide) _) (gj_dk okX2_canMeet 3 rfl) ml_X2_97 me_X7_is (gj_nm rfl) rfl (gj_kI fun x S2 M2 h => ?_)
  obtain ⟨e, eS, eM⟩ := h; subst eS; subst eM; subst e
  refine gj_if_eq (q := 11) (tgt := 41) (gj_dk okX2_canMeet 4 rfl) (by decide) rfl (fun c8 => ?_) (fun c8 => ?_)
  · -- 41
    replace hF := gj_ift c8 hF
    refine gj_iconst (q := 42) (gj_dk okX2_canMeet 19 rfl) (by decide) rfl ?_
    subst hF
    exact gj_zret (gj_dk okX2_canMeet 20 rfl) rfl (by decide) ⟨_, rfl, (by decide), rfl, rfl, rfl⟩
  · -- 11
    replace hF := gj_iff c8 hF
    refine gj_aload_n (q := 12) (gj_dk okX2_canMeet 5 rfl) rfl rfl ?_
    refine gj_gR (q := 15) (j := 4) (gj_dk okX2_canMeet 6 rfl) ff_X2_19 (sh35 hst) (by decide) rfl (rf35_4 hst) rfl ?_
    refine gj_iload_n (q := 16) (gj_dk okX2_canMeet 7 rfl) rfl rfl ?_
    refine gj_callS (q := 19) [jR 38, jI a2] rfl (c_X7_is (sh38 hst) (by decide) (by decide) _) (gj_dk okX2_canMeet 8 rfl) ml_X2_97 me_X7_is (gj_nm rfl) rfl (gj_kI fun x S2 M2 h => ?_)
    obtain ⟨e, eS, eM⟩ := h; subst eS; subst eM; subst e
    refine gj_if_eq (q := 22) (tgt := 41) (gj_dk okX2_canMeet 9 rfl) (by decide) rfl (fun c19 => ?_) (fun c19 => ?_)
    · -- 41
      replace hF := gj_ift c19 hF
      refine gj_iconst (q := 42) (gj_dk okX2_canMeet 19 rfl) (by decide) rfl ?_
      subst hF
      exact gj_zret (gj_dk okX2_canMeet 20 rfl) rfl (by decide) ⟨_, rfl, (by decide), rfl, rfl, rfl⟩
    · -- 22
      replace hF := gj_iff c19 hF
      refine gj_aload_n (q := 23) (gj_dk okX2_canMeet 10 rfl) rfl rfl ?_
      refine gj_gR (q := 26) (j := 3) (gj_dk okX2_canMeet 11 rfl) ff_X2_15 (sh35 hst) (by decide) rfl (rf35_3 hst) rfl ?_
      refine gj_iload_n (q := 27) (gj_dk okX2_canMeet 12 rfl) rfl rfl ?_
      refine gj_iload_n (q := 28) (gj_dk okX2_canMeet 13 rfl) rfl rfl ?_
      refine gj_callS (q := 31) [jI a1, jI a2] rfl (c_X10_couple _ _) (gj_dk okX2_canMeet 14 rfl) ml_X2_69 me_X10_couple (gj_nm rfl) rfl (gj_kI fun x S2 M2 h => ?_)
      obtain ⟨e, eS, eM⟩ := h; subst eS; subst eM; subst e
      refine gj_callS (q := 34) [jR 37, jI (f_cpl a1 a2)] rfl (c_X7_is (sh37 hst) (by decide) (by decide) _) (gj_dk okX2_canMeet 15 rfl) ml_X2_97 me_X7_is (gj_nm rfl) rfl (gj_kI fun x S2 M2 h => ?_)
      obtain ⟨e, eS, eM⟩ := h; subst eS; subst eM; subst e
      refine gj_if_eq (q := 37) (tgt := 41) (gj_dk okX2_canMeet 16 rfl) (by decide) rfl (fun c34 => ?_) (fun c34 => ?_)
      · -- 41
        replace hF := gj_ift c34 hF
        refine gj_iconst (q := 42) (gj_dk okX2_canMeet 19 rfl) (by decide) rfl ?_
        subst hF
        exact gj_zret (gj_dk okX2_canMeet 20 rfl) rfl (by decide) ⟨_, rfl, (by decide), rfl, rfl, rfl⟩
      · -- 37
        replace hF := gj_iff c34 hF
        refine gj_iconst (q := 38) (gj_dk okX2_canMeet 17 rfl) (by decide) rfl ?_
        refine gj_goto (tgt := 42) (gj_dk okX2_canMeet 18 rfl) (by decide) ?_
        subst hF
        exact gj_zret (gj_dk okX2_canMeet 20 rfl) rfl (by decide) ⟨_, rfl, (by decide), rfl, rfl, rfl⟩
def J_X2_soonestToAsk_73 (M : gj_M) (rec4 : Int → Int → Int → Option (Int)) (l1 l2 l3 : Int) : Option (Int) :=
  rec4 l1 l2 (gj_w (l3 + 1))
def J_X2_soonestToAsk_47 (M : gj_M) (rec4 : Int → Int → Int → Option (Int)) (l1 l2 l3 l4 s0 : Int) : Option (Int) :=
  (if s0 = 0 then (J_X2_soonestToAsk_73 M rec4 l1 l2 l3) else (if l2 = -1 then (J_X2_soonestToAsk_73 M rec4 l1 l4 l3) else gj_letI (f_X2_soonerOf l1 l4 l2 M) (fun x2 => (if x2 = 0 then (J_X2_soonestToAsk_73 M rec4 l1 l2 l3) else (J_X2_soonestToAsk_73 M rec4 l1 l4 l3)))))
def B_X2_soonestToAsk_4 (M : gj_M) (rec4 : Int → Int → Int → Option (Int)) (l1 l2 l3 : Int) : Option (Int) :=
  (if 4 ≤ l3 then (some (l2)) else gj_letI (f_X2_canMeet l1 (f_fac l1 l3) M) (fun x1 => (if x1 = 0 then (J_X2_soonestToAsk_47 M rec4 l1 l2 l3 (f_fac l1 l3) 0) else (if f_at M 39 16 (f_cpl l1 (f_fac l1 l3)) = 0 then (J_X2_soonestToAsk_47 M rec4 l1 l2 l3 (f_fac l1 l3) 1) else (J_X2_soonestToAsk_47 M rec4 l1 l2 l3 (f_fac l1 l3) 0)))))
def F_X2_soonestToAsk (a1 : Int) (M : gj_M) : Option (Int) :=
  (gj_it (fun _ _ _ => none) (B_X2_soonestToAsk_4 M) gj_fu a1 (-1) 0)
set_option maxHeartbeats 4000000 in
set_option maxRecDepth 20000 in
theorem t_J_X2_soonestToAsk_73 (hst : gj_Stat S) {r : Int} {rec4 : Int → Int → Int → Option (Int)} (hrec4 : ∀ (l1 l2 l3 : Int), rec4 l1 l2 l3 = some r → gj_W G l 4 0 0 yX2_soonestToAsk cX2_soonestToAsk 6 (some .int) (gj_qI fun x S' M' => r = x ∧ S = S' ∧ M = M') 0 0 4 [(0, jR 35), (1, jI l1), (2, jI l2), (3, jI l3)] [] S M) (l1 l2 l3 : Int) (hF : J_X2_soonestToAsk_73 M rec4 l1 l2 l3 = some r) : gj_W G l 4 0 0 yX2_soonestToAsk cX2_soonestToAsk 6 (some .int) (gj_qI fun x S' M' => r = x ∧ S = S' ∧ M = M') 0 0 73 [(0, jR 35), (1, jI l1), (2, jI l2), (3, jI l3)] [] S M := by
  unfold J_X2_soonestToAsk_73 at hF
  refine gj_iinc (q := 76) (v := gj_w (l3 + 1)) (gj_dk okX2_soonestToAsk 40 rfl) rfl (by decide) rfl rfl ?_
  refine gj_goto (tgt := 4) (gj_dk okX2_soonestToAsk 41 rfl) (by decide) ?_
  refine gj_sub [(0, jR 35), (1, jI l1), (2, jI l2), (3, jI (gj_w (l3 + 1)))] ⟨rfl, rfl, rfl, rfl, trivial⟩ ?_
  exact hrec4 l1 l2 (gj_w (l3 + 1)) hF
set_option maxHeartbeats 4000000 in
set_option maxRecDepth 20000 in
theorem t_J_X2_soonestToAsk_47 (hst : gj_Stat S) {r : Int} {rec4 : Int → Int → Int → Option (Int)} (hrec4 : ∀ (l1 l2 l3 : Int), rec4 l1 l2 l3 = some r → gj_W G l 4 0 0 yX2_soonestToAsk cX2_soonestToAsk 6 (some .int) (gj_qI fun x S' M' => r = x ∧ S = S' ∧ M = M') 0 0 4 [(0, jR 35), (1, jI l1), (2, jI l2), (3, jI l3)] [] S M) (l1 l2 l3 l4 s0 : Int) (hF : J_X2_soonestToAsk_47 M rec4 l1 l2 l3 l4 s0 = some r) : gj_W G l 4 0 0 yX2_soonestToAsk cX2_soonestToAsk 6 (some .int) (gj_qI fun x S' M' => r = x ∧ S = S' ∧ M = M') 0 0 47 [(0, jR 35), (1, jI l1), (2, jI l2), (3, jI l3), (4, jI l4)] [jI s0] S M := by
  unfold J_X2_soonestToAsk_47 at hF
  refine gj_istore (q := 49) (gj_dk okX2_soonestToAsk 26 rfl) (by decide) rfl ?_
  refine gj_iload (q := 51) (gj_dk okX2_soonestToAsk 27 rfl) rfl rfl ?_
  refine gj_if_eq (q := 54) (tgt := 73) (gj_dk okX2_soonestToAsk 28 rfl) (by decide) rfl (fun c51 => ?_) (fun c51 => ?_)
  · -- 73
    replace hF := gj_ift c51 hF
    refine gj_sub [(0, jR 35), (1, jI l1), (2, jI l2), (3, jI l3)] ⟨rfl, rfl, rfl, rfl, trivial⟩ ?_
    exact t_J_X2_soonestToAsk_73 hst hrec4 l1 l2 l3 hF
  · -- 54
    replace hF := gj_iff c51 hF
    refine gj_iload_n (q := 55) (gj_dk okX2_soonestToAsk 29 rfl) rfl rfl ?_
    refine gj_iconst (q := 56) (gj_dk okX2_soonestToAsk 30 rfl) (by decide) rfl ?_
    refine gj_icmp_eq (q := 59) (tgt := 70) (gj_dk okX2_soonestToAsk 31 rfl) (by decide) rfl (fun c56 => ?_) (fun c56 => ?_)
    · -- 70
      replace hF := gj_ift c56 hF
      refine gj_iload (q := 72) (gj_dk okX2_soonestToAsk 38 rfl) rfl rfl ?_
      refine gj_istore_n (q := 73) (gj_dk okX2_soonestToAsk 39 rfl) (by decide) rfl ?_
      refine gj_sub [(0, jR 35), (1, jI l1), (2, jI l4), (3, jI l3)] ⟨rfl, rfl, rfl, rfl, trivial⟩ ?_
      exact t_J_X2_soonestToAsk_73 hst hrec4 l1 l4 l3 hF
    · -- 59
      replace hF := gj_iff c56 hF
      refine gj_aload_n (q := 60) (gj_dk okX2_soonestToAsk 32 rfl) rfl rfl ?_
      refine gj_iload_n (q := 61) (gj_dk okX2_soonestToAsk 33 rfl) rfl rfl ?_
      refine gj_iload (q := 63) (gj_dk okX2_soonestToAsk 34 rfl) rfl rfl ?_
      refine gj_iload_n (q := 64) (gj_dk okX2_soonestToAsk 35 rfl) rfl rfl ?_
      refine gj_callV (q := 67) (z := 35) (ci := 2) [jI l1, jI l4, jI l2] rfl (t_X2_soonerOf hst l1 l4 l2 rfl) (gj_dk okX2_soonestToAsk 36 rfl) ml_X2_107 me_X2_soonerOf (sh35 hst) rfl (gj_nm rfl) rfl (gj_kI fun x S2 M2 h => ?_)
      obtain ⟨bz, e, eS, eM⟩ := h; subst eS; subst eM; subst e
      refine gj_stpZ bz hF (fun x2 bx2 hF => ?_)
      refine gj_if_eq (q := 70) (tgt := 73) (gj_dk okX2_soonestToAsk 37 rfl) (by decide) rfl (fun c67 => ?_) (fun c67 => ?_)
      · -- 73
        replace hF := gj_ift c67 hF
        refine gj_sub [(0, jR 35), (1, jI l1), (2, jI l2), (3, jI l3)] ⟨rfl, rfl, rfl, rfl, trivial⟩ ?_
        exact t_J_X2_soonestToAsk_73 hst hrec4 l1 l2 l3 hF
      · -- 70
        replace hF := gj_iff c67 hF
        refine gj_iload (q := 72) (gj_dk okX2_soonestToAsk 38 rfl) rfl rfl ?_
        refine gj_istore_n (q := 73) (gj_dk okX2_soonestToAsk 39 rfl) (by decide) rfl ?_
        refine gj_sub [(0, jR 35), (1, jI l1), (2, jI l4), (3, jI l3)] ⟨rfl, rfl, rfl, rfl, trivial⟩ ?_
        exact t_J_X2_soonestToAsk_73 hst hrec4 l1 l4 l3 hF
set_option maxHeartbeats 4000000 in
set_option maxRecDepth 20000 in
theorem t_B_X2_soonestToAsk_4 (hst : gj_Stat S) {r : Int} {rec4 : Int → Int → Int → Option (Int)} (hrec4 : ∀ (l1 l2 l3 : Int), rec4 l1 l2 l3 = some r → gj_W G l 4 0 0 yX2_soonestToAsk cX2_soonestToAsk 6 (some .int) (gj_qI fun x S' M' => r = x ∧ S = S' ∧ M = M') 0 0 4 [(0, jR 35), (1, jI l1), (2, jI l2), (3, jI l3)] [] S M) (l1 l2 l3 : Int) (hF : B_X2_soonestToAsk_4 M rec4 l1 l2 l3 = some r) : gj_W G l 4 0 0 yX2_soonestToAsk cX2_soonestToAsk 6 (some .int) (gj_qI fun x S' M' => r = x ∧ S = S' ∧ M = M') 0 0 4 [(0, jR 35), (1, jI l1), (2, jI l2), (3, jI l3)] [] S M := by
  unfold B_X2_soonestToAsk_4 at hF
  refine gj_iload_n (q := 5) (gj_dk okX2_soonestToAsk 4 rfl) rfl rfl ?_
  refine gj_iconst (q := 6) (gj_dk okX2_soonestToAsk 5 rfl) (by decide) rfl ?_
  refine gj_icmp_ge (q := 9) (tgt := 79) (gj_dk okX2_soonestToAsk 6 rfl) (by decide) rfl (fun c6 => ?_) (fun c6 => ?_)
  · -- 79
    replace hF := gj_ift c6 hF
    refine gj_iload_n (q := 80) (gj_dk okX2_soonestToAsk 42 rfl) rfl rfl ?_
    cases hF
    exact gj_iret (gj_dk okX2_soonestToAsk 43 rfl) rfl ⟨_, rfl, rfl, rfl, rfl⟩
  · -- 9
    replace hF := gj_iff c6 hF
    refine gj_iload_n (q := 10) (gj_dk okX2_soonestToAsk 7 rfl) rfl rfl ?_
    refine gj_iload_n (q := 11) (gj_dk okX2_soonestToAsk 8 rfl) rfl rfl ?_
    refine gj_callS (q := 14) [jI l1, jI l3] rfl (c_X10_facing _ _) (gj_dk okX2_soonestToAsk 9 rfl) ml_X2_139 me_X10_facing (gj_nm rfl) rfl (gj_kI fun x S2 M2 h => ?_)
    obtain ⟨e, eS, eM⟩ := h; subst eS; subst eM; subst e
    refine gj_istore (q := 16) (gj_dk okX2_soonestToAsk 10 rfl) (by decide) rfl ?_
    refine gj_aload_n (q := 17) (gj_dk okX2_soonestToAsk 11 rfl) rfl rfl ?_
    refine gj_iload_n (q := 18) (gj_dk okX2_soonestToAsk 12 rfl) rfl rfl ?_
    refine gj_iload (q := 20) (gj_dk okX2_soonestToAsk 13 rfl) rfl rfl ?_
    refine gj_callV (q := 23) (z := 35) (ci := 2) [jI l1, jI (f_fac l1 l3)] rfl (t_X2_canMeet hst l1 (f_fac l1 l3) rfl) (gj_dk okX2_soonestToAsk 14 rfl) ml_X2_142 me_X2_canMeet (sh35 hst) rfl (gj_nm rfl) rfl (gj_kI fun x S2 M2 h => ?_)
    obtain ⟨bz, e, eS, eM⟩ := h; subst eS; subst eM; subst e
    refine gj_stpZ bz hF (fun x1 bx1 hF => ?_)
    refine gj_if_eq (q := 26) (tgt := 46) (gj_dk okX2_soonestToAsk 15 rfl) (by decide) rfl (fun c23 => ?_) (fun c23 => ?_)
    · -- 46
      replace hF := gj_ift c23 hF
      refine gj_iconst (q := 47) (gj_dk okX2_soonestToAsk 25 rfl) (by decide) rfl ?_
      refine gj_sub [(0, jR 35), (1, jI l1), (2, jI l2), (3, jI l3), (4, jI (f_fac l1 l3))] ⟨rfl, rfl, rfl, rfl, rfl, trivial⟩ ?_
      exact t_J_X2_soonestToAsk_47 hst hrec4 l1 l2 l3 (f_fac l1 l3) 0 hF
    · -- 26
      replace hF := gj_iff c23 hF
      refine gj_aload_n (q := 27) (gj_dk okX2_soonestToAsk 16 rfl) rfl rfl ?_
      refine gj_gR (q := 30) (j := 5) (gj_dk okX2_soonestToAsk 17 rfl) ff_X2_22 (sh35 hst) (by decide) rfl (rf35_5 hst) rfl ?_
      refine gj_iload_n (q := 31) (gj_dk okX2_soonestToAsk 18 rfl) rfl rfl ?_
      refine gj_iload (q := 33) (gj_dk okX2_soonestToAsk 19 rfl) rfl rfl ?_
      refine gj_callS (q := 36) [jI l1, jI (f_fac l1 l3)] rfl (c_X10_couple _ _) (gj_dk okX2_soonestToAsk 20 rfl) ml_X2_69 me_X10_couple (gj_nm rfl) rfl (gj_kI fun x S2 M2 h => ?_)
      obtain ⟨e, eS, eM⟩ := h; subst eS; subst eM; subst e
      refine gj_callS (q := 39) [jR 39, jI (f_cpl l1 (f_fac l1 l3))] rfl (c_X7_is (sh39 hst) (by decide) (by decide) _) (gj_dk okX2_soonestToAsk 21 rfl) ml_X2_97 me_X7_is (gj_nm rfl) rfl (gj_kI fun x S2 M2 h => ?_)
      obtain ⟨e, eS, eM⟩ := h; subst eS; subst eM; subst e
      refine gj_if_ne (q := 42) (tgt := 46) (gj_dk okX2_soonestToAsk 22 rfl) (by decide) rfl (fun c39 => ?_) (fun c39 => ?_)
      · -- 46
        replace hF := gj_iff c39 hF
        refine gj_iconst (q := 47) (gj_dk okX2_soonestToAsk 25 rfl) (by decide) rfl ?_
        refine gj_sub [(0, jR 35), (1, jI l1), (2, jI l2), (3, jI l3), (4, jI (f_fac l1 l3))] ⟨rfl, rfl, rfl, rfl, rfl, trivial⟩ ?_
        exact t_J_X2_soonestToAsk_47 hst hrec4 l1 l2 l3 (f_fac l1 l3) 0 hF
      · -- 42
        replace hF := gj_ift c39 hF
        refine gj_iconst (q := 43) (gj_dk okX2_soonestToAsk 23 rfl) (by decide) rfl ?_
        refine gj_goto (tgt := 47) (gj_dk okX2_soonestToAsk 24 rfl) (by decide) ?_
        refine gj_sub [(0, jR 35), (1, jI l1), (2, jI l2), (3, jI l3), (4, jI (f_fac l1 l3))] ⟨rfl, rfl, rfl, rfl, rfl, trivial⟩ ?_
        exact t_J_X2_soonestToAsk_47 hst hrec4 l1 l2 l3 (f_fac l1 l3) 1 hF
theorem t_L_X2_soonestToAsk_4 (hst : gj_Stat S) {r : Int} : ∀ (m : Nat) (l1 : Int) (l2 : Int) (l3 : Int), gj_it (fun _ _ _ => none) (B_X2_soonestToAsk_4 M) m l1 l2 l3 = some r → gj_W G l 4 0 0 yX2_soonestToAsk cX2_soonestToAsk 6 (some .int) (gj_qI fun x S' M' => r = x ∧ S = S' ∧ M = M') 0 0 4 [(0, jR 35), (1, jI l1), (2, jI l2), (3, jI l3)] [] S M := by
  intro m
  induction m with
  | zero => intro l1 l2 l3 hF; cases (show (none : Option (Int)) = some r from hF)
  | succ m ih => intro l1 l2 l3 hF; exact t_B_X2_soonestToAsk_4 hst (fun l1 l2 l3 h => ih l1 l2 l3 h) l1 l2 l3 hF
set_option maxHeartbeats 4000000 in
set_option maxRecDepth 20000 in
theorem t_X2_soonestToAsk (hst : gj_Stat S) (a1 : Int) {r : Int} (hF : F_X2_soonestToAsk a1 M = some r) : gj_C G l 4 0 0 yX2_soonestToAsk cX2_soonestToAsk 6 (some .int) [jR 35, jI a1] S M (gj_qI fun x S' M' => r = x ∧ S = S' ∧ M = M') := by
  refine gj_Cof (by decide +kernel) (Nat.le_of_ble_eq_true rfl) ?_
  change gj_W G l 4 0 0 yX2_soonestToAsk cX2_soonestToAsk 6 (some .int) (gj_qI fun x S' M' => r = x ∧ S = S' ∧ M = M') 0 0 0 [(0, jR 35), (1, jI a1)] [] S M
  unfold F_X2_soonestToAsk at hF
  refine gj_iconst (q := 1) (gj_dk okX2_soonestToAsk 0 rfl) (by decide) rfl ?_
  refine gj_istore_n (q := 2) (gj_dk okX2_soonestToAsk 1 rfl) (by decide) rfl ?_
  refine gj_iconst (q := 3) (gj_dk okX2_soonestToAsk 2 rfl) (by decide) rfl ?_
  refine gj_istore_n (q := 4) (gj_dk okX2_soonestToAsk 3 rfl) (by decide) rfl ?_
  refine gj_sub [(0, jR 35), (1, jI a1), (2, jI (-1)), (3, jI 0)] ⟨rfl, rfl, rfl, rfl, trivial⟩ ?_
  exact t_L_X2_soonestToAsk_4 hst gj_fu a1 (-1) 0 hF
def f_X2_tie (a1 : Int) (a2 : Int) (M : gj_M) : gj_M :=
  (if a2 = -1 then (M) else gj_let (f_put M 40 8 a1 a2) (fun M1 => gj_let (f_put M1 40 8 a2 a1) (fun M2 => (M2))))
set_option maxHeartbeats 4000000 in
set_option maxRecDepth 20000 in
theorem t_X2_tie (hst : gj_Stat S) (a1 a2 : Int) {r : gj_M} (hF : f_X2_tie a1 a2 M = r) : gj_C G l 2 0 0 yX2_tie cX2_tie 3 none [jR 35, jI a1, jI a2] S M (gj_qV fun S' M' => S = S' ∧ r = M') := by
  refine gj_Cof (by decide +kernel) (Nat.le_of_ble_eq_true rfl) ?_
  change gj_W G l 2 0 0 yX2_tie cX2_tie 3 none (gj_qV fun S' M' => S = S' ∧ r = M') 0 0 0 [(0, jR 35), (1, jI a1), (2, jI a2)] [] S M
  unfold f_X2_tie at hF
  refine gj_iload_n (q := 1) (gj_dk okX2_tie 0 rfl) rfl rfl ?_
  refine gj_iconst (q := 2) (gj_dk okX2_tie 1 rfl) (by decide) rfl ?_
  refine gj_icmp_eq (q := 5) (tgt := 23) (gj_dk okX2_tie 2 rfl) (by decide) rfl (fun c2 => ?_) (fun c2 => ?_)
  · -- 23
    replace hF := gj_ift c2 hF
    subst hF
    exact gj_vret (gj_dk okX2_tie 13 rfl) rfl ⟨rfl, rfl, rfl⟩
  · -- 5
    replace hF := gj_iff c2 hF
    refine gj_aload_n (q := 6) (gj_dk okX2_tie 3 rfl) rfl rfl ?_
    refine gj_gR (q := 9) (j := 6) (gj_dk okX2_tie 4 rfl) ff_X2_25 (sh35 hst) (by decide) rfl (rf35_6 hst) rfl ?_
    refine gj_iload_n (q := 10) (gj_dk okX2_tie 5 rfl) rfl rfl ?_
    refine gj_iload_n (q := 11) (gj_dk okX2_tie 6 rfl) rfl rfl ?_
    refine gj_callS (q := 14) [jR 40, jI a1, jI a2] rfl (c_X7_put (sh40 hst) (by decide) (by decide) _ _) (gj_dk okX2_tie 7 rfl) ml_X2_65 me_X7_put (gj_nm rfl) rfl (gj_kV fun S2 M2 h => ?_)
    obtain ⟨eS, eM⟩ := h; subst eS; subst eM
    refine gj_stp hF (fun M1 hF => ?_)
    refine gj_aload_n (q := 15) (gj_dk okX2_tie 8 rfl) rfl rfl ?_
    refine gj_gR (q := 18) (j := 6) (gj_dk okX2_tie 9 rfl) ff_X2_25 (sh35 hst) (by decide) rfl (rf35_6 hst) rfl ?_
    refine gj_iload_n (q := 19) (gj_dk okX2_tie 10 rfl) rfl rfl ?_
    refine gj_iload_n (q := 20) (gj_dk okX2_tie 11 rfl) rfl rfl ?_
    refine gj_callS (q := 23) [jR 40, jI a2, jI a1] rfl (c_X7_put (sh40 hst) (by decide) (by decide) _ _) (gj_dk okX2_tie 12 rfl) ml_X2_65 me_X7_put (gj_nm rfl) rfl (gj_kV fun S2 M2 h => ?_)
    obtain ⟨eS, eM⟩ := h; subst eS; subst eM
    refine gj_stp hF (fun M2 hF => ?_)
    subst hF
    exact gj_vret (gj_dk okX2_tie 13 rfl) rfl ⟨rfl, rfl, rfl⟩
def f_X2_ask (a1 : Int) (a2 : Int) (M : gj_M) : gj_M :=
  (if a2 = -1 then (M) else (if f_at M 40 8 a2 = -1 then (if f_at M 40 8 a2 = -1 then gj_let (f_X2_tie a1 a2 M) (fun M1 => (M1)) else gj_let (f_put M 39 16 (f_cpl (f_at M 40 8 a2) a2) 1) (fun M2 => gj_let (f_put M2 40 8 (f_at M 40 8 a2) (-1)) (fun M3 => gj_let (f_X2_tie a1 a2 M3) (fun M4 => (M4))))) else gj_letI (f_X2_soonerOf a2 a1 (f_at M 40 8 a2) M) (fun x5 => (if x5 = 0 then gj_let (f_put M 39 16 (f_cpl a1 a2) 1) (fun M10 => (M10)) else (if f_at M 40 8 a2 = -1 then gj_let (f_X2_tie a1 a2 M) (fun M6 => (M6)) else gj_let (f_put M 39 16 (f_cpl (f_at M 40 8 a2) a2) 1) (fun M7 => gj_let (f_put M7 40 8 (f_at M 40 8 a2) (-1)) (fun M8 => gj_let (f_X2_tie a1 a2 M8) (fun M9 => (M9)))))))))
set_option maxHeartbeats 4000000 in
set_option maxRecDepth 20000 in
theorem t_X2_ask (hst : gj_Stat S) (a1 a2 : Int) {r : gj_M} (hF : f_X2_ask a1 a2 M = r) : gj_C G l 4 0 0 yX2_ask cX2_ask 4 none [jR 35, jI a1, jI a2] S M (gj_qV fun S' M' => S = S' ∧ r = M') := by
  refine gj_Cof (by decide +kernel) (Nat.le_of_ble_eq_true rfl) ?_
  change gj_W G l 4 0 0 yX2_ask cX2_ask 4 none (gj_qV fun S' M' => S = S' ∧ r = M') 0 0 0 [(0, jR 35), (1, jI a1), (2, jI a2)] [] S M
  unfold f_X2_ask at hF
  refine gj_iload_n (q := 1) (gj_dk okX2_ask 0 rfl) rfl rfl ?_
  refine gj_iconst (q := 2) (gj_dk okX2_ask 1 rfl) (by decide) rfl ?_
  refine gj_icmp_ne (q := 5) (tgt := 6) (gj_dk okX2_ask 2 rfl) (by decide) rfl (fun c2 => ?_) (fun c2 => ?_)
  · -- 6
    replace hF := gj_iff c2 hF
    refine gj_aload_n (q := 7) (gj_dk okX2_ask 4 rfl) rfl rfl ?_
    refine gj_gR (q := 10) (j := 6) (gj_dk okX2_ask 5 rfl) ff_X2_25 (sh35 hst) (by decide) rfl (rf35_6 hst) rfl ?_
    refine gj_iload_n (q := 11) (gj_dk okX2_ask 6 rfl) rfl rfl ?_
    refine gj_callS (q := 14) [jR 40, jI a2] rfl (c_X7_at (sh40 hst) (by decide) (by decide) _) (gj_dk okX2_ask 7 rfl) ml_X2_39 me_X7_at (gj_nm rfl) rfl (gj_kI fun x S2 M2 h => ?_)
    obtain ⟨e, eS, eM⟩ := h; subst eS; subst eM; subst e
    refine gj_istore_n (q := 15) (gj_dk okX2_ask 8 rfl) (by decide) rfl ?_
    refine gj_iload_n (q := 16) (gj_dk okX2_ask 9 rfl) rfl rfl ?_
    refine gj_iconst (q := 17) (gj_dk okX2_ask 10 rfl) (by decide) rfl ?_
    refine gj_icmp_eq (q := 20) (tgt := 44) (gj_dk okX2_ask 11 rfl) (by decide) rfl (fun c17 => ?_) (fun c17 => ?_)
    · -- 44
      replace hF := gj_ift c17 hF
      refine gj_iload_n (q := 45) (gj_dk okX2_ask 26 rfl) rfl rfl ?_
      refine gj_iconst (q := 46) (gj_dk okX2_ask 27 rfl) (by decide) rfl ?_
      refine gj_icmp_eq (q := 49) (tgt := 71) (gj_dk okX2_ask 28 rfl) (by decide) rfl (fun c46 => ?_) (fun c46 => ?_)
      · -- 71
        replace hF := gj_ift c46 hF
        refine gj_aload_n (q := 72) (gj_dk okX2_ask 41 rfl) rfl rfl ?_
        refine gj_iload_n (q := 73) (gj_dk okX2_ask 42 rfl) rfl rfl ?_
        refine gj_iload_n (q := 74) (gj_dk okX2_ask 43 rfl) rfl rfl ?_
        refine gj_callV (q := 77) (z := 35) (ci := 2) [jI a1, jI a2] rfl (t_X2_tie hst a1 a2 rfl) (gj_dk okX2_ask 44 rfl) ml_X2_145 me_X2_tie (sh35 hst) rfl (gj_nm rfl) rfl (gj_kV fun S2 M2 h => ?_)
        obtain ⟨eS, eM⟩ := h; subst eS; subst eM
        refine gj_stp hF (fun M1 hF => ?_)
        subst hF
        exact gj_vret (gj_dk okX2_ask 45 rfl) rfl ⟨rfl, rfl, rfl⟩
      · -- 49
        replace hF := gj_iff c46 hF
        refine gj_aload_n (q := 50) (gj_dk okX2_ask 29 rfl) rfl rfl ?_
        refine gj_gR (q := 53) (j := 5) (gj_dk okX2_ask 30 rfl) ff_X2_22 (sh35 hst) (by decide) rfl (rf35_5 hst) rfl ?_
        refine gj_iload_n (q := 54) (gj_dk okX2_ask 31 rfl) rfl rfl ?_
        refine gj_iload_n (q := 55) (gj_dk okX2_ask 32 rfl) rfl rfl ?_
        refine gj_callS (q := 58) [jI (f_at M 40 8 a2), jI a2] rfl (c_X10_couple _ _) (gj_dk okX2_ask 33 rfl) ml_X2_69 me_X10_couple (gj_nm rfl) rfl (gj_kI fun x S2 M2 h => ?_)
        obtain ⟨e, eS, eM⟩ := h; subst eS; subst eM; subst e
        refine gj_iconst (q := 59) (gj_dk okX2_ask 34 rfl) (by decide) rfl ?_
        refine gj_callS (q := 62) [jR 39, jI (f_cpl (f_at M 40 8 a2) a2), jI 1] rfl (c_X7_mark (sh39 hst) (by decide) (by decide) _ _ (by decide)) (gj_dk okX2_ask 35 rfl) ml_X2_51 me_X7_mark (gj_nm rfl) rfl (gj_kV fun S2 M2 h => ?_)
        obtain ⟨eS, eM⟩ := h; subst eS; subst eM
        refine gj_stp hF (fun M2 hF => ?_)
        refine gj_aload_n (q := 63) (gj_dk okX2_ask 36 rfl) rfl rfl ?_
        refine gj_gR (q := 66) (j := 6) (gj_dk okX2_ask 37 rfl) ff_X2_25 (sh35 hst) (by decide) rfl (rf35_6 hst) rfl ?_
        refine gj_iload_n (q := 67) (gj_dk okX2_ask 38 rfl) rfl rfl ?_
        refine gj_iconst (q := 68) (gj_dk okX2_ask 39 rfl) (by decide) rfl ?_
        refine gj_callS (q := 71) [jR 40, jI (f_at M 40 8 a2), jI (-1)] rfl (c_X7_put (sh40 hst) (by decide) (by decide) _ _) (gj_dk okX2_ask 40 rfl) ml_X2_65 me_X7_put (gj_nm rfl) rfl (gj_kV fun S2 M2 h => ?_)
        obtain ⟨eS, eM⟩ := h; subst eS; subst eM
        refine gj_stp hF (fun M3 hF => ?_)
        refine gj_aload_n (q := 72) (gj_dk okX2_ask 41 rfl) rfl rfl ?_
        refine gj_iload_n (q := 73) (gj_dk okX2_ask 42 rfl) rfl rfl ?_
        refine gj_iload_n (q := 74) (gj_dk okX2_ask 43 rfl) rfl rfl ?_
        refine gj_callV (q := 77) (z := 35) (ci := 2) [jI a1, jI a2] rfl (t_X2_tie hst a1 a2 rfl) (gj_dk okX2_ask 44 rfl) ml_X2_145 me_X2_tie (sh35 hst) rfl (gj_nm rfl) rfl (gj_kV fun S2 M2 h => ?_)
        obtain ⟨eS, eM⟩ := h; subst eS; subst eM
        refine gj_stp hF (fun M4 hF => ?_)
        subst hF
        exact gj_vret (gj_dk okX2_ask 45 rfl) rfl ⟨rfl, rfl, rfl⟩
    · -- 20
      replace hF := gj_iff c17 hF
      refine gj_aload_n (q := 21) (gj_dk okX2_ask 12 rfl) rfl rfl ?_
      refine gj_iload_n (q := 22) (gj_dk okX2_ask 13 rfl) rfl rfl ?_
      refine gj_iload_n (q := 23) (gj_dk okX2_ask 14 rfl) rfl rfl ?_
      refine gj_iload_n (q := 24) (gj_dk okX2_ask 15 rfl) rfl rfl ?_
      refine gj_callV (q := 27) (z := 35) (ci := 2) [jI a2, jI a1, jI (f_at M 40 8 a2)] rfl (t_X2_soonerOf hst a2 a1 (f_at M 40 8 a2) rfl) (gj_dk okX2_ask 16 rfl) ml_X2_107 me_X2_soonerOf (sh35 hst) rfl (gj_nm rfl) rfl (gj_kI fun x S2 M2 h => ?_)
      obtain ⟨bz, e, eS, eM⟩ := h; subst eS; subst eM; subst e
      refine gj_stpZ bz hF (fun x5 bx5 hF => ?_)
      refine gj_if_ne (q := 30) (tgt := 44) (gj_dk okX2_ask 17 rfl) (by decide) rfl (fun c27 => ?_) (fun c27 => ?_)
      · -- 44
        replace hF := gj_iff c27 hF
        refine gj_iload_n (q := 45) (gj_dk okX2_ask 26 rfl) rfl rfl ?_
        refine gj_iconst (q := 46) (gj_dk okX2_ask 27 rfl) (by decide) rfl ?_
        refine gj_icmp_eq (q := 49) (tgt := 71) (gj_dk okX2_ask 28 rfl) (by decide) rfl (fun c46 => ?_) (fun c46 => ?_)
        · -- 71
          replace hF := gj_ift c46 hF
          refine gj_aload_n (q := 72) (gj_dk okX2_ask 41 rfl) rfl rfl ?_
          refine gj_iload_n (q := 73) (gj_dk okX2_ask 42 rfl) rfl rfl ?_
          refine gj_iload_n (q := 74) (gj_dk okX2_ask 43 rfl) rfl rfl ?_
          refine gj_callV (q := 77) (z := 35) (ci := 2) [jI a1, jI a2] rfl (t_X2_tie hst a1 a2 rfl) (gj_dk okX2_ask 44 rfl) ml_X2_145 me_X2_tie (sh35 hst) rfl (gj_nm rfl) rfl (gj_kV fun S2 M2 h => ?_)
          obtain ⟨eS, eM⟩ := h; subst eS; subst eM
          refine gj_stp hF (fun M6 hF => ?_)
          subst hF
          exact gj_vret (gj_dk okX2_ask 45 rfl) rfl ⟨rfl, rfl, rfl⟩
        · -- 49
          replace hF := gj_iff c46 hF
          refine gj_aload_n (q := 50) (gj_dk okX2_ask 29 rfl) rfl rfl ?_
          refine gj_gR (q := 53) (j := 5) (gj_dk okX2_ask 30 rfl) ff_X2_22 (sh35 hst) (by decide) rfl (rf35_5 hst) rfl ?_
          refine gj_iload_n (q := 54) (gj_dk okX2_ask 31 rfl) rfl rfl ?_
          refine gj_iload_n (q := 55) (gj_dk okX2_ask 32 rfl) rfl rfl ?_
          refine gj_callS (q := 58) [jI (f_at M 40 8 a2), jI a2] rfl (c_X10_couple _ _) (gj_dk okX2_ask 33 rfl) ml_X2_69 me_X10_couple (gj_nm rfl) rfl (gj_kI fun x S2 M2 h => ?_)
          obtain ⟨e, eS, eM⟩ := h; subst eS; subst eM; subst e
          refine gj_iconst (q := 59) (gj_dk okX2_ask 34 rfl) (by decide) rfl ?_
          refine gj_callS (q := 62) [jR 39, jI (f_cpl (f_at M 40 8 a2) a2), jI 1] rfl (c_X7_mark (sh39 hst) (by decide) (by decide) _ _ (by decide)) (gj_dk okX2_ask 35 rfl) ml_X2_51 me_X7_mark (gj_nm rfl) rfl (gj_kV fun S2 M2 h => ?_)
          obtain ⟨eS, eM⟩ := h; subst eS; subst eM
          refine gj_stp hF (fun M7 hF => ?_)
          refine gj_aload_n (q := 63) (gj_dk okX2_ask 36 rfl) rfl rfl ?_
          refine gj_gR (q := 66) (j := 6) (gj_dk okX2_ask 37 rfl) ff_X2_25 (sh35 hst) (by decide) rfl (rf35_6 hst) rfl ?_
          refine gj_iload_n (q := 67) (gj_dk okX2_ask 38 rfl) rfl rfl ?_
          refine gj_iconst (q := 68) (gj_dk okX2_ask 39 rfl) (by decide) rfl ?_
          refine gj_callS (q := 71) [jR 40, jI (f_at M 40 8 a2), jI (-1)] rfl (c_X7_put (sh40 hst) (by decide) (by decide) _ _) (gj_dk okX2_ask 40 rfl) ml_X2_65 me_X7_put (gj_nm rfl) rfl (gj_kV fun S2 M2 h => ?_)
          obtain ⟨eS, eM⟩ := h; subst eS; subst eM
          refine gj_stp hF (fun M8 hF => ?_)
          refine gj_aload_n (q := 72) (gj_dk okX2_ask 41 rfl) rfl rfl ?_
          refine gj_iload_n (q := 73) (gj_dk okX2_ask 42 rfl) rfl rfl ?_
          refine gj_iload_n (q := 74) (gj_dk okX2_ask 43 rfl) rfl rfl ?_
          refine gj_callV (q := 77) (z := 35) (ci := 2) [jI a1, jI a2] rfl (t_X2_tie hst a1 a2 rfl) (gj_dk okX2_ask 44 rfl) ml_X2_145 me_X2_tie (sh35 hst) rfl (gj_nm rfl) rfl (gj_kV fun S2 M2 h => ?_)
          obtain ⟨eS, eM⟩ := h; subst eS; subst eM
          refine gj_stp hF (fun M9 hF => ?_)
          subst hF
          exact gj_vret (gj_dk okX2_ask 45 rfl) rfl ⟨rfl, rfl, rfl⟩
      · -- 30
        replace hF := gj_ift c27 hF
        refine gj_aload_n (q := 31) (gj_dk okX2_ask 18 rfl) rfl rfl ?_
        refine gj_gR (q := 34) (j := 5) (gj_dk okX2_ask 19 rfl) ff_X2_22 (sh35 hst) (by decide) rfl (rf35_5 hst) rfl ?_
        refine gj_iload_n (q := 35) (gj_dk okX2_ask 20 rfl) rfl rfl ?_
        refine gj_iload_n (q := 36) (gj_dk okX2_ask 21 rfl) rfl rfl ?_
        refine gj_callS (q := 39) [jI a1, jI a2] rfl (c_X10_couple _ _) (gj_dk okX2_ask 22 rfl) ml_X2_69 me_X10_couple (gj_nm rfl) rfl (gj_kI fun x S2 M2 h => ?_)
        obtain ⟨e, eS, eM⟩ := h; subst eS; subst eM; subst e
        refine gj_iconst (q := 40) (gj_dk okX2_ask 23 rfl) (by decide) rfl ?_
        refine gj_callS (q := 43) [jR 39, jI (f_cpl a1 a2), jI 1] rfl (c_X7_mark (sh39 hst) (by decide) (by decide) _ _ (by decide)) (gj_dk okX2_ask 24 rfl) ml_X2_51 me_X7_mark (gj_nm rfl) rfl (gj_kV fun S2 M2 h => ?_)
        obtain ⟨eS, eM⟩ := h; subst eS; subst eM
        refine gj_stp hF (fun M10 hF => ?_)
        subst hF
        exact gj_vret (gj_dk okX2_ask 25 rfl) rfl ⟨rfl, rfl, rfl⟩
  · -- 5
    replace hF := gj_ift c2 hF
    subst hF
    exact gj_vret (gj_dk okX2_ask 3 rfl) rfl ⟨rfl, rfl, rfl⟩
def J_X2_askAll_45 (rec2 : Int → Int → gj_M → Option (gj_M)) (l1 l2 : Int) (M : gj_M) : Option (gj_M) :=
  rec2 l1 (gj_w (l2 + 1)) M
def J_X2_askAll_39 (rec2 : Int → Int → gj_M → Option (gj_M)) (rec10 : Int → Int → Int → gj_M → Option (gj_M)) (l1 l2 l3 : Int) (M : gj_M) : Option (gj_M) :=
  rec10 l1 l2 (gj_w (l3 + 1)) M
def B_X2_askAll_10 (rec2 : Int → Int → gj_M → Option (gj_M)) (rec10 : Int → Int → Int → gj_M → Option (gj_M)) (l1 l2 l3 : Int) (M : gj_M) : Option (gj_M) :=
  (if gj_w (l1 + 4) ≤ l3 then (J_X2_askAll_45 rec2 l1 l2 M) else (if f_at M 40 8 l3 = -1 then gj_bnd (F_X2_soonestToAsk l3 M) (fun x1 => gj_let (f_X2_ask l3 x1 M) (fun M3 => (J_X2_askAll_39 rec2 rec10 l1 l2 l3 M3))) else (J_X2_askAll_39 rec2 rec10 l1 l2 l3 M)))
def B_X2_askAll_2 (rec2 : Int → Int → gj_M → Option (gj_M)) (l1 l2 : Int) (M : gj_M) : Option (gj_M) :=
  (if 16 < l2 then (some (M)) else (gj_it (fun _ _ _ _ => none) (B_X2_askAll_10 rec2) gj_fu l1 l2 l1 M))
def F_X2_askAll (a1 : Int) (M : gj_M) : Option (gj_M) :=
  (gj_it (fun _ _ _ => none) (B_X2_askAll_2) gj_fu a1 0 M)
set_option maxHeartbeats 4000000 in
set_option maxRecDepth 20000 in
theorem t_J_X2_askAll_45 (hst : gj_Stat S) {r : gj_M} {rec2 : Int → Int → gj_M → Option (gj_M)} (hrec2 : ∀ (l1 l2 : Int) (M : gj_M), rec2 l1 l2 M = some r → gj_W G l 5 0 0 yX2_askAll cX2_askAll 4 none (gj_qV fun S' M' => S = S' ∧ r = M') 0 0 2 [(0, jR 35), (1, jI l1), (2, jI l2)] [] S M) (l1 l2 : Int) (M : gj_M) (hF : J_X2_askAll_45 rec2 l1 l2 M = some r) : gj_W G l 5 0 0 yX2_askAll cX2_askAll 4 none (gj_qV fun S' M' => S = S' ∧ r = M') 0 0 45 [(0, jR 35), (1, jI l1), (2, jI l2)] [] S M := by
  unfold J_X2_askAll_45 at hF
  refine gj_iinc (q := 48) (v := gj_w (l2 + 1)) (gj_dk okX2_askAll 26 rfl) rfl (by decide) rfl rfl ?_
  refine gj_goto (tgt := 2) (gj_dk okX2_askAll 27 rfl) (by decide) ?_
  refine gj_sub [(0, jR 35), (1, jI l1), (2, jI (gj_w (l2 + 1)))] ⟨rfl, rfl, rfl, trivial⟩ ?_
  exact hrec2 l1 (gj_w (l2 + 1)) M hF
set_option maxHeartbeats 4000000 in
set_option maxRecDepth 20000 in
theorem t_J_X2_askAll_39 (hst : gj_Stat S) {r : gj_M} {rec2 : Int → Int → gj_M → Option (gj_M)} {rec10 : Int → Int → Int → gj_M → Option (gj_M)} (hrec2 : ∀ (l1 l2 : Int) (M : gj_M), rec2 l1 l2 M = some r → gj_W G l 5 0 0 yX2_askAll cX2_askAll 4 none (gj_qV fun S' M' => S = S' ∧ r = M') 0 0 2 [(0, jR 35), (1, jI l1), (2, jI l2)] [] S M) (hrec10 : ∀ (l1 l2 l3 : Int) (M : gj_M), rec10 l1 l2 l3 M = some r → gj_W G l 5 0 0 yX2_askAll cX2_askAll 4 none (gj_qV fun S' M' => S = S' ∧ r = M') 0 0 10 [(0, jR 35), (1, jI l1), (2, jI l2), (3, jI l3)] [] S M) (l1 l2 l3 : Int) (M : gj_M) (hF : J_X2_askAll_39 rec2 rec10 l1 l2 l3 M = some r) : gj_W G l 5 0 0 yX2_askAll cX2_askAll 4 none (gj_qV fun S' M' => S = S' ∧ r = M') 0 0 39 [(0, jR 35), (1, jI l1), (2, jI l2), (3, jI l3)] [] S M := by
  unfold J_X2_askAll_39 at hF
  refine gj_iinc (q := 42) (v := gj_w (l3 + 1)) (gj_dk okX2_askAll 24 rfl) rfl (by decide) rfl rfl ?_
  refine gj_goto (tgt := 10) (gj_dk okX2_askAll 25 rfl) (by decide) ?_
  refine gj_sub [(0, jR 35), (1, jI l1), (2, jI l2), (3, jI (gj_w (l3 + 1)))] ⟨rfl, rfl, rfl, rfl, trivial⟩ ?_
  exact hrec10 l1 l2 (gj_w (l3 + 1)) M hF
set_option maxHeartbeats 4000000 in
set_option maxRecDepth 20000 in
theorem t_B_X2_askAll_10 (hst : gj_Stat S) {r : gj_M} {rec2 : Int → Int → gj_M → Option (gj_M)} {rec10 : Int → Int → Int → gj_M → Option (gj_M)} (hrec2 : ∀ (l1 l2 : Int) (M : gj_M), rec2 l1 l2 M = some r → gj_W G l 5 0 0 yX2_askAll cX2_askAll 4 none (gj_qV fun S' M' => S = S' ∧ r = M') 0 0 2 [(0, jR 35), (1, jI l1), (2, jI l2)] [] S M) (hrec10 : ∀ (l1 l2 l3 : Int) (M : gj_M), rec10 l1 l2 l3 M = some r → gj_W G l 5 0 0 yX2_askAll cX2_askAll 4 none (gj_qV fun S' M' => S = S' ∧ r = M') 0 0 10 [(0, jR 35), (1, jI l1), (2, jI l2), (3, jI l3)] [] S M) (l1 l2 l3 : Int) (M : gj_M) (hF : B_X2_askAll_10 rec2 rec10 l1 l2 l3 M = some r) : gj_W G l 5 0 0 yX2_askAll cX2_askAll 4 none (gj_qV fun S' M' => S = S' ∧ r = M') 0 0 10 [(0, jR 35), (1, jI l1), (2, jI l2), (3, jI l3)] [] S M := by
  unfold B_X2_askAll_10 at hF
  refine gj_iload_n (q := 11) (gj_dk okX2_askAll 7 rfl) rfl rfl ?_
  refine gj_iload_n (q := 12) (gj_dk okX2_askAll 8 rfl) rfl rfl ?_
  refine gj_iconst (q := 13) (gj_dk okX2_askAll 9 rfl) (by decide) rfl ?_
  refine gj_iadd (q := 14) (gj_dk okX2_askAll 10 rfl) rfl ?_
  refine gj_icmp_ge (q := 17) (tgt := 45) (gj_dk okX2_askAll 11 rfl) (by decide) rfl (fun c14 => ?_) (fun c14 => ?_)
  · -- 45
    replace hF := gj_ift c14 hF
    refine gj_sub [(0, jR 35), (1, jI l1), (2, jI l2)] ⟨rfl, rfl, rfl, trivial⟩ ?_
    exact t_J_X2_askAll_45 hst hrec2 l1 l2 M hF
  · -- 17
    replace hF := gj_iff c14 hF
    refine gj_aload_n (q := 18) (gj_dk okX2_askAll 12 rfl) rfl rfl ?_
    refine gj_gR (q := 21) (j := 6) (gj_dk okX2_askAll 13 rfl) ff_X2_25 (sh35 hst) (by decide) rfl (rf35_6 hst) rfl ?_
    refine gj_iload_n (q := 22) (gj_dk okX2_askAll 14 rfl) rfl rfl ?_
    refine gj_callS (q := 25) [jR 40, jI l3] rfl (c_X7_at (sh40 hst) (by decide) (by decide) _) (gj_dk okX2_askAll 15 rfl) ml_X2_39 me_X7_at (gj_nm rfl) rfl (gj_kI fun x S2 M2 h => ?_)
    obtain ⟨e, eS, eM⟩ := h; subst eS; subst eM; subst e
    refine gj_iconst (q := 26) (gj_dk okX2_askAll 16 rfl) (by decide) rfl ?_
    refine gj_icmp_ne (q := 29) (tgt := 39) (gj_dk okX2_askAll 17 rfl) (by decide) rfl (fun c26 => ?_) (fun c26 => ?_)
    · -- 39
      replace hF := gj_iff c26 hF
      refine gj_sub [(0, jR 35), (1, jI l1), (2, jI l2), (3, jI l3)] ⟨rfl, rfl, rfl, rfl, trivial⟩ ?_
      exact t_J_X2_askAll_39 hst hrec2 hrec10 l1 l2 l3 M hF
    · -- 29
      replace hF := gj_ift c26 hF
      refine gj_aload_n (q := 30) (gj_dk okX2_askAll 18 rfl) rfl rfl ?_
      refine gj_iload_n (q := 31) (gj_dk okX2_askAll 19 rfl) rfl rfl ?_
      refine gj_aload_n (q := 32) (gj_dk okX2_askAll 20 rfl) rfl rfl ?_
      refine gj_iload_n (q := 33) (gj_dk okX2_askAll 21 rfl) rfl rfl ?_
      obtain ⟨x1, hG, hF⟩ := gj_bndd hF
      refine gj_callV (q := 36) (z := 35) (ci := 2) [jI l3] rfl (t_X2_soonestToAsk hst l3 hG) (gj_dk okX2_askAll 22 rfl) ml_X2_131 me_X2_soonestToAsk (sh35 hst) rfl (gj_nm rfl) rfl (gj_kI fun y S2 M2 h => ?_)
      obtain ⟨e, eS, eM⟩ := h; subst eS; subst eM; subst e; clear hG
      refine gj_callV (q := 39) (z := 35) (ci := 2) [jI l3, jI x1] rfl (t_X2_ask hst l3 x1 rfl) (gj_dk okX2_askAll 23 rfl) ml_X2_135 me_X2_ask (sh35 hst) rfl (gj_nm rfl) rfl (gj_kV fun S2 M2 h => ?_)
      obtain ⟨eS, eM⟩ := h; subst eS; subst eM
      refine gj_stp hF (fun M3 hF => ?_)
      refine gj_sub [(0, jR 35), (1, jI l1), (2, jI l2), (3, jI l3)] ⟨rfl, rfl, rfl, rfl, trivial⟩ ?_
      exact t_J_X2_askAll_39 hst hrec2 hrec10 l1 l2 l3 M3 hF
theorem t_L_X2_askAll_10 (hst : gj_Stat S) {r : gj_M} {rec2 : Int → Int → gj_M → Option (gj_M)} (hrec2 : ∀ (l1 l2 : Int) (M : gj_M), rec2 l1 l2 M = some r → gj_W G l 5 0 0 yX2_askAll cX2_askAll 4 none (gj_qV fun S' M' => S = S' ∧ r = M') 0 0 2 [(0, jR 35), (1, jI l1), (2, jI l2)] [] S M) : ∀ (m : Nat) (l1 : Int) (l2 : Int) (l3 : Int) (M : gj_M), gj_it (fun _ _ _ _ => none) (B_X2_askAll_10 rec2) m l1 l2 l3 M = some r → gj_W G l 5 0 0 yX2_askAll cX2_askAll 4 none (gj_qV fun S' M' => S = S' ∧ r = M') 0 0 10 [(0, jR 35), (1, jI l1), (2, jI l2), (3, jI l3)] [] S M := by
  intro m
  induction m with
  | zero => intro l1 l2 l3 M hF; cases (show (none : Option (gj_M)) = some r from hF)
  | succ m ih => intro l1 l2 l3 M hF; exact t_B_X2_askAll_10 hst hrec2 (fun l1 l2 l3 M h => ih l1 l2 l3 M h) l1 l2 l3 M hF
set_option maxHeartbeats 4000000 in
set_option maxRecDepth 20000 in
theorem t_B_X2_askAll_2 (hst : gj_Stat S) {r : gj_M} {rec2 : Int → Int → gj_M → Option (gj_M)} (hrec2 : ∀ (l1 l2 : Int) (M : gj_M), rec2 l1 l2 M = some r → gj_W G l 5 0 0 yX2_askAll cX2_askAll 4 none (gj_qV fun S' M' => S = S' ∧ r = M') 0 0 2 [(0, jR 35), (1, jI l1), (2, jI l2)] [] S M) (l1 l2 : Int) (M : gj_M) (hF : B_X2_askAll_2 rec2 l1 l2 M = some r) : gj_W G l 5 0 0 yX2_askAll cX2_askAll 4 none (gj_qV fun S' M' => S = S' ∧ r = M') 0 0 2 [(0, jR 35), (1, jI l1), (2, jI l2)] [] S M := by
  unfold B_X2_askAll_2 at hF
  refine gj_iload_n (q := 3) (gj_dk okX2_askAll 2 rfl) rfl rfl ?_
  refine gj_bipush (q := 5) (gj_dk okX2_askAll 3 rfl) (by decide) rfl rfl ?_
  refine gj_icmp_gt (q := 8) (tgt := 51) (gj_dk okX2_askAll 4 rfl) (by decide) rfl (fun c5 => ?_) (fun c5 => ?_)
  · -- 51
    replace hF := gj_ift c5 hF
    cases hF
    exact gj_vret (gj_dk okX2_askAll 28 rfl) rfl ⟨rfl, rfl, rfl⟩
  · -- 8
    replace hF := gj_iff c5 hF
    refine gj_iload_n (q := 9) (gj_dk okX2_askAll 5 rfl) rfl rfl ?_
    refine gj_istore_n (q := 10) (gj_dk okX2_askAll 6 rfl) (by decide) rfl ?_
    refine gj_sub [(0, jR 35), (1, jI l1), (2, jI l2), (3, jI l1)] ⟨rfl, rfl, rfl, rfl, trivial⟩ ?_
    exact t_L_X2_askAll_10 hst hrec2 gj_fu l1 l2 l1 M hF
theorem t_L_X2_askAll_2 (hst : gj_Stat S) {r : gj_M} : ∀ (m : Nat) (l1 : Int) (l2 : Int) (M : gj_M), gj_it (fun _ _ _ => none) (B_X2_askAll_2) m l1 l2 M = some r → gj_W G l 5 0 0 yX2_askAll cX2_askAll 4 none (gj_qV fun S' M' => S = S' ∧ r = M') 0 0 2 [(0, jR 35), (1, jI l1), (2, jI l2)] [] S M := by
  intro m
  induction m with
  | zero => intro l1 l2 M hF; cases (show (none : Option (gj_M)) = some r from hF)
  | succ m ih => intro l1 l2 M hF; exact t_B_X2_askAll_2 hst (fun l1 l2 M h => ih l1 l2 M h) l1 l2 M hF
set_option maxHeartbeats 4000000 in
set_option maxRecDepth 20000 in
theorem t_X2_askAll (hst : gj_Stat S) (a1 : Int) {r : gj_M} (hF : F_X2_askAll a1 M = some r) : gj_C G l 5 0 0 yX2_askAll cX2_askAll 4 none [jR 35, jI a1] S M (gj_qV fun S' M' => S = S' ∧ r = M') := by
  refine gj_Cof (by decide +kernel) (Nat.le_of_ble_eq_true rfl) ?_
  change gj_W G l 5 0 0 yX2_askAll cX2_askAll 4 none (gj_qV fun S' M' => S = S' ∧ r = M') 0 0 0 [(0, jR 35), (1, jI a1)] [] S M
  unfold F_X2_askAll at hF
  refine gj_iconst (q := 1) (gj_dk okX2_askAll 0 rfl) (by decide) rfl ?_
  refine gj_istore_n (q := 2) (gj_dk okX2_askAll 1 rfl) (by decide) rfl ?_
  refine gj_sub [(0, jR 35), (1, jI a1), (2, jI 0)] ⟨rfl, rfl, rfl, trivial⟩ ?_
  exact t_L_X2_askAll_2 hst gj_fu a1 0 M hF
def f_X2_isLeftFor (a1 : Int) (a2 : Int) (M : gj_M) : Int :=
  gj_letI (f_X2_canMeet a1 a2 M) (fun x1 => (if x1 = 0 then (0) else (if f_at M 40 8 a2 = -1 then (1) else (0))))
set_option maxHeartbeats 4000000 in
set_option maxRecDepth 20000 in
theorem t_X2_isLeftFor (hst : gj_Stat S) (a1 a2 : Int) {r : Int} (hF : f_X2_isLeftFor a1 a2 M = r) : gj_C G l 3 0 0 yX2_isLeftFor cX2_isLeftFor 3 (some .boolean) [jR 35, jI a1, jI a2] S M (gj_qI fun x S' M' => (x = 0 ∨ x = 1) ∧ r = x ∧ S = S' ∧ M = M') := by
  refine gj_Cof (by decide +kernel) (Nat.le_of_ble_eq_true rfl) ?_
  change gj_W G l 3 0 0 yX2_isLeftFor cX2_isLeftFor 3 (some .boolean) (gj_qI fun x S' M' => (x = 0 ∨ x = 1) ∧ r = x ∧ S = S' ∧ M = M') 0 0 0 [(0, jR 35), (1, jI a1), (2, jI a2)] [] S M
  unfold f_X2_isLeftFor at hF
  refine gj_aload_n (q := 1) (gj_dk okX2_isLeftFor 0 rfl) rfl rfl ?_
  refine gj_iload_n (q := 2) (gj_dk okX2_isLeftFor 1 rfl) rfl rfl ?_
  refine gj_iload_n (q := 3) (gj_dk okX2_isLeftFor 2 rfl) rfl rfl ?_
  refine gj_callV (q := 6) (z := 35) (ci := 2) [jI a1, jI a2] rfl (t_X2_canMeet hst a1 a2 rfl) (gj_dk okX2_isLeftFor 3 rfl) ml_X2_142 me_X2_canMeet (sh35 hst) rfl (gj_nm rfl) rfl (gj_kI fun x S2 M2 h => ?_)
  obtain ⟨bz, e, eS, eM⟩ := h; subst eS; subst eM; subst e
  refine gj_stpZ bz hF (fun x1 bx1 hF => ?_)
  refine gj_if_eq (q := 9) (tgt := 25) (gj_dk okX2_isLeftFor 4 rfl) (by decide) rfl (fun c6 => ?_) (fun c6 => ?_)
  · -- 25
    replace hF := gj_ift c6 hF
    refine gj_iconst (q := 26) (gj_dk okX2_isLeftFor 13 rfl) (by decide) rfl ?_
    subst hF
    exact gj_zret (gj_dk okX2_isLeftFor 14 rfl) rfl (by decide) ⟨_, rfl, (by decide), rfl, rfl, rfl⟩
  · -- 9
    replace hF := gj_iff c6 hF
    refine gj_aload_n (q := 10) (gj_dk okX2_isLeftFor 5 rfl) rfl rfl ?_
    refine gj_gR (q := 13) (j := 6) (gj_dk okX2_isLeftFor 6 rfl) ff_X2_25 (sh35 hst) (by decide) rfl (rf35_6 hst) rfl ?_
    refine gj_iload_n (q := 14) (gj_dk okX2_isLeftFor 7 rfl) rfl rfl ?_
    refine gj_callS (q := 17) [jR 40, jI a2] rfl (c_X7_at (sh40 hst) (by decide) (by decide) _) (gj_dk okX2_isLeftFor 8 rfl) ml_X2_39 me_X7_at (gj_nm rfl) rfl (gj_kI fun x S2 M2 h => ?_)
    obtain ⟨e, eS, eM⟩ := h; subst eS; subst eM; subst e
    refine gj_iconst (q := 18) (gj_dk okX2_isLeftFor 9 rfl) (by decide) rfl ?_
    refine gj_icmp_ne (q := 21) (tgt := 25) (gj_dk okX2_isLeftFor 10 rfl) (by decide) rfl (fun c18 => ?_) (fun c18 => ?_)
    · -- 25
      replace hF := gj_iff c18 hF
      refine gj_iconst (q := 26) (gj_dk okX2_isLeftFor 13 rfl) (by decide) rfl ?_
      subst hF
      exact gj_zret (gj_dk okX2_isLeftFor 14 rfl) rfl (by decide) ⟨_, rfl, (by decide), rfl, rfl, rfl⟩
    · -- 21
      replace hF := gj_ift c18 hF
      refine gj_iconst (q := 22) (gj_dk okX2_isLeftFor 11 rfl) (by decide) rfl ?_
      refine gj_goto (tgt := 26) (gj_dk okX2_isLeftFor 12 rfl) (by decide) ?_
      subst hF
      exact gj_zret (gj_dk okX2_isLeftFor 14 rfl) rfl (by decide) ⟨_, rfl, (by decide), rfl, rfl, rfl⟩
def J_X2_takeTurns_49 (rec2 : Int → gj_M → Option (gj_M)) (l1 l2 : Int) (M : gj_M) : Option (gj_M) :=
  gj_let (f_X2_tie l1 l2 M) (fun M3 => rec2 (gj_w (l1 + 1)) M3)
def J_X2_takeTurns_43 (rec2 : Int → gj_M → Option (gj_M)) (rec11 : Int → Int → Int → gj_M → Option (gj_M)) (l1 l2 l3 : Int) (M : gj_M) : Option (gj_M) :=
  rec11 l1 l2 (gj_w (l3 + 1)) M
def B_X2_takeTurns_11 (rec2 : Int → gj_M → Option (gj_M)) (rec11 : Int → Int → Int → gj_M → Option (gj_M)) (l1 l2 l3 : Int) (M : gj_M) : Option (gj_M) :=
  (if 8 ≤ l3 then (J_X2_takeTurns_49 rec2 l1 l2 M) else gj_letI (f_X2_isLeftFor l1 l3 M) (fun x1 => (if x1 = 0 then (J_X2_takeTurns_43 rec2 rec11 l1 l2 l3 M) else (if l2 = -1 then (J_X2_takeTurns_43 rec2 rec11 l1 l3 l3 M) else gj_letI (f_X2_soonerOf l1 l3 l2 M) (fun x2 => (if x2 = 0 then (J_X2_takeTurns_43 rec2 rec11 l1 l2 l3 M) else (J_X2_takeTurns_43 rec2 rec11 l1 l3 l3 M)))))))
def B_X2_takeTurns_2 (rec2 : Int → gj_M → Option (gj_M)) (l1 : Int) (M : gj_M) : Option (gj_M) :=
  (if 4 ≤ l1 then (some (M)) else (gj_it (fun _ _ _ _ => none) (B_X2_takeTurns_11 rec2) gj_fu l1 (-1) 4 M))
def F_X2_takeTurns (M : gj_M) : Option (gj_M) :=
  (gj_it (fun _ _ => none) (B_X2_takeTurns_2) gj_fu 0 M)
set_option maxHeartbeats 4000000 in
set_option maxRecDepth 20000 in
theorem t_J_X2_takeTurns_49 (hst : gj_Stat S) {r : gj_M} {rec2 : Int → gj_M → Option (gj_M)} (hrec2 : ∀ (l1 : Int) (M : gj_M), rec2 l1 M = some r → gj_W G l 4 0 0 yX2_takeTurns cX2_takeTurns 4 none (gj_qV fun S' M' => S = S' ∧ r = M') 0 0 2 [(0, jR 35), (1, jI l1)] [] S M) (l1 l2 : Int) (M : gj_M) (hF : J_X2_takeTurns_49 rec2 l1 l2 M = some r) : gj_W G l 4 0 0 yX2_takeTurns cX2_takeTurns 4 none (gj_qV fun S' M' => S = S' ∧ r = M') 0 0 49 [(0, jR 35), (1, jI l1), (2, jI l2)] [] S M := by
  unfold J_X2_takeTurns_49 at hF
  refine gj_aload_n (q := 50) (gj_dk okX2_takeTurns 30 rfl) rfl rfl ?_
  refine gj_iload_n (q := 51) (gj_dk okX2_takeTurns 31 rfl) rfl rfl ?_
  refine gj_iload_n (q := 52) (gj_dk okX2_takeTurns 32 rfl) rfl rfl ?_
  refine gj_callV (q := 55) (z := 35) (ci := 2) [jI l1, jI l2] rfl (t_X2_tie hst l1 l2 rfl) (gj_dk okX2_takeTurns 33 rfl) ml_X2_145 me_X2_tie (sh35 hst) rfl (gj_nm rfl) rfl (gj_kV fun S2 M2 h => ?_)
  obtain ⟨eS, eM⟩ := h; subst eS; subst eM
  refine gj_stp hF (fun M3 hF => ?_)
  refine gj_iinc (q := 58) (v := gj_w (l1 + 1)) (gj_dk okX2_takeTurns 34 rfl) rfl (by decide) rfl rfl ?_
  refine gj_goto (tgt := 2) (gj_dk okX2_takeTurns 35 rfl) (by decide) ?_
  refine gj_sub [(0, jR 35), (1, jI (gj_w (l1 + 1)))] ⟨rfl, rfl, trivial⟩ ?_
  exact hrec2 (gj_w (l1 + 1)) M3 hF
set_option maxHeartbeats 4000000 in
set_option maxRecDepth 20000 in
theorem t_J_X2_takeTurns_43 (hst : gj_Stat S) {r : gj_M} {rec2 : Int → gj_M → Option (gj_M)} {rec11 : Int → Int → Int → gj_M → Option (gj_M)} (hrec2 : ∀ (l1 : Int) (M : gj_M), rec2 l1 M = some r → gj_W G l 4 0 0 yX2_takeTurns cX2_takeTurns 4 none (gj_qV fun S' M' => S = S' ∧ r = M') 0 0 2 [(0, jR 35), (1, jI l1)] [] S M) (hrec11 : ∀ (l1 l2 l3 : Int) (M : gj_M), rec11 l1 l2 l3 M = some r → gj_W G l 4 0 0 yX2_takeTurns cX2_takeTurns 4 none (gj_qV fun S' M' => S = S' ∧ r = M') 0 0 11 [(0, jR 35), (1, jI l1), (2, jI l2), (3, jI l3)] [] S M) (l1 l2 l3 : Int) (M : gj_M) (hF : J_X2_takeTurns_43 rec2 rec11 l1 l2 l3 M = some r) : gj_W G l 4 0 0 yX2_takeTurns cX2_takeTurns 4 none (gj_qV fun S' M' => S = S' ∧ r = M') 0 0 43 [(0, jR 35), (1, jI l1), (2, jI l2), (3, jI l3)] [] S M := by
  unfold J_X2_takeTurns_43 at hF
  refine gj_iinc (q := 46) (v := gj_w (l3 + 1)) (gj_dk okX2_takeTurns 28 rfl) rfl (by decide) rfl rfl ?_
  refine gj_goto (tgt := 11) (gj_dk okX2_takeTurns 29 rfl) (by decide) ?_
  refine gj_sub [(0, jR 35), (1, jI l1), (2, jI l2), (3, jI (gj_w (l3 + 1)))] ⟨rfl, rfl, rfl, rfl, trivial⟩ ?_
  exact hrec11 l1 l2 (gj_w (l3 + 1)) M hF
set_option maxHeartbeats 4000000 in
set_option maxRecDepth 20000 in
theorem t_B_X2_takeTurns_11 (hst : gj_Stat S) {r : gj_M} {rec2 : Int → gj_M → Option (gj_M)} {rec11 : Int → Int → Int → gj_M → Option (gj_M)} (hrec2 : ∀ (l1 : Int) (M : gj_M), rec2 l1 M = some r → gj_W G l 4 0 0 yX2_takeTurns cX2_takeTurns 4 none (gj_qV fun S' M' => S = S' ∧ r = M') 0 0 2 [(0, jR 35), (1, jI l1)] [] S M) (hrec11 : ∀ (l1 l2 l3 : Int) (M : gj_M), rec11 l1 l2 l3 M = some r → gj_W G l 4 0 0 yX2_takeTurns cX2_takeTurns 4 none (gj_qV fun S' M' => S = S' ∧ r = M') 0 0 11 [(0, jR 35), (1, jI l1), (2, jI l2), (3, jI l3)] [] S M) (l1 l2 l3 : Int) (M : gj_M) (hF : B_X2_takeTurns_11 rec2 rec11 l1 l2 l3 M = some r) : gj_W G l 4 0 0 yX2_takeTurns cX2_takeTurns 4 none (gj_qV fun S' M' => S = S' ∧ r = M') 0 0 11 [(0, jR 35), (1, jI l1), (2, jI l2), (3, jI l3)] [] S M := by
  unfold B_X2_takeTurns_11 at hF
  refine gj_iload_n (q := 12) (gj_dk okX2_takeTurns 9 rfl) rfl rfl ?_
  refine gj_bipush (q := 14) (gj_dk okX2_takeTurns 10 rfl) (by decide) rfl rfl ?_
  refine gj_icmp_ge (q := 17) (tgt := 49) (gj_dk okX2_takeTurns 11 rfl) (by decide) rfl (fun c14 => ?_) (fun c14 => ?_)
  · -- 49
    replace hF := gj_ift c14 hF
    refine gj_sub [(0, jR 35), (1, jI l1), (2, jI l2)] ⟨rfl, rfl, rfl, trivial⟩ ?_
    exact t_J_X2_takeTurns_49 hst hrec2 l1 l2 M hF
  · -- 17
    replace hF := gj_iff c14 hF
    refine gj_aload_n (q := 18) (gj_dk okX2_takeTurns 12 rfl) rfl rfl ?_
    refine gj_iload_n (q := 19) (gj_dk okX2_takeTurns 13 rfl) rfl rfl ?_
    refine gj_iload_n (q := 20) (gj_dk okX2_takeTurns 14 rfl) rfl rfl ?_
    refine gj_callV (q := 23) (z := 35) (ci := 2) [jI l1, jI l3] rfl (t_X2_isLeftFor hst l1 l3 rfl) (gj_dk okX2_takeTurns 15 rfl) ml_X2_148 me_X2_isLeftFor (sh35 hst) rfl (gj_nm rfl) rfl (gj_kI fun x S2 M2 h => ?_)
    obtain ⟨bz, e, eS, eM⟩ := h; subst eS; subst eM; subst e
    refine gj_stpZ bz hF (fun x1 bx1 hF => ?_)
    refine gj_if_eq (q := 26) (tgt := 43) (gj_dk okX2_takeTurns 16 rfl) (by decide) rfl (fun c23 => ?_) (fun c23 => ?_)
    · -- 43
      replace hF := gj_ift c23 hF
      refine gj_sub [(0, jR 35), (1, jI l1), (2, jI l2), (3, jI l3)] ⟨rfl, rfl, rfl, rfl, trivial⟩ ?_
      exact t_J_X2_takeTurns_43 hst hrec2 hrec11 l1 l2 l3 M hF
    · -- 26
      replace hF := gj_iff c23 hF
      refine gj_iload_n (q := 27) (gj_dk okX2_takeTurns 17 rfl) rfl rfl ?_
      refine gj_iconst (q := 28) (gj_dk okX2_takeTurns 18 rfl) (by decide) rfl ?_
      refine gj_icmp_eq (q := 31) (tgt := 41) (gj_dk okX2_takeTurns 19 rfl) (by decide) rfl (fun c28 => ?_) (fun c28 => ?_)
      · -- 41
        replace hF := gj_ift c28 hF
        refine gj_iload_n (q := 42) (gj_dk okX2_takeTurns 26 rfl) rfl rfl ?_
        refine gj_istore_n (q := 43) (gj_dk okX2_takeTurns 27 rfl) (by decide) rfl ?_
        refine gj_sub [(0, jR 35), (1, jI l1), (2, jI l3), (3, jI l3)] ⟨rfl, rfl, rfl, rfl, trivial⟩ ?_
        exact t_J_X2_takeTurns_43 hst hrec2 hrec11 l1 l3 l3 M hF
      · -- 31
        replace hF := gj_iff c28 hF
        refine gj_aload_n (q := 32) (gj_dk okX2_takeTurns 20 rfl) rfl rfl ?_
        refine gj_iload_n (q := 33) (gj_dk okX2_takeTurns 21 rfl) rfl rfl ?_
        refine gj_iload_n (q := 34) (gj_dk okX2_takeTurns 22 rfl) rfl rfl ?_
        refine gj_iload_n (q := 35) (gj_dk okX2_takeTurns 23 rfl) rfl rfl ?_
        refine gj_callV (q := 38) (z := 35) (ci := 2) [jI l1, jI l3, jI l2] rfl (t_X2_soonerOf hst l1 l3 l2 rfl) (gj_dk okX2_takeTurns 24 rfl) ml_X2_107 me_X2_soonerOf (sh35 hst) rfl (gj_nm rfl) rfl (gj_kI fun x S2 M2 h => ?_)
        obtain ⟨bz, e, eS, eM⟩ := h; subst eS; subst eM; subst e
        refine gj_stpZ bz hF (fun x2 bx2 hF => ?_)
        refine gj_if_eq (q := 41) (tgt := 43) (gj_dk okX2_takeTurns 25 rfl) (by decide) rfl (fun c38 => ?_) (fun c38 => ?_)
        · -- 43
          replace hF := gj_ift c38 hF
          refine gj_sub [(0, jR 35), (1, jI l1), (2, jI l2), (3, jI l3)] ⟨rfl, rfl, rfl, rfl, trivial⟩ ?_
          exact t_J_X2_takeTurns_43 hst hrec2 hrec11 l1 l2 l3 M hF
        · -- 41
          replace hF := gj_iff c38 hF
          refine gj_iload_n (q := 42) (gj_dk okX2_takeTurns 26 rfl) rfl rfl ?_
          refine gj_istore_n (q := 43) (gj_dk okX2_takeTurns 27 rfl) (by decide) rfl ?_
          refine gj_sub [(0, jR 35), (1, jI l1), (2, jI l3), (3, jI l3)] ⟨rfl, rfl, rfl, rfl, trivial⟩ ?_
          exact t_J_X2_takeTurns_43 hst hrec2 hrec11 l1 l3 l3 M hF
theorem t_L_X2_takeTurns_11 (hst : gj_Stat S) {r : gj_M} {rec2 : Int → gj_M → Option (gj_M)} (hrec2 : ∀ (l1 : Int) (M : gj_M), rec2 l1 M = some r → gj_W G l 4 0 0 yX2_takeTurns cX2_takeTurns 4 none (gj_qV fun S' M' => S = S' ∧ r = M') 0 0 2 [(0, jR 35), (1, jI l1)] [] S M) : ∀ (m : Nat) (l1 : Int) (l2 : Int) (l3 : Int) (M : gj_M), gj_it (fun _ _ _ _ => none) (B_X2_takeTurns_11 rec2) m l1 l2 l3 M = some r → gj_W G l 4 0 0 yX2_takeTurns cX2_takeTurns 4 none (gj_qV fun S' M' => S = S' ∧ r = M') 0 0 11 [(0, jR 35), (1, jI l1), (2, jI l2), (3, jI l3)] [] S M := by
  intro m
  induction m with
  | zero => intro l1 l2 l3 M hF; cases (show (none : Option (gj_M)) = some r from hF)
  | succ m ih => intro l1 l2 l3 M hF; exact t_B_X2_takeTurns_11 hst hrec2 (fun l1 l2 l3 M h => ih l1 l2 l3 M h) l1 l2 l3 M hF
set_option maxHeartbeats 4000000 in
set_option maxRecDepth 20000 in
theorem t_B_X2_takeTurns_2 (hst : gj_Stat S) {r : gj_M} {rec2 : Int → gj_M → Option (gj_M)} (hrec2 : ∀ (l1 : Int) (M : gj_M), rec2 l1 M = some r → gj_W G l 4 0 0 yX2_takeTurns cX2_takeTurns 4 none (gj_qV fun S' M' => S = S' ∧ r = M') 0 0 2 [(0, jR 35), (1, jI l1)] [] S M) (l1 : Int) (M : gj_M) (hF : B_X2_takeTurns_2 rec2 l1 M = some r) : gj_W G l 4 0 0 yX2_takeTurns cX2_takeTurns 4 none (gj_qV fun S' M' => S = S' ∧ r = M') 0 0 2 [(0, jR 35), (1, jI l1)] [] S M := by
  unfold B_X2_takeTurns_2 at hF
  refine gj_iload_n (q := 3) (gj_dk okX2_takeTurns 2 rfl) rfl rfl ?_
  refine gj_iconst (q := 4) (gj_dk okX2_takeTurns 3 rfl) (by decide) rfl ?_
  refine gj_icmp_ge (q := 7) (tgt := 61) (gj_dk okX2_takeTurns 4 rfl) (by decide) rfl (fun c4 => ?_) (fun c4 => ?_)
  · -- 61
    replace hF := gj_ift c4 hF
    cases hF
    exact gj_vret (gj_dk okX2_takeTurns 36 rfl) rfl ⟨rfl, rfl, rfl⟩
  · -- 7
    replace hF := gj_iff c4 hF
    refine gj_iconst (q := 8) (gj_dk okX2_takeTurns 5 rfl) (by decide) rfl ?_
    refine gj_istore_n (q := 9) (gj_dk okX2_takeTurns 6 rfl) (by decide) rfl ?_
    refine gj_iconst (q := 10) (gj_dk okX2_takeTurns 7 rfl) (by decide) rfl ?_
    refine gj_istore_n (q := 11) (gj_dk okX2_takeTurns 8 rfl) (by decide) rfl ?_
    refine gj_sub [(0, jR 35), (1, jI l1), (2, jI (-1)), (3, jI 4)] ⟨rfl, rfl, rfl, rfl, trivial⟩ ?_
    exact t_L_X2_takeTurns_11 hst hrec2 gj_fu l1 (-1) 4 M hF
theorem t_L_X2_takeTurns_2 (hst : gj_Stat S) {r : gj_M} : ∀ (m : Nat) (l1 : Int) (M : gj_M), gj_it (fun _ _ => none) (B_X2_takeTurns_2) m l1 M = some r → gj_W G l 4 0 0 yX2_takeTurns cX2_takeTurns 4 none (gj_qV fun S' M' => S = S' ∧ r = M') 0 0 2 [(0, jR 35), (1, jI l1)] [] S M := by
  intro m
  induction m with
  | zero => intro l1 M hF; cases (show (none : Option (gj_M)) = some r from hF)
  | succ m ih => intro l1 M hF; exact t_B_X2_takeTurns_2 hst (fun l1 M h => ih l1 M h) l1 M hF
set_option maxHeartbeats 4000000 in
set_option maxRecDepth 20000 in
theorem t_X2_takeTurns (hst : gj_Stat S) {r : gj_M} (hF : F_X2_takeTurns M = some r) : gj_C G l 4 0 0 yX2_takeTurns cX2_takeTurns 4 none [jR 35] S M (gj_qV fun S' M' => S = S' ∧ r = M') := by
  refine gj_Cof (by decide +kernel) (Nat.le_of_ble_eq_true rfl) ?_
  change gj_W G l 4 0 0 yX2_takeTurns cX2_takeTurns 4 none (gj_qV fun S' M' => S = S' ∧ r = M') 0 0 0 [(0, jR 35)] [] S M
  unfold F_X2_takeTurns at hF
  refine gj_iconst (q := 1) (gj_dk okX2_takeTurns 0 rfl) (by decide) rfl ?_
  refine gj_istore_n (q := 2) (gj_dk okX2_takeTurns 1 rfl) (by decide) rfl ?_
  refine gj_sub [(0, jR 35), (1, jI 0)] ⟨rfl, rfl, trivial⟩ ?_
  exact t_L_X2_takeTurns_2 hst gj_fu 0 M hF
def F_X3_lot (a1 : Int) (M : gj_M) : Option (Int × gj_M) :=
  gj_let (gj_up M 21 2 (gj_w (gj_land (gj_wl ((gj_wl ((M 21 2) * 1103515245)) + 12345)) 2147483647))) (fun M1 => (if a1 ≤ 0 then (some ((0, M1))) else gj_chk (¬ a1 = 0) ((some ((Int.tmod (gj_w (Int.tdiv (M1 21 2) 256)) a1, M1))))))
set_option maxHeartbeats 4000000 in
set_option maxRecDepth 20000 in
theorem t_X3_lot (hst : gj_Stat S) (a1 : Int) {r : Int × gj_M} (hF : F_X3_lot a1 M = some r) : gj_C G l 1 0 0 yX3_lot cX3_lot 2 (some .int) [jR 21, jI a1] S M (gj_qI fun x S' M' => r.1 = x ∧ S = S' ∧ r.2 = M') := by
  refine gj_Cof (by decide +kernel) (Nat.le_of_ble_eq_true rfl) ?_
  change gj_W G l 1 0 0 yX3_lot cX3_lot 2 (some .int) (gj_qI fun x S' M' => r.1 = x ∧ S = S' ∧ r.2 = M') 0 0 0 [(0, jR 21), (1, jI a1)] [] S M
  unfold F_X3_lot at hF
  refine gj_aload_n (q := 1) (gj_dk okX3_lot 0 rfl) rfl rfl ?_
  refine gj_aload_n (q := 2) (gj_dk okX3_lot 1 rfl) rfl rfl ?_
  refine gj_gI (q := 5) (j := 2) (gj_dk okX3_lot 2 rfl) ff_X3_53 (sh21 hst) (by decide) rfl rfl ?_
  refine gj_i2l (q := 6) (gj_dk okX3_lot 3 rfl) rfl ?_
  refine gj_ldc2 (q := 9) (z := 1103515245) (gj_dk okX3_lot 4 rfl) kl_X3_79 (by decide) rfl ?_
  refine gj_lmul (q := 10) (gj_dk okX3_lot 5 rfl) rfl ?_
  refine gj_ldc2 (q := 13) (z := 12345) (gj_dk okX3_lot 6 rfl) kl_X3_81 (by decide) rfl ?_
  refine gj_ladd (q := 14) (gj_dk okX3_lot 7 rfl) rfl ?_
  refine gj_ldc2 (q := 17) (z := 2147483647) (gj_dk okX3_lot 8 rfl) kl_X3_83 (by decide) rfl ?_
  refine gj_landR (q := 18) (gj_dk okX3_lot 9 rfl) rfl ?_
  refine gj_l2i (q := 19) (gj_dk okX3_lot 10 rfl) rfl ?_
  refine gj_pfI (q := 22) (j := 2) (gj_dk okX3_lot 11 rfl) ff_X3_53 (sh21 hst) (by decide) rfl rfl ?_
  refine gj_stp hF (fun M1 hF => ?_)
  refine gj_iload_n (q := 23) (gj_dk okX3_lot 12 rfl) rfl rfl ?_
  refine gj_if_le (q := 26) (tgt := 39) (gj_dk okX3_lot 13 rfl) (by decide) rfl (fun c23 => ?_) (fun c23 => ?_)
  · -- 39
    replace hF := gj_ift c23 hF
    refine gj_iconst (q := 40) (gj_dk okX3_lot 21 rfl) (by decide) rfl ?_
    cases hF
    exact gj_iret (gj_dk okX3_lot 22 rfl) rfl ⟨_, rfl, rfl, rfl, rfl⟩
  · -- 26
    replace hF := gj_iff c23 hF
    refine gj_aload_n (q := 27) (gj_dk okX3_lot 14 rfl) rfl rfl ?_
    refine gj_gI (q := 30) (j := 2) (gj_dk okX3_lot 15 rfl) ff_X3_53 (sh21 hst) (by decide) rfl rfl ?_
    refine gj_sipush (q := 33) (gj_dk okX3_lot 16 rfl) (by decide) rfl rfl ?_
    refine gj_idiv (q := 34) (gj_dk okX3_lot 17 rfl) (by decide) rfl ?_
    refine gj_iload_n (q := 35) (gj_dk okX3_lot 18 rfl) rfl rfl ?_
    obtain ⟨b2, hF⟩ := gj_ckd hF
    refine gj_irem (q := 36) (gj_dk okX3_lot 19 rfl) b2 rfl ?_
    refine gj_goto (tgt := 40) (gj_dk okX3_lot 20 rfl) (by decide) ?_
    cases hF
    exact gj_iret (gj_dk okX3_lot 22 rfl) rfl ⟨_, rfl, rfl, rfl, rfl⟩
def B_X2_openOne_5 (M : gj_M) (rec5 : Int → Int → Int → Option (Int)) (l1 l3 l4 : Int) : Option (Int) :=
  (if 8 ≤ l4 then (some (-1)) else gj_letI (f_X2_isLeftFor l1 l4 M) (fun x1 => (if x1 = 0 then rec5 l1 l3 (gj_w (l4 + 1)) else (if l3 = 0 then (some (l4)) else rec5 l1 (gj_w (l3 + (-1))) (gj_w (l4 + 1))))))
def F_X2_openOne (a1 : Int) (a2 : Int) (M : gj_M) : Option (Int) :=
  (gj_it (fun _ _ _ => none) (B_X2_openOne_5 M) gj_fu a1 a2 4)
set_option maxHeartbeats 4000000 in
set_option maxRecDepth 20000 in
theorem t_B_X2_openOne_5 (hst : gj_Stat S) {r : Int} {rec5 : Int → Int → Int → Option (Int)} (hrec5 : ∀ (l1 l3 l4 : Int), rec5 l1 l3 l4 = some r → gj_W G l 4 0 0 yX2_openOne cX2_openOne 5 (some .int) (gj_qI fun x S' M' => r = x ∧ S = S' ∧ M = M') 0 0 5 [(0, jR 35), (1, jI l1), (3, jI l3), (4, jI l4)] [] S M) (l1 l3 l4 : Int) (hF : B_X2_openOne_5 M rec5 l1 l3 l4 = some r) : gj_W G l 4 0 0 yX2_openOne cX2_openOne 5 (some .int) (gj_qI fun x S' M' => r = x ∧ S = S' ∧ M = M') 0 0 5 [(0, jR 35), (1, jI l1), (3, jI l3), (4, jI l4)] [] S M := by
  unfold B_X2_openOne_5 at hF
  refine gj_iload (q := 7) (gj_dk okX2_openOne 4 rfl) rfl rfl ?_
  refine gj_bipush (q := 9) (gj_dk okX2_openOne 5 rfl) (by decide) rfl rfl ?_
  refine gj_icmp_ge (q := 12) (tgt := 38) (gj_dk okX2_openOne 6 rfl) (by decide) rfl (fun c9 => ?_) (fun c9 => ?_)
  · -- 38
    replace hF := gj_ift c9 hF
    refine gj_iconst (q := 39) (gj_dk okX2_openOne 19 rfl) (by decide) rfl ?_
    cases hF
    exact gj_iret (gj_dk okX2_openOne 20 rfl) rfl ⟨_, rfl, rfl, rfl, rfl⟩
  · -- 12
    replace hF := gj_iff c9 hF
    refine gj_aload_n (q := 13) (gj_dk okX2_openOne 7 rfl) rfl rfl ?_
    refine gj_iload_n (q := 14) (gj_dk okX2_openOne 8 rfl) rfl rfl ?_
    refine gj_iload (q := 16) (gj_dk okX2_openOne 9 rfl) rfl rfl ?_
    refine gj_callV (q := 19) (z := 35) (ci := 2) [jI l1, jI l4] rfl (t_X2_isLeftFor hst l1 l4 rfl) (gj_dk okX2_openOne 10 rfl) ml_X2_148 me_X2_isLeftFor (sh35 hst) rfl (gj_nm rfl) rfl (gj_kI fun x S2 M2 h => ?_)
    obtain ⟨bz, e, eS, eM⟩ := h; subst eS; subst eM; subst e
    refine gj_stpZ bz hF (fun x1 bx1 hF => ?_)
    refine gj_if_eq (q := 22) (tgt := 32) (gj_dk okX2_openOne 11 rfl) (by decide) rfl (fun c19 => ?_) (fun c19 => ?_)
    · -- 32
      replace hF := gj_ift c19 hF
      refine gj_iinc (q := 35) (v := gj_w (l4 + 1)) (gj_dk okX2_openOne 17 rfl) rfl (by decide) rfl rfl ?_
      refine gj_goto (tgt := 5) (gj_dk okX2_openOne 18 rfl) (by decide) ?_
      refine gj_sub [(0, jR 35), (1, jI l1), (3, jI l3), (4, jI (gj_w (l4 + 1)))] ⟨rfl, rfl, rfl, rfl, trivial⟩ ?_
      exact hrec5 l1 l3 (gj_w (l4 + 1)) hF
    · -- 22
      replace hF := gj_iff c19 hF
      refine gj_iload_n (q := 23) (gj_dk okX2_openOne 12 rfl) rfl rfl ?_
      refine gj_if_ne (q := 26) (tgt := 29) (gj_dk okX2_openOne 13 rfl) (by decide) rfl (fun c23 => ?_) (fun c23 => ?_)
      · -- 29
        replace hF := gj_iff c23 hF
        refine gj_iinc (q := 32) (v := gj_w (l3 + (-1))) (gj_dk okX2_openOne 16 rfl) rfl (by decide) rfl rfl ?_
        refine gj_iinc (q := 35) (v := gj_w (l4 + 1)) (gj_dk okX2_openOne 17 rfl) rfl (by decide) rfl rfl ?_
        refine gj_goto (tgt := 5) (gj_dk okX2_openOne 18 rfl) (by decide) ?_
        refine gj_sub [(0, jR 35), (1, jI l1), (3, jI (gj_w (l3 + (-1)))), (4, jI (gj_w (l4 + 1)))] ⟨rfl, rfl, rfl, rfl, trivial⟩ ?_
        exact hrec5 l1 (gj_w (l3 + (-1))) (gj_w (l4 + 1)) hF
      · -- 26
        replace hF := gj_ift c23 hF
        refine gj_iload (q := 28) (gj_dk okX2_openOne 14 rfl) rfl rfl ?_
        cases hF
        exact gj_iret (gj_dk okX2_openOne 15 rfl) rfl ⟨_, rfl, rfl, rfl, rfl⟩
theorem t_L_X2_openOne_5 (hst : gj_Stat S) {r : Int} : ∀ (m : Nat) (l1 : Int) (l3 : Int) (l4 : Int), gj_it (fun _ _ _ => none) (B_X2_openOne_5 M) m l1 l3 l4 = some r → gj_W G l 4 0 0 yX2_openOne cX2_openOne 5 (some .int) (gj_qI fun x S' M' => r = x ∧ S = S' ∧ M = M') 0 0 5 [(0, jR 35), (1, jI l1), (3, jI l3), (4, jI l4)] [] S M := by
  intro m
  induction m with
  | zero => intro l1 l3 l4 hF; cases (show (none : Option (Int)) = some r from hF)
  | succ m ih => intro l1 l3 l4 hF; exact t_B_X2_openOne_5 hst (fun l1 l3 l4 h => ih l1 l3 l4 h) l1 l3 l4 hF
set_option maxHeartbeats 4000000 in
set_option maxRecDepth 20000 in
theorem t_X2_openOne (hst : gj_Stat S) (a1 a2 : Int) {r : Int} (hF : F_X2_openOne a1 a2 M = some r) : gj_C G l 4 0 0 yX2_openOne cX2_openOne 5 (some .int) [jR 35, jI a1, jI a2] S M (gj_qI fun x S' M' => r = x ∧ S = S' ∧ M = M') := by
  refine gj_Cof (by decide +kernel) (Nat.le_of_ble_eq_true rfl) ?_
  change gj_W G l 4 0 0 yX2_openOne cX2_openOne 5 (some .int) (gj_qI fun x S' M' => r = x ∧ S = S' ∧ M = M') 0 0 0 [(0, jR 35), (1, jI a1), (2, jI a2)] [] S M
  unfold F_X2_openOne at hF
  refine gj_iload_n (q := 1) (gj_dk okX2_openOne 0 rfl) rfl rfl ?_
  refine gj_istore_n (q := 2) (gj_dk okX2_openOne 1 rfl) (by decide) rfl ?_
  refine gj_iconst (q := 3) (gj_dk okX2_openOne 2 rfl) (by decide) rfl ?_
  refine gj_istore (q := 5) (gj_dk okX2_openOne 3 rfl) (by decide) rfl ?_
  refine gj_sub [(0, jR 35), (1, jI a1), (3, jI a2), (4, jI 4)] ⟨rfl, rfl, rfl, rfl, trivial⟩ ?_
  exact t_L_X2_openOne_5 hst gj_fu a1 a2 4 hF
def J_X2_drawLots_62 (rec2 : Int → gj_M → Option (gj_M)) (l1 : Int) (M : gj_M) : Option (gj_M) :=
  rec2 (gj_w (l1 + 1)) M
def J_X2_drawLots_40 (rec2 : Int → gj_M → Option (gj_M)) (l1 l2 : Int) (M : gj_M) : Option (gj_M) :=
  (if l2 ≤ 0 then (J_X2_drawLots_62 rec2 l1 M) else gj_bnd2 (F_X3_lot l2 M) (fun x2 M3 => gj_bnd (F_X2_openOne l1 x2 M3) (fun x4 => gj_let (f_X2_tie l1 x4 M3) (fun M6 => (J_X2_drawLots_62 rec2 l1 M6)))))
def J_X2_drawLots_32 (rec2 : Int → gj_M → Option (gj_M)) (rec11 : Int → Int → Int → gj_M → Option (gj_M)) (l1 l3 s0 s1 : Int) (M : gj_M) : Option (gj_M) :=
  rec11 l1 (gj_w (s0 + s1)) (gj_w (l3 + 1)) M
def B_X2_drawLots_11 (rec2 : Int → gj_M → Option (gj_M)) (rec11 : Int → Int → Int → gj_M → Option (gj_M)) (l1 l2 l3 : Int) (M : gj_M) : Option (gj_M) :=
  (if 8 ≤ l3 then (J_X2_drawLots_40 rec2 l1 l2 M) else gj_letI (f_X2_isLeftFor l1 l3 M) (fun x1 => (if x1 = 0 then (J_X2_drawLots_32 rec2 rec11 l1 l3 l2 0 M) else (J_X2_drawLots_32 rec2 rec11 l1 l3 l2 1 M))))
def B_X2_drawLots_2 (rec2 : Int → gj_M → Option (gj_M)) (l1 : Int) (M : gj_M) : Option (gj_M) :=
  (if 4 ≤ l1 then (some (M)) else (gj_it (fun _ _ _ _ => none) (B_X2_drawLots_11 rec2) gj_fu l1 0 4 M))
def F_X2_drawLots (M : gj_M) : Option (gj_M) :=
  (gj_it (fun _ _ => none) (B_X2_drawLots_2) gj_fu 0 M)
set_option maxHeartbeats 4000000 in
set_option maxRecDepth 20000 in
theorem t_J_X2_drawLots_62 (hst : gj_Stat S) {r : gj_M} {rec2 : Int → gj_M → Option (gj_M)} (hrec2 : ∀ (l1 : Int) (M : gj_M), rec2 l1 M = some r → gj_W G l 5 0 0 yX2_drawLots cX2_drawLots 4 none (gj_qV fun S' M' => S = S' ∧ r = M') 0 0 2 [(0, jR 35), (1, jI l1)] [] S M) (l1 : Int) (M : gj_M) (hF : J_X2_drawLots_62 rec2 l1 M = some r) : gj_W G l 5 0 0 yX2_drawLots cX2_drawLots 4 none (gj_qV fun S' M' => S = S' ∧ r = M') 0 0 62 [(0, jR 35), (1, jI l1)] [] S M := by
  unfold J_X2_drawLots_62 at hF
  refine gj_iinc (q := 65) (v := gj_w (l1 + 1)) (gj_dk okX2_drawLots 37 rfl) rfl (by decide) rfl rfl ?_
  refine gj_goto (tgt := 2) (gj_dk okX2_drawLots 38 rfl) (by decide) ?_
  refine gj_sub [(0, jR 35), (1, jI (gj_w (l1 + 1)))] ⟨rfl, rfl, trivial⟩ ?_
  exact hrec2 (gj_w (l1 + 1)) M hF
set_option maxHeartbeats 4000000 in
set_option maxRecDepth 20000 in
theorem t_J_X2_drawLots_40 (hst : gj_Stat S) {r : gj_M} {rec2 : Int → gj_M → Option (gj_M)} (hrec2 : ∀ (l1 : Int) (M : gj_M), rec2 l1 M = some r → gj_W G l 5 0 0 yX2_drawLots cX2_drawLots 4 none (gj_qV fun S' M' => S = S' ∧ r = M') 0 0 2 [(0, jR 35), (1, jI l1)] [] S M) (l1 l2 : Int) (M : gj_M) (hF : J_X2_drawLots_40 rec2 l1 l2 M = some r) : gj_W G l 5 0 0 yX2_drawLots cX2_drawLots 4 none (gj_qV fun S' M' => S = S' ∧ r = M') 0 0 40 [(0, jR 35), (1, jI l1), (2, jI l2)] [] S M := by
  unfold J_X2_drawLots_40 at hF
  refine gj_iload_n (q := 41) (gj_dk okX2_drawLots 25 rfl) rfl rfl ?_
  refine gj_if_le (q := 44) (tgt := 62) (gj_dk okX2_drawLots 26 rfl) (by decide) rfl (fun c41 => ?_) (fun c41 => ?_)
  · -- 62
    replace hF := gj_ift c41 hF
    refine gj_sub [(0, jR 35), (1, jI l1)] ⟨rfl, rfl, trivial⟩ ?_
    exact t_J_X2_drawLots_62 hst hrec2 l1 M hF
  · -- 44
    replace hF := gj_iff c41 hF
    refine gj_aload_n (q := 45) (gj_dk okX2_drawLots 27 rfl) rfl rfl ?_
    refine gj_iload_n (q := 46) (gj_dk okX2_drawLots 28 rfl) rfl rfl ?_
    refine gj_aload_n (q := 47) (gj_dk okX2_drawLots 29 rfl) rfl rfl ?_
    refine gj_iload_n (q := 48) (gj_dk okX2_drawLots 30 rfl) rfl rfl ?_
    refine gj_aload_n (q := 49) (gj_dk okX2_drawLots 31 rfl) rfl rfl ?_
    refine gj_gR (q := 52) (j := 1) (gj_dk okX2_drawLots 32 rfl) ff_X2_32 (sh35 hst) (by decide) rfl (rf35_1 hst) rfl ?_
    refine gj_iload_n (q := 53) (gj_dk okX2_drawLots 33 rfl) rfl rfl ?_
    obtain ⟨x2, M3, hG, hF⟩ := gj_bnd2d hF
    refine gj_callV (q := 56) (z := 21) (ci := 3) [jI l2] rfl (t_X3_lot hst l2 hG) (gj_dk okX2_drawLots 34 rfl) ml_X2_151 me_X3_lot (sh21 hst) rfl (gj_nm rfl) rfl (gj_kI fun y S2 M2 h => ?_)
    obtain ⟨e, eS, eM⟩ := h; subst eS; subst eM; subst e; clear hG
    dsimp only
    obtain ⟨x4, hG, hF⟩ := gj_bndd hF
    refine gj_callV (q := 59) (z := 35) (ci := 2) [jI l1, jI x2] rfl (t_X2_openOne hst l1 x2 hG) (gj_dk okX2_drawLots 35 rfl) ml_X2_154 me_X2_openOne (sh35 hst) rfl (gj_nm rfl) rfl (gj_kI fun y S2 M2 h => ?_)
    obtain ⟨e, eS, eM⟩ := h; subst eS; subst eM; subst e; clear hG
    refine gj_callV (q := 62) (z := 35) (ci := 2) [jI l1, jI x4] rfl (t_X2_tie hst l1 x4 rfl) (gj_dk okX2_drawLots 36 rfl) ml_X2_145 me_X2_tie (sh35 hst) rfl (gj_nm rfl) rfl (gj_kV fun S2 M2 h => ?_)
    obtain ⟨eS, eM⟩ := h; subst eS; subst eM
    refine gj_stp hF (fun M6 hF => ?_)
    refine gj_sub [(0, jR 35), (1, jI l1)] ⟨rfl, rfl, trivial⟩ ?_
    exact t_J_X2_drawLots_62 hst hrec2 l1 M6 hF
set_option maxHeartbeats 4000000 in
set_option maxRecDepth 20000 in
theorem t_J_X2_drawLots_32 (hst : gj_Stat S) {r : gj_M} {rec2 : Int → gj_M → Option (gj_M)} {rec11 : Int → Int → Int → gj_M → Option (gj_M)} (hrec2 : ∀ (l1 : Int) (M : gj_M), rec2 l1 M = some r → gj_W G l 5 0 0 yX2_drawLots cX2_drawLots 4 none (gj_qV fun S' M' => S = S' ∧ r = M') 0 0 2 [(0, jR 35), (1, jI l1)] [] S M) (hrec11 : ∀ (l1 l2 l3 : Int) (M : gj_M), rec11 l1 l2 l3 M = some r → gj_W G l 5 0 0 yX2_drawLots cX2_drawLots 4 none (gj_qV fun S' M' => S = S' ∧ r = M') 0 0 11 [(0, jR 35), (1, jI l1), (2, jI l2), (3, jI l3)] [] S M) (l1 l3 s0 s1 : Int) (M : gj_M) (hF : J_X2_drawLots_32 rec2 rec11 l1 l3 s0 s1 M = some r) : gj_W G l 5 0 0 yX2_drawLots cX2_drawLots 4 none (gj_qV fun S' M' => S = S' ∧ r = M') 0 0 32 [(0, jR 35), (1, jI l1), (3, jI l3)] [jI s1, jI s0] S M := by
  unfold J_X2_drawLots_32 at hF
  refine gj_iadd (q := 33) (gj_dk okX2_drawLots 21 rfl) rfl ?_
  refine gj_istore_n (q := 34) (gj_dk okX2_drawLots 22 rfl) (by decide) rfl ?_
  refine gj_iinc (q := 37) (v := gj_w (l3 + 1)) (gj_dk okX2_drawLots 23 rfl) rfl (by decide) rfl rfl ?_
  refine gj_goto (tgt := 11) (gj_dk okX2_drawLots 24 rfl) (by decide) ?_
  refine gj_sub [(0, jR 35), (1, jI l1), (2, jI (gj_w (s0 + s1))), (3, jI (gj_w (l3 + 1)))] ⟨rfl, rfl, rfl, rfl, trivial⟩ ?_
  exact hrec11 l1 (gj_w (s0 + s1)) (gj_w (l3 + 1)) M hF
set_option maxHeartbeats 4000000 in
set_option maxRecDepth 20000 in
theorem t_B_X2_drawLots_11 (hst : gj_Stat S) {r : gj_M} {rec2 : Int → gj_M → Option (gj_M)} {rec11 : Int → Int → Int → gj_M → Option (gj_M)} (hrec2 : ∀ (l1 : Int) (M : gj_M), rec2 l1 M = some r → gj_W G l 5 0 0 yX2_drawLots cX2_drawLots 4 none (gj_qV fun S' M' => S = S' ∧ r = M') 0 0 2 [(0, jR 35), (1, jI l1)] [] S M) (hrec11 : ∀ (l1 l2 l3 : Int) (M : gj_M), rec11 l1 l2 l3 M = some r → gj_W G l 5 0 0 yX2_drawLots cX2_drawLots 4 none (gj_qV fun S' M' => S = S' ∧ r = M') 0 0 11 [(0, jR 35), (1, jI l1), (2, jI l2), (3, jI l3)] [] S M) (l1 l2 l3 : Int) (M : gj_M) (hF : B_X2_drawLots_11 rec2 rec11 l1 l2 l3 M = some r) : gj_W G l 5 0 0 yX2_drawLots cX2_drawLots 4 none (gj_qV fun S' M' => S = S' ∧ r = M') 0 0 11 [(0, jR 35), (1, jI l1), (2, jI l2), (3, jI l3)] [] S M := by
  unfold B_X2_drawLots_11 at hF
  refine gj_iload_n (q := 12) (gj_dk okX2_drawLots 9 rfl) rfl rfl ?_
  refine gj_bipush (q := 14) (gj_dk okX2_drawLots 10 rfl) (by decide) rfl rfl ?_
  refine gj_icmp_ge (q := 17) (tgt := 40) (gj_dk okX2_drawLots 11 rfl) (by decide) rfl (fun c14 => ?_) (fun c14 => ?_)
  · -- 40
    replace hF := gj_ift c14 hF
    refine gj_sub [(0, jR 35), (1, jI l1), (2, jI l2)] ⟨rfl, rfl, rfl, trivial⟩ ?_
    exact t_J_X2_drawLots_40 hst hrec2 l1 l2 M hF
  · -- 17
    replace hF := gj_iff c14 hF
    refine gj_iload_n (q := 18) (gj_dk okX2_drawLots 12 rfl) rfl rfl ?_
    refine gj_aload_n (q := 19) (gj_dk okX2_drawLots 13 rfl) rfl rfl ?_
    refine gj_iload_n (q := 20) (gj_dk okX2_drawLots 14 rfl) rfl rfl ?_
    refine gj_iload_n (q := 21) (gj_dk okX2_drawLots 15 rfl) rfl rfl ?_
    refine gj_callV (q := 24) (z := 35) (ci := 2) [jI l1, jI l3] rfl (t_X2_isLeftFor hst l1 l3 rfl) (gj_dk okX2_drawLots 16 rfl) ml_X2_148 me_X2_isLeftFor (sh35 hst) rfl (gj_nm rfl) rfl (gj_kI fun x S2 M2 h => ?_)
    obtain ⟨bz, e, eS, eM⟩ := h; subst eS; subst eM; subst e
    refine gj_stpZ bz hF (fun x1 bx1 hF => ?_)
    refine gj_if_eq (q := 27) (tgt := 31) (gj_dk okX2_drawLots 17 rfl) (by decide) rfl (fun c24 => ?_) (fun c24 => ?_)
    · -- 31
      replace hF := gj_ift c24 hF
      refine gj_iconst (q := 32) (gj_dk okX2_drawLots 20 rfl) (by decide) rfl ?_
      refine gj_sub [(0, jR 35), (1, jI l1), (3, jI l3)] ⟨rfl, rfl, rfl, trivial⟩ ?_
      exact t_J_X2_drawLots_32 hst hrec2 hrec11 l1 l3 l2 0 M hF
    · -- 27
      replace hF := gj_iff c24 hF
      refine gj_iconst (q := 28) (gj_dk okX2_drawLots 18 rfl) (by decide) rfl ?_
      refine gj_goto (tgt := 32) (gj_dk okX2_drawLots 19 rfl) (by decide) ?_
      refine gj_sub [(0, jR 35), (1, jI l1), (3, jI l3)] ⟨rfl, rfl, rfl, trivial⟩ ?_
      exact t_J_X2_drawLots_32 hst hrec2 hrec11 l1 l3 l2 1 M hF
theorem t_L_X2_drawLots_11 (hst : gj_Stat S) {r : gj_M} {rec2 : Int → gj_M → Option (gj_M)} (hrec2 : ∀ (l1 : Int) (M : gj_M), rec2 l1 M = some r → gj_W G l 5 0 0 yX2_drawLots cX2_drawLots 4 none (gj_qV fun S' M' => S = S' ∧ r = M') 0 0 2 [(0, jR 35), (1, jI l1)] [] S M) : ∀ (m : Nat) (l1 : Int) (l2 : Int) (l3 : Int) (M : gj_M), gj_it (fun _ _ _ _ => none) (B_X2_drawLots_11 rec2) m l1 l2 l3 M = some r → gj_W G l 5 0 0 yX2_drawLots cX2_drawLots 4 none (gj_qV fun S' M' => S = S' ∧ r = M') 0 0 11 [(0, jR 35), (1, jI l1), (2, jI l2), (3, jI l3)] [] S M := by
  intro m
  induction m with
  | zero => intro l1 l2 l3 M hF; cases (show (none : Option (gj_M)) = some r from hF)
  | succ m ih => intro l1 l2 l3 M hF; exact t_B_X2_drawLots_11 hst hrec2 (fun l1 l2 l3 M h => ih l1 l2 l3 M h) l1 l2 l3 M hF
set_option maxHeartbeats 4000000 in
set_option maxRecDepth 20000 in
theorem t_B_X2_drawLots_2 (hst : gj_Stat S) {r : gj_M} {rec2 : Int → gj_M → Option (gj_M)} (hrec2 : ∀ (l1 : Int) (M : gj_M), rec2 l1 M = some r → gj_W G l 5 0 0 yX2_drawLots cX2_drawLots 4 none (gj_qV fun S' M' => S = S' ∧ r = M') 0 0 2 [(0, jR 35), (1, jI l1)] [] S M) (l1 : Int) (M : gj_M) (hF : B_X2_drawLots_2 rec2 l1 M = some r) : gj_W G l 5 0 0 yX2_drawLots cX2_drawLots 4 none (gj_qV fun S' M' => S = S' ∧ r = M') 0 0 2 [(0, jR 35), (1, jI l1)] [] S M := by
  unfold B_X2_drawLots_2 at hF
  refine gj_iload_n (q := 3) (gj_dk okX2_drawLots 2 rfl) rfl rfl ?_
  refine gj_iconst (q := 4) (gj_dk okX2_drawLots 3 rfl) (by decide) rfl ?_
  refine gj_icmp_ge (q := 7) (tgt := 68) (gj_dk okX2_drawLots 4 rfl) (by decide) rfl (fun c4 => ?_) (fun c4 => ?_)
  · -- 68
    replace hF := gj_ift c4 hF
    cases hF
    exact gj_vret (gj_dk okX2_drawLots 39 rfl) rfl ⟨rfl, rfl, rfl⟩
  · -- 7
    replace hF := gj_iff c4 hF
    refine gj_iconst (q := 8) (gj_dk okX2_drawLots 5 rfl) (by decide) rfl ?_
    refine gj_istore_n (q := 9) (gj_dk okX2_drawLots 6 rfl) (by decide) rfl ?_
    refine gj_iconst (q := 10) (gj_dk okX2_drawLots 7 rfl) (by decide) rfl ?_
    refine gj_istore_n (q := 11) (gj_dk okX2_drawLots 8 rfl) (by decide) rfl ?_
    refine gj_sub [(0, jR 35), (1, jI l1), (2, jI 0), (3, jI 4)] ⟨rfl, rfl, rfl, rfl, trivial⟩ ?_
    exact t_L_X2_drawLots_11 hst hrec2 gj_fu l1 0 4 M hF
theorem t_L_X2_drawLots_2 (hst : gj_Stat S) {r : gj_M} : ∀ (m : Nat) (l1 : Int) (M : gj_M), gj_it (fun _ _ => none) (B_X2_drawLots_2) m l1 M = some r → gj_W G l 5 0 0 yX2_drawLots cX2_drawLots 4 none (gj_qV fun S' M' => S = S' ∧ r = M') 0 0 2 [(0, jR 35), (1, jI l1)] [] S M := by
  intro m
  induction m with
  | zero => intro l1 M hF; cases (show (none : Option (gj_M)) = some r from hF)
  | succ m ih => intro l1 M hF; exact t_B_X2_drawLots_2 hst (fun l1 M h => ih l1 M h) l1 M hF
set_option maxHeartbeats 4000000 in
set_option maxRecDepth 20000 in
theorem t_X2_drawLots (hst : gj_Stat S) {r : gj_M} (hF : F_X2_drawLots M = some r) : gj_C G l 5 0 0 yX2_drawLots cX2_drawLots 4 none [jR 35] S M (gj_qV fun S' M' => S = S' ∧ r = M') := by
  refine gj_Cof (by decide +kernel) (Nat.le_of_ble_eq_true rfl) ?_
  change gj_W G l 5 0 0 yX2_drawLots cX2_drawLots 4 none (gj_qV fun S' M' => S = S' ∧ r = M') 0 0 0 [(0, jR 35)] [] S M
  unfold F_X2_drawLots at hF
  refine gj_iconst (q := 1) (gj_dk okX2_drawLots 0 rfl) (by decide) rfl ?_
  refine gj_istore_n (q := 2) (gj_dk okX2_drawLots 1 rfl) (by decide) rfl ?_
  refine gj_sub [(0, jR 35), (1, jI 0)] ⟨rfl, rfl, trivial⟩ ?_
  exact t_L_X2_drawLots_2 hst gj_fu 0 M hF
def F_X2_pairUp (a1 : Int) (M : gj_M) : Option (gj_M) :=
  gj_let (f_fill M 40 8 (-1)) (fun M1 => gj_let (f_fill M1 39 16 0) (fun M2 => (if a1 = 0 then gj_bnd (F_X2_askAll 0 M2) (fun M4 => (some (M4))) else (if a1 = 1 then gj_bnd (F_X2_askAll 4 M2) (fun M6 => (some (M6))) else (if a1 = 2 then gj_bnd (F_X2_takeTurns M2) (fun M8 => (some (M8))) else gj_bnd (F_X2_drawLots M2) (fun M10 => (some (M10))))))))
set_option maxHeartbeats 4000000 in
set_option maxRecDepth 20000 in
theorem t_X2_pairUp (hst : gj_Stat S) (a1 : Int) {r : gj_M} (hF : F_X2_pairUp a1 M = some r) : gj_C G l 6 0 0 yX2_pairUp cX2_pairUp 2 none [jR 35, jI a1] S M (gj_qV fun S' M' => S = S' ∧ r = M') := by
  refine gj_Cof (by decide +kernel) (Nat.le_of_ble_eq_true rfl) ?_
  change gj_W G l 6 0 0 yX2_pairUp cX2_pairUp 2 none (gj_qV fun S' M' => S = S' ∧ r = M') 0 0 0 [(0, jR 35), (1, jI a1)] [] S M
  unfold F_X2_pairUp at hF
  refine gj_aload_n (q := 1) (gj_dk okX2_pairUp 0 rfl) rfl rfl ?_
  refine gj_gR (q := 4) (j := 6) (gj_dk okX2_pairUp 1 rfl) ff_X2_25 (sh35 hst) (by decide) rfl (rf35_6 hst) rfl ?_
  refine gj_iconst (q := 5) (gj_dk okX2_pairUp 2 rfl) (by decide) rfl ?_
  refine gj_callS (q := 8) [jR 40, jI (-1)] rfl (c_X7_fill (sh40 hst) (by decide) (by decide) _) (gj_dk okX2_pairUp 3 rfl) ml_X2_76 me_X7_fill (gj_nm rfl) rfl (gj_kV fun S2 M2 h => ?_)
  obtain ⟨eS, eM⟩ := h; subst eS; subst eM
  refine gj_stp hF (fun M1 hF => ?_)
  refine gj_aload_n (q := 9) (gj_dk okX2_pairUp 4 rfl) rfl rfl ?_
  refine gj_gR (q := 12) (j := 5) (gj_dk okX2_pairUp 5 rfl) ff_X2_22 (sh35 hst) (by decide) rfl (rf35_5 hst) rfl ?_
  refine gj_callS (q := 15) [jR 39] rfl (c_X7_unmark (sh39 hst) (by decide) (by decide)) (gj_dk okX2_pairUp 6 rfl) ml_X2_80 me_X7_unmark (gj_nm rfl) rfl (gj_kV fun S2 M2 h => ?_)
  obtain ⟨eS, eM⟩ := h; subst eS; subst eM
  refine gj_stp hF (fun M2 hF => ?_)
  refine gj_iload_n (q := 16) (gj_dk okX2_pairUp 7 rfl) rfl rfl ?_
  by_cases c16_0 : a1 = 0
  · refine gj_tabIn (tgt := 44) (off := 28) 0 (gj_dk okX2_pairUp 8 rfl) c16_0 ⟨by decide, by decide, rfl⟩ (by decide) ?_
    replace hF := gj_ift c16_0 hF
    refine gj_aload_n (q := 45) (gj_dk okX2_pairUp 9 rfl) rfl rfl ?_
    refine gj_iconst (q := 46) (gj_dk okX2_pairUp 10 rfl) (by decide) rfl ?_
    obtain ⟨M4, hG, hF⟩ := gj_bndd hF
    refine gj_callV (q := 49) (z := 35) (ci := 2) [jI 0] rfl (t_X2_askAll hst 0 hG) (gj_dk okX2_pairUp 11 rfl) ml_X2_84 me_X2_askAll (sh35 hst) rfl (gj_nm rfl) rfl (gj_kV fun S2 M2 h => ?_)
    obtain ⟨eS, eM⟩ := h; subst eS; subst eM; clear hG
    refine gj_goto (tgt := 71) (gj_dk okX2_pairUp 12 rfl) (by decide) ?_
    cases hF
    exact gj_vret (gj_dk okX2_pairUp 22 rfl) rfl ⟨rfl, rfl, rfl⟩
  replace hF := gj_iff c16_0 hF
  by_cases c16_1 : a1 = 1
  · refine gj_tabIn (tgt := 52) (off := 36) 1 (gj_dk okX2_pairUp 8 rfl) c16_1 ⟨by decide, by decide, rfl⟩ (by decide) ?_
    replace hF := gj_ift c16_1 hF
    refine gj_aload_n (q := 53) (gj_dk okX2_pairUp 13 rfl) rfl rfl ?_
    refine gj_iconst (q := 54) (gj_dk okX2_pairUp 14 rfl) (by decide) rfl ?_
    obtain ⟨M6, hG, hF⟩ := gj_bndd hF
    refine gj_callV (q := 57) (z := 35) (ci := 2) [jI 4] rfl (t_X2_askAll hst 4 hG) (gj_dk okX2_pairUp 15 rfl) ml_X2_84 me_X2_askAll (sh35 hst) rfl (gj_nm rfl) rfl (gj_kV fun S2 M2 h => ?_)
    obtain ⟨eS, eM⟩ := h; subst eS; subst eM; clear hG
    refine gj_goto (tgt := 71) (gj_dk okX2_pairUp 16 rfl) (by decide) ?_
    cases hF
    exact gj_vret (gj_dk okX2_pairUp 22 rfl) rfl ⟨rfl, rfl, rfl⟩
  replace hF := gj_iff c16_1 hF
  by_cases c16_2 : a1 = 2
  · refine gj_tabIn (tgt := 60) (off := 44) 2 (gj_dk okX2_pairUp 8 rfl) c16_2 ⟨by decide, by decide, rfl⟩ (by decide) ?_
    replace hF := gj_ift c16_2 hF
    refine gj_aload_n (q := 61) (gj_dk okX2_pairUp 17 rfl) rfl rfl ?_
    obtain ⟨M8, hG, hF⟩ := gj_bndd hF
    refine gj_callV (q := 64) (z := 35) (ci := 2) [] rfl (t_X2_takeTurns hst  hG) (gj_dk okX2_pairUp 18 rfl) ml_X2_88 me_X2_takeTurns (sh35 hst) rfl (gj_nm rfl) rfl (gj_kV fun S2 M2 h => ?_)
    obtain ⟨eS, eM⟩ := h; subst eS; subst eM; clear hG
    refine gj_goto (tgt := 71) (gj_dk okX2_pairUp 19 rfl) (by decide) ?_
    cases hF
    exact gj_vret (gj_dk okX2_pairUp 22 rfl) rfl ⟨rfl, rfl, rfl⟩
  replace hF := gj_iff c16_2 hF
  refine gj_tabOut (tgt := 67) (gj_dk okX2_pairUp 8 rfl) (by omega) (by decide) ?_
  refine gj_aload_n (q := 68) (gj_dk okX2_pairUp 20 rfl) rfl rfl ?_
  obtain ⟨M10, hG, hF⟩ := gj_bndd hF
  refine gj_callV (q := 71) (z := 35) (ci := 2) [] rfl (t_X2_drawLots hst  hG) (gj_dk okX2_pairUp 21 rfl) ml_X2_91 me_X2_drawLots (sh35 hst) rfl (gj_nm rfl) rfl (gj_kV fun S2 M2 h => ?_)
  obtain ⟨eS, eM⟩ := h; subst eS; subst eM; clear hG
  cases hF
  exact gj_vret (gj_dk okX2_pairUp 22 rfl) rfl ⟨rfl, rfl, rfl⟩
def F_X11_green (a1 : Int) (a2 : Int) (M : gj_M) : Option (Int × gj_M) :=
  gj_letI (f_X5_slotOf a2 M) (fun x1 => (if x1 = -1 then (some ((-2147483648, M))) else (if a1 < 0 then (some ((-2147483648, M))) else (if a1 ≤ 2 then gj_bnd (F_X2_gather 1 M) (fun M3 => gj_bnd (F_X2_look 1 M3) (fun M5 => gj_bnd (F_X2_pairUp a1 M5) (fun M7 => (some ((f_num (f_at M7 40 8 x1), M7)))))) else (some ((-2147483648, M)))))))
set_option maxHeartbeats 4000000 in
set_option maxRecDepth 20000 in
theorem t_X11_green (hst : gj_Stat S) (a1 a2 : Int) {r : Int × gj_M} (hF : F_X11_green a1 a2 M = some r) : gj_C G l 7 0 0 yX11_green cX11_green 4 (some .int) [jR 0, jI a1, jI a2] S M (gj_qI fun x S' M' => r.1 = x ∧ S = S' ∧ r.2 = M') := by
  refine gj_Cof (by decide +kernel) (Nat.le_of_ble_eq_true rfl) ?_
  change gj_W G l 7 0 0 yX11_green cX11_green 4 (some .int) (gj_qI fun x S' M' => r.1 = x ∧ S = S' ∧ r.2 = M') 0 0 0 [(0, jR 0), (1, jI a1), (2, jI a2)] [] S M
  unfold F_X11_green at hF
  refine gj_aload_n (q := 1) (gj_dk okX11_green 0 rfl) rfl rfl ?_
  refine gj_gR (q := 4) (j := 3) (gj_dk okX11_green 1 rfl) ff_X11_32 (sh0 hst) (by decide) rfl (rf0_3 hst) rfl ?_
  refine gj_iload_n (q := 5) (gj_dk okX11_green 2 rfl) rfl rfl ?_
  refine gj_callV (q := 8) (z := 14) (ci := 5) [jI a2] rfl (t_X5_slotOf hst a2 rfl) (gj_dk okX11_green 3 rfl) ml_X11_131 me_X5_slotOf (sh14 hst) rfl (gj_nm rfl) rfl (gj_kI fun x S2 M2 h => ?_)
  obtain ⟨e, eS, eM⟩ := h; subst eS; subst eM; subst e
  refine gj_stpI hF (fun x1 hF => ?_)
  refine gj_istore_n (q := 9) (gj_dk okX11_green 4 rfl) (by decide) rfl ?_
  refine gj_iload_n (q := 10) (gj_dk okX11_green 5 rfl) rfl rfl ?_
  refine gj_iconst (q := 11) (gj_dk okX11_green 6 rfl) (by decide) rfl ?_
  refine gj_icmp_eq (q := 14) (tgt := 23) (gj_dk okX11_green 7 rfl) (by decide) rfl (fun c11 => ?_) (fun c11 => ?_)
  · -- 23
    replace hF := gj_ift c11 hF
    refine gj_ldc (q := 25) (z := -2147483648) (gj_dk okX11_green 13 rfl) kc_X11_135 (by decide) rfl ?_
    cases hF
    exact gj_iret (gj_dk okX11_green 14 rfl) rfl ⟨_, rfl, rfl, rfl, rfl⟩
  · -- 14
    replace hF := gj_iff c11 hF
    refine gj_iload_n (q := 15) (gj_dk okX11_green 8 rfl) rfl rfl ?_
    refine gj_if_lt (q := 18) (tgt := 23) (gj_dk okX11_green 9 rfl) (by decide) rfl (fun c15 => ?_) (fun c15 => ?_)
    · -- 23
      replace hF := gj_ift c15 hF
      refine gj_ldc (q := 25) (z := -2147483648) (gj_dk okX11_green 13 rfl) kc_X11_135 (by decide) rfl ?_
      cases hF
      exact gj_iret (gj_dk okX11_green 14 rfl) rfl ⟨_, rfl, rfl, rfl, rfl⟩
    · -- 18
      replace hF := gj_iff c15 hF
      refine gj_iload_n (q := 19) (gj_dk okX11_green 10 rfl) rfl rfl ?_
      refine gj_iconst (q := 20) (gj_dk okX11_green 11 rfl) (by decide) rfl ?_
      refine gj_icmp_le (q := 23) (tgt := 26) (gj_dk okX11_green 12 rfl) (by decide) rfl (fun c20 => ?_) (fun c20 => ?_)
      · -- 26
        replace hF := gj_ift c20 hF
        refine gj_aload_n (q := 27) (gj_dk okX11_green 15 rfl) rfl rfl ?_
        refine gj_gR (q := 30) (j := 6) (gj_dk okX11_green 16 rfl) ff_X11_54 (sh0 hst) (by decide) rfl (rf0_6 hst) rfl ?_
        refine gj_iconst (q := 31) (gj_dk okX11_green 17 rfl) (by decide) rfl ?_
        obtain ⟨M3, hG, hF⟩ := gj_bndd hF
        refine gj_callV (q := 34) (z := 35) (ci := 2) [jI 1] rfl (t_X2_gather hst 1 hG) (gj_dk okX11_green 18 rfl) ml_X11_261 me_X2_gather (sh35 hst) rfl (gj_nm rfl) rfl (gj_kV fun S2 M2 h => ?_)
        obtain ⟨eS, eM⟩ := h; subst eS; subst eM; clear hG
        refine gj_aload_n (q := 35) (gj_dk okX11_green 19 rfl) rfl rfl ?_
        refine gj_gR (q := 38) (j := 6) (gj_dk okX11_green 20 rfl) ff_X11_54 (sh0 hst) (by decide) rfl (rf0_6 hst) rfl ?_
        refine gj_iconst (q := 39) (gj_dk okX11_green 21 rfl) (by decide) rfl ?_
        obtain ⟨M5, hG, hF⟩ := gj_bndd hF
        refine gj_callV (q := 42) (z := 35) (ci := 2) [jI 1] rfl (t_X2_look hst 1 hG) (gj_dk okX11_green 22 rfl) ml_X11_206 me_X2_look (sh35 hst) rfl (gj_nm rfl) rfl (gj_kV fun S2 M2 h => ?_)
        obtain ⟨eS, eM⟩ := h; subst eS; subst eM; clear hG
        refine gj_aload_n (q := 43) (gj_dk okX11_green 23 rfl) rfl rfl ?_
        refine gj_gR (q := 46) (j := 6) (gj_dk okX11_green 24 rfl) ff_X11_54 (sh0 hst) (by decide) rfl (rf0_6 hst) rfl ?_
        refine gj_iload_n (q := 47) (gj_dk okX11_green 25 rfl) rfl rfl ?_
        obtain ⟨M7, hG, hF⟩ := gj_bndd hF
        refine gj_callV (q := 50) (z := 35) (ci := 2) [jI a1] rfl (t_X2_pairUp hst a1 hG) (gj_dk okX11_green 26 rfl) ml_X11_264 me_X2_pairUp (sh35 hst) rfl (gj_nm rfl) rfl (gj_kV fun S2 M2 h => ?_)
        obtain ⟨eS, eM⟩ := h; subst eS; subst eM; clear hG
        refine gj_aload_n (q := 51) (gj_dk okX11_green 27 rfl) rfl rfl ?_
        refine gj_gR (q := 54) (j := 6) (gj_dk okX11_green 28 rfl) ff_X11_54 (sh0 hst) (by decide) rfl (rf0_6 hst) rfl ?_
        refine gj_gR (q := 57) (j := 6) (gj_dk okX11_green 29 rfl) ff_X11_267 (sh35 hst) (by decide) rfl (rf35_6 hst) rfl ?_
        refine gj_iload_n (q := 58) (gj_dk okX11_green 30 rfl) rfl rfl ?_
        refine gj_callS (q := 61) [jR 40, jI x1] rfl (c_X7_at (sh40 hst) (by decide) (by decide) _) (gj_dk okX11_green 31 rfl) ml_X11_139 me_X7_at (gj_nm rfl) rfl (gj_kI fun x S2 M2 h => ?_)
        obtain ⟨e, eS, eM⟩ := h; subst eS; subst eM; subst e
        refine gj_callS (q := 64) [jI (f_at M7 40 8 x1)] rfl (c_X10_numberOf _) (gj_dk okX11_green 32 rfl) ml_X11_146 me_X10_numberOf (gj_nm rfl) rfl (gj_kI fun x S2 M2 h => ?_)
        obtain ⟨e, eS, eM⟩ := h; subst eS; subst eM; subst e
        cases hF
        exact gj_iret (gj_dk okX11_green 33 rfl) rfl ⟨_, rfl, rfl, rfl, rfl⟩
      · -- 23
        replace hF := gj_iff c20 hF
        refine gj_ldc (q := 25) (z := -2147483648) (gj_dk okX11_green 13 rfl) kc_X11_135 (by decide) rfl ?_
        cases hF
        exact gj_iret (gj_dk okX11_green 14 rfl) rfl ⟨_, rfl, rfl, rfl, rfl⟩
def J_X8_askPaired_56 (rec2 : Int → gj_M → Option (gj_M)) (l1 l2 : Int) (M : gj_M) : Option (gj_M) :=
  gj_chk (l2 = 0 ∨ l2 = 1) (gj_let (f_put M 45 8 l1 l2) (fun M6 => rec2 (gj_w (l1 + 1)) M6))
def J_X8_askPaired_55 (rec2 : Int → gj_M → Option (gj_M)) (l1 s0 : Int) (M : gj_M) : Option (gj_M) :=
  (J_X8_askPaired_56 rec2 l1 s0 M)
def B_X8_askPaired_2 (rec2 : Int → gj_M → Option (gj_M)) (l1 : Int) (M : gj_M) : Option (gj_M) :=
  (if 8 ≤ l1 then (some (M)) else (if f_at M 22 8 l1 = -1 then (J_X8_askPaired_56 rec2 l1 0 M) else gj_bnd (F_X4_enter l1 M) (fun M2 => gj_bnd2 (F_X4_stays (M2 14 9) M2) (fun x3 M4 => (if x3 = 0 then (J_X8_askPaired_55 rec2 l1 1 M4) else (J_X8_askPaired_55 rec2 l1 0 M4))))))
def F_X8_askPaired (M : gj_M) : Option (gj_M) :=
  (gj_it (fun _ _ => none) (B_X8_askPaired_2) gj_fu 0 M)
set_option maxHeartbeats 4000000 in
set_option maxRecDepth 20000 in
theorem t_J_X8_askPaired_56 (hst : gj_Stat S) {r : gj_M} {rec2 : Int → gj_M → Option (gj_M)} (hrec2 : ∀ (l1 : Int) (M : gj_M), rec2 l1 M = some r → gj_W G l 18 0 0 yX8_askPaired cX8_askPaired 3 none (gj_qV fun S' M' => S = S' ∧ r = M') 0 0 2 [(0, jR 44), (1, jI l1)] [] S M) (l1 l2 : Int) (M : gj_M) (hF : J_X8_askPaired_56 rec2 l1 l2 M = some r) : gj_W G l 18 0 0 yX8_askPaired cX8_askPaired 3 none (gj_qV fun S' M' => S = S' ∧ r = M') 0 0 56 [(0, jR 44), (1, jI l1), (2, jI l2)] [] S M := by
  unfold J_X8_askPaired_56 at hF
  refine gj_aload_n (q := 57) (gj_dk okX8_askPaired 29 rfl) rfl rfl ?_
  refine gj_gR (q := 60) (j := 4) (gj_dk okX8_askPaired 30 rfl) ff_X8_9 (sh44 hst) (by decide) rfl (rf44_4 hst) rfl ?_
  refine gj_iload_n (q := 61) (gj_dk okX8_askPaired 31 rfl) rfl rfl ?_
  refine gj_iload_n (q := 62) (gj_dk okX8_askPaired 32 rfl) rfl rfl ?_
  obtain ⟨b5, hF⟩ := gj_ckd hF
  refine gj_callS (q := 65) [jR 45, jI l1, jI l2] rfl (c_X7_mark (sh45 hst) (by decide) (by decide) _ _ b5) (gj_dk okX8_askPaired 33 rfl) ml_X8_86 me_X7_mark (gj_nm rfl) rfl (gj_kV fun S2 M2 h => ?_)
  obtain ⟨eS, eM⟩ := h; subst eS; subst eM
  refine gj_stp hF (fun M6 hF => ?_)
  refine gj_iinc (q := 68) (v := gj_w (l1 + 1)) (gj_dk okX8_askPaired 34 rfl) rfl (by decide) rfl rfl ?_
  refine gj_goto (tgt := 2) (gj_dk okX8_askPaired 35 rfl) (by decide) ?_
  refine gj_sub [(0, jR 44), (1, jI (gj_w (l1 + 1)))] ⟨rfl, rfl, trivial⟩ ?_
  exact hrec2 (gj_w (l1 + 1)) M6 hF
set_option maxHeartbeats 4000000 in
set_option maxRecDepth 20000 in
theorem t_J_X8_askPaired_55 (hst : gj_Stat S) {r : gj_M} {rec2 : Int → gj_M → Option (gj_M)} (hrec2 : ∀ (l1 : Int) (M : gj_M), rec2 l1 M = some r → gj_W G l 18 0 0 yX8_askPaired cX8_askPaired 3 none (gj_qV fun S' M' => S = S' ∧ r = M') 0 0 2 [(0, jR 44), (1, jI l1)] [] S M) (l1 s0 : Int) (M : gj_M) (hF : J_X8_askPaired_55 rec2 l1 s0 M = some r) : gj_W G l 18 0 0 yX8_askPaired cX8_askPaired 3 none (gj_qV fun S' M' => S = S' ∧ r = M') 0 0 55 [(0, jR 44), (1, jI l1)] [jI s0] S M := by
  unfold J_X8_askPaired_55 at hF
  refine gj_istore_n (q := 56) (gj_dk okX8_askPaired 28 rfl) (by decide) rfl ?_
  refine gj_sub [(0, jR 44), (1, jI l1), (2, jI s0)] ⟨rfl, rfl, rfl, trivial⟩ ?_
  exact t_J_X8_askPaired_56 hst hrec2 l1 s0 M hF
set_option maxHeartbeats 4000000 in
set_option maxRecDepth 20000 in
theorem t_B_X8_askPaired_2 (hst : gj_Stat S) {r : gj_M} {rec2 : Int → gj_M → Option (gj_M)} (hrec2 : ∀ (l1 : Int) (M : gj_M), rec2 l1 M = some r → gj_W G l 18 0 0 yX8_askPaired cX8_askPaired 3 none (gj_qV fun S' M' => S = S' ∧ r = M') 0 0 2 [(0, jR 44), (1, jI l1)] [] S M) (l1 : Int) (M : gj_M) (hF : B_X8_askPaired_2 rec2 l1 M = some r) : gj_W G l 18 0 0 yX8_askPaired cX8_askPaired 3 none (gj_qV fun S' M' => S = S' ∧ r = M') 0 0 2 [(0, jR 44), (1, jI l1)] [] S M := by
  unfold B_X8_askPaired_2 at hF
  refine gj_iload_n (q := 3) (gj_dk okX8_askPaired 2 rfl) rfl rfl ?_
  refine gj_bipush (q := 5) (gj_dk okX8_askPaired 3 rfl) (by decide) rfl rfl ?_
  refine gj_icmp_ge (q := 8) (tgt := 71) (gj_dk okX8_askPaired 4 rfl) (by decide) rfl (fun c5 => ?_) (fun c5 => ?_)
  · -- 71
    replace hF := gj_ift c5 hF
    cases hF
    exact gj_vret (gj_dk okX8_askPaired 36 rfl) rfl ⟨rfl, rfl, rfl⟩
  · -- 8
    replace hF := gj_iff c5 hF
    refine gj_iconst (q := 9) (gj_dk okX8_askPaired 5 rfl) (by decide) rfl ?_
    refine gj_istore_n (q := 10) (gj_dk okX8_askPaired 6 rfl) (by decide) rfl ?_
    refine gj_aload_n (q := 11) (gj_dk okX8_askPaired 7 rfl) rfl rfl ?_
    refine gj_gR (q := 14) (j := 1) (gj_dk okX8_askPaired 8 rfl) ff_X8_19 (sh44 hst) (by decide) rfl (rf44_1 hst) rfl ?_
    refine gj_gR (q := 17) (j := 3) (gj_dk okX8_askPaired 9 rfl) ff_X8_62 (sh21 hst) (by decide) rfl (rf21_3 hst) rfl ?_
    refine gj_iload_n (q := 18) (gj_dk okX8_askPaired 10 rfl) rfl rfl ?_
    refine gj_callS (q := 21) [jR 22, jI l1] rfl (c_X7_at (sh22 hst) (by decide) (by decide) _) (gj_dk okX8_askPaired 11 rfl) ml_X8_66 me_X7_at (gj_nm rfl) rfl (gj_kI fun x S2 M2 h => ?_)
    obtain ⟨e, eS, eM⟩ := h; subst eS; subst eM; subst e
    refine gj_iconst (q := 22) (gj_dk okX8_askPaired 12 rfl) (by decide) rfl ?_
    refine gj_icmp_eq (q := 25) (tgt := 56) (gj_dk okX8_askPaired 13 rfl) (by decide) rfl (fun c22 => ?_) (fun c22 => ?_)
    · -- 56
      replace hF := gj_ift c22 hF
      refine gj_sub [(0, jR 44), (1, jI l1), (2, jI 0)] ⟨rfl, rfl, rfl, trivial⟩ ?_
      exact t_J_X8_askPaired_56 hst hrec2 l1 0 M hF
    · -- 25
      replace hF := gj_iff c22 hF
      refine gj_aload_n (q := 26) (gj_dk okX8_askPaired 14 rfl) rfl rfl ?_
      refine gj_gR (q := 29) (j := 2) (gj_dk okX8_askPaired 15 rfl) ff_X8_23 (sh44 hst) (by decide) rfl (rf44_2 hst) rfl ?_
      refine gj_iload_n (q := 30) (gj_dk okX8_askPaired 16 rfl) rfl rfl ?_
      obtain ⟨M2, hG, hF⟩ := gj_bndd hF
      refine gj_callV (q := 33) (z := 31) (ci := 4) [jI l1] rfl (t_X4_enter hst l1 hG) (gj_dk okX8_askPaired 17 rfl) ml_X8_72 me_X4_enter (sh31 hst) rfl (gj_nm rfl) rfl (gj_kV fun S2 M2 h => ?_)
      obtain ⟨eS, eM⟩ := h; subst eS; subst eM; clear hG
      refine gj_aload_n (q := 34) (gj_dk okX8_askPaired 18 rfl) rfl rfl ?_
      refine gj_gR (q := 37) (j := 2) (gj_dk okX8_askPaired 19 rfl) ff_X8_23 (sh44 hst) (by decide) rfl (rf44_2 hst) rfl ?_
      refine gj_aload_n (q := 38) (gj_dk okX8_askPaired 20 rfl) rfl rfl ?_
      refine gj_gR (q := 41) (j := 0) (gj_dk okX8_askPaired 21 rfl) ff_X8_15 (sh44 hst) (by decide) rfl (rf44_0 hst) rfl ?_
      refine gj_gI (q := 44) (j := 9) (gj_dk okX8_askPaired 22 rfl) ff_X8_77 (sh14 hst) (by decide) rfl rfl ?_
      obtain ⟨x3, M4, hG, hF⟩ := gj_bnd2d hF
      refine gj_callV (q := 47) (z := 31) (ci := 4) [jI (M2 14 9)] rfl (t_X4_stays hst (M2 14 9) hG) (gj_dk okX8_askPaired 23 rfl) ml_X8_82 me_X4_stays (sh31 hst) rfl (gj_nm rfl) rfl (gj_kI fun y S2 M2 h => ?_)
      obtain ⟨bx3, e, eS, eM⟩ := h; subst eS; subst eM; subst e; clear hG
      dsimp only at bx3 ⊢
      refine gj_if_ne (q := 50) (tgt := 54) (gj_dk okX8_askPaired 24 rfl) (by decide) rfl (fun c47 => ?_) (fun c47 => ?_)
      · -- 54
        replace hF := gj_iff c47 hF
        refine gj_iconst (q := 55) (gj_dk okX8_askPaired 27 rfl) (by decide) rfl ?_
        refine gj_sub [(0, jR 44), (1, jI l1)] ⟨rfl, rfl, trivial⟩ ?_
        exact t_J_X8_askPaired_55 hst hrec2 l1 0 M4 hF
      · -- 50
        replace hF := gj_ift c47 hF
        refine gj_iconst (q := 51) (gj_dk okX8_askPaired 25 rfl) (by decide) rfl ?_
        refine gj_goto (tgt := 55) (gj_dk okX8_askPaired 26 rfl) (by decide) ?_
        refine gj_sub [(0, jR 44), (1, jI l1)] ⟨rfl, rfl, trivial⟩ ?_
        exact t_J_X8_askPaired_55 hst hrec2 l1 1 M4 hF
theorem t_L_X8_askPaired_2 (hst : gj_Stat S) {r : gj_M} : ∀ (m : Nat) (l1 : Int) (M : gj_M), gj_it (fun _ _ => none) (B_X8_askPaired_2) m l1 M = some r → gj_W G l 18 0 0 yX8_askPaired cX8_askPaired 3 none (gj_qV fun S' M' => S = S' ∧ r = M') 0 0 2 [(0, jR 44), (1, jI l1)] [] S M := by
  intro m
  induction m with
  | zero => intro l1 M hF; cases (show (none : Option (gj_M)) = some r from hF)
  | succ m ih => intro l1 M hF; exact t_B_X8_askPaired_2 hst (fun l1 M h => ih l1 M h) l1 M hF
set_option maxHeartbeats 4000000 in
set_option maxRecDepth 20000 in
theorem t_X8_askPaired (hst : gj_Stat S) {r : gj_M} (hF : F_X8_askPaired M = some r) : gj_C G l 18 0 0 yX8_askPaired cX8_askPaired 3 none [jR 44] S M (gj_qV fun S' M' => S = S' ∧ r = M') := by
  refine gj_Cof (by decide +kernel) (Nat.le_of_ble_eq_true rfl) ?_
  change gj_W G l 18 0 0 yX8_askPaired cX8_askPaired 3 none (gj_qV fun S' M' => S = S' ∧ r = M') 0 0 0 [(0, jR 44)] [] S M
  unfold F_X8_askPaired at hF
  refine gj_iconst (q := 1) (gj_dk okX8_askPaired 0 rfl) (by decide) rfl ?_
  refine gj_istore_n (q := 2) (gj_dk okX8_askPaired 1 rfl) (by decide) rfl ?_
  refine gj_sub [(0, jR 44), (1, jI 0)] ⟨rfl, rfl, trivial⟩ ?_
  exact t_L_X8_askPaired_2 hst gj_fu 0 M hF
def f_X3_earn (a1 : Int) (a2 : Int) (M : gj_M) : gj_M :=
  gj_let (f_put M 25 8 a1 (gj_w ((f_at M 25 8 a1) + a2))) (fun M1 => (M1))
set_option maxHeartbeats 4000000 in
set_option maxRecDepth 20000 in
theorem t_X3_earn (hst : gj_Stat S) (a1 a2 : Int) {r : gj_M} (hF : f_X3_earn a1 a2 M = r) : gj_C G l 2 0 0 yX3_earn cX3_earn 3 none [jR 21, jI a1, jI a2] S M (gj_qV fun S' M' => S = S' ∧ r = M') := by
  refine gj_Cof (by decide +kernel) (Nat.le_of_ble_eq_true rfl) ?_
  change gj_W G l 2 0 0 yX3_earn cX3_earn 3 none (gj_qV fun S' M' => S = S' ∧ r = M') 0 0 0 [(0, jR 21), (1, jI a1), (2, jI a2)] [] S M
  unfold f_X3_earn at hF
  refine gj_aload_n (q := 1) (gj_dk okX3_earn 0 rfl) rfl rfl ?_
  refine gj_gR (q := 4) (j := 6) (gj_dk okX3_earn 1 rfl) ff_X3_21 (sh21 hst) (by decide) rfl (rf21_6 hst) rfl ?_
  refine gj_iload_n (q := 5) (gj_dk okX3_earn 2 rfl) rfl rfl ?_
  refine gj_aload_n (q := 6) (gj_dk okX3_earn 3 rfl) rfl rfl ?_
  refine gj_gR (q := 9) (j := 6) (gj_dk okX3_earn 4 rfl) ff_X3_21 (sh21 hst) (by decide) rfl (rf21_6 hst) rfl ?_
  refine gj_iload_n (q := 10) (gj_dk okX3_earn 5 rfl) rfl rfl ?_
  refine gj_callS (q := 13) [jR 25, jI a1] rfl (c_X7_at (sh25 hst) (by decide) (by decide) _) (gj_dk okX3_earn 6 rfl) ml_X3_75 me_X7_at (gj_nm rfl) rfl (gj_kI fun x S2 M2 h => ?_)
  obtain ⟨e, eS, eM⟩ := h; subst eS; subst eM; subst e
  refine gj_iload_n (q := 14) (gj_dk okX3_earn 7 rfl) rfl rfl ?_
  refine gj_iadd (q := 15) (gj_dk okX3_earn 8 rfl) rfl ?_
  refine gj_callS (q := 18) [jR 25, jI a1, jI (gj_w ((f_at M 25 8 a1) + a2))] rfl (c_X7_put (sh25 hst) (by decide) (by decide) _ _) (gj_dk okX3_earn 9 rfl) ml_X3_67 me_X7_put (gj_nm rfl) rfl (gj_kV fun S2 M2 h => ?_)
  obtain ⟨eS, eM⟩ := h; subst eS; subst eM
  refine gj_stp hF (fun M1 hF => ?_)
  subst hF
  exact gj_vret (gj_dk okX3_earn 10 rfl) rfl ⟨rfl, rfl, rfl⟩
def f_X1_add (a1 : Int) (a2 : Int) (a3 : Int) (a4 : Int) (a5 : Int) (M : gj_M) : gj_M :=
  gj_letI (gj_w ((Int.tmod (gj_w ((M 29 1) + (M 29 2))) 40) * 5)) (fun x1 => gj_let (f_put M 30 200 x1 a1) (fun M2 => gj_let (f_put M2 30 200 (gj_w (x1 + 1)) a2) (fun M3 => gj_let (f_put M3 30 200 (gj_w (x1 + 2)) a3) (fun M4 => gj_let (f_put M4 30 200 (gj_w (x1 + 3)) a4) (fun M5 => gj_let (f_put M5 30 200 (gj_w (x1 + 4)) a5) (fun M6 => (if 40 ≤ M6 29 2 then gj_let (gj_up M6 29 1 (Int.tmod (gj_w ((M6 29 1) + 1)) 40)) (fun M7 => (M7)) else gj_let (gj_up M6 29 2 (gj_w ((M6 29 2) + 1))) (fun M8 => (M8)))))))))
set_option maxHeartbeats 4000000 in
set_option maxRecDepth 20000 in
theorem t_X1_add (hst : gj_Stat S) (a1 a2 a3 a4 a5 : Int) {r : gj_M} (hF : f_X1_add a1 a2 a3 a4 a5 M = r) : gj_C G l 2 0 0 yX1_add cX1_add 7 none [jR 29, jI a1, jI a2, jI a3, jI a4, jI a5] S M (gj_qV fun S' M' => S = S' ∧ r = M') := by
  refine gj_Cof (by decide +kernel) (Nat.le_of_ble_eq_true rfl) ?_
  change gj_W G l 2 0 0 yX1_add cX1_add 7 none (gj_qV fun S' M' => S = S' ∧ r = M') 0 0 0 [(0, jR 29), (1, jI a1), (2, jI a2), (3, jI a3), (4, jI a4), (5, jI a5)] [] S M
  unfold f_X1_add at hF
  refine gj_aload_n (q := 1) (gj_dk okX1_add 0 rfl) rfl rfl ?_
  refine gj_gI (q := 4) (j := 1) (gj_dk okX1_add 1 rfl) ff_X1_19 (sh29 hst) (by decide) rfl rfl ?_
  refine gj_aload_n (q := 5) (gj_dk okX1_add 2 rfl) rfl rfl ?_
  refine gj_gI (q := 8) (j := 2) (gj_dk okX1_add 3 rfl) ff_X1_15 (sh29 hst) (by decide) rfl rfl ?_
  refine gj_iadd (q := 9) (gj_dk okX1_add 4 rfl) rfl ?_
  refine gj_bipush (q := 11) (gj_dk okX1_add 5 rfl) (by decide) rfl rfl ?_
  refine gj_irem (q := 12) (gj_dk okX1_add 6 rfl) (by decide) rfl ?_
  refine gj_iconst (q := 13) (gj_dk okX1_add 7 rfl) (by decide) rfl ?_
  refine gj_imul (q := 14) (gj_dk okX1_add 8 rfl) rfl ?_
  refine gj_stpI hF (fun x1 hF => ?_)
  refine gj_istore (q := 16) (gj_dk okX1_add 9 rfl) (by decide) rfl ?_
  refine gj_aload_n (q := 17) (gj_dk okX1_add 10 rfl) rfl rfl ?_
  refine gj_gR (q := 20) (j := 0) (gj_dk okX1_add 11 rfl) ff_X1_11 (sh29 hst) (by decide) rfl (rf29_0 hst) rfl ?_
  refine gj_iload (q := 22) (gj_dk okX1_add 12 rfl) rfl rfl ?_
  refine gj_iload_n (q := 23) (gj_dk okX1_add 13 rfl) rfl rfl ?_
  refine gj_callS (q := 26) [jR 30, jI x1, jI a1] rfl (c_X7_put (sh30 hst) (by decide) (by decide) _ _) (gj_dk okX1_add 14 rfl) ml_X1_28 me_X7_put (gj_nm rfl) rfl (gj_kV fun S2 M2 h => ?_)
  obtain ⟨eS, eM⟩ := h; subst eS; subst eM
  refine gj_stp hF (fun M2 hF => ?_)
  refine gj_aload_n (q := 27) (gj_dk okX1_add 15 rfl) rfl rfl ?_
  refine gj_gR (q := 30) (j := 0) (gj_dk okX1_add 16 rfl) ff_X1_11 (sh29 hst) (by decide) rfl (rf29_0 hst) rfl ?_
  refine gj_iload (q := 32) (gj_dk okX1_add 17 rfl) rfl rfl ?_
  refine gj_iconst (q := 33) (gj_dk okX1_add 18 rfl) (by decide) rfl ?_
  refine gj_iadd (q := 34) (gj_dk okX1_add 19 rfl) rfl ?_
  refine gj_iload_n (q := 35) (gj_dk okX1_add 20 rfl) rfl rfl ?_
  refine gj_callS (q := 38) [jR 30, jI (gj_w (x1 + 1)), jI a2] rfl (c_X7_put (sh30 hst) (by decide) (by decide) _ _) (gj_dk okX1_add 21 rfl) ml_X1_28 me_X7_put (gj_nm rfl) rfl (gj_kV fun S2 M2 h => ?_)
  obtain ⟨eS, eM⟩ := h; subst eS; subst eM
  refine gj_stp hF (fun M3 hF => ?_)
  refine gj_aload_n (q := 39) (gj_dk okX1_add 22 rfl) rfl rfl ?_
  refine gj_gR (q := 42) (j := 0) (gj_dk okX1_add 23 rfl) ff_X1_11 (sh29 hst) (by decide) rfl (rf29_0 hst) rfl ?_
  refine gj_iload (q := 44) (gj_dk okX1_add 24 rfl) rfl rfl ?_
  refine gj_iconst (q := 45) (gj_dk okX1_add 25 rfl) (by decide) rfl ?_
  refine gj_iadd (q := 46) (gj_dk okX1_add 26 rfl) rfl ?_
  refine gj_iload_n (q := 47) (gj_dk okX1_add 27 rfl) rfl rfl ?_
  refine gj_callS (q := 50) [jR 30, jI (gj_w (x1 + 2)), jI a3] rfl (c_X7_put (sh30 hst) (by decide) (by decide) _ _) (gj_dk okX1_add 28 rfl) ml_X1_28 me_X7_put (gj_nm rfl) rfl (gj_kV fun S2 M2 h => ?_)
  obtain ⟨eS, eM⟩ := h; subst eS; subst eM
  refine gj_stp hF (fun M4 hF => ?_)
  refine gj_aload_n (q := 51) (gj_dk okX1_add 29 rfl) rfl rfl ?_
  refine gj_gR (q := 54) (j := 0) (gj_dk okX1_add 30 rfl) ff_X1_11 (sh29 hst) (by decide) rfl (rf29_0 hst) rfl ?_
  refine gj_iload (q := 56) (gj_dk okX1_add 31 rfl) rfl rfl ?_
  refine gj_iconst (q := 57) (gj_dk okX1_add 32 rfl) (by decide) rfl ?_
  refine gj_iadd (q := 58) (gj_dk okX1_add 33 rfl) rfl ?_
  refine gj_iload (q := 60) (gj_dk okX1_add 34 rfl) rfl rfl ?_
  refine gj_callS (q := 63) [jR 30, jI (gj_w (x1 + 3)), jI a4] rfl (c_X7_put (sh30 hst) (by decide) (by decide) _ _) (gj_dk okX1_add 35 rfl) ml_X1_28 me_X7_put (gj_nm rfl) rfl (gj_kV fun S2 M2 h => ?_)
  obtain ⟨eS, eM⟩ := h; subst eS; subst eM
  refine gj_stp hF (fun M5 hF => ?_)
  refine gj_aload_n (q := 64) (gj_dk okX1_add 36 rfl) rfl rfl ?_
  refine gj_gR (q := 67) (j := 0) (gj_dk okX1_add 37 rfl) ff_X1_11 (sh29 hst) (by decide) rfl (rf29_0 hst) rfl ?_
  refine gj_iload (q := 69) (gj_dk okX1_add 38 rfl) rfl rfl ?_
  refine gj_iconst (q := 70) (gj_dk okX1_add 39 rfl) (by decide) rfl ?_
  refine gj_iadd (q := 71) (gj_dk okX1_add 40 rfl) rfl ?_
  refine gj_iload (q := 73) (gj_dk okX1_add 41 rfl) rfl rfl ?_
  refine gj_callS (q := 76) [jR 30, jI (gj_w (x1 + 4)), jI a5] rfl (c_X7_put (sh30 hst) (by decide) (by decide) _ _) (gj_dk okX1_add 42 rfl) ml_X1_28 me_X7_put (gj_nm rfl) rfl (gj_kV fun S2 M2 h => ?_)
  obtain ⟨eS, eM⟩ := h; subst eS; subst eM
  refine gj_stp hF (fun M6 hF => ?_)
  refine gj_aload_n (q := 77) (gj_dk okX1_add 43 rfl) rfl rfl ?_
  refine gj_gI (q := 80) (j := 2) (gj_dk okX1_add 44 rfl) ff_X1_15 (sh29 hst) (by decide) rfl rfl ?_
  refine gj_bipush (q := 82) (gj_dk okX1_add 45 rfl) (by decide) rfl rfl ?_
  refine gj_icmp_ge (q := 85) (tgt := 98) (gj_dk okX1_add 46 rfl) (by decide) rfl (fun c82 => ?_) (fun c82 => ?_)
  · -- 98
    replace hF := gj_ift c82 hF
    refine gj_aload_n (q := 99) (gj_dk okX1_add 54 rfl) rfl rfl ?_
    refine gj_aload_n (q := 100) (gj_dk okX1_add 55 rfl) rfl rfl ?_
    refine gj_gI (q := 103) (j := 1) (gj_dk okX1_add 56 rfl) ff_X1_19 (sh29 hst) (by decide) rfl rfl ?_
    refine gj_iconst (q := 104) (gj_dk okX1_add 57 rfl) (by decide) rfl ?_
    refine gj_iadd (q := 105) (gj_dk okX1_add 58 rfl) rfl ?_
    refine gj_bipush (q := 107) (gj_dk okX1_add 59 rfl) (by decide) rfl rfl ?_
    refine gj_irem (q := 108) (gj_dk okX1_add 60 rfl) (by decide) rfl ?_
    refine gj_pfI (q := 111) (j := 1) (gj_dk okX1_add 61 rfl) ff_X1_19 (sh29 hst) (by decide) rfl rfl ?_
    refine gj_stp hF (fun M7 hF => ?_)
    subst hF
    exact gj_vret (gj_dk okX1_add 62 rfl) rfl ⟨rfl, rfl, rfl⟩
  · -- 85
    replace hF := gj_iff c82 hF
    refine gj_aload_n (q := 86) (gj_dk okX1_add 47 rfl) rfl rfl ?_
    refine gj_dup (q := 87) (gj_dk okX1_add 48 rfl) rfl rfl ?_
    refine gj_gI (q := 90) (j := 2) (gj_dk okX1_add 49 rfl) ff_X1_15 (sh29 hst) (by decide) rfl rfl ?_
    refine gj_iconst (q := 91) (gj_dk okX1_add 50 rfl) (by decide) rfl ?_
    refine gj_iadd (q := 92) (gj_dk okX1_add 51 rfl) rfl ?_
    refine gj_pfI (q := 95) (j := 2) (gj_dk okX1_add 52 rfl) ff_X1_15 (sh29 hst) (by decide) rfl rfl ?_
    refine gj_stp hF (fun M8 hF => ?_)
    refine gj_goto (tgt := 111) (gj_dk okX1_add 53 rfl) (by decide) ?_
    subst hF
    exact gj_vret (gj_dk okX1_add 62 rfl) rfl ⟨rfl, rfl, rfl⟩
def f_X3_free (a1 : Int) (M : gj_M) : gj_M :=
  gj_let (f_put M 22 8 a1 (-1)) (fun M1 => gj_let (f_put M1 23 8 a1 0) (fun M2 => gj_let (f_put M2 24 8 a1 0) (fun M3 => (M3))))
set_option maxHeartbeats 4000000 in
set_option maxRecDepth 20000 in
theorem t_X3_free (hst : gj_Stat S) (a1 : Int) {r : gj_M} (hF : f_X3_free a1 M = r) : gj_C G l 2 0 0 yX3_free cX3_free 2 none [jR 21, jI a1] S M (gj_qV fun S' M' => S = S' ∧ r = M') := by
  refine gj_Cof (by decide +kernel) (Nat.le_of_ble_eq_true rfl) ?_
  change gj_W G l 2 0 0 yX3_free cX3_free 2 none (gj_qV fun S' M' => S = S' ∧ r = M') 0 0 0 [(0, jR 21), (1, jI a1)] [] S M
  unfold f_X3_free at hF
  refine gj_aload_n (q := 1) (gj_dk okX3_free 0 rfl) rfl rfl ?_
  refine gj_gR (q := 4) (j := 3) (gj_dk okX3_free 1 rfl) ff_X3_9 (sh21 hst) (by decide) rfl (rf21_3 hst) rfl ?_
  refine gj_iload_n (q := 5) (gj_dk okX3_free 2 rfl) rfl rfl ?_
  refine gj_iconst (q := 6) (gj_dk okX3_free 3 rfl) (by decide) rfl ?_
  refine gj_callS (q := 9) [jR 22, jI a1, jI (-1)] rfl (c_X7_put (sh22 hst) (by decide) (by decide) _ _) (gj_dk okX3_free 4 rfl) ml_X3_67 me_X7_put (gj_nm rfl) rfl (gj_kV fun S2 M2 h => ?_)
  obtain ⟨eS, eM⟩ := h; subst eS; subst eM
  refine gj_stp hF (fun M1 hF => ?_)
  refine gj_aload_n (q := 10) (gj_dk okX3_free 5 rfl) rfl rfl ?_
  refine gj_gR (q := 13) (j := 4) (gj_dk okX3_free 6 rfl) ff_X3_15 (sh21 hst) (by decide) rfl (rf21_4 hst) rfl ?_
  refine gj_iload_n (q := 14) (gj_dk okX3_free 7 rfl) rfl rfl ?_
  refine gj_iconst (q := 15) (gj_dk okX3_free 8 rfl) (by decide) rfl ?_
  refine gj_callS (q := 18) [jR 23, jI a1, jI 0] rfl (c_X7_put (sh23 hst) (by decide) (by decide) _ _) (gj_dk okX3_free 9 rfl) ml_X3_67 me_X7_put (gj_nm rfl) rfl (gj_kV fun S2 M2 h => ?_)
  obtain ⟨eS, eM⟩ := h; subst eS; subst eM
  refine gj_stp hF (fun M2 hF => ?_)
  refine gj_aload_n (q := 19) (gj_dk okX3_free 10 rfl) rfl rfl ?_
  refine gj_gR (q := 22) (j := 5) (gj_dk okX3_free 11 rfl) ff_X3_18 (sh21 hst) (by decide) rfl (rf21_5 hst) rfl ?_
  refine gj_iload_n (q := 23) (gj_dk okX3_free 12 rfl) rfl rfl ?_
  refine gj_iconst (q := 24) (gj_dk okX3_free 13 rfl) (by decide) rfl ?_
  refine gj_callS (q := 27) [jR 24, jI a1, jI 0] rfl (c_X7_put (sh24 hst) (by decide) (by decide) _ _) (gj_dk okX3_free 14 rfl) ml_X3_67 me_X7_put (gj_nm rfl) rfl (gj_kV fun S2 M2 h => ?_)
  obtain ⟨eS, eM⟩ := h; subst eS; subst eM
  refine gj_stp hF (fun M3 hF => ?_)
  subst hF
  exact gj_vret (gj_dk okX3_free 15 rfl) rfl ⟨rfl, rfl, rfl⟩
def f_X3_loosen (a1 : Int) (a2 : Int) (M : gj_M) : gj_M :=
  gj_let (f_X3_free a1 M) (fun M1 => gj_let (f_X3_free a2 M1) (fun M2 => (M2)))
set_option maxHeartbeats 4000000 in
set_option maxRecDepth 20000 in
theorem t_X3_loosen (hst : gj_Stat S) (a1 a2 : Int) {r : gj_M} (hF : f_X3_loosen a1 a2 M = r) : gj_C G l 3 0 0 yX3_loosen cX3_loosen 3 none [jR 21, jI a1, jI a2] S M (gj_qV fun S' M' => S = S' ∧ r = M') := by
  refine gj_Cof (by decide +kernel) (Nat.le_of_ble_eq_true rfl) ?_
  change gj_W G l 3 0 0 yX3_loosen cX3_loosen 3 none (gj_qV fun S' M' => S = S' ∧ r = M') 0 0 0 [(0, jR 21), (1, jI a1), (2, jI a2)] [] S M
  unfold f_X3_loosen at hF
  refine gj_aload_n (q := 1) (gj_dk okX3_loosen 0 rfl) rfl rfl ?_
  refine gj_iload_n (q := 2) (gj_dk okX3_loosen 1 rfl) rfl rfl ?_
  refine gj_callV (q := 5) (z := 21) (ci := 3) [jI a1] rfl (t_X3_free hst a1 rfl) (gj_dk okX3_loosen 2 rfl) ml_X3_71 me_X3_free (sh21 hst) rfl (gj_nm rfl) rfl (gj_kV fun S2 M2 h => ?_)
  obtain ⟨eS, eM⟩ := h; subst eS; subst eM
  refine gj_stp hF (fun M1 hF => ?_)
  refine gj_aload_n (q := 6) (gj_dk okX3_loosen 3 rfl) rfl rfl ?_
  refine gj_iload_n (q := 7) (gj_dk okX3_loosen 4 rfl) rfl rfl ?_
  refine gj_callV (q := 10) (z := 21) (ci := 3) [jI a2] rfl (t_X3_free hst a2 rfl) (gj_dk okX3_loosen 5 rfl) ml_X3_71 me_X3_free (sh21 hst) rfl (gj_nm rfl) rfl (gj_kV fun S2 M2 h => ?_)
  obtain ⟨eS, eM⟩ := h; subst eS; subst eM
  refine gj_stp hF (fun M2 hF => ?_)
  subst hF
  exact gj_vret (gj_dk okX3_loosen 6 rfl) rfl ⟨rfl, rfl, rfl⟩
def J_X8_hear_139 (l1 l2 l3 s1 s2 : Int) (M : gj_M) : gj_M :=
  gj_let (f_X3_earn s1 s2 M) (fun M5 => gj_let (f_X1_add (M5 21 0) l1 (f_num l2) (f_at M5 23 8 l1) l3 M5) (fun M6 => gj_let (f_X3_loosen l1 l2 M6) (fun M7 => (M7))))
def J_X8_hear_108 (l1 l2 l3 s1 s2 : Int) (M : gj_M) : gj_M :=
  gj_let (f_X3_earn s1 s2 M) (fun M4 => (if f_at M4 45 8 l2 = 0 then (J_X8_hear_139 l1 l2 l3 l2 0 M4) else (J_X8_hear_139 l1 l2 l3 l2 (gj_w (-(M4 14 8))) M4)))
def J_X8_hear_32 (l1 l2 s0 s1 : Int) (M : gj_M) : gj_M :=
  (if gj_w (s0 + s1) = 0 then gj_letI (gj_w ((f_at M 24 8 l1) + 1)) (fun x1 => gj_let (f_put M 24 8 l1 x1) (fun M2 => gj_let (f_put M2 24 8 l2 x1) (fun M3 => (M3)))) else (if f_at M 45 8 l1 = 0 then (J_X8_hear_108 l1 l2 (gj_w (s0 + s1)) l1 0 M) else (J_X8_hear_108 l1 l2 (gj_w (s0 + s1)) l1 (gj_w (-(M 14 8))) M)))
def J_X8_hear_16 (l1 l2 s0 : Int) (M : gj_M) : gj_M :=
  (if f_at M 45 8 l2 = 0 then (J_X8_hear_32 l1 l2 s0 0 M) else (J_X8_hear_32 l1 l2 s0 2 M))
def f_X8_hear (a1 : Int) (a2 : Int) (M : gj_M) : gj_M :=
  (if f_at M 45 8 a1 = 0 then (J_X8_hear_16 a1 a2 0 M) else (J_X8_hear_16 a1 a2 1 M))
set_option maxHeartbeats 4000000 in
set_option maxRecDepth 20000 in
theorem t_J_X8_hear_139 (hst : gj_Stat S) {r : gj_M} (l1 l2 l3 s1 s2 : Int) (M : gj_M) (hF : J_X8_hear_139 l1 l2 l3 s1 s2 M = r) : gj_W G l 4 0 0 yX8_hear cX8_hear 5 none (gj_qV fun S' M' => S = S' ∧ r = M') 0 0 139 [(0, jR 44), (1, jI l1), (2, jI l2), (3, jI l3)] [jI s2, jI s1, jR 21] S M := by
  unfold J_X8_hear_139 at hF
  refine gj_callV (q := 142) (z := 21) (ci := 3) [jI s1, jI s2] rfl (t_X3_earn hst s1 s2 rfl) (gj_dk okX8_hear 70 rfl) ml_X8_108 me_X3_earn (sh21 hst) rfl (gj_nm rfl) rfl (gj_kV fun S2 M2 h => ?_)
  obtain ⟨eS, eM⟩ := h; subst eS; subst eM
  refine gj_stp hF (fun M5 hF => ?_)
  refine gj_aload_n (q := 143) (gj_dk okX8_hear 71 rfl) rfl rfl ?_
  refine gj_gR (q := 146) (j := 1) (gj_dk okX8_hear 72 rfl) ff_X8_19 (sh44 hst) (by decide) rfl (rf44_1 hst) rfl ?_
  refine gj_gR (q := 149) (j := 10) (gj_dk okX8_hear 73 rfl) ff_X8_111 (sh21 hst) (by decide) rfl (rf21_10 hst) rfl ?_
  refine gj_aload_n (q := 150) (gj_dk okX8_hear 74 rfl) rfl rfl ?_
  refine gj_gR (q := 153) (j := 1) (gj_dk okX8_hear 75 rfl) ff_X8_19 (sh44 hst) (by decide) rfl (rf44_1 hst) rfl ?_
  refine gj_gI (q := 156) (j := 0) (gj_dk okX8_hear 76 rfl) ff_X8_115 (sh21 hst) (by decide) rfl rfl ?_
  refine gj_iload_n (q := 157) (gj_dk okX8_hear 77 rfl) rfl rfl ?_
  refine gj_iload_n (q := 158) (gj_dk okX8_hear 78 rfl) rfl rfl ?_
  refine gj_callS (q := 161) [jI l2] rfl (c_X10_numberOf _) (gj_dk okX8_hear 79 rfl) ml_X8_118 me_X10_numberOf (gj_nm rfl) rfl (gj_kI fun x S2 M2 h => ?_)
  obtain ⟨e, eS, eM⟩ := h; subst eS; subst eM; subst e
  refine gj_aload_n (q := 162) (gj_dk okX8_hear 80 rfl) rfl rfl ?_
  refine gj_gR (q := 165) (j := 1) (gj_dk okX8_hear 81 rfl) ff_X8_19 (sh44 hst) (by decide) rfl (rf44_1 hst) rfl ?_
  refine gj_gR (q := 168) (j := 4) (gj_dk okX8_hear 82 rfl) ff_X8_124 (sh21 hst) (by decide) rfl (rf21_4 hst) rfl ?_
  refine gj_iload_n (q := 169) (gj_dk okX8_hear 83 rfl) rfl rfl ?_
  refine gj_callS (q := 172) [jR 23, jI l1] rfl (c_X7_at (sh23 hst) (by decide) (by decide) _) (gj_dk okX8_hear 84 rfl) ml_X8_66 me_X7_at (gj_nm rfl) rfl (gj_kI fun x S2 M2 h => ?_)
  obtain ⟨e, eS, eM⟩ := h; subst eS; subst eM; subst e
  refine gj_iload_n (q := 173) (gj_dk okX8_hear 85 rfl) rfl rfl ?_
  refine gj_callV (q := 176) (z := 29) (ci := 1) [jI (M5 21 0), jI l1, jI (f_num l2), jI (f_at M5 23 8 l1), jI l3] rfl (t_X1_add hst (M5 21 0) l1 (f_num l2) (f_at M5 23 8 l1) l3 rfl) (gj_dk okX8_hear 86 rfl) ml_X8_127 me_X1_add (sh29 hst) rfl (gj_nm rfl) rfl (gj_kV fun S2 M2 h => ?_)
  obtain ⟨eS, eM⟩ := h; subst eS; subst eM
  refine gj_stp hF (fun M6 hF => ?_)
  refine gj_aload_n (q := 177) (gj_dk okX8_hear 87 rfl) rfl rfl ?_
  refine gj_gR (q := 180) (j := 1) (gj_dk okX8_hear 88 rfl) ff_X8_19 (sh44 hst) (by decide) rfl (rf44_1 hst) rfl ?_
  refine gj_iload_n (q := 181) (gj_dk okX8_hear 89 rfl) rfl rfl ?_
  refine gj_iload_n (q := 182) (gj_dk okX8_hear 90 rfl) rfl rfl ?_
  refine gj_callV (q := 185) (z := 21) (ci := 3) [jI l1, jI l2] rfl (t_X3_loosen hst l1 l2 rfl) (gj_dk okX8_hear 91 rfl) ml_X8_133 me_X3_loosen (sh21 hst) rfl (gj_nm rfl) rfl (gj_kV fun S2 M2 h => ?_)
  obtain ⟨eS, eM⟩ := h; subst eS; subst eM
  refine gj_stp hF (fun M7 hF => ?_)
  subst hF
  exact gj_vret (gj_dk okX8_hear 92 rfl) rfl ⟨rfl, rfl, rfl⟩
set_option maxHeartbeats 4000000 in
set_option maxRecDepth 20000 in
theorem t_J_X8_hear_108 (hst : gj_Stat S) {r : gj_M} (l1 l2 l3 s1 s2 : Int) (M : gj_M) (hF : J_X8_hear_108 l1 l2 l3 s1 s2 M = r) : gj_W G l 4 0 0 yX8_hear cX8_hear 5 none (gj_qV fun S' M' => S = S' ∧ r = M') 0 0 108 [(0, jR 44), (1, jI l1), (2, jI l2), (3, jI l3)] [jI s2, jI s1, jR 21] S M := by
  unfold J_X8_hear_108 at hF
  refine gj_callV (q := 111) (z := 21) (ci := 3) [jI s1, jI s2] rfl (t_X3_earn hst s1 s2 rfl) (gj_dk okX8_hear 55 rfl) ml_X8_108 me_X3_earn (sh21 hst) rfl (gj_nm rfl) rfl (gj_kV fun S2 M2 h => ?_)
  obtain ⟨eS, eM⟩ := h; subst eS; subst eM
  refine gj_stp hF (fun M4 hF => ?_)
  refine gj_aload_n (q := 112) (gj_dk okX8_hear 56 rfl) rfl rfl ?_
  refine gj_gR (q := 115) (j := 1) (gj_dk okX8_hear 57 rfl) ff_X8_19 (sh44 hst) (by decide) rfl (rf44_1 hst) rfl ?_
  refine gj_iload_n (q := 116) (gj_dk okX8_hear 58 rfl) rfl rfl ?_
  refine gj_aload_n (q := 117) (gj_dk okX8_hear 59 rfl) rfl rfl ?_
  refine gj_gR (q := 120) (j := 4) (gj_dk okX8_hear 60 rfl) ff_X8_9 (sh44 hst) (by decide) rfl (rf44_4 hst) rfl ?_
  refine gj_iload_n (q := 121) (gj_dk okX8_hear 61 rfl) rfl rfl ?_
  refine gj_callS (q := 124) [jR 45, jI l2] rfl (c_X7_is (sh45 hst) (by decide) (by decide) _) (gj_dk okX8_hear 62 rfl) ml_X8_94 me_X7_is (gj_nm rfl) rfl (gj_kI fun x S2 M2 h => ?_)
  obtain ⟨e, eS, eM⟩ := h; subst eS; subst eM; subst e
  refine gj_if_eq (q := 127) (tgt := 138) (gj_dk okX8_hear 63 rfl) (by decide) rfl (fun c124 => ?_) (fun c124 => ?_)
  · -- 138
    replace hF := gj_ift c124 hF
    refine gj_iconst (q := 139) (gj_dk okX8_hear 69 rfl) (by decide) rfl ?_
    refine gj_sub [(0, jR 44), (1, jI l1), (2, jI l2), (3, jI l3)] ⟨rfl, rfl, rfl, rfl, trivial⟩ ?_
    exact t_J_X8_hear_139 hst l1 l2 l3 l2 0 M4 hF
  · -- 127
    replace hF := gj_iff c124 hF
    refine gj_aload_n (q := 128) (gj_dk okX8_hear 64 rfl) rfl rfl ?_
    refine gj_gR (q := 131) (j := 0) (gj_dk okX8_hear 65 rfl) ff_X8_15 (sh44 hst) (by decide) rfl (rf44_0 hst) rfl ?_
    refine gj_gI (q := 134) (j := 8) (gj_dk okX8_hear 66 rfl) ff_X8_105 (sh14 hst) (by decide) rfl rfl ?_
    refine gj_ineg (q := 135) (gj_dk okX8_hear 67 rfl) rfl ?_
    refine gj_goto (tgt := 139) (gj_dk okX8_hear 68 rfl) (by decide) ?_
    refine gj_sub [(0, jR 44), (1, jI l1), (2, jI l2), (3, jI l3)] ⟨rfl, rfl, rfl, rfl, trivial⟩ ?_
    exact t_J_X8_hear_139 hst l1 l2 l3 l2 (gj_w (-(M4 14 8))) M4 hF
set_option maxHeartbeats 4000000 in
set_option maxRecDepth 20000 in
theorem t_J_X8_hear_32 (hst : gj_Stat S) {r : gj_M} (l1 l2 s0 s1 : Int) (M : gj_M) (hF : J_X8_hear_32 l1 l2 s0 s1 M = r) : gj_W G l 4 0 0 yX8_hear cX8_hear 5 none (gj_qV fun S' M' => S = S' ∧ r = M') 0 0 32 [(0, jR 44), (1, jI l1), (2, jI l2)] [jI s1, jI s0] S M := by
  unfold J_X8_hear_32 at hF
  refine gj_iadd (q := 33) (gj_dk okX8_hear 16 rfl) rfl ?_
  refine gj_istore_n (q := 34) (gj_dk okX8_hear 17 rfl) (by decide) rfl ?_
  refine gj_iload_n (q := 35) (gj_dk okX8_hear 18 rfl) rfl rfl ?_
  refine gj_if_ne (q := 38) (tgt := 80) (gj_dk okX8_hear 19 rfl) (by decide) rfl (fun c35 => ?_) (fun c35 => ?_)
  · -- 80
    replace hF := gj_iff c35 hF
    refine gj_aload_n (q := 81) (gj_dk okX8_hear 41 rfl) rfl rfl ?_
    refine gj_gR (q := 84) (j := 1) (gj_dk okX8_hear 42 rfl) ff_X8_19 (sh44 hst) (by decide) rfl (rf44_1 hst) rfl ?_
    refine gj_iload_n (q := 85) (gj_dk okX8_hear 43 rfl) rfl rfl ?_
    refine gj_aload_n (q := 86) (gj_dk okX8_hear 44 rfl) rfl rfl ?_
    refine gj_gR (q := 89) (j := 4) (gj_dk okX8_hear 45 rfl) ff_X8_9 (sh44 hst) (by decide) rfl (rf44_4 hst) rfl ?_
    refine gj_iload_n (q := 90) (gj_dk okX8_hear 46 rfl) rfl rfl ?_
    refine gj_callS (q := 93) [jR 45, jI l1] rfl (c_X7_is (sh45 hst) (by decide) (by decide) _) (gj_dk okX8_hear 47 rfl) ml_X8_94 me_X7_is (gj_nm rfl) rfl (gj_kI fun x S2 M2 h => ?_)
    obtain ⟨e, eS, eM⟩ := h; subst eS; subst eM; subst e
    refine gj_if_eq (q := 96) (tgt := 107) (gj_dk okX8_hear 48 rfl) (by decide) rfl (fun c93 => ?_) (fun c93 => ?_)
    · -- 107
      replace hF := gj_ift c93 hF
      refine gj_iconst (q := 108) (gj_dk okX8_hear 54 rfl) (by decide) rfl ?_
      refine gj_sub [(0, jR 44), (1, jI l1), (2, jI l2), (3, jI (gj_w (s0 + s1)))] ⟨rfl, rfl, rfl, rfl, trivial⟩ ?_
      exact t_J_X8_hear_108 hst l1 l2 (gj_w (s0 + s1)) l1 0 M hF
    · -- 96
      replace hF := gj_iff c93 hF
      refine gj_aload_n (q := 97) (gj_dk okX8_hear 49 rfl) rfl rfl ?_
      refine gj_gR (q := 100) (j := 0) (gj_dk okX8_hear 50 rfl) ff_X8_15 (sh44 hst) (by decide) rfl (rf44_0 hst) rfl ?_
      refine gj_gI (q := 103) (j := 8) (gj_dk okX8_hear 51 rfl) ff_X8_105 (sh14 hst) (by decide) rfl rfl ?_
      refine gj_ineg (q := 104) (gj_dk okX8_hear 52 rfl) rfl ?_
      refine gj_goto (tgt := 108) (gj_dk okX8_hear 53 rfl) (by decide) ?_
      refine gj_sub [(0, jR 44), (1, jI l1), (2, jI l2), (3, jI (gj_w (s0 + s1)))] ⟨rfl, rfl, rfl, rfl, trivial⟩ ?_
      exact t_J_X8_hear_108 hst l1 l2 (gj_w (s0 + s1)) l1 (gj_w (-(M 14 8))) M hF
  · -- 38
    replace hF := gj_ift c35 hF
    refine gj_aload_n (q := 39) (gj_dk okX8_hear 20 rfl) rfl rfl ?_
    refine gj_gR (q := 42) (j := 1) (gj_dk okX8_hear 21 rfl) ff_X8_19 (sh44 hst) (by decide) rfl (rf44_1 hst) rfl ?_
    refine gj_gR (q := 45) (j := 5) (gj_dk okX8_hear 22 rfl) ff_X8_98 (sh21 hst) (by decide) rfl (rf21_5 hst) rfl ?_
    refine gj_iload_n (q := 46) (gj_dk okX8_hear 23 rfl) rfl rfl ?_
    refine gj_callS (q := 49) [jR 24, jI l1] rfl (c_X7_at (sh24 hst) (by decide) (by decide) _) (gj_dk okX8_hear 24 rfl) ml_X8_66 me_X7_at (gj_nm rfl) rfl (gj_kI fun x S2 M2 h => ?_)
    obtain ⟨e, eS, eM⟩ := h; subst eS; subst eM; subst e
    refine gj_iconst (q := 50) (gj_dk okX8_hear 25 rfl) (by decide) rfl ?_
    refine gj_iadd (q := 51) (gj_dk okX8_hear 26 rfl) rfl ?_
    refine gj_stpI hF (fun x1 hF => ?_)
    refine gj_istore (q := 53) (gj_dk okX8_hear 27 rfl) (by decide) rfl ?_
    refine gj_aload_n (q := 54) (gj_dk okX8_hear 28 rfl) rfl rfl ?_
    refine gj_gR (q := 57) (j := 1) (gj_dk okX8_hear 29 rfl) ff_X8_19 (sh44 hst) (by decide) rfl (rf44_1 hst) rfl ?_
    refine gj_gR (q := 60) (j := 5) (gj_dk okX8_hear 30 rfl) ff_X8_98 (sh21 hst) (by decide) rfl (rf21_5 hst) rfl ?_
    refine gj_iload_n (q := 61) (gj_dk okX8_hear 31 rfl) rfl rfl ?_
    refine gj_iload (q := 63) (gj_dk okX8_hear 32 rfl) rfl rfl ?_
    refine gj_callS (q := 66) [jR 24, jI l1, jI x1] rfl (c_X7_put (sh24 hst) (by decide) (by decide) _ _) (gj_dk okX8_hear 33 rfl) ml_X8_101 me_X7_put (gj_nm rfl) rfl (gj_kV fun S2 M2 h => ?_)
    obtain ⟨eS, eM⟩ := h; subst eS; subst eM
    refine gj_stp hF (fun M2 hF => ?_)
    refine gj_aload_n (q := 67) (gj_dk okX8_hear 34 rfl) rfl rfl ?_
    refine gj_gR (q := 70) (j := 1) (gj_dk okX8_hear 35 rfl) ff_X8_19 (sh44 hst) (by decide) rfl (rf44_1 hst) rfl ?_
    refine gj_gR (q := 73) (j := 5) (gj_dk okX8_hear 36 rfl) ff_X8_98 (sh21 hst) (by decide) rfl (rf21_5 hst) rfl ?_
    refine gj_iload_n (q := 74) (gj_dk okX8_hear 37 rfl) rfl rfl ?_
    refine gj_iload (q := 76) (gj_dk okX8_hear 38 rfl) rfl rfl ?_
    refine gj_callS (q := 79) [jR 24, jI l2, jI x1] rfl (c_X7_put (sh24 hst) (by decide) (by decide) _ _) (gj_dk okX8_hear 39 rfl) ml_X8_101 me_X7_put (gj_nm rfl) rfl (gj_kV fun S2 M2 h => ?_)
    obtain ⟨eS, eM⟩ := h; subst eS; subst eM
    refine gj_stp hF (fun M3 hF => ?_)
    subst hF
    exact gj_vret (gj_dk okX8_hear 40 rfl) rfl ⟨rfl, rfl, rfl⟩
set_option maxHeartbeats 4000000 in
set_option maxRecDepth 20000 in
theorem t_J_X8_hear_16 (hst : gj_Stat S) {r : gj_M} (l1 l2 s0 : Int) (M : gj_M) (hF : J_X8_hear_16 l1 l2 s0 M = r) : gj_W G l 4 0 0 yX8_hear cX8_hear 5 none (gj_qV fun S' M' => S = S' ∧ r = M') 0 0 16 [(0, jR 44), (1, jI l1), (2, jI l2)] [jI s0] S M := by
  unfold J_X8_hear_16 at hF
  refine gj_aload_n (q := 17) (gj_dk okX8_hear 8 rfl) rfl rfl ?_
  refine gj_gR (q := 20) (j := 4) (gj_dk okX8_hear 9 rfl) ff_X8_9 (sh44 hst) (by decide) rfl (rf44_4 hst) rfl ?_
  refine gj_iload_n (q := 21) (gj_dk okX8_hear 10 rfl) rfl rfl ?_
  refine gj_callS (q := 24) [jR 45, jI l2] rfl (c_X7_is (sh45 hst) (by decide) (by decide) _) (gj_dk okX8_hear 11 rfl) ml_X8_94 me_X7_is (gj_nm rfl) rfl (gj_kI fun x S2 M2 h => ?_)
  obtain ⟨e, eS, eM⟩ := h; subst eS; subst eM; subst e
  refine gj_if_eq (q := 27) (tgt := 31) (gj_dk okX8_hear 12 rfl) (by decide) rfl (fun c24 => ?_) (fun c24 => ?_)
  · -- 31
    replace hF := gj_ift c24 hF
    refine gj_iconst (q := 32) (gj_dk okX8_hear 15 rfl) (by decide) rfl ?_
    refine gj_sub [(0, jR 44), (1, jI l1), (2, jI l2)] ⟨rfl, rfl, rfl, trivial⟩ ?_
    exact t_J_X8_hear_32 hst l1 l2 s0 0 M hF
  · -- 27
    replace hF := gj_iff c24 hF
    refine gj_iconst (q := 28) (gj_dk okX8_hear 13 rfl) (by decide) rfl ?_
    refine gj_goto (tgt := 32) (gj_dk okX8_hear 14 rfl) (by decide) ?_
    refine gj_sub [(0, jR 44), (1, jI l1), (2, jI l2)] ⟨rfl, rfl, rfl, trivial⟩ ?_
    exact t_J_X8_hear_32 hst l1 l2 s0 2 M hF
set_option maxHeartbeats 4000000 in
set_option maxRecDepth 20000 in
theorem t_X8_hear (hst : gj_Stat S) (a1 a2 : Int) {r : gj_M} (hF : f_X8_hear a1 a2 M = r) : gj_C G l 4 0 0 yX8_hear cX8_hear 5 none [jR 44, jI a1, jI a2] S M (gj_qV fun S' M' => S = S' ∧ r = M') := by
  refine gj_Cof (by decide +kernel) (Nat.le_of_ble_eq_true rfl) ?_
  change gj_W G l 4 0 0 yX8_hear cX8_hear 5 none (gj_qV fun S' M' => S = S' ∧ r = M') 0 0 0 [(0, jR 44), (1, jI a1), (2, jI a2)] [] S M
  unfold f_X8_hear at hF
  refine gj_aload_n (q := 1) (gj_dk okX8_hear 0 rfl) rfl rfl ?_
  refine gj_gR (q := 4) (j := 4) (gj_dk okX8_hear 1 rfl) ff_X8_9 (sh44 hst) (by decide) rfl (rf44_4 hst) rfl ?_
  refine gj_iload_n (q := 5) (gj_dk okX8_hear 2 rfl) rfl rfl ?_
  refine gj_callS (q := 8) [jR 45, jI a1] rfl (c_X7_is (sh45 hst) (by decide) (by decide) _) (gj_dk okX8_hear 3 rfl) ml_X8_94 me_X7_is (gj_nm rfl) rfl (gj_kI fun x S2 M2 h => ?_)
  obtain ⟨e, eS, eM⟩ := h; subst eS; subst eM; subst e
  refine gj_if_eq (q := 11) (tgt := 15) (gj_dk okX8_hear 4 rfl) (by decide) rfl (fun c8 => ?_) (fun c8 => ?_)
  · -- 15
    replace hF := gj_ift c8 hF
    refine gj_iconst (q := 16) (gj_dk okX8_hear 7 rfl) (by decide) rfl ?_
    refine gj_sub [(0, jR 44), (1, jI a1), (2, jI a2)] ⟨rfl, rfl, rfl, trivial⟩ ?_
    exact t_J_X8_hear_16 hst a1 a2 0 M hF
  · -- 11
    replace hF := gj_iff c8 hF
    refine gj_iconst (q := 12) (gj_dk okX8_hear 5 rfl) (by decide) rfl ?_
    refine gj_goto (tgt := 16) (gj_dk okX8_hear 6 rfl) (by decide) ?_
    refine gj_sub [(0, jR 44), (1, jI a1), (2, jI a2)] ⟨rfl, rfl, rfl, trivial⟩ ?_
    exact t_J_X8_hear_16 hst a1 a2 1 M hF
def J_X8_endPairs_30 (rec2 : Int → gj_M → Option (gj_M)) (l1 : Int) (M : gj_M) : Option (gj_M) :=
  rec2 (gj_w (l1 + 1)) M
def B_X8_endPairs_2 (rec2 : Int → gj_M → Option (gj_M)) (l1 : Int) (M : gj_M) : Option (gj_M) :=
  (if 4 ≤ l1 then (some (M)) else (if f_at M 22 8 l1 = -1 then (J_X8_endPairs_30 rec2 l1 M) else gj_let (f_X8_hear l1 (f_at M 22 8 l1) M) (fun M1 => (J_X8_endPairs_30 rec2 l1 M1))))
def F_X8_endPairs (M : gj_M) : Option (gj_M) :=
  (gj_it (fun _ _ => none) (B_X8_endPairs_2) gj_fu 0 M)
set_option maxHeartbeats 4000000 in
set_option maxRecDepth 20000 in
theorem t_J_X8_endPairs_30 (hst : gj_Stat S) {r : gj_M} {rec2 : Int → gj_M → Option (gj_M)} (hrec2 : ∀ (l1 : Int) (M : gj_M), rec2 l1 M = some r → gj_W G l 5 0 0 yX8_endPairs cX8_endPairs 3 none (gj_qV fun S' M' => S = S' ∧ r = M') 0 0 2 [(0, jR 44), (1, jI l1)] [] S M) (l1 : Int) (M : gj_M) (hF : J_X8_endPairs_30 rec2 l1 M = some r) : gj_W G l 5 0 0 yX8_endPairs cX8_endPairs 3 none (gj_qV fun S' M' => S = S' ∧ r = M') 0 0 30 [(0, jR 44), (1, jI l1)] [] S M := by
  unfold J_X8_endPairs_30 at hF
  refine gj_iinc (q := 33) (v := gj_w (l1 + 1)) (gj_dk okX8_endPairs 18 rfl) rfl (by decide) rfl rfl ?_
  refine gj_goto (tgt := 2) (gj_dk okX8_endPairs 19 rfl) (by decide) ?_
  refine gj_sub [(0, jR 44), (1, jI (gj_w (l1 + 1)))] ⟨rfl, rfl, trivial⟩ ?_
  exact hrec2 (gj_w (l1 + 1)) M hF
set_option maxHeartbeats 4000000 in
set_option maxRecDepth 20000 in
theorem t_B_X8_endPairs_2 (hst : gj_Stat S) {r : gj_M} {rec2 : Int → gj_M → Option (gj_M)} (hrec2 : ∀ (l1 : Int) (M : gj_M), rec2 l1 M = some r → gj_W G l 5 0 0 yX8_endPairs cX8_endPairs 3 none (gj_qV fun S' M' => S = S' ∧ r = M') 0 0 2 [(0, jR 44), (1, jI l1)] [] S M) (l1 : Int) (M : gj_M) (hF : B_X8_endPairs_2 rec2 l1 M = some r) : gj_W G l 5 0 0 yX8_endPairs cX8_endPairs 3 none (gj_qV fun S' M' => S = S' ∧ r = M') 0 0 2 [(0, jR 44), (1, jI l1)] [] S M := by
  unfold B_X8_endPairs_2 at hF
  refine gj_iload_n (q := 3) (gj_dk okX8_endPairs 2 rfl) rfl rfl ?_
  refine gj_iconst (q := 4) (gj_dk okX8_endPairs 3 rfl) (by decide) rfl ?_
  refine gj_icmp_ge (q := 7) (tgt := 36) (gj_dk okX8_endPairs 4 rfl) (by decide) rfl (fun c4 => ?_) (fun c4 => ?_)
  · -- 36
    replace hF := gj_ift c4 hF
    cases hF
    exact gj_vret (gj_dk okX8_endPairs 20 rfl) rfl ⟨rfl, rfl, rfl⟩
  · -- 7
    replace hF := gj_iff c4 hF
    refine gj_aload_n (q := 8) (gj_dk okX8_endPairs 5 rfl) rfl rfl ?_
    refine gj_gR (q := 11) (j := 1) (gj_dk okX8_endPairs 6 rfl) ff_X8_19 (sh44 hst) (by decide) rfl (rf44_1 hst) rfl ?_
    refine gj_gR (q := 14) (j := 3) (gj_dk okX8_endPairs 7 rfl) ff_X8_62 (sh21 hst) (by decide) rfl (rf21_3 hst) rfl ?_
    refine gj_iload_n (q := 15) (gj_dk okX8_endPairs 8 rfl) rfl rfl ?_
    refine gj_callS (q := 18) [jR 22, jI l1] rfl (c_X7_at (sh22 hst) (by decide) (by decide) _) (gj_dk okX8_endPairs 9 rfl) ml_X8_66 me_X7_at (gj_nm rfl) rfl (gj_kI fun x S2 M2 h => ?_)
    obtain ⟨e, eS, eM⟩ := h; subst eS; subst eM; subst e
    refine gj_istore_n (q := 19) (gj_dk okX8_endPairs 10 rfl) (by decide) rfl ?_
    refine gj_iload_n (q := 20) (gj_dk okX8_endPairs 11 rfl) rfl rfl ?_
    refine gj_iconst (q := 21) (gj_dk okX8_endPairs 12 rfl) (by decide) rfl ?_
    refine gj_icmp_eq (q := 24) (tgt := 30) (gj_dk okX8_endPairs 13 rfl) (by decide) rfl (fun c21 => ?_) (fun c21 => ?_)
    · -- 30
      replace hF := gj_ift c21 hF
      refine gj_sub [(0, jR 44), (1, jI l1)] ⟨rfl, rfl, trivial⟩ ?_
      exact t_J_X8_endPairs_30 hst hrec2 l1 M hF
    · -- 24
      replace hF := gj_iff c21 hF
      refine gj_aload_n (q := 25) (gj_dk okX8_endPairs 14 rfl) rfl rfl ?_
      refine gj_iload_n (q := 26) (gj_dk okX8_endPairs 15 rfl) rfl rfl ?_
      refine gj_iload_n (q := 27) (gj_dk okX8_endPairs 16 rfl) rfl rfl ?_
      refine gj_callV (q := 30) (z := 44) (ci := 7) [jI l1, jI (f_at M 22 8 l1)] rfl (t_X8_hear hst l1 (f_at M 22 8 l1) rfl) (gj_dk okX8_endPairs 17 rfl) ml_X8_90 me_X8_hear (sh44 hst) rfl (gj_nm rfl) rfl (gj_kV fun S2 M2 h => ?_)
      obtain ⟨eS, eM⟩ := h; subst eS; subst eM
      refine gj_stp hF (fun M1 hF => ?_)
      refine gj_sub [(0, jR 44), (1, jI l1)] ⟨rfl, rfl, trivial⟩ ?_
      exact t_J_X8_endPairs_30 hst hrec2 l1 M1 hF
theorem t_L_X8_endPairs_2 (hst : gj_Stat S) {r : gj_M} : ∀ (m : Nat) (l1 : Int) (M : gj_M), gj_it (fun _ _ => none) (B_X8_endPairs_2) m l1 M = some r → gj_W G l 5 0 0 yX8_endPairs cX8_endPairs 3 none (gj_qV fun S' M' => S = S' ∧ r = M') 0 0 2 [(0, jR 44), (1, jI l1)] [] S M := by
  intro m
  induction m with
  | zero => intro l1 M hF; cases (show (none : Option (gj_M)) = some r from hF)
  | succ m ih => intro l1 M hF; exact t_B_X8_endPairs_2 hst (fun l1 M h => ih l1 M h) l1 M hF
set_option maxHeartbeats 4000000 in
set_option maxRecDepth 20000 in
theorem t_X8_endPairs (hst : gj_Stat S) {r : gj_M} (hF : F_X8_endPairs M = some r) : gj_C G l 5 0 0 yX8_endPairs cX8_endPairs 3 none [jR 44] S M (gj_qV fun S' M' => S = S' ∧ r = M') := by
  refine gj_Cof (by decide +kernel) (Nat.le_of_ble_eq_true rfl) ?_
  change gj_W G l 5 0 0 yX8_endPairs cX8_endPairs 3 none (gj_qV fun S' M' => S = S' ∧ r = M') 0 0 0 [(0, jR 44)] [] S M
  unfold F_X8_endPairs at hF
  refine gj_iconst (q := 1) (gj_dk okX8_endPairs 0 rfl) (by decide) rfl ?_
  refine gj_istore_n (q := 2) (gj_dk okX8_endPairs 1 rfl) (by decide) rfl ?_
  refine gj_sub [(0, jR 44), (1, jI 0)] ⟨rfl, rfl, trivial⟩ ?_
  exact t_L_X8_endPairs_2 hst gj_fu 0 M hF
def f_X3_bind (a1 : Int) (a2 : Int) (M : gj_M) : gj_M :=
  gj_let (f_put M 22 8 a1 a2) (fun M1 => gj_let (f_put M1 22 8 a2 a1) (fun M2 => (M2)))
set_option maxHeartbeats 4000000 in
set_option maxRecDepth 20000 in
theorem t_X3_bind (hst : gj_Stat S) (a1 a2 : Int) {r : gj_M} (hF : f_X3_bind a1 a2 M = r) : gj_C G l 2 0 0 yX3_bind cX3_bind 3 none [jR 21, jI a1, jI a2] S M (gj_qV fun S' M' => S = S' ∧ r = M') := by
  refine gj_Cof (by decide +kernel) (Nat.le_of_ble_eq_true rfl) ?_
  change gj_W G l 2 0 0 yX3_bind cX3_bind 3 none (gj_qV fun S' M' => S = S' ∧ r = M') 0 0 0 [(0, jR 21), (1, jI a1), (2, jI a2)] [] S M
  unfold f_X3_bind at hF
  refine gj_aload_n (q := 1) (gj_dk okX3_bind 0 rfl) rfl rfl ?_
  refine gj_gR (q := 4) (j := 3) (gj_dk okX3_bind 1 rfl) ff_X3_9 (sh21 hst) (by decide) rfl (rf21_3 hst) rfl ?_
  refine gj_iload_n (q := 5) (gj_dk okX3_bind 2 rfl) rfl rfl ?_
  refine gj_iload_n (q := 6) (gj_dk okX3_bind 3 rfl) rfl rfl ?_
  refine gj_callS (q := 9) [jR 22, jI a1, jI a2] rfl (c_X7_put (sh22 hst) (by decide) (by decide) _ _) (gj_dk okX3_bind 4 rfl) ml_X3_67 me_X7_put (gj_nm rfl) rfl (gj_kV fun S2 M2 h => ?_)
  obtain ⟨eS, eM⟩ := h; subst eS; subst eM
  refine gj_stp hF (fun M1 hF => ?_)
  refine gj_aload_n (q := 10) (gj_dk okX3_bind 5 rfl) rfl rfl ?_
  refine gj_gR (q := 13) (j := 3) (gj_dk okX3_bind 6 rfl) ff_X3_9 (sh21 hst) (by decide) rfl (rf21_3 hst) rfl ?_
  refine gj_iload_n (q := 14) (gj_dk okX3_bind 7 rfl) rfl rfl ?_
  refine gj_iload_n (q := 15) (gj_dk okX3_bind 8 rfl) rfl rfl ?_
  refine gj_callS (q := 18) [jR 22, jI a2, jI a1] rfl (c_X7_put (sh22 hst) (by decide) (by decide) _ _) (gj_dk okX3_bind 9 rfl) ml_X3_67 me_X7_put (gj_nm rfl) rfl (gj_kV fun S2 M2 h => ?_)
  obtain ⟨eS, eM⟩ := h; subst eS; subst eM
  refine gj_stp hF (fun M2 hF => ?_)
  subst hF
  exact gj_vret (gj_dk okX3_bind 10 rfl) rfl ⟨rfl, rfl, rfl⟩
def J_X8_bindNewPairs_33 (rec2 : Int → gj_M → Option (gj_M)) (l1 : Int) (M : gj_M) : Option (gj_M) :=
  rec2 (gj_w (l1 + 1)) M
def B_X8_bindNewPairs_2 (rec2 : Int → gj_M → Option (gj_M)) (l1 : Int) (M : gj_M) : Option (gj_M) :=
  (if 4 ≤ l1 then (some (M)) else (if f_at M 40 8 l1 = -1 then (J_X8_bindNewPairs_33 rec2 l1 M) else gj_let (f_X3_bind l1 (f_at M 40 8 l1) M) (fun M1 => (J_X8_bindNewPairs_33 rec2 l1 M1))))
def F_X8_bindNewPairs (M : gj_M) : Option (gj_M) :=
  (gj_it (fun _ _ => none) (B_X8_bindNewPairs_2) gj_fu 0 M)
set_option maxHeartbeats 4000000 in
set_option maxRecDepth 20000 in
theorem t_J_X8_bindNewPairs_33 (hst : gj_Stat S) {r : gj_M} {rec2 : Int → gj_M → Option (gj_M)} (hrec2 : ∀ (l1 : Int) (M : gj_M), rec2 l1 M = some r → gj_W G l 3 0 0 yX8_bindNewPairs cX8_bindNewPairs 3 none (gj_qV fun S' M' => S = S' ∧ r = M') 0 0 2 [(0, jR 44), (1, jI l1)] [] S M) (l1 : Int) (M : gj_M) (hF : J_X8_bindNewPairs_33 rec2 l1 M = some r) : gj_W G l 3 0 0 yX8_bindNewPairs cX8_bindNewPairs 3 none (gj_qV fun S' M' => S = S' ∧ r = M') 0 0 33 [(0, jR 44), (1, jI l1)] [] S M := by
  unfold J_X8_bindNewPairs_33 at hF
  refine gj_iinc (q := 36) (v := gj_w (l1 + 1)) (gj_dk okX8_bindNewPairs 19 rfl) rfl (by decide) rfl rfl ?_
  refine gj_goto (tgt := 2) (gj_dk okX8_bindNewPairs 20 rfl) (by decide) ?_
  refine gj_sub [(0, jR 44), (1, jI (gj_w (l1 + 1)))] ⟨rfl, rfl, trivial⟩ ?_
  exact hrec2 (gj_w (l1 + 1)) M hF
set_option maxHeartbeats 4000000 in
set_option maxRecDepth 20000 in
theorem t_B_X8_bindNewPairs_2 (hst : gj_Stat S) {r : gj_M} {rec2 : Int → gj_M → Option (gj_M)} (hrec2 : ∀ (l1 : Int) (M : gj_M), rec2 l1 M = some r → gj_W G l 3 0 0 yX8_bindNewPairs cX8_bindNewPairs 3 none (gj_qV fun S' M' => S = S' ∧ r = M') 0 0 2 [(0, jR 44), (1, jI l1)] [] S M) (l1 : Int) (M : gj_M) (hF : B_X8_bindNewPairs_2 rec2 l1 M = some r) : gj_W G l 3 0 0 yX8_bindNewPairs cX8_bindNewPairs 3 none (gj_qV fun S' M' => S = S' ∧ r = M') 0 0 2 [(0, jR 44), (1, jI l1)] [] S M := by
  unfold B_X8_bindNewPairs_2 at hF
  refine gj_iload_n (q := 3) (gj_dk okX8_bindNewPairs 2 rfl) rfl rfl ?_
  refine gj_iconst (q := 4) (gj_dk okX8_bindNewPairs 3 rfl) (by decide) rfl ?_
  refine gj_icmp_ge (q := 7) (tgt := 39) (gj_dk okX8_bindNewPairs 4 rfl) (by decide) rfl (fun c4 => ?_) (fun c4 => ?_)
  · -- 39
    replace hF := gj_ift c4 hF
    cases hF
    exact gj_vret (gj_dk okX8_bindNewPairs 21 rfl) rfl ⟨rfl, rfl, rfl⟩
  · -- 7
    replace hF := gj_iff c4 hF
    refine gj_aload_n (q := 8) (gj_dk okX8_bindNewPairs 5 rfl) rfl rfl ?_
    refine gj_gR (q := 11) (j := 3) (gj_dk okX8_bindNewPairs 6 rfl) ff_X8_27 (sh44 hst) (by decide) rfl (rf44_3 hst) rfl ?_
    refine gj_gR (q := 14) (j := 6) (gj_dk okX8_bindNewPairs 7 rfl) ff_X8_136 (sh35 hst) (by decide) rfl (rf35_6 hst) rfl ?_
    refine gj_iload_n (q := 15) (gj_dk okX8_bindNewPairs 8 rfl) rfl rfl ?_
    refine gj_callS (q := 18) [jR 40, jI l1] rfl (c_X7_at (sh40 hst) (by decide) (by decide) _) (gj_dk okX8_bindNewPairs 9 rfl) ml_X8_66 me_X7_at (gj_nm rfl) rfl (gj_kI fun x S2 M2 h => ?_)
    obtain ⟨e, eS, eM⟩ := h; subst eS; subst eM; subst e
    refine gj_istore_n (q := 19) (gj_dk okX8_bindNewPairs 10 rfl) (by decide) rfl ?_
    refine gj_iload_n (q := 20) (gj_dk okX8_bindNewPairs 11 rfl) rfl rfl ?_
    refine gj_iconst (q := 21) (gj_dk okX8_bindNewPairs 12 rfl) (by decide) rfl ?_
    refine gj_icmp_eq (q := 24) (tgt := 33) (gj_dk okX8_bindNewPairs 13 rfl) (by decide) rfl (fun c21 => ?_) (fun c21 => ?_)
    · -- 33
      replace hF := gj_ift c21 hF
      refine gj_sub [(0, jR 44), (1, jI l1)] ⟨rfl, rfl, trivial⟩ ?_
      exact t_J_X8_bindNewPairs_33 hst hrec2 l1 M hF
    · -- 24
      replace hF := gj_iff c21 hF
      refine gj_aload_n (q := 25) (gj_dk okX8_bindNewPairs 14 rfl) rfl rfl ?_
      refine gj_gR (q := 28) (j := 1) (gj_dk okX8_bindNewPairs 15 rfl) ff_X8_19 (sh44 hst) (by decide) rfl (rf44_1 hst) rfl ?_
      refine gj_iload_n (q := 29) (gj_dk okX8_bindNewPairs 16 rfl) rfl rfl ?_
      refine gj_iload_n (q := 30) (gj_dk okX8_bindNewPairs 17 rfl) rfl rfl ?_
      refine gj_callV (q := 33) (z := 21) (ci := 3) [jI l1, jI (f_at M 40 8 l1)] rfl (t_X3_bind hst l1 (f_at M 40 8 l1) rfl) (gj_dk okX8_bindNewPairs 18 rfl) ml_X8_137 me_X3_bind (sh21 hst) rfl (gj_nm rfl) rfl (gj_kV fun S2 M2 h => ?_)
      obtain ⟨eS, eM⟩ := h; subst eS; subst eM
      refine gj_stp hF (fun M1 hF => ?_)
      refine gj_sub [(0, jR 44), (1, jI l1)] ⟨rfl, rfl, trivial⟩ ?_
      exact t_J_X8_bindNewPairs_33 hst hrec2 l1 M1 hF
theorem t_L_X8_bindNewPairs_2 (hst : gj_Stat S) {r : gj_M} : ∀ (m : Nat) (l1 : Int) (M : gj_M), gj_it (fun _ _ => none) (B_X8_bindNewPairs_2) m l1 M = some r → gj_W G l 3 0 0 yX8_bindNewPairs cX8_bindNewPairs 3 none (gj_qV fun S' M' => S = S' ∧ r = M') 0 0 2 [(0, jR 44), (1, jI l1)] [] S M := by
  intro m
  induction m with
  | zero => intro l1 M hF; cases (show (none : Option (gj_M)) = some r from hF)
  | succ m ih => intro l1 M hF; exact t_B_X8_bindNewPairs_2 hst (fun l1 M h => ih l1 M h) l1 M hF
set_option maxHeartbeats 4000000 in
set_option maxRecDepth 20000 in
theorem t_X8_bindNewPairs (hst : gj_Stat S) {r : gj_M} (hF : F_X8_bindNewPairs M = some r) : gj_C G l 3 0 0 yX8_bindNewPairs cX8_bindNewPairs 3 none [jR 44] S M (gj_qV fun S' M' => S = S' ∧ r = M') := by
  refine gj_Cof (by decide +kernel) (Nat.le_of_ble_eq_true rfl) ?_
  change gj_W G l 3 0 0 yX8_bindNewPairs cX8_bindNewPairs 3 none (gj_qV fun S' M' => S = S' ∧ r = M') 0 0 0 [(0, jR 44)] [] S M
  unfold F_X8_bindNewPairs at hF
  refine gj_iconst (q := 1) (gj_dk okX8_bindNewPairs 0 rfl) (by decide) rfl ?_
  refine gj_istore_n (q := 2) (gj_dk okX8_bindNewPairs 1 rfl) (by decide) rfl ?_
  refine gj_sub [(0, jR 44), (1, jI 0)] ⟨rfl, rfl, trivial⟩ ?_
  exact t_L_X8_bindNewPairs_2 hst gj_fu 0 M hF
def J_X8_liveTogether_147 (l1 l2 l3 l4 l5 l6 l7 l8 : Int) (M : gj_M) : Option (gj_M) :=
  gj_let (f_X3_earn l1 l8 M) (fun M6 => gj_let (f_X3_earn l2 l8 M6) (fun M7 => gj_let (f_put M7 23 8 l1 (gj_w (l6 + 1))) (fun M8 => gj_let (f_put M8 23 8 l2 (gj_w (l6 + 1))) (fun M9 => (if l4 = 0 then gj_let (f_put M9 27 16 l3 (f_min 4 (gj_w ((f_at M9 27 16 l3) + 1)))) (fun M10 => (if l5 = 0 then (some (M10)) else gj_let (f_put M10 28 16 l3 (f_min 99 (gj_w (l7 + 1)))) (fun M11 => (some (M11))))) else gj_let (f_put M9 26 16 l3 (f_min 4 (gj_w ((f_at M9 26 16 l3) + 1)))) (fun M12 => (if l5 = 0 then (some (M12)) else gj_let (f_put M12 28 16 l3 (f_min 99 (gj_w (l7 + 1)))) (fun M13 => (some (M13))))))))))
def J_X8_liveTogether_110 (l1 l2 l3 l4 l5 l6 l7 s0 : Int) (M : gj_M) : Option (gj_M) :=
  gj_letI (gj_w (s0 + (gj_w ((M 14 7) * l7)))) (fun x5 => (if l6 < M 14 4 then (J_X8_liveTogether_147 l1 l2 l3 l4 l5 l6 l7 x5 M) else (J_X8_liveTogether_147 l1 l2 l3 l4 l5 l6 l7 (gj_w (x5 + (M 14 5))) M)))
def J_X8_liveTogether_60 (l1 l2 l3 l4 s0 : Int) (M : gj_M) : Option (gj_M) :=
  (if l4 = 0 then (J_X8_liveTogether_110 l1 l2 l3 l4 s0 (f_at M 23 8 l1) (f_at M 28 16 l3) (M 14 3) M) else (J_X8_liveTogether_110 l1 l2 l3 l4 s0 (f_at M 23 8 l1) (f_at M 28 16 l3) (M 14 2) M))
def J_X8_liveTogether_34 (l1 l2 l3 s0 : Int) (M : gj_M) : Option (gj_M) :=
  gj_bnd2 (F_X3_lot 16 M) (fun x3 M4 => (if M4 14 6 ≤ x3 then (J_X8_liveTogether_60 l1 l2 l3 s0 0 M4) else (J_X8_liveTogether_60 l1 l2 l3 s0 1 M4)))
def F_X8_liveTogether (a1 : Int) (a2 : Int) (M : gj_M) : Option (gj_M) :=
  gj_bnd2 (F_X3_lot 16 M) (fun x1 M2 => (if f_at M2 19 16 (f_cpl a1 a2) ≤ x1 then (J_X8_liveTogether_34 a1 a2 (f_cpl a1 a2) 0 M2) else (J_X8_liveTogether_34 a1 a2 (f_cpl a1 a2) 1 M2)))
set_option maxHeartbeats 4000000 in
set_option maxRecDepth 20000 in
theorem t_J_X8_liveTogether_147 (hst : gj_Stat S) {r : gj_M} (l1 l2 l3 l4 l5 l6 l7 l8 : Int) (M : gj_M) (hF : J_X8_liveTogether_147 l1 l2 l3 l4 l5 l6 l7 l8 M = some r) : gj_W G l 3 0 0 yX8_liveTogether cX8_liveTogether 10 none (gj_qV fun S' M' => S = S' ∧ r = M') 0 0 147 [(0, jR 44), (1, jI l1), (2, jI l2), (3, jI l3), (4, jI l4), (5, jI l5), (6, jI l6), (7, jI l7), (8, jI l8)] [] S M := by
  unfold J_X8_liveTogether_147 at hF
  refine gj_aload_n (q := 148) (gj_dk okX8_liveTogether 69 rfl) rfl rfl ?_
  refine gj_gR (q := 151) (j := 1) (gj_dk okX8_liveTogether 70 rfl) ff_X8_19 (sh44 hst) (by decide) rfl (rf44_1 hst) rfl ?_
  refine gj_iload_n (q := 152) (gj_dk okX8_liveTogether 71 rfl) rfl rfl ?_
  refine gj_iload (q := 154) (gj_dk okX8_liveTogether 72 rfl) rfl rfl ?_
  refine gj_callV (q := 157) (z := 21) (ci := 3) [jI l1, jI l8] rfl (t_X3_earn hst l1 l8 rfl) (gj_dk okX8_liveTogether 73 rfl) ml_X8_108 me_X3_earn (sh21 hst) rfl (gj_nm rfl) rfl (gj_kV fun S2 M2 h => ?_)
  obtain ⟨eS, eM⟩ := h; subst eS; subst eM
  refine gj_stp hF (fun M6 hF => ?_)
  refine gj_aload_n (q := 158) (gj_dk okX8_liveTogether 74 rfl) rfl rfl ?_
  refine gj_gR (q := 161) (j := 1) (gj_dk okX8_liveTogether 75 rfl) ff_X8_19 (sh44 hst) (by decide) rfl (rf44_1 hst) rfl ?_
  refine gj_iload_n (q := 162) (gj_dk okX8_liveTogether 76 rfl) rfl rfl ?_
  refine gj_iload (q := 164) (gj_dk okX8_liveTogether 77 rfl) rfl rfl ?_
  refine gj_callV (q := 167) (z := 21) (ci := 3) [jI l2, jI l8] rfl (t_X3_earn hst l2 l8 rfl) (gj_dk okX8_liveTogether 78 rfl) ml_X8_108 me_X3_earn (sh21 hst) rfl (gj_nm rfl) rfl (gj_kV fun S2 M2 h => ?_)
  obtain ⟨eS, eM⟩ := h; subst eS; subst eM
  refine gj_stp hF (fun M7 hF => ?_)
  refine gj_aload_n (q := 168) (gj_dk okX8_liveTogether 79 rfl) rfl rfl ?_
  refine gj_gR (q := 171) (j := 1) (gj_dk okX8_liveTogether 80 rfl) ff_X8_19 (sh44 hst) (by decide) rfl (rf44_1 hst) rfl ?_
  refine gj_gR (q := 174) (j := 4) (gj_dk okX8_liveTogether 81 rfl) ff_X8_124 (sh21 hst) (by decide) rfl (rf21_4 hst) rfl ?_
  refine gj_iload_n (q := 175) (gj_dk okX8_liveTogether 82 rfl) rfl rfl ?_
  refine gj_iload (q := 177) (gj_dk okX8_liveTogether 83 rfl) rfl rfl ?_
  refine gj_iconst (q := 178) (gj_dk okX8_liveTogether 84 rfl) (by decide) rfl ?_
  refine gj_iadd (q := 179) (gj_dk okX8_liveTogether 85 rfl) rfl ?_
  refine gj_callS (q := 182) [jR 23, jI l1, jI (gj_w (l6 + 1))] rfl (c_X7_put (sh23 hst) (by decide) (by decide) _ _) (gj_dk okX8_liveTogether 86 rfl) ml_X8_101 me_X7_put (gj_nm rfl) rfl (gj_kV fun S2 M2 h => ?_)
  obtain ⟨eS, eM⟩ := h; subst eS; subst eM
  refine gj_stp hF (fun M8 hF => ?_)
  refine gj_aload_n (q := 183) (gj_dk okX8_liveTogether 87 rfl) rfl rfl ?_
  refine gj_gR (q := 186) (j := 1) (gj_dk okX8_liveTogether 88 rfl) ff_X8_19 (sh44 hst) (by decide) rfl (rf44_1 hst) rfl ?_
  refine gj_gR (q := 189) (j := 4) (gj_dk okX8_liveTogether 89 rfl) ff_X8_124 (sh21 hst) (by decide) rfl (rf21_4 hst) rfl ?_
  refine gj_iload_n (q := 190) (gj_dk okX8_liveTogether 90 rfl) rfl rfl ?_
  refine gj_iload (q := 192) (gj_dk okX8_liveTogether 91 rfl) rfl rfl ?_
  refine gj_iconst (q := 193) (gj_dk okX8_liveTogether 92 rfl) (by decide) rfl ?_
  refine gj_iadd (q := 194) (gj_dk okX8_liveTogether 93 rfl) rfl ?_
  refine gj_callS (q := 197) [jR 23, jI l2, jI (gj_w (l6 + 1))] rfl (c_X7_put (sh23 hst) (by decide) (by decide) _ _) (gj_dk okX8_liveTogether 94 rfl) ml_X8_101 me_X7_put (gj_nm rfl) rfl (gj_kV fun S2 M2 h => ?_)
  obtain ⟨eS, eM⟩ := h; subst eS; subst eM
  refine gj_stp hF (fun M9 hF => ?_)
  refine gj_iload (q := 199) (gj_dk okX8_liveTogether 95 rfl) rfl rfl ?_
  refine gj_if_eq (q := 202) (tgt := 212) (gj_dk okX8_liveTogether 96 rfl) (by decide) rfl (fun c199 => ?_) (fun c199 => ?_)
  · -- 212
    replace hF := gj_ift c199 hF
    refine gj_aload_n (q := 213) (gj_dk okX8_liveTogether 101 rfl) rfl rfl ?_
    refine gj_gR (q := 216) (j := 1) (gj_dk okX8_liveTogether 102 rfl) ff_X8_19 (sh44 hst) (by decide) rfl (rf44_1 hst) rfl ?_
    refine gj_gR (q := 219) (j := 8) (gj_dk okX8_liveTogether 103 rfl) ff_X8_183 (sh21 hst) (by decide) rfl (rf21_8 hst) rfl ?_
    refine gj_astore (q := 221) (gj_dk okX8_liveTogether 104 rfl) (by decide) rfl ?_
    refine gj_aload (q := 223) (gj_dk okX8_liveTogether 105 rfl) rfl rfl ?_
    refine gj_iload_n (q := 224) (gj_dk okX8_liveTogether 106 rfl) rfl rfl ?_
    refine gj_iconst (q := 225) (gj_dk okX8_liveTogether 107 rfl) (by decide) rfl ?_
    refine gj_aload (q := 227) (gj_dk okX8_liveTogether 108 rfl) rfl rfl ?_
    refine gj_iload_n (q := 228) (gj_dk okX8_liveTogether 109 rfl) rfl rfl ?_
    refine gj_callS (q := 231) [jR 27, jI l3] rfl (c_X7_at (sh27 hst) (by decide) (by decide) _) (gj_dk okX8_liveTogether 110 rfl) ml_X8_66 me_X7_at (gj_nm rfl) rfl (gj_kI fun x S2 M2 h => ?_)
    obtain ⟨e, eS, eM⟩ := h; subst eS; subst eM; subst e
    refine gj_iconst (q := 232) (gj_dk okX8_liveTogether 111 rfl) (by decide) rfl ?_
    refine gj_iadd (q := 233) (gj_dk okX8_liveTogether 112 rfl) rfl ?_
    refine gj_mmin (q := 236) (gj_dk okX8_liveTogether 113 rfl) ml_X8_186 ⟨by omega, Nat.le_of_ble_eq_true rfl⟩ rfl ?_
    refine gj_callS (q := 239) [jR 27, jI l3, jI (f_min 4 (gj_w ((f_at M9 27 16 l3) + 1)))] rfl (c_X7_put (sh27 hst) (by decide) (by decide) _ _) (gj_dk okX8_liveTogether 114 rfl) ml_X8_101 me_X7_put (gj_nm rfl) rfl (gj_kV fun S2 M2 h => ?_)
    obtain ⟨eS, eM⟩ := h; subst eS; subst eM
    refine gj_stp hF (fun M10 hF => ?_)
    refine gj_iload (q := 241) (gj_dk okX8_liveTogether 115 rfl) rfl rfl ?_
    refine gj_if_eq (q := 244) (tgt := 264) (gj_dk okX8_liveTogether 116 rfl) (by decide) rfl (fun c241 => ?_) (fun c241 => ?_)
    · -- 264
      replace hF := gj_ift c241 hF
      cases hF
      exact gj_vret (gj_dk okX8_liveTogether 127 rfl) rfl ⟨rfl, rfl, rfl⟩
    · -- 244
      replace hF := gj_iff c241 hF
      refine gj_aload_n (q := 245) (gj_dk okX8_liveTogether 117 rfl) rfl rfl ?_
      refine gj_gR (q := 248) (j := 1) (gj_dk okX8_liveTogether 118 rfl) ff_X8_19 (sh44 hst) (by decide) rfl (rf44_1 hst) rfl ?_
      refine gj_gR (q := 251) (j := 9) (gj_dk okX8_liveTogether 119 rfl) ff_X8_162 (sh21 hst) (by decide) rfl (rf21_9 hst) rfl ?_
      refine gj_iload_n (q := 252) (gj_dk okX8_liveTogether 120 rfl) rfl rfl ?_
      refine gj_bipush (q := 254) (gj_dk okX8_liveTogether 121 rfl) (by decide) rfl rfl ?_
      refine gj_iload (q := 256) (gj_dk okX8_liveTogether 122 rfl) rfl rfl ?_
      refine gj_iconst (q := 257) (gj_dk okX8_liveTogether 123 rfl) (by decide) rfl ?_
      refine gj_iadd (q := 258) (gj_dk okX8_liveTogether 124 rfl) rfl ?_
      refine gj_mmin (q := 261) (gj_dk okX8_liveTogether 125 rfl) ml_X8_186 ⟨by omega, Nat.le_of_ble_eq_true rfl⟩ rfl ?_
      refine gj_callS (q := 264) [jR 28, jI l3, jI (f_min 99 (gj_w (l7 + 1)))] rfl (c_X7_put (sh28 hst) (by decide) (by decide) _ _) (gj_dk okX8_liveTogether 126 rfl) ml_X8_101 me_X7_put (gj_nm rfl) rfl (gj_kV fun S2 M2 h => ?_)
      obtain ⟨eS, eM⟩ := h; subst eS; subst eM
      refine gj_stp hF (fun M11 hF => ?_)
      cases hF
      exact gj_vret (gj_dk okX8_liveTogether 127 rfl) rfl ⟨rfl, rfl, rfl⟩
  · -- 202
    replace hF := gj_iff c199 hF
    refine gj_aload_n (q := 203) (gj_dk okX8_liveTogether 97 rfl) rfl rfl ?_
    refine gj_gR (q := 206) (j := 1) (gj_dk okX8_liveTogether 98 rfl) ff_X8_19 (sh44 hst) (by decide) rfl (rf44_1 hst) rfl ?_
    refine gj_gR (q := 209) (j := 7) (gj_dk okX8_liveTogether 99 rfl) ff_X8_180 (sh21 hst) (by decide) rfl (rf21_7 hst) rfl ?_
    refine gj_goto (tgt := 219) (gj_dk okX8_liveTogether 100 rfl) (by decide) ?_
    refine gj_astore (q := 221) (gj_dk okX8_liveTogether 104 rfl) (by decide) rfl ?_
    refine gj_aload (q := 223) (gj_dk okX8_liveTogether 105 rfl) rfl rfl ?_
    refine gj_iload_n (q := 224) (gj_dk okX8_liveTogether 106 rfl) rfl rfl ?_
    refine gj_iconst (q := 225) (gj_dk okX8_liveTogether 107 rfl) (by decide) rfl ?_
    refine gj_aload (q := 227) (gj_dk okX8_liveTogether 108 rfl) rfl rfl ?_
    refine gj_iload_n (q := 228) (gj_dk okX8_liveTogether 109 rfl) rfl rfl ?_
    refine gj_callS (q := 231) [jR 26, jI l3] rfl (c_X7_at (sh26 hst) (by decide) (by decide) _) (gj_dk okX8_liveTogether 110 rfl) ml_X8_66 me_X7_at (gj_nm rfl) rfl (gj_kI fun x S2 M2 h => ?_)
    obtain ⟨e, eS, eM⟩ := h; subst eS; subst eM; subst e
    refine gj_iconst (q := 232) (gj_dk okX8_liveTogether 111 rfl) (by decide) rfl ?_
    refine gj_iadd (q := 233) (gj_dk okX8_liveTogether 112 rfl) rfl ?_
    refine gj_mmin (q := 236) (gj_dk okX8_liveTogether 113 rfl) ml_X8_186 ⟨by omega, Nat.le_of_ble_eq_true rfl⟩ rfl ?_
    refine gj_callS (q := 239) [jR 26, jI l3, jI (f_min 4 (gj_w ((f_at M9 26 16 l3) + 1)))] rfl (c_X7_put (sh26 hst) (by decide) (by decide) _ _) (gj_dk okX8_liveTogether 114 rfl) ml_X8_101 me_X7_put (gj_nm rfl) rfl (gj_kV fun S2 M2 h => ?_)
    obtain ⟨eS, eM⟩ := h; subst eS; subst eM
    refine gj_stp hF (fun M12 hF => ?_)
    refine gj_iload (q := 241) (gj_dk okX8_liveTogether 115 rfl) rfl rfl ?_
    refine gj_if_eq (q := 244) (tgt := 264) (gj_dk okX8_liveTogether 116 rfl) (by decide) rfl (fun c241 => ?_) (fun c241 => ?_)
    · -- 264
      replace hF := gj_ift c241 hF
      cases hF
      exact gj_vret (gj_dk okX8_liveTogether 127 rfl) rfl ⟨rfl, rfl, rfl⟩
    · -- 244
      replace hF := gj_iff c241 hF
      refine gj_aload_n (q := 245) (gj_dk okX8_liveTogether 117 rfl) rfl rfl ?_
      refine gj_gR (q := 248) (j := 1) (gj_dk okX8_liveTogether 118 rfl) ff_X8_19 (sh44 hst) (by decide) rfl (rf44_1 hst) rfl ?_
      refine gj_gR (q := 251) (j := 9) (gj_dk okX8_liveTogether 119 rfl) ff_X8_162 (sh21 hst) (by decide) rfl (rf21_9 hst) rfl ?_
      refine gj_iload_n (q := 252) (gj_dk okX8_liveTogether 120 rfl) rfl rfl ?_
      refine gj_bipush (q := 254) (gj_dk okX8_liveTogether 121 rfl) (by decide) rfl rfl ?_
      refine gj_iload (q := 256) (gj_dk okX8_liveTogether 122 rfl) rfl rfl ?_
      refine gj_iconst (q := 257) (gj_dk okX8_liveTogether 123 rfl) (by decide) rfl ?_
      refine gj_iadd (q := 258) (gj_dk okX8_liveTogether 124 rfl) rfl ?_
      refine gj_mmin (q := 261) (gj_dk okX8_liveTogether 125 rfl) ml_X8_186 ⟨by omega, Nat.le_of_ble_eq_true rfl⟩ rfl ?_
      refine gj_callS (q := 264) [jR 28, jI l3, jI (f_min 99 (gj_w (l7 + 1)))] rfl (c_X7_put (sh28 hst) (by decide) (by decide) _ _) (gj_dk okX8_liveTogether 126 rfl) ml_X8_101 me_X7_put (gj_nm rfl) rfl (gj_kV fun S2 M2 h => ?_)
      obtain ⟨eS, eM⟩ := h; subst eS; subst eM
      refine gj_stp hF (fun M13 hF => ?_)
      cases hF
      exact gj_vret (gj_dk okX8_liveTogether 127 rfl) rfl ⟨rfl, rfl, rfl⟩
set_option maxHeartbeats 4000000 in
set_option maxRecDepth 20000 in
theorem t_J_X8_liveTogether_110 (hst : gj_Stat S) {r : gj_M} (l1 l2 l3 l4 l5 l6 l7 s0 : Int) (M : gj_M) (hF : J_X8_liveTogether_110 l1 l2 l3 l4 l5 l6 l7 s0 M = some r) : gj_W G l 3 0 0 yX8_liveTogether cX8_liveTogether 10 none (gj_qV fun S' M' => S = S' ∧ r = M') 0 0 110 [(0, jR 44), (1, jI l1), (2, jI l2), (3, jI l3), (4, jI l4), (5, jI l5), (6, jI l6), (7, jI l7)] [jI s0] S M := by
  unfold J_X8_liveTogether_110 at hF
  refine gj_aload_n (q := 111) (gj_dk okX8_liveTogether 51 rfl) rfl rfl ?_
  refine gj_gR (q := 114) (j := 0) (gj_dk okX8_liveTogether 52 rfl) ff_X8_15 (sh44 hst) (by decide) rfl (rf44_0 hst) rfl ?_
  refine gj_gI (q := 117) (j := 7) (gj_dk okX8_liveTogether 53 rfl) ff_X8_171 (sh14 hst) (by decide) rfl rfl ?_
  refine gj_iload (q := 119) (gj_dk okX8_liveTogether 54 rfl) rfl rfl ?_
  refine gj_imul (q := 120) (gj_dk okX8_liveTogether 55 rfl) rfl ?_
  refine gj_iadd (q := 121) (gj_dk okX8_liveTogether 56 rfl) rfl ?_
  refine gj_stpI hF (fun x5 hF => ?_)
  refine gj_istore (q := 123) (gj_dk okX8_liveTogether 57 rfl) (by decide) rfl ?_
  refine gj_iload (q := 125) (gj_dk okX8_liveTogether 58 rfl) rfl rfl ?_
  refine gj_aload_n (q := 126) (gj_dk okX8_liveTogether 59 rfl) rfl rfl ?_
  refine gj_gR (q := 129) (j := 0) (gj_dk okX8_liveTogether 60 rfl) ff_X8_15 (sh44 hst) (by decide) rfl (rf44_0 hst) rfl ?_
  refine gj_gI (q := 132) (j := 4) (gj_dk okX8_liveTogether 61 rfl) ff_X8_174 (sh14 hst) (by decide) rfl rfl ?_
  refine gj_icmp_lt (q := 135) (tgt := 147) (gj_dk okX8_liveTogether 62 rfl) (by decide) rfl (fun c132 => ?_) (fun c132 => ?_)
  · -- 147
    replace hF := gj_ift c132 hF
    refine gj_sub [(0, jR 44), (1, jI l1), (2, jI l2), (3, jI l3), (4, jI l4), (5, jI l5), (6, jI l6), (7, jI l7), (8, jI x5)] ⟨rfl, rfl, rfl, rfl, rfl, rfl, rfl, rfl, rfl, trivial⟩ ?_
    exact t_J_X8_liveTogether_147 hst l1 l2 l3 l4 l5 l6 l7 x5 M hF
  · -- 135
    replace hF := gj_iff c132 hF
    refine gj_iload (q := 137) (gj_dk okX8_liveTogether 63 rfl) rfl rfl ?_
    refine gj_aload_n (q := 138) (gj_dk okX8_liveTogether 64 rfl) rfl rfl ?_
    refine gj_gR (q := 141) (j := 0) (gj_dk okX8_liveTogether 65 rfl) ff_X8_15 (sh44 hst) (by decide) rfl (rf44_0 hst) rfl ?_
    refine gj_gI (q := 144) (j := 5) (gj_dk okX8_liveTogether 66 rfl) ff_X8_177 (sh14 hst) (by decide) rfl rfl ?_
    refine gj_iadd (q := 145) (gj_dk okX8_liveTogether 67 rfl) rfl ?_
    refine gj_istore (q := 147) (gj_dk okX8_liveTogether 68 rfl) (by decide) rfl ?_
    refine gj_sub [(0, jR 44), (1, jI l1), (2, jI l2), (3, jI l3), (4, jI l4), (5, jI l5), (6, jI l6), (7, jI l7), (8, jI (gj_w (x5 + (M 14 5))))] ⟨rfl, rfl, rfl, rfl, rfl, rfl, rfl, rfl, rfl, trivial⟩ ?_
    exact t_J_X8_liveTogether_147 hst l1 l2 l3 l4 l5 l6 l7 (gj_w (x5 + (M 14 5))) M hF
set_option maxHeartbeats 4000000 in
set_option maxRecDepth 20000 in
theorem t_J_X8_liveTogether_60 (hst : gj_Stat S) {r : gj_M} (l1 l2 l3 l4 s0 : Int) (M : gj_M) (hF : J_X8_liveTogether_60 l1 l2 l3 l4 s0 M = some r) : gj_W G l 3 0 0 yX8_liveTogether cX8_liveTogether 10 none (gj_qV fun S' M' => S = S' ∧ r = M') 0 0 60 [(0, jR 44), (1, jI l1), (2, jI l2), (3, jI l3), (4, jI l4)] [jI s0] S M := by
  unfold J_X8_liveTogether_60 at hF
  refine gj_istore (q := 62) (gj_dk okX8_liveTogether 29 rfl) (by decide) rfl ?_
  refine gj_aload_n (q := 63) (gj_dk okX8_liveTogether 30 rfl) rfl rfl ?_
  refine gj_gR (q := 66) (j := 1) (gj_dk okX8_liveTogether 31 rfl) ff_X8_19 (sh44 hst) (by decide) rfl (rf44_1 hst) rfl ?_
  refine gj_gR (q := 69) (j := 4) (gj_dk okX8_liveTogether 32 rfl) ff_X8_124 (sh21 hst) (by decide) rfl (rf21_4 hst) rfl ?_
  refine gj_iload_n (q := 70) (gj_dk okX8_liveTogether 33 rfl) rfl rfl ?_
  refine gj_callS (q := 73) [jR 23, jI l1] rfl (c_X7_at (sh23 hst) (by decide) (by decide) _) (gj_dk okX8_liveTogether 34 rfl) ml_X8_66 me_X7_at (gj_nm rfl) rfl (gj_kI fun x S2 M2 h => ?_)
  obtain ⟨e, eS, eM⟩ := h; subst eS; subst eM; subst e
  refine gj_istore (q := 75) (gj_dk okX8_liveTogether 35 rfl) (by decide) rfl ?_
  refine gj_aload_n (q := 76) (gj_dk okX8_liveTogether 36 rfl) rfl rfl ?_
  refine gj_gR (q := 79) (j := 1) (gj_dk okX8_liveTogether 37 rfl) ff_X8_19 (sh44 hst) (by decide) rfl (rf44_1 hst) rfl ?_
  refine gj_gR (q := 82) (j := 9) (gj_dk okX8_liveTogether 38 rfl) ff_X8_162 (sh21 hst) (by decide) rfl (rf21_9 hst) rfl ?_
  refine gj_iload_n (q := 83) (gj_dk okX8_liveTogether 39 rfl) rfl rfl ?_
  refine gj_callS (q := 86) [jR 28, jI l3] rfl (c_X7_at (sh28 hst) (by decide) (by decide) _) (gj_dk okX8_liveTogether 40 rfl) ml_X8_66 me_X7_at (gj_nm rfl) rfl (gj_kI fun x S2 M2 h => ?_)
  obtain ⟨e, eS, eM⟩ := h; subst eS; subst eM; subst e
  refine gj_istore (q := 88) (gj_dk okX8_liveTogether 41 rfl) (by decide) rfl ?_
  refine gj_iload (q := 90) (gj_dk okX8_liveTogether 42 rfl) rfl rfl ?_
  refine gj_if_eq (q := 93) (tgt := 103) (gj_dk okX8_liveTogether 43 rfl) (by decide) rfl (fun c90 => ?_) (fun c90 => ?_)
  · -- 103
    replace hF := gj_ift c90 hF
    refine gj_aload_n (q := 104) (gj_dk okX8_liveTogether 48 rfl) rfl rfl ?_
    refine gj_gR (q := 107) (j := 0) (gj_dk okX8_liveTogether 49 rfl) ff_X8_15 (sh44 hst) (by decide) rfl (rf44_0 hst) rfl ?_
    refine gj_gI (q := 110) (j := 3) (gj_dk okX8_liveTogether 50 rfl) ff_X8_168 (sh14 hst) (by decide) rfl rfl ?_
    refine gj_sub [(0, jR 44), (1, jI l1), (2, jI l2), (3, jI l3), (4, jI l4), (5, jI s0), (6, jI (f_at M 23 8 l1)), (7, jI (f_at M 28 16 l3))] ⟨rfl, rfl, rfl, rfl, rfl, rfl, rfl, rfl, trivial⟩ ?_
    exact t_J_X8_liveTogether_110 hst l1 l2 l3 l4 s0 (f_at M 23 8 l1) (f_at M 28 16 l3) (M 14 3) M hF
  · -- 93
    replace hF := gj_iff c90 hF
    refine gj_aload_n (q := 94) (gj_dk okX8_liveTogether 44 rfl) rfl rfl ?_
    refine gj_gR (q := 97) (j := 0) (gj_dk okX8_liveTogether 45 rfl) ff_X8_15 (sh44 hst) (by decide) rfl (rf44_0 hst) rfl ?_
    refine gj_gI (q := 100) (j := 2) (gj_dk okX8_liveTogether 46 rfl) ff_X8_165 (sh14 hst) (by decide) rfl rfl ?_
    refine gj_goto (tgt := 110) (gj_dk okX8_liveTogether 47 rfl) (by decide) ?_
    refine gj_sub [(0, jR 44), (1, jI l1), (2, jI l2), (3, jI l3), (4, jI l4), (5, jI s0), (6, jI (f_at M 23 8 l1)), (7, jI (f_at M 28 16 l3))] ⟨rfl, rfl, rfl, rfl, rfl, rfl, rfl, rfl, trivial⟩ ?_
    exact t_J_X8_liveTogether_110 hst l1 l2 l3 l4 s0 (f_at M 23 8 l1) (f_at M 28 16 l3) (M 14 2) M hF
set_option maxHeartbeats 4000000 in
set_option maxRecDepth 20000 in
theorem t_J_X8_liveTogether_34 (hst : gj_Stat S) {r : gj_M} (l1 l2 l3 s0 : Int) (M : gj_M) (hF : J_X8_liveTogether_34 l1 l2 l3 s0 M = some r) : gj_W G l 3 0 0 yX8_liveTogether cX8_liveTogether 10 none (gj_qV fun S' M' => S = S' ∧ r = M') 0 0 34 [(0, jR 44), (1, jI l1), (2, jI l2), (3, jI l3)] [jI s0] S M := by
  unfold J_X8_liveTogether_34 at hF
  refine gj_istore (q := 36) (gj_dk okX8_liveTogether 17 rfl) (by decide) rfl ?_
  refine gj_aload_n (q := 37) (gj_dk okX8_liveTogether 18 rfl) rfl rfl ?_
  refine gj_gR (q := 40) (j := 1) (gj_dk okX8_liveTogether 19 rfl) ff_X8_19 (sh44 hst) (by decide) rfl (rf44_1 hst) rfl ?_
  refine gj_bipush (q := 42) (gj_dk okX8_liveTogether 20 rfl) (by decide) rfl rfl ?_
  obtain ⟨x3, M4, hG, hF⟩ := gj_bnd2d hF
  refine gj_callV (q := 45) (z := 21) (ci := 3) [jI 16] rfl (t_X3_lot hst 16 hG) (gj_dk okX8_liveTogether 21 rfl) ml_X8_153 me_X3_lot (sh21 hst) rfl (gj_nm rfl) rfl (gj_kI fun y S2 M2 h => ?_)
  obtain ⟨e, eS, eM⟩ := h; subst eS; subst eM; subst e; clear hG
  dsimp only
  refine gj_aload_n (q := 46) (gj_dk okX8_liveTogether 22 rfl) rfl rfl ?_
  refine gj_gR (q := 49) (j := 0) (gj_dk okX8_liveTogether 23 rfl) ff_X8_15 (sh44 hst) (by decide) rfl (rf44_0 hst) rfl ?_
  refine gj_gI (q := 52) (j := 6) (gj_dk okX8_liveTogether 24 rfl) ff_X8_159 (sh14 hst) (by decide) rfl rfl ?_
  refine gj_icmp_ge (q := 55) (tgt := 59) (gj_dk okX8_liveTogether 25 rfl) (by decide) rfl (fun c52 => ?_) (fun c52 => ?_)
  · -- 59
    replace hF := gj_ift c52 hF
    refine gj_iconst (q := 60) (gj_dk okX8_liveTogether 28 rfl) (by decide) rfl ?_
    refine gj_sub [(0, jR 44), (1, jI l1), (2, jI l2), (3, jI l3), (4, jI s0)] ⟨rfl, rfl, rfl, rfl, rfl, trivial⟩ ?_
    exact t_J_X8_liveTogether_60 hst l1 l2 l3 s0 0 M4 hF
  · -- 55
    replace hF := gj_iff c52 hF
    refine gj_iconst (q := 56) (gj_dk okX8_liveTogether 26 rfl) (by decide) rfl ?_
    refine gj_goto (tgt := 60) (gj_dk okX8_liveTogether 27 rfl) (by decide) ?_
    refine gj_sub [(0, jR 44), (1, jI l1), (2, jI l2), (3, jI l3), (4, jI s0)] ⟨rfl, rfl, rfl, rfl, rfl, trivial⟩ ?_
    exact t_J_X8_liveTogether_60 hst l1 l2 l3 s0 1 M4 hF
set_option maxHeartbeats 4000000 in
set_option maxRecDepth 20000 in
theorem t_X8_liveTogether (hst : gj_Stat S) (a1 a2 : Int) {r : gj_M} (hF : F_X8_liveTogether a1 a2 M = some r) : gj_C G l 3 0 0 yX8_liveTogether cX8_liveTogether 10 none [jR 44, jI a1, jI a2] S M (gj_qV fun S' M' => S = S' ∧ r = M') := by
  refine gj_Cof (by decide +kernel) (Nat.le_of_ble_eq_true rfl) ?_
  change gj_W G l 3 0 0 yX8_liveTogether cX8_liveTogether 10 none (gj_qV fun S' M' => S = S' ∧ r = M') 0 0 0 [(0, jR 44), (1, jI a1), (2, jI a2)] [] S M
  unfold F_X8_liveTogether at hF
  refine gj_iload_n (q := 1) (gj_dk okX8_liveTogether 0 rfl) rfl rfl ?_
  refine gj_iload_n (q := 2) (gj_dk okX8_liveTogether 1 rfl) rfl rfl ?_
  refine gj_callS (q := 5) [jI a1, jI a2] rfl (c_X10_couple _ _) (gj_dk okX8_liveTogether 2 rfl) ml_X8_149 me_X10_couple (gj_nm rfl) rfl (gj_kI fun x S2 M2 h => ?_)
  obtain ⟨e, eS, eM⟩ := h; subst eS; subst eM; subst e
  refine gj_istore_n (q := 6) (gj_dk okX8_liveTogether 3 rfl) (by decide) rfl ?_
  refine gj_aload_n (q := 7) (gj_dk okX8_liveTogether 4 rfl) rfl rfl ?_
  refine gj_gR (q := 10) (j := 1) (gj_dk okX8_liveTogether 5 rfl) ff_X8_19 (sh44 hst) (by decide) rfl (rf44_1 hst) rfl ?_
  refine gj_bipush (q := 12) (gj_dk okX8_liveTogether 6 rfl) (by decide) rfl rfl ?_
  obtain ⟨x1, M2, hG, hF⟩ := gj_bnd2d hF
  refine gj_callV (q := 15) (z := 21) (ci := 3) [jI 16] rfl (t_X3_lot hst 16 hG) (gj_dk okX8_liveTogether 7 rfl) ml_X8_153 me_X3_lot (sh21 hst) rfl (gj_nm rfl) rfl (gj_kI fun y S2 M2 h => ?_)
  obtain ⟨e, eS, eM⟩ := h; subst eS; subst eM; subst e; clear hG
  dsimp only
  refine gj_aload_n (q := 16) (gj_dk okX8_liveTogether 8 rfl) rfl rfl ?_
  refine gj_gR (q := 19) (j := 0) (gj_dk okX8_liveTogether 9 rfl) ff_X8_15 (sh44 hst) (by decide) rfl (rf44_0 hst) rfl ?_
  refine gj_gR (q := 22) (j := 14) (gj_dk okX8_liveTogether 10 rfl) ff_X8_156 (sh14 hst) (by decide) rfl (rf14_14 hst) rfl ?_
  refine gj_iload_n (q := 23) (gj_dk okX8_liveTogether 11 rfl) rfl rfl ?_
  refine gj_callS (q := 26) [jR 19, jI (f_cpl a1 a2)] rfl (c_X7_at (sh19 hst) (by decide) (by decide) _) (gj_dk okX8_liveTogether 12 rfl) ml_X8_66 me_X7_at (gj_nm rfl) rfl (gj_kI fun x S2 M2 h => ?_)
  obtain ⟨e, eS, eM⟩ := h; subst eS; subst eM; subst e
  refine gj_icmp_ge (q := 29) (tgt := 33) (gj_dk okX8_liveTogether 13 rfl) (by decide) rfl (fun c26 => ?_) (fun c26 => ?_)
  · -- 33
    replace hF := gj_ift c26 hF
    refine gj_iconst (q := 34) (gj_dk okX8_liveTogether 16 rfl) (by decide) rfl ?_
    refine gj_sub [(0, jR 44), (1, jI a1), (2, jI a2), (3, jI (f_cpl a1 a2))] ⟨rfl, rfl, rfl, rfl, trivial⟩ ?_
    exact t_J_X8_liveTogether_34 hst a1 a2 (f_cpl a1 a2) 0 M2 hF
  · -- 29
    replace hF := gj_iff c26 hF
    refine gj_iconst (q := 30) (gj_dk okX8_liveTogether 14 rfl) (by decide) rfl ?_
    refine gj_goto (tgt := 34) (gj_dk okX8_liveTogether 15 rfl) (by decide) ?_
    refine gj_sub [(0, jR 44), (1, jI a1), (2, jI a2), (3, jI (f_cpl a1 a2))] ⟨rfl, rfl, rfl, rfl, trivial⟩ ?_
    exact t_J_X8_liveTogether_34 hst a1 a2 (f_cpl a1 a2) 1 M2 hF
def J_X8_passYear_95 (M : gj_M) : Option (gj_M) :=
  gj_let (gj_up M 21 0 (gj_w ((M 21 0) + 1))) (fun M5 => (some (M5)))
def J_X8_passYear_89 (rec38 : Int → gj_M → Option (gj_M)) (l1 : Int) (M : gj_M) : Option (gj_M) :=
  rec38 (gj_w (l1 + 1)) M
def B_X8_passYear_38 (rec38 : Int → gj_M → Option (gj_M)) (l1 : Int) (M : gj_M) : Option (gj_M) :=
  (if 8 ≤ l1 then (J_X8_passYear_95 M) else gj_letI (f_X5_isPerson_14 l1 M) (fun x3 => (if x3 = 0 then (J_X8_passYear_89 rec38 l1 M) else (if f_at M 22 8 l1 = -1 then gj_let (f_X3_earn l1 (f_at M 15 8 l1) M) (fun M4 => (J_X8_passYear_89 rec38 l1 M4)) else (J_X8_passYear_89 rec38 l1 M)))))
def J_X8_passYear_36 (M : gj_M) : Option (gj_M) :=
  (gj_it (fun _ _ => none) (B_X8_passYear_38) gj_fu 0 M)
def J_X8_passYear_30 (rec2 : Int → gj_M → Option (gj_M)) (l1 : Int) (M : gj_M) : Option (gj_M) :=
  rec2 (gj_w (l1 + 1)) M
def B_X8_passYear_2 (rec2 : Int → gj_M → Option (gj_M)) (l1 : Int) (M : gj_M) : Option (gj_M) :=
  (if 4 ≤ l1 then (J_X8_passYear_36 M) else (if f_at M 22 8 l1 = -1 then (J_X8_passYear_30 rec2 l1 M) else gj_bnd (F_X8_liveTogether l1 (f_at M 22 8 l1) M) (fun M2 => (J_X8_passYear_30 rec2 l1 M2))))
def F_X8_passYear (M : gj_M) : Option (gj_M) :=
  (gj_it (fun _ _ => none) (B_X8_passYear_2) gj_fu 0 M)
set_option maxHeartbeats 4000000 in
set_option maxRecDepth 20000 in
theorem t_J_X8_passYear_95 (hst : gj_Stat S) {r : gj_M} (M : gj_M) (hF : J_X8_passYear_95 M = some r) : gj_W G l 4 0 0 yX8_passYear cX8_passYear 3 none (gj_qV fun S' M' => S = S' ∧ r = M') 0 0 95 [(0, jR 44)] [] S M := by
  unfold J_X8_passYear_95 at hF
  refine gj_aload_n (q := 96) (gj_dk okX8_passYear 48 rfl) rfl rfl ?_
  refine gj_gR (q := 99) (j := 1) (gj_dk okX8_passYear 49 rfl) ff_X8_19 (sh44 hst) (by decide) rfl (rf44_1 hst) rfl ?_
  refine gj_dup (q := 100) (gj_dk okX8_passYear 50 rfl) rfl rfl ?_
  refine gj_gI (q := 103) (j := 0) (gj_dk okX8_passYear 51 rfl) ff_X8_115 (sh21 hst) (by decide) rfl rfl ?_
  refine gj_iconst (q := 104) (gj_dk okX8_passYear 52 rfl) (by decide) rfl ?_
  refine gj_iadd (q := 105) (gj_dk okX8_passYear 53 rfl) rfl ?_
  refine gj_pfI (q := 108) (j := 0) (gj_dk okX8_passYear 54 rfl) ff_X8_115 (sh21 hst) (by decide) rfl rfl ?_
  refine gj_stp hF (fun M5 hF => ?_)
  cases hF
  exact gj_vret (gj_dk okX8_passYear 55 rfl) rfl ⟨rfl, rfl, rfl⟩
set_option maxHeartbeats 4000000 in
set_option maxRecDepth 20000 in
theorem t_J_X8_passYear_89 (hst : gj_Stat S) {r : gj_M} {rec38 : Int → gj_M → Option (gj_M)} (hrec38 : ∀ (l1 : Int) (M : gj_M), rec38 l1 M = some r → gj_W G l 4 0 0 yX8_passYear cX8_passYear 3 none (gj_qV fun S' M' => S = S' ∧ r = M') 0 0 38 [(0, jR 44), (1, jI l1)] [] S M) (l1 : Int) (M : gj_M) (hF : J_X8_passYear_89 rec38 l1 M = some r) : gj_W G l 4 0 0 yX8_passYear cX8_passYear 3 none (gj_qV fun S' M' => S = S' ∧ r = M') 0 0 89 [(0, jR 44), (1, jI l1)] [] S M := by
  unfold J_X8_passYear_89 at hF
  refine gj_iinc (q := 92) (v := gj_w (l1 + 1)) (gj_dk okX8_passYear 46 rfl) rfl (by decide) rfl rfl ?_
  refine gj_goto (tgt := 38) (gj_dk okX8_passYear 47 rfl) (by decide) ?_
  refine gj_sub [(0, jR 44), (1, jI (gj_w (l1 + 1)))] ⟨rfl, rfl, trivial⟩ ?_
  exact hrec38 (gj_w (l1 + 1)) M hF
set_option maxHeartbeats 4000000 in
set_option maxRecDepth 20000 in
theorem t_B_X8_passYear_38 (hst : gj_Stat S) {r : gj_M} {rec38 : Int → gj_M → Option (gj_M)} (hrec38 : ∀ (l1 : Int) (M : gj_M), rec38 l1 M = some r → gj_W G l 4 0 0 yX8_passYear cX8_passYear 3 none (gj_qV fun S' M' => S = S' ∧ r = M') 0 0 38 [(0, jR 44), (1, jI l1)] [] S M) (l1 : Int) (M : gj_M) (hF : B_X8_passYear_38 rec38 l1 M = some r) : gj_W G l 4 0 0 yX8_passYear cX8_passYear 3 none (gj_qV fun S' M' => S = S' ∧ r = M') 0 0 38 [(0, jR 44), (1, jI l1)] [] S M := by
  unfold B_X8_passYear_38 at hF
  refine gj_iload_n (q := 39) (gj_dk okX8_passYear 22 rfl) rfl rfl ?_
  refine gj_bipush (q := 41) (gj_dk okX8_passYear 23 rfl) (by decide) rfl rfl ?_
  refine gj_icmp_ge (q := 44) (tgt := 95) (gj_dk okX8_passYear 24 rfl) (by decide) rfl (fun c41 => ?_) (fun c41 => ?_)
  · -- 95
    replace hF := gj_ift c41 hF
    refine gj_sub [(0, jR 44)] ⟨rfl, trivial⟩ ?_
    exact t_J_X8_passYear_95 hst M hF
  · -- 44
    replace hF := gj_iff c41 hF
    refine gj_aload_n (q := 45) (gj_dk okX8_passYear 25 rfl) rfl rfl ?_
    refine gj_gR (q := 48) (j := 0) (gj_dk okX8_passYear 26 rfl) ff_X8_15 (sh44 hst) (by decide) rfl (rf44_0 hst) rfl ?_
    refine gj_iload_n (q := 49) (gj_dk okX8_passYear 27 rfl) rfl rfl ?_
    refine gj_callV (q := 52) (z := 14) (ci := 5) [jI l1] rfl (t_X5_isPerson_14 hst l1 rfl) (gj_dk okX8_passYear 28 rfl) ml_X8_143 me_X5_isPerson (sh14 hst) rfl (gj_nm rfl) rfl (gj_kI fun x S2 M2 h => ?_)
    obtain ⟨bz, e, eS, eM⟩ := h; subst eS; subst eM; subst e
    refine gj_stpZ bz hF (fun x3 bx3 hF => ?_)
    refine gj_if_eq (q := 55) (tgt := 89) (gj_dk okX8_passYear 29 rfl) (by decide) rfl (fun c52 => ?_) (fun c52 => ?_)
    · -- 89
      replace hF := gj_ift c52 hF
      refine gj_sub [(0, jR 44), (1, jI l1)] ⟨rfl, rfl, trivial⟩ ?_
      exact t_J_X8_passYear_89 hst hrec38 l1 M hF
    · -- 55
      replace hF := gj_iff c52 hF
      refine gj_aload_n (q := 56) (gj_dk okX8_passYear 30 rfl) rfl rfl ?_
      refine gj_gR (q := 59) (j := 1) (gj_dk okX8_passYear 31 rfl) ff_X8_19 (sh44 hst) (by decide) rfl (rf44_1 hst) rfl ?_
      refine gj_gR (q := 62) (j := 3) (gj_dk okX8_passYear 32 rfl) ff_X8_62 (sh21 hst) (by decide) rfl (rf21_3 hst) rfl ?_
      refine gj_iload_n (q := 63) (gj_dk okX8_passYear 33 rfl) rfl rfl ?_
      refine gj_callS (q := 66) [jR 22, jI l1] rfl (c_X7_at (sh22 hst) (by decide) (by decide) _) (gj_dk okX8_passYear 34 rfl) ml_X8_66 me_X7_at (gj_nm rfl) rfl (gj_kI fun x S2 M2 h => ?_)
      obtain ⟨e, eS, eM⟩ := h; subst eS; subst eM; subst e
      refine gj_iconst (q := 67) (gj_dk okX8_passYear 35 rfl) (by decide) rfl ?_
      refine gj_icmp_ne (q := 70) (tgt := 89) (gj_dk okX8_passYear 36 rfl) (by decide) rfl (fun c67 => ?_) (fun c67 => ?_)
      · -- 89
        replace hF := gj_iff c67 hF
        refine gj_sub [(0, jR 44), (1, jI l1)] ⟨rfl, rfl, trivial⟩ ?_
        exact t_J_X8_passYear_89 hst hrec38 l1 M hF
      · -- 70
        replace hF := gj_ift c67 hF
        refine gj_aload_n (q := 71) (gj_dk okX8_passYear 37 rfl) rfl rfl ?_
        refine gj_gR (q := 74) (j := 1) (gj_dk okX8_passYear 38 rfl) ff_X8_19 (sh44 hst) (by decide) rfl (rf44_1 hst) rfl ?_
        refine gj_iload_n (q := 75) (gj_dk okX8_passYear 39 rfl) rfl rfl ?_
        refine gj_aload_n (q := 76) (gj_dk okX8_passYear 40 rfl) rfl rfl ?_
        refine gj_gR (q := 79) (j := 0) (gj_dk okX8_passYear 41 rfl) ff_X8_15 (sh44 hst) (by decide) rfl (rf44_0 hst) rfl ?_
        refine gj_gR (q := 82) (j := 10) (gj_dk okX8_passYear 42 rfl) ff_X8_146 (sh14 hst) (by decide) rfl (rf14_10 hst) rfl ?_
        refine gj_iload_n (q := 83) (gj_dk okX8_passYear 43 rfl) rfl rfl ?_
        refine gj_callS (q := 86) [jR 15, jI l1] rfl (c_X7_at (sh15 hst) (by decide) (by decide) _) (gj_dk okX8_passYear 44 rfl) ml_X8_66 me_X7_at (gj_nm rfl) rfl (gj_kI fun x S2 M2 h => ?_)
        obtain ⟨e, eS, eM⟩ := h; subst eS; subst eM; subst e
        refine gj_callV (q := 89) (z := 21) (ci := 3) [jI l1, jI (f_at M 15 8 l1)] rfl (t_X3_earn hst l1 (f_at M 15 8 l1) rfl) (gj_dk okX8_passYear 45 rfl) ml_X8_108 me_X3_earn (sh21 hst) rfl (gj_nm rfl) rfl (gj_kV fun S2 M2 h => ?_)
        obtain ⟨eS, eM⟩ := h; subst eS; subst eM
        refine gj_stp hF (fun M4 hF => ?_)
        refine gj_sub [(0, jR 44), (1, jI l1)] ⟨rfl, rfl, trivial⟩ ?_
        exact t_J_X8_passYear_89 hst hrec38 l1 M4 hF
theorem t_L_X8_passYear_38 (hst : gj_Stat S) {r : gj_M} : ∀ (m : Nat) (l1 : Int) (M : gj_M), gj_it (fun _ _ => none) (B_X8_passYear_38) m l1 M = some r → gj_W G l 4 0 0 yX8_passYear cX8_passYear 3 none (gj_qV fun S' M' => S = S' ∧ r = M') 0 0 38 [(0, jR 44), (1, jI l1)] [] S M := by
  intro m
  induction m with
  | zero => intro l1 M hF; cases (show (none : Option (gj_M)) = some r from hF)
  | succ m ih => intro l1 M hF; exact t_B_X8_passYear_38 hst (fun l1 M h => ih l1 M h) l1 M hF
set_option maxHeartbeats 4000000 in
set_option maxRecDepth 20000 in
theorem t_J_X8_passYear_36 (hst : gj_Stat S) {r : gj_M} (M : gj_M) (hF : J_X8_passYear_36 M = some r) : gj_W G l 4 0 0 yX8_passYear cX8_passYear 3 none (gj_qV fun S' M' => S = S' ∧ r = M') 0 0 36 [(0, jR 44)] [] S M := by
  unfold J_X8_passYear_36 at hF
  refine gj_iconst (q := 37) (gj_dk okX8_passYear 20 rfl) (by decide) rfl ?_
  refine gj_istore_n (q := 38) (gj_dk okX8_passYear 21 rfl) (by decide) rfl ?_
  refine gj_sub [(0, jR 44), (1, jI 0)] ⟨rfl, rfl, trivial⟩ ?_
  exact t_L_X8_passYear_38 hst gj_fu 0 M hF
set_option maxHeartbeats 4000000 in
set_option maxRecDepth 20000 in
theorem t_J_X8_passYear_30 (hst : gj_Stat S) {r : gj_M} {rec2 : Int → gj_M → Option (gj_M)} (hrec2 : ∀ (l1 : Int) (M : gj_M), rec2 l1 M = some r → gj_W G l 4 0 0 yX8_passYear cX8_passYear 3 none (gj_qV fun S' M' => S = S' ∧ r = M') 0 0 2 [(0, jR 44), (1, jI l1)] [] S M) (l1 : Int) (M : gj_M) (hF : J_X8_passYear_30 rec2 l1 M = some r) : gj_W G l 4 0 0 yX8_passYear cX8_passYear 3 none (gj_qV fun S' M' => S = S' ∧ r = M') 0 0 30 [(0, jR 44), (1, jI l1)] [] S M := by
  unfold J_X8_passYear_30 at hF
  refine gj_iinc (q := 33) (v := gj_w (l1 + 1)) (gj_dk okX8_passYear 18 rfl) rfl (by decide) rfl rfl ?_
  refine gj_goto (tgt := 2) (gj_dk okX8_passYear 19 rfl) (by decide) ?_
  refine gj_sub [(0, jR 44), (1, jI (gj_w (l1 + 1)))] ⟨rfl, rfl, trivial⟩ ?_
  exact hrec2 (gj_w (l1 + 1)) M hF
set_option maxHeartbeats 4000000 in
set_option maxRecDepth 20000 in
theorem t_B_X8_passYear_2 (hst : gj_Stat S) {r : gj_M} {rec2 : Int → gj_M → Option (gj_M)} (hrec2 : ∀ (l1 : Int) (M : gj_M), rec2 l1 M = some r → gj_W G l 4 0 0 yX8_passYear cX8_passYear 3 none (gj_qV fun S' M' => S = S' ∧ r = M') 0 0 2 [(0, jR 44), (1, jI l1)] [] S M) (l1 : Int) (M : gj_M) (hF : B_X8_passYear_2 rec2 l1 M = some r) : gj_W G l 4 0 0 yX8_passYear cX8_passYear 3 none (gj_qV fun S' M' => S = S' ∧ r = M') 0 0 2 [(0, jR 44), (1, jI l1)] [] S M := by
  unfold B_X8_passYear_2 at hF
  refine gj_iload_n (q := 3) (gj_dk okX8_passYear 2 rfl) rfl rfl ?_
  refine gj_iconst (q := 4) (gj_dk okX8_passYear 3 rfl) (by decide) rfl ?_
  refine gj_icmp_ge (q := 7) (tgt := 36) (gj_dk okX8_passYear 4 rfl) (by decide) rfl (fun c4 => ?_) (fun c4 => ?_)
  · -- 36
    replace hF := gj_ift c4 hF
    refine gj_sub [(0, jR 44)] ⟨rfl, trivial⟩ ?_
    exact t_J_X8_passYear_36 hst M hF
  · -- 7
    replace hF := gj_iff c4 hF
    refine gj_aload_n (q := 8) (gj_dk okX8_passYear 5 rfl) rfl rfl ?_
    refine gj_gR (q := 11) (j := 1) (gj_dk okX8_passYear 6 rfl) ff_X8_19 (sh44 hst) (by decide) rfl (rf44_1 hst) rfl ?_
    refine gj_gR (q := 14) (j := 3) (gj_dk okX8_passYear 7 rfl) ff_X8_62 (sh21 hst) (by decide) rfl (rf21_3 hst) rfl ?_
    refine gj_iload_n (q := 15) (gj_dk okX8_passYear 8 rfl) rfl rfl ?_
    refine gj_callS (q := 18) [jR 22, jI l1] rfl (c_X7_at (sh22 hst) (by decide) (by decide) _) (gj_dk okX8_passYear 9 rfl) ml_X8_66 me_X7_at (gj_nm rfl) rfl (gj_kI fun x S2 M2 h => ?_)
    obtain ⟨e, eS, eM⟩ := h; subst eS; subst eM; subst e
    refine gj_istore_n (q := 19) (gj_dk okX8_passYear 10 rfl) (by decide) rfl ?_
    refine gj_iload_n (q := 20) (gj_dk okX8_passYear 11 rfl) rfl rfl ?_
    refine gj_iconst (q := 21) (gj_dk okX8_passYear 12 rfl) (by decide) rfl ?_
    refine gj_icmp_eq (q := 24) (tgt := 30) (gj_dk okX8_passYear 13 rfl) (by decide) rfl (fun c21 => ?_) (fun c21 => ?_)
    · -- 30
      replace hF := gj_ift c21 hF
      refine gj_sub [(0, jR 44), (1, jI l1)] ⟨rfl, rfl, trivial⟩ ?_
      exact t_J_X8_passYear_30 hst hrec2 l1 M hF
    · -- 24
      replace hF := gj_iff c21 hF
      refine gj_aload_n (q := 25) (gj_dk okX8_passYear 14 rfl) rfl rfl ?_
      refine gj_iload_n (q := 26) (gj_dk okX8_passYear 15 rfl) rfl rfl ?_
      refine gj_iload_n (q := 27) (gj_dk okX8_passYear 16 rfl) rfl rfl ?_
      obtain ⟨M2, hG, hF⟩ := gj_bndd hF
      refine gj_callV (q := 30) (z := 44) (ci := 7) [jI l1, jI (f_at M 22 8 l1)] rfl (t_X8_liveTogether hst l1 (f_at M 22 8 l1) hG) (gj_dk okX8_passYear 17 rfl) ml_X8_140 me_X8_liveTogether (sh44 hst) rfl (gj_nm rfl) rfl (gj_kV fun S2 M2 h => ?_)
      obtain ⟨eS, eM⟩ := h; subst eS; subst eM; clear hG
      refine gj_sub [(0, jR 44), (1, jI l1)] ⟨rfl, rfl, trivial⟩ ?_
      exact t_J_X8_passYear_30 hst hrec2 l1 M2 hF
theorem t_L_X8_passYear_2 (hst : gj_Stat S) {r : gj_M} : ∀ (m : Nat) (l1 : Int) (M : gj_M), gj_it (fun _ _ => none) (B_X8_passYear_2) m l1 M = some r → gj_W G l 4 0 0 yX8_passYear cX8_passYear 3 none (gj_qV fun S' M' => S = S' ∧ r = M') 0 0 2 [(0, jR 44), (1, jI l1)] [] S M := by
  intro m
  induction m with
  | zero => intro l1 M hF; cases (show (none : Option (gj_M)) = some r from hF)
  | succ m ih => intro l1 M hF; exact t_B_X8_passYear_2 hst (fun l1 M h => ih l1 M h) l1 M hF
set_option maxHeartbeats 4000000 in
set_option maxRecDepth 20000 in
theorem t_X8_passYear (hst : gj_Stat S) {r : gj_M} (hF : F_X8_passYear M = some r) : gj_C G l 4 0 0 yX8_passYear cX8_passYear 3 none [jR 44] S M (gj_qV fun S' M' => S = S' ∧ r = M') := by
  refine gj_Cof (by decide +kernel) (Nat.le_of_ble_eq_true rfl) ?_
  change gj_W G l 4 0 0 yX8_passYear cX8_passYear 3 none (gj_qV fun S' M' => S = S' ∧ r = M') 0 0 0 [(0, jR 44)] [] S M
  unfold F_X8_passYear at hF
  refine gj_iconst (q := 1) (gj_dk okX8_passYear 0 rfl) (by decide) rfl ?_
  refine gj_istore_n (q := 2) (gj_dk okX8_passYear 1 rfl) (by decide) rfl ?_
  refine gj_sub [(0, jR 44), (1, jI 0)] ⟨rfl, rfl, trivial⟩ ?_
  exact t_L_X8_passYear_2 hst gj_fu 0 M hF
def F_X8_hold (M : gj_M) : Option (gj_M) :=
  gj_bnd (F_X8_askPaired M) (fun M2 => gj_bnd (F_X8_endPairs M2) (fun M4 => gj_bnd (F_X2_gather 0 M4) (fun M6 => gj_bnd (F_X2_look 1 M6) (fun M8 => gj_bnd (F_X2_pairUp (M8 21 1) M8) (fun M10 => gj_bnd (F_X8_bindNewPairs M10) (fun M12 => gj_bnd (F_X8_passYear M12) (fun M14 => (some (M14)))))))))
set_option maxHeartbeats 4000000 in
set_option maxRecDepth 20000 in
theorem t_X8_hold (hst : gj_Stat S) {r : gj_M} (hF : F_X8_hold M = some r) : gj_C G l 19 0 0 yX8_hold cX8_hold 1 none [jR 44] S M (gj_qV fun S' M' => S = S' ∧ r = M') := by
  refine gj_Cof (by decide +kernel) (Nat.le_of_ble_eq_true rfl) ?_
  change gj_W G l 19 0 0 yX8_hold cX8_hold 1 none (gj_qV fun S' M' => S = S' ∧ r = M') 0 0 0 [(0, jR 44)] [] S M
  unfold F_X8_hold at hF
  refine gj_aload_n (q := 1) (gj_dk okX8_hold 0 rfl) rfl rfl ?_
  obtain ⟨M2, hG, hF⟩ := gj_bndd hF
  refine gj_callV (q := 4) (z := 44) (ci := 7) [] rfl (t_X8_askPaired hst  hG) (gj_dk okX8_hold 1 rfl) ml_X8_31 me_X8_askPaired (sh44 hst) rfl (gj_nm rfl) rfl (gj_kV fun S2 M2 h => ?_)
  obtain ⟨eS, eM⟩ := h; subst eS; subst eM; clear hG
  refine gj_aload_n (q := 5) (gj_dk okX8_hold 2 rfl) rfl rfl ?_
  obtain ⟨M4, hG, hF⟩ := gj_bndd hF
  refine gj_callV (q := 8) (z := 44) (ci := 7) [] rfl (t_X8_endPairs hst  hG) (gj_dk okX8_hold 3 rfl) ml_X8_34 me_X8_endPairs (sh44 hst) rfl (gj_nm rfl) rfl (gj_kV fun S2 M2 h => ?_)
  obtain ⟨eS, eM⟩ := h; subst eS; subst eM; clear hG
  refine gj_aload_n (q := 9) (gj_dk okX8_hold 4 rfl) rfl rfl ?_
  refine gj_gR (q := 12) (j := 3) (gj_dk okX8_hold 5 rfl) ff_X8_27 (sh44 hst) (by decide) rfl (rf44_3 hst) rfl ?_
  refine gj_iconst (q := 13) (gj_dk okX8_hold 6 rfl) (by decide) rfl ?_
  obtain ⟨M6, hG, hF⟩ := gj_bndd hF
  refine gj_callV (q := 16) (z := 35) (ci := 2) [jI 0] rfl (t_X2_gather hst 0 hG) (gj_dk okX8_hold 7 rfl) ml_X8_37 me_X2_gather (sh35 hst) rfl (gj_nm rfl) rfl (gj_kV fun S2 M2 h => ?_)
  obtain ⟨eS, eM⟩ := h; subst eS; subst eM; clear hG
  refine gj_aload_n (q := 17) (gj_dk okX8_hold 8 rfl) rfl rfl ?_
  refine gj_gR (q := 20) (j := 3) (gj_dk okX8_hold 9 rfl) ff_X8_27 (sh44 hst) (by decide) rfl (rf44_3 hst) rfl ?_
  refine gj_iconst (q := 21) (gj_dk okX8_hold 10 rfl) (by decide) rfl ?_
  obtain ⟨M8, hG, hF⟩ := gj_bndd hF
  refine gj_callV (q := 24) (z := 35) (ci := 2) [jI 1] rfl (t_X2_look hst 1 hG) (gj_dk okX8_hold 11 rfl) ml_X8_43 me_X2_look (sh35 hst) rfl (gj_nm rfl) rfl (gj_kV fun S2 M2 h => ?_)
  obtain ⟨eS, eM⟩ := h; subst eS; subst eM; clear hG
  refine gj_aload_n (q := 25) (gj_dk okX8_hold 12 rfl) rfl rfl ?_
  refine gj_gR (q := 28) (j := 3) (gj_dk okX8_hold 13 rfl) ff_X8_27 (sh44 hst) (by decide) rfl (rf44_3 hst) rfl ?_
  refine gj_aload_n (q := 29) (gj_dk okX8_hold 14 rfl) rfl rfl ?_
  refine gj_gR (q := 32) (j := 1) (gj_dk okX8_hold 15 rfl) ff_X8_19 (sh44 hst) (by decide) rfl (rf44_1 hst) rfl ?_
  refine gj_gI (q := 35) (j := 1) (gj_dk okX8_hold 16 rfl) ff_X8_46 (sh21 hst) (by decide) rfl rfl ?_
  obtain ⟨M10, hG, hF⟩ := gj_bndd hF
  refine gj_callV (q := 38) (z := 35) (ci := 2) [jI (M8 21 1)] rfl (t_X2_pairUp hst (M8 21 1) hG) (gj_dk okX8_hold 17 rfl) ml_X8_52 me_X2_pairUp (sh35 hst) rfl (gj_nm rfl) rfl (gj_kV fun S2 M2 h => ?_)
  obtain ⟨eS, eM⟩ := h; subst eS; subst eM; clear hG
  refine gj_aload_n (q := 39) (gj_dk okX8_hold 18 rfl) rfl rfl ?_
  obtain ⟨M12, hG, hF⟩ := gj_bndd hF
  refine gj_callV (q := 42) (z := 44) (ci := 7) [] rfl (t_X8_bindNewPairs hst  hG) (gj_dk okX8_hold 19 rfl) ml_X8_56 me_X8_bindNewPairs (sh44 hst) rfl (gj_nm rfl) rfl (gj_kV fun S2 M2 h => ?_)
  obtain ⟨eS, eM⟩ := h; subst eS; subst eM; clear hG
  refine gj_aload_n (q := 43) (gj_dk okX8_hold 20 rfl) rfl rfl ?_
  obtain ⟨M14, hG, hF⟩ := gj_bndd hF
  refine gj_callV (q := 46) (z := 44) (ci := 7) [] rfl (t_X8_passYear hst  hG) (gj_dk okX8_hold 21 rfl) ml_X8_59 me_X8_passYear (sh44 hst) rfl (gj_nm rfl) rfl (gj_kV fun S2 M2 h => ?_)
  obtain ⟨eS, eM⟩ := h; subst eS; subst eM; clear hG
  cases hF
  exact gj_vret (gj_dk okX8_hold 22 rfl) rfl ⟨rfl, rfl, rfl⟩
def J_X11_may_49 (M : gj_M) : Option (Int × gj_M) :=
  (some ((M 21 0, M)))
def B_X11_may_31 (rec31 : Int → Int → gj_M → Option (Int × gj_M)) (l1 l2 : Int) (M : gj_M) : Option (Int × gj_M) :=
  (if l1 ≤ l2 then (J_X11_may_49 M) else gj_bnd (F_X8_hold M) (fun M9 => rec31 l1 (gj_w (l2 + 1)) M9))
def F_X11_may (a1 : Int) (M : gj_M) : Option (Int × gj_M) :=
  (if a1 < 1 then gj_let2 (f_X11_refuse 2 M) (fun x1 M2 => (some ((-1, M2)))) else (if 50 < a1 then gj_let2 (f_X11_refuse 2 M) (fun x3 M4 => (some ((-1, M4)))) else gj_letI (f_X5_stands_14 M) (fun x5 => (if x5 = 0 then gj_let2 (f_X11_refuse 2 M) (fun x6 M7 => (some ((-1, M7)))) else (gj_it (fun _ _ _ => none) (B_X11_may_31) gj_fu a1 0 M)))))
set_option maxHeartbeats 4000000 in
set_option maxRecDepth 20000 in
theorem t_J_X11_may_49 (hst : gj_Stat S) {r : Int × gj_M} (M : gj_M) (hF : J_X11_may_49 M = some r) : gj_W G l 20 0 0 yX11_may cX11_may 3 (some .int) (gj_qI fun x S' M' => r.1 = x ∧ S = S' ∧ r.2 = M') 0 0 49 [(0, jR 0)] [] S M := by
  unfold J_X11_may_49 at hF
  refine gj_aload_n (q := 50) (gj_dk okX11_may 26 rfl) rfl rfl ?_
  refine gj_gR (q := 53) (j := 4) (gj_dk okX11_may 27 rfl) ff_X11_38 (sh0 hst) (by decide) rfl (rf0_4 hst) rfl ?_
  refine gj_gI (q := 56) (j := 0) (gj_dk okX11_may 28 rfl) ff_X11_275 (sh21 hst) (by decide) rfl rfl ?_
  cases hF
  exact gj_iret (gj_dk okX11_may 29 rfl) rfl ⟨_, rfl, rfl, rfl, rfl⟩
set_option maxHeartbeats 4000000 in
set_option maxRecDepth 20000 in
theorem t_B_X11_may_31 (hst : gj_Stat S) {r : Int × gj_M} {rec31 : Int → Int → gj_M → Option (Int × gj_M)} (hrec31 : ∀ (l1 l2 : Int) (M : gj_M), rec31 l1 l2 M = some r → gj_W G l 20 0 0 yX11_may cX11_may 3 (some .int) (gj_qI fun x S' M' => r.1 = x ∧ S = S' ∧ r.2 = M') 0 0 31 [(0, jR 0), (1, jI l1), (2, jI l2)] [] S M) (l1 l2 : Int) (M : gj_M) (hF : B_X11_may_31 rec31 l1 l2 M = some r) : gj_W G l 20 0 0 yX11_may cX11_may 3 (some .int) (gj_qI fun x S' M' => r.1 = x ∧ S = S' ∧ r.2 = M') 0 0 31 [(0, jR 0), (1, jI l1), (2, jI l2)] [] S M := by
  unfold B_X11_may_31 at hF
  refine gj_iload_n (q := 32) (gj_dk okX11_may 18 rfl) rfl rfl ?_
  refine gj_iload_n (q := 33) (gj_dk okX11_may 19 rfl) rfl rfl ?_
  refine gj_icmp_ge (q := 36) (tgt := 49) (gj_dk okX11_may 20 rfl) (by decide) rfl (fun c33 => ?_) (fun c33 => ?_)
  · -- 49
    replace hF := gj_ift c33 hF
    refine gj_sub [(0, jR 0)] ⟨rfl, trivial⟩ ?_
    exact t_J_X11_may_49 hst M hF
  · -- 36
    replace hF := gj_iff c33 hF
    refine gj_aload_n (q := 37) (gj_dk okX11_may 21 rfl) rfl rfl ?_
    refine gj_gR (q := 40) (j := 8) (gj_dk okX11_may 22 rfl) ff_X11_72 (sh0 hst) (by decide) rfl (rf0_8 hst) rfl ?_
    obtain ⟨M9, hG, hF⟩ := gj_bndd hF
    refine gj_callV (q := 43) (z := 44) (ci := 7) [] rfl (t_X8_hold hst  hG) (gj_dk okX11_may 23 rfl) ml_X11_272 me_X8_hold (sh44 hst) rfl (gj_nm rfl) rfl (gj_kV fun S2 M2 h => ?_)
    obtain ⟨eS, eM⟩ := h; subst eS; subst eM; clear hG
    refine gj_iinc (q := 46) (v := gj_w (l2 + 1)) (gj_dk okX11_may 24 rfl) rfl (by decide) rfl rfl ?_
    refine gj_goto (tgt := 31) (gj_dk okX11_may 25 rfl) (by decide) ?_
    refine gj_sub [(0, jR 0), (1, jI l1), (2, jI (gj_w (l2 + 1)))] ⟨rfl, rfl, rfl, trivial⟩ ?_
    exact hrec31 l1 (gj_w (l2 + 1)) M9 hF
theorem t_L_X11_may_31 (hst : gj_Stat S) {r : Int × gj_M} : ∀ (m : Nat) (l1 : Int) (l2 : Int) (M : gj_M), gj_it (fun _ _ _ => none) (B_X11_may_31) m l1 l2 M = some r → gj_W G l 20 0 0 yX11_may cX11_may 3 (some .int) (gj_qI fun x S' M' => r.1 = x ∧ S = S' ∧ r.2 = M') 0 0 31 [(0, jR 0), (1, jI l1), (2, jI l2)] [] S M := by
  intro m
  induction m with
  | zero => intro l1 l2 M hF; cases (show (none : Option (Int × gj_M)) = some r from hF)
  | succ m ih => intro l1 l2 M hF; exact t_B_X11_may_31 hst (fun l1 l2 M h => ih l1 l2 M h) l1 l2 M hF
set_option maxHeartbeats 4000000 in
set_option maxRecDepth 20000 in
theorem t_X11_may (hst : gj_Stat S) (a1 : Int) {r : Int × gj_M} (hF : F_X11_may a1 M = some r) : gj_C G l 20 0 0 yX11_may cX11_may 3 (some .int) [jR 0, jI a1] S M (gj_qI fun x S' M' => r.1 = x ∧ S = S' ∧ r.2 = M') := by
  refine gj_Cof (by decide +kernel) (Nat.le_of_ble_eq_true rfl) ?_
  change gj_W G l 20 0 0 yX11_may cX11_may 3 (some .int) (gj_qI fun x S' M' => r.1 = x ∧ S = S' ∧ r.2 = M') 0 0 0 [(0, jR 0), (1, jI a1)] [] S M
  unfold F_X11_may at hF
  refine gj_iload_n (q := 1) (gj_dk okX11_may 0 rfl) rfl rfl ?_
  refine gj_iconst (q := 2) (gj_dk okX11_may 1 rfl) (by decide) rfl ?_
  refine gj_icmp_lt (q := 5) (tgt := 21) (gj_dk okX11_may 2 rfl) (by decide) rfl (fun c2 => ?_) (fun c2 => ?_)
  · -- 21
    replace hF := gj_ift c2 hF
    refine gj_aload_n (q := 22) (gj_dk okX11_may 10 rfl) rfl rfl ?_
    refine gj_iconst (q := 23) (gj_dk okX11_may 11 rfl) (by decide) rfl ?_
    refine gj_callV (q := 26) (z := 0) (ci := 9) [jI 2] rfl (t_X11_refuse hst 2 rfl) (gj_dk okX11_may 12 rfl) ml_X11_92 me_X11_refuse (sh0 hst) rfl (gj_nm rfl) rfl (gj_kI fun x S2 M2 h => ?_)
    obtain ⟨bz, e, eS, eM⟩ := h; subst eS; subst eM; subst e
    refine gj_stp2Z bz hF (fun x1 M2 bx1 hF => ?_)
    refine gj_pop (q := 27) (gj_dk okX11_may 13 rfl) rfl rfl ?_
    refine gj_iconst (q := 28) (gj_dk okX11_may 14 rfl) (by decide) rfl ?_
    cases hF
    exact gj_iret (gj_dk okX11_may 15 rfl) rfl ⟨_, rfl, rfl, rfl, rfl⟩
  · -- 5
    replace hF := gj_iff c2 hF
    refine gj_iload_n (q := 6) (gj_dk okX11_may 3 rfl) rfl rfl ?_
    refine gj_bipush (q := 8) (gj_dk okX11_may 4 rfl) (by decide) rfl rfl ?_
    refine gj_icmp_gt (q := 11) (tgt := 21) (gj_dk okX11_may 5 rfl) (by decide) rfl (fun c8 => ?_) (fun c8 => ?_)
    · -- 21
      replace hF := gj_ift c8 hF
      refine gj_aload_n (q := 22) (gj_dk okX11_may 10 rfl) rfl rfl ?_
      refine gj_iconst (q := 23) (gj_dk okX11_may 11 rfl) (by decide) rfl ?_
      refine gj_callV (q := 26) (z := 0) (ci := 9) [jI 2] rfl (t_X11_refuse hst 2 rfl) (gj_dk okX11_may 12 rfl) ml_X11_92 me_X11_refuse (sh0 hst) rfl (gj_nm rfl) rfl (gj_kI fun x S2 M2 h => ?_)
      obtain ⟨bz, e, eS, eM⟩ := h; subst eS; subst eM; subst e
      refine gj_stp2Z bz hF (fun x3 M4 bx3 hF => ?_)
      refine gj_pop (q := 27) (gj_dk okX11_may 13 rfl) rfl rfl ?_
      refine gj_iconst (q := 28) (gj_dk okX11_may 14 rfl) (by decide) rfl ?_
      cases hF
      exact gj_iret (gj_dk okX11_may 15 rfl) rfl ⟨_, rfl, rfl, rfl, rfl⟩
    · -- 11
      replace hF := gj_iff c8 hF
      refine gj_aload_n (q := 12) (gj_dk okX11_may 6 rfl) rfl rfl ?_
      refine gj_gR (q := 15) (j := 3) (gj_dk okX11_may 7 rfl) ff_X11_32 (sh0 hst) (by decide) rfl (rf0_3 hst) rfl ?_
      refine gj_callV (q := 18) (z := 14) (ci := 5) [] rfl (t_X5_stands_14 hst  rfl) (gj_dk okX11_may 8 rfl) ml_X11_268 me_X5_stands (sh14 hst) rfl (gj_nm rfl) rfl (gj_kI fun x S2 M2 h => ?_)
      obtain ⟨bz, e, eS, eM⟩ := h; subst eS; subst eM; subst e
      refine gj_stpZ bz hF (fun x5 bx5 hF => ?_)
      refine gj_if_ne (q := 21) (tgt := 29) (gj_dk okX11_may 9 rfl) (by decide) rfl (fun c18 => ?_) (fun c18 => ?_)
      · -- 29
        replace hF := gj_iff c18 hF
        refine gj_iconst (q := 30) (gj_dk okX11_may 16 rfl) (by decide) rfl ?_
        refine gj_istore_n (q := 31) (gj_dk okX11_may 17 rfl) (by decide) rfl ?_
        refine gj_sub [(0, jR 0), (1, jI a1), (2, jI 0)] ⟨rfl, rfl, rfl, trivial⟩ ?_
        exact t_L_X11_may_31 hst gj_fu a1 0 M hF
      · -- 21
        replace hF := gj_ift c18 hF
        refine gj_aload_n (q := 22) (gj_dk okX11_may 10 rfl) rfl rfl ?_
        refine gj_iconst (q := 23) (gj_dk okX11_may 11 rfl) (by decide) rfl ?_
        refine gj_callV (q := 26) (z := 0) (ci := 9) [jI 2] rfl (t_X11_refuse hst 2 rfl) (gj_dk okX11_may 12 rfl) ml_X11_92 me_X11_refuse (sh0 hst) rfl (gj_nm rfl) rfl (gj_kI fun x S2 M2 h => ?_)
        obtain ⟨bz, e, eS, eM⟩ := h; subst eS; subst eM; subst e
        refine gj_stp2Z bz hF (fun x6 M7 bx6 hF => ?_)
        refine gj_pop (q := 27) (gj_dk okX11_may 13 rfl) rfl rfl ?_
        refine gj_iconst (q := 28) (gj_dk okX11_may 14 rfl) (by decide) rfl ?_
        cases hF
        exact gj_iret (gj_dk okX11_may 15 rfl) rfl ⟨_, rfl, rfl, rfl, rfl⟩
def f_X11_join (a1 : Int) (a2 : Int) (M : gj_M) : Int × gj_M :=
  gj_letI (f_X5_slotOf a1 M) (fun x1 => gj_letI (f_X5_slotOf a2 M) (fun x2 => (if f_unl x1 x2 = 0 then gj_let2 (f_X11_refuse 0 M) (fun x3 M4 => ((x3, M4))) else (if x1 ≤ x2 then (if f_at M 22 8 x1 = -1 then (if f_at M 22 8 x2 = -1 then gj_let (f_X3_bind x1 x2 M) (fun M7 => ((1, M7))) else gj_let2 (f_X11_refuse 2 M) (fun x8 M9 => ((x8, M9)))) else gj_let2 (f_X11_refuse 2 M) (fun x5 M6 => ((x5, M6)))) else gj_let2 (f_X11_refuse 0 M) (fun x10 M11 => ((x10, M11)))))))
set_option maxHeartbeats 4000000 in
set_option maxRecDepth 20000 in
theorem t_X11_join (hst : gj_Stat S) (a1 a2 : Int) {r : Int × gj_M} (hF : f_X11_join a1 a2 M = r) : gj_C G l 3 0 0 yX11_join cX11_join 5 (some .boolean) [jR 0, jI a1, jI a2] S M (gj_qI fun x S' M' => (x = 0 ∨ x = 1) ∧ r.1 = x ∧ S = S' ∧ r.2 = M') := by
  refine gj_Cof (by decide +kernel) (Nat.le_of_ble_eq_true rfl) ?_
  change gj_W G l 3 0 0 yX11_join cX11_join 5 (some .boolean) (gj_qI fun x S' M' => (x = 0 ∨ x = 1) ∧ r.1 = x ∧ S = S' ∧ r.2 = M') 0 0 0 [(0, jR 0), (1, jI a1), (2, jI a2)] [] S M
  unfold f_X11_join at hF
  refine gj_aload_n (q := 1) (gj_dk okX11_join 0 rfl) rfl rfl ?_
  refine gj_gR (q := 4) (j := 3) (gj_dk okX11_join 1 rfl) ff_X11_32 (sh0 hst) (by decide) rfl (rf0_3 hst) rfl ?_
  refine gj_iload_n (q := 5) (gj_dk okX11_join 2 rfl) rfl rfl ?_
  refine gj_callV (q := 8) (z := 14) (ci := 5) [jI a1] rfl (t_X5_slotOf hst a1 rfl) (gj_dk okX11_join 3 rfl) ml_X11_131 me_X5_slotOf (sh14 hst) rfl (gj_nm rfl) rfl (gj_kI fun x S2 M2 h => ?_)
  obtain ⟨e, eS, eM⟩ := h; subst eS; subst eM; subst e
  refine gj_stpI hF (fun x1 hF => ?_)
  refine gj_istore_n (q := 9) (gj_dk okX11_join 4 rfl) (by decide) rfl ?_
  refine gj_aload_n (q := 10) (gj_dk okX11_join 5 rfl) rfl rfl ?_
  refine gj_gR (q := 13) (j := 3) (gj_dk okX11_join 6 rfl) ff_X11_32 (sh0 hst) (by decide) rfl (rf0_3 hst) rfl ?_
  refine gj_iload_n (q := 14) (gj_dk okX11_join 7 rfl) rfl rfl ?_
  refine gj_callV (q := 17) (z := 14) (ci := 5) [jI a2] rfl (t_X5_slotOf hst a2 rfl) (gj_dk okX11_join 8 rfl) ml_X11_131 me_X5_slotOf (sh14 hst) rfl (gj_nm rfl) rfl (gj_kI fun x S2 M2 h => ?_)
  obtain ⟨e, eS, eM⟩ := h; subst eS; subst eM; subst e
  refine gj_stpI hF (fun x2 hF => ?_)
  refine gj_istore (q := 19) (gj_dk okX11_join 9 rfl) (by decide) rfl ?_
  refine gj_iload_n (q := 20) (gj_dk okX11_join 10 rfl) rfl rfl ?_
  refine gj_iload (q := 22) (gj_dk okX11_join 11 rfl) rfl rfl ?_
  refine gj_callS (q := 25) [jI x1, jI x2] rfl (c_X10_unlike _ _) (gj_dk okX11_join 12 rfl) ml_X11_157 me_X10_unlike (gj_nm rfl) rfl (gj_kI fun x S2 M2 h => ?_)
  obtain ⟨e, eS, eM⟩ := h; subst eS; subst eM; subst e
  refine gj_if_eq (q := 28) (tgt := 34) (gj_dk okX11_join 13 rfl) (by decide) rfl (fun c25 => ?_) (fun c25 => ?_)
  · -- 34
    replace hF := gj_ift c25 hF
    refine gj_aload_n (q := 35) (gj_dk okX11_join 17 rfl) rfl rfl ?_
    refine gj_iconst (q := 36) (gj_dk okX11_join 18 rfl) (by decide) rfl ?_
    refine gj_callV (q := 39) (z := 0) (ci := 9) [jI 0] rfl (t_X11_refuse hst 0 rfl) (gj_dk okX11_join 19 rfl) ml_X11_92 me_X11_refuse (sh0 hst) rfl (gj_nm rfl) rfl (gj_kI fun x S2 M2 h => ?_)
    obtain ⟨bz, e, eS, eM⟩ := h; subst eS; subst eM; subst e
    refine gj_stp2Z bz hF (fun x3 M4 bx3 hF => ?_)
    subst hF
    exact gj_zret (gj_dk okX11_join 20 rfl) rfl bx3 ⟨_, rfl, bx3, rfl, rfl, rfl⟩
  · -- 28
    replace hF := gj_iff c25 hF
    refine gj_iload_n (q := 29) (gj_dk okX11_join 14 rfl) rfl rfl ?_
    refine gj_iload (q := 31) (gj_dk okX11_join 15 rfl) rfl rfl ?_
    refine gj_icmp_le (q := 34) (tgt := 40) (gj_dk okX11_join 16 rfl) (by decide) rfl (fun c31 => ?_) (fun c31 => ?_)
    · -- 40
      replace hF := gj_ift c31 hF
      refine gj_aload_n (q := 41) (gj_dk okX11_join 21 rfl) rfl rfl ?_
      refine gj_gR (q := 44) (j := 4) (gj_dk okX11_join 22 rfl) ff_X11_38 (sh0 hst) (by decide) rfl (rf0_4 hst) rfl ?_
      refine gj_gR (q := 47) (j := 3) (gj_dk okX11_join 23 rfl) ff_X11_143 (sh21 hst) (by decide) rfl (rf21_3 hst) rfl ?_
      refine gj_iload_n (q := 48) (gj_dk okX11_join 24 rfl) rfl rfl ?_
      refine gj_callS (q := 51) [jR 22, jI x1] rfl (c_X7_at (sh22 hst) (by decide) (by decide) _) (gj_dk okX11_join 25 rfl) ml_X11_139 me_X7_at (gj_nm rfl) rfl (gj_kI fun x S2 M2 h => ?_)
      obtain ⟨e, eS, eM⟩ := h; subst eS; subst eM; subst e
      refine gj_iconst (q := 52) (gj_dk okX11_join 26 rfl) (by decide) rfl ?_
      refine gj_icmp_ne (q := 55) (tgt := 71) (gj_dk okX11_join 27 rfl) (by decide) rfl (fun c52 => ?_) (fun c52 => ?_)
      · -- 71
        replace hF := gj_iff c52 hF
        refine gj_aload_n (q := 72) (gj_dk okX11_join 35 rfl) rfl rfl ?_
        refine gj_iconst (q := 73) (gj_dk okX11_join 36 rfl) (by decide) rfl ?_
        refine gj_callV (q := 76) (z := 0) (ci := 9) [jI 2] rfl (t_X11_refuse hst 2 rfl) (gj_dk okX11_join 37 rfl) ml_X11_92 me_X11_refuse (sh0 hst) rfl (gj_nm rfl) rfl (gj_kI fun x S2 M2 h => ?_)
        obtain ⟨bz, e, eS, eM⟩ := h; subst eS; subst eM; subst e
        refine gj_stp2Z bz hF (fun x5 M6 bx5 hF => ?_)
        subst hF
        exact gj_zret (gj_dk okX11_join 38 rfl) rfl bx5 ⟨_, rfl, bx5, rfl, rfl, rfl⟩
      · -- 55
        replace hF := gj_ift c52 hF
        refine gj_aload_n (q := 56) (gj_dk okX11_join 28 rfl) rfl rfl ?_
        refine gj_gR (q := 59) (j := 4) (gj_dk okX11_join 29 rfl) ff_X11_38 (sh0 hst) (by decide) rfl (rf0_4 hst) rfl ?_
        refine gj_gR (q := 62) (j := 3) (gj_dk okX11_join 30 rfl) ff_X11_143 (sh21 hst) (by decide) rfl (rf21_3 hst) rfl ?_
        refine gj_iload (q := 64) (gj_dk okX11_join 31 rfl) rfl rfl ?_
        refine gj_callS (q := 67) [jR 22, jI x2] rfl (c_X7_at (sh22 hst) (by decide) (by decide) _) (gj_dk okX11_join 32 rfl) ml_X11_139 me_X7_at (gj_nm rfl) rfl (gj_kI fun x S2 M2 h => ?_)
        obtain ⟨e, eS, eM⟩ := h; subst eS; subst eM; subst e
        refine gj_iconst (q := 68) (gj_dk okX11_join 33 rfl) (by decide) rfl ?_
        refine gj_icmp_eq (q := 71) (tgt := 77) (gj_dk okX11_join 34 rfl) (by decide) rfl (fun c68 => ?_) (fun c68 => ?_)
        · -- 77
          replace hF := gj_ift c68 hF
          refine gj_aload_n (q := 78) (gj_dk okX11_join 39 rfl) rfl rfl ?_
          refine gj_gR (q := 81) (j := 4) (gj_dk okX11_join 40 rfl) ff_X11_38 (sh0 hst) (by decide) rfl (rf0_4 hst) rfl ?_
          refine gj_iload_n (q := 82) (gj_dk okX11_join 41 rfl) rfl rfl ?_
          refine gj_iload (q := 84) (gj_dk okX11_join 42 rfl) rfl rfl ?_
          refine gj_callV (q := 87) (z := 21) (ci := 3) [jI x1, jI x2] rfl (t_X3_bind hst x1 x2 rfl) (gj_dk okX11_join 43 rfl) ml_X11_278 me_X3_bind (sh21 hst) rfl (gj_nm rfl) rfl (gj_kV fun S2 M2 h => ?_)
          obtain ⟨eS, eM⟩ := h; subst eS; subst eM
          refine gj_stp hF (fun M7 hF => ?_)
          refine gj_iconst (q := 88) (gj_dk okX11_join 44 rfl) (by decide) rfl ?_
          subst hF
          exact gj_zret (gj_dk okX11_join 45 rfl) rfl (by decide) ⟨_, rfl, (by decide), rfl, rfl, rfl⟩
        · -- 71
          replace hF := gj_iff c68 hF
          refine gj_aload_n (q := 72) (gj_dk okX11_join 35 rfl) rfl rfl ?_
          refine gj_iconst (q := 73) (gj_dk okX11_join 36 rfl) (by decide) rfl ?_
          refine gj_callV (q := 76) (z := 0) (ci := 9) [jI 2] rfl (t_X11_refuse hst 2 rfl) (gj_dk okX11_join 37 rfl) ml_X11_92 me_X11_refuse (sh0 hst) rfl (gj_nm rfl) rfl (gj_kI fun x S2 M2 h => ?_)
          obtain ⟨bz, e, eS, eM⟩ := h; subst eS; subst eM; subst e
          refine gj_stp2Z bz hF (fun x8 M9 bx8 hF => ?_)
          subst hF
          exact gj_zret (gj_dk okX11_join 38 rfl) rfl bx8 ⟨_, rfl, bx8, rfl, rfl, rfl⟩
    · -- 34
      replace hF := gj_iff c31 hF
      refine gj_aload_n (q := 35) (gj_dk okX11_join 17 rfl) rfl rfl ?_
      refine gj_iconst (q := 36) (gj_dk okX11_join 18 rfl) (by decide) rfl ?_
      refine gj_callV (q := 39) (z := 0) (ci := 9) [jI 0] rfl (t_X11_refuse hst 0 rfl) (gj_dk okX11_join 19 rfl) ml_X11_92 me_X11_refuse (sh0 hst) rfl (gj_nm rfl) rfl (gj_kI fun x S2 M2 h => ?_)
      obtain ⟨bz, e, eS, eM⟩ := h; subst eS; subst eM; subst e
      refine gj_stp2Z bz hF (fun x10 M11 bx10 hF => ?_)
      subst hF
      exact gj_zret (gj_dk okX11_join 20 rfl) rfl bx10 ⟨_, rfl, bx10, rfl, rfl, rfl⟩
def f_X11_part (a1 : Int) (M : gj_M) : Int × gj_M :=
  gj_letI (f_X5_slotOf a1 M) (fun x1 => (if x1 = -1 then gj_let2 (f_X11_refuse 0 M) (fun x5 M6 => ((x5, M6))) else (if f_at M 22 8 x1 = -1 then gj_let2 (f_X11_refuse 2 M) (fun x3 M4 => ((x3, M4))) else gj_let (f_X3_loosen x1 (f_at M 22 8 x1) M) (fun M2 => ((1, M2))))))
set_option maxHeartbeats 4000000 in
set_option maxRecDepth 20000 in
theorem t_X11_part (hst : gj_Stat S) (a1 : Int) {r : Int × gj_M} (hF : f_X11_part a1 M = r) : gj_C G l 4 0 0 yX11_part cX11_part 4 (some .boolean) [jR 0, jI a1] S M (gj_qI fun x S' M' => (x = 0 ∨ x = 1) ∧ r.1 = x ∧ S = S' ∧ r.2 = M') := by
  refine gj_Cof (by decide +kernel) (Nat.le_of_ble_eq_true rfl) ?_
  change gj_W G l 4 0 0 yX11_part cX11_part 4 (some .boolean) (gj_qI fun x S' M' => (x = 0 ∨ x = 1) ∧ r.1 = x ∧ S = S' ∧ r.2 = M') 0 0 0 [(0, jR 0), (1, jI a1)] [] S M
  unfold f_X11_part at hF
  refine gj_aload_n (q := 1) (gj_dk okX11_part 0 rfl) rfl rfl ?_
  refine gj_gR (q := 4) (j := 3) (gj_dk okX11_part 1 rfl) ff_X11_32 (sh0 hst) (by decide) rfl (rf0_3 hst) rfl ?_
  refine gj_iload_n (q := 5) (gj_dk okX11_part 2 rfl) rfl rfl ?_
  refine gj_callV (q := 8) (z := 14) (ci := 5) [jI a1] rfl (t_X5_slotOf hst a1 rfl) (gj_dk okX11_part 3 rfl) ml_X11_131 me_X5_slotOf (sh14 hst) rfl (gj_nm rfl) rfl (gj_kI fun x S2 M2 h => ?_)
  obtain ⟨e, eS, eM⟩ := h; subst eS; subst eM; subst e
  refine gj_stpI hF (fun x1 hF => ?_)
  refine gj_istore_n (q := 9) (gj_dk okX11_part 4 rfl) (by decide) rfl ?_
  refine gj_iload_n (q := 10) (gj_dk okX11_part 5 rfl) rfl rfl ?_
  refine gj_iconst (q := 11) (gj_dk okX11_part 6 rfl) (by decide) rfl ?_
  refine gj_icmp_ne (q := 14) (tgt := 20) (gj_dk okX11_part 7 rfl) (by decide) rfl (fun c11 => ?_) (fun c11 => ?_)
  · -- 20
    replace hF := gj_iff c11 hF
    refine gj_aload_n (q := 21) (gj_dk okX11_part 12 rfl) rfl rfl ?_
    refine gj_gR (q := 24) (j := 4) (gj_dk okX11_part 13 rfl) ff_X11_38 (sh0 hst) (by decide) rfl (rf0_4 hst) rfl ?_
    refine gj_gR (q := 27) (j := 3) (gj_dk okX11_part 14 rfl) ff_X11_143 (sh21 hst) (by decide) rfl (rf21_3 hst) rfl ?_
    refine gj_iload_n (q := 28) (gj_dk okX11_part 15 rfl) rfl rfl ?_
    refine gj_callS (q := 31) [jR 22, jI x1] rfl (c_X7_at (sh22 hst) (by decide) (by decide) _) (gj_dk okX11_part 16 rfl) ml_X11_139 me_X7_at (gj_nm rfl) rfl (gj_kI fun x S2 M2 h => ?_)
    obtain ⟨e, eS, eM⟩ := h; subst eS; subst eM; subst e
    refine gj_istore_n (q := 32) (gj_dk okX11_part 17 rfl) (by decide) rfl ?_
    refine gj_iload_n (q := 33) (gj_dk okX11_part 18 rfl) rfl rfl ?_
    refine gj_iconst (q := 34) (gj_dk okX11_part 19 rfl) (by decide) rfl ?_
    refine gj_icmp_ne (q := 37) (tgt := 43) (gj_dk okX11_part 20 rfl) (by decide) rfl (fun c34 => ?_) (fun c34 => ?_)
    · -- 43
      replace hF := gj_iff c34 hF
      refine gj_aload_n (q := 44) (gj_dk okX11_part 25 rfl) rfl rfl ?_
      refine gj_gR (q := 47) (j := 4) (gj_dk okX11_part 26 rfl) ff_X11_38 (sh0 hst) (by decide) rfl (rf0_4 hst) rfl ?_
      refine gj_iload_n (q := 48) (gj_dk okX11_part 27 rfl) rfl rfl ?_
      refine gj_iload_n (q := 49) (gj_dk okX11_part 28 rfl) rfl rfl ?_
      refine gj_callV (q := 52) (z := 21) (ci := 3) [jI x1, jI (f_at M 22 8 x1)] rfl (t_X3_loosen hst x1 (f_at M 22 8 x1) rfl) (gj_dk okX11_part 29 rfl) ml_X11_282 me_X3_loosen (sh21 hst) rfl (gj_nm rfl) rfl (gj_kV fun S2 M2 h => ?_)
      obtain ⟨eS, eM⟩ := h; subst eS; subst eM
      refine gj_stp hF (fun M2 hF => ?_)
      refine gj_iconst (q := 53) (gj_dk okX11_part 30 rfl) (by decide) rfl ?_
      subst hF
      exact gj_zret (gj_dk okX11_part 31 rfl) rfl (by decide) ⟨_, rfl, (by decide), rfl, rfl, rfl⟩
    · -- 37
      replace hF := gj_ift c34 hF
      refine gj_aload_n (q := 38) (gj_dk okX11_part 21 rfl) rfl rfl ?_
      refine gj_iconst (q := 39) (gj_dk okX11_part 22 rfl) (by decide) rfl ?_
      refine gj_callV (q := 42) (z := 0) (ci := 9) [jI 2] rfl (t_X11_refuse hst 2 rfl) (gj_dk okX11_part 23 rfl) ml_X11_92 me_X11_refuse (sh0 hst) rfl (gj_nm rfl) rfl (gj_kI fun x S2 M2 h => ?_)
      obtain ⟨bz, e, eS, eM⟩ := h; subst eS; subst eM; subst e
      refine gj_stp2Z bz hF (fun x3 M4 bx3 hF => ?_)
      subst hF
      exact gj_zret (gj_dk okX11_part 24 rfl) rfl bx3 ⟨_, rfl, bx3, rfl, rfl, rfl⟩
  · -- 14
    replace hF := gj_ift c11 hF
    refine gj_aload_n (q := 15) (gj_dk okX11_part 8 rfl) rfl rfl ?_
    refine gj_iconst (q := 16) (gj_dk okX11_part 9 rfl) (by decide) rfl ?_
    refine gj_callV (q := 19) (z := 0) (ci := 9) [jI 0] rfl (t_X11_refuse hst 0 rfl) (gj_dk okX11_part 10 rfl) ml_X11_92 me_X11_refuse (sh0 hst) rfl (gj_nm rfl) rfl (gj_kI fun x S2 M2 h => ?_)
    obtain ⟨bz, e, eS, eM⟩ := h; subst eS; subst eM; subst e
    refine gj_stp2Z bz hF (fun x5 M6 bx5 hF => ?_)
    subst hF
    exact gj_zret (gj_dk okX11_part 11 rfl) rfl bx5 ⟨_, rfl, bx5, rfl, rfl, rfl⟩
def f_X1_size (M : gj_M) : Int :=
  (M 29 2)
set_option maxHeartbeats 4000000 in
set_option maxRecDepth 20000 in
theorem t_X1_size (hst : gj_Stat S) {r : Int} (hF : f_X1_size M = r) : gj_C G l 1 0 0 yX1_size cX1_size 1 (some .int) [jR 29] S M (gj_qI fun x S' M' => r = x ∧ S = S' ∧ M = M') := by
  refine gj_Cof (by decide +kernel) (Nat.le_of_ble_eq_true rfl) ?_
  change gj_W G l 1 0 0 yX1_size cX1_size 1 (some .int) (gj_qI fun x S' M' => r = x ∧ S = S' ∧ M = M') 0 0 0 [(0, jR 29)] [] S M
  unfold f_X1_size at hF
  refine gj_aload_n (q := 1) (gj_dk okX1_size 0 rfl) rfl rfl ?_
  refine gj_gI (q := 4) (j := 2) (gj_dk okX1_size 1 rfl) ff_X1_15 (sh29 hst) (by decide) rfl rfl ?_
  subst hF
  exact gj_iret (gj_dk okX1_size 2 rfl) rfl ⟨_, rfl, rfl, rfl, rfl⟩
def f_X1_tell (a1 : Int) (a2 : Int) (M : gj_M) : Int :=
  (if a1 < 0 then (-1) else (if M 29 2 ≤ a1 then (-1) else (if a2 < 0 then (-1) else (if a2 < 5 then (f_at M 30 200 (gj_w ((gj_w ((Int.tmod (gj_w ((M 29 1) + a1)) 40) * 5)) + a2))) else (-1)))))
set_option maxHeartbeats 4000000 in
set_option maxRecDepth 20000 in
theorem t_X1_tell (hst : gj_Stat S) (a1 a2 : Int) {r : Int} (hF : f_X1_tell a1 a2 M = r) : gj_C G l 2 0 0 yX1_tell cX1_tell 3 (some .int) [jR 29, jI a1, jI a2] S M (gj_qI fun x S' M' => r = x ∧ S = S' ∧ M = M') := by
  refine gj_Cof (by decide +kernel) (Nat.le_of_ble_eq_true rfl) ?_
  change gj_W G l 2 0 0 yX1_tell cX1_tell 3 (some .int) (gj_qI fun x S' M' => r = x ∧ S = S' ∧ M = M') 0 0 0 [(0, jR 29), (1, jI a1), (2, jI a2)] [] S M
  unfold f_X1_tell at hF
  refine gj_iload_n (q := 1) (gj_dk okX1_tell 0 rfl) rfl rfl ?_
  refine gj_if_lt (q := 4) (tgt := 21) (gj_dk okX1_tell 1 rfl) (by decide) rfl (fun c1 => ?_) (fun c1 => ?_)
  · -- 21
    replace hF := gj_ift c1 hF
    refine gj_iconst (q := 22) (gj_dk okX1_tell 11 rfl) (by decide) rfl ?_
    subst hF
    exact gj_iret (gj_dk okX1_tell 12 rfl) rfl ⟨_, rfl, rfl, rfl, rfl⟩
  · -- 4
    replace hF := gj_iff c1 hF
    refine gj_iload_n (q := 5) (gj_dk okX1_tell 2 rfl) rfl rfl ?_
    refine gj_aload_n (q := 6) (gj_dk okX1_tell 3 rfl) rfl rfl ?_
    refine gj_gI (q := 9) (j := 2) (gj_dk okX1_tell 4 rfl) ff_X1_15 (sh29 hst) (by decide) rfl rfl ?_
    refine gj_icmp_ge (q := 12) (tgt := 21) (gj_dk okX1_tell 5 rfl) (by decide) rfl (fun c9 => ?_) (fun c9 => ?_)
    · -- 21
      replace hF := gj_ift c9 hF
      refine gj_iconst (q := 22) (gj_dk okX1_tell 11 rfl) (by decide) rfl ?_
      subst hF
      exact gj_iret (gj_dk okX1_tell 12 rfl) rfl ⟨_, rfl, rfl, rfl, rfl⟩
    · -- 12
      replace hF := gj_iff c9 hF
      refine gj_iload_n (q := 13) (gj_dk okX1_tell 6 rfl) rfl rfl ?_
      refine gj_if_lt (q := 16) (tgt := 21) (gj_dk okX1_tell 7 rfl) (by decide) rfl (fun c13 => ?_) (fun c13 => ?_)
      · -- 21
        replace hF := gj_ift c13 hF
        refine gj_iconst (q := 22) (gj_dk okX1_tell 11 rfl) (by decide) rfl ?_
        subst hF
        exact gj_iret (gj_dk okX1_tell 12 rfl) rfl ⟨_, rfl, rfl, rfl, rfl⟩
      · -- 16
        replace hF := gj_iff c13 hF
        refine gj_iload_n (q := 17) (gj_dk okX1_tell 8 rfl) rfl rfl ?_
        refine gj_iconst (q := 18) (gj_dk okX1_tell 9 rfl) (by decide) rfl ?_
        refine gj_icmp_lt (q := 21) (tgt := 23) (gj_dk okX1_tell 10 rfl) (by decide) rfl (fun c18 => ?_) (fun c18 => ?_)
        · -- 23
          replace hF := gj_ift c18 hF
          refine gj_aload_n (q := 24) (gj_dk okX1_tell 13 rfl) rfl rfl ?_
          refine gj_gR (q := 27) (j := 0) (gj_dk okX1_tell 14 rfl) ff_X1_11 (sh29 hst) (by decide) rfl (rf29_0 hst) rfl ?_
          refine gj_aload_n (q := 28) (gj_dk okX1_tell 15 rfl) rfl rfl ?_
          refine gj_gI (q := 31) (j := 1) (gj_dk okX1_tell 16 rfl) ff_X1_19 (sh29 hst) (by decide) rfl rfl ?_
          refine gj_iload_n (q := 32) (gj_dk okX1_tell 17 rfl) rfl rfl ?_
          refine gj_iadd (q := 33) (gj_dk okX1_tell 18 rfl) rfl ?_
          refine gj_bipush (q := 35) (gj_dk okX1_tell 19 rfl) (by decide) rfl rfl ?_
          refine gj_irem (q := 36) (gj_dk okX1_tell 20 rfl) (by decide) rfl ?_
          refine gj_iconst (q := 37) (gj_dk okX1_tell 21 rfl) (by decide) rfl ?_
          refine gj_imul (q := 38) (gj_dk okX1_tell 22 rfl) rfl ?_
          refine gj_iload_n (q := 39) (gj_dk okX1_tell 23 rfl) rfl rfl ?_
          refine gj_iadd (q := 40) (gj_dk okX1_tell 24 rfl) rfl ?_
          refine gj_callS (q := 43) [jR 30, jI (gj_w ((gj_w ((Int.tmod (gj_w ((M 29 1) + a1)) 40) * 5)) + a2))] rfl (c_X7_at (sh30 hst) (by decide) (by decide) _) (gj_dk okX1_tell 25 rfl) ml_X1_32 me_X7_at (gj_nm rfl) rfl (gj_kI fun x S2 M2 h => ?_)
          obtain ⟨e, eS, eM⟩ := h; subst eS; subst eM; subst e
          subst hF
          exact gj_iret (gj_dk okX1_tell 26 rfl) rfl ⟨_, rfl, rfl, rfl, rfl⟩
        · -- 21
          replace hF := gj_iff c18 hF
          refine gj_iconst (q := 22) (gj_dk okX1_tell 11 rfl) (by decide) rfl ?_
          subst hF
          exact gj_iret (gj_dk okX1_tell 12 rfl) rfl ⟨_, rfl, rfl, rfl, rfl⟩
def f_X11_log (a1 : Int) (a2 : Int) (M : gj_M) : Int :=
  (if a1 = -1 then gj_letI (f_X1_size M) (fun x2 => (x2)) else gj_letI (f_X1_tell a1 a2 M) (fun x1 => (x1)))
set_option maxHeartbeats 4000000 in
set_option maxRecDepth 20000 in
theorem t_X11_log (hst : gj_Stat S) (a1 a2 : Int) {r : Int} (hF : f_X11_log a1 a2 M = r) : gj_C G l 3 0 0 yX11_log cX11_log 3 (some .int) [jR 0, jI a1, jI a2] S M (gj_qI fun x S' M' => r = x ∧ S = S' ∧ M = M') := by
  refine gj_Cof (by decide +kernel) (Nat.le_of_ble_eq_true rfl) ?_
  change gj_W G l 3 0 0 yX11_log cX11_log 3 (some .int) (gj_qI fun x S' M' => r = x ∧ S = S' ∧ M = M') 0 0 0 [(0, jR 0), (1, jI a1), (2, jI a2)] [] S M
  unfold f_X11_log at hF
  refine gj_iload_n (q := 1) (gj_dk okX11_log 0 rfl) rfl rfl ?_
  refine gj_iconst (q := 2) (gj_dk okX11_log 1 rfl) (by decide) rfl ?_
  refine gj_icmp_ne (q := 5) (tgt := 18) (gj_dk okX11_log 2 rfl) (by decide) rfl (fun c2 => ?_) (fun c2 => ?_)
  · -- 18
    replace hF := gj_iff c2 hF
    refine gj_aload_n (q := 19) (gj_dk okX11_log 8 rfl) rfl rfl ?_
    refine gj_gR (q := 22) (j := 4) (gj_dk okX11_log 9 rfl) ff_X11_38 (sh0 hst) (by decide) rfl (rf0_4 hst) rfl ?_
    refine gj_gR (q := 25) (j := 10) (gj_dk okX11_log 10 rfl) ff_X11_285 (sh21 hst) (by decide) rfl (rf21_10 hst) rfl ?_
    refine gj_iload_n (q := 26) (gj_dk okX11_log 11 rfl) rfl rfl ?_
    refine gj_iload_n (q := 27) (gj_dk okX11_log 12 rfl) rfl rfl ?_
    refine gj_callV (q := 30) (z := 29) (ci := 1) [jI a1, jI a2] rfl (t_X1_tell hst a1 a2 rfl) (gj_dk okX11_log 13 rfl) ml_X11_294 me_X1_tell (sh29 hst) rfl (gj_nm rfl) rfl (gj_kI fun x S2 M2 h => ?_)
    obtain ⟨e, eS, eM⟩ := h; subst eS; subst eM; subst e
    refine gj_stpI hF (fun x1 hF => ?_)
    subst hF
    exact gj_iret (gj_dk okX11_log 14 rfl) rfl ⟨_, rfl, rfl, rfl, rfl⟩
  · -- 5
    replace hF := gj_ift c2 hF
    refine gj_aload_n (q := 6) (gj_dk okX11_log 3 rfl) rfl rfl ?_
    refine gj_gR (q := 9) (j := 4) (gj_dk okX11_log 4 rfl) ff_X11_38 (sh0 hst) (by decide) rfl (rf0_4 hst) rfl ?_
    refine gj_gR (q := 12) (j := 10) (gj_dk okX11_log 5 rfl) ff_X11_285 (sh21 hst) (by decide) rfl (rf21_10 hst) rfl ?_
    refine gj_callV (q := 15) (z := 29) (ci := 1) [] rfl (t_X1_size hst  rfl) (gj_dk okX11_log 6 rfl) ml_X11_289 me_X1_size (sh29 hst) rfl (gj_nm rfl) rfl (gj_kI fun x S2 M2 h => ?_)
    obtain ⟨e, eS, eM⟩ := h; subst eS; subst eM; subst e
    refine gj_stpI hF (fun x2 hF => ?_)
    refine gj_goto (tgt := 30) (gj_dk okX11_log 7 rfl) (by decide) ?_
    subst hF
    exact gj_iret (gj_dk okX11_log 14 rfl) rfl ⟨_, rfl, rfl, rfl, rfl⟩
def f_X2_isBetter (a1 : Int) (a2 : Int) (M : gj_M) : Int :=
  (if f_at M 22 8 a1 = -1 then (1) else gj_letI (f_X2_soonerOf a1 a2 (f_at M 22 8 a1) M) (fun x1 => (if x1 = 0 then (0) else (1))))
set_option maxHeartbeats 4000000 in
set_option maxRecDepth 20000 in
theorem t_X2_isBetter (hst : gj_Stat S) (a1 a2 : Int) {r : Int} (hF : f_X2_isBetter a1 a2 M = r) : gj_C G l 4 0 0 yX2_isBetter cX2_isBetter 4 (some .boolean) [jR 35, jI a1, jI a2] S M (gj_qI fun x S' M' => (x = 0 ∨ x = 1) ∧ r = x ∧ S = S' ∧ M = M') := by
  refine gj_Cof (by decide +kernel) (Nat.le_of_ble_eq_true rfl) ?_
  change gj_W G l 4 0 0 yX2_isBetter cX2_isBetter 4 (some .boolean) (gj_qI fun x S' M' => (x = 0 ∨ x = 1) ∧ r = x ∧ S = S' ∧ M = M') 0 0 0 [(0, jR 35), (1, jI a1), (2, jI a2)] [] S M
  unfold f_X2_isBetter at hF
  refine gj_aload_n (q := 1) (gj_dk okX2_isBetter 0 rfl) rfl rfl ?_
  refine gj_gR (q := 4) (j := 1) (gj_dk okX2_isBetter 1 rfl) ff_X2_32 (sh35 hst) (by decide) rfl (rf35_1 hst) rfl ?_
  refine gj_gR (q := 7) (j := 3) (gj_dk okX2_isBetter 2 rfl) ff_X2_36 (sh21 hst) (by decide) rfl (rf21_3 hst) rfl ?_
  refine gj_iload_n (q := 8) (gj_dk okX2_isBetter 3 rfl) rfl rfl ?_
  refine gj_callS (q := 11) [jR 22, jI a1] rfl (c_X7_at (sh22 hst) (by decide) (by decide) _) (gj_dk okX2_isBetter 4 rfl) ml_X2_39 me_X7_at (gj_nm rfl) rfl (gj_kI fun x S2 M2 h => ?_)
  obtain ⟨e, eS, eM⟩ := h; subst eS; subst eM; subst e
  refine gj_istore_n (q := 12) (gj_dk okX2_isBetter 5 rfl) (by decide) rfl ?_
  refine gj_iload_n (q := 13) (gj_dk okX2_isBetter 6 rfl) rfl rfl ?_
  refine gj_iconst (q := 14) (gj_dk okX2_isBetter 7 rfl) (by decide) rfl ?_
  refine gj_icmp_eq (q := 17) (tgt := 27) (gj_dk okX2_isBetter 8 rfl) (by decide) rfl (fun c14 => ?_) (fun c14 => ?_)
  · -- 27
    replace hF := gj_ift c14 hF
    refine gj_iconst (q := 28) (gj_dk okX2_isBetter 15 rfl) (by decide) rfl ?_
    refine gj_goto (tgt := 32) (gj_dk okX2_isBetter 16 rfl) (by decide) ?_
    subst hF
    exact gj_zret (gj_dk okX2_isBetter 18 rfl) rfl (by decide) ⟨_, rfl, (by decide), rfl, rfl, rfl⟩
  · -- 17
    replace hF := gj_iff c14 hF
    refine gj_aload_n (q := 18) (gj_dk okX2_isBetter 9 rfl) rfl rfl ?_
    refine gj_iload_n (q := 19) (gj_dk okX2_isBetter 10 rfl) rfl rfl ?_
    refine gj_iload_n (q := 20) (gj_dk okX2_isBetter 11 rfl) rfl rfl ?_
    refine gj_iload_n (q := 21) (gj_dk okX2_isBetter 12 rfl) rfl rfl ?_
    refine gj_callV (q := 24) (z := 35) (ci := 2) [jI a1, jI a2, jI (f_at M 22 8 a1)] rfl (t_X2_soonerOf hst a1 a2 (f_at M 22 8 a1) rfl) (gj_dk okX2_isBetter 13 rfl) ml_X2_107 me_X2_soonerOf (sh35 hst) rfl (gj_nm rfl) rfl (gj_kI fun x S2 M2 h => ?_)
    obtain ⟨bz, e, eS, eM⟩ := h; subst eS; subst eM; subst e
    refine gj_stpZ bz hF (fun x1 bx1 hF => ?_)
    refine gj_if_eq (q := 27) (tgt := 31) (gj_dk okX2_isBetter 14 rfl) (by decide) rfl (fun c24 => ?_) (fun c24 => ?_)
    · -- 31
      replace hF := gj_ift c24 hF
      refine gj_iconst (q := 32) (gj_dk okX2_isBetter 17 rfl) (by decide) rfl ?_
      subst hF
      exact gj_zret (gj_dk okX2_isBetter 18 rfl) rfl (by decide) ⟨_, rfl, (by decide), rfl, rfl, rfl⟩
    · -- 27
      replace hF := gj_iff c24 hF
      refine gj_iconst (q := 28) (gj_dk okX2_isBetter 15 rfl) (by decide) rfl ?_
      refine gj_goto (tgt := 32) (gj_dk okX2_isBetter 16 rfl) (by decide) ?_
      subst hF
      exact gj_zret (gj_dk okX2_isBetter 18 rfl) rfl (by decide) ⟨_, rfl, (by decide), rfl, rfl, rfl⟩
def f_X2_wouldSooner (a1 : Int) (a2 : Int) (M : gj_M) : Int :=
  (if f_at M 37 16 (f_cpl a1 a2) = 0 then (0) else gj_letI (f_X3_arePair a1 a2 M) (fun x1 => (if x1 = 0 then gj_letI (f_X2_isBetter a1 a2 M) (fun x2 => (if x2 = 0 then (0) else gj_letI (f_X2_isBetter a2 a1 M) (fun x3 => (if x3 = 0 then (0) else (1))))) else (0))))
set_option maxHeartbeats 4000000 in
set_option maxRecDepth 20000 in
theorem t_X2_wouldSooner (hst : gj_Stat S) (a1 a2 : Int) {r : Int} (hF : f_X2_wouldSooner a1 a2 M = r) : gj_C G l 5 0 0 yX2_wouldSooner cX2_wouldSooner 3 (some .boolean) [jR 35, jI a1, jI a2] S M (gj_qI fun x S' M' => (x = 0 ∨ x = 1) ∧ r = x ∧ S = S' ∧ M = M') := by
  refine gj_Cof (by decide +kernel) (Nat.le_of_ble_eq_true rfl) ?_
  change gj_W G l 5 0 0 yX2_wouldSooner cX2_wouldSooner 3 (some .boolean) (gj_qI fun x S' M' => (x = 0 ∨ x = 1) ∧ r = x ∧ S = S' ∧ M = M') 0 0 0 [(0, jR 35), (1, jI a1), (2, jI a2)] [] S M
  unfold f_X2_wouldSooner at hF
  refine gj_aload_n (q := 1) (gj_dk okX2_wouldSooner 0 rfl) rfl rfl ?_
  refine gj_gR (q := 4) (j := 3) (gj_dk okX2_wouldSooner 1 rfl) ff_X2_15 (sh35 hst) (by decide) rfl (rf35_3 hst) rfl ?_
  refine gj_iload_n (q := 5) (gj_dk okX2_wouldSooner 2 rfl) rfl rfl ?_
  refine gj_iload_n (q := 6) (gj_dk okX2_wouldSooner 3 rfl) rfl rfl ?_
  refine gj_callS (q := 9) [jI a1, jI a2] rfl (c_X10_couple _ _) (gj_dk okX2_wouldSooner 4 rfl) ml_X2_69 me_X10_couple (gj_nm rfl) rfl (gj_kI fun x S2 M2 h => ?_)
  obtain ⟨e, eS, eM⟩ := h; subst eS; subst eM; subst e
  refine gj_callS (q := 12) [jR 37, jI (f_cpl a1 a2)] rfl (c_X7_is (sh37 hst) (by decide) (by decide) _) (gj_dk okX2_wouldSooner 5 rfl) ml_X2_97 me_X7_is (gj_nm rfl) rfl (gj_kI fun x S2 M2 h => ?_)
  obtain ⟨e, eS, eM⟩ := h; subst eS; subst eM; subst e
  refine gj_if_eq (q := 15) (tgt := 49) (gj_dk okX2_wouldSooner 6 rfl) (by decide) rfl (fun c12 => ?_) (fun c12 => ?_)
  · -- 49
    replace hF := gj_ift c12 hF
    refine gj_iconst (q := 50) (gj_dk okX2_wouldSooner 25 rfl) (by decide) rfl ?_
    subst hF
    exact gj_zret (gj_dk okX2_wouldSooner 26 rfl) rfl (by decide) ⟨_, rfl, (by decide), rfl, rfl, rfl⟩
  · -- 15
    replace hF := gj_iff c12 hF
    refine gj_aload_n (q := 16) (gj_dk okX2_wouldSooner 7 rfl) rfl rfl ?_
    refine gj_gR (q := 19) (j := 1) (gj_dk okX2_wouldSooner 8 rfl) ff_X2_32 (sh35 hst) (by decide) rfl (rf35_1 hst) rfl ?_
    refine gj_iload_n (q := 20) (gj_dk okX2_wouldSooner 9 rfl) rfl rfl ?_
    refine gj_iload_n (q := 21) (gj_dk okX2_wouldSooner 10 rfl) rfl rfl ?_
    refine gj_callV (q := 24) (z := 21) (ci := 3) [jI a1, jI a2] rfl (t_X3_arePair hst a1 a2 rfl) (gj_dk okX2_wouldSooner 11 rfl) ml_X2_101 me_X3_arePair (sh21 hst) rfl (gj_nm rfl) rfl (gj_kI fun x S2 M2 h => ?_)
    obtain ⟨bz, e, eS, eM⟩ := h; subst eS; subst eM; subst e
    refine gj_stpZ bz hF (fun x1 bx1 hF => ?_)
    refine gj_if_ne (q := 27) (tgt := 49) (gj_dk okX2_wouldSooner 12 rfl) (by decide) rfl (fun c24 => ?_) (fun c24 => ?_)
    · -- 49
      replace hF := gj_iff c24 hF
      refine gj_iconst (q := 50) (gj_dk okX2_wouldSooner 25 rfl) (by decide) rfl ?_
      subst hF
      exact gj_zret (gj_dk okX2_wouldSooner 26 rfl) rfl (by decide) ⟨_, rfl, (by decide), rfl, rfl, rfl⟩
    · -- 27
      replace hF := gj_ift c24 hF
      refine gj_aload_n (q := 28) (gj_dk okX2_wouldSooner 13 rfl) rfl rfl ?_
      refine gj_iload_n (q := 29) (gj_dk okX2_wouldSooner 14 rfl) rfl rfl ?_
      refine gj_iload_n (q := 30) (gj_dk okX2_wouldSooner 15 rfl) rfl rfl ?_
      refine gj_callV (q := 33) (z := 35) (ci := 2) [jI a1, jI a2] rfl (t_X2_isBetter hst a1 a2 rfl) (gj_dk okX2_wouldSooner 16 rfl) ml_X2_104 me_X2_isBetter (sh35 hst) rfl (gj_nm rfl) rfl (gj_kI fun x S2 M2 h => ?_)
      obtain ⟨bz, e, eS, eM⟩ := h; subst eS; subst eM; subst e
      refine gj_stpZ bz hF (fun x2 bx2 hF => ?_)
      refine gj_if_eq (q := 36) (tgt := 49) (gj_dk okX2_wouldSooner 17 rfl) (by decide) rfl (fun c33 => ?_) (fun c33 => ?_)
      · -- 49
        replace hF := gj_ift c33 hF
        refine gj_iconst (q := 50) (gj_dk okX2_wouldSooner 25 rfl) (by decide) rfl ?_
        subst hF
        exact gj_zret (gj_dk okX2_wouldSooner 26 rfl) rfl (by decide) ⟨_, rfl, (by decide), rfl, rfl, rfl⟩
      · -- 36
        replace hF := gj_iff c33 hF
        refine gj_aload_n (q := 37) (gj_dk okX2_wouldSooner 18 rfl) rfl rfl ?_
        refine gj_iload_n (q := 38) (gj_dk okX2_wouldSooner 19 rfl) rfl rfl ?_
        refine gj_iload_n (q := 39) (gj_dk okX2_wouldSooner 20 rfl) rfl rfl ?_
        refine gj_callV (q := 42) (z := 35) (ci := 2) [jI a2, jI a1] rfl (t_X2_isBetter hst a2 a1 rfl) (gj_dk okX2_wouldSooner 21 rfl) ml_X2_104 me_X2_isBetter (sh35 hst) rfl (gj_nm rfl) rfl (gj_kI fun x S2 M2 h => ?_)
        obtain ⟨bz, e, eS, eM⟩ := h; subst eS; subst eM; subst e
        refine gj_stpZ bz hF (fun x3 bx3 hF => ?_)
        refine gj_if_eq (q := 45) (tgt := 49) (gj_dk okX2_wouldSooner 22 rfl) (by decide) rfl (fun c42 => ?_) (fun c42 => ?_)
        · -- 49
          replace hF := gj_ift c42 hF
          refine gj_iconst (q := 50) (gj_dk okX2_wouldSooner 25 rfl) (by decide) rfl ?_
          subst hF
          exact gj_zret (gj_dk okX2_wouldSooner 26 rfl) rfl (by decide) ⟨_, rfl, (by decide), rfl, rfl, rfl⟩
        · -- 45
          replace hF := gj_iff c42 hF
          refine gj_iconst (q := 46) (gj_dk okX2_wouldSooner 23 rfl) (by decide) rfl ?_
          refine gj_goto (tgt := 50) (gj_dk okX2_wouldSooner 24 rfl) (by decide) ?_
          subst hF
          exact gj_zret (gj_dk okX2_wouldSooner 26 rfl) rfl (by decide) ⟨_, rfl, (by decide), rfl, rfl, rfl⟩
def J_X11_blocks_87 (l1 l2 : Int) (M : gj_M) : Option (Int × gj_M) :=
  (if l1 = -1 then (some ((l2, M))) else (some ((-1, M))))
def J_X11_blocks_81 (rec12 : Int → Int → Int → gj_M → Option (Int × gj_M)) (l1 l2 l3 : Int) (M : gj_M) : Option (Int × gj_M) :=
  rec12 l1 l2 (gj_w (l3 + 1)) M
def J_X11_blocks_61 (l3 l4 : Int) (M : gj_M) : Option (Int × gj_M) :=
  (some ((gj_w ((gj_w ((gj_w (l3 * 100)) + 10)) + l4), M)))
def B_X11_blocks_26 (rec12 : Int → Int → Int → gj_M → Option (Int × gj_M)) (rec26 : Int → Int → Int → Int → gj_M → Option (Int × gj_M)) (l1 l2 l3 l4 : Int) (M : gj_M) : Option (Int × gj_M) :=
  (if M 14 1 ≤ l4 then (J_X11_blocks_81 rec12 l1 l2 l3 M) else gj_letI (f_X2_wouldSooner l3 (gj_w (4 + l4)) M) (fun x3 => (if x3 = 0 then rec26 l1 l2 l3 (gj_w (l4 + 1)) M else (if l2 = l1 then (J_X11_blocks_61 l3 l4 M) else rec26 l1 (gj_w (l2 + 1)) l3 (gj_w (l4 + 1)) M))))
def B_X11_blocks_12 (rec12 : Int → Int → Int → gj_M → Option (Int × gj_M)) (l1 l2 l3 : Int) (M : gj_M) : Option (Int × gj_M) :=
  (if M 14 0 ≤ l3 then (J_X11_blocks_87 l1 l2 M) else (gj_it (fun _ _ _ _ _ => none) (B_X11_blocks_26 rec12) gj_fu l1 l2 l3 0 M))
def F_X11_blocks (a1 : Int) (M : gj_M) : Option (Int × gj_M) :=
  gj_bnd (F_X2_look 1 M) (fun M2 => (gj_it (fun _ _ _ _ => none) (B_X11_blocks_12) gj_fu a1 0 0 M2))
set_option maxHeartbeats 4000000 in
set_option maxRecDepth 20000 in
theorem t_J_X11_blocks_87 (hst : gj_Stat S) {r : Int × gj_M} (l1 l2 : Int) (M : gj_M) (hF : J_X11_blocks_87 l1 l2 M = some r) : gj_W G l 6 0 0 yX11_blocks cX11_blocks 5 (some .int) (gj_qI fun x S' M' => r.1 = x ∧ S = S' ∧ r.2 = M') 0 0 87 [(1, jI l1), (2, jI l2)] [] S M := by
  unfold J_X11_blocks_87 at hF
  refine gj_iload_n (q := 88) (gj_dk okX11_blocks 45 rfl) rfl rfl ?_
  refine gj_iconst (q := 89) (gj_dk okX11_blocks 46 rfl) (by decide) rfl ?_
  refine gj_icmp_ne (q := 92) (tgt := 96) (gj_dk okX11_blocks 47 rfl) (by decide) rfl (fun c89 => ?_) (fun c89 => ?_)
  · -- 96
    replace hF := gj_iff c89 hF
    refine gj_iconst (q := 97) (gj_dk okX11_blocks 50 rfl) (by decide) rfl ?_
    cases hF
    exact gj_iret (gj_dk okX11_blocks 51 rfl) rfl ⟨_, rfl, rfl, rfl, rfl⟩
  · -- 92
    replace hF := gj_ift c89 hF
    refine gj_iload_n (q := 93) (gj_dk okX11_blocks 48 rfl) rfl rfl ?_
    refine gj_goto (tgt := 97) (gj_dk okX11_blocks 49 rfl) (by decide) ?_
    cases hF
    exact gj_iret (gj_dk okX11_blocks 51 rfl) rfl ⟨_, rfl, rfl, rfl, rfl⟩
set_option maxHeartbeats 4000000 in
set_option maxRecDepth 20000 in
theorem t_J_X11_blocks_81 (hst : gj_Stat S) {r : Int × gj_M} {rec12 : Int → Int → Int → gj_M → Option (Int × gj_M)} (hrec12 : ∀ (l1 l2 l3 : Int) (M : gj_M), rec12 l1 l2 l3 M = some r → gj_W G l 6 0 0 yX11_blocks cX11_blocks 5 (some .int) (gj_qI fun x S' M' => r.1 = x ∧ S = S' ∧ r.2 = M') 0 0 12 [(0, jR 0), (1, jI l1), (2, jI l2), (3, jI l3)] [] S M) (l1 l2 l3 : Int) (M : gj_M) (hF : J_X11_blocks_81 rec12 l1 l2 l3 M = some r) : gj_W G l 6 0 0 yX11_blocks cX11_blocks 5 (some .int) (gj_qI fun x S' M' => r.1 = x ∧ S = S' ∧ r.2 = M') 0 0 81 [(0, jR 0), (1, jI l1), (2, jI l2), (3, jI l3)] [] S M := by
  unfold J_X11_blocks_81 at hF
  refine gj_iinc (q := 84) (v := gj_w (l3 + 1)) (gj_dk okX11_blocks 43 rfl) rfl (by decide) rfl rfl ?_
  refine gj_goto (tgt := 12) (gj_dk okX11_blocks 44 rfl) (by decide) ?_
  refine gj_sub [(0, jR 0), (1, jI l1), (2, jI l2), (3, jI (gj_w (l3 + 1)))] ⟨rfl, rfl, rfl, rfl, trivial⟩ ?_
  exact hrec12 l1 l2 (gj_w (l3 + 1)) M hF
set_option maxHeartbeats 4000000 in
set_option maxRecDepth 20000 in
theorem t_J_X11_blocks_61 (hst : gj_Stat S) {r : Int × gj_M} (l3 l4 : Int) (M : gj_M) (hF : J_X11_blocks_61 l3 l4 M = some r) : gj_W G l 6 0 0 yX11_blocks cX11_blocks 5 (some .int) (gj_qI fun x S' M' => r.1 = x ∧ S = S' ∧ r.2 = M') 0 0 61 [(3, jI l3), (4, jI l4)] [] S M := by
  unfold J_X11_blocks_61 at hF
  refine gj_iload_n (q := 62) (gj_dk okX11_blocks 32 rfl) rfl rfl ?_
  refine gj_bipush (q := 64) (gj_dk okX11_blocks 33 rfl) (by decide) rfl rfl ?_
  refine gj_imul (q := 65) (gj_dk okX11_blocks 34 rfl) rfl ?_
  refine gj_bipush (q := 67) (gj_dk okX11_blocks 35 rfl) (by decide) rfl rfl ?_
  refine gj_iadd (q := 68) (gj_dk okX11_blocks 36 rfl) rfl ?_
  refine gj_iload (q := 70) (gj_dk okX11_blocks 37 rfl) rfl rfl ?_
  refine gj_iadd (q := 71) (gj_dk okX11_blocks 38 rfl) rfl ?_
  cases hF
  exact gj_iret (gj_dk okX11_blocks 39 rfl) rfl ⟨_, rfl, rfl, rfl, rfl⟩
set_option maxHeartbeats 4000000 in
set_option maxRecDepth 20000 in
theorem t_B_X11_blocks_26 (hst : gj_Stat S) {r : Int × gj_M} {rec12 : Int → Int → Int → gj_M → Option (Int × gj_M)} {rec26 : Int → Int → Int → Int → gj_M → Option (Int × gj_M)} (hrec12 : ∀ (l1 l2 l3 : Int) (M : gj_M), rec12 l1 l2 l3 M = some r → gj_W G l 6 0 0 yX11_blocks cX11_blocks 5 (some .int) (gj_qI fun x S' M' => r.1 = x ∧ S = S' ∧ r.2 = M') 0 0 12 [(0, jR 0), (1, jI l1), (2, jI l2), (3, jI l3)] [] S M) (hrec26 : ∀ (l1 l2 l3 l4 : Int) (M : gj_M), rec26 l1 l2 l3 l4 M = some r → gj_W G l 6 0 0 yX11_blocks cX11_blocks 5 (some .int) (gj_qI fun x S' M' => r.1 = x ∧ S = S' ∧ r.2 = M') 0 0 26 [(0, jR 0), (1, jI l1), (2, jI l2), (3, jI l3), (4, jI l4)] [] S M) (l1 l2 l3 l4 : Int) (M : gj_M) (hF : B_X11_blocks_26 rec12 rec26 l1 l2 l3 l4 M = some r) : gj_W G l 6 0 0 yX11_blocks cX11_blocks 5 (some .int) (gj_qI fun x S' M' => r.1 = x ∧ S = S' ∧ r.2 = M') 0 0 26 [(0, jR 0), (1, jI l1), (2, jI l2), (3, jI l3), (4, jI l4)] [] S M := by
  unfold B_X11_blocks_26 at hF
  refine gj_iload (q := 28) (gj_dk okX11_blocks 15 rfl) rfl rfl ?_
  refine gj_aload_n (q := 29) (gj_dk okX11_blocks 16 rfl) rfl rfl ?_
  refine gj_gR (q := 32) (j := 3) (gj_dk okX11_blocks 17 rfl) ff_X11_32 (sh0 hst) (by decide) rfl (rf0_3 hst) rfl ?_
  refine gj_gI (q := 35) (j := 1) (gj_dk okX11_blocks 18 rfl) ff_X11_128 (sh14 hst) (by decide) rfl rfl ?_
  refine gj_icmp_ge (q := 38) (tgt := 81) (gj_dk okX11_blocks 19 rfl) (by decide) rfl (fun c35 => ?_) (fun c35 => ?_)
  · -- 81
    replace hF := gj_ift c35 hF
    refine gj_sub [(0, jR 0), (1, jI l1), (2, jI l2), (3, jI l3)] ⟨rfl, rfl, rfl, rfl, trivial⟩ ?_
    exact t_J_X11_blocks_81 hst hrec12 l1 l2 l3 M hF
  · -- 38
    replace hF := gj_iff c35 hF
    refine gj_aload_n (q := 39) (gj_dk okX11_blocks 20 rfl) rfl rfl ?_
    refine gj_gR (q := 42) (j := 6) (gj_dk okX11_blocks 21 rfl) ff_X11_54 (sh0 hst) (by decide) rfl (rf0_6 hst) rfl ?_
    refine gj_iload_n (q := 43) (gj_dk okX11_blocks 22 rfl) rfl rfl ?_
    refine gj_iconst (q := 44) (gj_dk okX11_blocks 23 rfl) (by decide) rfl ?_
    refine gj_iload (q := 46) (gj_dk okX11_blocks 24 rfl) rfl rfl ?_
    refine gj_iadd (q := 47) (gj_dk okX11_blocks 25 rfl) rfl ?_
    refine gj_callV (q := 50) (z := 35) (ci := 2) [jI l3, jI (gj_w (4 + l4))] rfl (t_X2_wouldSooner hst l3 (gj_w (4 + l4)) rfl) (gj_dk okX11_blocks 26 rfl) ml_X11_297 me_X2_wouldSooner (sh35 hst) rfl (gj_nm rfl) rfl (gj_kI fun x S2 M2 h => ?_)
    obtain ⟨bz, e, eS, eM⟩ := h; subst eS; subst eM; subst e
    refine gj_stpZ bz hF (fun x3 bx3 hF => ?_)
    refine gj_if_ne (q := 53) (tgt := 56) (gj_dk okX11_blocks 27 rfl) (by decide) rfl (fun c50 => ?_) (fun c50 => ?_)
    · -- 56
      replace hF := gj_iff c50 hF
      refine gj_iload_n (q := 57) (gj_dk okX11_blocks 29 rfl) rfl rfl ?_
      refine gj_iload_n (q := 58) (gj_dk okX11_blocks 30 rfl) rfl rfl ?_
      refine gj_icmp_ne (q := 61) (tgt := 72) (gj_dk okX11_blocks 31 rfl) (by decide) rfl (fun c58 => ?_) (fun c58 => ?_)
      · -- 72
        replace hF := gj_iff c58 hF
        refine gj_iinc (q := 75) (v := gj_w (l2 + 1)) (gj_dk okX11_blocks 40 rfl) rfl (by decide) rfl rfl ?_
        refine gj_iinc (q := 78) (v := gj_w (l4 + 1)) (gj_dk okX11_blocks 41 rfl) rfl (by decide) rfl rfl ?_
        refine gj_goto (tgt := 26) (gj_dk okX11_blocks 42 rfl) (by decide) ?_
        refine gj_sub [(0, jR 0), (1, jI l1), (2, jI (gj_w (l2 + 1))), (3, jI l3), (4, jI (gj_w (l4 + 1)))] ⟨rfl, rfl, rfl, rfl, rfl, trivial⟩ ?_
        exact hrec26 l1 (gj_w (l2 + 1)) l3 (gj_w (l4 + 1)) M hF
      · -- 61
        replace hF := gj_ift c58 hF
        refine gj_sub [(3, jI l3), (4, jI l4)] ⟨rfl, rfl, trivial⟩ ?_
        exact t_J_X11_blocks_61 hst l3 l4 M hF
    · -- 53
      replace hF := gj_ift c50 hF
      refine gj_goto (tgt := 75) (gj_dk okX11_blocks 28 rfl) (by decide) ?_
      refine gj_iinc (q := 78) (v := gj_w (l4 + 1)) (gj_dk okX11_blocks 41 rfl) rfl (by decide) rfl rfl ?_
      refine gj_goto (tgt := 26) (gj_dk okX11_blocks 42 rfl) (by decide) ?_
      refine gj_sub [(0, jR 0), (1, jI l1), (2, jI l2), (3, jI l3), (4, jI (gj_w (l4 + 1)))] ⟨rfl, rfl, rfl, rfl, rfl, trivial⟩ ?_
      exact hrec26 l1 l2 l3 (gj_w (l4 + 1)) M hF
theorem t_L_X11_blocks_26 (hst : gj_Stat S) {r : Int × gj_M} {rec12 : Int → Int → Int → gj_M → Option (Int × gj_M)} (hrec12 : ∀ (l1 l2 l3 : Int) (M : gj_M), rec12 l1 l2 l3 M = some r → gj_W G l 6 0 0 yX11_blocks cX11_blocks 5 (some .int) (gj_qI fun x S' M' => r.1 = x ∧ S = S' ∧ r.2 = M') 0 0 12 [(0, jR 0), (1, jI l1), (2, jI l2), (3, jI l3)] [] S M) : ∀ (m : Nat) (l1 : Int) (l2 : Int) (l3 : Int) (l4 : Int) (M : gj_M), gj_it (fun _ _ _ _ _ => none) (B_X11_blocks_26 rec12) m l1 l2 l3 l4 M = some r → gj_W G l 6 0 0 yX11_blocks cX11_blocks 5 (some .int) (gj_qI fun x S' M' => r.1 = x ∧ S = S' ∧ r.2 = M') 0 0 26 [(0, jR 0), (1, jI l1), (2, jI l2), (3, jI l3), (4, jI l4)] [] S M := by
  intro m
  induction m with
  | zero => intro l1 l2 l3 l4 M hF; cases (show (none : Option (Int × gj_M)) = some r from hF)
  | succ m ih => intro l1 l2 l3 l4 M hF; exact t_B_X11_blocks_26 hst hrec12 (fun l1 l2 l3 l4 M h => ih l1 l2 l3 l4 M h) l1 l2 l3 l4 M hF
set_option maxHeartbeats 4000000 in
set_option maxRecDepth 20000 in
theorem t_B_X11_blocks_12 (hst : gj_Stat S) {r : Int × gj_M} {rec12 : Int → Int → Int → gj_M → Option (Int × gj_M)} (hrec12 : ∀ (l1 l2 l3 : Int) (M : gj_M), rec12 l1 l2 l3 M = some r → gj_W G l 6 0 0 yX11_blocks cX11_blocks 5 (some .int) (gj_qI fun x S' M' => r.1 = x ∧ S = S' ∧ r.2 = M') 0 0 12 [(0, jR 0), (1, jI l1), (2, jI l2), (3, jI l3)] [] S M) (l1 l2 l3 : Int) (M : gj_M) (hF : B_X11_blocks_12 rec12 l1 l2 l3 M = some r) : gj_W G l 6 0 0 yX11_blocks cX11_blocks 5 (some .int) (gj_qI fun x S' M' => r.1 = x ∧ S = S' ∧ r.2 = M') 0 0 12 [(0, jR 0), (1, jI l1), (2, jI l2), (3, jI l3)] [] S M := by
  unfold B_X11_blocks_12 at hF
  refine gj_iload_n (q := 13) (gj_dk okX11_blocks 8 rfl) rfl rfl ?_
  refine gj_aload_n (q := 14) (gj_dk okX11_blocks 9 rfl) rfl rfl ?_
  refine gj_gR (q := 17) (j := 3) (gj_dk okX11_blocks 10 rfl) ff_X11_32 (sh0 hst) (by decide) rfl (rf0_3 hst) rfl ?_
  refine gj_gI (q := 20) (j := 0) (gj_dk okX11_blocks 11 rfl) ff_X11_124 (sh14 hst) (by decide) rfl rfl ?_
  refine gj_icmp_ge (q := 23) (tgt := 87) (gj_dk okX11_blocks 12 rfl) (by decide) rfl (fun c20 => ?_) (fun c20 => ?_)
  · -- 87
    replace hF := gj_ift c20 hF
    refine gj_sub [(1, jI l1), (2, jI l2)] ⟨rfl, rfl, trivial⟩ ?_
    exact t_J_X11_blocks_87 hst l1 l2 M hF
  · -- 23
    replace hF := gj_iff c20 hF
    refine gj_iconst (q := 24) (gj_dk okX11_blocks 13 rfl) (by decide) rfl ?_
    refine gj_istore (q := 26) (gj_dk okX11_blocks 14 rfl) (by decide) rfl ?_
    refine gj_sub [(0, jR 0), (1, jI l1), (2, jI l2), (3, jI l3), (4, jI 0)] ⟨rfl, rfl, rfl, rfl, rfl, trivial⟩ ?_
    exact t_L_X11_blocks_26 hst hrec12 gj_fu l1 l2 l3 0 M hF
theorem t_L_X11_blocks_12 (hst : gj_Stat S) {r : Int × gj_M} : ∀ (m : Nat) (l1 : Int) (l2 : Int) (l3 : Int) (M : gj_M), gj_it (fun _ _ _ _ => none) (B_X11_blocks_12) m l1 l2 l3 M = some r → gj_W G l 6 0 0 yX11_blocks cX11_blocks 5 (some .int) (gj_qI fun x S' M' => r.1 = x ∧ S = S' ∧ r.2 = M') 0 0 12 [(0, jR 0), (1, jI l1), (2, jI l2), (3, jI l3)] [] S M := by
  intro m
  induction m with
  | zero => intro l1 l2 l3 M hF; cases (show (none : Option (Int × gj_M)) = some r from hF)
  | succ m ih => intro l1 l2 l3 M hF; exact t_B_X11_blocks_12 hst (fun l1 l2 l3 M h => ih l1 l2 l3 M h) l1 l2 l3 M hF
set_option maxHeartbeats 4000000 in
set_option maxRecDepth 20000 in
theorem t_X11_blocks (hst : gj_Stat S) (a1 : Int) {r : Int × gj_M} (hF : F_X11_blocks a1 M = some r) : gj_C G l 6 0 0 yX11_blocks cX11_blocks 5 (some .int) [jR 0, jI a1] S M (gj_qI fun x S' M' => r.1 = x ∧ S = S' ∧ r.2 = M') := by
  refine gj_Cof (by decide +kernel) (Nat.le_of_ble_eq_true rfl) ?_
  change gj_W G l 6 0 0 yX11_blocks cX11_blocks 5 (some .int) (gj_qI fun x S' M' => r.1 = x ∧ S = S' ∧ r.2 = M') 0 0 0 [(0, jR 0), (1, jI a1)] [] S M
  unfold F_X11_blocks at hF
  refine gj_aload_n (q := 1) (gj_dk okX11_blocks 0 rfl) rfl rfl ?_
  refine gj_gR (q := 4) (j := 6) (gj_dk okX11_blocks 1 rfl) ff_X11_54 (sh0 hst) (by decide) rfl (rf0_6 hst) rfl ?_
  refine gj_iconst (q := 5) (gj_dk okX11_blocks 2 rfl) (by decide) rfl ?_
  obtain ⟨M2, hG, hF⟩ := gj_bndd hF
  refine gj_callV (q := 8) (z := 35) (ci := 2) [jI 1] rfl (t_X2_look hst 1 hG) (gj_dk okX11_blocks 3 rfl) ml_X11_206 me_X2_look (sh35 hst) rfl (gj_nm rfl) rfl (gj_kV fun S2 M2 h => ?_)
  obtain ⟨eS, eM⟩ := h; subst eS; subst eM; clear hG
  refine gj_iconst (q := 9) (gj_dk okX11_blocks 4 rfl) (by decide) rfl ?_
  refine gj_istore_n (q := 10) (gj_dk okX11_blocks 5 rfl) (by decide) rfl ?_
  refine gj_iconst (q := 11) (gj_dk okX11_blocks 6 rfl) (by decide) rfl ?_
  refine gj_istore_n (q := 12) (gj_dk okX11_blocks 7 rfl) (by decide) rfl ?_
  refine gj_sub [(0, jR 0), (1, jI a1), (2, jI 0), (3, jI 0)] ⟨rfl, rfl, rfl, rfl, trivial⟩ ?_
  exact t_L_X11_blocks_12 hst gj_fu a1 0 0 M2 hF
def F_X11_parents (a1 : Int) (M : gj_M) : Option (Int) :=
  gj_letI (f_X5_stands_14 M) (fun x1 => (if x1 = 0 then (some (-2147483648)) else (if a1 = -1 then gj_bnd (F_X5_yearSum 43 8 M) (fun x3 => (some (x3))) else gj_letI (f_X5_slotOf a1 M) (fun x2 => (if x2 = -1 then (some (-2147483648)) else (some (f_num (f_at M 43 8 x2))))))))
set_option maxHeartbeats 4000000 in
set_option maxRecDepth 20000 in
theorem t_X11_parents (hst : gj_Stat S) (a1 : Int) {r : Int} (hF : F_X11_parents a1 M = some r) : gj_C G l 4 0 0 yX11_parents cX11_parents 3 (some .int) [jR 0, jI a1] S M (gj_qI fun x S' M' => r = x ∧ S = S' ∧ M = M') := by
  refine gj_Cof (by decide +kernel) (Nat.le_of_ble_eq_true rfl) ?_
  change gj_W G l 4 0 0 yX11_parents cX11_parents 3 (some .int) (gj_qI fun x S' M' => r = x ∧ S = S' ∧ M = M') 0 0 0 [(0, jR 0), (1, jI a1)] [] S M
  unfold F_X11_parents at hF
  refine gj_aload_n (q := 1) (gj_dk okX11_parents 0 rfl) rfl rfl ?_
  refine gj_gR (q := 4) (j := 3) (gj_dk okX11_parents 1 rfl) ff_X11_32 (sh0 hst) (by decide) rfl (rf0_3 hst) rfl ?_
  refine gj_callV (q := 7) (z := 14) (ci := 5) [] rfl (t_X5_stands_14 hst  rfl) (gj_dk okX11_parents 2 rfl) ml_X11_268 me_X5_stands (sh14 hst) rfl (gj_nm rfl) rfl (gj_kI fun x S2 M2 h => ?_)
  obtain ⟨bz, e, eS, eM⟩ := h; subst eS; subst eM; subst e
  refine gj_stpZ bz hF (fun x1 bx1 hF => ?_)
  refine gj_if_ne (q := 10) (tgt := 13) (gj_dk okX11_parents 3 rfl) (by decide) rfl (fun c7 => ?_) (fun c7 => ?_)
  · -- 13
    replace hF := gj_iff c7 hF
    refine gj_iload_n (q := 14) (gj_dk okX11_parents 6 rfl) rfl rfl ?_
    refine gj_iconst (q := 15) (gj_dk okX11_parents 7 rfl) (by decide) rfl ?_
    refine gj_icmp_ne (q := 18) (tgt := 33) (gj_dk okX11_parents 8 rfl) (by decide) rfl (fun c15 => ?_) (fun c15 => ?_)
    · -- 33
      replace hF := gj_iff c15 hF
      refine gj_aload_n (q := 34) (gj_dk okX11_parents 16 rfl) rfl rfl ?_
      refine gj_gR (q := 37) (j := 3) (gj_dk okX11_parents 17 rfl) ff_X11_32 (sh0 hst) (by decide) rfl (rf0_3 hst) rfl ?_
      refine gj_iload_n (q := 38) (gj_dk okX11_parents 18 rfl) rfl rfl ?_
      refine gj_callV (q := 41) (z := 14) (ci := 5) [jI a1] rfl (t_X5_slotOf hst a1 rfl) (gj_dk okX11_parents 19 rfl) ml_X11_131 me_X5_slotOf (sh14 hst) rfl (gj_nm rfl) rfl (gj_kI fun x S2 M2 h => ?_)
      obtain ⟨e, eS, eM⟩ := h; subst eS; subst eM; subst e
      refine gj_stpI hF (fun x2 hF => ?_)
      refine gj_istore_n (q := 42) (gj_dk okX11_parents 20 rfl) (by decide) rfl ?_
      refine gj_iload_n (q := 43) (gj_dk okX11_parents 21 rfl) rfl rfl ?_
      refine gj_iconst (q := 44) (gj_dk okX11_parents 22 rfl) (by decide) rfl ?_
      refine gj_icmp_ne (q := 47) (tgt := 52) (gj_dk okX11_parents 23 rfl) (by decide) rfl (fun c44 => ?_) (fun c44 => ?_)
      · -- 52
        replace hF := gj_iff c44 hF
        refine gj_aload_n (q := 53) (gj_dk okX11_parents 26 rfl) rfl rfl ?_
        refine gj_gR (q := 56) (j := 7) (gj_dk okX11_parents 27 rfl) ff_X11_63 (sh0 hst) (by decide) rfl (rf0_7 hst) rfl ?_
        refine gj_gR (q := 59) (j := 2) (gj_dk okX11_parents 28 rfl) ff_X11_300 (sh41 hst) (by decide) rfl (rf41_2 hst) rfl ?_
        refine gj_iload_n (q := 60) (gj_dk okX11_parents 29 rfl) rfl rfl ?_
        refine gj_callS (q := 63) [jR 43, jI x2] rfl (c_X7_at (sh43 hst) (by decide) (by decide) _) (gj_dk okX11_parents 30 rfl) ml_X11_139 me_X7_at (gj_nm rfl) rfl (gj_kI fun x S2 M2 h => ?_)
        obtain ⟨e, eS, eM⟩ := h; subst eS; subst eM; subst e
        refine gj_callS (q := 66) [jI (f_at M 43 8 x2)] rfl (c_X10_numberOf _) (gj_dk okX11_parents 31 rfl) ml_X11_146 me_X10_numberOf (gj_nm rfl) rfl (gj_kI fun x S2 M2 h => ?_)
        obtain ⟨e, eS, eM⟩ := h; subst eS; subst eM; subst e
        cases hF
        exact gj_iret (gj_dk okX11_parents 32 rfl) rfl ⟨_, rfl, rfl, rfl, rfl⟩
      · -- 47
        replace hF := gj_ift c44 hF
        refine gj_ldc (q := 49) (z := -2147483648) (gj_dk okX11_parents 24 rfl) kc_X11_135 (by decide) rfl ?_
        refine gj_goto (tgt := 66) (gj_dk okX11_parents 25 rfl) (by decide) ?_
        cases hF
        exact gj_iret (gj_dk okX11_parents 32 rfl) rfl ⟨_, rfl, rfl, rfl, rfl⟩
    · -- 18
      replace hF := gj_ift c15 hF
      refine gj_aload_n (q := 19) (gj_dk okX11_parents 9 rfl) rfl rfl ?_
      refine gj_gR (q := 22) (j := 3) (gj_dk okX11_parents 10 rfl) ff_X11_32 (sh0 hst) (by decide) rfl (rf0_3 hst) rfl ?_
      refine gj_aload_n (q := 23) (gj_dk okX11_parents 11 rfl) rfl rfl ?_
      refine gj_gR (q := 26) (j := 7) (gj_dk okX11_parents 12 rfl) ff_X11_63 (sh0 hst) (by decide) rfl (rf0_7 hst) rfl ?_
      refine gj_gR (q := 29) (j := 2) (gj_dk okX11_parents 13 rfl) ff_X11_300 (sh41 hst) (by decide) rfl (rf41_2 hst) rfl ?_
      obtain ⟨x3, hG, hF⟩ := gj_bndd hF
      refine gj_callV (q := 32) (z := 14) (ci := 5) [jR 43] rfl (t_X5_yearSum hst (sh43 hst) (by decide) (by decide)  hG) (gj_dk okX11_parents 14 rfl) ml_X11_301 me_X5_yearSum (sh14 hst) rfl (gj_nm rfl) rfl (gj_kI fun y S2 M2 h => ?_)
      obtain ⟨e, eS, eM⟩ := h; subst eS; subst eM; subst e; clear hG
      cases hF
      exact gj_iret (gj_dk okX11_parents 15 rfl) rfl ⟨_, rfl, rfl, rfl, rfl⟩
  · -- 10
    replace hF := gj_ift c7 hF
    refine gj_ldc (q := 12) (z := -2147483648) (gj_dk okX11_parents 4 rfl) kc_X11_135 (by decide) rfl ?_
    cases hF
    exact gj_iret (gj_dk okX11_parents 5 rfl) rfl ⟨_, rfl, rfl, rfl, rfl⟩
def J_X5_sumOf_63 (z1 n1 : Int) (M : gj_M) (rec31 : Int → Int → Int → Option (Int)) (l3 l4 l5 : Int) : Option (Int) :=
  rec31 l3 l4 (gj_w (l5 + 1))
def B_X5_sumOf_31 (z1 n1 : Int) (M : gj_M) (rec31 : Int → Int → Int → Option (Int)) (l3 l4 l5 : Int) : Option (Int) :=
  (if 8 ≤ l5 then (some (l4)) else gj_letI (f_X5_isPerson_14 l5 M) (fun x4 => (if x4 = 0 then (J_X5_sumOf_63 z1 n1 M rec31 l3 l4 l5) else (if f_at M z1 n1 l5 = -1 then (J_X5_sumOf_63 z1 n1 M rec31 l3 l4 l5) else (J_X5_sumOf_63 z1 n1 M rec31 l3 (gj_w (l4 + l3)) l5)))))
def F_X5_sumOf (z1 : Int) (n1 : Int) (a2 : Int) (M : gj_M) : Option (Int) :=
  gj_letI (gj_w ((gj_w ((f_max 0 (gj_w (a2 - (M 14 4)))) * 16)) * (M 14 5))) (fun x1 => gj_bnd (F_X5_yearSum z1 n1 M) (fun x2 => (gj_it (fun _ _ _ => none) (B_X5_sumOf_31 z1 n1 M) gj_fu x1 (gj_w (x2 * a2)) 0)))
set_option maxHeartbeats 4000000 in
set_option maxRecDepth 20000 in
theorem t_J_X5_sumOf_63 (hst : gj_Stat S) {z1 n1 : Int} (hz1 : S.2.1 z1 = (0, n1)) (hz1p : 0 ≤ z1) (hz1n : 0 ≤ n1 ∧ n1 < 2147483648) {r : Int} {rec31 : Int → Int → Int → Option (Int)} (hrec31 : ∀ (l3 l4 l5 : Int), rec31 l3 l4 l5 = some r → gj_W G l 4 0 0 yX5_sumOf cX5_sumOf 6 (some .int) (gj_qI fun x S' M' => r = x ∧ S = S' ∧ M = M') 0 0 31 [(0, jR 14), (1, jR z1), (3, jI l3), (4, jI l4), (5, jI l5)] [] S M) (l3 l4 l5 : Int) (hF : J_X5_sumOf_63 z1 n1 M rec31 l3 l4 l5 = some r) : gj_W G l 4 0 0 yX5_sumOf cX5_sumOf 6 (some .int) (gj_qI fun x S' M' => r = x ∧ S = S' ∧ M = M') 0 0 63 [(0, jR 14), (1, jR z1), (3, jI l3), (4, jI l4), (5, jI l5)] [] S M := by
  unfold J_X5_sumOf_63 at hF
  refine gj_iinc (q := 66) (v := gj_w (l5 + 1)) (gj_dk okX5_sumOf 36 rfl) rfl (by decide) rfl rfl ?_
  refine gj_goto (tgt := 31) (gj_dk okX5_sumOf 37 rfl) (by decide) ?_
  refine gj_sub [(0, jR 14), (1, jR z1), (3, jI l3), (4, jI l4), (5, jI (gj_w (l5 + 1)))] ⟨rfl, rfl, rfl, rfl, rfl, trivial⟩ ?_
  exact hrec31 l3 l4 (gj_w (l5 + 1)) hF
set_option maxHeartbeats 4000000 in
set_option maxRecDepth 20000 in
theorem t_B_X5_sumOf_31 (hst : gj_Stat S) {z1 n1 : Int} (hz1 : S.2.1 z1 = (0, n1)) (hz1p : 0 ≤ z1) (hz1n : 0 ≤ n1 ∧ n1 < 2147483648) {r : Int} {rec31 : Int → Int → Int → Option (Int)} (hrec31 : ∀ (l3 l4 l5 : Int), rec31 l3 l4 l5 = some r → gj_W G l 4 0 0 yX5_sumOf cX5_sumOf 6 (some .int) (gj_qI fun x S' M' => r = x ∧ S = S' ∧ M = M') 0 0 31 [(0, jR 14), (1, jR z1), (3, jI l3), (4, jI l4), (5, jI l5)] [] S M) (l3 l4 l5 : Int) (hF : B_X5_sumOf_31 z1 n1 M rec31 l3 l4 l5 = some r) : gj_W G l 4 0 0 yX5_sumOf cX5_sumOf 6 (some .int) (gj_qI fun x S' M' => r = x ∧ S = S' ∧ M = M') 0 0 31 [(0, jR 14), (1, jR z1), (3, jI l3), (4, jI l4), (5, jI l5)] [] S M := by
  unfold B_X5_sumOf_31 at hF
  refine gj_iload (q := 33) (gj_dk okX5_sumOf 20 rfl) rfl rfl ?_
  refine gj_bipush (q := 35) (gj_dk okX5_sumOf 21 rfl) (by decide) rfl rfl ?_
  refine gj_icmp_ge (q := 38) (tgt := 69) (gj_dk okX5_sumOf 22 rfl) (by decide) rfl (fun c35 => ?_) (fun c35 => ?_)
  · -- 69
    replace hF := gj_ift c35 hF
    refine gj_iload (q := 71) (gj_dk okX5_sumOf 38 rfl) rfl rfl ?_
    cases hF
    exact gj_iret (gj_dk okX5_sumOf 39 rfl) rfl ⟨_, rfl, rfl, rfl, rfl⟩
  · -- 38
    replace hF := gj_iff c35 hF
    refine gj_aload_n (q := 39) (gj_dk okX5_sumOf 23 rfl) rfl rfl ?_
    refine gj_iload (q := 41) (gj_dk okX5_sumOf 24 rfl) rfl rfl ?_
    refine gj_callV (q := 44) (z := 14) (ci := 5) [jI l5] rfl (t_X5_isPerson_14 hst l5 rfl) (gj_dk okX5_sumOf 25 rfl) ml_X5_91 me_X5_isPerson (sh14 hst) rfl (gj_nm rfl) rfl (gj_kI fun x S2 M2 h => ?_)
    obtain ⟨bz, e, eS, eM⟩ := h; subst eS; subst eM; subst e
    refine gj_stpZ bz hF (fun x4 bx4 hF => ?_)
    refine gj_if_eq (q := 47) (tgt := 63) (gj_dk okX5_sumOf 26 rfl) (by decide) rfl (fun c44 => ?_) (fun c44 => ?_)
    · -- 63
      replace hF := gj_ift c44 hF
      refine gj_sub [(0, jR 14), (1, jR z1), (3, jI l3), (4, jI l4), (5, jI l5)] ⟨rfl, rfl, rfl, rfl, rfl, trivial⟩ ?_
      exact t_J_X5_sumOf_63 hst hz1 hz1p hz1n hrec31 l3 l4 l5 hF
    · -- 47
      replace hF := gj_iff c44 hF
      refine gj_aload_n (q := 48) (gj_dk okX5_sumOf 27 rfl) rfl rfl ?_
      refine gj_iload (q := 50) (gj_dk okX5_sumOf 28 rfl) rfl rfl ?_
      refine gj_callS (q := 53) [jR z1, jI l5] rfl (c_X7_at hz1 hz1p hz1n _) (gj_dk okX5_sumOf 29 rfl) ml_X5_83 me_X7_at (gj_nm rfl) rfl (gj_kI fun x S2 M2 h => ?_)
      obtain ⟨e, eS, eM⟩ := h; subst eS; subst eM; subst e
      refine gj_iconst (q := 54) (gj_dk okX5_sumOf 30 rfl) (by decide) rfl ?_
      refine gj_icmp_eq (q := 57) (tgt := 63) (gj_dk okX5_sumOf 31 rfl) (by decide) rfl (fun c54 => ?_) (fun c54 => ?_)
      · -- 63
        replace hF := gj_ift c54 hF
        refine gj_sub [(0, jR 14), (1, jR z1), (3, jI l3), (4, jI l4), (5, jI l5)] ⟨rfl, rfl, rfl, rfl, rfl, trivial⟩ ?_
        exact t_J_X5_sumOf_63 hst hz1 hz1p hz1n hrec31 l3 l4 l5 hF
      · -- 57
        replace hF := gj_iff c54 hF
        refine gj_iload (q := 59) (gj_dk okX5_sumOf 32 rfl) rfl rfl ?_
        refine gj_iload_n (q := 60) (gj_dk okX5_sumOf 33 rfl) rfl rfl ?_
        refine gj_iadd (q := 61) (gj_dk okX5_sumOf 34 rfl) rfl ?_
        refine gj_istore (q := 63) (gj_dk okX5_sumOf 35 rfl) (by decide) rfl ?_
        refine gj_sub [(0, jR 14), (1, jR z1), (3, jI l3), (4, jI (gj_w (l4 + l3))), (5, jI l5)] ⟨rfl, rfl, rfl, rfl, rfl, trivial⟩ ?_
        exact t_J_X5_sumOf_63 hst hz1 hz1p hz1n hrec31 l3 (gj_w (l4 + l3)) l5 hF
theorem t_L_X5_sumOf_31 (hst : gj_Stat S) {z1 n1 : Int} (hz1 : S.2.1 z1 = (0, n1)) (hz1p : 0 ≤ z1) (hz1n : 0 ≤ n1 ∧ n1 < 2147483648) {r : Int} : ∀ (m : Nat) (l3 : Int) (l4 : Int) (l5 : Int), gj_it (fun _ _ _ => none) (B_X5_sumOf_31 z1 n1 M) m l3 l4 l5 = some r → gj_W G l 4 0 0 yX5_sumOf cX5_sumOf 6 (some .int) (gj_qI fun x S' M' => r = x ∧ S = S' ∧ M = M') 0 0 31 [(0, jR 14), (1, jR z1), (3, jI l3), (4, jI l4), (5, jI l5)] [] S M := by
  intro m
  induction m with
  | zero => intro l3 l4 l5 hF; cases (show (none : Option (Int)) = some r from hF)
  | succ m ih => intro l3 l4 l5 hF; exact t_B_X5_sumOf_31 hst hz1 hz1p hz1n (fun l3 l4 l5 h => ih l3 l4 l5 h) l3 l4 l5 hF
set_option maxHeartbeats 4000000 in
set_option maxRecDepth 20000 in
theorem t_X5_sumOf (hst : gj_Stat S) {z1 n1 : Int} (hz1 : S.2.1 z1 = (0, n1)) (hz1p : 0 ≤ z1) (hz1n : 0 ≤ n1 ∧ n1 < 2147483648) (a2 : Int) {r : Int} (hF : F_X5_sumOf z1 n1 a2 M = some r) : gj_C G l 4 0 0 yX5_sumOf cX5_sumOf 6 (some .int) [jR 14, jR z1, jI a2] S M (gj_qI fun x S' M' => r = x ∧ S = S' ∧ M = M') := by
  refine gj_Cof (by decide +kernel) (Nat.le_of_ble_eq_true rfl) ?_
  change gj_W G l 4 0 0 yX5_sumOf cX5_sumOf 6 (some .int) (gj_qI fun x S' M' => r = x ∧ S = S' ∧ M = M') 0 0 0 [(0, jR 14), (1, jR z1), (2, jI a2)] [] S M
  unfold F_X5_sumOf at hF
  refine gj_iconst (q := 1) (gj_dk okX5_sumOf 0 rfl) (by decide) rfl ?_
  refine gj_iload_n (q := 2) (gj_dk okX5_sumOf 1 rfl) rfl rfl ?_
  refine gj_aload_n (q := 3) (gj_dk okX5_sumOf 2 rfl) rfl rfl ?_
  refine gj_gI (q := 6) (j := 4) (gj_dk okX5_sumOf 3 rfl) ff_X5_43 (sh14 hst) (by decide) rfl rfl ?_
  refine gj_isub (q := 7) (gj_dk okX5_sumOf 4 rfl) rfl ?_
  refine gj_mmax (q := 10) (gj_dk okX5_sumOf 5 rfl) ml_X5_99 ⟨by omega, Nat.le_of_ble_eq_true rfl⟩ rfl ?_
  refine gj_bipush (q := 12) (gj_dk okX5_sumOf 6 rfl) (by decide) rfl rfl ?_
  refine gj_imul (q := 13) (gj_dk okX5_sumOf 7 rfl) rfl ?_
  refine gj_aload_n (q := 14) (gj_dk okX5_sumOf 8 rfl) rfl rfl ?_
  refine gj_gI (q := 17) (j := 5) (gj_dk okX5_sumOf 9 rfl) ff_X5_46 (sh14 hst) (by decide) rfl rfl ?_
  refine gj_imul (q := 18) (gj_dk okX5_sumOf 10 rfl) rfl ?_
  refine gj_stpI hF (fun x1 hF => ?_)
  refine gj_istore_n (q := 19) (gj_dk okX5_sumOf 11 rfl) (by decide) rfl ?_
  refine gj_aload_n (q := 20) (gj_dk okX5_sumOf 12 rfl) rfl rfl ?_
  refine gj_aload_n (q := 21) (gj_dk okX5_sumOf 13 rfl) rfl rfl ?_
  obtain ⟨x2, hG, hF⟩ := gj_bndd hF
  refine gj_callV (q := 24) (z := 14) (ci := 5) [jR z1] rfl (t_X5_yearSum hst hz1 hz1p hz1n  hG) (gj_dk okX5_sumOf 14 rfl) ml_X5_104 me_X5_yearSum (sh14 hst) rfl (gj_nm rfl) rfl (gj_kI fun y S2 M2 h => ?_)
  obtain ⟨e, eS, eM⟩ := h; subst eS; subst eM; subst e; clear hG
  refine gj_iload_n (q := 25) (gj_dk okX5_sumOf 15 rfl) rfl rfl ?_
  refine gj_imul (q := 26) (gj_dk okX5_sumOf 16 rfl) rfl ?_
  refine gj_istore (q := 28) (gj_dk okX5_sumOf 17 rfl) (by decide) rfl ?_
  refine gj_iconst (q := 29) (gj_dk okX5_sumOf 18 rfl) (by decide) rfl ?_
  refine gj_istore (q := 31) (gj_dk okX5_sumOf 19 rfl) (by decide) rfl ?_
  refine gj_sub [(0, jR 14), (1, jR z1), (3, jI x1), (4, jI (gj_w (x2 * a2))), (5, jI 0)] ⟨rfl, rfl, rfl, rfl, rfl, trivial⟩ ?_
  exact t_L_X5_sumOf_31 hst hz1 hz1p hz1n gj_fu x1 (gj_w (x2 * a2)) 0 hF
def F_X11_life (a1 : Int) (a2 : Int) (M : gj_M) : Option (Int × gj_M) :=
  gj_letI (f_X5_stands_14 M) (fun x1 => (if x1 = 0 then (some ((-2147483648, M))) else (if a1 < 1 then (some ((-2147483648, M))) else (if 100 < a1 then (some ((-2147483648, M))) else (if a2 < 0 then (some ((-2147483648, M))) else (if a2 ≤ 1 then gj_bnd (F_X2_gather 1 M) (fun M3 => gj_bnd (F_X2_look 0 M3) (fun M5 => gj_bnd (F_X2_pairUp 0 M5) (fun M7 => gj_bnd (F_X5_sumOf 40 8 a1 M7) (fun x8 => (if a2 = 0 then (some ((x8, M7))) else gj_bnd (F_X5_sumOf 43 8 a1 M7) (fun x10 => (some ((gj_w (x8 - x10), M7))))))))) else (some ((-2147483648, M)))))))))
set_option maxHeartbeats 4000000 in
set_option maxRecDepth 20000 in
theorem t_X11_life (hst : gj_Stat S) (a1 a2 : Int) {r : Int × gj_M} (hF : F_X11_life a1 a2 M = some r) : gj_C G l 7 0 0 yX11_life cX11_life 4 (some .int) [jR 0, jI a1, jI a2] S M (gj_qI fun x S' M' => r.1 = x ∧ S = S' ∧ r.2 = M') := by
  refine gj_Cof (by decide +kernel) (Nat.le_of_ble_eq_true rfl) ?_
  change gj_W G l 7 0 0 yX11_life cX11_life 4 (some .int) (gj_qI fun x S' M' => r.1 = x ∧ S = S' ∧ r.2 = M') 0 0 0 [(0, jR 0), (1, jI a1), (2, jI a2)] [] S M
  unfold F_X11_life at hF
  refine gj_aload_n (q := 1) (gj_dk okX11_life 0 rfl) rfl rfl ?_
  refine gj_gR (q := 4) (j := 3) (gj_dk okX11_life 1 rfl) ff_X11_32 (sh0 hst) (by decide) rfl (rf0_3 hst) rfl ?_
  refine gj_callV (q := 7) (z := 14) (ci := 5) [] rfl (t_X5_stands_14 hst  rfl) (gj_dk okX11_life 2 rfl) ml_X11_268 me_X5_stands (sh14 hst) rfl (gj_nm rfl) rfl (gj_kI fun x S2 M2 h => ?_)
  obtain ⟨bz, e, eS, eM⟩ := h; subst eS; subst eM; subst e
  refine gj_stpZ bz hF (fun x1 bx1 hF => ?_)
  refine gj_if_eq (q := 10) (tgt := 30) (gj_dk okX11_life 3 rfl) (by decide) rfl (fun c7 => ?_) (fun c7 => ?_)
  · -- 30
    replace hF := gj_ift c7 hF
    refine gj_ldc (q := 32) (z := -2147483648) (gj_dk okX11_life 15 rfl) kc_X11_135 (by decide) rfl ?_
    cases hF
    exact gj_iret (gj_dk okX11_life 16 rfl) rfl ⟨_, rfl, rfl, rfl, rfl⟩
  · -- 10
    replace hF := gj_iff c7 hF
    refine gj_iload_n (q := 11) (gj_dk okX11_life 4 rfl) rfl rfl ?_
    refine gj_iconst (q := 12) (gj_dk okX11_life 5 rfl) (by decide) rfl ?_
    refine gj_icmp_lt (q := 15) (tgt := 30) (gj_dk okX11_life 6 rfl) (by decide) rfl (fun c12 => ?_) (fun c12 => ?_)
    · -- 30
      replace hF := gj_ift c12 hF
      refine gj_ldc (q := 32) (z := -2147483648) (gj_dk okX11_life 15 rfl) kc_X11_135 (by decide) rfl ?_
      cases hF
      exact gj_iret (gj_dk okX11_life 16 rfl) rfl ⟨_, rfl, rfl, rfl, rfl⟩
    · -- 15
      replace hF := gj_iff c12 hF
      refine gj_iload_n (q := 16) (gj_dk okX11_life 7 rfl) rfl rfl ?_
      refine gj_bipush (q := 18) (gj_dk okX11_life 8 rfl) (by decide) rfl rfl ?_
      refine gj_icmp_gt (q := 21) (tgt := 30) (gj_dk okX11_life 9 rfl) (by decide) rfl (fun c18 => ?_) (fun c18 => ?_)
      · -- 30
        replace hF := gj_ift c18 hF
        refine gj_ldc (q := 32) (z := -2147483648) (gj_dk okX11_life 15 rfl) kc_X11_135 (by decide) rfl ?_
        cases hF
        exact gj_iret (gj_dk okX11_life 16 rfl) rfl ⟨_, rfl, rfl, rfl, rfl⟩
      · -- 21
        replace hF := gj_iff c18 hF
        refine gj_iload_n (q := 22) (gj_dk okX11_life 10 rfl) rfl rfl ?_
        refine gj_if_lt (q := 25) (tgt := 30) (gj_dk okX11_life 11 rfl) (by decide) rfl (fun c22 => ?_) (fun c22 => ?_)
        · -- 30
          replace hF := gj_ift c22 hF
          refine gj_ldc (q := 32) (z := -2147483648) (gj_dk okX11_life 15 rfl) kc_X11_135 (by decide) rfl ?_
          cases hF
          exact gj_iret (gj_dk okX11_life 16 rfl) rfl ⟨_, rfl, rfl, rfl, rfl⟩
        · -- 25
          replace hF := gj_iff c22 hF
          refine gj_iload_n (q := 26) (gj_dk okX11_life 12 rfl) rfl rfl ?_
          refine gj_iconst (q := 27) (gj_dk okX11_life 13 rfl) (by decide) rfl ?_
          refine gj_icmp_le (q := 30) (tgt := 33) (gj_dk okX11_life 14 rfl) (by decide) rfl (fun c27 => ?_) (fun c27 => ?_)
          · -- 33
            replace hF := gj_ift c27 hF
            refine gj_aload_n (q := 34) (gj_dk okX11_life 17 rfl) rfl rfl ?_
            refine gj_gR (q := 37) (j := 6) (gj_dk okX11_life 18 rfl) ff_X11_54 (sh0 hst) (by decide) rfl (rf0_6 hst) rfl ?_
            refine gj_iconst (q := 38) (gj_dk okX11_life 19 rfl) (by decide) rfl ?_
            obtain ⟨M3, hG, hF⟩ := gj_bndd hF
            refine gj_callV (q := 41) (z := 35) (ci := 2) [jI 1] rfl (t_X2_gather hst 1 hG) (gj_dk okX11_life 20 rfl) ml_X11_261 me_X2_gather (sh35 hst) rfl (gj_nm rfl) rfl (gj_kV fun S2 M2 h => ?_)
            obtain ⟨eS, eM⟩ := h; subst eS; subst eM; clear hG
            refine gj_aload_n (q := 42) (gj_dk okX11_life 21 rfl) rfl rfl ?_
            refine gj_gR (q := 45) (j := 6) (gj_dk okX11_life 22 rfl) ff_X11_54 (sh0 hst) (by decide) rfl (rf0_6 hst) rfl ?_
            refine gj_iconst (q := 46) (gj_dk okX11_life 23 rfl) (by decide) rfl ?_
            obtain ⟨M5, hG, hF⟩ := gj_bndd hF
            refine gj_callV (q := 49) (z := 35) (ci := 2) [jI 0] rfl (t_X2_look hst 0 hG) (gj_dk okX11_life 24 rfl) ml_X11_206 me_X2_look (sh35 hst) rfl (gj_nm rfl) rfl (gj_kV fun S2 M2 h => ?_)
            obtain ⟨eS, eM⟩ := h; subst eS; subst eM; clear hG
            refine gj_aload_n (q := 50) (gj_dk okX11_life 25 rfl) rfl rfl ?_
            refine gj_gR (q := 53) (j := 6) (gj_dk okX11_life 26 rfl) ff_X11_54 (sh0 hst) (by decide) rfl (rf0_6 hst) rfl ?_
            refine gj_iconst (q := 54) (gj_dk okX11_life 27 rfl) (by decide) rfl ?_
            obtain ⟨M7, hG, hF⟩ := gj_bndd hF
            refine gj_callV (q := 57) (z := 35) (ci := 2) [jI 0] rfl (t_X2_pairUp hst 0 hG) (gj_dk okX11_life 28 rfl) ml_X11_264 me_X2_pairUp (sh35 hst) rfl (gj_nm rfl) rfl (gj_kV fun S2 M2 h => ?_)
            obtain ⟨eS, eM⟩ := h; subst eS; subst eM; clear hG
            refine gj_aload_n (q := 58) (gj_dk okX11_life 29 rfl) rfl rfl ?_
            refine gj_gR (q := 61) (j := 3) (gj_dk okX11_life 30 rfl) ff_X11_32 (sh0 hst) (by decide) rfl (rf0_3 hst) rfl ?_
            refine gj_aload_n (q := 62) (gj_dk okX11_life 31 rfl) rfl rfl ?_
            refine gj_gR (q := 65) (j := 6) (gj_dk okX11_life 32 rfl) ff_X11_54 (sh0 hst) (by decide) rfl (rf0_6 hst) rfl ?_
            refine gj_gR (q := 68) (j := 6) (gj_dk okX11_life 33 rfl) ff_X11_267 (sh35 hst) (by decide) rfl (rf35_6 hst) rfl ?_
            refine gj_iload_n (q := 69) (gj_dk okX11_life 34 rfl) rfl rfl ?_
            obtain ⟨x8, hG, hF⟩ := gj_bndd hF
            refine gj_callV (q := 72) (z := 14) (ci := 5) [jR 40, jI a1] rfl (t_X5_sumOf hst (sh40 hst) (by decide) (by decide) a1 hG) (gj_dk okX11_life 35 rfl) ml_X11_305 me_X5_sumOf (sh14 hst) rfl (gj_nm rfl) rfl (gj_kI fun y S2 M2 h => ?_)
            obtain ⟨e, eS, eM⟩ := h; subst eS; subst eM; subst e; clear hG
            refine gj_istore_n (q := 73) (gj_dk okX11_life 36 rfl) (by decide) rfl ?_
            refine gj_iload_n (q := 74) (gj_dk okX11_life 37 rfl) rfl rfl ?_
            refine gj_if_ne (q := 77) (tgt := 81) (gj_dk okX11_life 38 rfl) (by decide) rfl (fun c74 => ?_) (fun c74 => ?_)
            · -- 81
              replace hF := gj_iff c74 hF
              refine gj_iload_n (q := 82) (gj_dk okX11_life 41 rfl) rfl rfl ?_
              refine gj_aload_n (q := 83) (gj_dk okX11_life 42 rfl) rfl rfl ?_
              refine gj_gR (q := 86) (j := 3) (gj_dk okX11_life 43 rfl) ff_X11_32 (sh0 hst) (by decide) rfl (rf0_3 hst) rfl ?_
              refine gj_aload_n (q := 87) (gj_dk okX11_life 44 rfl) rfl rfl ?_
              refine gj_gR (q := 90) (j := 7) (gj_dk okX11_life 45 rfl) ff_X11_63 (sh0 hst) (by decide) rfl (rf0_7 hst) rfl ?_
              refine gj_gR (q := 93) (j := 2) (gj_dk okX11_life 46 rfl) ff_X11_300 (sh41 hst) (by decide) rfl (rf41_2 hst) rfl ?_
              refine gj_iload_n (q := 94) (gj_dk okX11_life 47 rfl) rfl rfl ?_
              obtain ⟨x10, hG, hF⟩ := gj_bndd hF
              refine gj_callV (q := 97) (z := 14) (ci := 5) [jR 43, jI a1] rfl (t_X5_sumOf hst (sh43 hst) (by decide) (by decide) a1 hG) (gj_dk okX11_life 48 rfl) ml_X11_305 me_X5_sumOf (sh14 hst) rfl (gj_nm rfl) rfl (gj_kI fun y S2 M2 h => ?_)
              obtain ⟨e, eS, eM⟩ := h; subst eS; subst eM; subst e; clear hG
              refine gj_isub (q := 98) (gj_dk okX11_life 49 rfl) rfl ?_
              cases hF
              exact gj_iret (gj_dk okX11_life 50 rfl) rfl ⟨_, rfl, rfl, rfl, rfl⟩
            · -- 77
              replace hF := gj_ift c74 hF
              refine gj_iload_n (q := 78) (gj_dk okX11_life 39 rfl) rfl rfl ?_
              refine gj_goto (tgt := 98) (gj_dk okX11_life 40 rfl) (by decide) ?_
              cases hF
              exact gj_iret (gj_dk okX11_life 50 rfl) rfl ⟨_, rfl, rfl, rfl, rfl⟩
          · -- 30
            replace hF := gj_iff c27 hF
            refine gj_ldc (q := 32) (z := -2147483648) (gj_dk okX11_life 15 rfl) kc_X11_135 (by decide) rfl ?_
            cases hF
            exact gj_iret (gj_dk okX11_life 16 rfl) rfl ⟨_, rfl, rfl, rfl, rfl⟩
def f_X3_haveTried (a1 : Int) (M : gj_M) : Int :=
  (if gj_w ((f_at M 26 16 a1) + (f_at M 27 16 a1)) ≤ 0 then (0) else (1))
set_option maxHeartbeats 4000000 in
set_option maxRecDepth 20000 in
theorem t_X3_haveTried (hst : gj_Stat S) (a1 : Int) {r : Int} (hF : f_X3_haveTried a1 M = r) : gj_C G l 2 0 0 yX3_haveTried cX3_haveTried 2 (some .boolean) [jR 21, jI a1] S M (gj_qI fun x S' M' => (x = 0 ∨ x = 1) ∧ r = x ∧ S = S' ∧ M = M') := by
  refine gj_Cof (by decide +kernel) (Nat.le_of_ble_eq_true rfl) ?_
  change gj_W G l 2 0 0 yX3_haveTried cX3_haveTried 2 (some .boolean) (gj_qI fun x S' M' => (x = 0 ∨ x = 1) ∧ r = x ∧ S = S' ∧ M = M') 0 0 0 [(0, jR 21), (1, jI a1)] [] S M
  unfold f_X3_haveTried at hF
  refine gj_aload_n (q := 1) (gj_dk okX3_haveTried 0 rfl) rfl rfl ?_
  refine gj_gR (q := 4) (j := 7) (gj_dk okX3_haveTried 1 rfl) ff_X3_24 (sh21 hst) (by decide) rfl (rf21_7 hst) rfl ?_
  refine gj_iload_n (q := 5) (gj_dk okX3_haveTried 2 rfl) rfl rfl ?_
  refine gj_callS (q := 8) [jR 26, jI a1] rfl (c_X7_at (sh26 hst) (by decide) (by decide) _) (gj_dk okX3_haveTried 3 rfl) ml_X3_75 me_X7_at (gj_nm rfl) rfl (gj_kI fun x S2 M2 h => ?_)
  obtain ⟨e, eS, eM⟩ := h; subst eS; subst eM; subst e
  refine gj_aload_n (q := 9) (gj_dk okX3_haveTried 4 rfl) rfl rfl ?_
  refine gj_gR (q := 12) (j := 8) (gj_dk okX3_haveTried 5 rfl) ff_X3_27 (sh21 hst) (by decide) rfl (rf21_8 hst) rfl ?_
  refine gj_iload_n (q := 13) (gj_dk okX3_haveTried 6 rfl) rfl rfl ?_
  refine gj_callS (q := 16) [jR 27, jI a1] rfl (c_X7_at (sh27 hst) (by decide) (by decide) _) (gj_dk okX3_haveTried 7 rfl) ml_X3_75 me_X7_at (gj_nm rfl) rfl (gj_kI fun x S2 M2 h => ?_)
  obtain ⟨e, eS, eM⟩ := h; subst eS; subst eM; subst e
  refine gj_iadd (q := 17) (gj_dk okX3_haveTried 8 rfl) rfl ?_
  refine gj_if_le (q := 20) (tgt := 24) (gj_dk okX3_haveTried 9 rfl) (by decide) rfl (fun c17 => ?_) (fun c17 => ?_)
  · -- 24
    replace hF := gj_ift c17 hF
    refine gj_iconst (q := 25) (gj_dk okX3_haveTried 12 rfl) (by decide) rfl ?_
    subst hF
    exact gj_zret (gj_dk okX3_haveTried 13 rfl) rfl (by decide) ⟨_, rfl, (by decide), rfl, rfl, rfl⟩
  · -- 20
    replace hF := gj_iff c17 hF
    refine gj_iconst (q := 21) (gj_dk okX3_haveTried 10 rfl) (by decide) rfl ?_
    refine gj_goto (tgt := 25) (gj_dk okX3_haveTried 11 rfl) (by decide) ?_
    subst hF
    exact gj_zret (gj_dk okX3_haveTried 13 rfl) rfl (by decide) ⟨_, rfl, (by decide), rfl, rfl, rfl⟩
def J_X11_neverTried_44 (M : gj_M) (rec4 : Int → Int → Option (Int)) (l1 l2 : Int) : Option (Int) :=
  rec4 l1 (gj_w (l2 + 1))
def B_X11_neverTried_4 (M : gj_M) (rec4 : Int → Int → Option (Int)) (l1 l2 : Int) : Option (Int) :=
  (if 4 ≤ l2 then (some (l1)) else (if f_at M 43 8 l2 = -1 then (J_X11_neverTried_44 M rec4 l1 l2) else gj_letI (f_X3_haveTried (f_cpl l2 (f_at M 43 8 l2)) M) (fun x1 => (if x1 = 0 then (J_X11_neverTried_44 M rec4 (gj_w (l1 + 1)) l2) else (J_X11_neverTried_44 M rec4 l1 l2)))))
def F_X11_neverTried (M : gj_M) : Option (Int) :=
  (gj_it (fun _ _ => none) (B_X11_neverTried_4 M) gj_fu 0 0)
set_option maxHeartbeats 4000000 in
set_option maxRecDepth 20000 in
theorem t_J_X11_neverTried_44 (hst : gj_Stat S) {r : Int} {rec4 : Int → Int → Option (Int)} (hrec4 : ∀ (l1 l2 : Int), rec4 l1 l2 = some r → gj_W G l 3 0 0 yX11_neverTried cX11_neverTried 4 (some .int) (gj_qI fun x S' M' => r = x ∧ S = S' ∧ M = M') 0 0 4 [(0, jR 0), (1, jI l1), (2, jI l2)] [] S M) (l1 l2 : Int) (hF : J_X11_neverTried_44 M rec4 l1 l2 = some r) : gj_W G l 3 0 0 yX11_neverTried cX11_neverTried 4 (some .int) (gj_qI fun x S' M' => r = x ∧ S = S' ∧ M = M') 0 0 44 [(0, jR 0), (1, jI l1), (2, jI l2)] [] S M := by
  unfold J_X11_neverTried_44 at hF
  refine gj_iinc (q := 47) (v := gj_w (l2 + 1)) (gj_dk okX11_neverTried 24 rfl) rfl (by decide) rfl rfl ?_
  refine gj_goto (tgt := 4) (gj_dk okX11_neverTried 25 rfl) (by decide) ?_
  refine gj_sub [(0, jR 0), (1, jI l1), (2, jI (gj_w (l2 + 1)))] ⟨rfl, rfl, rfl, trivial⟩ ?_
  exact hrec4 l1 (gj_w (l2 + 1)) hF
set_option maxHeartbeats 4000000 in
set_option maxRecDepth 20000 in
theorem t_B_X11_neverTried_4 (hst : gj_Stat S) {r : Int} {rec4 : Int → Int → Option (Int)} (hrec4 : ∀ (l1 l2 : Int), rec4 l1 l2 = some r → gj_W G l 3 0 0 yX11_neverTried cX11_neverTried 4 (some .int) (gj_qI fun x S' M' => r = x ∧ S = S' ∧ M = M') 0 0 4 [(0, jR 0), (1, jI l1), (2, jI l2)] [] S M) (l1 l2 : Int) (hF : B_X11_neverTried_4 M rec4 l1 l2 = some r) : gj_W G l 3 0 0 yX11_neverTried cX11_neverTried 4 (some .int) (gj_qI fun x S' M' => r = x ∧ S = S' ∧ M = M') 0 0 4 [(0, jR 0), (1, jI l1), (2, jI l2)] [] S M := by
  unfold B_X11_neverTried_4 at hF
  refine gj_iload_n (q := 5) (gj_dk okX11_neverTried 4 rfl) rfl rfl ?_
  refine gj_iconst (q := 6) (gj_dk okX11_neverTried 5 rfl) (by decide) rfl ?_
  refine gj_icmp_ge (q := 9) (tgt := 50) (gj_dk okX11_neverTried 6 rfl) (by decide) rfl (fun c6 => ?_) (fun c6 => ?_)
  · -- 50
    replace hF := gj_ift c6 hF
    refine gj_iload_n (q := 51) (gj_dk okX11_neverTried 26 rfl) rfl rfl ?_
    cases hF
    exact gj_iret (gj_dk okX11_neverTried 27 rfl) rfl ⟨_, rfl, rfl, rfl, rfl⟩
  · -- 9
    replace hF := gj_iff c6 hF
    refine gj_aload_n (q := 10) (gj_dk okX11_neverTried 7 rfl) rfl rfl ?_
    refine gj_gR (q := 13) (j := 7) (gj_dk okX11_neverTried 8 rfl) ff_X11_63 (sh0 hst) (by decide) rfl (rf0_7 hst) rfl ?_
    refine gj_gR (q := 16) (j := 2) (gj_dk okX11_neverTried 9 rfl) ff_X11_300 (sh41 hst) (by decide) rfl (rf41_2 hst) rfl ?_
    refine gj_iload_n (q := 17) (gj_dk okX11_neverTried 10 rfl) rfl rfl ?_
    refine gj_callS (q := 20) [jR 43, jI l2] rfl (c_X7_at (sh43 hst) (by decide) (by decide) _) (gj_dk okX11_neverTried 11 rfl) ml_X11_139 me_X7_at (gj_nm rfl) rfl (gj_kI fun x S2 M2 h => ?_)
    obtain ⟨e, eS, eM⟩ := h; subst eS; subst eM; subst e
    refine gj_istore_n (q := 21) (gj_dk okX11_neverTried 12 rfl) (by decide) rfl ?_
    refine gj_iload_n (q := 22) (gj_dk okX11_neverTried 13 rfl) rfl rfl ?_
    refine gj_iconst (q := 23) (gj_dk okX11_neverTried 14 rfl) (by decide) rfl ?_
    refine gj_icmp_eq (q := 26) (tgt := 44) (gj_dk okX11_neverTried 15 rfl) (by decide) rfl (fun c23 => ?_) (fun c23 => ?_)
    · -- 44
      replace hF := gj_ift c23 hF
      refine gj_sub [(0, jR 0), (1, jI l1), (2, jI l2)] ⟨rfl, rfl, rfl, trivial⟩ ?_
      exact t_J_X11_neverTried_44 hst hrec4 l1 l2 hF
    · -- 26
      replace hF := gj_iff c23 hF
      refine gj_aload_n (q := 27) (gj_dk okX11_neverTried 16 rfl) rfl rfl ?_
      refine gj_gR (q := 30) (j := 4) (gj_dk okX11_neverTried 17 rfl) ff_X11_38 (sh0 hst) (by decide) rfl (rf0_4 hst) rfl ?_
      refine gj_iload_n (q := 31) (gj_dk okX11_neverTried 18 rfl) rfl rfl ?_
      refine gj_iload_n (q := 32) (gj_dk okX11_neverTried 19 rfl) rfl rfl ?_
      refine gj_callS (q := 35) [jI l2, jI (f_at M 43 8 l2)] rfl (c_X10_couple _ _) (gj_dk okX11_neverTried 20 rfl) ml_X11_161 me_X10_couple (gj_nm rfl) rfl (gj_kI fun x S2 M2 h => ?_)
      obtain ⟨e, eS, eM⟩ := h; subst eS; subst eM; subst e
      refine gj_callV (q := 38) (z := 21) (ci := 3) [jI (f_cpl l2 (f_at M 43 8 l2))] rfl (t_X3_haveTried hst (f_cpl l2 (f_at M 43 8 l2)) rfl) (gj_dk okX11_neverTried 21 rfl) ml_X11_337 me_X3_haveTried (sh21 hst) rfl (gj_nm rfl) rfl (gj_kI fun x S2 M2 h => ?_)
      obtain ⟨bz, e, eS, eM⟩ := h; subst eS; subst eM; subst e
      refine gj_stpZ bz hF (fun x1 bx1 hF => ?_)
      refine gj_if_ne (q := 41) (tgt := 44) (gj_dk okX11_neverTried 22 rfl) (by decide) rfl (fun c38 => ?_) (fun c38 => ?_)
      · -- 44
        replace hF := gj_iff c38 hF
        refine gj_sub [(0, jR 0), (1, jI l1), (2, jI l2)] ⟨rfl, rfl, rfl, trivial⟩ ?_
        exact t_J_X11_neverTried_44 hst hrec4 l1 l2 hF
      · -- 41
        replace hF := gj_ift c38 hF
        refine gj_iinc (q := 44) (v := gj_w (l1 + 1)) (gj_dk okX11_neverTried 23 rfl) rfl (by decide) rfl rfl ?_
        refine gj_sub [(0, jR 0), (1, jI (gj_w (l1 + 1))), (2, jI l2)] ⟨rfl, rfl, rfl, trivial⟩ ?_
        exact t_J_X11_neverTried_44 hst hrec4 (gj_w (l1 + 1)) l2 hF
theorem t_L_X11_neverTried_4 (hst : gj_Stat S) {r : Int} : ∀ (m : Nat) (l1 : Int) (l2 : Int), gj_it (fun _ _ => none) (B_X11_neverTried_4 M) m l1 l2 = some r → gj_W G l 3 0 0 yX11_neverTried cX11_neverTried 4 (some .int) (gj_qI fun x S' M' => r = x ∧ S = S' ∧ M = M') 0 0 4 [(0, jR 0), (1, jI l1), (2, jI l2)] [] S M := by
  intro m
  induction m with
  | zero => intro l1 l2 hF; cases (show (none : Option (Int)) = some r from hF)
  | succ m ih => intro l1 l2 hF; exact t_B_X11_neverTried_4 hst (fun l1 l2 h => ih l1 l2 h) l1 l2 hF
set_option maxHeartbeats 4000000 in
set_option maxRecDepth 20000 in
theorem t_X11_neverTried (hst : gj_Stat S) {r : Int} (hF : F_X11_neverTried M = some r) : gj_C G l 3 0 0 yX11_neverTried cX11_neverTried 4 (some .int) [jR 0] S M (gj_qI fun x S' M' => r = x ∧ S = S' ∧ M = M') := by
  refine gj_Cof (by decide +kernel) (Nat.le_of_ble_eq_true rfl) ?_
  change gj_W G l 3 0 0 yX11_neverTried cX11_neverTried 4 (some .int) (gj_qI fun x S' M' => r = x ∧ S = S' ∧ M = M') 0 0 0 [(0, jR 0)] [] S M
  unfold F_X11_neverTried at hF
  refine gj_iconst (q := 1) (gj_dk okX11_neverTried 0 rfl) (by decide) rfl ?_
  refine gj_istore_n (q := 2) (gj_dk okX11_neverTried 1 rfl) (by decide) rfl ?_
  refine gj_iconst (q := 3) (gj_dk okX11_neverTried 2 rfl) (by decide) rfl ?_
  refine gj_istore_n (q := 4) (gj_dk okX11_neverTried 3 rfl) (by decide) rfl ?_
  refine gj_sub [(0, jR 0), (1, jI 0), (2, jI 0)] ⟨rfl, rfl, rfl, trivial⟩ ?_
  exact t_L_X11_neverTried_4 hst gj_fu 0 0 hF
def F_X11_never (a1 : Int) (M : gj_M) : Option (Int) :=
  gj_letI (f_X5_stands_14 M) (fun x1 => (if x1 = 0 then (some (-2147483648)) else (if a1 = 0 then gj_bnd (F_X11_neverTried M) (fun x2 => (some (x2))) else (if a1 = 1 then gj_bnd (F_X5_yearSum 43 8 M) (fun x4 => gj_bnd (F_X5_yearSum 22 8 M) (fun x6 => (some (gj_w (x4 - x6))))) else (some (-2147483648))))))
set_option maxHeartbeats 4000000 in
set_option maxRecDepth 20000 in
theorem t_X11_never (hst : gj_Stat S) (a1 : Int) {r : Int} (hF : F_X11_never a1 M = some r) : gj_C G l 4 0 0 yX11_never cX11_never 2 (some .int) [jR 0, jI a1] S M (gj_qI fun x S' M' => r = x ∧ S = S' ∧ M = M') := by
  refine gj_Cof (by decide +kernel) (Nat.le_of_ble_eq_true rfl) ?_
  change gj_W G l 4 0 0 yX11_never cX11_never 2 (some .int) (gj_qI fun x S' M' => r = x ∧ S = S' ∧ M = M') 0 0 0 [(0, jR 0), (1, jI a1)] [] S M
  unfold F_X11_never at hF
  refine gj_aload_n (q := 1) (gj_dk okX11_never 0 rfl) rfl rfl ?_
  refine gj_gR (q := 4) (j := 3) (gj_dk okX11_never 1 rfl) ff_X11_32 (sh0 hst) (by decide) rfl (rf0_3 hst) rfl ?_
  refine gj_callV (q := 7) (z := 14) (ci := 5) [] rfl (t_X5_stands_14 hst  rfl) (gj_dk okX11_never 2 rfl) ml_X11_268 me_X5_stands (sh14 hst) rfl (gj_nm rfl) rfl (gj_kI fun x S2 M2 h => ?_)
  obtain ⟨bz, e, eS, eM⟩ := h; subst eS; subst eM; subst e
  refine gj_stpZ bz hF (fun x1 bx1 hF => ?_)
  refine gj_if_ne (q := 10) (tgt := 13) (gj_dk okX11_never 3 rfl) (by decide) rfl (fun c7 => ?_) (fun c7 => ?_)
  · -- 13
    replace hF := gj_iff c7 hF
    refine gj_iload_n (q := 14) (gj_dk okX11_never 6 rfl) rfl rfl ?_
    by_cases c14_0 : a1 = 0
    · refine gj_lookup (tgt := 40) (off := 26) (gj_dk okX11_never 7 rfl) (by decide) (by rw [c14_0]; rfl) (by decide) ?_
      replace hF := gj_ift c14_0 hF
      refine gj_aload_n (q := 41) (gj_dk okX11_never 8 rfl) rfl rfl ?_
      obtain ⟨x2, hG, hF⟩ := gj_bndd hF
      refine gj_callV (q := 44) (z := 0) (ci := 9) [] rfl (t_X11_neverTried hst  hG) (gj_dk okX11_never 9 rfl) ml_X11_308 me_X11_neverTried (sh0 hst) rfl (gj_nm rfl) rfl (gj_kI fun y S2 M2 h => ?_)
      obtain ⟨e, eS, eM⟩ := h; subst eS; subst eM; subst e; clear hG
      cases hF
      exact gj_iret (gj_dk okX11_never 10 rfl) rfl ⟨_, rfl, rfl, rfl, rfl⟩
    replace hF := gj_iff c14_0 hF
    by_cases c14_1 : a1 = 1
    · refine gj_lookup (tgt := 45) (off := 31) (gj_dk okX11_never 7 rfl) (by decide) (by rw [c14_1]; rfl) (by decide) ?_
      replace hF := gj_ift c14_1 hF
      refine gj_aload_n (q := 46) (gj_dk okX11_never 11 rfl) rfl rfl ?_
      refine gj_gR (q := 49) (j := 3) (gj_dk okX11_never 12 rfl) ff_X11_32 (sh0 hst) (by decide) rfl (rf0_3 hst) rfl ?_
      refine gj_aload_n (q := 50) (gj_dk okX11_never 13 rfl) rfl rfl ?_
      refine gj_gR (q := 53) (j := 7) (gj_dk okX11_never 14 rfl) ff_X11_63 (sh0 hst) (by decide) rfl (rf0_7 hst) rfl ?_
      refine gj_gR (q := 56) (j := 2) (gj_dk okX11_never 15 rfl) ff_X11_300 (sh41 hst) (by decide) rfl (rf41_2 hst) rfl ?_
      obtain ⟨x4, hG, hF⟩ := gj_bndd hF
      refine gj_callV (q := 59) (z := 14) (ci := 5) [jR 43] rfl (t_X5_yearSum hst (sh43 hst) (by decide) (by decide)  hG) (gj_dk okX11_never 16 rfl) ml_X11_301 me_X5_yearSum (sh14 hst) rfl (gj_nm rfl) rfl (gj_kI fun y S2 M2 h => ?_)
      obtain ⟨e, eS, eM⟩ := h; subst eS; subst eM; subst e; clear hG
      refine gj_aload_n (q := 60) (gj_dk okX11_never 17 rfl) rfl rfl ?_
      refine gj_gR (q := 63) (j := 3) (gj_dk okX11_never 18 rfl) ff_X11_32 (sh0 hst) (by decide) rfl (rf0_3 hst) rfl ?_
      refine gj_aload_n (q := 64) (gj_dk okX11_never 19 rfl) rfl rfl ?_
      refine gj_gR (q := 67) (j := 4) (gj_dk okX11_never 20 rfl) ff_X11_38 (sh0 hst) (by decide) rfl (rf0_4 hst) rfl ?_
      refine gj_gR (q := 70) (j := 3) (gj_dk okX11_never 21 rfl) ff_X11_143 (sh21 hst) (by decide) rfl (rf21_3 hst) rfl ?_
      obtain ⟨x6, hG, hF⟩ := gj_bndd hF
      refine gj_callV (q := 73) (z := 14) (ci := 5) [jR 22] rfl (t_X5_yearSum hst (sh22 hst) (by decide) (by decide)  hG) (gj_dk okX11_never 22 rfl) ml_X11_301 me_X5_yearSum (sh14 hst) rfl (gj_nm rfl) rfl (gj_kI fun y S2 M2 h => ?_)
      obtain ⟨e, eS, eM⟩ := h; subst eS; subst eM; subst e; clear hG
      refine gj_isub (q := 74) (gj_dk okX11_never 23 rfl) rfl ?_
      cases hF
      exact gj_iret (gj_dk okX11_never 24 rfl) rfl ⟨_, rfl, rfl, rfl, rfl⟩
    replace hF := gj_iff c14_1 hF
    refine gj_lookup (tgt := 75) (off := 61) (gj_dk okX11_never 7 rfl) (by decide) (by simp [Op.lookupswitch.offset, c14_0, Ne.symm c14_0, c14_1, Ne.symm c14_1]) (by decide) ?_
    refine gj_ldc (q := 77) (z := -2147483648) (gj_dk okX11_never 25 rfl) kc_X11_135 (by decide) rfl ?_
    cases hF
    exact gj_iret (gj_dk okX11_never 26 rfl) rfl ⟨_, rfl, rfl, rfl, rfl⟩
  · -- 10
    replace hF := gj_ift c7 hF
    refine gj_ldc (q := 12) (z := -2147483648) (gj_dk okX11_never 4 rfl) kc_X11_135 (by decide) rfl ?_
    cases hF
    exact gj_iret (gj_dk okX11_never 5 rfl) rfl ⟨_, rfl, rfl, rfl, rfl⟩
def J_X3_pairsOf_36 (M : gj_M) (rec4 : Int → Int → Int → Option (Int)) (l1 l2 l3 : Int) : Option (Int) :=
  rec4 l1 l2 (gj_w (l3 + 1))
def B_X3_pairsOf_4 (M : gj_M) (rec4 : Int → Int → Int → Option (Int)) (l1 l2 l3 : Int) : Option (Int) :=
  (if 4 ≤ l3 then (some (l2)) else (if f_at M 22 8 l3 = -1 then (J_X3_pairsOf_36 M rec4 l1 l2 l3) else (if f_at M 24 8 l3 < l1 then (J_X3_pairsOf_36 M rec4 l1 l2 l3) else (J_X3_pairsOf_36 M rec4 l1 (gj_w (l2 + 1)) l3))))
def F_X3_pairsOf (a1 : Int) (M : gj_M) : Option (Int) :=
  (gj_it (fun _ _ _ => none) (B_X3_pairsOf_4 M) gj_fu a1 0 0)
set_option maxHeartbeats 4000000 in
set_option maxRecDepth 20000 in
theorem t_J_X3_pairsOf_36 (hst : gj_Stat S) {r : Int} {rec4 : Int → Int → Int → Option (Int)} (hrec4 : ∀ (l1 l2 l3 : Int), rec4 l1 l2 l3 = some r → gj_W G l 2 0 0 yX3_pairsOf cX3_pairsOf 4 (some .int) (gj_qI fun x S' M' => r = x ∧ S = S' ∧ M = M') 0 0 4 [(0, jR 21), (1, jI l1), (2, jI l2), (3, jI l3)] [] S M) (l1 l2 l3 : Int) (hF : J_X3_pairsOf_36 M rec4 l1 l2 l3 = some r) : gj_W G l 2 0 0 yX3_pairsOf cX3_pairsOf 4 (some .int) (gj_qI fun x S' M' => r = x ∧ S = S' ∧ M = M') 0 0 36 [(0, jR 21), (1, jI l1), (2, jI l2), (3, jI l3)] [] S M := by
  unfold J_X3_pairsOf_36 at hF
  refine gj_iinc (q := 39) (v := gj_w (l3 + 1)) (gj_dk okX3_pairsOf 20 rfl) rfl (by decide) rfl rfl ?_
  refine gj_goto (tgt := 4) (gj_dk okX3_pairsOf 21 rfl) (by decide) ?_
  refine gj_sub [(0, jR 21), (1, jI l1), (2, jI l2), (3, jI (gj_w (l3 + 1)))] ⟨rfl, rfl, rfl, rfl, trivial⟩ ?_
  exact hrec4 l1 l2 (gj_w (l3 + 1)) hF
set_option maxHeartbeats 4000000 in
set_option maxRecDepth 20000 in
theorem t_B_X3_pairsOf_4 (hst : gj_Stat S) {r : Int} {rec4 : Int → Int → Int → Option (Int)} (hrec4 : ∀ (l1 l2 l3 : Int), rec4 l1 l2 l3 = some r → gj_W G l 2 0 0 yX3_pairsOf cX3_pairsOf 4 (some .int) (gj_qI fun x S' M' => r = x ∧ S = S' ∧ M = M') 0 0 4 [(0, jR 21), (1, jI l1), (2, jI l2), (3, jI l3)] [] S M) (l1 l2 l3 : Int) (hF : B_X3_pairsOf_4 M rec4 l1 l2 l3 = some r) : gj_W G l 2 0 0 yX3_pairsOf cX3_pairsOf 4 (some .int) (gj_qI fun x S' M' => r = x ∧ S = S' ∧ M = M') 0 0 4 [(0, jR 21), (1, jI l1), (2, jI l2), (3, jI l3)] [] S M := by
  unfold B_X3_pairsOf_4 at hF
  refine gj_iload_n (q := 5) (gj_dk okX3_pairsOf 4 rfl) rfl rfl ?_
  refine gj_iconst (q := 6) (gj_dk okX3_pairsOf 5 rfl) (by decide) rfl ?_
  refine gj_icmp_ge (q := 9) (tgt := 42) (gj_dk okX3_pairsOf 6 rfl) (by decide) rfl (fun c6 => ?_) (fun c6 => ?_)
  · -- 42
    replace hF := gj_ift c6 hF
    refine gj_iload_n (q := 43) (gj_dk okX3_pairsOf 22 rfl) rfl rfl ?_
    cases hF
    exact gj_iret (gj_dk okX3_pairsOf 23 rfl) rfl ⟨_, rfl, rfl, rfl, rfl⟩
  · -- 9
    replace hF := gj_iff c6 hF
    refine gj_aload_n (q := 10) (gj_dk okX3_pairsOf 7 rfl) rfl rfl ?_
    refine gj_gR (q := 13) (j := 3) (gj_dk okX3_pairsOf 8 rfl) ff_X3_9 (sh21 hst) (by decide) rfl (rf21_3 hst) rfl ?_
    refine gj_iload_n (q := 14) (gj_dk okX3_pairsOf 9 rfl) rfl rfl ?_
    refine gj_callS (q := 17) [jR 22, jI l3] rfl (c_X7_at (sh22 hst) (by decide) (by decide) _) (gj_dk okX3_pairsOf 10 rfl) ml_X3_75 me_X7_at (gj_nm rfl) rfl (gj_kI fun x S2 M2 h => ?_)
    obtain ⟨e, eS, eM⟩ := h; subst eS; subst eM; subst e
    refine gj_iconst (q := 18) (gj_dk okX3_pairsOf 11 rfl) (by decide) rfl ?_
    refine gj_icmp_eq (q := 21) (tgt := 36) (gj_dk okX3_pairsOf 12 rfl) (by decide) rfl (fun c18 => ?_) (fun c18 => ?_)
    · -- 36
      replace hF := gj_ift c18 hF
      refine gj_sub [(0, jR 21), (1, jI l1), (2, jI l2), (3, jI l3)] ⟨rfl, rfl, rfl, rfl, trivial⟩ ?_
      exact t_J_X3_pairsOf_36 hst hrec4 l1 l2 l3 hF
    · -- 21
      replace hF := gj_iff c18 hF
      refine gj_aload_n (q := 22) (gj_dk okX3_pairsOf 13 rfl) rfl rfl ?_
      refine gj_gR (q := 25) (j := 5) (gj_dk okX3_pairsOf 14 rfl) ff_X3_18 (sh21 hst) (by decide) rfl (rf21_5 hst) rfl ?_
      refine gj_iload_n (q := 26) (gj_dk okX3_pairsOf 15 rfl) rfl rfl ?_
      refine gj_callS (q := 29) [jR 24, jI l3] rfl (c_X7_at (sh24 hst) (by decide) (by decide) _) (gj_dk okX3_pairsOf 16 rfl) ml_X3_75 me_X7_at (gj_nm rfl) rfl (gj_kI fun x S2 M2 h => ?_)
      obtain ⟨e, eS, eM⟩ := h; subst eS; subst eM; subst e
      refine gj_iload_n (q := 30) (gj_dk okX3_pairsOf 17 rfl) rfl rfl ?_
      refine gj_icmp_lt (q := 33) (tgt := 36) (gj_dk okX3_pairsOf 18 rfl) (by decide) rfl (fun c30 => ?_) (fun c30 => ?_)
      · -- 36
        replace hF := gj_ift c30 hF
        refine gj_sub [(0, jR 21), (1, jI l1), (2, jI l2), (3, jI l3)] ⟨rfl, rfl, rfl, rfl, trivial⟩ ?_
        exact t_J_X3_pairsOf_36 hst hrec4 l1 l2 l3 hF
      · -- 33
        replace hF := gj_iff c30 hF
        refine gj_iinc (q := 36) (v := gj_w (l2 + 1)) (gj_dk okX3_pairsOf 19 rfl) rfl (by decide) rfl rfl ?_
        refine gj_sub [(0, jR 21), (1, jI l1), (2, jI (gj_w (l2 + 1))), (3, jI l3)] ⟨rfl, rfl, rfl, rfl, trivial⟩ ?_
        exact t_J_X3_pairsOf_36 hst hrec4 l1 (gj_w (l2 + 1)) l3 hF
theorem t_L_X3_pairsOf_4 (hst : gj_Stat S) {r : Int} : ∀ (m : Nat) (l1 : Int) (l2 : Int) (l3 : Int), gj_it (fun _ _ _ => none) (B_X3_pairsOf_4 M) m l1 l2 l3 = some r → gj_W G l 2 0 0 yX3_pairsOf cX3_pairsOf 4 (some .int) (gj_qI fun x S' M' => r = x ∧ S = S' ∧ M = M') 0 0 4 [(0, jR 21), (1, jI l1), (2, jI l2), (3, jI l3)] [] S M := by
  intro m
  induction m with
  | zero => intro l1 l2 l3 hF; cases (show (none : Option (Int)) = some r from hF)
  | succ m ih => intro l1 l2 l3 hF; exact t_B_X3_pairsOf_4 hst (fun l1 l2 l3 h => ih l1 l2 l3 h) l1 l2 l3 hF
set_option maxHeartbeats 4000000 in
set_option maxRecDepth 20000 in
theorem t_X3_pairsOf (hst : gj_Stat S) (a1 : Int) {r : Int} (hF : F_X3_pairsOf a1 M = some r) : gj_C G l 2 0 0 yX3_pairsOf cX3_pairsOf 4 (some .int) [jR 21, jI a1] S M (gj_qI fun x S' M' => r = x ∧ S = S' ∧ M = M') := by
  refine gj_Cof (by decide +kernel) (Nat.le_of_ble_eq_true rfl) ?_
  change gj_W G l 2 0 0 yX3_pairsOf cX3_pairsOf 4 (some .int) (gj_qI fun x S' M' => r = x ∧ S = S' ∧ M = M') 0 0 0 [(0, jR 21), (1, jI a1)] [] S M
  unfold F_X3_pairsOf at hF
  refine gj_iconst (q := 1) (gj_dk okX3_pairsOf 0 rfl) (by decide) rfl ?_
  refine gj_istore_n (q := 2) (gj_dk okX3_pairsOf 1 rfl) (by decide) rfl ?_
  refine gj_iconst (q := 3) (gj_dk okX3_pairsOf 2 rfl) (by decide) rfl ?_
  refine gj_istore_n (q := 4) (gj_dk okX3_pairsOf 3 rfl) (by decide) rfl ?_
  refine gj_sub [(0, jR 21), (1, jI a1), (2, jI 0), (3, jI 0)] ⟨rfl, rfl, rfl, rfl, trivial⟩ ?_
  exact t_L_X3_pairsOf_4 hst gj_fu a1 0 0 hF
def F_X11_pairs (a1 : Int) (a2 : Int) (M : gj_M) : Option (Int) :=
  (if a1 < 0 then (some (-1)) else (if a1 ≤ 100 then (if a2 = 0 then gj_bnd (F_X3_pairsOf 0 M) (fun x1 => (some (x1))) else (if a2 = 1 then gj_bnd (F_X3_pairsOf a1 M) (fun x3 => (some (x3))) else (some (-1)))) else (some (-1))))
set_option maxHeartbeats 4000000 in
set_option maxRecDepth 20000 in
theorem t_X11_pairs (hst : gj_Stat S) (a1 a2 : Int) {r : Int} (hF : F_X11_pairs a1 a2 M = some r) : gj_C G l 3 0 0 yX11_pairs cX11_pairs 3 (some .int) [jR 0, jI a1, jI a2] S M (gj_qI fun x S' M' => r = x ∧ S = S' ∧ M = M') := by
  refine gj_Cof (by decide +kernel) (Nat.le_of_ble_eq_true rfl) ?_
  change gj_W G l 3 0 0 yX11_pairs cX11_pairs 3 (some .int) (gj_qI fun x S' M' => r = x ∧ S = S' ∧ M = M') 0 0 0 [(0, jR 0), (1, jI a1), (2, jI a2)] [] S M
  unfold F_X11_pairs at hF
  refine gj_iload_n (q := 1) (gj_dk okX11_pairs 0 rfl) rfl rfl ?_
  refine gj_if_lt (q := 4) (tgt := 10) (gj_dk okX11_pairs 1 rfl) (by decide) rfl (fun c1 => ?_) (fun c1 => ?_)
  · -- 10
    replace hF := gj_ift c1 hF
    refine gj_iconst (q := 11) (gj_dk okX11_pairs 5 rfl) (by decide) rfl ?_
    cases hF
    exact gj_iret (gj_dk okX11_pairs 6 rfl) rfl ⟨_, rfl, rfl, rfl, rfl⟩
  · -- 4
    replace hF := gj_iff c1 hF
    refine gj_iload_n (q := 5) (gj_dk okX11_pairs 2 rfl) rfl rfl ?_
    refine gj_bipush (q := 7) (gj_dk okX11_pairs 3 rfl) (by decide) rfl rfl ?_
    refine gj_icmp_le (q := 10) (tgt := 12) (gj_dk okX11_pairs 4 rfl) (by decide) rfl (fun c7 => ?_) (fun c7 => ?_)
    · -- 12
      replace hF := gj_ift c7 hF
      refine gj_iload_n (q := 13) (gj_dk okX11_pairs 7 rfl) rfl rfl ?_
      by_cases c13_0 : a2 = 0
      · refine gj_lookup (tgt := 40) (off := 27) (gj_dk okX11_pairs 8 rfl) (by decide) (by rw [c13_0]; rfl) (by decide) ?_
        replace hF := gj_ift c13_0 hF
        refine gj_aload_n (q := 41) (gj_dk okX11_pairs 9 rfl) rfl rfl ?_
        refine gj_gR (q := 44) (j := 4) (gj_dk okX11_pairs 10 rfl) ff_X11_38 (sh0 hst) (by decide) rfl (rf0_4 hst) rfl ?_
        refine gj_iconst (q := 45) (gj_dk okX11_pairs 11 rfl) (by decide) rfl ?_
        obtain ⟨x1, hG, hF⟩ := gj_bndd hF
        refine gj_callV (q := 48) (z := 21) (ci := 3) [jI 0] rfl (t_X3_pairsOf hst 0 hG) (gj_dk okX11_pairs 12 rfl) ml_X11_311 me_X3_pairsOf (sh21 hst) rfl (gj_nm rfl) rfl (gj_kI fun y S2 M2 h => ?_)
        obtain ⟨e, eS, eM⟩ := h; subst eS; subst eM; subst e; clear hG
        cases hF
        exact gj_iret (gj_dk okX11_pairs 13 rfl) rfl ⟨_, rfl, rfl, rfl, rfl⟩
      replace hF := gj_iff c13_0 hF
      by_cases c13_1 : a2 = 1
      · refine gj_lookup (tgt := 49) (off := 36) (gj_dk okX11_pairs 8 rfl) (by decide) (by rw [c13_1]; rfl) (by decide) ?_
        replace hF := gj_ift c13_1 hF
        refine gj_aload_n (q := 50) (gj_dk okX11_pairs 14 rfl) rfl rfl ?_
        refine gj_gR (q := 53) (j := 4) (gj_dk okX11_pairs 15 rfl) ff_X11_38 (sh0 hst) (by decide) rfl (rf0_4 hst) rfl ?_
        refine gj_iload_n (q := 54) (gj_dk okX11_pairs 16 rfl) rfl rfl ?_
        obtain ⟨x3, hG, hF⟩ := gj_bndd hF
        refine gj_callV (q := 57) (z := 21) (ci := 3) [jI a1] rfl (t_X3_pairsOf hst a1 hG) (gj_dk okX11_pairs 17 rfl) ml_X11_311 me_X3_pairsOf (sh21 hst) rfl (gj_nm rfl) rfl (gj_kI fun y S2 M2 h => ?_)
        obtain ⟨e, eS, eM⟩ := h; subst eS; subst eM; subst e; clear hG
        cases hF
        exact gj_iret (gj_dk okX11_pairs 18 rfl) rfl ⟨_, rfl, rfl, rfl, rfl⟩
      replace hF := gj_iff c13_1 hF
      refine gj_lookup (tgt := 58) (off := 45) (gj_dk okX11_pairs 8 rfl) (by decide) (by simp [Op.lookupswitch.offset, c13_0, Ne.symm c13_0, c13_1, Ne.symm c13_1]) (by decide) ?_
      refine gj_iconst (q := 59) (gj_dk okX11_pairs 19 rfl) (by decide) rfl ?_
      cases hF
      exact gj_iret (gj_dk okX11_pairs 20 rfl) rfl ⟨_, rfl, rfl, rfl, rfl⟩
    · -- 10
      replace hF := gj_iff c7 hF
      refine gj_iconst (q := 11) (gj_dk okX11_pairs 5 rfl) (by decide) rfl ?_
      cases hF
      exact gj_iret (gj_dk okX11_pairs 6 rfl) rfl ⟨_, rfl, rfl, rfl, rfl⟩
def F_X11_pictureAt (a1 : Int) (M : gj_M) : Option (Int) :=
  (if a1 < 0 then (some (-1)) else (if a1 < 3 then gj_chk (0 ≤ a1 ∧ a1 < 3) ((if a1 = 0 then (some (47)) else (if a1 = 1 then (some (57)) else (some (67))))) else (some (-1))))
set_option maxHeartbeats 4000000 in
set_option maxRecDepth 20000 in
theorem t_X11_pictureAt (hst : gj_Stat S) (a1 : Int) {r : Int} (hF : F_X11_pictureAt a1 M = some r) : gj_C G l 1 0 0 yX11_pictureAt cX11_pictureAt 2 (some (.object "MayGreen$Life")) [jR 0, jI a1] S M (gj_qR fun x S' M' => r = x ∧ S = S' ∧ M = M') := by
  refine gj_Cof (by decide +kernel) (Nat.le_of_ble_eq_true rfl) ?_
  change gj_W G l 1 0 0 yX11_pictureAt cX11_pictureAt 2 (some (.object "MayGreen$Life")) (gj_qR fun x S' M' => r = x ∧ S = S' ∧ M = M') 0 0 0 [(0, jR 0), (1, jI a1)] [] S M
  unfold F_X11_pictureAt at hF
  refine gj_iload_n (q := 1) (gj_dk okX11_pictureAt 0 rfl) rfl rfl ?_
  refine gj_if_lt (q := 4) (tgt := 13) (gj_dk okX11_pictureAt 1 rfl) (by decide) rfl (fun c1 => ?_) (fun c1 => ?_)
  · -- 13
    replace hF := gj_ift c1 hF
    refine gj_null (q := 14) (gj_dk okX11_pictureAt 7 rfl) rfl ?_
    refine gj_goto (tgt := 23) (gj_dk okX11_pictureAt 8 rfl) (by decide) ?_
    cases hF
    exact gj_aret (gj_dk okX11_pictureAt 13 rfl) rfl ⟨_, rfl, rfl, rfl, rfl⟩
  · -- 4
    replace hF := gj_iff c1 hF
    refine gj_iload_n (q := 5) (gj_dk okX11_pictureAt 2 rfl) rfl rfl ?_
    refine gj_aload_n (q := 6) (gj_dk okX11_pictureAt 3 rfl) rfl rfl ?_
    refine gj_gR (q := 9) (j := 9) (gj_dk okX11_pictureAt 4 rfl) ff_X11_76 (sh0 hst) (by decide) rfl (rf0_9 hst) rfl ?_
    refine gj_alen (q := 10) (gj_dk okX11_pictureAt 5 rfl) (sh46 hst) (by decide) rfl ?_
    refine gj_icmp_lt (q := 13) (tgt := 17) (gj_dk okX11_pictureAt 6 rfl) (by decide) rfl (fun c10 => ?_) (fun c10 => ?_)
    · -- 17
      replace hF := gj_ift c10 hF
      refine gj_aload_n (q := 18) (gj_dk okX11_pictureAt 9 rfl) rfl rfl ?_
      refine gj_gR (q := 21) (j := 9) (gj_dk okX11_pictureAt 10 rfl) ff_X11_76 (sh0 hst) (by decide) rfl (rf0_9 hst) rfl ?_
      refine gj_iload_n (q := 22) (gj_dk okX11_pictureAt 11 rfl) rfl rfl ?_
      obtain ⟨b1, hF⟩ := gj_ckd hF
      by_cases i22_0 : a1 = 0
      · replace hF := gj_ift i22_0 hF
        refine gj_aald (q := 23) (w := 47) (gj_dk okX11_pictureAt 12 rfl) (sh46 hst) (by decide) (by omega) (by omega) (by rw [i22_0]; exact rf46_0 hst) rfl ?_
        cases hF
        exact gj_aret (gj_dk okX11_pictureAt 13 rfl) rfl ⟨_, rfl, rfl, rfl, rfl⟩
      replace hF := gj_iff i22_0 hF
      by_cases i22_1 : a1 = 1
      · replace hF := gj_ift i22_1 hF
        refine gj_aald (q := 23) (w := 57) (gj_dk okX11_pictureAt 12 rfl) (sh46 hst) (by decide) (by omega) (by omega) (by rw [i22_1]; exact rf46_1 hst) rfl ?_
        cases hF
        exact gj_aret (gj_dk okX11_pictureAt 13 rfl) rfl ⟨_, rfl, rfl, rfl, rfl⟩
      replace hF := gj_iff i22_1 hF
      have i22_2 : a1 = 2 := by omega
      refine gj_aald (q := 23) (w := 67) (gj_dk okX11_pictureAt 12 rfl) (sh46 hst) (by decide) (by omega) (by omega) (by rw [i22_2]; exact rf46_2 hst) rfl ?_
      cases hF
      exact gj_aret (gj_dk okX11_pictureAt 13 rfl) rfl ⟨_, rfl, rfl, rfl, rfl⟩
    · -- 13
      replace hF := gj_iff c10 hF
      refine gj_null (q := 14) (gj_dk okX11_pictureAt 7 rfl) rfl ?_
      refine gj_goto (tgt := 23) (gj_dk okX11_pictureAt 8 rfl) (by decide) ?_
      cases hF
      exact gj_aret (gj_dk okX11_pictureAt 13 rfl) rfl ⟨_, rfl, rfl, rfl, rfl⟩
def f_X1_copyOf_55_29 (M : gj_M) : gj_M :=
  gj_let (gj_up M 55 1 (M 29 1)) (fun M1 => gj_let (gj_up M1 55 2 (M1 29 2)) (fun M2 => gj_let (f_copy M2 30 200 56 200) (fun M3 => (M3))))
set_option maxHeartbeats 4000000 in
set_option maxRecDepth 20000 in
theorem t_X1_copyOf_55_29 (hst : gj_Stat S) {r : gj_M} (hF : f_X1_copyOf_55_29 M = r) : gj_C G l 2 0 0 yX1_copyOf cX1_copyOf 2 none [jR 55, jR 29] S M (gj_qV fun S' M' => S = S' ∧ r = M') := by
  refine gj_Cof (by decide +kernel) (Nat.le_of_ble_eq_true rfl) ?_
  change gj_W G l 2 0 0 yX1_copyOf cX1_copyOf 2 none (gj_qV fun S' M' => S = S' ∧ r = M') 0 0 0 [(0, jR 55), (1, jR 29)] [] S M
  unfold f_X1_copyOf_55_29 at hF
  refine gj_aload_n (q := 1) (gj_dk okX1_copyOf 0 rfl) rfl rfl ?_
  refine gj_ifnonnull (q := 4) (tgt := 5) (gj_dk okX1_copyOf 1 rfl) (by decide) rfl (fun _ => ?_) (fun cc => absurd cc (by decide))
  refine gj_aload_n (q := 6) (gj_dk okX1_copyOf 3 rfl) rfl rfl ?_
  refine gj_aload_n (q := 7) (gj_dk okX1_copyOf 4 rfl) rfl rfl ?_
  refine gj_gI (q := 10) (j := 1) (gj_dk okX1_copyOf 5 rfl) ff_X1_19 (sh29 hst) (by decide) rfl rfl ?_
  refine gj_pfI (q := 13) (j := 1) (gj_dk okX1_copyOf 6 rfl) ff_X1_19 (sh55 hst) (by decide) rfl rfl ?_
  refine gj_stp hF (fun M1 hF => ?_)
  refine gj_aload_n (q := 14) (gj_dk okX1_copyOf 7 rfl) rfl rfl ?_
  refine gj_aload_n (q := 15) (gj_dk okX1_copyOf 8 rfl) rfl rfl ?_
  refine gj_gI (q := 18) (j := 2) (gj_dk okX1_copyOf 9 rfl) ff_X1_15 (sh29 hst) (by decide) rfl rfl ?_
  refine gj_pfI (q := 21) (j := 2) (gj_dk okX1_copyOf 10 rfl) ff_X1_15 (sh55 hst) (by decide) rfl rfl ?_
  refine gj_stp hF (fun M2 hF => ?_)
  refine gj_aload_n (q := 22) (gj_dk okX1_copyOf 11 rfl) rfl rfl ?_
  refine gj_gR (q := 25) (j := 0) (gj_dk okX1_copyOf 12 rfl) ff_X1_11 (sh29 hst) (by decide) rfl (rf29_0 hst) rfl ?_
  refine gj_aload_n (q := 26) (gj_dk okX1_copyOf 13 rfl) rfl rfl ?_
  refine gj_gR (q := 29) (j := 0) (gj_dk okX1_copyOf 14 rfl) ff_X1_11 (sh55 hst) (by decide) rfl (rf55_0 hst) rfl ?_
  refine gj_callS (q := 32) [jR 30, jR 56] rfl (c_X7_copy (sh30 hst) (by decide) (by decide) (sh56 hst) (by decide) (by decide) (by decide)) (gj_dk okX1_copyOf 15 rfl) ml_X1_22 me_X7_copy (gj_nm rfl) rfl (gj_kV fun S2 M2 h => ?_)
  obtain ⟨eS, eM⟩ := h; subst eS; subst eM
  refine gj_stp hF (fun M3 hF => ?_)
  subst hF
  exact gj_vret (gj_dk okX1_copyOf 16 rfl) rfl ⟨rfl, rfl, rfl⟩
def f_X1_copyOf_65_29 (M : gj_M) : gj_M :=
  gj_let (gj_up M 65 1 (M 29 1)) (fun M1 => gj_let (gj_up M1 65 2 (M1 29 2)) (fun M2 => gj_let (f_copy M2 30 200 66 200) (fun M3 => (M3))))
set_option maxHeartbeats 4000000 in
set_option maxRecDepth 20000 in
theorem t_X1_copyOf_65_29 (hst : gj_Stat S) {r : gj_M} (hF : f_X1_copyOf_65_29 M = r) : gj_C G l 2 0 0 yX1_copyOf cX1_copyOf 2 none [jR 65, jR 29] S M (gj_qV fun S' M' => S = S' ∧ r = M') := by
  refine gj_Cof (by decide +kernel) (Nat.le_of_ble_eq_true rfl) ?_
  change gj_W G l 2 0 0 yX1_copyOf cX1_copyOf 2 none (gj_qV fun S' M' => S = S' ∧ r = M') 0 0 0 [(0, jR 65), (1, jR 29)] [] S M
  unfold f_X1_copyOf_65_29 at hF
  refine gj_aload_n (q := 1) (gj_dk okX1_copyOf 0 rfl) rfl rfl ?_
  refine gj_ifnonnull (q := 4) (tgt := 5) (gj_dk okX1_copyOf 1 rfl) (by decide) rfl (fun _ => ?_) (fun cc => absurd cc (by decide))
  refine gj_aload_n (q := 6) (gj_dk okX1_copyOf 3 rfl) rfl rfl ?_
  refine gj_aload_n (q := 7) (gj_dk okX1_copyOf 4 rfl) rfl rfl ?_
  refine gj_gI (q := 10) (j := 1) (gj_dk okX1_copyOf 5 rfl) ff_X1_19 (sh29 hst) (by decide) rfl rfl ?_
  refine gj_pfI (q := 13) (j := 1) (gj_dk okX1_copyOf 6 rfl) ff_X1_19 (sh65 hst) (by decide) rfl rfl ?_
  refine gj_stp hF (fun M1 hF => ?_)
  refine gj_aload_n (q := 14) (gj_dk okX1_copyOf 7 rfl) rfl rfl ?_
  refine gj_aload_n (q := 15) (gj_dk okX1_copyOf 8 rfl) rfl rfl ?_
  refine gj_gI (q := 18) (j := 2) (gj_dk okX1_copyOf 9 rfl) ff_X1_15 (sh29 hst) (by decide) rfl rfl ?_
  refine gj_pfI (q := 21) (j := 2) (gj_dk okX1_copyOf 10 rfl) ff_X1_15 (sh65 hst) (by decide) rfl rfl ?_
  refine gj_stp hF (fun M2 hF => ?_)
  refine gj_aload_n (q := 22) (gj_dk okX1_copyOf 11 rfl) rfl rfl ?_
  refine gj_gR (q := 25) (j := 0) (gj_dk okX1_copyOf 12 rfl) ff_X1_11 (sh29 hst) (by decide) rfl (rf29_0 hst) rfl ?_
  refine gj_aload_n (q := 26) (gj_dk okX1_copyOf 13 rfl) rfl rfl ?_
  refine gj_gR (q := 29) (j := 0) (gj_dk okX1_copyOf 14 rfl) ff_X1_11 (sh65 hst) (by decide) rfl (rf65_0 hst) rfl ?_
  refine gj_callS (q := 32) [jR 30, jR 66] rfl (c_X7_copy (sh30 hst) (by decide) (by decide) (sh66 hst) (by decide) (by decide) (by decide)) (gj_dk okX1_copyOf 15 rfl) ml_X1_22 me_X7_copy (gj_nm rfl) rfl (gj_kV fun S2 M2 h => ?_)
  obtain ⟨eS, eM⟩ := h; subst eS; subst eM
  refine gj_stp hF (fun M3 hF => ?_)
  subst hF
  exact gj_vret (gj_dk okX1_copyOf 16 rfl) rfl ⟨rfl, rfl, rfl⟩
def f_X1_copyOf_75_29 (M : gj_M) : gj_M :=
  gj_let (gj_up M 75 1 (M 29 1)) (fun M1 => gj_let (gj_up M1 75 2 (M1 29 2)) (fun M2 => gj_let (f_copy M2 30 200 76 200) (fun M3 => (M3))))
set_option maxHeartbeats 4000000 in
set_option maxRecDepth 20000 in
theorem t_X1_copyOf_75_29 (hst : gj_Stat S) {r : gj_M} (hF : f_X1_copyOf_75_29 M = r) : gj_C G l 2 0 0 yX1_copyOf cX1_copyOf 2 none [jR 75, jR 29] S M (gj_qV fun S' M' => S = S' ∧ r = M') := by
  refine gj_Cof (by decide +kernel) (Nat.le_of_ble_eq_true rfl) ?_
  change gj_W G l 2 0 0 yX1_copyOf cX1_copyOf 2 none (gj_qV fun S' M' => S = S' ∧ r = M') 0 0 0 [(0, jR 75), (1, jR 29)] [] S M
  unfold f_X1_copyOf_75_29 at hF
  refine gj_aload_n (q := 1) (gj_dk okX1_copyOf 0 rfl) rfl rfl ?_
  refine gj_ifnonnull (q := 4) (tgt := 5) (gj_dk okX1_copyOf 1 rfl) (by decide) rfl (fun _ => ?_) (fun cc => absurd cc (by decide))
  refine gj_aload_n (q := 6) (gj_dk okX1_copyOf 3 rfl) rfl rfl ?_
  refine gj_aload_n (q := 7) (gj_dk okX1_copyOf 4 rfl) rfl rfl ?_
  refine gj_gI (q := 10) (j := 1) (gj_dk okX1_copyOf 5 rfl) ff_X1_19 (sh29 hst) (by decide) rfl rfl ?_
  refine gj_pfI (q := 13) (j := 1) (gj_dk okX1_copyOf 6 rfl) ff_X1_19 (sh75 hst) (by decide) rfl rfl ?_
  refine gj_stp hF (fun M1 hF => ?_)
  refine gj_aload_n (q := 14) (gj_dk okX1_copyOf 7 rfl) rfl rfl ?_
  refine gj_aload_n (q := 15) (gj_dk okX1_copyOf 8 rfl) rfl rfl ?_
  refine gj_gI (q := 18) (j := 2) (gj_dk okX1_copyOf 9 rfl) ff_X1_15 (sh29 hst) (by decide) rfl rfl ?_
  refine gj_pfI (q := 21) (j := 2) (gj_dk okX1_copyOf 10 rfl) ff_X1_15 (sh75 hst) (by decide) rfl rfl ?_
  refine gj_stp hF (fun M2 hF => ?_)
  refine gj_aload_n (q := 22) (gj_dk okX1_copyOf 11 rfl) rfl rfl ?_
  refine gj_gR (q := 25) (j := 0) (gj_dk okX1_copyOf 12 rfl) ff_X1_11 (sh29 hst) (by decide) rfl (rf29_0 hst) rfl ?_
  refine gj_aload_n (q := 26) (gj_dk okX1_copyOf 13 rfl) rfl rfl ?_
  refine gj_gR (q := 29) (j := 0) (gj_dk okX1_copyOf 14 rfl) ff_X1_11 (sh75 hst) (by decide) rfl (rf75_0 hst) rfl ?_
  refine gj_callS (q := 32) [jR 30, jR 76] rfl (c_X7_copy (sh30 hst) (by decide) (by decide) (sh76 hst) (by decide) (by decide) (by decide)) (gj_dk okX1_copyOf 15 rfl) ml_X1_22 me_X7_copy (gj_nm rfl) rfl (gj_kV fun S2 M2 h => ?_)
  obtain ⟨eS, eM⟩ := h; subst eS; subst eM
  refine gj_stp hF (fun M3 hF => ?_)
  subst hF
  exact gj_vret (gj_dk okX1_copyOf 16 rfl) rfl ⟨rfl, rfl, rfl⟩
def f_X1_copyOf_29_55 (M : gj_M) : gj_M :=
  gj_let (gj_up M 29 1 (M 55 1)) (fun M1 => gj_let (gj_up M1 29 2 (M1 55 2)) (fun M2 => gj_let (f_copy M2 56 200 30 200) (fun M3 => (M3))))
set_option maxHeartbeats 4000000 in
set_option maxRecDepth 20000 in
theorem t_X1_copyOf_29_55 (hst : gj_Stat S) {r : gj_M} (hF : f_X1_copyOf_29_55 M = r) : gj_C G l 2 0 0 yX1_copyOf cX1_copyOf 2 none [jR 29, jR 55] S M (gj_qV fun S' M' => S = S' ∧ r = M') := by
  refine gj_Cof (by decide +kernel) (Nat.le_of_ble_eq_true rfl) ?_
  change gj_W G l 2 0 0 yX1_copyOf cX1_copyOf 2 none (gj_qV fun S' M' => S = S' ∧ r = M') 0 0 0 [(0, jR 29), (1, jR 55)] [] S M
  unfold f_X1_copyOf_29_55 at hF
  refine gj_aload_n (q := 1) (gj_dk okX1_copyOf 0 rfl) rfl rfl ?_
  refine gj_ifnonnull (q := 4) (tgt := 5) (gj_dk okX1_copyOf 1 rfl) (by decide) rfl (fun _ => ?_) (fun cc => absurd cc (by decide))
  refine gj_aload_n (q := 6) (gj_dk okX1_copyOf 3 rfl) rfl rfl ?_
  refine gj_aload_n (q := 7) (gj_dk okX1_copyOf 4 rfl) rfl rfl ?_
  refine gj_gI (q := 10) (j := 1) (gj_dk okX1_copyOf 5 rfl) ff_X1_19 (sh55 hst) (by decide) rfl rfl ?_
  refine gj_pfI (q := 13) (j := 1) (gj_dk okX1_copyOf 6 rfl) ff_X1_19 (sh29 hst) (by decide) rfl rfl ?_
  refine gj_stp hF (fun M1 hF => ?_)
  refine gj_aload_n (q := 14) (gj_dk okX1_copyOf 7 rfl) rfl rfl ?_
  refine gj_aload_n (q := 15) (gj_dk okX1_copyOf 8 rfl) rfl rfl ?_
  refine gj_gI (q := 18) (j := 2) (gj_dk okX1_copyOf 9 rfl) ff_X1_15 (sh55 hst) (by decide) rfl rfl ?_
  refine gj_pfI (q := 21) (j := 2) (gj_dk okX1_copyOf 10 rfl) ff_X1_15 (sh29 hst) (by decide) rfl rfl ?_
  refine gj_stp hF (fun M2 hF => ?_)
  refine gj_aload_n (q := 22) (gj_dk okX1_copyOf 11 rfl) rfl rfl ?_
  refine gj_gR (q := 25) (j := 0) (gj_dk okX1_copyOf 12 rfl) ff_X1_11 (sh55 hst) (by decide) rfl (rf55_0 hst) rfl ?_
  refine gj_aload_n (q := 26) (gj_dk okX1_copyOf 13 rfl) rfl rfl ?_
  refine gj_gR (q := 29) (j := 0) (gj_dk okX1_copyOf 14 rfl) ff_X1_11 (sh29 hst) (by decide) rfl (rf29_0 hst) rfl ?_
  refine gj_callS (q := 32) [jR 56, jR 30] rfl (c_X7_copy (sh56 hst) (by decide) (by decide) (sh30 hst) (by decide) (by decide) (by decide)) (gj_dk okX1_copyOf 15 rfl) ml_X1_22 me_X7_copy (gj_nm rfl) rfl (gj_kV fun S2 M2 h => ?_)
  obtain ⟨eS, eM⟩ := h; subst eS; subst eM
  refine gj_stp hF (fun M3 hF => ?_)
  subst hF
  exact gj_vret (gj_dk okX1_copyOf 16 rfl) rfl ⟨rfl, rfl, rfl⟩
def f_X1_copyOf_29_65 (M : gj_M) : gj_M :=
  gj_let (gj_up M 29 1 (M 65 1)) (fun M1 => gj_let (gj_up M1 29 2 (M1 65 2)) (fun M2 => gj_let (f_copy M2 66 200 30 200) (fun M3 => (M3))))
set_option maxHeartbeats 4000000 in
set_option maxRecDepth 20000 in
theorem t_X1_copyOf_29_65 (hst : gj_Stat S) {r : gj_M} (hF : f_X1_copyOf_29_65 M = r) : gj_C G l 2 0 0 yX1_copyOf cX1_copyOf 2 none [jR 29, jR 65] S M (gj_qV fun S' M' => S = S' ∧ r = M') := by
  refine gj_Cof (by decide +kernel) (Nat.le_of_ble_eq_true rfl) ?_
  change gj_W G l 2 0 0 yX1_copyOf cX1_copyOf 2 none (gj_qV fun S' M' => S = S' ∧ r = M') 0 0 0 [(0, jR 29), (1, jR 65)] [] S M
  unfold f_X1_copyOf_29_65 at hF
  refine gj_aload_n (q := 1) (gj_dk okX1_copyOf 0 rfl) rfl rfl ?_
  refine gj_ifnonnull (q := 4) (tgt := 5) (gj_dk okX1_copyOf 1 rfl) (by decide) rfl (fun _ => ?_) (fun cc => absurd cc (by decide))
  refine gj_aload_n (q := 6) (gj_dk okX1_copyOf 3 rfl) rfl rfl ?_
  refine gj_aload_n (q := 7) (gj_dk okX1_copyOf 4 rfl) rfl rfl ?_
  refine gj_gI (q := 10) (j := 1) (gj_dk okX1_copyOf 5 rfl) ff_X1_19 (sh65 hst) (by decide) rfl rfl ?_
  refine gj_pfI (q := 13) (j := 1) (gj_dk okX1_copyOf 6 rfl) ff_X1_19 (sh29 hst) (by decide) rfl rfl ?_
  refine gj_stp hF (fun M1 hF => ?_)
  refine gj_aload_n (q := 14) (gj_dk okX1_copyOf 7 rfl) rfl rfl ?_
  refine gj_aload_n (q := 15) (gj_dk okX1_copyOf 8 rfl) rfl rfl ?_
  refine gj_gI (q := 18) (j := 2) (gj_dk okX1_copyOf 9 rfl) ff_X1_15 (sh65 hst) (by decide) rfl rfl ?_
  refine gj_pfI (q := 21) (j := 2) (gj_dk okX1_copyOf 10 rfl) ff_X1_15 (sh29 hst) (by decide) rfl rfl ?_
  refine gj_stp hF (fun M2 hF => ?_)
  refine gj_aload_n (q := 22) (gj_dk okX1_copyOf 11 rfl) rfl rfl ?_
  refine gj_gR (q := 25) (j := 0) (gj_dk okX1_copyOf 12 rfl) ff_X1_11 (sh65 hst) (by decide) rfl (rf65_0 hst) rfl ?_
  refine gj_aload_n (q := 26) (gj_dk okX1_copyOf 13 rfl) rfl rfl ?_
  refine gj_gR (q := 29) (j := 0) (gj_dk okX1_copyOf 14 rfl) ff_X1_11 (sh29 hst) (by decide) rfl (rf29_0 hst) rfl ?_
  refine gj_callS (q := 32) [jR 66, jR 30] rfl (c_X7_copy (sh66 hst) (by decide) (by decide) (sh30 hst) (by decide) (by decide) (by decide)) (gj_dk okX1_copyOf 15 rfl) ml_X1_22 me_X7_copy (gj_nm rfl) rfl (gj_kV fun S2 M2 h => ?_)
  obtain ⟨eS, eM⟩ := h; subst eS; subst eM
  refine gj_stp hF (fun M3 hF => ?_)
  subst hF
  exact gj_vret (gj_dk okX1_copyOf 16 rfl) rfl ⟨rfl, rfl, rfl⟩
def f_X1_copyOf_29_75 (M : gj_M) : gj_M :=
  gj_let (gj_up M 29 1 (M 75 1)) (fun M1 => gj_let (gj_up M1 29 2 (M1 75 2)) (fun M2 => gj_let (f_copy M2 76 200 30 200) (fun M3 => (M3))))
set_option maxHeartbeats 4000000 in
set_option maxRecDepth 20000 in
theorem t_X1_copyOf_29_75 (hst : gj_Stat S) {r : gj_M} (hF : f_X1_copyOf_29_75 M = r) : gj_C G l 2 0 0 yX1_copyOf cX1_copyOf 2 none [jR 29, jR 75] S M (gj_qV fun S' M' => S = S' ∧ r = M') := by
  refine gj_Cof (by decide +kernel) (Nat.le_of_ble_eq_true rfl) ?_
  change gj_W G l 2 0 0 yX1_copyOf cX1_copyOf 2 none (gj_qV fun S' M' => S = S' ∧ r = M') 0 0 0 [(0, jR 29), (1, jR 75)] [] S M
  unfold f_X1_copyOf_29_75 at hF
  refine gj_aload_n (q := 1) (gj_dk okX1_copyOf 0 rfl) rfl rfl ?_
  refine gj_ifnonnull (q := 4) (tgt := 5) (gj_dk okX1_copyOf 1 rfl) (by decide) rfl (fun _ => ?_) (fun cc => absurd cc (by decide))
  refine gj_aload_n (q := 6) (gj_dk okX1_copyOf 3 rfl) rfl rfl ?_
  refine gj_aload_n (q := 7) (gj_dk okX1_copyOf 4 rfl) rfl rfl ?_
  refine gj_gI (q := 10) (j := 1) (gj_dk okX1_copyOf 5 rfl) ff_X1_19 (sh75 hst) (by decide) rfl rfl ?_
  refine gj_pfI (q := 13) (j := 1) (gj_dk okX1_copyOf 6 rfl) ff_X1_19 (sh29 hst) (by decide) rfl rfl ?_
  refine gj_stp hF (fun M1 hF => ?_)
  refine gj_aload_n (q := 14) (gj_dk okX1_copyOf 7 rfl) rfl rfl ?_
  refine gj_aload_n (q := 15) (gj_dk okX1_copyOf 8 rfl) rfl rfl ?_
  refine gj_gI (q := 18) (j := 2) (gj_dk okX1_copyOf 9 rfl) ff_X1_15 (sh75 hst) (by decide) rfl rfl ?_
  refine gj_pfI (q := 21) (j := 2) (gj_dk okX1_copyOf 10 rfl) ff_X1_15 (sh29 hst) (by decide) rfl rfl ?_
  refine gj_stp hF (fun M2 hF => ?_)
  refine gj_aload_n (q := 22) (gj_dk okX1_copyOf 11 rfl) rfl rfl ?_
  refine gj_gR (q := 25) (j := 0) (gj_dk okX1_copyOf 12 rfl) ff_X1_11 (sh75 hst) (by decide) rfl (rf75_0 hst) rfl ?_
  refine gj_aload_n (q := 26) (gj_dk okX1_copyOf 13 rfl) rfl rfl ?_
  refine gj_gR (q := 29) (j := 0) (gj_dk okX1_copyOf 14 rfl) ff_X1_11 (sh29 hst) (by decide) rfl (rf29_0 hst) rfl ?_
  refine gj_callS (q := 32) [jR 76, jR 30] rfl (c_X7_copy (sh76 hst) (by decide) (by decide) (sh30 hst) (by decide) (by decide) (by decide)) (gj_dk okX1_copyOf 15 rfl) ml_X1_22 me_X7_copy (gj_nm rfl) rfl (gj_kV fun S2 M2 h => ?_)
  obtain ⟨eS, eM⟩ := h; subst eS; subst eM
  refine gj_stp hF (fun M3 hF => ?_)
  subst hF
  exact gj_vret (gj_dk okX1_copyOf 16 rfl) rfl ⟨rfl, rfl, rfl⟩
def f_X3_copyOf_47_21 (M : gj_M) : gj_M :=
  gj_let (gj_up M 47 0 (M 21 0)) (fun M1 => gj_let (gj_up M1 47 1 (M1 21 1)) (fun M2 => gj_let (gj_up M2 47 2 (M2 21 2)) (fun M3 => gj_let (f_copy M3 22 8 48 8) (fun M4 => gj_let (f_copy M4 23 8 49 8) (fun M5 => gj_let (f_copy M5 24 8 50 8) (fun M6 => gj_let (f_copy M6 25 8 51 8) (fun M7 => gj_let (f_copy M7 26 16 52 16) (fun M8 => gj_let (f_copy M8 27 16 53 16) (fun M9 => gj_let (f_copy M9 28 16 54 16) (fun M10 => gj_let (f_X1_copyOf_55_29 M10) (fun M11 => (M11))))))))))))
set_option maxHeartbeats 4000000 in
set_option maxRecDepth 20000 in
theorem t_X3_copyOf_47_21 (hst : gj_Stat S) {r : gj_M} (hF : f_X3_copyOf_47_21 M = r) : gj_C G l 3 0 0 yX3_copyOf cX3_copyOf 2 none [jR 47, jR 21] S M (gj_qV fun S' M' => S = S' ∧ r = M') := by
  refine gj_Cof (by decide +kernel) (Nat.le_of_ble_eq_true rfl) ?_
  change gj_W G l 3 0 0 yX3_copyOf cX3_copyOf 2 none (gj_qV fun S' M' => S = S' ∧ r = M') 0 0 0 [(0, jR 47), (1, jR 21)] [] S M
  unfold f_X3_copyOf_47_21 at hF
  refine gj_aload_n (q := 1) (gj_dk okX3_copyOf 0 rfl) rfl rfl ?_
  refine gj_ifnonnull (q := 4) (tgt := 5) (gj_dk okX3_copyOf 1 rfl) (by decide) rfl (fun _ => ?_) (fun cc => absurd cc (by decide))
  refine gj_aload_n (q := 6) (gj_dk okX3_copyOf 3 rfl) rfl rfl ?_
  refine gj_aload_n (q := 7) (gj_dk okX3_copyOf 4 rfl) rfl rfl ?_
  refine gj_gI (q := 10) (j := 0) (gj_dk okX3_copyOf 5 rfl) ff_X3_46 (sh21 hst) (by decide) rfl rfl ?_
  refine gj_pfI (q := 13) (j := 0) (gj_dk okX3_copyOf 6 rfl) ff_X3_46 (sh47 hst) (by decide) rfl rfl ?_
  refine gj_stp hF (fun M1 hF => ?_)
  refine gj_aload_n (q := 14) (gj_dk okX3_copyOf 7 rfl) rfl rfl ?_
  refine gj_aload_n (q := 15) (gj_dk okX3_copyOf 8 rfl) rfl rfl ?_
  refine gj_gI (q := 18) (j := 1) (gj_dk okX3_copyOf 9 rfl) ff_X3_50 (sh21 hst) (by decide) rfl rfl ?_
  refine gj_pfI (q := 21) (j := 1) (gj_dk okX3_copyOf 10 rfl) ff_X3_50 (sh47 hst) (by decide) rfl rfl ?_
  refine gj_stp hF (fun M2 hF => ?_)
  refine gj_aload_n (q := 22) (gj_dk okX3_copyOf 11 rfl) rfl rfl ?_
  refine gj_aload_n (q := 23) (gj_dk okX3_copyOf 12 rfl) rfl rfl ?_
  refine gj_gI (q := 26) (j := 2) (gj_dk okX3_copyOf 13 rfl) ff_X3_53 (sh21 hst) (by decide) rfl rfl ?_
  refine gj_pfI (q := 29) (j := 2) (gj_dk okX3_copyOf 14 rfl) ff_X3_53 (sh47 hst) (by decide) rfl rfl ?_
  refine gj_stp hF (fun M3 hF => ?_)
  refine gj_aload_n (q := 30) (gj_dk okX3_copyOf 15 rfl) rfl rfl ?_
  refine gj_gR (q := 33) (j := 3) (gj_dk okX3_copyOf 16 rfl) ff_X3_9 (sh21 hst) (by decide) rfl (rf21_3 hst) rfl ?_
  refine gj_aload_n (q := 34) (gj_dk okX3_copyOf 17 rfl) rfl rfl ?_
  refine gj_gR (q := 37) (j := 3) (gj_dk okX3_copyOf 18 rfl) ff_X3_9 (sh47 hst) (by decide) rfl (rf47_3 hst) rfl ?_
  refine gj_callS (q := 40) [jR 22, jR 48] rfl (c_X7_copy (sh22 hst) (by decide) (by decide) (sh48 hst) (by decide) (by decide) (by decide)) (gj_dk okX3_copyOf 19 rfl) ml_X3_59 me_X7_copy (gj_nm rfl) rfl (gj_kV fun S2 M2 h => ?_)
  obtain ⟨eS, eM⟩ := h; subst eS; subst eM
  refine gj_stp hF (fun M4 hF => ?_)
  refine gj_aload_n (q := 41) (gj_dk okX3_copyOf 20 rfl) rfl rfl ?_
  refine gj_gR (q := 44) (j := 4) (gj_dk okX3_copyOf 21 rfl) ff_X3_15 (sh21 hst) (by decide) rfl (rf21_4 hst) rfl ?_
  refine gj_aload_n (q := 45) (gj_dk okX3_copyOf 22 rfl) rfl rfl ?_
  refine gj_gR (q := 48) (j := 4) (gj_dk okX3_copyOf 23 rfl) ff_X3_15 (sh47 hst) (by decide) rfl (rf47_4 hst) rfl ?_
  refine gj_callS (q := 51) [jR 23, jR 49] rfl (c_X7_copy (sh23 hst) (by decide) (by decide) (sh49 hst) (by decide) (by decide) (by decide)) (gj_dk okX3_copyOf 24 rfl) ml_X3_59 me_X7_copy (gj_nm rfl) rfl (gj_kV fun S2 M2 h => ?_)
  obtain ⟨eS, eM⟩ := h; subst eS; subst eM
  refine gj_stp hF (fun M5 hF => ?_)
  refine gj_aload_n (q := 52) (gj_dk okX3_copyOf 25 rfl) rfl rfl ?_
  refine gj_gR (q := 55) (j := 5) (gj_dk okX3_copyOf 26 rfl) ff_X3_18 (sh21 hst) (by decide) rfl (rf21_5 hst) rfl ?_
  refine gj_aload_n (q := 56) (gj_dk okX3_copyOf 27 rfl) rfl rfl ?_
  refine gj_gR (q := 59) (j := 5) (gj_dk okX3_copyOf 28 rfl) ff_X3_18 (sh47 hst) (by decide) rfl (rf47_5 hst) rfl ?_
  refine gj_callS (q := 62) [jR 24, jR 50] rfl (c_X7_copy (sh24 hst) (by decide) (by decide) (sh50 hst) (by decide) (by decide) (by decide)) (gj_dk okX3_copyOf 29 rfl) ml_X3_59 me_X7_copy (gj_nm rfl) rfl (gj_kV fun S2 M2 h => ?_)
  obtain ⟨eS, eM⟩ := h; subst eS; subst eM
  refine gj_stp hF (fun M6 hF => ?_)
  refine gj_aload_n (q := 63) (gj_dk okX3_copyOf 30 rfl) rfl rfl ?_
  refine gj_gR (q := 66) (j := 6) (gj_dk okX3_copyOf 31 rfl) ff_X3_21 (sh21 hst) (by decide) rfl (rf21_6 hst) rfl ?_
  refine gj_aload_n (q := 67) (gj_dk okX3_copyOf 32 rfl) rfl rfl ?_
  refine gj_gR (q := 70) (j := 6) (gj_dk okX3_copyOf 33 rfl) ff_X3_21 (sh47 hst) (by decide) rfl (rf47_6 hst) rfl ?_
  refine gj_callS (q := 73) [jR 25, jR 51] rfl (c_X7_copy (sh25 hst) (by decide) (by decide) (sh51 hst) (by decide) (by decide) (by decide)) (gj_dk okX3_copyOf 34 rfl) ml_X3_59 me_X7_copy (gj_nm rfl) rfl (gj_kV fun S2 M2 h => ?_)
  obtain ⟨eS, eM⟩ := h; subst eS; subst eM
  refine gj_stp hF (fun M7 hF => ?_)
  refine gj_aload_n (q := 74) (gj_dk okX3_copyOf 35 rfl) rfl rfl ?_
  refine gj_gR (q := 77) (j := 7) (gj_dk okX3_copyOf 36 rfl) ff_X3_24 (sh21 hst) (by decide) rfl (rf21_7 hst) rfl ?_
  refine gj_aload_n (q := 78) (gj_dk okX3_copyOf 37 rfl) rfl rfl ?_
  refine gj_gR (q := 81) (j := 7) (gj_dk okX3_copyOf 38 rfl) ff_X3_24 (sh47 hst) (by decide) rfl (rf47_7 hst) rfl ?_
  refine gj_callS (q := 84) [jR 26, jR 52] rfl (c_X7_copy (sh26 hst) (by decide) (by decide) (sh52 hst) (by decide) (by decide) (by decide)) (gj_dk okX3_copyOf 39 rfl) ml_X3_59 me_X7_copy (gj_nm rfl) rfl (gj_kV fun S2 M2 h => ?_)
  obtain ⟨eS, eM⟩ := h; subst eS; subst eM
  refine gj_stp hF (fun M8 hF => ?_)
  refine gj_aload_n (q := 85) (gj_dk okX3_copyOf 40 rfl) rfl rfl ?_
  refine gj_gR (q := 88) (j := 8) (gj_dk okX3_copyOf 41 rfl) ff_X3_27 (sh21 hst) (by decide) rfl (rf21_8 hst) rfl ?_
  refine gj_aload_n (q := 89) (gj_dk okX3_copyOf 42 rfl) rfl rfl ?_
  refine gj_gR (q := 92) (j := 8) (gj_dk okX3_copyOf 43 rfl) ff_X3_27 (sh47 hst) (by decide) rfl (rf47_8 hst) rfl ?_
  refine gj_callS (q := 95) [jR 27, jR 53] rfl (c_X7_copy (sh27 hst) (by decide) (by decide) (sh53 hst) (by decide) (by decide) (by decide)) (gj_dk okX3_copyOf 44 rfl) ml_X3_59 me_X7_copy (gj_nm rfl) rfl (gj_kV fun S2 M2 h => ?_)
  obtain ⟨eS, eM⟩ := h; subst eS; subst eM
  refine gj_stp hF (fun M9 hF => ?_)
  refine gj_aload_n (q := 96) (gj_dk okX3_copyOf 45 rfl) rfl rfl ?_
  refine gj_gR (q := 99) (j := 9) (gj_dk okX3_copyOf 46 rfl) ff_X3_30 (sh21 hst) (by decide) rfl (rf21_9 hst) rfl ?_
  refine gj_aload_n (q := 100) (gj_dk okX3_copyOf 47 rfl) rfl rfl ?_
  refine gj_gR (q := 103) (j := 9) (gj_dk okX3_copyOf 48 rfl) ff_X3_30 (sh47 hst) (by decide) rfl (rf47_9 hst) rfl ?_
  refine gj_callS (q := 106) [jR 28, jR 54] rfl (c_X7_copy (sh28 hst) (by decide) (by decide) (sh54 hst) (by decide) (by decide) (by decide)) (gj_dk okX3_copyOf 49 rfl) ml_X3_59 me_X7_copy (gj_nm rfl) rfl (gj_kV fun S2 M2 h => ?_)
  obtain ⟨eS, eM⟩ := h; subst eS; subst eM
  refine gj_stp hF (fun M10 hF => ?_)
  refine gj_aload_n (q := 107) (gj_dk okX3_copyOf 50 rfl) rfl rfl ?_
  refine gj_gR (q := 110) (j := 10) (gj_dk okX3_copyOf 51 rfl) ff_X3_36 (sh47 hst) (by decide) rfl (rf47_10 hst) rfl ?_
  refine gj_aload_n (q := 111) (gj_dk okX3_copyOf 52 rfl) rfl rfl ?_
  refine gj_gR (q := 114) (j := 10) (gj_dk okX3_copyOf 53 rfl) ff_X3_36 (sh21 hst) (by decide) rfl (rf21_10 hst) rfl ?_
  refine gj_callV (q := 117) (z := 55) (ci := 1) [jR 29] rfl (t_X1_copyOf_55_29 hst  rfl) (gj_dk okX3_copyOf 54 rfl) ml_X3_63 me_X1_copyOf (sh55 hst) rfl (gj_nm rfl) rfl (gj_kV fun S2 M2 h => ?_)
  obtain ⟨eS, eM⟩ := h; subst eS; subst eM
  refine gj_stp hF (fun M11 hF => ?_)
  subst hF
  exact gj_vret (gj_dk okX3_copyOf 55 rfl) rfl ⟨rfl, rfl, rfl⟩
def f_X3_copyOf_57_21 (M : gj_M) : gj_M :=
  gj_let (gj_up M 57 0 (M 21 0)) (fun M1 => gj_let (gj_up M1 57 1 (M1 21 1)) (fun M2 => gj_let (gj_up M2 57 2 (M2 21 2)) (fun M3 => gj_let (f_copy M3 22 8 58 8) (fun M4 => gj_let (f_copy M4 23 8 59 8) (fun M5 => gj_let (f_copy M5 24 8 60 8) (fun M6 => gj_let (f_copy M6 25 8 61 8) (fun M7 => gj_let (f_copy M7 26 16 62 16) (fun M8 => gj_let (f_copy M8 27 16 63 16) (fun M9 => gj_let (f_copy M9 28 16 64 16) (fun M10 => gj_let (f_X1_copyOf_65_29 M10) (fun M11 => (M11))))))))))))
set_option maxHeartbeats 4000000 in
set_option maxRecDepth 20000 in
theorem t_X3_copyOf_57_21 (hst : gj_Stat S) {r : gj_M} (hF : f_X3_copyOf_57_21 M = r) : gj_C G l 3 0 0 yX3_copyOf cX3_copyOf 2 none [jR 57, jR 21] S M (gj_qV fun S' M' => S = S' ∧ r = M') := by
  refine gj_Cof (by decide +kernel) (Nat.le_of_ble_eq_true rfl) ?_
  change gj_W G l 3 0 0 yX3_copyOf cX3_copyOf 2 none (gj_qV fun S' M' => S = S' ∧ r = M') 0 0 0 [(0, jR 57), (1, jR 21)] [] S M
  unfold f_X3_copyOf_57_21 at hF
  refine gj_aload_n (q := 1) (gj_dk okX3_copyOf 0 rfl) rfl rfl ?_
  refine gj_ifnonnull (q := 4) (tgt := 5) (gj_dk okX3_copyOf 1 rfl) (by decide) rfl (fun _ => ?_) (fun cc => absurd cc (by decide))
  refine gj_aload_n (q := 6) (gj_dk okX3_copyOf 3 rfl) rfl rfl ?_
  refine gj_aload_n (q := 7) (gj_dk okX3_copyOf 4 rfl) rfl rfl ?_
  refine gj_gI (q := 10) (j := 0) (gj_dk okX3_copyOf 5 rfl) ff_X3_46 (sh21 hst) (by decide) rfl rfl ?_
  refine gj_pfI (q := 13) (j := 0) (gj_dk okX3_copyOf 6 rfl) ff_X3_46 (sh57 hst) (by decide) rfl rfl ?_
  refine gj_stp hF (fun M1 hF => ?_)
  refine gj_aload_n (q := 14) (gj_dk okX3_copyOf 7 rfl) rfl rfl ?_
  refine gj_aload_n (q := 15) (gj_dk okX3_copyOf 8 rfl) rfl rfl ?_
  refine gj_gI (q := 18) (j := 1) (gj_dk okX3_copyOf 9 rfl) ff_X3_50 (sh21 hst) (by decide) rfl rfl ?_
  refine gj_pfI (q := 21) (j := 1) (gj_dk okX3_copyOf 10 rfl) ff_X3_50 (sh57 hst) (by decide) rfl rfl ?_
  refine gj_stp hF (fun M2 hF => ?_)
  refine gj_aload_n (q := 22) (gj_dk okX3_copyOf 11 rfl) rfl rfl ?_
  refine gj_aload_n (q := 23) (gj_dk okX3_copyOf 12 rfl) rfl rfl ?_
  refine gj_gI (q := 26) (j := 2) (gj_dk okX3_copyOf 13 rfl) ff_X3_53 (sh21 hst) (by decide) rfl rfl ?_
  refine gj_pfI (q := 29) (j := 2) (gj_dk okX3_copyOf 14 rfl) ff_X3_53 (sh57 hst) (by decide) rfl rfl ?_
  refine gj_stp hF (fun M3 hF => ?_)
  refine gj_aload_n (q := 30) (gj_dk okX3_copyOf 15 rfl) rfl rfl ?_
  refine gj_gR (q := 33) (j := 3) (gj_dk okX3_copyOf 16 rfl) ff_X3_9 (sh21 hst) (by decide) rfl (rf21_3 hst) rfl ?_
  refine gj_aload_n (q := 34) (gj_dk okX3_copyOf 17 rfl) rfl rfl ?_
  refine gj_gR (q := 37) (j := 3) (gj_dk okX3_copyOf 18 rfl) ff_X3_9 (sh57 hst) (by decide) rfl (rf57_3 hst) rfl ?_
  refine gj_callS (q := 40) [jR 22, jR 58] rfl (c_X7_copy (sh22 hst) (by decide) (by decide) (sh58 hst) (by decide) (by decide) (by decide)) (gj_dk okX3_copyOf 19 rfl) ml_X3_59 me_X7_copy (gj_nm rfl) rfl (gj_kV fun S2 M2 h => ?_)
  obtain ⟨eS, eM⟩ := h; subst eS; subst eM
  refine gj_stp hF (fun M4 hF => ?_)
  refine gj_aload_n (q := 41) (gj_dk okX3_copyOf 20 rfl) rfl rfl ?_
  refine gj_gR (q := 44) (j := 4) (gj_dk okX3_copyOf 21 rfl) ff_X3_15 (sh21 hst) (by decide) rfl (rf21_4 hst) rfl ?_
  refine gj_aload_n (q := 45) (gj_dk okX3_copyOf 22 rfl) rfl rfl ?_
  refine gj_gR (q := 48) (j := 4) (gj_dk okX3_copyOf 23 rfl) ff_X3_15 (sh57 hst) (by decide) rfl (rf57_4 hst) rfl ?_
  refine gj_callS (q := 51) [jR 23, jR 59] rfl (c_X7_copy (sh23 hst) (by decide) (by decide) (sh59 hst) (by decide) (by decide) (by decide)) (gj_dk okX3_copyOf 24 rfl) ml_X3_59 me_X7_copy (gj_nm rfl) rfl (gj_kV fun S2 M2 h => ?_)
  obtain ⟨eS, eM⟩ := h; subst eS; subst eM
  refine gj_stp hF (fun M5 hF => ?_)
  refine gj_aload_n (q := 52) (gj_dk okX3_copyOf 25 rfl) rfl rfl ?_
  refine gj_gR (q := 55) (j := 5) (gj_dk okX3_copyOf 26 rfl) ff_X3_18 (sh21 hst) (by decide) rfl (rf21_5 hst) rfl ?_
  refine gj_aload_n (q := 56) (gj_dk okX3_copyOf 27 rfl) rfl rfl ?_
  refine gj_gR (q := 59) (j := 5) (gj_dk okX3_copyOf 28 rfl) ff_X3_18 (sh57 hst) (by decide) rfl (rf57_5 hst) rfl ?_
  refine gj_callS (q := 62) [jR 24, jR 60] rfl (c_X7_copy (sh24 hst) (by decide) (by decide) (sh60 hst) (by decide) (by decide) (by decide)) (gj_dk okX3_copyOf 29 rfl) ml_X3_59 me_X7_copy (gj_nm rfl) rfl (gj_kV fun S2 M2 h => ?_)
  obtain ⟨eS, eM⟩ := h; subst eS; subst eM
  refine gj_stp hF (fun M6 hF => ?_)
  refine gj_aload_n (q := 63) (gj_dk okX3_copyOf 30 rfl) rfl rfl ?_
  refine gj_gR (q := 66) (j := 6) (gj_dk okX3_copyOf 31 rfl) ff_X3_21 (sh21 hst) (by decide) rfl (rf21_6 hst) rfl ?_
  refine gj_aload_n (q := 67) (gj_dk okX3_copyOf 32 rfl) rfl rfl ?_
  refine gj_gR (q := 70) (j := 6) (gj_dk okX3_copyOf 33 rfl) ff_X3_21 (sh57 hst) (by decide) rfl (rf57_6 hst) rfl ?_
  refine gj_callS (q := 73) [jR 25, jR 61] rfl (c_X7_copy (sh25 hst) (by decide) (by decide) (sh61 hst) (by decide) (by decide) (by decide)) (gj_dk okX3_copyOf 34 rfl) ml_X3_59 me_X7_copy (gj_nm rfl) rfl (gj_kV fun S2 M2 h => ?_)
  obtain ⟨eS, eM⟩ := h; subst eS; subst eM
  refine gj_stp hF (fun M7 hF => ?_)
  refine gj_aload_n (q := 74) (gj_dk okX3_copyOf 35 rfl) rfl rfl ?_
  refine gj_gR (q := 77) (j := 7) (gj_dk okX3_copyOf 36 rfl) ff_X3_24 (sh21 hst) (by decide) rfl (rf21_7 hst) rfl ?_
  refine gj_aload_n (q := 78) (gj_dk okX3_copyOf 37 rfl) rfl rfl ?_
  refine gj_gR (q := 81) (j := 7) (gj_dk okX3_copyOf 38 rfl) ff_X3_24 (sh57 hst) (by decide) rfl (rf57_7 hst) rfl ?_
  refine gj_callS (q := 84) [jR 26, jR 62] rfl (c_X7_copy (sh26 hst) (by decide) (by decide) (sh62 hst) (by decide) (by decide) (by decide)) (gj_dk okX3_copyOf 39 rfl) ml_X3_59 me_X7_copy (gj_nm rfl) rfl (gj_kV fun S2 M2 h => ?_)
  obtain ⟨eS, eM⟩ := h; subst eS; subst eM
  refine gj_stp hF (fun M8 hF => ?_)
  refine gj_aload_n (q := 85) (gj_dk okX3_copyOf 40 rfl) rfl rfl ?_
  refine gj_gR (q := 88) (j := 8) (gj_dk okX3_copyOf 41 rfl) ff_X3_27 (sh21 hst) (by decide) rfl (rf21_8 hst) rfl ?_
  refine gj_aload_n (q := 89) (gj_dk okX3_copyOf 42 rfl) rfl rfl ?_
  refine gj_gR (q := 92) (j := 8) (gj_dk okX3_copyOf 43 rfl) ff_X3_27 (sh57 hst) (by decide) rfl (rf57_8 hst) rfl ?_
  refine gj_callS (q := 95) [jR 27, jR 63] rfl (c_X7_copy (sh27 hst) (by decide) (by decide) (sh63 hst) (by decide) (by decide) (by decide)) (gj_dk okX3_copyOf 44 rfl) ml_X3_59 me_X7_copy (gj_nm rfl) rfl (gj_kV fun S2 M2 h => ?_)
  obtain ⟨eS, eM⟩ := h; subst eS; subst eM
  refine gj_stp hF (fun M9 hF => ?_)
  refine gj_aload_n (q := 96) (gj_dk okX3_copyOf 45 rfl) rfl rfl ?_
  refine gj_gR (q := 99) (j := 9) (gj_dk okX3_copyOf 46 rfl) ff_X3_30 (sh21 hst) (by decide) rfl (rf21_9 hst) rfl ?_
  refine gj_aload_n (q := 100) (gj_dk okX3_copyOf 47 rfl) rfl rfl ?_
  refine gj_gR (q := 103) (j := 9) (gj_dk okX3_copyOf 48 rfl) ff_X3_30 (sh57 hst) (by decide) rfl (rf57_9 hst) rfl ?_
  refine gj_callS (q := 106) [jR 28, jR 64] rfl (c_X7_copy (sh28 hst) (by decide) (by decide) (sh64 hst) (by decide) (by decide) (by decide)) (gj_dk okX3_copyOf 49 rfl) ml_X3_59 me_X7_copy (gj_nm rfl) rfl (gj_kV fun S2 M2 h => ?_)
  obtain ⟨eS, eM⟩ := h; subst eS; subst eM
  refine gj_stp hF (fun M10 hF => ?_)
  refine gj_aload_n (q := 107) (gj_dk okX3_copyOf 50 rfl) rfl rfl ?_
  refine gj_gR (q := 110) (j := 10) (gj_dk okX3_copyOf 51 rfl) ff_X3_36 (sh57 hst) (by decide) rfl (rf57_10 hst) rfl ?_
  refine gj_aload_n (q := 111) (gj_dk okX3_copyOf 52 rfl) rfl rfl ?_
  refine gj_gR (q := 114) (j := 10) (gj_dk okX3_copyOf 53 rfl) ff_X3_36 (sh21 hst) (by decide) rfl (rf21_10 hst) rfl ?_
  refine gj_callV (q := 117) (z := 65) (ci := 1) [jR 29] rfl (t_X1_copyOf_65_29 hst  rfl) (gj_dk okX3_copyOf 54 rfl) ml_X3_63 me_X1_copyOf (sh65 hst) rfl (gj_nm rfl) rfl (gj_kV fun S2 M2 h => ?_)
  obtain ⟨eS, eM⟩ := h; subst eS; subst eM
  refine gj_stp hF (fun M11 hF => ?_)
  subst hF
  exact gj_vret (gj_dk okX3_copyOf 55 rfl) rfl ⟨rfl, rfl, rfl⟩
def f_X3_copyOf_67_21 (M : gj_M) : gj_M :=
  gj_let (gj_up M 67 0 (M 21 0)) (fun M1 => gj_let (gj_up M1 67 1 (M1 21 1)) (fun M2 => gj_let (gj_up M2 67 2 (M2 21 2)) (fun M3 => gj_let (f_copy M3 22 8 68 8) (fun M4 => gj_let (f_copy M4 23 8 69 8) (fun M5 => gj_let (f_copy M5 24 8 70 8) (fun M6 => gj_let (f_copy M6 25 8 71 8) (fun M7 => gj_let (f_copy M7 26 16 72 16) (fun M8 => gj_let (f_copy M8 27 16 73 16) (fun M9 => gj_let (f_copy M9 28 16 74 16) (fun M10 => gj_let (f_X1_copyOf_75_29 M10) (fun M11 => (M11))))))))))))
set_option maxHeartbeats 4000000 in
set_option maxRecDepth 20000 in
theorem t_X3_copyOf_67_21 (hst : gj_Stat S) {r : gj_M} (hF : f_X3_copyOf_67_21 M = r) : gj_C G l 3 0 0 yX3_copyOf cX3_copyOf 2 none [jR 67, jR 21] S M (gj_qV fun S' M' => S = S' ∧ r = M') := by
  refine gj_Cof (by decide +kernel) (Nat.le_of_ble_eq_true rfl) ?_
  change gj_W G l 3 0 0 yX3_copyOf cX3_copyOf 2 none (gj_qV fun S' M' => S = S' ∧ r = M') 0 0 0 [(0, jR 67), (1, jR 21)] [] S M
  unfold f_X3_copyOf_67_21 at hF
  refine gj_aload_n (q := 1) (gj_dk okX3_copyOf 0 rfl) rfl rfl ?_
  refine gj_ifnonnull (q := 4) (tgt := 5) (gj_dk okX3_copyOf 1 rfl) (by decide) rfl (fun _ => ?_) (fun cc => absurd cc (by decide))
  refine gj_aload_n (q := 6) (gj_dk okX3_copyOf 3 rfl) rfl rfl ?_
  refine gj_aload_n (q := 7) (gj_dk okX3_copyOf 4 rfl) rfl rfl ?_
  refine gj_gI (q := 10) (j := 0) (gj_dk okX3_copyOf 5 rfl) ff_X3_46 (sh21 hst) (by decide) rfl rfl ?_
  refine gj_pfI (q := 13) (j := 0) (gj_dk okX3_copyOf 6 rfl) ff_X3_46 (sh67 hst) (by decide) rfl rfl ?_
  refine gj_stp hF (fun M1 hF => ?_)
  refine gj_aload_n (q := 14) (gj_dk okX3_copyOf 7 rfl) rfl rfl ?_
  refine gj_aload_n (q := 15) (gj_dk okX3_copyOf 8 rfl) rfl rfl ?_
  refine gj_gI (q := 18) (j := 1) (gj_dk okX3_copyOf 9 rfl) ff_X3_50 (sh21 hst) (by decide) rfl rfl ?_
  refine gj_pfI (q := 21) (j := 1) (gj_dk okX3_copyOf 10 rfl) ff_X3_50 (sh67 hst) (by decide) rfl rfl ?_
  refine gj_stp hF (fun M2 hF => ?_)
  refine gj_aload_n (q := 22) (gj_dk okX3_copyOf 11 rfl) rfl rfl ?_
  refine gj_aload_n (q := 23) (gj_dk okX3_copyOf 12 rfl) rfl rfl ?_
  refine gj_gI (q := 26) (j := 2) (gj_dk okX3_copyOf 13 rfl) ff_X3_53 (sh21 hst) (by decide) rfl rfl ?_
  refine gj_pfI (q := 29) (j := 2) (gj_dk okX3_copyOf 14 rfl) ff_X3_53 (sh67 hst) (by decide) rfl rfl ?_
  refine gj_stp hF (fun M3 hF => ?_)
  refine gj_aload_n (q := 30) (gj_dk okX3_copyOf 15 rfl) rfl rfl ?_
  refine gj_gR (q := 33) (j := 3) (gj_dk okX3_copyOf 16 rfl) ff_X3_9 (sh21 hst) (by decide) rfl (rf21_3 hst) rfl ?_
  refine gj_aload_n (q := 34) (gj_dk okX3_copyOf 17 rfl) rfl rfl ?_
  refine gj_gR (q := 37) (j := 3) (gj_dk okX3_copyOf 18 rfl) ff_X3_9 (sh67 hst) (by decide) rfl (rf67_3 hst) rfl ?_
  refine gj_callS (q := 40) [jR 22, jR 68] rfl (c_X7_copy (sh22 hst) (by decide) (by decide) (sh68 hst) (by decide) (by decide) (by decide)) (gj_dk okX3_copyOf 19 rfl) ml_X3_59 me_X7_copy (gj_nm rfl) rfl (gj_kV fun S2 M2 h => ?_)
  obtain ⟨eS, eM⟩ := h; subst eS; subst eM
  refine gj_stp hF (fun M4 hF => ?_)
  refine gj_aload_n (q := 41) (gj_dk okX3_copyOf 20 rfl) rfl rfl ?_
  refine gj_gR (q := 44) (j := 4) (gj_dk okX3_copyOf 21 rfl) ff_X3_15 (sh21 hst) (by decide) rfl (rf21_4 hst) rfl ?_
  refine gj_aload_n (q := 45) (gj_dk okX3_copyOf 22 rfl) rfl rfl ?_
  refine gj_gR (q := 48) (j := 4) (gj_dk okX3_copyOf 23 rfl) ff_X3_15 (sh67 hst) (by decide) rfl (rf67_4 hst) rfl ?_
  refine gj_callS (q := 51) [jR 23, jR 69] rfl (c_X7_copy (sh23 hst) (by decide) (by decide) (sh69 hst) (by decide) (by decide) (by decide)) (gj_dk okX3_copyOf 24 rfl) ml_X3_59 me_X7_copy (gj_nm rfl) rfl (gj_kV fun S2 M2 h => ?_)
  obtain ⟨eS, eM⟩ := h; subst eS; subst eM
  refine gj_stp hF (fun M5 hF => ?_)
  refine gj_aload_n (q := 52) (gj_dk okX3_copyOf 25 rfl) rfl rfl ?_
  refine gj_gR (q := 55) (j := 5) (gj_dk okX3_copyOf 26 rfl) ff_X3_18 (sh21 hst) (by decide) rfl (rf21_5 hst) rfl ?_
  refine gj_aload_n (q := 56) (gj_dk okX3_copyOf 27 rfl) rfl rfl ?_
  refine gj_gR (q := 59) (j := 5) (gj_dk okX3_copyOf 28 rfl) ff_X3_18 (sh67 hst) (by decide) rfl (rf67_5 hst) rfl ?_
  refine gj_callS (q := 62) [jR 24, jR 70] rfl (c_X7_copy (sh24 hst) (by decide) (by decide) (sh70 hst) (by decide) (by decide) (by decide)) (gj_dk okX3_copyOf 29 rfl) ml_X3_59 me_X7_copy (gj_nm rfl) rfl (gj_kV fun S2 M2 h => ?_)
  obtain ⟨eS, eM⟩ := h; subst eS; subst eM
  refine gj_stp hF (fun M6 hF => ?_)
  refine gj_aload_n (q := 63) (gj_dk okX3_copyOf 30 rfl) rfl rfl ?_
  refine gj_gR (q := 66) (j := 6) (gj_dk okX3_copyOf 31 rfl) ff_X3_21 (sh21 hst) (by decide) rfl (rf21_6 hst) rfl ?_
  refine gj_aload_n (q := 67) (gj_dk okX3_copyOf 32 rfl) rfl rfl ?_
  refine gj_gR (q := 70) (j := 6) (gj_dk okX3_copyOf 33 rfl) ff_X3_21 (sh67 hst) (by decide) rfl (rf67_6 hst) rfl ?_
  refine gj_callS (q := 73) [jR 25, jR 71] rfl (c_X7_copy (sh25 hst) (by decide) (by decide) (sh71 hst) (by decide) (by decide) (by decide)) (gj_dk okX3_copyOf 34 rfl) ml_X3_59 me_X7_copy (gj_nm rfl) rfl (gj_kV fun S2 M2 h => ?_)
  obtain ⟨eS, eM⟩ := h; subst eS; subst eM
  refine gj_stp hF (fun M7 hF => ?_)
  refine gj_aload_n (q := 74) (gj_dk okX3_copyOf 35 rfl) rfl rfl ?_
  refine gj_gR (q := 77) (j := 7) (gj_dk okX3_copyOf 36 rfl) ff_X3_24 (sh21 hst) (by decide) rfl (rf21_7 hst) rfl ?_
  refine gj_aload_n (q := 78) (gj_dk okX3_copyOf 37 rfl) rfl rfl ?_
  refine gj_gR (q := 81) (j := 7) (gj_dk okX3_copyOf 38 rfl) ff_X3_24 (sh67 hst) (by decide) rfl (rf67_7 hst) rfl ?_
  refine gj_callS (q := 84) [jR 26, jR 72] rfl (c_X7_copy (sh26 hst) (by decide) (by decide) (sh72 hst) (by decide) (by decide) (by decide)) (gj_dk okX3_copyOf 39 rfl) ml_X3_59 me_X7_copy (gj_nm rfl) rfl (gj_kV fun S2 M2 h => ?_)
  obtain ⟨eS, eM⟩ := h; subst eS; subst eM
  refine gj_stp hF (fun M8 hF => ?_)
  refine gj_aload_n (q := 85) (gj_dk okX3_copyOf 40 rfl) rfl rfl ?_
  refine gj_gR (q := 88) (j := 8) (gj_dk okX3_copyOf 41 rfl) ff_X3_27 (sh21 hst) (by decide) rfl (rf21_8 hst) rfl ?_
  refine gj_aload_n (q := 89) (gj_dk okX3_copyOf 42 rfl) rfl rfl ?_
  refine gj_gR (q := 92) (j := 8) (gj_dk okX3_copyOf 43 rfl) ff_X3_27 (sh67 hst) (by decide) rfl (rf67_8 hst) rfl ?_
  refine gj_callS (q := 95) [jR 27, jR 73] rfl (c_X7_copy (sh27 hst) (by decide) (by decide) (sh73 hst) (by decide) (by decide) (by decide)) (gj_dk okX3_copyOf 44 rfl) ml_X3_59 me_X7_copy (gj_nm rfl) rfl (gj_kV fun S2 M2 h => ?_)
  obtain ⟨eS, eM⟩ := h; subst eS; subst eM
  refine gj_stp hF (fun M9 hF => ?_)
  refine gj_aload_n (q := 96) (gj_dk okX3_copyOf 45 rfl) rfl rfl ?_
  refine gj_gR (q := 99) (j := 9) (gj_dk okX3_copyOf 46 rfl) ff_X3_30 (sh21 hst) (by decide) rfl (rf21_9 hst) rfl ?_
  refine gj_aload_n (q := 100) (gj_dk okX3_copyOf 47 rfl) rfl rfl ?_
  refine gj_gR (q := 103) (j := 9) (gj_dk okX3_copyOf 48 rfl) ff_X3_30 (sh67 hst) (by decide) rfl (rf67_9 hst) rfl ?_
  refine gj_callS (q := 106) [jR 28, jR 74] rfl (c_X7_copy (sh28 hst) (by decide) (by decide) (sh74 hst) (by decide) (by decide) (by decide)) (gj_dk okX3_copyOf 49 rfl) ml_X3_59 me_X7_copy (gj_nm rfl) rfl (gj_kV fun S2 M2 h => ?_)
  obtain ⟨eS, eM⟩ := h; subst eS; subst eM
  refine gj_stp hF (fun M10 hF => ?_)
  refine gj_aload_n (q := 107) (gj_dk okX3_copyOf 50 rfl) rfl rfl ?_
  refine gj_gR (q := 110) (j := 10) (gj_dk okX3_copyOf 51 rfl) ff_X3_36 (sh67 hst) (by decide) rfl (rf67_10 hst) rfl ?_
  refine gj_aload_n (q := 111) (gj_dk okX3_copyOf 52 rfl) rfl rfl ?_
  refine gj_gR (q := 114) (j := 10) (gj_dk okX3_copyOf 53 rfl) ff_X3_36 (sh21 hst) (by decide) rfl (rf21_10 hst) rfl ?_
  refine gj_callV (q := 117) (z := 75) (ci := 1) [jR 29] rfl (t_X1_copyOf_75_29 hst  rfl) (gj_dk okX3_copyOf 54 rfl) ml_X3_63 me_X1_copyOf (sh75 hst) rfl (gj_nm rfl) rfl (gj_kV fun S2 M2 h => ?_)
  obtain ⟨eS, eM⟩ := h; subst eS; subst eM
  refine gj_stp hF (fun M11 hF => ?_)
  subst hF
  exact gj_vret (gj_dk okX3_copyOf 55 rfl) rfl ⟨rfl, rfl, rfl⟩
def f_X3_copyOf_21_47 (M : gj_M) : gj_M :=
  gj_let (gj_up M 21 0 (M 47 0)) (fun M1 => gj_let (gj_up M1 21 1 (M1 47 1)) (fun M2 => gj_let (gj_up M2 21 2 (M2 47 2)) (fun M3 => gj_let (f_copy M3 48 8 22 8) (fun M4 => gj_let (f_copy M4 49 8 23 8) (fun M5 => gj_let (f_copy M5 50 8 24 8) (fun M6 => gj_let (f_copy M6 51 8 25 8) (fun M7 => gj_let (f_copy M7 52 16 26 16) (fun M8 => gj_let (f_copy M8 53 16 27 16) (fun M9 => gj_let (f_copy M9 54 16 28 16) (fun M10 => gj_let (f_X1_copyOf_29_55 M10) (fun M11 => (M11))))))))))))
set_option maxHeartbeats 4000000 in
set_option maxRecDepth 20000 in
theorem t_X3_copyOf_21_47 (hst : gj_Stat S) {r : gj_M} (hF : f_X3_copyOf_21_47 M = r) : gj_C G l 3 0 0 yX3_copyOf cX3_copyOf 2 none [jR 21, jR 47] S M (gj_qV fun S' M' => S = S' ∧ r = M') := by
  refine gj_Cof (by decide +kernel) (Nat.le_of_ble_eq_true rfl) ?_
  change gj_W G l 3 0 0 yX3_copyOf cX3_copyOf 2 none (gj_qV fun S' M' => S = S' ∧ r = M') 0 0 0 [(0, jR 21), (1, jR 47)] [] S M
  unfold f_X3_copyOf_21_47 at hF
  refine gj_aload_n (q := 1) (gj_dk okX3_copyOf 0 rfl) rfl rfl ?_
  refine gj_ifnonnull (q := 4) (tgt := 5) (gj_dk okX3_copyOf 1 rfl) (by decide) rfl (fun _ => ?_) (fun cc => absurd cc (by decide))
  refine gj_aload_n (q := 6) (gj_dk okX3_copyOf 3 rfl) rfl rfl ?_
  refine gj_aload_n (q := 7) (gj_dk okX3_copyOf 4 rfl) rfl rfl ?_
  refine gj_gI (q := 10) (j := 0) (gj_dk okX3_copyOf 5 rfl) ff_X3_46 (sh47 hst) (by decide) rfl rfl ?_
  refine gj_pfI (q := 13) (j := 0) (gj_dk okX3_copyOf 6 rfl) ff_X3_46 (sh21 hst) (by decide) rfl rfl ?_
  refine gj_stp hF (fun M1 hF => ?_)
  refine gj_aload_n (q := 14) (gj_dk okX3_copyOf 7 rfl) rfl rfl ?_
  refine gj_aload_n (q := 15) (gj_dk okX3_copyOf 8 rfl) rfl rfl ?_
  refine gj_gI (q := 18) (j := 1) (gj_dk okX3_copyOf 9 rfl) ff_X3_50 (sh47 hst) (by decide) rfl rfl ?_
  refine gj_pfI (q := 21) (j := 1) (gj_dk okX3_copyOf 10 rfl) ff_X3_50 (sh21 hst) (by decide) rfl rfl ?_
  refine gj_stp hF (fun M2 hF => ?_)
  refine gj_aload_n (q := 22) (gj_dk okX3_copyOf 11 rfl) rfl rfl ?_
  refine gj_aload_n (q := 23) (gj_dk okX3_copyOf 12 rfl) rfl rfl ?_
  refine gj_gI (q := 26) (j := 2) (gj_dk okX3_copyOf 13 rfl) ff_X3_53 (sh47 hst) (by decide) rfl rfl ?_
  refine gj_pfI (q := 29) (j := 2) (gj_dk okX3_copyOf 14 rfl) ff_X3_53 (sh21 hst) (by decide) rfl rfl ?_
  refine gj_stp hF (fun M3 hF => ?_)
  refine gj_aload_n (q := 30) (gj_dk okX3_copyOf 15 rfl) rfl rfl ?_
  refine gj_gR (q := 33) (j := 3) (gj_dk okX3_copyOf 16 rfl) ff_X3_9 (sh47 hst) (by decide) rfl (rf47_3 hst) rfl ?_
  refine gj_aload_n (q := 34) (gj_dk okX3_copyOf 17 rfl) rfl rfl ?_
  refine gj_gR (q := 37) (j := 3) (gj_dk okX3_copyOf 18 rfl) ff_X3_9 (sh21 hst) (by decide) rfl (rf21_3 hst) rfl ?_
  refine gj_callS (q := 40) [jR 48, jR 22] rfl (c_X7_copy (sh48 hst) (by decide) (by decide) (sh22 hst) (by decide) (by decide) (by decide)) (gj_dk okX3_copyOf 19 rfl) ml_X3_59 me_X7_copy (gj_nm rfl) rfl (gj_kV fun S2 M2 h => ?_)
  obtain ⟨eS, eM⟩ := h; subst eS; subst eM
  refine gj_stp hF (fun M4 hF => ?_)
  refine gj_aload_n (q := 41) (gj_dk okX3_copyOf 20 rfl) rfl rfl ?_
  refine gj_gR (q := 44) (j := 4) (gj_dk okX3_copyOf 21 rfl) ff_X3_15 (sh47 hst) (by decide) rfl (rf47_4 hst) rfl ?_
  refine gj_aload_n (q := 45) (gj_dk okX3_copyOf 22 rfl) rfl rfl ?_
  refine gj_gR (q := 48) (j := 4) (gj_dk okX3_copyOf 23 rfl) ff_X3_15 (sh21 hst) (by decide) rfl (rf21_4 hst) rfl ?_
  refine gj_callS (q := 51) [jR 49, jR 23] rfl (c_X7_copy (sh49 hst) (by decide) (by decide) (sh23 hst) (by decide) (by decide) (by decide)) (gj_dk okX3_copyOf 24 rfl) ml_X3_59 me_X7_copy (gj_nm rfl) rfl (gj_kV fun S2 M2 h => ?_)
  obtain ⟨eS, eM⟩ := h; subst eS; subst eM
  refine gj_stp hF (fun M5 hF => ?_)
  refine gj_aload_n (q := 52) (gj_dk okX3_copyOf 25 rfl) rfl rfl ?_
  refine gj_gR (q := 55) (j := 5) (gj_dk okX3_copyOf 26 rfl) ff_X3_18 (sh47 hst) (by decide) rfl (rf47_5 hst) rfl ?_
  refine gj_aload_n (q := 56) (gj_dk okX3_copyOf 27 rfl) rfl rfl ?_
  refine gj_gR (q := 59) (j := 5) (gj_dk okX3_copyOf 28 rfl) ff_X3_18 (sh21 hst) (by decide) rfl (rf21_5 hst) rfl ?_
  refine gj_callS (q := 62) [jR 50, jR 24] rfl (c_X7_copy (sh50 hst) (by decide) (by decide) (sh24 hst) (by decide) (by decide) (by decide)) (gj_dk okX3_copyOf 29 rfl) ml_X3_59 me_X7_copy (gj_nm rfl) rfl (gj_kV fun S2 M2 h => ?_)
  obtain ⟨eS, eM⟩ := h; subst eS; subst eM
  refine gj_stp hF (fun M6 hF => ?_)
  refine gj_aload_n (q := 63) (gj_dk okX3_copyOf 30 rfl) rfl rfl ?_
  refine gj_gR (q := 66) (j := 6) (gj_dk okX3_copyOf 31 rfl) ff_X3_21 (sh47 hst) (by decide) rfl (rf47_6 hst) rfl ?_
  refine gj_aload_n (q := 67) (gj_dk okX3_copyOf 32 rfl) rfl rfl ?_
  refine gj_gR (q := 70) (j := 6) (gj_dk okX3_copyOf 33 rfl) ff_X3_21 (sh21 hst) (by decide) rfl (rf21_6 hst) rfl ?_
  refine gj_callS (q := 73) [jR 51, jR 25] rfl (c_X7_copy (sh51 hst) (by decide) (by decide) (sh25 hst) (by decide) (by decide) (by decide)) (gj_dk okX3_copyOf 34 rfl) ml_X3_59 me_X7_copy (gj_nm rfl) rfl (gj_kV fun S2 M2 h => ?_)
  obtain ⟨eS, eM⟩ := h; subst eS; subst eM
  refine gj_stp hF (fun M7 hF => ?_)
  refine gj_aload_n (q := 74) (gj_dk okX3_copyOf 35 rfl) rfl rfl ?_
  refine gj_gR (q := 77) (j := 7) (gj_dk okX3_copyOf 36 rfl) ff_X3_24 (sh47 hst) (by decide) rfl (rf47_7 hst) rfl ?_
  refine gj_aload_n (q := 78) (gj_dk okX3_copyOf 37 rfl) rfl rfl ?_
  refine gj_gR (q := 81) (j := 7) (gj_dk okX3_copyOf 38 rfl) ff_X3_24 (sh21 hst) (by decide) rfl (rf21_7 hst) rfl ?_
  refine gj_callS (q := 84) [jR 52, jR 26] rfl (c_X7_copy (sh52 hst) (by decide) (by decide) (sh26 hst) (by decide) (by decide) (by decide)) (gj_dk okX3_copyOf 39 rfl) ml_X3_59 me_X7_copy (gj_nm rfl) rfl (gj_kV fun S2 M2 h => ?_)
  obtain ⟨eS, eM⟩ := h; subst eS; subst eM
  refine gj_stp hF (fun M8 hF => ?_)
  refine gj_aload_n (q := 85) (gj_dk okX3_copyOf 40 rfl) rfl rfl ?_
  refine gj_gR (q := 88) (j := 8) (gj_dk okX3_copyOf 41 rfl) ff_X3_27 (sh47 hst) (by decide) rfl (rf47_8 hst) rfl ?_
  refine gj_aload_n (q := 89) (gj_dk okX3_copyOf 42 rfl) rfl rfl ?_
  refine gj_gR (q := 92) (j := 8) (gj_dk okX3_copyOf 43 rfl) ff_X3_27 (sh21 hst) (by decide) rfl (rf21_8 hst) rfl ?_
  refine gj_callS (q := 95) [jR 53, jR 27] rfl (c_X7_copy (sh53 hst) (by decide) (by decide) (sh27 hst) (by decide) (by decide) (by decide)) (gj_dk okX3_copyOf 44 rfl) ml_X3_59 me_X7_copy (gj_nm rfl) rfl (gj_kV fun S2 M2 h => ?_)
  obtain ⟨eS, eM⟩ := h; subst eS; subst eM
  refine gj_stp hF (fun M9 hF => ?_)
  refine gj_aload_n (q := 96) (gj_dk okX3_copyOf 45 rfl) rfl rfl ?_
  refine gj_gR (q := 99) (j := 9) (gj_dk okX3_copyOf 46 rfl) ff_X3_30 (sh47 hst) (by decide) rfl (rf47_9 hst) rfl ?_
  refine gj_aload_n (q := 100) (gj_dk okX3_copyOf 47 rfl) rfl rfl ?_
  refine gj_gR (q := 103) (j := 9) (gj_dk okX3_copyOf 48 rfl) ff_X3_30 (sh21 hst) (by decide) rfl (rf21_9 hst) rfl ?_
  refine gj_callS (q := 106) [jR 54, jR 28] rfl (c_X7_copy (sh54 hst) (by decide) (by decide) (sh28 hst) (by decide) (by decide) (by decide)) (gj_dk okX3_copyOf 49 rfl) ml_X3_59 me_X7_copy (gj_nm rfl) rfl (gj_kV fun S2 M2 h => ?_)
  obtain ⟨eS, eM⟩ := h; subst eS; subst eM
  refine gj_stp hF (fun M10 hF => ?_)
  refine gj_aload_n (q := 107) (gj_dk okX3_copyOf 50 rfl) rfl rfl ?_
  refine gj_gR (q := 110) (j := 10) (gj_dk okX3_copyOf 51 rfl) ff_X3_36 (sh21 hst) (by decide) rfl (rf21_10 hst) rfl ?_
  refine gj_aload_n (q := 111) (gj_dk okX3_copyOf 52 rfl) rfl rfl ?_
  refine gj_gR (q := 114) (j := 10) (gj_dk okX3_copyOf 53 rfl) ff_X3_36 (sh47 hst) (by decide) rfl (rf47_10 hst) rfl ?_
  refine gj_callV (q := 117) (z := 29) (ci := 1) [jR 55] rfl (t_X1_copyOf_29_55 hst  rfl) (gj_dk okX3_copyOf 54 rfl) ml_X3_63 me_X1_copyOf (sh29 hst) rfl (gj_nm rfl) rfl (gj_kV fun S2 M2 h => ?_)
  obtain ⟨eS, eM⟩ := h; subst eS; subst eM
  refine gj_stp hF (fun M11 hF => ?_)
  subst hF
  exact gj_vret (gj_dk okX3_copyOf 55 rfl) rfl ⟨rfl, rfl, rfl⟩
def f_X3_copyOf_21_57 (M : gj_M) : gj_M :=
  gj_let (gj_up M 21 0 (M 57 0)) (fun M1 => gj_let (gj_up M1 21 1 (M1 57 1)) (fun M2 => gj_let (gj_up M2 21 2 (M2 57 2)) (fun M3 => gj_let (f_copy M3 58 8 22 8) (fun M4 => gj_let (f_copy M4 59 8 23 8) (fun M5 => gj_let (f_copy M5 60 8 24 8) (fun M6 => gj_let (f_copy M6 61 8 25 8) (fun M7 => gj_let (f_copy M7 62 16 26 16) (fun M8 => gj_let (f_copy M8 63 16 27 16) (fun M9 => gj_let (f_copy M9 64 16 28 16) (fun M10 => gj_let (f_X1_copyOf_29_65 M10) (fun M11 => (M11))))))))))))
set_option maxHeartbeats 4000000 in
set_option maxRecDepth 20000 in
theorem t_X3_copyOf_21_57 (hst : gj_Stat S) {r : gj_M} (hF : f_X3_copyOf_21_57 M = r) : gj_C G l 3 0 0 yX3_copyOf cX3_copyOf 2 none [jR 21, jR 57] S M (gj_qV fun S' M' => S = S' ∧ r = M') := by
  refine gj_Cof (by decide +kernel) (Nat.le_of_ble_eq_true rfl) ?_
  change gj_W G l 3 0 0 yX3_copyOf cX3_copyOf 2 none (gj_qV fun S' M' => S = S' ∧ r = M') 0 0 0 [(0, jR 21), (1, jR 57)] [] S M
  unfold f_X3_copyOf_21_57 at hF
  refine gj_aload_n (q := 1) (gj_dk okX3_copyOf 0 rfl) rfl rfl ?_
  refine gj_ifnonnull (q := 4) (tgt := 5) (gj_dk okX3_copyOf 1 rfl) (by decide) rfl (fun _ => ?_) (fun cc => absurd cc (by decide))
  refine gj_aload_n (q := 6) (gj_dk okX3_copyOf 3 rfl) rfl rfl ?_
  refine gj_aload_n (q := 7) (gj_dk okX3_copyOf 4 rfl) rfl rfl ?_
  refine gj_gI (q := 10) (j := 0) (gj_dk okX3_copyOf 5 rfl) ff_X3_46 (sh57 hst) (by decide) rfl rfl ?_
  refine gj_pfI (q := 13) (j := 0) (gj_dk okX3_copyOf 6 rfl) ff_X3_46 (sh21 hst) (by decide) rfl rfl ?_
  refine gj_stp hF (fun M1 hF => ?_)
  refine gj_aload_n (q := 14) (gj_dk okX3_copyOf 7 rfl) rfl rfl ?_
  refine gj_aload_n (q := 15) (gj_dk okX3_copyOf 8 rfl) rfl rfl ?_
  refine gj_gI (q := 18) (j := 1) (gj_dk okX3_copyOf 9 rfl) ff_X3_50 (sh57 hst) (by decide) rfl rfl ?_
  refine gj_pfI (q := 21) (j := 1) (gj_dk okX3_copyOf 10 rfl) ff_X3_50 (sh21 hst) (by decide) rfl rfl ?_
  refine gj_stp hF (fun M2 hF => ?_)
  refine gj_aload_n (q := 22) (gj_dk okX3_copyOf 11 rfl) rfl rfl ?_
  refine gj_aload_n (q := 23) (gj_dk okX3_copyOf 12 rfl) rfl rfl ?_
  refine gj_gI (q := 26) (j := 2) (gj_dk okX3_copyOf 13 rfl) ff_X3_53 (sh57 hst) (by decide) rfl rfl ?_
  refine gj_pfI (q := 29) (j := 2) (gj_dk okX3_copyOf 14 rfl) ff_X3_53 (sh21 hst) (by decide) rfl rfl ?_
  refine gj_stp hF (fun M3 hF => ?_)
  refine gj_aload_n (q := 30) (gj_dk okX3_copyOf 15 rfl) rfl rfl ?_
  refine gj_gR (q := 33) (j := 3) (gj_dk okX3_copyOf 16 rfl) ff_X3_9 (sh57 hst) (by decide) rfl (rf57_3 hst) rfl ?_
  refine gj_aload_n (q := 34) (gj_dk okX3_copyOf 17 rfl) rfl rfl ?_
  refine gj_gR (q := 37) (j := 3) (gj_dk okX3_copyOf 18 rfl) ff_X3_9 (sh21 hst) (by decide) rfl (rf21_3 hst) rfl ?_
  refine gj_callS (q := 40) [jR 58, jR 22] rfl (c_X7_copy (sh58 hst) (by decide) (by decide) (sh22 hst) (by decide) (by decide) (by decide)) (gj_dk okX3_copyOf 19 rfl) ml_X3_59 me_X7_copy (gj_nm rfl) rfl (gj_kV fun S2 M2 h => ?_)
  obtain ⟨eS, eM⟩ := h; subst eS; subst eM
  refine gj_stp hF (fun M4 hF => ?_)
  refine gj_aload_n (q := 41) (gj_dk okX3_copyOf 20 rfl) rfl rfl ?_
  refine gj_gR (q := 44) (j := 4) (gj_dk okX3_copyOf 21 rfl) ff_X3_15 (sh57 hst) (by decide) rfl (rf57_4 hst) rfl ?_
  refine gj_aload_n (q := 45) (gj_dk okX3_copyOf 22 rfl) rfl rfl ?_
  refine gj_gR (q := 48) (j := 4) (gj_dk okX3_copyOf 23 rfl) ff_X3_15 (sh21 hst) (by decide) rfl (rf21_4 hst) rfl ?_
  refine gj_callS (q := 51) [jR 59, jR 23] rfl (c_X7_copy (sh59 hst) (by decide) (by decide) (sh23 hst) (by decide) (by decide) (by decide)) (gj_dk okX3_copyOf 24 rfl) ml_X3_59 me_X7_copy (gj_nm rfl) rfl (gj_kV fun S2 M2 h => ?_)
  obtain ⟨eS, eM⟩ := h; subst eS; subst eM
  refine gj_stp hF (fun M5 hF => ?_)
  refine gj_aload_n (q := 52) (gj_dk okX3_copyOf 25 rfl) rfl rfl ?_
  refine gj_gR (q := 55) (j := 5) (gj_dk okX3_copyOf 26 rfl) ff_X3_18 (sh57 hst) (by decide) rfl (rf57_5 hst) rfl ?_
  refine gj_aload_n (q := 56) (gj_dk okX3_copyOf 27 rfl) rfl rfl ?_
  refine gj_gR (q := 59) (j := 5) (gj_dk okX3_copyOf 28 rfl) ff_X3_18 (sh21 hst) (by decide) rfl (rf21_5 hst) rfl ?_
  refine gj_callS (q := 62) [jR 60, jR 24] rfl (c_X7_copy (sh60 hst) (by decide) (by decide) (sh24 hst) (by decide) (by decide) (by decide)) (gj_dk okX3_copyOf 29 rfl) ml_X3_59 me_X7_copy (gj_nm rfl) rfl (gj_kV fun S2 M2 h => ?_)
  obtain ⟨eS, eM⟩ := h; subst eS; subst eM
  refine gj_stp hF (fun M6 hF => ?_)
  refine gj_aload_n (q := 63) (gj_dk okX3_copyOf 30 rfl) rfl rfl ?_
  refine gj_gR (q := 66) (j := 6) (gj_dk okX3_copyOf 31 rfl) ff_X3_21 (sh57 hst) (by decide) rfl (rf57_6 hst) rfl ?_
  refine gj_aload_n (q := 67) (gj_dk okX3_copyOf 32 rfl) rfl rfl ?_
  refine gj_gR (q := 70) (j := 6) (gj_dk okX3_copyOf 33 rfl) ff_X3_21 (sh21 hst) (by decide) rfl (rf21_6 hst) rfl ?_
  refine gj_callS (q := 73) [jR 61, jR 25] rfl (c_X7_copy (sh61 hst) (by decide) (by decide) (sh25 hst) (by decide) (by decide) (by decide)) (gj_dk okX3_copyOf 34 rfl) ml_X3_59 me_X7_copy (gj_nm rfl) rfl (gj_kV fun S2 M2 h => ?_)
  obtain ⟨eS, eM⟩ := h; subst eS; subst eM
  refine gj_stp hF (fun M7 hF => ?_)
  refine gj_aload_n (q := 74) (gj_dk okX3_copyOf 35 rfl) rfl rfl ?_
  refine gj_gR (q := 77) (j := 7) (gj_dk okX3_copyOf 36 rfl) ff_X3_24 (sh57 hst) (by decide) rfl (rf57_7 hst) rfl ?_
  refine gj_aload_n (q := 78) (gj_dk okX3_copyOf 37 rfl) rfl rfl ?_
  refine gj_gR (q := 81) (j := 7) (gj_dk okX3_copyOf 38 rfl) ff_X3_24 (sh21 hst) (by decide) rfl (rf21_7 hst) rfl ?_
  refine gj_callS (q := 84) [jR 62, jR 26] rfl (c_X7_copy (sh62 hst) (by decide) (by decide) (sh26 hst) (by decide) (by decide) (by decide)) (gj_dk okX3_copyOf 39 rfl) ml_X3_59 me_X7_copy (gj_nm rfl) rfl (gj_kV fun S2 M2 h => ?_)
  obtain ⟨eS, eM⟩ := h; subst eS; subst eM
  refine gj_stp hF (fun M8 hF => ?_)
  refine gj_aload_n (q := 85) (gj_dk okX3_copyOf 40 rfl) rfl rfl ?_
  refine gj_gR (q := 88) (j := 8) (gj_dk okX3_copyOf 41 rfl) ff_X3_27 (sh57 hst) (by decide) rfl (rf57_8 hst) rfl ?_
  refine gj_aload_n (q := 89) (gj_dk okX3_copyOf 42 rfl) rfl rfl ?_
  refine gj_gR (q := 92) (j := 8) (gj_dk okX3_copyOf 43 rfl) ff_X3_27 (sh21 hst) (by decide) rfl (rf21_8 hst) rfl ?_
  refine gj_callS (q := 95) [jR 63, jR 27] rfl (c_X7_copy (sh63 hst) (by decide) (by decide) (sh27 hst) (by decide) (by decide) (by decide)) (gj_dk okX3_copyOf 44 rfl) ml_X3_59 me_X7_copy (gj_nm rfl) rfl (gj_kV fun S2 M2 h => ?_)
  obtain ⟨eS, eM⟩ := h; subst eS; subst eM
  refine gj_stp hF (fun M9 hF => ?_)
  refine gj_aload_n (q := 96) (gj_dk okX3_copyOf 45 rfl) rfl rfl ?_
  refine gj_gR (q := 99) (j := 9) (gj_dk okX3_copyOf 46 rfl) ff_X3_30 (sh57 hst) (by decide) rfl (rf57_9 hst) rfl ?_
  refine gj_aload_n (q := 100) (gj_dk okX3_copyOf 47 rfl) rfl rfl ?_
  refine gj_gR (q := 103) (j := 9) (gj_dk okX3_copyOf 48 rfl) ff_X3_30 (sh21 hst) (by decide) rfl (rf21_9 hst) rfl ?_
  refine gj_callS (q := 106) [jR 64, jR 28] rfl (c_X7_copy (sh64 hst) (by decide) (by decide) (sh28 hst) (by decide) (by decide) (by decide)) (gj_dk okX3_copyOf 49 rfl) ml_X3_59 me_X7_copy (gj_nm rfl) rfl (gj_kV fun S2 M2 h => ?_)
  obtain ⟨eS, eM⟩ := h; subst eS; subst eM
  refine gj_stp hF (fun M10 hF => ?_)
  refine gj_aload_n (q := 107) (gj_dk okX3_copyOf 50 rfl) rfl rfl ?_
  refine gj_gR (q := 110) (j := 10) (gj_dk okX3_copyOf 51 rfl) ff_X3_36 (sh21 hst) (by decide) rfl (rf21_10 hst) rfl ?_
  refine gj_aload_n (q := 111) (gj_dk okX3_copyOf 52 rfl) rfl rfl ?_
  refine gj_gR (q := 114) (j := 10) (gj_dk okX3_copyOf 53 rfl) ff_X3_36 (sh57 hst) (by decide) rfl (rf57_10 hst) rfl ?_
  refine gj_callV (q := 117) (z := 29) (ci := 1) [jR 65] rfl (t_X1_copyOf_29_65 hst  rfl) (gj_dk okX3_copyOf 54 rfl) ml_X3_63 me_X1_copyOf (sh29 hst) rfl (gj_nm rfl) rfl (gj_kV fun S2 M2 h => ?_)
  obtain ⟨eS, eM⟩ := h; subst eS; subst eM
  refine gj_stp hF (fun M11 hF => ?_)
  subst hF
  exact gj_vret (gj_dk okX3_copyOf 55 rfl) rfl ⟨rfl, rfl, rfl⟩
def f_X3_copyOf_21_67 (M : gj_M) : gj_M :=
  gj_let (gj_up M 21 0 (M 67 0)) (fun M1 => gj_let (gj_up M1 21 1 (M1 67 1)) (fun M2 => gj_let (gj_up M2 21 2 (M2 67 2)) (fun M3 => gj_let (f_copy M3 68 8 22 8) (fun M4 => gj_let (f_copy M4 69 8 23 8) (fun M5 => gj_let (f_copy M5 70 8 24 8) (fun M6 => gj_let (f_copy M6 71 8 25 8) (fun M7 => gj_let (f_copy M7 72 16 26 16) (fun M8 => gj_let (f_copy M8 73 16 27 16) (fun M9 => gj_let (f_copy M9 74 16 28 16) (fun M10 => gj_let (f_X1_copyOf_29_75 M10) (fun M11 => (M11))))))))))))
set_option maxHeartbeats 4000000 in
set_option maxRecDepth 20000 in
theorem t_X3_copyOf_21_67 (hst : gj_Stat S) {r : gj_M} (hF : f_X3_copyOf_21_67 M = r) : gj_C G l 3 0 0 yX3_copyOf cX3_copyOf 2 none [jR 21, jR 67] S M (gj_qV fun S' M' => S = S' ∧ r = M') := by
  refine gj_Cof (by decide +kernel) (Nat.le_of_ble_eq_true rfl) ?_
  change gj_W G l 3 0 0 yX3_copyOf cX3_copyOf 2 none (gj_qV fun S' M' => S = S' ∧ r = M') 0 0 0 [(0, jR 21), (1, jR 67)] [] S M
  unfold f_X3_copyOf_21_67 at hF
  refine gj_aload_n (q := 1) (gj_dk okX3_copyOf 0 rfl) rfl rfl ?_
  refine gj_ifnonnull (q := 4) (tgt := 5) (gj_dk okX3_copyOf 1 rfl) (by decide) rfl (fun _ => ?_) (fun cc => absurd cc (by decide))
  refine gj_aload_n (q := 6) (gj_dk okX3_copyOf 3 rfl) rfl rfl ?_
  refine gj_aload_n (q := 7) (gj_dk okX3_copyOf 4 rfl) rfl rfl ?_
  refine gj_gI (q := 10) (j := 0) (gj_dk okX3_copyOf 5 rfl) ff_X3_46 (sh67 hst) (by decide) rfl rfl ?_
  refine gj_pfI (q := 13) (j := 0) (gj_dk okX3_copyOf 6 rfl) ff_X3_46 (sh21 hst) (by decide) rfl rfl ?_
  refine gj_stp hF (fun M1 hF => ?_)
  refine gj_aload_n (q := 14) (gj_dk okX3_copyOf 7 rfl) rfl rfl ?_
  refine gj_aload_n (q := 15) (gj_dk okX3_copyOf 8 rfl) rfl rfl ?_
  refine gj_gI (q := 18) (j := 1) (gj_dk okX3_copyOf 9 rfl) ff_X3_50 (sh67 hst) (by decide) rfl rfl ?_
  refine gj_pfI (q := 21) (j := 1) (gj_dk okX3_copyOf 10 rfl) ff_X3_50 (sh21 hst) (by decide) rfl rfl ?_
  refine gj_stp hF (fun M2 hF => ?_)
  refine gj_aload_n (q := 22) (gj_dk okX3_copyOf 11 rfl) rfl rfl ?_
  refine gj_aload_n (q := 23) (gj_dk okX3_copyOf 12 rfl) rfl rfl ?_
  refine gj_gI (q := 26) (j := 2) (gj_dk okX3_copyOf 13 rfl) ff_X3_53 (sh67 hst) (by decide) rfl rfl ?_
  refine gj_pfI (q := 29) (j := 2) (gj_dk okX3_copyOf 14 rfl) ff_X3_53 (sh21 hst) (by decide) rfl rfl ?_
  refine gj_stp hF (fun M3 hF => ?_)
  refine gj_aload_n (q := 30) (gj_dk okX3_copyOf 15 rfl) rfl rfl ?_
  refine gj_gR (q := 33) (j := 3) (gj_dk okX3_copyOf 16 rfl) ff_X3_9 (sh67 hst) (by decide) rfl (rf67_3 hst) rfl ?_
  refine gj_aload_n (q := 34) (gj_dk okX3_copyOf 17 rfl) rfl rfl ?_
  refine gj_gR (q := 37) (j := 3) (gj_dk okX3_copyOf 18 rfl) ff_X3_9 (sh21 hst) (by decide) rfl (rf21_3 hst) rfl ?_
  refine gj_callS (q := 40) [jR 68, jR 22] rfl (c_X7_copy (sh68 hst) (by decide) (by decide) (sh22 hst) (by decide) (by decide) (by decide)) (gj_dk okX3_copyOf 19 rfl) ml_X3_59 me_X7_copy (gj_nm rfl) rfl (gj_kV fun S2 M2 h => ?_)
  obtain ⟨eS, eM⟩ := h; subst eS; subst eM
  refine gj_stp hF (fun M4 hF => ?_)
  refine gj_aload_n (q := 41) (gj_dk okX3_copyOf 20 rfl) rfl rfl ?_
  refine gj_gR (q := 44) (j := 4) (gj_dk okX3_copyOf 21 rfl) ff_X3_15 (sh67 hst) (by decide) rfl (rf67_4 hst) rfl ?_
  refine gj_aload_n (q := 45) (gj_dk okX3_copyOf 22 rfl) rfl rfl ?_
  refine gj_gR (q := 48) (j := 4) (gj_dk okX3_copyOf 23 rfl) ff_X3_15 (sh21 hst) (by decide) rfl (rf21_4 hst) rfl ?_
  refine gj_callS (q := 51) [jR 69, jR 23] rfl (c_X7_copy (sh69 hst) (by decide) (by decide) (sh23 hst) (by decide) (by decide) (by decide)) (gj_dk okX3_copyOf 24 rfl) ml_X3_59 me_X7_copy (gj_nm rfl) rfl (gj_kV fun S2 M2 h => ?_)
  obtain ⟨eS, eM⟩ := h; subst eS; subst eM
  refine gj_stp hF (fun M5 hF => ?_)
  refine gj_aload_n (q := 52) (gj_dk okX3_copyOf 25 rfl) rfl rfl ?_
  refine gj_gR (q := 55) (j := 5) (gj_dk okX3_copyOf 26 rfl) ff_X3_18 (sh67 hst) (by decide) rfl (rf67_5 hst) rfl ?_
  refine gj_aload_n (q := 56) (gj_dk okX3_copyOf 27 rfl) rfl rfl ?_
  refine gj_gR (q := 59) (j := 5) (gj_dk okX3_copyOf 28 rfl) ff_X3_18 (sh21 hst) (by decide) rfl (rf21_5 hst) rfl ?_
  refine gj_callS (q := 62) [jR 70, jR 24] rfl (c_X7_copy (sh70 hst) (by decide) (by decide) (sh24 hst) (by decide) (by decide) (by decide)) (gj_dk okX3_copyOf 29 rfl) ml_X3_59 me_X7_copy (gj_nm rfl) rfl (gj_kV fun S2 M2 h => ?_)
  obtain ⟨eS, eM⟩ := h; subst eS; subst eM
  refine gj_stp hF (fun M6 hF => ?_)
  refine gj_aload_n (q := 63) (gj_dk okX3_copyOf 30 rfl) rfl rfl ?_
  refine gj_gR (q := 66) (j := 6) (gj_dk okX3_copyOf 31 rfl) ff_X3_21 (sh67 hst) (by decide) rfl (rf67_6 hst) rfl ?_
  refine gj_aload_n (q := 67) (gj_dk okX3_copyOf 32 rfl) rfl rfl ?_
  refine gj_gR (q := 70) (j := 6) (gj_dk okX3_copyOf 33 rfl) ff_X3_21 (sh21 hst) (by decide) rfl (rf21_6 hst) rfl ?_
  refine gj_callS (q := 73) [jR 71, jR 25] rfl (c_X7_copy (sh71 hst) (by decide) (by decide) (sh25 hst) (by decide) (by decide) (by decide)) (gj_dk okX3_copyOf 34 rfl) ml_X3_59 me_X7_copy (gj_nm rfl) rfl (gj_kV fun S2 M2 h => ?_)
  obtain ⟨eS, eM⟩ := h; subst eS; subst eM
  refine gj_stp hF (fun M7 hF => ?_)
  refine gj_aload_n (q := 74) (gj_dk okX3_copyOf 35 rfl) rfl rfl ?_
  refine gj_gR (q := 77) (j := 7) (gj_dk okX3_copyOf 36 rfl) ff_X3_24 (sh67 hst) (by decide) rfl (rf67_7 hst) rfl ?_
  refine gj_aload_n (q := 78) (gj_dk okX3_copyOf 37 rfl) rfl rfl ?_
  refine gj_gR (q := 81) (j := 7) (gj_dk okX3_copyOf 38 rfl) ff_X3_24 (sh21 hst) (by decide) rfl (rf21_7 hst) rfl ?_
  refine gj_callS (q := 84) [jR 72, jR 26] rfl (c_X7_copy (sh72 hst) (by decide) (by decide) (sh26 hst) (by decide) (by decide) (by decide)) (gj_dk okX3_copyOf 39 rfl) ml_X3_59 me_X7_copy (gj_nm rfl) rfl (gj_kV fun S2 M2 h => ?_)
  obtain ⟨eS, eM⟩ := h; subst eS; subst eM
  refine gj_stp hF (fun M8 hF => ?_)
  refine gj_aload_n (q := 85) (gj_dk okX3_copyOf 40 rfl) rfl rfl ?_
  refine gj_gR (q := 88) (j := 8) (gj_dk okX3_copyOf 41 rfl) ff_X3_27 (sh67 hst) (by decide) rfl (rf67_8 hst) rfl ?_
  refine gj_aload_n (q := 89) (gj_dk okX3_copyOf 42 rfl) rfl rfl ?_
  refine gj_gR (q := 92) (j := 8) (gj_dk okX3_copyOf 43 rfl) ff_X3_27 (sh21 hst) (by decide) rfl (rf21_8 hst) rfl ?_
  refine gj_callS (q := 95) [jR 73, jR 27] rfl (c_X7_copy (sh73 hst) (by decide) (by decide) (sh27 hst) (by decide) (by decide) (by decide)) (gj_dk okX3_copyOf 44 rfl) ml_X3_59 me_X7_copy (gj_nm rfl) rfl (gj_kV fun S2 M2 h => ?_)
  obtain ⟨eS, eM⟩ := h; subst eS; subst eM
  refine gj_stp hF (fun M9 hF => ?_)
  refine gj_aload_n (q := 96) (gj_dk okX3_copyOf 45 rfl) rfl rfl ?_
  refine gj_gR (q := 99) (j := 9) (gj_dk okX3_copyOf 46 rfl) ff_X3_30 (sh67 hst) (by decide) rfl (rf67_9 hst) rfl ?_
  refine gj_aload_n (q := 100) (gj_dk okX3_copyOf 47 rfl) rfl rfl ?_
  refine gj_gR (q := 103) (j := 9) (gj_dk okX3_copyOf 48 rfl) ff_X3_30 (sh21 hst) (by decide) rfl (rf21_9 hst) rfl ?_
  refine gj_callS (q := 106) [jR 74, jR 28] rfl (c_X7_copy (sh74 hst) (by decide) (by decide) (sh28 hst) (by decide) (by decide) (by decide)) (gj_dk okX3_copyOf 49 rfl) ml_X3_59 me_X7_copy (gj_nm rfl) rfl (gj_kV fun S2 M2 h => ?_)
  obtain ⟨eS, eM⟩ := h; subst eS; subst eM
  refine gj_stp hF (fun M10 hF => ?_)
  refine gj_aload_n (q := 107) (gj_dk okX3_copyOf 50 rfl) rfl rfl ?_
  refine gj_gR (q := 110) (j := 10) (gj_dk okX3_copyOf 51 rfl) ff_X3_36 (sh21 hst) (by decide) rfl (rf21_10 hst) rfl ?_
  refine gj_aload_n (q := 111) (gj_dk okX3_copyOf 52 rfl) rfl rfl ?_
  refine gj_gR (q := 114) (j := 10) (gj_dk okX3_copyOf 53 rfl) ff_X3_36 (sh67 hst) (by decide) rfl (rf67_10 hst) rfl ?_
  refine gj_callV (q := 117) (z := 29) (ci := 1) [jR 75] rfl (t_X1_copyOf_29_75 hst  rfl) (gj_dk okX3_copyOf 54 rfl) ml_X3_63 me_X1_copyOf (sh29 hst) rfl (gj_nm rfl) rfl (gj_kV fun S2 M2 h => ?_)
  obtain ⟨eS, eM⟩ := h; subst eS; subst eM
  refine gj_stp hF (fun M11 hF => ?_)
  subst hF
  exact gj_vret (gj_dk okX3_copyOf 55 rfl) rfl ⟨rfl, rfl, rfl⟩
def F_X11_image (a1 : Int) (M : gj_M) : Option (Int × gj_M) :=
  gj_bnd (F_X11_pictureAt a1 M) (fun x1 => (if x1 = (-1) then gj_let2 (f_X11_refuse 0 M) (fun x3 M4 => (some ((x3, M4)))) else (if x1 = 47 then gj_letI (f_X5_stands_14 M) (fun x5 => (if x5 = 0 then gj_let2 (f_X11_refuse 2 M) (fun x8 M9 => (some ((x8, M9)))) else gj_let (f_X3_copyOf_47_21 M) (fun M6 => gj_let (f_put M6 77 3 a1 1) (fun M7 => (some ((1, M7))))))) else (if x1 = 57 then gj_letI (f_X5_stands_14 M) (fun x10 => (if x10 = 0 then gj_let2 (f_X11_refuse 2 M) (fun x13 M14 => (some ((x13, M14)))) else gj_let (f_X3_copyOf_57_21 M) (fun M11 => gj_let (f_put M11 77 3 a1 1) (fun M12 => (some ((1, M12))))))) else (if x1 = 67 then gj_letI (f_X5_stands_14 M) (fun x15 => (if x15 = 0 then gj_let2 (f_X11_refuse 2 M) (fun x18 M19 => (some ((x18, M19)))) else gj_let (f_X3_copyOf_67_21 M) (fun M16 => gj_let (f_put M16 77 3 a1 1) (fun M17 => (some ((1, M17))))))) else none)))))
set_option maxHeartbeats 4000000 in
set_option maxRecDepth 20000 in
theorem t_X11_image (hst : gj_Stat S) (a1 : Int) {r : Int × gj_M} (hF : F_X11_image a1 M = some r) : gj_C G l 4 0 0 yX11_image cX11_image 3 (some .boolean) [jR 0, jI a1] S M (gj_qI fun x S' M' => (x = 0 ∨ x = 1) ∧ r.1 = x ∧ S = S' ∧ r.2 = M') := by
  refine gj_Cof (by decide +kernel) (Nat.le_of_ble_eq_true rfl) ?_
  change gj_W G l 4 0 0 yX11_image cX11_image 3 (some .boolean) (gj_qI fun x S' M' => (x = 0 ∨ x = 1) ∧ r.1 = x ∧ S = S' ∧ r.2 = M') 0 0 0 [(0, jR 0), (1, jI a1)] [] S M
  unfold F_X11_image at hF
  refine gj_aload_n (q := 1) (gj_dk okX11_image 0 rfl) rfl rfl ?_
  refine gj_iload_n (q := 2) (gj_dk okX11_image 1 rfl) rfl rfl ?_
  obtain ⟨x1, hG, hF⟩ := gj_bndd hF
  refine gj_callV (q := 5) (z := 0) (ci := 9) [jI a1] rfl (t_X11_pictureAt hst a1 hG) (gj_dk okX11_image 2 rfl) ml_X11_314 me_X11_pictureAt (sh0 hst) rfl (gj_nm rfl) rfl (gj_kR fun y S2 M2 h => ?_)
  obtain ⟨e, eS, eM⟩ := h; subst eS; subst eM; subst e; clear hG
  by_cases r_m1 : x1 = (-1)
  · replace hF := gj_ift r_m1 hF
    subst r_m1
    refine gj_astore_n (q := 6) (gj_dk okX11_image 3 rfl) (by decide) rfl ?_
    refine gj_aload_n (q := 7) (gj_dk okX11_image 4 rfl) rfl rfl ?_
    refine gj_ifnonnull (q := 10) (tgt := 16) (gj_dk okX11_image 5 rfl) (by decide) rfl (fun cc => absurd rfl cc) (fun _ => ?_)
    refine gj_aload_n (q := 11) (gj_dk okX11_image 6 rfl) rfl rfl ?_
    refine gj_iconst (q := 12) (gj_dk okX11_image 7 rfl) (by decide) rfl ?_
    refine gj_callV (q := 15) (z := 0) (ci := 9) [jI 0] rfl (t_X11_refuse hst 0 rfl) (gj_dk okX11_image 8 rfl) ml_X11_92 me_X11_refuse (sh0 hst) rfl (gj_nm rfl) rfl (gj_kI fun x S2 M2 h => ?_)
    obtain ⟨bz, e, eS, eM⟩ := h; subst eS; subst eM; subst e
    refine gj_stp2Z bz hF (fun x3 M4 bx3 hF => ?_)
    cases hF
    exact gj_zret (gj_dk okX11_image 9 rfl) rfl bx3 ⟨_, rfl, bx3, rfl, rfl, rfl⟩
  replace hF := gj_iff r_m1 hF
  by_cases r_47 : x1 = 47
  · replace hF := gj_ift r_47 hF
    subst r_47
    refine gj_astore_n (q := 6) (gj_dk okX11_image 3 rfl) (by decide) rfl ?_
    refine gj_aload_n (q := 7) (gj_dk okX11_image 4 rfl) rfl rfl ?_
    refine gj_ifnonnull (q := 10) (tgt := 16) (gj_dk okX11_image 5 rfl) (by decide) rfl (fun _ => ?_) (fun cc => absurd cc (by decide))
    refine gj_aload_n (q := 17) (gj_dk okX11_image 10 rfl) rfl rfl ?_
    refine gj_gR (q := 20) (j := 3) (gj_dk okX11_image 11 rfl) ff_X11_32 (sh0 hst) (by decide) rfl (rf0_3 hst) rfl ?_
    refine gj_callV (q := 23) (z := 14) (ci := 5) [] rfl (t_X5_stands_14 hst  rfl) (gj_dk okX11_image 12 rfl) ml_X11_268 me_X5_stands (sh14 hst) rfl (gj_nm rfl) rfl (gj_kI fun x S2 M2 h => ?_)
    obtain ⟨bz, e, eS, eM⟩ := h; subst eS; subst eM; subst e
    refine gj_stpZ bz hF (fun x5 bx5 hF => ?_)
    refine gj_if_ne (q := 26) (tgt := 32) (gj_dk okX11_image 13 rfl) (by decide) rfl (fun c23 => ?_) (fun c23 => ?_)
    · -- 32
      replace hF := gj_iff c23 hF
      refine gj_aload_n (q := 33) (gj_dk okX11_image 18 rfl) rfl rfl ?_
      refine gj_aload_n (q := 34) (gj_dk okX11_image 19 rfl) rfl rfl ?_
      refine gj_gR (q := 37) (j := 4) (gj_dk okX11_image 20 rfl) ff_X11_38 (sh0 hst) (by decide) rfl (rf0_4 hst) rfl ?_
      refine gj_callV (q := 40) (z := 47) (ci := 3) [jR 21] rfl (t_X3_copyOf_47_21 hst  rfl) (gj_dk okX11_image 21 rfl) ml_X11_318 me_X3_copyOf (sh47 hst) rfl (gj_nm rfl) rfl (gj_kV fun S2 M2 h => ?_)
      obtain ⟨eS, eM⟩ := h; subst eS; subst eM
      refine gj_stp hF (fun M6 hF => ?_)
      refine gj_aload_n (q := 41) (gj_dk okX11_image 22 rfl) rfl rfl ?_
      refine gj_gR (q := 44) (j := 10) (gj_dk okX11_image 23 rfl) ff_X11_80 (sh0 hst) (by decide) rfl (rf0_10 hst) rfl ?_
      refine gj_iload_n (q := 45) (gj_dk okX11_image 24 rfl) rfl rfl ?_
      refine gj_iconst (q := 46) (gj_dk okX11_image 25 rfl) (by decide) rfl ?_
      refine gj_callS (q := 49) [jR 77, jI a1, jI 1] rfl (c_X7_mark (sh77 hst) (by decide) (by decide) _ _ (by decide)) (gj_dk okX11_image 26 rfl) ml_X11_322 me_X7_mark (gj_nm rfl) rfl (gj_kV fun S2 M2 h => ?_)
      obtain ⟨eS, eM⟩ := h; subst eS; subst eM
      refine gj_stp hF (fun M7 hF => ?_)
      refine gj_iconst (q := 50) (gj_dk okX11_image 27 rfl) (by decide) rfl ?_
      cases hF
      exact gj_zret (gj_dk okX11_image 28 rfl) rfl (by decide) ⟨_, rfl, (by decide), rfl, rfl, rfl⟩
    · -- 26
      replace hF := gj_ift c23 hF
      refine gj_aload_n (q := 27) (gj_dk okX11_image 14 rfl) rfl rfl ?_
      refine gj_iconst (q := 28) (gj_dk okX11_image 15 rfl) (by decide) rfl ?_
      refine gj_callV (q := 31) (z := 0) (ci := 9) [jI 2] rfl (t_X11_refuse hst 2 rfl) (gj_dk okX11_image 16 rfl) ml_X11_92 me_X11_refuse (sh0 hst) rfl (gj_nm rfl) rfl (gj_kI fun x S2 M2 h => ?_)
      obtain ⟨bz, e, eS, eM⟩ := h; subst eS; subst eM; subst e
      refine gj_stp2Z bz hF (fun x8 M9 bx8 hF => ?_)
      cases hF
      exact gj_zret (gj_dk okX11_image 17 rfl) rfl bx8 ⟨_, rfl, bx8, rfl, rfl, rfl⟩
  replace hF := gj_iff r_47 hF
  by_cases r_57 : x1 = 57
  · replace hF := gj_ift r_57 hF
    subst r_57
    refine gj_astore_n (q := 6) (gj_dk okX11_image 3 rfl) (by decide) rfl ?_
    refine gj_aload_n (q := 7) (gj_dk okX11_image 4 rfl) rfl rfl ?_
    refine gj_ifnonnull (q := 10) (tgt := 16) (gj_dk okX11_image 5 rfl) (by decide) rfl (fun _ => ?_) (fun cc => absurd cc (by decide))
    refine gj_aload_n (q := 17) (gj_dk okX11_image 10 rfl) rfl rfl ?_
    refine gj_gR (q := 20) (j := 3) (gj_dk okX11_image 11 rfl) ff_X11_32 (sh0 hst) (by decide) rfl (rf0_3 hst) rfl ?_
    refine gj_callV (q := 23) (z := 14) (ci := 5) [] rfl (t_X5_stands_14 hst  rfl) (gj_dk okX11_image 12 rfl) ml_X11_268 me_X5_stands (sh14 hst) rfl (gj_nm rfl) rfl (gj_kI fun x S2 M2 h => ?_)
    obtain ⟨bz, e, eS, eM⟩ := h; subst eS; subst eM; subst e
    refine gj_stpZ bz hF (fun x10 bx10 hF => ?_)
    refine gj_if_ne (q := 26) (tgt := 32) (gj_dk okX11_image 13 rfl) (by decide) rfl (fun c23 => ?_) (fun c23 => ?_)
    · -- 32
      replace hF := gj_iff c23 hF
      refine gj_aload_n (q := 33) (gj_dk okX11_image 18 rfl) rfl rfl ?_
      refine gj_aload_n (q := 34) (gj_dk okX11_image 19 rfl) rfl rfl ?_
      refine gj_gR (q := 37) (j := 4) (gj_dk okX11_image 20 rfl) ff_X11_38 (sh0 hst) (by decide) rfl (rf0_4 hst) rfl ?_
      refine gj_callV (q := 40) (z := 57) (ci := 3) [jR 21] rfl (t_X3_copyOf_57_21 hst  rfl) (gj_dk okX11_image 21 rfl) ml_X11_318 me_X3_copyOf (sh57 hst) rfl (gj_nm rfl) rfl (gj_kV fun S2 M2 h => ?_)
      obtain ⟨eS, eM⟩ := h; subst eS; subst eM
      refine gj_stp hF (fun M11 hF => ?_)
      refine gj_aload_n (q := 41) (gj_dk okX11_image 22 rfl) rfl rfl ?_
      refine gj_gR (q := 44) (j := 10) (gj_dk okX11_image 23 rfl) ff_X11_80 (sh0 hst) (by decide) rfl (rf0_10 hst) rfl ?_
      refine gj_iload_n (q := 45) (gj_dk okX11_image 24 rfl) rfl rfl ?_
      refine gj_iconst (q := 46) (gj_dk okX11_image 25 rfl) (by decide) rfl ?_
      refine gj_callS (q := 49) [jR 77, jI a1, jI 1] rfl (c_X7_mark (sh77 hst) (by decide) (by decide) _ _ (by decide)) (gj_dk okX11_image 26 rfl) ml_X11_322 me_X7_mark (gj_nm rfl) rfl (gj_kV fun S2 M2 h => ?_)
      obtain ⟨eS, eM⟩ := h; subst eS; subst eM
      refine gj_stp hF (fun M12 hF => ?_)
      refine gj_iconst (q := 50) (gj_dk okX11_image 27 rfl) (by decide) rfl ?_
      cases hF
      exact gj_zret (gj_dk okX11_image 28 rfl) rfl (by decide) ⟨_, rfl, (by decide), rfl, rfl, rfl⟩
    · -- 26
      replace hF := gj_ift c23 hF
      refine gj_aload_n (q := 27) (gj_dk okX11_image 14 rfl) rfl rfl ?_
      refine gj_iconst (q := 28) (gj_dk okX11_image 15 rfl) (by decide) rfl ?_
      refine gj_callV (q := 31) (z := 0) (ci := 9) [jI 2] rfl (t_X11_refuse hst 2 rfl) (gj_dk okX11_image 16 rfl) ml_X11_92 me_X11_refuse (sh0 hst) rfl (gj_nm rfl) rfl (gj_kI fun x S2 M2 h => ?_)
      obtain ⟨bz, e, eS, eM⟩ := h; subst eS; subst eM; subst e
      refine gj_stp2Z bz hF (fun x13 M14 bx13 hF => ?_)
      cases hF
      exact gj_zret (gj_dk okX11_image 17 rfl) rfl bx13 ⟨_, rfl, bx13, rfl, rfl, rfl⟩
  replace hF := gj_iff r_57 hF
  by_cases r_67 : x1 = 67
  · replace hF := gj_ift r_67 hF
    subst r_67
    refine gj_astore_n (q := 6) (gj_dk okX11_image 3 rfl) (by decide) rfl ?_
    refine gj_aload_n (q := 7) (gj_dk okX11_image 4 rfl) rfl rfl ?_
    refine gj_ifnonnull (q := 10) (tgt := 16) (gj_dk okX11_image 5 rfl) (by decide) rfl (fun _ => ?_) (fun cc => absurd cc (by decide))
    refine gj_aload_n (q := 17) (gj_dk okX11_image 10 rfl) rfl rfl ?_
    refine gj_gR (q := 20) (j := 3) (gj_dk okX11_image 11 rfl) ff_X11_32 (sh0 hst) (by decide) rfl (rf0_3 hst) rfl ?_
    refine gj_callV (q := 23) (z := 14) (ci := 5) [] rfl (t_X5_stands_14 hst  rfl) (gj_dk okX11_image 12 rfl) ml_X11_268 me_X5_stands (sh14 hst) rfl (gj_nm rfl) rfl (gj_kI fun x S2 M2 h => ?_)
    obtain ⟨bz, e, eS, eM⟩ := h; subst eS; subst eM; subst e
    refine gj_stpZ bz hF (fun x15 bx15 hF => ?_)
    refine gj_if_ne (q := 26) (tgt := 32) (gj_dk okX11_image 13 rfl) (by decide) rfl (fun c23 => ?_) (fun c23 => ?_)
    · -- 32
      replace hF := gj_iff c23 hF
      refine gj_aload_n (q := 33) (gj_dk okX11_image 18 rfl) rfl rfl ?_
      refine gj_aload_n (q := 34) (gj_dk okX11_image 19 rfl) rfl rfl ?_
      refine gj_gR (q := 37) (j := 4) (gj_dk okX11_image 20 rfl) ff_X11_38 (sh0 hst) (by decide) rfl (rf0_4 hst) rfl ?_
      refine gj_callV (q := 40) (z := 67) (ci := 3) [jR 21] rfl (t_X3_copyOf_67_21 hst  rfl) (gj_dk okX11_image 21 rfl) ml_X11_318 me_X3_copyOf (sh67 hst) rfl (gj_nm rfl) rfl (gj_kV fun S2 M2 h => ?_)
      obtain ⟨eS, eM⟩ := h; subst eS; subst eM
      refine gj_stp hF (fun M16 hF => ?_)
      refine gj_aload_n (q := 41) (gj_dk okX11_image 22 rfl) rfl rfl ?_
      refine gj_gR (q := 44) (j := 10) (gj_dk okX11_image 23 rfl) ff_X11_80 (sh0 hst) (by decide) rfl (rf0_10 hst) rfl ?_
      refine gj_iload_n (q := 45) (gj_dk okX11_image 24 rfl) rfl rfl ?_
      refine gj_iconst (q := 46) (gj_dk okX11_image 25 rfl) (by decide) rfl ?_
      refine gj_callS (q := 49) [jR 77, jI a1, jI 1] rfl (c_X7_mark (sh77 hst) (by decide) (by decide) _ _ (by decide)) (gj_dk okX11_image 26 rfl) ml_X11_322 me_X7_mark (gj_nm rfl) rfl (gj_kV fun S2 M2 h => ?_)
      obtain ⟨eS, eM⟩ := h; subst eS; subst eM
      refine gj_stp hF (fun M17 hF => ?_)
      refine gj_iconst (q := 50) (gj_dk okX11_image 27 rfl) (by decide) rfl ?_
      cases hF
      exact gj_zret (gj_dk okX11_image 28 rfl) rfl (by decide) ⟨_, rfl, (by decide), rfl, rfl, rfl⟩
    · -- 26
      replace hF := gj_ift c23 hF
      refine gj_aload_n (q := 27) (gj_dk okX11_image 14 rfl) rfl rfl ?_
      refine gj_iconst (q := 28) (gj_dk okX11_image 15 rfl) (by decide) rfl ?_
      refine gj_callV (q := 31) (z := 0) (ci := 9) [jI 2] rfl (t_X11_refuse hst 2 rfl) (gj_dk okX11_image 16 rfl) ml_X11_92 me_X11_refuse (sh0 hst) rfl (gj_nm rfl) rfl (gj_kI fun x S2 M2 h => ?_)
      obtain ⟨bz, e, eS, eM⟩ := h; subst eS; subst eM; subst e
      refine gj_stp2Z bz hF (fun x18 M19 bx18 hF => ?_)
      cases hF
      exact gj_zret (gj_dk okX11_image 17 rfl) rfl bx18 ⟨_, rfl, bx18, rfl, rfl, rfl⟩
  replace hF := gj_iff r_67 hF
  cases hF
def F_X11_on (a1 : Int) (M : gj_M) : Option (Int × gj_M) :=
  gj_bnd (F_X11_pictureAt a1 M) (fun x1 => (if x1 = (-1) then gj_let2 (f_X11_refuse 0 M) (fun x3 M4 => (some ((x3, M4)))) else (if x1 = 47 then (if f_at M 77 3 a1 = 0 then gj_let2 (f_X11_refuse 0 M) (fun x6 M7 => (some ((x6, M7)))) else gj_let (f_X3_copyOf_21_47 M) (fun M5 => (some ((1, M5))))) else (if x1 = 57 then (if f_at M 77 3 a1 = 0 then gj_let2 (f_X11_refuse 0 M) (fun x9 M10 => (some ((x9, M10)))) else gj_let (f_X3_copyOf_21_57 M) (fun M8 => (some ((1, M8))))) else (if x1 = 67 then (if f_at M 77 3 a1 = 0 then gj_let2 (f_X11_refuse 0 M) (fun x12 M13 => (some ((x12, M13)))) else gj_let (f_X3_copyOf_21_67 M) (fun M11 => (some ((1, M11))))) else none)))))
set_option maxHeartbeats 4000000 in
set_option maxRecDepth 20000 in
theorem t_X11_on (hst : gj_Stat S) (a1 : Int) {r : Int × gj_M} (hF : F_X11_on a1 M = some r) : gj_C G l 4 0 0 yX11_on cX11_on 3 (some .boolean) [jR 0, jI a1] S M (gj_qI fun x S' M' => (x = 0 ∨ x = 1) ∧ r.1 = x ∧ S = S' ∧ r.2 = M') := by
  refine gj_Cof (by decide +kernel) (Nat.le_of_ble_eq_true rfl) ?_
  change gj_W G l 4 0 0 yX11_on cX11_on 3 (some .boolean) (gj_qI fun x S' M' => (x = 0 ∨ x = 1) ∧ r.1 = x ∧ S = S' ∧ r.2 = M') 0 0 0 [(0, jR 0), (1, jI a1)] [] S M
  unfold F_X11_on at hF
  refine gj_aload_n (q := 1) (gj_dk okX11_on 0 rfl) rfl rfl ?_
  refine gj_iload_n (q := 2) (gj_dk okX11_on 1 rfl) rfl rfl ?_
  obtain ⟨x1, hG, hF⟩ := gj_bndd hF
  refine gj_callV (q := 5) (z := 0) (ci := 9) [jI a1] rfl (t_X11_pictureAt hst a1 hG) (gj_dk okX11_on 2 rfl) ml_X11_314 me_X11_pictureAt (sh0 hst) rfl (gj_nm rfl) rfl (gj_kR fun y S2 M2 h => ?_)
  obtain ⟨e, eS, eM⟩ := h; subst eS; subst eM; subst e; clear hG
  by_cases r_m1 : x1 = (-1)
  · replace hF := gj_ift r_m1 hF
    subst r_m1
    refine gj_astore_n (q := 6) (gj_dk okX11_on 3 rfl) (by decide) rfl ?_
    refine gj_aload_n (q := 7) (gj_dk okX11_on 4 rfl) rfl rfl ?_
    refine gj_ifnull (q := 10) (tgt := 21) (gj_dk okX11_on 5 rfl) (by decide) rfl (fun _ => ?_) (fun cc => absurd rfl cc)
    refine gj_aload_n (q := 22) (gj_dk okX11_on 11 rfl) rfl rfl ?_
    refine gj_iconst (q := 23) (gj_dk okX11_on 12 rfl) (by decide) rfl ?_
    refine gj_callV (q := 26) (z := 0) (ci := 9) [jI 0] rfl (t_X11_refuse hst 0 rfl) (gj_dk okX11_on 13 rfl) ml_X11_92 me_X11_refuse (sh0 hst) rfl (gj_nm rfl) rfl (gj_kI fun x S2 M2 h => ?_)
    obtain ⟨bz, e, eS, eM⟩ := h; subst eS; subst eM; subst e
    refine gj_stp2Z bz hF (fun x3 M4 bx3 hF => ?_)
    cases hF
    exact gj_zret (gj_dk okX11_on 14 rfl) rfl bx3 ⟨_, rfl, bx3, rfl, rfl, rfl⟩
  replace hF := gj_iff r_m1 hF
  by_cases r_47 : x1 = 47
  · replace hF := gj_ift r_47 hF
    subst r_47
    refine gj_astore_n (q := 6) (gj_dk okX11_on 3 rfl) (by decide) rfl ?_
    refine gj_aload_n (q := 7) (gj_dk okX11_on 4 rfl) rfl rfl ?_
    refine gj_ifnull (q := 10) (tgt := 21) (gj_dk okX11_on 5 rfl) (by decide) rfl (fun cc => absurd cc (by decide)) (fun _ => ?_)
    refine gj_aload_n (q := 11) (gj_dk okX11_on 6 rfl) rfl rfl ?_
    refine gj_gR (q := 14) (j := 10) (gj_dk okX11_on 7 rfl) ff_X11_80 (sh0 hst) (by decide) rfl (rf0_10 hst) rfl ?_
    refine gj_iload_n (q := 15) (gj_dk okX11_on 8 rfl) rfl rfl ?_
    refine gj_callS (q := 18) [jR 77, jI a1] rfl (c_X7_is (sh77 hst) (by decide) (by decide) _) (gj_dk okX11_on 9 rfl) ml_X11_326 me_X7_is (gj_nm rfl) rfl (gj_kI fun x S2 M2 h => ?_)
    obtain ⟨e, eS, eM⟩ := h; subst eS; subst eM; subst e
    refine gj_if_ne (q := 21) (tgt := 27) (gj_dk okX11_on 10 rfl) (by decide) rfl (fun c18 => ?_) (fun c18 => ?_)
    · -- 27
      replace hF := gj_iff c18 hF
      refine gj_aload_n (q := 28) (gj_dk okX11_on 15 rfl) rfl rfl ?_
      refine gj_gR (q := 31) (j := 4) (gj_dk okX11_on 16 rfl) ff_X11_38 (sh0 hst) (by decide) rfl (rf0_4 hst) rfl ?_
      refine gj_aload_n (q := 32) (gj_dk okX11_on 17 rfl) rfl rfl ?_
      refine gj_callV (q := 35) (z := 21) (ci := 3) [jR 47] rfl (t_X3_copyOf_21_47 hst  rfl) (gj_dk okX11_on 18 rfl) ml_X11_318 me_X3_copyOf (sh21 hst) rfl (gj_nm rfl) rfl (gj_kV fun S2 M2 h => ?_)
      obtain ⟨eS, eM⟩ := h; subst eS; subst eM
      refine gj_stp hF (fun M5 hF => ?_)
      refine gj_iconst (q := 36) (gj_dk okX11_on 19 rfl) (by decide) rfl ?_
      cases hF
      exact gj_zret (gj_dk okX11_on 20 rfl) rfl (by decide) ⟨_, rfl, (by decide), rfl, rfl, rfl⟩
    · -- 21
      replace hF := gj_ift c18 hF
      refine gj_aload_n (q := 22) (gj_dk okX11_on 11 rfl) rfl rfl ?_
      refine gj_iconst (q := 23) (gj_dk okX11_on 12 rfl) (by decide) rfl ?_
      refine gj_callV (q := 26) (z := 0) (ci := 9) [jI 0] rfl (t_X11_refuse hst 0 rfl) (gj_dk okX11_on 13 rfl) ml_X11_92 me_X11_refuse (sh0 hst) rfl (gj_nm rfl) rfl (gj_kI fun x S2 M2 h => ?_)
      obtain ⟨bz, e, eS, eM⟩ := h; subst eS; subst eM; subst e
      refine gj_stp2Z bz hF (fun x6 M7 bx6 hF => ?_)
      cases hF
      exact gj_zret (gj_dk okX11_on 14 rfl) rfl bx6 ⟨_, rfl, bx6, rfl, rfl, rfl⟩
  replace hF := gj_iff r_47 hF
  by_cases r_57 : x1 = 57
  · replace hF := gj_ift r_57 hF
    subst r_57
    refine gj_astore_n (q := 6) (gj_dk okX11_on 3 rfl) (by decide) rfl ?_
    refine gj_aload_n (q := 7) (gj_dk okX11_on 4 rfl) rfl rfl ?_
    refine gj_ifnull (q := 10) (tgt := 21) (gj_dk okX11_on 5 rfl) (by decide) rfl (fun cc => absurd cc (by decide)) (fun _ => ?_)
    refine gj_aload_n (q := 11) (gj_dk okX11_on 6 rfl) rfl rfl ?_
    refine gj_gR (q := 14) (j := 10) (gj_dk okX11_on 7 rfl) ff_X11_80 (sh0 hst) (by decide) rfl (rf0_10 hst) rfl ?_
    refine gj_iload_n (q := 15) (gj_dk okX11_on 8 rfl) rfl rfl ?_
    refine gj_callS (q := 18) [jR 77, jI a1] rfl (c_X7_is (sh77 hst) (by decide) (by decide) _) (gj_dk okX11_on 9 rfl) ml_X11_326 me_X7_is (gj_nm rfl) rfl (gj_kI fun x S2 M2 h => ?_)
    obtain ⟨e, eS, eM⟩ := h; subst eS; subst eM; subst e
    refine gj_if_ne (q := 21) (tgt := 27) (gj_dk okX11_on 10 rfl) (by decide) rfl (fun c18 => ?_) (fun c18 => ?_)
    · -- 27
      replace hF := gj_iff c18 hF
      refine gj_aload_n (q := 28) (gj_dk okX11_on 15 rfl) rfl rfl ?_
      refine gj_gR (q := 31) (j := 4) (gj_dk okX11_on 16 rfl) ff_X11_38 (sh0 hst) (by decide) rfl (rf0_4 hst) rfl ?_
      refine gj_aload_n (q := 32) (gj_dk okX11_on 17 rfl) rfl rfl ?_
      refine gj_callV (q := 35) (z := 21) (ci := 3) [jR 57] rfl (t_X3_copyOf_21_57 hst  rfl) (gj_dk okX11_on 18 rfl) ml_X11_318 me_X3_copyOf (sh21 hst) rfl (gj_nm rfl) rfl (gj_kV fun S2 M2 h => ?_)
      obtain ⟨eS, eM⟩ := h; subst eS; subst eM
      refine gj_stp hF (fun M8 hF => ?_)
      refine gj_iconst (q := 36) (gj_dk okX11_on 19 rfl) (by decide) rfl ?_
      cases hF
      exact gj_zret (gj_dk okX11_on 20 rfl) rfl (by decide) ⟨_, rfl, (by decide), rfl, rfl, rfl⟩
    · -- 21
      replace hF := gj_ift c18 hF
      refine gj_aload_n (q := 22) (gj_dk okX11_on 11 rfl) rfl rfl ?_
      refine gj_iconst (q := 23) (gj_dk okX11_on 12 rfl) (by decide) rfl ?_
      refine gj_callV (q := 26) (z := 0) (ci := 9) [jI 0] rfl (t_X11_refuse hst 0 rfl) (gj_dk okX11_on 13 rfl) ml_X11_92 me_X11_refuse (sh0 hst) rfl (gj_nm rfl) rfl (gj_kI fun x S2 M2 h => ?_)
      obtain ⟨bz, e, eS, eM⟩ := h; subst eS; subst eM; subst e
      refine gj_stp2Z bz hF (fun x9 M10 bx9 hF => ?_)
      cases hF
      exact gj_zret (gj_dk okX11_on 14 rfl) rfl bx9 ⟨_, rfl, bx9, rfl, rfl, rfl⟩
  replace hF := gj_iff r_57 hF
  by_cases r_67 : x1 = 67
  · replace hF := gj_ift r_67 hF
    subst r_67
    refine gj_astore_n (q := 6) (gj_dk okX11_on 3 rfl) (by decide) rfl ?_
    refine gj_aload_n (q := 7) (gj_dk okX11_on 4 rfl) rfl rfl ?_
    refine gj_ifnull (q := 10) (tgt := 21) (gj_dk okX11_on 5 rfl) (by decide) rfl (fun cc => absurd cc (by decide)) (fun _ => ?_)
    refine gj_aload_n (q := 11) (gj_dk okX11_on 6 rfl) rfl rfl ?_
    refine gj_gR (q := 14) (j := 10) (gj_dk okX11_on 7 rfl) ff_X11_80 (sh0 hst) (by decide) rfl (rf0_10 hst) rfl ?_
    refine gj_iload_n (q := 15) (gj_dk okX11_on 8 rfl) rfl rfl ?_
    refine gj_callS (q := 18) [jR 77, jI a1] rfl (c_X7_is (sh77 hst) (by decide) (by decide) _) (gj_dk okX11_on 9 rfl) ml_X11_326 me_X7_is (gj_nm rfl) rfl (gj_kI fun x S2 M2 h => ?_)
    obtain ⟨e, eS, eM⟩ := h; subst eS; subst eM; subst e
    refine gj_if_ne (q := 21) (tgt := 27) (gj_dk okX11_on 10 rfl) (by decide) rfl (fun c18 => ?_) (fun c18 => ?_)
    · -- 27
      replace hF := gj_iff c18 hF
      refine gj_aload_n (q := 28) (gj_dk okX11_on 15 rfl) rfl rfl ?_
      refine gj_gR (q := 31) (j := 4) (gj_dk okX11_on 16 rfl) ff_X11_38 (sh0 hst) (by decide) rfl (rf0_4 hst) rfl ?_
      refine gj_aload_n (q := 32) (gj_dk okX11_on 17 rfl) rfl rfl ?_
      refine gj_callV (q := 35) (z := 21) (ci := 3) [jR 67] rfl (t_X3_copyOf_21_67 hst  rfl) (gj_dk okX11_on 18 rfl) ml_X11_318 me_X3_copyOf (sh21 hst) rfl (gj_nm rfl) rfl (gj_kV fun S2 M2 h => ?_)
      obtain ⟨eS, eM⟩ := h; subst eS; subst eM
      refine gj_stp hF (fun M11 hF => ?_)
      refine gj_iconst (q := 36) (gj_dk okX11_on 19 rfl) (by decide) rfl ?_
      cases hF
      exact gj_zret (gj_dk okX11_on 20 rfl) rfl (by decide) ⟨_, rfl, (by decide), rfl, rfl, rfl⟩
    · -- 21
      replace hF := gj_ift c18 hF
      refine gj_aload_n (q := 22) (gj_dk okX11_on 11 rfl) rfl rfl ?_
      refine gj_iconst (q := 23) (gj_dk okX11_on 12 rfl) (by decide) rfl ?_
      refine gj_callV (q := 26) (z := 0) (ci := 9) [jI 0] rfl (t_X11_refuse hst 0 rfl) (gj_dk okX11_on 13 rfl) ml_X11_92 me_X11_refuse (sh0 hst) rfl (gj_nm rfl) rfl (gj_kI fun x S2 M2 h => ?_)
      obtain ⟨bz, e, eS, eM⟩ := h; subst eS; subst eM; subst e
      refine gj_stp2Z bz hF (fun x12 M13 bx12 hF => ?_)
      cases hF
      exact gj_zret (gj_dk okX11_on 14 rfl) rfl bx12 ⟨_, rfl, bx12, rfl, rfl, rfl⟩
  replace hF := gj_iff r_67 hF
  cases hF
def F_X11_status (a1 : Int) (M : gj_M) : Option (Int) :=
  (if a1 < 0 then (some (-1)) else (if a1 < 3 then gj_chk (0 ≤ a1 ∧ a1 < 3) ((some (M 78 a1))) else (some (-1))))
set_option maxHeartbeats 4000000 in
set_option maxRecDepth 20000 in
theorem t_X11_status (hst : gj_Stat S) (a1 : Int) {r : Int} (hF : F_X11_status a1 M = some r) : gj_C G l 1 0 0 yX11_status cX11_status 2 (some .int) [jR 0, jI a1] S M (gj_qI fun x S' M' => r = x ∧ S = S' ∧ M = M') := by
  refine gj_Cof (by decide +kernel) (Nat.le_of_ble_eq_true rfl) ?_
  change gj_W G l 1 0 0 yX11_status cX11_status 2 (some .int) (gj_qI fun x S' M' => r = x ∧ S = S' ∧ M = M') 0 0 0 [(0, jR 0), (1, jI a1)] [] S M
  unfold F_X11_status at hF
  refine gj_iload_n (q := 1) (gj_dk okX11_status 0 rfl) rfl rfl ?_
  refine gj_if_lt (q := 4) (tgt := 13) (gj_dk okX11_status 1 rfl) (by decide) rfl (fun c1 => ?_) (fun c1 => ?_)
  · -- 13
    replace hF := gj_ift c1 hF
    refine gj_iconst (q := 14) (gj_dk okX11_status 7 rfl) (by decide) rfl ?_
    refine gj_goto (tgt := 23) (gj_dk okX11_status 8 rfl) (by decide) ?_
    cases hF
    exact gj_iret (gj_dk okX11_status 13 rfl) rfl ⟨_, rfl, rfl, rfl, rfl⟩
  · -- 4
    replace hF := gj_iff c1 hF
    refine gj_iload_n (q := 5) (gj_dk okX11_status 2 rfl) rfl rfl ?_
    refine gj_aload_n (q := 6) (gj_dk okX11_status 3 rfl) rfl rfl ?_
    refine gj_gR (q := 9) (j := 11) (gj_dk okX11_status 4 rfl) ff_X11_84 (sh0 hst) (by decide) rfl (rf0_11 hst) rfl ?_
    refine gj_alen (q := 10) (gj_dk okX11_status 5 rfl) (sh78 hst) (by decide) rfl ?_
    refine gj_icmp_lt (q := 13) (tgt := 17) (gj_dk okX11_status 6 rfl) (by decide) rfl (fun c10 => ?_) (fun c10 => ?_)
    · -- 17
      replace hF := gj_ift c10 hF
      refine gj_aload_n (q := 18) (gj_dk okX11_status 9 rfl) rfl rfl ?_
      refine gj_gR (q := 21) (j := 11) (gj_dk okX11_status 10 rfl) ff_X11_84 (sh0 hst) (by decide) rfl (rf0_11 hst) rfl ?_
      refine gj_iload_n (q := 22) (gj_dk okX11_status 11 rfl) rfl rfl ?_
      obtain ⟨b1, hF⟩ := gj_ckd hF
      refine gj_iald (q := 23) (gj_dk okX11_status 12 rfl) (sh78 hst) b1.1 b1.2 rfl ?_
      cases hF
      exact gj_iret (gj_dk okX11_status 13 rfl) rfl ⟨_, rfl, rfl, rfl, rfl⟩
    · -- 13
      replace hF := gj_iff c10 hF
      refine gj_iconst (q := 14) (gj_dk okX11_status 7 rfl) (by decide) rfl ?_
      refine gj_goto (tgt := 23) (gj_dk okX11_status 8 rfl) (by decide) ?_
      cases hF
      exact gj_iret (gj_dk okX11_status 13 rfl) rfl ⟨_, rfl, rfl, rfl, rfl⟩
def f_X11_count (a1 : Int) (M : gj_M) : Int :=
  gj_letI (f_X5_stands_14 M) (fun x1 => (if a1 = 0 then (M 14 0) else (if a1 = 1 then (M 14 1) else (if a1 = 2 then (if x1 = 0 then (0) else (M 21 0)) else (if a1 = 3 then (if x1 = 0 then (0) else (M 21 1)) else (if a1 = 4 then (if x1 = 0 then (0) else (M 14 9)) else (if a1 = 5 then gj_letI (f_X9_length M) (fun x2 => (x2)) else (-1))))))))
set_option maxHeartbeats 4000000 in
set_option maxRecDepth 20000 in
theorem t_X11_count (hst : gj_Stat S) (a1 : Int) {r : Int} (hF : f_X11_count a1 M = r) : gj_C G l 2 0 0 yX11_count cX11_count 3 (some .int) [jR 0, jI a1] S M (gj_qI fun x S' M' => r = x ∧ S = S' ∧ M = M') := by
  refine gj_Cof (by decide +kernel) (Nat.le_of_ble_eq_true rfl) ?_
  change gj_W G l 2 0 0 yX11_count cX11_count 3 (some .int) (gj_qI fun x S' M' => r = x ∧ S = S' ∧ M = M') 0 0 0 [(0, jR 0), (1, jI a1)] [] S M
  unfold f_X11_count at hF
  refine gj_aload_n (q := 1) (gj_dk okX11_count 0 rfl) rfl rfl ?_
  refine gj_gR (q := 4) (j := 3) (gj_dk okX11_count 1 rfl) ff_X11_32 (sh0 hst) (by decide) rfl (rf0_3 hst) rfl ?_
  refine gj_callV (q := 7) (z := 14) (ci := 5) [] rfl (t_X5_stands_14 hst  rfl) (gj_dk okX11_count 2 rfl) ml_X11_268 me_X5_stands (sh14 hst) rfl (gj_nm rfl) rfl (gj_kI fun x S2 M2 h => ?_)
  obtain ⟨bz, e, eS, eM⟩ := h; subst eS; subst eM; subst e
  refine gj_stpZ bz hF (fun x1 bx1 hF => ?_)
  refine gj_istore_n (q := 8) (gj_dk okX11_count 3 rfl) (by decide) rfl ?_
  refine gj_iload_n (q := 9) (gj_dk okX11_count 4 rfl) rfl rfl ?_
  by_cases c9_0 : a1 = 0
  · refine gj_tabIn (tgt := 48) (off := 39) 0 (gj_dk okX11_count 5 rfl) c9_0 ⟨by decide, by decide, rfl⟩ (by decide) ?_
    replace hF := gj_ift c9_0 hF
    refine gj_aload_n (q := 49) (gj_dk okX11_count 6 rfl) rfl rfl ?_
    refine gj_gR (q := 52) (j := 3) (gj_dk okX11_count 7 rfl) ff_X11_32 (sh0 hst) (by decide) rfl (rf0_3 hst) rfl ?_
    refine gj_gI (q := 55) (j := 0) (gj_dk okX11_count 8 rfl) ff_X11_124 (sh14 hst) (by decide) rfl rfl ?_
    subst hF
    exact gj_iret (gj_dk okX11_count 9 rfl) rfl ⟨_, rfl, rfl, rfl, rfl⟩
  replace hF := gj_iff c9_0 hF
  by_cases c9_1 : a1 = 1
  · refine gj_tabIn (tgt := 56) (off := 47) 1 (gj_dk okX11_count 5 rfl) c9_1 ⟨by decide, by decide, rfl⟩ (by decide) ?_
    replace hF := gj_ift c9_1 hF
    refine gj_aload_n (q := 57) (gj_dk okX11_count 10 rfl) rfl rfl ?_
    refine gj_gR (q := 60) (j := 3) (gj_dk okX11_count 11 rfl) ff_X11_32 (sh0 hst) (by decide) rfl (rf0_3 hst) rfl ?_
    refine gj_gI (q := 63) (j := 1) (gj_dk okX11_count 12 rfl) ff_X11_128 (sh14 hst) (by decide) rfl rfl ?_
    subst hF
    exact gj_iret (gj_dk okX11_count 13 rfl) rfl ⟨_, rfl, rfl, rfl, rfl⟩
  replace hF := gj_iff c9_1 hF
  by_cases c9_2 : a1 = 2
  · refine gj_tabIn (tgt := 64) (off := 55) 2 (gj_dk okX11_count 5 rfl) c9_2 ⟨by decide, by decide, rfl⟩ (by decide) ?_
    replace hF := gj_ift c9_2 hF
    refine gj_iload_n (q := 65) (gj_dk okX11_count 14 rfl) rfl rfl ?_
    refine gj_if_eq (q := 68) (tgt := 78) (gj_dk okX11_count 15 rfl) (by decide) rfl (fun c65 => ?_) (fun c65 => ?_)
    · -- 78
      replace hF := gj_ift c65 hF
      refine gj_iconst (q := 79) (gj_dk okX11_count 20 rfl) (by decide) rfl ?_
      subst hF
      exact gj_iret (gj_dk okX11_count 21 rfl) rfl ⟨_, rfl, rfl, rfl, rfl⟩
    · -- 68
      replace hF := gj_iff c65 hF
      refine gj_aload_n (q := 69) (gj_dk okX11_count 16 rfl) rfl rfl ?_
      refine gj_gR (q := 72) (j := 4) (gj_dk okX11_count 17 rfl) ff_X11_38 (sh0 hst) (by decide) rfl (rf0_4 hst) rfl ?_
      refine gj_gI (q := 75) (j := 0) (gj_dk okX11_count 18 rfl) ff_X11_275 (sh21 hst) (by decide) rfl rfl ?_
      refine gj_goto (tgt := 79) (gj_dk okX11_count 19 rfl) (by decide) ?_
      subst hF
      exact gj_iret (gj_dk okX11_count 21 rfl) rfl ⟨_, rfl, rfl, rfl, rfl⟩
  replace hF := gj_iff c9_2 hF
  by_cases c9_3 : a1 = 3
  · refine gj_tabIn (tgt := 80) (off := 71) 3 (gj_dk okX11_count 5 rfl) c9_3 ⟨by decide, by decide, rfl⟩ (by decide) ?_
    replace hF := gj_ift c9_3 hF
    refine gj_iload_n (q := 81) (gj_dk okX11_count 22 rfl) rfl rfl ?_
    refine gj_if_eq (q := 84) (tgt := 94) (gj_dk okX11_count 23 rfl) (by decide) rfl (fun c81 => ?_) (fun c81 => ?_)
    · -- 94
      replace hF := gj_ift c81 hF
      refine gj_iconst (q := 95) (gj_dk okX11_count 28 rfl) (by decide) rfl ?_
      subst hF
      exact gj_iret (gj_dk okX11_count 29 rfl) rfl ⟨_, rfl, rfl, rfl, rfl⟩
    · -- 84
      replace hF := gj_iff c81 hF
      refine gj_aload_n (q := 85) (gj_dk okX11_count 24 rfl) rfl rfl ?_
      refine gj_gR (q := 88) (j := 4) (gj_dk okX11_count 25 rfl) ff_X11_38 (sh0 hst) (by decide) rfl (rf0_4 hst) rfl ?_
      refine gj_gI (q := 91) (j := 1) (gj_dk okX11_count 26 rfl) ff_X11_254 (sh21 hst) (by decide) rfl rfl ?_
      refine gj_goto (tgt := 95) (gj_dk okX11_count 27 rfl) (by decide) ?_
      subst hF
      exact gj_iret (gj_dk okX11_count 29 rfl) rfl ⟨_, rfl, rfl, rfl, rfl⟩
  replace hF := gj_iff c9_3 hF
  by_cases c9_4 : a1 = 4
  · refine gj_tabIn (tgt := 96) (off := 87) 4 (gj_dk okX11_count 5 rfl) c9_4 ⟨by decide, by decide, rfl⟩ (by decide) ?_
    replace hF := gj_ift c9_4 hF
    refine gj_iload_n (q := 97) (gj_dk okX11_count 30 rfl) rfl rfl ?_
    refine gj_if_eq (q := 100) (tgt := 110) (gj_dk okX11_count 31 rfl) (by decide) rfl (fun c97 => ?_) (fun c97 => ?_)
    · -- 110
      replace hF := gj_ift c97 hF
      refine gj_iconst (q := 111) (gj_dk okX11_count 36 rfl) (by decide) rfl ?_
      subst hF
      exact gj_iret (gj_dk okX11_count 37 rfl) rfl ⟨_, rfl, rfl, rfl, rfl⟩
    · -- 100
      replace hF := gj_iff c97 hF
      refine gj_aload_n (q := 101) (gj_dk okX11_count 32 rfl) rfl rfl ?_
      refine gj_gR (q := 104) (j := 3) (gj_dk okX11_count 33 rfl) ff_X11_32 (sh0 hst) (by decide) rfl (rf0_3 hst) rfl ?_
      refine gj_gI (q := 107) (j := 9) (gj_dk okX11_count 34 rfl) ff_X11_330 (sh14 hst) (by decide) rfl rfl ?_
      refine gj_goto (tgt := 111) (gj_dk okX11_count 35 rfl) (by decide) ?_
      subst hF
      exact gj_iret (gj_dk okX11_count 37 rfl) rfl ⟨_, rfl, rfl, rfl, rfl⟩
  replace hF := gj_iff c9_4 hF
  by_cases c9_5 : a1 = 5
  · refine gj_tabIn (tgt := 112) (off := 103) 5 (gj_dk okX11_count 5 rfl) c9_5 ⟨by decide, by decide, rfl⟩ (by decide) ?_
    replace hF := gj_ift c9_5 hF
    refine gj_aload_n (q := 113) (gj_dk okX11_count 38 rfl) rfl rfl ?_
    refine gj_gR (q := 116) (j := 0) (gj_dk okX11_count 39 rfl) ff_X11_10 (sh0 hst) (by decide) rfl (rf0_0 hst) rfl ?_
    refine gj_callV (q := 119) (z := 1) (ci := 8) [] rfl (t_X9_length hst  rfl) (gj_dk okX11_count 40 rfl) ml_X11_99 me_X9_length (sh1 hst) rfl (gj_nm rfl) rfl (gj_kI fun x S2 M2 h => ?_)
    obtain ⟨e, eS, eM⟩ := h; subst eS; subst eM; subst e
    refine gj_stpI hF (fun x2 hF => ?_)
    subst hF
    exact gj_iret (gj_dk okX11_count 41 rfl) rfl ⟨_, rfl, rfl, rfl, rfl⟩
  replace hF := gj_iff c9_5 hF
  refine gj_tabOut (tgt := 120) (gj_dk okX11_count 5 rfl) (by omega) (by decide) ?_
  refine gj_iconst (q := 121) (gj_dk okX11_count 42 rfl) (by decide) rfl ?_
  subst hF
  exact gj_iret (gj_dk okX11_count 43 rfl) rfl ⟨_, rfl, rfl, rfl, rfl⟩
end GJFC
