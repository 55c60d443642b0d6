/-! OWN LAYER, second half: a rule an instruction -/
section GJ
variable {G : gj_G} {l : Launch} {d mc ms : Nat} {y : MethodName} {cc : ByteArray} {nL : Nat} {ret : Option FieldType} {Q : Option gj_V → gj_S → gj_M → Prop} {k n pc q : Nat} {ls : List (Nat × gj_V)} {st st' : List gj_V} {S : gj_S} {M : gj_M}
/-- a step that moves the stack alone -/
theorem gj_op (h : ∀ (p : Program) (e : Env) (R : Room) (s : State) (m : MethodId) (args : Array Value) (below : List Frame) (meth : Method) (c : Code) (H : Heap) (locs : List Loc) (lsm : Array Slot) (Z : State → Prop), p.tables.exec = Jvm.exec → c.code = cc → s.vm.findClass y.cls = some m.cls → (∀ w ∈ gj_TB, w.before args s = true) → gj_K G s → lv_has lsm nL (gj_lv G ls) → gj_oks ls st →
      W p l e R s m args below meth c H locs k n Z (F0 m q lsm (st'.map (gj_v G))) → W p l e R s m args below meth c H locs k n Z (F0 m pc lsm (st.map (gj_v G))))
    (hok : gj_oks ls st → gj_oks ls st') (K : gj_W G l d mc ms y cc nL ret Q k n q ls st' S M) : gj_W G l d mc ms y cc nL ret Q k n pc ls st S M := by
  intro p e R s m args below meth c H locs lsm Z X hZ hR hlc hl ho hk hn
  exact h p e R s m args below meth c H locs lsm Z X.1 X.2.1 X.2.2.2.2.1 X.2.2.2.2.2.1 X.2.2.2.2.2.2.2.1 hl ho (K p e R s m args below meth c H locs lsm Z X hZ hR hlc hl (hok ho) hk hn)
/-- whatever is on the stack and in the locals is in its range -/
theorem gj_rng (K : gj_oks ls st → gj_okm S M → gj_okS S → gj_W G l d mc ms y cc nL ret Q k n pc ls st S M) : gj_W G l d mc ms y cc nL ret Q k n pc ls st S M := by
  intro p e R s m args below meth c H locs lsm Z X hZ hR hlc hl ho hk hn
  exact K ho hR.2.2.2.2 hR.2.2.2.1 p e R s m args below meth c H locs lsm Z X hZ hR hlc hl ho hk hn
/-- fewer locals -/
def gj_has (ls : List (Nat × gj_V)) : List (Nat × gj_V) → Prop
  | [] => True
  | q :: r => gj_lk ls q.1 = some q.2 ∧ gj_has ls r
theorem gj_has_mem {ls ls' : List (Nat × gj_V)} (h : gj_has ls ls') : ∀ q ∈ ls', gj_lk ls q.1 = some q.2 := by
  induction ls' with
  | nil => intro q hq; cases hq
  | cons a r ih =>
    intro q hq
    rcases List.mem_cons.mp hq with rfl | hq
    · exact h.1
    · exact ih h.2 q hq
theorem gj_sub (ls' : List (Nat × gj_V)) (h : gj_has ls ls') (K : gj_W G l d mc ms y cc nL ret Q k n pc ls' st S M) : gj_W G l d mc ms y cc nL ret Q k n pc ls st S M := by
  intro p e R s m args below meth c H locs lsm Z X hZ hR hlc hl ho hk hn
  refine K p e R s m args below meth c H locs lsm Z X hZ hR hlc ⟨hl.1, hl.2.1, fun q hq => ?_⟩ ⟨fun q hq => ?_, ho.2⟩ hk hn
  · obtain ⟨w, hw, rfl⟩ := List.mem_map.mp hq
    exact gj_lk_at hl (gj_has_mem h w hw)
  · exact ho.lk (gj_has_mem h q hq)
theorem gj_pI {z : Int} (h : gj_oks ls st) (hz : gj_i32 z) : gj_oks ls (jI z :: st) := h.push (v := jI z) hz (fun _ hw => hw)
theorem gj_pL {z : Int} (h : gj_oks ls st) (hz : gj_i64 z) : gj_oks ls (jL z :: st) := h.push (v := jL z) hz (fun _ hw => hw)
theorem gj_pR {z : Int} (h : gj_oks ls st) : gj_oks ls (jR z :: st) := h.push (v := jR z) trivial (fun _ hw => hw)
theorem gj_2I {a b : gj_V} {x : Int} (hv : gj_i32 x) (h : gj_oks ls (b :: a :: st)) : gj_oks ls (jI x :: st) := h.push (v := jI x) hv (fun _ hw => List.mem_cons_of_mem _ (List.mem_cons_of_mem _ hw))
theorem gj_2L {a b : gj_V} {x : Int} (hv : gj_i64 x) (h : gj_oks ls (b :: a :: st)) : gj_oks ls (jL x :: st) := h.push (v := jL x) hv (fun _ hw => List.mem_cons_of_mem _ (List.mem_cons_of_mem _ hw))
theorem gj_1I {a : gj_V} {x : Int} (hv : gj_i32 x) (h : gj_oks ls (a :: st)) : gj_oks ls (jI x :: st) := h.push (v := jI x) hv (fun _ hw => List.mem_cons_of_mem _ hw)
theorem gj_1L {a : gj_V} {x : Int} (hv : gj_i64 x) (h : gj_oks ls (a :: st)) : gj_oks ls (jL x :: st) := h.push (v := jL x) hv (fun _ hw => List.mem_cons_of_mem _ hw)
-- constants
theorem gj_iconst {z : Int} (hd : decode cc pc = .ok (.iconst z, 1)) (hz : gj_i32 z) (hq : pc + 1 = q) (K : gj_W G l d mc ms y cc nL ret Q k n q ls (jI z :: st) S M) : gj_W G l d mc ms y cc nL ret Q k n pc ls st S M := by
  subst hq
  exact gj_op (fun p e R s m args below meth c H locs lsm Z hx hb hown hts hK hl ho k => lv_iconst hx hb hd rfl k) (fun h => gj_pI h hz) K
theorem gj_bipush {z : Int} (hd : decode cc pc = .ok (.bipush z, 2)) (hz : gj_i32 z) (he : (Int8.ofInt z).toInt32 = Int32.ofInt z) (hq : pc + 2 = q) (K : gj_W G l d mc ms y cc nL ret Q k n q ls (jI z :: st) S M) : gj_W G l d mc ms y cc nL ret Q k n pc ls st S M := by
  subst hq
  exact gj_op (fun p e R s m args below meth c H locs lsm Z hx hb hown hts hK hl ho k => lv_bipush hx hb hd he k) (fun h => gj_pI h hz) K
theorem gj_sipush {z : Int} (hd : decode cc pc = .ok (.sipush z, 3)) (hz : gj_i32 z) (he : (Int16.ofInt z).toInt32 = Int32.ofInt z) (hq : pc + 3 = q) (K : gj_W G l d mc ms y cc nL ret Q k n q ls (jI z :: st) S M) : gj_W G l d mc ms y cc nL ret Q k n pc ls st S M := by
  subst hq
  exact gj_op (fun p e R s m args below meth c H locs lsm Z hx hb hown hts hK hl ho k => lv_sipush hx hb hd he k) (fun h => gj_pI h hz) K
theorem gj_lconst {i : Fin 2} {z : Int} (hd : decode cc pc = .ok (.lconst i, 1)) (he : Int64.ofNat (i : Nat) = Int64.ofInt z) (hz : gj_i64 z) (hq : pc + 1 = q) (K : gj_W G l d mc ms y cc nL ret Q k n q ls (jL z :: st) S M) : gj_W G l d mc ms y cc nL ret Q k n pc ls st S M := by
  subst hq
  exact gj_op (fun p e R s m args below meth c H locs lsm Z hx hb hown hts hK hl ho k => lv_lconst hx hb hd he k) (fun h => gj_pL h hz) K
theorem gj_ldc {i : Nat} {z : Int} (hd : decode cc pc = .ok (.ldc i, 2)) (hw : Cond.constant y.cls i (Int32.ofInt z) ∈ gj_TB) (hz : gj_i32 z) (hq : pc + 2 = q) (K : gj_W G l d mc ms y cc nL ret Q k n q ls (jI z :: st) S M) : gj_W G l d mc ms y cc nL ret Q k n pc ls st S M := by
  subst hq
  exact gj_op (fun p e R s m args below meth c H locs lsm Z hx hb hown hts hK hl ho k => lv_ldc hx hb hown (hts _ hw) hd k) (fun h => gj_pI h hz) K
theorem gj_ldcw {i : Nat} {z : Int} (hd : decode cc pc = .ok (.ldc_w i, 3)) (hw : Cond.constant y.cls i (Int32.ofInt z) ∈ gj_TB) (hz : gj_i32 z) (hq : pc + 3 = q) (K : gj_W G l d mc ms y cc nL ret Q k n q ls (jI z :: st) S M) : gj_W G l d mc ms y cc nL ret Q k n pc ls st S M := by
  subst hq
  exact gj_op (fun p e R s m args below meth c H locs lsm Z hx hb hown hts hK hl ho k => lv_ldcw hx hb hown (hts _ hw) hd k) (fun h => gj_pI h hz) K
theorem gj_ldc2 {i : Nat} {z : Int} (hd : decode cc pc = .ok (.ldc2_w i, 3)) (hw : Cond.constantLong y.cls i (Int64.ofInt z) ∈ gj_TB) (hz : gj_i64 z) (hq : pc + 3 = q) (K : gj_W G l d mc ms y cc nL ret Q k n q ls (jL z :: st) S M) : gj_W G l d mc ms y cc nL ret Q k n pc ls st S M := by
  subst hq
  exact gj_op (fun p e R s m args below meth c H locs lsm Z hx hb hown hts hK hl ho k => lv_ldc2 hx hb hown (hts _ hw) hd k) (fun h => gj_pL h hz) K
theorem gj_null (hd : decode cc pc = .ok (.aconst_null, 1)) (hq : pc + 1 = q) (K : gj_W G l d mc ms y cc nL ret Q k n q ls (jR (-1) :: st) S M) : gj_W G l d mc ms y cc nL ret Q k n pc ls st S M := by
  subst hq
  exact gj_op (fun p e R s m args below meth c H locs lsm Z hx hb hown hts hK hl ho k => lv_null hx hb hd k) (fun h => gj_pR h) K
theorem gj_ldc6 {i : Nat} (j : Nat) (hd : decode cc pc = .ok (.ldc i, 2)) (hy : y.cls = RX6) (hj : j < 9) (hi : gj_s6.getD j 0 = i) (hq : pc + 2 = q) {z : Int} (hz : -2 - (j : Int) = z) (K : gj_W G l d mc ms y cc nL ret Q k n q ls (jR z :: st) S M) : gj_W G l d mc ms y cc nL ret Q k n pc ls st S M := by
  subst hq
  subst hi
  subst hz
  refine gj_op (fun p e R s m args below meth c H locs lsm Z hx hb hown hts hK hl ho k => va_ldcS hx hb hown (tx := gj_st.getD j "") (q := gj_aK G j) (by rw [hy]; exact (hK.2.1 j hj).1) hd ?_) (fun h => gj_pR h) K
  have e1 : gj_v G (jR (-2 - (j : Int))) = .ref (gj_aK G j) := by
    show gj_rv G _ = _
    unfold gj_rv gj_ro gj_ad
    rw [if_neg (by omega), if_neg (by omega), if_neg (by omega), if_neg (by omega), if_neg (by omega)]
    show Value.ref _ = _
    congr 2
    omega
  rw [List.map_cons, e1] at k
  exact k
theorem gj_ldc12 {i : Nat} (j : Nat) (hd : decode cc pc = .ok (.ldc i, 2)) (hy : y.cls = RX12) (hj : j < 9) (hi : gj_s12.getD j 0 = i) (hq : pc + 2 = q) {z : Int} (hz : -2 - (j : Int) = z) (K : gj_W G l d mc ms y cc nL ret Q k n q ls (jR z :: st) S M) : gj_W G l d mc ms y cc nL ret Q k n pc ls st S M := by
  subst hq
  subst hi
  subst hz
  refine gj_op (fun p e R s m args below meth c H locs lsm Z hx hb hown hts hK hl ho k => va_ldcS hx hb hown (tx := gj_st.getD j "") (q := gj_aK G j) (by rw [hy]; exact (hK.2.1 j hj).2) hd ?_) (fun h => gj_pR h) K
  have e1 : gj_v G (jR (-2 - (j : Int))) = .ref (gj_aK G j) := by
    show gj_rv G _ = _
    unfold gj_rv gj_ro gj_ad
    rw [if_neg (by omega), if_neg (by omega), if_neg (by omega), if_neg (by omega), if_neg (by omega)]
    show Value.ref _ = _
    congr 2
    omega
  rw [List.map_cons, e1] at k
  exact k
-- loads
theorem gj_iload_n {i : Fin 4} {x : Int} (hd : decode cc pc = .ok (.iload_n i, 1)) (hv : gj_lk ls (i : Nat) = some (jI x)) (hq : pc + 1 = q) (K : gj_W G l d mc ms y cc nL ret Q k n q ls (jI x :: st) S M) : gj_W G l d mc ms y cc nL ret Q k n pc ls st S M := by
  subst hq
  exact gj_op (fun p e R s m args below meth c H locs lsm Z hx hb hown hts hK hl ho k => lv_iload_n hx hb hd rfl (gj_lk_at hl hv) k) (fun h => gj_pI h (h.lk hv)) K
theorem gj_iload {i : Nat} {x : Int} (hd : decode cc pc = .ok (.iload i, 2)) (hv : gj_lk ls i = some (jI x)) (hq : pc + 2 = q) (K : gj_W G l d mc ms y cc nL ret Q k n q ls (jI x :: st) S M) : gj_W G l d mc ms y cc nL ret Q k n pc ls st S M := by
  subst hq
  exact gj_op (fun p e R s m args below meth c H locs lsm Z hx hb hown hts hK hl ho k => lv_iload hx hb hd (gj_lk_at hl hv) k) (fun h => gj_pI h (h.lk hv)) K
theorem gj_lload_n {i : Fin 4} {x : Int} (hd : decode cc pc = .ok (.lload_n i, 1)) (hv : gj_lk ls (i : Nat) = some (jL x)) (hq : pc + 1 = q) (K : gj_W G l d mc ms y cc nL ret Q k n q ls (jL x :: st) S M) : gj_W G l d mc ms y cc nL ret Q k n pc ls st S M := by
  subst hq
  exact gj_op (fun p e R s m args below meth c H locs lsm Z hx hb hown hts hK hl ho k => lv_lload_n hx hb hd rfl (gj_lk_at hl hv) k) (fun h => gj_pL h (h.lk hv)) K
theorem gj_lload {i : Nat} {x : Int} (hd : decode cc pc = .ok (.lload i, 2)) (hv : gj_lk ls i = some (jL x)) (hq : pc + 2 = q) (K : gj_W G l d mc ms y cc nL ret Q k n q ls (jL x :: st) S M) : gj_W G l d mc ms y cc nL ret Q k n pc ls st S M := by
  subst hq
  exact gj_op (fun p e R s m args below meth c H locs lsm Z hx hb hown hts hK hl ho k => lv_lload hx hb hd (gj_lk_at hl hv) k) (fun h => gj_pL h (h.lk hv)) K
theorem gj_aload_n {i : Fin 4} {x : Int} (hd : decode cc pc = .ok (.aload_n i, 1)) (hv : gj_lk ls (i : Nat) = some (jR x)) (hq : pc + 1 = q) (K : gj_W G l d mc ms y cc nL ret Q k n q ls (jR x :: st) S M) : gj_W G l d mc ms y cc nL ret Q k n pc ls st S M := by
  subst hq
  refine gj_op (fun p e R s m args below meth c H locs lsm Z hx hb hown hts hK hl ho k => ?_) (fun h => gj_pR h) K
  have h1 := gj_lk_at hl hv
  change lsm[(i : Nat)]? = some (.val (gj_rv G x)) at h1
  rw [List.map_cons] at k
  change W p l e R s m args below meth c H locs _ _ Z (F0 m (pc + 1) lsm (gj_rv G x :: st.map (gj_v G))) at k
  unfold gj_rv at h1 k
  cases ho2 : gj_ro G x with
  | none => rw [ho2] at h1 k; exact lv_aload_nN hx hb hd rfl h1 k
  | some a => rw [ho2] at h1 k; exact lv_aload_n hx hb hd rfl h1 k
theorem gj_aload {i : Nat} {x : Int} (hd : decode cc pc = .ok (.aload i, 2)) (hv : gj_lk ls i = some (jR x)) (hq : pc + 2 = q) (K : gj_W G l d mc ms y cc nL ret Q k n q ls (jR x :: st) S M) : gj_W G l d mc ms y cc nL ret Q k n pc ls st S M := by
  subst hq
  refine gj_op (fun p e R s m args below meth c H locs lsm Z hx hb hown hts hK hl ho k => ?_) (fun h => gj_pR h) K
  have h1 := gj_lk_at hl hv
  change lsm[i]? = some (.val (gj_rv G x)) at h1
  rw [List.map_cons] at k
  change W p l e R s m args below meth c H locs _ _ Z (F0 m (pc + 2) lsm (gj_rv G x :: st.map (gj_v G))) at k
  unfold gj_rv at h1 k
  cases ho2 : gj_ro G x with
  | none => rw [ho2] at h1 k; exact lv_aloadN hx hb hd h1 k
  | some a => rw [ho2] at h1 k; exact lv_aload hx hb hd h1 k
-- stores
theorem gj_sto {i : Nat} {v : gj_V} {ls' : List (Nat × gj_V)} (h : ∀ (p : Program) (e : Env) (R : Room) (s : State) (m : MethodId) (args : Array Value) (below : List Frame) (meth : Method) (c : Code) (H : Heap) (locs : List Loc) (lsm : Array Slot) (Z : State → Prop), p.tables.exec = Jvm.exec → c.code = cc → lv_has lsm nL (gj_lv G ls) →
      (∀ lsm', lv_has lsm' nL (gj_lv G ls') → W p l e R s m args below meth c H locs k n Z (F0 m q lsm' (st.map (gj_v G)))) → W p l e R s m args below meth c H locs k n Z (F0 m pc lsm ((v :: st).map (gj_v G))))
    (hok : gj_oks ls (v :: st) → gj_oks ls' st) (K : gj_W G l d mc ms y cc nL ret Q k n q ls' st S M) : gj_W G l d mc ms y cc nL ret Q k n pc ls (v :: st) S M := by
  intro p e R s m args below meth c H locs lsm Z X hZ hR hlc hl ho hk hn
  exact h p e R s m args below meth c H locs lsm Z X.1 X.2.1 hl (fun lsm' hl' => K p e R s m args below meth c H locs lsm' Z X hZ hR hlc hl' (hok ho) hk hn)
theorem gj_istore_n {i : Fin 4} {x : Int} (hd : decode cc pc = .ok (.istore_n i, 1)) (hn : (i : Nat) < nL) (hq : pc + 1 = q) (K : gj_W G l d mc ms y cc nL ret Q k n q (gj_s1 ls (i : Nat) (jI x)) st S M) : gj_W G l d mc ms y cc nL ret Q k n pc ls (jI x :: st) S M := by
  subst hq
  exact gj_sto (i := i) (fun p e R s m args below meth c H locs lsm Z hx hb hl kk => lv_istore_n hx hb hd rfl hl hn (gj_lv_s1 G ls i (jI x)) kk) (fun h => h.s1 (h.2 _ List.mem_cons_self) (fun w hw => List.mem_cons_of_mem _ hw)) K
theorem gj_istore {i : Nat} {x : Int} (hd : decode cc pc = .ok (.istore i, 2)) (hn : i < nL) (hq : pc + 2 = q) (K : gj_W G l d mc ms y cc nL ret Q k n q (gj_s1 ls i (jI x)) st S M) : gj_W G l d mc ms y cc nL ret Q k n pc ls (jI x :: st) S M := by
  subst hq
  exact gj_sto (i := i) (fun p e R s m args below meth c H locs lsm Z hx hb hl kk => lv_istore hx hb hd hl hn (gj_lv_s1 G ls i (jI x)) kk) (fun h => h.s1 (h.2 _ List.mem_cons_self) (fun w hw => List.mem_cons_of_mem _ hw)) K
theorem gj_lstore_n {i : Fin 4} {x : Int} (hd : decode cc pc = .ok (.lstore_n i, 1)) (hn : (i : Nat) + 1 < nL) (hq : pc + 1 = q) (K : gj_W G l d mc ms y cc nL ret Q k n q (gj_s2 ls (i : Nat) (jL x)) st S M) : gj_W G l d mc ms y cc nL ret Q k n pc ls (jL x :: st) S M := by
  subst hq
  exact gj_sto (i := i) (fun p e R s m args below meth c H locs lsm Z hx hb hl kk => lv_lstore_n hx hb hd rfl hl hn (gj_lv_s2 G ls i (jL x)) kk) (fun h => h.s2 (h.2 _ List.mem_cons_self) (fun w hw => List.mem_cons_of_mem _ hw)) K
theorem gj_lstore {i : Nat} {x : Int} (hd : decode cc pc = .ok (.lstore i, 2)) (hn : i + 1 < nL) (hq : pc + 2 = q) (K : gj_W G l d mc ms y cc nL ret Q k n q (gj_s2 ls i (jL x)) st S M) : gj_W G l d mc ms y cc nL ret Q k n pc ls (jL x :: st) S M := by
  subst hq
  exact gj_sto (i := i) (fun p e R s m args below meth c H locs lsm Z hx hb hl kk => lv_lstore hx hb hd hl hn (gj_lv_s2 G ls i (jL x)) kk) (fun h => h.s2 (h.2 _ List.mem_cons_self) (fun w hw => List.mem_cons_of_mem _ hw)) K
theorem gj_astore_n {i : Fin 4} {x : Int} (hd : decode cc pc = .ok (.astore_n i, 1)) (hn : (i : Nat) < nL) (hq : pc + 1 = q) (K : gj_W G l d mc ms y cc nL ret Q k n q (gj_s1 ls (i : Nat) (jR x)) st S M) : gj_W G l d mc ms y cc nL ret Q k n pc ls (jR x :: st) S M := by
  subst hq
  refine gj_sto (i := i) (fun p e R s m args below meth c H locs lsm Z hx hb hl kk => ?_) (fun h => h.s1 (h.2 _ List.mem_cons_self) (fun w hw => List.mem_cons_of_mem _ hw)) K
  have h1 := gj_lv_s1 G ls i (jR x)
  change (_, gj_rv G x) :: _ = _ at h1
  show W p l e R s m args below meth c H locs _ _ Z (F0 m pc lsm (gj_rv G x :: st.map (gj_v G)))
  unfold gj_rv at h1 ⊢
  cases ho2 : gj_ro G x with
  | none => rw [ho2] at h1; exact lv_astore_nN hx hb hd rfl hl hn h1 kk
  | some a => rw [ho2] at h1; exact lv_astore_n hx hb hd rfl hl hn h1 kk
theorem gj_astore {i : Nat} {x : Int} (hd : decode cc pc = .ok (.astore i, 2)) (hn : i < nL) (hq : pc + 2 = q) (K : gj_W G l d mc ms y cc nL ret Q k n q (gj_s1 ls i (jR x)) st S M) : gj_W G l d mc ms y cc nL ret Q k n pc ls (jR x :: st) S M := by
  subst hq
  refine gj_sto (i := i) (fun p e R s m args below meth c H locs lsm Z hx hb hl kk => ?_) (fun h => h.s1 (h.2 _ List.mem_cons_self) (fun w hw => List.mem_cons_of_mem _ hw)) K
  have h1 := gj_lv_s1 G ls i (jR x)
  change (_, gj_rv G x) :: _ = _ at h1
  show W p l e R s m args below meth c H locs _ _ Z (F0 m pc lsm (gj_rv G x :: st.map (gj_v G)))
  unfold gj_rv at h1 ⊢
  cases ho2 : gj_ro G x with
  | none => rw [ho2] at h1; exact lv_astoreN hx hb hd hl hn h1 kk
  | some a => rw [ho2] at h1; exact lv_astore hx hb hd hl hn h1 kk
theorem gj_iinc {i : Nat} {z x v : Int} (hd : decode cc pc = .ok (.iinc i z, 3)) (hv : gj_lk ls i = some (jI x)) (hn : i < nL) (he : gj_w (x + z) = v) (hq : pc + 3 = q) (K : gj_W G l d mc ms y cc nL ret Q k n q (gj_s1 ls i (jI v)) st S M) : gj_W G l d mc ms y cc nL ret Q k n pc ls st S M := by
  subst hq
  subst he
  intro p e R s m args below meth c H locs lsm Z X hZ hR hlc hl ho hk hn2
  obtain ⟨j, hj⟩ := List.mem_iff_getElem?.mp (gj_lk_mem hv)
  have hj2 : (gj_lv G ls)[j]? = some (i, .int (Int32.ofInt x)) := by
    unfold gj_lv
    rw [List.getElem?_map, hj]
    rfl
  have hok := ho.s1 (i := i) (v := jI (gj_w (x + z))) (gj_w_ok _) (fun w hw => hw)
  refine lv_iinc (v := Int32.ofInt (gj_w (x + z))) X.1 X.2.1 hd hl hj2 (by rw [gj_ofw, Int32.ofInt_add]) hn (gj_lv_s1 G ls i (jI (gj_w (x + z)))) (fun lsm' hl' => ?_)
  exact K p e R s m args below meth c H locs lsm' Z X hZ hR hlc hl' hok hk hn2
-- arithmetic
theorem gj_oks2 {a b v : gj_V} (hv : gj_okv v) (h : gj_oks ls (b :: a :: st)) : gj_oks ls (v :: st) := h.push hv (fun w hw => List.mem_cons_of_mem _ (List.mem_cons_of_mem _ hw))
theorem gj_oks1 {a v : gj_V} (hv : gj_okv v) (h : gj_oks ls (a :: st)) : gj_oks ls (v :: st) := h.push hv (fun w hw => List.mem_cons_of_mem _ hw)
theorem gj_iadd {a b : Int} (hd : decode cc pc = .ok (.iadd, 1)) (hq : pc + 1 = q) (K : gj_W G l d mc ms y cc nL ret Q k n q ls (jI (gj_w (a + b)) :: st) S M) : gj_W G l d mc ms y cc nL ret Q k n pc ls (jI b :: jI a :: st) S M := by
  subst hq
  refine gj_op (fun p e R s m args below meth c H locs lsm Z hx hb hown hts hK hl ho k => lv_iadd hx hb hd ?_) (gj_2I (gj_w_ok _)) K
  rw [← Int32.ofInt_add, ← gj_ofw]
  exact k
theorem gj_isub {a b : Int} (hd : decode cc pc = .ok (.isub, 1)) (hq : pc + 1 = q) (K : gj_W G l d mc ms y cc nL ret Q k n q ls (jI (gj_w (a - b)) :: st) S M) : gj_W G l d mc ms y cc nL ret Q k n pc ls (jI b :: jI a :: st) S M := by
  subst hq
  refine gj_op (fun p e R s m args below meth c H locs lsm Z hx hb hown hts hK hl ho k => lv_isub hx hb hd ?_) (gj_2I (gj_w_ok _)) K
  rw [← Int32.ofInt_sub, ← gj_ofw]
  exact k
theorem gj_imul {a b : Int} (hd : decode cc pc = .ok (.imul, 1)) (hq : pc + 1 = q) (K : gj_W G l d mc ms y cc nL ret Q k n q ls (jI (gj_w (a * b)) :: st) S M) : gj_W G l d mc ms y cc nL ret Q k n pc ls (jI b :: jI a :: st) S M := by
  subst hq
  refine gj_op (fun p e R s m args below meth c H locs lsm Z hx hb hown hts hK hl ho k => lv_imul hx hb hd ?_) (gj_2I (gj_w_ok _)) K
  rw [← Int32.ofInt_mul, ← gj_ofw]
  exact k
theorem gj_ineg {a : Int} (hd : decode cc pc = .ok (.ineg, 1)) (hq : pc + 1 = q) (K : gj_W G l d mc ms y cc nL ret Q k n q ls (jI (gj_w (-a)) :: st) S M) : gj_W G l d mc ms y cc nL ret Q k n pc ls (jI a :: st) S M := by
  subst hq
  refine gj_op (fun p e R s m args below meth c H locs lsm Z hx hb hown hts hK hl ho k => lv_ineg hx hb hd ?_) (gj_1I (gj_w_ok _)) K
  rw [← Int32.ofInt_neg, ← gj_ofw]
  exact k
theorem gj_o1 {a : Int} {b : gj_V} (h : gj_oks ls (b :: jI a :: st)) : gj_i32 a := h.2 (jI a) (List.mem_cons_of_mem _ List.mem_cons_self)
theorem gj_o0 {b : Int} (h : gj_oks ls (jI b :: st)) : gj_i32 b := h.2 (jI b) List.mem_cons_self
theorem gj_O1 {a : Int} {b : gj_V} (h : gj_oks ls (b :: jL a :: st)) : gj_i64 a := h.2 (jL a) (List.mem_cons_of_mem _ List.mem_cons_self)
theorem gj_O0 {b : Int} (h : gj_oks ls (jL b :: st)) : gj_i64 b := h.2 (jL b) List.mem_cons_self
theorem gj_idiv {a b : Int} (hd : decode cc pc = .ok (.idiv, 1)) (hb0 : b ≠ 0) (hq : pc + 1 = q) (K : gj_W G l d mc ms y cc nL ret Q k n q ls (jI (gj_w (a.tdiv b)) :: st) S M) : gj_W G l d mc ms y cc nL ret Q k n pc ls (jI b :: jI a :: st) S M := by
  subst hq
  refine gj_op (fun p e R s m args below meth c H locs lsm Z hx hb hown hts hK hl ho k => lv_idiv hx hb hd (fun h => hb0 ((gj_injI (gj_o0 ho) gj_z32).mp (h.trans gj_0I.symm))) ?_) (gj_2I (gj_w_ok _)) K
  rw [gj_divI (gj_o1 ho) (gj_o0 ho)]
  exact k
theorem gj_irem {a b : Int} (hd : decode cc pc = .ok (.irem, 1)) (hb0 : b ≠ 0) (hq : pc + 1 = q) (K : gj_W G l d mc ms y cc nL ret Q k n q ls (jI (a.tmod b) :: st) S M) : gj_W G l d mc ms y cc nL ret Q k n pc ls (jI b :: jI a :: st) S M := by
  subst hq
  refine gj_op (fun p e R s m args below meth c H locs lsm Z hx hb hown hts hK hl ho k => lv_irem hx hb hd (fun h => hb0 ((gj_injI (gj_o0 ho) gj_z32).mp (h.trans gj_0I.symm))) ?_) (fun h => gj_2I (gj_tmod_ok (gj_o1 h)) h) K
  rw [gj_remI (gj_o1 ho) (gj_o0 ho)]
  exact k
theorem gj_iand {a b : Int} (hd : decode cc pc = .ok (.iand, 1)) (hq : pc + 1 = q) (K : gj_W G l d mc ms y cc nL ret Q k n q ls (jI (gj_and a b) :: st) S M) : gj_W G l d mc ms y cc nL ret Q k n pc ls (jI b :: jI a :: st) S M := by
  subst hq
  refine gj_op (fun p e R s m args below meth c H locs lsm Z hx hb hown hts hK hl ho k => lv_iand hx hb hd ?_) (gj_2I (gj_rI _)) K
  rw [← Int32.ofInt_toInt (Int32.ofInt a &&& Int32.ofInt b)]
  exact k
theorem gj_ior {a b : Int} (hd : decode cc pc = .ok (.ior, 1)) (hq : pc + 1 = q) (K : gj_W G l d mc ms y cc nL ret Q k n q ls (jI (gj_or a b) :: st) S M) : gj_W G l d mc ms y cc nL ret Q k n pc ls (jI b :: jI a :: st) S M := by
  subst hq
  refine gj_op (fun p e R s m args below meth c H locs lsm Z hx hb hown hts hK hl ho k => lv_ior hx hb hd ?_) (gj_2I (gj_rI _)) K
  rw [← Int32.ofInt_toInt (Int32.ofInt a ||| Int32.ofInt b)]
  exact k
theorem gj_iushr {a b : Int} (hd : decode cc pc = .ok (.iushr, 1)) (hq : pc + 1 = q) (K : gj_W G l d mc ms y cc nL ret Q k n q ls (jI (gj_ushr a b) :: st) S M) : gj_W G l d mc ms y cc nL ret Q k n pc ls (jI b :: jI a :: st) S M := by
  subst hq
  refine gj_op (fun p e R s m args below meth c H locs lsm Z hx hb hown hts hK hl ho k => lv_iushr hx hb hd (v := Int32.ofInt (gj_ushr a b)) ?_ k) (gj_2I (gj_rI _)) K
  exact (Int32.ofInt_toInt _).symm
theorem gj_ladd {a b : Int} (hd : decode cc pc = .ok (.ladd, 1)) (hq : pc + 1 = q) (K : gj_W G l d mc ms y cc nL ret Q k n q ls (jL (gj_wl (a + b)) :: st) S M) : gj_W G l d mc ms y cc nL ret Q k n pc ls (jL b :: jL a :: st) S M := by
  subst hq
  refine gj_op (fun p e R s m args below meth c H locs lsm Z hx hb hown hts hK hl ho k => lv_ladd hx hb hd ?_) (gj_2L (gj_wl_ok _)) K
  rw [← Int64.ofInt_add, ← gj_ofwl]
  exact k
theorem gj_lsub {a b : Int} (hd : decode cc pc = .ok (.lsub, 1)) (hq : pc + 1 = q) (K : gj_W G l d mc ms y cc nL ret Q k n q ls (jL (gj_wl (a - b)) :: st) S M) : gj_W G l d mc ms y cc nL ret Q k n pc ls (jL b :: jL a :: st) S M := by
  subst hq
  refine gj_op (fun p e R s m args below meth c H locs lsm Z hx hb hown hts hK hl ho k => lv_lsub hx hb hd ?_) (gj_2L (gj_wl_ok _)) K
  rw [← Int64.ofInt_sub, ← gj_ofwl]
  exact k
theorem gj_lmul {a b : Int} (hd : decode cc pc = .ok (.lmul, 1)) (hq : pc + 1 = q) (K : gj_W G l d mc ms y cc nL ret Q k n q ls (jL (gj_wl (a * b)) :: st) S M) : gj_W G l d mc ms y cc nL ret Q k n pc ls (jL b :: jL a :: st) S M := by
  subst hq
  refine gj_op (fun p e R s m args below meth c H locs lsm Z hx hb hown hts hK hl ho k => lv_lmul hx hb hd ?_) (gj_2L (gj_wl_ok _)) K
  rw [← Int64.ofInt_mul, ← gj_ofwl]
  exact k
theorem gj_z64 : gj_i64 0 := ⟨by decide, by decide⟩
theorem gj_injL {a b : Int} (ha : gj_i64 a) (hb : gj_i64 b) : Int64.ofInt a = Int64.ofInt b ↔ a = b := ⟨fun h => by rw [← gj_toL' ha, ← gj_toL' hb, h], fun h => by rw [h]⟩
theorem gj_ldiv {a b : Int} (hd : decode cc pc = .ok (.ldiv, 1)) (hb0 : b ≠ 0) (hq : pc + 1 = q) (K : gj_W G l d mc ms y cc nL ret Q k n q ls (jL (gj_wl (a.tdiv b)) :: st) S M) : gj_W G l d mc ms y cc nL ret Q k n pc ls (jL b :: jL a :: st) S M := by
  subst hq
  refine gj_op (fun p e R s m args below meth c H locs lsm Z hx hb hown hts hK hl ho k => lv_ldiv hx hb hd (fun h => hb0 ((gj_injL (gj_O0 ho) gj_z64).mp (h.trans (show (0 : Int64) = Int64.ofInt 0 from rfl)))) ?_) (gj_2L (gj_wl_ok _)) K
  rw [gj_divL (gj_O1 ho) (gj_O0 ho)]
  exact k
theorem gj_lrem {a b : Int} (hd : decode cc pc = .ok (.lrem, 1)) (hb0 : b ≠ 0) (hq : pc + 1 = q) (K : gj_W G l d mc ms y cc nL ret Q k n q ls (jL (a.tmod b) :: st) S M) : gj_W G l d mc ms y cc nL ret Q k n pc ls (jL b :: jL a :: st) S M := by
  subst hq
  refine gj_op (fun p e R s m args below meth c H locs lsm Z hx hb hown hts hK hl ho k => lv_lrem hx hb hd (fun h => hb0 ((gj_injL (gj_O0 ho) gj_z64).mp (h.trans (show (0 : Int64) = Int64.ofInt 0 from rfl)))) ?_) (fun h => gj_2L (gj_tmodl_ok (gj_O1 h)) h) K
  rw [gj_remL (gj_O1 ho) (gj_O0 ho)]
  exact k
theorem gj_landR {a b : Int} (hd : decode cc pc = .ok (.land, 1)) (hq : pc + 1 = q) (K : gj_W G l d mc ms y cc nL ret Q k n q ls (jL (gj_land a b) :: st) S M) : gj_W G l d mc ms y cc nL ret Q k n pc ls (jL b :: jL a :: st) S M := by
  subst hq
  refine gj_op (fun p e R s m args below meth c H locs lsm Z hx hb hown hts hK hl ho k => lv_land hx hb hd ?_) (gj_2L (gj_rL _)) K
  rw [← Int64.ofInt_toInt (Int64.ofInt a &&& Int64.ofInt b)]
  exact k
theorem gj_lcmp {a b : Int} (hd : decode cc pc = .ok (.lcmp, 1)) (hq : pc + 1 = q) (K : gj_W G l d mc ms y cc nL ret Q k n q ls (jI (gj_cmp a b) :: st) S M) : gj_W G l d mc ms y cc nL ret Q k n pc ls (jL b :: jL a :: st) S M := by
  subst hq
  refine gj_op (fun p e R s m args below meth c H locs lsm Z hx hb hown hts hK hl ho k => W.lcmp hx hb hd ?_) (gj_2I (gj_cmp_ok _ _)) K
  rw [gj_cmp_eq (gj_O1 ho) (gj_O0 ho)]
  exact k
theorem gj_i2l {a : Int} (hd : decode cc pc = .ok (.i2l, 1)) (hq : pc + 1 = q) (K : gj_W G l d mc ms y cc nL ret Q k n q ls (jL a :: st) S M) : gj_W G l d mc ms y cc nL ret Q k n pc ls (jI a :: st) S M := by
  subst hq
  refine gj_op (fun p e R s m args below meth c H locs lsm Z hx hb hown hts hK hl ho k => lv_i2l hx hb hd (v := Int64.ofInt a) ?_ k) (fun h => gj_1L (gj_32_64 (gj_o0 h)) h) K
  have h := gj_o0 ho
  exact Int64.toInt_inj.1 (by rw [Int32.toInt_toInt64, gj_toI' h, gj_toL' (gj_32_64 h)])
theorem gj_l2i {a : Int} (hd : decode cc pc = .ok (.l2i, 1)) (hq : pc + 1 = q) (K : gj_W G l d mc ms y cc nL ret Q k n q ls (jI (gj_w a) :: st) S M) : gj_W G l d mc ms y cc nL ret Q k n pc ls (jL a :: st) S M := by
  subst hq
  refine gj_op (fun p e R s m args below meth c H locs lsm Z hx hb hown hts hK hl ho k => lv_l2i hx hb hd (v := Int32.ofInt (gj_w a)) ?_ k) (gj_1I (gj_w_ok _)) K
  rw [gj_ofw]
  exact Int64.toInt32_ofInt
theorem gj_b8_ok (a : Int) : -128 ≤ gj_b8 a ∧ gj_b8 a < 128 := by unfold gj_b8; omega
theorem gj_b8_32 (a : Int) : gj_i32 (gj_b8 a) := by unfold gj_b8 gj_i32; omega
theorem gj_i2b {a : Int} (hd : decode cc pc = .ok (.i2b, 1)) (hq : pc + 1 = q) (K : gj_W G l d mc ms y cc nL ret Q k n q ls (jI (gj_b8 a) :: st) S M) : gj_W G l d mc ms y cc nL ret Q k n pc ls (jI a :: st) S M := by
  subst hq
  refine gj_op (fun p e R s m args below meth c H locs lsm Z hx hb hown hts hK hl ho k => lv_i2b hx hb hd (v := Int32.ofInt (gj_b8 a)) ?_ k) (gj_1I (gj_b8_32 _)) K
  refine Int32.toInt_inj.1 ?_
  rw [gj_toI' (gj_b8_32 a), Int8.toInt_toInt32, Int32.toInt_toInt8, gj_toI' (gj_o0 ho)]
  show a.bmod 256 = gj_b8 a
  unfold gj_b8
  rw [Int.bmod_def]
  split <;> omega
-- the stack
theorem gj_dup {v : gj_V} (hd : decode cc pc = .ok (.dup, 1)) (hv : gj_two v = false) (hq : pc + 1 = q) (K : gj_W G l d mc ms y cc nL ret Q k n q ls (v :: v :: st) S M) : gj_W G l d mc ms y cc nL ret Q k n pc ls (v :: st) S M := by
  subst hq
  exact gj_op (fun p e R s m args below meth c H locs lsm Z hx hb hown hts hK hl ho k => lv_dup hx hb hd (gj_cat1 G hv) k) (fun h => h.push (h.2 _ List.mem_cons_self) (fun w hw => hw)) K
theorem gj_pop {v : gj_V} (hd : decode cc pc = .ok (.pop, 1)) (hv : gj_two v = false) (hq : pc + 1 = q) (K : gj_W G l d mc ms y cc nL ret Q k n q ls st S M) : gj_W G l d mc ms y cc nL ret Q k n pc ls (v :: st) S M := by
  subst hq
  exact gj_op (fun p e R s m args below meth c H locs lsm Z hx hb hown hts hK hl ho k => lv_pop hx hb hd (gj_cat1 G hv) k) (fun h => ⟨h.1, fun w hw => h.2 w (List.mem_cons_of_mem _ hw)⟩) K
theorem gj_dup2 {v w : gj_V} (hd : decode cc pc = .ok (.dup2, 1)) (hv : gj_two v = false) (hw : gj_two w = false) (hq : pc + 1 = q) (K : gj_W G l d mc ms y cc nL ret Q k n q ls (v :: w :: v :: w :: st) S M) : gj_W G l d mc ms y cc nL ret Q k n pc ls (v :: w :: st) S M := by
  subst hq
  exact gj_op (fun p e R s m args below meth c H locs lsm Z hx hb hown hts hK hl ho k => lv_dup2_11 hx hb hd (gj_cat1 G hv) (gj_cat1 G hw) k) (fun h => (h.push (h.2 w (List.mem_cons_of_mem _ List.mem_cons_self)) (fun w hw => hw)).push (h.2 v List.mem_cons_self) (fun w hw => hw)) K
theorem gj_dup_x1 {v w : gj_V} (hd : decode cc pc = .ok (.dup_x1, 1)) (hv : gj_two v = false) (hw : gj_two w = false) (hq : pc + 1 = q) (K : gj_W G l d mc ms y cc nL ret Q k n q ls (v :: w :: v :: st) S M) : gj_W G l d mc ms y cc nL ret Q k n pc ls (v :: w :: st) S M := by
  subst hq
  refine gj_op (fun p e R s m args below meth c H locs lsm Z hx hb hown hts hK hl ho k => lv_dup_x1 hx hb hd (gj_cat1 G hv) (gj_cat1 G hw) k) (fun h => ⟨h.1, fun x hx => ?_⟩) K
  simp only [List.mem_cons] at hx
  rcases hx with rfl | rfl | rfl | hx
  · exact h.2 _ List.mem_cons_self
  · exact h.2 _ (List.mem_cons_of_mem _ List.mem_cons_self)
  · exact h.2 _ List.mem_cons_self
  · exact h.2 _ (List.mem_cons_of_mem _ (List.mem_cons_of_mem _ hx))
end GJ
