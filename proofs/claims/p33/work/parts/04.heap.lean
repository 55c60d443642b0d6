/-! OWN LAYER: branches, returns, the heap, calls -/
section GJ2
variable {G : gj_G} {l : Launch} {d mc ms : Nat} {y : MethodName} {cc : ByteArray} {nL : Nat} {ret : Option FieldType} {Q : Option gj_V → gj_S → gj_M → Prop} {k n pc q : Nat} {ls : List (Nat × gj_V)} {st st' : List gj_V} {S : gj_S} {M : gj_M}
theorem gj_if_eq {a : Int} {off : Int} {tgt : Nat} (hd : decode cc pc = .ok (.ifCond .eq off, 3)) (ht : (pc : Int) + off = (tgt : Int)) (hq : pc + 3 = q) (KT : a = 0 → gj_W G l d mc ms y cc nL ret Q k n tgt ls st S M) (KF : ¬ (a = 0) → gj_W G l d mc ms y cc nL ret Q k n q ls st S M) : gj_W G l d mc ms y cc nL ret Q k n pc ls (jI a :: st) S M := by
  subst hq
  intro p e R s m args below meth c H locs lsm Z X hZ hR hlc hl ho hk hn
  have ho2 : gj_oks ls st := ⟨ho.1, fun w hw => ho.2 w (List.mem_cons_of_mem _ hw)⟩
  exact lv_if_eq X.1 X.2.1 hd ht (fun h => KT ((gj_injI (gj_o0 ho) gj_z32).mp h) p e R s m args below meth c H locs lsm Z X hZ hR hlc hl ho2 hk hn) (fun h => KF (fun z => h ((gj_injI (gj_o0 ho) gj_z32).mpr z)) p e R s m args below meth c H locs lsm Z X hZ hR hlc hl ho2 hk hn)
theorem gj_icmp_eq {a b : Int} {off : Int} {tgt : Nat} (hd : decode cc pc = .ok (.if_icmp .eq off, 3)) (ht : (pc : Int) + off = (tgt : Int)) (hq : pc + 3 = q) (KT : a = b → gj_W G l d mc ms y cc nL ret Q k n tgt ls st S M) (KF : ¬ (a = b) → gj_W G l d mc ms y cc nL ret Q k n q ls st S M) : gj_W G l d mc ms y cc nL ret Q k n pc ls (jI b :: jI a :: st) S M := by
  subst hq
  intro p e R s m args below meth c H locs lsm Z X hZ hR hlc hl ho hk hn
  have ho2 : gj_oks ls st := ⟨ho.1, fun w hw => ho.2 w (List.mem_cons_of_mem _ (List.mem_cons_of_mem _ hw))⟩
  exact lv_icmp_eq X.1 X.2.1 hd ht (fun h => KT ((gj_injI (gj_o1 ho) (gj_o0 ho)).mp h) p e R s m args below meth c H locs lsm Z X hZ hR hlc hl ho2 hk hn) (fun h => KF (fun z => h ((gj_injI (gj_o1 ho) (gj_o0 ho)).mpr z)) p e R s m args below meth c H locs lsm Z X hZ hR hlc hl ho2 hk hn)
theorem gj_if_ne {a : Int} {off : Int} {tgt : Nat} (hd : decode cc pc = .ok (.ifCond .ne off, 3)) (ht : (pc : Int) + off = (tgt : Int)) (hq : pc + 3 = q) (KT : ¬ a = 0 → gj_W G l d mc ms y cc nL ret Q k n tgt ls st S M) (KF : a = 0 → gj_W G l d mc ms y cc nL ret Q k n q ls st S M) : gj_W G l d mc ms y cc nL ret Q k n pc ls (jI a :: st) S M := by
  subst hq
  intro p e R s m args below meth c H locs lsm Z X hZ hR hlc hl ho hk hn
  have ho2 : gj_oks ls st := ⟨ho.1, fun w hw => ho.2 w (List.mem_cons_of_mem _ hw)⟩
  exact lv_if_ne X.1 X.2.1 hd ht (fun h => KT ((not_congr (gj_injI (gj_o0 ho) gj_z32)).mp h) p e R s m args below meth c H locs lsm Z X hZ hR hlc hl ho2 hk hn) (fun h => KF ((gj_injI (gj_o0 ho) gj_z32).mp h) p e R s m args below meth c H locs lsm Z X hZ hR hlc hl ho2 hk hn)
theorem gj_icmp_ne {a b : Int} {off : Int} {tgt : Nat} (hd : decode cc pc = .ok (.if_icmp .ne off, 3)) (ht : (pc : Int) + off = (tgt : Int)) (hq : pc + 3 = q) (KT : ¬ a = b → gj_W G l d mc ms y cc nL ret Q k n tgt ls st S M) (KF : a = b → gj_W G l d mc ms y cc nL ret Q k n q ls st S M) : gj_W G l d mc ms y cc nL ret Q k n pc ls (jI b :: jI a :: st) S M := by
  subst hq
  intro p e R s m args below meth c H locs lsm Z X hZ hR hlc hl ho hk hn
  have ho2 : gj_oks ls st := ⟨ho.1, fun w hw => ho.2 w (List.mem_cons_of_mem _ (List.mem_cons_of_mem _ hw))⟩
  exact lv_icmp_ne X.1 X.2.1 hd ht (fun h => KT ((not_congr (gj_injI (gj_o1 ho) (gj_o0 ho))).mp h) p e R s m args below meth c H locs lsm Z X hZ hR hlc hl ho2 hk hn) (fun h => KF ((gj_injI (gj_o1 ho) (gj_o0 ho)).mp h) p e R s m args below meth c H locs lsm Z X hZ hR hlc hl ho2 hk hn)
theorem gj_if_lt {a : Int} {off : Int} {tgt : Nat} (hd : decode cc pc = .ok (.ifCond .lt off, 3)) (ht : (pc : Int) + off = (tgt : Int)) (hq : pc + 3 = q) (KT : a < 0 → gj_W G l d mc ms y cc nL ret Q k n tgt ls st S M) (KF : ¬ (a < 0) → gj_W G l d mc ms y cc nL ret Q k n q ls st S M) : gj_W G l d mc ms y cc nL ret Q k n pc ls (jI a :: st) S M := by
  subst hq
  intro p e R s m args below meth c H locs lsm Z X hZ hR hlc hl ho hk hn
  have ho2 : gj_oks ls st := ⟨ho.1, fun w hw => ho.2 w (List.mem_cons_of_mem _ hw)⟩
  exact lv_if_lt X.1 X.2.1 hd ht (fun h => KT ((gj_ltI (gj_o0 ho) gj_z32).mp h) p e R s m args below meth c H locs lsm Z X hZ hR hlc hl ho2 hk hn) (fun h => KF (fun z => h ((gj_ltI (gj_o0 ho) gj_z32).mpr z)) p e R s m args below meth c H locs lsm Z X hZ hR hlc hl ho2 hk hn)
theorem gj_icmp_lt {a b : Int} {off : Int} {tgt : Nat} (hd : decode cc pc = .ok (.if_icmp .lt off, 3)) (ht : (pc : Int) + off = (tgt : Int)) (hq : pc + 3 = q) (KT : a < b → gj_W G l d mc ms y cc nL ret Q k n tgt ls st S M) (KF : ¬ (a < b) → gj_W G l d mc ms y cc nL ret Q k n q ls st S M) : gj_W G l d mc ms y cc nL ret Q k n pc ls (jI b :: jI a :: st) S M := by
  subst hq
  intro p e R s m args below meth c H locs lsm Z X hZ hR hlc hl ho hk hn
  have ho2 : gj_oks ls st := ⟨ho.1, fun w hw => ho.2 w (List.mem_cons_of_mem _ (List.mem_cons_of_mem _ hw))⟩
  exact lv_icmp_lt X.1 X.2.1 hd ht (fun h => KT ((gj_ltI (gj_o1 ho) (gj_o0 ho)).mp h) p e R s m args below meth c H locs lsm Z X hZ hR hlc hl ho2 hk hn) (fun h => KF (fun z => h ((gj_ltI (gj_o1 ho) (gj_o0 ho)).mpr z)) p e R s m args below meth c H locs lsm Z X hZ hR hlc hl ho2 hk hn)
theorem gj_if_ge {a : Int} {off : Int} {tgt : Nat} (hd : decode cc pc = .ok (.ifCond .ge off, 3)) (ht : (pc : Int) + off = (tgt : Int)) (hq : pc + 3 = q) (KT : 0 ≤ a → gj_W G l d mc ms y cc nL ret Q k n tgt ls st S M) (KF : ¬ (0 ≤ a) → gj_W G l d mc ms y cc nL ret Q k n q ls st S M) : gj_W G l d mc ms y cc nL ret Q k n pc ls (jI a :: st) S M := by
  subst hq
  intro p e R s m args below meth c H locs lsm Z X hZ hR hlc hl ho hk hn
  have ho2 : gj_oks ls st := ⟨ho.1, fun w hw => ho.2 w (List.mem_cons_of_mem _ hw)⟩
  exact lv_if_ge X.1 X.2.1 hd ht (fun h => KT ((gj_leI gj_z32 (gj_o0 ho)).mp h) p e R s m args below meth c H locs lsm Z X hZ hR hlc hl ho2 hk hn) (fun h => KF (fun z => h ((gj_leI gj_z32 (gj_o0 ho)).mpr z)) p e R s m args below meth c H locs lsm Z X hZ hR hlc hl ho2 hk hn)
theorem gj_icmp_ge {a b : Int} {off : Int} {tgt : Nat} (hd : decode cc pc = .ok (.if_icmp .ge off, 3)) (ht : (pc : Int) + off = (tgt : Int)) (hq : pc + 3 = q) (KT : b ≤ a → gj_W G l d mc ms y cc nL ret Q k n tgt ls st S M) (KF : ¬ (b ≤ a) → gj_W G l d mc ms y cc nL ret Q k n q ls st S M) : gj_W G l d mc ms y cc nL ret Q k n pc ls (jI b :: jI a :: st) S M := by
  subst hq
  intro p e R s m args below meth c H locs lsm Z X hZ hR hlc hl ho hk hn
  have ho2 : gj_oks ls st := ⟨ho.1, fun w hw => ho.2 w (List.mem_cons_of_mem _ (List.mem_cons_of_mem _ hw))⟩
  exact lv_icmp_ge X.1 X.2.1 hd ht (fun h => KT ((gj_leI (gj_o0 ho) (gj_o1 ho)).mp h) p e R s m args below meth c H locs lsm Z X hZ hR hlc hl ho2 hk hn) (fun h => KF (fun z => h ((gj_leI (gj_o0 ho) (gj_o1 ho)).mpr z)) p e R s m args below meth c H locs lsm Z X hZ hR hlc hl ho2 hk hn)
theorem gj_if_gt {a : Int} {off : Int} {tgt : Nat} (hd : decode cc pc = .ok (.ifCond .gt off, 3)) (ht : (pc : Int) + off = (tgt : Int)) (hq : pc + 3 = q) (KT : 0 < a → gj_W G l d mc ms y cc nL ret Q k n tgt ls st S M) (KF : ¬ (0 < a) → gj_W G l d mc ms y cc nL ret Q k n q ls st S M) : gj_W G l d mc ms y cc nL ret Q k n pc ls (jI a :: st) S M := by
  subst hq
  intro p e R s m args below meth c H locs lsm Z X hZ hR hlc hl ho hk hn
  have ho2 : gj_oks ls st := ⟨ho.1, fun w hw => ho.2 w (List.mem_cons_of_mem _ hw)⟩
  exact lv_if_gt X.1 X.2.1 hd ht (fun h => KT ((gj_ltI gj_z32 (gj_o0 ho)).mp h) p e R s m args below meth c H locs lsm Z X hZ hR hlc hl ho2 hk hn) (fun h => KF (fun z => h ((gj_ltI gj_z32 (gj_o0 ho)).mpr z)) p e R s m args below meth c H locs lsm Z X hZ hR hlc hl ho2 hk hn)
theorem gj_icmp_gt {a b : Int} {off : Int} {tgt : Nat} (hd : decode cc pc = .ok (.if_icmp .gt off, 3)) (ht : (pc : Int) + off = (tgt : Int)) (hq : pc + 3 = q) (KT : b < a → gj_W G l d mc ms y cc nL ret Q k n tgt ls st S M) (KF : ¬ (b < a) → gj_W G l d mc ms y cc nL ret Q k n q ls st S M) : gj_W G l d mc ms y cc nL ret Q k n pc ls (jI b :: jI a :: st) S M := by
  subst hq
  intro p e R s m args below meth c H locs lsm Z X hZ hR hlc hl ho hk hn
  have ho2 : gj_oks ls st := ⟨ho.1, fun w hw => ho.2 w (List.mem_cons_of_mem _ (List.mem_cons_of_mem _ hw))⟩
  exact lv_icmp_gt X.1 X.2.1 hd ht (fun h => KT ((gj_ltI (gj_o0 ho) (gj_o1 ho)).mp h) p e R s m args below meth c H locs lsm Z X hZ hR hlc hl ho2 hk hn) (fun h => KF (fun z => h ((gj_ltI (gj_o0 ho) (gj_o1 ho)).mpr z)) p e R s m args below meth c H locs lsm Z X hZ hR hlc hl ho2 hk hn)
theorem gj_if_le {a : Int} {off : Int} {tgt : Nat} (hd : decode cc pc = .ok (.ifCond .le off, 3)) (ht : (pc : Int) + off = (tgt : Int)) (hq : pc + 3 = q) (KT : a ≤ 0 → gj_W G l d mc ms y cc nL ret Q k n tgt ls st S M) (KF : ¬ (a ≤ 0) → gj_W G l d mc ms y cc nL ret Q k n q ls st S M) : gj_W G l d mc ms y cc nL ret Q k n pc ls (jI a :: st) S M := by
  subst hq
  intro p e R s m args below meth c H locs lsm Z X hZ hR hlc hl ho hk hn
  have ho2 : gj_oks ls st := ⟨ho.1, fun w hw => ho.2 w (List.mem_cons_of_mem _ hw)⟩
  exact lv_if_le X.1 X.2.1 hd ht (fun h => KT ((gj_leI (gj_o0 ho) gj_z32).mp h) p e R s m args below meth c H locs lsm Z X hZ hR hlc hl ho2 hk hn) (fun h => KF (fun z => h ((gj_leI (gj_o0 ho) gj_z32).mpr z)) p e R s m args below meth c H locs lsm Z X hZ hR hlc hl ho2 hk hn)
theorem gj_icmp_le {a b : Int} {off : Int} {tgt : Nat} (hd : decode cc pc = .ok (.if_icmp .le off, 3)) (ht : (pc : Int) + off = (tgt : Int)) (hq : pc + 3 = q) (KT : a ≤ b → gj_W G l d mc ms y cc nL ret Q k n tgt ls st S M) (KF : ¬ (a ≤ b) → gj_W G l d mc ms y cc nL ret Q k n q ls st S M) : gj_W G l d mc ms y cc nL ret Q k n pc ls (jI b :: jI a :: st) S M := by
  subst hq
  intro p e R s m args below meth c H locs lsm Z X hZ hR hlc hl ho hk hn
  have ho2 : gj_oks ls st := ⟨ho.1, fun w hw => ho.2 w (List.mem_cons_of_mem _ (List.mem_cons_of_mem _ hw))⟩
  exact lv_icmp_le X.1 X.2.1 hd ht (fun h => KT ((gj_leI (gj_o1 ho) (gj_o0 ho)).mp h) p e R s m args below meth c H locs lsm Z X hZ hR hlc hl ho2 hk hn) (fun h => KF (fun z => h ((gj_leI (gj_o1 ho) (gj_o0 ho)).mpr z)) p e R s m args below meth c H locs lsm Z X hZ hR hlc hl ho2 hk hn)
theorem gj_goto {off : Int} {tgt : Nat} (hd : decode cc pc = .ok (.goto off, 3)) (ht : (pc : Int) + off = (tgt : Int)) (K : gj_W G l d mc ms y cc nL ret Q k n tgt ls st S M) : gj_W G l d mc ms y cc nL ret Q k n pc ls st S M := by
  exact gj_op (fun p e R s m args below meth c H locs lsm Z hx hb hown hts hK hl ho k => lv_goto hx hb hd ht k) (fun h => h) K
theorem gj_tail {v : gj_V} (h : gj_oks ls (v :: st)) : gj_oks ls st := ⟨h.1, fun w hw => h.2 w (List.mem_cons_of_mem _ hw)⟩
theorem gj_ifnull {z : Int} {off : Int} {tgt : Nat} (hd : decode cc pc = .ok (.ifnull off, 3)) (ht : (pc : Int) + off = (tgt : Int)) (hq : pc + 3 = q) (KT : z = -1 → gj_W G l d mc ms y cc nL ret Q k n tgt ls st S M) (KF : ¬ z = -1 → gj_W G l d mc ms y cc nL ret Q k n q ls st S M) : gj_W G l d mc ms y cc nL ret Q k n pc ls (jR z :: st) S M := by
  subst hq
  intro p e R s m args below meth c H locs lsm Z X hZ hR hlc hl ho hk hn
  show W p l e R s m args below meth c H locs k n Z (F0 m pc lsm (gj_rv G z :: st.map (gj_v G)))
  unfold gj_rv gj_ro
  by_cases hz : z = -1
  · rw [if_pos hz]
    exact lv_ifnullN X.1 X.2.1 hd ht (KT hz p e R s m args below meth c H locs lsm Z X hZ hR hlc hl (gj_tail ho) hk hn)
  · rw [if_neg hz]
    exact lv_ifnull X.1 X.2.1 hd (KF hz p e R s m args below meth c H locs lsm Z X hZ hR hlc hl (gj_tail ho) hk hn)
theorem gj_ifnonnull {z : Int} {off : Int} {tgt : Nat} (hd : decode cc pc = .ok (.ifnonnull off, 3)) (ht : (pc : Int) + off = (tgt : Int)) (hq : pc + 3 = q) (KT : ¬ z = -1 → gj_W G l d mc ms y cc nL ret Q k n tgt ls st S M) (KF : z = -1 → gj_W G l d mc ms y cc nL ret Q k n q ls st S M) : gj_W G l d mc ms y cc nL ret Q k n pc ls (jR z :: st) S M := by
  subst hq
  intro p e R s m args below meth c H locs lsm Z X hZ hR hlc hl ho hk hn
  show W p l e R s m args below meth c H locs k n Z (F0 m pc lsm (gj_rv G z :: st.map (gj_v G)))
  unfold gj_rv gj_ro
  by_cases hz : z = -1
  · rw [if_pos hz]
    exact lv_ifnonnullN X.1 X.2.1 hd (KF hz p e R s m args below meth c H locs lsm Z X hZ hR hlc hl (gj_tail ho) hk hn)
  · rw [if_neg hz]
    exact lv_ifnonnull X.1 X.2.1 hd ht (KT hz p e R s m args below meth c H locs lsm Z X hZ hR hlc hl (gj_tail ho) hk hn)
theorem gj_tabOut {dflt lo hi : Int} {offs : Array Int} {len tgt : Nat} {a : Int} (hd : decode cc pc = .ok (.tableswitch dflt lo hi offs, len)) (h : a < lo ∨ hi < a) (ht : (pc : Int) + dflt = (tgt : Int)) (K : gj_W G l d mc ms y cc nL ret Q k n tgt ls st S M) : gj_W G l d mc ms y cc nL ret Q k n pc ls (jI a :: st) S M := by
  intro p e R s m args below meth c H locs lsm Z X hZ hR hlc hl ho hk hn
  exact lv_tableOut X.1 X.2.1 hd (by rw [gj_toI' (gj_o0 ho)]; exact h) ht (K p e R s m args below meth c H locs lsm Z X hZ hR hlc hl (gj_tail ho) hk hn)
theorem gj_tabIn (i : Int) {dflt lo hi : Int} {offs : Array Int} {len tgt : Nat} {off : Int} {a : Int} (hd : decode cc pc = .ok (.tableswitch dflt lo hi offs, len)) (hai : a = i) (h : lo ≤ i ∧ i ≤ hi ∧ offs[(i - lo).toNat]? = some off) (ht : (pc : Int) + off = (tgt : Int)) (K : gj_W G l d mc ms y cc nL ret Q k n tgt ls st S M) : gj_W G l d mc ms y cc nL ret Q k n pc ls (jI a :: st) S M := by
  subst hai
  intro p e R s m args below meth c H locs lsm Z X hZ hR hlc hl ho hk hn
  have e1 := gj_toI' (gj_o0 ho)
  exact lv_tableIn X.1 X.2.1 hd (by rw [e1]; omega) (by rw [e1]; omega) (by rw [e1]; exact h.2.2) ht (K p e R s m args below meth c H locs lsm Z X hZ hR hlc hl (gj_tail ho) hk hn)
theorem gj_lookup {dflt off : Int} {ps : Array (Int × Int)} {len tgt : Nat} {a : Int} (hd : decode cc pc = .ok (.lookupswitch dflt ps, len)) (hp : (ps.toList.zip (ps.toList.drop 1)).all (fun (a, next) => a.1 < next.1) = true) (ho2 : Op.lookupswitch.offset ps.toList dflt a = off) (ht : (pc : Int) + off = (tgt : Int)) (K : gj_W G l d mc ms y cc nL ret Q k n tgt ls st S M) : gj_W G l d mc ms y cc nL ret Q k n pc ls (jI a :: st) S M := by
  intro p e R s m args below meth c H locs lsm Z X hZ hR hlc hl ho hk hn
  exact lv_lookup X.1 X.2.1 hd hp (by rw [gj_toI' (gj_o0 ho)]; exact ho2) ht (K p e R s m args below meth c H locs lsm Z X hZ hR hlc hl (gj_tail ho) hk hn)
-- ends
theorem gj_ireturn {a : Int} (ty : FieldType) (hd : decode cc pc = .ok (.ireturn, 1)) (hr : ret = some ty) (hn2 : narrow ty (.int (Int32.ofInt a)) = .int (Int32.ofInt a)) (hQ : Q (some (jI a)) S M) : gj_W G l d mc ms y cc nL ret Q k n pc ls [jI a] S M := by
  intro p e R s m args below meth c H locs lsm Z X hZ hR hlc hl ho hk hn
  exact hZ H locs k n pc lsm (some (jI a)) S M hQ hR hlc hk hn (fun x hx => by cases hx; exact gj_o0 ho) ⟨hd, ty, hr, hn2⟩
theorem gj_iret {a : Int} (hd : decode cc pc = .ok (.ireturn, 1)) (hr : ret = some .int) (hQ : Q (some (jI a)) S M) : gj_W G l d mc ms y cc nL ret Q k n pc ls [jI a] S M := gj_ireturn .int hd hr rfl hQ
theorem gj_narZ {a : Int} (h : a = 0 ∨ a = 1) : narrow .boolean (.int (Int32.ofInt a)) = .int (Int32.ofInt a) := by rcases h with rfl | rfl <;> rfl
theorem gj_zret {a : Int} (hd : decode cc pc = .ok (.ireturn, 1)) (hr : ret = some .boolean) (h : a = 0 ∨ a = 1) (hQ : Q (some (jI a)) S M) : gj_W G l d mc ms y cc nL ret Q k n pc ls [jI a] S M := gj_ireturn .boolean hd hr (gj_narZ h) hQ
theorem gj_lret {a : Int} (hd : decode cc pc = .ok (.lreturn, 1)) (hr : ret = some .long) (hQ : Q (some (jL a)) S M) : gj_W G l d mc ms y cc nL ret Q k n pc ls [jL a] S M := by
  intro p e R s m args below meth c H locs lsm Z X hZ hR hlc hl ho hk hn
  exact hZ H locs k n pc lsm (some (jL a)) S M hQ hR hlc hk hn (fun x hx => by cases hx; exact gj_O0 ho) ⟨hd, hr⟩
theorem gj_aret {a : Int} {nm : String} (hd : decode cc pc = .ok (.areturn, 1)) (hr : ret = some (.object nm)) (hQ : Q (some (jR a)) S M) : gj_W G l d mc ms y cc nL ret Q k n pc ls [jR a] S M := by
  intro p e R s m args below meth c H locs lsm Z X hZ hR hlc hl ho hk hn
  exact hZ H locs k n pc lsm (some (jR a)) S M hQ hR hlc hk hn (fun x hx => by cases hx; exact trivial) ⟨hd, nm, hr⟩
theorem gj_vret (hd : decode cc pc = .ok (.return_, 1)) (hr : ret = none) (hQ : Q none S M) : gj_W G l d mc ms y cc nL ret Q k n pc ls [] S M := by
  intro p e R s m args below meth c H locs lsm Z X hZ hR hlc hl ho hk hn
  exact hZ H locs k n pc lsm none S M hQ hR hlc hk hn (fun x hx => by cases hx) ⟨hd, hr⟩
end GJ2
theorem gj_cwl (ws : List Cond) (ps : List Nat) (hp : ws = ps.filterMap (fun i => lw_tbl[i]?)) (h : ws.all goodWord = true) : ∀ w ∈ ws, w ∈ gj_TB := by
  intro w hw
  have h1 := List.all_eq_true.mp h w hw
  rw [hp] at hw
  obtain ⟨i, -, hi⟩ := List.mem_filterMap.mp hw
  exact gj_mem i hi h1
set_option maxRecDepth 100000 in
theorem gj_cw0 : ∀ w ∈ u_ws RX0 TX0 3, w ∈ gj_TB := gj_cwl _ [450, 452, 454] (by decide +kernel) (by decide +kernel)
set_option maxRecDepth 100000 in
theorem gj_cw1 : ∀ w ∈ u_ws RX1 TX1 3, w ∈ gj_TB := gj_cwl _ [297, 299, 301] (by decide +kernel) (by decide +kernel)
set_option maxRecDepth 100000 in
theorem gj_cw2 : ∀ w ∈ u_ws RX2 TX2 7, w ∈ gj_TB := gj_cwl _ [425, 427, 429, 431, 433, 435, 437] (by decide +kernel) (by decide +kernel)
set_option maxRecDepth 100000 in
theorem gj_cw3 : ∀ w ∈ u_ws RX3 TX3 11, w ∈ gj_TB := gj_cwl _ [347, 349, 351, 353, 355, 357, 359, 361, 363, 365, 367] (by decide +kernel) (by decide +kernel)
set_option maxRecDepth 100000 in
theorem gj_cw4 : ∀ w ∈ u_ws RX4 TX4 11, w ∈ gj_TB := gj_cwl _ [387, 389, 391, 393, 395, 397, 399, 401, 403, 405, 407] (by decide +kernel) (by decide +kernel)
set_option maxRecDepth 100000 in
theorem gj_cw5 : ∀ w ∈ u_ws RX5 TX5 16, w ∈ gj_TB := gj_cwl _ [210, 212, 214, 216, 218, 220, 222, 224, 226, 228, 230, 232, 234, 236, 238, 240] (by decide +kernel) (by decide +kernel)
set_option maxRecDepth 100000 in
theorem gj_cw6 : ∀ w ∈ u_ws RX6 TX6 10, w ∈ gj_TB := gj_cwl _ [259, 261, 263, 265, 267, 269, 271, 273, 275, 277] (by decide +kernel) (by decide +kernel)
set_option maxRecDepth 100000 in
theorem gj_cw7 : ∀ w ∈ u_ws RX8 TX8 5, w ∈ gj_TB := gj_cwl _ [468, 470, 472, 474, 476] (by decide +kernel) (by decide +kernel)
set_option maxRecDepth 100000 in
theorem gj_cw8 : ∀ w ∈ u_ws RX9 TX9 2, w ∈ gj_TB := gj_cwl _ [137, 139] (by decide +kernel) (by decide +kernel)
set_option maxRecDepth 100000 in
theorem gj_cw9 : ∀ w ∈ u_ws RX11 TX11 12, w ∈ gj_TB := gj_cwl _ [492, 494, 496, 498, 500, 502, 504, 506, 508, 510, 512, 514] (by decide +kernel) (by decide +kernel)
set_option maxRecDepth 100000 in
theorem gj_cw10 : ∀ w ∈ u_ws RX12 TX12 55, w ∈ gj_TB := gj_cwl _ [1299, 1301, 1303, 1305, 1307, 1309, 1311, 1313, 1315, 1317, 1319, 1321, 1323, 1325, 1327, 1329, 1331, 1333, 1335, 1337, 1339, 1341, 1343, 1345, 1347, 1349, 1351, 1353, 1355, 1357, 1359, 1361, 1363, 1365, 1367, 1369, 1371, 1373, 1375, 1377, 1379, 1381, 1383, 1385, 1387, 1389, 1391, 1393, 1395, 1397, 1399, 1401, 1403, 1405, 1407] (by decide +kernel) (by decide +kernel)
def gj_cok (ci : Nat) (r : vw_C) : Prop := (∀ w ∈ u_ws r.1 r.2.1 r.2.2, w ∈ gj_TB) ∧ (∀ k, k < r.2.2 → parseFieldDescriptor (r.2.1 k).2.2.1 = some ((gj_fts.getD ci tyX0) k)) ∧ ∀ a, a < r.2.2 → ∀ b, b < r.2.2 → a ≠ b → (r.2.1 a).2.1 ≠ (r.2.1 b).2.1
theorem gj_cls {ci : Nat} {r : vw_C} (h : vwCl[ci]? = some r) : gj_cok ci r := by
  match ci, h with
  | 0, h => cases h; exact ⟨gj_cw0, tyX0_ok, nmX0⟩
  | 1, h => cases h; exact ⟨gj_cw1, tyX1_ok, nmX1⟩
  | 2, h => cases h; exact ⟨gj_cw2, tyX2_ok, nmX2⟩
  | 3, h => cases h; exact ⟨gj_cw3, tyX3_ok, nmX3⟩
  | 4, h => cases h; exact ⟨gj_cw4, tyX4_ok, nmX4⟩
  | 5, h => cases h; exact ⟨gj_cw5, tyX5_ok, nmX5⟩
  | 6, h => cases h; exact ⟨gj_cw6, tyX6_ok, nmX6⟩
  | 7, h => cases h; exact ⟨gj_cw7, tyX8_ok, nmX8⟩
  | 8, h => cases h; exact ⟨gj_cw8, tyX9_ok, nmX9⟩
  | 9, h => cases h; exact ⟨gj_cw9, tyX11_ok, nmX11⟩
  | 10, h => cases h; exact ⟨gj_cw10, tyX12_ok, nmX12⟩
  | i + 11, h => simp [vwCl] at h
