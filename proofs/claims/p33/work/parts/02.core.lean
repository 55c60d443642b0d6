/-! OWN LAYER, first half: values as whole numbers, the judgement, the rules of locals, stack, arithmetic, branches -/
abbrev gj_V : Type := Int ⊕ (Int ⊕ Int)
abbrev jI (x : Int) : gj_V := .inl x
abbrev jL (x : Int) : gj_V := .inr (.inl x)
abbrev jR (x : Int) : gj_V := .inr (.inr x)
/-- wrap-around -/
def gj_w (x : Int) : Int := (x + 2147483648) % 4294967296 - 2147483648
def gj_wl (x : Int) : Int := (x + 9223372036854775808) % 18446744073709551616 - 9223372036854775808
def gj_b8 (x : Int) : Int := (x + 128) % 256 - 128
abbrev gj_i32 (x : Int) : Prop := -2147483648 ≤ x ∧ x < 2147483648
abbrev gj_i64 (x : Int) : Prop := -9223372036854775808 ≤ x ∧ x < 9223372036854775808
theorem gj_w_ok (x : Int) : gj_i32 (gj_w x) := by unfold gj_w gj_i32; omega
theorem gj_wl_ok (x : Int) : gj_i64 (gj_wl x) := by unfold gj_wl gj_i64; omega
theorem gj_w_id {x : Int} (h : gj_i32 x) : gj_w x = x := by unfold gj_i32 at h; unfold gj_w; omega
theorem gj_wl_id {x : Int} (h : gj_i64 x) : gj_wl x = x := by unfold gj_i64 at h; unfold gj_wl; omega
theorem gj_wle {x : Int} (h1 : -2147483648 ≤ x) (h2 : x < 2147483648) : gj_w x = x := gj_w_id ⟨h1, h2⟩
theorem gj_wlle {x : Int} (h1 : -9223372036854775808 ≤ x) (h2 : x < 9223372036854775808) : gj_wl x = x := gj_wl_id ⟨h1, h2⟩
theorem gj_32_64 {x : Int} (h : gj_i32 x) : gj_i64 x := by unfold gj_i32 at h; unfold gj_i64; omega
theorem gj_bmod (x : Int) : x.bmod 4294967296 = gj_w x := by
  unfold gj_w
  rw [Int.bmod_def]
  split <;> omega
theorem gj_bmodl (x : Int) : x.bmod 18446744073709551616 = gj_wl x := by
  unfold gj_wl
  rw [Int.bmod_def]
  split <;> omega
theorem gj_toI (x : Int) : (Int32.ofInt x).toInt = gj_w x := by
  rw [Int32.toInt_ofInt]
  exact gj_bmod x
theorem gj_toL (x : Int) : (Int64.ofInt x).toInt = gj_wl x := by
  rw [Int64.toInt_ofInt]
  exact gj_bmodl x
theorem gj_ofw (x : Int) : Int32.ofInt (gj_w x) = Int32.ofInt x := Int32.toInt_inj.1 (by rw [gj_toI, gj_toI, gj_w_id (gj_w_ok x)])
theorem gj_ofwl (x : Int) : Int64.ofInt (gj_wl x) = Int64.ofInt x := Int64.toInt_inj.1 (by rw [gj_toL, gj_toL, gj_wl_id (gj_wl_ok x)])
theorem gj_toI' {x : Int} (h : gj_i32 x) : (Int32.ofInt x).toInt = x := by rw [gj_toI, gj_w_id h]
theorem gj_toL' {x : Int} (h : gj_i64 x) : (Int64.ofInt x).toInt = x := by rw [gj_toL, gj_wl_id h]
theorem gj_eqI {a : Int} {x : Int32} (h : x.toInt = gj_w a) : x = Int32.ofInt a := Int32.toInt_inj.1 (by rw [gj_toI, h])
theorem gj_eqL {a : Int} {x : Int64} (h : x.toInt = gj_wl a) : x = Int64.ofInt a := Int64.toInt_inj.1 (by rw [gj_toL, h])
theorem gj_injI {a b : Int} (ha : gj_i32 a) (hb : gj_i32 b) : Int32.ofInt a = Int32.ofInt b ↔ a = b := ⟨fun h => by rw [← gj_toI' ha, ← gj_toI' hb, h], fun h => by rw [h]⟩
theorem gj_ltI {a b : Int} (ha : gj_i32 a) (hb : gj_i32 b) : Int32.ofInt a < Int32.ofInt b ↔ a < b := by rw [Int32.lt_iff_toInt_lt, gj_toI' ha, gj_toI' hb]
theorem gj_leI {a b : Int} (ha : gj_i32 a) (hb : gj_i32 b) : Int32.ofInt a ≤ Int32.ofInt b ↔ a ≤ b := by rw [Int32.le_iff_toInt_le, gj_toI' ha, gj_toI' hb]
theorem gj_0I : Int32.ofInt 0 = 0 := rfl
theorem gj_z32 : gj_i32 0 := ⟨by decide, by decide⟩
/-- what the machine's bit operations do, as whole numbers -/
def gj_and (a b : Int) : Int := (Int32.ofInt a &&& Int32.ofInt b).toInt
def gj_or (a b : Int) : Int := (Int32.ofInt a ||| Int32.ofInt b).toInt
def gj_ushr (a b : Int) : Int := ((Int32.ofInt a).toUInt32 >>> ((Int32.ofInt b).toUInt32 &&& Int32.toUInt32 31)).toInt32.toInt
def gj_land (a b : Int) : Int := (Int64.ofInt a &&& Int64.ofInt b).toInt
def gj_cmp (a b : Int) : Int := if b < a then 1 else if a = b then 0 else -1
theorem gj_rI (x : Int32) : gj_i32 x.toInt := by
  have h1 := Int32.le_toInt x
  have h2 := Int32.toInt_lt x
  unfold gj_i32
  omega
theorem gj_rL (x : Int64) : gj_i64 x.toInt := by
  have h1 := Int64.le_toInt x
  have h2 := Int64.toInt_lt x
  unfold gj_i64
  omega
theorem gj_cmp_ok (a b : Int) : gj_i32 (gj_cmp a b) := by
  unfold gj_cmp gj_i32
  split
  · omega
  · split <;> omega
theorem gj_cmp_eq {a b : Int} (ha : gj_i64 a) (hb : gj_i64 b) : lg_cmp (Int64.ofInt a) (Int64.ofInt b) = Int32.ofInt (gj_cmp a b) := by
  unfold lg_cmp gj_cmp
  simp only [gt_iff_lt, Int64.lt_iff_toInt_lt, ← Int64.toInt_inj, gj_toL' ha, gj_toL' hb]
  split
  · rfl
  · split <;> rfl
theorem gj_tmod_ok {a b : Int} (ha : gj_i32 a) : gj_i32 (a.tmod b) := by
  unfold gj_i32 at *
  rcases Int.le_total 0 a with h | h
  · have h1 := Int.tmod_nonneg b h
    have h2 : a.tmod b ≤ a := by
      have := Int.natAbs_tmod a b
      have h3 : (a.natAbs % b.natAbs) ≤ a.natAbs := Nat.mod_le _ _
      omega
    omega
  · have h1 : a.tmod b = -((-a).tmod b) := by rw [Int.neg_tmod]; omega
    have h4 := Int.tmod_nonneg b (show 0 ≤ -a by omega)
    have h2 : (-a).tmod b ≤ -a := by
      have := Int.natAbs_tmod (-a) b
      have h3 : ((-a).natAbs % b.natAbs) ≤ (-a).natAbs := Nat.mod_le _ _
      omega
    omega
theorem gj_tmodl_ok {a b : Int} (ha : gj_i64 a) : gj_i64 (a.tmod b) := by
  unfold gj_i64 at *
  rcases Int.le_total 0 a with h | h
  · have h1 := Int.tmod_nonneg b h
    have h2 : a.tmod b ≤ a := by
      have := Int.natAbs_tmod a b
      have h3 : (a.natAbs % b.natAbs) ≤ a.natAbs := Nat.mod_le _ _
      omega
    omega
  · have h1 : a.tmod b = -((-a).tmod b) := by rw [Int.neg_tmod]; omega
    have h4 := Int.tmod_nonneg b (show 0 ≤ -a by omega)
    have h2 : (-a).tmod b ≤ -a := by
      have := Int.natAbs_tmod (-a) b
      have h3 : ((-a).natAbs % b.natAbs) ≤ (-a).natAbs := Nat.mod_le _ _
      omega
    omega
theorem gj_divI {a b : Int} (ha : gj_i32 a) (hb : gj_i32 b) : Int32.ofInt a / Int32.ofInt b = Int32.ofInt (gj_w (a.tdiv b)) := by
  refine gj_eqI ?_
  rw [Int32.toInt_div, gj_toI' ha, gj_toI' hb, gj_w_id (gj_w_ok _)]
  exact gj_bmod _
theorem gj_divL {a b : Int} (ha : gj_i64 a) (hb : gj_i64 b) : Int64.ofInt a / Int64.ofInt b = Int64.ofInt (gj_wl (a.tdiv b)) := by
  refine gj_eqL ?_
  rw [Int64.toInt_div, gj_toL' ha, gj_toL' hb, gj_wl_id (gj_wl_ok _)]
  exact gj_bmodl _
theorem gj_remI {a b : Int} (ha : gj_i32 a) (hb : gj_i32 b) : Int32.ofInt a - Int32.ofInt a / Int32.ofInt b * Int32.ofInt b = Int32.ofInt (a.tmod b) := by
  rw [gj_divI ha hb, gj_ofw, ← Int32.ofInt_mul, ← Int32.ofInt_sub, Int.tmod_def, Int.mul_comm]
theorem gj_remL {a b : Int} (ha : gj_i64 a) (hb : gj_i64 b) : Int64.ofInt a - Int64.ofInt a / Int64.ofInt b * Int64.ofInt b = Int64.ofInt (a.tmod b) := by
  rw [gj_divL ha hb, gj_ofwl, ← Int64.ofInt_mul, ← Int64.ofInt_sub, Int.tmod_def, Int.mul_comm]
/-! the world: what is fixed of a launch (class numbers, array classes, string constants, the heap at the start, the script), the system's heap as numbers -/
abbrev gj_G : Type := va_G × (Nat → ClassId) × (Nat → Nat) × (Nat → Nat) × Heap × Nat × Nat × (Nat → Int32) × Nat
def gj_D (G : gj_G) : va_G := G.1
def gj_cA (G : gj_G) : Nat → ClassId := G.2.1
def gj_aK (G : gj_G) : Nat → Nat := G.2.2.1
def gj_aV (G : gj_G) : Nat → Nat := G.2.2.2.1
def gj_H (G : gj_G) : Heap := G.2.2.2.2.1
def gj_b (G : gj_G) : Nat := G.2.2.2.2.2.1
def gj_n (G : gj_G) : Nat := G.2.2.2.2.2.2.1
def gj_x (G : gj_G) : Nat → Int32 := G.2.2.2.2.2.2.2.1
def gj_f (G : gj_G) : Nat := G.2.2.2.2.2.2.2.2
def gj_base (G : gj_G) : Nat := (gj_H G).size
/-- a reference's address: the system's objects by number from 0 on; -1 null; -2 - i the i-th text, -30 - i its bytes; -100 the script; -200 an object of the JDK's (if it isn't null: gj_g) -/
def gj_ad (G : gj_G) (z : Int) : Nat := if 0 ≤ z then gj_base G + z.toNat else if z = -100 then gj_b G else if z = -200 then gj_f G - 1 else if z ≤ -30 then gj_aV G (-30 - z).toNat else gj_aK G (-2 - z).toNat
def gj_g (G : gj_G) : Int := if gj_f G = 0 then -1 else -200
def gj_ro (G : gj_G) (z : Int) : Option Nat := if z = -1 then none else some (gj_ad G z)
def gj_rv (G : gj_G) (z : Int) : Value := va_rf (gj_ro G z)
def gj_v (G : gj_G) : gj_V → Value
  | .inl x => .int (Int32.ofInt x)
  | .inr (.inl x) => .long (Int64.ofInt x)
  | .inr (.inr z) => gj_rv G z
def gj_okv : gj_V → Prop
  | .inl x => gj_i32 x
  | .inr (.inl x) => gj_i64 x
  | .inr (.inr _) => True
/-- the system's objects: how many; of each its kind (0 int, 1 long, 2 byte, 3 boolean arrays, 4 arrays of Life, 5 of String, 6 of int arrays, 10 + c objects of class c) and length; its references -/
abbrev gj_S : Type := Int × (Int → Nat × Int) × (Int → Int → Int)
/-- what they hold of numbers -/
abbrev gj_M : Type := Int → Int → Int
def gj_up (M : gj_M) (o i v : Int) : gj_M := fun a b => if a = o ∧ b = i then v else M a b
def gj_ftc : FieldType → Nat
  | .int => 0
  | .long => 1
  | .byte => 2
  | .boolean => 3
  | _ => 4
def gj_fts : List (Nat → FieldType) := [tyX0, tyX1, tyX2, tyX3, tyX4, tyX5, tyX6, tyX8, tyX9, tyX11, tyX12]
def gj_ft (ci k : Nat) : Nat := gj_ftc ((gj_fts.getD ci tyX0) k)
def gj_ty (k i : Nat) : Nat := if k < 4 then k else if k < 10 then 4 else gj_ft (k - 10) i
def gj_okx (t : Nat) (x : Int) : Prop := (t = 0 → gj_i32 x) ∧ (t = 1 → gj_i64 x) ∧ (t = 2 → -128 ≤ x ∧ x < 128) ∧ (t = 3 → x = 0 ∨ x = 1)
def gj_okm (S : gj_S) (M : gj_M) : Prop := ∀ (o : Int) (i : Nat), gj_okx (gj_ty (S.2.1 o).1 i) (M o i)
def gj_okS (S : gj_S) : Prop := 0 ≤ S.1 ∧ (∀ z, (z < 0 ∨ S.1 ≤ z) → S.2.1 z = (99, 0)) ∧ ∀ z, 0 ≤ (S.2.1 z).2 ∧ (S.2.1 z).2 < 2147483648
def gj_fv (G : gj_G) (S : gj_S) (M : gj_M) (o : Int) (ci i : Nat) : Value := if gj_ft ci i = 1 then .long (Int64.ofInt (M o i)) else if gj_ft ci i = 4 then gj_rv G (S.2.2 o i) else .int (Int32.ofInt (M o i))
def gj_e (G : gj_G) (S : gj_S) (M : gj_M) (o : Int) : va_E :=
  if (S.2.1 o).1 < 10 then .inl (gj_cA G (S.2.1 o).1, (S.2.1 o).2.toNat, if (S.2.1 o).1 = 1 then .inr (.inl fun i : Nat => Int64.ofInt (M o i)) else if (S.2.1 o).1 < 4 then .inl (fun i : Nat => Int32.ofInt (M o i)) else .inr (.inr (.inr (.inr fun i : Nat => gj_ro G (S.2.2 o i)))))
  else .inr ((S.2.1 o).1 - 10, (List.range (S.2.1 o).2.toNat).map (gj_fv G S M o ((S.2.1 o).1 - 10)))
/-- the heap holds the system's objects behind what was there at the start -/
def gj_R (G : gj_G) (S : gj_S) (M : gj_M) (H : Heap) : Prop :=
  H.size = gj_base G + S.1.toNat ∧ (∀ q : Nat, q < gj_base G → H[q]? = (gj_H G)[q]?) ∧ (∀ o : Nat, (o : Int) < S.1 → va_at (gj_D G) vwCl (gj_base G + o, gj_e G S M o) H) ∧ gj_okS S ∧ gj_okm S M
def gj_tys (G : gj_G) : List (ClassId × FieldType) := [(gj_cA G 0, .int), (gj_cA G 1, .long), (gj_cA G 2, .byte), (gj_cA G 3, .boolean), (gj_cA G 4, .object "MayGreen$Life"), (gj_cA G 5, .object "java/lang/String"), (gj_cA G 6, .array .int)]
def gj_A (G : gj_G) : Nat → Prop := fun q => gj_base G ≤ q
/-- the texts: left right think fit worth house child cow ahead -/
def gj_st : List String := ["left", "right", "think", "fit", "worth", "house", "child", "cow", "ahead"]
def gj_sl : List Nat := [4, 5, 5, 3, 5, 5, 5, 3, 5]
def gj_sb : List (List Int32) := [[108, 101, 102, 116], [114, 105, 103, 104, 116], [116, 104, 105, 110, 107], [102, 105, 116], [119, 111, 114, 116, 104], [104, 111, 117, 115, 101], [99, 104, 105, 108, 100], [99, 111, 119], [97, 104, 101, 97, 100]]
def gj_s6 : List Nat := [81, 94, 99, 104, 109, 114, 119, 124, 129]
def gj_s12 : List Nat := [56, 58, 60, 62, 63, 65, 67, 69, 71]
/-- the tables' word on arrays of int arrays -/
def gj_AOA (U : State) : Prop := (Cond.arrayOver (.array .int)).before #[] U = true
theorem gj_AOA.moved {u U : State} (hvm : u.vm.Alike U.vm) (h : gj_AOA u) : gj_AOA U := by
  have h1 := Cond.overAtom_setVm hvm (Cond.arrayOver (.array .int)) rfl h
  exact h1
/-- the private constructors that nest mates call -/
def gj_nest : List (String × Nat × MethodName × String) := [(RX11, 9, yX9_init, RX11), (RX11, 18, yX5_init, RX11), (RX3, 35, yX1_init, RX11)]
def gj_K (G : gj_G) (U : State) : Prop :=
  va_K (gj_D G) vwCl (gj_tys G) U ∧ (∀ i, i < 9 → vk_R RX6 (gj_s6.getD i 0) (gj_st.getD i "") (gj_aK G i) U ∧ vk_R RX12 (gj_s12.getD i 0) (gj_st.getD i "") (gj_aK G i) U) ∧
  vk_S 9 gj_sl gj_sb (gj_aK G) (gj_aV G) (gj_A G) U (gj_H G) ∧ va_Z "java/lang/String" "COMPACT_STRINGS" "Z" (.int 1) (gj_A G) U (gj_H G) ∧
  va_Z "jdk/internal/util/Preconditions" "SIOOBE_FORMATTER" "Ljava/util/function/BiFunction;" (gj_rv G (gj_g G)) (gj_A G) U (gj_H G) ∧
  va_X (gj_b G) (gj_n G) (gj_x G) U (gj_H G) ∧ gj_b G < gj_base G ∧ gj_n G < 2147483648 ∧ va_AO "MayGreen$Life" U ∧ va_AO "java/lang/String" U ∧ gj_AOA U ∧ ∀ q ∈ gj_nest, va_Nw (.methodLinkNest q.1 q.2.1 q.2.2.1 q.2.2.2) U
theorem gj_K.same {G : gj_G} {u U : State} (hv : U.vm = u.vm) (h : gj_K G u) : gj_K G U := by
  obtain ⟨h1, h2, h3, h4, h5, h6, h7, h8, h9, h10, h11, h12⟩ := h
  have ha : u.vm.Alike U.vm := by rw [hv]; exact Vm.Alike.refl _
  exact ⟨h1.moved ha, fun i hi => ⟨(h2 i hi).1.same hv, (h2 i hi).2.same hv⟩, h3.moved ha, h4.moved ha, h5.moved ha, h6.moved ha, h7, h8, h9.moved ha, h10.moved ha, h11.moved ha, fun q hq => (h12 q hq).same rfl hv.symm⟩
theorem gj_K.warm {G : gj_G} {s U : State} (hW : s.WarmedH U.vm) (h : gj_K G s) : gj_K G U := by
  obtain ⟨h1, h2, h3, h4, h5, h6, h7, h8, h9, h10, h11, h12⟩ := h
  have ha : s.vm.Alike U.vm := hW.alike
  exact ⟨h1.moved ha, fun i hi => ⟨(h2 i hi).1.warm hW, (h2 i hi).2.warm hW⟩, h3.moved ha, h4.moved ha, h5.moved ha, h6.moved ha, h7, h8, h9.moved ha, h10.moved ha, h11.moved ha, fun q hq => (h12 q hq).warmM hW⟩
/-! the tables' words that any method may use -/
def gj_TB : List Cond := lw_tbl.filter goodWord
theorem gj_mem {w : Cond} (i : Nat) (h : lw_tbl[i]? = some w) (hg : goodWord w = true) : w ∈ gj_TB := List.mem_filter.mpr ⟨List.mem_of_getElem? h, hg⟩
def gj_ws (y : MethodName) (cc : ByteArray) (nL : Nat) (ret : Option FieldType) : List Cond := Cond.code y cc nL ret :: gj_TB
/-! locals -/
def gj_lk (ls : List (Nat × gj_V)) (i : Nat) : Option gj_V := match ls with
  | [] => none
  | q :: r => if q.1 = i then some q.2 else gj_lk r i
def gj_two : gj_V → Bool
  | .inr (.inl _) => true
  | _ => false
def gj_s1 (ls : List (Nat × gj_V)) (i : Nat) (v : gj_V) : List (Nat × gj_V) := (i, v) :: ls.filter (fun q => !(q.1 == i) && !(q.1 + 1 == i && gj_two q.2))
def gj_s2 (ls : List (Nat × gj_V)) (i : Nat) (v : gj_V) : List (Nat × gj_V) := (i, v) :: ls.filter (fun q => !(q.1 == i) && (!(q.1 == i + 1) && !(q.1 + 1 == i && gj_two q.2)))
def gj_lv (G : gj_G) (ls : List (Nat × gj_V)) : List (Nat × Value) := ls.map (fun q => (q.1, gj_v G q.2))
theorem gj_cat (G : gj_G) (v : gj_V) : ((gj_v G v).category == 2) = gj_two v := by
  rcases v with x | x | x
  · rfl
  · rfl
  · show ((gj_rv G x).category == 2) = false
    unfold gj_rv gj_ro
    split <;> rfl
theorem gj_cat1 (G : gj_G) {v : gj_V} (h : gj_two v = false) : (gj_v G v).category = 1 := by
  have h1 := gj_cat G v
  rw [h] at h1
  rcases lv_cat (gj_v G v) with q | q
  · exact q
  · rw [q] at h1; cases h1
theorem gj_lk_mem {ls : List (Nat × gj_V)} {i : Nat} {v : gj_V} (h : gj_lk ls i = some v) : (i, v) ∈ ls := by
  induction ls with
  | nil => cases h
  | cons q r ih =>
    obtain ⟨a, b⟩ := q
    unfold gj_lk at h
    by_cases e : a = i
    · rw [if_pos e] at h
      cases h
      subst e
      exact List.mem_cons_self
    · rw [if_neg e] at h
      exact List.mem_cons_of_mem _ (ih h)
theorem gj_lk_at {G : gj_G} {ls : List (Nat × gj_V)} {lsm : Array Slot} {nL i : Nat} {v : gj_V} (h : lv_has lsm nL (gj_lv G ls)) (hv : gj_lk ls i = some v) : lsm[i]? = some (.val (gj_v G v)) := by
  have h1 := gj_lk_mem hv
  exact h.2.2 (i, gj_v G v) (List.mem_map.mpr ⟨(i, v), h1, rfl⟩)
theorem gj_lv_s1 (G : gj_G) (ls : List (Nat × gj_V)) (i : Nat) (v : gj_V) : (i, gj_v G v) :: (gj_lv G ls).filter (fun q => !(q.1 == i) && !(q.1 + 1 == i && q.2.category == 2)) = gj_lv G (gj_s1 ls i v) := by
  unfold gj_lv gj_s1
  rw [List.map_cons, List.filter_map]
  congr 2
  refine List.filter_congr fun q _ => ?_
  show (!(q.1 == i) && !(q.1 + 1 == i && (gj_v G q.2).category == 2)) = _
  rw [gj_cat]
theorem gj_lv_s2 (G : gj_G) (ls : List (Nat × gj_V)) (i : Nat) (v : gj_V) : (i, gj_v G v) :: (gj_lv G ls).filter (fun q => !(q.1 == i) && (!(q.1 == i + 1) && !(q.1 + 1 == i && q.2.category == 2))) = gj_lv G (gj_s2 ls i v) := by
  unfold gj_lv gj_s2
  rw [List.map_cons, List.filter_map]
  congr 2
  refine List.filter_congr fun q _ => ?_
  show (!(q.1 == i) && (!(q.1 == i + 1) && !(q.1 + 1 == i && (gj_v G q.2).category == 2))) = _
  rw [gj_cat]
def gj_oks (ls : List (Nat × gj_V)) (st : List gj_V) : Prop := (∀ q ∈ ls, gj_okv q.2) ∧ ∀ v ∈ st, gj_okv v
theorem gj_oks.s1 {ls : List (Nat × gj_V)} {st st' : List gj_V} {i : Nat} {v : gj_V} (h : gj_oks ls st) (hv : gj_okv v) (h2 : ∀ w ∈ st', w ∈ st) : gj_oks (gj_s1 ls i v) st' := by
  refine ⟨fun q hq => ?_, fun w hw => h.2 w (h2 w hw)⟩
  rcases List.mem_cons.mp hq with rfl | hq
  · exact hv
  · exact h.1 q (List.mem_filter.mp hq).1
theorem gj_oks.s2 {ls : List (Nat × gj_V)} {st st' : List gj_V} {i : Nat} {v : gj_V} (h : gj_oks ls st) (hv : gj_okv v) (h2 : ∀ w ∈ st', w ∈ st) : gj_oks (gj_s2 ls i v) st' := by
  refine ⟨fun q hq => ?_, fun w hw => h.2 w (h2 w hw)⟩
  rcases List.mem_cons.mp hq with rfl | hq
  · exact hv
  · exact h.1 q (List.mem_filter.mp hq).1
theorem gj_oks.lk {ls : List (Nat × gj_V)} {st : List gj_V} {i : Nat} {v : gj_V} (h : gj_oks ls st) (hv : gj_lk ls i = some v) : gj_okv v := h.1 (i, v) (gj_lk_mem hv)
theorem gj_oks.push {ls : List (Nat × gj_V)} {st st' : List gj_V} {v : gj_V} (h : gj_oks ls st) (hv : gj_okv v) (h2 : ∀ w ∈ st', w ∈ st) : gj_oks ls (v :: st') := by
  refine ⟨h.1, fun w hw => ?_⟩
  rcases List.mem_cons.mp hw with rfl | hw
  · exact hv
  · exact h.2 w (h2 w hw)
/-! the judgement -/
/-- how a method may end: the instruction at pc, the value that it gives -/
def gj_rt (cc : ByteArray) (pc : Nat) (ret : Option FieldType) : Option gj_V → Prop
  | none => decode cc pc = .ok (.return_, 1) ∧ ret = none
  | some (.inl x) => decode cc pc = .ok (.ireturn, 1) ∧ ∃ ty, ret = some ty ∧ narrow ty (.int (Int32.ofInt x)) = .int (Int32.ofInt x)
  | some (.inr (.inl _)) => decode cc pc = .ok (.lreturn, 1) ∧ ret = some .long
  | some (.inr (.inr _)) => decode cc pc = .ok (.areturn, 1) ∧ ∃ nm, ret = some (.object nm)
def gj_cx (G : gj_G) (d mc ms : Nat) (y : MethodName) (cc : ByteArray) (nL : Nat) (ret : Option FieldType) (p : Program) (R : Room) (s : State) (m : MethodId) (args : Array Value) (meth : Method) (c : Code) : Prop :=
  p.tables.exec = Jvm.exec ∧ c.code = cc ∧ meth.sig.returnType = ret ∧ c.maxLocals = nL ∧ s.vm.findClass y.cls = some m.cls ∧ (∀ w ∈ gj_TB, w.before args s = true) ∧ meth.locks = false ∧ gj_K G s ∧ d ≤ R.frames ∧ 64 * d ≤ R.locals ∧ R.cells = mc ∧ R.slots = ms ∧ (y.name = "<init>" → meth.name = y.name)
def gj_fin (G : gj_G) (mc ms : Nat) (cc : ByteArray) (ret : Option FieldType) (Q : Option gj_V → gj_S → gj_M → Prop) (p : Program) (l : Launch) (e : Env) (R : Room) (s : State) (m : MethodId) (args : Array Value) (below : List Frame) (meth : Method) (c : Code) (Z : State → Prop) : Prop :=
  ∀ (H : Heap) (locs : List Loc) (k n pc : Nat) (lsm : Array Slot) (v : Option gj_V) (S : gj_S) (M : gj_M), Q v S M → gj_R G S M H → (∀ q ∈ locs, gj_base G ≤ q.base) → k ≤ mc → n ≤ ms → (∀ x, v = some x → gj_okv x) → gj_rt cc pc ret v →
    W p l e R s m args below meth c H locs k n Z (F0 m pc lsm ((v.map (gj_v G)).toList))
def gj_W (G : gj_G) (l : Launch) (d mc ms : Nat) (y : MethodName) (cc : ByteArray) (nL : Nat) (ret : Option FieldType) (Q : Option gj_V → gj_S → gj_M → Prop) (k n pc : Nat) (ls : List (Nat × gj_V)) (st : List gj_V) (S : gj_S) (M : gj_M) : Prop :=
  ∀ (p : Program) (e : Env) (R : Room) (s : State) (m : MethodId) (args : Array Value) (below : List Frame) (meth : Method) (c : Code) (H : Heap) (locs : List Loc) (lsm : Array Slot) (Z : State → Prop),
    gj_cx G d mc ms y cc nL ret p R s m args meth c → gj_fin G mc ms cc ret Q p l e R s m args below meth c Z → gj_R G S M H → (∀ q ∈ locs, gj_base G ≤ q.base) → lv_has lsm nL (gj_lv G ls) → gj_oks ls st → k ≤ mc → n ≤ ms →
    W p l e R s m args below meth c H locs k n Z (F0 m pc lsm (st.map (gj_v G)))
def gj_Pc (G : gj_G) (av : List gj_V) (S : gj_S) (M : gj_M) : Array Value → State → Prop := fun a U => a = (av.map (gj_v G)).toArray ∧ gj_K G U ∧ gj_R G S M U.heap ∧ ∀ v ∈ av, gj_okv v
def gj_Qc (G : gj_G) (Q : Option gj_V → gj_S → gj_M → Prop) : Array Value → State → Outcome → State → Prop := fun _ _ o t => ∃ (r : Option gj_V) (S : gj_S) (M : gj_M), o = .returned (r.map (gj_v G)) ∧ Q r S M ∧ gj_R G S M t.heap ∧ ∀ v, r = some v → gj_okv v
/-- a method's contract: from this heap it ends, with Q -/
def gj_C (G : gj_G) (l : Launch) (d mc ms : Nat) (y : MethodName) (cc : ByteArray) (nL : Nat) (ret : Option FieldType) (av : List gj_V) (S : gj_S) (M : gj_M) (Q : Option gj_V → gj_S → gj_M → Prop) : Prop :=
  Met l y (gj_ws y cc nL ret) { frames := d, cells := mc, slots := ms, locals := 64 * d } (gj_Pc G av S M) (gj_Qc G Q) mc ms (fun q => gj_base G ≤ q)
def gj_ar : Nat → List gj_V → List (Nat × gj_V)
  | _, [] => []
  | i, v :: vs => (i, v) :: gj_ar (if gj_two v = true then i + 2 else i + 1) vs
theorem gj_ar_lv (G : gj_G) : ∀ (i : Nat) (av : List gj_V), lv_args i (av.map (gj_v G)) = gj_lv G (gj_ar i av)
  | _, [] => rfl
  | i, v :: vs => by
    show (i, gj_v G v) :: lv_args (if (gj_v G v).category = 2 then i + 2 else i + 1) (vs.map (gj_v G)) = (i, gj_v G v) :: gj_lv G (gj_ar (if gj_two v = true then i + 2 else i + 1) vs)
    rw [← gj_cat G v]
    by_cases h : (gj_v G v).category = 2
    · rw [if_pos h, if_pos (by rw [h]; rfl), gj_ar_lv G]
    · rw [if_neg h, if_neg (by simpa using h), gj_ar_lv G]
theorem gj_ar_ok : ∀ (i : Nat) (av : List gj_V), (∀ v ∈ av, gj_okv v) → ∀ q ∈ gj_ar i av, gj_okv q.2
  | _, [], _ => fun q hq => by cases hq
  | i, v :: vs, h => fun q hq => by
    rcases List.mem_cons.mp hq with rfl | hq
    · exact h v List.mem_cons_self
    · exact gj_ar_ok _ vs (fun w hw => h w (List.mem_cons_of_mem _ hw)) q hq
set_option maxHeartbeats 1000000 in
theorem gj_C.of {G : gj_G} {l : Launch} {d mc ms : Nat} {y : MethodName} {cc : ByteArray} {nL : Nat} {ret : Option FieldType} {av : List gj_V} {S : gj_S} {M : gj_M} {Q : Option gj_V → gj_S → gj_M → Prop}
    (hy : plainName y.cls = true) (hn : ∀ G, (lg_sl (av.map (gj_v G))).length ≤ nL) (hW : gj_W G l d mc ms y cc nL ret Q 0 0 0 (gj_ar 0 av) [] S M) : gj_C G l d mc ms y cc nL ret av S M Q := by
  refine Met.ofW (cc := cc) (maxL := nL) (ret := ret) hy rfl ?_
  intro p e s m args below meth c s₁ B hml hv
  obtain ⟨rfl, hK, hR, hok⟩ := hv
  have hts := atoms_spec (ws := gj_ws y cc nL ret) B.pre
  have hown : s.vm.findClass y.cls = some m.cls := findClass_of_methodNamed B.named
  have hl := lv_entry (av.map (gj_v G)) (n := nL) (hn G)
  rw [lg_entry_eq]
  rw [gj_ar_lv] at hl
  refine hW p e _ s m _ below meth c s.heap [] _ _ ⟨B.exec, B.bytes, B.returns, hml, hown, fun w h => hts w (List.mem_cons_of_mem _ h), B.notSynchronized, hK, Nat.le_refl _, Nat.le_refl _, rfl, rfl, fun _ => (name_of_methodNamed B.named B.method).1⟩ ?_ hR (fun q hq => by cases hq) hl ⟨gj_ar_ok 0 av hok, fun v hv => by cases hv⟩ (Nat.zero_le _) (Nat.zero_le _)
  intro H locs k n pc lsm v S' M' hq hR' hloc hk hn' hvo hrt
  refine W.widen hk hn' ?_
  have hlocks := B.notSynchronized
  have fin : ∀ t : State, t.heap = H → s.WarmedH t.vm → gj_Qc G Q (av.map (gj_v G)).toArray s (.returned (v.map (gj_v G))) t := fun t ht _ => ⟨v, S', M', rfl, hq, by rw [ht]; exact hR', hvo⟩
  rcases v with _ | v
  · obtain ⟨h1, h2⟩ := hrt
    exact W.vret B.exec B.bytes (by rw [B.returns]; exact h2) fin hloc h1 hlocks
  · rcases v with x | x | x
    · obtain ⟨h1, ty, h2, h3⟩ := hrt
      exact W.zret B.exec B.bytes (by rw [B.returns]; exact h2) h3 fin hloc h1 hlocks
    · obtain ⟨h1, h2⟩ := hrt
      exact W.lret B.exec B.bytes (by rw [B.returns]; exact h2) fin hloc h1 hlocks
    · obtain ⟨h1, nm, h2⟩ := hrt
      refine W.aret B.exec B.bytes (by rw [B.returns]; exact h2) (Or.inl ⟨nm, rfl⟩) ?_ fin hloc h1 hlocks
      show gj_rv G x = .null ∨ ∃ a, gj_rv G x = .ref a
      unfold gj_rv gj_ro
      split
      · exact Or.inl rfl
      · exact Or.inr ⟨_, rfl⟩
