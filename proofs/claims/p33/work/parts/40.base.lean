/-! PURE: loops, ranges, powers -/
theorem gj_chkp {c : Prop} [Decidable c] {A : Type} {x : Option A} (h : c) : gj_chk c x = x := if_pos h
theorem gj_it_s {T : Type} (z : T) (B : T → T) (n : Nat) : gj_it z B (n + 1) = B (gj_it z B n) := rfl
theorem f_at_in {M : gj_M} {z n i : Int} (h : 0 ≤ i ∧ i < n) : f_at M z n i = M z i := if_pos h
theorem f_at_out {M : gj_M} {z n i : Int} (h : ¬ (0 ≤ i ∧ i < n)) : f_at M z n i = 0 := if_neg h
theorem f_put_in {M : gj_M} {z n i v : Int} (h : 0 ≤ i ∧ i < n) : f_put M z n i v = gj_up M z i v := if_pos h
theorem gj_up_eq {M : gj_M} {z i v : Int} : gj_up M z i v z i = v := if_pos ⟨rfl, rfl⟩
theorem gj_up_z {M : gj_M} {z i v a b : Int} (h : a ≠ z) : gj_up M z i v a b = M a b := if_neg (fun q => h q.1)
theorem gj_up_i {M : gj_M} {z i v a b : Int} (h : b ≠ i) : gj_up M z i v a b = M a b := if_neg (fun q => h q.2)
theorem gj_up_if {M : gj_M} {z i v b : Int} : gj_up M z i v z b = if b = i then v else M z b := by
  unfold gj_up
  by_cases h : b = i
  · rw [if_pos ⟨rfl, h⟩, if_pos h]
  · rw [if_neg (fun q => h q.2), if_neg h]
theorem f_fill_in {M : gj_M} {z n v b : Int} (h : 0 ≤ b ∧ b < n) : f_fill M z n v z b = v := if_pos ⟨rfl, h⟩
theorem f_fill_z {M : gj_M} {z n v a b : Int} (h : a ≠ z) : f_fill M z n v a b = M a b := if_neg (fun q => h q.1)
theorem f_copy_in {M : gj_M} {z n w m b : Int} (h : 0 ≤ b ∧ b < m ∧ b < n) : f_copy M z n w m w b = M z b := if_pos ⟨rfl, h⟩
theorem f_copy_z {M : gj_M} {z n w m a b : Int} (h : a ≠ w) : f_copy M z n w m a b = M a b := if_neg (fun q => h q.1)
theorem g_mul {a b A B : Int} (ha : 0 ≤ a ∧ a ≤ A) (hb : 0 ≤ b ∧ b ≤ B) : 0 ≤ a * b ∧ a * b ≤ A * B := ⟨Int.mul_nonneg ha.1 hb.1, Int.mul_le_mul ha.2 hb.2 hb.1 (by omega)⟩
theorem g_tdiv {a b : Int} (h : 0 ≤ a) : a.tdiv b = a / b := Int.tdiv_eq_ediv_of_nonneg h
theorem g_tmod {a b : Int} (h : 0 ≤ a) : a.tmod b = a % b := Int.tmod_eq_emod_of_nonneg h
theorem gj_lpM1 {R : Type} {B : (Int → gj_M → Option R) → Int → gj_M → Option R} (P : Option R → Prop) (inv : Int → gj_M → Prop) (mu : Int → Nat) (h : ∀ (rec : Int → gj_M → Option R) (x0 : Int) (M : gj_M), inv x0 M → (∃ (y0 : Int) (N : gj_M), B rec x0 M = rec y0 N ∧ inv y0 N ∧ mu y0 < mu x0) ∨ P (B rec x0 M)) : ∀ (n : Nat) (x0 : Int) (M : gj_M), inv x0 M → mu x0 < n → P (gj_it (fun _ _ => none) B n x0 M)
  | 0, x0, M, _, hn => absurd hn (Nat.not_lt_zero _)
  | n + 1, x0, M, hi, hn => by
    rw [gj_it_s]
    rcases h (gj_it _ B n) x0 M hi with ⟨y0, N, e, hi', hm⟩ | h1
    · rw [e]
      exact gj_lpM1 P inv mu h n y0 N hi' (by omega)
    · exact h1
theorem gj_lpQ1 {R : Type} {B : (Int → Option R) → Int → Option R} (P : Option R → Prop) (inv : Int → Prop) (mu : Int → Nat) (h : ∀ (rec : Int → Option R) (x0 : Int), inv x0 → (∃ (y0 : Int), B rec x0 = rec y0 ∧ inv y0 ∧ mu y0 < mu x0) ∨ P (B rec x0)) : ∀ (n : Nat) (x0 : Int), inv x0 → mu x0 < n → P (gj_it (fun _ => none) B n x0)
  | 0, x0, _, hn => absurd hn (Nat.not_lt_zero _)
  | n + 1, x0, hi, hn => by
    rw [gj_it_s]
    rcases h (gj_it _ B n) x0 hi with ⟨y0, e, hi', hm⟩ | h1
    · rw [e]
      exact gj_lpQ1 P inv mu h n y0 hi' (by omega)
    · exact h1
theorem gj_lpM2 {R : Type} {B : (Int → Int → gj_M → Option R) → Int → Int → gj_M → Option R} (P : Option R → Prop) (inv : Int → Int → gj_M → Prop) (mu : Int → Int → Nat) (h : ∀ (rec : Int → Int → gj_M → Option R) (x0 x1 : Int) (M : gj_M), inv x0 x1 M → (∃ (y0 y1 : Int) (N : gj_M), B rec x0 x1 M = rec y0 y1 N ∧ inv y0 y1 N ∧ mu y0 y1 < mu x0 x1) ∨ P (B rec x0 x1 M)) : ∀ (n : Nat) (x0 x1 : Int) (M : gj_M), inv x0 x1 M → mu x0 x1 < n → P (gj_it (fun _ _ _ => none) B n x0 x1 M)
  | 0, x0, x1, M, _, hn => absurd hn (Nat.not_lt_zero _)
  | n + 1, x0, x1, M, hi, hn => by
    rw [gj_it_s]
    rcases h (gj_it _ B n) x0 x1 M hi with ⟨y0, y1, N, e, hi', hm⟩ | h1
    · rw [e]
      exact gj_lpM2 P inv mu h n y0 y1 N hi' (by omega)
    · exact h1
theorem gj_lpQ2 {R : Type} {B : (Int → Int → Option R) → Int → Int → Option R} (P : Option R → Prop) (inv : Int → Int → Prop) (mu : Int → Int → Nat) (h : ∀ (rec : Int → Int → Option R) (x0 x1 : Int), inv x0 x1 → (∃ (y0 y1 : Int), B rec x0 x1 = rec y0 y1 ∧ inv y0 y1 ∧ mu y0 y1 < mu x0 x1) ∨ P (B rec x0 x1)) : ∀ (n : Nat) (x0 x1 : Int), inv x0 x1 → mu x0 x1 < n → P (gj_it (fun _ _ => none) B n x0 x1)
  | 0, x0, x1, _, hn => absurd hn (Nat.not_lt_zero _)
  | n + 1, x0, x1, hi, hn => by
    rw [gj_it_s]
    rcases h (gj_it _ B n) x0 x1 hi with ⟨y0, y1, e, hi', hm⟩ | h1
    · rw [e]
      exact gj_lpQ2 P inv mu h n y0 y1 hi' (by omega)
    · exact h1
theorem gj_lpM3 {R : Type} {B : (Int → Int → Int → gj_M → Option R) → Int → Int → Int → gj_M → Option R} (P : Option R → Prop) (inv : Int → Int → Int → gj_M → Prop) (mu : Int → Int → Int → Nat) (h : ∀ (rec : Int → Int → Int → gj_M → Option R) (x0 x1 x2 : Int) (M : gj_M), inv x0 x1 x2 M → (∃ (y0 y1 y2 : Int) (N : gj_M), B rec x0 x1 x2 M = rec y0 y1 y2 N ∧ inv y0 y1 y2 N ∧ mu y0 y1 y2 < mu x0 x1 x2) ∨ P (B rec x0 x1 x2 M)) : ∀ (n : Nat) (x0 x1 x2 : Int) (M : gj_M), inv x0 x1 x2 M → mu x0 x1 x2 < n → P (gj_it (fun _ _ _ _ => none) B n x0 x1 x2 M)
  | 0, x0, x1, x2, M, _, hn => absurd hn (Nat.not_lt_zero _)
  | n + 1, x0, x1, x2, M, hi, hn => by
    rw [gj_it_s]
    rcases h (gj_it _ B n) x0 x1 x2 M hi with ⟨y0, y1, y2, N, e, hi', hm⟩ | h1
    · rw [e]
      exact gj_lpM3 P inv mu h n y0 y1 y2 N hi' (by omega)
    · exact h1
theorem gj_lpQ3 {R : Type} {B : (Int → Int → Int → Option R) → Int → Int → Int → Option R} (P : Option R → Prop) (inv : Int → Int → Int → Prop) (mu : Int → Int → Int → Nat) (h : ∀ (rec : Int → Int → Int → Option R) (x0 x1 x2 : Int), inv x0 x1 x2 → (∃ (y0 y1 y2 : Int), B rec x0 x1 x2 = rec y0 y1 y2 ∧ inv y0 y1 y2 ∧ mu y0 y1 y2 < mu x0 x1 x2) ∨ P (B rec x0 x1 x2)) : ∀ (n : Nat) (x0 x1 x2 : Int), inv x0 x1 x2 → mu x0 x1 x2 < n → P (gj_it (fun _ _ _ => none) B n x0 x1 x2)
  | 0, x0, x1, x2, _, hn => absurd hn (Nat.not_lt_zero _)
  | n + 1, x0, x1, x2, hi, hn => by
    rw [gj_it_s]
    rcases h (gj_it _ B n) x0 x1 x2 hi with ⟨y0, y1, y2, e, hi', hm⟩ | h1
    · rw [e]
      exact gj_lpQ3 P inv mu h n y0 y1 y2 hi' (by omega)
    · exact h1
theorem gj_lpM4 {R : Type} {B : (Int → Int → Int → Int → gj_M → Option R) → Int → Int → Int → Int → gj_M → Option R} (P : Option R → Prop) (inv : Int → Int → Int → Int → gj_M → Prop) (mu : Int → Int → Int → Int → Nat) (h : ∀ (rec : Int → Int → Int → Int → gj_M → Option R) (x0 x1 x2 x3 : Int) (M : gj_M), inv x0 x1 x2 x3 M → (∃ (y0 y1 y2 y3 : Int) (N : gj_M), B rec x0 x1 x2 x3 M = rec y0 y1 y2 y3 N ∧ inv y0 y1 y2 y3 N ∧ mu y0 y1 y2 y3 < mu x0 x1 x2 x3) ∨ P (B rec x0 x1 x2 x3 M)) : ∀ (n : Nat) (x0 x1 x2 x3 : Int) (M : gj_M), inv x0 x1 x2 x3 M → mu x0 x1 x2 x3 < n → P (gj_it (fun _ _ _ _ _ => none) B n x0 x1 x2 x3 M)
  | 0, x0, x1, x2, x3, M, _, hn => absurd hn (Nat.not_lt_zero _)
  | n + 1, x0, x1, x2, x3, M, hi, hn => by
    rw [gj_it_s]
    rcases h (gj_it _ B n) x0 x1 x2 x3 M hi with ⟨y0, y1, y2, y3, N, e, hi', hm⟩ | h1
    · rw [e]
      exact gj_lpM4 P inv mu h n y0 y1 y2 y3 N hi' (by omega)
    · exact h1
theorem gj_lpQ4 {R : Type} {B : (Int → Int → Int → Int → Option R) → Int → Int → Int → Int → Option R} (P : Option R → Prop) (inv : Int → Int → Int → Int → Prop) (mu : Int → Int → Int → Int → Nat) (h : ∀ (rec : Int → Int → Int → Int → Option R) (x0 x1 x2 x3 : Int), inv x0 x1 x2 x3 → (∃ (y0 y1 y2 y3 : Int), B rec x0 x1 x2 x3 = rec y0 y1 y2 y3 ∧ inv y0 y1 y2 y3 ∧ mu y0 y1 y2 y3 < mu x0 x1 x2 x3) ∨ P (B rec x0 x1 x2 x3)) : ∀ (n : Nat) (x0 x1 x2 x3 : Int), inv x0 x1 x2 x3 → mu x0 x1 x2 x3 < n → P (gj_it (fun _ _ _ _ => none) B n x0 x1 x2 x3)
  | 0, x0, x1, x2, x3, _, hn => absurd hn (Nat.not_lt_zero _)
  | n + 1, x0, x1, x2, x3, hi, hn => by
    rw [gj_it_s]
    rcases h (gj_it _ B n) x0 x1 x2 x3 hi with ⟨y0, y1, y2, y3, e, hi', hm⟩ | h1
    · rw [e]
      exact gj_lpQ4 P inv mu h n y0 y1 y2 y3 hi' (by omega)
    · exact h1
theorem gj_lpM5 {R : Type} {B : (Int → Int → Int → Int → Int → gj_M → Option R) → Int → Int → Int → Int → Int → gj_M → Option R} (P : Option R → Prop) (inv : Int → Int → Int → Int → Int → gj_M → Prop) (mu : Int → Int → Int → Int → Int → Nat) (h : ∀ (rec : Int → Int → Int → Int → Int → gj_M → Option R) (x0 x1 x2 x3 x4 : Int) (M : gj_M), inv x0 x1 x2 x3 x4 M → (∃ (y0 y1 y2 y3 y4 : Int) (N : gj_M), B rec x0 x1 x2 x3 x4 M = rec y0 y1 y2 y3 y4 N ∧ inv y0 y1 y2 y3 y4 N ∧ mu y0 y1 y2 y3 y4 < mu x0 x1 x2 x3 x4) ∨ P (B rec x0 x1 x2 x3 x4 M)) : ∀ (n : Nat) (x0 x1 x2 x3 x4 : Int) (M : gj_M), inv x0 x1 x2 x3 x4 M → mu x0 x1 x2 x3 x4 < n → P (gj_it (fun _ _ _ _ _ _ => none) B n x0 x1 x2 x3 x4 M)
  | 0, x0, x1, x2, x3, x4, M, _, hn => absurd hn (Nat.not_lt_zero _)
  | n + 1, x0, x1, x2, x3, x4, M, hi, hn => by
    rw [gj_it_s]
    rcases h (gj_it _ B n) x0 x1 x2 x3 x4 M hi with ⟨y0, y1, y2, y3, y4, N, e, hi', hm⟩ | h1
    · rw [e]
      exact gj_lpM5 P inv mu h n y0 y1 y2 y3 y4 N hi' (by omega)
    · exact h1
theorem gj_lpQ5 {R : Type} {B : (Int → Int → Int → Int → Int → Option R) → Int → Int → Int → Int → Int → Option R} (P : Option R → Prop) (inv : Int → Int → Int → Int → Int → Prop) (mu : Int → Int → Int → Int → Int → Nat) (h : ∀ (rec : Int → Int → Int → Int → Int → Option R) (x0 x1 x2 x3 x4 : Int), inv x0 x1 x2 x3 x4 → (∃ (y0 y1 y2 y3 y4 : Int), B rec x0 x1 x2 x3 x4 = rec y0 y1 y2 y3 y4 ∧ inv y0 y1 y2 y3 y4 ∧ mu y0 y1 y2 y3 y4 < mu x0 x1 x2 x3 x4) ∨ P (B rec x0 x1 x2 x3 x4)) : ∀ (n : Nat) (x0 x1 x2 x3 x4 : Int), inv x0 x1 x2 x3 x4 → mu x0 x1 x2 x3 x4 < n → P (gj_it (fun _ _ _ _ _ => none) B n x0 x1 x2 x3 x4)
  | 0, x0, x1, x2, x3, x4, _, hn => absurd hn (Nat.not_lt_zero _)
  | n + 1, x0, x1, x2, x3, x4, hi, hn => by
    rw [gj_it_s]
    rcases h (gj_it _ B n) x0 x1 x2 x3 x4 hi with ⟨y0, y1, y2, y3, y4, e, hi', hm⟩ | h1
    · rw [e]
      exact gj_lpQ5 P inv mu h n y0 y1 y2 y3 y4 hi' (by omega)
    · exact h1
theorem gj_lpM6 {R : Type} {B : (Int → Int → Int → Int → Int → Int → gj_M → Option R) → Int → Int → Int → Int → Int → Int → gj_M → Option R} (P : Option R → Prop) (inv : Int → Int → Int → Int → Int → Int → gj_M → Prop) (mu : Int → Int → Int → Int → Int → Int → Nat) (h : ∀ (rec : Int → Int → Int → Int → Int → Int → gj_M → Option R) (x0 x1 x2 x3 x4 x5 : Int) (M : gj_M), inv x0 x1 x2 x3 x4 x5 M → (∃ (y0 y1 y2 y3 y4 y5 : Int) (N : gj_M), B rec x0 x1 x2 x3 x4 x5 M = rec y0 y1 y2 y3 y4 y5 N ∧ inv y0 y1 y2 y3 y4 y5 N ∧ mu y0 y1 y2 y3 y4 y5 < mu x0 x1 x2 x3 x4 x5) ∨ P (B rec x0 x1 x2 x3 x4 x5 M)) : ∀ (n : Nat) (x0 x1 x2 x3 x4 x5 : Int) (M : gj_M), inv x0 x1 x2 x3 x4 x5 M → mu x0 x1 x2 x3 x4 x5 < n → P (gj_it (fun _ _ _ _ _ _ _ => none) B n x0 x1 x2 x3 x4 x5 M)
  | 0, x0, x1, x2, x3, x4, x5, M, _, hn => absurd hn (Nat.not_lt_zero _)
  | n + 1, x0, x1, x2, x3, x4, x5, M, hi, hn => by
    rw [gj_it_s]
    rcases h (gj_it _ B n) x0 x1 x2 x3 x4 x5 M hi with ⟨y0, y1, y2, y3, y4, y5, N, e, hi', hm⟩ | h1
    · rw [e]
      exact gj_lpM6 P inv mu h n y0 y1 y2 y3 y4 y5 N hi' (by omega)
    · exact h1
theorem gj_lpQ6 {R : Type} {B : (Int → Int → Int → Int → Int → Int → Option R) → Int → Int → Int → Int → Int → Int → Option R} (P : Option R → Prop) (inv : Int → Int → Int → Int → Int → Int → Prop) (mu : Int → Int → Int → Int → Int → Int → Nat) (h : ∀ (rec : Int → Int → Int → Int → Int → Int → Option R) (x0 x1 x2 x3 x4 x5 : Int), inv x0 x1 x2 x3 x4 x5 → (∃ (y0 y1 y2 y3 y4 y5 : Int), B rec x0 x1 x2 x3 x4 x5 = rec y0 y1 y2 y3 y4 y5 ∧ inv y0 y1 y2 y3 y4 y5 ∧ mu y0 y1 y2 y3 y4 y5 < mu x0 x1 x2 x3 x4 x5) ∨ P (B rec x0 x1 x2 x3 x4 x5)) : ∀ (n : Nat) (x0 x1 x2 x3 x4 x5 : Int), inv x0 x1 x2 x3 x4 x5 → mu x0 x1 x2 x3 x4 x5 < n → P (gj_it (fun _ _ _ _ _ _ => none) B n x0 x1 x2 x3 x4 x5)
  | 0, x0, x1, x2, x3, x4, x5, _, hn => absurd hn (Nat.not_lt_zero _)
  | n + 1, x0, x1, x2, x3, x4, x5, hi, hn => by
    rw [gj_it_s]
    rcases h (gj_it _ B n) x0 x1 x2 x3 x4 x5 hi with ⟨y0, y1, y2, y3, y4, y5, e, hi', hm⟩ | h1
    · rw [e]
      exact gj_lpQ6 P inv mu h n y0 y1 y2 y3 y4 y5 hi' (by omega)
    · exact h1
theorem gj_lpM7 {R : Type} {B : (Int → Int → Int → Int → Int → Int → Int → gj_M → Option R) → Int → Int → Int → Int → Int → Int → Int → gj_M → Option R} (P : Option R → Prop) (inv : Int → Int → Int → Int → Int → Int → Int → gj_M → Prop) (mu : Int → Int → Int → Int → Int → Int → Int → Nat) (h : ∀ (rec : Int → Int → Int → Int → Int → Int → Int → gj_M → Option R) (x0 x1 x2 x3 x4 x5 x6 : Int) (M : gj_M), inv x0 x1 x2 x3 x4 x5 x6 M → (∃ (y0 y1 y2 y3 y4 y5 y6 : Int) (N : gj_M), B rec x0 x1 x2 x3 x4 x5 x6 M = rec y0 y1 y2 y3 y4 y5 y6 N ∧ inv y0 y1 y2 y3 y4 y5 y6 N ∧ mu y0 y1 y2 y3 y4 y5 y6 < mu x0 x1 x2 x3 x4 x5 x6) ∨ P (B rec x0 x1 x2 x3 x4 x5 x6 M)) : ∀ (n : Nat) (x0 x1 x2 x3 x4 x5 x6 : Int) (M : gj_M), inv x0 x1 x2 x3 x4 x5 x6 M → mu x0 x1 x2 x3 x4 x5 x6 < n → P (gj_it (fun _ _ _ _ _ _ _ _ => none) B n x0 x1 x2 x3 x4 x5 x6 M)
  | 0, x0, x1, x2, x3, x4, x5, x6, M, _, hn => absurd hn (Nat.not_lt_zero _)
  | n + 1, x0, x1, x2, x3, x4, x5, x6, M, hi, hn => by
    rw [gj_it_s]
    rcases h (gj_it _ B n) x0 x1 x2 x3 x4 x5 x6 M hi with ⟨y0, y1, y2, y3, y4, y5, y6, N, e, hi', hm⟩ | h1
    · rw [e]
      exact gj_lpM7 P inv mu h n y0 y1 y2 y3 y4 y5 y6 N hi' (by omega)
    · exact h1
theorem gj_lpM0 {R : Type} {B : (gj_M → Option R) → gj_M → Option R} (P : Option R → Prop) (inv : gj_M → Prop) (mu : gj_M → Nat) (h : ∀ (rec : gj_M → Option R) (M : gj_M), inv M → (∃ (N : gj_M), B rec M = rec N ∧ inv N ∧ mu N < mu M) ∨ P (B rec M)) : ∀ (n : Nat) (M : gj_M), inv M → mu M < n → P (gj_it (fun _ => none) B n M)
  | 0, M, _, hn => absurd hn (Nat.not_lt_zero _)
  | n + 1, M, hi, hn => by
    rw [gj_it_s]
    rcases h (gj_it _ B n) M hi with ⟨N, e, hi', hm⟩ | h1
    · rw [e]
      exact gj_lpM0 P inv mu h n N hi' (by omega)
    · exact h1
theorem gj_up_up {M : gj_M} {z i v w : Int} : gj_up (gj_up M z i v) z i w = gj_up M z i w := by
  funext a b
  unfold gj_up
  by_cases h : a = z ∧ b = i
  · rw [if_pos h, if_pos h]
  · rw [if_neg h, if_neg h, if_neg h]
theorem gj_up_id {M : gj_M} {z i : Int} : gj_up M z i (M z i) = M := by
  funext a b
  unfold gj_up
  by_cases h : a = z ∧ b = i
  · rw [if_pos h, h.1, h.2]
  · rw [if_neg h]
theorem gj_up_c {M : gj_M} {z i v z' i' v' : Int} (h : ¬ (z = z' ∧ i = i')) : gj_up (gj_up M z i v) z' i' v' = gj_up (gj_up M z' i' v') z i v := by
  funext a b
  unfold gj_up
  by_cases h1 : a = z' ∧ b = i'
  · rw [if_pos h1, if_neg (by omega), if_pos h1]
  · rw [if_neg h1]
    by_cases h2 : a = z ∧ b = i
    · rw [if_pos h2, if_pos h2]
    · rw [if_neg h2, if_neg h2, if_neg h1]
/-- powers -/
def g_pw (o k : Int) : Int := o ^ k.toNat
theorem g_pw_0 (o : Int) : g_pw o 0 = 1 := by
  unfold g_pw
  exact Int.pow_zero o
theorem g_pw_s {o k : Int} (h : 0 ≤ k) : g_pw o (k + 1) = g_pw o k * o := by
  unfold g_pw
  rw [show (k + 1).toNat = k.toNat + 1 by omega, Int.pow_succ]
theorem g_pw_le {o : Int} (ho : 0 ≤ o ∧ o ≤ 16) : ∀ k : Nat, 0 ≤ g_pw o k ∧ g_pw o k ≤ 16 ^ k
  | 0 => by rw [show ((0 : Nat) : Int) = 0 from rfl, g_pw_0]; decide
  | k + 1 => by
    have h := g_pw_le ho k
    rw [show ((k + 1 : Nat) : Int) = (k : Int) + 1 from rfl, g_pw_s (by omega), Int.pow_succ]
    exact g_mul h ho
theorem g_pw4 {o k : Int} (ho : 0 ≤ o ∧ o ≤ 16) (hk : 0 ≤ k ∧ k ≤ 4) : 0 ≤ g_pw o k ∧ g_pw o k ≤ 65536 := by
  have h := g_pw_le ho k.toNat
  rw [gj_pN hk.1] at h
  refine ⟨h.1, Int.le_trans h.2 ?_⟩
  have : k.toNat = 0 ∨ k.toNat = 1 ∨ k.toNat = 2 ∨ k.toNat = 3 ∨ k.toNat = 4 := by omega
  rcases this with h | h | h | h | h <;> rw [h] <;> decide
theorem p_X12_power {o n : Int} {M : gj_M} (ho : 0 ≤ o ∧ o ≤ 16) (hn : 0 ≤ n ∧ n ≤ 4) : F_X12_power o n M = some (g_pw o n) := by
  unfold F_X12_power
  refine gj_lpQ4 (fun y => y = some (g_pw o n)) (fun a b c i => o = a ∧ n = b ∧ g_pw o i = c ∧ 0 ≤ i ∧ i ≤ n) (fun _ _ _ i => (4 - i).toNat) ?_ gj_fu o n 1 0 ⟨rfl, rfl, g_pw_0 o, by omega, by omega⟩ (by decide)
  rintro rec _ _ _ i ⟨rfl, rfl, rfl, h0, h1⟩
  unfold B_X12_power_5
  by_cases h : n ≤ i
  · rw [if_pos h, show i = n by omega]
    exact Or.inr rfl
  · rw [if_neg h]
    have h2 := g_pw4 ho (k := i) (by omega)
    have h3 := g_mul h2 ho
    refine Or.inl ⟨_, _, _, i + 1, by rw [gj_wlle (by omega) (by omega), gj_wle (by omega) (by omega)], ⟨rfl, rfl, g_pw_s h0, by omega, by omega⟩, by omega⟩
theorem p_X5_oddsOf {o g p : Int} {M : gj_M} (ho : 0 ≤ o ∧ o ≤ 16) (hg : 0 ≤ g ∧ g ≤ 4) (hp : 0 ≤ p ∧ p ≤ 4) : F_X5_oddsOf o g p M = some (g_pw o g * g_pw (16 - o) p) := by
  have hg4 := g_pw4 ho hg
  have key : J_X5_oddsOf_28 M o p (g_pw o g) = some (g_pw o g * g_pw (16 - o) p) := by
    unfold J_X5_oddsOf_28
    refine gj_lpQ4 (fun y => y = some (g_pw o g * g_pw (16 - o) p)) (fun a b c i => o = a ∧ p = b ∧ g_pw o g * g_pw (16 - o) i = c ∧ 0 ≤ i ∧ i ≤ p) (fun _ _ _ i => (4 - i).toNat) ?_ gj_fu o p (g_pw o g) 0 ⟨rfl, rfl, by rw [g_pw_0, Int.mul_one], by omega, by omega⟩ (by decide)
    rintro rec _ _ _ i ⟨rfl, rfl, rfl, h0, h1⟩
    unfold B_X5_oddsOf_31
    by_cases h : p ≤ i
    · rw [if_pos h, show i = p by omega]
      exact Or.inr rfl
    · have h2 := g_pw4 (o := 16 - o) (by omega) (k := i) (by omega)
      have h3 := g_mul hg4 h2
      have h4 := g_mul h3 (a := g_pw o g * g_pw (16 - o) i) (b := 16 - o) (B := 16) (by omega)
      rw [if_neg h, if_neg (by omega)]
      refine Or.inl ⟨o, p, g_pw o g * g_pw (16 - o) i * (16 - o), i + 1, ?_, ⟨rfl, rfl, ?_, by omega, by omega⟩, by omega⟩
      · unfold gj_letI
        rw [gj_wle (x := 16 - o) (by omega) (by omega), gj_wlle (by omega) (by omega), gj_wle (by omega) (by omega)]
      · rw [g_pw_s h0, Int.mul_assoc]
  unfold F_X5_oddsOf
  refine gj_lpQ5 (fun y => y = some (g_pw o g * g_pw (16 - o) p)) (fun a b c e i => o = a ∧ g = b ∧ p = c ∧ g_pw o i = e ∧ 0 ≤ i ∧ i ≤ g) (fun _ _ _ _ i => (4 - i).toNat) ?_ gj_fu o g p 1 0 ⟨rfl, rfl, rfl, g_pw_0 o, by omega, by omega⟩ (by decide)
  rintro rec _ _ _ _ i ⟨rfl, rfl, rfl, rfl, h0, h1⟩
  unfold B_X5_oddsOf_5
  by_cases h : g ≤ i
  · rw [if_pos h, show i = g by omega]
    exact Or.inr key
  · rw [if_neg h, if_neg (by omega)]
    have h2 := g_pw4 ho (k := i) (by omega)
    have h3 := g_mul h2 ho
    refine Or.inl ⟨_, _, _, _, i + 1, by rw [gj_wlle (by omega) (by omega), gj_wle (by omega) (by omega)], ⟨rfl, rfl, rfl, g_pw_s h0, by omega, by omega⟩, by omega⟩
