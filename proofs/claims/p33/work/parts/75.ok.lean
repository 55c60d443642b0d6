/-! PURE: loops by what the continuation promises; safety of the reference -/
theorem gj_okM0 {R : Type} {B : (gj_M → Option R) → gj_M → Option R} (P : Option R → Prop) (inv : gj_M → Prop) (mu : gj_M → Nat) (h : ∀ (rec : gj_M → Option R) (M : gj_M), inv M → (∀ (N : gj_M), inv N → mu N < mu M → P (rec N)) → P (B rec M)) : ∀ (n : Nat) (M : gj_M), inv M → mu M < n → P (gj_it (fun _ => none) B n M)
  | 0, M, _, hn => absurd hn (Nat.not_lt_zero _)
  | n + 1, M, hi, hn => by
    rw [gj_it_s]
    exact h _ M hi (fun N hi' hm => gj_okM0 P inv mu h n N hi' (by omega))
theorem gj_okM1 {R : Type} {B : (Int → gj_M → Option R) → Int → gj_M → Option R} (P : Option R → Prop) (inv : Int → gj_M → Prop) (mu : Int → gj_M → Nat) (h : ∀ (rec : Int → gj_M → Option R) (x0 : Int) (M : gj_M), inv x0 M → (∀ (y0 : Int) (N : gj_M), inv y0 N → mu y0 N < mu x0 M → P (rec y0 N)) → P (B rec x0 M)) : ∀ (n : Nat) (x0 : Int) (M : gj_M), inv x0 M → mu x0 M < n → P (gj_it (fun _ _ => none) B n x0 M)
  | 0, x0, M, _, hn => absurd hn (Nat.not_lt_zero _)
  | n + 1, x0, M, hi, hn => by
    rw [gj_it_s]
    exact h _ x0 M hi (fun y0 N hi' hm => gj_okM1 P inv mu h n y0 N hi' (by omega))
theorem gj_okM2 {R : Type} {B : (Int → Int → gj_M → Option R) → Int → Int → gj_M → Option R} (P : Option R → Prop) (inv : Int → Int → gj_M → Prop) (mu : Int → Int → gj_M → Nat) (h : ∀ (rec : Int → Int → gj_M → Option R) (x0 x1 : Int) (M : gj_M), inv x0 x1 M → (∀ (y0 y1 : Int) (N : gj_M), inv y0 y1 N → mu y0 y1 N < mu x0 x1 M → P (rec y0 y1 N)) → P (B rec x0 x1 M)) : ∀ (n : Nat) (x0 x1 : Int) (M : gj_M), inv x0 x1 M → mu x0 x1 M < n → P (gj_it (fun _ _ _ => none) B n x0 x1 M)
  | 0, x0, x1, M, _, hn => absurd hn (Nat.not_lt_zero _)
  | n + 1, x0, x1, M, hi, hn => by
    rw [gj_it_s]
    exact h _ x0 x1 M hi (fun y0 y1 N hi' hm => gj_okM2 P inv mu h n y0 y1 N hi' (by omega))
theorem gj_okM3 {R : Type} {B : (Int → Int → Int → gj_M → Option R) → Int → Int → Int → gj_M → Option R} (P : Option R → Prop) (inv : Int → Int → Int → gj_M → Prop) (mu : Int → Int → Int → gj_M → Nat) (h : ∀ (rec : Int → Int → Int → gj_M → Option R) (x0 x1 x2 : Int) (M : gj_M), inv x0 x1 x2 M → (∀ (y0 y1 y2 : Int) (N : gj_M), inv y0 y1 y2 N → mu y0 y1 y2 N < mu x0 x1 x2 M → P (rec y0 y1 y2 N)) → P (B rec x0 x1 x2 M)) : ∀ (n : Nat) (x0 x1 x2 : Int) (M : gj_M), inv x0 x1 x2 M → mu x0 x1 x2 M < n → P (gj_it (fun _ _ _ _ => none) B n x0 x1 x2 M)
  | 0, x0, x1, x2, M, _, hn => absurd hn (Nat.not_lt_zero _)
  | n + 1, x0, x1, x2, M, hi, hn => by
    rw [gj_it_s]
    exact h _ x0 x1 x2 M hi (fun y0 y1 y2 N hi' hm => gj_okM3 P inv mu h n y0 y1 y2 N hi' (by omega))
theorem gj_okM4 {R : Type} {B : (Int → Int → Int → Int → gj_M → Option R) → Int → Int → Int → Int → gj_M → Option R} (P : Option R → Prop) (inv : Int → Int → Int → Int → gj_M → Prop) (mu : Int → Int → Int → Int → gj_M → Nat) (h : ∀ (rec : Int → Int → Int → Int → gj_M → Option R) (x0 x1 x2 x3 : Int) (M : gj_M), inv x0 x1 x2 x3 M → (∀ (y0 y1 y2 y3 : Int) (N : gj_M), inv y0 y1 y2 y3 N → mu y0 y1 y2 y3 N < mu x0 x1 x2 x3 M → P (rec y0 y1 y2 y3 N)) → P (B rec x0 x1 x2 x3 M)) : ∀ (n : Nat) (x0 x1 x2 x3 : Int) (M : gj_M), inv x0 x1 x2 x3 M → mu x0 x1 x2 x3 M < n → P (gj_it (fun _ _ _ _ _ => none) B n x0 x1 x2 x3 M)
  | 0, x0, x1, x2, x3, M, _, hn => absurd hn (Nat.not_lt_zero _)
  | n + 1, x0, x1, x2, x3, M, hi, hn => by
    rw [gj_it_s]
    exact h _ x0 x1 x2 x3 M hi (fun y0 y1 y2 y3 N hi' hm => gj_okM4 P inv mu h n y0 y1 y2 y3 N hi' (by omega))
theorem gj_okM5 {R : Type} {B : (Int → Int → Int → Int → Int → gj_M → Option R) → Int → Int → Int → Int → Int → gj_M → Option R} (P : Option R → Prop) (inv : Int → Int → Int → Int → Int → gj_M → Prop) (mu : Int → Int → Int → Int → Int → gj_M → Nat) (h : ∀ (rec : Int → Int → Int → Int → Int → gj_M → Option R) (x0 x1 x2 x3 x4 : Int) (M : gj_M), inv x0 x1 x2 x3 x4 M → (∀ (y0 y1 y2 y3 y4 : Int) (N : gj_M), inv y0 y1 y2 y3 y4 N → mu y0 y1 y2 y3 y4 N < mu x0 x1 x2 x3 x4 M → P (rec y0 y1 y2 y3 y4 N)) → P (B rec x0 x1 x2 x3 x4 M)) : ∀ (n : Nat) (x0 x1 x2 x3 x4 : Int) (M : gj_M), inv x0 x1 x2 x3 x4 M → mu x0 x1 x2 x3 x4 M < n → P (gj_it (fun _ _ _ _ _ _ => none) B n x0 x1 x2 x3 x4 M)
  | 0, x0, x1, x2, x3, x4, M, _, hn => absurd hn (Nat.not_lt_zero _)
  | n + 1, x0, x1, x2, x3, x4, M, hi, hn => by
    rw [gj_it_s]
    exact h _ x0 x1 x2 x3 x4 M hi (fun y0 y1 y2 y3 y4 N hi' hm => gj_okM5 P inv mu h n y0 y1 y2 y3 y4 N hi' (by omega))
theorem gj_okM6 {R : Type} {B : (Int → Int → Int → Int → Int → Int → gj_M → Option R) → Int → Int → Int → Int → Int → Int → gj_M → Option R} (P : Option R → Prop) (inv : Int → Int → Int → Int → Int → Int → gj_M → Prop) (mu : Int → Int → Int → Int → Int → Int → gj_M → Nat) (h : ∀ (rec : Int → Int → Int → Int → Int → Int → gj_M → Option R) (x0 x1 x2 x3 x4 x5 : Int) (M : gj_M), inv x0 x1 x2 x3 x4 x5 M → (∀ (y0 y1 y2 y3 y4 y5 : Int) (N : gj_M), inv y0 y1 y2 y3 y4 y5 N → mu y0 y1 y2 y3 y4 y5 N < mu x0 x1 x2 x3 x4 x5 M → P (rec y0 y1 y2 y3 y4 y5 N)) → P (B rec x0 x1 x2 x3 x4 x5 M)) : ∀ (n : Nat) (x0 x1 x2 x3 x4 x5 : Int) (M : gj_M), inv x0 x1 x2 x3 x4 x5 M → mu x0 x1 x2 x3 x4 x5 M < n → P (gj_it (fun _ _ _ _ _ _ _ => none) B n x0 x1 x2 x3 x4 x5 M)
  | 0, x0, x1, x2, x3, x4, x5, M, _, hn => absurd hn (Nat.not_lt_zero _)
  | n + 1, x0, x1, x2, x3, x4, x5, M, hi, hn => by
    rw [gj_it_s]
    exact h _ x0 x1 x2 x3 x4 x5 M hi (fun y0 y1 y2 y3 y4 y5 N hi' hm => gj_okM6 P inv mu h n y0 y1 y2 y3 y4 y5 N hi' (by omega))
theorem gj_okM7 {R : Type} {B : (Int → Int → Int → Int → Int → Int → Int → gj_M → Option R) → Int → Int → Int → Int → Int → Int → Int → gj_M → Option R} (P : Option R → Prop) (inv : Int → Int → Int → Int → Int → Int → Int → gj_M → Prop) (mu : Int → Int → Int → Int → Int → Int → Int → gj_M → Nat) (h : ∀ (rec : Int → Int → Int → Int → Int → Int → Int → gj_M → Option R) (x0 x1 x2 x3 x4 x5 x6 : Int) (M : gj_M), inv x0 x1 x2 x3 x4 x5 x6 M → (∀ (y0 y1 y2 y3 y4 y5 y6 : Int) (N : gj_M), inv y0 y1 y2 y3 y4 y5 y6 N → mu y0 y1 y2 y3 y4 y5 y6 N < mu x0 x1 x2 x3 x4 x5 x6 M → P (rec y0 y1 y2 y3 y4 y5 y6 N)) → P (B rec x0 x1 x2 x3 x4 x5 x6 M)) : ∀ (n : Nat) (x0 x1 x2 x3 x4 x5 x6 : Int) (M : gj_M), inv x0 x1 x2 x3 x4 x5 x6 M → mu x0 x1 x2 x3 x4 x5 x6 M < n → P (gj_it (fun _ _ _ _ _ _ _ _ => none) B n x0 x1 x2 x3 x4 x5 x6 M)
  | 0, x0, x1, x2, x3, x4, x5, x6, M, _, hn => absurd hn (Nat.not_lt_zero _)
  | n + 1, x0, x1, x2, x3, x4, x5, x6, M, hi, hn => by
    rw [gj_it_s]
    exact h _ x0 x1 x2 x3 x4 x5 x6 M hi (fun y0 y1 y2 y3 y4 y5 y6 N hi' hm => gj_okM7 P inv mu h n y0 y1 y2 y3 y4 y5 y6 N hi' (by omega))
theorem gj_okQ1 {R : Type} {B : (Int → Option R) → Int → Option R} (P : Option R → Prop) (inv : Int → Prop) (mu : Int → Nat) (h : ∀ (rec : Int → Option R) (x0 : Int), inv x0 → (∀ (y0 : Int), inv y0 → mu y0 < mu x0 → P (rec y0)) → P (B rec x0)) : ∀ (n : Nat) (x0 : Int), inv x0 → mu x0 < n → P (gj_it (fun _ => none) B n x0)
  | 0, x0, _, hn => absurd hn (Nat.not_lt_zero _)
  | n + 1, x0, hi, hn => by
    rw [gj_it_s]
    exact h _ x0 hi (fun y0 hi' hm => gj_okQ1 P inv mu h n y0 hi' (by omega))
theorem gj_okQ2 {R : Type} {B : (Int → Int → Option R) → Int → Int → Option R} (P : Option R → Prop) (inv : Int → Int → Prop) (mu : Int → Int → Nat) (h : ∀ (rec : Int → Int → Option R) (x0 x1 : Int), inv x0 x1 → (∀ (y0 y1 : Int), inv y0 y1 → mu y0 y1 < mu x0 x1 → P (rec y0 y1)) → P (B rec x0 x1)) : ∀ (n : Nat) (x0 x1 : Int), inv x0 x1 → mu x0 x1 < n → P (gj_it (fun _ _ => none) B n x0 x1)
  | 0, x0, x1, _, hn => absurd hn (Nat.not_lt_zero _)
  | n + 1, x0, x1, hi, hn => by
    rw [gj_it_s]
    exact h _ x0 x1 hi (fun y0 y1 hi' hm => gj_okQ2 P inv mu h n y0 y1 hi' (by omega))
theorem gj_okQ3 {R : Type} {B : (Int → Int → Int → Option R) → Int → Int → Int → Option R} (P : Option R → Prop) (inv : Int → Int → Int → Prop) (mu : Int → Int → Int → Nat) (h : ∀ (rec : Int → Int → Int → Option R) (x0 x1 x2 : Int), inv x0 x1 x2 → (∀ (y0 y1 y2 : Int), inv y0 y1 y2 → mu y0 y1 y2 < mu x0 x1 x2 → P (rec y0 y1 y2)) → P (B rec x0 x1 x2)) : ∀ (n : Nat) (x0 x1 x2 : Int), inv x0 x1 x2 → mu x0 x1 x2 < n → P (gj_it (fun _ _ _ => none) B n x0 x1 x2)
  | 0, x0, x1, x2, _, hn => absurd hn (Nat.not_lt_zero _)
  | n + 1, x0, x1, x2, hi, hn => by
    rw [gj_it_s]
    exact h _ x0 x1 x2 hi (fun y0 y1 y2 hi' hm => gj_okQ3 P inv mu h n y0 y1 y2 hi' (by omega))
theorem gj_okQ4 {R : Type} {B : (Int → Int → Int → Int → Option R) → Int → Int → Int → Int → Option R} (P : Option R → Prop) (inv : Int → Int → Int → Int → Prop) (mu : Int → Int → Int → Int → Nat) (h : ∀ (rec : Int → Int → Int → Int → Option R) (x0 x1 x2 x3 : Int), inv x0 x1 x2 x3 → (∀ (y0 y1 y2 y3 : Int), inv y0 y1 y2 y3 → mu y0 y1 y2 y3 < mu x0 x1 x2 x3 → P (rec y0 y1 y2 y3)) → P (B rec x0 x1 x2 x3)) : ∀ (n : Nat) (x0 x1 x2 x3 : Int), inv x0 x1 x2 x3 → mu x0 x1 x2 x3 < n → P (gj_it (fun _ _ _ _ => none) B n x0 x1 x2 x3)
  | 0, x0, x1, x2, x3, _, hn => absurd hn (Nat.not_lt_zero _)
  | n + 1, x0, x1, x2, x3, hi, hn => by
    rw [gj_it_s]
    exact h _ x0 x1 x2 x3 hi (fun y0 y1 y2 y3 hi' hm => gj_okQ4 P inv mu h n y0 y1 y2 y3 hi' (by omega))
theorem gj_okQ5 {R : Type} {B : (Int → Int → Int → Int → Int → Option R) → Int → Int → Int → Int → Int → Option R} (P : Option R → Prop) (inv : Int → Int → Int → Int → Int → Prop) (mu : Int → Int → Int → Int → Int → Nat) (h : ∀ (rec : Int → Int → Int → Int → Int → Option R) (x0 x1 x2 x3 x4 : Int), inv x0 x1 x2 x3 x4 → (∀ (y0 y1 y2 y3 y4 : Int), inv y0 y1 y2 y3 y4 → mu y0 y1 y2 y3 y4 < mu x0 x1 x2 x3 x4 → P (rec y0 y1 y2 y3 y4)) → P (B rec x0 x1 x2 x3 x4)) : ∀ (n : Nat) (x0 x1 x2 x3 x4 : Int), inv x0 x1 x2 x3 x4 → mu x0 x1 x2 x3 x4 < n → P (gj_it (fun _ _ _ _ _ => none) B n x0 x1 x2 x3 x4)
  | 0, x0, x1, x2, x3, x4, _, hn => absurd hn (Nat.not_lt_zero _)
  | n + 1, x0, x1, x2, x3, x4, hi, hn => by
    rw [gj_it_s]
    exact h _ x0 x1 x2 x3 x4 hi (fun y0 y1 y2 y3 y4 hi' hm => gj_okQ5 P inv mu h n y0 y1 y2 y3 y4 hi' (by omega))
theorem gj_okQ6 {R : Type} {B : (Int → Int → Int → Int → Int → Int → Option R) → Int → Int → Int → Int → Int → Int → Option R} (P : Option R → Prop) (inv : Int → Int → Int → Int → Int → Int → Prop) (mu : Int → Int → Int → Int → Int → Int → Nat) (h : ∀ (rec : Int → Int → Int → Int → Int → Int → Option R) (x0 x1 x2 x3 x4 x5 : Int), inv x0 x1 x2 x3 x4 x5 → (∀ (y0 y1 y2 y3 y4 y5 : Int), inv y0 y1 y2 y3 y4 y5 → mu y0 y1 y2 y3 y4 y5 < mu x0 x1 x2 x3 x4 x5 → P (rec y0 y1 y2 y3 y4 y5)) → P (B rec x0 x1 x2 x3 x4 x5)) : ∀ (n : Nat) (x0 x1 x2 x3 x4 x5 : Int), inv x0 x1 x2 x3 x4 x5 → mu x0 x1 x2 x3 x4 x5 < n → P (gj_it (fun _ _ _ _ _ _ => none) B n x0 x1 x2 x3 x4 x5)
  | 0, x0, x1, x2, x3, x4, x5, _, hn => absurd hn (Nat.not_lt_zero _)
  | n + 1, x0, x1, x2, x3, x4, x5, hi, hn => by
    rw [gj_it_s]
    exact h _ x0 x1 x2 x3 x4 x5 hi (fun y0 y1 y2 y3 y4 y5 hi' hm => gj_okQ6 P inv mu h n y0 y1 y2 y3 y4 y5 hi' (by omega))
theorem gj_okQ7 {R : Type} {B : (Int → Int → Int → Int → Int → Int → Int → Option R) → Int → Int → Int → Int → Int → Int → Int → Option R} (P : Option R → Prop) (inv : Int → Int → Int → Int → Int → Int → Int → Prop) (mu : Int → Int → Int → Int → Int → Int → Int → Nat) (h : ∀ (rec : Int → Int → Int → Int → Int → Int → Int → Option R) (x0 x1 x2 x3 x4 x5 x6 : Int), inv x0 x1 x2 x3 x4 x5 x6 → (∀ (y0 y1 y2 y3 y4 y5 y6 : Int), inv y0 y1 y2 y3 y4 y5 y6 → mu y0 y1 y2 y3 y4 y5 y6 < mu x0 x1 x2 x3 x4 x5 x6 → P (rec y0 y1 y2 y3 y4 y5 y6)) → P (B rec x0 x1 x2 x3 x4 x5 x6)) : ∀ (n : Nat) (x0 x1 x2 x3 x4 x5 x6 : Int), inv x0 x1 x2 x3 x4 x5 x6 → mu x0 x1 x2 x3 x4 x5 x6 < n → P (gj_it (fun _ _ _ _ _ _ _ => none) B n x0 x1 x2 x3 x4 x5 x6)
  | 0, x0, x1, x2, x3, x4, x5, x6, _, hn => absurd hn (Nat.not_lt_zero _)
  | n + 1, x0, x1, x2, x3, x4, x5, x6, hi, hn => by
    rw [gj_it_s]
    exact h _ x0 x1 x2 x3 x4 x5 x6 hi (fun y0 y1 y2 y3 y4 y5 y6 hi' hm => gj_okQ7 P inv mu h n y0 y1 y2 y3 y4 y5 y6 hi' (by omega))
theorem k_chk {R : Type} {P : Option R → Prop} {c : Prop} [Decidable c] {x : Option R} (h : c) (k : P x) : P (gj_chk c x) := by rw [gj_chkp h]; exact k
theorem k_ite {R : Type} {P : Option R → Prop} {c : Prop} [Decidable c] {x y : Option R} (h : c → P x) (k : ¬ c → P y) : P (if c then x else y) := by
  split
  · exact h ‹_›
  · exact k ‹_›
theorem k_bnd {A R : Type} {P : Option R → Prop} {a : Option A} {f : A → Option R} {x : A} (e : a = some x) (k : P (f x)) : P (gj_bnd a f) := by rw [e]; exact k
theorem k_bnd2 {A B R : Type} {P : Option R → Prop} {a : Option (A × B)} {f : A → B → Option R} {x : A} {y : B} (e : a = some (x, y)) (k : P (f x y)) : P (gj_bnd2 a f) := by rw [e]; exact k
theorem k_bE {A R : Type} {P : Option R → Prop} {a : Option A} {f : A → Option R} (e : ∃ x, a = some x) (k : ∀ x, P (f x)) : P (gj_bnd a f) := by
  obtain ⟨x, e⟩ := e
  rw [e]
  exact k x
theorem k_bF {A R : Type} {P : Option R → Prop} {Q : A → Prop} {a : Option A} {f : A → Option R} (e : ∃ x, a = some x ∧ Q x) (k : ∀ x, Q x → P (f x)) : P (gj_bnd a f) := by
  obtain ⟨x, e, q⟩ := e
  rw [e]
  exact k x q
theorem k_bF2 {A B R : Type} {P : Option R → Prop} {Q : A → B → Prop} {a : Option (A × B)} {f : A → B → Option R} (e : ∃ x y, a = some (x, y) ∧ Q x y) (k : ∀ x y, Q x y → P (f x y)) : P (gj_bnd2 a f) := by
  obtain ⟨x, y, e, q⟩ := e
  rw [e]
  exact k x y q
theorem k_let {R : Type} {P : Option R → Prop} {A : gj_M} {f : gj_M → Option R} (k : P (f A)) : P (gj_let A f) := k
theorem k_letI {R : Type} {P : Option R → Prop} {v : Int} {f : Int → Option R} (k : P (f v)) : P (gj_letI v f) := k
/-- the reference may reckon: some class memory stands beside it -/
def g_RS (R : gj_M) : Prop := ∃ C, g_PL C R ∧ g_YS C R
theorem g_YS_s {C R D U : gj_M} (h : g_YS C R) (hc : ∀ z, 22 ≤ z → z ≤ 28 → D z = C z) (hr : ∀ z, 108 ≤ z → z ≤ 114 → U z = R z) : g_YS D U := by
  unfold g_YS
  simp only [hc 22 (by decide) (by decide), hc 23 (by decide) (by decide), hc 24 (by decide) (by decide), hc 25 (by decide) (by decide), hc 26 (by decide) (by decide), hc 27 (by decide) (by decide), hc 28 (by decide) (by decide),
    hr 108 (by decide) (by decide), hr 109 (by decide) (by decide), hr 110 (by decide) (by decide), hr 111 (by decide) (by decide), hr 112 (by decide) (by decide), hr 113 (by decide) (by decide), hr 114 (by decide) (by decide)]
  exact h
def g_rk (z : Int) : Prop := z = 83 ∨ z = 86 ∨ z = 89 ∨ z = 92 ∨ z = 95 ∨ z = 98 ∨ z = 101 ∨ (108 ≤ z ∧ z ≤ 114)
theorem g_RS_s {R U : gj_M} (h : g_RS R) (hr : ∀ z, g_rk z → U z = R z) : g_RS U := by
  obtain ⟨C, p, y⟩ := h
  exact ⟨C, g_PL_s p (fun _ _ _ => rfl) (fun z hz => hr z (by unfold g_rk; omega)), g_YS_s y (fun _ _ _ => rfl) (fun z a b => hr z (by unfold g_rk; omega))⟩
theorem g_RS_up {R : gj_M} {z i v : Int} (h : g_RS R) (hz : ¬ g_rk z) : g_RS (gj_up R z i v) := g_RS_s h (fun w hw => funext fun k => gj_up_z (fun e => hz (e ▸ hw)))
theorem g_RS_fr {R U : gj_M} {os : List Int} {ps : List (Int × Int)} (h : g_RS R) (f : gj_Fr os ps R U) (ho : (os.all (fun z => !([83, 86, 89, 92, 95, 98, 101, 108, 109, 110, 111, 112, 113, 114].contains z)) && ps.all (fun q => !([83, 86, 89, 92, 95, 98, 101, 108, 109, 110, 111, 112, 113, 114].contains q.1))) = true) : g_RS U := by
  refine g_RS_s h (fun z hz => funext fun i => f z i (by unfold g_rk at hz; omega) ?_)
  have hz : [83, 86, 89, 92, 95, 98, 101, 108, 109, 110, 111, 112, 113, 114].contains z = true := by
    unfold g_rk at hz
    rcases hz with e | e | e | e | e | e | e | e
    · rw [e]; rfl
    · rw [e]; rfl
    · rw [e]; rfl
    · rw [e]; rfl
    · rw [e]; rfl
    · rw [e]; rfl
    · rw [e]; rfl
    · have : z = 108 ∨ z = 109 ∨ z = 110 ∨ z = 111 ∨ z = 112 ∨ z = 113 ∨ z = 114 := by omega
      rcases this with e | e | e | e | e | e | e <;> rw [e] <;> rfl
  rw [Bool.and_eq_true] at ho
  unfold gj_fp
  rw [Bool.or_eq_false_iff]
  refine ⟨?_, ?_⟩
  · rw [← Bool.not_eq_true]
    intro q
    have h1 := List.all_eq_true.mp ho.1 z (List.elem_iff.mp q)
    rw [hz] at h1
    cases h1
  · rw [← Bool.not_eq_true]
    intro q
    have h1 := List.all_eq_true.mp ho.2 (z, i) (List.elem_iff.mp q)
    rw [hz] at h1
    cases h1
theorem g_RS.b0 {R : gj_M} (h : g_RS R) : 1 ≤ R 101 0 ∧ R 101 0 ≤ 4 := by
  obtain ⟨C, p, y⟩ := h
  rw [← p.n0]
  exact p.b0
theorem g_RS.b1 {R : gj_M} (h : g_RS R) : 1 ≤ R 101 1 ∧ R 101 1 ≤ 4 := by
  obtain ⟨C, p, y⟩ := h
  rw [← p.n1]
  exact p.b1
theorem g_RS.bs {R : gj_M} {i : Int} (h : g_RS R) (hi : i = 0 ∨ i = 1) : 1 ≤ R 101 i ∧ R 101 i ≤ 4 := by
  rcases hi with e | e <;> rw [e]
  · exact h.b0
  · exact h.b1
theorem g_RS.mt {R : gj_M} (h : g_RS R) : ∀ j, 0 ≤ j → j < 8 → R 108 j = -1 ∨ (0 ≤ R 108 j ∧ R 108 j < 8 ∧ (j < 4 ↔ ¬ R 108 j < 4)) := by
  obtain ⟨C, p, y⟩ := h
  exact fun j a b => (y.mt j a b).2
theorem g_RS.nw {R : gj_M} (h : g_RS R) : ∀ j, 0 ≤ j → j < 16 → g_K (R 112 j) (R 113 j) := by
  obtain ⟨C, p, y⟩ := h
  exact fun j a b => by
    obtain ⟨e1, e2, -, k⟩ := y.nw j a b
    rw [← e1, ← e2]
    exact k
theorem g_RS.vw {R : gj_M} (h : g_RS R) : ∀ i, 0 ≤ i → i < 32 → g_V (R 86 i) (R 89 i) (R 92 i) := by
  obtain ⟨C, p, y⟩ := h
  exact fun i a b => by
    obtain ⟨e1, e2, e3, k⟩ := p.vw i a b
    rw [← e1, ← e2, ← e3]
    exact k
theorem g_RS.ft {R : gj_M} (h : g_RS R) : ∀ i, 0 ≤ i → i < 16 → 0 ≤ R 95 i ∧ R 95 i ≤ 16 := by
  obtain ⟨C, p, y⟩ := h
  exact fun i a b => by
    obtain ⟨e1, k⟩ := p.ft i a b
    rw [← e1]
    exact k
theorem g_RS.hd {R : gj_M} (h : g_RS R) : ∀ k, 0 ≤ k → k < 8 → g_hb k (R 98 k) := by
  obtain ⟨C, p, y⟩ := h
  exact fun k a b => (p.hd k a b).2
/-- ranges make a reference safe: what the class would hold is put beside -/
theorem g_RS_mk {C R : gj_M} (p : g_PL C R) (hm : ∀ j, 0 ≤ j → j < 8 → R 108 j = -1 ∨ (0 ≤ R 108 j ∧ R 108 j < 8 ∧ (j < 4 ↔ ¬ R 108 j < 4))) (hk : ∀ j, 0 ≤ j → j < 16 → g_K (R 112 j) (R 113 j)) : g_RS R := by
  obtain ⟨D, hD⟩ : ∃ D : gj_M, D = fun z i => if z = 22 then R 108 i else if z = 23 then (if R 108 i = -1 then 0 else R 109 i) else if z = 24 then R 110 i else if z = 25 then R 111 i else if z = 26 then R 112 i else if z = 27 then R 113 i else if z = 28 then R 114 i else C z i := ⟨_, rfl⟩
  refine ⟨D, g_PL_s p (fun z a b => ?_) (fun _ _ => rfl), ?_⟩
  · rw [hD]
    funext i
    dsimp only
    rw [if_neg (show ¬ z = 22 by omega), if_neg (show ¬ z = 23 by omega), if_neg (show ¬ z = 24 by omega), if_neg (show ¬ z = 25 by omega), if_neg (show ¬ z = 26 by omega), if_neg (show ¬ z = 27 by omega), if_neg (show ¬ z = 28 by omega)]
  · rw [hD]
    exact ⟨fun j a b => ⟨rfl, hm j a b⟩, fun j a b => rfl, fun j a b _ => rfl, fun j a b => rfl, fun j a b => ⟨rfl, rfl, rfl, hk j a b⟩⟩
theorem g_RS_ch {R U : gj_M} (h : g_RS R) (hr : ∀ z, z = 83 ∨ z = 86 ∨ z = 89 ∨ z = 92 ∨ z = 95 ∨ z = 98 ∨ z = 101 → U z = R z) (hm : ∀ j, 0 ≤ j → j < 8 → U 108 j = -1 ∨ (0 ≤ U 108 j ∧ U 108 j < 8 ∧ (j < 4 ↔ ¬ U 108 j < 4))) (hk : ∀ j, 0 ≤ j → j < 16 → g_K (U 112 j) (U 113 j)) : g_RS U := by
  obtain ⟨C, p, y⟩ := h
  exact g_RS_mk (g_PL_s p (fun _ _ _ => rfl) hr) hm hk
theorem r_likesNow {R : gj_M} {s q : Int} (h : g_RS R) (s8 : 0 ≤ s ∧ s < 8) (q8 : 0 ≤ q ∧ q < 8) (u : ¬ (s < 4 ↔ q < 4)) : ∃ x, F_X12_likesNow s q R = some x := by
  obtain ⟨C, p, y⟩ := h
  exact ⟨_, p_likesNow p y s8 q8 u⟩
theorem r_isSooner {R : gj_M} {s q r : Int} (h : g_RS R) (s8 : 0 ≤ s ∧ s < 8) (q8 : 0 ≤ q ∧ q < 8) (u : ¬ (s < 4 ↔ q < 4)) (r8 : 0 ≤ r ∧ r < 8) (v : ¬ (s < 4 ↔ r < 4)) : ∃ x, F_X12_isSooner s q r R = some x := by
  unfold F_X12_isSooner
  refine k_bE (P := fun y => ∃ x, y = some x) (r_likesNow h s8 q8 u) (fun a => k_bE (P := fun y => ∃ x, y = some x) (r_likesNow h s8 r8 v) (fun b => ?_))
  (repeat' split) <;> exact ⟨_, rfl⟩
theorem r_would {R : gj_M} {s q : Int} (h : g_RS R) (s8 : 0 ≤ s ∧ s < 8) (q8 : 0 ≤ q ∧ q < 8) (u : ¬ (s < 4 ↔ q < 4)) : ∃ x, F_X12_would s q R = some x := by
  unfold F_X12_would
  refine k_bE (P := fun y => ∃ x, y = some x) (r_likesNow h s8 q8 u) (fun a => k_chk (P := fun y => ∃ x, y = some x) s8 ?_)
  (repeat' split) <;> exact ⟨_, rfl⟩
theorem r_both {R : gj_M} {s q : Int} (h : g_RS R) (s8 : 0 ≤ s ∧ s < 8) (q8 : 0 ≤ q ∧ q < 8) (u : ¬ (s < 4 ↔ q < 4)) : ∃ x, F_X12_both s q R = some x := by
  unfold F_X12_both
  refine k_bE (P := fun y => ∃ x, y = some x) (r_would h s8 q8 u) (fun a => ?_)
  split
  · exact ⟨_, rfl⟩
  · refine k_bE (P := fun y => ∃ x, y = some x) (r_would h q8 s8 (by omega)) (fun b => ?_)
    (repeat' split) <;> exact ⟨_, rfl⟩
