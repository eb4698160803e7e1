/-! ===== words for the specs ===== -/
theorem jup (σ : jm_S) (a k : Nat) (x : Int32) (b : Nat) : jm_up σ a k x b = if b = a then upd (σ a) k x else σ b := rfl
theorem jrow (σ : jm_S) (a : Nat) (f : Nat → Int32) (b : Nat) : jm_row σ a f b = if b = a then f else σ b := rfl
theorem jup_s (σ : jm_S) (a k : Nat) (x : Int32) : jm_up σ a k x a = upd (σ a) k x := if_pos rfl
theorem jup_n (σ : jm_S) {a b : Nat} (k : Nat) (x : Int32) (h : b ≠ a) : jm_up σ a k x b = σ b := if_neg h
theorem jrow_s (σ : jm_S) (a : Nat) (f : Nat → Int32) : jm_row σ a f a = f := if_pos rfl
theorem jrow_n (σ : jm_S) {a b : Nat} (f : Nat → Int32) (h : b ≠ a) : jm_row σ a f b = σ b := if_neg h
theorem jupd (f : Nat → Int32) (k : Nat) (x : Int32) (j : Nat) : upd f k x j = if j = k then x else f j := rfl
theorem jbad {g N : Nat} (h : g < N) (hN : N < 2 ^ 31) : (nI g < 0 ∨ N ≤ (nI g).toNatClampNeg) = False := by
  have := nI_in h hN
  simp only [eq_iff_iff, iff_false]
  exact this
theorem jbad2 {g N : Nat} (h : g < N) (hN : N < 2 ^ 31) : (nI g < 0 ∨ N ≤ g) = False := by
  have := nI_pos (n := g) (by omega)
  simp only [eq_iff_iff, iff_false]
  rintro (h1 | h1)
  · exact this h1
  · omega
theorem jbadx {x : Int32} {N : Nat} (h0 : ¬ x < 0) (h : x.toNatClampNeg < N) : (x < 0 ∨ N ≤ x.toNatClampNeg) = False := by
  simp only [eq_iff_iff, iff_false]
  rintro (h1 | h1)
  · exact h0 h1
  · omega
theorem jt0 {P : Prop} (d : Decidable P) : ((@ite Int32 P d 1 0) = 0) = ¬ P := by
  by_cases h : P
  · rw [if_pos h]; simp [h]
  · rw [if_neg h]; simp [h]
theorem jt01 {P : Prop} (d : Decidable P) : ((@ite Int32 P d 1 0) = 0 ∨ (@ite Int32 P d 1 0) = 1) = True := by
  by_cases h : P
  · rw [if_pos h]; simp
  · rw [if_neg h]; simp
theorem jt10 {P : Prop} (d : Decidable P) : ((@ite Int32 P d 0 1) = 0) = P := by
  by_cases h : P
  · rw [if_pos h]; simp [h]
  · rw [if_neg h]; simp [h]
theorem jcmp_lt (x y : Int64) : (lg_cmp x y < 0) = (x < y) := by
  unfold lg_cmp
  by_cases h1 : y < x
  · have h2 : ¬ x < y := fun h => by have := Int64.lt_trans h h1; exact Int64.lt_irrefl this
    simp [h1, h2]
  · by_cases h2 : x < y
    · have h3 : ¬ x = y := fun e => by subst e; exact h1 h2
      simp [h1, h2, h3]
    · have h3 : x = y := Int64.le_antisymm (Int64.not_lt.mp h1) (Int64.not_lt.mp h2)
      subst h3
      simp
theorem jcmp_gt (x y : Int64) : (0 < lg_cmp x y) = (y < x) := by
  unfold lg_cmp
  by_cases h1 : y < x
  · simp [h1]
  · by_cases h2 : x < y
    · have h3 : ¬ x = y := fun e => by subst e; exact h1 h2
      simp [h1, h3]
    · have h3 : x = y := Int64.le_antisymm (Int64.not_lt.mp h1) (Int64.not_lt.mp h2)
      subst h3
      simp
theorem jl_lt (x y : Int32) : (x.toInt64 < y.toInt64) = (x < y) := by
  rw [eq_iff_iff, Int64.lt_iff_toInt_lt, Int32.lt_iff_toInt_lt, Int32.toInt_toInt64, Int32.toInt_toInt64]
/-- numbers from a to b -/
def jI (x a b : Int32) : Prop := ¬ x < a ∧ ¬ b < x
theorem P_isOutside (x a b : Int32) (σ : jm_S) : jc 1 [.int x, .int a, .int b] σ = some (some (.int (if x < a ∨ b < x then 1 else 0)), σ) := by
  rw [P_isOutside_in]
  by_cases h1 : x < a
  · simp [h1]
  · by_cases h2 : b < x
    · have h3 : ¬ x ≤ b := Int32.not_le.mpr h2
      simp [h1, h2, h3]
    · have h3 : x ≤ b := Int32.not_lt.mp h2
      simp [h1, h2, h3]
theorem M_in (x a b : Int32) (l h : Int64) (hl : a.toInt64 = l) (hh : b.toInt64 = h) (σ : jm_S) : jc 120 [.long x.toInt64, .long l, .long h] σ = some (some (.int (if x < a ∨ b < x then 0 else 1)), σ) := by
  subst hl; subst hh
  rw [M_in_in]
  simp only [jcmp_lt, jcmp_gt, jl_lt]
  by_cases h1 : x < a
  · simp [h1]
  · by_cases h2 : b < x
    · simp [h1, h2]
    · simp [h1, h2]
/-! sums -/
def sumI (f : Nat → Int32) : Nat → Int32
  | 0 => 0
  | n + 1 => sumI f n + f n
theorem sumI_congr {f g : Nat → Int32} {n : Nat} (h : ∀ j, j < n → f j = g j) : sumI f n = sumI g n := by
  induction n with
  | zero => rfl
  | succ n ih => rw [sumI, sumI, ih (fun j hj => h j (by omega)), h n (by omega)]
theorem sumI_add (f g : Nat → Int32) (n : Nat) : sumI (fun j => f j + g j) n = sumI f n + sumI g n := by
  induction n with
  | zero => rfl
  | succ n ih =>
    rw [sumI, sumI, sumI, ih]
    apply Int32.toBitVec_inj.mp
    simp only [Int32.toBitVec_add]
    ac_rfl
