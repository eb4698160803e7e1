/-! ===== bags ===== -/
def cP (n k : Nat) : Nat → Int64
  | 0 => 1
  | i + 1 => (cP n k i * ((nI n - nI k) + nI (i + 1)).toInt64) / (nI (i + 1)).toInt64
def cM (n : Nat) : Nat → Int64
  | 0 => 1
  | i + 1 => (cM n i * (nI n - nI i).toInt64) / (nI (i + 1)).toInt64
def chN (n k : Nat) : Nat := if n < k then 0 else (cM n k).toNatClampNeg
theorem ch_eq : ∀ n, n < 31 → ∀ k, k < 31 → k ≤ n → cP n k k = lN (chN n k) ∧ cM n k = lN (chN n k) ∧ 1 ≤ chN n k ∧ chN n k < 2 ^ 28 := by decide +kernel
theorem jl0 {i : Nat} (h : i + 1 < 2 ^ 31) : ¬ (nI (i + 1)).toInt64 = 0 := by
  rw [nI_l h, show (0 : Int64) = lN 0 by decide +kernel, lN_eq h (by decide)]
  omega
theorem P_choose_loop {n k : Nat} (hn : n < 31) (hk : k ≤ n) (σ : jm_S) : ∀ (d i : Nat), i + d = k → jv 89 16 [some (.int (nI n)), some (.int (nI k)), some (.long (cP n k i)), none, some (.int (nI (i + 1)))] [] σ = some (some (.long (cP n k k)), σ) := by
  intro d
  induction d with
  | zero => intro i h; rw [P_choose_L16, show i = k by omega, if_pos (nI_lt (by omega) (by omega))]
  | succ d ih =>
    intro i h
    rw [P_choose_L16, if_neg (nI_nlt (by omega) (by omega)), if_neg (jl0 (by omega)), nI_1, ← cP, ih _ (by omega)]
theorem M_over_loop {n k : Nat} (hn : n < 31) (hk : k ≤ n) (σ : jm_S) : ∀ (d i : Nat), i + d = k → jv 192 16 [some (.int (nI n)), some (.int (nI k)), some (.long (cM n i)), none, some (.int (nI i))] [] σ = some (some (.long (cM n k)), σ) := by
  intro d
  induction d with
  | zero => intro i h; rw [M_over_L16, show i = k by omega, if_pos (nI_le (by omega) (by omega))]
  | succ d ih =>
    intro i h
    rw [M_over_L16, if_neg (nI_ge (by omega) (by omega)), nI_1, if_neg (jl0 (by omega)), ← cM, ih _ (by omega)]
theorem P_choose {n k : Nat} (hn : n < 31) (hk : k < 31) (σ : jm_S) : jc 89 [.int (nI n), .int (nI k)] σ = some (some (.long (lN (chN n k))), σ) := by
  rw [P_choose_in, if_neg (nI_pos (by omega))]
  by_cases h : k ≤ n
  · have e := P_choose_loop hn h σ k 0 (by omega)
    rw [show nI (0 + 1) = 1 by decide +kernel, show cP n k 0 = 1 from rfl] at e
    rw [if_pos (nI_le h (by omega)), e, (ch_eq n hn k hk h).1]
  · rw [if_neg (nI_ge (by omega) (by omega)), show chN n k = 0 by unfold chN; rw [if_pos (by omega)]]
    rfl
theorem M_over {n k : Nat} (hn : n < 31) (hk : k < 31) (σ : jm_S) : jc 192 [.int (nI n), .int (nI k)] σ = some (some (.long (lN (chN n k))), σ) := by
  rw [M_over_in, if_neg (nI_pos (by omega))]
  by_cases h : k ≤ n
  · have e := M_over_loop hn h σ k 0 (by omega)
    rw [nI_0, show cM n 0 = 1 from rfl] at e
    rw [if_pos (nI_le h (by omega)), e, (ch_eq n hn k hk h).2.1]
  · rw [if_neg (nI_ge (by omega) (by omega)), show chN n k = 0 by unfold chN; rw [if_pos (by omega)]]
    rfl
theorem chN_lt {n k : Nat} (hn : n < 31) (hk : k < 31) : chN n k < 2 ^ 28 := by
  by_cases h : k ≤ n
  · exact (ch_eq n hn k hk h).2.2.2
  · unfold chN; rw [if_pos (by omega)]; decide
def wyN (a c n k : Nat) : Nat := chN c k * chN (a - c) (n - k)
theorem P_ways {a c n k : Nat} (ha : a < 31) (hc : c ≤ a) (hn : n ≤ a) (hk : k ≤ n) (σ : jm_S) : jc 88 [.int (nI a), .int (nI c), .int (nI n), .int (nI k)] σ = some (some (.long (lN (wyN a c n k))), σ) := by
  rw [P_ways_in, P_choose (by omega) (by omega), jbl_some, pk_sub hc, pk_sub hk, P_choose (by omega) (by omega), jbl_some, lN_mul]
  rfl
theorem M_justly {a c n k : Nat} (ha : a < 31) (hc : c ≤ a) (hn : n ≤ a) (hk : k ≤ n) (σ : jm_S) : jc 191 [.int (nI a), .int (nI c), .int (nI n), .int (nI k)] σ = some (some (.long (lN (wyN a c n k))), σ) := by
  rw [M_justly_in, M_over (by omega) (by omega), jbl_some, pk_sub hc, pk_sub hk, M_over (by omega) (by omega), jbl_some, lN_mul]
  rfl
theorem wyN_lt {a c n k : Nat} (ha : a < 31) (hc : c ≤ a) (hn : n ≤ a) (hk : k ≤ n) : wyN a c n k < 2 ^ 56 := by
  have h1 := chN_lt (n := c) (k := k) (by omega) (by omega)
  have h2 := chN_lt (n := a - c) (k := n - k) (by omega) (by omega)
  unfold wyN
  calc chN c k * chN (a - c) (n - k) ≤ 2 ^ 28 * chN (a - c) (n - k) := Nat.mul_le_mul_right _ (by omega)
    _ < 2 ^ 28 * 2 ^ 28 := Nat.mul_lt_mul_of_pos_left h2 (by decide)
    _ = 2 ^ 56 := by decide
/-! Euclid -/
def euN : Nat → Nat → Nat → Nat
  | 0, a, _ => a
  | f + 1, a, b => if b = 0 then a else euN f b (a % b)
theorem euN_gcd : ∀ (m f a b : Nat), b < 2 ^ m → 2 * m ≤ f → euN f a b = Nat.gcd a b := by
  intro m
  induction m with
  | zero =>
    intro f a b hb hf
    have : b = 0 := by have : b < 1 := hb; omega
    subst this
    cases f with
    | zero => simp [euN]
    | succ f => simp [euN]
  | succ m ih =>
    intro f a b hb hf
    obtain ⟨f, rfl⟩ : ∃ g, f = g + 2 := ⟨f - 2, by omega⟩
    rw [euN]
    by_cases h0 : b = 0
    · subst h0; simp
    · rw [if_neg h0, euN]
      by_cases h1 : a % b = 0
      · rw [if_pos h1]
        have : Nat.gcd a b = b := Nat.gcd_eq_right (Nat.dvd_of_mod_eq_zero h1)
        exact this.symm
      · rw [if_neg h1]
        have hlt : a % b < b := Nat.mod_lt _ (by omega)
        have h2 : b % (a % b) < 2 ^ m := by
          have e : 2 ^ (m + 1) = 2 * 2 ^ m := by rw [Nat.pow_succ, Nat.mul_comm]
          rw [e] at hb
          by_cases hh : 2 * (a % b) ≤ b
          · have := Nat.mod_lt b (show 0 < a % b by omega); omega
          · have e2 : b % (a % b) = b - a % b := by
              rw [Nat.mod_eq_sub_mod (by omega), Nat.mod_eq_of_lt (by omega)]
            omega
        rw [ih f _ _ h2 (by omega), Nat.gcd_comm, ← Nat.gcd_rec, ← Nat.gcd_rec, Nat.gcd_comm]
theorem jl_rem {a b : Nat} (ha : a < 2 ^ 63) (h0 : 0 < b) (hb : b < 2 ^ 63) : lN a - lN a / lN b * lN b = lN (a % b) := pk_lRem ha h0 hb
theorem jcmp_0 {b : Nat} (hb : b < 2 ^ 63) : (lg_cmp (lN b) 0 = 0) = (b = 0) := by
  rw [eq_iff_iff]
  unfold lg_cmp
  rw [show (0 : Int64) = lN 0 by decide +kernel]
  by_cases h : b = 0
  · subst h; simp
  · have h1 : lN 0 < lN b := (pk_lLT (by decide) hb).mpr (by omega)
    simp [h1, h]
theorem jl_ne {b : Nat} (hb : b < 2 ^ 63) (h : ¬ b = 0) : ¬ lN b = 0 := by
  rw [show (0 : Int64) = lN 0 by decide +kernel, pk_lEQ hb (by decide)]; exact h
theorem P_eu_loop (x y : Int64) (σ : jm_S) : ∀ (d i a b : Nat) (u : Option Value), i + d = 100 → a < 2 ^ 63 → b < 2 ^ 63 → jv 90 9 [some (.long x), none, some (.long y), none, some (.long (lN a)), none, some (.long (lN b)), none, some (.int (nI i)), u, none] [] σ = some (some (.long (lN (euN d a b))), σ) := by
  intro d
  induction d with
  | zero => intro i a b u h ha hb; rw [P_commonDivisor_L9, show i = 100 by omega, if_pos (by decide +kernel)]; rfl
  | succ d ih =>
    intro i a b u h ha hb
    have h100 : ¬ (100 : Int32) ≤ nI i := by
      rw [show (100 : Int32) = nI 100 by decide +kernel, nI_leI (by omega) (by omega)]; omega
    rw [P_commonDivisor_L9, if_neg h100, euN]
    by_cases h0 : b = 0
    · rw [if_pos h0, if_pos ((jcmp_0 hb).mpr h0)]
    · rw [if_neg h0, if_neg (fun q => h0 ((jcmp_0 hb).mp q)), if_neg (jl_ne hb h0), nI_1, jl_rem ha (by omega) hb]
      exact ih _ _ _ _ (by omega) hb (Nat.lt_of_lt_of_le (Nat.mod_lt _ (by omega)) (by omega))
theorem P_eu {a b : Nat} (ha : a < 2 ^ 63) (hb : b < 2 ^ 28) (σ : jm_S) : jc 90 [.long (lN a), .long (lN b)] σ = some (some (.long (lN (Nat.gcd a b))), σ) := by
  have e := P_eu_loop (lN a) (lN b) σ 100 0 a b none (by omega) ha (by omega)
  rw [nI_0, euN_gcd 28 100 a b hb (by omega)] at e
  rw [P_commonDivisor_in, e]
theorem M_eu_loop (x1 x2 x3 x4 x5 : Int32) (x6 x8 : Int64) (σ : jm_S) : ∀ (b a : Nat) (u : Option Value), a < 2 ^ 63 → b < 2 ^ 63 → jv 189 85 [some (.ref 61), some (.int x1), some (.int x2), some (.int x3), some (.int x4), some (.int x5), some (.long x6), none, some (.long x8), none, some (.long (lN a)), none, some (.long (lN b)), none, u, none] [] σ = (if ¬ x5 = 0 then (if lN (Nat.gcd a b) = 0 then none else some (some (.long (x8 / lN (Nat.gcd a b))), σ)) else (if lN (Nat.gcd a b) = 0 then none else some (some (.long (x6 / lN (Nat.gcd a b))), σ))) := by
  intro b
  induction b using Nat.strongRecOn with
  | ind b ih =>
    intro a u ha hb
    rw [M_cracked_L85]
    by_cases h0 : b = 0
    · subst h0
      rw [if_pos ((jcmp_0 hb).mpr rfl), Nat.gcd_zero_right]
    · rw [if_neg (fun q => h0 ((jcmp_0 hb).mp q)), if_neg (jl_ne hb h0), jl_rem ha (by omega) hb]
      have hlt : a % b < b := Nat.mod_lt _ (by omega)
      rw [ih (a % b) hlt b _ hb (by omega)]
      rw [show Nat.gcd b (a % b) = Nat.gcd a b by rw [Nat.gcd_comm, ← Nat.gcd_rec, Nat.gcd_comm]]
theorem M_no (x : Int32) (σ : jm_S) : jc 190 [.int x] σ = some (some (.long ((-9223372036854775808 : Int64) - x.toInt64)), σ) := M_no_in x σ
theorem jno : (-9223372036854775808 : Int64) - (-2 : Int32).toInt64 = -9223372036854775806 := by decide +kernel
theorem P_isNoTrial (x y z : Int32) (σ : jm_S) : jc 87 [.int x, .int y, .int z] σ = some (some (.int (if (x < 1 ∨ 30 < x) ∨ (y < 0 ∨ x < y) ∨ (z < 0 ∨ y < z) then 1 else 0)), σ) := by
  rw [P_isNoTrial_in, P_isOutside, jbi_some, P_isOutside, jbi_some, P_isOutside, jbi_some]
  by_cases h1 : x < 1 ∨ 30 < x
  · simp only [if_pos h1, if_pos (Or.inl h1 : _ ∨ ((y < 0 ∨ x < y) ∨ (z < 0 ∨ y < z))), j10, not_false_eq_true, if_true]
  · by_cases h2 : y < 0 ∨ x < y
    · simp only [if_neg h1, if_pos h2, if_pos (Or.inr (Or.inl h2) : (x < 1 ∨ 30 < x) ∨ _ ∨ (z < 0 ∨ y < z)), j10, not_false_eq_true, if_true, not_true_eq_false, if_false]
    · by_cases h3 : z < 0 ∨ y < z
      · simp only [if_neg h1, if_neg h2, if_pos h3, if_pos (Or.inr (Or.inr h3) : (x < 1 ∨ 30 < x) ∨ (y < 0 ∨ x < y) ∨ _), j10, not_true_eq_false, if_false]
      · have : ¬ ((x < 1 ∨ 30 < x) ∨ (y < 0 ∨ x < y) ∨ (z < 0 ∨ y < z)) := by
          rintro (q | q | q)
          · exact h1 q
          · exact h2 q
          · exact h3 q
        simp only [if_neg h1, if_neg h2, if_neg h3, if_neg this, if_true, not_true_eq_false, if_false]
theorem jNb {x b : Int32} {n : Nat} (hb : b = nI n) (hn : n < 2 ^ 31) (h : ¬ (x < 0 ∨ b < x)) : ∃ j : Nat, j ≤ n ∧ x = nI j := by
  subst hb
  exact jN (nI_toInt hn) h
theorem jN1 {x : Int32} (h : ¬ (x < 1 ∨ 30 < x)) : ∃ a, 1 ≤ a ∧ a ≤ 30 ∧ x = nI a := by
  have h0 : ¬ (x < 0 ∨ 30 < x) := by
    rintro (q | q)
    · exact h (Or.inl (Int32.lt_trans q (by decide +kernel)))
    · exact h (Or.inr q)
  obtain ⟨a, ha, rfl⟩ := jN (n := 30) (by decide +kernel) h0
  refine ⟨a, ?_, ha, rfl⟩
  cases a with
  | zero => exact absurd (Or.inl (by decide +kernel)) h
  | succ a => omega
theorem A_cracked {σ : jm_S} {p : jm_S → Prop} {S K : List Nat} (h : p σ) (x c n k w : Int32) : jSame σ S K p (jc 86 [.ref 0, .int x, .int c, .int n, .int k, .int w]) (jc 189 [.ref 61, .int x, .int c, .int n, .int k, .int w]) := by
  have hM : ∀ τ, jc 189 [.ref 61, .int x, .int c, .int n, .int k, .int w] τ = if (x < 1 ∨ 30 < x) then some (some (.long (-9223372036854775806)), τ) else if (c < 0 ∨ x < c) then some (some (.long (-9223372036854775806)), τ) else if (n < 0 ∨ x < n) then some (some (.long (-9223372036854775806)), τ) else if (k < 0 ∨ n < k) then some (some (.long (-9223372036854775806)), τ) else if (w < 0 ∨ 1 < w) then some (some (.long (-9223372036854775806)), τ) else jbl (jc 191 [(.int x), (.int c), (.int n), (.int k)] τ) (fun r10 τ10 => jbl (jc 192 [(.int x), (.int n)] τ10) (fun r11 τ11 => jv 189 85 [some (.ref 61), some (.int x), some (.int c), some (.int n), some (.int k), some (.int w), some (.long r10), none, some (.long r11), none, some (.long r10), none, some (.long r11), none, none, none] [] τ11)) := by
    intro τ
    rw [M_cracked_in, M_in x 1 30 1 30 (by decide +kernel) (by decide +kernel), jbi_some, M_in c 0 x 0 _ (by decide +kernel) rfl, jbi_some, M_in n 0 x 0 _ (by decide +kernel) rfl, jbi_some, M_in k 0 n 0 _ (by decide +kernel) rfl, jbi_some, M_isTwo, jbi_some, M_no, jbl_some, jno]
    by_cases h1 : x < 1 ∨ 30 < x
    · simp only [if_pos h1, if_true]
    · by_cases h2 : c < 0 ∨ x < c
      · simp only [if_neg h1, if_pos h2, if_true, j10, if_false]
      · by_cases h3 : n < 0 ∨ x < n
        · simp only [if_neg h1, if_neg h2, if_pos h3, if_true, j10, if_false]
        · by_cases h4 : k < 0 ∨ n < k
          · simp only [if_neg h1, if_neg h2, if_neg h3, if_pos h4, if_true, j10, if_false]
          · by_cases h5 : w < 0 ∨ 1 < w
            · simp only [if_neg h1, if_neg h2, if_neg h3, if_neg h4, if_pos h5, not_true_eq_false, j10, if_false]
            · simp only [if_neg h1, if_neg h2, if_neg h3, if_neg h4, if_neg h5, not_false_eq_true, if_true, j10, if_false]
  have hP : jc 86 [.ref 0, .int x, .int c, .int n, .int k, .int w] σ = if (x < 1 ∨ 30 < x) ∨ (n < 0 ∨ x < n) ∨ (k < 0 ∨ n < k) then some (some (.long (-9223372036854775806)), σ) else if (c < 0 ∨ x < c) then some (some (.long (-9223372036854775806)), σ) else if (w < 0 ∨ 1 < w) then some (some (.long (-9223372036854775806)), σ) else jbl (jc 88 [(.int x), (.int c), (.int n), (.int k)] σ) (fun r4 τ4 => jbl (jc 89 [(.int x), (.int n)] τ4) (fun r5 τ5 => jbl (jc 90 [(.long r4), (.long r5)] τ5) (fun r6 τ6 => (if ¬ w = 0 then (if (if r6 < (1 : Int64) then (1 : Int64) else r6) = 0 then none else some (some (.long (r5 / (if r6 < (1 : Int64) then (1 : Int64) else r6))), τ6)) else (if (if r6 < (1 : Int64) then (1 : Int64) else r6) = 0 then none else some (some (.long (r4 / (if r6 < (1 : Int64) then (1 : Int64) else r6))), τ6)))))) := by
    rw [P_cracked_in, P_isNoTrial, jbi_some, P_isOutside, jbi_some, P_isOutside, jbi_some]
    by_cases h1 : (x < 1 ∨ 30 < x) ∨ (n < 0 ∨ x < n) ∨ (k < 0 ∨ n < k)
    · simp only [if_pos h1, j10, not_false_eq_true, if_true]
    · by_cases h2 : c < 0 ∨ x < c
      · simp only [if_neg h1, if_pos h2, j10, not_false_eq_true, if_true, not_true_eq_false, if_false]
      · by_cases h5 : w < 0 ∨ 1 < w
        · simp only [if_neg h1, if_neg h2, if_pos h5, j10, not_true_eq_false, if_false]
        · simp only [if_neg h1, if_neg h2, if_neg h5, if_true, not_true_eq_false, if_false]
  by_cases h1 : x < 1 ∨ 30 < x
  · exact jSame_v h (hP.trans (if_pos (Or.inl h1))) ((hM σ).trans (if_pos h1))
  by_cases h3 : n < 0 ∨ x < n
  · refine jSame_v h (hP.trans (if_pos (Or.inr (Or.inl h3)))) ((hM σ).trans ?_)
    rw [if_neg h1, if_pos h3]; split <;> rfl
  by_cases h4 : k < 0 ∨ n < k
  · refine jSame_v h (hP.trans (if_pos (Or.inr (Or.inr h4)))) ((hM σ).trans ?_)
    rw [if_neg h1, if_neg h3, if_pos h4]; split <;> rfl
  have h134 : ¬ ((x < 1 ∨ 30 < x) ∨ (n < 0 ∨ x < n) ∨ (k < 0 ∨ n < k)) := by
    rintro (q | q | q)
    · exact h1 q
    · exact h3 q
    · exact h4 q
  rw [if_neg h134] at hP
  by_cases h2 : c < 0 ∨ x < c
  · refine jSame_v h (hP.trans (if_pos h2)) ((hM σ).trans ?_)
    rw [if_neg h1, if_pos h2]
  rw [if_neg h2] at hP
  by_cases h5 : w < 0 ∨ 1 < w
  · refine jSame_v h (hP.trans (if_pos h5)) ((hM σ).trans ?_)
    rw [if_neg h1, if_neg h2, if_neg h3, if_neg h4, if_pos h5]
  rw [if_neg h5] at hP
  have hM1 := hM σ
  rw [if_neg h1, if_neg h2, if_neg h3, if_neg h4, if_neg h5] at hM1
  obtain ⟨a, ha1, ha, rfl⟩ := jN1 h1
  obtain ⟨c, hc, rfl⟩ := jNb rfl (by omega) h2
  obtain ⟨n, hn, rfl⟩ := jNb rfl (by omega) h3
  obtain ⟨k, hk, rfl⟩ := jNb rfl (by omega) h4
  have hb := ch_eq a (by omega) n (by omega) hn
  have hw := wyN_lt (a := a) (c := c) (n := n) (k := k) (by omega) hc hn hk
  rw [P_ways (by omega) hc hn hk, jbl_some, P_choose (by omega) (by omega), jbl_some, P_eu (by omega) hb.2.2.2, jbl_some] at hP
  rw [M_justly (by omega) hc hn hk, jbl_some, M_over (by omega) (by omega), jbl_some, M_eu_loop _ _ _ _ _ _ _ _ _ _ _ (by omega) (by omega)] at hM1
  have hg1 : 0 < Nat.gcd (wyN a c n k) (chN a n) := Nat.gcd_pos_of_pos_right _ (by omega)
  have hg2 : Nat.gcd (wyN a c n k) (chN a n) < 2 ^ 28 := Nat.lt_of_le_of_lt (Nat.gcd_le_right _ (by omega)) hb.2.2.2
  have hlt : ¬ lN (Nat.gcd (wyN a c n k) (chN a n)) < (1 : Int64) := by
    rw [show (1 : Int64) = lN 1 by decide +kernel, pk_lLT (by omega) (by decide)]; omega
  rw [if_neg hlt] at hP
  have hne := jl_ne (b := Nat.gcd (wyN a c n k) (chN a n)) (by omega) (by omega)
  rw [if_neg hne, if_neg hne] at hP hM1
  by_cases hw0 : w = 0
  · rw [if_neg (fun q => q hw0)] at hP hM1
    exact jSame_v h hP hM1
  · rw [if_pos hw0] at hP hM1
    exact jSame_v h hP hM1
