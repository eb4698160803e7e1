/-! ===== span ===== -/
def sumN (f : Nat → Nat) : Nat → Nat
  | 0 => 0
  | n + 1 => sumN f n + f n
theorem sumN_0 {f : Nat → Nat} {n : Nat} (h : ∀ j, j < n → f j = 0) : sumN f n = 0 := by
  induction n with
  | zero => rfl
  | succ n ih => rw [sumN, ih (fun j hj => h j (by omega)), h n (by omega)]
theorem sumN_c {f g : Nat → Nat} {n : Nat} (h : ∀ j, j < n → f j = g j) : sumN f n = sumN g n := by
  induction n with
  | zero => rfl
  | succ n ih => rw [sumN, sumN, ih (fun j hj => h j (by omega)), h n (by omega)]
theorem sumN_t {f : Nat → Nat} {m : Nat} (h : ∀ j, m ≤ j → f j = 0) : ∀ n, m ≤ n → sumN f n = sumN f m := by
  intro n
  induction n with
  | zero => intro hn; rw [show m = 0 by omega]
  | succ n ih =>
    intro hn
    by_cases e : m = n + 1
    · rw [e]
    · rw [sumN, ih (by omega), h n (by omega)]; rfl
theorem P_wft_loop {a c n t : Nat} (ha : a < 31) (hc : c ≤ a) (hn : n ≤ a) (ht : t ≤ n) {f : Nat} (σ : jm_S) : ∀ (d j : Nat), j + d = t + 1 → jv 92 6 [some (.int (nI a)), some (.int (nI c)), some (.int (nI n)), some (.int (nI f)), some (.int (nI t)), some (.long (lN (sumN (fun j => if f ≤ j then wyN a c n j else 0) j))), none, some (.int (nI j))] [] σ = if f ≤ j then some (some (.long (lN (sumN (fun j => if f ≤ j then wyN a c n j else 0) (t + 1)))), σ) else jv 92 6 [some (.int (nI a)), some (.int (nI c)), some (.int (nI n)), some (.int (nI f)), some (.int (nI t)), some (.long (lN (sumN (fun j => if f ≤ j then wyN a c n j else 0) j))), none, some (.int (nI j))] [] σ := by
  intro d
  induction d with
  | zero =>
    intro j h
    by_cases hf : f ≤ j
    · rw [if_pos hf, P_waysFromTo_L6, show j = t + 1 by omega, if_pos (nI_lt (by omega) (by omega))]
    · rw [if_neg hf]
  | succ d ih =>
    intro j h
    by_cases hf : f ≤ j
    · rw [if_pos hf, P_waysFromTo_L6, if_neg (nI_nlt (by omega) (by omega)), P_ways ha hc hn (by omega), jbl_some, lN_add, nI_1]
      have e := ih (j + 1) (by omega)
      rw [if_pos (show f ≤ j + 1 by omega), sumN, if_pos hf] at e
      exact e
    · rw [if_neg hf]
theorem P_wft {a c n t f : Nat} (ha : a < 31) (hc : c ≤ a) (hn : n ≤ a) (ht : t ≤ n) (hf : f ≤ t) (σ : jm_S) : jc 92 [.int (nI a), .int (nI c), .int (nI n), .int (nI f), .int (nI t)] σ = some (some (.long (lN (sumN (fun j => if f ≤ j then wyN a c n j else 0) (t + 1)))), σ) := by
  have e := P_wft_loop ha hc hn ht (f := f) σ (t + 1 - f) f (by omega)
  rw [if_pos (Nat.le_refl f), sumN_0 (n := f) (fun j hj => if_neg (by omega))] at e
  rw [P_waysFromTo_in]
  exact e
/-- the sum that end and k tell -/
def spS (a n k : Nat) (z : Bool) (c : Nat) : Nat := sumN (fun j => if (if z = true then k ≤ j else j ≤ k) then wyN a c n j else 0) (n + 1)
theorem P_wft0 {a c n k : Nat} (ha : a < 31) (hc : c ≤ a) (hn : n ≤ a) (hk : k ≤ n) (σ : jm_S) : jc 92 [.int (nI a), .int (nI c), .int (nI n), .int (nI k), .int (nI n)] σ = some (some (.long (lN (spS a n k true c))), σ) := by
  rw [P_wft ha hc hn (Nat.le_refl n) hk]
  unfold spS
  simp
theorem P_wft1 {a c n k : Nat} (ha : a < 31) (hc : c ≤ a) (hn : n ≤ a) (hk : k ≤ n) (σ : jm_S) : jc 92 [.int (nI a), .int (nI c), .int (nI n), .int 0, .int (nI k)] σ = some (some (.long (lN (spS a n k false c))), σ) := by
  have e := P_wft ha hc hn hk (Nat.zero_le k) σ
  rw [nI_0] at e
  rw [e]
  unfold spS
  rw [sumN_t (m := k + 1) (fun j hj => by simp; omega) (n + 1) (by omega)]
  congr 5
  apply sumN_c
  intro j hj
  rw [if_pos (by omega), if_pos (by simp; omega)]
abbrev spG (a n k : Nat) (x : Int32) (z : Bool) (c : Nat) : Prop := x.toInt64 * lN (chN a n) < lN (spS a n k z c) * 256
def spD (G : Nat → Prop) (d : ∀ c, Decidable (G c)) : Nat → Int32
  | 0 => -1
  | m + 1 => @ite _ (G m) (d m) (nI m) (spD G d m)
def spU (G : Nat → Prop) (d : ∀ c, Decidable (G c)) : Nat → Nat → Int32
  | 0, _ => -1
  | k + 1, i => @ite _ (G i) (d i) (nI i) (spU G d k (i + 1))
theorem P_span_0 {a n k : Nat} (ha : a < 31) (hn : n ≤ a) (hk : k ≤ n) (x : Int32) (σ : jm_S) : ∀ (d i : Nat) (u v : Option Value), i + d = a + 1 → jv 91 37 [some (.ref 0), some (.int (nI a)), some (.int (nI n)), some (.int (nI k)), some (.int x), some (.int 0), some (.int (nI i)), u, v, none] [] σ = some (some (.int (spU (spG a n k x true) (fun _ => inferInstance) d i)), σ) := by
  intro d
  induction d with
  | zero => intro i u v h; rw [P_span_L37, show i = a + 1 by omega, if_pos (nI_lt (by omega) (by omega))]; rfl
  | succ d ih =>
    intro i u v h
    rw [P_span_L37, if_neg (nI_nlt (by omega) (by omega)), if_neg (by decide), if_neg (by decide), P_wft0 ha (by omega) hn hk, jbl_some, P_choose ha (by omega), jbl_some, nI_1, ih _ _ _ (by omega), spU]
    simp only [jcmp_le]
    by_cases hg : spG a n k x true i
    · rw [if_pos hg, if_neg (fun q => q hg)]
    · rw [if_neg hg, if_pos hg]
theorem P_span_1 {a n k : Nat} (ha : a < 31) (hn : n ≤ a) (hk : k ≤ n) (x : Int32) (σ : jm_S) : ∀ (d i : Nat) (u v : Option Value), i + d = a + 1 → jv 91 37 [some (.ref 0), some (.int (nI a)), some (.int (nI n)), some (.int (nI k)), some (.int x), some (.int 1), some (.int (nI i)), u, v, none] [] σ = some (some (.int (spD (spG a n k x false) (fun _ => inferInstance) d)), σ) := by
  intro d
  induction d with
  | zero => intro i u v h; rw [P_span_L37, show i = a + 1 by omega, if_pos (nI_lt (by omega) (by omega))]; rfl
  | succ d ih =>
    intro i u v h
    rw [P_span_L37, if_neg (nI_nlt (by omega) (by omega)), if_pos (by decide), if_pos (by decide), pk_sub (show i ≤ a by omega), show a - i = d by omega, P_wft1 ha (by omega) hn hk, jbl_some, P_choose ha (by omega), jbl_some, nI_1, ih _ _ _ (by omega), spD]
    simp only [jcmp_le]
    by_cases hg : spG a n k x false d
    · rw [if_pos hg, if_neg (fun q => q hg)]
    · rw [if_neg hg, if_pos hg]
theorem M_sum_0 {a c n k : Nat} (ha : a < 31) (hc : c ≤ a) (hn : n ≤ a) (hk : k ≤ n) (x4 : Int32) (x6 : Int64) (x8 : Int32) (σ : jm_S) : ∀ (d j : Nat), j + d = n + 1 → jv 193 83 [some (.ref 61), some (.int (nI a)), some (.int (nI n)), some (.int (nI k)), some (.int x4), some (.int 0), some (.long x6), none, some (.int x8), some (.int (nI c)), some (.long (lN (sumN (fun j => if (if true = true then k ≤ j else j ≤ k) then wyN a c n j else 0) j))), none, some (.int (nI j))] [] σ = jv 193 83 [some (.ref 61), some (.int (nI a)), some (.int (nI n)), some (.int (nI k)), some (.int x4), some (.int 0), some (.long x6), none, some (.int x8), some (.int (nI c)), some (.long (lN (spS a n k true c))), none, some (.int (nI (n + 1)))] [] σ := by
  intro d
  induction d with
  | zero => intro j h; rw [show j = n + 1 by omega]; rfl
  | succ d ih =>
    intro j h
    rw [M_span_L83, if_neg (nI_nlt (by omega) (by omega)), if_neg (by decide)]
    have e := ih (j + 1) (by omega)
    rw [sumN] at e
    by_cases hj : j < k
    · rw [if_pos (nI_lt hj (by omega)), nI_1, show (0 : Int64) = lN 0 by decide +kernel, lN_add]
      rw [if_neg (by simp; omega)] at e
      exact e
    · rw [if_neg (nI_nlt (by omega) (by omega)), M_justly ha hc hn (by omega), jbl_some, nI_1, lN_add]
      rw [if_pos (by simp; omega)] at e
      exact e
theorem M_sum_1 {a c n k : Nat} (ha : a < 31) (hc : c ≤ a) (hn : n ≤ a) (hk : k ≤ n) (x4 : Int32) (x6 : Int64) (x8 : Int32) (σ : jm_S) : ∀ (d j : Nat), j + d = n + 1 → jv 193 83 [some (.ref 61), some (.int (nI a)), some (.int (nI n)), some (.int (nI k)), some (.int x4), some (.int 1), some (.long x6), none, some (.int x8), some (.int (nI c)), some (.long (lN (sumN (fun j => if (if false = true then k ≤ j else j ≤ k) then wyN a c n j else 0) j))), none, some (.int (nI j))] [] σ = jv 193 83 [some (.ref 61), some (.int (nI a)), some (.int (nI n)), some (.int (nI k)), some (.int x4), some (.int 1), some (.long x6), none, some (.int x8), some (.int (nI c)), some (.long (lN (spS a n k false c))), none, some (.int (nI (n + 1)))] [] σ := by
  intro d
  induction d with
  | zero => intro j h; rw [show j = n + 1 by omega]; rfl
  | succ d ih =>
    intro j h
    rw [M_span_L83, if_neg (nI_nlt (by omega) (by omega)), if_pos (by decide)]
    have e := ih (j + 1) (by omega)
    rw [sumN] at e
    by_cases hj : k < j
    · rw [if_pos (nI_lt hj (by omega)), nI_1, show (0 : Int64) = lN 0 by decide +kernel, lN_add]
      rw [if_neg (by simp; omega)] at e
      exact e
    · rw [if_neg (nI_nlt (by omega) (by omega)), M_justly ha hc hn (by omega), jbl_some, nI_1, lN_add]
      rw [if_pos (by simp; omega)] at e
      exact e
theorem nI_ne_m1 {i : Nat} (h : i < 2 ^ 31) : ¬ nI i = -1 := fun e => by
  have := nI_pos h
  rw [e] at this
  exact this (by decide +kernel)
theorem M_span_0 {a n k : Nat} (ha : a < 31) (hn : n ≤ a) (hk : k ≤ n) (x : Int32) (σ : jm_S) : ∀ (d i : Nat) (f : Int32) (u v : Option Value), i + d = a + 1 → jv 193 71 [some (.ref 61), some (.int (nI a)), some (.int (nI n)), some (.int (nI k)), some (.int x), some (.int 0), some (.long (lN (chN a n))), none, some (.int f), some (.int (nI i)), u, none, v] [] σ = some (some (.int (if f = -1 then spU (spG a n k x true) (fun _ => inferInstance) d i else f)), σ) := by
  intro d
  induction d with
  | zero =>
    intro i f u v h
    rw [M_span_L71, show i = a + 1 by omega, if_pos (nI_lt (by omega) (by omega)), spU]
    by_cases hf : f = -1
    · rw [if_pos hf, hf]
    · rw [if_neg hf]
  | succ d ih =>
    intro i f u v h
    have e := M_sum_0 (c := i) ha (by omega) hn hk x (lN (chN a n)) f σ (n + 1) 0 (by omega)
    rw [nI_0, show sumN (fun j => if (if true = true then k ≤ j else j ≤ k) then wyN a i n j else 0) 0 = 0 from rfl, show lN 0 = 0 by decide +kernel] at e
    rw [M_span_L71, if_neg (nI_nlt (by omega) (by omega)), e, M_span_L83, if_pos (nI_lt (by omega) (by omega)), nI_1, ih _ _ _ _ (by omega), ih _ _ _ _ (by omega), ih _ _ _ _ (by omega), if_neg (show ¬ (0 : Int32) = 1 by decide), spU]
    simp only [jcmp_le]
    by_cases hg : spG a n k x true i
    · rw [if_pos hg, if_neg (fun q => q hg)]
      by_cases hf : f = -1
      · rw [if_neg (fun q => q hf), if_neg (nI_ne_m1 (by omega)), if_pos hf]
      · rw [if_pos hf, if_neg hf, if_neg hf]
    · rw [if_neg hg, if_pos hg]
theorem M_span_1 {a n k : Nat} (ha : a < 31) (hn : n ≤ a) (hk : k ≤ n) (x : Int32) (σ : jm_S) : ∀ (d i : Nat) (u v : Option Value), i + d = a + 1 → jv 193 71 [some (.ref 61), some (.int (nI a)), some (.int (nI n)), some (.int (nI k)), some (.int x), some (.int 1), some (.long (lN (chN a n))), none, some (.int (spD (spG a n k x false) (fun _ => inferInstance) i)), some (.int (nI i)), u, none, v] [] σ = some (some (.int (spD (spG a n k x false) (fun _ => inferInstance) (a + 1))), σ) := by
  intro d
  induction d with
  | zero => intro i u v h; rw [M_span_L71, show i = a + 1 by omega, if_pos (nI_lt (by omega) (by omega))]
  | succ d ih =>
    intro i u v h
    have e := M_sum_1 (c := i) ha (by omega) hn hk x (lN (chN a n)) (spD (spG a n k x false) (fun _ => inferInstance) i) σ (n + 1) 0 (by omega)
    rw [nI_0, show sumN (fun j => if (if false = true then k ≤ j else j ≤ k) then wyN a i n j else 0) 0 = 0 from rfl, show lN 0 = 0 by decide +kernel] at e
    rw [M_span_L71, if_neg (nI_nlt (by omega) (by omega)), e, M_span_L83, if_pos (nI_lt (by omega) (by omega)), nI_1, if_pos (show (1 : Int32) = 1 from rfl)]
    simp only [jcmp_le]
    by_cases hg : spG a n k x false i
    · rw [if_neg (fun q => q hg)]
      have e2 := ih (i + 1) (some (.long (lN (spS a n k false i)))) (some (.int 1)) (by omega)
      rw [spD, if_pos hg] at e2
      exact e2
    · rw [if_pos hg]
      have e2 := ih (i + 1) (some (.long (lN (spS a n k false i)))) (some (.int 0)) (by omega)
      rw [spD, if_neg hg] at e2
      exact e2
theorem A_span {σ : jm_S} {p : jm_S → Prop} {S K : List Nat} (h : p σ) (y n k x w : Int32) : jSame σ S K p (jc 91 [.ref 0, .int y, .int n, .int k, .int x, .int w]) (jc 193 [.ref 61, .int y, .int n, .int k, .int x, .int w]) := by
  have hM : ∀ τ, jc 193 [.ref 61, .int y, .int n, .int k, .int x, .int w] τ = if (y < 1 ∨ 30 < y) then some (some (.int (-2)), τ) else if (n < 0 ∨ y < n) then some (some (.int (-2)), τ) else if (k < 0 ∨ n < k) then some (some (.int (-2)), τ) else if (x < 0 ∨ 255 < x) then some (some (.int (-2)), τ) else if (w < 0 ∨ 1 < w) then some (some (.int (-2)), τ) else jbl (jc 192 [(.int y), (.int n)] τ) (fun r6 τ6 => jv 193 71 [some (.ref 61), some (.int y), some (.int n), some (.int k), some (.int x), some (.int w), some (.long r6), none, some (.int (-1)), some (.int 0), none, none, none] [] τ6) := by
    intro τ
    rw [M_span_in, M_in y 1 30 1 30 (by decide +kernel) (by decide +kernel), jbi_some, M_in n 0 y 0 _ (by decide +kernel) rfl, jbi_some, M_in k 0 n 0 _ (by decide +kernel) rfl, jbi_some, M_in x 0 255 0 255 (by decide +kernel) (by decide +kernel), jbi_some, M_isTwo, jbi_some]
    by_cases h1 : y < 1 ∨ 30 < y
    · simp only [if_pos h1, if_true]
    · by_cases h2 : n < 0 ∨ y < n
      · simp only [if_neg h1, if_pos h2, if_true, j10, if_false]
      · by_cases h3 : k < 0 ∨ n < k
        · simp only [if_neg h1, if_neg h2, if_pos h3, if_true, j10, if_false]
        · by_cases h4 : x < 0 ∨ 255 < x
          · simp only [if_neg h1, if_neg h2, if_neg h3, if_pos h4, if_true, j10, if_false]
          · by_cases h5 : w < 0 ∨ 1 < w
            · simp only [if_neg h1, if_neg h2, if_neg h3, if_neg h4, if_pos h5, not_true_eq_false, j10, if_false]
            · simp only [if_neg h1, if_neg h2, if_neg h3, if_neg h4, if_neg h5, not_false_eq_true, if_true, j10, if_false]
  have hP : jc 91 [.ref 0, .int y, .int n, .int k, .int x, .int w] σ = if (y < 1 ∨ 30 < y) ∨ (n < 0 ∨ y < n) ∨ (k < 0 ∨ n < k) then some (some (.int (-2)), σ) else if (x < 0 ∨ 255 < x) then some (some (.int (-2)), σ) else if (w < 0 ∨ 1 < w) then some (some (.int (-2)), σ) else jv 91 37 [some (.ref 0), some (.int y), some (.int n), some (.int k), some (.int x), some (.int w), some (.int 0), none, none, none] [] σ := by
    rw [P_span_in, P_isNoTrial, jbi_some, P_isOutside, jbi_some, P_isOutside, jbi_some]
    by_cases h1 : (y < 1 ∨ 30 < y) ∨ (n < 0 ∨ y < n) ∨ (k < 0 ∨ n < k)
    · simp only [if_pos h1, j10, not_false_eq_true, if_true]
    · by_cases h2 : x < 0 ∨ 255 < x
      · simp only [if_neg h1, if_pos h2, j10, not_false_eq_true, if_true, not_true_eq_false, if_false]
      · by_cases h5 : w < 0 ∨ 1 < w
        · simp only [if_neg h1, if_neg h2, if_pos h5, j10, not_true_eq_false, if_false]
        · simp only [if_neg h1, if_neg h2, if_neg h5, if_true, not_true_eq_false, if_false]
  by_cases h1 : y < 1 ∨ 30 < y
  · exact jSame_v h (hP.trans (if_pos (Or.inl h1))) ((hM σ).trans (if_pos h1))
  by_cases h3 : n < 0 ∨ y < n
  · refine jSame_v h (hP.trans (if_pos (Or.inr (Or.inl h3)))) ((hM σ).trans ?_)
    rw [if_neg h1, if_pos h3]
  by_cases h4 : k < 0 ∨ n < k
  · refine jSame_v h (hP.trans (if_pos (Or.inr (Or.inr h4)))) ((hM σ).trans ?_)
    rw [if_neg h1, if_neg h3, if_pos h4]
  have h134 : ¬ ((y < 1 ∨ 30 < y) ∨ (n < 0 ∨ y < n) ∨ (k < 0 ∨ n < k)) := by
    rintro (q | q | q)
    · exact h1 q
    · exact h3 q
    · exact h4 q
  rw [if_neg h134] at hP
  by_cases h2 : x < 0 ∨ 255 < x
  · refine jSame_v h (hP.trans (if_pos h2)) ((hM σ).trans ?_)
    rw [if_neg h1, if_neg h3, if_neg h4, if_pos h2]
  rw [if_neg h2] at hP
  by_cases h5 : w < 0 ∨ 1 < w
  · refine jSame_v h (hP.trans (if_pos h5)) ((hM σ).trans ?_)
    rw [if_neg h1, if_neg h3, if_neg h4, if_neg h2, if_pos h5]
  rw [if_neg h5] at hP
  have hM1 := hM σ
  rw [if_neg h1, if_neg h3, if_neg h4, if_neg h2, if_neg h5] at hM1
  obtain ⟨a, ha1, ha, rfl⟩ := jN1 h1
  obtain ⟨n, hn, rfl⟩ := jNb rfl (by omega) h3
  obtain ⟨k, hk, rfl⟩ := jNb rfl (by omega) h4
  rw [M_over (by omega) (by omega), jbl_some] at hM1
  obtain ⟨e, he, rfl⟩ := jN (n := 1) (by decide +kernel) h5
  match e, he with
  | 0, _ =>
    rw [show nI 0 = 0 by decide +kernel] at hP hM1 ⊢
    have p0 := P_span_0 (a := a) (n := n) (k := k) (by omega) hn hk x σ (a + 1) 0 none none (by omega)
    have m0 := M_span_0 (a := a) (n := n) (k := k) (by omega) hn hk x σ (a + 1) 0 (-1) none none (by omega)
    rw [show nI 0 = 0 by decide +kernel] at p0 m0
    rw [if_pos rfl] at m0
    exact jSame_v h (hP.trans p0) (hM1.trans m0)
  | 1, _ =>
    rw [show nI 1 = 1 by decide +kernel] at hP hM1 ⊢
    have p0 := P_span_1 (a := a) (n := n) (k := k) (by omega) hn hk x σ (a + 1) 0 none none (by omega)
    have m0 := M_span_1 (a := a) (n := n) (k := k) (by omega) hn hk x σ (a + 1) 0 none none (by omega)
    rw [show nI 0 = 0 by decide +kernel] at p0 m0
    exact jSame_v h (hP.trans p0) (hM1.trans m0)
  | n + 2, h => omega
