/-! ===== numbers in texts ===== -/
def dgF (y : Nat → Int32) (n : Nat) : Nat → Nat → Int32 → Int32 × Nat
  | 0, p, v => (v, p)
  | k + 1, p, v => if p < n ∧ ¬ (y p < 48 ∨ 57 < y p) then dgF y n k (p + 1) (10 * v + y p - 48) else (v, p)
theorem dgF_ge (y : Nat → Int32) (n : Nat) : ∀ k p v, p ≤ (dgF y n k p v).2 ∧ ((dgF y n k p v).2 ≤ p ∨ (dgF y n k p v).2 ≤ n) := by
  intro k
  induction k with
  | zero => intro p v; exact ⟨Nat.le_refl p, Or.inl (Nat.le_refl p)⟩
  | succ k ih =>
    intro p v
    rw [dgF]
    split
    · next h =>
      obtain ⟨a, b⟩ := ih (p + 1) (10 * v + y p - 48)
      exact ⟨by omega, by omega⟩
    · exact ⟨Nat.le_refl p, Or.inl (Nat.le_refl p)⟩
theorem jup_up (σ : jm_S) (a k : Nat) (x z : Int32) : jm_up (jm_up σ a k x) a k z = jm_up σ a k z := by
  funext b j
  by_cases hb : b = a
  · subst hb; rw [jup_s, jup_s, jup_s, jupd, jupd, jupd]; split <;> rfl
  · rw [jup_n _ _ _ hb, jup_n _ _ _ hb, jup_n _ _ _ hb]
theorem jup_id {σ : jm_S} {a k : Nat} {x : Int32} (h : σ a k = x) : jm_up σ a k x = σ := by
  funext b j
  by_cases hb : b = a
  · subst hb; rw [jup_s, jupd]; split
    · next e => rw [e, h]
    · rfl
  · rw [jup_n _ _ _ hb]
theorem jup_c (σ : jm_S) (a k j : Nat) (x z : Int32) (h : k ≠ j) : jm_up (jm_up σ a k x) a j z = jm_up (jm_up σ a j z) a k x := by
  funext b i
  by_cases hb : b = a
  · subst hb; rw [jup_s, jup_s, jup_s, jup_s, jupd, jupd, jupd, jupd]
    by_cases e : i = j
    · rw [if_pos e, if_neg (by omega), if_pos e]
    · rw [if_neg e]; split
      · rfl
      · rfl
  · rw [jup_n _ _ _ hb, jup_n _ _ _ hb, jup_n _ _ _ hb, jup_n _ _ _ hb]
/-- a text as the class holds it: size n, at p, no fault -/
def tx (σ : jm_S) (a b : Nat) (n : Nat) (y : Nat → Int32) : Prop := σ a 1 = nI n ∧ ∀ j, j < n → σ b j = y j
abbrev nbad (s : Nat) (lo hi : Int32) (r : Int32 × Nat) : Prop := r.2 = s ∨ r.1 < lo ∨ hi < r.1
theorem nbad_dec (s : Nat) (lo hi : Int32) (r : Int32 × Nat) : nbad s lo hi r ∨ ¬ nbad s lo hi r := Classical.em _
theorem Text_failAt_42 (x : Int32) (σ : jm_S) (h : σ 42 3 = -1) : jc 27 [.ref 42, .int x] σ = some (none, jm_up σ 42 3 x) := by
  rw [Text_failAt_42_in, if_neg (fun q => q h)]
theorem Text_takes_42 {n p : Nat} {y : Nat → Int32} (x : Int32) (σ : jm_S) (h : tx σ 42 43 n y) (hn : n ≤ 60) (hp : σ 42 2 = nI p) (hpn : p ≤ n) (h3 : σ 42 3 = -1) : jc 25 [.ref 42, .int x] σ = if p < n ∧ y p = x then some (some (.int 1), jm_up σ 42 2 (nI (p + 1))) else some (some (.int 0), σ) := by
  rw [Text_takes_42_in, if_neg (fun q => q h3), h.1, hp]
  by_cases c : p < n
  · rw [if_neg (nI_ge c (by omega))]
    simp only [nI_clamp (show p < 2 ^ 31 by omega), jbad2 (show p < 60 by omega) (by decide), if_false, h.2 p c, nI_1]
    by_cases e : y p = x
    · rw [if_pos e, if_pos ⟨c, e⟩]
    · rw [if_neg e, if_neg (fun q => e q.2)]
  · rw [if_pos (nI_le (by omega) (by omega)), if_neg (fun q => c q.1)]
theorem Text_takesF_42 (x : Int32) (σ : jm_S) (h3 : ¬ σ 42 3 = -1) : jc 25 [.ref 42, .int x] σ = some (some (.int 0), σ) := by
  rw [Text_takes_42_in, if_pos h3]
theorem Text_needs_42 {n p : Nat} {y : Nat → Int32} (x : Int32) (σ : jm_S) (h : tx σ 42 43 n y) (hn : n ≤ 60) (hp : σ 42 2 = nI p) (hpn : p ≤ n) (h3 : σ 42 3 = -1) : jc 28 [.ref 42, .int x] σ = if p < n ∧ y p = x then some (none, jm_up σ 42 2 (nI (p + 1))) else some (none, jm_up σ 42 3 (nI p)) := by
  rw [Text_needs_42_in, Text_takes_42 x σ h hn hp hpn h3]
  by_cases c : p < n ∧ y p = x
  · rw [if_pos c, if_pos c, jbi_some, if_pos (by decide)]
  · rw [if_neg c, if_neg c, jbi_some, if_neg (by decide), hp, Text_failAt_42 _ σ h3, jbv_some]
theorem Text_needsF_42 (x : Int32) (σ : jm_S) (h3 : ¬ σ 42 3 = -1) : jc 28 [.ref 42, .int x] σ = some (none, σ) := by
  rw [Text_needs_42_in, Text_takesF_42 x σ h3, jbi_some, if_neg (by decide), Text_failAt_42_in, if_pos h3, jbv_some]
theorem Text_goes_42 {n p : Nat} {y : Nat → Int32} (x : Int32) (σ : jm_S) (h : tx σ 42 43 n y) (hn : n ≤ 60) (hp : σ 42 2 = nI p) (hpn : p ≤ n) (h3 : σ 42 3 = -1) : jc 30 [.ref 42, .int x] σ = if p < n then (if y p = x then some (some (.int 1), jm_up σ 42 2 (nI (p + 1))) else some (some (.int 0), jm_up σ 42 3 (nI p))) else some (some (.int 0), σ) := by
  rw [Text_goesOnBehind_42_in, if_neg (fun q => q h3), h.1, hp, Text_needs_42 x σ h hn hp hpn h3]
  by_cases c : p < n
  · rw [if_pos (nI_lt c (by omega)), if_pos c]
    by_cases e : y p = x
    · rw [if_pos ⟨c, e⟩, if_pos e, jbv_some, jup_s, jupd, if_neg (show ¬ (3 : Nat) = 2 by decide), if_neg (fun (q : ¬ σ 42 3 = -1) => q h3)]
    · rw [if_neg (fun q => e q.2), if_neg e, jbv_some, jup_s, jupd, if_pos rfl, if_pos (nI_ne_m1 (by omega))]
  · rw [if_neg (nI_nlt (by omega) (by omega)), if_neg c]
theorem Text_goesF_42 (x : Int32) (σ : jm_S) (h3 : ¬ σ 42 3 = -1) : jc 30 [.ref 42, .int x] σ = some (some (.int 0), σ) := by
  rw [Text_goesOnBehind_42_in, if_pos h3]
theorem Text_end_42 {s p : Nat} (hp : s ≤ p) (hp2 : p ≤ 60) (lo hi v : Int32) (σ : jm_S) (h2 : σ 42 2 = nI p) (h3 : σ 42 3 = -1) : (if (σ 42 2) = nI s then jbv (jc 27 [(.ref 42), (.int (nI s))] σ) (fun τ1 => some (some (.int v), τ1)) else (if v < lo then jbv (jc 27 [(.ref 42), (.int (nI s))] σ) (fun τ2 => some (some (.int v), τ2)) else (if v ≤ hi then some (some (.int v), σ) else jbv (jc 27 [(.ref 42), (.int (nI s))] σ) (fun τ3 => some (some (.int v), τ3))))) = some (some (.int v), ite (nbad s lo hi (v, p)) (jm_up (jm_up σ 42 2 (nI p)) 42 3 (nI s)) (jm_up σ 42 2 (nI p))) := by
  rw [Text_failAt_42 _ σ h3, jbv_some, jup_id h2, h2]
  by_cases c : p = s
  · rw [if_pos (by rw [c]), if_pos (show nbad s lo hi (v, p) from Or.inl c)]
  · rw [if_neg (fun q => c ((nI_eq (by omega) (by omega)).mp q))]
    by_cases c1 : v < lo
    · rw [if_pos c1, if_pos (show nbad s lo hi (v, p) from Or.inr (Or.inl c1))]
    · rw [if_neg c1]
      by_cases c2 : hi < v
      · rw [if_neg (Int32.not_le.mpr c2), if_pos (show nbad s lo hi (v, p) from Or.inr (Or.inr c2))]
      · rw [if_pos (Int32.not_lt.mp c2), if_neg (show ¬ nbad s lo hi (v, p) by
          rintro (q | q | q)
          · exact c q
          · exact c1 q
          · exact c2 q)]
theorem Text_number_42_loop {n s K : Nat} {y : Nat → Int32} (hn : n ≤ 60) (hK : K ≤ 3) (lo hi : Int32) : ∀ (k p : Nat) (v : Int32) (σ : jm_S), s ≤ p → p ≤ n → p - s + k = K → tx σ 42 43 n y → σ 42 2 = nI p → σ 42 3 = -1 → jv 26 19 [some (.ref 42), some (.int (nI K)), some (.int lo), some (.int hi), some (.int (nI s)), some (.int v)] [] σ = some (some (.int (dgF y n k p v).1), ite (nbad s lo hi (dgF y n k p v)) (jm_up (jm_up σ 42 2 (nI (dgF y n k p v).2)) 42 3 (nI s)) (jm_up σ 42 2 (nI (dgF y n k p v).2))) := by
  intro k
  induction k with
  | zero =>
    intro p v σ h1 h2 h4 ht h5 h6
    rw [Text_number_42_L19]
    rw [Text_end_42 h1 (by omega) lo hi v σ h5 h6, ht.1, h5, pk_sub h1, dgF]
    by_cases c : p < n
    · rw [if_neg (nI_ge c (by omega)), if_pos (nI_le (by omega) (by omega))]
    · rw [if_pos (nI_le (by omega) (by omega))]
  | succ k ih =>
    intro p v σ h1 h2 h4 ht h5 h6
    rw [Text_number_42_L19, Text_end_42 h1 (by omega) lo hi v σ h5 h6, ht.1, h5, pk_sub h1, dgF]
    by_cases c : p < n
    · rw [if_neg (nI_ge c (by omega)), if_neg (nI_ge (by omega) (by omega))]
      simp only [nI_clamp (show p < 2 ^ 31 by omega), jbad2 (show p < 60 by omega) (by decide), if_false, ht.2 p c, nI_1]
      by_cases c1 : y p < 48
      · rw [if_pos c1, if_neg (show ¬ (p < n ∧ ¬ (y p < 48 ∨ 57 < y p)) from fun q => q.2 (Or.inl c1))]
      · rw [if_neg c1]
        by_cases c2 : 57 < y p
        · rw [if_pos c2, if_neg (show ¬ (p < n ∧ ¬ (y p < 48 ∨ 57 < y p)) from fun q => q.2 (Or.inr c2))]
        · rw [if_neg c2, if_pos (show p < n ∧ ¬ (y p < 48 ∨ 57 < y p) from ⟨c, not_or.mpr ⟨c1, c2⟩⟩)]
          rw [ih (p + 1) _ (jm_up σ 42 2 (nI (p + 1))) (by omega) (by omega) (by omega) ⟨by rw [jup_s, jupd, if_neg (by decide)]; exact ht.1, fun j hj => by rw [jup_n _ _ _ (by decide)]; exact ht.2 j hj⟩ (by rw [jup_s, jupd, if_pos rfl]) (by rw [jup_s, jupd, if_neg (by decide)]; exact h6), jup_up]
    · rw [if_pos (nI_le (by omega) (by omega)), if_neg (show ¬ (p < n ∧ ¬ (y p < 48 ∨ 57 < y p)) from fun q => c q.1)]
theorem Text_number_42 {n s K : Nat} {y : Nat → Int32} (hn : n ≤ 60) (hK : K ≤ 3) (lo hi : Int32) (σ : jm_S) (hs : s ≤ n) (ht : tx σ 42 43 n y) (h2 : σ 42 2 = nI s) (h3 : σ 42 3 = -1) : jc 26 [.ref 42, .int (nI K), .int lo, .int hi] σ = some (some (.int (dgF y n K s 0).1), ite (nbad s lo hi (dgF y n K s 0)) (jm_up (jm_up σ 42 2 (nI (dgF y n K s 0).2)) 42 3 (nI s)) (jm_up σ 42 2 (nI (dgF y n K s 0).2))) := by
  rw [Text_number_42_in, if_pos h3, h2]
  exact Text_number_42_loop hn hK lo hi K s 0 σ (Nat.le_refl s) hs (by omega) ht h2 h3
theorem Text_numberF_42 (k lo hi : Int32) (σ : jm_S) (h3 : ¬ σ 42 3 = -1) : jc 26 [.ref 42, .int k, .int lo, .int hi] σ = some (some (.int lo), σ) := by
  rw [Text_number_42_in, if_neg h3]
theorem Text_failAt_44 (x : Int32) (σ : jm_S) (h : σ 44 3 = -1) : jc 27 [.ref 44, .int x] σ = some (none, jm_up σ 44 3 x) := by
  rw [Text_failAt_44_in, if_neg (fun q => q h)]
theorem Text_takes_44 {n p : Nat} {y : Nat → Int32} (x : Int32) (σ : jm_S) (h : tx σ 44 45 n y) (hn : n ≤ 30) (hp : σ 44 2 = nI p) (hpn : p ≤ n) (h3 : σ 44 3 = -1) : jc 25 [.ref 44, .int x] σ = if p < n ∧ y p = x then some (some (.int 1), jm_up σ 44 2 (nI (p + 1))) else some (some (.int 0), σ) := by
  rw [Text_takes_44_in, if_neg (fun q => q h3), h.1, hp]
  by_cases c : p < n
  · rw [if_neg (nI_ge c (by omega))]
    simp only [nI_clamp (show p < 2 ^ 31 by omega), jbad2 (show p < 30 by omega) (by decide), if_false, h.2 p c, nI_1]
    by_cases e : y p = x
    · rw [if_pos e, if_pos ⟨c, e⟩]
    · rw [if_neg e, if_neg (fun q => e q.2)]
  · rw [if_pos (nI_le (by omega) (by omega)), if_neg (fun q => c q.1)]
theorem Text_takesF_44 (x : Int32) (σ : jm_S) (h3 : ¬ σ 44 3 = -1) : jc 25 [.ref 44, .int x] σ = some (some (.int 0), σ) := by
  rw [Text_takes_44_in, if_pos h3]
theorem Text_needs_44 {n p : Nat} {y : Nat → Int32} (x : Int32) (σ : jm_S) (h : tx σ 44 45 n y) (hn : n ≤ 30) (hp : σ 44 2 = nI p) (hpn : p ≤ n) (h3 : σ 44 3 = -1) : jc 28 [.ref 44, .int x] σ = if p < n ∧ y p = x then some (none, jm_up σ 44 2 (nI (p + 1))) else some (none, jm_up σ 44 3 (nI p)) := by
  rw [Text_needs_44_in, Text_takes_44 x σ h hn hp hpn h3]
  by_cases c : p < n ∧ y p = x
  · rw [if_pos c, if_pos c, jbi_some, if_pos (by decide)]
  · rw [if_neg c, if_neg c, jbi_some, if_neg (by decide), hp, Text_failAt_44 _ σ h3, jbv_some]
theorem Text_needsF_44 (x : Int32) (σ : jm_S) (h3 : ¬ σ 44 3 = -1) : jc 28 [.ref 44, .int x] σ = some (none, σ) := by
  rw [Text_needs_44_in, Text_takesF_44 x σ h3, jbi_some, if_neg (by decide), Text_failAt_44_in, if_pos h3, jbv_some]
theorem Text_goes_44 {n p : Nat} {y : Nat → Int32} (x : Int32) (σ : jm_S) (h : tx σ 44 45 n y) (hn : n ≤ 30) (hp : σ 44 2 = nI p) (hpn : p ≤ n) (h3 : σ 44 3 = -1) : jc 30 [.ref 44, .int x] σ = if p < n then (if y p = x then some (some (.int 1), jm_up σ 44 2 (nI (p + 1))) else some (some (.int 0), jm_up σ 44 3 (nI p))) else some (some (.int 0), σ) := by
  rw [Text_goesOnBehind_44_in, if_neg (fun q => q h3), h.1, hp, Text_needs_44 x σ h hn hp hpn h3]
  by_cases c : p < n
  · rw [if_pos (nI_lt c (by omega)), if_pos c]
    by_cases e : y p = x
    · rw [if_pos ⟨c, e⟩, if_pos e, jbv_some, jup_s, jupd, if_neg (show ¬ (3 : Nat) = 2 by decide), if_neg (fun (q : ¬ σ 44 3 = -1) => q h3)]
    · rw [if_neg (fun q => e q.2), if_neg e, jbv_some, jup_s, jupd, if_pos rfl, if_pos (nI_ne_m1 (by omega))]
  · rw [if_neg (nI_nlt (by omega) (by omega)), if_neg c]
theorem Text_goesF_44 (x : Int32) (σ : jm_S) (h3 : ¬ σ 44 3 = -1) : jc 30 [.ref 44, .int x] σ = some (some (.int 0), σ) := by
  rw [Text_goesOnBehind_44_in, if_pos h3]
theorem Text_end_44 {s p : Nat} (hp : s ≤ p) (hp2 : p ≤ 60) (lo hi v : Int32) (σ : jm_S) (h2 : σ 44 2 = nI p) (h3 : σ 44 3 = -1) : (if (σ 44 2) = nI s then jbv (jc 27 [(.ref 44), (.int (nI s))] σ) (fun τ1 => some (some (.int v), τ1)) else (if v < lo then jbv (jc 27 [(.ref 44), (.int (nI s))] σ) (fun τ2 => some (some (.int v), τ2)) else (if v ≤ hi then some (some (.int v), σ) else jbv (jc 27 [(.ref 44), (.int (nI s))] σ) (fun τ3 => some (some (.int v), τ3))))) = some (some (.int v), ite (nbad s lo hi (v, p)) (jm_up (jm_up σ 44 2 (nI p)) 44 3 (nI s)) (jm_up σ 44 2 (nI p))) := by
  rw [Text_failAt_44 _ σ h3, jbv_some, jup_id h2, h2]
  by_cases c : p = s
  · rw [if_pos (by rw [c]), if_pos (show nbad s lo hi (v, p) from Or.inl c)]
  · rw [if_neg (fun q => c ((nI_eq (by omega) (by omega)).mp q))]
    by_cases c1 : v < lo
    · rw [if_pos c1, if_pos (show nbad s lo hi (v, p) from Or.inr (Or.inl c1))]
    · rw [if_neg c1]
      by_cases c2 : hi < v
      · rw [if_neg (Int32.not_le.mpr c2), if_pos (show nbad s lo hi (v, p) from Or.inr (Or.inr c2))]
      · rw [if_pos (Int32.not_lt.mp c2), if_neg (show ¬ nbad s lo hi (v, p) by
          rintro (q | q | q)
          · exact c q
          · exact c1 q
          · exact c2 q)]
theorem Text_number_44_loop {n s K : Nat} {y : Nat → Int32} (hn : n ≤ 30) (hK : K ≤ 3) (lo hi : Int32) : ∀ (k p : Nat) (v : Int32) (σ : jm_S), s ≤ p → p ≤ n → p - s + k = K → tx σ 44 45 n y → σ 44 2 = nI p → σ 44 3 = -1 → jv 26 19 [some (.ref 44), some (.int (nI K)), some (.int lo), some (.int hi), some (.int (nI s)), some (.int v)] [] σ = some (some (.int (dgF y n k p v).1), ite (nbad s lo hi (dgF y n k p v)) (jm_up (jm_up σ 44 2 (nI (dgF y n k p v).2)) 44 3 (nI s)) (jm_up σ 44 2 (nI (dgF y n k p v).2))) := by
  intro k
  induction k with
  | zero =>
    intro p v σ h1 h2 h4 ht h5 h6
    rw [Text_number_44_L19]
    rw [Text_end_44 h1 (by omega) lo hi v σ h5 h6, ht.1, h5, pk_sub h1, dgF]
    by_cases c : p < n
    · rw [if_neg (nI_ge c (by omega)), if_pos (nI_le (by omega) (by omega))]
    · rw [if_pos (nI_le (by omega) (by omega))]
  | succ k ih =>
    intro p v σ h1 h2 h4 ht h5 h6
    rw [Text_number_44_L19, Text_end_44 h1 (by omega) lo hi v σ h5 h6, ht.1, h5, pk_sub h1, dgF]
    by_cases c : p < n
    · rw [if_neg (nI_ge c (by omega)), if_neg (nI_ge (by omega) (by omega))]
      simp only [nI_clamp (show p < 2 ^ 31 by omega), jbad2 (show p < 30 by omega) (by decide), if_false, ht.2 p c, nI_1]
      by_cases c1 : y p < 48
      · rw [if_pos c1, if_neg (show ¬ (p < n ∧ ¬ (y p < 48 ∨ 57 < y p)) from fun q => q.2 (Or.inl c1))]
      · rw [if_neg c1]
        by_cases c2 : 57 < y p
        · rw [if_pos c2, if_neg (show ¬ (p < n ∧ ¬ (y p < 48 ∨ 57 < y p)) from fun q => q.2 (Or.inr c2))]
        · rw [if_neg c2, if_pos (show p < n ∧ ¬ (y p < 48 ∨ 57 < y p) from ⟨c, not_or.mpr ⟨c1, c2⟩⟩)]
          rw [ih (p + 1) _ (jm_up σ 44 2 (nI (p + 1))) (by omega) (by omega) (by omega) ⟨by rw [jup_s, jupd, if_neg (by decide)]; exact ht.1, fun j hj => by rw [jup_n _ _ _ (by decide)]; exact ht.2 j hj⟩ (by rw [jup_s, jupd, if_pos rfl]) (by rw [jup_s, jupd, if_neg (by decide)]; exact h6), jup_up]
    · rw [if_pos (nI_le (by omega) (by omega)), if_neg (show ¬ (p < n ∧ ¬ (y p < 48 ∨ 57 < y p)) from fun q => c q.1)]
theorem Text_number_44 {n s K : Nat} {y : Nat → Int32} (hn : n ≤ 30) (hK : K ≤ 3) (lo hi : Int32) (σ : jm_S) (hs : s ≤ n) (ht : tx σ 44 45 n y) (h2 : σ 44 2 = nI s) (h3 : σ 44 3 = -1) : jc 26 [.ref 44, .int (nI K), .int lo, .int hi] σ = some (some (.int (dgF y n K s 0).1), ite (nbad s lo hi (dgF y n K s 0)) (jm_up (jm_up σ 44 2 (nI (dgF y n K s 0).2)) 44 3 (nI s)) (jm_up σ 44 2 (nI (dgF y n K s 0).2))) := by
  rw [Text_number_44_in, if_pos h3, h2]
  exact Text_number_44_loop hn hK lo hi K s 0 σ (Nat.le_refl s) hs (by omega) ht h2 h3
theorem Text_numberF_44 (k lo hi : Int32) (σ : jm_S) (h3 : ¬ σ 44 3 = -1) : jc 26 [.ref 44, .int k, .int lo, .int hi] σ = some (some (.int lo), σ) := by
  rw [Text_number_44_in, if_neg h3]
theorem Text_failAt_47 (x : Int32) (σ : jm_S) (h : σ 47 3 = -1) : jc 27 [.ref 47, .int x] σ = some (none, jm_up σ 47 3 x) := by
  rw [Text_failAt_47_in, if_neg (fun q => q h)]
theorem Text_takes_47 {n p : Nat} {y : Nat → Int32} (x : Int32) (σ : jm_S) (h : tx σ 47 48 n y) (hn : n ≤ 30) (hp : σ 47 2 = nI p) (hpn : p ≤ n) (h3 : σ 47 3 = -1) : jc 25 [.ref 47, .int x] σ = if p < n ∧ y p = x then some (some (.int 1), jm_up σ 47 2 (nI (p + 1))) else some (some (.int 0), σ) := by
  rw [Text_takes_47_in, if_neg (fun q => q h3), h.1, hp]
  by_cases c : p < n
  · rw [if_neg (nI_ge c (by omega))]
    simp only [nI_clamp (show p < 2 ^ 31 by omega), jbad2 (show p < 30 by omega) (by decide), if_false, h.2 p c, nI_1]
    by_cases e : y p = x
    · rw [if_pos e, if_pos ⟨c, e⟩]
    · rw [if_neg e, if_neg (fun q => e q.2)]
  · rw [if_pos (nI_le (by omega) (by omega)), if_neg (fun q => c q.1)]
theorem Text_takesF_47 (x : Int32) (σ : jm_S) (h3 : ¬ σ 47 3 = -1) : jc 25 [.ref 47, .int x] σ = some (some (.int 0), σ) := by
  rw [Text_takes_47_in, if_pos h3]
theorem Text_needs_47 {n p : Nat} {y : Nat → Int32} (x : Int32) (σ : jm_S) (h : tx σ 47 48 n y) (hn : n ≤ 30) (hp : σ 47 2 = nI p) (hpn : p ≤ n) (h3 : σ 47 3 = -1) : jc 28 [.ref 47, .int x] σ = if p < n ∧ y p = x then some (none, jm_up σ 47 2 (nI (p + 1))) else some (none, jm_up σ 47 3 (nI p)) := by
  rw [Text_needs_47_in, Text_takes_47 x σ h hn hp hpn h3]
  by_cases c : p < n ∧ y p = x
  · rw [if_pos c, if_pos c, jbi_some, if_pos (by decide)]
  · rw [if_neg c, if_neg c, jbi_some, if_neg (by decide), hp, Text_failAt_47 _ σ h3, jbv_some]
theorem Text_needsF_47 (x : Int32) (σ : jm_S) (h3 : ¬ σ 47 3 = -1) : jc 28 [.ref 47, .int x] σ = some (none, σ) := by
  rw [Text_needs_47_in, Text_takesF_47 x σ h3, jbi_some, if_neg (by decide), Text_failAt_47_in, if_pos h3, jbv_some]
theorem Text_goes_47 {n p : Nat} {y : Nat → Int32} (x : Int32) (σ : jm_S) (h : tx σ 47 48 n y) (hn : n ≤ 30) (hp : σ 47 2 = nI p) (hpn : p ≤ n) (h3 : σ 47 3 = -1) : jc 30 [.ref 47, .int x] σ = if p < n then (if y p = x then some (some (.int 1), jm_up σ 47 2 (nI (p + 1))) else some (some (.int 0), jm_up σ 47 3 (nI p))) else some (some (.int 0), σ) := by
  rw [Text_goesOnBehind_47_in, if_neg (fun q => q h3), h.1, hp, Text_needs_47 x σ h hn hp hpn h3]
  by_cases c : p < n
  · rw [if_pos (nI_lt c (by omega)), if_pos c]
    by_cases e : y p = x
    · rw [if_pos ⟨c, e⟩, if_pos e, jbv_some, jup_s, jupd, if_neg (show ¬ (3 : Nat) = 2 by decide), if_neg (fun (q : ¬ σ 47 3 = -1) => q h3)]
    · rw [if_neg (fun q => e q.2), if_neg e, jbv_some, jup_s, jupd, if_pos rfl, if_pos (nI_ne_m1 (by omega))]
  · rw [if_neg (nI_nlt (by omega) (by omega)), if_neg c]
theorem Text_goesF_47 (x : Int32) (σ : jm_S) (h3 : ¬ σ 47 3 = -1) : jc 30 [.ref 47, .int x] σ = some (some (.int 0), σ) := by
  rw [Text_goesOnBehind_47_in, if_pos h3]
theorem Text_end_47 {s p : Nat} (hp : s ≤ p) (hp2 : p ≤ 60) (lo hi v : Int32) (σ : jm_S) (h2 : σ 47 2 = nI p) (h3 : σ 47 3 = -1) : (if (σ 47 2) = nI s then jbv (jc 27 [(.ref 47), (.int (nI s))] σ) (fun τ1 => some (some (.int v), τ1)) else (if v < lo then jbv (jc 27 [(.ref 47), (.int (nI s))] σ) (fun τ2 => some (some (.int v), τ2)) else (if v ≤ hi then some (some (.int v), σ) else jbv (jc 27 [(.ref 47), (.int (nI s))] σ) (fun τ3 => some (some (.int v), τ3))))) = some (some (.int v), ite (nbad s lo hi (v, p)) (jm_up (jm_up σ 47 2 (nI p)) 47 3 (nI s)) (jm_up σ 47 2 (nI p))) := by
  rw [Text_failAt_47 _ σ h3, jbv_some, jup_id h2, h2]
  by_cases c : p = s
  · rw [if_pos (by rw [c]), if_pos (show nbad s lo hi (v, p) from Or.inl c)]
  · rw [if_neg (fun q => c ((nI_eq (by omega) (by omega)).mp q))]
    by_cases c1 : v < lo
    · rw [if_pos c1, if_pos (show nbad s lo hi (v, p) from Or.inr (Or.inl c1))]
    · rw [if_neg c1]
      by_cases c2 : hi < v
      · rw [if_neg (Int32.not_le.mpr c2), if_pos (show nbad s lo hi (v, p) from Or.inr (Or.inr c2))]
      · rw [if_pos (Int32.not_lt.mp c2), if_neg (show ¬ nbad s lo hi (v, p) by
          rintro (q | q | q)
          · exact c q
          · exact c1 q
          · exact c2 q)]
theorem Text_number_47_loop {n s K : Nat} {y : Nat → Int32} (hn : n ≤ 30) (hK : K ≤ 3) (lo hi : Int32) : ∀ (k p : Nat) (v : Int32) (σ : jm_S), s ≤ p → p ≤ n → p - s + k = K → tx σ 47 48 n y → σ 47 2 = nI p → σ 47 3 = -1 → jv 26 19 [some (.ref 47), some (.int (nI K)), some (.int lo), some (.int hi), some (.int (nI s)), some (.int v)] [] σ = some (some (.int (dgF y n k p v).1), ite (nbad s lo hi (dgF y n k p v)) (jm_up (jm_up σ 47 2 (nI (dgF y n k p v).2)) 47 3 (nI s)) (jm_up σ 47 2 (nI (dgF y n k p v).2))) := by
  intro k
  induction k with
  | zero =>
    intro p v σ h1 h2 h4 ht h5 h6
    rw [Text_number_47_L19]
    rw [Text_end_47 h1 (by omega) lo hi v σ h5 h6, ht.1, h5, pk_sub h1, dgF]
    by_cases c : p < n
    · rw [if_neg (nI_ge c (by omega)), if_pos (nI_le (by omega) (by omega))]
    · rw [if_pos (nI_le (by omega) (by omega))]
  | succ k ih =>
    intro p v σ h1 h2 h4 ht h5 h6
    rw [Text_number_47_L19, Text_end_47 h1 (by omega) lo hi v σ h5 h6, ht.1, h5, pk_sub h1, dgF]
    by_cases c : p < n
    · rw [if_neg (nI_ge c (by omega)), if_neg (nI_ge (by omega) (by omega))]
      simp only [nI_clamp (show p < 2 ^ 31 by omega), jbad2 (show p < 30 by omega) (by decide), if_false, ht.2 p c, nI_1]
      by_cases c1 : y p < 48
      · rw [if_pos c1, if_neg (show ¬ (p < n ∧ ¬ (y p < 48 ∨ 57 < y p)) from fun q => q.2 (Or.inl c1))]
      · rw [if_neg c1]
        by_cases c2 : 57 < y p
        · rw [if_pos c2, if_neg (show ¬ (p < n ∧ ¬ (y p < 48 ∨ 57 < y p)) from fun q => q.2 (Or.inr c2))]
        · rw [if_neg c2, if_pos (show p < n ∧ ¬ (y p < 48 ∨ 57 < y p) from ⟨c, not_or.mpr ⟨c1, c2⟩⟩)]
          rw [ih (p + 1) _ (jm_up σ 47 2 (nI (p + 1))) (by omega) (by omega) (by omega) ⟨by rw [jup_s, jupd, if_neg (by decide)]; exact ht.1, fun j hj => by rw [jup_n _ _ _ (by decide)]; exact ht.2 j hj⟩ (by rw [jup_s, jupd, if_pos rfl]) (by rw [jup_s, jupd, if_neg (by decide)]; exact h6), jup_up]
    · rw [if_pos (nI_le (by omega) (by omega)), if_neg (show ¬ (p < n ∧ ¬ (y p < 48 ∨ 57 < y p)) from fun q => c q.1)]
theorem Text_number_47 {n s K : Nat} {y : Nat → Int32} (hn : n ≤ 30) (hK : K ≤ 3) (lo hi : Int32) (σ : jm_S) (hs : s ≤ n) (ht : tx σ 47 48 n y) (h2 : σ 47 2 = nI s) (h3 : σ 47 3 = -1) : jc 26 [.ref 47, .int (nI K), .int lo, .int hi] σ = some (some (.int (dgF y n K s 0).1), ite (nbad s lo hi (dgF y n K s 0)) (jm_up (jm_up σ 47 2 (nI (dgF y n K s 0).2)) 47 3 (nI s)) (jm_up σ 47 2 (nI (dgF y n K s 0).2))) := by
  rw [Text_number_47_in, if_pos h3, h2]
  exact Text_number_47_loop hn hK lo hi K s 0 σ (Nat.le_refl s) hs (by omega) ht h2 h3
theorem Text_numberF_47 (k lo hi : Int32) (σ : jm_S) (h3 : ¬ σ 47 3 = -1) : jc 26 [.ref 47, .int k, .int lo, .int hi] σ = some (some (.int lo), σ) := by
  rw [Text_number_47_in, if_neg h3]
theorem Text_failAt_50 (x : Int32) (σ : jm_S) (h : σ 50 3 = -1) : jc 27 [.ref 50, .int x] σ = some (none, jm_up σ 50 3 x) := by
  rw [Text_failAt_50_in, if_neg (fun q => q h)]
theorem Text_takes_50 {n p : Nat} {y : Nat → Int32} (x : Int32) (σ : jm_S) (h : tx σ 50 51 n y) (hn : n ≤ 30) (hp : σ 50 2 = nI p) (hpn : p ≤ n) (h3 : σ 50 3 = -1) : jc 25 [.ref 50, .int x] σ = if p < n ∧ y p = x then some (some (.int 1), jm_up σ 50 2 (nI (p + 1))) else some (some (.int 0), σ) := by
  rw [Text_takes_50_in, if_neg (fun q => q h3), h.1, hp]
  by_cases c : p < n
  · rw [if_neg (nI_ge c (by omega))]
    simp only [nI_clamp (show p < 2 ^ 31 by omega), jbad2 (show p < 30 by omega) (by decide), if_false, h.2 p c, nI_1]
    by_cases e : y p = x
    · rw [if_pos e, if_pos ⟨c, e⟩]
    · rw [if_neg e, if_neg (fun q => e q.2)]
  · rw [if_pos (nI_le (by omega) (by omega)), if_neg (fun q => c q.1)]
theorem Text_takesF_50 (x : Int32) (σ : jm_S) (h3 : ¬ σ 50 3 = -1) : jc 25 [.ref 50, .int x] σ = some (some (.int 0), σ) := by
  rw [Text_takes_50_in, if_pos h3]
theorem Text_needs_50 {n p : Nat} {y : Nat → Int32} (x : Int32) (σ : jm_S) (h : tx σ 50 51 n y) (hn : n ≤ 30) (hp : σ 50 2 = nI p) (hpn : p ≤ n) (h3 : σ 50 3 = -1) : jc 28 [.ref 50, .int x] σ = if p < n ∧ y p = x then some (none, jm_up σ 50 2 (nI (p + 1))) else some (none, jm_up σ 50 3 (nI p)) := by
  rw [Text_needs_50_in, Text_takes_50 x σ h hn hp hpn h3]
  by_cases c : p < n ∧ y p = x
  · rw [if_pos c, if_pos c, jbi_some, if_pos (by decide)]
  · rw [if_neg c, if_neg c, jbi_some, if_neg (by decide), hp, Text_failAt_50 _ σ h3, jbv_some]
theorem Text_needsF_50 (x : Int32) (σ : jm_S) (h3 : ¬ σ 50 3 = -1) : jc 28 [.ref 50, .int x] σ = some (none, σ) := by
  rw [Text_needs_50_in, Text_takesF_50 x σ h3, jbi_some, if_neg (by decide), Text_failAt_50_in, if_pos h3, jbv_some]
theorem Text_goes_50 {n p : Nat} {y : Nat → Int32} (x : Int32) (σ : jm_S) (h : tx σ 50 51 n y) (hn : n ≤ 30) (hp : σ 50 2 = nI p) (hpn : p ≤ n) (h3 : σ 50 3 = -1) : jc 30 [.ref 50, .int x] σ = if p < n then (if y p = x then some (some (.int 1), jm_up σ 50 2 (nI (p + 1))) else some (some (.int 0), jm_up σ 50 3 (nI p))) else some (some (.int 0), σ) := by
  rw [Text_goesOnBehind_50_in, if_neg (fun q => q h3), h.1, hp, Text_needs_50 x σ h hn hp hpn h3]
  by_cases c : p < n
  · rw [if_pos (nI_lt c (by omega)), if_pos c]
    by_cases e : y p = x
    · rw [if_pos ⟨c, e⟩, if_pos e, jbv_some, jup_s, jupd, if_neg (show ¬ (3 : Nat) = 2 by decide), if_neg (fun (q : ¬ σ 50 3 = -1) => q h3)]
    · rw [if_neg (fun q => e q.2), if_neg e, jbv_some, jup_s, jupd, if_pos rfl, if_pos (nI_ne_m1 (by omega))]
  · rw [if_neg (nI_nlt (by omega) (by omega)), if_neg c]
theorem Text_goesF_50 (x : Int32) (σ : jm_S) (h3 : ¬ σ 50 3 = -1) : jc 30 [.ref 50, .int x] σ = some (some (.int 0), σ) := by
  rw [Text_goesOnBehind_50_in, if_pos h3]
theorem Text_end_50 {s p : Nat} (hp : s ≤ p) (hp2 : p ≤ 60) (lo hi v : Int32) (σ : jm_S) (h2 : σ 50 2 = nI p) (h3 : σ 50 3 = -1) : (if (σ 50 2) = nI s then jbv (jc 27 [(.ref 50), (.int (nI s))] σ) (fun τ1 => some (some (.int v), τ1)) else (if v < lo then jbv (jc 27 [(.ref 50), (.int (nI s))] σ) (fun τ2 => some (some (.int v), τ2)) else (if v ≤ hi then some (some (.int v), σ) else jbv (jc 27 [(.ref 50), (.int (nI s))] σ) (fun τ3 => some (some (.int v), τ3))))) = some (some (.int v), ite (nbad s lo hi (v, p)) (jm_up (jm_up σ 50 2 (nI p)) 50 3 (nI s)) (jm_up σ 50 2 (nI p))) := by
  rw [Text_failAt_50 _ σ h3, jbv_some, jup_id h2, h2]
  by_cases c : p = s
  · rw [if_pos (by rw [c]), if_pos (show nbad s lo hi (v, p) from Or.inl c)]
  · rw [if_neg (fun q => c ((nI_eq (by omega) (by omega)).mp q))]
    by_cases c1 : v < lo
    · rw [if_pos c1, if_pos (show nbad s lo hi (v, p) from Or.inr (Or.inl c1))]
    · rw [if_neg c1]
      by_cases c2 : hi < v
      · rw [if_neg (Int32.not_le.mpr c2), if_pos (show nbad s lo hi (v, p) from Or.inr (Or.inr c2))]
      · rw [if_pos (Int32.not_lt.mp c2), if_neg (show ¬ nbad s lo hi (v, p) by
          rintro (q | q | q)
          · exact c q
          · exact c1 q
          · exact c2 q)]
theorem Text_number_50_loop {n s K : Nat} {y : Nat → Int32} (hn : n ≤ 30) (hK : K ≤ 3) (lo hi : Int32) : ∀ (k p : Nat) (v : Int32) (σ : jm_S), s ≤ p → p ≤ n → p - s + k = K → tx σ 50 51 n y → σ 50 2 = nI p → σ 50 3 = -1 → jv 26 19 [some (.ref 50), some (.int (nI K)), some (.int lo), some (.int hi), some (.int (nI s)), some (.int v)] [] σ = some (some (.int (dgF y n k p v).1), ite (nbad s lo hi (dgF y n k p v)) (jm_up (jm_up σ 50 2 (nI (dgF y n k p v).2)) 50 3 (nI s)) (jm_up σ 50 2 (nI (dgF y n k p v).2))) := by
  intro k
  induction k with
  | zero =>
    intro p v σ h1 h2 h4 ht h5 h6
    rw [Text_number_50_L19]
    rw [Text_end_50 h1 (by omega) lo hi v σ h5 h6, ht.1, h5, pk_sub h1, dgF]
    by_cases c : p < n
    · rw [if_neg (nI_ge c (by omega)), if_pos (nI_le (by omega) (by omega))]
    · rw [if_pos (nI_le (by omega) (by omega))]
  | succ k ih =>
    intro p v σ h1 h2 h4 ht h5 h6
    rw [Text_number_50_L19, Text_end_50 h1 (by omega) lo hi v σ h5 h6, ht.1, h5, pk_sub h1, dgF]
    by_cases c : p < n
    · rw [if_neg (nI_ge c (by omega)), if_neg (nI_ge (by omega) (by omega))]
      simp only [nI_clamp (show p < 2 ^ 31 by omega), jbad2 (show p < 30 by omega) (by decide), if_false, ht.2 p c, nI_1]
      by_cases c1 : y p < 48
      · rw [if_pos c1, if_neg (show ¬ (p < n ∧ ¬ (y p < 48 ∨ 57 < y p)) from fun q => q.2 (Or.inl c1))]
      · rw [if_neg c1]
        by_cases c2 : 57 < y p
        · rw [if_pos c2, if_neg (show ¬ (p < n ∧ ¬ (y p < 48 ∨ 57 < y p)) from fun q => q.2 (Or.inr c2))]
        · rw [if_neg c2, if_pos (show p < n ∧ ¬ (y p < 48 ∨ 57 < y p) from ⟨c, not_or.mpr ⟨c1, c2⟩⟩)]
          rw [ih (p + 1) _ (jm_up σ 50 2 (nI (p + 1))) (by omega) (by omega) (by omega) ⟨by rw [jup_s, jupd, if_neg (by decide)]; exact ht.1, fun j hj => by rw [jup_n _ _ _ (by decide)]; exact ht.2 j hj⟩ (by rw [jup_s, jupd, if_pos rfl]) (by rw [jup_s, jupd, if_neg (by decide)]; exact h6), jup_up]
    · rw [if_pos (nI_le (by omega) (by omega)), if_neg (show ¬ (p < n ∧ ¬ (y p < 48 ∨ 57 < y p)) from fun q => c q.1)]
theorem Text_number_50 {n s K : Nat} {y : Nat → Int32} (hn : n ≤ 30) (hK : K ≤ 3) (lo hi : Int32) (σ : jm_S) (hs : s ≤ n) (ht : tx σ 50 51 n y) (h2 : σ 50 2 = nI s) (h3 : σ 50 3 = -1) : jc 26 [.ref 50, .int (nI K), .int lo, .int hi] σ = some (some (.int (dgF y n K s 0).1), ite (nbad s lo hi (dgF y n K s 0)) (jm_up (jm_up σ 50 2 (nI (dgF y n K s 0).2)) 50 3 (nI s)) (jm_up σ 50 2 (nI (dgF y n K s 0).2))) := by
  rw [Text_number_50_in, if_pos h3, h2]
  exact Text_number_50_loop hn hK lo hi K s 0 σ (Nat.le_refl s) hs (by omega) ht h2 h3
theorem Text_numberF_50 (k lo hi : Int32) (σ : jm_S) (h3 : ¬ σ 50 3 = -1) : jc 26 [.ref 50, .int k, .int lo, .int hi] σ = some (some (.int lo), σ) := by
  rw [Text_number_50_in, if_neg h3]
theorem M_here {t n p : Nat} {y : Nat → Int32} (ht : t < 4) (hn : n ≤ 60) (σ : jm_S) (h1 : σ 70 t = nI n) (h2 : ∀ j, j < n → σ 69 (60 * t + j) = y j) (hp : σ 61 11 = nI p) (hpn : p ≤ n) : jc 144 [.ref 61, .int (nI t)] σ = some (some (.int (if p < n then y p else -1)), σ) := by
  rw [M_here_in]
  simp only [nI_clamp (show t < 2 ^ 31 by omega), jbad2 ht (by decide), if_false, h1, hp, j60]
  by_cases c : p < n
  · rw [if_neg (nI_ge c (by omega)), if_pos c]
    simp only [nI_clamp (show 60 * t + p < 2 ^ 31 by omega), jbad2 (show 60 * t + p < 240 by omega) (by decide), if_false, h2 p c]
  · rw [if_pos (nI_le (by omega) (by omega)), if_neg c]
theorem M_fig_end {s p : Nat} (hp : s ≤ p) (hp2 : p ≤ 60) (lo hi v : Int32) (σ : jm_S) (h2 : σ 61 11 = nI p) : (if (σ 61 11) ≤ nI s then some (some (.int (-1 : Int32)), (jm_up σ 61 11 (nI s))) else jbi (jc 120 [(.long v.toInt64), (.long lo.toInt64), (.long hi.toInt64)] σ) (fun r1 τ1 => (if r1 = 0 then some (some (.int (-1 : Int32)), (jm_up τ1 61 11 (nI s))) else some (some (.int v), τ1)))) = ite (nbad s lo hi (v, p)) (some (some (.int (-1)), jm_up σ 61 11 (nI s))) (some (some (.int v), jm_up σ 61 11 (nI p))) := by
  rw [M_in v lo hi _ _ rfl rfl, jbi_some, h2]
  by_cases c : p = s
  · rw [if_pos (nI_le (by omega) (by omega)), if_pos (show nbad s lo hi (v, p) from Or.inl c)]
  · rw [if_neg (nI_ge (by omega) (by omega))]
    by_cases c1 : v < lo ∨ hi < v
    · rw [if_pos c1, if_pos rfl, if_pos (show nbad s lo hi (v, p) from Or.inr c1)]
    · rw [if_neg c1, if_neg (by decide), if_neg (show ¬ nbad s lo hi (v, p) by
        rintro (q | q)
        · exact c q
        · exact c1 q), jup_id h2]
theorem M_figures_loop {t n s K : Nat} {y : Nat → Int32} (ht : t < 4) (hn : n ≤ 60) (hK : K ≤ 3) (lo hi : Int32) : ∀ (k p : Nat) (v : Int32) (σ : jm_S), s ≤ p → p ≤ n → p - s + k = K → σ 70 t = nI n → (∀ j, j < n → σ 69 (60 * t + j) = y j) → σ 61 11 = nI p → jv 146 9 [some (.ref 61), some (.int (nI t)), some (.int (nI K)), some (.int lo), some (.int hi), some (.int (nI s)), some (.int v)] [] σ = ite (nbad s lo hi (dgF y n k p v)) (some (some (.int (-1)), jm_up σ 61 11 (nI s))) (some (some (.int (dgF y n k p v).1), jm_up σ 61 11 (nI (dgF y n k p v).2))) := by
  intro k
  induction k with
  | zero =>
    intro p v σ h1 h2 h4 h70 hy h5
    rw [M_figures_L9, M_fig_end h1 (by omega) lo hi v σ h5, h5, nI_add, if_pos (nI_le (by omega) (by omega)), dgF]
  | succ k ih =>
    intro p v σ h1 h2 h4 h70 hy h5
    rw [M_figures_L9, M_here ht hn σ h70 hy h5 h2, jbi_some, M_in _ 48 57 48 57 (by decide +kernel) (by decide +kernel), jbi_some, M_here ht hn σ h70 hy h5 h2, jbi_some, M_fig_end h1 (by omega) lo hi v σ h5, h5, nI_add, if_neg (nI_ge (by omega) (by omega)), dgF]
    by_cases c : p < n
    · rw [if_pos c]
      by_cases c1 : y p < 48 ∨ 57 < y p
      · rw [if_pos c1, if_pos rfl, if_neg (show ¬ (p < n ∧ ¬ (y p < 48 ∨ 57 < y p)) from fun q => q.2 c1)]
      · rw [if_neg c1, if_neg (by decide), if_pos (show p < n ∧ ¬ (y p < 48 ∨ 57 < y p) from ⟨c, c1⟩), nI_1]
        rw [ih (p + 1) _ (jm_up σ 61 11 (nI (p + 1))) (by omega) (by omega) (by omega) (by rw [jup_n _ _ _ (by decide)]; exact h70) (fun j hj => by rw [jup_n _ _ _ (by decide)]; exact hy j hj) (by rw [jup_s, jupd, if_pos rfl]), jup_up, jup_up]
    · rw [if_neg c, if_pos (by decide +kernel), if_neg (show ¬ (p < n ∧ ¬ (y p < 48 ∨ 57 < y p)) from fun q => c q.1)]
theorem M_figures {t n s K : Nat} {y : Nat → Int32} (ht : t < 4) (hn : n ≤ 60) (hK : K ≤ 3) (lo hi : Int32) (σ : jm_S) (hs : s ≤ n) (h70 : σ 70 t = nI n) (hy : ∀ j, j < n → σ 69 (60 * t + j) = y j) (h5 : σ 61 11 = nI s) : jc 146 [.ref 61, .int (nI t), .int (nI K), .int lo, .int hi] σ = ite (nbad s lo hi (dgF y n K s 0)) (some (some (.int (-1)), jm_up σ 61 11 (nI s))) (some (some (.int (dgF y n K s 0).1), jm_up σ 61 11 (nI (dgF y n K s 0).2))) := by
  rw [M_figures_in, h5]
  exact M_figures_loop ht hn hK lo hi K s 0 σ (Nat.le_refl s) hs (by omega) h70 hy h5
