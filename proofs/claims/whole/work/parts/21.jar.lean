/-! ===== jars ===== -/
theorem P_mayBe0 (x : Int32) (σ : jm_S) : jc 3 [.int 0, .int x] σ = some (some (.int (if x < 0 ∨ 99 < x then 0 else 1)), σ) := by
  rw [P_mayBe_in]
  simp only [jn0, jbd0 4 (by decide), if_false]
  rw [show ([0, 1, 1, 0] : List Int32).getD 0 0 = 0 from rfl, show ([99, 20, 9, 9] : List Int32).getD 0 0 = 99 from rfl, P_isOutside, jbi_some]
  by_cases h : x < 0 ∨ 99 < x <;> simp [h]
theorem P_mayBe1 (x : Int32) (σ : jm_S) : jc 3 [.int 1, .int x] σ = some (some (.int (if x < 1 ∨ 20 < x then 0 else 1)), σ) := by
  rw [P_mayBe_in]
  simp only [jn1, jbd1 4 (by decide), if_false]
  rw [show ([0, 1, 1, 0] : List Int32).getD 1 0 = 1 from rfl, show ([99, 20, 9, 9] : List Int32).getD 1 0 = 20 from rfl, P_isOutside, jbi_some]
  by_cases h : x < 1 ∨ 20 < x <;> simp [h]
theorem P_mayBe2 (x : Int32) (σ : jm_S) : jc 3 [.int 2, .int x] σ = some (some (.int (if x < 1 ∨ 9 < x then 0 else 1)), σ) := by
  rw [P_mayBe_in]
  simp only [jn2, jbd2 4 (by decide), if_false]
  rw [show ([0, 1, 1, 0] : List Int32).getD 2 0 = 1 from rfl, show ([99, 20, 9, 9] : List Int32).getD 2 0 = 9 from rfl, P_isOutside, jbi_some]
  by_cases h : x < 1 ∨ 9 < x <;> simp [h]
theorem P_mayBe3 (x : Int32) (σ : jm_S) : jc 3 [.int 3, .int x] σ = some (some (.int (if x < 0 ∨ 9 < x then 0 else 1)), σ) := by
  rw [P_mayBe_in]
  simp only [jn3, jbd3 4 (by decide), if_false]
  rw [show ([0, 1, 1, 0] : List Int32).getD 3 0 = 0 from rfl, show ([99, 20, 9, 9] : List Int32).getD 3 0 = 9 from rfl, P_isOutside, jbi_some]
  by_cases h : x < 0 ∨ 9 < x <;> simp [h]
theorem P_isNoWater (x : Int32) (σ : jm_S) : jc 83 [.int x] σ = some (some (.int (if x < 0 ∨ 99 < x then 1 else 0)), σ) := by
  rw [P_isNoWater_in, P_mayBe0, jbi_some]
  by_cases h : x < 0 ∨ 99 < x <;> simp [h]
def nxD (w d : Nat) : Nat := if d ≤ w then w - (w - d + 3) / 4 else w + (d - w + 3) / 4
theorem nxD_lt : ∀ w, w < 100 → ∀ d, d < 100 → nxD w d < 100 := by
  intro w hw d hd
  unfold nxD
  split <;> omega
theorem nxP : ∀ w, w < 100 → ∀ d, d < 100 → (if nI d ≤ nI w then (nI w - (((if 0 ≤ (nI d - nI w) then (nI d - nI w) else 0 - (nI d - nI w)) + (3 : Int32)) / (4 : Int32))) else (nI w + (((if 0 ≤ (nI d - nI w) then (nI d - nI w) else 0 - (nI d - nI w)) + (3 : Int32)) / (4 : Int32)))) = nI (nxD w d) := by decide +kernel
theorem nxM : ∀ w, w < 100 → ∀ d, d < 100 → (if nI d ≤ nI w then (nI w - (((nI w - nI d) + (3 : Int32)) / (4 : Int32))) else (nI w + (((nI d - nI w) + (3 : Int32)) / (4 : Int32)))) = nI (nxD w d) := by decide +kernel
theorem P_nextDay {w d : Nat} (hw : w < 100) (hd : d < 100) (σ : jm_S) : jc 84 [.int (nI w), .int (nI d)] σ = some (some (.int (nI (nxD w d))), σ) := by
  rw [P_nextDay_in, ← nxP w hw d hd]
  by_cases h : nI d ≤ nI w
  · rw [if_pos h, if_pos h]
  · rw [if_neg h, if_neg h]
theorem M_nextDay {w d : Nat} (hw : w < 100) (hd : d < 100) (σ : jm_S) : jc 187 [.int (nI w), .int (nI d)] σ = some (some (.int (nI (nxD w d))), σ) := by
  rw [M_nextDay_in, ← nxM w hw d hd]
  by_cases h : nI d ≤ nI w
  · rw [if_pos h, if_pos h, if_pos h]
  · rw [if_neg h, if_neg h, if_neg h]
def jarF (d : Nat) : Nat → Nat → Nat
  | 0, w => w
  | n + 1, w => jarF d n (nxD w d)
theorem P_jar_loop {d n : Nat} (hd : d < 100) (hn : n ≤ 60) (x : Int32) (σ : jm_S) : ∀ (k i w : Nat), w < 100 → i + k = n → jv 82 36 [some (.ref 0), some (.int x), some (.int (nI d)), some (.int (nI n)), some (.int (nI w)), some (.int (nI i))] [] σ = some (some (.int (nI (jarF d k w))), σ) := by
  intro k
  induction k with
  | zero => intro i w hw h; rw [P_jar_L36, if_pos (nI_le (by omega) (by omega))]; rfl
  | succ k ih =>
    intro i w hw h
    rw [P_jar_L36, if_neg (nI_ge (by omega) (by omega)), P_nextDay hw hd, jbi_some, nI_1, ih _ _ (nxD_lt w hw d hd) (by omega)]
    rfl
theorem M_jar_loop {d n : Nat} (hd : d < 100) (hn : n ≤ 60) (x : Int32) (σ : jm_S) : ∀ (k i w : Nat), w < 100 → i + k = n → jv 185 35 [some (.ref 61), some (.int x), some (.int (nI d)), some (.int (nI n)), some (.int (nI w)), some (.int (nI i))] [] σ = some (some (.int (nI (jarF d k w))), σ) := by
  intro k
  induction k with
  | zero => intro i w hw h; rw [M_jar_L35, if_pos (nI_le (by omega) (by omega))]; rfl
  | succ k ih =>
    intro i w hw h
    rw [M_jar_L35, if_neg (nI_ge (by omega) (by omega)), M_nextDay hw hd, jbi_some, nI_1, ih _ _ (nxD_lt w hw d hd) (by omega)]
    rfl
/-- both answer alike and nothing changes -/
theorem jSame_v {σ : jm_S} {S K : List Nat} {p : jm_S → Prop} (hp : p σ) {v : Option Value} {c1 c2 : jm_S → Option (Option Value × jm_S)} (h1 : c1 σ = some (v, σ)) (h2 : c2 σ = some (v, σ)) : jSame σ S K p c1 c2 := ⟨_, _, _, h1, h2, hp, jFr.rf⟩
theorem A_jar {σ : jm_S} {p : jm_S → Prop} {S K : List Nat} (h : p σ) (x y z : Int32) : jSame σ S K p (jc 82 [.ref 0, .int x, .int y, .int z]) (jc 185 [.ref 61, .int x, .int y, .int z]) := by
  by_cases hx : x < 0 ∨ 99 < x
  · refine jSame_v h (v := some (.int (-2))) ?_ ?_
    · rw [P_jar_in, P_isNoWater, jbi_some]; simp [hx]
    · rw [M_jar_in, M_isDamp, jbi_some]; simp [hx]
  by_cases hy : y < 0 ∨ 99 < y
  · refine jSame_v h (v := some (.int (-2))) ?_ ?_
    · rw [P_jar_in, P_isNoWater, jbi_some, P_isOutside, jbi_some]; simp only [if_neg hx, if_pos hy]; simp
    · rw [M_jar_in, M_isDamp, jbi_some, M_isDamp, jbi_some]; simp only [if_neg hx, if_pos hy]; simp
  by_cases hz : z < 0 ∨ 60 < z
  · refine jSame_v h (v := some (.int (-2))) ?_ ?_
    · rw [P_jar_in, P_isNoWater, jbi_some, P_isOutside, jbi_some, P_isOutside, jbi_some]; simp only [if_neg hx, if_neg hy, if_pos hz]; simp
    · rw [M_jar_in, M_isDamp, jbi_some, M_isDamp, jbi_some, M_in z 0 60 0 60 (by decide +kernel) (by decide +kernel), jbi_some]; simp only [if_neg hx, if_neg hy, if_pos hz]; simp
  obtain ⟨w, hw, rfl⟩ := jN (n := 99) (by decide +kernel) hx
  obtain ⟨d, hd, rfl⟩ := jN (n := 99) (by decide +kernel) hy
  obtain ⟨n, hn, rfl⟩ := jN (n := 60) (by decide +kernel) hz
  refine jSame_v h (v := some (.int (nI (jarF d n w)))) ?_ ?_
  · have e := P_jar_loop (d := d) (by omega) hn (nI w) σ n 0 w (by omega) (by omega)
    rw [nI_0] at e
    rw [P_jar_in, P_isNoWater, jbi_some, P_isOutside, jbi_some, P_isOutside, jbi_some, if_neg hx, if_neg hy, if_neg hz, e]
    simp
  · have e := M_jar_loop (d := d) (by omega) hn (nI w) σ n 0 w (by omega) (by omega)
    rw [nI_0] at e
    rw [M_jar_in, M_isDamp, jbi_some, M_isDamp, jbi_some, M_in (nI n) 0 60 0 60 (by decide +kernel) (by decide +kernel), jbi_some, if_neg hx, if_neg hy, if_neg hz, e]
    simp
def lenF (d : Nat) (f t : Int32) : Nat → Nat → Nat → Int32
  | 0, _, _ => -1
  | k + 1, day, w => if nI w < f ∨ t < nI w then lenF d f t k (day + 1) (nxD w d) else nI day
theorem P_length_loop {d : Nat} (hd : d < 100) (x f t : Int32) (σ : jm_S) : ∀ (k i w : Nat), w < 100 → i + k = 61 → jv 85 47 [some (.ref 0), some (.int x), some (.int (nI d)), some (.int f), some (.int t), some (.int (nI w)), some (.int (nI i))] [] σ = some (some (.int (lenF d f t k i w)), σ) := by
  intro k
  induction k with
  | zero => intro i w hw h; rw [P_length_L47, show i = 61 by omega, if_pos (by decide +kernel)]; rfl
  | succ k ih =>
    intro i w hw h
    have h60 : ¬ (60 : Int32) < nI i := by
      rw [show (60 : Int32) = nI 60 by decide +kernel, nI_ltI (by omega) (by omega)]; omega
    rw [P_length_L47, if_neg h60, P_isOutside, jbi_some, P_nextDay hw hd, jbi_some, nI_1, ih _ _ (nxD_lt w hw d hd) (by omega), lenF]
    by_cases h : nI w < f ∨ t < nI w
    · rw [if_pos h, if_pos h, if_pos (by decide)]
    · rw [if_neg h, if_neg h, if_neg (by decide)]
theorem M_length_loop {d : Nat} (hd : d < 100) (x f t : Int32) (σ : jm_S) : ∀ (k i w : Nat), w < 100 → i + k = 61 → jv 188 43 [some (.ref 61), some (.int x), some (.int (nI d)), some (.int f), some (.int t), some (.int (nI w)), some (.int (nI i))] [] σ = some (some (.int (lenF d f t k i w)), σ) := by
  intro k
  induction k with
  | zero => intro i w hw h; rw [M_length_L43, show i = 61 by omega, if_pos (by decide +kernel)]; rfl
  | succ k ih =>
    intro i w hw h
    have h60 : ¬ (60 : Int32) < nI i := by
      rw [show (60 : Int32) = nI 60 by decide +kernel, nI_ltI (by omega) (by omega)]; omega
    rw [M_length_L43, if_neg h60, M_in (nI w) f t _ _ rfl rfl, jbi_some, M_nextDay hw hd, jbi_some, nI_1, ih _ _ (nxD_lt w hw d hd) (by omega), lenF]
    by_cases h : nI w < f ∨ t < nI w
    · rw [if_pos h, if_pos h, if_pos (by decide)]
    · rw [if_neg h, if_neg h, if_neg (by decide)]
theorem A_length {σ : jm_S} {p : jm_S → Prop} {S K : List Nat} (h : p σ) (x y f t : Int32) : jSame σ S K p (jc 85 [.ref 0, .int x, .int y, .int f, .int t]) (jc 188 [.ref 61, .int x, .int y, .int f, .int t]) := by
  by_cases hx : x < 0 ∨ 99 < x
  · refine jSame_v h (v := some (.int (-2))) ?_ ?_
    · rw [P_length_in, P_isNoWater, jbi_some]; simp [hx]
    · rw [M_length_in, M_isDamp, jbi_some]; simp [hx]
  by_cases hy : y < 0 ∨ 99 < y
  · refine jSame_v h (v := some (.int (-2))) ?_ ?_
    · rw [P_length_in, P_isNoWater, jbi_some, P_isOutside, jbi_some]; simp only [if_neg hx, if_pos hy]; simp
    · rw [M_length_in, M_isDamp, jbi_some, M_isDamp, jbi_some]; simp only [if_neg hx, if_pos hy]; simp
  by_cases ht : t < 0 ∨ 99 < t
  · refine jSame_v h (v := some (.int (-2))) ?_ ?_
    · rw [P_length_in, P_isNoWater, jbi_some, P_isOutside, jbi_some, P_isNoWater, jbi_some, P_isNoWater, jbi_some]; simp only [if_neg hx, if_neg hy, if_pos ht]
      by_cases hf : f < 0 ∨ 99 < f <;> simp [hf]
    · rw [M_length_in, M_isDamp, jbi_some, M_isDamp, jbi_some, M_isDamp, jbi_some]; simp only [if_neg hx, if_neg hy, if_pos ht]; simp
  by_cases hf : f < 0 ∨ t < f
  · refine jSame_v h (v := some (.int (-2))) ?_ ?_
    · rw [P_length_in, P_isNoWater, jbi_some, P_isOutside, jbi_some, P_isNoWater, jbi_some, P_isNoWater, jbi_some]; simp only [if_neg hx, if_neg hy, if_neg ht]
      by_cases hf2 : f < 0 ∨ 99 < f
      · simp [hf2]
      · have : ¬ f ≤ t := Int32.not_le.mpr (hf.resolve_left (fun q => hf2 (Or.inl q)))
        simp [hf2, this]
    · rw [M_length_in, M_isDamp, jbi_some, M_isDamp, jbi_some, M_isDamp, jbi_some, M_in f 0 t 0 _ (by decide +kernel) rfl, jbi_some]; simp only [if_neg hx, if_neg hy, if_neg ht, if_pos hf]; simp
  obtain ⟨w, hw, rfl⟩ := jN (n := 99) (by decide +kernel) hx
  obtain ⟨d, hd, rfl⟩ := jN (n := 99) (by decide +kernel) hy
  have hft : f ≤ t := Int32.not_lt.mp (fun q => hf (Or.inr q))
  have hf2 : ¬ (f < 0 ∨ 99 < f) := by
    rintro (q | q)
    · exact hf (Or.inl q)
    · exact ht (Or.inr (Int32.lt_of_lt_of_le q hft))
  refine jSame_v h (v := some (.int (lenF d f t 61 0 w))) ?_ ?_
  · have e := P_length_loop (d := d) (by omega) (nI w) f t σ 61 0 w (by omega) (by omega)
    rw [nI_0] at e
    rw [P_length_in, P_isNoWater, jbi_some, P_isOutside, jbi_some, P_isNoWater, jbi_some, P_isNoWater, jbi_some, if_neg hx, if_neg hy, if_neg hf2, if_neg ht, e, if_pos hft]
    simp
  · have e := M_length_loop (d := d) (by omega) (nI w) f t σ 61 0 w (by omega) (by omega)
    rw [nI_0] at e
    rw [M_length_in, M_isDamp, jbi_some, M_isDamp, jbi_some, M_isDamp, jbi_some, M_in f 0 t 0 _ (by decide +kernel) rfl, jbi_some, if_neg hx, if_neg hy, if_neg ht, if_neg hf, e]
    simp
