/-! ===== the front ===== -/
def bet (op bu : Nat → Int32) (o h : Nat) : Prop := (¬ op o ≤ op h ∧ bu o ≤ bu h) ∨ (op o = op h ∧ ¬ bu h ≤ bu o)
theorem isBetter {op bu : Nat → Int32} (σ : jm_S) (ho : ∀ j, 1 ≤ j → j < 100 → σ 36 j = op j ∧ σ 37 j = bu j) {o h : Nat} (o1 : 1 ≤ o) (o2 : o < 100) (h1 : 1 ≤ h) (h2 : h < 100) : ∃ v : Int32, jc 72 [.ref 35, .int (nI o), .int (nI h)] σ = some (some (.int v), σ) ∧ (¬ v = 0 ↔ bet op bu o h) := by
  have nh : ¬ (nI h < 0 ∨ 100 ≤ h) := by rw [jbad2 h2 (by decide)]; exact id
  have no : ¬ (nI o < 0 ∨ 100 ≤ o) := by rw [jbad2 o2 (by decide)]; exact id
  rw [Evens_isBetter_in, nI_clamp (show h < 2 ^ 31 by omega), nI_clamp (show o < 2 ^ 31 by omega), (ho h h1 h2).1, (ho h h1 h2).2, (ho o o1 o2).1, (ho o o1 o2).2]
  simp only [if_neg nh, if_neg no]
  unfold bet
  by_cases c1 : op o ≤ op h
  · rw [if_pos c1]
    by_cases c2 : op o = op h
    · rw [if_neg (not_not_intro c2)]
      by_cases c3 : bu h ≤ bu o
      · rw [if_pos c3]; exact ⟨0, rfl, ⟨fun q => absurd rfl q, fun q => by rcases q with q | q; exact absurd c1 q.1; exact absurd c3 q.2⟩⟩
      · rw [if_neg c3]; exact ⟨1, rfl, ⟨fun _ => Or.inr ⟨c2, c3⟩, fun _ => n10⟩⟩
    · rw [if_pos c2]; exact ⟨0, rfl, ⟨fun q => absurd rfl q, fun q => by rcases q with q | q; exact absurd c1 q.1; exact absurd q.1 c2⟩⟩
  · rw [if_neg c1]
    by_cases c4 : bu o ≤ bu h
    · rw [if_pos c4]; exact ⟨1, rfl, ⟨fun _ => Or.inl ⟨c1, c4⟩, fun _ => n10⟩⟩
    · rw [if_neg c4]
      have c2 : ¬ op o = op h := fun e => c1 (by rw [e]; exact Int32.le_refl _)
      rw [if_pos c2]; exact ⟨0, rfl, ⟨fun q => absurd rfl q, fun q => by rcases q with q | q; exact absurd q.2 c4; exact absurd q.1 c2⟩⟩
abbrev inFr (op bu : Nat → Int32) (h : Nat) : Prop := ∀ o, 1 ≤ o → o < 100 → ¬ bet op bu o h
theorem inFront_loop {op bu : Nat → Int32} (σ : jm_S) (ho : ∀ j, 1 ≤ j → j < 100 → σ 36 j = op j ∧ σ 37 j = bu j) {h : Nat} (h1 : 1 ≤ h) (h2 : h < 100) : ∀ (k o : Nat), o + k = 100 → 1 ≤ o → ∃ v : Int32, jv 71 2 [some (.ref 35), some (.int (nI h)), some (.int (nI o))] [] σ = some (some (.int v), σ) ∧ (¬ v = 0 ↔ ∀ q, o ≤ q → q < 100 → ¬ bet op bu q h) := by
  intro k
  induction k with
  | zero =>
    intro o hk o1
    rw [Evens_isInFront_L2, if_pos (by rw [i99]; exact nI_lt (by omega) (by omega))]
    exact ⟨1, rfl, ⟨fun _ q q1 q2 => by omega, fun _ => n10⟩⟩
  | succ k ih =>
    intro o hk o1
    obtain ⟨v, a1, a2⟩ := isBetter σ ho o1 (show o < 100 by omega) h1 h2
    rw [Evens_isInFront_L2, if_neg (by rw [i99]; exact nI_nlt (by omega) (by omega)), a1, jbi_some, nI_1]
    by_cases c : v = 0
    · obtain ⟨w, b1, b2⟩ := ih (o + 1) (by omega) (by omega)
      rw [if_pos c, b1]
      refine ⟨w, rfl, b2.trans ⟨fun q j j1 j2 => ?_, fun q j j1 j2 => q j (by omega) j2⟩⟩
      by_cases e : j = o
      · rw [e]; exact fun z => a2.mpr z c
      · exact q j (by omega) j2
    · rw [if_neg c]
      exact ⟨0, rfl, ⟨fun q => absurd rfl q, fun q => absurd (a2.mp c) (q o (Nat.le_refl o) (by omega))⟩⟩
theorem isInFront {op bu : Nat → Int32} (σ : jm_S) (ho : ∀ j, 1 ≤ j → j < 100 → σ 36 j = op j ∧ σ 37 j = bu j) {h : Nat} (h1 : 1 ≤ h) (h2 : h < 100) : ∃ v : Int32, jc 71 [.ref 35, .int (nI h)] σ = some (some (.int v), σ) ∧ (¬ v = 0 ↔ inFr op bu h) := by
  obtain ⟨v, a1, a2⟩ := inFront_loop σ ho h1 h2 99 1 (by omega) (by omega)
  rw [show nI 1 = 1 by decide +kernel] at a1
  exact ⟨v, by rw [Evens_isInFront_in, a1], a2⟩
noncomputable def frF (F : Nat → Prop) (i : Int32) : Nat → Nat → Nat → Int32
  | 0, _, n => if i = -1 then nI n else -1
  | k + 1, h, n => @ite Int32 (F h) (Classical.propDecidable _) (if nI n = i then nI h else frF F i k (h + 1) (n + 1)) (frF F i k (h + 1) n)
theorem frF_t {F : Nat → Prop} {i : Int32} {k h n : Nat} (c : F h) : frF F i (k + 1) h n = if nI n = i then nI h else frF F i k (h + 1) (n + 1) := if_pos c
theorem frF_f {F : Nat → Prop} {i : Int32} {k h n : Nat} (c : ¬ F h) : frF F i (k + 1) h n = frF F i k (h + 1) n := if_neg c
theorem frontSize_loop {op bu : Nat → Int32} (σ : jm_S) (ho : ∀ j, 1 ≤ j → j < 100 → σ 36 j = op j ∧ σ 37 j = bu j) : ∀ (k h n : Nat), h + k = 100 → 1 ≤ h → n ≤ h → jv 70 4 [some (.ref 35), some (.int (nI n)), some (.int (nI h))] [] σ = some (some (.int (frF (inFr op bu) (-1) k h n)), σ) := by
  intro k
  induction k with
  | zero =>
    intro h n hk h1 hn
    rw [Evens_frontSize_L4, if_pos (by rw [i99]; exact nI_lt (by omega) (by omega)), frF, if_pos rfl]
  | succ k ih =>
    intro h n hk h1 hn
    obtain ⟨v, a1, a2⟩ := isInFront σ ho h1 (show h < 100 by omega)
    rw [Evens_frontSize_L4, if_neg (by rw [i99]; exact nI_nlt (by omega) (by omega)), a1, jbi_some, nI_1, nI_1, i0]
    by_cases c : v = 0
    · rw [if_pos c, frF_f (fun z => a2.mpr z c), ih (h + 1) n (by omega) (by omega) (by omega)]
    · rw [if_neg c, frF_t (a2.mp c), if_neg (nI_ne_m1 (by omega)), ih (h + 1) (n + 1) (by omega) (by omega) (by omega)]
theorem frontHeat_loop {op bu : Nat → Int32} {i : Int32} (hi : ¬ i = -1) (σ : jm_S) (ho : ∀ j, 1 ≤ j → j < 100 → σ 36 j = op j ∧ σ 37 j = bu j) : ∀ (k h n : Nat), h + k = 100 → 1 ≤ h → n ≤ h → jv 73 4 [some (.ref 35), some (.int i), some (.int (nI n)), some (.int (nI h))] [] σ = some (some (.int (frF (inFr op bu) i k h n)), σ) := by
  intro k
  induction k with
  | zero =>
    intro h n hk h1 hn
    rw [Evens_frontHeat_L4, if_pos (by rw [i99]; exact nI_lt (by omega) (by omega)), frF, if_neg hi]
  | succ k ih =>
    intro h n hk h1 hn
    obtain ⟨v, a1, a2⟩ := isInFront σ ho h1 (show h < 100 by omega)
    rw [Evens_frontHeat_L4, if_neg (by rw [i99]; exact nI_nlt (by omega) (by omega)), a1, jbi_some, nI_1, nI_1]
    by_cases c : v = 0
    · rw [if_pos c, frF_f (fun z => a2.mpr z c), ih (h + 1) n (by omega) (by omega) (by omega)]
    · rw [if_neg c, frF_t (a2.mp c)]
      by_cases c2 : nI n = i
      · rw [if_neg (not_not_intro c2), if_pos c2]
      · rw [if_pos c2, if_neg c2, ih (h + 1) (n + 1) (by omega) (by omega) (by omega)]
theorem M_front_in0 {op bu : Nat → Int32} (x1 i : Int32) (σ : jm_S) (ho : ∀ j, 1 ≤ j → j < 100 → σ 85 j = op j ∧ σ 86 j = bu j) {h n : Nat} (h1 : 1 ≤ h) (h2 : h < 100) : ∀ (k o : Nat) (u : Option Value), o + k = 100 → 1 ≤ o → ∃ u5 u6 u7, ((∀ q, o ≤ q → q < 100 → ¬ bet op bu q h) → jv 178 38 [some (.ref 61), some (.int x1), some (.int i), some (.int (nI n)), some (.int (nI h)), some (.int 1), some (.int (nI o)), u] [] σ = if ¬ nI n = i then jv 178 25 [some (.ref 61), some (.int x1), some (.int i), some (.int (nI (n + 1))), some (.int (nI (h + 1))), u5, u6, u7] [] σ else some (some (.int (nI h)), σ)) ∧ (¬ (∀ q, o ≤ q → q < 100 → ¬ bet op bu q h) → jv 178 38 [some (.ref 61), some (.int x1), some (.int i), some (.int (nI n)), some (.int (nI h)), some (.int 1), some (.int (nI o)), u] [] σ = jv 178 25 [some (.ref 61), some (.int x1), some (.int i), some (.int (nI n)), some (.int (nI (h + 1))), u5, u6, u7] [] σ) := by
  intro k
  induction k with
  | zero =>
    intro o u hk o1
    refine ⟨some (.int 1), some (.int (nI o)), u, fun _ => ?_, fun z => absurd (fun q q1 q2 => by omega) z⟩
    rw [M_front_L38, if_pos (by rw [i100]; exact nI_le (by omega) (by omega)), if_neg n10, nI_1, nI_1]
  | succ k ih =>
    intro o u hk o1
    have nh : ¬ (nI h < 0 ∨ 100 ≤ h) := by rw [jbad2 h2 (by decide)]; exact id
    have no : ¬ (nI o < 0 ∨ 100 ≤ o) := by rw [jbad2 (show o < 100 by omega) (by decide)]; exact id
    have r0 := M_front_L38 x1 i (nI n) (nI h) 1 (nI o) u σ
    rw [if_neg (by rw [i100]; exact nI_ge (by omega) (by omega)), if_neg n10, nI_clamp (show h < 2 ^ 31 by omega), nI_clamp (show o < 2 ^ 31 by omega), (ho h h1 h2).1, (ho h h1 h2).2, (ho o o1 (by omega)).1, (ho o o1 (by omega)).2] at r0
    simp only [if_neg nh, if_neg no, nI_1] at r0
    have zero : ∀ (u' : Option Value), jv 178 38 [some (.ref 61), some (.int x1), some (.int i), some (.int (nI n)), some (.int (nI h)), some (.int 0), some (.int (nI (o + 1))), u'] [] σ = jv 178 25 [some (.ref 61), some (.int x1), some (.int i), some (.int (nI n)), some (.int (nI (h + 1))), some (.int 0), some (.int (nI (o + 1))), u'] [] σ := by
      intro u'
      rw [M_front_L38, if_pos rfl, if_pos rfl, nI_1]
      split <;> rfl
    have yes : ∀ u', bet op bu o h → jv 178 38 [some (.ref 61), some (.int x1), some (.int i), some (.int (nI n)), some (.int (nI h)), some (.int 1), some (.int (nI o)), u] [] σ = jv 178 38 [some (.ref 61), some (.int x1), some (.int i), some (.int (nI n)), some (.int (nI h)), some (.int 0), some (.int (nI (o + 1))), u'] [] σ → ∃ u5 u6 u7, ((∀ q, o ≤ q → q < 100 → ¬ bet op bu q h) → jv 178 38 [some (.ref 61), some (.int x1), some (.int i), some (.int (nI n)), some (.int (nI h)), some (.int 1), some (.int (nI o)), u] [] σ = if ¬ nI n = i then jv 178 25 [some (.ref 61), some (.int x1), some (.int i), some (.int (nI (n + 1))), some (.int (nI (h + 1))), u5, u6, u7] [] σ else some (some (.int (nI h)), σ)) ∧ (¬ (∀ q, o ≤ q → q < 100 → ¬ bet op bu q h) → jv 178 38 [some (.ref 61), some (.int x1), some (.int i), some (.int (nI n)), some (.int (nI h)), some (.int 1), some (.int (nI o)), u] [] σ = jv 178 25 [some (.ref 61), some (.int x1), some (.int i), some (.int (nI n)), some (.int (nI (h + 1))), u5, u6, u7] [] σ) :=
      fun u' b r => ⟨_, _, _, fun z => absurd b (z o (Nat.le_refl o) (by omega)), fun _ => by rw [r, zero]⟩
    have nop : ∀ u', ¬ bet op bu o h → jv 178 38 [some (.ref 61), some (.int x1), some (.int i), some (.int (nI n)), some (.int (nI h)), some (.int 1), some (.int (nI o)), u] [] σ = jv 178 38 [some (.ref 61), some (.int x1), some (.int i), some (.int (nI n)), some (.int (nI h)), some (.int 1), some (.int (nI (o + 1))), u'] [] σ → ∃ u5 u6 u7, ((∀ q, o ≤ q → q < 100 → ¬ bet op bu q h) → jv 178 38 [some (.ref 61), some (.int x1), some (.int i), some (.int (nI n)), some (.int (nI h)), some (.int 1), some (.int (nI o)), u] [] σ = if ¬ nI n = i then jv 178 25 [some (.ref 61), some (.int x1), some (.int i), some (.int (nI (n + 1))), some (.int (nI (h + 1))), u5, u6, u7] [] σ else some (some (.int (nI h)), σ)) ∧ (¬ (∀ q, o ≤ q → q < 100 → ¬ bet op bu q h) → jv 178 38 [some (.ref 61), some (.int x1), some (.int i), some (.int (nI n)), some (.int (nI h)), some (.int 1), some (.int (nI o)), u] [] σ = jv 178 25 [some (.ref 61), some (.int x1), some (.int i), some (.int (nI n)), some (.int (nI (h + 1))), u5, u6, u7] [] σ) := by
      intro u' b r
      obtain ⟨u5, u6, u7, g1, g2⟩ := ih (o + 1) u' (by omega) (by omega)
      refine ⟨u5, u6, u7, fun z => by rw [r]; exact g1 (fun q q1 q2 => z q (by omega) q2), fun z => by
        rw [r]
        refine g2 (fun y => z (fun q q1 q2 => ?_))
        by_cases e : q = o
        · rw [e]; exact b
        · exact y q (by omega) q2⟩
    by_cases c1 : op o ≤ op h
    · rw [if_pos c1] at r0
      by_cases c2 : op o = op h
      · rw [if_neg (not_not_intro c2)] at r0
        by_cases c3 : bu o < bu h
        · rw [if_pos c3] at r0
          exact yes _ (Or.inr ⟨c2, Int32.not_le.mpr c3⟩) r0
        · rw [if_neg c3] at r0
          exact nop _ (by rintro (z | z); exact z.1 c1; exact z.2 (Int32.not_lt.mp c3)) r0
      · rw [if_pos c2] at r0
        exact nop _ (by rintro (z | z); exact z.1 c1; exact c2 z.1) r0
    · rw [if_neg c1] at r0
      have c2 : ¬ op o = op h := fun e => c1 (by rw [e]; exact Int32.le_refl _)
      by_cases c4 : bu h < bu o
      · rw [if_pos c4, if_pos c2] at r0
        exact nop _ (by rintro (z | z); exact absurd z.2 (Int32.not_le.mpr c4); exact c2 z.1) r0
      · rw [if_neg c4] at r0
        exact yes _ (Or.inl ⟨c1, Int32.not_lt.mp c4⟩) r0
theorem M_front_loop {op bu : Nat → Int32} (x1 i : Int32) (σ : jm_S) (ho : ∀ j, 1 ≤ j → j < 100 → σ 85 j = op j ∧ σ 86 j = bu j) : ∀ (k h n : Nat) (u5 u6 u7 : Option Value), h + k = 100 → 1 ≤ h → jv 178 25 [some (.ref 61), some (.int x1), some (.int i), some (.int (nI n)), some (.int (nI h)), u5, u6, u7] [] σ = some (some (.int (frF (inFr op bu) i k h n)), σ) := by
  intro k
  induction k with
  | zero =>
    intro h n u5 u6 u7 hk h1
    rw [M_front_L25, if_pos (by rw [i100]; exact nI_le (by omega) (by omega)), frF]
    by_cases c : i = -1
    · rw [if_neg (not_not_intro c), if_pos c]
    · rw [if_pos c, if_neg c]
  | succ k ih =>
    intro h n u5 u6 u7 hk h1
    obtain ⟨w5, w6, w7, g1, g2⟩ := M_front_in0 x1 i σ ho (n := n) h1 (show h < 100 by omega) 99 1 u7 (by omega) (by omega)
    rw [show nI 1 = 1 by decide +kernel] at g1 g2
    rw [M_front_L25, if_neg (by rw [i100]; exact nI_ge (by omega) (by omega))]
    by_cases c : inFr op bu h
    · rw [g1 c, frF_t c]
      by_cases c2 : nI n = i
      · rw [if_neg (not_not_intro c2), if_pos c2]
      · rw [if_pos c2, if_neg c2, ih (h + 1) (n + 1) _ _ _ (by omega) (by omega)]
    · rw [g2 c, frF_f c, ih (h + 1) n _ _ _ (by omega) (by omega)]
theorem A_front {σ : jm_S} (h : I_all σ) (x i : Int32) : jSame σ sS mK' I_all (jc 69 [.ref 0, .int x, .int i]) (jc 178 [.ref 61, .int x, .int i]) := by
  obtain ⟨G, pl, P, hG, hb, hgr, hhe, kc, km⟩ := K_of h
  by_cases c1 : x < 1 ∨ 200 < x
  · exact sim_bad h (by rw [P_front_in, P_isOutside, jbi_some, ifc _ c1, if_pos n10]) (by rw [M_front_in, M_isLong, jbi_some, ifc' _ c1, if_pos rfl])
  · by_cases c3 : -1 ≤ i
    · obtain ⟨n, n1, hn, rfl⟩ := jN1200 c1
      refine sim_call h (v := some (.int (frF (inFr (evO G (σ 67) pl (σ 68) n) (evB G (σ 67) pl (σ 68) n)) i 99 1 0))) ?_ (fun τ hτ => ?_)
      · obtain ⟨ρ, a1, a2, a3⟩ := tryHeats hG hn σ kc
        refine ⟨ρ, ?_, a3⟩
        rw [P_front_in, P_isOutside, jbi_some, ifn _ c1, if_neg (not_not_intro rfl), if_pos c3, a1, jbv_some]
        by_cases c : i = -1
        · have l := frontSize_loop ρ a2 99 1 0 (by omega) (by omega) (by omega)
          rw [show nI 1 = 1 by decide +kernel, nI_0] at l
          rw [if_neg (not_not_intro c), Evens_frontSize_in, l, jbi_some, c]
        · have l := frontHeat_loop c ρ a2 99 1 0 (by omega) (by omega) (by omega)
          rw [show nI 1 = 1 by decide +kernel, nI_0] at l
          rw [if_pos c, Evens_frontHeat_in, l, jbi_some]
      · obtain ⟨ρ, a1, a2, a3⟩ := M_findEven hG hn τ (KM_c km hτ)
        refine ⟨ρ, ?_, a3⟩
        have l := M_front_loop (nI n) i ρ a2 99 1 0 none none none (by omega) (by omega)
        rw [show nI 1 = 1 by decide +kernel, nI_0] at l
        rw [M_front_in, M_isLong, jbi_some, ifn' _ c1, if_neg n10, if_pos c3, a1, jbv_some, l]
    · exact sim_bad h (by rw [P_front_in, P_isOutside, jbi_some, ifn _ c1, if_neg (not_not_intro rfl), if_neg c3]) (by rw [M_front_in, M_isLong, jbi_some, ifn' _ c1, if_neg n10, if_neg c3])
