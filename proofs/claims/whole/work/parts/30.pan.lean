/-! ===== the pan as a text ===== -/
abbrev Pn := (Nat → Int32) × (Nat → Int32) × (Nat → Int32) × Nat
def Pn.H (P : Pn) : Nat → Int32 := P.1
def Pn.S (P : Pn) : Nat → Int32 := P.2.1
def Pn.L (P : Pn) : Nat → Int32 := P.2.2.1
def Pn.s (P : Pn) : Nat := P.2.2.2
def Pn.heat (P : Pn) (h : Int32) (v : Nat) : Pn := ⟨fun j => if P.s ≤ j ∧ j < P.s + v ∧ j < 200 then h else P.H j, P.S, P.L, P.s + v⟩
def Pn.shake (P : Pn) : Pn := ⟨P.H, fun j => if j = P.s then P.S j + 1 else P.S j, P.L, P.s⟩
def Pn.lid (P : Pn) (x : Int32) : Pn := ⟨P.H, P.S, fun j => if P.s ≤ j ∧ j < 200 then x else P.L j, P.s⟩
def Pn.cold : Pn := ⟨fun _ => 0, fun _ => 0, fun _ => 0, 0⟩
def pP (σ : jm_S) (P : Pn) : Prop := σ 6 3 = nI P.s ∧ ∀ j, j < 200 → σ 7 j = P.H j ∧ σ 8 j = P.S j ∧ σ 9 j = P.L j
/-- one part: a fault or -1, where it ends, the pan then -/
def paS (y : Nat → Int32) (n p : Nat) (P : Pn) : Int32 × Nat × Pn :=
  if p < n then
    if y p = 104 then
      if nbad (p + 1) 0 99 (dgF y n 2 (p + 1) 0) then (nI (p + 1), p, P)
      else if (dgF y n 2 (p + 1) 0).2 < n ∧ y (dgF y n 2 (p + 1) 0).2 = 120 then
        if nbad ((dgF y n 2 (p + 1) 0).2 + 1) 1 99 (dgF y n 2 ((dgF y n 2 (p + 1) 0).2 + 1) 0) then (nI ((dgF y n 2 (p + 1) 0).2 + 1), p, P)
        else (-1, (dgF y n 2 ((dgF y n 2 (p + 1) 0).2 + 1) 0).2, P.heat (dgF y n 2 (p + 1) 0).1 (dgF y n 2 ((dgF y n 2 (p + 1) 0).2 + 1) 0).1.toNatClampNeg)
      else (nI (dgF y n 2 (p + 1) 0).2, p, P)
    else if y p = 115 then (-1, p + 1, P.shake)
    else if y p = 108 then (-1, p + 1, P.lid 1)
    else if y p = 111 then (-1, p + 1, P.lid 0)
    else (nI p, p, P)
  else (nI p, p, P)
theorem num99 {s : Nat} {r : Int32 × Nat} (h : ¬ nbad s 1 99 r) : ∃ v : Nat, v ≤ 99 ∧ r.1 = nI v ∧ r.1.toNatClampNeg = v := by
  rw [not_or, not_or] at h
  obtain ⟨v, h1, h2⟩ := jN (x := r.1) (M := 99) (n := 99) (by decide +kernel) (by
    rintro (q | q)
    · exact h.2.1 (Int32.lt_trans q (by decide +kernel))
    · exact h.2.2 q)
  exact ⟨v, h1, h2, by rw [h2, nI_clamp (by omega)]⟩
theorem nI200 : (200 : Int32) = nI 200 := by decide +kernel
theorem Heating_putLid_loop {x : Int32} (hx : x = 0 ∨ x = 1) : ∀ (k i : Nat) (σ : jm_S), 200 ≤ i + k → i < 2 ^ 30 → jv 22 5 [some (.ref 6), some (.int x), some (.int (nI i))] [] σ = some (none, jm_row σ 9 (fun j => if i ≤ j ∧ j < 200 then x else σ 9 j)) := by
  intro k
  induction k with
  | zero =>
    intro i σ h h2
    rw [Heating_putLid_L5, nI200, if_pos (nI_le (by omega) (by omega))]
    congr 2
    funext b j
    by_cases hb : b = 9
    · subst hb; rw [jrow_s, if_neg (by omega)]
    · rw [jrow_n _ _ hb]
  | succ k ih =>
    intro i σ h h2
    by_cases c : 200 ≤ i
    · exact ih i σ (by omega) h2
    · rw [Heating_putLid_L5, nI200, if_neg (nI_ge (by omega) (by omega)), nI_clamp (by omega), if_neg (by
        have := nI_pos (n := i) (by omega)
        rintro (q | q | q)
        · exact this q
        · omega
        · exact q hx), nI_1, ih _ _ (by omega) (by omega)]
      congr 2
      funext b j
      by_cases hb : b = 9
      · subst hb
        rw [jrow_s, jrow_s, jup_s, jupd]
        by_cases h1 : j = i
        · subst h1; rw [if_neg (by omega), if_pos rfl, if_pos (by omega)]
        · by_cases h2 : i ≤ j ∧ j < 200
          · rw [if_pos (show i + 1 ≤ j ∧ j < 200 by omega), if_pos h2]
          · rw [if_neg (show ¬ (i + 1 ≤ j ∧ j < 200) by omega), if_neg h2, if_neg h1]
      · rw [jrow_n _ _ hb, jrow_n _ _ hb, jup_n _ _ _ hb]
theorem Heating_putLid {x : Int32} (hx : x = 0 ∨ x = 1) {s : Nat} (hs : s < 2 ^ 30) (σ : jm_S) (h : σ 6 3 = nI s) : jc 22 [.ref 6, .int x] σ = some (none, jm_row σ 9 (fun j => if s ≤ j ∧ j < 200 then x else σ 9 j)) := by
  rw [Heating_putLid_in, h, Heating_putLid_loop hx 200 s σ (by omega) hs]
theorem Heating_addHeat_loop {x : Int32} {s v : Nat} (hsv : s + v < 2 ^ 30) : ∀ (k i : Nat) (σ : jm_S), s + v ≤ i + k → i ≤ s + v → σ 6 3 = nI s → jv 29 5 [some (.ref 6), some (.int x), some (.int (nI v)), some (.int (nI i))] [] σ = some (none, jm_up (jm_row σ 7 (fun j => if i ≤ j ∧ j < s + v ∧ j < 200 then x else σ 7 j)) 6 3 (nI (s + v))) := by
  intro k
  induction k with
  | zero =>
    intro i σ h h2 h3
    rw [Heating_addHeat_L5, h3, nI_add s v, if_pos (nI_le (by omega) (by omega))]
    congr 3
    funext b j
    by_cases hb : b = 7
    · subst hb; rw [jrow_s, if_neg (by omega)]
    · rw [jrow_n _ _ hb]
  | succ k ih =>
    intro i σ h h2 h3
    by_cases c : i < s + v
    · rw [Heating_addHeat_L5, h3, nI_add s v, if_neg (nI_ge c (by omega))]
      by_cases c2 : i < 200
      · rw [nI200, if_neg (nI_ge c2 (by omega)), nI_clamp (show i < 2 ^ 31 by omega), if_neg (by rw [jbad2 c2 (by decide)]; exact id), nI_1, ih _ _ (by omega) (by omega) (by rw [jup_n _ _ _ (by decide), h3])]
        congr 3
        funext b j
        by_cases hb : b = 7
        · subst hb
          rw [jrow_s, jrow_s, jup_s, jupd]
          by_cases h1 : j = i
          · subst h1; rw [if_neg (by omega), if_pos rfl, if_pos (by omega)]
          · by_cases h2 : i ≤ j ∧ j < s + v ∧ j < 200
            · rw [if_pos (show i + 1 ≤ j ∧ j < s + v ∧ j < 200 by omega), if_pos h2]
            · rw [if_neg (show ¬ (i + 1 ≤ j ∧ j < s + v ∧ j < 200) by omega), if_neg h2, if_neg h1]
        · rw [jrow_n _ _ hb, jrow_n _ _ hb, jup_n _ _ _ hb]
      · rw [nI200, if_pos (nI_le (by omega) (by omega))]
        congr 3
        funext b j
        by_cases hb : b = 7
        · subst hb; rw [jrow_s, if_neg (by omega)]
        · rw [jrow_n _ _ hb]
    · exact ih i σ (by omega) h2 h3
theorem Heating_addHeat {x : Int32} {s v : Nat} (hsv : s + v < 2 ^ 30) (σ : jm_S) (h : σ 6 3 = nI s) : jc 29 [.ref 6, .int x, .int (nI v)] σ = some (none, jm_up (jm_row σ 7 (fun j => if s ≤ j ∧ j < s + v ∧ j < 200 then x else σ 7 j)) 6 3 (nI (s + v))) := by
  rw [Heating_addHeat_in, h, Heating_addHeat_loop hsv v s σ (by omega) (by omega) h]
theorem Heating_addHeat0 {x : Int32} {s : Nat} (hsv : s < 2 ^ 30) (σ : jm_S) (h : σ 6 3 = nI s) : jc 29 [.ref 6, .int x, .int 0] σ = some (none, σ) := by
  rw [← nI_0, Heating_addHeat (v := 0) (by omega) σ h]
  congr 2
  rw [jup_id (by rw [jrow_n _ _ (by decide), h]; rfl)]
  funext b j
  by_cases hb : b = 7
  · subst hb; rw [jrow_s, if_neg (by omega)]
  · rw [jrow_n _ _ hb]
theorem Heating_coolDown (σ : jm_S) : ∃ ρ, jc 20 [.ref 6] σ = some (none, ρ) ∧ (∀ c, c ≠ 6 → c ≠ 7 → c ≠ 8 → c ≠ 9 → ρ c = σ c) ∧ pP ρ Pn.cold := by
  rw [Heating_coolDown_in, Arrays_fill_7, jbv_some, Arrays_fill_8, jbv_some]
  rw [Heating_putLid (s := 0) (Or.inl rfl) (by omega) _ (by rw [jrow_n _ _ (by decide), jrow_n _ _ (by decide), jup_s, jupd, if_pos rfl, nI_0]), jbv_some]
  refine ⟨_, rfl, fun c h1 h2 h3 h4 => ?_, ?_, fun j hj => ⟨?_, ?_, ?_⟩⟩
  · rw [jrow_n _ _ h4, jrow_n _ _ h3, jrow_n _ _ h2, jup_n _ _ _ h1]
  · rw [jrow_n _ _ (by decide), jrow_n _ _ (by decide), jrow_n _ _ (by decide), jup_s, jupd, if_pos rfl]; exact nI_0.symm
  · rw [jrow_n _ _ (by decide), jrow_n _ _ (by decide), jrow_s, if_pos hj]; rfl
  · rw [jrow_n _ _ (by decide), jrow_s, if_pos hj]; rfl
  · rw [jrow_s, if_pos (by omega)]; rfl
theorem Heating_addPart {n p : Nat} {y : Nat → Int32} {P : Pn} (hn : n ≤ 60) (σ : jm_S) (ht : tx σ 42 43 n y) (hp : σ 42 2 = nI p) (hpn : p ≤ n) (h3 : σ 42 3 = -1) (hP : pP σ P) (hs : P.s < 2 ^ 29) : ∀ r, paS y n p P = r → ∃ ρ, jc 24 [.ref 6, .ref 42] σ = some (none, ρ) ∧ (∀ c, c ≠ 6 → c ≠ 7 → c ≠ 8 → c ≠ 9 → c ≠ 42 → ρ c = σ c) ∧ ρ 42 1 = σ 42 1 ∧ ρ 42 3 = r.1 ∧ (r.1 = -1 → ρ 42 2 = nI r.2.1 ∧ pP ρ r.2.2) := by
  intro r hr
  rw [paS] at hr
  have tk := fun x => Text_takes_42 x σ ht hn hp hpn h3
  have key : ∀ (q : Nat) (lo : Int32), q ≤ n → jc 26 [.ref 42, .int 2, .int lo, .int 99] (jm_up σ 42 2 (nI q)) = some (some (.int (dgF y n 2 q 0).1), if nbad q lo 99 (dgF y n 2 q 0) then jm_up (jm_up σ 42 2 (nI (dgF y n 2 q 0).2)) 42 3 (nI q) else jm_up σ 42 2 (nI (dgF y n 2 q 0).2)) := by
    intro q lo hq
    have := Text_number_42 (n := n) (s := q) (y := y) hn (K := 2) (by omega) lo 99 (jm_up σ 42 2 (nI q)) hq ⟨by rw [jup_s, jupd, if_neg (by decide)]; exact ht.1, fun j hj => by rw [jup_n _ _ _ (by decide)]; exact ht.2 j hj⟩ (by rw [jup_s, jupd, if_pos rfl]) (by rw [jup_s, jupd, if_neg (by decide)]; exact h3)
    rw [show nI 2 = 2 by decide +kernel, jup_up] at this
    exact this
  have fl : ∀ (q z : Nat), q ≤ 60 → jc 28 [.ref 42, .int 120] (jm_up (jm_up σ 42 2 (nI z)) 42 3 (nI q)) = some (none, jm_up (jm_up σ 42 2 (nI z)) 42 3 (nI q)) := fun q z h => Text_needsF_42 _ _ (by rw [jup_s, jupd, if_pos rfl]; exact nI_ne_m1 (by omega))
  have fl2 : ∀ (q z : Nat), q ≤ 60 → jc 26 [.ref 42, .int 2, .int 1, .int 99] (jm_up (jm_up σ 42 2 (nI z)) 42 3 (nI q)) = some (some (.int 1), jm_up (jm_up σ 42 2 (nI z)) 42 3 (nI q)) := fun q z h => Text_numberF_42 _ _ _ _ (by rw [jup_s, jupd, if_pos rfl]; exact nI_ne_m1 (by omega))
  have h0 : ∀ (x : Int32) (q z : Nat), jc 29 [.ref 6, .int x, .int 0] (jm_up (jm_up σ 42 2 (nI z)) 42 3 (nI q)) = some (none, jm_up (jm_up σ 42 2 (nI z)) 42 3 (nI q)) := fun x q z => Heating_addHeat0 (s := P.s) (by omega) _ (by rw [jup_n _ _ _ (by decide), jup_n _ _ _ (by decide), hP.1])
  have f3 : ∀ (q z : Nat), q ≤ 60 → ¬ (jm_up (jm_up σ 42 2 (nI z)) 42 3 (nI q)) 42 3 = -1 := fun q z h => by rw [jup_s, jupd, if_pos rfl]; exact nI_ne_m1 (by omega)
  have fin : ∀ (q z : Nat), q ≤ 60 → jc 24 [.ref 6, .ref 42] σ = some (none, jm_up (jm_up σ 42 2 (nI z)) 42 3 (nI q)) → ∃ ρ, jc 24 [.ref 6, .ref 42] σ = some (none, ρ) ∧ (∀ c, c ≠ 6 → c ≠ 7 → c ≠ 8 → c ≠ 9 → c ≠ 42 → ρ c = σ c) ∧ ρ 42 1 = σ 42 1 ∧ ρ 42 3 = nI q ∧ (nI q = -1 → ρ 42 2 = nI p ∧ pP ρ P) := by
    intro q z hq e
    refine ⟨_, e, fun c _ _ _ _ h5 => by rw [jup_n _ _ _ h5, jup_n _ _ _ h5], ?_, ?_, fun q => absurd q (nI_ne_m1 (by omega))⟩
    · rw [jup_s, jupd, if_neg (by decide), jup_s, jupd, if_neg (by decide)]
    · rw [jup_s, jupd, if_pos rfl]
  by_cases c0 : p < n
  · rw [if_pos c0] at hr
    by_cases c1 : y p = 104
    · rw [if_pos c1] at hr
      have hin : (dgF y n 2 (p + 1) 0).2 ≤ n := dgF_in (by omega)
      have run : jc 24 [.ref 6, .ref 42] σ = jbi (jc 26 [(.ref 42), (.int (2 : Int32)), (.int (0 : Int32)), (.int (99 : Int32))] (jm_up σ 42 2 (nI (p + 1)))) (fun r8 τ8 => jbv (jc 28 [(.ref 42), (.int (120 : Int32))] τ8) (fun τ9 => jbi (jc 26 [(.ref 42), (.int (2 : Int32)), (.int (1 : Int32)), (.int (99 : Int32))] τ9) (fun r10 τ10 => (if ¬ (τ10 42 3) = (-1 : Int32) then jbv (jc 29 [(.ref 6), (.int r8), (.int (0 : Int32))] τ10) (fun τ11 => some (none, τ11)) else jbv (jc 29 [(.ref 6), (.int r8), (.int r10)] τ10) (fun τ12 => some (none, τ12)))))) := by
        rw [Heating_addPart_42_in, tk, if_pos ⟨c0, c1⟩, jbi_some, if_neg (by decide)]
      rw [key (p + 1) 0 (by omega), jbi_some] at run
      by_cases c2 : nbad (p + 1) 0 99 (dgF y n 2 (p + 1) 0)
      · rw [if_pos c2] at hr run
        subst hr
        refine fin _ (dgF y n 2 (p + 1) 0).2 (by omega) ?_
        rw [run, fl _ _ (by omega), jbv_some, fl2 _ _ (by omega), jbi_some, if_pos (f3 _ _ (by omega)), h0, jbv_some]
      · rw [if_neg c2] at hr run
        generalize hq : dgF y n 2 (p + 1) 0 = q at hr run hin c2
        have nd := Text_needs_42 (n := n) (p := q.2) (y := y) 120 (jm_up σ 42 2 (nI q.2)) ⟨by rw [jup_s, jupd, if_neg (by decide)]; exact ht.1, fun j hj => by rw [jup_n _ _ _ (by decide)]; exact ht.2 j hj⟩ hn (by rw [jup_s, jupd, if_pos rfl]) hin (by rw [jup_s, jupd, if_neg (by decide)]; exact h3)
        rw [nd] at run
        by_cases c3 : q.2 < n ∧ y q.2 = 120
        · rw [if_pos c3] at hr run
          rw [jbv_some, jup_up, key (q.2 + 1) 1 (by omega), jbi_some] at run
          have hin2 : (dgF y n 2 (q.2 + 1) 0).2 ≤ n := dgF_in (by omega)
          by_cases c4 : nbad (q.2 + 1) 1 99 (dgF y n 2 (q.2 + 1) 0)
          · rw [if_pos c4] at hr run
            subst hr
            refine fin _ (dgF y n 2 (q.2 + 1) 0).2 (by omega) ?_
            rw [run, if_pos (f3 _ _ (by omega)), h0, jbv_some]
          · rw [if_neg c4] at hr run
            obtain ⟨v, v1, v2, v3⟩ := num99 c4
            subst hr
            rw [if_neg (by rw [jup_s, jupd, if_neg (by decide), h3]; simp), v2, Heating_addHeat (s := P.s) (by omega) _ (by rw [jup_n _ _ _ (by decide), hP.1]), jbv_some] at run
            refine ⟨_, run, fun c h6 h7 _ _ h42 => ?_, ?_, ?_, fun _ => ⟨?_, ?_, fun j hj => ⟨?_, ?_, ?_⟩⟩⟩
            · rw [jup_n _ _ _ h6, jrow_n _ _ h7, jup_n _ _ _ h42]
            · rw [jup_n _ _ _ (by decide), jrow_n _ _ (by decide), jup_s, jupd, if_neg (by decide)]
            · rw [jup_n _ _ _ (by decide), jrow_n _ _ (by decide), jup_s, jupd, if_neg (by decide), h3]
            · rw [jup_n _ _ _ (by decide), jrow_n _ _ (by decide), jup_s, jupd, if_pos rfl]
            · rw [jup_s, jupd, if_pos rfl]; show _ = nI (P.s + (dgF y n 2 (q.2 + 1) 0).1.toNatClampNeg); rw [v3]
            · rw [jup_n _ _ _ (by decide), jrow_s, jup_n _ _ _ (by decide), (hP.2 j hj).1]
              show _ = if P.s ≤ j ∧ j < P.s + (dgF y n 2 (q.2 + 1) 0).1.toNatClampNeg ∧ j < 200 then q.1 else P.H j
              rw [v3]
            · rw [jup_n _ _ _ (by decide), jrow_n _ _ (by decide), jup_n _ _ _ (by decide), (hP.2 j hj).2.1]; rfl
            · rw [jup_n _ _ _ (by decide), jrow_n _ _ (by decide), jup_n _ _ _ (by decide), (hP.2 j hj).2.2]; rfl
        · rw [if_neg c3] at hr run
          subst hr
          refine fin _ q.2 (by omega) ?_
          rw [run, jbv_some, fl2 _ _ (by omega), jbi_some, if_pos (f3 _ _ (by omega)), h0, jbv_some]
    · rw [if_neg c1] at hr
      have n1 : ¬ (p < n ∧ y p = 104) := fun q => c1 q.2
      by_cases c2 : y p = 115
      · rw [if_pos c2] at hr
        subst hr
        have run : jc 24 [.ref 6, .ref 42] σ = (if (200 : Int32) ≤ ((jm_up σ 42 2 (nI (p + 1))) 6 3) then some (none, (jm_up σ 42 2 (nI (p + 1)))) else (if ((jm_up σ 42 2 (nI (p + 1))) 6 3) < 0 ∨ 200 ≤ ((jm_up σ 42 2 (nI (p + 1))) 6 3).toNatClampNeg then none else (if ((jm_up σ 42 2 (nI (p + 1))) 6 3) < 0 ∨ 200 ≤ ((jm_up σ 42 2 (nI (p + 1))) 6 3).toNatClampNeg then none else some (none, (jm_up (jm_up σ 42 2 (nI (p + 1))) 8 ((jm_up σ 42 2 (nI (p + 1))) 6 3).toNatClampNeg (((jm_up σ 42 2 (nI (p + 1))) 8 ((jm_up σ 42 2 (nI (p + 1))) 6 3).toNatClampNeg) + (1 : Int32))))))) := by
          rw [Heating_addPart_42_in, tk, if_neg n1, jbi_some, if_pos rfl, tk, if_pos ⟨c0, c2⟩, jbi_some, if_neg (by decide)]
        have e6 : (jm_up σ 42 2 (nI (p + 1))) 6 3 = nI P.s := by rw [jup_n _ _ _ (by decide), hP.1]
        rw [e6, nI_clamp (show P.s < 2 ^ 31 by omega)] at run
        by_cases c3 : P.s < 200
        · rw [nI200, if_neg (nI_ge c3 (by omega)), if_neg (by rw [jbad2 c3 (by decide)]; exact id), if_neg (by rw [jbad2 c3 (by decide)]; exact id)] at run
          refine ⟨_, run, fun c _ _ h8 _ h42 => by rw [jup_n _ _ _ h8, jup_n _ _ _ h42], ?_, ?_, fun _ => ⟨?_, ?_, fun j hj => ⟨?_, ?_, ?_⟩⟩⟩
          · rw [jup_n _ _ _ (by decide), jup_s, jupd, if_neg (by decide)]
          · rw [jup_n _ _ _ (by decide), jup_s, jupd, if_neg (by decide), h3]
          · rw [jup_n _ _ _ (by decide), jup_s, jupd, if_pos rfl]
          · rw [jup_n _ _ _ (by decide), e6]; rfl
          · rw [jup_n _ _ _ (by decide), jup_n _ _ _ (by decide), (hP.2 j hj).1]; rfl
          · rw [jup_s, jupd, jup_n _ _ _ (by decide)]
            show _ = if j = P.s then P.S j + 1 else P.S j
            by_cases h : j = P.s
            · rw [if_pos h, if_pos h, ← h, (hP.2 j hj).2.1]
            · rw [if_neg h, if_neg h, (hP.2 j hj).2.1]
          · rw [jup_n _ _ _ (by decide), jup_n _ _ _ (by decide), (hP.2 j hj).2.2]; rfl
        · rw [nI200, if_pos (nI_le (by omega) (by omega))] at run
          refine ⟨_, run, fun c _ _ h8 _ h42 => by rw [jup_n _ _ _ h42], ?_, ?_, fun _ => ⟨?_, ?_, fun j hj => ⟨?_, ?_, ?_⟩⟩⟩
          · rw [jup_s, jupd, if_neg (by decide)]
          · rw [jup_s, jupd, if_neg (by decide), h3]
          · rw [jup_s, jupd, if_pos rfl]
          · rw [e6]; rfl
          · rw [jup_n _ _ _ (by decide), (hP.2 j hj).1]; rfl
          · rw [jup_n _ _ _ (by decide)]
            show _ = if j = P.s then P.S j + 1 else P.S j
            rw [if_neg (by omega), (hP.2 j hj).2.1]
          · rw [jup_n _ _ _ (by decide), (hP.2 j hj).2.2]; rfl
      · rw [if_neg c2] at hr
        have n2 : ¬ (p < n ∧ y p = 115) := fun q => c2 q.2
        have lidc : ∀ x : Int32, (x = 0 ∨ x = 1) → jc 24 [.ref 6, .ref 42] σ = jbv (jc 22 [(.ref 6), (.int x)] (jm_up σ 42 2 (nI (p + 1)))) (fun τ6 => some (none, τ6)) → ∃ ρ, jc 24 [.ref 6, .ref 42] σ = some (none, ρ) ∧ (∀ c, c ≠ 6 → c ≠ 7 → c ≠ 8 → c ≠ 9 → c ≠ 42 → ρ c = σ c) ∧ ρ 42 1 = σ 42 1 ∧ ρ 42 3 = -1 ∧ ((-1 : Int32) = -1 → ρ 42 2 = nI (p + 1) ∧ pP ρ (P.lid x)) := by
          intro x hx run
          rw [Heating_putLid hx (s := P.s) (by omega) _ (by rw [jup_n _ _ _ (by decide), hP.1]), jbv_some] at run
          refine ⟨_, run, fun c _ _ _ h9 h42 => by rw [jrow_n _ _ h9, jup_n _ _ _ h42], ?_, ?_, fun _ => ⟨?_, ?_, fun j hj => ⟨?_, ?_, ?_⟩⟩⟩
          · rw [jrow_n _ _ (by decide), jup_s, jupd, if_neg (by decide)]
          · rw [jrow_n _ _ (by decide), jup_s, jupd, if_neg (by decide), h3]
          · rw [jrow_n _ _ (by decide), jup_s, jupd, if_pos rfl]
          · rw [jrow_n _ _ (by decide), jup_n _ _ _ (by decide), hP.1]; rfl
          · rw [jrow_n _ _ (by decide), jup_n _ _ _ (by decide), (hP.2 j hj).1]; rfl
          · rw [jrow_n _ _ (by decide), jup_n _ _ _ (by decide), (hP.2 j hj).2.1]; rfl
          · rw [jrow_s, jup_n _ _ _ (by decide), (hP.2 j hj).2.2]; rfl
        by_cases c3 : y p = 108
        · rw [if_pos c3] at hr
          subst hr
          exact lidc 1 (Or.inr rfl) (by rw [Heating_addPart_42_in, tk, if_neg n1, jbi_some, if_pos rfl, tk, if_neg n2, jbi_some, if_pos rfl, tk, if_pos ⟨c0, c3⟩, jbi_some, if_neg (by decide)])
        · rw [if_neg c3] at hr
          have n3 : ¬ (p < n ∧ y p = 108) := fun q => c3 q.2
          by_cases c4 : y p = 111
          · rw [if_pos c4] at hr
            subst hr
            exact lidc 0 (Or.inl rfl) (by rw [Heating_addPart_42_in, tk, if_neg n1, jbi_some, if_pos rfl, tk, if_neg n2, jbi_some, if_pos rfl, tk, if_neg n3, jbi_some, if_pos rfl, tk, if_pos ⟨c0, c4⟩, jbi_some, if_neg (by decide)])
          · rw [if_neg c4] at hr
            have n4 : ¬ (p < n ∧ y p = 111) := fun q => c4 q.2
            subst hr
            refine fin p p (by omega) ?_
            rw [Heating_addPart_42_in, tk, if_neg n1, jbi_some, if_pos rfl, tk, if_neg n2, jbi_some, if_pos rfl, tk, if_neg n3, jbi_some, if_pos rfl, tk, if_neg n4, jbi_some, if_pos rfl, hp, Text_failAt_42 _ σ h3, jbv_some, jup_id hp]
  · rw [if_neg c0] at hr
    subst hr
    have nn : ∀ x, ¬ (p < n ∧ y p = x) := fun x q => c0 q.1
    refine fin p p (by omega) ?_
    rw [Heating_addPart_42_in, tk, if_neg (nn _), jbi_some, if_pos rfl, tk, if_neg (nn _), jbi_some, if_pos rfl, tk, if_neg (nn _), jbi_some, if_pos rfl, tk, if_neg (nn _), jbi_some, if_pos rfl, hp, Text_failAt_42 _ σ h3, jbv_some, jup_id hp]
