/-! ===== write, count ===== -/
theorem liftS {σ : jm_S} {S S' K K' : List Nat} {p : jm_S → Prop} {c1 c2 : jm_S → Option (Option Value × jm_S)} (h : jSame σ S K p c1 c2) (hS : ∀ a ∈ S, a ∈ S') (hK : ∀ a ∈ K, a ∈ K') (hp : ∀ ρ, p ρ → jFr S K σ ρ → I_all ρ) : jSame σ S' K' I_all c1 c2 := by
  obtain ⟨v, τ, ρ, h1, h2, h3, h4⟩ := h
  exact ⟨v, τ, ρ, h1, h2, hp ρ h3 h4, h4.weak hS hK⟩
theorem I_tx_61 {σ ρ : jm_S} (h : I_tx σ) (hf : ∀ c, c ∈ [6, 7, 8, 9, 42, 43, 44, 45, 46, 47, 48, 49, 50, 51, 52, 69, 70] → ρ c = σ c) : I_tx ρ := I_tx_fr h hf
theorem all_sl {σ ρ : jm_S} (h : I_all σ) (hp : I_sl ρ) (hf : jFr jSS [4] σ ρ) : I_all ρ := by
  obtain ⟨h1, h2, h3, h4⟩ := h
  have fr : ∀ c, c ∉ jSS → c ≠ 61 → ρ c = σ c := hf.1
  refine ⟨hp, I_gh_c h2 (by rw [fr 1 (by decide) (by decide)]) (hf.2 5 (by decide)) (hf.2 36 (by decide)) (by rw [fr 38 (by decide) (by decide)]) (fun a ha => ?_), I_se_fr h3 (fr 4 (by decide) (by decide)) (fr 68 (by decide) (by decide)), I_tx_fr h4 (fun c hc => ?_)⟩
  · simp only [List.mem_cons, List.not_mem_nil, or_false] at ha
    rcases ha with e | e | e | e | e | e | e | e <;> subst e <;> exact fr _ (by decide) (by decide)
  · simp only [List.mem_cons, List.not_mem_nil, or_false] at hc
    exact fr c (by simp only [List.mem_cons, List.not_mem_nil, or_false]; omega) (by omega)
theorem I_sh_w {σ ρ : jm_S} (hs : I_sh σ) {k m : Nat} (hk : k < 4) (v : Nat → Int32) (hm : ∀ n, I_s1 σ k n → m ≤ n) (h1 : ∀ c, 53 ≤ c → c ≤ 60 → c ≠ 54 + 2 * k → ρ c = σ c) (h62 : ρ 62 = σ 62) (h63 : ρ 63 = σ 63) (hb : ∀ j, ρ (54 + 2 * k) j = if j < m then v j else σ (54 + 2 * k) j) (h64 : ∀ j, ρ 64 j = if 60 * k ≤ j ∧ j < 60 * k + m then v (j - 60 * k) else σ 64 j) : I_sh ρ := by
  intro i hi
  obtain ⟨n, hn⟩ := hs i hi
  refine ⟨n, ?_⟩
  by_cases c : i = k
  · subst c
    have mn := hm n hn
    obtain ⟨p1, p2, p3, p4, p5, p6⟩ := hn
    refine ⟨p1, ?_, ?_, ?_, ?_, fun j hj => ?_⟩
    · rw [h1 _ (by omega) (by omega) (by omega), h62]; exact p2
    · rw [h62]; exact p3
    · rw [h1 _ (by omega) (by omega) (by omega)]; exact p4
    · rw [h63]; exact p5
    · rw [hb, h64]
      by_cases q : j < m
      · rw [if_pos q, if_pos (by omega), show 60 * i + j - 60 * i = j by omega]
      · rw [if_neg q, if_neg (by omega)]; exact p6 j hj
  · refine I_s1_c hn (h1 _ (by omega) (by omega) (by omega)) (h1 _ (by omega) (by omega) (by omega)) (by rw [h62]) (by rw [h63]) (fun j hj => ?_)
    have mk : m ≤ 60 := by
      obtain ⟨n', hn'⟩ := hs k hk
      have := hm n' hn'
      have := hn'.1
      omega
    rw [h64, if_neg (by omega)]
def wrV (G : Nat) (T : Nat → Int32) (pl : Nat → Nat) (P : Pn) (se : Nat → Int32) (f : Int32) (n j : Nat) : Int32 := jcut f (nI (sN G T pl P se (n + j)))
theorem write_loop_0 {G : Nat} (hG : G ≤ 12) {T : Nat → Int32} {pl : Nat → Nat} {P : Pn} {se : Nat → Int32} {n m : Nat} (hn : n + m ≤ 200) (hm : m ≤ 60) (x2 : Int32) : ∀ (d i : Nat) (σ : jm_S), i + d = m → CS_11 G (fun _ => true) (RN G T pl P se 200) σ → ∃ ρ, jv 111 67 [some (.ref 0), some (.int (nI n)), some (.int x2), some (.ref 53), some (.int (nI m)), some (.int (nI i))] [] σ = some (some (.int (nI m)), ρ) ∧ (∀ c, c ≠ 54 → ρ c = σ c) ∧ (∀ j, ρ 54 j = if i ≤ j ∧ j < m then wrV G T pl P se (σ 53 1) n j else σ 54 j) := by
  intro d
  induction d with
  | zero =>
    intro i σ hi h
    rw [P_write_L67, if_pos (nI_le (by omega) (by omega))]
    exact ⟨σ, rfl, fun _ _ => rfl, fun j => by rw [if_neg (by omega)]⟩
  | succ d ih =>
    intro i σ hi h
    have gi : jc 53 [.ref 11, .int (nI (n + i))] σ = some (some (.int (nI (sN G T pl P se (n + i)))), σ) := goneIn_11 hG (show n + i < 200 by omega) (by omega) σ h
    have sp : jc 107 [.ref 53, .int (nI i), .int (nI (sN G T pl P se (n + i)))] σ = some (none, jm_up σ 54 i (wrV G T pl P se (σ 53 1) n i)) := Sheet_put (k := 0) (by omega) (show i < 60 by omega) (nI (sN G T pl P se (n + i))) σ
    obtain ⟨ρ, e1, e2, e3⟩ := ih (i + 1) (jm_up σ 54 i (wrV G T pl P se (σ 53 1) n i)) (by omega) (CS_fr h (by rw [jup_n _ _ _ (by decide)]) (by rw [jup_n _ _ _ (by decide)]) (by rw [jup_n _ _ _ (by decide)]) (by rw [jup_n _ _ _ (by decide)]))
    refine ⟨ρ, ?_, fun c hc => by rw [e2 c hc, jup_n _ _ _ hc], fun j => ?_⟩
    · rw [P_write_L67, if_neg (nI_ge (show i < m by omega) (by omega)), nI_add, gi, jbi_some, sp, jbv_some, nI_1, e1]
    · rw [e3, jup_n _ _ _ (show 53 ≠ 54 by decide), jup_s, jupd]
      by_cases c : j = i
      · rw [if_neg (by omega), if_pos c, if_pos (by omega), c]
      · by_cases q : i ≤ j ∧ j < m
        · rw [if_pos (by omega), if_pos q]
        · rw [if_neg (by omega), if_neg c, if_neg q]
theorem write_loop_1 {G : Nat} (hG : G ≤ 12) {T : Nat → Int32} {pl : Nat → Nat} {P : Pn} {se : Nat → Int32} {n m : Nat} (hn : n + m ≤ 200) (hm : m ≤ 60) (x2 : Int32) : ∀ (d i : Nat) (σ : jm_S), i + d = m → CS_11 G (fun _ => true) (RN G T pl P se 200) σ → ∃ ρ, jv 111 67 [some (.ref 0), some (.int (nI n)), some (.int x2), some (.ref 55), some (.int (nI m)), some (.int (nI i))] [] σ = some (some (.int (nI m)), ρ) ∧ (∀ c, c ≠ 56 → ρ c = σ c) ∧ (∀ j, ρ 56 j = if i ≤ j ∧ j < m then wrV G T pl P se (σ 55 1) n j else σ 56 j) := by
  intro d
  induction d with
  | zero =>
    intro i σ hi h
    rw [P_write_L67_v2, if_pos (nI_le (by omega) (by omega))]
    exact ⟨σ, rfl, fun _ _ => rfl, fun j => by rw [if_neg (by omega)]⟩
  | succ d ih =>
    intro i σ hi h
    have gi : jc 53 [.ref 11, .int (nI (n + i))] σ = some (some (.int (nI (sN G T pl P se (n + i)))), σ) := goneIn_11 hG (show n + i < 200 by omega) (by omega) σ h
    have sp : jc 107 [.ref 55, .int (nI i), .int (nI (sN G T pl P se (n + i)))] σ = some (none, jm_up σ 56 i (wrV G T pl P se (σ 55 1) n i)) := Sheet_put (k := 1) (by omega) (show i < 60 by omega) (nI (sN G T pl P se (n + i))) σ
    obtain ⟨ρ, e1, e2, e3⟩ := ih (i + 1) (jm_up σ 56 i (wrV G T pl P se (σ 55 1) n i)) (by omega) (CS_fr h (by rw [jup_n _ _ _ (by decide)]) (by rw [jup_n _ _ _ (by decide)]) (by rw [jup_n _ _ _ (by decide)]) (by rw [jup_n _ _ _ (by decide)]))
    refine ⟨ρ, ?_, fun c hc => by rw [e2 c hc, jup_n _ _ _ hc], fun j => ?_⟩
    · rw [P_write_L67_v2, if_neg (nI_ge (show i < m by omega) (by omega)), nI_add, gi, jbi_some, sp, jbv_some, nI_1, e1]
    · rw [e3, jup_n _ _ _ (show 55 ≠ 56 by decide), jup_s, jupd]
      by_cases c : j = i
      · rw [if_neg (by omega), if_pos c, if_pos (by omega), c]
      · by_cases q : i ≤ j ∧ j < m
        · rw [if_pos (by omega), if_pos q]
        · rw [if_neg (by omega), if_neg c, if_neg q]
theorem write_loop_2 {G : Nat} (hG : G ≤ 12) {T : Nat → Int32} {pl : Nat → Nat} {P : Pn} {se : Nat → Int32} {n m : Nat} (hn : n + m ≤ 200) (hm : m ≤ 60) (x2 : Int32) : ∀ (d i : Nat) (σ : jm_S), i + d = m → CS_11 G (fun _ => true) (RN G T pl P se 200) σ → ∃ ρ, jv 111 67 [some (.ref 0), some (.int (nI n)), some (.int x2), some (.ref 57), some (.int (nI m)), some (.int (nI i))] [] σ = some (some (.int (nI m)), ρ) ∧ (∀ c, c ≠ 58 → ρ c = σ c) ∧ (∀ j, ρ 58 j = if i ≤ j ∧ j < m then wrV G T pl P se (σ 57 1) n j else σ 58 j) := by
  intro d
  induction d with
  | zero =>
    intro i σ hi h
    rw [P_write_L67_v3, if_pos (nI_le (by omega) (by omega))]
    exact ⟨σ, rfl, fun _ _ => rfl, fun j => by rw [if_neg (by omega)]⟩
  | succ d ih =>
    intro i σ hi h
    have gi : jc 53 [.ref 11, .int (nI (n + i))] σ = some (some (.int (nI (sN G T pl P se (n + i)))), σ) := goneIn_11 hG (show n + i < 200 by omega) (by omega) σ h
    have sp : jc 107 [.ref 57, .int (nI i), .int (nI (sN G T pl P se (n + i)))] σ = some (none, jm_up σ 58 i (wrV G T pl P se (σ 57 1) n i)) := Sheet_put (k := 2) (by omega) (show i < 60 by omega) (nI (sN G T pl P se (n + i))) σ
    obtain ⟨ρ, e1, e2, e3⟩ := ih (i + 1) (jm_up σ 58 i (wrV G T pl P se (σ 57 1) n i)) (by omega) (CS_fr h (by rw [jup_n _ _ _ (by decide)]) (by rw [jup_n _ _ _ (by decide)]) (by rw [jup_n _ _ _ (by decide)]) (by rw [jup_n _ _ _ (by decide)]))
    refine ⟨ρ, ?_, fun c hc => by rw [e2 c hc, jup_n _ _ _ hc], fun j => ?_⟩
    · rw [P_write_L67_v3, if_neg (nI_ge (show i < m by omega) (by omega)), nI_add, gi, jbi_some, sp, jbv_some, nI_1, e1]
    · rw [e3, jup_n _ _ _ (show 57 ≠ 58 by decide), jup_s, jupd]
      by_cases c : j = i
      · rw [if_neg (by omega), if_pos c, if_pos (by omega), c]
      · by_cases q : i ≤ j ∧ j < m
        · rw [if_pos (by omega), if_pos q]
        · rw [if_neg (by omega), if_neg c, if_neg q]
theorem write_loop_3 {G : Nat} (hG : G ≤ 12) {T : Nat → Int32} {pl : Nat → Nat} {P : Pn} {se : Nat → Int32} {n m : Nat} (hn : n + m ≤ 200) (hm : m ≤ 60) (x2 : Int32) : ∀ (d i : Nat) (σ : jm_S), i + d = m → CS_11 G (fun _ => true) (RN G T pl P se 200) σ → ∃ ρ, jv 111 67 [some (.ref 0), some (.int (nI n)), some (.int x2), some (.ref 59), some (.int (nI m)), some (.int (nI i))] [] σ = some (some (.int (nI m)), ρ) ∧ (∀ c, c ≠ 60 → ρ c = σ c) ∧ (∀ j, ρ 60 j = if i ≤ j ∧ j < m then wrV G T pl P se (σ 59 1) n j else σ 60 j) := by
  intro d
  induction d with
  | zero =>
    intro i σ hi h
    rw [P_write_L67_v4, if_pos (nI_le (by omega) (by omega))]
    exact ⟨σ, rfl, fun _ _ => rfl, fun j => by rw [if_neg (by omega)]⟩
  | succ d ih =>
    intro i σ hi h
    have gi : jc 53 [.ref 11, .int (nI (n + i))] σ = some (some (.int (nI (sN G T pl P se (n + i)))), σ) := goneIn_11 hG (show n + i < 200 by omega) (by omega) σ h
    have sp : jc 107 [.ref 59, .int (nI i), .int (nI (sN G T pl P se (n + i)))] σ = some (none, jm_up σ 60 i (wrV G T pl P se (σ 59 1) n i)) := Sheet_put (k := 3) (by omega) (show i < 60 by omega) (nI (sN G T pl P se (n + i))) σ
    obtain ⟨ρ, e1, e2, e3⟩ := ih (i + 1) (jm_up σ 60 i (wrV G T pl P se (σ 59 1) n i)) (by omega) (CS_fr h (by rw [jup_n _ _ _ (by decide)]) (by rw [jup_n _ _ _ (by decide)]) (by rw [jup_n _ _ _ (by decide)]) (by rw [jup_n _ _ _ (by decide)]))
    refine ⟨ρ, ?_, fun c hc => by rw [e2 c hc, jup_n _ _ _ hc], fun j => ?_⟩
    · rw [P_write_L67_v4, if_neg (nI_ge (show i < m by omega) (by omega)), nI_add, gi, jbi_some, sp, jbv_some, nI_1, e1]
    · rw [e3, jup_n _ _ _ (show 59 ≠ 60 by decide), jup_s, jupd]
      by_cases c : j = i
      · rw [if_neg (by omega), if_pos c, if_pos (by omega), c]
      · by_cases q : i ≤ j ∧ j < m
        · rw [if_pos (by omega), if_pos q]
        · rw [if_neg (by omega), if_neg c, if_neg q]
theorem M_write_loop {G : Nat} {T : Nat → Int32} {pl : Nat → Nat} {P : Pn} {se : Nat → Int32} {n m k : Nat} (hk : k < 4) (hn : n + m ≤ 200) (hm : m ≤ 60) : ∀ (d i : Nat) (σ : jm_S), i + d = m → (∀ j, j < 200 → σ 84 j = nI (sN G T pl P se j)) → ∃ ρ, jv 198 80 [some (.ref 61), some (.int (nI n)), some (.int (nI k)), some (.int (nI m)), some (.int (nI i))] [] σ = some (some (.int (nI m)), ρ) ∧ (∀ c, c ≠ 64 → ρ c = σ c) ∧ (∀ j, ρ 64 j = if 60 * k + i ≤ j ∧ j < 60 * k + m then wrV G T pl P se (σ 62 k) n (j - 60 * k) else σ 64 j) := by
  intro d
  induction d with
  | zero =>
    intro i σ hi h
    rw [M_write_L80, if_pos (nI_le (by omega) (by omega))]
    exact ⟨σ, rfl, fun _ _ => rfl, fun j => by rw [if_neg (by omega)]⟩
  | succ d ih =>
    intro i σ hi h
    obtain ⟨ρ, e1, e2, e3⟩ := ih (i + 1) (jm_up σ 64 (60 * k + i) (wrV G T pl P se (σ 62 k) n i)) (by omega) (by rw [jup_n _ _ _ (by decide)]; exact h)
    refine ⟨ρ, ?_, fun c hc => by rw [e2 c hc, jup_n _ _ _ hc], fun j => ?_⟩
    · rw [M_write_L80, if_neg (nI_ge (show i < m by omega) (by omega)), nI_clamp (show k < 2 ^ 31 by omega), if_neg (by rw [jbad2 hk (by decide)]; exact id), nI_add, nI_clamp (show n + i < 2 ^ 31 by omega), if_neg (by rw [jbad2 (show n + i < 200 by omega) (by decide)]; exact id), M_cut, jbi_some, j60, nI_clamp (show 60 * k + i < 2 ^ 31 by omega), if_neg (by rw [jbad2 (show 60 * k + i < 240 by omega) (by decide)]; exact id), h (n + i) (by omega), nI_1]
      exact e1
    · rw [e3, jup_n _ _ _ (show 62 ≠ 64 by decide), jup_s, jupd]
      by_cases c : j = 60 * k + i
      · rw [if_neg (by omega), if_pos c, if_pos (by omega), c, show 60 * k + i - 60 * k = i by omega]
      · by_cases q : 60 * k + i ≤ j ∧ j < 60 * k + m
        · rw [if_pos (by omega), if_pos q]
        · rw [if_neg (by omega), if_neg c, if_neg q]
abbrev wS : List Nat := [0, 53, 55, 57, 59, 54, 56, 58, 60, 62, 63, 64, 65, 11, 12, 13, 14, 15, 16, 17, 18, 19, 20, 21, 22, 23, 24, 25, 26, 27, 28, 29, 30, 31, 32, 33, 34, 36, 37, 71, 72, 73, 74, 75, 76, 77, 78, 79, 80, 81, 82, 83, 84, 85, 86]
abbrev wK : List Nat := [4, 11, 15, 16, 17, 20, 21, 22, 23, 24]
theorem i200sub {n : Nat} (hn : n ≤ 199) : (200 : Int32) - nI n = nI (200 - n) := by
  rw [nI200]
  have := nI_sub n (200 - n)
  rw [show n + (200 - n) = 200 by omega] at this
  exact this
theorem P_write_k {G : Nat} (hG : G ≤ 12) {T : Nat → Int32} {pl : Nat → Nat} {P : Pn} (hb : bndS P 61) {se : Nat → Int32} {n k : Nat} (hn : n ≤ 199) (hk : k < 4) (σ : jm_S) (hK : KC G T pl P se σ) {z : Nat} (hz : z ≤ 60) (h2 : σ (53 + 2 * k) 2 = nI z) : jc 111 [.ref 0, .int (nI n), .int (nI k)] σ = (if σ (53 + 2 * k) 1 = -1 then some (some (.int (-10 - 1)), jm_up σ 0 10 1) else jc 111 [.ref 0, .int (nI n), .int (nI k)] σ) ∧ (¬ σ (53 + 2 * k) 1 = -1 → ∃ ρ, jc 111 [.ref 0, .int (nI n), .int (nI k)] σ = some (some (.int (nI (if 200 - n < z then 200 - n else z))), ρ) ∧ (∀ c, c ∉ cS → c ≠ 54 + 2 * k → ρ c = σ c) ∧ (∀ j, ρ (54 + 2 * k) j = if j < (if 200 - n < z then 200 - n else z) then wrV G T pl P se (σ (53 + 2 * k) 1) n j else σ (54 + 2 * k) j)) := by
  have c1 : ¬ (nI n < 0 ∨ 199 < nI n) := by
    rintro (q | q)
    · exact nI_pos (by omega) q
    · rw [show (199 : Int32) = nI 199 by decide +kernel] at q
      exact nI_nlt hn (by omega) q
  have c2 : ¬ (nI k < 0 ∨ 3 < nI k) := by rw [jout hk]; exact id
  obtain ⟨τ, a1, a2, a3⟩ := cook hG hb (show 200 ≤ 200 by omega) σ hK
  rw [← nI200] at a1
  have zz : (if (200 : Int32) - nI n < nI z then (200 : Int32) - nI n else nI z) = nI (if 200 - n < z then 200 - n else z) := by
    rw [i200sub hn]
    by_cases q : 200 - n < z
    · rw [if_pos (nI_lt q (by omega)), if_pos q]
    · rw [if_neg (nI_nlt (by omega) (by omega)), if_neg q]
  generalize hmm : (if 200 - n < z then 200 - n else z) = m at zz ⊢
  have hm1 : m ≤ 60 := by rw [← hmm]; split <;> omega
  have hm2 : n + m ≤ 200 := by rw [← hmm]; split <;> omega
  match k, hk with
  | 0, _ =>
    have h2' : σ 53 2 = nI z := h2
    have lost := Sheet_isLost (k := 0) (by omega) σ
    have lost' : jc 8 [.ref 53] σ = some (some (.int (if σ 53 1 = -1 then 1 else 0)), σ) := lost
    have e0 : nI 0 = (0 : Int32) := by decide +kernel
    rw [e0] at c2
    rw [e0]
    have base : jc 111 [.ref 0, .int (nI n), .int (0 : Int32)] σ = jv 111 29 [some (.ref 0), some (.int (nI n)), some (.int (0 : Int32)), none, none, none] [.ref 53] σ := by
      rw [P_write_in, P_isOutside, jbi_some, ifn _ c1, if_neg (not_not_intro rfl), P_isOutside, jbi_some, ifn _ c2, if_pos rfl, jaa4_0]
    refine ⟨?_, fun nl => ?_⟩
    · by_cases q : σ 53 1 = -1
      · have q' : σ (53 + 2 * 0) 1 = -1 := q
        rw [if_pos q', base, P_write_A29_53, lost', jbi_some, ifc _ q, if_neg n10, P_finding, jbi_some]
      · have q' : ¬ σ (53 + 2 * 0) 1 = -1 := q
        rw [if_neg q']
    · have nl' : ¬ σ 53 1 = -1 := nl
      obtain ⟨ρ, e1, e2, e3⟩ := write_loop_0 hG hm2 hm1 (0 : Int32) m 0 τ (by omega) a2
      rw [show some (Value.int (nI 0)) = some (Value.int 0) by rw [nI_0]] at e1
      refine ⟨ρ, ?_, fun c hc hcb => by rw [e2 c hcb, a3 c hc], fun j => ?_⟩
      · rw [base, P_write_A29_53, lost', jbi_some, ifn _ nl', if_pos rfl, a1, jbv_some, a3 53 (by decide), h2', zz, e1]
      · have := e3 j
        rw [a3 53 (by decide), a3 54 (by decide)] at this
        show ρ 54 j = _
        rw [this]
        by_cases q : j < m
        · rw [if_pos (by omega), if_pos q]
        · rw [if_neg (by omega), if_neg q]
  | 1, _ =>
    have h2' : σ 55 2 = nI z := h2
    have lost := Sheet_isLost (k := 1) (by omega) σ
    have lost' : jc 8 [.ref 55] σ = some (some (.int (if σ 55 1 = -1 then 1 else 0)), σ) := lost
    have e0 : nI 1 = (1 : Int32) := by decide +kernel
    rw [e0] at c2
    rw [e0]
    have base : jc 111 [.ref 0, .int (nI n), .int (1 : Int32)] σ = jv 111 29 [some (.ref 0), some (.int (nI n)), some (.int (1 : Int32)), none, none, none] [.ref 55] σ := by
      rw [P_write_in, P_isOutside, jbi_some, ifn _ c1, if_neg (not_not_intro rfl), P_isOutside, jbi_some, ifn _ c2, if_pos rfl, jaa4_1]
    refine ⟨?_, fun nl => ?_⟩
    · by_cases q : σ 55 1 = -1
      · have q' : σ (53 + 2 * 1) 1 = -1 := q
        rw [if_pos q', base, P_write_A29_55, lost', jbi_some, ifc _ q, if_neg n10, P_finding, jbi_some]
      · have q' : ¬ σ (53 + 2 * 1) 1 = -1 := q
        rw [if_neg q']
    · have nl' : ¬ σ 55 1 = -1 := nl
      obtain ⟨ρ, e1, e2, e3⟩ := write_loop_1 hG hm2 hm1 (1 : Int32) m 0 τ (by omega) a2
      rw [show some (Value.int (nI 0)) = some (Value.int 0) by rw [nI_0]] at e1
      refine ⟨ρ, ?_, fun c hc hcb => by rw [e2 c hcb, a3 c hc], fun j => ?_⟩
      · rw [base, P_write_A29_55, lost', jbi_some, ifn _ nl', if_pos rfl, a1, jbv_some, a3 55 (by decide), h2', zz, e1]
      · have := e3 j
        rw [a3 55 (by decide), a3 56 (by decide)] at this
        show ρ 56 j = _
        rw [this]
        by_cases q : j < m
        · rw [if_pos (by omega), if_pos q]
        · rw [if_neg (by omega), if_neg q]
  | 2, _ =>
    have h2' : σ 57 2 = nI z := h2
    have lost := Sheet_isLost (k := 2) (by omega) σ
    have lost' : jc 8 [.ref 57] σ = some (some (.int (if σ 57 1 = -1 then 1 else 0)), σ) := lost
    have e0 : nI 2 = (2 : Int32) := by decide +kernel
    rw [e0] at c2
    rw [e0]
    have base : jc 111 [.ref 0, .int (nI n), .int (2 : Int32)] σ = jv 111 29 [some (.ref 0), some (.int (nI n)), some (.int (2 : Int32)), none, none, none] [.ref 57] σ := by
      rw [P_write_in, P_isOutside, jbi_some, ifn _ c1, if_neg (not_not_intro rfl), P_isOutside, jbi_some, ifn _ c2, if_pos rfl, jaa4_2]
    refine ⟨?_, fun nl => ?_⟩
    · by_cases q : σ 57 1 = -1
      · have q' : σ (53 + 2 * 2) 1 = -1 := q
        rw [if_pos q', base, P_write_A29_57, lost', jbi_some, ifc _ q, if_neg n10, P_finding, jbi_some]
      · have q' : ¬ σ (53 + 2 * 2) 1 = -1 := q
        rw [if_neg q']
    · have nl' : ¬ σ 57 1 = -1 := nl
      obtain ⟨ρ, e1, e2, e3⟩ := write_loop_2 hG hm2 hm1 (2 : Int32) m 0 τ (by omega) a2
      rw [show some (Value.int (nI 0)) = some (Value.int 0) by rw [nI_0]] at e1
      refine ⟨ρ, ?_, fun c hc hcb => by rw [e2 c hcb, a3 c hc], fun j => ?_⟩
      · rw [base, P_write_A29_57, lost', jbi_some, ifn _ nl', if_pos rfl, a1, jbv_some, a3 57 (by decide), h2', zz, e1]
      · have := e3 j
        rw [a3 57 (by decide), a3 58 (by decide)] at this
        show ρ 58 j = _
        rw [this]
        by_cases q : j < m
        · rw [if_pos (by omega), if_pos q]
        · rw [if_neg (by omega), if_neg q]
  | 3, _ =>
    have h2' : σ 59 2 = nI z := h2
    have lost := Sheet_isLost (k := 3) (by omega) σ
    have lost' : jc 8 [.ref 59] σ = some (some (.int (if σ 59 1 = -1 then 1 else 0)), σ) := lost
    have e0 : nI 3 = (3 : Int32) := by decide +kernel
    rw [e0] at c2
    rw [e0]
    have base : jc 111 [.ref 0, .int (nI n), .int (3 : Int32)] σ = jv 111 29 [some (.ref 0), some (.int (nI n)), some (.int (3 : Int32)), none, none, none] [.ref 59] σ := by
      rw [P_write_in, P_isOutside, jbi_some, ifn _ c1, if_neg (not_not_intro rfl), P_isOutside, jbi_some, ifn _ c2, if_pos rfl, jaa4_3]
    refine ⟨?_, fun nl => ?_⟩
    · by_cases q : σ 59 1 = -1
      · have q' : σ (53 + 2 * 3) 1 = -1 := q
        rw [if_pos q', base, P_write_A29_59, lost', jbi_some, ifc _ q, if_neg n10, P_finding, jbi_some]
      · have q' : ¬ σ (53 + 2 * 3) 1 = -1 := q
        rw [if_neg q']
    · have nl' : ¬ σ 59 1 = -1 := nl
      obtain ⟨ρ, e1, e2, e3⟩ := write_loop_3 hG hm2 hm1 (3 : Int32) m 0 τ (by omega) a2
      rw [show some (Value.int (nI 0)) = some (Value.int 0) by rw [nI_0]] at e1
      refine ⟨ρ, ?_, fun c hc hcb => by rw [e2 c hcb, a3 c hc], fun j => ?_⟩
      · rw [base, P_write_A29_59, lost', jbi_some, ifn _ nl', if_pos rfl, a1, jbv_some, a3 59 (by decide), h2', zz, e1]
      · have := e3 j
        rw [a3 59 (by decide), a3 60 (by decide)] at this
        show ρ 60 j = _
        rw [this]
        by_cases q : j < m
        · rw [if_pos (by omega), if_pos q]
        · rw [if_neg (by omega), if_neg q]
  | n + 4, h => omega
