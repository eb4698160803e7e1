section SND3
variable {D : va_G} {α : Nat → Nat} {κ : Nat → ClassId} {xs : Nat → Int32} {L : Nat}
variable {p : Program} {l : Launch} {e : Env} {R : Room} {s : State} {mid : MethodId} {args : Array Value} {below : List Frame} {meth : Method} {c : Code} {cells slots : Nat} {Q : State → Prop} {A : Nat → Prop}
def jm_Wd (D : va_G) (α : Nat → Nat) (κ : Nat → ClassId) (xs : Nat → Int32) (L : Nat) (U : State) (σ : jm_S) : Prop := va_P D jm_cl (jm_enc α κ σ) U.heap ∧ jm_K D κ U ∧ jm_T α xs L (jm_A0 α) U U.heap ∧ jm_X xs L σ
def jm_rm (h : Nat) : Room := { frames := h, cells := 0, slots := 0, locals := 38 * h }
def jm_Pc (D : va_G) (α : Nat → Nat) (κ : Nat → ClassId) (xs : Nat → Int32) (L : Nat) (as : List Value) (σ : jm_S) : Array Value → State → Prop := va_Pc (as.map (jm_rv α)) (fun U => jm_Wd D α κ xs L U σ ∧ jm_Nn U)
def jm_Qc (D : va_G) (α : Nat → Nat) (κ : Nat → ClassId) (xs : Nat → Int32) (L : Nat) (v : Option Value) (τ : jm_S) : Array Value → State → Outcome → State → Prop := fun _ st oc t => oc = .returned (v.map (jm_rv α)) ∧ jm_Wd D α κ xs L t τ ∧ va_F (jm_A0 α) st t
def jm_ws (mt : jm_M) : List Cond := .code mt.2.1 mt.2.2.1 mt.2.2.2.1 mt.2.2.2.2.1 :: jm_tg
def jm_Met (D : va_G) (α : Nat → Nat) (κ : Nat → ClassId) (xs : Nat → Int32) (L : Nat) (l : Launch) (mt : jm_M) (as : List Value) (σ : jm_S) (v : Option Value) (τ : jm_S) : Prop :=
  Met l mt.2.1 (jm_ws mt) (jm_rm mt.2.2.2.2.2.1) (jm_Pc D α κ xs L as σ) (jm_Qc D α κ xs L v τ) 0 0 (jm_A0 α)
theorem jm_blind {as : List Value} {σ : jm_S} : FrameBlind (jm_Pc D α κ xs L as σ) := by
  intro a U g mk h
  obtain ⟨h0, ⟨h1, h2, h3, h4⟩, h5⟩ := h
  exact ⟨h0, ⟨h1, h2.moved (u := U) (U := U.calling g mk a) (Vm.Alike.refl U.vm), h3.moved (u := U) (U := U.calling g mk a) (Vm.Alike.refl U.vm), h4⟩, fun a1 i b n d h hw => va_Nw.same rfl (u := U) (U := U.calling g mk a) rfl (h5 a1 i b n d h hw)⟩
theorem jm_goodIn {y : Nat} {mt : jm_M} (hm : jm_mt[y]? = some mt) (hy : y < 201) : GoodIn jm_tg (jm_ws mt) := by
  have hz : mt ∈ jKz := by
    rw [jKz_eq]
    refine List.mem_of_getElem? (i := y) ?_
    rw [List.getElem?_take]
    rw [if_pos hy]
    exact hm
  have h1 := jKr mt hz
  intro w hw
  rcases List.mem_cons.mp hw with rfl | h
  · exact ⟨jm_tg_of h1 rfl, good_of_word rfl⟩
  · exact ⟨h, good_of_word (jm_tg_good h)⟩
theorem jm_okY_of {y : Nat} {mt : jm_M} (hm : jm_mt[y]? = some mt) (hy : y < 201) : jm_okY mt = true := by
  refine List.all_eq_true.mp jm_okY_all mt ?_
  refine List.mem_of_getElem? (i := y) ?_
  rw [List.getElem?_take, if_pos hy]
  exact hm
theorem jm_ml_of {own : String} {o z y pl : Nat} (ho : jm_own[o]? = some own) (hq : jm_lk2 jm_ml o z = some (y, pl)) (hy : Nat.ble 1000 y = false) {mt : jm_M} (hm : jm_mt[y]? = some mt) : Cond.methodLink own z mt.2.1 ∈ jm_tg ∧ y < 201 := by
  have h1 := List.all_eq_true.mp jm_okM_all _ (jm_lk2_mem hq)
  unfold jm_okM at h1
  dsimp only at h1
  rw [ho] at h1
  dsimp only at h1
  rw [hy] at h1
  dsimp only at h1
  rw [hm] at h1
  simp only [Bool.and_eq_true, decide_eq_true_eq] at h1
  exact ⟨jm_tg_of h1.1 rfl, h1.2⟩
theorem jm_hgt {m pc z n : Nat} {mt : jm_M} (hm : jm_mt[m]? = some mt) {i : Instr} (hc : jm_code m pc = some (i, n)) (hi : i = .invokestatic z ∨ i = .invokevirtual z) {y pl : Nat} (hq : jm_lk2 jm_ml mt.1 z = some (y, pl)) : (Nat.ble 1000 y = true → 1 ≤ mt.2.2.2.2.2.1) ∧ (Nat.ble 1000 y = false → ∀ t, jm_mt[y]? = some t → t.2.2.2.2.2.1 + 1 ≤ mt.2.2.2.2.2.1) := by
  unfold jm_code at hc
  cases hcc : jm_codes[m]? with
  | none => rw [hcc] at hc; cases hc
  | some cl =>
    rw [hcc] at hc
    have hz : (mt, cl) ∈ jm_mt.zip jm_codes := by
      refine List.mem_of_getElem? (i := m) ?_
      rw [List.getElem?_zip_eq_some]
      exact ⟨hm, hcc⟩
    have h1 := List.all_eq_true.mp jm_okH_all _ hz
    have h2 := List.all_eq_true.mp h1 _ (jm_lk_mem hc)
    rcases hi with rfl | rfl
    all_goals
      dsimp only at h2
      rw [hq] at h2
      dsimp only at h2
      refine ⟨fun hb => ?_, fun hb t ht => ?_⟩
      · rw [hb] at h2
        exact of_decide_eq_true h2
      · rw [hb] at h2
        dsimp only at h2
        rw [ht] at h2
        exact of_decide_eq_true h2
theorem jm_own_cl {ci N : Nat} {C own : String} {T : u_T} (h : jm_cl[ci]? = some (C, T, N)) (ho : jm_own[ci]? = some own) : own = C := by
  match ci, h, ho with
  | 0, h, ho => cases h; cases ho; rfl
  | 1, h, ho => cases h; cases ho; rfl
  | 2, h, ho => cases h; cases ho; rfl
  | 3, h, ho => cases h; cases ho; rfl
  | 4, h, ho => cases h; cases ho; rfl
  | 5, h, ho => cases h; cases ho; rfl
  | 6, h, ho => cases h; cases ho; rfl
  | 7, h, ho => cases h; cases ho; rfl
  | 8, h, ho => cases h; cases ho; rfl
  | 9, h, ho => cases h; cases ho; rfl
  | n + 10, h, ho => simp at h
theorem jm_cat_rv (st : List Value) : ((st.map (jm_rv α)).map fun v => v.category).sum = jm_cat st := by
  unfold jm_cat
  rw [List.map_map]
  congr 2
  funext v
  exact jm_rv_cat α v
/-- behind a call -/
theorem jm_after {mt : jm_M} (C : jm_Cx D α κ xs L p R s mid args c cells slots A mt) {pc : Nat} {ls : jm_L} {τ : jm_S} {rest : List Value} {v : Option Value} {st0 : List Value} {a0 : Array Value} {H : Heap} {locs : List Loc} {larr : Array Slot}
    (hr : va_Run p l e R s mid args below meth c H locs cells slots 0 0 (F0 mid pc larr st0) (rest.map (jm_rv α)) (jm_Qc D α κ xs L v τ a0) (jm_A0 α)) (hS : va_S A s.heap H locs) (hl : lv_has larr mt.2.2.2.1 (jm_lv α ls)) (hlen : ls.length = mt.2.2.2.1)
    (k : jm_W D α κ xs L p l e R s mid args below meth c cells slots Q A mt (pc + 3, ls, v.toList ++ rest, τ)) : W p l e R s mid args below meth c H locs cells slots Q (F0 mid pc larr st0) := by
  obtain ⟨hx, hb, hml, ⟨own, ho, hown⟩, hts, hK, hT, hA, hR, hcs, hinj, hnn⟩ := C
  intro T hTh X
  obtain ⟨v', st₀, t, T', L', h0, X', hL, e1, e2, ⟨hv, hWd, hF⟩, hgo⟩ := hr T hTh X
  have hv' : v' = v.map (jm_rv α) := by injection hv
  subst hv'
  have hAA : ∀ q, jm_A0 α q → A q := fun q ⟨a, ha, e⟩ => by rw [e]; exact hA a ha
  rw [va_F, h0] at hF
  have hS1 : va_S A s.heap T'.heap (locs ++ L') := by
    refine ⟨Nat.le_trans hS.1 (by rw [e1]; exact hF.1), fun q h1 h2 => ?_, fun q hq => ?_⟩
    · rw [e1, hF.2 q (Nat.lt_of_lt_of_le h1 hS.1) (fun z => h2 (hAA q z))]
      exact hS.2.1 q h1 h2
    · rcases List.mem_append.mp hq with h | h
      · exact hS.2.2 q h
      · exact hAA _ (hL q h)
  obtain ⟨t2, a1, b1⟩ := k T'.heap (locs ++ L') larr (by rw [e1]; exact hWd.1) hS1 hl hlen hWd.2.2.2 T' rfl X'
  refine ⟨t2, hgo t2 ?_, b1⟩
  cases v with
  | none => exact a1
  | some u => exact a1
theorem jm_prc {mt : jm_M} (C : jm_Cx D α κ xs L p R s mid args c cells slots A mt) {σ : jm_S} {as : List Value} {H : Heap} {locs : List Loc} (hP : va_P D jm_cl (jm_enc α κ σ) H) (hS : va_S A s.heap H locs) (hX : jm_X xs L σ) : ∀ U : State, U.heap = H → s.WarmedH U.vm → jm_Pc D α κ xs L as σ (as.map (jm_rv α)).toArray U := by
  obtain ⟨hx, hb, hml, ⟨own, ho, hown⟩, hts, hK, hT, hA, hR, hcs, hinj, hnn⟩ := C
  intro U hU hW
  have hAA : ∀ q, jm_A0 α q → A q := fun q ⟨a, ha, e⟩ => by rw [e]; exact hA a ha
  refine ⟨rfl, ⟨by rw [hU]; exact hP, hK.moved hW.alike, ?_, hX⟩, fun a i b n d h hw => va_Nw.warmF hW (hnn a i b n d h hw)⟩
  rw [hU]
  exact (((hT.kept (fun q h1 h2 => hS.2.1 q h1 h2))).moved hW.alike).narrow hAA
theorem jm_x_calls {mt : jm_M} (C : jm_Cx D α κ xs L p R s mid args c cells slots A mt) {pc : Nat} {ls : jm_L} {σ τ : jm_S} {rest as : List Value} {v : Option Value} {z y pl : Nat} {my : jm_M} (hd : decode mt.2.2.1 pc = .ok (.invokestatic z, 3)) (hq : jm_lk2 jm_ml mt.1 z = some (y, pl)) (hy : Nat.ble 1000 y = false) (hmy : jm_mt[y]? = some my) (hh : my.2.2.2.2.2.1 + 1 ≤ mt.2.2.2.2.2.1) (hstat : my.2.2.2.2.2.2.1 = true) (hn : as.length = my.2.2.2.2.2.2.2.1) (hcat : jm_cat rest ≤ 8)
    (M : jm_Met D α κ xs L l my as σ v τ) (k : jm_W D α κ xs L p l e R s mid args below meth c cells slots Q A mt (pc + 3, ls, v.toList ++ rest, τ)) : jm_W D α κ xs L p l e R s mid args below meth c cells slots Q A mt (pc, ls, as.reverse ++ rest, σ) := by
  intro H locs larr hP hS hl hlen hX
  obtain ⟨hx, hb, hml, ⟨own, ho, hown⟩, hts, hK, hT, hA, hR, hcs, hinj, hnn⟩ := id C
  obtain ⟨hlk, hyl⟩ := jm_ml_of ho hq hy hmy
  have hY := jm_okY_of hmy hyl
  unfold jm_okY at hY
  rw [hstat] at hY
  simp only [Bool.and_eq_true, decide_eq_true_eq, if_true] at hY
  obtain ⟨y1, y2, y3, y4, y5, y6, y7, y8⟩ := hY
  have hst0 : ((as.reverse ++ rest).map (jm_rv α)) = (as.map (jm_rv α)).reverse ++ rest.map (jm_rv α) := by rw [List.map_append, List.map_reverse]
  refine jm_after C (va_runS (As := as.map (jm_rv α)) (rest := rest.map (jm_rv α)) (n := my.2.2.2.2.2.2.2.1) ⟨hx, hb, hml, hown, hts⟩ M ⟨callB_of _ hts (jm_goodIn hmy hyl) rfl rfl rfl (hts _ (jm_tg_of y7 rfl)) (hts _ hlk) ⟨y4, y5, y6⟩ ⟨?_, ?_⟩, hts _ (jm_tg_of y8 rfl)⟩ ⟨jm_blind, jm_prc C hP hS hX⟩ rfl ?_ hl.1 hst0 ?_ hd ⟨?_, ?_⟩) hS hl hlen k
  · show my.2.2.2.2.2.1 + 1 ≤ R.frames
    omega
  · show 8 + (my.2.2.2.1 + 11) + 38 * my.2.2.2.2.2.1 ≤ R.locals
    omega
  · rw [List.length_map]; exact hn
  · exact lv_room (by rw [jm_cat_rv]; exact hcat)
  · exact hcs.1
  · exact hcs.2
theorem jm_x_callv {mt : jm_M} (C : jm_Cx D α κ xs L p R s mid args c cells slots A mt) {pc : Nat} {ls : jm_L} {σ τ : jm_S} {rest as : List Value} {a : Nat} {v : Option Value} {z y pl : Nat} {my : jm_M} (hd : decode mt.2.2.1 pc = .ok (.invokevirtual z, 3)) (hq : jm_lk2 jm_ml mt.1 z = some (y, pl)) (hy : Nat.ble 1000 y = false) (hmy : jm_mt[y]? = some my) (hh : my.2.2.2.2.2.1 + 1 ≤ mt.2.2.2.2.2.1) (hstat : my.2.2.2.2.2.2.1 = false) (hn : as.length + 1 = my.2.2.2.2.2.2.2.1) (hoc : jm_oc a = some my.1) (hcat : jm_cat rest ≤ 8)
    (M : jm_Met D α κ xs L l my (.ref a :: as) σ v τ) (k : jm_W D α κ xs L p l e R s mid args below meth c cells slots Q A mt (pc + 3, ls, v.toList ++ rest, τ)) : jm_W D α κ xs L p l e R s mid args below meth c cells slots Q A mt (pc, ls, as.reverse ++ .ref a :: rest, σ) := by
  intro H locs larr hP hS hl hlen hX
  obtain ⟨hx, hb, hml, ⟨own, ho, hown⟩, hts, hK, hT, hA, hR, hcs, hinj, hnn⟩ := id C
  obtain ⟨hlk, hyl⟩ := jm_ml_of ho hq hy hmy
  have hY := jm_okY_of hmy hyl
  unfold jm_okY at hY
  rw [hstat] at hY
  simp only [Bool.and_eq_true, decide_eq_true_eq, Bool.false_eq_true, if_false] at hY
  obtain ⟨y1, y2, y3, y4, y5, y6, y7, y8, y9, -⟩ := hY
  obtain ⟨fs, hsk⟩ := jm_oc_i hoc
  obtain ⟨C', T', N', hcl, -, -⟩ := jm_okN_of (k := 0) hsk
  have hcls : my.2.1.cls = C' := jm_own_cl hcl y1
  have hrecv := va_recv hK.1 hP hcl (jm_enc_at hsk)
  dsimp only at hrecv
  rw [← hcls] at hrecv
  have hst0 : ((as.reverse ++ .ref a :: rest).map (jm_rv α)) = (as.map (jm_rv α)).reverse ++ .ref (α a) :: rest.map (jm_rv α) := by rw [List.map_append, List.map_reverse]; rfl
  refine jm_after C (va_runV (C := my.2.1.cls) (b := α a) (As := as.map (jm_rv α)) (rest := rest.map (jm_rv α)) (n := my.2.2.2.2.2.2.2.1 - 1) ⟨hx, hb, hml, hown, hts⟩ M ⟨callB_of _ hts (jm_goodIn hmy hyl) rfl rfl rfl (hts _ (jm_tg_of y7 rfl)) (hts _ hlk) ⟨y4, y5, y6⟩ ⟨?_, ?_⟩, hts _ (jm_tg_of y8 rfl), hts _ (jm_tg_of y9 rfl)⟩ ⟨jm_blind, hrecv, jm_prc (as := .ref a :: as) C hP hS hX⟩ rfl ?_ hl.1 hst0 ?_ hd ⟨?_, ?_⟩) hS hl hlen k
  · show my.2.2.2.2.2.1 + 1 ≤ R.frames
    omega
  · show 8 + (my.2.2.2.1 + 11) + 38 * my.2.2.2.2.2.1 ≤ R.locals
    omega
  · rw [List.length_map]; omega
  · exact lv_room (by rw [jm_cat_rv]; exact hcat)
  · exact hcs.1
  · exact hcs.2
end SND3
