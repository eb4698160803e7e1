section SND2
variable {D : va_G} {α : Nat → Nat} {κ : Nat → ClassId} {xs : Nat → Int32} {L : Nat}
variable {p : Program} {l : Launch} {e : Env} {R : Room} {s : State} {mid : MethodId} {args : Array Value} {below : List Frame} {meth : Method} {c : Code} {cells slots : Nat} {Q : State → Prop} {A : Nat → Prop}
theorem jm_br_i {b : Bool} {pc : Nat} {off : Int} {ls : jm_L} {st : List Value} {σ : jm_S} {s1 : jm_N} (h : jm_br b pc off ls st σ = some (.inl s1)) : ∃ t : Nat, (pc : Int) + off = (t : Int) ∧ ((b = true ∧ s1 = (t, ls, st, σ)) ∨ (b = false ∧ s1 = (pc + 3, ls, st, σ))) := by
  unfold jm_br at h
  split at h
  · next hp =>
    refine ⟨((pc : Int) + off).toNat, (Int.toNat_of_nonneg hp).symm, ?_⟩
    split at h
    · next hb => exact Or.inl ⟨hb, jm_nx_i h⟩
    · next hb => exact Or.inr ⟨by simpa using hb, jm_nx_i h⟩
  · cases h
theorem jm_mapset {α : Nat → Nat} {σ : jm_S} {a k : Nat} {x : Int32} {fs : List (Option Nat)} (hfs : fs[k]? = some none) : (fs.mapIdx (jm_fv α σ a)).set k (.int x) = fs.mapIdx (jm_fv α (jm_row σ a (upd (σ a) k x)) a) := by
  have hl1 : k < (fs.mapIdx (jm_fv α σ a)).length := by rw [List.length_mapIdx]; exact (List.getElem?_eq_some_iff.mp hfs).1
  apply List.ext_getElem?
  intro j
  by_cases hj : k = j
  · subst hj
    rw [List.getElem?_set_self hl1, List.getElem?_mapIdx, hfs]
    simp [jm_fv, jm_row, upd]
  · rw [List.getElem?_set_ne hj, List.getElem?_mapIdx, List.getElem?_mapIdx]
    cases fs[j]? with
    | none => rfl
    | some o' =>
      cases o' with
      | none => simp [jm_fv, jm_row, upd, Ne.symm hj]
      | some r => rfl
theorem jm_x_if {mt : jm_M} (C : jm_Cx D α κ xs L p R s mid args c cells slots A mt) {pc : Nat} {ls : jm_L} {σ : jm_S} {st : List Value} {cd : ClassFile.Cond} {z : Int} {x : Int32} (hd : decode mt.2.2.1 pc = .ok (.ifCond cd z, 3)) {s1 : jm_N} (hs : jm_br (jm_cmp cd x 0) pc z ls st σ = some (.inl s1)) (k : jm_W D α κ xs L p l e R s mid args below meth c cells slots Q A mt s1) : jm_W D α κ xs L p l e R s mid args below meth c cells slots Q A mt (pc, ls, .int x :: st, σ) := by
  obtain ⟨hx, hb, hml, ⟨own, ho, hown⟩, hts, hK, hT, hA, hR, hcs, hinj, hnn⟩ := C
  intro H locs larr hP hS hl hlen hX
  obtain ⟨t, ht, ⟨hc, rfl⟩ | ⟨hc, rfl⟩⟩ := jm_br_i hs
  · cases cd
    · exact lv_if_eq hx hb hd ht (fun _ => (k H locs larr hP hS hl hlen hX)) (fun q => absurd (of_decide_eq_true hc) q)
    · exact lv_if_ne hx hb hd ht (fun _ => (k H locs larr hP hS hl hlen hX)) (fun q => absurd q (of_decide_eq_true hc))
    · exact lv_if_lt hx hb hd ht (fun _ => (k H locs larr hP hS hl hlen hX)) (fun q => absurd (of_decide_eq_true hc) q)
    · exact lv_if_ge hx hb hd ht (fun _ => (k H locs larr hP hS hl hlen hX)) (fun q => absurd (of_decide_eq_true hc) q)
    · exact lv_if_gt hx hb hd ht (fun _ => (k H locs larr hP hS hl hlen hX)) (fun q => absurd (of_decide_eq_true hc) q)
    · exact lv_if_le hx hb hd ht (fun _ => (k H locs larr hP hS hl hlen hX)) (fun q => absurd (of_decide_eq_true hc) q)
  · cases cd
    · exact lv_if_eq hx hb hd ht (fun q => absurd q (of_decide_eq_false hc)) (fun _ => (k H locs larr hP hS hl hlen hX))
    · exact lv_if_ne hx hb hd ht (fun q => absurd q (of_decide_eq_false hc)) (fun _ => (k H locs larr hP hS hl hlen hX))
    · exact lv_if_lt hx hb hd ht (fun q => absurd q (of_decide_eq_false hc)) (fun _ => (k H locs larr hP hS hl hlen hX))
    · exact lv_if_ge hx hb hd ht (fun q => absurd q (of_decide_eq_false hc)) (fun _ => (k H locs larr hP hS hl hlen hX))
    · exact lv_if_gt hx hb hd ht (fun q => absurd q (of_decide_eq_false hc)) (fun _ => (k H locs larr hP hS hl hlen hX))
    · exact lv_if_le hx hb hd ht (fun q => absurd q (of_decide_eq_false hc)) (fun _ => (k H locs larr hP hS hl hlen hX))
theorem jm_x_icmp {mt : jm_M} (C : jm_Cx D α κ xs L p R s mid args c cells slots A mt) {pc : Nat} {ls : jm_L} {σ : jm_S} {st : List Value} {cd : ClassFile.Cond} {z : Int} {x y : Int32} (hd : decode mt.2.2.1 pc = .ok (.if_icmp cd z, 3)) {s1 : jm_N} (hs : jm_br (jm_cmp cd x y) pc z ls st σ = some (.inl s1)) (k : jm_W D α κ xs L p l e R s mid args below meth c cells slots Q A mt s1) : jm_W D α κ xs L p l e R s mid args below meth c cells slots Q A mt (pc, ls, .int y :: .int x :: st, σ) := by
  obtain ⟨hx, hb, hml, ⟨own, ho, hown⟩, hts, hK, hT, hA, hR, hcs, hinj, hnn⟩ := C
  intro H locs larr hP hS hl hlen hX
  obtain ⟨t, ht, ⟨hc, rfl⟩ | ⟨hc, rfl⟩⟩ := jm_br_i hs
  · cases cd
    · exact lv_icmp_eq hx hb hd ht (fun _ => (k H locs larr hP hS hl hlen hX)) (fun q => absurd (of_decide_eq_true hc) q)
    · exact lv_icmp_ne hx hb hd ht (fun _ => (k H locs larr hP hS hl hlen hX)) (fun q => absurd q (of_decide_eq_true hc))
    · exact lv_icmp_lt hx hb hd ht (fun _ => (k H locs larr hP hS hl hlen hX)) (fun q => absurd (of_decide_eq_true hc) q)
    · exact lv_icmp_ge hx hb hd ht (fun _ => (k H locs larr hP hS hl hlen hX)) (fun q => absurd (of_decide_eq_true hc) q)
    · exact lv_icmp_gt hx hb hd ht (fun _ => (k H locs larr hP hS hl hlen hX)) (fun q => absurd (of_decide_eq_true hc) q)
    · exact lv_icmp_le hx hb hd ht (fun _ => (k H locs larr hP hS hl hlen hX)) (fun q => absurd (of_decide_eq_true hc) q)
  · cases cd
    · exact lv_icmp_eq hx hb hd ht (fun q => absurd q (of_decide_eq_false hc)) (fun _ => (k H locs larr hP hS hl hlen hX))
    · exact lv_icmp_ne hx hb hd ht (fun q => absurd q (of_decide_eq_false hc)) (fun _ => (k H locs larr hP hS hl hlen hX))
    · exact lv_icmp_lt hx hb hd ht (fun q => absurd q (of_decide_eq_false hc)) (fun _ => (k H locs larr hP hS hl hlen hX))
    · exact lv_icmp_ge hx hb hd ht (fun q => absurd q (of_decide_eq_false hc)) (fun _ => (k H locs larr hP hS hl hlen hX))
    · exact lv_icmp_gt hx hb hd ht (fun q => absurd q (of_decide_eq_false hc)) (fun _ => (k H locs larr hP hS hl hlen hX))
    · exact lv_icmp_le hx hb hd ht (fun q => absurd q (of_decide_eq_false hc)) (fun _ => (k H locs larr hP hS hl hlen hX))
theorem jm_x_tsO {mt : jm_M} (C : jm_Cx D α κ xs L p R s mid args c cells slots A mt) {pc : Nat} {ls : jm_L} {σ : jm_S} {st : List Value} {d lo hi : Int} {offs : Array Int} {ln : Nat} {x : Int32} {t : Nat} (hd : decode mt.2.2.1 pc = .ok (.tableswitch d lo hi offs, ln)) (h : x.toInt < lo ∨ hi < x.toInt) (ht : (pc : Int) + d = (t : Int)) (k : jm_W D α κ xs L p l e R s mid args below meth c cells slots Q A mt (t, ls, st, σ)) : jm_W D α κ xs L p l e R s mid args below meth c cells slots Q A mt (pc, ls, .int x :: st, σ) := by
  obtain ⟨hx, hb, hml, ⟨own, ho, hown⟩, hts, hK, hT, hA, hR, hcs, hinj, hnn⟩ := C
  intro H locs larr hP hS hl hlen hX
  exact lv_tableOut hx hb hd h ht (k H locs larr hP hS hl hlen hX)

theorem jm_x_tsI {mt : jm_M} (C : jm_Cx D α κ xs L p R s mid args c cells slots A mt) {pc : Nat} {ls : jm_L} {σ : jm_S} {st : List Value} {d lo hi z : Int} {offs : Array Int} {ln : Nat} {x : Int32} {t : Nat} (hd : decode mt.2.2.1 pc = .ok (.tableswitch d lo hi offs, ln)) (h : ¬ (x.toInt < lo ∨ hi < x.toInt)) (hz : offs[(x.toInt - lo).toNat]? = some z) (ht : (pc : Int) + z = (t : Int)) (k : jm_W D α κ xs L p l e R s mid args below meth c cells slots Q A mt (t, ls, st, σ)) : jm_W D α κ xs L p l e R s mid args below meth c cells slots Q A mt (pc, ls, .int x :: st, σ) := by
  obtain ⟨hx, hb, hml, ⟨own, ho, hown⟩, hts, hK, hT, hA, hR, hcs, hinj, hnn⟩ := C
  intro H locs larr hP hS hl hlen hX
  exact lv_tableIn hx hb hd (fun q => h (Or.inl q)) (fun q => h (Or.inr q)) hz ht (k H locs larr hP hS hl hlen hX)

theorem jm_x_ldc {mt : jm_M} (C : jm_Cx D α κ xs L p R s mid args c cells slots A mt) {pc : Nat} {ls : jm_L} {σ : jm_S} {st : List Value} {z : Nat} {q : Int32 × Nat} (hd : decode mt.2.2.1 pc = .ok (.ldc z, 2)) (hq : jm_lk2 jm_lc mt.1 z = some q) (k : jm_W D α κ xs L p l e R s mid args below meth c cells slots Q A mt (pc + 2, ls, .int q.1 :: st, σ)) : jm_W D α κ xs L p l e R s mid args below meth c cells slots Q A mt (pc, ls, st, σ) := by
  obtain ⟨hx, hb, hml, ⟨own, ho, hown⟩, hts, hK, hT, hA, hR, hcs, hinj, hnn⟩ := C
  intro H locs larr hP hS hl hlen hX
  have h1 := List.all_eq_true.mp jm_okC_all _ (jm_lk2_mem hq)
  unfold jm_okC at h1
  dsimp only at h1
  rw [ho] at h1
  exact lv_ldc hx hb hown (hts _ (jm_tg_of (of_decide_eq_true h1) rfl)) hd (k H locs larr hP hS hl hlen hX)

theorem jm_x_ldcw {mt : jm_M} (C : jm_Cx D α κ xs L p R s mid args c cells slots A mt) {pc : Nat} {ls : jm_L} {σ : jm_S} {st : List Value} {z : Nat} {q : Int32 × Nat} (hd : decode mt.2.2.1 pc = .ok (.ldc_w z, 3)) (hq : jm_lk2 jm_lc mt.1 z = some q) (k : jm_W D α κ xs L p l e R s mid args below meth c cells slots Q A mt (pc + 3, ls, .int q.1 :: st, σ)) : jm_W D α κ xs L p l e R s mid args below meth c cells slots Q A mt (pc, ls, st, σ) := by
  obtain ⟨hx, hb, hml, ⟨own, ho, hown⟩, hts, hK, hT, hA, hR, hcs, hinj, hnn⟩ := C
  intro H locs larr hP hS hl hlen hX
  have h1 := List.all_eq_true.mp jm_okC_all _ (jm_lk2_mem hq)
  unfold jm_okC at h1
  dsimp only at h1
  rw [ho] at h1
  exact lv_ldcw hx hb hown (hts _ (jm_tg_of (of_decide_eq_true h1) rfl)) hd (k H locs larr hP hS hl hlen hX)

theorem jm_x_ldc2 {mt : jm_M} (C : jm_Cx D α κ xs L p R s mid args c cells slots A mt) {pc : Nat} {ls : jm_L} {σ : jm_S} {st : List Value} {z : Nat} {q : Int64 × Nat} (hd : decode mt.2.2.1 pc = .ok (.ldc2_w z, 3)) (hq : jm_lk2 jm_ll mt.1 z = some q) (k : jm_W D α κ xs L p l e R s mid args below meth c cells slots Q A mt (pc + 3, ls, .long q.1 :: st, σ)) : jm_W D α κ xs L p l e R s mid args below meth c cells slots Q A mt (pc, ls, st, σ) := by
  obtain ⟨hx, hb, hml, ⟨own, ho, hown⟩, hts, hK, hT, hA, hR, hcs, hinj, hnn⟩ := C
  intro H locs larr hP hS hl hlen hX
  have h1 := List.all_eq_true.mp jm_okL_all _ (jm_lk2_mem hq)
  unfold jm_okL at h1
  dsimp only at h1
  rw [ho] at h1
  exact lv_ldc2 hx hb hown (hts _ (jm_tg_of (of_decide_eq_true h1) rfl)) hd (k H locs larr hP hS hl hlen hX)

theorem jm_x_getf {mt : jm_M} (C : jm_Cx D α κ xs L p R s mid args c cells slots A mt) {pc : Nat} {ls : jm_L} {σ : jm_S} {st : List Value} {z a : Nat} {q : Nat × Nat × Nat} {v : Value} (hd : decode mt.2.2.1 pc = .ok (.getfield z, 3)) (hq : jm_lk2 jm_fl mt.1 z = some q) (hv : jm_gf q.1 q.2.1 a σ = some v) (k : jm_W D α κ xs L p l e R s mid args below meth c cells slots Q A mt (pc + 3, ls, v :: st, σ)) : jm_W D α κ xs L p l e R s mid args below meth c cells slots Q A mt (pc, ls, .ref a :: st, σ) := by
  obtain ⟨hx, hb, hml, ⟨own, ho, hown⟩, hts, hK, hT, hA, hR, hcs, hinj, hnn⟩ := C
  intro H locs larr hP hS hl hlen hX
  have h1 := List.all_eq_true.mp jm_okF_all _ (jm_lk2_mem hq)
  unfold jm_okF at h1
  dsimp only at h1
  rw [ho] at h1
  split at h1
  · next own' C T N ho' hc =>
    cases ho'
    obtain ⟨fs, hs, hfs⟩ := jm_gf_i hv
    simp only [Bool.and_eq_true, Bool.or_eq_true, decide_eq_true_eq] at h1
    obtain ⟨hk, hC, hlk⟩ := h1
    have he := jm_enc_at (α := α) (κ := κ) (σ := σ) hs
    have hfv : (fs.mapIdx (jm_fv α σ a))[q.2.1]? = some (jm_rv α v) := by
      rw [List.getElem?_mapIdx]
      rcases hfs with ⟨e1, rfl⟩ | ⟨r, e1, rfl⟩ <;> rw [e1] <;> rfl
    rcases hlk with hlk | hlk
    · exact va_get hx hb hts (jm_cli hc) hown hK.1 hP a he hc q.2.1 hk (hts _ (jm_tg_of hlk rfl)) (fun x hx => by rw [← hC]; exact hx) hfv hd (k H locs larr hP hS hl hlen hX)
    · exact va_getN hx hb hts (jm_cli hc) hown hK.1 hP a he hc q.2.1 hk (va_Nw.use rfl (hnn _ _ _ _ _ _ (List.mem_of_getElem? hlk))) (fun x hx => by rw [← hC]; exact hx) hfv hd (k H locs larr hP hS hl hlen hX)
  · cases h1

theorem jm_x_putf {mt : jm_M} (C : jm_Cx D α κ xs L p R s mid args c cells slots A mt) {pc : Nat} {ls : jm_L} {σ : jm_S} {st : List Value} {z a : Nat} {q : Nat × Nat × Nat} {x : Int32} {τ : jm_S} (hd : decode mt.2.2.1 pc = .ok (.putfield z, 3)) (hq : jm_lk2 jm_fl mt.1 z = some q) (hv : jm_pf q.1 q.2.1 a x σ = some τ) (k : jm_W D α κ xs L p l e R s mid args below meth c cells slots Q A mt (pc + 3, ls, st, τ)) : jm_W D α κ xs L p l e R s mid args below meth c cells slots Q A mt (pc, ls, .int x :: .ref a :: st, σ) := by
  obtain ⟨hx, hb, hml, ⟨own, ho, hown⟩, hts, hK, hT, hA, hR, hcs, hinj, hnn⟩ := C
  intro H locs larr hP hS hl hlen hX
  have h1 := List.all_eq_true.mp jm_okF_all _ (jm_lk2_mem hq)
  unfold jm_okF at h1
  dsimp only at h1
  rw [ho] at h1
  split at h1
  · next own' C T N ho' hc =>
    cases ho'
    obtain ⟨fs, hs, hfs, hz01, rfl⟩ := jm_pf_i hv
    simp only [Bool.and_eq_true, Bool.or_eq_true, decide_eq_true_eq] at h1
    obtain ⟨hk, hC, hlk⟩ := h1
    have he := jm_enc_at (α := α) (κ := κ) (σ := σ) hs
    obtain ⟨C', T', N', hc', hfl, hnf⟩ := jm_okN_of (k := q.2.1) hs
    cases hc.symm.trans hc'
    obtain ⟨hfin, hty⟩ := hnf hfs
    obtain ⟨ty0, hty0, hnm, -⟩ := jm_clf hc
    have hD := jm_enc_D (κ := κ) (σ := σ) hinj hA
    have hl1 : q.2.1 < (fs.mapIdx (jm_fv α σ a)).length := by rw [List.length_mapIdx, hfl]; exact hk
    obtain ⟨ty, hd1, hn1, hf1⟩ : ∃ ty, parseFieldDescriptor (T q.2.1).2.2.1 = some ty ∧ narrow ty (.int x) = .int x ∧ fits ty (.int x) = true := by
      rcases hty with h | h
      · exact ⟨.int, by rw [h]; decide +kernel, rfl, rfl⟩
      · have hx01 := hz01 (by unfold jm_isZ; rw [hc]; exact decide_eq_true h)
        refine ⟨.boolean, by rw [h]; decide +kernel, ?_, ?_⟩
        · rcases hx01 with rfl | rfl <;> decide +kernel
        · rcases hx01 with rfl | rfl <;> decide +kernel
    have hset : (jm_enc α κ σ).set a (α a, .inr (q.1, (fs.mapIdx (jm_fv α σ a)).set q.2.1 (.int x))) = jm_enc α κ (jm_up σ a q.2.1 x) := by
      exact jm_enc_set hs (by rw [jm_mapset hfs]; rfl)
    have fin : ∀ (H1 : Heap) (locs1 : List Loc), va_P D jm_cl ((jm_enc α κ σ).set a (α a, .inr (q.1, (fs.mapIdx (jm_fv α σ a)).set q.2.1 (.int x)))) H1 → va_D A ((jm_enc α κ σ).set a (α a, .inr (q.1, (fs.mapIdx (jm_fv α σ a)).set q.2.1 (.int x)))) → va_S A s.heap H1 locs1 → W p l e R s mid args below meth c H1 locs1 cells slots Q (F0 mid (pc + 3) larr (st.map (jm_rv α))) := by
      intro H1 locs1 p1 _ s1
      rw [hset] at p1
      exact k H1 locs1 larr p1 s1 hl hlen (hX.row (jm_sk_lt hs) _)
    rcases hlk with hlk | hlk
    · exact va_put hx hb hts (jm_cli hc) ty0 hty0 hnm hown hK.1 hP hD hS a he hc q.2.1 hk (hts _ (jm_tg_of hlk rfl)) (fun x hx => by rw [← hC]; exact hx) hfin hd1 hn1 hf1 hl1 hd fin
    · exact va_putN hx hb hts (jm_cli hc) ty0 hty0 hnm hown hK.1 hP hD hS a he hc q.2.1 hk (va_Nw.use rfl (hnn _ _ _ _ _ _ (List.mem_of_getElem? hlk))) (fun x hx => by rw [← hC]; exact hx) hfin hd1 hn1 hf1 hl1 hd fin
  · cases h1

theorem jm_x_gets {mt : jm_M} (C : jm_Cx D α κ xs L p R s mid args c cells slots A mt) {pc : Nat} {ls : jm_L} {σ : jm_S} {st : List Value} {z : Nat} {q : Nat × Nat} (hd : decode mt.2.2.1 pc = .ok (.getstatic z, 3)) (hq : jm_lk2 jm_sl mt.1 z = some q) (k : jm_W D α κ xs L p l e R s mid args below meth c cells slots Q A mt (pc + 3, ls, .ref (1000 + q.1) :: st, σ)) : jm_W D α κ xs L p l e R s mid args below meth c cells slots Q A mt (pc, ls, st, σ) := by
  obtain ⟨hx, hb, hml, ⟨own, ho, hown⟩, hts, hK, hT, hA, hR, hcs, hinj, hnn⟩ := C
  intro H locs larr hP hS hl hlen hX
  have h1 := List.all_eq_true.mp jm_okS_all _ (jm_lk2_mem hq)
  unfold jm_okS at h1
  dsimp only at h1
  rw [ho] at h1
  split at h1
  · next own' r ho' hr =>
    cases ho'
    exact va_gets hx hb (hT.1 q.1 r hr).1 hS hown (hts _ (jm_tg_of (of_decide_eq_true h1) rfl)) (fun x hx => hx) hd (k H locs larr hP hS hl hlen hX)
  · cases h1

theorem jm_x_iaload {mt : jm_M} (C : jm_Cx D α κ xs L p R s mid args c cells slots A mt) {pc : Nat} {ls : jm_L} {σ : jm_S} {st : List Value} {a : Nat} {j : Int32} {q : Nat × (Nat → Int32)} (hd : decode mt.2.2.1 pc = .ok (.iaload, 1)) (hq : jm_ia a σ = some q) (hj : ¬ (j < 0 ∨ q.1 ≤ j.toNatClampNeg)) (k : jm_W D α κ xs L p l e R s mid args below meth c cells slots Q A mt (pc + 1, ls, .int (q.2 j.toNatClampNeg) :: st, σ)) : jm_W D α κ xs L p l e R s mid args below meth c cells slots Q A mt (pc, ls, .int j :: .ref a :: st, σ) := by
  obtain ⟨hx, hb, hml, ⟨own, ho, hown⟩, hts, hK, hT, hA, hR, hcs, hinj, hnn⟩ := C
  intro H locs larr hP hS hl hlen hX
  have hX1 : σ 1005 = xs := hX.1
  have hX2 : (σ 1006 0).toNatClampNeg = L := hX.2
  unfold jm_ia at hq
  split at hq
  · next hge =>
    unfold jm_im at hq
    split at hq
    · next he =>
      cases hq
      have ea := Nat.eq_of_beq_eq_true he
      subst ea
      refine va_ti hx hb hT.2 hS (i := j) (by rw [← hX2]; exact hj) (v := .int (σ 1005 j.toNatClampNeg)) (by rw [hX1]) hd (k H locs larr hP hS hl hlen hX)
    · split at hq
      · next r hr =>
        cases hq
        have ea : 1000 + (a - 1000) = a := by have := Nat.le_of_ble_eq_true hge; omega
        have ht := (hT.1 (a - 1000) r hr).2
        rw [ea] at ht
        exact va_ti hx hb ht hS (i := j) hj rfl hd (k H locs larr hP hS hl hlen hX)
      · cases hq
  · split at hq
    · next n hs =>
      cases hq
      exact va_iald hx hb (hK.num hs) hP a 0 (jm_enc_at hs) rfl (i := j) hj hd (k H locs larr hP hS hl hlen hX)
    · cases hq

theorem jm_x_baload {mt : jm_M} (C : jm_Cx D α κ xs L p R s mid args c cells slots A mt) {pc : Nat} {ls : jm_L} {σ : jm_S} {st : List Value} {a n : Nat} {j : Int32} (hd : decode mt.2.2.1 pc = .ok (.baload, 1)) (hq : jm_wi a true = some n) (hj : ¬ (j < 0 ∨ n ≤ j.toNatClampNeg)) (k : jm_W D α κ xs L p l e R s mid args below meth c cells slots Q A mt (pc + 1, ls, .int (σ a j.toNatClampNeg) :: st, σ)) : jm_W D α κ xs L p l e R s mid args below meth c cells slots Q A mt (pc, ls, .int j :: .ref a :: st, σ) := by
  obtain ⟨hx, hb, hml, ⟨own, ho, hown⟩, hts, hK, hT, hA, hR, hcs, hinj, hnn⟩ := C
  intro H locs larr hP hS hl hlen hX
  have hs := jm_wi_i hq
  exact va_zald hx hb (hK.num hs) hP a 0 (jm_enc_at hs) rfl (i := j) hj hd (k H locs larr hP hS hl hlen hX)

theorem jm_x_iastore {mt : jm_M} (C : jm_Cx D α κ xs L p R s mid args c cells slots A mt) {pc : Nat} {ls : jm_L} {σ : jm_S} {st : List Value} {a n : Nat} {j x : Int32} (hd : decode mt.2.2.1 pc = .ok (.iastore, 1)) (hq : jm_wi a false = some n) (hj : ¬ (j < 0 ∨ n ≤ j.toNatClampNeg)) (k : jm_W D α κ xs L p l e R s mid args below meth c cells slots Q A mt (pc + 1, ls, st, jm_up σ a j.toNatClampNeg x)) : jm_W D α κ xs L p l e R s mid args below meth c cells slots Q A mt (pc, ls, .int x :: .int j :: .ref a :: st, σ) := by
  obtain ⟨hx, hb, hml, ⟨own, ho, hown⟩, hts, hK, hT, hA, hR, hcs, hinj, hnn⟩ := C
  intro H locs larr hP hS hl hlen hX
  have hs := jm_wi_i hq
  have hD := jm_enc_D (κ := κ) (σ := σ) hinj hA
  refine va_iast hx hb (hK.num hs) hP hD hS a 0 (jm_enc_at hs) rfl (i := j) (x := x) hj hd (fun H1 locs1 p1 _ s1 => ?_)
  have hset : (jm_enc α κ σ).set a (α a, .inl (κ a, n, .inl (upd (σ a) j.toNatClampNeg x))) = jm_enc α κ (jm_up σ a j.toNatClampNeg x) := by
    refine jm_enc_set hs ?_
    show Sum.inl _ = Sum.inl _
    simp [jm_row]
  rw [hset] at p1
  exact k H1 locs1 larr p1 s1 hl hlen (hX.row (jm_sk_lt hs) _)

theorem jm_x_bastore {mt : jm_M} (C : jm_Cx D α κ xs L p R s mid args c cells slots A mt) {pc : Nat} {ls : jm_L} {σ : jm_S} {st : List Value} {a n : Nat} {j x : Int32} (hd : decode mt.2.2.1 pc = .ok (.bastore, 1)) (hq : jm_wi a true = some n) (hj : ¬ (j < 0 ∨ n ≤ j.toNatClampNeg)) (h01 : x = 0 ∨ x = 1) (k : jm_W D α κ xs L p l e R s mid args below meth c cells slots Q A mt (pc + 1, ls, st, jm_up σ a j.toNatClampNeg x)) : jm_W D α κ xs L p l e R s mid args below meth c cells slots Q A mt (pc, ls, .int x :: .int j :: .ref a :: st, σ) := by
  obtain ⟨hx, hb, hml, ⟨own, ho, hown⟩, hts, hK, hT, hA, hR, hcs, hinj, hnn⟩ := C
  intro H locs larr hP hS hl hlen hX
  have hs := jm_wi_i hq
  have hD := jm_enc_D (κ := κ) (σ := σ) hinj hA
  refine va_zast hx hb (hK.num hs) hP hD hS a 0 (jm_enc_at hs) rfl (i := j) (x := x) hj hd (fun H1 locs1 p1 _ s1 => ?_)
  have hnar : vp_nar .boolean x = x := by rcases h01 with rfl | rfl <;> decide +kernel
  rw [hnar] at p1
  have hset : (jm_enc α κ σ).set a (α a, .inl (κ a, n, .inl (upd (σ a) j.toNatClampNeg x))) = jm_enc α κ (jm_up σ a j.toNatClampNeg x) := by
    refine jm_enc_set hs ?_
    show Sum.inl _ = Sum.inl _
    simp [jm_row]
  rw [hset] at p1
  exact k H1 locs1 larr p1 s1 hl hlen (hX.row (jm_sk_lt hs) _)

theorem jm_x_aaload {mt : jm_M} (C : jm_Cx D α κ xs L p R s mid args c cells slots A mt) {pc : Nat} {ls : jm_L} {σ : jm_S} {st : List Value} {a q : Nat} {j : Int32} {ts : List Nat} (hd : decode mt.2.2.1 pc = .ok (.aaload, 1)) (hq : jm_wr a = some ts) (hj : ¬ (j < 0 ∨ ts.length ≤ j.toNatClampNeg)) (ht : ts[j.toNatClampNeg]? = some q) (k : jm_W D α κ xs L p l e R s mid args below meth c cells slots Q A mt (pc + 1, ls, .ref q :: st, σ)) : jm_W D α κ xs L p l e R s mid args below meth c cells slots Q A mt (pc, ls, .int j :: .ref a :: st, σ) := by
  obtain ⟨hx, hb, hml, ⟨own, ho, hown⟩, hts, hK, hT, hA, hR, hcs, hinj, hnn⟩ := C
  intro H locs larr hP hS hl hlen hX
  obtain ⟨C, hs⟩ := jm_wr_i hq
  refine va_aldq hx hb (hK.ref hs) hP a 0 (jm_enc_at hs) rfl (i := j) hj hd ?_
  rw [ht]
  exact (k H locs larr hP hS hl hlen hX)

theorem jm_x_alen {mt : jm_M} (C : jm_Cx D α κ xs L p R s mid args c cells slots A mt) {pc : Nat} {ls : jm_L} {σ : jm_S} {st : List Value} {a n : Nat} (hd : decode mt.2.2.1 pc = .ok (.arraylength, 1)) (hq : jm_len a σ = some n) (k : jm_W D α κ xs L p l e R s mid args below meth c cells slots Q A mt (pc + 1, ls, .int (Int32.ofNat n) :: st, σ)) : jm_W D α κ xs L p l e R s mid args below meth c cells slots Q A mt (pc, ls, .ref a :: st, σ) := by
  obtain ⟨hx, hb, hml, ⟨own, ho, hown⟩, hts, hK, hT, hA, hR, hcs, hinj, hnn⟩ := C
  intro H locs larr hP hS hl hlen hX
  have hX2 : (σ 1006 0).toNatClampNeg = L := hX.2
  unfold jm_len at hq
  split at hq
  · next hge =>
    unfold jm_im at hq
    split at hq
    · next he =>
      cases hq
      have ea := Nat.eq_of_beq_eq_true he
      subst ea
      exact va_tlen hx hb hT.2 hS (by rw [hX2]) hd (k H locs larr hP hS hl hlen hX)
    · split at hq
      · next r hr =>
        cases hq
        have ea : 1000 + (a - 1000) = a := by have := Nat.le_of_ble_eq_true hge; omega
        have ht := (hT.1 (a - 1000) r hr).2
        rw [ea] at ht
        exact va_tlen hx hb ht hS rfl hd (k H locs larr hP hS hl hlen hX)
      · cases hq
  · split at hq
    · next b n' hs =>
      cases hq
      exact va_alen hx hb (hK.num hs) hP a 0 (jm_enc_at hs) rfl rfl hd (k H locs larr hP hS hl hlen hX)
    · cases hq

theorem jm_x_max {mt : jm_M} (C : jm_Cx D α κ xs L p R s mid args c cells slots A mt) {pc : Nat} {ls : jm_L} {σ : jm_S} {st : List Value} {z : Nat} {pl : Nat} {x y : Int32} (hd : decode mt.2.2.1 pc = .ok (.invokestatic z, 3)) (hq : jm_lk2 jm_ml mt.1 z = some (1001, pl)) (h1f : 1 ≤ mt.2.2.2.2.2.1) (hcat : ¬ 8 < jm_cat st) (k : jm_W D α κ xs L p l e R s mid args below meth c cells slots Q A mt (pc + 3, ls, .int (if x < y then y else x) :: st, σ)) : jm_W D α κ xs L p l e R s mid args below meth c cells slots Q A mt (pc, ls, .int y :: .int x :: st, σ) := by
  obtain ⟨hx, hb, hml, ⟨own, ho, hown⟩, hts, hK, hT, hA, hR, hcs, hinj, hnn⟩ := C
  intro H locs larr hP hS hl hlen hX
  have h1 := List.all_eq_true.mp jm_okM_all _ (jm_lk2_mem hq)
  unfold jm_okM at h1
  dsimp only at h1
  rw [ho] at h1
  have hlk := of_decide_eq_true h1
  have hcs2 : (List.map (fun v => v.category) (st.map (jm_rv α))).sum = jm_cat st := by
    unfold jm_cat
    rw [List.map_map]
    congr 2
    funext v
    exact jm_rv_cat α v
  exact va_mmax hx hb (by rw [hml, hl.1]) hown (hts _ (jm_tg_of hlk rfl)) (hts _ (List.mem_filter.mpr ⟨jm_w1.1, rfl⟩)) (hts _ (List.mem_filter.mpr ⟨jm_w0.2.2.2, rfl⟩)) (hts _ (List.mem_filter.mpr ⟨jm_w1.2, rfl⟩)) (by omega) (by rw [hcs2]; omega) hcs.1 hcs.2 hd (k H locs larr hP hS hl hlen hX)

theorem jm_x_min {mt : jm_M} (C : jm_Cx D α κ xs L p R s mid args c cells slots A mt) {pc : Nat} {ls : jm_L} {σ : jm_S} {st : List Value} {z : Nat} {pl : Nat} {x y : Int32} (hd : decode mt.2.2.1 pc = .ok (.invokestatic z, 3)) (hq : jm_lk2 jm_ml mt.1 z = some (1002, pl)) (h1f : 1 ≤ mt.2.2.2.2.2.1) (hcat : ¬ 8 < jm_cat st) (k : jm_W D α κ xs L p l e R s mid args below meth c cells slots Q A mt (pc + 3, ls, .int (if y < x then y else x) :: st, σ)) : jm_W D α κ xs L p l e R s mid args below meth c cells slots Q A mt (pc, ls, .int y :: .int x :: st, σ) := by
  obtain ⟨hx, hb, hml, ⟨own, ho, hown⟩, hts, hK, hT, hA, hR, hcs, hinj, hnn⟩ := C
  intro H locs larr hP hS hl hlen hX
  have h1 := List.all_eq_true.mp jm_okM_all _ (jm_lk2_mem hq)
  unfold jm_okM at h1
  dsimp only at h1
  rw [ho] at h1
  have hlk := of_decide_eq_true h1
  have hcs2 : (List.map (fun v => v.category) (st.map (jm_rv α))).sum = jm_cat st := by
    unfold jm_cat
    rw [List.map_map]
    congr 2
    funext v
    exact jm_rv_cat α v
  exact va_mmin hx hb (by rw [hml, hl.1]) hown (hts _ (jm_tg_of hlk rfl)) (hts _ (List.mem_filter.mpr ⟨jm_w2.1, rfl⟩)) (hts _ (List.mem_filter.mpr ⟨jm_w0.2.2.2, rfl⟩)) (hts _ (List.mem_filter.mpr ⟨jm_w2.2, rfl⟩)) (by omega) (by rw [hcs2]; omega) hcs.1 hcs.2 hd (k H locs larr hP hS hl hlen hX)

theorem jm_x_abs {mt : jm_M} (C : jm_Cx D α κ xs L p R s mid args c cells slots A mt) {pc : Nat} {ls : jm_L} {σ : jm_S} {st : List Value} {z : Nat} {pl : Nat} {x : Int32} (hd : decode mt.2.2.1 pc = .ok (.invokestatic z, 3)) (hq : jm_lk2 jm_ml mt.1 z = some (1003, pl)) (h1f : 1 ≤ mt.2.2.2.2.2.1) (hcat : ¬ 8 < jm_cat st) (k : jm_W D α κ xs L p l e R s mid args below meth c cells slots Q A mt (pc + 3, ls, .int (if 0 ≤ x then x else 0 - x) :: st, σ)) : jm_W D α κ xs L p l e R s mid args below meth c cells slots Q A mt (pc, ls, .int x :: st, σ) := by
  obtain ⟨hx, hb, hml, ⟨own, ho, hown⟩, hts, hK, hT, hA, hR, hcs, hinj, hnn⟩ := C
  intro H locs larr hP hS hl hlen hX
  have h1 := List.all_eq_true.mp jm_okM_all _ (jm_lk2_mem hq)
  unfold jm_okM at h1
  dsimp only at h1
  rw [ho] at h1
  have hlk := of_decide_eq_true h1
  have hcs2 : (List.map (fun v => v.category) (st.map (jm_rv α))).sum = jm_cat st := by
    unfold jm_cat
    rw [List.map_map]
    congr 2
    funext v
    exact jm_rv_cat α v
  exact va_mabs hx hb (by rw [hml, hl.1]) hown (hts _ (jm_tg_of hlk rfl)) (hts _ (List.mem_filter.mpr ⟨jm_w3.1, rfl⟩)) (hts _ (List.mem_filter.mpr ⟨jm_w0.2.2.2, rfl⟩)) (hts _ (List.mem_filter.mpr ⟨jm_w3.2, rfl⟩)) (by omega) (by rw [hcs2]; omega) hcs.1 hcs.2 hd (k H locs larr hP hS hl hlen hX)

theorem jm_x_maxl {mt : jm_M} (C : jm_Cx D α κ xs L p R s mid args c cells slots A mt) {pc : Nat} {ls : jm_L} {σ : jm_S} {st : List Value} {z : Nat} {pl : Nat} {x y : Int64} (hd : decode mt.2.2.1 pc = .ok (.invokestatic z, 3)) (hq : jm_lk2 jm_ml mt.1 z = some (1004, pl)) (h1f : 1 ≤ mt.2.2.2.2.2.1) (hcat : ¬ 8 < jm_cat st) (k : jm_W D α κ xs L p l e R s mid args below meth c cells slots Q A mt (pc + 3, ls, .long (if y < x then x else y) :: st, σ)) : jm_W D α κ xs L p l e R s mid args below meth c cells slots Q A mt (pc, ls, .long y :: .long x :: st, σ) := by
  obtain ⟨hx, hb, hml, ⟨own, ho, hown⟩, hts, hK, hT, hA, hR, hcs, hinj, hnn⟩ := C
  intro H locs larr hP hS hl hlen hX
  have h1 := List.all_eq_true.mp jm_okM_all _ (jm_lk2_mem hq)
  unfold jm_okM at h1
  dsimp only at h1
  rw [ho] at h1
  have hlk := of_decide_eq_true h1
  have hcs2 : (List.map (fun v => v.category) (st.map (jm_rv α))).sum = jm_cat st := by
    unfold jm_cat
    rw [List.map_map]
    congr 2
    funext v
    exact jm_rv_cat α v
  exact va_mmax_long hx hb (by rw [hml, hl.1]) hown (hts _ (jm_tg_of hlk rfl)) (hts _ (List.mem_filter.mpr ⟨jm_w4.1, rfl⟩)) (hts _ (List.mem_filter.mpr ⟨jm_w0.2.2.2, rfl⟩)) (hts _ (List.mem_filter.mpr ⟨jm_w4.2, rfl⟩)) (by omega) (by rw [hcs2]; omega) hcs.1 hcs.2 hd (k H locs larr hP hS hl hlen hX)

theorem jm_x_cpy {mt : jm_M} (C : jm_Cx D α κ xs L p R s mid args c cells slots A mt) {pc : Nat} {ls : jm_L} {σ : jm_S} {st : List Value} {z : Nat} {pl : Nat} {a b n0 n1 : Nat} {sp dp n : Int32} (h0 : jm_wi a false = some n0) (h1w : jm_wi b false = some n1) (hh : ¬ (sp < 0 ∨ dp < 0 ∨ n < 0 ∨ n0 < sp.toNatClampNeg + n.toNatClampNeg ∨ n1 < dp.toNatClampNeg + n.toNatClampNeg ∨ 8 < jm_cat st)) (hd : decode mt.2.2.1 pc = .ok (.invokestatic z, 3)) (hq : jm_lk2 jm_ml mt.1 z = some (1000, pl)) (h1f : 1 ≤ mt.2.2.2.2.2.1) (hcat : ¬ 8 < jm_cat st) (k : jm_W D α κ xs L p l e R s mid args below meth c cells slots Q A mt (pc + 3, ls, st, jm_row σ b (va_cpy (σ a) (σ b) sp.toNatClampNeg dp.toNatClampNeg n.toNatClampNeg))) : jm_W D α κ xs L p l e R s mid args below meth c cells slots Q A mt (pc, ls, .int n :: .int dp :: .ref b :: .int sp :: .ref a :: st, σ) := by
  obtain ⟨hx, hb, hml, ⟨own, ho, hown⟩, hts, hK, hT, hA, hR, hcs, hinj, hnn⟩ := C
  intro H locs larr hP hS hl hlen hX
  have h1 := List.all_eq_true.mp jm_okM_all _ (jm_lk2_mem hq)
  unfold jm_okM at h1
  dsimp only at h1
  rw [ho] at h1
  have hlk := of_decide_eq_true h1
  have hcs2 : (List.map (fun v => v.category) (st.map (jm_rv α))).sum = jm_cat st := by
    unfold jm_cat
    rw [List.map_map]
    congr 2
    funext v
    exact jm_rv_cat α v
  have hs0 := jm_wi_i h0
  have hs1 := jm_wi_i h1w
  have hD := jm_enc_D (κ := κ) (σ := σ) hinj hA
  have hwords : nativeFrameWords "java/lang/System" "arraycopy" 5 ≤ 19 := by decide +kernel
  refine va_copyi hx hb (by rw [hml, hl.1]) hown (hts _ (jm_tg_of hlk rfl)) (hts _ (List.mem_filter.mpr ⟨jm_w0.1, rfl⟩)) (hts _ (List.mem_filter.mpr ⟨jm_w0.2.1, rfl⟩)) (hts _ (List.mem_filter.mpr ⟨jm_w0.2.2.1, rfl⟩)) (hK.two hs0 hs1) hP hD hS a b 0 1 (jm_enc_at hs0) (jm_enc_at hs1) rfl rfl rfl (sp := sp) (dp := dp) (n := n) (fun q => hh (Or.inl q)) (fun q => hh (Or.inr (Or.inl q))) (fun q => hh (Or.inr (Or.inr (Or.inl q)))) (Nat.not_lt.mp fun q => hh (Or.inr (Or.inr (Or.inr (Or.inl q))))) (Nat.not_lt.mp fun q => hh (Or.inr (Or.inr (Or.inr (Or.inr (Or.inl q)))))) (fun i _ => rfl) (by omega) (by rw [hcs2]; omega) hd (fun H1 locs1 p1 _ s1 => ?_)
  have hset : (jm_enc α κ σ).set b (α b, .inl (κ b, n1, .inl (va_cpy (σ a) (σ b) sp.toNatClampNeg dp.toNatClampNeg n.toNatClampNeg))) = jm_enc α κ (jm_row σ b (va_cpy (σ a) (σ b) sp.toNatClampNeg dp.toNatClampNeg n.toNatClampNeg)) := by
    refine jm_enc_set hs1 ?_
    show Sum.inl _ = Sum.inl _
    simp [jm_row]
  rw [hset] at p1
  exact k H1 locs1 larr p1 s1 hl hlen (hX.row (jm_sk_lt hs1) _)

end SND2
