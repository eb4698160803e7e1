/-! THE CLAIM OUT OF ONE WALK OF THE LAW'S BODY. Your part is whole_start (and what it stands on); all else here is the same for every law, but numbers. -/
def R_law : String := "PopPanLaw"
def lw_P (b : Addr) (xs : List Int32) (args : Array Value) (s : State) : Prop := args = #[.ref b] ∧ s.IntsAt b xs ∧ xs.length ≤ 3072 ∧ (Jvm.Cond.and given_1 narrow_1).before args s = true
def lw_Q (_ : Array Value) (s : State) (o : Outcome) (t : State) : Prop := o = .returned (some (.int 1)) ∧ Framed s o t [] 600000 7302249
def lw_Z (below : List Frame) (a : Array Value) (s : State) : State → Prop := fun t => ∃ o, t.status = .running ∧ Ended t below o ∧ lw_Q a s o t
/-- the law's own end, with 1 on the stack, nothing written that was there before, its room as the claim has it -/
theorem lw_ret {p : Program} {l : Launch} {e : Env} {s : State} {m : MethodId} {below : List Frame} {meth : Method} {c : Code} {b : Nat} (hx : p.tables.exec = Jvm.exec) (hb : c.code = code) (hr : meth.sig.returnType = ret) (hlocks : meth.locks = false) {pc : Nat} {H : Heap} {ls : Array Slot} (hdg : decode code pc = .ok (.ireturn, 1)) : W p l e room_1 s m #[Value.ref b] below meth c H [] 600000 7302249 (lw_Z below #[Value.ref b] s) (F0 m pc ls [.int 1]) := by
  intro T hT X
  obtain ⟨fs, hret, hrun, hended, hW, hframe⟩ := X.leave (v := some (.int 1)) (hlocks := hlocks) (fun h => by rw [hr] at h; cases h)
  have hmeth' : T.vm.method? m = some meth := X.method'
  refine ⟨T.setFrames fs, ?_, .returned (some (.int 1)), hrun, hended, rfl, ⟨_, rfl⟩, hW, hframe⟩
  jvm_step X.here [X.here.top, hx, hb, hdg, hmeth', hr, ret, narrow_b1]
  (try refine ⟨rfl, ?_⟩); (try refine ⟨rfl, ?_⟩)
  first | (intro acts; rw [hret _ acts rfl rfl rfl]) | rw [hret _ _ rfl rfl rfl]
  exact Steps.refl _
/-- what holds at the law's entry: the machine, the code, the tables' words (any of lw_tbl by 'hts w (by decide +kernel)'), the script of L ints xs at the cell b, what the Statement gives of the start (any of its parts by flat_of_before) -/
def lw_At (p : Program) (s : State) (m : MethodId) (meth : Method) (c : Code) (b L : Nat) (xs : Nat → Int32) : Prop :=
  p.tables.exec = Jvm.exec ∧ c.code = code ∧ meth.sig.returnType = ret ∧ c.maxLocals = 4 ∧ s.vm.findClass R_law = some m.cls ∧ (∀ w ∈ lw_tbl, w.before #[Value.ref b] s = true) ∧ va_X b L xs s s.heap ∧ b < s.heap.size ∧ meth.locks = false ∧ (Jvm.Cond.and given_1 narrow_1).before #[Value.ref b] s = true
theorem kdL_0 : decode code 0 = .ok (.new 7, 3) := by decide +kernel
theorem kdL_3 : decode code 3 = .ok (.dup, 1) := by decide +kernel
theorem kdL_4 : decode code 4 = .ok (.invokespecial 9, 3) := by decide +kernel
theorem kdL_7 : decode code 7 = .ok (.astore_n 1, 1) := by decide +kernel
theorem kdL_8 : decode code 8 = .ok (.new 10, 3) := by decide +kernel
theorem kdL_11 : decode code 11 = .ok (.dup, 1) := by decide +kernel
theorem kdL_12 : decode code 12 = .ok (.invokespecial 12, 3) := by decide +kernel
theorem kdL_15 : decode code 15 = .ok (.astore_n 2, 1) := by decide +kernel
theorem kdL_16 : decode code 16 = .ok (.iconst 0, 1) := by decide +kernel
theorem kdL_17 : decode code 17 = .ok (.istore_n 3, 1) := by decide +kernel
theorem k_known {args : Array Value} {s : State} (hts : ∀ w ∈ lw_tbl, w.before args s = true) : ∃ D : va_G, ∀ (k : Nat) (q : vw_C), jm_cl[k]? = some q → u_Kn s q.1 q.2.1 q.2.2 (D.1 k) (D.2 k) := by
  obtain ⟨c0, iS0, hKn0⟩ := u_known (C := jR0) (T := jT0) (N := 17) (n := 17) hts jIn0 (hts (.instantiable jR0 17) (by decide +kernel))
  obtain ⟨c1, iS1, hKn1⟩ := u_known (C := jR1) (T := jT1) (N := 2) (n := 2) hts jIn1 (hts (.instantiable jR1 2) (by decide +kernel))
  obtain ⟨c2, iS2, hKn2⟩ := u_known (C := jR2) (T := jT2) (N := 3) (n := 3) hts jIn2 (hts (.instantiable jR2 3) (by decide +kernel))
  obtain ⟨c3, iS3, hKn3⟩ := u_known (C := jR3) (T := jT3) (N := 8) (n := 8) hts jIn3 (hts (.instantiable jR3 8) (by decide +kernel))
  obtain ⟨c4, iS4, hKn4⟩ := u_known (C := jR4) (T := jT4) (N := 4) (n := 4) hts jIn4 (hts (.instantiable jR4 4) (by decide +kernel))
  obtain ⟨c5, iS5, hKn5⟩ := u_known (C := jR5) (T := jT5) (N := 3) (n := 3) hts jIn5 (hts (.instantiable jR5 3) (by decide +kernel))
  obtain ⟨c6, iS6, hKn6⟩ := u_known (C := jR6) (T := jT6) (N := 3) (n := 3) hts jIn6 (hts (.instantiable jR6 3) (by decide +kernel))
  obtain ⟨c7, iS7, hKn7⟩ := u_known (C := jR7) (T := jT7) (N := 4) (n := 4) hts jIn7 (hts (.instantiable jR7 4) (by decide +kernel))
  obtain ⟨c8, iS8, hKn8⟩ := u_known (C := jR8) (T := jT8) (N := 11) (n := 11) hts jIn8 (hts (.instantiable jR8 11) (by decide +kernel))
  obtain ⟨c9, iS9, hKn9⟩ := u_known (C := jR9) (T := jT9) (N := 39) (n := 39) hts jIn9 (hts (.instantiable jR9 39) (by decide +kernel))
  refine ⟨(fun k => ([c0, c1, c2, c3, c4, c5, c6, c7, c8, c9] : List ClassId).getD k c0, fun k => ([iS0, iS1, iS2, iS3, iS4, iS5, iS6, iS7, iS8, iS9] : List (Nat → Nat)).getD k iS0), ?_⟩
  intro k q hq
  match k, hq with
  | 0, hq => cases hq; exact hKn0
  | 1, hq => cases hq; exact hKn1
  | 2, hq => cases hq; exact hKn2
  | 3, hq => cases hq; exact hKn3
  | 4, hq => cases hq; exact hKn4
  | 5, hq => cases hq; exact hKn5
  | 6, hq => cases hq; exact hKn6
  | 7, hq => cases hq; exact hKn7
  | 8, hq => cases hq; exact hKn8
  | 9, hq => cases hq; exact hKn9
  | k + 10, hq => simp [jm_cl] at hq
/-- what the class's constructor needs beside its object, wherever the law stands -/
theorem k_X0 {args : Array Value} {s : State} {z : Nat} {cz : ClassId} (hf : ∀ c ∈ flatC (Jvm.Cond.and given_1 narrow_1), c.before args s = true) (hts : ∀ w ∈ lw_tbl, w.before args s = true) (hz1 : z < s.heap.size) (hz : kZ z cz s.heap) (hZ : va_Z "PopPan" "SETTING_FIRST" "[I" (.ref z) (fun q => s.heap.size ≤ q) s s.heap) {H : Heap} {locs : List Loc} (hS : va_S (fun q => s.heap.size ≤ q) s.heap H locs) {x : Nat} (hx : s.heap.size ≤ x) : ∀ U : State, U.heap = H → s.WarmedH U.vm → kX z cz x H.size U := by
  intro U hU hW
  have hnA : ¬ (fun q : Nat => s.heap.size ≤ q) z := Nat.not_le.mpr hz1
  refine ⟨Nat.lt_of_lt_of_le hz1 hS.1, fun e => hnA (by rw [e]; exact hx), by rw [hU]; exact kZ_at hz hnA hS, ?_, va_Nw.warmM hW (va_Nw.of (A := args) rfl (hts (.methodLinkNest "PopPan" 9 ky2 "PopPan") (by decide +kernel))), va_Nw.warmM hW (va_Nw.of (A := args) rfl (hts (.methodLinkNest "PopPan" 36 ky4 "PopPan") (by decide +kernel))), va_Nw.warmM hW (va_Nw.of (A := args) rfl (hts (.methodLinkNest "PopPan" 49 ky0 "PopPan") (by decide +kernel))), va_Nw.warmM hW (va_Nw.of (A := args) rfl (hts (.methodLinkNest "PopPan" 59 ky1 "PopPan") (by decide +kernel))), va_Nw.warmM hW (va_Nw.of (A := args) rfl (hts (.methodLinkNest "PopPan" 66 ky3 "PopPan") (by decide +kernel))), va_Nw.warmM hW (va_Nw.of (A := args) rfl (hts (.methodLinkNest "PopPan" 84 ky5 "PopPan") (by decide +kernel))), va_Nw.warmM hW (va_Nw.of (A := args) rfl (hts (.methodLinkNest "PopPan" 85 ky6 "PopPan") (by decide +kernel))), va_Nw.warmC hW (va_Nw.of (A := args) rfl (hts (.castable "[I" "java/lang/Cloneable") (by decide +kernel))), va_AO.moved hW.alike (va_AO.of (A := args) (hts (.arrayOver (.object jR7)) (by decide +kernel))), va_AO.moved hW.alike (va_AO.of (A := args) (hts (.arrayOver (.object jR5)) (by decide +kernel))), va_AO.moved hW.alike (va_AO.of (A := args) (hts (.arrayOver (.object jR6)) (by decide +kernel)))⟩
  rw [hU]
  exact ((hZ.kept (fun a h1 h2 => hS.2.1 a h1 h2)).moved hW.alike).narrow (fun q h => by exact h.elim (fun e => by rw [e]; exact hx) (fun e => Nat.le_trans hS.1 e))
theorem k_Xc {z : Nat} {cz : ClassId} {x n : Nat} {U V : State} (hvm : U.vm = V.vm) (hh : U.heap = V.heap) (h : kX z cz x n U) : kX z cz x n V := by
  obtain ⟨h1, h2, h3, h4, n1, n2, n3, n4, n5, n6, n7, n8, a1, a2, a3⟩ := h
  have al : U.vm.Alike V.vm := by rw [hvm]; exact Vm.Alike.refl V.vm
  exact ⟨h1, h2, by rw [← hh]; exact h3, by rw [← hh]; exact va_Z.moved al h4, va_Nw.same rfl hvm n1, va_Nw.same rfl hvm n2, va_Nw.same rfl hvm n3, va_Nw.same rfl hvm n4, va_Nw.same rfl hvm n5, va_Nw.same rfl hvm n6, va_Nw.same rfl hvm n7, va_Nw.same rfl hvm n8, va_AO.moved al a1, va_AO.moved al a2, va_AO.moved al a3⟩
theorem k_T {s : State} {b L : Nat} {xs : Nat → Int32} {A : Nat → Prop} {x y : Nat} {u v t : Nat → Nat} (ht : ∀ i q, jm_stv[i]? = some q → va_Z "PopPan" q.1 "[I" (.ref (t i)) A s s.heap ∧ va_T .int (t i) q.2.length (fun j => .int (q.2.getD j 0)) A s s.heap) (hX : va_X b L xs s s.heap) (hb : ¬ A b) : jm_T (kα x y u v t b) xs L A s s.heap := by
  refine ⟨fun i q hq => ?_, ?_⟩
  · have h := ht i q hq
    match i, hq with
    | 0, _ => exact h
    | 1, _ => exact h
    | 2, _ => exact h
    | 3, _ => exact h
    | i + 4, hq => simp [jm_stv] at hq
  · obtain ⟨scr, h1, h2, h3, h4, h5⟩ := hX
    exact ⟨scr, h1, h2, h3, by omega, by rw [h4], h5, hb⟩
set_option maxRecDepth 100000 in
set_option maxHeartbeats 4000000 in
theorem k_lv {x y b : Nat} {u v t : Nat → Nat} : jm_lv (kα x y u v t b) (lwL 0) = [(0, .ref b), (1, .ref x), (2, .ref y), (3, .int 0)] := rfl
theorem k_law {p : Program} {e : Env} {s : State} {m : MethodId} {below : List Frame} {meth : Method} {c : Code} {l : Launch} {b L : Nat} {xs : Nat → Int32} (hlocks : meth.locks = false) (hx : p.tables.exec = Jvm.exec) (hb : c.code = code) (hr : meth.sig.returnType = ret) (hml : c.maxLocals = 4) (hown : s.vm.findClass R_law = some m.cls) (hts : ∀ w ∈ lw_tbl, w.before #[Value.ref b] s = true) (hts' : ∀ w ∈ jm_tg, w.before #[Value.ref b] s = true) {D : va_G} {x y : Nat} {u v : (Nat → Nat) × (Nat → ClassId)} {t : Nat → Nat} (hK : jm_K D (kκ u.2 v.2) s) (hT : jm_T (kα x y u.1 v.1 t b) xs L (fun q : Nat => s.heap.size ≤ q) s s.heap) {H : Heap} {locs : List Loc} {ls : Array Slot}
    (hP : va_P D jm_cl (jm_enc (kα x y u.1 v.1 t b) (kκ u.2 v.2) (kS0 xs L)) H) (hD : va_D (fun q : Nat => s.heap.size ≤ q) (jm_enc (kα x y u.1 v.1 t b) (kκ u.2 v.2) (kS0 xs L))) (hS : va_S (fun q : Nat => s.heap.size ≤ q) s.heap H locs) (hL : L ≤ 3072) (hl : lv_has ls 4 [(3, .int 0), (2, .ref y), (1, .ref x), (0, .ref b)]) :
    W p l e room_1 s m #[Value.ref b] below meth c H locs 600000 7302249 (lw_Z below #[Value.ref b] s) (F0 m 18 ls []) := by
  obtain ⟨hinj, hAα⟩ := k_inj hD
  obtain ⟨ρ, hev⟩ := law_loop (N := L) (by omega) L 0 (kS0 xs L) (by omega) (Nat.zero_le L) k_I rfl
  obtain ⟨n, hn⟩ := (jm_ev0_iff jm_act jm_ini).mp hev
  have hmt : jm_mt[201]? = some jMt201 := rfl
  have Cx : jm_Cx D (kα x y u.1 v.1 t b) (kκ u.2 v.2) xs L p room_1 s m #[Value.ref b] c 600000 7302249 (fun q : Nat => s.heap.size ≤ q) jMt201 :=
    ⟨hx, hb, hml, ⟨R_law, rfl, hown⟩, hts', hK, hT, hAα, ⟨(Nat.le_of_ble_eq_true rfl), (Nat.le_of_ble_eq_true rfl)⟩, ⟨(Nat.le_of_ble_eq_true rfl), (Nat.le_of_ble_eq_true rfl)⟩, hinj, fun a i b' n' d h hm => va_Nw.of rfl (hts _ hm)⟩
  have key := jm_sound (D := D) (κ := kκ u.2 v.2) (xs := xs) (L := L) (l := l) hinj n 201 (18, lwL 0, [], kS0 xs L) (some (.int 1)) ρ jMt201 hmt hn p e room_1 s m #[Value.ref b] below meth c 600000 7302249 (lw_Z below #[Value.ref b] s) (fun q : Nat => s.heap.size ≤ q) Cx ?_
  · refine key H locs ls hP hS ?_ rfl ⟨rfl, ?_⟩
    · show lv_has ls 4 (jm_lv _ (lwL 0))
      rw [k_lv]
      exact lv_sub hl [3, 2, 1, 0] rfl
    · show (nI L).toNatClampNeg = L
      exact nI_clamp (by omega)
  · intro pc H1 locs1 larr hrt hP1 hS1 hX1
    refine va_forget hS1.2.2 ?_
    rcases hrt with ⟨w, ty, e1, hd, -, -⟩ | ⟨w, e1, -, -⟩ | ⟨e1, -, -⟩
    · exact lw_ret hx hb hr hlocks hd
    · cases e1
    · cases e1
set_option maxRecDepth 100000 in
set_option maxHeartbeats 4000000 in
/-- YOUR PART: from the entry, for every script of at most 3072 ints, the law comes to its end with true ('hflags': the launch's flags, for a law that throws: no stack traces) -/
theorem whole_start {p : Program} {e : Env} {s : State} {m : MethodId} {below : List Frame} {meth : Method} {c : Code} (l : Launch) (hflags : l.flags = flags0) {b L : Nat} {xs : Nat → Int32} (hL : L ≤ 3072) (C0 : lw_At p s m meth c b L xs) : W p l e room_1 s m #[Value.ref b] below meth c s.heap [] 0 0 (lw_Z below #[Value.ref b] s) (entryFrame m ([Value.ref b] : List Value).toArray 4) := by
  obtain ⟨hx, hb, hr, hml, hown, hts, hX, hbl, hlocks, hgv⟩ := C0
  have hf := flat_of_before _ hgv
  have hts' : ∀ w ∈ jm_tg, w.before #[Value.ref b] s = true := fun w hw => hts w (jm_tg_tbl hw)
  have hA : ∀ q : Nat, s.heap.size ≤ q → (fun q : Nat => s.heap.size ≤ q) q := fun _ h => h
  have hbA : ¬ (fun q : Nat => s.heap.size ≤ q) b := Nat.not_le.mpr hbl
  have hA0 : ∀ a : Nat, a < s.heap.size → ¬ (fun q : Nat => s.heap.size ≤ q) a := fun a h => Nat.not_le.mpr h
  obtain ⟨D, hKc⟩ := k_known hts
  obtain ⟨t, ht⟩ := k_stats (A := (fun q : Nat => s.heap.size ≤ q)) hf hts hA0
  obtain ⟨z, cz, hz1, hz, hZ, hcz, hArr⟩ := k_first (A := (fun q : Nat => s.heap.size ≤ q)) hf hts hA0
  have hS : va_S (fun q : Nat => s.heap.size ≤ q) s.heap s.heap [] := va_S.rf
  have hK0 : va_K D jm_cl [] s := ⟨hKc, fun k q h => by simp at h⟩
  have hKz : va_K D jm_cl [(cz, .int)] s := ⟨hKc, fun k q h => by
    match k, h with
    | 0, h => cases h; exact ⟨hArr, hcz⟩
    | k + 1, h => simp at h⟩
  have hP : va_P D jm_cl [] s.heap := fun k q h => by simp at h
  have hD : va_D (fun q : Nat => s.heap.size ≤ q) [] := ⟨fun i j p q h => by simp at h, fun k q h => by simp at h⟩
  have hl := lv_entry ([.ref b]) (n := 4) (Nat.le_of_ble_eq_true rfl)
  rw [lg_entry_eq]
  generalize (lg_sl ([.ref b]) ++ List.replicate (4 - (lg_sl ([.ref b])).length) Slot.unset).toArray = ls at hl ⊢
  have hl : lv_has ls 4 [(0, .ref b)] := hl
  clear hKc
  refine va_new (ci := 8) (fs := [.null, .null, .null, .null, .null, .null, .null, .null, .null, .null, .int 0]) (C := jR8) (T := jT8) (N := 11) hx hb hts jIn8 jY8 jYo8 hown (hts (.classLink R_law 7 jR8) (by decide +kernel)) (hts (.instantiable jR8 11) (by decide +kernel)) (hts (.initialized jR8) (by decide +kernel)) hK0 hP hD hS hA rfl ks8 (Nat.le_of_ble_eq_true rfl) (Nat.le_of_ble_eq_true rfl) kdL_0 (fun x H hP hD hS => ?_)
  have hP : va_P D jm_cl ([(x, .inr (8, [.null, .null, .null, .null, .null, .null, .null, .null, .null, .null, .int 0]))]) H := hP
  have hD : va_D (fun q : Nat => s.heap.size ≤ q) ([(x, .inr (8, [.null, .null, .null, .null, .null, .null, .null, .null, .null, .null, .int 0]))]) := hD
  refine W.widen (k := 1) (n := 11) (Nat.le_of_ble_eq_true rfl) (Nat.le_of_ble_eq_true rfl) ?_
  have hxs : s.heap.size ≤ x := hD.2 0 _ rfl
  refine lv_dup hx hb kdL_3 rfl ?_
  have hPc := hP.sub (ws' := [(x, .inr (8, [.null, .null, .null, .null, .null, .null, .null, .null, .null, .null, .int 0]))]) [0] rfl
  have hDc := hD.sub (ws' := [(x, .inr (8, [.null, .null, .null, .null, .null, .null, .null, .null, .null, .null, .int 0]))]) [0] (by decide) rfl
  have hKc : va_K D jm_cl [(cz, .int)] s := hKz
  have hFc := va_free (wc := [(x, .inr (8, [.null, .null, .null, .null, .null, .null, .null, .null, .null, .null, .int 0]))]) hD hS hA [0] rfl
  refine va_callv (va_runI (As := []) (rest := [.ref x]) ⟨hx, hb, hml, hown, hts'⟩ (k_PopPan l D z cz x H.size) (cwI 0 hts' (cWs_in kcd8) rfl rfl rfl (hts (.initialized jR8) (by decide +kernel)) (hts (.methodLink R_law 9 ky8) (by decide +kernel)) (hts (.instanceMethod ky8) (by decide +kernel)) rfl (by decide +kernel) ⟨(Nat.le_of_ble_eq_true rfl), (Nat.le_of_ble_eq_true rfl)⟩) ⟨fun a U g mk q => by obtain ⟨q0, q1, qP, qK, qD, qX⟩ := q; exact ⟨q0, q1, qP, va_K.moved (u := U) (U := U.calling g mk a) (Vm.Alike.refl U.vm) qK, qD, k_Xc (U := U) (V := U.calling g mk a) rfl rfl qX⟩, fun U hU hW => ⟨rfl, by rw [hU], by rw [hU]; exact hPc, va_K.moved hW.alike hKc, hDc.weaken (fun _ _ _ _ => trivial), k_X0 hf hts hz1 hz hZ hS hxs U hU hW⟩⟩ rfl rfl hl.1 rfl (lv_room (Nat.le_of_ble_eq_true rfl)) kdL_4 ⟨(Nat.le_of_ble_eq_true rfl), (Nat.le_of_ble_eq_true rfl)⟩) hS (fun q _ h => hFc q h) hFc (fun u t1 H1 locs ht1 hvm hw hB hz9 hk1 hS => ?_)
  obtain ⟨hP1, hK1, hD1⟩ := hB
  rw [ht1] at hP1
  have hK1 := va_K.moved hvm.symm hK1
  obtain ⟨hP, hD⟩ := va_join (wr := []) (w1 := kw_PopPan x u) hP hD [0] [] rfl rfl (by decide) (by decide) hk1 hFc hP1 hD1
  generalize H1 = H at hP hS ⊢
  refine W.widen (k := 61) (n := 1710) (Nat.le_of_ble_eq_true rfl) (Nat.le_of_ble_eq_true rfl) ?_
  have hKu : va_K D jm_cl (kt_PopPan u) s := hK1
  have hP : va_P D jm_cl (kw_PopPan x u) H := hP
  have hD : va_D (fun q : Nat => s.heap.size ≤ q) (kw_PopPan x u) := hD
  clear hK1 hP1 hD1 hk1 hPc hDc hKc hFc
  refine lv_astore_n (lv' := [(1, .ref x), (0, .ref b)]) hx hb kdL_7 rfl hl (by decide) rfl (fun ls hl => ?_)
  refine va_new (ci := 9) (fs := [.null, .null, .null, .null, .int 0, .int 0, .null, .null, .null, .null, .null, .int 0, .null, .null, .null, .int 0, .int 0, .int 0, .null, .null, .int 0, .int 0, .int 0, .int 0, .int 0, .null, .null, .null, .null, .null, .null, .null, .null, .null, .null, .null, .int 0, .null, .null]) (C := jR9) (T := jT9) (N := 39) hx hb hts jIn9 jY9 jYo9 hown (hts (.classLink R_law 10 jR9) (by decide +kernel)) (hts (.instantiable jR9 39) (by decide +kernel)) (hts (.initialized jR9) (by decide +kernel)) hK0 hP hD hS hA rfl ks9 (Nat.le_of_ble_eq_true rfl) (Nat.le_of_ble_eq_true rfl) kdL_8 (fun y H hP hD hS => ?_)
  have hP : va_P D jm_cl (kw_PopPan x u ++ [(y, .inr (9, [.null, .null, .null, .null, .int 0, .int 0, .null, .null, .null, .null, .null, .int 0, .null, .null, .null, .int 0, .int 0, .int 0, .null, .null, .int 0, .int 0, .int 0, .int 0, .int 0, .null, .null, .null, .null, .null, .null, .null, .null, .null, .null, .null, .int 0, .null, .null]))]) H := hP
  have hD : va_D (fun q : Nat => s.heap.size ≤ q) (kw_PopPan x u ++ [(y, .inr (9, [.null, .null, .null, .null, .int 0, .int 0, .null, .null, .null, .null, .null, .int 0, .null, .null, .null, .int 0, .int 0, .int 0, .null, .null, .int 0, .int 0, .int 0, .int 0, .int 0, .null, .null, .null, .null, .null, .null, .null, .null, .null, .null, .null, .int 0, .null, .null]))]) := hD
  refine W.widen (k := 62) (n := 1749) (Nat.le_of_ble_eq_true rfl) (Nat.le_of_ble_eq_true rfl) ?_
  refine lv_dup hx hb kdL_11 rfl ?_
  have hPc := hP.sub (ws' := [(y, .inr (9, [.null, .null, .null, .null, .int 0, .int 0, .null, .null, .null, .null, .null, .int 0, .null, .null, .null, .int 0, .int 0, .int 0, .null, .null, .int 0, .int 0, .int 0, .int 0, .int 0, .null, .null, .null, .null, .null, .null, .null, .null, .null, .null, .null, .int 0, .null, .null]))]) [61] rfl
  have hDc := hD.sub (ws' := [(y, .inr (9, [.null, .null, .null, .null, .int 0, .int 0, .null, .null, .null, .null, .null, .int 0, .null, .null, .null, .int 0, .int 0, .int 0, .null, .null, .int 0, .int 0, .int 0, .int 0, .int 0, .null, .null, .null, .null, .null, .null, .null, .null, .null, .null, .null, .int 0, .null, .null]))]) [61] (by decide) rfl
  have hKc : va_K D jm_cl [] s := hK0
  have hFc := va_free (wc := [(y, .inr (9, [.null, .null, .null, .null, .int 0, .int 0, .null, .null, .null, .null, .null, .int 0, .null, .null, .null, .int 0, .int 0, .int 0, .null, .null, .int 0, .int 0, .int 0, .int 0, .int 0, .null, .null, .null, .null, .null, .null, .null, .null, .null, .null, .null, .int 0, .null, .null]))]) hD hS hA [61] rfl
  refine va_callv (va_runI (As := []) (rest := [.ref y]) ⟨hx, hb, hml, hown, hts'⟩ (k_Model l D y H.size) (cwI 0 hts' (cWs_in kcd9) rfl rfl rfl (hts (.initialized jR9) (by decide +kernel)) (hts (.methodLink R_law 12 ky9) (by decide +kernel)) (hts (.instanceMethod ky9) (by decide +kernel)) rfl (by decide +kernel) ⟨(Nat.le_of_ble_eq_true rfl), (Nat.le_of_ble_eq_true rfl)⟩) ⟨fun a U g mk q => by obtain ⟨q0, q1, qP, qK, qD⟩ := q; exact ⟨q0, q1, qP, va_K.moved (u := U) (U := U.calling g mk a) (Vm.Alike.refl U.vm) qK, qD⟩, fun U hU hW => ⟨rfl, by rw [hU], by rw [hU]; exact hPc, va_K.moved hW.alike hKc, hDc.weaken (fun _ _ _ _ => trivial)⟩⟩ rfl rfl hl.1 rfl (lv_room (Nat.le_of_ble_eq_true rfl)) kdL_12 ⟨(Nat.le_of_ble_eq_true rfl), (Nat.le_of_ble_eq_true rfl)⟩) hS (fun q _ h => hFc q h) hFc (fun v t1 H1 locs ht1 hvm hw hB hz9 hk1 hS => ?_)
  obtain ⟨hP1, hK1, hD1⟩ := hB
  rw [ht1] at hP1
  have hK1 := va_K.moved hvm.symm hK1
  obtain ⟨hP, hD⟩ := va_join (wr := kw_PopPan x u) (w1 := kw_Model y v) hP hD [61] [0, 1, 2, 3, 4, 5, 6, 7, 8, 9, 10, 11, 12, 13, 14, 15, 16, 17, 18, 19, 20, 21, 22, 23, 24, 25, 26, 27, 28, 29, 30, 31, 32, 33, 34, 35, 36, 37, 38, 39, 40, 41, 42, 43, 44, 45, 46, 47, 48, 49, 50, 51, 52, 53, 54, 55, 56, 57, 58, 59, 60] rfl rfl (by decide) (by decide) hk1 hFc hP1 hD1
  generalize H1 = H at hP hS ⊢
  refine W.widen (k := 89) (n := 3537) (Nat.le_of_ble_eq_true rfl) (Nat.le_of_ble_eq_true rfl) ?_
  have hKv : va_K D jm_cl (kt_PopPan u ++ kt_Model v) s := hKu.app hK1
  have hP : va_P D jm_cl (kw_PopPan x u ++ kw_Model y v) H := hP
  have hD : va_D (fun q : Nat => s.heap.size ≤ q) (kw_PopPan x u ++ kw_Model y v) := hD
  clear hK1 hP1 hD1 hk1 hPc hDc hKc hFc
  refine lv_astore_n (lv' := [(2, .ref y), (1, .ref x), (0, .ref b)]) hx hb kdL_15 rfl hl (by decide) rfl (fun ls hl => ?_)
  refine lv_iconst (v := 0) hx hb kdL_16 (by decide) ?_
  refine lv_istore_n (lv' := [(3, .int 0), (2, .ref y), (1, .ref x), (0, .ref b)]) hx hb kdL_17 rfl hl (by decide) rfl (fun ls hl => ?_)
  refine W.widen (k := 600000) (n := 7302249) (Nat.le_of_ble_eq_true rfl) (Nat.le_of_ble_eq_true rfl) ?_
  rw [k_enc (xs := xs) (L := L) (t := t) (b := b)] at hP hD
  exact k_law hlocks hx hb hr hml hown hts hts' (k_K hKv) (k_T ht hX hbA) hP hD hS hL hl
