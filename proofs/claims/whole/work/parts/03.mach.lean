/-! ===== the pure machine: numbers in cells of a fixed layout ===== -/
abbrev jm_S : Type := Nat → Nat → Int32
abbrev jm_C : Type := (Nat × List (Option Nat)) ⊕ ((Bool × Nat) ⊕ (String × List Nat))
abbrev jm_L : Type := List (Option Value)
abbrev jm_N : Type := Nat × jm_L × List Value × jm_S
abbrev jm_A : Type := jm_N ⊕ ((Option Value × jm_S) ⊕ (Nat × List Value × jm_N))
def jm_row (σ : jm_S) (a : Nat) (f : Nat → Int32) : jm_S := fun b => if b = a then f else σ b
def jm_up (σ : jm_S) (a k : Nat) (x : Int32) : jm_S := jm_row σ a (upd (σ a) k x)
def jm_lk {β : Type} : List (Nat × β) → Nat → Option β
  | [], _ => none
  | (k, v) :: r, n => match Nat.beq k n with
    | true => some v
    | false => jm_lk r n
def jm_lk2 {β : Type} : List (Nat × Nat × β) → Nat → Nat → Option β
  | [], _, _ => none
  | (j, k, v) :: r, o, n => match Nat.beq j o && Nat.beq k n with
    | true => some v
    | false => jm_lk2 r o n
def jm_get (ls : jm_L) (i : Nat) : Option Value := match ls[i]? with
  | some (some v) => some v
  | _ => none
/-- a store of one word: what stood across it goes -/
def jm_pre (ls : jm_L) (i : Nat) : jm_L := match i with
  | 0 => ls
  | j + 1 => match ls[j]? with
    | some (some v) => match v with
      | .long _ => ls.set j none
      | .double _ => ls.set j none
      | _ => ls
    | _ => ls
def jm_set1 (ls : jm_L) (i : Nat) (v : Value) : jm_L := (jm_pre ls i).set i (some v)
def jm_set2 (ls : jm_L) (i : Nat) (v : Value) : jm_L := ((jm_pre ls i).set i (some v)).set (i + 1) none
def jm_ent : List Value → jm_L
  | [] => []
  | .long x :: r => some (.long x) :: none :: jm_ent r
  | .double x :: r => some (.double x) :: none :: jm_ent r
  | v :: r => some v :: jm_ent r
def jm_pad (n : Nat) (l : jm_L) : jm_L := l ++ List.replicate (n - l.length) none
def jm_1 (st : List Value) (f : Int32 → List Value → Option jm_A) : Option jm_A := match st with
  | .int x :: r => f x r
  | _ => none
def jm_2 (st : List Value) (f : Int32 → Int32 → List Value → Option jm_A) : Option jm_A := match st with
  | .int y :: .int x :: r => f x y r
  | _ => none
def jm_l2 (st : List Value) (f : Int64 → Int64 → List Value → Option jm_A) : Option jm_A := match st with
  | .long y :: .long x :: r => f x y r
  | _ => none
def jm_r1 (st : List Value) (f : Nat → List Value → Option jm_A) : Option jm_A := match st with
  | .ref a :: r => f a r
  | _ => none
def jm_ri (st : List Value) (f : Nat → Int32 → List Value → Option jm_A) : Option jm_A := match st with
  | .int i :: .ref a :: r => f a i r
  | _ => none
def jm_rx (st : List Value) (f : Nat → Int32 → List Value → Option jm_A) : Option jm_A := match st with
  | .int x :: .ref a :: r => f a x r
  | _ => none
def jm_rix (st : List Value) (f : Nat → Int32 → Int32 → List Value → Option jm_A) : Option jm_A := match st with
  | .int x :: .int i :: .ref a :: r => f a i x r
  | _ => none
def jm_cp (st : List Value) (f : Nat → Int32 → Nat → Int32 → Int32 → List Value → Option jm_A) : Option jm_A := match st with
  | .int n :: .int dp :: .ref b :: .int sp :: .ref a :: r => f a sp b dp n r
  | _ => none
def jm_nx (pc : Nat) (ls : jm_L) (st : List Value) (σ : jm_S) : Option jm_A := some (.inl (pc, ls, st, σ))
def jm_jmp (pc : Nat) (off : Int) (ls : jm_L) (st : List Value) (σ : jm_S) : Option jm_A :=
  if 0 ≤ (pc : Int) + off then jm_nx ((pc : Int) + off).toNat ls st σ else none
def jm_br (b : Bool) (pc : Nat) (off : Int) (ls : jm_L) (st : List Value) (σ : jm_S) : Option jm_A :=
  if 0 ≤ (pc : Int) + off then (if b = true then jm_nx ((pc : Int) + off).toNat ls st σ else jm_nx (pc + 3) ls st σ) else none
def jm_ld (v : Option Value) (f : Int32 → Option jm_A) : Option jm_A := match v with
  | some (.int x) => f x
  | _ => none
def jm_ldl (v : Option Value) (f : Int64 → Option jm_A) : Option jm_A := match v with
  | some (.long x) => f x
  | _ => none
def jm_lda (v : Option Value) (f : Nat → Option jm_A) : Option jm_A := match v with
  | some (.ref x) => f x
  | _ => none
def jm_cat (st : List Value) : Nat := (st.map fun v => v.category).sum
def jm_cmp (c : ClassFile.Cond) (x y : Int32) : Bool := match c with
  | .eq => decide (x = y)
  | .ne => decide (¬ x = y)
  | .lt => decide (x < y)
  | .ge => decide (y ≤ x)
  | .gt => decide (y < x)
  | .le => decide (x ≤ y)

def jm_isZ (ci k : Nat) : Bool := match jm_cl[ci]? with
  | some (_, T, _) => decide ((T k).2.2.1 = "Z")
  | none => false
/-- a field's value, of a class's object at a place of the layout -/
def jm_gf (ci k a : Nat) (σ : jm_S) : Option Value := match jm_sk[a]? with
  | some (.inl (c, fs)) => match Nat.beq c ci with
    | true => match fs[k]? with
      | some none => some (.int (σ a k))
      | some (some q) => some (.ref q)
      | none => none
    | false => none
  | _ => none
def jm_pf (ci k a : Nat) (x : Int32) (σ : jm_S) : Option jm_S := match jm_sk[a]? with
  | some (.inl (c, fs)) => match Nat.beq c ci with
    | true => match fs[k]? with
      | some none => if jm_isZ ci k = true ∧ ¬ (x = 0 ∨ x = 1) then none else some (jm_up σ a k x)
      | _ => none
    | false => none
  | _ => none
/-- rows that nobody writes: four of the class's constants, and the script -/
def jm_im (a : Nat) (σ : jm_S) : Option (Nat × (Nat → Int32)) := match Nat.beq a 1005 with
  | true => some ((σ 1006 0).toNatClampNeg, σ 1005)
  | false => match jm_stv[a - 1000]? with
    | some q => some (q.2.length, fun j => q.2.getD j 0)
    | none => none
def jm_ia (a : Nat) (σ : jm_S) : Option (Nat × (Nat → Int32)) := match Nat.ble 1000 a with
  | true => jm_im a σ
  | false => match jm_sk[a]? with
    | some (.inr (.inl (false, n))) => some (n, σ a)
    | _ => none
def jm_len (a : Nat) (σ : jm_S) : Option Nat := match Nat.ble 1000 a with
  | true => (jm_im a σ).map (fun q => q.1)
  | false => match jm_sk[a]? with
    | some (.inr (.inl (_, n))) => some n
    | _ => none
def jm_wi (a : Nat) (b : Bool) : Option Nat := match jm_sk[a]? with
  | some (.inr (.inl (c, n))) => if c = b then some n else none
  | _ => none
def jm_wr (a : Nat) : Option (List Nat) := match jm_sk[a]? with
  | some (.inr (.inr (_, ts))) => some ts
  | _ => none
def jm_oc (a : Nat) : Option Nat := match jm_sk[a]? with
  | some (.inl (c, _)) => some c
  | _ => none
def jm_ob {α : Type} (o : Option α) (f : α → Option jm_A) : Option jm_A := match o with
  | some x => f x
  | none => none
def jm_bad (i : Int32) (n : Nat) : Prop := i < 0 ∨ n ≤ i.toNatClampNeg
/-- the JDK's own: 1000 arraycopy, 1001 max, 1002 min, 1003 abs, 1004 max of longs -/
def jm_nat (k : Nat) (pc : Nat) (ls : jm_L) (st : List Value) (σ : jm_S) : Option jm_A := match k with
  | 1000 => jm_cp st fun a sp b dp n r => jm_ob (jm_wi a false) fun n0 => jm_ob (jm_wi b false) fun n1 =>
        if sp < 0 ∨ dp < 0 ∨ n < 0 ∨ n0 < sp.toNatClampNeg + n.toNatClampNeg ∨ n1 < dp.toNatClampNeg + n.toNatClampNeg ∨ 8 < jm_cat r then none
        else jm_nx (pc + 3) ls r (jm_row σ b (va_cpy (σ a) (σ b) sp.toNatClampNeg dp.toNatClampNeg n.toNatClampNeg))
  | 1001 => jm_2 st fun x y r => if 8 < jm_cat r then none else jm_nx (pc + 3) ls (.int (if x < y then y else x) :: r) σ
  | 1002 => jm_2 st fun x y r => if 8 < jm_cat r then none else jm_nx (pc + 3) ls (.int (if y < x then y else x) :: r) σ
  | 1003 => jm_1 st fun x r => if 8 < jm_cat r then none else jm_nx (pc + 3) ls (.int (if 0 ≤ x then x else 0 - x) :: r) σ
  | 1004 => jm_l2 st fun x y r => if 8 < jm_cat r then none else jm_nx (pc + 3) ls (.long (if y < x then x else y) :: r) σ
  | _ => none
/-- a call: how many words of the stack it takes, and whom -/
def jm_call (o idx : Nat) (vir : Bool) (pc : Nat) (ls : jm_L) (st : List Value) (σ : jm_S) : Option jm_A :=
  jm_ob (jm_lk2 jm_ml o idx) fun q => match Nat.ble 1000 q.1 with
    | true => match vir with
      | false => jm_nat q.1 pc ls st σ
      | true => none
    | false => jm_ob (jm_mt[q.1]?) fun mt =>
        if mt.2.2.2.2.2.2.2.1 ≤ st.length ∧ jm_cat (st.drop mt.2.2.2.2.2.2.2.1) ≤ 8 ∧ mt.2.2.2.2.2.2.1 = !vir then
          (if vir = true then (match ((st.take mt.2.2.2.2.2.2.2.1).reverse) with
            | .ref a :: as => if jm_oc a = some mt.1 then some (.inr (.inr (q.1, .ref a :: as, (pc + 3, ls, st.drop mt.2.2.2.2.2.2.2.1, σ)))) else none
            | _ => none)
          else some (.inr (.inr (q.1, (st.take mt.2.2.2.2.2.2.2.1).reverse, (pc + 3, ls, st.drop mt.2.2.2.2.2.2.2.1, σ)))))
        else none
def jm_ret (rt : Option FieldType) (st : List Value) (σ : jm_S) : Option jm_A := match st with
  | [.int v] => match rt with
    | some .int => some (.inr (.inl (some (.int v), σ)))
    | some .boolean => if v = 0 ∨ v = 1 then some (.inr (.inl (some (.int v), σ))) else none
    | _ => none
  | _ => none
def jm_lret (rt : Option FieldType) (st : List Value) (σ : jm_S) : Option jm_A := match st with
  | [.long v] => match rt with
    | some .long => some (.inr (.inl (some (.long v), σ)))
    | _ => none
  | _ => none
def jm_vret (rt : Option FieldType) (st : List Value) (σ : jm_S) : Option jm_A := match st with
  | [] => match rt with
    | none => some (.inr (.inl (none, σ)))
    | _ => none
  | _ => none
def jm_do (o : Nat) (rt : Option FieldType) (i : Instr) (n : Nat) (pc : Nat) (ls : jm_L) (st : List Value) (σ : jm_S) : Option jm_A := match i, n with
  | .iconst k, 1 => jm_nx (pc + 1) ls (.int (Int32.ofInt k) :: st) σ
  | .bipush k, 2 => jm_nx (pc + 2) ls (.int (Int8.ofInt k).toInt32 :: st) σ
  | .sipush k, 3 => jm_nx (pc + 3) ls (.int (Int16.ofInt k).toInt32 :: st) σ
  | .lconst k, 1 => jm_nx (pc + 1) ls (.long (Int64.ofNat (k : Nat)) :: st) σ
  | .ldc k, 2 => jm_ob (jm_lk2 jm_lc o k) fun q => jm_nx (pc + 2) ls (.int q.1 :: st) σ
  | .ldc_w k, 3 => jm_ob (jm_lk2 jm_lc o k) fun q => jm_nx (pc + 3) ls (.int q.1 :: st) σ
  | .ldc2_w k, 3 => jm_ob (jm_lk2 jm_ll o k) fun q => jm_nx (pc + 3) ls (.long q.1 :: st) σ
  | .iload_n k, 1 => jm_ld (jm_get ls k) fun x => jm_nx (pc + 1) ls (.int x :: st) σ
  | .iload k, 2 => jm_ld (jm_get ls k) fun x => jm_nx (pc + 2) ls (.int x :: st) σ
  | .lload_n k, 1 => jm_ldl (jm_get ls k) fun x => jm_nx (pc + 1) ls (.long x :: st) σ
  | .lload k, 2 => jm_ldl (jm_get ls k) fun x => jm_nx (pc + 2) ls (.long x :: st) σ
  | .aload_n k, 1 => jm_lda (jm_get ls k) fun x => jm_nx (pc + 1) ls (.ref x :: st) σ
  | .aload k, 2 => jm_lda (jm_get ls k) fun x => jm_nx (pc + 2) ls (.ref x :: st) σ
  | .istore_n k, 1 => jm_1 st fun x r => if (k : Nat) < ls.length then jm_nx (pc + 1) (jm_set1 ls k (.int x)) r σ else none
  | .istore k, 2 => jm_1 st fun x r => if k < ls.length then jm_nx (pc + 2) (jm_set1 ls k (.int x)) r σ else none
  | .lstore_n k, 1 => match st with
    | .long x :: r => if (k : Nat) + 1 < ls.length then jm_nx (pc + 1) (jm_set2 ls k (.long x)) r σ else none
    | _ => none
  | .lstore k, 2 => match st with
    | .long x :: r => if k + 1 < ls.length then jm_nx (pc + 2) (jm_set2 ls k (.long x)) r σ else none
    | _ => none
  | .astore_n k, 1 => jm_r1 st fun x r => if (k : Nat) < ls.length then jm_nx (pc + 1) (jm_set1 ls k (.ref x)) r σ else none
  | .astore k, 2 => jm_r1 st fun x r => if k < ls.length then jm_nx (pc + 2) (jm_set1 ls k (.ref x)) r σ else none
  | .iinc k z, 3 => jm_ld (jm_get ls k) fun x => jm_nx (pc + 3) (jm_set1 ls k (.int (x + Int32.ofInt z))) st σ
  | .iadd, 1 => jm_2 st fun x y r => jm_nx (pc + 1) ls (.int (x + y) :: r) σ
  | .isub, 1 => jm_2 st fun x y r => jm_nx (pc + 1) ls (.int (x - y) :: r) σ
  | .imul, 1 => jm_2 st fun x y r => jm_nx (pc + 1) ls (.int (x * y) :: r) σ
  | .iand, 1 => jm_2 st fun x y r => jm_nx (pc + 1) ls (.int (x &&& y) :: r) σ
  | .ixor, 1 => jm_2 st fun x y r => jm_nx (pc + 1) ls (.int (x ^^^ y) :: r) σ
  | .idiv, 1 => jm_2 st fun x y r => if y = 0 then none else jm_nx (pc + 1) ls (.int (x / y) :: r) σ
  | .ishl, 1 => jm_2 st fun x y r => jm_nx (pc + 1) ls (.int (x <<< (y &&& 31)) :: r) σ
  | .ishr, 1 => jm_2 st fun x y r => jm_nx (pc + 1) ls (.int (x >>> (y &&& 31)) :: r) σ
  | .ineg, 1 => jm_1 st fun x r => jm_nx (pc + 1) ls (.int (-x) :: r) σ
  | .ladd, 1 => jm_l2 st fun x y r => jm_nx (pc + 1) ls (.long (x + y) :: r) σ
  | .lsub, 1 => jm_l2 st fun x y r => jm_nx (pc + 1) ls (.long (x - y) :: r) σ
  | .lmul, 1 => jm_l2 st fun x y r => jm_nx (pc + 1) ls (.long (x * y) :: r) σ
  | .ldiv, 1 => jm_l2 st fun x y r => if y = 0 then none else jm_nx (pc + 1) ls (.long (x / y) :: r) σ
  | .lrem, 1 => jm_l2 st fun x y r => if y = 0 then none else jm_nx (pc + 1) ls (.long (x - x / y * y) :: r) σ
  | .lcmp, 1 => jm_l2 st fun x y r => jm_nx (pc + 1) ls (.int (lg_cmp x y) :: r) σ
  | .i2l, 1 => jm_1 st fun x r => jm_nx (pc + 1) ls (.long x.toInt64 :: r) σ
  | .i2b, 1 => jm_1 st fun x r => jm_nx (pc + 1) ls (.int x.toInt8.toInt32 :: r) σ
  | .i2s, 1 => jm_1 st fun x r => jm_nx (pc + 1) ls (.int x.toInt16.toInt32 :: r) σ
  | .dup, 1 => match st with
    | v :: r => if v.category = 1 then jm_nx (pc + 1) ls (v :: v :: r) σ else none
    | _ => none
  | .dup2, 1 => match st with
    | v :: w :: r => if v.category = 1 ∧ w.category = 1 then jm_nx (pc + 1) ls (v :: w :: v :: w :: r) σ else none
    | _ => none
  | .pop, 1 => match st with
    | v :: r => if v.category = 1 then jm_nx (pc + 1) ls r σ else none
    | _ => none
  | .goto z, 3 => jm_jmp pc z ls st σ
  | .ifCond c z, 3 => jm_1 st fun x r => jm_br (jm_cmp c x 0) pc z ls r σ
  | .if_icmp c z, 3 => jm_2 st fun x y r => jm_br (jm_cmp c x y) pc z ls r σ
  | .tableswitch d lo hi offs, _ => jm_1 st fun x r => if x.toInt < lo ∨ hi < x.toInt then jm_jmp pc d ls r σ else jm_ob (offs[(x.toInt - lo).toNat]?) fun z => jm_jmp pc z ls r σ
  | .getfield k, 3 => jm_r1 st fun a r => jm_ob (jm_lk2 jm_fl o k) fun q => jm_ob (jm_gf q.1 q.2.1 a σ) fun v => jm_nx (pc + 3) ls (v :: r) σ
  | .putfield k, 3 => jm_rx st fun a x r => jm_ob (jm_lk2 jm_fl o k) fun q => jm_ob (jm_pf q.1 q.2.1 a x σ) fun τ => jm_nx (pc + 3) ls r τ
  | .getstatic k, 3 => jm_ob (jm_lk2 jm_sl o k) fun q => jm_nx (pc + 3) ls (.ref (1000 + q.1) :: st) σ
  | .iaload, 1 => jm_ri st fun a j r => jm_ob (jm_ia a σ) fun q => if j < 0 ∨ q.1 ≤ j.toNatClampNeg then none else jm_nx (pc + 1) ls (.int (q.2 j.toNatClampNeg) :: r) σ
  | .baload, 1 => jm_ri st fun a j r => jm_ob (jm_wi a true) fun n => if j < 0 ∨ n ≤ j.toNatClampNeg then none else jm_nx (pc + 1) ls (.int (σ a j.toNatClampNeg) :: r) σ
  | .iastore, 1 => jm_rix st fun a j x r => jm_ob (jm_wi a false) fun n => if j < 0 ∨ n ≤ j.toNatClampNeg then none else jm_nx (pc + 1) ls r (jm_up σ a j.toNatClampNeg x)
  | .bastore, 1 => jm_rix st fun a j x r => jm_ob (jm_wi a true) fun n => if j < 0 ∨ n ≤ j.toNatClampNeg ∨ ¬ (x = 0 ∨ x = 1) then none else jm_nx (pc + 1) ls r (jm_up σ a j.toNatClampNeg x)
  | .aaload, 1 => jm_ri st fun a j r => jm_ob (jm_wr a) fun ts => if j < 0 ∨ ts.length ≤ j.toNatClampNeg then none else jm_ob (ts[j.toNatClampNeg]?) fun q => jm_nx (pc + 1) ls (.ref q :: r) σ
  | .arraylength, 1 => jm_r1 st fun a r => jm_ob (jm_len a σ) fun n => jm_nx (pc + 1) ls (.int (Int32.ofNat n) :: r) σ
  | .invokestatic k, 3 => jm_call o k false pc ls st σ
  | .invokevirtual k, 3 => jm_call o k true pc ls st σ
  | .ireturn, 1 => jm_ret rt st σ
  | .lreturn, 1 => jm_lret rt st σ
  | .return_, 1 => jm_vret rt st σ
  | _, _ => none
/-! ===== runs ===== -/
section
variable (act : Nat → jm_N → Option jm_A) (ini : Nat → List Value → jm_L)
def jm_evF : Nat → Nat → jm_N → Option (Option Value × jm_S)
  | 0, _, _ => none
  | n + 1, m, s => match act m s with
    | none => none
    | some (.inl s') => jm_evF n m s'
    | some (.inr (.inl r)) => some r
    | some (.inr (.inr (y, as, k))) => match jm_evF n y (0, ini y as, [], k.2.2.2) with
      | none => none
      | some (v, τ) => jm_evF n m (k.1, k.2.1, v.toList ++ k.2.2.1, τ)
theorem jm_evF_mono : ∀ (n m : Nat) (s : jm_N) (r : Option Value × jm_S), jm_evF act ini n m s = some r → jm_evF act ini (n + 1) m s = some r := by
  intro n
  induction n with
  | zero => intro m s r h; cases h
  | succ n ih =>
    intro m s r h
    rw [jm_evF] at h ⊢
    cases ha : act m s with
    | none => rw [ha] at h; cases h
    | some a =>
      rw [ha] at h
      rcases a with s' | r' | ⟨y, as, k⟩
      · exact ih _ _ _ h
      · exact h
      · dsimp only at h ⊢
        cases hc : jm_evF act ini n y (0, ini y as, [], k.2.2.2) with
        | none => rw [hc] at h; cases h
        | some vt =>
          obtain ⟨v, t⟩ := vt
          rw [hc] at h
          rw [ih _ _ _ hc]
          exact ih _ _ _ h
theorem jm_evF_le {n k m : Nat} {s : jm_N} {r : Option Value × jm_S} (hk : n ≤ k) (h : jm_evF act ini n m s = some r) : jm_evF act ini k m s = some r := by
  induction hk with
  | refl => exact h
  | step _ ih => exact jm_evF_mono act ini _ _ _ _ ih
def jm_R (m : Nat) (s : jm_N) (r : Option Value × jm_S) : Prop := ∃ n, jm_evF act ini n m s = some r
theorem jm_R_det {m : Nat} {s : jm_N} {r r' : Option Value × jm_S} (h : jm_R act ini m s r) (h' : jm_R act ini m s r') : r = r' := by
  obtain ⟨n, h⟩ := h
  obtain ⟨k, h'⟩ := h'
  have e1 := jm_evF_le act ini (Nat.le_max_left n k) h
  have e2 := jm_evF_le act ini (Nat.le_max_right n k) h'
  exact Option.some.inj (e1.symm.trans e2)
noncomputable def jm_ev0 (m : Nat) (s : jm_N) : Option (Option Value × jm_S) := match Classical.propDecidable (∃ r, jm_R act ini m s r) with
  | isTrue h => some (Classical.choose h)
  | isFalse _ => none
theorem jm_ev0_iff {m : Nat} {s : jm_N} {r : Option Value × jm_S} : jm_ev0 act ini m s = some r ↔ jm_R act ini m s r := by
  unfold jm_ev0
  split
  · next h _ =>
    constructor
    · intro e; cases e; exact Classical.choose_spec h
    · intro e; rw [jm_R_det act ini (Classical.choose_spec h) e]
  · next h _ =>
    constructor
    · intro e; cases e
    · intro e; exact absurd ⟨r, e⟩ h
def jm_k (F : Nat → jm_N → Option (Option Value × jm_S)) (m : Nat) (a : Option jm_A) : Option (Option Value × jm_S) := match a with
  | none => none
  | some (.inl s') => F m s'
  | some (.inr (.inl r)) => some r
  | some (.inr (.inr (y, as, k))) => match F y (0, ini y as, [], k.2.2.2) with
    | none => none
    | some (v, τ) => F m (k.1, k.2.1, v.toList ++ k.2.2.1, τ)
theorem jm_ev0_eq (m : Nat) (s : jm_N) : jm_ev0 act ini m s = jm_k ini (jm_ev0 act ini) m (act m s) := by
  apply Option.ext
  intro r
  rw [jm_ev0_iff]
  constructor
  · rintro ⟨n, h⟩
    cases n with
    | zero => cases h
    | succ n =>
      rw [jm_evF] at h
      cases ha : act m s with
      | none => rw [ha] at h; cases h
      | some a =>
        rw [ha] at h
        rcases a with s' | r' | ⟨y, as, k⟩
        · exact (jm_ev0_iff act ini).mpr ⟨n, h⟩
        · exact h
        · dsimp only at h
          dsimp only [jm_k]
          cases hc : jm_evF act ini n y (0, ini y as, [], k.2.2.2) with
          | none => rw [hc] at h; cases h
          | some vt =>
            obtain ⟨v, t⟩ := vt
            rw [hc] at h
            rw [(jm_ev0_iff act ini).mpr ⟨n, hc⟩]
            exact (jm_ev0_iff act ini).mpr ⟨n, h⟩
  · intro h
    cases ha : act m s with
    | none => rw [ha] at h; cases h
    | some a =>
      rw [ha] at h
      rcases a with s' | r' | ⟨y, as, k⟩
      · obtain ⟨n, h1⟩ := (jm_ev0_iff act ini).mp h
        exact ⟨n + 1, by rw [jm_evF, ha]; exact h1⟩
      · exact ⟨1, by rw [jm_evF, ha]; exact h⟩
      · dsimp only [jm_k] at h
        cases hc : jm_ev0 act ini y (0, ini y as, [], k.2.2.2) with
        | none => rw [hc] at h; cases h
        | some vt =>
          obtain ⟨v, t⟩ := vt
          rw [hc] at h
          obtain ⟨n1, h1⟩ := (jm_ev0_iff act ini).mp hc
          obtain ⟨n2, h2⟩ := (jm_ev0_iff act ini).mp h
          refine ⟨max n1 n2 + 1, ?_⟩
          rw [jm_evF, ha]
          dsimp only
          rw [jm_evF_le act ini (Nat.le_max_left n1 n2) h1]
          exact jm_evF_le act ini (Nat.le_max_right n1 n2) h2
end
