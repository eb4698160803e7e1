set_option maxRecDepth 20000 in
set_option maxHeartbeats 4000000 in
theorem P_grain_in (x1 : Int32) (x2 : Int32) (x3 : Int32) (x4 : Int32) (x5 : Int32) (σ : jm_S) : jc 0 [(.ref 0), (.int x1), (.int x2), (.int x3), (.int x4), (.int x5)] σ = jbi (jc 1 [(.int x1), (.int (0 : Int32)), (.int (3 : Int32))] σ) (fun r1 τ1 => (if ¬ r1 = 0 then some (some (.int (-2 : Int32)), τ1) else jbi (jc 2 [(.int x2), (.int x3), (.int x4), (.int x5)] τ1) (fun r2 τ2 => (if ¬ r2 = 0 then jbi (jc 4 [(.ref 1)] τ2) (fun r3 τ3 => (if r3 = 0 then jbi (jc 5 [(.ref 1), (.int x1), (.int x2), (.int x3), (.int x4), (.int x5)] τ3) (fun r4 τ4 => some (some (.int r4), τ4)) else some (some (.int (-4 : Int32)), τ3))) else some (some (.int (-2 : Int32)), τ2))))) := by
  refine (jc_of (ls1 := [some (.ref 0), some (.int x1), some (.int x2), some (.int x3), some (.int x4), some (.int x5)]) ((jm_ini_of jM0).trans rfl)).trans ?_
  refine (sv_iload_n jM0 c0_0 rfl rfl).trans ?_
  refine (sv_iconst jM0 c0_1 rfl (v := 0) (by decide +kernel)).trans ?_
  refine (sv_iconst jM0 c0_2 rfl (v := 3) (by decide +kernel)).trans ?_
  refine (sv_callsi (pl := 0) jM0 c0_3 rfl (jm_call_s (as := [(.int x1), (.int (0 : Int32)), (.int (3 : Int32))]) (rest := []) lm_8_86 rfl jM1 rfl rfl rfl rfl) jM1 rfl (Or.inr rfl)).trans ?_
  refine jbi_c (fun r1 τ1 => ?_)
  refine (sv_if_ne jM0 c0_6 rfl (t := 21) (by decide +kernel)).trans ?_
  refine jif _ ?_ ?_
  ·
    refine (sv_bipush jM0 c0_21 rfl (v := -2) (by decide +kernel)).trans ?_
    exact sv_iret jM0 c0_23 rfl rfl
  ·
    refine (sv_iload_n jM0 c0_9 rfl rfl).trans ?_
    refine (sv_iload_n jM0 c0_10 rfl rfl).trans ?_
    refine (sv_iload jM0 c0_11 rfl rfl).trans ?_
    refine (sv_iload jM0 c0_13 rfl rfl).trans ?_
    refine (sv_callsi (pl := 0) jM0 c0_15 rfl (jm_call_s (as := [(.int x2), (.int x3), (.int x4), (.int x5)]) (rest := []) lm_8_90 rfl jM2 rfl rfl rfl rfl) jM2 rfl (Or.inr rfl)).trans ?_
    refine jbi_c (fun r2 τ2 => ?_)
    refine (sv_if_ne jM0 c0_18 rfl (t := 24) (by decide +kernel)).trans ?_
    refine jif _ ?_ ?_
    ·
      refine (sv_aload_n jM0 c0_24 rfl rfl).trans ?_
      refine (sv_getf jM0 c0_25 rfl lf_8_10 (fg_0_0 _)).trans ?_
      refine (sv_callvi (pl := 0) jM0 c0_28 rfl (jm_call_v (a := 1) (as := []) (rest := []) lm_8_94 rfl jM4 rfl rfl rfl rfl rfl) jM4 rfl (Or.inr rfl)).trans ?_
      refine jbi_c (fun r3 τ3 => ?_)
      refine (sv_if_eq jM0 c0_31 rfl (t := 37) (by decide +kernel)).trans ?_
      refine jif _ ?_ ?_
      ·
        refine (sv_aload_n jM0 c0_37 rfl rfl).trans ?_
        refine (sv_getf jM0 c0_38 rfl lf_8_10 (fg_0_0 _)).trans ?_
        refine (sv_iload_n jM0 c0_41 rfl rfl).trans ?_
        refine (sv_iload_n jM0 c0_42 rfl rfl).trans ?_
        refine (sv_iload_n jM0 c0_43 rfl rfl).trans ?_
        refine (sv_iload jM0 c0_44 rfl rfl).trans ?_
        refine (sv_iload jM0 c0_46 rfl rfl).trans ?_
        refine (sv_callvi (pl := 0) jM0 c0_48 rfl (jm_call_v (a := 1) (as := [(.int x1), (.int x2), (.int x3), (.int x4), (.int x5)]) (rest := []) lm_8_98 rfl jM5 rfl rfl rfl rfl rfl) jM5 rfl (Or.inl rfl)).trans ?_
        refine jbi_c (fun r4 τ4 => ?_)
        exact sv_iret jM0 c0_51 rfl rfl
      ·
        refine (sv_bipush jM0 c0_34 rfl (v := -4) (by decide +kernel)).trans ?_
        exact sv_iret jM0 c0_36 rfl rfl
    ·
      refine (sv_bipush jM0 c0_21 rfl (v := -2) (by decide +kernel)).trans ?_
      exact sv_iret jM0 c0_23 rfl rfl
set_option maxRecDepth 20000 in
set_option maxHeartbeats 4000000 in
theorem P_read_in (x1 : Int32) (x2 : Int32) (σ : jm_S) : jc 7 [(.ref 0), (.int x1), (.int x2)] σ = jbi (jc 1 [(.int x1), (.int (0 : Int32)), (.int (3 : Int32))] σ) (fun r1 τ1 => (if ¬ r1 = 0 then some (some (.int (-2 : Int32)), τ1) else jbi (jc 1 [(.int x2), (.int (0 : Int32)), (.int (3 : Int32))] τ1) (fun r2 τ2 => (if r2 = 0 then jaa x1 [53, 55, 57, 59] (fun q => jv 7 27 [some (.ref 0), some (.int x1), some (.int x2), none, none, none, none] [(.ref q)] τ2) else some (some (.int (-2 : Int32)), τ2))))) := by
  refine (jc_of (ls1 := [some (.ref 0), some (.int x1), some (.int x2), none, none, none, none]) ((jm_ini_of jM7).trans rfl)).trans ?_
  refine (sv_iload_n jM7 c7_0 rfl rfl).trans ?_
  refine (sv_iconst jM7 c7_1 rfl (v := 0) (by decide +kernel)).trans ?_
  refine (sv_iconst jM7 c7_2 rfl (v := 3) (by decide +kernel)).trans ?_
  refine (sv_callsi (pl := 0) jM7 c7_3 rfl (jm_call_s (as := [(.int x1), (.int (0 : Int32)), (.int (3 : Int32))]) (rest := []) lm_8_86 rfl jM1 rfl rfl rfl rfl) jM1 rfl (Or.inr rfl)).trans ?_
  refine jbi_c (fun r1 τ1 => ?_)
  refine (sv_if_ne jM7 c7_6 rfl (t := 18) (by decide +kernel)).trans ?_
  refine jif _ ?_ ?_
  ·
    refine (sv_bipush jM7 c7_18 rfl (v := -2) (by decide +kernel)).trans ?_
    exact sv_iret jM7 c7_20 rfl rfl
  ·
    refine (sv_iload_n jM7 c7_9 rfl rfl).trans ?_
    refine (sv_iconst jM7 c7_10 rfl (v := 0) (by decide +kernel)).trans ?_
    refine (sv_iconst jM7 c7_11 rfl (v := 3) (by decide +kernel)).trans ?_
    refine (sv_callsi (pl := 0) jM7 c7_12 rfl (jm_call_s (as := [(.int x2), (.int (0 : Int32)), (.int (3 : Int32))]) (rest := []) lm_8_86 rfl jM1 rfl rfl rfl rfl) jM1 rfl (Or.inr rfl)).trans ?_
    refine jbi_c (fun r2 τ2 => ?_)
    refine (sv_if_eq jM7 c7_15 rfl (t := 21) (by decide +kernel)).trans ?_
    refine jif _ ?_ ?_
    ·
      refine (sv_aload_n jM7 c7_21 rfl rfl).trans ?_
      refine (sv_getf jM7 c7_22 rfl lf_8_73 (fg_0_9 _)).trans ?_
      refine (sv_iload_n jM7 c7_25 rfl rfl).trans ?_
      refine (sv_aald jM7 c7_26 rfl wr_41).trans ?_
      rfl
    ·
      refine (sv_bipush jM7 c7_18 rfl (v := -2) (by decide +kernel)).trans ?_
      exact sv_iret jM7 c7_20 rfl rfl
set_option maxRecDepth 20000 in
set_option maxHeartbeats 4000000 in
theorem P_read_A27_53 (x1 : Int32) (x2 : Int32) (σ : jm_S) : jv 7 27 [some (.ref 0), some (.int x1), some (.int x2), none, none, none, none] [(.ref 53)] σ = jbi (jc 8 [(.ref 53)] σ) (fun r1 τ1 => (if r1 = 0 then jv 7 47 [some (.ref 0), some (.int x1), some (.int x2), some (.ref 53), some (.int (0 : Int32)), some (.int (0 : Int32)), none] [] τ1 else jbi (jc 9 [(.ref 0), (.int (1 : Int32))] τ1) (fun r2 τ2 => some (some (.int r2), τ2)))) := by
  refine (sv_astore_n (ls1 := [some (.ref 0), some (.int x1), some (.int x2), some (.ref 53), none, none, none]) jM7 c7_27 rfl (Nat.lt_of_lt_of_eq (by decide +kernel : 3 < 7) rfl) rfl).trans ?_
  refine (sv_aload_n jM7 c7_28 rfl rfl).trans ?_
  refine (sv_callvi (pl := 0) jM7 c7_29 rfl (jm_call_v (a := 53) (as := []) (rest := []) lm_8_102 rfl jM8 rfl rfl rfl rfl rfl) jM8 rfl (Or.inr rfl)).trans ?_
  refine jbi_c (fun r1 τ1 => ?_)
  refine (sv_if_eq jM7 c7_32 rfl (t := 41) (by decide +kernel)).trans ?_
  refine jif _ ?_ ?_
  ·
    refine (sv_iconst jM7 c7_41 rfl (v := 0) (by decide +kernel)).trans ?_
    refine (sv_istore (ls1 := [some (.ref 0), some (.int x1), some (.int x2), some (.ref 53), some (.int (0 : Int32)), none, none]) jM7 c7_42 rfl (Nat.lt_of_lt_of_eq (by decide +kernel : 4 < 7) rfl) rfl).trans ?_
    refine (sv_iconst jM7 c7_44 rfl (v := 0) (by decide +kernel)).trans ?_
    refine (sv_istore (ls1 := [some (.ref 0), some (.int x1), some (.int x2), some (.ref 53), some (.int (0 : Int32)), some (.int (0 : Int32)), none]) jM7 c7_45 rfl (Nat.lt_of_lt_of_eq (by decide +kernel : 5 < 7) rfl) rfl).trans ?_
    rfl
  ·
    refine (sv_aload_n jM7 c7_35 rfl rfl).trans ?_
    refine (sv_iconst jM7 c7_36 rfl (v := 1) (by decide +kernel)).trans ?_
    refine (sv_callvi (pl := 0) jM7 c7_37 rfl (jm_call_v (a := 0) (as := [(.int (1 : Int32))]) (rest := []) lm_8_105 rfl jM9 rfl rfl rfl rfl rfl) jM9 rfl (Or.inl rfl)).trans ?_
    refine jbi_c (fun r2 τ2 => ?_)
    exact sv_iret jM7 c7_40 rfl rfl
set_option maxRecDepth 20000 in
set_option maxHeartbeats 4000000 in
theorem P_read_A27_55 (x1 : Int32) (x2 : Int32) (σ : jm_S) : jv 7 27 [some (.ref 0), some (.int x1), some (.int x2), none, none, none, none] [(.ref 55)] σ = jbi (jc 8 [(.ref 55)] σ) (fun r1 τ1 => (if r1 = 0 then jv 7 47 [some (.ref 0), some (.int x1), some (.int x2), some (.ref 55), some (.int (0 : Int32)), some (.int (0 : Int32)), none] [] τ1 else jbi (jc 9 [(.ref 0), (.int (1 : Int32))] τ1) (fun r2 τ2 => some (some (.int r2), τ2)))) := by
  refine (sv_astore_n (ls1 := [some (.ref 0), some (.int x1), some (.int x2), some (.ref 55), none, none, none]) jM7 c7_27 rfl (Nat.lt_of_lt_of_eq (by decide +kernel : 3 < 7) rfl) rfl).trans ?_
  refine (sv_aload_n jM7 c7_28 rfl rfl).trans ?_
  refine (sv_callvi (pl := 0) jM7 c7_29 rfl (jm_call_v (a := 55) (as := []) (rest := []) lm_8_102 rfl jM8 rfl rfl rfl rfl rfl) jM8 rfl (Or.inr rfl)).trans ?_
  refine jbi_c (fun r1 τ1 => ?_)
  refine (sv_if_eq jM7 c7_32 rfl (t := 41) (by decide +kernel)).trans ?_
  refine jif _ ?_ ?_
  ·
    refine (sv_iconst jM7 c7_41 rfl (v := 0) (by decide +kernel)).trans ?_
    refine (sv_istore (ls1 := [some (.ref 0), some (.int x1), some (.int x2), some (.ref 55), some (.int (0 : Int32)), none, none]) jM7 c7_42 rfl (Nat.lt_of_lt_of_eq (by decide +kernel : 4 < 7) rfl) rfl).trans ?_
    refine (sv_iconst jM7 c7_44 rfl (v := 0) (by decide +kernel)).trans ?_
    refine (sv_istore (ls1 := [some (.ref 0), some (.int x1), some (.int x2), some (.ref 55), some (.int (0 : Int32)), some (.int (0 : Int32)), none]) jM7 c7_45 rfl (Nat.lt_of_lt_of_eq (by decide +kernel : 5 < 7) rfl) rfl).trans ?_
    rfl
  ·
    refine (sv_aload_n jM7 c7_35 rfl rfl).trans ?_
    refine (sv_iconst jM7 c7_36 rfl (v := 1) (by decide +kernel)).trans ?_
    refine (sv_callvi (pl := 0) jM7 c7_37 rfl (jm_call_v (a := 0) (as := [(.int (1 : Int32))]) (rest := []) lm_8_105 rfl jM9 rfl rfl rfl rfl rfl) jM9 rfl (Or.inl rfl)).trans ?_
    refine jbi_c (fun r2 τ2 => ?_)
    exact sv_iret jM7 c7_40 rfl rfl
set_option maxRecDepth 20000 in
set_option maxHeartbeats 4000000 in
theorem P_read_A27_57 (x1 : Int32) (x2 : Int32) (σ : jm_S) : jv 7 27 [some (.ref 0), some (.int x1), some (.int x2), none, none, none, none] [(.ref 57)] σ = jbi (jc 8 [(.ref 57)] σ) (fun r1 τ1 => (if r1 = 0 then jv 7 47 [some (.ref 0), some (.int x1), some (.int x2), some (.ref 57), some (.int (0 : Int32)), some (.int (0 : Int32)), none] [] τ1 else jbi (jc 9 [(.ref 0), (.int (1 : Int32))] τ1) (fun r2 τ2 => some (some (.int r2), τ2)))) := by
  refine (sv_astore_n (ls1 := [some (.ref 0), some (.int x1), some (.int x2), some (.ref 57), none, none, none]) jM7 c7_27 rfl (Nat.lt_of_lt_of_eq (by decide +kernel : 3 < 7) rfl) rfl).trans ?_
  refine (sv_aload_n jM7 c7_28 rfl rfl).trans ?_
  refine (sv_callvi (pl := 0) jM7 c7_29 rfl (jm_call_v (a := 57) (as := []) (rest := []) lm_8_102 rfl jM8 rfl rfl rfl rfl rfl) jM8 rfl (Or.inr rfl)).trans ?_
  refine jbi_c (fun r1 τ1 => ?_)
  refine (sv_if_eq jM7 c7_32 rfl (t := 41) (by decide +kernel)).trans ?_
  refine jif _ ?_ ?_
  ·
    refine (sv_iconst jM7 c7_41 rfl (v := 0) (by decide +kernel)).trans ?_
    refine (sv_istore (ls1 := [some (.ref 0), some (.int x1), some (.int x2), some (.ref 57), some (.int (0 : Int32)), none, none]) jM7 c7_42 rfl (Nat.lt_of_lt_of_eq (by decide +kernel : 4 < 7) rfl) rfl).trans ?_
    refine (sv_iconst jM7 c7_44 rfl (v := 0) (by decide +kernel)).trans ?_
    refine (sv_istore (ls1 := [some (.ref 0), some (.int x1), some (.int x2), some (.ref 57), some (.int (0 : Int32)), some (.int (0 : Int32)), none]) jM7 c7_45 rfl (Nat.lt_of_lt_of_eq (by decide +kernel : 5 < 7) rfl) rfl).trans ?_
    rfl
  ·
    refine (sv_aload_n jM7 c7_35 rfl rfl).trans ?_
    refine (sv_iconst jM7 c7_36 rfl (v := 1) (by decide +kernel)).trans ?_
    refine (sv_callvi (pl := 0) jM7 c7_37 rfl (jm_call_v (a := 0) (as := [(.int (1 : Int32))]) (rest := []) lm_8_105 rfl jM9 rfl rfl rfl rfl rfl) jM9 rfl (Or.inl rfl)).trans ?_
    refine jbi_c (fun r2 τ2 => ?_)
    exact sv_iret jM7 c7_40 rfl rfl
set_option maxRecDepth 20000 in
set_option maxHeartbeats 4000000 in
theorem P_read_A27_59 (x1 : Int32) (x2 : Int32) (σ : jm_S) : jv 7 27 [some (.ref 0), some (.int x1), some (.int x2), none, none, none, none] [(.ref 59)] σ = jbi (jc 8 [(.ref 59)] σ) (fun r1 τ1 => (if r1 = 0 then jv 7 47 [some (.ref 0), some (.int x1), some (.int x2), some (.ref 59), some (.int (0 : Int32)), some (.int (0 : Int32)), none] [] τ1 else jbi (jc 9 [(.ref 0), (.int (1 : Int32))] τ1) (fun r2 τ2 => some (some (.int r2), τ2)))) := by
  refine (sv_astore_n (ls1 := [some (.ref 0), some (.int x1), some (.int x2), some (.ref 59), none, none, none]) jM7 c7_27 rfl (Nat.lt_of_lt_of_eq (by decide +kernel : 3 < 7) rfl) rfl).trans ?_
  refine (sv_aload_n jM7 c7_28 rfl rfl).trans ?_
  refine (sv_callvi (pl := 0) jM7 c7_29 rfl (jm_call_v (a := 59) (as := []) (rest := []) lm_8_102 rfl jM8 rfl rfl rfl rfl rfl) jM8 rfl (Or.inr rfl)).trans ?_
  refine jbi_c (fun r1 τ1 => ?_)
  refine (sv_if_eq jM7 c7_32 rfl (t := 41) (by decide +kernel)).trans ?_
  refine jif _ ?_ ?_
  ·
    refine (sv_iconst jM7 c7_41 rfl (v := 0) (by decide +kernel)).trans ?_
    refine (sv_istore (ls1 := [some (.ref 0), some (.int x1), some (.int x2), some (.ref 59), some (.int (0 : Int32)), none, none]) jM7 c7_42 rfl (Nat.lt_of_lt_of_eq (by decide +kernel : 4 < 7) rfl) rfl).trans ?_
    refine (sv_iconst jM7 c7_44 rfl (v := 0) (by decide +kernel)).trans ?_
    refine (sv_istore (ls1 := [some (.ref 0), some (.int x1), some (.int x2), some (.ref 59), some (.int (0 : Int32)), some (.int (0 : Int32)), none]) jM7 c7_45 rfl (Nat.lt_of_lt_of_eq (by decide +kernel : 5 < 7) rfl) rfl).trans ?_
    rfl
  ·
    refine (sv_aload_n jM7 c7_35 rfl rfl).trans ?_
    refine (sv_iconst jM7 c7_36 rfl (v := 1) (by decide +kernel)).trans ?_
    refine (sv_callvi (pl := 0) jM7 c7_37 rfl (jm_call_v (a := 0) (as := [(.int (1 : Int32))]) (rest := []) lm_8_105 rfl jM9 rfl rfl rfl rfl rfl) jM9 rfl (Or.inl rfl)).trans ?_
    refine jbi_c (fun r2 τ2 => ?_)
    exact sv_iret jM7 c7_40 rfl rfl
set_option maxRecDepth 20000 in
set_option maxHeartbeats 4000000 in
theorem P_read_L47 (x1 : Int32) (x2 : Int32) (x4 : Int32) (x5 : Int32) (u6 : Option Value) (σ : jm_S) : jv 7 47 [some (.ref 0), some (.int x1), some (.int x2), some (.ref 53), some (.int x4), some (.int x5), u6] [] σ = (if (σ 53 2) < (x5 + (4 : Int32)) then some (some (.int x4), σ) else jbi (jc 4 [(.ref 1)] σ) (fun r1 τ1 => (if ¬ r1 = 0 then some (some (.int x4), τ1) else (if (x5 + (0 : Int32)) < 0 ∨ 60 ≤ (x5 + (0 : Int32)).toNatClampNeg then none else (if (x5 + (1 : Int32)) < 0 ∨ 60 ≤ (x5 + (1 : Int32)).toNatClampNeg then none else (if (x5 + (2 : Int32)) < 0 ∨ 60 ≤ (x5 + (2 : Int32)).toNatClampNeg then none else (if (x5 + (3 : Int32)) < 0 ∨ 60 ≤ (x5 + (3 : Int32)).toNatClampNeg then none else jbi (jc 2 [(.int (τ1 54 (x5 + (0 : Int32)).toNatClampNeg)), (.int (τ1 54 (x5 + (1 : Int32)).toNatClampNeg)), (.int (τ1 54 (x5 + (2 : Int32)).toNatClampNeg)), (.int (τ1 54 (x5 + (3 : Int32)).toNatClampNeg))] τ1) (fun r2 τ2 => (if ¬ r2 = 0 then (if (x5 + (0 : Int32)) < 0 ∨ 60 ≤ (x5 + (0 : Int32)).toNatClampNeg then none else (if (x5 + (1 : Int32)) < 0 ∨ 60 ≤ (x5 + (1 : Int32)).toNatClampNeg then none else (if (x5 + (2 : Int32)) < 0 ∨ 60 ≤ (x5 + (2 : Int32)).toNatClampNeg then none else (if (x5 + (3 : Int32)) < 0 ∨ 60 ≤ (x5 + (3 : Int32)).toNatClampNeg then none else jbi (jc 5 [(.ref 1), (.int x2), (.int (τ2 54 (x5 + (0 : Int32)).toNatClampNeg)), (.int (τ2 54 (x5 + (1 : Int32)).toNatClampNeg)), (.int (τ2 54 (x5 + (2 : Int32)).toNatClampNeg)), (.int (τ2 54 (x5 + (3 : Int32)).toNatClampNeg))] τ2) (fun r3 τ3 => jv 7 47 [some (.ref 0), some (.int x1), some (.int x2), some (.ref 53), some (.int (x4 + 1)), some (.int (x5 + 4)), some (.ref 54)] [] τ3))))) else some (some (.int x4), τ2)))))))))) := by
  refine (sv_iload jM7 c7_47 rfl rfl).trans ?_
  refine (sv_iconst jM7 c7_49 rfl (v := 4) (by decide +kernel)).trans ?_
  refine (sv_iadd jM7 c7_50 rfl).trans ?_
  refine (sv_aload_n jM7 c7_51 rfl rfl).trans ?_
  refine (sv_getf jM7 c7_52 rfl lf_8_109 (fg_53_2 _)).trans ?_
  refine (sv_icmp_gt jM7 c7_55 rfl (t := 157) (by decide +kernel)).trans ?_
  refine jif _ ?_ ?_
  ·
    refine (sv_iload jM7 c7_157 rfl rfl).trans ?_
    exact sv_iret jM7 c7_159 rfl rfl
  ·
    refine (sv_aload_n jM7 c7_58 rfl rfl).trans ?_
    refine (sv_getf jM7 c7_59 rfl lf_8_10 (fg_0_0 _)).trans ?_
    refine (sv_callvi (pl := 0) jM7 c7_62 rfl (jm_call_v (a := 1) (as := []) (rest := []) lm_8_94 rfl jM4 rfl rfl rfl rfl rfl) jM4 rfl (Or.inr rfl)).trans ?_
    refine jbi_c (fun r1 τ1 => ?_)
    refine (sv_if_ne jM7 c7_65 rfl (t := 157) (by decide +kernel)).trans ?_
    refine jif _ ?_ ?_
    ·
      refine (sv_iload jM7 c7_157 rfl rfl).trans ?_
      exact sv_iret jM7 c7_159 rfl rfl
    ·
      refine (sv_aload_n jM7 c7_68 rfl rfl).trans ?_
      refine (sv_getf jM7 c7_69 rfl lf_8_112 (fg_53_0 _)).trans ?_
      refine (sv_astore (ls1 := [some (.ref 0), some (.int x1), some (.int x2), some (.ref 53), some (.int x4), some (.int x5), some (.ref 54)]) jM7 c7_72 rfl (Nat.lt_of_lt_of_eq (by decide +kernel : 6 < 7) rfl) rfl).trans ?_
      refine (sv_aload jM7 c7_74 rfl rfl).trans ?_
      refine (sv_iload jM7 c7_76 rfl rfl).trans ?_
      refine (sv_iconst jM7 c7_78 rfl (v := 0) (by decide +kernel)).trans ?_
      refine (sv_iadd jM7 c7_79 rfl).trans ?_
      refine (sv_iald jM7 c7_80 rfl (ia_54 _)).trans ?_
      refine jif _ rfl ?_
      refine (sv_aload jM7 c7_81 rfl rfl).trans ?_
      refine (sv_iload jM7 c7_83 rfl rfl).trans ?_
      refine (sv_iconst jM7 c7_85 rfl (v := 1) (by decide +kernel)).trans ?_
      refine (sv_iadd jM7 c7_86 rfl).trans ?_
      refine (sv_iald jM7 c7_87 rfl (ia_54 _)).trans ?_
      refine jif _ rfl ?_
      refine (sv_aload jM7 c7_88 rfl rfl).trans ?_
      refine (sv_iload jM7 c7_90 rfl rfl).trans ?_
      refine (sv_iconst jM7 c7_92 rfl (v := 2) (by decide +kernel)).trans ?_
      refine (sv_iadd jM7 c7_93 rfl).trans ?_
      refine (sv_iald jM7 c7_94 rfl (ia_54 _)).trans ?_
      refine jif _ rfl ?_
      refine (sv_aload jM7 c7_95 rfl rfl).trans ?_
      refine (sv_iload jM7 c7_97 rfl rfl).trans ?_
      refine (sv_iconst jM7 c7_99 rfl (v := 3) (by decide +kernel)).trans ?_
      refine (sv_iadd jM7 c7_100 rfl).trans ?_
      refine (sv_iald jM7 c7_101 rfl (ia_54 _)).trans ?_
      refine jif _ rfl ?_
      refine (sv_callsi (pl := 0) jM7 c7_102 rfl (jm_call_s (as := [(.int (τ1 54 (x5 + (0 : Int32)).toNatClampNeg)), (.int (τ1 54 (x5 + (1 : Int32)).toNatClampNeg)), (.int (τ1 54 (x5 + (2 : Int32)).toNatClampNeg)), (.int (τ1 54 (x5 + (3 : Int32)).toNatClampNeg))]) (rest := []) lm_8_90 rfl jM2 rfl rfl rfl rfl) jM2 rfl (Or.inr rfl)).trans ?_
      refine jbi_c (fun r2 τ2 => ?_)
      refine (sv_if_ne jM7 c7_105 rfl (t := 111) (by decide +kernel)).trans ?_
      refine jif _ ?_ ?_
      ·
        refine (sv_aload_n jM7 c7_111 rfl rfl).trans ?_
        refine (sv_getf jM7 c7_112 rfl lf_8_10 (fg_0_0 _)).trans ?_
        refine (sv_iload_n jM7 c7_115 rfl rfl).trans ?_
        refine (sv_aload jM7 c7_116 rfl rfl).trans ?_
        refine (sv_iload jM7 c7_118 rfl rfl).trans ?_
        refine (sv_iconst jM7 c7_120 rfl (v := 0) (by decide +kernel)).trans ?_
        refine (sv_iadd jM7 c7_121 rfl).trans ?_
        refine (sv_iald jM7 c7_122 rfl (ia_54 _)).trans ?_
        refine jif _ rfl ?_
        refine (sv_aload jM7 c7_123 rfl rfl).trans ?_
        refine (sv_iload jM7 c7_125 rfl rfl).trans ?_
        refine (sv_iconst jM7 c7_127 rfl (v := 1) (by decide +kernel)).trans ?_
        refine (sv_iadd jM7 c7_128 rfl).trans ?_
        refine (sv_iald jM7 c7_129 rfl (ia_54 _)).trans ?_
        refine jif _ rfl ?_
        refine (sv_aload jM7 c7_130 rfl rfl).trans ?_
        refine (sv_iload jM7 c7_132 rfl rfl).trans ?_
        refine (sv_iconst jM7 c7_134 rfl (v := 2) (by decide +kernel)).trans ?_
        refine (sv_iadd jM7 c7_135 rfl).trans ?_
        refine (sv_iald jM7 c7_136 rfl (ia_54 _)).trans ?_
        refine jif _ rfl ?_
        refine (sv_aload jM7 c7_137 rfl rfl).trans ?_
        refine (sv_iload jM7 c7_139 rfl rfl).trans ?_
        refine (sv_iconst jM7 c7_141 rfl (v := 3) (by decide +kernel)).trans ?_
        refine (sv_iadd jM7 c7_142 rfl).trans ?_
        refine (sv_iald jM7 c7_143 rfl (ia_54 _)).trans ?_
        refine jif _ rfl ?_
        refine (sv_callvi (pl := 0) jM7 c7_144 rfl (jm_call_v (a := 1) (as := [(.int x2), (.int (τ2 54 (x5 + (0 : Int32)).toNatClampNeg)), (.int (τ2 54 (x5 + (1 : Int32)).toNatClampNeg)), (.int (τ2 54 (x5 + (2 : Int32)).toNatClampNeg)), (.int (τ2 54 (x5 + (3 : Int32)).toNatClampNeg))]) (rest := []) lm_8_98 rfl jM5 rfl rfl rfl rfl rfl) jM5 rfl (Or.inl rfl)).trans ?_
        refine jbi_c (fun r3 τ3 => ?_)
        refine (sv_pop jM7 c7_147 rfl rfl).trans ?_
        refine (sv_iinc (ls1 := [some (.ref 0), some (.int x1), some (.int x2), some (.ref 53), some (.int (x4 + 1)), some (.int x5), some (.ref 54)]) jM7 c7_148 rfl rfl (v := 1) (by decide +kernel) rfl).trans ?_
        refine (sv_iinc (ls1 := [some (.ref 0), some (.int x1), some (.int x2), some (.ref 53), some (.int (x4 + 1)), some (.int (x5 + 4)), some (.ref 54)]) jM7 c7_151 rfl rfl (v := 4) (by decide +kernel) rfl).trans ?_
        refine (sv_goto jM7 c7_154 rfl (t := 47) (by decide +kernel)).trans ?_
        rfl
      ·
        refine (sv_iload jM7 c7_108 rfl rfl).trans ?_
        exact sv_iret jM7 c7_110 rfl rfl
set_option maxRecDepth 20000 in
set_option maxHeartbeats 4000000 in
theorem P_read_L47_v2 (x1 : Int32) (x2 : Int32) (x4 : Int32) (x5 : Int32) (u6 : Option Value) (σ : jm_S) : jv 7 47 [some (.ref 0), some (.int x1), some (.int x2), some (.ref 55), some (.int x4), some (.int x5), u6] [] σ = (if (σ 55 2) < (x5 + (4 : Int32)) then some (some (.int x4), σ) else jbi (jc 4 [(.ref 1)] σ) (fun r1 τ1 => (if ¬ r1 = 0 then some (some (.int x4), τ1) else (if (x5 + (0 : Int32)) < 0 ∨ 60 ≤ (x5 + (0 : Int32)).toNatClampNeg then none else (if (x5 + (1 : Int32)) < 0 ∨ 60 ≤ (x5 + (1 : Int32)).toNatClampNeg then none else (if (x5 + (2 : Int32)) < 0 ∨ 60 ≤ (x5 + (2 : Int32)).toNatClampNeg then none else (if (x5 + (3 : Int32)) < 0 ∨ 60 ≤ (x5 + (3 : Int32)).toNatClampNeg then none else jbi (jc 2 [(.int (τ1 56 (x5 + (0 : Int32)).toNatClampNeg)), (.int (τ1 56 (x5 + (1 : Int32)).toNatClampNeg)), (.int (τ1 56 (x5 + (2 : Int32)).toNatClampNeg)), (.int (τ1 56 (x5 + (3 : Int32)).toNatClampNeg))] τ1) (fun r2 τ2 => (if ¬ r2 = 0 then (if (x5 + (0 : Int32)) < 0 ∨ 60 ≤ (x5 + (0 : Int32)).toNatClampNeg then none else (if (x5 + (1 : Int32)) < 0 ∨ 60 ≤ (x5 + (1 : Int32)).toNatClampNeg then none else (if (x5 + (2 : Int32)) < 0 ∨ 60 ≤ (x5 + (2 : Int32)).toNatClampNeg then none else (if (x5 + (3 : Int32)) < 0 ∨ 60 ≤ (x5 + (3 : Int32)).toNatClampNeg then none else jbi (jc 5 [(.ref 1), (.int x2), (.int (τ2 56 (x5 + (0 : Int32)).toNatClampNeg)), (.int (τ2 56 (x5 + (1 : Int32)).toNatClampNeg)), (.int (τ2 56 (x5 + (2 : Int32)).toNatClampNeg)), (.int (τ2 56 (x5 + (3 : Int32)).toNatClampNeg))] τ2) (fun r3 τ3 => jv 7 47 [some (.ref 0), some (.int x1), some (.int x2), some (.ref 55), some (.int (x4 + 1)), some (.int (x5 + 4)), some (.ref 56)] [] τ3))))) else some (some (.int x4), τ2)))))))))) := by
  refine (sv_iload jM7 c7_47 rfl rfl).trans ?_
  refine (sv_iconst jM7 c7_49 rfl (v := 4) (by decide +kernel)).trans ?_
  refine (sv_iadd jM7 c7_50 rfl).trans ?_
  refine (sv_aload_n jM7 c7_51 rfl rfl).trans ?_
  refine (sv_getf jM7 c7_52 rfl lf_8_109 (fg_55_2 _)).trans ?_
  refine (sv_icmp_gt jM7 c7_55 rfl (t := 157) (by decide +kernel)).trans ?_
  refine jif _ ?_ ?_
  ·
    refine (sv_iload jM7 c7_157 rfl rfl).trans ?_
    exact sv_iret jM7 c7_159 rfl rfl
  ·
    refine (sv_aload_n jM7 c7_58 rfl rfl).trans ?_
    refine (sv_getf jM7 c7_59 rfl lf_8_10 (fg_0_0 _)).trans ?_
    refine (sv_callvi (pl := 0) jM7 c7_62 rfl (jm_call_v (a := 1) (as := []) (rest := []) lm_8_94 rfl jM4 rfl rfl rfl rfl rfl) jM4 rfl (Or.inr rfl)).trans ?_
    refine jbi_c (fun r1 τ1 => ?_)
    refine (sv_if_ne jM7 c7_65 rfl (t := 157) (by decide +kernel)).trans ?_
    refine jif _ ?_ ?_
    ·
      refine (sv_iload jM7 c7_157 rfl rfl).trans ?_
      exact sv_iret jM7 c7_159 rfl rfl
    ·
      refine (sv_aload_n jM7 c7_68 rfl rfl).trans ?_
      refine (sv_getf jM7 c7_69 rfl lf_8_112 (fg_55_0 _)).trans ?_
      refine (sv_astore (ls1 := [some (.ref 0), some (.int x1), some (.int x2), some (.ref 55), some (.int x4), some (.int x5), some (.ref 56)]) jM7 c7_72 rfl (Nat.lt_of_lt_of_eq (by decide +kernel : 6 < 7) rfl) rfl).trans ?_
      refine (sv_aload jM7 c7_74 rfl rfl).trans ?_
      refine (sv_iload jM7 c7_76 rfl rfl).trans ?_
      refine (sv_iconst jM7 c7_78 rfl (v := 0) (by decide +kernel)).trans ?_
      refine (sv_iadd jM7 c7_79 rfl).trans ?_
      refine (sv_iald jM7 c7_80 rfl (ia_56 _)).trans ?_
      refine jif _ rfl ?_
      refine (sv_aload jM7 c7_81 rfl rfl).trans ?_
      refine (sv_iload jM7 c7_83 rfl rfl).trans ?_
      refine (sv_iconst jM7 c7_85 rfl (v := 1) (by decide +kernel)).trans ?_
      refine (sv_iadd jM7 c7_86 rfl).trans ?_
      refine (sv_iald jM7 c7_87 rfl (ia_56 _)).trans ?_
      refine jif _ rfl ?_
      refine (sv_aload jM7 c7_88 rfl rfl).trans ?_
      refine (sv_iload jM7 c7_90 rfl rfl).trans ?_
      refine (sv_iconst jM7 c7_92 rfl (v := 2) (by decide +kernel)).trans ?_
      refine (sv_iadd jM7 c7_93 rfl).trans ?_
      refine (sv_iald jM7 c7_94 rfl (ia_56 _)).trans ?_
      refine jif _ rfl ?_
      refine (sv_aload jM7 c7_95 rfl rfl).trans ?_
      refine (sv_iload jM7 c7_97 rfl rfl).trans ?_
      refine (sv_iconst jM7 c7_99 rfl (v := 3) (by decide +kernel)).trans ?_
      refine (sv_iadd jM7 c7_100 rfl).trans ?_
      refine (sv_iald jM7 c7_101 rfl (ia_56 _)).trans ?_
      refine jif _ rfl ?_
      refine (sv_callsi (pl := 0) jM7 c7_102 rfl (jm_call_s (as := [(.int (τ1 56 (x5 + (0 : Int32)).toNatClampNeg)), (.int (τ1 56 (x5 + (1 : Int32)).toNatClampNeg)), (.int (τ1 56 (x5 + (2 : Int32)).toNatClampNeg)), (.int (τ1 56 (x5 + (3 : Int32)).toNatClampNeg))]) (rest := []) lm_8_90 rfl jM2 rfl rfl rfl rfl) jM2 rfl (Or.inr rfl)).trans ?_
      refine jbi_c (fun r2 τ2 => ?_)
      refine (sv_if_ne jM7 c7_105 rfl (t := 111) (by decide +kernel)).trans ?_
      refine jif _ ?_ ?_
      ·
        refine (sv_aload_n jM7 c7_111 rfl rfl).trans ?_
        refine (sv_getf jM7 c7_112 rfl lf_8_10 (fg_0_0 _)).trans ?_
        refine (sv_iload_n jM7 c7_115 rfl rfl).trans ?_
        refine (sv_aload jM7 c7_116 rfl rfl).trans ?_
        refine (sv_iload jM7 c7_118 rfl rfl).trans ?_
        refine (sv_iconst jM7 c7_120 rfl (v := 0) (by decide +kernel)).trans ?_
        refine (sv_iadd jM7 c7_121 rfl).trans ?_
        refine (sv_iald jM7 c7_122 rfl (ia_56 _)).trans ?_
        refine jif _ rfl ?_
        refine (sv_aload jM7 c7_123 rfl rfl).trans ?_
        refine (sv_iload jM7 c7_125 rfl rfl).trans ?_
        refine (sv_iconst jM7 c7_127 rfl (v := 1) (by decide +kernel)).trans ?_
        refine (sv_iadd jM7 c7_128 rfl).trans ?_
        refine (sv_iald jM7 c7_129 rfl (ia_56 _)).trans ?_
        refine jif _ rfl ?_
        refine (sv_aload jM7 c7_130 rfl rfl).trans ?_
        refine (sv_iload jM7 c7_132 rfl rfl).trans ?_
        refine (sv_iconst jM7 c7_134 rfl (v := 2) (by decide +kernel)).trans ?_
        refine (sv_iadd jM7 c7_135 rfl).trans ?_
        refine (sv_iald jM7 c7_136 rfl (ia_56 _)).trans ?_
        refine jif _ rfl ?_
        refine (sv_aload jM7 c7_137 rfl rfl).trans ?_
        refine (sv_iload jM7 c7_139 rfl rfl).trans ?_
        refine (sv_iconst jM7 c7_141 rfl (v := 3) (by decide +kernel)).trans ?_
        refine (sv_iadd jM7 c7_142 rfl).trans ?_
        refine (sv_iald jM7 c7_143 rfl (ia_56 _)).trans ?_
        refine jif _ rfl ?_
        refine (sv_callvi (pl := 0) jM7 c7_144 rfl (jm_call_v (a := 1) (as := [(.int x2), (.int (τ2 56 (x5 + (0 : Int32)).toNatClampNeg)), (.int (τ2 56 (x5 + (1 : Int32)).toNatClampNeg)), (.int (τ2 56 (x5 + (2 : Int32)).toNatClampNeg)), (.int (τ2 56 (x5 + (3 : Int32)).toNatClampNeg))]) (rest := []) lm_8_98 rfl jM5 rfl rfl rfl rfl rfl) jM5 rfl (Or.inl rfl)).trans ?_
        refine jbi_c (fun r3 τ3 => ?_)
        refine (sv_pop jM7 c7_147 rfl rfl).trans ?_
        refine (sv_iinc (ls1 := [some (.ref 0), some (.int x1), some (.int x2), some (.ref 55), some (.int (x4 + 1)), some (.int x5), some (.ref 56)]) jM7 c7_148 rfl rfl (v := 1) (by decide +kernel) rfl).trans ?_
        refine (sv_iinc (ls1 := [some (.ref 0), some (.int x1), some (.int x2), some (.ref 55), some (.int (x4 + 1)), some (.int (x5 + 4)), some (.ref 56)]) jM7 c7_151 rfl rfl (v := 4) (by decide +kernel) rfl).trans ?_
        refine (sv_goto jM7 c7_154 rfl (t := 47) (by decide +kernel)).trans ?_
        rfl
      ·
        refine (sv_iload jM7 c7_108 rfl rfl).trans ?_
        exact sv_iret jM7 c7_110 rfl rfl
set_option maxRecDepth 20000 in
set_option maxHeartbeats 4000000 in
theorem P_read_L47_v3 (x1 : Int32) (x2 : Int32) (x4 : Int32) (x5 : Int32) (u6 : Option Value) (σ : jm_S) : jv 7 47 [some (.ref 0), some (.int x1), some (.int x2), some (.ref 57), some (.int x4), some (.int x5), u6] [] σ = (if (σ 57 2) < (x5 + (4 : Int32)) then some (some (.int x4), σ) else jbi (jc 4 [(.ref 1)] σ) (fun r1 τ1 => (if ¬ r1 = 0 then some (some (.int x4), τ1) else (if (x5 + (0 : Int32)) < 0 ∨ 60 ≤ (x5 + (0 : Int32)).toNatClampNeg then none else (if (x5 + (1 : Int32)) < 0 ∨ 60 ≤ (x5 + (1 : Int32)).toNatClampNeg then none else (if (x5 + (2 : Int32)) < 0 ∨ 60 ≤ (x5 + (2 : Int32)).toNatClampNeg then none else (if (x5 + (3 : Int32)) < 0 ∨ 60 ≤ (x5 + (3 : Int32)).toNatClampNeg then none else jbi (jc 2 [(.int (τ1 58 (x5 + (0 : Int32)).toNatClampNeg)), (.int (τ1 58 (x5 + (1 : Int32)).toNatClampNeg)), (.int (τ1 58 (x5 + (2 : Int32)).toNatClampNeg)), (.int (τ1 58 (x5 + (3 : Int32)).toNatClampNeg))] τ1) (fun r2 τ2 => (if ¬ r2 = 0 then (if (x5 + (0 : Int32)) < 0 ∨ 60 ≤ (x5 + (0 : Int32)).toNatClampNeg then none else (if (x5 + (1 : Int32)) < 0 ∨ 60 ≤ (x5 + (1 : Int32)).toNatClampNeg then none else (if (x5 + (2 : Int32)) < 0 ∨ 60 ≤ (x5 + (2 : Int32)).toNatClampNeg then none else (if (x5 + (3 : Int32)) < 0 ∨ 60 ≤ (x5 + (3 : Int32)).toNatClampNeg then none else jbi (jc 5 [(.ref 1), (.int x2), (.int (τ2 58 (x5 + (0 : Int32)).toNatClampNeg)), (.int (τ2 58 (x5 + (1 : Int32)).toNatClampNeg)), (.int (τ2 58 (x5 + (2 : Int32)).toNatClampNeg)), (.int (τ2 58 (x5 + (3 : Int32)).toNatClampNeg))] τ2) (fun r3 τ3 => jv 7 47 [some (.ref 0), some (.int x1), some (.int x2), some (.ref 57), some (.int (x4 + 1)), some (.int (x5 + 4)), some (.ref 58)] [] τ3))))) else some (some (.int x4), τ2)))))))))) := by
  refine (sv_iload jM7 c7_47 rfl rfl).trans ?_
  refine (sv_iconst jM7 c7_49 rfl (v := 4) (by decide +kernel)).trans ?_
  refine (sv_iadd jM7 c7_50 rfl).trans ?_
  refine (sv_aload_n jM7 c7_51 rfl rfl).trans ?_
  refine (sv_getf jM7 c7_52 rfl lf_8_109 (fg_57_2 _)).trans ?_
  refine (sv_icmp_gt jM7 c7_55 rfl (t := 157) (by decide +kernel)).trans ?_
  refine jif _ ?_ ?_
  ·
    refine (sv_iload jM7 c7_157 rfl rfl).trans ?_
    exact sv_iret jM7 c7_159 rfl rfl
  ·
    refine (sv_aload_n jM7 c7_58 rfl rfl).trans ?_
    refine (sv_getf jM7 c7_59 rfl lf_8_10 (fg_0_0 _)).trans ?_
    refine (sv_callvi (pl := 0) jM7 c7_62 rfl (jm_call_v (a := 1) (as := []) (rest := []) lm_8_94 rfl jM4 rfl rfl rfl rfl rfl) jM4 rfl (Or.inr rfl)).trans ?_
    refine jbi_c (fun r1 τ1 => ?_)
    refine (sv_if_ne jM7 c7_65 rfl (t := 157) (by decide +kernel)).trans ?_
    refine jif _ ?_ ?_
    ·
      refine (sv_iload jM7 c7_157 rfl rfl).trans ?_
      exact sv_iret jM7 c7_159 rfl rfl
    ·
      refine (sv_aload_n jM7 c7_68 rfl rfl).trans ?_
      refine (sv_getf jM7 c7_69 rfl lf_8_112 (fg_57_0 _)).trans ?_
      refine (sv_astore (ls1 := [some (.ref 0), some (.int x1), some (.int x2), some (.ref 57), some (.int x4), some (.int x5), some (.ref 58)]) jM7 c7_72 rfl (Nat.lt_of_lt_of_eq (by decide +kernel : 6 < 7) rfl) rfl).trans ?_
      refine (sv_aload jM7 c7_74 rfl rfl).trans ?_
      refine (sv_iload jM7 c7_76 rfl rfl).trans ?_
      refine (sv_iconst jM7 c7_78 rfl (v := 0) (by decide +kernel)).trans ?_
      refine (sv_iadd jM7 c7_79 rfl).trans ?_
      refine (sv_iald jM7 c7_80 rfl (ia_58 _)).trans ?_
      refine jif _ rfl ?_
      refine (sv_aload jM7 c7_81 rfl rfl).trans ?_
      refine (sv_iload jM7 c7_83 rfl rfl).trans ?_
      refine (sv_iconst jM7 c7_85 rfl (v := 1) (by decide +kernel)).trans ?_
      refine (sv_iadd jM7 c7_86 rfl).trans ?_
      refine (sv_iald jM7 c7_87 rfl (ia_58 _)).trans ?_
      refine jif _ rfl ?_
      refine (sv_aload jM7 c7_88 rfl rfl).trans ?_
      refine (sv_iload jM7 c7_90 rfl rfl).trans ?_
      refine (sv_iconst jM7 c7_92 rfl (v := 2) (by decide +kernel)).trans ?_
      refine (sv_iadd jM7 c7_93 rfl).trans ?_
      refine (sv_iald jM7 c7_94 rfl (ia_58 _)).trans ?_
      refine jif _ rfl ?_
      refine (sv_aload jM7 c7_95 rfl rfl).trans ?_
      refine (sv_iload jM7 c7_97 rfl rfl).trans ?_
      refine (sv_iconst jM7 c7_99 rfl (v := 3) (by decide +kernel)).trans ?_
      refine (sv_iadd jM7 c7_100 rfl).trans ?_
      refine (sv_iald jM7 c7_101 rfl (ia_58 _)).trans ?_
      refine jif _ rfl ?_
      refine (sv_callsi (pl := 0) jM7 c7_102 rfl (jm_call_s (as := [(.int (τ1 58 (x5 + (0 : Int32)).toNatClampNeg)), (.int (τ1 58 (x5 + (1 : Int32)).toNatClampNeg)), (.int (τ1 58 (x5 + (2 : Int32)).toNatClampNeg)), (.int (τ1 58 (x5 + (3 : Int32)).toNatClampNeg))]) (rest := []) lm_8_90 rfl jM2 rfl rfl rfl rfl) jM2 rfl (Or.inr rfl)).trans ?_
      refine jbi_c (fun r2 τ2 => ?_)
      refine (sv_if_ne jM7 c7_105 rfl (t := 111) (by decide +kernel)).trans ?_
      refine jif _ ?_ ?_
      ·
        refine (sv_aload_n jM7 c7_111 rfl rfl).trans ?_
        refine (sv_getf jM7 c7_112 rfl lf_8_10 (fg_0_0 _)).trans ?_
        refine (sv_iload_n jM7 c7_115 rfl rfl).trans ?_
        refine (sv_aload jM7 c7_116 rfl rfl).trans ?_
        refine (sv_iload jM7 c7_118 rfl rfl).trans ?_
        refine (sv_iconst jM7 c7_120 rfl (v := 0) (by decide +kernel)).trans ?_
        refine (sv_iadd jM7 c7_121 rfl).trans ?_
        refine (sv_iald jM7 c7_122 rfl (ia_58 _)).trans ?_
        refine jif _ rfl ?_
        refine (sv_aload jM7 c7_123 rfl rfl).trans ?_
        refine (sv_iload jM7 c7_125 rfl rfl).trans ?_
        refine (sv_iconst jM7 c7_127 rfl (v := 1) (by decide +kernel)).trans ?_
        refine (sv_iadd jM7 c7_128 rfl).trans ?_
        refine (sv_iald jM7 c7_129 rfl (ia_58 _)).trans ?_
        refine jif _ rfl ?_
        refine (sv_aload jM7 c7_130 rfl rfl).trans ?_
        refine (sv_iload jM7 c7_132 rfl rfl).trans ?_
        refine (sv_iconst jM7 c7_134 rfl (v := 2) (by decide +kernel)).trans ?_
        refine (sv_iadd jM7 c7_135 rfl).trans ?_
        refine (sv_iald jM7 c7_136 rfl (ia_58 _)).trans ?_
        refine jif _ rfl ?_
        refine (sv_aload jM7 c7_137 rfl rfl).trans ?_
        refine (sv_iload jM7 c7_139 rfl rfl).trans ?_
        refine (sv_iconst jM7 c7_141 rfl (v := 3) (by decide +kernel)).trans ?_
        refine (sv_iadd jM7 c7_142 rfl).trans ?_
        refine (sv_iald jM7 c7_143 rfl (ia_58 _)).trans ?_
        refine jif _ rfl ?_
        refine (sv_callvi (pl := 0) jM7 c7_144 rfl (jm_call_v (a := 1) (as := [(.int x2), (.int (τ2 58 (x5 + (0 : Int32)).toNatClampNeg)), (.int (τ2 58 (x5 + (1 : Int32)).toNatClampNeg)), (.int (τ2 58 (x5 + (2 : Int32)).toNatClampNeg)), (.int (τ2 58 (x5 + (3 : Int32)).toNatClampNeg))]) (rest := []) lm_8_98 rfl jM5 rfl rfl rfl rfl rfl) jM5 rfl (Or.inl rfl)).trans ?_
        refine jbi_c (fun r3 τ3 => ?_)
        refine (sv_pop jM7 c7_147 rfl rfl).trans ?_
        refine (sv_iinc (ls1 := [some (.ref 0), some (.int x1), some (.int x2), some (.ref 57), some (.int (x4 + 1)), some (.int x5), some (.ref 58)]) jM7 c7_148 rfl rfl (v := 1) (by decide +kernel) rfl).trans ?_
        refine (sv_iinc (ls1 := [some (.ref 0), some (.int x1), some (.int x2), some (.ref 57), some (.int (x4 + 1)), some (.int (x5 + 4)), some (.ref 58)]) jM7 c7_151 rfl rfl (v := 4) (by decide +kernel) rfl).trans ?_
        refine (sv_goto jM7 c7_154 rfl (t := 47) (by decide +kernel)).trans ?_
        rfl
      ·
        refine (sv_iload jM7 c7_108 rfl rfl).trans ?_
        exact sv_iret jM7 c7_110 rfl rfl
set_option maxRecDepth 20000 in
set_option maxHeartbeats 4000000 in
theorem P_read_L47_v4 (x1 : Int32) (x2 : Int32) (x4 : Int32) (x5 : Int32) (u6 : Option Value) (σ : jm_S) : jv 7 47 [some (.ref 0), some (.int x1), some (.int x2), some (.ref 59), some (.int x4), some (.int x5), u6] [] σ = (if (σ 59 2) < (x5 + (4 : Int32)) then some (some (.int x4), σ) else jbi (jc 4 [(.ref 1)] σ) (fun r1 τ1 => (if ¬ r1 = 0 then some (some (.int x4), τ1) else (if (x5 + (0 : Int32)) < 0 ∨ 60 ≤ (x5 + (0 : Int32)).toNatClampNeg then none else (if (x5 + (1 : Int32)) < 0 ∨ 60 ≤ (x5 + (1 : Int32)).toNatClampNeg then none else (if (x5 + (2 : Int32)) < 0 ∨ 60 ≤ (x5 + (2 : Int32)).toNatClampNeg then none else (if (x5 + (3 : Int32)) < 0 ∨ 60 ≤ (x5 + (3 : Int32)).toNatClampNeg then none else jbi (jc 2 [(.int (τ1 60 (x5 + (0 : Int32)).toNatClampNeg)), (.int (τ1 60 (x5 + (1 : Int32)).toNatClampNeg)), (.int (τ1 60 (x5 + (2 : Int32)).toNatClampNeg)), (.int (τ1 60 (x5 + (3 : Int32)).toNatClampNeg))] τ1) (fun r2 τ2 => (if ¬ r2 = 0 then (if (x5 + (0 : Int32)) < 0 ∨ 60 ≤ (x5 + (0 : Int32)).toNatClampNeg then none else (if (x5 + (1 : Int32)) < 0 ∨ 60 ≤ (x5 + (1 : Int32)).toNatClampNeg then none else (if (x5 + (2 : Int32)) < 0 ∨ 60 ≤ (x5 + (2 : Int32)).toNatClampNeg then none else (if (x5 + (3 : Int32)) < 0 ∨ 60 ≤ (x5 + (3 : Int32)).toNatClampNeg then none else jbi (jc 5 [(.ref 1), (.int x2), (.int (τ2 60 (x5 + (0 : Int32)).toNatClampNeg)), (.int (τ2 60 (x5 + (1 : Int32)).toNatClampNeg)), (.int (τ2 60 (x5 + (2 : Int32)).toNatClampNeg)), (.int (τ2 60 (x5 + (3 : Int32)).toNatClampNeg))] τ2) (fun r3 τ3 => jv 7 47 [some (.ref 0), some (.int x1), some (.int x2), some (.ref 59), some (.int (x4 + 1)), some (.int (x5 + 4)), some (.ref 60)] [] τ3))))) else some (some (.int x4), τ2)))))))))) := by
  refine (sv_iload jM7 c7_47 rfl rfl).trans ?_
  refine (sv_iconst jM7 c7_49 rfl (v := 4) (by decide +kernel)).trans ?_
  refine (sv_iadd jM7 c7_50 rfl).trans ?_
  refine (sv_aload_n jM7 c7_51 rfl rfl).trans ?_
  refine (sv_getf jM7 c7_52 rfl lf_8_109 (fg_59_2 _)).trans ?_
  refine (sv_icmp_gt jM7 c7_55 rfl (t := 157) (by decide +kernel)).trans ?_
  refine jif _ ?_ ?_
  ·
    refine (sv_iload jM7 c7_157 rfl rfl).trans ?_
    exact sv_iret jM7 c7_159 rfl rfl
  ·
    refine (sv_aload_n jM7 c7_58 rfl rfl).trans ?_
    refine (sv_getf jM7 c7_59 rfl lf_8_10 (fg_0_0 _)).trans ?_
    refine (sv_callvi (pl := 0) jM7 c7_62 rfl (jm_call_v (a := 1) (as := []) (rest := []) lm_8_94 rfl jM4 rfl rfl rfl rfl rfl) jM4 rfl (Or.inr rfl)).trans ?_
    refine jbi_c (fun r1 τ1 => ?_)
    refine (sv_if_ne jM7 c7_65 rfl (t := 157) (by decide +kernel)).trans ?_
    refine jif _ ?_ ?_
    ·
      refine (sv_iload jM7 c7_157 rfl rfl).trans ?_
      exact sv_iret jM7 c7_159 rfl rfl
    ·
      refine (sv_aload_n jM7 c7_68 rfl rfl).trans ?_
      refine (sv_getf jM7 c7_69 rfl lf_8_112 (fg_59_0 _)).trans ?_
      refine (sv_astore (ls1 := [some (.ref 0), some (.int x1), some (.int x2), some (.ref 59), some (.int x4), some (.int x5), some (.ref 60)]) jM7 c7_72 rfl (Nat.lt_of_lt_of_eq (by decide +kernel : 6 < 7) rfl) rfl).trans ?_
      refine (sv_aload jM7 c7_74 rfl rfl).trans ?_
      refine (sv_iload jM7 c7_76 rfl rfl).trans ?_
      refine (sv_iconst jM7 c7_78 rfl (v := 0) (by decide +kernel)).trans ?_
      refine (sv_iadd jM7 c7_79 rfl).trans ?_
      refine (sv_iald jM7 c7_80 rfl (ia_60 _)).trans ?_
      refine jif _ rfl ?_
      refine (sv_aload jM7 c7_81 rfl rfl).trans ?_
      refine (sv_iload jM7 c7_83 rfl rfl).trans ?_
      refine (sv_iconst jM7 c7_85 rfl (v := 1) (by decide +kernel)).trans ?_
      refine (sv_iadd jM7 c7_86 rfl).trans ?_
      refine (sv_iald jM7 c7_87 rfl (ia_60 _)).trans ?_
      refine jif _ rfl ?_
      refine (sv_aload jM7 c7_88 rfl rfl).trans ?_
      refine (sv_iload jM7 c7_90 rfl rfl).trans ?_
      refine (sv_iconst jM7 c7_92 rfl (v := 2) (by decide +kernel)).trans ?_
      refine (sv_iadd jM7 c7_93 rfl).trans ?_
      refine (sv_iald jM7 c7_94 rfl (ia_60 _)).trans ?_
      refine jif _ rfl ?_
      refine (sv_aload jM7 c7_95 rfl rfl).trans ?_
      refine (sv_iload jM7 c7_97 rfl rfl).trans ?_
      refine (sv_iconst jM7 c7_99 rfl (v := 3) (by decide +kernel)).trans ?_
      refine (sv_iadd jM7 c7_100 rfl).trans ?_
      refine (sv_iald jM7 c7_101 rfl (ia_60 _)).trans ?_
      refine jif _ rfl ?_
      refine (sv_callsi (pl := 0) jM7 c7_102 rfl (jm_call_s (as := [(.int (τ1 60 (x5 + (0 : Int32)).toNatClampNeg)), (.int (τ1 60 (x5 + (1 : Int32)).toNatClampNeg)), (.int (τ1 60 (x5 + (2 : Int32)).toNatClampNeg)), (.int (τ1 60 (x5 + (3 : Int32)).toNatClampNeg))]) (rest := []) lm_8_90 rfl jM2 rfl rfl rfl rfl) jM2 rfl (Or.inr rfl)).trans ?_
      refine jbi_c (fun r2 τ2 => ?_)
      refine (sv_if_ne jM7 c7_105 rfl (t := 111) (by decide +kernel)).trans ?_
      refine jif _ ?_ ?_
      ·
        refine (sv_aload_n jM7 c7_111 rfl rfl).trans ?_
        refine (sv_getf jM7 c7_112 rfl lf_8_10 (fg_0_0 _)).trans ?_
        refine (sv_iload_n jM7 c7_115 rfl rfl).trans ?_
        refine (sv_aload jM7 c7_116 rfl rfl).trans ?_
        refine (sv_iload jM7 c7_118 rfl rfl).trans ?_
        refine (sv_iconst jM7 c7_120 rfl (v := 0) (by decide +kernel)).trans ?_
        refine (sv_iadd jM7 c7_121 rfl).trans ?_
        refine (sv_iald jM7 c7_122 rfl (ia_60 _)).trans ?_
        refine jif _ rfl ?_
        refine (sv_aload jM7 c7_123 rfl rfl).trans ?_
        refine (sv_iload jM7 c7_125 rfl rfl).trans ?_
        refine (sv_iconst jM7 c7_127 rfl (v := 1) (by decide +kernel)).trans ?_
        refine (sv_iadd jM7 c7_128 rfl).trans ?_
        refine (sv_iald jM7 c7_129 rfl (ia_60 _)).trans ?_
        refine jif _ rfl ?_
        refine (sv_aload jM7 c7_130 rfl rfl).trans ?_
        refine (sv_iload jM7 c7_132 rfl rfl).trans ?_
        refine (sv_iconst jM7 c7_134 rfl (v := 2) (by decide +kernel)).trans ?_
        refine (sv_iadd jM7 c7_135 rfl).trans ?_
        refine (sv_iald jM7 c7_136 rfl (ia_60 _)).trans ?_
        refine jif _ rfl ?_
        refine (sv_aload jM7 c7_137 rfl rfl).trans ?_
        refine (sv_iload jM7 c7_139 rfl rfl).trans ?_
        refine (sv_iconst jM7 c7_141 rfl (v := 3) (by decide +kernel)).trans ?_
        refine (sv_iadd jM7 c7_142 rfl).trans ?_
        refine (sv_iald jM7 c7_143 rfl (ia_60 _)).trans ?_
        refine jif _ rfl ?_
        refine (sv_callvi (pl := 0) jM7 c7_144 rfl (jm_call_v (a := 1) (as := [(.int x2), (.int (τ2 60 (x5 + (0 : Int32)).toNatClampNeg)), (.int (τ2 60 (x5 + (1 : Int32)).toNatClampNeg)), (.int (τ2 60 (x5 + (2 : Int32)).toNatClampNeg)), (.int (τ2 60 (x5 + (3 : Int32)).toNatClampNeg))]) (rest := []) lm_8_98 rfl jM5 rfl rfl rfl rfl rfl) jM5 rfl (Or.inl rfl)).trans ?_
        refine jbi_c (fun r3 τ3 => ?_)
        refine (sv_pop jM7 c7_147 rfl rfl).trans ?_
        refine (sv_iinc (ls1 := [some (.ref 0), some (.int x1), some (.int x2), some (.ref 59), some (.int (x4 + 1)), some (.int x5), some (.ref 60)]) jM7 c7_148 rfl rfl (v := 1) (by decide +kernel) rfl).trans ?_
        refine (sv_iinc (ls1 := [some (.ref 0), some (.int x1), some (.int x2), some (.ref 59), some (.int (x4 + 1)), some (.int (x5 + 4)), some (.ref 60)]) jM7 c7_151 rfl rfl (v := 4) (by decide +kernel) rfl).trans ?_
        refine (sv_goto jM7 c7_154 rfl (t := 47) (by decide +kernel)).trans ?_
        rfl
      ·
        refine (sv_iload jM7 c7_108 rfl rfl).trans ?_
        exact sv_iret jM7 c7_110 rfl rfl
set_option maxRecDepth 20000 in
set_option maxHeartbeats 4000000 in
theorem P_change_in (x1 : Int32) (x2 : Int32) (x3 : Int32) (σ : jm_S) : jc 10 [(.ref 0), (.int x1), (.int x2), (.int x3)] σ = jbi (jc 11 [(.ref 1), (.int x1)] σ) (fun r1 τ1 => (if r1 = 0 then some (some (.int (-2 : Int32)), τ1) else jbi (jc 1 [(.int x2), (.int (0 : Int32)), (.int (3 : Int32))] τ1) (fun r2 τ2 => (if ¬ r2 = 0 then some (some (.int (-2 : Int32)), τ2) else jbi (jc 3 [(.int x2), (.int x3)] τ2) (fun r3 τ3 => (if ¬ r3 = 0 then jbi (jc 12 [(.ref 1), (.int x1), (.int x2)] τ3) (fun r4 τ4 => jbv (jc 6 [(.ref 1), (.int x1), (.int x2), (.int x3)] τ4) (fun τ5 => some (some (.int r4), τ5))) else some (some (.int (-2 : Int32)), τ3))))))) := by
  refine (jc_of (ls1 := [some (.ref 0), some (.int x1), some (.int x2), some (.int x3), none]) ((jm_ini_of jM10).trans rfl)).trans ?_
  refine (sv_aload_n jM10 c10_0 rfl rfl).trans ?_
  refine (sv_getf jM10 c10_1 rfl lf_8_10 (fg_0_0 _)).trans ?_
  refine (sv_iload_n jM10 c10_4 rfl rfl).trans ?_
  refine (sv_callvi (pl := 0) jM10 c10_5 rfl (jm_call_v (a := 1) (as := [(.int x1)]) (rest := []) lm_8_115 rfl jM11 rfl rfl rfl rfl rfl) jM11 rfl (Or.inr rfl)).trans ?_
  refine jbi_c (fun r1 τ1 => ?_)
  refine (sv_if_eq jM10 c10_8 rfl (t := 28) (by decide +kernel)).trans ?_
  refine jif _ ?_ ?_
  ·
    refine (sv_bipush jM10 c10_28 rfl (v := -2) (by decide +kernel)).trans ?_
    exact sv_iret jM10 c10_30 rfl rfl
  ·
    refine (sv_iload_n jM10 c10_11 rfl rfl).trans ?_
    refine (sv_iconst jM10 c10_12 rfl (v := 0) (by decide +kernel)).trans ?_
    refine (sv_iconst jM10 c10_13 rfl (v := 3) (by decide +kernel)).trans ?_
    refine (sv_callsi (pl := 0) jM10 c10_14 rfl (jm_call_s (as := [(.int x2), (.int (0 : Int32)), (.int (3 : Int32))]) (rest := []) lm_8_86 rfl jM1 rfl rfl rfl rfl) jM1 rfl (Or.inr rfl)).trans ?_
    refine jbi_c (fun r2 τ2 => ?_)
    refine (sv_if_ne jM10 c10_17 rfl (t := 28) (by decide +kernel)).trans ?_
    refine jif _ ?_ ?_
    ·
      refine (sv_bipush jM10 c10_28 rfl (v := -2) (by decide +kernel)).trans ?_
      exact sv_iret jM10 c10_30 rfl rfl
    ·
      refine (sv_iload_n jM10 c10_20 rfl rfl).trans ?_
      refine (sv_iload_n jM10 c10_21 rfl rfl).trans ?_
      refine (sv_callsi (pl := 0) jM10 c10_22 rfl (jm_call_s (as := [(.int x2), (.int x3)]) (rest := []) lm_8_119 rfl jM3 rfl rfl rfl rfl) jM3 rfl (Or.inr rfl)).trans ?_
      refine jbi_c (fun r3 τ3 => ?_)
      refine (sv_if_ne jM10 c10_25 rfl (t := 31) (by decide +kernel)).trans ?_
      refine jif _ ?_ ?_
      ·
        refine (sv_aload_n jM10 c10_31 rfl rfl).trans ?_
        refine (sv_getf jM10 c10_32 rfl lf_8_10 (fg_0_0 _)).trans ?_
        refine (sv_iload_n jM10 c10_35 rfl rfl).trans ?_
        refine (sv_iload_n jM10 c10_36 rfl rfl).trans ?_
        refine (sv_callvi (pl := 0) jM10 c10_37 rfl (jm_call_v (a := 1) (as := [(.int x1), (.int x2)]) (rest := []) lm_8_123 rfl jM12 rfl rfl rfl rfl rfl) jM12 rfl (Or.inl rfl)).trans ?_
        refine jbi_c (fun r4 τ4 => ?_)
        refine (sv_istore (ls1 := [some (.ref 0), some (.int x1), some (.int x2), some (.int x3), some (.int r4)]) jM10 c10_40 rfl (Nat.lt_of_lt_of_eq (by decide +kernel : 4 < 5) rfl) rfl).trans ?_
        refine (sv_aload_n jM10 c10_42 rfl rfl).trans ?_
        refine (sv_getf jM10 c10_43 rfl lf_8_10 (fg_0_0 _)).trans ?_
        refine (sv_iload_n jM10 c10_46 rfl rfl).trans ?_
        refine (sv_iload_n jM10 c10_47 rfl rfl).trans ?_
        refine (sv_iload_n jM10 c10_48 rfl rfl).trans ?_
        refine (sv_callvv (pl := 0) jM10 c10_49 rfl (jm_call_v (a := 1) (as := [(.int x1), (.int x2), (.int x3)]) (rest := []) lm_8_127 rfl jM6 rfl rfl rfl rfl rfl) jM6 rfl rfl).trans ?_
        refine jbv_c (fun τ5 => ?_)
        refine (sv_iload jM10 c10_52 rfl rfl).trans ?_
        exact sv_iret jM10 c10_54 rfl rfl
      ·
        refine (sv_bipush jM10 c10_28 rfl (v := -2) (by decide +kernel)).trans ?_
        exact sv_iret jM10 c10_30 rfl rfl
set_option maxRecDepth 20000 in
set_option maxHeartbeats 4000000 in
theorem P_empty_in (σ : jm_S) : jc 13 [(.ref 0)] σ = some (some (.int (σ 1 2)), (jm_up (jm_up σ 1 2 (0 : Int32)) 38 2 (0 : Int32))) := by
  refine (jc_of (ls1 := [some (.ref 0), none]) ((jm_ini_of jM13).trans rfl)).trans ?_
  refine (sv_aload_n jM13 c13_0 rfl rfl).trans ?_
  refine (sv_getf jM13 c13_1 rfl lf_8_10 (fg_0_0 _)).trans ?_
  refine (sv_getf jM13 c13_4 rfl lf_8_131 (fg_1_2 _)).trans ?_
  refine (sv_istore_n (ls1 := [some (.ref 0), some (.int (σ 1 2))]) jM13 c13_7 rfl (Nat.lt_of_lt_of_eq (by decide +kernel : 1 < 2) rfl) rfl).trans ?_
  refine (sv_aload_n jM13 c13_8 rfl rfl).trans ?_
  refine (sv_getf jM13 c13_9 rfl lf_8_10 (fg_0_0 _)).trans ?_
  refine (sv_iconst jM13 c13_12 rfl (v := 0) (by decide +kernel)).trans ?_
  refine (sv_putf jM13 c13_13 rfl lf_8_131 (pf_1_2 _ _)).trans ?_
  refine (sv_aload_n jM13 c13_16 rfl rfl).trans ?_
  refine (sv_getf jM13 c13_17 rfl lf_8_67 (fg_0_8 _)).trans ?_
  refine (sv_iconst jM13 c13_20 rfl (v := 0) (by decide +kernel)).trans ?_
  refine (sv_putf jM13 c13_21 rfl lf_8_134 (pf_38_2 _ _)).trans ?_
  refine (sv_iload_n jM13 c13_24 rfl rfl).trans ?_
  exact sv_iret jM13 c13_25 rfl rfl
set_option maxRecDepth 20000 in
set_option maxHeartbeats 4000000 in
theorem P_set_in (x1 : Int32) (x2 : Int32) (σ : jm_S) : jc 14 [(.ref 0), (.int x1), (.int x2)] σ = jbi (jc 1 [(.int x1), (.int (0 : Int32)), (.int (5 : Int32))] σ) (fun r1 τ1 => (if ¬ r1 = 0 then some (some (.int (-2 : Int32)), τ1) else (if x1 < 0 ∨ 6 ≤ x1.toNatClampNeg then none else (if x1 < 0 ∨ 6 ≤ x1.toNatClampNeg then none else jbi (jc 1 [(.int x2), (.int (([0, 5, 1, 0, 0, 0] : List Int32).getD x1.toNatClampNeg 0)), (.int (([99, 15, 99, 99, 99, 99] : List Int32).getD x1.toNatClampNeg 0))] τ1) (fun r2 τ2 => (if r2 = 0 then (if x1 < 0 ∨ 6 ≤ x1.toNatClampNeg then none else (if x1 < 0 ∨ 6 ≤ x1.toNatClampNeg then none else some (some (.int (τ2 4 x1.toNatClampNeg)), (jm_up τ2 4 x1.toNatClampNeg x2)))) else some (some (.int (-2 : Int32)), τ2))))))) := by
  refine (jc_of (ls1 := [some (.ref 0), some (.int x1), some (.int x2), none]) ((jm_ini_of jM14).trans rfl)).trans ?_
  refine (sv_iload_n jM14 c14_0 rfl rfl).trans ?_
  refine (sv_iconst jM14 c14_1 rfl (v := 0) (by decide +kernel)).trans ?_
  refine (sv_iconst jM14 c14_2 rfl (v := 5) (by decide +kernel)).trans ?_
  refine (sv_callsi (pl := 0) jM14 c14_3 rfl (jm_call_s (as := [(.int x1), (.int (0 : Int32)), (.int (5 : Int32))]) (rest := []) lm_8_86 rfl jM1 rfl rfl rfl rfl) jM1 rfl (Or.inr rfl)).trans ?_
  refine jbi_c (fun r1 τ1 => ?_)
  refine (sv_if_ne jM14 c14_6 rfl (t := 26) (by decide +kernel)).trans ?_
  refine jif _ ?_ ?_
  ·
    refine (sv_bipush jM14 c14_26 rfl (v := -2) (by decide +kernel)).trans ?_
    exact sv_iret jM14 c14_28 rfl rfl
  ·
    refine (sv_iload_n jM14 c14_9 rfl rfl).trans ?_
    refine (sv_gets jM14 c14_10 rfl ls_8_135).trans ?_
    refine (sv_iload_n jM14 c14_13 rfl rfl).trans ?_
    refine (sv_iald jM14 c14_14 rfl (ia_1002 _)).trans ?_
    refine jif _ rfl ?_
    refine (sv_gets jM14 c14_15 rfl ls_8_138).trans ?_
    refine (sv_iload_n jM14 c14_18 rfl rfl).trans ?_
    refine (sv_iald jM14 c14_19 rfl (ia_1003 _)).trans ?_
    refine jif _ rfl ?_
    refine (sv_callsi (pl := 0) jM14 c14_20 rfl (jm_call_s (as := [(.int x2), (.int (([0, 5, 1, 0, 0, 0] : List Int32).getD x1.toNatClampNeg 0)), (.int (([99, 15, 99, 99, 99, 99] : List Int32).getD x1.toNatClampNeg 0))]) (rest := []) lm_8_86 rfl jM1 rfl rfl rfl rfl) jM1 rfl (Or.inr rfl)).trans ?_
    refine jbi_c (fun r2 τ2 => ?_)
    refine (sv_if_eq jM14 c14_23 rfl (t := 29) (by decide +kernel)).trans ?_
    refine jif _ ?_ ?_
    ·
      refine (sv_aload_n jM14 c14_29 rfl rfl).trans ?_
      refine (sv_getf jM14 c14_30 rfl lf_8_25 (fg_0_1 _)).trans ?_
      refine (sv_iload_n jM14 c14_33 rfl rfl).trans ?_
      refine (sv_iald jM14 c14_34 rfl (ia_4 _)).trans ?_
      refine jif _ rfl ?_
      refine (sv_istore_n (ls1 := [some (.ref 0), some (.int x1), some (.int x2), some (.int (τ2 4 x1.toNatClampNeg))]) jM14 c14_35 rfl (Nat.lt_of_lt_of_eq (by decide +kernel : 3 < 4) rfl) rfl).trans ?_
      refine (sv_aload_n jM14 c14_36 rfl rfl).trans ?_
      refine (sv_getf jM14 c14_37 rfl lf_8_25 (fg_0_1 _)).trans ?_
      refine (sv_iload_n jM14 c14_40 rfl rfl).trans ?_
      refine (sv_iload_n jM14 c14_41 rfl rfl).trans ?_
      refine (sv_iast jM14 c14_42 rfl wi_4).trans ?_
      refine jif _ rfl ?_
      refine (sv_iload_n jM14 c14_43 rfl rfl).trans ?_
      exact sv_iret jM14 c14_44 rfl rfl
    ·
      refine (sv_bipush jM14 c14_26 rfl (v := -2) (by decide +kernel)).trans ?_
      exact sv_iret jM14 c14_28 rfl rfl
set_option maxRecDepth 20000 in
set_option maxHeartbeats 4000000 in
theorem P_type_in (x1 : Int32) (x2 : Int32) (σ : jm_S) : jc 15 [(.ref 0), (.int x1), (.int x2)] σ = jbi (jc 1 [(.int x1), (.int (0 : Int32)), (.int (3 : Int32))] σ) (fun r1 τ1 => (if ¬ r1 = 0 then some (some (.int (-2 : Int32)), τ1) else jbi (jc 1 [(.int x2), (.int (0 : Int32)), (.int (255 : Int32))] τ1) (fun r2 τ2 => (if r2 = 0 then jaa x1 [42, 44, 47, 50] (fun q => jv 15 29 [some (.ref 0), some (.int x1), some (.int x2)] [(.ref q)] τ2) else some (some (.int (-2 : Int32)), τ2))))) := by
  refine (jc_of (ls1 := [some (.ref 0), some (.int x1), some (.int x2)]) ((jm_ini_of jM15).trans rfl)).trans ?_
  refine (sv_iload_n jM15 c15_0 rfl rfl).trans ?_
  refine (sv_iconst jM15 c15_1 rfl (v := 0) (by decide +kernel)).trans ?_
  refine (sv_iconst jM15 c15_2 rfl (v := 3) (by decide +kernel)).trans ?_
  refine (sv_callsi (pl := 0) jM15 c15_3 rfl (jm_call_s (as := [(.int x1), (.int (0 : Int32)), (.int (3 : Int32))]) (rest := []) lm_8_86 rfl jM1 rfl rfl rfl rfl) jM1 rfl (Or.inr rfl)).trans ?_
  refine jbi_c (fun r1 τ1 => ?_)
  refine (sv_if_ne jM15 c15_6 rfl (t := 20) (by decide +kernel)).trans ?_
  refine jif _ ?_ ?_
  ·
    refine (sv_bipush jM15 c15_20 rfl (v := -2) (by decide +kernel)).trans ?_
    exact sv_iret jM15 c15_22 rfl rfl
  ·
    refine (sv_iload_n jM15 c15_9 rfl rfl).trans ?_
    refine (sv_iconst jM15 c15_10 rfl (v := 0) (by decide +kernel)).trans ?_
    refine (sv_sipush jM15 c15_11 rfl (v := 255) (by decide +kernel)).trans ?_
    refine (sv_callsi (pl := 0) jM15 c15_14 rfl (jm_call_s (as := [(.int x2), (.int (0 : Int32)), (.int (255 : Int32))]) (rest := []) lm_8_86 rfl jM1 rfl rfl rfl rfl) jM1 rfl (Or.inr rfl)).trans ?_
    refine jbi_c (fun r2 τ2 => ?_)
    refine (sv_if_eq jM15 c15_17 rfl (t := 23) (by decide +kernel)).trans ?_
    refine jif _ ?_ ?_
    ·
      refine (sv_aload_n jM15 c15_23 rfl rfl).trans ?_
      refine (sv_getf jM15 c15_24 rfl lf_8_30 (fg_0_2 _)).trans ?_
      refine (sv_iload_n jM15 c15_27 rfl rfl).trans ?_
      refine (sv_aald jM15 c15_28 rfl wr_5).trans ?_
      rfl
    ·
      refine (sv_bipush jM15 c15_20 rfl (v := -2) (by decide +kernel)).trans ?_
      exact sv_iret jM15 c15_22 rfl rfl
set_option maxRecDepth 20000 in
set_option maxHeartbeats 4000000 in
theorem P_type_A29_42 (x1 : Int32) (x2 : Int32) (σ : jm_S) : jv 15 29 [some (.ref 0), some (.int x1), some (.int x2)] [(.ref 42)] σ = jbi (jc 16 [(.ref 42)] σ) (fun r1 τ1 => (if r1 = 0 then jaa x1 [42, 44, 47, 50] (fun q => jv 15 44 [some (.ref 0), some (.int x1), some (.int x2)] [(.ref q)] τ1) else some (some (.int (-4 : Int32)), τ1))) := by
  refine (sv_callvi (pl := 0) jM15 c15_29 rfl (jm_call_v (a := 42) (as := []) (rest := []) lm_8_141 rfl jM16 rfl rfl rfl rfl rfl) jM16 rfl (Or.inr rfl)).trans ?_
  refine jbi_c (fun r1 τ1 => ?_)
  refine (sv_if_eq jM15 c15_32 rfl (t := 38) (by decide +kernel)).trans ?_
  refine jif _ ?_ ?_
  ·
    refine (sv_aload_n jM15 c15_38 rfl rfl).trans ?_
    refine (sv_getf jM15 c15_39 rfl lf_8_30 (fg_0_2 _)).trans ?_
    refine (sv_iload_n jM15 c15_42 rfl rfl).trans ?_
    refine (sv_aald jM15 c15_43 rfl wr_5).trans ?_
    rfl
  ·
    refine (sv_bipush jM15 c15_35 rfl (v := -4) (by decide +kernel)).trans ?_
    exact sv_iret jM15 c15_37 rfl rfl
set_option maxRecDepth 20000 in
set_option maxHeartbeats 4000000 in
theorem P_type_A29_44 (x1 : Int32) (x2 : Int32) (σ : jm_S) : jv 15 29 [some (.ref 0), some (.int x1), some (.int x2)] [(.ref 44)] σ = jbi (jc 16 [(.ref 44)] σ) (fun r1 τ1 => (if r1 = 0 then jaa x1 [42, 44, 47, 50] (fun q => jv 15 44 [some (.ref 0), some (.int x1), some (.int x2)] [(.ref q)] τ1) else some (some (.int (-4 : Int32)), τ1))) := by
  refine (sv_callvi (pl := 0) jM15 c15_29 rfl (jm_call_v (a := 44) (as := []) (rest := []) lm_8_141 rfl jM16 rfl rfl rfl rfl rfl) jM16 rfl (Or.inr rfl)).trans ?_
  refine jbi_c (fun r1 τ1 => ?_)
  refine (sv_if_eq jM15 c15_32 rfl (t := 38) (by decide +kernel)).trans ?_
  refine jif _ ?_ ?_
  ·
    refine (sv_aload_n jM15 c15_38 rfl rfl).trans ?_
    refine (sv_getf jM15 c15_39 rfl lf_8_30 (fg_0_2 _)).trans ?_
    refine (sv_iload_n jM15 c15_42 rfl rfl).trans ?_
    refine (sv_aald jM15 c15_43 rfl wr_5).trans ?_
    rfl
  ·
    refine (sv_bipush jM15 c15_35 rfl (v := -4) (by decide +kernel)).trans ?_
    exact sv_iret jM15 c15_37 rfl rfl
set_option maxRecDepth 20000 in
set_option maxHeartbeats 4000000 in
theorem P_type_A29_47 (x1 : Int32) (x2 : Int32) (σ : jm_S) : jv 15 29 [some (.ref 0), some (.int x1), some (.int x2)] [(.ref 47)] σ = jbi (jc 16 [(.ref 47)] σ) (fun r1 τ1 => (if r1 = 0 then jaa x1 [42, 44, 47, 50] (fun q => jv 15 44 [some (.ref 0), some (.int x1), some (.int x2)] [(.ref q)] τ1) else some (some (.int (-4 : Int32)), τ1))) := by
  refine (sv_callvi (pl := 0) jM15 c15_29 rfl (jm_call_v (a := 47) (as := []) (rest := []) lm_8_141 rfl jM16 rfl rfl rfl rfl rfl) jM16 rfl (Or.inr rfl)).trans ?_
  refine jbi_c (fun r1 τ1 => ?_)
  refine (sv_if_eq jM15 c15_32 rfl (t := 38) (by decide +kernel)).trans ?_
  refine jif _ ?_ ?_
  ·
    refine (sv_aload_n jM15 c15_38 rfl rfl).trans ?_
    refine (sv_getf jM15 c15_39 rfl lf_8_30 (fg_0_2 _)).trans ?_
    refine (sv_iload_n jM15 c15_42 rfl rfl).trans ?_
    refine (sv_aald jM15 c15_43 rfl wr_5).trans ?_
    rfl
  ·
    refine (sv_bipush jM15 c15_35 rfl (v := -4) (by decide +kernel)).trans ?_
    exact sv_iret jM15 c15_37 rfl rfl
set_option maxRecDepth 20000 in
set_option maxHeartbeats 4000000 in
theorem P_type_A29_50 (x1 : Int32) (x2 : Int32) (σ : jm_S) : jv 15 29 [some (.ref 0), some (.int x1), some (.int x2)] [(.ref 50)] σ = jbi (jc 16 [(.ref 50)] σ) (fun r1 τ1 => (if r1 = 0 then jaa x1 [42, 44, 47, 50] (fun q => jv 15 44 [some (.ref 0), some (.int x1), some (.int x2)] [(.ref q)] τ1) else some (some (.int (-4 : Int32)), τ1))) := by
  refine (sv_callvi (pl := 0) jM15 c15_29 rfl (jm_call_v (a := 50) (as := []) (rest := []) lm_8_141 rfl jM16 rfl rfl rfl rfl rfl) jM16 rfl (Or.inr rfl)).trans ?_
  refine jbi_c (fun r1 τ1 => ?_)
  refine (sv_if_eq jM15 c15_32 rfl (t := 38) (by decide +kernel)).trans ?_
  refine jif _ ?_ ?_
  ·
    refine (sv_aload_n jM15 c15_38 rfl rfl).trans ?_
    refine (sv_getf jM15 c15_39 rfl lf_8_30 (fg_0_2 _)).trans ?_
    refine (sv_iload_n jM15 c15_42 rfl rfl).trans ?_
    refine (sv_aald jM15 c15_43 rfl wr_5).trans ?_
    rfl
  ·
    refine (sv_bipush jM15 c15_35 rfl (v := -4) (by decide +kernel)).trans ?_
    exact sv_iret jM15 c15_37 rfl rfl
set_option maxRecDepth 20000 in
set_option maxHeartbeats 4000000 in
theorem P_type_A44_42 (x1 : Int32) (x2 : Int32) (σ : jm_S) : jv 15 44 [some (.ref 0), some (.int x1), some (.int x2)] [(.ref 42)] σ = jbv (jc 17 [(.ref 42), (.int x2)] σ) (fun τ1 => jbv (jc 18 [(.ref 0), (.int x1)] τ1) (fun τ2 => jaa x1 [42, 44, 47, 50] (fun q => jv 15 59 [some (.ref 0), some (.int x1), some (.int x2)] [(.ref q)] τ2))) := by
  refine (sv_iload_n jM15 c15_44 rfl rfl).trans ?_
  refine (sv_callvv (pl := 0) jM15 c15_45 rfl (jm_call_v (a := 42) (as := [(.int x2)]) (rest := []) lm_8_142 rfl jM17 rfl rfl rfl rfl rfl) jM17 rfl rfl).trans ?_
  refine jbv_c (fun τ1 => ?_)
  refine (sv_aload_n jM15 c15_48 rfl rfl).trans ?_
  refine (sv_iload_n jM15 c15_49 rfl rfl).trans ?_
  refine (sv_callvv (pl := 0) jM15 c15_50 rfl (jm_call_v (a := 0) (as := [(.int x1)]) (rest := []) lm_8_144 rfl jM18 rfl rfl rfl rfl rfl) jM18 rfl rfl).trans ?_
  refine jbv_c (fun τ2 => ?_)
  refine (sv_aload_n jM15 c15_53 rfl rfl).trans ?_
  refine (sv_getf jM15 c15_54 rfl lf_8_30 (fg_0_2 _)).trans ?_
  refine (sv_iload_n jM15 c15_57 rfl rfl).trans ?_
  refine (sv_aald jM15 c15_58 rfl wr_5).trans ?_
  rfl
set_option maxRecDepth 20000 in
set_option maxHeartbeats 4000000 in
theorem P_type_A44_44 (x1 : Int32) (x2 : Int32) (σ : jm_S) : jv 15 44 [some (.ref 0), some (.int x1), some (.int x2)] [(.ref 44)] σ = jbv (jc 17 [(.ref 44), (.int x2)] σ) (fun τ1 => jbv (jc 18 [(.ref 0), (.int x1)] τ1) (fun τ2 => jaa x1 [42, 44, 47, 50] (fun q => jv 15 59 [some (.ref 0), some (.int x1), some (.int x2)] [(.ref q)] τ2))) := by
  refine (sv_iload_n jM15 c15_44 rfl rfl).trans ?_
  refine (sv_callvv (pl := 0) jM15 c15_45 rfl (jm_call_v (a := 44) (as := [(.int x2)]) (rest := []) lm_8_142 rfl jM17 rfl rfl rfl rfl rfl) jM17 rfl rfl).trans ?_
  refine jbv_c (fun τ1 => ?_)
  refine (sv_aload_n jM15 c15_48 rfl rfl).trans ?_
  refine (sv_iload_n jM15 c15_49 rfl rfl).trans ?_
  refine (sv_callvv (pl := 0) jM15 c15_50 rfl (jm_call_v (a := 0) (as := [(.int x1)]) (rest := []) lm_8_144 rfl jM18 rfl rfl rfl rfl rfl) jM18 rfl rfl).trans ?_
  refine jbv_c (fun τ2 => ?_)
  refine (sv_aload_n jM15 c15_53 rfl rfl).trans ?_
  refine (sv_getf jM15 c15_54 rfl lf_8_30 (fg_0_2 _)).trans ?_
  refine (sv_iload_n jM15 c15_57 rfl rfl).trans ?_
  refine (sv_aald jM15 c15_58 rfl wr_5).trans ?_
  rfl
set_option maxRecDepth 20000 in
set_option maxHeartbeats 4000000 in
theorem P_type_A44_47 (x1 : Int32) (x2 : Int32) (σ : jm_S) : jv 15 44 [some (.ref 0), some (.int x1), some (.int x2)] [(.ref 47)] σ = jbv (jc 17 [(.ref 47), (.int x2)] σ) (fun τ1 => jbv (jc 18 [(.ref 0), (.int x1)] τ1) (fun τ2 => jaa x1 [42, 44, 47, 50] (fun q => jv 15 59 [some (.ref 0), some (.int x1), some (.int x2)] [(.ref q)] τ2))) := by
  refine (sv_iload_n jM15 c15_44 rfl rfl).trans ?_
  refine (sv_callvv (pl := 0) jM15 c15_45 rfl (jm_call_v (a := 47) (as := [(.int x2)]) (rest := []) lm_8_142 rfl jM17 rfl rfl rfl rfl rfl) jM17 rfl rfl).trans ?_
  refine jbv_c (fun τ1 => ?_)
  refine (sv_aload_n jM15 c15_48 rfl rfl).trans ?_
  refine (sv_iload_n jM15 c15_49 rfl rfl).trans ?_
  refine (sv_callvv (pl := 0) jM15 c15_50 rfl (jm_call_v (a := 0) (as := [(.int x1)]) (rest := []) lm_8_144 rfl jM18 rfl rfl rfl rfl rfl) jM18 rfl rfl).trans ?_
  refine jbv_c (fun τ2 => ?_)
  refine (sv_aload_n jM15 c15_53 rfl rfl).trans ?_
  refine (sv_getf jM15 c15_54 rfl lf_8_30 (fg_0_2 _)).trans ?_
  refine (sv_iload_n jM15 c15_57 rfl rfl).trans ?_
  refine (sv_aald jM15 c15_58 rfl wr_5).trans ?_
  rfl
set_option maxRecDepth 20000 in
set_option maxHeartbeats 4000000 in
theorem P_type_A44_50 (x1 : Int32) (x2 : Int32) (σ : jm_S) : jv 15 44 [some (.ref 0), some (.int x1), some (.int x2)] [(.ref 50)] σ = jbv (jc 17 [(.ref 50), (.int x2)] σ) (fun τ1 => jbv (jc 18 [(.ref 0), (.int x1)] τ1) (fun τ2 => jaa x1 [42, 44, 47, 50] (fun q => jv 15 59 [some (.ref 0), some (.int x1), some (.int x2)] [(.ref q)] τ2))) := by
  refine (sv_iload_n jM15 c15_44 rfl rfl).trans ?_
  refine (sv_callvv (pl := 0) jM15 c15_45 rfl (jm_call_v (a := 50) (as := [(.int x2)]) (rest := []) lm_8_142 rfl jM17 rfl rfl rfl rfl rfl) jM17 rfl rfl).trans ?_
  refine jbv_c (fun τ1 => ?_)
  refine (sv_aload_n jM15 c15_48 rfl rfl).trans ?_
  refine (sv_iload_n jM15 c15_49 rfl rfl).trans ?_
  refine (sv_callvv (pl := 0) jM15 c15_50 rfl (jm_call_v (a := 0) (as := [(.int x1)]) (rest := []) lm_8_144 rfl jM18 rfl rfl rfl rfl rfl) jM18 rfl rfl).trans ?_
  refine jbv_c (fun τ2 => ?_)
  refine (sv_aload_n jM15 c15_53 rfl rfl).trans ?_
  refine (sv_getf jM15 c15_54 rfl lf_8_30 (fg_0_2 _)).trans ?_
  refine (sv_iload_n jM15 c15_57 rfl rfl).trans ?_
  refine (sv_aald jM15 c15_58 rfl wr_5).trans ?_
  rfl
set_option maxRecDepth 20000 in
set_option maxHeartbeats 4000000 in
theorem P_type_A59_42 (x1 : Int32) (x2 : Int32) (σ : jm_S) : jv 15 59 [some (.ref 0), some (.int x1), some (.int x2)] [(.ref 42)] σ = some (some (.int (σ 42 1)), σ) := by
  refine (sv_getf jM15 c15_59 rfl lf_8_147 (fg_42_1 _)).trans ?_
  exact sv_iret jM15 c15_62 rfl rfl
set_option maxRecDepth 20000 in
set_option maxHeartbeats 4000000 in
theorem P_type_A59_44 (x1 : Int32) (x2 : Int32) (σ : jm_S) : jv 15 59 [some (.ref 0), some (.int x1), some (.int x2)] [(.ref 44)] σ = some (some (.int (σ 44 1)), σ) := by
  refine (sv_getf jM15 c15_59 rfl lf_8_147 (fg_44_1 _)).trans ?_
  exact sv_iret jM15 c15_62 rfl rfl
set_option maxRecDepth 20000 in
set_option maxHeartbeats 4000000 in
theorem P_type_A59_47 (x1 : Int32) (x2 : Int32) (σ : jm_S) : jv 15 59 [some (.ref 0), some (.int x1), some (.int x2)] [(.ref 47)] σ = some (some (.int (σ 47 1)), σ) := by
  refine (sv_getf jM15 c15_59 rfl lf_8_147 (fg_47_1 _)).trans ?_
  exact sv_iret jM15 c15_62 rfl rfl
set_option maxRecDepth 20000 in
set_option maxHeartbeats 4000000 in
theorem P_type_A59_50 (x1 : Int32) (x2 : Int32) (σ : jm_S) : jv 15 59 [some (.ref 0), some (.int x1), some (.int x2)] [(.ref 50)] σ = some (some (.int (σ 50 1)), σ) := by
  refine (sv_getf jM15 c15_59 rfl lf_8_147 (fg_50_1 _)).trans ?_
  exact sv_iret jM15 c15_62 rfl rfl
set_option maxRecDepth 20000 in
set_option maxHeartbeats 4000000 in
theorem P_wipe_in (x1 : Int32) (σ : jm_S) : jc 33 [(.ref 0), (.int x1)] σ = jbi (jc 1 [(.int x1), (.int (0 : Int32)), (.int (3 : Int32))] σ) (fun r1 τ1 => (if r1 = 0 then jaa x1 [42, 44, 47, 50] (fun q => jv 33 18 [some (.ref 0), some (.int x1), none] [(.ref q)] τ1) else some (some (.int (-2 : Int32)), τ1))) := by
  refine (jc_of (ls1 := [some (.ref 0), some (.int x1), none]) ((jm_ini_of jM33).trans rfl)).trans ?_
  refine (sv_iload_n jM33 c33_0 rfl rfl).trans ?_
  refine (sv_iconst jM33 c33_1 rfl (v := 0) (by decide +kernel)).trans ?_
  refine (sv_iconst jM33 c33_2 rfl (v := 3) (by decide +kernel)).trans ?_
  refine (sv_callsi (pl := 0) jM33 c33_3 rfl (jm_call_s (as := [(.int x1), (.int (0 : Int32)), (.int (3 : Int32))]) (rest := []) lm_8_86 rfl jM1 rfl rfl rfl rfl) jM1 rfl (Or.inr rfl)).trans ?_
  refine jbi_c (fun r1 τ1 => ?_)
  refine (sv_if_eq jM33 c33_6 rfl (t := 12) (by decide +kernel)).trans ?_
  refine jif _ ?_ ?_
  ·
    refine (sv_aload_n jM33 c33_12 rfl rfl).trans ?_
    refine (sv_getf jM33 c33_13 rfl lf_8_30 (fg_0_2 _)).trans ?_
    refine (sv_iload_n jM33 c33_16 rfl rfl).trans ?_
    refine (sv_aald jM33 c33_17 rfl wr_5).trans ?_
    rfl
  ·
    refine (sv_bipush jM33 c33_9 rfl (v := -2) (by decide +kernel)).trans ?_
    exact sv_iret jM33 c33_11 rfl rfl
set_option maxRecDepth 20000 in
set_option maxHeartbeats 4000000 in
theorem P_wipe_A18_42 (x1 : Int32) (σ : jm_S) : jv 33 18 [some (.ref 0), some (.int x1), none] [(.ref 42)] σ = jaa x1 [42, 44, 47, 50] (fun q => jv 33 28 [some (.ref 0), some (.int x1), some (.int (σ 42 1))] [(.ref q)] σ) := by
  refine (sv_getf jM33 c33_18 rfl lf_8_147 (fg_42_1 _)).trans ?_
  refine (sv_istore_n (ls1 := [some (.ref 0), some (.int x1), some (.int (σ 42 1))]) jM33 c33_21 rfl (Nat.lt_of_lt_of_eq (by decide +kernel : 2 < 3) rfl) rfl).trans ?_
  refine (sv_aload_n jM33 c33_22 rfl rfl).trans ?_
  refine (sv_getf jM33 c33_23 rfl lf_8_30 (fg_0_2 _)).trans ?_
  refine (sv_iload_n jM33 c33_26 rfl rfl).trans ?_
  refine (sv_aald jM33 c33_27 rfl wr_5).trans ?_
  rfl
set_option maxRecDepth 20000 in
set_option maxHeartbeats 4000000 in
theorem P_wipe_A18_44 (x1 : Int32) (σ : jm_S) : jv 33 18 [some (.ref 0), some (.int x1), none] [(.ref 44)] σ = jaa x1 [42, 44, 47, 50] (fun q => jv 33 28 [some (.ref 0), some (.int x1), some (.int (σ 44 1))] [(.ref q)] σ) := by
  refine (sv_getf jM33 c33_18 rfl lf_8_147 (fg_44_1 _)).trans ?_
  refine (sv_istore_n (ls1 := [some (.ref 0), some (.int x1), some (.int (σ 44 1))]) jM33 c33_21 rfl (Nat.lt_of_lt_of_eq (by decide +kernel : 2 < 3) rfl) rfl).trans ?_
  refine (sv_aload_n jM33 c33_22 rfl rfl).trans ?_
  refine (sv_getf jM33 c33_23 rfl lf_8_30 (fg_0_2 _)).trans ?_
  refine (sv_iload_n jM33 c33_26 rfl rfl).trans ?_
  refine (sv_aald jM33 c33_27 rfl wr_5).trans ?_
  rfl
set_option maxRecDepth 20000 in
set_option maxHeartbeats 4000000 in
theorem P_wipe_A18_47 (x1 : Int32) (σ : jm_S) : jv 33 18 [some (.ref 0), some (.int x1), none] [(.ref 47)] σ = jaa x1 [42, 44, 47, 50] (fun q => jv 33 28 [some (.ref 0), some (.int x1), some (.int (σ 47 1))] [(.ref q)] σ) := by
  refine (sv_getf jM33 c33_18 rfl lf_8_147 (fg_47_1 _)).trans ?_
  refine (sv_istore_n (ls1 := [some (.ref 0), some (.int x1), some (.int (σ 47 1))]) jM33 c33_21 rfl (Nat.lt_of_lt_of_eq (by decide +kernel : 2 < 3) rfl) rfl).trans ?_
  refine (sv_aload_n jM33 c33_22 rfl rfl).trans ?_
  refine (sv_getf jM33 c33_23 rfl lf_8_30 (fg_0_2 _)).trans ?_
  refine (sv_iload_n jM33 c33_26 rfl rfl).trans ?_
  refine (sv_aald jM33 c33_27 rfl wr_5).trans ?_
  rfl
set_option maxRecDepth 20000 in
set_option maxHeartbeats 4000000 in
theorem P_wipe_A18_50 (x1 : Int32) (σ : jm_S) : jv 33 18 [some (.ref 0), some (.int x1), none] [(.ref 50)] σ = jaa x1 [42, 44, 47, 50] (fun q => jv 33 28 [some (.ref 0), some (.int x1), some (.int (σ 50 1))] [(.ref q)] σ) := by
  refine (sv_getf jM33 c33_18 rfl lf_8_147 (fg_50_1 _)).trans ?_
  refine (sv_istore_n (ls1 := [some (.ref 0), some (.int x1), some (.int (σ 50 1))]) jM33 c33_21 rfl (Nat.lt_of_lt_of_eq (by decide +kernel : 2 < 3) rfl) rfl).trans ?_
  refine (sv_aload_n jM33 c33_22 rfl rfl).trans ?_
  refine (sv_getf jM33 c33_23 rfl lf_8_30 (fg_0_2 _)).trans ?_
  refine (sv_iload_n jM33 c33_26 rfl rfl).trans ?_
  refine (sv_aald jM33 c33_27 rfl wr_5).trans ?_
  rfl
set_option maxRecDepth 20000 in
set_option maxHeartbeats 4000000 in
theorem P_wipe_A28_42 (x1 : Int32) (x2 : Int32) (σ : jm_S) : jv 33 28 [some (.ref 0), some (.int x1), some (.int x2)] [(.ref 42)] σ = jbv (jc 18 [(.ref 0), (.int x1)] (jm_up σ 42 1 (0 : Int32))) (fun τ1 => some (some (.int x2), τ1)) := by
  refine (sv_iconst jM33 c33_28 rfl (v := 0) (by decide +kernel)).trans ?_
  refine (sv_putf jM33 c33_29 rfl lf_8_147 (pf_42_1 _ _)).trans ?_
  refine (sv_aload_n jM33 c33_32 rfl rfl).trans ?_
  refine (sv_iload_n jM33 c33_33 rfl rfl).trans ?_
  refine (sv_callvv (pl := 0) jM33 c33_34 rfl (jm_call_v (a := 0) (as := [(.int x1)]) (rest := []) lm_8_144 rfl jM18 rfl rfl rfl rfl rfl) jM18 rfl rfl).trans ?_
  refine jbv_c (fun τ1 => ?_)
  refine (sv_iload_n jM33 c33_37 rfl rfl).trans ?_
  exact sv_iret jM33 c33_38 rfl rfl
set_option maxRecDepth 20000 in
set_option maxHeartbeats 4000000 in
theorem P_wipe_A28_44 (x1 : Int32) (x2 : Int32) (σ : jm_S) : jv 33 28 [some (.ref 0), some (.int x1), some (.int x2)] [(.ref 44)] σ = jbv (jc 18 [(.ref 0), (.int x1)] (jm_up σ 44 1 (0 : Int32))) (fun τ1 => some (some (.int x2), τ1)) := by
  refine (sv_iconst jM33 c33_28 rfl (v := 0) (by decide +kernel)).trans ?_
  refine (sv_putf jM33 c33_29 rfl lf_8_147 (pf_44_1 _ _)).trans ?_
  refine (sv_aload_n jM33 c33_32 rfl rfl).trans ?_
  refine (sv_iload_n jM33 c33_33 rfl rfl).trans ?_
  refine (sv_callvv (pl := 0) jM33 c33_34 rfl (jm_call_v (a := 0) (as := [(.int x1)]) (rest := []) lm_8_144 rfl jM18 rfl rfl rfl rfl rfl) jM18 rfl rfl).trans ?_
  refine jbv_c (fun τ1 => ?_)
  refine (sv_iload_n jM33 c33_37 rfl rfl).trans ?_
  exact sv_iret jM33 c33_38 rfl rfl
set_option maxRecDepth 20000 in
set_option maxHeartbeats 4000000 in
theorem P_wipe_A28_47 (x1 : Int32) (x2 : Int32) (σ : jm_S) : jv 33 28 [some (.ref 0), some (.int x1), some (.int x2)] [(.ref 47)] σ = jbv (jc 18 [(.ref 0), (.int x1)] (jm_up σ 47 1 (0 : Int32))) (fun τ1 => some (some (.int x2), τ1)) := by
  refine (sv_iconst jM33 c33_28 rfl (v := 0) (by decide +kernel)).trans ?_
  refine (sv_putf jM33 c33_29 rfl lf_8_147 (pf_47_1 _ _)).trans ?_
  refine (sv_aload_n jM33 c33_32 rfl rfl).trans ?_
  refine (sv_iload_n jM33 c33_33 rfl rfl).trans ?_
  refine (sv_callvv (pl := 0) jM33 c33_34 rfl (jm_call_v (a := 0) (as := [(.int x1)]) (rest := []) lm_8_144 rfl jM18 rfl rfl rfl rfl rfl) jM18 rfl rfl).trans ?_
  refine jbv_c (fun τ1 => ?_)
  refine (sv_iload_n jM33 c33_37 rfl rfl).trans ?_
  exact sv_iret jM33 c33_38 rfl rfl
set_option maxRecDepth 20000 in
set_option maxHeartbeats 4000000 in
theorem P_wipe_A28_50 (x1 : Int32) (x2 : Int32) (σ : jm_S) : jv 33 28 [some (.ref 0), some (.int x1), some (.int x2)] [(.ref 50)] σ = jbv (jc 18 [(.ref 0), (.int x1)] (jm_up σ 50 1 (0 : Int32))) (fun τ1 => some (some (.int x2), τ1)) := by
  refine (sv_iconst jM33 c33_28 rfl (v := 0) (by decide +kernel)).trans ?_
  refine (sv_putf jM33 c33_29 rfl lf_8_147 (pf_50_1 _ _)).trans ?_
  refine (sv_aload_n jM33 c33_32 rfl rfl).trans ?_
  refine (sv_iload_n jM33 c33_33 rfl rfl).trans ?_
  refine (sv_callvv (pl := 0) jM33 c33_34 rfl (jm_call_v (a := 0) (as := [(.int x1)]) (rest := []) lm_8_144 rfl jM18 rfl rfl rfl rfl rfl) jM18 rfl rfl).trans ?_
  refine jbv_c (fun τ1 => ?_)
  refine (sv_iload_n jM33 c33_37 rfl rfl).trans ?_
  exact sv_iret jM33 c33_38 rfl rfl
set_option maxRecDepth 20000 in
set_option maxHeartbeats 4000000 in
theorem P_fault_in (x1 : Int32) (σ : jm_S) : jc 34 [(.ref 0), (.int x1)] σ = jbi (jc 1 [(.int x1), (.int (0 : Int32)), (.int (3 : Int32))] σ) (fun r1 τ1 => (if r1 = 0 then jaa x1 [42, 44, 47, 50] (fun q => jv 34 18 [some (.ref 0), some (.int x1)] [(.ref q)] τ1) else some (some (.int (-2 : Int32)), τ1))) := by
  refine (jc_of (ls1 := [some (.ref 0), some (.int x1)]) ((jm_ini_of jM34).trans rfl)).trans ?_
  refine (sv_iload_n jM34 c34_0 rfl rfl).trans ?_
  refine (sv_iconst jM34 c34_1 rfl (v := 0) (by decide +kernel)).trans ?_
  refine (sv_iconst jM34 c34_2 rfl (v := 3) (by decide +kernel)).trans ?_
  refine (sv_callsi (pl := 0) jM34 c34_3 rfl (jm_call_s (as := [(.int x1), (.int (0 : Int32)), (.int (3 : Int32))]) (rest := []) lm_8_86 rfl jM1 rfl rfl rfl rfl) jM1 rfl (Or.inr rfl)).trans ?_
  refine jbi_c (fun r1 τ1 => ?_)
  refine (sv_if_eq jM34 c34_6 rfl (t := 12) (by decide +kernel)).trans ?_
  refine jif _ ?_ ?_
  ·
    refine (sv_aload_n jM34 c34_12 rfl rfl).trans ?_
    refine (sv_getf jM34 c34_13 rfl lf_8_30 (fg_0_2 _)).trans ?_
    refine (sv_iload_n jM34 c34_16 rfl rfl).trans ?_
    refine (sv_aald jM34 c34_17 rfl wr_5).trans ?_
    rfl
  ·
    refine (sv_bipush jM34 c34_9 rfl (v := -2) (by decide +kernel)).trans ?_
    exact sv_iret jM34 c34_11 rfl rfl
set_option maxRecDepth 20000 in
set_option maxHeartbeats 4000000 in
theorem P_fault_A18_42 (x1 : Int32) (σ : jm_S) : jv 34 18 [some (.ref 0), some (.int x1)] [(.ref 42)] σ = some (some (.int (σ 42 3)), σ) := by
  refine (sv_getf jM34 c34_18 rfl lf_8_148 (fg_42_3 _)).trans ?_
  exact sv_iret jM34 c34_21 rfl rfl
set_option maxRecDepth 20000 in
set_option maxHeartbeats 4000000 in
theorem P_fault_A18_44 (x1 : Int32) (σ : jm_S) : jv 34 18 [some (.ref 0), some (.int x1)] [(.ref 44)] σ = some (some (.int (σ 44 3)), σ) := by
  refine (sv_getf jM34 c34_18 rfl lf_8_148 (fg_44_3 _)).trans ?_
  exact sv_iret jM34 c34_21 rfl rfl
set_option maxRecDepth 20000 in
set_option maxHeartbeats 4000000 in
theorem P_fault_A18_47 (x1 : Int32) (σ : jm_S) : jv 34 18 [some (.ref 0), some (.int x1)] [(.ref 47)] σ = some (some (.int (σ 47 3)), σ) := by
  refine (sv_getf jM34 c34_18 rfl lf_8_148 (fg_47_3 _)).trans ?_
  exact sv_iret jM34 c34_21 rfl rfl
set_option maxRecDepth 20000 in
set_option maxHeartbeats 4000000 in
theorem P_fault_A18_50 (x1 : Int32) (σ : jm_S) : jv 34 18 [some (.ref 0), some (.int x1)] [(.ref 50)] σ = some (some (.int (σ 50 3)), σ) := by
  refine (sv_getf jM34 c34_18 rfl lf_8_148 (fg_50_3 _)).trans ?_
  exact sv_iret jM34 c34_21 rfl rfl
set_option maxRecDepth 20000 in
set_option maxHeartbeats 4000000 in
theorem P_pan_in (x1 : Int32) (x2 : Int32) (σ : jm_S) : jc 35 [(.ref 0), (.int x1), (.int x2)] σ = jbi (jc 1 [(.int x1), (.int (0 : Int32)), (.int (199 : Int32))] σ) (fun r1 τ1 => (if ¬ r1 = 0 then some (some (.int (-2 : Int32)), τ1) else jbi (jc 1 [(.int x2), (.int (0 : Int32)), (.int (2 : Int32))] τ1) (fun r2 τ2 => (if r2 = 0 then (if ¬ x2 = 0 then (if ¬ x2 = (1 : Int32) then (if x1 < 0 ∨ 200 ≤ x1.toNatClampNeg then none else (if (τ2 9 x1.toNatClampNeg) = 0 then some (some (.int (0 : Int32)), τ2) else some (some (.int (1 : Int32)), τ2))) else (if x1 < 0 ∨ 200 ≤ x1.toNatClampNeg then none else some (some (.int (τ2 8 x1.toNatClampNeg)), τ2))) else (if x1 < 0 ∨ 200 ≤ x1.toNatClampNeg then none else some (some (.int (τ2 7 x1.toNatClampNeg)), τ2))) else some (some (.int (-2 : Int32)), τ2))))) := by
  refine (jc_of (ls1 := [some (.ref 0), some (.int x1), some (.int x2)]) ((jm_ini_of jM35).trans rfl)).trans ?_
  refine (sv_iload_n jM35 c35_0 rfl rfl).trans ?_
  refine (sv_iconst jM35 c35_1 rfl (v := 0) (by decide +kernel)).trans ?_
  refine (sv_sipush jM35 c35_2 rfl (v := 199) (by decide +kernel)).trans ?_
  refine (sv_callsi (pl := 0) jM35 c35_5 rfl (jm_call_s (as := [(.int x1), (.int (0 : Int32)), (.int (199 : Int32))]) (rest := []) lm_8_86 rfl jM1 rfl rfl rfl rfl) jM1 rfl (Or.inr rfl)).trans ?_
  refine jbi_c (fun r1 τ1 => ?_)
  refine (sv_if_ne jM35 c35_8 rfl (t := 20) (by decide +kernel)).trans ?_
  refine jif _ ?_ ?_
  ·
    refine (sv_bipush jM35 c35_20 rfl (v := -2) (by decide +kernel)).trans ?_
    exact sv_iret jM35 c35_22 rfl rfl
  ·
    refine (sv_iload_n jM35 c35_11 rfl rfl).trans ?_
    refine (sv_iconst jM35 c35_12 rfl (v := 0) (by decide +kernel)).trans ?_
    refine (sv_iconst jM35 c35_13 rfl (v := 2) (by decide +kernel)).trans ?_
    refine (sv_callsi (pl := 0) jM35 c35_14 rfl (jm_call_s (as := [(.int x2), (.int (0 : Int32)), (.int (2 : Int32))]) (rest := []) lm_8_86 rfl jM1 rfl rfl rfl rfl) jM1 rfl (Or.inr rfl)).trans ?_
    refine jbi_c (fun r2 τ2 => ?_)
    refine (sv_if_eq jM35 c35_17 rfl (t := 23) (by decide +kernel)).trans ?_
    refine jif _ ?_ ?_
    ·
      refine (sv_iload_n jM35 c35_23 rfl rfl).trans ?_
      refine (sv_if_ne jM35 c35_24 rfl (t := 37) (by decide +kernel)).trans ?_
      refine jif _ ?_ ?_
      ·
        refine (sv_iload_n jM35 c35_37 rfl rfl).trans ?_
        refine (sv_iconst jM35 c35_38 rfl (v := 1) (by decide +kernel)).trans ?_
        refine (sv_icmp_ne jM35 c35_39 rfl (t := 52) (by decide +kernel)).trans ?_
        refine jif _ ?_ ?_
        ·
          refine (sv_aload_n jM35 c35_52 rfl rfl).trans ?_
          refine (sv_getf jM35 c35_53 rfl lf_8_37 (fg_0_3 _)).trans ?_
          refine (sv_getf jM35 c35_56 rfl lf_8_157 (fg_6_2 _)).trans ?_
          refine (sv_iload_n jM35 c35_59 rfl rfl).trans ?_
          refine (sv_bald jM35 c35_60 rfl wi_9).trans ?_
          refine jif _ rfl ?_
          refine (sv_if_eq jM35 c35_61 rfl (t := 68) (by decide +kernel)).trans ?_
          refine jif _ ?_ ?_
          ·
            refine (sv_iconst jM35 c35_68 rfl (v := 0) (by decide +kernel)).trans ?_
            exact sv_iret jM35 c35_69 rfl rfl
          ·
            refine (sv_iconst jM35 c35_64 rfl (v := 1) (by decide +kernel)).trans ?_
            refine (sv_goto jM35 c35_65 rfl (t := 69) (by decide +kernel)).trans ?_
            exact sv_iret jM35 c35_69 rfl rfl
        ·
          refine (sv_aload_n jM35 c35_42 rfl rfl).trans ?_
          refine (sv_getf jM35 c35_43 rfl lf_8_37 (fg_0_3 _)).trans ?_
          refine (sv_getf jM35 c35_46 rfl lf_8_154 (fg_6_1 _)).trans ?_
          refine (sv_iload_n jM35 c35_49 rfl rfl).trans ?_
          refine (sv_iald jM35 c35_50 rfl (ia_8 _)).trans ?_
          refine jif _ rfl ?_
          exact sv_iret jM35 c35_51 rfl rfl
      ·
        refine (sv_aload_n jM35 c35_27 rfl rfl).trans ?_
        refine (sv_getf jM35 c35_28 rfl lf_8_37 (fg_0_3 _)).trans ?_
        refine (sv_getf jM35 c35_31 rfl lf_8_151 (fg_6_0 _)).trans ?_
        refine (sv_iload_n jM35 c35_34 rfl rfl).trans ?_
        refine (sv_iald jM35 c35_35 rfl (ia_7 _)).trans ?_
        refine jif _ rfl ?_
        exact sv_iret jM35 c35_36 rfl rfl
    ·
      refine (sv_bipush jM35 c35_20 rfl (v := -2) (by decide +kernel)).trans ?_
      exact sv_iret jM35 c35_22 rfl rfl
set_option maxRecDepth 20000 in
set_option maxHeartbeats 4000000 in
theorem P_after_in (x1 : Int32) (x2 : Int32) (x3 : Int32) (σ : jm_S) : jc 36 [(.ref 0), (.int x1), (.int x2), (.int x3)] σ = jbi (jc 11 [(.ref 1), (.int x1)] σ) (fun r1 τ1 => (if r1 = 0 then some (some (.int (-2 : Int32)), τ1) else jbi (jc 1 [(.int x2), (.int (0 : Int32)), (.int (200 : Int32))] τ1) (fun r2 τ2 => (if ¬ r2 = 0 then some (some (.int (-2 : Int32)), τ2) else jbi (jc 1 [(.int x3), (.int (0 : Int32)), (.int (5 : Int32))] τ2) (fun r3 τ3 => (if r3 = 0 then jbv (jc 37 [(.ref 0)] τ3) (fun τ4 => jbv (jc 40 [(.ref 11), (.ref 6), (.int x2)] τ4) (fun τ5 => jbi (jc 47 [(.ref 11), (.int x1), (.int x3)] τ5) (fun r6 τ6 => some (some (.int r6), τ6)))) else some (some (.int (-2 : Int32)), τ3))))))) := by
  refine (jc_of (ls1 := [some (.ref 0), some (.int x1), some (.int x2), some (.int x3)]) ((jm_ini_of jM36).trans rfl)).trans ?_
  refine (sv_aload_n jM36 c36_0 rfl rfl).trans ?_
  refine (sv_getf jM36 c36_1 rfl lf_8_10 (fg_0_0 _)).trans ?_
  refine (sv_iload_n jM36 c36_4 rfl rfl).trans ?_
  refine (sv_callvi (pl := 0) jM36 c36_5 rfl (jm_call_v (a := 1) (as := [(.int x1)]) (rest := []) lm_8_115 rfl jM11 rfl rfl rfl rfl rfl) jM11 rfl (Or.inr rfl)).trans ?_
  refine jbi_c (fun r1 τ1 => ?_)
  refine (sv_if_eq jM36 c36_8 rfl (t := 31) (by decide +kernel)).trans ?_
  refine jif _ ?_ ?_
  ·
    refine (sv_bipush jM36 c36_31 rfl (v := -2) (by decide +kernel)).trans ?_
    exact sv_iret jM36 c36_33 rfl rfl
  ·
    refine (sv_iload_n jM36 c36_11 rfl rfl).trans ?_
    refine (sv_iconst jM36 c36_12 rfl (v := 0) (by decide +kernel)).trans ?_
    refine (sv_sipush jM36 c36_13 rfl (v := 200) (by decide +kernel)).trans ?_
    refine (sv_callsi (pl := 0) jM36 c36_16 rfl (jm_call_s (as := [(.int x2), (.int (0 : Int32)), (.int (200 : Int32))]) (rest := []) lm_8_86 rfl jM1 rfl rfl rfl rfl) jM1 rfl (Or.inr rfl)).trans ?_
    refine jbi_c (fun r2 τ2 => ?_)
    refine (sv_if_ne jM36 c36_19 rfl (t := 31) (by decide +kernel)).trans ?_
    refine jif _ ?_ ?_
    ·
      refine (sv_bipush jM36 c36_31 rfl (v := -2) (by decide +kernel)).trans ?_
      exact sv_iret jM36 c36_33 rfl rfl
    ·
      refine (sv_iload_n jM36 c36_22 rfl rfl).trans ?_
      refine (sv_iconst jM36 c36_23 rfl (v := 0) (by decide +kernel)).trans ?_
      refine (sv_iconst jM36 c36_24 rfl (v := 5) (by decide +kernel)).trans ?_
      refine (sv_callsi (pl := 0) jM36 c36_25 rfl (jm_call_s (as := [(.int x3), (.int (0 : Int32)), (.int (5 : Int32))]) (rest := []) lm_8_86 rfl jM1 rfl rfl rfl rfl) jM1 rfl (Or.inr rfl)).trans ?_
      refine jbi_c (fun r3 τ3 => ?_)
      refine (sv_if_eq jM36 c36_28 rfl (t := 34) (by decide +kernel)).trans ?_
      refine jif _ ?_ ?_
      ·
        refine (sv_aload_n jM36 c36_34 rfl rfl).trans ?_
        refine (sv_callvv (pl := 0) jM36 c36_35 rfl (jm_call_v (a := 0) (as := []) (rest := []) lm_8_161 rfl jM37 rfl rfl rfl rfl rfl) jM37 rfl rfl).trans ?_
        refine jbv_c (fun τ4 => ?_)
        refine (sv_aload_n jM36 c36_38 rfl rfl).trans ?_
        refine (sv_getf jM36 c36_39 rfl lf_8_50 (fg_0_5 _)).trans ?_
        refine (sv_aload_n jM36 c36_42 rfl rfl).trans ?_
        refine (sv_getf jM36 c36_43 rfl lf_8_37 (fg_0_3 _)).trans ?_
        refine (sv_iload_n jM36 c36_46 rfl rfl).trans ?_
        refine (sv_callvv (pl := 0) jM36 c36_47 rfl (jm_call_v (a := 11) (as := [(.ref 6), (.int x2)]) (rest := []) lm_8_164 rfl jM40 rfl rfl rfl rfl rfl) jM40 rfl rfl).trans ?_
        refine jbv_c (fun τ5 => ?_)
        refine (sv_aload_n jM36 c36_50 rfl rfl).trans ?_
        refine (sv_getf jM36 c36_51 rfl lf_8_50 (fg_0_5 _)).trans ?_
        refine (sv_iload_n jM36 c36_54 rfl rfl).trans ?_
        refine (sv_iload_n jM36 c36_55 rfl rfl).trans ?_
        refine (sv_callvi (pl := 0) jM36 c36_56 rfl (jm_call_v (a := 11) (as := [(.int x1), (.int x3)]) (rest := []) lm_8_168 rfl jM47 rfl rfl rfl rfl rfl) jM47 rfl (Or.inl rfl)).trans ?_
        refine jbi_c (fun r6 τ6 => ?_)
        exact sv_iret jM36 c36_59 rfl rfl
      ·
        refine (sv_bipush jM36 c36_31 rfl (v := -2) (by decide +kernel)).trans ?_
        exact sv_iret jM36 c36_33 rfl rfl
set_option maxRecDepth 20000 in
set_option maxHeartbeats 4000000 in
theorem P_sounds_in (x1 : Int32) (x2 : Int32) (σ : jm_S) : jc 48 [(.ref 0), (.int x1), (.int x2)] σ = jbi (jc 1 [(.int x1), (.int (0 : Int32)), (.int (199 : Int32))] σ) (fun r1 τ1 => (if r1 = 0 then jbv (jc 49 [(.ref 0), (.int (200 : Int32))] τ1) (fun τ2 => (if x2 = 0 then jbi (jc 53 [(.ref 11), (.int x1)] τ2) (fun r3 τ3 => some (some (.int r3), τ3)) else jbi (jc 51 [(.ref 11), (.int (x1 + (1 : Int32)))] τ2) (fun r4 τ4 => some (some (.int r4), τ4)))) else some (some (.int (-2 : Int32)), τ1))) := by
  refine (jc_of (ls1 := [some (.ref 0), some (.int x1), some (.int x2)]) ((jm_ini_of jM48).trans rfl)).trans ?_
  refine (sv_iload_n jM48 c48_0 rfl rfl).trans ?_
  refine (sv_iconst jM48 c48_1 rfl (v := 0) (by decide +kernel)).trans ?_
  refine (sv_sipush jM48 c48_2 rfl (v := 199) (by decide +kernel)).trans ?_
  refine (sv_callsi (pl := 0) jM48 c48_5 rfl (jm_call_s (as := [(.int x1), (.int (0 : Int32)), (.int (199 : Int32))]) (rest := []) lm_8_86 rfl jM1 rfl rfl rfl rfl) jM1 rfl (Or.inr rfl)).trans ?_
  refine jbi_c (fun r1 τ1 => ?_)
  refine (sv_if_eq jM48 c48_8 rfl (t := 14) (by decide +kernel)).trans ?_
  refine jif _ ?_ ?_
  ·
    refine (sv_aload_n jM48 c48_14 rfl rfl).trans ?_
    refine (sv_sipush jM48 c48_15 rfl (v := 200) (by decide +kernel)).trans ?_
    refine (sv_callvv (pl := 0) jM48 c48_18 rfl (jm_call_v (a := 0) (as := [(.int (200 : Int32))]) (rest := []) lm_8_171 rfl jM49 rfl rfl rfl rfl rfl) jM49 rfl rfl).trans ?_
    refine jbv_c (fun τ2 => ?_)
    refine (sv_iload_n jM48 c48_21 rfl rfl).trans ?_
    refine (sv_if_eq jM48 c48_22 rfl (t := 38) (by decide +kernel)).trans ?_
    refine jif _ ?_ ?_
    ·
      refine (sv_aload_n jM48 c48_38 rfl rfl).trans ?_
      refine (sv_getf jM48 c48_39 rfl lf_8_50 (fg_0_5 _)).trans ?_
      refine (sv_iload_n jM48 c48_42 rfl rfl).trans ?_
      refine (sv_callvi (pl := 0) jM48 c48_43 rfl (jm_call_v (a := 11) (as := [(.int x1)]) (rest := []) lm_8_177 rfl jM53 rfl rfl rfl rfl rfl) jM53 rfl (Or.inl rfl)).trans ?_
      refine jbi_c (fun r3 τ3 => ?_)
      exact sv_iret jM48 c48_46 rfl rfl
    ·
      refine (sv_aload_n jM48 c48_25 rfl rfl).trans ?_
      refine (sv_getf jM48 c48_26 rfl lf_8_50 (fg_0_5 _)).trans ?_
      refine (sv_iload_n jM48 c48_29 rfl rfl).trans ?_
      refine (sv_iconst jM48 c48_30 rfl (v := 1) (by decide +kernel)).trans ?_
      refine (sv_iadd jM48 c48_31 rfl).trans ?_
      refine (sv_callvi (pl := 0) jM48 c48_32 rfl (jm_call_v (a := 11) (as := [(.int (x1 + (1 : Int32)))]) (rest := []) lm_8_174 rfl jM51 rfl rfl rfl rfl rfl) jM51 rfl (Or.inl rfl)).trans ?_
      refine jbi_c (fun r4 τ4 => ?_)
      refine (sv_goto jM48 c48_35 rfl (t := 46) (by decide +kernel)).trans ?_
      exact sv_iret jM48 c48_46 rfl rfl
  ·
    refine (sv_bipush jM48 c48_11 rfl (v := -2) (by decide +kernel)).trans ?_
    exact sv_iret jM48 c48_13 rfl rfl
set_option maxRecDepth 20000 in
set_option maxHeartbeats 4000000 in
theorem P_stop_in (x1 : Int32) (x2 : Int32) (σ : jm_S) : jc 54 [(.ref 0), (.int x1), (.int x2)] σ = jbi (jc 1 [(.int x1), (.int (0 : Int32)), (.int (2 : Int32))] σ) (fun r1 τ1 => (if ¬ r1 = 0 then some (some (.int (-100002 : Int32)), τ1) else jbi (jc 1 [(.int x2), (.int (0 : Int32)), (.int (5 : Int32))] τ1) (fun r2 τ2 => (if r2 = 0 then jbv (jc 49 [(.ref 0), (.int (200 : Int32))] τ2) (fun τ3 => jbi (jc 55 [(.ref 0), (.int x1), (.int x2)] τ3) (fun r4 τ4 => some (some (.int r4), τ4))) else some (some (.int (-100002 : Int32)), τ2))))) := by
  refine (jc_of (ls1 := [some (.ref 0), some (.int x1), some (.int x2)]) ((jm_ini_of jM54).trans rfl)).trans ?_
  refine (sv_iload_n jM54 c54_0 rfl rfl).trans ?_
  refine (sv_iconst jM54 c54_1 rfl (v := 0) (by decide +kernel)).trans ?_
  refine (sv_iconst jM54 c54_2 rfl (v := 2) (by decide +kernel)).trans ?_
  refine (sv_callsi (pl := 0) jM54 c54_3 rfl (jm_call_s (as := [(.int x1), (.int (0 : Int32)), (.int (2 : Int32))]) (rest := []) lm_8_86 rfl jM1 rfl rfl rfl rfl) jM1 rfl (Or.inr rfl)).trans ?_
  refine jbi_c (fun r1 τ1 => ?_)
  refine (sv_if_ne jM54 c54_6 rfl (t := 18) (by decide +kernel)).trans ?_
  refine jif _ ?_ ?_
  ·
    refine (sv_ldc jM54 c54_18 rfl lc_8_180).trans ?_
    exact sv_iret jM54 c54_20 rfl rfl
  ·
    refine (sv_iload_n jM54 c54_9 rfl rfl).trans ?_
    refine (sv_iconst jM54 c54_10 rfl (v := 0) (by decide +kernel)).trans ?_
    refine (sv_iconst jM54 c54_11 rfl (v := 5) (by decide +kernel)).trans ?_
    refine (sv_callsi (pl := 0) jM54 c54_12 rfl (jm_call_s (as := [(.int x2), (.int (0 : Int32)), (.int (5 : Int32))]) (rest := []) lm_8_86 rfl jM1 rfl rfl rfl rfl) jM1 rfl (Or.inr rfl)).trans ?_
    refine jbi_c (fun r2 τ2 => ?_)
    refine (sv_if_eq jM54 c54_15 rfl (t := 21) (by decide +kernel)).trans ?_
    refine jif _ ?_ ?_
    ·
      refine (sv_aload_n jM54 c54_21 rfl rfl).trans ?_
      refine (sv_sipush jM54 c54_22 rfl (v := 200) (by decide +kernel)).trans ?_
      refine (sv_callvv (pl := 0) jM54 c54_25 rfl (jm_call_v (a := 0) (as := [(.int (200 : Int32))]) (rest := []) lm_8_171 rfl jM49 rfl rfl rfl rfl rfl) jM49 rfl rfl).trans ?_
      refine jbv_c (fun τ3 => ?_)
      refine (sv_aload_n jM54 c54_28 rfl rfl).trans ?_
      refine (sv_iload_n jM54 c54_29 rfl rfl).trans ?_
      refine (sv_iload_n jM54 c54_30 rfl rfl).trans ?_
      refine (sv_callvi (pl := 0) jM54 c54_31 rfl (jm_call_v (a := 0) (as := [(.int x1), (.int x2)]) (rest := []) lm_8_181 rfl jM55 rfl rfl rfl rfl rfl) jM55 rfl (Or.inl rfl)).trans ?_
      refine jbi_c (fun r4 τ4 => ?_)
      exact sv_iret jM54 c54_34 rfl rfl
    ·
      refine (sv_ldc jM54 c54_18 rfl lc_8_180).trans ?_
      exact sv_iret jM54 c54_20 rfl rfl
set_option maxRecDepth 20000 in
set_option maxHeartbeats 4000000 in
theorem P_best_in (σ : jm_S) : jc 62 [(.ref 0)] σ = jbv (jc 49 [(.ref 0), (.int (200 : Int32))] σ) (fun τ1 => jbi (jc 63 [(.ref 0)] τ1) (fun r2 τ2 => some (some (.int r2), τ2))) := by
  refine (jc_of (ls1 := [some (.ref 0)]) ((jm_ini_of jM62).trans rfl)).trans ?_
  refine (sv_aload_n jM62 c62_0 rfl rfl).trans ?_
  refine (sv_sipush jM62 c62_1 rfl (v := 200) (by decide +kernel)).trans ?_
  refine (sv_callvv (pl := 0) jM62 c62_4 rfl (jm_call_v (a := 0) (as := [(.int (200 : Int32))]) (rest := []) lm_8_171 rfl jM49 rfl rfl rfl rfl rfl) jM49 rfl rfl).trans ?_
  refine jbv_c (fun τ1 => ?_)
  refine (sv_aload_n jM62 c62_7 rfl rfl).trans ?_
  refine (sv_callvi (pl := 0) jM62 c62_8 rfl (jm_call_v (a := 0) (as := []) (rest := []) lm_8_184 rfl jM63 rfl rfl rfl rfl rfl) jM63 rfl (Or.inl rfl)).trans ?_
  refine jbi_c (fun r2 τ2 => ?_)
  exact sv_iret jM62 c62_11 rfl rfl
set_option maxRecDepth 20000 in
set_option maxHeartbeats 4000000 in
theorem P_even_in (x1 : Int32) (x2 : Int32) (σ : jm_S) : jc 64 [(.ref 0), (.int x1), (.int x2)] σ = jbi (jc 1 [(.int x1), (.int (1 : Int32)), (.int (200 : Int32))] σ) (fun r1 τ1 => (if ¬ r1 = 0 then some (some (.int (-2 : Int32)), τ1) else jbi (jc 1 [(.int x2), (.int (0 : Int32)), (.int (2 : Int32))] τ1) (fun r2 τ2 => (if r2 = 0 then jbv (jc 65 [(.ref 0), (.int x1)] τ2) (fun τ3 => jbi (jc 67 [(.ref 35), (.int x2)] τ3) (fun r4 τ4 => some (some (.int r4), τ4))) else some (some (.int (-2 : Int32)), τ2))))) := by
  refine (jc_of (ls1 := [some (.ref 0), some (.int x1), some (.int x2)]) ((jm_ini_of jM64).trans rfl)).trans ?_
  refine (sv_iload_n jM64 c64_0 rfl rfl).trans ?_
  refine (sv_iconst jM64 c64_1 rfl (v := 1) (by decide +kernel)).trans ?_
  refine (sv_sipush jM64 c64_2 rfl (v := 200) (by decide +kernel)).trans ?_
  refine (sv_callsi (pl := 0) jM64 c64_5 rfl (jm_call_s (as := [(.int x1), (.int (1 : Int32)), (.int (200 : Int32))]) (rest := []) lm_8_86 rfl jM1 rfl rfl rfl rfl) jM1 rfl (Or.inr rfl)).trans ?_
  refine jbi_c (fun r1 τ1 => ?_)
  refine (sv_if_ne jM64 c64_8 rfl (t := 20) (by decide +kernel)).trans ?_
  refine jif _ ?_ ?_
  ·
    refine (sv_bipush jM64 c64_20 rfl (v := -2) (by decide +kernel)).trans ?_
    exact sv_iret jM64 c64_22 rfl rfl
  ·
    refine (sv_iload_n jM64 c64_11 rfl rfl).trans ?_
    refine (sv_iconst jM64 c64_12 rfl (v := 0) (by decide +kernel)).trans ?_
    refine (sv_iconst jM64 c64_13 rfl (v := 2) (by decide +kernel)).trans ?_
    refine (sv_callsi (pl := 0) jM64 c64_14 rfl (jm_call_s (as := [(.int x2), (.int (0 : Int32)), (.int (2 : Int32))]) (rest := []) lm_8_86 rfl jM1 rfl rfl rfl rfl) jM1 rfl (Or.inr rfl)).trans ?_
    refine jbi_c (fun r2 τ2 => ?_)
    refine (sv_if_eq jM64 c64_17 rfl (t := 23) (by decide +kernel)).trans ?_
    refine jif _ ?_ ?_
    ·
      refine (sv_aload_n jM64 c64_23 rfl rfl).trans ?_
      refine (sv_iload_n jM64 c64_24 rfl rfl).trans ?_
      refine (sv_callvv (pl := 0) jM64 c64_25 rfl (jm_call_v (a := 0) (as := [(.int x1)]) (rest := []) lm_8_188 rfl jM65 rfl rfl rfl rfl rfl) jM65 rfl rfl).trans ?_
      refine jbv_c (fun τ3 => ?_)
      refine (sv_aload_n jM64 c64_28 rfl rfl).trans ?_
      refine (sv_getf jM64 c64_29 rfl lf_8_60 (fg_0_7 _)).trans ?_
      refine (sv_iload_n jM64 c64_32 rfl rfl).trans ?_
      refine (sv_callvi (pl := 0) jM64 c64_33 rfl (jm_call_v (a := 35) (as := [(.int x2)]) (rest := []) lm_8_191 rfl jM67 rfl rfl rfl rfl rfl) jM67 rfl (Or.inl rfl)).trans ?_
      refine jbi_c (fun r4 τ4 => ?_)
      exact sv_iret jM64 c64_36 rfl rfl
    ·
      refine (sv_bipush jM64 c64_20 rfl (v := -2) (by decide +kernel)).trans ?_
      exact sv_iret jM64 c64_22 rfl rfl
set_option maxRecDepth 20000 in
set_option maxHeartbeats 4000000 in
theorem P_front_in (x1 : Int32) (x2 : Int32) (σ : jm_S) : jc 69 [(.ref 0), (.int x1), (.int x2)] σ = jbi (jc 1 [(.int x1), (.int (1 : Int32)), (.int (200 : Int32))] σ) (fun r1 τ1 => (if ¬ r1 = 0 then some (some (.int (-2 : Int32)), τ1) else (if (-1 : Int32) ≤ x2 then jbv (jc 65 [(.ref 0), (.int x1)] τ1) (fun τ2 => (if ¬ x2 = (-1 : Int32) then jbi (jc 73 [(.ref 35), (.int x2)] τ2) (fun r3 τ3 => some (some (.int r3), τ3)) else jbi (jc 70 [(.ref 35)] τ2) (fun r4 τ4 => some (some (.int r4), τ4)))) else some (some (.int (-2 : Int32)), τ1)))) := by
  refine (jc_of (ls1 := [some (.ref 0), some (.int x1), some (.int x2)]) ((jm_ini_of jM69).trans rfl)).trans ?_
  refine (sv_iload_n jM69 c69_0 rfl rfl).trans ?_
  refine (sv_iconst jM69 c69_1 rfl (v := 1) (by decide +kernel)).trans ?_
  refine (sv_sipush jM69 c69_2 rfl (v := 200) (by decide +kernel)).trans ?_
  refine (sv_callsi (pl := 0) jM69 c69_5 rfl (jm_call_s (as := [(.int x1), (.int (1 : Int32)), (.int (200 : Int32))]) (rest := []) lm_8_86 rfl jM1 rfl rfl rfl rfl) jM1 rfl (Or.inr rfl)).trans ?_
  refine jbi_c (fun r1 τ1 => ?_)
  refine (sv_if_ne jM69 c69_8 rfl (t := 16) (by decide +kernel)).trans ?_
  refine jif _ ?_ ?_
  ·
    refine (sv_bipush jM69 c69_16 rfl (v := -2) (by decide +kernel)).trans ?_
    exact sv_iret jM69 c69_18 rfl rfl
  ·
    refine (sv_iload_n jM69 c69_11 rfl rfl).trans ?_
    refine (sv_iconst jM69 c69_12 rfl (v := -1) (by decide +kernel)).trans ?_
    refine (sv_icmp_ge jM69 c69_13 rfl (t := 19) (by decide +kernel)).trans ?_
    refine jif _ ?_ ?_
    ·
      refine (sv_aload_n jM69 c69_19 rfl rfl).trans ?_
      refine (sv_iload_n jM69 c69_20 rfl rfl).trans ?_
      refine (sv_callvv (pl := 0) jM69 c69_21 rfl (jm_call_v (a := 0) (as := [(.int x1)]) (rest := []) lm_8_188 rfl jM65 rfl rfl rfl rfl rfl) jM65 rfl rfl).trans ?_
      refine jbv_c (fun τ2 => ?_)
      refine (sv_iload_n jM69 c69_24 rfl rfl).trans ?_
      refine (sv_iconst jM69 c69_25 rfl (v := -1) (by decide +kernel)).trans ?_
      refine (sv_icmp_ne jM69 c69_26 rfl (t := 39) (by decide +kernel)).trans ?_
      refine jif _ ?_ ?_
      ·
        refine (sv_aload_n jM69 c69_39 rfl rfl).trans ?_
        refine (sv_getf jM69 c69_40 rfl lf_8_60 (fg_0_7 _)).trans ?_
        refine (sv_iload_n jM69 c69_43 rfl rfl).trans ?_
        refine (sv_callvi (pl := 0) jM69 c69_44 rfl (jm_call_v (a := 35) (as := [(.int x2)]) (rest := []) lm_8_196 rfl jM73 rfl rfl rfl rfl rfl) jM73 rfl (Or.inl rfl)).trans ?_
        refine jbi_c (fun r3 τ3 => ?_)
        exact sv_iret jM69 c69_47 rfl rfl
      ·
        refine (sv_aload_n jM69 c69_29 rfl rfl).trans ?_
        refine (sv_getf jM69 c69_30 rfl lf_8_60 (fg_0_7 _)).trans ?_
        refine (sv_callvi (pl := 0) jM69 c69_33 rfl (jm_call_v (a := 35) (as := []) (rest := []) lm_8_193 rfl jM70 rfl rfl rfl rfl rfl) jM70 rfl (Or.inl rfl)).trans ?_
        refine jbi_c (fun r4 τ4 => ?_)
        refine (sv_goto jM69 c69_36 rfl (t := 47) (by decide +kernel)).trans ?_
        exact sv_iret jM69 c69_47 rfl rfl
    ·
      refine (sv_bipush jM69 c69_16 rfl (v := -2) (by decide +kernel)).trans ?_
      exact sv_iret jM69 c69_18 rfl rfl
set_option maxRecDepth 20000 in
set_option maxHeartbeats 4000000 in
theorem P_air_in (x1 : Int32) (x2 : Int32) (σ : jm_S) : jc 74 [(.ref 0), (.int x1), (.int x2)] σ = jbi (jc 1 [(.int x1), (.int (1 : Int32)), (.int (200 : Int32))] σ) (fun r1 τ1 => (if ¬ r1 = 0 then some (some (.int (-2 : Int32)), τ1) else jbi (jc 1 [(.int x2), (.int (0 : Int32)), (.int (1 : Int32))] τ1) (fun r2 τ2 => (if r2 = 0 then jv 74 31 [some (.ref 0), some (.int x1), some (.int x2), some (.int (-1 : Int32)), some (.int (-1 : Int32)), some (.int (0 : Int32)), none] [] τ2 else some (some (.int (-2 : Int32)), τ2))))) := by
  refine (jc_of (ls1 := [some (.ref 0), some (.int x1), some (.int x2), none, none, none, none]) ((jm_ini_of jM74).trans rfl)).trans ?_
  refine (sv_iload_n jM74 c74_0 rfl rfl).trans ?_
  refine (sv_iconst jM74 c74_1 rfl (v := 1) (by decide +kernel)).trans ?_
  refine (sv_sipush jM74 c74_2 rfl (v := 200) (by decide +kernel)).trans ?_
  refine (sv_callsi (pl := 0) jM74 c74_5 rfl (jm_call_s (as := [(.int x1), (.int (1 : Int32)), (.int (200 : Int32))]) (rest := []) lm_8_86 rfl jM1 rfl rfl rfl rfl) jM1 rfl (Or.inr rfl)).trans ?_
  refine jbi_c (fun r1 τ1 => ?_)
  refine (sv_if_ne jM74 c74_8 rfl (t := 20) (by decide +kernel)).trans ?_
  refine jif _ ?_ ?_
  ·
    refine (sv_bipush jM74 c74_20 rfl (v := -2) (by decide +kernel)).trans ?_
    exact sv_iret jM74 c74_22 rfl rfl
  ·
    refine (sv_iload_n jM74 c74_11 rfl rfl).trans ?_
    refine (sv_iconst jM74 c74_12 rfl (v := 0) (by decide +kernel)).trans ?_
    refine (sv_iconst jM74 c74_13 rfl (v := 1) (by decide +kernel)).trans ?_
    refine (sv_callsi (pl := 0) jM74 c74_14 rfl (jm_call_s (as := [(.int x2), (.int (0 : Int32)), (.int (1 : Int32))]) (rest := []) lm_8_86 rfl jM1 rfl rfl rfl rfl) jM1 rfl (Or.inr rfl)).trans ?_
    refine jbi_c (fun r2 τ2 => ?_)
    refine (sv_if_eq jM74 c74_17 rfl (t := 23) (by decide +kernel)).trans ?_
    refine jif _ ?_ ?_
    ·
      refine (sv_iconst jM74 c74_23 rfl (v := -1) (by decide +kernel)).trans ?_
      refine (sv_istore_n (ls1 := [some (.ref 0), some (.int x1), some (.int x2), some (.int (-1 : Int32)), none, none, none]) jM74 c74_24 rfl (Nat.lt_of_lt_of_eq (by decide +kernel : 3 < 7) rfl) rfl).trans ?_
      refine (sv_iconst jM74 c74_25 rfl (v := -1) (by decide +kernel)).trans ?_
      refine (sv_istore (ls1 := [some (.ref 0), some (.int x1), some (.int x2), some (.int (-1 : Int32)), some (.int (-1 : Int32)), none, none]) jM74 c74_26 rfl (Nat.lt_of_lt_of_eq (by decide +kernel : 4 < 7) rfl) rfl).trans ?_
      refine (sv_iconst jM74 c74_28 rfl (v := 0) (by decide +kernel)).trans ?_
      refine (sv_istore (ls1 := [some (.ref 0), some (.int x1), some (.int x2), some (.int (-1 : Int32)), some (.int (-1 : Int32)), some (.int (0 : Int32)), none]) jM74 c74_29 rfl (Nat.lt_of_lt_of_eq (by decide +kernel : 5 < 7) rfl) rfl).trans ?_
      rfl
    ·
      refine (sv_bipush jM74 c74_20 rfl (v := -2) (by decide +kernel)).trans ?_
      exact sv_iret jM74 c74_22 rfl rfl
set_option maxRecDepth 20000 in
set_option maxHeartbeats 4000000 in
theorem P_air_L31 (x1 : Int32) (x2 : Int32) (x3 : Int32) (x4 : Int32) (x5 : Int32) (u6 : Option Value) (σ : jm_S) : jv 74 31 [some (.ref 0), some (.int x1), some (.int x2), some (.int x3), some (.int x4), some (.int x5), u6] [] σ = (if (99 : Int32) < x5 then (if ¬ x2 = 0 then some (some (.int x4), σ) else some (some (.int x3), σ)) else jbv (jc 38 [(.ref 11), (.ref 1), (.int (σ 4 1)), (.int x5)] σ) (fun τ1 => jbv (jc 50 [(.ref 11), (.ref 6), (.int x1)] τ1) (fun τ2 => jbi (jc 59 [(.ref 11), (.int x1)] τ2) (fun r3 τ3 => (if r3 ≤ x4 then jv 74 31 [some (.ref 0), some (.int x1), some (.int x2), some (.int x3), some (.int x4), some (.int (x5 + 1)), some (.int r3)] [] τ3 else jv 74 31 [some (.ref 0), some (.int x1), some (.int x2), some (.int x5), some (.int r3), some (.int (x5 + 1)), some (.int r3)] [] τ3))))) := by
  refine (sv_iload jM74 c74_31 rfl rfl).trans ?_
  refine (sv_bipush jM74 c74_33 rfl (v := 99) (by decide +kernel)).trans ?_
  refine (sv_icmp_gt jM74 c74_35 rfl (t := 99) (by decide +kernel)).trans ?_
  refine jif _ ?_ ?_
  ·
    refine (sv_iload_n jM74 c74_99 rfl rfl).trans ?_
    refine (sv_if_ne jM74 c74_100 rfl (t := 107) (by decide +kernel)).trans ?_
    refine jif _ ?_ ?_
    ·
      refine (sv_iload jM74 c74_107 rfl rfl).trans ?_
      exact sv_iret jM74 c74_109 rfl rfl
    ·
      refine (sv_iload_n jM74 c74_103 rfl rfl).trans ?_
      refine (sv_goto jM74 c74_104 rfl (t := 109) (by decide +kernel)).trans ?_
      exact sv_iret jM74 c74_109 rfl rfl
  ·
    refine (sv_aload_n jM74 c74_38 rfl rfl).trans ?_
    refine (sv_getf jM74 c74_39 rfl lf_8_50 (fg_0_5 _)).trans ?_
    refine (sv_aload_n jM74 c74_42 rfl rfl).trans ?_
    refine (sv_getf jM74 c74_43 rfl lf_8_10 (fg_0_0 _)).trans ?_
    refine (sv_aload_n jM74 c74_46 rfl rfl).trans ?_
    refine (sv_getf jM74 c74_47 rfl lf_8_25 (fg_0_1 _)).trans ?_
    refine (sv_iconst jM74 c74_50 rfl (v := 1) (by decide +kernel)).trans ?_
    refine (sv_iald1 jM74 c74_51 rfl (ia_4 _) (by decide +kernel) (i := 1) (by decide +kernel)).trans ?_
    refine (sv_iload jM74 c74_52 rfl rfl).trans ?_
    refine (sv_callvv (pl := 0) jM74 c74_54 rfl (jm_call_v (a := 11) (as := [(.ref 1), (.int (σ 4 1)), (.int x5)]) (rest := []) lm_8_199 rfl jM38 rfl rfl rfl rfl rfl) jM38 rfl rfl).trans ?_
    refine jbv_c (fun τ1 => ?_)
    refine (sv_aload_n jM74 c74_57 rfl rfl).trans ?_
    refine (sv_getf jM74 c74_58 rfl lf_8_50 (fg_0_5 _)).trans ?_
    refine (sv_aload_n jM74 c74_61 rfl rfl).trans ?_
    refine (sv_getf jM74 c74_62 rfl lf_8_37 (fg_0_3 _)).trans ?_
    refine (sv_iload_n jM74 c74_65 rfl rfl).trans ?_
    refine (sv_callvv (pl := 0) jM74 c74_66 rfl (jm_call_v (a := 11) (as := [(.ref 6), (.int x1)]) (rest := []) lm_8_203 rfl jM50 rfl rfl rfl rfl rfl) jM50 rfl rfl).trans ?_
    refine jbv_c (fun τ2 => ?_)
    refine (sv_aload_n jM74 c74_69 rfl rfl).trans ?_
    refine (sv_getf jM74 c74_70 rfl lf_8_50 (fg_0_5 _)).trans ?_
    refine (sv_iload_n jM74 c74_73 rfl rfl).trans ?_
    refine (sv_callvi (pl := 0) jM74 c74_74 rfl (jm_call_v (a := 11) (as := [(.int x1)]) (rest := []) lm_8_206 rfl jM59 rfl rfl rfl rfl rfl) jM59 rfl (Or.inl rfl)).trans ?_
    refine jbi_c (fun r3 τ3 => ?_)
    refine (sv_istore (ls1 := [some (.ref 0), some (.int x1), some (.int x2), some (.int x3), some (.int x4), some (.int x5), some (.int r3)]) jM74 c74_77 rfl (Nat.lt_of_lt_of_eq (by decide +kernel : 6 < 7) rfl) rfl).trans ?_
    refine (sv_iload jM74 c74_79 rfl rfl).trans ?_
    refine (sv_iload jM74 c74_81 rfl rfl).trans ?_
    refine (sv_icmp_le jM74 c74_83 rfl (t := 93) (by decide +kernel)).trans ?_
    refine jif _ ?_ ?_
    ·
      refine (sv_iinc (ls1 := [some (.ref 0), some (.int x1), some (.int x2), some (.int x3), some (.int x4), some (.int (x5 + 1)), some (.int r3)]) jM74 c74_93 rfl rfl (v := 1) (by decide +kernel) rfl).trans ?_
      refine (sv_goto jM74 c74_96 rfl (t := 31) (by decide +kernel)).trans ?_
      rfl
    ·
      refine (sv_iload jM74 c74_86 rfl rfl).trans ?_
      refine (sv_istore_n (ls1 := [some (.ref 0), some (.int x1), some (.int x2), some (.int x5), some (.int x4), some (.int x5), some (.int r3)]) jM74 c74_88 rfl (Nat.lt_of_lt_of_eq (by decide +kernel : 3 < 7) rfl) rfl).trans ?_
      refine (sv_iload jM74 c74_89 rfl rfl).trans ?_
      refine (sv_istore (ls1 := [some (.ref 0), some (.int x1), some (.int x2), some (.int x5), some (.int r3), some (.int x5), some (.int r3)]) jM74 c74_91 rfl (Nat.lt_of_lt_of_eq (by decide +kernel : 4 < 7) rfl) rfl).trans ?_
      refine (sv_iinc (ls1 := [some (.ref 0), some (.int x1), some (.int x2), some (.int x5), some (.int r3), some (.int (x5 + 1)), some (.int r3)]) jM74 c74_93 rfl rfl (v := 1) (by decide +kernel) rfl).trans ?_
      refine (sv_goto jM74 c74_96 rfl (t := 31) (by decide +kernel)).trans ?_
      rfl
set_option maxRecDepth 20000 in
set_option maxHeartbeats 4000000 in
theorem P_shaken_in (x1 : Int32) (x2 : Int32) (σ : jm_S) : jc 75 [(.ref 0), (.int x1), (.int x2)] σ = jbi (jc 1 [(.int x1), (.int (1 : Int32)), (.int (200 : Int32))] σ) (fun r1 τ1 => (if ¬ r1 = 0 then some (some (.int (-2 : Int32)), τ1) else jbi (jc 1 [(.int x2), (.int (0 : Int32)), (.int (1 : Int32))] τ1) (fun r2 τ2 => (if r2 = 0 then jbv (jc 49 [(.ref 0), (.int x1)] τ2) (fun τ3 => jbi (jc 51 [(.ref 11), (.int x1)] τ3) (fun r4 τ4 => jbv (jc 37 [(.ref 0)] τ4) (fun τ5 => jv 75 47 [some (.ref 0), some (.int x1), some (.int x2), some (.int r4), some (.int (-1 : Int32)), some (.int (0 : Int32))] [] τ5))) else some (some (.int (-2 : Int32)), τ2))))) := by
  refine (jc_of (ls1 := [some (.ref 0), some (.int x1), some (.int x2), none, none, none]) ((jm_ini_of jM75).trans rfl)).trans ?_
  refine (sv_iload_n jM75 c75_0 rfl rfl).trans ?_
  refine (sv_iconst jM75 c75_1 rfl (v := 1) (by decide +kernel)).trans ?_
  refine (sv_sipush jM75 c75_2 rfl (v := 200) (by decide +kernel)).trans ?_
  refine (sv_callsi (pl := 0) jM75 c75_5 rfl (jm_call_s (as := [(.int x1), (.int (1 : Int32)), (.int (200 : Int32))]) (rest := []) lm_8_86 rfl jM1 rfl rfl rfl rfl) jM1 rfl (Or.inr rfl)).trans ?_
  refine jbi_c (fun r1 τ1 => ?_)
  refine (sv_if_ne jM75 c75_8 rfl (t := 20) (by decide +kernel)).trans ?_
  refine jif _ ?_ ?_
  ·
    refine (sv_bipush jM75 c75_20 rfl (v := -2) (by decide +kernel)).trans ?_
    exact sv_iret jM75 c75_22 rfl rfl
  ·
    refine (sv_iload_n jM75 c75_11 rfl rfl).trans ?_
    refine (sv_iconst jM75 c75_12 rfl (v := 0) (by decide +kernel)).trans ?_
    refine (sv_iconst jM75 c75_13 rfl (v := 1) (by decide +kernel)).trans ?_
    refine (sv_callsi (pl := 0) jM75 c75_14 rfl (jm_call_s (as := [(.int x2), (.int (0 : Int32)), (.int (1 : Int32))]) (rest := []) lm_8_86 rfl jM1 rfl rfl rfl rfl) jM1 rfl (Or.inr rfl)).trans ?_
    refine jbi_c (fun r2 τ2 => ?_)
    refine (sv_if_eq jM75 c75_17 rfl (t := 23) (by decide +kernel)).trans ?_
    refine jif _ ?_ ?_
    ·
      refine (sv_aload_n jM75 c75_23 rfl rfl).trans ?_
      refine (sv_iload_n jM75 c75_24 rfl rfl).trans ?_
      refine (sv_callvv (pl := 0) jM75 c75_25 rfl (jm_call_v (a := 0) (as := [(.int x1)]) (rest := []) lm_8_171 rfl jM49 rfl rfl rfl rfl rfl) jM49 rfl rfl).trans ?_
      refine jbv_c (fun τ3 => ?_)
      refine (sv_aload_n jM75 c75_28 rfl rfl).trans ?_
      refine (sv_getf jM75 c75_29 rfl lf_8_50 (fg_0_5 _)).trans ?_
      refine (sv_iload_n jM75 c75_32 rfl rfl).trans ?_
      refine (sv_callvi (pl := 0) jM75 c75_33 rfl (jm_call_v (a := 11) (as := [(.int x1)]) (rest := []) lm_8_174 rfl jM51 rfl rfl rfl rfl rfl) jM51 rfl (Or.inl rfl)).trans ?_
      refine jbi_c (fun r4 τ4 => ?_)
      refine (sv_istore_n (ls1 := [some (.ref 0), some (.int x1), some (.int x2), some (.int r4), none, none]) jM75 c75_36 rfl (Nat.lt_of_lt_of_eq (by decide +kernel : 3 < 6) rfl) rfl).trans ?_
      refine (sv_iconst jM75 c75_37 rfl (v := -1) (by decide +kernel)).trans ?_
      refine (sv_istore (ls1 := [some (.ref 0), some (.int x1), some (.int x2), some (.int r4), some (.int (-1 : Int32)), none]) jM75 c75_38 rfl (Nat.lt_of_lt_of_eq (by decide +kernel : 4 < 6) rfl) rfl).trans ?_
      refine (sv_aload_n jM75 c75_40 rfl rfl).trans ?_
      refine (sv_callvv (pl := 0) jM75 c75_41 rfl (jm_call_v (a := 0) (as := []) (rest := []) lm_8_161 rfl jM37 rfl rfl rfl rfl rfl) jM37 rfl rfl).trans ?_
      refine jbv_c (fun τ5 => ?_)
      refine (sv_iconst jM75 c75_44 rfl (v := 0) (by decide +kernel)).trans ?_
      refine (sv_istore (ls1 := [some (.ref 0), some (.int x1), some (.int x2), some (.int r4), some (.int (-1 : Int32)), some (.int (0 : Int32))]) jM75 c75_45 rfl (Nat.lt_of_lt_of_eq (by decide +kernel : 5 < 6) rfl) rfl).trans ?_
      rfl
    ·
      refine (sv_bipush jM75 c75_20 rfl (v := -2) (by decide +kernel)).trans ?_
      exact sv_iret jM75 c75_22 rfl rfl
set_option maxRecDepth 20000 in
set_option maxHeartbeats 4000000 in
theorem P_shaken_L47 (x1 : Int32) (x2 : Int32) (x3 : Int32) (x4 : Int32) (x5 : Int32) (σ : jm_S) : jv 75 47 [some (.ref 0), some (.int x1), some (.int x2), some (.int x3), some (.int x4), some (.int x5)] [] σ = (if x1 ≤ x5 then (if ¬ x2 = 0 then some (some (.int x3), σ) else some (some (.int x4), σ)) else (if (σ 1 2) ≤ x3 then (if ¬ x2 = 0 then some (some (.int x3), σ) else some (some (.int x4), σ)) else (if (σ 11 14) ≤ 0 then (if ¬ x2 = 0 then some (some (.int x3), σ) else some (some (.int x4), σ)) else jbv (jc 76 [(.ref 23), (.ref 11)] σ) (fun τ1 => (if x5 < 0 ∨ 200 ≤ x5.toNatClampNeg then none else (if x5 < 0 ∨ 200 ≤ x5.toNatClampNeg then none else (if x5 < 0 ∨ 200 ≤ x5.toNatClampNeg then none else jbv (jc 41 [(.ref 23), (.int (τ1 7 x5.toNatClampNeg)), (.int ((τ1 8 x5.toNatClampNeg) + (1 : Int32))), (.int (τ1 9 x5.toNatClampNeg))] τ1) (fun τ2 => jbv (jc 50 [(.ref 23), (.ref 6), (.int x1)] τ2) (fun τ3 => jbi (jc 51 [(.ref 23), (.int x1)] τ3) (fun r4 τ4 => (if r4 ≤ x3 then (if x5 < 0 ∨ 200 ≤ x5.toNatClampNeg then none else (if x5 < 0 ∨ 200 ≤ x5.toNatClampNeg then none else (if x5 < 0 ∨ 200 ≤ x5.toNatClampNeg then none else jbv (jc 41 [(.ref 11), (.int (τ4 7 x5.toNatClampNeg)), (.int (τ4 8 x5.toNatClampNeg)), (.int (τ4 9 x5.toNatClampNeg))] τ4) (fun τ5 => jv 75 47 [some (.ref 0), some (.int x1), some (.int x2), some (.int x3), some (.int x4), some (.int (x5 + 1))] [] τ5)))) else jbi (jc 51 [(.ref 23), (.int x1)] τ4) (fun r6 τ6 => (if x5 < 0 ∨ 200 ≤ x5.toNatClampNeg then none else (if x5 < 0 ∨ 200 ≤ x5.toNatClampNeg then none else (if x5 < 0 ∨ 200 ≤ x5.toNatClampNeg then none else jbv (jc 41 [(.ref 11), (.int (τ6 7 x5.toNatClampNeg)), (.int (τ6 8 x5.toNatClampNeg)), (.int (τ6 9 x5.toNatClampNeg))] τ6) (fun τ7 => jv 75 47 [some (.ref 0), some (.int x1), some (.int x2), some (.int r6), some (.int x5), some (.int (x5 + 1))] [] τ7)))))))))))))))) := by
  refine (sv_iload jM75 c75_47 rfl rfl).trans ?_
  refine (sv_iload_n jM75 c75_49 rfl rfl).trans ?_
  refine (sv_icmp_ge jM75 c75_50 rfl (t := 204) (by decide +kernel)).trans ?_
  refine jif _ ?_ ?_
  ·
    refine (sv_iload_n jM75 c75_204 rfl rfl).trans ?_
    refine (sv_if_ne jM75 c75_205 rfl (t := 213) (by decide +kernel)).trans ?_
    refine jif _ ?_ ?_
    ·
      refine (sv_iload_n jM75 c75_213 rfl rfl).trans ?_
      exact sv_iret jM75 c75_214 rfl rfl
    ·
      refine (sv_iload jM75 c75_208 rfl rfl).trans ?_
      refine (sv_goto jM75 c75_210 rfl (t := 214) (by decide +kernel)).trans ?_
      exact sv_iret jM75 c75_214 rfl rfl
  ·
    refine (sv_iload_n jM75 c75_53 rfl rfl).trans ?_
    refine (sv_aload_n jM75 c75_54 rfl rfl).trans ?_
    refine (sv_getf jM75 c75_55 rfl lf_8_10 (fg_0_0 _)).trans ?_
    refine (sv_getf jM75 c75_58 rfl lf_8_131 (fg_1_2 _)).trans ?_
    refine (sv_icmp_ge jM75 c75_61 rfl (t := 204) (by decide +kernel)).trans ?_
    refine jif _ ?_ ?_
    ·
      refine (sv_iload_n jM75 c75_204 rfl rfl).trans ?_
      refine (sv_if_ne jM75 c75_205 rfl (t := 213) (by decide +kernel)).trans ?_
      refine jif _ ?_ ?_
      ·
        refine (sv_iload_n jM75 c75_213 rfl rfl).trans ?_
        exact sv_iret jM75 c75_214 rfl rfl
      ·
        refine (sv_iload jM75 c75_208 rfl rfl).trans ?_
        refine (sv_goto jM75 c75_210 rfl (t := 214) (by decide +kernel)).trans ?_
        exact sv_iret jM75 c75_214 rfl rfl
    ·
      refine (sv_aload_n jM75 c75_64 rfl rfl).trans ?_
      refine (sv_getf jM75 c75_65 rfl lf_8_50 (fg_0_5 _)).trans ?_
      refine (sv_getf jM75 c75_68 rfl lf_8_209 (fg_11_14 _)).trans ?_
      refine (sv_if_le jM75 c75_71 rfl (t := 204) (by decide +kernel)).trans ?_
      refine jif _ ?_ ?_
      ·
        refine (sv_iload_n jM75 c75_204 rfl rfl).trans ?_
        refine (sv_if_ne jM75 c75_205 rfl (t := 213) (by decide +kernel)).trans ?_
        refine jif _ ?_ ?_
        ·
          refine (sv_iload_n jM75 c75_213 rfl rfl).trans ?_
          exact sv_iret jM75 c75_214 rfl rfl
        ·
          refine (sv_iload jM75 c75_208 rfl rfl).trans ?_
          refine (sv_goto jM75 c75_210 rfl (t := 214) (by decide +kernel)).trans ?_
          exact sv_iret jM75 c75_214 rfl rfl
      ·
        refine (sv_aload_n jM75 c75_74 rfl rfl).trans ?_
        refine (sv_getf jM75 c75_75 rfl lf_8_54 (fg_0_6 _)).trans ?_
        refine (sv_aload_n jM75 c75_78 rfl rfl).trans ?_
        refine (sv_getf jM75 c75_79 rfl lf_8_50 (fg_0_5 _)).trans ?_
        refine (sv_callvv (pl := 0) jM75 c75_82 rfl (jm_call_v (a := 23) (as := [(.ref 11)]) (rest := []) lm_8_212 rfl jM76 rfl rfl rfl rfl rfl) jM76 rfl rfl).trans ?_
        refine jbv_c (fun τ1 => ?_)
        refine (sv_aload_n jM75 c75_85 rfl rfl).trans ?_
        refine (sv_getf jM75 c75_86 rfl lf_8_54 (fg_0_6 _)).trans ?_
        refine (sv_aload_n jM75 c75_89 rfl rfl).trans ?_
        refine (sv_getf jM75 c75_90 rfl lf_8_37 (fg_0_3 _)).trans ?_
        refine (sv_getf jM75 c75_93 rfl lf_8_151 (fg_6_0 _)).trans ?_
        refine (sv_iload jM75 c75_96 rfl rfl).trans ?_
        refine (sv_iald jM75 c75_98 rfl (ia_7 _)).trans ?_
        refine jif _ rfl ?_
        refine (sv_aload_n jM75 c75_99 rfl rfl).trans ?_
        refine (sv_getf jM75 c75_100 rfl lf_8_37 (fg_0_3 _)).trans ?_
        refine (sv_getf jM75 c75_103 rfl lf_8_154 (fg_6_1 _)).trans ?_
        refine (sv_iload jM75 c75_106 rfl rfl).trans ?_
        refine (sv_iald jM75 c75_108 rfl (ia_8 _)).trans ?_
        refine jif _ rfl ?_
        refine (sv_iconst jM75 c75_109 rfl (v := 1) (by decide +kernel)).trans ?_
        refine (sv_iadd jM75 c75_110 rfl).trans ?_
        refine (sv_aload_n jM75 c75_111 rfl rfl).trans ?_
        refine (sv_getf jM75 c75_112 rfl lf_8_37 (fg_0_3 _)).trans ?_
        refine (sv_getf jM75 c75_115 rfl lf_8_157 (fg_6_2 _)).trans ?_
        refine (sv_iload jM75 c75_118 rfl rfl).trans ?_
        refine (sv_bald jM75 c75_120 rfl wi_9).trans ?_
        refine jif _ rfl ?_
        refine (sv_callvv (pl := 0) jM75 c75_121 rfl (jm_call_v (a := 23) (as := [(.int (τ1 7 x5.toNatClampNeg)), (.int ((τ1 8 x5.toNatClampNeg) + (1 : Int32))), (.int (τ1 9 x5.toNatClampNeg))]) (rest := []) lm_8_216 rfl jM41 rfl rfl rfl rfl rfl) jM41 rfl rfl).trans ?_
        refine jbv_c (fun τ2 => ?_)
        refine (sv_aload_n jM75 c75_124 rfl rfl).trans ?_
        refine (sv_getf jM75 c75_125 rfl lf_8_54 (fg_0_6 _)).trans ?_
        refine (sv_aload_n jM75 c75_128 rfl rfl).trans ?_
        refine (sv_getf jM75 c75_129 rfl lf_8_37 (fg_0_3 _)).trans ?_
        refine (sv_iload_n jM75 c75_132 rfl rfl).trans ?_
        refine (sv_callvv (pl := 0) jM75 c75_133 rfl (jm_call_v (a := 23) (as := [(.ref 6), (.int x1)]) (rest := []) lm_8_203 rfl jM50 rfl rfl rfl rfl rfl) jM50 rfl rfl).trans ?_
        refine jbv_c (fun τ3 => ?_)
        refine (sv_aload_n jM75 c75_136 rfl rfl).trans ?_
        refine (sv_getf jM75 c75_137 rfl lf_8_54 (fg_0_6 _)).trans ?_
        refine (sv_iload_n jM75 c75_140 rfl rfl).trans ?_
        refine (sv_callvi (pl := 0) jM75 c75_141 rfl (jm_call_v (a := 23) (as := [(.int x1)]) (rest := []) lm_8_174 rfl jM51 rfl rfl rfl rfl rfl) jM51 rfl (Or.inl rfl)).trans ?_
        refine jbi_c (fun r4 τ4 => ?_)
        refine (sv_iload_n jM75 c75_144 rfl rfl).trans ?_
        refine (sv_icmp_le jM75 c75_145 rfl (t := 161) (by decide +kernel)).trans ?_
        refine jif _ ?_ ?_
        ·
          refine (sv_aload_n jM75 c75_161 rfl rfl).trans ?_
          refine (sv_getf jM75 c75_162 rfl lf_8_50 (fg_0_5 _)).trans ?_
          refine (sv_aload_n jM75 c75_165 rfl rfl).trans ?_
          refine (sv_getf jM75 c75_166 rfl lf_8_37 (fg_0_3 _)).trans ?_
          refine (sv_getf jM75 c75_169 rfl lf_8_151 (fg_6_0 _)).trans ?_
          refine (sv_iload jM75 c75_172 rfl rfl).trans ?_
          refine (sv_iald jM75 c75_174 rfl (ia_7 _)).trans ?_
          refine jif _ rfl ?_
          refine (sv_aload_n jM75 c75_175 rfl rfl).trans ?_
          refine (sv_getf jM75 c75_176 rfl lf_8_37 (fg_0_3 _)).trans ?_
          refine (sv_getf jM75 c75_179 rfl lf_8_154 (fg_6_1 _)).trans ?_
          refine (sv_iload jM75 c75_182 rfl rfl).trans ?_
          refine (sv_iald jM75 c75_184 rfl (ia_8 _)).trans ?_
          refine jif _ rfl ?_
          refine (sv_aload_n jM75 c75_185 rfl rfl).trans ?_
          refine (sv_getf jM75 c75_186 rfl lf_8_37 (fg_0_3 _)).trans ?_
          refine (sv_getf jM75 c75_189 rfl lf_8_157 (fg_6_2 _)).trans ?_
          refine (sv_iload jM75 c75_192 rfl rfl).trans ?_
          refine (sv_bald jM75 c75_194 rfl wi_9).trans ?_
          refine jif _ rfl ?_
          refine (sv_callvv (pl := 0) jM75 c75_195 rfl (jm_call_v (a := 11) (as := [(.int (τ4 7 x5.toNatClampNeg)), (.int (τ4 8 x5.toNatClampNeg)), (.int (τ4 9 x5.toNatClampNeg))]) (rest := []) lm_8_216 rfl jM41 rfl rfl rfl rfl rfl) jM41 rfl rfl).trans ?_
          refine jbv_c (fun τ5 => ?_)
          refine (sv_iinc (ls1 := [some (.ref 0), some (.int x1), some (.int x2), some (.int x3), some (.int x4), some (.int (x5 + 1))]) jM75 c75_198 rfl rfl (v := 1) (by decide +kernel) rfl).trans ?_
          refine (sv_goto jM75 c75_201 rfl (t := 47) (by decide +kernel)).trans ?_
          rfl
        ·
          refine (sv_iload jM75 c75_148 rfl rfl).trans ?_
          refine (sv_istore (ls1 := [some (.ref 0), some (.int x1), some (.int x2), some (.int x3), some (.int x5), some (.int x5)]) jM75 c75_150 rfl (Nat.lt_of_lt_of_eq (by decide +kernel : 4 < 6) rfl) rfl).trans ?_
          refine (sv_aload_n jM75 c75_152 rfl rfl).trans ?_
          refine (sv_getf jM75 c75_153 rfl lf_8_54 (fg_0_6 _)).trans ?_
          refine (sv_iload_n jM75 c75_156 rfl rfl).trans ?_
          refine (sv_callvi (pl := 0) jM75 c75_157 rfl (jm_call_v (a := 23) (as := [(.int x1)]) (rest := []) lm_8_174 rfl jM51 rfl rfl rfl rfl rfl) jM51 rfl (Or.inl rfl)).trans ?_
          refine jbi_c (fun r6 τ6 => ?_)
          refine (sv_istore_n (ls1 := [some (.ref 0), some (.int x1), some (.int x2), some (.int r6), some (.int x5), some (.int x5)]) jM75 c75_160 rfl (Nat.lt_of_lt_of_eq (by decide +kernel : 3 < 6) rfl) rfl).trans ?_
          refine (sv_aload_n jM75 c75_161 rfl rfl).trans ?_
          refine (sv_getf jM75 c75_162 rfl lf_8_50 (fg_0_5 _)).trans ?_
          refine (sv_aload_n jM75 c75_165 rfl rfl).trans ?_
          refine (sv_getf jM75 c75_166 rfl lf_8_37 (fg_0_3 _)).trans ?_
          refine (sv_getf jM75 c75_169 rfl lf_8_151 (fg_6_0 _)).trans ?_
          refine (sv_iload jM75 c75_172 rfl rfl).trans ?_
          refine (sv_iald jM75 c75_174 rfl (ia_7 _)).trans ?_
          refine jif _ rfl ?_
          refine (sv_aload_n jM75 c75_175 rfl rfl).trans ?_
          refine (sv_getf jM75 c75_176 rfl lf_8_37 (fg_0_3 _)).trans ?_
          refine (sv_getf jM75 c75_179 rfl lf_8_154 (fg_6_1 _)).trans ?_
          refine (sv_iload jM75 c75_182 rfl rfl).trans ?_
          refine (sv_iald jM75 c75_184 rfl (ia_8 _)).trans ?_
          refine jif _ rfl ?_
          refine (sv_aload_n jM75 c75_185 rfl rfl).trans ?_
          refine (sv_getf jM75 c75_186 rfl lf_8_37 (fg_0_3 _)).trans ?_
          refine (sv_getf jM75 c75_189 rfl lf_8_157 (fg_6_2 _)).trans ?_
          refine (sv_iload jM75 c75_192 rfl rfl).trans ?_
          refine (sv_bald jM75 c75_194 rfl wi_9).trans ?_
          refine jif _ rfl ?_
          refine (sv_callvv (pl := 0) jM75 c75_195 rfl (jm_call_v (a := 11) (as := [(.int (τ6 7 x5.toNatClampNeg)), (.int (τ6 8 x5.toNatClampNeg)), (.int (τ6 9 x5.toNatClampNeg))]) (rest := []) lm_8_216 rfl jM41 rfl rfl rfl rfl rfl) jM41 rfl rfl).trans ?_
          refine jbv_c (fun τ7 => ?_)
          refine (sv_iinc (ls1 := [some (.ref 0), some (.int x1), some (.int x2), some (.int r6), some (.int x5), some (.int (x5 + 1))]) jM75 c75_198 rfl rfl (v := 1) (by decide +kernel) rfl).trans ?_
          refine (sv_goto jM75 c75_201 rfl (t := 47) (by decide +kernel)).trans ?_
          rfl
set_option maxRecDepth 20000 in
set_option maxHeartbeats 4000000 in
theorem P_late_in (x1 : Int32) (σ : jm_S) : jc 77 [(.ref 0), (.int x1)] σ = jbi (jc 11 [(.ref 1), (.int x1)] σ) (fun r1 τ1 => (if ¬ r1 = 0 then jbv (jc 49 [(.ref 0), (.int (200 : Int32))] τ1) (fun τ2 => jbi (jc 47 [(.ref 11), (.int x1), (.int (4 : Int32))] τ2) (fun r3 τ3 => jbv (jc 37 [(.ref 0)] τ3) (fun τ4 => jv 77 37 [some (.ref 0), some (.int x1), some (.int r3), some (.int (0 : Int32))] [] τ4))) else some (some (.int (-100002 : Int32)), τ1))) := by
  refine (jc_of (ls1 := [some (.ref 0), some (.int x1), none, none]) ((jm_ini_of jM77).trans rfl)).trans ?_
  refine (sv_aload_n jM77 c77_0 rfl rfl).trans ?_
  refine (sv_getf jM77 c77_1 rfl lf_8_10 (fg_0_0 _)).trans ?_
  refine (sv_iload_n jM77 c77_4 rfl rfl).trans ?_
  refine (sv_callvi (pl := 0) jM77 c77_5 rfl (jm_call_v (a := 1) (as := [(.int x1)]) (rest := []) lm_8_115 rfl jM11 rfl rfl rfl rfl rfl) jM11 rfl (Or.inr rfl)).trans ?_
  refine jbi_c (fun r1 τ1 => ?_)
  refine (sv_if_ne jM77 c77_8 rfl (t := 14) (by decide +kernel)).trans ?_
  refine jif _ ?_ ?_
  ·
    refine (sv_aload_n jM77 c77_14 rfl rfl).trans ?_
    refine (sv_sipush jM77 c77_15 rfl (v := 200) (by decide +kernel)).trans ?_
    refine (sv_callvv (pl := 0) jM77 c77_18 rfl (jm_call_v (a := 0) (as := [(.int (200 : Int32))]) (rest := []) lm_8_171 rfl jM49 rfl rfl rfl rfl rfl) jM49 rfl rfl).trans ?_
    refine jbv_c (fun τ2 => ?_)
    refine (sv_aload_n jM77 c77_21 rfl rfl).trans ?_
    refine (sv_getf jM77 c77_22 rfl lf_8_50 (fg_0_5 _)).trans ?_
    refine (sv_iload_n jM77 c77_25 rfl rfl).trans ?_
    refine (sv_iconst jM77 c77_26 rfl (v := 4) (by decide +kernel)).trans ?_
    refine (sv_callvi (pl := 0) jM77 c77_27 rfl (jm_call_v (a := 11) (as := [(.int x1), (.int (4 : Int32))]) (rest := []) lm_8_168 rfl jM47 rfl rfl rfl rfl rfl) jM47 rfl (Or.inl rfl)).trans ?_
    refine jbi_c (fun r3 τ3 => ?_)
    refine (sv_istore_n (ls1 := [some (.ref 0), some (.int x1), some (.int r3), none]) jM77 c77_30 rfl (Nat.lt_of_lt_of_eq (by decide +kernel : 2 < 4) rfl) rfl).trans ?_
    refine (sv_aload_n jM77 c77_31 rfl rfl).trans ?_
    refine (sv_callvv (pl := 0) jM77 c77_32 rfl (jm_call_v (a := 0) (as := []) (rest := []) lm_8_161 rfl jM37 rfl rfl rfl rfl rfl) jM37 rfl rfl).trans ?_
    refine jbv_c (fun τ4 => ?_)
    refine (sv_iconst jM77 c77_35 rfl (v := 0) (by decide +kernel)).trans ?_
    refine (sv_istore_n (ls1 := [some (.ref 0), some (.int x1), some (.int r3), some (.int (0 : Int32))]) jM77 c77_36 rfl (Nat.lt_of_lt_of_eq (by decide +kernel : 3 < 4) rfl) rfl).trans ?_
    rfl
  ·
    refine (sv_ldc jM77 c77_11 rfl lc_8_180).trans ?_
    exact sv_iret jM77 c77_13 rfl rfl
set_option maxRecDepth 20000 in
set_option maxHeartbeats 4000000 in
theorem P_late_L37 (x1 : Int32) (x2 : Int32) (x3 : Int32) (σ : jm_S) : jv 77 37 [some (.ref 0), some (.int x1), some (.int x2), some (.int x3)] [] σ = (if (σ 1 2) ≤ x3 then jbv (jc 50 [(.ref 11), (.ref 6), (.int (200 : Int32))] σ) (fun τ1 => jbi (jc 47 [(.ref 11), (.int x1), (.int (4 : Int32))] τ1) (fun r2 τ2 => (if x2 = (-1 : Int32) then some (some (.int (-100003 : Int32)), τ2) else (if ¬ r2 = (-1 : Int32) then some (some (.int (x2 - r2)), τ2) else some (some (.int (-100003 : Int32)), τ2))))) else (if x3 = x1 then jv 77 37 [some (.ref 0), some (.int x1), some (.int x2), some (.int (x3 + 1))] [] σ else jbv (jc 78 [(.ref 11), (.int x3)] σ) (fun τ3 => jv 77 37 [some (.ref 0), some (.int x1), some (.int x2), some (.int (x3 + 1))] [] τ3))) := by
  refine (sv_iload_n jM77 c77_37 rfl rfl).trans ?_
  refine (sv_aload_n jM77 c77_38 rfl rfl).trans ?_
  refine (sv_getf jM77 c77_39 rfl lf_8_10 (fg_0_0 _)).trans ?_
  refine (sv_getf jM77 c77_42 rfl lf_8_131 (fg_1_2 _)).trans ?_
  refine (sv_icmp_ge jM77 c77_45 rfl (t := 67) (by decide +kernel)).trans ?_
  refine jif _ ?_ ?_
  ·
    refine (sv_aload_n jM77 c77_67 rfl rfl).trans ?_
    refine (sv_getf jM77 c77_68 rfl lf_8_50 (fg_0_5 _)).trans ?_
    refine (sv_aload_n jM77 c77_71 rfl rfl).trans ?_
    refine (sv_getf jM77 c77_72 rfl lf_8_37 (fg_0_3 _)).trans ?_
    refine (sv_sipush jM77 c77_75 rfl (v := 200) (by decide +kernel)).trans ?_
    refine (sv_callvv (pl := 0) jM77 c77_78 rfl (jm_call_v (a := 11) (as := [(.ref 6), (.int (200 : Int32))]) (rest := []) lm_8_203 rfl jM50 rfl rfl rfl rfl rfl) jM50 rfl rfl).trans ?_
    refine jbv_c (fun τ1 => ?_)
    refine (sv_aload_n jM77 c77_81 rfl rfl).trans ?_
    refine (sv_getf jM77 c77_82 rfl lf_8_50 (fg_0_5 _)).trans ?_
    refine (sv_iload_n jM77 c77_85 rfl rfl).trans ?_
    refine (sv_iconst jM77 c77_86 rfl (v := 4) (by decide +kernel)).trans ?_
    refine (sv_callvi (pl := 0) jM77 c77_87 rfl (jm_call_v (a := 11) (as := [(.int x1), (.int (4 : Int32))]) (rest := []) lm_8_168 rfl jM47 rfl rfl rfl rfl rfl) jM47 rfl (Or.inl rfl)).trans ?_
    refine jbi_c (fun r2 τ2 => ?_)
    refine (sv_istore_n (ls1 := [some (.ref 0), some (.int x1), some (.int x2), some (.int r2)]) jM77 c77_90 rfl (Nat.lt_of_lt_of_eq (by decide +kernel : 3 < 4) rfl) rfl).trans ?_
    refine (sv_iload_n jM77 c77_91 rfl rfl).trans ?_
    refine (sv_iconst jM77 c77_92 rfl (v := -1) (by decide +kernel)).trans ?_
    refine (sv_icmp_eq jM77 c77_93 rfl (t := 101) (by decide +kernel)).trans ?_
    refine jif _ ?_ ?_
    ·
      refine (sv_ldc jM77 c77_101 rfl lc_8_223).trans ?_
      refine (sv_goto jM77 c77_103 rfl (t := 109) (by decide +kernel)).trans ?_
      exact sv_iret jM77 c77_109 rfl rfl
    ·
      refine (sv_iload_n jM77 c77_96 rfl rfl).trans ?_
      refine (sv_iconst jM77 c77_97 rfl (v := -1) (by decide +kernel)).trans ?_
      refine (sv_icmp_ne jM77 c77_98 rfl (t := 106) (by decide +kernel)).trans ?_
      refine jif _ ?_ ?_
      ·
        refine (sv_iload_n jM77 c77_106 rfl rfl).trans ?_
        refine (sv_iload_n jM77 c77_107 rfl rfl).trans ?_
        refine (sv_isub jM77 c77_108 rfl).trans ?_
        exact sv_iret jM77 c77_109 rfl rfl
      ·
        refine (sv_ldc jM77 c77_101 rfl lc_8_223).trans ?_
        refine (sv_goto jM77 c77_103 rfl (t := 109) (by decide +kernel)).trans ?_
        exact sv_iret jM77 c77_109 rfl rfl
  ·
    refine (sv_iload_n jM77 c77_48 rfl rfl).trans ?_
    refine (sv_iload_n jM77 c77_49 rfl rfl).trans ?_
    refine (sv_icmp_eq jM77 c77_50 rfl (t := 61) (by decide +kernel)).trans ?_
    refine jif _ ?_ ?_
    ·
      refine (sv_iinc (ls1 := [some (.ref 0), some (.int x1), some (.int x2), some (.int (x3 + 1))]) jM77 c77_61 rfl rfl (v := 1) (by decide +kernel) rfl).trans ?_
      refine (sv_goto jM77 c77_64 rfl (t := 37) (by decide +kernel)).trans ?_
      rfl
    ·
      refine (sv_aload_n jM77 c77_53 rfl rfl).trans ?_
      refine (sv_getf jM77 c77_54 rfl lf_8_50 (fg_0_5 _)).trans ?_
      refine (sv_iload_n jM77 c77_57 rfl rfl).trans ?_
      refine (sv_callvv (pl := 0) jM77 c77_58 rfl (jm_call_v (a := 11) (as := [(.int x3)]) (rest := []) lm_8_220 rfl jM78 rfl rfl rfl rfl rfl) jM78 rfl rfl).trans ?_
      refine jbv_c (fun τ3 => ?_)
      refine (sv_iinc (ls1 := [some (.ref 0), some (.int x1), some (.int x2), some (.int (x3 + 1))]) jM77 c77_61 rfl rfl (v := 1) (by decide +kernel) rfl).trans ?_
      refine (sv_goto jM77 c77_64 rfl (t := 37) (by decide +kernel)).trans ?_
      rfl
set_option maxRecDepth 20000 in
set_option maxHeartbeats 4000000 in
theorem P_sieved_in (x1 : Int32) (x2 : Int32) (x3 : Int32) (σ : jm_S) : jc 79 [(.ref 0), (.int x1), (.int x2), (.int x3)] σ = jbi (jc 1 [(.int x1), (.int (1 : Int32)), (.int (9 : Int32))] σ) (fun r1 τ1 => (if ¬ r1 = 0 then some (some (.int (-2 : Int32)), τ1) else jbi (jc 1 [(.int x2), (.int (1 : Int32)), (.int (200 : Int32))] τ1) (fun r2 τ2 => (if ¬ r2 = 0 then some (some (.int (-2 : Int32)), τ2) else jbi (jc 1 [(.int x3), (.int (0 : Int32)), (.int (3 : Int32))] τ2) (fun r3 τ3 => (if r3 = 0 then jbv (jc 80 [(.ref 0), (.int x1), (.int x2)] τ3) (fun τ4 => jbi (jc 81 [(.ref 0), (.int x2), (.int x3)] τ4) (fun r5 τ5 => some (some (.int r5), τ5))) else some (some (.int (-2 : Int32)), τ3))))))) := by
  refine (jc_of (ls1 := [some (.ref 0), some (.int x1), some (.int x2), some (.int x3)]) ((jm_ini_of jM79).trans rfl)).trans ?_
  refine (sv_iload_n jM79 c79_0 rfl rfl).trans ?_
  refine (sv_gets jM79 c79_1 rfl ls_8_224).trans ?_
  refine (sv_iconst jM79 c79_4 rfl (v := 2) (by decide +kernel)).trans ?_
  refine (sv_iald1 jM79 c79_5 rfl (ia_1000 _) (by decide +kernel) (i := 2) (by decide +kernel)).trans ?_
  refine (sv_gets jM79 c79_6 rfl ls_8_227).trans ?_
  refine (sv_iconst jM79 c79_9 rfl (v := 2) (by decide +kernel)).trans ?_
  refine (sv_iald1 jM79 c79_10 rfl (ia_1001 _) (by decide +kernel) (i := 2) (by decide +kernel)).trans ?_
  refine (sv_callsi (pl := 0) jM79 c79_11 rfl (jm_call_s (as := [(.int x1), (.int (1 : Int32)), (.int (9 : Int32))]) (rest := []) lm_8_86 rfl jM1 rfl rfl rfl rfl) jM1 rfl (Or.inr rfl)).trans ?_
  refine jbi_c (fun r1 τ1 => ?_)
  refine (sv_if_ne jM79 c79_14 rfl (t := 37) (by decide +kernel)).trans ?_
  refine jif _ ?_ ?_
  ·
    refine (sv_bipush jM79 c79_37 rfl (v := -2) (by decide +kernel)).trans ?_
    exact sv_iret jM79 c79_39 rfl rfl
  ·
    refine (sv_iload_n jM79 c79_17 rfl rfl).trans ?_
    refine (sv_iconst jM79 c79_18 rfl (v := 1) (by decide +kernel)).trans ?_
    refine (sv_sipush jM79 c79_19 rfl (v := 200) (by decide +kernel)).trans ?_
    refine (sv_callsi (pl := 0) jM79 c79_22 rfl (jm_call_s (as := [(.int x2), (.int (1 : Int32)), (.int (200 : Int32))]) (rest := []) lm_8_86 rfl jM1 rfl rfl rfl rfl) jM1 rfl (Or.inr rfl)).trans ?_
    refine jbi_c (fun r2 τ2 => ?_)
    refine (sv_if_ne jM79 c79_25 rfl (t := 37) (by decide +kernel)).trans ?_
    refine jif _ ?_ ?_
    ·
      refine (sv_bipush jM79 c79_37 rfl (v := -2) (by decide +kernel)).trans ?_
      exact sv_iret jM79 c79_39 rfl rfl
    ·
      refine (sv_iload_n jM79 c79_28 rfl rfl).trans ?_
      refine (sv_iconst jM79 c79_29 rfl (v := 0) (by decide +kernel)).trans ?_
      refine (sv_iconst jM79 c79_30 rfl (v := 3) (by decide +kernel)).trans ?_
      refine (sv_callsi (pl := 0) jM79 c79_31 rfl (jm_call_s (as := [(.int x3), (.int (0 : Int32)), (.int (3 : Int32))]) (rest := []) lm_8_86 rfl jM1 rfl rfl rfl rfl) jM1 rfl (Or.inr rfl)).trans ?_
      refine jbi_c (fun r3 τ3 => ?_)
      refine (sv_if_eq jM79 c79_34 rfl (t := 40) (by decide +kernel)).trans ?_
      refine jif _ ?_ ?_
      ·
        refine (sv_aload_n jM79 c79_40 rfl rfl).trans ?_
        refine (sv_iload_n jM79 c79_41 rfl rfl).trans ?_
        refine (sv_iload_n jM79 c79_42 rfl rfl).trans ?_
        refine (sv_callvv (pl := 0) jM79 c79_43 rfl (jm_call_v (a := 0) (as := [(.int x1), (.int x2)]) (rest := []) lm_8_230 rfl jM80 rfl rfl rfl rfl rfl) jM80 rfl rfl).trans ?_
        refine jbv_c (fun τ4 => ?_)
        refine (sv_aload_n jM79 c79_46 rfl rfl).trans ?_
        refine (sv_iload_n jM79 c79_47 rfl rfl).trans ?_
        refine (sv_iload_n jM79 c79_48 rfl rfl).trans ?_
        refine (sv_callvi (pl := 0) jM79 c79_49 rfl (jm_call_v (a := 0) (as := [(.int x2), (.int x3)]) (rest := []) lm_8_234 rfl jM81 rfl rfl rfl rfl rfl) jM81 rfl (Or.inl rfl)).trans ?_
        refine jbi_c (fun r5 τ5 => ?_)
        exact sv_iret jM79 c79_52 rfl rfl
      ·
        refine (sv_bipush jM79 c79_37 rfl (v := -2) (by decide +kernel)).trans ?_
        exact sv_iret jM79 c79_39 rfl rfl
set_option maxRecDepth 20000 in
set_option maxHeartbeats 4000000 in
theorem P_jar_in (x1 : Int32) (x2 : Int32) (x3 : Int32) (σ : jm_S) : jc 82 [(.ref 0), (.int x1), (.int x2), (.int x3)] σ = jbi (jc 83 [(.int x1)] σ) (fun r1 τ1 => (if ¬ r1 = 0 then some (some (.int (-2 : Int32)), τ1) else jbi (jc 1 [(.int x2), (.int (0 : Int32)), (.int (99 : Int32))] τ1) (fun r2 τ2 => (if ¬ r2 = 0 then some (some (.int (-2 : Int32)), τ2) else jbi (jc 1 [(.int x3), (.int (0 : Int32)), (.int (60 : Int32))] τ2) (fun r3 τ3 => (if r3 = 0 then jv 82 36 [some (.ref 0), some (.int x1), some (.int x2), some (.int x3), some (.int x1), some (.int (0 : Int32))] [] τ3 else some (some (.int (-2 : Int32)), τ3))))))) := by
  refine (jc_of (ls1 := [some (.ref 0), some (.int x1), some (.int x2), some (.int x3), none, none]) ((jm_ini_of jM82).trans rfl)).trans ?_
  refine (sv_iload_n jM82 c82_0 rfl rfl).trans ?_
  refine (sv_callsi (pl := 0) jM82 c82_1 rfl (jm_call_s (as := [(.int x1)]) (rest := []) lm_8_237 rfl jM83 rfl rfl rfl rfl) jM83 rfl (Or.inr rfl)).trans ?_
  refine jbi_c (fun r1 τ1 => ?_)
  refine (sv_if_ne jM82 c82_4 rfl (t := 27) (by decide +kernel)).trans ?_
  refine jif _ ?_ ?_
  ·
    refine (sv_bipush jM82 c82_27 rfl (v := -2) (by decide +kernel)).trans ?_
    exact sv_iret jM82 c82_29 rfl rfl
  ·
    refine (sv_iload_n jM82 c82_7 rfl rfl).trans ?_
    refine (sv_iconst jM82 c82_8 rfl (v := 0) (by decide +kernel)).trans ?_
    refine (sv_bipush jM82 c82_9 rfl (v := 99) (by decide +kernel)).trans ?_
    refine (sv_callsi (pl := 0) jM82 c82_11 rfl (jm_call_s (as := [(.int x2), (.int (0 : Int32)), (.int (99 : Int32))]) (rest := []) lm_8_86 rfl jM1 rfl rfl rfl rfl) jM1 rfl (Or.inr rfl)).trans ?_
    refine jbi_c (fun r2 τ2 => ?_)
    refine (sv_if_ne jM82 c82_14 rfl (t := 27) (by decide +kernel)).trans ?_
    refine jif _ ?_ ?_
    ·
      refine (sv_bipush jM82 c82_27 rfl (v := -2) (by decide +kernel)).trans ?_
      exact sv_iret jM82 c82_29 rfl rfl
    ·
      refine (sv_iload_n jM82 c82_17 rfl rfl).trans ?_
      refine (sv_iconst jM82 c82_18 rfl (v := 0) (by decide +kernel)).trans ?_
      refine (sv_bipush jM82 c82_19 rfl (v := 60) (by decide +kernel)).trans ?_
      refine (sv_callsi (pl := 0) jM82 c82_21 rfl (jm_call_s (as := [(.int x3), (.int (0 : Int32)), (.int (60 : Int32))]) (rest := []) lm_8_86 rfl jM1 rfl rfl rfl rfl) jM1 rfl (Or.inr rfl)).trans ?_
      refine jbi_c (fun r3 τ3 => ?_)
      refine (sv_if_eq jM82 c82_24 rfl (t := 30) (by decide +kernel)).trans ?_
      refine jif _ ?_ ?_
      ·
        refine (sv_iload_n jM82 c82_30 rfl rfl).trans ?_
        refine (sv_istore (ls1 := [some (.ref 0), some (.int x1), some (.int x2), some (.int x3), some (.int x1), none]) jM82 c82_31 rfl (Nat.lt_of_lt_of_eq (by decide +kernel : 4 < 6) rfl) rfl).trans ?_
        refine (sv_iconst jM82 c82_33 rfl (v := 0) (by decide +kernel)).trans ?_
        refine (sv_istore (ls1 := [some (.ref 0), some (.int x1), some (.int x2), some (.int x3), some (.int x1), some (.int (0 : Int32))]) jM82 c82_34 rfl (Nat.lt_of_lt_of_eq (by decide +kernel : 5 < 6) rfl) rfl).trans ?_
        rfl
      ·
        refine (sv_bipush jM82 c82_27 rfl (v := -2) (by decide +kernel)).trans ?_
        exact sv_iret jM82 c82_29 rfl rfl
set_option maxRecDepth 20000 in
set_option maxHeartbeats 4000000 in
theorem P_jar_L36 (x1 : Int32) (x2 : Int32) (x3 : Int32) (x4 : Int32) (x5 : Int32) (σ : jm_S) : jv 82 36 [some (.ref 0), some (.int x1), some (.int x2), some (.int x3), some (.int x4), some (.int x5)] [] σ = (if x3 ≤ x5 then some (some (.int x4), σ) else jbi (jc 84 [(.int x4), (.int x2)] σ) (fun r1 τ1 => jv 82 36 [some (.ref 0), some (.int x1), some (.int x2), some (.int x3), some (.int r1), some (.int (x5 + 1))] [] τ1)) := by
  refine (sv_iload jM82 c82_36 rfl rfl).trans ?_
  refine (sv_iload_n jM82 c82_38 rfl rfl).trans ?_
  refine (sv_icmp_ge jM82 c82_39 rfl (t := 56) (by decide +kernel)).trans ?_
  refine jif _ ?_ ?_
  ·
    refine (sv_iload jM82 c82_56 rfl rfl).trans ?_
    exact sv_iret jM82 c82_58 rfl rfl
  ·
    refine (sv_iload jM82 c82_42 rfl rfl).trans ?_
    refine (sv_iload_n jM82 c82_44 rfl rfl).trans ?_
    refine (sv_callsi (pl := 0) jM82 c82_45 rfl (jm_call_s (as := [(.int x4), (.int x2)]) (rest := []) lm_8_240 rfl jM84 rfl rfl rfl rfl) jM84 rfl (Or.inl rfl)).trans ?_
    refine jbi_c (fun r1 τ1 => ?_)
    refine (sv_istore (ls1 := [some (.ref 0), some (.int x1), some (.int x2), some (.int x3), some (.int r1), some (.int x5)]) jM82 c82_48 rfl (Nat.lt_of_lt_of_eq (by decide +kernel : 4 < 6) rfl) rfl).trans ?_
    refine (sv_iinc (ls1 := [some (.ref 0), some (.int x1), some (.int x2), some (.int x3), some (.int r1), some (.int (x5 + 1))]) jM82 c82_50 rfl rfl (v := 1) (by decide +kernel) rfl).trans ?_
    refine (sv_goto jM82 c82_53 rfl (t := 36) (by decide +kernel)).trans ?_
    rfl
set_option maxRecDepth 20000 in
set_option maxHeartbeats 4000000 in
theorem P_length_in (x1 : Int32) (x2 : Int32) (x3 : Int32) (x4 : Int32) (σ : jm_S) : jc 85 [(.ref 0), (.int x1), (.int x2), (.int x3), (.int x4)] σ = jbi (jc 83 [(.int x1)] σ) (fun r1 τ1 => (if ¬ r1 = 0 then some (some (.int (-2 : Int32)), τ1) else jbi (jc 1 [(.int x2), (.int (0 : Int32)), (.int (99 : Int32))] τ1) (fun r2 τ2 => (if ¬ r2 = 0 then some (some (.int (-2 : Int32)), τ2) else jbi (jc 83 [(.int x3)] τ2) (fun r3 τ3 => (if ¬ r3 = 0 then some (some (.int (-2 : Int32)), τ3) else jbi (jc 83 [(.int x4)] τ3) (fun r4 τ4 => (if ¬ r4 = 0 then some (some (.int (-2 : Int32)), τ4) else (if x3 ≤ x4 then jv 85 47 [some (.ref 0), some (.int x1), some (.int x2), some (.int x3), some (.int x4), some (.int x1), some (.int (0 : Int32))] [] τ4 else some (some (.int (-2 : Int32)), τ4)))))))))) := by
  refine (jc_of (ls1 := [some (.ref 0), some (.int x1), some (.int x2), some (.int x3), some (.int x4), none, none]) ((jm_ini_of jM85).trans rfl)).trans ?_
  refine (sv_iload_n jM85 c85_0 rfl rfl).trans ?_
  refine (sv_callsi (pl := 0) jM85 c85_1 rfl (jm_call_s (as := [(.int x1)]) (rest := []) lm_8_237 rfl jM83 rfl rfl rfl rfl) jM83 rfl (Or.inr rfl)).trans ?_
  refine jbi_c (fun r1 τ1 => ?_)
  refine (sv_if_ne jM85 c85_4 rfl (t := 38) (by decide +kernel)).trans ?_
  refine jif _ ?_ ?_
  ·
    refine (sv_bipush jM85 c85_38 rfl (v := -2) (by decide +kernel)).trans ?_
    exact sv_iret jM85 c85_40 rfl rfl
  ·
    refine (sv_iload_n jM85 c85_7 rfl rfl).trans ?_
    refine (sv_iconst jM85 c85_8 rfl (v := 0) (by decide +kernel)).trans ?_
    refine (sv_bipush jM85 c85_9 rfl (v := 99) (by decide +kernel)).trans ?_
    refine (sv_callsi (pl := 0) jM85 c85_11 rfl (jm_call_s (as := [(.int x2), (.int (0 : Int32)), (.int (99 : Int32))]) (rest := []) lm_8_86 rfl jM1 rfl rfl rfl rfl) jM1 rfl (Or.inr rfl)).trans ?_
    refine jbi_c (fun r2 τ2 => ?_)
    refine (sv_if_ne jM85 c85_14 rfl (t := 38) (by decide +kernel)).trans ?_
    refine jif _ ?_ ?_
    ·
      refine (sv_bipush jM85 c85_38 rfl (v := -2) (by decide +kernel)).trans ?_
      exact sv_iret jM85 c85_40 rfl rfl
    ·
      refine (sv_iload_n jM85 c85_17 rfl rfl).trans ?_
      refine (sv_callsi (pl := 0) jM85 c85_18 rfl (jm_call_s (as := [(.int x3)]) (rest := []) lm_8_237 rfl jM83 rfl rfl rfl rfl) jM83 rfl (Or.inr rfl)).trans ?_
      refine jbi_c (fun r3 τ3 => ?_)
      refine (sv_if_ne jM85 c85_21 rfl (t := 38) (by decide +kernel)).trans ?_
      refine jif _ ?_ ?_
      ·
        refine (sv_bipush jM85 c85_38 rfl (v := -2) (by decide +kernel)).trans ?_
        exact sv_iret jM85 c85_40 rfl rfl
      ·
        refine (sv_iload jM85 c85_24 rfl rfl).trans ?_
        refine (sv_callsi (pl := 0) jM85 c85_26 rfl (jm_call_s (as := [(.int x4)]) (rest := []) lm_8_237 rfl jM83 rfl rfl rfl rfl) jM83 rfl (Or.inr rfl)).trans ?_
        refine jbi_c (fun r4 τ4 => ?_)
        refine (sv_if_ne jM85 c85_29 rfl (t := 38) (by decide +kernel)).trans ?_
        refine jif _ ?_ ?_
        ·
          refine (sv_bipush jM85 c85_38 rfl (v := -2) (by decide +kernel)).trans ?_
          exact sv_iret jM85 c85_40 rfl rfl
        ·
          refine (sv_iload_n jM85 c85_32 rfl rfl).trans ?_
          refine (sv_iload jM85 c85_33 rfl rfl).trans ?_
          refine (sv_icmp_le jM85 c85_35 rfl (t := 41) (by decide +kernel)).trans ?_
          refine jif _ ?_ ?_
          ·
            refine (sv_iload_n jM85 c85_41 rfl rfl).trans ?_
            refine (sv_istore (ls1 := [some (.ref 0), some (.int x1), some (.int x2), some (.int x3), some (.int x4), some (.int x1), none]) jM85 c85_42 rfl (Nat.lt_of_lt_of_eq (by decide +kernel : 5 < 7) rfl) rfl).trans ?_
            refine (sv_iconst jM85 c85_44 rfl (v := 0) (by decide +kernel)).trans ?_
            refine (sv_istore (ls1 := [some (.ref 0), some (.int x1), some (.int x2), some (.int x3), some (.int x4), some (.int x1), some (.int (0 : Int32))]) jM85 c85_45 rfl (Nat.lt_of_lt_of_eq (by decide +kernel : 6 < 7) rfl) rfl).trans ?_
            rfl
          ·
            refine (sv_bipush jM85 c85_38 rfl (v := -2) (by decide +kernel)).trans ?_
            exact sv_iret jM85 c85_40 rfl rfl
set_option maxRecDepth 20000 in
set_option maxHeartbeats 4000000 in
theorem P_length_L47 (x1 : Int32) (x2 : Int32) (x3 : Int32) (x4 : Int32) (x5 : Int32) (x6 : Int32) (σ : jm_S) : jv 85 47 [some (.ref 0), some (.int x1), some (.int x2), some (.int x3), some (.int x4), some (.int x5), some (.int x6)] [] σ = (if (60 : Int32) < x6 then some (some (.int (-1 : Int32)), σ) else jbi (jc 1 [(.int x5), (.int x3), (.int x4)] σ) (fun r1 τ1 => (if ¬ r1 = 0 then jbi (jc 84 [(.int x5), (.int x2)] τ1) (fun r2 τ2 => jv 85 47 [some (.ref 0), some (.int x1), some (.int x2), some (.int x3), some (.int x4), some (.int r2), some (.int (x6 + 1))] [] τ2) else some (some (.int x6), τ1)))) := by
  refine (sv_iload jM85 c85_47 rfl rfl).trans ?_
  refine (sv_bipush jM85 c85_49 rfl (v := 60) (by decide +kernel)).trans ?_
  refine (sv_icmp_gt jM85 c85_51 rfl (t := 82) (by decide +kernel)).trans ?_
  refine jif _ ?_ ?_
  ·
    refine (sv_iconst jM85 c85_82 rfl (v := -1) (by decide +kernel)).trans ?_
    exact sv_iret jM85 c85_83 rfl rfl
  ·
    refine (sv_iload jM85 c85_54 rfl rfl).trans ?_
    refine (sv_iload_n jM85 c85_56 rfl rfl).trans ?_
    refine (sv_iload jM85 c85_57 rfl rfl).trans ?_
    refine (sv_callsi (pl := 0) jM85 c85_59 rfl (jm_call_s (as := [(.int x5), (.int x3), (.int x4)]) (rest := []) lm_8_86 rfl jM1 rfl rfl rfl rfl) jM1 rfl (Or.inr rfl)).trans ?_
    refine jbi_c (fun r1 τ1 => ?_)
    refine (sv_if_ne jM85 c85_62 rfl (t := 68) (by decide +kernel)).trans ?_
    refine jif _ ?_ ?_
    ·
      refine (sv_iload jM85 c85_68 rfl rfl).trans ?_
      refine (sv_iload_n jM85 c85_70 rfl rfl).trans ?_
      refine (sv_callsi (pl := 0) jM85 c85_71 rfl (jm_call_s (as := [(.int x5), (.int x2)]) (rest := []) lm_8_240 rfl jM84 rfl rfl rfl rfl) jM84 rfl (Or.inl rfl)).trans ?_
      refine jbi_c (fun r2 τ2 => ?_)
      refine (sv_istore (ls1 := [some (.ref 0), some (.int x1), some (.int x2), some (.int x3), some (.int x4), some (.int r2), some (.int x6)]) jM85 c85_74 rfl (Nat.lt_of_lt_of_eq (by decide +kernel : 5 < 7) rfl) rfl).trans ?_
      refine (sv_iinc (ls1 := [some (.ref 0), some (.int x1), some (.int x2), some (.int x3), some (.int x4), some (.int r2), some (.int (x6 + 1))]) jM85 c85_76 rfl rfl (v := 1) (by decide +kernel) rfl).trans ?_
      refine (sv_goto jM85 c85_79 rfl (t := 47) (by decide +kernel)).trans ?_
      rfl
    ·
      refine (sv_iload jM85 c85_65 rfl rfl).trans ?_
      exact sv_iret jM85 c85_67 rfl rfl
set_option maxRecDepth 20000 in
set_option maxHeartbeats 4000000 in
theorem P_cracked_in (x1 : Int32) (x2 : Int32) (x3 : Int32) (x4 : Int32) (x5 : Int32) (σ : jm_S) : jc 86 [(.ref 0), (.int x1), (.int x2), (.int x3), (.int x4), (.int x5)] σ = jbi (jc 87 [(.int x1), (.int x3), (.int x4)] σ) (fun r1 τ1 => (if ¬ r1 = 0 then some (some (.long (-9223372036854775806 : Int64)), τ1) else jbi (jc 1 [(.int x2), (.int (0 : Int32)), (.int x1)] τ1) (fun r2 τ2 => (if ¬ r2 = 0 then some (some (.long (-9223372036854775806 : Int64)), τ2) else jbi (jc 1 [(.int x5), (.int (0 : Int32)), (.int (1 : Int32))] τ2) (fun r3 τ3 => (if r3 = 0 then jbl (jc 88 [(.int x1), (.int x2), (.int x3), (.int x4)] τ3) (fun r4 τ4 => jbl (jc 89 [(.int x1), (.int x3)] τ4) (fun r5 τ5 => jbl (jc 90 [(.long r4), (.long r5)] τ5) (fun r6 τ6 => (if ¬ x5 = 0 then (if (if r6 < (1 : Int64) then (1 : Int64) else r6) = 0 then none else some (some (.long (r5 / (if r6 < (1 : Int64) then (1 : Int64) else r6))), τ6)) else (if (if r6 < (1 : Int64) then (1 : Int64) else r6) = 0 then none else some (some (.long (r4 / (if r6 < (1 : Int64) then (1 : Int64) else r6))), τ6)))))) else some (some (.long (-9223372036854775806 : Int64)), τ3))))))) := by
  refine (jc_of (ls1 := [some (.ref 0), some (.int x1), some (.int x2), some (.int x3), some (.int x4), some (.int x5), none, none, none, none, none, none]) ((jm_ini_of jM86).trans rfl)).trans ?_
  refine (sv_iload_n jM86 c86_0 rfl rfl).trans ?_
  refine (sv_iload_n jM86 c86_1 rfl rfl).trans ?_
  refine (sv_iload jM86 c86_2 rfl rfl).trans ?_
  refine (sv_callsi (pl := 0) jM86 c86_4 rfl (jm_call_s (as := [(.int x1), (.int x3), (.int x4)]) (rest := []) lm_8_243 rfl jM87 rfl rfl rfl rfl) jM87 rfl (Or.inr rfl)).trans ?_
  refine jbi_c (fun r1 τ1 => ?_)
  refine (sv_if_ne jM86 c86_7 rfl (t := 29) (by decide +kernel)).trans ?_
  refine jif _ ?_ ?_
  ·
    refine (sv_ldc2 jM86 c86_29 rfl ll_8_246).trans ?_
    exact sv_lret jM86 c86_32 rfl rfl
  ·
    refine (sv_iload_n jM86 c86_10 rfl rfl).trans ?_
    refine (sv_iconst jM86 c86_11 rfl (v := 0) (by decide +kernel)).trans ?_
    refine (sv_iload_n jM86 c86_12 rfl rfl).trans ?_
    refine (sv_callsi (pl := 0) jM86 c86_13 rfl (jm_call_s (as := [(.int x2), (.int (0 : Int32)), (.int x1)]) (rest := []) lm_8_86 rfl jM1 rfl rfl rfl rfl) jM1 rfl (Or.inr rfl)).trans ?_
    refine jbi_c (fun r2 τ2 => ?_)
    refine (sv_if_ne jM86 c86_16 rfl (t := 29) (by decide +kernel)).trans ?_
    refine jif _ ?_ ?_
    ·
      refine (sv_ldc2 jM86 c86_29 rfl ll_8_246).trans ?_
      exact sv_lret jM86 c86_32 rfl rfl
    ·
      refine (sv_iload jM86 c86_19 rfl rfl).trans ?_
      refine (sv_iconst jM86 c86_21 rfl (v := 0) (by decide +kernel)).trans ?_
      refine (sv_iconst jM86 c86_22 rfl (v := 1) (by decide +kernel)).trans ?_
      refine (sv_callsi (pl := 0) jM86 c86_23 rfl (jm_call_s (as := [(.int x5), (.int (0 : Int32)), (.int (1 : Int32))]) (rest := []) lm_8_86 rfl jM1 rfl rfl rfl rfl) jM1 rfl (Or.inr rfl)).trans ?_
      refine jbi_c (fun r3 τ3 => ?_)
      refine (sv_if_eq jM86 c86_26 rfl (t := 33) (by decide +kernel)).trans ?_
      refine jif _ ?_ ?_
      ·
        refine (sv_iload_n jM86 c86_33 rfl rfl).trans ?_
        refine (sv_iload_n jM86 c86_34 rfl rfl).trans ?_
        refine (sv_iload_n jM86 c86_35 rfl rfl).trans ?_
        refine (sv_iload jM86 c86_36 rfl rfl).trans ?_
        refine (sv_callsl (pl := 0) jM86 c86_38 rfl (jm_call_s (as := [(.int x1), (.int x2), (.int x3), (.int x4)]) (rest := []) lm_8_248 rfl jM88 rfl rfl rfl rfl) jM88 rfl rfl).trans ?_
        refine jbl_c (fun r4 τ4 => ?_)
        refine (sv_lstore (ls1 := [some (.ref 0), some (.int x1), some (.int x2), some (.int x3), some (.int x4), some (.int x5), some (.long r4), none, none, none, none, none]) jM86 c86_41 rfl (Nat.lt_of_lt_of_eq (by decide +kernel : 6 + 1 < 12) rfl) rfl).trans ?_
        refine (sv_iload_n jM86 c86_43 rfl rfl).trans ?_
        refine (sv_iload_n jM86 c86_44 rfl rfl).trans ?_
        refine (sv_callsl (pl := 0) jM86 c86_45 rfl (jm_call_s (as := [(.int x1), (.int x3)]) (rest := []) lm_8_252 rfl jM89 rfl rfl rfl rfl) jM89 rfl rfl).trans ?_
        refine jbl_c (fun r5 τ5 => ?_)
        refine (sv_lstore (ls1 := [some (.ref 0), some (.int x1), some (.int x2), some (.int x3), some (.int x4), some (.int x5), some (.long r4), none, some (.long r5), none, none, none]) jM86 c86_48 rfl (Nat.lt_of_lt_of_eq (by decide +kernel : 8 + 1 < 12) rfl) rfl).trans ?_
        refine (sv_lconst jM86 c86_50 rfl (v := 1) (by decide +kernel)).trans ?_
        refine (sv_lload jM86 c86_51 rfl rfl).trans ?_
        refine (sv_lload jM86 c86_53 rfl rfl).trans ?_
        refine (sv_callsl (pl := 0) jM86 c86_55 rfl (jm_call_s (as := [(.long r4), (.long r5)]) (rest := [(.long (1 : Int64))]) lm_8_256 rfl jM90 rfl rfl rfl rfl) jM90 rfl rfl).trans ?_
        refine jbl_c (fun r6 τ6 => ?_)
        refine (sv_maxl jM86 c86_58 rfl lm_8_260 (Nat.not_lt.mpr (Nat.le_of_ble_eq_true rfl))).trans ?_
        refine (sv_lstore (ls1 := [some (.ref 0), some (.int x1), some (.int x2), some (.int x3), some (.int x4), some (.int x5), some (.long r4), none, some (.long r5), none, some (.long (if r6 < (1 : Int64) then (1 : Int64) else r6)), none]) jM86 c86_61 rfl (Nat.lt_of_lt_of_eq (by decide +kernel : 10 + 1 < 12) rfl) rfl).trans ?_
        refine (sv_iload jM86 c86_63 rfl rfl).trans ?_
        refine (sv_if_ne jM86 c86_65 rfl (t := 76) (by decide +kernel)).trans ?_
        refine jif _ ?_ ?_
        ·
          refine (sv_lload jM86 c86_76 rfl rfl).trans ?_
          refine (sv_lload jM86 c86_78 rfl rfl).trans ?_
          refine (sv_ldiv jM86 c86_80 rfl).trans ?_
          refine jif _ rfl ?_
          exact sv_lret jM86 c86_81 rfl rfl
        ·
          refine (sv_lload jM86 c86_68 rfl rfl).trans ?_
          refine (sv_lload jM86 c86_70 rfl rfl).trans ?_
          refine (sv_ldiv jM86 c86_72 rfl).trans ?_
          refine jif _ rfl ?_
          refine (sv_goto jM86 c86_73 rfl (t := 81) (by decide +kernel)).trans ?_
          exact sv_lret jM86 c86_81 rfl rfl
      ·
        refine (sv_ldc2 jM86 c86_29 rfl ll_8_246).trans ?_
        exact sv_lret jM86 c86_32 rfl rfl
set_option maxRecDepth 20000 in
set_option maxHeartbeats 4000000 in
theorem P_span_in (x1 : Int32) (x2 : Int32) (x3 : Int32) (x4 : Int32) (x5 : Int32) (σ : jm_S) : jc 91 [(.ref 0), (.int x1), (.int x2), (.int x3), (.int x4), (.int x5)] σ = jbi (jc 87 [(.int x1), (.int x2), (.int x3)] σ) (fun r1 τ1 => (if ¬ r1 = 0 then some (some (.int (-2 : Int32)), τ1) else jbi (jc 1 [(.int x4), (.int (0 : Int32)), (.int (255 : Int32))] τ1) (fun r2 τ2 => (if ¬ r2 = 0 then some (some (.int (-2 : Int32)), τ2) else jbi (jc 1 [(.int x5), (.int (0 : Int32)), (.int (1 : Int32))] τ2) (fun r3 τ3 => (if r3 = 0 then jv 91 37 [some (.ref 0), some (.int x1), some (.int x2), some (.int x3), some (.int x4), some (.int x5), some (.int (0 : Int32)), none, none, none] [] τ3 else some (some (.int (-2 : Int32)), τ3))))))) := by
  refine (jc_of (ls1 := [some (.ref 0), some (.int x1), some (.int x2), some (.int x3), some (.int x4), some (.int x5), none, none, none, none]) ((jm_ini_of jM91).trans rfl)).trans ?_
  refine (sv_iload_n jM91 c91_0 rfl rfl).trans ?_
  refine (sv_iload_n jM91 c91_1 rfl rfl).trans ?_
  refine (sv_iload_n jM91 c91_2 rfl rfl).trans ?_
  refine (sv_callsi (pl := 0) jM91 c91_3 rfl (jm_call_s (as := [(.int x1), (.int x2), (.int x3)]) (rest := []) lm_8_243 rfl jM87 rfl rfl rfl rfl) jM87 rfl (Or.inr rfl)).trans ?_
  refine jbi_c (fun r1 τ1 => ?_)
  refine (sv_if_ne jM91 c91_6 rfl (t := 31) (by decide +kernel)).trans ?_
  refine jif _ ?_ ?_
  ·
    refine (sv_bipush jM91 c91_31 rfl (v := -2) (by decide +kernel)).trans ?_
    exact sv_iret jM91 c91_33 rfl rfl
  ·
    refine (sv_iload jM91 c91_9 rfl rfl).trans ?_
    refine (sv_iconst jM91 c91_11 rfl (v := 0) (by decide +kernel)).trans ?_
    refine (sv_sipush jM91 c91_12 rfl (v := 255) (by decide +kernel)).trans ?_
    refine (sv_callsi (pl := 0) jM91 c91_15 rfl (jm_call_s (as := [(.int x4), (.int (0 : Int32)), (.int (255 : Int32))]) (rest := []) lm_8_86 rfl jM1 rfl rfl rfl rfl) jM1 rfl (Or.inr rfl)).trans ?_
    refine jbi_c (fun r2 τ2 => ?_)
    refine (sv_if_ne jM91 c91_18 rfl (t := 31) (by decide +kernel)).trans ?_
    refine jif _ ?_ ?_
    ·
      refine (sv_bipush jM91 c91_31 rfl (v := -2) (by decide +kernel)).trans ?_
      exact sv_iret jM91 c91_33 rfl rfl
    ·
      refine (sv_iload jM91 c91_21 rfl rfl).trans ?_
      refine (sv_iconst jM91 c91_23 rfl (v := 0) (by decide +kernel)).trans ?_
      refine (sv_iconst jM91 c91_24 rfl (v := 1) (by decide +kernel)).trans ?_
      refine (sv_callsi (pl := 0) jM91 c91_25 rfl (jm_call_s (as := [(.int x5), (.int (0 : Int32)), (.int (1 : Int32))]) (rest := []) lm_8_86 rfl jM1 rfl rfl rfl rfl) jM1 rfl (Or.inr rfl)).trans ?_
      refine jbi_c (fun r3 τ3 => ?_)
      refine (sv_if_eq jM91 c91_28 rfl (t := 34) (by decide +kernel)).trans ?_
      refine jif _ ?_ ?_
      ·
        refine (sv_iconst jM91 c91_34 rfl (v := 0) (by decide +kernel)).trans ?_
        refine (sv_istore (ls1 := [some (.ref 0), some (.int x1), some (.int x2), some (.int x3), some (.int x4), some (.int x5), some (.int (0 : Int32)), none, none, none]) jM91 c91_35 rfl (Nat.lt_of_lt_of_eq (by decide +kernel : 6 < 10) rfl) rfl).trans ?_
        rfl
      ·
        refine (sv_bipush jM91 c91_31 rfl (v := -2) (by decide +kernel)).trans ?_
        exact sv_iret jM91 c91_33 rfl rfl
set_option maxRecDepth 20000 in
set_option maxHeartbeats 4000000 in
theorem P_span_L37 (x1 : Int32) (x2 : Int32) (x3 : Int32) (x4 : Int32) (x5 : Int32) (x6 : Int32) (u7 : Option Value) (u8 : Option Value) (σ : jm_S) : jv 91 37 [some (.ref 0), some (.int x1), some (.int x2), some (.int x3), some (.int x4), some (.int x5), some (.int x6), u7, u8, none] [] σ = (if x1 < x6 then some (some (.int (-1 : Int32)), σ) else (if ¬ x5 = 0 then (if ¬ x5 = 0 then jbl (jc 92 [(.int x1), (.int (x1 - x6)), (.int x2), (.int (0 : Int32)), (.int x3)] σ) (fun r1 τ1 => jbl (jc 89 [(.int x1), (.int x2)] τ1) (fun r2 τ2 => (if (lg_cmp (r1 * (256 : Int64)) (x4.toInt64 * r2)) ≤ 0 then jv 91 37 [some (.ref 0), some (.int x1), some (.int x2), some (.int x3), some (.int x4), some (.int x5), some (.int (x6 + 1)), some (.int (x1 - x6)), some (.long r1), none] [] τ2 else some (some (.int (x1 - x6)), τ2)))) else jbl (jc 92 [(.int x1), (.int (x1 - x6)), (.int x2), (.int x3), (.int x2)] σ) (fun r3 τ3 => jbl (jc 89 [(.int x1), (.int x2)] τ3) (fun r4 τ4 => (if (lg_cmp (r3 * (256 : Int64)) (x4.toInt64 * r4)) ≤ 0 then jv 91 37 [some (.ref 0), some (.int x1), some (.int x2), some (.int x3), some (.int x4), some (.int x5), some (.int (x6 + 1)), some (.int (x1 - x6)), some (.long r3), none] [] τ4 else some (some (.int (x1 - x6)), τ4))))) else (if ¬ x5 = 0 then jbl (jc 92 [(.int x1), (.int x6), (.int x2), (.int (0 : Int32)), (.int x3)] σ) (fun r5 τ5 => jbl (jc 89 [(.int x1), (.int x2)] τ5) (fun r6 τ6 => (if (lg_cmp (r5 * (256 : Int64)) (x4.toInt64 * r6)) ≤ 0 then jv 91 37 [some (.ref 0), some (.int x1), some (.int x2), some (.int x3), some (.int x4), some (.int x5), some (.int (x6 + 1)), some (.int x6), some (.long r5), none] [] τ6 else some (some (.int x6), τ6)))) else jbl (jc 92 [(.int x1), (.int x6), (.int x2), (.int x3), (.int x2)] σ) (fun r7 τ7 => jbl (jc 89 [(.int x1), (.int x2)] τ7) (fun r8 τ8 => (if (lg_cmp (r7 * (256 : Int64)) (x4.toInt64 * r8)) ≤ 0 then jv 91 37 [some (.ref 0), some (.int x1), some (.int x2), some (.int x3), some (.int x4), some (.int x5), some (.int (x6 + 1)), some (.int x6), some (.long r7), none] [] τ8 else some (some (.int x6), τ8))))))) := by
  refine (sv_iload jM91 c91_37 rfl rfl).trans ?_
  refine (sv_iload_n jM91 c91_39 rfl rfl).trans ?_
  refine (sv_icmp_gt jM91 c91_40 rfl (t := 115) (by decide +kernel)).trans ?_
  refine jif _ ?_ ?_
  ·
    refine (sv_iconst jM91 c91_115 rfl (v := -1) (by decide +kernel)).trans ?_
    exact sv_iret jM91 c91_116 rfl rfl
  ·
    refine (sv_iload jM91 c91_43 rfl rfl).trans ?_
    refine (sv_if_ne jM91 c91_45 rfl (t := 53) (by decide +kernel)).trans ?_
    refine jif _ ?_ ?_
    ·
      refine (sv_iload_n jM91 c91_53 rfl rfl).trans ?_
      refine (sv_iload jM91 c91_54 rfl rfl).trans ?_
      refine (sv_isub jM91 c91_56 rfl).trans ?_
      refine (sv_istore (ls1 := [some (.ref 0), some (.int x1), some (.int x2), some (.int x3), some (.int x4), some (.int x5), some (.int x6), some (.int (x1 - x6)), u8, none]) jM91 c91_57 rfl (Nat.lt_of_lt_of_eq (by decide +kernel : 7 < 10) rfl) rfl).trans ?_
      refine (sv_iload jM91 c91_59 rfl rfl).trans ?_
      refine (sv_if_ne jM91 c91_61 rfl (t := 76) (by decide +kernel)).trans ?_
      refine jif _ ?_ ?_
      ·
        refine (sv_iload_n jM91 c91_76 rfl rfl).trans ?_
        refine (sv_iload jM91 c91_77 rfl rfl).trans ?_
        refine (sv_iload_n jM91 c91_79 rfl rfl).trans ?_
        refine (sv_iconst jM91 c91_80 rfl (v := 0) (by decide +kernel)).trans ?_
        refine (sv_iload_n jM91 c91_81 rfl rfl).trans ?_
        refine (sv_callsl (pl := 0) jM91 c91_82 rfl (jm_call_s (as := [(.int x1), (.int (x1 - x6)), (.int x2), (.int (0 : Int32)), (.int x3)]) (rest := []) lm_8_265 rfl jM92 rfl rfl rfl rfl) jM92 rfl rfl).trans ?_
        refine jbl_c (fun r1 τ1 => ?_)
        refine (sv_lstore (ls1 := [some (.ref 0), some (.int x1), some (.int x2), some (.int x3), some (.int x4), some (.int x5), some (.int x6), some (.int (x1 - x6)), some (.long r1), none]) jM91 c91_85 rfl (Nat.lt_of_lt_of_eq (by decide +kernel : 8 + 1 < 10) rfl) rfl).trans ?_
        refine (sv_lload jM91 c91_87 rfl rfl).trans ?_
        refine (sv_ldc2 jM91 c91_89 rfl ll_8_269).trans ?_
        refine (sv_lmul jM91 c91_92 rfl).trans ?_
        refine (sv_iload jM91 c91_93 rfl rfl).trans ?_
        refine (sv_i2l jM91 c91_95 rfl).trans ?_
        refine (sv_iload_n jM91 c91_96 rfl rfl).trans ?_
        refine (sv_iload_n jM91 c91_97 rfl rfl).trans ?_
        refine (sv_callsl (pl := 0) jM91 c91_98 rfl (jm_call_s (as := [(.int x1), (.int x2)]) (rest := [(.long x4.toInt64), (.long (r1 * (256 : Int64)))]) lm_8_252 rfl jM89 rfl rfl rfl rfl) jM89 rfl rfl).trans ?_
        refine jbl_c (fun r2 τ2 => ?_)
        refine (sv_lmul jM91 c91_101 rfl).trans ?_
        refine (sv_lcmp jM91 c91_102 rfl).trans ?_
        refine (sv_if_le jM91 c91_103 rfl (t := 109) (by decide +kernel)).trans ?_
        refine jif _ ?_ ?_
        ·
          refine (sv_iinc (ls1 := [some (.ref 0), some (.int x1), some (.int x2), some (.int x3), some (.int x4), some (.int x5), some (.int (x6 + 1)), some (.int (x1 - x6)), some (.long r1), none]) jM91 c91_109 rfl rfl (v := 1) (by decide +kernel) rfl).trans ?_
          refine (sv_goto jM91 c91_112 rfl (t := 37) (by decide +kernel)).trans ?_
          rfl
        ·
          refine (sv_iload jM91 c91_106 rfl rfl).trans ?_
          exact sv_iret jM91 c91_108 rfl rfl
      ·
        refine (sv_iload_n jM91 c91_64 rfl rfl).trans ?_
        refine (sv_iload jM91 c91_65 rfl rfl).trans ?_
        refine (sv_iload_n jM91 c91_67 rfl rfl).trans ?_
        refine (sv_iload_n jM91 c91_68 rfl rfl).trans ?_
        refine (sv_iload_n jM91 c91_69 rfl rfl).trans ?_
        refine (sv_callsl (pl := 0) jM91 c91_70 rfl (jm_call_s (as := [(.int x1), (.int (x1 - x6)), (.int x2), (.int x3), (.int x2)]) (rest := []) lm_8_265 rfl jM92 rfl rfl rfl rfl) jM92 rfl rfl).trans ?_
        refine jbl_c (fun r3 τ3 => ?_)
        refine (sv_goto jM91 c91_73 rfl (t := 85) (by decide +kernel)).trans ?_
        refine (sv_lstore (ls1 := [some (.ref 0), some (.int x1), some (.int x2), some (.int x3), some (.int x4), some (.int x5), some (.int x6), some (.int (x1 - x6)), some (.long r3), none]) jM91 c91_85 rfl (Nat.lt_of_lt_of_eq (by decide +kernel : 8 + 1 < 10) rfl) rfl).trans ?_
        refine (sv_lload jM91 c91_87 rfl rfl).trans ?_
        refine (sv_ldc2 jM91 c91_89 rfl ll_8_269).trans ?_
        refine (sv_lmul jM91 c91_92 rfl).trans ?_
        refine (sv_iload jM91 c91_93 rfl rfl).trans ?_
        refine (sv_i2l jM91 c91_95 rfl).trans ?_
        refine (sv_iload_n jM91 c91_96 rfl rfl).trans ?_
        refine (sv_iload_n jM91 c91_97 rfl rfl).trans ?_
        refine (sv_callsl (pl := 0) jM91 c91_98 rfl (jm_call_s (as := [(.int x1), (.int x2)]) (rest := [(.long x4.toInt64), (.long (r3 * (256 : Int64)))]) lm_8_252 rfl jM89 rfl rfl rfl rfl) jM89 rfl rfl).trans ?_
        refine jbl_c (fun r4 τ4 => ?_)
        refine (sv_lmul jM91 c91_101 rfl).trans ?_
        refine (sv_lcmp jM91 c91_102 rfl).trans ?_
        refine (sv_if_le jM91 c91_103 rfl (t := 109) (by decide +kernel)).trans ?_
        refine jif _ ?_ ?_
        ·
          refine (sv_iinc (ls1 := [some (.ref 0), some (.int x1), some (.int x2), some (.int x3), some (.int x4), some (.int x5), some (.int (x6 + 1)), some (.int (x1 - x6)), some (.long r3), none]) jM91 c91_109 rfl rfl (v := 1) (by decide +kernel) rfl).trans ?_
          refine (sv_goto jM91 c91_112 rfl (t := 37) (by decide +kernel)).trans ?_
          rfl
        ·
          refine (sv_iload jM91 c91_106 rfl rfl).trans ?_
          exact sv_iret jM91 c91_108 rfl rfl
    ·
      refine (sv_iload jM91 c91_48 rfl rfl).trans ?_
      refine (sv_goto jM91 c91_50 rfl (t := 57) (by decide +kernel)).trans ?_
      refine (sv_istore (ls1 := [some (.ref 0), some (.int x1), some (.int x2), some (.int x3), some (.int x4), some (.int x5), some (.int x6), some (.int x6), u8, none]) jM91 c91_57 rfl (Nat.lt_of_lt_of_eq (by decide +kernel : 7 < 10) rfl) rfl).trans ?_
      refine (sv_iload jM91 c91_59 rfl rfl).trans ?_
      refine (sv_if_ne jM91 c91_61 rfl (t := 76) (by decide +kernel)).trans ?_
      refine jif _ ?_ ?_
      ·
        refine (sv_iload_n jM91 c91_76 rfl rfl).trans ?_
        refine (sv_iload jM91 c91_77 rfl rfl).trans ?_
        refine (sv_iload_n jM91 c91_79 rfl rfl).trans ?_
        refine (sv_iconst jM91 c91_80 rfl (v := 0) (by decide +kernel)).trans ?_
        refine (sv_iload_n jM91 c91_81 rfl rfl).trans ?_
        refine (sv_callsl (pl := 0) jM91 c91_82 rfl (jm_call_s (as := [(.int x1), (.int x6), (.int x2), (.int (0 : Int32)), (.int x3)]) (rest := []) lm_8_265 rfl jM92 rfl rfl rfl rfl) jM92 rfl rfl).trans ?_
        refine jbl_c (fun r5 τ5 => ?_)
        refine (sv_lstore (ls1 := [some (.ref 0), some (.int x1), some (.int x2), some (.int x3), some (.int x4), some (.int x5), some (.int x6), some (.int x6), some (.long r5), none]) jM91 c91_85 rfl (Nat.lt_of_lt_of_eq (by decide +kernel : 8 + 1 < 10) rfl) rfl).trans ?_
        refine (sv_lload jM91 c91_87 rfl rfl).trans ?_
        refine (sv_ldc2 jM91 c91_89 rfl ll_8_269).trans ?_
        refine (sv_lmul jM91 c91_92 rfl).trans ?_
        refine (sv_iload jM91 c91_93 rfl rfl).trans ?_
        refine (sv_i2l jM91 c91_95 rfl).trans ?_
        refine (sv_iload_n jM91 c91_96 rfl rfl).trans ?_
        refine (sv_iload_n jM91 c91_97 rfl rfl).trans ?_
        refine (sv_callsl (pl := 0) jM91 c91_98 rfl (jm_call_s (as := [(.int x1), (.int x2)]) (rest := [(.long x4.toInt64), (.long (r5 * (256 : Int64)))]) lm_8_252 rfl jM89 rfl rfl rfl rfl) jM89 rfl rfl).trans ?_
        refine jbl_c (fun r6 τ6 => ?_)
        refine (sv_lmul jM91 c91_101 rfl).trans ?_
        refine (sv_lcmp jM91 c91_102 rfl).trans ?_
        refine (sv_if_le jM91 c91_103 rfl (t := 109) (by decide +kernel)).trans ?_
        refine jif _ ?_ ?_
        ·
          refine (sv_iinc (ls1 := [some (.ref 0), some (.int x1), some (.int x2), some (.int x3), some (.int x4), some (.int x5), some (.int (x6 + 1)), some (.int x6), some (.long r5), none]) jM91 c91_109 rfl rfl (v := 1) (by decide +kernel) rfl).trans ?_
          refine (sv_goto jM91 c91_112 rfl (t := 37) (by decide +kernel)).trans ?_
          rfl
        ·
          refine (sv_iload jM91 c91_106 rfl rfl).trans ?_
          exact sv_iret jM91 c91_108 rfl rfl
      ·
        refine (sv_iload_n jM91 c91_64 rfl rfl).trans ?_
        refine (sv_iload jM91 c91_65 rfl rfl).trans ?_
        refine (sv_iload_n jM91 c91_67 rfl rfl).trans ?_
        refine (sv_iload_n jM91 c91_68 rfl rfl).trans ?_
        refine (sv_iload_n jM91 c91_69 rfl rfl).trans ?_
        refine (sv_callsl (pl := 0) jM91 c91_70 rfl (jm_call_s (as := [(.int x1), (.int x6), (.int x2), (.int x3), (.int x2)]) (rest := []) lm_8_265 rfl jM92 rfl rfl rfl rfl) jM92 rfl rfl).trans ?_
        refine jbl_c (fun r7 τ7 => ?_)
        refine (sv_goto jM91 c91_73 rfl (t := 85) (by decide +kernel)).trans ?_
        refine (sv_lstore (ls1 := [some (.ref 0), some (.int x1), some (.int x2), some (.int x3), some (.int x4), some (.int x5), some (.int x6), some (.int x6), some (.long r7), none]) jM91 c91_85 rfl (Nat.lt_of_lt_of_eq (by decide +kernel : 8 + 1 < 10) rfl) rfl).trans ?_
        refine (sv_lload jM91 c91_87 rfl rfl).trans ?_
        refine (sv_ldc2 jM91 c91_89 rfl ll_8_269).trans ?_
        refine (sv_lmul jM91 c91_92 rfl).trans ?_
        refine (sv_iload jM91 c91_93 rfl rfl).trans ?_
        refine (sv_i2l jM91 c91_95 rfl).trans ?_
        refine (sv_iload_n jM91 c91_96 rfl rfl).trans ?_
        refine (sv_iload_n jM91 c91_97 rfl rfl).trans ?_
        refine (sv_callsl (pl := 0) jM91 c91_98 rfl (jm_call_s (as := [(.int x1), (.int x2)]) (rest := [(.long x4.toInt64), (.long (r7 * (256 : Int64)))]) lm_8_252 rfl jM89 rfl rfl rfl rfl) jM89 rfl rfl).trans ?_
        refine jbl_c (fun r8 τ8 => ?_)
        refine (sv_lmul jM91 c91_101 rfl).trans ?_
        refine (sv_lcmp jM91 c91_102 rfl).trans ?_
        refine (sv_if_le jM91 c91_103 rfl (t := 109) (by decide +kernel)).trans ?_
        refine jif _ ?_ ?_
        ·
          refine (sv_iinc (ls1 := [some (.ref 0), some (.int x1), some (.int x2), some (.int x3), some (.int x4), some (.int x5), some (.int (x6 + 1)), some (.int x6), some (.long r7), none]) jM91 c91_109 rfl rfl (v := 1) (by decide +kernel) rfl).trans ?_
          refine (sv_goto jM91 c91_112 rfl (t := 37) (by decide +kernel)).trans ?_
          rfl
        ·
          refine (sv_iload jM91 c91_106 rfl rfl).trans ?_
          exact sv_iret jM91 c91_108 rfl rfl
set_option maxRecDepth 20000 in
set_option maxHeartbeats 4000000 in
theorem P_heard_in (x1 : Int32) (x2 : Int32) (σ : jm_S) : jc 93 [(.ref 0), (.int x1), (.int x2)] σ = jbi (jc 11 [(.ref 1), (.int x1)] σ) (fun r1 τ1 => (if r1 = 0 then some (some (.int (-2 : Int32)), τ1) else jbi (jc 1 [(.int x2), (.int (0 : Int32)), (.int (199 : Int32))] τ1) (fun r2 τ2 => (if r2 = 0 then jbi (jc 94 [(.ref 38)] τ2) (fun r3 τ3 => (if r3 = 0 then jbv (jc 95 [(.ref 38), (.int x1), (.int x2)] τ3) (fun τ4 => some (some (.int (τ4 38 2)), τ4)) else some (some (.int (-4 : Int32)), τ3))) else some (some (.int (-2 : Int32)), τ2))))) := by
  refine (jc_of (ls1 := [some (.ref 0), some (.int x1), some (.int x2)]) ((jm_ini_of jM93).trans rfl)).trans ?_
  refine (sv_aload_n jM93 c93_0 rfl rfl).trans ?_
  refine (sv_getf jM93 c93_1 rfl lf_8_10 (fg_0_0 _)).trans ?_
  refine (sv_iload_n jM93 c93_4 rfl rfl).trans ?_
  refine (sv_callvi (pl := 0) jM93 c93_5 rfl (jm_call_v (a := 1) (as := [(.int x1)]) (rest := []) lm_8_115 rfl jM11 rfl rfl rfl rfl rfl) jM11 rfl (Or.inr rfl)).trans ?_
  refine jbi_c (fun r1 τ1 => ?_)
  refine (sv_if_eq jM93 c93_8 rfl (t := 22) (by decide +kernel)).trans ?_
  refine jif _ ?_ ?_
  ·
    refine (sv_bipush jM93 c93_22 rfl (v := -2) (by decide +kernel)).trans ?_
    exact sv_iret jM93 c93_24 rfl rfl
  ·
    refine (sv_iload_n jM93 c93_11 rfl rfl).trans ?_
    refine (sv_iconst jM93 c93_12 rfl (v := 0) (by decide +kernel)).trans ?_
    refine (sv_sipush jM93 c93_13 rfl (v := 199) (by decide +kernel)).trans ?_
    refine (sv_callsi (pl := 0) jM93 c93_16 rfl (jm_call_s (as := [(.int x2), (.int (0 : Int32)), (.int (199 : Int32))]) (rest := []) lm_8_86 rfl jM1 rfl rfl rfl rfl) jM1 rfl (Or.inr rfl)).trans ?_
    refine jbi_c (fun r2 τ2 => ?_)
    refine (sv_if_eq jM93 c93_19 rfl (t := 25) (by decide +kernel)).trans ?_
    refine jif _ ?_ ?_
    ·
      refine (sv_aload_n jM93 c93_25 rfl rfl).trans ?_
      refine (sv_getf jM93 c93_26 rfl lf_8_67 (fg_0_8 _)).trans ?_
      refine (sv_callvi (pl := 0) jM93 c93_29 rfl (jm_call_v (a := 38) (as := []) (rest := []) lm_8_271 rfl jM94 rfl rfl rfl rfl rfl) jM94 rfl (Or.inr rfl)).trans ?_
      refine jbi_c (fun r3 τ3 => ?_)
      refine (sv_if_eq jM93 c93_32 rfl (t := 38) (by decide +kernel)).trans ?_
      refine jif _ ?_ ?_
      ·
        refine (sv_aload_n jM93 c93_38 rfl rfl).trans ?_
        refine (sv_getf jM93 c93_39 rfl lf_8_67 (fg_0_8 _)).trans ?_
        refine (sv_iload_n jM93 c93_42 rfl rfl).trans ?_
        refine (sv_iload_n jM93 c93_43 rfl rfl).trans ?_
        refine (sv_callvv (pl := 0) jM93 c93_44 rfl (jm_call_v (a := 38) (as := [(.int x1), (.int x2)]) (rest := []) lm_8_272 rfl jM95 rfl rfl rfl rfl rfl) jM95 rfl rfl).trans ?_
        refine jbv_c (fun τ4 => ?_)
        refine (sv_aload_n jM93 c93_47 rfl rfl).trans ?_
        refine (sv_getf jM93 c93_48 rfl lf_8_67 (fg_0_8 _)).trans ?_
        refine (sv_getf jM93 c93_51 rfl lf_8_134 (fg_38_2 _)).trans ?_
        exact sv_iret jM93 c93_54 rfl rfl
      ·
        refine (sv_bipush jM93 c93_35 rfl (v := -4) (by decide +kernel)).trans ?_
        exact sv_iret jM93 c93_37 rfl rfl
    ·
      refine (sv_bipush jM93 c93_22 rfl (v := -2) (by decide +kernel)).trans ?_
      exact sv_iret jM93 c93_24 rfl rfl
set_option maxRecDepth 20000 in
set_option maxHeartbeats 4000000 in
theorem P_fits_in (x1 : Int32) (σ : jm_S) : jc 96 [(.ref 0), (.int x1)] σ = jbi (jc 1 [(.int x1), (.int (0 : Int32)), (.int (4 : Int32))] σ) (fun r1 τ1 => (if r1 = 0 then (if ¬ (τ1 38 2) = 0 then jbv (jc 97 [(.ref 0)] τ1) (fun τ2 => jbi (jc 101 [(.ref 38), (.int x1)] τ2) (fun r3 τ3 => some (some (.int r3), τ3))) else some (some (.int (-3 : Int32)), τ1)) else some (some (.int (-2 : Int32)), τ1))) := by
  refine (jc_of (ls1 := [some (.ref 0), some (.int x1)]) ((jm_ini_of jM96).trans rfl)).trans ?_
  refine (sv_iload_n jM96 c96_0 rfl rfl).trans ?_
  refine (sv_iconst jM96 c96_1 rfl (v := 0) (by decide +kernel)).trans ?_
  refine (sv_iconst jM96 c96_2 rfl (v := 4) (by decide +kernel)).trans ?_
  refine (sv_callsi (pl := 0) jM96 c96_3 rfl (jm_call_s (as := [(.int x1), (.int (0 : Int32)), (.int (4 : Int32))]) (rest := []) lm_8_86 rfl jM1 rfl rfl rfl rfl) jM1 rfl (Or.inr rfl)).trans ?_
  refine jbi_c (fun r1 τ1 => ?_)
  refine (sv_if_eq jM96 c96_6 rfl (t := 12) (by decide +kernel)).trans ?_
  refine jif _ ?_ ?_
  ·
    refine (sv_aload_n jM96 c96_12 rfl rfl).trans ?_
    refine (sv_getf jM96 c96_13 rfl lf_8_67 (fg_0_8 _)).trans ?_
    refine (sv_getf jM96 c96_16 rfl lf_8_134 (fg_38_2 _)).trans ?_
    refine (sv_if_ne jM96 c96_19 rfl (t := 25) (by decide +kernel)).trans ?_
    refine jif _ ?_ ?_
    ·
      refine (sv_aload_n jM96 c96_25 rfl rfl).trans ?_
      refine (sv_callvv (pl := 0) jM96 c96_26 rfl (jm_call_v (a := 0) (as := []) (rest := []) lm_8_274 rfl jM97 rfl rfl rfl rfl rfl) jM97 rfl rfl).trans ?_
      refine jbv_c (fun τ2 => ?_)
      refine (sv_aload_n jM96 c96_29 rfl rfl).trans ?_
      refine (sv_getf jM96 c96_30 rfl lf_8_67 (fg_0_8 _)).trans ?_
      refine (sv_iload_n jM96 c96_33 rfl rfl).trans ?_
      refine (sv_callvi (pl := 0) jM96 c96_34 rfl (jm_call_v (a := 38) (as := [(.int x1)]) (rest := []) lm_8_277 rfl jM101 rfl rfl rfl rfl rfl) jM101 rfl (Or.inl rfl)).trans ?_
      refine jbi_c (fun r3 τ3 => ?_)
      exact sv_iret jM96 c96_37 rfl rfl
    ·
      refine (sv_bipush jM96 c96_22 rfl (v := -3) (by decide +kernel)).trans ?_
      exact sv_iret jM96 c96_24 rfl rfl
  ·
    refine (sv_bipush jM96 c96_9 rfl (v := -2) (by decide +kernel)).trans ?_
    exact sv_iret jM96 c96_11 rfl rfl
set_option maxRecDepth 20000 in
set_option maxHeartbeats 4000000 in
theorem P_sheet_in (x1 : Int32) (x2 : Int32) (x3 : Int32) (σ : jm_S) : jc 102 [(.ref 0), (.int x1), (.int x2), (.int x3)] σ = jbi (jc 1 [(.int x1), (.int (0 : Int32)), (.int (3 : Int32))] σ) (fun r1 τ1 => (if ¬ r1 = 0 then some (some (.int (-2 : Int32)), τ1) else jbi (jc 1 [(.int x2), (.int (0 : Int32)), (.int (2 : Int32))] τ1) (fun r2 τ2 => (if ¬ r2 = 0 then some (some (.int (-2 : Int32)), τ2) else (if x3 ≤ (60 : Int32) then (if 0 ≤ x3 then jaa x1 [53, 55, 57, 59] (fun q => jv 102 43 [some (.ref 0), some (.int x1), some (.int x2), some (.int x3)] [(.ref q)] τ2) else jbi (jc 9 [(.ref 0), (.int (5 : Int32))] τ2) (fun r3 τ3 => some (some (.int r3), τ3))) else some (some (.int (-2 : Int32)), τ2)))))) := by
  refine (jc_of (ls1 := [some (.ref 0), some (.int x1), some (.int x2), some (.int x3)]) ((jm_ini_of jM102).trans rfl)).trans ?_
  refine (sv_iload_n jM102 c102_0 rfl rfl).trans ?_
  refine (sv_iconst jM102 c102_1 rfl (v := 0) (by decide +kernel)).trans ?_
  refine (sv_iconst jM102 c102_2 rfl (v := 3) (by decide +kernel)).trans ?_
  refine (sv_callsi (pl := 0) jM102 c102_3 rfl (jm_call_s (as := [(.int x1), (.int (0 : Int32)), (.int (3 : Int32))]) (rest := []) lm_8_86 rfl jM1 rfl rfl rfl rfl) jM1 rfl (Or.inr rfl)).trans ?_
  refine jbi_c (fun r1 τ1 => ?_)
  refine (sv_if_ne jM102 c102_6 rfl (t := 24) (by decide +kernel)).trans ?_
  refine jif _ ?_ ?_
  ·
    refine (sv_bipush jM102 c102_24 rfl (v := -2) (by decide +kernel)).trans ?_
    exact sv_iret jM102 c102_26 rfl rfl
  ·
    refine (sv_iload_n jM102 c102_9 rfl rfl).trans ?_
    refine (sv_iconst jM102 c102_10 rfl (v := 0) (by decide +kernel)).trans ?_
    refine (sv_iconst jM102 c102_11 rfl (v := 2) (by decide +kernel)).trans ?_
    refine (sv_callsi (pl := 0) jM102 c102_12 rfl (jm_call_s (as := [(.int x2), (.int (0 : Int32)), (.int (2 : Int32))]) (rest := []) lm_8_86 rfl jM1 rfl rfl rfl rfl) jM1 rfl (Or.inr rfl)).trans ?_
    refine jbi_c (fun r2 τ2 => ?_)
    refine (sv_if_ne jM102 c102_15 rfl (t := 24) (by decide +kernel)).trans ?_
    refine jif _ ?_ ?_
    ·
      refine (sv_bipush jM102 c102_24 rfl (v := -2) (by decide +kernel)).trans ?_
      exact sv_iret jM102 c102_26 rfl rfl
    ·
      refine (sv_iload_n jM102 c102_18 rfl rfl).trans ?_
      refine (sv_bipush jM102 c102_19 rfl (v := 60) (by decide +kernel)).trans ?_
      refine (sv_icmp_le jM102 c102_21 rfl (t := 27) (by decide +kernel)).trans ?_
      refine jif _ ?_ ?_
      ·
        refine (sv_iload_n jM102 c102_27 rfl rfl).trans ?_
        refine (sv_if_ge jM102 c102_28 rfl (t := 37) (by decide +kernel)).trans ?_
        refine jif _ ?_ ?_
        ·
          refine (sv_aload_n jM102 c102_37 rfl rfl).trans ?_
          refine (sv_getf jM102 c102_38 rfl lf_8_73 (fg_0_9 _)).trans ?_
          refine (sv_iload_n jM102 c102_41 rfl rfl).trans ?_
          refine (sv_aald jM102 c102_42 rfl wr_41).trans ?_
          rfl
        ·
          refine (sv_aload_n jM102 c102_31 rfl rfl).trans ?_
          refine (sv_iconst jM102 c102_32 rfl (v := 5) (by decide +kernel)).trans ?_
          refine (sv_callvi (pl := 0) jM102 c102_33 rfl (jm_call_v (a := 0) (as := [(.int (5 : Int32))]) (rest := []) lm_8_105 rfl jM9 rfl rfl rfl rfl rfl) jM9 rfl (Or.inl rfl)).trans ?_
          refine jbi_c (fun r3 τ3 => ?_)
          exact sv_iret jM102 c102_36 rfl rfl
      ·
        refine (sv_bipush jM102 c102_24 rfl (v := -2) (by decide +kernel)).trans ?_
        exact sv_iret jM102 c102_26 rfl rfl
set_option maxRecDepth 20000 in
set_option maxHeartbeats 4000000 in
theorem P_sheet_A43_53 (x1 : Int32) (x2 : Int32) (x3 : Int32) (σ : jm_S) : jv 102 43 [some (.ref 0), some (.int x1), some (.int x2), some (.int x3)] [(.ref 53)] σ = jbv (jc 103 [(.ref 53), (.int x2), (.int x3)] σ) (fun τ1 => some (some (.int x3), τ1)) := by
  refine (sv_iload_n jM102 c102_43 rfl rfl).trans ?_
  refine (sv_iload_n jM102 c102_44 rfl rfl).trans ?_
  refine (sv_callvv (pl := 0) jM102 c102_45 rfl (jm_call_v (a := 53) (as := [(.int x2), (.int x3)]) (rest := []) lm_8_278 rfl jM103 rfl rfl rfl rfl rfl) jM103 rfl rfl).trans ?_
  refine jbv_c (fun τ1 => ?_)
  refine (sv_iload_n jM102 c102_48 rfl rfl).trans ?_
  exact sv_iret jM102 c102_49 rfl rfl
set_option maxRecDepth 20000 in
set_option maxHeartbeats 4000000 in
theorem P_sheet_A43_55 (x1 : Int32) (x2 : Int32) (x3 : Int32) (σ : jm_S) : jv 102 43 [some (.ref 0), some (.int x1), some (.int x2), some (.int x3)] [(.ref 55)] σ = jbv (jc 103 [(.ref 55), (.int x2), (.int x3)] σ) (fun τ1 => some (some (.int x3), τ1)) := by
  refine (sv_iload_n jM102 c102_43 rfl rfl).trans ?_
  refine (sv_iload_n jM102 c102_44 rfl rfl).trans ?_
  refine (sv_callvv (pl := 0) jM102 c102_45 rfl (jm_call_v (a := 55) (as := [(.int x2), (.int x3)]) (rest := []) lm_8_278 rfl jM103 rfl rfl rfl rfl rfl) jM103 rfl rfl).trans ?_
  refine jbv_c (fun τ1 => ?_)
  refine (sv_iload_n jM102 c102_48 rfl rfl).trans ?_
  exact sv_iret jM102 c102_49 rfl rfl
set_option maxRecDepth 20000 in
set_option maxHeartbeats 4000000 in
theorem P_sheet_A43_57 (x1 : Int32) (x2 : Int32) (x3 : Int32) (σ : jm_S) : jv 102 43 [some (.ref 0), some (.int x1), some (.int x2), some (.int x3)] [(.ref 57)] σ = jbv (jc 103 [(.ref 57), (.int x2), (.int x3)] σ) (fun τ1 => some (some (.int x3), τ1)) := by
  refine (sv_iload_n jM102 c102_43 rfl rfl).trans ?_
  refine (sv_iload_n jM102 c102_44 rfl rfl).trans ?_
  refine (sv_callvv (pl := 0) jM102 c102_45 rfl (jm_call_v (a := 57) (as := [(.int x2), (.int x3)]) (rest := []) lm_8_278 rfl jM103 rfl rfl rfl rfl rfl) jM103 rfl rfl).trans ?_
  refine jbv_c (fun τ1 => ?_)
  refine (sv_iload_n jM102 c102_48 rfl rfl).trans ?_
  exact sv_iret jM102 c102_49 rfl rfl
set_option maxRecDepth 20000 in
set_option maxHeartbeats 4000000 in
theorem P_sheet_A43_59 (x1 : Int32) (x2 : Int32) (x3 : Int32) (σ : jm_S) : jv 102 43 [some (.ref 0), some (.int x1), some (.int x2), some (.int x3)] [(.ref 59)] σ = jbv (jc 103 [(.ref 59), (.int x2), (.int x3)] σ) (fun τ1 => some (some (.int x3), τ1)) := by
  refine (sv_iload_n jM102 c102_43 rfl rfl).trans ?_
  refine (sv_iload_n jM102 c102_44 rfl rfl).trans ?_
  refine (sv_callvv (pl := 0) jM102 c102_45 rfl (jm_call_v (a := 59) (as := [(.int x2), (.int x3)]) (rest := []) lm_8_278 rfl jM103 rfl rfl rfl rfl rfl) jM103 rfl rfl).trans ?_
  refine jbv_c (fun τ1 => ?_)
  refine (sv_iload_n jM102 c102_48 rfl rfl).trans ?_
  exact sv_iret jM102 c102_49 rfl rfl
set_option maxRecDepth 20000 in
set_option maxHeartbeats 4000000 in
theorem P_lose_in (x1 : Int32) (σ : jm_S) : jc 104 [(.ref 0), (.int x1)] σ = jbi (jc 1 [(.int x1), (.int (0 : Int32)), (.int (3 : Int32))] σ) (fun r1 τ1 => (if r1 = 0 then jaa x1 [53, 55, 57, 59] (fun q => jv 104 18 [some (.ref 0), some (.int x1)] [(.ref q)] τ1) else some (some (.int (-2 : Int32)), τ1))) := by
  refine (jc_of (ls1 := [some (.ref 0), some (.int x1)]) ((jm_ini_of jM104).trans rfl)).trans ?_
  refine (sv_iload_n jM104 c104_0 rfl rfl).trans ?_
  refine (sv_iconst jM104 c104_1 rfl (v := 0) (by decide +kernel)).trans ?_
  refine (sv_iconst jM104 c104_2 rfl (v := 3) (by decide +kernel)).trans ?_
  refine (sv_callsi (pl := 0) jM104 c104_3 rfl (jm_call_s (as := [(.int x1), (.int (0 : Int32)), (.int (3 : Int32))]) (rest := []) lm_8_86 rfl jM1 rfl rfl rfl rfl) jM1 rfl (Or.inr rfl)).trans ?_
  refine jbi_c (fun r1 τ1 => ?_)
  refine (sv_if_eq jM104 c104_6 rfl (t := 12) (by decide +kernel)).trans ?_
  refine jif _ ?_ ?_
  ·
    refine (sv_aload_n jM104 c104_12 rfl rfl).trans ?_
    refine (sv_getf jM104 c104_13 rfl lf_8_73 (fg_0_9 _)).trans ?_
    refine (sv_iload_n jM104 c104_16 rfl rfl).trans ?_
    refine (sv_aald jM104 c104_17 rfl wr_41).trans ?_
    rfl
  ·
    refine (sv_bipush jM104 c104_9 rfl (v := -2) (by decide +kernel)).trans ?_
    exact sv_iret jM104 c104_11 rfl rfl
set_option maxRecDepth 20000 in
set_option maxHeartbeats 4000000 in
theorem P_lose_A18_53 (x1 : Int32) (σ : jm_S) : jv 104 18 [some (.ref 0), some (.int x1)] [(.ref 53)] σ = jbi (jc 8 [(.ref 53)] σ) (fun r1 τ1 => (if r1 = 0 then jaa x1 [53, 55, 57, 59] (fun q => jv 104 36 [some (.ref 0), some (.int x1)] [(.ref q)] τ1) else jbi (jc 9 [(.ref 0), (.int (1 : Int32))] τ1) (fun r2 τ2 => some (some (.int r2), τ2)))) := by
  refine (sv_callvi (pl := 0) jM104 c104_18 rfl (jm_call_v (a := 53) (as := []) (rest := []) lm_8_102 rfl jM8 rfl rfl rfl rfl rfl) jM8 rfl (Or.inr rfl)).trans ?_
  refine jbi_c (fun r1 τ1 => ?_)
  refine (sv_if_eq jM104 c104_21 rfl (t := 30) (by decide +kernel)).trans ?_
  refine jif _ ?_ ?_
  ·
    refine (sv_aload_n jM104 c104_30 rfl rfl).trans ?_
    refine (sv_getf jM104 c104_31 rfl lf_8_73 (fg_0_9 _)).trans ?_
    refine (sv_iload_n jM104 c104_34 rfl rfl).trans ?_
    refine (sv_aald jM104 c104_35 rfl wr_41).trans ?_
    rfl
  ·
    refine (sv_aload_n jM104 c104_24 rfl rfl).trans ?_
    refine (sv_iconst jM104 c104_25 rfl (v := 1) (by decide +kernel)).trans ?_
    refine (sv_callvi (pl := 0) jM104 c104_26 rfl (jm_call_v (a := 0) (as := [(.int (1 : Int32))]) (rest := []) lm_8_105 rfl jM9 rfl rfl rfl rfl rfl) jM9 rfl (Or.inl rfl)).trans ?_
    refine jbi_c (fun r2 τ2 => ?_)
    exact sv_iret jM104 c104_29 rfl rfl
set_option maxRecDepth 20000 in
set_option maxHeartbeats 4000000 in
theorem P_lose_A18_55 (x1 : Int32) (σ : jm_S) : jv 104 18 [some (.ref 0), some (.int x1)] [(.ref 55)] σ = jbi (jc 8 [(.ref 55)] σ) (fun r1 τ1 => (if r1 = 0 then jaa x1 [53, 55, 57, 59] (fun q => jv 104 36 [some (.ref 0), some (.int x1)] [(.ref q)] τ1) else jbi (jc 9 [(.ref 0), (.int (1 : Int32))] τ1) (fun r2 τ2 => some (some (.int r2), τ2)))) := by
  refine (sv_callvi (pl := 0) jM104 c104_18 rfl (jm_call_v (a := 55) (as := []) (rest := []) lm_8_102 rfl jM8 rfl rfl rfl rfl rfl) jM8 rfl (Or.inr rfl)).trans ?_
  refine jbi_c (fun r1 τ1 => ?_)
  refine (sv_if_eq jM104 c104_21 rfl (t := 30) (by decide +kernel)).trans ?_
  refine jif _ ?_ ?_
  ·
    refine (sv_aload_n jM104 c104_30 rfl rfl).trans ?_
    refine (sv_getf jM104 c104_31 rfl lf_8_73 (fg_0_9 _)).trans ?_
    refine (sv_iload_n jM104 c104_34 rfl rfl).trans ?_
    refine (sv_aald jM104 c104_35 rfl wr_41).trans ?_
    rfl
  ·
    refine (sv_aload_n jM104 c104_24 rfl rfl).trans ?_
    refine (sv_iconst jM104 c104_25 rfl (v := 1) (by decide +kernel)).trans ?_
    refine (sv_callvi (pl := 0) jM104 c104_26 rfl (jm_call_v (a := 0) (as := [(.int (1 : Int32))]) (rest := []) lm_8_105 rfl jM9 rfl rfl rfl rfl rfl) jM9 rfl (Or.inl rfl)).trans ?_
    refine jbi_c (fun r2 τ2 => ?_)
    exact sv_iret jM104 c104_29 rfl rfl
set_option maxRecDepth 20000 in
set_option maxHeartbeats 4000000 in
theorem P_lose_A18_57 (x1 : Int32) (σ : jm_S) : jv 104 18 [some (.ref 0), some (.int x1)] [(.ref 57)] σ = jbi (jc 8 [(.ref 57)] σ) (fun r1 τ1 => (if r1 = 0 then jaa x1 [53, 55, 57, 59] (fun q => jv 104 36 [some (.ref 0), some (.int x1)] [(.ref q)] τ1) else jbi (jc 9 [(.ref 0), (.int (1 : Int32))] τ1) (fun r2 τ2 => some (some (.int r2), τ2)))) := by
  refine (sv_callvi (pl := 0) jM104 c104_18 rfl (jm_call_v (a := 57) (as := []) (rest := []) lm_8_102 rfl jM8 rfl rfl rfl rfl rfl) jM8 rfl (Or.inr rfl)).trans ?_
  refine jbi_c (fun r1 τ1 => ?_)
  refine (sv_if_eq jM104 c104_21 rfl (t := 30) (by decide +kernel)).trans ?_
  refine jif _ ?_ ?_
  ·
    refine (sv_aload_n jM104 c104_30 rfl rfl).trans ?_
    refine (sv_getf jM104 c104_31 rfl lf_8_73 (fg_0_9 _)).trans ?_
    refine (sv_iload_n jM104 c104_34 rfl rfl).trans ?_
    refine (sv_aald jM104 c104_35 rfl wr_41).trans ?_
    rfl
  ·
    refine (sv_aload_n jM104 c104_24 rfl rfl).trans ?_
    refine (sv_iconst jM104 c104_25 rfl (v := 1) (by decide +kernel)).trans ?_
    refine (sv_callvi (pl := 0) jM104 c104_26 rfl (jm_call_v (a := 0) (as := [(.int (1 : Int32))]) (rest := []) lm_8_105 rfl jM9 rfl rfl rfl rfl rfl) jM9 rfl (Or.inl rfl)).trans ?_
    refine jbi_c (fun r2 τ2 => ?_)
    exact sv_iret jM104 c104_29 rfl rfl
set_option maxRecDepth 20000 in
set_option maxHeartbeats 4000000 in
theorem P_lose_A18_59 (x1 : Int32) (σ : jm_S) : jv 104 18 [some (.ref 0), some (.int x1)] [(.ref 59)] σ = jbi (jc 8 [(.ref 59)] σ) (fun r1 τ1 => (if r1 = 0 then jaa x1 [53, 55, 57, 59] (fun q => jv 104 36 [some (.ref 0), some (.int x1)] [(.ref q)] τ1) else jbi (jc 9 [(.ref 0), (.int (1 : Int32))] τ1) (fun r2 τ2 => some (some (.int r2), τ2)))) := by
  refine (sv_callvi (pl := 0) jM104 c104_18 rfl (jm_call_v (a := 59) (as := []) (rest := []) lm_8_102 rfl jM8 rfl rfl rfl rfl rfl) jM8 rfl (Or.inr rfl)).trans ?_
  refine jbi_c (fun r1 τ1 => ?_)
  refine (sv_if_eq jM104 c104_21 rfl (t := 30) (by decide +kernel)).trans ?_
  refine jif _ ?_ ?_
  ·
    refine (sv_aload_n jM104 c104_30 rfl rfl).trans ?_
    refine (sv_getf jM104 c104_31 rfl lf_8_73 (fg_0_9 _)).trans ?_
    refine (sv_iload_n jM104 c104_34 rfl rfl).trans ?_
    refine (sv_aald jM104 c104_35 rfl wr_41).trans ?_
    rfl
  ·
    refine (sv_aload_n jM104 c104_24 rfl rfl).trans ?_
    refine (sv_iconst jM104 c104_25 rfl (v := 1) (by decide +kernel)).trans ?_
    refine (sv_callvi (pl := 0) jM104 c104_26 rfl (jm_call_v (a := 0) (as := [(.int (1 : Int32))]) (rest := []) lm_8_105 rfl jM9 rfl rfl rfl rfl rfl) jM9 rfl (Or.inl rfl)).trans ?_
    refine jbi_c (fun r2 τ2 => ?_)
    exact sv_iret jM104 c104_29 rfl rfl
set_option maxRecDepth 20000 in
set_option maxHeartbeats 4000000 in
theorem P_lose_A36_53 (x1 : Int32) (σ : jm_S) : jv 104 36 [some (.ref 0), some (.int x1)] [(.ref 53)] σ = jaa x1 [53, 55, 57, 59] (fun q => jv 104 46 [some (.ref 0), some (.int x1)] [(.ref q)] (jm_up σ 53 1 (-1 : Int32))) := by
  refine (sv_iconst jM104 c104_36 rfl (v := -1) (by decide +kernel)).trans ?_
  refine (sv_putf jM104 c104_37 rfl lf_8_281 (pf_53_1 _ _)).trans ?_
  refine (sv_aload_n jM104 c104_40 rfl rfl).trans ?_
  refine (sv_getf jM104 c104_41 rfl lf_8_73 (fg_0_9 _)).trans ?_
  refine (sv_iload_n jM104 c104_44 rfl rfl).trans ?_
  refine (sv_aald jM104 c104_45 rfl wr_41).trans ?_
  rfl
set_option maxRecDepth 20000 in
set_option maxHeartbeats 4000000 in
theorem P_lose_A36_55 (x1 : Int32) (σ : jm_S) : jv 104 36 [some (.ref 0), some (.int x1)] [(.ref 55)] σ = jaa x1 [53, 55, 57, 59] (fun q => jv 104 46 [some (.ref 0), some (.int x1)] [(.ref q)] (jm_up σ 55 1 (-1 : Int32))) := by
  refine (sv_iconst jM104 c104_36 rfl (v := -1) (by decide +kernel)).trans ?_
  refine (sv_putf jM104 c104_37 rfl lf_8_281 (pf_55_1 _ _)).trans ?_
  refine (sv_aload_n jM104 c104_40 rfl rfl).trans ?_
  refine (sv_getf jM104 c104_41 rfl lf_8_73 (fg_0_9 _)).trans ?_
  refine (sv_iload_n jM104 c104_44 rfl rfl).trans ?_
  refine (sv_aald jM104 c104_45 rfl wr_41).trans ?_
  rfl
set_option maxRecDepth 20000 in
set_option maxHeartbeats 4000000 in
theorem P_lose_A36_57 (x1 : Int32) (σ : jm_S) : jv 104 36 [some (.ref 0), some (.int x1)] [(.ref 57)] σ = jaa x1 [53, 55, 57, 59] (fun q => jv 104 46 [some (.ref 0), some (.int x1)] [(.ref q)] (jm_up σ 57 1 (-1 : Int32))) := by
  refine (sv_iconst jM104 c104_36 rfl (v := -1) (by decide +kernel)).trans ?_
  refine (sv_putf jM104 c104_37 rfl lf_8_281 (pf_57_1 _ _)).trans ?_
  refine (sv_aload_n jM104 c104_40 rfl rfl).trans ?_
  refine (sv_getf jM104 c104_41 rfl lf_8_73 (fg_0_9 _)).trans ?_
  refine (sv_iload_n jM104 c104_44 rfl rfl).trans ?_
  refine (sv_aald jM104 c104_45 rfl wr_41).trans ?_
  rfl
set_option maxRecDepth 20000 in
set_option maxHeartbeats 4000000 in
theorem P_lose_A36_59 (x1 : Int32) (σ : jm_S) : jv 104 36 [some (.ref 0), some (.int x1)] [(.ref 59)] σ = jaa x1 [53, 55, 57, 59] (fun q => jv 104 46 [some (.ref 0), some (.int x1)] [(.ref q)] (jm_up σ 59 1 (-1 : Int32))) := by
  refine (sv_iconst jM104 c104_36 rfl (v := -1) (by decide +kernel)).trans ?_
  refine (sv_putf jM104 c104_37 rfl lf_8_281 (pf_59_1 _ _)).trans ?_
  refine (sv_aload_n jM104 c104_40 rfl rfl).trans ?_
  refine (sv_getf jM104 c104_41 rfl lf_8_73 (fg_0_9 _)).trans ?_
  refine (sv_iload_n jM104 c104_44 rfl rfl).trans ?_
  refine (sv_aald jM104 c104_45 rfl wr_41).trans ?_
  rfl
set_option maxRecDepth 20000 in
set_option maxHeartbeats 4000000 in
theorem P_lose_A46_53 (x1 : Int32) (σ : jm_S) : jv 104 46 [some (.ref 0), some (.int x1)] [(.ref 53)] σ = some (some (.int (σ 53 2)), σ) := by
  refine (sv_getf jM104 c104_46 rfl lf_8_109 (fg_53_2 _)).trans ?_
  exact sv_iret jM104 c104_49 rfl rfl
set_option maxRecDepth 20000 in
set_option maxHeartbeats 4000000 in
theorem P_lose_A46_55 (x1 : Int32) (σ : jm_S) : jv 104 46 [some (.ref 0), some (.int x1)] [(.ref 55)] σ = some (some (.int (σ 55 2)), σ) := by
  refine (sv_getf jM104 c104_46 rfl lf_8_109 (fg_55_2 _)).trans ?_
  exact sv_iret jM104 c104_49 rfl rfl
set_option maxRecDepth 20000 in
set_option maxHeartbeats 4000000 in
theorem P_lose_A46_57 (x1 : Int32) (σ : jm_S) : jv 104 46 [some (.ref 0), some (.int x1)] [(.ref 57)] σ = some (some (.int (σ 57 2)), σ) := by
  refine (sv_getf jM104 c104_46 rfl lf_8_109 (fg_57_2 _)).trans ?_
  exact sv_iret jM104 c104_49 rfl rfl
set_option maxRecDepth 20000 in
set_option maxHeartbeats 4000000 in
theorem P_lose_A46_59 (x1 : Int32) (σ : jm_S) : jv 104 46 [some (.ref 0), some (.int x1)] [(.ref 59)] σ = some (some (.int (σ 59 2)), σ) := by
  refine (sv_getf jM104 c104_46 rfl lf_8_109 (fg_59_2 _)).trans ?_
  exact sv_iret jM104 c104_49 rfl rfl
set_option maxRecDepth 20000 in
set_option maxHeartbeats 4000000 in
theorem P_lay_in (x1 : Int32) (x2 : Int32) (x3 : Int32) (x4 : Int32) (σ : jm_S) : jc 105 [(.ref 0), (.int x1), (.int x2), (.int x3), (.int x4)] σ = jbi (jc 1 [(.int x1), (.int (0 : Int32)), (.int (3 : Int32))] σ) (fun r1 τ1 => (if ¬ r1 = 0 then some (some (.int (-2 : Int32)), τ1) else jbi (jc 1 [(.int x2), (.int (0 : Int32)), (.int (2 : Int32))] τ1) (fun r2 τ2 => (if r2 = 0 then jaa x1 [53, 55, 57, 59] (fun q => jv 105 27 [some (.ref 0), some (.int x1), some (.int x2), some (.int x3), some (.int x4), none] [(.ref q)] τ2) else some (some (.int (-2 : Int32)), τ2))))) := by
  refine (jc_of (ls1 := [some (.ref 0), some (.int x1), some (.int x2), some (.int x3), some (.int x4), none]) ((jm_ini_of jM105).trans rfl)).trans ?_
  refine (sv_iload_n jM105 c105_0 rfl rfl).trans ?_
  refine (sv_iconst jM105 c105_1 rfl (v := 0) (by decide +kernel)).trans ?_
  refine (sv_iconst jM105 c105_2 rfl (v := 3) (by decide +kernel)).trans ?_
  refine (sv_callsi (pl := 0) jM105 c105_3 rfl (jm_call_s (as := [(.int x1), (.int (0 : Int32)), (.int (3 : Int32))]) (rest := []) lm_8_86 rfl jM1 rfl rfl rfl rfl) jM1 rfl (Or.inr rfl)).trans ?_
  refine jbi_c (fun r1 τ1 => ?_)
  refine (sv_if_ne jM105 c105_6 rfl (t := 18) (by decide +kernel)).trans ?_
  refine jif _ ?_ ?_
  ·
    refine (sv_bipush jM105 c105_18 rfl (v := -2) (by decide +kernel)).trans ?_
    exact sv_iret jM105 c105_20 rfl rfl
  ·
    refine (sv_iload_n jM105 c105_9 rfl rfl).trans ?_
    refine (sv_iconst jM105 c105_10 rfl (v := 0) (by decide +kernel)).trans ?_
    refine (sv_iconst jM105 c105_11 rfl (v := 2) (by decide +kernel)).trans ?_
    refine (sv_callsi (pl := 0) jM105 c105_12 rfl (jm_call_s (as := [(.int x2), (.int (0 : Int32)), (.int (2 : Int32))]) (rest := []) lm_8_86 rfl jM1 rfl rfl rfl rfl) jM1 rfl (Or.inr rfl)).trans ?_
    refine jbi_c (fun r2 τ2 => ?_)
    refine (sv_if_eq jM105 c105_15 rfl (t := 21) (by decide +kernel)).trans ?_
    refine jif _ ?_ ?_
    ·
      refine (sv_aload_n jM105 c105_21 rfl rfl).trans ?_
      refine (sv_getf jM105 c105_22 rfl lf_8_73 (fg_0_9 _)).trans ?_
      refine (sv_iload_n jM105 c105_25 rfl rfl).trans ?_
      refine (sv_aald jM105 c105_26 rfl wr_41).trans ?_
      rfl
    ·
      refine (sv_bipush jM105 c105_18 rfl (v := -2) (by decide +kernel)).trans ?_
      exact sv_iret jM105 c105_20 rfl rfl
set_option maxRecDepth 20000 in
set_option maxHeartbeats 4000000 in
theorem P_lay_A27_53 (x1 : Int32) (x2 : Int32) (x3 : Int32) (x4 : Int32) (σ : jm_S) : jv 105 27 [some (.ref 0), some (.int x1), some (.int x2), some (.int x3), some (.int x4), none] [(.ref 53)] σ = jbi (jc 106 [(.ref 53), (.int x2), (.int x3)] σ) (fun r1 τ1 => (if r1 = 0 then jaa x1 [53, 55, 57, 59] (fun q => jv 105 52 [some (.ref 0), some (.int x1), some (.int x2), some (.int x3), some (.int x4), some (.int r1)] [(.ref q)] τ1) else jbi (jc 9 [(.ref 0), (.int r1)] τ1) (fun r2 τ2 => some (some (.int r2), τ2)))) := by
  refine (sv_iload_n jM105 c105_27 rfl rfl).trans ?_
  refine (sv_iload_n jM105 c105_28 rfl rfl).trans ?_
  refine (sv_callvi (pl := 0) jM105 c105_29 rfl (jm_call_v (a := 53) (as := [(.int x2), (.int x3)]) (rest := []) lm_8_284 rfl jM106 rfl rfl rfl rfl rfl) jM106 rfl (Or.inl rfl)).trans ?_
  refine jbi_c (fun r1 τ1 => ?_)
  refine (sv_istore (ls1 := [some (.ref 0), some (.int x1), some (.int x2), some (.int x3), some (.int x4), some (.int r1)]) jM105 c105_32 rfl (Nat.lt_of_lt_of_eq (by decide +kernel : 5 < 6) rfl) rfl).trans ?_
  refine (sv_iload jM105 c105_34 rfl rfl).trans ?_
  refine (sv_if_eq jM105 c105_36 rfl (t := 46) (by decide +kernel)).trans ?_
  refine jif _ ?_ ?_
  ·
    refine (sv_aload_n jM105 c105_46 rfl rfl).trans ?_
    refine (sv_getf jM105 c105_47 rfl lf_8_73 (fg_0_9 _)).trans ?_
    refine (sv_iload_n jM105 c105_50 rfl rfl).trans ?_
    refine (sv_aald jM105 c105_51 rfl wr_41).trans ?_
    rfl
  ·
    refine (sv_aload_n jM105 c105_39 rfl rfl).trans ?_
    refine (sv_iload jM105 c105_40 rfl rfl).trans ?_
    refine (sv_callvi (pl := 0) jM105 c105_42 rfl (jm_call_v (a := 0) (as := [(.int r1)]) (rest := []) lm_8_105 rfl jM9 rfl rfl rfl rfl rfl) jM9 rfl (Or.inl rfl)).trans ?_
    refine jbi_c (fun r2 τ2 => ?_)
    exact sv_iret jM105 c105_45 rfl rfl
set_option maxRecDepth 20000 in
set_option maxHeartbeats 4000000 in
theorem P_lay_A27_55 (x1 : Int32) (x2 : Int32) (x3 : Int32) (x4 : Int32) (σ : jm_S) : jv 105 27 [some (.ref 0), some (.int x1), some (.int x2), some (.int x3), some (.int x4), none] [(.ref 55)] σ = jbi (jc 106 [(.ref 55), (.int x2), (.int x3)] σ) (fun r1 τ1 => (if r1 = 0 then jaa x1 [53, 55, 57, 59] (fun q => jv 105 52 [some (.ref 0), some (.int x1), some (.int x2), some (.int x3), some (.int x4), some (.int r1)] [(.ref q)] τ1) else jbi (jc 9 [(.ref 0), (.int r1)] τ1) (fun r2 τ2 => some (some (.int r2), τ2)))) := by
  refine (sv_iload_n jM105 c105_27 rfl rfl).trans ?_
  refine (sv_iload_n jM105 c105_28 rfl rfl).trans ?_
  refine (sv_callvi (pl := 0) jM105 c105_29 rfl (jm_call_v (a := 55) (as := [(.int x2), (.int x3)]) (rest := []) lm_8_284 rfl jM106 rfl rfl rfl rfl rfl) jM106 rfl (Or.inl rfl)).trans ?_
  refine jbi_c (fun r1 τ1 => ?_)
  refine (sv_istore (ls1 := [some (.ref 0), some (.int x1), some (.int x2), some (.int x3), some (.int x4), some (.int r1)]) jM105 c105_32 rfl (Nat.lt_of_lt_of_eq (by decide +kernel : 5 < 6) rfl) rfl).trans ?_
  refine (sv_iload jM105 c105_34 rfl rfl).trans ?_
  refine (sv_if_eq jM105 c105_36 rfl (t := 46) (by decide +kernel)).trans ?_
  refine jif _ ?_ ?_
  ·
    refine (sv_aload_n jM105 c105_46 rfl rfl).trans ?_
    refine (sv_getf jM105 c105_47 rfl lf_8_73 (fg_0_9 _)).trans ?_
    refine (sv_iload_n jM105 c105_50 rfl rfl).trans ?_
    refine (sv_aald jM105 c105_51 rfl wr_41).trans ?_
    rfl
  ·
    refine (sv_aload_n jM105 c105_39 rfl rfl).trans ?_
    refine (sv_iload jM105 c105_40 rfl rfl).trans ?_
    refine (sv_callvi (pl := 0) jM105 c105_42 rfl (jm_call_v (a := 0) (as := [(.int r1)]) (rest := []) lm_8_105 rfl jM9 rfl rfl rfl rfl rfl) jM9 rfl (Or.inl rfl)).trans ?_
    refine jbi_c (fun r2 τ2 => ?_)
    exact sv_iret jM105 c105_45 rfl rfl
set_option maxRecDepth 20000 in
set_option maxHeartbeats 4000000 in
theorem P_lay_A27_57 (x1 : Int32) (x2 : Int32) (x3 : Int32) (x4 : Int32) (σ : jm_S) : jv 105 27 [some (.ref 0), some (.int x1), some (.int x2), some (.int x3), some (.int x4), none] [(.ref 57)] σ = jbi (jc 106 [(.ref 57), (.int x2), (.int x3)] σ) (fun r1 τ1 => (if r1 = 0 then jaa x1 [53, 55, 57, 59] (fun q => jv 105 52 [some (.ref 0), some (.int x1), some (.int x2), some (.int x3), some (.int x4), some (.int r1)] [(.ref q)] τ1) else jbi (jc 9 [(.ref 0), (.int r1)] τ1) (fun r2 τ2 => some (some (.int r2), τ2)))) := by
  refine (sv_iload_n jM105 c105_27 rfl rfl).trans ?_
  refine (sv_iload_n jM105 c105_28 rfl rfl).trans ?_
  refine (sv_callvi (pl := 0) jM105 c105_29 rfl (jm_call_v (a := 57) (as := [(.int x2), (.int x3)]) (rest := []) lm_8_284 rfl jM106 rfl rfl rfl rfl rfl) jM106 rfl (Or.inl rfl)).trans ?_
  refine jbi_c (fun r1 τ1 => ?_)
  refine (sv_istore (ls1 := [some (.ref 0), some (.int x1), some (.int x2), some (.int x3), some (.int x4), some (.int r1)]) jM105 c105_32 rfl (Nat.lt_of_lt_of_eq (by decide +kernel : 5 < 6) rfl) rfl).trans ?_
  refine (sv_iload jM105 c105_34 rfl rfl).trans ?_
  refine (sv_if_eq jM105 c105_36 rfl (t := 46) (by decide +kernel)).trans ?_
  refine jif _ ?_ ?_
  ·
    refine (sv_aload_n jM105 c105_46 rfl rfl).trans ?_
    refine (sv_getf jM105 c105_47 rfl lf_8_73 (fg_0_9 _)).trans ?_
    refine (sv_iload_n jM105 c105_50 rfl rfl).trans ?_
    refine (sv_aald jM105 c105_51 rfl wr_41).trans ?_
    rfl
  ·
    refine (sv_aload_n jM105 c105_39 rfl rfl).trans ?_
    refine (sv_iload jM105 c105_40 rfl rfl).trans ?_
    refine (sv_callvi (pl := 0) jM105 c105_42 rfl (jm_call_v (a := 0) (as := [(.int r1)]) (rest := []) lm_8_105 rfl jM9 rfl rfl rfl rfl rfl) jM9 rfl (Or.inl rfl)).trans ?_
    refine jbi_c (fun r2 τ2 => ?_)
    exact sv_iret jM105 c105_45 rfl rfl
set_option maxRecDepth 20000 in
set_option maxHeartbeats 4000000 in
theorem P_lay_A27_59 (x1 : Int32) (x2 : Int32) (x3 : Int32) (x4 : Int32) (σ : jm_S) : jv 105 27 [some (.ref 0), some (.int x1), some (.int x2), some (.int x3), some (.int x4), none] [(.ref 59)] σ = jbi (jc 106 [(.ref 59), (.int x2), (.int x3)] σ) (fun r1 τ1 => (if r1 = 0 then jaa x1 [53, 55, 57, 59] (fun q => jv 105 52 [some (.ref 0), some (.int x1), some (.int x2), some (.int x3), some (.int x4), some (.int r1)] [(.ref q)] τ1) else jbi (jc 9 [(.ref 0), (.int r1)] τ1) (fun r2 τ2 => some (some (.int r2), τ2)))) := by
  refine (sv_iload_n jM105 c105_27 rfl rfl).trans ?_
  refine (sv_iload_n jM105 c105_28 rfl rfl).trans ?_
  refine (sv_callvi (pl := 0) jM105 c105_29 rfl (jm_call_v (a := 59) (as := [(.int x2), (.int x3)]) (rest := []) lm_8_284 rfl jM106 rfl rfl rfl rfl rfl) jM106 rfl (Or.inl rfl)).trans ?_
  refine jbi_c (fun r1 τ1 => ?_)
  refine (sv_istore (ls1 := [some (.ref 0), some (.int x1), some (.int x2), some (.int x3), some (.int x4), some (.int r1)]) jM105 c105_32 rfl (Nat.lt_of_lt_of_eq (by decide +kernel : 5 < 6) rfl) rfl).trans ?_
  refine (sv_iload jM105 c105_34 rfl rfl).trans ?_
  refine (sv_if_eq jM105 c105_36 rfl (t := 46) (by decide +kernel)).trans ?_
  refine jif _ ?_ ?_
  ·
    refine (sv_aload_n jM105 c105_46 rfl rfl).trans ?_
    refine (sv_getf jM105 c105_47 rfl lf_8_73 (fg_0_9 _)).trans ?_
    refine (sv_iload_n jM105 c105_50 rfl rfl).trans ?_
    refine (sv_aald jM105 c105_51 rfl wr_41).trans ?_
    rfl
  ·
    refine (sv_aload_n jM105 c105_39 rfl rfl).trans ?_
    refine (sv_iload jM105 c105_40 rfl rfl).trans ?_
    refine (sv_callvi (pl := 0) jM105 c105_42 rfl (jm_call_v (a := 0) (as := [(.int r1)]) (rest := []) lm_8_105 rfl jM9 rfl rfl rfl rfl rfl) jM9 rfl (Or.inl rfl)).trans ?_
    refine jbi_c (fun r2 τ2 => ?_)
    exact sv_iret jM105 c105_45 rfl rfl
set_option maxRecDepth 20000 in
set_option maxHeartbeats 4000000 in
theorem P_lay_A52_53 (x1 : Int32) (x2 : Int32) (x3 : Int32) (x4 : Int32) (x5 : Int32) (σ : jm_S) : jv 105 52 [some (.ref 0), some (.int x1), some (.int x2), some (.int x3), some (.int x4), some (.int x5)] [(.ref 53)] σ = jbv (jc 107 [(.ref 53), (.int x3), (.int x4)] σ) (fun τ1 => some (some (.int (1 : Int32)), τ1)) := by
  refine (sv_iload_n jM105 c105_52 rfl rfl).trans ?_
  refine (sv_iload jM105 c105_53 rfl rfl).trans ?_
  refine (sv_callvv (pl := 0) jM105 c105_55 rfl (jm_call_v (a := 53) (as := [(.int x3), (.int x4)]) (rest := []) lm_8_287 rfl jM107 rfl rfl rfl rfl rfl) jM107 rfl rfl).trans ?_
  refine jbv_c (fun τ1 => ?_)
  refine (sv_iconst jM105 c105_58 rfl (v := 1) (by decide +kernel)).trans ?_
  exact sv_iret jM105 c105_59 rfl rfl
set_option maxRecDepth 20000 in
set_option maxHeartbeats 4000000 in
theorem P_lay_A52_55 (x1 : Int32) (x2 : Int32) (x3 : Int32) (x4 : Int32) (x5 : Int32) (σ : jm_S) : jv 105 52 [some (.ref 0), some (.int x1), some (.int x2), some (.int x3), some (.int x4), some (.int x5)] [(.ref 55)] σ = jbv (jc 107 [(.ref 55), (.int x3), (.int x4)] σ) (fun τ1 => some (some (.int (1 : Int32)), τ1)) := by
  refine (sv_iload_n jM105 c105_52 rfl rfl).trans ?_
  refine (sv_iload jM105 c105_53 rfl rfl).trans ?_
  refine (sv_callvv (pl := 0) jM105 c105_55 rfl (jm_call_v (a := 55) (as := [(.int x3), (.int x4)]) (rest := []) lm_8_287 rfl jM107 rfl rfl rfl rfl rfl) jM107 rfl rfl).trans ?_
  refine jbv_c (fun τ1 => ?_)
  refine (sv_iconst jM105 c105_58 rfl (v := 1) (by decide +kernel)).trans ?_
  exact sv_iret jM105 c105_59 rfl rfl
set_option maxRecDepth 20000 in
set_option maxHeartbeats 4000000 in
theorem P_lay_A52_57 (x1 : Int32) (x2 : Int32) (x3 : Int32) (x4 : Int32) (x5 : Int32) (σ : jm_S) : jv 105 52 [some (.ref 0), some (.int x1), some (.int x2), some (.int x3), some (.int x4), some (.int x5)] [(.ref 57)] σ = jbv (jc 107 [(.ref 57), (.int x3), (.int x4)] σ) (fun τ1 => some (some (.int (1 : Int32)), τ1)) := by
  refine (sv_iload_n jM105 c105_52 rfl rfl).trans ?_
  refine (sv_iload jM105 c105_53 rfl rfl).trans ?_
  refine (sv_callvv (pl := 0) jM105 c105_55 rfl (jm_call_v (a := 57) (as := [(.int x3), (.int x4)]) (rest := []) lm_8_287 rfl jM107 rfl rfl rfl rfl rfl) jM107 rfl rfl).trans ?_
  refine jbv_c (fun τ1 => ?_)
  refine (sv_iconst jM105 c105_58 rfl (v := 1) (by decide +kernel)).trans ?_
  exact sv_iret jM105 c105_59 rfl rfl
set_option maxRecDepth 20000 in
set_option maxHeartbeats 4000000 in
theorem P_lay_A52_59 (x1 : Int32) (x2 : Int32) (x3 : Int32) (x4 : Int32) (x5 : Int32) (σ : jm_S) : jv 105 52 [some (.ref 0), some (.int x1), some (.int x2), some (.int x3), some (.int x4), some (.int x5)] [(.ref 59)] σ = jbv (jc 107 [(.ref 59), (.int x3), (.int x4)] σ) (fun τ1 => some (some (.int (1 : Int32)), τ1)) := by
  refine (sv_iload_n jM105 c105_52 rfl rfl).trans ?_
  refine (sv_iload jM105 c105_53 rfl rfl).trans ?_
  refine (sv_callvv (pl := 0) jM105 c105_55 rfl (jm_call_v (a := 59) (as := [(.int x3), (.int x4)]) (rest := []) lm_8_287 rfl jM107 rfl rfl rfl rfl rfl) jM107 rfl rfl).trans ?_
  refine jbv_c (fun τ1 => ?_)
  refine (sv_iconst jM105 c105_58 rfl (v := 1) (by decide +kernel)).trans ?_
  exact sv_iret jM105 c105_59 rfl rfl
set_option maxRecDepth 20000 in
set_option maxHeartbeats 4000000 in
theorem P_get_in (x1 : Int32) (x2 : Int32) (x3 : Int32) (σ : jm_S) : jc 108 [(.ref 0), (.int x1), (.int x2), (.int x3)] σ = jbi (jc 1 [(.int x1), (.int (0 : Int32)), (.int (3 : Int32))] σ) (fun r1 τ1 => (if ¬ r1 = 0 then some (some (.int (-2147483648 : Int32)), τ1) else jbi (jc 1 [(.int x2), (.int (0 : Int32)), (.int (2 : Int32))] τ1) (fun r2 τ2 => (if r2 = 0 then jaa x1 [53, 55, 57, 59] (fun q => jv 108 28 [some (.ref 0), some (.int x1), some (.int x2), some (.int x3), none] [(.ref q)] τ2) else some (some (.int (-2147483648 : Int32)), τ2))))) := by
  refine (jc_of (ls1 := [some (.ref 0), some (.int x1), some (.int x2), some (.int x3), none]) ((jm_ini_of jM108).trans rfl)).trans ?_
  refine (sv_iload_n jM108 c108_0 rfl rfl).trans ?_
  refine (sv_iconst jM108 c108_1 rfl (v := 0) (by decide +kernel)).trans ?_
  refine (sv_iconst jM108 c108_2 rfl (v := 3) (by decide +kernel)).trans ?_
  refine (sv_callsi (pl := 0) jM108 c108_3 rfl (jm_call_s (as := [(.int x1), (.int (0 : Int32)), (.int (3 : Int32))]) (rest := []) lm_8_86 rfl jM1 rfl rfl rfl rfl) jM1 rfl (Or.inr rfl)).trans ?_
  refine jbi_c (fun r1 τ1 => ?_)
  refine (sv_if_ne jM108 c108_6 rfl (t := 18) (by decide +kernel)).trans ?_
  refine jif _ ?_ ?_
  ·
    refine (sv_ldcw jM108 c108_18 rfl lc_8_289).trans ?_
    exact sv_iret jM108 c108_21 rfl rfl
  ·
    refine (sv_iload_n jM108 c108_9 rfl rfl).trans ?_
    refine (sv_iconst jM108 c108_10 rfl (v := 0) (by decide +kernel)).trans ?_
    refine (sv_iconst jM108 c108_11 rfl (v := 2) (by decide +kernel)).trans ?_
    refine (sv_callsi (pl := 0) jM108 c108_12 rfl (jm_call_s (as := [(.int x2), (.int (0 : Int32)), (.int (2 : Int32))]) (rest := []) lm_8_86 rfl jM1 rfl rfl rfl rfl) jM1 rfl (Or.inr rfl)).trans ?_
    refine jbi_c (fun r2 τ2 => ?_)
    refine (sv_if_eq jM108 c108_15 rfl (t := 22) (by decide +kernel)).trans ?_
    refine jif _ ?_ ?_
    ·
      refine (sv_aload_n jM108 c108_22 rfl rfl).trans ?_
      refine (sv_getf jM108 c108_23 rfl lf_8_73 (fg_0_9 _)).trans ?_
      refine (sv_iload_n jM108 c108_26 rfl rfl).trans ?_
      refine (sv_aald jM108 c108_27 rfl wr_41).trans ?_
      rfl
    ·
      refine (sv_ldcw jM108 c108_18 rfl lc_8_289).trans ?_
      exact sv_iret jM108 c108_21 rfl rfl
set_option maxRecDepth 20000 in
set_option maxHeartbeats 4000000 in
theorem P_get_A28_53 (x1 : Int32) (x2 : Int32) (x3 : Int32) (σ : jm_S) : jv 108 28 [some (.ref 0), some (.int x1), some (.int x2), some (.int x3), none] [(.ref 53)] σ = jbi (jc 106 [(.ref 53), (.int x2), (.int x3)] σ) (fun r1 τ1 => (if r1 = 0 then jaa x1 [53, 55, 57, 59] (fun q => jv 108 56 [some (.ref 0), some (.int x1), some (.int x2), some (.int x3), some (.int r1)] [(.ref q)] τ1) else some (some (.int (-2147483648 : Int32)), (jm_up τ1 0 10 r1)))) := by
  refine (sv_iload_n jM108 c108_28 rfl rfl).trans ?_
  refine (sv_iload_n jM108 c108_29 rfl rfl).trans ?_
  refine (sv_callvi (pl := 0) jM108 c108_30 rfl (jm_call_v (a := 53) (as := [(.int x2), (.int x3)]) (rest := []) lm_8_284 rfl jM106 rfl rfl rfl rfl rfl) jM106 rfl (Or.inl rfl)).trans ?_
  refine jbi_c (fun r1 τ1 => ?_)
  refine (sv_istore (ls1 := [some (.ref 0), some (.int x1), some (.int x2), some (.int x3), some (.int r1)]) jM108 c108_33 rfl (Nat.lt_of_lt_of_eq (by decide +kernel : 4 < 5) rfl) rfl).trans ?_
  refine (sv_iload jM108 c108_35 rfl rfl).trans ?_
  refine (sv_if_eq jM108 c108_37 rfl (t := 50) (by decide +kernel)).trans ?_
  refine jif _ ?_ ?_
  ·
    refine (sv_aload_n jM108 c108_50 rfl rfl).trans ?_
    refine (sv_getf jM108 c108_51 rfl lf_8_73 (fg_0_9 _)).trans ?_
    refine (sv_iload_n jM108 c108_54 rfl rfl).trans ?_
    refine (sv_aald jM108 c108_55 rfl wr_41).trans ?_
    rfl
  ·
    refine (sv_aload_n jM108 c108_40 rfl rfl).trans ?_
    refine (sv_iload jM108 c108_41 rfl rfl).trans ?_
    refine (sv_putf jM108 c108_43 rfl lf_8_77 (pf_0_10 _ _)).trans ?_
    refine (sv_ldcw jM108 c108_46 rfl lc_8_289).trans ?_
    exact sv_iret jM108 c108_49 rfl rfl
set_option maxRecDepth 20000 in
set_option maxHeartbeats 4000000 in
theorem P_get_A28_55 (x1 : Int32) (x2 : Int32) (x3 : Int32) (σ : jm_S) : jv 108 28 [some (.ref 0), some (.int x1), some (.int x2), some (.int x3), none] [(.ref 55)] σ = jbi (jc 106 [(.ref 55), (.int x2), (.int x3)] σ) (fun r1 τ1 => (if r1 = 0 then jaa x1 [53, 55, 57, 59] (fun q => jv 108 56 [some (.ref 0), some (.int x1), some (.int x2), some (.int x3), some (.int r1)] [(.ref q)] τ1) else some (some (.int (-2147483648 : Int32)), (jm_up τ1 0 10 r1)))) := by
  refine (sv_iload_n jM108 c108_28 rfl rfl).trans ?_
  refine (sv_iload_n jM108 c108_29 rfl rfl).trans ?_
  refine (sv_callvi (pl := 0) jM108 c108_30 rfl (jm_call_v (a := 55) (as := [(.int x2), (.int x3)]) (rest := []) lm_8_284 rfl jM106 rfl rfl rfl rfl rfl) jM106 rfl (Or.inl rfl)).trans ?_
  refine jbi_c (fun r1 τ1 => ?_)
  refine (sv_istore (ls1 := [some (.ref 0), some (.int x1), some (.int x2), some (.int x3), some (.int r1)]) jM108 c108_33 rfl (Nat.lt_of_lt_of_eq (by decide +kernel : 4 < 5) rfl) rfl).trans ?_
  refine (sv_iload jM108 c108_35 rfl rfl).trans ?_
  refine (sv_if_eq jM108 c108_37 rfl (t := 50) (by decide +kernel)).trans ?_
  refine jif _ ?_ ?_
  ·
    refine (sv_aload_n jM108 c108_50 rfl rfl).trans ?_
    refine (sv_getf jM108 c108_51 rfl lf_8_73 (fg_0_9 _)).trans ?_
    refine (sv_iload_n jM108 c108_54 rfl rfl).trans ?_
    refine (sv_aald jM108 c108_55 rfl wr_41).trans ?_
    rfl
  ·
    refine (sv_aload_n jM108 c108_40 rfl rfl).trans ?_
    refine (sv_iload jM108 c108_41 rfl rfl).trans ?_
    refine (sv_putf jM108 c108_43 rfl lf_8_77 (pf_0_10 _ _)).trans ?_
    refine (sv_ldcw jM108 c108_46 rfl lc_8_289).trans ?_
    exact sv_iret jM108 c108_49 rfl rfl
set_option maxRecDepth 20000 in
set_option maxHeartbeats 4000000 in
theorem P_get_A28_57 (x1 : Int32) (x2 : Int32) (x3 : Int32) (σ : jm_S) : jv 108 28 [some (.ref 0), some (.int x1), some (.int x2), some (.int x3), none] [(.ref 57)] σ = jbi (jc 106 [(.ref 57), (.int x2), (.int x3)] σ) (fun r1 τ1 => (if r1 = 0 then jaa x1 [53, 55, 57, 59] (fun q => jv 108 56 [some (.ref 0), some (.int x1), some (.int x2), some (.int x3), some (.int r1)] [(.ref q)] τ1) else some (some (.int (-2147483648 : Int32)), (jm_up τ1 0 10 r1)))) := by
  refine (sv_iload_n jM108 c108_28 rfl rfl).trans ?_
  refine (sv_iload_n jM108 c108_29 rfl rfl).trans ?_
  refine (sv_callvi (pl := 0) jM108 c108_30 rfl (jm_call_v (a := 57) (as := [(.int x2), (.int x3)]) (rest := []) lm_8_284 rfl jM106 rfl rfl rfl rfl rfl) jM106 rfl (Or.inl rfl)).trans ?_
  refine jbi_c (fun r1 τ1 => ?_)
  refine (sv_istore (ls1 := [some (.ref 0), some (.int x1), some (.int x2), some (.int x3), some (.int r1)]) jM108 c108_33 rfl (Nat.lt_of_lt_of_eq (by decide +kernel : 4 < 5) rfl) rfl).trans ?_
  refine (sv_iload jM108 c108_35 rfl rfl).trans ?_
  refine (sv_if_eq jM108 c108_37 rfl (t := 50) (by decide +kernel)).trans ?_
  refine jif _ ?_ ?_
  ·
    refine (sv_aload_n jM108 c108_50 rfl rfl).trans ?_
    refine (sv_getf jM108 c108_51 rfl lf_8_73 (fg_0_9 _)).trans ?_
    refine (sv_iload_n jM108 c108_54 rfl rfl).trans ?_
    refine (sv_aald jM108 c108_55 rfl wr_41).trans ?_
    rfl
  ·
    refine (sv_aload_n jM108 c108_40 rfl rfl).trans ?_
    refine (sv_iload jM108 c108_41 rfl rfl).trans ?_
    refine (sv_putf jM108 c108_43 rfl lf_8_77 (pf_0_10 _ _)).trans ?_
    refine (sv_ldcw jM108 c108_46 rfl lc_8_289).trans ?_
    exact sv_iret jM108 c108_49 rfl rfl
set_option maxRecDepth 20000 in
set_option maxHeartbeats 4000000 in
theorem P_get_A28_59 (x1 : Int32) (x2 : Int32) (x3 : Int32) (σ : jm_S) : jv 108 28 [some (.ref 0), some (.int x1), some (.int x2), some (.int x3), none] [(.ref 59)] σ = jbi (jc 106 [(.ref 59), (.int x2), (.int x3)] σ) (fun r1 τ1 => (if r1 = 0 then jaa x1 [53, 55, 57, 59] (fun q => jv 108 56 [some (.ref 0), some (.int x1), some (.int x2), some (.int x3), some (.int r1)] [(.ref q)] τ1) else some (some (.int (-2147483648 : Int32)), (jm_up τ1 0 10 r1)))) := by
  refine (sv_iload_n jM108 c108_28 rfl rfl).trans ?_
  refine (sv_iload_n jM108 c108_29 rfl rfl).trans ?_
  refine (sv_callvi (pl := 0) jM108 c108_30 rfl (jm_call_v (a := 59) (as := [(.int x2), (.int x3)]) (rest := []) lm_8_284 rfl jM106 rfl rfl rfl rfl rfl) jM106 rfl (Or.inl rfl)).trans ?_
  refine jbi_c (fun r1 τ1 => ?_)
  refine (sv_istore (ls1 := [some (.ref 0), some (.int x1), some (.int x2), some (.int x3), some (.int r1)]) jM108 c108_33 rfl (Nat.lt_of_lt_of_eq (by decide +kernel : 4 < 5) rfl) rfl).trans ?_
  refine (sv_iload jM108 c108_35 rfl rfl).trans ?_
  refine (sv_if_eq jM108 c108_37 rfl (t := 50) (by decide +kernel)).trans ?_
  refine jif _ ?_ ?_
  ·
    refine (sv_aload_n jM108 c108_50 rfl rfl).trans ?_
    refine (sv_getf jM108 c108_51 rfl lf_8_73 (fg_0_9 _)).trans ?_
    refine (sv_iload_n jM108 c108_54 rfl rfl).trans ?_
    refine (sv_aald jM108 c108_55 rfl wr_41).trans ?_
    rfl
  ·
    refine (sv_aload_n jM108 c108_40 rfl rfl).trans ?_
    refine (sv_iload jM108 c108_41 rfl rfl).trans ?_
    refine (sv_putf jM108 c108_43 rfl lf_8_77 (pf_0_10 _ _)).trans ?_
    refine (sv_ldcw jM108 c108_46 rfl lc_8_289).trans ?_
    exact sv_iret jM108 c108_49 rfl rfl
set_option maxRecDepth 20000 in
set_option maxHeartbeats 4000000 in
theorem P_get_A56_53 (x1 : Int32) (x2 : Int32) (x3 : Int32) (x4 : Int32) (σ : jm_S) : jv 108 56 [some (.ref 0), some (.int x1), some (.int x2), some (.int x3), some (.int x4)] [(.ref 53)] σ = (if x3 < 0 ∨ 60 ≤ x3.toNatClampNeg then none else some (some (.int (σ 54 x3.toNatClampNeg)), σ)) := by
  refine (sv_getf jM108 c108_56 rfl lf_8_112 (fg_53_0 _)).trans ?_
  refine (sv_iload_n jM108 c108_59 rfl rfl).trans ?_
  refine (sv_iald jM108 c108_60 rfl (ia_54 _)).trans ?_
  refine jif _ rfl ?_
  exact sv_iret jM108 c108_61 rfl rfl
set_option maxRecDepth 20000 in
set_option maxHeartbeats 4000000 in
theorem P_get_A56_55 (x1 : Int32) (x2 : Int32) (x3 : Int32) (x4 : Int32) (σ : jm_S) : jv 108 56 [some (.ref 0), some (.int x1), some (.int x2), some (.int x3), some (.int x4)] [(.ref 55)] σ = (if x3 < 0 ∨ 60 ≤ x3.toNatClampNeg then none else some (some (.int (σ 56 x3.toNatClampNeg)), σ)) := by
  refine (sv_getf jM108 c108_56 rfl lf_8_112 (fg_55_0 _)).trans ?_
  refine (sv_iload_n jM108 c108_59 rfl rfl).trans ?_
  refine (sv_iald jM108 c108_60 rfl (ia_56 _)).trans ?_
  refine jif _ rfl ?_
  exact sv_iret jM108 c108_61 rfl rfl
set_option maxRecDepth 20000 in
set_option maxHeartbeats 4000000 in
theorem P_get_A56_57 (x1 : Int32) (x2 : Int32) (x3 : Int32) (x4 : Int32) (σ : jm_S) : jv 108 56 [some (.ref 0), some (.int x1), some (.int x2), some (.int x3), some (.int x4)] [(.ref 57)] σ = (if x3 < 0 ∨ 60 ≤ x3.toNatClampNeg then none else some (some (.int (σ 58 x3.toNatClampNeg)), σ)) := by
  refine (sv_getf jM108 c108_56 rfl lf_8_112 (fg_57_0 _)).trans ?_
  refine (sv_iload_n jM108 c108_59 rfl rfl).trans ?_
  refine (sv_iald jM108 c108_60 rfl (ia_58 _)).trans ?_
  refine jif _ rfl ?_
  exact sv_iret jM108 c108_61 rfl rfl
set_option maxRecDepth 20000 in
set_option maxHeartbeats 4000000 in
theorem P_get_A56_59 (x1 : Int32) (x2 : Int32) (x3 : Int32) (x4 : Int32) (σ : jm_S) : jv 108 56 [some (.ref 0), some (.int x1), some (.int x2), some (.int x3), some (.int x4)] [(.ref 59)] σ = (if x3 < 0 ∨ 60 ≤ x3.toNatClampNeg then none else some (some (.int (σ 60 x3.toNatClampNeg)), σ)) := by
  refine (sv_getf jM108 c108_56 rfl lf_8_112 (fg_59_0 _)).trans ?_
  refine (sv_iload_n jM108 c108_59 rfl rfl).trans ?_
  refine (sv_iald jM108 c108_60 rfl (ia_60 _)).trans ?_
  refine jif _ rfl ?_
  exact sv_iret jM108 c108_61 rfl rfl
set_option maxRecDepth 20000 in
set_option maxHeartbeats 4000000 in
theorem P_copy_in (x1 : Int32) (x2 : Int32) (x3 : Int32) (x4 : Int32) (x5 : Int32) (σ : jm_S) : jc 109 [(.ref 0), (.int x1), (.int x2), (.int x3), (.int x4), (.int x5)] σ = jbi (jc 1 [(.int x1), (.int (0 : Int32)), (.int (3 : Int32))] σ) (fun r1 τ1 => (if ¬ r1 = 0 then some (some (.int (-2 : Int32)), τ1) else jbi (jc 1 [(.int x3), (.int (0 : Int32)), (.int (3 : Int32))] τ1) (fun r2 τ2 => (if r2 = 0 then jaa x1 [53, 55, 57, 59] (fun q => jv 109 27 [some (.ref 0), some (.int x1), some (.int x2), some (.int x3), some (.int x4), some (.int x5), none, none] [(.ref q)] τ2) else some (some (.int (-2 : Int32)), τ2))))) := by
  refine (jc_of (ls1 := [some (.ref 0), some (.int x1), some (.int x2), some (.int x3), some (.int x4), some (.int x5), none, none]) ((jm_ini_of jM109).trans rfl)).trans ?_
  refine (sv_iload_n jM109 c109_0 rfl rfl).trans ?_
  refine (sv_iconst jM109 c109_1 rfl (v := 0) (by decide +kernel)).trans ?_
  refine (sv_iconst jM109 c109_2 rfl (v := 3) (by decide +kernel)).trans ?_
  refine (sv_callsi (pl := 0) jM109 c109_3 rfl (jm_call_s (as := [(.int x1), (.int (0 : Int32)), (.int (3 : Int32))]) (rest := []) lm_8_86 rfl jM1 rfl rfl rfl rfl) jM1 rfl (Or.inr rfl)).trans ?_
  refine jbi_c (fun r1 τ1 => ?_)
  refine (sv_if_ne jM109 c109_6 rfl (t := 18) (by decide +kernel)).trans ?_
  refine jif _ ?_ ?_
  ·
    refine (sv_bipush jM109 c109_18 rfl (v := -2) (by decide +kernel)).trans ?_
    exact sv_iret jM109 c109_20 rfl rfl
  ·
    refine (sv_iload_n jM109 c109_9 rfl rfl).trans ?_
    refine (sv_iconst jM109 c109_10 rfl (v := 0) (by decide +kernel)).trans ?_
    refine (sv_iconst jM109 c109_11 rfl (v := 3) (by decide +kernel)).trans ?_
    refine (sv_callsi (pl := 0) jM109 c109_12 rfl (jm_call_s (as := [(.int x3), (.int (0 : Int32)), (.int (3 : Int32))]) (rest := []) lm_8_86 rfl jM1 rfl rfl rfl rfl) jM1 rfl (Or.inr rfl)).trans ?_
    refine jbi_c (fun r2 τ2 => ?_)
    refine (sv_if_eq jM109 c109_15 rfl (t := 21) (by decide +kernel)).trans ?_
    refine jif _ ?_ ?_
    ·
      refine (sv_aload_n jM109 c109_21 rfl rfl).trans ?_
      refine (sv_getf jM109 c109_22 rfl lf_8_73 (fg_0_9 _)).trans ?_
      refine (sv_iload_n jM109 c109_25 rfl rfl).trans ?_
      refine (sv_aald jM109 c109_26 rfl wr_41).trans ?_
      rfl
    ·
      refine (sv_bipush jM109 c109_18 rfl (v := -2) (by decide +kernel)).trans ?_
      exact sv_iret jM109 c109_20 rfl rfl
set_option maxRecDepth 20000 in
set_option maxHeartbeats 4000000 in
theorem P_copy_A27_53 (x1 : Int32) (x2 : Int32) (x3 : Int32) (x4 : Int32) (x5 : Int32) (σ : jm_S) : jv 109 27 [some (.ref 0), some (.int x1), some (.int x2), some (.int x3), some (.int x4), some (.int x5), none, none] [(.ref 53)] σ = jaa x3 [53, 55, 57, 59] (fun q => jv 109 35 [some (.ref 0), some (.int x1), some (.int x2), some (.int x3), some (.int x4), some (.int x5), some (.ref 53), none] [(.ref q)] σ) := by
  refine (sv_astore (ls1 := [some (.ref 0), some (.int x1), some (.int x2), some (.int x3), some (.int x4), some (.int x5), some (.ref 53), none]) jM109 c109_27 rfl (Nat.lt_of_lt_of_eq (by decide +kernel : 6 < 8) rfl) rfl).trans ?_
  refine (sv_aload_n jM109 c109_29 rfl rfl).trans ?_
  refine (sv_getf jM109 c109_30 rfl lf_8_73 (fg_0_9 _)).trans ?_
  refine (sv_iload_n jM109 c109_33 rfl rfl).trans ?_
  refine (sv_aald jM109 c109_34 rfl wr_41).trans ?_
  rfl
set_option maxRecDepth 20000 in
set_option maxHeartbeats 4000000 in
theorem P_copy_A27_55 (x1 : Int32) (x2 : Int32) (x3 : Int32) (x4 : Int32) (x5 : Int32) (σ : jm_S) : jv 109 27 [some (.ref 0), some (.int x1), some (.int x2), some (.int x3), some (.int x4), some (.int x5), none, none] [(.ref 55)] σ = jaa x3 [53, 55, 57, 59] (fun q => jv 109 35 [some (.ref 0), some (.int x1), some (.int x2), some (.int x3), some (.int x4), some (.int x5), some (.ref 55), none] [(.ref q)] σ) := by
  refine (sv_astore (ls1 := [some (.ref 0), some (.int x1), some (.int x2), some (.int x3), some (.int x4), some (.int x5), some (.ref 55), none]) jM109 c109_27 rfl (Nat.lt_of_lt_of_eq (by decide +kernel : 6 < 8) rfl) rfl).trans ?_
  refine (sv_aload_n jM109 c109_29 rfl rfl).trans ?_
  refine (sv_getf jM109 c109_30 rfl lf_8_73 (fg_0_9 _)).trans ?_
  refine (sv_iload_n jM109 c109_33 rfl rfl).trans ?_
  refine (sv_aald jM109 c109_34 rfl wr_41).trans ?_
  rfl
set_option maxRecDepth 20000 in
set_option maxHeartbeats 4000000 in
theorem P_copy_A27_57 (x1 : Int32) (x2 : Int32) (x3 : Int32) (x4 : Int32) (x5 : Int32) (σ : jm_S) : jv 109 27 [some (.ref 0), some (.int x1), some (.int x2), some (.int x3), some (.int x4), some (.int x5), none, none] [(.ref 57)] σ = jaa x3 [53, 55, 57, 59] (fun q => jv 109 35 [some (.ref 0), some (.int x1), some (.int x2), some (.int x3), some (.int x4), some (.int x5), some (.ref 57), none] [(.ref q)] σ) := by
  refine (sv_astore (ls1 := [some (.ref 0), some (.int x1), some (.int x2), some (.int x3), some (.int x4), some (.int x5), some (.ref 57), none]) jM109 c109_27 rfl (Nat.lt_of_lt_of_eq (by decide +kernel : 6 < 8) rfl) rfl).trans ?_
  refine (sv_aload_n jM109 c109_29 rfl rfl).trans ?_
  refine (sv_getf jM109 c109_30 rfl lf_8_73 (fg_0_9 _)).trans ?_
  refine (sv_iload_n jM109 c109_33 rfl rfl).trans ?_
  refine (sv_aald jM109 c109_34 rfl wr_41).trans ?_
  rfl
set_option maxRecDepth 20000 in
set_option maxHeartbeats 4000000 in
theorem P_copy_A27_59 (x1 : Int32) (x2 : Int32) (x3 : Int32) (x4 : Int32) (x5 : Int32) (σ : jm_S) : jv 109 27 [some (.ref 0), some (.int x1), some (.int x2), some (.int x3), some (.int x4), some (.int x5), none, none] [(.ref 59)] σ = jaa x3 [53, 55, 57, 59] (fun q => jv 109 35 [some (.ref 0), some (.int x1), some (.int x2), some (.int x3), some (.int x4), some (.int x5), some (.ref 59), none] [(.ref q)] σ) := by
  refine (sv_astore (ls1 := [some (.ref 0), some (.int x1), some (.int x2), some (.int x3), some (.int x4), some (.int x5), some (.ref 59), none]) jM109 c109_27 rfl (Nat.lt_of_lt_of_eq (by decide +kernel : 6 < 8) rfl) rfl).trans ?_
  refine (sv_aload_n jM109 c109_29 rfl rfl).trans ?_
  refine (sv_getf jM109 c109_30 rfl lf_8_73 (fg_0_9 _)).trans ?_
  refine (sv_iload_n jM109 c109_33 rfl rfl).trans ?_
  refine (sv_aald jM109 c109_34 rfl wr_41).trans ?_
  rfl
set_option maxRecDepth 20000 in
set_option maxHeartbeats 4000000 in
theorem P_copy_A35_53 (x1 : Int32) (x2 : Int32) (x3 : Int32) (x4 : Int32) (x5 : Int32) (σ : jm_S) : jv 109 35 [some (.ref 0), some (.int x1), some (.int x2), some (.int x3), some (.int x4), some (.int x5), some (.ref 53), none] [(.ref 53)] σ = jbi (jc 8 [(.ref 53)] σ) (fun r1 τ1 => (if ¬ r1 = 0 then jbi (jc 9 [(.ref 0), (.int (1 : Int32))] τ1) (fun r2 τ2 => some (some (.int r2), τ2)) else jbi (jc 8 [(.ref 53)] τ1) (fun r3 τ3 => (if r3 = 0 then (if (τ3 53 1) = (τ3 53 1) then jbi (jc 110 [(.ref 53), (.int x2), (.int x5)] τ3) (fun r4 τ4 => (if r4 = 0 then jbi (jc 9 [(.ref 0), (.int (2 : Int32))] τ4) (fun r5 τ5 => some (some (.int r5), τ5)) else jbi (jc 110 [(.ref 53), (.int x4), (.int x5)] τ4) (fun r6 τ6 => (if ¬ r6 = 0 then (if x2 < 0 ∨ x4 < 0 ∨ x5 < 0 ∨ 60 < x2.toNatClampNeg + x5.toNatClampNeg ∨ 60 < x4.toNatClampNeg + x5.toNatClampNeg then none else some (some (.int (1 : Int32)), (jm_row τ6 54 (va_cpy (τ6 54) (τ6 54) x2.toNatClampNeg x4.toNatClampNeg x5.toNatClampNeg)))) else jbi (jc 9 [(.ref 0), (.int (2 : Int32))] τ6) (fun r7 τ7 => some (some (.int r7), τ7)))))) else jbi (jc 9 [(.ref 0), (.int (4 : Int32))] τ3) (fun r8 τ8 => some (some (.int r8), τ8))) else jbi (jc 9 [(.ref 0), (.int (1 : Int32))] τ3) (fun r9 τ9 => some (some (.int r9), τ9)))))) := by
  refine (sv_astore (ls1 := [some (.ref 0), some (.int x1), some (.int x2), some (.int x3), some (.int x4), some (.int x5), some (.ref 53), some (.ref 53)]) jM109 c109_35 rfl (Nat.lt_of_lt_of_eq (by decide +kernel : 7 < 8) rfl) rfl).trans ?_
  refine (sv_aload jM109 c109_37 rfl rfl).trans ?_
  refine (sv_callvi (pl := 0) jM109 c109_39 rfl (jm_call_v (a := 53) (as := []) (rest := []) lm_8_102 rfl jM8 rfl rfl rfl rfl rfl) jM8 rfl (Or.inr rfl)).trans ?_
  refine jbi_c (fun r1 τ1 => ?_)
  refine (sv_if_ne jM109 c109_42 rfl (t := 53) (by decide +kernel)).trans ?_
  refine jif _ ?_ ?_
  ·
    refine (sv_aload_n jM109 c109_53 rfl rfl).trans ?_
    refine (sv_iconst jM109 c109_54 rfl (v := 1) (by decide +kernel)).trans ?_
    refine (sv_callvi (pl := 0) jM109 c109_55 rfl (jm_call_v (a := 0) (as := [(.int (1 : Int32))]) (rest := []) lm_8_105 rfl jM9 rfl rfl rfl rfl rfl) jM9 rfl (Or.inl rfl)).trans ?_
    refine jbi_c (fun r2 τ2 => ?_)
    exact sv_iret jM109 c109_58 rfl rfl
  ·
    refine (sv_aload jM109 c109_45 rfl rfl).trans ?_
    refine (sv_callvi (pl := 0) jM109 c109_47 rfl (jm_call_v (a := 53) (as := []) (rest := []) lm_8_102 rfl jM8 rfl rfl rfl rfl rfl) jM8 rfl (Or.inr rfl)).trans ?_
    refine jbi_c (fun r3 τ3 => ?_)
    refine (sv_if_eq jM109 c109_50 rfl (t := 59) (by decide +kernel)).trans ?_
    refine jif _ ?_ ?_
    ·
      refine (sv_aload jM109 c109_59 rfl rfl).trans ?_
      refine (sv_getf jM109 c109_61 rfl lf_8_281 (fg_53_1 _)).trans ?_
      refine (sv_aload jM109 c109_64 rfl rfl).trans ?_
      refine (sv_getf jM109 c109_66 rfl lf_8_281 (fg_53_1 _)).trans ?_
      refine (sv_icmp_eq jM109 c109_69 rfl (t := 78) (by decide +kernel)).trans ?_
      refine jif _ ?_ ?_
      ·
        refine (sv_aload jM109 c109_78 rfl rfl).trans ?_
        refine (sv_iload_n jM109 c109_80 rfl rfl).trans ?_
        refine (sv_iload jM109 c109_81 rfl rfl).trans ?_
        refine (sv_callvi (pl := 0) jM109 c109_83 rfl (jm_call_v (a := 53) (as := [(.int x2), (.int x5)]) (rest := []) lm_8_290 rfl jM110 rfl rfl rfl rfl rfl) jM110 rfl (Or.inr rfl)).trans ?_
        refine jbi_c (fun r4 τ4 => ?_)
        refine (sv_if_eq jM109 c109_86 rfl (t := 101) (by decide +kernel)).trans ?_
        refine jif _ ?_ ?_
        ·
          refine (sv_aload_n jM109 c109_101 rfl rfl).trans ?_
          refine (sv_iconst jM109 c109_102 rfl (v := 2) (by decide +kernel)).trans ?_
          refine (sv_callvi (pl := 0) jM109 c109_103 rfl (jm_call_v (a := 0) (as := [(.int (2 : Int32))]) (rest := []) lm_8_105 rfl jM9 rfl rfl rfl rfl rfl) jM9 rfl (Or.inl rfl)).trans ?_
          refine jbi_c (fun r5 τ5 => ?_)
          exact sv_iret jM109 c109_106 rfl rfl
        ·
          refine (sv_aload jM109 c109_89 rfl rfl).trans ?_
          refine (sv_iload jM109 c109_91 rfl rfl).trans ?_
          refine (sv_iload jM109 c109_93 rfl rfl).trans ?_
          refine (sv_callvi (pl := 0) jM109 c109_95 rfl (jm_call_v (a := 53) (as := [(.int x4), (.int x5)]) (rest := []) lm_8_290 rfl jM110 rfl rfl rfl rfl rfl) jM110 rfl (Or.inr rfl)).trans ?_
          refine jbi_c (fun r6 τ6 => ?_)
          refine (sv_if_ne jM109 c109_98 rfl (t := 107) (by decide +kernel)).trans ?_
          refine jif _ ?_ ?_
          ·
            refine (sv_aload jM109 c109_107 rfl rfl).trans ?_
            refine (sv_getf jM109 c109_109 rfl lf_8_112 (fg_53_0 _)).trans ?_
            refine (sv_iload_n jM109 c109_112 rfl rfl).trans ?_
            refine (sv_aload jM109 c109_113 rfl rfl).trans ?_
            refine (sv_getf jM109 c109_115 rfl lf_8_112 (fg_53_0 _)).trans ?_
            refine (sv_iload jM109 c109_118 rfl rfl).trans ?_
            refine (sv_iload jM109 c109_120 rfl rfl).trans ?_
            refine (sv_cpy jM109 c109_122 rfl lm_8_293 (Nat.not_lt.mpr (Nat.le_of_ble_eq_true rfl)) wi_54 wi_54).trans ?_
            refine jif _ rfl ?_
            refine (sv_iconst jM109 c109_125 rfl (v := 1) (by decide +kernel)).trans ?_
            exact sv_iret jM109 c109_126 rfl rfl
          ·
            refine (sv_aload_n jM109 c109_101 rfl rfl).trans ?_
            refine (sv_iconst jM109 c109_102 rfl (v := 2) (by decide +kernel)).trans ?_
            refine (sv_callvi (pl := 0) jM109 c109_103 rfl (jm_call_v (a := 0) (as := [(.int (2 : Int32))]) (rest := []) lm_8_105 rfl jM9 rfl rfl rfl rfl rfl) jM9 rfl (Or.inl rfl)).trans ?_
            refine jbi_c (fun r7 τ7 => ?_)
            exact sv_iret jM109 c109_106 rfl rfl
      ·
        refine (sv_aload_n jM109 c109_72 rfl rfl).trans ?_
        refine (sv_iconst jM109 c109_73 rfl (v := 4) (by decide +kernel)).trans ?_
        refine (sv_callvi (pl := 0) jM109 c109_74 rfl (jm_call_v (a := 0) (as := [(.int (4 : Int32))]) (rest := []) lm_8_105 rfl jM9 rfl rfl rfl rfl rfl) jM9 rfl (Or.inl rfl)).trans ?_
        refine jbi_c (fun r8 τ8 => ?_)
        exact sv_iret jM109 c109_77 rfl rfl
    ·
      refine (sv_aload_n jM109 c109_53 rfl rfl).trans ?_
      refine (sv_iconst jM109 c109_54 rfl (v := 1) (by decide +kernel)).trans ?_
      refine (sv_callvi (pl := 0) jM109 c109_55 rfl (jm_call_v (a := 0) (as := [(.int (1 : Int32))]) (rest := []) lm_8_105 rfl jM9 rfl rfl rfl rfl rfl) jM9 rfl (Or.inl rfl)).trans ?_
      refine jbi_c (fun r9 τ9 => ?_)
      exact sv_iret jM109 c109_58 rfl rfl
set_option maxRecDepth 20000 in
set_option maxHeartbeats 4000000 in
theorem P_copy_A35_55 (x1 : Int32) (x2 : Int32) (x3 : Int32) (x4 : Int32) (x5 : Int32) (σ : jm_S) : jv 109 35 [some (.ref 0), some (.int x1), some (.int x2), some (.int x3), some (.int x4), some (.int x5), some (.ref 53), none] [(.ref 55)] σ = jbi (jc 8 [(.ref 53)] σ) (fun r1 τ1 => (if ¬ r1 = 0 then jbi (jc 9 [(.ref 0), (.int (1 : Int32))] τ1) (fun r2 τ2 => some (some (.int r2), τ2)) else jbi (jc 8 [(.ref 55)] τ1) (fun r3 τ3 => (if r3 = 0 then (if (τ3 53 1) = (τ3 55 1) then jbi (jc 110 [(.ref 53), (.int x2), (.int x5)] τ3) (fun r4 τ4 => (if r4 = 0 then jbi (jc 9 [(.ref 0), (.int (2 : Int32))] τ4) (fun r5 τ5 => some (some (.int r5), τ5)) else jbi (jc 110 [(.ref 55), (.int x4), (.int x5)] τ4) (fun r6 τ6 => (if ¬ r6 = 0 then (if x2 < 0 ∨ x4 < 0 ∨ x5 < 0 ∨ 60 < x2.toNatClampNeg + x5.toNatClampNeg ∨ 60 < x4.toNatClampNeg + x5.toNatClampNeg then none else some (some (.int (1 : Int32)), (jm_row τ6 56 (va_cpy (τ6 54) (τ6 56) x2.toNatClampNeg x4.toNatClampNeg x5.toNatClampNeg)))) else jbi (jc 9 [(.ref 0), (.int (2 : Int32))] τ6) (fun r7 τ7 => some (some (.int r7), τ7)))))) else jbi (jc 9 [(.ref 0), (.int (4 : Int32))] τ3) (fun r8 τ8 => some (some (.int r8), τ8))) else jbi (jc 9 [(.ref 0), (.int (1 : Int32))] τ3) (fun r9 τ9 => some (some (.int r9), τ9)))))) := by
  refine (sv_astore (ls1 := [some (.ref 0), some (.int x1), some (.int x2), some (.int x3), some (.int x4), some (.int x5), some (.ref 53), some (.ref 55)]) jM109 c109_35 rfl (Nat.lt_of_lt_of_eq (by decide +kernel : 7 < 8) rfl) rfl).trans ?_
  refine (sv_aload jM109 c109_37 rfl rfl).trans ?_
  refine (sv_callvi (pl := 0) jM109 c109_39 rfl (jm_call_v (a := 53) (as := []) (rest := []) lm_8_102 rfl jM8 rfl rfl rfl rfl rfl) jM8 rfl (Or.inr rfl)).trans ?_
  refine jbi_c (fun r1 τ1 => ?_)
  refine (sv_if_ne jM109 c109_42 rfl (t := 53) (by decide +kernel)).trans ?_
  refine jif _ ?_ ?_
  ·
    refine (sv_aload_n jM109 c109_53 rfl rfl).trans ?_
    refine (sv_iconst jM109 c109_54 rfl (v := 1) (by decide +kernel)).trans ?_
    refine (sv_callvi (pl := 0) jM109 c109_55 rfl (jm_call_v (a := 0) (as := [(.int (1 : Int32))]) (rest := []) lm_8_105 rfl jM9 rfl rfl rfl rfl rfl) jM9 rfl (Or.inl rfl)).trans ?_
    refine jbi_c (fun r2 τ2 => ?_)
    exact sv_iret jM109 c109_58 rfl rfl
  ·
    refine (sv_aload jM109 c109_45 rfl rfl).trans ?_
    refine (sv_callvi (pl := 0) jM109 c109_47 rfl (jm_call_v (a := 55) (as := []) (rest := []) lm_8_102 rfl jM8 rfl rfl rfl rfl rfl) jM8 rfl (Or.inr rfl)).trans ?_
    refine jbi_c (fun r3 τ3 => ?_)
    refine (sv_if_eq jM109 c109_50 rfl (t := 59) (by decide +kernel)).trans ?_
    refine jif _ ?_ ?_
    ·
      refine (sv_aload jM109 c109_59 rfl rfl).trans ?_
      refine (sv_getf jM109 c109_61 rfl lf_8_281 (fg_53_1 _)).trans ?_
      refine (sv_aload jM109 c109_64 rfl rfl).trans ?_
      refine (sv_getf jM109 c109_66 rfl lf_8_281 (fg_55_1 _)).trans ?_
      refine (sv_icmp_eq jM109 c109_69 rfl (t := 78) (by decide +kernel)).trans ?_
      refine jif _ ?_ ?_
      ·
        refine (sv_aload jM109 c109_78 rfl rfl).trans ?_
        refine (sv_iload_n jM109 c109_80 rfl rfl).trans ?_
        refine (sv_iload jM109 c109_81 rfl rfl).trans ?_
        refine (sv_callvi (pl := 0) jM109 c109_83 rfl (jm_call_v (a := 53) (as := [(.int x2), (.int x5)]) (rest := []) lm_8_290 rfl jM110 rfl rfl rfl rfl rfl) jM110 rfl (Or.inr rfl)).trans ?_
        refine jbi_c (fun r4 τ4 => ?_)
        refine (sv_if_eq jM109 c109_86 rfl (t := 101) (by decide +kernel)).trans ?_
        refine jif _ ?_ ?_
        ·
          refine (sv_aload_n jM109 c109_101 rfl rfl).trans ?_
          refine (sv_iconst jM109 c109_102 rfl (v := 2) (by decide +kernel)).trans ?_
          refine (sv_callvi (pl := 0) jM109 c109_103 rfl (jm_call_v (a := 0) (as := [(.int (2 : Int32))]) (rest := []) lm_8_105 rfl jM9 rfl rfl rfl rfl rfl) jM9 rfl (Or.inl rfl)).trans ?_
          refine jbi_c (fun r5 τ5 => ?_)
          exact sv_iret jM109 c109_106 rfl rfl
        ·
          refine (sv_aload jM109 c109_89 rfl rfl).trans ?_
          refine (sv_iload jM109 c109_91 rfl rfl).trans ?_
          refine (sv_iload jM109 c109_93 rfl rfl).trans ?_
          refine (sv_callvi (pl := 0) jM109 c109_95 rfl (jm_call_v (a := 55) (as := [(.int x4), (.int x5)]) (rest := []) lm_8_290 rfl jM110 rfl rfl rfl rfl rfl) jM110 rfl (Or.inr rfl)).trans ?_
          refine jbi_c (fun r6 τ6 => ?_)
          refine (sv_if_ne jM109 c109_98 rfl (t := 107) (by decide +kernel)).trans ?_
          refine jif _ ?_ ?_
          ·
            refine (sv_aload jM109 c109_107 rfl rfl).trans ?_
            refine (sv_getf jM109 c109_109 rfl lf_8_112 (fg_53_0 _)).trans ?_
            refine (sv_iload_n jM109 c109_112 rfl rfl).trans ?_
            refine (sv_aload jM109 c109_113 rfl rfl).trans ?_
            refine (sv_getf jM109 c109_115 rfl lf_8_112 (fg_55_0 _)).trans ?_
            refine (sv_iload jM109 c109_118 rfl rfl).trans ?_
            refine (sv_iload jM109 c109_120 rfl rfl).trans ?_
            refine (sv_cpy jM109 c109_122 rfl lm_8_293 (Nat.not_lt.mpr (Nat.le_of_ble_eq_true rfl)) wi_54 wi_56).trans ?_
            refine jif _ rfl ?_
            refine (sv_iconst jM109 c109_125 rfl (v := 1) (by decide +kernel)).trans ?_
            exact sv_iret jM109 c109_126 rfl rfl
          ·
            refine (sv_aload_n jM109 c109_101 rfl rfl).trans ?_
            refine (sv_iconst jM109 c109_102 rfl (v := 2) (by decide +kernel)).trans ?_
            refine (sv_callvi (pl := 0) jM109 c109_103 rfl (jm_call_v (a := 0) (as := [(.int (2 : Int32))]) (rest := []) lm_8_105 rfl jM9 rfl rfl rfl rfl rfl) jM9 rfl (Or.inl rfl)).trans ?_
            refine jbi_c (fun r7 τ7 => ?_)
            exact sv_iret jM109 c109_106 rfl rfl
      ·
        refine (sv_aload_n jM109 c109_72 rfl rfl).trans ?_
        refine (sv_iconst jM109 c109_73 rfl (v := 4) (by decide +kernel)).trans ?_
        refine (sv_callvi (pl := 0) jM109 c109_74 rfl (jm_call_v (a := 0) (as := [(.int (4 : Int32))]) (rest := []) lm_8_105 rfl jM9 rfl rfl rfl rfl rfl) jM9 rfl (Or.inl rfl)).trans ?_
        refine jbi_c (fun r8 τ8 => ?_)
        exact sv_iret jM109 c109_77 rfl rfl
    ·
      refine (sv_aload_n jM109 c109_53 rfl rfl).trans ?_
      refine (sv_iconst jM109 c109_54 rfl (v := 1) (by decide +kernel)).trans ?_
      refine (sv_callvi (pl := 0) jM109 c109_55 rfl (jm_call_v (a := 0) (as := [(.int (1 : Int32))]) (rest := []) lm_8_105 rfl jM9 rfl rfl rfl rfl rfl) jM9 rfl (Or.inl rfl)).trans ?_
      refine jbi_c (fun r9 τ9 => ?_)
      exact sv_iret jM109 c109_58 rfl rfl
set_option maxRecDepth 20000 in
set_option maxHeartbeats 4000000 in
theorem P_copy_A35_57 (x1 : Int32) (x2 : Int32) (x3 : Int32) (x4 : Int32) (x5 : Int32) (σ : jm_S) : jv 109 35 [some (.ref 0), some (.int x1), some (.int x2), some (.int x3), some (.int x4), some (.int x5), some (.ref 53), none] [(.ref 57)] σ = jbi (jc 8 [(.ref 53)] σ) (fun r1 τ1 => (if ¬ r1 = 0 then jbi (jc 9 [(.ref 0), (.int (1 : Int32))] τ1) (fun r2 τ2 => some (some (.int r2), τ2)) else jbi (jc 8 [(.ref 57)] τ1) (fun r3 τ3 => (if r3 = 0 then (if (τ3 53 1) = (τ3 57 1) then jbi (jc 110 [(.ref 53), (.int x2), (.int x5)] τ3) (fun r4 τ4 => (if r4 = 0 then jbi (jc 9 [(.ref 0), (.int (2 : Int32))] τ4) (fun r5 τ5 => some (some (.int r5), τ5)) else jbi (jc 110 [(.ref 57), (.int x4), (.int x5)] τ4) (fun r6 τ6 => (if ¬ r6 = 0 then (if x2 < 0 ∨ x4 < 0 ∨ x5 < 0 ∨ 60 < x2.toNatClampNeg + x5.toNatClampNeg ∨ 60 < x4.toNatClampNeg + x5.toNatClampNeg then none else some (some (.int (1 : Int32)), (jm_row τ6 58 (va_cpy (τ6 54) (τ6 58) x2.toNatClampNeg x4.toNatClampNeg x5.toNatClampNeg)))) else jbi (jc 9 [(.ref 0), (.int (2 : Int32))] τ6) (fun r7 τ7 => some (some (.int r7), τ7)))))) else jbi (jc 9 [(.ref 0), (.int (4 : Int32))] τ3) (fun r8 τ8 => some (some (.int r8), τ8))) else jbi (jc 9 [(.ref 0), (.int (1 : Int32))] τ3) (fun r9 τ9 => some (some (.int r9), τ9)))))) := by
  refine (sv_astore (ls1 := [some (.ref 0), some (.int x1), some (.int x2), some (.int x3), some (.int x4), some (.int x5), some (.ref 53), some (.ref 57)]) jM109 c109_35 rfl (Nat.lt_of_lt_of_eq (by decide +kernel : 7 < 8) rfl) rfl).trans ?_
  refine (sv_aload jM109 c109_37 rfl rfl).trans ?_
  refine (sv_callvi (pl := 0) jM109 c109_39 rfl (jm_call_v (a := 53) (as := []) (rest := []) lm_8_102 rfl jM8 rfl rfl rfl rfl rfl) jM8 rfl (Or.inr rfl)).trans ?_
  refine jbi_c (fun r1 τ1 => ?_)
  refine (sv_if_ne jM109 c109_42 rfl (t := 53) (by decide +kernel)).trans ?_
  refine jif _ ?_ ?_
  ·
    refine (sv_aload_n jM109 c109_53 rfl rfl).trans ?_
    refine (sv_iconst jM109 c109_54 rfl (v := 1) (by decide +kernel)).trans ?_
    refine (sv_callvi (pl := 0) jM109 c109_55 rfl (jm_call_v (a := 0) (as := [(.int (1 : Int32))]) (rest := []) lm_8_105 rfl jM9 rfl rfl rfl rfl rfl) jM9 rfl (Or.inl rfl)).trans ?_
    refine jbi_c (fun r2 τ2 => ?_)
    exact sv_iret jM109 c109_58 rfl rfl
  ·
    refine (sv_aload jM109 c109_45 rfl rfl).trans ?_
    refine (sv_callvi (pl := 0) jM109 c109_47 rfl (jm_call_v (a := 57) (as := []) (rest := []) lm_8_102 rfl jM8 rfl rfl rfl rfl rfl) jM8 rfl (Or.inr rfl)).trans ?_
    refine jbi_c (fun r3 τ3 => ?_)
    refine (sv_if_eq jM109 c109_50 rfl (t := 59) (by decide +kernel)).trans ?_
    refine jif _ ?_ ?_
    ·
      refine (sv_aload jM109 c109_59 rfl rfl).trans ?_
      refine (sv_getf jM109 c109_61 rfl lf_8_281 (fg_53_1 _)).trans ?_
      refine (sv_aload jM109 c109_64 rfl rfl).trans ?_
      refine (sv_getf jM109 c109_66 rfl lf_8_281 (fg_57_1 _)).trans ?_
      refine (sv_icmp_eq jM109 c109_69 rfl (t := 78) (by decide +kernel)).trans ?_
      refine jif _ ?_ ?_
      ·
        refine (sv_aload jM109 c109_78 rfl rfl).trans ?_
        refine (sv_iload_n jM109 c109_80 rfl rfl).trans ?_
        refine (sv_iload jM109 c109_81 rfl rfl).trans ?_
        refine (sv_callvi (pl := 0) jM109 c109_83 rfl (jm_call_v (a := 53) (as := [(.int x2), (.int x5)]) (rest := []) lm_8_290 rfl jM110 rfl rfl rfl rfl rfl) jM110 rfl (Or.inr rfl)).trans ?_
        refine jbi_c (fun r4 τ4 => ?_)
        refine (sv_if_eq jM109 c109_86 rfl (t := 101) (by decide +kernel)).trans ?_
        refine jif _ ?_ ?_
        ·
          refine (sv_aload_n jM109 c109_101 rfl rfl).trans ?_
          refine (sv_iconst jM109 c109_102 rfl (v := 2) (by decide +kernel)).trans ?_
          refine (sv_callvi (pl := 0) jM109 c109_103 rfl (jm_call_v (a := 0) (as := [(.int (2 : Int32))]) (rest := []) lm_8_105 rfl jM9 rfl rfl rfl rfl rfl) jM9 rfl (Or.inl rfl)).trans ?_
          refine jbi_c (fun r5 τ5 => ?_)
          exact sv_iret jM109 c109_106 rfl rfl
        ·
          refine (sv_aload jM109 c109_89 rfl rfl).trans ?_
          refine (sv_iload jM109 c109_91 rfl rfl).trans ?_
          refine (sv_iload jM109 c109_93 rfl rfl).trans ?_
          refine (sv_callvi (pl := 0) jM109 c109_95 rfl (jm_call_v (a := 57) (as := [(.int x4), (.int x5)]) (rest := []) lm_8_290 rfl jM110 rfl rfl rfl rfl rfl) jM110 rfl (Or.inr rfl)).trans ?_
          refine jbi_c (fun r6 τ6 => ?_)
          refine (sv_if_ne jM109 c109_98 rfl (t := 107) (by decide +kernel)).trans ?_
          refine jif _ ?_ ?_
          ·
            refine (sv_aload jM109 c109_107 rfl rfl).trans ?_
            refine (sv_getf jM109 c109_109 rfl lf_8_112 (fg_53_0 _)).trans ?_
            refine (sv_iload_n jM109 c109_112 rfl rfl).trans ?_
            refine (sv_aload jM109 c109_113 rfl rfl).trans ?_
            refine (sv_getf jM109 c109_115 rfl lf_8_112 (fg_57_0 _)).trans ?_
            refine (sv_iload jM109 c109_118 rfl rfl).trans ?_
            refine (sv_iload jM109 c109_120 rfl rfl).trans ?_
            refine (sv_cpy jM109 c109_122 rfl lm_8_293 (Nat.not_lt.mpr (Nat.le_of_ble_eq_true rfl)) wi_54 wi_58).trans ?_
            refine jif _ rfl ?_
            refine (sv_iconst jM109 c109_125 rfl (v := 1) (by decide +kernel)).trans ?_
            exact sv_iret jM109 c109_126 rfl rfl
          ·
            refine (sv_aload_n jM109 c109_101 rfl rfl).trans ?_
            refine (sv_iconst jM109 c109_102 rfl (v := 2) (by decide +kernel)).trans ?_
            refine (sv_callvi (pl := 0) jM109 c109_103 rfl (jm_call_v (a := 0) (as := [(.int (2 : Int32))]) (rest := []) lm_8_105 rfl jM9 rfl rfl rfl rfl rfl) jM9 rfl (Or.inl rfl)).trans ?_
            refine jbi_c (fun r7 τ7 => ?_)
            exact sv_iret jM109 c109_106 rfl rfl
      ·
        refine (sv_aload_n jM109 c109_72 rfl rfl).trans ?_
        refine (sv_iconst jM109 c109_73 rfl (v := 4) (by decide +kernel)).trans ?_
        refine (sv_callvi (pl := 0) jM109 c109_74 rfl (jm_call_v (a := 0) (as := [(.int (4 : Int32))]) (rest := []) lm_8_105 rfl jM9 rfl rfl rfl rfl rfl) jM9 rfl (Or.inl rfl)).trans ?_
        refine jbi_c (fun r8 τ8 => ?_)
        exact sv_iret jM109 c109_77 rfl rfl
    ·
      refine (sv_aload_n jM109 c109_53 rfl rfl).trans ?_
      refine (sv_iconst jM109 c109_54 rfl (v := 1) (by decide +kernel)).trans ?_
      refine (sv_callvi (pl := 0) jM109 c109_55 rfl (jm_call_v (a := 0) (as := [(.int (1 : Int32))]) (rest := []) lm_8_105 rfl jM9 rfl rfl rfl rfl rfl) jM9 rfl (Or.inl rfl)).trans ?_
      refine jbi_c (fun r9 τ9 => ?_)
      exact sv_iret jM109 c109_58 rfl rfl
set_option maxRecDepth 20000 in
set_option maxHeartbeats 4000000 in
theorem P_copy_A35_59 (x1 : Int32) (x2 : Int32) (x3 : Int32) (x4 : Int32) (x5 : Int32) (σ : jm_S) : jv 109 35 [some (.ref 0), some (.int x1), some (.int x2), some (.int x3), some (.int x4), some (.int x5), some (.ref 53), none] [(.ref 59)] σ = jbi (jc 8 [(.ref 53)] σ) (fun r1 τ1 => (if ¬ r1 = 0 then jbi (jc 9 [(.ref 0), (.int (1 : Int32))] τ1) (fun r2 τ2 => some (some (.int r2), τ2)) else jbi (jc 8 [(.ref 59)] τ1) (fun r3 τ3 => (if r3 = 0 then (if (τ3 53 1) = (τ3 59 1) then jbi (jc 110 [(.ref 53), (.int x2), (.int x5)] τ3) (fun r4 τ4 => (if r4 = 0 then jbi (jc 9 [(.ref 0), (.int (2 : Int32))] τ4) (fun r5 τ5 => some (some (.int r5), τ5)) else jbi (jc 110 [(.ref 59), (.int x4), (.int x5)] τ4) (fun r6 τ6 => (if ¬ r6 = 0 then (if x2 < 0 ∨ x4 < 0 ∨ x5 < 0 ∨ 60 < x2.toNatClampNeg + x5.toNatClampNeg ∨ 60 < x4.toNatClampNeg + x5.toNatClampNeg then none else some (some (.int (1 : Int32)), (jm_row τ6 60 (va_cpy (τ6 54) (τ6 60) x2.toNatClampNeg x4.toNatClampNeg x5.toNatClampNeg)))) else jbi (jc 9 [(.ref 0), (.int (2 : Int32))] τ6) (fun r7 τ7 => some (some (.int r7), τ7)))))) else jbi (jc 9 [(.ref 0), (.int (4 : Int32))] τ3) (fun r8 τ8 => some (some (.int r8), τ8))) else jbi (jc 9 [(.ref 0), (.int (1 : Int32))] τ3) (fun r9 τ9 => some (some (.int r9), τ9)))))) := by
  refine (sv_astore (ls1 := [some (.ref 0), some (.int x1), some (.int x2), some (.int x3), some (.int x4), some (.int x5), some (.ref 53), some (.ref 59)]) jM109 c109_35 rfl (Nat.lt_of_lt_of_eq (by decide +kernel : 7 < 8) rfl) rfl).trans ?_
  refine (sv_aload jM109 c109_37 rfl rfl).trans ?_
  refine (sv_callvi (pl := 0) jM109 c109_39 rfl (jm_call_v (a := 53) (as := []) (rest := []) lm_8_102 rfl jM8 rfl rfl rfl rfl rfl) jM8 rfl (Or.inr rfl)).trans ?_
  refine jbi_c (fun r1 τ1 => ?_)
  refine (sv_if_ne jM109 c109_42 rfl (t := 53) (by decide +kernel)).trans ?_
  refine jif _ ?_ ?_
  ·
    refine (sv_aload_n jM109 c109_53 rfl rfl).trans ?_
    refine (sv_iconst jM109 c109_54 rfl (v := 1) (by decide +kernel)).trans ?_
    refine (sv_callvi (pl := 0) jM109 c109_55 rfl (jm_call_v (a := 0) (as := [(.int (1 : Int32))]) (rest := []) lm_8_105 rfl jM9 rfl rfl rfl rfl rfl) jM9 rfl (Or.inl rfl)).trans ?_
    refine jbi_c (fun r2 τ2 => ?_)
    exact sv_iret jM109 c109_58 rfl rfl
  ·
    refine (sv_aload jM109 c109_45 rfl rfl).trans ?_
    refine (sv_callvi (pl := 0) jM109 c109_47 rfl (jm_call_v (a := 59) (as := []) (rest := []) lm_8_102 rfl jM8 rfl rfl rfl rfl rfl) jM8 rfl (Or.inr rfl)).trans ?_
    refine jbi_c (fun r3 τ3 => ?_)
    refine (sv_if_eq jM109 c109_50 rfl (t := 59) (by decide +kernel)).trans ?_
    refine jif _ ?_ ?_
    ·
      refine (sv_aload jM109 c109_59 rfl rfl).trans ?_
      refine (sv_getf jM109 c109_61 rfl lf_8_281 (fg_53_1 _)).trans ?_
      refine (sv_aload jM109 c109_64 rfl rfl).trans ?_
      refine (sv_getf jM109 c109_66 rfl lf_8_281 (fg_59_1 _)).trans ?_
      refine (sv_icmp_eq jM109 c109_69 rfl (t := 78) (by decide +kernel)).trans ?_
      refine jif _ ?_ ?_
      ·
        refine (sv_aload jM109 c109_78 rfl rfl).trans ?_
        refine (sv_iload_n jM109 c109_80 rfl rfl).trans ?_
        refine (sv_iload jM109 c109_81 rfl rfl).trans ?_
        refine (sv_callvi (pl := 0) jM109 c109_83 rfl (jm_call_v (a := 53) (as := [(.int x2), (.int x5)]) (rest := []) lm_8_290 rfl jM110 rfl rfl rfl rfl rfl) jM110 rfl (Or.inr rfl)).trans ?_
        refine jbi_c (fun r4 τ4 => ?_)
        refine (sv_if_eq jM109 c109_86 rfl (t := 101) (by decide +kernel)).trans ?_
        refine jif _ ?_ ?_
        ·
          refine (sv_aload_n jM109 c109_101 rfl rfl).trans ?_
          refine (sv_iconst jM109 c109_102 rfl (v := 2) (by decide +kernel)).trans ?_
          refine (sv_callvi (pl := 0) jM109 c109_103 rfl (jm_call_v (a := 0) (as := [(.int (2 : Int32))]) (rest := []) lm_8_105 rfl jM9 rfl rfl rfl rfl rfl) jM9 rfl (Or.inl rfl)).trans ?_
          refine jbi_c (fun r5 τ5 => ?_)
          exact sv_iret jM109 c109_106 rfl rfl
        ·
          refine (sv_aload jM109 c109_89 rfl rfl).trans ?_
          refine (sv_iload jM109 c109_91 rfl rfl).trans ?_
          refine (sv_iload jM109 c109_93 rfl rfl).trans ?_
          refine (sv_callvi (pl := 0) jM109 c109_95 rfl (jm_call_v (a := 59) (as := [(.int x4), (.int x5)]) (rest := []) lm_8_290 rfl jM110 rfl rfl rfl rfl rfl) jM110 rfl (Or.inr rfl)).trans ?_
          refine jbi_c (fun r6 τ6 => ?_)
          refine (sv_if_ne jM109 c109_98 rfl (t := 107) (by decide +kernel)).trans ?_
          refine jif _ ?_ ?_
          ·
            refine (sv_aload jM109 c109_107 rfl rfl).trans ?_
            refine (sv_getf jM109 c109_109 rfl lf_8_112 (fg_53_0 _)).trans ?_
            refine (sv_iload_n jM109 c109_112 rfl rfl).trans ?_
            refine (sv_aload jM109 c109_113 rfl rfl).trans ?_
            refine (sv_getf jM109 c109_115 rfl lf_8_112 (fg_59_0 _)).trans ?_
            refine (sv_iload jM109 c109_118 rfl rfl).trans ?_
            refine (sv_iload jM109 c109_120 rfl rfl).trans ?_
            refine (sv_cpy jM109 c109_122 rfl lm_8_293 (Nat.not_lt.mpr (Nat.le_of_ble_eq_true rfl)) wi_54 wi_60).trans ?_
            refine jif _ rfl ?_
            refine (sv_iconst jM109 c109_125 rfl (v := 1) (by decide +kernel)).trans ?_
            exact sv_iret jM109 c109_126 rfl rfl
          ·
            refine (sv_aload_n jM109 c109_101 rfl rfl).trans ?_
            refine (sv_iconst jM109 c109_102 rfl (v := 2) (by decide +kernel)).trans ?_
            refine (sv_callvi (pl := 0) jM109 c109_103 rfl (jm_call_v (a := 0) (as := [(.int (2 : Int32))]) (rest := []) lm_8_105 rfl jM9 rfl rfl rfl rfl rfl) jM9 rfl (Or.inl rfl)).trans ?_
            refine jbi_c (fun r7 τ7 => ?_)
            exact sv_iret jM109 c109_106 rfl rfl
      ·
        refine (sv_aload_n jM109 c109_72 rfl rfl).trans ?_
        refine (sv_iconst jM109 c109_73 rfl (v := 4) (by decide +kernel)).trans ?_
        refine (sv_callvi (pl := 0) jM109 c109_74 rfl (jm_call_v (a := 0) (as := [(.int (4 : Int32))]) (rest := []) lm_8_105 rfl jM9 rfl rfl rfl rfl rfl) jM9 rfl (Or.inl rfl)).trans ?_
        refine jbi_c (fun r8 τ8 => ?_)
        exact sv_iret jM109 c109_77 rfl rfl
    ·
      refine (sv_aload_n jM109 c109_53 rfl rfl).trans ?_
      refine (sv_iconst jM109 c109_54 rfl (v := 1) (by decide +kernel)).trans ?_
      refine (sv_callvi (pl := 0) jM109 c109_55 rfl (jm_call_v (a := 0) (as := [(.int (1 : Int32))]) (rest := []) lm_8_105 rfl jM9 rfl rfl rfl rfl rfl) jM9 rfl (Or.inl rfl)).trans ?_
      refine jbi_c (fun r9 τ9 => ?_)
      exact sv_iret jM109 c109_58 rfl rfl
set_option maxRecDepth 20000 in
set_option maxHeartbeats 4000000 in
theorem P_copy_A35_53_v2 (x1 : Int32) (x2 : Int32) (x3 : Int32) (x4 : Int32) (x5 : Int32) (σ : jm_S) : jv 109 35 [some (.ref 0), some (.int x1), some (.int x2), some (.int x3), some (.int x4), some (.int x5), some (.ref 55), none] [(.ref 53)] σ = jbi (jc 8 [(.ref 55)] σ) (fun r1 τ1 => (if ¬ r1 = 0 then jbi (jc 9 [(.ref 0), (.int (1 : Int32))] τ1) (fun r2 τ2 => some (some (.int r2), τ2)) else jbi (jc 8 [(.ref 53)] τ1) (fun r3 τ3 => (if r3 = 0 then (if (τ3 55 1) = (τ3 53 1) then jbi (jc 110 [(.ref 55), (.int x2), (.int x5)] τ3) (fun r4 τ4 => (if r4 = 0 then jbi (jc 9 [(.ref 0), (.int (2 : Int32))] τ4) (fun r5 τ5 => some (some (.int r5), τ5)) else jbi (jc 110 [(.ref 53), (.int x4), (.int x5)] τ4) (fun r6 τ6 => (if ¬ r6 = 0 then (if x2 < 0 ∨ x4 < 0 ∨ x5 < 0 ∨ 60 < x2.toNatClampNeg + x5.toNatClampNeg ∨ 60 < x4.toNatClampNeg + x5.toNatClampNeg then none else some (some (.int (1 : Int32)), (jm_row τ6 54 (va_cpy (τ6 56) (τ6 54) x2.toNatClampNeg x4.toNatClampNeg x5.toNatClampNeg)))) else jbi (jc 9 [(.ref 0), (.int (2 : Int32))] τ6) (fun r7 τ7 => some (some (.int r7), τ7)))))) else jbi (jc 9 [(.ref 0), (.int (4 : Int32))] τ3) (fun r8 τ8 => some (some (.int r8), τ8))) else jbi (jc 9 [(.ref 0), (.int (1 : Int32))] τ3) (fun r9 τ9 => some (some (.int r9), τ9)))))) := by
  refine (sv_astore (ls1 := [some (.ref 0), some (.int x1), some (.int x2), some (.int x3), some (.int x4), some (.int x5), some (.ref 55), some (.ref 53)]) jM109 c109_35 rfl (Nat.lt_of_lt_of_eq (by decide +kernel : 7 < 8) rfl) rfl).trans ?_
  refine (sv_aload jM109 c109_37 rfl rfl).trans ?_
  refine (sv_callvi (pl := 0) jM109 c109_39 rfl (jm_call_v (a := 55) (as := []) (rest := []) lm_8_102 rfl jM8 rfl rfl rfl rfl rfl) jM8 rfl (Or.inr rfl)).trans ?_
  refine jbi_c (fun r1 τ1 => ?_)
  refine (sv_if_ne jM109 c109_42 rfl (t := 53) (by decide +kernel)).trans ?_
  refine jif _ ?_ ?_
  ·
    refine (sv_aload_n jM109 c109_53 rfl rfl).trans ?_
    refine (sv_iconst jM109 c109_54 rfl (v := 1) (by decide +kernel)).trans ?_
    refine (sv_callvi (pl := 0) jM109 c109_55 rfl (jm_call_v (a := 0) (as := [(.int (1 : Int32))]) (rest := []) lm_8_105 rfl jM9 rfl rfl rfl rfl rfl) jM9 rfl (Or.inl rfl)).trans ?_
    refine jbi_c (fun r2 τ2 => ?_)
    exact sv_iret jM109 c109_58 rfl rfl
  ·
    refine (sv_aload jM109 c109_45 rfl rfl).trans ?_
    refine (sv_callvi (pl := 0) jM109 c109_47 rfl (jm_call_v (a := 53) (as := []) (rest := []) lm_8_102 rfl jM8 rfl rfl rfl rfl rfl) jM8 rfl (Or.inr rfl)).trans ?_
    refine jbi_c (fun r3 τ3 => ?_)
    refine (sv_if_eq jM109 c109_50 rfl (t := 59) (by decide +kernel)).trans ?_
    refine jif _ ?_ ?_
    ·
      refine (sv_aload jM109 c109_59 rfl rfl).trans ?_
      refine (sv_getf jM109 c109_61 rfl lf_8_281 (fg_55_1 _)).trans ?_
      refine (sv_aload jM109 c109_64 rfl rfl).trans ?_
      refine (sv_getf jM109 c109_66 rfl lf_8_281 (fg_53_1 _)).trans ?_
      refine (sv_icmp_eq jM109 c109_69 rfl (t := 78) (by decide +kernel)).trans ?_
      refine jif _ ?_ ?_
      ·
        refine (sv_aload jM109 c109_78 rfl rfl).trans ?_
        refine (sv_iload_n jM109 c109_80 rfl rfl).trans ?_
        refine (sv_iload jM109 c109_81 rfl rfl).trans ?_
        refine (sv_callvi (pl := 0) jM109 c109_83 rfl (jm_call_v (a := 55) (as := [(.int x2), (.int x5)]) (rest := []) lm_8_290 rfl jM110 rfl rfl rfl rfl rfl) jM110 rfl (Or.inr rfl)).trans ?_
        refine jbi_c (fun r4 τ4 => ?_)
        refine (sv_if_eq jM109 c109_86 rfl (t := 101) (by decide +kernel)).trans ?_
        refine jif _ ?_ ?_
        ·
          refine (sv_aload_n jM109 c109_101 rfl rfl).trans ?_
          refine (sv_iconst jM109 c109_102 rfl (v := 2) (by decide +kernel)).trans ?_
          refine (sv_callvi (pl := 0) jM109 c109_103 rfl (jm_call_v (a := 0) (as := [(.int (2 : Int32))]) (rest := []) lm_8_105 rfl jM9 rfl rfl rfl rfl rfl) jM9 rfl (Or.inl rfl)).trans ?_
          refine jbi_c (fun r5 τ5 => ?_)
          exact sv_iret jM109 c109_106 rfl rfl
        ·
          refine (sv_aload jM109 c109_89 rfl rfl).trans ?_
          refine (sv_iload jM109 c109_91 rfl rfl).trans ?_
          refine (sv_iload jM109 c109_93 rfl rfl).trans ?_
          refine (sv_callvi (pl := 0) jM109 c109_95 rfl (jm_call_v (a := 53) (as := [(.int x4), (.int x5)]) (rest := []) lm_8_290 rfl jM110 rfl rfl rfl rfl rfl) jM110 rfl (Or.inr rfl)).trans ?_
          refine jbi_c (fun r6 τ6 => ?_)
          refine (sv_if_ne jM109 c109_98 rfl (t := 107) (by decide +kernel)).trans ?_
          refine jif _ ?_ ?_
          ·
            refine (sv_aload jM109 c109_107 rfl rfl).trans ?_
            refine (sv_getf jM109 c109_109 rfl lf_8_112 (fg_55_0 _)).trans ?_
            refine (sv_iload_n jM109 c109_112 rfl rfl).trans ?_
            refine (sv_aload jM109 c109_113 rfl rfl).trans ?_
            refine (sv_getf jM109 c109_115 rfl lf_8_112 (fg_53_0 _)).trans ?_
            refine (sv_iload jM109 c109_118 rfl rfl).trans ?_
            refine (sv_iload jM109 c109_120 rfl rfl).trans ?_
            refine (sv_cpy jM109 c109_122 rfl lm_8_293 (Nat.not_lt.mpr (Nat.le_of_ble_eq_true rfl)) wi_56 wi_54).trans ?_
            refine jif _ rfl ?_
            refine (sv_iconst jM109 c109_125 rfl (v := 1) (by decide +kernel)).trans ?_
            exact sv_iret jM109 c109_126 rfl rfl
          ·
            refine (sv_aload_n jM109 c109_101 rfl rfl).trans ?_
            refine (sv_iconst jM109 c109_102 rfl (v := 2) (by decide +kernel)).trans ?_
            refine (sv_callvi (pl := 0) jM109 c109_103 rfl (jm_call_v (a := 0) (as := [(.int (2 : Int32))]) (rest := []) lm_8_105 rfl jM9 rfl rfl rfl rfl rfl) jM9 rfl (Or.inl rfl)).trans ?_
            refine jbi_c (fun r7 τ7 => ?_)
            exact sv_iret jM109 c109_106 rfl rfl
      ·
        refine (sv_aload_n jM109 c109_72 rfl rfl).trans ?_
        refine (sv_iconst jM109 c109_73 rfl (v := 4) (by decide +kernel)).trans ?_
        refine (sv_callvi (pl := 0) jM109 c109_74 rfl (jm_call_v (a := 0) (as := [(.int (4 : Int32))]) (rest := []) lm_8_105 rfl jM9 rfl rfl rfl rfl rfl) jM9 rfl (Or.inl rfl)).trans ?_
        refine jbi_c (fun r8 τ8 => ?_)
        exact sv_iret jM109 c109_77 rfl rfl
    ·
      refine (sv_aload_n jM109 c109_53 rfl rfl).trans ?_
      refine (sv_iconst jM109 c109_54 rfl (v := 1) (by decide +kernel)).trans ?_
      refine (sv_callvi (pl := 0) jM109 c109_55 rfl (jm_call_v (a := 0) (as := [(.int (1 : Int32))]) (rest := []) lm_8_105 rfl jM9 rfl rfl rfl rfl rfl) jM9 rfl (Or.inl rfl)).trans ?_
      refine jbi_c (fun r9 τ9 => ?_)
      exact sv_iret jM109 c109_58 rfl rfl
set_option maxRecDepth 20000 in
set_option maxHeartbeats 4000000 in
theorem P_copy_A35_55_v2 (x1 : Int32) (x2 : Int32) (x3 : Int32) (x4 : Int32) (x5 : Int32) (σ : jm_S) : jv 109 35 [some (.ref 0), some (.int x1), some (.int x2), some (.int x3), some (.int x4), some (.int x5), some (.ref 55), none] [(.ref 55)] σ = jbi (jc 8 [(.ref 55)] σ) (fun r1 τ1 => (if ¬ r1 = 0 then jbi (jc 9 [(.ref 0), (.int (1 : Int32))] τ1) (fun r2 τ2 => some (some (.int r2), τ2)) else jbi (jc 8 [(.ref 55)] τ1) (fun r3 τ3 => (if r3 = 0 then (if (τ3 55 1) = (τ3 55 1) then jbi (jc 110 [(.ref 55), (.int x2), (.int x5)] τ3) (fun r4 τ4 => (if r4 = 0 then jbi (jc 9 [(.ref 0), (.int (2 : Int32))] τ4) (fun r5 τ5 => some (some (.int r5), τ5)) else jbi (jc 110 [(.ref 55), (.int x4), (.int x5)] τ4) (fun r6 τ6 => (if ¬ r6 = 0 then (if x2 < 0 ∨ x4 < 0 ∨ x5 < 0 ∨ 60 < x2.toNatClampNeg + x5.toNatClampNeg ∨ 60 < x4.toNatClampNeg + x5.toNatClampNeg then none else some (some (.int (1 : Int32)), (jm_row τ6 56 (va_cpy (τ6 56) (τ6 56) x2.toNatClampNeg x4.toNatClampNeg x5.toNatClampNeg)))) else jbi (jc 9 [(.ref 0), (.int (2 : Int32))] τ6) (fun r7 τ7 => some (some (.int r7), τ7)))))) else jbi (jc 9 [(.ref 0), (.int (4 : Int32))] τ3) (fun r8 τ8 => some (some (.int r8), τ8))) else jbi (jc 9 [(.ref 0), (.int (1 : Int32))] τ3) (fun r9 τ9 => some (some (.int r9), τ9)))))) := by
  refine (sv_astore (ls1 := [some (.ref 0), some (.int x1), some (.int x2), some (.int x3), some (.int x4), some (.int x5), some (.ref 55), some (.ref 55)]) jM109 c109_35 rfl (Nat.lt_of_lt_of_eq (by decide +kernel : 7 < 8) rfl) rfl).trans ?_
  refine (sv_aload jM109 c109_37 rfl rfl).trans ?_
  refine (sv_callvi (pl := 0) jM109 c109_39 rfl (jm_call_v (a := 55) (as := []) (rest := []) lm_8_102 rfl jM8 rfl rfl rfl rfl rfl) jM8 rfl (Or.inr rfl)).trans ?_
  refine jbi_c (fun r1 τ1 => ?_)
  refine (sv_if_ne jM109 c109_42 rfl (t := 53) (by decide +kernel)).trans ?_
  refine jif _ ?_ ?_
  ·
    refine (sv_aload_n jM109 c109_53 rfl rfl).trans ?_
    refine (sv_iconst jM109 c109_54 rfl (v := 1) (by decide +kernel)).trans ?_
    refine (sv_callvi (pl := 0) jM109 c109_55 rfl (jm_call_v (a := 0) (as := [(.int (1 : Int32))]) (rest := []) lm_8_105 rfl jM9 rfl rfl rfl rfl rfl) jM9 rfl (Or.inl rfl)).trans ?_
    refine jbi_c (fun r2 τ2 => ?_)
    exact sv_iret jM109 c109_58 rfl rfl
  ·
    refine (sv_aload jM109 c109_45 rfl rfl).trans ?_
    refine (sv_callvi (pl := 0) jM109 c109_47 rfl (jm_call_v (a := 55) (as := []) (rest := []) lm_8_102 rfl jM8 rfl rfl rfl rfl rfl) jM8 rfl (Or.inr rfl)).trans ?_
    refine jbi_c (fun r3 τ3 => ?_)
    refine (sv_if_eq jM109 c109_50 rfl (t := 59) (by decide +kernel)).trans ?_
    refine jif _ ?_ ?_
    ·
      refine (sv_aload jM109 c109_59 rfl rfl).trans ?_
      refine (sv_getf jM109 c109_61 rfl lf_8_281 (fg_55_1 _)).trans ?_
      refine (sv_aload jM109 c109_64 rfl rfl).trans ?_
      refine (sv_getf jM109 c109_66 rfl lf_8_281 (fg_55_1 _)).trans ?_
      refine (sv_icmp_eq jM109 c109_69 rfl (t := 78) (by decide +kernel)).trans ?_
      refine jif _ ?_ ?_
      ·
        refine (sv_aload jM109 c109_78 rfl rfl).trans ?_
        refine (sv_iload_n jM109 c109_80 rfl rfl).trans ?_
        refine (sv_iload jM109 c109_81 rfl rfl).trans ?_
        refine (sv_callvi (pl := 0) jM109 c109_83 rfl (jm_call_v (a := 55) (as := [(.int x2), (.int x5)]) (rest := []) lm_8_290 rfl jM110 rfl rfl rfl rfl rfl) jM110 rfl (Or.inr rfl)).trans ?_
        refine jbi_c (fun r4 τ4 => ?_)
        refine (sv_if_eq jM109 c109_86 rfl (t := 101) (by decide +kernel)).trans ?_
        refine jif _ ?_ ?_
        ·
          refine (sv_aload_n jM109 c109_101 rfl rfl).trans ?_
          refine (sv_iconst jM109 c109_102 rfl (v := 2) (by decide +kernel)).trans ?_
          refine (sv_callvi (pl := 0) jM109 c109_103 rfl (jm_call_v (a := 0) (as := [(.int (2 : Int32))]) (rest := []) lm_8_105 rfl jM9 rfl rfl rfl rfl rfl) jM9 rfl (Or.inl rfl)).trans ?_
          refine jbi_c (fun r5 τ5 => ?_)
          exact sv_iret jM109 c109_106 rfl rfl
        ·
          refine (sv_aload jM109 c109_89 rfl rfl).trans ?_
          refine (sv_iload jM109 c109_91 rfl rfl).trans ?_
          refine (sv_iload jM109 c109_93 rfl rfl).trans ?_
          refine (sv_callvi (pl := 0) jM109 c109_95 rfl (jm_call_v (a := 55) (as := [(.int x4), (.int x5)]) (rest := []) lm_8_290 rfl jM110 rfl rfl rfl rfl rfl) jM110 rfl (Or.inr rfl)).trans ?_
          refine jbi_c (fun r6 τ6 => ?_)
          refine (sv_if_ne jM109 c109_98 rfl (t := 107) (by decide +kernel)).trans ?_
          refine jif _ ?_ ?_
          ·
            refine (sv_aload jM109 c109_107 rfl rfl).trans ?_
            refine (sv_getf jM109 c109_109 rfl lf_8_112 (fg_55_0 _)).trans ?_
            refine (sv_iload_n jM109 c109_112 rfl rfl).trans ?_
            refine (sv_aload jM109 c109_113 rfl rfl).trans ?_
            refine (sv_getf jM109 c109_115 rfl lf_8_112 (fg_55_0 _)).trans ?_
            refine (sv_iload jM109 c109_118 rfl rfl).trans ?_
            refine (sv_iload jM109 c109_120 rfl rfl).trans ?_
            refine (sv_cpy jM109 c109_122 rfl lm_8_293 (Nat.not_lt.mpr (Nat.le_of_ble_eq_true rfl)) wi_56 wi_56).trans ?_
            refine jif _ rfl ?_
            refine (sv_iconst jM109 c109_125 rfl (v := 1) (by decide +kernel)).trans ?_
            exact sv_iret jM109 c109_126 rfl rfl
          ·
            refine (sv_aload_n jM109 c109_101 rfl rfl).trans ?_
            refine (sv_iconst jM109 c109_102 rfl (v := 2) (by decide +kernel)).trans ?_
            refine (sv_callvi (pl := 0) jM109 c109_103 rfl (jm_call_v (a := 0) (as := [(.int (2 : Int32))]) (rest := []) lm_8_105 rfl jM9 rfl rfl rfl rfl rfl) jM9 rfl (Or.inl rfl)).trans ?_
            refine jbi_c (fun r7 τ7 => ?_)
            exact sv_iret jM109 c109_106 rfl rfl
      ·
        refine (sv_aload_n jM109 c109_72 rfl rfl).trans ?_
        refine (sv_iconst jM109 c109_73 rfl (v := 4) (by decide +kernel)).trans ?_
        refine (sv_callvi (pl := 0) jM109 c109_74 rfl (jm_call_v (a := 0) (as := [(.int (4 : Int32))]) (rest := []) lm_8_105 rfl jM9 rfl rfl rfl rfl rfl) jM9 rfl (Or.inl rfl)).trans ?_
        refine jbi_c (fun r8 τ8 => ?_)
        exact sv_iret jM109 c109_77 rfl rfl
    ·
      refine (sv_aload_n jM109 c109_53 rfl rfl).trans ?_
      refine (sv_iconst jM109 c109_54 rfl (v := 1) (by decide +kernel)).trans ?_
      refine (sv_callvi (pl := 0) jM109 c109_55 rfl (jm_call_v (a := 0) (as := [(.int (1 : Int32))]) (rest := []) lm_8_105 rfl jM9 rfl rfl rfl rfl rfl) jM9 rfl (Or.inl rfl)).trans ?_
      refine jbi_c (fun r9 τ9 => ?_)
      exact sv_iret jM109 c109_58 rfl rfl
set_option maxRecDepth 20000 in
set_option maxHeartbeats 4000000 in
theorem P_copy_A35_57_v2 (x1 : Int32) (x2 : Int32) (x3 : Int32) (x4 : Int32) (x5 : Int32) (σ : jm_S) : jv 109 35 [some (.ref 0), some (.int x1), some (.int x2), some (.int x3), some (.int x4), some (.int x5), some (.ref 55), none] [(.ref 57)] σ = jbi (jc 8 [(.ref 55)] σ) (fun r1 τ1 => (if ¬ r1 = 0 then jbi (jc 9 [(.ref 0), (.int (1 : Int32))] τ1) (fun r2 τ2 => some (some (.int r2), τ2)) else jbi (jc 8 [(.ref 57)] τ1) (fun r3 τ3 => (if r3 = 0 then (if (τ3 55 1) = (τ3 57 1) then jbi (jc 110 [(.ref 55), (.int x2), (.int x5)] τ3) (fun r4 τ4 => (if r4 = 0 then jbi (jc 9 [(.ref 0), (.int (2 : Int32))] τ4) (fun r5 τ5 => some (some (.int r5), τ5)) else jbi (jc 110 [(.ref 57), (.int x4), (.int x5)] τ4) (fun r6 τ6 => (if ¬ r6 = 0 then (if x2 < 0 ∨ x4 < 0 ∨ x5 < 0 ∨ 60 < x2.toNatClampNeg + x5.toNatClampNeg ∨ 60 < x4.toNatClampNeg + x5.toNatClampNeg then none else some (some (.int (1 : Int32)), (jm_row τ6 58 (va_cpy (τ6 56) (τ6 58) x2.toNatClampNeg x4.toNatClampNeg x5.toNatClampNeg)))) else jbi (jc 9 [(.ref 0), (.int (2 : Int32))] τ6) (fun r7 τ7 => some (some (.int r7), τ7)))))) else jbi (jc 9 [(.ref 0), (.int (4 : Int32))] τ3) (fun r8 τ8 => some (some (.int r8), τ8))) else jbi (jc 9 [(.ref 0), (.int (1 : Int32))] τ3) (fun r9 τ9 => some (some (.int r9), τ9)))))) := by
  refine (sv_astore (ls1 := [some (.ref 0), some (.int x1), some (.int x2), some (.int x3), some (.int x4), some (.int x5), some (.ref 55), some (.ref 57)]) jM109 c109_35 rfl (Nat.lt_of_lt_of_eq (by decide +kernel : 7 < 8) rfl) rfl).trans ?_
  refine (sv_aload jM109 c109_37 rfl rfl).trans ?_
  refine (sv_callvi (pl := 0) jM109 c109_39 rfl (jm_call_v (a := 55) (as := []) (rest := []) lm_8_102 rfl jM8 rfl rfl rfl rfl rfl) jM8 rfl (Or.inr rfl)).trans ?_
  refine jbi_c (fun r1 τ1 => ?_)
  refine (sv_if_ne jM109 c109_42 rfl (t := 53) (by decide +kernel)).trans ?_
  refine jif _ ?_ ?_
  ·
    refine (sv_aload_n jM109 c109_53 rfl rfl).trans ?_
    refine (sv_iconst jM109 c109_54 rfl (v := 1) (by decide +kernel)).trans ?_
    refine (sv_callvi (pl := 0) jM109 c109_55 rfl (jm_call_v (a := 0) (as := [(.int (1 : Int32))]) (rest := []) lm_8_105 rfl jM9 rfl rfl rfl rfl rfl) jM9 rfl (Or.inl rfl)).trans ?_
    refine jbi_c (fun r2 τ2 => ?_)
    exact sv_iret jM109 c109_58 rfl rfl
  ·
    refine (sv_aload jM109 c109_45 rfl rfl).trans ?_
    refine (sv_callvi (pl := 0) jM109 c109_47 rfl (jm_call_v (a := 57) (as := []) (rest := []) lm_8_102 rfl jM8 rfl rfl rfl rfl rfl) jM8 rfl (Or.inr rfl)).trans ?_
    refine jbi_c (fun r3 τ3 => ?_)
    refine (sv_if_eq jM109 c109_50 rfl (t := 59) (by decide +kernel)).trans ?_
    refine jif _ ?_ ?_
    ·
      refine (sv_aload jM109 c109_59 rfl rfl).trans ?_
      refine (sv_getf jM109 c109_61 rfl lf_8_281 (fg_55_1 _)).trans ?_
      refine (sv_aload jM109 c109_64 rfl rfl).trans ?_
      refine (sv_getf jM109 c109_66 rfl lf_8_281 (fg_57_1 _)).trans ?_
      refine (sv_icmp_eq jM109 c109_69 rfl (t := 78) (by decide +kernel)).trans ?_
      refine jif _ ?_ ?_
      ·
        refine (sv_aload jM109 c109_78 rfl rfl).trans ?_
        refine (sv_iload_n jM109 c109_80 rfl rfl).trans ?_
        refine (sv_iload jM109 c109_81 rfl rfl).trans ?_
        refine (sv_callvi (pl := 0) jM109 c109_83 rfl (jm_call_v (a := 55) (as := [(.int x2), (.int x5)]) (rest := []) lm_8_290 rfl jM110 rfl rfl rfl rfl rfl) jM110 rfl (Or.inr rfl)).trans ?_
        refine jbi_c (fun r4 τ4 => ?_)
        refine (sv_if_eq jM109 c109_86 rfl (t := 101) (by decide +kernel)).trans ?_
        refine jif _ ?_ ?_
        ·
          refine (sv_aload_n jM109 c109_101 rfl rfl).trans ?_
          refine (sv_iconst jM109 c109_102 rfl (v := 2) (by decide +kernel)).trans ?_
          refine (sv_callvi (pl := 0) jM109 c109_103 rfl (jm_call_v (a := 0) (as := [(.int (2 : Int32))]) (rest := []) lm_8_105 rfl jM9 rfl rfl rfl rfl rfl) jM9 rfl (Or.inl rfl)).trans ?_
          refine jbi_c (fun r5 τ5 => ?_)
          exact sv_iret jM109 c109_106 rfl rfl
        ·
          refine (sv_aload jM109 c109_89 rfl rfl).trans ?_
          refine (sv_iload jM109 c109_91 rfl rfl).trans ?_
          refine (sv_iload jM109 c109_93 rfl rfl).trans ?_
          refine (sv_callvi (pl := 0) jM109 c109_95 rfl (jm_call_v (a := 57) (as := [(.int x4), (.int x5)]) (rest := []) lm_8_290 rfl jM110 rfl rfl rfl rfl rfl) jM110 rfl (Or.inr rfl)).trans ?_
          refine jbi_c (fun r6 τ6 => ?_)
          refine (sv_if_ne jM109 c109_98 rfl (t := 107) (by decide +kernel)).trans ?_
          refine jif _ ?_ ?_
          ·
            refine (sv_aload jM109 c109_107 rfl rfl).trans ?_
            refine (sv_getf jM109 c109_109 rfl lf_8_112 (fg_55_0 _)).trans ?_
            refine (sv_iload_n jM109 c109_112 rfl rfl).trans ?_
            refine (sv_aload jM109 c109_113 rfl rfl).trans ?_
            refine (sv_getf jM109 c109_115 rfl lf_8_112 (fg_57_0 _)).trans ?_
            refine (sv_iload jM109 c109_118 rfl rfl).trans ?_
            refine (sv_iload jM109 c109_120 rfl rfl).trans ?_
            refine (sv_cpy jM109 c109_122 rfl lm_8_293 (Nat.not_lt.mpr (Nat.le_of_ble_eq_true rfl)) wi_56 wi_58).trans ?_
            refine jif _ rfl ?_
            refine (sv_iconst jM109 c109_125 rfl (v := 1) (by decide +kernel)).trans ?_
            exact sv_iret jM109 c109_126 rfl rfl
          ·
            refine (sv_aload_n jM109 c109_101 rfl rfl).trans ?_
            refine (sv_iconst jM109 c109_102 rfl (v := 2) (by decide +kernel)).trans ?_
            refine (sv_callvi (pl := 0) jM109 c109_103 rfl (jm_call_v (a := 0) (as := [(.int (2 : Int32))]) (rest := []) lm_8_105 rfl jM9 rfl rfl rfl rfl rfl) jM9 rfl (Or.inl rfl)).trans ?_
            refine jbi_c (fun r7 τ7 => ?_)
            exact sv_iret jM109 c109_106 rfl rfl
      ·
        refine (sv_aload_n jM109 c109_72 rfl rfl).trans ?_
        refine (sv_iconst jM109 c109_73 rfl (v := 4) (by decide +kernel)).trans ?_
        refine (sv_callvi (pl := 0) jM109 c109_74 rfl (jm_call_v (a := 0) (as := [(.int (4 : Int32))]) (rest := []) lm_8_105 rfl jM9 rfl rfl rfl rfl rfl) jM9 rfl (Or.inl rfl)).trans ?_
        refine jbi_c (fun r8 τ8 => ?_)
        exact sv_iret jM109 c109_77 rfl rfl
    ·
      refine (sv_aload_n jM109 c109_53 rfl rfl).trans ?_
      refine (sv_iconst jM109 c109_54 rfl (v := 1) (by decide +kernel)).trans ?_
      refine (sv_callvi (pl := 0) jM109 c109_55 rfl (jm_call_v (a := 0) (as := [(.int (1 : Int32))]) (rest := []) lm_8_105 rfl jM9 rfl rfl rfl rfl rfl) jM9 rfl (Or.inl rfl)).trans ?_
      refine jbi_c (fun r9 τ9 => ?_)
      exact sv_iret jM109 c109_58 rfl rfl
set_option maxRecDepth 20000 in
set_option maxHeartbeats 4000000 in
theorem P_copy_A35_59_v2 (x1 : Int32) (x2 : Int32) (x3 : Int32) (x4 : Int32) (x5 : Int32) (σ : jm_S) : jv 109 35 [some (.ref 0), some (.int x1), some (.int x2), some (.int x3), some (.int x4), some (.int x5), some (.ref 55), none] [(.ref 59)] σ = jbi (jc 8 [(.ref 55)] σ) (fun r1 τ1 => (if ¬ r1 = 0 then jbi (jc 9 [(.ref 0), (.int (1 : Int32))] τ1) (fun r2 τ2 => some (some (.int r2), τ2)) else jbi (jc 8 [(.ref 59)] τ1) (fun r3 τ3 => (if r3 = 0 then (if (τ3 55 1) = (τ3 59 1) then jbi (jc 110 [(.ref 55), (.int x2), (.int x5)] τ3) (fun r4 τ4 => (if r4 = 0 then jbi (jc 9 [(.ref 0), (.int (2 : Int32))] τ4) (fun r5 τ5 => some (some (.int r5), τ5)) else jbi (jc 110 [(.ref 59), (.int x4), (.int x5)] τ4) (fun r6 τ6 => (if ¬ r6 = 0 then (if x2 < 0 ∨ x4 < 0 ∨ x5 < 0 ∨ 60 < x2.toNatClampNeg + x5.toNatClampNeg ∨ 60 < x4.toNatClampNeg + x5.toNatClampNeg then none else some (some (.int (1 : Int32)), (jm_row τ6 60 (va_cpy (τ6 56) (τ6 60) x2.toNatClampNeg x4.toNatClampNeg x5.toNatClampNeg)))) else jbi (jc 9 [(.ref 0), (.int (2 : Int32))] τ6) (fun r7 τ7 => some (some (.int r7), τ7)))))) else jbi (jc 9 [(.ref 0), (.int (4 : Int32))] τ3) (fun r8 τ8 => some (some (.int r8), τ8))) else jbi (jc 9 [(.ref 0), (.int (1 : Int32))] τ3) (fun r9 τ9 => some (some (.int r9), τ9)))))) := by
  refine (sv_astore (ls1 := [some (.ref 0), some (.int x1), some (.int x2), some (.int x3), some (.int x4), some (.int x5), some (.ref 55), some (.ref 59)]) jM109 c109_35 rfl (Nat.lt_of_lt_of_eq (by decide +kernel : 7 < 8) rfl) rfl).trans ?_
  refine (sv_aload jM109 c109_37 rfl rfl).trans ?_
  refine (sv_callvi (pl := 0) jM109 c109_39 rfl (jm_call_v (a := 55) (as := []) (rest := []) lm_8_102 rfl jM8 rfl rfl rfl rfl rfl) jM8 rfl (Or.inr rfl)).trans ?_
  refine jbi_c (fun r1 τ1 => ?_)
  refine (sv_if_ne jM109 c109_42 rfl (t := 53) (by decide +kernel)).trans ?_
  refine jif _ ?_ ?_
  ·
    refine (sv_aload_n jM109 c109_53 rfl rfl).trans ?_
    refine (sv_iconst jM109 c109_54 rfl (v := 1) (by decide +kernel)).trans ?_
    refine (sv_callvi (pl := 0) jM109 c109_55 rfl (jm_call_v (a := 0) (as := [(.int (1 : Int32))]) (rest := []) lm_8_105 rfl jM9 rfl rfl rfl rfl rfl) jM9 rfl (Or.inl rfl)).trans ?_
    refine jbi_c (fun r2 τ2 => ?_)
    exact sv_iret jM109 c109_58 rfl rfl
  ·
    refine (sv_aload jM109 c109_45 rfl rfl).trans ?_
    refine (sv_callvi (pl := 0) jM109 c109_47 rfl (jm_call_v (a := 59) (as := []) (rest := []) lm_8_102 rfl jM8 rfl rfl rfl rfl rfl) jM8 rfl (Or.inr rfl)).trans ?_
    refine jbi_c (fun r3 τ3 => ?_)
    refine (sv_if_eq jM109 c109_50 rfl (t := 59) (by decide +kernel)).trans ?_
    refine jif _ ?_ ?_
    ·
      refine (sv_aload jM109 c109_59 rfl rfl).trans ?_
      refine (sv_getf jM109 c109_61 rfl lf_8_281 (fg_55_1 _)).trans ?_
      refine (sv_aload jM109 c109_64 rfl rfl).trans ?_
      refine (sv_getf jM109 c109_66 rfl lf_8_281 (fg_59_1 _)).trans ?_
      refine (sv_icmp_eq jM109 c109_69 rfl (t := 78) (by decide +kernel)).trans ?_
      refine jif _ ?_ ?_
      ·
        refine (sv_aload jM109 c109_78 rfl rfl).trans ?_
        refine (sv_iload_n jM109 c109_80 rfl rfl).trans ?_
        refine (sv_iload jM109 c109_81 rfl rfl).trans ?_
        refine (sv_callvi (pl := 0) jM109 c109_83 rfl (jm_call_v (a := 55) (as := [(.int x2), (.int x5)]) (rest := []) lm_8_290 rfl jM110 rfl rfl rfl rfl rfl) jM110 rfl (Or.inr rfl)).trans ?_
        refine jbi_c (fun r4 τ4 => ?_)
        refine (sv_if_eq jM109 c109_86 rfl (t := 101) (by decide +kernel)).trans ?_
        refine jif _ ?_ ?_
        ·
          refine (sv_aload_n jM109 c109_101 rfl rfl).trans ?_
          refine (sv_iconst jM109 c109_102 rfl (v := 2) (by decide +kernel)).trans ?_
          refine (sv_callvi (pl := 0) jM109 c109_103 rfl (jm_call_v (a := 0) (as := [(.int (2 : Int32))]) (rest := []) lm_8_105 rfl jM9 rfl rfl rfl rfl rfl) jM9 rfl (Or.inl rfl)).trans ?_
          refine jbi_c (fun r5 τ5 => ?_)
          exact sv_iret jM109 c109_106 rfl rfl
        ·
          refine (sv_aload jM109 c109_89 rfl rfl).trans ?_
          refine (sv_iload jM109 c109_91 rfl rfl).trans ?_
          refine (sv_iload jM109 c109_93 rfl rfl).trans ?_
          refine (sv_callvi (pl := 0) jM109 c109_95 rfl (jm_call_v (a := 59) (as := [(.int x4), (.int x5)]) (rest := []) lm_8_290 rfl jM110 rfl rfl rfl rfl rfl) jM110 rfl (Or.inr rfl)).trans ?_
          refine jbi_c (fun r6 τ6 => ?_)
          refine (sv_if_ne jM109 c109_98 rfl (t := 107) (by decide +kernel)).trans ?_
          refine jif _ ?_ ?_
          ·
            refine (sv_aload jM109 c109_107 rfl rfl).trans ?_
            refine (sv_getf jM109 c109_109 rfl lf_8_112 (fg_55_0 _)).trans ?_
            refine (sv_iload_n jM109 c109_112 rfl rfl).trans ?_
            refine (sv_aload jM109 c109_113 rfl rfl).trans ?_
            refine (sv_getf jM109 c109_115 rfl lf_8_112 (fg_59_0 _)).trans ?_
            refine (sv_iload jM109 c109_118 rfl rfl).trans ?_
            refine (sv_iload jM109 c109_120 rfl rfl).trans ?_
            refine (sv_cpy jM109 c109_122 rfl lm_8_293 (Nat.not_lt.mpr (Nat.le_of_ble_eq_true rfl)) wi_56 wi_60).trans ?_
            refine jif _ rfl ?_
            refine (sv_iconst jM109 c109_125 rfl (v := 1) (by decide +kernel)).trans ?_
            exact sv_iret jM109 c109_126 rfl rfl
          ·
            refine (sv_aload_n jM109 c109_101 rfl rfl).trans ?_
            refine (sv_iconst jM109 c109_102 rfl (v := 2) (by decide +kernel)).trans ?_
            refine (sv_callvi (pl := 0) jM109 c109_103 rfl (jm_call_v (a := 0) (as := [(.int (2 : Int32))]) (rest := []) lm_8_105 rfl jM9 rfl rfl rfl rfl rfl) jM9 rfl (Or.inl rfl)).trans ?_
            refine jbi_c (fun r7 τ7 => ?_)
            exact sv_iret jM109 c109_106 rfl rfl
      ·
        refine (sv_aload_n jM109 c109_72 rfl rfl).trans ?_
        refine (sv_iconst jM109 c109_73 rfl (v := 4) (by decide +kernel)).trans ?_
        refine (sv_callvi (pl := 0) jM109 c109_74 rfl (jm_call_v (a := 0) (as := [(.int (4 : Int32))]) (rest := []) lm_8_105 rfl jM9 rfl rfl rfl rfl rfl) jM9 rfl (Or.inl rfl)).trans ?_
        refine jbi_c (fun r8 τ8 => ?_)
        exact sv_iret jM109 c109_77 rfl rfl
    ·
      refine (sv_aload_n jM109 c109_53 rfl rfl).trans ?_
      refine (sv_iconst jM109 c109_54 rfl (v := 1) (by decide +kernel)).trans ?_
      refine (sv_callvi (pl := 0) jM109 c109_55 rfl (jm_call_v (a := 0) (as := [(.int (1 : Int32))]) (rest := []) lm_8_105 rfl jM9 rfl rfl rfl rfl rfl) jM9 rfl (Or.inl rfl)).trans ?_
      refine jbi_c (fun r9 τ9 => ?_)
      exact sv_iret jM109 c109_58 rfl rfl
set_option maxRecDepth 20000 in
set_option maxHeartbeats 4000000 in
theorem P_copy_A35_53_v3 (x1 : Int32) (x2 : Int32) (x3 : Int32) (x4 : Int32) (x5 : Int32) (σ : jm_S) : jv 109 35 [some (.ref 0), some (.int x1), some (.int x2), some (.int x3), some (.int x4), some (.int x5), some (.ref 57), none] [(.ref 53)] σ = jbi (jc 8 [(.ref 57)] σ) (fun r1 τ1 => (if ¬ r1 = 0 then jbi (jc 9 [(.ref 0), (.int (1 : Int32))] τ1) (fun r2 τ2 => some (some (.int r2), τ2)) else jbi (jc 8 [(.ref 53)] τ1) (fun r3 τ3 => (if r3 = 0 then (if (τ3 57 1) = (τ3 53 1) then jbi (jc 110 [(.ref 57), (.int x2), (.int x5)] τ3) (fun r4 τ4 => (if r4 = 0 then jbi (jc 9 [(.ref 0), (.int (2 : Int32))] τ4) (fun r5 τ5 => some (some (.int r5), τ5)) else jbi (jc 110 [(.ref 53), (.int x4), (.int x5)] τ4) (fun r6 τ6 => (if ¬ r6 = 0 then (if x2 < 0 ∨ x4 < 0 ∨ x5 < 0 ∨ 60 < x2.toNatClampNeg + x5.toNatClampNeg ∨ 60 < x4.toNatClampNeg + x5.toNatClampNeg then none else some (some (.int (1 : Int32)), (jm_row τ6 54 (va_cpy (τ6 58) (τ6 54) x2.toNatClampNeg x4.toNatClampNeg x5.toNatClampNeg)))) else jbi (jc 9 [(.ref 0), (.int (2 : Int32))] τ6) (fun r7 τ7 => some (some (.int r7), τ7)))))) else jbi (jc 9 [(.ref 0), (.int (4 : Int32))] τ3) (fun r8 τ8 => some (some (.int r8), τ8))) else jbi (jc 9 [(.ref 0), (.int (1 : Int32))] τ3) (fun r9 τ9 => some (some (.int r9), τ9)))))) := by
  refine (sv_astore (ls1 := [some (.ref 0), some (.int x1), some (.int x2), some (.int x3), some (.int x4), some (.int x5), some (.ref 57), some (.ref 53)]) jM109 c109_35 rfl (Nat.lt_of_lt_of_eq (by decide +kernel : 7 < 8) rfl) rfl).trans ?_
  refine (sv_aload jM109 c109_37 rfl rfl).trans ?_
  refine (sv_callvi (pl := 0) jM109 c109_39 rfl (jm_call_v (a := 57) (as := []) (rest := []) lm_8_102 rfl jM8 rfl rfl rfl rfl rfl) jM8 rfl (Or.inr rfl)).trans ?_
  refine jbi_c (fun r1 τ1 => ?_)
  refine (sv_if_ne jM109 c109_42 rfl (t := 53) (by decide +kernel)).trans ?_
  refine jif _ ?_ ?_
  ·
    refine (sv_aload_n jM109 c109_53 rfl rfl).trans ?_
    refine (sv_iconst jM109 c109_54 rfl (v := 1) (by decide +kernel)).trans ?_
    refine (sv_callvi (pl := 0) jM109 c109_55 rfl (jm_call_v (a := 0) (as := [(.int (1 : Int32))]) (rest := []) lm_8_105 rfl jM9 rfl rfl rfl rfl rfl) jM9 rfl (Or.inl rfl)).trans ?_
    refine jbi_c (fun r2 τ2 => ?_)
    exact sv_iret jM109 c109_58 rfl rfl
  ·
    refine (sv_aload jM109 c109_45 rfl rfl).trans ?_
    refine (sv_callvi (pl := 0) jM109 c109_47 rfl (jm_call_v (a := 53) (as := []) (rest := []) lm_8_102 rfl jM8 rfl rfl rfl rfl rfl) jM8 rfl (Or.inr rfl)).trans ?_
    refine jbi_c (fun r3 τ3 => ?_)
    refine (sv_if_eq jM109 c109_50 rfl (t := 59) (by decide +kernel)).trans ?_
    refine jif _ ?_ ?_
    ·
      refine (sv_aload jM109 c109_59 rfl rfl).trans ?_
      refine (sv_getf jM109 c109_61 rfl lf_8_281 (fg_57_1 _)).trans ?_
      refine (sv_aload jM109 c109_64 rfl rfl).trans ?_
      refine (sv_getf jM109 c109_66 rfl lf_8_281 (fg_53_1 _)).trans ?_
      refine (sv_icmp_eq jM109 c109_69 rfl (t := 78) (by decide +kernel)).trans ?_
      refine jif _ ?_ ?_
      ·
        refine (sv_aload jM109 c109_78 rfl rfl).trans ?_
        refine (sv_iload_n jM109 c109_80 rfl rfl).trans ?_
        refine (sv_iload jM109 c109_81 rfl rfl).trans ?_
        refine (sv_callvi (pl := 0) jM109 c109_83 rfl (jm_call_v (a := 57) (as := [(.int x2), (.int x5)]) (rest := []) lm_8_290 rfl jM110 rfl rfl rfl rfl rfl) jM110 rfl (Or.inr rfl)).trans ?_
        refine jbi_c (fun r4 τ4 => ?_)
        refine (sv_if_eq jM109 c109_86 rfl (t := 101) (by decide +kernel)).trans ?_
        refine jif _ ?_ ?_
        ·
          refine (sv_aload_n jM109 c109_101 rfl rfl).trans ?_
          refine (sv_iconst jM109 c109_102 rfl (v := 2) (by decide +kernel)).trans ?_
          refine (sv_callvi (pl := 0) jM109 c109_103 rfl (jm_call_v (a := 0) (as := [(.int (2 : Int32))]) (rest := []) lm_8_105 rfl jM9 rfl rfl rfl rfl rfl) jM9 rfl (Or.inl rfl)).trans ?_
          refine jbi_c (fun r5 τ5 => ?_)
          exact sv_iret jM109 c109_106 rfl rfl
        ·
          refine (sv_aload jM109 c109_89 rfl rfl).trans ?_
          refine (sv_iload jM109 c109_91 rfl rfl).trans ?_
          refine (sv_iload jM109 c109_93 rfl rfl).trans ?_
          refine (sv_callvi (pl := 0) jM109 c109_95 rfl (jm_call_v (a := 53) (as := [(.int x4), (.int x5)]) (rest := []) lm_8_290 rfl jM110 rfl rfl rfl rfl rfl) jM110 rfl (Or.inr rfl)).trans ?_
          refine jbi_c (fun r6 τ6 => ?_)
          refine (sv_if_ne jM109 c109_98 rfl (t := 107) (by decide +kernel)).trans ?_
          refine jif _ ?_ ?_
          ·
            refine (sv_aload jM109 c109_107 rfl rfl).trans ?_
            refine (sv_getf jM109 c109_109 rfl lf_8_112 (fg_57_0 _)).trans ?_
            refine (sv_iload_n jM109 c109_112 rfl rfl).trans ?_
            refine (sv_aload jM109 c109_113 rfl rfl).trans ?_
            refine (sv_getf jM109 c109_115 rfl lf_8_112 (fg_53_0 _)).trans ?_
            refine (sv_iload jM109 c109_118 rfl rfl).trans ?_
            refine (sv_iload jM109 c109_120 rfl rfl).trans ?_
            refine (sv_cpy jM109 c109_122 rfl lm_8_293 (Nat.not_lt.mpr (Nat.le_of_ble_eq_true rfl)) wi_58 wi_54).trans ?_
            refine jif _ rfl ?_
            refine (sv_iconst jM109 c109_125 rfl (v := 1) (by decide +kernel)).trans ?_
            exact sv_iret jM109 c109_126 rfl rfl
          ·
            refine (sv_aload_n jM109 c109_101 rfl rfl).trans ?_
            refine (sv_iconst jM109 c109_102 rfl (v := 2) (by decide +kernel)).trans ?_
            refine (sv_callvi (pl := 0) jM109 c109_103 rfl (jm_call_v (a := 0) (as := [(.int (2 : Int32))]) (rest := []) lm_8_105 rfl jM9 rfl rfl rfl rfl rfl) jM9 rfl (Or.inl rfl)).trans ?_
            refine jbi_c (fun r7 τ7 => ?_)
            exact sv_iret jM109 c109_106 rfl rfl
      ·
        refine (sv_aload_n jM109 c109_72 rfl rfl).trans ?_
        refine (sv_iconst jM109 c109_73 rfl (v := 4) (by decide +kernel)).trans ?_
        refine (sv_callvi (pl := 0) jM109 c109_74 rfl (jm_call_v (a := 0) (as := [(.int (4 : Int32))]) (rest := []) lm_8_105 rfl jM9 rfl rfl rfl rfl rfl) jM9 rfl (Or.inl rfl)).trans ?_
        refine jbi_c (fun r8 τ8 => ?_)
        exact sv_iret jM109 c109_77 rfl rfl
    ·
      refine (sv_aload_n jM109 c109_53 rfl rfl).trans ?_
      refine (sv_iconst jM109 c109_54 rfl (v := 1) (by decide +kernel)).trans ?_
      refine (sv_callvi (pl := 0) jM109 c109_55 rfl (jm_call_v (a := 0) (as := [(.int (1 : Int32))]) (rest := []) lm_8_105 rfl jM9 rfl rfl rfl rfl rfl) jM9 rfl (Or.inl rfl)).trans ?_
      refine jbi_c (fun r9 τ9 => ?_)
      exact sv_iret jM109 c109_58 rfl rfl
set_option maxRecDepth 20000 in
set_option maxHeartbeats 4000000 in
theorem P_copy_A35_55_v3 (x1 : Int32) (x2 : Int32) (x3 : Int32) (x4 : Int32) (x5 : Int32) (σ : jm_S) : jv 109 35 [some (.ref 0), some (.int x1), some (.int x2), some (.int x3), some (.int x4), some (.int x5), some (.ref 57), none] [(.ref 55)] σ = jbi (jc 8 [(.ref 57)] σ) (fun r1 τ1 => (if ¬ r1 = 0 then jbi (jc 9 [(.ref 0), (.int (1 : Int32))] τ1) (fun r2 τ2 => some (some (.int r2), τ2)) else jbi (jc 8 [(.ref 55)] τ1) (fun r3 τ3 => (if r3 = 0 then (if (τ3 57 1) = (τ3 55 1) then jbi (jc 110 [(.ref 57), (.int x2), (.int x5)] τ3) (fun r4 τ4 => (if r4 = 0 then jbi (jc 9 [(.ref 0), (.int (2 : Int32))] τ4) (fun r5 τ5 => some (some (.int r5), τ5)) else jbi (jc 110 [(.ref 55), (.int x4), (.int x5)] τ4) (fun r6 τ6 => (if ¬ r6 = 0 then (if x2 < 0 ∨ x4 < 0 ∨ x5 < 0 ∨ 60 < x2.toNatClampNeg + x5.toNatClampNeg ∨ 60 < x4.toNatClampNeg + x5.toNatClampNeg then none else some (some (.int (1 : Int32)), (jm_row τ6 56 (va_cpy (τ6 58) (τ6 56) x2.toNatClampNeg x4.toNatClampNeg x5.toNatClampNeg)))) else jbi (jc 9 [(.ref 0), (.int (2 : Int32))] τ6) (fun r7 τ7 => some (some (.int r7), τ7)))))) else jbi (jc 9 [(.ref 0), (.int (4 : Int32))] τ3) (fun r8 τ8 => some (some (.int r8), τ8))) else jbi (jc 9 [(.ref 0), (.int (1 : Int32))] τ3) (fun r9 τ9 => some (some (.int r9), τ9)))))) := by
  refine (sv_astore (ls1 := [some (.ref 0), some (.int x1), some (.int x2), some (.int x3), some (.int x4), some (.int x5), some (.ref 57), some (.ref 55)]) jM109 c109_35 rfl (Nat.lt_of_lt_of_eq (by decide +kernel : 7 < 8) rfl) rfl).trans ?_
  refine (sv_aload jM109 c109_37 rfl rfl).trans ?_
  refine (sv_callvi (pl := 0) jM109 c109_39 rfl (jm_call_v (a := 57) (as := []) (rest := []) lm_8_102 rfl jM8 rfl rfl rfl rfl rfl) jM8 rfl (Or.inr rfl)).trans ?_
  refine jbi_c (fun r1 τ1 => ?_)
  refine (sv_if_ne jM109 c109_42 rfl (t := 53) (by decide +kernel)).trans ?_
  refine jif _ ?_ ?_
  ·
    refine (sv_aload_n jM109 c109_53 rfl rfl).trans ?_
    refine (sv_iconst jM109 c109_54 rfl (v := 1) (by decide +kernel)).trans ?_
    refine (sv_callvi (pl := 0) jM109 c109_55 rfl (jm_call_v (a := 0) (as := [(.int (1 : Int32))]) (rest := []) lm_8_105 rfl jM9 rfl rfl rfl rfl rfl) jM9 rfl (Or.inl rfl)).trans ?_
    refine jbi_c (fun r2 τ2 => ?_)
    exact sv_iret jM109 c109_58 rfl rfl
  ·
    refine (sv_aload jM109 c109_45 rfl rfl).trans ?_
    refine (sv_callvi (pl := 0) jM109 c109_47 rfl (jm_call_v (a := 55) (as := []) (rest := []) lm_8_102 rfl jM8 rfl rfl rfl rfl rfl) jM8 rfl (Or.inr rfl)).trans ?_
    refine jbi_c (fun r3 τ3 => ?_)
    refine (sv_if_eq jM109 c109_50 rfl (t := 59) (by decide +kernel)).trans ?_
    refine jif _ ?_ ?_
    ·
      refine (sv_aload jM109 c109_59 rfl rfl).trans ?_
      refine (sv_getf jM109 c109_61 rfl lf_8_281 (fg_57_1 _)).trans ?_
      refine (sv_aload jM109 c109_64 rfl rfl).trans ?_
      refine (sv_getf jM109 c109_66 rfl lf_8_281 (fg_55_1 _)).trans ?_
      refine (sv_icmp_eq jM109 c109_69 rfl (t := 78) (by decide +kernel)).trans ?_
      refine jif _ ?_ ?_
      ·
        refine (sv_aload jM109 c109_78 rfl rfl).trans ?_
        refine (sv_iload_n jM109 c109_80 rfl rfl).trans ?_
        refine (sv_iload jM109 c109_81 rfl rfl).trans ?_
        refine (sv_callvi (pl := 0) jM109 c109_83 rfl (jm_call_v (a := 57) (as := [(.int x2), (.int x5)]) (rest := []) lm_8_290 rfl jM110 rfl rfl rfl rfl rfl) jM110 rfl (Or.inr rfl)).trans ?_
        refine jbi_c (fun r4 τ4 => ?_)
        refine (sv_if_eq jM109 c109_86 rfl (t := 101) (by decide +kernel)).trans ?_
        refine jif _ ?_ ?_
        ·
          refine (sv_aload_n jM109 c109_101 rfl rfl).trans ?_
          refine (sv_iconst jM109 c109_102 rfl (v := 2) (by decide +kernel)).trans ?_
          refine (sv_callvi (pl := 0) jM109 c109_103 rfl (jm_call_v (a := 0) (as := [(.int (2 : Int32))]) (rest := []) lm_8_105 rfl jM9 rfl rfl rfl rfl rfl) jM9 rfl (Or.inl rfl)).trans ?_
          refine jbi_c (fun r5 τ5 => ?_)
          exact sv_iret jM109 c109_106 rfl rfl
        ·
          refine (sv_aload jM109 c109_89 rfl rfl).trans ?_
          refine (sv_iload jM109 c109_91 rfl rfl).trans ?_
          refine (sv_iload jM109 c109_93 rfl rfl).trans ?_
          refine (sv_callvi (pl := 0) jM109 c109_95 rfl (jm_call_v (a := 55) (as := [(.int x4), (.int x5)]) (rest := []) lm_8_290 rfl jM110 rfl rfl rfl rfl rfl) jM110 rfl (Or.inr rfl)).trans ?_
          refine jbi_c (fun r6 τ6 => ?_)
          refine (sv_if_ne jM109 c109_98 rfl (t := 107) (by decide +kernel)).trans ?_
          refine jif _ ?_ ?_
          ·
            refine (sv_aload jM109 c109_107 rfl rfl).trans ?_
            refine (sv_getf jM109 c109_109 rfl lf_8_112 (fg_57_0 _)).trans ?_
            refine (sv_iload_n jM109 c109_112 rfl rfl).trans ?_
            refine (sv_aload jM109 c109_113 rfl rfl).trans ?_
            refine (sv_getf jM109 c109_115 rfl lf_8_112 (fg_55_0 _)).trans ?_
            refine (sv_iload jM109 c109_118 rfl rfl).trans ?_
            refine (sv_iload jM109 c109_120 rfl rfl).trans ?_
            refine (sv_cpy jM109 c109_122 rfl lm_8_293 (Nat.not_lt.mpr (Nat.le_of_ble_eq_true rfl)) wi_58 wi_56).trans ?_
            refine jif _ rfl ?_
            refine (sv_iconst jM109 c109_125 rfl (v := 1) (by decide +kernel)).trans ?_
            exact sv_iret jM109 c109_126 rfl rfl
          ·
            refine (sv_aload_n jM109 c109_101 rfl rfl).trans ?_
            refine (sv_iconst jM109 c109_102 rfl (v := 2) (by decide +kernel)).trans ?_
            refine (sv_callvi (pl := 0) jM109 c109_103 rfl (jm_call_v (a := 0) (as := [(.int (2 : Int32))]) (rest := []) lm_8_105 rfl jM9 rfl rfl rfl rfl rfl) jM9 rfl (Or.inl rfl)).trans ?_
            refine jbi_c (fun r7 τ7 => ?_)
            exact sv_iret jM109 c109_106 rfl rfl
      ·
        refine (sv_aload_n jM109 c109_72 rfl rfl).trans ?_
        refine (sv_iconst jM109 c109_73 rfl (v := 4) (by decide +kernel)).trans ?_
        refine (sv_callvi (pl := 0) jM109 c109_74 rfl (jm_call_v (a := 0) (as := [(.int (4 : Int32))]) (rest := []) lm_8_105 rfl jM9 rfl rfl rfl rfl rfl) jM9 rfl (Or.inl rfl)).trans ?_
        refine jbi_c (fun r8 τ8 => ?_)
        exact sv_iret jM109 c109_77 rfl rfl
    ·
      refine (sv_aload_n jM109 c109_53 rfl rfl).trans ?_
      refine (sv_iconst jM109 c109_54 rfl (v := 1) (by decide +kernel)).trans ?_
      refine (sv_callvi (pl := 0) jM109 c109_55 rfl (jm_call_v (a := 0) (as := [(.int (1 : Int32))]) (rest := []) lm_8_105 rfl jM9 rfl rfl rfl rfl rfl) jM9 rfl (Or.inl rfl)).trans ?_
      refine jbi_c (fun r9 τ9 => ?_)
      exact sv_iret jM109 c109_58 rfl rfl
set_option maxRecDepth 20000 in
set_option maxHeartbeats 4000000 in
theorem P_copy_A35_57_v3 (x1 : Int32) (x2 : Int32) (x3 : Int32) (x4 : Int32) (x5 : Int32) (σ : jm_S) : jv 109 35 [some (.ref 0), some (.int x1), some (.int x2), some (.int x3), some (.int x4), some (.int x5), some (.ref 57), none] [(.ref 57)] σ = jbi (jc 8 [(.ref 57)] σ) (fun r1 τ1 => (if ¬ r1 = 0 then jbi (jc 9 [(.ref 0), (.int (1 : Int32))] τ1) (fun r2 τ2 => some (some (.int r2), τ2)) else jbi (jc 8 [(.ref 57)] τ1) (fun r3 τ3 => (if r3 = 0 then (if (τ3 57 1) = (τ3 57 1) then jbi (jc 110 [(.ref 57), (.int x2), (.int x5)] τ3) (fun r4 τ4 => (if r4 = 0 then jbi (jc 9 [(.ref 0), (.int (2 : Int32))] τ4) (fun r5 τ5 => some (some (.int r5), τ5)) else jbi (jc 110 [(.ref 57), (.int x4), (.int x5)] τ4) (fun r6 τ6 => (if ¬ r6 = 0 then (if x2 < 0 ∨ x4 < 0 ∨ x5 < 0 ∨ 60 < x2.toNatClampNeg + x5.toNatClampNeg ∨ 60 < x4.toNatClampNeg + x5.toNatClampNeg then none else some (some (.int (1 : Int32)), (jm_row τ6 58 (va_cpy (τ6 58) (τ6 58) x2.toNatClampNeg x4.toNatClampNeg x5.toNatClampNeg)))) else jbi (jc 9 [(.ref 0), (.int (2 : Int32))] τ6) (fun r7 τ7 => some (some (.int r7), τ7)))))) else jbi (jc 9 [(.ref 0), (.int (4 : Int32))] τ3) (fun r8 τ8 => some (some (.int r8), τ8))) else jbi (jc 9 [(.ref 0), (.int (1 : Int32))] τ3) (fun r9 τ9 => some (some (.int r9), τ9)))))) := by
  refine (sv_astore (ls1 := [some (.ref 0), some (.int x1), some (.int x2), some (.int x3), some (.int x4), some (.int x5), some (.ref 57), some (.ref 57)]) jM109 c109_35 rfl (Nat.lt_of_lt_of_eq (by decide +kernel : 7 < 8) rfl) rfl).trans ?_
  refine (sv_aload jM109 c109_37 rfl rfl).trans ?_
  refine (sv_callvi (pl := 0) jM109 c109_39 rfl (jm_call_v (a := 57) (as := []) (rest := []) lm_8_102 rfl jM8 rfl rfl rfl rfl rfl) jM8 rfl (Or.inr rfl)).trans ?_
  refine jbi_c (fun r1 τ1 => ?_)
  refine (sv_if_ne jM109 c109_42 rfl (t := 53) (by decide +kernel)).trans ?_
  refine jif _ ?_ ?_
  ·
    refine (sv_aload_n jM109 c109_53 rfl rfl).trans ?_
    refine (sv_iconst jM109 c109_54 rfl (v := 1) (by decide +kernel)).trans ?_
    refine (sv_callvi (pl := 0) jM109 c109_55 rfl (jm_call_v (a := 0) (as := [(.int (1 : Int32))]) (rest := []) lm_8_105 rfl jM9 rfl rfl rfl rfl rfl) jM9 rfl (Or.inl rfl)).trans ?_
    refine jbi_c (fun r2 τ2 => ?_)
    exact sv_iret jM109 c109_58 rfl rfl
  ·
    refine (sv_aload jM109 c109_45 rfl rfl).trans ?_
    refine (sv_callvi (pl := 0) jM109 c109_47 rfl (jm_call_v (a := 57) (as := []) (rest := []) lm_8_102 rfl jM8 rfl rfl rfl rfl rfl) jM8 rfl (Or.inr rfl)).trans ?_
    refine jbi_c (fun r3 τ3 => ?_)
    refine (sv_if_eq jM109 c109_50 rfl (t := 59) (by decide +kernel)).trans ?_
    refine jif _ ?_ ?_
    ·
      refine (sv_aload jM109 c109_59 rfl rfl).trans ?_
      refine (sv_getf jM109 c109_61 rfl lf_8_281 (fg_57_1 _)).trans ?_
      refine (sv_aload jM109 c109_64 rfl rfl).trans ?_
      refine (sv_getf jM109 c109_66 rfl lf_8_281 (fg_57_1 _)).trans ?_
      refine (sv_icmp_eq jM109 c109_69 rfl (t := 78) (by decide +kernel)).trans ?_
      refine jif _ ?_ ?_
      ·
        refine (sv_aload jM109 c109_78 rfl rfl).trans ?_
        refine (sv_iload_n jM109 c109_80 rfl rfl).trans ?_
        refine (sv_iload jM109 c109_81 rfl rfl).trans ?_
        refine (sv_callvi (pl := 0) jM109 c109_83 rfl (jm_call_v (a := 57) (as := [(.int x2), (.int x5)]) (rest := []) lm_8_290 rfl jM110 rfl rfl rfl rfl rfl) jM110 rfl (Or.inr rfl)).trans ?_
        refine jbi_c (fun r4 τ4 => ?_)
        refine (sv_if_eq jM109 c109_86 rfl (t := 101) (by decide +kernel)).trans ?_
        refine jif _ ?_ ?_
        ·
          refine (sv_aload_n jM109 c109_101 rfl rfl).trans ?_
          refine (sv_iconst jM109 c109_102 rfl (v := 2) (by decide +kernel)).trans ?_
          refine (sv_callvi (pl := 0) jM109 c109_103 rfl (jm_call_v (a := 0) (as := [(.int (2 : Int32))]) (rest := []) lm_8_105 rfl jM9 rfl rfl rfl rfl rfl) jM9 rfl (Or.inl rfl)).trans ?_
          refine jbi_c (fun r5 τ5 => ?_)
          exact sv_iret jM109 c109_106 rfl rfl
        ·
          refine (sv_aload jM109 c109_89 rfl rfl).trans ?_
          refine (sv_iload jM109 c109_91 rfl rfl).trans ?_
          refine (sv_iload jM109 c109_93 rfl rfl).trans ?_
          refine (sv_callvi (pl := 0) jM109 c109_95 rfl (jm_call_v (a := 57) (as := [(.int x4), (.int x5)]) (rest := []) lm_8_290 rfl jM110 rfl rfl rfl rfl rfl) jM110 rfl (Or.inr rfl)).trans ?_
          refine jbi_c (fun r6 τ6 => ?_)
          refine (sv_if_ne jM109 c109_98 rfl (t := 107) (by decide +kernel)).trans ?_
          refine jif _ ?_ ?_
          ·
            refine (sv_aload jM109 c109_107 rfl rfl).trans ?_
            refine (sv_getf jM109 c109_109 rfl lf_8_112 (fg_57_0 _)).trans ?_
            refine (sv_iload_n jM109 c109_112 rfl rfl).trans ?_
            refine (sv_aload jM109 c109_113 rfl rfl).trans ?_
            refine (sv_getf jM109 c109_115 rfl lf_8_112 (fg_57_0 _)).trans ?_
            refine (sv_iload jM109 c109_118 rfl rfl).trans ?_
            refine (sv_iload jM109 c109_120 rfl rfl).trans ?_
            refine (sv_cpy jM109 c109_122 rfl lm_8_293 (Nat.not_lt.mpr (Nat.le_of_ble_eq_true rfl)) wi_58 wi_58).trans ?_
            refine jif _ rfl ?_
            refine (sv_iconst jM109 c109_125 rfl (v := 1) (by decide +kernel)).trans ?_
            exact sv_iret jM109 c109_126 rfl rfl
          ·
            refine (sv_aload_n jM109 c109_101 rfl rfl).trans ?_
            refine (sv_iconst jM109 c109_102 rfl (v := 2) (by decide +kernel)).trans ?_
            refine (sv_callvi (pl := 0) jM109 c109_103 rfl (jm_call_v (a := 0) (as := [(.int (2 : Int32))]) (rest := []) lm_8_105 rfl jM9 rfl rfl rfl rfl rfl) jM9 rfl (Or.inl rfl)).trans ?_
            refine jbi_c (fun r7 τ7 => ?_)
            exact sv_iret jM109 c109_106 rfl rfl
      ·
        refine (sv_aload_n jM109 c109_72 rfl rfl).trans ?_
        refine (sv_iconst jM109 c109_73 rfl (v := 4) (by decide +kernel)).trans ?_
        refine (sv_callvi (pl := 0) jM109 c109_74 rfl (jm_call_v (a := 0) (as := [(.int (4 : Int32))]) (rest := []) lm_8_105 rfl jM9 rfl rfl rfl rfl rfl) jM9 rfl (Or.inl rfl)).trans ?_
        refine jbi_c (fun r8 τ8 => ?_)
        exact sv_iret jM109 c109_77 rfl rfl
    ·
      refine (sv_aload_n jM109 c109_53 rfl rfl).trans ?_
      refine (sv_iconst jM109 c109_54 rfl (v := 1) (by decide +kernel)).trans ?_
      refine (sv_callvi (pl := 0) jM109 c109_55 rfl (jm_call_v (a := 0) (as := [(.int (1 : Int32))]) (rest := []) lm_8_105 rfl jM9 rfl rfl rfl rfl rfl) jM9 rfl (Or.inl rfl)).trans ?_
      refine jbi_c (fun r9 τ9 => ?_)
      exact sv_iret jM109 c109_58 rfl rfl
set_option maxRecDepth 20000 in
set_option maxHeartbeats 4000000 in
theorem P_copy_A35_59_v3 (x1 : Int32) (x2 : Int32) (x3 : Int32) (x4 : Int32) (x5 : Int32) (σ : jm_S) : jv 109 35 [some (.ref 0), some (.int x1), some (.int x2), some (.int x3), some (.int x4), some (.int x5), some (.ref 57), none] [(.ref 59)] σ = jbi (jc 8 [(.ref 57)] σ) (fun r1 τ1 => (if ¬ r1 = 0 then jbi (jc 9 [(.ref 0), (.int (1 : Int32))] τ1) (fun r2 τ2 => some (some (.int r2), τ2)) else jbi (jc 8 [(.ref 59)] τ1) (fun r3 τ3 => (if r3 = 0 then (if (τ3 57 1) = (τ3 59 1) then jbi (jc 110 [(.ref 57), (.int x2), (.int x5)] τ3) (fun r4 τ4 => (if r4 = 0 then jbi (jc 9 [(.ref 0), (.int (2 : Int32))] τ4) (fun r5 τ5 => some (some (.int r5), τ5)) else jbi (jc 110 [(.ref 59), (.int x4), (.int x5)] τ4) (fun r6 τ6 => (if ¬ r6 = 0 then (if x2 < 0 ∨ x4 < 0 ∨ x5 < 0 ∨ 60 < x2.toNatClampNeg + x5.toNatClampNeg ∨ 60 < x4.toNatClampNeg + x5.toNatClampNeg then none else some (some (.int (1 : Int32)), (jm_row τ6 60 (va_cpy (τ6 58) (τ6 60) x2.toNatClampNeg x4.toNatClampNeg x5.toNatClampNeg)))) else jbi (jc 9 [(.ref 0), (.int (2 : Int32))] τ6) (fun r7 τ7 => some (some (.int r7), τ7)))))) else jbi (jc 9 [(.ref 0), (.int (4 : Int32))] τ3) (fun r8 τ8 => some (some (.int r8), τ8))) else jbi (jc 9 [(.ref 0), (.int (1 : Int32))] τ3) (fun r9 τ9 => some (some (.int r9), τ9)))))) := by
  refine (sv_astore (ls1 := [some (.ref 0), some (.int x1), some (.int x2), some (.int x3), some (.int x4), some (.int x5), some (.ref 57), some (.ref 59)]) jM109 c109_35 rfl (Nat.lt_of_lt_of_eq (by decide +kernel : 7 < 8) rfl) rfl).trans ?_
  refine (sv_aload jM109 c109_37 rfl rfl).trans ?_
  refine (sv_callvi (pl := 0) jM109 c109_39 rfl (jm_call_v (a := 57) (as := []) (rest := []) lm_8_102 rfl jM8 rfl rfl rfl rfl rfl) jM8 rfl (Or.inr rfl)).trans ?_
  refine jbi_c (fun r1 τ1 => ?_)
  refine (sv_if_ne jM109 c109_42 rfl (t := 53) (by decide +kernel)).trans ?_
  refine jif _ ?_ ?_
  ·
    refine (sv_aload_n jM109 c109_53 rfl rfl).trans ?_
    refine (sv_iconst jM109 c109_54 rfl (v := 1) (by decide +kernel)).trans ?_
    refine (sv_callvi (pl := 0) jM109 c109_55 rfl (jm_call_v (a := 0) (as := [(.int (1 : Int32))]) (rest := []) lm_8_105 rfl jM9 rfl rfl rfl rfl rfl) jM9 rfl (Or.inl rfl)).trans ?_
    refine jbi_c (fun r2 τ2 => ?_)
    exact sv_iret jM109 c109_58 rfl rfl
  ·
    refine (sv_aload jM109 c109_45 rfl rfl).trans ?_
    refine (sv_callvi (pl := 0) jM109 c109_47 rfl (jm_call_v (a := 59) (as := []) (rest := []) lm_8_102 rfl jM8 rfl rfl rfl rfl rfl) jM8 rfl (Or.inr rfl)).trans ?_
    refine jbi_c (fun r3 τ3 => ?_)
    refine (sv_if_eq jM109 c109_50 rfl (t := 59) (by decide +kernel)).trans ?_
    refine jif _ ?_ ?_
    ·
      refine (sv_aload jM109 c109_59 rfl rfl).trans ?_
      refine (sv_getf jM109 c109_61 rfl lf_8_281 (fg_57_1 _)).trans ?_
      refine (sv_aload jM109 c109_64 rfl rfl).trans ?_
      refine (sv_getf jM109 c109_66 rfl lf_8_281 (fg_59_1 _)).trans ?_
      refine (sv_icmp_eq jM109 c109_69 rfl (t := 78) (by decide +kernel)).trans ?_
      refine jif _ ?_ ?_
      ·
        refine (sv_aload jM109 c109_78 rfl rfl).trans ?_
        refine (sv_iload_n jM109 c109_80 rfl rfl).trans ?_
        refine (sv_iload jM109 c109_81 rfl rfl).trans ?_
        refine (sv_callvi (pl := 0) jM109 c109_83 rfl (jm_call_v (a := 57) (as := [(.int x2), (.int x5)]) (rest := []) lm_8_290 rfl jM110 rfl rfl rfl rfl rfl) jM110 rfl (Or.inr rfl)).trans ?_
        refine jbi_c (fun r4 τ4 => ?_)
        refine (sv_if_eq jM109 c109_86 rfl (t := 101) (by decide +kernel)).trans ?_
        refine jif _ ?_ ?_
        ·
          refine (sv_aload_n jM109 c109_101 rfl rfl).trans ?_
          refine (sv_iconst jM109 c109_102 rfl (v := 2) (by decide +kernel)).trans ?_
          refine (sv_callvi (pl := 0) jM109 c109_103 rfl (jm_call_v (a := 0) (as := [(.int (2 : Int32))]) (rest := []) lm_8_105 rfl jM9 rfl rfl rfl rfl rfl) jM9 rfl (Or.inl rfl)).trans ?_
          refine jbi_c (fun r5 τ5 => ?_)
          exact sv_iret jM109 c109_106 rfl rfl
        ·
          refine (sv_aload jM109 c109_89 rfl rfl).trans ?_
          refine (sv_iload jM109 c109_91 rfl rfl).trans ?_
          refine (sv_iload jM109 c109_93 rfl rfl).trans ?_
          refine (sv_callvi (pl := 0) jM109 c109_95 rfl (jm_call_v (a := 59) (as := [(.int x4), (.int x5)]) (rest := []) lm_8_290 rfl jM110 rfl rfl rfl rfl rfl) jM110 rfl (Or.inr rfl)).trans ?_
          refine jbi_c (fun r6 τ6 => ?_)
          refine (sv_if_ne jM109 c109_98 rfl (t := 107) (by decide +kernel)).trans ?_
          refine jif _ ?_ ?_
          ·
            refine (sv_aload jM109 c109_107 rfl rfl).trans ?_
            refine (sv_getf jM109 c109_109 rfl lf_8_112 (fg_57_0 _)).trans ?_
            refine (sv_iload_n jM109 c109_112 rfl rfl).trans ?_
            refine (sv_aload jM109 c109_113 rfl rfl).trans ?_
            refine (sv_getf jM109 c109_115 rfl lf_8_112 (fg_59_0 _)).trans ?_
            refine (sv_iload jM109 c109_118 rfl rfl).trans ?_
            refine (sv_iload jM109 c109_120 rfl rfl).trans ?_
            refine (sv_cpy jM109 c109_122 rfl lm_8_293 (Nat.not_lt.mpr (Nat.le_of_ble_eq_true rfl)) wi_58 wi_60).trans ?_
            refine jif _ rfl ?_
            refine (sv_iconst jM109 c109_125 rfl (v := 1) (by decide +kernel)).trans ?_
            exact sv_iret jM109 c109_126 rfl rfl
          ·
            refine (sv_aload_n jM109 c109_101 rfl rfl).trans ?_
            refine (sv_iconst jM109 c109_102 rfl (v := 2) (by decide +kernel)).trans ?_
            refine (sv_callvi (pl := 0) jM109 c109_103 rfl (jm_call_v (a := 0) (as := [(.int (2 : Int32))]) (rest := []) lm_8_105 rfl jM9 rfl rfl rfl rfl rfl) jM9 rfl (Or.inl rfl)).trans ?_
            refine jbi_c (fun r7 τ7 => ?_)
            exact sv_iret jM109 c109_106 rfl rfl
      ·
        refine (sv_aload_n jM109 c109_72 rfl rfl).trans ?_
        refine (sv_iconst jM109 c109_73 rfl (v := 4) (by decide +kernel)).trans ?_
        refine (sv_callvi (pl := 0) jM109 c109_74 rfl (jm_call_v (a := 0) (as := [(.int (4 : Int32))]) (rest := []) lm_8_105 rfl jM9 rfl rfl rfl rfl rfl) jM9 rfl (Or.inl rfl)).trans ?_
        refine jbi_c (fun r8 τ8 => ?_)
        exact sv_iret jM109 c109_77 rfl rfl
    ·
      refine (sv_aload_n jM109 c109_53 rfl rfl).trans ?_
      refine (sv_iconst jM109 c109_54 rfl (v := 1) (by decide +kernel)).trans ?_
      refine (sv_callvi (pl := 0) jM109 c109_55 rfl (jm_call_v (a := 0) (as := [(.int (1 : Int32))]) (rest := []) lm_8_105 rfl jM9 rfl rfl rfl rfl rfl) jM9 rfl (Or.inl rfl)).trans ?_
      refine jbi_c (fun r9 τ9 => ?_)
      exact sv_iret jM109 c109_58 rfl rfl
set_option maxRecDepth 20000 in
set_option maxHeartbeats 4000000 in
theorem P_copy_A35_53_v4 (x1 : Int32) (x2 : Int32) (x3 : Int32) (x4 : Int32) (x5 : Int32) (σ : jm_S) : jv 109 35 [some (.ref 0), some (.int x1), some (.int x2), some (.int x3), some (.int x4), some (.int x5), some (.ref 59), none] [(.ref 53)] σ = jbi (jc 8 [(.ref 59)] σ) (fun r1 τ1 => (if ¬ r1 = 0 then jbi (jc 9 [(.ref 0), (.int (1 : Int32))] τ1) (fun r2 τ2 => some (some (.int r2), τ2)) else jbi (jc 8 [(.ref 53)] τ1) (fun r3 τ3 => (if r3 = 0 then (if (τ3 59 1) = (τ3 53 1) then jbi (jc 110 [(.ref 59), (.int x2), (.int x5)] τ3) (fun r4 τ4 => (if r4 = 0 then jbi (jc 9 [(.ref 0), (.int (2 : Int32))] τ4) (fun r5 τ5 => some (some (.int r5), τ5)) else jbi (jc 110 [(.ref 53), (.int x4), (.int x5)] τ4) (fun r6 τ6 => (if ¬ r6 = 0 then (if x2 < 0 ∨ x4 < 0 ∨ x5 < 0 ∨ 60 < x2.toNatClampNeg + x5.toNatClampNeg ∨ 60 < x4.toNatClampNeg + x5.toNatClampNeg then none else some (some (.int (1 : Int32)), (jm_row τ6 54 (va_cpy (τ6 60) (τ6 54) x2.toNatClampNeg x4.toNatClampNeg x5.toNatClampNeg)))) else jbi (jc 9 [(.ref 0), (.int (2 : Int32))] τ6) (fun r7 τ7 => some (some (.int r7), τ7)))))) else jbi (jc 9 [(.ref 0), (.int (4 : Int32))] τ3) (fun r8 τ8 => some (some (.int r8), τ8))) else jbi (jc 9 [(.ref 0), (.int (1 : Int32))] τ3) (fun r9 τ9 => some (some (.int r9), τ9)))))) := by
  refine (sv_astore (ls1 := [some (.ref 0), some (.int x1), some (.int x2), some (.int x3), some (.int x4), some (.int x5), some (.ref 59), some (.ref 53)]) jM109 c109_35 rfl (Nat.lt_of_lt_of_eq (by decide +kernel : 7 < 8) rfl) rfl).trans ?_
  refine (sv_aload jM109 c109_37 rfl rfl).trans ?_
  refine (sv_callvi (pl := 0) jM109 c109_39 rfl (jm_call_v (a := 59) (as := []) (rest := []) lm_8_102 rfl jM8 rfl rfl rfl rfl rfl) jM8 rfl (Or.inr rfl)).trans ?_
  refine jbi_c (fun r1 τ1 => ?_)
  refine (sv_if_ne jM109 c109_42 rfl (t := 53) (by decide +kernel)).trans ?_
  refine jif _ ?_ ?_
  ·
    refine (sv_aload_n jM109 c109_53 rfl rfl).trans ?_
    refine (sv_iconst jM109 c109_54 rfl (v := 1) (by decide +kernel)).trans ?_
    refine (sv_callvi (pl := 0) jM109 c109_55 rfl (jm_call_v (a := 0) (as := [(.int (1 : Int32))]) (rest := []) lm_8_105 rfl jM9 rfl rfl rfl rfl rfl) jM9 rfl (Or.inl rfl)).trans ?_
    refine jbi_c (fun r2 τ2 => ?_)
    exact sv_iret jM109 c109_58 rfl rfl
  ·
    refine (sv_aload jM109 c109_45 rfl rfl).trans ?_
    refine (sv_callvi (pl := 0) jM109 c109_47 rfl (jm_call_v (a := 53) (as := []) (rest := []) lm_8_102 rfl jM8 rfl rfl rfl rfl rfl) jM8 rfl (Or.inr rfl)).trans ?_
    refine jbi_c (fun r3 τ3 => ?_)
    refine (sv_if_eq jM109 c109_50 rfl (t := 59) (by decide +kernel)).trans ?_
    refine jif _ ?_ ?_
    ·
      refine (sv_aload jM109 c109_59 rfl rfl).trans ?_
      refine (sv_getf jM109 c109_61 rfl lf_8_281 (fg_59_1 _)).trans ?_
      refine (sv_aload jM109 c109_64 rfl rfl).trans ?_
      refine (sv_getf jM109 c109_66 rfl lf_8_281 (fg_53_1 _)).trans ?_
      refine (sv_icmp_eq jM109 c109_69 rfl (t := 78) (by decide +kernel)).trans ?_
      refine jif _ ?_ ?_
      ·
        refine (sv_aload jM109 c109_78 rfl rfl).trans ?_
        refine (sv_iload_n jM109 c109_80 rfl rfl).trans ?_
        refine (sv_iload jM109 c109_81 rfl rfl).trans ?_
        refine (sv_callvi (pl := 0) jM109 c109_83 rfl (jm_call_v (a := 59) (as := [(.int x2), (.int x5)]) (rest := []) lm_8_290 rfl jM110 rfl rfl rfl rfl rfl) jM110 rfl (Or.inr rfl)).trans ?_
        refine jbi_c (fun r4 τ4 => ?_)
        refine (sv_if_eq jM109 c109_86 rfl (t := 101) (by decide +kernel)).trans ?_
        refine jif _ ?_ ?_
        ·
          refine (sv_aload_n jM109 c109_101 rfl rfl).trans ?_
          refine (sv_iconst jM109 c109_102 rfl (v := 2) (by decide +kernel)).trans ?_
          refine (sv_callvi (pl := 0) jM109 c109_103 rfl (jm_call_v (a := 0) (as := [(.int (2 : Int32))]) (rest := []) lm_8_105 rfl jM9 rfl rfl rfl rfl rfl) jM9 rfl (Or.inl rfl)).trans ?_
          refine jbi_c (fun r5 τ5 => ?_)
          exact sv_iret jM109 c109_106 rfl rfl
        ·
          refine (sv_aload jM109 c109_89 rfl rfl).trans ?_
          refine (sv_iload jM109 c109_91 rfl rfl).trans ?_
          refine (sv_iload jM109 c109_93 rfl rfl).trans ?_
          refine (sv_callvi (pl := 0) jM109 c109_95 rfl (jm_call_v (a := 53) (as := [(.int x4), (.int x5)]) (rest := []) lm_8_290 rfl jM110 rfl rfl rfl rfl rfl) jM110 rfl (Or.inr rfl)).trans ?_
          refine jbi_c (fun r6 τ6 => ?_)
          refine (sv_if_ne jM109 c109_98 rfl (t := 107) (by decide +kernel)).trans ?_
          refine jif _ ?_ ?_
          ·
            refine (sv_aload jM109 c109_107 rfl rfl).trans ?_
            refine (sv_getf jM109 c109_109 rfl lf_8_112 (fg_59_0 _)).trans ?_
            refine (sv_iload_n jM109 c109_112 rfl rfl).trans ?_
            refine (sv_aload jM109 c109_113 rfl rfl).trans ?_
            refine (sv_getf jM109 c109_115 rfl lf_8_112 (fg_53_0 _)).trans ?_
            refine (sv_iload jM109 c109_118 rfl rfl).trans ?_
            refine (sv_iload jM109 c109_120 rfl rfl).trans ?_
            refine (sv_cpy jM109 c109_122 rfl lm_8_293 (Nat.not_lt.mpr (Nat.le_of_ble_eq_true rfl)) wi_60 wi_54).trans ?_
            refine jif _ rfl ?_
            refine (sv_iconst jM109 c109_125 rfl (v := 1) (by decide +kernel)).trans ?_
            exact sv_iret jM109 c109_126 rfl rfl
          ·
            refine (sv_aload_n jM109 c109_101 rfl rfl).trans ?_
            refine (sv_iconst jM109 c109_102 rfl (v := 2) (by decide +kernel)).trans ?_
            refine (sv_callvi (pl := 0) jM109 c109_103 rfl (jm_call_v (a := 0) (as := [(.int (2 : Int32))]) (rest := []) lm_8_105 rfl jM9 rfl rfl rfl rfl rfl) jM9 rfl (Or.inl rfl)).trans ?_
            refine jbi_c (fun r7 τ7 => ?_)
            exact sv_iret jM109 c109_106 rfl rfl
      ·
        refine (sv_aload_n jM109 c109_72 rfl rfl).trans ?_
        refine (sv_iconst jM109 c109_73 rfl (v := 4) (by decide +kernel)).trans ?_
        refine (sv_callvi (pl := 0) jM109 c109_74 rfl (jm_call_v (a := 0) (as := [(.int (4 : Int32))]) (rest := []) lm_8_105 rfl jM9 rfl rfl rfl rfl rfl) jM9 rfl (Or.inl rfl)).trans ?_
        refine jbi_c (fun r8 τ8 => ?_)
        exact sv_iret jM109 c109_77 rfl rfl
    ·
      refine (sv_aload_n jM109 c109_53 rfl rfl).trans ?_
      refine (sv_iconst jM109 c109_54 rfl (v := 1) (by decide +kernel)).trans ?_
      refine (sv_callvi (pl := 0) jM109 c109_55 rfl (jm_call_v (a := 0) (as := [(.int (1 : Int32))]) (rest := []) lm_8_105 rfl jM9 rfl rfl rfl rfl rfl) jM9 rfl (Or.inl rfl)).trans ?_
      refine jbi_c (fun r9 τ9 => ?_)
      exact sv_iret jM109 c109_58 rfl rfl
set_option maxRecDepth 20000 in
set_option maxHeartbeats 4000000 in
theorem P_copy_A35_55_v4 (x1 : Int32) (x2 : Int32) (x3 : Int32) (x4 : Int32) (x5 : Int32) (σ : jm_S) : jv 109 35 [some (.ref 0), some (.int x1), some (.int x2), some (.int x3), some (.int x4), some (.int x5), some (.ref 59), none] [(.ref 55)] σ = jbi (jc 8 [(.ref 59)] σ) (fun r1 τ1 => (if ¬ r1 = 0 then jbi (jc 9 [(.ref 0), (.int (1 : Int32))] τ1) (fun r2 τ2 => some (some (.int r2), τ2)) else jbi (jc 8 [(.ref 55)] τ1) (fun r3 τ3 => (if r3 = 0 then (if (τ3 59 1) = (τ3 55 1) then jbi (jc 110 [(.ref 59), (.int x2), (.int x5)] τ3) (fun r4 τ4 => (if r4 = 0 then jbi (jc 9 [(.ref 0), (.int (2 : Int32))] τ4) (fun r5 τ5 => some (some (.int r5), τ5)) else jbi (jc 110 [(.ref 55), (.int x4), (.int x5)] τ4) (fun r6 τ6 => (if ¬ r6 = 0 then (if x2 < 0 ∨ x4 < 0 ∨ x5 < 0 ∨ 60 < x2.toNatClampNeg + x5.toNatClampNeg ∨ 60 < x4.toNatClampNeg + x5.toNatClampNeg then none else some (some (.int (1 : Int32)), (jm_row τ6 56 (va_cpy (τ6 60) (τ6 56) x2.toNatClampNeg x4.toNatClampNeg x5.toNatClampNeg)))) else jbi (jc 9 [(.ref 0), (.int (2 : Int32))] τ6) (fun r7 τ7 => some (some (.int r7), τ7)))))) else jbi (jc 9 [(.ref 0), (.int (4 : Int32))] τ3) (fun r8 τ8 => some (some (.int r8), τ8))) else jbi (jc 9 [(.ref 0), (.int (1 : Int32))] τ3) (fun r9 τ9 => some (some (.int r9), τ9)))))) := by
  refine (sv_astore (ls1 := [some (.ref 0), some (.int x1), some (.int x2), some (.int x3), some (.int x4), some (.int x5), some (.ref 59), some (.ref 55)]) jM109 c109_35 rfl (Nat.lt_of_lt_of_eq (by decide +kernel : 7 < 8) rfl) rfl).trans ?_
  refine (sv_aload jM109 c109_37 rfl rfl).trans ?_
  refine (sv_callvi (pl := 0) jM109 c109_39 rfl (jm_call_v (a := 59) (as := []) (rest := []) lm_8_102 rfl jM8 rfl rfl rfl rfl rfl) jM8 rfl (Or.inr rfl)).trans ?_
  refine jbi_c (fun r1 τ1 => ?_)
  refine (sv_if_ne jM109 c109_42 rfl (t := 53) (by decide +kernel)).trans ?_
  refine jif _ ?_ ?_
  ·
    refine (sv_aload_n jM109 c109_53 rfl rfl).trans ?_
    refine (sv_iconst jM109 c109_54 rfl (v := 1) (by decide +kernel)).trans ?_
    refine (sv_callvi (pl := 0) jM109 c109_55 rfl (jm_call_v (a := 0) (as := [(.int (1 : Int32))]) (rest := []) lm_8_105 rfl jM9 rfl rfl rfl rfl rfl) jM9 rfl (Or.inl rfl)).trans ?_
    refine jbi_c (fun r2 τ2 => ?_)
    exact sv_iret jM109 c109_58 rfl rfl
  ·
    refine (sv_aload jM109 c109_45 rfl rfl).trans ?_
    refine (sv_callvi (pl := 0) jM109 c109_47 rfl (jm_call_v (a := 55) (as := []) (rest := []) lm_8_102 rfl jM8 rfl rfl rfl rfl rfl) jM8 rfl (Or.inr rfl)).trans ?_
    refine jbi_c (fun r3 τ3 => ?_)
    refine (sv_if_eq jM109 c109_50 rfl (t := 59) (by decide +kernel)).trans ?_
    refine jif _ ?_ ?_
    ·
      refine (sv_aload jM109 c109_59 rfl rfl).trans ?_
      refine (sv_getf jM109 c109_61 rfl lf_8_281 (fg_59_1 _)).trans ?_
      refine (sv_aload jM109 c109_64 rfl rfl).trans ?_
      refine (sv_getf jM109 c109_66 rfl lf_8_281 (fg_55_1 _)).trans ?_
      refine (sv_icmp_eq jM109 c109_69 rfl (t := 78) (by decide +kernel)).trans ?_
      refine jif _ ?_ ?_
      ·
        refine (sv_aload jM109 c109_78 rfl rfl).trans ?_
        refine (sv_iload_n jM109 c109_80 rfl rfl).trans ?_
        refine (sv_iload jM109 c109_81 rfl rfl).trans ?_
        refine (sv_callvi (pl := 0) jM109 c109_83 rfl (jm_call_v (a := 59) (as := [(.int x2), (.int x5)]) (rest := []) lm_8_290 rfl jM110 rfl rfl rfl rfl rfl) jM110 rfl (Or.inr rfl)).trans ?_
        refine jbi_c (fun r4 τ4 => ?_)
        refine (sv_if_eq jM109 c109_86 rfl (t := 101) (by decide +kernel)).trans ?_
        refine jif _ ?_ ?_
        ·
          refine (sv_aload_n jM109 c109_101 rfl rfl).trans ?_
          refine (sv_iconst jM109 c109_102 rfl (v := 2) (by decide +kernel)).trans ?_
          refine (sv_callvi (pl := 0) jM109 c109_103 rfl (jm_call_v (a := 0) (as := [(.int (2 : Int32))]) (rest := []) lm_8_105 rfl jM9 rfl rfl rfl rfl rfl) jM9 rfl (Or.inl rfl)).trans ?_
          refine jbi_c (fun r5 τ5 => ?_)
          exact sv_iret jM109 c109_106 rfl rfl
        ·
          refine (sv_aload jM109 c109_89 rfl rfl).trans ?_
          refine (sv_iload jM109 c109_91 rfl rfl).trans ?_
          refine (sv_iload jM109 c109_93 rfl rfl).trans ?_
          refine (sv_callvi (pl := 0) jM109 c109_95 rfl (jm_call_v (a := 55) (as := [(.int x4), (.int x5)]) (rest := []) lm_8_290 rfl jM110 rfl rfl rfl rfl rfl) jM110 rfl (Or.inr rfl)).trans ?_
          refine jbi_c (fun r6 τ6 => ?_)
          refine (sv_if_ne jM109 c109_98 rfl (t := 107) (by decide +kernel)).trans ?_
          refine jif _ ?_ ?_
          ·
            refine (sv_aload jM109 c109_107 rfl rfl).trans ?_
            refine (sv_getf jM109 c109_109 rfl lf_8_112 (fg_59_0 _)).trans ?_
            refine (sv_iload_n jM109 c109_112 rfl rfl).trans ?_
            refine (sv_aload jM109 c109_113 rfl rfl).trans ?_
            refine (sv_getf jM109 c109_115 rfl lf_8_112 (fg_55_0 _)).trans ?_
            refine (sv_iload jM109 c109_118 rfl rfl).trans ?_
            refine (sv_iload jM109 c109_120 rfl rfl).trans ?_
            refine (sv_cpy jM109 c109_122 rfl lm_8_293 (Nat.not_lt.mpr (Nat.le_of_ble_eq_true rfl)) wi_60 wi_56).trans ?_
            refine jif _ rfl ?_
            refine (sv_iconst jM109 c109_125 rfl (v := 1) (by decide +kernel)).trans ?_
            exact sv_iret jM109 c109_126 rfl rfl
          ·
            refine (sv_aload_n jM109 c109_101 rfl rfl).trans ?_
            refine (sv_iconst jM109 c109_102 rfl (v := 2) (by decide +kernel)).trans ?_
            refine (sv_callvi (pl := 0) jM109 c109_103 rfl (jm_call_v (a := 0) (as := [(.int (2 : Int32))]) (rest := []) lm_8_105 rfl jM9 rfl rfl rfl rfl rfl) jM9 rfl (Or.inl rfl)).trans ?_
            refine jbi_c (fun r7 τ7 => ?_)
            exact sv_iret jM109 c109_106 rfl rfl
      ·
        refine (sv_aload_n jM109 c109_72 rfl rfl).trans ?_
        refine (sv_iconst jM109 c109_73 rfl (v := 4) (by decide +kernel)).trans ?_
        refine (sv_callvi (pl := 0) jM109 c109_74 rfl (jm_call_v (a := 0) (as := [(.int (4 : Int32))]) (rest := []) lm_8_105 rfl jM9 rfl rfl rfl rfl rfl) jM9 rfl (Or.inl rfl)).trans ?_
        refine jbi_c (fun r8 τ8 => ?_)
        exact sv_iret jM109 c109_77 rfl rfl
    ·
      refine (sv_aload_n jM109 c109_53 rfl rfl).trans ?_
      refine (sv_iconst jM109 c109_54 rfl (v := 1) (by decide +kernel)).trans ?_
      refine (sv_callvi (pl := 0) jM109 c109_55 rfl (jm_call_v (a := 0) (as := [(.int (1 : Int32))]) (rest := []) lm_8_105 rfl jM9 rfl rfl rfl rfl rfl) jM9 rfl (Or.inl rfl)).trans ?_
      refine jbi_c (fun r9 τ9 => ?_)
      exact sv_iret jM109 c109_58 rfl rfl
set_option maxRecDepth 20000 in
set_option maxHeartbeats 4000000 in
theorem P_copy_A35_57_v4 (x1 : Int32) (x2 : Int32) (x3 : Int32) (x4 : Int32) (x5 : Int32) (σ : jm_S) : jv 109 35 [some (.ref 0), some (.int x1), some (.int x2), some (.int x3), some (.int x4), some (.int x5), some (.ref 59), none] [(.ref 57)] σ = jbi (jc 8 [(.ref 59)] σ) (fun r1 τ1 => (if ¬ r1 = 0 then jbi (jc 9 [(.ref 0), (.int (1 : Int32))] τ1) (fun r2 τ2 => some (some (.int r2), τ2)) else jbi (jc 8 [(.ref 57)] τ1) (fun r3 τ3 => (if r3 = 0 then (if (τ3 59 1) = (τ3 57 1) then jbi (jc 110 [(.ref 59), (.int x2), (.int x5)] τ3) (fun r4 τ4 => (if r4 = 0 then jbi (jc 9 [(.ref 0), (.int (2 : Int32))] τ4) (fun r5 τ5 => some (some (.int r5), τ5)) else jbi (jc 110 [(.ref 57), (.int x4), (.int x5)] τ4) (fun r6 τ6 => (if ¬ r6 = 0 then (if x2 < 0 ∨ x4 < 0 ∨ x5 < 0 ∨ 60 < x2.toNatClampNeg + x5.toNatClampNeg ∨ 60 < x4.toNatClampNeg + x5.toNatClampNeg then none else some (some (.int (1 : Int32)), (jm_row τ6 58 (va_cpy (τ6 60) (τ6 58) x2.toNatClampNeg x4.toNatClampNeg x5.toNatClampNeg)))) else jbi (jc 9 [(.ref 0), (.int (2 : Int32))] τ6) (fun r7 τ7 => some (some (.int r7), τ7)))))) else jbi (jc 9 [(.ref 0), (.int (4 : Int32))] τ3) (fun r8 τ8 => some (some (.int r8), τ8))) else jbi (jc 9 [(.ref 0), (.int (1 : Int32))] τ3) (fun r9 τ9 => some (some (.int r9), τ9)))))) := by
  refine (sv_astore (ls1 := [some (.ref 0), some (.int x1), some (.int x2), some (.int x3), some (.int x4), some (.int x5), some (.ref 59), some (.ref 57)]) jM109 c109_35 rfl (Nat.lt_of_lt_of_eq (by decide +kernel : 7 < 8) rfl) rfl).trans ?_
  refine (sv_aload jM109 c109_37 rfl rfl).trans ?_
  refine (sv_callvi (pl := 0) jM109 c109_39 rfl (jm_call_v (a := 59) (as := []) (rest := []) lm_8_102 rfl jM8 rfl rfl rfl rfl rfl) jM8 rfl (Or.inr rfl)).trans ?_
  refine jbi_c (fun r1 τ1 => ?_)
  refine (sv_if_ne jM109 c109_42 rfl (t := 53) (by decide +kernel)).trans ?_
  refine jif _ ?_ ?_
  ·
    refine (sv_aload_n jM109 c109_53 rfl rfl).trans ?_
    refine (sv_iconst jM109 c109_54 rfl (v := 1) (by decide +kernel)).trans ?_
    refine (sv_callvi (pl := 0) jM109 c109_55 rfl (jm_call_v (a := 0) (as := [(.int (1 : Int32))]) (rest := []) lm_8_105 rfl jM9 rfl rfl rfl rfl rfl) jM9 rfl (Or.inl rfl)).trans ?_
    refine jbi_c (fun r2 τ2 => ?_)
    exact sv_iret jM109 c109_58 rfl rfl
  ·
    refine (sv_aload jM109 c109_45 rfl rfl).trans ?_
    refine (sv_callvi (pl := 0) jM109 c109_47 rfl (jm_call_v (a := 57) (as := []) (rest := []) lm_8_102 rfl jM8 rfl rfl rfl rfl rfl) jM8 rfl (Or.inr rfl)).trans ?_
    refine jbi_c (fun r3 τ3 => ?_)
    refine (sv_if_eq jM109 c109_50 rfl (t := 59) (by decide +kernel)).trans ?_
    refine jif _ ?_ ?_
    ·
      refine (sv_aload jM109 c109_59 rfl rfl).trans ?_
      refine (sv_getf jM109 c109_61 rfl lf_8_281 (fg_59_1 _)).trans ?_
      refine (sv_aload jM109 c109_64 rfl rfl).trans ?_
      refine (sv_getf jM109 c109_66 rfl lf_8_281 (fg_57_1 _)).trans ?_
      refine (sv_icmp_eq jM109 c109_69 rfl (t := 78) (by decide +kernel)).trans ?_
      refine jif _ ?_ ?_
      ·
        refine (sv_aload jM109 c109_78 rfl rfl).trans ?_
        refine (sv_iload_n jM109 c109_80 rfl rfl).trans ?_
        refine (sv_iload jM109 c109_81 rfl rfl).trans ?_
        refine (sv_callvi (pl := 0) jM109 c109_83 rfl (jm_call_v (a := 59) (as := [(.int x2), (.int x5)]) (rest := []) lm_8_290 rfl jM110 rfl rfl rfl rfl rfl) jM110 rfl (Or.inr rfl)).trans ?_
        refine jbi_c (fun r4 τ4 => ?_)
        refine (sv_if_eq jM109 c109_86 rfl (t := 101) (by decide +kernel)).trans ?_
        refine jif _ ?_ ?_
        ·
          refine (sv_aload_n jM109 c109_101 rfl rfl).trans ?_
          refine (sv_iconst jM109 c109_102 rfl (v := 2) (by decide +kernel)).trans ?_
          refine (sv_callvi (pl := 0) jM109 c109_103 rfl (jm_call_v (a := 0) (as := [(.int (2 : Int32))]) (rest := []) lm_8_105 rfl jM9 rfl rfl rfl rfl rfl) jM9 rfl (Or.inl rfl)).trans ?_
          refine jbi_c (fun r5 τ5 => ?_)
          exact sv_iret jM109 c109_106 rfl rfl
        ·
          refine (sv_aload jM109 c109_89 rfl rfl).trans ?_
          refine (sv_iload jM109 c109_91 rfl rfl).trans ?_
          refine (sv_iload jM109 c109_93 rfl rfl).trans ?_
          refine (sv_callvi (pl := 0) jM109 c109_95 rfl (jm_call_v (a := 57) (as := [(.int x4), (.int x5)]) (rest := []) lm_8_290 rfl jM110 rfl rfl rfl rfl rfl) jM110 rfl (Or.inr rfl)).trans ?_
          refine jbi_c (fun r6 τ6 => ?_)
          refine (sv_if_ne jM109 c109_98 rfl (t := 107) (by decide +kernel)).trans ?_
          refine jif _ ?_ ?_
          ·
            refine (sv_aload jM109 c109_107 rfl rfl).trans ?_
            refine (sv_getf jM109 c109_109 rfl lf_8_112 (fg_59_0 _)).trans ?_
            refine (sv_iload_n jM109 c109_112 rfl rfl).trans ?_
            refine (sv_aload jM109 c109_113 rfl rfl).trans ?_
            refine (sv_getf jM109 c109_115 rfl lf_8_112 (fg_57_0 _)).trans ?_
            refine (sv_iload jM109 c109_118 rfl rfl).trans ?_
            refine (sv_iload jM109 c109_120 rfl rfl).trans ?_
            refine (sv_cpy jM109 c109_122 rfl lm_8_293 (Nat.not_lt.mpr (Nat.le_of_ble_eq_true rfl)) wi_60 wi_58).trans ?_
            refine jif _ rfl ?_
            refine (sv_iconst jM109 c109_125 rfl (v := 1) (by decide +kernel)).trans ?_
            exact sv_iret jM109 c109_126 rfl rfl
          ·
            refine (sv_aload_n jM109 c109_101 rfl rfl).trans ?_
            refine (sv_iconst jM109 c109_102 rfl (v := 2) (by decide +kernel)).trans ?_
            refine (sv_callvi (pl := 0) jM109 c109_103 rfl (jm_call_v (a := 0) (as := [(.int (2 : Int32))]) (rest := []) lm_8_105 rfl jM9 rfl rfl rfl rfl rfl) jM9 rfl (Or.inl rfl)).trans ?_
            refine jbi_c (fun r7 τ7 => ?_)
            exact sv_iret jM109 c109_106 rfl rfl
      ·
        refine (sv_aload_n jM109 c109_72 rfl rfl).trans ?_
        refine (sv_iconst jM109 c109_73 rfl (v := 4) (by decide +kernel)).trans ?_
        refine (sv_callvi (pl := 0) jM109 c109_74 rfl (jm_call_v (a := 0) (as := [(.int (4 : Int32))]) (rest := []) lm_8_105 rfl jM9 rfl rfl rfl rfl rfl) jM9 rfl (Or.inl rfl)).trans ?_
        refine jbi_c (fun r8 τ8 => ?_)
        exact sv_iret jM109 c109_77 rfl rfl
    ·
      refine (sv_aload_n jM109 c109_53 rfl rfl).trans ?_
      refine (sv_iconst jM109 c109_54 rfl (v := 1) (by decide +kernel)).trans ?_
      refine (sv_callvi (pl := 0) jM109 c109_55 rfl (jm_call_v (a := 0) (as := [(.int (1 : Int32))]) (rest := []) lm_8_105 rfl jM9 rfl rfl rfl rfl rfl) jM9 rfl (Or.inl rfl)).trans ?_
      refine jbi_c (fun r9 τ9 => ?_)
      exact sv_iret jM109 c109_58 rfl rfl
set_option maxRecDepth 20000 in
set_option maxHeartbeats 4000000 in
theorem P_copy_A35_59_v4 (x1 : Int32) (x2 : Int32) (x3 : Int32) (x4 : Int32) (x5 : Int32) (σ : jm_S) : jv 109 35 [some (.ref 0), some (.int x1), some (.int x2), some (.int x3), some (.int x4), some (.int x5), some (.ref 59), none] [(.ref 59)] σ = jbi (jc 8 [(.ref 59)] σ) (fun r1 τ1 => (if ¬ r1 = 0 then jbi (jc 9 [(.ref 0), (.int (1 : Int32))] τ1) (fun r2 τ2 => some (some (.int r2), τ2)) else jbi (jc 8 [(.ref 59)] τ1) (fun r3 τ3 => (if r3 = 0 then (if (τ3 59 1) = (τ3 59 1) then jbi (jc 110 [(.ref 59), (.int x2), (.int x5)] τ3) (fun r4 τ4 => (if r4 = 0 then jbi (jc 9 [(.ref 0), (.int (2 : Int32))] τ4) (fun r5 τ5 => some (some (.int r5), τ5)) else jbi (jc 110 [(.ref 59), (.int x4), (.int x5)] τ4) (fun r6 τ6 => (if ¬ r6 = 0 then (if x2 < 0 ∨ x4 < 0 ∨ x5 < 0 ∨ 60 < x2.toNatClampNeg + x5.toNatClampNeg ∨ 60 < x4.toNatClampNeg + x5.toNatClampNeg then none else some (some (.int (1 : Int32)), (jm_row τ6 60 (va_cpy (τ6 60) (τ6 60) x2.toNatClampNeg x4.toNatClampNeg x5.toNatClampNeg)))) else jbi (jc 9 [(.ref 0), (.int (2 : Int32))] τ6) (fun r7 τ7 => some (some (.int r7), τ7)))))) else jbi (jc 9 [(.ref 0), (.int (4 : Int32))] τ3) (fun r8 τ8 => some (some (.int r8), τ8))) else jbi (jc 9 [(.ref 0), (.int (1 : Int32))] τ3) (fun r9 τ9 => some (some (.int r9), τ9)))))) := by
  refine (sv_astore (ls1 := [some (.ref 0), some (.int x1), some (.int x2), some (.int x3), some (.int x4), some (.int x5), some (.ref 59), some (.ref 59)]) jM109 c109_35 rfl (Nat.lt_of_lt_of_eq (by decide +kernel : 7 < 8) rfl) rfl).trans ?_
  refine (sv_aload jM109 c109_37 rfl rfl).trans ?_
  refine (sv_callvi (pl := 0) jM109 c109_39 rfl (jm_call_v (a := 59) (as := []) (rest := []) lm_8_102 rfl jM8 rfl rfl rfl rfl rfl) jM8 rfl (Or.inr rfl)).trans ?_
  refine jbi_c (fun r1 τ1 => ?_)
  refine (sv_if_ne jM109 c109_42 rfl (t := 53) (by decide +kernel)).trans ?_
  refine jif _ ?_ ?_
  ·
    refine (sv_aload_n jM109 c109_53 rfl rfl).trans ?_
    refine (sv_iconst jM109 c109_54 rfl (v := 1) (by decide +kernel)).trans ?_
    refine (sv_callvi (pl := 0) jM109 c109_55 rfl (jm_call_v (a := 0) (as := [(.int (1 : Int32))]) (rest := []) lm_8_105 rfl jM9 rfl rfl rfl rfl rfl) jM9 rfl (Or.inl rfl)).trans ?_
    refine jbi_c (fun r2 τ2 => ?_)
    exact sv_iret jM109 c109_58 rfl rfl
  ·
    refine (sv_aload jM109 c109_45 rfl rfl).trans ?_
    refine (sv_callvi (pl := 0) jM109 c109_47 rfl (jm_call_v (a := 59) (as := []) (rest := []) lm_8_102 rfl jM8 rfl rfl rfl rfl rfl) jM8 rfl (Or.inr rfl)).trans ?_
    refine jbi_c (fun r3 τ3 => ?_)
    refine (sv_if_eq jM109 c109_50 rfl (t := 59) (by decide +kernel)).trans ?_
    refine jif _ ?_ ?_
    ·
      refine (sv_aload jM109 c109_59 rfl rfl).trans ?_
      refine (sv_getf jM109 c109_61 rfl lf_8_281 (fg_59_1 _)).trans ?_
      refine (sv_aload jM109 c109_64 rfl rfl).trans ?_
      refine (sv_getf jM109 c109_66 rfl lf_8_281 (fg_59_1 _)).trans ?_
      refine (sv_icmp_eq jM109 c109_69 rfl (t := 78) (by decide +kernel)).trans ?_
      refine jif _ ?_ ?_
      ·
        refine (sv_aload jM109 c109_78 rfl rfl).trans ?_
        refine (sv_iload_n jM109 c109_80 rfl rfl).trans ?_
        refine (sv_iload jM109 c109_81 rfl rfl).trans ?_
        refine (sv_callvi (pl := 0) jM109 c109_83 rfl (jm_call_v (a := 59) (as := [(.int x2), (.int x5)]) (rest := []) lm_8_290 rfl jM110 rfl rfl rfl rfl rfl) jM110 rfl (Or.inr rfl)).trans ?_
        refine jbi_c (fun r4 τ4 => ?_)
        refine (sv_if_eq jM109 c109_86 rfl (t := 101) (by decide +kernel)).trans ?_
        refine jif _ ?_ ?_
        ·
          refine (sv_aload_n jM109 c109_101 rfl rfl).trans ?_
          refine (sv_iconst jM109 c109_102 rfl (v := 2) (by decide +kernel)).trans ?_
          refine (sv_callvi (pl := 0) jM109 c109_103 rfl (jm_call_v (a := 0) (as := [(.int (2 : Int32))]) (rest := []) lm_8_105 rfl jM9 rfl rfl rfl rfl rfl) jM9 rfl (Or.inl rfl)).trans ?_
          refine jbi_c (fun r5 τ5 => ?_)
          exact sv_iret jM109 c109_106 rfl rfl
        ·
          refine (sv_aload jM109 c109_89 rfl rfl).trans ?_
          refine (sv_iload jM109 c109_91 rfl rfl).trans ?_
          refine (sv_iload jM109 c109_93 rfl rfl).trans ?_
          refine (sv_callvi (pl := 0) jM109 c109_95 rfl (jm_call_v (a := 59) (as := [(.int x4), (.int x5)]) (rest := []) lm_8_290 rfl jM110 rfl rfl rfl rfl rfl) jM110 rfl (Or.inr rfl)).trans ?_
          refine jbi_c (fun r6 τ6 => ?_)
          refine (sv_if_ne jM109 c109_98 rfl (t := 107) (by decide +kernel)).trans ?_
          refine jif _ ?_ ?_
          ·
            refine (sv_aload jM109 c109_107 rfl rfl).trans ?_
            refine (sv_getf jM109 c109_109 rfl lf_8_112 (fg_59_0 _)).trans ?_
            refine (sv_iload_n jM109 c109_112 rfl rfl).trans ?_
            refine (sv_aload jM109 c109_113 rfl rfl).trans ?_
            refine (sv_getf jM109 c109_115 rfl lf_8_112 (fg_59_0 _)).trans ?_
            refine (sv_iload jM109 c109_118 rfl rfl).trans ?_
            refine (sv_iload jM109 c109_120 rfl rfl).trans ?_
            refine (sv_cpy jM109 c109_122 rfl lm_8_293 (Nat.not_lt.mpr (Nat.le_of_ble_eq_true rfl)) wi_60 wi_60).trans ?_
            refine jif _ rfl ?_
            refine (sv_iconst jM109 c109_125 rfl (v := 1) (by decide +kernel)).trans ?_
            exact sv_iret jM109 c109_126 rfl rfl
          ·
            refine (sv_aload_n jM109 c109_101 rfl rfl).trans ?_
            refine (sv_iconst jM109 c109_102 rfl (v := 2) (by decide +kernel)).trans ?_
            refine (sv_callvi (pl := 0) jM109 c109_103 rfl (jm_call_v (a := 0) (as := [(.int (2 : Int32))]) (rest := []) lm_8_105 rfl jM9 rfl rfl rfl rfl rfl) jM9 rfl (Or.inl rfl)).trans ?_
            refine jbi_c (fun r7 τ7 => ?_)
            exact sv_iret jM109 c109_106 rfl rfl
      ·
        refine (sv_aload_n jM109 c109_72 rfl rfl).trans ?_
        refine (sv_iconst jM109 c109_73 rfl (v := 4) (by decide +kernel)).trans ?_
        refine (sv_callvi (pl := 0) jM109 c109_74 rfl (jm_call_v (a := 0) (as := [(.int (4 : Int32))]) (rest := []) lm_8_105 rfl jM9 rfl rfl rfl rfl rfl) jM9 rfl (Or.inl rfl)).trans ?_
        refine jbi_c (fun r8 τ8 => ?_)
        exact sv_iret jM109 c109_77 rfl rfl
    ·
      refine (sv_aload_n jM109 c109_53 rfl rfl).trans ?_
      refine (sv_iconst jM109 c109_54 rfl (v := 1) (by decide +kernel)).trans ?_
      refine (sv_callvi (pl := 0) jM109 c109_55 rfl (jm_call_v (a := 0) (as := [(.int (1 : Int32))]) (rest := []) lm_8_105 rfl jM9 rfl rfl rfl rfl rfl) jM9 rfl (Or.inl rfl)).trans ?_
      refine jbi_c (fun r9 τ9 => ?_)
      exact sv_iret jM109 c109_58 rfl rfl
set_option maxRecDepth 20000 in
set_option maxHeartbeats 4000000 in
theorem P_write_in (x1 : Int32) (x2 : Int32) (σ : jm_S) : jc 111 [(.ref 0), (.int x1), (.int x2)] σ = jbi (jc 1 [(.int x1), (.int (0 : Int32)), (.int (199 : Int32))] σ) (fun r1 τ1 => (if ¬ r1 = 0 then some (some (.int (-2 : Int32)), τ1) else jbi (jc 1 [(.int x2), (.int (0 : Int32)), (.int (3 : Int32))] τ1) (fun r2 τ2 => (if r2 = 0 then jaa x2 [53, 55, 57, 59] (fun q => jv 111 29 [some (.ref 0), some (.int x1), some (.int x2), none, none, none] [(.ref q)] τ2) else some (some (.int (-2 : Int32)), τ2))))) := by
  refine (jc_of (ls1 := [some (.ref 0), some (.int x1), some (.int x2), none, none, none]) ((jm_ini_of jM111).trans rfl)).trans ?_
  refine (sv_iload_n jM111 c111_0 rfl rfl).trans ?_
  refine (sv_iconst jM111 c111_1 rfl (v := 0) (by decide +kernel)).trans ?_
  refine (sv_sipush jM111 c111_2 rfl (v := 199) (by decide +kernel)).trans ?_
  refine (sv_callsi (pl := 0) jM111 c111_5 rfl (jm_call_s (as := [(.int x1), (.int (0 : Int32)), (.int (199 : Int32))]) (rest := []) lm_8_86 rfl jM1 rfl rfl rfl rfl) jM1 rfl (Or.inr rfl)).trans ?_
  refine jbi_c (fun r1 τ1 => ?_)
  refine (sv_if_ne jM111 c111_8 rfl (t := 20) (by decide +kernel)).trans ?_
  refine jif _ ?_ ?_
  ·
    refine (sv_bipush jM111 c111_20 rfl (v := -2) (by decide +kernel)).trans ?_
    exact sv_iret jM111 c111_22 rfl rfl
  ·
    refine (sv_iload_n jM111 c111_11 rfl rfl).trans ?_
    refine (sv_iconst jM111 c111_12 rfl (v := 0) (by decide +kernel)).trans ?_
    refine (sv_iconst jM111 c111_13 rfl (v := 3) (by decide +kernel)).trans ?_
    refine (sv_callsi (pl := 0) jM111 c111_14 rfl (jm_call_s (as := [(.int x2), (.int (0 : Int32)), (.int (3 : Int32))]) (rest := []) lm_8_86 rfl jM1 rfl rfl rfl rfl) jM1 rfl (Or.inr rfl)).trans ?_
    refine jbi_c (fun r2 τ2 => ?_)
    refine (sv_if_eq jM111 c111_17 rfl (t := 23) (by decide +kernel)).trans ?_
    refine jif _ ?_ ?_
    ·
      refine (sv_aload_n jM111 c111_23 rfl rfl).trans ?_
      refine (sv_getf jM111 c111_24 rfl lf_8_73 (fg_0_9 _)).trans ?_
      refine (sv_iload_n jM111 c111_27 rfl rfl).trans ?_
      refine (sv_aald jM111 c111_28 rfl wr_41).trans ?_
      rfl
    ·
      refine (sv_bipush jM111 c111_20 rfl (v := -2) (by decide +kernel)).trans ?_
      exact sv_iret jM111 c111_22 rfl rfl
set_option maxRecDepth 20000 in
set_option maxHeartbeats 4000000 in
theorem P_write_A29_53 (x1 : Int32) (x2 : Int32) (σ : jm_S) : jv 111 29 [some (.ref 0), some (.int x1), some (.int x2), none, none, none] [(.ref 53)] σ = jbi (jc 8 [(.ref 53)] σ) (fun r1 τ1 => (if r1 = 0 then jbv (jc 49 [(.ref 0), (.int (200 : Int32))] τ1) (fun τ2 => jv 111 67 [some (.ref 0), some (.int x1), some (.int x2), some (.ref 53), some (.int (if ((200 : Int32) - x1) < (τ2 53 2) then ((200 : Int32) - x1) else (τ2 53 2))), some (.int (0 : Int32))] [] τ2) else jbi (jc 9 [(.ref 0), (.int (1 : Int32))] τ1) (fun r3 τ3 => some (some (.int r3), τ3)))) := by
  refine (sv_astore_n (ls1 := [some (.ref 0), some (.int x1), some (.int x2), some (.ref 53), none, none]) jM111 c111_29 rfl (Nat.lt_of_lt_of_eq (by decide +kernel : 3 < 6) rfl) rfl).trans ?_
  refine (sv_aload_n jM111 c111_30 rfl rfl).trans ?_
  refine (sv_callvi (pl := 0) jM111 c111_31 rfl (jm_call_v (a := 53) (as := []) (rest := []) lm_8_102 rfl jM8 rfl rfl rfl rfl rfl) jM8 rfl (Or.inr rfl)).trans ?_
  refine jbi_c (fun r1 τ1 => ?_)
  refine (sv_if_eq jM111 c111_34 rfl (t := 43) (by decide +kernel)).trans ?_
  refine jif _ ?_ ?_
  ·
    refine (sv_aload_n jM111 c111_43 rfl rfl).trans ?_
    refine (sv_sipush jM111 c111_44 rfl (v := 200) (by decide +kernel)).trans ?_
    refine (sv_callvv (pl := 0) jM111 c111_47 rfl (jm_call_v (a := 0) (as := [(.int (200 : Int32))]) (rest := []) lm_8_171 rfl jM49 rfl rfl rfl rfl rfl) jM49 rfl rfl).trans ?_
    refine jbv_c (fun τ2 => ?_)
    refine (sv_aload_n jM111 c111_50 rfl rfl).trans ?_
    refine (sv_getf jM111 c111_51 rfl lf_8_109 (fg_53_2 _)).trans ?_
    refine (sv_sipush jM111 c111_54 rfl (v := 200) (by decide +kernel)).trans ?_
    refine (sv_iload_n jM111 c111_57 rfl rfl).trans ?_
    refine (sv_isub jM111 c111_58 rfl).trans ?_
    refine (sv_min jM111 c111_59 rfl lm_8_299 (Nat.not_lt.mpr (Nat.le_of_ble_eq_true rfl))).trans ?_
    refine (sv_istore (ls1 := [some (.ref 0), some (.int x1), some (.int x2), some (.ref 53), some (.int (if ((200 : Int32) - x1) < (τ2 53 2) then ((200 : Int32) - x1) else (τ2 53 2))), none]) jM111 c111_62 rfl (Nat.lt_of_lt_of_eq (by decide +kernel : 4 < 6) rfl) rfl).trans ?_
    refine (sv_iconst jM111 c111_64 rfl (v := 0) (by decide +kernel)).trans ?_
    refine (sv_istore (ls1 := [some (.ref 0), some (.int x1), some (.int x2), some (.ref 53), some (.int (if ((200 : Int32) - x1) < (τ2 53 2) then ((200 : Int32) - x1) else (τ2 53 2))), some (.int (0 : Int32))]) jM111 c111_65 rfl (Nat.lt_of_lt_of_eq (by decide +kernel : 5 < 6) rfl) rfl).trans ?_
    rfl
  ·
    refine (sv_aload_n jM111 c111_37 rfl rfl).trans ?_
    refine (sv_iconst jM111 c111_38 rfl (v := 1) (by decide +kernel)).trans ?_
    refine (sv_callvi (pl := 0) jM111 c111_39 rfl (jm_call_v (a := 0) (as := [(.int (1 : Int32))]) (rest := []) lm_8_105 rfl jM9 rfl rfl rfl rfl rfl) jM9 rfl (Or.inl rfl)).trans ?_
    refine jbi_c (fun r3 τ3 => ?_)
    exact sv_iret jM111 c111_42 rfl rfl
set_option maxRecDepth 20000 in
set_option maxHeartbeats 4000000 in
theorem P_write_A29_55 (x1 : Int32) (x2 : Int32) (σ : jm_S) : jv 111 29 [some (.ref 0), some (.int x1), some (.int x2), none, none, none] [(.ref 55)] σ = jbi (jc 8 [(.ref 55)] σ) (fun r1 τ1 => (if r1 = 0 then jbv (jc 49 [(.ref 0), (.int (200 : Int32))] τ1) (fun τ2 => jv 111 67 [some (.ref 0), some (.int x1), some (.int x2), some (.ref 55), some (.int (if ((200 : Int32) - x1) < (τ2 55 2) then ((200 : Int32) - x1) else (τ2 55 2))), some (.int (0 : Int32))] [] τ2) else jbi (jc 9 [(.ref 0), (.int (1 : Int32))] τ1) (fun r3 τ3 => some (some (.int r3), τ3)))) := by
  refine (sv_astore_n (ls1 := [some (.ref 0), some (.int x1), some (.int x2), some (.ref 55), none, none]) jM111 c111_29 rfl (Nat.lt_of_lt_of_eq (by decide +kernel : 3 < 6) rfl) rfl).trans ?_
  refine (sv_aload_n jM111 c111_30 rfl rfl).trans ?_
  refine (sv_callvi (pl := 0) jM111 c111_31 rfl (jm_call_v (a := 55) (as := []) (rest := []) lm_8_102 rfl jM8 rfl rfl rfl rfl rfl) jM8 rfl (Or.inr rfl)).trans ?_
  refine jbi_c (fun r1 τ1 => ?_)
  refine (sv_if_eq jM111 c111_34 rfl (t := 43) (by decide +kernel)).trans ?_
  refine jif _ ?_ ?_
  ·
    refine (sv_aload_n jM111 c111_43 rfl rfl).trans ?_
    refine (sv_sipush jM111 c111_44 rfl (v := 200) (by decide +kernel)).trans ?_
    refine (sv_callvv (pl := 0) jM111 c111_47 rfl (jm_call_v (a := 0) (as := [(.int (200 : Int32))]) (rest := []) lm_8_171 rfl jM49 rfl rfl rfl rfl rfl) jM49 rfl rfl).trans ?_
    refine jbv_c (fun τ2 => ?_)
    refine (sv_aload_n jM111 c111_50 rfl rfl).trans ?_
    refine (sv_getf jM111 c111_51 rfl lf_8_109 (fg_55_2 _)).trans ?_
    refine (sv_sipush jM111 c111_54 rfl (v := 200) (by decide +kernel)).trans ?_
    refine (sv_iload_n jM111 c111_57 rfl rfl).trans ?_
    refine (sv_isub jM111 c111_58 rfl).trans ?_
    refine (sv_min jM111 c111_59 rfl lm_8_299 (Nat.not_lt.mpr (Nat.le_of_ble_eq_true rfl))).trans ?_
    refine (sv_istore (ls1 := [some (.ref 0), some (.int x1), some (.int x2), some (.ref 55), some (.int (if ((200 : Int32) - x1) < (τ2 55 2) then ((200 : Int32) - x1) else (τ2 55 2))), none]) jM111 c111_62 rfl (Nat.lt_of_lt_of_eq (by decide +kernel : 4 < 6) rfl) rfl).trans ?_
    refine (sv_iconst jM111 c111_64 rfl (v := 0) (by decide +kernel)).trans ?_
    refine (sv_istore (ls1 := [some (.ref 0), some (.int x1), some (.int x2), some (.ref 55), some (.int (if ((200 : Int32) - x1) < (τ2 55 2) then ((200 : Int32) - x1) else (τ2 55 2))), some (.int (0 : Int32))]) jM111 c111_65 rfl (Nat.lt_of_lt_of_eq (by decide +kernel : 5 < 6) rfl) rfl).trans ?_
    rfl
  ·
    refine (sv_aload_n jM111 c111_37 rfl rfl).trans ?_
    refine (sv_iconst jM111 c111_38 rfl (v := 1) (by decide +kernel)).trans ?_
    refine (sv_callvi (pl := 0) jM111 c111_39 rfl (jm_call_v (a := 0) (as := [(.int (1 : Int32))]) (rest := []) lm_8_105 rfl jM9 rfl rfl rfl rfl rfl) jM9 rfl (Or.inl rfl)).trans ?_
    refine jbi_c (fun r3 τ3 => ?_)
    exact sv_iret jM111 c111_42 rfl rfl
set_option maxRecDepth 20000 in
set_option maxHeartbeats 4000000 in
theorem P_write_A29_57 (x1 : Int32) (x2 : Int32) (σ : jm_S) : jv 111 29 [some (.ref 0), some (.int x1), some (.int x2), none, none, none] [(.ref 57)] σ = jbi (jc 8 [(.ref 57)] σ) (fun r1 τ1 => (if r1 = 0 then jbv (jc 49 [(.ref 0), (.int (200 : Int32))] τ1) (fun τ2 => jv 111 67 [some (.ref 0), some (.int x1), some (.int x2), some (.ref 57), some (.int (if ((200 : Int32) - x1) < (τ2 57 2) then ((200 : Int32) - x1) else (τ2 57 2))), some (.int (0 : Int32))] [] τ2) else jbi (jc 9 [(.ref 0), (.int (1 : Int32))] τ1) (fun r3 τ3 => some (some (.int r3), τ3)))) := by
  refine (sv_astore_n (ls1 := [some (.ref 0), some (.int x1), some (.int x2), some (.ref 57), none, none]) jM111 c111_29 rfl (Nat.lt_of_lt_of_eq (by decide +kernel : 3 < 6) rfl) rfl).trans ?_
  refine (sv_aload_n jM111 c111_30 rfl rfl).trans ?_
  refine (sv_callvi (pl := 0) jM111 c111_31 rfl (jm_call_v (a := 57) (as := []) (rest := []) lm_8_102 rfl jM8 rfl rfl rfl rfl rfl) jM8 rfl (Or.inr rfl)).trans ?_
  refine jbi_c (fun r1 τ1 => ?_)
  refine (sv_if_eq jM111 c111_34 rfl (t := 43) (by decide +kernel)).trans ?_
  refine jif _ ?_ ?_
  ·
    refine (sv_aload_n jM111 c111_43 rfl rfl).trans ?_
    refine (sv_sipush jM111 c111_44 rfl (v := 200) (by decide +kernel)).trans ?_
    refine (sv_callvv (pl := 0) jM111 c111_47 rfl (jm_call_v (a := 0) (as := [(.int (200 : Int32))]) (rest := []) lm_8_171 rfl jM49 rfl rfl rfl rfl rfl) jM49 rfl rfl).trans ?_
    refine jbv_c (fun τ2 => ?_)
    refine (sv_aload_n jM111 c111_50 rfl rfl).trans ?_
    refine (sv_getf jM111 c111_51 rfl lf_8_109 (fg_57_2 _)).trans ?_
    refine (sv_sipush jM111 c111_54 rfl (v := 200) (by decide +kernel)).trans ?_
    refine (sv_iload_n jM111 c111_57 rfl rfl).trans ?_
    refine (sv_isub jM111 c111_58 rfl).trans ?_
    refine (sv_min jM111 c111_59 rfl lm_8_299 (Nat.not_lt.mpr (Nat.le_of_ble_eq_true rfl))).trans ?_
    refine (sv_istore (ls1 := [some (.ref 0), some (.int x1), some (.int x2), some (.ref 57), some (.int (if ((200 : Int32) - x1) < (τ2 57 2) then ((200 : Int32) - x1) else (τ2 57 2))), none]) jM111 c111_62 rfl (Nat.lt_of_lt_of_eq (by decide +kernel : 4 < 6) rfl) rfl).trans ?_
    refine (sv_iconst jM111 c111_64 rfl (v := 0) (by decide +kernel)).trans ?_
    refine (sv_istore (ls1 := [some (.ref 0), some (.int x1), some (.int x2), some (.ref 57), some (.int (if ((200 : Int32) - x1) < (τ2 57 2) then ((200 : Int32) - x1) else (τ2 57 2))), some (.int (0 : Int32))]) jM111 c111_65 rfl (Nat.lt_of_lt_of_eq (by decide +kernel : 5 < 6) rfl) rfl).trans ?_
    rfl
  ·
    refine (sv_aload_n jM111 c111_37 rfl rfl).trans ?_
    refine (sv_iconst jM111 c111_38 rfl (v := 1) (by decide +kernel)).trans ?_
    refine (sv_callvi (pl := 0) jM111 c111_39 rfl (jm_call_v (a := 0) (as := [(.int (1 : Int32))]) (rest := []) lm_8_105 rfl jM9 rfl rfl rfl rfl rfl) jM9 rfl (Or.inl rfl)).trans ?_
    refine jbi_c (fun r3 τ3 => ?_)
    exact sv_iret jM111 c111_42 rfl rfl
set_option maxRecDepth 20000 in
set_option maxHeartbeats 4000000 in
theorem P_write_A29_59 (x1 : Int32) (x2 : Int32) (σ : jm_S) : jv 111 29 [some (.ref 0), some (.int x1), some (.int x2), none, none, none] [(.ref 59)] σ = jbi (jc 8 [(.ref 59)] σ) (fun r1 τ1 => (if r1 = 0 then jbv (jc 49 [(.ref 0), (.int (200 : Int32))] τ1) (fun τ2 => jv 111 67 [some (.ref 0), some (.int x1), some (.int x2), some (.ref 59), some (.int (if ((200 : Int32) - x1) < (τ2 59 2) then ((200 : Int32) - x1) else (τ2 59 2))), some (.int (0 : Int32))] [] τ2) else jbi (jc 9 [(.ref 0), (.int (1 : Int32))] τ1) (fun r3 τ3 => some (some (.int r3), τ3)))) := by
  refine (sv_astore_n (ls1 := [some (.ref 0), some (.int x1), some (.int x2), some (.ref 59), none, none]) jM111 c111_29 rfl (Nat.lt_of_lt_of_eq (by decide +kernel : 3 < 6) rfl) rfl).trans ?_
  refine (sv_aload_n jM111 c111_30 rfl rfl).trans ?_
  refine (sv_callvi (pl := 0) jM111 c111_31 rfl (jm_call_v (a := 59) (as := []) (rest := []) lm_8_102 rfl jM8 rfl rfl rfl rfl rfl) jM8 rfl (Or.inr rfl)).trans ?_
  refine jbi_c (fun r1 τ1 => ?_)
  refine (sv_if_eq jM111 c111_34 rfl (t := 43) (by decide +kernel)).trans ?_
  refine jif _ ?_ ?_
  ·
    refine (sv_aload_n jM111 c111_43 rfl rfl).trans ?_
    refine (sv_sipush jM111 c111_44 rfl (v := 200) (by decide +kernel)).trans ?_
    refine (sv_callvv (pl := 0) jM111 c111_47 rfl (jm_call_v (a := 0) (as := [(.int (200 : Int32))]) (rest := []) lm_8_171 rfl jM49 rfl rfl rfl rfl rfl) jM49 rfl rfl).trans ?_
    refine jbv_c (fun τ2 => ?_)
    refine (sv_aload_n jM111 c111_50 rfl rfl).trans ?_
    refine (sv_getf jM111 c111_51 rfl lf_8_109 (fg_59_2 _)).trans ?_
    refine (sv_sipush jM111 c111_54 rfl (v := 200) (by decide +kernel)).trans ?_
    refine (sv_iload_n jM111 c111_57 rfl rfl).trans ?_
    refine (sv_isub jM111 c111_58 rfl).trans ?_
    refine (sv_min jM111 c111_59 rfl lm_8_299 (Nat.not_lt.mpr (Nat.le_of_ble_eq_true rfl))).trans ?_
    refine (sv_istore (ls1 := [some (.ref 0), some (.int x1), some (.int x2), some (.ref 59), some (.int (if ((200 : Int32) - x1) < (τ2 59 2) then ((200 : Int32) - x1) else (τ2 59 2))), none]) jM111 c111_62 rfl (Nat.lt_of_lt_of_eq (by decide +kernel : 4 < 6) rfl) rfl).trans ?_
    refine (sv_iconst jM111 c111_64 rfl (v := 0) (by decide +kernel)).trans ?_
    refine (sv_istore (ls1 := [some (.ref 0), some (.int x1), some (.int x2), some (.ref 59), some (.int (if ((200 : Int32) - x1) < (τ2 59 2) then ((200 : Int32) - x1) else (τ2 59 2))), some (.int (0 : Int32))]) jM111 c111_65 rfl (Nat.lt_of_lt_of_eq (by decide +kernel : 5 < 6) rfl) rfl).trans ?_
    rfl
  ·
    refine (sv_aload_n jM111 c111_37 rfl rfl).trans ?_
    refine (sv_iconst jM111 c111_38 rfl (v := 1) (by decide +kernel)).trans ?_
    refine (sv_callvi (pl := 0) jM111 c111_39 rfl (jm_call_v (a := 0) (as := [(.int (1 : Int32))]) (rest := []) lm_8_105 rfl jM9 rfl rfl rfl rfl rfl) jM9 rfl (Or.inl rfl)).trans ?_
    refine jbi_c (fun r3 τ3 => ?_)
    exact sv_iret jM111 c111_42 rfl rfl
set_option maxRecDepth 20000 in
set_option maxHeartbeats 4000000 in
theorem P_write_L67 (x1 : Int32) (x2 : Int32) (x4 : Int32) (x5 : Int32) (σ : jm_S) : jv 111 67 [some (.ref 0), some (.int x1), some (.int x2), some (.ref 53), some (.int x4), some (.int x5)] [] σ = (if x4 ≤ x5 then some (some (.int x4), σ) else jbi (jc 53 [(.ref 11), (.int (x1 + x5))] σ) (fun r1 τ1 => jbv (jc 107 [(.ref 53), (.int x5), (.int r1)] τ1) (fun τ2 => jv 111 67 [some (.ref 0), some (.int x1), some (.int x2), some (.ref 53), some (.int x4), some (.int (x5 + 1))] [] τ2))) := by
  refine (sv_iload jM111 c111_67 rfl rfl).trans ?_
  refine (sv_iload jM111 c111_69 rfl rfl).trans ?_
  refine (sv_icmp_ge jM111 c111_71 rfl (t := 97) (by decide +kernel)).trans ?_
  refine jif _ ?_ ?_
  ·
    refine (sv_iload jM111 c111_97 rfl rfl).trans ?_
    exact sv_iret jM111 c111_99 rfl rfl
  ·
    refine (sv_aload_n jM111 c111_74 rfl rfl).trans ?_
    refine (sv_iload jM111 c111_75 rfl rfl).trans ?_
    refine (sv_aload_n jM111 c111_77 rfl rfl).trans ?_
    refine (sv_getf jM111 c111_78 rfl lf_8_50 (fg_0_5 _)).trans ?_
    refine (sv_iload_n jM111 c111_81 rfl rfl).trans ?_
    refine (sv_iload jM111 c111_82 rfl rfl).trans ?_
    refine (sv_iadd jM111 c111_84 rfl).trans ?_
    refine (sv_callvi (pl := 0) jM111 c111_85 rfl (jm_call_v (a := 11) (as := [(.int (x1 + x5))]) (rest := [(.int x5), (.ref 53)]) lm_8_177 rfl jM53 rfl rfl rfl rfl rfl) jM53 rfl (Or.inl rfl)).trans ?_
    refine jbi_c (fun r1 τ1 => ?_)
    refine (sv_callvv (pl := 0) jM111 c111_88 rfl (jm_call_v (a := 53) (as := [(.int x5), (.int r1)]) (rest := []) lm_8_287 rfl jM107 rfl rfl rfl rfl rfl) jM107 rfl rfl).trans ?_
    refine jbv_c (fun τ2 => ?_)
    refine (sv_iinc (ls1 := [some (.ref 0), some (.int x1), some (.int x2), some (.ref 53), some (.int x4), some (.int (x5 + 1))]) jM111 c111_91 rfl rfl (v := 1) (by decide +kernel) rfl).trans ?_
    refine (sv_goto jM111 c111_94 rfl (t := 67) (by decide +kernel)).trans ?_
    rfl
set_option maxRecDepth 20000 in
set_option maxHeartbeats 4000000 in
theorem P_write_L67_v2 (x1 : Int32) (x2 : Int32) (x4 : Int32) (x5 : Int32) (σ : jm_S) : jv 111 67 [some (.ref 0), some (.int x1), some (.int x2), some (.ref 55), some (.int x4), some (.int x5)] [] σ = (if x4 ≤ x5 then some (some (.int x4), σ) else jbi (jc 53 [(.ref 11), (.int (x1 + x5))] σ) (fun r1 τ1 => jbv (jc 107 [(.ref 55), (.int x5), (.int r1)] τ1) (fun τ2 => jv 111 67 [some (.ref 0), some (.int x1), some (.int x2), some (.ref 55), some (.int x4), some (.int (x5 + 1))] [] τ2))) := by
  refine (sv_iload jM111 c111_67 rfl rfl).trans ?_
  refine (sv_iload jM111 c111_69 rfl rfl).trans ?_
  refine (sv_icmp_ge jM111 c111_71 rfl (t := 97) (by decide +kernel)).trans ?_
  refine jif _ ?_ ?_
  ·
    refine (sv_iload jM111 c111_97 rfl rfl).trans ?_
    exact sv_iret jM111 c111_99 rfl rfl
  ·
    refine (sv_aload_n jM111 c111_74 rfl rfl).trans ?_
    refine (sv_iload jM111 c111_75 rfl rfl).trans ?_
    refine (sv_aload_n jM111 c111_77 rfl rfl).trans ?_
    refine (sv_getf jM111 c111_78 rfl lf_8_50 (fg_0_5 _)).trans ?_
    refine (sv_iload_n jM111 c111_81 rfl rfl).trans ?_
    refine (sv_iload jM111 c111_82 rfl rfl).trans ?_
    refine (sv_iadd jM111 c111_84 rfl).trans ?_
    refine (sv_callvi (pl := 0) jM111 c111_85 rfl (jm_call_v (a := 11) (as := [(.int (x1 + x5))]) (rest := [(.int x5), (.ref 55)]) lm_8_177 rfl jM53 rfl rfl rfl rfl rfl) jM53 rfl (Or.inl rfl)).trans ?_
    refine jbi_c (fun r1 τ1 => ?_)
    refine (sv_callvv (pl := 0) jM111 c111_88 rfl (jm_call_v (a := 55) (as := [(.int x5), (.int r1)]) (rest := []) lm_8_287 rfl jM107 rfl rfl rfl rfl rfl) jM107 rfl rfl).trans ?_
    refine jbv_c (fun τ2 => ?_)
    refine (sv_iinc (ls1 := [some (.ref 0), some (.int x1), some (.int x2), some (.ref 55), some (.int x4), some (.int (x5 + 1))]) jM111 c111_91 rfl rfl (v := 1) (by decide +kernel) rfl).trans ?_
    refine (sv_goto jM111 c111_94 rfl (t := 67) (by decide +kernel)).trans ?_
    rfl
set_option maxRecDepth 20000 in
set_option maxHeartbeats 4000000 in
theorem P_write_L67_v3 (x1 : Int32) (x2 : Int32) (x4 : Int32) (x5 : Int32) (σ : jm_S) : jv 111 67 [some (.ref 0), some (.int x1), some (.int x2), some (.ref 57), some (.int x4), some (.int x5)] [] σ = (if x4 ≤ x5 then some (some (.int x4), σ) else jbi (jc 53 [(.ref 11), (.int (x1 + x5))] σ) (fun r1 τ1 => jbv (jc 107 [(.ref 57), (.int x5), (.int r1)] τ1) (fun τ2 => jv 111 67 [some (.ref 0), some (.int x1), some (.int x2), some (.ref 57), some (.int x4), some (.int (x5 + 1))] [] τ2))) := by
  refine (sv_iload jM111 c111_67 rfl rfl).trans ?_
  refine (sv_iload jM111 c111_69 rfl rfl).trans ?_
  refine (sv_icmp_ge jM111 c111_71 rfl (t := 97) (by decide +kernel)).trans ?_
  refine jif _ ?_ ?_
  ·
    refine (sv_iload jM111 c111_97 rfl rfl).trans ?_
    exact sv_iret jM111 c111_99 rfl rfl
  ·
    refine (sv_aload_n jM111 c111_74 rfl rfl).trans ?_
    refine (sv_iload jM111 c111_75 rfl rfl).trans ?_
    refine (sv_aload_n jM111 c111_77 rfl rfl).trans ?_
    refine (sv_getf jM111 c111_78 rfl lf_8_50 (fg_0_5 _)).trans ?_
    refine (sv_iload_n jM111 c111_81 rfl rfl).trans ?_
    refine (sv_iload jM111 c111_82 rfl rfl).trans ?_
    refine (sv_iadd jM111 c111_84 rfl).trans ?_
    refine (sv_callvi (pl := 0) jM111 c111_85 rfl (jm_call_v (a := 11) (as := [(.int (x1 + x5))]) (rest := [(.int x5), (.ref 57)]) lm_8_177 rfl jM53 rfl rfl rfl rfl rfl) jM53 rfl (Or.inl rfl)).trans ?_
    refine jbi_c (fun r1 τ1 => ?_)
    refine (sv_callvv (pl := 0) jM111 c111_88 rfl (jm_call_v (a := 57) (as := [(.int x5), (.int r1)]) (rest := []) lm_8_287 rfl jM107 rfl rfl rfl rfl rfl) jM107 rfl rfl).trans ?_
    refine jbv_c (fun τ2 => ?_)
    refine (sv_iinc (ls1 := [some (.ref 0), some (.int x1), some (.int x2), some (.ref 57), some (.int x4), some (.int (x5 + 1))]) jM111 c111_91 rfl rfl (v := 1) (by decide +kernel) rfl).trans ?_
    refine (sv_goto jM111 c111_94 rfl (t := 67) (by decide +kernel)).trans ?_
    rfl
set_option maxRecDepth 20000 in
set_option maxHeartbeats 4000000 in
theorem P_write_L67_v4 (x1 : Int32) (x2 : Int32) (x4 : Int32) (x5 : Int32) (σ : jm_S) : jv 111 67 [some (.ref 0), some (.int x1), some (.int x2), some (.ref 59), some (.int x4), some (.int x5)] [] σ = (if x4 ≤ x5 then some (some (.int x4), σ) else jbi (jc 53 [(.ref 11), (.int (x1 + x5))] σ) (fun r1 τ1 => jbv (jc 107 [(.ref 59), (.int x5), (.int r1)] τ1) (fun τ2 => jv 111 67 [some (.ref 0), some (.int x1), some (.int x2), some (.ref 59), some (.int x4), some (.int (x5 + 1))] [] τ2))) := by
  refine (sv_iload jM111 c111_67 rfl rfl).trans ?_
  refine (sv_iload jM111 c111_69 rfl rfl).trans ?_
  refine (sv_icmp_ge jM111 c111_71 rfl (t := 97) (by decide +kernel)).trans ?_
  refine jif _ ?_ ?_
  ·
    refine (sv_iload jM111 c111_97 rfl rfl).trans ?_
    exact sv_iret jM111 c111_99 rfl rfl
  ·
    refine (sv_aload_n jM111 c111_74 rfl rfl).trans ?_
    refine (sv_iload jM111 c111_75 rfl rfl).trans ?_
    refine (sv_aload_n jM111 c111_77 rfl rfl).trans ?_
    refine (sv_getf jM111 c111_78 rfl lf_8_50 (fg_0_5 _)).trans ?_
    refine (sv_iload_n jM111 c111_81 rfl rfl).trans ?_
    refine (sv_iload jM111 c111_82 rfl rfl).trans ?_
    refine (sv_iadd jM111 c111_84 rfl).trans ?_
    refine (sv_callvi (pl := 0) jM111 c111_85 rfl (jm_call_v (a := 11) (as := [(.int (x1 + x5))]) (rest := [(.int x5), (.ref 59)]) lm_8_177 rfl jM53 rfl rfl rfl rfl rfl) jM53 rfl (Or.inl rfl)).trans ?_
    refine jbi_c (fun r1 τ1 => ?_)
    refine (sv_callvv (pl := 0) jM111 c111_88 rfl (jm_call_v (a := 59) (as := [(.int x5), (.int r1)]) (rest := []) lm_8_287 rfl jM107 rfl rfl rfl rfl rfl) jM107 rfl rfl).trans ?_
    refine jbv_c (fun τ2 => ?_)
    refine (sv_iinc (ls1 := [some (.ref 0), some (.int x1), some (.int x2), some (.ref 59), some (.int x4), some (.int (x5 + 1))]) jM111 c111_91 rfl rfl (v := 1) (by decide +kernel) rfl).trans ?_
    refine (sv_goto jM111 c111_94 rfl (t := 67) (by decide +kernel)).trans ?_
    rfl
set_option maxRecDepth 20000 in
set_option maxHeartbeats 4000000 in
theorem P_count_in (x1 : Int32) (σ : jm_S) : jc 112 [(.ref 0), (.int x1)] σ = jbi (jc 1 [(.int x1), (.int (0 : Int32)), (.int (8 : Int32))] σ) (fun r1 τ1 => (if r1 = 0 then jv 112 14 [some (.ref 0), some (.int x1)] [(.int x1)] τ1 else some (some (.int (-2 : Int32)), τ1))) := by
  refine (jc_of (ls1 := [some (.ref 0), some (.int x1)]) ((jm_ini_of jM112).trans rfl)).trans ?_
  refine (sv_iload_n jM112 c112_0 rfl rfl).trans ?_
  refine (sv_iconst jM112 c112_1 rfl (v := 0) (by decide +kernel)).trans ?_
  refine (sv_bipush jM112 c112_2 rfl (v := 8) (by decide +kernel)).trans ?_
  refine (sv_callsi (pl := 0) jM112 c112_4 rfl (jm_call_s (as := [(.int x1), (.int (0 : Int32)), (.int (8 : Int32))]) (rest := []) lm_8_86 rfl jM1 rfl rfl rfl rfl) jM1 rfl (Or.inr rfl)).trans ?_
  refine jbi_c (fun r1 τ1 => ?_)
  refine (sv_if_eq jM112 c112_7 rfl (t := 13) (by decide +kernel)).trans ?_
  refine jif _ ?_ ?_
  ·
    refine (sv_iload_n jM112 c112_13 rfl rfl).trans ?_
    rfl
  ·
    refine (sv_bipush jM112 c112_10 rfl (v := -2) (by decide +kernel)).trans ?_
    exact sv_iret jM112 c112_12 rfl rfl
set_option maxRecDepth 20000 in
set_option maxHeartbeats 4000000 in
theorem P_count_S14_0 (x1 : Int32) (σ : jm_S) : jv 112 14 [some (.ref 0), some (.int x1)] [(.int (0 : Int32))] σ = some (some (.int (σ 1 2)), σ) := by
  refine (sv_ts jM112 c112_14 rfl (by decide +kernel) (z := 50) (by decide +kernel) (t := 64) (by decide +kernel)).trans ?_
  refine (sv_aload_n jM112 c112_64 rfl rfl).trans ?_
  refine (sv_getf jM112 c112_65 rfl lf_8_10 (fg_0_0 _)).trans ?_
  refine (sv_getf jM112 c112_68 rfl lf_8_131 (fg_1_2 _)).trans ?_
  exact sv_iret jM112 c112_71 rfl rfl
set_option maxRecDepth 20000 in
set_option maxHeartbeats 4000000 in
theorem P_count_S14_1 (x1 : Int32) (σ : jm_S) : jv 112 14 [some (.ref 0), some (.int x1)] [(.int (1 : Int32))] σ = jaa (x1 - (1 : Int32)) [42, 44, 47, 50] (fun q => jv 112 109 [some (.ref 0), some (.int x1)] [(.ref q)] σ) := by
  refine (sv_ts jM112 c112_14 rfl (by decide +kernel) (z := 87) (by decide +kernel) (t := 101) (by decide +kernel)).trans ?_
  refine (sv_aload_n jM112 c112_101 rfl rfl).trans ?_
  refine (sv_getf jM112 c112_102 rfl lf_8_30 (fg_0_2 _)).trans ?_
  refine (sv_iload_n jM112 c112_105 rfl rfl).trans ?_
  refine (sv_iconst jM112 c112_106 rfl (v := 1) (by decide +kernel)).trans ?_
  refine (sv_isub jM112 c112_107 rfl).trans ?_
  refine (sv_aald jM112 c112_108 rfl wr_5).trans ?_
  rfl
set_option maxRecDepth 20000 in
set_option maxHeartbeats 4000000 in
theorem P_count_S14_2 (x1 : Int32) (σ : jm_S) : jv 112 14 [some (.ref 0), some (.int x1)] [(.int (2 : Int32))] σ = jaa (x1 - (1 : Int32)) [42, 44, 47, 50] (fun q => jv 112 109 [some (.ref 0), some (.int x1)] [(.ref q)] σ) := by
  refine (sv_ts jM112 c112_14 rfl (by decide +kernel) (z := 87) (by decide +kernel) (t := 101) (by decide +kernel)).trans ?_
  refine (sv_aload_n jM112 c112_101 rfl rfl).trans ?_
  refine (sv_getf jM112 c112_102 rfl lf_8_30 (fg_0_2 _)).trans ?_
  refine (sv_iload_n jM112 c112_105 rfl rfl).trans ?_
  refine (sv_iconst jM112 c112_106 rfl (v := 1) (by decide +kernel)).trans ?_
  refine (sv_isub jM112 c112_107 rfl).trans ?_
  refine (sv_aald jM112 c112_108 rfl wr_5).trans ?_
  rfl
set_option maxRecDepth 20000 in
set_option maxHeartbeats 4000000 in
theorem P_count_S14_3 (x1 : Int32) (σ : jm_S) : jv 112 14 [some (.ref 0), some (.int x1)] [(.int (3 : Int32))] σ = jaa (x1 - (1 : Int32)) [42, 44, 47, 50] (fun q => jv 112 109 [some (.ref 0), some (.int x1)] [(.ref q)] σ) := by
  refine (sv_ts jM112 c112_14 rfl (by decide +kernel) (z := 87) (by decide +kernel) (t := 101) (by decide +kernel)).trans ?_
  refine (sv_aload_n jM112 c112_101 rfl rfl).trans ?_
  refine (sv_getf jM112 c112_102 rfl lf_8_30 (fg_0_2 _)).trans ?_
  refine (sv_iload_n jM112 c112_105 rfl rfl).trans ?_
  refine (sv_iconst jM112 c112_106 rfl (v := 1) (by decide +kernel)).trans ?_
  refine (sv_isub jM112 c112_107 rfl).trans ?_
  refine (sv_aald jM112 c112_108 rfl wr_5).trans ?_
  rfl
set_option maxRecDepth 20000 in
set_option maxHeartbeats 4000000 in
theorem P_count_S14_4 (x1 : Int32) (σ : jm_S) : jv 112 14 [some (.ref 0), some (.int x1)] [(.int (4 : Int32))] σ = jaa (x1 - (1 : Int32)) [42, 44, 47, 50] (fun q => jv 112 109 [some (.ref 0), some (.int x1)] [(.ref q)] σ) := by
  refine (sv_ts jM112 c112_14 rfl (by decide +kernel) (z := 87) (by decide +kernel) (t := 101) (by decide +kernel)).trans ?_
  refine (sv_aload_n jM112 c112_101 rfl rfl).trans ?_
  refine (sv_getf jM112 c112_102 rfl lf_8_30 (fg_0_2 _)).trans ?_
  refine (sv_iload_n jM112 c112_105 rfl rfl).trans ?_
  refine (sv_iconst jM112 c112_106 rfl (v := 1) (by decide +kernel)).trans ?_
  refine (sv_isub jM112 c112_107 rfl).trans ?_
  refine (sv_aald jM112 c112_108 rfl wr_5).trans ?_
  rfl
set_option maxRecDepth 20000 in
set_option maxHeartbeats 4000000 in
theorem P_count_S14_5 (x1 : Int32) (σ : jm_S) : jv 112 14 [some (.ref 0), some (.int x1)] [(.int (5 : Int32))] σ = some (some (.int (σ 6 3)), σ) := by
  refine (sv_ts jM112 c112_14 rfl (by decide +kernel) (z := 58) (by decide +kernel) (t := 72) (by decide +kernel)).trans ?_
  refine (sv_aload_n jM112 c112_72 rfl rfl).trans ?_
  refine (sv_getf jM112 c112_73 rfl lf_8_37 (fg_0_3 _)).trans ?_
  refine (sv_getf jM112 c112_76 rfl lf_8_302 (fg_6_3 _)).trans ?_
  exact sv_iret jM112 c112_79 rfl rfl
set_option maxRecDepth 20000 in
set_option maxHeartbeats 4000000 in
theorem P_count_S14_6 (x1 : Int32) (σ : jm_S) : jv 112 14 [some (.ref 0), some (.int x1)] [(.int (6 : Int32))] σ = some (some (.int (σ 38 2)), σ) := by
  refine (sv_ts jM112 c112_14 rfl (by decide +kernel) (z := 66) (by decide +kernel) (t := 80) (by decide +kernel)).trans ?_
  refine (sv_aload_n jM112 c112_80 rfl rfl).trans ?_
  refine (sv_getf jM112 c112_81 rfl lf_8_67 (fg_0_8 _)).trans ?_
  refine (sv_getf jM112 c112_84 rfl lf_8_134 (fg_38_2 _)).trans ?_
  exact sv_iret jM112 c112_87 rfl rfl
set_option maxRecDepth 20000 in
set_option maxHeartbeats 4000000 in
theorem P_count_S14_7 (x1 : Int32) (σ : jm_S) : jv 112 14 [some (.ref 0), some (.int x1)] [(.int (7 : Int32))] σ = jbi (jc 113 [(.ref 1)] σ) (fun r1 τ1 => some (some (.int r1), τ1)) := by
  refine (sv_ts jM112 c112_14 rfl (by decide +kernel) (z := 74) (by decide +kernel) (t := 88) (by decide +kernel)).trans ?_
  refine (sv_aload_n jM112 c112_88 rfl rfl).trans ?_
  refine (sv_getf jM112 c112_89 rfl lf_8_10 (fg_0_0 _)).trans ?_
  refine (sv_callvi (pl := 0) jM112 c112_92 rfl (jm_call_v (a := 1) (as := []) (rest := []) lm_8_305 rfl jM113 rfl rfl rfl rfl rfl) jM113 rfl (Or.inl rfl)).trans ?_
  refine jbi_c (fun r1 τ1 => ?_)
  exact sv_iret jM112 c112_95 rfl rfl
set_option maxRecDepth 20000 in
set_option maxHeartbeats 4000000 in
theorem P_count_S14_8 (x1 : Int32) (σ : jm_S) : jv 112 14 [some (.ref 0), some (.int x1)] [(.int (8 : Int32))] σ = some (some (.int (σ 0 10)), σ) := by
  refine (sv_ts jM112 c112_14 rfl (by decide +kernel) (z := 82) (by decide +kernel) (t := 96) (by decide +kernel)).trans ?_
  refine (sv_aload_n jM112 c112_96 rfl rfl).trans ?_
  refine (sv_getf jM112 c112_97 rfl lf_8_77 (fg_0_10 _)).trans ?_
  exact sv_iret jM112 c112_100 rfl rfl
set_option maxRecDepth 20000 in
set_option maxHeartbeats 4000000 in
theorem P_count_S14_o (x1 : Int32) (y0 : Int32) (σ : jm_S) (hx : y0.toInt < 0 ∨ 8 < y0.toInt) : jv 112 14 [some (.ref 0), some (.int x1)] [(.int y0)] σ = jaa (x1 - (1 : Int32)) [42, 44, 47, 50] (fun q => jv 112 109 [some (.ref 0), some (.int x1)] [(.ref q)] σ) := by
  refine (sv_tso jM112 c112_14 rfl (t := 101) (by decide +kernel) hx).trans ?_
  refine (sv_aload_n jM112 c112_101 rfl rfl).trans ?_
  refine (sv_getf jM112 c112_102 rfl lf_8_30 (fg_0_2 _)).trans ?_
  refine (sv_iload_n jM112 c112_105 rfl rfl).trans ?_
  refine (sv_iconst jM112 c112_106 rfl (v := 1) (by decide +kernel)).trans ?_
  refine (sv_isub jM112 c112_107 rfl).trans ?_
  refine (sv_aald jM112 c112_108 rfl wr_5).trans ?_
  rfl
set_option maxRecDepth 20000 in
set_option maxHeartbeats 4000000 in
theorem P_count_A109_42 (x1 : Int32) (σ : jm_S) : jv 112 109 [some (.ref 0), some (.int x1)] [(.ref 42)] σ = some (some (.int (σ 42 1)), σ) := by
  refine (sv_getf jM112 c112_109 rfl lf_8_147 (fg_42_1 _)).trans ?_
  exact sv_iret jM112 c112_112 rfl rfl
set_option maxRecDepth 20000 in
set_option maxHeartbeats 4000000 in
theorem P_count_A109_44 (x1 : Int32) (σ : jm_S) : jv 112 109 [some (.ref 0), some (.int x1)] [(.ref 44)] σ = some (some (.int (σ 44 1)), σ) := by
  refine (sv_getf jM112 c112_109 rfl lf_8_147 (fg_44_1 _)).trans ?_
  exact sv_iret jM112 c112_112 rfl rfl
set_option maxRecDepth 20000 in
set_option maxHeartbeats 4000000 in
theorem P_count_A109_47 (x1 : Int32) (σ : jm_S) : jv 112 109 [some (.ref 0), some (.int x1)] [(.ref 47)] σ = some (some (.int (σ 47 1)), σ) := by
  refine (sv_getf jM112 c112_109 rfl lf_8_147 (fg_47_1 _)).trans ?_
  exact sv_iret jM112 c112_112 rfl rfl
set_option maxRecDepth 20000 in
set_option maxHeartbeats 4000000 in
theorem P_count_A109_50 (x1 : Int32) (σ : jm_S) : jv 112 109 [some (.ref 0), some (.int x1)] [(.ref 50)] σ = some (some (.int (σ 50 1)), σ) := by
  refine (sv_getf jM112 c112_109 rfl lf_8_147 (fg_50_1 _)).trans ?_
  exact sv_iret jM112 c112_112 rfl rfl
set_option maxRecDepth 20000 in
set_option maxHeartbeats 4000000 in
theorem P_digest_in (σ : jm_S) : jc 114 [(.ref 0)] σ = jv 114 6 [some (.ref 0), some (.long (17 : Int64)), none, some (.int (0 : Int32))] [] σ := by
  refine (jc_of (ls1 := [some (.ref 0), none, none, none]) ((jm_ini_of jM114).trans rfl)).trans ?_
  refine (sv_ldc2 jM114 c114_0 rfl ll_8_308).trans ?_
  refine (sv_lstore_n (ls1 := [some (.ref 0), some (.long (17 : Int64)), none, none]) jM114 c114_3 rfl (Nat.lt_of_lt_of_eq (by decide +kernel : 1 + 1 < 4) rfl) rfl).trans ?_
  refine (sv_iconst jM114 c114_4 rfl (v := 0) (by decide +kernel)).trans ?_
  refine (sv_istore_n (ls1 := [some (.ref 0), some (.long (17 : Int64)), none, some (.int (0 : Int32))]) jM114 c114_5 rfl (Nat.lt_of_lt_of_eq (by decide +kernel : 3 < 4) rfl) rfl).trans ?_
  rfl
set_option maxRecDepth 20000 in
set_option maxHeartbeats 4000000 in
theorem P_digest_L6 (x1 : Int64) (x3 : Int32) (σ : jm_S) : jv 114 6 [some (.ref 0), some (.long x1), none, some (.int x3)] [] σ = (if (7 : Int32) < x3 then jv 114 33 [some (.ref 0), some (.long x1), none, some (.int (0 : Int32))] [] σ else jbi (jc 112 [(.ref 0), (.int x3)] σ) (fun r1 τ1 => jv 114 6 [some (.ref 0), some (.long (((31 : Int64) * x1) + r1.toInt64)), none, some (.int (x3 + 1))] [] τ1)) := by
  refine (sv_iload_n jM114 c114_6 rfl rfl).trans ?_
  refine (sv_bipush jM114 c114_7 rfl (v := 7) (by decide +kernel)).trans ?_
  refine (sv_icmp_gt jM114 c114_9 rfl (t := 31) (by decide +kernel)).trans ?_
  refine jif _ ?_ ?_
  ·
    refine (sv_iconst jM114 c114_31 rfl (v := 0) (by decide +kernel)).trans ?_
    refine (sv_istore_n (ls1 := [some (.ref 0), some (.long x1), none, some (.int (0 : Int32))]) jM114 c114_32 rfl (Nat.lt_of_lt_of_eq (by decide +kernel : 3 < 4) rfl) rfl).trans ?_
    rfl
  ·
    refine (sv_ldc2 jM114 c114_12 rfl ll_8_310).trans ?_
    refine (sv_lload_n jM114 c114_15 rfl rfl).trans ?_
    refine (sv_lmul jM114 c114_16 rfl).trans ?_
    refine (sv_aload_n jM114 c114_17 rfl rfl).trans ?_
    refine (sv_iload_n jM114 c114_18 rfl rfl).trans ?_
    refine (sv_callvi (pl := 0) jM114 c114_19 rfl (jm_call_v (a := 0) (as := [(.int x3)]) (rest := [(.long ((31 : Int64) * x1))]) lm_8_312 rfl jM112 rfl rfl rfl rfl rfl) jM112 rfl (Or.inl rfl)).trans ?_
    refine jbi_c (fun r1 τ1 => ?_)
    refine (sv_i2l jM114 c114_22 rfl).trans ?_
    refine (sv_ladd jM114 c114_23 rfl).trans ?_
    refine (sv_lstore_n (ls1 := [some (.ref 0), some (.long (((31 : Int64) * x1) + r1.toInt64)), none, some (.int x3)]) jM114 c114_24 rfl (Nat.lt_of_lt_of_eq (by decide +kernel : 1 + 1 < 4) rfl) rfl).trans ?_
    refine (sv_iinc (ls1 := [some (.ref 0), some (.long (((31 : Int64) * x1) + r1.toInt64)), none, some (.int (x3 + 1))]) jM114 c114_25 rfl rfl (v := 1) (by decide +kernel) rfl).trans ?_
    refine (sv_goto jM114 c114_28 rfl (t := 6) (by decide +kernel)).trans ?_
    rfl
set_option maxRecDepth 20000 in
set_option maxHeartbeats 4000000 in
theorem P_digest_L33 (x1 : Int64) (x3 : Int32) (σ : jm_S) : jv 114 33 [some (.ref 0), some (.long x1), none, some (.int x3)] [] σ = (if (4 : Int32) ≤ x3 then jbl (jc 115 [(.ref 0), (.long x1), (.int (100 : Int32))] σ) (fun r1 τ1 => jbl (jc 116 [(.ref 0), (.long r1)] τ1) (fun r2 τ2 => jbv (jc 65 [(.ref 0), (.int (60 : Int32))] τ2) (fun τ3 => jv 114 83 [some (.ref 0), some (.long r2), none, some (.int (0 : Int32))] [] τ3))) else jaa x3 [42, 44, 47, 50] (fun q => jv 114 49 [some (.ref 0), some (.long x1), none, some (.int x3)] [(.ref q), (.long ((31 : Int64) * x1))] σ)) := by
  refine (sv_iload_n jM114 c114_33 rfl rfl).trans ?_
  refine (sv_iconst jM114 c114_34 rfl (v := 4) (by decide +kernel)).trans ?_
  refine (sv_icmp_ge jM114 c114_35 rfl (t := 61) (by decide +kernel)).trans ?_
  refine jif _ ?_ ?_
  ·
    refine (sv_aload_n jM114 c114_61 rfl rfl).trans ?_
    refine (sv_lload_n jM114 c114_62 rfl rfl).trans ?_
    refine (sv_bipush jM114 c114_63 rfl (v := 100) (by decide +kernel)).trans ?_
    refine (sv_callvl (pl := 0) jM114 c114_65 rfl (jm_call_v (a := 0) (as := [(.long x1), (.int (100 : Int32))]) (rest := []) lm_8_315 rfl jM115 rfl rfl rfl rfl rfl) jM115 rfl rfl).trans ?_
    refine jbl_c (fun r1 τ1 => ?_)
    refine (sv_lstore_n (ls1 := [some (.ref 0), some (.long r1), none, some (.int x3)]) jM114 c114_68 rfl (Nat.lt_of_lt_of_eq (by decide +kernel : 1 + 1 < 4) rfl) rfl).trans ?_
    refine (sv_aload_n jM114 c114_69 rfl rfl).trans ?_
    refine (sv_lload_n jM114 c114_70 rfl rfl).trans ?_
    refine (sv_callvl (pl := 0) jM114 c114_71 rfl (jm_call_v (a := 0) (as := [(.long r1)]) (rest := []) lm_8_319 rfl jM116 rfl rfl rfl rfl rfl) jM116 rfl rfl).trans ?_
    refine jbl_c (fun r2 τ2 => ?_)
    refine (sv_lstore_n (ls1 := [some (.ref 0), some (.long r2), none, some (.int x3)]) jM114 c114_74 rfl (Nat.lt_of_lt_of_eq (by decide +kernel : 1 + 1 < 4) rfl) rfl).trans ?_
    refine (sv_aload_n jM114 c114_75 rfl rfl).trans ?_
    refine (sv_bipush jM114 c114_76 rfl (v := 60) (by decide +kernel)).trans ?_
    refine (sv_callvv (pl := 0) jM114 c114_78 rfl (jm_call_v (a := 0) (as := [(.int (60 : Int32))]) (rest := []) lm_8_188 rfl jM65 rfl rfl rfl rfl rfl) jM65 rfl rfl).trans ?_
    refine jbv_c (fun τ3 => ?_)
    refine (sv_iconst jM114 c114_81 rfl (v := 0) (by decide +kernel)).trans ?_
    refine (sv_istore_n (ls1 := [some (.ref 0), some (.long r2), none, some (.int (0 : Int32))]) jM114 c114_82 rfl (Nat.lt_of_lt_of_eq (by decide +kernel : 3 < 4) rfl) rfl).trans ?_
    rfl
  ·
    refine (sv_ldc2 jM114 c114_38 rfl ll_8_310).trans ?_
    refine (sv_lload_n jM114 c114_41 rfl rfl).trans ?_
    refine (sv_lmul jM114 c114_42 rfl).trans ?_
    refine (sv_aload_n jM114 c114_43 rfl rfl).trans ?_
    refine (sv_getf jM114 c114_44 rfl lf_8_30 (fg_0_2 _)).trans ?_
    refine (sv_iload_n jM114 c114_47 rfl rfl).trans ?_
    refine (sv_aald jM114 c114_48 rfl wr_5).trans ?_
    rfl
set_option maxRecDepth 20000 in
set_option maxHeartbeats 4000000 in
theorem P_digest_A49_42 (x1 : Int64) (x3 : Int32) (y0 : Int64) (σ : jm_S) : jv 114 49 [some (.ref 0), some (.long x1), none, some (.int x3)] [(.ref 42), (.long y0)] σ = jv 114 33 [some (.ref 0), some (.long (y0 + (σ 42 3).toInt64)), none, some (.int (x3 + 1))] [] σ := by
  refine (sv_getf jM114 c114_49 rfl lf_8_148 (fg_42_3 _)).trans ?_
  refine (sv_i2l jM114 c114_52 rfl).trans ?_
  refine (sv_ladd jM114 c114_53 rfl).trans ?_
  refine (sv_lstore_n (ls1 := [some (.ref 0), some (.long (y0 + (σ 42 3).toInt64)), none, some (.int x3)]) jM114 c114_54 rfl (Nat.lt_of_lt_of_eq (by decide +kernel : 1 + 1 < 4) rfl) rfl).trans ?_
  refine (sv_iinc (ls1 := [some (.ref 0), some (.long (y0 + (σ 42 3).toInt64)), none, some (.int (x3 + 1))]) jM114 c114_55 rfl rfl (v := 1) (by decide +kernel) rfl).trans ?_
  refine (sv_goto jM114 c114_58 rfl (t := 33) (by decide +kernel)).trans ?_
  rfl
set_option maxRecDepth 20000 in
set_option maxHeartbeats 4000000 in
theorem P_digest_A49_44 (x1 : Int64) (x3 : Int32) (y0 : Int64) (σ : jm_S) : jv 114 49 [some (.ref 0), some (.long x1), none, some (.int x3)] [(.ref 44), (.long y0)] σ = jv 114 33 [some (.ref 0), some (.long (y0 + (σ 44 3).toInt64)), none, some (.int (x3 + 1))] [] σ := by
  refine (sv_getf jM114 c114_49 rfl lf_8_148 (fg_44_3 _)).trans ?_
  refine (sv_i2l jM114 c114_52 rfl).trans ?_
  refine (sv_ladd jM114 c114_53 rfl).trans ?_
  refine (sv_lstore_n (ls1 := [some (.ref 0), some (.long (y0 + (σ 44 3).toInt64)), none, some (.int x3)]) jM114 c114_54 rfl (Nat.lt_of_lt_of_eq (by decide +kernel : 1 + 1 < 4) rfl) rfl).trans ?_
  refine (sv_iinc (ls1 := [some (.ref 0), some (.long (y0 + (σ 44 3).toInt64)), none, some (.int (x3 + 1))]) jM114 c114_55 rfl rfl (v := 1) (by decide +kernel) rfl).trans ?_
  refine (sv_goto jM114 c114_58 rfl (t := 33) (by decide +kernel)).trans ?_
  rfl
set_option maxRecDepth 20000 in
set_option maxHeartbeats 4000000 in
theorem P_digest_A49_47 (x1 : Int64) (x3 : Int32) (y0 : Int64) (σ : jm_S) : jv 114 49 [some (.ref 0), some (.long x1), none, some (.int x3)] [(.ref 47), (.long y0)] σ = jv 114 33 [some (.ref 0), some (.long (y0 + (σ 47 3).toInt64)), none, some (.int (x3 + 1))] [] σ := by
  refine (sv_getf jM114 c114_49 rfl lf_8_148 (fg_47_3 _)).trans ?_
  refine (sv_i2l jM114 c114_52 rfl).trans ?_
  refine (sv_ladd jM114 c114_53 rfl).trans ?_
  refine (sv_lstore_n (ls1 := [some (.ref 0), some (.long (y0 + (σ 47 3).toInt64)), none, some (.int x3)]) jM114 c114_54 rfl (Nat.lt_of_lt_of_eq (by decide +kernel : 1 + 1 < 4) rfl) rfl).trans ?_
  refine (sv_iinc (ls1 := [some (.ref 0), some (.long (y0 + (σ 47 3).toInt64)), none, some (.int (x3 + 1))]) jM114 c114_55 rfl rfl (v := 1) (by decide +kernel) rfl).trans ?_
  refine (sv_goto jM114 c114_58 rfl (t := 33) (by decide +kernel)).trans ?_
  rfl
set_option maxRecDepth 20000 in
set_option maxHeartbeats 4000000 in
theorem P_digest_A49_50 (x1 : Int64) (x3 : Int32) (y0 : Int64) (σ : jm_S) : jv 114 49 [some (.ref 0), some (.long x1), none, some (.int x3)] [(.ref 50), (.long y0)] σ = jv 114 33 [some (.ref 0), some (.long (y0 + (σ 50 3).toInt64)), none, some (.int (x3 + 1))] [] σ := by
  refine (sv_getf jM114 c114_49 rfl lf_8_148 (fg_50_3 _)).trans ?_
  refine (sv_i2l jM114 c114_52 rfl).trans ?_
  refine (sv_ladd jM114 c114_53 rfl).trans ?_
  refine (sv_lstore_n (ls1 := [some (.ref 0), some (.long (y0 + (σ 50 3).toInt64)), none, some (.int x3)]) jM114 c114_54 rfl (Nat.lt_of_lt_of_eq (by decide +kernel : 1 + 1 < 4) rfl) rfl).trans ?_
  refine (sv_iinc (ls1 := [some (.ref 0), some (.long (y0 + (σ 50 3).toInt64)), none, some (.int (x3 + 1))]) jM114 c114_55 rfl rfl (v := 1) (by decide +kernel) rfl).trans ?_
  refine (sv_goto jM114 c114_58 rfl (t := 33) (by decide +kernel)).trans ?_
  rfl
set_option maxRecDepth 20000 in
set_option maxHeartbeats 4000000 in
theorem P_digest_L83 (x1 : Int64) (x3 : Int32) (σ : jm_S) : jv 114 83 [some (.ref 0), some (.long x1), none, some (.int x3)] [] σ = (if (2 : Int32) < x3 then jbv (jc 80 [(.ref 0), (.int (3 : Int32)), (.int (100 : Int32))] σ) (fun τ1 => jv 114 119 [some (.ref 0), some (.long x1), none, some (.int (0 : Int32))] [] τ1) else jbi (jc 67 [(.ref 35), (.int x3)] σ) (fun r2 τ2 => jv 114 83 [some (.ref 0), some (.long (((31 : Int64) * x1) + r2.toInt64)), none, some (.int (x3 + 1))] [] τ2)) := by
  refine (sv_iload_n jM114 c114_83 rfl rfl).trans ?_
  refine (sv_iconst jM114 c114_84 rfl (v := 2) (by decide +kernel)).trans ?_
  refine (sv_icmp_gt jM114 c114_85 rfl (t := 110) (by decide +kernel)).trans ?_
  refine jif _ ?_ ?_
  ·
    refine (sv_aload_n jM114 c114_110 rfl rfl).trans ?_
    refine (sv_iconst jM114 c114_111 rfl (v := 3) (by decide +kernel)).trans ?_
    refine (sv_bipush jM114 c114_112 rfl (v := 100) (by decide +kernel)).trans ?_
    refine (sv_callvv (pl := 0) jM114 c114_114 rfl (jm_call_v (a := 0) (as := [(.int (3 : Int32)), (.int (100 : Int32))]) (rest := []) lm_8_230 rfl jM80 rfl rfl rfl rfl rfl) jM80 rfl rfl).trans ?_
    refine jbv_c (fun τ1 => ?_)
    refine (sv_iconst jM114 c114_117 rfl (v := 0) (by decide +kernel)).trans ?_
    refine (sv_istore_n (ls1 := [some (.ref 0), some (.long x1), none, some (.int (0 : Int32))]) jM114 c114_118 rfl (Nat.lt_of_lt_of_eq (by decide +kernel : 3 < 4) rfl) rfl).trans ?_
    rfl
  ·
    refine (sv_ldc2 jM114 c114_88 rfl ll_8_310).trans ?_
    refine (sv_lload_n jM114 c114_91 rfl rfl).trans ?_
    refine (sv_lmul jM114 c114_92 rfl).trans ?_
    refine (sv_aload_n jM114 c114_93 rfl rfl).trans ?_
    refine (sv_getf jM114 c114_94 rfl lf_8_60 (fg_0_7 _)).trans ?_
    refine (sv_iload_n jM114 c114_97 rfl rfl).trans ?_
    refine (sv_callvi (pl := 0) jM114 c114_98 rfl (jm_call_v (a := 35) (as := [(.int x3)]) (rest := [(.long ((31 : Int64) * x1))]) lm_8_191 rfl jM67 rfl rfl rfl rfl rfl) jM67 rfl (Or.inl rfl)).trans ?_
    refine jbi_c (fun r2 τ2 => ?_)
    refine (sv_i2l jM114 c114_101 rfl).trans ?_
    refine (sv_ladd jM114 c114_102 rfl).trans ?_
    refine (sv_lstore_n (ls1 := [some (.ref 0), some (.long (((31 : Int64) * x1) + r2.toInt64)), none, some (.int x3)]) jM114 c114_103 rfl (Nat.lt_of_lt_of_eq (by decide +kernel : 1 + 1 < 4) rfl) rfl).trans ?_
    refine (sv_iinc (ls1 := [some (.ref 0), some (.long (((31 : Int64) * x1) + r2.toInt64)), none, some (.int (x3 + 1))]) jM114 c114_104 rfl rfl (v := 1) (by decide +kernel) rfl).trans ?_
    refine (sv_goto jM114 c114_107 rfl (t := 83) (by decide +kernel)).trans ?_
    rfl
set_option maxRecDepth 20000 in
set_option maxHeartbeats 4000000 in
theorem P_digest_L119 (x1 : Int64) (x3 : Int32) (σ : jm_S) : jv 114 119 [some (.ref 0), some (.long x1), none, some (.int x3)] [] σ = (if (3 : Int32) < x3 then jbl (jc 117 [(.ref 0), (.long x1)] σ) (fun r1 τ1 => some (some (.long r1), τ1)) else jbi (jc 81 [(.ref 0), (.int (100 : Int32)), (.int x3)] σ) (fun r2 τ2 => jv 114 119 [some (.ref 0), some (.long (((31 : Int64) * x1) + r2.toInt64)), none, some (.int (x3 + 1))] [] τ2)) := by
  refine (sv_iload_n jM114 c114_119 rfl rfl).trans ?_
  refine (sv_iconst jM114 c114_120 rfl (v := 3) (by decide +kernel)).trans ?_
  refine (sv_icmp_gt jM114 c114_121 rfl (t := 145) (by decide +kernel)).trans ?_
  refine jif _ ?_ ?_
  ·
    refine (sv_aload_n jM114 c114_145 rfl rfl).trans ?_
    refine (sv_lload_n jM114 c114_146 rfl rfl).trans ?_
    refine (sv_callvl (pl := 0) jM114 c114_147 rfl (jm_call_v (a := 0) (as := [(.long x1)]) (rest := []) lm_8_323 rfl jM117 rfl rfl rfl rfl rfl) jM117 rfl rfl).trans ?_
    refine jbl_c (fun r1 τ1 => ?_)
    exact sv_lret jM114 c114_150 rfl rfl
  ·
    refine (sv_ldc2 jM114 c114_124 rfl ll_8_310).trans ?_
    refine (sv_lload_n jM114 c114_127 rfl rfl).trans ?_
    refine (sv_lmul jM114 c114_128 rfl).trans ?_
    refine (sv_aload_n jM114 c114_129 rfl rfl).trans ?_
    refine (sv_bipush jM114 c114_130 rfl (v := 100) (by decide +kernel)).trans ?_
    refine (sv_iload_n jM114 c114_132 rfl rfl).trans ?_
    refine (sv_callvi (pl := 0) jM114 c114_133 rfl (jm_call_v (a := 0) (as := [(.int (100 : Int32)), (.int x3)]) (rest := [(.long ((31 : Int64) * x1))]) lm_8_234 rfl jM81 rfl rfl rfl rfl rfl) jM81 rfl (Or.inl rfl)).trans ?_
    refine jbi_c (fun r2 τ2 => ?_)
    refine (sv_i2l jM114 c114_136 rfl).trans ?_
    refine (sv_ladd jM114 c114_137 rfl).trans ?_
    refine (sv_lstore_n (ls1 := [some (.ref 0), some (.long (((31 : Int64) * x1) + r2.toInt64)), none, some (.int x3)]) jM114 c114_138 rfl (Nat.lt_of_lt_of_eq (by decide +kernel : 1 + 1 < 4) rfl) rfl).trans ?_
    refine (sv_iinc (ls1 := [some (.ref 0), some (.long (((31 : Int64) * x1) + r2.toInt64)), none, some (.int (x3 + 1))]) jM114 c114_139 rfl rfl (v := 1) (by decide +kernel) rfl).trans ?_
    refine (sv_goto jM114 c114_142 rfl (t := 119) (by decide +kernel)).trans ?_
    rfl
set_option maxRecDepth 20000 in
set_option maxHeartbeats 4000000 in
theorem P_mayAllBe_in (x0 : Int32) (x1 : Int32) (x2 : Int32) (x3 : Int32) (σ : jm_S) : jc 2 [(.int x0), (.int x1), (.int x2), (.int x3)] σ = jbi (jc 3 [(.int (0 : Int32)), (.int x0)] σ) (fun r1 τ1 => (if r1 = 0 then some (some (.int (0 : Int32)), τ1) else jbi (jc 3 [(.int (1 : Int32)), (.int x1)] τ1) (fun r2 τ2 => (if r2 = 0 then some (some (.int (0 : Int32)), τ2) else jbi (jc 3 [(.int (2 : Int32)), (.int x2)] τ2) (fun r3 τ3 => (if r3 = 0 then some (some (.int (0 : Int32)), τ3) else jbi (jc 3 [(.int (3 : Int32)), (.int x3)] τ3) (fun r4 τ4 => (if r4 = 0 then some (some (.int (0 : Int32)), τ4) else some (some (.int (1 : Int32)), τ4))))))))) := by
  refine (jc_of (ls1 := [some (.int x0), some (.int x1), some (.int x2), some (.int x3)]) ((jm_ini_of jM2).trans rfl)).trans ?_
  refine (sv_iconst jM2 c2_0 rfl (v := 0) (by decide +kernel)).trans ?_
  refine (sv_iload_n jM2 c2_1 rfl rfl).trans ?_
  refine (sv_callsi (pl := 0) jM2 c2_2 rfl (jm_call_s (as := [(.int (0 : Int32)), (.int x0)]) (rest := []) lm_8_119 rfl jM3 rfl rfl rfl rfl) jM3 rfl (Or.inr rfl)).trans ?_
  refine jbi_c (fun r1 τ1 => ?_)
  refine (sv_if_eq jM2 c2_5 rfl (t := 36) (by decide +kernel)).trans ?_
  refine jif _ ?_ ?_
  ·
    refine (sv_iconst jM2 c2_36 rfl (v := 0) (by decide +kernel)).trans ?_
    exact sv_zret jM2 c2_37 rfl rfl (by decide +kernel)
  ·
    refine (sv_iconst jM2 c2_8 rfl (v := 1) (by decide +kernel)).trans ?_
    refine (sv_iload_n jM2 c2_9 rfl rfl).trans ?_
    refine (sv_callsi (pl := 0) jM2 c2_10 rfl (jm_call_s (as := [(.int (1 : Int32)), (.int x1)]) (rest := []) lm_8_119 rfl jM3 rfl rfl rfl rfl) jM3 rfl (Or.inr rfl)).trans ?_
    refine jbi_c (fun r2 τ2 => ?_)
    refine (sv_if_eq jM2 c2_13 rfl (t := 36) (by decide +kernel)).trans ?_
    refine jif _ ?_ ?_
    ·
      refine (sv_iconst jM2 c2_36 rfl (v := 0) (by decide +kernel)).trans ?_
      exact sv_zret jM2 c2_37 rfl rfl (by decide +kernel)
    ·
      refine (sv_iconst jM2 c2_16 rfl (v := 2) (by decide +kernel)).trans ?_
      refine (sv_iload_n jM2 c2_17 rfl rfl).trans ?_
      refine (sv_callsi (pl := 0) jM2 c2_18 rfl (jm_call_s (as := [(.int (2 : Int32)), (.int x2)]) (rest := []) lm_8_119 rfl jM3 rfl rfl rfl rfl) jM3 rfl (Or.inr rfl)).trans ?_
      refine jbi_c (fun r3 τ3 => ?_)
      refine (sv_if_eq jM2 c2_21 rfl (t := 36) (by decide +kernel)).trans ?_
      refine jif _ ?_ ?_
      ·
        refine (sv_iconst jM2 c2_36 rfl (v := 0) (by decide +kernel)).trans ?_
        exact sv_zret jM2 c2_37 rfl rfl (by decide +kernel)
      ·
        refine (sv_iconst jM2 c2_24 rfl (v := 3) (by decide +kernel)).trans ?_
        refine (sv_iload_n jM2 c2_25 rfl rfl).trans ?_
        refine (sv_callsi (pl := 0) jM2 c2_26 rfl (jm_call_s (as := [(.int (3 : Int32)), (.int x3)]) (rest := []) lm_8_119 rfl jM3 rfl rfl rfl rfl) jM3 rfl (Or.inr rfl)).trans ?_
        refine jbi_c (fun r4 τ4 => ?_)
        refine (sv_if_eq jM2 c2_29 rfl (t := 36) (by decide +kernel)).trans ?_
        refine jif _ ?_ ?_
        ·
          refine (sv_iconst jM2 c2_36 rfl (v := 0) (by decide +kernel)).trans ?_
          exact sv_zret jM2 c2_37 rfl rfl (by decide +kernel)
        ·
          refine (sv_iconst jM2 c2_32 rfl (v := 1) (by decide +kernel)).trans ?_
          refine (sv_goto jM2 c2_33 rfl (t := 37) (by decide +kernel)).trans ?_
          exact sv_zret jM2 c2_37 rfl rfl (by decide +kernel)
set_option maxRecDepth 20000 in
set_option maxHeartbeats 4000000 in
theorem P_isOutside_in (x0 : Int32) (x1 : Int32) (x2 : Int32) (σ : jm_S) : jc 1 [(.int x0), (.int x1), (.int x2)] σ = (if x0 < x1 then some (some (.int (1 : Int32)), σ) else (if x0 ≤ x2 then some (some (.int (0 : Int32)), σ) else some (some (.int (1 : Int32)), σ))) := by
  refine (jc_of (ls1 := [some (.int x0), some (.int x1), some (.int x2)]) ((jm_ini_of jM1).trans rfl)).trans ?_
  refine (sv_iload_n jM1 c1_0 rfl rfl).trans ?_
  refine (sv_iload_n jM1 c1_1 rfl rfl).trans ?_
  refine (sv_icmp_lt jM1 c1_2 rfl (t := 10) (by decide +kernel)).trans ?_
  refine jif _ ?_ ?_
  ·
    refine (sv_iconst jM1 c1_10 rfl (v := 1) (by decide +kernel)).trans ?_
    refine (sv_goto jM1 c1_11 rfl (t := 15) (by decide +kernel)).trans ?_
    exact sv_zret jM1 c1_15 rfl rfl (by decide +kernel)
  ·
    refine (sv_iload_n jM1 c1_5 rfl rfl).trans ?_
    refine (sv_iload_n jM1 c1_6 rfl rfl).trans ?_
    refine (sv_icmp_le jM1 c1_7 rfl (t := 14) (by decide +kernel)).trans ?_
    refine jif _ ?_ ?_
    ·
      refine (sv_iconst jM1 c1_14 rfl (v := 0) (by decide +kernel)).trans ?_
      exact sv_zret jM1 c1_15 rfl rfl (by decide +kernel)
    ·
      refine (sv_iconst jM1 c1_10 rfl (v := 1) (by decide +kernel)).trans ?_
      refine (sv_goto jM1 c1_11 rfl (t := 15) (by decide +kernel)).trans ?_
      exact sv_zret jM1 c1_15 rfl rfl (by decide +kernel)
set_option maxRecDepth 20000 in
set_option maxHeartbeats 4000000 in
theorem P_finding_in (x1 : Int32) (σ : jm_S) : jc 9 [(.ref 0), (.int x1)] σ = some (some (.int ((-10 : Int32) - x1)), (jm_up σ 0 10 x1)) := by
  refine (jc_of (ls1 := [some (.ref 0), some (.int x1)]) ((jm_ini_of jM9).trans rfl)).trans ?_
  refine (sv_aload_n jM9 c9_0 rfl rfl).trans ?_
  refine (sv_iload_n jM9 c9_1 rfl rfl).trans ?_
  refine (sv_putf jM9 c9_2 rfl lf_8_77 (pf_0_10 _ _)).trans ?_
  refine (sv_bipush jM9 c9_5 rfl (v := -10) (by decide +kernel)).trans ?_
  refine (sv_iload_n jM9 c9_7 rfl rfl).trans ?_
  refine (sv_isub jM9 c9_8 rfl).trans ?_
  exact sv_iret jM9 c9_9 rfl rfl
set_option maxRecDepth 20000 in
set_option maxHeartbeats 4000000 in
theorem P_mayBe_in (x0 : Int32) (x1 : Int32) (σ : jm_S) : jc 3 [(.int x0), (.int x1)] σ = (if x0 < 0 ∨ 4 ≤ x0.toNatClampNeg then none else (if x0 < 0 ∨ 4 ≤ x0.toNatClampNeg then none else jbi (jc 1 [(.int x1), (.int (([0, 1, 1, 0] : List Int32).getD x0.toNatClampNeg 0)), (.int (([99, 20, 9, 9] : List Int32).getD x0.toNatClampNeg 0))] σ) (fun r1 τ1 => (if ¬ r1 = 0 then some (some (.int (0 : Int32)), τ1) else some (some (.int (1 : Int32)), τ1))))) := by
  refine (jc_of (ls1 := [some (.int x0), some (.int x1)]) ((jm_ini_of jM3).trans rfl)).trans ?_
  refine (sv_iload_n jM3 c3_0 rfl rfl).trans ?_
  refine (sv_gets jM3 c3_1 rfl ls_8_224).trans ?_
  refine (sv_iload_n jM3 c3_4 rfl rfl).trans ?_
  refine (sv_iald jM3 c3_5 rfl (ia_1000 _)).trans ?_
  refine jif _ rfl ?_
  refine (sv_gets jM3 c3_6 rfl ls_8_227).trans ?_
  refine (sv_iload_n jM3 c3_9 rfl rfl).trans ?_
  refine (sv_iald jM3 c3_10 rfl (ia_1001 _)).trans ?_
  refine jif _ rfl ?_
  refine (sv_callsi (pl := 0) jM3 c3_11 rfl (jm_call_s (as := [(.int x1), (.int (([0, 1, 1, 0] : List Int32).getD x0.toNatClampNeg 0)), (.int (([99, 20, 9, 9] : List Int32).getD x0.toNatClampNeg 0))]) (rest := []) lm_8_86 rfl jM1 rfl rfl rfl rfl) jM1 rfl (Or.inr rfl)).trans ?_
  refine jbi_c (fun r1 τ1 => ?_)
  refine (sv_if_ne jM3 c3_14 rfl (t := 21) (by decide +kernel)).trans ?_
  refine jif _ ?_ ?_
  ·
    refine (sv_iconst jM3 c3_21 rfl (v := 0) (by decide +kernel)).trans ?_
    exact sv_zret jM3 c3_22 rfl rfl (by decide +kernel)
  ·
    refine (sv_iconst jM3 c3_17 rfl (v := 1) (by decide +kernel)).trans ?_
    refine (sv_goto jM3 c3_18 rfl (t := 22) (by decide +kernel)).trans ?_
    exact sv_zret jM3 c3_22 rfl rfl (by decide +kernel)
set_option maxRecDepth 20000 in
set_option maxHeartbeats 4000000 in
theorem P_understand_in (x1 : Int32) (σ : jm_S) : jc 18 [(.ref 0), (.int x1)] σ = (if ¬ x1 = 0 then jaa (x1 - (1 : Int32)) [46, 49, 52] (fun q => jv 18 28 [some (.ref 0), some (.int x1)] [(.ref q)] σ) else jaa (0 : Int32) [42, 44, 47, 50] (fun q => jv 18 14 [some (.ref 0), some (.int x1)] [(.ref q), (.ref 6)] σ)) := by
  refine (jc_of (ls1 := [some (.ref 0), some (.int x1)]) ((jm_ini_of jM18).trans rfl)).trans ?_
  refine (sv_iload_n jM18 c18_0 rfl rfl).trans ?_
  refine (sv_if_ne jM18 c18_1 rfl (t := 20) (by decide +kernel)).trans ?_
  refine jif _ ?_ ?_
  ·
    refine (sv_aload_n jM18 c18_20 rfl rfl).trans ?_
    refine (sv_getf jM18 c18_21 rfl lf_8_43 (fg_0_4 _)).trans ?_
    refine (sv_iload_n jM18 c18_24 rfl rfl).trans ?_
    refine (sv_iconst jM18 c18_25 rfl (v := 1) (by decide +kernel)).trans ?_
    refine (sv_isub jM18 c18_26 rfl).trans ?_
    refine (sv_aald jM18 c18_27 rfl wr_10).trans ?_
    rfl
  ·
    refine (sv_aload_n jM18 c18_4 rfl rfl).trans ?_
    refine (sv_getf jM18 c18_5 rfl lf_8_37 (fg_0_3 _)).trans ?_
    refine (sv_aload_n jM18 c18_8 rfl rfl).trans ?_
    refine (sv_getf jM18 c18_9 rfl lf_8_30 (fg_0_2 _)).trans ?_
    refine (sv_iconst jM18 c18_12 rfl (v := 0) (by decide +kernel)).trans ?_
    refine (sv_aald jM18 c18_13 rfl wr_5).trans ?_
    rfl
set_option maxRecDepth 20000 in
set_option maxHeartbeats 4000000 in
theorem P_understand_A14_42 (x1 : Int32) (σ : jm_S) : jv 18 14 [some (.ref 0), some (.int x1)] [(.ref 42), (.ref 6)] σ = jbv (jc 19 [(.ref 6), (.ref 42)] σ) (fun τ1 => some (none, τ1)) := by
  refine (sv_callvv (pl := 0) jM18 c18_14 rfl (jm_call_v (a := 6) (as := [(.ref 42)]) (rest := []) lm_8_326 rfl jM19 rfl rfl rfl rfl rfl) jM19 rfl rfl).trans ?_
  refine jbv_c (fun τ1 => ?_)
  refine (sv_goto jM18 c18_17 rfl (t := 37) (by decide +kernel)).trans ?_
  exact sv_vret jM18 c18_37 rfl rfl
set_option maxRecDepth 20000 in
set_option maxHeartbeats 4000000 in
theorem P_understand_A14_44 (x1 : Int32) (σ : jm_S) : jv 18 14 [some (.ref 0), some (.int x1)] [(.ref 44), (.ref 6)] σ = jbv (jc 19 [(.ref 6), (.ref 44)] σ) (fun τ1 => some (none, τ1)) := by
  refine (sv_callvv (pl := 0) jM18 c18_14 rfl (jm_call_v (a := 6) (as := [(.ref 44)]) (rest := []) lm_8_326 rfl jM19 rfl rfl rfl rfl rfl) jM19 rfl rfl).trans ?_
  refine jbv_c (fun τ1 => ?_)
  refine (sv_goto jM18 c18_17 rfl (t := 37) (by decide +kernel)).trans ?_
  exact sv_vret jM18 c18_37 rfl rfl
set_option maxRecDepth 20000 in
set_option maxHeartbeats 4000000 in
theorem P_understand_A14_47 (x1 : Int32) (σ : jm_S) : jv 18 14 [some (.ref 0), some (.int x1)] [(.ref 47), (.ref 6)] σ = jbv (jc 19 [(.ref 6), (.ref 47)] σ) (fun τ1 => some (none, τ1)) := by
  refine (sv_callvv (pl := 0) jM18 c18_14 rfl (jm_call_v (a := 6) (as := [(.ref 47)]) (rest := []) lm_8_326 rfl jM19 rfl rfl rfl rfl rfl) jM19 rfl rfl).trans ?_
  refine jbv_c (fun τ1 => ?_)
  refine (sv_goto jM18 c18_17 rfl (t := 37) (by decide +kernel)).trans ?_
  exact sv_vret jM18 c18_37 rfl rfl
set_option maxRecDepth 20000 in
set_option maxHeartbeats 4000000 in
theorem P_understand_A14_50 (x1 : Int32) (σ : jm_S) : jv 18 14 [some (.ref 0), some (.int x1)] [(.ref 50), (.ref 6)] σ = jbv (jc 19 [(.ref 6), (.ref 50)] σ) (fun τ1 => some (none, τ1)) := by
  refine (sv_callvv (pl := 0) jM18 c18_14 rfl (jm_call_v (a := 6) (as := [(.ref 50)]) (rest := []) lm_8_326 rfl jM19 rfl rfl rfl rfl rfl) jM19 rfl rfl).trans ?_
  refine jbv_c (fun τ1 => ?_)
  refine (sv_goto jM18 c18_17 rfl (t := 37) (by decide +kernel)).trans ?_
  exact sv_vret jM18 c18_37 rfl rfl
set_option maxRecDepth 20000 in
set_option maxHeartbeats 4000000 in
theorem P_understand_A28_46 (x1 : Int32) (σ : jm_S) : jv 18 28 [some (.ref 0), some (.int x1)] [(.ref 46)] σ = jaa x1 [42, 44, 47, 50] (fun q => jv 18 34 [some (.ref 0), some (.int x1)] [(.ref q), (.ref 46)] σ) := by
  refine (sv_aload_n jM18 c18_28 rfl rfl).trans ?_
  refine (sv_getf jM18 c18_29 rfl lf_8_30 (fg_0_2 _)).trans ?_
  refine (sv_iload_n jM18 c18_32 rfl rfl).trans ?_
  refine (sv_aald jM18 c18_33 rfl wr_5).trans ?_
  rfl
set_option maxRecDepth 20000 in
set_option maxHeartbeats 4000000 in
theorem P_understand_A28_49 (x1 : Int32) (σ : jm_S) : jv 18 28 [some (.ref 0), some (.int x1)] [(.ref 49)] σ = jaa x1 [42, 44, 47, 50] (fun q => jv 18 34 [some (.ref 0), some (.int x1)] [(.ref q), (.ref 49)] σ) := by
  refine (sv_aload_n jM18 c18_28 rfl rfl).trans ?_
  refine (sv_getf jM18 c18_29 rfl lf_8_30 (fg_0_2 _)).trans ?_
  refine (sv_iload_n jM18 c18_32 rfl rfl).trans ?_
  refine (sv_aald jM18 c18_33 rfl wr_5).trans ?_
  rfl
set_option maxRecDepth 20000 in
set_option maxHeartbeats 4000000 in
theorem P_understand_A28_52 (x1 : Int32) (σ : jm_S) : jv 18 28 [some (.ref 0), some (.int x1)] [(.ref 52)] σ = jaa x1 [42, 44, 47, 50] (fun q => jv 18 34 [some (.ref 0), some (.int x1)] [(.ref q), (.ref 52)] σ) := by
  refine (sv_aload_n jM18 c18_28 rfl rfl).trans ?_
  refine (sv_getf jM18 c18_29 rfl lf_8_30 (fg_0_2 _)).trans ?_
  refine (sv_iload_n jM18 c18_32 rfl rfl).trans ?_
  refine (sv_aald jM18 c18_33 rfl wr_5).trans ?_
  rfl
set_option maxRecDepth 20000 in
set_option maxHeartbeats 4000000 in
theorem P_understand_A34_42 (x1 : Int32) (σ : jm_S) : jv 18 34 [some (.ref 0), some (.int x1)] [(.ref 42), (.ref 46)] σ = jbv (jc 31 [(.ref 46), (.ref 42)] σ) (fun τ1 => some (none, τ1)) := by
  refine (sv_callvv (pl := 0) jM18 c18_34 rfl (jm_call_v (a := 46) (as := [(.ref 42)]) (rest := []) lm_8_330 rfl jM31 rfl rfl rfl rfl rfl) jM31 rfl rfl).trans ?_
  refine jbv_c (fun τ1 => ?_)
  exact sv_vret jM18 c18_37 rfl rfl
set_option maxRecDepth 20000 in
set_option maxHeartbeats 4000000 in
theorem P_understand_A34_44 (x1 : Int32) (σ : jm_S) : jv 18 34 [some (.ref 0), some (.int x1)] [(.ref 44), (.ref 46)] σ = jbv (jc 31 [(.ref 46), (.ref 44)] σ) (fun τ1 => some (none, τ1)) := by
  refine (sv_callvv (pl := 0) jM18 c18_34 rfl (jm_call_v (a := 46) (as := [(.ref 44)]) (rest := []) lm_8_330 rfl jM31 rfl rfl rfl rfl rfl) jM31 rfl rfl).trans ?_
  refine jbv_c (fun τ1 => ?_)
  exact sv_vret jM18 c18_37 rfl rfl
set_option maxRecDepth 20000 in
set_option maxHeartbeats 4000000 in
theorem P_understand_A34_47 (x1 : Int32) (σ : jm_S) : jv 18 34 [some (.ref 0), some (.int x1)] [(.ref 47), (.ref 46)] σ = jbv (jc 31 [(.ref 46), (.ref 47)] σ) (fun τ1 => some (none, τ1)) := by
  refine (sv_callvv (pl := 0) jM18 c18_34 rfl (jm_call_v (a := 46) (as := [(.ref 47)]) (rest := []) lm_8_330 rfl jM31 rfl rfl rfl rfl rfl) jM31 rfl rfl).trans ?_
  refine jbv_c (fun τ1 => ?_)
  exact sv_vret jM18 c18_37 rfl rfl
set_option maxRecDepth 20000 in
set_option maxHeartbeats 4000000 in
theorem P_understand_A34_50 (x1 : Int32) (σ : jm_S) : jv 18 34 [some (.ref 0), some (.int x1)] [(.ref 50), (.ref 46)] σ = jbv (jc 31 [(.ref 46), (.ref 50)] σ) (fun τ1 => some (none, τ1)) := by
  refine (sv_callvv (pl := 0) jM18 c18_34 rfl (jm_call_v (a := 46) (as := [(.ref 50)]) (rest := []) lm_8_330 rfl jM31 rfl rfl rfl rfl rfl) jM31 rfl rfl).trans ?_
  refine jbv_c (fun τ1 => ?_)
  exact sv_vret jM18 c18_37 rfl rfl
set_option maxRecDepth 20000 in
set_option maxHeartbeats 4000000 in
theorem P_understand_A34_42_v2 (x1 : Int32) (σ : jm_S) : jv 18 34 [some (.ref 0), some (.int x1)] [(.ref 42), (.ref 49)] σ = jbv (jc 31 [(.ref 49), (.ref 42)] σ) (fun τ1 => some (none, τ1)) := by
  refine (sv_callvv (pl := 0) jM18 c18_34 rfl (jm_call_v (a := 49) (as := [(.ref 42)]) (rest := []) lm_8_330 rfl jM31 rfl rfl rfl rfl rfl) jM31 rfl rfl).trans ?_
  refine jbv_c (fun τ1 => ?_)
  exact sv_vret jM18 c18_37 rfl rfl
set_option maxRecDepth 20000 in
set_option maxHeartbeats 4000000 in
theorem P_understand_A34_44_v2 (x1 : Int32) (σ : jm_S) : jv 18 34 [some (.ref 0), some (.int x1)] [(.ref 44), (.ref 49)] σ = jbv (jc 31 [(.ref 49), (.ref 44)] σ) (fun τ1 => some (none, τ1)) := by
  refine (sv_callvv (pl := 0) jM18 c18_34 rfl (jm_call_v (a := 49) (as := [(.ref 44)]) (rest := []) lm_8_330 rfl jM31 rfl rfl rfl rfl rfl) jM31 rfl rfl).trans ?_
  refine jbv_c (fun τ1 => ?_)
  exact sv_vret jM18 c18_37 rfl rfl
set_option maxRecDepth 20000 in
set_option maxHeartbeats 4000000 in
theorem P_understand_A34_47_v2 (x1 : Int32) (σ : jm_S) : jv 18 34 [some (.ref 0), some (.int x1)] [(.ref 47), (.ref 49)] σ = jbv (jc 31 [(.ref 49), (.ref 47)] σ) (fun τ1 => some (none, τ1)) := by
  refine (sv_callvv (pl := 0) jM18 c18_34 rfl (jm_call_v (a := 49) (as := [(.ref 47)]) (rest := []) lm_8_330 rfl jM31 rfl rfl rfl rfl rfl) jM31 rfl rfl).trans ?_
  refine jbv_c (fun τ1 => ?_)
  exact sv_vret jM18 c18_37 rfl rfl
set_option maxRecDepth 20000 in
set_option maxHeartbeats 4000000 in
theorem P_understand_A34_50_v2 (x1 : Int32) (σ : jm_S) : jv 18 34 [some (.ref 0), some (.int x1)] [(.ref 50), (.ref 49)] σ = jbv (jc 31 [(.ref 49), (.ref 50)] σ) (fun τ1 => some (none, τ1)) := by
  refine (sv_callvv (pl := 0) jM18 c18_34 rfl (jm_call_v (a := 49) (as := [(.ref 50)]) (rest := []) lm_8_330 rfl jM31 rfl rfl rfl rfl rfl) jM31 rfl rfl).trans ?_
  refine jbv_c (fun τ1 => ?_)
  exact sv_vret jM18 c18_37 rfl rfl
set_option maxRecDepth 20000 in
set_option maxHeartbeats 4000000 in
theorem P_understand_A34_42_v3 (x1 : Int32) (σ : jm_S) : jv 18 34 [some (.ref 0), some (.int x1)] [(.ref 42), (.ref 52)] σ = jbv (jc 31 [(.ref 52), (.ref 42)] σ) (fun τ1 => some (none, τ1)) := by
  refine (sv_callvv (pl := 0) jM18 c18_34 rfl (jm_call_v (a := 52) (as := [(.ref 42)]) (rest := []) lm_8_330 rfl jM31 rfl rfl rfl rfl rfl) jM31 rfl rfl).trans ?_
  refine jbv_c (fun τ1 => ?_)
  exact sv_vret jM18 c18_37 rfl rfl
set_option maxRecDepth 20000 in
set_option maxHeartbeats 4000000 in
theorem P_understand_A34_44_v3 (x1 : Int32) (σ : jm_S) : jv 18 34 [some (.ref 0), some (.int x1)] [(.ref 44), (.ref 52)] σ = jbv (jc 31 [(.ref 52), (.ref 44)] σ) (fun τ1 => some (none, τ1)) := by
  refine (sv_callvv (pl := 0) jM18 c18_34 rfl (jm_call_v (a := 52) (as := [(.ref 44)]) (rest := []) lm_8_330 rfl jM31 rfl rfl rfl rfl rfl) jM31 rfl rfl).trans ?_
  refine jbv_c (fun τ1 => ?_)
  exact sv_vret jM18 c18_37 rfl rfl
set_option maxRecDepth 20000 in
set_option maxHeartbeats 4000000 in
theorem P_understand_A34_47_v3 (x1 : Int32) (σ : jm_S) : jv 18 34 [some (.ref 0), some (.int x1)] [(.ref 47), (.ref 52)] σ = jbv (jc 31 [(.ref 52), (.ref 47)] σ) (fun τ1 => some (none, τ1)) := by
  refine (sv_callvv (pl := 0) jM18 c18_34 rfl (jm_call_v (a := 52) (as := [(.ref 47)]) (rest := []) lm_8_330 rfl jM31 rfl rfl rfl rfl rfl) jM31 rfl rfl).trans ?_
  refine jbv_c (fun τ1 => ?_)
  exact sv_vret jM18 c18_37 rfl rfl
set_option maxRecDepth 20000 in
set_option maxHeartbeats 4000000 in
theorem P_understand_A34_50_v3 (x1 : Int32) (σ : jm_S) : jv 18 34 [some (.ref 0), some (.int x1)] [(.ref 50), (.ref 52)] σ = jbv (jc 31 [(.ref 52), (.ref 50)] σ) (fun τ1 => some (none, τ1)) := by
  refine (sv_callvv (pl := 0) jM18 c18_34 rfl (jm_call_v (a := 52) (as := [(.ref 50)]) (rest := []) lm_8_330 rfl jM31 rfl rfl rfl rfl rfl) jM31 rfl rfl).trans ?_
  refine jbv_c (fun τ1 => ?_)
  exact sv_vret jM18 c18_37 rfl rfl
set_option maxRecDepth 20000 in
set_option maxHeartbeats 4000000 in
theorem P_fillPan_in (σ : jm_S) : jc 37 [(.ref 0)] σ = jbv (jc 38 [(.ref 11), (.ref 1), (.int (σ 4 1)), (.int (σ 4 0))] σ) (fun τ1 => some (none, τ1)) := by
  refine (jc_of (ls1 := [some (.ref 0)]) ((jm_ini_of jM37).trans rfl)).trans ?_
  refine (sv_aload_n jM37 c37_0 rfl rfl).trans ?_
  refine (sv_getf jM37 c37_1 rfl lf_8_50 (fg_0_5 _)).trans ?_
  refine (sv_aload_n jM37 c37_4 rfl rfl).trans ?_
  refine (sv_getf jM37 c37_5 rfl lf_8_10 (fg_0_0 _)).trans ?_
  refine (sv_aload_n jM37 c37_8 rfl rfl).trans ?_
  refine (sv_getf jM37 c37_9 rfl lf_8_25 (fg_0_1 _)).trans ?_
  refine (sv_iconst jM37 c37_12 rfl (v := 1) (by decide +kernel)).trans ?_
  refine (sv_iald1 jM37 c37_13 rfl (ia_4 _) (by decide +kernel) (i := 1) (by decide +kernel)).trans ?_
  refine (sv_aload_n jM37 c37_14 rfl rfl).trans ?_
  refine (sv_getf jM37 c37_15 rfl lf_8_25 (fg_0_1 _)).trans ?_
  refine (sv_iconst jM37 c37_18 rfl (v := 0) (by decide +kernel)).trans ?_
  refine (sv_iald1 jM37 c37_19 rfl (ia_4 _) (by decide +kernel) (i := 0) (by decide +kernel)).trans ?_
  refine (sv_callvv (pl := 0) jM37 c37_20 rfl (jm_call_v (a := 11) (as := [(.ref 1), (.int (σ 4 1)), (.int (σ 4 0))]) (rest := []) lm_8_199 rfl jM38 rfl rfl rfl rfl rfl) jM38 rfl rfl).trans ?_
  refine jbv_c (fun τ1 => ?_)
  exact sv_vret jM37 c37_23 rfl rfl
set_option maxRecDepth 20000 in
set_option maxHeartbeats 4000000 in
theorem P_cook_in (x1 : Int32) (σ : jm_S) : jc 49 [(.ref 0), (.int x1)] σ = jbv (jc 37 [(.ref 0)] σ) (fun τ1 => jbv (jc 50 [(.ref 11), (.ref 6), (.int x1)] τ1) (fun τ2 => some (none, τ2))) := by
  refine (jc_of (ls1 := [some (.ref 0), some (.int x1)]) ((jm_ini_of jM49).trans rfl)).trans ?_
  refine (sv_aload_n jM49 c49_0 rfl rfl).trans ?_
  refine (sv_callvv (pl := 0) jM49 c49_1 rfl (jm_call_v (a := 0) (as := []) (rest := []) lm_8_161 rfl jM37 rfl rfl rfl rfl rfl) jM37 rfl rfl).trans ?_
  refine jbv_c (fun τ1 => ?_)
  refine (sv_aload_n jM49 c49_4 rfl rfl).trans ?_
  refine (sv_getf jM49 c49_5 rfl lf_8_50 (fg_0_5 _)).trans ?_
  refine (sv_aload_n jM49 c49_8 rfl rfl).trans ?_
  refine (sv_getf jM49 c49_9 rfl lf_8_37 (fg_0_3 _)).trans ?_
  refine (sv_iload_n jM49 c49_12 rfl rfl).trans ?_
  refine (sv_callvv (pl := 0) jM49 c49_13 rfl (jm_call_v (a := 11) (as := [(.ref 6), (.int x1)]) (rest := []) lm_8_203 rfl jM50 rfl rfl rfl rfl rfl) jM50 rfl rfl).trans ?_
  refine jbv_c (fun τ2 => ?_)
  exact sv_vret jM49 c49_16 rfl rfl
set_option maxRecDepth 20000 in
set_option maxHeartbeats 4000000 in
theorem P_tellRule_in (x1 : Int32) (x2 : Int32) (σ : jm_S) : jc 55 [(.ref 0), (.int x1), (.int x2)] σ = jaa (x1 + (1 : Int32)) [42, 44, 47, 50] (fun q => jv 55 8 [some (.ref 0), some (.int x1), some (.int x2), none] [(.ref q)] σ) := by
  refine (jc_of (ls1 := [some (.ref 0), some (.int x1), some (.int x2), none]) ((jm_ini_of jM55).trans rfl)).trans ?_
  refine (sv_aload_n jM55 c55_0 rfl rfl).trans ?_
  refine (sv_getf jM55 c55_1 rfl lf_8_30 (fg_0_2 _)).trans ?_
  refine (sv_iload_n jM55 c55_4 rfl rfl).trans ?_
  refine (sv_iconst jM55 c55_5 rfl (v := 1) (by decide +kernel)).trans ?_
  refine (sv_iadd jM55 c55_6 rfl).trans ?_
  refine (sv_aald jM55 c55_7 rfl wr_5).trans ?_
  rfl
set_option maxRecDepth 20000 in
set_option maxHeartbeats 4000000 in
theorem P_tellRule_A8_42 (x1 : Int32) (x2 : Int32) (σ : jm_S) : jv 55 8 [some (.ref 0), some (.int x1), some (.int x2), none] [(.ref 42)] σ = (if (σ 42 3) = (-1 : Int32) then jaa x1 [46, 49, 52] (fun q => jv 55 24 [some (.ref 0), some (.int x1), some (.int x2), none] [(.ref q)] σ) else some (some (.int (-100003 : Int32)), σ)) := by
  refine (sv_getf jM55 c55_8 rfl lf_8_148 (fg_42_3 _)).trans ?_
  refine (sv_iconst jM55 c55_11 rfl (v := -1) (by decide +kernel)).trans ?_
  refine (sv_icmp_eq jM55 c55_12 rfl (t := 18) (by decide +kernel)).trans ?_
  refine jif _ ?_ ?_
  ·
    refine (sv_aload_n jM55 c55_18 rfl rfl).trans ?_
    refine (sv_getf jM55 c55_19 rfl lf_8_43 (fg_0_4 _)).trans ?_
    refine (sv_iload_n jM55 c55_22 rfl rfl).trans ?_
    refine (sv_aald jM55 c55_23 rfl wr_10).trans ?_
    rfl
  ·
    refine (sv_ldc jM55 c55_15 rfl lc_8_223).trans ?_
    exact sv_iret jM55 c55_17 rfl rfl
set_option maxRecDepth 20000 in
set_option maxHeartbeats 4000000 in
theorem P_tellRule_A8_44 (x1 : Int32) (x2 : Int32) (σ : jm_S) : jv 55 8 [some (.ref 0), some (.int x1), some (.int x2), none] [(.ref 44)] σ = (if (σ 44 3) = (-1 : Int32) then jaa x1 [46, 49, 52] (fun q => jv 55 24 [some (.ref 0), some (.int x1), some (.int x2), none] [(.ref q)] σ) else some (some (.int (-100003 : Int32)), σ)) := by
  refine (sv_getf jM55 c55_8 rfl lf_8_148 (fg_44_3 _)).trans ?_
  refine (sv_iconst jM55 c55_11 rfl (v := -1) (by decide +kernel)).trans ?_
  refine (sv_icmp_eq jM55 c55_12 rfl (t := 18) (by decide +kernel)).trans ?_
  refine jif _ ?_ ?_
  ·
    refine (sv_aload_n jM55 c55_18 rfl rfl).trans ?_
    refine (sv_getf jM55 c55_19 rfl lf_8_43 (fg_0_4 _)).trans ?_
    refine (sv_iload_n jM55 c55_22 rfl rfl).trans ?_
    refine (sv_aald jM55 c55_23 rfl wr_10).trans ?_
    rfl
  ·
    refine (sv_ldc jM55 c55_15 rfl lc_8_223).trans ?_
    exact sv_iret jM55 c55_17 rfl rfl
set_option maxRecDepth 20000 in
set_option maxHeartbeats 4000000 in
theorem P_tellRule_A8_47 (x1 : Int32) (x2 : Int32) (σ : jm_S) : jv 55 8 [some (.ref 0), some (.int x1), some (.int x2), none] [(.ref 47)] σ = (if (σ 47 3) = (-1 : Int32) then jaa x1 [46, 49, 52] (fun q => jv 55 24 [some (.ref 0), some (.int x1), some (.int x2), none] [(.ref q)] σ) else some (some (.int (-100003 : Int32)), σ)) := by
  refine (sv_getf jM55 c55_8 rfl lf_8_148 (fg_47_3 _)).trans ?_
  refine (sv_iconst jM55 c55_11 rfl (v := -1) (by decide +kernel)).trans ?_
  refine (sv_icmp_eq jM55 c55_12 rfl (t := 18) (by decide +kernel)).trans ?_
  refine jif _ ?_ ?_
  ·
    refine (sv_aload_n jM55 c55_18 rfl rfl).trans ?_
    refine (sv_getf jM55 c55_19 rfl lf_8_43 (fg_0_4 _)).trans ?_
    refine (sv_iload_n jM55 c55_22 rfl rfl).trans ?_
    refine (sv_aald jM55 c55_23 rfl wr_10).trans ?_
    rfl
  ·
    refine (sv_ldc jM55 c55_15 rfl lc_8_223).trans ?_
    exact sv_iret jM55 c55_17 rfl rfl
set_option maxRecDepth 20000 in
set_option maxHeartbeats 4000000 in
theorem P_tellRule_A8_50 (x1 : Int32) (x2 : Int32) (σ : jm_S) : jv 55 8 [some (.ref 0), some (.int x1), some (.int x2), none] [(.ref 50)] σ = (if (σ 50 3) = (-1 : Int32) then jaa x1 [46, 49, 52] (fun q => jv 55 24 [some (.ref 0), some (.int x1), some (.int x2), none] [(.ref q)] σ) else some (some (.int (-100003 : Int32)), σ)) := by
  refine (sv_getf jM55 c55_8 rfl lf_8_148 (fg_50_3 _)).trans ?_
  refine (sv_iconst jM55 c55_11 rfl (v := -1) (by decide +kernel)).trans ?_
  refine (sv_icmp_eq jM55 c55_12 rfl (t := 18) (by decide +kernel)).trans ?_
  refine jif _ ?_ ?_
  ·
    refine (sv_aload_n jM55 c55_18 rfl rfl).trans ?_
    refine (sv_getf jM55 c55_19 rfl lf_8_43 (fg_0_4 _)).trans ?_
    refine (sv_iload_n jM55 c55_22 rfl rfl).trans ?_
    refine (sv_aald jM55 c55_23 rfl wr_10).trans ?_
    rfl
  ·
    refine (sv_ldc jM55 c55_15 rfl lc_8_223).trans ?_
    exact sv_iret jM55 c55_17 rfl rfl
set_option maxRecDepth 20000 in
set_option maxHeartbeats 4000000 in
theorem P_tellRule_A24_46 (x1 : Int32) (x2 : Int32) (σ : jm_S) : jv 55 24 [some (.ref 0), some (.int x1), some (.int x2), none] [(.ref 46)] σ = jbi (jc 56 [(.ref 46), (.ref 11)] σ) (fun r1 τ1 => jv 55 33 [some (.ref 0), some (.int x1), some (.int x2), some (.int r1)] [(.int x2)] τ1) := by
  refine (sv_aload_n jM55 c55_24 rfl rfl).trans ?_
  refine (sv_getf jM55 c55_25 rfl lf_8_50 (fg_0_5 _)).trans ?_
  refine (sv_callvi (pl := 0) jM55 c55_28 rfl (jm_call_v (a := 46) (as := [(.ref 11)]) (rest := []) lm_8_337 rfl jM56 rfl rfl rfl rfl rfl) jM56 rfl (Or.inl rfl)).trans ?_
  refine jbi_c (fun r1 τ1 => ?_)
  refine (sv_istore_n (ls1 := [some (.ref 0), some (.int x1), some (.int x2), some (.int r1)]) jM55 c55_31 rfl (Nat.lt_of_lt_of_eq (by decide +kernel : 3 < 4) rfl) rfl).trans ?_
  refine (sv_iload_n jM55 c55_32 rfl rfl).trans ?_
  rfl
set_option maxRecDepth 20000 in
set_option maxHeartbeats 4000000 in
theorem P_tellRule_A24_49 (x1 : Int32) (x2 : Int32) (σ : jm_S) : jv 55 24 [some (.ref 0), some (.int x1), some (.int x2), none] [(.ref 49)] σ = jbi (jc 56 [(.ref 49), (.ref 11)] σ) (fun r1 τ1 => jv 55 33 [some (.ref 0), some (.int x1), some (.int x2), some (.int r1)] [(.int x2)] τ1) := by
  refine (sv_aload_n jM55 c55_24 rfl rfl).trans ?_
  refine (sv_getf jM55 c55_25 rfl lf_8_50 (fg_0_5 _)).trans ?_
  refine (sv_callvi (pl := 0) jM55 c55_28 rfl (jm_call_v (a := 49) (as := [(.ref 11)]) (rest := []) lm_8_337 rfl jM56 rfl rfl rfl rfl rfl) jM56 rfl (Or.inl rfl)).trans ?_
  refine jbi_c (fun r1 τ1 => ?_)
  refine (sv_istore_n (ls1 := [some (.ref 0), some (.int x1), some (.int x2), some (.int r1)]) jM55 c55_31 rfl (Nat.lt_of_lt_of_eq (by decide +kernel : 3 < 4) rfl) rfl).trans ?_
  refine (sv_iload_n jM55 c55_32 rfl rfl).trans ?_
  rfl
set_option maxRecDepth 20000 in
set_option maxHeartbeats 4000000 in
theorem P_tellRule_A24_52 (x1 : Int32) (x2 : Int32) (σ : jm_S) : jv 55 24 [some (.ref 0), some (.int x1), some (.int x2), none] [(.ref 52)] σ = jbi (jc 56 [(.ref 52), (.ref 11)] σ) (fun r1 τ1 => jv 55 33 [some (.ref 0), some (.int x1), some (.int x2), some (.int r1)] [(.int x2)] τ1) := by
  refine (sv_aload_n jM55 c55_24 rfl rfl).trans ?_
  refine (sv_getf jM55 c55_25 rfl lf_8_50 (fg_0_5 _)).trans ?_
  refine (sv_callvi (pl := 0) jM55 c55_28 rfl (jm_call_v (a := 52) (as := [(.ref 11)]) (rest := []) lm_8_337 rfl jM56 rfl rfl rfl rfl rfl) jM56 rfl (Or.inl rfl)).trans ?_
  refine jbi_c (fun r1 τ1 => ?_)
  refine (sv_istore_n (ls1 := [some (.ref 0), some (.int x1), some (.int x2), some (.int r1)]) jM55 c55_31 rfl (Nat.lt_of_lt_of_eq (by decide +kernel : 3 < 4) rfl) rfl).trans ?_
  refine (sv_iload_n jM55 c55_32 rfl rfl).trans ?_
  rfl
set_option maxRecDepth 20000 in
set_option maxHeartbeats 4000000 in
theorem P_tellRule_S33_0 (x1 : Int32) (x2 : Int32) (x3 : Int32) (σ : jm_S) : jv 55 33 [some (.ref 0), some (.int x1), some (.int x2), some (.int x3)] [(.int (0 : Int32))] σ = some (some (.int x3), σ) := by
  refine (sv_ts jM55 c55_33 rfl (by decide +kernel) (z := 35) (by decide +kernel) (t := 68) (by decide +kernel)).trans ?_
  refine (sv_iload_n jM55 c55_68 rfl rfl).trans ?_
  exact sv_iret jM55 c55_69 rfl rfl
set_option maxRecDepth 20000 in
set_option maxHeartbeats 4000000 in
theorem P_tellRule_S33_1 (x1 : Int32) (x2 : Int32) (x3 : Int32) (σ : jm_S) : jv 55 33 [some (.ref 0), some (.int x1), some (.int x2), some (.int x3)] [(.int (1 : Int32))] σ = jbi (jc 57 [(.ref 11), (.int x3)] σ) (fun r1 τ1 => some (some (.int r1), τ1)) := by
  refine (sv_ts jM55 c55_33 rfl (by decide +kernel) (z := 37) (by decide +kernel) (t := 70) (by decide +kernel)).trans ?_
  refine (sv_aload_n jM55 c55_70 rfl rfl).trans ?_
  refine (sv_getf jM55 c55_71 rfl lf_8_50 (fg_0_5 _)).trans ?_
  refine (sv_iload_n jM55 c55_74 rfl rfl).trans ?_
  refine (sv_callvi (pl := 0) jM55 c55_75 rfl (jm_call_v (a := 11) (as := [(.int x3)]) (rest := []) lm_8_331 rfl jM57 rfl rfl rfl rfl rfl) jM57 rfl (Or.inl rfl)).trans ?_
  refine jbi_c (fun r1 τ1 => ?_)
  exact sv_iret jM55 c55_78 rfl rfl
set_option maxRecDepth 20000 in
set_option maxHeartbeats 4000000 in
theorem P_tellRule_S33_2 (x1 : Int32) (x2 : Int32) (x3 : Int32) (σ : jm_S) : jv 55 33 [some (.ref 0), some (.int x1), some (.int x2), some (.int x3)] [(.int (2 : Int32))] σ = jbi (jc 59 [(.ref 11), (.int x3)] σ) (fun r1 τ1 => some (some (.int r1), τ1)) := by
  refine (sv_ts jM55 c55_33 rfl (by decide +kernel) (z := 46) (by decide +kernel) (t := 79) (by decide +kernel)).trans ?_
  refine (sv_aload_n jM55 c55_79 rfl rfl).trans ?_
  refine (sv_getf jM55 c55_80 rfl lf_8_50 (fg_0_5 _)).trans ?_
  refine (sv_iload_n jM55 c55_83 rfl rfl).trans ?_
  refine (sv_callvi (pl := 0) jM55 c55_84 rfl (jm_call_v (a := 11) (as := [(.int x3)]) (rest := []) lm_8_206 rfl jM59 rfl rfl rfl rfl rfl) jM59 rfl (Or.inl rfl)).trans ?_
  refine jbi_c (fun r1 τ1 => ?_)
  exact sv_iret jM55 c55_87 rfl rfl
set_option maxRecDepth 20000 in
set_option maxHeartbeats 4000000 in
theorem P_tellRule_S33_3 (x1 : Int32) (x2 : Int32) (x3 : Int32) (σ : jm_S) : jv 55 33 [some (.ref 0), some (.int x1), some (.int x2), some (.int x3)] [(.int (3 : Int32))] σ = jbi (jc 58 [(.ref 11), (.int x3)] σ) (fun r1 τ1 => some (some (.int r1), τ1)) := by
  refine (sv_ts jM55 c55_33 rfl (by decide +kernel) (z := 55) (by decide +kernel) (t := 88) (by decide +kernel)).trans ?_
  refine (sv_aload_n jM55 c55_88 rfl rfl).trans ?_
  refine (sv_getf jM55 c55_89 rfl lf_8_50 (fg_0_5 _)).trans ?_
  refine (sv_iload_n jM55 c55_92 rfl rfl).trans ?_
  refine (sv_callvi (pl := 0) jM55 c55_93 rfl (jm_call_v (a := 11) (as := [(.int x3)]) (rest := []) lm_8_334 rfl jM58 rfl rfl rfl rfl rfl) jM58 rfl (Or.inl rfl)).trans ?_
  refine jbi_c (fun r1 τ1 => ?_)
  exact sv_iret jM55 c55_96 rfl rfl
set_option maxRecDepth 20000 in
set_option maxHeartbeats 4000000 in
theorem P_tellRule_S33_4 (x1 : Int32) (x2 : Int32) (x3 : Int32) (σ : jm_S) : jv 55 33 [some (.ref 0), some (.int x1), some (.int x2), some (.int x3)] [(.int (4 : Int32))] σ = jbi (jc 60 [(.ref 11), (.int x3), (.int (σ 4 2))] σ) (fun r1 τ1 => some (some (.int r1), τ1)) := by
  refine (sv_ts jM55 c55_33 rfl (by decide +kernel) (z := 64) (by decide +kernel) (t := 97) (by decide +kernel)).trans ?_
  refine (sv_aload_n jM55 c55_97 rfl rfl).trans ?_
  refine (sv_getf jM55 c55_98 rfl lf_8_50 (fg_0_5 _)).trans ?_
  refine (sv_iload_n jM55 c55_101 rfl rfl).trans ?_
  refine (sv_aload_n jM55 c55_102 rfl rfl).trans ?_
  refine (sv_getf jM55 c55_103 rfl lf_8_25 (fg_0_1 _)).trans ?_
  refine (sv_iconst jM55 c55_106 rfl (v := 2) (by decide +kernel)).trans ?_
  refine (sv_iald1 jM55 c55_107 rfl (ia_4 _) (by decide +kernel) (i := 2) (by decide +kernel)).trans ?_
  refine (sv_callvi (pl := 0) jM55 c55_108 rfl (jm_call_v (a := 11) (as := [(.int x3), (.int (σ 4 2))]) (rest := []) lm_8_341 rfl jM60 rfl rfl rfl rfl rfl) jM60 rfl (Or.inl rfl)).trans ?_
  refine jbi_c (fun r1 τ1 => ?_)
  exact sv_iret jM55 c55_111 rfl rfl
set_option maxRecDepth 20000 in
set_option maxHeartbeats 4000000 in
theorem P_tellRule_S33_o (x1 : Int32) (x2 : Int32) (x3 : Int32) (y0 : Int32) (σ : jm_S) (hx : y0.toInt < 0 ∨ 4 < y0.toInt) : jv 55 33 [some (.ref 0), some (.int x1), some (.int x2), some (.int x3)] [(.int y0)] σ = jbi (jc 61 [(.ref 0), (.int x3)] σ) (fun r1 τ1 => some (some (.int r1), τ1)) := by
  refine (sv_tso jM55 c55_33 rfl (t := 112) (by decide +kernel) hx).trans ?_
  refine (sv_aload_n jM55 c55_112 rfl rfl).trans ?_
  refine (sv_iload_n jM55 c55_113 rfl rfl).trans ?_
  refine (sv_callvi (pl := 0) jM55 c55_114 rfl (jm_call_v (a := 0) (as := [(.int x3)]) (rest := []) lm_8_344 rfl jM61 rfl rfl rfl rfl rfl) jM61 rfl (Or.inl rfl)).trans ?_
  refine jbi_c (fun r1 τ1 => ?_)
  exact sv_iret jM55 c55_117 rfl rfl
set_option maxRecDepth 20000 in
set_option maxHeartbeats 4000000 in
theorem P_bestRule_in (σ : jm_S) : jc 63 [(.ref 0)] σ = jv 63 6 [some (.ref 0), some (.int (-1 : Int32)), some (.int (0 : Int32)), some (.int (0 : Int32)), none] [] σ := by
  refine (jc_of (ls1 := [some (.ref 0), none, none, none, none]) ((jm_ini_of jM63).trans rfl)).trans ?_
  refine (sv_iconst jM63 c63_0 rfl (v := -1) (by decide +kernel)).trans ?_
  refine (sv_istore_n (ls1 := [some (.ref 0), some (.int (-1 : Int32)), none, none, none]) jM63 c63_1 rfl (Nat.lt_of_lt_of_eq (by decide +kernel : 1 < 5) rfl) rfl).trans ?_
  refine (sv_iconst jM63 c63_2 rfl (v := 0) (by decide +kernel)).trans ?_
  refine (sv_istore_n (ls1 := [some (.ref 0), some (.int (-1 : Int32)), some (.int (0 : Int32)), none, none]) jM63 c63_3 rfl (Nat.lt_of_lt_of_eq (by decide +kernel : 2 < 5) rfl) rfl).trans ?_
  refine (sv_iconst jM63 c63_4 rfl (v := 0) (by decide +kernel)).trans ?_
  refine (sv_istore_n (ls1 := [some (.ref 0), some (.int (-1 : Int32)), some (.int (0 : Int32)), some (.int (0 : Int32)), none]) jM63 c63_5 rfl (Nat.lt_of_lt_of_eq (by decide +kernel : 3 < 5) rfl) rfl).trans ?_
  rfl
set_option maxRecDepth 20000 in
set_option maxHeartbeats 4000000 in
theorem P_bestRule_L6 (x1 : Int32) (x2 : Int32) (x3 : Int32) (u4 : Option Value) (σ : jm_S) : jv 63 6 [some (.ref 0), some (.int x1), some (.int x2), some (.int x3), u4] [] σ = (if (3 : Int32) ≤ x3 then some (some (.int x1), σ) else jaa (x3 + (1 : Int32)) [42, 44, 47, 50] (fun q => jv 63 19 [some (.ref 0), some (.int x1), some (.int x2), some (.int x3), u4] [(.ref q)] σ)) := by
  refine (sv_iload_n jM63 c63_6 rfl rfl).trans ?_
  refine (sv_iconst jM63 c63_7 rfl (v := 3) (by decide +kernel)).trans ?_
  refine (sv_icmp_ge jM63 c63_8 rfl (t := 56) (by decide +kernel)).trans ?_
  refine jif _ ?_ ?_
  ·
    refine (sv_iload_n jM63 c63_56 rfl rfl).trans ?_
    exact sv_iret jM63 c63_57 rfl rfl
  ·
    refine (sv_aload_n jM63 c63_11 rfl rfl).trans ?_
    refine (sv_getf jM63 c63_12 rfl lf_8_30 (fg_0_2 _)).trans ?_
    refine (sv_iload_n jM63 c63_15 rfl rfl).trans ?_
    refine (sv_iconst jM63 c63_16 rfl (v := 1) (by decide +kernel)).trans ?_
    refine (sv_iadd jM63 c63_17 rfl).trans ?_
    refine (sv_aald jM63 c63_18 rfl wr_5).trans ?_
    rfl
set_option maxRecDepth 20000 in
set_option maxHeartbeats 4000000 in
theorem P_bestRule_A19_42 (x1 : Int32) (x2 : Int32) (x3 : Int32) (u4 : Option Value) (σ : jm_S) : jv 63 19 [some (.ref 0), some (.int x1), some (.int x2), some (.int x3), u4] [(.ref 42)] σ = (if ¬ (σ 42 3) = (-1 : Int32) then jv 63 6 [some (.ref 0), some (.int x1), some (.int x2), some (.int (x3 + 1)), u4] [] σ else jbi (jc 55 [(.ref 0), (.int x3), (.int (5 : Int32))] σ) (fun r1 τ1 => (if x1 = (-1 : Int32) then jv 63 6 [some (.ref 0), some (.int x3), some (.int r1), some (.int (x3 + 1)), some (.int r1)] [] τ1 else (if r1 ≤ x2 then jv 63 6 [some (.ref 0), some (.int x1), some (.int x2), some (.int (x3 + 1)), some (.int r1)] [] τ1 else jv 63 6 [some (.ref 0), some (.int x3), some (.int r1), some (.int (x3 + 1)), some (.int r1)] [] τ1)))) := by
  refine (sv_getf jM63 c63_19 rfl lf_8_148 (fg_42_3 _)).trans ?_
  refine (sv_iconst jM63 c63_22 rfl (v := -1) (by decide +kernel)).trans ?_
  refine (sv_icmp_ne jM63 c63_23 rfl (t := 50) (by decide +kernel)).trans ?_
  refine jif _ ?_ ?_
  ·
    refine (sv_iinc (ls1 := [some (.ref 0), some (.int x1), some (.int x2), some (.int (x3 + 1)), u4]) jM63 c63_50 rfl rfl (v := 1) (by decide +kernel) rfl).trans ?_
    refine (sv_goto jM63 c63_53 rfl (t := 6) (by decide +kernel)).trans ?_
    rfl
  ·
    refine (sv_aload_n jM63 c63_26 rfl rfl).trans ?_
    refine (sv_iload_n jM63 c63_27 rfl rfl).trans ?_
    refine (sv_iconst jM63 c63_28 rfl (v := 5) (by decide +kernel)).trans ?_
    refine (sv_callvi (pl := 0) jM63 c63_29 rfl (jm_call_v (a := 0) (as := [(.int x3), (.int (5 : Int32))]) (rest := []) lm_8_181 rfl jM55 rfl rfl rfl rfl rfl) jM55 rfl (Or.inl rfl)).trans ?_
    refine jbi_c (fun r1 τ1 => ?_)
    refine (sv_istore (ls1 := [some (.ref 0), some (.int x1), some (.int x2), some (.int x3), some (.int r1)]) jM63 c63_32 rfl (Nat.lt_of_lt_of_eq (by decide +kernel : 4 < 5) rfl) rfl).trans ?_
    refine (sv_iload_n jM63 c63_34 rfl rfl).trans ?_
    refine (sv_iconst jM63 c63_35 rfl (v := -1) (by decide +kernel)).trans ?_
    refine (sv_icmp_eq jM63 c63_36 rfl (t := 45) (by decide +kernel)).trans ?_
    refine jif _ ?_ ?_
    ·
      refine (sv_iload_n jM63 c63_45 rfl rfl).trans ?_
      refine (sv_istore_n (ls1 := [some (.ref 0), some (.int x3), some (.int x2), some (.int x3), some (.int r1)]) jM63 c63_46 rfl (Nat.lt_of_lt_of_eq (by decide +kernel : 1 < 5) rfl) rfl).trans ?_
      refine (sv_iload jM63 c63_47 rfl rfl).trans ?_
      refine (sv_istore_n (ls1 := [some (.ref 0), some (.int x3), some (.int r1), some (.int x3), some (.int r1)]) jM63 c63_49 rfl (Nat.lt_of_lt_of_eq (by decide +kernel : 2 < 5) rfl) rfl).trans ?_
      refine (sv_iinc (ls1 := [some (.ref 0), some (.int x3), some (.int r1), some (.int (x3 + 1)), some (.int r1)]) jM63 c63_50 rfl rfl (v := 1) (by decide +kernel) rfl).trans ?_
      refine (sv_goto jM63 c63_53 rfl (t := 6) (by decide +kernel)).trans ?_
      rfl
    ·
      refine (sv_iload jM63 c63_39 rfl rfl).trans ?_
      refine (sv_iload_n jM63 c63_41 rfl rfl).trans ?_
      refine (sv_icmp_le jM63 c63_42 rfl (t := 50) (by decide +kernel)).trans ?_
      refine jif _ ?_ ?_
      ·
        refine (sv_iinc (ls1 := [some (.ref 0), some (.int x1), some (.int x2), some (.int (x3 + 1)), some (.int r1)]) jM63 c63_50 rfl rfl (v := 1) (by decide +kernel) rfl).trans ?_
        refine (sv_goto jM63 c63_53 rfl (t := 6) (by decide +kernel)).trans ?_
        rfl
      ·
        refine (sv_iload_n jM63 c63_45 rfl rfl).trans ?_
        refine (sv_istore_n (ls1 := [some (.ref 0), some (.int x3), some (.int x2), some (.int x3), some (.int r1)]) jM63 c63_46 rfl (Nat.lt_of_lt_of_eq (by decide +kernel : 1 < 5) rfl) rfl).trans ?_
        refine (sv_iload jM63 c63_47 rfl rfl).trans ?_
        refine (sv_istore_n (ls1 := [some (.ref 0), some (.int x3), some (.int r1), some (.int x3), some (.int r1)]) jM63 c63_49 rfl (Nat.lt_of_lt_of_eq (by decide +kernel : 2 < 5) rfl) rfl).trans ?_
        refine (sv_iinc (ls1 := [some (.ref 0), some (.int x3), some (.int r1), some (.int (x3 + 1)), some (.int r1)]) jM63 c63_50 rfl rfl (v := 1) (by decide +kernel) rfl).trans ?_
        refine (sv_goto jM63 c63_53 rfl (t := 6) (by decide +kernel)).trans ?_
        rfl
set_option maxRecDepth 20000 in
set_option maxHeartbeats 4000000 in
theorem P_bestRule_A19_44 (x1 : Int32) (x2 : Int32) (x3 : Int32) (u4 : Option Value) (σ : jm_S) : jv 63 19 [some (.ref 0), some (.int x1), some (.int x2), some (.int x3), u4] [(.ref 44)] σ = (if ¬ (σ 44 3) = (-1 : Int32) then jv 63 6 [some (.ref 0), some (.int x1), some (.int x2), some (.int (x3 + 1)), u4] [] σ else jbi (jc 55 [(.ref 0), (.int x3), (.int (5 : Int32))] σ) (fun r1 τ1 => (if x1 = (-1 : Int32) then jv 63 6 [some (.ref 0), some (.int x3), some (.int r1), some (.int (x3 + 1)), some (.int r1)] [] τ1 else (if r1 ≤ x2 then jv 63 6 [some (.ref 0), some (.int x1), some (.int x2), some (.int (x3 + 1)), some (.int r1)] [] τ1 else jv 63 6 [some (.ref 0), some (.int x3), some (.int r1), some (.int (x3 + 1)), some (.int r1)] [] τ1)))) := by
  refine (sv_getf jM63 c63_19 rfl lf_8_148 (fg_44_3 _)).trans ?_
  refine (sv_iconst jM63 c63_22 rfl (v := -1) (by decide +kernel)).trans ?_
  refine (sv_icmp_ne jM63 c63_23 rfl (t := 50) (by decide +kernel)).trans ?_
  refine jif _ ?_ ?_
  ·
    refine (sv_iinc (ls1 := [some (.ref 0), some (.int x1), some (.int x2), some (.int (x3 + 1)), u4]) jM63 c63_50 rfl rfl (v := 1) (by decide +kernel) rfl).trans ?_
    refine (sv_goto jM63 c63_53 rfl (t := 6) (by decide +kernel)).trans ?_
    rfl
  ·
    refine (sv_aload_n jM63 c63_26 rfl rfl).trans ?_
    refine (sv_iload_n jM63 c63_27 rfl rfl).trans ?_
    refine (sv_iconst jM63 c63_28 rfl (v := 5) (by decide +kernel)).trans ?_
    refine (sv_callvi (pl := 0) jM63 c63_29 rfl (jm_call_v (a := 0) (as := [(.int x3), (.int (5 : Int32))]) (rest := []) lm_8_181 rfl jM55 rfl rfl rfl rfl rfl) jM55 rfl (Or.inl rfl)).trans ?_
    refine jbi_c (fun r1 τ1 => ?_)
    refine (sv_istore (ls1 := [some (.ref 0), some (.int x1), some (.int x2), some (.int x3), some (.int r1)]) jM63 c63_32 rfl (Nat.lt_of_lt_of_eq (by decide +kernel : 4 < 5) rfl) rfl).trans ?_
    refine (sv_iload_n jM63 c63_34 rfl rfl).trans ?_
    refine (sv_iconst jM63 c63_35 rfl (v := -1) (by decide +kernel)).trans ?_
    refine (sv_icmp_eq jM63 c63_36 rfl (t := 45) (by decide +kernel)).trans ?_
    refine jif _ ?_ ?_
    ·
      refine (sv_iload_n jM63 c63_45 rfl rfl).trans ?_
      refine (sv_istore_n (ls1 := [some (.ref 0), some (.int x3), some (.int x2), some (.int x3), some (.int r1)]) jM63 c63_46 rfl (Nat.lt_of_lt_of_eq (by decide +kernel : 1 < 5) rfl) rfl).trans ?_
      refine (sv_iload jM63 c63_47 rfl rfl).trans ?_
      refine (sv_istore_n (ls1 := [some (.ref 0), some (.int x3), some (.int r1), some (.int x3), some (.int r1)]) jM63 c63_49 rfl (Nat.lt_of_lt_of_eq (by decide +kernel : 2 < 5) rfl) rfl).trans ?_
      refine (sv_iinc (ls1 := [some (.ref 0), some (.int x3), some (.int r1), some (.int (x3 + 1)), some (.int r1)]) jM63 c63_50 rfl rfl (v := 1) (by decide +kernel) rfl).trans ?_
      refine (sv_goto jM63 c63_53 rfl (t := 6) (by decide +kernel)).trans ?_
      rfl
    ·
      refine (sv_iload jM63 c63_39 rfl rfl).trans ?_
      refine (sv_iload_n jM63 c63_41 rfl rfl).trans ?_
      refine (sv_icmp_le jM63 c63_42 rfl (t := 50) (by decide +kernel)).trans ?_
      refine jif _ ?_ ?_
      ·
        refine (sv_iinc (ls1 := [some (.ref 0), some (.int x1), some (.int x2), some (.int (x3 + 1)), some (.int r1)]) jM63 c63_50 rfl rfl (v := 1) (by decide +kernel) rfl).trans ?_
        refine (sv_goto jM63 c63_53 rfl (t := 6) (by decide +kernel)).trans ?_
        rfl
      ·
        refine (sv_iload_n jM63 c63_45 rfl rfl).trans ?_
        refine (sv_istore_n (ls1 := [some (.ref 0), some (.int x3), some (.int x2), some (.int x3), some (.int r1)]) jM63 c63_46 rfl (Nat.lt_of_lt_of_eq (by decide +kernel : 1 < 5) rfl) rfl).trans ?_
        refine (sv_iload jM63 c63_47 rfl rfl).trans ?_
        refine (sv_istore_n (ls1 := [some (.ref 0), some (.int x3), some (.int r1), some (.int x3), some (.int r1)]) jM63 c63_49 rfl (Nat.lt_of_lt_of_eq (by decide +kernel : 2 < 5) rfl) rfl).trans ?_
        refine (sv_iinc (ls1 := [some (.ref 0), some (.int x3), some (.int r1), some (.int (x3 + 1)), some (.int r1)]) jM63 c63_50 rfl rfl (v := 1) (by decide +kernel) rfl).trans ?_
        refine (sv_goto jM63 c63_53 rfl (t := 6) (by decide +kernel)).trans ?_
        rfl
set_option maxRecDepth 20000 in
set_option maxHeartbeats 4000000 in
theorem P_bestRule_A19_47 (x1 : Int32) (x2 : Int32) (x3 : Int32) (u4 : Option Value) (σ : jm_S) : jv 63 19 [some (.ref 0), some (.int x1), some (.int x2), some (.int x3), u4] [(.ref 47)] σ = (if ¬ (σ 47 3) = (-1 : Int32) then jv 63 6 [some (.ref 0), some (.int x1), some (.int x2), some (.int (x3 + 1)), u4] [] σ else jbi (jc 55 [(.ref 0), (.int x3), (.int (5 : Int32))] σ) (fun r1 τ1 => (if x1 = (-1 : Int32) then jv 63 6 [some (.ref 0), some (.int x3), some (.int r1), some (.int (x3 + 1)), some (.int r1)] [] τ1 else (if r1 ≤ x2 then jv 63 6 [some (.ref 0), some (.int x1), some (.int x2), some (.int (x3 + 1)), some (.int r1)] [] τ1 else jv 63 6 [some (.ref 0), some (.int x3), some (.int r1), some (.int (x3 + 1)), some (.int r1)] [] τ1)))) := by
  refine (sv_getf jM63 c63_19 rfl lf_8_148 (fg_47_3 _)).trans ?_
  refine (sv_iconst jM63 c63_22 rfl (v := -1) (by decide +kernel)).trans ?_
  refine (sv_icmp_ne jM63 c63_23 rfl (t := 50) (by decide +kernel)).trans ?_
  refine jif _ ?_ ?_
  ·
    refine (sv_iinc (ls1 := [some (.ref 0), some (.int x1), some (.int x2), some (.int (x3 + 1)), u4]) jM63 c63_50 rfl rfl (v := 1) (by decide +kernel) rfl).trans ?_
    refine (sv_goto jM63 c63_53 rfl (t := 6) (by decide +kernel)).trans ?_
    rfl
  ·
    refine (sv_aload_n jM63 c63_26 rfl rfl).trans ?_
    refine (sv_iload_n jM63 c63_27 rfl rfl).trans ?_
    refine (sv_iconst jM63 c63_28 rfl (v := 5) (by decide +kernel)).trans ?_
    refine (sv_callvi (pl := 0) jM63 c63_29 rfl (jm_call_v (a := 0) (as := [(.int x3), (.int (5 : Int32))]) (rest := []) lm_8_181 rfl jM55 rfl rfl rfl rfl rfl) jM55 rfl (Or.inl rfl)).trans ?_
    refine jbi_c (fun r1 τ1 => ?_)
    refine (sv_istore (ls1 := [some (.ref 0), some (.int x1), some (.int x2), some (.int x3), some (.int r1)]) jM63 c63_32 rfl (Nat.lt_of_lt_of_eq (by decide +kernel : 4 < 5) rfl) rfl).trans ?_
    refine (sv_iload_n jM63 c63_34 rfl rfl).trans ?_
    refine (sv_iconst jM63 c63_35 rfl (v := -1) (by decide +kernel)).trans ?_
    refine (sv_icmp_eq jM63 c63_36 rfl (t := 45) (by decide +kernel)).trans ?_
    refine jif _ ?_ ?_
    ·
      refine (sv_iload_n jM63 c63_45 rfl rfl).trans ?_
      refine (sv_istore_n (ls1 := [some (.ref 0), some (.int x3), some (.int x2), some (.int x3), some (.int r1)]) jM63 c63_46 rfl (Nat.lt_of_lt_of_eq (by decide +kernel : 1 < 5) rfl) rfl).trans ?_
      refine (sv_iload jM63 c63_47 rfl rfl).trans ?_
      refine (sv_istore_n (ls1 := [some (.ref 0), some (.int x3), some (.int r1), some (.int x3), some (.int r1)]) jM63 c63_49 rfl (Nat.lt_of_lt_of_eq (by decide +kernel : 2 < 5) rfl) rfl).trans ?_
      refine (sv_iinc (ls1 := [some (.ref 0), some (.int x3), some (.int r1), some (.int (x3 + 1)), some (.int r1)]) jM63 c63_50 rfl rfl (v := 1) (by decide +kernel) rfl).trans ?_
      refine (sv_goto jM63 c63_53 rfl (t := 6) (by decide +kernel)).trans ?_
      rfl
    ·
      refine (sv_iload jM63 c63_39 rfl rfl).trans ?_
      refine (sv_iload_n jM63 c63_41 rfl rfl).trans ?_
      refine (sv_icmp_le jM63 c63_42 rfl (t := 50) (by decide +kernel)).trans ?_
      refine jif _ ?_ ?_
      ·
        refine (sv_iinc (ls1 := [some (.ref 0), some (.int x1), some (.int x2), some (.int (x3 + 1)), some (.int r1)]) jM63 c63_50 rfl rfl (v := 1) (by decide +kernel) rfl).trans ?_
        refine (sv_goto jM63 c63_53 rfl (t := 6) (by decide +kernel)).trans ?_
        rfl
      ·
        refine (sv_iload_n jM63 c63_45 rfl rfl).trans ?_
        refine (sv_istore_n (ls1 := [some (.ref 0), some (.int x3), some (.int x2), some (.int x3), some (.int r1)]) jM63 c63_46 rfl (Nat.lt_of_lt_of_eq (by decide +kernel : 1 < 5) rfl) rfl).trans ?_
        refine (sv_iload jM63 c63_47 rfl rfl).trans ?_
        refine (sv_istore_n (ls1 := [some (.ref 0), some (.int x3), some (.int r1), some (.int x3), some (.int r1)]) jM63 c63_49 rfl (Nat.lt_of_lt_of_eq (by decide +kernel : 2 < 5) rfl) rfl).trans ?_
        refine (sv_iinc (ls1 := [some (.ref 0), some (.int x3), some (.int r1), some (.int (x3 + 1)), some (.int r1)]) jM63 c63_50 rfl rfl (v := 1) (by decide +kernel) rfl).trans ?_
        refine (sv_goto jM63 c63_53 rfl (t := 6) (by decide +kernel)).trans ?_
        rfl
set_option maxRecDepth 20000 in
set_option maxHeartbeats 4000000 in
theorem P_bestRule_A19_50 (x1 : Int32) (x2 : Int32) (x3 : Int32) (u4 : Option Value) (σ : jm_S) : jv 63 19 [some (.ref 0), some (.int x1), some (.int x2), some (.int x3), u4] [(.ref 50)] σ = (if ¬ (σ 50 3) = (-1 : Int32) then jv 63 6 [some (.ref 0), some (.int x1), some (.int x2), some (.int (x3 + 1)), u4] [] σ else jbi (jc 55 [(.ref 0), (.int x3), (.int (5 : Int32))] σ) (fun r1 τ1 => (if x1 = (-1 : Int32) then jv 63 6 [some (.ref 0), some (.int x3), some (.int r1), some (.int (x3 + 1)), some (.int r1)] [] τ1 else (if r1 ≤ x2 then jv 63 6 [some (.ref 0), some (.int x1), some (.int x2), some (.int (x3 + 1)), some (.int r1)] [] τ1 else jv 63 6 [some (.ref 0), some (.int x3), some (.int r1), some (.int (x3 + 1)), some (.int r1)] [] τ1)))) := by
  refine (sv_getf jM63 c63_19 rfl lf_8_148 (fg_50_3 _)).trans ?_
  refine (sv_iconst jM63 c63_22 rfl (v := -1) (by decide +kernel)).trans ?_
  refine (sv_icmp_ne jM63 c63_23 rfl (t := 50) (by decide +kernel)).trans ?_
  refine jif _ ?_ ?_
  ·
    refine (sv_iinc (ls1 := [some (.ref 0), some (.int x1), some (.int x2), some (.int (x3 + 1)), u4]) jM63 c63_50 rfl rfl (v := 1) (by decide +kernel) rfl).trans ?_
    refine (sv_goto jM63 c63_53 rfl (t := 6) (by decide +kernel)).trans ?_
    rfl
  ·
    refine (sv_aload_n jM63 c63_26 rfl rfl).trans ?_
    refine (sv_iload_n jM63 c63_27 rfl rfl).trans ?_
    refine (sv_iconst jM63 c63_28 rfl (v := 5) (by decide +kernel)).trans ?_
    refine (sv_callvi (pl := 0) jM63 c63_29 rfl (jm_call_v (a := 0) (as := [(.int x3), (.int (5 : Int32))]) (rest := []) lm_8_181 rfl jM55 rfl rfl rfl rfl rfl) jM55 rfl (Or.inl rfl)).trans ?_
    refine jbi_c (fun r1 τ1 => ?_)
    refine (sv_istore (ls1 := [some (.ref 0), some (.int x1), some (.int x2), some (.int x3), some (.int r1)]) jM63 c63_32 rfl (Nat.lt_of_lt_of_eq (by decide +kernel : 4 < 5) rfl) rfl).trans ?_
    refine (sv_iload_n jM63 c63_34 rfl rfl).trans ?_
    refine (sv_iconst jM63 c63_35 rfl (v := -1) (by decide +kernel)).trans ?_
    refine (sv_icmp_eq jM63 c63_36 rfl (t := 45) (by decide +kernel)).trans ?_
    refine jif _ ?_ ?_
    ·
      refine (sv_iload_n jM63 c63_45 rfl rfl).trans ?_
      refine (sv_istore_n (ls1 := [some (.ref 0), some (.int x3), some (.int x2), some (.int x3), some (.int r1)]) jM63 c63_46 rfl (Nat.lt_of_lt_of_eq (by decide +kernel : 1 < 5) rfl) rfl).trans ?_
      refine (sv_iload jM63 c63_47 rfl rfl).trans ?_
      refine (sv_istore_n (ls1 := [some (.ref 0), some (.int x3), some (.int r1), some (.int x3), some (.int r1)]) jM63 c63_49 rfl (Nat.lt_of_lt_of_eq (by decide +kernel : 2 < 5) rfl) rfl).trans ?_
      refine (sv_iinc (ls1 := [some (.ref 0), some (.int x3), some (.int r1), some (.int (x3 + 1)), some (.int r1)]) jM63 c63_50 rfl rfl (v := 1) (by decide +kernel) rfl).trans ?_
      refine (sv_goto jM63 c63_53 rfl (t := 6) (by decide +kernel)).trans ?_
      rfl
    ·
      refine (sv_iload jM63 c63_39 rfl rfl).trans ?_
      refine (sv_iload_n jM63 c63_41 rfl rfl).trans ?_
      refine (sv_icmp_le jM63 c63_42 rfl (t := 50) (by decide +kernel)).trans ?_
      refine jif _ ?_ ?_
      ·
        refine (sv_iinc (ls1 := [some (.ref 0), some (.int x1), some (.int x2), some (.int (x3 + 1)), some (.int r1)]) jM63 c63_50 rfl rfl (v := 1) (by decide +kernel) rfl).trans ?_
        refine (sv_goto jM63 c63_53 rfl (t := 6) (by decide +kernel)).trans ?_
        rfl
      ·
        refine (sv_iload_n jM63 c63_45 rfl rfl).trans ?_
        refine (sv_istore_n (ls1 := [some (.ref 0), some (.int x3), some (.int x2), some (.int x3), some (.int r1)]) jM63 c63_46 rfl (Nat.lt_of_lt_of_eq (by decide +kernel : 1 < 5) rfl) rfl).trans ?_
        refine (sv_iload jM63 c63_47 rfl rfl).trans ?_
        refine (sv_istore_n (ls1 := [some (.ref 0), some (.int x3), some (.int r1), some (.int x3), some (.int r1)]) jM63 c63_49 rfl (Nat.lt_of_lt_of_eq (by decide +kernel : 2 < 5) rfl) rfl).trans ?_
        refine (sv_iinc (ls1 := [some (.ref 0), some (.int x3), some (.int r1), some (.int (x3 + 1)), some (.int r1)]) jM63 c63_50 rfl rfl (v := 1) (by decide +kernel) rfl).trans ?_
        refine (sv_goto jM63 c63_53 rfl (t := 6) (by decide +kernel)).trans ?_
        rfl
set_option maxRecDepth 20000 in
set_option maxHeartbeats 4000000 in
theorem P_tryHeats_in (x1 : Int32) (σ : jm_S) : jc 65 [(.ref 0), (.int x1)] σ = jv 65 2 [some (.ref 0), some (.int x1), some (.int (1 : Int32))] [] σ := by
  refine (jc_of (ls1 := [some (.ref 0), some (.int x1), none]) ((jm_ini_of jM65).trans rfl)).trans ?_
  refine (sv_iconst jM65 c65_0 rfl (v := 1) (by decide +kernel)).trans ?_
  refine (sv_istore_n (ls1 := [some (.ref 0), some (.int x1), some (.int (1 : Int32))]) jM65 c65_1 rfl (Nat.lt_of_lt_of_eq (by decide +kernel : 2 < 3) rfl) rfl).trans ?_
  rfl
set_option maxRecDepth 20000 in
set_option maxHeartbeats 4000000 in
theorem P_tryHeats_L2 (x1 : Int32) (x2 : Int32) (σ : jm_S) : jv 65 2 [some (.ref 0), some (.int x1), some (.int x2)] [] σ = (if (99 : Int32) < x2 then some (none, σ) else jbv (jc 37 [(.ref 0)] σ) (fun τ1 => jbv (jc 66 [(.ref 11), (.int x2), (.int x1)] τ1) (fun τ2 => jbi (jc 51 [(.ref 11), (.int x1)] τ2) (fun r3 τ3 => (if x2 < 0 ∨ 100 ≤ x2.toNatClampNeg then none else jbi (jc 58 [(.ref 11), (.int x1)] (jm_up τ3 36 x2.toNatClampNeg r3)) (fun r4 τ4 => (if x2 < 0 ∨ 100 ≤ x2.toNatClampNeg then none else jv 65 2 [some (.ref 0), some (.int x1), some (.int (x2 + 1))] [] (jm_up τ4 37 x2.toNatClampNeg r4)))))))) := by
  refine (sv_iload_n jM65 c65_2 rfl rfl).trans ?_
  refine (sv_bipush jM65 c65_3 rfl (v := 99) (by decide +kernel)).trans ?_
  refine (sv_icmp_gt jM65 c65_5 rfl (t := 61) (by decide +kernel)).trans ?_
  refine jif _ ?_ ?_
  ·
    exact sv_vret jM65 c65_61 rfl rfl
  ·
    refine (sv_aload_n jM65 c65_8 rfl rfl).trans ?_
    refine (sv_callvv (pl := 0) jM65 c65_9 rfl (jm_call_v (a := 0) (as := []) (rest := []) lm_8_161 rfl jM37 rfl rfl rfl rfl rfl) jM37 rfl rfl).trans ?_
    refine jbv_c (fun τ1 => ?_)
    refine (sv_aload_n jM65 c65_12 rfl rfl).trans ?_
    refine (sv_getf jM65 c65_13 rfl lf_8_50 (fg_0_5 _)).trans ?_
    refine (sv_iload_n jM65 c65_16 rfl rfl).trans ?_
    refine (sv_iload_n jM65 c65_17 rfl rfl).trans ?_
    refine (sv_callvv (pl := 0) jM65 c65_18 rfl (jm_call_v (a := 11) (as := [(.int x2), (.int x1)]) (rest := []) lm_8_347 rfl jM66 rfl rfl rfl rfl rfl) jM66 rfl rfl).trans ?_
    refine jbv_c (fun τ2 => ?_)
    refine (sv_aload_n jM65 c65_21 rfl rfl).trans ?_
    refine (sv_getf jM65 c65_22 rfl lf_8_60 (fg_0_7 _)).trans ?_
    refine (sv_getf jM65 c65_25 rfl lf_8_350 (fg_35_0 _)).trans ?_
    refine (sv_iload_n jM65 c65_28 rfl rfl).trans ?_
    refine (sv_aload_n jM65 c65_29 rfl rfl).trans ?_
    refine (sv_getf jM65 c65_30 rfl lf_8_50 (fg_0_5 _)).trans ?_
    refine (sv_iload_n jM65 c65_33 rfl rfl).trans ?_
    refine (sv_callvi (pl := 0) jM65 c65_34 rfl (jm_call_v (a := 11) (as := [(.int x1)]) (rest := [(.int x2), (.ref 36)]) lm_8_174 rfl jM51 rfl rfl rfl rfl rfl) jM51 rfl (Or.inl rfl)).trans ?_
    refine jbi_c (fun r3 τ3 => ?_)
    refine (sv_iast jM65 c65_37 rfl wi_36).trans ?_
    refine jif _ rfl ?_
    refine (sv_aload_n jM65 c65_38 rfl rfl).trans ?_
    refine (sv_getf jM65 c65_39 rfl lf_8_60 (fg_0_7 _)).trans ?_
    refine (sv_getf jM65 c65_42 rfl lf_8_353 (fg_35_1 _)).trans ?_
    refine (sv_iload_n jM65 c65_45 rfl rfl).trans ?_
    refine (sv_aload_n jM65 c65_46 rfl rfl).trans ?_
    refine (sv_getf jM65 c65_47 rfl lf_8_50 (fg_0_5 _)).trans ?_
    refine (sv_iload_n jM65 c65_50 rfl rfl).trans ?_
    refine (sv_callvi (pl := 0) jM65 c65_51 rfl (jm_call_v (a := 11) (as := [(.int x1)]) (rest := [(.int x2), (.ref 37)]) lm_8_334 rfl jM58 rfl rfl rfl rfl rfl) jM58 rfl (Or.inl rfl)).trans ?_
    refine jbi_c (fun r4 τ4 => ?_)
    refine (sv_iast jM65 c65_54 rfl wi_37).trans ?_
    refine jif _ rfl ?_
    refine (sv_iinc (ls1 := [some (.ref 0), some (.int x1), some (.int (x2 + 1))]) jM65 c65_55 rfl rfl (v := 1) (by decide +kernel) rfl).trans ?_
    refine (sv_goto jM65 c65_58 rfl (t := 2) (by decide +kernel)).trans ?_
    rfl
set_option maxRecDepth 20000 in
set_option maxHeartbeats 4000000 in
theorem P_sieve_in (x1 : Int32) (x2 : Int32) (σ : jm_S) : jc 80 [(.ref 0), (.int x1), (.int x2)] σ = jbv (jc 37 [(.ref 0)] σ) (fun τ1 => jv 80 6 [some (.ref 0), some (.int x1), some (.int x2), some (.int (0 : Int32))] [] τ1) := by
  refine (jc_of (ls1 := [some (.ref 0), some (.int x1), some (.int x2), none]) ((jm_ini_of jM80).trans rfl)).trans ?_
  refine (sv_aload_n jM80 c80_0 rfl rfl).trans ?_
  refine (sv_callvv (pl := 0) jM80 c80_1 rfl (jm_call_v (a := 0) (as := []) (rest := []) lm_8_161 rfl jM37 rfl rfl rfl rfl rfl) jM37 rfl rfl).trans ?_
  refine jbv_c (fun τ1 => ?_)
  refine (sv_iconst jM80 c80_4 rfl (v := 0) (by decide +kernel)).trans ?_
  refine (sv_istore_n (ls1 := [some (.ref 0), some (.int x1), some (.int x2), some (.int (0 : Int32))]) jM80 c80_5 rfl (Nat.lt_of_lt_of_eq (by decide +kernel : 3 < 4) rfl) rfl).trans ?_
  rfl
set_option maxRecDepth 20000 in
set_option maxHeartbeats 4000000 in
theorem P_sieve_L6 (x1 : Int32) (x2 : Int32) (x3 : Int32) (σ : jm_S) : jv 80 6 [some (.ref 0), some (.int x1), some (.int x2), some (.int x3)] [] σ = (if (σ 1 2) ≤ x3 then jbv (jc 50 [(.ref 11), (.ref 6), (.int x2)] σ) (fun τ1 => some (none, τ1)) else jbi (jc 12 [(.ref 1), (.int x3), (.int (2 : Int32))] σ) (fun r2 τ2 => (if x1 ≤ r2 then jv 80 6 [some (.ref 0), some (.int x1), some (.int x2), some (.int (x3 + 1))] [] τ2 else jbv (jc 78 [(.ref 11), (.int x3)] τ2) (fun τ3 => jv 80 6 [some (.ref 0), some (.int x1), some (.int x2), some (.int (x3 + 1))] [] τ3)))) := by
  refine (sv_iload_n jM80 c80_6 rfl rfl).trans ?_
  refine (sv_aload_n jM80 c80_7 rfl rfl).trans ?_
  refine (sv_getf jM80 c80_8 rfl lf_8_10 (fg_0_0 _)).trans ?_
  refine (sv_getf jM80 c80_11 rfl lf_8_131 (fg_1_2 _)).trans ?_
  refine (sv_icmp_ge jM80 c80_14 rfl (t := 44) (by decide +kernel)).trans ?_
  refine jif _ ?_ ?_
  ·
    refine (sv_aload_n jM80 c80_44 rfl rfl).trans ?_
    refine (sv_getf jM80 c80_45 rfl lf_8_50 (fg_0_5 _)).trans ?_
    refine (sv_aload_n jM80 c80_48 rfl rfl).trans ?_
    refine (sv_getf jM80 c80_49 rfl lf_8_37 (fg_0_3 _)).trans ?_
    refine (sv_iload_n jM80 c80_52 rfl rfl).trans ?_
    refine (sv_callvv (pl := 0) jM80 c80_53 rfl (jm_call_v (a := 11) (as := [(.ref 6), (.int x2)]) (rest := []) lm_8_203 rfl jM50 rfl rfl rfl rfl rfl) jM50 rfl rfl).trans ?_
    refine jbv_c (fun τ1 => ?_)
    exact sv_vret jM80 c80_56 rfl rfl
  ·
    refine (sv_aload_n jM80 c80_17 rfl rfl).trans ?_
    refine (sv_getf jM80 c80_18 rfl lf_8_10 (fg_0_0 _)).trans ?_
    refine (sv_iload_n jM80 c80_21 rfl rfl).trans ?_
    refine (sv_iconst jM80 c80_22 rfl (v := 2) (by decide +kernel)).trans ?_
    refine (sv_callvi (pl := 0) jM80 c80_23 rfl (jm_call_v (a := 1) (as := [(.int x3), (.int (2 : Int32))]) (rest := []) lm_8_123 rfl jM12 rfl rfl rfl rfl rfl) jM12 rfl (Or.inl rfl)).trans ?_
    refine jbi_c (fun r2 τ2 => ?_)
    refine (sv_iload_n jM80 c80_26 rfl rfl).trans ?_
    refine (sv_icmp_ge jM80 c80_27 rfl (t := 38) (by decide +kernel)).trans ?_
    refine jif _ ?_ ?_
    ·
      refine (sv_iinc (ls1 := [some (.ref 0), some (.int x1), some (.int x2), some (.int (x3 + 1))]) jM80 c80_38 rfl rfl (v := 1) (by decide +kernel) rfl).trans ?_
      refine (sv_goto jM80 c80_41 rfl (t := 6) (by decide +kernel)).trans ?_
      rfl
    ·
      refine (sv_aload_n jM80 c80_30 rfl rfl).trans ?_
      refine (sv_getf jM80 c80_31 rfl lf_8_50 (fg_0_5 _)).trans ?_
      refine (sv_iload_n jM80 c80_34 rfl rfl).trans ?_
      refine (sv_callvv (pl := 0) jM80 c80_35 rfl (jm_call_v (a := 11) (as := [(.int x3)]) (rest := []) lm_8_220 rfl jM78 rfl rfl rfl rfl rfl) jM78 rfl rfl).trans ?_
      refine jbv_c (fun τ3 => ?_)
      refine (sv_iinc (ls1 := [some (.ref 0), some (.int x1), some (.int x2), some (.int (x3 + 1))]) jM80 c80_38 rfl rfl (v := 1) (by decide +kernel) rfl).trans ?_
      refine (sv_goto jM80 c80_41 rfl (t := 6) (by decide +kernel)).trans ?_
      rfl
set_option maxRecDepth 20000 in
set_option maxHeartbeats 4000000 in
theorem P_tellSieved_in (x1 : Int32) (x2 : Int32) (σ : jm_S) : jc 81 [(.ref 0), (.int x1), (.int x2)] σ = jv 81 1 [some (.ref 0), some (.int x1), some (.int x2)] [(.int x2)] σ := by
  refine (jc_of (ls1 := [some (.ref 0), some (.int x1), some (.int x2)]) ((jm_ini_of jM81).trans rfl)).trans ?_
  refine (sv_iload_n jM81 c81_0 rfl rfl).trans ?_
  rfl
set_option maxRecDepth 20000 in
set_option maxHeartbeats 4000000 in
theorem P_tellSieved_S1_0 (x1 : Int32) (x2 : Int32) (σ : jm_S) : jv 81 1 [some (.ref 0), some (.int x1), some (.int x2)] [(.int (0 : Int32))] σ = jbi (jc 51 [(.ref 11), (.int x1)] σ) (fun r1 τ1 => some (some (.int r1), τ1)) := by
  refine (sv_ts jM81 c81_1 rfl (by decide +kernel) (z := 27) (by decide +kernel) (t := 28) (by decide +kernel)).trans ?_
  refine (sv_aload_n jM81 c81_28 rfl rfl).trans ?_
  refine (sv_getf jM81 c81_29 rfl lf_8_50 (fg_0_5 _)).trans ?_
  refine (sv_iload_n jM81 c81_32 rfl rfl).trans ?_
  refine (sv_callvi (pl := 0) jM81 c81_33 rfl (jm_call_v (a := 11) (as := [(.int x1)]) (rest := []) lm_8_174 rfl jM51 rfl rfl rfl rfl rfl) jM51 rfl (Or.inl rfl)).trans ?_
  refine jbi_c (fun r1 τ1 => ?_)
  exact sv_iret jM81 c81_36 rfl rfl
set_option maxRecDepth 20000 in
set_option maxHeartbeats 4000000 in
theorem P_tellSieved_S1_1 (x1 : Int32) (x2 : Int32) (σ : jm_S) : jv 81 1 [some (.ref 0), some (.int x1), some (.int x2)] [(.int (1 : Int32))] σ = jbi (jc 59 [(.ref 11), (.int x1)] σ) (fun r1 τ1 => some (some (.int r1), τ1)) := by
  refine (sv_ts jM81 c81_1 rfl (by decide +kernel) (z := 36) (by decide +kernel) (t := 37) (by decide +kernel)).trans ?_
  refine (sv_aload_n jM81 c81_37 rfl rfl).trans ?_
  refine (sv_getf jM81 c81_38 rfl lf_8_50 (fg_0_5 _)).trans ?_
  refine (sv_iload_n jM81 c81_41 rfl rfl).trans ?_
  refine (sv_callvi (pl := 0) jM81 c81_42 rfl (jm_call_v (a := 11) (as := [(.int x1)]) (rest := []) lm_8_206 rfl jM59 rfl rfl rfl rfl rfl) jM59 rfl (Or.inl rfl)).trans ?_
  refine jbi_c (fun r1 τ1 => ?_)
  exact sv_iret jM81 c81_45 rfl rfl
set_option maxRecDepth 20000 in
set_option maxHeartbeats 4000000 in
theorem P_tellSieved_S1_2 (x1 : Int32) (x2 : Int32) (σ : jm_S) : jv 81 1 [some (.ref 0), some (.int x1), some (.int x2)] [(.int (2 : Int32))] σ = jbi (jc 57 [(.ref 11), (.int x1)] σ) (fun r1 τ1 => some (some (.int r1), τ1)) := by
  refine (sv_ts jM81 c81_1 rfl (by decide +kernel) (z := 45) (by decide +kernel) (t := 46) (by decide +kernel)).trans ?_
  refine (sv_aload_n jM81 c81_46 rfl rfl).trans ?_
  refine (sv_getf jM81 c81_47 rfl lf_8_50 (fg_0_5 _)).trans ?_
  refine (sv_iload_n jM81 c81_50 rfl rfl).trans ?_
  refine (sv_callvi (pl := 0) jM81 c81_51 rfl (jm_call_v (a := 11) (as := [(.int x1)]) (rest := []) lm_8_331 rfl jM57 rfl rfl rfl rfl rfl) jM57 rfl (Or.inl rfl)).trans ?_
  refine jbi_c (fun r1 τ1 => ?_)
  exact sv_iret jM81 c81_54 rfl rfl
set_option maxRecDepth 20000 in
set_option maxHeartbeats 4000000 in
theorem P_tellSieved_S1_o (x1 : Int32) (x2 : Int32) (y0 : Int32) (σ : jm_S) (hx : y0.toInt < 0 ∨ 2 < y0.toInt) : jv 81 1 [some (.ref 0), some (.int x1), some (.int x2)] [(.int y0)] σ = jbi (jc 58 [(.ref 11), (.int x1)] σ) (fun r1 τ1 => some (some (.int r1), τ1)) := by
  refine (sv_tso jM81 c81_1 rfl (t := 55) (by decide +kernel) hx).trans ?_
  refine (sv_aload_n jM81 c81_55 rfl rfl).trans ?_
  refine (sv_getf jM81 c81_56 rfl lf_8_50 (fg_0_5 _)).trans ?_
  refine (sv_iload_n jM81 c81_59 rfl rfl).trans ?_
  refine (sv_callvi (pl := 0) jM81 c81_60 rfl (jm_call_v (a := 11) (as := [(.int x1)]) (rest := []) lm_8_334 rfl jM58 rfl rfl rfl rfl rfl) jM58 rfl (Or.inl rfl)).trans ?_
  refine jbi_c (fun r1 τ1 => ?_)
  exact sv_iret jM81 c81_63 rfl rfl
set_option maxRecDepth 20000 in
set_option maxHeartbeats 4000000 in
theorem P_isNoWater_in (x0 : Int32) (σ : jm_S) : jc 83 [(.int x0)] σ = jbi (jc 3 [(.int (0 : Int32)), (.int x0)] σ) (fun r1 τ1 => (if ¬ r1 = 0 then some (some (.int (0 : Int32)), τ1) else some (some (.int (1 : Int32)), τ1))) := by
  refine (jc_of (ls1 := [some (.int x0)]) ((jm_ini_of jM83).trans rfl)).trans ?_
  refine (sv_iconst jM83 c83_0 rfl (v := 0) (by decide +kernel)).trans ?_
  refine (sv_iload_n jM83 c83_1 rfl rfl).trans ?_
  refine (sv_callsi (pl := 0) jM83 c83_2 rfl (jm_call_s (as := [(.int (0 : Int32)), (.int x0)]) (rest := []) lm_8_119 rfl jM3 rfl rfl rfl rfl) jM3 rfl (Or.inr rfl)).trans ?_
  refine jbi_c (fun r1 τ1 => ?_)
  refine (sv_if_ne jM83 c83_5 rfl (t := 12) (by decide +kernel)).trans ?_
  refine jif _ ?_ ?_
  ·
    refine (sv_iconst jM83 c83_12 rfl (v := 0) (by decide +kernel)).trans ?_
    exact sv_zret jM83 c83_13 rfl rfl (by decide +kernel)
  ·
    refine (sv_iconst jM83 c83_8 rfl (v := 1) (by decide +kernel)).trans ?_
    refine (sv_goto jM83 c83_9 rfl (t := 13) (by decide +kernel)).trans ?_
    exact sv_zret jM83 c83_13 rfl rfl (by decide +kernel)
set_option maxRecDepth 20000 in
set_option maxHeartbeats 4000000 in
theorem P_nextDay_in (x0 : Int32) (x1 : Int32) (σ : jm_S) : jc 84 [(.int x0), (.int x1)] σ = (if x1 ≤ x0 then some (some (.int (x0 - (((if 0 ≤ (x1 - x0) then (x1 - x0) else 0 - (x1 - x0)) + (3 : Int32)) / (4 : Int32)))), σ) else some (some (.int (x0 + (((if 0 ≤ (x1 - x0) then (x1 - x0) else 0 - (x1 - x0)) + (3 : Int32)) / (4 : Int32)))), σ)) := by
  refine (jc_of (ls1 := [some (.int x0), some (.int x1), none]) ((jm_ini_of jM84).trans rfl)).trans ?_
  refine (sv_iload_n jM84 c84_0 rfl rfl).trans ?_
  refine (sv_iload_n jM84 c84_1 rfl rfl).trans ?_
  refine (sv_isub jM84 c84_2 rfl).trans ?_
  refine (sv_abs jM84 c84_3 rfl lm_8_363 (Nat.not_lt.mpr (Nat.le_of_ble_eq_true rfl))).trans ?_
  refine (sv_iconst jM84 c84_6 rfl (v := 3) (by decide +kernel)).trans ?_
  refine (sv_iadd jM84 c84_7 rfl).trans ?_
  refine (sv_iconst jM84 c84_8 rfl (v := 4) (by decide +kernel)).trans ?_
  refine (sv_idiv jM84 c84_9 rfl (by decide +kernel)).trans ?_
  refine (sv_istore_n (ls1 := [some (.int x0), some (.int x1), some (.int (((if 0 ≤ (x1 - x0) then (x1 - x0) else 0 - (x1 - x0)) + (3 : Int32)) / (4 : Int32)))]) jM84 c84_10 rfl (Nat.lt_of_lt_of_eq (by decide +kernel : 2 < 3) rfl) rfl).trans ?_
  refine (sv_iload_n jM84 c84_11 rfl rfl).trans ?_
  refine (sv_iload_n jM84 c84_12 rfl rfl).trans ?_
  refine (sv_icmp_le jM84 c84_13 rfl (t := 22) (by decide +kernel)).trans ?_
  refine jif _ ?_ ?_
  ·
    refine (sv_iload_n jM84 c84_22 rfl rfl).trans ?_
    refine (sv_iload_n jM84 c84_23 rfl rfl).trans ?_
    refine (sv_isub jM84 c84_24 rfl).trans ?_
    exact sv_iret jM84 c84_25 rfl rfl
  ·
    refine (sv_iload_n jM84 c84_16 rfl rfl).trans ?_
    refine (sv_iload_n jM84 c84_17 rfl rfl).trans ?_
    refine (sv_iadd jM84 c84_18 rfl).trans ?_
    refine (sv_goto jM84 c84_19 rfl (t := 25) (by decide +kernel)).trans ?_
    exact sv_iret jM84 c84_25 rfl rfl
set_option maxRecDepth 20000 in
set_option maxHeartbeats 4000000 in
theorem P_isNoTrial_in (x0 : Int32) (x1 : Int32) (x2 : Int32) (σ : jm_S) : jc 87 [(.int x0), (.int x1), (.int x2)] σ = jbi (jc 1 [(.int x0), (.int (1 : Int32)), (.int (30 : Int32))] σ) (fun r1 τ1 => (if ¬ r1 = 0 then some (some (.int (1 : Int32)), τ1) else jbi (jc 1 [(.int x1), (.int (0 : Int32)), (.int x0)] τ1) (fun r2 τ2 => (if ¬ r2 = 0 then some (some (.int (1 : Int32)), τ2) else jbi (jc 1 [(.int x2), (.int (0 : Int32)), (.int x1)] τ2) (fun r3 τ3 => (if r3 = 0 then some (some (.int (0 : Int32)), τ3) else some (some (.int (1 : Int32)), τ3))))))) := by
  refine (jc_of (ls1 := [some (.int x0), some (.int x1), some (.int x2)]) ((jm_ini_of jM87).trans rfl)).trans ?_
  refine (sv_iload_n jM87 c87_0 rfl rfl).trans ?_
  refine (sv_iconst jM87 c87_1 rfl (v := 1) (by decide +kernel)).trans ?_
  refine (sv_bipush jM87 c87_2 rfl (v := 30) (by decide +kernel)).trans ?_
  refine (sv_callsi (pl := 0) jM87 c87_4 rfl (jm_call_s (as := [(.int x0), (.int (1 : Int32)), (.int (30 : Int32))]) (rest := []) lm_8_86 rfl jM1 rfl rfl rfl rfl) jM1 rfl (Or.inr rfl)).trans ?_
  refine jbi_c (fun r1 τ1 => ?_)
  refine (sv_if_ne jM87 c87_7 rfl (t := 28) (by decide +kernel)).trans ?_
  refine jif _ ?_ ?_
  ·
    refine (sv_iconst jM87 c87_28 rfl (v := 1) (by decide +kernel)).trans ?_
    refine (sv_goto jM87 c87_29 rfl (t := 33) (by decide +kernel)).trans ?_
    exact sv_zret jM87 c87_33 rfl rfl (by decide +kernel)
  ·
    refine (sv_iload_n jM87 c87_10 rfl rfl).trans ?_
    refine (sv_iconst jM87 c87_11 rfl (v := 0) (by decide +kernel)).trans ?_
    refine (sv_iload_n jM87 c87_12 rfl rfl).trans ?_
    refine (sv_callsi (pl := 0) jM87 c87_13 rfl (jm_call_s (as := [(.int x1), (.int (0 : Int32)), (.int x0)]) (rest := []) lm_8_86 rfl jM1 rfl rfl rfl rfl) jM1 rfl (Or.inr rfl)).trans ?_
    refine jbi_c (fun r2 τ2 => ?_)
    refine (sv_if_ne jM87 c87_16 rfl (t := 28) (by decide +kernel)).trans ?_
    refine jif _ ?_ ?_
    ·
      refine (sv_iconst jM87 c87_28 rfl (v := 1) (by decide +kernel)).trans ?_
      refine (sv_goto jM87 c87_29 rfl (t := 33) (by decide +kernel)).trans ?_
      exact sv_zret jM87 c87_33 rfl rfl (by decide +kernel)
    ·
      refine (sv_iload_n jM87 c87_19 rfl rfl).trans ?_
      refine (sv_iconst jM87 c87_20 rfl (v := 0) (by decide +kernel)).trans ?_
      refine (sv_iload_n jM87 c87_21 rfl rfl).trans ?_
      refine (sv_callsi (pl := 0) jM87 c87_22 rfl (jm_call_s (as := [(.int x2), (.int (0 : Int32)), (.int x1)]) (rest := []) lm_8_86 rfl jM1 rfl rfl rfl rfl) jM1 rfl (Or.inr rfl)).trans ?_
      refine jbi_c (fun r3 τ3 => ?_)
      refine (sv_if_eq jM87 c87_25 rfl (t := 32) (by decide +kernel)).trans ?_
      refine jif _ ?_ ?_
      ·
        refine (sv_iconst jM87 c87_32 rfl (v := 0) (by decide +kernel)).trans ?_
        exact sv_zret jM87 c87_33 rfl rfl (by decide +kernel)
      ·
        refine (sv_iconst jM87 c87_28 rfl (v := 1) (by decide +kernel)).trans ?_
        refine (sv_goto jM87 c87_29 rfl (t := 33) (by decide +kernel)).trans ?_
        exact sv_zret jM87 c87_33 rfl rfl (by decide +kernel)
set_option maxRecDepth 20000 in
set_option maxHeartbeats 4000000 in
theorem P_ways_in (x0 : Int32) (x1 : Int32) (x2 : Int32) (x3 : Int32) (σ : jm_S) : jc 88 [(.int x0), (.int x1), (.int x2), (.int x3)] σ = jbl (jc 89 [(.int x1), (.int x3)] σ) (fun r1 τ1 => jbl (jc 89 [(.int (x0 - x1)), (.int (x2 - x3))] τ1) (fun r2 τ2 => some (some (.long (r1 * r2)), τ2))) := by
  refine (jc_of (ls1 := [some (.int x0), some (.int x1), some (.int x2), some (.int x3)]) ((jm_ini_of jM88).trans rfl)).trans ?_
  refine (sv_iload_n jM88 c88_0 rfl rfl).trans ?_
  refine (sv_iload_n jM88 c88_1 rfl rfl).trans ?_
  refine (sv_callsl (pl := 0) jM88 c88_2 rfl (jm_call_s (as := [(.int x1), (.int x3)]) (rest := []) lm_8_252 rfl jM89 rfl rfl rfl rfl) jM89 rfl rfl).trans ?_
  refine jbl_c (fun r1 τ1 => ?_)
  refine (sv_iload_n jM88 c88_5 rfl rfl).trans ?_
  refine (sv_iload_n jM88 c88_6 rfl rfl).trans ?_
  refine (sv_isub jM88 c88_7 rfl).trans ?_
  refine (sv_iload_n jM88 c88_8 rfl rfl).trans ?_
  refine (sv_iload_n jM88 c88_9 rfl rfl).trans ?_
  refine (sv_isub jM88 c88_10 rfl).trans ?_
  refine (sv_callsl (pl := 0) jM88 c88_11 rfl (jm_call_s (as := [(.int (x0 - x1)), (.int (x2 - x3))]) (rest := [(.long r1)]) lm_8_252 rfl jM89 rfl rfl rfl rfl) jM89 rfl rfl).trans ?_
  refine jbl_c (fun r2 τ2 => ?_)
  refine (sv_lmul jM88 c88_14 rfl).trans ?_
  exact sv_lret jM88 c88_15 rfl rfl
set_option maxRecDepth 20000 in
set_option maxHeartbeats 4000000 in
theorem P_choose_in (x0 : Int32) (x1 : Int32) (σ : jm_S) : jc 89 [(.int x0), (.int x1)] σ = (if x1 < 0 then some (some (.long (0 : Int64)), σ) else (if x1 ≤ x0 then jv 89 16 [some (.int x0), some (.int x1), some (.long (1 : Int64)), none, some (.int (1 : Int32))] [] σ else some (some (.long (0 : Int64)), σ))) := by
  refine (jc_of (ls1 := [some (.int x0), some (.int x1), none, none, none]) ((jm_ini_of jM89).trans rfl)).trans ?_
  refine (sv_iload_n jM89 c89_0 rfl rfl).trans ?_
  refine (sv_if_lt jM89 c89_1 rfl (t := 9) (by decide +kernel)).trans ?_
  refine jif _ ?_ ?_
  ·
    refine (sv_lconst jM89 c89_9 rfl (v := 0) (by decide +kernel)).trans ?_
    exact sv_lret jM89 c89_10 rfl rfl
  ·
    refine (sv_iload_n jM89 c89_4 rfl rfl).trans ?_
    refine (sv_iload_n jM89 c89_5 rfl rfl).trans ?_
    refine (sv_icmp_le jM89 c89_6 rfl (t := 11) (by decide +kernel)).trans ?_
    refine jif _ ?_ ?_
    ·
      refine (sv_lconst jM89 c89_11 rfl (v := 1) (by decide +kernel)).trans ?_
      refine (sv_lstore_n (ls1 := [some (.int x0), some (.int x1), some (.long (1 : Int64)), none, none]) jM89 c89_12 rfl (Nat.lt_of_lt_of_eq (by decide +kernel : 2 + 1 < 5) rfl) rfl).trans ?_
      refine (sv_iconst jM89 c89_13 rfl (v := 1) (by decide +kernel)).trans ?_
      refine (sv_istore (ls1 := [some (.int x0), some (.int x1), some (.long (1 : Int64)), none, some (.int (1 : Int32))]) jM89 c89_14 rfl (Nat.lt_of_lt_of_eq (by decide +kernel : 4 < 5) rfl) rfl).trans ?_
      rfl
    ·
      refine (sv_lconst jM89 c89_9 rfl (v := 0) (by decide +kernel)).trans ?_
      exact sv_lret jM89 c89_10 rfl rfl
set_option maxRecDepth 20000 in
set_option maxHeartbeats 4000000 in
theorem P_choose_L16 (x0 : Int32) (x1 : Int32) (x2 : Int64) (x4 : Int32) (σ : jm_S) : jv 89 16 [some (.int x0), some (.int x1), some (.long x2), none, some (.int x4)] [] σ = (if x1 < x4 then some (some (.long x2), σ) else (if x4.toInt64 = 0 then none else jv 89 16 [some (.int x0), some (.int x1), some (.long ((x2 * ((x0 - x1) + x4).toInt64) / x4.toInt64)), none, some (.int (x4 + 1))] [] σ)) := by
  refine (sv_iload jM89 c89_16 rfl rfl).trans ?_
  refine (sv_iload_n jM89 c89_18 rfl rfl).trans ?_
  refine (sv_icmp_gt jM89 c89_19 rfl (t := 42) (by decide +kernel)).trans ?_
  refine jif _ ?_ ?_
  ·
    refine (sv_lload_n jM89 c89_42 rfl rfl).trans ?_
    exact sv_lret jM89 c89_43 rfl rfl
  ·
    refine (sv_lload_n jM89 c89_22 rfl rfl).trans ?_
    refine (sv_iload_n jM89 c89_23 rfl rfl).trans ?_
    refine (sv_iload_n jM89 c89_24 rfl rfl).trans ?_
    refine (sv_isub jM89 c89_25 rfl).trans ?_
    refine (sv_iload jM89 c89_26 rfl rfl).trans ?_
    refine (sv_iadd jM89 c89_28 rfl).trans ?_
    refine (sv_i2l jM89 c89_29 rfl).trans ?_
    refine (sv_lmul jM89 c89_30 rfl).trans ?_
    refine (sv_iload jM89 c89_31 rfl rfl).trans ?_
    refine (sv_i2l jM89 c89_33 rfl).trans ?_
    refine (sv_ldiv jM89 c89_34 rfl).trans ?_
    refine jif _ rfl ?_
    refine (sv_lstore_n (ls1 := [some (.int x0), some (.int x1), some (.long ((x2 * ((x0 - x1) + x4).toInt64) / x4.toInt64)), none, some (.int x4)]) jM89 c89_35 rfl (Nat.lt_of_lt_of_eq (by decide +kernel : 2 + 1 < 5) rfl) rfl).trans ?_
    refine (sv_iinc (ls1 := [some (.int x0), some (.int x1), some (.long ((x2 * ((x0 - x1) + x4).toInt64) / x4.toInt64)), none, some (.int (x4 + 1))]) jM89 c89_36 rfl rfl (v := 1) (by decide +kernel) rfl).trans ?_
    refine (sv_goto jM89 c89_39 rfl (t := 16) (by decide +kernel)).trans ?_
    rfl
set_option maxRecDepth 20000 in
set_option maxHeartbeats 4000000 in
theorem P_commonDivisor_in (x0 : Int64) (x1 : Int64) (σ : jm_S) : jc 90 [(.long x0), (.long x1)] σ = jv 90 9 [some (.long x0), none, some (.long x1), none, some (.long x0), none, some (.long x1), none, some (.int (0 : Int32)), none, none] [] σ := by
  refine (jc_of (ls1 := [some (.long x0), none, some (.long x1), none, none, none, none, none, none, none, none]) ((jm_ini_of jM90).trans rfl)).trans ?_
  refine (sv_lload_n jM90 c90_0 rfl rfl).trans ?_
  refine (sv_lstore (ls1 := [some (.long x0), none, some (.long x1), none, some (.long x0), none, none, none, none, none, none]) jM90 c90_1 rfl (Nat.lt_of_lt_of_eq (by decide +kernel : 4 + 1 < 11) rfl) rfl).trans ?_
  refine (sv_lload_n jM90 c90_3 rfl rfl).trans ?_
  refine (sv_lstore (ls1 := [some (.long x0), none, some (.long x1), none, some (.long x0), none, some (.long x1), none, none, none, none]) jM90 c90_4 rfl (Nat.lt_of_lt_of_eq (by decide +kernel : 6 + 1 < 11) rfl) rfl).trans ?_
  refine (sv_iconst jM90 c90_6 rfl (v := 0) (by decide +kernel)).trans ?_
  refine (sv_istore (ls1 := [some (.long x0), none, some (.long x1), none, some (.long x0), none, some (.long x1), none, some (.int (0 : Int32)), none, none]) jM90 c90_7 rfl (Nat.lt_of_lt_of_eq (by decide +kernel : 8 < 11) rfl) rfl).trans ?_
  rfl
set_option maxRecDepth 20000 in
set_option maxHeartbeats 4000000 in
theorem P_commonDivisor_L9 (x0 : Int64) (x2 : Int64) (x4 : Int64) (x6 : Int64) (x8 : Int32) (u9 : Option Value) (σ : jm_S) : jv 90 9 [some (.long x0), none, some (.long x2), none, some (.long x4), none, some (.long x6), none, some (.int x8), u9, none] [] σ = (if (100 : Int32) ≤ x8 then some (some (.long x4), σ) else (if (lg_cmp x6 (0 : Int64)) = 0 then some (some (.long x4), σ) else (if x6 = 0 then none else jv 90 9 [some (.long x0), none, some (.long x2), none, some (.long x6), none, some (.long (x4 - x4 / x6 * x6)), none, some (.int (x8 + 1)), some (.long (x4 - x4 / x6 * x6)), none] [] σ))) := by
  refine (sv_iload jM90 c90_9 rfl rfl).trans ?_
  refine (sv_bipush jM90 c90_11 rfl (v := 100) (by decide +kernel)).trans ?_
  refine (sv_icmp_ge jM90 c90_13 rfl (t := 44) (by decide +kernel)).trans ?_
  refine jif _ ?_ ?_
  ·
    refine (sv_lload jM90 c90_44 rfl rfl).trans ?_
    exact sv_lret jM90 c90_46 rfl rfl
  ·
    refine (sv_lload jM90 c90_16 rfl rfl).trans ?_
    refine (sv_lconst jM90 c90_18 rfl (v := 0) (by decide +kernel)).trans ?_
    refine (sv_lcmp jM90 c90_19 rfl).trans ?_
    refine (sv_if_eq jM90 c90_20 rfl (t := 44) (by decide +kernel)).trans ?_
    refine jif _ ?_ ?_
    ·
      refine (sv_lload jM90 c90_44 rfl rfl).trans ?_
      exact sv_lret jM90 c90_46 rfl rfl
    ·
      refine (sv_lload jM90 c90_23 rfl rfl).trans ?_
      refine (sv_lload jM90 c90_25 rfl rfl).trans ?_
      refine (sv_lrem jM90 c90_27 rfl).trans ?_
      refine jif _ rfl ?_
      refine (sv_lstore (ls1 := [some (.long x0), none, some (.long x2), none, some (.long x4), none, some (.long x6), none, some (.int x8), some (.long (x4 - x4 / x6 * x6)), none]) jM90 c90_28 rfl (Nat.lt_of_lt_of_eq (by decide +kernel : 9 + 1 < 11) rfl) rfl).trans ?_
      refine (sv_lload jM90 c90_30 rfl rfl).trans ?_
      refine (sv_lstore (ls1 := [some (.long x0), none, some (.long x2), none, some (.long x6), none, some (.long x6), none, some (.int x8), some (.long (x4 - x4 / x6 * x6)), none]) jM90 c90_32 rfl (Nat.lt_of_lt_of_eq (by decide +kernel : 4 + 1 < 11) rfl) rfl).trans ?_
      refine (sv_lload jM90 c90_34 rfl rfl).trans ?_
      refine (sv_lstore (ls1 := [some (.long x0), none, some (.long x2), none, some (.long x6), none, some (.long (x4 - x4 / x6 * x6)), none, some (.int x8), some (.long (x4 - x4 / x6 * x6)), none]) jM90 c90_36 rfl (Nat.lt_of_lt_of_eq (by decide +kernel : 6 + 1 < 11) rfl) rfl).trans ?_
      refine (sv_iinc (ls1 := [some (.long x0), none, some (.long x2), none, some (.long x6), none, some (.long (x4 - x4 / x6 * x6)), none, some (.int (x8 + 1)), some (.long (x4 - x4 / x6 * x6)), none]) jM90 c90_38 rfl rfl (v := 1) (by decide +kernel) rfl).trans ?_
      refine (sv_goto jM90 c90_41 rfl (t := 9) (by decide +kernel)).trans ?_
      rfl
set_option maxRecDepth 20000 in
set_option maxHeartbeats 4000000 in
theorem P_waysFromTo_in (x0 : Int32) (x1 : Int32) (x2 : Int32) (x3 : Int32) (x4 : Int32) (σ : jm_S) : jc 92 [(.int x0), (.int x1), (.int x2), (.int x3), (.int x4)] σ = jv 92 6 [some (.int x0), some (.int x1), some (.int x2), some (.int x3), some (.int x4), some (.long (0 : Int64)), none, some (.int x3)] [] σ := by
  refine (jc_of (ls1 := [some (.int x0), some (.int x1), some (.int x2), some (.int x3), some (.int x4), none, none, none]) ((jm_ini_of jM92).trans rfl)).trans ?_
  refine (sv_lconst jM92 c92_0 rfl (v := 0) (by decide +kernel)).trans ?_
  refine (sv_lstore (ls1 := [some (.int x0), some (.int x1), some (.int x2), some (.int x3), some (.int x4), some (.long (0 : Int64)), none, none]) jM92 c92_1 rfl (Nat.lt_of_lt_of_eq (by decide +kernel : 5 + 1 < 8) rfl) rfl).trans ?_
  refine (sv_iload_n jM92 c92_3 rfl rfl).trans ?_
  refine (sv_istore (ls1 := [some (.int x0), some (.int x1), some (.int x2), some (.int x3), some (.int x4), some (.long (0 : Int64)), none, some (.int x3)]) jM92 c92_4 rfl (Nat.lt_of_lt_of_eq (by decide +kernel : 7 < 8) rfl) rfl).trans ?_
  rfl
set_option maxRecDepth 20000 in
set_option maxHeartbeats 4000000 in
theorem P_waysFromTo_L6 (x0 : Int32) (x1 : Int32) (x2 : Int32) (x3 : Int32) (x4 : Int32) (x5 : Int64) (x7 : Int32) (σ : jm_S) : jv 92 6 [some (.int x0), some (.int x1), some (.int x2), some (.int x3), some (.int x4), some (.long x5), none, some (.int x7)] [] σ = (if x4 < x7 then some (some (.long x5), σ) else jbl (jc 88 [(.int x0), (.int x1), (.int x2), (.int x7)] σ) (fun r1 τ1 => jv 92 6 [some (.int x0), some (.int x1), some (.int x2), some (.int x3), some (.int x4), some (.long (x5 + r1)), none, some (.int (x7 + 1))] [] τ1)) := by
  refine (sv_iload jM92 c92_6 rfl rfl).trans ?_
  refine (sv_iload jM92 c92_8 rfl rfl).trans ?_
  refine (sv_icmp_gt jM92 c92_10 rfl (t := 32) (by decide +kernel)).trans ?_
  refine jif _ ?_ ?_
  ·
    refine (sv_lload jM92 c92_32 rfl rfl).trans ?_
    exact sv_lret jM92 c92_34 rfl rfl
  ·
    refine (sv_lload jM92 c92_13 rfl rfl).trans ?_
    refine (sv_iload_n jM92 c92_15 rfl rfl).trans ?_
    refine (sv_iload_n jM92 c92_16 rfl rfl).trans ?_
    refine (sv_iload_n jM92 c92_17 rfl rfl).trans ?_
    refine (sv_iload jM92 c92_18 rfl rfl).trans ?_
    refine (sv_callsl (pl := 0) jM92 c92_20 rfl (jm_call_s (as := [(.int x0), (.int x1), (.int x2), (.int x7)]) (rest := [(.long x5)]) lm_8_248 rfl jM88 rfl rfl rfl rfl) jM88 rfl rfl).trans ?_
    refine jbl_c (fun r1 τ1 => ?_)
    refine (sv_ladd jM92 c92_23 rfl).trans ?_
    refine (sv_lstore (ls1 := [some (.int x0), some (.int x1), some (.int x2), some (.int x3), some (.int x4), some (.long (x5 + r1)), none, some (.int x7)]) jM92 c92_24 rfl (Nat.lt_of_lt_of_eq (by decide +kernel : 5 + 1 < 8) rfl) rfl).trans ?_
    refine (sv_iinc (ls1 := [some (.int x0), some (.int x1), some (.int x2), some (.int x3), some (.int x4), some (.long (x5 + r1)), none, some (.int (x7 + 1))]) jM92 c92_26 rfl rfl (v := 1) (by decide +kernel) rfl).trans ?_
    refine (sv_goto jM92 c92_29 rfl (t := 6) (by decide +kernel)).trans ?_
    rfl
set_option maxRecDepth 20000 in
set_option maxHeartbeats 4000000 in
theorem P_tryStrengths_in (σ : jm_S) : jc 97 [(.ref 0)] σ = jbv (jc 98 [(.ref 38)] σ) (fun τ1 => jv 97 13 [some (.ref 0), some (.int (5 : Int32))] [] τ1) := by
  refine (jc_of (ls1 := [some (.ref 0), none]) ((jm_ini_of jM97).trans rfl)).trans ?_
  refine (sv_aload_n jM97 c97_0 rfl rfl).trans ?_
  refine (sv_getf jM97 c97_1 rfl lf_8_67 (fg_0_8 _)).trans ?_
  refine (sv_callvv (pl := 0) jM97 c97_4 rfl (jm_call_v (a := 38) (as := []) (rest := []) lm_8_356 rfl jM98 rfl rfl rfl rfl rfl) jM98 rfl rfl).trans ?_
  refine jbv_c (fun τ1 => ?_)
  refine (sv_gets jM97 c97_7 rfl ls_8_135).trans ?_
  refine (sv_iconst jM97 c97_10 rfl (v := 1) (by decide +kernel)).trans ?_
  refine (sv_iald1 jM97 c97_11 rfl (ia_1002 _) (by decide +kernel) (i := 1) (by decide +kernel)).trans ?_
  refine (sv_istore_n (ls1 := [some (.ref 0), some (.int (5 : Int32))]) jM97 c97_12 rfl (Nat.lt_of_lt_of_eq (by decide +kernel : 1 < 2) rfl) rfl).trans ?_
  rfl
set_option maxRecDepth 20000 in
set_option maxHeartbeats 4000000 in
theorem P_tryStrengths_L13 (x1 : Int32) (σ : jm_S) : jv 97 13 [some (.ref 0), some (.int x1)] [] σ = (if (15 : Int32) < x1 then some (none, σ) else jbv (jc 38 [(.ref 11), (.ref 1), (.int x1), (.int (σ 4 0))] σ) (fun τ1 => jbv (jc 50 [(.ref 11), (.ref 6), (.int (200 : Int32))] τ1) (fun τ2 => jbv (jc 99 [(.ref 38), (.int x1), (.ref 11)] τ2) (fun τ3 => jv 97 13 [some (.ref 0), some (.int (x1 + 1))] [] τ3)))) := by
  refine (sv_iload_n jM97 c97_13 rfl rfl).trans ?_
  refine (sv_gets jM97 c97_14 rfl ls_8_138).trans ?_
  refine (sv_iconst jM97 c97_17 rfl (v := 1) (by decide +kernel)).trans ?_
  refine (sv_iald1 jM97 c97_18 rfl (ia_1003 _) (by decide +kernel) (i := 1) (by decide +kernel)).trans ?_
  refine (sv_icmp_gt jM97 c97_19 rfl (t := 72) (by decide +kernel)).trans ?_
  refine jif _ ?_ ?_
  ·
    exact sv_vret jM97 c97_72 rfl rfl
  ·
    refine (sv_aload_n jM97 c97_22 rfl rfl).trans ?_
    refine (sv_getf jM97 c97_23 rfl lf_8_50 (fg_0_5 _)).trans ?_
    refine (sv_aload_n jM97 c97_26 rfl rfl).trans ?_
    refine (sv_getf jM97 c97_27 rfl lf_8_10 (fg_0_0 _)).trans ?_
    refine (sv_iload_n jM97 c97_30 rfl rfl).trans ?_
    refine (sv_aload_n jM97 c97_31 rfl rfl).trans ?_
    refine (sv_getf jM97 c97_32 rfl lf_8_25 (fg_0_1 _)).trans ?_
    refine (sv_iconst jM97 c97_35 rfl (v := 0) (by decide +kernel)).trans ?_
    refine (sv_iald1 jM97 c97_36 rfl (ia_4 _) (by decide +kernel) (i := 0) (by decide +kernel)).trans ?_
    refine (sv_callvv (pl := 0) jM97 c97_37 rfl (jm_call_v (a := 11) (as := [(.ref 1), (.int x1), (.int (σ 4 0))]) (rest := []) lm_8_199 rfl jM38 rfl rfl rfl rfl rfl) jM38 rfl rfl).trans ?_
    refine jbv_c (fun τ1 => ?_)
    refine (sv_aload_n jM97 c97_40 rfl rfl).trans ?_
    refine (sv_getf jM97 c97_41 rfl lf_8_50 (fg_0_5 _)).trans ?_
    refine (sv_aload_n jM97 c97_44 rfl rfl).trans ?_
    refine (sv_getf jM97 c97_45 rfl lf_8_37 (fg_0_3 _)).trans ?_
    refine (sv_sipush jM97 c97_48 rfl (v := 200) (by decide +kernel)).trans ?_
    refine (sv_callvv (pl := 0) jM97 c97_51 rfl (jm_call_v (a := 11) (as := [(.ref 6), (.int (200 : Int32))]) (rest := []) lm_8_203 rfl jM50 rfl rfl rfl rfl rfl) jM50 rfl rfl).trans ?_
    refine jbv_c (fun τ2 => ?_)
    refine (sv_aload_n jM97 c97_54 rfl rfl).trans ?_
    refine (sv_getf jM97 c97_55 rfl lf_8_67 (fg_0_8 _)).trans ?_
    refine (sv_iload_n jM97 c97_58 rfl rfl).trans ?_
    refine (sv_aload_n jM97 c97_59 rfl rfl).trans ?_
    refine (sv_getf jM97 c97_60 rfl lf_8_50 (fg_0_5 _)).trans ?_
    refine (sv_callvv (pl := 0) jM97 c97_63 rfl (jm_call_v (a := 38) (as := [(.int x1), (.ref 11)]) (rest := []) lm_8_359 rfl jM99 rfl rfl rfl rfl rfl) jM99 rfl rfl).trans ?_
    refine jbv_c (fun τ3 => ?_)
    refine (sv_iinc (ls1 := [some (.ref 0), some (.int (x1 + 1))]) jM97 c97_66 rfl rfl (v := 1) (by decide +kernel) rfl).trans ?_
    refine (sv_goto jM97 c97_69 rfl (t := 13) (by decide +kernel)).trans ?_
    rfl
set_option maxRecDepth 20000 in
set_option maxHeartbeats 4000000 in
theorem P_digestGrains_in (x1 : Int64) (x2 : Int32) (σ : jm_S) : jc 115 [(.ref 0), (.long x1), (.int x2)] σ = jbv (jc 37 [(.ref 0)] σ) (fun τ1 => jbv (jc 40 [(.ref 11), (.ref 6), (.int x2)] τ1) (fun τ2 => jv 115 22 [some (.ref 0), some (.long x1), none, some (.int x2), some (.long x1), none, some (.int (0 : Int32)), none] [] τ2)) := by
  refine (jc_of (ls1 := [some (.ref 0), some (.long x1), none, some (.int x2), none, none, none, none]) ((jm_ini_of jM115).trans rfl)).trans ?_
  refine (sv_lload_n jM115 c115_0 rfl rfl).trans ?_
  refine (sv_lstore (ls1 := [some (.ref 0), some (.long x1), none, some (.int x2), some (.long x1), none, none, none]) jM115 c115_1 rfl (Nat.lt_of_lt_of_eq (by decide +kernel : 4 + 1 < 8) rfl) rfl).trans ?_
  refine (sv_aload_n jM115 c115_3 rfl rfl).trans ?_
  refine (sv_callvv (pl := 0) jM115 c115_4 rfl (jm_call_v (a := 0) (as := []) (rest := []) lm_8_161 rfl jM37 rfl rfl rfl rfl rfl) jM37 rfl rfl).trans ?_
  refine jbv_c (fun τ1 => ?_)
  refine (sv_aload_n jM115 c115_7 rfl rfl).trans ?_
  refine (sv_getf jM115 c115_8 rfl lf_8_50 (fg_0_5 _)).trans ?_
  refine (sv_aload_n jM115 c115_11 rfl rfl).trans ?_
  refine (sv_getf jM115 c115_12 rfl lf_8_37 (fg_0_3 _)).trans ?_
  refine (sv_iload_n jM115 c115_15 rfl rfl).trans ?_
  refine (sv_callvv (pl := 0) jM115 c115_16 rfl (jm_call_v (a := 11) (as := [(.ref 6), (.int x2)]) (rest := []) lm_8_164 rfl jM40 rfl rfl rfl rfl rfl) jM40 rfl rfl).trans ?_
  refine jbv_c (fun τ2 => ?_)
  refine (sv_iconst jM115 c115_19 rfl (v := 0) (by decide +kernel)).trans ?_
  refine (sv_istore (ls1 := [some (.ref 0), some (.long x1), none, some (.int x2), some (.long x1), none, some (.int (0 : Int32)), none]) jM115 c115_20 rfl (Nat.lt_of_lt_of_eq (by decide +kernel : 6 < 8) rfl) rfl).trans ?_
  rfl
set_option maxRecDepth 20000 in
set_option maxHeartbeats 4000000 in
theorem P_digestGrains_L22 (x1 : Int64) (x3 : Int32) (x4 : Int64) (x6 : Int32) (u7 : Option Value) (σ : jm_S) : jv 115 22 [some (.ref 0), some (.long x1), none, some (.int x3), some (.long x4), none, some (.int x6), u7] [] σ = (if (σ 1 2) ≤ x6 then some (some (.long x4), σ) else jv 115 37 [some (.ref 0), some (.long x1), none, some (.int x3), some (.long x4), none, some (.int x6), some (.int (0 : Int32))] [] σ) := by
  refine (sv_iload jM115 c115_22 rfl rfl).trans ?_
  refine (sv_aload_n jM115 c115_24 rfl rfl).trans ?_
  refine (sv_getf jM115 c115_25 rfl lf_8_10 (fg_0_0 _)).trans ?_
  refine (sv_getf jM115 c115_28 rfl lf_8_131 (fg_1_2 _)).trans ?_
  refine (sv_icmp_ge jM115 c115_31 rfl (t := 76) (by decide +kernel)).trans ?_
  refine jif _ ?_ ?_
  ·
    refine (sv_lload jM115 c115_76 rfl rfl).trans ?_
    exact sv_lret jM115 c115_78 rfl rfl
  ·
    refine (sv_iconst jM115 c115_34 rfl (v := 0) (by decide +kernel)).trans ?_
    refine (sv_istore (ls1 := [some (.ref 0), some (.long x1), none, some (.int x3), some (.long x4), none, some (.int x6), some (.int (0 : Int32))]) jM115 c115_35 rfl (Nat.lt_of_lt_of_eq (by decide +kernel : 7 < 8) rfl) rfl).trans ?_
    rfl
set_option maxRecDepth 20000 in
set_option maxHeartbeats 4000000 in
theorem P_digestGrains_L37 (x1 : Int64) (x3 : Int32) (x4 : Int64) (x6 : Int32) (x7 : Int32) (σ : jm_S) : jv 115 37 [some (.ref 0), some (.long x1), none, some (.int x3), some (.long x4), none, some (.int x6), some (.int x7)] [] σ = (if (5 : Int32) < x7 then jv 115 22 [some (.ref 0), some (.long x1), none, some (.int x3), some (.long x4), none, some (.int (x6 + 1)), some (.int x7)] [] σ else jbi (jc 47 [(.ref 11), (.int x6), (.int x7)] σ) (fun r1 τ1 => jv 115 37 [some (.ref 0), some (.long x1), none, some (.int x3), some (.long (((31 : Int64) * x4) + r1.toInt64)), none, some (.int x6), some (.int (x7 + 1))] [] τ1)) := by
  refine (sv_iload jM115 c115_37 rfl rfl).trans ?_
  refine (sv_iconst jM115 c115_39 rfl (v := 5) (by decide +kernel)).trans ?_
  refine (sv_icmp_gt jM115 c115_40 rfl (t := 70) (by decide +kernel)).trans ?_
  refine jif _ ?_ ?_
  ·
    refine (sv_iinc (ls1 := [some (.ref 0), some (.long x1), none, some (.int x3), some (.long x4), none, some (.int (x6 + 1)), some (.int x7)]) jM115 c115_70 rfl rfl (v := 1) (by decide +kernel) rfl).trans ?_
    refine (sv_goto jM115 c115_73 rfl (t := 22) (by decide +kernel)).trans ?_
    rfl
  ·
    refine (sv_ldc2 jM115 c115_43 rfl ll_8_310).trans ?_
    refine (sv_lload jM115 c115_46 rfl rfl).trans ?_
    refine (sv_lmul jM115 c115_48 rfl).trans ?_
    refine (sv_aload_n jM115 c115_49 rfl rfl).trans ?_
    refine (sv_getf jM115 c115_50 rfl lf_8_50 (fg_0_5 _)).trans ?_
    refine (sv_iload jM115 c115_53 rfl rfl).trans ?_
    refine (sv_iload jM115 c115_55 rfl rfl).trans ?_
    refine (sv_callvi (pl := 0) jM115 c115_57 rfl (jm_call_v (a := 11) (as := [(.int x6), (.int x7)]) (rest := [(.long ((31 : Int64) * x4))]) lm_8_168 rfl jM47 rfl rfl rfl rfl rfl) jM47 rfl (Or.inl rfl)).trans ?_
    refine jbi_c (fun r1 τ1 => ?_)
    refine (sv_i2l jM115 c115_60 rfl).trans ?_
    refine (sv_ladd jM115 c115_61 rfl).trans ?_
    refine (sv_lstore (ls1 := [some (.ref 0), some (.long x1), none, some (.int x3), some (.long (((31 : Int64) * x4) + r1.toInt64)), none, some (.int x6), some (.int x7)]) jM115 c115_62 rfl (Nat.lt_of_lt_of_eq (by decide +kernel : 4 + 1 < 8) rfl) rfl).trans ?_
    refine (sv_iinc (ls1 := [some (.ref 0), some (.long x1), none, some (.int x3), some (.long (((31 : Int64) * x4) + r1.toInt64)), none, some (.int x6), some (.int (x7 + 1))]) jM115 c115_64 rfl rfl (v := 1) (by decide +kernel) rfl).trans ?_
    refine (sv_goto jM115 c115_67 rfl (t := 37) (by decide +kernel)).trans ?_
    rfl
set_option maxRecDepth 20000 in
set_option maxHeartbeats 4000000 in
theorem P_digestRules_in (x1 : Int64) (σ : jm_S) : jc 116 [(.ref 0), (.long x1)] σ = jbv (jc 49 [(.ref 0), (.int (200 : Int32))] σ) (fun τ1 => jv 116 12 [some (.ref 0), some (.long x1), none, some (.long x1), none, some (.int (0 : Int32)), none] [] τ1) := by
  refine (jc_of (ls1 := [some (.ref 0), some (.long x1), none, none, none, none, none]) ((jm_ini_of jM116).trans rfl)).trans ?_
  refine (sv_lload_n jM116 c116_0 rfl rfl).trans ?_
  refine (sv_lstore_n (ls1 := [some (.ref 0), some (.long x1), none, some (.long x1), none, none, none]) jM116 c116_1 rfl (Nat.lt_of_lt_of_eq (by decide +kernel : 3 + 1 < 7) rfl) rfl).trans ?_
  refine (sv_aload_n jM116 c116_2 rfl rfl).trans ?_
  refine (sv_sipush jM116 c116_3 rfl (v := 200) (by decide +kernel)).trans ?_
  refine (sv_callvv (pl := 0) jM116 c116_6 rfl (jm_call_v (a := 0) (as := [(.int (200 : Int32))]) (rest := []) lm_8_171 rfl jM49 rfl rfl rfl rfl rfl) jM49 rfl rfl).trans ?_
  refine jbv_c (fun τ1 => ?_)
  refine (sv_iconst jM116 c116_9 rfl (v := 0) (by decide +kernel)).trans ?_
  refine (sv_istore (ls1 := [some (.ref 0), some (.long x1), none, some (.long x1), none, some (.int (0 : Int32)), none]) jM116 c116_10 rfl (Nat.lt_of_lt_of_eq (by decide +kernel : 5 < 7) rfl) rfl).trans ?_
  rfl
set_option maxRecDepth 20000 in
set_option maxHeartbeats 4000000 in
theorem P_digestRules_L12 (x1 : Int64) (x3 : Int64) (x5 : Int32) (u6 : Option Value) (σ : jm_S) : jv 116 12 [some (.ref 0), some (.long x1), none, some (.long x3), none, some (.int x5), u6] [] σ = (if (3 : Int32) ≤ x5 then jbi (jc 63 [(.ref 0)] σ) (fun r1 τ1 => some (some (.long (((31 : Int64) * x3) + r1.toInt64)), τ1)) else jv 116 21 [some (.ref 0), some (.long x1), none, some (.long x3), none, some (.int x5), some (.int (0 : Int32))] [] σ) := by
  refine (sv_iload jM116 c116_12 rfl rfl).trans ?_
  refine (sv_iconst jM116 c116_14 rfl (v := 3) (by decide +kernel)).trans ?_
  refine (sv_icmp_ge jM116 c116_15 rfl (t := 55) (by decide +kernel)).trans ?_
  refine jif _ ?_ ?_
  ·
    refine (sv_ldc2 jM116 c116_55 rfl ll_8_310).trans ?_
    refine (sv_lload_n jM116 c116_58 rfl rfl).trans ?_
    refine (sv_lmul jM116 c116_59 rfl).trans ?_
    refine (sv_aload_n jM116 c116_60 rfl rfl).trans ?_
    refine (sv_callvi (pl := 0) jM116 c116_61 rfl (jm_call_v (a := 0) (as := []) (rest := [(.long ((31 : Int64) * x3))]) lm_8_184 rfl jM63 rfl rfl rfl rfl rfl) jM63 rfl (Or.inl rfl)).trans ?_
    refine jbi_c (fun r1 τ1 => ?_)
    refine (sv_i2l jM116 c116_64 rfl).trans ?_
    refine (sv_ladd jM116 c116_65 rfl).trans ?_
    exact sv_lret jM116 c116_66 rfl rfl
  ·
    refine (sv_iconst jM116 c116_18 rfl (v := 0) (by decide +kernel)).trans ?_
    refine (sv_istore (ls1 := [some (.ref 0), some (.long x1), none, some (.long x3), none, some (.int x5), some (.int (0 : Int32))]) jM116 c116_19 rfl (Nat.lt_of_lt_of_eq (by decide +kernel : 6 < 7) rfl) rfl).trans ?_
    rfl
set_option maxRecDepth 20000 in
set_option maxHeartbeats 4000000 in
theorem P_digestRules_L21 (x1 : Int64) (x3 : Int64) (x5 : Int32) (x6 : Int32) (σ : jm_S) : jv 116 21 [some (.ref 0), some (.long x1), none, some (.long x3), none, some (.int x5), some (.int x6)] [] σ = (if (5 : Int32) < x6 then jv 116 12 [some (.ref 0), some (.long x1), none, some (.long x3), none, some (.int (x5 + 1)), some (.int x6)] [] σ else jbi (jc 55 [(.ref 0), (.int x5), (.int x6)] σ) (fun r1 τ1 => jv 116 21 [some (.ref 0), some (.long x1), none, some (.long (((31 : Int64) * x3) + r1.toInt64)), none, some (.int x5), some (.int (x6 + 1))] [] τ1)) := by
  refine (sv_iload jM116 c116_21 rfl rfl).trans ?_
  refine (sv_iconst jM116 c116_23 rfl (v := 5) (by decide +kernel)).trans ?_
  refine (sv_icmp_gt jM116 c116_24 rfl (t := 49) (by decide +kernel)).trans ?_
  refine jif _ ?_ ?_
  ·
    refine (sv_iinc (ls1 := [some (.ref 0), some (.long x1), none, some (.long x3), none, some (.int (x5 + 1)), some (.int x6)]) jM116 c116_49 rfl rfl (v := 1) (by decide +kernel) rfl).trans ?_
    refine (sv_goto jM116 c116_52 rfl (t := 12) (by decide +kernel)).trans ?_
    rfl
  ·
    refine (sv_ldc2 jM116 c116_27 rfl ll_8_310).trans ?_
    refine (sv_lload_n jM116 c116_30 rfl rfl).trans ?_
    refine (sv_lmul jM116 c116_31 rfl).trans ?_
    refine (sv_aload_n jM116 c116_32 rfl rfl).trans ?_
    refine (sv_iload jM116 c116_33 rfl rfl).trans ?_
    refine (sv_iload jM116 c116_35 rfl rfl).trans ?_
    refine (sv_callvi (pl := 0) jM116 c116_37 rfl (jm_call_v (a := 0) (as := [(.int x5), (.int x6)]) (rest := [(.long ((31 : Int64) * x3))]) lm_8_181 rfl jM55 rfl rfl rfl rfl rfl) jM55 rfl (Or.inl rfl)).trans ?_
    refine jbi_c (fun r1 τ1 => ?_)
    refine (sv_i2l jM116 c116_40 rfl).trans ?_
    refine (sv_ladd jM116 c116_41 rfl).trans ?_
    refine (sv_lstore_n (ls1 := [some (.ref 0), some (.long x1), none, some (.long (((31 : Int64) * x3) + r1.toInt64)), none, some (.int x5), some (.int x6)]) jM116 c116_42 rfl (Nat.lt_of_lt_of_eq (by decide +kernel : 3 + 1 < 7) rfl) rfl).trans ?_
    refine (sv_iinc (ls1 := [some (.ref 0), some (.long x1), none, some (.long (((31 : Int64) * x3) + r1.toInt64)), none, some (.int x5), some (.int (x6 + 1))]) jM116 c116_43 rfl rfl (v := 1) (by decide +kernel) rfl).trans ?_
    refine (sv_goto jM116 c116_46 rfl (t := 21) (by decide +kernel)).trans ?_
    rfl
set_option maxRecDepth 20000 in
set_option maxHeartbeats 4000000 in
theorem P_digestFits_in (x1 : Int64) (σ : jm_S) : jc 117 [(.ref 0), (.long x1)] σ = (if (σ 38 2) ≤ 0 then jv 117 31 [some (.ref 0), some (.long x1), none, some (.long x1), none, some (.int (0 : Int32)), some (.int (0 : Int32))] [] σ else jbv (jc 97 [(.ref 0)] σ) (fun τ1 => jv 117 31 [some (.ref 0), some (.long x1), none, some (.long x1), none, some (.int (1 : Int32)), some (.int (0 : Int32))] [] τ1)) := by
  refine (jc_of (ls1 := [some (.ref 0), some (.long x1), none, none, none, none, none]) ((jm_ini_of jM117).trans rfl)).trans ?_
  refine (sv_lload_n jM117 c117_0 rfl rfl).trans ?_
  refine (sv_lstore_n (ls1 := [some (.ref 0), some (.long x1), none, some (.long x1), none, none, none]) jM117 c117_1 rfl (Nat.lt_of_lt_of_eq (by decide +kernel : 3 + 1 < 7) rfl) rfl).trans ?_
  refine (sv_aload_n jM117 c117_2 rfl rfl).trans ?_
  refine (sv_getf jM117 c117_3 rfl lf_8_67 (fg_0_8 _)).trans ?_
  refine (sv_getf jM117 c117_6 rfl lf_8_134 (fg_38_2 _)).trans ?_
  refine (sv_if_le jM117 c117_9 rfl (t := 16) (by decide +kernel)).trans ?_
  refine jif _ ?_ ?_
  ·
    refine (sv_iconst jM117 c117_16 rfl (v := 0) (by decide +kernel)).trans ?_
    refine (sv_istore (ls1 := [some (.ref 0), some (.long x1), none, some (.long x1), none, some (.int (0 : Int32)), none]) jM117 c117_17 rfl (Nat.lt_of_lt_of_eq (by decide +kernel : 5 < 7) rfl) rfl).trans ?_
    refine (sv_iload jM117 c117_19 rfl rfl).trans ?_
    refine (sv_if_eq jM117 c117_21 rfl (t := 28) (by decide +kernel)).trans ?_
    refine (if_pos (by decide +kernel)).trans ?_
    refine (sv_iconst jM117 c117_28 rfl (v := 0) (by decide +kernel)).trans ?_
    refine (sv_istore (ls1 := [some (.ref 0), some (.long x1), none, some (.long x1), none, some (.int (0 : Int32)), some (.int (0 : Int32))]) jM117 c117_29 rfl (Nat.lt_of_lt_of_eq (by decide +kernel : 6 < 7) rfl) rfl).trans ?_
    rfl
  ·
    refine (sv_iconst jM117 c117_12 rfl (v := 1) (by decide +kernel)).trans ?_
    refine (sv_goto jM117 c117_13 rfl (t := 17) (by decide +kernel)).trans ?_
    refine (sv_istore (ls1 := [some (.ref 0), some (.long x1), none, some (.long x1), none, some (.int (1 : Int32)), none]) jM117 c117_17 rfl (Nat.lt_of_lt_of_eq (by decide +kernel : 5 < 7) rfl) rfl).trans ?_
    refine (sv_iload jM117 c117_19 rfl rfl).trans ?_
    refine (sv_if_eq jM117 c117_21 rfl (t := 28) (by decide +kernel)).trans ?_
    refine (if_neg (by decide +kernel)).trans ?_
    refine (sv_aload_n jM117 c117_24 rfl rfl).trans ?_
    refine (sv_callvv (pl := 0) jM117 c117_25 rfl (jm_call_v (a := 0) (as := []) (rest := []) lm_8_274 rfl jM97 rfl rfl rfl rfl rfl) jM97 rfl rfl).trans ?_
    refine jbv_c (fun τ1 => ?_)
    refine (sv_iconst jM117 c117_28 rfl (v := 0) (by decide +kernel)).trans ?_
    refine (sv_istore (ls1 := [some (.ref 0), some (.long x1), none, some (.long x1), none, some (.int (1 : Int32)), some (.int (0 : Int32))]) jM117 c117_29 rfl (Nat.lt_of_lt_of_eq (by decide +kernel : 6 < 7) rfl) rfl).trans ?_
    rfl
set_option maxRecDepth 20000 in
set_option maxHeartbeats 4000000 in
theorem P_digestFits_L31 (x1 : Int64) (x3 : Int64) (x5 : Int32) (x6 : Int32) (σ : jm_S) : jv 117 31 [some (.ref 0), some (.long x1), none, some (.long x3), none, some (.int x5), some (.int x6)] [] σ = (if (4 : Int32) < x6 then some (some (.long x3), σ) else (if x5 = 0 then jv 117 31 [some (.ref 0), some (.long x1), none, some (.long (((31 : Int64) * x3) + (-3 : Int32).toInt64)), none, some (.int x5), some (.int (x6 + 1))] [] σ else jbi (jc 101 [(.ref 38), (.int x6)] σ) (fun r1 τ1 => jv 117 31 [some (.ref 0), some (.long x1), none, some (.long (((31 : Int64) * x3) + r1.toInt64)), none, some (.int x5), some (.int (x6 + 1))] [] τ1))) := by
  refine (sv_iload jM117 c117_31 rfl rfl).trans ?_
  refine (sv_iconst jM117 c117_33 rfl (v := 4) (by decide +kernel)).trans ?_
  refine (sv_icmp_gt jM117 c117_34 rfl (t := 70) (by decide +kernel)).trans ?_
  refine jif _ ?_ ?_
  ·
    refine (sv_lload_n jM117 c117_70 rfl rfl).trans ?_
    exact sv_lret jM117 c117_71 rfl rfl
  ·
    refine (sv_ldc2 jM117 c117_37 rfl ll_8_310).trans ?_
    refine (sv_lload_n jM117 c117_40 rfl rfl).trans ?_
    refine (sv_lmul jM117 c117_41 rfl).trans ?_
    refine (sv_iload jM117 c117_42 rfl rfl).trans ?_
    refine (sv_if_eq jM117 c117_44 rfl (t := 59) (by decide +kernel)).trans ?_
    refine jif _ ?_ ?_
    ·
      refine (sv_bipush jM117 c117_59 rfl (v := -3) (by decide +kernel)).trans ?_
      refine (sv_i2l jM117 c117_61 rfl).trans ?_
      refine (sv_ladd jM117 c117_62 rfl).trans ?_
      refine (sv_lstore_n (ls1 := [some (.ref 0), some (.long x1), none, some (.long (((31 : Int64) * x3) + (-3 : Int32).toInt64)), none, some (.int x5), some (.int x6)]) jM117 c117_63 rfl (Nat.lt_of_lt_of_eq (by decide +kernel : 3 + 1 < 7) rfl) rfl).trans ?_
      refine (sv_iinc (ls1 := [some (.ref 0), some (.long x1), none, some (.long (((31 : Int64) * x3) + (-3 : Int32).toInt64)), none, some (.int x5), some (.int (x6 + 1))]) jM117 c117_64 rfl rfl (v := 1) (by decide +kernel) rfl).trans ?_
      refine (sv_goto jM117 c117_67 rfl (t := 31) (by decide +kernel)).trans ?_
      rfl
    ·
      refine (sv_aload_n jM117 c117_47 rfl rfl).trans ?_
      refine (sv_getf jM117 c117_48 rfl lf_8_67 (fg_0_8 _)).trans ?_
      refine (sv_iload jM117 c117_51 rfl rfl).trans ?_
      refine (sv_callvi (pl := 0) jM117 c117_53 rfl (jm_call_v (a := 38) (as := [(.int x6)]) (rest := [(.long ((31 : Int64) * x3))]) lm_8_277 rfl jM101 rfl rfl rfl rfl rfl) jM101 rfl (Or.inl rfl)).trans ?_
      refine jbi_c (fun r1 τ1 => ?_)
      refine (sv_goto jM117 c117_56 rfl (t := 61) (by decide +kernel)).trans ?_
      refine (sv_i2l jM117 c117_61 rfl).trans ?_
      refine (sv_ladd jM117 c117_62 rfl).trans ?_
      refine (sv_lstore_n (ls1 := [some (.ref 0), some (.long x1), none, some (.long (((31 : Int64) * x3) + r1.toInt64)), none, some (.int x5), some (.int x6)]) jM117 c117_63 rfl (Nat.lt_of_lt_of_eq (by decide +kernel : 3 + 1 < 7) rfl) rfl).trans ?_
      refine (sv_iinc (ls1 := [some (.ref 0), some (.long x1), none, some (.long (((31 : Int64) * x3) + r1.toInt64)), none, some (.int x5), some (.int (x6 + 1))]) jM117 c117_64 rfl rfl (v := 1) (by decide +kernel) rfl).trans ?_
      refine (sv_goto jM117 c117_67 rfl (t := 31) (by decide +kernel)).trans ?_
      rfl
set_option maxRecDepth 20000 in
set_option maxHeartbeats 4000000 in
theorem P_worth_in (x1 : Int32) (σ : jm_S) : jc 61 [(.ref 0), (.int x1)] σ = jbi (jc 58 [(.ref 11), (.int x1)] σ) (fun r1 τ1 => jbi (jc 60 [(.ref 11), (.int x1), (.int (τ1 4 2))] τ1) (fun r2 τ2 => jbi (jc 59 [(.ref 11), (.int x1)] τ2) (fun r3 τ3 => jbi (jc 57 [(.ref 11), (.int x1)] τ3) (fun r4 τ4 => some (some (.int ((((τ2 4 3) * r3) - ((τ3 4 4) * r4)) - ((τ4 4 5) * (r1 + r2)))), τ4))))) := by
  refine (jc_of (ls1 := [some (.ref 0), some (.int x1), none]) ((jm_ini_of jM61).trans rfl)).trans ?_
  refine (sv_aload_n jM61 c61_0 rfl rfl).trans ?_
  refine (sv_getf jM61 c61_1 rfl lf_8_50 (fg_0_5 _)).trans ?_
  refine (sv_iload_n jM61 c61_4 rfl rfl).trans ?_
  refine (sv_callvi (pl := 0) jM61 c61_5 rfl (jm_call_v (a := 11) (as := [(.int x1)]) (rest := []) lm_8_334 rfl jM58 rfl rfl rfl rfl rfl) jM58 rfl (Or.inl rfl)).trans ?_
  refine jbi_c (fun r1 τ1 => ?_)
  refine (sv_aload_n jM61 c61_8 rfl rfl).trans ?_
  refine (sv_getf jM61 c61_9 rfl lf_8_50 (fg_0_5 _)).trans ?_
  refine (sv_iload_n jM61 c61_12 rfl rfl).trans ?_
  refine (sv_aload_n jM61 c61_13 rfl rfl).trans ?_
  refine (sv_getf jM61 c61_14 rfl lf_8_25 (fg_0_1 _)).trans ?_
  refine (sv_iconst jM61 c61_17 rfl (v := 2) (by decide +kernel)).trans ?_
  refine (sv_iald1 jM61 c61_18 rfl (ia_4 _) (by decide +kernel) (i := 2) (by decide +kernel)).trans ?_
  refine (sv_callvi (pl := 0) jM61 c61_19 rfl (jm_call_v (a := 11) (as := [(.int x1), (.int (τ1 4 2))]) (rest := [(.int r1)]) lm_8_341 rfl jM60 rfl rfl rfl rfl rfl) jM60 rfl (Or.inl rfl)).trans ?_
  refine jbi_c (fun r2 τ2 => ?_)
  refine (sv_iadd jM61 c61_22 rfl).trans ?_
  refine (sv_istore_n (ls1 := [some (.ref 0), some (.int x1), some (.int (r1 + r2))]) jM61 c61_23 rfl (Nat.lt_of_lt_of_eq (by decide +kernel : 2 < 3) rfl) rfl).trans ?_
  refine (sv_aload_n jM61 c61_24 rfl rfl).trans ?_
  refine (sv_getf jM61 c61_25 rfl lf_8_25 (fg_0_1 _)).trans ?_
  refine (sv_iconst jM61 c61_28 rfl (v := 3) (by decide +kernel)).trans ?_
  refine (sv_iald1 jM61 c61_29 rfl (ia_4 _) (by decide +kernel) (i := 3) (by decide +kernel)).trans ?_
  refine (sv_aload_n jM61 c61_30 rfl rfl).trans ?_
  refine (sv_getf jM61 c61_31 rfl lf_8_50 (fg_0_5 _)).trans ?_
  refine (sv_iload_n jM61 c61_34 rfl rfl).trans ?_
  refine (sv_callvi (pl := 0) jM61 c61_35 rfl (jm_call_v (a := 11) (as := [(.int x1)]) (rest := [(.int (τ2 4 3))]) lm_8_206 rfl jM59 rfl rfl rfl rfl rfl) jM59 rfl (Or.inl rfl)).trans ?_
  refine jbi_c (fun r3 τ3 => ?_)
  refine (sv_imul jM61 c61_38 rfl).trans ?_
  refine (sv_aload_n jM61 c61_39 rfl rfl).trans ?_
  refine (sv_getf jM61 c61_40 rfl lf_8_25 (fg_0_1 _)).trans ?_
  refine (sv_iconst jM61 c61_43 rfl (v := 4) (by decide +kernel)).trans ?_
  refine (sv_iald1 jM61 c61_44 rfl (ia_4 _) (by decide +kernel) (i := 4) (by decide +kernel)).trans ?_
  refine (sv_aload_n jM61 c61_45 rfl rfl).trans ?_
  refine (sv_getf jM61 c61_46 rfl lf_8_50 (fg_0_5 _)).trans ?_
  refine (sv_iload_n jM61 c61_49 rfl rfl).trans ?_
  refine (sv_callvi (pl := 0) jM61 c61_50 rfl (jm_call_v (a := 11) (as := [(.int x1)]) (rest := [(.int (τ3 4 4)), (.int ((τ2 4 3) * r3))]) lm_8_331 rfl jM57 rfl rfl rfl rfl rfl) jM57 rfl (Or.inl rfl)).trans ?_
  refine jbi_c (fun r4 τ4 => ?_)
  refine (sv_imul jM61 c61_53 rfl).trans ?_
  refine (sv_isub jM61 c61_54 rfl).trans ?_
  refine (sv_aload_n jM61 c61_55 rfl rfl).trans ?_
  refine (sv_getf jM61 c61_56 rfl lf_8_25 (fg_0_1 _)).trans ?_
  refine (sv_iconst jM61 c61_59 rfl (v := 5) (by decide +kernel)).trans ?_
  refine (sv_iald1 jM61 c61_60 rfl (ia_4 _) (by decide +kernel) (i := 5) (by decide +kernel)).trans ?_
  refine (sv_iload_n jM61 c61_61 rfl rfl).trans ?_
  refine (sv_imul jM61 c61_62 rfl).trans ?_
  refine (sv_isub jM61 c61_63 rfl).trans ?_
  exact sv_iret jM61 c61_64 rfl rfl
