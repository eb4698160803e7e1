theorem jm_lk_mem {β : Type} {l : List (Nat × β)} {n : Nat} {v : β} (h : jm_lk l n = some v) : (n, v) ∈ l := by
  induction l with
  | nil => cases h
  | cons q r ih =>
    obtain ⟨k, x⟩ := q
    rw [jm_lk] at h
    split at h
    · next hb => cases h; rw [Nat.eq_of_beq_eq_true hb]; exact List.mem_cons_self
    · exact List.mem_cons_of_mem _ (ih h)
theorem jm_lk2_mem {β : Type} {l : List (Nat × Nat × β)} {o n : Nat} {v : β} (h : jm_lk2 l o n = some v) : (o, n, v) ∈ l := by
  induction l with
  | nil => cases h
  | cons q r ih =>
    obtain ⟨j, k, x⟩ := q
    rw [jm_lk2] at h
    split at h
    · next hb =>
      rw [Bool.and_eq_true] at hb
      cases h
      rw [Nat.eq_of_beq_eq_true hb.1, Nat.eq_of_beq_eq_true hb.2]
      exact List.mem_cons_self
    · exact List.mem_cons_of_mem _ (ih h)
abbrev jm_M : Type := Nat × MethodName × ByteArray × Nat × Option FieldType × Nat × Bool × Nat × Nat × Nat × Nat × Nat
def jDz0 : List (jm_M × List (Nat × Instr × Nat)) := [(jMt0, jC0), (jMt1, jC1), (jMt2, jC2), (jMt3, jC3), (jMt4, jC4), (jMt5, jC5), (jMt6, jC6), (jMt7, jC7), (jMt8, jC8), (jMt9, jC9), (jMt10, jC10), (jMt11, jC11), (jMt12, jC12), (jMt13, jC13), (jMt14, jC14), (jMt15, jC15)]
theorem jDr0 : ∀ p ∈ jDz0, jm_okD p.1.2.2.1 p.2 = true := List.forall_mem_cons.mpr ⟨jD0, List.forall_mem_cons.mpr ⟨jD1, List.forall_mem_cons.mpr ⟨jD2, List.forall_mem_cons.mpr ⟨jD3, List.forall_mem_cons.mpr ⟨jD4, List.forall_mem_cons.mpr ⟨jD5, List.forall_mem_cons.mpr ⟨jD6, List.forall_mem_cons.mpr ⟨jD7, List.forall_mem_cons.mpr ⟨jD8, List.forall_mem_cons.mpr ⟨jD9, List.forall_mem_cons.mpr ⟨jD10, List.forall_mem_cons.mpr ⟨jD11, List.forall_mem_cons.mpr ⟨jD12, List.forall_mem_cons.mpr ⟨jD13, List.forall_mem_cons.mpr ⟨jD14, List.forall_mem_cons.mpr ⟨jD15, fun _ h => absurd h List.not_mem_nil⟩⟩⟩⟩⟩⟩⟩⟩⟩⟩⟩⟩⟩⟩⟩⟩
def jDz1 : List (jm_M × List (Nat × Instr × Nat)) := [(jMt16, jC16), (jMt17, jC17), (jMt18, jC18), (jMt19, jC19), (jMt20, jC20), (jMt21, jC21), (jMt22, jC22), (jMt23, jC23), (jMt24, jC24), (jMt25, jC25), (jMt26, jC26), (jMt27, jC27), (jMt28, jC28), (jMt29, jC29), (jMt30, jC30), (jMt31, jC31)]
theorem jDr1 : ∀ p ∈ jDz1, jm_okD p.1.2.2.1 p.2 = true := List.forall_mem_cons.mpr ⟨jD16, List.forall_mem_cons.mpr ⟨jD17, List.forall_mem_cons.mpr ⟨jD18, List.forall_mem_cons.mpr ⟨jD19, List.forall_mem_cons.mpr ⟨jD20, List.forall_mem_cons.mpr ⟨jD21, List.forall_mem_cons.mpr ⟨jD22, List.forall_mem_cons.mpr ⟨jD23, List.forall_mem_cons.mpr ⟨jD24, List.forall_mem_cons.mpr ⟨jD25, List.forall_mem_cons.mpr ⟨jD26, List.forall_mem_cons.mpr ⟨jD27, List.forall_mem_cons.mpr ⟨jD28, List.forall_mem_cons.mpr ⟨jD29, List.forall_mem_cons.mpr ⟨jD30, List.forall_mem_cons.mpr ⟨jD31, fun _ h => absurd h List.not_mem_nil⟩⟩⟩⟩⟩⟩⟩⟩⟩⟩⟩⟩⟩⟩⟩⟩
def jDz2 : List (jm_M × List (Nat × Instr × Nat)) := [(jMt32, jC32), (jMt33, jC33), (jMt34, jC34), (jMt35, jC35), (jMt36, jC36), (jMt37, jC37), (jMt38, jC38), (jMt39, jC39), (jMt40, jC40), (jMt41, jC41), (jMt42, jC42), (jMt43, jC43), (jMt44, jC44), (jMt45, jC45), (jMt46, jC46), (jMt47, jC47)]
theorem jDr2 : ∀ p ∈ jDz2, jm_okD p.1.2.2.1 p.2 = true := List.forall_mem_cons.mpr ⟨jD32, List.forall_mem_cons.mpr ⟨jD33, List.forall_mem_cons.mpr ⟨jD34, List.forall_mem_cons.mpr ⟨jD35, List.forall_mem_cons.mpr ⟨jD36, List.forall_mem_cons.mpr ⟨jD37, List.forall_mem_cons.mpr ⟨jD38, List.forall_mem_cons.mpr ⟨jD39, List.forall_mem_cons.mpr ⟨jD40, List.forall_mem_cons.mpr ⟨jD41, List.forall_mem_cons.mpr ⟨jD42, List.forall_mem_cons.mpr ⟨jD43, List.forall_mem_cons.mpr ⟨jD44, List.forall_mem_cons.mpr ⟨jD45, List.forall_mem_cons.mpr ⟨jD46, List.forall_mem_cons.mpr ⟨jD47, fun _ h => absurd h List.not_mem_nil⟩⟩⟩⟩⟩⟩⟩⟩⟩⟩⟩⟩⟩⟩⟩⟩
def jDz3 : List (jm_M × List (Nat × Instr × Nat)) := [(jMt48, jC48), (jMt49, jC49), (jMt50, jC50), (jMt51, jC51), (jMt52, jC52), (jMt53, jC53), (jMt54, jC54), (jMt55, jC55), (jMt56, jC56), (jMt57, jC57), (jMt58, jC58), (jMt59, jC59), (jMt60, jC60), (jMt61, jC61), (jMt62, jC62), (jMt63, jC63)]
theorem jDr3 : ∀ p ∈ jDz3, jm_okD p.1.2.2.1 p.2 = true := List.forall_mem_cons.mpr ⟨jD48, List.forall_mem_cons.mpr ⟨jD49, List.forall_mem_cons.mpr ⟨jD50, List.forall_mem_cons.mpr ⟨jD51, List.forall_mem_cons.mpr ⟨jD52, List.forall_mem_cons.mpr ⟨jD53, List.forall_mem_cons.mpr ⟨jD54, List.forall_mem_cons.mpr ⟨jD55, List.forall_mem_cons.mpr ⟨jD56, List.forall_mem_cons.mpr ⟨jD57, List.forall_mem_cons.mpr ⟨jD58, List.forall_mem_cons.mpr ⟨jD59, List.forall_mem_cons.mpr ⟨jD60, List.forall_mem_cons.mpr ⟨jD61, List.forall_mem_cons.mpr ⟨jD62, List.forall_mem_cons.mpr ⟨jD63, fun _ h => absurd h List.not_mem_nil⟩⟩⟩⟩⟩⟩⟩⟩⟩⟩⟩⟩⟩⟩⟩⟩
def jDz4 : List (jm_M × List (Nat × Instr × Nat)) := [(jMt64, jC64), (jMt65, jC65), (jMt66, jC66), (jMt67, jC67), (jMt68, jC68), (jMt69, jC69), (jMt70, jC70), (jMt71, jC71), (jMt72, jC72), (jMt73, jC73), (jMt74, jC74), (jMt75, jC75), (jMt76, jC76), (jMt77, jC77), (jMt78, jC78), (jMt79, jC79)]
theorem jDr4 : ∀ p ∈ jDz4, jm_okD p.1.2.2.1 p.2 = true := List.forall_mem_cons.mpr ⟨jD64, List.forall_mem_cons.mpr ⟨jD65, List.forall_mem_cons.mpr ⟨jD66, List.forall_mem_cons.mpr ⟨jD67, List.forall_mem_cons.mpr ⟨jD68, List.forall_mem_cons.mpr ⟨jD69, List.forall_mem_cons.mpr ⟨jD70, List.forall_mem_cons.mpr ⟨jD71, List.forall_mem_cons.mpr ⟨jD72, List.forall_mem_cons.mpr ⟨jD73, List.forall_mem_cons.mpr ⟨jD74, List.forall_mem_cons.mpr ⟨jD75, List.forall_mem_cons.mpr ⟨jD76, List.forall_mem_cons.mpr ⟨jD77, List.forall_mem_cons.mpr ⟨jD78, List.forall_mem_cons.mpr ⟨jD79, fun _ h => absurd h List.not_mem_nil⟩⟩⟩⟩⟩⟩⟩⟩⟩⟩⟩⟩⟩⟩⟩⟩
def jDz5 : List (jm_M × List (Nat × Instr × Nat)) := [(jMt80, jC80), (jMt81, jC81), (jMt82, jC82), (jMt83, jC83), (jMt84, jC84), (jMt85, jC85), (jMt86, jC86), (jMt87, jC87), (jMt88, jC88), (jMt89, jC89), (jMt90, jC90), (jMt91, jC91), (jMt92, jC92), (jMt93, jC93), (jMt94, jC94), (jMt95, jC95)]
theorem jDr5 : ∀ p ∈ jDz5, jm_okD p.1.2.2.1 p.2 = true := List.forall_mem_cons.mpr ⟨jD80, List.forall_mem_cons.mpr ⟨jD81, List.forall_mem_cons.mpr ⟨jD82, List.forall_mem_cons.mpr ⟨jD83, List.forall_mem_cons.mpr ⟨jD84, List.forall_mem_cons.mpr ⟨jD85, List.forall_mem_cons.mpr ⟨jD86, List.forall_mem_cons.mpr ⟨jD87, List.forall_mem_cons.mpr ⟨jD88, List.forall_mem_cons.mpr ⟨jD89, List.forall_mem_cons.mpr ⟨jD90, List.forall_mem_cons.mpr ⟨jD91, List.forall_mem_cons.mpr ⟨jD92, List.forall_mem_cons.mpr ⟨jD93, List.forall_mem_cons.mpr ⟨jD94, List.forall_mem_cons.mpr ⟨jD95, fun _ h => absurd h List.not_mem_nil⟩⟩⟩⟩⟩⟩⟩⟩⟩⟩⟩⟩⟩⟩⟩⟩
def jDz6 : List (jm_M × List (Nat × Instr × Nat)) := [(jMt96, jC96), (jMt97, jC97), (jMt98, jC98), (jMt99, jC99), (jMt100, jC100), (jMt101, jC101), (jMt102, jC102), (jMt103, jC103), (jMt104, jC104), (jMt105, jC105), (jMt106, jC106), (jMt107, jC107), (jMt108, jC108), (jMt109, jC109), (jMt110, jC110), (jMt111, jC111)]
theorem jDr6 : ∀ p ∈ jDz6, jm_okD p.1.2.2.1 p.2 = true := List.forall_mem_cons.mpr ⟨jD96, List.forall_mem_cons.mpr ⟨jD97, List.forall_mem_cons.mpr ⟨jD98, List.forall_mem_cons.mpr ⟨jD99, List.forall_mem_cons.mpr ⟨jD100, List.forall_mem_cons.mpr ⟨jD101, List.forall_mem_cons.mpr ⟨jD102, List.forall_mem_cons.mpr ⟨jD103, List.forall_mem_cons.mpr ⟨jD104, List.forall_mem_cons.mpr ⟨jD105, List.forall_mem_cons.mpr ⟨jD106, List.forall_mem_cons.mpr ⟨jD107, List.forall_mem_cons.mpr ⟨jD108, List.forall_mem_cons.mpr ⟨jD109, List.forall_mem_cons.mpr ⟨jD110, List.forall_mem_cons.mpr ⟨jD111, fun _ h => absurd h List.not_mem_nil⟩⟩⟩⟩⟩⟩⟩⟩⟩⟩⟩⟩⟩⟩⟩⟩
def jDz7 : List (jm_M × List (Nat × Instr × Nat)) := [(jMt112, jC112), (jMt113, jC113), (jMt114, jC114), (jMt115, jC115), (jMt116, jC116), (jMt117, jC117), (jMt118, jC118), (jMt119, jC119), (jMt120, jC120), (jMt121, jC121), (jMt122, jC122), (jMt123, jC123), (jMt124, jC124), (jMt125, jC125), (jMt126, jC126), (jMt127, jC127)]
theorem jDr7 : ∀ p ∈ jDz7, jm_okD p.1.2.2.1 p.2 = true := List.forall_mem_cons.mpr ⟨jD112, List.forall_mem_cons.mpr ⟨jD113, List.forall_mem_cons.mpr ⟨jD114, List.forall_mem_cons.mpr ⟨jD115, List.forall_mem_cons.mpr ⟨jD116, List.forall_mem_cons.mpr ⟨jD117, List.forall_mem_cons.mpr ⟨jD118, List.forall_mem_cons.mpr ⟨jD119, List.forall_mem_cons.mpr ⟨jD120, List.forall_mem_cons.mpr ⟨jD121, List.forall_mem_cons.mpr ⟨jD122, List.forall_mem_cons.mpr ⟨jD123, List.forall_mem_cons.mpr ⟨jD124, List.forall_mem_cons.mpr ⟨jD125, List.forall_mem_cons.mpr ⟨jD126, List.forall_mem_cons.mpr ⟨jD127, fun _ h => absurd h List.not_mem_nil⟩⟩⟩⟩⟩⟩⟩⟩⟩⟩⟩⟩⟩⟩⟩⟩
def jDz8 : List (jm_M × List (Nat × Instr × Nat)) := [(jMt128, jC128), (jMt129, jC129), (jMt130, jC130), (jMt131, jC131), (jMt132, jC132), (jMt133, jC133), (jMt134, jC134), (jMt135, jC135), (jMt136, jC136), (jMt137, jC137), (jMt138, jC138), (jMt139, jC139), (jMt140, jC140), (jMt141, jC141), (jMt142, jC142), (jMt143, jC143)]
theorem jDr8 : ∀ p ∈ jDz8, jm_okD p.1.2.2.1 p.2 = true := List.forall_mem_cons.mpr ⟨jD128, List.forall_mem_cons.mpr ⟨jD129, List.forall_mem_cons.mpr ⟨jD130, List.forall_mem_cons.mpr ⟨jD131, List.forall_mem_cons.mpr ⟨jD132, List.forall_mem_cons.mpr ⟨jD133, List.forall_mem_cons.mpr ⟨jD134, List.forall_mem_cons.mpr ⟨jD135, List.forall_mem_cons.mpr ⟨jD136, List.forall_mem_cons.mpr ⟨jD137, List.forall_mem_cons.mpr ⟨jD138, List.forall_mem_cons.mpr ⟨jD139, List.forall_mem_cons.mpr ⟨jD140, List.forall_mem_cons.mpr ⟨jD141, List.forall_mem_cons.mpr ⟨jD142, List.forall_mem_cons.mpr ⟨jD143, fun _ h => absurd h List.not_mem_nil⟩⟩⟩⟩⟩⟩⟩⟩⟩⟩⟩⟩⟩⟩⟩⟩
def jDz9 : List (jm_M × List (Nat × Instr × Nat)) := [(jMt144, jC144), (jMt145, jC145), (jMt146, jC146), (jMt147, jC147), (jMt148, jC148), (jMt149, jC149), (jMt150, jC150), (jMt151, jC151), (jMt152, jC152), (jMt153, jC153), (jMt154, jC154), (jMt155, jC155), (jMt156, jC156), (jMt157, jC157), (jMt158, jC158), (jMt159, jC159)]
theorem jDr9 : ∀ p ∈ jDz9, jm_okD p.1.2.2.1 p.2 = true := List.forall_mem_cons.mpr ⟨jD144, List.forall_mem_cons.mpr ⟨jD145, List.forall_mem_cons.mpr ⟨jD146, List.forall_mem_cons.mpr ⟨jD147, List.forall_mem_cons.mpr ⟨jD148, List.forall_mem_cons.mpr ⟨jD149, List.forall_mem_cons.mpr ⟨jD150, List.forall_mem_cons.mpr ⟨jD151, List.forall_mem_cons.mpr ⟨jD152, List.forall_mem_cons.mpr ⟨jD153, List.forall_mem_cons.mpr ⟨jD154, List.forall_mem_cons.mpr ⟨jD155, List.forall_mem_cons.mpr ⟨jD156, List.forall_mem_cons.mpr ⟨jD157, List.forall_mem_cons.mpr ⟨jD158, List.forall_mem_cons.mpr ⟨jD159, fun _ h => absurd h List.not_mem_nil⟩⟩⟩⟩⟩⟩⟩⟩⟩⟩⟩⟩⟩⟩⟩⟩
def jDz10 : List (jm_M × List (Nat × Instr × Nat)) := [(jMt160, jC160), (jMt161, jC161), (jMt162, jC162), (jMt163, jC163), (jMt164, jC164), (jMt165, jC165), (jMt166, jC166), (jMt167, jC167), (jMt168, jC168), (jMt169, jC169), (jMt170, jC170), (jMt171, jC171), (jMt172, jC172), (jMt173, jC173), (jMt174, jC174), (jMt175, jC175)]
theorem jDr10 : ∀ p ∈ jDz10, jm_okD p.1.2.2.1 p.2 = true := List.forall_mem_cons.mpr ⟨jD160, List.forall_mem_cons.mpr ⟨jD161, List.forall_mem_cons.mpr ⟨jD162, List.forall_mem_cons.mpr ⟨jD163, List.forall_mem_cons.mpr ⟨jD164, List.forall_mem_cons.mpr ⟨jD165, List.forall_mem_cons.mpr ⟨jD166, List.forall_mem_cons.mpr ⟨jD167, List.forall_mem_cons.mpr ⟨jD168, List.forall_mem_cons.mpr ⟨jD169, List.forall_mem_cons.mpr ⟨jD170, List.forall_mem_cons.mpr ⟨jD171, List.forall_mem_cons.mpr ⟨jD172, List.forall_mem_cons.mpr ⟨jD173, List.forall_mem_cons.mpr ⟨jD174, List.forall_mem_cons.mpr ⟨jD175, fun _ h => absurd h List.not_mem_nil⟩⟩⟩⟩⟩⟩⟩⟩⟩⟩⟩⟩⟩⟩⟩⟩
def jDz11 : List (jm_M × List (Nat × Instr × Nat)) := [(jMt176, jC176), (jMt177, jC177), (jMt178, jC178), (jMt179, jC179), (jMt180, jC180), (jMt181, jC181), (jMt182, jC182), (jMt183, jC183), (jMt184, jC184), (jMt185, jC185), (jMt186, jC186), (jMt187, jC187), (jMt188, jC188), (jMt189, jC189), (jMt190, jC190), (jMt191, jC191)]
theorem jDr11 : ∀ p ∈ jDz11, jm_okD p.1.2.2.1 p.2 = true := List.forall_mem_cons.mpr ⟨jD176, List.forall_mem_cons.mpr ⟨jD177, List.forall_mem_cons.mpr ⟨jD178, List.forall_mem_cons.mpr ⟨jD179, List.forall_mem_cons.mpr ⟨jD180, List.forall_mem_cons.mpr ⟨jD181, List.forall_mem_cons.mpr ⟨jD182, List.forall_mem_cons.mpr ⟨jD183, List.forall_mem_cons.mpr ⟨jD184, List.forall_mem_cons.mpr ⟨jD185, List.forall_mem_cons.mpr ⟨jD186, List.forall_mem_cons.mpr ⟨jD187, List.forall_mem_cons.mpr ⟨jD188, List.forall_mem_cons.mpr ⟨jD189, List.forall_mem_cons.mpr ⟨jD190, List.forall_mem_cons.mpr ⟨jD191, fun _ h => absurd h List.not_mem_nil⟩⟩⟩⟩⟩⟩⟩⟩⟩⟩⟩⟩⟩⟩⟩⟩
def jDz12 : List (jm_M × List (Nat × Instr × Nat)) := [(jMt192, jC192), (jMt193, jC193), (jMt194, jC194), (jMt195, jC195), (jMt196, jC196), (jMt197, jC197), (jMt198, jC198), (jMt199, jC199), (jMt200, jC200), (jMt201, jC201)]
theorem jDr12 : ∀ p ∈ jDz12, jm_okD p.1.2.2.1 p.2 = true := List.forall_mem_cons.mpr ⟨jD192, List.forall_mem_cons.mpr ⟨jD193, List.forall_mem_cons.mpr ⟨jD194, List.forall_mem_cons.mpr ⟨jD195, List.forall_mem_cons.mpr ⟨jD196, List.forall_mem_cons.mpr ⟨jD197, List.forall_mem_cons.mpr ⟨jD198, List.forall_mem_cons.mpr ⟨jD199, List.forall_mem_cons.mpr ⟨jD200, List.forall_mem_cons.mpr ⟨jD201, fun _ h => absurd h List.not_mem_nil⟩⟩⟩⟩⟩⟩⟩⟩⟩⟩
set_option maxRecDepth 100000 in
def jDz : List (jm_M × List (Nat × Instr × Nat)) := jDz0 ++ (jDz1 ++ (jDz2 ++ (jDz3 ++ (jDz4 ++ (jDz5 ++ (jDz6 ++ (jDz7 ++ (jDz8 ++ (jDz9 ++ (jDz10 ++ (jDz11 ++ (jDz12))))))))))))
set_option maxRecDepth 100000 in
theorem jDz_eq : jDz = jm_mt.zip jm_codes := rfl
theorem jDr : ∀ p ∈ jDz, jm_okD p.1.2.2.1 p.2 = true := by
  show ∀ p ∈ jDz0 ++ (jDz1 ++ (jDz2 ++ (jDz3 ++ (jDz4 ++ (jDz5 ++ (jDz6 ++ (jDz7 ++ (jDz8 ++ (jDz9 ++ (jDz10 ++ (jDz11 ++ (jDz12)))))))))))), jm_okD p.1.2.2.1 p.2 = true
  exact List.forall_mem_append.mpr ⟨jDr0, List.forall_mem_append.mpr ⟨jDr1, List.forall_mem_append.mpr ⟨jDr2, List.forall_mem_append.mpr ⟨jDr3, List.forall_mem_append.mpr ⟨jDr4, List.forall_mem_append.mpr ⟨jDr5, List.forall_mem_append.mpr ⟨jDr6, List.forall_mem_append.mpr ⟨jDr7, List.forall_mem_append.mpr ⟨jDr8, List.forall_mem_append.mpr ⟨jDr9, List.forall_mem_append.mpr ⟨jDr10, List.forall_mem_append.mpr ⟨jDr11, jDr12⟩⟩⟩⟩⟩⟩⟩⟩⟩⟩⟩⟩
theorem jm_mt_len : jm_mt.length = 202 := by decide +kernel
theorem jm_codes_len : jm_codes.length = 202 := by decide +kernel
theorem jm_dec {m pc : Nat} {r : Instr × Nat} {mt : jm_M} (hm : jm_mt[m]? = some mt) (h : jm_code m pc = some r) : decode mt.2.2.1 pc = .ok r := by
  unfold jm_code at h
  cases hc : jm_codes[m]? with
  | none => rw [hc] at h; cases h
  | some l =>
    rw [hc] at h
    have hz : (mt, l) ∈ jDz := by
      rw [jDz_eq]
      refine List.mem_of_getElem? (i := m) ?_
      rw [List.getElem?_zip_eq_some]
      exact ⟨hm, hc⟩
    have h1 := jDr _ hz
    have h2 := List.all_eq_true.mp h1 _ (jm_lk_mem h)
    exact of_decide_eq_true h2
def jm_tg : List Cond := lw_tbl.filter goodWord
theorem jm_tg_of {i : Nat} {w : Cond} (h : lw_tbl[i]? = some w) (hg : goodWord w = true) : w ∈ jm_tg := List.mem_filter.mpr ⟨List.mem_of_getElem? h, hg⟩
theorem jm_tg_tbl {w : Cond} (h : w ∈ jm_tg) : w ∈ lw_tbl := (List.mem_filter.mp h).1
theorem jm_tg_good {w : Cond} (h : w ∈ jm_tg) : goodWord w = true := (List.mem_filter.mp h).2
def jm_okF (e : Nat × Nat × Nat × Nat × Nat) : Bool := match jm_own[e.1]?, jm_cl[e.2.2.1]? with
  | some own, some (C, T, N) => decide (e.2.2.2.1 < N) && (decide ((T e.2.2.2.1).1 = C) && (decide (lw_tbl[e.2.2.2.2]? = some (.fieldLink own e.2.1 C (T e.2.2.2.1).2.1 (T e.2.2.2.1).2.2.1)) || decide (lw_tbl[e.2.2.2.2]? = some (.fieldLinkNest own e.2.1 C (T e.2.2.2.1).2.1 (T e.2.2.2.1).2.2.1 "PopPan"))))
  | _, _ => false
theorem jm_okF_all : jm_fl.all jm_okF = true := by decide +kernel
def jm_okC (e : Nat × Nat × Int32 × Nat) : Bool := match jm_own[e.1]? with
  | some own => decide (lw_tbl[e.2.2.2]? = some (.constant own e.2.1 e.2.2.1))
  | _ => false
theorem jm_okC_all : jm_lc.all jm_okC = true := by decide +kernel
def jm_okL (e : Nat × Nat × Int64 × Nat) : Bool := match jm_own[e.1]? with
  | some own => decide (lw_tbl[e.2.2.2]? = some (.constantLong own e.2.1 e.2.2.1))
  | _ => false
theorem jm_okL_all : jm_ll.all jm_okL = true := by decide +kernel
def jm_okS (e : Nat × Nat × Nat × Nat) : Bool := match jm_own[e.1]?, jm_stv[e.2.2.1]? with
  | some own, some q => decide (lw_tbl[e.2.2.2]? = some (.fieldLink own e.2.1 "PopPan" q.1 "[I"))
  | _, _ => false
theorem jm_okS_all : jm_sl.all jm_okS = true := by decide +kernel
def jm_nn (k : Nat) : Option MethodName := match k with
  | 1000 => some arraycopyName
  | 1001 => some Lib.Math.max.name
  | 1002 => some Lib.Math.min.name
  | 1003 => some Lib.Math.abs.name
  | 1004 => some Lib.MathLoose.max_long.x
  | _ => none
theorem jm_w0 : Cond.native arraycopyName ∈ lw_tbl ∧ Cond.static arraycopyName ∈ lw_tbl ∧ Cond.initialized "java/lang/System" ∈ lw_tbl ∧ Cond.initialized "java/lang/Math" ∈ lw_tbl := by decide +kernel
theorem jm_w1 : Cond.static Lib.Math.max.name ∈ lw_tbl ∧ Cond.code Lib.Math.max.name Lib.Math.max.code 2 (some .int) ∈ lw_tbl := by decide +kernel
theorem jm_w2 : Cond.static Lib.Math.min.name ∈ lw_tbl ∧ Cond.code Lib.Math.min.name Lib.Math.min.code 2 (some .int) ∈ lw_tbl := by decide +kernel
theorem jm_w3 : Cond.static Lib.Math.abs.name ∈ lw_tbl ∧ Cond.code Lib.Math.abs.name Lib.Math.abs.code 1 (some .int) ∈ lw_tbl := by decide +kernel
theorem jm_w4 : Cond.static Lib.MathLoose.max_long.x ∈ lw_tbl ∧ Cond.code Lib.MathLoose.max_long.x Lib.MathLoose.max_long.code 4 (some .long) ∈ lw_tbl := by decide +kernel
def jm_okM (e : Nat × Nat × Nat × Nat) : Bool := match jm_own[e.1]? with
  | some own => match Nat.ble 1000 e.2.2.1 with
    | true => match jm_nn e.2.2.1 with
      | some y => decide (lw_tbl[e.2.2.2]? = some (.methodLink own e.2.1 y))
      | none => false
    | false => match jm_mt[e.2.2.1]? with
      | some mt => decide (lw_tbl[e.2.2.2]? = some (.methodLink own e.2.1 mt.2.1)) && decide (e.2.2.1 < 201)
      | none => false
  | _ => false
theorem jm_okM_all : jm_ml.all jm_okM = true := by decide +kernel
/-- what the tables say of a method that is called -/
def jm_okY (t : jm_M) : Bool := decide (jm_own[t.1]? = some t.2.1.cls) && (decide (t.2.2.2.1 ≤ 19) && (plainName t.2.1.cls && (decide (t.2.1.cls ≠ "java/lang/invoke/MethodHandle") && (decide (t.2.1.cls ≠ "java/lang/invoke/VarHandle") &&
  (decide ((parseMethodDescriptor t.2.1.desc).map (fun d => d.parameters.length) = some (if t.2.2.2.2.2.2.1 = true then t.2.2.2.2.2.2.2.1 else t.2.2.2.2.2.2.2.1 - 1)) && (decide (lw_tbl[t.2.2.2.2.2.2.2.2.2.2.2]? = some (.initialized t.2.1.cls)) &&
  (if t.2.2.2.2.2.2.1 = true then decide (lw_tbl[t.2.2.2.2.2.2.2.2.2.1]? = some (.static t.2.1)) else decide (lw_tbl[t.2.2.2.2.2.2.2.2.2.1]? = some (.instanceMethod t.2.1)) && (decide (lw_tbl[t.2.2.2.2.2.2.2.2.2.2.1]? = some (.selects t.2.1.cls t.2.1 t.2.1)) && decide (1 ≤ t.2.2.2.2.2.2.2.1)))))))))
theorem jm_okY_all : (jm_mt.take 201).all jm_okY = true := by decide +kernel
set_option maxRecDepth 100000 in
theorem jK0 : lw_tbl[350]? = some (.code jMt0.2.1 jMt0.2.2.1 jMt0.2.2.2.1 jMt0.2.2.2.2.1) := rfl
set_option maxRecDepth 100000 in
theorem jK1 : lw_tbl[353]? = some (.code jMt1.2.1 jMt1.2.2.1 jMt1.2.2.2.1 jMt1.2.2.2.2.1) := rfl
set_option maxRecDepth 100000 in
theorem jK2 : lw_tbl[356]? = some (.code jMt2.2.1 jMt2.2.2.1 jMt2.2.2.2.1 jMt2.2.2.2.2.1) := rfl
set_option maxRecDepth 100000 in
theorem jK3 : lw_tbl[359]? = some (.code jMt3.2.1 jMt3.2.2.1 jMt3.2.2.2.1 jMt3.2.2.2.2.1) := rfl
set_option maxRecDepth 100000 in
theorem jK4 : lw_tbl[367]? = some (.code jMt4.2.1 jMt4.2.2.1 jMt4.2.2.2.1 jMt4.2.2.2.2.1) := rfl
set_option maxRecDepth 100000 in
theorem jK5 : lw_tbl[371]? = some (.code jMt5.2.1 jMt5.2.2.1 jMt5.2.2.2.1 jMt5.2.2.2.2.1) := rfl
set_option maxRecDepth 100000 in
theorem jK6 : lw_tbl[375]? = some (.code jMt6.2.1 jMt6.2.2.1 jMt6.2.2.2.1 jMt6.2.2.2.2.1) := rfl
set_option maxRecDepth 100000 in
theorem jK7 : lw_tbl[379]? = some (.code jMt7.2.1 jMt7.2.2.1 jMt7.2.2.2.1 jMt7.2.2.2.2.1) := rfl
set_option maxRecDepth 100000 in
theorem jK8 : lw_tbl[383]? = some (.code jMt8.2.1 jMt8.2.2.1 jMt8.2.2.2.1 jMt8.2.2.2.2.1) := rfl
set_option maxRecDepth 100000 in
theorem jK9 : lw_tbl[387]? = some (.code jMt9.2.1 jMt9.2.2.1 jMt9.2.2.2.1 jMt9.2.2.2.2.1) := rfl
set_option maxRecDepth 100000 in
theorem jK10 : lw_tbl[391]? = some (.code jMt10.2.1 jMt10.2.2.1 jMt10.2.2.2.1 jMt10.2.2.2.2.1) := rfl
set_option maxRecDepth 100000 in
theorem jK11 : lw_tbl[395]? = some (.code jMt11.2.1 jMt11.2.2.1 jMt11.2.2.2.1 jMt11.2.2.2.2.1) := rfl
set_option maxRecDepth 100000 in
theorem jK12 : lw_tbl[399]? = some (.code jMt12.2.1 jMt12.2.2.1 jMt12.2.2.2.1 jMt12.2.2.2.2.1) := rfl
set_option maxRecDepth 100000 in
theorem jK13 : lw_tbl[404]? = some (.code jMt13.2.1 jMt13.2.2.1 jMt13.2.2.2.1 jMt13.2.2.2.2.1) := rfl
set_option maxRecDepth 100000 in
theorem jK14 : lw_tbl[408]? = some (.code jMt14.2.1 jMt14.2.2.1 jMt14.2.2.2.1 jMt14.2.2.2.2.1) := rfl
set_option maxRecDepth 100000 in
theorem jK15 : lw_tbl[416]? = some (.code jMt15.2.1 jMt15.2.2.1 jMt15.2.2.2.1 jMt15.2.2.2.2.1) := rfl
set_option maxRecDepth 100000 in
theorem jK16 : lw_tbl[420]? = some (.code jMt16.2.1 jMt16.2.2.1 jMt16.2.2.2.1 jMt16.2.2.2.2.1) := rfl
set_option maxRecDepth 100000 in
theorem jK17 : lw_tbl[424]? = some (.code jMt17.2.1 jMt17.2.2.1 jMt17.2.2.2.1 jMt17.2.2.2.2.1) := rfl
set_option maxRecDepth 100000 in
theorem jK18 : lw_tbl[428]? = some (.code jMt18.2.1 jMt18.2.2.1 jMt18.2.2.2.1 jMt18.2.2.2.2.1) := rfl
set_option maxRecDepth 100000 in
theorem jK19 : lw_tbl[432]? = some (.code jMt19.2.1 jMt19.2.2.1 jMt19.2.2.2.1 jMt19.2.2.2.2.1) := rfl
set_option maxRecDepth 100000 in
theorem jK20 : lw_tbl[436]? = some (.code jMt20.2.1 jMt20.2.2.1 jMt20.2.2.2.1 jMt20.2.2.2.2.1) := rfl
set_option maxRecDepth 100000 in
theorem jK21 : lw_tbl[439]? = some (.code jMt21.2.1 jMt21.2.2.1 jMt21.2.2.2.1 jMt21.2.2.2.2.1) := rfl
set_option maxRecDepth 100000 in
theorem jK22 : lw_tbl[443]? = some (.code jMt22.2.1 jMt22.2.2.1 jMt22.2.2.2.1 jMt22.2.2.2.2.1) := rfl
set_option maxRecDepth 100000 in
theorem jK23 : lw_tbl[447]? = some (.code jMt23.2.1 jMt23.2.2.1 jMt23.2.2.2.1 jMt23.2.2.2.2.1) := rfl
set_option maxRecDepth 100000 in
theorem jK24 : lw_tbl[451]? = some (.code jMt24.2.1 jMt24.2.2.1 jMt24.2.2.2.1 jMt24.2.2.2.2.1) := rfl
set_option maxRecDepth 100000 in
theorem jK25 : lw_tbl[455]? = some (.code jMt25.2.1 jMt25.2.2.1 jMt25.2.2.2.1 jMt25.2.2.2.2.1) := rfl
set_option maxRecDepth 100000 in
theorem jK26 : lw_tbl[459]? = some (.code jMt26.2.1 jMt26.2.2.1 jMt26.2.2.2.1 jMt26.2.2.2.2.1) := rfl
set_option maxRecDepth 100000 in
theorem jK27 : lw_tbl[463]? = some (.code jMt27.2.1 jMt27.2.2.1 jMt27.2.2.2.1 jMt27.2.2.2.2.1) := rfl
set_option maxRecDepth 100000 in
theorem jK28 : lw_tbl[467]? = some (.code jMt28.2.1 jMt28.2.2.1 jMt28.2.2.2.1 jMt28.2.2.2.2.1) := rfl
set_option maxRecDepth 100000 in
theorem jK29 : lw_tbl[472]? = some (.code jMt29.2.1 jMt29.2.2.1 jMt29.2.2.2.1 jMt29.2.2.2.2.1) := rfl
set_option maxRecDepth 100000 in
theorem jK30 : lw_tbl[477]? = some (.code jMt30.2.1 jMt30.2.2.1 jMt30.2.2.2.1 jMt30.2.2.2.2.1) := rfl
set_option maxRecDepth 100000 in
theorem jK31 : lw_tbl[482]? = some (.code jMt31.2.1 jMt31.2.2.1 jMt31.2.2.2.1 jMt31.2.2.2.2.1) := rfl
set_option maxRecDepth 100000 in
theorem jK32 : lw_tbl[487]? = some (.code jMt32.2.1 jMt32.2.2.1 jMt32.2.2.2.1 jMt32.2.2.2.2.1) := rfl
set_option maxRecDepth 100000 in
theorem jK33 : lw_tbl[498]? = some (.code jMt33.2.1 jMt33.2.2.1 jMt33.2.2.2.1 jMt33.2.2.2.2.1) := rfl
set_option maxRecDepth 100000 in
theorem jK34 : lw_tbl[502]? = some (.code jMt34.2.1 jMt34.2.2.1 jMt34.2.2.2.1 jMt34.2.2.2.2.1) := rfl
set_option maxRecDepth 100000 in
theorem jK35 : lw_tbl[506]? = some (.code jMt35.2.1 jMt35.2.2.1 jMt35.2.2.2.1 jMt35.2.2.2.2.1) := rfl
set_option maxRecDepth 100000 in
theorem jK36 : lw_tbl[510]? = some (.code jMt36.2.1 jMt36.2.2.1 jMt36.2.2.2.1 jMt36.2.2.2.2.1) := rfl
set_option maxRecDepth 100000 in
theorem jK37 : lw_tbl[514]? = some (.code jMt37.2.1 jMt37.2.2.1 jMt37.2.2.2.1 jMt37.2.2.2.2.1) := rfl
set_option maxRecDepth 100000 in
theorem jK38 : lw_tbl[518]? = some (.code jMt38.2.1 jMt38.2.2.1 jMt38.2.2.2.1 jMt38.2.2.2.2.1) := rfl
set_option maxRecDepth 100000 in
theorem jK39 : lw_tbl[524]? = some (.code jMt39.2.1 jMt39.2.2.1 jMt39.2.2.2.1 jMt39.2.2.2.2.1) := rfl
set_option maxRecDepth 100000 in
theorem jK40 : lw_tbl[528]? = some (.code jMt40.2.1 jMt40.2.2.1 jMt40.2.2.2.1 jMt40.2.2.2.2.1) := rfl
set_option maxRecDepth 100000 in
theorem jK41 : lw_tbl[532]? = some (.code jMt41.2.1 jMt41.2.2.1 jMt41.2.2.2.1 jMt41.2.2.2.2.1) := rfl
set_option maxRecDepth 100000 in
theorem jK42 : lw_tbl[536]? = some (.code jMt42.2.1 jMt42.2.2.1 jMt42.2.2.2.1 jMt42.2.2.2.2.1) := rfl
set_option maxRecDepth 100000 in
theorem jK43 : lw_tbl[540]? = some (.code jMt43.2.1 jMt43.2.2.1 jMt43.2.2.2.1 jMt43.2.2.2.2.1) := rfl
set_option maxRecDepth 100000 in
theorem jK44 : lw_tbl[547]? = some (.code jMt44.2.1 jMt44.2.2.1 jMt44.2.2.2.1 jMt44.2.2.2.2.1) := rfl
set_option maxRecDepth 100000 in
theorem jK45 : lw_tbl[551]? = some (.code jMt45.2.1 jMt45.2.2.1 jMt45.2.2.2.1 jMt45.2.2.2.2.1) := rfl
set_option maxRecDepth 100000 in
theorem jK46 : lw_tbl[558]? = some (.code jMt46.2.1 jMt46.2.2.1 jMt46.2.2.2.1 jMt46.2.2.2.2.1) := rfl
set_option maxRecDepth 100000 in
theorem jK47 : lw_tbl[562]? = some (.code jMt47.2.1 jMt47.2.2.1 jMt47.2.2.2.1 jMt47.2.2.2.2.1) := rfl
set_option maxRecDepth 100000 in
theorem jK48 : lw_tbl[566]? = some (.code jMt48.2.1 jMt48.2.2.1 jMt48.2.2.2.1 jMt48.2.2.2.2.1) := rfl
set_option maxRecDepth 100000 in
theorem jK49 : lw_tbl[570]? = some (.code jMt49.2.1 jMt49.2.2.1 jMt49.2.2.2.1 jMt49.2.2.2.2.1) := rfl
set_option maxRecDepth 100000 in
theorem jK50 : lw_tbl[574]? = some (.code jMt50.2.1 jMt50.2.2.1 jMt50.2.2.2.1 jMt50.2.2.2.2.1) := rfl
set_option maxRecDepth 100000 in
theorem jK51 : lw_tbl[578]? = some (.code jMt51.2.1 jMt51.2.2.1 jMt51.2.2.2.1 jMt51.2.2.2.2.1) := rfl
set_option maxRecDepth 100000 in
theorem jK52 : lw_tbl[582]? = some (.code jMt52.2.1 jMt52.2.2.1 jMt52.2.2.2.1 jMt52.2.2.2.2.1) := rfl
set_option maxRecDepth 100000 in
theorem jK53 : lw_tbl[586]? = some (.code jMt53.2.1 jMt53.2.2.1 jMt53.2.2.2.1 jMt53.2.2.2.2.1) := rfl
set_option maxRecDepth 100000 in
theorem jK54 : lw_tbl[590]? = some (.code jMt54.2.1 jMt54.2.2.1 jMt54.2.2.2.1 jMt54.2.2.2.2.1) := rfl
set_option maxRecDepth 100000 in
theorem jK55 : lw_tbl[595]? = some (.code jMt55.2.1 jMt55.2.2.1 jMt55.2.2.2.1 jMt55.2.2.2.2.1) := rfl
set_option maxRecDepth 100000 in
theorem jK56 : lw_tbl[600]? = some (.code jMt56.2.1 jMt56.2.2.1 jMt56.2.2.2.1 jMt56.2.2.2.2.1) := rfl
set_option maxRecDepth 100000 in
theorem jK57 : lw_tbl[605]? = some (.code jMt57.2.1 jMt57.2.2.1 jMt57.2.2.2.1 jMt57.2.2.2.2.1) := rfl
set_option maxRecDepth 100000 in
theorem jK58 : lw_tbl[610]? = some (.code jMt58.2.1 jMt58.2.2.1 jMt58.2.2.2.1 jMt58.2.2.2.2.1) := rfl
set_option maxRecDepth 100000 in
theorem jK59 : lw_tbl[614]? = some (.code jMt59.2.1 jMt59.2.2.1 jMt59.2.2.2.1 jMt59.2.2.2.2.1) := rfl
set_option maxRecDepth 100000 in
theorem jK60 : lw_tbl[619]? = some (.code jMt60.2.1 jMt60.2.2.1 jMt60.2.2.2.1 jMt60.2.2.2.2.1) := rfl
set_option maxRecDepth 100000 in
theorem jK61 : lw_tbl[623]? = some (.code jMt61.2.1 jMt61.2.2.1 jMt61.2.2.2.1 jMt61.2.2.2.2.1) := rfl
set_option maxRecDepth 100000 in
theorem jK62 : lw_tbl[627]? = some (.code jMt62.2.1 jMt62.2.2.1 jMt62.2.2.2.1 jMt62.2.2.2.2.1) := rfl
set_option maxRecDepth 100000 in
theorem jK63 : lw_tbl[631]? = some (.code jMt63.2.1 jMt63.2.2.1 jMt63.2.2.2.1 jMt63.2.2.2.2.1) := rfl
set_option maxRecDepth 100000 in
theorem jK64 : lw_tbl[635]? = some (.code jMt64.2.1 jMt64.2.2.1 jMt64.2.2.2.1 jMt64.2.2.2.2.1) := rfl
set_option maxRecDepth 100000 in
theorem jK65 : lw_tbl[639]? = some (.code jMt65.2.1 jMt65.2.2.1 jMt65.2.2.2.1 jMt65.2.2.2.2.1) := rfl
set_option maxRecDepth 100000 in
theorem jK66 : lw_tbl[643]? = some (.code jMt66.2.1 jMt66.2.2.1 jMt66.2.2.2.1 jMt66.2.2.2.2.1) := rfl
set_option maxRecDepth 100000 in
theorem jK67 : lw_tbl[647]? = some (.code jMt67.2.1 jMt67.2.2.1 jMt67.2.2.2.1 jMt67.2.2.2.2.1) := rfl
set_option maxRecDepth 100000 in
theorem jK68 : lw_tbl[651]? = some (.code jMt68.2.1 jMt68.2.2.1 jMt68.2.2.2.1 jMt68.2.2.2.2.1) := rfl
set_option maxRecDepth 100000 in
theorem jK69 : lw_tbl[655]? = some (.code jMt69.2.1 jMt69.2.2.1 jMt69.2.2.2.1 jMt69.2.2.2.2.1) := rfl
set_option maxRecDepth 100000 in
theorem jK70 : lw_tbl[659]? = some (.code jMt70.2.1 jMt70.2.2.1 jMt70.2.2.2.1 jMt70.2.2.2.2.1) := rfl
set_option maxRecDepth 100000 in
theorem jK71 : lw_tbl[663]? = some (.code jMt71.2.1 jMt71.2.2.1 jMt71.2.2.2.1 jMt71.2.2.2.2.1) := rfl
set_option maxRecDepth 100000 in
theorem jK72 : lw_tbl[667]? = some (.code jMt72.2.1 jMt72.2.2.1 jMt72.2.2.2.1 jMt72.2.2.2.2.1) := rfl
set_option maxRecDepth 100000 in
theorem jK73 : lw_tbl[671]? = some (.code jMt73.2.1 jMt73.2.2.1 jMt73.2.2.2.1 jMt73.2.2.2.2.1) := rfl
set_option maxRecDepth 100000 in
theorem jK74 : lw_tbl[675]? = some (.code jMt74.2.1 jMt74.2.2.1 jMt74.2.2.2.1 jMt74.2.2.2.2.1) := rfl
set_option maxRecDepth 100000 in
theorem jK75 : lw_tbl[679]? = some (.code jMt75.2.1 jMt75.2.2.1 jMt75.2.2.2.1 jMt75.2.2.2.2.1) := rfl
set_option maxRecDepth 100000 in
theorem jK76 : lw_tbl[683]? = some (.code jMt76.2.1 jMt76.2.2.1 jMt76.2.2.2.1 jMt76.2.2.2.2.1) := rfl
set_option maxRecDepth 100000 in
theorem jK77 : lw_tbl[688]? = some (.code jMt77.2.1 jMt77.2.2.1 jMt77.2.2.2.1 jMt77.2.2.2.2.1) := rfl
set_option maxRecDepth 100000 in
theorem jK78 : lw_tbl[692]? = some (.code jMt78.2.1 jMt78.2.2.1 jMt78.2.2.2.1 jMt78.2.2.2.2.1) := rfl
set_option maxRecDepth 100000 in
theorem jK79 : lw_tbl[696]? = some (.code jMt79.2.1 jMt79.2.2.1 jMt79.2.2.2.1 jMt79.2.2.2.2.1) := rfl
set_option maxRecDepth 100000 in
theorem jK80 : lw_tbl[700]? = some (.code jMt80.2.1 jMt80.2.2.1 jMt80.2.2.2.1 jMt80.2.2.2.2.1) := rfl
set_option maxRecDepth 100000 in
theorem jK81 : lw_tbl[704]? = some (.code jMt81.2.1 jMt81.2.2.1 jMt81.2.2.2.1 jMt81.2.2.2.2.1) := rfl
set_option maxRecDepth 100000 in
theorem jK82 : lw_tbl[708]? = some (.code jMt82.2.1 jMt82.2.2.1 jMt82.2.2.2.1 jMt82.2.2.2.2.1) := rfl
set_option maxRecDepth 100000 in
theorem jK83 : lw_tbl[711]? = some (.code jMt83.2.1 jMt83.2.2.1 jMt83.2.2.2.1 jMt83.2.2.2.2.1) := rfl
set_option maxRecDepth 100000 in
theorem jK84 : lw_tbl[714]? = some (.code jMt84.2.1 jMt84.2.2.1 jMt84.2.2.2.1 jMt84.2.2.2.2.1) := rfl
set_option maxRecDepth 100000 in
theorem jK85 : lw_tbl[721]? = some (.code jMt85.2.1 jMt85.2.2.1 jMt85.2.2.2.1 jMt85.2.2.2.2.1) := rfl
set_option maxRecDepth 100000 in
theorem jK86 : lw_tbl[725]? = some (.code jMt86.2.1 jMt86.2.2.1 jMt86.2.2.2.1 jMt86.2.2.2.2.1) := rfl
set_option maxRecDepth 100000 in
theorem jK87 : lw_tbl[728]? = some (.code jMt87.2.1 jMt87.2.2.1 jMt87.2.2.2.1 jMt87.2.2.2.2.1) := rfl
set_option maxRecDepth 100000 in
theorem jK88 : lw_tbl[732]? = some (.code jMt88.2.1 jMt88.2.2.1 jMt88.2.2.2.1 jMt88.2.2.2.2.1) := rfl
set_option maxRecDepth 100000 in
theorem jK89 : lw_tbl[735]? = some (.code jMt89.2.1 jMt89.2.2.1 jMt89.2.2.2.1 jMt89.2.2.2.2.1) := rfl
set_option maxRecDepth 100000 in
theorem jK90 : lw_tbl[738]? = some (.code jMt90.2.1 jMt90.2.2.1 jMt90.2.2.2.1 jMt90.2.2.2.2.1) := rfl
set_option maxRecDepth 100000 in
theorem jK91 : lw_tbl[745]? = some (.code jMt91.2.1 jMt91.2.2.1 jMt91.2.2.2.1 jMt91.2.2.2.2.1) := rfl
set_option maxRecDepth 100000 in
theorem jK92 : lw_tbl[748]? = some (.code jMt92.2.1 jMt92.2.2.1 jMt92.2.2.2.1 jMt92.2.2.2.2.1) := rfl
set_option maxRecDepth 100000 in
theorem jK93 : lw_tbl[753]? = some (.code jMt93.2.1 jMt93.2.2.1 jMt93.2.2.2.1 jMt93.2.2.2.2.1) := rfl
set_option maxRecDepth 100000 in
theorem jK94 : lw_tbl[757]? = some (.code jMt94.2.1 jMt94.2.2.1 jMt94.2.2.2.1 jMt94.2.2.2.2.1) := rfl
set_option maxRecDepth 100000 in
theorem jK95 : lw_tbl[761]? = some (.code jMt95.2.1 jMt95.2.2.1 jMt95.2.2.2.1 jMt95.2.2.2.2.1) := rfl
set_option maxRecDepth 100000 in
theorem jK96 : lw_tbl[765]? = some (.code jMt96.2.1 jMt96.2.2.1 jMt96.2.2.2.1 jMt96.2.2.2.2.1) := rfl
set_option maxRecDepth 100000 in
theorem jK97 : lw_tbl[769]? = some (.code jMt97.2.1 jMt97.2.2.1 jMt97.2.2.2.1 jMt97.2.2.2.2.1) := rfl
set_option maxRecDepth 100000 in
theorem jK98 : lw_tbl[773]? = some (.code jMt98.2.1 jMt98.2.2.1 jMt98.2.2.2.1 jMt98.2.2.2.2.1) := rfl
set_option maxRecDepth 100000 in
theorem jK99 : lw_tbl[777]? = some (.code jMt99.2.1 jMt99.2.2.1 jMt99.2.2.2.1 jMt99.2.2.2.2.1) := rfl
set_option maxRecDepth 100000 in
theorem jK100 : lw_tbl[781]? = some (.code jMt100.2.1 jMt100.2.2.1 jMt100.2.2.2.1 jMt100.2.2.2.2.1) := rfl
set_option maxRecDepth 100000 in
theorem jK101 : lw_tbl[787]? = some (.code jMt101.2.1 jMt101.2.2.1 jMt101.2.2.2.1 jMt101.2.2.2.2.1) := rfl
set_option maxRecDepth 100000 in
theorem jK102 : lw_tbl[791]? = some (.code jMt102.2.1 jMt102.2.2.1 jMt102.2.2.2.1 jMt102.2.2.2.2.1) := rfl
set_option maxRecDepth 100000 in
theorem jK103 : lw_tbl[795]? = some (.code jMt103.2.1 jMt103.2.2.1 jMt103.2.2.2.1 jMt103.2.2.2.2.1) := rfl
set_option maxRecDepth 100000 in
theorem jK104 : lw_tbl[800]? = some (.code jMt104.2.1 jMt104.2.2.1 jMt104.2.2.2.1 jMt104.2.2.2.2.1) := rfl
set_option maxRecDepth 100000 in
theorem jK105 : lw_tbl[804]? = some (.code jMt105.2.1 jMt105.2.2.1 jMt105.2.2.2.1 jMt105.2.2.2.2.1) := rfl
set_option maxRecDepth 100000 in
theorem jK106 : lw_tbl[808]? = some (.code jMt106.2.1 jMt106.2.2.1 jMt106.2.2.2.1 jMt106.2.2.2.2.1) := rfl
set_option maxRecDepth 100000 in
theorem jK107 : lw_tbl[813]? = some (.code jMt107.2.1 jMt107.2.2.1 jMt107.2.2.2.1 jMt107.2.2.2.2.1) := rfl
set_option maxRecDepth 100000 in
theorem jK108 : lw_tbl[817]? = some (.code jMt108.2.1 jMt108.2.2.1 jMt108.2.2.2.1 jMt108.2.2.2.2.1) := rfl
set_option maxRecDepth 100000 in
theorem jK109 : lw_tbl[822]? = some (.code jMt109.2.1 jMt109.2.2.1 jMt109.2.2.2.1 jMt109.2.2.2.2.1) := rfl
set_option maxRecDepth 100000 in
theorem jK110 : lw_tbl[826]? = some (.code jMt110.2.1 jMt110.2.2.1 jMt110.2.2.2.1 jMt110.2.2.2.2.1) := rfl
set_option maxRecDepth 100000 in
theorem jK111 : lw_tbl[831]? = some (.code jMt111.2.1 jMt111.2.2.1 jMt111.2.2.2.1 jMt111.2.2.2.2.1) := rfl
set_option maxRecDepth 100000 in
theorem jK112 : lw_tbl[836]? = some (.code jMt112.2.1 jMt112.2.2.1 jMt112.2.2.2.1 jMt112.2.2.2.2.1) := rfl
set_option maxRecDepth 100000 in
theorem jK113 : lw_tbl[840]? = some (.code jMt113.2.1 jMt113.2.2.1 jMt113.2.2.2.1 jMt113.2.2.2.2.1) := rfl
set_option maxRecDepth 100000 in
theorem jK114 : lw_tbl[845]? = some (.code jMt114.2.1 jMt114.2.2.1 jMt114.2.2.2.1 jMt114.2.2.2.2.1) := rfl
set_option maxRecDepth 100000 in
theorem jK115 : lw_tbl[852]? = some (.code jMt115.2.1 jMt115.2.2.1 jMt115.2.2.2.1 jMt115.2.2.2.2.1) := rfl
set_option maxRecDepth 100000 in
theorem jK116 : lw_tbl[856]? = some (.code jMt116.2.1 jMt116.2.2.1 jMt116.2.2.2.1 jMt116.2.2.2.2.1) := rfl
set_option maxRecDepth 100000 in
theorem jK117 : lw_tbl[860]? = some (.code jMt117.2.1 jMt117.2.2.1 jMt117.2.2.2.1 jMt117.2.2.2.2.1) := rfl
set_option maxRecDepth 100000 in
theorem jK118 : lw_tbl[988]? = some (.code jMt118.2.1 jMt118.2.2.1 jMt118.2.2.2.1 jMt118.2.2.2.2.1) := rfl
set_option maxRecDepth 100000 in
theorem jK119 : lw_tbl[991]? = some (.code jMt119.2.1 jMt119.2.2.1 jMt119.2.2.2.1 jMt119.2.2.2.2.1) := rfl
set_option maxRecDepth 100000 in
theorem jK120 : lw_tbl[995]? = some (.code jMt120.2.1 jMt120.2.2.1 jMt120.2.2.2.1 jMt120.2.2.2.2.1) := rfl
set_option maxRecDepth 100000 in
theorem jK121 : lw_tbl[1000]? = some (.code jMt121.2.1 jMt121.2.2.1 jMt121.2.2.2.1 jMt121.2.2.2.2.1) := rfl
set_option maxRecDepth 100000 in
theorem jK122 : lw_tbl[1004]? = some (.code jMt122.2.1 jMt122.2.2.1 jMt122.2.2.2.1 jMt122.2.2.2.2.1) := rfl
set_option maxRecDepth 100000 in
theorem jK123 : lw_tbl[1008]? = some (.code jMt123.2.1 jMt123.2.2.1 jMt123.2.2.2.1 jMt123.2.2.2.2.1) := rfl
set_option maxRecDepth 100000 in
theorem jK124 : lw_tbl[1012]? = some (.code jMt124.2.1 jMt124.2.2.1 jMt124.2.2.2.1 jMt124.2.2.2.2.1) := rfl
set_option maxRecDepth 100000 in
theorem jK125 : lw_tbl[1015]? = some (.code jMt125.2.1 jMt125.2.2.1 jMt125.2.2.2.1 jMt125.2.2.2.2.1) := rfl
set_option maxRecDepth 100000 in
theorem jK126 : lw_tbl[1019]? = some (.code jMt126.2.1 jMt126.2.2.1 jMt126.2.2.2.1 jMt126.2.2.2.2.1) := rfl
set_option maxRecDepth 100000 in
theorem jK127 : lw_tbl[1024]? = some (.code jMt127.2.1 jMt127.2.2.1 jMt127.2.2.2.1 jMt127.2.2.2.2.1) := rfl
set_option maxRecDepth 100000 in
theorem jK128 : lw_tbl[1028]? = some (.code jMt128.2.1 jMt128.2.2.1 jMt128.2.2.2.1 jMt128.2.2.2.2.1) := rfl
set_option maxRecDepth 100000 in
theorem jK129 : lw_tbl[1031]? = some (.code jMt129.2.1 jMt129.2.2.1 jMt129.2.2.2.1 jMt129.2.2.2.2.1) := rfl
set_option maxRecDepth 100000 in
theorem jK130 : lw_tbl[1034]? = some (.code jMt130.2.1 jMt130.2.2.1 jMt130.2.2.2.1 jMt130.2.2.2.2.1) := rfl
set_option maxRecDepth 100000 in
theorem jK131 : lw_tbl[1041]? = some (.code jMt131.2.1 jMt131.2.2.1 jMt131.2.2.2.1 jMt131.2.2.2.2.1) := rfl
set_option maxRecDepth 100000 in
theorem jK132 : lw_tbl[1046]? = some (.code jMt132.2.1 jMt132.2.2.1 jMt132.2.2.2.1 jMt132.2.2.2.2.1) := rfl
set_option maxRecDepth 100000 in
theorem jK133 : lw_tbl[1050]? = some (.code jMt133.2.1 jMt133.2.2.1 jMt133.2.2.2.1 jMt133.2.2.2.2.1) := rfl
set_option maxRecDepth 100000 in
theorem jK134 : lw_tbl[1054]? = some (.code jMt134.2.1 jMt134.2.2.1 jMt134.2.2.2.1 jMt134.2.2.2.2.1) := rfl
set_option maxRecDepth 100000 in
theorem jK135 : lw_tbl[1058]? = some (.code jMt135.2.1 jMt135.2.2.1 jMt135.2.2.2.1 jMt135.2.2.2.2.1) := rfl
set_option maxRecDepth 100000 in
theorem jK136 : lw_tbl[1064]? = some (.code jMt136.2.1 jMt136.2.2.1 jMt136.2.2.2.1 jMt136.2.2.2.2.1) := rfl
set_option maxRecDepth 100000 in
theorem jK137 : lw_tbl[1067]? = some (.code jMt137.2.1 jMt137.2.2.1 jMt137.2.2.2.1 jMt137.2.2.2.2.1) := rfl
set_option maxRecDepth 100000 in
theorem jK138 : lw_tbl[1072]? = some (.code jMt138.2.1 jMt138.2.2.1 jMt138.2.2.2.1 jMt138.2.2.2.2.1) := rfl
set_option maxRecDepth 100000 in
theorem jK139 : lw_tbl[1076]? = some (.code jMt139.2.1 jMt139.2.2.1 jMt139.2.2.2.1 jMt139.2.2.2.2.1) := rfl
set_option maxRecDepth 100000 in
theorem jK140 : lw_tbl[1080]? = some (.code jMt140.2.1 jMt140.2.2.1 jMt140.2.2.2.1 jMt140.2.2.2.2.1) := rfl
set_option maxRecDepth 100000 in
theorem jK141 : lw_tbl[1084]? = some (.code jMt141.2.1 jMt141.2.2.1 jMt141.2.2.2.1 jMt141.2.2.2.2.1) := rfl
set_option maxRecDepth 100000 in
theorem jK142 : lw_tbl[1088]? = some (.code jMt142.2.1 jMt142.2.2.1 jMt142.2.2.2.1 jMt142.2.2.2.2.1) := rfl
set_option maxRecDepth 100000 in
theorem jK143 : lw_tbl[1092]? = some (.code jMt143.2.1 jMt143.2.2.1 jMt143.2.2.2.1 jMt143.2.2.2.2.1) := rfl
set_option maxRecDepth 100000 in
theorem jK144 : lw_tbl[1096]? = some (.code jMt144.2.1 jMt144.2.2.1 jMt144.2.2.2.1 jMt144.2.2.2.2.1) := rfl
set_option maxRecDepth 100000 in
theorem jK145 : lw_tbl[1100]? = some (.code jMt145.2.1 jMt145.2.2.1 jMt145.2.2.2.1 jMt145.2.2.2.2.1) := rfl
set_option maxRecDepth 100000 in
theorem jK146 : lw_tbl[1104]? = some (.code jMt146.2.1 jMt146.2.2.1 jMt146.2.2.2.1 jMt146.2.2.2.2.1) := rfl
set_option maxRecDepth 100000 in
theorem jK147 : lw_tbl[1110]? = some (.code jMt147.2.1 jMt147.2.2.1 jMt147.2.2.2.1 jMt147.2.2.2.2.1) := rfl
set_option maxRecDepth 100000 in
theorem jK148 : lw_tbl[1114]? = some (.code jMt148.2.1 jMt148.2.2.1 jMt148.2.2.2.1 jMt148.2.2.2.2.1) := rfl
set_option maxRecDepth 100000 in
theorem jK149 : lw_tbl[1119]? = some (.code jMt149.2.1 jMt149.2.2.1 jMt149.2.2.2.1 jMt149.2.2.2.2.1) := rfl
set_option maxRecDepth 100000 in
theorem jK150 : lw_tbl[1124]? = some (.code jMt150.2.1 jMt150.2.2.1 jMt150.2.2.2.1 jMt150.2.2.2.2.1) := rfl
set_option maxRecDepth 100000 in
theorem jK151 : lw_tbl[1128]? = some (.code jMt151.2.1 jMt151.2.2.1 jMt151.2.2.2.1 jMt151.2.2.2.2.1) := rfl
set_option maxRecDepth 100000 in
theorem jK152 : lw_tbl[1132]? = some (.code jMt152.2.1 jMt152.2.2.1 jMt152.2.2.2.1 jMt152.2.2.2.2.1) := rfl
set_option maxRecDepth 100000 in
theorem jK153 : lw_tbl[1136]? = some (.code jMt153.2.1 jMt153.2.2.1 jMt153.2.2.2.1 jMt153.2.2.2.2.1) := rfl
set_option maxRecDepth 100000 in
theorem jK154 : lw_tbl[1140]? = some (.code jMt154.2.1 jMt154.2.2.1 jMt154.2.2.2.1 jMt154.2.2.2.2.1) := rfl
set_option maxRecDepth 100000 in
theorem jK155 : lw_tbl[1144]? = some (.code jMt155.2.1 jMt155.2.2.1 jMt155.2.2.2.1 jMt155.2.2.2.2.1) := rfl
set_option maxRecDepth 100000 in
theorem jK156 : lw_tbl[1148]? = some (.code jMt156.2.1 jMt156.2.2.1 jMt156.2.2.2.1 jMt156.2.2.2.2.1) := rfl
set_option maxRecDepth 100000 in
theorem jK157 : lw_tbl[1152]? = some (.code jMt157.2.1 jMt157.2.2.1 jMt157.2.2.2.1 jMt157.2.2.2.2.1) := rfl
set_option maxRecDepth 100000 in
theorem jK158 : lw_tbl[1156]? = some (.code jMt158.2.1 jMt158.2.2.1 jMt158.2.2.2.1 jMt158.2.2.2.2.1) := rfl
set_option maxRecDepth 100000 in
theorem jK159 : lw_tbl[1160]? = some (.code jMt159.2.1 jMt159.2.2.1 jMt159.2.2.2.1 jMt159.2.2.2.2.1) := rfl
set_option maxRecDepth 100000 in
theorem jK160 : lw_tbl[1164]? = some (.code jMt160.2.1 jMt160.2.2.1 jMt160.2.2.2.1 jMt160.2.2.2.2.1) := rfl
set_option maxRecDepth 100000 in
theorem jK161 : lw_tbl[1168]? = some (.code jMt161.2.1 jMt161.2.2.1 jMt161.2.2.2.1 jMt161.2.2.2.2.1) := rfl
set_option maxRecDepth 100000 in
theorem jK162 : lw_tbl[1172]? = some (.code jMt162.2.1 jMt162.2.2.1 jMt162.2.2.2.1 jMt162.2.2.2.2.1) := rfl
set_option maxRecDepth 100000 in
theorem jK163 : lw_tbl[1175]? = some (.code jMt163.2.1 jMt163.2.2.1 jMt163.2.2.2.1 jMt163.2.2.2.2.1) := rfl
set_option maxRecDepth 100000 in
theorem jK164 : lw_tbl[1179]? = some (.code jMt164.2.1 jMt164.2.2.1 jMt164.2.2.2.1 jMt164.2.2.2.2.1) := rfl
set_option maxRecDepth 100000 in
theorem jK165 : lw_tbl[1182]? = some (.code jMt165.2.1 jMt165.2.2.1 jMt165.2.2.2.1 jMt165.2.2.2.2.1) := rfl
set_option maxRecDepth 100000 in
theorem jK166 : lw_tbl[1187]? = some (.code jMt166.2.1 jMt166.2.2.1 jMt166.2.2.2.1 jMt166.2.2.2.2.1) := rfl
set_option maxRecDepth 100000 in
theorem jK167 : lw_tbl[1191]? = some (.code jMt167.2.1 jMt167.2.2.1 jMt167.2.2.2.1 jMt167.2.2.2.2.1) := rfl
set_option maxRecDepth 100000 in
theorem jK168 : lw_tbl[1195]? = some (.code jMt168.2.1 jMt168.2.2.1 jMt168.2.2.2.1 jMt168.2.2.2.2.1) := rfl
set_option maxRecDepth 100000 in
theorem jK169 : lw_tbl[1199]? = some (.code jMt169.2.1 jMt169.2.2.1 jMt169.2.2.2.1 jMt169.2.2.2.2.1) := rfl
set_option maxRecDepth 100000 in
theorem jK170 : lw_tbl[1203]? = some (.code jMt170.2.1 jMt170.2.2.1 jMt170.2.2.2.1 jMt170.2.2.2.2.1) := rfl
set_option maxRecDepth 100000 in
theorem jK171 : lw_tbl[1207]? = some (.code jMt171.2.1 jMt171.2.2.1 jMt171.2.2.2.1 jMt171.2.2.2.2.1) := rfl
set_option maxRecDepth 100000 in
theorem jK172 : lw_tbl[1211]? = some (.code jMt172.2.1 jMt172.2.2.1 jMt172.2.2.2.1 jMt172.2.2.2.2.1) := rfl
set_option maxRecDepth 100000 in
theorem jK173 : lw_tbl[1215]? = some (.code jMt173.2.1 jMt173.2.2.1 jMt173.2.2.2.1 jMt173.2.2.2.2.1) := rfl
set_option maxRecDepth 100000 in
theorem jK174 : lw_tbl[1219]? = some (.code jMt174.2.1 jMt174.2.2.1 jMt174.2.2.2.1 jMt174.2.2.2.2.1) := rfl
set_option maxRecDepth 100000 in
theorem jK175 : lw_tbl[1222]? = some (.code jMt175.2.1 jMt175.2.2.1 jMt175.2.2.2.1 jMt175.2.2.2.2.1) := rfl
set_option maxRecDepth 100000 in
theorem jK176 : lw_tbl[1226]? = some (.code jMt176.2.1 jMt176.2.2.1 jMt176.2.2.2.1 jMt176.2.2.2.2.1) := rfl
set_option maxRecDepth 100000 in
theorem jK177 : lw_tbl[1230]? = some (.code jMt177.2.1 jMt177.2.2.1 jMt177.2.2.2.1 jMt177.2.2.2.2.1) := rfl
set_option maxRecDepth 100000 in
theorem jK178 : lw_tbl[1234]? = some (.code jMt178.2.1 jMt178.2.2.1 jMt178.2.2.2.1 jMt178.2.2.2.2.1) := rfl
set_option maxRecDepth 100000 in
theorem jK179 : lw_tbl[1238]? = some (.code jMt179.2.1 jMt179.2.2.1 jMt179.2.2.2.1 jMt179.2.2.2.2.1) := rfl
set_option maxRecDepth 100000 in
theorem jK180 : lw_tbl[1241]? = some (.code jMt180.2.1 jMt180.2.2.1 jMt180.2.2.2.1 jMt180.2.2.2.2.1) := rfl
set_option maxRecDepth 100000 in
theorem jK181 : lw_tbl[1245]? = some (.code jMt181.2.1 jMt181.2.2.1 jMt181.2.2.2.1 jMt181.2.2.2.2.1) := rfl
set_option maxRecDepth 100000 in
theorem jK182 : lw_tbl[1249]? = some (.code jMt182.2.1 jMt182.2.2.1 jMt182.2.2.2.1 jMt182.2.2.2.2.1) := rfl
set_option maxRecDepth 100000 in
theorem jK183 : lw_tbl[1253]? = some (.code jMt183.2.1 jMt183.2.2.1 jMt183.2.2.2.1 jMt183.2.2.2.2.1) := rfl
set_option maxRecDepth 100000 in
theorem jK184 : lw_tbl[1257]? = some (.code jMt184.2.1 jMt184.2.2.1 jMt184.2.2.2.1 jMt184.2.2.2.2.1) := rfl
set_option maxRecDepth 100000 in
theorem jK185 : lw_tbl[1261]? = some (.code jMt185.2.1 jMt185.2.2.1 jMt185.2.2.2.1 jMt185.2.2.2.2.1) := rfl
set_option maxRecDepth 100000 in
theorem jK186 : lw_tbl[1264]? = some (.code jMt186.2.1 jMt186.2.2.1 jMt186.2.2.2.1 jMt186.2.2.2.2.1) := rfl
set_option maxRecDepth 100000 in
theorem jK187 : lw_tbl[1268]? = some (.code jMt187.2.1 jMt187.2.2.1 jMt187.2.2.2.1 jMt187.2.2.2.2.1) := rfl
set_option maxRecDepth 100000 in
theorem jK188 : lw_tbl[1272]? = some (.code jMt188.2.1 jMt188.2.2.1 jMt188.2.2.2.1 jMt188.2.2.2.2.1) := rfl
set_option maxRecDepth 100000 in
theorem jK189 : lw_tbl[1276]? = some (.code jMt189.2.1 jMt189.2.2.1 jMt189.2.2.2.1 jMt189.2.2.2.2.1) := rfl
set_option maxRecDepth 100000 in
theorem jK190 : lw_tbl[1280]? = some (.code jMt190.2.1 jMt190.2.2.1 jMt190.2.2.2.1 jMt190.2.2.2.2.1) := rfl
set_option maxRecDepth 100000 in
theorem jK191 : lw_tbl[1284]? = some (.code jMt191.2.1 jMt191.2.2.1 jMt191.2.2.2.1 jMt191.2.2.2.2.1) := rfl
set_option maxRecDepth 100000 in
theorem jK192 : lw_tbl[1287]? = some (.code jMt192.2.1 jMt192.2.2.1 jMt192.2.2.2.1 jMt192.2.2.2.2.1) := rfl
set_option maxRecDepth 100000 in
theorem jK193 : lw_tbl[1291]? = some (.code jMt193.2.1 jMt193.2.2.1 jMt193.2.2.2.1 jMt193.2.2.2.2.1) := rfl
set_option maxRecDepth 100000 in
theorem jK194 : lw_tbl[1296]? = some (.code jMt194.2.1 jMt194.2.2.1 jMt194.2.2.2.1 jMt194.2.2.2.2.1) := rfl
set_option maxRecDepth 100000 in
theorem jK195 : lw_tbl[1300]? = some (.code jMt195.2.1 jMt195.2.2.1 jMt195.2.2.2.1 jMt195.2.2.2.2.1) := rfl
set_option maxRecDepth 100000 in
theorem jK196 : lw_tbl[1305]? = some (.code jMt196.2.1 jMt196.2.2.1 jMt196.2.2.2.1 jMt196.2.2.2.2.1) := rfl
set_option maxRecDepth 100000 in
theorem jK197 : lw_tbl[1309]? = some (.code jMt197.2.1 jMt197.2.2.1 jMt197.2.2.2.1 jMt197.2.2.2.2.1) := rfl
set_option maxRecDepth 100000 in
theorem jK198 : lw_tbl[1313]? = some (.code jMt198.2.1 jMt198.2.2.1 jMt198.2.2.2.1 jMt198.2.2.2.2.1) := rfl
set_option maxRecDepth 100000 in
theorem jK199 : lw_tbl[1317]? = some (.code jMt199.2.1 jMt199.2.2.1 jMt199.2.2.2.1 jMt199.2.2.2.2.1) := rfl
set_option maxRecDepth 100000 in
theorem jK200 : lw_tbl[1321]? = some (.code jMt200.2.1 jMt200.2.2.1 jMt200.2.2.2.1 jMt200.2.2.2.2.1) := rfl
def jKz0 : List jm_M := [jMt0, jMt1, jMt2, jMt3, jMt4, jMt5, jMt6, jMt7, jMt8, jMt9, jMt10, jMt11, jMt12, jMt13, jMt14, jMt15]
theorem jKr0 : ∀ t ∈ jKz0, lw_tbl[t.2.2.2.2.2.2.2.2.1]? = some (.code t.2.1 t.2.2.1 t.2.2.2.1 t.2.2.2.2.1) := List.forall_mem_cons.mpr ⟨jK0, List.forall_mem_cons.mpr ⟨jK1, List.forall_mem_cons.mpr ⟨jK2, List.forall_mem_cons.mpr ⟨jK3, List.forall_mem_cons.mpr ⟨jK4, List.forall_mem_cons.mpr ⟨jK5, List.forall_mem_cons.mpr ⟨jK6, List.forall_mem_cons.mpr ⟨jK7, List.forall_mem_cons.mpr ⟨jK8, List.forall_mem_cons.mpr ⟨jK9, List.forall_mem_cons.mpr ⟨jK10, List.forall_mem_cons.mpr ⟨jK11, List.forall_mem_cons.mpr ⟨jK12, List.forall_mem_cons.mpr ⟨jK13, List.forall_mem_cons.mpr ⟨jK14, List.forall_mem_cons.mpr ⟨jK15, fun _ h => absurd h List.not_mem_nil⟩⟩⟩⟩⟩⟩⟩⟩⟩⟩⟩⟩⟩⟩⟩⟩
def jKz1 : List jm_M := [jMt16, jMt17, jMt18, jMt19, jMt20, jMt21, jMt22, jMt23, jMt24, jMt25, jMt26, jMt27, jMt28, jMt29, jMt30, jMt31]
theorem jKr1 : ∀ t ∈ jKz1, lw_tbl[t.2.2.2.2.2.2.2.2.1]? = some (.code t.2.1 t.2.2.1 t.2.2.2.1 t.2.2.2.2.1) := List.forall_mem_cons.mpr ⟨jK16, List.forall_mem_cons.mpr ⟨jK17, List.forall_mem_cons.mpr ⟨jK18, List.forall_mem_cons.mpr ⟨jK19, List.forall_mem_cons.mpr ⟨jK20, List.forall_mem_cons.mpr ⟨jK21, List.forall_mem_cons.mpr ⟨jK22, List.forall_mem_cons.mpr ⟨jK23, List.forall_mem_cons.mpr ⟨jK24, List.forall_mem_cons.mpr ⟨jK25, List.forall_mem_cons.mpr ⟨jK26, List.forall_mem_cons.mpr ⟨jK27, List.forall_mem_cons.mpr ⟨jK28, List.forall_mem_cons.mpr ⟨jK29, List.forall_mem_cons.mpr ⟨jK30, List.forall_mem_cons.mpr ⟨jK31, fun _ h => absurd h List.not_mem_nil⟩⟩⟩⟩⟩⟩⟩⟩⟩⟩⟩⟩⟩⟩⟩⟩
def jKz2 : List jm_M := [jMt32, jMt33, jMt34, jMt35, jMt36, jMt37, jMt38, jMt39, jMt40, jMt41, jMt42, jMt43, jMt44, jMt45, jMt46, jMt47]
theorem jKr2 : ∀ t ∈ jKz2, lw_tbl[t.2.2.2.2.2.2.2.2.1]? = some (.code t.2.1 t.2.2.1 t.2.2.2.1 t.2.2.2.2.1) := List.forall_mem_cons.mpr ⟨jK32, List.forall_mem_cons.mpr ⟨jK33, List.forall_mem_cons.mpr ⟨jK34, List.forall_mem_cons.mpr ⟨jK35, List.forall_mem_cons.mpr ⟨jK36, List.forall_mem_cons.mpr ⟨jK37, List.forall_mem_cons.mpr ⟨jK38, List.forall_mem_cons.mpr ⟨jK39, List.forall_mem_cons.mpr ⟨jK40, List.forall_mem_cons.mpr ⟨jK41, List.forall_mem_cons.mpr ⟨jK42, List.forall_mem_cons.mpr ⟨jK43, List.forall_mem_cons.mpr ⟨jK44, List.forall_mem_cons.mpr ⟨jK45, List.forall_mem_cons.mpr ⟨jK46, List.forall_mem_cons.mpr ⟨jK47, fun _ h => absurd h List.not_mem_nil⟩⟩⟩⟩⟩⟩⟩⟩⟩⟩⟩⟩⟩⟩⟩⟩
def jKz3 : List jm_M := [jMt48, jMt49, jMt50, jMt51, jMt52, jMt53, jMt54, jMt55, jMt56, jMt57, jMt58, jMt59, jMt60, jMt61, jMt62, jMt63]
theorem jKr3 : ∀ t ∈ jKz3, lw_tbl[t.2.2.2.2.2.2.2.2.1]? = some (.code t.2.1 t.2.2.1 t.2.2.2.1 t.2.2.2.2.1) := List.forall_mem_cons.mpr ⟨jK48, List.forall_mem_cons.mpr ⟨jK49, List.forall_mem_cons.mpr ⟨jK50, List.forall_mem_cons.mpr ⟨jK51, List.forall_mem_cons.mpr ⟨jK52, List.forall_mem_cons.mpr ⟨jK53, List.forall_mem_cons.mpr ⟨jK54, List.forall_mem_cons.mpr ⟨jK55, List.forall_mem_cons.mpr ⟨jK56, List.forall_mem_cons.mpr ⟨jK57, List.forall_mem_cons.mpr ⟨jK58, List.forall_mem_cons.mpr ⟨jK59, List.forall_mem_cons.mpr ⟨jK60, List.forall_mem_cons.mpr ⟨jK61, List.forall_mem_cons.mpr ⟨jK62, List.forall_mem_cons.mpr ⟨jK63, fun _ h => absurd h List.not_mem_nil⟩⟩⟩⟩⟩⟩⟩⟩⟩⟩⟩⟩⟩⟩⟩⟩
def jKz4 : List jm_M := [jMt64, jMt65, jMt66, jMt67, jMt68, jMt69, jMt70, jMt71, jMt72, jMt73, jMt74, jMt75, jMt76, jMt77, jMt78, jMt79]
theorem jKr4 : ∀ t ∈ jKz4, lw_tbl[t.2.2.2.2.2.2.2.2.1]? = some (.code t.2.1 t.2.2.1 t.2.2.2.1 t.2.2.2.2.1) := List.forall_mem_cons.mpr ⟨jK64, List.forall_mem_cons.mpr ⟨jK65, List.forall_mem_cons.mpr ⟨jK66, List.forall_mem_cons.mpr ⟨jK67, List.forall_mem_cons.mpr ⟨jK68, List.forall_mem_cons.mpr ⟨jK69, List.forall_mem_cons.mpr ⟨jK70, List.forall_mem_cons.mpr ⟨jK71, List.forall_mem_cons.mpr ⟨jK72, List.forall_mem_cons.mpr ⟨jK73, List.forall_mem_cons.mpr ⟨jK74, List.forall_mem_cons.mpr ⟨jK75, List.forall_mem_cons.mpr ⟨jK76, List.forall_mem_cons.mpr ⟨jK77, List.forall_mem_cons.mpr ⟨jK78, List.forall_mem_cons.mpr ⟨jK79, fun _ h => absurd h List.not_mem_nil⟩⟩⟩⟩⟩⟩⟩⟩⟩⟩⟩⟩⟩⟩⟩⟩
def jKz5 : List jm_M := [jMt80, jMt81, jMt82, jMt83, jMt84, jMt85, jMt86, jMt87, jMt88, jMt89, jMt90, jMt91, jMt92, jMt93, jMt94, jMt95]
theorem jKr5 : ∀ t ∈ jKz5, lw_tbl[t.2.2.2.2.2.2.2.2.1]? = some (.code t.2.1 t.2.2.1 t.2.2.2.1 t.2.2.2.2.1) := List.forall_mem_cons.mpr ⟨jK80, List.forall_mem_cons.mpr ⟨jK81, List.forall_mem_cons.mpr ⟨jK82, List.forall_mem_cons.mpr ⟨jK83, List.forall_mem_cons.mpr ⟨jK84, List.forall_mem_cons.mpr ⟨jK85, List.forall_mem_cons.mpr ⟨jK86, List.forall_mem_cons.mpr ⟨jK87, List.forall_mem_cons.mpr ⟨jK88, List.forall_mem_cons.mpr ⟨jK89, List.forall_mem_cons.mpr ⟨jK90, List.forall_mem_cons.mpr ⟨jK91, List.forall_mem_cons.mpr ⟨jK92, List.forall_mem_cons.mpr ⟨jK93, List.forall_mem_cons.mpr ⟨jK94, List.forall_mem_cons.mpr ⟨jK95, fun _ h => absurd h List.not_mem_nil⟩⟩⟩⟩⟩⟩⟩⟩⟩⟩⟩⟩⟩⟩⟩⟩
def jKz6 : List jm_M := [jMt96, jMt97, jMt98, jMt99, jMt100, jMt101, jMt102, jMt103, jMt104, jMt105, jMt106, jMt107, jMt108, jMt109, jMt110, jMt111]
theorem jKr6 : ∀ t ∈ jKz6, lw_tbl[t.2.2.2.2.2.2.2.2.1]? = some (.code t.2.1 t.2.2.1 t.2.2.2.1 t.2.2.2.2.1) := List.forall_mem_cons.mpr ⟨jK96, List.forall_mem_cons.mpr ⟨jK97, List.forall_mem_cons.mpr ⟨jK98, List.forall_mem_cons.mpr ⟨jK99, List.forall_mem_cons.mpr ⟨jK100, List.forall_mem_cons.mpr ⟨jK101, List.forall_mem_cons.mpr ⟨jK102, List.forall_mem_cons.mpr ⟨jK103, List.forall_mem_cons.mpr ⟨jK104, List.forall_mem_cons.mpr ⟨jK105, List.forall_mem_cons.mpr ⟨jK106, List.forall_mem_cons.mpr ⟨jK107, List.forall_mem_cons.mpr ⟨jK108, List.forall_mem_cons.mpr ⟨jK109, List.forall_mem_cons.mpr ⟨jK110, List.forall_mem_cons.mpr ⟨jK111, fun _ h => absurd h List.not_mem_nil⟩⟩⟩⟩⟩⟩⟩⟩⟩⟩⟩⟩⟩⟩⟩⟩
def jKz7 : List jm_M := [jMt112, jMt113, jMt114, jMt115, jMt116, jMt117, jMt118, jMt119, jMt120, jMt121, jMt122, jMt123, jMt124, jMt125, jMt126, jMt127]
theorem jKr7 : ∀ t ∈ jKz7, lw_tbl[t.2.2.2.2.2.2.2.2.1]? = some (.code t.2.1 t.2.2.1 t.2.2.2.1 t.2.2.2.2.1) := List.forall_mem_cons.mpr ⟨jK112, List.forall_mem_cons.mpr ⟨jK113, List.forall_mem_cons.mpr ⟨jK114, List.forall_mem_cons.mpr ⟨jK115, List.forall_mem_cons.mpr ⟨jK116, List.forall_mem_cons.mpr ⟨jK117, List.forall_mem_cons.mpr ⟨jK118, List.forall_mem_cons.mpr ⟨jK119, List.forall_mem_cons.mpr ⟨jK120, List.forall_mem_cons.mpr ⟨jK121, List.forall_mem_cons.mpr ⟨jK122, List.forall_mem_cons.mpr ⟨jK123, List.forall_mem_cons.mpr ⟨jK124, List.forall_mem_cons.mpr ⟨jK125, List.forall_mem_cons.mpr ⟨jK126, List.forall_mem_cons.mpr ⟨jK127, fun _ h => absurd h List.not_mem_nil⟩⟩⟩⟩⟩⟩⟩⟩⟩⟩⟩⟩⟩⟩⟩⟩
def jKz8 : List jm_M := [jMt128, jMt129, jMt130, jMt131, jMt132, jMt133, jMt134, jMt135, jMt136, jMt137, jMt138, jMt139, jMt140, jMt141, jMt142, jMt143]
theorem jKr8 : ∀ t ∈ jKz8, lw_tbl[t.2.2.2.2.2.2.2.2.1]? = some (.code t.2.1 t.2.2.1 t.2.2.2.1 t.2.2.2.2.1) := List.forall_mem_cons.mpr ⟨jK128, List.forall_mem_cons.mpr ⟨jK129, List.forall_mem_cons.mpr ⟨jK130, List.forall_mem_cons.mpr ⟨jK131, List.forall_mem_cons.mpr ⟨jK132, List.forall_mem_cons.mpr ⟨jK133, List.forall_mem_cons.mpr ⟨jK134, List.forall_mem_cons.mpr ⟨jK135, List.forall_mem_cons.mpr ⟨jK136, List.forall_mem_cons.mpr ⟨jK137, List.forall_mem_cons.mpr ⟨jK138, List.forall_mem_cons.mpr ⟨jK139, List.forall_mem_cons.mpr ⟨jK140, List.forall_mem_cons.mpr ⟨jK141, List.forall_mem_cons.mpr ⟨jK142, List.forall_mem_cons.mpr ⟨jK143, fun _ h => absurd h List.not_mem_nil⟩⟩⟩⟩⟩⟩⟩⟩⟩⟩⟩⟩⟩⟩⟩⟩
def jKz9 : List jm_M := [jMt144, jMt145, jMt146, jMt147, jMt148, jMt149, jMt150, jMt151, jMt152, jMt153, jMt154, jMt155, jMt156, jMt157, jMt158, jMt159]
theorem jKr9 : ∀ t ∈ jKz9, lw_tbl[t.2.2.2.2.2.2.2.2.1]? = some (.code t.2.1 t.2.2.1 t.2.2.2.1 t.2.2.2.2.1) := List.forall_mem_cons.mpr ⟨jK144, List.forall_mem_cons.mpr ⟨jK145, List.forall_mem_cons.mpr ⟨jK146, List.forall_mem_cons.mpr ⟨jK147, List.forall_mem_cons.mpr ⟨jK148, List.forall_mem_cons.mpr ⟨jK149, List.forall_mem_cons.mpr ⟨jK150, List.forall_mem_cons.mpr ⟨jK151, List.forall_mem_cons.mpr ⟨jK152, List.forall_mem_cons.mpr ⟨jK153, List.forall_mem_cons.mpr ⟨jK154, List.forall_mem_cons.mpr ⟨jK155, List.forall_mem_cons.mpr ⟨jK156, List.forall_mem_cons.mpr ⟨jK157, List.forall_mem_cons.mpr ⟨jK158, List.forall_mem_cons.mpr ⟨jK159, fun _ h => absurd h List.not_mem_nil⟩⟩⟩⟩⟩⟩⟩⟩⟩⟩⟩⟩⟩⟩⟩⟩
def jKz10 : List jm_M := [jMt160, jMt161, jMt162, jMt163, jMt164, jMt165, jMt166, jMt167, jMt168, jMt169, jMt170, jMt171, jMt172, jMt173, jMt174, jMt175]
theorem jKr10 : ∀ t ∈ jKz10, lw_tbl[t.2.2.2.2.2.2.2.2.1]? = some (.code t.2.1 t.2.2.1 t.2.2.2.1 t.2.2.2.2.1) := List.forall_mem_cons.mpr ⟨jK160, List.forall_mem_cons.mpr ⟨jK161, List.forall_mem_cons.mpr ⟨jK162, List.forall_mem_cons.mpr ⟨jK163, List.forall_mem_cons.mpr ⟨jK164, List.forall_mem_cons.mpr ⟨jK165, List.forall_mem_cons.mpr ⟨jK166, List.forall_mem_cons.mpr ⟨jK167, List.forall_mem_cons.mpr ⟨jK168, List.forall_mem_cons.mpr ⟨jK169, List.forall_mem_cons.mpr ⟨jK170, List.forall_mem_cons.mpr ⟨jK171, List.forall_mem_cons.mpr ⟨jK172, List.forall_mem_cons.mpr ⟨jK173, List.forall_mem_cons.mpr ⟨jK174, List.forall_mem_cons.mpr ⟨jK175, fun _ h => absurd h List.not_mem_nil⟩⟩⟩⟩⟩⟩⟩⟩⟩⟩⟩⟩⟩⟩⟩⟩
def jKz11 : List jm_M := [jMt176, jMt177, jMt178, jMt179, jMt180, jMt181, jMt182, jMt183, jMt184, jMt185, jMt186, jMt187, jMt188, jMt189, jMt190, jMt191]
theorem jKr11 : ∀ t ∈ jKz11, lw_tbl[t.2.2.2.2.2.2.2.2.1]? = some (.code t.2.1 t.2.2.1 t.2.2.2.1 t.2.2.2.2.1) := List.forall_mem_cons.mpr ⟨jK176, List.forall_mem_cons.mpr ⟨jK177, List.forall_mem_cons.mpr ⟨jK178, List.forall_mem_cons.mpr ⟨jK179, List.forall_mem_cons.mpr ⟨jK180, List.forall_mem_cons.mpr ⟨jK181, List.forall_mem_cons.mpr ⟨jK182, List.forall_mem_cons.mpr ⟨jK183, List.forall_mem_cons.mpr ⟨jK184, List.forall_mem_cons.mpr ⟨jK185, List.forall_mem_cons.mpr ⟨jK186, List.forall_mem_cons.mpr ⟨jK187, List.forall_mem_cons.mpr ⟨jK188, List.forall_mem_cons.mpr ⟨jK189, List.forall_mem_cons.mpr ⟨jK190, List.forall_mem_cons.mpr ⟨jK191, fun _ h => absurd h List.not_mem_nil⟩⟩⟩⟩⟩⟩⟩⟩⟩⟩⟩⟩⟩⟩⟩⟩
def jKz12 : List jm_M := [jMt192, jMt193, jMt194, jMt195, jMt196, jMt197, jMt198, jMt199, jMt200]
theorem jKr12 : ∀ t ∈ jKz12, lw_tbl[t.2.2.2.2.2.2.2.2.1]? = some (.code t.2.1 t.2.2.1 t.2.2.2.1 t.2.2.2.2.1) := List.forall_mem_cons.mpr ⟨jK192, List.forall_mem_cons.mpr ⟨jK193, List.forall_mem_cons.mpr ⟨jK194, List.forall_mem_cons.mpr ⟨jK195, List.forall_mem_cons.mpr ⟨jK196, List.forall_mem_cons.mpr ⟨jK197, List.forall_mem_cons.mpr ⟨jK198, List.forall_mem_cons.mpr ⟨jK199, List.forall_mem_cons.mpr ⟨jK200, fun _ h => absurd h List.not_mem_nil⟩⟩⟩⟩⟩⟩⟩⟩⟩
def jKz : List jm_M := jKz0 ++ (jKz1 ++ (jKz2 ++ (jKz3 ++ (jKz4 ++ (jKz5 ++ (jKz6 ++ (jKz7 ++ (jKz8 ++ (jKz9 ++ (jKz10 ++ (jKz11 ++ (jKz12))))))))))))
set_option maxRecDepth 100000 in
theorem jKz_eq : jKz = jm_mt.take 201 := rfl
theorem jKr : ∀ t ∈ jKz, lw_tbl[t.2.2.2.2.2.2.2.2.1]? = some (.code t.2.1 t.2.2.1 t.2.2.2.1 t.2.2.2.2.1) := by
  show ∀ t ∈ jKz0 ++ (jKz1 ++ (jKz2 ++ (jKz3 ++ (jKz4 ++ (jKz5 ++ (jKz6 ++ (jKz7 ++ (jKz8 ++ (jKz9 ++ (jKz10 ++ (jKz11 ++ (jKz12)))))))))))), lw_tbl[t.2.2.2.2.2.2.2.2.1]? = some (.code t.2.1 t.2.2.1 t.2.2.2.1 t.2.2.2.2.1)
  exact List.forall_mem_append.mpr ⟨jKr0, List.forall_mem_append.mpr ⟨jKr1, List.forall_mem_append.mpr ⟨jKr2, List.forall_mem_append.mpr ⟨jKr3, List.forall_mem_append.mpr ⟨jKr4, List.forall_mem_append.mpr ⟨jKr5, List.forall_mem_append.mpr ⟨jKr6, List.forall_mem_append.mpr ⟨jKr7, List.forall_mem_append.mpr ⟨jKr8, List.forall_mem_append.mpr ⟨jKr9, List.forall_mem_append.mpr ⟨jKr10, List.forall_mem_append.mpr ⟨jKr11, jKr12⟩⟩⟩⟩⟩⟩⟩⟩⟩⟩⟩⟩
/-- whom a method calls is lower than it -/
def jm_okH (p : jm_M × List (Nat × Instr × Nat)) : Bool := p.2.all fun q => match q.2.1 with
  | .invokestatic k => match jm_lk2 jm_ml p.1.1 k with
    | some e => match Nat.ble 1000 e.1 with
      | true => decide (1 ≤ p.1.2.2.2.2.2.1)
      | false => match jm_mt[e.1]? with
        | some t => decide (t.2.2.2.2.2.1 + 1 ≤ p.1.2.2.2.2.2.1)
        | none => false
    | none => true
  | .invokevirtual k => match jm_lk2 jm_ml p.1.1 k with
    | some e => match Nat.ble 1000 e.1 with
      | true => decide (1 ≤ p.1.2.2.2.2.2.1)
      | false => match jm_mt[e.1]? with
        | some t => decide (t.2.2.2.2.2.1 + 1 ≤ p.1.2.2.2.2.2.1)
        | none => false
    | none => true
  | _ => true
theorem jm_okH_all : (jm_mt.zip jm_codes).all jm_okH = true := by decide +kernel
