def K_R_readLaw : MC := [(0, .lconst 0, 0), (1, .istore 1, 0), (2, .ret 0, 0), (2, .aload 0, 0), (3, .invokeinterface 226 193, 0), (6, .ifCond .eq 76, 0), (9, .iload 1, 0), (10, .iconst 0, 16), (12, .if_icmp .ne 13, 0), (15, .aload 0, 0), (16, .iconst 0, 3), (17, .invokeinterface 214 194, 0), (20, .ireturn, 0), (21, .iconst 0, 32), (23, .iload 1, 0), (24, .iadd, 0), (25, .istore 2, 0), (26, .aload 0, 0), (27, .getstatic 1118, 0), (30, .iload 2, 0), (31, .aload 0, 0), (32, .getfield 1115, 0), (35, .iastore, 0), (36, .aload 0, 0), (37, .multianewarray 213 193, 0), (40, .aload 0, 0), (41, .getstatic 1119, 0), (44, .iload 2, 0), (45, .aload 0, 0), (46, .getfield 1125, 0), (49, .iastore, 0), (50, .aload 0, 0), (51, .invokeinterface 221 193, 0), (54, .iconst 0, (-1)), (55, .if_icmp .ne 37, 0), (58, .iconst 0, (-1)), (59, .ireturn, 0), (60, .aload 0, 0), (61, .getstatic 1120, 0), (64, .iload 2, 0), (65, .aload 0, 0), (66, .getfield 1125, 0), (69, .iastore, 0), (70, .aload 0, 0), (71, .iconst 0, 3), (72, .invokeinterface 215 194, 0), (75, .ifCond .eq 55, 0), (78, .aload 0, 0), (79, .multianewarray 213 193, 0), (82, .aload 0, 0), (83, .invokeinterface 225 193, 0), (86, .iconst 0, (-1)), (87, .if_icmp .ne 55, 0), (90, .iconst 0, (-1)), (91, .ireturn, 0), (92, .aload 0, 0), (93, .getstatic 1121, 0), (96, .iload 2, 0), (97, .aload 0, 0), (98, .getfield 1125, 0), (101, .iastore, 0), (102, .aload 0, 0), (103, .iconst 0, 59), (105, .invokeinterface 216 194, 0), (108, .ifCond .ne 69, 0), (111, .aload 0, 0), (112, .lconst 1, 0), (113, .invokeinterface 214 194, 0), (116, .ireturn, 0), (117, .aload 0, 0), (118, .multianewarray 213 193, 0), (121, .iload 1, 0), (122, .lconst 1, 0), (123, .iadd, 0), (124, .istore 1, 0), (125, .goto 2, 0), (128, .aload 0, 0), (129, .getfield 1114, 0), (132, .ifCond .ne 81, 0), (135, .iload 1, 0), (136, .goto 84, 0), (139, .aload 0, 0), (140, .lconst 1, 0), (141, .invokeinterface 214 194, 0), (144, .ireturn, 0)]
noncomputable def F_R_readLaw_2 : Nat → Int32 → Mem → Option (Int32 × Mem)
  | 0, _, _ => none
  | n + 1, x1, s =>
    (F_R_isLineWord s).bind fun z1 =>
    if z1.1 = 0 then
      if (z1.2 123 14) = 0 then
        some (x1, z1.2)
      else
      (F_R_errs 1 z1.2).bind fun z2 =>
      some (z2.1, z2.2)
    else
    if x1 = 16 then
      (F_R_errs 3 z1.2).bind fun z3 =>
      some (z3.1, z3.2)
    else
    (sd z1.2 133 (32 + x1) (z1.2 123 15)).bind fun s4 =>
    (F_R_reads s4).bind fun z5 =>
    (sd z5.2 134 (32 + x1) (z5.2 123 25)).bind fun s6 =>
    (F_R_readSum s6).bind fun z7 =>
    if z7.1 = (-1) then
      some ((-1), z7.2)
    else
    (sd z7.2 135 (32 + x1) (z7.2 123 25)).bind fun s8 =>
    (F_R_isWord 3 s8).bind fun z9 =>
    if z9.1 = 0 then
      (sd z9.2 136 (32 + x1) (z9.2 123 25)).bind fun s10 =>
      (F_R_isSign 59 s10).bind fun z11 =>
      if z11.1 = 0 then
        (F_R_errs 1 z11.2).bind fun z12 =>
        some (z12.1, z12.2)
      else
      (F_R_reads z11.2).bind fun z13 =>
      F_R_readLaw_2 n (x1 + 1) z13.2
    else
    (F_R_reads z9.2).bind fun z14 =>
    (F_R_readAny z14.2).bind fun z15 =>
    if z15.1 = (-1) then
      some ((-1), z15.2)
    else
    (sd z15.2 136 (32 + x1) (z15.2 123 25)).bind fun s16 =>
    (F_R_isSign 59 s16).bind fun z17 =>
    if z17.1 = 0 then
      (F_R_errs 1 z17.2).bind fun z18 =>
      some (z18.1, z18.2)
    else
    (F_R_reads z17.2).bind fun z19 =>
    F_R_readLaw_2 n (x1 + 1) z19.2
noncomputable def F_R_readLaw  (s : Mem) : Option (Int32 × Mem) :=
  F_R_readLaw_2 gF 0 s
def A_R_readLaw_2 (f : Int32 → Mem → Option (Int32 × Mem)) (ls : List (Option Value)) (s : Mem) : Option (Int32 × Mem) := match lk ls 0, lk ls 1 with
  | some (.ref a0), some (.int a1) => cbr (Nat.beq a0 123) (f a1 s) none
  | _, _ => none
noncomputable def A_R_readLaw (av : List Value) (s : Mem) : Option (Int32 × Mem) := match av with
  | [.ref a0] => cbr (Nat.beq a0 123) (F_R_readLaw s) none
  | _ => none
noncomputable def C_R_readLaw (k : Nat) (av : List Value) (s : Mem) : Option (Int32 × Mem) := cbr (Nat.beq k 226) (A_R_isLineWord av s) (cbr (Nat.beq k 214) (A_R_errs av s) (cbr (Nat.beq k 213) (A_R_reads av s) (cbr (Nat.beq k 221) (A_R_readSum av s) (cbr (Nat.beq k 215) (A_R_isWord av s) (cbr (Nat.beq k 216) (A_R_isSign av s) (cbr (Nat.beq k 225) (A_R_readAny av s) (none)))))))
set_option maxRecDepth 100000 in
theorem e_R_readLaw_2  (n : Nat) (x1 : Int32) (s : Mem) : F_R_readLaw_2 (n + 1) x1 s = xs C_R_readLaw (fun k ls s => cbr (Nat.beq k 0) (A_R_readLaw_2 (F_R_readLaw_2 n) ls s) (none)) 0 (fun _ => 0) K_R_readLaw 700 (K_R_readLaw.drop 3) [some (.ref 123), some (.int x1), none] [] s := rfl
set_option maxRecDepth 100000 in
theorem e_R_readLaw  (s : Mem) : F_R_readLaw s = xs C_R_readLaw (fun k ls s => cbr (Nat.beq k 0) (A_R_readLaw_2 (F_R_readLaw_2 gF) ls s) (none)) 0 (fun _ => 0) K_R_readLaw 700 K_R_readLaw [some (.ref 123), none, none] [] s := rfl
def K_R_takesLaw : MC := [(0, .lconst 0, 0), (1, .istore 2, 0), (2, .ret 0, 0), (2, .iload 2, 0), (3, .iload 1, 0), (4, .if_icmp .ge 68, 0), (7, .aload 0, 0), (8, .getstatic 1118, 0), (11, .iconst 0, 16), (13, .aload 0, 0), (14, .getfield 1124, 0), (17, .imul, 0), (18, .iload 2, 0), (19, .iadd, 0), (20, .aload 0, 0), (21, .getstatic 1118, 0), (24, .iconst 0, 32), (26, .iload 2, 0), (27, .iadd, 0), (28, .iaload, 0), (29, .iastore, 0), (30, .aload 0, 0), (31, .getstatic 1119, 0), (34, .iconst 0, 16), (36, .aload 0, 0), (37, .getfield 1124, 0), (40, .imul, 0), (41, .iload 2, 0), (42, .iadd, 0), (43, .aload 0, 0), (44, .getstatic 1119, 0), (47, .iconst 0, 32), (49, .iload 2, 0), (50, .iadd, 0), (51, .iaload, 0), (52, .iastore, 0), (53, .aload 0, 0), (54, .getstatic 1120, 0), (57, .iconst 0, 16), (59, .aload 0, 0), (60, .getfield 1124, 0), (63, .imul, 0), (64, .iload 2, 0), (65, .iadd, 0), (66, .aload 0, 0), (67, .getstatic 1120, 0), (70, .iconst 0, 32), (72, .iload 2, 0), (73, .iadd, 0), (74, .iaload, 0), (75, .iastore, 0), (76, .aload 0, 0), (77, .getstatic 1121, 0), (80, .iconst 0, 16), (82, .aload 0, 0), (83, .getfield 1124, 0), (86, .imul, 0), (87, .iload 2, 0), (88, .iadd, 0), (89, .aload 0, 0), (90, .getstatic 1121, 0), (93, .iconst 0, 32), (95, .iload 2, 0), (96, .iadd, 0), (97, .iaload, 0), (98, .iastore, 0), (99, .iinc 2 0, 1), (102, .goto 2, 0), (105, .lconst 0, 0), (106, .istore 2, 0), (107, .ret 1, 0), (107, .iload 2, 0), (108, .aload 0, 0), (109, .getfield 1125, 0), (112, .if_icmp .ge 107, 0), (115, .aload 0, 0), (116, .getstatic 1122, 0), (119, .iconst 0, 400), (122, .aload 0, 0), (123, .getfield 1124, 0), (126, .imul, 0), (127, .iload 2, 0), (128, .iadd, 0), (129, .aload 0, 0), (130, .getstatic 1122, 0), (133, .iconst 0, 800), (136, .iload 2, 0), (137, .iadd, 0), (138, .iaload, 0), (139, .iastore, 0), (140, .aload 0, 0), (141, .getstatic 1123, 0), (144, .iconst 0, 400), (147, .aload 0, 0), (148, .getfield 1124, 0), (151, .imul, 0), (152, .iload 2, 0), (153, .iadd, 0), (154, .aload 0, 0), (155, .getstatic 1123, 0), (158, .iconst 0, 800), (161, .iload 2, 0), (162, .iadd, 0), (163, .iaload, 0), (164, .iastore, 0), (165, .iinc 2 0, 1), (168, .goto 70, 0), (171, .aload 0, 0), (172, .getstatic 1117, 0), (175, .aload 0, 0), (176, .getfield 1124, 0), (179, .iload 1, 0), (180, .iastore, 0), (181, .return_, 0)]
noncomputable def F_R_takesLaw_69 : Nat → Int32 → Int32 → Mem → Option (Int32 × Mem)
  | 0, _, _, _ => none
  | n + 1, x1, x2, s =>
    if (s 123 25) ≤ x2 then
      (sd s 132 (s 123 24) x1).bind fun s1 =>
      some (0, s1)
    else
    (ld s 137 (800 + x2)).bind fun v2 =>
    (sd s 137 ((400 * (s 123 24)) + x2) v2).bind fun s3 =>
    (ld s3 138 (800 + x2)).bind fun v4 =>
    (sd s3 138 ((400 * (s3 123 24)) + x2) v4).bind fun s5 =>
    F_R_takesLaw_69 n x1 (x2 + 1) s5
noncomputable def F_R_takesLaw_2 : Nat → Int32 → Int32 → Mem → Option (Int32 × Mem)
  | 0, _, _, _ => none
  | n + 1, x1, x2, s =>
    if x1 ≤ x2 then
      F_R_takesLaw_69 gF x1 0 s
    else
    (ld s 133 (32 + x2)).bind fun v1 =>
    (sd s 133 ((16 * (s 123 24)) + x2) v1).bind fun s2 =>
    (ld s2 134 (32 + x2)).bind fun v3 =>
    (sd s2 134 ((16 * (s2 123 24)) + x2) v3).bind fun s4 =>
    (ld s4 135 (32 + x2)).bind fun v5 =>
    (sd s4 135 ((16 * (s4 123 24)) + x2) v5).bind fun s6 =>
    (ld s6 136 (32 + x2)).bind fun v7 =>
    (sd s6 136 ((16 * (s6 123 24)) + x2) v7).bind fun s8 =>
    F_R_takesLaw_2 n x1 (x2 + 1) s8
noncomputable def F_R_takesLaw (x1 : Int32) (s : Mem) : Option (Int32 × Mem) :=
  F_R_takesLaw_2 gF x1 0 s
def A_R_takesLaw_2 (f : Int32 → Int32 → Mem → Option (Int32 × Mem)) (ls : List (Option Value)) (s : Mem) : Option (Int32 × Mem) := match lk ls 0, lk ls 1, lk ls 2 with
  | some (.ref a0), some (.int a1), some (.int a2) => cbr (Nat.beq a0 123) (f a1 a2 s) none
  | _, _, _ => none
def A_R_takesLaw_69 (f : Int32 → Int32 → Mem → Option (Int32 × Mem)) (ls : List (Option Value)) (s : Mem) : Option (Int32 × Mem) := match lk ls 0, lk ls 1, lk ls 2 with
  | some (.ref a0), some (.int a1), some (.int a2) => cbr (Nat.beq a0 123) (f a1 a2 s) none
  | _, _, _ => none
noncomputable def A_R_takesLaw (av : List Value) (s : Mem) : Option (Int32 × Mem) := match av with
  | [.ref a0, .int a1] => cbr (Nat.beq a0 123) (F_R_takesLaw a1 s) none
  | _ => none
noncomputable def C_R_takesLaw (k : Nat) (av : List Value) (s : Mem) : Option (Int32 × Mem) := none
set_option maxRecDepth 100000 in
theorem e_R_takesLaw_69  (n : Nat) (x1 : Int32) (x2 : Int32) (s : Mem) : F_R_takesLaw_69 (n + 1) x1 x2 s = xs C_R_takesLaw (fun k ls s => cbr (Nat.beq k 1) (A_R_takesLaw_69 (F_R_takesLaw_69 n) ls s) (none)) 0 (fun _ => 0) K_R_takesLaw 700 (K_R_takesLaw.drop 71) [some (.ref 123), some (.int x1), some (.int x2)] [] s := rfl
set_option maxRecDepth 100000 in
theorem e_R_takesLaw_2  (n : Nat) (x1 : Int32) (x2 : Int32) (s : Mem) : F_R_takesLaw_2 (n + 1) x1 x2 s = xs C_R_takesLaw (fun k ls s => cbr (Nat.beq k 0) (A_R_takesLaw_2 (F_R_takesLaw_2 n) ls s) (cbr (Nat.beq k 1) (A_R_takesLaw_69 (F_R_takesLaw_69 gF) ls s) (none))) 0 (fun _ => 0) K_R_takesLaw 700 (K_R_takesLaw.drop 3) [some (.ref 123), some (.int x1), some (.int x2)] [] s := rfl
set_option maxRecDepth 100000 in
theorem e_R_takesLaw (x1 : Int32) (s : Mem) : F_R_takesLaw x1 s = xs C_R_takesLaw (fun k ls s => cbr (Nat.beq k 0) (A_R_takesLaw_2 (F_R_takesLaw_2 gF) ls s) (none)) 0 (fun _ => 0) K_R_takesLaw 700 K_R_takesLaw [some (.ref 123), some (.int x1), none] [] s := rfl
def K_R_readNumber : MC := [(0, .aload 0, 0), (1, .getfield 1114, 0), (4, .iconst 0, 3), (5, .if_icmp .eq 8, 0), (8, .aload 0, 0), (9, .lconst 1, 0), (10, .invokeinterface 214 194, 0), (13, .ireturn, 0), (14, .aload 0, 0), (15, .aload 0, 0), (16, .getfield 1115, 0), (19, .iload 1, 0), (20, .iload 2, 0), (21, .invokeinterface 187 196, 0), (24, .ifCond .ne 19, 0), (27, .aload 0, 0), (28, .iconst 0, 2), (29, .invokeinterface 214 194, 0), (32, .ireturn, 0), (33, .aload 0, 0), (34, .getfield 1115, 0), (37, .istore 3, 0), (38, .aload 0, 0), (39, .multianewarray 213 193, 0), (42, .iload 3, 0), (43, .ireturn, 0)]
noncomputable def F_R_readNumber (x1 : Int32) (x2 : Int32) (s : Mem) : Option (Int32 × Mem) :=
  if (s 123 14) = 3 then
    (F_R_isIn (s 123 15) x1 x2 s).bind fun z1 =>
    if z1.1 = 0 then
      (F_R_errs 2 z1.2).bind fun z2 =>
      some (z2.1, z2.2)
    else
    (F_R_reads z1.2).bind fun z3 =>
    some ((z1.2 123 15), z3.2)
  else
  (F_R_errs 1 s).bind fun z4 =>
  some (z4.1, z4.2)
noncomputable def A_R_readNumber (av : List Value) (s : Mem) : Option (Int32 × Mem) := match av with
  | [.ref a0, .int a1, .int a2] => cbr (Nat.beq a0 123) (F_R_readNumber a1 a2 s) none
  | _ => none
noncomputable def C_R_readNumber (k : Nat) (av : List Value) (s : Mem) : Option (Int32 × Mem) := cbr (Nat.beq k 187) (A_R_isIn av s) (cbr (Nat.beq k 214) (A_R_errs av s) (cbr (Nat.beq k 213) (A_R_reads av s) (none)))
set_option maxRecDepth 100000 in
theorem e_R_readNumber (x1 : Int32) (x2 : Int32) (s : Mem) : F_R_readNumber x1 x2 s = xs C_R_readNumber (fun k ls s => none) 0 (fun _ => 0) K_R_readNumber 700 K_R_readNumber [some (.ref 123), some (.int x1), some (.int x2), none] [] s := rfl
def K_R_readMark : MC := [(0, .aload 0, 0), (1, .iload 1, 0), (2, .invokeinterface 216 194, 0), (5, .ifCond .ne 8, 0), (8, .aload 0, 0), (9, .lconst 1, 0), (10, .invokeinterface 214 194, 0), (13, .ireturn, 0), (14, .aload 0, 0), (15, .multianewarray 213 193, 0), (18, .lconst 0, 0), (19, .ireturn, 0)]
noncomputable def F_R_readMark (x1 : Int32) (s : Mem) : Option (Int32 × Mem) :=
  (F_R_isSign x1 s).bind fun z1 =>
  if z1.1 = 0 then
    (F_R_errs 1 z1.2).bind fun z2 =>
    some (z2.1, z2.2)
  else
  (F_R_reads z1.2).bind fun z3 =>
  some (0, z3.2)
noncomputable def A_R_readMark (av : List Value) (s : Mem) : Option (Int32 × Mem) := match av with
  | [.ref a0, .int a1] => cbr (Nat.beq a0 123) (F_R_readMark a1 s) none
  | _ => none
noncomputable def C_R_readMark (k : Nat) (av : List Value) (s : Mem) : Option (Int32 × Mem) := cbr (Nat.beq k 216) (A_R_isSign av s) (cbr (Nat.beq k 214) (A_R_errs av s) (cbr (Nat.beq k 213) (A_R_reads av s) (none)))
set_option maxRecDepth 100000 in
theorem e_R_readMark (x1 : Int32) (s : Mem) : F_R_readMark x1 s = xs C_R_readMark (fun k ls s => none) 0 (fun _ => 0) K_R_readMark 700 K_R_readMark [some (.ref 123), some (.int x1)] [] s := rfl
def K_R_readTold : MC := [(0, .aload 0, 0), (1, .iload 1, 0), (2, .invokeinterface 215 194, 0), (5, .ifCond .ne 8, 0), (8, .aload 0, 0), (9, .lconst 1, 0), (10, .invokeinterface 214 194, 0), (13, .ireturn, 0), (14, .aload 0, 0), (15, .multianewarray 213 193, 0), (18, .aload 0, 0), (19, .iload 2, 0), (20, .iload 3, 0), (21, .invokeinterface 229 195, 0), (24, .ireturn, 0)]
noncomputable def F_R_readTold (x1 : Int32) (x2 : Int32) (x3 : Int32) (s : Mem) : Option (Int32 × Mem) :=
  (F_R_isWord x1 s).bind fun z1 =>
  if z1.1 = 0 then
    (F_R_errs 1 z1.2).bind fun z2 =>
    some (z2.1, z2.2)
  else
  (F_R_reads z1.2).bind fun z3 =>
  (F_R_readNumber x2 x3 z3.2).bind fun z4 =>
  some (z4.1, z4.2)
noncomputable def A_R_readTold (av : List Value) (s : Mem) : Option (Int32 × Mem) := match av with
  | [.ref a0, .int a1, .int a2, .int a3] => cbr (Nat.beq a0 123) (F_R_readTold a1 a2 a3 s) none
  | _ => none
noncomputable def C_R_readTold (k : Nat) (av : List Value) (s : Mem) : Option (Int32 × Mem) := cbr (Nat.beq k 215) (A_R_isWord av s) (cbr (Nat.beq k 214) (A_R_errs av s) (cbr (Nat.beq k 213) (A_R_reads av s) (cbr (Nat.beq k 229) (A_R_readNumber av s) (none))))
set_option maxRecDepth 100000 in
theorem e_R_readTold (x1 : Int32) (x2 : Int32) (x3 : Int32) (s : Mem) : F_R_readTold x1 x2 x3 s = xs C_R_readTold (fun k ls s => none) 0 (fun _ => 0) K_R_readTold 700 K_R_readTold [some (.ref 123), some (.int x1), some (.int x2), some (.int x3)] [] s := rfl
def K_R_readStep : MC := [(0, .aload 0, 0), (1, .iconst 0, 20), (3, .lconst 0, 0), (4, .aload 0, 0), (5, .getstatic 1107, 0), (8, .iload 1, 0), (9, .iaload, 0), (10, .lconst 1, 0), (11, .isub, 0), (12, .invokeinterface 231 196, 0), (15, .istore 2, 0), (16, .iload 2, 0), (17, .iconst 0, (-1)), (18, .if_icmp .ne 16, 0), (21, .iconst 0, (-1)), (22, .goto 21, 0), (25, .iconst 0, 16), (27, .iload 1, 0), (28, .imul, 0), (29, .iload 2, 0), (30, .iadd, 0), (31, .ireturn, 0)]
noncomputable def F_R_readStep (x1 : Int32) (s : Mem) : Option (Int32 × Mem) :=
  (ld s 127 x1).bind fun v1 =>
  (F_R_readTold 20 0 (v1 - 1) s).bind fun z2 =>
  if z2.1 = (-1) then
    some ((-1), z2.2)
  else
  some (((16 * x1) + z2.1), z2.2)
noncomputable def A_R_readStep (av : List Value) (s : Mem) : Option (Int32 × Mem) := match av with
  | [.ref a0, .int a1] => cbr (Nat.beq a0 123) (F_R_readStep a1 s) none
  | _ => none
noncomputable def C_R_readStep (k : Nat) (av : List Value) (s : Mem) : Option (Int32 × Mem) := cbr (Nat.beq k 231) (A_R_readTold av s) (none)
set_option maxRecDepth 100000 in
theorem e_R_readStep (x1 : Int32) (s : Mem) : F_R_readStep x1 s = xs C_R_readStep (fun k ls s => none) 0 (fun _ => 0) K_R_readStep 700 K_R_readStep [some (.ref 123), some (.int x1), none] [] s := rfl
def K_R_kindOfOrder : MC := [(0, .aload 0, 0), (1, .iconst 0, 11), (3, .invokeinterface 215 194, 0), (6, .ifCond .eq 6, 0), (9, .iconst 0, 3), (10, .ireturn, 0), (11, .aload 0, 0), (12, .getfield 1114, 0), (15, .iconst 0, 2), (16, .if_icmp .eq 12, 0), (19, .iconst 0, (-1)), (20, .ireturn, 0), (21, .aload 0, 0), (22, .aload 0, 0), (23, .getfield 1115, 0), (26, .iconst 0, 21), (28, .iconst 0, 23), (30, .invokeinterface 187 196, 0), (33, .ifCond .eq 24, 0), (36, .aload 0, 0), (37, .getfield 1115, 0), (40, .iconst 0, 21), (42, .isub, 0), (43, .goto 39, 0), (46, .aload 0, 0), (47, .aload 0, 0), (48, .getfield 1115, 0), (51, .iconst 0, 24), (53, .iconst 0, 26), (55, .invokeinterface 187 196, 0), (58, .ifCond .eq 38, 0), (61, .iconst 0, 4), (62, .aload 0, 0), (63, .getfield 1115, 0), (66, .iadd, 0), (67, .iconst 0, 24), (69, .isub, 0), (70, .goto 39, 0), (73, .iconst 0, (-1)), (74, .ireturn, 0)]
noncomputable def F_R_kindOfOrder  (s : Mem) : Option (Int32 × Mem) :=
  (F_R_isWord 11 s).bind fun z1 =>
  if z1.1 = 0 then
    if (z1.2 123 14) = 2 then
      (F_R_isIn (z1.2 123 15) 21 23 z1.2).bind fun z2 =>
      if z2.1 = 0 then
        (F_R_isIn (z2.2 123 15) 24 26 z2.2).bind fun z3 =>
        if z3.1 = 0 then
          some ((-1), z3.2)
        else
        some (((4 + (z3.2 123 15)) - 24), z3.2)
      else
      some (((z2.2 123 15) - 21), z2.2)
    else
    some ((-1), z1.2)
  else
  some (3, z1.2)
noncomputable def A_R_kindOfOrder (av : List Value) (s : Mem) : Option (Int32 × Mem) := match av with
  | [.ref a0] => cbr (Nat.beq a0 123) (F_R_kindOfOrder s) none
  | _ => none
noncomputable def C_R_kindOfOrder (k : Nat) (av : List Value) (s : Mem) : Option (Int32 × Mem) := cbr (Nat.beq k 215) (A_R_isWord av s) (cbr (Nat.beq k 187) (A_R_isIn av s) (none))
set_option maxRecDepth 100000 in
theorem e_R_kindOfOrder  (s : Mem) : F_R_kindOfOrder s = xs C_R_kindOfOrder (fun k ls s => none) 0 (fun _ => 0) K_R_kindOfOrder 700 K_R_kindOfOrder [some (.ref 123)] [] s := rfl
def K_R_readOrder : MC := [(0, .aload 0, 0), (1, .getstatic 1134, 0), (4, .iload 1, 0), (5, .aload 0, 0), (6, .iconst 0, 18), (8, .lconst 0, 0), (9, .iconst 0, 999), (12, .invokeinterface 231 196, 0), (15, .iastore, 0), (16, .aload 0, 0), (17, .getstatic 1134, 0), (20, .iload 1, 0), (21, .iaload, 0), (22, .iconst 0, (-1)), (23, .if_icmp .ne 17, 0), (26, .iconst 0, (-1)), (27, .ireturn, 0), (28, .aload 0, 0), (29, .iconst 0, 19), (31, .lconst 0, 0), (32, .aload 0, 0), (33, .getfield 1106, 0), (36, .lconst 1, 0), (37, .isub, 0), (38, .invokeinterface 231 196, 0), (41, .istore 2, 0), (42, .iload 2, 0), (43, .iconst 0, (-1)), (44, .if_icmp .ne 31, 0), (47, .iconst 0, (-1)), (48, .ireturn, 0), (49, .aload 0, 0), (50, .getstatic 1134, 0), (53, .iload 1, 0), (54, .iconst 0, 2), (55, .iadd, 0), (56, .aload 0, 0), (57, .iload 2, 0), (58, .invokeinterface 232 194, 0), (61, .iastore, 0), (62, .aload 0, 0), (63, .getstatic 1134, 0), (66, .iload 1, 0), (67, .iconst 0, 2), (68, .iadd, 0), (69, .iaload, 0), (70, .iconst 0, (-1)), (71, .if_icmp .ne 50, 0), (74, .iconst 0, (-1)), (75, .ireturn, 0), (76, .aload 0, 0), (77, .getstatic 1134, 0), (80, .iload 1, 0), (81, .lconst 1, 0), (82, .iadd, 0), (83, .aload 0, 0), (84, .invokeinterface 233 193, 0), (87, .iastore, 0), (88, .aload 0, 0), (89, .getstatic 1134, 0), (92, .iload 1, 0), (93, .lconst 1, 0), (94, .iadd, 0), (95, .iaload, 0), (96, .iconst 0, (-1)), (97, .if_icmp .ne 70, 0), (100, .aload 0, 0), (101, .lconst 1, 0), (102, .invokeinterface 214 194, 0), (105, .ireturn, 0), (106, .aload 0, 0), (107, .multianewarray 213 193, 0), (110, .aload 0, 0), (111, .iconst 0, 59), (113, .invokeinterface 230 194, 0), (116, .ireturn, 0)]
noncomputable def F_R_readOrder (x1 : Int32) (s : Mem) : Option (Int32 × Mem) :=
  (F_R_readTold 18 0 999 s).bind fun z1 =>
  (sd z1.2 140 x1 z1.1).bind fun s2 =>
  (ld s2 140 x1).bind fun v3 =>
  if v3 = (-1) then
    some ((-1), s2)
  else
  (F_R_readTold 19 0 ((s2 123 6) - 1) s2).bind fun z4 =>
  if z4.1 = (-1) then
    some ((-1), z4.2)
  else
  (F_R_readStep z4.1 z4.2).bind fun z5 =>
  (sd z5.2 140 (x1 + 2) z5.1).bind fun s6 =>
  (ld s6 140 (x1 + 2)).bind fun v7 =>
  if v7 = (-1) then
    some ((-1), s6)
  else
  (F_R_kindOfOrder s6).bind fun z8 =>
  (sd z8.2 140 (x1 + 1) z8.1).bind fun s9 =>
  (ld s9 140 (x1 + 1)).bind fun v10 =>
  if v10 = (-1) then
    (F_R_errs 1 s9).bind fun z11 =>
    some (z11.1, z11.2)
  else
  (F_R_reads s9).bind fun z12 =>
  (F_R_readMark 59 z12.2).bind fun z13 =>
  some (z13.1, z13.2)
noncomputable def A_R_readOrder (av : List Value) (s : Mem) : Option (Int32 × Mem) := match av with
  | [.ref a0, .int a1] => cbr (Nat.beq a0 123) (F_R_readOrder a1 s) none
  | _ => none
noncomputable def C_R_readOrder (k : Nat) (av : List Value) (s : Mem) : Option (Int32 × Mem) := cbr (Nat.beq k 231) (A_R_readTold av s) (cbr (Nat.beq k 232) (A_R_readStep av s) (cbr (Nat.beq k 233) (A_R_kindOfOrder av s) (cbr (Nat.beq k 214) (A_R_errs av s) (cbr (Nat.beq k 213) (A_R_reads av s) (cbr (Nat.beq k 230) (A_R_readMark av s) (none))))))
set_option maxRecDepth 100000 in
theorem e_R_readOrder (x1 : Int32) (s : Mem) : F_R_readOrder x1 s = xs C_R_readOrder (fun k ls s => none) 0 (fun _ => 0) K_R_readOrder 700 K_R_readOrder [some (.ref 123), some (.int x1), none] [] s := rfl
def K_R_readOrders : MC := [(0, .lconst 0, 0), (1, .istore 1, 0), (2, .ret 0, 0), (2, .aload 0, 0), (3, .iconst 0, 18), (5, .invokeinterface 215 194, 0), (8, .ifCond .eq 30, 0), (11, .iload 1, 0), (12, .iconst 0, 16), (14, .if_icmp .ne 14, 0), (17, .aload 0, 0), (18, .iconst 0, 3), (19, .invokeinterface 214 194, 0), (22, .ireturn, 0), (23, .aload 0, 0), (24, .iconst 0, 48), (26, .iconst 0, 3), (27, .iload 1, 0), (28, .imul, 0), (29, .iadd, 0), (30, .invokeinterface 234 194, 0), (33, .iconst 0, (-1)), (34, .if_icmp .ne 25, 0), (37, .iconst 0, (-1)), (38, .ireturn, 0), (39, .iload 1, 0), (40, .lconst 1, 0), (41, .iadd, 0), (42, .istore 1, 0), (43, .goto 2, 0), (46, .aload 0, 0), (47, .getfield 1114, 0), (50, .ifCond .ne 35, 0), (53, .iload 1, 0), (54, .goto 38, 0), (57, .aload 0, 0), (58, .lconst 1, 0), (59, .invokeinterface 214 194, 0), (62, .ireturn, 0)]
noncomputable def F_R_readOrders_2 : Nat → Int32 → Mem → Option (Int32 × Mem)
  | 0, _, _ => none
  | n + 1, x1, s =>
    (F_R_isWord 18 s).bind fun z1 =>
    if z1.1 = 0 then
      if (z1.2 123 14) = 0 then
        some (x1, z1.2)
      else
      (F_R_errs 1 z1.2).bind fun z2 =>
      some (z2.1, z2.2)
    else
    if x1 = 16 then
      (F_R_errs 3 z1.2).bind fun z3 =>
      some (z3.1, z3.2)
    else
    (F_R_readOrder (48 + (3 * x1)) z1.2).bind fun z4 =>
    if z4.1 = (-1) then
      some ((-1), z4.2)
    else
    F_R_readOrders_2 n (x1 + 1) z4.2
noncomputable def F_R_readOrders  (s : Mem) : Option (Int32 × Mem) :=
  F_R_readOrders_2 gF 0 s
def A_R_readOrders_2 (f : Int32 → Mem → Option (Int32 × Mem)) (ls : List (Option Value)) (s : Mem) : Option (Int32 × Mem) := match lk ls 0, lk ls 1 with
  | some (.ref a0), some (.int a1) => cbr (Nat.beq a0 123) (f a1 s) none
  | _, _ => none
noncomputable def A_R_readOrders (av : List Value) (s : Mem) : Option (Int32 × Mem) := match av with
  | [.ref a0] => cbr (Nat.beq a0 123) (F_R_readOrders s) none
  | _ => none
noncomputable def C_R_readOrders (k : Nat) (av : List Value) (s : Mem) : Option (Int32 × Mem) := cbr (Nat.beq k 215) (A_R_isWord av s) (cbr (Nat.beq k 214) (A_R_errs av s) (cbr (Nat.beq k 234) (A_R_readOrder av s) (none)))
set_option maxRecDepth 100000 in
theorem e_R_readOrders_2  (n : Nat) (x1 : Int32) (s : Mem) : F_R_readOrders_2 (n + 1) x1 s = xs C_R_readOrders (fun k ls s => cbr (Nat.beq k 0) (A_R_readOrders_2 (F_R_readOrders_2 n) ls s) (none)) 0 (fun _ => 0) K_R_readOrders 700 (K_R_readOrders.drop 3) [some (.ref 123), some (.int x1)] [] s := rfl
set_option maxRecDepth 100000 in
theorem e_R_readOrders  (s : Mem) : F_R_readOrders s = xs C_R_readOrders (fun k ls s => cbr (Nat.beq k 0) (A_R_readOrders_2 (F_R_readOrders_2 gF) ls s) (none)) 0 (fun _ => 0) K_R_readOrders 700 K_R_readOrders [some (.ref 123), none] [] s := rfl
def K_R_readVisit : MC := [(0, .aload 0, 0), (1, .getstatic 1136, 0), (4, .iload 1, 0), (5, .aload 0, 0), (6, .iconst 0, 18), (8, .lconst 0, 0), (9, .iconst 0, 999), (12, .invokeinterface 231 196, 0), (15, .iastore, 0), (16, .aload 0, 0), (17, .getstatic 1136, 0), (20, .iload 1, 0), (21, .iaload, 0), (22, .iconst 0, (-1)), (23, .if_icmp .ne 17, 0), (26, .iconst 0, (-1)), (27, .ireturn, 0), (28, .aload 0, 0), (29, .getstatic 1136, 0), (32, .iload 1, 0), (33, .lconst 1, 0), (34, .iadd, 0), (35, .aload 0, 0), (36, .iconst 0, 19), (38, .lconst 0, 0), (39, .aload 0, 0), (40, .getfield 1106, 0), (43, .lconst 1, 0), (44, .isub, 0), (45, .invokeinterface 231 196, 0), (48, .iastore, 0), (49, .aload 0, 0), (50, .getstatic 1136, 0), (53, .iload 1, 0), (54, .lconst 1, 0), (55, .iadd, 0), (56, .iaload, 0), (57, .iconst 0, (-1)), (58, .if_icmp .ne 41, 0), (61, .iconst 0, (-1)), (62, .ireturn, 0), (63, .aload 0, 0), (64, .iconst 0, 27), (66, .invokeinterface 215 194, 0), (69, .ifCond .ne 53, 0), (72, .aload 0, 0), (73, .iconst 0, 28), (75, .invokeinterface 215 194, 0), (78, .ifCond .ne 53, 0), (81, .aload 0, 0), (82, .lconst 1, 0), (83, .invokeinterface 214 194, 0), (86, .ireturn, 0), (87, .aload 0, 0), (88, .getstatic 1136, 0), (91, .iload 1, 0), (92, .iconst 0, 2), (93, .iadd, 0), (94, .aload 0, 0), (95, .iconst 0, 27), (97, .invokeinterface 215 194, 0), (100, .ifCond .eq 64, 0), (103, .lconst 1, 0), (104, .goto 65, 0), (107, .lconst 0, 0), (108, .iastore, 0), (109, .aload 0, 0), (110, .multianewarray 213 193, 0), (113, .aload 0, 0), (114, .getstatic 1136, 0), (117, .iload 1, 0), (118, .iconst 0, 3), (119, .iadd, 0), (120, .aload 0, 0), (121, .iconst 0, 7), (123, .lconst 1, 0), (124, .iconst 0, 200), (127, .invokeinterface 231 196, 0), (130, .iastore, 0), (131, .aload 0, 0), (132, .getstatic 1136, 0), (135, .iload 1, 0), (136, .iconst 0, 3), (137, .iadd, 0), (138, .iaload, 0), (139, .iconst 0, (-1)), (140, .if_icmp .ne 89, 0), (143, .iconst 0, (-1)), (144, .ireturn, 0), (145, .aload 0, 0), (146, .getstatic 1136, 0), (149, .iload 1, 0), (150, .iconst 0, 4), (151, .iadd, 0), (152, .aload 0, 0), (153, .iconst 0, 16), (155, .lconst 1, 0), (156, .iconst 0, 5), (157, .invokeinterface 231 196, 0), (160, .iastore, 0), (161, .aload 0, 0), (162, .getstatic 1136, 0), (165, .iload 1, 0), (166, .iconst 0, 4), (167, .iadd, 0), (168, .iaload, 0), (169, .iconst 0, (-1)), (170, .if_icmp .ne 110, 0), (173, .iconst 0, (-1)), (174, .goto 113, 0), (177, .aload 0, 0), (178, .iconst 0, 59), (180, .invokeinterface 230 194, 0), (183, .ireturn, 0)]
noncomputable def F_R_readVisit (x1 : Int32) (s : Mem) : Option (Int32 × Mem) :=
  (F_R_readTold 18 0 999 s).bind fun z1 =>
  (sd z1.2 141 x1 z1.1).bind fun s2 =>
  (ld s2 141 x1).bind fun v3 =>
  if v3 = (-1) then
    some ((-1), s2)
  else
  (F_R_readTold 19 0 ((s2 123 6) - 1) s2).bind fun z4 =>
  (sd z4.2 141 (x1 + 1) z4.1).bind fun s5 =>
  (ld s5 141 (x1 + 1)).bind fun v6 =>
  if v6 = (-1) then
    some ((-1), s5)
  else
  (F_R_isWord 27 s5).bind fun z7 =>
  if z7.1 = 0 then
    (F_R_isWord 28 z7.2).bind fun z8 =>
    if z8.1 = 0 then
      (F_R_errs 1 z8.2).bind fun z9 =>
      some (z9.1, z9.2)
    else
    (F_R_isWord 27 z8.2).bind fun z10 =>
    if z10.1 = 0 then
      (sd z10.2 141 (x1 + 2) 0).bind fun s11 =>
      (F_R_reads s11).bind fun z12 =>
      (F_R_readTold 7 1 200 z12.2).bind fun z13 =>
      (sd z13.2 141 (x1 + 3) z13.1).bind fun s14 =>
      (ld s14 141 (x1 + 3)).bind fun v15 =>
      if v15 = (-1) then
        some ((-1), s14)
      else
      (F_R_readTold 16 1 5 s14).bind fun z16 =>
      (sd z16.2 141 (x1 + 4) z16.1).bind fun s17 =>
      (ld s17 141 (x1 + 4)).bind fun v18 =>
      if v18 = (-1) then
        some ((-1), s17)
      else
      (F_R_readMark 59 s17).bind fun z19 =>
      some (z19.1, z19.2)
    else
    (sd z10.2 141 (x1 + 2) 1).bind fun s20 =>
    (F_R_reads s20).bind fun z21 =>
    (F_R_readTold 7 1 200 z21.2).bind fun z22 =>
    (sd z22.2 141 (x1 + 3) z22.1).bind fun s23 =>
    (ld s23 141 (x1 + 3)).bind fun v24 =>
    if v24 = (-1) then
      some ((-1), s23)
    else
    (F_R_readTold 16 1 5 s23).bind fun z25 =>
    (sd z25.2 141 (x1 + 4) z25.1).bind fun s26 =>
    (ld s26 141 (x1 + 4)).bind fun v27 =>
    if v27 = (-1) then
      some ((-1), s26)
    else
    (F_R_readMark 59 s26).bind fun z28 =>
    some (z28.1, z28.2)
  else
  (F_R_isWord 27 z7.2).bind fun z29 =>
  if z29.1 = 0 then
    (sd z29.2 141 (x1 + 2) 0).bind fun s30 =>
    (F_R_reads s30).bind fun z31 =>
    (F_R_readTold 7 1 200 z31.2).bind fun z32 =>
    (sd z32.2 141 (x1 + 3) z32.1).bind fun s33 =>
    (ld s33 141 (x1 + 3)).bind fun v34 =>
    if v34 = (-1) then
      some ((-1), s33)
    else
    (F_R_readTold 16 1 5 s33).bind fun z35 =>
    (sd z35.2 141 (x1 + 4) z35.1).bind fun s36 =>
    (ld s36 141 (x1 + 4)).bind fun v37 =>
    if v37 = (-1) then
      some ((-1), s36)
    else
    (F_R_readMark 59 s36).bind fun z38 =>
    some (z38.1, z38.2)
  else
  (sd z29.2 141 (x1 + 2) 1).bind fun s39 =>
  (F_R_reads s39).bind fun z40 =>
  (F_R_readTold 7 1 200 z40.2).bind fun z41 =>
  (sd z41.2 141 (x1 + 3) z41.1).bind fun s42 =>
  (ld s42 141 (x1 + 3)).bind fun v43 =>
  if v43 = (-1) then
    some ((-1), s42)
  else
  (F_R_readTold 16 1 5 s42).bind fun z44 =>
  (sd z44.2 141 (x1 + 4) z44.1).bind fun s45 =>
  (ld s45 141 (x1 + 4)).bind fun v46 =>
  if v46 = (-1) then
    some ((-1), s45)
  else
  (F_R_readMark 59 s45).bind fun z47 =>
  some (z47.1, z47.2)
noncomputable def A_R_readVisit (av : List Value) (s : Mem) : Option (Int32 × Mem) := match av with
  | [.ref a0, .int a1] => cbr (Nat.beq a0 123) (F_R_readVisit a1 s) none
  | _ => none
noncomputable def C_R_readVisit (k : Nat) (av : List Value) (s : Mem) : Option (Int32 × Mem) := cbr (Nat.beq k 231) (A_R_readTold av s) (cbr (Nat.beq k 215) (A_R_isWord av s) (cbr (Nat.beq k 214) (A_R_errs av s) (cbr (Nat.beq k 213) (A_R_reads av s) (cbr (Nat.beq k 230) (A_R_readMark av s) (none)))))
set_option maxRecDepth 100000 in
theorem e_R_readVisit (x1 : Int32) (s : Mem) : F_R_readVisit x1 s = xs C_R_readVisit (fun k ls s => none) 0 (fun _ => 0) K_R_readVisit 700 K_R_readVisit [some (.ref 123), some (.int x1)] [] s := rfl
def K_R_readVisits : MC := [(0, .lconst 0, 0), (1, .istore 1, 0), (2, .ret 0, 0), (2, .aload 0, 0), (3, .iconst 0, 18), (5, .invokeinterface 215 194, 0), (8, .ifCond .eq 30, 0), (11, .iload 1, 0), (12, .iconst 0, 16), (14, .if_icmp .ne 14, 0), (17, .aload 0, 0), (18, .iconst 0, 3), (19, .invokeinterface 214 194, 0), (22, .ireturn, 0), (23, .aload 0, 0), (24, .iconst 0, 80), (26, .iconst 0, 5), (27, .iload 1, 0), (28, .imul, 0), (29, .iadd, 0), (30, .invokeinterface 236 194, 0), (33, .iconst 0, (-1)), (34, .if_icmp .ne 25, 0), (37, .iconst 0, (-1)), (38, .ireturn, 0), (39, .iload 1, 0), (40, .lconst 1, 0), (41, .iadd, 0), (42, .istore 1, 0), (43, .goto 2, 0), (46, .aload 0, 0), (47, .getfield 1114, 0), (50, .ifCond .ne 35, 0), (53, .iload 1, 0), (54, .goto 38, 0), (57, .aload 0, 0), (58, .lconst 1, 0), (59, .invokeinterface 214 194, 0), (62, .ireturn, 0)]
noncomputable def F_R_readVisits_2 : Nat → Int32 → Mem → Option (Int32 × Mem)
  | 0, _, _ => none
  | n + 1, x1, s =>
    (F_R_isWord 18 s).bind fun z1 =>
    if z1.1 = 0 then
      if (z1.2 123 14) = 0 then
        some (x1, z1.2)
      else
      (F_R_errs 1 z1.2).bind fun z2 =>
      some (z2.1, z2.2)
    else
    if x1 = 16 then
      (F_R_errs 3 z1.2).bind fun z3 =>
      some (z3.1, z3.2)
    else
    (F_R_readVisit (80 + (5 * x1)) z1.2).bind fun z4 =>
    if z4.1 = (-1) then
      some ((-1), z4.2)
    else
    F_R_readVisits_2 n (x1 + 1) z4.2
noncomputable def F_R_readVisits  (s : Mem) : Option (Int32 × Mem) :=
  F_R_readVisits_2 gF 0 s
def A_R_readVisits_2 (f : Int32 → Mem → Option (Int32 × Mem)) (ls : List (Option Value)) (s : Mem) : Option (Int32 × Mem) := match lk ls 0, lk ls 1 with
  | some (.ref a0), some (.int a1) => cbr (Nat.beq a0 123) (f a1 s) none
  | _, _ => none
noncomputable def A_R_readVisits (av : List Value) (s : Mem) : Option (Int32 × Mem) := match av with
  | [.ref a0] => cbr (Nat.beq a0 123) (F_R_readVisits s) none
  | _ => none
noncomputable def C_R_readVisits (k : Nat) (av : List Value) (s : Mem) : Option (Int32 × Mem) := cbr (Nat.beq k 215) (A_R_isWord av s) (cbr (Nat.beq k 214) (A_R_errs av s) (cbr (Nat.beq k 236) (A_R_readVisit av s) (none)))
set_option maxRecDepth 100000 in
theorem e_R_readVisits_2  (n : Nat) (x1 : Int32) (s : Mem) : F_R_readVisits_2 (n + 1) x1 s = xs C_R_readVisits (fun k ls s => cbr (Nat.beq k 0) (A_R_readVisits_2 (F_R_readVisits_2 n) ls s) (none)) 0 (fun _ => 0) K_R_readVisits 700 (K_R_readVisits.drop 3) [some (.ref 123), some (.int x1)] [] s := rfl
set_option maxRecDepth 100000 in
theorem e_R_readVisits  (s : Mem) : F_R_readVisits s = xs C_R_readVisits (fun k ls s => cbr (Nat.beq k 0) (A_R_readVisits_2 (F_R_readVisits_2 gF) ls s) (none)) 0 (fun _ => 0) K_R_readVisits 700 K_R_readVisits [some (.ref 123), none] [] s := rfl
def K_R_readDoor : MC := [(0, .aload 0, 0), (1, .iconst 0, 19), (3, .lconst 0, 0), (4, .aload 0, 0), (5, .getfield 1106, 0), (8, .lconst 1, 0), (9, .isub, 0), (10, .invokeinterface 231 196, 0), (13, .istore 2, 0), (14, .iload 2, 0), (15, .iconst 0, (-1)), (16, .if_icmp .ne 14, 0), (19, .iconst 0, (-1)), (20, .ireturn, 0), (21, .aload 0, 0), (22, .getstatic 1138, 0), (25, .iload 1, 0), (26, .aload 0, 0), (27, .iload 2, 0), (28, .invokeinterface 232 194, 0), (31, .iastore, 0), (32, .aload 0, 0), (33, .getstatic 1138, 0), (36, .iload 1, 0), (37, .iaload, 0), (38, .iconst 0, (-1)), (39, .if_icmp .ne 29, 0), (42, .iconst 0, (-1)), (43, .ireturn, 0), (44, .aload 0, 0), (45, .iconst 0, 29), (47, .invokeinterface 215 194, 0), (50, .ifCond .ne 37, 0), (53, .aload 0, 0), (54, .lconst 1, 0), (55, .invokeinterface 214 194, 0), (58, .ireturn, 0), (59, .aload 0, 0), (60, .multianewarray 213 193, 0), (63, .aload 0, 0), (64, .getfield 1114, 0), (67, .iconst 0, 3), (68, .if_icmp .ne 51, 0), (71, .aload 0, 0), (72, .getfield 1115, 0), (75, .iload 2, 0), (76, .if_icmp .ne 51, 0), (79, .aload 0, 0), (80, .iconst 0, 2), (81, .invokeinterface 214 194, 0), (84, .ireturn, 0), (85, .aload 0, 0), (86, .lconst 0, 0), (87, .aload 0, 0), (88, .getfield 1106, 0), (91, .lconst 1, 0), (92, .isub, 0), (93, .invokeinterface 229 195, 0), (96, .istore 3, 0), (97, .iload 3, 0), (98, .iconst 0, (-1)), (99, .if_icmp .ne 64, 0), (102, .iconst 0, (-1)), (103, .ireturn, 0), (104, .aload 0, 0), (105, .getstatic 1138, 0), (108, .iload 1, 0), (109, .lconst 1, 0), (110, .iadd, 0), (111, .aload 0, 0), (112, .iload 3, 0), (113, .invokeinterface 232 194, 0), (116, .iastore, 0), (117, .aload 0, 0), (118, .getstatic 1138, 0), (121, .iload 1, 0), (122, .lconst 1, 0), (123, .iadd, 0), (124, .iaload, 0), (125, .iconst 0, (-1)), (126, .if_icmp .ne 83, 0), (129, .iconst 0, (-1)), (130, .goto 86, 0), (133, .aload 0, 0), (134, .iconst 0, 59), (136, .invokeinterface 230 194, 0), (139, .ireturn, 0)]
noncomputable def F_R_readDoor (x1 : Int32) (s : Mem) : Option (Int32 × Mem) :=
  (F_R_readTold 19 0 ((s 123 6) - 1) s).bind fun z1 =>
  if z1.1 = (-1) then
    some ((-1), z1.2)
  else
  (F_R_readStep z1.1 z1.2).bind fun z2 =>
  (sd z2.2 142 x1 z2.1).bind fun s3 =>
  (ld s3 142 x1).bind fun v4 =>
  if v4 = (-1) then
    some ((-1), s3)
  else
  (F_R_isWord 29 s3).bind fun z5 =>
  if z5.1 = 0 then
    (F_R_errs 1 z5.2).bind fun z6 =>
    some (z6.1, z6.2)
  else
  (F_R_reads z5.2).bind fun z7 =>
  if (z7.2 123 14) = 3 then
    if (z7.2 123 15) = z1.1 then
      (F_R_errs 2 z7.2).bind fun z8 =>
      some (z8.1, z8.2)
    else
    (F_R_readNumber 0 ((z7.2 123 6) - 1) z7.2).bind fun z9 =>
    if z9.1 = (-1) then
      some ((-1), z9.2)
    else
    (F_R_readStep z9.1 z9.2).bind fun z10 =>
    (sd z10.2 142 (x1 + 1) z10.1).bind fun s11 =>
    (ld s11 142 (x1 + 1)).bind fun v12 =>
    if v12 = (-1) then
      some ((-1), s11)
    else
    (F_R_readMark 59 s11).bind fun z13 =>
    some (z13.1, z13.2)
  else
  (F_R_readNumber 0 ((z7.2 123 6) - 1) z7.2).bind fun z14 =>
  if z14.1 = (-1) then
    some ((-1), z14.2)
  else
  (F_R_readStep z14.1 z14.2).bind fun z15 =>
  (sd z15.2 142 (x1 + 1) z15.1).bind fun s16 =>
  (ld s16 142 (x1 + 1)).bind fun v17 =>
  if v17 = (-1) then
    some ((-1), s16)
  else
  (F_R_readMark 59 s16).bind fun z18 =>
  some (z18.1, z18.2)
noncomputable def A_R_readDoor (av : List Value) (s : Mem) : Option (Int32 × Mem) := match av with
  | [.ref a0, .int a1] => cbr (Nat.beq a0 123) (F_R_readDoor a1 s) none
  | _ => none
noncomputable def C_R_readDoor (k : Nat) (av : List Value) (s : Mem) : Option (Int32 × Mem) := cbr (Nat.beq k 231) (A_R_readTold av s) (cbr (Nat.beq k 232) (A_R_readStep av s) (cbr (Nat.beq k 215) (A_R_isWord av s) (cbr (Nat.beq k 214) (A_R_errs av s) (cbr (Nat.beq k 213) (A_R_reads av s) (cbr (Nat.beq k 229) (A_R_readNumber av s) (cbr (Nat.beq k 230) (A_R_readMark av s) (none)))))))
set_option maxRecDepth 100000 in
theorem e_R_readDoor (x1 : Int32) (s : Mem) : F_R_readDoor x1 s = xs C_R_readDoor (fun k ls s => none) 0 (fun _ => 0) K_R_readDoor 700 K_R_readDoor [some (.ref 123), some (.int x1), none, none] [] s := rfl
def K_R_readDoors : MC := [(0, .lconst 0, 0), (1, .istore 1, 0), (2, .ret 0, 0), (2, .aload 0, 0), (3, .iconst 0, 19), (5, .invokeinterface 215 194, 0), (8, .ifCond .eq 30, 0), (11, .iload 1, 0), (12, .iconst 0, 16), (14, .if_icmp .ne 14, 0), (17, .aload 0, 0), (18, .iconst 0, 3), (19, .invokeinterface 214 194, 0), (22, .ireturn, 0), (23, .aload 0, 0), (24, .iconst 0, 32), (26, .iconst 0, 2), (27, .iload 1, 0), (28, .imul, 0), (29, .iadd, 0), (30, .invokeinterface 238 194, 0), (33, .iconst 0, (-1)), (34, .if_icmp .ne 25, 0), (37, .iconst 0, (-1)), (38, .ireturn, 0), (39, .iload 1, 0), (40, .lconst 1, 0), (41, .iadd, 0), (42, .istore 1, 0), (43, .goto 2, 0), (46, .aload 0, 0), (47, .getfield 1114, 0), (50, .ifCond .ne 35, 0), (53, .iload 1, 0), (54, .goto 38, 0), (57, .aload 0, 0), (58, .lconst 1, 0), (59, .invokeinterface 214 194, 0), (62, .ireturn, 0)]
noncomputable def F_R_readDoors_2 : Nat → Int32 → Mem → Option (Int32 × Mem)
  | 0, _, _ => none
  | n + 1, x1, s =>
    (F_R_isWord 19 s).bind fun z1 =>
    if z1.1 = 0 then
      if (z1.2 123 14) = 0 then
        some (x1, z1.2)
      else
      (F_R_errs 1 z1.2).bind fun z2 =>
      some (z2.1, z2.2)
    else
    if x1 = 16 then
      (F_R_errs 3 z1.2).bind fun z3 =>
      some (z3.1, z3.2)
    else
    (F_R_readDoor (32 + (2 * x1)) z1.2).bind fun z4 =>
    if z4.1 = (-1) then
      some ((-1), z4.2)
    else
    F_R_readDoors_2 n (x1 + 1) z4.2
noncomputable def F_R_readDoors  (s : Mem) : Option (Int32 × Mem) :=
  F_R_readDoors_2 gF 0 s
def A_R_readDoors_2 (f : Int32 → Mem → Option (Int32 × Mem)) (ls : List (Option Value)) (s : Mem) : Option (Int32 × Mem) := match lk ls 0, lk ls 1 with
  | some (.ref a0), some (.int a1) => cbr (Nat.beq a0 123) (f a1 s) none
  | _, _ => none
noncomputable def A_R_readDoors (av : List Value) (s : Mem) : Option (Int32 × Mem) := match av with
  | [.ref a0] => cbr (Nat.beq a0 123) (F_R_readDoors s) none
  | _ => none
noncomputable def C_R_readDoors (k : Nat) (av : List Value) (s : Mem) : Option (Int32 × Mem) := cbr (Nat.beq k 215) (A_R_isWord av s) (cbr (Nat.beq k 214) (A_R_errs av s) (cbr (Nat.beq k 238) (A_R_readDoor av s) (none)))
set_option maxRecDepth 100000 in
theorem e_R_readDoors_2  (n : Nat) (x1 : Int32) (s : Mem) : F_R_readDoors_2 (n + 1) x1 s = xs C_R_readDoors (fun k ls s => cbr (Nat.beq k 0) (A_R_readDoors_2 (F_R_readDoors_2 n) ls s) (none)) 0 (fun _ => 0) K_R_readDoors 700 (K_R_readDoors.drop 3) [some (.ref 123), some (.int x1)] [] s := rfl
set_option maxRecDepth 100000 in
theorem e_R_readDoors  (s : Mem) : F_R_readDoors s = xs C_R_readDoors (fun k ls s => cbr (Nat.beq k 0) (A_R_readDoors_2 (F_R_readDoors_2 gF) ls s) (none)) 0 (fun _ => 0) K_R_readDoors 700 K_R_readDoors [some (.ref 123), none] [] s := rfl
def K_R_readsText : MC := [(0, .aload 0, 0), (1, .lconst 0, 0), (2, .putfield 1124, 0), (5, .aload 0, 0), (6, .multianewarray 213 193, 0), (9, .iload 1, 0), (10, .lconst 1, 0), (11, .if_icmp .ne 11, 0), (14, .aload 0, 0), (15, .invokeinterface 235 193, 0), (18, .ireturn, 0), (19, .iload 1, 0), (20, .iconst 0, 2), (21, .if_icmp .ne 17, 0), (24, .aload 0, 0), (25, .invokeinterface 237 193, 0), (28, .ireturn, 0), (29, .iload 1, 0), (30, .iconst 0, 3), (31, .if_icmp .ne 23, 0), (34, .aload 0, 0), (35, .invokeinterface 239 193, 0), (38, .goto 25, 0), (41, .aload 0, 0), (42, .invokeinterface 227 193, 0), (45, .ireturn, 0)]
noncomputable def F_R_readsText (x1 : Int32) (s : Mem) : Option (Int32 × Mem) :=
  let s1 : Mem := mw s 123 24 0
  (F_R_reads s1).bind fun z2 =>
  if x1 = 1 then
    (F_R_readOrders z2.2).bind fun z3 =>
    some (z3.1, z3.2)
  else
  if x1 = 2 then
    (F_R_readVisits z2.2).bind fun z4 =>
    some (z4.1, z4.2)
  else
  if x1 = 3 then
    (F_R_readDoors z2.2).bind fun z5 =>
    some (z5.1, z5.2)
  else
  (F_R_readLaw z2.2).bind fun z6 =>
  some (z6.1, z6.2)
noncomputable def A_R_readsText (av : List Value) (s : Mem) : Option (Int32 × Mem) := match av with
  | [.ref a0, .int a1] => cbr (Nat.beq a0 123) (F_R_readsText a1 s) none
  | _ => none
noncomputable def C_R_readsText (k : Nat) (av : List Value) (s : Mem) : Option (Int32 × Mem) := cbr (Nat.beq k 213) (A_R_reads av s) (cbr (Nat.beq k 235) (A_R_readOrders av s) (cbr (Nat.beq k 237) (A_R_readVisits av s) (cbr (Nat.beq k 239) (A_R_readDoors av s) (cbr (Nat.beq k 227) (A_R_readLaw av s) (none)))))
set_option maxRecDepth 100000 in
theorem e_R_readsText (x1 : Int32) (s : Mem) : F_R_readsText x1 s = xs C_R_readsText (fun k ls s => none) 0 (fun _ => 0) K_R_readsText 700 K_R_readsText [some (.ref 123), some (.int x1)] [] s := rfl
def K_R_takesOther : MC := [(0, .iload 1, 0), (1, .iconst 0, 3), (2, .if_icmp .ne 27, 0), (5, .lconst 0, 0), (6, .istore 3, 0), (7, .ret 0, 0), (7, .iload 3, 0), (8, .iconst 0, 2), (9, .iload 2, 0), (10, .imul, 0), (11, .if_icmp .ge 23, 0), (14, .aload 0, 0), (15, .getstatic 1138, 0), (18, .iload 3, 0), (19, .aload 0, 0), (20, .getstatic 1138, 0), (23, .iconst 0, 32), (25, .iload 3, 0), (26, .iadd, 0), (27, .iaload, 0), (28, .iastore, 0), (29, .iinc 3 0, 1), (32, .goto 5, 0), (35, .aload 0, 0), (36, .iload 2, 0), (37, .putfield 1137, 0), (40, .return_, 0), (41, .iload 1, 0), (42, .lconst 1, 0), (43, .if_icmp .ne 54, 0), (46, .lconst 0, 0), (47, .istore 3, 0), (48, .ret 1, 0), (48, .iload 3, 0), (49, .iconst 0, 3), (50, .iload 2, 0), (51, .imul, 0), (52, .if_icmp .ge 50, 0), (55, .aload 0, 0), (56, .getstatic 1134, 0), (59, .iload 3, 0), (60, .aload 0, 0), (61, .getstatic 1134, 0), (64, .iconst 0, 48), (66, .iload 3, 0), (67, .iadd, 0), (68, .iaload, 0), (69, .iastore, 0), (70, .iinc 3 0, 1), (73, .goto 32, 0), (76, .aload 0, 0), (77, .iload 2, 0), (78, .putfield 1133, 0), (81, .goto 77, 0), (84, .lconst 0, 0), (85, .istore 3, 0), (86, .ret 2, 0), (86, .iload 3, 0), (87, .iconst 0, 5), (88, .iload 2, 0), (89, .imul, 0), (90, .if_icmp .ge 74, 0), (93, .aload 0, 0), (94, .getstatic 1136, 0), (97, .iload 3, 0), (98, .aload 0, 0), (99, .getstatic 1136, 0), (102, .iconst 0, 80), (104, .iload 3, 0), (105, .iadd, 0), (106, .iaload, 0), (107, .iastore, 0), (108, .iinc 3 0, 1), (111, .goto 56, 0), (114, .aload 0, 0), (115, .iload 2, 0), (116, .putfield 1135, 0), (119, .aload 0, 0), (120, .lconst 0, 0), (121, .putfield 1103, 0), (124, .return_, 0)]
noncomputable def F_R_takesOther_5 : Nat → Int32 → Int32 → Mem → Option (Int32 × Mem)
  | 0, _, _, _ => none
  | n + 1, x2, x3, s =>
    if (2 * x2) ≤ x3 then
      let s1 : Mem := mw s 123 37 x2
      some (0, s1)
    else
    (ld s 142 (32 + x3)).bind fun v2 =>
    (sd s 142 x3 v2).bind fun s3 =>
    F_R_takesOther_5 n x2 (x3 + 1) s3
noncomputable def F_R_takesOther_31 : Nat → Int32 → Int32 → Mem → Option (Int32 × Mem)
  | 0, _, _, _ => none
  | n + 1, x2, x3, s =>
    if (3 * x2) ≤ x3 then
      let s1 : Mem := mw s 123 33 x2
      let s2 : Mem := mw s1 123 3 0
      some (0, s2)
    else
    (ld s 140 (48 + x3)).bind fun v3 =>
    (sd s 140 x3 v3).bind fun s4 =>
    F_R_takesOther_31 n x2 (x3 + 1) s4
noncomputable def F_R_takesOther_54 : Nat → Int32 → Int32 → Mem → Option (Int32 × Mem)
  | 0, _, _, _ => none
  | n + 1, x2, x3, s =>
    if (5 * x2) ≤ x3 then
      let s1 : Mem := mw s 123 35 x2
      let s2 : Mem := mw s1 123 3 0
      some (0, s2)
    else
    (ld s 141 (80 + x3)).bind fun v3 =>
    (sd s 141 x3 v3).bind fun s4 =>
    F_R_takesOther_54 n x2 (x3 + 1) s4
noncomputable def F_R_takesOther (x1 : Int32) (x2 : Int32) (s : Mem) : Option (Int32 × Mem) :=
  if x1 = 3 then
    F_R_takesOther_5 gF x2 0 s
  else
  if x1 = 1 then
    F_R_takesOther_31 gF x2 0 s
  else
  F_R_takesOther_54 gF x2 0 s
def A_R_takesOther_5 (f : Int32 → Int32 → Mem → Option (Int32 × Mem)) (ls : List (Option Value)) (s : Mem) : Option (Int32 × Mem) := match lk ls 0, lk ls 2, lk ls 3 with
  | some (.ref a0), some (.int a1), some (.int a2) => cbr (Nat.beq a0 123) (f a1 a2 s) none
  | _, _, _ => none
def A_R_takesOther_31 (f : Int32 → Int32 → Mem → Option (Int32 × Mem)) (ls : List (Option Value)) (s : Mem) : Option (Int32 × Mem) := match lk ls 0, lk ls 2, lk ls 3 with
  | some (.ref a0), some (.int a1), some (.int a2) => cbr (Nat.beq a0 123) (f a1 a2 s) none
  | _, _, _ => none
def A_R_takesOther_54 (f : Int32 → Int32 → Mem → Option (Int32 × Mem)) (ls : List (Option Value)) (s : Mem) : Option (Int32 × Mem) := match lk ls 0, lk ls 2, lk ls 3 with
  | some (.ref a0), some (.int a1), some (.int a2) => cbr (Nat.beq a0 123) (f a1 a2 s) none
  | _, _, _ => none
noncomputable def A_R_takesOther (av : List Value) (s : Mem) : Option (Int32 × Mem) := match av with
  | [.ref a0, .int a1, .int a2] => cbr (Nat.beq a0 123) (F_R_takesOther a1 a2 s) none
  | _ => none
noncomputable def C_R_takesOther (k : Nat) (av : List Value) (s : Mem) : Option (Int32 × Mem) := none
set_option maxRecDepth 100000 in
theorem e_R_takesOther_5  (n : Nat) (x2 : Int32) (x3 : Int32) (s : Mem) : F_R_takesOther_5 (n + 1) x2 x3 s = xs C_R_takesOther (fun k ls s => cbr (Nat.beq k 0) (A_R_takesOther_5 (F_R_takesOther_5 n) ls s) (none)) 0 (fun _ => 0) K_R_takesOther 700 (K_R_takesOther.drop 6) [some (.ref 123), none, some (.int x2), some (.int x3)] [] s := rfl
set_option maxRecDepth 100000 in
theorem e_R_takesOther_31  (n : Nat) (x2 : Int32) (x3 : Int32) (s : Mem) : F_R_takesOther_31 (n + 1) x2 x3 s = xs C_R_takesOther (fun k ls s => cbr (Nat.beq k 1) (A_R_takesOther_31 (F_R_takesOther_31 n) ls s) (none)) 0 (fun _ => 0) K_R_takesOther 700 (K_R_takesOther.drop 33) [some (.ref 123), none, some (.int x2), some (.int x3)] [] s := rfl
set_option maxRecDepth 100000 in
theorem e_R_takesOther_54  (n : Nat) (x2 : Int32) (x3 : Int32) (s : Mem) : F_R_takesOther_54 (n + 1) x2 x3 s = xs C_R_takesOther (fun k ls s => cbr (Nat.beq k 2) (A_R_takesOther_54 (F_R_takesOther_54 n) ls s) (none)) 0 (fun _ => 0) K_R_takesOther 700 (K_R_takesOther.drop 57) [some (.ref 123), none, some (.int x2), some (.int x3)] [] s := rfl
set_option maxRecDepth 100000 in
theorem e_R_takesOther (x1 : Int32) (x2 : Int32) (s : Mem) : F_R_takesOther x1 x2 s = xs C_R_takesOther (fun k ls s => cbr (Nat.beq k 0) (A_R_takesOther_5 (F_R_takesOther_5 gF) ls s) (cbr (Nat.beq k 1) (A_R_takesOther_31 (F_R_takesOther_31 gF) ls s) (cbr (Nat.beq k 2) (A_R_takesOther_54 (F_R_takesOther_54 gF) ls s) (none)))) 0 (fun _ => 0) K_R_takesOther 700 K_R_takesOther [some (.ref 123), some (.int x1), some (.int x2), none] [] s := rfl
def K_R_text : MC := [(0, .aload 0, 0), (1, .lconst 0, 0), (2, .putfield 1100, 0), (5, .aload 0, 0), (6, .lconst 0, 0), (7, .putfield 1131, 0), (10, .aload 0, 0), (11, .iconst 0, (-1)), (12, .putfield 1132, 0), (15, .aload 0, 0), (16, .lconst 0, 0), (17, .putfield 1112, 0), (20, .aload 0, 0), (21, .lconst 0, 0), (22, .putfield 1125, 0), (25, .aload 0, 0), (26, .lconst 0, 0), (27, .putfield 1126, 0), (30, .iconst 0, (-1)), (31, .istore 2, 0), (32, .aload 0, 0), (33, .iload 1, 0), (34, .lconst 0, 0), (35, .iconst 0, 3), (36, .invokeinterface 187 196, 0), (39, .ifCond .eq 41, 0), (42, .aload 0, 0), (43, .iload 1, 0), (44, .invokeinterface 240 194, 0), (47, .istore 2, 0), (48, .iload 2, 0), (49, .iconst 0, (-1)), (50, .if_icmp .ne 41, 0), (53, .aload 0, 0), (54, .aload 0, 0), (55, .getfield 1129, 0), (58, .putfield 1131, 0), (61, .aload 0, 0), (62, .aload 0, 0), (63, .getfield 1130, 0), (66, .putfield 1132, 0), (69, .aload 0, 0), (70, .lconst 0, 0), (71, .putfield 1111, 0), (74, .iload 2, 0), (75, .iconst 0, (-1)), (76, .if_icmp .ne 49, 0), (79, .iconst 0, (-1)), (80, .ireturn, 0), (81, .iload 1, 0), (82, .ifCond .ne 55, 0), (85, .aload 0, 0), (86, .iload 2, 0), (87, .multianewarray 228 194, 0), (90, .goto 59, 0), (93, .aload 0, 0), (94, .iload 1, 0), (95, .iload 2, 0), (96, .multianewarray 241 195, 0), (99, .iload 2, 0), (100, .ireturn, 0)]
noncomputable def F_R_text (x1 : Int32) (s : Mem) : Option (Int32 × Mem) :=
  let s1 : Mem := mw s 123 0 0
  let s2 : Mem := mw s1 123 31 0
  let s3 : Mem := mw s2 123 32 (-1)
  let s4 : Mem := mw s3 123 12 0
  let s5 : Mem := mw s4 123 25 0
  let s6 : Mem := mw s5 123 26 0
  (F_R_isIn x1 0 3 s6).bind fun z7 =>
  if z7.1 = 0 then
    let s8 : Mem := mw z7.2 123 11 0
    if (-1) = (-1) then
      some ((-1), s8)
    else
    if x1 = 0 then
      (F_R_takesLaw (-1) s8).bind fun z9 =>
      some ((-1), z9.2)
    else
    (F_R_takesOther x1 (-1) s8).bind fun z10 =>
    some ((-1), z10.2)
  else
  (F_R_readsText x1 z7.2).bind fun z11 =>
  if z11.1 = (-1) then
    let s12 : Mem := mw z11.2 123 31 (z11.2 123 29)
    let s13 : Mem := mw s12 123 32 (s12 123 30)
    let s14 : Mem := mw s13 123 11 0
    if z11.1 = (-1) then
      some ((-1), s14)
    else
    if x1 = 0 then
      (F_R_takesLaw z11.1 s14).bind fun z15 =>
      some (z11.1, z15.2)
    else
    (F_R_takesOther x1 z11.1 s14).bind fun z16 =>
    some (z11.1, z16.2)
  else
  let s17 : Mem := mw z11.2 123 11 0
  if z11.1 = (-1) then
    some ((-1), s17)
  else
  if x1 = 0 then
    (F_R_takesLaw z11.1 s17).bind fun z18 =>
    some (z11.1, z18.2)
  else
  (F_R_takesOther x1 z11.1 s17).bind fun z19 =>
  some (z11.1, z19.2)
noncomputable def A_R_text (av : List Value) (s : Mem) : Option (Int32 × Mem) := match av with
  | [.ref a0, .int a1] => cbr (Nat.beq a0 123) (F_R_text a1 s) none
  | _ => none
noncomputable def C_R_text (k : Nat) (av : List Value) (s : Mem) : Option (Int32 × Mem) := cbr (Nat.beq k 187) (A_R_isIn av s) (cbr (Nat.beq k 228) (A_R_takesLaw av s) (cbr (Nat.beq k 241) (A_R_takesOther av s) (cbr (Nat.beq k 240) (A_R_readsText av s) (none))))
set_option maxRecDepth 100000 in
theorem e_R_text (x1 : Int32) (s : Mem) : F_R_text x1 s = xs C_R_text (fun k ls s => none) 0 (fun _ => 0) K_R_text 700 K_R_text [some (.ref 123), some (.int x1), none] [] s := rfl
def K_R_fault : MC := [(0, .aload 0, 0), (1, .lconst 0, 0), (2, .putfield 1100, 0), (5, .iload 1, 0), (6, .ifCond .ne 8, 0), (9, .aload 0, 0), (10, .getfield 1131, 0), (13, .goto 15, 0), (16, .iload 1, 0), (17, .lconst 1, 0), (18, .if_icmp .ne 14, 0), (21, .aload 0, 0), (22, .getfield 1132, 0), (25, .goto 15, 0), (28, .iconst 0, (-1)), (29, .ireturn, 0)]
noncomputable def F_R_fault (x1 : Int32) (s : Mem) : Option (Int32 × Mem) :=
  let s1 : Mem := mw s 123 0 0
  if x1 = 0 then
    some ((s1 123 31), s1)
  else
  if x1 = 1 then
    some ((s1 123 32), s1)
  else
  some ((-1), s1)
noncomputable def A_R_fault (av : List Value) (s : Mem) : Option (Int32 × Mem) := match av with
  | [.ref a0, .int a1] => cbr (Nat.beq a0 123) (F_R_fault a1 s) none
  | _ => none
noncomputable def C_R_fault (k : Nat) (av : List Value) (s : Mem) : Option (Int32 × Mem) := none
set_option maxRecDepth 100000 in
theorem e_R_fault (x1 : Int32) (s : Mem) : F_R_fault x1 s = xs C_R_fault (fun k ls s => none) 0 (fun _ => 0) K_R_fault 700 K_R_fault [some (.ref 123), some (.int x1)] [] s := rfl
def K_R_twoOf : MC := [(0, .iload 1, 0), (1, .iconst 0, 2), (2, .if_icmp .ne 7, 0), (5, .iload 2, 0), (6, .iload 3, 0), (7, .iadd, 0), (8, .ireturn, 0), (9, .iload 1, 0), (10, .iconst 0, 3), (11, .if_icmp .ne 14, 0), (14, .iload 2, 0), (15, .iload 3, 0), (16, .isub, 0), (17, .ireturn, 0), (18, .iload 1, 0), (19, .iconst 0, 4), (20, .if_icmp .ne 21, 0), (23, .iload 2, 0), (24, .iload 3, 0), (25, .imul, 0), (26, .ireturn, 0), (27, .iload 1, 0), (28, .iconst 0, 5), (29, .if_icmp .ne 28, 0), (32, .iload 2, 0), (33, .iload 3, 0), (34, .idiv, 0), (35, .ireturn, 0), (36, .iload 1, 0), (37, .iconst 0, 6), (39, .if_icmp .ne 38, 0), (42, .iload 2, 0), (43, .iload 3, 0), (44, .if_icmp .ge 36, 0), (47, .lconst 1, 0), (48, .goto 37, 0), (51, .lconst 0, 0), (52, .ireturn, 0), (53, .iload 1, 0), (54, .iconst 0, 7), (56, .if_icmp .ne 48, 0), (59, .iload 2, 0), (60, .iload 3, 0), (61, .if_icmp .ne 46, 0), (64, .lconst 1, 0), (65, .goto 47, 0), (68, .lconst 0, 0), (69, .ireturn, 0), (70, .iload 1, 0), (71, .iconst 0, 8), (73, .if_icmp .ne 58, 0), (76, .iload 2, 0), (77, .iload 3, 0), (78, .if_icmp .le 56, 0), (81, .lconst 1, 0), (82, .goto 57, 0), (85, .lconst 0, 0), (86, .ireturn, 0), (87, .iload 1, 0), (88, .iconst 0, 10), (90, .if_icmp .ne 65, 0), (93, .iload 2, 0), (94, .iload 3, 0), (95, .imul, 0), (96, .goto 72, 0), (99, .iload 2, 0), (100, .iload 3, 0), (101, .iadd, 0), (102, .ifCond .le 71, 0), (105, .lconst 1, 0), (106, .goto 72, 0), (109, .lconst 0, 0), (110, .ireturn, 0)]
noncomputable def F_R_twoOf (x1 : Int32) (x2 : Int32) (x3 : Int32) (s : Mem) : Option (Int32 × Mem) :=
  if x1 = 2 then
    some ((x2 + x3), s)
  else
  if x1 = 3 then
    some ((x2 - x3), s)
  else
  if x1 = 4 then
    some ((x2 * x3), s)
  else
  if x1 = 5 then
    if x3 = 0 then none else
    some ((x2 / x3), s)
  else
  if x1 = 6 then
    if x3 ≤ x2 then
      some (0, s)
    else
    some (1, s)
  else
  if x1 = 7 then
    if x2 = x3 then
      some (1, s)
    else
    some (0, s)
  else
  if x1 = 8 then
    if x2 ≤ x3 then
      some (0, s)
    else
    some (1, s)
  else
  if x1 = 10 then
    some ((x2 * x3), s)
  else
  if (x2 + x3) ≤ 0 then
    some (0, s)
  else
  some (1, s)
noncomputable def A_R_twoOf (av : List Value) (s : Mem) : Option (Int32 × Mem) := match av with
  | [.ref a0, .int a1, .int a2, .int a3] => cbr (Nat.beq a0 123) (F_R_twoOf a1 a2 a3 s) none
  | _ => none
noncomputable def C_R_twoOf (k : Nat) (av : List Value) (s : Mem) : Option (Int32 × Mem) := none
set_option maxRecDepth 100000 in
theorem e_R_twoOf (x1 : Int32) (x2 : Int32) (x3 : Int32) (s : Mem) : F_R_twoOf x1 x2 x3 s = xs C_R_twoOf (fun k ls s => none) 0 (fun _ => 0) K_R_twoOf 700 K_R_twoOf [some (.ref 123), some (.int x1), some (.int x2), some (.int x3)] [] s := rfl
def K_R_runs : MC := [(0, .lconst 0, 0), (1, .istore 4, 0), (3, .iconst 0, 400), (6, .iload 1, 0), (7, .imul, 0), (8, .iload 2, 0), (9, .iadd, 0), (10, .istore 5, 0), (12, .ret 0, 0), (12, .iload 5, 0), (14, .iconst 0, 400), (17, .iload 1, 0), (18, .imul, 0), (19, .iload 3, 0), (20, .iadd, 0), (21, .if_icmp .ge 102, 0), (24, .aload 0, 0), (25, .getstatic 1122, 0), (28, .iload 5, 0), (30, .iaload, 0), (31, .ifCond .eq 27, 0), (34, .aload 0, 0), (35, .getstatic 1122, 0), (38, .iload 5, 0), (40, .iaload, 0), (41, .lconst 1, 0), (42, .if_icmp .ne 53, 0), (45, .aload 0, 0), (46, .getstatic 1140, 0), (49, .iload 4, 0), (51, .aload 0, 0), (52, .getstatic 1122, 0), (55, .iload 5, 0), (57, .iaload, 0), (58, .ifCond .ne 40, 0), (61, .aload 0, 0), (62, .getstatic 1123, 0), (65, .iload 5, 0), (67, .iaload, 0), (68, .goto 47, 0), (71, .aload 0, 0), (72, .getstatic 1139, 0), (75, .aload 0, 0), (76, .getstatic 1123, 0), (79, .iload 5, 0), (81, .iaload, 0), (82, .iaload, 0), (83, .iastore, 0), (84, .iload 4, 0), (86, .lconst 1, 0), (87, .iadd, 0), (88, .istore 4, 0), (90, .goto 100, 0), (93, .aload 0, 0), (94, .getstatic 1122, 0), (97, .iload 5, 0), (99, .iaload, 0), (100, .iconst 0, 9), (102, .if_icmp .ne 74, 0), (105, .aload 0, 0), (106, .getstatic 1140, 0), (109, .iload 4, 0), (111, .lconst 1, 0), (112, .isub, 0), (113, .lconst 1, 0), (114, .aload 0, 0), (115, .getstatic 1140, 0), (118, .iload 4, 0), (120, .lconst 1, 0), (121, .isub, 0), (122, .iaload, 0), (123, .isub, 0), (124, .iastore, 0), (125, .goto 100, 0), (128, .iload 4, 0), (130, .lconst 1, 0), (131, .isub, 0), (132, .istore 4, 0), (134, .aload 0, 0), (135, .getstatic 1140, 0), (138, .iload 4, 0), (140, .lconst 1, 0), (141, .isub, 0), (142, .aload 0, 0), (143, .aload 0, 0), (144, .getstatic 1122, 0), (147, .iload 5, 0), (149, .iaload, 0), (150, .aload 0, 0), (151, .getstatic 1140, 0), (154, .iload 4, 0), (156, .lconst 1, 0), (157, .isub, 0), (158, .iaload, 0), (159, .aload 0, 0), (160, .getstatic 1140, 0), (163, .iload 4, 0), (165, .iaload, 0), (166, .invokeinterface 244 196, 0), (169, .iastore, 0), (170, .iinc 5 0, 1), (173, .goto 8, 0), (176, .aload 0, 0), (177, .getstatic 1140, 0), (180, .lconst 0, 0), (181, .iaload, 0), (182, .ireturn, 0)]
noncomputable def F_R_runs_8 : Nat → Int32 → Int32 → Int32 → Int32 → Mem → Option (Int32 × Mem)
  | 0, _, _, _, _, _ => none
  | n + 1, x1, x3, x4, x5, s =>
    if ((400 * x1) + x3) ≤ x5 then
      (ld s 144 0).bind fun v1 =>
      some (v1, s)
    else
    (ld s 137 x5).bind fun v2 =>
    if v2 = 0 then
      (ld s 137 x5).bind fun v3 =>
      if v3 = 0 then
        (ld s 138 x5).bind fun v4 =>
        (sd s 144 x4 v4).bind fun s5 =>
        F_R_runs_8 n x1 x3 (x4 + 1) (x5 + 1) s5
      else
      (ld s 138 x5).bind fun v6 =>
      (ld s 143 v6).bind fun v7 =>
      (sd s 144 x4 v7).bind fun s8 =>
      F_R_runs_8 n x1 x3 (x4 + 1) (x5 + 1) s8
    else
    (ld s 137 x5).bind fun v9 =>
    if v9 = 1 then
      (ld s 137 x5).bind fun v10 =>
      if v10 = 0 then
        (ld s 138 x5).bind fun v11 =>
        (sd s 144 x4 v11).bind fun s12 =>
        F_R_runs_8 n x1 x3 (x4 + 1) (x5 + 1) s12
      else
      (ld s 138 x5).bind fun v13 =>
      (ld s 143 v13).bind fun v14 =>
      (sd s 144 x4 v14).bind fun s15 =>
      F_R_runs_8 n x1 x3 (x4 + 1) (x5 + 1) s15
    else
    (ld s 137 x5).bind fun v16 =>
    if v16 = 9 then
      (ld s 144 (x4 - 1)).bind fun v17 =>
      (sd s 144 (x4 - 1) (1 - v17)).bind fun s18 =>
      F_R_runs_8 n x1 x3 x4 (x5 + 1) s18
    else
    (ld s 137 x5).bind fun v19 =>
    (ld s 144 ((x4 - 1) - 1)).bind fun v20 =>
    (ld s 144 (x4 - 1)).bind fun v21 =>
    (F_R_twoOf v19 v20 v21 s).bind fun z22 =>
    (sd z22.2 144 ((x4 - 1) - 1) z22.1).bind fun s23 =>
    F_R_runs_8 n x1 x3 (x4 - 1) (x5 + 1) s23
noncomputable def F_R_runs (x1 : Int32) (x2 : Int32) (x3 : Int32) (s : Mem) : Option (Int32 × Mem) :=
  F_R_runs_8 gF x1 x3 0 ((400 * x1) + x2) s
def A_R_runs_8 (f : Int32 → Int32 → Int32 → Int32 → Mem → Option (Int32 × Mem)) (ls : List (Option Value)) (s : Mem) : Option (Int32 × Mem) := match lk ls 0, lk ls 1, lk ls 3, lk ls 4, lk ls 5 with
  | some (.ref a0), some (.int a1), some (.int a2), some (.int a3), some (.int a4) => cbr (Nat.beq a0 123) (f a1 a2 a3 a4 s) none
  | _, _, _, _, _ => none
noncomputable def A_R_runs (av : List Value) (s : Mem) : Option (Int32 × Mem) := match av with
  | [.ref a0, .int a1, .int a2, .int a3] => cbr (Nat.beq a0 123) (F_R_runs a1 a2 a3 s) none
  | _ => none
noncomputable def C_R_runs (k : Nat) (av : List Value) (s : Mem) : Option (Int32 × Mem) := cbr (Nat.beq k 244) (A_R_twoOf av s) (none)
set_option maxRecDepth 100000 in
theorem e_R_runs_8  (n : Nat) (x1 : Int32) (x3 : Int32) (x4 : Int32) (x5 : Int32) (s : Mem) : F_R_runs_8 (n + 1) x1 x3 x4 x5 s = xs C_R_runs (fun k ls s => cbr (Nat.beq k 0) (A_R_runs_8 (F_R_runs_8 n) ls s) (none)) 0 (fun _ => 0) K_R_runs 700 (K_R_runs.drop 9) [some (.ref 123), some (.int x1), none, some (.int x3), some (.int x4), some (.int x5)] [] s := rfl
set_option maxRecDepth 100000 in
theorem e_R_runs (x1 : Int32) (x2 : Int32) (x3 : Int32) (s : Mem) : F_R_runs x1 x2 x3 s = xs C_R_runs (fun k ls s => cbr (Nat.beq k 0) (A_R_runs_8 (F_R_runs_8 gF) ls s) (none)) 0 (fun _ => 0) K_R_runs 700 K_R_runs [some (.ref 123), some (.int x1), some (.int x2), some (.int x3), none, none] [] s := rfl
def K_R_lineOf : MC := [(0, .lconst 0, 0), (1, .istore 2, 0), (2, .ret 0, 0), (2, .iload 2, 0), (3, .aload 0, 0), (4, .getstatic 1117, 0), (7, .lconst 0, 0), (8, .iaload, 0), (9, .if_icmp .ge 40, 0), (12, .aload 0, 0), (13, .getstatic 1118, 0), (16, .iload 2, 0), (17, .iaload, 0), (18, .iload 1, 0), (19, .if_icmp .ne 38, 0), (22, .aload 0, 0), (23, .getstatic 1120, 0), (26, .iload 2, 0), (27, .iaload, 0), (28, .aload 0, 0), (29, .getstatic 1121, 0), (32, .iload 2, 0), (33, .iaload, 0), (34, .if_icmp .eq 36, 0), (37, .aload 0, 0), (38, .lconst 0, 0), (39, .aload 0, 0), (40, .getstatic 1120, 0), (43, .iload 2, 0), (44, .iaload, 0), (45, .aload 0, 0), (46, .getstatic 1121, 0), (49, .iload 2, 0), (50, .iaload, 0), (51, .invokeinterface 245 196, 0), (54, .ifCond .eq 38, 0), (57, .iload 2, 0), (58, .ireturn, 0), (59, .iinc 2 0, 1), (62, .goto 2, 0), (65, .iconst 0, (-1)), (66, .ireturn, 0)]
noncomputable def F_R_lineOf_2 : Nat → Int32 → Int32 → Mem → Option (Int32 × Mem)
  | 0, _, _, _ => none
  | n + 1, x1, x2, s =>
    (ld s 132 0).bind fun v1 =>
    if v1 ≤ x2 then
      some ((-1), s)
    else
    (ld s 133 x2).bind fun v2 =>
    if v2 = x1 then
      (ld s 135 x2).bind fun v3 =>
      (ld s 136 x2).bind fun v4 =>
      if v3 = v4 then
        some (x2, s)
      else
      (ld s 135 x2).bind fun v5 =>
      (ld s 136 x2).bind fun v6 =>
      (F_R_runs 0 v5 v6 s).bind fun z7 =>
      if z7.1 = 0 then
        F_R_lineOf_2 n x1 (x2 + 1) z7.2
      else
      some (x2, z7.2)
    else
    F_R_lineOf_2 n x1 (x2 + 1) s
noncomputable def F_R_lineOf (x1 : Int32) (s : Mem) : Option (Int32 × Mem) :=
  F_R_lineOf_2 gF x1 0 s
def A_R_lineOf_2 (f : Int32 → Int32 → Mem → Option (Int32 × Mem)) (ls : List (Option Value)) (s : Mem) : Option (Int32 × Mem) := match lk ls 0, lk ls 1, lk ls 2 with
  | some (.ref a0), some (.int a1), some (.int a2) => cbr (Nat.beq a0 123) (f a1 a2 s) none
  | _, _, _ => none
noncomputable def A_R_lineOf (av : List Value) (s : Mem) : Option (Int32 × Mem) := match av with
  | [.ref a0, .int a1] => cbr (Nat.beq a0 123) (F_R_lineOf a1 s) none
  | _ => none
noncomputable def C_R_lineOf (k : Nat) (av : List Value) (s : Mem) : Option (Int32 × Mem) := cbr (Nat.beq k 245) (A_R_runs av s) (none)
set_option maxRecDepth 100000 in
theorem e_R_lineOf_2  (n : Nat) (x1 : Int32) (x2 : Int32) (s : Mem) : F_R_lineOf_2 (n + 1) x1 x2 s = xs C_R_lineOf (fun k ls s => cbr (Nat.beq k 0) (A_R_lineOf_2 (F_R_lineOf_2 n) ls s) (none)) 0 (fun _ => 0) K_R_lineOf 700 (K_R_lineOf.drop 3) [some (.ref 123), some (.int x1), some (.int x2)] [] s := rfl
set_option maxRecDepth 100000 in
theorem e_R_lineOf (x1 : Int32) (s : Mem) : F_R_lineOf x1 s = xs C_R_lineOf (fun k ls s => cbr (Nat.beq k 0) (A_R_lineOf_2 (F_R_lineOf_2 gF) ls s) (none)) 0 (fun _ => 0) K_R_lineOf 700 K_R_lineOf [some (.ref 123), some (.int x1), none] [] s := rfl
def K_R_asks : MC := [(0, .aload 0, 0), (1, .getstatic 1139, 0), (4, .lconst 0, 0), (5, .iload 2, 0), (6, .iastore, 0), (7, .aload 0, 0), (8, .getstatic 1139, 0), (11, .lconst 1, 0), (12, .aload 0, 0), (13, .getstatic 1101, 0), (16, .iconst 0, 5), (17, .iload 1, 0), (18, .iadd, 0), (19, .iaload, 0), (20, .iastore, 0), (21, .aload 0, 0), (22, .getstatic 1139, 0), (25, .iconst 0, 2), (26, .aload 0, 0), (27, .iconst 0, 9), (29, .aload 0, 0), (30, .getstatic 1101, 0), (33, .iconst 0, 101), (35, .iload 1, 0), (36, .iadd, 0), (37, .iaload, 0), (38, .aload 0, 0), (39, .getfield 1141, 0), (42, .iadd, 0), (43, .invokeinterface 190 195, 0), (46, .iastore, 0), (47, .aload 0, 0), (48, .getstatic 1139, 0), (51, .iconst 0, 3), (52, .aload 0, 0), (53, .getstatic 1101, 0), (56, .iconst 0, 197), (59, .iload 1, 0), (60, .iadd, 0), (61, .iaload, 0), (62, .iastore, 0), (63, .aload 0, 0), (64, .getstatic 1139, 0), (67, .iconst 0, 4), (68, .aload 0, 0), (69, .getstatic 1101, 0), (72, .iconst 0, 389), (75, .iload 1, 0), (76, .iadd, 0), (77, .iaload, 0), (78, .iastore, 0), (79, .aload 0, 0), (80, .getstatic 1139, 0), (83, .iconst 0, 5), (84, .aload 0, 0), (85, .getstatic 1108, 0), (88, .iload 1, 0), (89, .iaload, 0), (90, .iastore, 0), (91, .aload 0, 0), (92, .getstatic 1139, 0), (95, .iconst 0, 6), (97, .iload 1, 0), (98, .iconst 0, 16), (100, .lrem, 0), (101, .iastore, 0), (102, .aload 0, 0), (103, .getstatic 1139, 0), (106, .iconst 0, 7), (108, .aload 0, 0), (109, .getstatic 1101, 0), (112, .iconst 0, 485), (115, .iload 1, 0), (116, .iadd, 0), (117, .iaload, 0), (118, .iastore, 0), (119, .aload 0, 0), (120, .getstatic 1139, 0), (123, .iconst 0, 8), (125, .aload 0, 0), (126, .getstatic 1101, 0), (129, .iconst 0, 581), (132, .iload 1, 0), (133, .iadd, 0), (134, .iaload, 0), (135, .iastore, 0), (136, .aload 0, 0), (137, .getstatic 1139, 0), (140, .iconst 0, 9), (142, .iload 3, 0), (143, .iastore, 0), (144, .aload 0, 0), (145, .getstatic 1139, 0), (148, .iconst 0, 10), (150, .aload 0, 0), (151, .getstatic 1101, 0), (154, .lconst 0, 0), (155, .iaload, 0), (156, .iastore, 0), (157, .return_, 0)]
noncomputable def F_R_asks (x1 : Int32) (x2 : Int32) (x3 : Int32) (s : Mem) : Option (Int32 × Mem) :=
  (sd s 143 0 x2).bind fun s1 =>
  (ld s1 124 (5 + x1)).bind fun v2 =>
  (sd s1 143 1 v2).bind fun s3 =>
  (ld s3 124 (101 + x1)).bind fun v4 =>
  (F_R_lesser 9 (v4 + (s3 123 41)) s3).bind fun z5 =>
  (sd z5.2 143 2 z5.1).bind fun s6 =>
  (ld s6 124 (197 + x1)).bind fun v7 =>
  (sd s6 143 3 v7).bind fun s8 =>
  (ld s8 124 (389 + x1)).bind fun v9 =>
  (sd s8 143 4 v9).bind fun s10 =>
  (ld s10 128 x1).bind fun v11 =>
  (sd s10 143 5 v11).bind fun s12 =>
  (sd s12 143 6 (irm x1 16)).bind fun s13 =>
  (ld s13 124 (485 + x1)).bind fun v14 =>
  (sd s13 143 7 v14).bind fun s15 =>
  (ld s15 124 (581 + x1)).bind fun v16 =>
  (sd s15 143 8 v16).bind fun s17 =>
  (sd s17 143 9 x3).bind fun s18 =>
  (ld s18 124 0).bind fun v19 =>
  (sd s18 143 10 v19).bind fun s20 =>
  some (0, s20)
noncomputable def A_R_asks (av : List Value) (s : Mem) : Option (Int32 × Mem) := match av with
  | [.ref a0, .int a1, .int a2, .int a3] => cbr (Nat.beq a0 123) (F_R_asks a1 a2 a3 s) none
  | _ => none
noncomputable def C_R_asks (k : Nat) (av : List Value) (s : Mem) : Option (Int32 × Mem) := cbr (Nat.beq k 190) (A_R_lesser av s) (none)
set_option maxRecDepth 100000 in
theorem e_R_asks (x1 : Int32) (x2 : Int32) (x3 : Int32) (s : Mem) : F_R_asks x1 x2 x3 s = xs C_R_asks (fun k ls s => none) 0 (fun _ => 0) K_R_asks 700 K_R_asks [some (.ref 123), some (.int x1), some (.int x2), some (.int x3)] [] s := rfl
def K_R_lawTells : MC := [(0, .aload 0, 0), (1, .iload 1, 0), (2, .invokeinterface 246 194, 0), (5, .istore 4, 0), (7, .aload 0, 0), (8, .iload 4, 0), (10, .iconst 0, (-1)), (11, .if_icmp .ne 10, 0), (14, .iload 2, 0), (15, .goto 21, 0), (18, .aload 0, 0), (19, .lconst 0, 0), (20, .aload 0, 0), (21, .getstatic 1119, 0), (24, .iload 4, 0), (26, .iaload, 0), (27, .aload 0, 0), (28, .getstatic 1120, 0), (31, .iload 4, 0), (33, .iaload, 0), (34, .invokeinterface 245 196, 0), (37, .lconst 0, 0), (38, .iload 3, 0), (39, .invokeinterface 188 196, 0), (42, .ireturn, 0)]
noncomputable def F_R_lawTells (x1 : Int32) (x2 : Int32) (x3 : Int32) (s : Mem) : Option (Int32 × Mem) :=
  (F_R_lineOf x1 s).bind fun z1 =>
  if z1.1 = (-1) then
    (F_R_held x2 0 x3 z1.2).bind fun z2 =>
    some (z2.1, z2.2)
  else
  (ld z1.2 134 z1.1).bind fun v3 =>
  (ld z1.2 135 z1.1).bind fun v4 =>
  (F_R_runs 0 v3 v4 z1.2).bind fun z5 =>
  (F_R_held z5.1 0 x3 z5.2).bind fun z6 =>
  some (z6.1, z6.2)
noncomputable def A_R_lawTells (av : List Value) (s : Mem) : Option (Int32 × Mem) := match av with
  | [.ref a0, .int a1, .int a2, .int a3] => cbr (Nat.beq a0 123) (F_R_lawTells a1 a2 a3 s) none
  | _ => none
noncomputable def C_R_lawTells (k : Nat) (av : List Value) (s : Mem) : Option (Int32 × Mem) := cbr (Nat.beq k 246) (A_R_lineOf av s) (cbr (Nat.beq k 188) (A_R_held av s) (cbr (Nat.beq k 245) (A_R_runs av s) (none)))
set_option maxRecDepth 100000 in
theorem e_R_lawTells (x1 : Int32) (x2 : Int32) (x3 : Int32) (s : Mem) : F_R_lawTells x1 x2 x3 s = xs C_R_lawTells (fun k ls s => none) 0 (fun _ => 0) K_R_lawTells 700 K_R_lawTells [some (.ref 123), some (.int x1), some (.int x2), some (.int x3), none] [] s := rfl
def K_R_creaksOf : MC := [(0, .aload 0, 0), (1, .iload 1, 0), (2, .iload 2, 0), (3, .iload 3, 0), (4, .multianewarray 247 196, 0), (7, .aload 0, 0), (8, .lconst 0, 0), (9, .aload 0, 0), (10, .getstatic 1139, 0), (13, .lconst 0, 0), (14, .iaload, 0), (15, .iconst 0, 5), (16, .aload 0, 0), (17, .getstatic 1139, 0), (20, .lconst 1, 0), (21, .iaload, 0), (22, .imul, 0), (23, .iadd, 0), (24, .iconst 0, 50), (26, .aload 0, 0), (27, .getstatic 1139, 0), (30, .iconst 0, 2), (31, .iaload, 0), (32, .imul, 0), (33, .iadd, 0), (34, .iconst 0, 300), (37, .aload 0, 0), (38, .getstatic 1139, 0), (41, .iconst 0, 4), (42, .iaload, 0), (43, .imul, 0), (44, .isub, 0), (45, .iconst 0, 1000), (48, .invokeinterface 248 196, 0), (51, .ireturn, 0)]
noncomputable def F_R_creaksOf (x1 : Int32) (x2 : Int32) (x3 : Int32) (s : Mem) : Option (Int32 × Mem) :=
  (F_R_asks x1 x2 x3 s).bind fun z1 =>
  (ld z1.2 143 0).bind fun v2 =>
  (ld z1.2 143 1).bind fun v3 =>
  (ld z1.2 143 2).bind fun v4 =>
  (ld z1.2 143 4).bind fun v5 =>
  (F_R_lawTells 0 (((v2 + (5 * v3)) + (50 * v4)) - (300 * v5)) 1000 z1.2).bind fun z6 =>
  some (z6.1, z6.2)
noncomputable def A_R_creaksOf (av : List Value) (s : Mem) : Option (Int32 × Mem) := match av with
  | [.ref a0, .int a1, .int a2, .int a3] => cbr (Nat.beq a0 123) (F_R_creaksOf a1 a2 a3 s) none
  | _ => none
noncomputable def C_R_creaksOf (k : Nat) (av : List Value) (s : Mem) : Option (Int32 × Mem) := cbr (Nat.beq k 247) (A_R_asks av s) (cbr (Nat.beq k 248) (A_R_lawTells av s) (none))
set_option maxRecDepth 100000 in
theorem e_R_creaksOf (x1 : Int32) (x2 : Int32) (x3 : Int32) (s : Mem) : F_R_creaksOf x1 x2 x3 s = xs C_R_creaksOf (fun k ls s => none) 0 (fun _ => 0) K_R_creaksOf 700 K_R_creaksOf [some (.ref 123), some (.int x1), some (.int x2), some (.int x3)] [] s := rfl
def K_R_wearsOf : MC := [(0, .aload 0, 0), (1, .iload 1, 0), (2, .iload 2, 0), (3, .iload 3, 0), (4, .multianewarray 247 196, 0), (7, .aload 0, 0), (8, .lconst 1, 0), (9, .lconst 1, 0), (10, .iconst 0, 99), (12, .invokeinterface 248 196, 0), (15, .ireturn, 0)]
noncomputable def F_R_wearsOf (x1 : Int32) (x2 : Int32) (x3 : Int32) (s : Mem) : Option (Int32 × Mem) :=
  (F_R_asks x1 x2 x3 s).bind fun z1 =>
  (F_R_lawTells 1 1 99 z1.2).bind fun z2 =>
  some (z2.1, z2.2)
noncomputable def A_R_wearsOf (av : List Value) (s : Mem) : Option (Int32 × Mem) := match av with
  | [.ref a0, .int a1, .int a2, .int a3] => cbr (Nat.beq a0 123) (F_R_wearsOf a1 a2 a3 s) none
  | _ => none
noncomputable def C_R_wearsOf (k : Nat) (av : List Value) (s : Mem) : Option (Int32 × Mem) := cbr (Nat.beq k 247) (A_R_asks av s) (cbr (Nat.beq k 248) (A_R_lawTells av s) (none))
set_option maxRecDepth 100000 in
theorem e_R_wearsOf (x1 : Int32) (x2 : Int32) (x3 : Int32) (s : Mem) : F_R_wearsOf x1 x2 x3 s = xs C_R_wearsOf (fun k ls s => none) 0 (fun _ => 0) K_R_wearsOf 700 K_R_wearsOf [some (.ref 123), some (.int x1), some (.int x2), some (.int x3)] [] s := rfl
def K_R_risesOf : MC := [(0, .aload 0, 0), (1, .iload 1, 0), (2, .lconst 0, 0), (3, .lconst 0, 0), (4, .multianewarray 247 196, 0), (7, .aload 0, 0), (8, .iconst 0, 2), (9, .lconst 1, 0), (10, .iconst 0, 9), (12, .invokeinterface 248 196, 0), (15, .ireturn, 0)]
noncomputable def F_R_risesOf (x1 : Int32) (s : Mem) : Option (Int32 × Mem) :=
  (F_R_asks x1 0 0 s).bind fun z1 =>
  (F_R_lawTells 2 1 9 z1.2).bind fun z2 =>
  some (z2.1, z2.2)
noncomputable def A_R_risesOf (av : List Value) (s : Mem) : Option (Int32 × Mem) := match av with
  | [.ref a0, .int a1] => cbr (Nat.beq a0 123) (F_R_risesOf a1 s) none
  | _ => none
noncomputable def C_R_risesOf (k : Nat) (av : List Value) (s : Mem) : Option (Int32 × Mem) := cbr (Nat.beq k 247) (A_R_asks av s) (cbr (Nat.beq k 248) (A_R_lawTells av s) (none))
set_option maxRecDepth 100000 in
theorem e_R_risesOf (x1 : Int32) (s : Mem) : F_R_risesOf x1 s = xs C_R_risesOf (fun k ls s => none) 0 (fun _ => 0) K_R_risesOf 700 K_R_risesOf [some (.ref 123), some (.int x1)] [] s := rfl
def K_R_notes : MC := [(0, .aload 0, 0), (1, .getfield 1105, 0), (4, .ifCond .ne 9, 0), (7, .aload 0, 0), (8, .getstatic 1101, 0), (11, .iconst 0, 2), (12, .iaload, 0), (13, .iconst 0, 150), (16, .if_icmp .ne 10, 0), (19, .return_, 0), (20, .iconst 0, 4), (21, .aload 0, 0), (22, .getstatic 1101, 0), (25, .iconst 0, 2), (26, .iaload, 0), (27, .imul, 0), (28, .istore 4, 0), (30, .aload 0, 0), (31, .getstatic 1109, 0), (34, .iload 4, 0), (36, .aload 0, 0), (37, .getstatic 1101, 0), (40, .lconst 0, 0), (41, .iaload, 0), (42, .iastore, 0), (43, .aload 0, 0), (44, .getstatic 1109, 0), (47, .iload 4, 0), (49, .lconst 1, 0), (50, .iadd, 0), (51, .iload 1, 0), (52, .iastore, 0), (53, .aload 0, 0), (54, .getstatic 1109, 0), (57, .iload 4, 0), (59, .iconst 0, 2), (60, .iadd, 0), (61, .iconst 0, 100), (63, .iload 2, 0), (64, .iconst 0, 16), (66, .ldiv, 0), (67, .imul, 0), (68, .iload 2, 0), (69, .iconst 0, 16), (71, .lrem, 0), (72, .iadd, 0), (73, .iastore, 0), (74, .aload 0, 0), (75, .getstatic 1109, 0), (78, .iload 4, 0), (80, .iconst 0, 3), (81, .iadd, 0), (82, .iload 3, 0), (83, .iastore, 0), (84, .aload 0, 0), (85, .getstatic 1101, 0), (88, .iconst 0, 2), (89, .aload 0, 0), (90, .getstatic 1101, 0), (93, .iconst 0, 2), (94, .iaload, 0), (95, .lconst 1, 0), (96, .iadd, 0), (97, .iastore, 0), (98, .return_, 0)]
noncomputable def F_R_notes (x1 : Int32) (x2 : Int32) (x3 : Int32) (s : Mem) : Option (Int32 × Mem) :=
  if (s 123 5) = 0 then
    (ld s 124 2).bind fun v1 =>
    if v1 = 150 then
      some (0, s)
    else
    (ld s 124 2).bind fun v2 =>
    (ld s 124 0).bind fun v3 =>
    (sd s 129 (4 * v2) v3).bind fun s4 =>
    (sd s4 129 ((4 * v2) + 1) x1).bind fun s5 =>
    (sd s5 129 ((4 * v2) + 2) ((100 * (x2 / 16)) + (irm x2 16))).bind fun s6 =>
    (sd s6 129 ((4 * v2) + 3) x3).bind fun s7 =>
    (ld s7 124 2).bind fun v8 =>
    (sd s7 124 2 (v8 + 1)).bind fun s9 =>
    some (0, s9)
  else
  some (0, s)
noncomputable def A_R_notes (av : List Value) (s : Mem) : Option (Int32 × Mem) := match av with
  | [.ref a0, .int a1, .int a2, .int a3] => cbr (Nat.beq a0 123) (F_R_notes a1 a2 a3 s) none
  | _ => none
noncomputable def C_R_notes (k : Nat) (av : List Value) (s : Mem) : Option (Int32 × Mem) := none
set_option maxRecDepth 100000 in
theorem e_R_notes (x1 : Int32) (x2 : Int32) (x3 : Int32) (s : Mem) : F_R_notes x1 x2 x3 s = xs C_R_notes (fun k ls s => none) 0 (fun _ => 0) K_R_notes 700 K_R_notes [some (.ref 123), some (.int x1), some (.int x2), some (.int x3), none] [] s := rfl
def K_R_isOrdered : MC := [(0, .iload 1, 0), (1, .iconst 0, 2), (2, .if_icmp .gt 10, 0), (5, .aload 0, 0), (6, .getstatic 1101, 0), (9, .iconst 0, 293), (12, .iload 2, 0), (13, .iadd, 0), (14, .iload 1, 0), (15, .iastore, 0), (16, .iload 1, 0), (17, .iconst 0, 3), (18, .if_icmp .eq 16, 0), (21, .iload 1, 0), (22, .iconst 0, 4), (23, .if_icmp .ne 28, 0), (26, .aload 0, 0), (27, .getstatic 1101, 0), (30, .iconst 0, 389), (33, .iload 2, 0), (34, .iadd, 0), (35, .iload 1, 0), (36, .iconst 0, 3), (37, .if_icmp .ne 26, 0), (40, .lconst 1, 0), (41, .goto 27, 0), (44, .lconst 0, 0), (45, .iastore, 0), (46, .iload 1, 0), (47, .iconst 0, 5), (48, .if_icmp .ne 38, 0), (51, .aload 0, 0), (52, .getstatic 1101, 0), (55, .iconst 0, 101), (57, .iload 2, 0), (58, .iadd, 0), (59, .lconst 0, 0), (60, .iastore, 0), (61, .iload 1, 0), (62, .iconst 0, 6), (64, .if_icmp .ne 58, 0), (67, .aload 0, 0), (68, .getstatic 1101, 0), (71, .iconst 0, 101), (73, .iload 2, 0), (74, .iadd, 0), (75, .aload 0, 0), (76, .iconst 0, 9), (78, .aload 0, 0), (79, .getstatic 1101, 0), (82, .iconst 0, 101), (84, .iload 2, 0), (85, .iadd, 0), (86, .iaload, 0), (87, .lconst 1, 0), (88, .iadd, 0), (89, .invokeinterface 190 195, 0), (92, .iastore, 0), (93, .return_, 0)]
noncomputable def F_R_isOrdered (x1 : Int32) (x2 : Int32) (s : Mem) : Option (Int32 × Mem) :=
  if 2 < x1 then
    if x1 = 3 then
      if x1 = 3 then
        (sd s 124 (389 + x2) 1).bind fun s1 =>
        if x1 = 5 then
          (sd s1 124 (101 + x2) 0).bind fun s2 =>
          if x1 = 6 then
            (ld s2 124 (101 + x2)).bind fun v3 =>
            (F_R_lesser 9 (v3 + 1) s2).bind fun z4 =>
            (sd z4.2 124 (101 + x2) z4.1).bind fun s5 =>
            some (0, s5)
          else
          some (0, s2)
        else
        if x1 = 6 then
          (ld s1 124 (101 + x2)).bind fun v6 =>
          (F_R_lesser 9 (v6 + 1) s1).bind fun z7 =>
          (sd z7.2 124 (101 + x2) z7.1).bind fun s8 =>
          some (0, s8)
        else
        some (0, s1)
      else
      (sd s 124 (389 + x2) 0).bind fun s9 =>
      if x1 = 5 then
        (sd s9 124 (101 + x2) 0).bind fun s10 =>
        if x1 = 6 then
          (ld s10 124 (101 + x2)).bind fun v11 =>
          (F_R_lesser 9 (v11 + 1) s10).bind fun z12 =>
          (sd z12.2 124 (101 + x2) z12.1).bind fun s13 =>
          some (0, s13)
        else
        some (0, s10)
      else
      if x1 = 6 then
        (ld s9 124 (101 + x2)).bind fun v14 =>
        (F_R_lesser 9 (v14 + 1) s9).bind fun z15 =>
        (sd z15.2 124 (101 + x2) z15.1).bind fun s16 =>
        some (0, s16)
      else
      some (0, s9)
    else
    if x1 = 4 then
      if x1 = 3 then
        (sd s 124 (389 + x2) 1).bind fun s17 =>
        if x1 = 5 then
          (sd s17 124 (101 + x2) 0).bind fun s18 =>
          if x1 = 6 then
            (ld s18 124 (101 + x2)).bind fun v19 =>
            (F_R_lesser 9 (v19 + 1) s18).bind fun z20 =>
            (sd z20.2 124 (101 + x2) z20.1).bind fun s21 =>
            some (0, s21)
          else
          some (0, s18)
        else
        if x1 = 6 then
          (ld s17 124 (101 + x2)).bind fun v22 =>
          (F_R_lesser 9 (v22 + 1) s17).bind fun z23 =>
          (sd z23.2 124 (101 + x2) z23.1).bind fun s24 =>
          some (0, s24)
        else
        some (0, s17)
      else
      (sd s 124 (389 + x2) 0).bind fun s25 =>
      if x1 = 5 then
        (sd s25 124 (101 + x2) 0).bind fun s26 =>
        if x1 = 6 then
          (ld s26 124 (101 + x2)).bind fun v27 =>
          (F_R_lesser 9 (v27 + 1) s26).bind fun z28 =>
          (sd z28.2 124 (101 + x2) z28.1).bind fun s29 =>
          some (0, s29)
        else
        some (0, s26)
      else
      if x1 = 6 then
        (ld s25 124 (101 + x2)).bind fun v30 =>
        (F_R_lesser 9 (v30 + 1) s25).bind fun z31 =>
        (sd z31.2 124 (101 + x2) z31.1).bind fun s32 =>
        some (0, s32)
      else
      some (0, s25)
    else
    if x1 = 5 then
      (sd s 124 (101 + x2) 0).bind fun s33 =>
      if x1 = 6 then
        (ld s33 124 (101 + x2)).bind fun v34 =>
        (F_R_lesser 9 (v34 + 1) s33).bind fun z35 =>
        (sd z35.2 124 (101 + x2) z35.1).bind fun s36 =>
        some (0, s36)
      else
      some (0, s33)
    else
    if x1 = 6 then
      (ld s 124 (101 + x2)).bind fun v37 =>
      (F_R_lesser 9 (v37 + 1) s).bind fun z38 =>
      (sd z38.2 124 (101 + x2) z38.1).bind fun s39 =>
      some (0, s39)
    else
    some (0, s)
  else
  (sd s 124 (293 + x2) x1).bind fun s40 =>
  if x1 = 3 then
    if x1 = 3 then
      (sd s40 124 (389 + x2) 1).bind fun s41 =>
      if x1 = 5 then
        (sd s41 124 (101 + x2) 0).bind fun s42 =>
        if x1 = 6 then
          (ld s42 124 (101 + x2)).bind fun v43 =>
          (F_R_lesser 9 (v43 + 1) s42).bind fun z44 =>
          (sd z44.2 124 (101 + x2) z44.1).bind fun s45 =>
          some (0, s45)
        else
        some (0, s42)
      else
      if x1 = 6 then
        (ld s41 124 (101 + x2)).bind fun v46 =>
        (F_R_lesser 9 (v46 + 1) s41).bind fun z47 =>
        (sd z47.2 124 (101 + x2) z47.1).bind fun s48 =>
        some (0, s48)
      else
      some (0, s41)
    else
    (sd s40 124 (389 + x2) 0).bind fun s49 =>
    if x1 = 5 then
      (sd s49 124 (101 + x2) 0).bind fun s50 =>
      if x1 = 6 then
        (ld s50 124 (101 + x2)).bind fun v51 =>
        (F_R_lesser 9 (v51 + 1) s50).bind fun z52 =>
        (sd z52.2 124 (101 + x2) z52.1).bind fun s53 =>
        some (0, s53)
      else
      some (0, s50)
    else
    if x1 = 6 then
      (ld s49 124 (101 + x2)).bind fun v54 =>
      (F_R_lesser 9 (v54 + 1) s49).bind fun z55 =>
      (sd z55.2 124 (101 + x2) z55.1).bind fun s56 =>
      some (0, s56)
    else
    some (0, s49)
  else
  if x1 = 4 then
    if x1 = 3 then
      (sd s40 124 (389 + x2) 1).bind fun s57 =>
      if x1 = 5 then
        (sd s57 124 (101 + x2) 0).bind fun s58 =>
        if x1 = 6 then
          (ld s58 124 (101 + x2)).bind fun v59 =>
          (F_R_lesser 9 (v59 + 1) s58).bind fun z60 =>
          (sd z60.2 124 (101 + x2) z60.1).bind fun s61 =>
          some (0, s61)
        else
        some (0, s58)
      else
      if x1 = 6 then
        (ld s57 124 (101 + x2)).bind fun v62 =>
        (F_R_lesser 9 (v62 + 1) s57).bind fun z63 =>
        (sd z63.2 124 (101 + x2) z63.1).bind fun s64 =>
        some (0, s64)
      else
      some (0, s57)
    else
    (sd s40 124 (389 + x2) 0).bind fun s65 =>
    if x1 = 5 then
      (sd s65 124 (101 + x2) 0).bind fun s66 =>
      if x1 = 6 then
        (ld s66 124 (101 + x2)).bind fun v67 =>
        (F_R_lesser 9 (v67 + 1) s66).bind fun z68 =>
        (sd z68.2 124 (101 + x2) z68.1).bind fun s69 =>
        some (0, s69)
      else
      some (0, s66)
    else
    if x1 = 6 then
      (ld s65 124 (101 + x2)).bind fun v70 =>
      (F_R_lesser 9 (v70 + 1) s65).bind fun z71 =>
      (sd z71.2 124 (101 + x2) z71.1).bind fun s72 =>
      some (0, s72)
    else
    some (0, s65)
  else
  if x1 = 5 then
    (sd s40 124 (101 + x2) 0).bind fun s73 =>
    if x1 = 6 then
      (ld s73 124 (101 + x2)).bind fun v74 =>
      (F_R_lesser 9 (v74 + 1) s73).bind fun z75 =>
      (sd z75.2 124 (101 + x2) z75.1).bind fun s76 =>
      some (0, s76)
    else
    some (0, s73)
  else
  if x1 = 6 then
    (ld s40 124 (101 + x2)).bind fun v77 =>
    (F_R_lesser 9 (v77 + 1) s40).bind fun z78 =>
    (sd z78.2 124 (101 + x2) z78.1).bind fun s79 =>
    some (0, s79)
  else
  some (0, s40)
noncomputable def A_R_isOrdered (av : List Value) (s : Mem) : Option (Int32 × Mem) := match av with
  | [.ref a0, .int a1, .int a2] => cbr (Nat.beq a0 123) (F_R_isOrdered a1 a2 s) none
  | _ => none
noncomputable def C_R_isOrdered (k : Nat) (av : List Value) (s : Mem) : Option (Int32 × Mem) := cbr (Nat.beq k 190) (A_R_lesser av s) (none)
set_option maxRecDepth 100000 in
theorem e_R_isOrdered (x1 : Int32) (x2 : Int32) (s : Mem) : F_R_isOrdered x1 x2 s = xs C_R_isOrdered (fun k ls s => none) 0 (fun _ => 0) K_R_isOrdered 700 K_R_isOrdered [some (.ref 123), some (.int x1), some (.int x2)] [] s := rfl
def K_R_order : MC := [(0, .aload 0, 0), (1, .lconst 0, 0), (2, .putfield 1100, 0), (5, .aload 0, 0), (6, .iload 1, 0), (7, .lconst 0, 0), (8, .iconst 0, 6), (10, .invokeinterface 187 196, 0), (13, .ifCond .eq 14, 0), (16, .aload 0, 0), (17, .iload 2, 0), (18, .iload 3, 0), (19, .invokeinterface 201 195, 0), (22, .ifCond .ne 16, 0), (25, .lconst 0, 0), (26, .lreturn, 0), (27, .aload 0, 0), (28, .multianewarray 194 193, 0), (31, .aload 0, 0), (32, .iload 1, 0), (33, .iconst 0, 16), (35, .iload 2, 0), (36, .imul, 0), (37, .iload 3, 0), (38, .iadd, 0), (39, .multianewarray 253 195, 0), (42, .lconst 1, 0), (43, .lreturn, 0)]
noncomputable def F_R_order (x1 : Int32) (x2 : Int32) (x3 : Int32) (s : Mem) : Option (Int32 × Mem) :=
  let s1 : Mem := mw s 123 0 0
  (F_R_isIn x1 0 6 s1).bind fun z2 =>
  if z2.1 = 0 then
    some (0, z2.2)
  else
  (F_R_isStep x2 x3 z2.2).bind fun z3 =>
  if z3.1 = 0 then
    some (0, z3.2)
  else
  (F_R_keepsAhead z3.2).bind fun z4 =>
  (F_R_isOrdered x1 ((16 * x2) + x3) z4.2).bind fun z5 =>
  some (1, z5.2)
noncomputable def A_R_order (av : List Value) (s : Mem) : Option (Int32 × Mem) := match av with
  | [.ref a0, .int a1, .int a2, .int a3] => cbr (Nat.beq a0 123) (F_R_order a1 a2 a3 s) none
  | _ => none
noncomputable def C_R_order (k : Nat) (av : List Value) (s : Mem) : Option (Int32 × Mem) := cbr (Nat.beq k 187) (A_R_isIn av s) (cbr (Nat.beq k 201) (A_R_isStep av s) (cbr (Nat.beq k 194) (A_R_keepsAhead av s) (cbr (Nat.beq k 253) (A_R_isOrdered av s) (none))))
set_option maxRecDepth 100000 in
theorem e_R_order (x1 : Int32) (x2 : Int32) (x3 : Int32) (s : Mem) : F_R_order x1 x2 x3 s = xs C_R_order (fun k ls s => none) 0 (fun _ => 0) K_R_order 700 K_R_order [some (.ref 123), some (.int x1), some (.int x2), some (.int x3)] [] s := rfl
def K_R_isTrodden : MC := [(0, .aload 0, 0), (1, .iload 1, 0), (2, .invokeinterface 202 194, 0), (5, .ifCond .eq 21, 0), (8, .aload 0, 0), (9, .getstatic 1101, 0), (12, .iconst 0, 4), (13, .aload 0, 0), (14, .getstatic 1101, 0), (17, .iconst 0, 4), (18, .iaload, 0), (19, .lconst 1, 0), (20, .iadd, 0), (21, .iastore, 0), (22, .aload 0, 0), (23, .iconst 0, 2), (24, .iload 1, 0), (25, .lconst 0, 0), (26, .multianewarray 252 196, 0), (29, .lconst 0, 0), (30, .lreturn, 0), (31, .aload 0, 0), (32, .iload 1, 0), (33, .iload 2, 0), (34, .iload 3, 0), (35, .invokeinterface 249 196, 0), (38, .istore 4, 0), (40, .aload 0, 0), (41, .getfield 1105, 0), (44, .ifCond .eq 39, 0), (47, .iconst 0, 2), (48, .iload 4, 0), (50, .imul, 0), (51, .iconst 0, 1000), (54, .if_icmp .lt 37, 0), (57, .lconst 1, 0), (58, .goto 49, 0), (61, .lconst 0, 0), (62, .goto 49, 0), (65, .iload 4, 0), (67, .ifCond .le 48, 0), (70, .aload 0, 0), (71, .iconst 0, 1000), (74, .invokeinterface 199 194, 0), (77, .iload 4, 0), (79, .if_icmp .ge 48, 0), (82, .lconst 1, 0), (83, .goto 49, 0), (86, .lconst 0, 0), (87, .istore 5, 0), (89, .aload 0, 0), (90, .getstatic 1101, 0), (93, .iconst 0, 293), (96, .iload 1, 0), (97, .iadd, 0), (98, .iaload, 0), (99, .ifCond .ne 59, 0), (102, .lconst 1, 0), (103, .goto 60, 0), (106, .lconst 0, 0), (107, .istore 6, 0), (109, .iload 5, 0), (111, .ifCond .eq 73, 0), (114, .aload 0, 0), (115, .getstatic 1101, 0), (118, .iconst 0, 3), (119, .aload 0, 0), (120, .getstatic 1101, 0), (123, .iconst 0, 3), (124, .iaload, 0), (125, .lconst 1, 0), (126, .iadd, 0), (127, .iastore, 0), (128, .iload 6, 0), (130, .ifCond .eq 91, 0), (133, .iload 5, 0), (135, .ifCond .eq 91, 0), (138, .aload 0, 0), (139, .getstatic 1101, 0), (142, .iconst 0, 485), (145, .iload 1, 0), (146, .iadd, 0), (147, .aload 0, 0), (148, .getstatic 1101, 0), (151, .iconst 0, 485), (154, .iload 1, 0), (155, .iadd, 0), (156, .iaload, 0), (157, .lconst 1, 0), (158, .iadd, 0), (159, .iastore, 0), (160, .iload 6, 0), (162, .ifCond .eq 109, 0), (165, .iload 5, 0), (167, .ifCond .ne 109, 0), (170, .aload 0, 0), (171, .getstatic 1101, 0), (174, .iconst 0, 581), (177, .iload 1, 0), (178, .iadd, 0), (179, .aload 0, 0), (180, .getstatic 1101, 0), (183, .iconst 0, 581), (186, .iload 1, 0), (187, .iadd, 0), (188, .iaload, 0), (189, .lconst 1, 0), (190, .iadd, 0), (191, .iastore, 0), (192, .iload 5, 0), (194, .ifCond .ne 113, 0), (197, .iload 6, 0), (199, .ifCond .eq 122, 0), (202, .aload 0, 0), (203, .iload 5, 0), (205, .ifCond .eq 118, 0), (208, .lconst 0, 0), (209, .goto 119, 0), (212, .lconst 1, 0), (213, .iload 1, 0), (214, .iload 2, 0), (215, .multianewarray 252 196, 0), (218, .aload 0, 0), (219, .getstatic 1101, 0), (222, .iconst 0, 5), (223, .iload 1, 0), (224, .iadd, 0), (225, .aload 0, 0), (226, .iconst 0, 99), (228, .aload 0, 0), (229, .getstatic 1101, 0), (232, .iconst 0, 5), (233, .iload 1, 0), (234, .iadd, 0), (235, .iaload, 0), (236, .aload 0, 0), (237, .iload 1, 0), (238, .iload 2, 0), (239, .iload 3, 0), (240, .invokeinterface 250 196, 0), (243, .iadd, 0), (244, .invokeinterface 190 195, 0), (247, .iastore, 0), (248, .iload 5, 0), (250, .lreturn, 0)]
noncomputable def F_R_isTrodden (x1 : Int32) (x2 : Int32) (x3 : Int32) (s : Mem) : Option (Int32 × Mem) :=
  (F_R_isGone x1 s).bind fun z1 =>
  if z1.1 = 0 then
    (F_R_creaksOf x1 x2 x3 z1.2).bind fun z2 =>
    if (z2.2 123 5) = 0 then
      if z2.1 ≤ 0 then
        (ld z2.2 124 (293 + x1)).bind fun v3 =>
        if v3 = 0 then
          (ld z2.2 124 (581 + x1)).bind fun v4 =>
          (sd z2.2 124 (581 + x1) (v4 + 1)).bind fun s5 =>
          (F_R_notes 1 x1 x2 s5).bind fun z6 =>
          (ld z6.2 124 (5 + x1)).bind fun v7 =>
          (F_R_wearsOf x1 x2 x3 z6.2).bind fun z8 =>
          (F_R_lesser 99 (v7 + z8.1) z8.2).bind fun z9 =>
          (sd z9.2 124 (5 + x1) z9.1).bind fun s10 =>
          some (0, s10)
        else
        (ld z2.2 124 (5 + x1)).bind fun v11 =>
        (F_R_wearsOf x1 x2 x3 z2.2).bind fun z12 =>
        (F_R_lesser 99 (v11 + z12.1) z12.2).bind fun z13 =>
        (sd z13.2 124 (5 + x1) z13.1).bind fun s14 =>
        some (0, s14)
      else
      (F_R_draw 1000 z2.2).bind fun z15 =>
      if z2.1 ≤ z15.1 then
        (ld z15.2 124 (293 + x1)).bind fun v16 =>
        if v16 = 0 then
          (ld z15.2 124 (581 + x1)).bind fun v17 =>
          (sd z15.2 124 (581 + x1) (v17 + 1)).bind fun s18 =>
          (F_R_notes 1 x1 x2 s18).bind fun z19 =>
          (ld z19.2 124 (5 + x1)).bind fun v20 =>
          (F_R_wearsOf x1 x2 x3 z19.2).bind fun z21 =>
          (F_R_lesser 99 (v20 + z21.1) z21.2).bind fun z22 =>
          (sd z22.2 124 (5 + x1) z22.1).bind fun s23 =>
          some (0, s23)
        else
        (ld z15.2 124 (5 + x1)).bind fun v24 =>
        (F_R_wearsOf x1 x2 x3 z15.2).bind fun z25 =>
        (F_R_lesser 99 (v24 + z25.1) z25.2).bind fun z26 =>
        (sd z26.2 124 (5 + x1) z26.1).bind fun s27 =>
        some (0, s27)
      else
      (ld z15.2 124 (293 + x1)).bind fun v28 =>
      if v28 = 0 then
        (ld z15.2 124 3).bind fun v29 =>
        (sd z15.2 124 3 (v29 + 1)).bind fun s30 =>
        (ld s30 124 (485 + x1)).bind fun v31 =>
        (sd s30 124 (485 + x1) (v31 + 1)).bind fun s32 =>
        (F_R_notes 0 x1 x2 s32).bind fun z33 =>
        (ld z33.2 124 (5 + x1)).bind fun v34 =>
        (F_R_wearsOf x1 x2 x3 z33.2).bind fun z35 =>
        (F_R_lesser 99 (v34 + z35.1) z35.2).bind fun z36 =>
        (sd z36.2 124 (5 + x1) z36.1).bind fun s37 =>
        some (1, s37)
      else
      (ld z15.2 124 3).bind fun v38 =>
      (sd z15.2 124 3 (v38 + 1)).bind fun s39 =>
      (F_R_notes 0 x1 x2 s39).bind fun z40 =>
      (ld z40.2 124 (5 + x1)).bind fun v41 =>
      (F_R_wearsOf x1 x2 x3 z40.2).bind fun z42 =>
      (F_R_lesser 99 (v41 + z42.1) z42.2).bind fun z43 =>
      (sd z43.2 124 (5 + x1) z43.1).bind fun s44 =>
      some (1, s44)
    else
    if (2 * z2.1) < 1000 then
      (ld z2.2 124 (293 + x1)).bind fun v45 =>
      if v45 = 0 then
        (ld z2.2 124 (581 + x1)).bind fun v46 =>
        (sd z2.2 124 (581 + x1) (v46 + 1)).bind fun s47 =>
        (F_R_notes 1 x1 x2 s47).bind fun z48 =>
        (ld z48.2 124 (5 + x1)).bind fun v49 =>
        (F_R_wearsOf x1 x2 x3 z48.2).bind fun z50 =>
        (F_R_lesser 99 (v49 + z50.1) z50.2).bind fun z51 =>
        (sd z51.2 124 (5 + x1) z51.1).bind fun s52 =>
        some (0, s52)
      else
      (ld z2.2 124 (5 + x1)).bind fun v53 =>
      (F_R_wearsOf x1 x2 x3 z2.2).bind fun z54 =>
      (F_R_lesser 99 (v53 + z54.1) z54.2).bind fun z55 =>
      (sd z55.2 124 (5 + x1) z55.1).bind fun s56 =>
      some (0, s56)
    else
    (ld z2.2 124 (293 + x1)).bind fun v57 =>
    if v57 = 0 then
      (ld z2.2 124 3).bind fun v58 =>
      (sd z2.2 124 3 (v58 + 1)).bind fun s59 =>
      (ld s59 124 (485 + x1)).bind fun v60 =>
      (sd s59 124 (485 + x1) (v60 + 1)).bind fun s61 =>
      (F_R_notes 0 x1 x2 s61).bind fun z62 =>
      (ld z62.2 124 (5 + x1)).bind fun v63 =>
      (F_R_wearsOf x1 x2 x3 z62.2).bind fun z64 =>
      (F_R_lesser 99 (v63 + z64.1) z64.2).bind fun z65 =>
      (sd z65.2 124 (5 + x1) z65.1).bind fun s66 =>
      some (1, s66)
    else
    (ld z2.2 124 3).bind fun v67 =>
    (sd z2.2 124 3 (v67 + 1)).bind fun s68 =>
    (F_R_notes 0 x1 x2 s68).bind fun z69 =>
    (ld z69.2 124 (5 + x1)).bind fun v70 =>
    (F_R_wearsOf x1 x2 x3 z69.2).bind fun z71 =>
    (F_R_lesser 99 (v70 + z71.1) z71.2).bind fun z72 =>
    (sd z72.2 124 (5 + x1) z72.1).bind fun s73 =>
    some (1, s73)
  else
  (ld z1.2 124 4).bind fun v74 =>
  (sd z1.2 124 4 (v74 + 1)).bind fun s75 =>
  (F_R_notes 2 x1 0 s75).bind fun z76 =>
  some (0, z76.2)
noncomputable def A_R_isTrodden (av : List Value) (s : Mem) : Option (Int32 × Mem) := match av with
  | [.ref a0, .int a1, .int a2, .int a3] => cbr (Nat.beq a0 123) (F_R_isTrodden a1 a2 a3 s) none
  | _ => none
noncomputable def C_R_isTrodden (k : Nat) (av : List Value) (s : Mem) : Option (Int32 × Mem) := cbr (Nat.beq k 202) (A_R_isGone av s) (cbr (Nat.beq k 249) (A_R_creaksOf av s) (cbr (Nat.beq k 252) (A_R_notes av s) (cbr (Nat.beq k 250) (A_R_wearsOf av s) (cbr (Nat.beq k 190) (A_R_lesser av s) (cbr (Nat.beq k 199) (A_R_draw av s) (none))))))
set_option maxRecDepth 100000 in
theorem e_R_isTrodden (x1 : Int32) (x2 : Int32) (x3 : Int32) (s : Mem) : F_R_isTrodden x1 x2 x3 s = xs C_R_isTrodden (fun k ls s => none) 0 (fun _ => 0) K_R_isTrodden 700 K_R_isTrodden [some (.ref 123), some (.int x1), some (.int x2), some (.int x3), none, none, none] [] s := rfl
def K_R_isVisited : MC := [(0, .lconst 0, 0), (1, .istore 5, 0), (3, .lconst 0, 0), (4, .istore 6, 0), (6, .ret 0, 0), (6, .iload 6, 0), (8, .aload 0, 0), (9, .getstatic 1107, 0), (12, .iload 1, 0), (13, .iaload, 0), (14, .if_icmp .ge 62, 0), (17, .iload 2, 0), (18, .ifCond .eq 15, 0), (21, .iload 6, 0), (23, .goto 23, 0), (26, .aload 0, 0), (27, .getstatic 1107, 0), (30, .iload 1, 0), (31, .iaload, 0), (32, .lconst 1, 0), (33, .isub, 0), (34, .iload 6, 0), (36, .isub, 0), (37, .istore 7, 0), (39, .iload 2, 0), (40, .ifCond .eq 36, 0), (43, .iload 6, 0), (45, .lconst 1, 0), (46, .iadd, 0), (47, .iload 4, 0), (49, .irem, 0), (50, .ifCond .ne 34, 0), (53, .lconst 1, 0), (54, .goto 43, 0), (57, .lconst 0, 0), (58, .goto 43, 0), (61, .iload 6, 0), (63, .iload 4, 0), (65, .irem, 0), (66, .ifCond .ne 42, 0), (69, .lconst 1, 0), (70, .goto 43, 0), (73, .lconst 0, 0), (74, .istore 8, 0), (76, .iload 8, 0), (78, .ifCond .eq 60, 0), (81, .aload 0, 0), (82, .iconst 0, 16), (84, .iload 1, 0), (85, .imul, 0), (86, .iload 7, 0), (88, .iadd, 0), (89, .iload 3, 0), (90, .iload 4, 0), (92, .invokeinterface 255 196, 0), (95, .ifCond .eq 60, 0), (98, .iload 5, 0), (100, .lconst 1, 0), (101, .iadd, 0), (102, .istore 5, 0), (104, .iinc 6 0, 1), (107, .goto 4, 0), (110, .iload 5, 0), (112, .ireturn, 0)]
noncomputable def F_R_isVisited_4 : Nat → Int32 → Int32 → Int32 → Int32 → Int32 → Int32 → Mem → Option (Int32 × Mem)
  | 0, _, _, _, _, _, _, _ => none
  | n + 1, x1, x2, x3, x4, x5, x6, s =>
    (ld s 127 x1).bind fun v1 =>
    if v1 ≤ x6 then
      some (x5, s)
    else
    if x2 = 0 then
      (ld s 127 x1).bind fun v2 =>
      if x2 = 0 then
        if x4 = 0 then none else
        if (irm x6 x4) = 0 then
          (F_R_isTrodden ((16 * x1) + ((v2 - 1) - x6)) x3 x4 s).bind fun z3 =>
          if z3.1 = 0 then
            F_R_isVisited_4 n x1 x2 x3 x4 x5 (x6 + 1) z3.2
          else
          F_R_isVisited_4 n x1 x2 x3 x4 (x5 + 1) (x6 + 1) z3.2
        else
        F_R_isVisited_4 n x1 x2 x3 x4 x5 (x6 + 1) s
      else
      if x4 = 0 then none else
      if (irm (x6 + 1) x4) = 0 then
        (F_R_isTrodden ((16 * x1) + ((v2 - 1) - x6)) x3 x4 s).bind fun z4 =>
        if z4.1 = 0 then
          F_R_isVisited_4 n x1 x2 x3 x4 x5 (x6 + 1) z4.2
        else
        F_R_isVisited_4 n x1 x2 x3 x4 (x5 + 1) (x6 + 1) z4.2
      else
      F_R_isVisited_4 n x1 x2 x3 x4 x5 (x6 + 1) s
    else
    if x2 = 0 then
      if x4 = 0 then none else
      if (irm x6 x4) = 0 then
        (F_R_isTrodden ((16 * x1) + x6) x3 x4 s).bind fun z5 =>
        if z5.1 = 0 then
          F_R_isVisited_4 n x1 x2 x3 x4 x5 (x6 + 1) z5.2
        else
        F_R_isVisited_4 n x1 x2 x3 x4 (x5 + 1) (x6 + 1) z5.2
      else
      F_R_isVisited_4 n x1 x2 x3 x4 x5 (x6 + 1) s
    else
    if x4 = 0 then none else
    if (irm (x6 + 1) x4) = 0 then
      (F_R_isTrodden ((16 * x1) + x6) x3 x4 s).bind fun z6 =>
      if z6.1 = 0 then
        F_R_isVisited_4 n x1 x2 x3 x4 x5 (x6 + 1) z6.2
      else
      F_R_isVisited_4 n x1 x2 x3 x4 (x5 + 1) (x6 + 1) z6.2
    else
    F_R_isVisited_4 n x1 x2 x3 x4 x5 (x6 + 1) s
noncomputable def F_R_isVisited (x1 : Int32) (x2 : Int32) (x3 : Int32) (x4 : Int32) (s : Mem) : Option (Int32 × Mem) :=
  F_R_isVisited_4 gF x1 x2 x3 x4 0 0 s
def A_R_isVisited_4 (f : Int32 → Int32 → Int32 → Int32 → Int32 → Int32 → Mem → Option (Int32 × Mem)) (ls : List (Option Value)) (s : Mem) : Option (Int32 × Mem) := match lk ls 0, lk ls 1, lk ls 2, lk ls 3, lk ls 4, lk ls 5, lk ls 6 with
  | some (.ref a0), some (.int a1), some (.int a2), some (.int a3), some (.int a4), some (.int a5), some (.int a6) => cbr (Nat.beq a0 123) (f a1 a2 a3 a4 a5 a6 s) none
  | _, _, _, _, _, _, _ => none
noncomputable def A_R_isVisited (av : List Value) (s : Mem) : Option (Int32 × Mem) := match av with
  | [.ref a0, .int a1, .int a2, .int a3, .int a4] => cbr (Nat.beq a0 123) (F_R_isVisited a1 a2 a3 a4 s) none
  | _ => none
noncomputable def C_R_isVisited (k : Nat) (av : List Value) (s : Mem) : Option (Int32 × Mem) := cbr (Nat.beq k 255) (A_R_isTrodden av s) (none)
set_option maxRecDepth 100000 in
theorem e_R_isVisited_4  (n : Nat) (x1 : Int32) (x2 : Int32) (x3 : Int32) (x4 : Int32) (x5 : Int32) (x6 : Int32) (s : Mem) : F_R_isVisited_4 (n + 1) x1 x2 x3 x4 x5 x6 s = xs C_R_isVisited (fun k ls s => cbr (Nat.beq k 0) (A_R_isVisited_4 (F_R_isVisited_4 n) ls s) (none)) 0 (fun _ => 0) K_R_isVisited 700 (K_R_isVisited.drop 5) [some (.ref 123), some (.int x1), some (.int x2), some (.int x3), some (.int x4), some (.int x5), some (.int x6), none, none] [] s := rfl
set_option maxRecDepth 100000 in
theorem e_R_isVisited (x1 : Int32) (x2 : Int32) (x3 : Int32) (x4 : Int32) (s : Mem) : F_R_isVisited x1 x2 x3 x4 s = xs C_R_isVisited (fun k ls s => cbr (Nat.beq k 0) (A_R_isVisited_4 (F_R_isVisited_4 gF) ls s) (none)) 0 (fun _ => 0) K_R_isVisited 700 K_R_isVisited [some (.ref 123), some (.int x1), some (.int x2), some (.int x3), some (.int x4), none, none, none, none] [] s := rfl
def K_R_visit : MC := [(0, .aload 0, 0), (1, .lconst 0, 0), (2, .putfield 1100, 0), (5, .aload 0, 0), (6, .iload 1, 0), (7, .invokeinterface 200 194, 0), (10, .ifCond .eq 19, 0), (13, .aload 0, 0), (14, .iload 3, 0), (15, .lconst 1, 0), (16, .iconst 0, 200), (19, .invokeinterface 187 196, 0), (22, .ifCond .eq 19, 0), (25, .aload 0, 0), (26, .iload 4, 0), (28, .lconst 1, 0), (29, .iconst 0, 5), (30, .invokeinterface 187 196, 0), (33, .ifCond .ne 21, 0), (36, .iconst 0, (-1)), (37, .ireturn, 0), (38, .aload 0, 0), (39, .multianewarray 194 193, 0), (42, .aload 0, 0), (43, .iload 1, 0), (44, .iload 2, 0), (45, .iload 3, 0), (46, .iload 4, 0), (48, .invokeinterface 256 197, 0), (51, .ireturn, 0)]
noncomputable def F_R_visit (x1 : Int32) (x2 : Int32) (x3 : Int32) (x4 : Int32) (s : Mem) : Option (Int32 × Mem) :=
  let s1 : Mem := mw s 123 0 0
  (F_R_isFlight x1 s1).bind fun z2 =>
  if z2.1 = 0 then
    some ((-1), z2.2)
  else
  (F_R_isIn x3 1 200 z2.2).bind fun z3 =>
  if z3.1 = 0 then
    some ((-1), z3.2)
  else
  (F_R_isIn x4 1 5 z3.2).bind fun z4 =>
  if z4.1 = 0 then
    some ((-1), z4.2)
  else
  (F_R_keepsAhead z4.2).bind fun z5 =>
  (F_R_isVisited x1 x2 x3 x4 z5.2).bind fun z6 =>
  some (z6.1, z6.2)
noncomputable def A_R_visit (av : List Value) (s : Mem) : Option (Int32 × Mem) := match av with
  | [.ref a0, .int a1, .int a2, .int a3, .int a4] => cbr (Nat.beq a0 123) (F_R_visit a1 a2 a3 a4 s) none
  | _ => none
noncomputable def C_R_visit (k : Nat) (av : List Value) (s : Mem) : Option (Int32 × Mem) := cbr (Nat.beq k 200) (A_R_isFlight av s) (cbr (Nat.beq k 187) (A_R_isIn av s) (cbr (Nat.beq k 194) (A_R_keepsAhead av s) (cbr (Nat.beq k 256) (A_R_isVisited av s) (none))))
set_option maxRecDepth 100000 in
theorem e_R_visit (x1 : Int32) (x2 : Int32) (x3 : Int32) (x4 : Int32) (s : Mem) : F_R_visit x1 x2 x3 x4 s = xs C_R_visit (fun k ls s => none) 0 (fun _ => 0) K_R_visit 700 K_R_visit [some (.ref 123), some (.int x1), some (.int x2), some (.int x3), some (.int x4)] [] s := rfl
def K_R_dawns : MC := [(0, .aload 0, 0), (1, .getstatic 1101, 0), (4, .iconst 0, 485), (7, .iload 1, 0), (8, .iadd, 0), (9, .iaload, 0), (10, .aload 0, 0), (11, .getstatic 1101, 0), (14, .iconst 0, 677), (17, .iload 1, 0), (18, .iadd, 0), (19, .iaload, 0), (20, .isub, 0), (21, .iconst 0, 3), (22, .if_icmp .lt 56, 0), (25, .aload 0, 0), (26, .getstatic 1101, 0), (29, .iconst 0, 197), (32, .iload 1, 0), (33, .iadd, 0), (34, .aload 0, 0), (35, .iconst 0, 9), (37, .aload 0, 0), (38, .getstatic 1101, 0), (41, .iconst 0, 197), (44, .iload 1, 0), (45, .iadd, 0), (46, .iaload, 0), (47, .aload 0, 0), (48, .iload 1, 0), (49, .invokeinterface 251 194, 0), (52, .iadd, 0), (53, .invokeinterface 190 195, 0), (56, .iastore, 0), (57, .aload 0, 0), (58, .getstatic 1101, 0), (61, .iconst 0, 677), (64, .iload 1, 0), (65, .iadd, 0), (66, .aload 0, 0), (67, .getstatic 1101, 0), (70, .iconst 0, 485), (73, .iload 1, 0), (74, .iadd, 0), (75, .iaload, 0), (76, .iastore, 0), (77, .aload 0, 0), (78, .iconst 0, 3), (79, .iload 1, 0), (80, .aload 0, 0), (81, .getstatic 1101, 0), (84, .iconst 0, 197), (87, .iload 1, 0), (88, .iadd, 0), (89, .iaload, 0), (90, .multianewarray 252 196, 0), (93, .aload 0, 0), (94, .iload 1, 0), (95, .invokeinterface 202 194, 0), (98, .ifCond .ne 81, 0), (101, .aload 0, 0), (102, .getstatic 1101, 0), (105, .iconst 0, 581), (108, .iload 1, 0), (109, .iadd, 0), (110, .iaload, 0), (111, .iconst 0, 5), (112, .if_icmp .le 81, 0), (115, .aload 0, 0), (116, .getstatic 1101, 0), (119, .iconst 0, 581), (122, .iload 1, 0), (123, .iadd, 0), (124, .iaload, 0), (125, .aload 0, 0), (126, .getstatic 1101, 0), (129, .iconst 0, 485), (132, .iload 1, 0), (133, .iadd, 0), (134, .iaload, 0), (135, .if_icmp .gt 82, 0), (138, .return_, 0), (139, .aload 0, 0), (140, .getstatic 1101, 0), (143, .iconst 0, 293), (146, .iload 1, 0), (147, .iadd, 0), (148, .iconst 0, 2), (149, .iastore, 0), (150, .aload 0, 0), (151, .iconst 0, 4), (152, .iload 1, 0), (153, .aload 0, 0), (154, .getstatic 1101, 0), (157, .iconst 0, 581), (160, .iload 1, 0), (161, .iadd, 0), (162, .iaload, 0), (163, .multianewarray 252 196, 0), (166, .return_, 0)]
noncomputable def F_R_dawns (x1 : Int32) (s : Mem) : Option (Int32 × Mem) :=
  (ld s 124 (485 + x1)).bind fun v1 =>
  (ld s 124 (677 + x1)).bind fun v2 =>
  if (v1 - v2) < 3 then
    (F_R_isGone x1 s).bind fun z3 =>
    if z3.1 = 0 then
      (ld z3.2 124 (581 + x1)).bind fun v4 =>
      if v4 ≤ 5 then
        some (0, z3.2)
      else
      (ld z3.2 124 (581 + x1)).bind fun v5 =>
      (ld z3.2 124 (485 + x1)).bind fun v6 =>
      if v6 < v5 then
        (sd z3.2 124 (293 + x1) 2).bind fun s7 =>
        (ld s7 124 (581 + x1)).bind fun v8 =>
        (F_R_notes 4 x1 v8 s7).bind fun z9 =>
        some (0, z9.2)
      else
      some (0, z3.2)
    else
    some (0, z3.2)
  else
  (ld s 124 (197 + x1)).bind fun v10 =>
  (F_R_risesOf x1 s).bind fun z11 =>
  (F_R_lesser 9 (v10 + z11.1) z11.2).bind fun z12 =>
  (sd z12.2 124 (197 + x1) z12.1).bind fun s13 =>
  (ld s13 124 (485 + x1)).bind fun v14 =>
  (sd s13 124 (677 + x1) v14).bind fun s15 =>
  (ld s15 124 (197 + x1)).bind fun v16 =>
  (F_R_notes 3 x1 v16 s15).bind fun z17 =>
  (F_R_isGone x1 z17.2).bind fun z18 =>
  if z18.1 = 0 then
    (ld z18.2 124 (581 + x1)).bind fun v19 =>
    if v19 ≤ 5 then
      some (0, z18.2)
    else
    (ld z18.2 124 (581 + x1)).bind fun v20 =>
    (ld z18.2 124 (485 + x1)).bind fun v21 =>
    if v21 < v20 then
      (sd z18.2 124 (293 + x1) 2).bind fun s22 =>
      (ld s22 124 (581 + x1)).bind fun v23 =>
      (F_R_notes 4 x1 v23 s22).bind fun z24 =>
      some (0, z24.2)
    else
    some (0, z18.2)
  else
  some (0, z18.2)
noncomputable def A_R_dawns (av : List Value) (s : Mem) : Option (Int32 × Mem) := match av with
  | [.ref a0, .int a1] => cbr (Nat.beq a0 123) (F_R_dawns a1 s) none
  | _ => none
noncomputable def C_R_dawns (k : Nat) (av : List Value) (s : Mem) : Option (Int32 × Mem) := cbr (Nat.beq k 202) (A_R_isGone av s) (cbr (Nat.beq k 252) (A_R_notes av s) (cbr (Nat.beq k 251) (A_R_risesOf av s) (cbr (Nat.beq k 190) (A_R_lesser av s) (none))))
set_option maxRecDepth 100000 in
theorem e_R_dawns (x1 : Int32) (s : Mem) : F_R_dawns x1 s = xs C_R_dawns (fun k ls s => none) 0 (fun _ => 0) K_R_dawns 700 K_R_dawns [some (.ref 123), some (.int x1)] [] s := rfl
def K_R_goesBy : MC := [(0, .lconst 0, 0), (1, .istore 1, 0), (2, .ret 0, 0), (2, .iload 1, 0), (3, .iconst 0, 3), (4, .aload 0, 0), (5, .getfield 1133, 0), (8, .imul, 0), (9, .if_icmp .ge 37, 0), (12, .aload 0, 0), (13, .getstatic 1134, 0), (16, .iload 1, 0), (17, .iaload, 0), (18, .aload 0, 0), (19, .getstatic 1101, 0), (22, .lconst 0, 0), (23, .iaload, 0), (24, .if_icmp .ne 32, 0), (27, .aload 0, 0), (28, .aload 0, 0), (29, .getstatic 1134, 0), (32, .iload 1, 0), (33, .lconst 1, 0), (34, .iadd, 0), (35, .iaload, 0), (36, .aload 0, 0), (37, .getstatic 1134, 0), (40, .iload 1, 0), (41, .iconst 0, 2), (42, .iadd, 0), (43, .iaload, 0), (44, .multianewarray 253 195, 0), (47, .iload 1, 0), (48, .iconst 0, 3), (49, .iadd, 0), (50, .istore 1, 0), (51, .goto 2, 0), (54, .lconst 0, 0), (55, .istore 1, 0), (56, .lconst 0, 0), (57, .istore 2, 0), (58, .ret 1, 0), (58, .iload 2, 0), (59, .iconst 0, 5), (60, .aload 0, 0), (61, .getfield 1135, 0), (64, .imul, 0), (65, .if_icmp .ge 96, 0), (68, .aload 0, 0), (69, .getstatic 1136, 0), (72, .iload 2, 0), (73, .iaload, 0), (74, .aload 0, 0), (75, .getstatic 1101, 0), (78, .lconst 0, 0), (79, .iaload, 0), (80, .if_icmp .ne 91, 0), (83, .iload 1, 0), (84, .aload 0, 0), (85, .aload 0, 0), (86, .getstatic 1136, 0), (89, .iload 2, 0), (90, .lconst 1, 0), (91, .iadd, 0), (92, .iaload, 0), (93, .aload 0, 0), (94, .getstatic 1136, 0), (97, .iload 2, 0), (98, .iconst 0, 2), (99, .iadd, 0), (100, .iaload, 0), (101, .lconst 1, 0), (102, .if_icmp .ne 75, 0), (105, .lconst 1, 0), (106, .goto 76, 0), (109, .lconst 0, 0), (110, .aload 0, 0), (111, .getstatic 1136, 0), (114, .iload 2, 0), (115, .iconst 0, 3), (116, .iadd, 0), (117, .iaload, 0), (118, .aload 0, 0), (119, .getstatic 1136, 0), (122, .iload 2, 0), (123, .iconst 0, 4), (124, .iadd, 0), (125, .iaload, 0), (126, .invokeinterface 256 197, 0), (129, .iadd, 0), (130, .istore 1, 0), (131, .iload 2, 0), (132, .iconst 0, 5), (133, .iadd, 0), (134, .istore 2, 0), (135, .goto 41, 0), (138, .lconst 0, 0), (139, .istore 2, 0), (140, .ret 2, 0), (140, .iload 2, 0), (141, .aload 0, 0), (142, .getfield 1106, 0), (145, .if_icmp .ge 123, 0), (148, .lconst 0, 0), (149, .istore 3, 0), (150, .ret 3, 0), (150, .iload 3, 0), (151, .aload 0, 0), (152, .getstatic 1107, 0), (155, .iload 2, 0), (156, .iaload, 0), (157, .if_icmp .ge 121, 0), (160, .aload 0, 0), (161, .iconst 0, 16), (163, .iload 2, 0), (164, .imul, 0), (165, .iload 3, 0), (166, .iadd, 0), (167, .multianewarray 258 194, 0), (170, .iinc 3 0, 1), (173, .goto 105, 0), (176, .iinc 2 0, 1), (179, .goto 98, 0), (182, .aload 0, 0), (183, .getstatic 1101, 0), (186, .lconst 0, 0), (187, .aload 0, 0), (188, .getstatic 1101, 0), (191, .lconst 0, 0), (192, .iaload, 0), (193, .lconst 1, 0), (194, .iadd, 0), (195, .iastore, 0), (196, .iload 1, 0), (197, .ireturn, 0)]
noncomputable def F_R_goesBy_102 (k96 : Int32 → Int32 → Mem → Option (Int32 × Mem)) : Nat → Int32 → Int32 → Int32 → Mem → Option (Int32 × Mem)
  | 0, _, _, _, _ => none
  | n + 1, x1, x2, x3, s =>
    (ld s 127 x2).bind fun v1 =>
    if v1 ≤ x3 then
      k96 x1 (x2 + 1) s
    else
    (F_R_dawns ((16 * x2) + x3) s).bind fun z2 =>
    F_R_goesBy_102 k96 n x1 x2 (x3 + 1) z2.2
noncomputable def F_R_goesBy_96 : Nat → Int32 → Int32 → Mem → Option (Int32 × Mem)
  | 0, _, _, _ => none
  | n + 1, x1, x2, s =>
    if (s 123 6) ≤ x2 then
      (ld s 124 0).bind fun v1 =>
      (sd s 124 0 (v1 + 1)).bind fun s2 =>
      some (x1, s2)
    else
    F_R_goesBy_102 (F_R_goesBy_96 n) gF x1 x2 0 s
noncomputable def F_R_goesBy_40 : Nat → Int32 → Int32 → Mem → Option (Int32 × Mem)
  | 0, _, _, _ => none
  | n + 1, x1, x2, s =>
    if (5 * (s 123 35)) ≤ x2 then
      F_R_goesBy_96 gF x1 0 s
    else
    (ld s 141 x2).bind fun v1 =>
    (ld s 124 0).bind fun v2 =>
    if v1 = v2 then
      (ld s 141 (x2 + 1)).bind fun v3 =>
      (ld s 141 (x2 + 2)).bind fun v4 =>
      if v4 = 1 then
        (ld s 141 (x2 + 3)).bind fun v5 =>
        (ld s 141 (x2 + 4)).bind fun v6 =>
        (F_R_isVisited v3 1 v5 v6 s).bind fun z7 =>
        F_R_goesBy_40 n (x1 + z7.1) (x2 + 5) z7.2
      else
      (ld s 141 (x2 + 3)).bind fun v8 =>
      (ld s 141 (x2 + 4)).bind fun v9 =>
      (F_R_isVisited v3 0 v8 v9 s).bind fun z10 =>
      F_R_goesBy_40 n (x1 + z10.1) (x2 + 5) z10.2
    else
    F_R_goesBy_40 n x1 (x2 + 5) s
noncomputable def F_R_goesBy_2 : Nat → Int32 → Mem → Option (Int32 × Mem)
  | 0, _, _ => none
  | n + 1, x1, s =>
    if (3 * (s 123 33)) ≤ x1 then
      F_R_goesBy_40 gF 0 0 s
    else
    (ld s 140 x1).bind fun v1 =>
    (ld s 124 0).bind fun v2 =>
    if v1 = v2 then
      (ld s 140 (x1 + 1)).bind fun v3 =>
      (ld s 140 (x1 + 2)).bind fun v4 =>
      (F_R_isOrdered v3 v4 s).bind fun z5 =>
      F_R_goesBy_2 n (x1 + 3) z5.2
    else
    F_R_goesBy_2 n (x1 + 3) s
noncomputable def F_R_goesBy  (s : Mem) : Option (Int32 × Mem) :=
  F_R_goesBy_2 gF 0 s
def A_R_goesBy_2 (f : Int32 → Mem → Option (Int32 × Mem)) (ls : List (Option Value)) (s : Mem) : Option (Int32 × Mem) := match lk ls 0, lk ls 1 with
  | some (.ref a0), some (.int a1) => cbr (Nat.beq a0 123) (f a1 s) none
  | _, _ => none
def A_R_goesBy_40 (f : Int32 → Int32 → Mem → Option (Int32 × Mem)) (ls : List (Option Value)) (s : Mem) : Option (Int32 × Mem) := match lk ls 0, lk ls 1, lk ls 2 with
  | some (.ref a0), some (.int a1), some (.int a2) => cbr (Nat.beq a0 123) (f a1 a2 s) none
  | _, _, _ => none
def A_R_goesBy_96 (f : Int32 → Int32 → Mem → Option (Int32 × Mem)) (ls : List (Option Value)) (s : Mem) : Option (Int32 × Mem) := match lk ls 0, lk ls 1, lk ls 2 with
  | some (.ref a0), some (.int a1), some (.int a2) => cbr (Nat.beq a0 123) (f a1 a2 s) none
  | _, _, _ => none
def A_R_goesBy_102 (f : Int32 → Int32 → Int32 → Mem → Option (Int32 × Mem)) (ls : List (Option Value)) (s : Mem) : Option (Int32 × Mem) := match lk ls 0, lk ls 1, lk ls 2, lk ls 3 with
  | some (.ref a0), some (.int a1), some (.int a2), some (.int a3) => cbr (Nat.beq a0 123) (f a1 a2 a3 s) none
  | _, _, _, _ => none
noncomputable def A_R_goesBy (av : List Value) (s : Mem) : Option (Int32 × Mem) := match av with
  | [.ref a0] => cbr (Nat.beq a0 123) (F_R_goesBy s) none
  | _ => none
noncomputable def C_R_goesBy (k : Nat) (av : List Value) (s : Mem) : Option (Int32 × Mem) := cbr (Nat.beq k 253) (A_R_isOrdered av s) (cbr (Nat.beq k 256) (A_R_isVisited av s) (cbr (Nat.beq k 258) (A_R_dawns av s) (none)))
set_option maxRecDepth 100000 in
theorem e_R_goesBy_102 (k96 : Int32 → Int32 → Mem → Option (Int32 × Mem)) (n : Nat) (x1 : Int32) (x2 : Int32) (x3 : Int32) (s : Mem) : F_R_goesBy_102 k96 (n + 1) x1 x2 x3 s = xs C_R_goesBy (fun k ls s => cbr (Nat.beq k 2) (A_R_goesBy_96 (k96) ls s) (cbr (Nat.beq k 3) (A_R_goesBy_102 (F_R_goesBy_102 k96 n) ls s) (none))) 0 (fun _ => 0) K_R_goesBy 700 (K_R_goesBy.drop 106) [some (.ref 123), some (.int x1), some (.int x2), some (.int x3)] [] s := rfl
set_option maxRecDepth 100000 in
theorem e_R_goesBy_96  (n : Nat) (x1 : Int32) (x2 : Int32) (s : Mem) : F_R_goesBy_96 (n + 1) x1 x2 s = xs C_R_goesBy (fun k ls s => cbr (Nat.beq k 3) (A_R_goesBy_102 (F_R_goesBy_102 (F_R_goesBy_96 n) gF) ls s) (none)) 0 (fun _ => 0) K_R_goesBy 700 (K_R_goesBy.drop 99) [some (.ref 123), some (.int x1), some (.int x2), none] [] s := rfl
set_option maxRecDepth 100000 in
theorem e_R_goesBy_40  (n : Nat) (x1 : Int32) (x2 : Int32) (s : Mem) : F_R_goesBy_40 (n + 1) x1 x2 s = xs C_R_goesBy (fun k ls s => cbr (Nat.beq k 1) (A_R_goesBy_40 (F_R_goesBy_40 n) ls s) (cbr (Nat.beq k 2) (A_R_goesBy_96 (F_R_goesBy_96 gF) ls s) (none))) 0 (fun _ => 0) K_R_goesBy 700 (K_R_goesBy.drop 42) [some (.ref 123), some (.int x1), some (.int x2), none] [] s := rfl
set_option maxRecDepth 100000 in
theorem e_R_goesBy_2  (n : Nat) (x1 : Int32) (s : Mem) : F_R_goesBy_2 (n + 1) x1 s = xs C_R_goesBy (fun k ls s => cbr (Nat.beq k 0) (A_R_goesBy_2 (F_R_goesBy_2 n) ls s) (cbr (Nat.beq k 1) (A_R_goesBy_40 (F_R_goesBy_40 gF) ls s) (none))) 0 (fun _ => 0) K_R_goesBy 700 (K_R_goesBy.drop 3) [some (.ref 123), some (.int x1), none, none] [] s := rfl
set_option maxRecDepth 100000 in
theorem e_R_goesBy  (s : Mem) : F_R_goesBy s = xs C_R_goesBy (fun k ls s => cbr (Nat.beq k 0) (A_R_goesBy_2 (F_R_goesBy_2 gF) ls s) (none)) 0 (fun _ => 0) K_R_goesBy 700 K_R_goesBy [some (.ref 123), none, none, none] [] s := rfl
def K_R_nights : MC := [(0, .aload 0, 0), (1, .lconst 0, 0), (2, .putfield 1100, 0), (5, .aload 0, 0), (6, .iload 1, 0), (7, .lconst 1, 0), (8, .iconst 0, 60), (10, .invokeinterface 187 196, 0), (13, .ifCond .eq 17, 0), (16, .aload 0, 0), (17, .getstatic 1101, 0), (20, .lconst 0, 0), (21, .iaload, 0), (22, .iload 1, 0), (23, .iadd, 0), (24, .iconst 0, 9999), (27, .if_icmp .le 19, 0), (30, .iconst 0, (-1)), (31, .ireturn, 0), (32, .lconst 0, 0), (33, .istore 2, 0), (34, .lconst 0, 0), (35, .istore 3, 0), (36, .ret 0, 0), (36, .iload 3, 0), (37, .iload 1, 0), (38, .if_icmp .ge 36, 0), (41, .aload 0, 0), (42, .multianewarray 194 193, 0), (45, .iload 2, 0), (46, .aload 0, 0), (47, .invokeinterface 259 193, 0), (50, .iadd, 0), (51, .istore 2, 0), (52, .iinc 3 0, 1), (55, .goto 23, 0), (58, .iload 2, 0), (59, .ireturn, 0)]
noncomputable def F_R_nights_23 : Nat → Int32 → Int32 → Int32 → Mem → Option (Int32 × Mem)
  | 0, _, _, _, _ => none
  | n + 1, x1, x2, x3, s =>
    if x1 ≤ x3 then
      some (x2, s)
    else
    (F_R_keepsAhead s).bind fun z1 =>
    (F_R_goesBy z1.2).bind fun z2 =>
    F_R_nights_23 n x1 (x2 + z2.1) (x3 + 1) z2.2
noncomputable def F_R_nights (x1 : Int32) (s : Mem) : Option (Int32 × Mem) :=
  let s1 : Mem := mw s 123 0 0
  (F_R_isIn x1 1 60 s1).bind fun z2 =>
  if z2.1 = 0 then
    some ((-1), z2.2)
  else
  (ld z2.2 124 0).bind fun v3 =>
  if (v3 + x1) ≤ 9999 then
    F_R_nights_23 gF x1 0 0 z2.2
  else
  some ((-1), z2.2)
def A_R_nights_23 (f : Int32 → Int32 → Int32 → Mem → Option (Int32 × Mem)) (ls : List (Option Value)) (s : Mem) : Option (Int32 × Mem) := match lk ls 0, lk ls 1, lk ls 2, lk ls 3 with
  | some (.ref a0), some (.int a1), some (.int a2), some (.int a3) => cbr (Nat.beq a0 123) (f a1 a2 a3 s) none
  | _, _, _, _ => none
noncomputable def A_R_nights (av : List Value) (s : Mem) : Option (Int32 × Mem) := match av with
  | [.ref a0, .int a1] => cbr (Nat.beq a0 123) (F_R_nights a1 s) none
  | _ => none
noncomputable def C_R_nights (k : Nat) (av : List Value) (s : Mem) : Option (Int32 × Mem) := cbr (Nat.beq k 187) (A_R_isIn av s) (cbr (Nat.beq k 194) (A_R_keepsAhead av s) (cbr (Nat.beq k 259) (A_R_goesBy av s) (none)))
set_option maxRecDepth 100000 in
theorem e_R_nights_23  (n : Nat) (x1 : Int32) (x2 : Int32) (x3 : Int32) (s : Mem) : F_R_nights_23 (n + 1) x1 x2 x3 s = xs C_R_nights (fun k ls s => cbr (Nat.beq k 0) (A_R_nights_23 (F_R_nights_23 n) ls s) (none)) 0 (fun _ => 0) K_R_nights 700 (K_R_nights.drop 24) [some (.ref 123), some (.int x1), some (.int x2), some (.int x3)] [] s := rfl
set_option maxRecDepth 100000 in
theorem e_R_nights (x1 : Int32) (s : Mem) : F_R_nights x1 s = xs C_R_nights (fun k ls s => cbr (Nat.beq k 0) (A_R_nights_23 (F_R_nights_23 gF) ls s) (none)) 0 (fun _ => 0) K_R_nights 700 K_R_nights [some (.ref 123), some (.int x1), none, none] [] s := rfl
def K_R_doorsOf : MC := [(0, .lconst 0, 0), (1, .istore 2, 0), (2, .lconst 0, 0), (3, .istore 3, 0), (4, .ret 0, 0), (4, .iload 3, 0), (5, .iconst 0, 2), (6, .aload 0, 0), (7, .getfield 1137, 0), (10, .imul, 0), (11, .if_icmp .ge 23, 0), (14, .aload 0, 0), (15, .getstatic 1138, 0), (18, .iload 3, 0), (19, .iaload, 0), (20, .iload 1, 0), (21, .if_icmp .ne 21, 0), (24, .iload 2, 0), (25, .lconst 1, 0), (26, .iadd, 0), (27, .istore 2, 0), (28, .iinc 3 0, 1), (31, .goto 4, 0), (34, .iload 2, 0), (35, .ireturn, 0)]
noncomputable def F_R_doorsOf_4 : Nat → Int32 → Int32 → Int32 → Mem → Option (Int32 × Mem)
  | 0, _, _, _, _ => none
  | n + 1, x1, x2, x3, s =>
    if (2 * (s 123 37)) ≤ x3 then
      some (x2, s)
    else
    (ld s 142 x3).bind fun v1 =>
    if v1 = x1 then
      F_R_doorsOf_4 n x1 (x2 + 1) (x3 + 1) s
    else
    F_R_doorsOf_4 n x1 x2 (x3 + 1) s
noncomputable def F_R_doorsOf (x1 : Int32) (s : Mem) : Option (Int32 × Mem) :=
  F_R_doorsOf_4 gF x1 0 0 s
def A_R_doorsOf_4 (f : Int32 → Int32 → Int32 → Mem → Option (Int32 × Mem)) (ls : List (Option Value)) (s : Mem) : Option (Int32 × Mem) := match lk ls 0, lk ls 1, lk ls 2, lk ls 3 with
  | some (.ref a0), some (.int a1), some (.int a2), some (.int a3) => cbr (Nat.beq a0 123) (f a1 a2 a3 s) none
  | _, _, _, _ => none
noncomputable def A_R_doorsOf (av : List Value) (s : Mem) : Option (Int32 × Mem) := match av with
  | [.ref a0, .int a1] => cbr (Nat.beq a0 123) (F_R_doorsOf a1 s) none
  | _ => none
noncomputable def C_R_doorsOf (k : Nat) (av : List Value) (s : Mem) : Option (Int32 × Mem) := none
set_option maxRecDepth 100000 in
theorem e_R_doorsOf_4  (n : Nat) (x1 : Int32) (x2 : Int32) (x3 : Int32) (s : Mem) : F_R_doorsOf_4 (n + 1) x1 x2 x3 s = xs C_R_doorsOf (fun k ls s => cbr (Nat.beq k 0) (A_R_doorsOf_4 (F_R_doorsOf_4 n) ls s) (none)) 0 (fun _ => 0) K_R_doorsOf 700 (K_R_doorsOf.drop 5) [some (.ref 123), some (.int x1), some (.int x2), some (.int x3)] [] s := rfl
set_option maxRecDepth 100000 in
theorem e_R_doorsOf (x1 : Int32) (s : Mem) : F_R_doorsOf x1 s = xs C_R_doorsOf (fun k ls s => cbr (Nat.beq k 0) (A_R_doorsOf_4 (F_R_doorsOf_4 gF) ls s) (none)) 0 (fun _ => 0) K_R_doorsOf 700 K_R_doorsOf [some (.ref 123), some (.int x1), none, none] [] s := rfl
def K_R_of : MC := [(0, .aload 0, 0), (1, .lconst 0, 0), (2, .putfield 1100, 0), (5, .aload 0, 0), (6, .iload 1, 0), (7, .iload 2, 0), (8, .invokeinterface 201 195, 0), (11, .ifCond .ne 10, 0), (14, .iconst 0, (-1)), (15, .ireturn, 0), (16, .iconst 0, 16), (18, .iload 1, 0), (19, .imul, 0), (20, .iload 2, 0), (21, .iadd, 0), (22, .istore 4, 0), (24, .iload 3, 0), (25, .ifCond .ne 23, 0), (28, .aload 0, 0), (29, .getstatic 1108, 0), (32, .iload 4, 0), (34, .iaload, 0), (35, .ireturn, 0), (36, .aload 0, 0), (37, .iload 3, 0), (38, .lconst 1, 0), (39, .iconst 0, 7), (41, .invokeinterface 187 196, 0), (44, .ifCond .eq 42, 0), (47, .aload 0, 0), (48, .getstatic 1101, 0), (51, .iconst 0, 5), (52, .iconst 0, 96), (54, .iload 3, 0), (55, .lconst 1, 0), (56, .isub, 0), (57, .imul, 0), (58, .iadd, 0), (59, .iload 4, 0), (61, .iadd, 0), (62, .iaload, 0), (63, .ireturn, 0), (64, .iload 3, 0), (65, .iconst 0, 8), (67, .if_icmp .ne 49, 0), (70, .aload 0, 0), (71, .iload 4, 0), (73, .invokeinterface 251 194, 0), (76, .goto 57, 0), (79, .iload 3, 0), (80, .iconst 0, 9), (82, .if_icmp .ne 56, 0), (85, .aload 0, 0), (86, .iload 4, 0), (88, .invokeinterface 261 194, 0), (91, .goto 57, 0), (94, .iconst 0, (-1)), (95, .ireturn, 0)]
noncomputable def F_R_of (x1 : Int32) (x2 : Int32) (x3 : Int32) (s : Mem) : Option (Int32 × Mem) :=
  let s1 : Mem := mw s 123 0 0
  (F_R_isStep x1 x2 s1).bind fun z2 =>
  if z2.1 = 0 then
    some ((-1), z2.2)
  else
  if x3 = 0 then
    (ld z2.2 128 ((16 * x1) + x2)).bind fun v3 =>
    some (v3, z2.2)
  else
  (F_R_isIn x3 1 7 z2.2).bind fun z4 =>
  if z4.1 = 0 then
    if x3 = 8 then
      (F_R_risesOf ((16 * x1) + x2) z4.2).bind fun z5 =>
      some (z5.1, z5.2)
    else
    if x3 = 9 then
      (F_R_doorsOf ((16 * x1) + x2) z4.2).bind fun z6 =>
      some (z6.1, z6.2)
    else
    some ((-1), z4.2)
  else
  (ld z4.2 124 ((5 + (96 * (x3 - 1))) + ((16 * x1) + x2))).bind fun v7 =>
  some (v7, z4.2)
noncomputable def A_R_of (av : List Value) (s : Mem) : Option (Int32 × Mem) := match av with
  | [.ref a0, .int a1, .int a2, .int a3] => cbr (Nat.beq a0 123) (F_R_of a1 a2 a3 s) none
  | _ => none
noncomputable def C_R_of (k : Nat) (av : List Value) (s : Mem) : Option (Int32 × Mem) := cbr (Nat.beq k 201) (A_R_isStep av s) (cbr (Nat.beq k 187) (A_R_isIn av s) (cbr (Nat.beq k 251) (A_R_risesOf av s) (cbr (Nat.beq k 261) (A_R_doorsOf av s) (none))))
set_option maxRecDepth 100000 in
theorem e_R_of (x1 : Int32) (x2 : Int32) (x3 : Int32) (s : Mem) : F_R_of x1 x2 x3 s = xs C_R_of (fun k ls s => none) 0 (fun _ => 0) K_R_of 700 K_R_of [some (.ref 123), some (.int x1), some (.int x2), some (.int x3), none] [] s := rfl
def K_R_canTread : MC := [(0, .aload 0, 0), (1, .iload 1, 0), (2, .iload 2, 0), (3, .invokeinterface 201 195, 0), (6, .ifCond .eq 19, 0), (9, .aload 0, 0), (10, .iload 3, 0), (11, .lconst 1, 0), (12, .iconst 0, 200), (15, .invokeinterface 187 196, 0), (18, .ifCond .eq 19, 0), (21, .aload 0, 0), (22, .iload 4, 0), (24, .lconst 1, 0), (25, .iconst 0, 5), (26, .invokeinterface 187 196, 0), (29, .ifCond .eq 19, 0), (32, .lconst 1, 0), (33, .goto 20, 0), (36, .lconst 0, 0), (37, .lreturn, 0)]
noncomputable def F_R_canTread (x1 : Int32) (x2 : Int32) (x3 : Int32) (x4 : Int32) (s : Mem) : Option (Int32 × Mem) :=
  (F_R_isStep x1 x2 s).bind fun z1 =>
  if z1.1 = 0 then
    some (0, z1.2)
  else
  (F_R_isIn x3 1 200 z1.2).bind fun z2 =>
  if z2.1 = 0 then
    some (0, z2.2)
  else
  (F_R_isIn x4 1 5 z2.2).bind fun z3 =>
  if z3.1 = 0 then
    some (0, z3.2)
  else
  some (1, z3.2)
noncomputable def A_R_canTread (av : List Value) (s : Mem) : Option (Int32 × Mem) := match av with
  | [.ref a0, .int a1, .int a2, .int a3, .int a4] => cbr (Nat.beq a0 123) (F_R_canTread a1 a2 a3 a4 s) none
  | _ => none
noncomputable def C_R_canTread (k : Nat) (av : List Value) (s : Mem) : Option (Int32 × Mem) := cbr (Nat.beq k 201) (A_R_isStep av s) (cbr (Nat.beq k 187) (A_R_isIn av s) (none))
set_option maxRecDepth 100000 in
theorem e_R_canTread (x1 : Int32) (x2 : Int32) (x3 : Int32) (x4 : Int32) (s : Mem) : F_R_canTread x1 x2 x3 x4 s = xs C_R_canTread (fun k ls s => none) 0 (fun _ => 0) K_R_canTread 700 K_R_canTread [some (.ref 123), some (.int x1), some (.int x2), some (.int x3), some (.int x4)] [] s := rfl
def K_R_creaks : MC := [(0, .aload 0, 0), (1, .lconst 0, 0), (2, .putfield 1100, 0), (5, .aload 0, 0), (6, .iload 1, 0), (7, .iload 2, 0), (8, .iload 3, 0), (9, .iload 4, 0), (11, .invokeinterface 263 197, 0), (14, .ifCond .eq 20, 0), (17, .aload 0, 0), (18, .iconst 0, 16), (20, .iload 1, 0), (21, .imul, 0), (22, .iload 2, 0), (23, .iadd, 0), (24, .iload 3, 0), (25, .iload 4, 0), (27, .invokeinterface 249 196, 0), (30, .goto 21, 0), (33, .iconst 0, (-1)), (34, .ireturn, 0)]
noncomputable def F_R_creaks (x1 : Int32) (x2 : Int32) (x3 : Int32) (x4 : Int32) (s : Mem) : Option (Int32 × Mem) :=
  let s1 : Mem := mw s 123 0 0
  (F_R_canTread x1 x2 x3 x4 s1).bind fun z2 =>
  if z2.1 = 0 then
    some ((-1), z2.2)
  else
  (F_R_creaksOf ((16 * x1) + x2) x3 x4 z2.2).bind fun z3 =>
  some (z3.1, z3.2)
noncomputable def A_R_creaks (av : List Value) (s : Mem) : Option (Int32 × Mem) := match av with
  | [.ref a0, .int a1, .int a2, .int a3, .int a4] => cbr (Nat.beq a0 123) (F_R_creaks a1 a2 a3 a4 s) none
  | _ => none
noncomputable def C_R_creaks (k : Nat) (av : List Value) (s : Mem) : Option (Int32 × Mem) := cbr (Nat.beq k 263) (A_R_canTread av s) (cbr (Nat.beq k 249) (A_R_creaksOf av s) (none))
set_option maxRecDepth 100000 in
theorem e_R_creaks (x1 : Int32) (x2 : Int32) (x3 : Int32) (x4 : Int32) (s : Mem) : F_R_creaks x1 x2 x3 x4 s = xs C_R_creaks (fun k ls s => none) 0 (fun _ => 0) K_R_creaks 700 K_R_creaks [some (.ref 123), some (.int x1), some (.int x2), some (.int x3), some (.int x4)] [] s := rfl
def K_R_wears : MC := [(0, .aload 0, 0), (1, .lconst 0, 0), (2, .putfield 1100, 0), (5, .aload 0, 0), (6, .iload 1, 0), (7, .iload 2, 0), (8, .iload 3, 0), (9, .iload 4, 0), (11, .invokeinterface 263 197, 0), (14, .ifCond .eq 20, 0), (17, .aload 0, 0), (18, .iconst 0, 16), (20, .iload 1, 0), (21, .imul, 0), (22, .iload 2, 0), (23, .iadd, 0), (24, .iload 3, 0), (25, .iload 4, 0), (27, .invokeinterface 250 196, 0), (30, .goto 21, 0), (33, .iconst 0, (-1)), (34, .ireturn, 0)]
noncomputable def F_R_wears (x1 : Int32) (x2 : Int32) (x3 : Int32) (x4 : Int32) (s : Mem) : Option (Int32 × Mem) :=
  let s1 : Mem := mw s 123 0 0
  (F_R_canTread x1 x2 x3 x4 s1).bind fun z2 =>
  if z2.1 = 0 then
    some ((-1), z2.2)
  else
  (F_R_wearsOf ((16 * x1) + x2) x3 x4 z2.2).bind fun z3 =>
  some (z3.1, z3.2)
noncomputable def A_R_wears (av : List Value) (s : Mem) : Option (Int32 × Mem) := match av with
  | [.ref a0, .int a1, .int a2, .int a3, .int a4] => cbr (Nat.beq a0 123) (F_R_wears a1 a2 a3 a4 s) none
  | _ => none
noncomputable def C_R_wears (k : Nat) (av : List Value) (s : Mem) : Option (Int32 × Mem) := cbr (Nat.beq k 263) (A_R_canTread av s) (cbr (Nat.beq k 250) (A_R_wearsOf av s) (none))
set_option maxRecDepth 100000 in
theorem e_R_wears (x1 : Int32) (x2 : Int32) (x3 : Int32) (x4 : Int32) (s : Mem) : F_R_wears x1 x2 x3 x4 s = xs C_R_wears (fun k ls s => none) 0 (fun _ => 0) K_R_wears 700 K_R_wears [some (.ref 123), some (.int x1), some (.int x2), some (.int x3), some (.int x4)] [] s := rfl
def K_R_book : MC := [(0, .aload 0, 0), (1, .lconst 0, 0), (2, .putfield 1100, 0), (5, .aload 0, 0), (6, .iload 1, 0), (7, .lconst 0, 0), (8, .aload 0, 0), (9, .getstatic 1101, 0), (12, .iconst 0, 2), (13, .iaload, 0), (14, .lconst 1, 0), (15, .isub, 0), (16, .invokeinterface 187 196, 0), (19, .ifCond .eq 29, 0), (22, .aload 0, 0), (23, .iload 2, 0), (24, .lconst 0, 0), (25, .iconst 0, 3), (26, .invokeinterface 187 196, 0), (29, .ifCond .eq 29, 0), (32, .aload 0, 0), (33, .getstatic 1109, 0), (36, .iconst 0, 4), (37, .iload 1, 0), (38, .imul, 0), (39, .iload 2, 0), (40, .iadd, 0), (41, .iaload, 0), (42, .goto 30, 0), (45, .iconst 0, (-1)), (46, .ireturn, 0)]
noncomputable def F_R_book (x1 : Int32) (x2 : Int32) (s : Mem) : Option (Int32 × Mem) :=
  let s1 : Mem := mw s 123 0 0
  (ld s1 124 2).bind fun v2 =>
  (F_R_isIn x1 0 (v2 - 1) s1).bind fun z3 =>
  if z3.1 = 0 then
    some ((-1), z3.2)
  else
  (F_R_isIn x2 0 3 z3.2).bind fun z4 =>
  if z4.1 = 0 then
    some ((-1), z4.2)
  else
  (ld z4.2 129 ((4 * x1) + x2)).bind fun v5 =>
  some (v5, z4.2)
noncomputable def A_R_book (av : List Value) (s : Mem) : Option (Int32 × Mem) := match av with
  | [.ref a0, .int a1, .int a2] => cbr (Nat.beq a0 123) (F_R_book a1 a2 s) none
  | _ => none
noncomputable def C_R_book (k : Nat) (av : List Value) (s : Mem) : Option (Int32 × Mem) := cbr (Nat.beq k 187) (A_R_isIn av s) (none)
set_option maxRecDepth 100000 in
theorem e_R_book (x1 : Int32) (x2 : Int32) (s : Mem) : F_R_book x1 x2 s = xs C_R_book (fun k ls s => none) 0 (fun _ => 0) K_R_book 700 K_R_book [some (.ref 123), some (.int x1), some (.int x2)] [] s := rfl
def K_R_sumOf : MC := [(0, .lconst 0, 0), (1, .istore 2, 0), (2, .lconst 0, 0), (3, .istore 3, 0), (4, .ret 0, 0), (4, .iload 3, 0), (5, .iconst 0, 96), (7, .if_icmp .ge 19, 0), (10, .iload 2, 0), (11, .aload 0, 0), (12, .getstatic 1101, 0), (15, .iload 1, 0), (16, .iload 3, 0), (17, .iadd, 0), (18, .iaload, 0), (19, .iadd, 0), (20, .istore 2, 0), (21, .iinc 3 0, 1), (24, .goto 4, 0), (27, .iload 2, 0), (28, .ireturn, 0)]
noncomputable def F_R_sumOf_4 : Nat → Int32 → Int32 → Int32 → Mem → Option (Int32 × Mem)
  | 0, _, _, _, _ => none
  | n + 1, x1, x2, x3, s =>
    if 96 ≤ x3 then
      some (x2, s)
    else
    (ld s 124 (x1 + x3)).bind fun v1 =>
    F_R_sumOf_4 n x1 (x2 + v1) (x3 + 1) s
noncomputable def F_R_sumOf (x1 : Int32) (s : Mem) : Option (Int32 × Mem) :=
  F_R_sumOf_4 gF x1 0 0 s
def A_R_sumOf_4 (f : Int32 → Int32 → Int32 → Mem → Option (Int32 × Mem)) (ls : List (Option Value)) (s : Mem) : Option (Int32 × Mem) := match lk ls 0, lk ls 1, lk ls 2, lk ls 3 with
  | some (.ref a0), some (.int a1), some (.int a2), some (.int a3) => cbr (Nat.beq a0 123) (f a1 a2 a3 s) none
  | _, _, _, _ => none
noncomputable def A_R_sumOf (av : List Value) (s : Mem) : Option (Int32 × Mem) := match av with
  | [.ref a0, .int a1] => cbr (Nat.beq a0 123) (F_R_sumOf a1 s) none
  | _ => none
noncomputable def C_R_sumOf (k : Nat) (av : List Value) (s : Mem) : Option (Int32 × Mem) := none
set_option maxRecDepth 100000 in
theorem e_R_sumOf_4  (n : Nat) (x1 : Int32) (x2 : Int32) (x3 : Int32) (s : Mem) : F_R_sumOf_4 (n + 1) x1 x2 x3 s = xs C_R_sumOf (fun k ls s => cbr (Nat.beq k 0) (A_R_sumOf_4 (F_R_sumOf_4 n) ls s) (none)) 0 (fun _ => 0) K_R_sumOf 700 (K_R_sumOf.drop 5) [some (.ref 123), some (.int x1), some (.int x2), some (.int x3)] [] s := rfl
set_option maxRecDepth 100000 in
theorem e_R_sumOf (x1 : Int32) (s : Mem) : F_R_sumOf x1 s = xs C_R_sumOf (fun k ls s => cbr (Nat.beq k 0) (A_R_sumOf_4 (F_R_sumOf_4 gF) ls s) (none)) 0 (fun _ => 0) K_R_sumOf 700 K_R_sumOf [some (.ref 123), some (.int x1), none, none] [] s := rfl
def K_R_goneMany : MC := [(0, .lconst 0, 0), (1, .istore 1, 0), (2, .lconst 0, 0), (3, .istore 2, 0), (4, .ret 0, 0), (4, .iload 2, 0), (5, .iconst 0, 96), (7, .if_icmp .ge 18, 0), (10, .aload 0, 0), (11, .iload 2, 0), (12, .invokeinterface 202 194, 0), (15, .ifCond .eq 16, 0), (18, .iload 1, 0), (19, .lconst 1, 0), (20, .iadd, 0), (21, .istore 1, 0), (22, .iinc 2 0, 1), (25, .goto 4, 0), (28, .iload 1, 0), (29, .ireturn, 0)]
noncomputable def F_R_goneMany_4 : Nat → Int32 → Int32 → Mem → Option (Int32 × Mem)
  | 0, _, _, _ => none
  | n + 1, x1, x2, s =>
    if 96 ≤ x2 then
      some (x1, s)
    else
    (F_R_isGone x2 s).bind fun z1 =>
    if z1.1 = 0 then
      F_R_goneMany_4 n x1 (x2 + 1) z1.2
    else
    F_R_goneMany_4 n (x1 + 1) (x2 + 1) z1.2
noncomputable def F_R_goneMany  (s : Mem) : Option (Int32 × Mem) :=
  F_R_goneMany_4 gF 0 0 s
def A_R_goneMany_4 (f : Int32 → Int32 → Mem → Option (Int32 × Mem)) (ls : List (Option Value)) (s : Mem) : Option (Int32 × Mem) := match lk ls 0, lk ls 1, lk ls 2 with
  | some (.ref a0), some (.int a1), some (.int a2) => cbr (Nat.beq a0 123) (f a1 a2 s) none
  | _, _, _ => none
noncomputable def A_R_goneMany (av : List Value) (s : Mem) : Option (Int32 × Mem) := match av with
  | [.ref a0] => cbr (Nat.beq a0 123) (F_R_goneMany s) none
  | _ => none
noncomputable def C_R_goneMany (k : Nat) (av : List Value) (s : Mem) : Option (Int32 × Mem) := cbr (Nat.beq k 202) (A_R_isGone av s) (none)
set_option maxRecDepth 100000 in
theorem e_R_goneMany_4  (n : Nat) (x1 : Int32) (x2 : Int32) (s : Mem) : F_R_goneMany_4 (n + 1) x1 x2 s = xs C_R_goneMany (fun k ls s => cbr (Nat.beq k 0) (A_R_goneMany_4 (F_R_goneMany_4 n) ls s) (none)) 0 (fun _ => 0) K_R_goneMany 700 (K_R_goneMany.drop 5) [some (.ref 123), some (.int x1), some (.int x2)] [] s := rfl
set_option maxRecDepth 100000 in
theorem e_R_goneMany  (s : Mem) : F_R_goneMany s = xs C_R_goneMany (fun k ls s => cbr (Nat.beq k 0) (A_R_goneMany_4 (F_R_goneMany_4 gF) ls s) (none)) 0 (fun _ => 0) K_R_goneMany 700 K_R_goneMany [some (.ref 123), none, none] [] s := rfl
def K_R_goes : MC := [(0, .aload 0, 0), (1, .lconst 0, 0), (2, .putfield 1100, 0), (5, .aload 0, 0), (6, .iload 1, 0), (7, .lconst 1, 0), (8, .iconst 0, 60), (10, .invokeinterface 187 196, 0), (13, .ifCond .eq 15, 0), (16, .aload 0, 0), (17, .iload 2, 0), (18, .lconst 0, 0), (19, .iconst 0, 3), (20, .invokeinterface 187 196, 0), (23, .ifCond .ne 17, 0), (26, .iconst 0, (-1)), (27, .ireturn, 0), (28, .aload 0, 0), (29, .multianewarray 196 193, 0), (32, .lconst 0, 0), (33, .istore 3, 0), (34, .ret 0, 0), (34, .iload 3, 0), (35, .iload 1, 0), (36, .if_icmp .ge 30, 0), (39, .aload 0, 0), (40, .invokeinterface 259 193, 0), (43, .pop, 0), (44, .iinc 3 0, 1), (47, .goto 21, 0), (50, .iload 2, 0), (51, .ifCond .ne 36, 0), (54, .aload 0, 0), (55, .iconst 0, 485), (58, .invokeinterface 267 194, 0), (61, .goto 53, 0), (64, .iload 2, 0), (65, .lconst 1, 0), (66, .if_icmp .ne 43, 0), (69, .aload 0, 0), (70, .iconst 0, 581), (73, .invokeinterface 267 194, 0), (76, .goto 53, 0), (79, .iload 2, 0), (80, .iconst 0, 2), (81, .if_icmp .ne 51, 0), (84, .aload 0, 0), (85, .getstatic 1101, 0), (88, .iconst 0, 4), (89, .iaload, 0), (90, .goto 53, 0), (93, .aload 0, 0), (94, .invokeinterface 268 193, 0), (97, .istore 3, 0), (98, .aload 0, 0), (99, .multianewarray 197 193, 0), (102, .iload 3, 0), (103, .ireturn, 0)]
noncomputable def F_R_goes_21 : Nat → Int32 → Int32 → Int32 → Mem → Option (Int32 × Mem)
  | 0, _, _, _, _ => none
  | n + 1, x1, x2, x3, s =>
    if x1 ≤ x3 then
      if x2 = 0 then
        (F_R_sumOf 485 s).bind fun z1 =>
        (F_R_endsThought z1.2).bind fun z2 =>
        some (z1.1, z2.2)
      else
      if x2 = 1 then
        (F_R_sumOf 581 s).bind fun z3 =>
        (F_R_endsThought z3.2).bind fun z4 =>
        some (z3.1, z4.2)
      else
      if x2 = 2 then
        (ld s 124 4).bind fun v5 =>
        (F_R_endsThought s).bind fun z6 =>
        some (v5, z6.2)
      else
      (F_R_goneMany s).bind fun z7 =>
      (F_R_endsThought z7.2).bind fun z8 =>
      some (z7.1, z8.2)
    else
    (F_R_goesBy s).bind fun z9 =>
    F_R_goes_21 n x1 x2 (x3 + 1) z9.2
noncomputable def F_R_goes (x1 : Int32) (x2 : Int32) (s : Mem) : Option (Int32 × Mem) :=
  let s1 : Mem := mw s 123 0 0
  (F_R_isIn x1 1 60 s1).bind fun z2 =>
  if z2.1 = 0 then
    some ((-1), z2.2)
  else
  (F_R_isIn x2 0 3 z2.2).bind fun z3 =>
  if z3.1 = 0 then
    some ((-1), z3.2)
  else
  (F_R_thinks z3.2).bind fun z4 =>
  F_R_goes_21 gF x1 x2 0 z4.2
def A_R_goes_21 (f : Int32 → Int32 → Int32 → Mem → Option (Int32 × Mem)) (ls : List (Option Value)) (s : Mem) : Option (Int32 × Mem) := match lk ls 0, lk ls 1, lk ls 2, lk ls 3 with
  | some (.ref a0), some (.int a1), some (.int a2), some (.int a3) => cbr (Nat.beq a0 123) (f a1 a2 a3 s) none
  | _, _, _, _ => none
noncomputable def A_R_goes (av : List Value) (s : Mem) : Option (Int32 × Mem) := match av with
  | [.ref a0, .int a1, .int a2] => cbr (Nat.beq a0 123) (F_R_goes a1 a2 s) none
  | _ => none
noncomputable def C_R_goes (k : Nat) (av : List Value) (s : Mem) : Option (Int32 × Mem) := cbr (Nat.beq k 187) (A_R_isIn av s) (cbr (Nat.beq k 196) (A_R_thinks av s) (cbr (Nat.beq k 267) (A_R_sumOf av s) (cbr (Nat.beq k 197) (A_R_endsThought av s) (cbr (Nat.beq k 268) (A_R_goneMany av s) (cbr (Nat.beq k 259) (A_R_goesBy av s) (none))))))
set_option maxRecDepth 100000 in
theorem e_R_goes_21  (n : Nat) (x1 : Int32) (x2 : Int32) (x3 : Int32) (s : Mem) : F_R_goes_21 (n + 1) x1 x2 x3 s = xs C_R_goes (fun k ls s => cbr (Nat.beq k 0) (A_R_goes_21 (F_R_goes_21 n) ls s) (none)) 0 (fun _ => 0) K_R_goes 700 (K_R_goes.drop 22) [some (.ref 123), some (.int x1), some (.int x2), some (.int x3)] [] s := rfl
set_option maxRecDepth 100000 in
theorem e_R_goes (x1 : Int32) (x2 : Int32) (s : Mem) : F_R_goes x1 x2 s = xs C_R_goes (fun k ls s => cbr (Nat.beq k 0) (A_R_goes_21 (F_R_goes_21 gF) ls s) (none)) 0 (fun _ => 0) K_R_goes 700 K_R_goes [some (.ref 123), some (.int x1), some (.int x2), none] [] s := rfl
def K_R_doesCreak : MC := [(0, .iconst 0, 2), (1, .aload 0, 0), (2, .iload 1, 0), (3, .iload 2, 0), (4, .iload 3, 0), (5, .invokeinterface 249 196, 0), (8, .imul, 0), (9, .iconst 0, 1000), (12, .if_icmp .lt 11, 0), (15, .lconst 1, 0), (16, .goto 12, 0), (19, .lconst 0, 0), (20, .lreturn, 0)]
noncomputable def F_R_doesCreak (x1 : Int32) (x2 : Int32) (x3 : Int32) (s : Mem) : Option (Int32 × Mem) :=
  (F_R_creaksOf x1 x2 x3 s).bind fun z1 =>
  if (2 * z1.1) < 1000 then
    some (0, z1.2)
  else
  some (1, z1.2)
noncomputable def A_R_doesCreak (av : List Value) (s : Mem) : Option (Int32 × Mem) := match av with
  | [.ref a0, .int a1, .int a2, .int a3] => cbr (Nat.beq a0 123) (F_R_doesCreak a1 a2 a3 s) none
  | _ => none
noncomputable def C_R_doesCreak (k : Nat) (av : List Value) (s : Mem) : Option (Int32 × Mem) := cbr (Nat.beq k 249) (A_R_creaksOf av s) (none)
set_option maxRecDepth 100000 in
theorem e_R_doesCreak (x1 : Int32) (x2 : Int32) (x3 : Int32) (s : Mem) : F_R_doesCreak x1 x2 x3 s = xs C_R_doesCreak (fun k ls s => none) 0 (fun _ => 0) K_R_doesCreak 700 K_R_doesCreak [some (.ref 123), some (.int x1), some (.int x2), some (.int x3)] [] s := rfl
def K_R_unheard : MC := [(0, .aload 0, 0), (1, .lconst 0, 0), (2, .putfield 1100, 0), (5, .aload 0, 0), (6, .iload 1, 0), (7, .invokeinterface 200 194, 0), (10, .ifCond .eq 25, 0), (13, .aload 0, 0), (14, .iload 2, 0), (15, .lconst 1, 0), (16, .iconst 0, 200), (19, .invokeinterface 187 196, 0), (22, .ifCond .eq 25, 0), (25, .aload 0, 0), (26, .iload 3, 0), (27, .lconst 1, 0), (28, .iconst 0, 5), (29, .invokeinterface 187 196, 0), (32, .ifCond .eq 25, 0), (35, .aload 0, 0), (36, .iload 4, 0), (38, .lconst 0, 0), (39, .lconst 1, 0), (40, .invokeinterface 187 196, 0), (43, .ifCond .ne 27, 0), (46, .iconst 0, (-1)), (47, .ireturn, 0), (48, .aload 0, 0), (49, .getstatic 1107, 0), (52, .iload 1, 0), (53, .iaload, 0), (54, .istore 5, 0), (56, .iload 5, 0), (58, .iload 3, 0), (59, .if_icmp .ge 37, 0), (62, .lconst 0, 0), (63, .goto 38, 0), (66, .iconst 0, 100000000), (69, .istore 6, 0), (71, .aload 0, 0), (72, .getstatic 1142, 0), (75, .lconst 0, 0), (76, .lconst 0, 0), (77, .iastore, 0), (78, .lconst 0, 0), (79, .istore 7, 0), (81, .ret 0, 0), (81, .iload 7, 0), (83, .iload 5, 0), (85, .if_icmp .ge 120, 0), (88, .iconst 0, 100000000), (91, .istore 8, 0), (93, .lconst 1, 0), (94, .istore 9, 0), (96, .ret 1, 0), (96, .iload 9, 0), (98, .iload 3, 0), (99, .if_icmp .gt 101, 0), (102, .iload 9, 0), (104, .iload 7, 0), (106, .lconst 1, 0), (107, .iadd, 0), (108, .if_icmp .gt 101, 0), (111, .aload 0, 0), (112, .iconst 0, 16), (114, .iload 1, 0), (115, .imul, 0), (116, .iload 7, 0), (118, .iadd, 0), (119, .invokeinterface 202 194, 0), (122, .ifCond .ne 101, 0), (125, .aload 0, 0), (126, .iload 8, 0), (128, .aload 0, 0), (129, .getstatic 1142, 0), (132, .iload 7, 0), (134, .lconst 1, 0), (135, .iadd, 0), (136, .iload 9, 0), (138, .isub, 0), (139, .iaload, 0), (140, .lconst 1, 0), (141, .iadd, 0), (142, .aload 0, 0), (143, .iconst 0, 16), (145, .iload 1, 0), (146, .imul, 0), (147, .iload 7, 0), (149, .iadd, 0), (150, .iload 2, 0), (151, .iload 9, 0), (153, .invokeinterface 270 196, 0), (156, .ifCond .eq 95, 0), (159, .iconst 0, 100), (161, .goto 96, 0), (164, .lconst 0, 0), (165, .iadd, 0), (166, .invokeinterface 190 195, 0), (169, .istore 8, 0), (171, .iinc 9 0, 1), (174, .goto 54, 0), (177, .aload 0, 0), (178, .getstatic 1142, 0), (181, .iload 7, 0), (183, .lconst 1, 0), (184, .iadd, 0), (185, .iload 8, 0), (187, .iastore, 0), (188, .iload 7, 0), (190, .iload 3, 0), (191, .iadd, 0), (192, .iload 5, 0), (194, .if_icmp .lt 118, 0), (197, .aload 0, 0), (198, .iload 6, 0), (200, .iload 8, 0), (202, .invokeinterface 190 195, 0), (205, .istore 6, 0), (207, .iinc 7 0, 1), (210, .goto 46, 0), (213, .iload 6, 0), (215, .iconst 0, 100000000), (218, .if_icmp .lt 125, 0), (221, .iconst 0, (-1)), (222, .ireturn, 0), (223, .iload 4, 0), (225, .ifCond .ne 131, 0), (228, .iload 6, 0), (230, .iconst 0, 100), (232, .ldiv, 0), (233, .goto 134, 0), (236, .iload 6, 0), (238, .iconst 0, 100), (240, .lrem, 0), (241, .ireturn, 0)]
noncomputable def F_R_unheard_53 (k46 : Int32 → Int32 → Int32 → Int32 → Int32 → Int32 → Int32 → Mem → Option (Int32 × Mem)) : Nat → Int32 → Int32 → Int32 → Int32 → Int32 → Int32 → Int32 → Int32 → Int32 → Mem → Option (Int32 × Mem)
  | 0, _, _, _, _, _, _, _, _, _, _ => none
  | n + 1, x1, x2, x3, x4, x5, x6, x7, x8, x9, s =>
    if x3 < x9 then
      (sd s 145 (x7 + 1) x8).bind fun s1 =>
      if (x7 + x3) < x5 then
        k46 x1 x2 x3 x4 x5 x6 (x7 + 1) s1
      else
      (F_R_lesser x6 x8 s1).bind fun z2 =>
      k46 x1 x2 x3 x4 x5 z2.1 (x7 + 1) z2.2
    else
    if (x7 + 1) < x9 then
      (sd s 145 (x7 + 1) x8).bind fun s3 =>
      if (x7 + x3) < x5 then
        k46 x1 x2 x3 x4 x5 x6 (x7 + 1) s3
      else
      (F_R_lesser x6 x8 s3).bind fun z4 =>
      k46 x1 x2 x3 x4 x5 z4.1 (x7 + 1) z4.2
    else
    (F_R_isGone ((16 * x1) + x7) s).bind fun z5 =>
    if z5.1 = 0 then
      (ld z5.2 145 ((x7 + 1) - x9)).bind fun v6 =>
      (F_R_doesCreak ((16 * x1) + x7) x2 x9 z5.2).bind fun z7 =>
      if z7.1 = 0 then
        (F_R_lesser x8 ((v6 + 1) + 0) z7.2).bind fun z8 =>
        F_R_unheard_53 k46 n x1 x2 x3 x4 x5 x6 x7 z8.1 (x9 + 1) z8.2
      else
      (F_R_lesser x8 ((v6 + 1) + 100) z7.2).bind fun z9 =>
      F_R_unheard_53 k46 n x1 x2 x3 x4 x5 x6 x7 z9.1 (x9 + 1) z9.2
    else
    (sd z5.2 145 (x7 + 1) x8).bind fun s10 =>
    if (x7 + x3) < x5 then
      k46 x1 x2 x3 x4 x5 x6 (x7 + 1) s10
    else
    (F_R_lesser x6 x8 s10).bind fun z11 =>
    k46 x1 x2 x3 x4 x5 z11.1 (x7 + 1) z11.2
noncomputable def F_R_unheard_46 : Nat → Int32 → Int32 → Int32 → Int32 → Int32 → Int32 → Int32 → Mem → Option (Int32 × Mem)
  | 0, _, _, _, _, _, _, _, _ => none
  | n + 1, x1, x2, x3, x4, x5, x6, x7, s =>
    if x5 ≤ x7 then
      if x6 < 100000000 then
        if x4 = 0 then
          some ((x6 / 100), s)
        else
        some ((irm x6 100), s)
      else
      some ((-1), s)
    else
    F_R_unheard_53 (F_R_unheard_46 n) gF x1 x2 x3 x4 x5 x6 x7 100000000 1 s
noncomputable def F_R_unheard (x1 : Int32) (x2 : Int32) (x3 : Int32) (x4 : Int32) (s : Mem) : Option (Int32 × Mem) :=
  let s1 : Mem := mw s 123 0 0
  (F_R_isFlight x1 s1).bind fun z2 =>
  if z2.1 = 0 then
    some ((-1), z2.2)
  else
  (F_R_isIn x2 1 200 z2.2).bind fun z3 =>
  if z3.1 = 0 then
    some ((-1), z3.2)
  else
  (F_R_isIn x3 1 5 z3.2).bind fun z4 =>
  if z4.1 = 0 then
    some ((-1), z4.2)
  else
  (F_R_isIn x4 0 1 z4.2).bind fun z5 =>
  if z5.1 = 0 then
    some ((-1), z5.2)
  else
  (ld z5.2 127 x1).bind fun v6 =>
  if x3 ≤ v6 then
    (sd z5.2 145 0 0).bind fun s7 =>
    F_R_unheard_46 gF x1 x2 x3 x4 v6 100000000 0 s7
  else
  (sd z5.2 145 0 0).bind fun s8 =>
  F_R_unheard_46 gF x1 x2 x3 x4 v6 0 0 s8
def A_R_unheard_46 (f : Int32 → Int32 → Int32 → Int32 → Int32 → Int32 → Int32 → Mem → Option (Int32 × Mem)) (ls : List (Option Value)) (s : Mem) : Option (Int32 × Mem) := match lk ls 0, lk ls 1, lk ls 2, lk ls 3, lk ls 4, lk ls 5, lk ls 6, lk ls 7 with
  | some (.ref a0), some (.int a1), some (.int a2), some (.int a3), some (.int a4), some (.int a5), some (.int a6), some (.int a7) => cbr (Nat.beq a0 123) (f a1 a2 a3 a4 a5 a6 a7 s) none
  | _, _, _, _, _, _, _, _ => none
def A_R_unheard_53 (f : Int32 → Int32 → Int32 → Int32 → Int32 → Int32 → Int32 → Int32 → Int32 → Mem → Option (Int32 × Mem)) (ls : List (Option Value)) (s : Mem) : Option (Int32 × Mem) := match lk ls 0, lk ls 1, lk ls 2, lk ls 3, lk ls 4, lk ls 5, lk ls 6, lk ls 7, lk ls 8, lk ls 9 with
  | some (.ref a0), some (.int a1), some (.int a2), some (.int a3), some (.int a4), some (.int a5), some (.int a6), some (.int a7), some (.int a8), some (.int a9) => cbr (Nat.beq a0 123) (f a1 a2 a3 a4 a5 a6 a7 a8 a9 s) none
  | _, _, _, _, _, _, _, _, _, _ => none
noncomputable def A_R_unheard (av : List Value) (s : Mem) : Option (Int32 × Mem) := match av with
  | [.ref a0, .int a1, .int a2, .int a3, .int a4] => cbr (Nat.beq a0 123) (F_R_unheard a1 a2 a3 a4 s) none
  | _ => none
noncomputable def C_R_unheard (k : Nat) (av : List Value) (s : Mem) : Option (Int32 × Mem) := cbr (Nat.beq k 200) (A_R_isFlight av s) (cbr (Nat.beq k 187) (A_R_isIn av s) (cbr (Nat.beq k 190) (A_R_lesser av s) (cbr (Nat.beq k 202) (A_R_isGone av s) (cbr (Nat.beq k 270) (A_R_doesCreak av s) (none)))))
set_option maxRecDepth 100000 in
theorem e_R_unheard_53 (k46 : Int32 → Int32 → Int32 → Int32 → Int32 → Int32 → Int32 → Mem → Option (Int32 × Mem)) (n : Nat) (x1 : Int32) (x2 : Int32) (x3 : Int32) (x4 : Int32) (x5 : Int32) (x6 : Int32) (x7 : Int32) (x8 : Int32) (x9 : Int32) (s : Mem) : F_R_unheard_53 k46 (n + 1) x1 x2 x3 x4 x5 x6 x7 x8 x9 s = xs C_R_unheard (fun k ls s => cbr (Nat.beq k 0) (A_R_unheard_46 (k46) ls s) (cbr (Nat.beq k 1) (A_R_unheard_53 (F_R_unheard_53 k46 n) ls s) (none))) 0 (fun _ => 0) K_R_unheard 700 (K_R_unheard.drop 55) [some (.ref 123), some (.int x1), some (.int x2), some (.int x3), some (.int x4), some (.int x5), some (.int x6), some (.int x7), some (.int x8), some (.int x9)] [] s := rfl
set_option maxRecDepth 100000 in
theorem e_R_unheard_46  (n : Nat) (x1 : Int32) (x2 : Int32) (x3 : Int32) (x4 : Int32) (x5 : Int32) (x6 : Int32) (x7 : Int32) (s : Mem) : F_R_unheard_46 (n + 1) x1 x2 x3 x4 x5 x6 x7 s = xs C_R_unheard (fun k ls s => cbr (Nat.beq k 1) (A_R_unheard_53 (F_R_unheard_53 (F_R_unheard_46 n) gF) ls s) (none)) 0 (fun _ => 0) K_R_unheard 700 (K_R_unheard.drop 47) [some (.ref 123), some (.int x1), some (.int x2), some (.int x3), some (.int x4), some (.int x5), some (.int x6), some (.int x7), none, none] [] s := rfl
set_option maxRecDepth 100000 in
theorem e_R_unheard (x1 : Int32) (x2 : Int32) (x3 : Int32) (x4 : Int32) (s : Mem) : F_R_unheard x1 x2 x3 x4 s = xs C_R_unheard (fun k ls s => cbr (Nat.beq k 0) (A_R_unheard_46 (F_R_unheard_46 gF) ls s) (none)) 0 (fun _ => 0) K_R_unheard 700 K_R_unheard [some (.ref 123), some (.int x1), some (.int x2), some (.int x3), some (.int x4), none, none, none, none, none] [] s := rfl
