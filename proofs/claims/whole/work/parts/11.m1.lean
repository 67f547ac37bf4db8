def K_P_wordIn : MC := [(0, .lconst 0, 0), (1, .istore 4, 0), (3, .iload 2, 0), (4, .istore 5, 0), (6, .lconst 1, 0), (7, .istore 6, 0), (9, .lconst 0, 0), (10, .istore 7, 0), (12, .ret 0, 0), (12, .iload 7, 0), (14, .aload 0, 0), (15, .invokeinterface 45 1, 0), (18, .if_icmp .ge 56, 0), (21, .aload 0, 0), (22, .iload 7, 0), (24, .invokeinterface 46 2, 0), (27, .istore 8, 0), (29, .iload 8, 0), (31, .iconst 0, 32), (33, .if_icmp .eq 42, 0), (36, .iload 6, 0), (38, .ifCond .eq 38, 0), (41, .iload 5, 0), (43, .ifCond .lt 38, 0), (46, .iload 5, 0), (48, .iload 3, 0), (49, .if_icmp .ge 38, 0), (52, .iload 5, 0), (54, .aload 1, 0), (55, .arraylength, 0), (56, .if_icmp .ge 38, 0), (59, .aload 1, 0), (60, .iload 5, 0), (62, .iaload, 0), (63, .iload 8, 0), (65, .if_icmp .ne 38, 0), (68, .lconst 1, 0), (69, .goto 39, 0), (72, .lconst 0, 0), (73, .istore 6, 0), (75, .iinc 5 0, 1), (78, .goto 54, 0), (81, .iload 6, 0), (83, .ifCond .eq 49, 0), (86, .iload 5, 0), (88, .iload 3, 0), (89, .if_icmp .ne 49, 0), (92, .iload 4, 0), (94, .ireturn, 0), (95, .iinc 4 0, 1), (98, .iload 2, 0), (99, .istore 5, 0), (101, .lconst 1, 0), (102, .istore 6, 0), (104, .iinc 7 0, 1), (107, .goto 8, 0), (110, .iconst 0, (-1)), (111, .ireturn, 0)]
noncomputable def F_P_wordIn_8 : Nat → Nat → Int32 → Int32 → Int32 → Int32 → Int32 → Int32 → Mem → Option (Int32 × Mem)
  | 0, _, _, _, _, _, _, _, _ => none
  | n + 1, h0, x2, x3, x4, x5, x6, x7, s =>
    (F_JS_length h0 s).bind fun z1 =>
    if z1.1 ≤ x7 then
      some ((-1), z1.2)
    else
    (F_JS_charAt h0 x7 z1.2).bind fun z2 =>
    if z2.1 = 32 then
      if x6 = 0 then
        F_P_wordIn_8 n h0 x2 x3 (x4 + 1) x2 1 (x7 + 1) z2.2
      else
      if x5 = x3 then
        some (x4, z2.2)
      else
      F_P_wordIn_8 n h0 x2 x3 (x4 + 1) x2 1 (x7 + 1) z2.2
    else
    if x6 = 0 then
      F_P_wordIn_8 n h0 x2 x3 x4 (x5 + 1) 0 (x7 + 1) z2.2
    else
    if x5 < 0 then
      F_P_wordIn_8 n h0 x2 x3 x4 (x5 + 1) 0 (x7 + 1) z2.2
    else
    if x3 ≤ x5 then
      F_P_wordIn_8 n h0 x2 x3 x4 (x5 + 1) 0 (x7 + 1) z2.2
    else
    if 400 ≤ x5 then
      F_P_wordIn_8 n h0 x2 x3 x4 (x5 + 1) 0 (x7 + 1) z2.2
    else
    (ld z2.2 75 x5).bind fun v3 =>
    if v3 = z2.1 then
      F_P_wordIn_8 n h0 x2 x3 x4 (x5 + 1) 1 (x7 + 1) z2.2
    else
    F_P_wordIn_8 n h0 x2 x3 x4 (x5 + 1) 0 (x7 + 1) z2.2
noncomputable def F_P_wordIn (h0 : Nat) (x2 : Int32) (x3 : Int32) (s : Mem) : Option (Int32 × Mem) :=
  F_P_wordIn_8 gF h0 x2 x3 0 x2 1 0 s
def A_P_wordIn_8 (f : Nat → Int32 → Int32 → Int32 → Int32 → Int32 → Int32 → Mem → Option (Int32 × Mem)) (ls : List (Option Value)) (s : Mem) : Option (Int32 × Mem) := match lk ls 0, lk ls 1, lk ls 2, lk ls 3, lk ls 4, lk ls 5, lk ls 6, lk ls 7 with
  | some (.ref a0), some (.ref a1), some (.int a2), some (.int a3), some (.int a4), some (.int a5), some (.int a6), some (.int a7) => cbr (Nat.beq a1 75) (f a0 a2 a3 a4 a5 a6 a7 s) none
  | _, _, _, _, _, _, _, _ => none
noncomputable def A_P_wordIn (av : List Value) (s : Mem) : Option (Int32 × Mem) := match av with
  | [.ref a0, .ref a1, .int a2, .int a3] => cbr (Nat.beq a1 75) (F_P_wordIn a0 a2 a3 s) none
  | _ => none
noncomputable def C_P_wordIn (k : Nat) (av : List Value) (s : Mem) : Option (Int32 × Mem) := cbr (Nat.beq k 45) (A_JS_length av s) (cbr (Nat.beq k 46) (A_JS_charAt av s) (none))
set_option maxRecDepth 100000 in
theorem e_P_wordIn_8  (n : Nat) (h0 : Nat) (x2 : Int32) (x3 : Int32) (x4 : Int32) (x5 : Int32) (x6 : Int32) (x7 : Int32) (s : Mem) : F_P_wordIn_8 (n + 1) h0 x2 x3 x4 x5 x6 x7 s = xs C_P_wordIn (fun k ls s => cbr (Nat.beq k 0) (A_P_wordIn_8 (F_P_wordIn_8 n) ls s) (none)) 0 (fun _ => 0) K_P_wordIn 700 (K_P_wordIn.drop 9) [some (.ref h0), some (.ref 75), some (.int x2), some (.int x3), some (.int x4), some (.int x5), some (.int x6), some (.int x7), none] [] s := rfl
set_option maxRecDepth 100000 in
theorem e_P_wordIn (h0 : Nat) (x2 : Int32) (x3 : Int32) (s : Mem) : F_P_wordIn h0 x2 x3 s = xs C_P_wordIn (fun k ls s => cbr (Nat.beq k 0) (A_P_wordIn_8 (F_P_wordIn_8 gF) ls s) (none)) 0 (fun _ => 0) K_P_wordIn 700 K_P_wordIn [some (.ref h0), some (.ref 75), some (.int x2), some (.int x3), none, none, none, none, none] [] s := rfl
def K_P_keyword : MC := [(0, .ldc 1, 0), (2, .aload 0, 0), (3, .iload 1, 0), (4, .iload 2, 0), (5, .invokeinterface 47 4, 0), (8, .istore 3, 0), (9, .iload 3, 0), (10, .iconst 0, (-1)), (11, .if_icmp .eq 11, 0), (14, .iload 3, 0), (15, .ireturn, 0), (16, .ldc 2, 0), (18, .aload 0, 0), (19, .iload 1, 0), (20, .iload 2, 0), (21, .invokeinterface 47 4, 0), (24, .istore 3, 0), (25, .iload 3, 0), (26, .iconst 0, (-1)), (27, .if_icmp .ne 22, 0), (30, .iconst 0, 65), (32, .goto 25, 0), (35, .iconst 0, 18), (37, .iload 3, 0), (38, .iadd, 0), (39, .ireturn, 0)]
noncomputable def F_P_keyword (x1 : Int32) (x2 : Int32) (s : Mem) : Option (Int32 × Mem) :=
  (F_P_wordIn 1001 x1 x2 s).bind fun z1 =>
  if z1.1 = (-1) then
    (F_P_wordIn 1002 x1 x2 z1.2).bind fun z2 =>
    if z2.1 = (-1) then
      some (65, z2.2)
    else
    some ((18 + z2.1), z2.2)
  else
  some (z1.1, z1.2)
noncomputable def A_P_keyword (av : List Value) (s : Mem) : Option (Int32 × Mem) := match av with
  | [.ref a0, .int a1, .int a2] => cbr (Nat.beq a0 75) (F_P_keyword a1 a2 s) none
  | _ => none
noncomputable def C_P_keyword (k : Nat) (av : List Value) (s : Mem) : Option (Int32 × Mem) := cbr (Nat.beq k 47) (A_P_wordIn av s) (none)
set_option maxRecDepth 100000 in
theorem e_P_keyword (x1 : Int32) (x2 : Int32) (s : Mem) : F_P_keyword x1 x2 s = xs C_P_keyword (fun k ls s => none) 0 (fun _ => 0) K_P_keyword 700 K_P_keyword [some (.ref 75), some (.int x1), some (.int x2), none] [] s := rfl
def K_P_addToken : MC := [(0, .aload 0, 0), (1, .getfield 503, 0), (4, .lconst 0, 0), (5, .aload 0, 0), (6, .getstatic 500, 0), (9, .arraylength, 0), (10, .lconst 1, 0), (11, .isub, 0), (12, .invokeinterface 2 3, 0), (15, .ifCond .eq 34, 0), (18, .aload 0, 0), (19, .getstatic 500, 0), (22, .aload 0, 0), (23, .getfield 503, 0), (26, .iload 1, 0), (27, .iastore, 0), (28, .aload 0, 0), (29, .getstatic 501, 0), (32, .aload 0, 0), (33, .getfield 503, 0), (36, .iload 2, 0), (37, .iastore, 0), (38, .aload 0, 0), (39, .getstatic 502, 0), (42, .aload 0, 0), (43, .getfield 503, 0), (46, .iload 3, 0), (47, .iastore, 0), (48, .aload 0, 0), (49, .dup, 0), (50, .getfield 503, 0), (53, .lconst 1, 0), (54, .iadd, 0), (55, .putfield 503, 0), (58, .return_, 0)]
noncomputable def F_P_addToken (x1 : Int32) (x2 : Int32) (x3 : Int32) (s : Mem) : Option (Int32 × Mem) :=
  (F_C_within (s 76 3) 0 (401 - 1) s).bind fun z1 =>
  if z1.1 = 0 then
    some (0, z1.2)
  else
  (sd z1.2 77 (z1.2 76 3) x1).bind fun s2 =>
  (sd s2 78 (s2 76 3) x2).bind fun s3 =>
  (sd s3 79 (s3 76 3) x3).bind fun s4 =>
  let s5 : Mem := mw s4 76 3 ((s4 76 3) + 1)
  some (0, s5)
noncomputable def A_P_addToken (av : List Value) (s : Mem) : Option (Int32 × Mem) := match av with
  | [.ref a0, .int a1, .int a2, .int a3] => cbr (Nat.beq a0 76) (F_P_addToken a1 a2 a3 s) none
  | _ => none
noncomputable def C_P_addToken (k : Nat) (av : List Value) (s : Mem) : Option (Int32 × Mem) := cbr (Nat.beq k 2) (A_C_within av s) (none)
set_option maxRecDepth 100000 in
theorem e_P_addToken (x1 : Int32) (x2 : Int32) (x3 : Int32) (s : Mem) : F_P_addToken x1 x2 x3 s = xs C_P_addToken (fun k ls s => none) 0 (fun _ => 0) K_P_addToken 700 K_P_addToken [some (.ref 76), some (.int x1), some (.int x2), some (.int x3)] [] s := rfl
def K_P_isDigit : MC := [(0, .iload 0, 0), (1, .iconst 0, 48), (3, .iconst 0, 57), (5, .invokeinterface 2 3, 0), (8, .lreturn, 0)]
noncomputable def F_P_isDigit (x0 : Int32) (s : Mem) : Option (Int32 × Mem) :=
  (F_C_within x0 48 57 s).bind fun z1 =>
  if z1.1 &&& 1 = z1.1 then
  some (z1.1, z1.2)
  else none
noncomputable def A_P_isDigit (av : List Value) (s : Mem) : Option (Int32 × Mem) := match av with
  | [.int a0] => F_P_isDigit a0 s
  | _ => none
noncomputable def C_P_isDigit (k : Nat) (av : List Value) (s : Mem) : Option (Int32 × Mem) := cbr (Nat.beq k 2) (A_C_within av s) (none)
set_option maxRecDepth 100000 in
theorem e_P_isDigit (x0 : Int32) (s : Mem) : F_P_isDigit x0 s = xs C_P_isDigit (fun k ls s => none) 0 (fun _ => 0) K_P_isDigit 700 K_P_isDigit [some (.int x0)] [] s := rfl
def K_P_valueOf : MC := [(0, .lconst 0, 0), (1, .istore 3, 0), (2, .iload 1, 0), (3, .lconst 0, 0), (4, .invokeinterface 21 2, 0), (7, .istore 4, 0), (9, .ret 0, 0), (9, .iload 4, 0), (11, .iload 2, 0), (12, .if_icmp .ge 26, 0), (15, .iload 4, 0), (17, .aload 0, 0), (18, .arraylength, 0), (19, .if_icmp .ge 26, 0), (22, .iload 3, 0), (23, .iconst 0, 10), (25, .imul, 0), (26, .aload 0, 0), (27, .iload 4, 0), (29, .iaload, 0), (30, .iadd, 0), (31, .iconst 0, 48), (33, .isub, 0), (34, .istore 3, 0), (35, .iinc 4 0, 1), (38, .goto 6, 0), (41, .iload 3, 0), (42, .ireturn, 0)]
noncomputable def F_P_valueOf_6 : Nat → Int32 → Int32 → Int32 → Mem → Option (Int32 × Mem)
  | 0, _, _, _, _ => none
  | n + 1, x2, x3, x4, s =>
    if x2 ≤ x4 then
      some (x3, s)
    else
    if 400 ≤ x4 then
      some (x3, s)
    else
    (ld s 75 x4).bind fun v1 =>
    F_P_valueOf_6 n x2 (((x3 * 10) + v1) - 48) (x4 + 1) s
noncomputable def F_P_valueOf (x1 : Int32) (x2 : Int32) (s : Mem) : Option (Int32 × Mem) :=
  (F_JM_max x1 0 s).bind fun z1 =>
  F_P_valueOf_6 gF x2 0 z1.1 z1.2
def A_P_valueOf_6 (f : Int32 → Int32 → Int32 → Mem → Option (Int32 × Mem)) (ls : List (Option Value)) (s : Mem) : Option (Int32 × Mem) := match lk ls 0, lk ls 2, lk ls 3, lk ls 4 with
  | some (.ref a0), some (.int a1), some (.int a2), some (.int a3) => cbr (Nat.beq a0 75) (f a1 a2 a3 s) none
  | _, _, _, _ => none
noncomputable def A_P_valueOf (av : List Value) (s : Mem) : Option (Int32 × Mem) := match av with
  | [.ref a0, .int a1, .int a2] => cbr (Nat.beq a0 75) (F_P_valueOf a1 a2 s) none
  | _ => none
noncomputable def C_P_valueOf (k : Nat) (av : List Value) (s : Mem) : Option (Int32 × Mem) := cbr (Nat.beq k 21) (A_JM_max av s) (none)
set_option maxRecDepth 100000 in
theorem e_P_valueOf_6  (n : Nat) (x2 : Int32) (x3 : Int32) (x4 : Int32) (s : Mem) : F_P_valueOf_6 (n + 1) x2 x3 x4 s = xs C_P_valueOf (fun k ls s => cbr (Nat.beq k 0) (A_P_valueOf_6 (F_P_valueOf_6 n) ls s) (none)) 0 (fun _ => 0) K_P_valueOf 700 (K_P_valueOf.drop 7) [some (.ref 75), none, some (.int x2), some (.int x3), some (.int x4)] [] s := rfl
set_option maxRecDepth 100000 in
theorem e_P_valueOf (x1 : Int32) (x2 : Int32) (s : Mem) : F_P_valueOf x1 x2 s = xs C_P_valueOf (fun k ls s => cbr (Nat.beq k 0) (A_P_valueOf_6 (F_P_valueOf_6 gF) ls s) (none)) 0 (fun _ => 0) K_P_valueOf 700 K_P_valueOf [some (.ref 75), some (.int x1), some (.int x2), none, none] [] s := rfl
def K_P_isSign : MC := [(0, .iload 0, 0), (1, .iconst 0, 40), (3, .iconst 0, 43), (5, .invokeinterface 2 3, 0), (8, .ifCond .ne 16, 0), (11, .iload 0, 0), (12, .iconst 0, 59), (14, .iconst 0, 62), (16, .invokeinterface 2 3, 0), (19, .ifCond .ne 16, 0), (22, .iload 0, 0), (23, .iconst 0, 45), (25, .if_icmp .eq 16, 0), (28, .iload 0, 0), (29, .iconst 0, 47), (31, .if_icmp .ne 18, 0), (34, .lconst 1, 0), (35, .goto 19, 0), (38, .lconst 0, 0), (39, .lreturn, 0)]
noncomputable def F_P_isSign (x0 : Int32) (s : Mem) : Option (Int32 × Mem) :=
  (F_C_within x0 40 43 s).bind fun z1 =>
  if z1.1 = 0 then
    (F_C_within x0 59 62 z1.2).bind fun z2 =>
    if z2.1 = 0 then
      if x0 = 45 then
        some (1, z2.2)
      else
      if x0 = 47 then
        some (1, z2.2)
      else
      some (0, z2.2)
    else
    some (1, z2.2)
  else
  some (1, z1.2)
noncomputable def A_P_isSign (av : List Value) (s : Mem) : Option (Int32 × Mem) := match av with
  | [.int a0] => F_P_isSign a0 s
  | _ => none
noncomputable def C_P_isSign (k : Nat) (av : List Value) (s : Mem) : Option (Int32 × Mem) := cbr (Nat.beq k 2) (A_C_within av s) (none)
set_option maxRecDepth 100000 in
theorem e_P_isSign (x0 : Int32) (s : Mem) : F_P_isSign x0 s = xs C_P_isSign (fun k ls s => none) 0 (fun _ => 0) K_P_isSign 700 K_P_isSign [some (.int x0)] [] s := rfl
def K_P_split : MC := [(0, .iload 2, 0), (1, .aload 1, 0), (2, .arraylength, 0), (3, .invokeinterface 14 2, 0), (6, .istore 3, 0), (7, .aload 0, 0), (8, .lconst 0, 0), (9, .putfield 503, 0), (12, .aload 0, 0), (13, .lconst 0, 0), (14, .putfield 504, 0), (17, .aload 0, 0), (18, .lconst 0, 0), (19, .putfield 506, 0), (22, .aload 0, 0), (23, .iconst 0, (-1)), (24, .putfield 507, 0), (27, .lconst 0, 0), (28, .istore 4, 0), (30, .ret 0, 0), (30, .iload 4, 0), (32, .iload 3, 0), (33, .if_icmp .ge 107, 0), (36, .aload 1, 0), (37, .iload 4, 0), (39, .iaload, 0), (40, .istore 5, 0), (42, .iload 4, 0), (44, .lconst 1, 0), (45, .iadd, 0), (46, .istore 6, 0), (48, .iload 5, 0), (50, .invokeinterface 44 1, 0), (53, .ifCond .eq 54, 0), (56, .ret 1, 0), (56, .iload 6, 0), (58, .iload 3, 0), (59, .if_icmp .ge 45, 0), (62, .aload 1, 0), (63, .iload 6, 0), (65, .iaload, 0), (66, .invokeinterface 44 1, 0), (69, .ifCond .eq 45, 0), (72, .iinc 6 0, 1), (75, .goto 34, 0), (78, .aload 0, 0), (79, .aload 1, 0), (80, .iload 4, 0), (82, .iload 6, 0), (84, .invokeinterface 48 3, 0), (87, .lconst 0, 0), (88, .iload 4, 0), (90, .multianewarray 49 100, 0), (93, .goto 104, 0), (96, .iload 5, 0), (98, .invokeinterface 50 1, 0), (101, .ifCond .eq 88, 0), (104, .ret 2, 0), (104, .iload 6, 0), (106, .iload 3, 0), (107, .if_icmp .ge 68, 0), (110, .aload 1, 0), (111, .iload 6, 0), (113, .iaload, 0), (114, .invokeinterface 50 1, 0), (117, .ifCond .eq 68, 0), (120, .iinc 6 0, 1), (123, .goto 57, 0), (126, .aload 0, 0), (127, .iload 6, 0), (129, .iload 4, 0), (131, .isub, 0), (132, .iconst 0, 4), (133, .if_icmp .gt 76, 0), (136, .iconst 0, 64), (138, .goto 77, 0), (141, .iconst 0, 65), (143, .aload 1, 0), (144, .iload 4, 0), (146, .iload 6, 0), (148, .iload 4, 0), (150, .iconst 0, 4), (151, .iadd, 0), (152, .invokeinterface 14 2, 0), (155, .invokeinterface 51 3, 0), (158, .iload 4, 0), (160, .multianewarray 49 100, 0), (163, .goto 104, 0), (166, .iload 5, 0), (168, .iconst 0, 32), (170, .if_icmp .eq 104, 0), (173, .iload 5, 0), (175, .iconst 0, 10), (177, .if_icmp .eq 104, 0), (180, .aload 0, 0), (181, .iload 5, 0), (183, .invokeinterface 52 1, 0), (186, .ifCond .eq 100, 0), (189, .iload 5, 0), (191, .goto 101, 0), (194, .iconst 0, 65), (196, .lconst 0, 0), (197, .iload 4, 0), (199, .multianewarray 49 100, 0), (202, .iload 6, 0), (204, .istore 4, 0), (206, .goto 19, 0), (209, .aload 0, 0), (210, .iconst 0, 66), (212, .lconst 0, 0), (213, .iload 3, 0), (214, .multianewarray 49 100, 0), (217, .return_, 0)]
noncomputable def F_P_split_33 (k19 : Int32 → Int32 → Mem → Option (Int32 × Mem)) : Nat → Int32 → Int32 → Int32 → Mem → Option (Int32 × Mem)
  | 0, _, _, _, _ => none
  | n + 1, x3, x4, x6, s =>
    if x3 ≤ x6 then
      (F_P_keyword x4 x6 s).bind fun z1 =>
      (F_P_addToken z1.1 0 x4 z1.2).bind fun z2 =>
      k19 x3 x6 z2.2
    else
    (ld s 75 x6).bind fun v3 =>
    (F_P_isLetter v3 s).bind fun z4 =>
    if z4.1 = 0 then
      (F_P_keyword x4 x6 z4.2).bind fun z5 =>
      (F_P_addToken z5.1 0 x4 z5.2).bind fun z6 =>
      k19 x3 x6 z6.2
    else
    F_P_split_33 k19 n x3 x4 (x6 + 1) z4.2
noncomputable def F_P_split_55 (k19 : Int32 → Int32 → Mem → Option (Int32 × Mem)) : Nat → Int32 → Int32 → Int32 → Mem → Option (Int32 × Mem)
  | 0, _, _, _, _ => none
  | n + 1, x3, x4, x6, s =>
    if x3 ≤ x6 then
      if 4 < (x6 - x4) then
        (F_JM_min x6 (x4 + 4) s).bind fun z1 =>
        (F_P_valueOf x4 z1.1 z1.2).bind fun z2 =>
        (F_P_addToken 65 z2.1 x4 z2.2).bind fun z3 =>
        k19 x3 x6 z3.2
      else
      (F_JM_min x6 (x4 + 4) s).bind fun z4 =>
      (F_P_valueOf x4 z4.1 z4.2).bind fun z5 =>
      (F_P_addToken 64 z5.1 x4 z5.2).bind fun z6 =>
      k19 x3 x6 z6.2
    else
    (ld s 75 x6).bind fun v7 =>
    (F_P_isDigit v7 s).bind fun z8 =>
    if z8.1 = 0 then
      if 4 < (x6 - x4) then
        (F_JM_min x6 (x4 + 4) z8.2).bind fun z9 =>
        (F_P_valueOf x4 z9.1 z9.2).bind fun z10 =>
        (F_P_addToken 65 z10.1 x4 z10.2).bind fun z11 =>
        k19 x3 x6 z11.2
      else
      (F_JM_min x6 (x4 + 4) z8.2).bind fun z12 =>
      (F_P_valueOf x4 z12.1 z12.2).bind fun z13 =>
      (F_P_addToken 64 z13.1 x4 z13.2).bind fun z14 =>
      k19 x3 x6 z14.2
    else
    F_P_split_55 k19 n x3 x4 (x6 + 1) z8.2
noncomputable def F_P_split_19 : Nat → Int32 → Int32 → Mem → Option (Int32 × Mem)
  | 0, _, _, _ => none
  | n + 1, x3, x4, s =>
    if x3 ≤ x4 then
      (F_P_addToken 66 0 x3 s).bind fun z1 =>
      some (0, z1.2)
    else
    (ld s 75 x4).bind fun v2 =>
    (F_P_isLetter v2 s).bind fun z3 =>
    if z3.1 = 0 then
      (F_P_isDigit v2 z3.2).bind fun z4 =>
      if z4.1 = 0 then
        if v2 = 32 then
          F_P_split_19 n x3 (x4 + 1) z4.2
        else
        if v2 = 10 then
          F_P_split_19 n x3 (x4 + 1) z4.2
        else
        (F_P_isSign v2 z4.2).bind fun z5 =>
        if z5.1 = 0 then
          (F_P_addToken 65 0 x4 z5.2).bind fun z6 =>
          F_P_split_19 n x3 (x4 + 1) z6.2
        else
        (F_P_addToken v2 0 x4 z5.2).bind fun z7 =>
        F_P_split_19 n x3 (x4 + 1) z7.2
      else
      F_P_split_55 (F_P_split_19 n) gF x3 x4 (x4 + 1) z4.2
    else
    F_P_split_33 (F_P_split_19 n) gF x3 x4 (x4 + 1) z3.2
noncomputable def F_P_split (x2 : Int32) (s : Mem) : Option (Int32 × Mem) :=
  (F_JM_min x2 400 s).bind fun z1 =>
  let s2 : Mem := mw z1.2 76 3 0
  let s3 : Mem := mw s2 76 4 0
  let s4 : Mem := mw s3 76 6 0
  let s5 : Mem := mw s4 76 7 (-1)
  F_P_split_19 gF z1.1 0 s5
def A_P_split_19 (f : Int32 → Int32 → Mem → Option (Int32 × Mem)) (ls : List (Option Value)) (s : Mem) : Option (Int32 × Mem) := match lk ls 0, lk ls 1, lk ls 3, lk ls 4 with
  | some (.ref a0), some (.ref a1), some (.int a2), some (.int a3) => cbr (Nat.beq a0 76) (cbr (Nat.beq a1 75) (f a2 a3 s) none) none
  | _, _, _, _ => none
def A_P_split_33 (f : Int32 → Int32 → Int32 → Mem → Option (Int32 × Mem)) (ls : List (Option Value)) (s : Mem) : Option (Int32 × Mem) := match lk ls 0, lk ls 1, lk ls 3, lk ls 4, lk ls 6 with
  | some (.ref a0), some (.ref a1), some (.int a2), some (.int a3), some (.int a4) => cbr (Nat.beq a0 76) (cbr (Nat.beq a1 75) (f a2 a3 a4 s) none) none
  | _, _, _, _, _ => none
def A_P_split_55 (f : Int32 → Int32 → Int32 → Mem → Option (Int32 × Mem)) (ls : List (Option Value)) (s : Mem) : Option (Int32 × Mem) := match lk ls 0, lk ls 1, lk ls 3, lk ls 4, lk ls 6 with
  | some (.ref a0), some (.ref a1), some (.int a2), some (.int a3), some (.int a4) => cbr (Nat.beq a0 76) (cbr (Nat.beq a1 75) (f a2 a3 a4 s) none) none
  | _, _, _, _, _ => none
noncomputable def A_P_split (av : List Value) (s : Mem) : Option (Int32 × Mem) := match av with
  | [.ref a0, .ref a1, .int a2] => cbr (Nat.beq a0 76) (cbr (Nat.beq a1 75) (F_P_split a2 s) none) none
  | _ => none
noncomputable def C_P_split (k : Nat) (av : List Value) (s : Mem) : Option (Int32 × Mem) := cbr (Nat.beq k 14) (A_JM_min av s) (cbr (Nat.beq k 49) (A_P_addToken av s) (cbr (Nat.beq k 44) (A_P_isLetter av s) (cbr (Nat.beq k 50) (A_P_isDigit av s) (cbr (Nat.beq k 52) (A_P_isSign av s) (cbr (Nat.beq k 51) (A_P_valueOf av s) (cbr (Nat.beq k 48) (A_P_keyword av s) (none)))))))
set_option maxRecDepth 100000 in
theorem e_P_split_33 (k19 : Int32 → Int32 → Mem → Option (Int32 × Mem)) (n : Nat) (x3 : Int32) (x4 : Int32) (x6 : Int32) (s : Mem) : F_P_split_33 k19 (n + 1) x3 x4 x6 s = xs C_P_split (fun k ls s => cbr (Nat.beq k 0) (A_P_split_19 (k19) ls s) (cbr (Nat.beq k 1) (A_P_split_33 (F_P_split_33 k19 n) ls s) (none))) 0 (fun _ => 0) K_P_split 700 (K_P_split.drop 35) [some (.ref 76), some (.ref 75), none, some (.int x3), some (.int x4), none, some (.int x6)] [] s := rfl
set_option maxRecDepth 100000 in
theorem e_P_split_55 (k19 : Int32 → Int32 → Mem → Option (Int32 × Mem)) (n : Nat) (x3 : Int32) (x4 : Int32) (x6 : Int32) (s : Mem) : F_P_split_55 k19 (n + 1) x3 x4 x6 s = xs C_P_split (fun k ls s => cbr (Nat.beq k 0) (A_P_split_19 (k19) ls s) (cbr (Nat.beq k 2) (A_P_split_55 (F_P_split_55 k19 n) ls s) (none))) 0 (fun _ => 0) K_P_split 700 (K_P_split.drop 58) [some (.ref 76), some (.ref 75), none, some (.int x3), some (.int x4), none, some (.int x6)] [] s := rfl
set_option maxRecDepth 100000 in
theorem e_P_split_19  (n : Nat) (x3 : Int32) (x4 : Int32) (s : Mem) : F_P_split_19 (n + 1) x3 x4 s = xs C_P_split (fun k ls s => cbr (Nat.beq k 0) (A_P_split_19 (F_P_split_19 n) ls s) (cbr (Nat.beq k 1) (A_P_split_33 (F_P_split_33 (F_P_split_19 n) gF) ls s) (cbr (Nat.beq k 2) (A_P_split_55 (F_P_split_55 (F_P_split_19 n) gF) ls s) (none)))) 0 (fun _ => 0) K_P_split 700 (K_P_split.drop 20) [some (.ref 76), some (.ref 75), none, some (.int x3), some (.int x4), none, none] [] s := rfl
set_option maxRecDepth 100000 in
theorem e_P_split (x2 : Int32) (s : Mem) : F_P_split x2 s = xs C_P_split (fun k ls s => cbr (Nat.beq k 0) (A_P_split_19 (F_P_split_19 gF) ls s) (none)) 0 (fun _ => 0) K_P_split 700 K_P_split [some (.ref 76), some (.ref 75), some (.int x2), none, none, none, none] [] s := rfl
def K_L_clear : MC := [(0, .aload 0, 0), (1, .lconst 0, 0), (2, .putfield 201, 0), (5, .aload 0, 0), (6, .lconst 0, 0), (7, .putfield 206, 0), (10, .return_, 0)]
noncomputable def F_L_clear  (s : Mem) : Option (Int32 × Mem) :=
  let s1 : Mem := mw s 80 1 0
  let s2 : Mem := mw s1 80 6 0
  some (0, s2)
noncomputable def A_L_clear (av : List Value) (s : Mem) : Option (Int32 × Mem) := match av with
  | [.ref a0] => cbr (Nat.beq a0 80) (F_L_clear s) none
  | _ => none
noncomputable def C_L_clear (k : Nat) (av : List Value) (s : Mem) : Option (Int32 × Mem) := none
set_option maxRecDepth 100000 in
theorem e_L_clear  (s : Mem) : F_L_clear s = xs C_L_clear (fun k ls s => none) 0 (fun _ => 0) K_L_clear 700 K_L_clear [some (.ref 80)] [] s := rfl
def K_P_kind : MC := [(0, .aload 0, 0), (1, .getfield 504, 0), (4, .ifCond .lt 20, 0), (7, .aload 0, 0), (8, .getfield 504, 0), (11, .aload 0, 0), (12, .getfield 503, 0), (15, .if_icmp .ge 20, 0), (18, .aload 0, 0), (19, .getfield 504, 0), (22, .aload 0, 0), (23, .getstatic 500, 0), (26, .arraylength, 0), (27, .if_icmp .ge 20, 0), (30, .aload 0, 0), (31, .getstatic 500, 0), (34, .aload 0, 0), (35, .getfield 504, 0), (38, .iaload, 0), (39, .goto 21, 0), (42, .iconst 0, 66), (44, .ireturn, 0)]
noncomputable def F_P_kind  (s : Mem) : Option (Int32 × Mem) :=
  if (s 76 4) < 0 then
    some (66, s)
  else
  if (s 76 3) ≤ (s 76 4) then
    some (66, s)
  else
  if 401 ≤ (s 76 4) then
    some (66, s)
  else
  (ld s 77 (s 76 4)).bind fun v1 =>
  some (v1, s)
noncomputable def A_P_kind (av : List Value) (s : Mem) : Option (Int32 × Mem) := match av with
  | [.ref a0] => cbr (Nat.beq a0 76) (F_P_kind s) none
  | _ => none
noncomputable def C_P_kind (k : Nat) (av : List Value) (s : Mem) : Option (Int32 × Mem) := none
set_option maxRecDepth 100000 in
theorem e_P_kind  (s : Mem) : F_P_kind s = xs C_P_kind (fun k ls s => none) 0 (fun _ => 0) K_P_kind 700 K_P_kind [some (.ref 76)] [] s := rfl
def K_P_fail : MC := [(0, .aload 0, 0), (1, .iload 1, 0), (2, .putfield 506, 0), (5, .aload 0, 0), (6, .aload 0, 0), (7, .getfield 504, 0), (10, .ifCond .lt 19, 0), (13, .aload 0, 0), (14, .getfield 504, 0), (17, .aload 0, 0), (18, .getstatic 502, 0), (21, .arraylength, 0), (22, .if_icmp .ge 19, 0), (25, .aload 0, 0), (26, .getstatic 502, 0), (29, .aload 0, 0), (30, .getfield 504, 0), (33, .iaload, 0), (34, .goto 20, 0), (37, .lconst 0, 0), (38, .putfield 507, 0), (41, .lconst 0, 0), (42, .lreturn, 0)]
noncomputable def F_P_fail (x1 : Int32) (s : Mem) : Option (Int32 × Mem) :=
  let s1 : Mem := mw s 76 6 x1
  if (s1 76 4) < 0 then
    let s2 : Mem := mw s1 76 7 0
    some (0, s2)
  else
  if 401 ≤ (s1 76 4) then
    let s3 : Mem := mw s1 76 7 0
    some (0, s3)
  else
  (ld s1 79 (s1 76 4)).bind fun v4 =>
  let s5 : Mem := mw s1 76 7 v4
  some (0, s5)
noncomputable def A_P_fail (av : List Value) (s : Mem) : Option (Int32 × Mem) := match av with
  | [.ref a0, .int a1] => cbr (Nat.beq a0 76) (F_P_fail a1 s) none
  | _ => none
noncomputable def C_P_fail (k : Nat) (av : List Value) (s : Mem) : Option (Int32 × Mem) := none
set_option maxRecDepth 100000 in
theorem e_P_fail (x1 : Int32) (s : Mem) : F_P_fail x1 s = xs C_P_fail (fun k ls s => none) 0 (fun _ => 0) K_P_fail 700 K_P_fail [some (.ref 76), some (.int x1)] [] s := rfl
def K_L_isFull : MC := [(0, .aload 0, 0), (1, .getfield 206, 0), (4, .lconst 0, 0), (5, .iconst 0, 15), (7, .invokeinterface 2 3, 0), (10, .ifCond .ne 8, 0), (13, .lconst 1, 0), (14, .goto 9, 0), (17, .lconst 0, 0), (18, .lreturn, 0)]
noncomputable def F_L_isFull  (s : Mem) : Option (Int32 × Mem) :=
  (F_C_within (s 80 6) 0 15 s).bind fun z1 =>
  if z1.1 = 0 then
    some (1, z1.2)
  else
  some (0, z1.2)
noncomputable def A_L_isFull (av : List Value) (s : Mem) : Option (Int32 × Mem) := match av with
  | [.ref a0] => cbr (Nat.beq a0 80) (F_L_isFull s) none
  | _ => none
noncomputable def C_L_isFull (k : Nat) (av : List Value) (s : Mem) : Option (Int32 × Mem) := cbr (Nat.beq k 2) (A_C_within av s) (none)
set_option maxRecDepth 100000 in
theorem e_L_isFull  (s : Mem) : F_L_isFull s = xs C_L_isFull (fun k ls s => none) 0 (fun _ => 0) K_L_isFull 700 K_L_isFull [some (.ref 80)] [] s := rfl
def K_L_beginLine : MC := [(0, .aload 0, 0), (1, .invokeinterface 57 49, 0), (4, .ifCond .ne 16, 0), (7, .aload 0, 0), (8, .getstatic 202, 0), (11, .aload 0, 0), (12, .getfield 206, 0), (15, .iload 1, 0), (16, .iastore, 0), (17, .aload 0, 0), (18, .getstatic 203, 0), (21, .aload 0, 0), (22, .getfield 206, 0), (25, .aload 0, 0), (26, .getfield 201, 0), (29, .iastore, 0), (30, .return_, 0)]
noncomputable def F_L_beginLine (x1 : Int32) (s : Mem) : Option (Int32 × Mem) :=
  (F_L_isFull s).bind fun z1 =>
  if z1.1 = 0 then
    (sd z1.2 82 (z1.2 80 6) x1).bind fun s2 =>
    (sd s2 83 (s2 80 6) (s2 80 1)).bind fun s3 =>
    some (0, s3)
  else
  some (0, z1.2)
noncomputable def A_L_beginLine (av : List Value) (s : Mem) : Option (Int32 × Mem) := match av with
  | [.ref a0, .int a1] => cbr (Nat.beq a0 80) (F_L_beginLine a1 s) none
  | _ => none
noncomputable def C_L_beginLine (k : Nat) (av : List Value) (s : Mem) : Option (Int32 × Mem) := cbr (Nat.beq k 57) (A_L_isFull av s) (none)
set_option maxRecDepth 100000 in
theorem e_L_beginLine (x1 : Int32) (s : Mem) : F_L_beginLine x1 s = xs C_L_beginLine (fun k ls s => none) 0 (fun _ => 0) K_L_beginLine 700 K_L_beginLine [some (.ref 80), some (.int x1)] [] s := rfl
def K_L_put : MC := [(0, .aload 0, 0), (1, .getfield 201, 0), (4, .ifCond .lt 25, 0), (7, .aload 0, 0), (8, .getfield 201, 0), (11, .aload 0, 0), (12, .getstatic 200, 0), (15, .arraylength, 0), (16, .if_icmp .ge 25, 0), (19, .aload 0, 0), (20, .getstatic 200, 0), (23, .aload 0, 0), (24, .getfield 201, 0), (27, .iload 2, 0), (28, .iconst 0, 4), (29, .ishl, 0), (30, .iload 1, 0), (31, .ior, 0), (32, .iastore, 0), (33, .aload 0, 0), (34, .dup, 0), (35, .getfield 201, 0), (38, .lconst 1, 0), (39, .iadd, 0), (40, .putfield 201, 0), (43, .return_, 0)]
noncomputable def F_L_put (x1 : Int32) (x2 : Int32) (s : Mem) : Option (Int32 × Mem) :=
  if (s 80 1) < 0 then
    some (0, s)
  else
  if 400 ≤ (s 80 1) then
    some (0, s)
  else
  (sd s 81 (s 80 1) ((shl x2 4) ||| x1)).bind fun s1 =>
  let s2 : Mem := mw s1 80 1 ((s1 80 1) + 1)
  some (0, s2)
noncomputable def A_L_put (av : List Value) (s : Mem) : Option (Int32 × Mem) := match av with
  | [.ref a0, .int a1, .int a2] => cbr (Nat.beq a0 80) (F_L_put a1 a2 s) none
  | _ => none
noncomputable def C_L_put (k : Nat) (av : List Value) (s : Mem) : Option (Int32 × Mem) := none
set_option maxRecDepth 100000 in
theorem e_L_put (x1 : Int32) (x2 : Int32) (s : Mem) : F_L_put x1 x2 s = xs C_L_put (fun k ls s => none) 0 (fun _ => 0) K_L_put 700 K_L_put [some (.ref 80), some (.int x1), some (.int x2)] [] s := rfl
def K_P_takeNumber : MC := [(0, .aload 0, 0), (1, .invokeinterface 55 97, 0), (4, .iconst 0, 64), (6, .if_icmp .eq 8, 0), (9, .aload 0, 0), (10, .lconst 1, 0), (11, .invokeinterface 56 98, 0), (14, .lreturn, 0), (15, .aload 0, 0), (16, .getfield 504, 0), (19, .ifCond .lt 23, 0), (22, .aload 0, 0), (23, .getfield 504, 0), (26, .aload 0, 0), (27, .getstatic 501, 0), (30, .arraylength, 0), (31, .if_icmp .ge 23, 0), (34, .aload 0, 0), (35, .getstatic 501, 0), (38, .aload 0, 0), (39, .getfield 504, 0), (42, .iaload, 0), (43, .goto 24, 0), (46, .lconst 0, 0), (47, .istore 3, 0), (48, .iload 3, 0), (49, .iload 1, 0), (50, .if_icmp .lt 31, 0), (53, .iload 3, 0), (54, .iload 2, 0), (55, .if_icmp .le 35, 0), (58, .aload 0, 0), (59, .iconst 0, 2), (60, .invokeinterface 56 98, 0), (63, .lreturn, 0), (64, .aload 0, 0), (65, .iload 3, 0), (66, .putfield 505, 0), (69, .aload 0, 0), (70, .dup, 0), (71, .getfield 504, 0), (74, .lconst 1, 0), (75, .iadd, 0), (76, .putfield 504, 0), (79, .lconst 1, 0), (80, .lreturn, 0)]
noncomputable def F_P_takeNumber (x1 : Int32) (x2 : Int32) (s : Mem) : Option (Int32 × Mem) :=
  (F_P_kind s).bind fun z1 =>
  if z1.1 = 64 then
    if (z1.2 76 4) < 0 then
      if 0 < x1 then
        (F_P_fail 2 z1.2).bind fun z2 =>
        if z2.1 &&& 1 = z2.1 then
        some (z2.1, z2.2)
        else none
      else
      if 0 ≤ x2 then
        let s3 : Mem := mw z1.2 76 5 0
        let s4 : Mem := mw s3 76 4 ((s3 76 4) + 1)
        some (1, s4)
      else
      (F_P_fail 2 z1.2).bind fun z5 =>
      if z5.1 &&& 1 = z5.1 then
      some (z5.1, z5.2)
      else none
    else
    if 401 ≤ (z1.2 76 4) then
      if 0 < x1 then
        (F_P_fail 2 z1.2).bind fun z6 =>
        if z6.1 &&& 1 = z6.1 then
        some (z6.1, z6.2)
        else none
      else
      if 0 ≤ x2 then
        let s7 : Mem := mw z1.2 76 5 0
        let s8 : Mem := mw s7 76 4 ((s7 76 4) + 1)
        some (1, s8)
      else
      (F_P_fail 2 z1.2).bind fun z9 =>
      if z9.1 &&& 1 = z9.1 then
      some (z9.1, z9.2)
      else none
    else
    (ld z1.2 78 (z1.2 76 4)).bind fun v10 =>
    if v10 < x1 then
      (F_P_fail 2 z1.2).bind fun z11 =>
      if z11.1 &&& 1 = z11.1 then
      some (z11.1, z11.2)
      else none
    else
    if v10 ≤ x2 then
      let s12 : Mem := mw z1.2 76 5 v10
      let s13 : Mem := mw s12 76 4 ((s12 76 4) + 1)
      some (1, s13)
    else
    (F_P_fail 2 z1.2).bind fun z14 =>
    if z14.1 &&& 1 = z14.1 then
    some (z14.1, z14.2)
    else none
  else
  (F_P_fail 1 z1.2).bind fun z15 =>
  if z15.1 &&& 1 = z15.1 then
  some (z15.1, z15.2)
  else none
noncomputable def A_P_takeNumber (av : List Value) (s : Mem) : Option (Int32 × Mem) := match av with
  | [.ref a0, .int a1, .int a2] => cbr (Nat.beq a0 76) (F_P_takeNumber a1 a2 s) none
  | _ => none
noncomputable def C_P_takeNumber (k : Nat) (av : List Value) (s : Mem) : Option (Int32 × Mem) := cbr (Nat.beq k 55) (A_P_kind av s) (cbr (Nat.beq k 56) (A_P_fail av s) (none))
set_option maxRecDepth 100000 in
theorem e_P_takeNumber (x1 : Int32) (x2 : Int32) (s : Mem) : F_P_takeNumber x1 x2 s = xs C_P_takeNumber (fun k ls s => none) 0 (fun _ => 0) K_P_takeNumber 700 K_P_takeNumber [some (.ref 76), some (.int x1), some (.int x2), none] [] s := rfl
def K_P_readProduct : MC := [(0, .lconst 0, 0), (1, .istore 1, 0), (2, .ret 0, 0), (2, .aload 0, 0), (3, .getfield 504, 0), (6, .aload 0, 0), (7, .getfield 503, 0), (10, .if_icmp .ge 95, 0), (13, .aload 0, 0), (14, .invokeinterface 55 97, 0), (17, .iconst 0, 7), (19, .iconst 0, 17), (21, .invokeinterface 2 3, 0), (24, .ifCond .eq 29, 0), (27, .aload 0, 0), (28, .getstatic 508, 0), (31, .lconst 1, 0), (32, .aload 0, 0), (33, .invokeinterface 55 97, 0), (36, .iconst 0, 7), (38, .isub, 0), (39, .multianewarray 59 51, 0), (42, .aload 0, 0), (43, .dup, 0), (44, .getfield 504, 0), (47, .lconst 1, 0), (48, .iadd, 0), (49, .putfield 504, 0), (52, .goto 43, 0), (55, .aload 0, 0), (56, .lconst 0, 0), (57, .iconst 0, 9999), (60, .invokeinterface 60 99, 0), (63, .ifCond .eq 41, 0), (66, .aload 0, 0), (67, .getstatic 508, 0), (70, .lconst 0, 0), (71, .aload 0, 0), (72, .getfield 505, 0), (75, .multianewarray 59 51, 0), (78, .goto 43, 0), (81, .lconst 0, 0), (82, .lreturn, 0), (83, .iload 1, 0), (84, .ifCond .eq 50, 0), (87, .aload 0, 0), (88, .getstatic 508, 0), (91, .iconst 0, 4), (92, .lconst 0, 0), (93, .multianewarray 59 51, 0), (96, .ret 1, 0), (96, .aload 0, 0), (97, .getfield 504, 0), (100, .aload 0, 0), (101, .getfield 503, 0), (104, .if_icmp .ge 80, 0), (107, .aload 0, 0), (108, .invokeinterface 55 97, 0), (111, .iconst 0, 47), (113, .if_icmp .ne 80, 0), (116, .aload 0, 0), (117, .dup, 0), (118, .getfield 504, 0), (121, .lconst 1, 0), (122, .iadd, 0), (123, .putfield 504, 0), (126, .aload 0, 0), (127, .lconst 1, 0), (128, .iconst 0, 9999), (131, .invokeinterface 60 99, 0), (134, .ifCond .ne 73, 0), (137, .lconst 0, 0), (138, .lreturn, 0), (139, .aload 0, 0), (140, .getstatic 508, 0), (143, .iconst 0, 5), (144, .aload 0, 0), (145, .getfield 505, 0), (148, .multianewarray 59 51, 0), (151, .goto 50, 0), (154, .aload 0, 0), (155, .invokeinterface 55 97, 0), (158, .iconst 0, 42), (160, .if_icmp .eq 86, 0), (163, .lconst 1, 0), (164, .lreturn, 0), (165, .lconst 1, 0), (166, .istore 1, 0), (167, .aload 0, 0), (168, .dup, 0), (169, .getfield 504, 0), (172, .lconst 1, 0), (173, .iadd, 0), (174, .putfield 504, 0), (177, .goto 2, 0), (180, .lconst 0, 0), (181, .lreturn, 0)]
noncomputable def F_P_readProduct_49 (k2 : Int32 → Mem → Option (Int32 × Mem)) : Nat → Mem → Option (Int32 × Mem)
  | 0, _ => none
  | n + 1, s =>
    if (s 76 3) ≤ (s 76 4) then
      (F_P_kind s).bind fun z1 =>
      if z1.1 = 42 then
        let s2 : Mem := mw z1.2 76 4 ((z1.2 76 4) + 1)
        k2 1 s2
      else
      some (1, z1.2)
    else
    (F_P_kind s).bind fun z3 =>
    if z3.1 = 47 then
      let s4 : Mem := mw z3.2 76 4 ((z3.2 76 4) + 1)
      (F_P_takeNumber 1 9999 s4).bind fun z5 =>
      if z5.1 = 0 then
        some (0, z5.2)
      else
      (F_L_put 5 (z5.2 76 5) z5.2).bind fun z6 =>
      F_P_readProduct_49 k2 n z6.2
    else
    (F_P_kind z3.2).bind fun z7 =>
    if z7.1 = 42 then
      let s8 : Mem := mw z7.2 76 4 ((z7.2 76 4) + 1)
      k2 1 s8
    else
    some (1, z7.2)
noncomputable def F_P_readProduct_2 : Nat → Int32 → Mem → Option (Int32 × Mem)
  | 0, _, _ => none
  | n + 1, x1, s =>
    if (s 76 3) ≤ (s 76 4) then
      some (0, s)
    else
    (F_P_kind s).bind fun z1 =>
    (F_C_within z1.1 7 17 z1.2).bind fun z2 =>
    if z2.1 = 0 then
      (F_P_takeNumber 0 9999 z2.2).bind fun z3 =>
      if z3.1 = 0 then
        some (0, z3.2)
      else
      (F_L_put 0 (z3.2 76 5) z3.2).bind fun z4 =>
      if x1 = 0 then
        F_P_readProduct_49 (F_P_readProduct_2 n) gF z4.2
      else
      (F_L_put 4 0 z4.2).bind fun z5 =>
      F_P_readProduct_49 (F_P_readProduct_2 n) gF z5.2
    else
    (F_P_kind z2.2).bind fun z6 =>
    (F_L_put 1 (z6.1 - 7) z6.2).bind fun z7 =>
    let s8 : Mem := mw z7.2 76 4 ((z7.2 76 4) + 1)
    if x1 = 0 then
      F_P_readProduct_49 (F_P_readProduct_2 n) gF s8
    else
    (F_L_put 4 0 s8).bind fun z9 =>
    F_P_readProduct_49 (F_P_readProduct_2 n) gF z9.2
noncomputable def F_P_readProduct  (s : Mem) : Option (Int32 × Mem) :=
  F_P_readProduct_2 gF 0 s
def A_P_readProduct_2 (f : Int32 → Mem → Option (Int32 × Mem)) (ls : List (Option Value)) (s : Mem) : Option (Int32 × Mem) := match lk ls 0, lk ls 1 with
  | some (.ref a0), some (.int a1) => cbr (Nat.beq a0 76) (f a1 s) none
  | _, _ => none
def A_P_readProduct_49 (f : Mem → Option (Int32 × Mem)) (ls : List (Option Value)) (s : Mem) : Option (Int32 × Mem) := match lk ls 0 with
  | some (.ref a0) => cbr (Nat.beq a0 76) (f s) none
  | _ => none
noncomputable def A_P_readProduct (av : List Value) (s : Mem) : Option (Int32 × Mem) := match av with
  | [.ref a0] => cbr (Nat.beq a0 76) (F_P_readProduct s) none
  | _ => none
noncomputable def C_P_readProduct (k : Nat) (av : List Value) (s : Mem) : Option (Int32 × Mem) := cbr (Nat.beq k 55) (A_P_kind av s) (cbr (Nat.beq k 2) (A_C_within av s) (cbr (Nat.beq k 60) (A_P_takeNumber av s) (cbr (Nat.beq k 59) (A_L_put av s) (none))))
set_option maxRecDepth 100000 in
theorem e_P_readProduct_49 (k2 : Int32 → Mem → Option (Int32 × Mem)) (n : Nat)  (s : Mem) : F_P_readProduct_49 k2 (n + 1) s = xs C_P_readProduct (fun k ls s => cbr (Nat.beq k 0) (A_P_readProduct_2 (k2) ls s) (cbr (Nat.beq k 1) (A_P_readProduct_49 (F_P_readProduct_49 k2 n) ls s) (none))) 0 (fun _ => 0) K_P_readProduct 700 (K_P_readProduct.drop 51) [some (.ref 76), none] [] s := rfl
set_option maxRecDepth 100000 in
theorem e_P_readProduct_2  (n : Nat) (x1 : Int32) (s : Mem) : F_P_readProduct_2 (n + 1) x1 s = xs C_P_readProduct (fun k ls s => cbr (Nat.beq k 1) (A_P_readProduct_49 (F_P_readProduct_49 (F_P_readProduct_2 n) gF) ls s) (none)) 0 (fun _ => 0) K_P_readProduct 700 (K_P_readProduct.drop 3) [some (.ref 76), some (.int x1)] [] s := rfl
set_option maxRecDepth 100000 in
theorem e_P_readProduct  (s : Mem) : F_P_readProduct s = xs C_P_readProduct (fun k ls s => cbr (Nat.beq k 0) (A_P_readProduct_2 (F_P_readProduct_2 gF) ls s) (none)) 0 (fun _ => 0) K_P_readProduct 700 K_P_readProduct [some (.ref 76), none] [] s := rfl
def K_P_readSum : MC := [(0, .lconst 0, 0), (1, .istore 1, 0), (2, .ret 0, 0), (2, .aload 0, 0), (3, .getfield 504, 0), (6, .aload 0, 0), (7, .getfield 503, 0), (10, .if_icmp .ge 43, 0), (13, .aload 0, 0), (14, .invokeinterface 61 97, 0), (17, .ifCond .ne 13, 0), (20, .lconst 0, 0), (21, .lreturn, 0), (22, .iload 1, 0), (23, .ifCond .eq 25, 0), (26, .aload 0, 0), (27, .getstatic 508, 0), (30, .iload 1, 0), (31, .iconst 0, 43), (33, .if_icmp .ne 22, 0), (36, .iconst 0, 2), (37, .goto 23, 0), (40, .iconst 0, 3), (41, .lconst 0, 0), (42, .multianewarray 59 51, 0), (45, .aload 0, 0), (46, .invokeinterface 55 97, 0), (49, .istore 1, 0), (50, .iload 1, 0), (51, .iconst 0, 43), (53, .if_icmp .eq 36, 0), (56, .iload 1, 0), (57, .iconst 0, 45), (59, .if_icmp .eq 36, 0), (62, .lconst 1, 0), (63, .lreturn, 0), (64, .aload 0, 0), (65, .dup, 0), (66, .getfield 504, 0), (69, .lconst 1, 0), (70, .iadd, 0), (71, .putfield 504, 0), (74, .goto 2, 0), (77, .lconst 0, 0), (78, .lreturn, 0)]
noncomputable def F_P_readSum_2 : Nat → Int32 → Mem → Option (Int32 × Mem)
  | 0, _, _ => none
  | n + 1, x1, s =>
    if (s 76 3) ≤ (s 76 4) then
      some (0, s)
    else
    (F_P_readProduct s).bind fun z1 =>
    if z1.1 = 0 then
      some (0, z1.2)
    else
    if x1 = 0 then
      (F_P_kind z1.2).bind fun z2 =>
      if z2.1 = 43 then
        let s3 : Mem := mw z2.2 76 4 ((z2.2 76 4) + 1)
        F_P_readSum_2 n z2.1 s3
      else
      if z2.1 = 45 then
        let s4 : Mem := mw z2.2 76 4 ((z2.2 76 4) + 1)
        F_P_readSum_2 n z2.1 s4
      else
      some (1, z2.2)
    else
    if x1 = 43 then
      (F_L_put 2 0 z1.2).bind fun z5 =>
      (F_P_kind z5.2).bind fun z6 =>
      if z6.1 = 43 then
        let s7 : Mem := mw z6.2 76 4 ((z6.2 76 4) + 1)
        F_P_readSum_2 n z6.1 s7
      else
      if z6.1 = 45 then
        let s8 : Mem := mw z6.2 76 4 ((z6.2 76 4) + 1)
        F_P_readSum_2 n z6.1 s8
      else
      some (1, z6.2)
    else
    (F_L_put 3 0 z1.2).bind fun z9 =>
    (F_P_kind z9.2).bind fun z10 =>
    if z10.1 = 43 then
      let s11 : Mem := mw z10.2 76 4 ((z10.2 76 4) + 1)
      F_P_readSum_2 n z10.1 s11
    else
    if z10.1 = 45 then
      let s12 : Mem := mw z10.2 76 4 ((z10.2 76 4) + 1)
      F_P_readSum_2 n z10.1 s12
    else
    some (1, z10.2)
noncomputable def F_P_readSum  (s : Mem) : Option (Int32 × Mem) :=
  F_P_readSum_2 gF 0 s
def A_P_readSum_2 (f : Int32 → Mem → Option (Int32 × Mem)) (ls : List (Option Value)) (s : Mem) : Option (Int32 × Mem) := match lk ls 0, lk ls 1 with
  | some (.ref a0), some (.int a1) => cbr (Nat.beq a0 76) (f a1 s) none
  | _, _ => none
noncomputable def A_P_readSum (av : List Value) (s : Mem) : Option (Int32 × Mem) := match av with
  | [.ref a0] => cbr (Nat.beq a0 76) (F_P_readSum s) none
  | _ => none
noncomputable def C_P_readSum (k : Nat) (av : List Value) (s : Mem) : Option (Int32 × Mem) := cbr (Nat.beq k 61) (A_P_readProduct av s) (cbr (Nat.beq k 55) (A_P_kind av s) (cbr (Nat.beq k 59) (A_L_put av s) (none)))
set_option maxRecDepth 100000 in
theorem e_P_readSum_2  (n : Nat) (x1 : Int32) (s : Mem) : F_P_readSum_2 (n + 1) x1 s = xs C_P_readSum (fun k ls s => cbr (Nat.beq k 0) (A_P_readSum_2 (F_P_readSum_2 n) ls s) (none)) 0 (fun _ => 0) K_P_readSum 700 (K_P_readSum.drop 3) [some (.ref 76), some (.int x1)] [] s := rfl
set_option maxRecDepth 100000 in
theorem e_P_readSum  (s : Mem) : F_P_readSum s = xs C_P_readSum (fun k ls s => cbr (Nat.beq k 0) (A_P_readSum_2 (F_P_readSum_2 gF) ls s) (none)) 0 (fun _ => 0) K_P_readSum 700 K_P_readSum [some (.ref 76), none] [] s := rfl
def K_L_beginWhen : MC := [(0, .aload 0, 0), (1, .invokeinterface 57 49, 0), (4, .ifCond .ne 10, 0), (7, .aload 0, 0), (8, .getstatic 204, 0), (11, .aload 0, 0), (12, .getfield 206, 0), (15, .aload 0, 0), (16, .getfield 201, 0), (19, .iastore, 0), (20, .return_, 0)]
noncomputable def F_L_beginWhen  (s : Mem) : Option (Int32 × Mem) :=
  (F_L_isFull s).bind fun z1 =>
  if z1.1 = 0 then
    (sd z1.2 84 (z1.2 80 6) (z1.2 80 1)).bind fun s2 =>
    some (0, s2)
  else
  some (0, z1.2)
noncomputable def A_L_beginWhen (av : List Value) (s : Mem) : Option (Int32 × Mem) := match av with
  | [.ref a0] => cbr (Nat.beq a0 80) (F_L_beginWhen s) none
  | _ => none
noncomputable def C_L_beginWhen (k : Nat) (av : List Value) (s : Mem) : Option (Int32 × Mem) := cbr (Nat.beq k 57) (A_L_isFull av s) (none)
set_option maxRecDepth 100000 in
theorem e_L_beginWhen  (s : Mem) : F_L_beginWhen s = xs C_L_beginWhen (fun k ls s => none) 0 (fun _ => 0) K_L_beginWhen 700 K_L_beginWhen [some (.ref 80)] [] s := rfl
def K_P_take : MC := [(0, .aload 0, 0), (1, .invokeinterface 55 97, 0), (4, .iload 1, 0), (5, .if_icmp .eq 8, 0), (8, .aload 0, 0), (9, .lconst 1, 0), (10, .invokeinterface 56 98, 0), (13, .lreturn, 0), (14, .aload 0, 0), (15, .dup, 0), (16, .getfield 504, 0), (19, .lconst 1, 0), (20, .iadd, 0), (21, .putfield 504, 0), (24, .lconst 1, 0), (25, .lreturn, 0)]
noncomputable def F_P_take (x1 : Int32) (s : Mem) : Option (Int32 × Mem) :=
  (F_P_kind s).bind fun z1 =>
  if z1.1 = x1 then
    let s2 : Mem := mw z1.2 76 4 ((z1.2 76 4) + 1)
    some (1, s2)
  else
  (F_P_fail 1 z1.2).bind fun z3 =>
  if z3.1 &&& 1 = z3.1 then
  some (z3.1, z3.2)
  else none
noncomputable def A_P_take (av : List Value) (s : Mem) : Option (Int32 × Mem) := match av with
  | [.ref a0, .int a1] => cbr (Nat.beq a0 76) (F_P_take a1 s) none
  | _ => none
noncomputable def C_P_take (k : Nat) (av : List Value) (s : Mem) : Option (Int32 × Mem) := cbr (Nat.beq k 55) (A_P_kind av s) (cbr (Nat.beq k 56) (A_P_fail av s) (none))
set_option maxRecDepth 100000 in
theorem e_P_take (x1 : Int32) (s : Mem) : F_P_take x1 s = xs C_P_take (fun k ls s => none) 0 (fun _ => 0) K_P_take 700 K_P_take [some (.ref 76), some (.int x1)] [] s := rfl
def K_P_readComparison : MC := [(0, .aload 0, 0), (1, .invokeinterface 55 97, 0), (4, .istore 2, 0), (5, .iload 2, 0), (6, .iconst 0, 6), (8, .if_icmp .eq 9, 0), (11, .iload 2, 0), (12, .iconst 0, 40), (14, .if_icmp .ne 54, 0), (17, .iload 1, 0), (18, .iconst 0, 8), (20, .if_icmp .lt 16, 0), (23, .aload 0, 0), (24, .iconst 0, 3), (25, .invokeinterface 56 98, 0), (28, .lreturn, 0), (29, .aload 0, 0), (30, .dup, 0), (31, .getfield 504, 0), (34, .lconst 1, 0), (35, .iadd, 0), (36, .putfield 504, 0), (39, .iload 2, 0), (40, .iconst 0, 40), (42, .if_icmp .ne 39, 0), (45, .aload 0, 0), (46, .iload 1, 0), (47, .lconst 1, 0), (48, .iadd, 0), (49, .invokeinterface 66 98, 0), (52, .ifCond .eq 37, 0), (55, .aload 0, 0), (56, .iconst 0, 41), (58, .invokeinterface 64 98, 0), (61, .ifCond .eq 37, 0), (64, .lconst 1, 0), (65, .goto 38, 0), (68, .lconst 0, 0), (69, .lreturn, 0), (70, .aload 0, 0), (71, .iload 1, 0), (72, .lconst 1, 0), (73, .iadd, 0), (74, .invokeinterface 65 98, 0), (77, .ifCond .ne 47, 0), (80, .lconst 0, 0), (81, .lreturn, 0), (82, .aload 0, 0), (83, .getstatic 508, 0), (86, .iconst 0, 9), (88, .lconst 0, 0), (89, .multianewarray 59 51, 0), (92, .lconst 1, 0), (93, .lreturn, 0), (94, .aload 0, 0), (95, .invokeinterface 62 97, 0), (98, .ifCond .ne 59, 0), (101, .lconst 0, 0), (102, .lreturn, 0), (103, .aload 0, 0), (104, .invokeinterface 55 97, 0), (107, .istore 3, 0), (108, .iload 3, 0), (109, .iconst 0, 60), (111, .iconst 0, 62), (113, .invokeinterface 2 3, 0), (116, .ifCond .ne 71, 0), (119, .aload 0, 0), (120, .lconst 1, 0), (121, .invokeinterface 56 98, 0), (124, .lreturn, 0), (125, .aload 0, 0), (126, .dup, 0), (127, .getfield 504, 0), (130, .lconst 1, 0), (131, .iadd, 0), (132, .putfield 504, 0), (135, .aload 0, 0), (136, .invokeinterface 62 97, 0), (139, .ifCond .ne 82, 0), (142, .lconst 0, 0), (143, .lreturn, 0), (144, .aload 0, 0), (145, .getstatic 508, 0), (148, .iload 3, 0), (149, .iconst 0, 60), (151, .if_icmp .ne 89, 0), (154, .iconst 0, 6), (156, .goto 95, 0), (159, .iload 3, 0), (160, .iconst 0, 61), (162, .if_icmp .ne 94, 0), (165, .iconst 0, 7), (167, .goto 95, 0), (170, .iconst 0, 8), (172, .lconst 0, 0), (173, .multianewarray 59 51, 0), (176, .lconst 1, 0), (177, .lreturn, 0)]
noncomputable def F_P_readComparison (rc : Nat → Int32 → Mem → Option (Int32 × Mem)) (x1 : Int32) (s : Mem) : Option (Int32 × Mem) :=
  (F_P_kind s).bind fun z1 =>
  if z1.1 = 6 then
    if x1 < 8 then
      let s2 : Mem := mw z1.2 76 4 ((z1.2 76 4) + 1)
      if z1.1 = 40 then
        (rc 1 (x1 + 1) s2).bind fun z3 =>
        if z3.1 = 0 then
          some (0, z3.2)
        else
        (F_P_take 41 z3.2).bind fun z4 =>
        if z4.1 = 0 then
          some (0, z4.2)
        else
        some (1, z4.2)
      else
      (rc 0 (x1 + 1) s2).bind fun z5 =>
      if z5.1 = 0 then
        some (0, z5.2)
      else
      (F_L_put 9 0 z5.2).bind fun z6 =>
      some (1, z6.2)
    else
    (F_P_fail 3 z1.2).bind fun z7 =>
    if z7.1 &&& 1 = z7.1 then
    some (z7.1, z7.2)
    else none
  else
  if z1.1 = 40 then
    if x1 < 8 then
      let s8 : Mem := mw z1.2 76 4 ((z1.2 76 4) + 1)
      if z1.1 = 40 then
        (rc 1 (x1 + 1) s8).bind fun z9 =>
        if z9.1 = 0 then
          some (0, z9.2)
        else
        (F_P_take 41 z9.2).bind fun z10 =>
        if z10.1 = 0 then
          some (0, z10.2)
        else
        some (1, z10.2)
      else
      (rc 0 (x1 + 1) s8).bind fun z11 =>
      if z11.1 = 0 then
        some (0, z11.2)
      else
      (F_L_put 9 0 z11.2).bind fun z12 =>
      some (1, z12.2)
    else
    (F_P_fail 3 z1.2).bind fun z13 =>
    if z13.1 &&& 1 = z13.1 then
    some (z13.1, z13.2)
    else none
  else
  (F_P_readSum z1.2).bind fun z14 =>
  if z14.1 = 0 then
    some (0, z14.2)
  else
  (F_P_kind z14.2).bind fun z15 =>
  (F_C_within z15.1 60 62 z15.2).bind fun z16 =>
  if z16.1 = 0 then
    (F_P_fail 1 z16.2).bind fun z17 =>
    if z17.1 &&& 1 = z17.1 then
    some (z17.1, z17.2)
    else none
  else
  let s18 : Mem := mw z16.2 76 4 ((z16.2 76 4) + 1)
  (F_P_readSum s18).bind fun z19 =>
  if z19.1 = 0 then
    some (0, z19.2)
  else
  if z15.1 = 60 then
    (F_L_put 6 0 z19.2).bind fun z20 =>
    some (1, z20.2)
  else
  if z15.1 = 61 then
    (F_L_put 7 0 z19.2).bind fun z21 =>
    some (1, z21.2)
  else
  (F_L_put 8 0 z19.2).bind fun z22 =>
  some (1, z22.2)
noncomputable def A_P_readComparison (rc : Nat → Int32 → Mem → Option (Int32 × Mem)) (av : List Value) (s : Mem) : Option (Int32 × Mem) := match av with
  | [.ref a0, .int a1] => cbr (Nat.beq a0 76) (F_P_readComparison rc a1 s) none
  | _ => none
noncomputable def C_P_readComparison (rc : Nat → Int32 → Mem → Option (Int32 × Mem)) (k : Nat) (av : List Value) (s : Mem) : Option (Int32 × Mem) := cbr (Nat.beq k 55) (A_P_kind av s) (cbr (Nat.beq k 66) ((match av with | [.ref q, .int o] => cbr (Nat.beq q 76) (rc 1 o s) none | _ => none)) (cbr (Nat.beq k 64) (A_P_take av s) (cbr (Nat.beq k 65) ((match av with | [.ref q, .int o] => cbr (Nat.beq q 76) (rc 0 o s) none | _ => none)) (cbr (Nat.beq k 59) (A_L_put av s) (cbr (Nat.beq k 56) (A_P_fail av s) (cbr (Nat.beq k 62) (A_P_readSum av s) (cbr (Nat.beq k 2) (A_C_within av s) (none))))))))
set_option maxRecDepth 100000 in
theorem e_P_readComparison (rc : Nat → Int32 → Mem → Option (Int32 × Mem)) (x1 : Int32) (s : Mem) : F_P_readComparison rc x1 s = xs (C_P_readComparison rc) (fun k ls s => none) 0 (fun _ => 0) K_P_readComparison 700 K_P_readComparison [some (.ref 76), some (.int x1), none, none] [] s := rfl
def K_P_readCondition : MC := [(0, .lconst 0, 0), (1, .istore 2, 0), (2, .lconst 0, 0), (3, .istore 3, 0), (4, .ret 0, 0), (4, .aload 0, 0), (5, .getfield 504, 0), (8, .aload 0, 0), (9, .getfield 503, 0), (12, .if_icmp .ge 55, 0), (15, .aload 0, 0), (16, .iload 1, 0), (17, .invokeinterface 65 98, 0), (20, .ifCond .ne 16, 0), (23, .lconst 0, 0), (24, .lreturn, 0), (25, .iload 2, 0), (26, .ifCond .eq 23, 0), (29, .aload 0, 0), (30, .getstatic 508, 0), (33, .iconst 0, 10), (35, .lconst 0, 0), (36, .multianewarray 59 51, 0), (39, .aload 0, 0), (40, .invokeinterface 55 97, 0), (43, .iconst 0, 5), (44, .if_icmp .ne 29, 0), (47, .lconst 1, 0), (48, .goto 30, 0), (51, .lconst 0, 0), (52, .istore 2, 0), (53, .iload 2, 0), (54, .ifCond .ne 48, 0), (57, .iload 3, 0), (58, .ifCond .eq 40, 0), (61, .aload 0, 0), (62, .getstatic 508, 0), (65, .iconst 0, 11), (67, .lconst 0, 0), (68, .multianewarray 59 51, 0), (71, .aload 0, 0), (72, .invokeinterface 55 97, 0), (75, .iconst 0, 4), (76, .if_icmp .eq 46, 0), (79, .lconst 1, 0), (80, .lreturn, 0), (81, .lconst 1, 0), (82, .istore 3, 0), (83, .aload 0, 0), (84, .dup, 0), (85, .getfield 504, 0), (88, .lconst 1, 0), (89, .iadd, 0), (90, .putfield 504, 0), (93, .goto 4, 0), (96, .lconst 0, 0), (97, .lreturn, 0)]
noncomputable def F_P_readCondition_4 (rc : Nat → Int32 → Mem → Option (Int32 × Mem)) : Nat → Int32 → Int32 → Int32 → Mem → Option (Int32 × Mem)
  | 0, _, _, _, _ => none
  | n + 1, x1, x2, x3, s =>
    if (s 76 3) ≤ (s 76 4) then
      some (0, s)
    else
    (rc 0 x1 s).bind fun z1 =>
    if z1.1 = 0 then
      some (0, z1.2)
    else
    if x2 = 0 then
      (F_P_kind z1.2).bind fun z2 =>
      if z2.1 = 5 then
        let s3 : Mem := mw z2.2 76 4 ((z2.2 76 4) + 1)
        F_P_readCondition_4 rc n x1 1 x3 s3
      else
      if x3 = 0 then
        (F_P_kind z2.2).bind fun z4 =>
        if z4.1 = 4 then
          let s5 : Mem := mw z4.2 76 4 ((z4.2 76 4) + 1)
          F_P_readCondition_4 rc n x1 0 1 s5
        else
        some (1, z4.2)
      else
      (F_L_put 11 0 z2.2).bind fun z6 =>
      (F_P_kind z6.2).bind fun z7 =>
      if z7.1 = 4 then
        let s8 : Mem := mw z7.2 76 4 ((z7.2 76 4) + 1)
        F_P_readCondition_4 rc n x1 0 1 s8
      else
      some (1, z7.2)
    else
    (F_L_put 10 0 z1.2).bind fun z9 =>
    (F_P_kind z9.2).bind fun z10 =>
    if z10.1 = 5 then
      let s11 : Mem := mw z10.2 76 4 ((z10.2 76 4) + 1)
      F_P_readCondition_4 rc n x1 1 x3 s11
    else
    if x3 = 0 then
      (F_P_kind z10.2).bind fun z12 =>
      if z12.1 = 4 then
        let s13 : Mem := mw z12.2 76 4 ((z12.2 76 4) + 1)
        F_P_readCondition_4 rc n x1 0 1 s13
      else
      some (1, z12.2)
    else
    (F_L_put 11 0 z10.2).bind fun z14 =>
    (F_P_kind z14.2).bind fun z15 =>
    if z15.1 = 4 then
      let s16 : Mem := mw z15.2 76 4 ((z15.2 76 4) + 1)
      F_P_readCondition_4 rc n x1 0 1 s16
    else
    some (1, z15.2)
noncomputable def F_P_readCondition (rc : Nat → Int32 → Mem → Option (Int32 × Mem)) (x1 : Int32) (s : Mem) : Option (Int32 × Mem) :=
  F_P_readCondition_4 rc gF x1 0 0 s
def A_P_readCondition_4 (f : Int32 → Int32 → Int32 → Mem → Option (Int32 × Mem)) (ls : List (Option Value)) (s : Mem) : Option (Int32 × Mem) := match lk ls 0, lk ls 1, lk ls 2, lk ls 3 with
  | some (.ref a0), some (.int a1), some (.int a2), some (.int a3) => cbr (Nat.beq a0 76) (f a1 a2 a3 s) none
  | _, _, _, _ => none
noncomputable def A_P_readCondition (rc : Nat → Int32 → Mem → Option (Int32 × Mem)) (av : List Value) (s : Mem) : Option (Int32 × Mem) := match av with
  | [.ref a0, .int a1] => cbr (Nat.beq a0 76) (F_P_readCondition rc a1 s) none
  | _ => none
noncomputable def C_P_readCondition (rc : Nat → Int32 → Mem → Option (Int32 × Mem)) (k : Nat) (av : List Value) (s : Mem) : Option (Int32 × Mem) := cbr (Nat.beq k 65) ((match av with | [.ref q, .int o] => cbr (Nat.beq q 76) (rc 0 o s) none | _ => none)) (cbr (Nat.beq k 55) (A_P_kind av s) (cbr (Nat.beq k 59) (A_L_put av s) (none)))
set_option maxRecDepth 100000 in
theorem e_P_readCondition_4 (rc : Nat → Int32 → Mem → Option (Int32 × Mem))  (n : Nat) (x1 : Int32) (x2 : Int32) (x3 : Int32) (s : Mem) : F_P_readCondition_4 rc (n + 1) x1 x2 x3 s = xs (C_P_readCondition rc) (fun k ls s => cbr (Nat.beq k 0) (A_P_readCondition_4 (F_P_readCondition_4 rc n) ls s) (none)) 0 (fun _ => 0) K_P_readCondition 700 (K_P_readCondition.drop 5) [some (.ref 76), some (.int x1), some (.int x2), some (.int x3)] [] s := rfl
set_option maxRecDepth 100000 in
theorem e_P_readCondition (rc : Nat → Int32 → Mem → Option (Int32 × Mem)) (x1 : Int32) (s : Mem) : F_P_readCondition rc x1 s = xs (C_P_readCondition rc) (fun k ls s => cbr (Nat.beq k 0) (A_P_readCondition_4 (F_P_readCondition_4 rc gF) ls s) (none)) 0 (fun _ => 0) K_P_readCondition 700 K_P_readCondition [some (.ref 76), some (.int x1), none, none] [] s := rfl
noncomputable def rcF : Nat → Nat → Int32 → Mem → Option (Int32 × Mem)
  | 0, _, _, _ => none
  | n + 1, t, x1, s => if t = 0 then F_P_readComparison (rcF n) x1 s else F_P_readCondition (rcF n) x1 s
def K_L_endLine : MC := [(0, .aload 0, 0), (1, .invokeinterface 57 49, 0), (4, .ifCond .ne 16, 0), (7, .aload 0, 0), (8, .getstatic 205, 0), (11, .aload 0, 0), (12, .getfield 206, 0), (15, .aload 0, 0), (16, .getfield 201, 0), (19, .iastore, 0), (20, .aload 0, 0), (21, .dup, 0), (22, .getfield 206, 0), (25, .lconst 1, 0), (26, .iadd, 0), (27, .putfield 206, 0), (30, .return_, 0)]
noncomputable def F_L_endLine  (s : Mem) : Option (Int32 × Mem) :=
  (F_L_isFull s).bind fun z1 =>
  if z1.1 = 0 then
    (sd z1.2 85 (z1.2 80 6) (z1.2 80 1)).bind fun s2 =>
    let s3 : Mem := mw s2 80 6 ((s2 80 6) + 1)
    some (0, s3)
  else
  some (0, z1.2)
noncomputable def A_L_endLine (av : List Value) (s : Mem) : Option (Int32 × Mem) := match av with
  | [.ref a0] => cbr (Nat.beq a0 80) (F_L_endLine s) none
  | _ => none
noncomputable def C_L_endLine (k : Nat) (av : List Value) (s : Mem) : Option (Int32 × Mem) := cbr (Nat.beq k 57) (A_L_isFull av s) (none)
set_option maxRecDepth 100000 in
theorem e_L_endLine  (s : Mem) : F_L_endLine s = xs C_L_endLine (fun k ls s => none) 0 (fun _ => 0) K_L_endLine 700 K_L_endLine [some (.ref 80)] [] s := rfl
def K_P_readLaw : MC := [(0, .aload 0, 0), (1, .getstatic 508, 0), (4, .multianewarray 54 49, 0), (7, .lconst 0, 0), (8, .istore 1, 0), (9, .ret 0, 0), (9, .iload 1, 0), (10, .iconst 0, 16), (12, .if_icmp .gt 78, 0), (15, .aload 0, 0), (16, .invokeinterface 55 97, 0), (19, .iconst 0, 66), (21, .if_icmp .eq 78, 0), (24, .aload 0, 0), (25, .invokeinterface 55 97, 0), (28, .istore 2, 0), (29, .iload 2, 0), (30, .lconst 0, 0), (31, .iconst 0, 2), (32, .invokeinterface 2 3, 0), (35, .ifCond .ne 25, 0), (38, .aload 0, 0), (39, .lconst 1, 0), (40, .invokeinterface 56 98, 0), (43, .lreturn, 0), (44, .aload 0, 0), (45, .getstatic 508, 0), (48, .invokeinterface 57 49, 0), (51, .ifCond .eq 33, 0), (54, .aload 0, 0), (55, .iconst 0, 3), (56, .invokeinterface 56 98, 0), (59, .lreturn, 0), (60, .aload 0, 0), (61, .dup, 0), (62, .getfield 504, 0), (65, .lconst 1, 0), (66, .iadd, 0), (67, .putfield 504, 0), (70, .aload 0, 0), (71, .getstatic 508, 0), (74, .iload 2, 0), (75, .multianewarray 58 50, 0), (78, .aload 0, 0), (79, .invokeinterface 62 97, 0), (82, .ifCond .ne 48, 0), (85, .lconst 0, 0), (86, .lreturn, 0), (87, .aload 0, 0), (88, .getstatic 508, 0), (91, .multianewarray 63 49, 0), (94, .aload 0, 0), (95, .invokeinterface 55 97, 0), (98, .iconst 0, 3), (99, .if_icmp .ne 67, 0), (102, .aload 0, 0), (103, .dup, 0), (104, .getfield 504, 0), (107, .lconst 1, 0), (108, .iadd, 0), (109, .putfield 504, 0), (112, .aload 0, 0), (113, .lconst 0, 0), (114, .invokeinterface 66 98, 0), (117, .ifCond .ne 67, 0), (120, .lconst 0, 0), (121, .lreturn, 0), (122, .aload 0, 0), (123, .iconst 0, 59), (125, .invokeinterface 64 98, 0), (128, .ifCond .ne 73, 0), (131, .lconst 0, 0), (132, .lreturn, 0), (133, .aload 0, 0), (134, .getstatic 508, 0), (137, .multianewarray 67 49, 0), (140, .iinc 1 0, 1), (143, .goto 5, 0), (146, .lconst 1, 0), (147, .lreturn, 0)]
noncomputable def F_P_readLaw_5 : Nat → Int32 → Mem → Option (Int32 × Mem)
  | 0, _, _ => none
  | n + 1, x1, s =>
    if 16 < x1 then
      some (1, s)
    else
    (F_P_kind s).bind fun z1 =>
    if z1.1 = 66 then
      some (1, z1.2)
    else
    (F_P_kind z1.2).bind fun z2 =>
    (F_C_within z2.1 0 2 z2.2).bind fun z3 =>
    if z3.1 = 0 then
      (F_P_fail 1 z3.2).bind fun z4 =>
      if z4.1 &&& 1 = z4.1 then
      some (z4.1, z4.2)
      else none
    else
    (F_L_isFull z3.2).bind fun z5 =>
    if z5.1 = 0 then
      let s6 : Mem := mw z5.2 76 4 ((z5.2 76 4) + 1)
      (F_L_beginLine z2.1 s6).bind fun z7 =>
      (F_P_readSum z7.2).bind fun z8 =>
      if z8.1 = 0 then
        some (0, z8.2)
      else
      (F_L_beginWhen z8.2).bind fun z9 =>
      (F_P_kind z9.2).bind fun z10 =>
      if z10.1 = 3 then
        let s11 : Mem := mw z10.2 76 4 ((z10.2 76 4) + 1)
        (rcF 24 1 0 s11).bind fun z12 =>
        if z12.1 = 0 then
          some (0, z12.2)
        else
        (F_P_take 59 z12.2).bind fun z13 =>
        if z13.1 = 0 then
          some (0, z13.2)
        else
        (F_L_endLine z13.2).bind fun z14 =>
        F_P_readLaw_5 n (x1 + 1) z14.2
      else
      (F_P_take 59 z10.2).bind fun z15 =>
      if z15.1 = 0 then
        some (0, z15.2)
      else
      (F_L_endLine z15.2).bind fun z16 =>
      F_P_readLaw_5 n (x1 + 1) z16.2
    else
    (F_P_fail 3 z5.2).bind fun z17 =>
    if z17.1 &&& 1 = z17.1 then
    some (z17.1, z17.2)
    else none
noncomputable def F_P_readLaw  (s : Mem) : Option (Int32 × Mem) :=
  (F_L_clear s).bind fun z1 =>
  F_P_readLaw_5 gF 0 z1.2
def A_P_readLaw_5 (f : Int32 → Mem → Option (Int32 × Mem)) (ls : List (Option Value)) (s : Mem) : Option (Int32 × Mem) := match lk ls 0, lk ls 1 with
  | some (.ref a0), some (.int a1) => cbr (Nat.beq a0 76) (f a1 s) none
  | _, _ => none
noncomputable def A_P_readLaw (av : List Value) (s : Mem) : Option (Int32 × Mem) := match av with
  | [.ref a0] => cbr (Nat.beq a0 76) (F_P_readLaw s) none
  | _ => none
noncomputable def C_P_readLaw (k : Nat) (av : List Value) (s : Mem) : Option (Int32 × Mem) := cbr (Nat.beq k 54) (A_L_clear av s) (cbr (Nat.beq k 55) (A_P_kind av s) (cbr (Nat.beq k 2) (A_C_within av s) (cbr (Nat.beq k 56) (A_P_fail av s) (cbr (Nat.beq k 57) (A_L_isFull av s) (cbr (Nat.beq k 58) (A_L_beginLine av s) (cbr (Nat.beq k 62) (A_P_readSum av s) (cbr (Nat.beq k 63) (A_L_beginWhen av s) (cbr (Nat.beq k 66) ((match av with | [.ref q, .int o] => cbr (Nat.beq q 76) (rcF 24 1 o s) none | _ => none)) (cbr (Nat.beq k 64) (A_P_take av s) (cbr (Nat.beq k 67) (A_L_endLine av s) (none)))))))))))
set_option maxRecDepth 100000 in
theorem e_P_readLaw_5  (n : Nat) (x1 : Int32) (s : Mem) : F_P_readLaw_5 (n + 1) x1 s = xs C_P_readLaw (fun k ls s => cbr (Nat.beq k 0) (A_P_readLaw_5 (F_P_readLaw_5 n) ls s) (none)) 0 (fun _ => 0) K_P_readLaw 700 (K_P_readLaw.drop 6) [some (.ref 76), some (.int x1), none] [] s := rfl
set_option maxRecDepth 100000 in
theorem e_P_readLaw  (s : Mem) : F_P_readLaw s = xs C_P_readLaw (fun k ls s => cbr (Nat.beq k 0) (A_P_readLaw_5 (F_P_readLaw_5 gF) ls s) (none)) 0 (fun _ => 0) K_P_readLaw 700 K_P_readLaw [some (.ref 76), none, none] [] s := rfl
def K_N_isFull : MC := [(0, .aload 0, 0), (1, .getfield 301, 0), (4, .lconst 0, 0), (5, .iconst 0, 15), (7, .invokeinterface 2 3, 0), (10, .ifCond .ne 8, 0), (13, .lconst 1, 0), (14, .goto 9, 0), (17, .lconst 0, 0), (18, .lreturn, 0)]
noncomputable def F_N_isFull  (s : Mem) : Option (Int32 × Mem) :=
  (F_C_within (s 88 1) 0 15 s).bind fun z1 =>
  if z1.1 = 0 then
    some (1, z1.2)
  else
  some (0, z1.2)
noncomputable def A_N_isFull (av : List Value) (s : Mem) : Option (Int32 × Mem) := match av with
  | [.ref a0] => cbr (Nat.beq a0 88) (F_N_isFull s) none
  | _ => none
noncomputable def C_N_isFull (k : Nat) (av : List Value) (s : Mem) : Option (Int32 × Mem) := cbr (Nat.beq k 2) (A_C_within av s) (none)
set_option maxRecDepth 100000 in
theorem e_N_isFull  (s : Mem) : F_N_isFull s = xs C_N_isFull (fun k ls s => none) 0 (fun _ => 0) K_N_isFull 700 K_N_isFull [some (.ref 88)] [] s := rfl
def K_N_draft : MC := [(0, .aload 0, 0), (1, .getfield 301, 0), (4, .iconst 0, 5), (5, .imul, 0), (6, .iload 1, 0), (7, .iadd, 0), (8, .istore 3, 0), (9, .iload 3, 0), (10, .lconst 0, 0), (11, .aload 0, 0), (12, .getstatic 300, 0), (15, .arraylength, 0), (16, .lconst 1, 0), (17, .isub, 0), (18, .invokeinterface 2 3, 0), (21, .ifCond .eq 21, 0), (24, .aload 0, 0), (25, .getstatic 300, 0), (28, .iload 3, 0), (29, .iload 2, 0), (30, .iastore, 0), (31, .return_, 0)]
noncomputable def F_N_draft (x1 : Int32) (x2 : Int32) (s : Mem) : Option (Int32 × Mem) :=
  (F_C_within (((s 88 1) * 5) + x1) 0 (80 - 1) s).bind fun z1 =>
  if z1.1 = 0 then
    some (0, z1.2)
  else
  (sd z1.2 89 (((s 88 1) * 5) + x1) x2).bind fun s2 =>
  some (0, s2)
noncomputable def A_N_draft (av : List Value) (s : Mem) : Option (Int32 × Mem) := match av with
  | [.ref a0, .int a1, .int a2] => cbr (Nat.beq a0 88) (F_N_draft a1 a2 s) none
  | _ => none
noncomputable def C_N_draft (k : Nat) (av : List Value) (s : Mem) : Option (Int32 × Mem) := cbr (Nat.beq k 2) (A_C_within av s) (none)
set_option maxRecDepth 100000 in
theorem e_N_draft (x1 : Int32) (x2 : Int32) (s : Mem) : F_N_draft x1 x2 s = xs C_N_draft (fun k ls s => none) 0 (fun _ => 0) K_N_draft 700 K_N_draft [some (.ref 88), some (.int x1), some (.int x2), none] [] s := rfl
def K_P_readBounded : MC := [(0, .aload 0, 0), (1, .iload 1, 0), (2, .invokeinterface 64 98, 0), (5, .ifCond .eq 9, 0), (8, .aload 0, 0), (9, .iload 3, 0), (10, .iload 4, 0), (12, .invokeinterface 60 99, 0), (15, .ifCond .ne 11, 0), (18, .lconst 0, 0), (19, .lreturn, 0), (20, .aload 0, 0), (21, .getstatic 509, 0), (24, .iload 2, 0), (25, .aload 0, 0), (26, .getfield 505, 0), (29, .multianewarray 70 67, 0), (32, .lconst 1, 0), (33, .lreturn, 0)]
noncomputable def F_P_readBounded (x1 : Int32) (x2 : Int32) (x3 : Int32) (x4 : Int32) (s : Mem) : Option (Int32 × Mem) :=
  (F_P_take x1 s).bind fun z1 =>
  if z1.1 = 0 then
    some (0, z1.2)
  else
  (F_P_takeNumber x3 x4 z1.2).bind fun z2 =>
  if z2.1 = 0 then
    some (0, z2.2)
  else
  (F_N_draft x2 (z2.2 76 5) z2.2).bind fun z3 =>
  some (1, z3.2)
noncomputable def A_P_readBounded (av : List Value) (s : Mem) : Option (Int32 × Mem) := match av with
  | [.ref a0, .int a1, .int a2, .int a3, .int a4] => cbr (Nat.beq a0 76) (F_P_readBounded a1 a2 a3 a4 s) none
  | _ => none
noncomputable def C_P_readBounded (k : Nat) (av : List Value) (s : Mem) : Option (Int32 × Mem) := cbr (Nat.beq k 64) (A_P_take av s) (cbr (Nat.beq k 60) (A_P_takeNumber av s) (cbr (Nat.beq k 70) (A_N_draft av s) (none)))
set_option maxRecDepth 100000 in
theorem e_P_readBounded (x1 : Int32) (x2 : Int32) (x3 : Int32) (x4 : Int32) (s : Mem) : F_P_readBounded x1 x2 x3 x4 s = xs C_P_readBounded (fun k ls s => none) 0 (fun _ => 0) K_P_readBounded 700 K_P_readBounded [some (.ref 76), some (.int x1), some (.int x2), some (.int x3), some (.int x4)] [] s := rfl
def K_P_readNight : MC := [(0, .aload 0, 0), (1, .iconst 0, 18), (3, .lconst 0, 0), (4, .lconst 0, 0), (5, .iconst 0, 999), (8, .invokeinterface 71 101, 0), (11, .lreturn, 0)]
noncomputable def F_P_readNight  (s : Mem) : Option (Int32 × Mem) :=
  (F_P_readBounded 18 0 0 999 s).bind fun z1 =>
  if z1.1 &&& 1 = z1.1 then
  some (z1.1, z1.2)
  else none
noncomputable def A_P_readNight (av : List Value) (s : Mem) : Option (Int32 × Mem) := match av with
  | [.ref a0] => cbr (Nat.beq a0 76) (F_P_readNight s) none
  | _ => none
noncomputable def C_P_readNight (k : Nat) (av : List Value) (s : Mem) : Option (Int32 × Mem) := cbr (Nat.beq k 71) (A_P_readBounded av s) (none)
set_option maxRecDepth 100000 in
theorem e_P_readNight  (s : Mem) : F_P_readNight s = xs C_P_readNight (fun k ls s => none) 0 (fun _ => 0) K_P_readNight 700 K_P_readNight [some (.ref 76)] [] s := rfl
def K_P_readFlight : MC := [(0, .aload 0, 0), (1, .iload 1, 0), (2, .invokeinterface 64 98, 0), (5, .ifCond .ne 6, 0), (8, .lconst 0, 0), (9, .lreturn, 0), (10, .aload 0, 0), (11, .invokeinterface 55 97, 0), (14, .iconst 0, 64), (16, .if_icmp .ne 30, 0), (19, .aload 0, 0), (20, .getfield 504, 0), (23, .ifCond .lt 30, 0), (26, .aload 0, 0), (27, .getfield 504, 0), (30, .aload 0, 0), (31, .getstatic 501, 0), (34, .arraylength, 0), (35, .if_icmp .ge 30, 0), (38, .aload 0, 0), (39, .getstatic 501, 0), (42, .aload 0, 0), (43, .getfield 504, 0), (46, .iaload, 0), (47, .iload 4, 0), (49, .if_icmp .ne 30, 0), (52, .aload 0, 0), (53, .iconst 0, 2), (54, .invokeinterface 56 98, 0), (57, .lreturn, 0), (58, .aload 0, 0), (59, .lconst 0, 0), (60, .aload 2, 0), (61, .getfield 102, 0), (64, .lconst 1, 0), (65, .isub, 0), (66, .invokeinterface 60 99, 0), (69, .ifCond .ne 40, 0), (72, .lconst 0, 0), (73, .lreturn, 0), (74, .aload 0, 0), (75, .getstatic 509, 0), (78, .iload 3, 0), (79, .aload 0, 0), (80, .getfield 505, 0), (83, .multianewarray 70 67, 0), (86, .lconst 1, 0), (87, .lreturn, 0)]
noncomputable def F_P_readFlight (x1 : Int32) (x3 : Int32) (x4 : Int32) (s : Mem) : Option (Int32 × Mem) :=
  (F_P_take x1 s).bind fun z1 =>
  if z1.1 = 0 then
    some (0, z1.2)
  else
  (F_P_kind z1.2).bind fun z2 =>
  if z2.1 = 64 then
    if (z2.2 76 4) < 0 then
      (F_P_takeNumber 0 ((z2.2 2 2) - 1) z2.2).bind fun z3 =>
      if z3.1 = 0 then
        some (0, z3.2)
      else
      (F_N_draft x3 (z3.2 76 5) z3.2).bind fun z4 =>
      some (1, z4.2)
    else
    if 401 ≤ (z2.2 76 4) then
      (F_P_takeNumber 0 ((z2.2 2 2) - 1) z2.2).bind fun z5 =>
      if z5.1 = 0 then
        some (0, z5.2)
      else
      (F_N_draft x3 (z5.2 76 5) z5.2).bind fun z6 =>
      some (1, z6.2)
    else
    (ld z2.2 78 (z2.2 76 4)).bind fun v7 =>
    if v7 = x4 then
      (F_P_fail 2 z2.2).bind fun z8 =>
      if z8.1 &&& 1 = z8.1 then
      some (z8.1, z8.2)
      else none
    else
    (F_P_takeNumber 0 ((z2.2 2 2) - 1) z2.2).bind fun z9 =>
    if z9.1 = 0 then
      some (0, z9.2)
    else
    (F_N_draft x3 (z9.2 76 5) z9.2).bind fun z10 =>
    some (1, z10.2)
  else
  (F_P_takeNumber 0 ((z2.2 2 2) - 1) z2.2).bind fun z11 =>
  if z11.1 = 0 then
    some (0, z11.2)
  else
  (F_N_draft x3 (z11.2 76 5) z11.2).bind fun z12 =>
  some (1, z12.2)
noncomputable def A_P_readFlight (av : List Value) (s : Mem) : Option (Int32 × Mem) := match av with
  | [.ref a0, .int a1, .ref a2, .int a3, .int a4] => cbr (Nat.beq a0 76) (cbr (Nat.beq a2 2) (F_P_readFlight a1 a3 a4 s) none) none
  | _ => none
noncomputable def C_P_readFlight (k : Nat) (av : List Value) (s : Mem) : Option (Int32 × Mem) := cbr (Nat.beq k 64) (A_P_take av s) (cbr (Nat.beq k 55) (A_P_kind av s) (cbr (Nat.beq k 60) (A_P_takeNumber av s) (cbr (Nat.beq k 70) (A_N_draft av s) (cbr (Nat.beq k 56) (A_P_fail av s) (none)))))
set_option maxRecDepth 100000 in
theorem e_P_readFlight (x1 : Int32) (x3 : Int32) (x4 : Int32) (s : Mem) : F_P_readFlight x1 x3 x4 s = xs C_P_readFlight (fun k ls s => none) 0 (fun _ => 0) K_P_readFlight 700 K_P_readFlight [some (.ref 76), some (.int x1), some (.ref 2), some (.int x3), some (.int x4)] [] s := rfl
def K_P_readStep : MC := [(0, .aload 0, 0), (1, .iconst 0, 20), (3, .iload 2, 0), (4, .lconst 0, 0), (5, .aload 1, 0), (6, .aload 0, 0), (7, .getfield 505, 0), (10, .invokeinterface 8 34, 0), (13, .lconst 1, 0), (14, .isub, 0), (15, .invokeinterface 71 101, 0), (18, .lreturn, 0)]
noncomputable def F_P_readStep (x2 : Int32) (s : Mem) : Option (Int32 × Mem) :=
  (F_H_size 2 (s 76 5) s).bind fun z1 =>
  (F_P_readBounded 20 x2 0 (z1.1 - 1) z1.2).bind fun z2 =>
  if z2.1 &&& 1 = z2.1 then
  some (z2.1, z2.2)
  else none
noncomputable def A_P_readStep (av : List Value) (s : Mem) : Option (Int32 × Mem) := match av with
  | [.ref a0, .ref a1, .int a2] => cbr (Nat.beq a0 76) (cbr (Nat.beq a1 2) (F_P_readStep a2 s) none) none
  | _ => none
noncomputable def C_P_readStep (k : Nat) (av : List Value) (s : Mem) : Option (Int32 × Mem) := cbr (Nat.beq k 8) (A_H_size av s) (cbr (Nat.beq k 71) (A_P_readBounded av s) (none))
set_option maxRecDepth 100000 in
theorem e_P_readStep (x2 : Int32) (s : Mem) : F_P_readStep x2 s = xs C_P_readStep (fun k ls s => none) 0 (fun _ => 0) K_P_readStep 700 K_P_readStep [some (.ref 76), some (.ref 2), some (.int x2)] [] s := rfl
def K_P_orderOf : MC := [(0, .iload 0, 0), (1, .lookupswitch 16 #[(11, 8), (12, 16), (13, 16), (14, 16), (15, 16), (16, 16), (17, 16), (18, 16), (19, 16), (20, 16), (21, 2), (22, 4), (23, 6), (24, 10), (25, 12), (26, 14)], 0), (80, .lconst 0, 0), (81, .ireturn, 0), (82, .lconst 1, 0), (83, .ireturn, 0), (84, .iconst 0, 2), (85, .ireturn, 0), (86, .iconst 0, 3), (87, .ireturn, 0), (88, .iconst 0, 4), (89, .ireturn, 0), (90, .iconst 0, 5), (91, .ireturn, 0), (92, .iconst 0, 6), (94, .ireturn, 0), (95, .iconst 0, (-1)), (96, .ireturn, 0)]
noncomputable def F_P_orderOf (x0 : Int32) (s : Mem) : Option (Int32 × Mem) :=
  if x0 = 11 then
    some (3, s)
  else
  if x0 = 12 then
    some ((-1), s)
  else
  if x0 = 13 then
    some ((-1), s)
  else
  if x0 = 14 then
    some ((-1), s)
  else
  if x0 = 15 then
    some ((-1), s)
  else
  if x0 = 16 then
    some ((-1), s)
  else
  if x0 = 17 then
    some ((-1), s)
  else
  if x0 = 18 then
    some ((-1), s)
  else
  if x0 = 19 then
    some ((-1), s)
  else
  if x0 = 20 then
    some ((-1), s)
  else
  if x0 = 21 then
    some (0, s)
  else
  if x0 = 22 then
    some (1, s)
  else
  if x0 = 23 then
    some (2, s)
  else
  if x0 = 24 then
    some (4, s)
  else
  if x0 = 25 then
    some (5, s)
  else
  if x0 = 26 then
    some (6, s)
  else
  some ((-1), s)
noncomputable def A_P_orderOf (av : List Value) (s : Mem) : Option (Int32 × Mem) := match av with
  | [.int a0] => F_P_orderOf a0 s
  | _ => none
noncomputable def C_P_orderOf (k : Nat) (av : List Value) (s : Mem) : Option (Int32 × Mem) := none
set_option maxRecDepth 100000 in
theorem e_P_orderOf (x0 : Int32) (s : Mem) : F_P_orderOf x0 s = xs C_P_orderOf (fun k ls s => none) 0 (fun _ => 0) K_P_orderOf 700 K_P_orderOf [some (.int x0)] [] s := rfl
def K_P_readOrder : MC := [(0, .aload 0, 0), (1, .invokeinterface 72 97, 0), (4, .ifCond .eq 15, 0), (7, .aload 0, 0), (8, .iconst 0, 19), (10, .aload 1, 0), (11, .lconst 1, 0), (12, .iconst 0, (-1)), (13, .invokeinterface 73 101, 0), (16, .ifCond .eq 15, 0), (19, .aload 0, 0), (20, .aload 1, 0), (21, .iconst 0, 2), (22, .invokeinterface 74 99, 0), (25, .ifCond .ne 17, 0), (28, .lconst 0, 0), (29, .lreturn, 0), (30, .aload 0, 0), (31, .invokeinterface 55 97, 0), (34, .invokeinterface 75 1, 0), (37, .istore 2, 0), (38, .iload 2, 0), (39, .iconst 0, (-1)), (40, .if_icmp .ne 28, 0), (43, .aload 0, 0), (44, .lconst 1, 0), (45, .invokeinterface 56 98, 0), (48, .lreturn, 0), (49, .aload 0, 0), (50, .dup, 0), (51, .getfield 504, 0), (54, .lconst 1, 0), (55, .iadd, 0), (56, .putfield 504, 0), (59, .aload 0, 0), (60, .getstatic 509, 0), (63, .iconst 0, 3), (64, .iload 2, 0), (65, .multianewarray 70 67, 0), (68, .lconst 1, 0), (69, .lreturn, 0)]
noncomputable def F_P_readOrder  (s : Mem) : Option (Int32 × Mem) :=
  (F_P_readNight s).bind fun z1 =>
  if z1.1 = 0 then
    some (0, z1.2)
  else
  (F_P_readFlight 19 1 (-1) z1.2).bind fun z2 =>
  if z2.1 = 0 then
    some (0, z2.2)
  else
  (F_P_readStep 2 z2.2).bind fun z3 =>
  if z3.1 = 0 then
    some (0, z3.2)
  else
  (F_P_kind z3.2).bind fun z4 =>
  (F_P_orderOf z4.1 z4.2).bind fun z5 =>
  if z5.1 = (-1) then
    (F_P_fail 1 z5.2).bind fun z6 =>
    if z6.1 &&& 1 = z6.1 then
    some (z6.1, z6.2)
    else none
  else
  let s7 : Mem := mw z5.2 76 4 ((z5.2 76 4) + 1)
  (F_N_draft 3 z5.1 s7).bind fun z8 =>
  some (1, z8.2)
noncomputable def A_P_readOrder (av : List Value) (s : Mem) : Option (Int32 × Mem) := match av with
  | [.ref a0, .ref a1] => cbr (Nat.beq a0 76) (cbr (Nat.beq a1 2) (F_P_readOrder s) none) none
  | _ => none
noncomputable def C_P_readOrder (k : Nat) (av : List Value) (s : Mem) : Option (Int32 × Mem) := cbr (Nat.beq k 72) (A_P_readNight av s) (cbr (Nat.beq k 73) (A_P_readFlight av s) (cbr (Nat.beq k 74) (A_P_readStep av s) (cbr (Nat.beq k 55) (A_P_kind av s) (cbr (Nat.beq k 75) (A_P_orderOf av s) (cbr (Nat.beq k 56) (A_P_fail av s) (cbr (Nat.beq k 70) (A_N_draft av s) (none)))))))
set_option maxRecDepth 100000 in
theorem e_P_readOrder  (s : Mem) : F_P_readOrder s = xs C_P_readOrder (fun k ls s => none) 0 (fun _ => 0) K_P_readOrder 700 K_P_readOrder [some (.ref 76), some (.ref 2), none] [] s := rfl
def K_P_readVisit : MC := [(0, .aload 0, 0), (1, .invokeinterface 72 97, 0), (4, .ifCond .eq 10, 0), (7, .aload 0, 0), (8, .iconst 0, 19), (10, .aload 1, 0), (11, .lconst 1, 0), (12, .iconst 0, (-1)), (13, .invokeinterface 73 101, 0), (16, .ifCond .ne 12, 0), (19, .lconst 0, 0), (20, .lreturn, 0), (21, .aload 0, 0), (22, .invokeinterface 55 97, 0), (25, .iconst 0, 27), (27, .if_icmp .eq 24, 0), (30, .aload 0, 0), (31, .invokeinterface 55 97, 0), (34, .iconst 0, 28), (36, .if_icmp .eq 24, 0), (39, .aload 0, 0), (40, .lconst 1, 0), (41, .invokeinterface 56 98, 0), (44, .lreturn, 0), (45, .aload 0, 0), (46, .getstatic 509, 0), (49, .iconst 0, 2), (50, .aload 0, 0), (51, .invokeinterface 55 97, 0), (54, .iconst 0, 27), (56, .if_icmp .ne 33, 0), (59, .lconst 1, 0), (60, .goto 34, 0), (63, .lconst 0, 0), (64, .multianewarray 70 67, 0), (67, .aload 0, 0), (68, .dup, 0), (69, .getfield 504, 0), (72, .lconst 1, 0), (73, .iadd, 0), (74, .putfield 504, 0), (77, .aload 0, 0), (78, .iconst 0, 7), (80, .iconst 0, 3), (81, .lconst 1, 0), (82, .iconst 0, 200), (85, .invokeinterface 71 101, 0), (88, .ifCond .eq 57, 0), (91, .aload 0, 0), (92, .iconst 0, 16), (94, .iconst 0, 4), (95, .lconst 1, 0), (96, .iconst 0, 5), (97, .invokeinterface 71 101, 0), (100, .ifCond .eq 57, 0), (103, .lconst 1, 0), (104, .goto 58, 0), (107, .lconst 0, 0), (108, .lreturn, 0)]
noncomputable def F_P_readVisit  (s : Mem) : Option (Int32 × Mem) :=
  (F_P_readNight s).bind fun z1 =>
  if z1.1 = 0 then
    some (0, z1.2)
  else
  (F_P_readFlight 19 1 (-1) z1.2).bind fun z2 =>
  if z2.1 = 0 then
    some (0, z2.2)
  else
  (F_P_kind z2.2).bind fun z3 =>
  if z3.1 = 27 then
    (F_P_kind z3.2).bind fun z4 =>
    if z4.1 = 27 then
      (F_N_draft 2 1 z4.2).bind fun z5 =>
      let s6 : Mem := mw z5.2 76 4 ((z5.2 76 4) + 1)
      (F_P_readBounded 7 3 1 200 s6).bind fun z7 =>
      if z7.1 = 0 then
        some (0, z7.2)
      else
      (F_P_readBounded 16 4 1 5 z7.2).bind fun z8 =>
      if z8.1 = 0 then
        some (0, z8.2)
      else
      some (1, z8.2)
    else
    (F_N_draft 2 0 z4.2).bind fun z9 =>
    let s10 : Mem := mw z9.2 76 4 ((z9.2 76 4) + 1)
    (F_P_readBounded 7 3 1 200 s10).bind fun z11 =>
    if z11.1 = 0 then
      some (0, z11.2)
    else
    (F_P_readBounded 16 4 1 5 z11.2).bind fun z12 =>
    if z12.1 = 0 then
      some (0, z12.2)
    else
    some (1, z12.2)
  else
  (F_P_kind z3.2).bind fun z13 =>
  if z13.1 = 28 then
    (F_P_kind z13.2).bind fun z14 =>
    if z14.1 = 27 then
      (F_N_draft 2 1 z14.2).bind fun z15 =>
      let s16 : Mem := mw z15.2 76 4 ((z15.2 76 4) + 1)
      (F_P_readBounded 7 3 1 200 s16).bind fun z17 =>
      if z17.1 = 0 then
        some (0, z17.2)
      else
      (F_P_readBounded 16 4 1 5 z17.2).bind fun z18 =>
      if z18.1 = 0 then
        some (0, z18.2)
      else
      some (1, z18.2)
    else
    (F_N_draft 2 0 z14.2).bind fun z19 =>
    let s20 : Mem := mw z19.2 76 4 ((z19.2 76 4) + 1)
    (F_P_readBounded 7 3 1 200 s20).bind fun z21 =>
    if z21.1 = 0 then
      some (0, z21.2)
    else
    (F_P_readBounded 16 4 1 5 z21.2).bind fun z22 =>
    if z22.1 = 0 then
      some (0, z22.2)
    else
    some (1, z22.2)
  else
  (F_P_fail 1 z13.2).bind fun z23 =>
  if z23.1 &&& 1 = z23.1 then
  some (z23.1, z23.2)
  else none
noncomputable def A_P_readVisit (av : List Value) (s : Mem) : Option (Int32 × Mem) := match av with
  | [.ref a0, .ref a1] => cbr (Nat.beq a0 76) (cbr (Nat.beq a1 2) (F_P_readVisit s) none) none
  | _ => none
noncomputable def C_P_readVisit (k : Nat) (av : List Value) (s : Mem) : Option (Int32 × Mem) := cbr (Nat.beq k 72) (A_P_readNight av s) (cbr (Nat.beq k 73) (A_P_readFlight av s) (cbr (Nat.beq k 55) (A_P_kind av s) (cbr (Nat.beq k 70) (A_N_draft av s) (cbr (Nat.beq k 71) (A_P_readBounded av s) (cbr (Nat.beq k 56) (A_P_fail av s) (none))))))
set_option maxRecDepth 100000 in
theorem e_P_readVisit  (s : Mem) : F_P_readVisit s = xs C_P_readVisit (fun k ls s => none) 0 (fun _ => 0) K_P_readVisit 700 K_P_readVisit [some (.ref 76), some (.ref 2)] [] s := rfl
def K_P_readDoor : MC := [(0, .aload 0, 0), (1, .iconst 0, 19), (3, .aload 1, 0), (4, .lconst 0, 0), (5, .iconst 0, (-1)), (6, .invokeinterface 73 101, 0), (9, .ifCond .eq 32, 0), (12, .aload 0, 0), (13, .aload 1, 0), (14, .lconst 1, 0), (15, .invokeinterface 74 99, 0), (18, .ifCond .eq 32, 0), (21, .aload 0, 0), (22, .iconst 0, 29), (24, .aload 1, 0), (25, .iconst 0, 2), (26, .aload 0, 0), (27, .getstatic 509, 0), (30, .aload 0, 0), (31, .getstatic 509, 0), (34, .getfield 301, 0), (37, .lconst 0, 0), (38, .invokeinterface 37 67, 0), (41, .invokeinterface 73 101, 0), (44, .ifCond .eq 32, 0), (47, .aload 0, 0), (48, .aload 1, 0), (49, .iconst 0, 3), (50, .invokeinterface 74 99, 0), (53, .ifCond .eq 32, 0), (56, .lconst 1, 0), (57, .goto 33, 0), (60, .lconst 0, 0), (61, .lreturn, 0)]
noncomputable def F_P_readDoor  (s : Mem) : Option (Int32 × Mem) :=
  (F_P_readFlight 19 0 (-1) s).bind fun z1 =>
  if z1.1 = 0 then
    some (0, z1.2)
  else
  (F_P_readStep 1 z1.2).bind fun z2 =>
  if z2.1 = 0 then
    some (0, z2.2)
  else
  (F_N_at 88 (z2.2 88 1) 0 z2.2).bind fun z3 =>
  (F_P_readFlight 29 2 z3.1 z3.2).bind fun z4 =>
  if z4.1 = 0 then
    some (0, z4.2)
  else
  (F_P_readStep 3 z4.2).bind fun z5 =>
  if z5.1 = 0 then
    some (0, z5.2)
  else
  some (1, z5.2)
noncomputable def A_P_readDoor (av : List Value) (s : Mem) : Option (Int32 × Mem) := match av with
  | [.ref a0, .ref a1] => cbr (Nat.beq a0 76) (cbr (Nat.beq a1 2) (F_P_readDoor s) none) none
  | _ => none
noncomputable def C_P_readDoor (k : Nat) (av : List Value) (s : Mem) : Option (Int32 × Mem) := cbr (Nat.beq k 73) (A_P_readFlight av s) (cbr (Nat.beq k 74) (A_P_readStep av s) (cbr (Nat.beq k 37) (A_N_at av s) (none)))
set_option maxRecDepth 100000 in
theorem e_P_readDoor  (s : Mem) : F_P_readDoor s = xs C_P_readDoor (fun k ls s => none) 0 (fun _ => 0) K_P_readDoor 700 K_P_readDoor [some (.ref 76), some (.ref 2)] [] s := rfl
def K_P_readLines : MC := [(0, .aload 0, 0), (1, .getstatic 509, 0), (4, .lconst 0, 0), (5, .putfield 301, 0), (8, .lconst 0, 0), (9, .istore 3, 0), (10, .ret 0, 0), (10, .iload 3, 0), (11, .iconst 0, 16), (13, .if_icmp .gt 66, 0), (16, .aload 0, 0), (17, .invokeinterface 55 97, 0), (20, .iconst 0, 66), (22, .if_icmp .eq 66, 0), (25, .aload 0, 0), (26, .invokeinterface 55 97, 0), (29, .iload 1, 0), (30, .iconst 0, 3), (31, .if_icmp .ne 21, 0), (34, .iconst 0, 19), (36, .goto 22, 0), (39, .iconst 0, 18), (41, .if_icmp .ne 31, 0), (44, .aload 0, 0), (45, .getstatic 509, 0), (48, .invokeinterface 69 65, 0), (51, .ifCond .eq 31, 0), (54, .aload 0, 0), (55, .iconst 0, 3), (56, .invokeinterface 56 98, 0), (59, .lreturn, 0), (60, .iload 1, 0), (61, .lconst 1, 0), (62, .if_icmp .ne 38, 0), (65, .aload 0, 0), (66, .aload 2, 0), (67, .invokeinterface 76 98, 0), (70, .goto 48, 0), (73, .iload 1, 0), (74, .iconst 0, 2), (75, .if_icmp .ne 45, 0), (78, .aload 0, 0), (79, .aload 2, 0), (80, .invokeinterface 77 98, 0), (83, .goto 48, 0), (86, .aload 0, 0), (87, .aload 2, 0), (88, .invokeinterface 78 98, 0), (91, .istore 4, 0), (93, .iload 4, 0), (95, .ifCond .eq 55, 0), (98, .aload 0, 0), (99, .iconst 0, 59), (101, .invokeinterface 64 98, 0), (104, .ifCond .ne 57, 0), (107, .lconst 0, 0), (108, .lreturn, 0), (109, .aload 0, 0), (110, .getstatic 509, 0), (113, .dup, 0), (114, .getfield 301, 0), (117, .lconst 1, 0), (118, .iadd, 0), (119, .putfield 301, 0), (122, .iinc 3 0, 1), (125, .goto 6, 0), (128, .lconst 1, 0), (129, .lreturn, 0)]
noncomputable def F_P_readLines_6 : Nat → Int32 → Int32 → Mem → Option (Int32 × Mem)
  | 0, _, _, _ => none
  | n + 1, x1, x3, s =>
    if 16 < x3 then
      some (1, s)
    else
    (F_P_kind s).bind fun z1 =>
    if z1.1 = 66 then
      some (1, z1.2)
    else
    (F_P_kind z1.2).bind fun z2 =>
    if x1 = 3 then
      if z2.1 = 19 then
        (F_N_isFull z2.2).bind fun z3 =>
        if z3.1 = 0 then
          if x1 = 1 then
            (F_P_readOrder z3.2).bind fun z4 =>
            if z4.1 = 0 then
              some (0, z4.2)
            else
            (F_P_take 59 z4.2).bind fun z5 =>
            if z5.1 = 0 then
              some (0, z5.2)
            else
            let s6 : Mem := mw z5.2 88 1 ((z5.2 88 1) + 1)
            F_P_readLines_6 n x1 (x3 + 1) s6
          else
          if x1 = 2 then
            (F_P_readVisit z3.2).bind fun z7 =>
            if z7.1 = 0 then
              some (0, z7.2)
            else
            (F_P_take 59 z7.2).bind fun z8 =>
            if z8.1 = 0 then
              some (0, z8.2)
            else
            let s9 : Mem := mw z8.2 88 1 ((z8.2 88 1) + 1)
            F_P_readLines_6 n x1 (x3 + 1) s9
          else
          (F_P_readDoor z3.2).bind fun z10 =>
          if z10.1 = 0 then
            some (0, z10.2)
          else
          (F_P_take 59 z10.2).bind fun z11 =>
          if z11.1 = 0 then
            some (0, z11.2)
          else
          let s12 : Mem := mw z11.2 88 1 ((z11.2 88 1) + 1)
          F_P_readLines_6 n x1 (x3 + 1) s12
        else
        (F_P_fail 3 z3.2).bind fun z13 =>
        if z13.1 &&& 1 = z13.1 then
        some (z13.1, z13.2)
        else none
      else
      if x1 = 1 then
        (F_P_readOrder z2.2).bind fun z14 =>
        if z14.1 = 0 then
          some (0, z14.2)
        else
        (F_P_take 59 z14.2).bind fun z15 =>
        if z15.1 = 0 then
          some (0, z15.2)
        else
        let s16 : Mem := mw z15.2 88 1 ((z15.2 88 1) + 1)
        F_P_readLines_6 n x1 (x3 + 1) s16
      else
      if x1 = 2 then
        (F_P_readVisit z2.2).bind fun z17 =>
        if z17.1 = 0 then
          some (0, z17.2)
        else
        (F_P_take 59 z17.2).bind fun z18 =>
        if z18.1 = 0 then
          some (0, z18.2)
        else
        let s19 : Mem := mw z18.2 88 1 ((z18.2 88 1) + 1)
        F_P_readLines_6 n x1 (x3 + 1) s19
      else
      (F_P_readDoor z2.2).bind fun z20 =>
      if z20.1 = 0 then
        some (0, z20.2)
      else
      (F_P_take 59 z20.2).bind fun z21 =>
      if z21.1 = 0 then
        some (0, z21.2)
      else
      let s22 : Mem := mw z21.2 88 1 ((z21.2 88 1) + 1)
      F_P_readLines_6 n x1 (x3 + 1) s22
    else
    if z2.1 = 18 then
      (F_N_isFull z2.2).bind fun z23 =>
      if z23.1 = 0 then
        if x1 = 1 then
          (F_P_readOrder z23.2).bind fun z24 =>
          if z24.1 = 0 then
            some (0, z24.2)
          else
          (F_P_take 59 z24.2).bind fun z25 =>
          if z25.1 = 0 then
            some (0, z25.2)
          else
          let s26 : Mem := mw z25.2 88 1 ((z25.2 88 1) + 1)
          F_P_readLines_6 n x1 (x3 + 1) s26
        else
        if x1 = 2 then
          (F_P_readVisit z23.2).bind fun z27 =>
          if z27.1 = 0 then
            some (0, z27.2)
          else
          (F_P_take 59 z27.2).bind fun z28 =>
          if z28.1 = 0 then
            some (0, z28.2)
          else
          let s29 : Mem := mw z28.2 88 1 ((z28.2 88 1) + 1)
          F_P_readLines_6 n x1 (x3 + 1) s29
        else
        (F_P_readDoor z23.2).bind fun z30 =>
        if z30.1 = 0 then
          some (0, z30.2)
        else
        (F_P_take 59 z30.2).bind fun z31 =>
        if z31.1 = 0 then
          some (0, z31.2)
        else
        let s32 : Mem := mw z31.2 88 1 ((z31.2 88 1) + 1)
        F_P_readLines_6 n x1 (x3 + 1) s32
      else
      (F_P_fail 3 z23.2).bind fun z33 =>
      if z33.1 &&& 1 = z33.1 then
      some (z33.1, z33.2)
      else none
    else
    if x1 = 1 then
      (F_P_readOrder z2.2).bind fun z34 =>
      if z34.1 = 0 then
        some (0, z34.2)
      else
      (F_P_take 59 z34.2).bind fun z35 =>
      if z35.1 = 0 then
        some (0, z35.2)
      else
      let s36 : Mem := mw z35.2 88 1 ((z35.2 88 1) + 1)
      F_P_readLines_6 n x1 (x3 + 1) s36
    else
    if x1 = 2 then
      (F_P_readVisit z2.2).bind fun z37 =>
      if z37.1 = 0 then
        some (0, z37.2)
      else
      (F_P_take 59 z37.2).bind fun z38 =>
      if z38.1 = 0 then
        some (0, z38.2)
      else
      let s39 : Mem := mw z38.2 88 1 ((z38.2 88 1) + 1)
      F_P_readLines_6 n x1 (x3 + 1) s39
    else
    (F_P_readDoor z2.2).bind fun z40 =>
    if z40.1 = 0 then
      some (0, z40.2)
    else
    (F_P_take 59 z40.2).bind fun z41 =>
    if z41.1 = 0 then
      some (0, z41.2)
    else
    let s42 : Mem := mw z41.2 88 1 ((z41.2 88 1) + 1)
    F_P_readLines_6 n x1 (x3 + 1) s42
noncomputable def F_P_readLines (x1 : Int32) (s : Mem) : Option (Int32 × Mem) :=
  let s1 : Mem := mw s 88 1 0
  F_P_readLines_6 gF x1 0 s1
def A_P_readLines_6 (f : Int32 → Int32 → Mem → Option (Int32 × Mem)) (ls : List (Option Value)) (s : Mem) : Option (Int32 × Mem) := match lk ls 0, lk ls 1, lk ls 2, lk ls 3 with
  | some (.ref a0), some (.int a1), some (.ref a2), some (.int a3) => cbr (Nat.beq a0 76) (cbr (Nat.beq a2 2) (f a1 a3 s) none) none
  | _, _, _, _ => none
noncomputable def A_P_readLines (av : List Value) (s : Mem) : Option (Int32 × Mem) := match av with
  | [.ref a0, .int a1, .ref a2] => cbr (Nat.beq a0 76) (cbr (Nat.beq a2 2) (F_P_readLines a1 s) none) none
  | _ => none
noncomputable def C_P_readLines (k : Nat) (av : List Value) (s : Mem) : Option (Int32 × Mem) := cbr (Nat.beq k 55) (A_P_kind av s) (cbr (Nat.beq k 69) (A_N_isFull av s) (cbr (Nat.beq k 76) (A_P_readOrder av s) (cbr (Nat.beq k 64) (A_P_take av s) (cbr (Nat.beq k 77) (A_P_readVisit av s) (cbr (Nat.beq k 78) (A_P_readDoor av s) (cbr (Nat.beq k 56) (A_P_fail av s) (none)))))))
set_option maxRecDepth 100000 in
theorem e_P_readLines_6  (n : Nat) (x1 : Int32) (x3 : Int32) (s : Mem) : F_P_readLines_6 (n + 1) x1 x3 s = xs C_P_readLines (fun k ls s => cbr (Nat.beq k 0) (A_P_readLines_6 (F_P_readLines_6 n) ls s) (none)) 0 (fun _ => 0) K_P_readLines 700 (K_P_readLines.drop 7) [some (.ref 76), some (.int x1), some (.ref 2), some (.int x3), none] [] s := rfl
set_option maxRecDepth 100000 in
theorem e_P_readLines (x1 : Int32) (s : Mem) : F_P_readLines x1 s = xs C_P_readLines (fun k ls s => cbr (Nat.beq k 0) (A_P_readLines_6 (F_P_readLines_6 gF) ls s) (none)) 0 (fun _ => 0) K_P_readLines 700 K_P_readLines [some (.ref 76), some (.int x1), some (.ref 2), none, none] [] s := rfl
def K_L_copyFrom : MC := [(0, .aload 1, 0), (1, .dload 200, 0), (4, .lconst 0, 0), (5, .aload 0, 0), (6, .dload 200, 0), (9, .lconst 0, 0), (10, .aload 0, 0), (11, .dload 200, 0), (14, .lneg, 0), (15, .invokedynamic 0, 0), (18, .aload 1, 0), (19, .dload 202, 0), (22, .lconst 0, 0), (23, .aload 0, 0), (24, .dload 202, 0), (27, .lconst 0, 0), (28, .aload 0, 0), (29, .dload 202, 0), (32, .lneg, 0), (33, .invokedynamic 0, 0), (36, .aload 1, 0), (37, .dload 203, 0), (40, .lconst 0, 0), (41, .aload 0, 0), (42, .dload 203, 0), (45, .lconst 0, 0), (46, .aload 0, 0), (47, .dload 203, 0), (50, .lneg, 0), (51, .invokedynamic 0, 0), (54, .aload 1, 0), (55, .dload 204, 0), (58, .lconst 0, 0), (59, .aload 0, 0), (60, .dload 204, 0), (63, .lconst 0, 0), (64, .aload 0, 0), (65, .dload 204, 0), (68, .lneg, 0), (69, .invokedynamic 0, 0), (72, .aload 1, 0), (73, .dload 205, 0), (76, .lconst 0, 0), (77, .aload 0, 0), (78, .dload 205, 0), (81, .lconst 0, 0), (82, .aload 0, 0), (83, .dload 205, 0), (86, .lneg, 0), (87, .invokedynamic 0, 0), (90, .aload 0, 0), (91, .aload 1, 0), (92, .fload 201, 0), (95, .fstore 201, 0), (98, .aload 0, 0), (99, .aload 1, 0), (100, .fload 206, 0), (103, .fstore 206, 0), (106, .return_, 0)]
noncomputable def F_L_copyFrom (h0 : Nat) (h1 : Nat) (s : Mem) : Option (Int32 × Mem) :=
  bif Nat.beq (kd h1) 5 then
  bif Nat.beq (kd h0) 5 then
  bif Nat.beq (kd h0) 5 then
  bif Nat.beq (kd (rf h0 0)) 1 || Nat.beq (kd (rf h0 0)) 2 then
  (cpy s (rf h1 0) 0 (rf h0 0) 0 (nI (ln (rf h0 0)))).bind fun s1 =>
  bif Nat.beq (kd h1) 5 then
  bif Nat.beq (kd h0) 5 then
  bif Nat.beq (kd h0) 5 then
  bif Nat.beq (kd (rf h0 2)) 1 || Nat.beq (kd (rf h0 2)) 2 then
  (cpy s1 (rf h1 2) 0 (rf h0 2) 0 (nI (ln (rf h0 2)))).bind fun s2 =>
  bif Nat.beq (kd h1) 5 then
  bif Nat.beq (kd h0) 5 then
  bif Nat.beq (kd h0) 5 then
  bif Nat.beq (kd (rf h0 3)) 1 || Nat.beq (kd (rf h0 3)) 2 then
  (cpy s2 (rf h1 3) 0 (rf h0 3) 0 (nI (ln (rf h0 3)))).bind fun s3 =>
  bif Nat.beq (kd h1) 5 then
  bif Nat.beq (kd h0) 5 then
  bif Nat.beq (kd h0) 5 then
  bif Nat.beq (kd (rf h0 4)) 1 || Nat.beq (kd (rf h0 4)) 2 then
  (cpy s3 (rf h1 4) 0 (rf h0 4) 0 (nI (ln (rf h0 4)))).bind fun s4 =>
  bif Nat.beq (kd h1) 5 then
  bif Nat.beq (kd h0) 5 then
  bif Nat.beq (kd h0) 5 then
  bif Nat.beq (kd (rf h0 5)) 1 || Nat.beq (kd (rf h0 5)) 2 then
  (cpy s4 (rf h1 5) 0 (rf h0 5) 0 (nI (ln (rf h0 5)))).bind fun s5 =>
  bif Nat.beq (kd h1) 5 then
  bif Nat.beq (kd h0) 5 then
  let s6 : Mem := mw s5 h0 1 (s5 h1 1)
  bif Nat.beq (kd h1) 5 then
  bif Nat.beq (kd h0) 5 then
  let s7 : Mem := mw s6 h0 6 (s6 h1 6)
  some (0, s7)
  else none
  else none
  else none
  else none
  else none
  else none
  else none
  else none
  else none
  else none
  else none
  else none
  else none
  else none
  else none
  else none
  else none
  else none
  else none
  else none
  else none
  else none
  else none
  else none
noncomputable def A_L_copyFrom (av : List Value) (s : Mem) : Option (Int32 × Mem) := match av with
  | [.ref a0, .ref a1] => F_L_copyFrom a0 a1 s
  | _ => none
noncomputable def C_L_copyFrom (k : Nat) (av : List Value) (s : Mem) : Option (Int32 × Mem) := none
set_option maxRecDepth 100000 in
theorem e_L_copyFrom (h0 : Nat) (h1 : Nat) (s : Mem) : F_L_copyFrom h0 h1 s = xs C_L_copyFrom (fun k ls s => none) 0 (fun _ => 0) K_L_copyFrom 700 K_L_copyFrom [some (.ref h0), some (.ref h1)] [] s := rfl
def K_N_copyFrom : MC := [(0, .aload 1, 0), (1, .dload 300, 0), (4, .lconst 0, 0), (5, .aload 0, 0), (6, .dload 300, 0), (9, .lconst 0, 0), (10, .aload 0, 0), (11, .dload 300, 0), (14, .lneg, 0), (15, .invokedynamic 0, 0), (18, .aload 0, 0), (19, .aload 1, 0), (20, .fload 301, 0), (23, .fstore 301, 0), (26, .return_, 0)]
noncomputable def F_N_copyFrom (h0 : Nat) (h1 : Nat) (s : Mem) : Option (Int32 × Mem) :=
  bif Nat.beq (kd h1) 6 then
  bif Nat.beq (kd h0) 6 then
  bif Nat.beq (kd h0) 6 then
  bif Nat.beq (kd (rf h0 0)) 1 || Nat.beq (kd (rf h0 0)) 2 then
  (cpy s (rf h1 0) 0 (rf h0 0) 0 (nI (ln (rf h0 0)))).bind fun s1 =>
  bif Nat.beq (kd h1) 6 then
  bif Nat.beq (kd h0) 6 then
  let s2 : Mem := mw s1 h0 1 (s1 h1 1)
  some (0, s2)
  else none
  else none
  else none
  else none
  else none
  else none
noncomputable def A_N_copyFrom (av : List Value) (s : Mem) : Option (Int32 × Mem) := match av with
  | [.ref a0, .ref a1] => F_N_copyFrom a0 a1 s
  | _ => none
noncomputable def C_N_copyFrom (k : Nat) (av : List Value) (s : Mem) : Option (Int32 × Mem) := none
set_option maxRecDepth 100000 in
theorem e_N_copyFrom (h0 : Nat) (h1 : Nat) (s : Mem) : F_N_copyFrom h0 h1 s = xs C_N_copyFrom (fun k ls s => none) 0 (fun _ => 0) K_N_copyFrom 700 K_N_copyFrom [some (.ref h0), some (.ref h1)] [] s := rfl
def K_C_takeText : MC := [(0, .iload 1, 0), (1, .ifCond .ne 14, 0), (4, .aload 0, 0), (5, .getstatic 1000, 0), (8, .getstatic 602, 0), (11, .aload 0, 0), (12, .getstatic 1009, 0), (15, .getstatic 508, 0), (18, .multianewarray 80 50, 0), (21, .aload 0, 0), (22, .getstatic 1000, 0), (25, .getstatic 602, 0), (28, .getfield 206, 0), (31, .ireturn, 0), (32, .iload 1, 0), (33, .iconst 0, 3), (34, .if_icmp .eq 19, 0), (37, .aload 0, 0), (38, .multianewarray 0 177, 0), (41, .iload 1, 0), (42, .lconst 1, 0), (43, .if_icmp .ne 26, 0), (46, .aload 0, 0), (47, .getstatic 1000, 0), (50, .getstatic 603, 0), (53, .goto 36, 0), (56, .iload 1, 0), (57, .iconst 0, 2), (58, .if_icmp .ne 33, 0), (61, .aload 0, 0), (62, .getstatic 1000, 0), (65, .getstatic 604, 0), (68, .goto 36, 0), (71, .aload 0, 0), (72, .getstatic 1000, 0), (75, .getstatic 605, 0), (78, .astore 2, 0), (79, .aload 2, 0), (80, .aload 0, 0), (81, .getstatic 1009, 0), (84, .getstatic 509, 0), (87, .multianewarray 81 66, 0), (90, .aload 2, 0), (91, .getfield 301, 0), (94, .ireturn, 0)]
noncomputable def F_C_takeText (x1 : Int32) (s : Mem) : Option (Int32 × Mem) :=
  if x1 = 0 then
    (F_L_copyFrom 7 80 s).bind fun z1 =>
    some ((z1.2 7 6), z1.2)
  else
  if x1 = 3 then
    if x1 = 1 then
      (F_N_copyFrom 15 88 s).bind fun z2 =>
      some ((z2.2 15 1), z2.2)
    else
    if x1 = 2 then
      (F_N_copyFrom 17 88 s).bind fun z3 =>
      some ((z3.2 17 1), z3.2)
    else
    (F_N_copyFrom 19 88 s).bind fun z4 =>
    some ((z4.2 19 1), z4.2)
  else
  (F_C_forgetDeeds s).bind fun z5 =>
  if x1 = 1 then
    (F_N_copyFrom 15 88 z5.2).bind fun z6 =>
    some ((z6.2 15 1), z6.2)
  else
  if x1 = 2 then
    (F_N_copyFrom 17 88 z5.2).bind fun z7 =>
    some ((z7.2 17 1), z7.2)
  else
  (F_N_copyFrom 19 88 z5.2).bind fun z8 =>
  some ((z8.2 19 1), z8.2)
noncomputable def A_C_takeText (av : List Value) (s : Mem) : Option (Int32 × Mem) := match av with
  | [.ref a0, .int a1] => cbr (Nat.beq a0 0) (F_C_takeText a1 s) none
  | _ => none
noncomputable def C_C_takeText (k : Nat) (av : List Value) (s : Mem) : Option (Int32 × Mem) := cbr (Nat.beq k 80) (A_L_copyFrom av s) (cbr (Nat.beq k 81) (A_N_copyFrom av s) (cbr (Nat.beq k 0) (A_C_forgetDeeds av s) (none)))
set_option maxRecDepth 100000 in
theorem e_C_takeText (x1 : Int32) (s : Mem) : F_C_takeText x1 s = xs C_C_takeText (fun k ls s => none) 0 (fun _ => 0) K_C_takeText 700 K_C_takeText [some (.ref 0), some (.int x1), none] [] s := rfl
def K_C_text : MC := [(0, .aload 0, 0), (1, .getfield 1008, 0), (4, .istore 2, 0), (5, .aload 0, 0), (6, .lconst 0, 0), (7, .putfield 1008, 0), (10, .aload 0, 0), (11, .lconst 0, 0), (12, .putfield 1010, 0), (15, .aload 0, 0), (16, .iconst 0, (-1)), (17, .putfield 1011, 0), (20, .iload 1, 0), (21, .lconst 0, 0), (22, .iconst 0, 3), (23, .invokeinterface 2 3, 0), (26, .ifCond .ne 19, 0), (29, .iconst 0, (-1)), (30, .ireturn, 0), (31, .aload 0, 0), (32, .getstatic 1009, 0), (35, .aload 0, 0), (36, .getstatic 1007, 0), (39, .iload 2, 0), (40, .multianewarray 53 99, 0), (43, .iload 1, 0), (44, .ifCond .ne 31, 0), (47, .aload 0, 0), (48, .getstatic 1009, 0), (51, .invokeinterface 68 97, 0), (54, .goto 38, 0), (57, .aload 0, 0), (58, .getstatic 1009, 0), (61, .iload 1, 0), (62, .aload 0, 0), (63, .getstatic 1000, 0), (66, .getstatic 600, 0), (69, .invokeinterface 79 99, 0), (72, .istore 3, 0), (73, .iload 3, 0), (74, .ifCond .ne 53, 0), (77, .aload 0, 0), (78, .aload 0, 0), (79, .getstatic 1009, 0), (82, .getfield 506, 0), (85, .putfield 1010, 0), (88, .aload 0, 0), (89, .aload 0, 0), (90, .getstatic 1009, 0), (93, .getfield 507, 0), (96, .putfield 1011, 0), (99, .iconst 0, (-1)), (100, .ireturn, 0), (101, .aload 0, 0), (102, .iload 1, 0), (103, .invokeinterface 82 178, 0), (106, .ireturn, 0)]
noncomputable def F_C_text (x1 : Int32) (s : Mem) : Option (Int32 × Mem) :=
  let s1 : Mem := mw s 0 8 0
  let s2 : Mem := mw s1 0 10 0
  let s3 : Mem := mw s2 0 11 (-1)
  (F_C_within x1 0 3 s3).bind fun z4 =>
  if z4.1 = 0 then
    some ((-1), z4.2)
  else
  (F_P_split (s 0 8) z4.2).bind fun z5 =>
  if x1 = 0 then
    (F_P_readLaw z5.2).bind fun z6 =>
    if z6.1 = 0 then
      let s7 : Mem := mw z6.2 0 10 (z6.2 76 6)
      let s8 : Mem := mw s7 0 11 (s7 76 7)
      some ((-1), s8)
    else
    (F_C_takeText x1 z6.2).bind fun z9 =>
    some (z9.1, z9.2)
  else
  (F_P_readLines x1 z5.2).bind fun z10 =>
  if z10.1 = 0 then
    let s11 : Mem := mw z10.2 0 10 (z10.2 76 6)
    let s12 : Mem := mw s11 0 11 (s11 76 7)
    some ((-1), s12)
  else
  (F_C_takeText x1 z10.2).bind fun z13 =>
  some (z13.1, z13.2)
noncomputable def A_C_text (av : List Value) (s : Mem) : Option (Int32 × Mem) := match av with
  | [.ref a0, .int a1] => cbr (Nat.beq a0 0) (F_C_text a1 s) none
  | _ => none
noncomputable def C_C_text (k : Nat) (av : List Value) (s : Mem) : Option (Int32 × Mem) := cbr (Nat.beq k 2) (A_C_within av s) (cbr (Nat.beq k 53) (A_P_split av s) (cbr (Nat.beq k 68) (A_P_readLaw av s) (cbr (Nat.beq k 82) (A_C_takeText av s) (cbr (Nat.beq k 79) (A_P_readLines av s) (none)))))
set_option maxRecDepth 100000 in
theorem e_C_text (x1 : Int32) (s : Mem) : F_C_text x1 s = xs C_C_text (fun k ls s => none) 0 (fun _ => 0) K_C_text 700 K_C_text [some (.ref 0), some (.int x1), none, none] [] s := rfl
def K_C_fault : MC := [(0, .iload 1, 0), (1, .ifCond .ne 5, 0), (4, .aload 0, 0), (5, .getfield 1010, 0), (8, .goto 12, 0), (11, .iload 1, 0), (12, .lconst 1, 0), (13, .if_icmp .ne 11, 0), (16, .aload 0, 0), (17, .getfield 1011, 0), (20, .goto 12, 0), (23, .iconst 0, (-1)), (24, .ireturn, 0)]
noncomputable def F_C_fault (x1 : Int32) (s : Mem) : Option (Int32 × Mem) :=
  if x1 = 0 then
    some ((s 0 10), s)
  else
  if x1 = 1 then
    some ((s 0 11), s)
  else
  some ((-1), s)
noncomputable def A_C_fault (av : List Value) (s : Mem) : Option (Int32 × Mem) := match av with
  | [.ref a0, .int a1] => cbr (Nat.beq a0 0) (F_C_fault a1 s) none
  | _ => none
noncomputable def C_C_fault (k : Nat) (av : List Value) (s : Mem) : Option (Int32 × Mem) := none
set_option maxRecDepth 100000 in
theorem e_C_fault (x1 : Int32) (s : Mem) : F_C_fault x1 s = xs C_C_fault (fun k ls s => none) 0 (fun _ => 0) K_C_fault 700 K_C_fault [some (.ref 0), some (.int x1)] [] s := rfl
def K_G_doorsOf : MC := [(0, .lconst 0, 0), (1, .istore 3, 0), (2, .lconst 0, 0), (3, .istore 4, 0), (5, .ret 0, 0), (5, .iload 4, 0), (7, .aload 0, 0), (8, .getstatic 605, 0), (11, .getfield 301, 0), (14, .if_icmp .ge 58, 0), (17, .aload 0, 0), (18, .getstatic 605, 0), (21, .iload 4, 0), (23, .lconst 0, 0), (24, .invokeinterface 37 67, 0), (27, .iload 1, 0), (28, .if_icmp .ne 26, 0), (31, .aload 0, 0), (32, .getstatic 605, 0), (35, .iload 4, 0), (37, .lconst 1, 0), (38, .invokeinterface 37 67, 0), (41, .iload 2, 0), (42, .if_icmp .ne 26, 0), (45, .lconst 1, 0), (46, .goto 27, 0), (49, .lconst 0, 0), (50, .istore 5, 0), (52, .aload 0, 0), (53, .getstatic 605, 0), (56, .iload 4, 0), (58, .iconst 0, 2), (59, .invokeinterface 37 67, 0), (62, .iload 1, 0), (63, .if_icmp .ne 44, 0), (66, .aload 0, 0), (67, .getstatic 605, 0), (70, .iload 4, 0), (72, .iconst 0, 3), (73, .invokeinterface 37 67, 0), (76, .iload 2, 0), (77, .if_icmp .ne 44, 0), (80, .lconst 1, 0), (81, .goto 45, 0), (84, .lconst 0, 0), (85, .istore 6, 0), (87, .iload 3, 0), (88, .iload 5, 0), (90, .ifCond .ne 51, 0), (93, .iload 6, 0), (95, .ifCond .eq 53, 0), (98, .lconst 1, 0), (99, .goto 54, 0), (102, .lconst 0, 0), (103, .iadd, 0), (104, .istore 3, 0), (105, .iinc 4 0, 1), (108, .goto 4, 0), (111, .iload 3, 0), (112, .ireturn, 0)]
noncomputable def F_G_doorsOf_4 : Nat → Int32 → Int32 → Int32 → Int32 → Mem → Option (Int32 × Mem)
  | 0, _, _, _, _, _ => none
  | n + 1, x1, x2, x3, x4, s =>
    if (s 19 1) ≤ x4 then
      some (x3, s)
    else
    (F_N_at 19 x4 0 s).bind fun z1 =>
    if z1.1 = x1 then
      (F_N_at 19 x4 1 z1.2).bind fun z2 =>
      if z2.1 = x2 then
        (F_N_at 19 x4 2 z2.2).bind fun z3 =>
        if z3.1 = x1 then
          (F_N_at 19 x4 3 z3.2).bind fun z4 =>
          if z4.1 = x2 then
            F_G_doorsOf_4 n x1 x2 (x3 + 1) (x4 + 1) z4.2
          else
          F_G_doorsOf_4 n x1 x2 (x3 + 1) (x4 + 1) z4.2
        else
        F_G_doorsOf_4 n x1 x2 (x3 + 1) (x4 + 1) z3.2
      else
      (F_N_at 19 x4 2 z2.2).bind fun z5 =>
      if z5.1 = x1 then
        (F_N_at 19 x4 3 z5.2).bind fun z6 =>
        if z6.1 = x2 then
          F_G_doorsOf_4 n x1 x2 (x3 + 1) (x4 + 1) z6.2
        else
        F_G_doorsOf_4 n x1 x2 (x3 + 0) (x4 + 1) z6.2
      else
      F_G_doorsOf_4 n x1 x2 (x3 + 0) (x4 + 1) z5.2
    else
    (F_N_at 19 x4 2 z1.2).bind fun z7 =>
    if z7.1 = x1 then
      (F_N_at 19 x4 3 z7.2).bind fun z8 =>
      if z8.1 = x2 then
        F_G_doorsOf_4 n x1 x2 (x3 + 1) (x4 + 1) z8.2
      else
      F_G_doorsOf_4 n x1 x2 (x3 + 0) (x4 + 1) z8.2
    else
    F_G_doorsOf_4 n x1 x2 (x3 + 0) (x4 + 1) z7.2
noncomputable def F_G_doorsOf (x1 : Int32) (x2 : Int32) (s : Mem) : Option (Int32 × Mem) :=
  F_G_doorsOf_4 gF x1 x2 0 0 s
def A_G_doorsOf_4 (f : Int32 → Int32 → Int32 → Int32 → Mem → Option (Int32 × Mem)) (ls : List (Option Value)) (s : Mem) : Option (Int32 × Mem) := match lk ls 0, lk ls 1, lk ls 2, lk ls 3, lk ls 4 with
  | some (.ref a0), some (.int a1), some (.int a2), some (.int a3), some (.int a4) => cbr (Nat.beq a0 1) (f a1 a2 a3 a4 s) none
  | _, _, _, _, _ => none
noncomputable def A_G_doorsOf (av : List Value) (s : Mem) : Option (Int32 × Mem) := match av with
  | [.ref a0, .int a1, .int a2] => cbr (Nat.beq a0 1) (F_G_doorsOf a1 a2 s) none
  | _ => none
noncomputable def C_G_doorsOf (k : Nat) (av : List Value) (s : Mem) : Option (Int32 × Mem) := cbr (Nat.beq k 37) (A_N_at av s) (none)
set_option maxRecDepth 100000 in
theorem e_G_doorsOf_4  (n : Nat) (x1 : Int32) (x2 : Int32) (x3 : Int32) (x4 : Int32) (s : Mem) : F_G_doorsOf_4 (n + 1) x1 x2 x3 x4 s = xs C_G_doorsOf (fun k ls s => cbr (Nat.beq k 0) (A_G_doorsOf_4 (F_G_doorsOf_4 n) ls s) (none)) 0 (fun _ => 0) K_G_doorsOf 700 (K_G_doorsOf.drop 5) [some (.ref 1), some (.int x1), some (.int x2), some (.int x3), some (.int x4), none, none] [] s := rfl
set_option maxRecDepth 100000 in
theorem e_G_doorsOf (x1 : Int32) (x2 : Int32) (s : Mem) : F_G_doorsOf x1 x2 s = xs C_G_doorsOf (fun k ls s => cbr (Nat.beq k 0) (A_G_doorsOf_4 (F_G_doorsOf_4 gF) ls s) (none)) 0 (fun _ => 0) K_G_doorsOf 700 K_G_doorsOf [some (.ref 1), some (.int x1), some (.int x2), none, none, none, none] [] s := rfl
def K_C_of : MC := [(0, .aload 0, 0), (1, .getstatic 1000, 0), (4, .getstatic 600, 0), (7, .iload 1, 0), (8, .iload 2, 0), (9, .invokeinterface 9 35, 0), (12, .ifCond .eq 12, 0), (15, .iload 3, 0), (16, .lconst 0, 0), (17, .iconst 0, 9), (19, .invokeinterface 2 3, 0), (22, .ifCond .ne 14, 0), (25, .iconst 0, (-1)), (26, .ireturn, 0), (27, .iload 3, 0), (28, .iconst 0, 8), (30, .if_icmp .ne 30, 0), (33, .aload 0, 0), (34, .getstatic 1000, 0), (37, .getstatic 602, 0), (40, .iconst 0, 2), (41, .aload 0, 0), (42, .getstatic 1000, 0), (45, .getstatic 600, 0), (48, .iload 1, 0), (49, .iload 2, 0), (50, .lconst 0, 0), (51, .lconst 0, 0), (52, .invokeinterface 31 55, 0), (55, .ireturn, 0), (56, .iload 3, 0), (57, .iconst 0, 9), (59, .if_icmp .ne 39, 0), (62, .aload 0, 0), (63, .getstatic 1000, 0), (66, .iload 1, 0), (67, .iload 2, 0), (68, .invokeinterface 85 115, 0), (71, .ireturn, 0), (72, .aload 0, 0), (73, .getstatic 1000, 0), (76, .getstatic 600, 0), (79, .iload 3, 0), (80, .iload 1, 0), (81, .iload 2, 0), (82, .invokeinterface 16 36, 0), (85, .ireturn, 0)]
noncomputable def F_C_of (x1 : Int32) (x2 : Int32) (x3 : Int32) (s : Mem) : Option (Int32 × Mem) :=
  (F_H_has2 x1 x2 s).bind fun z1 =>
  if z1.1 = 0 then
    some ((-1), z1.2)
  else
  (F_C_within x3 0 9 z1.2).bind fun z2 =>
  if z2.1 = 0 then
    some ((-1), z2.2)
  else
  if x3 = 8 then
    (F_L_ask 2 2 x1 x2 0 0 z2.2).bind fun z3 =>
    some (z3.1, z3.2)
  else
  if x3 = 9 then
    (F_G_doorsOf x1 x2 z2.2).bind fun z4 =>
    some (z4.1, z4.2)
  else
  (F_H_get 2 x3 x1 x2 z2.2).bind fun z5 =>
  some (z5.1, z5.2)
noncomputable def A_C_of (av : List Value) (s : Mem) : Option (Int32 × Mem) := match av with
  | [.ref a0, .int a1, .int a2, .int a3] => cbr (Nat.beq a0 0) (F_C_of a1 a2 a3 s) none
  | _ => none
noncomputable def C_C_of (k : Nat) (av : List Value) (s : Mem) : Option (Int32 × Mem) := cbr (Nat.beq k 9) (A_H_has2 av s) (cbr (Nat.beq k 2) (A_C_within av s) (cbr (Nat.beq k 31) (A_L_ask av s) (cbr (Nat.beq k 85) (A_G_doorsOf av s) (cbr (Nat.beq k 16) (A_H_get av s) (none)))))
set_option maxRecDepth 100000 in
theorem e_C_of (x1 : Int32) (x2 : Int32) (x3 : Int32) (s : Mem) : F_C_of x1 x2 x3 s = xs C_C_of (fun k ls s => none) 0 (fun _ => 0) K_C_of 700 K_C_of [some (.ref 0), some (.int x1), some (.int x2), some (.int x3)] [] s := rfl
def K_C_asked : MC := [(0, .aload 0, 0), (1, .getstatic 1000, 0), (4, .getstatic 600, 0), (7, .iload 2, 0), (8, .iload 3, 0), (9, .invokeinterface 9 35, 0), (12, .ifCond .eq 11, 0), (15, .iload 4, 0), (17, .iload 5, 0), (19, .invokeinterface 20 2, 0), (22, .ifCond .ne 13, 0), (25, .iconst 0, (-1)), (26, .ireturn, 0), (27, .aload 0, 0), (28, .getstatic 1000, 0), (31, .getstatic 602, 0), (34, .iload 1, 0), (35, .aload 0, 0), (36, .getstatic 1000, 0), (39, .getstatic 600, 0), (42, .iload 2, 0), (43, .iload 3, 0), (44, .iload 4, 0), (46, .iload 5, 0), (48, .invokeinterface 31 55, 0), (51, .ireturn, 0)]
noncomputable def F_C_asked (x1 : Int32) (x2 : Int32) (x3 : Int32) (x4 : Int32) (x5 : Int32) (s : Mem) : Option (Int32 × Mem) :=
  (F_H_has2 x2 x3 s).bind fun z1 =>
  if z1.1 = 0 then
    some ((-1), z1.2)
  else
  (F_C_isVisitor x4 x5 z1.2).bind fun z2 =>
  if z2.1 = 0 then
    some ((-1), z2.2)
  else
  (F_L_ask x1 2 x2 x3 x4 x5 z2.2).bind fun z3 =>
  some (z3.1, z3.2)
noncomputable def A_C_asked (av : List Value) (s : Mem) : Option (Int32 × Mem) := match av with
  | [.ref a0, .int a1, .int a2, .int a3, .int a4, .int a5] => cbr (Nat.beq a0 0) (F_C_asked a1 a2 a3 a4 a5 s) none
  | _ => none
noncomputable def C_C_asked (k : Nat) (av : List Value) (s : Mem) : Option (Int32 × Mem) := cbr (Nat.beq k 9) (A_H_has2 av s) (cbr (Nat.beq k 20) (A_C_isVisitor av s) (cbr (Nat.beq k 31) (A_L_ask av s) (none)))
set_option maxRecDepth 100000 in
theorem e_C_asked (x1 : Int32) (x2 : Int32) (x3 : Int32) (x4 : Int32) (x5 : Int32) (s : Mem) : F_C_asked x1 x2 x3 x4 x5 s = xs C_C_asked (fun k ls s => none) 0 (fun _ => 0) K_C_asked 700 K_C_asked [some (.ref 0), some (.int x1), some (.int x2), some (.int x3), some (.int x4), some (.int x5)] [] s := rfl
def K_C_creaks : MC := [(0, .aload 0, 0), (1, .lconst 0, 0), (2, .iload 1, 0), (3, .iload 2, 0), (4, .iload 3, 0), (5, .iload 4, 0), (7, .invokeinterface 87 182, 0), (10, .ireturn, 0)]
noncomputable def F_C_creaks (x1 : Int32) (x2 : Int32) (x3 : Int32) (x4 : Int32) (s : Mem) : Option (Int32 × Mem) :=
  (F_C_asked 0 x1 x2 x3 x4 s).bind fun z1 =>
  some (z1.1, z1.2)
noncomputable def A_C_creaks (av : List Value) (s : Mem) : Option (Int32 × Mem) := match av with
  | [.ref a0, .int a1, .int a2, .int a3, .int a4] => cbr (Nat.beq a0 0) (F_C_creaks a1 a2 a3 a4 s) none
  | _ => none
noncomputable def C_C_creaks (k : Nat) (av : List Value) (s : Mem) : Option (Int32 × Mem) := cbr (Nat.beq k 87) (A_C_asked av s) (none)
set_option maxRecDepth 100000 in
theorem e_C_creaks (x1 : Int32) (x2 : Int32) (x3 : Int32) (x4 : Int32) (s : Mem) : F_C_creaks x1 x2 x3 x4 s = xs C_C_creaks (fun k ls s => none) 0 (fun _ => 0) K_C_creaks 700 K_C_creaks [some (.ref 0), some (.int x1), some (.int x2), some (.int x3), some (.int x4)] [] s := rfl
def K_C_wears : MC := [(0, .aload 0, 0), (1, .lconst 1, 0), (2, .iload 1, 0), (3, .iload 2, 0), (4, .iload 3, 0), (5, .iload 4, 0), (7, .invokeinterface 87 182, 0), (10, .ireturn, 0)]
noncomputable def F_C_wears (x1 : Int32) (x2 : Int32) (x3 : Int32) (x4 : Int32) (s : Mem) : Option (Int32 × Mem) :=
  (F_C_asked 1 x1 x2 x3 x4 s).bind fun z1 =>
  some (z1.1, z1.2)
noncomputable def A_C_wears (av : List Value) (s : Mem) : Option (Int32 × Mem) := match av with
  | [.ref a0, .int a1, .int a2, .int a3, .int a4] => cbr (Nat.beq a0 0) (F_C_wears a1 a2 a3 a4 s) none
  | _ => none
noncomputable def C_C_wears (k : Nat) (av : List Value) (s : Mem) : Option (Int32 × Mem) := cbr (Nat.beq k 87) (A_C_asked av s) (none)
set_option maxRecDepth 100000 in
theorem e_C_wears (x1 : Int32) (x2 : Int32) (x3 : Int32) (x4 : Int32) (s : Mem) : F_C_wears x1 x2 x3 x4 s = xs C_C_wears (fun k ls s => none) 0 (fun _ => 0) K_C_wears 700 K_C_wears [some (.ref 0), some (.int x1), some (.int x2), some (.int x3), some (.int x4)] [] s := rfl
def K_B_at : MC := [(0, .iload 1, 0), (1, .lconst 0, 0), (2, .aload 0, 0), (3, .getfield 1, 0), (6, .iconst 0, 150), (9, .invokeinterface 14 2, 0), (12, .lconst 1, 0), (13, .isub, 0), (14, .invokeinterface 2 3, 0), (17, .ifCond .eq 15, 0), (20, .iload 2, 0), (21, .lconst 0, 0), (22, .iconst 0, 3), (23, .invokeinterface 2 3, 0), (26, .ifCond .ne 17, 0), (29, .iconst 0, (-1)), (30, .ireturn, 0), (31, .aload 0, 0), (32, .getstatic 0, 0), (35, .iload 1, 0), (36, .iconst 0, 4), (37, .imul, 0), (38, .iload 2, 0), (39, .iadd, 0), (40, .iaload, 0), (41, .ireturn, 0)]
noncomputable def F_B_at (x1 : Int32) (x2 : Int32) (s : Mem) : Option (Int32 × Mem) :=
  (F_JM_min (s 5 1) 150 s).bind fun z1 =>
  (F_C_within x1 0 (z1.1 - 1) z1.2).bind fun z2 =>
  if z2.1 = 0 then
    some ((-1), z2.2)
  else
  (F_C_within x2 0 3 z2.2).bind fun z3 =>
  if z3.1 = 0 then
    some ((-1), z3.2)
  else
  (ld z3.2 6 ((x1 * 4) + x2)).bind fun v4 =>
  some (v4, z3.2)
noncomputable def A_B_at (av : List Value) (s : Mem) : Option (Int32 × Mem) := match av with
  | [.ref a0, .int a1, .int a2] => cbr (Nat.beq a0 5) (F_B_at a1 a2 s) none
  | _ => none
noncomputable def C_B_at (k : Nat) (av : List Value) (s : Mem) : Option (Int32 × Mem) := cbr (Nat.beq k 14) (A_JM_min av s) (cbr (Nat.beq k 2) (A_C_within av s) (none))
set_option maxRecDepth 100000 in
theorem e_B_at (x1 : Int32) (x2 : Int32) (s : Mem) : F_B_at x1 x2 s = xs C_B_at (fun k ls s => none) 0 (fun _ => 0) K_B_at 700 K_B_at [some (.ref 5), some (.int x1), some (.int x2)] [] s := rfl
def K_C_book : MC := [(0, .aload 0, 0), (1, .getstatic 1000, 0), (4, .getstatic 601, 0), (7, .iload 1, 0), (8, .iload 2, 0), (9, .invokeinterface 90 19, 0), (12, .ireturn, 0)]
noncomputable def F_C_book (x1 : Int32) (x2 : Int32) (s : Mem) : Option (Int32 × Mem) :=
  (F_B_at x1 x2 s).bind fun z1 =>
  some (z1.1, z1.2)
noncomputable def A_C_book (av : List Value) (s : Mem) : Option (Int32 × Mem) := match av with
  | [.ref a0, .int a1, .int a2] => cbr (Nat.beq a0 0) (F_C_book a1 a2 s) none
  | _ => none
noncomputable def C_C_book (k : Nat) (av : List Value) (s : Mem) : Option (Int32 × Mem) := cbr (Nat.beq k 90) (A_B_at av s) (none)
set_option maxRecDepth 100000 in
theorem e_C_book (x1 : Int32) (x2 : Int32) (s : Mem) : F_C_book x1 x2 s = xs C_C_book (fun k ls s => none) 0 (fun _ => 0) K_C_book 700 K_C_book [some (.ref 0), some (.int x1), some (.int x2)] [] s := rfl
