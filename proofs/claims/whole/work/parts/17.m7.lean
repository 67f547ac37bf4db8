def K_R_coins : MC := [(0, .aload 0, 0), (1, .lconst 0, 0), (2, .putfield 1100, 0), (5, .aload 0, 0), (6, .iload 1, 0), (7, .lconst 1, 0), (8, .iconst 0, 8), (10, .invokeinterface 187 196, 0), (13, .ifCond .eq 15, 0), (16, .aload 0, 0), (17, .iload 2, 0), (18, .lconst 0, 0), (19, .iconst 0, 20), (21, .invokeinterface 187 196, 0), (24, .ifCond .ne 17, 0), (27, .lconst 0, 0), (28, .lreturn, 0), (29, .aload 0, 0), (30, .getstatic 1168, 0), (33, .iload 1, 0), (34, .iload 2, 0), (35, .iastore, 0), (36, .lconst 1, 0), (37, .lreturn, 0)]
noncomputable def F_R_coins (x1 : Int32) (x2 : Int32) (s : Mem) : Option (Int32 × Mem) :=
  let s1 : Mem := mw s 123 0 0
  (F_R_isIn x1 1 8 s1).bind fun z2 =>
  if z2.1 = 0 then
    some (0, z2.2)
  else
  (F_R_isIn x2 0 20 z2.2).bind fun z3 =>
  if z3.1 = 0 then
    some (0, z3.2)
  else
  (sd z3.2 162 x1 x2).bind fun s4 =>
  some (1, s4)
noncomputable def A_R_coins (av : List Value) (s : Mem) : Option (Int32 × Mem) := match av with
  | [.ref a0, .int a1, .int a2] => cbr (Nat.beq a0 123) (F_R_coins a1 a2 s) none
  | _ => none
noncomputable def C_R_coins (k : Nat) (av : List Value) (s : Mem) : Option (Int32 × Mem) := cbr (Nat.beq k 187) (A_R_isIn av s) (none)
set_option maxRecDepth 100000 in
theorem e_R_coins (x1 : Int32) (x2 : Int32) (s : Mem) : F_R_coins x1 x2 s = xs C_R_coins (fun k ls s => none) 0 (fun _ => 0) K_R_coins 700 K_R_coins [some (.ref 123), some (.int x1), some (.int x2)] [] s := rfl
def K_R_game : MC := [(0, .aload 0, 0), (1, .lconst 0, 0), (2, .putfield 1100, 0), (5, .aload 0, 0), (6, .iload 1, 0), (7, .lconst 0, 0), (8, .lconst 1, 0), (9, .invokeinterface 187 196, 0), (12, .ifCond .ne 11, 0), (15, .iconst 0, (-1)), (16, .ireturn, 0), (17, .aload 0, 0), (18, .getstatic 1168, 0), (21, .lconst 1, 0), (22, .iaload, 0), (23, .aload 0, 0), (24, .getstatic 1168, 0), (27, .iconst 0, 3), (28, .iaload, 0), (29, .ixor, 0), (30, .aload 0, 0), (31, .getstatic 1168, 0), (34, .iconst 0, 5), (35, .iaload, 0), (36, .ixor, 0), (37, .aload 0, 0), (38, .getstatic 1168, 0), (41, .iconst 0, 7), (43, .iaload, 0), (44, .ixor, 0), (45, .istore 2, 0), (46, .lconst 1, 0), (47, .istore 3, 0), (48, .ret 0, 0), (48, .iload 3, 0), (49, .iconst 0, 9), (51, .if_icmp .ge 91, 0), (54, .iload 3, 0), (55, .iconst 0, 2), (56, .lrem, 0), (57, .lconst 1, 0), (58, .if_icmp .ne 44, 0), (61, .iload 3, 0), (62, .goto 47, 0), (65, .iload 3, 0), (66, .lconst 1, 0), (67, .isub, 0), (68, .istore 4, 0), (70, .lconst 1, 0), (71, .istore 5, 0), (73, .ret 1, 0), (73, .iload 5, 0), (75, .aload 0, 0), (76, .getstatic 1168, 0), (79, .iload 3, 0), (80, .iaload, 0), (81, .if_icmp .gt 89, 0), (84, .iload 2, 0), (85, .aload 0, 0), (86, .getstatic 1168, 0), (89, .iload 4, 0), (91, .iaload, 0), (92, .ixor, 0), (93, .iload 3, 0), (94, .iload 4, 0), (96, .if_icmp .ne 73, 0), (99, .aload 0, 0), (100, .getstatic 1168, 0), (103, .iload 4, 0), (105, .iaload, 0), (106, .iload 5, 0), (108, .isub, 0), (109, .goto 79, 0), (112, .aload 0, 0), (113, .getstatic 1168, 0), (116, .iload 4, 0), (118, .iaload, 0), (119, .iload 5, 0), (121, .iadd, 0), (122, .ixor, 0), (123, .ifCond .ne 87, 0), (126, .iload 1, 0), (127, .ifCond .ne 85, 0), (130, .iload 3, 0), (131, .goto 86, 0), (134, .iload 5, 0), (136, .ireturn, 0), (137, .iinc 5 0, 1), (140, .goto 50, 0), (143, .iinc 3 0, 1), (146, .goto 33, 0), (149, .iconst 0, (-1)), (150, .ireturn, 0)]
noncomputable def F_R_game_49 (k33 : Int32 → Int32 → Int32 → Mem → Option (Int32 × Mem)) : Nat → Int32 → Int32 → Int32 → Int32 → Int32 → Mem → Option (Int32 × Mem)
  | 0, _, _, _, _, _, _ => none
  | n + 1, x1, x2, x3, x4, x5, s =>
    (ld s 162 x3).bind fun v1 =>
    if v1 < x5 then
      k33 x1 x2 (x3 + 1) s
    else
    (ld s 162 x4).bind fun v2 =>
    if x3 = x4 then
      (ld s 162 x4).bind fun v3 =>
      if ((x2 ^^^ v2) ^^^ (v3 - x5)) = 0 then
        if x1 = 0 then
          some (x3, s)
        else
        some (x5, s)
      else
      F_R_game_49 k33 n x1 x2 x3 x4 (x5 + 1) s
    else
    (ld s 162 x4).bind fun v4 =>
    if ((x2 ^^^ v2) ^^^ (v4 + x5)) = 0 then
      if x1 = 0 then
        some (x3, s)
      else
      some (x5, s)
    else
    F_R_game_49 k33 n x1 x2 x3 x4 (x5 + 1) s
noncomputable def F_R_game_33 : Nat → Int32 → Int32 → Int32 → Mem → Option (Int32 × Mem)
  | 0, _, _, _, _ => none
  | n + 1, x1, x2, x3, s =>
    if 9 ≤ x3 then
      some ((-1), s)
    else
    if (irm x3 2) = 1 then
      F_R_game_49 (F_R_game_33 n) gF x1 x2 x3 x3 1 s
    else
    F_R_game_49 (F_R_game_33 n) gF x1 x2 x3 (x3 - 1) 1 s
noncomputable def F_R_game (x1 : Int32) (s : Mem) : Option (Int32 × Mem) :=
  let s1 : Mem := mw s 123 0 0
  (F_R_isIn x1 0 1 s1).bind fun z2 =>
  if z2.1 = 0 then
    some ((-1), z2.2)
  else
  (ld z2.2 162 1).bind fun v3 =>
  (ld z2.2 162 3).bind fun v4 =>
  (ld z2.2 162 5).bind fun v5 =>
  (ld z2.2 162 7).bind fun v6 =>
  let y7 : Int32 := (((v3 ^^^ v4) ^^^ v5) ^^^ v6)
  F_R_game_33 gF x1 y7 1 z2.2
def A_R_game_33 (f : Int32 → Int32 → Int32 → Mem → Option (Int32 × Mem)) (ls : List (Option Value)) (s : Mem) : Option (Int32 × Mem) := match lk ls 0, lk ls 1, lk ls 2, lk ls 3 with
  | some (.ref a0), some (.int a1), some (.int a2), some (.int a3) => cbr (Nat.beq a0 123) (f a1 a2 a3 s) none
  | _, _, _, _ => none
def A_R_game_49 (f : Int32 → Int32 → Int32 → Int32 → Int32 → Mem → Option (Int32 × Mem)) (ls : List (Option Value)) (s : Mem) : Option (Int32 × Mem) := match lk ls 0, lk ls 1, lk ls 2, lk ls 3, lk ls 4, lk ls 5 with
  | some (.ref a0), some (.int a1), some (.int a2), some (.int a3), some (.int a4), some (.int a5) => cbr (Nat.beq a0 123) (f a1 a2 a3 a4 a5 s) none
  | _, _, _, _, _, _ => none
noncomputable def A_R_game (av : List Value) (s : Mem) : Option (Int32 × Mem) := match av with
  | [.ref a0, .int a1] => cbr (Nat.beq a0 123) (F_R_game a1 s) none
  | _ => none
noncomputable def C_R_game (k : Nat) (av : List Value) (s : Mem) : Option (Int32 × Mem) := cbr (Nat.beq k 187) (A_R_isIn av s) (none)
set_option maxRecDepth 100000 in
theorem e_R_game_49 (k33 : Int32 → Int32 → Int32 → Mem → Option (Int32 × Mem)) (n : Nat) (x1 : Int32) (x2 : Int32) (x3 : Int32) (x4 : Int32) (x5 : Int32) (s : Mem) : F_R_game_49 k33 (n + 1) x1 x2 x3 x4 x5 s = xs C_R_game (fun k ls s => cbr (Nat.beq k 0) (A_R_game_33 (k33) ls s) (cbr (Nat.beq k 1) (A_R_game_49 (F_R_game_49 k33 n) ls s) (none))) 0 (fun _ => 0) K_R_game 700 (K_R_game.drop 51) [some (.ref 123), some (.int x1), some (.int x2), some (.int x3), some (.int x4), some (.int x5)] [] s := rfl
set_option maxRecDepth 100000 in
theorem e_R_game_33  (n : Nat) (x1 : Int32) (x2 : Int32) (x3 : Int32) (s : Mem) : F_R_game_33 (n + 1) x1 x2 x3 s = xs C_R_game (fun k ls s => cbr (Nat.beq k 1) (A_R_game_49 (F_R_game_49 (F_R_game_33 n) gF) ls s) (none)) 0 (fun _ => 0) K_R_game 700 (K_R_game.drop 34) [some (.ref 123), some (.int x1), some (.int x2), some (.int x3), none, none] [] s := rfl
set_option maxRecDepth 100000 in
theorem e_R_game (x1 : Int32) (s : Mem) : F_R_game x1 s = xs C_R_game (fun k ls s => cbr (Nat.beq k 0) (A_R_game_33 (F_R_game_33 gF) ls s) (none)) 0 (fun _ => 0) K_R_game 700 K_R_game [some (.ref 123), some (.int x1), none, none, none, none] [] s := rfl
def K_R_keeps : MC := [(0, .aload 0, 0), (1, .aload 0, 0), (2, .getfield 1171, 0), (5, .lconst 1, 0), (6, .iadd, 0), (7, .putfield 1171, 0), (10, .aload 0, 0), (11, .getfield 1169, 0), (14, .ifCond .ne 17, 0), (17, .aload 0, 0), (18, .getstatic 1172, 0), (21, .aload 0, 0), (22, .getfield 1171, 0), (25, .lconst 1, 0), (26, .isub, 0), (27, .iaload, 0), (28, .ireturn, 0), (29, .aload 0, 0), (30, .getstatic 1172, 0), (33, .aload 0, 0), (34, .getfield 1171, 0), (37, .lconst 1, 0), (38, .isub, 0), (39, .iload 1, 0), (40, .iastore, 0), (41, .iload 1, 0), (42, .ireturn, 0)]
noncomputable def F_R_keeps (x1 : Int32) (s : Mem) : Option (Int32 × Mem) :=
  let s1 : Mem := mw s 123 71 ((s 123 71) + 1)
  if (s1 123 69) = 0 then
    (ld s1 163 ((s1 123 71) - 1)).bind fun v2 =>
    some (v2, s1)
  else
  (sd s1 163 ((s1 123 71) - 1) x1).bind fun s3 =>
  some (x1, s3)
noncomputable def A_R_keeps (av : List Value) (s : Mem) : Option (Int32 × Mem) := match av with
  | [.ref a0, .int a1] => cbr (Nat.beq a0 123) (F_R_keeps a1 s) none
  | _ => none
noncomputable def C_R_keeps (k : Nat) (av : List Value) (s : Mem) : Option (Int32 × Mem) := none
set_option maxRecDepth 100000 in
theorem e_R_keeps (x1 : Int32) (s : Mem) : F_R_keeps x1 s = xs C_R_keeps (fun k ls s => none) 0 (fun _ => 0) K_R_keeps 700 K_R_keeps [some (.ref 123), some (.int x1)] [] s := rfl
def K_R_keepsLaw : MC := [(0, .aload 0, 0), (1, .getstatic 1117, 0), (4, .lconst 0, 0), (5, .aload 0, 0), (6, .aload 0, 0), (7, .getstatic 1117, 0), (10, .lconst 0, 0), (11, .iaload, 0), (12, .invokeinterface 319 194, 0), (15, .iastore, 0), (16, .lconst 0, 0), (17, .istore 1, 0), (18, .ret 0, 0), (18, .iload 1, 0), (19, .iconst 0, 16), (21, .if_icmp .ge 58, 0), (24, .aload 0, 0), (25, .getstatic 1118, 0), (28, .iload 1, 0), (29, .aload 0, 0), (30, .aload 0, 0), (31, .getstatic 1118, 0), (34, .iload 1, 0), (35, .iaload, 0), (36, .invokeinterface 319 194, 0), (39, .iastore, 0), (40, .aload 0, 0), (41, .getstatic 1119, 0), (44, .iload 1, 0), (45, .aload 0, 0), (46, .aload 0, 0), (47, .getstatic 1119, 0), (50, .iload 1, 0), (51, .iaload, 0), (52, .invokeinterface 319 194, 0), (55, .iastore, 0), (56, .aload 0, 0), (57, .getstatic 1120, 0), (60, .iload 1, 0), (61, .aload 0, 0), (62, .aload 0, 0), (63, .getstatic 1120, 0), (66, .iload 1, 0), (67, .iaload, 0), (68, .invokeinterface 319 194, 0), (71, .iastore, 0), (72, .aload 0, 0), (73, .getstatic 1121, 0), (76, .iload 1, 0), (77, .aload 0, 0), (78, .aload 0, 0), (79, .getstatic 1121, 0), (82, .iload 1, 0), (83, .iaload, 0), (84, .invokeinterface 319 194, 0), (87, .iastore, 0), (88, .iinc 1 0, 1), (91, .goto 12, 0), (94, .lconst 0, 0), (95, .istore 1, 0), (96, .ret 1, 0), (96, .iload 1, 0), (97, .iconst 0, 400), (100, .if_icmp .ge 86, 0), (103, .aload 0, 0), (104, .getstatic 1122, 0), (107, .iload 1, 0), (108, .aload 0, 0), (109, .aload 0, 0), (110, .getstatic 1122, 0), (113, .iload 1, 0), (114, .iaload, 0), (115, .invokeinterface 319 194, 0), (118, .iastore, 0), (119, .aload 0, 0), (120, .getstatic 1123, 0), (123, .iload 1, 0), (124, .aload 0, 0), (125, .aload 0, 0), (126, .getstatic 1123, 0), (129, .iload 1, 0), (130, .iaload, 0), (131, .invokeinterface 319 194, 0), (134, .iastore, 0), (135, .iinc 1 0, 1), (138, .goto 60, 0), (141, .return_, 0)]
noncomputable def F_R_keepsLaw_59 : Nat → Int32 → Mem → Option (Int32 × Mem)
  | 0, _, _ => none
  | n + 1, x1, s =>
    if 400 ≤ x1 then
      some (0, s)
    else
    (ld s 137 x1).bind fun v1 =>
    (F_R_keeps v1 s).bind fun z2 =>
    (sd z2.2 137 x1 z2.1).bind fun s3 =>
    (ld s3 138 x1).bind fun v4 =>
    (F_R_keeps v4 s3).bind fun z5 =>
    (sd z5.2 138 x1 z5.1).bind fun s6 =>
    F_R_keepsLaw_59 n (x1 + 1) s6
noncomputable def F_R_keepsLaw_12 : Nat → Int32 → Mem → Option (Int32 × Mem)
  | 0, _, _ => none
  | n + 1, x1, s =>
    if 16 ≤ x1 then
      F_R_keepsLaw_59 gF 0 s
    else
    (ld s 133 x1).bind fun v1 =>
    (F_R_keeps v1 s).bind fun z2 =>
    (sd z2.2 133 x1 z2.1).bind fun s3 =>
    (ld s3 134 x1).bind fun v4 =>
    (F_R_keeps v4 s3).bind fun z5 =>
    (sd z5.2 134 x1 z5.1).bind fun s6 =>
    (ld s6 135 x1).bind fun v7 =>
    (F_R_keeps v7 s6).bind fun z8 =>
    (sd z8.2 135 x1 z8.1).bind fun s9 =>
    (ld s9 136 x1).bind fun v10 =>
    (F_R_keeps v10 s9).bind fun z11 =>
    (sd z11.2 136 x1 z11.1).bind fun s12 =>
    F_R_keepsLaw_12 n (x1 + 1) s12
noncomputable def F_R_keepsLaw  (s : Mem) : Option (Int32 × Mem) :=
  (ld s 132 0).bind fun v1 =>
  (F_R_keeps v1 s).bind fun z2 =>
  (sd z2.2 132 0 z2.1).bind fun s3 =>
  F_R_keepsLaw_12 gF 0 s3
def A_R_keepsLaw_12 (f : Int32 → Mem → Option (Int32 × Mem)) (ls : List (Option Value)) (s : Mem) : Option (Int32 × Mem) := match lk ls 0, lk ls 1 with
  | some (.ref a0), some (.int a1) => cbr (Nat.beq a0 123) (f a1 s) none
  | _, _ => none
def A_R_keepsLaw_59 (f : Int32 → Mem → Option (Int32 × Mem)) (ls : List (Option Value)) (s : Mem) : Option (Int32 × Mem) := match lk ls 0, lk ls 1 with
  | some (.ref a0), some (.int a1) => cbr (Nat.beq a0 123) (f a1 s) none
  | _, _ => none
noncomputable def A_R_keepsLaw (av : List Value) (s : Mem) : Option (Int32 × Mem) := match av with
  | [.ref a0] => cbr (Nat.beq a0 123) (F_R_keepsLaw s) none
  | _ => none
noncomputable def C_R_keepsLaw (k : Nat) (av : List Value) (s : Mem) : Option (Int32 × Mem) := cbr (Nat.beq k 319) (A_R_keeps av s) (none)
set_option maxRecDepth 100000 in
theorem e_R_keepsLaw_59  (n : Nat) (x1 : Int32) (s : Mem) : F_R_keepsLaw_59 (n + 1) x1 s = xs C_R_keepsLaw (fun k ls s => cbr (Nat.beq k 1) (A_R_keepsLaw_59 (F_R_keepsLaw_59 n) ls s) (none)) 0 (fun _ => 0) K_R_keepsLaw 700 (K_R_keepsLaw.drop 61) [some (.ref 123), some (.int x1)] [] s := rfl
set_option maxRecDepth 100000 in
theorem e_R_keepsLaw_12  (n : Nat) (x1 : Int32) (s : Mem) : F_R_keepsLaw_12 (n + 1) x1 s = xs C_R_keepsLaw (fun k ls s => cbr (Nat.beq k 0) (A_R_keepsLaw_12 (F_R_keepsLaw_12 n) ls s) (cbr (Nat.beq k 1) (A_R_keepsLaw_59 (F_R_keepsLaw_59 gF) ls s) (none))) 0 (fun _ => 0) K_R_keepsLaw 700 (K_R_keepsLaw.drop 13) [some (.ref 123), some (.int x1)] [] s := rfl
set_option maxRecDepth 100000 in
theorem e_R_keepsLaw  (s : Mem) : F_R_keepsLaw s = xs C_R_keepsLaw (fun k ls s => cbr (Nat.beq k 0) (A_R_keepsLaw_12 (F_R_keepsLaw_12 gF) ls s) (none)) 0 (fun _ => 0) K_R_keepsLaw 700 K_R_keepsLaw [some (.ref 123), none] [] s := rfl
def K_R_keepsMany : MC := [(0, .aload 0, 0), (1, .aload 0, 0), (2, .aload 0, 0), (3, .getfield 1106, 0), (6, .invokeinterface 319 194, 0), (9, .putfield 1106, 0), (12, .aload 0, 0), (13, .aload 0, 0), (14, .aload 0, 0), (15, .getfield 1133, 0), (18, .invokeinterface 319 194, 0), (21, .putfield 1133, 0), (24, .aload 0, 0), (25, .aload 0, 0), (26, .aload 0, 0), (27, .getfield 1135, 0), (30, .invokeinterface 319 194, 0), (33, .putfield 1135, 0), (36, .aload 0, 0), (37, .aload 0, 0), (38, .aload 0, 0), (39, .getfield 1137, 0), (42, .invokeinterface 319 194, 0), (45, .putfield 1137, 0), (48, .aload 0, 0), (49, .aload 0, 0), (50, .aload 0, 0), (51, .getfield 1143, 0), (54, .invokeinterface 319 194, 0), (57, .putfield 1143, 0), (60, .aload 0, 0), (61, .aload 0, 0), (62, .aload 0, 0), (63, .getfield 1146, 0), (66, .invokeinterface 319 194, 0), (69, .putfield 1146, 0), (72, .aload 0, 0), (73, .aload 0, 0), (74, .aload 0, 0), (75, .getfield 1151, 0), (78, .invokeinterface 319 194, 0), (81, .putfield 1151, 0), (84, .aload 0, 0), (85, .aload 0, 0), (86, .aload 0, 0), (87, .getfield 1155, 0), (90, .invokeinterface 319 194, 0), (93, .putfield 1155, 0), (96, .aload 0, 0), (97, .aload 0, 0), (98, .aload 0, 0), (99, .getfield 1157, 0), (102, .invokeinterface 319 194, 0), (105, .putfield 1157, 0), (108, .aload 0, 0), (109, .aload 0, 0), (110, .aload 0, 0), (111, .getfield 1161, 0), (114, .invokeinterface 319 194, 0), (117, .putfield 1161, 0), (120, .aload 0, 0), (121, .aload 0, 0), (122, .aload 0, 0), (123, .getfield 1164, 0), (126, .invokeinterface 319 194, 0), (129, .putfield 1164, 0), (132, .return_, 0)]
noncomputable def F_R_keepsMany  (s : Mem) : Option (Int32 × Mem) :=
  (F_R_keeps (s 123 6) s).bind fun z1 =>
  let s2 : Mem := mw z1.2 123 6 z1.1
  (F_R_keeps (s2 123 33) s2).bind fun z3 =>
  let s4 : Mem := mw z3.2 123 33 z3.1
  (F_R_keeps (s4 123 35) s4).bind fun z5 =>
  let s6 : Mem := mw z5.2 123 35 z5.1
  (F_R_keeps (s6 123 37) s6).bind fun z7 =>
  let s8 : Mem := mw z7.2 123 37 z7.1
  (F_R_keeps (s8 123 43) s8).bind fun z9 =>
  let s10 : Mem := mw z9.2 123 43 z9.1
  (F_R_keeps (s10 123 46) s10).bind fun z11 =>
  let s12 : Mem := mw z11.2 123 46 z11.1
  (F_R_keeps (s12 123 51) s12).bind fun z13 =>
  let s14 : Mem := mw z13.2 123 51 z13.1
  (F_R_keeps (s14 123 55) s14).bind fun z15 =>
  let s16 : Mem := mw z15.2 123 55 z15.1
  (F_R_keeps (s16 123 57) s16).bind fun z17 =>
  let s18 : Mem := mw z17.2 123 57 z17.1
  (F_R_keeps (s18 123 61) s18).bind fun z19 =>
  let s20 : Mem := mw z19.2 123 61 z19.1
  (F_R_keeps (s20 123 64) s20).bind fun z21 =>
  let s22 : Mem := mw z21.2 123 64 z21.1
  some (0, s22)
noncomputable def A_R_keepsMany (av : List Value) (s : Mem) : Option (Int32 × Mem) := match av with
  | [.ref a0] => cbr (Nat.beq a0 123) (F_R_keepsMany s) none
  | _ => none
noncomputable def C_R_keepsMany (k : Nat) (av : List Value) (s : Mem) : Option (Int32 × Mem) := cbr (Nat.beq k 319) (A_R_keeps av s) (none)
set_option maxRecDepth 100000 in
theorem e_R_keepsMany  (s : Mem) : F_R_keepsMany s = xs C_R_keepsMany (fun k ls s => none) 0 (fun _ => 0) K_R_keepsMany 700 K_R_keepsMany [some (.ref 123)] [] s := rfl
def K_R_keepsTold : MC := [(0, .lconst 0, 0), (1, .istore 1, 0), (2, .ret 0, 0), (2, .iload 1, 0), (3, .iconst 0, 6), (5, .if_icmp .ge 18, 0), (8, .aload 0, 0), (9, .getstatic 1107, 0), (12, .iload 1, 0), (13, .aload 0, 0), (14, .aload 0, 0), (15, .getstatic 1107, 0), (18, .iload 1, 0), (19, .iaload, 0), (20, .invokeinterface 319 194, 0), (23, .iastore, 0), (24, .iinc 1 0, 1), (27, .goto 2, 0), (30, .lconst 0, 0), (31, .istore 1, 0), (32, .ret 1, 0), (32, .iload 1, 0), (33, .iconst 0, 96), (35, .if_icmp .ge 36, 0), (38, .aload 0, 0), (39, .getstatic 1108, 0), (42, .iload 1, 0), (43, .aload 0, 0), (44, .aload 0, 0), (45, .getstatic 1108, 0), (48, .iload 1, 0), (49, .iaload, 0), (50, .invokeinterface 319 194, 0), (53, .iastore, 0), (54, .iinc 1 0, 1), (57, .goto 20, 0), (60, .lconst 0, 0), (61, .istore 1, 0), (62, .ret 2, 0), (62, .iload 1, 0), (63, .iconst 0, 48), (65, .if_icmp .ge 54, 0), (68, .aload 0, 0), (69, .getstatic 1134, 0), (72, .iload 1, 0), (73, .aload 0, 0), (74, .aload 0, 0), (75, .getstatic 1134, 0), (78, .iload 1, 0), (79, .iaload, 0), (80, .invokeinterface 319 194, 0), (83, .iastore, 0), (84, .iinc 1 0, 1), (87, .goto 38, 0), (90, .lconst 0, 0), (91, .istore 1, 0), (92, .ret 3, 0), (92, .iload 1, 0), (93, .iconst 0, 80), (95, .if_icmp .ge 72, 0), (98, .aload 0, 0), (99, .getstatic 1136, 0), (102, .iload 1, 0), (103, .aload 0, 0), (104, .aload 0, 0), (105, .getstatic 1136, 0), (108, .iload 1, 0), (109, .iaload, 0), (110, .invokeinterface 319 194, 0), (113, .iastore, 0), (114, .iinc 1 0, 1), (117, .goto 56, 0), (120, .lconst 0, 0), (121, .istore 1, 0), (122, .ret 4, 0), (122, .iload 1, 0), (123, .iconst 0, 32), (125, .if_icmp .ge 90, 0), (128, .aload 0, 0), (129, .getstatic 1138, 0), (132, .iload 1, 0), (133, .aload 0, 0), (134, .aload 0, 0), (135, .getstatic 1138, 0), (138, .iload 1, 0), (139, .iaload, 0), (140, .invokeinterface 319 194, 0), (143, .iastore, 0), (144, .iinc 1 0, 1), (147, .goto 74, 0), (150, .lconst 0, 0), (151, .istore 1, 0), (152, .ret 5, 0), (152, .iload 1, 0), (153, .iconst 0, 8), (155, .if_icmp .ge 128, 0), (158, .aload 0, 0), (159, .getstatic 1144, 0), (162, .iload 1, 0), (163, .aload 0, 0), (164, .aload 0, 0), (165, .getstatic 1144, 0), (168, .iload 1, 0), (169, .iaload, 0), (170, .invokeinterface 319 194, 0), (173, .iastore, 0), (174, .aload 0, 0), (175, .getstatic 1145, 0), (178, .iload 1, 0), (179, .aload 0, 0), (180, .aload 0, 0), (181, .getstatic 1145, 0), (184, .iload 1, 0), (185, .iaload, 0), (186, .invokeinterface 319 194, 0), (189, .iastore, 0), (190, .aload 0, 0), (191, .getstatic 1162, 0), (194, .iload 1, 0), (195, .aload 0, 0), (196, .aload 0, 0), (197, .getstatic 1162, 0), (200, .iload 1, 0), (201, .iaload, 0), (202, .invokeinterface 319 194, 0), (205, .iastore, 0), (206, .iinc 1 0, 1), (209, .goto 92, 0), (212, .lconst 0, 0), (213, .istore 1, 0), (214, .ret 6, 0), (214, .iload 1, 0), (215, .iconst 0, 7), (217, .if_icmp .ge 156, 0), (220, .aload 0, 0), (221, .getstatic 1147, 0), (224, .iload 1, 0), (225, .aload 0, 0), (226, .aload 0, 0), (227, .getstatic 1147, 0), (230, .iload 1, 0), (231, .iaload, 0), (232, .invokeinterface 319 194, 0), (235, .iastore, 0), (236, .aload 0, 0), (237, .getstatic 1158, 0), (240, .iload 1, 0), (241, .aload 0, 0), (242, .aload 0, 0), (243, .getstatic 1158, 0), (246, .iload 1, 0), (247, .iaload, 0), (248, .invokeinterface 319 194, 0), (251, .iastore, 0), (252, .iinc 1 0, 1), (255, .goto 130, 0), (258, .lconst 0, 0), (259, .istore 1, 0), (260, .ret 7, 0), (260, .iload 1, 0), (261, .iconst 0, 12), (263, .if_icmp .ge 174, 0), (266, .aload 0, 0), (267, .getstatic 1156, 0), (270, .iload 1, 0), (271, .aload 0, 0), (272, .aload 0, 0), (273, .getstatic 1156, 0), (276, .iload 1, 0), (277, .iaload, 0), (278, .invokeinterface 319 194, 0), (281, .iastore, 0), (282, .iinc 1 0, 1), (285, .goto 158, 0), (288, .lconst 0, 0), (289, .istore 1, 0), (290, .ret 8, 0), (290, .iload 1, 0), (291, .iconst 0, 10), (293, .if_icmp .ge 192, 0), (296, .aload 0, 0), (297, .getstatic 1165, 0), (300, .iload 1, 0), (301, .aload 0, 0), (302, .aload 0, 0), (303, .getstatic 1165, 0), (306, .iload 1, 0), (307, .iaload, 0), (308, .invokeinterface 319 194, 0), (311, .iastore, 0), (312, .iinc 1 0, 1), (315, .goto 176, 0), (318, .lconst 0, 0), (319, .istore 1, 0), (320, .ret 9, 0), (320, .iload 1, 0), (321, .iconst 0, 9), (323, .if_icmp .ge 210, 0), (326, .aload 0, 0), (327, .getstatic 1168, 0), (330, .iload 1, 0), (331, .aload 0, 0), (332, .aload 0, 0), (333, .getstatic 1168, 0), (336, .iload 1, 0), (337, .iaload, 0), (338, .invokeinterface 319 194, 0), (341, .iastore, 0), (342, .iinc 1 0, 1), (345, .goto 194, 0), (348, .return_, 0)]
noncomputable def F_R_keepsTold_185 : Nat → Int32 → Mem → Option (Int32 × Mem)
  | 0, _, _ => none
  | n + 1, x1, s =>
    if 9 ≤ x1 then
      some (0, s)
    else
    (ld s 162 x1).bind fun v1 =>
    (F_R_keeps v1 s).bind fun z2 =>
    (sd z2.2 162 x1 z2.1).bind fun s3 =>
    F_R_keepsTold_185 n (x1 + 1) s3
noncomputable def F_R_keepsTold_168 : Nat → Int32 → Mem → Option (Int32 × Mem)
  | 0, _, _ => none
  | n + 1, x1, s =>
    if 10 ≤ x1 then
      F_R_keepsTold_185 gF 0 s
    else
    (ld s 159 x1).bind fun v1 =>
    (F_R_keeps v1 s).bind fun z2 =>
    (sd z2.2 159 x1 z2.1).bind fun s3 =>
    F_R_keepsTold_168 n (x1 + 1) s3
noncomputable def F_R_keepsTold_151 : Nat → Int32 → Mem → Option (Int32 × Mem)
  | 0, _, _ => none
  | n + 1, x1, s =>
    if 12 ≤ x1 then
      F_R_keepsTold_168 gF 0 s
    else
    (ld s 153 x1).bind fun v1 =>
    (F_R_keeps v1 s).bind fun z2 =>
    (sd z2.2 153 x1 z2.1).bind fun s3 =>
    F_R_keepsTold_151 n (x1 + 1) s3
noncomputable def F_R_keepsTold_124 : Nat → Int32 → Mem → Option (Int32 × Mem)
  | 0, _, _ => none
  | n + 1, x1, s =>
    if 7 ≤ x1 then
      F_R_keepsTold_151 gF 0 s
    else
    (ld s 148 x1).bind fun v1 =>
    (F_R_keeps v1 s).bind fun z2 =>
    (sd z2.2 148 x1 z2.1).bind fun s3 =>
    (ld s3 154 x1).bind fun v4 =>
    (F_R_keeps v4 s3).bind fun z5 =>
    (sd z5.2 154 x1 z5.1).bind fun s6 =>
    F_R_keepsTold_124 n (x1 + 1) s6
noncomputable def F_R_keepsTold_87 : Nat → Int32 → Mem → Option (Int32 × Mem)
  | 0, _, _ => none
  | n + 1, x1, s =>
    if 8 ≤ x1 then
      F_R_keepsTold_124 gF 0 s
    else
    (ld s 146 x1).bind fun v1 =>
    (F_R_keeps v1 s).bind fun z2 =>
    (sd z2.2 146 x1 z2.1).bind fun s3 =>
    (ld s3 147 x1).bind fun v4 =>
    (F_R_keeps v4 s3).bind fun z5 =>
    (sd z5.2 147 x1 z5.1).bind fun s6 =>
    (ld s6 157 x1).bind fun v7 =>
    (F_R_keeps v7 s6).bind fun z8 =>
    (sd z8.2 157 x1 z8.1).bind fun s9 =>
    F_R_keepsTold_87 n (x1 + 1) s9
noncomputable def F_R_keepsTold_70 : Nat → Int32 → Mem → Option (Int32 × Mem)
  | 0, _, _ => none
  | n + 1, x1, s =>
    if 32 ≤ x1 then
      F_R_keepsTold_87 gF 0 s
    else
    (ld s 142 x1).bind fun v1 =>
    (F_R_keeps v1 s).bind fun z2 =>
    (sd z2.2 142 x1 z2.1).bind fun s3 =>
    F_R_keepsTold_70 n (x1 + 1) s3
noncomputable def F_R_keepsTold_53 : Nat → Int32 → Mem → Option (Int32 × Mem)
  | 0, _, _ => none
  | n + 1, x1, s =>
    if 80 ≤ x1 then
      F_R_keepsTold_70 gF 0 s
    else
    (ld s 141 x1).bind fun v1 =>
    (F_R_keeps v1 s).bind fun z2 =>
    (sd z2.2 141 x1 z2.1).bind fun s3 =>
    F_R_keepsTold_53 n (x1 + 1) s3
noncomputable def F_R_keepsTold_36 : Nat → Int32 → Mem → Option (Int32 × Mem)
  | 0, _, _ => none
  | n + 1, x1, s =>
    if 48 ≤ x1 then
      F_R_keepsTold_53 gF 0 s
    else
    (ld s 140 x1).bind fun v1 =>
    (F_R_keeps v1 s).bind fun z2 =>
    (sd z2.2 140 x1 z2.1).bind fun s3 =>
    F_R_keepsTold_36 n (x1 + 1) s3
noncomputable def F_R_keepsTold_19 : Nat → Int32 → Mem → Option (Int32 × Mem)
  | 0, _, _ => none
  | n + 1, x1, s =>
    if 96 ≤ x1 then
      F_R_keepsTold_36 gF 0 s
    else
    (ld s 128 x1).bind fun v1 =>
    (F_R_keeps v1 s).bind fun z2 =>
    (sd z2.2 128 x1 z2.1).bind fun s3 =>
    F_R_keepsTold_19 n (x1 + 1) s3
noncomputable def F_R_keepsTold_2 : Nat → Int32 → Mem → Option (Int32 × Mem)
  | 0, _, _ => none
  | n + 1, x1, s =>
    if 6 ≤ x1 then
      F_R_keepsTold_19 gF 0 s
    else
    (ld s 127 x1).bind fun v1 =>
    (F_R_keeps v1 s).bind fun z2 =>
    (sd z2.2 127 x1 z2.1).bind fun s3 =>
    F_R_keepsTold_2 n (x1 + 1) s3
noncomputable def F_R_keepsTold  (s : Mem) : Option (Int32 × Mem) :=
  F_R_keepsTold_2 gF 0 s
def A_R_keepsTold_2 (f : Int32 → Mem → Option (Int32 × Mem)) (ls : List (Option Value)) (s : Mem) : Option (Int32 × Mem) := match lk ls 0, lk ls 1 with
  | some (.ref a0), some (.int a1) => cbr (Nat.beq a0 123) (f a1 s) none
  | _, _ => none
def A_R_keepsTold_19 (f : Int32 → Mem → Option (Int32 × Mem)) (ls : List (Option Value)) (s : Mem) : Option (Int32 × Mem) := match lk ls 0, lk ls 1 with
  | some (.ref a0), some (.int a1) => cbr (Nat.beq a0 123) (f a1 s) none
  | _, _ => none
def A_R_keepsTold_36 (f : Int32 → Mem → Option (Int32 × Mem)) (ls : List (Option Value)) (s : Mem) : Option (Int32 × Mem) := match lk ls 0, lk ls 1 with
  | some (.ref a0), some (.int a1) => cbr (Nat.beq a0 123) (f a1 s) none
  | _, _ => none
def A_R_keepsTold_53 (f : Int32 → Mem → Option (Int32 × Mem)) (ls : List (Option Value)) (s : Mem) : Option (Int32 × Mem) := match lk ls 0, lk ls 1 with
  | some (.ref a0), some (.int a1) => cbr (Nat.beq a0 123) (f a1 s) none
  | _, _ => none
def A_R_keepsTold_70 (f : Int32 → Mem → Option (Int32 × Mem)) (ls : List (Option Value)) (s : Mem) : Option (Int32 × Mem) := match lk ls 0, lk ls 1 with
  | some (.ref a0), some (.int a1) => cbr (Nat.beq a0 123) (f a1 s) none
  | _, _ => none
def A_R_keepsTold_87 (f : Int32 → Mem → Option (Int32 × Mem)) (ls : List (Option Value)) (s : Mem) : Option (Int32 × Mem) := match lk ls 0, lk ls 1 with
  | some (.ref a0), some (.int a1) => cbr (Nat.beq a0 123) (f a1 s) none
  | _, _ => none
def A_R_keepsTold_124 (f : Int32 → Mem → Option (Int32 × Mem)) (ls : List (Option Value)) (s : Mem) : Option (Int32 × Mem) := match lk ls 0, lk ls 1 with
  | some (.ref a0), some (.int a1) => cbr (Nat.beq a0 123) (f a1 s) none
  | _, _ => none
def A_R_keepsTold_151 (f : Int32 → Mem → Option (Int32 × Mem)) (ls : List (Option Value)) (s : Mem) : Option (Int32 × Mem) := match lk ls 0, lk ls 1 with
  | some (.ref a0), some (.int a1) => cbr (Nat.beq a0 123) (f a1 s) none
  | _, _ => none
def A_R_keepsTold_168 (f : Int32 → Mem → Option (Int32 × Mem)) (ls : List (Option Value)) (s : Mem) : Option (Int32 × Mem) := match lk ls 0, lk ls 1 with
  | some (.ref a0), some (.int a1) => cbr (Nat.beq a0 123) (f a1 s) none
  | _, _ => none
def A_R_keepsTold_185 (f : Int32 → Mem → Option (Int32 × Mem)) (ls : List (Option Value)) (s : Mem) : Option (Int32 × Mem) := match lk ls 0, lk ls 1 with
  | some (.ref a0), some (.int a1) => cbr (Nat.beq a0 123) (f a1 s) none
  | _, _ => none
noncomputable def A_R_keepsTold (av : List Value) (s : Mem) : Option (Int32 × Mem) := match av with
  | [.ref a0] => cbr (Nat.beq a0 123) (F_R_keepsTold s) none
  | _ => none
noncomputable def C_R_keepsTold (k : Nat) (av : List Value) (s : Mem) : Option (Int32 × Mem) := cbr (Nat.beq k 319) (A_R_keeps av s) (none)
set_option maxRecDepth 100000 in
theorem e_R_keepsTold_185  (n : Nat) (x1 : Int32) (s : Mem) : F_R_keepsTold_185 (n + 1) x1 s = xs C_R_keepsTold (fun k ls s => cbr (Nat.beq k 9) (A_R_keepsTold_185 (F_R_keepsTold_185 n) ls s) (none)) 0 (fun _ => 0) K_R_keepsTold 700 (K_R_keepsTold.drop 195) [some (.ref 123), some (.int x1)] [] s := rfl
set_option maxRecDepth 100000 in
theorem e_R_keepsTold_168  (n : Nat) (x1 : Int32) (s : Mem) : F_R_keepsTold_168 (n + 1) x1 s = xs C_R_keepsTold (fun k ls s => cbr (Nat.beq k 8) (A_R_keepsTold_168 (F_R_keepsTold_168 n) ls s) (cbr (Nat.beq k 9) (A_R_keepsTold_185 (F_R_keepsTold_185 gF) ls s) (none))) 0 (fun _ => 0) K_R_keepsTold 700 (K_R_keepsTold.drop 177) [some (.ref 123), some (.int x1)] [] s := rfl
set_option maxRecDepth 100000 in
theorem e_R_keepsTold_151  (n : Nat) (x1 : Int32) (s : Mem) : F_R_keepsTold_151 (n + 1) x1 s = xs C_R_keepsTold (fun k ls s => cbr (Nat.beq k 7) (A_R_keepsTold_151 (F_R_keepsTold_151 n) ls s) (cbr (Nat.beq k 8) (A_R_keepsTold_168 (F_R_keepsTold_168 gF) ls s) (none))) 0 (fun _ => 0) K_R_keepsTold 700 (K_R_keepsTold.drop 159) [some (.ref 123), some (.int x1)] [] s := rfl
set_option maxRecDepth 100000 in
theorem e_R_keepsTold_124  (n : Nat) (x1 : Int32) (s : Mem) : F_R_keepsTold_124 (n + 1) x1 s = xs C_R_keepsTold (fun k ls s => cbr (Nat.beq k 6) (A_R_keepsTold_124 (F_R_keepsTold_124 n) ls s) (cbr (Nat.beq k 7) (A_R_keepsTold_151 (F_R_keepsTold_151 gF) ls s) (none))) 0 (fun _ => 0) K_R_keepsTold 700 (K_R_keepsTold.drop 131) [some (.ref 123), some (.int x1)] [] s := rfl
set_option maxRecDepth 100000 in
theorem e_R_keepsTold_87  (n : Nat) (x1 : Int32) (s : Mem) : F_R_keepsTold_87 (n + 1) x1 s = xs C_R_keepsTold (fun k ls s => cbr (Nat.beq k 5) (A_R_keepsTold_87 (F_R_keepsTold_87 n) ls s) (cbr (Nat.beq k 6) (A_R_keepsTold_124 (F_R_keepsTold_124 gF) ls s) (none))) 0 (fun _ => 0) K_R_keepsTold 700 (K_R_keepsTold.drop 93) [some (.ref 123), some (.int x1)] [] s := rfl
set_option maxRecDepth 100000 in
theorem e_R_keepsTold_70  (n : Nat) (x1 : Int32) (s : Mem) : F_R_keepsTold_70 (n + 1) x1 s = xs C_R_keepsTold (fun k ls s => cbr (Nat.beq k 4) (A_R_keepsTold_70 (F_R_keepsTold_70 n) ls s) (cbr (Nat.beq k 5) (A_R_keepsTold_87 (F_R_keepsTold_87 gF) ls s) (none))) 0 (fun _ => 0) K_R_keepsTold 700 (K_R_keepsTold.drop 75) [some (.ref 123), some (.int x1)] [] s := rfl
set_option maxRecDepth 100000 in
theorem e_R_keepsTold_53  (n : Nat) (x1 : Int32) (s : Mem) : F_R_keepsTold_53 (n + 1) x1 s = xs C_R_keepsTold (fun k ls s => cbr (Nat.beq k 3) (A_R_keepsTold_53 (F_R_keepsTold_53 n) ls s) (cbr (Nat.beq k 4) (A_R_keepsTold_70 (F_R_keepsTold_70 gF) ls s) (none))) 0 (fun _ => 0) K_R_keepsTold 700 (K_R_keepsTold.drop 57) [some (.ref 123), some (.int x1)] [] s := rfl
set_option maxRecDepth 100000 in
theorem e_R_keepsTold_36  (n : Nat) (x1 : Int32) (s : Mem) : F_R_keepsTold_36 (n + 1) x1 s = xs C_R_keepsTold (fun k ls s => cbr (Nat.beq k 2) (A_R_keepsTold_36 (F_R_keepsTold_36 n) ls s) (cbr (Nat.beq k 3) (A_R_keepsTold_53 (F_R_keepsTold_53 gF) ls s) (none))) 0 (fun _ => 0) K_R_keepsTold 700 (K_R_keepsTold.drop 39) [some (.ref 123), some (.int x1)] [] s := rfl
set_option maxRecDepth 100000 in
theorem e_R_keepsTold_19  (n : Nat) (x1 : Int32) (s : Mem) : F_R_keepsTold_19 (n + 1) x1 s = xs C_R_keepsTold (fun k ls s => cbr (Nat.beq k 1) (A_R_keepsTold_19 (F_R_keepsTold_19 n) ls s) (cbr (Nat.beq k 2) (A_R_keepsTold_36 (F_R_keepsTold_36 gF) ls s) (none))) 0 (fun _ => 0) K_R_keepsTold 700 (K_R_keepsTold.drop 21) [some (.ref 123), some (.int x1)] [] s := rfl
set_option maxRecDepth 100000 in
theorem e_R_keepsTold_2  (n : Nat) (x1 : Int32) (s : Mem) : F_R_keepsTold_2 (n + 1) x1 s = xs C_R_keepsTold (fun k ls s => cbr (Nat.beq k 0) (A_R_keepsTold_2 (F_R_keepsTold_2 n) ls s) (cbr (Nat.beq k 1) (A_R_keepsTold_19 (F_R_keepsTold_19 gF) ls s) (none))) 0 (fun _ => 0) K_R_keepsTold 700 (K_R_keepsTold.drop 3) [some (.ref 123), some (.int x1)] [] s := rfl
set_option maxRecDepth 100000 in
theorem e_R_keepsTold  (s : Mem) : F_R_keepsTold s = xs C_R_keepsTold (fun k ls s => cbr (Nat.beq k 0) (A_R_keepsTold_2 (F_R_keepsTold_2 gF) ls s) (none)) 0 (fun _ => 0) K_R_keepsTold 700 K_R_keepsTold [some (.ref 123), none] [] s := rfl
def K_R_image : MC := [(0, .aload 0, 0), (1, .lconst 0, 0), (2, .putfield 1100, 0), (5, .iload 1, 0), (6, .ifCond .ne 10, 0), (9, .aload 0, 0), (10, .getfield 1170, 0), (13, .ifCond .ne 10, 0), (16, .lconst 0, 0), (17, .lreturn, 0), (18, .aload 0, 0), (19, .iload 1, 0), (20, .putstatic 1169, 0), (23, .aload 0, 0), (24, .lconst 1, 0), (25, .putstatic 1170, 0), (28, .aload 0, 0), (29, .lconst 0, 0), (30, .putfield 1171, 0), (33, .lconst 0, 0), (34, .istore 2, 0), (35, .ret 0, 0), (35, .iload 2, 0), (36, .iconst 0, 773), (39, .if_icmp .ge 37, 0), (42, .aload 0, 0), (43, .getstatic 1101, 0), (46, .iload 2, 0), (47, .aload 0, 0), (48, .aload 0, 0), (49, .getstatic 1101, 0), (52, .iload 2, 0), (53, .iaload, 0), (54, .invokeinterface 319 194, 0), (57, .iastore, 0), (58, .iinc 2 0, 1), (61, .goto 21, 0), (64, .aload 0, 0), (65, .multianewarray 321 193, 0), (68, .aload 0, 0), (69, .multianewarray 322 193, 0), (72, .lconst 0, 0), (73, .istore 2, 0), (74, .ret 1, 0), (74, .iload 2, 0), (75, .iconst 0, 600), (78, .if_icmp .ge 59, 0), (81, .aload 0, 0), (82, .getstatic 1109, 0), (85, .iload 2, 0), (86, .aload 0, 0), (87, .aload 0, 0), (88, .getstatic 1109, 0), (91, .iload 2, 0), (92, .iaload, 0), (93, .invokeinterface 319 194, 0), (96, .iastore, 0), (97, .iinc 2 0, 1), (100, .goto 43, 0), (103, .aload 0, 0), (104, .multianewarray 320 193, 0), (107, .iload 1, 0), (108, .ifCond .ne 66, 0), (111, .aload 0, 0), (112, .lconst 0, 0), (113, .putfield 1103, 0), (116, .lconst 1, 0), (117, .lreturn, 0)]
noncomputable def F_R_image_42 : Nat → Int32 → Int32 → Mem → Option (Int32 × Mem)
  | 0, _, _, _ => none
  | n + 1, x1, x2, s =>
    if 600 ≤ x2 then
      (F_R_keepsLaw s).bind fun z1 =>
      if x1 = 0 then
        let s2 : Mem := mw z1.2 123 3 0
        some (1, s2)
      else
      some (1, z1.2)
    else
    (ld s 129 x2).bind fun v3 =>
    (F_R_keeps v3 s).bind fun z4 =>
    (sd z4.2 129 x2 z4.1).bind fun s5 =>
    F_R_image_42 n x1 (x2 + 1) s5
noncomputable def F_R_image_21 : Nat → Int32 → Int32 → Mem → Option (Int32 × Mem)
  | 0, _, _, _ => none
  | n + 1, x1, x2, s =>
    if 773 ≤ x2 then
      (F_R_keepsMany s).bind fun z1 =>
      (F_R_keepsTold z1.2).bind fun z2 =>
      F_R_image_42 gF x1 0 z2.2
    else
    (ld s 124 x2).bind fun v3 =>
    (F_R_keeps v3 s).bind fun z4 =>
    (sd z4.2 124 x2 z4.1).bind fun s5 =>
    F_R_image_21 n x1 (x2 + 1) s5
noncomputable def F_R_image (x1 : Int32) (s : Mem) : Option (Int32 × Mem) :=
  let s1 : Mem := mw s 123 0 0
  if x1 = 0 then
    if (s1 123 70) = 0 then
      some (0, s1)
    else
    if x1 &&& 1 = x1 then
    let s2 : Mem := mw s1 123 69 x1
    let s3 : Mem := mw s2 123 70 1
    let s4 : Mem := mw s3 123 71 0
    F_R_image_21 gF x1 0 s4
    else none
  else
  if x1 &&& 1 = x1 then
  let s5 : Mem := mw s1 123 69 x1
  let s6 : Mem := mw s5 123 70 1
  let s7 : Mem := mw s6 123 71 0
  F_R_image_21 gF x1 0 s7
  else none
def A_R_image_21 (f : Int32 → Int32 → Mem → Option (Int32 × Mem)) (ls : List (Option Value)) (s : Mem) : Option (Int32 × Mem) := match lk ls 0, lk ls 1, lk ls 2 with
  | some (.ref a0), some (.int a1), some (.int a2) => cbr (Nat.beq a0 123) (f a1 a2 s) none
  | _, _, _ => none
def A_R_image_42 (f : Int32 → Int32 → Mem → Option (Int32 × Mem)) (ls : List (Option Value)) (s : Mem) : Option (Int32 × Mem) := match lk ls 0, lk ls 1, lk ls 2 with
  | some (.ref a0), some (.int a1), some (.int a2) => cbr (Nat.beq a0 123) (f a1 a2 s) none
  | _, _, _ => none
noncomputable def A_R_image (av : List Value) (s : Mem) : Option (Int32 × Mem) := match av with
  | [.ref a0, .int a1] => cbr (Nat.beq a0 123) (F_R_image a1 s) none
  | _ => none
noncomputable def C_R_image (k : Nat) (av : List Value) (s : Mem) : Option (Int32 × Mem) := cbr (Nat.beq k 321) (A_R_keepsMany av s) (cbr (Nat.beq k 322) (A_R_keepsTold av s) (cbr (Nat.beq k 319) (A_R_keeps av s) (cbr (Nat.beq k 320) (A_R_keepsLaw av s) (none))))
set_option maxRecDepth 100000 in
theorem e_R_image_42  (n : Nat) (x1 : Int32) (x2 : Int32) (s : Mem) : F_R_image_42 (n + 1) x1 x2 s = xs C_R_image (fun k ls s => cbr (Nat.beq k 1) (A_R_image_42 (F_R_image_42 n) ls s) (none)) 0 (fun _ => 0) K_R_image 700 (K_R_image.drop 44) [some (.ref 123), some (.int x1), some (.int x2)] [] s := rfl
set_option maxRecDepth 100000 in
theorem e_R_image_21  (n : Nat) (x1 : Int32) (x2 : Int32) (s : Mem) : F_R_image_21 (n + 1) x1 x2 s = xs C_R_image (fun k ls s => cbr (Nat.beq k 0) (A_R_image_21 (F_R_image_21 n) ls s) (cbr (Nat.beq k 1) (A_R_image_42 (F_R_image_42 gF) ls s) (none))) 0 (fun _ => 0) K_R_image 700 (K_R_image.drop 22) [some (.ref 123), some (.int x1), some (.int x2)] [] s := rfl
set_option maxRecDepth 100000 in
theorem e_R_image (x1 : Int32) (s : Mem) : F_R_image x1 s = xs C_R_image (fun k ls s => cbr (Nat.beq k 0) (A_R_image_21 (F_R_image_21 gF) ls s) (none)) 0 (fun _ => 0) K_R_image 700 K_R_image [some (.ref 123), some (.int x1), none] [] s := rfl
def K_R_look : MC := [(0, .aload 0, 0), (1, .lconst 0, 0), (2, .putfield 1100, 0), (5, .iload 1, 0), (6, .ifCond .ne 8, 0), (9, .aload 0, 0), (10, .getfield 1106, 0), (13, .ireturn, 0), (14, .iload 1, 0), (15, .lconst 1, 0), (16, .if_icmp .ne 16, 0), (19, .aload 0, 0), (20, .getstatic 1101, 0), (23, .iconst 0, 3), (24, .iaload, 0), (25, .ireturn, 0), (26, .iload 1, 0), (27, .iconst 0, 2), (28, .if_icmp .ne 24, 0), (31, .aload 0, 0), (32, .getstatic 1101, 0), (35, .iconst 0, 4), (36, .iaload, 0), (37, .ireturn, 0), (38, .iload 1, 0), (39, .iconst 0, 3), (40, .if_icmp .ne 32, 0), (43, .aload 0, 0), (44, .getstatic 1101, 0), (47, .lconst 0, 0), (48, .iaload, 0), (49, .ireturn, 0), (50, .iload 1, 0), (51, .iconst 0, 4), (52, .if_icmp .ne 40, 0), (55, .aload 0, 0), (56, .getstatic 1101, 0), (59, .iconst 0, 2), (60, .iaload, 0), (61, .ireturn, 0), (62, .iload 1, 0), (63, .iconst 0, 5), (64, .if_icmp .ne 48, 0), (67, .aload 0, 0), (68, .getstatic 1101, 0), (71, .lconst 1, 0), (72, .iaload, 0), (73, .ireturn, 0), (74, .iload 1, 0), (75, .iconst 0, 6), (77, .if_icmp .ne 56, 0), (80, .aload 0, 0), (81, .getstatic 1117, 0), (84, .lconst 0, 0), (85, .iaload, 0), (86, .ireturn, 0), (87, .iload 1, 0), (88, .iconst 0, 7), (90, .if_icmp .ne 62, 0), (93, .aload 0, 0), (94, .getfield 1133, 0), (97, .ireturn, 0), (98, .iload 1, 0), (99, .iconst 0, 8), (101, .if_icmp .ne 68, 0), (104, .aload 0, 0), (105, .getfield 1135, 0), (108, .ireturn, 0), (109, .iload 1, 0), (110, .iconst 0, 9), (112, .if_icmp .ne 74, 0), (115, .aload 0, 0), (116, .getfield 1137, 0), (119, .ireturn, 0), (120, .iload 1, 0), (121, .iconst 0, 10), (123, .if_icmp .ne 80, 0), (126, .aload 0, 0), (127, .getfield 1103, 0), (130, .goto 81, 0), (133, .iconst 0, (-1)), (134, .ireturn, 0)]
noncomputable def F_R_look (x1 : Int32) (s : Mem) : Option (Int32 × Mem) :=
  let s1 : Mem := mw s 123 0 0
  if x1 = 0 then
    some ((s1 123 6), s1)
  else
  if x1 = 1 then
    (ld s1 124 3).bind fun v2 =>
    some (v2, s1)
  else
  if x1 = 2 then
    (ld s1 124 4).bind fun v3 =>
    some (v3, s1)
  else
  if x1 = 3 then
    (ld s1 124 0).bind fun v4 =>
    some (v4, s1)
  else
  if x1 = 4 then
    (ld s1 124 2).bind fun v5 =>
    some (v5, s1)
  else
  if x1 = 5 then
    (ld s1 124 1).bind fun v6 =>
    some (v6, s1)
  else
  if x1 = 6 then
    (ld s1 132 0).bind fun v7 =>
    some (v7, s1)
  else
  if x1 = 7 then
    some ((s1 123 33), s1)
  else
  if x1 = 8 then
    some ((s1 123 35), s1)
  else
  if x1 = 9 then
    some ((s1 123 37), s1)
  else
  if x1 = 10 then
    some ((s1 123 3), s1)
  else
  some ((-1), s1)
noncomputable def A_R_look (av : List Value) (s : Mem) : Option (Int32 × Mem) := match av with
  | [.ref a0, .int a1] => cbr (Nat.beq a0 123) (F_R_look a1 s) none
  | _ => none
noncomputable def C_R_look (k : Nat) (av : List Value) (s : Mem) : Option (Int32 × Mem) := none
set_option maxRecDepth 100000 in
theorem e_R_look (x1 : Int32) (s : Mem) : F_R_look x1 s = xs C_R_look (fun k ls s => none) 0 (fun _ => 0) K_R_look 700 K_R_look [some (.ref 123), some (.int x1)] [] s := rfl
