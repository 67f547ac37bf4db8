def K_B_copyFrom : MC := [(0, .aload 1, 0), (1, .dload 0, 0), (4, .lconst 0, 0), (5, .aload 0, 0), (6, .dload 0, 0), (9, .lconst 0, 0), (10, .aload 0, 0), (11, .dload 0, 0), (14, .lneg, 0), (15, .invokedynamic 0, 0), (18, .aload 0, 0), (19, .aload 1, 0), (20, .fload 1, 0), (23, .fstore 1, 0), (26, .return_, 0)]
noncomputable def F_B_copyFrom (h0 : Nat) (h1 : Nat) (s : Mem) : Option (Int32 × Mem) :=
  bif Nat.beq (kd h1) 3 then
  bif Nat.beq (kd h0) 3 then
  bif Nat.beq (kd h0) 3 then
  bif Nat.beq (kd (rf h0 0)) 1 || Nat.beq (kd (rf h0 0)) 2 then
  (cpy s (rf h1 0) 0 (rf h0 0) 0 (nI (ln (rf h0 0)))).bind fun s1 =>
  bif Nat.beq (kd h1) 3 then
  bif Nat.beq (kd h0) 3 then
  let s2 : Mem := mw s1 h0 1 (s1 h1 1)
  some (0, s2)
  else none
  else none
  else none
  else none
  else none
  else none
noncomputable def A_B_copyFrom (av : List Value) (s : Mem) : Option (Int32 × Mem) := match av with
  | [.ref a0, .ref a1] => F_B_copyFrom a0 a1 s
  | _ => none
noncomputable def C_B_copyFrom (k : Nat) (av : List Value) (s : Mem) : Option (Int32 × Mem) := none
set_option maxRecDepth 100000 in
theorem e_B_copyFrom (h0 : Nat) (h1 : Nat) (s : Mem) : F_B_copyFrom h0 h1 s = xs C_B_copyFrom (fun k ls s => none) 0 (fun _ => 0) K_B_copyFrom 700 K_B_copyFrom [some (.ref h0), some (.ref h1)] [] s := rfl
def K_W_copyFrom : MC := [(0, .aload 1, 0), (1, .dload 800, 0), (4, .lconst 0, 0), (5, .aload 0, 0), (6, .dload 800, 0), (9, .lconst 0, 0), (10, .aload 0, 0), (11, .dload 800, 0), (14, .lneg, 0), (15, .aload 1, 0), (16, .dload 800, 0), (19, .lneg, 0), (20, .invokeinterface 14 2, 0), (23, .invokedynamic 0, 0), (26, .aload 0, 0), (27, .aload 1, 0), (28, .fload 801, 0), (31, .fstore 801, 0), (34, .return_, 0)]
noncomputable def F_W_copyFrom (h0 : Nat) (h1 : Nat) (s : Mem) : Option (Int32 × Mem) :=
  bif Nat.beq (kd h1) 11 then
  bif Nat.beq (kd h0) 11 then
  bif Nat.beq (kd h0) 11 then
  bif Nat.beq (kd (rf h0 0)) 1 || Nat.beq (kd (rf h0 0)) 2 then
  bif Nat.beq (kd h1) 11 then
  bif Nat.beq (kd (rf h1 0)) 1 || Nat.beq (kd (rf h1 0)) 2 then
  (F_JM_min (nI (ln (rf h0 0))) (nI (ln (rf h1 0))) s).bind fun z1 =>
  (cpy z1.2 (rf h1 0) 0 (rf h0 0) 0 z1.1).bind fun s2 =>
  bif Nat.beq (kd h1) 11 then
  bif Nat.beq (kd h0) 11 then
  let s3 : Mem := mw s2 h0 1 (s2 h1 1)
  some (0, s3)
  else none
  else none
  else none
  else none
  else none
  else none
  else none
  else none
noncomputable def A_W_copyFrom (av : List Value) (s : Mem) : Option (Int32 × Mem) := match av with
  | [.ref a0, .ref a1] => F_W_copyFrom a0 a1 s
  | _ => none
noncomputable def C_W_copyFrom (k : Nat) (av : List Value) (s : Mem) : Option (Int32 × Mem) := cbr (Nat.beq k 14) (A_JM_min av s) (none)
set_option maxRecDepth 100000 in
theorem e_W_copyFrom (h0 : Nat) (h1 : Nat) (s : Mem) : F_W_copyFrom h0 h1 s = xs C_W_copyFrom (fun k ls s => none) 0 (fun _ => 0) K_W_copyFrom 700 K_W_copyFrom [some (.ref h0), some (.ref h1)] [] s := rfl
def K_T_copyFrom : MC := [(0, .aload 0, 0), (1, .dload 900, 0), (4, .aload 1, 0), (5, .dload 900, 0), (8, .lstore 187538, 0), (11, .aload 0, 0), (12, .dload 901, 0), (15, .aload 1, 0), (16, .dload 901, 0), (19, .lstore 187538, 0), (22, .aload 0, 0), (23, .dload 902, 0), (26, .aload 1, 0), (27, .dload 902, 0), (30, .lstore 187538, 0), (33, .aload 0, 0), (34, .dload 903, 0), (37, .aload 1, 0), (38, .dload 903, 0), (41, .lstore 187538, 0), (44, .aload 0, 0), (45, .dload 904, 0), (48, .aload 1, 0), (49, .dload 904, 0), (52, .lstore 187538, 0), (55, .aload 0, 0), (56, .dload 905, 0), (59, .aload 1, 0), (60, .dload 905, 0), (63, .lstore 187538, 0), (66, .aload 0, 0), (67, .dload 906, 0), (70, .aload 1, 0), (71, .dload 906, 0), (74, .lstore 187538, 0), (77, .aload 0, 0), (78, .aload 1, 0), (79, .fload 907, 0), (82, .fstore 907, 0), (85, .aload 1, 0), (86, .dload 908, 0), (89, .lconst 0, 0), (90, .aload 0, 0), (91, .dload 908, 0), (94, .lconst 0, 0), (95, .aload 0, 0), (96, .dload 908, 0), (99, .lneg, 0), (100, .invokedynamic 0, 0), (103, .return_, 0)]
noncomputable def F_T_copyFrom (h0 : Nat) (h1 : Nat) (s : Mem) : Option (Int32 × Mem) :=
  bif Nat.beq (kd h0) 12 then
  bif Nat.beq (kd h1) 12 then
  bif Nat.beq (kd (rf h0 0)) 11 then
  (F_W_copyFrom (rf h0 0) (rf h1 0) s).bind fun z1 =>
  bif Nat.beq (kd h0) 12 then
  bif Nat.beq (kd h1) 12 then
  bif Nat.beq (kd (rf h0 1)) 11 then
  (F_W_copyFrom (rf h0 1) (rf h1 1) z1.2).bind fun z2 =>
  bif Nat.beq (kd h0) 12 then
  bif Nat.beq (kd h1) 12 then
  bif Nat.beq (kd (rf h0 2)) 11 then
  (F_W_copyFrom (rf h0 2) (rf h1 2) z2.2).bind fun z3 =>
  bif Nat.beq (kd h0) 12 then
  bif Nat.beq (kd h1) 12 then
  bif Nat.beq (kd (rf h0 3)) 11 then
  (F_W_copyFrom (rf h0 3) (rf h1 3) z3.2).bind fun z4 =>
  bif Nat.beq (kd h0) 12 then
  bif Nat.beq (kd h1) 12 then
  bif Nat.beq (kd (rf h0 4)) 11 then
  (F_W_copyFrom (rf h0 4) (rf h1 4) z4.2).bind fun z5 =>
  bif Nat.beq (kd h0) 12 then
  bif Nat.beq (kd h1) 12 then
  bif Nat.beq (kd (rf h0 5)) 11 then
  (F_W_copyFrom (rf h0 5) (rf h1 5) z5.2).bind fun z6 =>
  bif Nat.beq (kd h0) 12 then
  bif Nat.beq (kd h1) 12 then
  bif Nat.beq (kd (rf h0 6)) 11 then
  (F_W_copyFrom (rf h0 6) (rf h1 6) z6.2).bind fun z7 =>
  bif Nat.beq (kd h1) 12 then
  bif Nat.beq (kd h0) 12 then
  let s8 : Mem := mw z7.2 h0 7 (z7.2 h1 7)
  bif Nat.beq (kd h1) 12 then
  bif Nat.beq (kd h0) 12 then
  bif Nat.beq (kd h0) 12 then
  bif Nat.beq (kd (rf h0 8)) 1 || Nat.beq (kd (rf h0 8)) 2 then
  (cpy s8 (rf h1 8) 0 (rf h0 8) 0 (nI (ln (rf h0 8)))).bind fun s9 =>
  some (0, s9)
  else none
  else none
  else none
  else none
  else none
  else none
  else none
  else none
  else none
  else none
  else none
  else none
  else none
  else none
  else none
  else none
  else none
  else none
  else none
  else none
  else none
  else none
  else none
  else none
  else none
  else none
  else none
noncomputable def A_T_copyFrom (av : List Value) (s : Mem) : Option (Int32 × Mem) := match av with
  | [.ref a0, .ref a1] => F_T_copyFrom a0 a1 s
  | _ => none
noncomputable def C_T_copyFrom (k : Nat) (av : List Value) (s : Mem) : Option (Int32 × Mem) := cbr (Nat.beq k 183) (A_W_copyFrom av s) (none)
set_option maxRecDepth 100000 in
theorem e_T_copyFrom (h0 : Nat) (h1 : Nat) (s : Mem) : F_T_copyFrom h0 h1 s = xs C_T_copyFrom (fun k ls s => none) 0 (fun _ => 0) K_T_copyFrom 700 K_T_copyFrom [some (.ref h0), some (.ref h1)] [] s := rfl
def K_G_copyFrom : MC := [(0, .aload 0, 0), (1, .dload 600, 0), (4, .aload 1, 0), (5, .dload 600, 0), (8, .lstore 13346, 0), (11, .aload 0, 0), (12, .dload 601, 0), (15, .aload 1, 0), (16, .dload 601, 0), (19, .lstore 186386, 0), (22, .aload 0, 0), (23, .dload 602, 0), (26, .aload 1, 0), (27, .dload 602, 0), (30, .lstore 81970, 0), (33, .aload 0, 0), (34, .dload 603, 0), (37, .aload 1, 0), (38, .dload 603, 0), (41, .lstore 83010, 0), (44, .aload 0, 0), (45, .dload 604, 0), (48, .aload 1, 0), (49, .dload 604, 0), (52, .lstore 83010, 0), (55, .aload 0, 0), (56, .dload 605, 0), (59, .aload 1, 0), (60, .dload 605, 0), (63, .lstore 83010, 0), (66, .aload 0, 0), (67, .dload 606, 0), (70, .aload 1, 0), (71, .dload 606, 0), (74, .lstore 188578, 0), (77, .return_, 0)]
noncomputable def F_G_copyFrom (h0 : Nat) (h1 : Nat) (s : Mem) : Option (Int32 × Mem) :=
  bif Nat.beq (kd h0) 9 then
  bif Nat.beq (kd h1) 9 then
  bif Nat.beq (kd (rf h0 0)) 4 then
  (F_H_copyFrom (rf h0 0) (rf h1 0) s).bind fun z1 =>
  bif Nat.beq (kd h0) 9 then
  bif Nat.beq (kd h1) 9 then
  bif Nat.beq (kd (rf h0 1)) 3 then
  (F_B_copyFrom (rf h0 1) (rf h1 1) z1.2).bind fun z2 =>
  bif Nat.beq (kd h0) 9 then
  bif Nat.beq (kd h1) 9 then
  bif Nat.beq (kd (rf h0 2)) 5 then
  (F_L_copyFrom (rf h0 2) (rf h1 2) z2.2).bind fun z3 =>
  bif Nat.beq (kd h0) 9 then
  bif Nat.beq (kd h1) 9 then
  bif Nat.beq (kd (rf h0 3)) 6 then
  (F_N_copyFrom (rf h0 3) (rf h1 3) z3.2).bind fun z4 =>
  bif Nat.beq (kd h0) 9 then
  bif Nat.beq (kd h1) 9 then
  bif Nat.beq (kd (rf h0 4)) 6 then
  (F_N_copyFrom (rf h0 4) (rf h1 4) z4.2).bind fun z5 =>
  bif Nat.beq (kd h0) 9 then
  bif Nat.beq (kd h1) 9 then
  bif Nat.beq (kd (rf h0 5)) 6 then
  (F_N_copyFrom (rf h0 5) (rf h1 5) z5.2).bind fun z6 =>
  bif Nat.beq (kd h0) 9 then
  bif Nat.beq (kd h1) 9 then
  bif Nat.beq (kd (rf h0 6)) 12 then
  (F_T_copyFrom (rf h0 6) (rf h1 6) z6.2).bind fun z7 =>
  some (0, z7.2)
  else none
  else none
  else none
  else none
  else none
  else none
  else none
  else none
  else none
  else none
  else none
  else none
  else none
  else none
  else none
  else none
  else none
  else none
  else none
  else none
  else none
noncomputable def A_G_copyFrom (av : List Value) (s : Mem) : Option (Int32 × Mem) := match av with
  | [.ref a0, .ref a1] => F_G_copyFrom a0 a1 s
  | _ => none
noncomputable def C_G_copyFrom (k : Nat) (av : List Value) (s : Mem) : Option (Int32 × Mem) := cbr (Nat.beq k 13) (A_H_copyFrom av s) (cbr (Nat.beq k 182) (A_B_copyFrom av s) (cbr (Nat.beq k 80) (A_L_copyFrom av s) (cbr (Nat.beq k 81) (A_N_copyFrom av s) (cbr (Nat.beq k 184) (A_T_copyFrom av s) (none)))))
set_option maxRecDepth 100000 in
theorem e_G_copyFrom (h0 : Nat) (h1 : Nat) (s : Mem) : F_G_copyFrom h0 h1 s = xs C_G_copyFrom (fun k ls s => none) 0 (fun _ => 0) K_G_copyFrom 700 K_G_copyFrom [some (.ref h0), some (.ref h1)] [] s := rfl
def K_C_image : MC := [(0, .iload 1, 0), (1, .ifCond .eq 12, 0), (4, .aload 0, 0), (5, .getstatic 1001, 0), (8, .aload 0, 0), (9, .getstatic 1000, 0), (12, .multianewarray 185 114, 0), (15, .aload 0, 0), (16, .lconst 1, 0), (17, .putstatic 1002, 0), (20, .lconst 1, 0), (21, .lreturn, 0), (22, .aload 0, 0), (23, .getfield 1002, 0), (26, .ifCond .ne 17, 0), (29, .lconst 0, 0), (30, .lreturn, 0), (31, .aload 0, 0), (32, .getstatic 1000, 0), (35, .aload 0, 0), (36, .getstatic 1001, 0), (39, .multianewarray 185 114, 0), (42, .aload 0, 0), (43, .multianewarray 0 177, 0), (46, .lconst 1, 0), (47, .lreturn, 0)]
noncomputable def F_C_image (x1 : Int32) (s : Mem) : Option (Int32 × Mem) :=
  if x1 = 0 then
    if (s 0 2) = 0 then
      some (0, s)
    else
    (F_G_copyFrom 1 37 s).bind fun z1 =>
    (F_C_forgetDeeds z1.2).bind fun z2 =>
    some (1, z2.2)
  else
  (F_G_copyFrom 37 1 s).bind fun z3 =>
  let s4 : Mem := mw z3.2 0 2 1
  some (1, s4)
noncomputable def A_C_image (av : List Value) (s : Mem) : Option (Int32 × Mem) := match av with
  | [.ref a0, .int a1] => cbr (Nat.beq a0 0) (F_C_image a1 s) none
  | _ => none
noncomputable def C_C_image (k : Nat) (av : List Value) (s : Mem) : Option (Int32 × Mem) := cbr (Nat.beq k 185) (A_G_copyFrom av s) (cbr (Nat.beq k 0) (A_C_forgetDeeds av s) (none))
set_option maxRecDepth 100000 in
theorem e_C_image (x1 : Int32) (s : Mem) : F_C_image x1 s = xs C_C_image (fun k ls s => none) 0 (fun _ => 0) K_C_image 700 K_C_image [some (.ref 0), some (.int x1)] [] s := rfl
def K_R_isIn : MC := [(0, .iload 1, 0), (1, .iload 2, 0), (2, .if_icmp .lt 8, 0), (5, .iload 1, 0), (6, .iload 3, 0), (7, .if_icmp .gt 8, 0), (10, .lconst 1, 0), (11, .goto 9, 0), (14, .lconst 0, 0), (15, .lreturn, 0)]
noncomputable def F_R_isIn (x1 : Int32) (x2 : Int32) (x3 : Int32) (s : Mem) : Option (Int32 × Mem) :=
  if x1 < x2 then
    some (0, s)
  else
  if x3 < x1 then
    some (0, s)
  else
  some (1, s)
noncomputable def A_R_isIn (av : List Value) (s : Mem) : Option (Int32 × Mem) := match av with
  | [.ref a0, .int a1, .int a2, .int a3] => cbr (Nat.beq a0 123) (F_R_isIn a1 a2 a3 s) none
  | _ => none
noncomputable def C_R_isIn (k : Nat) (av : List Value) (s : Mem) : Option (Int32 × Mem) := none
set_option maxRecDepth 100000 in
theorem e_R_isIn (x1 : Int32) (x2 : Int32) (x3 : Int32) (s : Mem) : F_R_isIn x1 x2 x3 s = xs C_R_isIn (fun k ls s => none) 0 (fun _ => 0) K_R_isIn 700 K_R_isIn [some (.ref 123), some (.int x1), some (.int x2), some (.int x3)] [] s := rfl
def K_R_held : MC := [(0, .iload 1, 0), (1, .iload 2, 0), (2, .if_icmp .ge 5, 0), (5, .iload 2, 0), (6, .goto 11, 0), (9, .iload 1, 0), (10, .iload 3, 0), (11, .if_icmp .le 10, 0), (14, .iload 3, 0), (15, .goto 11, 0), (18, .iload 1, 0), (19, .ireturn, 0)]
noncomputable def F_R_held (x1 : Int32) (x2 : Int32) (x3 : Int32) (s : Mem) : Option (Int32 × Mem) :=
  if x2 ≤ x1 then
    if x1 ≤ x3 then
      some (x1, s)
    else
    some (x3, s)
  else
  some (x2, s)
noncomputable def A_R_held (av : List Value) (s : Mem) : Option (Int32 × Mem) := match av with
  | [.ref a0, .int a1, .int a2, .int a3] => cbr (Nat.beq a0 123) (F_R_held a1 a2 a3 s) none
  | _ => none
noncomputable def C_R_held (k : Nat) (av : List Value) (s : Mem) : Option (Int32 × Mem) := none
set_option maxRecDepth 100000 in
theorem e_R_held (x1 : Int32) (x2 : Int32) (x3 : Int32) (s : Mem) : F_R_held x1 x2 x3 s = xs C_R_held (fun k ls s => none) 0 (fun _ => 0) K_R_held 700 K_R_held [some (.ref 123), some (.int x1), some (.int x2), some (.int x3)] [] s := rfl
def K_R_greater : MC := [(0, .iload 1, 0), (1, .iload 2, 0), (2, .if_icmp .le 5, 0), (5, .iload 1, 0), (6, .goto 6, 0), (9, .iload 2, 0), (10, .ireturn, 0)]
noncomputable def F_R_greater (x1 : Int32) (x2 : Int32) (s : Mem) : Option (Int32 × Mem) :=
  if x1 ≤ x2 then
    some (x2, s)
  else
  some (x1, s)
noncomputable def A_R_greater (av : List Value) (s : Mem) : Option (Int32 × Mem) := match av with
  | [.ref a0, .int a1, .int a2] => cbr (Nat.beq a0 123) (F_R_greater a1 a2 s) none
  | _ => none
noncomputable def C_R_greater (k : Nat) (av : List Value) (s : Mem) : Option (Int32 × Mem) := none
set_option maxRecDepth 100000 in
theorem e_R_greater (x1 : Int32) (x2 : Int32) (s : Mem) : F_R_greater x1 x2 s = xs C_R_greater (fun k ls s => none) 0 (fun _ => 0) K_R_greater 700 K_R_greater [some (.ref 123), some (.int x1), some (.int x2)] [] s := rfl
def K_R_lesser : MC := [(0, .iload 1, 0), (1, .iload 2, 0), (2, .if_icmp .ge 5, 0), (5, .iload 1, 0), (6, .goto 6, 0), (9, .iload 2, 0), (10, .ireturn, 0)]
noncomputable def F_R_lesser (x1 : Int32) (x2 : Int32) (s : Mem) : Option (Int32 × Mem) :=
  if x2 ≤ x1 then
    some (x2, s)
  else
  some (x1, s)
noncomputable def A_R_lesser (av : List Value) (s : Mem) : Option (Int32 × Mem) := match av with
  | [.ref a0, .int a1, .int a2] => cbr (Nat.beq a0 123) (F_R_lesser a1 a2 s) none
  | _ => none
noncomputable def C_R_lesser (k : Nat) (av : List Value) (s : Mem) : Option (Int32 × Mem) := none
set_option maxRecDepth 100000 in
theorem e_R_lesser (x1 : Int32) (x2 : Int32) (s : Mem) : F_R_lesser x1 x2 s = xs C_R_lesser (fun k ls s => none) 0 (fun _ => 0) K_R_lesser 700 K_R_lesser [some (.ref 123), some (.int x1), some (.int x2)] [] s := rfl
def K_R_apart : MC := [(0, .iload 1, 0), (1, .iload 2, 0), (2, .if_icmp .le 7, 0), (5, .iload 1, 0), (6, .iload 2, 0), (7, .isub, 0), (8, .goto 10, 0), (11, .iload 2, 0), (12, .iload 1, 0), (13, .isub, 0), (14, .ireturn, 0)]
noncomputable def F_R_apart (x1 : Int32) (x2 : Int32) (s : Mem) : Option (Int32 × Mem) :=
  if x1 ≤ x2 then
    some ((x2 - x1), s)
  else
  some ((x1 - x2), s)
noncomputable def A_R_apart (av : List Value) (s : Mem) : Option (Int32 × Mem) := match av with
  | [.ref a0, .int a1, .int a2] => cbr (Nat.beq a0 123) (F_R_apart a1 a2 s) none
  | _ => none
noncomputable def C_R_apart (k : Nat) (av : List Value) (s : Mem) : Option (Int32 × Mem) := none
set_option maxRecDepth 100000 in
theorem e_R_apart (x1 : Int32) (x2 : Int32) (s : Mem) : F_R_apart x1 x2 s = xs C_R_apart (fun k ls s => none) 0 (fun _ => 0) K_R_apart 700 K_R_apart [some (.ref 123), some (.int x1), some (.int x2)] [] s := rfl
def K_R_onesOf : MC := [(0, .lconst 0, 0), (1, .istore 2, 0), (2, .iload 1, 0), (3, .istore 3, 0), (4, .ret 0, 0), (4, .iload 3, 0), (5, .ifCond .eq 18, 0), (8, .iload 2, 0), (9, .lconst 1, 0), (10, .iadd, 0), (11, .istore 2, 0), (12, .iload 3, 0), (13, .iload 3, 0), (14, .lconst 1, 0), (15, .isub, 0), (16, .iand, 0), (17, .istore 3, 0), (18, .goto 4, 0), (21, .iload 2, 0), (22, .ireturn, 0)]
noncomputable def F_R_onesOf_4 : Nat → Int32 → Int32 → Mem → Option (Int32 × Mem)
  | 0, _, _, _ => none
  | n + 1, x2, x3, s =>
    if x3 = 0 then
      some (x2, s)
    else
    F_R_onesOf_4 n (x2 + 1) (x3 &&& (x3 - 1)) s
noncomputable def F_R_onesOf (x1 : Int32) (s : Mem) : Option (Int32 × Mem) :=
  F_R_onesOf_4 gF 0 x1 s
def A_R_onesOf_4 (f : Int32 → Int32 → Mem → Option (Int32 × Mem)) (ls : List (Option Value)) (s : Mem) : Option (Int32 × Mem) := match lk ls 2, lk ls 3 with
  | some (.int a0), some (.int a1) => f a0 a1 s
  | _, _ => none
noncomputable def A_R_onesOf (av : List Value) (s : Mem) : Option (Int32 × Mem) := match av with
  | [.ref a0, .int a1] => cbr (Nat.beq a0 123) (F_R_onesOf a1 s) none
  | _ => none
noncomputable def C_R_onesOf (k : Nat) (av : List Value) (s : Mem) : Option (Int32 × Mem) := none
set_option maxRecDepth 100000 in
theorem e_R_onesOf_4  (n : Nat) (x2 : Int32) (x3 : Int32) (s : Mem) : F_R_onesOf_4 (n + 1) x2 x3 s = xs C_R_onesOf (fun k ls s => cbr (Nat.beq k 0) (A_R_onesOf_4 (F_R_onesOf_4 n) ls s) (none)) 0 (fun _ => 0) K_R_onesOf 700 (K_R_onesOf.drop 5) [none, none, some (.int x2), some (.int x3)] [] s := rfl
set_option maxRecDepth 100000 in
theorem e_R_onesOf (x1 : Int32) (s : Mem) : F_R_onesOf x1 s = xs C_R_onesOf (fun k ls s => cbr (Nat.beq k 0) (A_R_onesOf_4 (F_R_onesOf_4 gF) ls s) (none)) 0 (fun _ => 0) K_R_onesOf 700 K_R_onesOf [some (.ref 123), some (.int x1), none, none] [] s := rfl
def K_R_has : MC := [(0, .iload 1, 0), (1, .iload 2, 0), (2, .ishr, 0), (3, .lconst 1, 0), (4, .iand, 0), (5, .lconst 1, 0), (6, .if_icmp .ne 9, 0), (9, .lconst 1, 0), (10, .goto 10, 0), (13, .lconst 0, 0), (14, .lreturn, 0)]
noncomputable def F_R_has (x1 : Int32) (x2 : Int32) (s : Mem) : Option (Int32 × Mem) :=
  if ((shr x1 x2) &&& 1) = 1 then
    some (1, s)
  else
  some (0, s)
noncomputable def A_R_has (av : List Value) (s : Mem) : Option (Int32 × Mem) := match av with
  | [.ref a0, .int a1, .int a2] => cbr (Nat.beq a0 123) (F_R_has a1 a2 s) none
  | _ => none
noncomputable def C_R_has (k : Nat) (av : List Value) (s : Mem) : Option (Int32 × Mem) := none
set_option maxRecDepth 100000 in
theorem e_R_has (x1 : Int32) (x2 : Int32) (s : Mem) : F_R_has x1 x2 s = xs C_R_has (fun k ls s => none) 0 (fun _ => 0) K_R_has 700 K_R_has [some (.ref 123), some (.int x1), some (.int x2)] [] s := rfl
def K_R_keepsAhead : MC := [(0, .aload 0, 0), (1, .getfield 1103, 0), (4, .iconst 0, 6), (6, .if_icmp .ne 31, 0), (9, .aload 0, 0), (10, .aload 0, 0), (11, .getfield 1103, 0), (14, .lconst 1, 0), (15, .isub, 0), (16, .putfield 1103, 0), (19, .lconst 0, 0), (20, .istore 1, 0), (21, .ret 0, 0), (21, .iload 1, 0), (22, .iconst 0, 773), (25, .aload 0, 0), (26, .getfield 1103, 0), (29, .imul, 0), (30, .if_icmp .ge 31, 0), (33, .aload 0, 0), (34, .getstatic 1102, 0), (37, .iload 1, 0), (38, .aload 0, 0), (39, .getstatic 1102, 0), (42, .iload 1, 0), (43, .iconst 0, 773), (46, .iadd, 0), (47, .iaload, 0), (48, .iastore, 0), (49, .iinc 1 0, 1), (52, .goto 12, 0), (55, .lconst 0, 0), (56, .istore 1, 0), (57, .ret 1, 0), (57, .iload 1, 0), (58, .iconst 0, 773), (61, .if_icmp .ge 52, 0), (64, .aload 0, 0), (65, .getstatic 1102, 0), (68, .iconst 0, 773), (71, .aload 0, 0), (72, .getfield 1103, 0), (75, .imul, 0), (76, .iload 1, 0), (77, .iadd, 0), (78, .aload 0, 0), (79, .getstatic 1101, 0), (82, .iload 1, 0), (83, .iaload, 0), (84, .iastore, 0), (85, .iinc 1 0, 1), (88, .goto 33, 0), (91, .aload 0, 0), (92, .aload 0, 0), (93, .getfield 1103, 0), (96, .lconst 1, 0), (97, .iadd, 0), (98, .putfield 1103, 0), (101, .return_, 0)]
noncomputable def F_R_keepsAhead_32 : Nat → Int32 → Mem → Option (Int32 × Mem)
  | 0, _, _ => none
  | n + 1, x1, s =>
    if 773 ≤ x1 then
      let s1 : Mem := mw s 123 3 ((s 123 3) + 1)
      some (0, s1)
    else
    (ld s 124 x1).bind fun v2 =>
    (sd s 125 ((773 * (s 123 3)) + x1) v2).bind fun s3 =>
    F_R_keepsAhead_32 n (x1 + 1) s3
noncomputable def F_R_keepsAhead_12 : Nat → Int32 → Mem → Option (Int32 × Mem)
  | 0, _, _ => none
  | n + 1, x1, s =>
    if (773 * (s 123 3)) ≤ x1 then
      F_R_keepsAhead_32 gF 0 s
    else
    (ld s 125 (x1 + 773)).bind fun v1 =>
    (sd s 125 x1 v1).bind fun s2 =>
    F_R_keepsAhead_12 n (x1 + 1) s2
noncomputable def F_R_keepsAhead  (s : Mem) : Option (Int32 × Mem) :=
  if (s 123 3) = 6 then
    let s1 : Mem := mw s 123 3 ((s 123 3) - 1)
    F_R_keepsAhead_12 gF 0 s1
  else
  F_R_keepsAhead_32 gF 0 s
def A_R_keepsAhead_12 (f : Int32 → Mem → Option (Int32 × Mem)) (ls : List (Option Value)) (s : Mem) : Option (Int32 × Mem) := match lk ls 0, lk ls 1 with
  | some (.ref a0), some (.int a1) => cbr (Nat.beq a0 123) (f a1 s) none
  | _, _ => none
def A_R_keepsAhead_32 (f : Int32 → Mem → Option (Int32 × Mem)) (ls : List (Option Value)) (s : Mem) : Option (Int32 × Mem) := match lk ls 0, lk ls 1 with
  | some (.ref a0), some (.int a1) => cbr (Nat.beq a0 123) (f a1 s) none
  | _, _ => none
noncomputable def A_R_keepsAhead (av : List Value) (s : Mem) : Option (Int32 × Mem) := match av with
  | [.ref a0] => cbr (Nat.beq a0 123) (F_R_keepsAhead s) none
  | _ => none
noncomputable def C_R_keepsAhead (k : Nat) (av : List Value) (s : Mem) : Option (Int32 × Mem) := none
set_option maxRecDepth 100000 in
theorem e_R_keepsAhead_32  (n : Nat) (x1 : Int32) (s : Mem) : F_R_keepsAhead_32 (n + 1) x1 s = xs C_R_keepsAhead (fun k ls s => cbr (Nat.beq k 1) (A_R_keepsAhead_32 (F_R_keepsAhead_32 n) ls s) (none)) 0 (fun _ => 0) K_R_keepsAhead 700 (K_R_keepsAhead.drop 34) [some (.ref 123), some (.int x1)] [] s := rfl
set_option maxRecDepth 100000 in
theorem e_R_keepsAhead_12  (n : Nat) (x1 : Int32) (s : Mem) : F_R_keepsAhead_12 (n + 1) x1 s = xs C_R_keepsAhead (fun k ls s => cbr (Nat.beq k 0) (A_R_keepsAhead_12 (F_R_keepsAhead_12 n) ls s) (cbr (Nat.beq k 1) (A_R_keepsAhead_32 (F_R_keepsAhead_32 gF) ls s) (none))) 0 (fun _ => 0) K_R_keepsAhead 700 (K_R_keepsAhead.drop 13) [some (.ref 123), some (.int x1)] [] s := rfl
set_option maxRecDepth 100000 in
theorem e_R_keepsAhead  (s : Mem) : F_R_keepsAhead s = xs C_R_keepsAhead (fun k ls s => cbr (Nat.beq k 0) (A_R_keepsAhead_12 (F_R_keepsAhead_12 gF) ls s) (cbr (Nat.beq k 1) (A_R_keepsAhead_32 (F_R_keepsAhead_32 gF) ls s) (none))) 0 (fun _ => 0) K_R_keepsAhead 700 K_R_keepsAhead [some (.ref 123), none] [] s := rfl
def K_R_undo : MC := [(0, .aload 0, 0), (1, .lconst 0, 0), (2, .putfield 1100, 0), (5, .aload 0, 0), (6, .getfield 1103, 0), (9, .ifCond .ne 8, 0), (12, .lconst 0, 0), (13, .lreturn, 0), (14, .aload 0, 0), (15, .aload 0, 0), (16, .getfield 1103, 0), (19, .lconst 1, 0), (20, .isub, 0), (21, .putfield 1103, 0), (24, .lconst 0, 0), (25, .istore 1, 0), (26, .ret 0, 0), (26, .iload 1, 0), (27, .iconst 0, 773), (30, .if_icmp .ge 35, 0), (33, .aload 0, 0), (34, .getstatic 1101, 0), (37, .iload 1, 0), (38, .aload 0, 0), (39, .getstatic 1102, 0), (42, .iconst 0, 773), (45, .aload 0, 0), (46, .getfield 1103, 0), (49, .imul, 0), (50, .iload 1, 0), (51, .iadd, 0), (52, .iaload, 0), (53, .iastore, 0), (54, .iinc 1 0, 1), (57, .goto 16, 0), (60, .lconst 1, 0), (61, .lreturn, 0)]
noncomputable def F_R_undo_16 : Nat → Int32 → Mem → Option (Int32 × Mem)
  | 0, _, _ => none
  | n + 1, x1, s =>
    if 773 ≤ x1 then
      some (1, s)
    else
    (ld s 125 ((773 * (s 123 3)) + x1)).bind fun v1 =>
    (sd s 124 x1 v1).bind fun s2 =>
    F_R_undo_16 n (x1 + 1) s2
noncomputable def F_R_undo  (s : Mem) : Option (Int32 × Mem) :=
  let s1 : Mem := mw s 123 0 0
  if (s1 123 3) = 0 then
    some (0, s1)
  else
  let s2 : Mem := mw s1 123 3 ((s1 123 3) - 1)
  F_R_undo_16 gF 0 s2
def A_R_undo_16 (f : Int32 → Mem → Option (Int32 × Mem)) (ls : List (Option Value)) (s : Mem) : Option (Int32 × Mem) := match lk ls 0, lk ls 1 with
  | some (.ref a0), some (.int a1) => cbr (Nat.beq a0 123) (f a1 s) none
  | _, _ => none
noncomputable def A_R_undo (av : List Value) (s : Mem) : Option (Int32 × Mem) := match av with
  | [.ref a0] => cbr (Nat.beq a0 123) (F_R_undo s) none
  | _ => none
noncomputable def C_R_undo (k : Nat) (av : List Value) (s : Mem) : Option (Int32 × Mem) := none
set_option maxRecDepth 100000 in
theorem e_R_undo_16  (n : Nat) (x1 : Int32) (s : Mem) : F_R_undo_16 (n + 1) x1 s = xs C_R_undo (fun k ls s => cbr (Nat.beq k 0) (A_R_undo_16 (F_R_undo_16 n) ls s) (none)) 0 (fun _ => 0) K_R_undo 700 (K_R_undo.drop 17) [some (.ref 123), some (.int x1)] [] s := rfl
set_option maxRecDepth 100000 in
theorem e_R_undo  (s : Mem) : F_R_undo s = xs C_R_undo (fun k ls s => cbr (Nat.beq k 0) (A_R_undo_16 (F_R_undo_16 gF) ls s) (none)) 0 (fun _ => 0) K_R_undo 700 K_R_undo [some (.ref 123), none] [] s := rfl
def K_R_thinks : MC := [(0, .lconst 0, 0), (1, .istore 1, 0), (2, .ret 0, 0), (2, .iload 1, 0), (3, .iconst 0, 773), (6, .if_icmp .ge 16, 0), (9, .aload 0, 0), (10, .getstatic 1104, 0), (13, .iload 1, 0), (14, .aload 0, 0), (15, .getstatic 1101, 0), (18, .iload 1, 0), (19, .iaload, 0), (20, .iastore, 0), (21, .iinc 1 0, 1), (24, .goto 2, 0), (27, .aload 0, 0), (28, .lconst 1, 0), (29, .putstatic 1105, 0), (32, .return_, 0)]
noncomputable def F_R_thinks_2 : Nat → Int32 → Mem → Option (Int32 × Mem)
  | 0, _, _ => none
  | n + 1, x1, s =>
    if 773 ≤ x1 then
      let s1 : Mem := mw s 123 5 1
      some (0, s1)
    else
    (ld s 124 x1).bind fun v2 =>
    (sd s 126 x1 v2).bind fun s3 =>
    F_R_thinks_2 n (x1 + 1) s3
noncomputable def F_R_thinks  (s : Mem) : Option (Int32 × Mem) :=
  F_R_thinks_2 gF 0 s
def A_R_thinks_2 (f : Int32 → Mem → Option (Int32 × Mem)) (ls : List (Option Value)) (s : Mem) : Option (Int32 × Mem) := match lk ls 0, lk ls 1 with
  | some (.ref a0), some (.int a1) => cbr (Nat.beq a0 123) (f a1 s) none
  | _, _ => none
noncomputable def A_R_thinks (av : List Value) (s : Mem) : Option (Int32 × Mem) := match av with
  | [.ref a0] => cbr (Nat.beq a0 123) (F_R_thinks s) none
  | _ => none
noncomputable def C_R_thinks (k : Nat) (av : List Value) (s : Mem) : Option (Int32 × Mem) := none
set_option maxRecDepth 100000 in
theorem e_R_thinks_2  (n : Nat) (x1 : Int32) (s : Mem) : F_R_thinks_2 (n + 1) x1 s = xs C_R_thinks (fun k ls s => cbr (Nat.beq k 0) (A_R_thinks_2 (F_R_thinks_2 n) ls s) (none)) 0 (fun _ => 0) K_R_thinks 700 (K_R_thinks.drop 3) [some (.ref 123), some (.int x1)] [] s := rfl
set_option maxRecDepth 100000 in
theorem e_R_thinks  (s : Mem) : F_R_thinks s = xs C_R_thinks (fun k ls s => cbr (Nat.beq k 0) (A_R_thinks_2 (F_R_thinks_2 gF) ls s) (none)) 0 (fun _ => 0) K_R_thinks 700 K_R_thinks [some (.ref 123), none] [] s := rfl
def K_R_endsThought : MC := [(0, .lconst 0, 0), (1, .istore 1, 0), (2, .ret 0, 0), (2, .iload 1, 0), (3, .iconst 0, 773), (6, .if_icmp .ge 16, 0), (9, .aload 0, 0), (10, .getstatic 1101, 0), (13, .iload 1, 0), (14, .aload 0, 0), (15, .getstatic 1104, 0), (18, .iload 1, 0), (19, .iaload, 0), (20, .iastore, 0), (21, .iinc 1 0, 1), (24, .goto 2, 0), (27, .aload 0, 0), (28, .lconst 0, 0), (29, .putstatic 1105, 0), (32, .return_, 0)]
noncomputable def F_R_endsThought_2 : Nat → Int32 → Mem → Option (Int32 × Mem)
  | 0, _, _ => none
  | n + 1, x1, s =>
    if 773 ≤ x1 then
      let s1 : Mem := mw s 123 5 0
      some (0, s1)
    else
    (ld s 126 x1).bind fun v2 =>
    (sd s 124 x1 v2).bind fun s3 =>
    F_R_endsThought_2 n (x1 + 1) s3
noncomputable def F_R_endsThought  (s : Mem) : Option (Int32 × Mem) :=
  F_R_endsThought_2 gF 0 s
def A_R_endsThought_2 (f : Int32 → Mem → Option (Int32 × Mem)) (ls : List (Option Value)) (s : Mem) : Option (Int32 × Mem) := match lk ls 0, lk ls 1 with
  | some (.ref a0), some (.int a1) => cbr (Nat.beq a0 123) (f a1 s) none
  | _, _ => none
noncomputable def A_R_endsThought (av : List Value) (s : Mem) : Option (Int32 × Mem) := match av with
  | [.ref a0] => cbr (Nat.beq a0 123) (F_R_endsThought s) none
  | _ => none
noncomputable def C_R_endsThought (k : Nat) (av : List Value) (s : Mem) : Option (Int32 × Mem) := none
set_option maxRecDepth 100000 in
theorem e_R_endsThought_2  (n : Nat) (x1 : Int32) (s : Mem) : F_R_endsThought_2 (n + 1) x1 s = xs C_R_endsThought (fun k ls s => cbr (Nat.beq k 0) (A_R_endsThought_2 (F_R_endsThought_2 n) ls s) (none)) 0 (fun _ => 0) K_R_endsThought 700 (K_R_endsThought.drop 3) [some (.ref 123), some (.int x1)] [] s := rfl
set_option maxRecDepth 100000 in
theorem e_R_endsThought  (s : Mem) : F_R_endsThought s = xs C_R_endsThought (fun k ls s => cbr (Nat.beq k 0) (A_R_endsThought_2 (F_R_endsThought_2 gF) ls s) (none)) 0 (fun _ => 0) K_R_endsThought 700 K_R_endsThought [some (.ref 123), none] [] s := rfl
def K_R_state : MC := [(0, .aload 0, 0), (1, .lconst 0, 0), (2, .putfield 1100, 0), (5, .aload 0, 0), (6, .getstatic 1101, 0), (9, .lconst 1, 0), (10, .iaload, 0), (11, .istore 2, 0), (12, .aload 0, 0), (13, .getstatic 1101, 0), (16, .lconst 1, 0), (17, .iload 1, 0), (18, .iastore, 0), (19, .aload 0, 0), (20, .lconst 0, 0), (21, .putfield 1103, 0), (24, .iload 2, 0), (25, .ireturn, 0)]
noncomputable def F_R_state (x1 : Int32) (s : Mem) : Option (Int32 × Mem) :=
  let s1 : Mem := mw s 123 0 0
  (ld s1 124 1).bind fun v2 =>
  (sd s1 124 1 x1).bind fun s3 =>
  let s4 : Mem := mw s3 123 3 0
  some (v2, s4)
noncomputable def A_R_state (av : List Value) (s : Mem) : Option (Int32 × Mem) := match av with
  | [.ref a0, .int a1] => cbr (Nat.beq a0 123) (F_R_state a1 s) none
  | _ => none
noncomputable def C_R_state (k : Nat) (av : List Value) (s : Mem) : Option (Int32 × Mem) := none
set_option maxRecDepth 100000 in
theorem e_R_state (x1 : Int32) (s : Mem) : F_R_state x1 s = xs C_R_state (fun k ls s => none) 0 (fun _ => 0) K_R_state 700 K_R_state [some (.ref 123), some (.int x1), none] [] s := rfl
def K_R_draw : MC := [(0, .aload 0, 0), (1, .getstatic 1101, 0), (4, .lconst 1, 0), (5, .iconst 0, 1664525), (7, .aload 0, 0), (8, .getstatic 1101, 0), (11, .lconst 1, 0), (12, .iaload, 0), (13, .imul, 0), (14, .iconst 0, 1013904223), (16, .iadd, 0), (17, .iastore, 0), (18, .aload 0, 0), (19, .getstatic 1101, 0), (22, .lconst 1, 0), (23, .iaload, 0), (24, .iconst 0, 8), (26, .iushr, 0), (27, .iload 1, 0), (28, .irem, 0), (29, .ireturn, 0)]
noncomputable def F_R_draw (x1 : Int32) (s : Mem) : Option (Int32 × Mem) :=
  (ld s 124 1).bind fun v1 =>
  (sd s 124 1 ((1664525 * v1) + 1013904223)).bind fun s2 =>
  (ld s2 124 1).bind fun v3 =>
  if x1 = 0 then none else
  some ((irm (ush v3 8) x1), s2)
noncomputable def A_R_draw (av : List Value) (s : Mem) : Option (Int32 × Mem) := match av with
  | [.ref a0, .int a1] => cbr (Nat.beq a0 123) (F_R_draw a1 s) none
  | _ => none
noncomputable def C_R_draw (k : Nat) (av : List Value) (s : Mem) : Option (Int32 × Mem) := none
set_option maxRecDepth 100000 in
theorem e_R_draw (x1 : Int32) (s : Mem) : F_R_draw x1 s = xs C_R_draw (fun k ls s => none) 0 (fun _ => 0) K_R_draw 700 K_R_draw [some (.ref 123), some (.int x1)] [] s := rfl
def K_R_isFlight : MC := [(0, .iload 1, 0), (1, .ifCond .lt 8, 0), (4, .iload 1, 0), (5, .aload 0, 0), (6, .getfield 1106, 0), (9, .if_icmp .ge 8, 0), (12, .lconst 1, 0), (13, .goto 9, 0), (16, .lconst 0, 0), (17, .lreturn, 0)]
noncomputable def F_R_isFlight (x1 : Int32) (s : Mem) : Option (Int32 × Mem) :=
  if x1 < 0 then
    some (0, s)
  else
  if (s 123 6) ≤ x1 then
    some (0, s)
  else
  some (1, s)
noncomputable def A_R_isFlight (av : List Value) (s : Mem) : Option (Int32 × Mem) := match av with
  | [.ref a0, .int a1] => cbr (Nat.beq a0 123) (F_R_isFlight a1 s) none
  | _ => none
noncomputable def C_R_isFlight (k : Nat) (av : List Value) (s : Mem) : Option (Int32 × Mem) := none
set_option maxRecDepth 100000 in
theorem e_R_isFlight (x1 : Int32) (s : Mem) : F_R_isFlight x1 s = xs C_R_isFlight (fun k ls s => none) 0 (fun _ => 0) K_R_isFlight 700 K_R_isFlight [some (.ref 123), some (.int x1)] [] s := rfl
def K_R_isStep : MC := [(0, .aload 0, 0), (1, .iload 1, 0), (2, .invokeinterface 200 194, 0), (5, .ifCond .eq 17, 0), (8, .aload 0, 0), (9, .iload 2, 0), (10, .lconst 0, 0), (11, .aload 0, 0), (12, .getstatic 1107, 0), (15, .iload 1, 0), (16, .iaload, 0), (17, .lconst 1, 0), (18, .isub, 0), (19, .invokeinterface 187 196, 0), (22, .ifCond .eq 17, 0), (25, .lconst 1, 0), (26, .goto 18, 0), (29, .lconst 0, 0), (30, .lreturn, 0)]
noncomputable def F_R_isStep (x1 : Int32) (x2 : Int32) (s : Mem) : Option (Int32 × Mem) :=
  (F_R_isFlight x1 s).bind fun z1 =>
  if z1.1 = 0 then
    some (0, z1.2)
  else
  (ld z1.2 127 x1).bind fun v2 =>
  (F_R_isIn x2 0 (v2 - 1) z1.2).bind fun z3 =>
  if z3.1 = 0 then
    some (0, z3.2)
  else
  some (1, z3.2)
noncomputable def A_R_isStep (av : List Value) (s : Mem) : Option (Int32 × Mem) := match av with
  | [.ref a0, .int a1, .int a2] => cbr (Nat.beq a0 123) (F_R_isStep a1 a2 s) none
  | _ => none
noncomputable def C_R_isStep (k : Nat) (av : List Value) (s : Mem) : Option (Int32 × Mem) := cbr (Nat.beq k 200) (A_R_isFlight av s) (cbr (Nat.beq k 187) (A_R_isIn av s) (none))
set_option maxRecDepth 100000 in
theorem e_R_isStep (x1 : Int32) (x2 : Int32) (s : Mem) : F_R_isStep x1 x2 s = xs C_R_isStep (fun k ls s => none) 0 (fun _ => 0) K_R_isStep 700 K_R_isStep [some (.ref 123), some (.int x1), some (.int x2)] [] s := rfl
def K_R_isGone : MC := [(0, .aload 0, 0), (1, .getstatic 1101, 0), (4, .iconst 0, 293), (7, .iload 1, 0), (8, .iadd, 0), (9, .iaload, 0), (10, .iconst 0, 2), (11, .if_icmp .ne 10, 0), (14, .lconst 1, 0), (15, .goto 11, 0), (18, .lconst 0, 0), (19, .lreturn, 0)]
noncomputable def F_R_isGone (x1 : Int32) (s : Mem) : Option (Int32 × Mem) :=
  (ld s 124 (293 + x1)).bind fun v1 =>
  if v1 = 2 then
    some (1, s)
  else
  some (0, s)
noncomputable def A_R_isGone (av : List Value) (s : Mem) : Option (Int32 × Mem) := match av with
  | [.ref a0, .int a1] => cbr (Nat.beq a0 123) (F_R_isGone a1 s) none
  | _ => none
noncomputable def C_R_isGone (k : Nat) (av : List Value) (s : Mem) : Option (Int32 × Mem) := none
set_option maxRecDepth 100000 in
theorem e_R_isGone (x1 : Int32) (s : Mem) : F_R_isGone x1 s = xs C_R_isGone (fun k ls s => none) 0 (fun _ => 0) K_R_isGone 700 K_R_isGone [some (.ref 123), some (.int x1)] [] s := rfl
def K_R_flight : MC := [(0, .aload 0, 0), (1, .lconst 0, 0), (2, .putfield 1100, 0), (5, .aload 0, 0), (6, .iload 1, 0), (7, .lconst 1, 0), (8, .iconst 0, 16), (10, .invokeinterface 187 196, 0), (13, .ifCond .eq 19, 0), (16, .aload 0, 0), (17, .iload 2, 0), (18, .iconst 0, 5), (19, .iconst 0, 40), (21, .invokeinterface 187 196, 0), (24, .ifCond .eq 19, 0), (27, .aload 0, 0), (28, .getfield 1106, 0), (31, .iconst 0, 6), (33, .if_icmp .ne 21, 0), (36, .iconst 0, (-1)), (37, .ireturn, 0), (38, .aload 0, 0), (39, .getstatic 1107, 0), (42, .aload 0, 0), (43, .getfield 1106, 0), (46, .iload 1, 0), (47, .iastore, 0), (48, .lconst 0, 0), (49, .istore 3, 0), (50, .ret 0, 0), (50, .iload 3, 0), (51, .iconst 0, 16), (53, .if_icmp .ge 68, 0), (56, .aload 0, 0), (57, .getstatic 1108, 0), (60, .iconst 0, 16), (62, .aload 0, 0), (63, .getfield 1106, 0), (66, .imul, 0), (67, .iload 3, 0), (68, .iadd, 0), (69, .iload 2, 0), (70, .iastore, 0), (71, .iconst 0, 5), (72, .istore 4, 0), (74, .ret 1, 0), (74, .iload 4, 0), (76, .iconst 0, 773), (79, .if_icmp .ge 66, 0), (82, .aload 0, 0), (83, .getstatic 1101, 0), (86, .iload 4, 0), (88, .iconst 0, 16), (90, .aload 0, 0), (91, .getfield 1106, 0), (94, .imul, 0), (95, .iadd, 0), (96, .iload 3, 0), (97, .iadd, 0), (98, .lconst 0, 0), (99, .iastore, 0), (100, .iload 4, 0), (102, .iconst 0, 96), (104, .iadd, 0), (105, .istore 4, 0), (107, .goto 45, 0), (110, .iinc 3 0, 1), (113, .goto 29, 0), (116, .aload 0, 0), (117, .aload 0, 0), (118, .getfield 1106, 0), (121, .lconst 1, 0), (122, .iadd, 0), (123, .putfield 1106, 0), (126, .aload 0, 0), (127, .lconst 0, 0), (128, .putfield 1103, 0), (131, .aload 0, 0), (132, .getfield 1106, 0), (135, .lconst 1, 0), (136, .isub, 0), (137, .ireturn, 0)]
noncomputable def F_R_flight_44 (k29 : Int32 → Int32 → Mem → Option (Int32 × Mem)) : Nat → Int32 → Int32 → Int32 → Mem → Option (Int32 × Mem)
  | 0, _, _, _, _ => none
  | n + 1, x2, x3, x4, s =>
    if 773 ≤ x4 then
      k29 x2 (x3 + 1) s
    else
    (sd s 124 ((x4 + (16 * (s 123 6))) + x3) 0).bind fun s1 =>
    F_R_flight_44 k29 n x2 x3 (x4 + 96) s1
noncomputable def F_R_flight_29 : Nat → Int32 → Int32 → Mem → Option (Int32 × Mem)
  | 0, _, _, _ => none
  | n + 1, x2, x3, s =>
    if 16 ≤ x3 then
      let s1 : Mem := mw s 123 6 ((s 123 6) + 1)
      let s2 : Mem := mw s1 123 3 0
      some (((s2 123 6) - 1), s2)
    else
    (sd s 128 ((16 * (s 123 6)) + x3) x2).bind fun s3 =>
    F_R_flight_44 (F_R_flight_29 n) gF x2 x3 5 s3
noncomputable def F_R_flight (x1 : Int32) (x2 : Int32) (s : Mem) : Option (Int32 × Mem) :=
  let s1 : Mem := mw s 123 0 0
  (F_R_isIn x1 1 16 s1).bind fun z2 =>
  if z2.1 = 0 then
    some ((-1), z2.2)
  else
  (F_R_isIn x2 5 40 z2.2).bind fun z3 =>
  if z3.1 = 0 then
    some ((-1), z3.2)
  else
  if (z3.2 123 6) = 6 then
    some ((-1), z3.2)
  else
  (sd z3.2 127 (z3.2 123 6) x1).bind fun s4 =>
  F_R_flight_29 gF x2 0 s4
def A_R_flight_29 (f : Int32 → Int32 → Mem → Option (Int32 × Mem)) (ls : List (Option Value)) (s : Mem) : Option (Int32 × Mem) := match lk ls 0, lk ls 2, lk ls 3 with
  | some (.ref a0), some (.int a1), some (.int a2) => cbr (Nat.beq a0 123) (f a1 a2 s) none
  | _, _, _ => none
def A_R_flight_44 (f : Int32 → Int32 → Int32 → Mem → Option (Int32 × Mem)) (ls : List (Option Value)) (s : Mem) : Option (Int32 × Mem) := match lk ls 0, lk ls 2, lk ls 3, lk ls 4 with
  | some (.ref a0), some (.int a1), some (.int a2), some (.int a3) => cbr (Nat.beq a0 123) (f a1 a2 a3 s) none
  | _, _, _, _ => none
noncomputable def A_R_flight (av : List Value) (s : Mem) : Option (Int32 × Mem) := match av with
  | [.ref a0, .int a1, .int a2] => cbr (Nat.beq a0 123) (F_R_flight a1 a2 s) none
  | _ => none
noncomputable def C_R_flight (k : Nat) (av : List Value) (s : Mem) : Option (Int32 × Mem) := cbr (Nat.beq k 187) (A_R_isIn av s) (none)
set_option maxRecDepth 100000 in
theorem e_R_flight_44 (k29 : Int32 → Int32 → Mem → Option (Int32 × Mem)) (n : Nat) (x2 : Int32) (x3 : Int32) (x4 : Int32) (s : Mem) : F_R_flight_44 k29 (n + 1) x2 x3 x4 s = xs C_R_flight (fun k ls s => cbr (Nat.beq k 0) (A_R_flight_29 (k29) ls s) (cbr (Nat.beq k 1) (A_R_flight_44 (F_R_flight_44 k29 n) ls s) (none))) 0 (fun _ => 0) K_R_flight 700 (K_R_flight.drop 46) [some (.ref 123), none, some (.int x2), some (.int x3), some (.int x4)] [] s := rfl
set_option maxRecDepth 100000 in
theorem e_R_flight_29  (n : Nat) (x2 : Int32) (x3 : Int32) (s : Mem) : F_R_flight_29 (n + 1) x2 x3 s = xs C_R_flight (fun k ls s => cbr (Nat.beq k 1) (A_R_flight_44 (F_R_flight_44 (F_R_flight_29 n) gF) ls s) (none)) 0 (fun _ => 0) K_R_flight 700 (K_R_flight.drop 30) [some (.ref 123), none, some (.int x2), some (.int x3), none] [] s := rfl
set_option maxRecDepth 100000 in
theorem e_R_flight (x1 : Int32) (x2 : Int32) (s : Mem) : F_R_flight x1 x2 s = xs C_R_flight (fun k ls s => cbr (Nat.beq k 0) (A_R_flight_29 (F_R_flight_29 gF) ls s) (none)) 0 (fun _ => 0) K_R_flight 700 K_R_flight [some (.ref 123), some (.int x1), some (.int x2), none, none] [] s := rfl
def K_R_set : MC := [(0, .aload 0, 0), (1, .lconst 0, 0), (2, .putfield 1100, 0), (5, .aload 0, 0), (6, .iload 1, 0), (7, .lconst 0, 0), (8, .iconst 0, 3), (9, .invokeinterface 187 196, 0), (12, .ifCond .eq 33, 0), (15, .aload 0, 0), (16, .iload 2, 0), (17, .iload 3, 0), (18, .invokeinterface 201 195, 0), (21, .ifCond .eq 33, 0), (24, .aload 0, 0), (25, .iload 4, 0), (27, .iload 1, 0), (28, .ifCond .ne 20, 0), (31, .iconst 0, 5), (32, .goto 21, 0), (35, .lconst 0, 0), (36, .iload 1, 0), (37, .ifCond .ne 25, 0), (40, .iconst 0, 40), (42, .goto 31, 0), (45, .iload 1, 0), (46, .lconst 1, 0), (47, .if_icmp .ne 30, 0), (50, .iconst 0, 99), (52, .goto 31, 0), (55, .iconst 0, 9), (57, .invokeinterface 187 196, 0), (60, .ifCond .ne 35, 0), (63, .lconst 0, 0), (64, .lreturn, 0), (65, .iconst 0, 16), (67, .iload 2, 0), (68, .imul, 0), (69, .iload 3, 0), (70, .iadd, 0), (71, .istore 5, 0), (73, .iload 1, 0), (74, .ifCond .ne 48, 0), (77, .aload 0, 0), (78, .getstatic 1108, 0), (81, .iload 5, 0), (83, .iload 4, 0), (85, .iastore, 0), (86, .iload 1, 0), (87, .lconst 1, 0), (88, .if_icmp .ne 58, 0), (91, .aload 0, 0), (92, .getstatic 1101, 0), (95, .iconst 0, 5), (96, .iload 5, 0), (98, .iadd, 0), (99, .iload 4, 0), (101, .iastore, 0), (102, .iload 1, 0), (103, .iconst 0, 2), (104, .if_icmp .ne 68, 0), (107, .aload 0, 0), (108, .getstatic 1101, 0), (111, .iconst 0, 101), (113, .iload 5, 0), (115, .iadd, 0), (116, .iload 4, 0), (118, .iastore, 0), (119, .iload 1, 0), (120, .iconst 0, 3), (121, .if_icmp .ne 78, 0), (124, .aload 0, 0), (125, .getstatic 1101, 0), (128, .iconst 0, 197), (131, .iload 5, 0), (133, .iadd, 0), (134, .iload 4, 0), (136, .iastore, 0), (137, .aload 0, 0), (138, .lconst 0, 0), (139, .putfield 1103, 0), (142, .lconst 1, 0), (143, .lreturn, 0)]
noncomputable def F_R_set (x1 : Int32) (x2 : Int32) (x3 : Int32) (x4 : Int32) (s : Mem) : Option (Int32 × Mem) :=
  let s1 : Mem := mw s 123 0 0
  (F_R_isIn x1 0 3 s1).bind fun z2 =>
  if z2.1 = 0 then
    some (0, z2.2)
  else
  (F_R_isStep x2 x3 z2.2).bind fun z3 =>
  if z3.1 = 0 then
    some (0, z3.2)
  else
  if x1 = 0 then
    if x1 = 0 then
      (F_R_isIn x4 5 40 z3.2).bind fun z4 =>
      if z4.1 = 0 then
        some (0, z4.2)
      else
      if x1 = 0 then
        (sd z4.2 128 ((16 * x2) + x3) x4).bind fun s5 =>
        if x1 = 1 then
          (sd s5 124 (5 + ((16 * x2) + x3)) x4).bind fun s6 =>
          if x1 = 2 then
            (sd s6 124 (101 + ((16 * x2) + x3)) x4).bind fun s7 =>
            if x1 = 3 then
              (sd s7 124 (197 + ((16 * x2) + x3)) x4).bind fun s8 =>
              let s9 : Mem := mw s8 123 3 0
              some (1, s9)
            else
            let s10 : Mem := mw s7 123 3 0
            some (1, s10)
          else
          if x1 = 3 then
            (sd s6 124 (197 + ((16 * x2) + x3)) x4).bind fun s11 =>
            let s12 : Mem := mw s11 123 3 0
            some (1, s12)
          else
          let s13 : Mem := mw s6 123 3 0
          some (1, s13)
        else
        if x1 = 2 then
          (sd s5 124 (101 + ((16 * x2) + x3)) x4).bind fun s14 =>
          if x1 = 3 then
            (sd s14 124 (197 + ((16 * x2) + x3)) x4).bind fun s15 =>
            let s16 : Mem := mw s15 123 3 0
            some (1, s16)
          else
          let s17 : Mem := mw s14 123 3 0
          some (1, s17)
        else
        if x1 = 3 then
          (sd s5 124 (197 + ((16 * x2) + x3)) x4).bind fun s18 =>
          let s19 : Mem := mw s18 123 3 0
          some (1, s19)
        else
        let s20 : Mem := mw s5 123 3 0
        some (1, s20)
      else
      if x1 = 1 then
        (sd z4.2 124 (5 + ((16 * x2) + x3)) x4).bind fun s21 =>
        if x1 = 2 then
          (sd s21 124 (101 + ((16 * x2) + x3)) x4).bind fun s22 =>
          if x1 = 3 then
            (sd s22 124 (197 + ((16 * x2) + x3)) x4).bind fun s23 =>
            let s24 : Mem := mw s23 123 3 0
            some (1, s24)
          else
          let s25 : Mem := mw s22 123 3 0
          some (1, s25)
        else
        if x1 = 3 then
          (sd s21 124 (197 + ((16 * x2) + x3)) x4).bind fun s26 =>
          let s27 : Mem := mw s26 123 3 0
          some (1, s27)
        else
        let s28 : Mem := mw s21 123 3 0
        some (1, s28)
      else
      if x1 = 2 then
        (sd z4.2 124 (101 + ((16 * x2) + x3)) x4).bind fun s29 =>
        if x1 = 3 then
          (sd s29 124 (197 + ((16 * x2) + x3)) x4).bind fun s30 =>
          let s31 : Mem := mw s30 123 3 0
          some (1, s31)
        else
        let s32 : Mem := mw s29 123 3 0
        some (1, s32)
      else
      if x1 = 3 then
        (sd z4.2 124 (197 + ((16 * x2) + x3)) x4).bind fun s33 =>
        let s34 : Mem := mw s33 123 3 0
        some (1, s34)
      else
      let s35 : Mem := mw z4.2 123 3 0
      some (1, s35)
    else
    if x1 = 1 then
      (F_R_isIn x4 5 99 z3.2).bind fun z36 =>
      if z36.1 = 0 then
        some (0, z36.2)
      else
      if x1 = 0 then
        (sd z36.2 128 ((16 * x2) + x3) x4).bind fun s37 =>
        if x1 = 1 then
          (sd s37 124 (5 + ((16 * x2) + x3)) x4).bind fun s38 =>
          if x1 = 2 then
            (sd s38 124 (101 + ((16 * x2) + x3)) x4).bind fun s39 =>
            if x1 = 3 then
              (sd s39 124 (197 + ((16 * x2) + x3)) x4).bind fun s40 =>
              let s41 : Mem := mw s40 123 3 0
              some (1, s41)
            else
            let s42 : Mem := mw s39 123 3 0
            some (1, s42)
          else
          if x1 = 3 then
            (sd s38 124 (197 + ((16 * x2) + x3)) x4).bind fun s43 =>
            let s44 : Mem := mw s43 123 3 0
            some (1, s44)
          else
          let s45 : Mem := mw s38 123 3 0
          some (1, s45)
        else
        if x1 = 2 then
          (sd s37 124 (101 + ((16 * x2) + x3)) x4).bind fun s46 =>
          if x1 = 3 then
            (sd s46 124 (197 + ((16 * x2) + x3)) x4).bind fun s47 =>
            let s48 : Mem := mw s47 123 3 0
            some (1, s48)
          else
          let s49 : Mem := mw s46 123 3 0
          some (1, s49)
        else
        if x1 = 3 then
          (sd s37 124 (197 + ((16 * x2) + x3)) x4).bind fun s50 =>
          let s51 : Mem := mw s50 123 3 0
          some (1, s51)
        else
        let s52 : Mem := mw s37 123 3 0
        some (1, s52)
      else
      if x1 = 1 then
        (sd z36.2 124 (5 + ((16 * x2) + x3)) x4).bind fun s53 =>
        if x1 = 2 then
          (sd s53 124 (101 + ((16 * x2) + x3)) x4).bind fun s54 =>
          if x1 = 3 then
            (sd s54 124 (197 + ((16 * x2) + x3)) x4).bind fun s55 =>
            let s56 : Mem := mw s55 123 3 0
            some (1, s56)
          else
          let s57 : Mem := mw s54 123 3 0
          some (1, s57)
        else
        if x1 = 3 then
          (sd s53 124 (197 + ((16 * x2) + x3)) x4).bind fun s58 =>
          let s59 : Mem := mw s58 123 3 0
          some (1, s59)
        else
        let s60 : Mem := mw s53 123 3 0
        some (1, s60)
      else
      if x1 = 2 then
        (sd z36.2 124 (101 + ((16 * x2) + x3)) x4).bind fun s61 =>
        if x1 = 3 then
          (sd s61 124 (197 + ((16 * x2) + x3)) x4).bind fun s62 =>
          let s63 : Mem := mw s62 123 3 0
          some (1, s63)
        else
        let s64 : Mem := mw s61 123 3 0
        some (1, s64)
      else
      if x1 = 3 then
        (sd z36.2 124 (197 + ((16 * x2) + x3)) x4).bind fun s65 =>
        let s66 : Mem := mw s65 123 3 0
        some (1, s66)
      else
      let s67 : Mem := mw z36.2 123 3 0
      some (1, s67)
    else
    (F_R_isIn x4 5 9 z3.2).bind fun z68 =>
    if z68.1 = 0 then
      some (0, z68.2)
    else
    if x1 = 0 then
      (sd z68.2 128 ((16 * x2) + x3) x4).bind fun s69 =>
      if x1 = 1 then
        (sd s69 124 (5 + ((16 * x2) + x3)) x4).bind fun s70 =>
        if x1 = 2 then
          (sd s70 124 (101 + ((16 * x2) + x3)) x4).bind fun s71 =>
          if x1 = 3 then
            (sd s71 124 (197 + ((16 * x2) + x3)) x4).bind fun s72 =>
            let s73 : Mem := mw s72 123 3 0
            some (1, s73)
          else
          let s74 : Mem := mw s71 123 3 0
          some (1, s74)
        else
        if x1 = 3 then
          (sd s70 124 (197 + ((16 * x2) + x3)) x4).bind fun s75 =>
          let s76 : Mem := mw s75 123 3 0
          some (1, s76)
        else
        let s77 : Mem := mw s70 123 3 0
        some (1, s77)
      else
      if x1 = 2 then
        (sd s69 124 (101 + ((16 * x2) + x3)) x4).bind fun s78 =>
        if x1 = 3 then
          (sd s78 124 (197 + ((16 * x2) + x3)) x4).bind fun s79 =>
          let s80 : Mem := mw s79 123 3 0
          some (1, s80)
        else
        let s81 : Mem := mw s78 123 3 0
        some (1, s81)
      else
      if x1 = 3 then
        (sd s69 124 (197 + ((16 * x2) + x3)) x4).bind fun s82 =>
        let s83 : Mem := mw s82 123 3 0
        some (1, s83)
      else
      let s84 : Mem := mw s69 123 3 0
      some (1, s84)
    else
    if x1 = 1 then
      (sd z68.2 124 (5 + ((16 * x2) + x3)) x4).bind fun s85 =>
      if x1 = 2 then
        (sd s85 124 (101 + ((16 * x2) + x3)) x4).bind fun s86 =>
        if x1 = 3 then
          (sd s86 124 (197 + ((16 * x2) + x3)) x4).bind fun s87 =>
          let s88 : Mem := mw s87 123 3 0
          some (1, s88)
        else
        let s89 : Mem := mw s86 123 3 0
        some (1, s89)
      else
      if x1 = 3 then
        (sd s85 124 (197 + ((16 * x2) + x3)) x4).bind fun s90 =>
        let s91 : Mem := mw s90 123 3 0
        some (1, s91)
      else
      let s92 : Mem := mw s85 123 3 0
      some (1, s92)
    else
    if x1 = 2 then
      (sd z68.2 124 (101 + ((16 * x2) + x3)) x4).bind fun s93 =>
      if x1 = 3 then
        (sd s93 124 (197 + ((16 * x2) + x3)) x4).bind fun s94 =>
        let s95 : Mem := mw s94 123 3 0
        some (1, s95)
      else
      let s96 : Mem := mw s93 123 3 0
      some (1, s96)
    else
    if x1 = 3 then
      (sd z68.2 124 (197 + ((16 * x2) + x3)) x4).bind fun s97 =>
      let s98 : Mem := mw s97 123 3 0
      some (1, s98)
    else
    let s99 : Mem := mw z68.2 123 3 0
    some (1, s99)
  else
  if x1 = 0 then
    (F_R_isIn x4 0 40 z3.2).bind fun z100 =>
    if z100.1 = 0 then
      some (0, z100.2)
    else
    if x1 = 0 then
      (sd z100.2 128 ((16 * x2) + x3) x4).bind fun s101 =>
      if x1 = 1 then
        (sd s101 124 (5 + ((16 * x2) + x3)) x4).bind fun s102 =>
        if x1 = 2 then
          (sd s102 124 (101 + ((16 * x2) + x3)) x4).bind fun s103 =>
          if x1 = 3 then
            (sd s103 124 (197 + ((16 * x2) + x3)) x4).bind fun s104 =>
            let s105 : Mem := mw s104 123 3 0
            some (1, s105)
          else
          let s106 : Mem := mw s103 123 3 0
          some (1, s106)
        else
        if x1 = 3 then
          (sd s102 124 (197 + ((16 * x2) + x3)) x4).bind fun s107 =>
          let s108 : Mem := mw s107 123 3 0
          some (1, s108)
        else
        let s109 : Mem := mw s102 123 3 0
        some (1, s109)
      else
      if x1 = 2 then
        (sd s101 124 (101 + ((16 * x2) + x3)) x4).bind fun s110 =>
        if x1 = 3 then
          (sd s110 124 (197 + ((16 * x2) + x3)) x4).bind fun s111 =>
          let s112 : Mem := mw s111 123 3 0
          some (1, s112)
        else
        let s113 : Mem := mw s110 123 3 0
        some (1, s113)
      else
      if x1 = 3 then
        (sd s101 124 (197 + ((16 * x2) + x3)) x4).bind fun s114 =>
        let s115 : Mem := mw s114 123 3 0
        some (1, s115)
      else
      let s116 : Mem := mw s101 123 3 0
      some (1, s116)
    else
    if x1 = 1 then
      (sd z100.2 124 (5 + ((16 * x2) + x3)) x4).bind fun s117 =>
      if x1 = 2 then
        (sd s117 124 (101 + ((16 * x2) + x3)) x4).bind fun s118 =>
        if x1 = 3 then
          (sd s118 124 (197 + ((16 * x2) + x3)) x4).bind fun s119 =>
          let s120 : Mem := mw s119 123 3 0
          some (1, s120)
        else
        let s121 : Mem := mw s118 123 3 0
        some (1, s121)
      else
      if x1 = 3 then
        (sd s117 124 (197 + ((16 * x2) + x3)) x4).bind fun s122 =>
        let s123 : Mem := mw s122 123 3 0
        some (1, s123)
      else
      let s124 : Mem := mw s117 123 3 0
      some (1, s124)
    else
    if x1 = 2 then
      (sd z100.2 124 (101 + ((16 * x2) + x3)) x4).bind fun s125 =>
      if x1 = 3 then
        (sd s125 124 (197 + ((16 * x2) + x3)) x4).bind fun s126 =>
        let s127 : Mem := mw s126 123 3 0
        some (1, s127)
      else
      let s128 : Mem := mw s125 123 3 0
      some (1, s128)
    else
    if x1 = 3 then
      (sd z100.2 124 (197 + ((16 * x2) + x3)) x4).bind fun s129 =>
      let s130 : Mem := mw s129 123 3 0
      some (1, s130)
    else
    let s131 : Mem := mw z100.2 123 3 0
    some (1, s131)
  else
  if x1 = 1 then
    (F_R_isIn x4 0 99 z3.2).bind fun z132 =>
    if z132.1 = 0 then
      some (0, z132.2)
    else
    if x1 = 0 then
      (sd z132.2 128 ((16 * x2) + x3) x4).bind fun s133 =>
      if x1 = 1 then
        (sd s133 124 (5 + ((16 * x2) + x3)) x4).bind fun s134 =>
        if x1 = 2 then
          (sd s134 124 (101 + ((16 * x2) + x3)) x4).bind fun s135 =>
          if x1 = 3 then
            (sd s135 124 (197 + ((16 * x2) + x3)) x4).bind fun s136 =>
            let s137 : Mem := mw s136 123 3 0
            some (1, s137)
          else
          let s138 : Mem := mw s135 123 3 0
          some (1, s138)
        else
        if x1 = 3 then
          (sd s134 124 (197 + ((16 * x2) + x3)) x4).bind fun s139 =>
          let s140 : Mem := mw s139 123 3 0
          some (1, s140)
        else
        let s141 : Mem := mw s134 123 3 0
        some (1, s141)
      else
      if x1 = 2 then
        (sd s133 124 (101 + ((16 * x2) + x3)) x4).bind fun s142 =>
        if x1 = 3 then
          (sd s142 124 (197 + ((16 * x2) + x3)) x4).bind fun s143 =>
          let s144 : Mem := mw s143 123 3 0
          some (1, s144)
        else
        let s145 : Mem := mw s142 123 3 0
        some (1, s145)
      else
      if x1 = 3 then
        (sd s133 124 (197 + ((16 * x2) + x3)) x4).bind fun s146 =>
        let s147 : Mem := mw s146 123 3 0
        some (1, s147)
      else
      let s148 : Mem := mw s133 123 3 0
      some (1, s148)
    else
    if x1 = 1 then
      (sd z132.2 124 (5 + ((16 * x2) + x3)) x4).bind fun s149 =>
      if x1 = 2 then
        (sd s149 124 (101 + ((16 * x2) + x3)) x4).bind fun s150 =>
        if x1 = 3 then
          (sd s150 124 (197 + ((16 * x2) + x3)) x4).bind fun s151 =>
          let s152 : Mem := mw s151 123 3 0
          some (1, s152)
        else
        let s153 : Mem := mw s150 123 3 0
        some (1, s153)
      else
      if x1 = 3 then
        (sd s149 124 (197 + ((16 * x2) + x3)) x4).bind fun s154 =>
        let s155 : Mem := mw s154 123 3 0
        some (1, s155)
      else
      let s156 : Mem := mw s149 123 3 0
      some (1, s156)
    else
    if x1 = 2 then
      (sd z132.2 124 (101 + ((16 * x2) + x3)) x4).bind fun s157 =>
      if x1 = 3 then
        (sd s157 124 (197 + ((16 * x2) + x3)) x4).bind fun s158 =>
        let s159 : Mem := mw s158 123 3 0
        some (1, s159)
      else
      let s160 : Mem := mw s157 123 3 0
      some (1, s160)
    else
    if x1 = 3 then
      (sd z132.2 124 (197 + ((16 * x2) + x3)) x4).bind fun s161 =>
      let s162 : Mem := mw s161 123 3 0
      some (1, s162)
    else
    let s163 : Mem := mw z132.2 123 3 0
    some (1, s163)
  else
  (F_R_isIn x4 0 9 z3.2).bind fun z164 =>
  if z164.1 = 0 then
    some (0, z164.2)
  else
  if x1 = 0 then
    (sd z164.2 128 ((16 * x2) + x3) x4).bind fun s165 =>
    if x1 = 1 then
      (sd s165 124 (5 + ((16 * x2) + x3)) x4).bind fun s166 =>
      if x1 = 2 then
        (sd s166 124 (101 + ((16 * x2) + x3)) x4).bind fun s167 =>
        if x1 = 3 then
          (sd s167 124 (197 + ((16 * x2) + x3)) x4).bind fun s168 =>
          let s169 : Mem := mw s168 123 3 0
          some (1, s169)
        else
        let s170 : Mem := mw s167 123 3 0
        some (1, s170)
      else
      if x1 = 3 then
        (sd s166 124 (197 + ((16 * x2) + x3)) x4).bind fun s171 =>
        let s172 : Mem := mw s171 123 3 0
        some (1, s172)
      else
      let s173 : Mem := mw s166 123 3 0
      some (1, s173)
    else
    if x1 = 2 then
      (sd s165 124 (101 + ((16 * x2) + x3)) x4).bind fun s174 =>
      if x1 = 3 then
        (sd s174 124 (197 + ((16 * x2) + x3)) x4).bind fun s175 =>
        let s176 : Mem := mw s175 123 3 0
        some (1, s176)
      else
      let s177 : Mem := mw s174 123 3 0
      some (1, s177)
    else
    if x1 = 3 then
      (sd s165 124 (197 + ((16 * x2) + x3)) x4).bind fun s178 =>
      let s179 : Mem := mw s178 123 3 0
      some (1, s179)
    else
    let s180 : Mem := mw s165 123 3 0
    some (1, s180)
  else
  if x1 = 1 then
    (sd z164.2 124 (5 + ((16 * x2) + x3)) x4).bind fun s181 =>
    if x1 = 2 then
      (sd s181 124 (101 + ((16 * x2) + x3)) x4).bind fun s182 =>
      if x1 = 3 then
        (sd s182 124 (197 + ((16 * x2) + x3)) x4).bind fun s183 =>
        let s184 : Mem := mw s183 123 3 0
        some (1, s184)
      else
      let s185 : Mem := mw s182 123 3 0
      some (1, s185)
    else
    if x1 = 3 then
      (sd s181 124 (197 + ((16 * x2) + x3)) x4).bind fun s186 =>
      let s187 : Mem := mw s186 123 3 0
      some (1, s187)
    else
    let s188 : Mem := mw s181 123 3 0
    some (1, s188)
  else
  if x1 = 2 then
    (sd z164.2 124 (101 + ((16 * x2) + x3)) x4).bind fun s189 =>
    if x1 = 3 then
      (sd s189 124 (197 + ((16 * x2) + x3)) x4).bind fun s190 =>
      let s191 : Mem := mw s190 123 3 0
      some (1, s191)
    else
    let s192 : Mem := mw s189 123 3 0
    some (1, s192)
  else
  if x1 = 3 then
    (sd z164.2 124 (197 + ((16 * x2) + x3)) x4).bind fun s193 =>
    let s194 : Mem := mw s193 123 3 0
    some (1, s194)
  else
  let s195 : Mem := mw z164.2 123 3 0
  some (1, s195)
noncomputable def A_R_set (av : List Value) (s : Mem) : Option (Int32 × Mem) := match av with
  | [.ref a0, .int a1, .int a2, .int a3, .int a4] => cbr (Nat.beq a0 123) (F_R_set a1 a2 a3 a4 s) none
  | _ => none
noncomputable def C_R_set (k : Nat) (av : List Value) (s : Mem) : Option (Int32 × Mem) := cbr (Nat.beq k 187) (A_R_isIn av s) (cbr (Nat.beq k 201) (A_R_isStep av s) (none))
set_option maxRecDepth 100000 in
theorem e_R_set (x1 : Int32) (x2 : Int32) (x3 : Int32) (x4 : Int32) (s : Mem) : F_R_set x1 x2 x3 x4 s = xs C_R_set (fun k ls s => none) 0 (fun _ => 0) K_R_set 700 K_R_set [some (.ref 123), some (.int x1), some (.int x2), some (.int x3), some (.int x4), none] [] s := rfl
def K_R_types : MC := [(0, .iconst 0, 24), (2, .istore 2, 0), (3, .ret 0, 0), (3, .iload 2, 0), (4, .ifCond .lt 23, 0), (7, .aload 0, 0), (8, .getstatic 1110, 0), (11, .aload 0, 0), (12, .getfield 1111, 0), (15, .iload 1, 0), (16, .iload 2, 0), (17, .ishr, 0), (18, .iconst 0, 255), (21, .iand, 0), (22, .iastore, 0), (23, .aload 0, 0), (24, .aload 0, 0), (25, .getfield 1111, 0), (28, .lconst 1, 0), (29, .iadd, 0), (30, .putfield 1111, 0), (33, .iinc 2 0, (-8)), (36, .goto 2, 0), (39, .return_, 0)]
noncomputable def F_R_types_2 : Nat → Int32 → Int32 → Mem → Option (Int32 × Mem)
  | 0, _, _, _ => none
  | n + 1, x1, x2, s =>
    if x2 < 0 then
      some (0, s)
    else
    (sd s 130 (s 123 11) ((shr x1 x2) &&& 255)).bind fun s1 =>
    let s2 : Mem := mw s1 123 11 ((s1 123 11) + 1)
    F_R_types_2 n x1 (x2 + (-8)) s2
noncomputable def F_R_types (x1 : Int32) (s : Mem) : Option (Int32 × Mem) :=
  F_R_types_2 gF x1 24 s
def A_R_types_2 (f : Int32 → Int32 → Mem → Option (Int32 × Mem)) (ls : List (Option Value)) (s : Mem) : Option (Int32 × Mem) := match lk ls 0, lk ls 1, lk ls 2 with
  | some (.ref a0), some (.int a1), some (.int a2) => cbr (Nat.beq a0 123) (f a1 a2 s) none
  | _, _, _ => none
noncomputable def A_R_types (av : List Value) (s : Mem) : Option (Int32 × Mem) := match av with
  | [.ref a0, .int a1] => cbr (Nat.beq a0 123) (F_R_types a1 s) none
  | _ => none
noncomputable def C_R_types (k : Nat) (av : List Value) (s : Mem) : Option (Int32 × Mem) := none
set_option maxRecDepth 100000 in
theorem e_R_types_2  (n : Nat) (x1 : Int32) (x2 : Int32) (s : Mem) : F_R_types_2 (n + 1) x1 x2 s = xs C_R_types (fun k ls s => cbr (Nat.beq k 0) (A_R_types_2 (F_R_types_2 n) ls s) (none)) 0 (fun _ => 0) K_R_types 700 (K_R_types.drop 3) [some (.ref 123), some (.int x1), some (.int x2)] [] s := rfl
set_option maxRecDepth 100000 in
theorem e_R_types (x1 : Int32) (s : Mem) : F_R_types x1 s = xs C_R_types (fun k ls s => cbr (Nat.beq k 0) (A_R_types_2 (F_R_types_2 gF) ls s) (none)) 0 (fun _ => 0) K_R_types 700 K_R_types [some (.ref 123), some (.int x1), none] [] s := rfl
def K_R_feed : MC := [(0, .aload 0, 0), (1, .lconst 0, 0), (2, .putfield 1100, 0), (5, .aload 0, 0), (6, .getfield 1111, 0), (9, .iconst 0, 380), (12, .if_icmp .le 9, 0), (15, .iconst 0, (-1)), (16, .ireturn, 0), (17, .aload 0, 0), (18, .iload 1, 0), (19, .multianewarray 205 194, 0), (22, .aload 0, 0), (23, .iload 2, 0), (24, .multianewarray 205 194, 0), (27, .aload 0, 0), (28, .iload 3, 0), (29, .multianewarray 205 194, 0), (32, .aload 0, 0), (33, .iload 4, 0), (35, .multianewarray 205 194, 0), (38, .aload 0, 0), (39, .iload 5, 0), (41, .multianewarray 205 194, 0), (44, .aload 0, 0), (45, .getfield 1111, 0), (48, .ireturn, 0)]
noncomputable def F_R_feed (x1 : Int32) (x2 : Int32) (x3 : Int32) (x4 : Int32) (x5 : Int32) (s : Mem) : Option (Int32 × Mem) :=
  let s1 : Mem := mw s 123 0 0
  if (s1 123 11) ≤ 380 then
    (F_R_types x1 s1).bind fun z2 =>
    (F_R_types x2 z2.2).bind fun z3 =>
    (F_R_types x3 z3.2).bind fun z4 =>
    (F_R_types x4 z4.2).bind fun z5 =>
    (F_R_types x5 z5.2).bind fun z6 =>
    some ((z6.2 123 11), z6.2)
  else
  some ((-1), s1)
noncomputable def A_R_feed (av : List Value) (s : Mem) : Option (Int32 × Mem) := match av with
  | [.ref a0, .int a1, .int a2, .int a3, .int a4, .int a5] => cbr (Nat.beq a0 123) (F_R_feed a1 a2 a3 a4 a5 s) none
  | _ => none
noncomputable def C_R_feed (k : Nat) (av : List Value) (s : Mem) : Option (Int32 × Mem) := cbr (Nat.beq k 205) (A_R_types av s) (none)
set_option maxRecDepth 100000 in
theorem e_R_feed (x1 : Int32) (x2 : Int32) (x3 : Int32) (x4 : Int32) (x5 : Int32) (s : Mem) : F_R_feed x1 x2 x3 x4 x5 s = xs C_R_feed (fun k ls s => none) 0 (fun _ => 0) K_R_feed 700 K_R_feed [some (.ref 123), some (.int x1), some (.int x2), some (.int x3), some (.int x4), some (.int x5)] [] s := rfl
def K_R_end : MC := [(0, .aload 0, 0), (1, .lconst 0, 0), (2, .putfield 1100, 0), (5, .aload 0, 0), (6, .iload 1, 0), (7, .lconst 0, 0), (8, .aload 0, 0), (9, .getfield 1111, 0), (12, .invokeinterface 187 196, 0), (15, .ifCond .ne 12, 0), (18, .lconst 0, 0), (19, .lreturn, 0), (20, .aload 0, 0), (21, .iload 1, 0), (22, .putfield 1111, 0), (25, .lconst 1, 0), (26, .lreturn, 0)]
noncomputable def F_R_end (x1 : Int32) (s : Mem) : Option (Int32 × Mem) :=
  let s1 : Mem := mw s 123 0 0
  (F_R_isIn x1 0 (s1 123 11) s1).bind fun z2 =>
  if z2.1 = 0 then
    some (0, z2.2)
  else
  let s3 : Mem := mw z2.2 123 11 x1
  some (1, s3)
noncomputable def A_R_end (av : List Value) (s : Mem) : Option (Int32 × Mem) := match av with
  | [.ref a0, .int a1] => cbr (Nat.beq a0 123) (F_R_end a1 s) none
  | _ => none
noncomputable def C_R_end (k : Nat) (av : List Value) (s : Mem) : Option (Int32 × Mem) := cbr (Nat.beq k 187) (A_R_isIn av s) (none)
set_option maxRecDepth 100000 in
theorem e_R_end (x1 : Int32) (s : Mem) : F_R_end x1 s = xs C_R_end (fun k ls s => none) 0 (fun _ => 0) K_R_end 700 K_R_end [some (.ref 123), some (.int x1)] [] s := rfl
def K_R_raw : MC := [(0, .iload 1, 0), (1, .aload 0, 0), (2, .getfield 1111, 0), (5, .if_icmp .ge 9, 0), (8, .aload 0, 0), (9, .getstatic 1110, 0), (12, .iload 1, 0), (13, .iaload, 0), (14, .goto 10, 0), (17, .iconst 0, (-1)), (18, .ireturn, 0)]
noncomputable def F_R_raw (x1 : Int32) (s : Mem) : Option (Int32 × Mem) :=
  if (s 123 11) ≤ x1 then
    some ((-1), s)
  else
  (ld s 130 x1).bind fun v1 =>
  some (v1, s)
noncomputable def A_R_raw (av : List Value) (s : Mem) : Option (Int32 × Mem) := match av with
  | [.ref a0, .int a1] => cbr (Nat.beq a0 123) (F_R_raw a1 s) none
  | _ => none
noncomputable def C_R_raw (k : Nat) (av : List Value) (s : Mem) : Option (Int32 × Mem) := none
set_option maxRecDepth 100000 in
theorem e_R_raw (x1 : Int32) (s : Mem) : F_R_raw x1 s = xs C_R_raw (fun k ls s => none) 0 (fun _ => 0) K_R_raw 700 K_R_raw [some (.ref 123), some (.int x1)] [] s := rfl
def K_R_isLetter : MC := [(0, .aload 0, 0), (1, .iload 1, 0), (2, .iconst 0, 97), (4, .iconst 0, 122), (6, .invokeinterface 187 196, 0), (9, .ifCond .ne 12, 0), (12, .aload 0, 0), (13, .iload 1, 0), (14, .iconst 0, 65), (16, .iconst 0, 90), (18, .invokeinterface 187 196, 0), (21, .ifCond .eq 14, 0), (24, .lconst 1, 0), (25, .goto 15, 0), (28, .lconst 0, 0), (29, .lreturn, 0)]
noncomputable def F_R_isLetter (x1 : Int32) (s : Mem) : Option (Int32 × Mem) :=
  (F_R_isIn x1 97 122 s).bind fun z1 =>
  if z1.1 = 0 then
    (F_R_isIn x1 65 90 z1.2).bind fun z2 =>
    if z2.1 = 0 then
      some (0, z2.2)
    else
    some (1, z2.2)
  else
  some (1, z1.2)
noncomputable def A_R_isLetter (av : List Value) (s : Mem) : Option (Int32 × Mem) := match av with
  | [.ref a0, .int a1] => cbr (Nat.beq a0 123) (F_R_isLetter a1 s) none
  | _ => none
noncomputable def C_R_isLetter (k : Nat) (av : List Value) (s : Mem) : Option (Int32 × Mem) := cbr (Nat.beq k 187) (A_R_isIn av s) (none)
set_option maxRecDepth 100000 in
theorem e_R_isLetter (x1 : Int32) (s : Mem) : F_R_isLetter x1 s = xs C_R_isLetter (fun k ls s => none) 0 (fun _ => 0) K_R_isLetter 700 K_R_isLetter [some (.ref 123), some (.int x1)] [] s := rfl
def K_R_isDigit : MC := [(0, .aload 0, 0), (1, .iload 1, 0), (2, .iconst 0, 48), (4, .iconst 0, 57), (6, .invokeinterface 187 196, 0), (9, .lreturn, 0)]
noncomputable def F_R_isDigit (x1 : Int32) (s : Mem) : Option (Int32 × Mem) :=
  (F_R_isIn x1 48 57 s).bind fun z1 =>
  if z1.1 &&& 1 = z1.1 then
  some (z1.1, z1.2)
  else none
noncomputable def A_R_isDigit (av : List Value) (s : Mem) : Option (Int32 × Mem) := match av with
  | [.ref a0, .int a1] => cbr (Nat.beq a0 123) (F_R_isDigit a1 s) none
  | _ => none
noncomputable def C_R_isDigit (k : Nat) (av : List Value) (s : Mem) : Option (Int32 × Mem) := cbr (Nat.beq k 187) (A_R_isIn av s) (none)
set_option maxRecDepth 100000 in
theorem e_R_isDigit (x1 : Int32) (s : Mem) : F_R_isDigit x1 s = xs C_R_isDigit (fun k ls s => none) 0 (fun _ => 0) K_R_isDigit 700 K_R_isDigit [some (.ref 123), some (.int x1)] [] s := rfl
def K_R_isMarkSign : MC := [(0, .iload 1, 0), (1, .iconst 0, 59), (3, .if_icmp .eq 30, 0), (6, .iload 1, 0), (7, .iconst 0, 43), (9, .if_icmp .eq 30, 0), (12, .iload 1, 0), (13, .iconst 0, 45), (15, .if_icmp .eq 30, 0), (18, .iload 1, 0), (19, .iconst 0, 42), (21, .if_icmp .eq 30, 0), (24, .iload 1, 0), (25, .iconst 0, 47), (27, .if_icmp .eq 30, 0), (30, .iload 1, 0), (31, .iconst 0, 40), (33, .if_icmp .eq 30, 0), (36, .iload 1, 0), (37, .iconst 0, 41), (39, .if_icmp .eq 30, 0), (42, .iload 1, 0), (43, .iconst 0, 60), (45, .if_icmp .eq 30, 0), (48, .iload 1, 0), (49, .iconst 0, 61), (51, .if_icmp .eq 30, 0), (54, .iload 1, 0), (55, .iconst 0, 62), (57, .if_icmp .ne 32, 0), (60, .lconst 1, 0), (61, .goto 33, 0), (64, .lconst 0, 0), (65, .lreturn, 0)]
noncomputable def F_R_isMarkSign (x1 : Int32) (s : Mem) : Option (Int32 × Mem) :=
  if x1 = 59 then
    some (1, s)
  else
  if x1 = 43 then
    some (1, s)
  else
  if x1 = 45 then
    some (1, s)
  else
  if x1 = 42 then
    some (1, s)
  else
  if x1 = 47 then
    some (1, s)
  else
  if x1 = 40 then
    some (1, s)
  else
  if x1 = 41 then
    some (1, s)
  else
  if x1 = 60 then
    some (1, s)
  else
  if x1 = 61 then
    some (1, s)
  else
  if x1 = 62 then
    some (1, s)
  else
  some (0, s)
noncomputable def A_R_isMarkSign (av : List Value) (s : Mem) : Option (Int32 × Mem) := match av with
  | [.ref a0, .int a1] => cbr (Nat.beq a0 123) (F_R_isMarkSign a1 s) none
  | _ => none
noncomputable def C_R_isMarkSign (k : Nat) (av : List Value) (s : Mem) : Option (Int32 × Mem) := none
set_option maxRecDepth 100000 in
theorem e_R_isMarkSign (x1 : Int32) (s : Mem) : F_R_isMarkSign x1 s = xs C_R_isMarkSign (fun k ls s => none) 0 (fun _ => 0) K_R_isMarkSign 700 K_R_isMarkSign [some (.ref 123), some (.int x1)] [] s := rfl
def K_R_wordAt : MC := [(0, .iconst 0, (-1)), (1, .istore 3, 0), (2, .lconst 0, 0), (3, .istore 4, 0), (5, .ret 0, 0), (5, .iload 4, 0), (7, .iconst 0, 169), (10, .if_icmp .ge 74, 0), (13, .lconst 0, 0), (14, .istore 5, 0), (16, .iload 3, 0), (17, .lconst 1, 0), (18, .iadd, 0), (19, .istore 3, 0), (20, .ret 1, 0), (20, .iload 1, 0), (21, .iload 5, 0), (23, .iadd, 0), (24, .iload 2, 0), (25, .if_icmp .ge 40, 0), (28, .aload 0, 0), (29, .getstatic 1116, 0), (32, .iload 4, 0), (34, .lconst 1, 0), (35, .iadd, 0), (36, .iload 5, 0), (38, .iadd, 0), (39, .iaload, 0), (40, .aload 0, 0), (41, .getstatic 1110, 0), (44, .iload 1, 0), (45, .iload 5, 0), (47, .iadd, 0), (48, .iaload, 0), (49, .if_icmp .ne 40, 0), (52, .iload 5, 0), (54, .lconst 1, 0), (55, .iadd, 0), (56, .istore 5, 0), (58, .goto 14, 0), (61, .iload 1, 0), (62, .iload 5, 0), (64, .iadd, 0), (65, .iload 2, 0), (66, .if_icmp .ne 57, 0), (69, .aload 0, 0), (70, .getstatic 1116, 0), (73, .iload 4, 0), (75, .lconst 1, 0), (76, .iadd, 0), (77, .iload 5, 0), (79, .iadd, 0), (80, .iaload, 0), (81, .iconst 0, 32), (83, .if_icmp .ne 57, 0), (86, .iload 3, 0), (87, .ireturn, 0), (88, .iload 4, 0), (90, .lconst 1, 0), (91, .iadd, 0), (92, .istore 4, 0), (94, .ret 2, 0), (94, .aload 0, 0), (95, .getstatic 1116, 0), (98, .iload 4, 0), (100, .iaload, 0), (101, .iconst 0, 32), (103, .if_icmp .eq 73, 0), (106, .iload 4, 0), (108, .lconst 1, 0), (109, .iadd, 0), (110, .istore 4, 0), (112, .goto 61, 0), (115, .goto 4, 0), (118, .iconst 0, (-1)), (119, .ireturn, 0)]
noncomputable def F_R_wordAt_59 (k4 : Int32 → Int32 → Int32 → Int32 → Mem → Option (Int32 × Mem)) : Nat → Int32 → Int32 → Int32 → Int32 → Mem → Option (Int32 × Mem)
  | 0, _, _, _, _, _ => none
  | n + 1, x1, x2, x3, x4, s =>
    (ld s 131 x4).bind fun v1 =>
    if v1 = 32 then
      k4 x1 x2 x3 x4 s
    else
    F_R_wordAt_59 k4 n x1 x2 x3 (x4 + 1) s
noncomputable def F_R_wordAt_13 (k4 : Int32 → Int32 → Int32 → Int32 → Mem → Option (Int32 × Mem)) : Nat → Int32 → Int32 → Int32 → Int32 → Int32 → Mem → Option (Int32 × Mem)
  | 0, _, _, _, _, _, _ => none
  | n + 1, x1, x2, x3, x4, x5, s =>
    if x2 ≤ (x1 + x5) then
      if (x1 + x5) = x2 then
        (ld s 131 ((x4 + 1) + x5)).bind fun v1 =>
        if v1 = 32 then
          some (x3, s)
        else
        F_R_wordAt_59 k4 gF x1 x2 x3 (x4 + 1) s
      else
      F_R_wordAt_59 k4 gF x1 x2 x3 (x4 + 1) s
    else
    (ld s 131 ((x4 + 1) + x5)).bind fun v2 =>
    (ld s 130 (x1 + x5)).bind fun v3 =>
    if v2 = v3 then
      F_R_wordAt_13 k4 n x1 x2 x3 x4 (x5 + 1) s
    else
    if (x1 + x5) = x2 then
      (ld s 131 ((x4 + 1) + x5)).bind fun v4 =>
      if v4 = 32 then
        some (x3, s)
      else
      F_R_wordAt_59 k4 gF x1 x2 x3 (x4 + 1) s
    else
    F_R_wordAt_59 k4 gF x1 x2 x3 (x4 + 1) s
noncomputable def F_R_wordAt_4 : Nat → Int32 → Int32 → Int32 → Int32 → Mem → Option (Int32 × Mem)
  | 0, _, _, _, _, _ => none
  | n + 1, x1, x2, x3, x4, s =>
    if 169 ≤ x4 then
      some ((-1), s)
    else
    F_R_wordAt_13 (F_R_wordAt_4 n) gF x1 x2 (x3 + 1) x4 0 s
noncomputable def F_R_wordAt (x1 : Int32) (x2 : Int32) (s : Mem) : Option (Int32 × Mem) :=
  F_R_wordAt_4 gF x1 x2 (-1) 0 s
def A_R_wordAt_4 (f : Int32 → Int32 → Int32 → Int32 → Mem → Option (Int32 × Mem)) (ls : List (Option Value)) (s : Mem) : Option (Int32 × Mem) := match lk ls 0, lk ls 1, lk ls 2, lk ls 3, lk ls 4 with
  | some (.ref a0), some (.int a1), some (.int a2), some (.int a3), some (.int a4) => cbr (Nat.beq a0 123) (f a1 a2 a3 a4 s) none
  | _, _, _, _, _ => none
def A_R_wordAt_13 (f : Int32 → Int32 → Int32 → Int32 → Int32 → Mem → Option (Int32 × Mem)) (ls : List (Option Value)) (s : Mem) : Option (Int32 × Mem) := match lk ls 0, lk ls 1, lk ls 2, lk ls 3, lk ls 4, lk ls 5 with
  | some (.ref a0), some (.int a1), some (.int a2), some (.int a3), some (.int a4), some (.int a5) => cbr (Nat.beq a0 123) (f a1 a2 a3 a4 a5 s) none
  | _, _, _, _, _, _ => none
def A_R_wordAt_59 (f : Int32 → Int32 → Int32 → Int32 → Mem → Option (Int32 × Mem)) (ls : List (Option Value)) (s : Mem) : Option (Int32 × Mem) := match lk ls 0, lk ls 1, lk ls 2, lk ls 3, lk ls 4 with
  | some (.ref a0), some (.int a1), some (.int a2), some (.int a3), some (.int a4) => cbr (Nat.beq a0 123) (f a1 a2 a3 a4 s) none
  | _, _, _, _, _ => none
noncomputable def A_R_wordAt (av : List Value) (s : Mem) : Option (Int32 × Mem) := match av with
  | [.ref a0, .int a1, .int a2] => cbr (Nat.beq a0 123) (F_R_wordAt a1 a2 s) none
  | _ => none
noncomputable def C_R_wordAt (k : Nat) (av : List Value) (s : Mem) : Option (Int32 × Mem) := none
set_option maxRecDepth 100000 in
theorem e_R_wordAt_59 (k4 : Int32 → Int32 → Int32 → Int32 → Mem → Option (Int32 × Mem)) (n : Nat) (x1 : Int32) (x2 : Int32) (x3 : Int32) (x4 : Int32) (s : Mem) : F_R_wordAt_59 k4 (n + 1) x1 x2 x3 x4 s = xs C_R_wordAt (fun k ls s => cbr (Nat.beq k 0) (A_R_wordAt_4 (k4) ls s) (cbr (Nat.beq k 2) (A_R_wordAt_59 (F_R_wordAt_59 k4 n) ls s) (none))) 0 (fun _ => 0) K_R_wordAt 700 (K_R_wordAt.drop 62) [some (.ref 123), some (.int x1), some (.int x2), some (.int x3), some (.int x4), none] [] s := rfl
set_option maxRecDepth 100000 in
theorem e_R_wordAt_13 (k4 : Int32 → Int32 → Int32 → Int32 → Mem → Option (Int32 × Mem)) (n : Nat) (x1 : Int32) (x2 : Int32) (x3 : Int32) (x4 : Int32) (x5 : Int32) (s : Mem) : F_R_wordAt_13 k4 (n + 1) x1 x2 x3 x4 x5 s = xs C_R_wordAt (fun k ls s => cbr (Nat.beq k 1) (A_R_wordAt_13 (F_R_wordAt_13 k4 n) ls s) (cbr (Nat.beq k 2) (A_R_wordAt_59 (F_R_wordAt_59 k4 gF) ls s) (none))) 0 (fun _ => 0) K_R_wordAt 700 (K_R_wordAt.drop 15) [some (.ref 123), some (.int x1), some (.int x2), some (.int x3), some (.int x4), some (.int x5)] [] s := rfl
set_option maxRecDepth 100000 in
theorem e_R_wordAt_4  (n : Nat) (x1 : Int32) (x2 : Int32) (x3 : Int32) (x4 : Int32) (s : Mem) : F_R_wordAt_4 (n + 1) x1 x2 x3 x4 s = xs C_R_wordAt (fun k ls s => cbr (Nat.beq k 1) (A_R_wordAt_13 (F_R_wordAt_13 (F_R_wordAt_4 n) gF) ls s) (none)) 0 (fun _ => 0) K_R_wordAt 700 (K_R_wordAt.drop 5) [some (.ref 123), some (.int x1), some (.int x2), some (.int x3), some (.int x4), none] [] s := rfl
set_option maxRecDepth 100000 in
theorem e_R_wordAt (x1 : Int32) (x2 : Int32) (s : Mem) : F_R_wordAt x1 x2 s = xs C_R_wordAt (fun k ls s => cbr (Nat.beq k 0) (A_R_wordAt_4 (F_R_wordAt_4 gF) ls s) (none)) 0 (fun _ => 0) K_R_wordAt 700 K_R_wordAt [some (.ref 123), some (.int x1), some (.int x2), none, none, none] [] s := rfl
def K_R_reads : MC := [(0, .ret 0, 0), (0, .aload 0, 0), (1, .aload 0, 0), (2, .getfield 1112, 0), (5, .invokeinterface 208 194, 0), (8, .iconst 0, 32), (10, .if_icmp .eq 13, 0), (13, .aload 0, 0), (14, .aload 0, 0), (15, .getfield 1112, 0), (18, .invokeinterface 208 194, 0), (21, .iconst 0, 10), (23, .if_icmp .ne 20, 0), (26, .aload 0, 0), (27, .aload 0, 0), (28, .getfield 1112, 0), (31, .lconst 1, 0), (32, .iadd, 0), (33, .putfield 1112, 0), (36, .goto 0, 0), (39, .aload 0, 0), (40, .aload 0, 0), (41, .getfield 1112, 0), (44, .putfield 1113, 0), (47, .aload 0, 0), (48, .lconst 1, 0), (49, .putfield 1114, 0), (52, .aload 0, 0), (53, .aload 0, 0), (54, .getfield 1112, 0), (57, .invokeinterface 208 194, 0), (60, .istore 1, 0), (61, .iload 1, 0), (62, .iconst 0, (-1)), (63, .if_icmp .ne 39, 0), (66, .aload 0, 0), (67, .lconst 0, 0), (68, .putfield 1114, 0), (71, .return_, 0), (72, .aload 0, 0), (73, .aload 0, 0), (74, .getfield 1112, 0), (77, .lconst 1, 0), (78, .iadd, 0), (79, .putfield 1112, 0), (82, .aload 0, 0), (83, .iload 1, 0), (84, .putfield 1115, 0), (87, .aload 0, 0), (88, .iload 1, 0), (89, .invokeinterface 209 194, 0), (92, .ifCond .eq 83, 0), (95, .ret 1, 0), (95, .aload 0, 0), (96, .aload 0, 0), (97, .aload 0, 0), (98, .getfield 1112, 0), (101, .invokeinterface 208 194, 0), (104, .invokeinterface 209 194, 0), (107, .ifCond .eq 67, 0), (110, .aload 0, 0), (111, .aload 0, 0), (112, .getfield 1112, 0), (115, .lconst 1, 0), (116, .iadd, 0), (117, .putfield 1112, 0), (120, .goto 52, 0), (123, .aload 0, 0), (124, .aload 0, 0), (125, .aload 0, 0), (126, .getfield 1113, 0), (129, .aload 0, 0), (130, .getfield 1112, 0), (133, .invokeinterface 212 195, 0), (136, .putfield 1115, 0), (139, .aload 0, 0), (140, .getfield 1115, 0), (143, .iconst 0, (-1)), (144, .if_icmp .eq 145, 0), (147, .aload 0, 0), (148, .iconst 0, 2), (149, .putfield 1114, 0), (152, .goto 145, 0), (155, .aload 0, 0), (156, .iload 1, 0), (157, .invokeinterface 210 194, 0), (160, .ifCond .eq 138, 0), (163, .aload 0, 0), (164, .iload 1, 0), (165, .iconst 0, 48), (167, .isub, 0), (168, .putfield 1115, 0), (171, .ret 2, 0), (171, .aload 0, 0), (172, .aload 0, 0), (173, .aload 0, 0), (174, .getfield 1112, 0), (177, .invokeinterface 208 194, 0), (180, .invokeinterface 210 194, 0), (183, .ifCond .eq 127, 0), (186, .aload 0, 0), (187, .aload 0, 0), (188, .getfield 1115, 0), (191, .iconst 0, 10000), (194, .if_icmp .ge 117, 0), (197, .iconst 0, 10), (199, .aload 0, 0), (200, .getfield 1115, 0), (203, .imul, 0), (204, .aload 0, 0), (205, .aload 0, 0), (206, .getfield 1112, 0), (209, .invokeinterface 208 194, 0), (212, .iadd, 0), (213, .iconst 0, 48), (215, .isub, 0), (216, .goto 119, 0), (219, .aload 0, 0), (220, .getfield 1115, 0), (223, .putfield 1115, 0), (226, .aload 0, 0), (227, .aload 0, 0), (228, .getfield 1112, 0), (231, .lconst 1, 0), (232, .iadd, 0), (233, .putfield 1112, 0), (236, .goto 92, 0), (239, .aload 0, 0), (240, .getfield 1112, 0), (243, .aload 0, 0), (244, .getfield 1113, 0), (247, .isub, 0), (248, .iconst 0, 5), (249, .if_icmp .ge 145, 0), (252, .aload 0, 0), (253, .iconst 0, 3), (254, .putfield 1114, 0), (257, .goto 145, 0), (260, .aload 0, 0), (261, .iload 1, 0), (262, .invokeinterface 211 194, 0), (265, .ifCond .eq 145, 0), (268, .aload 0, 0), (269, .iconst 0, 4), (270, .putfield 1114, 0), (273, .return_, 0)]
noncomputable def F_R_reads_51 : Nat → Mem → Option (Int32 × Mem)
  | 0, _ => none
  | n + 1, s =>
    (F_R_raw (s 123 12) s).bind fun z1 =>
    (F_R_isLetter z1.1 z1.2).bind fun z2 =>
    if z2.1 = 0 then
      (F_R_wordAt (z2.2 123 13) (z2.2 123 12) z2.2).bind fun z3 =>
      let s4 : Mem := mw z3.2 123 15 z3.1
      if (s4 123 15) = (-1) then
        some (0, s4)
      else
      let s5 : Mem := mw s4 123 14 2
      some (0, s5)
    else
    let s6 : Mem := mw z2.2 123 12 ((z2.2 123 12) + 1)
    F_R_reads_51 n s6
noncomputable def F_R_reads_90 : Nat → Mem → Option (Int32 × Mem)
  | 0, _ => none
  | n + 1, s =>
    (F_R_raw (s 123 12) s).bind fun z1 =>
    (F_R_isDigit z1.1 z1.2).bind fun z2 =>
    if z2.1 = 0 then
      if 5 ≤ ((z2.2 123 12) - (z2.2 123 13)) then
        some (0, z2.2)
      else
      let s3 : Mem := mw z2.2 123 14 3
      some (0, s3)
    else
    if 10000 ≤ (z2.2 123 15) then
      let s4 : Mem := mw z2.2 123 15 (z2.2 123 15)
      let s5 : Mem := mw s4 123 12 ((s4 123 12) + 1)
      F_R_reads_90 n s5
    else
    (F_R_raw (z2.2 123 12) z2.2).bind fun z6 =>
    let s7 : Mem := mw z6.2 123 15 (((10 * (z2.2 123 15)) + z6.1) - 48)
    let s8 : Mem := mw s7 123 12 ((s7 123 12) + 1)
    F_R_reads_90 n s8
noncomputable def F_R_reads_0 : Nat → Mem → Option (Int32 × Mem)
  | 0, _ => none
  | n + 1, s =>
    (F_R_raw (s 123 12) s).bind fun z1 =>
    if z1.1 = 32 then
      let s2 : Mem := mw z1.2 123 12 ((z1.2 123 12) + 1)
      F_R_reads_0 n s2
    else
    (F_R_raw (z1.2 123 12) z1.2).bind fun z3 =>
    if z3.1 = 10 then
      let s4 : Mem := mw z3.2 123 12 ((z3.2 123 12) + 1)
      F_R_reads_0 n s4
    else
    let s5 : Mem := mw z3.2 123 13 (z3.2 123 12)
    let s6 : Mem := mw s5 123 14 1
    (F_R_raw (s6 123 12) s6).bind fun z7 =>
    if z7.1 = (-1) then
      let s8 : Mem := mw z7.2 123 14 0
      some (0, s8)
    else
    let s9 : Mem := mw z7.2 123 12 ((z7.2 123 12) + 1)
    let s10 : Mem := mw s9 123 15 z7.1
    (F_R_isLetter z7.1 s10).bind fun z11 =>
    if z11.1 = 0 then
      (F_R_isDigit z7.1 z11.2).bind fun z12 =>
      if z12.1 = 0 then
        (F_R_isMarkSign z7.1 z12.2).bind fun z13 =>
        if z13.1 = 0 then
          some (0, z13.2)
        else
        let s14 : Mem := mw z13.2 123 14 4
        some (0, s14)
      else
      let s15 : Mem := mw z12.2 123 15 (z7.1 - 48)
      F_R_reads_90 gF s15
    else
    F_R_reads_51 gF z11.2
noncomputable def F_R_reads  (s : Mem) : Option (Int32 × Mem) :=
  F_R_reads_0 gF s
def A_R_reads_0 (f : Mem → Option (Int32 × Mem)) (ls : List (Option Value)) (s : Mem) : Option (Int32 × Mem) := match lk ls 0 with
  | some (.ref a0) => cbr (Nat.beq a0 123) (f s) none
  | _ => none
def A_R_reads_51 (f : Mem → Option (Int32 × Mem)) (ls : List (Option Value)) (s : Mem) : Option (Int32 × Mem) := match lk ls 0 with
  | some (.ref a0) => cbr (Nat.beq a0 123) (f s) none
  | _ => none
def A_R_reads_90 (f : Mem → Option (Int32 × Mem)) (ls : List (Option Value)) (s : Mem) : Option (Int32 × Mem) := match lk ls 0 with
  | some (.ref a0) => cbr (Nat.beq a0 123) (f s) none
  | _ => none
noncomputable def A_R_reads (av : List Value) (s : Mem) : Option (Int32 × Mem) := match av with
  | [.ref a0] => cbr (Nat.beq a0 123) (F_R_reads s) none
  | _ => none
noncomputable def C_R_reads (k : Nat) (av : List Value) (s : Mem) : Option (Int32 × Mem) := cbr (Nat.beq k 208) (A_R_raw av s) (cbr (Nat.beq k 209) (A_R_isLetter av s) (cbr (Nat.beq k 210) (A_R_isDigit av s) (cbr (Nat.beq k 211) (A_R_isMarkSign av s) (cbr (Nat.beq k 212) (A_R_wordAt av s) (none)))))
set_option maxRecDepth 100000 in
theorem e_R_reads_51  (n : Nat)  (s : Mem) : F_R_reads_51 (n + 1) s = xs C_R_reads (fun k ls s => cbr (Nat.beq k 1) (A_R_reads_51 (F_R_reads_51 n) ls s) (none)) 0 (fun _ => 0) K_R_reads 700 (K_R_reads.drop 53) [some (.ref 123), none] [] s := rfl
set_option maxRecDepth 100000 in
theorem e_R_reads_90  (n : Nat)  (s : Mem) : F_R_reads_90 (n + 1) s = xs C_R_reads (fun k ls s => cbr (Nat.beq k 2) (A_R_reads_90 (F_R_reads_90 n) ls s) (none)) 0 (fun _ => 0) K_R_reads 700 (K_R_reads.drop 93) [some (.ref 123), none] [] s := rfl
set_option maxRecDepth 100000 in
theorem e_R_reads_0  (n : Nat)  (s : Mem) : F_R_reads_0 (n + 1) s = xs C_R_reads (fun k ls s => cbr (Nat.beq k 0) (A_R_reads_0 (F_R_reads_0 n) ls s) (cbr (Nat.beq k 1) (A_R_reads_51 (F_R_reads_51 gF) ls s) (cbr (Nat.beq k 2) (A_R_reads_90 (F_R_reads_90 gF) ls s) (none)))) 0 (fun _ => 0) K_R_reads 700 (K_R_reads.drop 1) [some (.ref 123), none] [] s := rfl
set_option maxRecDepth 100000 in
theorem e_R_reads  (s : Mem) : F_R_reads s = xs C_R_reads (fun k ls s => cbr (Nat.beq k 0) (A_R_reads_0 (F_R_reads_0 gF) ls s) (none)) 0 (fun _ => 0) K_R_reads 700 K_R_reads [some (.ref 123), none] [] s := rfl
def K_R_errs : MC := [(0, .aload 0, 0), (1, .iload 1, 0), (2, .putfield 1129, 0), (5, .aload 0, 0), (6, .aload 0, 0), (7, .getfield 1113, 0), (10, .putfield 1130, 0), (13, .iconst 0, (-1)), (14, .ireturn, 0)]
noncomputable def F_R_errs (x1 : Int32) (s : Mem) : Option (Int32 × Mem) :=
  let s1 : Mem := mw s 123 29 x1
  let s2 : Mem := mw s1 123 30 (s1 123 13)
  some ((-1), s2)
noncomputable def A_R_errs (av : List Value) (s : Mem) : Option (Int32 × Mem) := match av with
  | [.ref a0, .int a1] => cbr (Nat.beq a0 123) (F_R_errs a1 s) none
  | _ => none
noncomputable def C_R_errs (k : Nat) (av : List Value) (s : Mem) : Option (Int32 × Mem) := none
set_option maxRecDepth 100000 in
theorem e_R_errs (x1 : Int32) (s : Mem) : F_R_errs x1 s = xs C_R_errs (fun k ls s => none) 0 (fun _ => 0) K_R_errs 700 K_R_errs [some (.ref 123), some (.int x1)] [] s := rfl
def K_R_isWord : MC := [(0, .aload 0, 0), (1, .getfield 1114, 0), (4, .iconst 0, 2), (5, .if_icmp .ne 10, 0), (8, .aload 0, 0), (9, .getfield 1115, 0), (12, .iload 1, 0), (13, .if_icmp .ne 10, 0), (16, .lconst 1, 0), (17, .goto 11, 0), (20, .lconst 0, 0), (21, .lreturn, 0)]
noncomputable def F_R_isWord (x1 : Int32) (s : Mem) : Option (Int32 × Mem) :=
  if (s 123 14) = 2 then
    if (s 123 15) = x1 then
      some (1, s)
    else
    some (0, s)
  else
  some (0, s)
noncomputable def A_R_isWord (av : List Value) (s : Mem) : Option (Int32 × Mem) := match av with
  | [.ref a0, .int a1] => cbr (Nat.beq a0 123) (F_R_isWord a1 s) none
  | _ => none
noncomputable def C_R_isWord (k : Nat) (av : List Value) (s : Mem) : Option (Int32 × Mem) := none
set_option maxRecDepth 100000 in
theorem e_R_isWord (x1 : Int32) (s : Mem) : F_R_isWord x1 s = xs C_R_isWord (fun k ls s => none) 0 (fun _ => 0) K_R_isWord 700 K_R_isWord [some (.ref 123), some (.int x1)] [] s := rfl
def K_R_isSign : MC := [(0, .aload 0, 0), (1, .getfield 1114, 0), (4, .iconst 0, 4), (5, .if_icmp .ne 10, 0), (8, .aload 0, 0), (9, .getfield 1115, 0), (12, .iload 1, 0), (13, .if_icmp .ne 10, 0), (16, .lconst 1, 0), (17, .goto 11, 0), (20, .lconst 0, 0), (21, .lreturn, 0)]
noncomputable def F_R_isSign (x1 : Int32) (s : Mem) : Option (Int32 × Mem) :=
  if (s 123 14) = 4 then
    if (s 123 15) = x1 then
      some (1, s)
    else
    some (0, s)
  else
  some (0, s)
noncomputable def A_R_isSign (av : List Value) (s : Mem) : Option (Int32 × Mem) := match av with
  | [.ref a0, .int a1] => cbr (Nat.beq a0 123) (F_R_isSign a1 s) none
  | _ => none
noncomputable def C_R_isSign (k : Nat) (av : List Value) (s : Mem) : Option (Int32 × Mem) := none
set_option maxRecDepth 100000 in
theorem e_R_isSign (x1 : Int32) (s : Mem) : F_R_isSign x1 s = xs C_R_isSign (fun k ls s => none) 0 (fun _ => 0) K_R_isSign 700 K_R_isSign [some (.ref 123), some (.int x1)] [] s := rfl
def K_R_emits : MC := [(0, .aload 0, 0), (1, .getstatic 1122, 0), (4, .iconst 0, 800), (7, .aload 0, 0), (8, .getfield 1125, 0), (11, .iadd, 0), (12, .iload 1, 0), (13, .iastore, 0), (14, .aload 0, 0), (15, .getstatic 1123, 0), (18, .iconst 0, 800), (21, .aload 0, 0), (22, .getfield 1125, 0), (25, .iadd, 0), (26, .iload 2, 0), (27, .iastore, 0), (28, .aload 0, 0), (29, .aload 0, 0), (30, .getfield 1125, 0), (33, .lconst 1, 0), (34, .iadd, 0), (35, .putfield 1125, 0), (38, .return_, 0)]
noncomputable def F_R_emits (x1 : Int32) (x2 : Int32) (s : Mem) : Option (Int32 × Mem) :=
  (sd s 137 (800 + (s 123 25)) x1).bind fun s1 =>
  (sd s1 138 (800 + (s1 123 25)) x2).bind fun s2 =>
  let s3 : Mem := mw s2 123 25 ((s2 123 25) + 1)
  some (0, s3)
noncomputable def A_R_emits (av : List Value) (s : Mem) : Option (Int32 × Mem) := match av with
  | [.ref a0, .int a1, .int a2] => cbr (Nat.beq a0 123) (F_R_emits a1 a2 s) none
  | _ => none
noncomputable def C_R_emits (k : Nat) (av : List Value) (s : Mem) : Option (Int32 × Mem) := none
set_option maxRecDepth 100000 in
theorem e_R_emits (x1 : Int32) (x2 : Int32) (s : Mem) : F_R_emits x1 x2 s = xs C_R_emits (fun k ls s => none) 0 (fun _ => 0) K_R_emits 700 K_R_emits [some (.ref 123), some (.int x1), some (.int x2)] [] s := rfl
def K_R_canAsk : MC := [(0, .aload 0, 0), (1, .iload 1, 0), (2, .iconst 0, 7), (4, .iconst 0, 17), (6, .invokeinterface 187 196, 0), (9, .lreturn, 0)]
noncomputable def F_R_canAsk (x1 : Int32) (s : Mem) : Option (Int32 × Mem) :=
  (F_R_isIn x1 7 17 s).bind fun z1 =>
  if z1.1 &&& 1 = z1.1 then
  some (z1.1, z1.2)
  else none
noncomputable def A_R_canAsk (av : List Value) (s : Mem) : Option (Int32 × Mem) := match av with
  | [.ref a0, .int a1] => cbr (Nat.beq a0 123) (F_R_canAsk a1 s) none
  | _ => none
noncomputable def C_R_canAsk (k : Nat) (av : List Value) (s : Mem) : Option (Int32 × Mem) := cbr (Nat.beq k 187) (A_R_isIn av s) (none)
set_option maxRecDepth 100000 in
theorem e_R_canAsk (x1 : Int32) (s : Mem) : F_R_canAsk x1 s = xs C_R_canAsk (fun k ls s => none) 0 (fun _ => 0) K_R_canAsk 700 K_R_canAsk [some (.ref 123), some (.int x1)] [] s := rfl
def K_R_readUnit : MC := [(0, .aload 0, 0), (1, .getfield 1114, 0), (4, .iconst 0, 2), (5, .if_icmp .ne 11, 0), (8, .aload 0, 0), (9, .aload 0, 0), (10, .getfield 1115, 0), (13, .invokeinterface 218 194, 0), (16, .ifCond .eq 11, 0), (19, .lconst 1, 0), (20, .goto 12, 0), (23, .lconst 0, 0), (24, .istore 1, 0), (25, .iload 1, 0), (26, .ifCond .ne 23, 0), (29, .aload 0, 0), (30, .getfield 1114, 0), (33, .iconst 0, 3), (34, .if_icmp .eq 23, 0), (37, .aload 0, 0), (38, .lconst 1, 0), (39, .invokeinterface 214 194, 0), (42, .ireturn, 0), (43, .aload 0, 0), (44, .iload 1, 0), (45, .ifCond .eq 28, 0), (48, .lconst 1, 0), (49, .goto 29, 0), (52, .lconst 0, 0), (53, .iload 1, 0), (54, .ifCond .eq 36, 0), (57, .aload 0, 0), (58, .getfield 1115, 0), (61, .iconst 0, 7), (63, .isub, 0), (64, .goto 38, 0), (67, .aload 0, 0), (68, .getfield 1115, 0), (71, .multianewarray 217 195, 0), (74, .aload 0, 0), (75, .multianewarray 213 193, 0), (78, .lconst 0, 0), (79, .ireturn, 0)]
noncomputable def F_R_readUnit  (s : Mem) : Option (Int32 × Mem) :=
  if (s 123 14) = 2 then
    (F_R_canAsk (s 123 15) s).bind fun z1 =>
    if z1.1 = 0 then
      if (z1.2 123 14) = 3 then
        (F_R_emits 0 (z1.2 123 15) z1.2).bind fun z2 =>
        (F_R_reads z2.2).bind fun z3 =>
        some (0, z3.2)
      else
      (F_R_errs 1 z1.2).bind fun z4 =>
      some (z4.1, z4.2)
    else
    (F_R_emits 1 ((z1.2 123 15) - 7) z1.2).bind fun z5 =>
    (F_R_reads z5.2).bind fun z6 =>
    some (0, z6.2)
  else
  if (s 123 14) = 3 then
    (F_R_emits 0 (s 123 15) s).bind fun z7 =>
    (F_R_reads z7.2).bind fun z8 =>
    some (0, z8.2)
  else
  (F_R_errs 1 s).bind fun z9 =>
  some (z9.1, z9.2)
noncomputable def A_R_readUnit (av : List Value) (s : Mem) : Option (Int32 × Mem) := match av with
  | [.ref a0] => cbr (Nat.beq a0 123) (F_R_readUnit s) none
  | _ => none
noncomputable def C_R_readUnit (k : Nat) (av : List Value) (s : Mem) : Option (Int32 × Mem) := cbr (Nat.beq k 218) (A_R_canAsk av s) (cbr (Nat.beq k 217) (A_R_emits av s) (cbr (Nat.beq k 213) (A_R_reads av s) (cbr (Nat.beq k 214) (A_R_errs av s) (none))))
set_option maxRecDepth 100000 in
theorem e_R_readUnit  (s : Mem) : F_R_readUnit s = xs C_R_readUnit (fun k ls s => none) 0 (fun _ => 0) K_R_readUnit 700 K_R_readUnit [some (.ref 123), none] [] s := rfl
def K_R_readProduct : MC := [(0, .aload 0, 0), (1, .invokeinterface 219 193, 0), (4, .iconst 0, (-1)), (5, .if_icmp .ne 6, 0), (8, .iconst 0, (-1)), (9, .ireturn, 0), (10, .ret 0, 0), (10, .aload 0, 0), (11, .iconst 0, 42), (13, .invokeinterface 216 194, 0), (16, .ifCond .ne 15, 0), (19, .aload 0, 0), (20, .iconst 0, 47), (22, .invokeinterface 216 194, 0), (25, .ifCond .eq 55, 0), (28, .aload 0, 0), (29, .iconst 0, 42), (31, .invokeinterface 216 194, 0), (34, .istore 1, 0), (35, .aload 0, 0), (36, .multianewarray 213 193, 0), (39, .iload 1, 0), (40, .ifCond .ne 31, 0), (43, .aload 0, 0), (44, .getfield 1114, 0), (47, .iconst 0, 3), (48, .if_icmp .eq 31, 0), (51, .aload 0, 0), (52, .lconst 1, 0), (53, .invokeinterface 214 194, 0), (56, .ireturn, 0), (57, .iload 1, 0), (58, .ifCond .ne 40, 0), (61, .aload 0, 0), (62, .getfield 1115, 0), (65, .ifCond .ne 40, 0), (68, .aload 0, 0), (69, .iconst 0, 2), (70, .invokeinterface 214 194, 0), (73, .ireturn, 0), (74, .aload 0, 0), (75, .invokeinterface 219 193, 0), (78, .iconst 0, (-1)), (79, .if_icmp .ne 46, 0), (82, .iconst 0, (-1)), (83, .ireturn, 0), (84, .aload 0, 0), (85, .iload 1, 0), (86, .ifCond .eq 51, 0), (89, .iconst 0, 4), (90, .goto 52, 0), (93, .iconst 0, 5), (94, .lconst 0, 0), (95, .multianewarray 217 195, 0), (98, .goto 6, 0), (101, .lconst 0, 0), (102, .ireturn, 0)]
noncomputable def F_R_readProduct_6 : Nat → Mem → Option (Int32 × Mem)
  | 0, _ => none
  | n + 1, s =>
    (F_R_isSign 42 s).bind fun z1 =>
    if z1.1 = 0 then
      (F_R_isSign 47 z1.2).bind fun z2 =>
      if z2.1 = 0 then
        some (0, z2.2)
      else
      (F_R_isSign 42 z2.2).bind fun z3 =>
      (F_R_reads z3.2).bind fun z4 =>
      if z3.1 = 0 then
        if (z4.2 123 14) = 3 then
          if z3.1 = 0 then
            if (z4.2 123 15) = 0 then
              (F_R_errs 2 z4.2).bind fun z5 =>
              some (z5.1, z5.2)
            else
            (F_R_readUnit z4.2).bind fun z6 =>
            if z6.1 = (-1) then
              some ((-1), z6.2)
            else
            if z3.1 = 0 then
              (F_R_emits 5 0 z6.2).bind fun z7 =>
              F_R_readProduct_6 n z7.2
            else
            (F_R_emits 4 0 z6.2).bind fun z8 =>
            F_R_readProduct_6 n z8.2
          else
          (F_R_readUnit z4.2).bind fun z9 =>
          if z9.1 = (-1) then
            some ((-1), z9.2)
          else
          if z3.1 = 0 then
            (F_R_emits 5 0 z9.2).bind fun z10 =>
            F_R_readProduct_6 n z10.2
          else
          (F_R_emits 4 0 z9.2).bind fun z11 =>
          F_R_readProduct_6 n z11.2
        else
        (F_R_errs 1 z4.2).bind fun z12 =>
        some (z12.1, z12.2)
      else
      if z3.1 = 0 then
        if (z4.2 123 15) = 0 then
          (F_R_errs 2 z4.2).bind fun z13 =>
          some (z13.1, z13.2)
        else
        (F_R_readUnit z4.2).bind fun z14 =>
        if z14.1 = (-1) then
          some ((-1), z14.2)
        else
        if z3.1 = 0 then
          (F_R_emits 5 0 z14.2).bind fun z15 =>
          F_R_readProduct_6 n z15.2
        else
        (F_R_emits 4 0 z14.2).bind fun z16 =>
        F_R_readProduct_6 n z16.2
      else
      (F_R_readUnit z4.2).bind fun z17 =>
      if z17.1 = (-1) then
        some ((-1), z17.2)
      else
      if z3.1 = 0 then
        (F_R_emits 5 0 z17.2).bind fun z18 =>
        F_R_readProduct_6 n z18.2
      else
      (F_R_emits 4 0 z17.2).bind fun z19 =>
      F_R_readProduct_6 n z19.2
    else
    (F_R_isSign 42 z1.2).bind fun z20 =>
    (F_R_reads z20.2).bind fun z21 =>
    if z20.1 = 0 then
      if (z21.2 123 14) = 3 then
        if z20.1 = 0 then
          if (z21.2 123 15) = 0 then
            (F_R_errs 2 z21.2).bind fun z22 =>
            some (z22.1, z22.2)
          else
          (F_R_readUnit z21.2).bind fun z23 =>
          if z23.1 = (-1) then
            some ((-1), z23.2)
          else
          if z20.1 = 0 then
            (F_R_emits 5 0 z23.2).bind fun z24 =>
            F_R_readProduct_6 n z24.2
          else
          (F_R_emits 4 0 z23.2).bind fun z25 =>
          F_R_readProduct_6 n z25.2
        else
        (F_R_readUnit z21.2).bind fun z26 =>
        if z26.1 = (-1) then
          some ((-1), z26.2)
        else
        if z20.1 = 0 then
          (F_R_emits 5 0 z26.2).bind fun z27 =>
          F_R_readProduct_6 n z27.2
        else
        (F_R_emits 4 0 z26.2).bind fun z28 =>
        F_R_readProduct_6 n z28.2
      else
      (F_R_errs 1 z21.2).bind fun z29 =>
      some (z29.1, z29.2)
    else
    if z20.1 = 0 then
      if (z21.2 123 15) = 0 then
        (F_R_errs 2 z21.2).bind fun z30 =>
        some (z30.1, z30.2)
      else
      (F_R_readUnit z21.2).bind fun z31 =>
      if z31.1 = (-1) then
        some ((-1), z31.2)
      else
      if z20.1 = 0 then
        (F_R_emits 5 0 z31.2).bind fun z32 =>
        F_R_readProduct_6 n z32.2
      else
      (F_R_emits 4 0 z31.2).bind fun z33 =>
      F_R_readProduct_6 n z33.2
    else
    (F_R_readUnit z21.2).bind fun z34 =>
    if z34.1 = (-1) then
      some ((-1), z34.2)
    else
    if z20.1 = 0 then
      (F_R_emits 5 0 z34.2).bind fun z35 =>
      F_R_readProduct_6 n z35.2
    else
    (F_R_emits 4 0 z34.2).bind fun z36 =>
    F_R_readProduct_6 n z36.2
noncomputable def F_R_readProduct  (s : Mem) : Option (Int32 × Mem) :=
  (F_R_readUnit s).bind fun z1 =>
  if z1.1 = (-1) then
    some ((-1), z1.2)
  else
  F_R_readProduct_6 gF z1.2
def A_R_readProduct_6 (f : Mem → Option (Int32 × Mem)) (ls : List (Option Value)) (s : Mem) : Option (Int32 × Mem) := match lk ls 0 with
  | some (.ref a0) => cbr (Nat.beq a0 123) (f s) none
  | _ => none
noncomputable def A_R_readProduct (av : List Value) (s : Mem) : Option (Int32 × Mem) := match av with
  | [.ref a0] => cbr (Nat.beq a0 123) (F_R_readProduct s) none
  | _ => none
noncomputable def C_R_readProduct (k : Nat) (av : List Value) (s : Mem) : Option (Int32 × Mem) := cbr (Nat.beq k 219) (A_R_readUnit av s) (cbr (Nat.beq k 216) (A_R_isSign av s) (cbr (Nat.beq k 213) (A_R_reads av s) (cbr (Nat.beq k 214) (A_R_errs av s) (cbr (Nat.beq k 217) (A_R_emits av s) (none)))))
set_option maxRecDepth 100000 in
theorem e_R_readProduct_6  (n : Nat)  (s : Mem) : F_R_readProduct_6 (n + 1) s = xs C_R_readProduct (fun k ls s => cbr (Nat.beq k 0) (A_R_readProduct_6 (F_R_readProduct_6 n) ls s) (none)) 0 (fun _ => 0) K_R_readProduct 700 (K_R_readProduct.drop 7) [some (.ref 123), none] [] s := rfl
set_option maxRecDepth 100000 in
theorem e_R_readProduct  (s : Mem) : F_R_readProduct s = xs C_R_readProduct (fun k ls s => cbr (Nat.beq k 0) (A_R_readProduct_6 (F_R_readProduct_6 gF) ls s) (none)) 0 (fun _ => 0) K_R_readProduct 700 K_R_readProduct [some (.ref 123), none] [] s := rfl
def K_R_readSum : MC := [(0, .aload 0, 0), (1, .invokeinterface 220 193, 0), (4, .iconst 0, (-1)), (5, .if_icmp .ne 6, 0), (8, .iconst 0, (-1)), (9, .ireturn, 0), (10, .ret 0, 0), (10, .aload 0, 0), (11, .iconst 0, 43), (13, .invokeinterface 216 194, 0), (16, .ifCond .ne 15, 0), (19, .aload 0, 0), (20, .iconst 0, 45), (22, .invokeinterface 216 194, 0), (25, .ifCond .eq 36, 0), (28, .aload 0, 0), (29, .getfield 1115, 0), (32, .iconst 0, 43), (34, .if_icmp .ne 21, 0), (37, .iconst 0, 2), (38, .goto 22, 0), (41, .iconst 0, 3), (42, .istore 1, 0), (43, .aload 0, 0), (44, .multianewarray 213 193, 0), (47, .aload 0, 0), (48, .invokeinterface 220 193, 0), (51, .iconst 0, (-1)), (52, .if_icmp .ne 31, 0), (55, .iconst 0, (-1)), (56, .ireturn, 0), (57, .aload 0, 0), (58, .iload 1, 0), (59, .lconst 0, 0), (60, .multianewarray 217 195, 0), (63, .goto 6, 0), (66, .lconst 0, 0), (67, .ireturn, 0)]
noncomputable def F_R_readSum_6 : Nat → Mem → Option (Int32 × Mem)
  | 0, _ => none
  | n + 1, s =>
    (F_R_isSign 43 s).bind fun z1 =>
    if z1.1 = 0 then
      (F_R_isSign 45 z1.2).bind fun z2 =>
      if z2.1 = 0 then
        some (0, z2.2)
      else
      if (z2.2 123 15) = 43 then
        (F_R_reads z2.2).bind fun z3 =>
        (F_R_readProduct z3.2).bind fun z4 =>
        if z4.1 = (-1) then
          some ((-1), z4.2)
        else
        (F_R_emits 2 0 z4.2).bind fun z5 =>
        F_R_readSum_6 n z5.2
      else
      (F_R_reads z2.2).bind fun z6 =>
      (F_R_readProduct z6.2).bind fun z7 =>
      if z7.1 = (-1) then
        some ((-1), z7.2)
      else
      (F_R_emits 3 0 z7.2).bind fun z8 =>
      F_R_readSum_6 n z8.2
    else
    if (z1.2 123 15) = 43 then
      (F_R_reads z1.2).bind fun z9 =>
      (F_R_readProduct z9.2).bind fun z10 =>
      if z10.1 = (-1) then
        some ((-1), z10.2)
      else
      (F_R_emits 2 0 z10.2).bind fun z11 =>
      F_R_readSum_6 n z11.2
    else
    (F_R_reads z1.2).bind fun z12 =>
    (F_R_readProduct z12.2).bind fun z13 =>
    if z13.1 = (-1) then
      some ((-1), z13.2)
    else
    (F_R_emits 3 0 z13.2).bind fun z14 =>
    F_R_readSum_6 n z14.2
noncomputable def F_R_readSum  (s : Mem) : Option (Int32 × Mem) :=
  (F_R_readProduct s).bind fun z1 =>
  if z1.1 = (-1) then
    some ((-1), z1.2)
  else
  F_R_readSum_6 gF z1.2
def A_R_readSum_6 (f : Mem → Option (Int32 × Mem)) (ls : List (Option Value)) (s : Mem) : Option (Int32 × Mem) := match lk ls 0 with
  | some (.ref a0) => cbr (Nat.beq a0 123) (f s) none
  | _ => none
noncomputable def A_R_readSum (av : List Value) (s : Mem) : Option (Int32 × Mem) := match av with
  | [.ref a0] => cbr (Nat.beq a0 123) (F_R_readSum s) none
  | _ => none
noncomputable def C_R_readSum (k : Nat) (av : List Value) (s : Mem) : Option (Int32 × Mem) := cbr (Nat.beq k 220) (A_R_readProduct av s) (cbr (Nat.beq k 216) (A_R_isSign av s) (cbr (Nat.beq k 213) (A_R_reads av s) (cbr (Nat.beq k 217) (A_R_emits av s) (none))))
set_option maxRecDepth 100000 in
theorem e_R_readSum_6  (n : Nat)  (s : Mem) : F_R_readSum_6 (n + 1) s = xs C_R_readSum (fun k ls s => cbr (Nat.beq k 0) (A_R_readSum_6 (F_R_readSum_6 n) ls s) (none)) 0 (fun _ => 0) K_R_readSum 700 (K_R_readSum.drop 7) [some (.ref 123), none] [] s := rfl
set_option maxRecDepth 100000 in
theorem e_R_readSum  (s : Mem) : F_R_readSum s = xs C_R_readSum (fun k ls s => cbr (Nat.beq k 0) (A_R_readSum_6 (F_R_readSum_6 gF) ls s) (none)) 0 (fun _ => 0) K_R_readSum 700 K_R_readSum [some (.ref 123), none] [] s := rfl
def K_R_readCompared : MC := [(0, .aload 0, 0), (1, .invokeinterface 221 193, 0), (4, .iconst 0, (-1)), (5, .if_icmp .ne 6, 0), (8, .iconst 0, (-1)), (9, .ireturn, 0), (10, .aload 0, 0), (11, .iconst 0, 60), (13, .invokeinterface 216 194, 0), (16, .ifCond .ne 22, 0), (19, .aload 0, 0), (20, .iconst 0, 61), (22, .invokeinterface 216 194, 0), (25, .ifCond .ne 22, 0), (28, .aload 0, 0), (29, .iconst 0, 62), (31, .invokeinterface 216 194, 0), (34, .ifCond .ne 22, 0), (37, .aload 0, 0), (38, .lconst 1, 0), (39, .invokeinterface 214 194, 0), (42, .ireturn, 0), (43, .aload 0, 0), (44, .getfield 1115, 0), (47, .iconst 0, 60), (49, .if_icmp .ne 28, 0), (52, .iconst 0, 6), (54, .goto 35, 0), (57, .aload 0, 0), (58, .getfield 1115, 0), (61, .iconst 0, 61), (63, .if_icmp .ne 34, 0), (66, .iconst 0, 7), (68, .goto 35, 0), (71, .iconst 0, 8), (73, .istore 1, 0), (74, .aload 0, 0), (75, .multianewarray 213 193, 0), (78, .aload 0, 0), (79, .invokeinterface 221 193, 0), (82, .iconst 0, (-1)), (83, .if_icmp .ne 44, 0), (86, .iconst 0, (-1)), (87, .ireturn, 0), (88, .aload 0, 0), (89, .iload 1, 0), (90, .lconst 0, 0), (91, .multianewarray 217 195, 0), (94, .lconst 0, 0), (95, .ireturn, 0)]
noncomputable def F_R_readCompared  (s : Mem) : Option (Int32 × Mem) :=
  (F_R_readSum s).bind fun z1 =>
  if z1.1 = (-1) then
    some ((-1), z1.2)
  else
  (F_R_isSign 60 z1.2).bind fun z2 =>
  if z2.1 = 0 then
    (F_R_isSign 61 z2.2).bind fun z3 =>
    if z3.1 = 0 then
      (F_R_isSign 62 z3.2).bind fun z4 =>
      if z4.1 = 0 then
        (F_R_errs 1 z4.2).bind fun z5 =>
        some (z5.1, z5.2)
      else
      if (z4.2 123 15) = 60 then
        (F_R_reads z4.2).bind fun z6 =>
        (F_R_readSum z6.2).bind fun z7 =>
        if z7.1 = (-1) then
          some ((-1), z7.2)
        else
        (F_R_emits 6 0 z7.2).bind fun z8 =>
        some (0, z8.2)
      else
      if (z4.2 123 15) = 61 then
        (F_R_reads z4.2).bind fun z9 =>
        (F_R_readSum z9.2).bind fun z10 =>
        if z10.1 = (-1) then
          some ((-1), z10.2)
        else
        (F_R_emits 7 0 z10.2).bind fun z11 =>
        some (0, z11.2)
      else
      (F_R_reads z4.2).bind fun z12 =>
      (F_R_readSum z12.2).bind fun z13 =>
      if z13.1 = (-1) then
        some ((-1), z13.2)
      else
      (F_R_emits 8 0 z13.2).bind fun z14 =>
      some (0, z14.2)
    else
    if (z3.2 123 15) = 60 then
      (F_R_reads z3.2).bind fun z15 =>
      (F_R_readSum z15.2).bind fun z16 =>
      if z16.1 = (-1) then
        some ((-1), z16.2)
      else
      (F_R_emits 6 0 z16.2).bind fun z17 =>
      some (0, z17.2)
    else
    if (z3.2 123 15) = 61 then
      (F_R_reads z3.2).bind fun z18 =>
      (F_R_readSum z18.2).bind fun z19 =>
      if z19.1 = (-1) then
        some ((-1), z19.2)
      else
      (F_R_emits 7 0 z19.2).bind fun z20 =>
      some (0, z20.2)
    else
    (F_R_reads z3.2).bind fun z21 =>
    (F_R_readSum z21.2).bind fun z22 =>
    if z22.1 = (-1) then
      some ((-1), z22.2)
    else
    (F_R_emits 8 0 z22.2).bind fun z23 =>
    some (0, z23.2)
  else
  if (z2.2 123 15) = 60 then
    (F_R_reads z2.2).bind fun z24 =>
    (F_R_readSum z24.2).bind fun z25 =>
    if z25.1 = (-1) then
      some ((-1), z25.2)
    else
    (F_R_emits 6 0 z25.2).bind fun z26 =>
    some (0, z26.2)
  else
  if (z2.2 123 15) = 61 then
    (F_R_reads z2.2).bind fun z27 =>
    (F_R_readSum z27.2).bind fun z28 =>
    if z28.1 = (-1) then
      some ((-1), z28.2)
    else
    (F_R_emits 7 0 z28.2).bind fun z29 =>
    some (0, z29.2)
  else
  (F_R_reads z2.2).bind fun z30 =>
  (F_R_readSum z30.2).bind fun z31 =>
  if z31.1 = (-1) then
    some ((-1), z31.2)
  else
  (F_R_emits 8 0 z31.2).bind fun z32 =>
  some (0, z32.2)
noncomputable def A_R_readCompared (av : List Value) (s : Mem) : Option (Int32 × Mem) := match av with
  | [.ref a0] => cbr (Nat.beq a0 123) (F_R_readCompared s) none
  | _ => none
noncomputable def C_R_readCompared (k : Nat) (av : List Value) (s : Mem) : Option (Int32 × Mem) := cbr (Nat.beq k 221) (A_R_readSum av s) (cbr (Nat.beq k 216) (A_R_isSign av s) (cbr (Nat.beq k 214) (A_R_errs av s) (cbr (Nat.beq k 213) (A_R_reads av s) (cbr (Nat.beq k 217) (A_R_emits av s) (none)))))
set_option maxRecDepth 100000 in
theorem e_R_readCompared  (s : Mem) : F_R_readCompared s = xs C_R_readCompared (fun k ls s => none) 0 (fun _ => 0) K_R_readCompared 700 K_R_readCompared [some (.ref 123), none] [] s := rfl
def K_R_waits : MC := [(0, .aload 0, 0), (1, .getstatic 1127, 0), (4, .aload 0, 0), (5, .getfield 1128, 0), (8, .iload 1, 0), (9, .iastore, 0), (10, .aload 0, 0), (11, .aload 0, 0), (12, .getfield 1128, 0), (15, .lconst 1, 0), (16, .iadd, 0), (17, .putfield 1128, 0), (20, .return_, 0)]
noncomputable def F_R_waits (x1 : Int32) (s : Mem) : Option (Int32 × Mem) :=
  (sd s 139 (s 123 28) x1).bind fun s1 =>
  let s2 : Mem := mw s1 123 28 ((s1 123 28) + 1)
  some (0, s2)
noncomputable def A_R_waits (av : List Value) (s : Mem) : Option (Int32 × Mem) := match av with
  | [.ref a0, .int a1] => cbr (Nat.beq a0 123) (F_R_waits a1 s) none
  | _ => none
noncomputable def C_R_waits (k : Nat) (av : List Value) (s : Mem) : Option (Int32 × Mem) := none
set_option maxRecDepth 100000 in
theorem e_R_waits (x1 : Int32) (s : Mem) : F_R_waits x1 s = xs C_R_waits (fun k ls s => none) 0 (fun _ => 0) K_R_waits 700 K_R_waits [some (.ref 123), some (.int x1)] [] s := rfl
def K_R_settles : MC := [(0, .ret 0, 0), (0, .aload 0, 0), (1, .getfield 1128, 0), (4, .ifCond .le 33, 0), (7, .aload 0, 0), (8, .getstatic 1127, 0), (11, .aload 0, 0), (12, .getfield 1128, 0), (15, .lconst 1, 0), (16, .isub, 0), (17, .iaload, 0), (18, .iload 1, 0), (19, .if_icmp .ne 33, 0), (22, .aload 0, 0), (23, .aload 0, 0), (24, .getfield 1128, 0), (27, .lconst 1, 0), (28, .isub, 0), (29, .putfield 1128, 0), (32, .aload 0, 0), (33, .iload 1, 0), (34, .lconst 0, 0), (35, .multianewarray 217 195, 0), (38, .iload 1, 0), (39, .iconst 0, 9), (41, .if_icmp .ne 0, 0), (44, .aload 0, 0), (45, .aload 0, 0), (46, .getfield 1126, 0), (49, .lconst 1, 0), (50, .isub, 0), (51, .putfield 1126, 0), (54, .goto 0, 0), (57, .return_, 0)]
noncomputable def F_R_settles_0 : Nat → Int32 → Mem → Option (Int32 × Mem)
  | 0, _, _ => none
  | n + 1, x1, s =>
    if (s 123 28) ≤ 0 then
      some (0, s)
    else
    (ld s 139 ((s 123 28) - 1)).bind fun v1 =>
    if v1 = x1 then
      let s2 : Mem := mw s 123 28 ((s 123 28) - 1)
      (F_R_emits x1 0 s2).bind fun z3 =>
      if x1 = 9 then
        let s4 : Mem := mw z3.2 123 26 ((z3.2 123 26) - 1)
        F_R_settles_0 n x1 s4
      else
      F_R_settles_0 n x1 z3.2
    else
    some (0, s)
noncomputable def F_R_settles (x1 : Int32) (s : Mem) : Option (Int32 × Mem) :=
  F_R_settles_0 gF x1 s
def A_R_settles_0 (f : Int32 → Mem → Option (Int32 × Mem)) (ls : List (Option Value)) (s : Mem) : Option (Int32 × Mem) := match lk ls 0, lk ls 1 with
  | some (.ref a0), some (.int a1) => cbr (Nat.beq a0 123) (f a1 s) none
  | _, _ => none
noncomputable def A_R_settles (av : List Value) (s : Mem) : Option (Int32 × Mem) := match av with
  | [.ref a0, .int a1] => cbr (Nat.beq a0 123) (F_R_settles a1 s) none
  | _ => none
noncomputable def C_R_settles (k : Nat) (av : List Value) (s : Mem) : Option (Int32 × Mem) := cbr (Nat.beq k 217) (A_R_emits av s) (none)
set_option maxRecDepth 100000 in
theorem e_R_settles_0  (n : Nat) (x1 : Int32) (s : Mem) : F_R_settles_0 (n + 1) x1 s = xs C_R_settles (fun k ls s => cbr (Nat.beq k 0) (A_R_settles_0 (F_R_settles_0 n) ls s) (none)) 0 (fun _ => 0) K_R_settles 700 (K_R_settles.drop 1) [some (.ref 123), some (.int x1)] [] s := rfl
set_option maxRecDepth 100000 in
theorem e_R_settles (x1 : Int32) (s : Mem) : F_R_settles x1 s = xs C_R_settles (fun k ls s => cbr (Nat.beq k 0) (A_R_settles_0 (F_R_settles_0 gF) ls s) (none)) 0 (fun _ => 0) K_R_settles 700 K_R_settles [some (.ref 123), some (.int x1)] [] s := rfl
def K_R_readAny : MC := [(0, .lconst 0, 0), (1, .istore 1, 0), (2, .aload 0, 0), (3, .lconst 0, 0), (4, .putfield 1128, 0), (7, .lconst 1, 0), (8, .istore 2, 0), (9, .ret 0, 0), (9, .iload 2, 0), (10, .ifCond .eq 62, 0), (13, .aload 0, 0), (14, .iconst 0, 6), (16, .invokeinterface 215 194, 0), (19, .istore 3, 0), (20, .iload 3, 0), (21, .ifCond .ne 20, 0), (24, .aload 0, 0), (25, .iconst 0, 40), (27, .invokeinterface 216 194, 0), (30, .ifCond .eq 50, 0), (33, .aload 0, 0), (34, .getfield 1126, 0), (37, .iconst 0, 8), (39, .if_icmp .ne 28, 0), (42, .aload 0, 0), (43, .iconst 0, 3), (44, .invokeinterface 214 194, 0), (47, .ireturn, 0), (48, .aload 0, 0), (49, .aload 0, 0), (50, .getfield 1126, 0), (53, .lconst 1, 0), (54, .iadd, 0), (55, .putfield 1126, 0), (58, .iload 3, 0), (59, .ifCond .ne 40, 0), (62, .iload 1, 0), (63, .lconst 1, 0), (64, .iadd, 0), (65, .istore 1, 0), (66, .aload 0, 0), (67, .iload 3, 0), (68, .ifCond .eq 45, 0), (71, .iconst 0, 9), (73, .goto 46, 0), (76, .iconst 0, 12), (78, .multianewarray 223 194, 0), (81, .aload 0, 0), (82, .multianewarray 213 193, 0), (85, .goto 7, 0), (88, .aload 0, 0), (89, .invokeinterface 222 193, 0), (92, .iconst 0, (-1)), (93, .if_icmp .ne 56, 0), (96, .iconst 0, (-1)), (97, .ireturn, 0), (98, .aload 0, 0), (99, .iconst 0, 9), (101, .multianewarray 224 194, 0), (104, .lconst 0, 0), (105, .istore 2, 0), (106, .goto 7, 0), (109, .aload 0, 0), (110, .iconst 0, 5), (111, .invokeinterface 215 194, 0), (114, .ifCond .eq 77, 0), (117, .aload 0, 0), (118, .iconst 0, 10), (120, .multianewarray 224 194, 0), (123, .aload 0, 0), (124, .iconst 0, 10), (126, .multianewarray 223 194, 0), (129, .aload 0, 0), (130, .multianewarray 213 193, 0), (133, .lconst 1, 0), (134, .istore 2, 0), (135, .goto 7, 0), (138, .aload 0, 0), (139, .iconst 0, 4), (140, .invokeinterface 215 194, 0), (143, .ifCond .eq 95, 0), (146, .aload 0, 0), (147, .iconst 0, 10), (149, .multianewarray 224 194, 0), (152, .aload 0, 0), (153, .iconst 0, 11), (155, .multianewarray 224 194, 0), (158, .aload 0, 0), (159, .iconst 0, 11), (161, .multianewarray 223 194, 0), (164, .aload 0, 0), (165, .multianewarray 213 193, 0), (168, .lconst 1, 0), (169, .istore 2, 0), (170, .goto 7, 0), (173, .aload 0, 0), (174, .iconst 0, 10), (176, .multianewarray 224 194, 0), (179, .aload 0, 0), (180, .iconst 0, 11), (182, .multianewarray 224 194, 0), (185, .iload 1, 0), (186, .ifCond .ne 105, 0), (189, .lconst 0, 0), (190, .ireturn, 0), (191, .aload 0, 0), (192, .iconst 0, 41), (194, .invokeinterface 216 194, 0), (197, .ifCond .ne 113, 0), (200, .aload 0, 0), (201, .lconst 1, 0), (202, .invokeinterface 214 194, 0), (205, .ireturn, 0), (206, .aload 0, 0), (207, .aload 0, 0), (208, .getfield 1128, 0), (211, .lconst 1, 0), (212, .isub, 0), (213, .putfield 1128, 0), (216, .iload 1, 0), (217, .lconst 1, 0), (218, .isub, 0), (219, .istore 1, 0), (220, .aload 0, 0), (221, .aload 0, 0), (222, .getfield 1126, 0), (225, .lconst 1, 0), (226, .isub, 0), (227, .putfield 1126, 0), (230, .aload 0, 0), (231, .iconst 0, 9), (233, .multianewarray 224 194, 0), (236, .aload 0, 0), (237, .multianewarray 213 193, 0), (240, .goto 7, 0)]
noncomputable def F_R_readAny_7 : Nat → Int32 → Int32 → Mem → Option (Int32 × Mem)
  | 0, _, _, _ => none
  | n + 1, x1, x2, s =>
    if x2 = 0 then
      (F_R_isWord 5 s).bind fun z1 =>
      if z1.1 = 0 then
        (F_R_isWord 4 z1.2).bind fun z2 =>
        if z2.1 = 0 then
          (F_R_settles 10 z2.2).bind fun z3 =>
          (F_R_settles 11 z3.2).bind fun z4 =>
          if x1 = 0 then
            some (0, z4.2)
          else
          (F_R_isSign 41 z4.2).bind fun z5 =>
          if z5.1 = 0 then
            (F_R_errs 1 z5.2).bind fun z6 =>
            some (z6.1, z6.2)
          else
          let s7 : Mem := mw z5.2 123 28 ((z5.2 123 28) - 1)
          let s8 : Mem := mw s7 123 26 ((s7 123 26) - 1)
          (F_R_settles 9 s8).bind fun z9 =>
          (F_R_reads z9.2).bind fun z10 =>
          F_R_readAny_7 n (x1 - 1) x2 z10.2
        else
        (F_R_settles 10 z2.2).bind fun z11 =>
        (F_R_settles 11 z11.2).bind fun z12 =>
        (F_R_waits 11 z12.2).bind fun z13 =>
        (F_R_reads z13.2).bind fun z14 =>
        F_R_readAny_7 n x1 1 z14.2
      else
      (F_R_settles 10 z1.2).bind fun z15 =>
      (F_R_waits 10 z15.2).bind fun z16 =>
      (F_R_reads z16.2).bind fun z17 =>
      F_R_readAny_7 n x1 1 z17.2
    else
    (F_R_isWord 6 s).bind fun z18 =>
    if z18.1 = 0 then
      (F_R_isSign 40 z18.2).bind fun z19 =>
      if z19.1 = 0 then
        (F_R_readCompared z19.2).bind fun z20 =>
        if z20.1 = (-1) then
          some ((-1), z20.2)
        else
        (F_R_settles 9 z20.2).bind fun z21 =>
        F_R_readAny_7 n x1 0 z21.2
      else
      if (z19.2 123 26) = 8 then
        (F_R_errs 3 z19.2).bind fun z22 =>
        some (z22.1, z22.2)
      else
      let s23 : Mem := mw z19.2 123 26 ((z19.2 123 26) + 1)
      if z18.1 = 0 then
        if z18.1 = 0 then
          (F_R_waits 12 s23).bind fun z24 =>
          (F_R_reads z24.2).bind fun z25 =>
          F_R_readAny_7 n (x1 + 1) x2 z25.2
        else
        (F_R_waits 9 s23).bind fun z26 =>
        (F_R_reads z26.2).bind fun z27 =>
        F_R_readAny_7 n (x1 + 1) x2 z27.2
      else
      if z18.1 = 0 then
        (F_R_waits 12 s23).bind fun z28 =>
        (F_R_reads z28.2).bind fun z29 =>
        F_R_readAny_7 n x1 x2 z29.2
      else
      (F_R_waits 9 s23).bind fun z30 =>
      (F_R_reads z30.2).bind fun z31 =>
      F_R_readAny_7 n x1 x2 z31.2
    else
    if (z18.2 123 26) = 8 then
      (F_R_errs 3 z18.2).bind fun z32 =>
      some (z32.1, z32.2)
    else
    let s33 : Mem := mw z18.2 123 26 ((z18.2 123 26) + 1)
    if z18.1 = 0 then
      if z18.1 = 0 then
        (F_R_waits 12 s33).bind fun z34 =>
        (F_R_reads z34.2).bind fun z35 =>
        F_R_readAny_7 n (x1 + 1) x2 z35.2
      else
      (F_R_waits 9 s33).bind fun z36 =>
      (F_R_reads z36.2).bind fun z37 =>
      F_R_readAny_7 n (x1 + 1) x2 z37.2
    else
    if z18.1 = 0 then
      (F_R_waits 12 s33).bind fun z38 =>
      (F_R_reads z38.2).bind fun z39 =>
      F_R_readAny_7 n x1 x2 z39.2
    else
    (F_R_waits 9 s33).bind fun z40 =>
    (F_R_reads z40.2).bind fun z41 =>
    F_R_readAny_7 n x1 x2 z41.2
noncomputable def F_R_readAny  (s : Mem) : Option (Int32 × Mem) :=
  let s1 : Mem := mw s 123 28 0
  F_R_readAny_7 gF 0 1 s1
def A_R_readAny_7 (f : Int32 → Int32 → Mem → Option (Int32 × Mem)) (ls : List (Option Value)) (s : Mem) : Option (Int32 × Mem) := match lk ls 0, lk ls 1, lk ls 2 with
  | some (.ref a0), some (.int a1), some (.int a2) => cbr (Nat.beq a0 123) (f a1 a2 s) none
  | _, _, _ => none
noncomputable def A_R_readAny (av : List Value) (s : Mem) : Option (Int32 × Mem) := match av with
  | [.ref a0] => cbr (Nat.beq a0 123) (F_R_readAny s) none
  | _ => none
noncomputable def C_R_readAny (k : Nat) (av : List Value) (s : Mem) : Option (Int32 × Mem) := cbr (Nat.beq k 215) (A_R_isWord av s) (cbr (Nat.beq k 224) (A_R_settles av s) (cbr (Nat.beq k 216) (A_R_isSign av s) (cbr (Nat.beq k 214) (A_R_errs av s) (cbr (Nat.beq k 213) (A_R_reads av s) (cbr (Nat.beq k 223) (A_R_waits av s) (cbr (Nat.beq k 222) (A_R_readCompared av s) (none)))))))
set_option maxRecDepth 100000 in
theorem e_R_readAny_7  (n : Nat) (x1 : Int32) (x2 : Int32) (s : Mem) : F_R_readAny_7 (n + 1) x1 x2 s = xs C_R_readAny (fun k ls s => cbr (Nat.beq k 0) (A_R_readAny_7 (F_R_readAny_7 n) ls s) (none)) 0 (fun _ => 0) K_R_readAny 700 (K_R_readAny.drop 8) [some (.ref 123), some (.int x1), some (.int x2), none] [] s := rfl
set_option maxRecDepth 100000 in
theorem e_R_readAny  (s : Mem) : F_R_readAny s = xs C_R_readAny (fun k ls s => cbr (Nat.beq k 0) (A_R_readAny_7 (F_R_readAny_7 gF) ls s) (none)) 0 (fun _ => 0) K_R_readAny 700 K_R_readAny [some (.ref 123), none, none, none] [] s := rfl
def K_R_isLineWord : MC := [(0, .aload 0, 0), (1, .getfield 1114, 0), (4, .iconst 0, 2), (5, .if_icmp .ne 13, 0), (8, .aload 0, 0), (9, .aload 0, 0), (10, .getfield 1115, 0), (13, .lconst 0, 0), (14, .iconst 0, 2), (15, .invokeinterface 187 196, 0), (18, .ifCond .eq 13, 0), (21, .lconst 1, 0), (22, .goto 14, 0), (25, .lconst 0, 0), (26, .lreturn, 0)]
noncomputable def F_R_isLineWord  (s : Mem) : Option (Int32 × Mem) :=
  if (s 123 14) = 2 then
    (F_R_isIn (s 123 15) 0 2 s).bind fun z1 =>
    if z1.1 = 0 then
      some (0, z1.2)
    else
    some (1, z1.2)
  else
  some (0, s)
noncomputable def A_R_isLineWord (av : List Value) (s : Mem) : Option (Int32 × Mem) := match av with
  | [.ref a0] => cbr (Nat.beq a0 123) (F_R_isLineWord s) none
  | _ => none
noncomputable def C_R_isLineWord (k : Nat) (av : List Value) (s : Mem) : Option (Int32 × Mem) := cbr (Nat.beq k 187) (A_R_isIn av s) (none)
set_option maxRecDepth 100000 in
theorem e_R_isLineWord  (s : Mem) : F_R_isLineWord s = xs C_R_isLineWord (fun k ls s => none) 0 (fun _ => 0) K_R_isLineWord 700 K_R_isLineWord [some (.ref 123)] [] s := rfl
