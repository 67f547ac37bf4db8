def K_C_look : MC := [(0, .iload 1, 0), (1, .lookupswitch 55 #[(0, 2), (1, 7), (2, 12), (3, 17), (4, 22), (5, 27), (6, 32), (7, 37), (8, 42), (9, 47), (10, 52)], 0), (60, .aload 0, 0), (61, .getstatic 1000, 0), (64, .getstatic 600, 0), (67, .getfield 102, 0), (70, .ireturn, 0), (71, .aload 0, 0), (72, .getstatic 1000, 0), (75, .getstatic 600, 0), (78, .getfield 104, 0), (81, .ireturn, 0), (82, .aload 0, 0), (83, .getstatic 1000, 0), (86, .getstatic 600, 0), (89, .getfield 103, 0), (92, .ireturn, 0), (93, .aload 0, 0), (94, .getstatic 1000, 0), (97, .getstatic 600, 0), (100, .getfield 105, 0), (103, .ireturn, 0), (104, .aload 0, 0), (105, .getstatic 1000, 0), (108, .getstatic 601, 0), (111, .getfield 1, 0), (114, .ireturn, 0), (115, .aload 0, 0), (116, .getstatic 1000, 0), (119, .getstatic 600, 0), (122, .getfield 106, 0), (125, .ireturn, 0), (126, .aload 0, 0), (127, .getstatic 1000, 0), (130, .getstatic 602, 0), (133, .getfield 206, 0), (136, .ireturn, 0), (137, .aload 0, 0), (138, .getstatic 1000, 0), (141, .getstatic 603, 0), (144, .getfield 301, 0), (147, .ireturn, 0), (148, .aload 0, 0), (149, .getstatic 1000, 0), (152, .getstatic 604, 0), (155, .getfield 301, 0), (158, .ireturn, 0), (159, .aload 0, 0), (160, .getstatic 1000, 0), (163, .getstatic 605, 0), (166, .getfield 301, 0), (169, .ireturn, 0), (170, .aload 0, 0), (171, .getfield 1006, 0), (174, .ireturn, 0), (175, .iconst 0, (-1)), (176, .ireturn, 0)]
noncomputable def F_C_look (x1 : Int32) (s : Mem) : Option (Int32 × Mem) :=
  if x1 = 0 then
    some ((s 2 2), s)
  else
  if x1 = 1 then
    some ((s 2 4), s)
  else
  if x1 = 2 then
    some ((s 2 3), s)
  else
  if x1 = 3 then
    some ((s 2 5), s)
  else
  if x1 = 4 then
    some ((s 5 1), s)
  else
  if x1 = 5 then
    some ((s 2 6), s)
  else
  if x1 = 6 then
    some ((s 7 6), s)
  else
  if x1 = 7 then
    some ((s 15 1), s)
  else
  if x1 = 8 then
    some ((s 17 1), s)
  else
  if x1 = 9 then
    some ((s 19 1), s)
  else
  if x1 = 10 then
    some ((s 0 6), s)
  else
  some ((-1), s)
noncomputable def A_C_look (av : List Value) (s : Mem) : Option (Int32 × Mem) := match av with
  | [.ref a0, .int a1] => cbr (Nat.beq a0 0) (F_C_look a1 s) none
  | _ => none
noncomputable def C_C_look (k : Nat) (av : List Value) (s : Mem) : Option (Int32 × Mem) := none
set_option maxRecDepth 100000 in
theorem e_C_look (x1 : Int32) (s : Mem) : F_C_look x1 s = xs C_C_look (fun k ls s => none) 0 (fun _ => 0) K_C_look 700 K_C_look [some (.ref 0), some (.int x1)] [] s := rfl
def K_H_sum : MC := [(0, .lconst 0, 0), (1, .istore 2, 0), (2, .lconst 0, 0), (3, .istore 3, 0), (4, .ret 0, 0), (4, .iload 3, 0), (5, .aload 0, 0), (6, .getfield 102, 0), (9, .if_icmp .ge 29, 0), (12, .lconst 0, 0), (13, .istore 4, 0), (15, .ret 1, 0), (15, .iload 4, 0), (17, .aload 0, 0), (18, .iload 3, 0), (19, .invokeinterface 8 34, 0), (22, .if_icmp .ge 27, 0), (25, .iload 2, 0), (26, .aload 0, 0), (27, .iload 1, 0), (28, .iload 3, 0), (29, .iload 4, 0), (31, .invokeinterface 16 36, 0), (34, .iadd, 0), (35, .istore 2, 0), (36, .iinc 4 0, 1), (39, .goto 11, 0), (42, .iinc 3 0, 1), (45, .goto 4, 0), (48, .iload 2, 0), (49, .ireturn, 0)]
noncomputable def F_H_sum_10 (k4 : Int32 → Int32 → Int32 → Mem → Option (Int32 × Mem)) : Nat → Int32 → Int32 → Int32 → Int32 → Mem → Option (Int32 × Mem)
  | 0, _, _, _, _, _ => none
  | n + 1, x1, x2, x3, x4, s =>
    (F_H_size 91 x3 s).bind fun z1 =>
    if z1.1 ≤ x4 then
      k4 x1 x2 (x3 + 1) z1.2
    else
    (F_H_get 91 x1 x3 x4 z1.2).bind fun z2 =>
    F_H_sum_10 k4 n x1 (x2 + z2.1) x3 (x4 + 1) z2.2
noncomputable def F_H_sum_4 : Nat → Int32 → Int32 → Int32 → Mem → Option (Int32 × Mem)
  | 0, _, _, _, _ => none
  | n + 1, x1, x2, x3, s =>
    if (s 91 2) ≤ x3 then
      some (x2, s)
    else
    F_H_sum_10 (F_H_sum_4 n) gF x1 x2 x3 0 s
noncomputable def F_H_sum (x1 : Int32) (s : Mem) : Option (Int32 × Mem) :=
  F_H_sum_4 gF x1 0 0 s
def A_H_sum_4 (f : Int32 → Int32 → Int32 → Mem → Option (Int32 × Mem)) (ls : List (Option Value)) (s : Mem) : Option (Int32 × Mem) := match lk ls 0, lk ls 1, lk ls 2, lk ls 3 with
  | some (.ref a0), some (.int a1), some (.int a2), some (.int a3) => cbr (Nat.beq a0 91) (f a1 a2 a3 s) none
  | _, _, _, _ => none
def A_H_sum_10 (f : Int32 → Int32 → Int32 → Int32 → Mem → Option (Int32 × Mem)) (ls : List (Option Value)) (s : Mem) : Option (Int32 × Mem) := match lk ls 0, lk ls 1, lk ls 2, lk ls 3, lk ls 4 with
  | some (.ref a0), some (.int a1), some (.int a2), some (.int a3), some (.int a4) => cbr (Nat.beq a0 91) (f a1 a2 a3 a4 s) none
  | _, _, _, _, _ => none
noncomputable def A_H_sum (av : List Value) (s : Mem) : Option (Int32 × Mem) := match av with
  | [.ref a0, .int a1] => cbr (Nat.beq a0 91) (F_H_sum a1 s) none
  | _ => none
noncomputable def C_H_sum (k : Nat) (av : List Value) (s : Mem) : Option (Int32 × Mem) := cbr (Nat.beq k 8) (A_H_size av s) (cbr (Nat.beq k 16) (A_H_get av s) (none))
set_option maxRecDepth 100000 in
theorem e_H_sum_10 (k4 : Int32 → Int32 → Int32 → Mem → Option (Int32 × Mem)) (n : Nat) (x1 : Int32) (x2 : Int32) (x3 : Int32) (x4 : Int32) (s : Mem) : F_H_sum_10 k4 (n + 1) x1 x2 x3 x4 s = xs C_H_sum (fun k ls s => cbr (Nat.beq k 0) (A_H_sum_4 (k4) ls s) (cbr (Nat.beq k 1) (A_H_sum_10 (F_H_sum_10 k4 n) ls s) (none))) 0 (fun _ => 0) K_H_sum 700 (K_H_sum.drop 12) [some (.ref 91), some (.int x1), some (.int x2), some (.int x3), some (.int x4)] [] s := rfl
set_option maxRecDepth 100000 in
theorem e_H_sum_4  (n : Nat) (x1 : Int32) (x2 : Int32) (x3 : Int32) (s : Mem) : F_H_sum_4 (n + 1) x1 x2 x3 s = xs C_H_sum (fun k ls s => cbr (Nat.beq k 1) (A_H_sum_10 (F_H_sum_10 (F_H_sum_4 n) gF) ls s) (none)) 0 (fun _ => 0) K_H_sum 700 (K_H_sum.drop 5) [some (.ref 91), some (.int x1), some (.int x2), some (.int x3), none] [] s := rfl
set_option maxRecDepth 100000 in
theorem e_H_sum (x1 : Int32) (s : Mem) : F_H_sum x1 s = xs C_H_sum (fun k ls s => cbr (Nat.beq k 0) (A_H_sum_4 (F_H_sum_4 gF) ls s) (none)) 0 (fun _ => 0) K_H_sum 700 K_H_sum [some (.ref 91), some (.int x1), none, none, none] [] s := rfl
def K_H_countMissing : MC := [(0, .lconst 0, 0), (1, .istore 1, 0), (2, .lconst 0, 0), (3, .istore 2, 0), (4, .ret 0, 0), (4, .iload 2, 0), (5, .aload 0, 0), (6, .getfield 102, 0), (9, .if_icmp .ge 32, 0), (12, .lconst 0, 0), (13, .istore 3, 0), (14, .ret 1, 0), (14, .iload 3, 0), (15, .aload 0, 0), (16, .iload 2, 0), (17, .invokeinterface 8 34, 0), (20, .if_icmp .ge 30, 0), (23, .iload 1, 0), (24, .aload 0, 0), (25, .iload 2, 0), (26, .iload 3, 0), (27, .invokeinterface 22 35, 0), (30, .ifCond .eq 25, 0), (33, .lconst 1, 0), (34, .goto 26, 0), (37, .lconst 0, 0), (38, .iadd, 0), (39, .istore 1, 0), (40, .iinc 3 0, 1), (43, .goto 11, 0), (46, .iinc 2 0, 1), (49, .goto 4, 0), (52, .iload 1, 0), (53, .ireturn, 0)]
noncomputable def F_H_countMissing_10 (k4 : Int32 → Int32 → Mem → Option (Int32 × Mem)) : Nat → Int32 → Int32 → Int32 → Mem → Option (Int32 × Mem)
  | 0, _, _, _, _ => none
  | n + 1, x1, x2, x3, s =>
    (F_H_size 91 x2 s).bind fun z1 =>
    if z1.1 ≤ x3 then
      k4 x1 (x2 + 1) z1.2
    else
    (F_H_isMissing 91 x2 x3 z1.2).bind fun z2 =>
    if z2.1 = 0 then
      F_H_countMissing_10 k4 n (x1 + 0) x2 (x3 + 1) z2.2
    else
    F_H_countMissing_10 k4 n (x1 + 1) x2 (x3 + 1) z2.2
noncomputable def F_H_countMissing_4 : Nat → Int32 → Int32 → Mem → Option (Int32 × Mem)
  | 0, _, _, _ => none
  | n + 1, x1, x2, s =>
    if (s 91 2) ≤ x2 then
      some (x1, s)
    else
    F_H_countMissing_10 (F_H_countMissing_4 n) gF x1 x2 0 s
noncomputable def F_H_countMissing  (s : Mem) : Option (Int32 × Mem) :=
  F_H_countMissing_4 gF 0 0 s
def A_H_countMissing_4 (f : Int32 → Int32 → Mem → Option (Int32 × Mem)) (ls : List (Option Value)) (s : Mem) : Option (Int32 × Mem) := match lk ls 0, lk ls 1, lk ls 2 with
  | some (.ref a0), some (.int a1), some (.int a2) => cbr (Nat.beq a0 91) (f a1 a2 s) none
  | _, _, _ => none
def A_H_countMissing_10 (f : Int32 → Int32 → Int32 → Mem → Option (Int32 × Mem)) (ls : List (Option Value)) (s : Mem) : Option (Int32 × Mem) := match lk ls 0, lk ls 1, lk ls 2, lk ls 3 with
  | some (.ref a0), some (.int a1), some (.int a2), some (.int a3) => cbr (Nat.beq a0 91) (f a1 a2 a3 s) none
  | _, _, _, _ => none
noncomputable def A_H_countMissing (av : List Value) (s : Mem) : Option (Int32 × Mem) := match av with
  | [.ref a0] => cbr (Nat.beq a0 91) (F_H_countMissing s) none
  | _ => none
noncomputable def C_H_countMissing (k : Nat) (av : List Value) (s : Mem) : Option (Int32 × Mem) := cbr (Nat.beq k 8) (A_H_size av s) (cbr (Nat.beq k 22) (A_H_isMissing av s) (none))
set_option maxRecDepth 100000 in
theorem e_H_countMissing_10 (k4 : Int32 → Int32 → Mem → Option (Int32 × Mem)) (n : Nat) (x1 : Int32) (x2 : Int32) (x3 : Int32) (s : Mem) : F_H_countMissing_10 k4 (n + 1) x1 x2 x3 s = xs C_H_countMissing (fun k ls s => cbr (Nat.beq k 0) (A_H_countMissing_4 (k4) ls s) (cbr (Nat.beq k 1) (A_H_countMissing_10 (F_H_countMissing_10 k4 n) ls s) (none))) 0 (fun _ => 0) K_H_countMissing 700 (K_H_countMissing.drop 12) [some (.ref 91), some (.int x1), some (.int x2), some (.int x3)] [] s := rfl
set_option maxRecDepth 100000 in
theorem e_H_countMissing_4  (n : Nat) (x1 : Int32) (x2 : Int32) (s : Mem) : F_H_countMissing_4 (n + 1) x1 x2 s = xs C_H_countMissing (fun k ls s => cbr (Nat.beq k 1) (A_H_countMissing_10 (F_H_countMissing_10 (F_H_countMissing_4 n) gF) ls s) (none)) 0 (fun _ => 0) K_H_countMissing 700 (K_H_countMissing.drop 5) [some (.ref 91), some (.int x1), some (.int x2), none] [] s := rfl
set_option maxRecDepth 100000 in
theorem e_H_countMissing  (s : Mem) : F_H_countMissing s = xs C_H_countMissing (fun k ls s => cbr (Nat.beq k 0) (A_H_countMissing_4 (F_H_countMissing_4 gF) ls s) (none)) 0 (fun _ => 0) K_H_countMissing 700 K_H_countMissing [some (.ref 91), none, none, none] [] s := rfl
def K_U_afterNights : MC := [(0, .aload 0, 0), (1, .getstatic 400, 0), (4, .aload 1, 0), (5, .getstatic 600, 0), (8, .multianewarray 13 34, 0), (11, .lconst 0, 0), (12, .istore 4, 0), (14, .ret 0, 0), (14, .iload 4, 0), (16, .iload 2, 0), (17, .if_icmp .ge 19, 0), (20, .aload 1, 0), (21, .aload 0, 0), (22, .getstatic 400, 0), (25, .lconst 1, 0), (26, .invokeinterface 39 115, 0), (29, .pop, 0), (30, .iinc 4 0, 1), (33, .goto 7, 0), (36, .iload 3, 0), (37, .lookupswitch 35 #[(0, 21), (1, 26), (2, 31)], 0), (64, .aload 0, 0), (65, .getstatic 400, 0), (68, .iconst 0, 6), (70, .invokeinterface 93 34, 0), (73, .ireturn, 0), (74, .aload 0, 0), (75, .getstatic 400, 0), (78, .iconst 0, 7), (80, .invokeinterface 93 34, 0), (83, .ireturn, 0), (84, .aload 0, 0), (85, .getstatic 400, 0), (88, .getfield 103, 0), (91, .ireturn, 0), (92, .aload 0, 0), (93, .getstatic 400, 0), (96, .invokeinterface 94 33, 0), (99, .ireturn, 0)]
noncomputable def F_U_afterNights_7 : Nat → Int32 → Int32 → Int32 → Mem → Option (Int32 × Mem)
  | 0, _, _, _, _ => none
  | n + 1, x2, x3, x4, s =>
    if x2 ≤ x4 then
      if x3 = 0 then
        (F_H_sum 6 s).bind fun z1 =>
        some (z1.1, z1.2)
      else
      if x3 = 1 then
        (F_H_sum 7 s).bind fun z2 =>
        some (z2.1, z2.2)
      else
      if x3 = 2 then
        some ((s 91 3), s)
      else
      (F_H_countMissing s).bind fun z3 =>
      some (z3.1, z3.2)
    else
    (F_G_passNight 91 1 s).bind fun z4 =>
    F_U_afterNights_7 n x2 x3 (x4 + 1) z4.2
noncomputable def F_U_afterNights (x2 : Int32) (x3 : Int32) (s : Mem) : Option (Int32 × Mem) :=
  (F_H_copyFrom 91 2 s).bind fun z1 =>
  F_U_afterNights_7 gF x2 x3 0 z1.2
def A_U_afterNights_7 (f : Int32 → Int32 → Int32 → Mem → Option (Int32 × Mem)) (ls : List (Option Value)) (s : Mem) : Option (Int32 × Mem) := match lk ls 0, lk ls 1, lk ls 2, lk ls 3, lk ls 4 with
  | some (.ref a0), some (.ref a1), some (.int a2), some (.int a3), some (.int a4) => cbr (Nat.beq a0 90) (cbr (Nat.beq a1 1) (f a2 a3 a4 s) none) none
  | _, _, _, _, _ => none
noncomputable def A_U_afterNights (av : List Value) (s : Mem) : Option (Int32 × Mem) := match av with
  | [.ref a0, .ref a1, .int a2, .int a3] => cbr (Nat.beq a0 90) (cbr (Nat.beq a1 1) (F_U_afterNights a2 a3 s) none) none
  | _ => none
noncomputable def C_U_afterNights (k : Nat) (av : List Value) (s : Mem) : Option (Int32 × Mem) := cbr (Nat.beq k 13) (A_H_copyFrom av s) (cbr (Nat.beq k 93) (A_H_sum av s) (cbr (Nat.beq k 94) (A_H_countMissing av s) (cbr (Nat.beq k 39) (A_G_passNight av s) (none))))
set_option maxRecDepth 100000 in
theorem e_U_afterNights_7  (n : Nat) (x2 : Int32) (x3 : Int32) (x4 : Int32) (s : Mem) : F_U_afterNights_7 (n + 1) x2 x3 x4 s = xs C_U_afterNights (fun k ls s => cbr (Nat.beq k 0) (A_U_afterNights_7 (F_U_afterNights_7 n) ls s) (none)) 0 (fun _ => 0) K_U_afterNights 700 (K_U_afterNights.drop 8) [some (.ref 90), some (.ref 1), some (.int x2), some (.int x3), some (.int x4)] [] s := rfl
set_option maxRecDepth 100000 in
theorem e_U_afterNights (x2 : Int32) (x3 : Int32) (s : Mem) : F_U_afterNights x2 x3 s = xs C_U_afterNights (fun k ls s => cbr (Nat.beq k 0) (A_U_afterNights_7 (F_U_afterNights_7 gF) ls s) (none)) 0 (fun _ => 0) K_U_afterNights 700 K_U_afterNights [some (.ref 90), some (.ref 1), some (.int x2), some (.int x3), none] [] s := rfl
def K_C_goes : MC := [(0, .iload 1, 0), (1, .lconst 1, 0), (2, .iconst 0, 60), (4, .invokeinterface 2 3, 0), (7, .ifCond .eq 10, 0), (10, .iload 2, 0), (11, .lconst 0, 0), (12, .iconst 0, 3), (13, .invokeinterface 2 3, 0), (16, .ifCond .ne 12, 0), (19, .iconst 0, (-1)), (20, .ireturn, 0), (21, .aload 0, 0), (22, .getstatic 1012, 0), (25, .aload 0, 0), (26, .getstatic 1000, 0), (29, .iload 1, 0), (30, .iload 2, 0), (31, .invokeinterface 95 84, 0), (34, .ireturn, 0)]
noncomputable def F_C_goes (x1 : Int32) (x2 : Int32) (s : Mem) : Option (Int32 × Mem) :=
  (F_C_within x1 1 60 s).bind fun z1 =>
  if z1.1 = 0 then
    some ((-1), z1.2)
  else
  (F_C_within x2 0 3 z1.2).bind fun z2 =>
  if z2.1 = 0 then
    some ((-1), z2.2)
  else
  (F_U_afterNights x1 x2 z2.2).bind fun z3 =>
  some (z3.1, z3.2)
noncomputable def A_C_goes (av : List Value) (s : Mem) : Option (Int32 × Mem) := match av with
  | [.ref a0, .int a1, .int a2] => cbr (Nat.beq a0 0) (F_C_goes a1 a2 s) none
  | _ => none
noncomputable def C_C_goes (k : Nat) (av : List Value) (s : Mem) : Option (Int32 × Mem) := cbr (Nat.beq k 2) (A_C_within av s) (cbr (Nat.beq k 95) (A_U_afterNights av s) (none))
set_option maxRecDepth 100000 in
theorem e_C_goes (x1 : Int32) (x2 : Int32) (s : Mem) : F_C_goes x1 x2 s = xs C_C_goes (fun k ls s => none) 0 (fun _ => 0) K_C_goes 700 K_C_goes [some (.ref 0), some (.int x1), some (.int x2)] [] s := rfl
def K_U_wouldCreak : MC := [(0, .aload 0, 0), (1, .getstatic 602, 0), (4, .lconst 0, 0), (5, .aload 1, 0), (6, .iload 2, 0), (7, .iload 3, 0), (8, .iload 4, 0), (10, .iload 5, 0), (12, .invokeinterface 31 55, 0), (15, .iconst 0, 500), (18, .if_icmp .lt 13, 0), (21, .lconst 1, 0), (22, .goto 14, 0), (25, .lconst 0, 0), (26, .lreturn, 0)]
noncomputable def F_U_wouldCreak (h1 : Nat) (x2 : Int32) (x3 : Int32) (x4 : Int32) (x5 : Int32) (s : Mem) : Option (Int32 × Mem) :=
  (F_L_ask 0 h1 x2 x3 x4 x5 s).bind fun z1 =>
  if z1.1 < 500 then
    some (0, z1.2)
  else
  some (1, z1.2)
noncomputable def A_U_wouldCreak (av : List Value) (s : Mem) : Option (Int32 × Mem) := match av with
  | [.ref a0, .ref a1, .int a2, .int a3, .int a4, .int a5] => cbr (Nat.beq a0 1) (F_U_wouldCreak a1 a2 a3 a4 a5 s) none
  | _ => none
noncomputable def C_U_wouldCreak (k : Nat) (av : List Value) (s : Mem) : Option (Int32 × Mem) := cbr (Nat.beq k 31) (A_L_ask av s) (none)
set_option maxRecDepth 100000 in
theorem e_U_wouldCreak (h1 : Nat) (x2 : Int32) (x3 : Int32) (x4 : Int32) (x5 : Int32) (s : Mem) : F_U_wouldCreak h1 x2 x3 x4 x5 s = xs C_U_wouldCreak (fun k ls s => none) 0 (fun _ => 0) K_U_wouldCreak 700 K_U_wouldCreak [some (.ref 1), some (.ref h1), some (.int x2), some (.int x3), some (.int x4), some (.int x5)] [] s := rfl
def K_U_strideCost : MC := [(0, .iload 3, 0), (1, .lconst 1, 0), (2, .isub, 0), (3, .iload 5, 0), (5, .iadd, 0), (6, .istore 6, 0), (8, .iload 6, 0), (10, .aload 1, 0), (11, .getstatic 600, 0), (14, .iload 2, 0), (15, .invokeinterface 8 34, 0), (18, .if_icmp .lt 14, 0), (21, .lconst 0, 0), (22, .ireturn, 0), (23, .iload 6, 0), (25, .lconst 0, 0), (26, .aload 0, 0), (27, .getstatic 401, 0), (30, .arraylength, 0), (31, .iconst 0, 2), (32, .isub, 0), (33, .invokeinterface 2 3, 0), (36, .ifCond .eq 29, 0), (39, .aload 1, 0), (40, .getstatic 600, 0), (43, .iload 2, 0), (44, .iload 6, 0), (46, .invokeinterface 22 35, 0), (49, .ifCond .eq 31, 0), (52, .iconst 0, 1000000), (54, .ireturn, 0), (55, .aload 1, 0), (56, .aload 1, 0), (57, .getstatic 600, 0), (60, .iload 2, 0), (61, .iload 6, 0), (63, .iload 4, 0), (65, .iload 5, 0), (67, .invokeinterface 97 6, 0), (70, .ifCond .eq 42, 0), (73, .iconst 0, 100), (75, .goto 43, 0), (78, .lconst 0, 0), (79, .istore 7, 0), (81, .iconst 0, 1000000), (83, .iload 7, 0), (85, .lconst 1, 0), (86, .iadd, 0), (87, .aload 0, 0), (88, .getstatic 401, 0), (91, .iload 6, 0), (93, .lconst 1, 0), (94, .iadd, 0), (95, .iaload, 0), (96, .iadd, 0), (97, .invokeinterface 14 2, 0), (100, .ireturn, 0)]
noncomputable def F_U_strideCost (x2 : Int32) (x3 : Int32) (x4 : Int32) (x5 : Int32) (s : Mem) : Option (Int32 × Mem) :=
  (F_H_size 2 x2 s).bind fun z1 =>
  if ((x3 - 1) + x5) < z1.1 then
    (F_C_within ((x3 - 1) + x5) 0 (17 - 2) z1.2).bind fun z2 =>
    if z2.1 = 0 then
      some (1000000, z2.2)
    else
    (F_H_isMissing 2 x2 ((x3 - 1) + x5) z2.2).bind fun z3 =>
    if z3.1 = 0 then
      (F_U_wouldCreak 2 x2 ((x3 - 1) + x5) x4 x5 z3.2).bind fun z4 =>
      if z4.1 = 0 then
        (ld z4.2 94 (((x3 - 1) + x5) + 1)).bind fun v5 =>
        (F_JM_min 1000000 ((0 + 1) + v5) z4.2).bind fun z6 =>
        some (z6.1, z6.2)
      else
      (ld z4.2 94 (((x3 - 1) + x5) + 1)).bind fun v7 =>
      (F_JM_min 1000000 ((100 + 1) + v7) z4.2).bind fun z8 =>
      some (z8.1, z8.2)
    else
    some (1000000, z3.2)
  else
  some (0, z1.2)
noncomputable def A_U_strideCost (av : List Value) (s : Mem) : Option (Int32 × Mem) := match av with
  | [.ref a0, .ref a1, .int a2, .int a3, .int a4, .int a5] => cbr (Nat.beq a0 90) (cbr (Nat.beq a1 1) (F_U_strideCost a2 a3 a4 a5 s) none) none
  | _ => none
noncomputable def C_U_strideCost (k : Nat) (av : List Value) (s : Mem) : Option (Int32 × Mem) := cbr (Nat.beq k 8) (A_H_size av s) (cbr (Nat.beq k 2) (A_C_within av s) (cbr (Nat.beq k 22) (A_H_isMissing av s) (cbr (Nat.beq k 97) (A_U_wouldCreak av s) (cbr (Nat.beq k 14) (A_JM_min av s) (none)))))
set_option maxRecDepth 100000 in
theorem e_U_strideCost (x2 : Int32) (x3 : Int32) (x4 : Int32) (x5 : Int32) (s : Mem) : F_U_strideCost x2 x3 x4 x5 s = xs C_U_strideCost (fun k ls s => none) 0 (fun _ => 0) K_U_strideCost 700 K_U_strideCost [some (.ref 90), some (.ref 1), some (.int x2), some (.int x3), some (.int x4), some (.int x5), none, none] [] s := rfl
def K_U_quietest : MC := [(0, .aload 1, 0), (1, .getstatic 600, 0), (4, .iload 2, 0), (5, .invokeinterface 8 34, 0), (8, .iconst 0, 16), (10, .invokeinterface 14 2, 0), (13, .istore 5, 0), (15, .iload 5, 0), (17, .istore 6, 0), (19, .ret 0, 0), (19, .iload 6, 0), (21, .ifCond .lt 43, 0), (24, .aload 0, 0), (25, .getstatic 401, 0), (28, .iload 6, 0), (30, .iconst 0, 1000000), (32, .iastore, 0), (33, .lconst 1, 0), (34, .istore 7, 0), (36, .ret 1, 0), (36, .iload 7, 0), (38, .iload 4, 0), (40, .if_icmp .gt 41, 0), (43, .aload 0, 0), (44, .getstatic 401, 0), (47, .iload 6, 0), (49, .aload 0, 0), (50, .getstatic 401, 0), (53, .iload 6, 0), (55, .iaload, 0), (56, .aload 0, 0), (57, .aload 1, 0), (58, .iload 2, 0), (59, .iload 6, 0), (61, .iload 3, 0), (62, .iload 7, 0), (64, .invokeinterface 98 86, 0), (67, .invokeinterface 14 2, 0), (70, .iastore, 0), (71, .iinc 7 0, 1), (74, .goto 19, 0), (77, .iinc 6 0, (-1)), (80, .goto 9, 0), (83, .aload 0, 0), (84, .getstatic 401, 0), (87, .lconst 0, 0), (88, .iaload, 0), (89, .iconst 0, 1000000), (91, .if_icmp .lt 51, 0), (94, .iconst 0, (-1)), (95, .goto 55, 0), (98, .aload 0, 0), (99, .getstatic 401, 0), (102, .lconst 0, 0), (103, .iaload, 0), (104, .ireturn, 0)]
noncomputable def F_U_quietest_18 (k9 : Int32 → Int32 → Int32 → Int32 → Mem → Option (Int32 × Mem)) : Nat → Int32 → Int32 → Int32 → Int32 → Int32 → Mem → Option (Int32 × Mem)
  | 0, _, _, _, _, _, _ => none
  | n + 1, x2, x3, x4, x6, x7, s =>
    if x4 < x7 then
      k9 x2 x3 x4 (x6 + (-1)) s
    else
    (ld s 94 x6).bind fun v1 =>
    (F_U_strideCost x2 x6 x3 x7 s).bind fun z2 =>
    (F_JM_min v1 z2.1 z2.2).bind fun z3 =>
    (sd z3.2 94 x6 z3.1).bind fun s4 =>
    F_U_quietest_18 k9 n x2 x3 x4 x6 (x7 + 1) s4
noncomputable def F_U_quietest_9 : Nat → Int32 → Int32 → Int32 → Int32 → Mem → Option (Int32 × Mem)
  | 0, _, _, _, _, _ => none
  | n + 1, x2, x3, x4, x6, s =>
    if x6 < 0 then
      (ld s 94 0).bind fun v1 =>
      if v1 < 1000000 then
        (ld s 94 0).bind fun v2 =>
        some (v2, s)
      else
      some ((-1), s)
    else
    (sd s 94 x6 1000000).bind fun s3 =>
    F_U_quietest_18 (F_U_quietest_9 n) gF x2 x3 x4 x6 1 s3
noncomputable def F_U_quietest (x2 : Int32) (x3 : Int32) (x4 : Int32) (s : Mem) : Option (Int32 × Mem) :=
  (F_H_size 2 x2 s).bind fun z1 =>
  (F_JM_min z1.1 16 z1.2).bind fun z2 =>
  F_U_quietest_9 gF x2 x3 x4 z2.1 z2.2
def A_U_quietest_9 (f : Int32 → Int32 → Int32 → Int32 → Mem → Option (Int32 × Mem)) (ls : List (Option Value)) (s : Mem) : Option (Int32 × Mem) := match lk ls 0, lk ls 1, lk ls 2, lk ls 3, lk ls 4, lk ls 6 with
  | some (.ref a0), some (.ref a1), some (.int a2), some (.int a3), some (.int a4), some (.int a5) => cbr (Nat.beq a0 90) (cbr (Nat.beq a1 1) (f a2 a3 a4 a5 s) none) none
  | _, _, _, _, _, _ => none
def A_U_quietest_18 (f : Int32 → Int32 → Int32 → Int32 → Int32 → Mem → Option (Int32 × Mem)) (ls : List (Option Value)) (s : Mem) : Option (Int32 × Mem) := match lk ls 0, lk ls 1, lk ls 2, lk ls 3, lk ls 4, lk ls 6, lk ls 7 with
  | some (.ref a0), some (.ref a1), some (.int a2), some (.int a3), some (.int a4), some (.int a5), some (.int a6) => cbr (Nat.beq a0 90) (cbr (Nat.beq a1 1) (f a2 a3 a4 a5 a6 s) none) none
  | _, _, _, _, _, _, _ => none
noncomputable def A_U_quietest (av : List Value) (s : Mem) : Option (Int32 × Mem) := match av with
  | [.ref a0, .ref a1, .int a2, .int a3, .int a4] => cbr (Nat.beq a0 90) (cbr (Nat.beq a1 1) (F_U_quietest a2 a3 a4 s) none) none
  | _ => none
noncomputable def C_U_quietest (k : Nat) (av : List Value) (s : Mem) : Option (Int32 × Mem) := cbr (Nat.beq k 8) (A_H_size av s) (cbr (Nat.beq k 14) (A_JM_min av s) (cbr (Nat.beq k 98) (A_U_strideCost av s) (none)))
set_option maxRecDepth 100000 in
theorem e_U_quietest_18 (k9 : Int32 → Int32 → Int32 → Int32 → Mem → Option (Int32 × Mem)) (n : Nat) (x2 : Int32) (x3 : Int32) (x4 : Int32) (x6 : Int32) (x7 : Int32) (s : Mem) : F_U_quietest_18 k9 (n + 1) x2 x3 x4 x6 x7 s = xs C_U_quietest (fun k ls s => cbr (Nat.beq k 0) (A_U_quietest_9 (k9) ls s) (cbr (Nat.beq k 1) (A_U_quietest_18 (F_U_quietest_18 k9 n) ls s) (none))) 0 (fun _ => 0) K_U_quietest 700 (K_U_quietest.drop 20) [some (.ref 90), some (.ref 1), some (.int x2), some (.int x3), some (.int x4), none, some (.int x6), some (.int x7)] [] s := rfl
set_option maxRecDepth 100000 in
theorem e_U_quietest_9  (n : Nat) (x2 : Int32) (x3 : Int32) (x4 : Int32) (x6 : Int32) (s : Mem) : F_U_quietest_9 (n + 1) x2 x3 x4 x6 s = xs C_U_quietest (fun k ls s => cbr (Nat.beq k 1) (A_U_quietest_18 (F_U_quietest_18 (F_U_quietest_9 n) gF) ls s) (none)) 0 (fun _ => 0) K_U_quietest 700 (K_U_quietest.drop 10) [some (.ref 90), some (.ref 1), some (.int x2), some (.int x3), some (.int x4), none, some (.int x6), none] [] s := rfl
set_option maxRecDepth 100000 in
theorem e_U_quietest (x2 : Int32) (x3 : Int32) (x4 : Int32) (s : Mem) : F_U_quietest x2 x3 x4 s = xs C_U_quietest (fun k ls s => cbr (Nat.beq k 0) (A_U_quietest_9 (F_U_quietest_9 gF) ls s) (none)) 0 (fun _ => 0) K_U_quietest 700 K_U_quietest [some (.ref 90), some (.ref 1), some (.int x2), some (.int x3), some (.int x4), none, none, none] [] s := rfl
def K_C_unheard : MC := [(0, .aload 0, 0), (1, .getstatic 1000, 0), (4, .getstatic 600, 0), (7, .iload 1, 0), (8, .invokeinterface 7 34, 0), (11, .ifCond .eq 15, 0), (14, .iload 2, 0), (15, .iload 3, 0), (16, .invokeinterface 20 2, 0), (19, .ifCond .eq 15, 0), (22, .iload 4, 0), (24, .lconst 0, 0), (25, .lconst 1, 0), (26, .invokeinterface 2 3, 0), (29, .ifCond .ne 17, 0), (32, .iconst 0, (-1)), (33, .ireturn, 0), (34, .aload 0, 0), (35, .getstatic 1012, 0), (38, .aload 0, 0), (39, .getstatic 1000, 0), (42, .iload 1, 0), (43, .iload 2, 0), (44, .iload 3, 0), (45, .invokeinterface 99 85, 0), (48, .istore 5, 0), (50, .iload 5, 0), (52, .iconst 0, (-1)), (53, .if_icmp .ne 31, 0), (56, .iconst 0, (-1)), (57, .ireturn, 0), (58, .iload 4, 0), (60, .ifCond .ne 37, 0), (63, .iload 5, 0), (65, .iconst 0, 100), (67, .ldiv, 0), (68, .goto 40, 0), (71, .iload 5, 0), (73, .iconst 0, 100), (75, .lrem, 0), (76, .ireturn, 0)]
noncomputable def F_C_unheard (x1 : Int32) (x2 : Int32) (x3 : Int32) (x4 : Int32) (s : Mem) : Option (Int32 × Mem) :=
  (F_H_has1 x1 s).bind fun z1 =>
  if z1.1 = 0 then
    some ((-1), z1.2)
  else
  (F_C_isVisitor x2 x3 z1.2).bind fun z2 =>
  if z2.1 = 0 then
    some ((-1), z2.2)
  else
  (F_C_within x4 0 1 z2.2).bind fun z3 =>
  if z3.1 = 0 then
    some ((-1), z3.2)
  else
  (F_U_quietest x1 x2 x3 z3.2).bind fun z4 =>
  if z4.1 = (-1) then
    some ((-1), z4.2)
  else
  if x4 = 0 then
    some ((z4.1 / 100), z4.2)
  else
  some ((irm z4.1 100), z4.2)
noncomputable def A_C_unheard (av : List Value) (s : Mem) : Option (Int32 × Mem) := match av with
  | [.ref a0, .int a1, .int a2, .int a3, .int a4] => cbr (Nat.beq a0 0) (F_C_unheard a1 a2 a3 a4 s) none
  | _ => none
noncomputable def C_C_unheard (k : Nat) (av : List Value) (s : Mem) : Option (Int32 × Mem) := cbr (Nat.beq k 7) (A_H_has1 av s) (cbr (Nat.beq k 20) (A_C_isVisitor av s) (cbr (Nat.beq k 2) (A_C_within av s) (cbr (Nat.beq k 99) (A_U_quietest av s) (none))))
set_option maxRecDepth 100000 in
theorem e_C_unheard (x1 : Int32) (x2 : Int32) (x3 : Int32) (x4 : Int32) (s : Mem) : F_C_unheard x1 x2 x3 x4 s = xs C_C_unheard (fun k ls s => none) 0 (fun _ => 0) K_C_unheard 700 K_C_unheard [some (.ref 0), some (.int x1), some (.int x2), some (.int x3), some (.int x4), none] [] s := rfl
def K_W_clear : MC := [(0, .aload 0, 0), (1, .lconst 0, 0), (2, .fstore 801, 0), (5, .lconst 0, 0), (6, .ireturn, 0)]
noncomputable def F_W_clear (h0 : Nat) (s : Mem) : Option (Int32 × Mem) :=
  bif Nat.beq (kd h0) 11 then
  let s1 : Mem := mw s h0 1 0
  some (0, s1)
  else none
noncomputable def A_W_clear (av : List Value) (s : Mem) : Option (Int32 × Mem) := match av with
  | [.ref a0] => F_W_clear a0 s
  | _ => none
noncomputable def C_W_clear (k : Nat) (av : List Value) (s : Mem) : Option (Int32 × Mem) := none
set_option maxRecDepth 100000 in
theorem e_W_clear (h0 : Nat) (s : Mem) : F_W_clear h0 s = xs C_W_clear (fun k ls s => none) 0 (fun _ => 0) K_W_clear 700 K_W_clear [some (.ref h0)] [] s := rfl
def K_W_add : MC := [(0, .aload 0, 0), (1, .fload 801, 0), (4, .lconst 0, 0), (5, .aload 0, 0), (6, .dload 800, 0), (9, .lneg, 0), (10, .lconst 1, 0), (11, .isub, 0), (12, .invokeinterface 2 3, 0), (15, .ifCond .ne 12, 0), (18, .iconst 0, (-1)), (19, .ireturn, 0), (20, .aload 0, 0), (21, .dload 800, 0), (24, .aload 0, 0), (25, .fload 801, 0), (28, .iload 1, 0), (29, .iastore, 0), (30, .aload 0, 0), (31, .dup, 0), (32, .fload 801, 0), (35, .lconst 1, 0), (36, .iadd, 0), (37, .fstore 801, 0), (40, .aload 0, 0), (41, .fload 801, 0), (44, .ireturn, 0)]
noncomputable def F_W_add (h0 : Nat) (x1 : Int32) (s : Mem) : Option (Int32 × Mem) :=
  bif Nat.beq (kd h0) 11 then
  bif Nat.beq (kd h0) 11 then
  bif Nat.beq (kd (rf h0 0)) 1 || Nat.beq (kd (rf h0 0)) 2 then
  (F_C_within (s h0 1) 0 ((nI (ln (rf h0 0))) - 1) s).bind fun z1 =>
  if z1.1 = 0 then
    some ((-1), z1.2)
  else
  bif Nat.beq (kd h0) 11 then
  bif Nat.beq (kd h0) 11 then
  (sd z1.2 (rf h0 0) (z1.2 h0 1) x1).bind fun s2 =>
  bif Nat.beq (kd h0) 11 then
  bif Nat.beq (kd h0) 11 then
  let s3 : Mem := mw s2 h0 1 ((s2 h0 1) + 1)
  bif Nat.beq (kd h0) 11 then
  some ((s3 h0 1), s3)
  else none
  else none
  else none
  else none
  else none
  else none
  else none
  else none
noncomputable def A_W_add (av : List Value) (s : Mem) : Option (Int32 × Mem) := match av with
  | [.ref a0, .int a1] => F_W_add a0 a1 s
  | _ => none
noncomputable def C_W_add (k : Nat) (av : List Value) (s : Mem) : Option (Int32 × Mem) := cbr (Nat.beq k 2) (A_C_within av s) (none)
set_option maxRecDepth 100000 in
theorem e_W_add (h0 : Nat) (x1 : Int32) (s : Mem) : F_W_add h0 x1 s = xs C_W_add (fun k ls s => none) 0 (fun _ => 0) K_W_add 700 K_W_add [some (.ref h0), some (.int x1)] [] s := rfl
def K_C_suspect : MC := [(0, .aload 0, 0), (1, .getstatic 1000, 0), (4, .getstatic 606, 0), (7, .astore 3, 0), (8, .iload 1, 0), (9, .iconst 0, (-1)), (10, .if_icmp .ne 15, 0), (13, .aload 3, 0), (14, .getstatic 901, 0), (17, .invokeinterface 101 145, 0), (20, .pop, 0), (21, .aload 3, 0), (22, .getstatic 900, 0), (25, .invokeinterface 101 145, 0), (28, .ireturn, 0), (29, .iload 1, 0), (30, .iload 2, 0), (31, .invokeinterface 20 2, 0), (34, .ifCond .ne 21, 0), (37, .iconst 0, (-1)), (38, .ireturn, 0), (39, .aload 3, 0), (40, .getstatic 901, 0), (43, .iload 2, 0), (44, .invokeinterface 102 146, 0), (47, .pop, 0), (48, .aload 3, 0), (49, .getstatic 900, 0), (52, .iload 1, 0), (53, .invokeinterface 102 146, 0), (56, .ireturn, 0)]
noncomputable def F_C_suspect (x1 : Int32) (x2 : Int32) (s : Mem) : Option (Int32 × Mem) :=
  if x1 = (-1) then
    (F_W_clear 24 s).bind fun z1 =>
    (F_W_clear 22 z1.2).bind fun z2 =>
    some (z2.1, z2.2)
  else
  (F_C_isVisitor x1 x2 s).bind fun z3 =>
  if z3.1 = 0 then
    some ((-1), z3.2)
  else
  (F_W_add 24 x2 z3.2).bind fun z4 =>
  (F_W_add 22 x1 z4.2).bind fun z5 =>
  some (z5.1, z5.2)
noncomputable def A_C_suspect (av : List Value) (s : Mem) : Option (Int32 × Mem) := match av with
  | [.ref a0, .int a1, .int a2] => cbr (Nat.beq a0 0) (F_C_suspect a1 a2 s) none
  | _ => none
noncomputable def C_C_suspect (k : Nat) (av : List Value) (s : Mem) : Option (Int32 × Mem) := cbr (Nat.beq k 101) (A_W_clear av s) (cbr (Nat.beq k 20) (A_C_isVisitor av s) (cbr (Nat.beq k 102) (A_W_add av s) (none)))
set_option maxRecDepth 100000 in
theorem e_C_suspect (x1 : Int32) (x2 : Int32) (s : Mem) : F_C_suspect x1 x2 s = xs C_C_suspect (fun k ls s => none) 0 (fun _ => 0) K_C_suspect 700 K_C_suspect [some (.ref 0), some (.int x1), some (.int x2), none] [] s := rfl
def K_H_hasSet : MC := [(0, .aload 0, 0), (1, .iload 1, 0), (2, .invokeinterface 7 34, 0), (5, .ifCond .eq 15, 0), (8, .iload 2, 0), (9, .ifCond .lt 15, 0), (12, .iload 2, 0), (13, .lconst 1, 0), (14, .aload 0, 0), (15, .iload 1, 0), (16, .invokeinterface 8 34, 0), (19, .ishl, 0), (20, .if_icmp .ge 15, 0), (23, .lconst 1, 0), (24, .goto 16, 0), (27, .lconst 0, 0), (28, .lreturn, 0)]
noncomputable def F_H_hasSet (x1 : Int32) (x2 : Int32) (s : Mem) : Option (Int32 × Mem) :=
  (F_H_has1 x1 s).bind fun z1 =>
  if z1.1 = 0 then
    some (0, z1.2)
  else
  if x2 < 0 then
    some (0, z1.2)
  else
  (F_H_size 2 x1 z1.2).bind fun z2 =>
  if (shl 1 z2.1) ≤ x2 then
    some (0, z2.2)
  else
  some (1, z2.2)
noncomputable def A_H_hasSet (av : List Value) (s : Mem) : Option (Int32 × Mem) := match av with
  | [.ref a0, .int a1, .int a2] => cbr (Nat.beq a0 2) (F_H_hasSet a1 a2 s) none
  | _ => none
noncomputable def C_H_hasSet (k : Nat) (av : List Value) (s : Mem) : Option (Int32 × Mem) := cbr (Nat.beq k 7) (A_H_has1 av s) (cbr (Nat.beq k 8) (A_H_size av s) (none))
set_option maxRecDepth 100000 in
theorem e_H_hasSet (x1 : Int32) (x2 : Int32) (s : Mem) : F_H_hasSet x1 x2 s = xs C_H_hasSet (fun k ls s => none) 0 (fun _ => 0) K_H_hasSet 700 K_H_hasSet [some (.ref 2), some (.int x1), some (.int x2)] [] s := rfl
def K_W_at : MC := [(0, .iload 1, 0), (1, .lconst 0, 0), (2, .aload 0, 0), (3, .dload 800, 0), (6, .lneg, 0), (7, .lconst 1, 0), (8, .isub, 0), (9, .invokeinterface 2 3, 0), (12, .ifCond .eq 14, 0), (15, .aload 0, 0), (16, .dload 800, 0), (19, .iload 1, 0), (20, .iaload, 0), (21, .goto 15, 0), (24, .lconst 0, 0), (25, .ireturn, 0)]
noncomputable def F_W_at (h0 : Nat) (x1 : Int32) (s : Mem) : Option (Int32 × Mem) :=
  bif Nat.beq (kd h0) 11 then
  bif Nat.beq (kd (rf h0 0)) 1 || Nat.beq (kd (rf h0 0)) 2 then
  (F_C_within x1 0 ((nI (ln (rf h0 0))) - 1) s).bind fun z1 =>
  if z1.1 = 0 then
    some (0, z1.2)
  else
  bif Nat.beq (kd h0) 11 then
  (ld z1.2 (rf h0 0) x1).bind fun v2 =>
  some (v2, z1.2)
  else none
  else none
  else none
noncomputable def A_W_at (av : List Value) (s : Mem) : Option (Int32 × Mem) := match av with
  | [.ref a0, .int a1] => F_W_at a0 a1 s
  | _ => none
noncomputable def C_W_at (k : Nat) (av : List Value) (s : Mem) : Option (Int32 × Mem) := cbr (Nat.beq k 2) (A_C_within av s) (none)
set_option maxRecDepth 100000 in
theorem e_W_at (h0 : Nat) (x1 : Int32) (s : Mem) : F_W_at h0 x1 s = xs C_W_at (fun k ls s => none) 0 (fun _ => 0) K_W_at 700 K_W_at [some (.ref h0), some (.int x1)] [] s := rfl
def K_U_makesCreak : MC := [(0, .aload 0, 0), (1, .getstatic 606, 0), (4, .getstatic 901, 0), (7, .iload 4, 0), (9, .invokeinterface 105 146, 0), (12, .lconst 1, 0), (13, .invokeinterface 21 2, 0), (16, .istore 5, 0), (18, .iload 3, 0), (19, .lconst 1, 0), (20, .iadd, 0), (21, .iload 5, 0), (23, .irem, 0), (24, .ifCond .ne 19, 0), (27, .aload 1, 0), (28, .iload 2, 0), (29, .iload 3, 0), (30, .lload 22563, 0), (33, .ifCond .eq 21, 0), (36, .lconst 0, 0), (37, .lreturn, 0), (38, .aload 0, 0), (39, .aload 1, 0), (40, .iload 2, 0), (41, .iload 3, 0), (42, .aload 0, 0), (43, .getstatic 606, 0), (46, .getstatic 900, 0), (49, .iload 4, 0), (51, .invokeinterface 105 146, 0), (54, .iload 5, 0), (56, .invokeinterface 97 6, 0), (59, .lreturn, 0)]
noncomputable def F_U_makesCreak (h1 : Nat) (x2 : Int32) (x3 : Int32) (x4 : Int32) (s : Mem) : Option (Int32 × Mem) :=
  (F_W_at 24 x4 s).bind fun z1 =>
  (F_JM_max z1.1 1 z1.2).bind fun z2 =>
  if z2.1 = 0 then none else
  if (irm (x3 + 1) z2.1) = 0 then
    bif Nat.beq (kd h1) 4 then
    (F_H_isMissing h1 x2 x3 z2.2).bind fun z3 =>
    if z3.1 = 0 then
      (F_W_at 22 x4 z3.2).bind fun z4 =>
      (F_U_wouldCreak h1 x2 x3 z4.1 z2.1 z4.2).bind fun z5 =>
      if z5.1 &&& 1 = z5.1 then
      some (z5.1, z5.2)
      else none
    else
    some (0, z3.2)
    else none
  else
  some (0, z2.2)
noncomputable def A_U_makesCreak (av : List Value) (s : Mem) : Option (Int32 × Mem) := match av with
  | [.ref a0, .ref a1, .int a2, .int a3, .int a4] => cbr (Nat.beq a0 1) (F_U_makesCreak a1 a2 a3 a4 s) none
  | _ => none
noncomputable def C_U_makesCreak (k : Nat) (av : List Value) (s : Mem) : Option (Int32 × Mem) := cbr (Nat.beq k 105) (A_W_at av s) (cbr (Nat.beq k 21) (A_JM_max av s) (cbr (Nat.beq k 22) (A_H_isMissing av s) (cbr (Nat.beq k 97) (A_U_wouldCreak av s) (none))))
set_option maxRecDepth 100000 in
theorem e_U_makesCreak (h1 : Nat) (x2 : Int32) (x3 : Int32) (x4 : Int32) (s : Mem) : F_U_makesCreak h1 x2 x3 x4 s = xs C_U_makesCreak (fun k ls s => none) 0 (fun _ => 0) K_U_makesCreak 700 K_U_makesCreak [some (.ref 1), some (.ref h1), some (.int x2), some (.int x3), some (.int x4), none] [] s := rfl
def K_U_fitting : MC := [(0, .lconst 0, 0), (1, .istore 4, 0), (3, .lconst 0, 0), (4, .istore 5, 0), (6, .ret 0, 0), (6, .iload 5, 0), (8, .aload 1, 0), (9, .getstatic 606, 0), (12, .getstatic 900, 0), (15, .getfield 801, 0), (18, .if_icmp .ge 53, 0), (21, .lconst 0, 0), (22, .istore 6, 0), (24, .lconst 0, 0), (25, .istore 7, 0), (27, .ret 1, 0), (27, .iload 7, 0), (29, .aload 1, 0), (30, .getstatic 600, 0), (33, .iload 2, 0), (34, .invokeinterface 8 34, 0), (37, .if_icmp .ge 40, 0), (40, .iload 6, 0), (42, .aload 1, 0), (43, .aload 1, 0), (44, .getstatic 600, 0), (47, .iload 2, 0), (48, .iload 7, 0), (50, .iload 5, 0), (52, .invokeinterface 106 5, 0), (55, .ifCond .eq 35, 0), (58, .lconst 1, 0), (59, .iload 7, 0), (61, .ishl, 0), (62, .goto 36, 0), (65, .lconst 0, 0), (66, .ior, 0), (67, .istore 6, 0), (69, .iinc 7 0, 1), (72, .goto 15, 0), (75, .iload 4, 0), (77, .iload 6, 0), (79, .iload 3, 0), (80, .if_icmp .ne 48, 0), (83, .lconst 1, 0), (84, .iload 5, 0), (86, .ishl, 0), (87, .goto 49, 0), (90, .lconst 0, 0), (91, .ior, 0), (92, .istore 4, 0), (94, .iinc 5 0, 1), (97, .goto 4, 0), (100, .iload 4, 0), (102, .ireturn, 0)]
noncomputable def F_U_fitting_14 (k4 : Int32 → Int32 → Int32 → Int32 → Mem → Option (Int32 × Mem)) : Nat → Int32 → Int32 → Int32 → Int32 → Int32 → Int32 → Mem → Option (Int32 × Mem)
  | 0, _, _, _, _, _, _, _ => none
  | n + 1, x2, x3, x4, x5, x6, x7, s =>
    (F_H_size 2 x2 s).bind fun z1 =>
    if z1.1 ≤ x7 then
      if x6 = x3 then
        k4 x2 x3 (x4 ||| (shl 1 x5)) (x5 + 1) z1.2
      else
      k4 x2 x3 (x4 ||| 0) (x5 + 1) z1.2
    else
    (F_U_makesCreak 2 x2 x7 x5 z1.2).bind fun z2 =>
    if z2.1 = 0 then
      F_U_fitting_14 k4 n x2 x3 x4 x5 (x6 ||| 0) (x7 + 1) z2.2
    else
    F_U_fitting_14 k4 n x2 x3 x4 x5 (x6 ||| (shl 1 x7)) (x7 + 1) z2.2
noncomputable def F_U_fitting_4 : Nat → Int32 → Int32 → Int32 → Int32 → Mem → Option (Int32 × Mem)
  | 0, _, _, _, _, _ => none
  | n + 1, x2, x3, x4, x5, s =>
    if (s 22 1) ≤ x5 then
      some (x4, s)
    else
    F_U_fitting_14 (F_U_fitting_4 n) gF x2 x3 x4 x5 0 0 s
noncomputable def F_U_fitting (x2 : Int32) (x3 : Int32) (s : Mem) : Option (Int32 × Mem) :=
  F_U_fitting_4 gF x2 x3 0 0 s
def A_U_fitting_4 (f : Int32 → Int32 → Int32 → Int32 → Mem → Option (Int32 × Mem)) (ls : List (Option Value)) (s : Mem) : Option (Int32 × Mem) := match lk ls 1, lk ls 2, lk ls 3, lk ls 4, lk ls 5 with
  | some (.ref a0), some (.int a1), some (.int a2), some (.int a3), some (.int a4) => cbr (Nat.beq a0 1) (f a1 a2 a3 a4 s) none
  | _, _, _, _, _ => none
def A_U_fitting_14 (f : Int32 → Int32 → Int32 → Int32 → Int32 → Int32 → Mem → Option (Int32 × Mem)) (ls : List (Option Value)) (s : Mem) : Option (Int32 × Mem) := match lk ls 1, lk ls 2, lk ls 3, lk ls 4, lk ls 5, lk ls 6, lk ls 7 with
  | some (.ref a0), some (.int a1), some (.int a2), some (.int a3), some (.int a4), some (.int a5), some (.int a6) => cbr (Nat.beq a0 1) (f a1 a2 a3 a4 a5 a6 s) none
  | _, _, _, _, _, _, _ => none
noncomputable def A_U_fitting (av : List Value) (s : Mem) : Option (Int32 × Mem) := match av with
  | [.ref a0, .ref a1, .int a2, .int a3] => cbr (Nat.beq a0 90) (cbr (Nat.beq a1 1) (F_U_fitting a2 a3 s) none) none
  | _ => none
noncomputable def C_U_fitting (k : Nat) (av : List Value) (s : Mem) : Option (Int32 × Mem) := cbr (Nat.beq k 8) (A_H_size av s) (cbr (Nat.beq k 106) (A_U_makesCreak av s) (none))
set_option maxRecDepth 100000 in
theorem e_U_fitting_14 (k4 : Int32 → Int32 → Int32 → Int32 → Mem → Option (Int32 × Mem)) (n : Nat) (x2 : Int32) (x3 : Int32) (x4 : Int32) (x5 : Int32) (x6 : Int32) (x7 : Int32) (s : Mem) : F_U_fitting_14 k4 (n + 1) x2 x3 x4 x5 x6 x7 s = xs C_U_fitting (fun k ls s => cbr (Nat.beq k 0) (A_U_fitting_4 (k4) ls s) (cbr (Nat.beq k 1) (A_U_fitting_14 (F_U_fitting_14 k4 n) ls s) (none))) 0 (fun _ => 0) K_U_fitting 700 (K_U_fitting.drop 16) [none, some (.ref 1), some (.int x2), some (.int x3), some (.int x4), some (.int x5), some (.int x6), some (.int x7)] [] s := rfl
set_option maxRecDepth 100000 in
theorem e_U_fitting_4  (n : Nat) (x2 : Int32) (x3 : Int32) (x4 : Int32) (x5 : Int32) (s : Mem) : F_U_fitting_4 (n + 1) x2 x3 x4 x5 s = xs C_U_fitting (fun k ls s => cbr (Nat.beq k 1) (A_U_fitting_14 (F_U_fitting_14 (F_U_fitting_4 n) gF) ls s) (none)) 0 (fun _ => 0) K_U_fitting 700 (K_U_fitting.drop 5) [none, some (.ref 1), some (.int x2), some (.int x3), some (.int x4), some (.int x5), none, none] [] s := rfl
set_option maxRecDepth 100000 in
theorem e_U_fitting (x2 : Int32) (x3 : Int32) (s : Mem) : F_U_fitting x2 x3 s = xs C_U_fitting (fun k ls s => cbr (Nat.beq k 0) (A_U_fitting_4 (F_U_fitting_4 gF) ls s) (none)) 0 (fun _ => 0) K_U_fitting 700 K_U_fitting [some (.ref 90), some (.ref 1), some (.int x2), some (.int x3), none, none, none, none] [] s := rfl
def K_U_tellingStep : MC := [(0, .aload 0, 0), (1, .getstatic 400, 0), (4, .aload 1, 0), (5, .getstatic 600, 0), (8, .multianewarray 13 34, 0), (11, .lconst 0, 0), (12, .istore 4, 0), (14, .ret 0, 0), (14, .iload 4, 0), (16, .aload 0, 0), (17, .getstatic 400, 0), (20, .iload 2, 0), (21, .invokeinterface 8 34, 0), (24, .if_icmp .ge 71, 0), (27, .aload 0, 0), (28, .getstatic 400, 0), (31, .iconst 0, 2), (32, .iload 2, 0), (33, .iload 4, 0), (35, .lconst 1, 0), (36, .iconst 0, 9), (38, .multianewarray 17 38, 0), (41, .lconst 0, 0), (42, .istore 5, 0), (44, .lconst 0, 0), (45, .istore 6, 0), (47, .ret 1, 0), (47, .iload 6, 0), (49, .aload 1, 0), (50, .getstatic 606, 0), (53, .getstatic 900, 0), (56, .getfield 801, 0), (59, .if_icmp .ge 62, 0), (62, .iload 3, 0), (63, .iload 6, 0), (65, .ishr, 0), (66, .lconst 1, 0), (67, .iand, 0), (68, .lconst 1, 0), (69, .if_icmp .ne 42, 0), (72, .lconst 1, 0), (73, .goto 43, 0), (76, .lconst 0, 0), (77, .istore 7, 0), (79, .iload 7, 0), (81, .ifCond .eq 60, 0), (84, .aload 1, 0), (85, .aload 0, 0), (86, .getstatic 400, 0), (89, .iload 2, 0), (90, .iload 4, 0), (92, .iload 6, 0), (94, .invokeinterface 106 5, 0), (97, .ifCond .eq 60, 0), (100, .iload 5, 0), (102, .lconst 1, 0), (103, .iload 6, 0), (105, .ishl, 0), (106, .ior, 0), (107, .istore 5, 0), (109, .iinc 6 0, 1), (112, .goto 26, 0), (115, .iload 5, 0), (117, .ifCond .eq 69, 0), (120, .iload 5, 0), (122, .iload 3, 0), (123, .if_icmp .eq 69, 0), (126, .iload 4, 0), (128, .ireturn, 0), (129, .iinc 4 0, 1), (132, .goto 7, 0), (135, .iconst 0, (-1)), (136, .ireturn, 0)]
noncomputable def F_U_tellingStep_25 (k7 : Int32 → Int32 → Int32 → Mem → Option (Int32 × Mem)) : Nat → Int32 → Int32 → Int32 → Int32 → Int32 → Mem → Option (Int32 × Mem)
  | 0, _, _, _, _, _, _ => none
  | n + 1, x2, x3, x4, x5, x6, s =>
    if (s 22 1) ≤ x6 then
      if x5 = 0 then
        k7 x2 x3 (x4 + 1) s
      else
      if x5 = x3 then
        k7 x2 x3 (x4 + 1) s
      else
      some (x4, s)
    else
    if ((shr x3 x6) &&& 1) = 1 then
      (F_U_makesCreak 91 x2 x4 x6 s).bind fun z1 =>
      if z1.1 = 0 then
        F_U_tellingStep_25 k7 n x2 x3 x4 x5 (x6 + 1) z1.2
      else
      F_U_tellingStep_25 k7 n x2 x3 x4 (x5 ||| (shl 1 x6)) (x6 + 1) z1.2
    else
    F_U_tellingStep_25 k7 n x2 x3 x4 x5 (x6 + 1) s
noncomputable def F_U_tellingStep_7 : Nat → Int32 → Int32 → Int32 → Mem → Option (Int32 × Mem)
  | 0, _, _, _, _ => none
  | n + 1, x2, x3, x4, s =>
    (F_H_size 91 x2 s).bind fun z1 =>
    if z1.1 ≤ x4 then
      some ((-1), z1.2)
    else
    (F_H_raiseTo 91 2 x2 x4 1 9 z1.2).bind fun z2 =>
    F_U_tellingStep_25 (F_U_tellingStep_7 n) gF x2 x3 x4 0 0 z2.2
noncomputable def F_U_tellingStep (x2 : Int32) (x3 : Int32) (s : Mem) : Option (Int32 × Mem) :=
  (F_H_copyFrom 91 2 s).bind fun z1 =>
  F_U_tellingStep_7 gF x2 x3 0 z1.2
def A_U_tellingStep_7 (f : Int32 → Int32 → Int32 → Mem → Option (Int32 × Mem)) (ls : List (Option Value)) (s : Mem) : Option (Int32 × Mem) := match lk ls 0, lk ls 1, lk ls 2, lk ls 3, lk ls 4 with
  | some (.ref a0), some (.ref a1), some (.int a2), some (.int a3), some (.int a4) => cbr (Nat.beq a0 90) (cbr (Nat.beq a1 1) (f a2 a3 a4 s) none) none
  | _, _, _, _, _ => none
def A_U_tellingStep_25 (f : Int32 → Int32 → Int32 → Int32 → Int32 → Mem → Option (Int32 × Mem)) (ls : List (Option Value)) (s : Mem) : Option (Int32 × Mem) := match lk ls 0, lk ls 1, lk ls 2, lk ls 3, lk ls 4, lk ls 5, lk ls 6 with
  | some (.ref a0), some (.ref a1), some (.int a2), some (.int a3), some (.int a4), some (.int a5), some (.int a6) => cbr (Nat.beq a0 90) (cbr (Nat.beq a1 1) (f a2 a3 a4 a5 a6 s) none) none
  | _, _, _, _, _, _, _ => none
noncomputable def A_U_tellingStep (av : List Value) (s : Mem) : Option (Int32 × Mem) := match av with
  | [.ref a0, .ref a1, .int a2, .int a3] => cbr (Nat.beq a0 90) (cbr (Nat.beq a1 1) (F_U_tellingStep a2 a3 s) none) none
  | _ => none
noncomputable def C_U_tellingStep (k : Nat) (av : List Value) (s : Mem) : Option (Int32 × Mem) := cbr (Nat.beq k 13) (A_H_copyFrom av s) (cbr (Nat.beq k 8) (A_H_size av s) (cbr (Nat.beq k 17) (A_H_raiseTo av s) (cbr (Nat.beq k 106) (A_U_makesCreak av s) (none))))
set_option maxRecDepth 100000 in
theorem e_U_tellingStep_25 (k7 : Int32 → Int32 → Int32 → Mem → Option (Int32 × Mem)) (n : Nat) (x2 : Int32) (x3 : Int32) (x4 : Int32) (x5 : Int32) (x6 : Int32) (s : Mem) : F_U_tellingStep_25 k7 (n + 1) x2 x3 x4 x5 x6 s = xs C_U_tellingStep (fun k ls s => cbr (Nat.beq k 0) (A_U_tellingStep_7 (k7) ls s) (cbr (Nat.beq k 1) (A_U_tellingStep_25 (F_U_tellingStep_25 k7 n) ls s) (none))) 0 (fun _ => 0) K_U_tellingStep 700 (K_U_tellingStep.drop 27) [some (.ref 90), some (.ref 1), some (.int x2), some (.int x3), some (.int x4), some (.int x5), some (.int x6), none] [] s := rfl
set_option maxRecDepth 100000 in
theorem e_U_tellingStep_7  (n : Nat) (x2 : Int32) (x3 : Int32) (x4 : Int32) (s : Mem) : F_U_tellingStep_7 (n + 1) x2 x3 x4 s = xs C_U_tellingStep (fun k ls s => cbr (Nat.beq k 1) (A_U_tellingStep_25 (F_U_tellingStep_25 (F_U_tellingStep_7 n) gF) ls s) (none)) 0 (fun _ => 0) K_U_tellingStep 700 (K_U_tellingStep.drop 8) [some (.ref 90), some (.ref 1), some (.int x2), some (.int x3), some (.int x4), none, none, none] [] s := rfl
set_option maxRecDepth 100000 in
theorem e_U_tellingStep (x2 : Int32) (x3 : Int32) (s : Mem) : F_U_tellingStep x2 x3 s = xs C_U_tellingStep (fun k ls s => cbr (Nat.beq k 0) (A_U_tellingStep_7 (F_U_tellingStep_7 gF) ls s) (none)) 0 (fun _ => 0) K_U_tellingStep 700 K_U_tellingStep [some (.ref 90), some (.ref 1), some (.int x2), some (.int x3), none, none, none, none] [] s := rfl
def K_C_who : MC := [(0, .aload 0, 0), (1, .getstatic 1000, 0), (4, .getstatic 600, 0), (7, .iload 1, 0), (8, .iload 2, 0), (9, .invokeinterface 104 35, 0), (12, .ifCond .eq 12, 0), (15, .iload 3, 0), (16, .lconst 0, 0), (17, .lconst 1, 0), (18, .invokeinterface 2 3, 0), (21, .ifCond .ne 14, 0), (24, .iconst 0, (-1)), (25, .ireturn, 0), (26, .aload 0, 0), (27, .getstatic 1012, 0), (30, .aload 0, 0), (31, .getstatic 1000, 0), (34, .iload 1, 0), (35, .iload 2, 0), (36, .invokeinterface 107 84, 0), (39, .istore 4, 0), (41, .iload 3, 0), (42, .ifCond .ne 26, 0), (45, .iload 4, 0), (47, .goto 33, 0), (50, .aload 0, 0), (51, .getstatic 1012, 0), (54, .aload 0, 0), (55, .getstatic 1000, 0), (58, .iload 1, 0), (59, .iload 4, 0), (61, .invokeinterface 108 84, 0), (64, .ireturn, 0)]
noncomputable def F_C_who (x1 : Int32) (x2 : Int32) (x3 : Int32) (s : Mem) : Option (Int32 × Mem) :=
  (F_H_hasSet x1 x2 s).bind fun z1 =>
  if z1.1 = 0 then
    some ((-1), z1.2)
  else
  (F_C_within x3 0 1 z1.2).bind fun z2 =>
  if z2.1 = 0 then
    some ((-1), z2.2)
  else
  (F_U_fitting x1 x2 z2.2).bind fun z3 =>
  if x3 = 0 then
    some (z3.1, z3.2)
  else
  (F_U_tellingStep x1 z3.1 z3.2).bind fun z4 =>
  some (z4.1, z4.2)
noncomputable def A_C_who (av : List Value) (s : Mem) : Option (Int32 × Mem) := match av with
  | [.ref a0, .int a1, .int a2, .int a3] => cbr (Nat.beq a0 0) (F_C_who a1 a2 a3 s) none
  | _ => none
noncomputable def C_C_who (k : Nat) (av : List Value) (s : Mem) : Option (Int32 × Mem) := cbr (Nat.beq k 104) (A_H_hasSet av s) (cbr (Nat.beq k 2) (A_C_within av s) (cbr (Nat.beq k 107) (A_U_fitting av s) (cbr (Nat.beq k 108) (A_U_tellingStep av s) (none))))
set_option maxRecDepth 100000 in
theorem e_C_who (x1 : Int32) (x2 : Int32) (x3 : Int32) (s : Mem) : F_C_who x1 x2 x3 s = xs C_C_who (fun k ls s => none) 0 (fun _ => 0) K_C_who 700 K_C_who [some (.ref 0), some (.int x1), some (.int x2), some (.int x3), none] [] s := rfl
def K_JA_fill : MC := [(0, .lconst 0, 0), (1, .istore 2, 0), (2, .aload 0, 0), (3, .lneg, 0), (4, .istore 3, 0), (5, .ret 0, 0), (5, .iload 2, 0), (6, .iload 3, 0), (7, .if_icmp .ge 15, 0), (10, .aload 0, 0), (11, .iload 2, 0), (12, .iload 1, 0), (13, .iastore, 0), (14, .iinc 2 0, 1), (17, .goto 5, 0), (20, .return_, 0)]
noncomputable def F_JA_fill_5 : Nat → Nat → Int32 → Int32 → Int32 → Mem → Option (Int32 × Mem)
  | 0, _, _, _, _, _ => none
  | n + 1, h0, x1, x2, x3, s =>
    if x3 ≤ x2 then
      some (0, s)
    else
    (sd s h0 x2 x1).bind fun s1 =>
    F_JA_fill_5 n h0 x1 (x2 + 1) x3 s1
noncomputable def F_JA_fill (h0 : Nat) (x1 : Int32) (s : Mem) : Option (Int32 × Mem) :=
  bif Nat.beq (kd h0) 1 || Nat.beq (kd h0) 2 then
  F_JA_fill_5 gF h0 x1 0 (nI (ln h0)) s
  else none
def A_JA_fill_5 (f : Nat → Int32 → Int32 → Int32 → Mem → Option (Int32 × Mem)) (ls : List (Option Value)) (s : Mem) : Option (Int32 × Mem) := match lk ls 0, lk ls 1, lk ls 2, lk ls 3 with
  | some (.ref a0), some (.int a1), some (.int a2), some (.int a3) => f a0 a1 a2 a3 s
  | _, _, _, _ => none
noncomputable def A_JA_fill (av : List Value) (s : Mem) : Option (Int32 × Mem) := match av with
  | [.ref a0, .int a1] => F_JA_fill a0 a1 s
  | _ => none
noncomputable def C_JA_fill (k : Nat) (av : List Value) (s : Mem) : Option (Int32 × Mem) := none
set_option maxRecDepth 100000 in
theorem e_JA_fill_5  (n : Nat) (h0 : Nat) (x1 : Int32) (x2 : Int32) (x3 : Int32) (s : Mem) : F_JA_fill_5 (n + 1) h0 x1 x2 x3 s = xs C_JA_fill (fun k ls s => cbr (Nat.beq k 0) (A_JA_fill_5 (F_JA_fill_5 n) ls s) (none)) 0 (fun _ => 0) K_JA_fill 700 (K_JA_fill.drop 6) [some (.ref h0), some (.int x1), some (.int x2), some (.int x3)] [] s := rfl
set_option maxRecDepth 100000 in
theorem e_JA_fill (h0 : Nat) (x1 : Int32) (s : Mem) : F_JA_fill h0 x1 s = xs C_JA_fill (fun k ls s => cbr (Nat.beq k 0) (A_JA_fill_5 (F_JA_fill_5 gF) ls s) (none)) 0 (fun _ => 0) K_JA_fill 700 K_JA_fill [some (.ref h0), some (.int x1), none, none] [] s := rfl
def K_JI_bitCount : MC := [(0, .iload 0, 0), (1, .iload 0, 0), (2, .lconst 1, 0), (3, .iushr, 0), (4, .iconst 0, 1431655765), (7, .iand, 0), (8, .isub, 0), (9, .istore 0, 0), (10, .iload 0, 0), (11, .iconst 0, 858993459), (14, .iand, 0), (15, .iload 0, 0), (16, .iconst 0, 2), (17, .iushr, 0), (18, .iconst 0, 858993459), (21, .iand, 0), (22, .iadd, 0), (23, .istore 0, 0), (24, .iload 0, 0), (25, .iload 0, 0), (26, .iconst 0, 4), (27, .iushr, 0), (28, .iadd, 0), (29, .iconst 0, 252645135), (32, .iand, 0), (33, .istore 0, 0), (34, .iload 0, 0), (35, .iload 0, 0), (36, .iconst 0, 8), (38, .iushr, 0), (39, .iadd, 0), (40, .istore 0, 0), (41, .iload 0, 0), (42, .iload 0, 0), (43, .iconst 0, 16), (45, .iushr, 0), (46, .iadd, 0), (47, .istore 0, 0), (48, .iload 0, 0), (49, .iconst 0, 63), (51, .iand, 0), (52, .ireturn, 0)]
noncomputable def F_JI_bitCount (x0 : Int32) (s : Mem) : Option (Int32 × Mem) :=
  let y1 : Int32 := (x0 - ((ush x0 1) &&& 1431655765))
  let y2 : Int32 := ((y1 &&& 858993459) + ((ush y1 2) &&& 858993459))
  let y3 : Int32 := ((y2 + (ush y2 4)) &&& 252645135)
  let y4 : Int32 := ((y3 + (ush y3 8)) + (ush (y3 + (ush y3 8)) 16))
  some ((y4 &&& 63), s)
noncomputable def A_JI_bitCount (av : List Value) (s : Mem) : Option (Int32 × Mem) := match av with
  | [.int a0] => F_JI_bitCount a0 s
  | _ => none
noncomputable def C_JI_bitCount (k : Nat) (av : List Value) (s : Mem) : Option (Int32 × Mem) := none
set_option maxRecDepth 100000 in
theorem e_JI_bitCount (x0 : Int32) (s : Mem) : F_JI_bitCount x0 s = xs C_JI_bitCount (fun k ls s => none) 0 (fun _ => 0) K_JI_bitCount 700 K_JI_bitCount [some (.int x0)] [] s := rfl
def K_U_betterSet : MC := [(0, .iload 0, 0), (1, .iconst 0, (-1)), (2, .if_icmp .eq 6, 0), (5, .iload 1, 0), (6, .iconst 0, (-1)), (7, .if_icmp .ne 10, 0), (10, .iload 0, 0), (11, .iload 1, 0), (12, .invokeinterface 21 2, 0), (15, .ireturn, 0), (16, .iload 0, 0), (17, .invokeinterface 111 1, 0), (20, .iload 1, 0), (21, .invokeinterface 111 1, 0), (24, .isub, 0), (25, .istore 2, 0), (26, .iload 2, 0), (27, .ifCond .eq 24, 0), (30, .iload 2, 0), (31, .ifCond .le 22, 0), (34, .iload 0, 0), (35, .goto 23, 0), (38, .iload 1, 0), (39, .ireturn, 0), (40, .iload 0, 0), (41, .iload 1, 0), (42, .invokeinterface 14 2, 0), (45, .ireturn, 0)]
noncomputable def F_U_betterSet (x0 : Int32) (x1 : Int32) (s : Mem) : Option (Int32 × Mem) :=
  if x0 = (-1) then
    (F_JM_max x0 x1 s).bind fun z1 =>
    some (z1.1, z1.2)
  else
  if x1 = (-1) then
    (F_JM_max x0 x1 s).bind fun z2 =>
    some (z2.1, z2.2)
  else
  (F_JI_bitCount x0 s).bind fun z3 =>
  (F_JI_bitCount x1 z3.2).bind fun z4 =>
  if (z3.1 - z4.1) = 0 then
    (F_JM_min x0 x1 z4.2).bind fun z5 =>
    some (z5.1, z5.2)
  else
  if (z3.1 - z4.1) ≤ 0 then
    some (x1, z4.2)
  else
  some (x0, z4.2)
noncomputable def A_U_betterSet (av : List Value) (s : Mem) : Option (Int32 × Mem) := match av with
  | [.int a0, .int a1] => F_U_betterSet a0 a1 s
  | _ => none
noncomputable def C_U_betterSet (k : Nat) (av : List Value) (s : Mem) : Option (Int32 × Mem) := cbr (Nat.beq k 21) (A_JM_max av s) (cbr (Nat.beq k 111) (A_JI_bitCount av s) (cbr (Nat.beq k 14) (A_JM_min av s) (none)))
set_option maxRecDepth 100000 in
theorem e_U_betterSet (x0 : Int32) (x1 : Int32) (s : Mem) : F_U_betterSet x0 x1 s = xs C_U_betterSet (fun k ls s => none) 0 (fun _ => 0) K_U_betterSet 700 K_U_betterSet [some (.int x0), some (.int x1), none] [] s := rfl
def K_U_leaveSet : MC := [(0, .lconst 1, 0), (1, .iload 3, 0), (2, .iconst 0, 5), (3, .invokeinterface 14 2, 0), (6, .invokeinterface 21 2, 0), (9, .istore 4, 0), (11, .aload 0, 0), (12, .getstatic 403, 0), (15, .iconst 0, (-1)), (16, .multianewarray 110 2, 0), (19, .aload 0, 0), (20, .getstatic 403, 0), (23, .lconst 0, 0), (24, .lconst 0, 0), (25, .iastore, 0), (26, .lconst 0, 0), (27, .istore 5, 0), (29, .ret 0, 0), (29, .iload 5, 0), (31, .aload 1, 0), (32, .iload 2, 0), (33, .invokeinterface 8 34, 0), (36, .if_icmp .ge 100, 0), (39, .aload 1, 0), (40, .iload 2, 0), (41, .iload 5, 0), (43, .invokeinterface 22 35, 0), (46, .istore 6, 0), (48, .aload 0, 0), (49, .getstatic 404, 0), (52, .iconst 0, (-1)), (53, .multianewarray 110 2, 0), (56, .lconst 0, 0), (57, .istore 7, 0), (59, .ret 1, 0), (59, .iload 7, 0), (61, .iload 4, 0), (63, .if_icmp .ge 88, 0), (66, .aload 0, 0), (67, .getstatic 403, 0), (70, .iload 7, 0), (72, .iaload, 0), (73, .istore 8, 0), (75, .iload 8, 0), (77, .iconst 0, (-1)), (78, .if_icmp .ne 47, 0), (81, .goto 86, 0), (84, .iload 6, 0), (86, .ifCond .ne 59, 0), (89, .aload 0, 0), (90, .getstatic 404, 0), (93, .lconst 0, 0), (94, .aload 0, 0), (95, .getstatic 404, 0), (98, .lconst 0, 0), (99, .iaload, 0), (100, .iload 8, 0), (102, .invokeinterface 112 2, 0), (105, .iastore, 0), (106, .iload 7, 0), (108, .lconst 1, 0), (109, .iadd, 0), (110, .iload 4, 0), (112, .if_icmp .ge 86, 0), (115, .aload 0, 0), (116, .getstatic 404, 0), (119, .iload 7, 0), (121, .lconst 1, 0), (122, .iadd, 0), (123, .aload 0, 0), (124, .getstatic 404, 0), (127, .iload 7, 0), (129, .lconst 1, 0), (130, .iadd, 0), (131, .iaload, 0), (132, .iload 6, 0), (134, .ifCond .eq 79, 0), (137, .iload 8, 0), (139, .goto 84, 0), (142, .iload 8, 0), (144, .lconst 1, 0), (145, .iload 5, 0), (147, .ishl, 0), (148, .ior, 0), (149, .invokeinterface 112 2, 0), (152, .iastore, 0), (153, .iinc 7 0, 1), (156, .goto 34, 0), (159, .aload 0, 0), (160, .getstatic 404, 0), (163, .lconst 0, 0), (164, .aload 0, 0), (165, .getstatic 403, 0), (168, .lconst 0, 0), (169, .aload 0, 0), (170, .getstatic 403, 0), (173, .arraylength, 0), (174, .invokedynamic 0, 0), (177, .iinc 5 0, 1), (180, .goto 17, 0), (183, .iconst 0, (-1)), (184, .istore 5, 0), (186, .lconst 0, 0), (187, .istore 6, 0), (189, .ret 2, 0), (189, .iload 6, 0), (191, .iload 4, 0), (193, .if_icmp .ge 117, 0), (196, .iload 5, 0), (198, .aload 0, 0), (199, .getstatic 403, 0), (202, .iload 6, 0), (204, .iaload, 0), (205, .invokeinterface 112 2, 0), (208, .istore 5, 0), (210, .iinc 6 0, 1), (213, .goto 104, 0), (216, .iload 5, 0), (218, .ireturn, 0)]
noncomputable def F_U_leaveSet_33 (k17 : Int32 → Int32 → Int32 → Mem → Option (Int32 × Mem)) : Nat → Int32 → Int32 → Int32 → Int32 → Int32 → Mem → Option (Int32 × Mem)
  | 0, _, _, _, _, _, _ => none
  | n + 1, x2, x4, x5, x6, x7, s =>
    if x4 ≤ x7 then
      (cpy s 97 0 96 0 5).bind fun s1 =>
      k17 x2 x4 (x5 + 1) s1
    else
    (ld s 96 x7).bind fun v2 =>
    if v2 = (-1) then
      F_U_leaveSet_33 k17 n x2 x4 x5 x6 (x7 + 1) s
    else
    if x6 = 0 then
      (ld s 97 0).bind fun v3 =>
      (F_U_betterSet v3 v2 s).bind fun z4 =>
      (sd z4.2 97 0 z4.1).bind fun s5 =>
      if x4 ≤ (x7 + 1) then
        F_U_leaveSet_33 k17 n x2 x4 x5 x6 (x7 + 1) s5
      else
      (ld s5 97 (x7 + 1)).bind fun v6 =>
      if x6 = 0 then
        (F_U_betterSet v6 (v2 ||| (shl 1 x5)) s5).bind fun z7 =>
        (sd z7.2 97 (x7 + 1) z7.1).bind fun s8 =>
        F_U_leaveSet_33 k17 n x2 x4 x5 x6 (x7 + 1) s8
      else
      (F_U_betterSet v6 v2 s5).bind fun z9 =>
      (sd z9.2 97 (x7 + 1) z9.1).bind fun s10 =>
      F_U_leaveSet_33 k17 n x2 x4 x5 x6 (x7 + 1) s10
    else
    if x4 ≤ (x7 + 1) then
      F_U_leaveSet_33 k17 n x2 x4 x5 x6 (x7 + 1) s
    else
    (ld s 97 (x7 + 1)).bind fun v11 =>
    if x6 = 0 then
      (F_U_betterSet v11 (v2 ||| (shl 1 x5)) s).bind fun z12 =>
      (sd z12.2 97 (x7 + 1) z12.1).bind fun s13 =>
      F_U_leaveSet_33 k17 n x2 x4 x5 x6 (x7 + 1) s13
    else
    (F_U_betterSet v11 v2 s).bind fun z14 =>
    (sd z14.2 97 (x7 + 1) z14.1).bind fun s15 =>
    F_U_leaveSet_33 k17 n x2 x4 x5 x6 (x7 + 1) s15
noncomputable def F_U_leaveSet_102 : Nat → Int32 → Int32 → Int32 → Mem → Option (Int32 × Mem)
  | 0, _, _, _, _ => none
  | n + 1, x4, x5, x6, s =>
    if x4 ≤ x6 then
      some (x5, s)
    else
    (ld s 96 x6).bind fun v1 =>
    (F_U_betterSet x5 v1 s).bind fun z2 =>
    F_U_leaveSet_102 n x4 z2.1 (x6 + 1) z2.2
noncomputable def F_U_leaveSet_17 : Nat → Int32 → Int32 → Int32 → Mem → Option (Int32 × Mem)
  | 0, _, _, _, _ => none
  | n + 1, x2, x4, x5, s =>
    (F_H_size 2 x2 s).bind fun z1 =>
    if z1.1 ≤ x5 then
      F_U_leaveSet_102 gF x4 (-1) 0 z1.2
    else
    (F_H_isMissing 2 x2 x5 z1.2).bind fun z2 =>
    (F_JA_fill 97 (-1) z2.2).bind fun z3 =>
    F_U_leaveSet_33 (F_U_leaveSet_17 n) gF x2 x4 x5 z2.1 0 z3.2
noncomputable def F_U_leaveSet (x2 : Int32) (x3 : Int32) (s : Mem) : Option (Int32 × Mem) :=
  (F_JM_min x3 5 s).bind fun z1 =>
  (F_JM_max 1 z1.1 z1.2).bind fun z2 =>
  (F_JA_fill 96 (-1) z2.2).bind fun z3 =>
  (sd z3.2 96 0 0).bind fun s4 =>
  F_U_leaveSet_17 gF x2 z2.1 0 s4
def A_U_leaveSet_17 (f : Int32 → Int32 → Int32 → Mem → Option (Int32 × Mem)) (ls : List (Option Value)) (s : Mem) : Option (Int32 × Mem) := match lk ls 0, lk ls 1, lk ls 2, lk ls 4, lk ls 5 with
  | some (.ref a0), some (.ref a1), some (.int a2), some (.int a3), some (.int a4) => cbr (Nat.beq a0 90) (cbr (Nat.beq a1 2) (f a2 a3 a4 s) none) none
  | _, _, _, _, _ => none
def A_U_leaveSet_33 (f : Int32 → Int32 → Int32 → Int32 → Int32 → Mem → Option (Int32 × Mem)) (ls : List (Option Value)) (s : Mem) : Option (Int32 × Mem) := match lk ls 0, lk ls 1, lk ls 2, lk ls 4, lk ls 5, lk ls 6, lk ls 7 with
  | some (.ref a0), some (.ref a1), some (.int a2), some (.int a3), some (.int a4), some (.int a5), some (.int a6) => cbr (Nat.beq a0 90) (cbr (Nat.beq a1 2) (f a2 a3 a4 a5 a6 s) none) none
  | _, _, _, _, _, _, _ => none
def A_U_leaveSet_102 (f : Int32 → Int32 → Int32 → Mem → Option (Int32 × Mem)) (ls : List (Option Value)) (s : Mem) : Option (Int32 × Mem) := match lk ls 0, lk ls 4, lk ls 5, lk ls 6 with
  | some (.ref a0), some (.int a1), some (.int a2), some (.int a3) => cbr (Nat.beq a0 90) (f a1 a2 a3 s) none
  | _, _, _, _ => none
noncomputable def A_U_leaveSet (av : List Value) (s : Mem) : Option (Int32 × Mem) := match av with
  | [.ref a0, .ref a1, .int a2, .int a3] => cbr (Nat.beq a0 90) (cbr (Nat.beq a1 2) (F_U_leaveSet a2 a3 s) none) none
  | _ => none
noncomputable def C_U_leaveSet (k : Nat) (av : List Value) (s : Mem) : Option (Int32 × Mem) := cbr (Nat.beq k 14) (A_JM_min av s) (cbr (Nat.beq k 21) (A_JM_max av s) (cbr (Nat.beq k 110) (A_JA_fill av s) (cbr (Nat.beq k 8) (A_H_size av s) (cbr (Nat.beq k 22) (A_H_isMissing av s) (cbr (Nat.beq k 112) (A_U_betterSet av s) (none))))))
set_option maxRecDepth 100000 in
theorem e_U_leaveSet_33 (k17 : Int32 → Int32 → Int32 → Mem → Option (Int32 × Mem)) (n : Nat) (x2 : Int32) (x4 : Int32) (x5 : Int32) (x6 : Int32) (x7 : Int32) (s : Mem) : F_U_leaveSet_33 k17 (n + 1) x2 x4 x5 x6 x7 s = xs C_U_leaveSet (fun k ls s => cbr (Nat.beq k 0) (A_U_leaveSet_17 (k17) ls s) (cbr (Nat.beq k 1) (A_U_leaveSet_33 (F_U_leaveSet_33 k17 n) ls s) (none))) 0 (fun _ => 0) K_U_leaveSet 700 (K_U_leaveSet.drop 35) [some (.ref 90), some (.ref 2), some (.int x2), none, some (.int x4), some (.int x5), some (.int x6), some (.int x7), none] [] s := rfl
set_option maxRecDepth 100000 in
theorem e_U_leaveSet_102  (n : Nat) (x4 : Int32) (x5 : Int32) (x6 : Int32) (s : Mem) : F_U_leaveSet_102 (n + 1) x4 x5 x6 s = xs C_U_leaveSet (fun k ls s => cbr (Nat.beq k 2) (A_U_leaveSet_102 (F_U_leaveSet_102 n) ls s) (none)) 0 (fun _ => 0) K_U_leaveSet 700 (K_U_leaveSet.drop 105) [some (.ref 90), none, none, none, some (.int x4), some (.int x5), some (.int x6), none, none] [] s := rfl
set_option maxRecDepth 100000 in
theorem e_U_leaveSet_17  (n : Nat) (x2 : Int32) (x4 : Int32) (x5 : Int32) (s : Mem) : F_U_leaveSet_17 (n + 1) x2 x4 x5 s = xs C_U_leaveSet (fun k ls s => cbr (Nat.beq k 1) (A_U_leaveSet_33 (F_U_leaveSet_33 (F_U_leaveSet_17 n) gF) ls s) (cbr (Nat.beq k 2) (A_U_leaveSet_102 (F_U_leaveSet_102 gF) ls s) (none))) 0 (fun _ => 0) K_U_leaveSet 700 (K_U_leaveSet.drop 18) [some (.ref 90), some (.ref 2), some (.int x2), none, some (.int x4), some (.int x5), none, none, none] [] s := rfl
set_option maxRecDepth 100000 in
theorem e_U_leaveSet (x2 : Int32) (x3 : Int32) (s : Mem) : F_U_leaveSet x2 x3 s = xs C_U_leaveSet (fun k ls s => cbr (Nat.beq k 0) (A_U_leaveSet_17 (F_U_leaveSet_17 gF) ls s) (none)) 0 (fun _ => 0) K_U_leaveSet 700 K_U_leaveSet [some (.ref 90), some (.ref 2), some (.int x2), some (.int x3), none, none, none, none, none] [] s := rfl
def K_C_roster : MC := [(0, .aload 0, 0), (1, .getstatic 1000, 0), (4, .getstatic 600, 0), (7, .iload 1, 0), (8, .invokeinterface 7 34, 0), (11, .ifCond .eq 16, 0), (14, .iload 2, 0), (15, .lconst 1, 0), (16, .iconst 0, 5), (17, .invokeinterface 2 3, 0), (20, .ifCond .eq 16, 0), (23, .iload 3, 0), (24, .lconst 0, 0), (25, .lconst 1, 0), (26, .invokeinterface 2 3, 0), (29, .ifCond .ne 18, 0), (32, .iconst 0, (-1)), (33, .ireturn, 0), (34, .aload 0, 0), (35, .getstatic 1012, 0), (38, .aload 0, 0), (39, .getstatic 1000, 0), (42, .getstatic 600, 0), (45, .iload 1, 0), (46, .iload 2, 0), (47, .invokeinterface 113 84, 0), (50, .istore 4, 0), (52, .iload 3, 0), (53, .lconst 1, 0), (54, .if_icmp .eq 33, 0), (57, .iload 4, 0), (59, .iconst 0, (-1)), (60, .if_icmp .ne 35, 0), (63, .iload 4, 0), (65, .goto 37, 0), (68, .iload 4, 0), (70, .invokeinterface 111 1, 0), (73, .ireturn, 0)]
noncomputable def F_C_roster (x1 : Int32) (x2 : Int32) (x3 : Int32) (s : Mem) : Option (Int32 × Mem) :=
  (F_H_has1 x1 s).bind fun z1 =>
  if z1.1 = 0 then
    some ((-1), z1.2)
  else
  (F_C_within x2 1 5 z1.2).bind fun z2 =>
  if z2.1 = 0 then
    some ((-1), z2.2)
  else
  (F_C_within x3 0 1 z2.2).bind fun z3 =>
  if z3.1 = 0 then
    some ((-1), z3.2)
  else
  (F_U_leaveSet x1 x2 z3.2).bind fun z4 =>
  if x3 = 1 then
    some (z4.1, z4.2)
  else
  if z4.1 = (-1) then
    some (z4.1, z4.2)
  else
  (F_JI_bitCount z4.1 z4.2).bind fun z5 =>
  some (z5.1, z5.2)
noncomputable def A_C_roster (av : List Value) (s : Mem) : Option (Int32 × Mem) := match av with
  | [.ref a0, .int a1, .int a2, .int a3] => cbr (Nat.beq a0 0) (F_C_roster a1 a2 a3 s) none
  | _ => none
noncomputable def C_C_roster (k : Nat) (av : List Value) (s : Mem) : Option (Int32 × Mem) := cbr (Nat.beq k 7) (A_H_has1 av s) (cbr (Nat.beq k 2) (A_C_within av s) (cbr (Nat.beq k 113) (A_U_leaveSet av s) (cbr (Nat.beq k 111) (A_JI_bitCount av s) (none))))
set_option maxRecDepth 100000 in
theorem e_C_roster (x1 : Int32) (x2 : Int32) (x3 : Int32) (s : Mem) : F_C_roster x1 x2 x3 s = xs C_C_roster (fun k ls s => none) 0 (fun _ => 0) K_C_roster 700 K_C_roster [some (.ref 0), some (.int x1), some (.int x2), some (.int x3), none] [] s := rfl
def K_JM_abs : MC := [(0, .iload 0, 0), (1, .ifCond .ge 5, 0), (4, .iload 0, 0), (5, .ineg, 0), (6, .goto 6, 0), (9, .iload 0, 0), (10, .ireturn, 0)]
noncomputable def F_JM_abs (x0 : Int32) (s : Mem) : Option (Int32 × Mem) :=
  if 0 ≤ x0 then
    some (x0, s)
  else
  some ((-x0), s)
noncomputable def A_JM_abs (av : List Value) (s : Mem) : Option (Int32 × Mem) := match av with
  | [.int a0] => F_JM_abs a0 s
  | _ => none
noncomputable def C_JM_abs (k : Nat) (av : List Value) (s : Mem) : Option (Int32 × Mem) := none
set_option maxRecDepth 100000 in
theorem e_JM_abs (x0 : Int32) (s : Mem) : F_JM_abs x0 s = xs C_JM_abs (fun k ls s => none) 0 (fun _ => 0) K_JM_abs 700 K_JM_abs [some (.int x0)] [] s := rfl
def K_U_joinCost : MC := [(0, .aload 1, 0), (1, .iload 3, 0), (2, .invokeinterface 8 34, 0), (5, .iconst 0, 16), (7, .invokeinterface 14 2, 0), (10, .istore 4, 0), (12, .aload 0, 0), (13, .getstatic 401, 0), (16, .lconst 0, 0), (17, .lconst 0, 0), (18, .iastore, 0), (19, .lconst 1, 0), (20, .istore 5, 0), (22, .ret 0, 0), (22, .iload 5, 0), (24, .iload 4, 0), (26, .if_icmp .gt 37, 0), (29, .aload 0, 0), (30, .getstatic 401, 0), (33, .iload 5, 0), (35, .aload 0, 0), (36, .getstatic 401, 0), (39, .iload 5, 0), (41, .lconst 1, 0), (42, .isub, 0), (43, .iaload, 0), (44, .aload 1, 0), (45, .lconst 0, 0), (46, .iload 3, 0), (47, .iload 5, 0), (49, .lconst 1, 0), (50, .isub, 0), (51, .invokeinterface 16 36, 0), (54, .iadd, 0), (55, .iastore, 0), (56, .iinc 5 0, 1), (59, .goto 13, 0), (62, .lconst 0, 0), (63, .istore 5, 0), (65, .ret 1, 0), (65, .iload 5, 0), (67, .aload 1, 0), (68, .iload 2, 0), (69, .invokeinterface 8 34, 0), (72, .if_icmp .ge 122, 0), (75, .aload 1, 0), (76, .lconst 0, 0), (77, .iload 2, 0), (78, .iload 5, 0), (80, .invokeinterface 16 36, 0), (83, .istore 6, 0), (85, .aload 0, 0), (86, .getstatic 401, 0), (89, .lconst 0, 0), (90, .aload 0, 0), (91, .getstatic 402, 0), (94, .lconst 0, 0), (95, .aload 0, 0), (96, .getstatic 401, 0), (99, .arraylength, 0), (100, .invokedynamic 0, 0), (103, .aload 0, 0), (104, .getstatic 401, 0), (107, .lconst 0, 0), (108, .aload 0, 0), (109, .getstatic 402, 0), (112, .lconst 0, 0), (113, .iaload, 0), (114, .iload 6, 0), (116, .iadd, 0), (117, .iastore, 0), (118, .lconst 1, 0), (119, .istore 7, 0), (121, .ret 2, 0), (121, .iload 7, 0), (123, .iload 4, 0), (125, .if_icmp .gt 120, 0), (128, .aload 1, 0), (129, .lconst 0, 0), (130, .iload 3, 0), (131, .iload 7, 0), (133, .lconst 1, 0), (134, .isub, 0), (135, .invokeinterface 16 36, 0), (138, .istore 8, 0), (140, .aload 0, 0), (141, .getstatic 402, 0), (144, .iload 7, 0), (146, .iaload, 0), (147, .iload 6, 0), (149, .iadd, 0), (150, .aload 0, 0), (151, .getstatic 401, 0), (154, .iload 7, 0), (156, .lconst 1, 0), (157, .isub, 0), (158, .iaload, 0), (159, .iload 8, 0), (161, .iadd, 0), (162, .invokeinterface 14 2, 0), (165, .istore 9, 0), (167, .aload 0, 0), (168, .getstatic 401, 0), (171, .iload 7, 0), (173, .iload 9, 0), (175, .aload 0, 0), (176, .getstatic 402, 0), (179, .iload 7, 0), (181, .lconst 1, 0), (182, .isub, 0), (183, .iaload, 0), (184, .iload 6, 0), (186, .iload 8, 0), (188, .isub, 0), (189, .invokeinterface 115 1, 0), (192, .iadd, 0), (193, .invokeinterface 14 2, 0), (196, .iastore, 0), (197, .iinc 7 0, 1), (200, .goto 73, 0), (203, .iinc 5 0, 1), (206, .goto 39, 0), (209, .aload 0, 0), (210, .getstatic 401, 0), (213, .iload 4, 0), (215, .iaload, 0), (216, .ireturn, 0)]
noncomputable def F_U_joinCost_71 (k38 : Int32 → Int32 → Int32 → Int32 → Mem → Option (Int32 × Mem)) : Nat → Int32 → Int32 → Int32 → Int32 → Int32 → Int32 → Mem → Option (Int32 × Mem)
  | 0, _, _, _, _, _, _, _ => none
  | n + 1, x2, x3, x4, x5, x6, x7, s =>
    if x4 < x7 then
      k38 x2 x3 x4 (x5 + 1) s
    else
    (F_H_get 2 0 x3 (x7 - 1) s).bind fun z1 =>
    (ld z1.2 95 x7).bind fun v2 =>
    (ld z1.2 94 (x7 - 1)).bind fun v3 =>
    (F_JM_min (v2 + x6) (v3 + z1.1) z1.2).bind fun z4 =>
    (ld z4.2 95 (x7 - 1)).bind fun v5 =>
    (F_JM_abs (x6 - z1.1) z4.2).bind fun z6 =>
    (F_JM_min z4.1 (v5 + z6.1) z6.2).bind fun z7 =>
    (sd z7.2 94 x7 z7.1).bind fun s8 =>
    F_U_joinCost_71 k38 n x2 x3 x4 x5 x6 (x7 + 1) s8
noncomputable def F_U_joinCost_38 : Nat → Int32 → Int32 → Int32 → Int32 → Mem → Option (Int32 × Mem)
  | 0, _, _, _, _, _ => none
  | n + 1, x2, x3, x4, x5, s =>
    (F_H_size 2 x2 s).bind fun z1 =>
    if z1.1 ≤ x5 then
      (ld z1.2 94 x4).bind fun v2 =>
      some (v2, z1.2)
    else
    (F_H_get 2 0 x2 x5 z1.2).bind fun z3 =>
    (cpy z3.2 94 0 95 0 17).bind fun s4 =>
    (ld s4 95 0).bind fun v5 =>
    (sd s4 94 0 (v5 + z3.1)).bind fun s6 =>
    F_U_joinCost_71 (F_U_joinCost_38 n) gF x2 x3 x4 x5 z3.1 1 s6
noncomputable def F_U_joinCost_13 : Nat → Int32 → Int32 → Int32 → Int32 → Mem → Option (Int32 × Mem)
  | 0, _, _, _, _, _ => none
  | n + 1, x2, x3, x4, x5, s =>
    if x4 < x5 then
      F_U_joinCost_38 gF x2 x3 x4 0 s
    else
    (ld s 94 (x5 - 1)).bind fun v1 =>
    (F_H_get 2 0 x3 (x5 - 1) s).bind fun z2 =>
    (sd z2.2 94 x5 (v1 + z2.1)).bind fun s3 =>
    F_U_joinCost_13 n x2 x3 x4 (x5 + 1) s3
noncomputable def F_U_joinCost (x2 : Int32) (x3 : Int32) (s : Mem) : Option (Int32 × Mem) :=
  (F_H_size 2 x3 s).bind fun z1 =>
  (F_JM_min z1.1 16 z1.2).bind fun z2 =>
  (sd z2.2 94 0 0).bind fun s3 =>
  F_U_joinCost_13 gF x2 x3 z2.1 1 s3
def A_U_joinCost_13 (f : Int32 → Int32 → Int32 → Int32 → Mem → Option (Int32 × Mem)) (ls : List (Option Value)) (s : Mem) : Option (Int32 × Mem) := match lk ls 0, lk ls 1, lk ls 2, lk ls 3, lk ls 4, lk ls 5 with
  | some (.ref a0), some (.ref a1), some (.int a2), some (.int a3), some (.int a4), some (.int a5) => cbr (Nat.beq a0 90) (cbr (Nat.beq a1 2) (f a2 a3 a4 a5 s) none) none
  | _, _, _, _, _, _ => none
def A_U_joinCost_38 (f : Int32 → Int32 → Int32 → Int32 → Mem → Option (Int32 × Mem)) (ls : List (Option Value)) (s : Mem) : Option (Int32 × Mem) := match lk ls 0, lk ls 1, lk ls 2, lk ls 3, lk ls 4, lk ls 5 with
  | some (.ref a0), some (.ref a1), some (.int a2), some (.int a3), some (.int a4), some (.int a5) => cbr (Nat.beq a0 90) (cbr (Nat.beq a1 2) (f a2 a3 a4 a5 s) none) none
  | _, _, _, _, _, _ => none
def A_U_joinCost_71 (f : Int32 → Int32 → Int32 → Int32 → Int32 → Int32 → Mem → Option (Int32 × Mem)) (ls : List (Option Value)) (s : Mem) : Option (Int32 × Mem) := match lk ls 0, lk ls 1, lk ls 2, lk ls 3, lk ls 4, lk ls 5, lk ls 6, lk ls 7 with
  | some (.ref a0), some (.ref a1), some (.int a2), some (.int a3), some (.int a4), some (.int a5), some (.int a6), some (.int a7) => cbr (Nat.beq a0 90) (cbr (Nat.beq a1 2) (f a2 a3 a4 a5 a6 a7 s) none) none
  | _, _, _, _, _, _, _, _ => none
noncomputable def A_U_joinCost (av : List Value) (s : Mem) : Option (Int32 × Mem) := match av with
  | [.ref a0, .ref a1, .int a2, .int a3] => cbr (Nat.beq a0 90) (cbr (Nat.beq a1 2) (F_U_joinCost a2 a3 s) none) none
  | _ => none
noncomputable def C_U_joinCost (k : Nat) (av : List Value) (s : Mem) : Option (Int32 × Mem) := cbr (Nat.beq k 8) (A_H_size av s) (cbr (Nat.beq k 14) (A_JM_min av s) (cbr (Nat.beq k 16) (A_H_get av s) (cbr (Nat.beq k 115) (A_JM_abs av s) (none))))
set_option maxRecDepth 100000 in
theorem e_U_joinCost_71 (k38 : Int32 → Int32 → Int32 → Int32 → Mem → Option (Int32 × Mem)) (n : Nat) (x2 : Int32) (x3 : Int32) (x4 : Int32) (x5 : Int32) (x6 : Int32) (x7 : Int32) (s : Mem) : F_U_joinCost_71 k38 (n + 1) x2 x3 x4 x5 x6 x7 s = xs C_U_joinCost (fun k ls s => cbr (Nat.beq k 1) (A_U_joinCost_38 (k38) ls s) (cbr (Nat.beq k 2) (A_U_joinCost_71 (F_U_joinCost_71 k38 n) ls s) (none))) 0 (fun _ => 0) K_U_joinCost 700 (K_U_joinCost.drop 74) [some (.ref 90), some (.ref 2), some (.int x2), some (.int x3), some (.int x4), some (.int x5), some (.int x6), some (.int x7), none, none] [] s := rfl
set_option maxRecDepth 100000 in
theorem e_U_joinCost_38  (n : Nat) (x2 : Int32) (x3 : Int32) (x4 : Int32) (x5 : Int32) (s : Mem) : F_U_joinCost_38 (n + 1) x2 x3 x4 x5 s = xs C_U_joinCost (fun k ls s => cbr (Nat.beq k 2) (A_U_joinCost_71 (F_U_joinCost_71 (F_U_joinCost_38 n) gF) ls s) (none)) 0 (fun _ => 0) K_U_joinCost 700 (K_U_joinCost.drop 40) [some (.ref 90), some (.ref 2), some (.int x2), some (.int x3), some (.int x4), some (.int x5), none, none, none, none] [] s := rfl
set_option maxRecDepth 100000 in
theorem e_U_joinCost_13  (n : Nat) (x2 : Int32) (x3 : Int32) (x4 : Int32) (x5 : Int32) (s : Mem) : F_U_joinCost_13 (n + 1) x2 x3 x4 x5 s = xs C_U_joinCost (fun k ls s => cbr (Nat.beq k 0) (A_U_joinCost_13 (F_U_joinCost_13 n) ls s) (cbr (Nat.beq k 1) (A_U_joinCost_38 (F_U_joinCost_38 gF) ls s) (none))) 0 (fun _ => 0) K_U_joinCost 700 (K_U_joinCost.drop 14) [some (.ref 90), some (.ref 2), some (.int x2), some (.int x3), some (.int x4), some (.int x5), none, none, none, none] [] s := rfl
set_option maxRecDepth 100000 in
theorem e_U_joinCost (x2 : Int32) (x3 : Int32) (s : Mem) : F_U_joinCost x2 x3 s = xs C_U_joinCost (fun k ls s => cbr (Nat.beq k 0) (A_U_joinCost_13 (F_U_joinCost_13 gF) ls s) (none)) 0 (fun _ => 0) K_U_joinCost 700 K_U_joinCost [some (.ref 90), some (.ref 2), some (.int x2), some (.int x3), none, none, none, none, none, none] [] s := rfl
def K_U_commonHeights : MC := [(0, .lconst 0, 0), (1, .istore 3, 0), (2, .lconst 0, 0), (3, .istore 4, 0), (5, .lconst 0, 0), (6, .istore 5, 0), (8, .ret 0, 0), (8, .iload 5, 0), (10, .aload 0, 0), (11, .iload 1, 0), (12, .invokeinterface 8 34, 0), (15, .if_icmp .ge 54, 0), (18, .iload 4, 0), (20, .aload 0, 0), (21, .lconst 0, 0), (22, .iload 1, 0), (23, .iload 5, 0), (25, .invokeinterface 16 36, 0), (28, .iadd, 0), (29, .istore 4, 0), (31, .lconst 0, 0), (32, .istore 6, 0), (34, .lconst 0, 0), (35, .istore 7, 0), (37, .ret 1, 0), (37, .iload 7, 0), (39, .aload 0, 0), (40, .iload 2, 0), (41, .invokeinterface 8 34, 0), (44, .if_icmp .ge 43, 0), (47, .iload 6, 0), (49, .iload 4, 0), (51, .if_icmp .ge 43, 0), (54, .iload 6, 0), (56, .aload 0, 0), (57, .lconst 0, 0), (58, .iload 2, 0), (59, .iload 7, 0), (61, .invokeinterface 16 36, 0), (64, .iadd, 0), (65, .istore 6, 0), (67, .iinc 7 0, 1), (70, .goto 24, 0), (73, .iload 3, 0), (74, .iload 4, 0), (76, .iload 6, 0), (78, .if_icmp .ne 49, 0), (81, .lconst 1, 0), (82, .goto 50, 0), (85, .lconst 0, 0), (86, .iadd, 0), (87, .istore 3, 0), (88, .iinc 5 0, 1), (91, .goto 6, 0), (94, .iload 3, 0), (95, .ireturn, 0)]
noncomputable def F_U_commonHeights_23 (k6 : Int32 → Int32 → Int32 → Int32 → Int32 → Mem → Option (Int32 × Mem)) : Nat → Int32 → Int32 → Int32 → Int32 → Int32 → Int32 → Int32 → Mem → Option (Int32 × Mem)
  | 0, _, _, _, _, _, _, _, _ => none
  | n + 1, x1, x2, x3, x4, x5, x6, x7, s =>
    (F_H_size 2 x2 s).bind fun z1 =>
    if z1.1 ≤ x7 then
      if x4 = x6 then
        k6 x1 x2 (x3 + 1) x4 (x5 + 1) z1.2
      else
      k6 x1 x2 (x3 + 0) x4 (x5 + 1) z1.2
    else
    if x4 ≤ x6 then
      if x4 = x6 then
        k6 x1 x2 (x3 + 1) x4 (x5 + 1) z1.2
      else
      k6 x1 x2 (x3 + 0) x4 (x5 + 1) z1.2
    else
    (F_H_get 2 0 x2 x7 z1.2).bind fun z2 =>
    F_U_commonHeights_23 k6 n x1 x2 x3 x4 x5 (x6 + z2.1) (x7 + 1) z2.2
noncomputable def F_U_commonHeights_6 : Nat → Int32 → Int32 → Int32 → Int32 → Int32 → Mem → Option (Int32 × Mem)
  | 0, _, _, _, _, _, _ => none
  | n + 1, x1, x2, x3, x4, x5, s =>
    (F_H_size 2 x1 s).bind fun z1 =>
    if z1.1 ≤ x5 then
      some (x3, z1.2)
    else
    (F_H_get 2 0 x1 x5 z1.2).bind fun z2 =>
    F_U_commonHeights_23 (F_U_commonHeights_6 n) gF x1 x2 x3 (x4 + z2.1) x5 0 0 z2.2
noncomputable def F_U_commonHeights (x1 : Int32) (x2 : Int32) (s : Mem) : Option (Int32 × Mem) :=
  F_U_commonHeights_6 gF x1 x2 0 0 0 s
def A_U_commonHeights_6 (f : Int32 → Int32 → Int32 → Int32 → Int32 → Mem → Option (Int32 × Mem)) (ls : List (Option Value)) (s : Mem) : Option (Int32 × Mem) := match lk ls 0, lk ls 1, lk ls 2, lk ls 3, lk ls 4, lk ls 5 with
  | some (.ref a0), some (.int a1), some (.int a2), some (.int a3), some (.int a4), some (.int a5) => cbr (Nat.beq a0 2) (f a1 a2 a3 a4 a5 s) none
  | _, _, _, _, _, _ => none
def A_U_commonHeights_23 (f : Int32 → Int32 → Int32 → Int32 → Int32 → Int32 → Int32 → Mem → Option (Int32 × Mem)) (ls : List (Option Value)) (s : Mem) : Option (Int32 × Mem) := match lk ls 0, lk ls 1, lk ls 2, lk ls 3, lk ls 4, lk ls 5, lk ls 6, lk ls 7 with
  | some (.ref a0), some (.int a1), some (.int a2), some (.int a3), some (.int a4), some (.int a5), some (.int a6), some (.int a7) => cbr (Nat.beq a0 2) (f a1 a2 a3 a4 a5 a6 a7 s) none
  | _, _, _, _, _, _, _, _ => none
noncomputable def A_U_commonHeights (av : List Value) (s : Mem) : Option (Int32 × Mem) := match av with
  | [.ref a0, .int a1, .int a2] => cbr (Nat.beq a0 2) (F_U_commonHeights a1 a2 s) none
  | _ => none
noncomputable def C_U_commonHeights (k : Nat) (av : List Value) (s : Mem) : Option (Int32 × Mem) := cbr (Nat.beq k 8) (A_H_size av s) (cbr (Nat.beq k 16) (A_H_get av s) (none))
set_option maxRecDepth 100000 in
theorem e_U_commonHeights_23 (k6 : Int32 → Int32 → Int32 → Int32 → Int32 → Mem → Option (Int32 × Mem)) (n : Nat) (x1 : Int32) (x2 : Int32) (x3 : Int32) (x4 : Int32) (x5 : Int32) (x6 : Int32) (x7 : Int32) (s : Mem) : F_U_commonHeights_23 k6 (n + 1) x1 x2 x3 x4 x5 x6 x7 s = xs C_U_commonHeights (fun k ls s => cbr (Nat.beq k 0) (A_U_commonHeights_6 (k6) ls s) (cbr (Nat.beq k 1) (A_U_commonHeights_23 (F_U_commonHeights_23 k6 n) ls s) (none))) 0 (fun _ => 0) K_U_commonHeights 700 (K_U_commonHeights.drop 25) [some (.ref 2), some (.int x1), some (.int x2), some (.int x3), some (.int x4), some (.int x5), some (.int x6), some (.int x7)] [] s := rfl
set_option maxRecDepth 100000 in
theorem e_U_commonHeights_6  (n : Nat) (x1 : Int32) (x2 : Int32) (x3 : Int32) (x4 : Int32) (x5 : Int32) (s : Mem) : F_U_commonHeights_6 (n + 1) x1 x2 x3 x4 x5 s = xs C_U_commonHeights (fun k ls s => cbr (Nat.beq k 1) (A_U_commonHeights_23 (F_U_commonHeights_23 (F_U_commonHeights_6 n) gF) ls s) (none)) 0 (fun _ => 0) K_U_commonHeights 700 (K_U_commonHeights.drop 7) [some (.ref 2), some (.int x1), some (.int x2), some (.int x3), some (.int x4), some (.int x5), none, none] [] s := rfl
set_option maxRecDepth 100000 in
theorem e_U_commonHeights (x1 : Int32) (x2 : Int32) (s : Mem) : F_U_commonHeights x1 x2 s = xs C_U_commonHeights (fun k ls s => cbr (Nat.beq k 0) (A_U_commonHeights_6 (F_U_commonHeights_6 gF) ls s) (none)) 0 (fun _ => 0) K_U_commonHeights 700 K_U_commonHeights [some (.ref 2), some (.int x1), some (.int x2), none, none, none, none, none] [] s := rfl
def K_C_joined : MC := [(0, .aload 0, 0), (1, .getstatic 1000, 0), (4, .getstatic 600, 0), (7, .iload 1, 0), (8, .invokeinterface 7 34, 0), (11, .ifCond .eq 17, 0), (14, .aload 0, 0), (15, .getstatic 1000, 0), (18, .getstatic 600, 0), (21, .iload 2, 0), (22, .invokeinterface 7 34, 0), (25, .ifCond .eq 17, 0), (28, .iload 3, 0), (29, .lconst 0, 0), (30, .lconst 1, 0), (31, .invokeinterface 2 3, 0), (34, .ifCond .ne 19, 0), (37, .iconst 0, (-1)), (38, .ireturn, 0), (39, .iload 3, 0), (40, .ifCond .ne 30, 0), (43, .aload 0, 0), (44, .getstatic 1012, 0), (47, .aload 0, 0), (48, .getstatic 1000, 0), (51, .getstatic 600, 0), (54, .iload 1, 0), (55, .iload 2, 0), (56, .invokeinterface 116 84, 0), (59, .goto 36, 0), (62, .aload 0, 0), (63, .getstatic 1000, 0), (66, .getstatic 600, 0), (69, .iload 1, 0), (70, .iload 2, 0), (71, .invokeinterface 117 3, 0), (74, .ireturn, 0)]
noncomputable def F_C_joined (x1 : Int32) (x2 : Int32) (x3 : Int32) (s : Mem) : Option (Int32 × Mem) :=
  (F_H_has1 x1 s).bind fun z1 =>
  if z1.1 = 0 then
    some ((-1), z1.2)
  else
  (F_H_has1 x2 z1.2).bind fun z2 =>
  if z2.1 = 0 then
    some ((-1), z2.2)
  else
  (F_C_within x3 0 1 z2.2).bind fun z3 =>
  if z3.1 = 0 then
    some ((-1), z3.2)
  else
  if x3 = 0 then
    (F_U_joinCost x1 x2 z3.2).bind fun z4 =>
    some (z4.1, z4.2)
  else
  (F_U_commonHeights x1 x2 z3.2).bind fun z5 =>
  some (z5.1, z5.2)
noncomputable def A_C_joined (av : List Value) (s : Mem) : Option (Int32 × Mem) := match av with
  | [.ref a0, .int a1, .int a2, .int a3] => cbr (Nat.beq a0 0) (F_C_joined a1 a2 a3 s) none
  | _ => none
noncomputable def C_C_joined (k : Nat) (av : List Value) (s : Mem) : Option (Int32 × Mem) := cbr (Nat.beq k 7) (A_H_has1 av s) (cbr (Nat.beq k 2) (A_C_within av s) (cbr (Nat.beq k 116) (A_U_joinCost av s) (cbr (Nat.beq k 117) (A_U_commonHeights av s) (none))))
set_option maxRecDepth 100000 in
theorem e_C_joined (x1 : Int32) (x2 : Int32) (x3 : Int32) (s : Mem) : F_C_joined x1 x2 x3 s = xs C_C_joined (fun k ls s => none) 0 (fun _ => 0) K_C_joined 700 K_C_joined [some (.ref 0), some (.int x1), some (.int x2), some (.int x3)] [] s := rfl
def K_U_willOf : MC := [(0, .lconst 1, 0), (1, .aload 0, 0), (2, .iconst 0, 3), (3, .iload 1, 0), (4, .iload 2, 0), (5, .invokeinterface 16 36, 0), (8, .invokeinterface 21 2, 0), (11, .ireturn, 0)]
noncomputable def F_U_willOf (x1 : Int32) (x2 : Int32) (s : Mem) : Option (Int32 × Mem) :=
  (F_H_get 2 3 x1 x2 s).bind fun z1 =>
  (F_JM_max 1 z1.1 z1.2).bind fun z2 =>
  some (z2.1, z2.2)
noncomputable def A_U_willOf (av : List Value) (s : Mem) : Option (Int32 × Mem) := match av with
  | [.ref a0, .int a1, .int a2] => cbr (Nat.beq a0 2) (F_U_willOf a1 a2 s) none
  | _ => none
noncomputable def C_U_willOf (k : Nat) (av : List Value) (s : Mem) : Option (Int32 × Mem) := cbr (Nat.beq k 16) (A_H_get av s) (cbr (Nat.beq k 21) (A_JM_max av s) (none))
set_option maxRecDepth 100000 in
theorem e_U_willOf (x1 : Int32) (x2 : Int32) (s : Mem) : F_U_willOf x1 x2 s = xs C_U_willOf (fun k ls s => none) 0 (fun _ => 0) K_U_willOf 700 K_U_willOf [some (.ref 2), some (.int x1), some (.int x2)] [] s := rfl
def K_U_fewestToBegin : MC := [(0, .lconst 0, 0), (1, .istore 2, 0), (2, .iconst 0, 1000000), (4, .istore 3, 0), (5, .lconst 0, 0), (6, .istore 4, 0), (8, .ret 0, 0), (8, .iload 4, 0), (10, .aload 0, 0), (11, .iload 1, 0), (12, .invokeinterface 8 34, 0), (15, .if_icmp .ge 90, 0), (18, .aload 0, 0), (19, .iload 1, 0), (20, .iload 4, 0), (22, .invokeinterface 22 35, 0), (25, .ifCond .eq 18, 0), (28, .goto 88, 0), (31, .aload 0, 0), (32, .iload 1, 0), (33, .iload 4, 0), (35, .invokeinterface 119 3, 0), (38, .istore 5, 0), (40, .iload 2, 0), (41, .iload 5, 0), (43, .ifCond .le 28, 0), (46, .lconst 1, 0), (47, .goto 29, 0), (50, .lconst 0, 0), (51, .iadd, 0), (52, .iload 3, 0), (53, .iload 5, 0), (55, .lconst 1, 0), (56, .if_icmp .le 36, 0), (59, .lconst 1, 0), (60, .goto 37, 0), (63, .lconst 0, 0), (64, .iadd, 0), (65, .invokeinterface 14 2, 0), (68, .istore 6, 0), (70, .iload 2, 0), (71, .iload 5, 0), (73, .lconst 1, 0), (74, .if_icmp .le 46, 0), (77, .lconst 1, 0), (78, .goto 47, 0), (81, .lconst 0, 0), (82, .iadd, 0), (83, .iload 3, 0), (84, .iload 5, 0), (86, .iconst 0, 2), (87, .if_icmp .le 54, 0), (90, .lconst 1, 0), (91, .goto 55, 0), (94, .lconst 0, 0), (95, .iadd, 0), (96, .invokeinterface 14 2, 0), (99, .istore 7, 0), (101, .aload 0, 0), (102, .iload 1, 0), (103, .iload 4, 0), (105, .lconst 1, 0), (106, .iadd, 0), (107, .invokeinterface 9 35, 0), (110, .ifCond .eq 74, 0), (113, .aload 0, 0), (114, .iload 1, 0), (115, .iload 4, 0), (117, .lconst 1, 0), (118, .iadd, 0), (119, .invokeinterface 22 35, 0), (122, .ifCond .ne 74, 0), (125, .lconst 1, 0), (126, .goto 75, 0), (129, .lconst 0, 0), (130, .istore 8, 0), (132, .iload 8, 0), (134, .ifCond .eq 80, 0), (137, .iload 7, 0), (139, .goto 81, 0), (142, .iload 6, 0), (144, .istore 2, 0), (145, .iload 8, 0), (147, .ifCond .eq 86, 0), (150, .iload 6, 0), (152, .goto 87, 0), (155, .iconst 0, 1000000), (157, .istore 3, 0), (158, .iinc 4 0, 1), (161, .goto 6, 0), (164, .iload 2, 0), (165, .iload 3, 0), (166, .invokeinterface 14 2, 0), (169, .ireturn, 0)]
noncomputable def F_U_fewestToBegin_6 : Nat → Int32 → Int32 → Int32 → Int32 → Mem → Option (Int32 × Mem)
  | 0, _, _, _, _, _ => none
  | n + 1, x1, x2, x3, x4, s =>
    (F_H_size 2 x1 s).bind fun z1 =>
    if z1.1 ≤ x4 then
      (F_JM_min x2 x3 z1.2).bind fun z2 =>
      some (z2.1, z2.2)
    else
    (F_H_isMissing 2 x1 x4 z1.2).bind fun z3 =>
    if z3.1 = 0 then
      (F_U_willOf x1 x4 z3.2).bind fun z4 =>
      if z4.1 ≤ 0 then
        if z4.1 ≤ 1 then
          (F_JM_min (x2 + 0) (x3 + 0) z4.2).bind fun z5 =>
          if z4.1 ≤ 1 then
            if z4.1 ≤ 2 then
              (F_JM_min (x2 + 0) (x3 + 0) z5.2).bind fun z6 =>
              (F_H_has2 x1 (x4 + 1) z6.2).bind fun z7 =>
              if z7.1 = 0 then
                F_U_fewestToBegin_6 n x1 z5.1 1000000 (x4 + 1) z7.2
              else
              (F_H_isMissing 2 x1 (x4 + 1) z7.2).bind fun z8 =>
              if z8.1 = 0 then
                F_U_fewestToBegin_6 n x1 z6.1 z5.1 (x4 + 1) z8.2
              else
              F_U_fewestToBegin_6 n x1 z5.1 1000000 (x4 + 1) z8.2
            else
            (F_JM_min (x2 + 0) (x3 + 1) z5.2).bind fun z9 =>
            (F_H_has2 x1 (x4 + 1) z9.2).bind fun z10 =>
            if z10.1 = 0 then
              F_U_fewestToBegin_6 n x1 z5.1 1000000 (x4 + 1) z10.2
            else
            (F_H_isMissing 2 x1 (x4 + 1) z10.2).bind fun z11 =>
            if z11.1 = 0 then
              F_U_fewestToBegin_6 n x1 z9.1 z5.1 (x4 + 1) z11.2
            else
            F_U_fewestToBegin_6 n x1 z5.1 1000000 (x4 + 1) z11.2
          else
          if z4.1 ≤ 2 then
            (F_JM_min (x2 + 1) (x3 + 0) z5.2).bind fun z12 =>
            (F_H_has2 x1 (x4 + 1) z12.2).bind fun z13 =>
            if z13.1 = 0 then
              F_U_fewestToBegin_6 n x1 z5.1 1000000 (x4 + 1) z13.2
            else
            (F_H_isMissing 2 x1 (x4 + 1) z13.2).bind fun z14 =>
            if z14.1 = 0 then
              F_U_fewestToBegin_6 n x1 z12.1 z5.1 (x4 + 1) z14.2
            else
            F_U_fewestToBegin_6 n x1 z5.1 1000000 (x4 + 1) z14.2
          else
          (F_JM_min (x2 + 1) (x3 + 1) z5.2).bind fun z15 =>
          (F_H_has2 x1 (x4 + 1) z15.2).bind fun z16 =>
          if z16.1 = 0 then
            F_U_fewestToBegin_6 n x1 z5.1 1000000 (x4 + 1) z16.2
          else
          (F_H_isMissing 2 x1 (x4 + 1) z16.2).bind fun z17 =>
          if z17.1 = 0 then
            F_U_fewestToBegin_6 n x1 z15.1 z5.1 (x4 + 1) z17.2
          else
          F_U_fewestToBegin_6 n x1 z5.1 1000000 (x4 + 1) z17.2
        else
        (F_JM_min (x2 + 0) (x3 + 1) z4.2).bind fun z18 =>
        if z4.1 ≤ 1 then
          if z4.1 ≤ 2 then
            (F_JM_min (x2 + 0) (x3 + 0) z18.2).bind fun z19 =>
            (F_H_has2 x1 (x4 + 1) z19.2).bind fun z20 =>
            if z20.1 = 0 then
              F_U_fewestToBegin_6 n x1 z18.1 1000000 (x4 + 1) z20.2
            else
            (F_H_isMissing 2 x1 (x4 + 1) z20.2).bind fun z21 =>
            if z21.1 = 0 then
              F_U_fewestToBegin_6 n x1 z19.1 z18.1 (x4 + 1) z21.2
            else
            F_U_fewestToBegin_6 n x1 z18.1 1000000 (x4 + 1) z21.2
          else
          (F_JM_min (x2 + 0) (x3 + 1) z18.2).bind fun z22 =>
          (F_H_has2 x1 (x4 + 1) z22.2).bind fun z23 =>
          if z23.1 = 0 then
            F_U_fewestToBegin_6 n x1 z18.1 1000000 (x4 + 1) z23.2
          else
          (F_H_isMissing 2 x1 (x4 + 1) z23.2).bind fun z24 =>
          if z24.1 = 0 then
            F_U_fewestToBegin_6 n x1 z22.1 z18.1 (x4 + 1) z24.2
          else
          F_U_fewestToBegin_6 n x1 z18.1 1000000 (x4 + 1) z24.2
        else
        if z4.1 ≤ 2 then
          (F_JM_min (x2 + 1) (x3 + 0) z18.2).bind fun z25 =>
          (F_H_has2 x1 (x4 + 1) z25.2).bind fun z26 =>
          if z26.1 = 0 then
            F_U_fewestToBegin_6 n x1 z18.1 1000000 (x4 + 1) z26.2
          else
          (F_H_isMissing 2 x1 (x4 + 1) z26.2).bind fun z27 =>
          if z27.1 = 0 then
            F_U_fewestToBegin_6 n x1 z25.1 z18.1 (x4 + 1) z27.2
          else
          F_U_fewestToBegin_6 n x1 z18.1 1000000 (x4 + 1) z27.2
        else
        (F_JM_min (x2 + 1) (x3 + 1) z18.2).bind fun z28 =>
        (F_H_has2 x1 (x4 + 1) z28.2).bind fun z29 =>
        if z29.1 = 0 then
          F_U_fewestToBegin_6 n x1 z18.1 1000000 (x4 + 1) z29.2
        else
        (F_H_isMissing 2 x1 (x4 + 1) z29.2).bind fun z30 =>
        if z30.1 = 0 then
          F_U_fewestToBegin_6 n x1 z28.1 z18.1 (x4 + 1) z30.2
        else
        F_U_fewestToBegin_6 n x1 z18.1 1000000 (x4 + 1) z30.2
      else
      if z4.1 ≤ 1 then
        (F_JM_min (x2 + 1) (x3 + 0) z4.2).bind fun z31 =>
        if z4.1 ≤ 1 then
          if z4.1 ≤ 2 then
            (F_JM_min (x2 + 0) (x3 + 0) z31.2).bind fun z32 =>
            (F_H_has2 x1 (x4 + 1) z32.2).bind fun z33 =>
            if z33.1 = 0 then
              F_U_fewestToBegin_6 n x1 z31.1 1000000 (x4 + 1) z33.2
            else
            (F_H_isMissing 2 x1 (x4 + 1) z33.2).bind fun z34 =>
            if z34.1 = 0 then
              F_U_fewestToBegin_6 n x1 z32.1 z31.1 (x4 + 1) z34.2
            else
            F_U_fewestToBegin_6 n x1 z31.1 1000000 (x4 + 1) z34.2
          else
          (F_JM_min (x2 + 0) (x3 + 1) z31.2).bind fun z35 =>
          (F_H_has2 x1 (x4 + 1) z35.2).bind fun z36 =>
          if z36.1 = 0 then
            F_U_fewestToBegin_6 n x1 z31.1 1000000 (x4 + 1) z36.2
          else
          (F_H_isMissing 2 x1 (x4 + 1) z36.2).bind fun z37 =>
          if z37.1 = 0 then
            F_U_fewestToBegin_6 n x1 z35.1 z31.1 (x4 + 1) z37.2
          else
          F_U_fewestToBegin_6 n x1 z31.1 1000000 (x4 + 1) z37.2
        else
        if z4.1 ≤ 2 then
          (F_JM_min (x2 + 1) (x3 + 0) z31.2).bind fun z38 =>
          (F_H_has2 x1 (x4 + 1) z38.2).bind fun z39 =>
          if z39.1 = 0 then
            F_U_fewestToBegin_6 n x1 z31.1 1000000 (x4 + 1) z39.2
          else
          (F_H_isMissing 2 x1 (x4 + 1) z39.2).bind fun z40 =>
          if z40.1 = 0 then
            F_U_fewestToBegin_6 n x1 z38.1 z31.1 (x4 + 1) z40.2
          else
          F_U_fewestToBegin_6 n x1 z31.1 1000000 (x4 + 1) z40.2
        else
        (F_JM_min (x2 + 1) (x3 + 1) z31.2).bind fun z41 =>
        (F_H_has2 x1 (x4 + 1) z41.2).bind fun z42 =>
        if z42.1 = 0 then
          F_U_fewestToBegin_6 n x1 z31.1 1000000 (x4 + 1) z42.2
        else
        (F_H_isMissing 2 x1 (x4 + 1) z42.2).bind fun z43 =>
        if z43.1 = 0 then
          F_U_fewestToBegin_6 n x1 z41.1 z31.1 (x4 + 1) z43.2
        else
        F_U_fewestToBegin_6 n x1 z31.1 1000000 (x4 + 1) z43.2
      else
      (F_JM_min (x2 + 1) (x3 + 1) z4.2).bind fun z44 =>
      if z4.1 ≤ 1 then
        if z4.1 ≤ 2 then
          (F_JM_min (x2 + 0) (x3 + 0) z44.2).bind fun z45 =>
          (F_H_has2 x1 (x4 + 1) z45.2).bind fun z46 =>
          if z46.1 = 0 then
            F_U_fewestToBegin_6 n x1 z44.1 1000000 (x4 + 1) z46.2
          else
          (F_H_isMissing 2 x1 (x4 + 1) z46.2).bind fun z47 =>
          if z47.1 = 0 then
            F_U_fewestToBegin_6 n x1 z45.1 z44.1 (x4 + 1) z47.2
          else
          F_U_fewestToBegin_6 n x1 z44.1 1000000 (x4 + 1) z47.2
        else
        (F_JM_min (x2 + 0) (x3 + 1) z44.2).bind fun z48 =>
        (F_H_has2 x1 (x4 + 1) z48.2).bind fun z49 =>
        if z49.1 = 0 then
          F_U_fewestToBegin_6 n x1 z44.1 1000000 (x4 + 1) z49.2
        else
        (F_H_isMissing 2 x1 (x4 + 1) z49.2).bind fun z50 =>
        if z50.1 = 0 then
          F_U_fewestToBegin_6 n x1 z48.1 z44.1 (x4 + 1) z50.2
        else
        F_U_fewestToBegin_6 n x1 z44.1 1000000 (x4 + 1) z50.2
      else
      if z4.1 ≤ 2 then
        (F_JM_min (x2 + 1) (x3 + 0) z44.2).bind fun z51 =>
        (F_H_has2 x1 (x4 + 1) z51.2).bind fun z52 =>
        if z52.1 = 0 then
          F_U_fewestToBegin_6 n x1 z44.1 1000000 (x4 + 1) z52.2
        else
        (F_H_isMissing 2 x1 (x4 + 1) z52.2).bind fun z53 =>
        if z53.1 = 0 then
          F_U_fewestToBegin_6 n x1 z51.1 z44.1 (x4 + 1) z53.2
        else
        F_U_fewestToBegin_6 n x1 z44.1 1000000 (x4 + 1) z53.2
      else
      (F_JM_min (x2 + 1) (x3 + 1) z44.2).bind fun z54 =>
      (F_H_has2 x1 (x4 + 1) z54.2).bind fun z55 =>
      if z55.1 = 0 then
        F_U_fewestToBegin_6 n x1 z44.1 1000000 (x4 + 1) z55.2
      else
      (F_H_isMissing 2 x1 (x4 + 1) z55.2).bind fun z56 =>
      if z56.1 = 0 then
        F_U_fewestToBegin_6 n x1 z54.1 z44.1 (x4 + 1) z56.2
      else
      F_U_fewestToBegin_6 n x1 z44.1 1000000 (x4 + 1) z56.2
    else
    F_U_fewestToBegin_6 n x1 x2 x3 (x4 + 1) z3.2
noncomputable def F_U_fewestToBegin (x1 : Int32) (s : Mem) : Option (Int32 × Mem) :=
  F_U_fewestToBegin_6 gF x1 0 1000000 0 s
def A_U_fewestToBegin_6 (f : Int32 → Int32 → Int32 → Int32 → Mem → Option (Int32 × Mem)) (ls : List (Option Value)) (s : Mem) : Option (Int32 × Mem) := match lk ls 0, lk ls 1, lk ls 2, lk ls 3, lk ls 4 with
  | some (.ref a0), some (.int a1), some (.int a2), some (.int a3), some (.int a4) => cbr (Nat.beq a0 2) (f a1 a2 a3 a4 s) none
  | _, _, _, _, _ => none
noncomputable def A_U_fewestToBegin (av : List Value) (s : Mem) : Option (Int32 × Mem) := match av with
  | [.ref a0, .int a1] => cbr (Nat.beq a0 2) (F_U_fewestToBegin a1 s) none
  | _ => none
noncomputable def C_U_fewestToBegin (k : Nat) (av : List Value) (s : Mem) : Option (Int32 × Mem) := cbr (Nat.beq k 8) (A_H_size av s) (cbr (Nat.beq k 14) (A_JM_min av s) (cbr (Nat.beq k 22) (A_H_isMissing av s) (cbr (Nat.beq k 119) (A_U_willOf av s) (cbr (Nat.beq k 9) (A_H_has2 av s) (none)))))
set_option maxRecDepth 100000 in
theorem e_U_fewestToBegin_6  (n : Nat) (x1 : Int32) (x2 : Int32) (x3 : Int32) (x4 : Int32) (s : Mem) : F_U_fewestToBegin_6 (n + 1) x1 x2 x3 x4 s = xs C_U_fewestToBegin (fun k ls s => cbr (Nat.beq k 0) (A_U_fewestToBegin_6 (F_U_fewestToBegin_6 n) ls s) (none)) 0 (fun _ => 0) K_U_fewestToBegin 700 (K_U_fewestToBegin.drop 7) [some (.ref 2), some (.int x1), some (.int x2), some (.int x3), some (.int x4), none, none, none, none] [] s := rfl
set_option maxRecDepth 100000 in
theorem e_U_fewestToBegin (x1 : Int32) (s : Mem) : F_U_fewestToBegin x1 s = xs C_U_fewestToBegin (fun k ls s => cbr (Nat.beq k 0) (A_U_fewestToBegin_6 (F_U_fewestToBegin_6 gF) ls s) (none)) 0 (fun _ => 0) K_U_fewestToBegin 700 K_U_fewestToBegin [some (.ref 2), some (.int x1), none, none, none, none, none, none, none] [] s := rfl
def K_H_anyMissing : MC := [(0, .lconst 0, 0), (1, .istore 3, 0), (2, .ret 0, 0), (2, .iload 3, 0), (3, .aload 0, 0), (4, .iload 1, 0), (5, .invokeinterface 8 34, 0), (8, .if_icmp .ge 24, 0), (11, .iload 2, 0), (12, .iload 3, 0), (13, .ishr, 0), (14, .lconst 1, 0), (15, .iand, 0), (16, .lconst 1, 0), (17, .if_icmp .ne 22, 0), (20, .aload 0, 0), (21, .iload 1, 0), (22, .iload 3, 0), (23, .invokeinterface 22 35, 0), (26, .ifCond .eq 22, 0), (29, .lconst 1, 0), (30, .lreturn, 0), (31, .iinc 3 0, 1), (34, .goto 2, 0), (37, .lconst 0, 0), (38, .lreturn, 0)]
noncomputable def F_H_anyMissing_2 : Nat → Int32 → Int32 → Int32 → Mem → Option (Int32 × Mem)
  | 0, _, _, _, _ => none
  | n + 1, x1, x2, x3, s =>
    (F_H_size 2 x1 s).bind fun z1 =>
    if z1.1 ≤ x3 then
      some (0, z1.2)
    else
    if ((shr x2 x3) &&& 1) = 1 then
      (F_H_isMissing 2 x1 x3 z1.2).bind fun z2 =>
      if z2.1 = 0 then
        F_H_anyMissing_2 n x1 x2 (x3 + 1) z2.2
      else
      some (1, z2.2)
    else
    F_H_anyMissing_2 n x1 x2 (x3 + 1) z1.2
noncomputable def F_H_anyMissing (x1 : Int32) (x2 : Int32) (s : Mem) : Option (Int32 × Mem) :=
  F_H_anyMissing_2 gF x1 x2 0 s
def A_H_anyMissing_2 (f : Int32 → Int32 → Int32 → Mem → Option (Int32 × Mem)) (ls : List (Option Value)) (s : Mem) : Option (Int32 × Mem) := match lk ls 0, lk ls 1, lk ls 2, lk ls 3 with
  | some (.ref a0), some (.int a1), some (.int a2), some (.int a3) => cbr (Nat.beq a0 2) (f a1 a2 a3 s) none
  | _, _, _, _ => none
noncomputable def A_H_anyMissing (av : List Value) (s : Mem) : Option (Int32 × Mem) := match av with
  | [.ref a0, .int a1, .int a2] => cbr (Nat.beq a0 2) (F_H_anyMissing a1 a2 s) none
  | _ => none
noncomputable def C_H_anyMissing (k : Nat) (av : List Value) (s : Mem) : Option (Int32 × Mem) := cbr (Nat.beq k 8) (A_H_size av s) (cbr (Nat.beq k 22) (A_H_isMissing av s) (none))
set_option maxRecDepth 100000 in
theorem e_H_anyMissing_2  (n : Nat) (x1 : Int32) (x2 : Int32) (x3 : Int32) (s : Mem) : F_H_anyMissing_2 (n + 1) x1 x2 x3 s = xs C_H_anyMissing (fun k ls s => cbr (Nat.beq k 0) (A_H_anyMissing_2 (F_H_anyMissing_2 n) ls s) (none)) 0 (fun _ => 0) K_H_anyMissing 700 (K_H_anyMissing.drop 3) [some (.ref 2), some (.int x1), some (.int x2), some (.int x3)] [] s := rfl
set_option maxRecDepth 100000 in
theorem e_H_anyMissing (x1 : Int32) (x2 : Int32) (s : Mem) : F_H_anyMissing x1 x2 s = xs C_H_anyMissing (fun k ls s => cbr (Nat.beq k 0) (A_H_anyMissing_2 (F_H_anyMissing_2 gF) ls s) (none)) 0 (fun _ => 0) K_H_anyMissing 700 K_H_anyMissing [some (.ref 2), some (.int x1), some (.int x2), none] [] s := rfl
def K_U_beginMutiny : MC := [(0, .iload 1, 0), (1, .lconst 0, 0), (2, .aload 0, 0), (3, .getstatic 405, 0), (6, .arraylength, 0), (7, .lconst 1, 0), (8, .isub, 0), (9, .invokeinterface 2 3, 0), (12, .ifCond .eq 36, 0), (15, .aload 0, 0), (16, .getfield 407, 0), (19, .lconst 0, 0), (20, .aload 0, 0), (21, .getstatic 406, 0), (24, .arraylength, 0), (25, .lconst 1, 0), (26, .isub, 0), (27, .invokeinterface 2 3, 0), (30, .ifCond .eq 36, 0), (33, .aload 0, 0), (34, .getstatic 405, 0), (37, .iload 1, 0), (38, .iconst 0, 1000000), (40, .iastore, 0), (41, .aload 0, 0), (42, .getstatic 406, 0), (45, .aload 0, 0), (46, .getfield 407, 0), (49, .iload 1, 0), (50, .iastore, 0), (51, .aload 0, 0), (52, .dup, 0), (53, .getfield 407, 0), (56, .lconst 1, 0), (57, .iadd, 0), (58, .putfield 407, 0), (61, .return_, 0)]
noncomputable def F_U_beginMutiny (x1 : Int32) (s : Mem) : Option (Int32 × Mem) :=
  (F_C_within x1 0 (96 - 1) s).bind fun z1 =>
  if z1.1 = 0 then
    some (0, z1.2)
  else
  (F_C_within (z1.2 90 7) 0 (96 - 1) z1.2).bind fun z2 =>
  if z2.1 = 0 then
    some (0, z2.2)
  else
  (sd z2.2 98 x1 1000000).bind fun s3 =>
  (sd s3 99 (s3 90 7) x1).bind fun s4 =>
  let s5 : Mem := mw s4 90 7 ((s4 90 7) + 1)
  some (0, s5)
noncomputable def A_U_beginMutiny (av : List Value) (s : Mem) : Option (Int32 × Mem) := match av with
  | [.ref a0, .int a1] => cbr (Nat.beq a0 90) (F_U_beginMutiny a1 s) none
  | _ => none
noncomputable def C_U_beginMutiny (k : Nat) (av : List Value) (s : Mem) : Option (Int32 × Mem) := cbr (Nat.beq k 2) (A_C_within av s) (none)
set_option maxRecDepth 100000 in
theorem e_U_beginMutiny (x1 : Int32) (s : Mem) : F_U_beginMutiny x1 s = xs C_U_beginMutiny (fun k ls s => none) 0 (fun _ => 0) K_U_beginMutiny 700 K_U_beginMutiny [some (.ref 90), some (.int x1)] [] s := rfl
def K_U_urge : MC := [(0, .iload 2, 0), (1, .iconst 0, 16), (3, .imul, 0), (4, .iload 3, 0), (5, .iadd, 0), (6, .istore 4, 0), (8, .aload 1, 0), (9, .iload 2, 0), (10, .iload 3, 0), (11, .invokeinterface 9 35, 0), (14, .ifCond .eq 25, 0), (17, .aload 1, 0), (18, .iload 2, 0), (19, .iload 3, 0), (20, .invokeinterface 22 35, 0), (23, .ifCond .ne 25, 0), (26, .iload 4, 0), (28, .lconst 0, 0), (29, .aload 0, 0), (30, .getstatic 405, 0), (33, .arraylength, 0), (34, .lconst 1, 0), (35, .isub, 0), (36, .invokeinterface 2 3, 0), (39, .ifCond .ne 26, 0), (42, .return_, 0), (43, .aload 0, 0), (44, .getstatic 405, 0), (47, .iload 4, 0), (49, .dup2, 0), (50, .iaload, 0), (51, .lconst 1, 0), (52, .iadd, 0), (53, .iastore, 0), (54, .aload 0, 0), (55, .getstatic 405, 0), (58, .iload 4, 0), (60, .iaload, 0), (61, .aload 1, 0), (62, .iload 2, 0), (63, .iload 3, 0), (64, .invokeinterface 119 3, 0), (67, .if_icmp .ne 46, 0), (70, .aload 0, 0), (71, .iload 4, 0), (73, .multianewarray 122 82, 0), (76, .return_, 0)]
noncomputable def F_U_urge (x2 : Int32) (x3 : Int32) (s : Mem) : Option (Int32 × Mem) :=
  (F_H_has2 x2 x3 s).bind fun z1 =>
  if z1.1 = 0 then
    some (0, z1.2)
  else
  (F_H_isMissing 2 x2 x3 z1.2).bind fun z2 =>
  if z2.1 = 0 then
    (F_C_within ((x2 * 16) + x3) 0 (96 - 1) z2.2).bind fun z3 =>
    if z3.1 = 0 then
      some (0, z3.2)
    else
    (ld z3.2 98 ((x2 * 16) + x3)).bind fun v4 =>
    (sd z3.2 98 ((x2 * 16) + x3) (v4 + 1)).bind fun s5 =>
    (ld s5 98 ((x2 * 16) + x3)).bind fun v6 =>
    (F_U_willOf x2 x3 s5).bind fun z7 =>
    if v6 = z7.1 then
      (F_U_beginMutiny ((x2 * 16) + x3) z7.2).bind fun z8 =>
      some (0, z8.2)
    else
    some (0, z7.2)
  else
  some (0, z2.2)
noncomputable def A_U_urge (av : List Value) (s : Mem) : Option (Int32 × Mem) := match av with
  | [.ref a0, .ref a1, .int a2, .int a3] => cbr (Nat.beq a0 90) (cbr (Nat.beq a1 2) (F_U_urge a2 a3 s) none) none
  | _ => none
noncomputable def C_U_urge (k : Nat) (av : List Value) (s : Mem) : Option (Int32 × Mem) := cbr (Nat.beq k 9) (A_H_has2 av s) (cbr (Nat.beq k 22) (A_H_isMissing av s) (cbr (Nat.beq k 2) (A_C_within av s) (cbr (Nat.beq k 119) (A_U_willOf av s) (cbr (Nat.beq k 122) (A_U_beginMutiny av s) (none)))))
set_option maxRecDepth 100000 in
theorem e_U_urge (x2 : Int32) (x3 : Int32) (s : Mem) : F_U_urge x2 x3 s = xs C_U_urge (fun k ls s => none) 0 (fun _ => 0) K_U_urge 700 K_U_urge [some (.ref 90), some (.ref 2), some (.int x2), some (.int x3), none] [] s := rfl
def K_U_doorFrom : MC := [(0, .iconst 0, 100), (2, .aload 0, 0), (3, .iload 1, 0), (4, .lconst 0, 0), (5, .invokeinterface 37 67, 0), (8, .imul, 0), (9, .aload 0, 0), (10, .iload 1, 0), (11, .lconst 1, 0), (12, .invokeinterface 37 67, 0), (15, .iadd, 0), (16, .istore 3, 0), (17, .iconst 0, 100), (19, .aload 0, 0), (20, .iload 1, 0), (21, .iconst 0, 2), (22, .invokeinterface 37 67, 0), (25, .imul, 0), (26, .aload 0, 0), (27, .iload 1, 0), (28, .iconst 0, 3), (29, .invokeinterface 37 67, 0), (32, .iadd, 0), (33, .istore 4, 0), (35, .iload 3, 0), (36, .iload 2, 0), (37, .if_icmp .ne 29, 0), (40, .iload 4, 0), (42, .goto 35, 0), (45, .iload 4, 0), (47, .iload 2, 0), (48, .if_icmp .ne 34, 0), (51, .iload 3, 0), (52, .goto 35, 0), (55, .iconst 0, (-1)), (56, .ireturn, 0)]
noncomputable def F_U_doorFrom (x1 : Int32) (x2 : Int32) (s : Mem) : Option (Int32 × Mem) :=
  (F_N_at 19 x1 0 s).bind fun z1 =>
  (F_N_at 19 x1 1 z1.2).bind fun z2 =>
  (F_N_at 19 x1 2 z2.2).bind fun z3 =>
  (F_N_at 19 x1 3 z3.2).bind fun z4 =>
  if ((100 * z1.1) + z2.1) = x2 then
    some (((100 * z3.1) + z4.1), z4.2)
  else
  if ((100 * z3.1) + z4.1) = x2 then
    some (((100 * z1.1) + z2.1), z4.2)
  else
  some ((-1), z4.2)
noncomputable def A_U_doorFrom (av : List Value) (s : Mem) : Option (Int32 × Mem) := match av with
  | [.ref a0, .int a1, .int a2] => cbr (Nat.beq a0 19) (F_U_doorFrom a1 a2 s) none
  | _ => none
noncomputable def C_U_doorFrom (k : Nat) (av : List Value) (s : Mem) : Option (Int32 × Mem) := cbr (Nat.beq k 37) (A_N_at av s) (none)
set_option maxRecDepth 100000 in
theorem e_U_doorFrom (x1 : Int32) (x2 : Int32) (s : Mem) : F_U_doorFrom x1 x2 s = xs C_U_doorFrom (fun k ls s => none) 0 (fun _ => 0) K_U_doorFrom 700 K_U_doorFrom [some (.ref 19), some (.int x1), some (.int x2), none, none] [] s := rfl
def K_U_urgeThroughDoors : MC := [(0, .aload 1, 0), (1, .getstatic 605, 0), (4, .astore 4, 0), (6, .iconst 0, 100), (8, .iload 2, 0), (9, .imul, 0), (10, .iload 3, 0), (11, .iadd, 0), (12, .istore 5, 0), (14, .lconst 0, 0), (15, .istore 6, 0), (17, .ret 0, 0), (17, .iload 6, 0), (19, .aload 4, 0), (21, .getfield 301, 0), (24, .if_icmp .ge 62, 0), (27, .aload 4, 0), (29, .iload 6, 0), (31, .iload 5, 0), (33, .invokeinterface 124 3, 0), (36, .istore 7, 0), (38, .iload 7, 0), (40, .iconst 0, (-1)), (41, .if_icmp .eq 26, 0), (44, .lconst 1, 0), (45, .goto 27, 0), (48, .lconst 0, 0), (49, .istore 8, 0), (51, .lconst 0, 0), (52, .istore 9, 0), (54, .ret 1, 0), (54, .iload 9, 0), (56, .iload 6, 0), (58, .if_icmp .ge 48, 0), (61, .iload 8, 0), (63, .ifCond .eq 48, 0), (66, .aload 4, 0), (68, .iload 9, 0), (70, .iload 5, 0), (72, .invokeinterface 124 3, 0), (75, .iload 7, 0), (77, .if_icmp .eq 44, 0), (80, .lconst 1, 0), (81, .goto 45, 0), (84, .lconst 0, 0), (85, .istore 8, 0), (87, .iinc 9 0, 1), (90, .goto 30, 0), (93, .iload 8, 0), (95, .ifCond .eq 60, 0), (98, .aload 0, 0), (99, .aload 1, 0), (100, .getstatic 600, 0), (103, .iload 7, 0), (105, .iconst 0, 100), (107, .ldiv, 0), (108, .iload 7, 0), (110, .iconst 0, 100), (112, .lrem, 0), (113, .multianewarray 123 84, 0), (116, .iinc 6 0, 1), (119, .goto 11, 0), (122, .return_, 0)]
noncomputable def F_U_urgeThroughDoors_29 (k11 : Int32 → Int32 → Mem → Option (Int32 × Mem)) : Nat → Int32 → Int32 → Int32 → Int32 → Int32 → Mem → Option (Int32 × Mem)
  | 0, _, _, _, _, _, _ => none
  | n + 1, x5, x6, x7, x8, x9, s =>
    if x6 ≤ x9 then
      if x8 = 0 then
        k11 x5 (x6 + 1) s
      else
      (F_U_urge (x7 / 100) (irm x7 100) s).bind fun z1 =>
      k11 x5 (x6 + 1) z1.2
    else
    if x8 = 0 then
      if x8 = 0 then
        k11 x5 (x6 + 1) s
      else
      (F_U_urge (x7 / 100) (irm x7 100) s).bind fun z2 =>
      k11 x5 (x6 + 1) z2.2
    else
    (F_U_doorFrom x9 x5 s).bind fun z3 =>
    if z3.1 = x7 then
      F_U_urgeThroughDoors_29 k11 n x5 x6 x7 0 (x9 + 1) z3.2
    else
    F_U_urgeThroughDoors_29 k11 n x5 x6 x7 1 (x9 + 1) z3.2
noncomputable def F_U_urgeThroughDoors_11 : Nat → Int32 → Int32 → Mem → Option (Int32 × Mem)
  | 0, _, _, _ => none
  | n + 1, x5, x6, s =>
    if (s 19 1) ≤ x6 then
      some (0, s)
    else
    (F_U_doorFrom x6 x5 s).bind fun z1 =>
    if z1.1 = (-1) then
      F_U_urgeThroughDoors_29 (F_U_urgeThroughDoors_11 n) gF x5 x6 z1.1 0 0 z1.2
    else
    F_U_urgeThroughDoors_29 (F_U_urgeThroughDoors_11 n) gF x5 x6 z1.1 1 0 z1.2
noncomputable def F_U_urgeThroughDoors (x2 : Int32) (x3 : Int32) (s : Mem) : Option (Int32 × Mem) :=
  F_U_urgeThroughDoors_11 gF ((100 * x2) + x3) 0 s
def A_U_urgeThroughDoors_11 (f : Int32 → Int32 → Mem → Option (Int32 × Mem)) (ls : List (Option Value)) (s : Mem) : Option (Int32 × Mem) := match lk ls 0, lk ls 1, lk ls 4, lk ls 5, lk ls 6 with
  | some (.ref a0), some (.ref a1), some (.ref a2), some (.int a3), some (.int a4) => cbr (Nat.beq a0 90) (cbr (Nat.beq a1 1) (cbr (Nat.beq a2 19) (f a3 a4 s) none) none) none
  | _, _, _, _, _ => none
def A_U_urgeThroughDoors_29 (f : Int32 → Int32 → Int32 → Int32 → Int32 → Mem → Option (Int32 × Mem)) (ls : List (Option Value)) (s : Mem) : Option (Int32 × Mem) := match lk ls 0, lk ls 1, lk ls 4, lk ls 5, lk ls 6, lk ls 7, lk ls 8, lk ls 9 with
  | some (.ref a0), some (.ref a1), some (.ref a2), some (.int a3), some (.int a4), some (.int a5), some (.int a6), some (.int a7) => cbr (Nat.beq a0 90) (cbr (Nat.beq a1 1) (cbr (Nat.beq a2 19) (f a3 a4 a5 a6 a7 s) none) none) none
  | _, _, _, _, _, _, _, _ => none
noncomputable def A_U_urgeThroughDoors (av : List Value) (s : Mem) : Option (Int32 × Mem) := match av with
  | [.ref a0, .ref a1, .int a2, .int a3] => cbr (Nat.beq a0 90) (cbr (Nat.beq a1 1) (F_U_urgeThroughDoors a2 a3 s) none) none
  | _ => none
noncomputable def C_U_urgeThroughDoors (k : Nat) (av : List Value) (s : Mem) : Option (Int32 × Mem) := cbr (Nat.beq k 124) (A_U_doorFrom av s) (cbr (Nat.beq k 123) (A_U_urge av s) (none))
set_option maxRecDepth 100000 in
theorem e_U_urgeThroughDoors_29 (k11 : Int32 → Int32 → Mem → Option (Int32 × Mem)) (n : Nat) (x5 : Int32) (x6 : Int32) (x7 : Int32) (x8 : Int32) (x9 : Int32) (s : Mem) : F_U_urgeThroughDoors_29 k11 (n + 1) x5 x6 x7 x8 x9 s = xs C_U_urgeThroughDoors (fun k ls s => cbr (Nat.beq k 0) (A_U_urgeThroughDoors_11 (k11) ls s) (cbr (Nat.beq k 1) (A_U_urgeThroughDoors_29 (F_U_urgeThroughDoors_29 k11 n) ls s) (none))) 0 (fun _ => 0) K_U_urgeThroughDoors 700 (K_U_urgeThroughDoors.drop 31) [some (.ref 90), some (.ref 1), none, none, some (.ref 19), some (.int x5), some (.int x6), some (.int x7), some (.int x8), some (.int x9)] [] s := rfl
set_option maxRecDepth 100000 in
theorem e_U_urgeThroughDoors_11  (n : Nat) (x5 : Int32) (x6 : Int32) (s : Mem) : F_U_urgeThroughDoors_11 (n + 1) x5 x6 s = xs C_U_urgeThroughDoors (fun k ls s => cbr (Nat.beq k 1) (A_U_urgeThroughDoors_29 (F_U_urgeThroughDoors_29 (F_U_urgeThroughDoors_11 n) gF) ls s) (none)) 0 (fun _ => 0) K_U_urgeThroughDoors 700 (K_U_urgeThroughDoors.drop 12) [some (.ref 90), some (.ref 1), none, none, some (.ref 19), some (.int x5), some (.int x6), none, none, none] [] s := rfl
set_option maxRecDepth 100000 in
theorem e_U_urgeThroughDoors (x2 : Int32) (x3 : Int32) (s : Mem) : F_U_urgeThroughDoors x2 x3 s = xs C_U_urgeThroughDoors (fun k ls s => cbr (Nat.beq k 0) (A_U_urgeThroughDoors_11 (F_U_urgeThroughDoors_11 gF) ls s) (none)) 0 (fun _ => 0) K_U_urgeThroughDoors 700 K_U_urgeThroughDoors [some (.ref 90), some (.ref 1), some (.int x2), some (.int x3), none, none, none, none, none, none] [] s := rfl
def K_U_mutineers : MC := [(0, .aload 0, 0), (1, .getstatic 405, 0), (4, .lconst 0, 0), (5, .multianewarray 110 2, 0), (8, .aload 0, 0), (9, .lconst 0, 0), (10, .putfield 407, 0), (13, .lconst 0, 0), (14, .istore 4, 0), (16, .ret 0, 0), (16, .iload 4, 0), (18, .aload 1, 0), (19, .getstatic 600, 0), (22, .iload 2, 0), (23, .invokeinterface 8 34, 0), (26, .if_icmp .ge 32, 0), (29, .iload 3, 0), (30, .iload 4, 0), (32, .ishr, 0), (33, .lconst 1, 0), (34, .iand, 0), (35, .lconst 1, 0), (36, .if_icmp .ne 30, 0), (39, .aload 0, 0), (40, .iload 2, 0), (41, .iconst 0, 16), (43, .imul, 0), (44, .iload 4, 0), (46, .iadd, 0), (47, .multianewarray 122 82, 0), (50, .iinc 4 0, 1), (53, .goto 9, 0), (56, .lconst 0, 0), (57, .istore 4, 0), (59, .ret 1, 0), (59, .iload 4, 0), (61, .aload 0, 0), (62, .getfield 407, 0), (65, .if_icmp .ge 80, 0), (68, .iload 4, 0), (70, .aload 0, 0), (71, .getstatic 406, 0), (74, .arraylength, 0), (75, .if_icmp .ge 80, 0), (78, .aload 0, 0), (79, .getstatic 406, 0), (82, .iload 4, 0), (84, .iaload, 0), (85, .istore 5, 0), (87, .iload 5, 0), (89, .iconst 0, 16), (91, .ldiv, 0), (92, .istore 6, 0), (94, .iload 5, 0), (96, .iconst 0, 16), (98, .lrem, 0), (99, .istore 7, 0), (101, .aload 0, 0), (102, .aload 1, 0), (103, .getstatic 600, 0), (106, .iload 6, 0), (108, .iload 7, 0), (110, .lconst 1, 0), (111, .isub, 0), (112, .multianewarray 123 84, 0), (115, .aload 0, 0), (116, .aload 1, 0), (117, .getstatic 600, 0), (120, .iload 6, 0), (122, .iload 7, 0), (124, .lconst 1, 0), (125, .iadd, 0), (126, .multianewarray 123 84, 0), (129, .aload 0, 0), (130, .aload 1, 0), (131, .iload 6, 0), (133, .iload 7, 0), (135, .multianewarray 125 84, 0), (138, .iinc 4 0, 1), (141, .goto 34, 0), (144, .aload 0, 0), (145, .getfield 407, 0), (148, .ireturn, 0)]
noncomputable def F_U_mutineers_33 : Nat → Int32 → Mem → Option (Int32 × Mem)
  | 0, _, _ => none
  | n + 1, x4, s =>
    if (s 90 7) ≤ x4 then
      some ((s 90 7), s)
    else
    if 96 ≤ x4 then
      some ((s 90 7), s)
    else
    (ld s 99 x4).bind fun v1 =>
    (F_U_urge (v1 / 16) ((irm v1 16) - 1) s).bind fun z2 =>
    (F_U_urge (v1 / 16) ((irm v1 16) + 1) z2.2).bind fun z3 =>
    (F_U_urgeThroughDoors (v1 / 16) (irm v1 16) z3.2).bind fun z4 =>
    F_U_mutineers_33 n (x4 + 1) z4.2
noncomputable def F_U_mutineers_9 : Nat → Int32 → Int32 → Int32 → Mem → Option (Int32 × Mem)
  | 0, _, _, _, _ => none
  | n + 1, x2, x3, x4, s =>
    (F_H_size 2 x2 s).bind fun z1 =>
    if z1.1 ≤ x4 then
      F_U_mutineers_33 gF 0 z1.2
    else
    if ((shr x3 x4) &&& 1) = 1 then
      (F_U_beginMutiny ((x2 * 16) + x4) z1.2).bind fun z2 =>
      F_U_mutineers_9 n x2 x3 (x4 + 1) z2.2
    else
    F_U_mutineers_9 n x2 x3 (x4 + 1) z1.2
noncomputable def F_U_mutineers (x2 : Int32) (x3 : Int32) (s : Mem) : Option (Int32 × Mem) :=
  (F_JA_fill 98 0 s).bind fun z1 =>
  let s2 : Mem := mw z1.2 90 7 0
  F_U_mutineers_9 gF x2 x3 0 s2
def A_U_mutineers_9 (f : Int32 → Int32 → Int32 → Mem → Option (Int32 × Mem)) (ls : List (Option Value)) (s : Mem) : Option (Int32 × Mem) := match lk ls 0, lk ls 1, lk ls 2, lk ls 3, lk ls 4 with
  | some (.ref a0), some (.ref a1), some (.int a2), some (.int a3), some (.int a4) => cbr (Nat.beq a0 90) (cbr (Nat.beq a1 1) (f a2 a3 a4 s) none) none
  | _, _, _, _, _ => none
def A_U_mutineers_33 (f : Int32 → Mem → Option (Int32 × Mem)) (ls : List (Option Value)) (s : Mem) : Option (Int32 × Mem) := match lk ls 0, lk ls 1, lk ls 4 with
  | some (.ref a0), some (.ref a1), some (.int a2) => cbr (Nat.beq a0 90) (cbr (Nat.beq a1 1) (f a2 s) none) none
  | _, _, _ => none
noncomputable def A_U_mutineers (av : List Value) (s : Mem) : Option (Int32 × Mem) := match av with
  | [.ref a0, .ref a1, .int a2, .int a3] => cbr (Nat.beq a0 90) (cbr (Nat.beq a1 1) (F_U_mutineers a2 a3 s) none) none
  | _ => none
noncomputable def C_U_mutineers (k : Nat) (av : List Value) (s : Mem) : Option (Int32 × Mem) := cbr (Nat.beq k 110) (A_JA_fill av s) (cbr (Nat.beq k 8) (A_H_size av s) (cbr (Nat.beq k 122) (A_U_beginMutiny av s) (cbr (Nat.beq k 123) (A_U_urge av s) (cbr (Nat.beq k 125) (A_U_urgeThroughDoors av s) (none)))))
set_option maxRecDepth 100000 in
theorem e_U_mutineers_33  (n : Nat) (x4 : Int32) (s : Mem) : F_U_mutineers_33 (n + 1) x4 s = xs C_U_mutineers (fun k ls s => cbr (Nat.beq k 1) (A_U_mutineers_33 (F_U_mutineers_33 n) ls s) (none)) 0 (fun _ => 0) K_U_mutineers 700 (K_U_mutineers.drop 35) [some (.ref 90), some (.ref 1), none, none, some (.int x4), none, none, none] [] s := rfl
set_option maxRecDepth 100000 in
theorem e_U_mutineers_9  (n : Nat) (x2 : Int32) (x3 : Int32) (x4 : Int32) (s : Mem) : F_U_mutineers_9 (n + 1) x2 x3 x4 s = xs C_U_mutineers (fun k ls s => cbr (Nat.beq k 0) (A_U_mutineers_9 (F_U_mutineers_9 n) ls s) (cbr (Nat.beq k 1) (A_U_mutineers_33 (F_U_mutineers_33 gF) ls s) (none))) 0 (fun _ => 0) K_U_mutineers 700 (K_U_mutineers.drop 10) [some (.ref 90), some (.ref 1), some (.int x2), some (.int x3), some (.int x4), none, none, none] [] s := rfl
set_option maxRecDepth 100000 in
theorem e_U_mutineers (x2 : Int32) (x3 : Int32) (s : Mem) : F_U_mutineers x2 x3 s = xs C_U_mutineers (fun k ls s => cbr (Nat.beq k 0) (A_U_mutineers_9 (F_U_mutineers_9 gF) ls s) (none)) 0 (fun _ => 0) K_U_mutineers 700 K_U_mutineers [some (.ref 90), some (.ref 1), some (.int x2), some (.int x3), none, none, none, none] [] s := rfl
def K_C_mutiny : MC := [(0, .aload 0, 0), (1, .getstatic 1000, 0), (4, .getstatic 600, 0), (7, .iload 1, 0), (8, .invokeinterface 7 34, 0), (11, .ifCond .ne 8, 0), (14, .iconst 0, (-1)), (15, .ireturn, 0), (16, .iload 2, 0), (17, .iconst 0, (-1)), (18, .if_icmp .ne 17, 0), (21, .aload 0, 0), (22, .getstatic 1000, 0), (25, .getstatic 600, 0), (28, .iload 1, 0), (29, .invokeinterface 120 2, 0), (32, .ireturn, 0), (33, .aload 0, 0), (34, .getstatic 1000, 0), (37, .getstatic 600, 0), (40, .iload 1, 0), (41, .iload 2, 0), (42, .invokeinterface 104 35, 0), (45, .ifCond .eq 31, 0), (48, .aload 0, 0), (49, .getstatic 1000, 0), (52, .getstatic 600, 0), (55, .iload 1, 0), (56, .iload 2, 0), (57, .invokeinterface 121 35, 0), (60, .ifCond .eq 33, 0), (63, .iconst 0, (-1)), (64, .ireturn, 0), (65, .aload 0, 0), (66, .getstatic 1012, 0), (69, .aload 0, 0), (70, .getstatic 1000, 0), (73, .iload 1, 0), (74, .iload 2, 0), (75, .invokeinterface 126 84, 0), (78, .ireturn, 0)]
noncomputable def F_C_mutiny (x1 : Int32) (x2 : Int32) (s : Mem) : Option (Int32 × Mem) :=
  (F_H_has1 x1 s).bind fun z1 =>
  if z1.1 = 0 then
    some ((-1), z1.2)
  else
  if x2 = (-1) then
    (F_U_fewestToBegin x1 z1.2).bind fun z2 =>
    some (z2.1, z2.2)
  else
  (F_H_hasSet x1 x2 z1.2).bind fun z3 =>
  if z3.1 = 0 then
    some ((-1), z3.2)
  else
  (F_H_anyMissing x1 x2 z3.2).bind fun z4 =>
  if z4.1 = 0 then
    (F_U_mutineers x1 x2 z4.2).bind fun z5 =>
    some (z5.1, z5.2)
  else
  some ((-1), z4.2)
noncomputable def A_C_mutiny (av : List Value) (s : Mem) : Option (Int32 × Mem) := match av with
  | [.ref a0, .int a1, .int a2] => cbr (Nat.beq a0 0) (F_C_mutiny a1 a2 s) none
  | _ => none
noncomputable def C_C_mutiny (k : Nat) (av : List Value) (s : Mem) : Option (Int32 × Mem) := cbr (Nat.beq k 7) (A_H_has1 av s) (cbr (Nat.beq k 120) (A_U_fewestToBegin av s) (cbr (Nat.beq k 104) (A_H_hasSet av s) (cbr (Nat.beq k 121) (A_H_anyMissing av s) (cbr (Nat.beq k 126) (A_U_mutineers av s) (none)))))
set_option maxRecDepth 100000 in
theorem e_C_mutiny (x1 : Int32) (x2 : Int32) (s : Mem) : F_C_mutiny x1 x2 s = xs C_C_mutiny (fun k ls s => none) 0 (fun _ => 0) K_C_mutiny 700 K_C_mutiny [some (.ref 0), some (.int x1), some (.int x2)] [] s := rfl
def K_D_isPermutation : MC := [(0, .iload 0, 0), (1, .ifCond .ge 4, 0), (4, .lconst 0, 0), (5, .lreturn, 0), (6, .iload 0, 0), (7, .istore 2, 0), (8, .lconst 0, 0), (9, .istore 3, 0), (10, .lconst 0, 0), (11, .istore 4, 0), (13, .ret 0, 0), (13, .iload 4, 0), (15, .iload 1, 0), (16, .if_icmp .ge 28, 0), (19, .iload 3, 0), (20, .lconst 1, 0), (21, .iload 2, 0), (22, .iconst 0, 10), (24, .lrem, 0), (25, .ishl, 0), (26, .ior, 0), (27, .istore 3, 0), (28, .iload 2, 0), (29, .iconst 0, 10), (31, .ldiv, 0), (32, .istore 2, 0), (33, .iinc 4 0, 1), (36, .goto 10, 0), (39, .iload 2, 0), (40, .ifCond .ne 39, 0), (43, .iload 3, 0), (44, .lconst 1, 0), (45, .iload 1, 0), (46, .ishl, 0), (47, .lconst 1, 0), (48, .isub, 0), (49, .if_icmp .ne 39, 0), (52, .lconst 1, 0), (53, .goto 40, 0), (56, .lconst 0, 0), (57, .lreturn, 0)]
noncomputable def F_D_isPermutation_10 : Nat → Int32 → Int32 → Int32 → Int32 → Mem → Option (Int32 × Mem)
  | 0, _, _, _, _, _ => none
  | n + 1, x1, x2, x3, x4, s =>
    if x1 ≤ x4 then
      if x2 = 0 then
        if x3 = ((shl 1 x1) - 1) then
          some (1, s)
        else
        some (0, s)
      else
      some (0, s)
    else
    let y1 : Int32 := (x3 ||| (shl 1 (irm x2 10)))
    F_D_isPermutation_10 n x1 (x2 / 10) y1 (x4 + 1) s
noncomputable def F_D_isPermutation (x0 : Int32) (x1 : Int32) (s : Mem) : Option (Int32 × Mem) :=
  if 0 ≤ x0 then
    F_D_isPermutation_10 gF x1 x0 0 0 s
  else
  some (0, s)
def A_D_isPermutation_10 (f : Int32 → Int32 → Int32 → Int32 → Mem → Option (Int32 × Mem)) (ls : List (Option Value)) (s : Mem) : Option (Int32 × Mem) := match lk ls 1, lk ls 2, lk ls 3, lk ls 4 with
  | some (.int a0), some (.int a1), some (.int a2), some (.int a3) => f a0 a1 a2 a3 s
  | _, _, _, _ => none
noncomputable def A_D_isPermutation (av : List Value) (s : Mem) : Option (Int32 × Mem) := match av with
  | [.int a0, .int a1] => F_D_isPermutation a0 a1 s
  | _ => none
noncomputable def C_D_isPermutation (k : Nat) (av : List Value) (s : Mem) : Option (Int32 × Mem) := none
set_option maxRecDepth 100000 in
theorem e_D_isPermutation_10  (n : Nat) (x1 : Int32) (x2 : Int32) (x3 : Int32) (x4 : Int32) (s : Mem) : F_D_isPermutation_10 (n + 1) x1 x2 x3 x4 s = xs C_D_isPermutation (fun k ls s => cbr (Nat.beq k 0) (A_D_isPermutation_10 (F_D_isPermutation_10 n) ls s) (none)) 0 (fun _ => 0) K_D_isPermutation 700 (K_D_isPermutation.drop 11) [none, some (.int x1), some (.int x2), some (.int x3), some (.int x4)] [] s := rfl
set_option maxRecDepth 100000 in
theorem e_D_isPermutation (x0 : Int32) (x1 : Int32) (s : Mem) : F_D_isPermutation x0 x1 s = xs C_D_isPermutation (fun k ls s => cbr (Nat.beq k 0) (A_D_isPermutation_10 (F_D_isPermutation_10 gF) ls s) (none)) 0 (fun _ => 0) K_D_isPermutation 700 K_D_isPermutation [some (.int x0), some (.int x1), none, none, none] [] s := rfl
def K_C_signer : MC := [(0, .iload 1, 0), (1, .iconst 0, (-1)), (2, .if_icmp .ne 9, 0), (5, .aload 0, 0), (6, .getstatic 1000, 0), (9, .getstatic 606, 0), (12, .getstatic 902, 0), (15, .invokeinterface 101 145, 0), (18, .ireturn, 0), (19, .iload 1, 0), (20, .iconst 0, 4), (21, .invokeinterface 128 2, 0), (24, .ifCond .eq 20, 0), (27, .aload 0, 0), (28, .getstatic 1000, 0), (31, .getstatic 606, 0), (34, .getstatic 902, 0), (37, .iload 1, 0), (38, .invokeinterface 102 146, 0), (41, .goto 21, 0), (44, .iconst 0, (-1)), (45, .ireturn, 0)]
noncomputable def F_C_signer (x1 : Int32) (s : Mem) : Option (Int32 × Mem) :=
  if x1 = (-1) then
    (F_W_clear 26 s).bind fun z1 =>
    some (z1.1, z1.2)
  else
  (F_D_isPermutation x1 4 s).bind fun z2 =>
  if z2.1 = 0 then
    some ((-1), z2.2)
  else
  (F_W_add 26 x1 z2.2).bind fun z3 =>
  some (z3.1, z3.2)
noncomputable def A_C_signer (av : List Value) (s : Mem) : Option (Int32 × Mem) := match av with
  | [.ref a0, .int a1] => cbr (Nat.beq a0 0) (F_C_signer a1 s) none
  | _ => none
noncomputable def C_C_signer (k : Nat) (av : List Value) (s : Mem) : Option (Int32 × Mem) := cbr (Nat.beq k 101) (A_W_clear av s) (cbr (Nat.beq k 128) (A_D_isPermutation av s) (cbr (Nat.beq k 102) (A_W_add av s) (none)))
set_option maxRecDepth 100000 in
theorem e_C_signer (x1 : Int32) (s : Mem) : F_C_signer x1 s = xs C_C_signer (fun k ls s => none) 0 (fun _ => 0) K_C_signer 700 K_C_signer [some (.ref 0), some (.int x1)] [] s := rfl
def K_D_placeOf : MC := [(0, .iload 0, 0), (1, .istore 2, 0), (2, .iconst 0, 3), (3, .istore 3, 0), (4, .ret 0, 0), (4, .iload 3, 0), (5, .ifCond .le 20, 0), (8, .iload 2, 0), (9, .iconst 0, 10), (11, .lrem, 0), (12, .iload 1, 0), (13, .if_icmp .ne 14, 0), (16, .iload 3, 0), (17, .ireturn, 0), (18, .iload 2, 0), (19, .iconst 0, 10), (21, .ldiv, 0), (22, .istore 2, 0), (23, .iinc 3 0, (-1)), (26, .goto 4, 0), (29, .lconst 0, 0), (30, .ireturn, 0)]
noncomputable def F_D_placeOf_4 : Nat → Int32 → Int32 → Int32 → Mem → Option (Int32 × Mem)
  | 0, _, _, _, _ => none
  | n + 1, x1, x2, x3, s =>
    if x3 ≤ 0 then
      some (0, s)
    else
    if (irm x2 10) = x1 then
      some (x3, s)
    else
    F_D_placeOf_4 n x1 (x2 / 10) (x3 + (-1)) s
noncomputable def F_D_placeOf (x0 : Int32) (x1 : Int32) (s : Mem) : Option (Int32 × Mem) :=
  F_D_placeOf_4 gF x1 x0 3 s
def A_D_placeOf_4 (f : Int32 → Int32 → Int32 → Mem → Option (Int32 × Mem)) (ls : List (Option Value)) (s : Mem) : Option (Int32 × Mem) := match lk ls 1, lk ls 2, lk ls 3 with
  | some (.int a0), some (.int a1), some (.int a2) => f a0 a1 a2 s
  | _, _, _ => none
noncomputable def A_D_placeOf (av : List Value) (s : Mem) : Option (Int32 × Mem) := match av with
  | [.int a0, .int a1] => F_D_placeOf a0 a1 s
  | _ => none
noncomputable def C_D_placeOf (k : Nat) (av : List Value) (s : Mem) : Option (Int32 × Mem) := none
set_option maxRecDepth 100000 in
theorem e_D_placeOf_4  (n : Nat) (x1 : Int32) (x2 : Int32) (x3 : Int32) (s : Mem) : F_D_placeOf_4 (n + 1) x1 x2 x3 s = xs C_D_placeOf (fun k ls s => cbr (Nat.beq k 0) (A_D_placeOf_4 (F_D_placeOf_4 n) ls s) (none)) 0 (fun _ => 0) K_D_placeOf 700 (K_D_placeOf.drop 5) [none, some (.int x1), some (.int x2), some (.int x3)] [] s := rfl
set_option maxRecDepth 100000 in
theorem e_D_placeOf (x0 : Int32) (x1 : Int32) (s : Mem) : F_D_placeOf x0 x1 s = xs C_D_placeOf (fun k ls s => cbr (Nat.beq k 0) (A_D_placeOf_4 (F_D_placeOf_4 gF) ls s) (none)) 0 (fun _ => 0) K_D_placeOf 700 K_D_placeOf [some (.int x0), some (.int x1), none, none] [] s := rfl
def K_D_before : MC := [(0, .lconst 0, 0), (1, .istore 3, 0), (2, .lconst 0, 0), (3, .istore 4, 0), (5, .ret 0, 0), (5, .iload 4, 0), (7, .aload 0, 0), (8, .getfield 801, 0), (11, .if_icmp .ge 28, 0), (14, .iload 3, 0), (15, .aload 0, 0), (16, .iload 4, 0), (18, .invokeinterface 105 146, 0), (21, .iload 1, 0), (22, .invokeinterface 130 2, 0), (25, .aload 0, 0), (26, .iload 4, 0), (28, .invokeinterface 105 146, 0), (31, .iload 2, 0), (32, .invokeinterface 130 2, 0), (35, .if_icmp .ge 23, 0), (38, .lconst 1, 0), (39, .goto 24, 0), (42, .lconst 0, 0), (43, .iadd, 0), (44, .istore 3, 0), (45, .iinc 4 0, 1), (48, .goto 4, 0), (51, .iload 3, 0), (52, .ireturn, 0)]
noncomputable def F_D_before_4 : Nat → Int32 → Int32 → Int32 → Int32 → Mem → Option (Int32 × Mem)
  | 0, _, _, _, _, _ => none
  | n + 1, x1, x2, x3, x4, s =>
    if (s 26 1) ≤ x4 then
      some (x3, s)
    else
    (F_W_at 26 x4 s).bind fun z1 =>
    (F_D_placeOf z1.1 x1 z1.2).bind fun z2 =>
    (F_W_at 26 x4 z2.2).bind fun z3 =>
    (F_D_placeOf z3.1 x2 z3.2).bind fun z4 =>
    if z4.1 ≤ z2.1 then
      F_D_before_4 n x1 x2 (x3 + 0) (x4 + 1) z4.2
    else
    F_D_before_4 n x1 x2 (x3 + 1) (x4 + 1) z4.2
noncomputable def F_D_before (x1 : Int32) (x2 : Int32) (s : Mem) : Option (Int32 × Mem) :=
  F_D_before_4 gF x1 x2 0 0 s
def A_D_before_4 (f : Int32 → Int32 → Int32 → Int32 → Mem → Option (Int32 × Mem)) (ls : List (Option Value)) (s : Mem) : Option (Int32 × Mem) := match lk ls 0, lk ls 1, lk ls 2, lk ls 3, lk ls 4 with
  | some (.ref a0), some (.int a1), some (.int a2), some (.int a3), some (.int a4) => cbr (Nat.beq a0 26) (f a1 a2 a3 a4 s) none
  | _, _, _, _, _ => none
noncomputable def A_D_before (av : List Value) (s : Mem) : Option (Int32 × Mem) := match av with
  | [.ref a0, .int a1, .int a2] => cbr (Nat.beq a0 26) (F_D_before a1 a2 s) none
  | _ => none
noncomputable def C_D_before (k : Nat) (av : List Value) (s : Mem) : Option (Int32 × Mem) := cbr (Nat.beq k 105) (A_W_at av s) (cbr (Nat.beq k 130) (A_D_placeOf av s) (none))
set_option maxRecDepth 100000 in
theorem e_D_before_4  (n : Nat) (x1 : Int32) (x2 : Int32) (x3 : Int32) (x4 : Int32) (s : Mem) : F_D_before_4 (n + 1) x1 x2 x3 x4 s = xs C_D_before (fun k ls s => cbr (Nat.beq k 0) (A_D_before_4 (F_D_before_4 n) ls s) (none)) 0 (fun _ => 0) K_D_before 700 (K_D_before.drop 5) [some (.ref 26), some (.int x1), some (.int x2), some (.int x3), some (.int x4)] [] s := rfl
set_option maxRecDepth 100000 in
theorem e_D_before (x1 : Int32) (x2 : Int32) (s : Mem) : F_D_before x1 x2 s = xs C_D_before (fun k ls s => cbr (Nat.beq k 0) (A_D_before_4 (F_D_before_4 gF) ls s) (none)) 0 (fun _ => 0) K_D_before 700 K_D_before [some (.ref 26), some (.int x1), some (.int x2), none, none] [] s := rfl
def K_D_isAhead : MC := [(0, .lconst 0, 0), (1, .istore 2, 0), (2, .ret 0, 0), (2, .iload 2, 0), (3, .iconst 0, 4), (4, .if_icmp .ge 46, 0), (7, .lconst 0, 0), (8, .istore 3, 0), (9, .ret 1, 0), (9, .iload 3, 0), (10, .iconst 0, 4), (11, .if_icmp .ge 44, 0), (14, .iload 1, 0), (15, .iload 2, 0), (16, .ishr, 0), (17, .lconst 1, 0), (18, .iand, 0), (19, .lconst 1, 0), (20, .if_icmp .ne 27, 0), (23, .iload 1, 0), (24, .iload 3, 0), (25, .ishr, 0), (26, .lconst 1, 0), (27, .iand, 0), (28, .ifCond .ne 27, 0), (31, .lconst 1, 0), (32, .goto 28, 0), (35, .lconst 0, 0), (36, .istore 4, 0), (38, .iload 4, 0), (40, .ifCond .eq 42, 0), (43, .iconst 0, 2), (44, .aload 0, 0), (45, .iload 2, 0), (46, .iload 3, 0), (47, .invokeinterface 131 3, 0), (50, .imul, 0), (51, .aload 0, 0), (52, .getfield 801, 0), (55, .if_icmp .gt 42, 0), (58, .lconst 0, 0), (59, .lreturn, 0), (60, .iinc 3 0, 1), (63, .goto 8, 0), (66, .iinc 2 0, 1), (69, .goto 2, 0), (72, .lconst 1, 0), (73, .lreturn, 0)]
noncomputable def F_D_isAhead_7 (k2 : Int32 → Int32 → Mem → Option (Int32 × Mem)) : Nat → Int32 → Int32 → Int32 → Mem → Option (Int32 × Mem)
  | 0, _, _, _, _ => none
  | n + 1, x1, x2, x3, s =>
    if 4 ≤ x3 then
      k2 x1 (x2 + 1) s
    else
    if ((shr x1 x2) &&& 1) = 1 then
      if ((shr x1 x3) &&& 1) = 0 then
        (F_D_before x2 x3 s).bind fun z1 =>
        if (z1.2 26 1) < (2 * z1.1) then
          F_D_isAhead_7 k2 n x1 x2 (x3 + 1) z1.2
        else
        some (0, z1.2)
      else
      F_D_isAhead_7 k2 n x1 x2 (x3 + 1) s
    else
    F_D_isAhead_7 k2 n x1 x2 (x3 + 1) s
noncomputable def F_D_isAhead_2 : Nat → Int32 → Int32 → Mem → Option (Int32 × Mem)
  | 0, _, _, _ => none
  | n + 1, x1, x2, s =>
    if 4 ≤ x2 then
      some (1, s)
    else
    F_D_isAhead_7 (F_D_isAhead_2 n) gF x1 x2 0 s
noncomputable def F_D_isAhead (x1 : Int32) (s : Mem) : Option (Int32 × Mem) :=
  F_D_isAhead_2 gF x1 0 s
def A_D_isAhead_2 (f : Int32 → Int32 → Mem → Option (Int32 × Mem)) (ls : List (Option Value)) (s : Mem) : Option (Int32 × Mem) := match lk ls 0, lk ls 1, lk ls 2 with
  | some (.ref a0), some (.int a1), some (.int a2) => cbr (Nat.beq a0 26) (f a1 a2 s) none
  | _, _, _ => none
def A_D_isAhead_7 (f : Int32 → Int32 → Int32 → Mem → Option (Int32 × Mem)) (ls : List (Option Value)) (s : Mem) : Option (Int32 × Mem) := match lk ls 0, lk ls 1, lk ls 2, lk ls 3 with
  | some (.ref a0), some (.int a1), some (.int a2), some (.int a3) => cbr (Nat.beq a0 26) (f a1 a2 a3 s) none
  | _, _, _, _ => none
noncomputable def A_D_isAhead (av : List Value) (s : Mem) : Option (Int32 × Mem) := match av with
  | [.ref a0, .int a1] => cbr (Nat.beq a0 26) (F_D_isAhead a1 s) none
  | _ => none
noncomputable def C_D_isAhead (k : Nat) (av : List Value) (s : Mem) : Option (Int32 × Mem) := cbr (Nat.beq k 131) (A_D_before av s) (none)
set_option maxRecDepth 100000 in
theorem e_D_isAhead_7 (k2 : Int32 → Int32 → Mem → Option (Int32 × Mem)) (n : Nat) (x1 : Int32) (x2 : Int32) (x3 : Int32) (s : Mem) : F_D_isAhead_7 k2 (n + 1) x1 x2 x3 s = xs C_D_isAhead (fun k ls s => cbr (Nat.beq k 0) (A_D_isAhead_2 (k2) ls s) (cbr (Nat.beq k 1) (A_D_isAhead_7 (F_D_isAhead_7 k2 n) ls s) (none))) 0 (fun _ => 0) K_D_isAhead 700 (K_D_isAhead.drop 9) [some (.ref 26), some (.int x1), some (.int x2), some (.int x3), none] [] s := rfl
set_option maxRecDepth 100000 in
theorem e_D_isAhead_2  (n : Nat) (x1 : Int32) (x2 : Int32) (s : Mem) : F_D_isAhead_2 (n + 1) x1 x2 s = xs C_D_isAhead (fun k ls s => cbr (Nat.beq k 1) (A_D_isAhead_7 (F_D_isAhead_7 (F_D_isAhead_2 n) gF) ls s) (none)) 0 (fun _ => 0) K_D_isAhead 700 (K_D_isAhead.drop 3) [some (.ref 26), some (.int x1), some (.int x2), none, none] [] s := rfl
set_option maxRecDepth 100000 in
theorem e_D_isAhead (x1 : Int32) (s : Mem) : F_D_isAhead x1 s = xs C_D_isAhead (fun k ls s => cbr (Nat.beq k 0) (A_D_isAhead_2 (F_D_isAhead_2 gF) ls s) (none)) 0 (fun _ => 0) K_D_isAhead 700 K_D_isAhead [some (.ref 26), some (.int x1), none, none, none] [] s := rfl
def K_D_winner : MC := [(0, .lconst 0, 0), (1, .istore 1, 0), (2, .ret 0, 0), (2, .iload 1, 0), (3, .iconst 0, 4), (4, .if_icmp .ge 16, 0), (7, .aload 0, 0), (8, .lconst 1, 0), (9, .iload 1, 0), (10, .ishl, 0), (11, .invokeinterface 132 2, 0), (14, .ifCond .eq 14, 0), (17, .iload 1, 0), (18, .ireturn, 0), (19, .iinc 1 0, 1), (22, .goto 2, 0), (25, .iconst 0, (-1)), (26, .ireturn, 0)]
noncomputable def F_D_winner_2 : Nat → Int32 → Mem → Option (Int32 × Mem)
  | 0, _, _ => none
  | n + 1, x1, s =>
    if 4 ≤ x1 then
      some ((-1), s)
    else
    (F_D_isAhead (shl 1 x1) s).bind fun z1 =>
    if z1.1 = 0 then
      F_D_winner_2 n (x1 + 1) z1.2
    else
    some (x1, z1.2)
noncomputable def F_D_winner  (s : Mem) : Option (Int32 × Mem) :=
  F_D_winner_2 gF 0 s
def A_D_winner_2 (f : Int32 → Mem → Option (Int32 × Mem)) (ls : List (Option Value)) (s : Mem) : Option (Int32 × Mem) := match lk ls 0, lk ls 1 with
  | some (.ref a0), some (.int a1) => cbr (Nat.beq a0 26) (f a1 s) none
  | _, _ => none
noncomputable def A_D_winner (av : List Value) (s : Mem) : Option (Int32 × Mem) := match av with
  | [.ref a0] => cbr (Nat.beq a0 26) (F_D_winner s) none
  | _ => none
noncomputable def C_D_winner (k : Nat) (av : List Value) (s : Mem) : Option (Int32 × Mem) := cbr (Nat.beq k 132) (A_D_isAhead av s) (none)
set_option maxRecDepth 100000 in
theorem e_D_winner_2  (n : Nat) (x1 : Int32) (s : Mem) : F_D_winner_2 (n + 1) x1 s = xs C_D_winner (fun k ls s => cbr (Nat.beq k 0) (A_D_winner_2 (F_D_winner_2 n) ls s) (none)) 0 (fun _ => 0) K_D_winner 700 (K_D_winner.drop 3) [some (.ref 26), some (.int x1)] [] s := rfl
set_option maxRecDepth 100000 in
theorem e_D_winner  (s : Mem) : F_D_winner s = xs C_D_winner (fun k ls s => cbr (Nat.beq k 0) (A_D_winner_2 (F_D_winner_2 gF) ls s) (none)) 0 (fun _ => 0) K_D_winner 700 K_D_winner [some (.ref 26), none] [] s := rfl
def K_D_topSet : MC := [(0, .iconst 0, 15), (2, .istore 1, 0), (3, .iload 1, 0), (4, .istore 2, 0), (5, .lconst 1, 0), (6, .istore 3, 0), (7, .ret 0, 0), (7, .iload 3, 0), (8, .iload 1, 0), (9, .if_icmp .ge 23, 0), (12, .iload 3, 0), (13, .invokeinterface 111 1, 0), (16, .iload 2, 0), (17, .invokeinterface 111 1, 0), (20, .if_icmp .ge 21, 0), (23, .aload 0, 0), (24, .iload 3, 0), (25, .invokeinterface 132 2, 0), (28, .ifCond .eq 21, 0), (31, .iload 3, 0), (32, .istore 2, 0), (33, .iinc 3 0, 1), (36, .goto 6, 0), (39, .iload 2, 0), (40, .ireturn, 0)]
noncomputable def F_D_topSet_6 : Nat → Int32 → Int32 → Int32 → Mem → Option (Int32 × Mem)
  | 0, _, _, _, _ => none
  | n + 1, x1, x2, x3, s =>
    if x1 ≤ x3 then
      some (x2, s)
    else
    (F_JI_bitCount x3 s).bind fun z1 =>
    (F_JI_bitCount x2 z1.2).bind fun z2 =>
    if z2.1 ≤ z1.1 then
      F_D_topSet_6 n x1 x2 (x3 + 1) z2.2
    else
    (F_D_isAhead x3 z2.2).bind fun z3 =>
    if z3.1 = 0 then
      F_D_topSet_6 n x1 x2 (x3 + 1) z3.2
    else
    F_D_topSet_6 n x1 x3 (x3 + 1) z3.2
noncomputable def F_D_topSet  (s : Mem) : Option (Int32 × Mem) :=
  F_D_topSet_6 gF 15 15 1 s
def A_D_topSet_6 (f : Int32 → Int32 → Int32 → Mem → Option (Int32 × Mem)) (ls : List (Option Value)) (s : Mem) : Option (Int32 × Mem) := match lk ls 0, lk ls 1, lk ls 2, lk ls 3 with
  | some (.ref a0), some (.int a1), some (.int a2), some (.int a3) => cbr (Nat.beq a0 26) (f a1 a2 a3 s) none
  | _, _, _, _ => none
noncomputable def A_D_topSet (av : List Value) (s : Mem) : Option (Int32 × Mem) := match av with
  | [.ref a0] => cbr (Nat.beq a0 26) (F_D_topSet s) none
  | _ => none
noncomputable def C_D_topSet (k : Nat) (av : List Value) (s : Mem) : Option (Int32 × Mem) := cbr (Nat.beq k 111) (A_JI_bitCount av s) (cbr (Nat.beq k 132) (A_D_isAhead av s) (none))
set_option maxRecDepth 100000 in
theorem e_D_topSet_6  (n : Nat) (x1 : Int32) (x2 : Int32) (x3 : Int32) (s : Mem) : F_D_topSet_6 (n + 1) x1 x2 x3 s = xs C_D_topSet (fun k ls s => cbr (Nat.beq k 0) (A_D_topSet_6 (F_D_topSet_6 n) ls s) (none)) 0 (fun _ => 0) K_D_topSet 700 (K_D_topSet.drop 7) [some (.ref 26), some (.int x1), some (.int x2), some (.int x3)] [] s := rfl
set_option maxRecDepth 100000 in
theorem e_D_topSet  (s : Mem) : F_D_topSet s = xs C_D_topSet (fun k ls s => cbr (Nat.beq k 0) (A_D_topSet_6 (F_D_topSet_6 gF) ls s) (none)) 0 (fun _ => 0) K_D_topSet 700 K_D_topSet [some (.ref 26), none, none, none] [] s := rfl
def K_D_agreedCouples : MC := [(0, .aload 0, 0), (1, .getfield 801, 0), (4, .ifCond .ne 5, 0), (7, .lconst 0, 0), (8, .ireturn, 0), (9, .lconst 0, 0), (10, .istore 1, 0), (11, .lconst 0, 0), (12, .istore 2, 0), (13, .ret 0, 0), (13, .iload 2, 0), (14, .iconst 0, 4), (15, .if_icmp .ge 39, 0), (18, .lconst 0, 0), (19, .istore 3, 0), (20, .ret 1, 0), (20, .iload 3, 0), (21, .iconst 0, 4), (22, .if_icmp .ge 37, 0), (25, .iload 1, 0), (26, .iload 2, 0), (27, .iload 3, 0), (28, .if_icmp .eq 32, 0), (31, .aload 0, 0), (32, .iload 2, 0), (33, .iload 3, 0), (34, .invokeinterface 131 3, 0), (37, .aload 0, 0), (38, .getfield 801, 0), (41, .if_icmp .ne 32, 0), (44, .lconst 1, 0), (45, .goto 33, 0), (48, .lconst 0, 0), (49, .iadd, 0), (50, .istore 1, 0), (51, .iinc 3 0, 1), (54, .goto 15, 0), (57, .iinc 2 0, 1), (60, .goto 9, 0), (63, .iload 1, 0), (64, .ireturn, 0)]
noncomputable def F_D_agreedCouples_14 (k9 : Int32 → Int32 → Mem → Option (Int32 × Mem)) : Nat → Int32 → Int32 → Int32 → Mem → Option (Int32 × Mem)
  | 0, _, _, _, _ => none
  | n + 1, x1, x2, x3, s =>
    if 4 ≤ x3 then
      k9 x1 (x2 + 1) s
    else
    if x2 = x3 then
      F_D_agreedCouples_14 k9 n (x1 + 0) x2 (x3 + 1) s
    else
    (F_D_before x2 x3 s).bind fun z1 =>
    if z1.1 = (z1.2 26 1) then
      F_D_agreedCouples_14 k9 n (x1 + 1) x2 (x3 + 1) z1.2
    else
    F_D_agreedCouples_14 k9 n (x1 + 0) x2 (x3 + 1) z1.2
noncomputable def F_D_agreedCouples_9 : Nat → Int32 → Int32 → Mem → Option (Int32 × Mem)
  | 0, _, _, _ => none
  | n + 1, x1, x2, s =>
    if 4 ≤ x2 then
      some (x1, s)
    else
    F_D_agreedCouples_14 (F_D_agreedCouples_9 n) gF x1 x2 0 s
noncomputable def F_D_agreedCouples  (s : Mem) : Option (Int32 × Mem) :=
  if (s 26 1) = 0 then
    some (0, s)
  else
  F_D_agreedCouples_9 gF 0 0 s
def A_D_agreedCouples_9 (f : Int32 → Int32 → Mem → Option (Int32 × Mem)) (ls : List (Option Value)) (s : Mem) : Option (Int32 × Mem) := match lk ls 0, lk ls 1, lk ls 2 with
  | some (.ref a0), some (.int a1), some (.int a2) => cbr (Nat.beq a0 26) (f a1 a2 s) none
  | _, _, _ => none
def A_D_agreedCouples_14 (f : Int32 → Int32 → Int32 → Mem → Option (Int32 × Mem)) (ls : List (Option Value)) (s : Mem) : Option (Int32 × Mem) := match lk ls 0, lk ls 1, lk ls 2, lk ls 3 with
  | some (.ref a0), some (.int a1), some (.int a2), some (.int a3) => cbr (Nat.beq a0 26) (f a1 a2 a3 s) none
  | _, _, _, _ => none
noncomputable def A_D_agreedCouples (av : List Value) (s : Mem) : Option (Int32 × Mem) := match av with
  | [.ref a0] => cbr (Nat.beq a0 26) (F_D_agreedCouples s) none
  | _ => none
noncomputable def C_D_agreedCouples (k : Nat) (av : List Value) (s : Mem) : Option (Int32 × Mem) := cbr (Nat.beq k 131) (A_D_before av s) (none)
set_option maxRecDepth 100000 in
theorem e_D_agreedCouples_14 (k9 : Int32 → Int32 → Mem → Option (Int32 × Mem)) (n : Nat) (x1 : Int32) (x2 : Int32) (x3 : Int32) (s : Mem) : F_D_agreedCouples_14 k9 (n + 1) x1 x2 x3 s = xs C_D_agreedCouples (fun k ls s => cbr (Nat.beq k 0) (A_D_agreedCouples_9 (k9) ls s) (cbr (Nat.beq k 1) (A_D_agreedCouples_14 (F_D_agreedCouples_14 k9 n) ls s) (none))) 0 (fun _ => 0) K_D_agreedCouples 700 (K_D_agreedCouples.drop 16) [some (.ref 26), some (.int x1), some (.int x2), some (.int x3)] [] s := rfl
set_option maxRecDepth 100000 in
theorem e_D_agreedCouples_9  (n : Nat) (x1 : Int32) (x2 : Int32) (s : Mem) : F_D_agreedCouples_9 (n + 1) x1 x2 s = xs C_D_agreedCouples (fun k ls s => cbr (Nat.beq k 1) (A_D_agreedCouples_14 (F_D_agreedCouples_14 (F_D_agreedCouples_9 n) gF) ls s) (none)) 0 (fun _ => 0) K_D_agreedCouples 700 (K_D_agreedCouples.drop 10) [some (.ref 26), some (.int x1), some (.int x2), none] [] s := rfl
set_option maxRecDepth 100000 in
theorem e_D_agreedCouples  (s : Mem) : F_D_agreedCouples s = xs C_D_agreedCouples (fun k ls s => cbr (Nat.beq k 0) (A_D_agreedCouples_9 (F_D_agreedCouples_9 gF) ls s) (none)) 0 (fun _ => 0) K_D_agreedCouples 700 K_D_agreedCouples [some (.ref 26), none, none, none] [] s := rfl
def K_C_signs : MC := [(0, .iload 1, 0), (1, .lookupswitch 20 #[(0, 2), (1, 8), (2, 14)], 0), (28, .aload 0, 0), (29, .getstatic 1000, 0), (32, .getstatic 606, 0), (35, .getstatic 902, 0), (38, .invokeinterface 133 1, 0), (41, .ireturn, 0), (42, .aload 0, 0), (43, .getstatic 1000, 0), (46, .getstatic 606, 0), (49, .getstatic 902, 0), (52, .invokeinterface 134 1, 0), (55, .ireturn, 0), (56, .aload 0, 0), (57, .getstatic 1000, 0), (60, .getstatic 606, 0), (63, .getstatic 902, 0), (66, .invokeinterface 135 1, 0), (69, .ireturn, 0), (70, .iconst 0, (-1)), (71, .ireturn, 0)]
noncomputable def F_C_signs (x1 : Int32) (s : Mem) : Option (Int32 × Mem) :=
  if x1 = 0 then
    (F_D_winner s).bind fun z1 =>
    some (z1.1, z1.2)
  else
  if x1 = 1 then
    (F_D_topSet s).bind fun z2 =>
    some (z2.1, z2.2)
  else
  if x1 = 2 then
    (F_D_agreedCouples s).bind fun z3 =>
    some (z3.1, z3.2)
  else
  some ((-1), s)
noncomputable def A_C_signs (av : List Value) (s : Mem) : Option (Int32 × Mem) := match av with
  | [.ref a0, .int a1] => cbr (Nat.beq a0 0) (F_C_signs a1 s) none
  | _ => none
noncomputable def C_C_signs (k : Nat) (av : List Value) (s : Mem) : Option (Int32 × Mem) := cbr (Nat.beq k 133) (A_D_winner av s) (cbr (Nat.beq k 134) (A_D_topSet av s) (cbr (Nat.beq k 135) (A_D_agreedCouples av s) (none)))
set_option maxRecDepth 100000 in
theorem e_C_signs (x1 : Int32) (s : Mem) : F_C_signs x1 s = xs C_C_signs (fun k ls s => none) 0 (fun _ => 0) K_C_signs 700 K_C_signs [some (.ref 0), some (.int x1)] [] s := rfl
