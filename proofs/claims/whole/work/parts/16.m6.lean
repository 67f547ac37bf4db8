def K_R_suspect : MC := [(0, .aload 0, 0), (1, .lconst 0, 0), (2, .putfield 1100, 0), (5, .iload 1, 0), (6, .iconst 0, (-1)), (7, .if_icmp .ne 11, 0), (10, .aload 0, 0), (11, .lconst 0, 0), (12, .putfield 1143, 0), (15, .lconst 0, 0), (16, .ireturn, 0), (17, .aload 0, 0), (18, .iload 1, 0), (19, .lconst 1, 0), (20, .iconst 0, 200), (23, .invokeinterface 187 196, 0), (26, .ifCond .eq 27, 0), (29, .aload 0, 0), (30, .iload 2, 0), (31, .lconst 1, 0), (32, .iconst 0, 5), (33, .invokeinterface 187 196, 0), (36, .ifCond .eq 27, 0), (39, .aload 0, 0), (40, .getfield 1143, 0), (43, .iconst 0, 8), (45, .if_icmp .ne 29, 0), (48, .iconst 0, (-1)), (49, .ireturn, 0), (50, .aload 0, 0), (51, .getstatic 1144, 0), (54, .aload 0, 0), (55, .getfield 1143, 0), (58, .iload 1, 0), (59, .iastore, 0), (60, .aload 0, 0), (61, .getstatic 1145, 0), (64, .aload 0, 0), (65, .getfield 1143, 0), (68, .iload 2, 0), (69, .iastore, 0), (70, .aload 0, 0), (71, .aload 0, 0), (72, .getfield 1143, 0), (75, .lconst 1, 0), (76, .iadd, 0), (77, .putfield 1143, 0), (80, .aload 0, 0), (81, .getfield 1143, 0), (84, .ireturn, 0)]
noncomputable def F_R_suspect (x1 : Int32) (x2 : Int32) (s : Mem) : Option (Int32 × Mem) :=
  let s1 : Mem := mw s 123 0 0
  if x1 = (-1) then
    let s2 : Mem := mw s1 123 43 0
    some (0, s2)
  else
  (F_R_isIn x1 1 200 s1).bind fun z3 =>
  if z3.1 = 0 then
    some ((-1), z3.2)
  else
  (F_R_isIn x2 1 5 z3.2).bind fun z4 =>
  if z4.1 = 0 then
    some ((-1), z4.2)
  else
  if (z4.2 123 43) = 8 then
    some ((-1), z4.2)
  else
  (sd z4.2 146 (z4.2 123 43) x1).bind fun s5 =>
  (sd s5 147 (s5 123 43) x2).bind fun s6 =>
  let s7 : Mem := mw s6 123 43 ((s6 123 43) + 1)
  some ((s7 123 43), s7)
noncomputable def A_R_suspect (av : List Value) (s : Mem) : Option (Int32 × Mem) := match av with
  | [.ref a0, .int a1, .int a2] => cbr (Nat.beq a0 123) (F_R_suspect a1 a2 s) none
  | _ => none
noncomputable def C_R_suspect (k : Nat) (av : List Value) (s : Mem) : Option (Int32 × Mem) := cbr (Nat.beq k 187) (A_R_isIn av s) (none)
set_option maxRecDepth 100000 in
theorem e_R_suspect (x1 : Int32) (x2 : Int32) (s : Mem) : F_R_suspect x1 x2 s = xs C_R_suspect (fun k ls s => none) 0 (fun _ => 0) K_R_suspect 700 K_R_suspect [some (.ref 123), some (.int x1), some (.int x2)] [] s := rfl
def K_R_wouldCreak : MC := [(0, .iload 3, 0), (1, .lconst 1, 0), (2, .iadd, 0), (3, .aload 0, 0), (4, .getstatic 1145, 0), (7, .iload 1, 0), (8, .iaload, 0), (9, .irem, 0), (10, .ifCond .ne 35, 0), (13, .aload 0, 0), (14, .iconst 0, 16), (16, .iload 2, 0), (17, .imul, 0), (18, .iload 3, 0), (19, .iadd, 0), (20, .invokeinterface 202 194, 0), (23, .ifCond .ne 35, 0), (26, .aload 0, 0), (27, .iconst 0, 16), (29, .iload 2, 0), (30, .imul, 0), (31, .iload 3, 0), (32, .iadd, 0), (33, .aload 0, 0), (34, .getstatic 1144, 0), (37, .iload 1, 0), (38, .iaload, 0), (39, .aload 0, 0), (40, .getstatic 1145, 0), (43, .iload 1, 0), (44, .iaload, 0), (45, .invokeinterface 270 196, 0), (48, .ifCond .eq 35, 0), (51, .lconst 1, 0), (52, .goto 36, 0), (55, .lconst 0, 0), (56, .lreturn, 0)]
noncomputable def F_R_wouldCreak (x1 : Int32) (x2 : Int32) (x3 : Int32) (s : Mem) : Option (Int32 × Mem) :=
  (ld s 147 x1).bind fun v1 =>
  if v1 = 0 then none else
  if (irm (x3 + 1) v1) = 0 then
    (F_R_isGone ((16 * x2) + x3) s).bind fun z2 =>
    if z2.1 = 0 then
      (ld z2.2 146 x1).bind fun v3 =>
      (ld z2.2 147 x1).bind fun v4 =>
      (F_R_doesCreak ((16 * x2) + x3) v3 v4 z2.2).bind fun z5 =>
      if z5.1 = 0 then
        some (0, z5.2)
      else
      some (1, z5.2)
    else
    some (0, z2.2)
  else
  some (0, s)
noncomputable def A_R_wouldCreak (av : List Value) (s : Mem) : Option (Int32 × Mem) := match av with
  | [.ref a0, .int a1, .int a2, .int a3] => cbr (Nat.beq a0 123) (F_R_wouldCreak a1 a2 a3 s) none
  | _ => none
noncomputable def C_R_wouldCreak (k : Nat) (av : List Value) (s : Mem) : Option (Int32 × Mem) := cbr (Nat.beq k 202) (A_R_isGone av s) (cbr (Nat.beq k 270) (A_R_doesCreak av s) (none))
set_option maxRecDepth 100000 in
theorem e_R_wouldCreak (x1 : Int32) (x2 : Int32) (x3 : Int32) (s : Mem) : F_R_wouldCreak x1 x2 x3 s = xs C_R_wouldCreak (fun k ls s => none) 0 (fun _ => 0) K_R_wouldCreak 700 K_R_wouldCreak [some (.ref 123), some (.int x1), some (.int x2), some (.int x3)] [] s := rfl
def K_R_fittingSet : MC := [(0, .lconst 0, 0), (1, .istore 3, 0), (2, .lconst 0, 0), (3, .istore 4, 0), (5, .ret 0, 0), (5, .iload 4, 0), (7, .aload 0, 0), (8, .getfield 1143, 0), (11, .if_icmp .ge 45, 0), (14, .lconst 0, 0), (15, .istore 5, 0), (17, .lconst 0, 0), (18, .istore 6, 0), (20, .ret 1, 0), (20, .iload 6, 0), (22, .aload 0, 0), (23, .getstatic 1107, 0), (26, .iload 1, 0), (27, .iaload, 0), (28, .if_icmp .ge 34, 0), (31, .aload 0, 0), (32, .iload 4, 0), (34, .iload 1, 0), (35, .iload 6, 0), (37, .invokeinterface 273 196, 0), (40, .ifCond .eq 32, 0), (43, .iload 5, 0), (45, .lconst 1, 0), (46, .iload 6, 0), (48, .ishl, 0), (49, .ior, 0), (50, .istore 5, 0), (52, .iinc 6 0, 1), (55, .goto 13, 0), (58, .iload 5, 0), (60, .iload 2, 0), (61, .if_icmp .ne 43, 0), (64, .iload 3, 0), (65, .lconst 1, 0), (66, .iload 4, 0), (68, .ishl, 0), (69, .ior, 0), (70, .istore 3, 0), (71, .iinc 4 0, 1), (74, .goto 4, 0), (77, .iload 3, 0), (78, .ireturn, 0)]
noncomputable def F_R_fittingSet_12 (k4 : Int32 → Int32 → Int32 → Int32 → Mem → Option (Int32 × Mem)) : Nat → Int32 → Int32 → Int32 → Int32 → Int32 → Int32 → Mem → Option (Int32 × Mem)
  | 0, _, _, _, _, _, _, _ => none
  | n + 1, x1, x2, x3, x4, x5, x6, s =>
    (ld s 127 x1).bind fun v1 =>
    if v1 ≤ x6 then
      if x5 = x2 then
        k4 x1 x2 (x3 ||| (shl 1 x4)) (x4 + 1) s
      else
      k4 x1 x2 x3 (x4 + 1) s
    else
    (F_R_wouldCreak x4 x1 x6 s).bind fun z2 =>
    if z2.1 = 0 then
      F_R_fittingSet_12 k4 n x1 x2 x3 x4 x5 (x6 + 1) z2.2
    else
    F_R_fittingSet_12 k4 n x1 x2 x3 x4 (x5 ||| (shl 1 x6)) (x6 + 1) z2.2
noncomputable def F_R_fittingSet_4 : Nat → Int32 → Int32 → Int32 → Int32 → Mem → Option (Int32 × Mem)
  | 0, _, _, _, _, _ => none
  | n + 1, x1, x2, x3, x4, s =>
    if (s 123 43) ≤ x4 then
      some (x3, s)
    else
    F_R_fittingSet_12 (F_R_fittingSet_4 n) gF x1 x2 x3 x4 0 0 s
noncomputable def F_R_fittingSet (x1 : Int32) (x2 : Int32) (s : Mem) : Option (Int32 × Mem) :=
  F_R_fittingSet_4 gF x1 x2 0 0 s
def A_R_fittingSet_4 (f : Int32 → Int32 → Int32 → Int32 → Mem → Option (Int32 × Mem)) (ls : List (Option Value)) (s : Mem) : Option (Int32 × Mem) := match lk ls 0, lk ls 1, lk ls 2, lk ls 3, lk ls 4 with
  | some (.ref a0), some (.int a1), some (.int a2), some (.int a3), some (.int a4) => cbr (Nat.beq a0 123) (f a1 a2 a3 a4 s) none
  | _, _, _, _, _ => none
def A_R_fittingSet_12 (f : Int32 → Int32 → Int32 → Int32 → Int32 → Int32 → Mem → Option (Int32 × Mem)) (ls : List (Option Value)) (s : Mem) : Option (Int32 × Mem) := match lk ls 0, lk ls 1, lk ls 2, lk ls 3, lk ls 4, lk ls 5, lk ls 6 with
  | some (.ref a0), some (.int a1), some (.int a2), some (.int a3), some (.int a4), some (.int a5), some (.int a6) => cbr (Nat.beq a0 123) (f a1 a2 a3 a4 a5 a6 s) none
  | _, _, _, _, _, _, _ => none
noncomputable def A_R_fittingSet (av : List Value) (s : Mem) : Option (Int32 × Mem) := match av with
  | [.ref a0, .int a1, .int a2] => cbr (Nat.beq a0 123) (F_R_fittingSet a1 a2 s) none
  | _ => none
noncomputable def C_R_fittingSet (k : Nat) (av : List Value) (s : Mem) : Option (Int32 × Mem) := cbr (Nat.beq k 273) (A_R_wouldCreak av s) (none)
set_option maxRecDepth 100000 in
theorem e_R_fittingSet_12 (k4 : Int32 → Int32 → Int32 → Int32 → Mem → Option (Int32 × Mem)) (n : Nat) (x1 : Int32) (x2 : Int32) (x3 : Int32) (x4 : Int32) (x5 : Int32) (x6 : Int32) (s : Mem) : F_R_fittingSet_12 k4 (n + 1) x1 x2 x3 x4 x5 x6 s = xs C_R_fittingSet (fun k ls s => cbr (Nat.beq k 0) (A_R_fittingSet_4 (k4) ls s) (cbr (Nat.beq k 1) (A_R_fittingSet_12 (F_R_fittingSet_12 k4 n) ls s) (none))) 0 (fun _ => 0) K_R_fittingSet 700 (K_R_fittingSet.drop 14) [some (.ref 123), some (.int x1), some (.int x2), some (.int x3), some (.int x4), some (.int x5), some (.int x6)] [] s := rfl
set_option maxRecDepth 100000 in
theorem e_R_fittingSet_4  (n : Nat) (x1 : Int32) (x2 : Int32) (x3 : Int32) (x4 : Int32) (s : Mem) : F_R_fittingSet_4 (n + 1) x1 x2 x3 x4 s = xs C_R_fittingSet (fun k ls s => cbr (Nat.beq k 1) (A_R_fittingSet_12 (F_R_fittingSet_12 (F_R_fittingSet_4 n) gF) ls s) (none)) 0 (fun _ => 0) K_R_fittingSet 700 (K_R_fittingSet.drop 5) [some (.ref 123), some (.int x1), some (.int x2), some (.int x3), some (.int x4), none, none] [] s := rfl
set_option maxRecDepth 100000 in
theorem e_R_fittingSet (x1 : Int32) (x2 : Int32) (s : Mem) : F_R_fittingSet x1 x2 s = xs C_R_fittingSet (fun k ls s => cbr (Nat.beq k 0) (A_R_fittingSet_4 (F_R_fittingSet_4 gF) ls s) (none)) 0 (fun _ => 0) K_R_fittingSet 700 K_R_fittingSet [some (.ref 123), some (.int x1), some (.int x2), none, none, none, none] [] s := rfl
def K_R_firstLoose : MC := [(0, .lconst 0, 0), (1, .istore 3, 0), (2, .ret 0, 0), (2, .iload 3, 0), (3, .aload 0, 0), (4, .getstatic 1107, 0), (7, .iload 1, 0), (8, .iaload, 0), (9, .if_icmp .ge 52, 0), (12, .lconst 0, 0), (13, .istore 4, 0), (15, .aload 0, 0), (16, .lconst 1, 0), (17, .putfield 1141, 0), (20, .lconst 0, 0), (21, .istore 5, 0), (23, .ret 1, 0), (23, .iload 5, 0), (25, .aload 0, 0), (26, .getfield 1143, 0), (29, .if_icmp .ge 38, 0), (32, .aload 0, 0), (33, .iload 2, 0), (34, .iload 5, 0), (36, .invokeinterface 193 195, 0), (39, .ifCond .eq 36, 0), (42, .aload 0, 0), (43, .iload 5, 0), (45, .iload 1, 0), (46, .iload 3, 0), (47, .invokeinterface 273 196, 0), (50, .ifCond .eq 36, 0), (53, .iload 4, 0), (55, .lconst 1, 0), (56, .iadd, 0), (57, .istore 4, 0), (59, .iinc 5 0, 1), (62, .goto 16, 0), (65, .aload 0, 0), (66, .lconst 0, 0), (67, .putfield 1141, 0), (70, .iload 4, 0), (72, .ifCond .le 50, 0), (75, .iload 4, 0), (77, .aload 0, 0), (78, .iload 2, 0), (79, .invokeinterface 192 194, 0), (82, .if_icmp .ge 50, 0), (85, .iload 3, 0), (86, .ireturn, 0), (87, .iinc 3 0, 1), (90, .goto 2, 0), (93, .iconst 0, (-1)), (94, .ireturn, 0)]
noncomputable def F_R_firstLoose_15 (k2 : Int32 → Int32 → Int32 → Mem → Option (Int32 × Mem)) : Nat → Int32 → Int32 → Int32 → Int32 → Int32 → Mem → Option (Int32 × Mem)
  | 0, _, _, _, _, _, _ => none
  | n + 1, x1, x2, x3, x4, x5, s =>
    if (s 123 43) ≤ x5 then
      let s1 : Mem := mw s 123 41 0
      if x4 ≤ 0 then
        k2 x1 x2 (x3 + 1) s1
      else
      (F_R_onesOf x2 s1).bind fun z2 =>
      if z2.1 ≤ x4 then
        k2 x1 x2 (x3 + 1) z2.2
      else
      some (x3, z2.2)
    else
    (F_R_has x2 x5 s).bind fun z3 =>
    if z3.1 = 0 then
      F_R_firstLoose_15 k2 n x1 x2 x3 x4 (x5 + 1) z3.2
    else
    (F_R_wouldCreak x5 x1 x3 z3.2).bind fun z4 =>
    if z4.1 = 0 then
      F_R_firstLoose_15 k2 n x1 x2 x3 x4 (x5 + 1) z4.2
    else
    F_R_firstLoose_15 k2 n x1 x2 x3 (x4 + 1) (x5 + 1) z4.2
noncomputable def F_R_firstLoose_2 : Nat → Int32 → Int32 → Int32 → Mem → Option (Int32 × Mem)
  | 0, _, _, _, _ => none
  | n + 1, x1, x2, x3, s =>
    (ld s 127 x1).bind fun v1 =>
    if v1 ≤ x3 then
      some ((-1), s)
    else
    let s2 : Mem := mw s 123 41 1
    F_R_firstLoose_15 (F_R_firstLoose_2 n) gF x1 x2 x3 0 0 s2
noncomputable def F_R_firstLoose (x1 : Int32) (x2 : Int32) (s : Mem) : Option (Int32 × Mem) :=
  F_R_firstLoose_2 gF x1 x2 0 s
def A_R_firstLoose_2 (f : Int32 → Int32 → Int32 → Mem → Option (Int32 × Mem)) (ls : List (Option Value)) (s : Mem) : Option (Int32 × Mem) := match lk ls 0, lk ls 1, lk ls 2, lk ls 3 with
  | some (.ref a0), some (.int a1), some (.int a2), some (.int a3) => cbr (Nat.beq a0 123) (f a1 a2 a3 s) none
  | _, _, _, _ => none
def A_R_firstLoose_15 (f : Int32 → Int32 → Int32 → Int32 → Int32 → Mem → Option (Int32 × Mem)) (ls : List (Option Value)) (s : Mem) : Option (Int32 × Mem) := match lk ls 0, lk ls 1, lk ls 2, lk ls 3, lk ls 4, lk ls 5 with
  | some (.ref a0), some (.int a1), some (.int a2), some (.int a3), some (.int a4), some (.int a5) => cbr (Nat.beq a0 123) (f a1 a2 a3 a4 a5 s) none
  | _, _, _, _, _, _ => none
noncomputable def A_R_firstLoose (av : List Value) (s : Mem) : Option (Int32 × Mem) := match av with
  | [.ref a0, .int a1, .int a2] => cbr (Nat.beq a0 123) (F_R_firstLoose a1 a2 s) none
  | _ => none
noncomputable def C_R_firstLoose (k : Nat) (av : List Value) (s : Mem) : Option (Int32 × Mem) := cbr (Nat.beq k 192) (A_R_onesOf av s) (cbr (Nat.beq k 193) (A_R_has av s) (cbr (Nat.beq k 273) (A_R_wouldCreak av s) (none)))
set_option maxRecDepth 100000 in
theorem e_R_firstLoose_15 (k2 : Int32 → Int32 → Int32 → Mem → Option (Int32 × Mem)) (n : Nat) (x1 : Int32) (x2 : Int32) (x3 : Int32) (x4 : Int32) (x5 : Int32) (s : Mem) : F_R_firstLoose_15 k2 (n + 1) x1 x2 x3 x4 x5 s = xs C_R_firstLoose (fun k ls s => cbr (Nat.beq k 0) (A_R_firstLoose_2 (k2) ls s) (cbr (Nat.beq k 1) (A_R_firstLoose_15 (F_R_firstLoose_15 k2 n) ls s) (none))) 0 (fun _ => 0) K_R_firstLoose 700 (K_R_firstLoose.drop 17) [some (.ref 123), some (.int x1), some (.int x2), some (.int x3), some (.int x4), some (.int x5)] [] s := rfl
set_option maxRecDepth 100000 in
theorem e_R_firstLoose_2  (n : Nat) (x1 : Int32) (x2 : Int32) (x3 : Int32) (s : Mem) : F_R_firstLoose_2 (n + 1) x1 x2 x3 s = xs C_R_firstLoose (fun k ls s => cbr (Nat.beq k 1) (A_R_firstLoose_15 (F_R_firstLoose_15 (F_R_firstLoose_2 n) gF) ls s) (none)) 0 (fun _ => 0) K_R_firstLoose 700 (K_R_firstLoose.drop 3) [some (.ref 123), some (.int x1), some (.int x2), some (.int x3), none, none] [] s := rfl
set_option maxRecDepth 100000 in
theorem e_R_firstLoose (x1 : Int32) (x2 : Int32) (s : Mem) : F_R_firstLoose x1 x2 s = xs C_R_firstLoose (fun k ls s => cbr (Nat.beq k 0) (A_R_firstLoose_2 (F_R_firstLoose_2 gF) ls s) (none)) 0 (fun _ => 0) K_R_firstLoose 700 K_R_firstLoose [some (.ref 123), some (.int x1), some (.int x2), none, none, none] [] s := rfl
def K_R_who : MC := [(0, .aload 0, 0), (1, .lconst 0, 0), (2, .putfield 1100, 0), (5, .aload 0, 0), (6, .iload 1, 0), (7, .invokeinterface 200 194, 0), (10, .ifCond .eq 26, 0), (13, .aload 0, 0), (14, .iload 2, 0), (15, .lconst 0, 0), (16, .lconst 1, 0), (17, .aload 0, 0), (18, .getstatic 1107, 0), (21, .iload 1, 0), (22, .iaload, 0), (23, .ishl, 0), (24, .lconst 1, 0), (25, .isub, 0), (26, .invokeinterface 187 196, 0), (29, .ifCond .eq 26, 0), (32, .aload 0, 0), (33, .iload 3, 0), (34, .lconst 0, 0), (35, .lconst 1, 0), (36, .invokeinterface 187 196, 0), (39, .ifCond .ne 28, 0), (42, .iconst 0, (-1)), (43, .ireturn, 0), (44, .aload 0, 0), (45, .iload 1, 0), (46, .iload 2, 0), (47, .invokeinterface 274 195, 0), (50, .istore 4, 0), (52, .iload 3, 0), (53, .ifCond .ne 37, 0), (56, .iload 4, 0), (58, .goto 41, 0), (61, .aload 0, 0), (62, .iload 1, 0), (63, .iload 4, 0), (65, .invokeinterface 275 195, 0), (68, .ireturn, 0)]
noncomputable def F_R_who (x1 : Int32) (x2 : Int32) (x3 : Int32) (s : Mem) : Option (Int32 × Mem) :=
  let s1 : Mem := mw s 123 0 0
  (F_R_isFlight x1 s1).bind fun z2 =>
  if z2.1 = 0 then
    some ((-1), z2.2)
  else
  (ld z2.2 127 x1).bind fun v3 =>
  (F_R_isIn x2 0 ((shl 1 v3) - 1) z2.2).bind fun z4 =>
  if z4.1 = 0 then
    some ((-1), z4.2)
  else
  (F_R_isIn x3 0 1 z4.2).bind fun z5 =>
  if z5.1 = 0 then
    some ((-1), z5.2)
  else
  (F_R_fittingSet x1 x2 z5.2).bind fun z6 =>
  if x3 = 0 then
    some (z6.1, z6.2)
  else
  (F_R_firstLoose x1 z6.1 z6.2).bind fun z7 =>
  some (z7.1, z7.2)
noncomputable def A_R_who (av : List Value) (s : Mem) : Option (Int32 × Mem) := match av with
  | [.ref a0, .int a1, .int a2, .int a3] => cbr (Nat.beq a0 123) (F_R_who a1 a2 a3 s) none
  | _ => none
noncomputable def C_R_who (k : Nat) (av : List Value) (s : Mem) : Option (Int32 × Mem) := cbr (Nat.beq k 200) (A_R_isFlight av s) (cbr (Nat.beq k 187) (A_R_isIn av s) (cbr (Nat.beq k 274) (A_R_fittingSet av s) (cbr (Nat.beq k 275) (A_R_firstLoose av s) (none))))
set_option maxRecDepth 100000 in
theorem e_R_who (x1 : Int32) (x2 : Int32) (x3 : Int32) (s : Mem) : F_R_who x1 x2 x3 s = xs C_R_who (fun k ls s => none) 0 (fun _ => 0) K_R_who 700 K_R_who [some (.ref 123), some (.int x1), some (.int x2), some (.int x3), none] [] s := rfl
def K_R_presentSet : MC := [(0, .lconst 0, 0), (1, .istore 2, 0), (2, .lconst 0, 0), (3, .istore 3, 0), (4, .ret 0, 0), (4, .iload 3, 0), (5, .aload 0, 0), (6, .getstatic 1107, 0), (9, .iload 1, 0), (10, .iaload, 0), (11, .if_icmp .ge 27, 0), (14, .aload 0, 0), (15, .iconst 0, 16), (17, .iload 1, 0), (18, .imul, 0), (19, .iload 3, 0), (20, .iadd, 0), (21, .invokeinterface 202 194, 0), (24, .ifCond .ne 25, 0), (27, .iload 2, 0), (28, .lconst 1, 0), (29, .iload 3, 0), (30, .ishl, 0), (31, .ior, 0), (32, .istore 2, 0), (33, .iinc 3 0, 1), (36, .goto 4, 0), (39, .iload 2, 0), (40, .ireturn, 0)]
noncomputable def F_R_presentSet_4 : Nat → Int32 → Int32 → Int32 → Mem → Option (Int32 × Mem)
  | 0, _, _, _, _ => none
  | n + 1, x1, x2, x3, s =>
    (ld s 127 x1).bind fun v1 =>
    if v1 ≤ x3 then
      some (x2, s)
    else
    (F_R_isGone ((16 * x1) + x3) s).bind fun z2 =>
    if z2.1 = 0 then
      F_R_presentSet_4 n x1 (x2 ||| (shl 1 x3)) (x3 + 1) z2.2
    else
    F_R_presentSet_4 n x1 x2 (x3 + 1) z2.2
noncomputable def F_R_presentSet (x1 : Int32) (s : Mem) : Option (Int32 × Mem) :=
  F_R_presentSet_4 gF x1 0 0 s
def A_R_presentSet_4 (f : Int32 → Int32 → Int32 → Mem → Option (Int32 × Mem)) (ls : List (Option Value)) (s : Mem) : Option (Int32 × Mem) := match lk ls 0, lk ls 1, lk ls 2, lk ls 3 with
  | some (.ref a0), some (.int a1), some (.int a2), some (.int a3) => cbr (Nat.beq a0 123) (f a1 a2 a3 s) none
  | _, _, _, _ => none
noncomputable def A_R_presentSet (av : List Value) (s : Mem) : Option (Int32 × Mem) := match av with
  | [.ref a0, .int a1] => cbr (Nat.beq a0 123) (F_R_presentSet a1 s) none
  | _ => none
noncomputable def C_R_presentSet (k : Nat) (av : List Value) (s : Mem) : Option (Int32 × Mem) := cbr (Nat.beq k 202) (A_R_isGone av s) (none)
set_option maxRecDepth 100000 in
theorem e_R_presentSet_4  (n : Nat) (x1 : Int32) (x2 : Int32) (x3 : Int32) (s : Mem) : F_R_presentSet_4 (n + 1) x1 x2 x3 s = xs C_R_presentSet (fun k ls s => cbr (Nat.beq k 0) (A_R_presentSet_4 (F_R_presentSet_4 n) ls s) (none)) 0 (fun _ => 0) K_R_presentSet 700 (K_R_presentSet.drop 5) [some (.ref 123), some (.int x1), some (.int x2), some (.int x3)] [] s := rfl
set_option maxRecDepth 100000 in
theorem e_R_presentSet (x1 : Int32) (s : Mem) : F_R_presentSet x1 s = xs C_R_presentSet (fun k ls s => cbr (Nat.beq k 0) (A_R_presentSet_4 (F_R_presentSet_4 gF) ls s) (none)) 0 (fun _ => 0) K_R_presentSet 700 K_R_presentSet [some (.ref 123), some (.int x1), none, none] [] s := rfl
def K_R_isManned : MC := [(0, .lconst 0, 0), (1, .istore 4, 0), (3, .ret 0, 0), (3, .iload 4, 0), (5, .iload 3, 0), (6, .iadd, 0), (7, .iload 2, 0), (8, .if_icmp .gt 22, 0), (11, .iload 1, 0), (12, .iload 4, 0), (14, .ishr, 0), (15, .lconst 1, 0), (16, .iload 3, 0), (17, .ishl, 0), (18, .lconst 1, 0), (19, .isub, 0), (20, .iand, 0), (21, .ifCond .ne 20, 0), (24, .lconst 0, 0), (25, .lreturn, 0), (26, .iinc 4 0, 1), (29, .goto 2, 0), (32, .lconst 1, 0), (33, .lreturn, 0)]
noncomputable def F_R_isManned_2 : Nat → Int32 → Int32 → Int32 → Int32 → Mem → Option (Int32 × Mem)
  | 0, _, _, _, _, _ => none
  | n + 1, x1, x2, x3, x4, s =>
    if x2 < (x4 + x3) then
      some (1, s)
    else
    if ((shr x1 x4) &&& ((shl 1 x3) - 1)) = 0 then
      some (0, s)
    else
    F_R_isManned_2 n x1 x2 x3 (x4 + 1) s
noncomputable def F_R_isManned (x1 : Int32) (x2 : Int32) (x3 : Int32) (s : Mem) : Option (Int32 × Mem) :=
  F_R_isManned_2 gF x1 x2 x3 0 s
def A_R_isManned_2 (f : Int32 → Int32 → Int32 → Int32 → Mem → Option (Int32 × Mem)) (ls : List (Option Value)) (s : Mem) : Option (Int32 × Mem) := match lk ls 1, lk ls 2, lk ls 3, lk ls 4 with
  | some (.int a0), some (.int a1), some (.int a2), some (.int a3) => f a0 a1 a2 a3 s
  | _, _, _, _ => none
noncomputable def A_R_isManned (av : List Value) (s : Mem) : Option (Int32 × Mem) := match av with
  | [.ref a0, .int a1, .int a2, .int a3] => cbr (Nat.beq a0 123) (F_R_isManned a1 a2 a3 s) none
  | _ => none
noncomputable def C_R_isManned (k : Nat) (av : List Value) (s : Mem) : Option (Int32 × Mem) := none
set_option maxRecDepth 100000 in
theorem e_R_isManned_2  (n : Nat) (x1 : Int32) (x2 : Int32) (x3 : Int32) (x4 : Int32) (s : Mem) : F_R_isManned_2 (n + 1) x1 x2 x3 x4 s = xs C_R_isManned (fun k ls s => cbr (Nat.beq k 0) (A_R_isManned_2 (F_R_isManned_2 n) ls s) (none)) 0 (fun _ => 0) K_R_isManned 700 (K_R_isManned.drop 3) [none, some (.int x1), some (.int x2), some (.int x3), some (.int x4)] [] s := rfl
set_option maxRecDepth 100000 in
theorem e_R_isManned (x1 : Int32) (x2 : Int32) (x3 : Int32) (s : Mem) : F_R_isManned x1 x2 x3 s = xs C_R_isManned (fun k ls s => cbr (Nat.beq k 0) (A_R_isManned_2 (F_R_isManned_2 gF) ls s) (none)) 0 (fun _ => 0) K_R_isManned 700 K_R_isManned [some (.ref 123), some (.int x1), some (.int x2), some (.int x3), none] [] s := rfl
def K_R_roster : MC := [(0, .aload 0, 0), (1, .lconst 0, 0), (2, .putfield 1100, 0), (5, .aload 0, 0), (6, .iload 1, 0), (7, .invokeinterface 200 194, 0), (10, .ifCond .eq 19, 0), (13, .aload 0, 0), (14, .iload 2, 0), (15, .lconst 1, 0), (16, .iconst 0, 5), (17, .invokeinterface 187 196, 0), (20, .ifCond .eq 19, 0), (23, .aload 0, 0), (24, .iload 3, 0), (25, .lconst 0, 0), (26, .lconst 1, 0), (27, .invokeinterface 187 196, 0), (30, .ifCond .ne 21, 0), (33, .iconst 0, (-1)), (34, .ireturn, 0), (35, .aload 0, 0), (36, .getstatic 1107, 0), (39, .iload 1, 0), (40, .iaload, 0), (41, .istore 4, 0), (43, .aload 0, 0), (44, .iload 1, 0), (45, .invokeinterface 277 194, 0), (48, .istore 5, 0), (50, .iconst 0, (-1)), (51, .istore 6, 0), (53, .lconst 0, 0), (54, .istore 7, 0), (56, .ret 0, 0), (56, .iload 7, 0), (58, .lconst 1, 0), (59, .iload 4, 0), (61, .ishl, 0), (62, .if_icmp .ge 70, 0), (65, .iload 7, 0), (67, .iload 5, 0), (69, .iconst 0, (-1)), (70, .ixor, 0), (71, .iand, 0), (72, .ifCond .ne 68, 0), (75, .iload 6, 0), (77, .iconst 0, (-1)), (78, .if_icmp .eq 56, 0), (81, .aload 0, 0), (82, .iload 7, 0), (84, .invokeinterface 192 194, 0), (87, .aload 0, 0), (88, .iload 6, 0), (90, .invokeinterface 192 194, 0), (93, .if_icmp .le 68, 0), (96, .aload 0, 0), (97, .iload 5, 0), (99, .iload 7, 0), (101, .iconst 0, (-1)), (102, .ixor, 0), (103, .iand, 0), (104, .iload 4, 0), (106, .iload 2, 0), (107, .invokeinterface 278 196, 0), (110, .ifCond .eq 68, 0), (113, .iload 7, 0), (115, .istore 6, 0), (117, .iinc 7 0, 1), (120, .goto 34, 0), (123, .iload 3, 0), (124, .lconst 1, 0), (125, .if_icmp .eq 76, 0), (128, .iload 6, 0), (130, .iconst 0, (-1)), (131, .if_icmp .ne 78, 0), (134, .iload 6, 0), (136, .goto 81, 0), (139, .aload 0, 0), (140, .iload 6, 0), (142, .invokeinterface 192 194, 0), (145, .ireturn, 0)]
noncomputable def F_R_roster_34 : Nat → Int32 → Int32 → Int32 → Int32 → Int32 → Int32 → Mem → Option (Int32 × Mem)
  | 0, _, _, _, _, _, _, _ => none
  | n + 1, x2, x3, x4, x5, x6, x7, s =>
    if (shl 1 x4) ≤ x7 then
      if x3 = 1 then
        some (x6, s)
      else
      if x6 = (-1) then
        some (x6, s)
      else
      (F_R_onesOf x6 s).bind fun z1 =>
      some (z1.1, z1.2)
    else
    if (x7 &&& (x5 ^^^ (-1))) = 0 then
      if x6 = (-1) then
        (F_R_isManned (x5 &&& (x7 ^^^ (-1))) x4 x2 s).bind fun z2 =>
        if z2.1 = 0 then
          F_R_roster_34 n x2 x3 x4 x5 x6 (x7 + 1) z2.2
        else
        F_R_roster_34 n x2 x3 x4 x5 x7 (x7 + 1) z2.2
      else
      (F_R_onesOf x7 s).bind fun z3 =>
      (F_R_onesOf x6 z3.2).bind fun z4 =>
      if z3.1 ≤ z4.1 then
        F_R_roster_34 n x2 x3 x4 x5 x6 (x7 + 1) z4.2
      else
      (F_R_isManned (x5 &&& (x7 ^^^ (-1))) x4 x2 z4.2).bind fun z5 =>
      if z5.1 = 0 then
        F_R_roster_34 n x2 x3 x4 x5 x6 (x7 + 1) z5.2
      else
      F_R_roster_34 n x2 x3 x4 x5 x7 (x7 + 1) z5.2
    else
    F_R_roster_34 n x2 x3 x4 x5 x6 (x7 + 1) s
noncomputable def F_R_roster (x1 : Int32) (x2 : Int32) (x3 : Int32) (s : Mem) : Option (Int32 × Mem) :=
  let s1 : Mem := mw s 123 0 0
  (F_R_isFlight x1 s1).bind fun z2 =>
  if z2.1 = 0 then
    some ((-1), z2.2)
  else
  (F_R_isIn x2 1 5 z2.2).bind fun z3 =>
  if z3.1 = 0 then
    some ((-1), z3.2)
  else
  (F_R_isIn x3 0 1 z3.2).bind fun z4 =>
  if z4.1 = 0 then
    some ((-1), z4.2)
  else
  (ld z4.2 127 x1).bind fun v5 =>
  (F_R_presentSet x1 z4.2).bind fun z6 =>
  F_R_roster_34 gF x2 x3 v5 z6.1 (-1) 0 z6.2
def A_R_roster_34 (f : Int32 → Int32 → Int32 → Int32 → Int32 → Int32 → Mem → Option (Int32 × Mem)) (ls : List (Option Value)) (s : Mem) : Option (Int32 × Mem) := match lk ls 0, lk ls 2, lk ls 3, lk ls 4, lk ls 5, lk ls 6, lk ls 7 with
  | some (.ref a0), some (.int a1), some (.int a2), some (.int a3), some (.int a4), some (.int a5), some (.int a6) => cbr (Nat.beq a0 123) (f a1 a2 a3 a4 a5 a6 s) none
  | _, _, _, _, _, _, _ => none
noncomputable def A_R_roster (av : List Value) (s : Mem) : Option (Int32 × Mem) := match av with
  | [.ref a0, .int a1, .int a2, .int a3] => cbr (Nat.beq a0 123) (F_R_roster a1 a2 a3 s) none
  | _ => none
noncomputable def C_R_roster (k : Nat) (av : List Value) (s : Mem) : Option (Int32 × Mem) := cbr (Nat.beq k 200) (A_R_isFlight av s) (cbr (Nat.beq k 187) (A_R_isIn av s) (cbr (Nat.beq k 277) (A_R_presentSet av s) (cbr (Nat.beq k 192) (A_R_onesOf av s) (cbr (Nat.beq k 278) (A_R_isManned av s) (none)))))
set_option maxRecDepth 100000 in
theorem e_R_roster_34  (n : Nat) (x2 : Int32) (x3 : Int32) (x4 : Int32) (x5 : Int32) (x6 : Int32) (x7 : Int32) (s : Mem) : F_R_roster_34 (n + 1) x2 x3 x4 x5 x6 x7 s = xs C_R_roster (fun k ls s => cbr (Nat.beq k 0) (A_R_roster_34 (F_R_roster_34 n) ls s) (none)) 0 (fun _ => 0) K_R_roster 700 (K_R_roster.drop 35) [some (.ref 123), none, some (.int x2), some (.int x3), some (.int x4), some (.int x5), some (.int x6), some (.int x7)] [] s := rfl
set_option maxRecDepth 100000 in
theorem e_R_roster (x1 : Int32) (x2 : Int32) (x3 : Int32) (s : Mem) : F_R_roster x1 x2 x3 s = xs C_R_roster (fun k ls s => cbr (Nat.beq k 0) (A_R_roster_34 (F_R_roster_34 gF) ls s) (none)) 0 (fun _ => 0) K_R_roster 700 K_R_roster [some (.ref 123), some (.int x1), some (.int x2), some (.int x3), none, none, none, none] [] s := rfl
def K_R_signer : MC := [(0, .aload 0, 0), (1, .lconst 0, 0), (2, .putfield 1100, 0), (5, .iload 1, 0), (6, .iconst 0, (-1)), (7, .if_icmp .ne 11, 0), (10, .aload 0, 0), (11, .lconst 0, 0), (12, .putfield 1146, 0), (15, .lconst 0, 0), (16, .ireturn, 0), (17, .aload 0, 0), (18, .iload 1, 0), (19, .lconst 0, 0), (20, .iconst 0, 3210), (23, .invokeinterface 187 196, 0), (26, .ifCond .eq 21, 0), (29, .aload 0, 0), (30, .getfield 1146, 0), (33, .iconst 0, 7), (35, .if_icmp .ne 23, 0), (38, .iconst 0, (-1)), (39, .ireturn, 0), (40, .lconst 0, 0), (41, .istore 2, 0), (42, .iload 1, 0), (43, .istore 3, 0), (44, .lconst 0, 0), (45, .istore 4, 0), (47, .ret 0, 0), (47, .iload 4, 0), (49, .iconst 0, 4), (50, .if_icmp .ge 54, 0), (53, .iload 3, 0), (54, .iconst 0, 10), (56, .lrem, 0), (57, .iconst 0, 3), (58, .if_icmp .le 40, 0), (61, .iconst 0, (-1)), (62, .ireturn, 0), (63, .iload 2, 0), (64, .lconst 1, 0), (65, .iload 3, 0), (66, .iconst 0, 10), (68, .lrem, 0), (69, .ishl, 0), (70, .ior, 0), (71, .istore 2, 0), (72, .iload 3, 0), (73, .iconst 0, 10), (75, .ldiv, 0), (76, .istore 3, 0), (77, .iinc 4 0, 1), (80, .goto 29, 0), (83, .iload 2, 0), (84, .iconst 0, 15), (86, .if_icmp .eq 59, 0), (89, .iconst 0, (-1)), (90, .ireturn, 0), (91, .aload 0, 0), (92, .getstatic 1147, 0), (95, .aload 0, 0), (96, .getfield 1146, 0), (99, .iload 1, 0), (100, .iastore, 0), (101, .aload 0, 0), (102, .aload 0, 0), (103, .getfield 1146, 0), (106, .lconst 1, 0), (107, .iadd, 0), (108, .putfield 1146, 0), (111, .aload 0, 0), (112, .getfield 1146, 0), (115, .ireturn, 0)]
noncomputable def F_R_signer_29 : Nat → Int32 → Int32 → Int32 → Int32 → Mem → Option (Int32 × Mem)
  | 0, _, _, _, _, _ => none
  | n + 1, x1, x2, x3, x4, s =>
    if 4 ≤ x4 then
      if x2 = 15 then
        (sd s 148 (s 123 46) x1).bind fun s1 =>
        let s2 : Mem := mw s1 123 46 ((s1 123 46) + 1)
        some ((s2 123 46), s2)
      else
      some ((-1), s)
    else
    if (irm x3 10) ≤ 3 then
      let y3 : Int32 := (x2 ||| (shl 1 (irm x3 10)))
      F_R_signer_29 n x1 y3 (x3 / 10) (x4 + 1) s
    else
    some ((-1), s)
noncomputable def F_R_signer (x1 : Int32) (s : Mem) : Option (Int32 × Mem) :=
  let s1 : Mem := mw s 123 0 0
  if x1 = (-1) then
    let s2 : Mem := mw s1 123 46 0
    some (0, s2)
  else
  (F_R_isIn x1 0 3210 s1).bind fun z3 =>
  if z3.1 = 0 then
    some ((-1), z3.2)
  else
  if (z3.2 123 46) = 7 then
    some ((-1), z3.2)
  else
  F_R_signer_29 gF x1 0 x1 0 z3.2
def A_R_signer_29 (f : Int32 → Int32 → Int32 → Int32 → Mem → Option (Int32 × Mem)) (ls : List (Option Value)) (s : Mem) : Option (Int32 × Mem) := match lk ls 0, lk ls 1, lk ls 2, lk ls 3, lk ls 4 with
  | some (.ref a0), some (.int a1), some (.int a2), some (.int a3), some (.int a4) => cbr (Nat.beq a0 123) (f a1 a2 a3 a4 s) none
  | _, _, _, _, _ => none
noncomputable def A_R_signer (av : List Value) (s : Mem) : Option (Int32 × Mem) := match av with
  | [.ref a0, .int a1] => cbr (Nat.beq a0 123) (F_R_signer a1 s) none
  | _ => none
noncomputable def C_R_signer (k : Nat) (av : List Value) (s : Mem) : Option (Int32 × Mem) := cbr (Nat.beq k 187) (A_R_isIn av s) (none)
set_option maxRecDepth 100000 in
theorem e_R_signer_29  (n : Nat) (x1 : Int32) (x2 : Int32) (x3 : Int32) (x4 : Int32) (s : Mem) : F_R_signer_29 (n + 1) x1 x2 x3 x4 s = xs C_R_signer (fun k ls s => cbr (Nat.beq k 0) (A_R_signer_29 (F_R_signer_29 n) ls s) (none)) 0 (fun _ => 0) K_R_signer 700 (K_R_signer.drop 30) [some (.ref 123), some (.int x1), some (.int x2), some (.int x3), some (.int x4)] [] s := rfl
set_option maxRecDepth 100000 in
theorem e_R_signer (x1 : Int32) (s : Mem) : F_R_signer x1 s = xs C_R_signer (fun k ls s => cbr (Nat.beq k 0) (A_R_signer_29 (F_R_signer_29 gF) ls s) (none)) 0 (fun _ => 0) K_R_signer 700 K_R_signer [some (.ref 123), some (.int x1), none, none, none] [] s := rfl
def K_R_votesFor : MC := [(0, .lconst 0, 0), (1, .istore 3, 0), (2, .lconst 0, 0), (3, .istore 4, 0), (5, .ret 0, 0), (5, .iload 4, 0), (7, .aload 0, 0), (8, .getfield 1146, 0), (11, .if_icmp .ge 47, 0), (14, .aload 0, 0), (15, .getstatic 1147, 0), (18, .iload 4, 0), (20, .iaload, 0), (21, .istore 5, 0), (23, .iconst 0, 3), (24, .istore 6, 0), (26, .ret 1, 0), (26, .iload 6, 0), (28, .ifCond .lt 32, 0), (31, .aload 0, 0), (32, .getstatic 1148, 0), (35, .iload 5, 0), (37, .iconst 0, 10), (39, .lrem, 0), (40, .iload 6, 0), (42, .iastore, 0), (43, .iload 5, 0), (45, .iconst 0, 10), (47, .ldiv, 0), (48, .istore 5, 0), (50, .iinc 6 0, (-1)), (53, .goto 16, 0), (56, .aload 0, 0), (57, .getstatic 1148, 0), (60, .iload 1, 0), (61, .iaload, 0), (62, .aload 0, 0), (63, .getstatic 1148, 0), (66, .iload 2, 0), (67, .iaload, 0), (68, .if_icmp .ge 45, 0), (71, .iload 3, 0), (72, .lconst 1, 0), (73, .iadd, 0), (74, .istore 3, 0), (75, .iinc 4 0, 1), (78, .goto 4, 0), (81, .iload 3, 0), (82, .ireturn, 0)]
noncomputable def F_R_votesFor_15 (k4 : Int32 → Int32 → Int32 → Int32 → Mem → Option (Int32 × Mem)) : Nat → Int32 → Int32 → Int32 → Int32 → Int32 → Int32 → Mem → Option (Int32 × Mem)
  | 0, _, _, _, _, _, _, _ => none
  | n + 1, x1, x2, x3, x4, x5, x6, s =>
    if x6 < 0 then
      (ld s 149 x1).bind fun v1 =>
      (ld s 149 x2).bind fun v2 =>
      if v2 ≤ v1 then
        k4 x1 x2 x3 (x4 + 1) s
      else
      k4 x1 x2 (x3 + 1) (x4 + 1) s
    else
    (sd s 149 (irm x5 10) x6).bind fun s3 =>
    F_R_votesFor_15 k4 n x1 x2 x3 x4 (x5 / 10) (x6 + (-1)) s3
noncomputable def F_R_votesFor_4 : Nat → Int32 → Int32 → Int32 → Int32 → Mem → Option (Int32 × Mem)
  | 0, _, _, _, _, _ => none
  | n + 1, x1, x2, x3, x4, s =>
    if (s 123 46) ≤ x4 then
      some (x3, s)
    else
    (ld s 148 x4).bind fun v1 =>
    F_R_votesFor_15 (F_R_votesFor_4 n) gF x1 x2 x3 x4 v1 3 s
noncomputable def F_R_votesFor (x1 : Int32) (x2 : Int32) (s : Mem) : Option (Int32 × Mem) :=
  F_R_votesFor_4 gF x1 x2 0 0 s
def A_R_votesFor_4 (f : Int32 → Int32 → Int32 → Int32 → Mem → Option (Int32 × Mem)) (ls : List (Option Value)) (s : Mem) : Option (Int32 × Mem) := match lk ls 0, lk ls 1, lk ls 2, lk ls 3, lk ls 4 with
  | some (.ref a0), some (.int a1), some (.int a2), some (.int a3), some (.int a4) => cbr (Nat.beq a0 123) (f a1 a2 a3 a4 s) none
  | _, _, _, _, _ => none
def A_R_votesFor_15 (f : Int32 → Int32 → Int32 → Int32 → Int32 → Int32 → Mem → Option (Int32 × Mem)) (ls : List (Option Value)) (s : Mem) : Option (Int32 × Mem) := match lk ls 0, lk ls 1, lk ls 2, lk ls 3, lk ls 4, lk ls 5, lk ls 6 with
  | some (.ref a0), some (.int a1), some (.int a2), some (.int a3), some (.int a4), some (.int a5), some (.int a6) => cbr (Nat.beq a0 123) (f a1 a2 a3 a4 a5 a6 s) none
  | _, _, _, _, _, _, _ => none
noncomputable def A_R_votesFor (av : List Value) (s : Mem) : Option (Int32 × Mem) := match av with
  | [.ref a0, .int a1, .int a2] => cbr (Nat.beq a0 123) (F_R_votesFor a1 a2 s) none
  | _ => none
noncomputable def C_R_votesFor (k : Nat) (av : List Value) (s : Mem) : Option (Int32 × Mem) := none
set_option maxRecDepth 100000 in
theorem e_R_votesFor_15 (k4 : Int32 → Int32 → Int32 → Int32 → Mem → Option (Int32 × Mem)) (n : Nat) (x1 : Int32) (x2 : Int32) (x3 : Int32) (x4 : Int32) (x5 : Int32) (x6 : Int32) (s : Mem) : F_R_votesFor_15 k4 (n + 1) x1 x2 x3 x4 x5 x6 s = xs C_R_votesFor (fun k ls s => cbr (Nat.beq k 0) (A_R_votesFor_4 (k4) ls s) (cbr (Nat.beq k 1) (A_R_votesFor_15 (F_R_votesFor_15 k4 n) ls s) (none))) 0 (fun _ => 0) K_R_votesFor 700 (K_R_votesFor.drop 17) [some (.ref 123), some (.int x1), some (.int x2), some (.int x3), some (.int x4), some (.int x5), some (.int x6)] [] s := rfl
set_option maxRecDepth 100000 in
theorem e_R_votesFor_4  (n : Nat) (x1 : Int32) (x2 : Int32) (x3 : Int32) (x4 : Int32) (s : Mem) : F_R_votesFor_4 (n + 1) x1 x2 x3 x4 s = xs C_R_votesFor (fun k ls s => cbr (Nat.beq k 1) (A_R_votesFor_15 (F_R_votesFor_15 (F_R_votesFor_4 n) gF) ls s) (none)) 0 (fun _ => 0) K_R_votesFor 700 (K_R_votesFor.drop 5) [some (.ref 123), some (.int x1), some (.int x2), some (.int x3), some (.int x4), none, none] [] s := rfl
set_option maxRecDepth 100000 in
theorem e_R_votesFor (x1 : Int32) (x2 : Int32) (s : Mem) : F_R_votesFor x1 x2 s = xs C_R_votesFor (fun k ls s => cbr (Nat.beq k 0) (A_R_votesFor_4 (F_R_votesFor_4 gF) ls s) (none)) 0 (fun _ => 0) K_R_votesFor 700 K_R_votesFor [some (.ref 123), some (.int x1), some (.int x2), none, none, none, none] [] s := rfl
def K_R_isBefore : MC := [(0, .iconst 0, 2), (1, .aload 0, 0), (2, .iload 1, 0), (3, .iload 2, 0), (4, .invokeinterface 281 195, 0), (7, .imul, 0), (8, .aload 0, 0), (9, .getfield 1146, 0), (12, .if_icmp .le 11, 0), (15, .lconst 1, 0), (16, .goto 12, 0), (19, .lconst 0, 0), (20, .lreturn, 0)]
noncomputable def F_R_isBefore (x1 : Int32) (x2 : Int32) (s : Mem) : Option (Int32 × Mem) :=
  (F_R_votesFor x1 x2 s).bind fun z1 =>
  if (2 * z1.1) ≤ (z1.2 123 46) then
    some (0, z1.2)
  else
  some (1, z1.2)
noncomputable def A_R_isBefore (av : List Value) (s : Mem) : Option (Int32 × Mem) := match av with
  | [.ref a0, .int a1, .int a2] => cbr (Nat.beq a0 123) (F_R_isBefore a1 a2 s) none
  | _ => none
noncomputable def C_R_isBefore (k : Nat) (av : List Value) (s : Mem) : Option (Int32 × Mem) := cbr (Nat.beq k 281) (A_R_votesFor av s) (none)
set_option maxRecDepth 100000 in
theorem e_R_isBefore (x1 : Int32) (x2 : Int32) (s : Mem) : F_R_isBefore x1 x2 s = xs C_R_isBefore (fun k ls s => none) 0 (fun _ => 0) K_R_isBefore 700 K_R_isBefore [some (.ref 123), some (.int x1), some (.int x2)] [] s := rfl
def K_R_isTop : MC := [(0, .lconst 0, 0), (1, .istore 2, 0), (2, .ret 0, 0), (2, .iload 2, 0), (3, .iconst 0, 4), (4, .if_icmp .ge 33, 0), (7, .lconst 0, 0), (8, .istore 3, 0), (9, .ret 1, 0), (9, .iload 3, 0), (10, .iconst 0, 4), (11, .if_icmp .ge 31, 0), (14, .aload 0, 0), (15, .iload 1, 0), (16, .iload 2, 0), (17, .invokeinterface 193 195, 0), (20, .ifCond .eq 29, 0), (23, .aload 0, 0), (24, .iload 1, 0), (25, .iload 3, 0), (26, .invokeinterface 193 195, 0), (29, .ifCond .ne 29, 0), (32, .aload 0, 0), (33, .iload 2, 0), (34, .iload 3, 0), (35, .invokeinterface 282 195, 0), (38, .ifCond .ne 29, 0), (41, .lconst 0, 0), (42, .lreturn, 0), (43, .iinc 3 0, 1), (46, .goto 8, 0), (49, .iinc 2 0, 1), (52, .goto 2, 0), (55, .lconst 1, 0), (56, .lreturn, 0)]
noncomputable def F_R_isTop_7 (k2 : Int32 → Int32 → Mem → Option (Int32 × Mem)) : Nat → Int32 → Int32 → Int32 → Mem → Option (Int32 × Mem)
  | 0, _, _, _, _ => none
  | n + 1, x1, x2, x3, s =>
    if 4 ≤ x3 then
      k2 x1 (x2 + 1) s
    else
    (F_R_has x1 x2 s).bind fun z1 =>
    if z1.1 = 0 then
      F_R_isTop_7 k2 n x1 x2 (x3 + 1) z1.2
    else
    (F_R_has x1 x3 z1.2).bind fun z2 =>
    if z2.1 = 0 then
      (F_R_isBefore x2 x3 z2.2).bind fun z3 =>
      if z3.1 = 0 then
        some (0, z3.2)
      else
      F_R_isTop_7 k2 n x1 x2 (x3 + 1) z3.2
    else
    F_R_isTop_7 k2 n x1 x2 (x3 + 1) z2.2
noncomputable def F_R_isTop_2 : Nat → Int32 → Int32 → Mem → Option (Int32 × Mem)
  | 0, _, _, _ => none
  | n + 1, x1, x2, s =>
    if 4 ≤ x2 then
      some (1, s)
    else
    F_R_isTop_7 (F_R_isTop_2 n) gF x1 x2 0 s
noncomputable def F_R_isTop (x1 : Int32) (s : Mem) : Option (Int32 × Mem) :=
  F_R_isTop_2 gF x1 0 s
def A_R_isTop_2 (f : Int32 → Int32 → Mem → Option (Int32 × Mem)) (ls : List (Option Value)) (s : Mem) : Option (Int32 × Mem) := match lk ls 0, lk ls 1, lk ls 2 with
  | some (.ref a0), some (.int a1), some (.int a2) => cbr (Nat.beq a0 123) (f a1 a2 s) none
  | _, _, _ => none
def A_R_isTop_7 (f : Int32 → Int32 → Int32 → Mem → Option (Int32 × Mem)) (ls : List (Option Value)) (s : Mem) : Option (Int32 × Mem) := match lk ls 0, lk ls 1, lk ls 2, lk ls 3 with
  | some (.ref a0), some (.int a1), some (.int a2), some (.int a3) => cbr (Nat.beq a0 123) (f a1 a2 a3 s) none
  | _, _, _, _ => none
noncomputable def A_R_isTop (av : List Value) (s : Mem) : Option (Int32 × Mem) := match av with
  | [.ref a0, .int a1] => cbr (Nat.beq a0 123) (F_R_isTop a1 s) none
  | _ => none
noncomputable def C_R_isTop (k : Nat) (av : List Value) (s : Mem) : Option (Int32 × Mem) := cbr (Nat.beq k 193) (A_R_has av s) (cbr (Nat.beq k 282) (A_R_isBefore av s) (none))
set_option maxRecDepth 100000 in
theorem e_R_isTop_7 (k2 : Int32 → Int32 → Mem → Option (Int32 × Mem)) (n : Nat) (x1 : Int32) (x2 : Int32) (x3 : Int32) (s : Mem) : F_R_isTop_7 k2 (n + 1) x1 x2 x3 s = xs C_R_isTop (fun k ls s => cbr (Nat.beq k 0) (A_R_isTop_2 (k2) ls s) (cbr (Nat.beq k 1) (A_R_isTop_7 (F_R_isTop_7 k2 n) ls s) (none))) 0 (fun _ => 0) K_R_isTop 700 (K_R_isTop.drop 9) [some (.ref 123), some (.int x1), some (.int x2), some (.int x3)] [] s := rfl
set_option maxRecDepth 100000 in
theorem e_R_isTop_2  (n : Nat) (x1 : Int32) (x2 : Int32) (s : Mem) : F_R_isTop_2 (n + 1) x1 x2 s = xs C_R_isTop (fun k ls s => cbr (Nat.beq k 1) (A_R_isTop_7 (F_R_isTop_7 (F_R_isTop_2 n) gF) ls s) (none)) 0 (fun _ => 0) K_R_isTop 700 (K_R_isTop.drop 3) [some (.ref 123), some (.int x1), some (.int x2), none] [] s := rfl
set_option maxRecDepth 100000 in
theorem e_R_isTop (x1 : Int32) (s : Mem) : F_R_isTop x1 s = xs C_R_isTop (fun k ls s => cbr (Nat.beq k 0) (A_R_isTop_2 (F_R_isTop_2 gF) ls s) (none)) 0 (fun _ => 0) K_R_isTop 700 K_R_isTop [some (.ref 123), some (.int x1), none, none] [] s := rfl
def K_R_signs : MC := [(0, .aload 0, 0), (1, .lconst 0, 0), (2, .putfield 1100, 0), (5, .iload 1, 0), (6, .iconst 0, 2), (7, .if_icmp .ne 43, 0), (10, .lconst 0, 0), (11, .istore 2, 0), (12, .lconst 0, 0), (13, .istore 3, 0), (14, .ret 0, 0), (14, .iload 3, 0), (15, .iconst 0, 4), (16, .if_icmp .ge 41, 0), (19, .lconst 0, 0), (20, .istore 4, 0), (22, .ret 1, 0), (22, .iload 4, 0), (24, .iconst 0, 4), (25, .if_icmp .ge 39, 0), (28, .iload 3, 0), (29, .iload 4, 0), (31, .if_icmp .eq 37, 0), (34, .aload 0, 0), (35, .getfield 1146, 0), (38, .ifCond .le 37, 0), (41, .aload 0, 0), (42, .iload 3, 0), (43, .iload 4, 0), (45, .invokeinterface 281 195, 0), (48, .aload 0, 0), (49, .getfield 1146, 0), (52, .if_icmp .ne 37, 0), (55, .iload 2, 0), (56, .lconst 1, 0), (57, .iadd, 0), (58, .istore 2, 0), (59, .iinc 4 0, 1), (62, .goto 16, 0), (65, .iinc 3 0, 1), (68, .goto 10, 0), (71, .iload 2, 0), (72, .ireturn, 0), (73, .aload 0, 0), (74, .iload 1, 0), (75, .lconst 0, 0), (76, .lconst 1, 0), (77, .invokeinterface 187 196, 0), (80, .ifCond .ne 51, 0), (83, .iconst 0, (-1)), (84, .ireturn, 0), (85, .iconst 0, 15), (87, .istore 2, 0), (88, .iconst 0, 14), (90, .istore 3, 0), (91, .ret 2, 0), (91, .iload 3, 0), (92, .ifCond .le 73, 0), (95, .aload 0, 0), (96, .iload 3, 0), (97, .invokeinterface 283 194, 0), (100, .ifCond .eq 71, 0), (103, .aload 0, 0), (104, .iload 3, 0), (105, .invokeinterface 192 194, 0), (108, .aload 0, 0), (109, .iload 2, 0), (110, .invokeinterface 192 194, 0), (113, .if_icmp .gt 71, 0), (116, .iload 3, 0), (117, .istore 2, 0), (118, .iinc 3 0, (-1)), (121, .goto 55, 0), (124, .iload 1, 0), (125, .lconst 1, 0), (126, .if_icmp .ne 78, 0), (129, .iload 2, 0), (130, .ireturn, 0), (131, .lconst 0, 0), (132, .istore 3, 0), (133, .ret 3, 0), (133, .iload 3, 0), (134, .iconst 0, 4), (135, .if_icmp .ge 93, 0), (138, .iload 2, 0), (139, .lconst 1, 0), (140, .iload 3, 0), (141, .ishl, 0), (142, .if_icmp .ne 91, 0), (145, .iload 3, 0), (146, .ireturn, 0), (147, .iinc 3 0, 1), (150, .goto 80, 0), (153, .iconst 0, (-1)), (154, .ireturn, 0)]
noncomputable def F_R_signs_15 (k10 : Int32 → Int32 → Mem → Option (Int32 × Mem)) : Nat → Int32 → Int32 → Int32 → Mem → Option (Int32 × Mem)
  | 0, _, _, _, _ => none
  | n + 1, x2, x3, x4, s =>
    if 4 ≤ x4 then
      k10 x2 (x3 + 1) s
    else
    if x3 = x4 then
      F_R_signs_15 k10 n x2 x3 (x4 + 1) s
    else
    if (s 123 46) ≤ 0 then
      F_R_signs_15 k10 n x2 x3 (x4 + 1) s
    else
    (F_R_votesFor x3 x4 s).bind fun z1 =>
    if z1.1 = (z1.2 123 46) then
      F_R_signs_15 k10 n (x2 + 1) x3 (x4 + 1) z1.2
    else
    F_R_signs_15 k10 n x2 x3 (x4 + 1) z1.2
noncomputable def F_R_signs_10 : Nat → Int32 → Int32 → Mem → Option (Int32 × Mem)
  | 0, _, _, _ => none
  | n + 1, x2, x3, s =>
    if 4 ≤ x3 then
      some (x2, s)
    else
    F_R_signs_15 (F_R_signs_10 n) gF x2 x3 0 s
noncomputable def F_R_signs_77 : Nat → Int32 → Int32 → Mem → Option (Int32 × Mem)
  | 0, _, _, _ => none
  | n + 1, x2, x3, s =>
    if 4 ≤ x3 then
      some ((-1), s)
    else
    if x2 = (shl 1 x3) then
      some (x3, s)
    else
    F_R_signs_77 n x2 (x3 + 1) s
noncomputable def F_R_signs_53 : Nat → Int32 → Int32 → Int32 → Mem → Option (Int32 × Mem)
  | 0, _, _, _, _ => none
  | n + 1, x1, x2, x3, s =>
    if x3 ≤ 0 then
      if x1 = 1 then
        some (x2, s)
      else
      F_R_signs_77 gF x2 0 s
    else
    (F_R_isTop x3 s).bind fun z1 =>
    if z1.1 = 0 then
      F_R_signs_53 n x1 x2 (x3 + (-1)) z1.2
    else
    (F_R_onesOf x3 z1.2).bind fun z2 =>
    (F_R_onesOf x2 z2.2).bind fun z3 =>
    if z3.1 < z2.1 then
      F_R_signs_53 n x1 x2 (x3 + (-1)) z3.2
    else
    F_R_signs_53 n x1 x3 (x3 + (-1)) z3.2
noncomputable def F_R_signs (x1 : Int32) (s : Mem) : Option (Int32 × Mem) :=
  let s1 : Mem := mw s 123 0 0
  if x1 = 2 then
    F_R_signs_10 gF 0 0 s1
  else
  (F_R_isIn x1 0 1 s1).bind fun z2 =>
  if z2.1 = 0 then
    some ((-1), z2.2)
  else
  F_R_signs_53 gF x1 15 14 z2.2
def A_R_signs_10 (f : Int32 → Int32 → Mem → Option (Int32 × Mem)) (ls : List (Option Value)) (s : Mem) : Option (Int32 × Mem) := match lk ls 0, lk ls 2, lk ls 3 with
  | some (.ref a0), some (.int a1), some (.int a2) => cbr (Nat.beq a0 123) (f a1 a2 s) none
  | _, _, _ => none
def A_R_signs_15 (f : Int32 → Int32 → Int32 → Mem → Option (Int32 × Mem)) (ls : List (Option Value)) (s : Mem) : Option (Int32 × Mem) := match lk ls 0, lk ls 2, lk ls 3, lk ls 4 with
  | some (.ref a0), some (.int a1), some (.int a2), some (.int a3) => cbr (Nat.beq a0 123) (f a1 a2 a3 s) none
  | _, _, _, _ => none
def A_R_signs_53 (f : Int32 → Int32 → Int32 → Mem → Option (Int32 × Mem)) (ls : List (Option Value)) (s : Mem) : Option (Int32 × Mem) := match lk ls 0, lk ls 1, lk ls 2, lk ls 3 with
  | some (.ref a0), some (.int a1), some (.int a2), some (.int a3) => cbr (Nat.beq a0 123) (f a1 a2 a3 s) none
  | _, _, _, _ => none
def A_R_signs_77 (f : Int32 → Int32 → Mem → Option (Int32 × Mem)) (ls : List (Option Value)) (s : Mem) : Option (Int32 × Mem) := match lk ls 2, lk ls 3 with
  | some (.int a0), some (.int a1) => f a0 a1 s
  | _, _ => none
noncomputable def A_R_signs (av : List Value) (s : Mem) : Option (Int32 × Mem) := match av with
  | [.ref a0, .int a1] => cbr (Nat.beq a0 123) (F_R_signs a1 s) none
  | _ => none
noncomputable def C_R_signs (k : Nat) (av : List Value) (s : Mem) : Option (Int32 × Mem) := cbr (Nat.beq k 187) (A_R_isIn av s) (cbr (Nat.beq k 283) (A_R_isTop av s) (cbr (Nat.beq k 192) (A_R_onesOf av s) (cbr (Nat.beq k 281) (A_R_votesFor av s) (none))))
set_option maxRecDepth 100000 in
theorem e_R_signs_15 (k10 : Int32 → Int32 → Mem → Option (Int32 × Mem)) (n : Nat) (x2 : Int32) (x3 : Int32) (x4 : Int32) (s : Mem) : F_R_signs_15 k10 (n + 1) x2 x3 x4 s = xs C_R_signs (fun k ls s => cbr (Nat.beq k 0) (A_R_signs_10 (k10) ls s) (cbr (Nat.beq k 1) (A_R_signs_15 (F_R_signs_15 k10 n) ls s) (none))) 0 (fun _ => 0) K_R_signs 700 (K_R_signs.drop 17) [some (.ref 123), none, some (.int x2), some (.int x3), some (.int x4)] [] s := rfl
set_option maxRecDepth 100000 in
theorem e_R_signs_10  (n : Nat) (x2 : Int32) (x3 : Int32) (s : Mem) : F_R_signs_10 (n + 1) x2 x3 s = xs C_R_signs (fun k ls s => cbr (Nat.beq k 1) (A_R_signs_15 (F_R_signs_15 (F_R_signs_10 n) gF) ls s) (none)) 0 (fun _ => 0) K_R_signs 700 (K_R_signs.drop 11) [some (.ref 123), none, some (.int x2), some (.int x3), none] [] s := rfl
set_option maxRecDepth 100000 in
theorem e_R_signs_77  (n : Nat) (x2 : Int32) (x3 : Int32) (s : Mem) : F_R_signs_77 (n + 1) x2 x3 s = xs C_R_signs (fun k ls s => cbr (Nat.beq k 3) (A_R_signs_77 (F_R_signs_77 n) ls s) (none)) 0 (fun _ => 0) K_R_signs 700 (K_R_signs.drop 81) [none, none, some (.int x2), some (.int x3), none] [] s := rfl
set_option maxRecDepth 100000 in
theorem e_R_signs_53  (n : Nat) (x1 : Int32) (x2 : Int32) (x3 : Int32) (s : Mem) : F_R_signs_53 (n + 1) x1 x2 x3 s = xs C_R_signs (fun k ls s => cbr (Nat.beq k 2) (A_R_signs_53 (F_R_signs_53 n) ls s) (cbr (Nat.beq k 3) (A_R_signs_77 (F_R_signs_77 gF) ls s) (none))) 0 (fun _ => 0) K_R_signs 700 (K_R_signs.drop 56) [some (.ref 123), some (.int x1), some (.int x2), some (.int x3), none] [] s := rfl
set_option maxRecDepth 100000 in
theorem e_R_signs (x1 : Int32) (s : Mem) : F_R_signs x1 s = xs C_R_signs (fun k ls s => cbr (Nat.beq k 0) (A_R_signs_10 (F_R_signs_10 gF) ls s) (cbr (Nat.beq k 2) (A_R_signs_53 (F_R_signs_53 gF) ls s) (none))) 0 (fun _ => 0) K_R_signs 700 K_R_signs [some (.ref 123), some (.int x1), none, none, none] [] s := rfl
def K_R_joinCost : MC := [(0, .iload 3, 0), (1, .iload 4, 0), (3, .iadd, 0), (4, .ifCond .ne 6, 0), (7, .lconst 0, 0), (8, .ireturn, 0), (9, .iconst 0, 100000000), (12, .istore 5, 0), (14, .iload 3, 0), (15, .ifCond .le 32, 0), (18, .aload 0, 0), (19, .getstatic 1149, 0), (22, .iconst 0, 17), (24, .iload 3, 0), (25, .lconst 1, 0), (26, .isub, 0), (27, .imul, 0), (28, .iload 4, 0), (30, .iadd, 0), (31, .iaload, 0), (32, .aload 0, 0), (33, .getstatic 1108, 0), (36, .iconst 0, 16), (38, .iload 1, 0), (39, .imul, 0), (40, .iload 3, 0), (41, .iadd, 0), (42, .lconst 1, 0), (43, .isub, 0), (44, .iaload, 0), (45, .iadd, 0), (46, .istore 5, 0), (48, .iload 4, 0), (50, .ifCond .le 59, 0), (53, .aload 0, 0), (54, .iload 5, 0), (56, .aload 0, 0), (57, .getstatic 1149, 0), (60, .iconst 0, 17), (62, .iload 3, 0), (63, .imul, 0), (64, .iload 4, 0), (66, .iadd, 0), (67, .lconst 1, 0), (68, .isub, 0), (69, .iaload, 0), (70, .aload 0, 0), (71, .getstatic 1108, 0), (74, .iconst 0, 16), (76, .iload 2, 0), (77, .imul, 0), (78, .iload 4, 0), (80, .iadd, 0), (81, .lconst 1, 0), (82, .isub, 0), (83, .iaload, 0), (84, .iadd, 0), (85, .invokeinterface 190 195, 0), (88, .istore 5, 0), (90, .iload 3, 0), (91, .ifCond .le 102, 0), (94, .iload 4, 0), (96, .ifCond .le 102, 0), (99, .aload 0, 0), (100, .iload 5, 0), (102, .aload 0, 0), (103, .getstatic 1149, 0), (106, .iconst 0, 17), (108, .iload 3, 0), (109, .lconst 1, 0), (110, .isub, 0), (111, .imul, 0), (112, .iload 4, 0), (114, .iadd, 0), (115, .lconst 1, 0), (116, .isub, 0), (117, .iaload, 0), (118, .aload 0, 0), (119, .aload 0, 0), (120, .getstatic 1108, 0), (123, .iconst 0, 16), (125, .iload 1, 0), (126, .imul, 0), (127, .iload 3, 0), (128, .iadd, 0), (129, .lconst 1, 0), (130, .isub, 0), (131, .iaload, 0), (132, .aload 0, 0), (133, .getstatic 1108, 0), (136, .iconst 0, 16), (138, .iload 2, 0), (139, .imul, 0), (140, .iload 4, 0), (142, .iadd, 0), (143, .lconst 1, 0), (144, .isub, 0), (145, .iaload, 0), (146, .invokeinterface 191 195, 0), (149, .iadd, 0), (150, .invokeinterface 190 195, 0), (153, .istore 5, 0), (155, .iload 5, 0), (157, .ireturn, 0)]
noncomputable def F_R_joinCost (x1 : Int32) (x2 : Int32) (x3 : Int32) (x4 : Int32) (s : Mem) : Option (Int32 × Mem) :=
  if (x3 + x4) = 0 then
    some (0, s)
  else
  if x3 ≤ 0 then
    if x4 ≤ 0 then
      if x3 ≤ 0 then
        some (100000000, s)
      else
      if x4 ≤ 0 then
        some (100000000, s)
      else
      (ld s 150 (((17 * (x3 - 1)) + x4) - 1)).bind fun v1 =>
      (ld s 128 (((16 * x1) + x3) - 1)).bind fun v2 =>
      (ld s 128 (((16 * x2) + x4) - 1)).bind fun v3 =>
      (F_R_apart v2 v3 s).bind fun z4 =>
      (F_R_lesser 100000000 (v1 + z4.1) z4.2).bind fun z5 =>
      some (z5.1, z5.2)
    else
    (ld s 150 (((17 * x3) + x4) - 1)).bind fun v6 =>
    (ld s 128 (((16 * x2) + x4) - 1)).bind fun v7 =>
    (F_R_lesser 100000000 (v6 + v7) s).bind fun z8 =>
    if x3 ≤ 0 then
      some (z8.1, z8.2)
    else
    if x4 ≤ 0 then
      some (z8.1, z8.2)
    else
    (ld z8.2 150 (((17 * (x3 - 1)) + x4) - 1)).bind fun v9 =>
    (ld z8.2 128 (((16 * x1) + x3) - 1)).bind fun v10 =>
    (ld z8.2 128 (((16 * x2) + x4) - 1)).bind fun v11 =>
    (F_R_apart v10 v11 z8.2).bind fun z12 =>
    (F_R_lesser z8.1 (v9 + z12.1) z12.2).bind fun z13 =>
    some (z13.1, z13.2)
  else
  (ld s 150 ((17 * (x3 - 1)) + x4)).bind fun v14 =>
  (ld s 128 (((16 * x1) + x3) - 1)).bind fun v15 =>
  if x4 ≤ 0 then
    if x3 ≤ 0 then
      some ((v14 + v15), s)
    else
    if x4 ≤ 0 then
      some ((v14 + v15), s)
    else
    (ld s 150 (((17 * (x3 - 1)) + x4) - 1)).bind fun v16 =>
    (ld s 128 (((16 * x1) + x3) - 1)).bind fun v17 =>
    (ld s 128 (((16 * x2) + x4) - 1)).bind fun v18 =>
    (F_R_apart v17 v18 s).bind fun z19 =>
    (F_R_lesser (v14 + v15) (v16 + z19.1) z19.2).bind fun z20 =>
    some (z20.1, z20.2)
  else
  (ld s 150 (((17 * x3) + x4) - 1)).bind fun v21 =>
  (ld s 128 (((16 * x2) + x4) - 1)).bind fun v22 =>
  (F_R_lesser (v14 + v15) (v21 + v22) s).bind fun z23 =>
  if x3 ≤ 0 then
    some (z23.1, z23.2)
  else
  if x4 ≤ 0 then
    some (z23.1, z23.2)
  else
  (ld z23.2 150 (((17 * (x3 - 1)) + x4) - 1)).bind fun v24 =>
  (ld z23.2 128 (((16 * x1) + x3) - 1)).bind fun v25 =>
  (ld z23.2 128 (((16 * x2) + x4) - 1)).bind fun v26 =>
  (F_R_apart v25 v26 z23.2).bind fun z27 =>
  (F_R_lesser z23.1 (v24 + z27.1) z27.2).bind fun z28 =>
  some (z28.1, z28.2)
noncomputable def A_R_joinCost (av : List Value) (s : Mem) : Option (Int32 × Mem) := match av with
  | [.ref a0, .int a1, .int a2, .int a3, .int a4] => cbr (Nat.beq a0 123) (F_R_joinCost a1 a2 a3 a4 s) none
  | _ => none
noncomputable def C_R_joinCost (k : Nat) (av : List Value) (s : Mem) : Option (Int32 × Mem) := cbr (Nat.beq k 191) (A_R_apart av s) (cbr (Nat.beq k 190) (A_R_lesser av s) (none))
set_option maxRecDepth 100000 in
theorem e_R_joinCost (x1 : Int32) (x2 : Int32) (x3 : Int32) (x4 : Int32) (s : Mem) : F_R_joinCost x1 x2 x3 x4 s = xs C_R_joinCost (fun k ls s => none) 0 (fun _ => 0) K_R_joinCost 700 K_R_joinCost [some (.ref 123), some (.int x1), some (.int x2), some (.int x3), some (.int x4), none] [] s := rfl
def K_R_levels : MC := [(0, .lconst 0, 0), (1, .istore 3, 0), (2, .lconst 0, 0), (3, .istore 4, 0), (5, .lconst 0, 0), (6, .istore 5, 0), (8, .ret 0, 0), (8, .iload 5, 0), (10, .aload 0, 0), (11, .getstatic 1107, 0), (14, .iload 1, 0), (15, .iaload, 0), (16, .if_icmp .ge 57, 0), (19, .iload 4, 0), (21, .aload 0, 0), (22, .getstatic 1108, 0), (25, .iconst 0, 16), (27, .iload 1, 0), (28, .imul, 0), (29, .iload 5, 0), (31, .iadd, 0), (32, .iaload, 0), (33, .iadd, 0), (34, .istore 4, 0), (36, .lconst 0, 0), (37, .istore 6, 0), (39, .lconst 0, 0), (40, .istore 7, 0), (42, .ret 1, 0), (42, .iload 7, 0), (44, .aload 0, 0), (45, .getstatic 1107, 0), (48, .iload 2, 0), (49, .iaload, 0), (50, .if_icmp .ge 55, 0), (53, .iload 6, 0), (55, .aload 0, 0), (56, .getstatic 1108, 0), (59, .iconst 0, 16), (61, .iload 2, 0), (62, .imul, 0), (63, .iload 7, 0), (65, .iadd, 0), (66, .iaload, 0), (67, .iadd, 0), (68, .istore 6, 0), (70, .iload 6, 0), (72, .iload 4, 0), (74, .if_icmp .ne 53, 0), (77, .iload 3, 0), (78, .lconst 1, 0), (79, .iadd, 0), (80, .istore 3, 0), (81, .iinc 7 0, 1), (84, .goto 28, 0), (87, .iinc 5 0, 1), (90, .goto 6, 0), (93, .iload 3, 0), (94, .ireturn, 0)]
noncomputable def F_R_levels_27 (k6 : Int32 → Int32 → Int32 → Int32 → Int32 → Mem → Option (Int32 × Mem)) : Nat → Int32 → Int32 → Int32 → Int32 → Int32 → Int32 → Int32 → Mem → Option (Int32 × Mem)
  | 0, _, _, _, _, _, _, _, _ => none
  | n + 1, x1, x2, x3, x4, x5, x6, x7, s =>
    (ld s 127 x2).bind fun v1 =>
    if v1 ≤ x7 then
      k6 x1 x2 x3 x4 (x5 + 1) s
    else
    (ld s 128 ((16 * x2) + x7)).bind fun v2 =>
    if (x6 + v2) = x4 then
      F_R_levels_27 k6 n x1 x2 (x3 + 1) x4 x5 (x6 + v2) (x7 + 1) s
    else
    F_R_levels_27 k6 n x1 x2 x3 x4 x5 (x6 + v2) (x7 + 1) s
noncomputable def F_R_levels_6 : Nat → Int32 → Int32 → Int32 → Int32 → Int32 → Mem → Option (Int32 × Mem)
  | 0, _, _, _, _, _, _ => none
  | n + 1, x1, x2, x3, x4, x5, s =>
    (ld s 127 x1).bind fun v1 =>
    if v1 ≤ x5 then
      some (x3, s)
    else
    (ld s 128 ((16 * x1) + x5)).bind fun v2 =>
    F_R_levels_27 (F_R_levels_6 n) gF x1 x2 x3 (x4 + v2) x5 0 0 s
noncomputable def F_R_levels (x1 : Int32) (x2 : Int32) (s : Mem) : Option (Int32 × Mem) :=
  F_R_levels_6 gF x1 x2 0 0 0 s
def A_R_levels_6 (f : Int32 → Int32 → Int32 → Int32 → Int32 → Mem → Option (Int32 × Mem)) (ls : List (Option Value)) (s : Mem) : Option (Int32 × Mem) := match lk ls 0, lk ls 1, lk ls 2, lk ls 3, lk ls 4, lk ls 5 with
  | some (.ref a0), some (.int a1), some (.int a2), some (.int a3), some (.int a4), some (.int a5) => cbr (Nat.beq a0 123) (f a1 a2 a3 a4 a5 s) none
  | _, _, _, _, _, _ => none
def A_R_levels_27 (f : Int32 → Int32 → Int32 → Int32 → Int32 → Int32 → Int32 → Mem → Option (Int32 × Mem)) (ls : List (Option Value)) (s : Mem) : Option (Int32 × Mem) := match lk ls 0, lk ls 1, lk ls 2, lk ls 3, lk ls 4, lk ls 5, lk ls 6, lk ls 7 with
  | some (.ref a0), some (.int a1), some (.int a2), some (.int a3), some (.int a4), some (.int a5), some (.int a6), some (.int a7) => cbr (Nat.beq a0 123) (f a1 a2 a3 a4 a5 a6 a7 s) none
  | _, _, _, _, _, _, _, _ => none
noncomputable def A_R_levels (av : List Value) (s : Mem) : Option (Int32 × Mem) := match av with
  | [.ref a0, .int a1, .int a2] => cbr (Nat.beq a0 123) (F_R_levels a1 a2 s) none
  | _ => none
noncomputable def C_R_levels (k : Nat) (av : List Value) (s : Mem) : Option (Int32 × Mem) := none
set_option maxRecDepth 100000 in
theorem e_R_levels_27 (k6 : Int32 → Int32 → Int32 → Int32 → Int32 → Mem → Option (Int32 × Mem)) (n : Nat) (x1 : Int32) (x2 : Int32) (x3 : Int32) (x4 : Int32) (x5 : Int32) (x6 : Int32) (x7 : Int32) (s : Mem) : F_R_levels_27 k6 (n + 1) x1 x2 x3 x4 x5 x6 x7 s = xs C_R_levels (fun k ls s => cbr (Nat.beq k 0) (A_R_levels_6 (k6) ls s) (cbr (Nat.beq k 1) (A_R_levels_27 (F_R_levels_27 k6 n) ls s) (none))) 0 (fun _ => 0) K_R_levels 700 (K_R_levels.drop 29) [some (.ref 123), some (.int x1), some (.int x2), some (.int x3), some (.int x4), some (.int x5), some (.int x6), some (.int x7)] [] s := rfl
set_option maxRecDepth 100000 in
theorem e_R_levels_6  (n : Nat) (x1 : Int32) (x2 : Int32) (x3 : Int32) (x4 : Int32) (x5 : Int32) (s : Mem) : F_R_levels_6 (n + 1) x1 x2 x3 x4 x5 s = xs C_R_levels (fun k ls s => cbr (Nat.beq k 1) (A_R_levels_27 (F_R_levels_27 (F_R_levels_6 n) gF) ls s) (none)) 0 (fun _ => 0) K_R_levels 700 (K_R_levels.drop 7) [some (.ref 123), some (.int x1), some (.int x2), some (.int x3), some (.int x4), some (.int x5), none, none] [] s := rfl
set_option maxRecDepth 100000 in
theorem e_R_levels (x1 : Int32) (x2 : Int32) (s : Mem) : F_R_levels x1 x2 s = xs C_R_levels (fun k ls s => cbr (Nat.beq k 0) (A_R_levels_6 (F_R_levels_6 gF) ls s) (none)) 0 (fun _ => 0) K_R_levels 700 K_R_levels [some (.ref 123), some (.int x1), some (.int x2), none, none, none, none, none] [] s := rfl
def K_R_joined : MC := [(0, .aload 0, 0), (1, .lconst 0, 0), (2, .putfield 1100, 0), (5, .aload 0, 0), (6, .iload 1, 0), (7, .invokeinterface 200 194, 0), (10, .ifCond .eq 17, 0), (13, .aload 0, 0), (14, .iload 2, 0), (15, .invokeinterface 200 194, 0), (18, .ifCond .eq 17, 0), (21, .aload 0, 0), (22, .iload 3, 0), (23, .lconst 0, 0), (24, .lconst 1, 0), (25, .invokeinterface 187 196, 0), (28, .ifCond .ne 19, 0), (31, .iconst 0, (-1)), (32, .ireturn, 0), (33, .iload 3, 0), (34, .lconst 1, 0), (35, .if_icmp .ne 27, 0), (38, .aload 0, 0), (39, .iload 1, 0), (40, .iload 2, 0), (41, .invokeinterface 286 195, 0), (44, .ireturn, 0), (45, .lconst 0, 0), (46, .istore 4, 0), (48, .ret 0, 0), (48, .iload 4, 0), (50, .aload 0, 0), (51, .getstatic 1107, 0), (54, .iload 1, 0), (55, .iaload, 0), (56, .if_icmp .gt 63, 0), (59, .lconst 0, 0), (60, .istore 5, 0), (62, .ret 1, 0), (62, .iload 5, 0), (64, .aload 0, 0), (65, .getstatic 1107, 0), (68, .iload 2, 0), (69, .iaload, 0), (70, .if_icmp .gt 61, 0), (73, .aload 0, 0), (74, .getstatic 1149, 0), (77, .iconst 0, 17), (79, .iload 4, 0), (81, .imul, 0), (82, .iload 5, 0), (84, .iadd, 0), (85, .aload 0, 0), (86, .iload 1, 0), (87, .iload 2, 0), (88, .iload 4, 0), (90, .iload 5, 0), (92, .invokeinterface 285 197, 0), (95, .iastore, 0), (96, .iinc 5 0, 1), (99, .goto 38, 0), (102, .iinc 4 0, 1), (105, .goto 29, 0), (108, .aload 0, 0), (109, .getstatic 1149, 0), (112, .iconst 0, 17), (114, .aload 0, 0), (115, .getstatic 1107, 0), (118, .iload 1, 0), (119, .iaload, 0), (120, .imul, 0), (121, .aload 0, 0), (122, .getstatic 1107, 0), (125, .iload 2, 0), (126, .iaload, 0), (127, .iadd, 0), (128, .iaload, 0), (129, .ireturn, 0)]
noncomputable def F_R_joined_37 (k29 : Int32 → Int32 → Int32 → Mem → Option (Int32 × Mem)) : Nat → Int32 → Int32 → Int32 → Int32 → Mem → Option (Int32 × Mem)
  | 0, _, _, _, _, _ => none
  | n + 1, x1, x2, x4, x5, s =>
    (ld s 127 x2).bind fun v1 =>
    if v1 < x5 then
      k29 x1 x2 (x4 + 1) s
    else
    (F_R_joinCost x1 x2 x4 x5 s).bind fun z2 =>
    (sd z2.2 150 ((17 * x4) + x5) z2.1).bind fun s3 =>
    F_R_joined_37 k29 n x1 x2 x4 (x5 + 1) s3
noncomputable def F_R_joined_29 : Nat → Int32 → Int32 → Int32 → Mem → Option (Int32 × Mem)
  | 0, _, _, _, _ => none
  | n + 1, x1, x2, x4, s =>
    (ld s 127 x1).bind fun v1 =>
    if v1 < x4 then
      (ld s 127 x1).bind fun v2 =>
      (ld s 127 x2).bind fun v3 =>
      (ld s 150 ((17 * v2) + v3)).bind fun v4 =>
      some (v4, s)
    else
    F_R_joined_37 (F_R_joined_29 n) gF x1 x2 x4 0 s
noncomputable def F_R_joined (x1 : Int32) (x2 : Int32) (x3 : Int32) (s : Mem) : Option (Int32 × Mem) :=
  let s1 : Mem := mw s 123 0 0
  (F_R_isFlight x1 s1).bind fun z2 =>
  if z2.1 = 0 then
    some ((-1), z2.2)
  else
  (F_R_isFlight x2 z2.2).bind fun z3 =>
  if z3.1 = 0 then
    some ((-1), z3.2)
  else
  (F_R_isIn x3 0 1 z3.2).bind fun z4 =>
  if z4.1 = 0 then
    some ((-1), z4.2)
  else
  if x3 = 1 then
    (F_R_levels x1 x2 z4.2).bind fun z5 =>
    some (z5.1, z5.2)
  else
  F_R_joined_29 gF x1 x2 0 z4.2
def A_R_joined_29 (f : Int32 → Int32 → Int32 → Mem → Option (Int32 × Mem)) (ls : List (Option Value)) (s : Mem) : Option (Int32 × Mem) := match lk ls 0, lk ls 1, lk ls 2, lk ls 4 with
  | some (.ref a0), some (.int a1), some (.int a2), some (.int a3) => cbr (Nat.beq a0 123) (f a1 a2 a3 s) none
  | _, _, _, _ => none
def A_R_joined_37 (f : Int32 → Int32 → Int32 → Int32 → Mem → Option (Int32 × Mem)) (ls : List (Option Value)) (s : Mem) : Option (Int32 × Mem) := match lk ls 0, lk ls 1, lk ls 2, lk ls 4, lk ls 5 with
  | some (.ref a0), some (.int a1), some (.int a2), some (.int a3), some (.int a4) => cbr (Nat.beq a0 123) (f a1 a2 a3 a4 s) none
  | _, _, _, _, _ => none
noncomputable def A_R_joined (av : List Value) (s : Mem) : Option (Int32 × Mem) := match av with
  | [.ref a0, .int a1, .int a2, .int a3] => cbr (Nat.beq a0 123) (F_R_joined a1 a2 a3 s) none
  | _ => none
noncomputable def C_R_joined (k : Nat) (av : List Value) (s : Mem) : Option (Int32 × Mem) := cbr (Nat.beq k 200) (A_R_isFlight av s) (cbr (Nat.beq k 187) (A_R_isIn av s) (cbr (Nat.beq k 286) (A_R_levels av s) (cbr (Nat.beq k 285) (A_R_joinCost av s) (none))))
set_option maxRecDepth 100000 in
theorem e_R_joined_37 (k29 : Int32 → Int32 → Int32 → Mem → Option (Int32 × Mem)) (n : Nat) (x1 : Int32) (x2 : Int32) (x4 : Int32) (x5 : Int32) (s : Mem) : F_R_joined_37 k29 (n + 1) x1 x2 x4 x5 s = xs C_R_joined (fun k ls s => cbr (Nat.beq k 0) (A_R_joined_29 (k29) ls s) (cbr (Nat.beq k 1) (A_R_joined_37 (F_R_joined_37 k29 n) ls s) (none))) 0 (fun _ => 0) K_R_joined 700 (K_R_joined.drop 39) [some (.ref 123), some (.int x1), some (.int x2), none, some (.int x4), some (.int x5)] [] s := rfl
set_option maxRecDepth 100000 in
theorem e_R_joined_29  (n : Nat) (x1 : Int32) (x2 : Int32) (x4 : Int32) (s : Mem) : F_R_joined_29 (n + 1) x1 x2 x4 s = xs C_R_joined (fun k ls s => cbr (Nat.beq k 1) (A_R_joined_37 (F_R_joined_37 (F_R_joined_29 n) gF) ls s) (none)) 0 (fun _ => 0) K_R_joined 700 (K_R_joined.drop 30) [some (.ref 123), some (.int x1), some (.int x2), none, some (.int x4), none] [] s := rfl
set_option maxRecDepth 100000 in
theorem e_R_joined (x1 : Int32) (x2 : Int32) (x3 : Int32) (s : Mem) : F_R_joined x1 x2 x3 s = xs C_R_joined (fun k ls s => cbr (Nat.beq k 0) (A_R_joined_29 (F_R_joined_29 gF) ls s) (none)) 0 (fun _ => 0) K_R_joined 700 K_R_joined [some (.ref 123), some (.int x1), some (.int x2), some (.int x3), none, none] [] s := rfl
def K_R_doorOther : MC := [(0, .aload 0, 0), (1, .getstatic 1138, 0), (4, .iconst 0, 2), (5, .iload 1, 0), (6, .imul, 0), (7, .iaload, 0), (8, .iload 2, 0), (9, .if_icmp .ne 17, 0), (12, .aload 0, 0), (13, .getstatic 1138, 0), (16, .iconst 0, 2), (17, .iload 1, 0), (18, .imul, 0), (19, .lconst 1, 0), (20, .iadd, 0), (21, .iaload, 0), (22, .goto 35, 0), (25, .aload 0, 0), (26, .getstatic 1138, 0), (29, .iconst 0, 2), (30, .iload 1, 0), (31, .imul, 0), (32, .lconst 1, 0), (33, .iadd, 0), (34, .iaload, 0), (35, .iload 2, 0), (36, .if_icmp .ne 34, 0), (39, .aload 0, 0), (40, .getstatic 1138, 0), (43, .iconst 0, 2), (44, .iload 1, 0), (45, .imul, 0), (46, .iaload, 0), (47, .goto 35, 0), (50, .iconst 0, (-1)), (51, .ireturn, 0)]
noncomputable def F_R_doorOther (x1 : Int32) (x2 : Int32) (s : Mem) : Option (Int32 × Mem) :=
  (ld s 142 (2 * x1)).bind fun v1 =>
  if v1 = x2 then
    (ld s 142 ((2 * x1) + 1)).bind fun v2 =>
    some (v2, s)
  else
  (ld s 142 ((2 * x1) + 1)).bind fun v3 =>
  if v3 = x2 then
    (ld s 142 (2 * x1)).bind fun v4 =>
    some (v4, s)
  else
  some ((-1), s)
noncomputable def A_R_doorOther (av : List Value) (s : Mem) : Option (Int32 × Mem) := match av with
  | [.ref a0, .int a1, .int a2] => cbr (Nat.beq a0 123) (F_R_doorOther a1 a2 s) none
  | _ => none
noncomputable def C_R_doorOther (k : Nat) (av : List Value) (s : Mem) : Option (Int32 × Mem) := none
set_option maxRecDepth 100000 in
theorem e_R_doorOther (x1 : Int32) (x2 : Int32) (s : Mem) : F_R_doorOther x1 x2 s = xs C_R_doorOther (fun k ls s => none) 0 (fun _ => 0) K_R_doorOther 700 K_R_doorOther [some (.ref 123), some (.int x1), some (.int x2)] [] s := rfl
def K_R_mutinousBeside : MC := [(0, .iload 1, 0), (1, .iconst 0, 16), (3, .lrem, 0), (4, .istore 2, 0), (5, .iload 2, 0), (6, .ifCond .le 13, 0), (9, .aload 0, 0), (10, .getstatic 1150, 0), (13, .iload 1, 0), (14, .lconst 1, 0), (15, .isub, 0), (16, .iaload, 0), (17, .goto 14, 0), (20, .lconst 0, 0), (21, .istore 3, 0), (22, .iload 2, 0), (23, .aload 0, 0), (24, .getstatic 1107, 0), (27, .iload 1, 0), (28, .iconst 0, 16), (30, .ldiv, 0), (31, .iaload, 0), (32, .lconst 1, 0), (33, .isub, 0), (34, .if_icmp .ge 34, 0), (37, .iload 3, 0), (38, .aload 0, 0), (39, .getstatic 1150, 0), (42, .iload 1, 0), (43, .lconst 1, 0), (44, .iadd, 0), (45, .iaload, 0), (46, .iadd, 0), (47, .istore 3, 0), (48, .lconst 0, 0), (49, .istore 4, 0), (51, .ret 0, 0), (51, .iload 4, 0), (53, .aload 0, 0), (54, .getfield 1137, 0), (57, .if_icmp .ge 80, 0), (60, .aload 0, 0), (61, .iload 4, 0), (63, .iload 1, 0), (64, .invokeinterface 288 195, 0), (67, .istore 5, 0), (69, .iload 5, 0), (71, .iconst 0, (-1)), (72, .if_icmp .eq 51, 0), (75, .lconst 1, 0), (76, .goto 52, 0), (79, .lconst 0, 0), (80, .istore 6, 0), (82, .lconst 0, 0), (83, .istore 7, 0), (85, .ret 1, 0), (85, .iload 7, 0), (87, .iload 4, 0), (89, .if_icmp .ge 69, 0), (92, .aload 0, 0), (93, .iload 7, 0), (95, .iload 1, 0), (96, .invokeinterface 288 195, 0), (99, .iload 5, 0), (101, .if_icmp .ne 67, 0), (104, .lconst 0, 0), (105, .istore 6, 0), (107, .iinc 7 0, 1), (110, .goto 55, 0), (113, .iload 6, 0), (115, .ifCond .eq 78, 0), (118, .iload 3, 0), (119, .aload 0, 0), (120, .getstatic 1150, 0), (123, .iload 5, 0), (125, .iaload, 0), (126, .iadd, 0), (127, .istore 3, 0), (128, .iinc 4 0, 1), (131, .goto 36, 0), (134, .iload 3, 0), (135, .ireturn, 0)]
noncomputable def F_R_mutinousBeside_54 (k36 : Int32 → Int32 → Int32 → Mem → Option (Int32 × Mem)) : Nat → Int32 → Int32 → Int32 → Int32 → Int32 → Int32 → Mem → Option (Int32 × Mem)
  | 0, _, _, _, _, _, _, _ => none
  | n + 1, x1, x3, x4, x5, x6, x7, s =>
    if x4 ≤ x7 then
      if x6 = 0 then
        k36 x1 x3 (x4 + 1) s
      else
      (ld s 151 x5).bind fun v1 =>
      k36 x1 (x3 + v1) (x4 + 1) s
    else
    (F_R_doorOther x7 x1 s).bind fun z2 =>
    if z2.1 = x5 then
      F_R_mutinousBeside_54 k36 n x1 x3 x4 x5 0 (x7 + 1) z2.2
    else
    F_R_mutinousBeside_54 k36 n x1 x3 x4 x5 x6 (x7 + 1) z2.2
noncomputable def F_R_mutinousBeside_36 : Nat → Int32 → Int32 → Int32 → Mem → Option (Int32 × Mem)
  | 0, _, _, _, _ => none
  | n + 1, x1, x3, x4, s =>
    if (s 123 37) ≤ x4 then
      some (x3, s)
    else
    (F_R_doorOther x4 x1 s).bind fun z1 =>
    if z1.1 = (-1) then
      F_R_mutinousBeside_54 (F_R_mutinousBeside_36 n) gF x1 x3 x4 z1.1 0 0 z1.2
    else
    F_R_mutinousBeside_54 (F_R_mutinousBeside_36 n) gF x1 x3 x4 z1.1 1 0 z1.2
noncomputable def F_R_mutinousBeside (x1 : Int32) (s : Mem) : Option (Int32 × Mem) :=
  if (irm x1 16) ≤ 0 then
    (ld s 127 (x1 / 16)).bind fun v1 =>
    if (v1 - 1) ≤ (irm x1 16) then
      F_R_mutinousBeside_36 gF x1 0 0 s
    else
    (ld s 151 (x1 + 1)).bind fun v2 =>
    F_R_mutinousBeside_36 gF x1 (0 + v2) 0 s
  else
  (ld s 151 (x1 - 1)).bind fun v3 =>
  (ld s 127 (x1 / 16)).bind fun v4 =>
  if (v4 - 1) ≤ (irm x1 16) then
    F_R_mutinousBeside_36 gF x1 v3 0 s
  else
  (ld s 151 (x1 + 1)).bind fun v5 =>
  F_R_mutinousBeside_36 gF x1 (v3 + v5) 0 s
def A_R_mutinousBeside_36 (f : Int32 → Int32 → Int32 → Mem → Option (Int32 × Mem)) (ls : List (Option Value)) (s : Mem) : Option (Int32 × Mem) := match lk ls 0, lk ls 1, lk ls 3, lk ls 4 with
  | some (.ref a0), some (.int a1), some (.int a2), some (.int a3) => cbr (Nat.beq a0 123) (f a1 a2 a3 s) none
  | _, _, _, _ => none
def A_R_mutinousBeside_54 (f : Int32 → Int32 → Int32 → Int32 → Int32 → Int32 → Mem → Option (Int32 × Mem)) (ls : List (Option Value)) (s : Mem) : Option (Int32 × Mem) := match lk ls 0, lk ls 1, lk ls 3, lk ls 4, lk ls 5, lk ls 6, lk ls 7 with
  | some (.ref a0), some (.int a1), some (.int a2), some (.int a3), some (.int a4), some (.int a5), some (.int a6) => cbr (Nat.beq a0 123) (f a1 a2 a3 a4 a5 a6 s) none
  | _, _, _, _, _, _, _ => none
noncomputable def A_R_mutinousBeside (av : List Value) (s : Mem) : Option (Int32 × Mem) := match av with
  | [.ref a0, .int a1] => cbr (Nat.beq a0 123) (F_R_mutinousBeside a1 s) none
  | _ => none
noncomputable def C_R_mutinousBeside (k : Nat) (av : List Value) (s : Mem) : Option (Int32 × Mem) := cbr (Nat.beq k 288) (A_R_doorOther av s) (none)
set_option maxRecDepth 100000 in
theorem e_R_mutinousBeside_54 (k36 : Int32 → Int32 → Int32 → Mem → Option (Int32 × Mem)) (n : Nat) (x1 : Int32) (x3 : Int32) (x4 : Int32) (x5 : Int32) (x6 : Int32) (x7 : Int32) (s : Mem) : F_R_mutinousBeside_54 k36 (n + 1) x1 x3 x4 x5 x6 x7 s = xs C_R_mutinousBeside (fun k ls s => cbr (Nat.beq k 0) (A_R_mutinousBeside_36 (k36) ls s) (cbr (Nat.beq k 1) (A_R_mutinousBeside_54 (F_R_mutinousBeside_54 k36 n) ls s) (none))) 0 (fun _ => 0) K_R_mutinousBeside 700 (K_R_mutinousBeside.drop 56) [some (.ref 123), some (.int x1), none, some (.int x3), some (.int x4), some (.int x5), some (.int x6), some (.int x7)] [] s := rfl
set_option maxRecDepth 100000 in
theorem e_R_mutinousBeside_36  (n : Nat) (x1 : Int32) (x3 : Int32) (x4 : Int32) (s : Mem) : F_R_mutinousBeside_36 (n + 1) x1 x3 x4 s = xs C_R_mutinousBeside (fun k ls s => cbr (Nat.beq k 1) (A_R_mutinousBeside_54 (F_R_mutinousBeside_54 (F_R_mutinousBeside_36 n) gF) ls s) (none)) 0 (fun _ => 0) K_R_mutinousBeside 700 (K_R_mutinousBeside.drop 37) [some (.ref 123), some (.int x1), none, some (.int x3), some (.int x4), none, none, none] [] s := rfl
set_option maxRecDepth 100000 in
theorem e_R_mutinousBeside (x1 : Int32) (s : Mem) : F_R_mutinousBeside x1 s = xs C_R_mutinousBeside (fun k ls s => cbr (Nat.beq k 0) (A_R_mutinousBeside_36 (F_R_mutinousBeside_36 gF) ls s) (none)) 0 (fun _ => 0) K_R_mutinousBeside 700 K_R_mutinousBeside [some (.ref 123), some (.int x1), none, none, none, none, none, none] [] s := rfl
def K_R_mutinyFrom : MC := [(0, .lconst 0, 0), (1, .istore 3, 0), (2, .ret 0, 0), (2, .iload 3, 0), (3, .iconst 0, 96), (5, .if_icmp .ge 27, 0), (8, .aload 0, 0), (9, .getstatic 1150, 0), (12, .iload 3, 0), (13, .iload 3, 0), (14, .iconst 0, 16), (16, .ldiv, 0), (17, .iload 1, 0), (18, .if_icmp .ne 23, 0), (21, .aload 0, 0), (22, .iload 2, 0), (23, .iload 3, 0), (24, .iconst 0, 16), (26, .lrem, 0), (27, .invokeinterface 193 195, 0), (30, .ifCond .eq 23, 0), (33, .lconst 1, 0), (34, .goto 24, 0), (37, .lconst 0, 0), (38, .iastore, 0), (39, .iinc 3 0, 1), (42, .goto 2, 0), (45, .lconst 1, 0), (46, .istore 3, 0), (47, .ret 1, 0), (47, .iload 3, 0), (48, .ifCond .eq 87, 0), (51, .lconst 0, 0), (52, .istore 3, 0), (53, .lconst 0, 0), (54, .istore 4, 0), (56, .ret 2, 0), (56, .iload 4, 0), (58, .iconst 0, 16), (60, .aload 0, 0), (61, .getfield 1106, 0), (64, .imul, 0), (65, .if_icmp .ge 86, 0), (68, .iload 4, 0), (70, .iconst 0, 16), (72, .lrem, 0), (73, .aload 0, 0), (74, .getstatic 1107, 0), (77, .iload 4, 0), (79, .iconst 0, 16), (81, .ldiv, 0), (82, .iaload, 0), (83, .if_icmp .ge 84, 0), (86, .aload 0, 0), (87, .getstatic 1150, 0), (90, .iload 4, 0), (92, .iaload, 0), (93, .lconst 1, 0), (94, .if_icmp .eq 84, 0), (97, .aload 0, 0), (98, .iload 4, 0), (100, .invokeinterface 202 194, 0), (103, .ifCond .ne 84, 0), (106, .aload 0, 0), (107, .iload 4, 0), (109, .invokeinterface 289 194, 0), (112, .aload 0, 0), (113, .lconst 1, 0), (114, .aload 0, 0), (115, .getstatic 1101, 0), (118, .iconst 0, 197), (121, .iload 4, 0), (123, .iadd, 0), (124, .iaload, 0), (125, .invokeinterface 189 195, 0), (128, .if_icmp .ge 77, 0), (131, .goto 84, 0), (134, .aload 0, 0), (135, .getstatic 1150, 0), (138, .iload 4, 0), (140, .lconst 1, 0), (141, .iastore, 0), (142, .lconst 1, 0), (143, .istore 3, 0), (144, .iinc 4 0, 1), (147, .goto 36, 0), (150, .goto 29, 0), (153, .lconst 0, 0), (154, .istore 4, 0), (156, .lconst 0, 0), (157, .istore 5, 0), (159, .ret 3, 0), (159, .iload 5, 0), (161, .iconst 0, 96), (163, .if_icmp .ge 104, 0), (166, .iload 4, 0), (168, .aload 0, 0), (169, .getstatic 1150, 0), (172, .iload 5, 0), (174, .iaload, 0), (175, .iadd, 0), (176, .istore 4, 0), (178, .iinc 5 0, 1), (181, .goto 91, 0), (184, .iload 4, 0), (186, .ireturn, 0)]
noncomputable def F_R_mutinyFrom_34 (k28 : Int32 → Mem → Option (Int32 × Mem)) : Nat → Int32 → Int32 → Mem → Option (Int32 × Mem)
  | 0, _, _, _ => none
  | n + 1, x3, x4, s =>
    if (16 * (s 123 6)) ≤ x4 then
      k28 x3 s
    else
    (ld s 127 (x4 / 16)).bind fun v1 =>
    if v1 ≤ (irm x4 16) then
      F_R_mutinyFrom_34 k28 n x3 (x4 + 1) s
    else
    (ld s 151 x4).bind fun v2 =>
    if v2 = 1 then
      F_R_mutinyFrom_34 k28 n x3 (x4 + 1) s
    else
    (F_R_isGone x4 s).bind fun z3 =>
    if z3.1 = 0 then
      (F_R_mutinousBeside x4 z3.2).bind fun z4 =>
      (ld z4.2 124 (197 + x4)).bind fun v5 =>
      (F_R_greater 1 v5 z4.2).bind fun z6 =>
      if z6.1 ≤ z4.1 then
        (sd z6.2 151 x4 1).bind fun s7 =>
        F_R_mutinyFrom_34 k28 n 1 (x4 + 1) s7
      else
      F_R_mutinyFrom_34 k28 n x3 (x4 + 1) z6.2
    else
    F_R_mutinyFrom_34 k28 n x3 (x4 + 1) z3.2
noncomputable def F_R_mutinyFrom_88 : Nat → Int32 → Int32 → Mem → Option (Int32 × Mem)
  | 0, _, _, _ => none
  | n + 1, x4, x5, s =>
    if 96 ≤ x5 then
      some (x4, s)
    else
    (ld s 151 x5).bind fun v1 =>
    F_R_mutinyFrom_88 n (x4 + v1) (x5 + 1) s
noncomputable def F_R_mutinyFrom_28 : Nat → Int32 → Mem → Option (Int32 × Mem)
  | 0, _, _ => none
  | n + 1, x3, s =>
    if x3 = 0 then
      F_R_mutinyFrom_88 gF 0 0 s
    else
    F_R_mutinyFrom_34 (F_R_mutinyFrom_28 n) gF 0 0 s
noncomputable def F_R_mutinyFrom_2 : Nat → Int32 → Int32 → Int32 → Mem → Option (Int32 × Mem)
  | 0, _, _, _, _ => none
  | n + 1, x1, x2, x3, s =>
    if 96 ≤ x3 then
      F_R_mutinyFrom_28 gF 1 s
    else
    if (x3 / 16) = x1 then
      (F_R_has x2 (irm x3 16) s).bind fun z1 =>
      if z1.1 = 0 then
        (sd z1.2 151 x3 0).bind fun s2 =>
        F_R_mutinyFrom_2 n x1 x2 (x3 + 1) s2
      else
      (sd z1.2 151 x3 1).bind fun s3 =>
      F_R_mutinyFrom_2 n x1 x2 (x3 + 1) s3
    else
    (sd s 151 x3 0).bind fun s4 =>
    F_R_mutinyFrom_2 n x1 x2 (x3 + 1) s4
noncomputable def F_R_mutinyFrom (x1 : Int32) (x2 : Int32) (s : Mem) : Option (Int32 × Mem) :=
  F_R_mutinyFrom_2 gF x1 x2 0 s
def A_R_mutinyFrom_2 (f : Int32 → Int32 → Int32 → Mem → Option (Int32 × Mem)) (ls : List (Option Value)) (s : Mem) : Option (Int32 × Mem) := match lk ls 0, lk ls 1, lk ls 2, lk ls 3 with
  | some (.ref a0), some (.int a1), some (.int a2), some (.int a3) => cbr (Nat.beq a0 123) (f a1 a2 a3 s) none
  | _, _, _, _ => none
def A_R_mutinyFrom_28 (f : Int32 → Mem → Option (Int32 × Mem)) (ls : List (Option Value)) (s : Mem) : Option (Int32 × Mem) := match lk ls 0, lk ls 3 with
  | some (.ref a0), some (.int a1) => cbr (Nat.beq a0 123) (f a1 s) none
  | _, _ => none
def A_R_mutinyFrom_34 (f : Int32 → Int32 → Mem → Option (Int32 × Mem)) (ls : List (Option Value)) (s : Mem) : Option (Int32 × Mem) := match lk ls 0, lk ls 3, lk ls 4 with
  | some (.ref a0), some (.int a1), some (.int a2) => cbr (Nat.beq a0 123) (f a1 a2 s) none
  | _, _, _ => none
def A_R_mutinyFrom_88 (f : Int32 → Int32 → Mem → Option (Int32 × Mem)) (ls : List (Option Value)) (s : Mem) : Option (Int32 × Mem) := match lk ls 0, lk ls 4, lk ls 5 with
  | some (.ref a0), some (.int a1), some (.int a2) => cbr (Nat.beq a0 123) (f a1 a2 s) none
  | _, _, _ => none
noncomputable def A_R_mutinyFrom (av : List Value) (s : Mem) : Option (Int32 × Mem) := match av with
  | [.ref a0, .int a1, .int a2] => cbr (Nat.beq a0 123) (F_R_mutinyFrom a1 a2 s) none
  | _ => none
noncomputable def C_R_mutinyFrom (k : Nat) (av : List Value) (s : Mem) : Option (Int32 × Mem) := cbr (Nat.beq k 193) (A_R_has av s) (cbr (Nat.beq k 202) (A_R_isGone av s) (cbr (Nat.beq k 289) (A_R_mutinousBeside av s) (cbr (Nat.beq k 189) (A_R_greater av s) (none))))
set_option maxRecDepth 100000 in
theorem e_R_mutinyFrom_34 (k28 : Int32 → Mem → Option (Int32 × Mem)) (n : Nat) (x3 : Int32) (x4 : Int32) (s : Mem) : F_R_mutinyFrom_34 k28 (n + 1) x3 x4 s = xs C_R_mutinyFrom (fun k ls s => cbr (Nat.beq k 1) (A_R_mutinyFrom_28 (k28) ls s) (cbr (Nat.beq k 2) (A_R_mutinyFrom_34 (F_R_mutinyFrom_34 k28 n) ls s) (none))) 0 (fun _ => 0) K_R_mutinyFrom 700 (K_R_mutinyFrom.drop 37) [some (.ref 123), none, none, some (.int x3), some (.int x4), none] [] s := rfl
set_option maxRecDepth 100000 in
theorem e_R_mutinyFrom_88  (n : Nat) (x4 : Int32) (x5 : Int32) (s : Mem) : F_R_mutinyFrom_88 (n + 1) x4 x5 s = xs C_R_mutinyFrom (fun k ls s => cbr (Nat.beq k 3) (A_R_mutinyFrom_88 (F_R_mutinyFrom_88 n) ls s) (none)) 0 (fun _ => 0) K_R_mutinyFrom 700 (K_R_mutinyFrom.drop 92) [some (.ref 123), none, none, none, some (.int x4), some (.int x5)] [] s := rfl
set_option maxRecDepth 100000 in
theorem e_R_mutinyFrom_28  (n : Nat) (x3 : Int32) (s : Mem) : F_R_mutinyFrom_28 (n + 1) x3 s = xs C_R_mutinyFrom (fun k ls s => cbr (Nat.beq k 2) (A_R_mutinyFrom_34 (F_R_mutinyFrom_34 (F_R_mutinyFrom_28 n) gF) ls s) (cbr (Nat.beq k 3) (A_R_mutinyFrom_88 (F_R_mutinyFrom_88 gF) ls s) (none))) 0 (fun _ => 0) K_R_mutinyFrom 700 (K_R_mutinyFrom.drop 30) [some (.ref 123), none, none, some (.int x3), none, none] [] s := rfl
set_option maxRecDepth 100000 in
theorem e_R_mutinyFrom_2  (n : Nat) (x1 : Int32) (x2 : Int32) (x3 : Int32) (s : Mem) : F_R_mutinyFrom_2 (n + 1) x1 x2 x3 s = xs C_R_mutinyFrom (fun k ls s => cbr (Nat.beq k 0) (A_R_mutinyFrom_2 (F_R_mutinyFrom_2 n) ls s) (cbr (Nat.beq k 1) (A_R_mutinyFrom_28 (F_R_mutinyFrom_28 gF) ls s) (none))) 0 (fun _ => 0) K_R_mutinyFrom 700 (K_R_mutinyFrom.drop 3) [some (.ref 123), some (.int x1), some (.int x2), some (.int x3), none, none] [] s := rfl
set_option maxRecDepth 100000 in
theorem e_R_mutinyFrom (x1 : Int32) (x2 : Int32) (s : Mem) : F_R_mutinyFrom x1 x2 s = xs C_R_mutinyFrom (fun k ls s => cbr (Nat.beq k 0) (A_R_mutinyFrom_2 (F_R_mutinyFrom_2 gF) ls s) (none)) 0 (fun _ => 0) K_R_mutinyFrom 700 K_R_mutinyFrom [some (.ref 123), some (.int x1), some (.int x2), none, none, none] [] s := rfl
def K_R_spreads : MC := [(0, .iload 2, 0), (1, .istore 4, 0), (3, .lconst 1, 0), (4, .istore 5, 0), (6, .ret 0, 0), (6, .iload 5, 0), (8, .ifCond .eq 76, 0), (11, .lconst 0, 0), (12, .istore 5, 0), (14, .lconst 0, 0), (15, .istore 6, 0), (17, .ret 1, 0), (17, .iload 6, 0), (19, .aload 0, 0), (20, .getstatic 1107, 0), (23, .iload 1, 0), (24, .iaload, 0), (25, .if_icmp .ge 75, 0), (28, .aload 0, 0), (29, .iload 4, 0), (31, .iload 6, 0), (33, .invokeinterface 193 195, 0), (36, .ifCond .ne 73, 0), (39, .aload 0, 0), (40, .iload 3, 0), (41, .iload 6, 0), (43, .invokeinterface 193 195, 0), (46, .ifCond .ne 29, 0), (49, .goto 73, 0), (52, .iload 4, 0), (54, .iload 6, 0), (56, .lconst 1, 0), (57, .iadd, 0), (58, .ishr, 0), (59, .lconst 1, 0), (60, .iand, 0), (61, .iload 6, 0), (63, .ifCond .le 46, 0), (66, .iload 4, 0), (68, .iload 6, 0), (70, .lconst 1, 0), (71, .isub, 0), (72, .ishr, 0), (73, .lconst 1, 0), (74, .iand, 0), (75, .goto 47, 0), (78, .lconst 0, 0), (79, .iadd, 0), (80, .istore 7, 0), (82, .iload 7, 0), (84, .aload 0, 0), (85, .lconst 1, 0), (86, .aload 0, 0), (87, .getstatic 1101, 0), (90, .iconst 0, 197), (93, .iconst 0, 16), (95, .iload 1, 0), (96, .imul, 0), (97, .iadd, 0), (98, .iload 6, 0), (100, .iadd, 0), (101, .iaload, 0), (102, .invokeinterface 189 195, 0), (105, .if_icmp .ge 65, 0), (108, .goto 73, 0), (111, .iload 4, 0), (113, .lconst 1, 0), (114, .iload 6, 0), (116, .ishl, 0), (117, .ior, 0), (118, .istore 4, 0), (120, .lconst 1, 0), (121, .istore 5, 0), (123, .iinc 6 0, 1), (126, .goto 11, 0), (129, .goto 4, 0), (132, .iload 4, 0), (134, .ireturn, 0)]
noncomputable def F_R_spreads_10 (k4 : Int32 → Int32 → Int32 → Int32 → Mem → Option (Int32 × Mem)) : Nat → Int32 → Int32 → Int32 → Int32 → Int32 → Mem → Option (Int32 × Mem)
  | 0, _, _, _, _, _, _ => none
  | n + 1, x1, x3, x4, x5, x6, s =>
    (ld s 127 x1).bind fun v1 =>
    if v1 ≤ x6 then
      k4 x1 x3 x4 x5 s
    else
    (F_R_has x4 x6 s).bind fun z2 =>
    if z2.1 = 0 then
      (F_R_has x3 x6 z2.2).bind fun z3 =>
      if z3.1 = 0 then
        F_R_spreads_10 k4 n x1 x3 x4 x5 (x6 + 1) z3.2
      else
      if x6 ≤ 0 then
        let y4 : Int32 := (((shr x4 (x6 + 1)) &&& 1) + 0)
        (ld z3.2 124 ((197 + (16 * x1)) + x6)).bind fun v5 =>
        (F_R_greater 1 v5 z3.2).bind fun z6 =>
        if z6.1 ≤ y4 then
          F_R_spreads_10 k4 n x1 x3 (x4 ||| (shl 1 x6)) 1 (x6 + 1) z6.2
        else
        F_R_spreads_10 k4 n x1 x3 x4 x5 (x6 + 1) z6.2
      else
      let y7 : Int32 := (((shr x4 (x6 + 1)) &&& 1) + ((shr x4 (x6 - 1)) &&& 1))
      (ld z3.2 124 ((197 + (16 * x1)) + x6)).bind fun v8 =>
      (F_R_greater 1 v8 z3.2).bind fun z9 =>
      if z9.1 ≤ y7 then
        F_R_spreads_10 k4 n x1 x3 (x4 ||| (shl 1 x6)) 1 (x6 + 1) z9.2
      else
      F_R_spreads_10 k4 n x1 x3 x4 x5 (x6 + 1) z9.2
    else
    F_R_spreads_10 k4 n x1 x3 x4 x5 (x6 + 1) z2.2
noncomputable def F_R_spreads_4 : Nat → Int32 → Int32 → Int32 → Int32 → Mem → Option (Int32 × Mem)
  | 0, _, _, _, _, _ => none
  | n + 1, x1, x3, x4, x5, s =>
    if x5 = 0 then
      some (x4, s)
    else
    F_R_spreads_10 (F_R_spreads_4 n) gF x1 x3 x4 0 0 s
noncomputable def F_R_spreads (x1 : Int32) (x2 : Int32) (x3 : Int32) (s : Mem) : Option (Int32 × Mem) :=
  F_R_spreads_4 gF x1 x3 x2 1 s
def A_R_spreads_4 (f : Int32 → Int32 → Int32 → Int32 → Mem → Option (Int32 × Mem)) (ls : List (Option Value)) (s : Mem) : Option (Int32 × Mem) := match lk ls 0, lk ls 1, lk ls 3, lk ls 4, lk ls 5 with
  | some (.ref a0), some (.int a1), some (.int a2), some (.int a3), some (.int a4) => cbr (Nat.beq a0 123) (f a1 a2 a3 a4 s) none
  | _, _, _, _, _ => none
def A_R_spreads_10 (f : Int32 → Int32 → Int32 → Int32 → Int32 → Mem → Option (Int32 × Mem)) (ls : List (Option Value)) (s : Mem) : Option (Int32 × Mem) := match lk ls 0, lk ls 1, lk ls 3, lk ls 4, lk ls 5, lk ls 6 with
  | some (.ref a0), some (.int a1), some (.int a2), some (.int a3), some (.int a4), some (.int a5) => cbr (Nat.beq a0 123) (f a1 a2 a3 a4 a5 s) none
  | _, _, _, _, _, _ => none
noncomputable def A_R_spreads (av : List Value) (s : Mem) : Option (Int32 × Mem) := match av with
  | [.ref a0, .int a1, .int a2, .int a3] => cbr (Nat.beq a0 123) (F_R_spreads a1 a2 a3 s) none
  | _ => none
noncomputable def C_R_spreads (k : Nat) (av : List Value) (s : Mem) : Option (Int32 × Mem) := cbr (Nat.beq k 193) (A_R_has av s) (cbr (Nat.beq k 189) (A_R_greater av s) (none))
set_option maxRecDepth 100000 in
theorem e_R_spreads_10 (k4 : Int32 → Int32 → Int32 → Int32 → Mem → Option (Int32 × Mem)) (n : Nat) (x1 : Int32) (x3 : Int32) (x4 : Int32) (x5 : Int32) (x6 : Int32) (s : Mem) : F_R_spreads_10 k4 (n + 1) x1 x3 x4 x5 x6 s = xs C_R_spreads (fun k ls s => cbr (Nat.beq k 0) (A_R_spreads_4 (k4) ls s) (cbr (Nat.beq k 1) (A_R_spreads_10 (F_R_spreads_10 k4 n) ls s) (none))) 0 (fun _ => 0) K_R_spreads 700 (K_R_spreads.drop 12) [some (.ref 123), some (.int x1), none, some (.int x3), some (.int x4), some (.int x5), some (.int x6), none] [] s := rfl
set_option maxRecDepth 100000 in
theorem e_R_spreads_4  (n : Nat) (x1 : Int32) (x3 : Int32) (x4 : Int32) (x5 : Int32) (s : Mem) : F_R_spreads_4 (n + 1) x1 x3 x4 x5 s = xs C_R_spreads (fun k ls s => cbr (Nat.beq k 1) (A_R_spreads_10 (F_R_spreads_10 (F_R_spreads_4 n) gF) ls s) (none)) 0 (fun _ => 0) K_R_spreads 700 (K_R_spreads.drop 5) [some (.ref 123), some (.int x1), none, some (.int x3), some (.int x4), some (.int x5), none, none] [] s := rfl
set_option maxRecDepth 100000 in
theorem e_R_spreads (x1 : Int32) (x2 : Int32) (x3 : Int32) (s : Mem) : F_R_spreads x1 x2 x3 s = xs C_R_spreads (fun k ls s => cbr (Nat.beq k 0) (A_R_spreads_4 (F_R_spreads_4 gF) ls s) (none)) 0 (fun _ => 0) K_R_spreads 700 K_R_spreads [some (.ref 123), some (.int x1), some (.int x2), some (.int x3), none, none, none, none] [] s := rfl
def K_R_fewestBegin : MC := [(0, .aload 0, 0), (1, .iload 1, 0), (2, .invokeinterface 277 194, 0), (5, .istore 2, 0), (6, .aload 0, 0), (7, .iload 2, 0), (8, .invokeinterface 192 194, 0), (11, .istore 3, 0), (12, .lconst 0, 0), (13, .istore 4, 0), (15, .ret 0, 0), (15, .iload 4, 0), (17, .lconst 1, 0), (18, .aload 0, 0), (19, .getstatic 1107, 0), (22, .iload 1, 0), (23, .iaload, 0), (24, .ishl, 0), (25, .if_icmp .ge 43, 0), (28, .iload 4, 0), (30, .iload 2, 0), (31, .iconst 0, (-1)), (32, .ixor, 0), (33, .iand, 0), (34, .ifCond .ne 41, 0), (37, .aload 0, 0), (38, .iload 4, 0), (40, .invokeinterface 192 194, 0), (43, .iload 3, 0), (44, .if_icmp .ge 41, 0), (47, .aload 0, 0), (48, .iload 1, 0), (49, .iload 4, 0), (51, .iload 2, 0), (52, .invokeinterface 291 196, 0), (55, .iload 2, 0), (56, .if_icmp .ne 41, 0), (59, .aload 0, 0), (60, .iload 4, 0), (62, .invokeinterface 192 194, 0), (65, .istore 3, 0), (66, .iinc 4 0, 1), (69, .goto 10, 0), (72, .iload 3, 0), (73, .ireturn, 0)]
noncomputable def F_R_fewestBegin_10 : Nat → Int32 → Int32 → Int32 → Int32 → Mem → Option (Int32 × Mem)
  | 0, _, _, _, _, _ => none
  | n + 1, x1, x2, x3, x4, s =>
    (ld s 127 x1).bind fun v1 =>
    if (shl 1 v1) ≤ x4 then
      some (x3, s)
    else
    if (x4 &&& (x2 ^^^ (-1))) = 0 then
      (F_R_onesOf x4 s).bind fun z2 =>
      if x3 ≤ z2.1 then
        F_R_fewestBegin_10 n x1 x2 x3 (x4 + 1) z2.2
      else
      (F_R_spreads x1 x4 x2 z2.2).bind fun z3 =>
      if z3.1 = x2 then
        (F_R_onesOf x4 z3.2).bind fun z4 =>
        F_R_fewestBegin_10 n x1 x2 z4.1 (x4 + 1) z4.2
      else
      F_R_fewestBegin_10 n x1 x2 x3 (x4 + 1) z3.2
    else
    F_R_fewestBegin_10 n x1 x2 x3 (x4 + 1) s
noncomputable def F_R_fewestBegin (x1 : Int32) (s : Mem) : Option (Int32 × Mem) :=
  (F_R_presentSet x1 s).bind fun z1 =>
  (F_R_onesOf z1.1 z1.2).bind fun z2 =>
  F_R_fewestBegin_10 gF x1 z1.1 z2.1 0 z2.2
def A_R_fewestBegin_10 (f : Int32 → Int32 → Int32 → Int32 → Mem → Option (Int32 × Mem)) (ls : List (Option Value)) (s : Mem) : Option (Int32 × Mem) := match lk ls 0, lk ls 1, lk ls 2, lk ls 3, lk ls 4 with
  | some (.ref a0), some (.int a1), some (.int a2), some (.int a3), some (.int a4) => cbr (Nat.beq a0 123) (f a1 a2 a3 a4 s) none
  | _, _, _, _, _ => none
noncomputable def A_R_fewestBegin (av : List Value) (s : Mem) : Option (Int32 × Mem) := match av with
  | [.ref a0, .int a1] => cbr (Nat.beq a0 123) (F_R_fewestBegin a1 s) none
  | _ => none
noncomputable def C_R_fewestBegin (k : Nat) (av : List Value) (s : Mem) : Option (Int32 × Mem) := cbr (Nat.beq k 277) (A_R_presentSet av s) (cbr (Nat.beq k 192) (A_R_onesOf av s) (cbr (Nat.beq k 291) (A_R_spreads av s) (none)))
set_option maxRecDepth 100000 in
theorem e_R_fewestBegin_10  (n : Nat) (x1 : Int32) (x2 : Int32) (x3 : Int32) (x4 : Int32) (s : Mem) : F_R_fewestBegin_10 (n + 1) x1 x2 x3 x4 s = xs C_R_fewestBegin (fun k ls s => cbr (Nat.beq k 0) (A_R_fewestBegin_10 (F_R_fewestBegin_10 n) ls s) (none)) 0 (fun _ => 0) K_R_fewestBegin 700 (K_R_fewestBegin.drop 11) [some (.ref 123), some (.int x1), some (.int x2), some (.int x3), some (.int x4)] [] s := rfl
set_option maxRecDepth 100000 in
theorem e_R_fewestBegin (x1 : Int32) (s : Mem) : F_R_fewestBegin x1 s = xs C_R_fewestBegin (fun k ls s => cbr (Nat.beq k 0) (A_R_fewestBegin_10 (F_R_fewestBegin_10 gF) ls s) (none)) 0 (fun _ => 0) K_R_fewestBegin 700 K_R_fewestBegin [some (.ref 123), some (.int x1), none, none, none] [] s := rfl
def K_R_mutiny : MC := [(0, .aload 0, 0), (1, .lconst 0, 0), (2, .putfield 1100, 0), (5, .aload 0, 0), (6, .iload 1, 0), (7, .invokeinterface 200 194, 0), (10, .ifCond .ne 9, 0), (13, .iconst 0, (-1)), (14, .ireturn, 0), (15, .iload 2, 0), (16, .iconst 0, (-1)), (17, .if_icmp .ne 16, 0), (20, .aload 0, 0), (21, .iload 1, 0), (22, .invokeinterface 292 194, 0), (25, .ireturn, 0), (26, .aload 0, 0), (27, .iload 2, 0), (28, .lconst 0, 0), (29, .lconst 1, 0), (30, .aload 0, 0), (31, .getstatic 1107, 0), (34, .iload 1, 0), (35, .iaload, 0), (36, .ishl, 0), (37, .lconst 1, 0), (38, .isub, 0), (39, .invokeinterface 187 196, 0), (42, .ifCond .eq 42, 0), (45, .iload 2, 0), (46, .aload 0, 0), (47, .iload 1, 0), (48, .invokeinterface 277 194, 0), (51, .iconst 0, (-1)), (52, .ixor, 0), (53, .iand, 0), (54, .ifCond .ne 42, 0), (57, .aload 0, 0), (58, .iload 1, 0), (59, .iload 2, 0), (60, .invokeinterface 290 195, 0), (63, .goto 43, 0), (66, .iconst 0, (-1)), (67, .ireturn, 0)]
noncomputable def F_R_mutiny (x1 : Int32) (x2 : Int32) (s : Mem) : Option (Int32 × Mem) :=
  let s1 : Mem := mw s 123 0 0
  (F_R_isFlight x1 s1).bind fun z2 =>
  if z2.1 = 0 then
    some ((-1), z2.2)
  else
  if x2 = (-1) then
    (F_R_fewestBegin x1 z2.2).bind fun z3 =>
    some (z3.1, z3.2)
  else
  (ld z2.2 127 x1).bind fun v4 =>
  (F_R_isIn x2 0 ((shl 1 v4) - 1) z2.2).bind fun z5 =>
  if z5.1 = 0 then
    some ((-1), z5.2)
  else
  (F_R_presentSet x1 z5.2).bind fun z6 =>
  if (x2 &&& (z6.1 ^^^ (-1))) = 0 then
    (F_R_mutinyFrom x1 x2 z6.2).bind fun z7 =>
    some (z7.1, z7.2)
  else
  some ((-1), z6.2)
noncomputable def A_R_mutiny (av : List Value) (s : Mem) : Option (Int32 × Mem) := match av with
  | [.ref a0, .int a1, .int a2] => cbr (Nat.beq a0 123) (F_R_mutiny a1 a2 s) none
  | _ => none
noncomputable def C_R_mutiny (k : Nat) (av : List Value) (s : Mem) : Option (Int32 × Mem) := cbr (Nat.beq k 200) (A_R_isFlight av s) (cbr (Nat.beq k 292) (A_R_fewestBegin av s) (cbr (Nat.beq k 187) (A_R_isIn av s) (cbr (Nat.beq k 277) (A_R_presentSet av s) (cbr (Nat.beq k 290) (A_R_mutinyFrom av s) (none)))))
set_option maxRecDepth 100000 in
theorem e_R_mutiny (x1 : Int32) (x2 : Int32) (s : Mem) : F_R_mutiny x1 x2 s = xs C_R_mutiny (fun k ls s => none) 0 (fun _ => 0) K_R_mutiny 700 K_R_mutiny [some (.ref 123), some (.int x1), some (.int x2)] [] s := rfl
def K_R_drill : MC := [(0, .aload 0, 0), (1, .lconst 0, 0), (2, .putfield 1100, 0), (5, .aload 0, 0), (6, .iload 1, 0), (7, .lconst 0, 0), (8, .iconst 0, 76543210), (11, .invokeinterface 187 196, 0), (14, .ifCond .ne 11, 0), (17, .lconst 0, 0), (18, .lreturn, 0), (19, .lconst 0, 0), (20, .istore 2, 0), (21, .iload 1, 0), (22, .istore 3, 0), (23, .lconst 0, 0), (24, .istore 4, 0), (26, .ret 0, 0), (26, .iload 4, 0), (28, .iconst 0, 8), (30, .if_icmp .ge 42, 0), (33, .iload 3, 0), (34, .iconst 0, 10), (36, .lrem, 0), (37, .iconst 0, 7), (39, .if_icmp .le 28, 0), (42, .lconst 0, 0), (43, .lreturn, 0), (44, .iload 2, 0), (45, .lconst 1, 0), (46, .iload 3, 0), (47, .iconst 0, 10), (49, .lrem, 0), (50, .ishl, 0), (51, .ior, 0), (52, .istore 2, 0), (53, .iload 3, 0), (54, .iconst 0, 10), (56, .ldiv, 0), (57, .istore 3, 0), (58, .iinc 4 0, 1), (61, .goto 17, 0), (64, .iload 2, 0), (65, .iconst 0, 255), (68, .if_icmp .eq 47, 0), (71, .lconst 0, 0), (72, .lreturn, 0), (73, .aload 0, 0), (74, .iload 1, 0), (75, .iconst 0, 1234567), (78, .isub, 0), (79, .putfield 1151, 0), (82, .lconst 1, 0), (83, .lreturn, 0)]
noncomputable def F_R_drill_17 : Nat → Int32 → Int32 → Int32 → Int32 → Mem → Option (Int32 × Mem)
  | 0, _, _, _, _, _ => none
  | n + 1, x1, x2, x3, x4, s =>
    if 8 ≤ x4 then
      if x2 = 255 then
        let s1 : Mem := mw s 123 51 (x1 - 1234567)
        some (1, s1)
      else
      some (0, s)
    else
    if (irm x3 10) ≤ 7 then
      let y2 : Int32 := (x2 ||| (shl 1 (irm x3 10)))
      F_R_drill_17 n x1 y2 (x3 / 10) (x4 + 1) s
    else
    some (0, s)
noncomputable def F_R_drill (x1 : Int32) (s : Mem) : Option (Int32 × Mem) :=
  let s1 : Mem := mw s 123 0 0
  (F_R_isIn x1 0 76543210 s1).bind fun z2 =>
  if z2.1 = 0 then
    some (0, z2.2)
  else
  F_R_drill_17 gF x1 0 x1 0 z2.2
def A_R_drill_17 (f : Int32 → Int32 → Int32 → Int32 → Mem → Option (Int32 × Mem)) (ls : List (Option Value)) (s : Mem) : Option (Int32 × Mem) := match lk ls 0, lk ls 1, lk ls 2, lk ls 3, lk ls 4 with
  | some (.ref a0), some (.int a1), some (.int a2), some (.int a3), some (.int a4) => cbr (Nat.beq a0 123) (f a1 a2 a3 a4 s) none
  | _, _, _, _, _ => none
noncomputable def A_R_drill (av : List Value) (s : Mem) : Option (Int32 × Mem) := match av with
  | [.ref a0, .int a1] => cbr (Nat.beq a0 123) (F_R_drill a1 s) none
  | _ => none
noncomputable def C_R_drill (k : Nat) (av : List Value) (s : Mem) : Option (Int32 × Mem) := cbr (Nat.beq k 187) (A_R_isIn av s) (none)
set_option maxRecDepth 100000 in
theorem e_R_drill_17  (n : Nat) (x1 : Int32) (x2 : Int32) (x3 : Int32) (x4 : Int32) (s : Mem) : F_R_drill_17 (n + 1) x1 x2 x3 x4 s = xs C_R_drill (fun k ls s => cbr (Nat.beq k 0) (A_R_drill_17 (F_R_drill_17 n) ls s) (none)) 0 (fun _ => 0) K_R_drill 700 (K_R_drill.drop 18) [some (.ref 123), some (.int x1), some (.int x2), some (.int x3), some (.int x4)] [] s := rfl
set_option maxRecDepth 100000 in
theorem e_R_drill (x1 : Int32) (s : Mem) : F_R_drill x1 s = xs C_R_drill (fun k ls s => cbr (Nat.beq k 0) (A_R_drill_17 (F_R_drill_17 gF) ls s) (none)) 0 (fun _ => 0) K_R_drill 700 K_R_drill [some (.ref 123), some (.int x1), none, none, none] [] s := rfl
def K_R_roundOf : MC := [(0, .lconst 1, 0), (1, .istore 2, 0), (2, .aload 0, 0), (3, .getstatic 1152, 0), (6, .iload 1, 0), (7, .iaload, 0), (8, .istore 3, 0), (9, .ret 0, 0), (9, .iload 3, 0), (10, .iload 1, 0), (11, .if_icmp .eq 21, 0), (14, .iload 2, 0), (15, .lconst 1, 0), (16, .iadd, 0), (17, .istore 2, 0), (18, .aload 0, 0), (19, .getstatic 1152, 0), (22, .iload 3, 0), (23, .iaload, 0), (24, .istore 3, 0), (25, .goto 7, 0), (28, .iload 2, 0), (29, .ireturn, 0)]
noncomputable def F_R_roundOf_7 : Nat → Int32 → Int32 → Int32 → Mem → Option (Int32 × Mem)
  | 0, _, _, _, _ => none
  | n + 1, x1, x2, x3, s =>
    if x3 = x1 then
      some (x2, s)
    else
    (ld s 152 x3).bind fun v1 =>
    F_R_roundOf_7 n x1 (x2 + 1) v1 s
noncomputable def F_R_roundOf (x1 : Int32) (s : Mem) : Option (Int32 × Mem) :=
  (ld s 152 x1).bind fun v1 =>
  F_R_roundOf_7 gF x1 1 v1 s
def A_R_roundOf_7 (f : Int32 → Int32 → Int32 → Mem → Option (Int32 × Mem)) (ls : List (Option Value)) (s : Mem) : Option (Int32 × Mem) := match lk ls 0, lk ls 1, lk ls 2, lk ls 3 with
  | some (.ref a0), some (.int a1), some (.int a2), some (.int a3) => cbr (Nat.beq a0 123) (f a1 a2 a3 s) none
  | _, _, _, _ => none
noncomputable def A_R_roundOf (av : List Value) (s : Mem) : Option (Int32 × Mem) := match av with
  | [.ref a0, .int a1] => cbr (Nat.beq a0 123) (F_R_roundOf a1 s) none
  | _ => none
noncomputable def C_R_roundOf (k : Nat) (av : List Value) (s : Mem) : Option (Int32 × Mem) := none
set_option maxRecDepth 100000 in
theorem e_R_roundOf_7  (n : Nat) (x1 : Int32) (x2 : Int32) (x3 : Int32) (s : Mem) : F_R_roundOf_7 (n + 1) x1 x2 x3 s = xs C_R_roundOf (fun k ls s => cbr (Nat.beq k 0) (A_R_roundOf_7 (F_R_roundOf_7 n) ls s) (none)) 0 (fun _ => 0) K_R_roundOf 700 (K_R_roundOf.drop 8) [some (.ref 123), some (.int x1), some (.int x2), some (.int x3)] [] s := rfl
set_option maxRecDepth 100000 in
theorem e_R_roundOf (x1 : Int32) (s : Mem) : F_R_roundOf x1 s = xs C_R_roundOf (fun k ls s => cbr (Nat.beq k 0) (A_R_roundOf_7 (F_R_roundOf_7 gF) ls s) (none)) 0 (fun _ => 0) K_R_roundOf 700 K_R_roundOf [some (.ref 123), some (.int x1), none, none] [] s := rfl
def K_R_common : MC := [(0, .iload 1, 0), (1, .istore 3, 0), (2, .iload 2, 0), (3, .istore 4, 0), (5, .ret 0, 0), (5, .iload 4, 0), (7, .ifCond .eq 16, 0), (10, .iload 3, 0), (11, .iload 4, 0), (13, .irem, 0), (14, .istore 5, 0), (16, .iload 4, 0), (18, .istore 3, 0), (19, .iload 5, 0), (21, .istore 4, 0), (23, .goto 4, 0), (26, .iload 3, 0), (27, .ireturn, 0)]
noncomputable def F_R_common_4 : Nat → Int32 → Int32 → Mem → Option (Int32 × Mem)
  | 0, _, _, _ => none
  | n + 1, x3, x4, s =>
    if x4 = 0 then
      some (x3, s)
    else
    if x4 = 0 then none else
    F_R_common_4 n x4 (irm x3 x4) s
noncomputable def F_R_common (x1 : Int32) (x2 : Int32) (s : Mem) : Option (Int32 × Mem) :=
  F_R_common_4 gF x1 x2 s
def A_R_common_4 (f : Int32 → Int32 → Mem → Option (Int32 × Mem)) (ls : List (Option Value)) (s : Mem) : Option (Int32 × Mem) := match lk ls 3, lk ls 4 with
  | some (.int a0), some (.int a1) => f a0 a1 s
  | _, _ => none
noncomputable def A_R_common (av : List Value) (s : Mem) : Option (Int32 × Mem) := match av with
  | [.ref a0, .int a1, .int a2] => cbr (Nat.beq a0 123) (F_R_common a1 a2 s) none
  | _ => none
noncomputable def C_R_common (k : Nat) (av : List Value) (s : Mem) : Option (Int32 × Mem) := none
set_option maxRecDepth 100000 in
theorem e_R_common_4  (n : Nat) (x3 : Int32) (x4 : Int32) (s : Mem) : F_R_common_4 (n + 1) x3 x4 s = xs C_R_common (fun k ls s => cbr (Nat.beq k 0) (A_R_common_4 (F_R_common_4 n) ls s) (none)) 0 (fun _ => 0) K_R_common 700 (K_R_common.drop 5) [none, none, none, some (.int x3), some (.int x4), none] [] s := rfl
set_option maxRecDepth 100000 in
theorem e_R_common (x1 : Int32) (x2 : Int32) (s : Mem) : F_R_common x1 x2 s = xs C_R_common (fun k ls s => cbr (Nat.beq k 0) (A_R_common_4 (F_R_common_4 gF) ls s) (none)) 0 (fun _ => 0) K_R_common 700 K_R_common [some (.ref 123), some (.int x1), some (.int x2), none, none, none] [] s := rfl
def K_R_drilled : MC := [(0, .aload 0, 0), (1, .lconst 0, 0), (2, .putfield 1100, 0), (5, .aload 0, 0), (6, .getfield 1151, 0), (9, .iconst 0, 1234567), (12, .iadd, 0), (13, .istore 3, 0), (14, .iconst 0, 7), (16, .istore 4, 0), (18, .ret 0, 0), (18, .iload 4, 0), (20, .ifCond .lt 26, 0), (23, .aload 0, 0), (24, .getstatic 1152, 0), (27, .iload 4, 0), (29, .iload 3, 0), (30, .iconst 0, 10), (32, .lrem, 0), (33, .iastore, 0), (34, .iload 3, 0), (35, .iconst 0, 10), (37, .ldiv, 0), (38, .istore 3, 0), (39, .iinc 4 0, (-1)), (42, .goto 10, 0), (45, .iload 2, 0), (46, .iconst 0, (-1)), (47, .if_icmp .ne 54, 0), (50, .lconst 1, 0), (51, .istore 4, 0), (53, .lconst 0, 0), (54, .istore 5, 0), (56, .ret 1, 0), (56, .iload 5, 0), (58, .iconst 0, 8), (60, .if_icmp .ge 52, 0), (63, .iload 4, 0), (65, .aload 0, 0), (66, .iload 4, 0), (68, .aload 0, 0), (69, .iload 5, 0), (71, .invokeinterface 295 194, 0), (74, .invokeinterface 296 195, 0), (77, .idiv, 0), (78, .aload 0, 0), (79, .iload 5, 0), (81, .invokeinterface 295 194, 0), (84, .imul, 0), (85, .istore 4, 0), (87, .iinc 5 0, 1), (90, .goto 33, 0), (93, .iload 4, 0), (95, .ireturn, 0), (96, .aload 0, 0), (97, .iload 1, 0), (98, .lconst 0, 0), (99, .iconst 0, 1000000), (102, .invokeinterface 187 196, 0), (105, .ifCond .eq 66, 0), (108, .aload 0, 0), (109, .iload 2, 0), (110, .lconst 0, 0), (111, .iconst 0, 7), (113, .invokeinterface 187 196, 0), (116, .ifCond .ne 68, 0), (119, .iconst 0, (-1)), (120, .ireturn, 0), (121, .iload 2, 0), (122, .istore 4, 0), (124, .iload 1, 0), (125, .aload 0, 0), (126, .iload 2, 0), (127, .invokeinterface 295 194, 0), (130, .irem, 0), (131, .istore 5, 0), (133, .ret 2, 0), (133, .iload 5, 0), (135, .ifCond .le 86, 0), (138, .aload 0, 0), (139, .getstatic 1152, 0), (142, .iload 4, 0), (144, .iaload, 0), (145, .istore 4, 0), (147, .iinc 5 0, (-1)), (150, .goto 76, 0), (153, .iload 4, 0), (155, .ireturn, 0)]
noncomputable def F_R_drilled_32 : Nat → Int32 → Int32 → Mem → Option (Int32 × Mem)
  | 0, _, _, _ => none
  | n + 1, x4, x5, s =>
    if 8 ≤ x5 then
      some (x4, s)
    else
    (F_R_roundOf x5 s).bind fun z1 =>
    (F_R_common x4 z1.1 z1.2).bind fun z2 =>
    if z2.1 = 0 then none else
    (F_R_roundOf x5 z2.2).bind fun z3 =>
    F_R_drilled_32 n ((x4 / z2.1) * z3.1) (x5 + 1) z3.2
noncomputable def F_R_drilled_74 : Nat → Int32 → Int32 → Mem → Option (Int32 × Mem)
  | 0, _, _, _ => none
  | n + 1, x4, x5, s =>
    if x5 ≤ 0 then
      some (x4, s)
    else
    (ld s 152 x4).bind fun v1 =>
    F_R_drilled_74 n v1 (x5 + (-1)) s
noncomputable def F_R_drilled_10 : Nat → Int32 → Int32 → Int32 → Int32 → Mem → Option (Int32 × Mem)
  | 0, _, _, _, _, _ => none
  | n + 1, x1, x2, x3, x4, s =>
    if x4 < 0 then
      if x2 = (-1) then
        F_R_drilled_32 gF 1 0 s
      else
      (F_R_isIn x1 0 1000000 s).bind fun z1 =>
      if z1.1 = 0 then
        some ((-1), z1.2)
      else
      (F_R_isIn x2 0 7 z1.2).bind fun z2 =>
      if z2.1 = 0 then
        some ((-1), z2.2)
      else
      (F_R_roundOf x2 z2.2).bind fun z3 =>
      if z3.1 = 0 then none else
      F_R_drilled_74 gF x2 (irm x1 z3.1) z3.2
    else
    (sd s 152 x4 (irm x3 10)).bind fun s4 =>
    F_R_drilled_10 n x1 x2 (x3 / 10) (x4 + (-1)) s4
noncomputable def F_R_drilled (x1 : Int32) (x2 : Int32) (s : Mem) : Option (Int32 × Mem) :=
  let s1 : Mem := mw s 123 0 0
  F_R_drilled_10 gF x1 x2 ((s1 123 51) + 1234567) 7 s1
def A_R_drilled_10 (f : Int32 → Int32 → Int32 → Int32 → Mem → Option (Int32 × Mem)) (ls : List (Option Value)) (s : Mem) : Option (Int32 × Mem) := match lk ls 0, lk ls 1, lk ls 2, lk ls 3, lk ls 4 with
  | some (.ref a0), some (.int a1), some (.int a2), some (.int a3), some (.int a4) => cbr (Nat.beq a0 123) (f a1 a2 a3 a4 s) none
  | _, _, _, _, _ => none
def A_R_drilled_32 (f : Int32 → Int32 → Mem → Option (Int32 × Mem)) (ls : List (Option Value)) (s : Mem) : Option (Int32 × Mem) := match lk ls 0, lk ls 4, lk ls 5 with
  | some (.ref a0), some (.int a1), some (.int a2) => cbr (Nat.beq a0 123) (f a1 a2 s) none
  | _, _, _ => none
def A_R_drilled_74 (f : Int32 → Int32 → Mem → Option (Int32 × Mem)) (ls : List (Option Value)) (s : Mem) : Option (Int32 × Mem) := match lk ls 0, lk ls 4, lk ls 5 with
  | some (.ref a0), some (.int a1), some (.int a2) => cbr (Nat.beq a0 123) (f a1 a2 s) none
  | _, _, _ => none
noncomputable def A_R_drilled (av : List Value) (s : Mem) : Option (Int32 × Mem) := match av with
  | [.ref a0, .int a1, .int a2] => cbr (Nat.beq a0 123) (F_R_drilled a1 a2 s) none
  | _ => none
noncomputable def C_R_drilled (k : Nat) (av : List Value) (s : Mem) : Option (Int32 × Mem) := cbr (Nat.beq k 187) (A_R_isIn av s) (cbr (Nat.beq k 295) (A_R_roundOf av s) (cbr (Nat.beq k 296) (A_R_common av s) (none)))
set_option maxRecDepth 100000 in
theorem e_R_drilled_32  (n : Nat) (x4 : Int32) (x5 : Int32) (s : Mem) : F_R_drilled_32 (n + 1) x4 x5 s = xs C_R_drilled (fun k ls s => cbr (Nat.beq k 1) (A_R_drilled_32 (F_R_drilled_32 n) ls s) (none)) 0 (fun _ => 0) K_R_drilled 700 (K_R_drilled.drop 34) [some (.ref 123), none, none, none, some (.int x4), some (.int x5)] [] s := rfl
set_option maxRecDepth 100000 in
theorem e_R_drilled_74  (n : Nat) (x4 : Int32) (x5 : Int32) (s : Mem) : F_R_drilled_74 (n + 1) x4 x5 s = xs C_R_drilled (fun k ls s => cbr (Nat.beq k 2) (A_R_drilled_74 (F_R_drilled_74 n) ls s) (none)) 0 (fun _ => 0) K_R_drilled 700 (K_R_drilled.drop 77) [some (.ref 123), none, none, none, some (.int x4), some (.int x5)] [] s := rfl
set_option maxRecDepth 100000 in
theorem e_R_drilled_10  (n : Nat) (x1 : Int32) (x2 : Int32) (x3 : Int32) (x4 : Int32) (s : Mem) : F_R_drilled_10 (n + 1) x1 x2 x3 x4 s = xs C_R_drilled (fun k ls s => cbr (Nat.beq k 0) (A_R_drilled_10 (F_R_drilled_10 n) ls s) (cbr (Nat.beq k 1) (A_R_drilled_32 (F_R_drilled_32 gF) ls s) (cbr (Nat.beq k 2) (A_R_drilled_74 (F_R_drilled_74 gF) ls s) (none)))) 0 (fun _ => 0) K_R_drilled 700 (K_R_drilled.drop 11) [some (.ref 123), some (.int x1), some (.int x2), some (.int x3), some (.int x4), none] [] s := rfl
set_option maxRecDepth 100000 in
theorem e_R_drilled (x1 : Int32) (x2 : Int32) (s : Mem) : F_R_drilled x1 x2 s = xs C_R_drilled (fun k ls s => cbr (Nat.beq k 0) (A_R_drilled_10 (F_R_drilled_10 gF) ls s) (none)) 0 (fun _ => 0) K_R_drilled 700 K_R_drilled [some (.ref 123), some (.int x1), some (.int x2), none, none, none] [] s := rfl
def K_R_between : MC := [(0, .aload 0, 0), (1, .lconst 0, 0), (2, .putfield 1100, 0), (5, .iload 1, 0), (6, .iconst 0, 100), (8, .ldiv, 0), (9, .istore 3, 0), (10, .iload 1, 0), (11, .iconst 0, 100), (13, .lrem, 0), (14, .istore 4, 0), (16, .iload 2, 0), (17, .iconst 0, 100), (19, .ldiv, 0), (20, .istore 5, 0), (22, .iload 2, 0), (23, .iconst 0, 100), (25, .lrem, 0), (26, .istore 6, 0), (28, .aload 0, 0), (29, .iload 1, 0), (30, .lconst 1, 0), (31, .iconst 0, 9999), (34, .invokeinterface 187 196, 0), (37, .ifCond .eq 42, 0), (40, .aload 0, 0), (41, .iload 2, 0), (42, .lconst 1, 0), (43, .iconst 0, 9999), (46, .invokeinterface 187 196, 0), (49, .ifCond .eq 42, 0), (52, .iload 4, 0), (54, .ifCond .eq 42, 0), (57, .iload 6, 0), (59, .ifCond .eq 42, 0), (62, .iload 3, 0), (63, .iload 6, 0), (65, .imul, 0), (66, .iload 5, 0), (68, .iload 4, 0), (70, .imul, 0), (71, .if_icmp .ne 44, 0), (74, .iconst 0, (-1)), (75, .ireturn, 0), (76, .iload 3, 0), (77, .iload 6, 0), (79, .imul, 0), (80, .iload 5, 0), (82, .iload 4, 0), (84, .imul, 0), (85, .if_icmp .ge 53, 0), (88, .lconst 1, 0), (89, .goto 54, 0), (92, .lconst 0, 0), (93, .istore 7, 0), (95, .iload 7, 0), (97, .ifCond .eq 59, 0), (100, .iload 3, 0), (101, .goto 60, 0), (104, .iload 5, 0), (106, .istore 8, 0), (108, .iload 7, 0), (110, .ifCond .eq 65, 0), (113, .iload 4, 0), (115, .goto 66, 0), (118, .iload 6, 0), (120, .istore 9, 0), (122, .iload 7, 0), (124, .ifCond .eq 71, 0), (127, .iload 5, 0), (129, .goto 72, 0), (132, .iload 3, 0), (133, .istore 10, 0), (135, .iload 7, 0), (137, .ifCond .eq 77, 0), (140, .iload 6, 0), (142, .goto 78, 0), (145, .iload 4, 0), (147, .istore 11, 0), (149, .lconst 1, 0), (150, .istore 12, 0), (152, .ret 0, 0), (152, .iload 8, 0), (154, .iload 12, 0), (156, .imul, 0), (157, .iload 9, 0), (159, .idiv, 0), (160, .lconst 1, 0), (161, .iadd, 0), (162, .iload 11, 0), (164, .imul, 0), (165, .iload 10, 0), (167, .iload 12, 0), (169, .imul, 0), (170, .if_icmp .lt 100, 0), (173, .iload 12, 0), (175, .lconst 1, 0), (176, .iadd, 0), (177, .istore 12, 0), (179, .goto 81, 0), (182, .iconst 0, 1000), (185, .iload 8, 0), (187, .iload 12, 0), (189, .imul, 0), (190, .iload 9, 0), (192, .idiv, 0), (193, .lconst 1, 0), (194, .iadd, 0), (195, .imul, 0), (196, .iload 12, 0), (198, .iadd, 0), (199, .ireturn, 0)]
noncomputable def F_R_between_81 : Nat → Int32 → Int32 → Int32 → Int32 → Int32 → Mem → Option (Int32 × Mem)
  | 0, _, _, _, _, _, _ => none
  | n + 1, x8, x9, x10, x11, x12, s =>
    if x9 = 0 then none else
    if ((((x8 * x12) / x9) + 1) * x11) < (x10 * x12) then
      if x9 = 0 then none else
      some (((1000 * (((x8 * x12) / x9) + 1)) + x12), s)
    else
    F_R_between_81 n x8 x9 x10 x11 (x12 + 1) s
noncomputable def F_R_between (x1 : Int32) (x2 : Int32) (s : Mem) : Option (Int32 × Mem) :=
  let s1 : Mem := mw s 123 0 0
  (F_R_isIn x1 1 9999 s1).bind fun z2 =>
  if z2.1 = 0 then
    some ((-1), z2.2)
  else
  (F_R_isIn x2 1 9999 z2.2).bind fun z3 =>
  if z3.1 = 0 then
    some ((-1), z3.2)
  else
  if (irm x1 100) = 0 then
    some ((-1), z3.2)
  else
  if (irm x2 100) = 0 then
    some ((-1), z3.2)
  else
  if ((x1 / 100) * (irm x2 100)) = ((x2 / 100) * (irm x1 100)) then
    some ((-1), z3.2)
  else
  if ((x2 / 100) * (irm x1 100)) ≤ ((x1 / 100) * (irm x2 100)) then
    F_R_between_81 gF (x2 / 100) (irm x2 100) (x1 / 100) (irm x1 100) 1 z3.2
  else
  F_R_between_81 gF (x1 / 100) (irm x1 100) (x2 / 100) (irm x2 100) 1 z3.2
def A_R_between_81 (f : Int32 → Int32 → Int32 → Int32 → Int32 → Mem → Option (Int32 × Mem)) (ls : List (Option Value)) (s : Mem) : Option (Int32 × Mem) := match lk ls 8, lk ls 9, lk ls 10, lk ls 11, lk ls 12 with
  | some (.int a0), some (.int a1), some (.int a2), some (.int a3), some (.int a4) => f a0 a1 a2 a3 a4 s
  | _, _, _, _, _ => none
noncomputable def A_R_between (av : List Value) (s : Mem) : Option (Int32 × Mem) := match av with
  | [.ref a0, .int a1, .int a2] => cbr (Nat.beq a0 123) (F_R_between a1 a2 s) none
  | _ => none
noncomputable def C_R_between (k : Nat) (av : List Value) (s : Mem) : Option (Int32 × Mem) := cbr (Nat.beq k 187) (A_R_isIn av s) (none)
set_option maxRecDepth 100000 in
theorem e_R_between_81  (n : Nat) (x8 : Int32) (x9 : Int32) (x10 : Int32) (x11 : Int32) (x12 : Int32) (s : Mem) : F_R_between_81 (n + 1) x8 x9 x10 x11 x12 s = xs C_R_between (fun k ls s => cbr (Nat.beq k 0) (A_R_between_81 (F_R_between_81 n) ls s) (none)) 0 (fun _ => 0) K_R_between 700 (K_R_between.drop 82) [none, none, none, none, none, none, none, none, some (.int x8), some (.int x9), some (.int x10), some (.int x11), some (.int x12)] [] s := rfl
set_option maxRecDepth 100000 in
theorem e_R_between (x1 : Int32) (x2 : Int32) (s : Mem) : F_R_between x1 x2 s = xs C_R_between (fun k ls s => cbr (Nat.beq k 0) (A_R_between_81 (F_R_between_81 gF) ls s) (none)) 0 (fun _ => 0) K_R_between 700 K_R_between [some (.ref 123), some (.int x1), some (.int x2), none, none, none, none, none, none, none, none, none, none] [] s := rfl
def K_R_walksSpiral : MC := [(0, .aload 0, 0), (1, .lconst 0, 0), (2, .putfield 1153, 0), (5, .aload 0, 0), (6, .lconst 0, 0), (7, .putfield 1154, 0), (10, .lconst 0, 0), (11, .istore 4, 0), (13, .lconst 1, 0), (14, .istore 5, 0), (16, .lconst 1, 0), (17, .istore 6, 0), (19, .lconst 0, 0), (20, .istore 7, 0), (22, .ret 0, 0), (22, .iload 7, 0), (24, .iload 1, 0), (25, .if_icmp .ge 85, 0), (28, .aload 0, 0), (29, .getfield 1153, 0), (32, .iload 2, 0), (33, .if_icmp .ne 26, 0), (36, .aload 0, 0), (37, .getfield 1154, 0), (40, .iload 3, 0), (41, .if_icmp .eq 85, 0), (44, .aload 0, 0), (45, .aload 0, 0), (46, .getfield 1153, 0), (49, .iload 4, 0), (51, .ifCond .ne 33, 0), (54, .lconst 1, 0), (55, .goto 39, 0), (58, .iload 4, 0), (60, .iconst 0, 2), (61, .if_icmp .ne 38, 0), (64, .iconst 0, (-1)), (65, .goto 39, 0), (68, .lconst 0, 0), (69, .iadd, 0), (70, .putfield 1153, 0), (73, .aload 0, 0), (74, .aload 0, 0), (75, .getfield 1154, 0), (78, .iload 4, 0), (80, .lconst 1, 0), (81, .if_icmp .ne 49, 0), (84, .lconst 1, 0), (85, .goto 55, 0), (88, .iload 4, 0), (90, .iconst 0, 3), (91, .if_icmp .ne 54, 0), (94, .iconst 0, (-1)), (95, .goto 55, 0), (98, .lconst 0, 0), (99, .iadd, 0), (100, .putfield 1154, 0), (103, .iload 7, 0), (105, .lconst 1, 0), (106, .iadd, 0), (107, .istore 7, 0), (109, .iload 6, 0), (111, .lconst 1, 0), (112, .isub, 0), (113, .istore 6, 0), (115, .iload 6, 0), (117, .ifCond .le 68, 0), (120, .goto 14, 0), (123, .iload 4, 0), (125, .lconst 1, 0), (126, .iadd, 0), (127, .iconst 0, 4), (128, .lrem, 0), (129, .istore 4, 0), (131, .iload 4, 0), (133, .iconst 0, 2), (134, .lrem, 0), (135, .ifCond .ne 82, 0), (138, .iload 5, 0), (140, .lconst 1, 0), (141, .iadd, 0), (142, .istore 5, 0), (144, .iload 5, 0), (146, .istore 6, 0), (148, .goto 14, 0), (151, .iload 7, 0), (153, .ireturn, 0)]
noncomputable def F_R_walksSpiral_14 : Nat → Int32 → Int32 → Int32 → Int32 → Int32 → Int32 → Int32 → Mem → Option (Int32 × Mem)
  | 0, _, _, _, _, _, _, _, _ => none
  | n + 1, x1, x2, x3, x4, x5, x6, x7, s =>
    if x1 ≤ x7 then
      some (x7, s)
    else
    if (s 123 53) = x2 then
      if (s 123 54) = x3 then
        some (x7, s)
      else
      if x4 = 0 then
        let s1 : Mem := mw s 123 53 ((s 123 53) + 1)
        if x4 = 1 then
          let s2 : Mem := mw s1 123 54 ((s1 123 54) + 1)
          if (x6 - 1) ≤ 0 then
            if (irm (irm (x4 + 1) 4) 2) = 0 then
              F_R_walksSpiral_14 n x1 x2 x3 (irm (x4 + 1) 4) (x5 + 1) (x5 + 1) (x7 + 1) s2
            else
            F_R_walksSpiral_14 n x1 x2 x3 (irm (x4 + 1) 4) x5 x5 (x7 + 1) s2
          else
          F_R_walksSpiral_14 n x1 x2 x3 x4 x5 (x6 - 1) (x7 + 1) s2
        else
        if x4 = 3 then
          let s3 : Mem := mw s1 123 54 ((s1 123 54) + (-1))
          if (x6 - 1) ≤ 0 then
            if (irm (irm (x4 + 1) 4) 2) = 0 then
              F_R_walksSpiral_14 n x1 x2 x3 (irm (x4 + 1) 4) (x5 + 1) (x5 + 1) (x7 + 1) s3
            else
            F_R_walksSpiral_14 n x1 x2 x3 (irm (x4 + 1) 4) x5 x5 (x7 + 1) s3
          else
          F_R_walksSpiral_14 n x1 x2 x3 x4 x5 (x6 - 1) (x7 + 1) s3
        else
        let s4 : Mem := mw s1 123 54 ((s1 123 54) + 0)
        if (x6 - 1) ≤ 0 then
          if (irm (irm (x4 + 1) 4) 2) = 0 then
            F_R_walksSpiral_14 n x1 x2 x3 (irm (x4 + 1) 4) (x5 + 1) (x5 + 1) (x7 + 1) s4
          else
          F_R_walksSpiral_14 n x1 x2 x3 (irm (x4 + 1) 4) x5 x5 (x7 + 1) s4
        else
        F_R_walksSpiral_14 n x1 x2 x3 x4 x5 (x6 - 1) (x7 + 1) s4
      else
      if x4 = 2 then
        let s5 : Mem := mw s 123 53 ((s 123 53) + (-1))
        if x4 = 1 then
          let s6 : Mem := mw s5 123 54 ((s5 123 54) + 1)
          if (x6 - 1) ≤ 0 then
            if (irm (irm (x4 + 1) 4) 2) = 0 then
              F_R_walksSpiral_14 n x1 x2 x3 (irm (x4 + 1) 4) (x5 + 1) (x5 + 1) (x7 + 1) s6
            else
            F_R_walksSpiral_14 n x1 x2 x3 (irm (x4 + 1) 4) x5 x5 (x7 + 1) s6
          else
          F_R_walksSpiral_14 n x1 x2 x3 x4 x5 (x6 - 1) (x7 + 1) s6
        else
        if x4 = 3 then
          let s7 : Mem := mw s5 123 54 ((s5 123 54) + (-1))
          if (x6 - 1) ≤ 0 then
            if (irm (irm (x4 + 1) 4) 2) = 0 then
              F_R_walksSpiral_14 n x1 x2 x3 (irm (x4 + 1) 4) (x5 + 1) (x5 + 1) (x7 + 1) s7
            else
            F_R_walksSpiral_14 n x1 x2 x3 (irm (x4 + 1) 4) x5 x5 (x7 + 1) s7
          else
          F_R_walksSpiral_14 n x1 x2 x3 x4 x5 (x6 - 1) (x7 + 1) s7
        else
        let s8 : Mem := mw s5 123 54 ((s5 123 54) + 0)
        if (x6 - 1) ≤ 0 then
          if (irm (irm (x4 + 1) 4) 2) = 0 then
            F_R_walksSpiral_14 n x1 x2 x3 (irm (x4 + 1) 4) (x5 + 1) (x5 + 1) (x7 + 1) s8
          else
          F_R_walksSpiral_14 n x1 x2 x3 (irm (x4 + 1) 4) x5 x5 (x7 + 1) s8
        else
        F_R_walksSpiral_14 n x1 x2 x3 x4 x5 (x6 - 1) (x7 + 1) s8
      else
      let s9 : Mem := mw s 123 53 ((s 123 53) + 0)
      if x4 = 1 then
        let s10 : Mem := mw s9 123 54 ((s9 123 54) + 1)
        if (x6 - 1) ≤ 0 then
          if (irm (irm (x4 + 1) 4) 2) = 0 then
            F_R_walksSpiral_14 n x1 x2 x3 (irm (x4 + 1) 4) (x5 + 1) (x5 + 1) (x7 + 1) s10
          else
          F_R_walksSpiral_14 n x1 x2 x3 (irm (x4 + 1) 4) x5 x5 (x7 + 1) s10
        else
        F_R_walksSpiral_14 n x1 x2 x3 x4 x5 (x6 - 1) (x7 + 1) s10
      else
      if x4 = 3 then
        let s11 : Mem := mw s9 123 54 ((s9 123 54) + (-1))
        if (x6 - 1) ≤ 0 then
          if (irm (irm (x4 + 1) 4) 2) = 0 then
            F_R_walksSpiral_14 n x1 x2 x3 (irm (x4 + 1) 4) (x5 + 1) (x5 + 1) (x7 + 1) s11
          else
          F_R_walksSpiral_14 n x1 x2 x3 (irm (x4 + 1) 4) x5 x5 (x7 + 1) s11
        else
        F_R_walksSpiral_14 n x1 x2 x3 x4 x5 (x6 - 1) (x7 + 1) s11
      else
      let s12 : Mem := mw s9 123 54 ((s9 123 54) + 0)
      if (x6 - 1) ≤ 0 then
        if (irm (irm (x4 + 1) 4) 2) = 0 then
          F_R_walksSpiral_14 n x1 x2 x3 (irm (x4 + 1) 4) (x5 + 1) (x5 + 1) (x7 + 1) s12
        else
        F_R_walksSpiral_14 n x1 x2 x3 (irm (x4 + 1) 4) x5 x5 (x7 + 1) s12
      else
      F_R_walksSpiral_14 n x1 x2 x3 x4 x5 (x6 - 1) (x7 + 1) s12
    else
    if x4 = 0 then
      let s13 : Mem := mw s 123 53 ((s 123 53) + 1)
      if x4 = 1 then
        let s14 : Mem := mw s13 123 54 ((s13 123 54) + 1)
        if (x6 - 1) ≤ 0 then
          if (irm (irm (x4 + 1) 4) 2) = 0 then
            F_R_walksSpiral_14 n x1 x2 x3 (irm (x4 + 1) 4) (x5 + 1) (x5 + 1) (x7 + 1) s14
          else
          F_R_walksSpiral_14 n x1 x2 x3 (irm (x4 + 1) 4) x5 x5 (x7 + 1) s14
        else
        F_R_walksSpiral_14 n x1 x2 x3 x4 x5 (x6 - 1) (x7 + 1) s14
      else
      if x4 = 3 then
        let s15 : Mem := mw s13 123 54 ((s13 123 54) + (-1))
        if (x6 - 1) ≤ 0 then
          if (irm (irm (x4 + 1) 4) 2) = 0 then
            F_R_walksSpiral_14 n x1 x2 x3 (irm (x4 + 1) 4) (x5 + 1) (x5 + 1) (x7 + 1) s15
          else
          F_R_walksSpiral_14 n x1 x2 x3 (irm (x4 + 1) 4) x5 x5 (x7 + 1) s15
        else
        F_R_walksSpiral_14 n x1 x2 x3 x4 x5 (x6 - 1) (x7 + 1) s15
      else
      let s16 : Mem := mw s13 123 54 ((s13 123 54) + 0)
      if (x6 - 1) ≤ 0 then
        if (irm (irm (x4 + 1) 4) 2) = 0 then
          F_R_walksSpiral_14 n x1 x2 x3 (irm (x4 + 1) 4) (x5 + 1) (x5 + 1) (x7 + 1) s16
        else
        F_R_walksSpiral_14 n x1 x2 x3 (irm (x4 + 1) 4) x5 x5 (x7 + 1) s16
      else
      F_R_walksSpiral_14 n x1 x2 x3 x4 x5 (x6 - 1) (x7 + 1) s16
    else
    if x4 = 2 then
      let s17 : Mem := mw s 123 53 ((s 123 53) + (-1))
      if x4 = 1 then
        let s18 : Mem := mw s17 123 54 ((s17 123 54) + 1)
        if (x6 - 1) ≤ 0 then
          if (irm (irm (x4 + 1) 4) 2) = 0 then
            F_R_walksSpiral_14 n x1 x2 x3 (irm (x4 + 1) 4) (x5 + 1) (x5 + 1) (x7 + 1) s18
          else
          F_R_walksSpiral_14 n x1 x2 x3 (irm (x4 + 1) 4) x5 x5 (x7 + 1) s18
        else
        F_R_walksSpiral_14 n x1 x2 x3 x4 x5 (x6 - 1) (x7 + 1) s18
      else
      if x4 = 3 then
        let s19 : Mem := mw s17 123 54 ((s17 123 54) + (-1))
        if (x6 - 1) ≤ 0 then
          if (irm (irm (x4 + 1) 4) 2) = 0 then
            F_R_walksSpiral_14 n x1 x2 x3 (irm (x4 + 1) 4) (x5 + 1) (x5 + 1) (x7 + 1) s19
          else
          F_R_walksSpiral_14 n x1 x2 x3 (irm (x4 + 1) 4) x5 x5 (x7 + 1) s19
        else
        F_R_walksSpiral_14 n x1 x2 x3 x4 x5 (x6 - 1) (x7 + 1) s19
      else
      let s20 : Mem := mw s17 123 54 ((s17 123 54) + 0)
      if (x6 - 1) ≤ 0 then
        if (irm (irm (x4 + 1) 4) 2) = 0 then
          F_R_walksSpiral_14 n x1 x2 x3 (irm (x4 + 1) 4) (x5 + 1) (x5 + 1) (x7 + 1) s20
        else
        F_R_walksSpiral_14 n x1 x2 x3 (irm (x4 + 1) 4) x5 x5 (x7 + 1) s20
      else
      F_R_walksSpiral_14 n x1 x2 x3 x4 x5 (x6 - 1) (x7 + 1) s20
    else
    let s21 : Mem := mw s 123 53 ((s 123 53) + 0)
    if x4 = 1 then
      let s22 : Mem := mw s21 123 54 ((s21 123 54) + 1)
      if (x6 - 1) ≤ 0 then
        if (irm (irm (x4 + 1) 4) 2) = 0 then
          F_R_walksSpiral_14 n x1 x2 x3 (irm (x4 + 1) 4) (x5 + 1) (x5 + 1) (x7 + 1) s22
        else
        F_R_walksSpiral_14 n x1 x2 x3 (irm (x4 + 1) 4) x5 x5 (x7 + 1) s22
      else
      F_R_walksSpiral_14 n x1 x2 x3 x4 x5 (x6 - 1) (x7 + 1) s22
    else
    if x4 = 3 then
      let s23 : Mem := mw s21 123 54 ((s21 123 54) + (-1))
      if (x6 - 1) ≤ 0 then
        if (irm (irm (x4 + 1) 4) 2) = 0 then
          F_R_walksSpiral_14 n x1 x2 x3 (irm (x4 + 1) 4) (x5 + 1) (x5 + 1) (x7 + 1) s23
        else
        F_R_walksSpiral_14 n x1 x2 x3 (irm (x4 + 1) 4) x5 x5 (x7 + 1) s23
      else
      F_R_walksSpiral_14 n x1 x2 x3 x4 x5 (x6 - 1) (x7 + 1) s23
    else
    let s24 : Mem := mw s21 123 54 ((s21 123 54) + 0)
    if (x6 - 1) ≤ 0 then
      if (irm (irm (x4 + 1) 4) 2) = 0 then
        F_R_walksSpiral_14 n x1 x2 x3 (irm (x4 + 1) 4) (x5 + 1) (x5 + 1) (x7 + 1) s24
      else
      F_R_walksSpiral_14 n x1 x2 x3 (irm (x4 + 1) 4) x5 x5 (x7 + 1) s24
    else
    F_R_walksSpiral_14 n x1 x2 x3 x4 x5 (x6 - 1) (x7 + 1) s24
noncomputable def F_R_walksSpiral (x1 : Int32) (x2 : Int32) (x3 : Int32) (s : Mem) : Option (Int32 × Mem) :=
  let s1 : Mem := mw s 123 53 0
  let s2 : Mem := mw s1 123 54 0
  F_R_walksSpiral_14 gF x1 x2 x3 0 1 1 0 s2
def A_R_walksSpiral_14 (f : Int32 → Int32 → Int32 → Int32 → Int32 → Int32 → Int32 → Mem → Option (Int32 × Mem)) (ls : List (Option Value)) (s : Mem) : Option (Int32 × Mem) := match lk ls 0, lk ls 1, lk ls 2, lk ls 3, lk ls 4, lk ls 5, lk ls 6, lk ls 7 with
  | some (.ref a0), some (.int a1), some (.int a2), some (.int a3), some (.int a4), some (.int a5), some (.int a6), some (.int a7) => cbr (Nat.beq a0 123) (f a1 a2 a3 a4 a5 a6 a7 s) none
  | _, _, _, _, _, _, _, _ => none
noncomputable def A_R_walksSpiral (av : List Value) (s : Mem) : Option (Int32 × Mem) := match av with
  | [.ref a0, .int a1, .int a2, .int a3] => cbr (Nat.beq a0 123) (F_R_walksSpiral a1 a2 a3 s) none
  | _ => none
noncomputable def C_R_walksSpiral (k : Nat) (av : List Value) (s : Mem) : Option (Int32 × Mem) := none
set_option maxRecDepth 100000 in
theorem e_R_walksSpiral_14  (n : Nat) (x1 : Int32) (x2 : Int32) (x3 : Int32) (x4 : Int32) (x5 : Int32) (x6 : Int32) (x7 : Int32) (s : Mem) : F_R_walksSpiral_14 (n + 1) x1 x2 x3 x4 x5 x6 x7 s = xs C_R_walksSpiral (fun k ls s => cbr (Nat.beq k 0) (A_R_walksSpiral_14 (F_R_walksSpiral_14 n) ls s) (none)) 0 (fun _ => 0) K_R_walksSpiral 700 (K_R_walksSpiral.drop 15) [some (.ref 123), some (.int x1), some (.int x2), some (.int x3), some (.int x4), some (.int x5), some (.int x6), some (.int x7)] [] s := rfl
set_option maxRecDepth 100000 in
theorem e_R_walksSpiral (x1 : Int32) (x2 : Int32) (x3 : Int32) (s : Mem) : F_R_walksSpiral x1 x2 x3 s = xs C_R_walksSpiral (fun k ls s => cbr (Nat.beq k 0) (A_R_walksSpiral_14 (F_R_walksSpiral_14 gF) ls s) (none)) 0 (fun _ => 0) K_R_walksSpiral 700 K_R_walksSpiral [some (.ref 123), some (.int x1), some (.int x2), some (.int x3), none, none, none, none] [] s := rfl
def K_R_spiral : MC := [(0, .aload 0, 0), (1, .lconst 0, 0), (2, .putfield 1100, 0), (5, .aload 0, 0), (6, .iload 1, 0), (7, .lconst 0, 0), (8, .iconst 0, 100000), (11, .invokeinterface 187 196, 0), (14, .ifCond .eq 15, 0), (17, .aload 0, 0), (18, .iload 2, 0), (19, .lconst 0, 0), (20, .lconst 1, 0), (21, .invokeinterface 187 196, 0), (24, .ifCond .ne 17, 0), (27, .iconst 0, (-1000)), (30, .ireturn, 0), (31, .aload 0, 0), (32, .iload 1, 0), (33, .iconst 0, 100000000), (36, .iconst 0, 100000000), (39, .invokeinterface 299 196, 0), (42, .pop, 0), (43, .iload 2, 0), (44, .ifCond .ne 28, 0), (47, .aload 0, 0), (48, .getfield 1153, 0), (51, .goto 30, 0), (54, .aload 0, 0), (55, .getfield 1154, 0), (58, .ireturn, 0)]
noncomputable def F_R_spiral (x1 : Int32) (x2 : Int32) (s : Mem) : Option (Int32 × Mem) :=
  let s1 : Mem := mw s 123 0 0
  (F_R_isIn x1 0 100000 s1).bind fun z2 =>
  if z2.1 = 0 then
    some ((-1000), z2.2)
  else
  (F_R_isIn x2 0 1 z2.2).bind fun z3 =>
  if z3.1 = 0 then
    some ((-1000), z3.2)
  else
  (F_R_walksSpiral x1 100000000 100000000 z3.2).bind fun z4 =>
  if x2 = 0 then
    some ((z4.2 123 53), z4.2)
  else
  some ((z4.2 123 54), z4.2)
noncomputable def A_R_spiral (av : List Value) (s : Mem) : Option (Int32 × Mem) := match av with
  | [.ref a0, .int a1, .int a2] => cbr (Nat.beq a0 123) (F_R_spiral a1 a2 s) none
  | _ => none
noncomputable def C_R_spiral (k : Nat) (av : List Value) (s : Mem) : Option (Int32 × Mem) := cbr (Nat.beq k 187) (A_R_isIn av s) (cbr (Nat.beq k 299) (A_R_walksSpiral av s) (none))
set_option maxRecDepth 100000 in
theorem e_R_spiral (x1 : Int32) (x2 : Int32) (s : Mem) : F_R_spiral x1 x2 s = xs C_R_spiral (fun k ls s => none) 0 (fun _ => 0) K_R_spiral 700 K_R_spiral [some (.ref 123), some (.int x1), some (.int x2)] [] s := rfl
def K_R_winds : MC := [(0, .aload 0, 0), (1, .lconst 0, 0), (2, .putfield 1100, 0), (5, .aload 0, 0), (6, .iload 1, 0), (7, .iconst 0, (-100)), (9, .iconst 0, 100), (11, .invokeinterface 187 196, 0), (14, .ifCond .eq 21, 0), (17, .aload 0, 0), (18, .iload 2, 0), (19, .iconst 0, (-100)), (21, .iconst 0, 100), (23, .invokeinterface 187 196, 0), (26, .ifCond .eq 21, 0), (29, .aload 0, 0), (30, .iconst 0, 100000000), (33, .iload 1, 0), (34, .iload 2, 0), (35, .invokeinterface 299 196, 0), (38, .goto 22, 0), (41, .iconst 0, (-1)), (42, .ireturn, 0)]
noncomputable def F_R_winds (x1 : Int32) (x2 : Int32) (s : Mem) : Option (Int32 × Mem) :=
  let s1 : Mem := mw s 123 0 0
  (F_R_isIn x1 (-100) 100 s1).bind fun z2 =>
  if z2.1 = 0 then
    some ((-1), z2.2)
  else
  (F_R_isIn x2 (-100) 100 z2.2).bind fun z3 =>
  if z3.1 = 0 then
    some ((-1), z3.2)
  else
  (F_R_walksSpiral 100000000 x1 x2 z3.2).bind fun z4 =>
  some (z4.1, z4.2)
noncomputable def A_R_winds (av : List Value) (s : Mem) : Option (Int32 × Mem) := match av with
  | [.ref a0, .int a1, .int a2] => cbr (Nat.beq a0 123) (F_R_winds a1 a2 s) none
  | _ => none
noncomputable def C_R_winds (k : Nat) (av : List Value) (s : Mem) : Option (Int32 × Mem) := cbr (Nat.beq k 187) (A_R_isIn av s) (cbr (Nat.beq k 299) (A_R_walksSpiral av s) (none))
set_option maxRecDepth 100000 in
theorem e_R_winds (x1 : Int32) (x2 : Int32) (s : Mem) : F_R_winds x1 x2 s = xs C_R_winds (fun k ls s => none) 0 (fun _ => 0) K_R_winds 700 K_R_winds [some (.ref 123), some (.int x1), some (.int x2)] [] s := rfl
def K_R_calls : MC := [(0, .aload 0, 0), (1, .lconst 0, 0), (2, .putfield 1100, 0), (5, .iload 1, 0), (6, .iconst 0, (-1)), (7, .if_icmp .ne 11, 0), (10, .aload 0, 0), (11, .lconst 0, 0), (12, .putfield 1155, 0), (15, .lconst 0, 0), (16, .ireturn, 0), (17, .aload 0, 0), (18, .iload 1, 0), (19, .lconst 0, 0), (20, .iconst 0, 15), (22, .invokeinterface 187 196, 0), (25, .ifCond .eq 21, 0), (28, .aload 0, 0), (29, .getfield 1155, 0), (32, .iconst 0, 12), (34, .if_icmp .ne 23, 0), (37, .iconst 0, (-1)), (38, .ireturn, 0), (39, .aload 0, 0), (40, .getstatic 1156, 0), (43, .aload 0, 0), (44, .getfield 1155, 0), (47, .iload 1, 0), (48, .iastore, 0), (49, .aload 0, 0), (50, .aload 0, 0), (51, .getfield 1155, 0), (54, .lconst 1, 0), (55, .iadd, 0), (56, .putfield 1155, 0), (59, .aload 0, 0), (60, .getfield 1155, 0), (63, .ireturn, 0)]
noncomputable def F_R_calls (x1 : Int32) (s : Mem) : Option (Int32 × Mem) :=
  let s1 : Mem := mw s 123 0 0
  if x1 = (-1) then
    let s2 : Mem := mw s1 123 55 0
    some (0, s2)
  else
  (F_R_isIn x1 0 15 s1).bind fun z3 =>
  if z3.1 = 0 then
    some ((-1), z3.2)
  else
  if (z3.2 123 55) = 12 then
    some ((-1), z3.2)
  else
  (sd z3.2 153 (z3.2 123 55) x1).bind fun s4 =>
  let s5 : Mem := mw s4 123 55 ((s4 123 55) + 1)
  some ((s5 123 55), s5)
noncomputable def A_R_calls (av : List Value) (s : Mem) : Option (Int32 × Mem) := match av with
  | [.ref a0, .int a1] => cbr (Nat.beq a0 123) (F_R_calls a1 s) none
  | _ => none
noncomputable def C_R_calls (k : Nat) (av : List Value) (s : Mem) : Option (Int32 × Mem) := cbr (Nat.beq k 187) (A_R_isIn av s) (none)
set_option maxRecDepth 100000 in
theorem e_R_calls (x1 : Int32) (s : Mem) : F_R_calls x1 s = xs C_R_calls (fun k ls s => none) 0 (fun _ => 0) K_R_calls 700 K_R_calls [some (.ref 123), some (.int x1)] [] s := rfl
def K_R_missing : MC := [(0, .aload 0, 0), (1, .lconst 0, 0), (2, .putfield 1100, 0), (5, .lconst 0, 0), (6, .istore 2, 0), (7, .lconst 0, 0), (8, .istore 3, 0), (9, .lconst 0, 0), (10, .istore 4, 0), (12, .ret 0, 0), (12, .iload 4, 0), (14, .aload 0, 0), (15, .getfield 1155, 0), (18, .if_icmp .ge 34, 0), (21, .iload 2, 0), (22, .lconst 1, 0), (23, .aload 0, 0), (24, .getstatic 1156, 0), (27, .iload 4, 0), (29, .iaload, 0), (30, .ishl, 0), (31, .ixor, 0), (32, .istore 2, 0), (33, .iload 3, 0), (34, .lconst 1, 0), (35, .aload 0, 0), (36, .getstatic 1156, 0), (39, .iload 4, 0), (41, .iaload, 0), (42, .ishl, 0), (43, .ior, 0), (44, .istore 3, 0), (45, .iinc 4 0, 1), (48, .goto 9, 0), (51, .lconst 0, 0), (52, .istore 4, 0), (54, .ret 1, 0), (54, .aload 0, 0), (55, .iload 1, 0), (56, .ifCond .ne 42, 0), (59, .iload 3, 0), (60, .goto 45, 0), (63, .iload 2, 0), (64, .iconst 0, (-1)), (65, .ixor, 0), (66, .iload 4, 0), (68, .invokeinterface 193 195, 0), (71, .ifCond .eq 56, 0), (74, .iload 4, 0), (76, .iconst 0, 16), (78, .if_icmp .ge 56, 0), (81, .iload 4, 0), (83, .lconst 1, 0), (84, .iadd, 0), (85, .istore 4, 0), (87, .goto 36, 0), (90, .iload 1, 0), (91, .ifCond .ne 60, 0), (94, .iload 4, 0), (96, .goto 71, 0), (99, .iload 1, 0), (100, .lconst 1, 0), (101, .if_icmp .ne 70, 0), (104, .aload 0, 0), (105, .iload 2, 0), (106, .invokeinterface 192 194, 0), (109, .lconst 1, 0), (110, .if_icmp .ne 70, 0), (113, .iload 4, 0), (115, .goto 71, 0), (118, .iconst 0, (-1)), (119, .ireturn, 0)]
noncomputable def F_R_missing_35 : Nat → Int32 → Int32 → Int32 → Int32 → Mem → Option (Int32 × Mem)
  | 0, _, _, _, _, _ => none
  | n + 1, x1, x2, x3, x4, s =>
    if x1 = 0 then
      (F_R_has x3 x4 s).bind fun z1 =>
      if z1.1 = 0 then
        if x1 = 0 then
          some (x4, z1.2)
        else
        if x1 = 1 then
          (F_R_onesOf x2 z1.2).bind fun z2 =>
          if z2.1 = 1 then
            some (x4, z2.2)
          else
          some ((-1), z2.2)
        else
        some ((-1), z1.2)
      else
      if 16 ≤ x4 then
        if x1 = 0 then
          some (x4, z1.2)
        else
        if x1 = 1 then
          (F_R_onesOf x2 z1.2).bind fun z3 =>
          if z3.1 = 1 then
            some (x4, z3.2)
          else
          some ((-1), z3.2)
        else
        some ((-1), z1.2)
      else
      F_R_missing_35 n x1 x2 x3 (x4 + 1) z1.2
    else
    (F_R_has (x2 ^^^ (-1)) x4 s).bind fun z4 =>
    if z4.1 = 0 then
      if x1 = 0 then
        some (x4, z4.2)
      else
      if x1 = 1 then
        (F_R_onesOf x2 z4.2).bind fun z5 =>
        if z5.1 = 1 then
          some (x4, z5.2)
        else
        some ((-1), z5.2)
      else
      some ((-1), z4.2)
    else
    if 16 ≤ x4 then
      if x1 = 0 then
        some (x4, z4.2)
      else
      if x1 = 1 then
        (F_R_onesOf x2 z4.2).bind fun z6 =>
        if z6.1 = 1 then
          some (x4, z6.2)
        else
        some ((-1), z6.2)
      else
      some ((-1), z4.2)
    else
    F_R_missing_35 n x1 x2 x3 (x4 + 1) z4.2
noncomputable def F_R_missing_9 : Nat → Int32 → Int32 → Int32 → Int32 → Mem → Option (Int32 × Mem)
  | 0, _, _, _, _, _ => none
  | n + 1, x1, x2, x3, x4, s =>
    if (s 123 55) ≤ x4 then
      F_R_missing_35 gF x1 x2 x3 0 s
    else
    (ld s 153 x4).bind fun v1 =>
    (ld s 153 x4).bind fun v2 =>
    F_R_missing_9 n x1 (x2 ^^^ (shl 1 v1)) (x3 ||| (shl 1 v2)) (x4 + 1) s
noncomputable def F_R_missing (x1 : Int32) (s : Mem) : Option (Int32 × Mem) :=
  let s1 : Mem := mw s 123 0 0
  F_R_missing_9 gF x1 0 0 0 s1
def A_R_missing_9 (f : Int32 → Int32 → Int32 → Int32 → Mem → Option (Int32 × Mem)) (ls : List (Option Value)) (s : Mem) : Option (Int32 × Mem) := match lk ls 0, lk ls 1, lk ls 2, lk ls 3, lk ls 4 with
  | some (.ref a0), some (.int a1), some (.int a2), some (.int a3), some (.int a4) => cbr (Nat.beq a0 123) (f a1 a2 a3 a4 s) none
  | _, _, _, _, _ => none
def A_R_missing_35 (f : Int32 → Int32 → Int32 → Int32 → Mem → Option (Int32 × Mem)) (ls : List (Option Value)) (s : Mem) : Option (Int32 × Mem) := match lk ls 0, lk ls 1, lk ls 2, lk ls 3, lk ls 4 with
  | some (.ref a0), some (.int a1), some (.int a2), some (.int a3), some (.int a4) => cbr (Nat.beq a0 123) (f a1 a2 a3 a4 s) none
  | _, _, _, _, _ => none
noncomputable def A_R_missing (av : List Value) (s : Mem) : Option (Int32 × Mem) := match av with
  | [.ref a0, .int a1] => cbr (Nat.beq a0 123) (F_R_missing a1 s) none
  | _ => none
noncomputable def C_R_missing (k : Nat) (av : List Value) (s : Mem) : Option (Int32 × Mem) := cbr (Nat.beq k 193) (A_R_has av s) (cbr (Nat.beq k 192) (A_R_onesOf av s) (none))
set_option maxRecDepth 100000 in
theorem e_R_missing_35  (n : Nat) (x1 : Int32) (x2 : Int32) (x3 : Int32) (x4 : Int32) (s : Mem) : F_R_missing_35 (n + 1) x1 x2 x3 x4 s = xs C_R_missing (fun k ls s => cbr (Nat.beq k 1) (A_R_missing_35 (F_R_missing_35 n) ls s) (none)) 0 (fun _ => 0) K_R_missing 700 (K_R_missing.drop 37) [some (.ref 123), some (.int x1), some (.int x2), some (.int x3), some (.int x4)] [] s := rfl
set_option maxRecDepth 100000 in
theorem e_R_missing_9  (n : Nat) (x1 : Int32) (x2 : Int32) (x3 : Int32) (x4 : Int32) (s : Mem) : F_R_missing_9 (n + 1) x1 x2 x3 x4 s = xs C_R_missing (fun k ls s => cbr (Nat.beq k 0) (A_R_missing_9 (F_R_missing_9 n) ls s) (cbr (Nat.beq k 1) (A_R_missing_35 (F_R_missing_35 gF) ls s) (none))) 0 (fun _ => 0) K_R_missing 700 (K_R_missing.drop 10) [some (.ref 123), some (.int x1), some (.int x2), some (.int x3), some (.int x4)] [] s := rfl
set_option maxRecDepth 100000 in
theorem e_R_missing (x1 : Int32) (s : Mem) : F_R_missing x1 s = xs C_R_missing (fun k ls s => cbr (Nat.beq k 0) (A_R_missing_9 (F_R_missing_9 gF) ls s) (none)) 0 (fun _ => 0) K_R_missing 700 K_R_missing [some (.ref 123), some (.int x1), none, none, none] [] s := rfl
def K_R_length : MC := [(0, .aload 0, 0), (1, .lconst 0, 0), (2, .putfield 1100, 0), (5, .iload 1, 0), (6, .iconst 0, (-1)), (7, .if_icmp .ne 11, 0), (10, .aload 0, 0), (11, .lconst 0, 0), (12, .putfield 1157, 0), (15, .lconst 0, 0), (16, .ireturn, 0), (17, .aload 0, 0), (18, .iload 1, 0), (19, .lconst 1, 0), (20, .iconst 0, 60), (22, .invokeinterface 187 196, 0), (25, .ifCond .eq 21, 0), (28, .aload 0, 0), (29, .getfield 1157, 0), (32, .iconst 0, 7), (34, .if_icmp .ne 23, 0), (37, .iconst 0, (-1)), (38, .ireturn, 0), (39, .aload 0, 0), (40, .getstatic 1158, 0), (43, .aload 0, 0), (44, .getfield 1157, 0), (47, .iload 1, 0), (48, .iastore, 0), (49, .aload 0, 0), (50, .aload 0, 0), (51, .getfield 1157, 0), (54, .lconst 1, 0), (55, .iadd, 0), (56, .putfield 1157, 0), (59, .aload 0, 0), (60, .getfield 1157, 0), (63, .ireturn, 0)]
noncomputable def F_R_length (x1 : Int32) (s : Mem) : Option (Int32 × Mem) :=
  let s1 : Mem := mw s 123 0 0
  if x1 = (-1) then
    let s2 : Mem := mw s1 123 57 0
    some (0, s2)
  else
  (F_R_isIn x1 1 60 s1).bind fun z3 =>
  if z3.1 = 0 then
    some ((-1), z3.2)
  else
  if (z3.2 123 57) = 7 then
    some ((-1), z3.2)
  else
  (sd z3.2 154 (z3.2 123 57) x1).bind fun s4 =>
  let s5 : Mem := mw s4 123 57 ((s4 123 57) + 1)
  some ((s5 123 57), s5)
noncomputable def A_R_length (av : List Value) (s : Mem) : Option (Int32 × Mem) := match av with
  | [.ref a0, .int a1] => cbr (Nat.beq a0 123) (F_R_length a1 s) none
  | _ => none
noncomputable def C_R_length (k : Nat) (av : List Value) (s : Mem) : Option (Int32 × Mem) := cbr (Nat.beq k 187) (A_R_isIn av s) (none)
set_option maxRecDepth 100000 in
theorem e_R_length (x1 : Int32) (s : Mem) : F_R_length x1 s = xs C_R_length (fun k ls s => none) 0 (fun _ => 0) K_R_length 700 K_R_length [some (.ref 123), some (.int x1)] [] s := rfl
def K_R_usedOf : MC := [(0, .aload 0, 0), (1, .iload 1, 0), (2, .invokeinterface 192 194, 0), (5, .lconst 1, 0), (6, .isub, 0), (7, .istore 2, 0), (8, .lconst 0, 0), (9, .istore 3, 0), (10, .ret 0, 0), (10, .iload 3, 0), (11, .aload 0, 0), (12, .getfield 1157, 0), (15, .if_icmp .ge 27, 0), (18, .aload 0, 0), (19, .iload 1, 0), (20, .iload 3, 0), (21, .invokeinterface 193 195, 0), (24, .ifCond .eq 25, 0), (27, .iload 2, 0), (28, .aload 0, 0), (29, .getstatic 1158, 0), (32, .iload 3, 0), (33, .iaload, 0), (34, .iadd, 0), (35, .istore 2, 0), (36, .iinc 3 0, 1), (39, .goto 8, 0), (42, .iload 2, 0), (43, .ireturn, 0)]
noncomputable def F_R_usedOf_8 : Nat → Int32 → Int32 → Int32 → Mem → Option (Int32 × Mem)
  | 0, _, _, _, _ => none
  | n + 1, x1, x2, x3, s =>
    if (s 123 57) ≤ x3 then
      some (x2, s)
    else
    (F_R_has x1 x3 s).bind fun z1 =>
    if z1.1 = 0 then
      F_R_usedOf_8 n x1 x2 (x3 + 1) z1.2
    else
    (ld z1.2 154 x3).bind fun v2 =>
    F_R_usedOf_8 n x1 (x2 + v2) (x3 + 1) z1.2
noncomputable def F_R_usedOf (x1 : Int32) (s : Mem) : Option (Int32 × Mem) :=
  (F_R_onesOf x1 s).bind fun z1 =>
  F_R_usedOf_8 gF x1 (z1.1 - 1) 0 z1.2
def A_R_usedOf_8 (f : Int32 → Int32 → Int32 → Mem → Option (Int32 × Mem)) (ls : List (Option Value)) (s : Mem) : Option (Int32 × Mem) := match lk ls 0, lk ls 1, lk ls 2, lk ls 3 with
  | some (.ref a0), some (.int a1), some (.int a2), some (.int a3) => cbr (Nat.beq a0 123) (f a1 a2 a3 s) none
  | _, _, _, _ => none
noncomputable def A_R_usedOf (av : List Value) (s : Mem) : Option (Int32 × Mem) := match av with
  | [.ref a0, .int a1] => cbr (Nat.beq a0 123) (F_R_usedOf a1 s) none
  | _ => none
noncomputable def C_R_usedOf (k : Nat) (av : List Value) (s : Mem) : Option (Int32 × Mem) := cbr (Nat.beq k 192) (A_R_onesOf av s) (cbr (Nat.beq k 193) (A_R_has av s) (none))
set_option maxRecDepth 100000 in
theorem e_R_usedOf_8  (n : Nat) (x1 : Int32) (x2 : Int32) (x3 : Int32) (s : Mem) : F_R_usedOf_8 (n + 1) x1 x2 x3 s = xs C_R_usedOf (fun k ls s => cbr (Nat.beq k 0) (A_R_usedOf_8 (F_R_usedOf_8 n) ls s) (none)) 0 (fun _ => 0) K_R_usedOf 700 (K_R_usedOf.drop 9) [some (.ref 123), some (.int x1), some (.int x2), some (.int x3)] [] s := rfl
set_option maxRecDepth 100000 in
theorem e_R_usedOf (x1 : Int32) (s : Mem) : F_R_usedOf x1 s = xs C_R_usedOf (fun k ls s => cbr (Nat.beq k 0) (A_R_usedOf_8 (F_R_usedOf_8 gF) ls s) (none)) 0 (fun _ => 0) K_R_usedOf 700 K_R_usedOf [some (.ref 123), some (.int x1), none, none] [] s := rfl
def K_R_findsRolls : MC := [(0, .aload 0, 0), (1, .getstatic 1160, 0), (4, .lconst 0, 0), (5, .lconst 0, 0), (6, .iastore, 0), (7, .lconst 1, 0), (8, .istore 2, 0), (9, .ret 0, 0), (9, .iload 2, 0), (10, .lconst 1, 0), (11, .aload 0, 0), (12, .getfield 1157, 0), (15, .ishl, 0), (16, .if_icmp .ge 66, 0), (19, .aload 0, 0), (20, .getstatic 1159, 0), (23, .iload 2, 0), (24, .aload 0, 0), (25, .iload 2, 0), (26, .invokeinterface 305 194, 0), (29, .iastore, 0), (30, .aload 0, 0), (31, .getstatic 1160, 0), (34, .iload 2, 0), (35, .iconst 0, 100000000), (38, .iastore, 0), (39, .iload 2, 0), (40, .istore 3, 0), (41, .ret 1, 0), (41, .iload 3, 0), (42, .ifCond .le 64, 0), (45, .aload 0, 0), (46, .getstatic 1159, 0), (49, .iload 3, 0), (50, .iaload, 0), (51, .iload 1, 0), (52, .if_icmp .gt 57, 0), (55, .aload 0, 0), (56, .getstatic 1160, 0), (59, .iload 2, 0), (60, .aload 0, 0), (61, .aload 0, 0), (62, .getstatic 1160, 0), (65, .iload 2, 0), (66, .iaload, 0), (67, .aload 0, 0), (68, .getstatic 1160, 0), (71, .iload 2, 0), (72, .iload 3, 0), (73, .iconst 0, (-1)), (74, .ixor, 0), (75, .iand, 0), (76, .iaload, 0), (77, .lconst 1, 0), (78, .iadd, 0), (79, .invokeinterface 190 195, 0), (82, .iastore, 0), (83, .iload 3, 0), (84, .lconst 1, 0), (85, .isub, 0), (86, .iload 2, 0), (87, .iand, 0), (88, .istore 3, 0), (89, .goto 28, 0), (92, .iinc 2 0, 1), (95, .goto 7, 0), (98, .return_, 0)]
noncomputable def F_R_findsRolls_27 (k7 : Int32 → Int32 → Mem → Option (Int32 × Mem)) : Nat → Int32 → Int32 → Int32 → Mem → Option (Int32 × Mem)
  | 0, _, _, _, _ => none
  | n + 1, x1, x2, x3, s =>
    if x3 ≤ 0 then
      k7 x1 (x2 + 1) s
    else
    (ld s 155 x3).bind fun v1 =>
    if x1 < v1 then
      F_R_findsRolls_27 k7 n x1 x2 ((x3 - 1) &&& x2) s
    else
    (ld s 156 x2).bind fun v2 =>
    (ld s 156 (x2 &&& (x3 ^^^ (-1)))).bind fun v3 =>
    (F_R_lesser v2 (v3 + 1) s).bind fun z4 =>
    (sd z4.2 156 x2 z4.1).bind fun s5 =>
    F_R_findsRolls_27 k7 n x1 x2 ((x3 - 1) &&& x2) s5
noncomputable def F_R_findsRolls_7 : Nat → Int32 → Int32 → Mem → Option (Int32 × Mem)
  | 0, _, _, _ => none
  | n + 1, x1, x2, s =>
    if (shl 1 (s 123 57)) ≤ x2 then
      some (0, s)
    else
    (F_R_usedOf x2 s).bind fun z1 =>
    (sd z1.2 155 x2 z1.1).bind fun s2 =>
    (sd s2 156 x2 100000000).bind fun s3 =>
    F_R_findsRolls_27 (F_R_findsRolls_7 n) gF x1 x2 x2 s3
noncomputable def F_R_findsRolls (x1 : Int32) (s : Mem) : Option (Int32 × Mem) :=
  (sd s 156 0 0).bind fun s1 =>
  F_R_findsRolls_7 gF x1 1 s1
def A_R_findsRolls_7 (f : Int32 → Int32 → Mem → Option (Int32 × Mem)) (ls : List (Option Value)) (s : Mem) : Option (Int32 × Mem) := match lk ls 0, lk ls 1, lk ls 2 with
  | some (.ref a0), some (.int a1), some (.int a2) => cbr (Nat.beq a0 123) (f a1 a2 s) none
  | _, _, _ => none
def A_R_findsRolls_27 (f : Int32 → Int32 → Int32 → Mem → Option (Int32 × Mem)) (ls : List (Option Value)) (s : Mem) : Option (Int32 × Mem) := match lk ls 0, lk ls 1, lk ls 2, lk ls 3 with
  | some (.ref a0), some (.int a1), some (.int a2), some (.int a3) => cbr (Nat.beq a0 123) (f a1 a2 a3 s) none
  | _, _, _, _ => none
noncomputable def A_R_findsRolls (av : List Value) (s : Mem) : Option (Int32 × Mem) := match av with
  | [.ref a0, .int a1] => cbr (Nat.beq a0 123) (F_R_findsRolls a1 s) none
  | _ => none
noncomputable def C_R_findsRolls (k : Nat) (av : List Value) (s : Mem) : Option (Int32 × Mem) := cbr (Nat.beq k 305) (A_R_usedOf av s) (cbr (Nat.beq k 190) (A_R_lesser av s) (none))
set_option maxRecDepth 100000 in
theorem e_R_findsRolls_27 (k7 : Int32 → Int32 → Mem → Option (Int32 × Mem)) (n : Nat) (x1 : Int32) (x2 : Int32) (x3 : Int32) (s : Mem) : F_R_findsRolls_27 k7 (n + 1) x1 x2 x3 s = xs C_R_findsRolls (fun k ls s => cbr (Nat.beq k 0) (A_R_findsRolls_7 (k7) ls s) (cbr (Nat.beq k 1) (A_R_findsRolls_27 (F_R_findsRolls_27 k7 n) ls s) (none))) 0 (fun _ => 0) K_R_findsRolls 700 (K_R_findsRolls.drop 29) [some (.ref 123), some (.int x1), some (.int x2), some (.int x3)] [] s := rfl
set_option maxRecDepth 100000 in
theorem e_R_findsRolls_7  (n : Nat) (x1 : Int32) (x2 : Int32) (s : Mem) : F_R_findsRolls_7 (n + 1) x1 x2 s = xs C_R_findsRolls (fun k ls s => cbr (Nat.beq k 1) (A_R_findsRolls_27 (F_R_findsRolls_27 (F_R_findsRolls_7 n) gF) ls s) (none)) 0 (fun _ => 0) K_R_findsRolls 700 (K_R_findsRolls.drop 8) [some (.ref 123), some (.int x1), some (.int x2), none] [] s := rfl
set_option maxRecDepth 100000 in
theorem e_R_findsRolls (x1 : Int32) (s : Mem) : F_R_findsRolls x1 s = xs C_R_findsRolls (fun k ls s => cbr (Nat.beq k 0) (A_R_findsRolls_7 (F_R_findsRolls_7 gF) ls s) (none)) 0 (fun _ => 0) K_R_findsRolls 700 K_R_findsRolls [some (.ref 123), some (.int x1), none, none] [] s := rfl
def K_R_runner : MC := [(0, .aload 0, 0), (1, .lconst 0, 0), (2, .putfield 1100, 0), (5, .aload 0, 0), (6, .iload 1, 0), (7, .lconst 1, 0), (8, .iconst 0, 120), (10, .invokeinterface 187 196, 0), (13, .ifCond .eq 15, 0), (16, .aload 0, 0), (17, .iload 2, 0), (18, .lconst 0, 0), (19, .lconst 1, 0), (20, .invokeinterface 187 196, 0), (23, .ifCond .ne 17, 0), (26, .iconst 0, (-1)), (27, .ireturn, 0), (28, .aload 0, 0), (29, .getfield 1157, 0), (32, .ifCond .ne 22, 0), (35, .lconst 0, 0), (36, .ireturn, 0), (37, .aload 0, 0), (38, .iload 1, 0), (39, .multianewarray 306 194, 0), (42, .lconst 1, 0), (43, .aload 0, 0), (44, .getfield 1157, 0), (47, .ishl, 0), (48, .lconst 1, 0), (49, .isub, 0), (50, .istore 3, 0), (51, .aload 0, 0), (52, .getstatic 1160, 0), (55, .iload 3, 0), (56, .iaload, 0), (57, .iconst 0, 100000000), (60, .if_icmp .lt 40, 0), (63, .iconst 0, (-1)), (64, .ireturn, 0), (65, .iload 2, 0), (66, .ifCond .ne 47, 0), (69, .aload 0, 0), (70, .getstatic 1160, 0), (73, .iload 3, 0), (74, .iaload, 0), (75, .ireturn, 0), (76, .lconst 0, 0), (77, .istore 4, 0), (79, .lconst 1, 0), (80, .istore 5, 0), (82, .ret 0, 0), (82, .iload 5, 0), (84, .iload 3, 0), (85, .if_icmp .gt 88, 0), (88, .aload 0, 0), (89, .getstatic 1159, 0), (92, .iload 5, 0), (94, .iaload, 0), (95, .iload 1, 0), (96, .if_icmp .gt 86, 0), (99, .aload 0, 0), (100, .getstatic 1160, 0), (103, .iload 3, 0), (104, .iload 5, 0), (106, .iconst 0, (-1)), (107, .ixor, 0), (108, .iand, 0), (109, .iaload, 0), (110, .lconst 1, 0), (111, .iadd, 0), (112, .aload 0, 0), (113, .getstatic 1160, 0), (116, .iload 3, 0), (117, .iaload, 0), (118, .if_icmp .ne 86, 0), (121, .aload 0, 0), (122, .iload 4, 0), (124, .iload 1, 0), (125, .aload 0, 0), (126, .getstatic 1159, 0), (129, .iload 5, 0), (131, .iaload, 0), (132, .isub, 0), (133, .invokeinterface 189 195, 0), (136, .istore 4, 0), (138, .iinc 5 0, 1), (141, .goto 51, 0), (144, .iload 4, 0), (146, .ireturn, 0)]
noncomputable def F_R_runner_51 : Nat → Int32 → Int32 → Int32 → Int32 → Mem → Option (Int32 × Mem)
  | 0, _, _, _, _, _ => none
  | n + 1, x1, x3, x4, x5, s =>
    if x3 < x5 then
      some (x4, s)
    else
    (ld s 155 x5).bind fun v1 =>
    if x1 < v1 then
      F_R_runner_51 n x1 x3 x4 (x5 + 1) s
    else
    (ld s 156 (x3 &&& (x5 ^^^ (-1)))).bind fun v2 =>
    (ld s 156 x3).bind fun v3 =>
    if (v2 + 1) = v3 then
      (ld s 155 x5).bind fun v4 =>
      (F_R_greater x4 (x1 - v4) s).bind fun z5 =>
      F_R_runner_51 n x1 x3 z5.1 (x5 + 1) z5.2
    else
    F_R_runner_51 n x1 x3 x4 (x5 + 1) s
noncomputable def F_R_runner (x1 : Int32) (x2 : Int32) (s : Mem) : Option (Int32 × Mem) :=
  let s1 : Mem := mw s 123 0 0
  (F_R_isIn x1 1 120 s1).bind fun z2 =>
  if z2.1 = 0 then
    some ((-1), z2.2)
  else
  (F_R_isIn x2 0 1 z2.2).bind fun z3 =>
  if z3.1 = 0 then
    some ((-1), z3.2)
  else
  if (z3.2 123 57) = 0 then
    some (0, z3.2)
  else
  (F_R_findsRolls x1 z3.2).bind fun z4 =>
  let y5 : Int32 := ((shl 1 (z4.2 123 57)) - 1)
  (ld z4.2 156 y5).bind fun v6 =>
  if v6 < 100000000 then
    if x2 = 0 then
      (ld z4.2 156 y5).bind fun v7 =>
      some (v7, z4.2)
    else
    F_R_runner_51 gF x1 y5 0 1 z4.2
  else
  some ((-1), z4.2)
def A_R_runner_51 (f : Int32 → Int32 → Int32 → Int32 → Mem → Option (Int32 × Mem)) (ls : List (Option Value)) (s : Mem) : Option (Int32 × Mem) := match lk ls 0, lk ls 1, lk ls 3, lk ls 4, lk ls 5 with
  | some (.ref a0), some (.int a1), some (.int a2), some (.int a3), some (.int a4) => cbr (Nat.beq a0 123) (f a1 a2 a3 a4 s) none
  | _, _, _, _, _ => none
noncomputable def A_R_runner (av : List Value) (s : Mem) : Option (Int32 × Mem) := match av with
  | [.ref a0, .int a1, .int a2] => cbr (Nat.beq a0 123) (F_R_runner a1 a2 s) none
  | _ => none
noncomputable def C_R_runner (k : Nat) (av : List Value) (s : Mem) : Option (Int32 × Mem) := cbr (Nat.beq k 187) (A_R_isIn av s) (cbr (Nat.beq k 306) (A_R_findsRolls av s) (cbr (Nat.beq k 189) (A_R_greater av s) (none)))
set_option maxRecDepth 100000 in
theorem e_R_runner_51  (n : Nat) (x1 : Int32) (x3 : Int32) (x4 : Int32) (x5 : Int32) (s : Mem) : F_R_runner_51 (n + 1) x1 x3 x4 x5 s = xs C_R_runner (fun k ls s => cbr (Nat.beq k 0) (A_R_runner_51 (F_R_runner_51 n) ls s) (none)) 0 (fun _ => 0) K_R_runner 700 (K_R_runner.drop 52) [some (.ref 123), some (.int x1), none, some (.int x3), some (.int x4), some (.int x5)] [] s := rfl
set_option maxRecDepth 100000 in
theorem e_R_runner (x1 : Int32) (x2 : Int32) (s : Mem) : F_R_runner x1 x2 s = xs C_R_runner (fun k ls s => cbr (Nat.beq k 0) (A_R_runner_51 (F_R_runner_51 gF) ls s) (none)) 0 (fun _ => 0) K_R_runner 700 K_R_runner [some (.ref 123), some (.int x1), some (.int x2), none, none, none] [] s := rfl
def K_R_wall : MC := [(0, .aload 0, 0), (1, .lconst 0, 0), (2, .putfield 1100, 0), (5, .iload 1, 0), (6, .iconst 0, (-1)), (7, .if_icmp .ne 11, 0), (10, .aload 0, 0), (11, .lconst 0, 0), (12, .putfield 1161, 0), (15, .lconst 0, 0), (16, .ireturn, 0), (17, .aload 0, 0), (18, .iload 1, 0), (19, .lconst 0, 0), (20, .iconst 0, 99), (22, .invokeinterface 187 196, 0), (25, .ifCond .eq 21, 0), (28, .aload 0, 0), (29, .getfield 1161, 0), (32, .iconst 0, 8), (34, .if_icmp .ne 23, 0), (37, .iconst 0, (-1)), (38, .ireturn, 0), (39, .aload 0, 0), (40, .getstatic 1162, 0), (43, .aload 0, 0), (44, .getfield 1161, 0), (47, .iload 1, 0), (48, .iastore, 0), (49, .aload 0, 0), (50, .aload 0, 0), (51, .getfield 1161, 0), (54, .lconst 1, 0), (55, .iadd, 0), (56, .putfield 1161, 0), (59, .aload 0, 0), (60, .getfield 1161, 0), (63, .ireturn, 0)]
noncomputable def F_R_wall (x1 : Int32) (s : Mem) : Option (Int32 × Mem) :=
  let s1 : Mem := mw s 123 0 0
  if x1 = (-1) then
    let s2 : Mem := mw s1 123 61 0
    some (0, s2)
  else
  (F_R_isIn x1 0 99 s1).bind fun z3 =>
  if z3.1 = 0 then
    some ((-1), z3.2)
  else
  if (z3.2 123 61) = 8 then
    some ((-1), z3.2)
  else
  (sd z3.2 157 (z3.2 123 61) x1).bind fun s4 =>
  let s5 : Mem := mw s4 123 61 ((s4 123 61) + 1)
  some ((s5 123 61), s5)
noncomputable def A_R_wall (av : List Value) (s : Mem) : Option (Int32 × Mem) := match av with
  | [.ref a0, .int a1] => cbr (Nat.beq a0 123) (F_R_wall a1 s) none
  | _ => none
noncomputable def C_R_wall (k : Nat) (av : List Value) (s : Mem) : Option (Int32 × Mem) := cbr (Nat.beq k 187) (A_R_isIn av s) (none)
set_option maxRecDepth 100000 in
theorem e_R_wall (x1 : Int32) (s : Mem) : F_R_wall x1 s = xs C_R_wall (fun k ls s => none) 0 (fun _ => 0) K_R_wall 700 K_R_wall [some (.ref 123), some (.int x1)] [] s := rfl
def K_R_ramp : MC := [(0, .aload 0, 0), (1, .lconst 0, 0), (2, .putfield 1100, 0), (5, .aload 0, 0), (6, .iload 1, 0), (7, .lconst 1, 0), (8, .iconst 0, 9), (10, .invokeinterface 187 196, 0), (13, .ifCond .eq 15, 0), (16, .aload 0, 0), (17, .iload 2, 0), (18, .lconst 0, 0), (19, .iconst 0, 99), (21, .invokeinterface 187 196, 0), (24, .ifCond .ne 17, 0), (27, .iconst 0, (-1)), (28, .ireturn, 0), (29, .lconst 0, 0), (30, .istore 3, 0), (31, .ret 0, 0), (31, .iload 3, 0), (32, .aload 0, 0), (33, .getfield 1161, 0), (36, .if_icmp .ge 44, 0), (39, .aload 0, 0), (40, .getstatic 1162, 0), (43, .iload 3, 0), (44, .iaload, 0), (45, .iload 2, 0), (46, .if_icmp .gt 40, 0), (49, .aload 0, 0), (50, .getstatic 1162, 0), (53, .iload 3, 0), (54, .iaload, 0), (55, .iload 1, 0), (56, .iload 3, 0), (57, .lconst 1, 0), (58, .iadd, 0), (59, .imul, 0), (60, .if_icmp .le 42, 0), (63, .iconst 0, (-1)), (64, .ireturn, 0), (65, .iinc 3 0, 1), (68, .goto 19, 0), (71, .aload 0, 0), (72, .aload 0, 0), (73, .getfield 1161, 0), (76, .iload 2, 0), (77, .iload 1, 0), (78, .iadd, 0), (79, .lconst 1, 0), (80, .isub, 0), (81, .iload 1, 0), (82, .idiv, 0), (83, .invokeinterface 189 195, 0), (86, .ireturn, 0)]
noncomputable def F_R_ramp_19 : Nat → Int32 → Int32 → Int32 → Mem → Option (Int32 × Mem)
  | 0, _, _, _, _ => none
  | n + 1, x1, x2, x3, s =>
    if (s 123 61) ≤ x3 then
      if x1 = 0 then none else
      (F_R_greater (s 123 61) (((x2 + x1) - 1) / x1) s).bind fun z1 =>
      some (z1.1, z1.2)
    else
    (ld s 157 x3).bind fun v2 =>
    if x2 < v2 then
      some ((-1), s)
    else
    (ld s 157 x3).bind fun v3 =>
    if v3 ≤ (x1 * (x3 + 1)) then
      F_R_ramp_19 n x1 x2 (x3 + 1) s
    else
    some ((-1), s)
noncomputable def F_R_ramp (x1 : Int32) (x2 : Int32) (s : Mem) : Option (Int32 × Mem) :=
  let s1 : Mem := mw s 123 0 0
  (F_R_isIn x1 1 9 s1).bind fun z2 =>
  if z2.1 = 0 then
    some ((-1), z2.2)
  else
  (F_R_isIn x2 0 99 z2.2).bind fun z3 =>
  if z3.1 = 0 then
    some ((-1), z3.2)
  else
  F_R_ramp_19 gF x1 x2 0 z3.2
def A_R_ramp_19 (f : Int32 → Int32 → Int32 → Mem → Option (Int32 × Mem)) (ls : List (Option Value)) (s : Mem) : Option (Int32 × Mem) := match lk ls 0, lk ls 1, lk ls 2, lk ls 3 with
  | some (.ref a0), some (.int a1), some (.int a2), some (.int a3) => cbr (Nat.beq a0 123) (f a1 a2 a3 s) none
  | _, _, _, _ => none
noncomputable def A_R_ramp (av : List Value) (s : Mem) : Option (Int32 × Mem) := match av with
  | [.ref a0, .int a1, .int a2] => cbr (Nat.beq a0 123) (F_R_ramp a1 a2 s) none
  | _ => none
noncomputable def C_R_ramp (k : Nat) (av : List Value) (s : Mem) : Option (Int32 × Mem) := cbr (Nat.beq k 187) (A_R_isIn av s) (cbr (Nat.beq k 189) (A_R_greater av s) (none))
set_option maxRecDepth 100000 in
theorem e_R_ramp_19  (n : Nat) (x1 : Int32) (x2 : Int32) (x3 : Int32) (s : Mem) : F_R_ramp_19 (n + 1) x1 x2 x3 s = xs C_R_ramp (fun k ls s => cbr (Nat.beq k 0) (A_R_ramp_19 (F_R_ramp_19 n) ls s) (none)) 0 (fun _ => 0) K_R_ramp 700 (K_R_ramp.drop 20) [some (.ref 123), some (.int x1), some (.int x2), some (.int x3)] [] s := rfl
set_option maxRecDepth 100000 in
theorem e_R_ramp (x1 : Int32) (x2 : Int32) (s : Mem) : F_R_ramp x1 x2 s = xs C_R_ramp (fun k ls s => cbr (Nat.beq k 0) (A_R_ramp_19 (F_R_ramp_19 gF) ls s) (none)) 0 (fun _ => 0) K_R_ramp 700 K_R_ramp [some (.ref 123), some (.int x1), some (.int x2), none] [] s := rfl
def K_R_box : MC := [(0, .aload 0, 0), (1, .lconst 0, 0), (2, .putfield 1100, 0), (5, .aload 0, 0), (6, .getstatic 1163, 0), (9, .lconst 0, 0), (10, .iload 1, 0), (11, .iconst 0, 10000), (14, .ldiv, 0), (15, .iastore, 0), (16, .aload 0, 0), (17, .getstatic 1163, 0), (20, .lconst 1, 0), (21, .iload 1, 0), (22, .iconst 0, 100), (24, .ldiv, 0), (25, .iconst 0, 100), (27, .lrem, 0), (28, .iastore, 0), (29, .aload 0, 0), (30, .getstatic 1163, 0), (33, .iconst 0, 2), (34, .iload 1, 0), (35, .iconst 0, 100), (37, .lrem, 0), (38, .iastore, 0), (39, .iload 2, 0), (40, .iconst 0, 100), (42, .ldiv, 0), (43, .istore 4, 0), (45, .iload 2, 0), (46, .iconst 0, 100), (48, .lrem, 0), (49, .istore 5, 0), (51, .aload 0, 0), (52, .iload 1, 0), (53, .lconst 0, 0), (54, .iconst 0, 999999), (57, .invokeinterface 187 196, 0), (60, .ifCond .eq 71, 0), (63, .aload 0, 0), (64, .iload 2, 0), (65, .lconst 0, 0), (66, .iconst 0, 9999), (69, .invokeinterface 187 196, 0), (72, .ifCond .eq 71, 0), (75, .aload 0, 0), (76, .getstatic 1163, 0), (79, .lconst 0, 0), (80, .iaload, 0), (81, .aload 0, 0), (82, .getstatic 1163, 0), (85, .lconst 1, 0), (86, .iaload, 0), (87, .imul, 0), (88, .aload 0, 0), (89, .getstatic 1163, 0), (92, .iconst 0, 2), (93, .iaload, 0), (94, .imul, 0), (95, .iload 4, 0), (97, .imul, 0), (98, .iload 5, 0), (100, .imul, 0), (101, .ifCond .eq 71, 0), (104, .aload 0, 0), (105, .iload 3, 0), (106, .lconst 0, 0), (107, .lconst 1, 0), (108, .invokeinterface 187 196, 0), (111, .ifCond .ne 73, 0), (114, .iconst 0, (-1)), (115, .ireturn, 0), (116, .lconst 0, 0), (117, .istore 6, 0), (119, .lconst 0, 0), (120, .istore 7, 0), (122, .ret 0, 0), (122, .iload 7, 0), (124, .iconst 0, 3), (125, .if_icmp .ge 110, 0), (128, .lconst 0, 0), (129, .istore 8, 0), (131, .ret 1, 0), (131, .iload 8, 0), (133, .iconst 0, 3), (134, .if_icmp .ge 108, 0), (137, .iload 7, 0), (139, .iload 8, 0), (141, .if_icmp .eq 106, 0), (144, .aload 0, 0), (145, .getstatic 1163, 0), (148, .iload 7, 0), (150, .iaload, 0), (151, .iload 4, 0), (153, .if_icmp .gt 106, 0), (156, .aload 0, 0), (157, .getstatic 1163, 0), (160, .iload 8, 0), (162, .iaload, 0), (163, .iload 5, 0), (165, .if_icmp .gt 106, 0), (168, .iload 6, 0), (170, .lconst 1, 0), (171, .iadd, 0), (172, .istore 6, 0), (174, .iinc 8 0, 1), (177, .goto 83, 0), (180, .iinc 7 0, 1), (183, .goto 77, 0), (186, .iload 3, 0), (187, .lconst 1, 0), (188, .if_icmp .ne 115, 0), (191, .iload 6, 0), (193, .goto 120, 0), (196, .iload 6, 0), (198, .ifCond .le 119, 0), (201, .lconst 1, 0), (202, .goto 120, 0), (205, .lconst 0, 0), (206, .ireturn, 0)]
noncomputable def F_R_box_82 (k77 : Int32 → Int32 → Int32 → Int32 → Int32 → Mem → Option (Int32 × Mem)) : Nat → Int32 → Int32 → Int32 → Int32 → Int32 → Int32 → Mem → Option (Int32 × Mem)
  | 0, _, _, _, _, _, _, _ => none
  | n + 1, x3, x4, x5, x6, x7, x8, s =>
    if 3 ≤ x8 then
      k77 x3 x4 x5 x6 (x7 + 1) s
    else
    if x7 = x8 then
      F_R_box_82 k77 n x3 x4 x5 x6 x7 (x8 + 1) s
    else
    (ld s 158 x7).bind fun v1 =>
    if x4 < v1 then
      F_R_box_82 k77 n x3 x4 x5 x6 x7 (x8 + 1) s
    else
    (ld s 158 x8).bind fun v2 =>
    if x5 < v2 then
      F_R_box_82 k77 n x3 x4 x5 x6 x7 (x8 + 1) s
    else
    F_R_box_82 k77 n x3 x4 x5 (x6 + 1) x7 (x8 + 1) s
noncomputable def F_R_box_77 : Nat → Int32 → Int32 → Int32 → Int32 → Int32 → Mem → Option (Int32 × Mem)
  | 0, _, _, _, _, _, _ => none
  | n + 1, x3, x4, x5, x6, x7, s =>
    if 3 ≤ x7 then
      if x3 = 1 then
        some (x6, s)
      else
      if x6 ≤ 0 then
        some (0, s)
      else
      some (1, s)
    else
    F_R_box_82 (F_R_box_77 n) gF x3 x4 x5 x6 x7 0 s
noncomputable def F_R_box (x1 : Int32) (x2 : Int32) (x3 : Int32) (s : Mem) : Option (Int32 × Mem) :=
  let s1 : Mem := mw s 123 0 0
  (sd s1 158 0 (x1 / 10000)).bind fun s2 =>
  (sd s2 158 1 (irm (x1 / 100) 100)).bind fun s3 =>
  (sd s3 158 2 (irm x1 100)).bind fun s4 =>
  (F_R_isIn x1 0 999999 s4).bind fun z5 =>
  if z5.1 = 0 then
    some ((-1), z5.2)
  else
  (F_R_isIn x2 0 9999 z5.2).bind fun z6 =>
  if z6.1 = 0 then
    some ((-1), z6.2)
  else
  (ld z6.2 158 0).bind fun v7 =>
  (ld z6.2 158 1).bind fun v8 =>
  (ld z6.2 158 2).bind fun v9 =>
  if ((((v7 * v8) * v9) * (x2 / 100)) * (irm x2 100)) = 0 then
    some ((-1), z6.2)
  else
  (F_R_isIn x3 0 1 z6.2).bind fun z10 =>
  if z10.1 = 0 then
    some ((-1), z10.2)
  else
  F_R_box_77 gF x3 (x2 / 100) (irm x2 100) 0 0 z10.2
def A_R_box_77 (f : Int32 → Int32 → Int32 → Int32 → Int32 → Mem → Option (Int32 × Mem)) (ls : List (Option Value)) (s : Mem) : Option (Int32 × Mem) := match lk ls 0, lk ls 3, lk ls 4, lk ls 5, lk ls 6, lk ls 7 with
  | some (.ref a0), some (.int a1), some (.int a2), some (.int a3), some (.int a4), some (.int a5) => cbr (Nat.beq a0 123) (f a1 a2 a3 a4 a5 s) none
  | _, _, _, _, _, _ => none
def A_R_box_82 (f : Int32 → Int32 → Int32 → Int32 → Int32 → Int32 → Mem → Option (Int32 × Mem)) (ls : List (Option Value)) (s : Mem) : Option (Int32 × Mem) := match lk ls 0, lk ls 3, lk ls 4, lk ls 5, lk ls 6, lk ls 7, lk ls 8 with
  | some (.ref a0), some (.int a1), some (.int a2), some (.int a3), some (.int a4), some (.int a5), some (.int a6) => cbr (Nat.beq a0 123) (f a1 a2 a3 a4 a5 a6 s) none
  | _, _, _, _, _, _, _ => none
noncomputable def A_R_box (av : List Value) (s : Mem) : Option (Int32 × Mem) := match av with
  | [.ref a0, .int a1, .int a2, .int a3] => cbr (Nat.beq a0 123) (F_R_box a1 a2 a3 s) none
  | _ => none
noncomputable def C_R_box (k : Nat) (av : List Value) (s : Mem) : Option (Int32 × Mem) := cbr (Nat.beq k 187) (A_R_isIn av s) (none)
set_option maxRecDepth 100000 in
theorem e_R_box_82 (k77 : Int32 → Int32 → Int32 → Int32 → Int32 → Mem → Option (Int32 × Mem)) (n : Nat) (x3 : Int32) (x4 : Int32) (x5 : Int32) (x6 : Int32) (x7 : Int32) (x8 : Int32) (s : Mem) : F_R_box_82 k77 (n + 1) x3 x4 x5 x6 x7 x8 s = xs C_R_box (fun k ls s => cbr (Nat.beq k 0) (A_R_box_77 (k77) ls s) (cbr (Nat.beq k 1) (A_R_box_82 (F_R_box_82 k77 n) ls s) (none))) 0 (fun _ => 0) K_R_box 700 (K_R_box.drop 84) [some (.ref 123), none, none, some (.int x3), some (.int x4), some (.int x5), some (.int x6), some (.int x7), some (.int x8)] [] s := rfl
set_option maxRecDepth 100000 in
theorem e_R_box_77  (n : Nat) (x3 : Int32) (x4 : Int32) (x5 : Int32) (x6 : Int32) (x7 : Int32) (s : Mem) : F_R_box_77 (n + 1) x3 x4 x5 x6 x7 s = xs C_R_box (fun k ls s => cbr (Nat.beq k 1) (A_R_box_82 (F_R_box_82 (F_R_box_77 n) gF) ls s) (none)) 0 (fun _ => 0) K_R_box 700 (K_R_box.drop 78) [some (.ref 123), none, none, some (.int x3), some (.int x4), some (.int x5), some (.int x6), some (.int x7), none] [] s := rfl
set_option maxRecDepth 100000 in
theorem e_R_box (x1 : Int32) (x2 : Int32) (x3 : Int32) (s : Mem) : F_R_box x1 x2 x3 s = xs C_R_box (fun k ls s => cbr (Nat.beq k 0) (A_R_box_77 (F_R_box_77 gF) ls s) (none)) 0 (fun _ => 0) K_R_box 700 K_R_box [some (.ref 123), some (.int x1), some (.int x2), some (.int x3), none, none, none, none, none] [] s := rfl
def K_R_digit : MC := [(0, .aload 0, 0), (1, .lconst 0, 0), (2, .putfield 1100, 0), (5, .iload 1, 0), (6, .iconst 0, (-1)), (7, .if_icmp .ne 11, 0), (10, .aload 0, 0), (11, .lconst 0, 0), (12, .putfield 1164, 0), (15, .lconst 0, 0), (16, .ireturn, 0), (17, .aload 0, 0), (18, .iload 1, 0), (19, .lconst 0, 0), (20, .iconst 0, 9), (22, .invokeinterface 187 196, 0), (25, .ifCond .eq 21, 0), (28, .aload 0, 0), (29, .getfield 1164, 0), (32, .iconst 0, 10), (34, .if_icmp .ne 23, 0), (37, .iconst 0, (-1)), (38, .ireturn, 0), (39, .aload 0, 0), (40, .getstatic 1165, 0), (43, .aload 0, 0), (44, .getfield 1164, 0), (47, .iload 1, 0), (48, .iastore, 0), (49, .aload 0, 0), (50, .aload 0, 0), (51, .getfield 1164, 0), (54, .lconst 1, 0), (55, .iadd, 0), (56, .putfield 1164, 0), (59, .aload 0, 0), (60, .getfield 1164, 0), (63, .ireturn, 0)]
noncomputable def F_R_digit (x1 : Int32) (s : Mem) : Option (Int32 × Mem) :=
  let s1 : Mem := mw s 123 0 0
  if x1 = (-1) then
    let s2 : Mem := mw s1 123 64 0
    some (0, s2)
  else
  (F_R_isIn x1 0 9 s1).bind fun z3 =>
  if z3.1 = 0 then
    some ((-1), z3.2)
  else
  if (z3.2 123 64) = 10 then
    some ((-1), z3.2)
  else
  (sd z3.2 159 (z3.2 123 64) x1).bind fun s4 =>
  let s5 : Mem := mw s4 123 64 ((s4 123 64) + 1)
  some ((s5 123 64), s5)
noncomputable def A_R_digit (av : List Value) (s : Mem) : Option (Int32 × Mem) := match av with
  | [.ref a0, .int a1] => cbr (Nat.beq a0 123) (F_R_digit a1 s) none
  | _ => none
noncomputable def C_R_digit (k : Nat) (av : List Value) (s : Mem) : Option (Int32 × Mem) := cbr (Nat.beq k 187) (A_R_isIn av s) (none)
set_option maxRecDepth 100000 in
theorem e_R_digit (x1 : Int32) (s : Mem) : F_R_digit x1 s = xs C_R_digit (fun k ls s => none) 0 (fun _ => 0) K_R_digit 700 K_R_digit [some (.ref 123), some (.int x1)] [] s := rfl
def K_R_rowsOf : MC := [(0, .lconst 1, 0), (1, .istore 1, 0), (2, .lconst 0, 0), (3, .istore 2, 0), (4, .lconst 0, 0), (5, .istore 3, 0), (6, .ret 0, 0), (6, .iload 3, 0), (7, .iconst 0, 10), (9, .if_icmp .ge 33, 0), (12, .lconst 1, 0), (13, .istore 4, 0), (15, .ret 1, 0), (15, .iload 4, 0), (17, .aload 0, 0), (18, .getstatic 1167, 0), (21, .iload 3, 0), (22, .iaload, 0), (23, .if_icmp .gt 31, 0), (26, .iload 2, 0), (27, .lconst 1, 0), (28, .iadd, 0), (29, .istore 2, 0), (30, .iload 1, 0), (31, .iload 2, 0), (32, .imul, 0), (33, .iload 4, 0), (35, .idiv, 0), (36, .istore 1, 0), (37, .iinc 4 0, 1), (40, .goto 12, 0), (43, .iinc 3 0, 1), (46, .goto 6, 0), (49, .iload 1, 0), (50, .ireturn, 0)]
noncomputable def F_R_rowsOf_11 (k6 : Int32 → Int32 → Int32 → Mem → Option (Int32 × Mem)) : Nat → Int32 → Int32 → Int32 → Int32 → Mem → Option (Int32 × Mem)
  | 0, _, _, _, _, _ => none
  | n + 1, x1, x2, x3, x4, s =>
    (ld s 161 x3).bind fun v1 =>
    if v1 < x4 then
      k6 x1 x2 (x3 + 1) s
    else
    if x4 = 0 then none else
    F_R_rowsOf_11 k6 n ((x1 * (x2 + 1)) / x4) (x2 + 1) x3 (x4 + 1) s
noncomputable def F_R_rowsOf_6 : Nat → Int32 → Int32 → Int32 → Mem → Option (Int32 × Mem)
  | 0, _, _, _, _ => none
  | n + 1, x1, x2, x3, s =>
    if 10 ≤ x3 then
      some (x1, s)
    else
    F_R_rowsOf_11 (F_R_rowsOf_6 n) gF x1 x2 x3 1 s
noncomputable def F_R_rowsOf  (s : Mem) : Option (Int32 × Mem) :=
  F_R_rowsOf_6 gF 1 0 0 s
def A_R_rowsOf_6 (f : Int32 → Int32 → Int32 → Mem → Option (Int32 × Mem)) (ls : List (Option Value)) (s : Mem) : Option (Int32 × Mem) := match lk ls 0, lk ls 1, lk ls 2, lk ls 3 with
  | some (.ref a0), some (.int a1), some (.int a2), some (.int a3) => cbr (Nat.beq a0 123) (f a1 a2 a3 s) none
  | _, _, _, _ => none
def A_R_rowsOf_11 (f : Int32 → Int32 → Int32 → Int32 → Mem → Option (Int32 × Mem)) (ls : List (Option Value)) (s : Mem) : Option (Int32 × Mem) := match lk ls 0, lk ls 1, lk ls 2, lk ls 3, lk ls 4 with
  | some (.ref a0), some (.int a1), some (.int a2), some (.int a3), some (.int a4) => cbr (Nat.beq a0 123) (f a1 a2 a3 a4 s) none
  | _, _, _, _, _ => none
noncomputable def A_R_rowsOf (av : List Value) (s : Mem) : Option (Int32 × Mem) := match av with
  | [.ref a0] => cbr (Nat.beq a0 123) (F_R_rowsOf s) none
  | _ => none
noncomputable def C_R_rowsOf (k : Nat) (av : List Value) (s : Mem) : Option (Int32 × Mem) := none
set_option maxRecDepth 100000 in
theorem e_R_rowsOf_11 (k6 : Int32 → Int32 → Int32 → Mem → Option (Int32 × Mem)) (n : Nat) (x1 : Int32) (x2 : Int32) (x3 : Int32) (x4 : Int32) (s : Mem) : F_R_rowsOf_11 k6 (n + 1) x1 x2 x3 x4 s = xs C_R_rowsOf (fun k ls s => cbr (Nat.beq k 0) (A_R_rowsOf_6 (k6) ls s) (cbr (Nat.beq k 1) (A_R_rowsOf_11 (F_R_rowsOf_11 k6 n) ls s) (none))) 0 (fun _ => 0) K_R_rowsOf 700 (K_R_rowsOf.drop 13) [some (.ref 123), some (.int x1), some (.int x2), some (.int x3), some (.int x4)] [] s := rfl
set_option maxRecDepth 100000 in
theorem e_R_rowsOf_6  (n : Nat) (x1 : Int32) (x2 : Int32) (x3 : Int32) (s : Mem) : F_R_rowsOf_6 (n + 1) x1 x2 x3 s = xs C_R_rowsOf (fun k ls s => cbr (Nat.beq k 1) (A_R_rowsOf_11 (F_R_rowsOf_11 (F_R_rowsOf_6 n) gF) ls s) (none)) 0 (fun _ => 0) K_R_rowsOf 700 (K_R_rowsOf.drop 7) [some (.ref 123), some (.int x1), some (.int x2), some (.int x3), none] [] s := rfl
set_option maxRecDepth 100000 in
theorem e_R_rowsOf  (s : Mem) : F_R_rowsOf s = xs C_R_rowsOf (fun k ls s => cbr (Nat.beq k 0) (A_R_rowsOf_6 (F_R_rowsOf_6 gF) ls s) (none)) 0 (fun _ => 0) K_R_rowsOf 700 K_R_rowsOf [some (.ref 123), none, none, none, none] [] s := rfl
def K_R_countsFrom : MC := [(0, .lconst 0, 0), (1, .istore 2, 0), (2, .ret 0, 0), (2, .iload 2, 0), (3, .iconst 0, 10), (5, .if_icmp .ge 13, 0), (8, .aload 0, 0), (9, .getstatic 1167, 0), (12, .iload 2, 0), (13, .lconst 0, 0), (14, .iastore, 0), (15, .iinc 2 0, 1), (18, .goto 2, 0), (21, .iload 1, 0), (22, .istore 2, 0), (23, .ret 1, 0), (23, .iload 2, 0), (24, .aload 0, 0), (25, .getfield 1164, 0), (28, .if_icmp .ge 38, 0), (31, .aload 0, 0), (32, .getstatic 1167, 0), (35, .aload 0, 0), (36, .getstatic 1165, 0), (39, .iload 2, 0), (40, .iaload, 0), (41, .aload 0, 0), (42, .getstatic 1167, 0), (45, .aload 0, 0), (46, .getstatic 1165, 0), (49, .iload 2, 0), (50, .iaload, 0), (51, .iaload, 0), (52, .lconst 1, 0), (53, .iadd, 0), (54, .iastore, 0), (55, .iinc 2 0, 1), (58, .goto 15, 0), (61, .return_, 0)]
noncomputable def F_R_countsFrom_14 : Nat → Int32 → Mem → Option (Int32 × Mem)
  | 0, _, _ => none
  | n + 1, x2, s =>
    if (s 123 64) ≤ x2 then
      some (0, s)
    else
    (ld s 159 x2).bind fun v1 =>
    (ld s 159 x2).bind fun v2 =>
    (ld s 161 v2).bind fun v3 =>
    (sd s 161 v1 (v3 + 1)).bind fun s4 =>
    F_R_countsFrom_14 n (x2 + 1) s4
noncomputable def F_R_countsFrom_2 : Nat → Int32 → Int32 → Mem → Option (Int32 × Mem)
  | 0, _, _, _ => none
  | n + 1, x1, x2, s =>
    if 10 ≤ x2 then
      F_R_countsFrom_14 gF x1 s
    else
    (sd s 161 x2 0).bind fun s1 =>
    F_R_countsFrom_2 n x1 (x2 + 1) s1
noncomputable def F_R_countsFrom (x1 : Int32) (s : Mem) : Option (Int32 × Mem) :=
  F_R_countsFrom_2 gF x1 0 s
def A_R_countsFrom_2 (f : Int32 → Int32 → Mem → Option (Int32 × Mem)) (ls : List (Option Value)) (s : Mem) : Option (Int32 × Mem) := match lk ls 0, lk ls 1, lk ls 2 with
  | some (.ref a0), some (.int a1), some (.int a2) => cbr (Nat.beq a0 123) (f a1 a2 s) none
  | _, _, _ => none
def A_R_countsFrom_14 (f : Int32 → Mem → Option (Int32 × Mem)) (ls : List (Option Value)) (s : Mem) : Option (Int32 × Mem) := match lk ls 0, lk ls 2 with
  | some (.ref a0), some (.int a1) => cbr (Nat.beq a0 123) (f a1 s) none
  | _, _ => none
noncomputable def A_R_countsFrom (av : List Value) (s : Mem) : Option (Int32 × Mem) := match av with
  | [.ref a0, .int a1] => cbr (Nat.beq a0 123) (F_R_countsFrom a1 s) none
  | _ => none
noncomputable def C_R_countsFrom (k : Nat) (av : List Value) (s : Mem) : Option (Int32 × Mem) := none
set_option maxRecDepth 100000 in
theorem e_R_countsFrom_14  (n : Nat) (x2 : Int32) (s : Mem) : F_R_countsFrom_14 (n + 1) x2 s = xs C_R_countsFrom (fun k ls s => cbr (Nat.beq k 1) (A_R_countsFrom_14 (F_R_countsFrom_14 n) ls s) (none)) 0 (fun _ => 0) K_R_countsFrom 700 (K_R_countsFrom.drop 16) [some (.ref 123), none, some (.int x2)] [] s := rfl
set_option maxRecDepth 100000 in
theorem e_R_countsFrom_2  (n : Nat) (x1 : Int32) (x2 : Int32) (s : Mem) : F_R_countsFrom_2 (n + 1) x1 x2 s = xs C_R_countsFrom (fun k ls s => cbr (Nat.beq k 0) (A_R_countsFrom_2 (F_R_countsFrom_2 n) ls s) (cbr (Nat.beq k 1) (A_R_countsFrom_14 (F_R_countsFrom_14 gF) ls s) (none))) 0 (fun _ => 0) K_R_countsFrom 700 (K_R_countsFrom.drop 3) [some (.ref 123), some (.int x1), some (.int x2)] [] s := rfl
set_option maxRecDepth 100000 in
theorem e_R_countsFrom (x1 : Int32) (s : Mem) : F_R_countsFrom x1 s = xs C_R_countsFrom (fun k ls s => cbr (Nat.beq k 0) (A_R_countsFrom_2 (F_R_countsFrom_2 gF) ls s) (none)) 0 (fun _ => 0) K_R_countsFrom 700 K_R_countsFrom [some (.ref 123), some (.int x1), none] [] s := rfl
def K_R_rowNumber : MC := [(0, .lconst 0, 0), (1, .istore 1, 0), (2, .lconst 0, 0), (3, .istore 2, 0), (4, .ret 0, 0), (4, .iload 2, 0), (5, .aload 0, 0), (6, .getfield 1164, 0), (9, .if_icmp .ge 56, 0), (12, .aload 0, 0), (13, .iload 2, 0), (14, .multianewarray 313 194, 0), (17, .lconst 0, 0), (18, .istore 3, 0), (19, .ret 1, 0), (19, .iload 3, 0), (20, .aload 0, 0), (21, .getstatic 1165, 0), (24, .iload 2, 0), (25, .iaload, 0), (26, .if_icmp .ge 54, 0), (29, .aload 0, 0), (30, .getstatic 1167, 0), (33, .iload 3, 0), (34, .iaload, 0), (35, .ifCond .ne 27, 0), (38, .goto 52, 0), (41, .aload 0, 0), (42, .getstatic 1167, 0), (45, .iload 3, 0), (46, .aload 0, 0), (47, .getstatic 1167, 0), (50, .iload 3, 0), (51, .iaload, 0), (52, .lconst 1, 0), (53, .isub, 0), (54, .iastore, 0), (55, .iload 1, 0), (56, .aload 0, 0), (57, .invokeinterface 312 193, 0), (60, .iadd, 0), (61, .istore 1, 0), (62, .aload 0, 0), (63, .getstatic 1167, 0), (66, .iload 3, 0), (67, .aload 0, 0), (68, .getstatic 1167, 0), (71, .iload 3, 0), (72, .iaload, 0), (73, .lconst 1, 0), (74, .iadd, 0), (75, .iastore, 0), (76, .iinc 3 0, 1), (79, .goto 14, 0), (82, .iinc 2 0, 1), (85, .goto 4, 0), (88, .iload 1, 0), (89, .ireturn, 0)]
noncomputable def F_R_rowNumber_13 (k4 : Int32 → Int32 → Mem → Option (Int32 × Mem)) : Nat → Int32 → Int32 → Int32 → Mem → Option (Int32 × Mem)
  | 0, _, _, _, _ => none
  | n + 1, x1, x2, x3, s =>
    (ld s 159 x2).bind fun v1 =>
    if v1 ≤ x3 then
      k4 x1 (x2 + 1) s
    else
    (ld s 161 x3).bind fun v2 =>
    if v2 = 0 then
      F_R_rowNumber_13 k4 n x1 x2 (x3 + 1) s
    else
    (ld s 161 x3).bind fun v3 =>
    (sd s 161 x3 (v3 - 1)).bind fun s4 =>
    (F_R_rowsOf s4).bind fun z5 =>
    (ld z5.2 161 x3).bind fun v6 =>
    (sd z5.2 161 x3 (v6 + 1)).bind fun s7 =>
    F_R_rowNumber_13 k4 n (x1 + z5.1) x2 (x3 + 1) s7
noncomputable def F_R_rowNumber_4 : Nat → Int32 → Int32 → Mem → Option (Int32 × Mem)
  | 0, _, _, _ => none
  | n + 1, x1, x2, s =>
    if (s 123 64) ≤ x2 then
      some (x1, s)
    else
    (F_R_countsFrom x2 s).bind fun z1 =>
    F_R_rowNumber_13 (F_R_rowNumber_4 n) gF x1 x2 0 z1.2
noncomputable def F_R_rowNumber  (s : Mem) : Option (Int32 × Mem) :=
  F_R_rowNumber_4 gF 0 0 s
def A_R_rowNumber_4 (f : Int32 → Int32 → Mem → Option (Int32 × Mem)) (ls : List (Option Value)) (s : Mem) : Option (Int32 × Mem) := match lk ls 0, lk ls 1, lk ls 2 with
  | some (.ref a0), some (.int a1), some (.int a2) => cbr (Nat.beq a0 123) (f a1 a2 s) none
  | _, _, _ => none
def A_R_rowNumber_13 (f : Int32 → Int32 → Int32 → Mem → Option (Int32 × Mem)) (ls : List (Option Value)) (s : Mem) : Option (Int32 × Mem) := match lk ls 0, lk ls 1, lk ls 2, lk ls 3 with
  | some (.ref a0), some (.int a1), some (.int a2), some (.int a3) => cbr (Nat.beq a0 123) (f a1 a2 a3 s) none
  | _, _, _, _ => none
noncomputable def A_R_rowNumber (av : List Value) (s : Mem) : Option (Int32 × Mem) := match av with
  | [.ref a0] => cbr (Nat.beq a0 123) (F_R_rowNumber s) none
  | _ => none
noncomputable def C_R_rowNumber (k : Nat) (av : List Value) (s : Mem) : Option (Int32 × Mem) := cbr (Nat.beq k 313) (A_R_countsFrom av s) (cbr (Nat.beq k 312) (A_R_rowsOf av s) (none))
set_option maxRecDepth 100000 in
theorem e_R_rowNumber_13 (k4 : Int32 → Int32 → Mem → Option (Int32 × Mem)) (n : Nat) (x1 : Int32) (x2 : Int32) (x3 : Int32) (s : Mem) : F_R_rowNumber_13 k4 (n + 1) x1 x2 x3 s = xs C_R_rowNumber (fun k ls s => cbr (Nat.beq k 0) (A_R_rowNumber_4 (k4) ls s) (cbr (Nat.beq k 1) (A_R_rowNumber_13 (F_R_rowNumber_13 k4 n) ls s) (none))) 0 (fun _ => 0) K_R_rowNumber 700 (K_R_rowNumber.drop 15) [some (.ref 123), some (.int x1), some (.int x2), some (.int x3)] [] s := rfl
set_option maxRecDepth 100000 in
theorem e_R_rowNumber_4  (n : Nat) (x1 : Int32) (x2 : Int32) (s : Mem) : F_R_rowNumber_4 (n + 1) x1 x2 s = xs C_R_rowNumber (fun k ls s => cbr (Nat.beq k 1) (A_R_rowNumber_13 (F_R_rowNumber_13 (F_R_rowNumber_4 n) gF) ls s) (none)) 0 (fun _ => 0) K_R_rowNumber 700 (K_R_rowNumber.drop 5) [some (.ref 123), some (.int x1), some (.int x2), none] [] s := rfl
set_option maxRecDepth 100000 in
theorem e_R_rowNumber  (s : Mem) : F_R_rowNumber s = xs C_R_rowNumber (fun k ls s => cbr (Nat.beq k 0) (A_R_rowNumber_4 (F_R_rowNumber_4 gF) ls s) (none)) 0 (fun _ => 0) K_R_rowNumber 700 K_R_rowNumber [some (.ref 123), none, none, none] [] s := rfl
def K_R_findsNext : MC := [(0, .aload 0, 0), (1, .getfield 1164, 0), (4, .iconst 0, 2), (5, .isub, 0), (6, .istore 1, 0), (7, .ret 0, 0), (7, .iload 1, 0), (8, .ifCond .lt 24, 0), (11, .aload 0, 0), (12, .getstatic 1165, 0), (15, .iload 1, 0), (16, .iaload, 0), (17, .aload 0, 0), (18, .getstatic 1165, 0), (21, .iload 1, 0), (22, .lconst 1, 0), (23, .iadd, 0), (24, .iaload, 0), (25, .if_icmp .lt 24, 0), (28, .iload 1, 0), (29, .lconst 1, 0), (30, .isub, 0), (31, .istore 1, 0), (32, .goto 5, 0), (35, .iload 1, 0), (36, .ifCond .ge 28, 0), (39, .lconst 0, 0), (40, .lreturn, 0), (41, .aload 0, 0), (42, .getfield 1164, 0), (45, .lconst 1, 0), (46, .isub, 0), (47, .istore 2, 0), (48, .ret 1, 0), (48, .aload 0, 0), (49, .getstatic 1165, 0), (52, .iload 2, 0), (53, .iaload, 0), (54, .aload 0, 0), (55, .getstatic 1165, 0), (58, .iload 1, 0), (59, .iaload, 0), (60, .if_icmp .gt 48, 0), (63, .iload 2, 0), (64, .lconst 1, 0), (65, .isub, 0), (66, .istore 2, 0), (67, .goto 33, 0), (70, .lconst 0, 0), (71, .istore 3, 0), (72, .ret 2, 0), (72, .iload 3, 0), (73, .aload 0, 0), (74, .getfield 1164, 0), (77, .if_icmp .ge 65, 0), (80, .aload 0, 0), (81, .getstatic 1166, 0), (84, .iload 3, 0), (85, .aload 0, 0), (86, .getstatic 1165, 0), (89, .iload 3, 0), (90, .iaload, 0), (91, .iastore, 0), (92, .iinc 3 0, 1), (95, .goto 50, 0), (98, .aload 0, 0), (99, .getstatic 1166, 0), (102, .iload 1, 0), (103, .aload 0, 0), (104, .getstatic 1165, 0), (107, .iload 2, 0), (108, .iaload, 0), (109, .iastore, 0), (110, .aload 0, 0), (111, .getstatic 1166, 0), (114, .iload 2, 0), (115, .aload 0, 0), (116, .getstatic 1165, 0), (119, .iload 1, 0), (120, .iaload, 0), (121, .iastore, 0), (122, .aload 0, 0), (123, .getfield 1164, 0), (126, .lconst 1, 0), (127, .isub, 0), (128, .istore 3, 0), (129, .iload 1, 0), (130, .lconst 1, 0), (131, .iadd, 0), (132, .istore 4, 0), (134, .ret 3, 0), (134, .iload 4, 0), (136, .iload 3, 0), (137, .if_icmp .ge 118, 0), (140, .aload 0, 0), (141, .getstatic 1166, 0), (144, .iload 4, 0), (146, .iaload, 0), (147, .istore 5, 0), (149, .aload 0, 0), (150, .getstatic 1166, 0), (153, .iload 4, 0), (155, .aload 0, 0), (156, .getstatic 1166, 0), (159, .iload 3, 0), (160, .iaload, 0), (161, .iastore, 0), (162, .aload 0, 0), (163, .getstatic 1166, 0), (166, .iload 3, 0), (167, .iload 5, 0), (169, .iastore, 0), (170, .iload 3, 0), (171, .lconst 1, 0), (172, .isub, 0), (173, .istore 3, 0), (174, .iinc 4 0, 1), (177, .goto 90, 0), (180, .lconst 1, 0), (181, .lreturn, 0)]
noncomputable def F_R_findsNext_87 : Nat → Int32 → Int32 → Mem → Option (Int32 × Mem)
  | 0, _, _, _ => none
  | n + 1, x3, x4, s =>
    if x3 ≤ x4 then
      some (1, s)
    else
    (ld s 160 x4).bind fun v1 =>
    (ld s 160 x3).bind fun v2 =>
    (sd s 160 x4 v2).bind fun s3 =>
    (sd s3 160 x3 v1).bind fun s4 =>
    F_R_findsNext_87 n (x3 - 1) (x4 + 1) s4
noncomputable def F_R_findsNext_48 : Nat → Int32 → Int32 → Int32 → Mem → Option (Int32 × Mem)
  | 0, _, _, _, _ => none
  | n + 1, x1, x2, x3, s =>
    if (s 123 64) ≤ x3 then
      (ld s 159 x2).bind fun v1 =>
      (sd s 160 x1 v1).bind fun s2 =>
      (ld s2 159 x1).bind fun v3 =>
      (sd s2 160 x2 v3).bind fun s4 =>
      F_R_findsNext_87 gF ((s4 123 64) - 1) (x1 + 1) s4
    else
    (ld s 159 x3).bind fun v5 =>
    (sd s 160 x3 v5).bind fun s6 =>
    F_R_findsNext_48 n x1 x2 (x3 + 1) s6
noncomputable def F_R_findsNext_32 : Nat → Int32 → Int32 → Mem → Option (Int32 × Mem)
  | 0, _, _, _ => none
  | n + 1, x1, x2, s =>
    (ld s 159 x2).bind fun v1 =>
    (ld s 159 x1).bind fun v2 =>
    if v2 < v1 then
      F_R_findsNext_48 gF x1 x2 0 s
    else
    F_R_findsNext_32 n x1 (x2 - 1) s
noncomputable def F_R_findsNext_5 : Nat → Int32 → Mem → Option (Int32 × Mem)
  | 0, _, _ => none
  | n + 1, x1, s =>
    if x1 < 0 then
      if 0 ≤ x1 then
        F_R_findsNext_32 gF x1 ((s 123 64) - 1) s
      else
      some (0, s)
    else
    (ld s 159 x1).bind fun v1 =>
    (ld s 159 (x1 + 1)).bind fun v2 =>
    if v1 < v2 then
      if 0 ≤ x1 then
        F_R_findsNext_32 gF x1 ((s 123 64) - 1) s
      else
      some (0, s)
    else
    F_R_findsNext_5 n (x1 - 1) s
noncomputable def F_R_findsNext  (s : Mem) : Option (Int32 × Mem) :=
  F_R_findsNext_5 gF ((s 123 64) - 2) s
def A_R_findsNext_5 (f : Int32 → Mem → Option (Int32 × Mem)) (ls : List (Option Value)) (s : Mem) : Option (Int32 × Mem) := match lk ls 0, lk ls 1 with
  | some (.ref a0), some (.int a1) => cbr (Nat.beq a0 123) (f a1 s) none
  | _, _ => none
def A_R_findsNext_32 (f : Int32 → Int32 → Mem → Option (Int32 × Mem)) (ls : List (Option Value)) (s : Mem) : Option (Int32 × Mem) := match lk ls 0, lk ls 1, lk ls 2 with
  | some (.ref a0), some (.int a1), some (.int a2) => cbr (Nat.beq a0 123) (f a1 a2 s) none
  | _, _, _ => none
def A_R_findsNext_48 (f : Int32 → Int32 → Int32 → Mem → Option (Int32 × Mem)) (ls : List (Option Value)) (s : Mem) : Option (Int32 × Mem) := match lk ls 0, lk ls 1, lk ls 2, lk ls 3 with
  | some (.ref a0), some (.int a1), some (.int a2), some (.int a3) => cbr (Nat.beq a0 123) (f a1 a2 a3 s) none
  | _, _, _, _ => none
def A_R_findsNext_87 (f : Int32 → Int32 → Mem → Option (Int32 × Mem)) (ls : List (Option Value)) (s : Mem) : Option (Int32 × Mem) := match lk ls 0, lk ls 3, lk ls 4 with
  | some (.ref a0), some (.int a1), some (.int a2) => cbr (Nat.beq a0 123) (f a1 a2 s) none
  | _, _, _ => none
noncomputable def A_R_findsNext (av : List Value) (s : Mem) : Option (Int32 × Mem) := match av with
  | [.ref a0] => cbr (Nat.beq a0 123) (F_R_findsNext s) none
  | _ => none
noncomputable def C_R_findsNext (k : Nat) (av : List Value) (s : Mem) : Option (Int32 × Mem) := none
set_option maxRecDepth 100000 in
theorem e_R_findsNext_87  (n : Nat) (x3 : Int32) (x4 : Int32) (s : Mem) : F_R_findsNext_87 (n + 1) x3 x4 s = xs C_R_findsNext (fun k ls s => cbr (Nat.beq k 3) (A_R_findsNext_87 (F_R_findsNext_87 n) ls s) (none)) 0 (fun _ => 0) K_R_findsNext 700 (K_R_findsNext.drop 91) [some (.ref 123), none, none, some (.int x3), some (.int x4), none] [] s := rfl
set_option maxRecDepth 100000 in
theorem e_R_findsNext_48  (n : Nat) (x1 : Int32) (x2 : Int32) (x3 : Int32) (s : Mem) : F_R_findsNext_48 (n + 1) x1 x2 x3 s = xs C_R_findsNext (fun k ls s => cbr (Nat.beq k 2) (A_R_findsNext_48 (F_R_findsNext_48 n) ls s) (cbr (Nat.beq k 3) (A_R_findsNext_87 (F_R_findsNext_87 gF) ls s) (none))) 0 (fun _ => 0) K_R_findsNext 700 (K_R_findsNext.drop 51) [some (.ref 123), some (.int x1), some (.int x2), some (.int x3), none, none] [] s := rfl
set_option maxRecDepth 100000 in
theorem e_R_findsNext_32  (n : Nat) (x1 : Int32) (x2 : Int32) (s : Mem) : F_R_findsNext_32 (n + 1) x1 x2 s = xs C_R_findsNext (fun k ls s => cbr (Nat.beq k 1) (A_R_findsNext_32 (F_R_findsNext_32 n) ls s) (cbr (Nat.beq k 2) (A_R_findsNext_48 (F_R_findsNext_48 gF) ls s) (none))) 0 (fun _ => 0) K_R_findsNext 700 (K_R_findsNext.drop 34) [some (.ref 123), some (.int x1), some (.int x2), none, none, none] [] s := rfl
set_option maxRecDepth 100000 in
theorem e_R_findsNext_5  (n : Nat) (x1 : Int32) (s : Mem) : F_R_findsNext_5 (n + 1) x1 s = xs C_R_findsNext (fun k ls s => cbr (Nat.beq k 0) (A_R_findsNext_5 (F_R_findsNext_5 n) ls s) (cbr (Nat.beq k 1) (A_R_findsNext_32 (F_R_findsNext_32 gF) ls s) (none))) 0 (fun _ => 0) K_R_findsNext 700 (K_R_findsNext.drop 6) [some (.ref 123), some (.int x1), none, none, none, none] [] s := rfl
set_option maxRecDepth 100000 in
theorem e_R_findsNext  (s : Mem) : F_R_findsNext s = xs C_R_findsNext (fun k ls s => cbr (Nat.beq k 0) (A_R_findsNext_5 (F_R_findsNext_5 gF) ls s) (none)) 0 (fun _ => 0) K_R_findsNext 700 K_R_findsNext [some (.ref 123), none, none, none, none, none] [] s := rfl
def K_R_cellar : MC := [(0, .aload 0, 0), (1, .lconst 0, 0), (2, .putfield 1100, 0), (5, .iload 1, 0), (6, .iconst 0, 11), (8, .if_icmp .ne 9, 0), (11, .aload 0, 0), (12, .invokeinterface 314 193, 0), (15, .ireturn, 0), (16, .iload 1, 0), (17, .iconst 0, 10), (19, .if_icmp .ne 18, 0), (22, .aload 0, 0), (23, .lconst 0, 0), (24, .multianewarray 313 194, 0), (27, .aload 0, 0), (28, .invokeinterface 312 193, 0), (31, .ireturn, 0), (32, .aload 0, 0), (33, .iload 1, 0), (34, .lconst 0, 0), (35, .aload 0, 0), (36, .getfield 1164, 0), (39, .lconst 1, 0), (40, .isub, 0), (41, .invokeinterface 187 196, 0), (44, .ifCond .eq 35, 0), (47, .aload 0, 0), (48, .invokeinterface 315 193, 0), (51, .ifCond .eq 35, 0), (54, .aload 0, 0), (55, .getstatic 1166, 0), (58, .iload 1, 0), (59, .iaload, 0), (60, .goto 36, 0), (63, .iconst 0, (-1)), (64, .ireturn, 0)]
noncomputable def F_R_cellar (x1 : Int32) (s : Mem) : Option (Int32 × Mem) :=
  let s1 : Mem := mw s 123 0 0
  if x1 = 11 then
    (F_R_rowNumber s1).bind fun z2 =>
    some (z2.1, z2.2)
  else
  if x1 = 10 then
    (F_R_countsFrom 0 s1).bind fun z3 =>
    (F_R_rowsOf z3.2).bind fun z4 =>
    some (z4.1, z4.2)
  else
  (F_R_isIn x1 0 ((s1 123 64) - 1) s1).bind fun z5 =>
  if z5.1 = 0 then
    some ((-1), z5.2)
  else
  (F_R_findsNext z5.2).bind fun z6 =>
  if z6.1 = 0 then
    some ((-1), z6.2)
  else
  (ld z6.2 160 x1).bind fun v7 =>
  some (v7, z6.2)
noncomputable def A_R_cellar (av : List Value) (s : Mem) : Option (Int32 × Mem) := match av with
  | [.ref a0, .int a1] => cbr (Nat.beq a0 123) (F_R_cellar a1 s) none
  | _ => none
noncomputable def C_R_cellar (k : Nat) (av : List Value) (s : Mem) : Option (Int32 × Mem) := cbr (Nat.beq k 314) (A_R_rowNumber av s) (cbr (Nat.beq k 313) (A_R_countsFrom av s) (cbr (Nat.beq k 312) (A_R_rowsOf av s) (cbr (Nat.beq k 187) (A_R_isIn av s) (cbr (Nat.beq k 315) (A_R_findsNext av s) (none)))))
set_option maxRecDepth 100000 in
theorem e_R_cellar (x1 : Int32) (s : Mem) : F_R_cellar x1 s = xs C_R_cellar (fun k ls s => none) 0 (fun _ => 0) K_R_cellar 700 K_R_cellar [some (.ref 123), some (.int x1)] [] s := rfl
