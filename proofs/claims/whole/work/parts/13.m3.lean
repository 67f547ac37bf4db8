def K_C_drill : MC := [(0, .iload 1, 0), (1, .iconst 0, 8), (3, .invokeinterface 128 2, 0), (6, .ifCond .ne 6, 0), (9, .lconst 0, 0), (10, .lreturn, 0), (11, .aload 0, 0), (12, .getstatic 1000, 0), (15, .getstatic 606, 0), (18, .iload 1, 0), (19, .putfield 907, 0), (22, .lconst 1, 0), (23, .lreturn, 0)]
noncomputable def F_C_drill (x1 : Int32) (s : Mem) : Option (Int32 × Mem) :=
  (F_D_isPermutation x1 8 s).bind fun z1 =>
  if z1.1 = 0 then
    some (0, z1.2)
  else
  let s2 : Mem := mw z1.2 21 7 x1
  some (1, s2)
noncomputable def A_C_drill (av : List Value) (s : Mem) : Option (Int32 × Mem) := match av with
  | [.ref a0, .int a1] => cbr (Nat.beq a0 0) (F_C_drill a1 s) none
  | _ => none
noncomputable def C_C_drill (k : Nat) (av : List Value) (s : Mem) : Option (Int32 × Mem) := cbr (Nat.beq k 128) (A_D_isPermutation av s) (none)
set_option maxRecDepth 100000 in
theorem e_C_drill (x1 : Int32) (s : Mem) : F_C_drill x1 s = xs C_C_drill (fun k ls s => none) 0 (fun _ => 0) K_C_drill 700 K_C_drill [some (.ref 0), some (.int x1)] [] s := rfl
def K_D_placeBefore : MC := [(0, .iload 0, 0), (1, .istore 2, 0), (2, .iconst 0, 7), (4, .istore 3, 0), (5, .ret 0, 0), (5, .iload 3, 0), (6, .iload 1, 0), (7, .if_icmp .le 14, 0), (10, .iload 2, 0), (11, .iconst 0, 10), (13, .ldiv, 0), (14, .istore 2, 0), (15, .iinc 3 0, (-1)), (18, .goto 4, 0), (21, .iload 2, 0), (22, .iconst 0, 10), (24, .lrem, 0), (25, .ireturn, 0)]
noncomputable def F_D_placeBefore_4 : Nat → Int32 → Int32 → Int32 → Mem → Option (Int32 × Mem)
  | 0, _, _, _, _ => none
  | n + 1, x1, x2, x3, s =>
    if x3 ≤ x1 then
      some ((irm x2 10), s)
    else
    F_D_placeBefore_4 n x1 (x2 / 10) (x3 + (-1)) s
noncomputable def F_D_placeBefore (x0 : Int32) (x1 : Int32) (s : Mem) : Option (Int32 × Mem) :=
  F_D_placeBefore_4 gF x1 x0 7 s
def A_D_placeBefore_4 (f : Int32 → Int32 → Int32 → Mem → Option (Int32 × Mem)) (ls : List (Option Value)) (s : Mem) : Option (Int32 × Mem) := match lk ls 1, lk ls 2, lk ls 3 with
  | some (.int a0), some (.int a1), some (.int a2) => f a0 a1 a2 s
  | _, _, _ => none
noncomputable def A_D_placeBefore (av : List Value) (s : Mem) : Option (Int32 × Mem) := match av with
  | [.int a0, .int a1] => F_D_placeBefore a0 a1 s
  | _ => none
noncomputable def C_D_placeBefore (k : Nat) (av : List Value) (s : Mem) : Option (Int32 × Mem) := none
set_option maxRecDepth 100000 in
theorem e_D_placeBefore_4  (n : Nat) (x1 : Int32) (x2 : Int32) (x3 : Int32) (s : Mem) : F_D_placeBefore_4 (n + 1) x1 x2 x3 s = xs C_D_placeBefore (fun k ls s => cbr (Nat.beq k 0) (A_D_placeBefore_4 (F_D_placeBefore_4 n) ls s) (none)) 0 (fun _ => 0) K_D_placeBefore 700 (K_D_placeBefore.drop 5) [none, some (.int x1), some (.int x2), some (.int x3)] [] s := rfl
set_option maxRecDepth 100000 in
theorem e_D_placeBefore (x0 : Int32) (x1 : Int32) (s : Mem) : F_D_placeBefore x0 x1 s = xs C_D_placeBefore (fun k ls s => cbr (Nat.beq k 0) (A_D_placeBefore_4 (F_D_placeBefore_4 gF) ls s) (none)) 0 (fun _ => 0) K_D_placeBefore 700 K_D_placeBefore [some (.int x0), some (.int x1), none, none] [] s := rfl
def K_D_roundOf : MC := [(0, .iload 0, 0), (1, .iload 1, 0), (2, .invokeinterface 138 2, 0), (5, .istore 2, 0), (6, .lconst 1, 0), (7, .istore 3, 0), (8, .ret 0, 0), (8, .iload 2, 0), (9, .iload 1, 0), (10, .if_icmp .eq 19, 0), (13, .iload 3, 0), (14, .iconst 0, 8), (16, .if_icmp .ge 19, 0), (19, .iload 0, 0), (20, .iload 2, 0), (21, .invokeinterface 138 2, 0), (24, .istore 2, 0), (25, .iinc 3 0, 1), (28, .goto 6, 0), (31, .iload 3, 0), (32, .ireturn, 0)]
noncomputable def F_D_roundOf_6 : Nat → Int32 → Int32 → Int32 → Int32 → Mem → Option (Int32 × Mem)
  | 0, _, _, _, _, _ => none
  | n + 1, x0, x1, x2, x3, s =>
    if x2 = x1 then
      some (x3, s)
    else
    if 8 ≤ x3 then
      some (x3, s)
    else
    (F_D_placeBefore x0 x2 s).bind fun z1 =>
    F_D_roundOf_6 n x0 x1 z1.1 (x3 + 1) z1.2
noncomputable def F_D_roundOf (x0 : Int32) (x1 : Int32) (s : Mem) : Option (Int32 × Mem) :=
  (F_D_placeBefore x0 x1 s).bind fun z1 =>
  F_D_roundOf_6 gF x0 x1 z1.1 1 z1.2
def A_D_roundOf_6 (f : Int32 → Int32 → Int32 → Int32 → Mem → Option (Int32 × Mem)) (ls : List (Option Value)) (s : Mem) : Option (Int32 × Mem) := match lk ls 0, lk ls 1, lk ls 2, lk ls 3 with
  | some (.int a0), some (.int a1), some (.int a2), some (.int a3) => f a0 a1 a2 a3 s
  | _, _, _, _ => none
noncomputable def A_D_roundOf (av : List Value) (s : Mem) : Option (Int32 × Mem) := match av with
  | [.int a0, .int a1] => F_D_roundOf a0 a1 s
  | _ => none
noncomputable def C_D_roundOf (k : Nat) (av : List Value) (s : Mem) : Option (Int32 × Mem) := cbr (Nat.beq k 138) (A_D_placeBefore av s) (none)
set_option maxRecDepth 100000 in
theorem e_D_roundOf_6  (n : Nat) (x0 : Int32) (x1 : Int32) (x2 : Int32) (x3 : Int32) (s : Mem) : F_D_roundOf_6 (n + 1) x0 x1 x2 x3 s = xs C_D_roundOf (fun k ls s => cbr (Nat.beq k 0) (A_D_roundOf_6 (F_D_roundOf_6 n) ls s) (none)) 0 (fun _ => 0) K_D_roundOf 700 (K_D_roundOf.drop 7) [some (.int x0), some (.int x1), some (.int x2), some (.int x3)] [] s := rfl
set_option maxRecDepth 100000 in
theorem e_D_roundOf (x0 : Int32) (x1 : Int32) (s : Mem) : F_D_roundOf x0 x1 s = xs C_D_roundOf (fun k ls s => cbr (Nat.beq k 0) (A_D_roundOf_6 (F_D_roundOf_6 gF) ls s) (none)) 0 (fun _ => 0) K_D_roundOf 700 K_D_roundOf [some (.int x0), some (.int x1), none, none] [] s := rfl
def K_D_roundsOf : MC := [(0, .lconst 1, 0), (1, .istore 1, 0), (2, .lconst 0, 0), (3, .istore 2, 0), (4, .ret 0, 0), (4, .iload 2, 0), (5, .iconst 0, 8), (7, .if_icmp .ge 36, 0), (10, .lconst 1, 0), (11, .iload 0, 0), (12, .iload 2, 0), (13, .invokeinterface 139 2, 0), (16, .invokeinterface 21 2, 0), (19, .istore 3, 0), (20, .iload 1, 0), (21, .istore 4, 0), (23, .lconst 1, 0), (24, .istore 5, 0), (26, .ret 1, 0), (26, .iload 5, 0), (28, .iload 3, 0), (29, .if_icmp .ge 32, 0), (32, .iload 4, 0), (34, .iload 3, 0), (35, .irem, 0), (36, .ifCond .eq 32, 0), (39, .iload 4, 0), (41, .iload 1, 0), (42, .iadd, 0), (43, .istore 4, 0), (45, .iinc 5 0, 1), (48, .goto 18, 0), (51, .iload 4, 0), (53, .istore 1, 0), (54, .iinc 2 0, 1), (57, .goto 4, 0), (60, .iload 1, 0), (61, .ireturn, 0)]
noncomputable def F_D_roundsOf_17 (k4 : Int32 → Int32 → Int32 → Mem → Option (Int32 × Mem)) : Nat → Int32 → Int32 → Int32 → Int32 → Int32 → Int32 → Mem → Option (Int32 × Mem)
  | 0, _, _, _, _, _, _, _ => none
  | n + 1, x0, x1, x2, x3, x4, x5, s =>
    if x3 ≤ x5 then
      k4 x0 x4 (x2 + 1) s
    else
    if x3 = 0 then none else
    if (irm x4 x3) = 0 then
      k4 x0 x4 (x2 + 1) s
    else
    F_D_roundsOf_17 k4 n x0 x1 x2 x3 (x4 + x1) (x5 + 1) s
noncomputable def F_D_roundsOf_4 : Nat → Int32 → Int32 → Int32 → Mem → Option (Int32 × Mem)
  | 0, _, _, _, _ => none
  | n + 1, x0, x1, x2, s =>
    if 8 ≤ x2 then
      some (x1, s)
    else
    (F_D_roundOf x0 x2 s).bind fun z1 =>
    (F_JM_max 1 z1.1 z1.2).bind fun z2 =>
    F_D_roundsOf_17 (F_D_roundsOf_4 n) gF x0 x1 x2 z2.1 x1 1 z2.2
noncomputable def F_D_roundsOf (x0 : Int32) (s : Mem) : Option (Int32 × Mem) :=
  F_D_roundsOf_4 gF x0 1 0 s
def A_D_roundsOf_4 (f : Int32 → Int32 → Int32 → Mem → Option (Int32 × Mem)) (ls : List (Option Value)) (s : Mem) : Option (Int32 × Mem) := match lk ls 0, lk ls 1, lk ls 2 with
  | some (.int a0), some (.int a1), some (.int a2) => f a0 a1 a2 s
  | _, _, _ => none
def A_D_roundsOf_17 (f : Int32 → Int32 → Int32 → Int32 → Int32 → Int32 → Mem → Option (Int32 × Mem)) (ls : List (Option Value)) (s : Mem) : Option (Int32 × Mem) := match lk ls 0, lk ls 1, lk ls 2, lk ls 3, lk ls 4, lk ls 5 with
  | some (.int a0), some (.int a1), some (.int a2), some (.int a3), some (.int a4), some (.int a5) => f a0 a1 a2 a3 a4 a5 s
  | _, _, _, _, _, _ => none
noncomputable def A_D_roundsOf (av : List Value) (s : Mem) : Option (Int32 × Mem) := match av with
  | [.int a0] => F_D_roundsOf a0 s
  | _ => none
noncomputable def C_D_roundsOf (k : Nat) (av : List Value) (s : Mem) : Option (Int32 × Mem) := cbr (Nat.beq k 139) (A_D_roundOf av s) (cbr (Nat.beq k 21) (A_JM_max av s) (none))
set_option maxRecDepth 100000 in
theorem e_D_roundsOf_17 (k4 : Int32 → Int32 → Int32 → Mem → Option (Int32 × Mem)) (n : Nat) (x0 : Int32) (x1 : Int32) (x2 : Int32) (x3 : Int32) (x4 : Int32) (x5 : Int32) (s : Mem) : F_D_roundsOf_17 k4 (n + 1) x0 x1 x2 x3 x4 x5 s = xs C_D_roundsOf (fun k ls s => cbr (Nat.beq k 0) (A_D_roundsOf_4 (k4) ls s) (cbr (Nat.beq k 1) (A_D_roundsOf_17 (F_D_roundsOf_17 k4 n) ls s) (none))) 0 (fun _ => 0) K_D_roundsOf 700 (K_D_roundsOf.drop 19) [some (.int x0), some (.int x1), some (.int x2), some (.int x3), some (.int x4), some (.int x5)] [] s := rfl
set_option maxRecDepth 100000 in
theorem e_D_roundsOf_4  (n : Nat) (x0 : Int32) (x1 : Int32) (x2 : Int32) (s : Mem) : F_D_roundsOf_4 (n + 1) x0 x1 x2 s = xs C_D_roundsOf (fun k ls s => cbr (Nat.beq k 1) (A_D_roundsOf_17 (F_D_roundsOf_17 (F_D_roundsOf_4 n) gF) ls s) (none)) 0 (fun _ => 0) K_D_roundsOf 700 (K_D_roundsOf.drop 5) [some (.int x0), some (.int x1), some (.int x2), none, none, none] [] s := rfl
set_option maxRecDepth 100000 in
theorem e_D_roundsOf (x0 : Int32) (s : Mem) : F_D_roundsOf x0 s = xs C_D_roundsOf (fun k ls s => cbr (Nat.beq k 0) (A_D_roundsOf_4 (F_D_roundsOf_4 gF) ls s) (none)) 0 (fun _ => 0) K_D_roundsOf 700 K_D_roundsOf [some (.int x0), none, none, none, none, none] [] s := rfl
def K_D_standsAt : MC := [(0, .iload 1, 0), (1, .lconst 1, 0), (2, .iload 0, 0), (3, .iload 2, 0), (4, .invokeinterface 139 2, 0), (7, .invokeinterface 21 2, 0), (10, .irem, 0), (11, .istore 3, 0), (12, .iload 2, 0), (13, .istore 4, 0), (15, .lconst 0, 0), (16, .istore 5, 0), (18, .ret 0, 0), (18, .iload 5, 0), (20, .iload 3, 0), (21, .if_icmp .ge 22, 0), (24, .iload 0, 0), (25, .iload 4, 0), (27, .invokeinterface 138 2, 0), (30, .istore 4, 0), (32, .iinc 5 0, 1), (35, .goto 12, 0), (38, .iload 4, 0), (40, .ireturn, 0)]
noncomputable def F_D_standsAt_12 : Nat → Int32 → Int32 → Int32 → Int32 → Mem → Option (Int32 × Mem)
  | 0, _, _, _, _, _ => none
  | n + 1, x0, x3, x4, x5, s =>
    if x3 ≤ x5 then
      some (x4, s)
    else
    (F_D_placeBefore x0 x4 s).bind fun z1 =>
    F_D_standsAt_12 n x0 x3 z1.1 (x5 + 1) z1.2
noncomputable def F_D_standsAt (x0 : Int32) (x1 : Int32) (x2 : Int32) (s : Mem) : Option (Int32 × Mem) :=
  (F_D_roundOf x0 x2 s).bind fun z1 =>
  (F_JM_max 1 z1.1 z1.2).bind fun z2 =>
  if z2.1 = 0 then none else
  F_D_standsAt_12 gF x0 (irm x1 z2.1) x2 0 z2.2
def A_D_standsAt_12 (f : Int32 → Int32 → Int32 → Int32 → Mem → Option (Int32 × Mem)) (ls : List (Option Value)) (s : Mem) : Option (Int32 × Mem) := match lk ls 0, lk ls 3, lk ls 4, lk ls 5 with
  | some (.int a0), some (.int a1), some (.int a2), some (.int a3) => f a0 a1 a2 a3 s
  | _, _, _, _ => none
noncomputable def A_D_standsAt (av : List Value) (s : Mem) : Option (Int32 × Mem) := match av with
  | [.int a0, .int a1, .int a2] => F_D_standsAt a0 a1 a2 s
  | _ => none
noncomputable def C_D_standsAt (k : Nat) (av : List Value) (s : Mem) : Option (Int32 × Mem) := cbr (Nat.beq k 139) (A_D_roundOf av s) (cbr (Nat.beq k 21) (A_JM_max av s) (cbr (Nat.beq k 138) (A_D_placeBefore av s) (none)))
set_option maxRecDepth 100000 in
theorem e_D_standsAt_12  (n : Nat) (x0 : Int32) (x3 : Int32) (x4 : Int32) (x5 : Int32) (s : Mem) : F_D_standsAt_12 (n + 1) x0 x3 x4 x5 s = xs C_D_standsAt (fun k ls s => cbr (Nat.beq k 0) (A_D_standsAt_12 (F_D_standsAt_12 n) ls s) (none)) 0 (fun _ => 0) K_D_standsAt 700 (K_D_standsAt.drop 13) [some (.int x0), none, none, some (.int x3), some (.int x4), some (.int x5)] [] s := rfl
set_option maxRecDepth 100000 in
theorem e_D_standsAt (x0 : Int32) (x1 : Int32) (x2 : Int32) (s : Mem) : F_D_standsAt x0 x1 x2 s = xs C_D_standsAt (fun k ls s => cbr (Nat.beq k 0) (A_D_standsAt_12 (F_D_standsAt_12 gF) ls s) (none)) 0 (fun _ => 0) K_D_standsAt 700 K_D_standsAt [some (.int x0), some (.int x1), some (.int x2), none, none, none] [] s := rfl
def K_C_drilled : MC := [(0, .iload 2, 0), (1, .iconst 0, (-1)), (2, .if_icmp .ne 9, 0), (5, .aload 0, 0), (6, .getstatic 1000, 0), (9, .getstatic 606, 0), (12, .getfield 907, 0), (15, .invokeinterface 140 1, 0), (18, .ireturn, 0), (19, .iload 1, 0), (20, .lconst 0, 0), (21, .iconst 0, 1000000), (24, .invokeinterface 2 3, 0), (27, .ifCond .eq 19, 0), (30, .iload 2, 0), (31, .lconst 0, 0), (32, .iconst 0, 7), (34, .invokeinterface 2 3, 0), (37, .ifCond .ne 21, 0), (40, .iconst 0, (-1)), (41, .ireturn, 0), (42, .aload 0, 0), (43, .getstatic 1000, 0), (46, .getstatic 606, 0), (49, .getfield 907, 0), (52, .iload 1, 0), (53, .iload 2, 0), (54, .invokeinterface 141 3, 0), (57, .ireturn, 0)]
noncomputable def F_C_drilled (x1 : Int32) (x2 : Int32) (s : Mem) : Option (Int32 × Mem) :=
  if x2 = (-1) then
    (F_D_roundsOf (s 21 7) s).bind fun z1 =>
    some (z1.1, z1.2)
  else
  (F_C_within x1 0 1000000 s).bind fun z2 =>
  if z2.1 = 0 then
    some ((-1), z2.2)
  else
  (F_C_within x2 0 7 z2.2).bind fun z3 =>
  if z3.1 = 0 then
    some ((-1), z3.2)
  else
  (F_D_standsAt (z3.2 21 7) x1 x2 z3.2).bind fun z4 =>
  some (z4.1, z4.2)
noncomputable def A_C_drilled (av : List Value) (s : Mem) : Option (Int32 × Mem) := match av with
  | [.ref a0, .int a1, .int a2] => cbr (Nat.beq a0 0) (F_C_drilled a1 a2 s) none
  | _ => none
noncomputable def C_C_drilled (k : Nat) (av : List Value) (s : Mem) : Option (Int32 × Mem) := cbr (Nat.beq k 140) (A_D_roundsOf av s) (cbr (Nat.beq k 2) (A_C_within av s) (cbr (Nat.beq k 141) (A_D_standsAt av s) (none)))
set_option maxRecDepth 100000 in
theorem e_C_drilled (x1 : Int32) (x2 : Int32) (s : Mem) : F_C_drilled x1 x2 s = xs C_C_drilled (fun k ls s => none) 0 (fun _ => 0) K_C_drilled 700 K_C_drilled [some (.ref 0), some (.int x1), some (.int x2)] [] s := rfl
def K_D_isFraction : MC := [(0, .iload 0, 0), (1, .lconst 1, 0), (2, .iconst 0, 9999), (5, .invokeinterface 2 3, 0), (8, .ifCond .eq 11, 0), (11, .iload 0, 0), (12, .iconst 0, 100), (14, .lrem, 0), (15, .ifCond .eq 11, 0), (18, .lconst 1, 0), (19, .goto 12, 0), (22, .lconst 0, 0), (23, .lreturn, 0)]
noncomputable def F_D_isFraction (x0 : Int32) (s : Mem) : Option (Int32 × Mem) :=
  (F_C_within x0 1 9999 s).bind fun z1 =>
  if z1.1 = 0 then
    some (0, z1.2)
  else
  if (irm x0 100) = 0 then
    some (0, z1.2)
  else
  some (1, z1.2)
noncomputable def A_D_isFraction (av : List Value) (s : Mem) : Option (Int32 × Mem) := match av with
  | [.int a0] => F_D_isFraction a0 s
  | _ => none
noncomputable def C_D_isFraction (k : Nat) (av : List Value) (s : Mem) : Option (Int32 × Mem) := cbr (Nat.beq k 2) (A_C_within av s) (none)
set_option maxRecDepth 100000 in
theorem e_D_isFraction (x0 : Int32) (s : Mem) : F_D_isFraction x0 s = xs C_D_isFraction (fun k ls s => none) 0 (fun _ => 0) K_D_isFraction 700 K_D_isFraction [some (.int x0)] [] s := rfl
def K_D_simplestBetween : MC := [(0, .iload 0, 0), (1, .iconst 0, 100), (3, .ldiv, 0), (4, .iload 1, 0), (5, .iconst 0, 100), (7, .lrem, 0), (8, .imul, 0), (9, .iload 1, 0), (10, .iconst 0, 100), (12, .ldiv, 0), (13, .iload 0, 0), (14, .iconst 0, 100), (16, .lrem, 0), (17, .imul, 0), (18, .isub, 0), (19, .istore 2, 0), (20, .iload 2, 0), (21, .ifCond .ne 20, 0), (24, .iconst 0, (-1)), (25, .ireturn, 0), (26, .iload 2, 0), (27, .ifCond .ge 24, 0), (30, .iload 0, 0), (31, .goto 25, 0), (34, .iload 1, 0), (35, .istore 3, 0), (36, .iload 2, 0), (37, .ifCond .ge 30, 0), (40, .iload 1, 0), (41, .goto 31, 0), (44, .iload 0, 0), (45, .istore 4, 0), (47, .iload 3, 0), (48, .iconst 0, 100), (50, .lrem, 0), (51, .lconst 1, 0), (52, .invokeinterface 21 2, 0), (55, .istore 5, 0), (57, .lconst 1, 0), (58, .istore 6, 0), (60, .ret 0, 0), (60, .iload 6, 0), (62, .iconst 0, 198), (65, .if_icmp .gt 73, 0), (68, .iload 3, 0), (69, .iconst 0, 100), (71, .ldiv, 0), (72, .iload 6, 0), (74, .imul, 0), (75, .iload 5, 0), (77, .idiv, 0), (78, .lconst 1, 0), (79, .iadd, 0), (80, .istore 7, 0), (82, .iload 7, 0), (84, .iload 4, 0), (86, .iconst 0, 100), (88, .lrem, 0), (89, .imul, 0), (90, .iload 4, 0), (92, .iconst 0, 100), (94, .ldiv, 0), (95, .iload 6, 0), (97, .imul, 0), (98, .if_icmp .ge 71, 0), (101, .iconst 0, 1000), (104, .iload 7, 0), (106, .imul, 0), (107, .iload 6, 0), (109, .iadd, 0), (110, .ireturn, 0), (111, .iinc 6 0, 1), (114, .goto 40, 0), (117, .iconst 0, (-1)), (118, .ireturn, 0)]
noncomputable def F_D_simplestBetween_40 : Nat → Int32 → Int32 → Int32 → Int32 → Mem → Option (Int32 × Mem)
  | 0, _, _, _, _, _ => none
  | n + 1, x3, x4, x5, x6, s =>
    if 198 < x6 then
      some ((-1), s)
    else
    if x5 = 0 then none else
    let y1 : Int32 := ((((x3 / 100) * x6) / x5) + 1)
    if ((x4 / 100) * x6) ≤ (y1 * (irm x4 100)) then
      F_D_simplestBetween_40 n x3 x4 x5 (x6 + 1) s
    else
    some (((1000 * y1) + x6), s)
noncomputable def F_D_simplestBetween (x0 : Int32) (x1 : Int32) (s : Mem) : Option (Int32 × Mem) :=
  let y1 : Int32 := (((x0 / 100) * (irm x1 100)) - ((x1 / 100) * (irm x0 100)))
  if y1 = 0 then
    some ((-1), s)
  else
  if 0 ≤ y1 then
    if 0 ≤ y1 then
      (F_JM_max (irm x1 100) 1 s).bind fun z2 =>
      F_D_simplestBetween_40 gF x1 x0 z2.1 1 z2.2
    else
    (F_JM_max (irm x1 100) 1 s).bind fun z3 =>
    F_D_simplestBetween_40 gF x1 x1 z3.1 1 z3.2
  else
  if 0 ≤ y1 then
    (F_JM_max (irm x0 100) 1 s).bind fun z4 =>
    F_D_simplestBetween_40 gF x0 x0 z4.1 1 z4.2
  else
  (F_JM_max (irm x0 100) 1 s).bind fun z5 =>
  F_D_simplestBetween_40 gF x0 x1 z5.1 1 z5.2
def A_D_simplestBetween_40 (f : Int32 → Int32 → Int32 → Int32 → Mem → Option (Int32 × Mem)) (ls : List (Option Value)) (s : Mem) : Option (Int32 × Mem) := match lk ls 3, lk ls 4, lk ls 5, lk ls 6 with
  | some (.int a0), some (.int a1), some (.int a2), some (.int a3) => f a0 a1 a2 a3 s
  | _, _, _, _ => none
noncomputable def A_D_simplestBetween (av : List Value) (s : Mem) : Option (Int32 × Mem) := match av with
  | [.int a0, .int a1] => F_D_simplestBetween a0 a1 s
  | _ => none
noncomputable def C_D_simplestBetween (k : Nat) (av : List Value) (s : Mem) : Option (Int32 × Mem) := cbr (Nat.beq k 21) (A_JM_max av s) (none)
set_option maxRecDepth 100000 in
theorem e_D_simplestBetween_40  (n : Nat) (x3 : Int32) (x4 : Int32) (x5 : Int32) (x6 : Int32) (s : Mem) : F_D_simplestBetween_40 (n + 1) x3 x4 x5 x6 s = xs C_D_simplestBetween (fun k ls s => cbr (Nat.beq k 0) (A_D_simplestBetween_40 (F_D_simplestBetween_40 n) ls s) (none)) 0 (fun _ => 0) K_D_simplestBetween 700 (K_D_simplestBetween.drop 41) [none, none, none, some (.int x3), some (.int x4), some (.int x5), some (.int x6), none] [] s := rfl
set_option maxRecDepth 100000 in
theorem e_D_simplestBetween (x0 : Int32) (x1 : Int32) (s : Mem) : F_D_simplestBetween x0 x1 s = xs C_D_simplestBetween (fun k ls s => cbr (Nat.beq k 0) (A_D_simplestBetween_40 (F_D_simplestBetween_40 gF) ls s) (none)) 0 (fun _ => 0) K_D_simplestBetween 700 K_D_simplestBetween [some (.int x0), some (.int x1), none, none, none, none, none, none] [] s := rfl
def K_C_between : MC := [(0, .iload 1, 0), (1, .invokeinterface 143 1, 0), (4, .ifCond .eq 6, 0), (7, .iload 2, 0), (8, .invokeinterface 143 1, 0), (11, .ifCond .ne 8, 0), (14, .iconst 0, (-1)), (15, .ireturn, 0), (16, .iload 1, 0), (17, .iload 2, 0), (18, .invokeinterface 144 2, 0), (21, .ireturn, 0)]
noncomputable def F_C_between (x1 : Int32) (x2 : Int32) (s : Mem) : Option (Int32 × Mem) :=
  (F_D_isFraction x1 s).bind fun z1 =>
  if z1.1 = 0 then
    some ((-1), z1.2)
  else
  (F_D_isFraction x2 z1.2).bind fun z2 =>
  if z2.1 = 0 then
    some ((-1), z2.2)
  else
  (F_D_simplestBetween x1 x2 z2.2).bind fun z3 =>
  some (z3.1, z3.2)
noncomputable def A_C_between (av : List Value) (s : Mem) : Option (Int32 × Mem) := match av with
  | [.ref a0, .int a1, .int a2] => cbr (Nat.beq a0 0) (F_C_between a1 a2 s) none
  | _ => none
noncomputable def C_C_between (k : Nat) (av : List Value) (s : Mem) : Option (Int32 × Mem) := cbr (Nat.beq k 143) (A_D_isFraction av s) (cbr (Nat.beq k 144) (A_D_simplestBetween av s) (none))
set_option maxRecDepth 100000 in
theorem e_C_between (x1 : Int32) (x2 : Int32) (s : Mem) : F_C_between x1 x2 s = xs C_C_between (fun k ls s => none) 0 (fun _ => 0) K_C_between 700 K_C_between [some (.ref 0), some (.int x1), some (.int x2)] [] s := rfl
def K_D_ringStart : MC := [(0, .iconst 0, 2), (1, .iload 0, 0), (2, .imul, 0), (3, .lconst 1, 0), (4, .isub, 0), (5, .iconst 0, 2), (6, .iload 0, 0), (7, .imul, 0), (8, .lconst 1, 0), (9, .isub, 0), (10, .imul, 0), (11, .ireturn, 0)]
noncomputable def F_D_ringStart (x0 : Int32) (s : Mem) : Option (Int32 × Mem) :=
  some ((((2 * x0) - 1) * ((2 * x0) - 1)), s)
noncomputable def A_D_ringStart (av : List Value) (s : Mem) : Option (Int32 × Mem) := match av with
  | [.int a0] => F_D_ringStart a0 s
  | _ => none
noncomputable def C_D_ringStart (k : Nat) (av : List Value) (s : Mem) : Option (Int32 × Mem) := none
set_option maxRecDepth 100000 in
theorem e_D_ringStart (x0 : Int32) (s : Mem) : F_D_ringStart x0 s = xs C_D_ringStart (fun k ls s => none) 0 (fun _ => 0) K_D_ringStart 700 K_D_ringStart [some (.int x0)] [] s := rfl
def K_D_spiralPlace : MC := [(0, .iload 0, 0), (1, .ifCond .gt 4, 0), (4, .lconst 0, 0), (5, .ireturn, 0), (6, .lconst 1, 0), (7, .istore 2, 0), (8, .ret 0, 0), (8, .iload 2, 0), (9, .iconst 0, 1000), (12, .if_icmp .ge 18, 0), (15, .iload 2, 0), (16, .lconst 1, 0), (17, .iadd, 0), (18, .invokeinterface 146 1, 0), (21, .iload 0, 0), (22, .if_icmp .gt 18, 0), (25, .iinc 2 0, 1), (28, .goto 6, 0), (31, .iload 0, 0), (32, .iload 2, 0), (33, .invokeinterface 146 1, 0), (36, .isub, 0), (37, .lconst 1, 0), (38, .iadd, 0), (39, .istore 3, 0), (40, .iload 3, 0), (41, .iconst 0, 2), (42, .iload 2, 0), (43, .imul, 0), (44, .idiv, 0), (45, .istore 4, 0), (47, .iload 3, 0), (48, .iconst 0, 2), (49, .iload 2, 0), (50, .imul, 0), (51, .irem, 0), (52, .istore 5, 0), (54, .iload 4, 0), (56, .lookupswitch 73 #[(0, 39), (1, 47), (2, 55), (3, 64)], 0), (88, .iload 1, 0), (89, .ifCond .ne 43, 0), (92, .iload 2, 0), (93, .goto 46, 0), (96, .iload 5, 0), (98, .iload 2, 0), (99, .isub, 0), (100, .ireturn, 0), (101, .iload 1, 0), (102, .ifCond .ne 53, 0), (105, .iload 2, 0), (106, .iload 5, 0), (108, .isub, 0), (109, .goto 54, 0), (112, .iload 2, 0), (113, .ireturn, 0), (114, .iload 1, 0), (115, .ifCond .ne 60, 0), (118, .iload 2, 0), (119, .ineg, 0), (120, .goto 63, 0), (123, .iload 2, 0), (124, .iload 5, 0), (126, .isub, 0), (127, .ireturn, 0), (128, .iload 1, 0), (129, .ifCond .ne 70, 0), (132, .iload 5, 0), (134, .iload 2, 0), (135, .isub, 0), (136, .goto 72, 0), (139, .iload 2, 0), (140, .ineg, 0), (141, .ireturn, 0), (142, .iload 1, 0), (143, .ifCond .ne 77, 0), (146, .iload 2, 0), (147, .goto 79, 0), (150, .iload 2, 0), (151, .ineg, 0), (152, .ireturn, 0)]
noncomputable def F_D_spiralPlace_6 : Nat → Int32 → Int32 → Int32 → Mem → Option (Int32 × Mem)
  | 0, _, _, _, _ => none
  | n + 1, x0, x1, x2, s =>
    if 1000 ≤ x2 then
      (F_D_ringStart x2 s).bind fun z1 =>
      if (2 * x2) = 0 then none else
      let y2 : Int32 := (((x0 - z1.1) + 1) / (2 * x2))
      if (2 * x2) = 0 then none else
      let y3 : Int32 := (irm ((x0 - z1.1) + 1) (2 * x2))
      if y2 = 0 then
        if x1 = 0 then
          some (x2, z1.2)
        else
        some ((y3 - x2), z1.2)
      else
      if y2 = 1 then
        if x1 = 0 then
          some ((x2 - y3), z1.2)
        else
        some (x2, z1.2)
      else
      if y2 = 2 then
        if x1 = 0 then
          some ((-x2), z1.2)
        else
        some ((x2 - y3), z1.2)
      else
      if y2 = 3 then
        if x1 = 0 then
          some ((y3 - x2), z1.2)
        else
        some ((-x2), z1.2)
      else
      if x1 = 0 then
        some (x2, z1.2)
      else
      some ((-x2), z1.2)
    else
    (F_D_ringStart (x2 + 1) s).bind fun z4 =>
    if x0 < z4.1 then
      (F_D_ringStart x2 z4.2).bind fun z5 =>
      if (2 * x2) = 0 then none else
      let y6 : Int32 := (((x0 - z5.1) + 1) / (2 * x2))
      if (2 * x2) = 0 then none else
      let y7 : Int32 := (irm ((x0 - z5.1) + 1) (2 * x2))
      if y6 = 0 then
        if x1 = 0 then
          some (x2, z5.2)
        else
        some ((y7 - x2), z5.2)
      else
      if y6 = 1 then
        if x1 = 0 then
          some ((x2 - y7), z5.2)
        else
        some (x2, z5.2)
      else
      if y6 = 2 then
        if x1 = 0 then
          some ((-x2), z5.2)
        else
        some ((x2 - y7), z5.2)
      else
      if y6 = 3 then
        if x1 = 0 then
          some ((y7 - x2), z5.2)
        else
        some ((-x2), z5.2)
      else
      if x1 = 0 then
        some (x2, z5.2)
      else
      some ((-x2), z5.2)
    else
    F_D_spiralPlace_6 n x0 x1 (x2 + 1) z4.2
noncomputable def F_D_spiralPlace (x0 : Int32) (x1 : Int32) (s : Mem) : Option (Int32 × Mem) :=
  if 0 < x0 then
    F_D_spiralPlace_6 gF x0 x1 1 s
  else
  some (0, s)
def A_D_spiralPlace_6 (f : Int32 → Int32 → Int32 → Mem → Option (Int32 × Mem)) (ls : List (Option Value)) (s : Mem) : Option (Int32 × Mem) := match lk ls 0, lk ls 1, lk ls 2 with
  | some (.int a0), some (.int a1), some (.int a2) => f a0 a1 a2 s
  | _, _, _ => none
noncomputable def A_D_spiralPlace (av : List Value) (s : Mem) : Option (Int32 × Mem) := match av with
  | [.int a0, .int a1] => F_D_spiralPlace a0 a1 s
  | _ => none
noncomputable def C_D_spiralPlace (k : Nat) (av : List Value) (s : Mem) : Option (Int32 × Mem) := cbr (Nat.beq k 146) (A_D_ringStart av s) (none)
set_option maxRecDepth 100000 in
theorem e_D_spiralPlace_6  (n : Nat) (x0 : Int32) (x1 : Int32) (x2 : Int32) (s : Mem) : F_D_spiralPlace_6 (n + 1) x0 x1 x2 s = xs C_D_spiralPlace (fun k ls s => cbr (Nat.beq k 0) (A_D_spiralPlace_6 (F_D_spiralPlace_6 n) ls s) (none)) 0 (fun _ => 0) K_D_spiralPlace 700 (K_D_spiralPlace.drop 7) [some (.int x0), some (.int x1), some (.int x2), none, none, none] [] s := rfl
set_option maxRecDepth 100000 in
theorem e_D_spiralPlace (x0 : Int32) (x1 : Int32) (s : Mem) : F_D_spiralPlace x0 x1 s = xs C_D_spiralPlace (fun k ls s => cbr (Nat.beq k 0) (A_D_spiralPlace_6 (F_D_spiralPlace_6 gF) ls s) (none)) 0 (fun _ => 0) K_D_spiralPlace 700 K_D_spiralPlace [some (.int x0), some (.int x1), none, none, none, none] [] s := rfl
def K_C_spiral : MC := [(0, .iload 1, 0), (1, .lconst 0, 0), (2, .iconst 0, 100000), (5, .invokeinterface 2 3, 0), (8, .ifCond .eq 10, 0), (11, .iload 2, 0), (12, .lconst 0, 0), (13, .lconst 1, 0), (14, .invokeinterface 2 3, 0), (17, .ifCond .ne 12, 0), (20, .iconst 0, (-1000)), (23, .ireturn, 0), (24, .iload 1, 0), (25, .iload 2, 0), (26, .invokeinterface 147 2, 0), (29, .ireturn, 0)]
noncomputable def F_C_spiral (x1 : Int32) (x2 : Int32) (s : Mem) : Option (Int32 × Mem) :=
  (F_C_within x1 0 100000 s).bind fun z1 =>
  if z1.1 = 0 then
    some ((-1000), z1.2)
  else
  (F_C_within x2 0 1 z1.2).bind fun z2 =>
  if z2.1 = 0 then
    some ((-1000), z2.2)
  else
  (F_D_spiralPlace x1 x2 z2.2).bind fun z3 =>
  some (z3.1, z3.2)
noncomputable def A_C_spiral (av : List Value) (s : Mem) : Option (Int32 × Mem) := match av with
  | [.ref a0, .int a1, .int a2] => cbr (Nat.beq a0 0) (F_C_spiral a1 a2 s) none
  | _ => none
noncomputable def C_C_spiral (k : Nat) (av : List Value) (s : Mem) : Option (Int32 × Mem) := cbr (Nat.beq k 2) (A_C_within av s) (cbr (Nat.beq k 147) (A_D_spiralPlace av s) (none))
set_option maxRecDepth 100000 in
theorem e_C_spiral (x1 : Int32) (x2 : Int32) (s : Mem) : F_C_spiral x1 x2 s = xs C_C_spiral (fun k ls s => none) 0 (fun _ => 0) K_C_spiral 700 K_C_spiral [some (.ref 0), some (.int x1), some (.int x2)] [] s := rfl
def K_D_spiralStep : MC := [(0, .iload 0, 0), (1, .invokeinterface 115 1, 0), (4, .iload 1, 0), (5, .invokeinterface 115 1, 0), (8, .invokeinterface 21 2, 0), (11, .istore 2, 0), (12, .iload 2, 0), (13, .ifCond .ne 10, 0), (16, .lconst 0, 0), (17, .ireturn, 0), (18, .iload 2, 0), (19, .invokeinterface 146 1, 0), (22, .lconst 1, 0), (23, .isub, 0), (24, .istore 3, 0), (25, .iload 1, 0), (26, .iload 2, 0), (27, .ineg, 0), (28, .if_icmp .ne 27, 0), (31, .iload 3, 0), (32, .iconst 0, 7), (34, .iload 2, 0), (35, .imul, 0), (36, .iadd, 0), (37, .iload 0, 0), (38, .iadd, 0), (39, .ireturn, 0), (40, .iload 0, 0), (41, .iload 2, 0), (42, .if_icmp .ne 36, 0), (45, .iload 3, 0), (46, .iload 2, 0), (47, .iadd, 0), (48, .iload 1, 0), (49, .iadd, 0), (50, .ireturn, 0), (51, .iload 1, 0), (52, .iload 2, 0), (53, .if_icmp .ne 47, 0), (56, .iload 3, 0), (57, .iconst 0, 3), (58, .iload 2, 0), (59, .imul, 0), (60, .iadd, 0), (61, .iload 0, 0), (62, .isub, 0), (63, .ireturn, 0), (64, .iload 3, 0), (65, .iconst 0, 5), (66, .iload 2, 0), (67, .imul, 0), (68, .iadd, 0), (69, .iload 1, 0), (70, .isub, 0), (71, .ireturn, 0)]
noncomputable def F_D_spiralStep (x0 : Int32) (x1 : Int32) (s : Mem) : Option (Int32 × Mem) :=
  (F_JM_abs x0 s).bind fun z1 =>
  (F_JM_abs x1 z1.2).bind fun z2 =>
  (F_JM_max z1.1 z2.1 z2.2).bind fun z3 =>
  if z3.1 = 0 then
    some (0, z3.2)
  else
  (F_D_ringStart z3.1 z3.2).bind fun z4 =>
  if x1 = (-z3.1) then
    some ((((z4.1 - 1) + (7 * z3.1)) + x0), z4.2)
  else
  if x0 = z3.1 then
    some ((((z4.1 - 1) + z3.1) + x1), z4.2)
  else
  if x1 = z3.1 then
    some ((((z4.1 - 1) + (3 * z3.1)) - x0), z4.2)
  else
  some ((((z4.1 - 1) + (5 * z3.1)) - x1), z4.2)
noncomputable def A_D_spiralStep (av : List Value) (s : Mem) : Option (Int32 × Mem) := match av with
  | [.int a0, .int a1] => F_D_spiralStep a0 a1 s
  | _ => none
noncomputable def C_D_spiralStep (k : Nat) (av : List Value) (s : Mem) : Option (Int32 × Mem) := cbr (Nat.beq k 115) (A_JM_abs av s) (cbr (Nat.beq k 21) (A_JM_max av s) (cbr (Nat.beq k 146) (A_D_ringStart av s) (none)))
set_option maxRecDepth 100000 in
theorem e_D_spiralStep (x0 : Int32) (x1 : Int32) (s : Mem) : F_D_spiralStep x0 x1 s = xs C_D_spiralStep (fun k ls s => none) 0 (fun _ => 0) K_D_spiralStep 700 K_D_spiralStep [some (.int x0), some (.int x1), none, none] [] s := rfl
def K_C_winds : MC := [(0, .iload 1, 0), (1, .iconst 0, (-100)), (3, .iconst 0, 100), (5, .invokeinterface 2 3, 0), (8, .ifCond .eq 14, 0), (11, .iload 2, 0), (12, .iconst 0, (-100)), (14, .iconst 0, 100), (16, .invokeinterface 2 3, 0), (19, .ifCond .eq 14, 0), (22, .iload 1, 0), (23, .iload 2, 0), (24, .invokeinterface 149 2, 0), (27, .goto 15, 0), (30, .iconst 0, (-1)), (31, .ireturn, 0)]
noncomputable def F_C_winds (x1 : Int32) (x2 : Int32) (s : Mem) : Option (Int32 × Mem) :=
  (F_C_within x1 (-100) 100 s).bind fun z1 =>
  if z1.1 = 0 then
    some ((-1), z1.2)
  else
  (F_C_within x2 (-100) 100 z1.2).bind fun z2 =>
  if z2.1 = 0 then
    some ((-1), z2.2)
  else
  (F_D_spiralStep x1 x2 z2.2).bind fun z3 =>
  some (z3.1, z3.2)
noncomputable def A_C_winds (av : List Value) (s : Mem) : Option (Int32 × Mem) := match av with
  | [.ref a0, .int a1, .int a2] => cbr (Nat.beq a0 0) (F_C_winds a1 a2 s) none
  | _ => none
noncomputable def C_C_winds (k : Nat) (av : List Value) (s : Mem) : Option (Int32 × Mem) := cbr (Nat.beq k 2) (A_C_within av s) (cbr (Nat.beq k 149) (A_D_spiralStep av s) (none))
set_option maxRecDepth 100000 in
theorem e_C_winds (x1 : Int32) (x2 : Int32) (s : Mem) : F_C_winds x1 x2 s = xs C_C_winds (fun k ls s => none) 0 (fun _ => 0) K_C_winds 700 K_C_winds [some (.ref 0), some (.int x1), some (.int x2)] [] s := rfl
def K_W_tell : MC := [(0, .iload 1, 0), (1, .iconst 0, (-1)), (2, .if_icmp .ne 6, 0), (5, .aload 0, 0), (6, .lload 103569, 0), (9, .ireturn, 0), (10, .iload 1, 0), (11, .iload 2, 0), (12, .iload 3, 0), (13, .invokeinterface 2 3, 0), (16, .ifCond .eq 15, 0), (19, .aload 0, 0), (20, .iload 1, 0), (21, .lload 104594, 0), (24, .goto 16, 0), (27, .iconst 0, (-1)), (28, .ireturn, 0)]
noncomputable def F_W_tell (h0 : Nat) (x1 : Int32) (x2 : Int32) (x3 : Int32) (s : Mem) : Option (Int32 × Mem) :=
  if x1 = (-1) then
    bif Nat.beq (kd h0) 11 then
    (F_W_clear h0 s).bind fun z1 =>
    some (z1.1, z1.2)
    else none
  else
  (F_C_within x1 x2 x3 s).bind fun z2 =>
  if z2.1 = 0 then
    some ((-1), z2.2)
  else
  bif Nat.beq (kd h0) 11 then
  (F_W_add h0 x1 z2.2).bind fun z3 =>
  some (z3.1, z3.2)
  else none
noncomputable def A_W_tell (av : List Value) (s : Mem) : Option (Int32 × Mem) := match av with
  | [.ref a0, .int a1, .int a2, .int a3] => F_W_tell a0 a1 a2 a3 s
  | _ => none
noncomputable def C_W_tell (k : Nat) (av : List Value) (s : Mem) : Option (Int32 × Mem) := cbr (Nat.beq k 101) (A_W_clear av s) (cbr (Nat.beq k 2) (A_C_within av s) (cbr (Nat.beq k 102) (A_W_add av s) (none)))
set_option maxRecDepth 100000 in
theorem e_W_tell (h0 : Nat) (x1 : Int32) (x2 : Int32) (x3 : Int32) (s : Mem) : F_W_tell h0 x1 x2 x3 s = xs C_W_tell (fun k ls s => none) 0 (fun _ => 0) K_W_tell 700 K_W_tell [some (.ref h0), some (.int x1), some (.int x2), some (.int x3)] [] s := rfl
def K_C_calls : MC := [(0, .aload 0, 0), (1, .getstatic 1000, 0), (4, .getstatic 606, 0), (7, .getstatic 903, 0), (10, .iload 1, 0), (11, .lconst 0, 0), (12, .iconst 0, 15), (14, .invokeinterface 151 148, 0), (17, .ireturn, 0)]
noncomputable def F_C_calls (x1 : Int32) (s : Mem) : Option (Int32 × Mem) :=
  (F_W_tell 28 x1 0 15 s).bind fun z1 =>
  some (z1.1, z1.2)
noncomputable def A_C_calls (av : List Value) (s : Mem) : Option (Int32 × Mem) := match av with
  | [.ref a0, .int a1] => cbr (Nat.beq a0 0) (F_C_calls a1 s) none
  | _ => none
noncomputable def C_C_calls (k : Nat) (av : List Value) (s : Mem) : Option (Int32 × Mem) := cbr (Nat.beq k 151) (A_W_tell av s) (none)
set_option maxRecDepth 100000 in
theorem e_C_calls (x1 : Int32) (s : Mem) : F_C_calls x1 s = xs C_C_calls (fun k ls s => none) 0 (fun _ => 0) K_C_calls 700 K_C_calls [some (.ref 0), some (.int x1)] [] s := rfl
def K_JI_numberOfTrailingZeros : MC := [(0, .iload 0, 0), (1, .iconst 0, (-1)), (2, .ixor, 0), (3, .iload 0, 0), (4, .lconst 1, 0), (5, .isub, 0), (6, .iand, 0), (7, .istore 0, 0), (8, .iload 0, 0), (9, .ifCond .gt 14, 0), (12, .iload 0, 0), (13, .iconst 0, 32), (15, .iand, 0), (16, .ireturn, 0), (17, .lconst 1, 0), (18, .istore 1, 0), (19, .iload 0, 0), (20, .iconst 0, 65536), (23, .if_icmp .le 24, 0), (26, .iinc 1 0, 16), (29, .iload 0, 0), (30, .iconst 0, 16), (32, .iushr, 0), (33, .istore 0, 0), (34, .iload 0, 0), (35, .iconst 0, 256), (38, .if_icmp .le 32, 0), (41, .iinc 1 0, 8), (44, .iload 0, 0), (45, .iconst 0, 8), (47, .iushr, 0), (48, .istore 0, 0), (49, .iload 0, 0), (50, .iconst 0, 16), (52, .if_icmp .le 40, 0), (55, .iinc 1 0, 4), (58, .iload 0, 0), (59, .iconst 0, 4), (60, .iushr, 0), (61, .istore 0, 0), (62, .iload 0, 0), (63, .iconst 0, 4), (64, .if_icmp .le 48, 0), (67, .iinc 1 0, 2), (70, .iload 0, 0), (71, .iconst 0, 2), (72, .iushr, 0), (73, .istore 0, 0), (74, .iload 1, 0), (75, .iload 0, 0), (76, .lconst 1, 0), (77, .iushr, 0), (78, .iadd, 0), (79, .ireturn, 0)]
noncomputable def F_JI_numberOfTrailingZeros (x0 : Int32) (s : Mem) : Option (Int32 × Mem) :=
  let y1 : Int32 := ((x0 ^^^ (-1)) &&& (x0 - 1))
  if 0 < y1 then
    if y1 ≤ 65536 then
      if y1 ≤ 256 then
        if y1 ≤ 16 then
          if y1 ≤ 4 then
            some ((1 + (ush y1 1)), s)
          else
          some (((1 + 2) + (ush (ush y1 2) 1)), s)
        else
        if (ush y1 4) ≤ 4 then
          some (((1 + 4) + (ush (ush y1 4) 1)), s)
        else
        some ((((1 + 4) + 2) + (ush (ush (ush y1 4) 2) 1)), s)
      else
      if (ush y1 8) ≤ 16 then
        if (ush y1 8) ≤ 4 then
          some (((1 + 8) + (ush (ush y1 8) 1)), s)
        else
        some ((((1 + 8) + 2) + (ush (ush (ush y1 8) 2) 1)), s)
      else
      if (ush (ush y1 8) 4) ≤ 4 then
        some ((((1 + 8) + 4) + (ush (ush (ush y1 8) 4) 1)), s)
      else
      let y2 : Int32 := (ush (ush (ush y1 8) 4) 2)
      some (((((1 + 8) + 4) + 2) + (ush y2 1)), s)
    else
    if (ush y1 16) ≤ 256 then
      if (ush y1 16) ≤ 16 then
        if (ush y1 16) ≤ 4 then
          some (((1 + 16) + (ush (ush y1 16) 1)), s)
        else
        some ((((1 + 16) + 2) + (ush (ush (ush y1 16) 2) 1)), s)
      else
      if (ush (ush y1 16) 4) ≤ 4 then
        some ((((1 + 16) + 4) + (ush (ush (ush y1 16) 4) 1)), s)
      else
      let y3 : Int32 := (ush (ush (ush y1 16) 4) 2)
      some (((((1 + 16) + 4) + 2) + (ush y3 1)), s)
    else
    if (ush (ush y1 16) 8) ≤ 16 then
      if (ush (ush y1 16) 8) ≤ 4 then
        some ((((1 + 16) + 8) + (ush (ush (ush y1 16) 8) 1)), s)
      else
      let y4 : Int32 := (ush (ush (ush y1 16) 8) 2)
      some (((((1 + 16) + 8) + 2) + (ush y4 1)), s)
    else
    let y5 : Int32 := (ush (ush (ush y1 16) 8) 4)
    if y5 ≤ 4 then
      some (((((1 + 16) + 8) + 4) + (ush y5 1)), s)
    else
    some ((((((1 + 16) + 8) + 4) + 2) + (ush (ush y5 2) 1)), s)
  else
  some ((y1 &&& 32), s)
noncomputable def A_JI_numberOfTrailingZeros (av : List Value) (s : Mem) : Option (Int32 × Mem) := match av with
  | [.int a0] => F_JI_numberOfTrailingZeros a0 s
  | _ => none
noncomputable def C_JI_numberOfTrailingZeros (k : Nat) (av : List Value) (s : Mem) : Option (Int32 × Mem) := none
set_option maxRecDepth 100000 in
theorem e_JI_numberOfTrailingZeros (x0 : Int32) (s : Mem) : F_JI_numberOfTrailingZeros x0 s = xs C_JI_numberOfTrailingZeros (fun k ls s => none) 0 (fun _ => 0) K_JI_numberOfTrailingZeros 700 K_JI_numberOfTrailingZeros [some (.int x0), none] [] s := rfl
def K_D_leastUntold : MC := [(0, .lconst 0, 0), (1, .istore 1, 0), (2, .lconst 0, 0), (3, .istore 2, 0), (4, .ret 0, 0), (4, .iload 2, 0), (5, .aload 0, 0), (6, .getfield 801, 0), (9, .if_icmp .ge 19, 0), (12, .iload 1, 0), (13, .lconst 1, 0), (14, .aload 0, 0), (15, .iload 2, 0), (16, .invokeinterface 105 146, 0), (19, .ishl, 0), (20, .ior, 0), (21, .istore 1, 0), (22, .iinc 2 0, 1), (25, .goto 4, 0), (28, .iload 1, 0), (29, .iconst 0, (-1)), (30, .ixor, 0), (31, .invokeinterface 153 1, 0), (34, .ireturn, 0)]
noncomputable def F_D_leastUntold_4 : Nat → Int32 → Int32 → Mem → Option (Int32 × Mem)
  | 0, _, _, _ => none
  | n + 1, x1, x2, s =>
    if (s 28 1) ≤ x2 then
      (F_JI_numberOfTrailingZeros (x1 ^^^ (-1)) s).bind fun z1 =>
      some (z1.1, z1.2)
    else
    (F_W_at 28 x2 s).bind fun z2 =>
    F_D_leastUntold_4 n (x1 ||| (shl 1 z2.1)) (x2 + 1) z2.2
noncomputable def F_D_leastUntold  (s : Mem) : Option (Int32 × Mem) :=
  F_D_leastUntold_4 gF 0 0 s
def A_D_leastUntold_4 (f : Int32 → Int32 → Mem → Option (Int32 × Mem)) (ls : List (Option Value)) (s : Mem) : Option (Int32 × Mem) := match lk ls 0, lk ls 1, lk ls 2 with
  | some (.ref a0), some (.int a1), some (.int a2) => cbr (Nat.beq a0 28) (f a1 a2 s) none
  | _, _, _ => none
noncomputable def A_D_leastUntold (av : List Value) (s : Mem) : Option (Int32 × Mem) := match av with
  | [.ref a0] => cbr (Nat.beq a0 28) (F_D_leastUntold s) none
  | _ => none
noncomputable def C_D_leastUntold (k : Nat) (av : List Value) (s : Mem) : Option (Int32 × Mem) := cbr (Nat.beq k 153) (A_JI_numberOfTrailingZeros av s) (cbr (Nat.beq k 105) (A_W_at av s) (none))
set_option maxRecDepth 100000 in
theorem e_D_leastUntold_4  (n : Nat) (x1 : Int32) (x2 : Int32) (s : Mem) : F_D_leastUntold_4 (n + 1) x1 x2 s = xs C_D_leastUntold (fun k ls s => cbr (Nat.beq k 0) (A_D_leastUntold_4 (F_D_leastUntold_4 n) ls s) (none)) 0 (fun _ => 0) K_D_leastUntold 700 (K_D_leastUntold.drop 5) [some (.ref 28), some (.int x1), some (.int x2)] [] s := rfl
set_option maxRecDepth 100000 in
theorem e_D_leastUntold  (s : Mem) : F_D_leastUntold s = xs C_D_leastUntold (fun k ls s => cbr (Nat.beq k 0) (A_D_leastUntold_4 (F_D_leastUntold_4 gF) ls s) (none)) 0 (fun _ => 0) K_D_leastUntold 700 K_D_leastUntold [some (.ref 28), none, none] [] s := rfl
def K_D_onlyOdd : MC := [(0, .lconst 0, 0), (1, .istore 1, 0), (2, .lconst 0, 0), (3, .istore 2, 0), (4, .ret 0, 0), (4, .iload 2, 0), (5, .aload 0, 0), (6, .getfield 801, 0), (9, .if_icmp .ge 19, 0), (12, .iload 1, 0), (13, .lconst 1, 0), (14, .aload 0, 0), (15, .iload 2, 0), (16, .invokeinterface 105 146, 0), (19, .ishl, 0), (20, .ixor, 0), (21, .istore 1, 0), (22, .iinc 2 0, 1), (25, .goto 4, 0), (28, .iload 1, 0), (29, .invokeinterface 111 1, 0), (32, .lconst 1, 0), (33, .if_icmp .ne 26, 0), (36, .iload 1, 0), (37, .invokeinterface 153 1, 0), (40, .goto 27, 0), (43, .iconst 0, (-1)), (44, .ireturn, 0)]
noncomputable def F_D_onlyOdd_4 : Nat → Int32 → Int32 → Mem → Option (Int32 × Mem)
  | 0, _, _, _ => none
  | n + 1, x1, x2, s =>
    if (s 28 1) ≤ x2 then
      (F_JI_bitCount x1 s).bind fun z1 =>
      if z1.1 = 1 then
        (F_JI_numberOfTrailingZeros x1 z1.2).bind fun z2 =>
        some (z2.1, z2.2)
      else
      some ((-1), z1.2)
    else
    (F_W_at 28 x2 s).bind fun z3 =>
    F_D_onlyOdd_4 n (x1 ^^^ (shl 1 z3.1)) (x2 + 1) z3.2
noncomputable def F_D_onlyOdd  (s : Mem) : Option (Int32 × Mem) :=
  F_D_onlyOdd_4 gF 0 0 s
def A_D_onlyOdd_4 (f : Int32 → Int32 → Mem → Option (Int32 × Mem)) (ls : List (Option Value)) (s : Mem) : Option (Int32 × Mem) := match lk ls 0, lk ls 1, lk ls 2 with
  | some (.ref a0), some (.int a1), some (.int a2) => cbr (Nat.beq a0 28) (f a1 a2 s) none
  | _, _, _ => none
noncomputable def A_D_onlyOdd (av : List Value) (s : Mem) : Option (Int32 × Mem) := match av with
  | [.ref a0] => cbr (Nat.beq a0 28) (F_D_onlyOdd s) none
  | _ => none
noncomputable def C_D_onlyOdd (k : Nat) (av : List Value) (s : Mem) : Option (Int32 × Mem) := cbr (Nat.beq k 111) (A_JI_bitCount av s) (cbr (Nat.beq k 153) (A_JI_numberOfTrailingZeros av s) (cbr (Nat.beq k 105) (A_W_at av s) (none)))
set_option maxRecDepth 100000 in
theorem e_D_onlyOdd_4  (n : Nat) (x1 : Int32) (x2 : Int32) (s : Mem) : F_D_onlyOdd_4 (n + 1) x1 x2 s = xs C_D_onlyOdd (fun k ls s => cbr (Nat.beq k 0) (A_D_onlyOdd_4 (F_D_onlyOdd_4 n) ls s) (none)) 0 (fun _ => 0) K_D_onlyOdd 700 (K_D_onlyOdd.drop 5) [some (.ref 28), some (.int x1), some (.int x2)] [] s := rfl
set_option maxRecDepth 100000 in
theorem e_D_onlyOdd  (s : Mem) : F_D_onlyOdd s = xs C_D_onlyOdd (fun k ls s => cbr (Nat.beq k 0) (A_D_onlyOdd_4 (F_D_onlyOdd_4 gF) ls s) (none)) 0 (fun _ => 0) K_D_onlyOdd 700 K_D_onlyOdd [some (.ref 28), none, none] [] s := rfl
def K_C_missing : MC := [(0, .iload 1, 0), (1, .lookupswitch 14 #[(0, 2), (1, 8)], 0), (28, .aload 0, 0), (29, .getstatic 1000, 0), (32, .getstatic 606, 0), (35, .getstatic 903, 0), (38, .invokeinterface 154 1, 0), (41, .ireturn, 0), (42, .aload 0, 0), (43, .getstatic 1000, 0), (46, .getstatic 606, 0), (49, .getstatic 903, 0), (52, .invokeinterface 155 1, 0), (55, .ireturn, 0), (56, .iconst 0, (-1)), (57, .ireturn, 0)]
noncomputable def F_C_missing (x1 : Int32) (s : Mem) : Option (Int32 × Mem) :=
  if x1 = 0 then
    (F_D_leastUntold s).bind fun z1 =>
    some (z1.1, z1.2)
  else
  if x1 = 1 then
    (F_D_onlyOdd s).bind fun z2 =>
    some (z2.1, z2.2)
  else
  some ((-1), s)
noncomputable def A_C_missing (av : List Value) (s : Mem) : Option (Int32 × Mem) := match av with
  | [.ref a0, .int a1] => cbr (Nat.beq a0 0) (F_C_missing a1 s) none
  | _ => none
noncomputable def C_C_missing (k : Nat) (av : List Value) (s : Mem) : Option (Int32 × Mem) := cbr (Nat.beq k 154) (A_D_leastUntold av s) (cbr (Nat.beq k 155) (A_D_onlyOdd av s) (none))
set_option maxRecDepth 100000 in
theorem e_C_missing (x1 : Int32) (s : Mem) : F_C_missing x1 s = xs C_C_missing (fun k ls s => none) 0 (fun _ => 0) K_C_missing 700 K_C_missing [some (.ref 0), some (.int x1)] [] s := rfl
def K_C_length : MC := [(0, .aload 0, 0), (1, .getstatic 1000, 0), (4, .getstatic 606, 0), (7, .getstatic 904, 0), (10, .iload 1, 0), (11, .lconst 1, 0), (12, .iconst 0, 60), (14, .invokeinterface 151 148, 0), (17, .ireturn, 0)]
noncomputable def F_C_length (x1 : Int32) (s : Mem) : Option (Int32 × Mem) :=
  (F_W_tell 30 x1 1 60 s).bind fun z1 =>
  some (z1.1, z1.2)
noncomputable def A_C_length (av : List Value) (s : Mem) : Option (Int32 × Mem) := match av with
  | [.ref a0, .int a1] => cbr (Nat.beq a0 0) (F_C_length a1 s) none
  | _ => none
noncomputable def C_C_length (k : Nat) (av : List Value) (s : Mem) : Option (Int32 × Mem) := cbr (Nat.beq k 151) (A_W_tell av s) (none)
set_option maxRecDepth 100000 in
theorem e_C_length (x1 : Int32) (s : Mem) : F_C_length x1 s = xs C_C_length (fun k ls s => none) 0 (fun _ => 0) K_C_length 700 K_C_length [some (.ref 0), some (.int x1)] [] s := rfl
def K_D_weigh : MC := [(0, .lconst 1, 0), (1, .istore 3, 0), (2, .ret 0, 0), (2, .iload 3, 0), (3, .iload 2, 0), (4, .if_icmp .gt 35, 0), (7, .iload 3, 0), (8, .invokeinterface 153 1, 0), (11, .istore 4, 0), (13, .iload 3, 0), (14, .iload 3, 0), (15, .lconst 1, 0), (16, .isub, 0), (17, .iand, 0), (18, .istore 5, 0), (20, .aload 0, 0), (21, .getstatic 700, 0), (24, .iload 3, 0), (25, .aload 1, 0), (26, .iload 4, 0), (28, .invokeinterface 105 146, 0), (31, .iload 5, 0), (33, .ifCond .ne 25, 0), (36, .lconst 0, 0), (37, .goto 31, 0), (40, .lconst 1, 0), (41, .aload 0, 0), (42, .getstatic 700, 0), (45, .iload 5, 0), (47, .iaload, 0), (48, .iadd, 0), (49, .iadd, 0), (50, .iastore, 0), (51, .iinc 3 0, 1), (54, .goto 2, 0), (57, .return_, 0)]
noncomputable def F_D_weigh_2 : Nat → Int32 → Int32 → Mem → Option (Int32 × Mem)
  | 0, _, _, _ => none
  | n + 1, x2, x3, s =>
    if x2 < x3 then
      some (0, s)
    else
    (F_JI_numberOfTrailingZeros x3 s).bind fun z1 =>
    (F_W_at 30 z1.1 z1.2).bind fun z2 =>
    if (x3 &&& (x3 - 1)) = 0 then
      (sd z2.2 101 x3 (z2.1 + 0)).bind fun s3 =>
      F_D_weigh_2 n x2 (x3 + 1) s3
    else
    (ld z2.2 101 (x3 &&& (x3 - 1))).bind fun v4 =>
    (sd z2.2 101 x3 (z2.1 + (1 + v4))).bind fun s5 =>
    F_D_weigh_2 n x2 (x3 + 1) s5
noncomputable def F_D_weigh (x2 : Int32) (s : Mem) : Option (Int32 × Mem) :=
  F_D_weigh_2 gF x2 1 s
def A_D_weigh_2 (f : Int32 → Int32 → Mem → Option (Int32 × Mem)) (ls : List (Option Value)) (s : Mem) : Option (Int32 × Mem) := match lk ls 0, lk ls 1, lk ls 2, lk ls 3 with
  | some (.ref a0), some (.ref a1), some (.int a2), some (.int a3) => cbr (Nat.beq a0 100) (cbr (Nat.beq a1 30) (f a2 a3 s) none) none
  | _, _, _, _ => none
noncomputable def A_D_weigh (av : List Value) (s : Mem) : Option (Int32 × Mem) := match av with
  | [.ref a0, .ref a1, .int a2] => cbr (Nat.beq a0 100) (cbr (Nat.beq a1 30) (F_D_weigh a2 s) none) none
  | _ => none
noncomputable def C_D_weigh (k : Nat) (av : List Value) (s : Mem) : Option (Int32 × Mem) := cbr (Nat.beq k 153) (A_JI_numberOfTrailingZeros av s) (cbr (Nat.beq k 105) (A_W_at av s) (none))
set_option maxRecDepth 100000 in
theorem e_D_weigh_2  (n : Nat) (x2 : Int32) (x3 : Int32) (s : Mem) : F_D_weigh_2 (n + 1) x2 x3 s = xs C_D_weigh (fun k ls s => cbr (Nat.beq k 0) (A_D_weigh_2 (F_D_weigh_2 n) ls s) (none)) 0 (fun _ => 0) K_D_weigh 700 (K_D_weigh.drop 3) [some (.ref 100), some (.ref 30), some (.int x2), some (.int x3), none, none] [] s := rfl
set_option maxRecDepth 100000 in
theorem e_D_weigh (x2 : Int32) (s : Mem) : F_D_weigh x2 s = xs C_D_weigh (fun k ls s => cbr (Nat.beq k 0) (A_D_weigh_2 (F_D_weigh_2 gF) ls s) (none)) 0 (fun _ => 0) K_D_weigh 700 K_D_weigh [some (.ref 100), some (.ref 30), some (.int x2), none, none, none] [] s := rfl
def K_D_fewestRolls : MC := [(0, .iconst 0, 1000000), (2, .istore 3, 0), (3, .iload 1, 0), (4, .istore 4, 0), (6, .ret 0, 0), (6, .iload 4, 0), (8, .ifCond .le 37, 0), (11, .iload 1, 0), (12, .iload 4, 0), (14, .ixor, 0), (15, .istore 5, 0), (17, .aload 0, 0), (18, .getstatic 700, 0), (21, .iload 4, 0), (23, .iaload, 0), (24, .iload 2, 0), (25, .if_icmp .gt 30, 0), (28, .iload 3, 0), (29, .lconst 1, 0), (30, .iload 5, 0), (32, .ifCond .ne 23, 0), (35, .lconst 0, 0), (36, .goto 27, 0), (39, .aload 0, 0), (40, .getstatic 701, 0), (43, .iload 5, 0), (45, .iaload, 0), (46, .iadd, 0), (47, .invokeinterface 14 2, 0), (50, .istore 3, 0), (51, .iload 4, 0), (53, .lconst 1, 0), (54, .isub, 0), (55, .iload 1, 0), (56, .iand, 0), (57, .istore 4, 0), (59, .goto 4, 0), (62, .iload 3, 0), (63, .ireturn, 0)]
noncomputable def F_D_fewestRolls_4 : Nat → Int32 → Int32 → Int32 → Int32 → Mem → Option (Int32 × Mem)
  | 0, _, _, _, _, _ => none
  | n + 1, x1, x2, x3, x4, s =>
    if x4 ≤ 0 then
      some (x3, s)
    else
    (ld s 101 x4).bind fun v1 =>
    if x2 < v1 then
      F_D_fewestRolls_4 n x1 x2 x3 ((x4 - 1) &&& x1) s
    else
    if (x1 ^^^ x4) = 0 then
      (F_JM_min x3 (1 + 0) s).bind fun z2 =>
      F_D_fewestRolls_4 n x1 x2 z2.1 ((x4 - 1) &&& x1) z2.2
    else
    (ld s 102 (x1 ^^^ x4)).bind fun v3 =>
    (F_JM_min x3 (1 + v3) s).bind fun z4 =>
    F_D_fewestRolls_4 n x1 x2 z4.1 ((x4 - 1) &&& x1) z4.2
noncomputable def F_D_fewestRolls (x1 : Int32) (x2 : Int32) (s : Mem) : Option (Int32 × Mem) :=
  F_D_fewestRolls_4 gF x1 x2 1000000 x1 s
def A_D_fewestRolls_4 (f : Int32 → Int32 → Int32 → Int32 → Mem → Option (Int32 × Mem)) (ls : List (Option Value)) (s : Mem) : Option (Int32 × Mem) := match lk ls 0, lk ls 1, lk ls 2, lk ls 3, lk ls 4 with
  | some (.ref a0), some (.int a1), some (.int a2), some (.int a3), some (.int a4) => cbr (Nat.beq a0 100) (f a1 a2 a3 a4 s) none
  | _, _, _, _, _ => none
noncomputable def A_D_fewestRolls (av : List Value) (s : Mem) : Option (Int32 × Mem) := match av with
  | [.ref a0, .int a1, .int a2] => cbr (Nat.beq a0 100) (F_D_fewestRolls a1 a2 s) none
  | _ => none
noncomputable def C_D_fewestRolls (k : Nat) (av : List Value) (s : Mem) : Option (Int32 × Mem) := cbr (Nat.beq k 14) (A_JM_min av s) (none)
set_option maxRecDepth 100000 in
theorem e_D_fewestRolls_4  (n : Nat) (x1 : Int32) (x2 : Int32) (x3 : Int32) (x4 : Int32) (s : Mem) : F_D_fewestRolls_4 (n + 1) x1 x2 x3 x4 s = xs C_D_fewestRolls (fun k ls s => cbr (Nat.beq k 0) (A_D_fewestRolls_4 (F_D_fewestRolls_4 n) ls s) (none)) 0 (fun _ => 0) K_D_fewestRolls 700 (K_D_fewestRolls.drop 5) [some (.ref 100), some (.int x1), some (.int x2), some (.int x3), some (.int x4), none] [] s := rfl
set_option maxRecDepth 100000 in
theorem e_D_fewestRolls (x1 : Int32) (x2 : Int32) (s : Mem) : F_D_fewestRolls x1 x2 s = xs C_D_fewestRolls (fun k ls s => cbr (Nat.beq k 0) (A_D_fewestRolls_4 (F_D_fewestRolls_4 gF) ls s) (none)) 0 (fun _ => 0) K_D_fewestRolls 700 K_D_fewestRolls [some (.ref 100), some (.int x1), some (.int x2), none, none, none] [] s := rfl
def K_D_mostLeft : MC := [(0, .lconst 0, 0), (1, .istore 3, 0), (2, .lconst 1, 0), (3, .istore 4, 0), (5, .ret 0, 0), (5, .iload 4, 0), (7, .iload 1, 0), (8, .if_icmp .gt 45, 0), (11, .iload 4, 0), (13, .iload 1, 0), (14, .if_icmp .ne 13, 0), (17, .lconst 0, 0), (18, .goto 19, 0), (21, .aload 0, 0), (22, .getstatic 701, 0), (25, .iload 1, 0), (26, .iload 4, 0), (28, .ixor, 0), (29, .iaload, 0), (30, .istore 5, 0), (32, .aload 0, 0), (33, .getstatic 700, 0), (36, .iload 4, 0), (38, .iaload, 0), (39, .iload 2, 0), (40, .if_icmp .gt 43, 0), (43, .iload 5, 0), (45, .lconst 1, 0), (46, .iadd, 0), (47, .aload 0, 0), (48, .getstatic 701, 0), (51, .iload 1, 0), (52, .iaload, 0), (53, .if_icmp .ne 43, 0), (56, .iload 3, 0), (57, .iload 2, 0), (58, .aload 0, 0), (59, .getstatic 700, 0), (62, .iload 4, 0), (64, .iaload, 0), (65, .isub, 0), (66, .invokeinterface 21 2, 0), (69, .istore 3, 0), (70, .iinc 4 0, 1), (73, .goto 4, 0), (76, .iload 3, 0), (77, .ireturn, 0)]
noncomputable def F_D_mostLeft_4 : Nat → Int32 → Int32 → Int32 → Int32 → Mem → Option (Int32 × Mem)
  | 0, _, _, _, _, _ => none
  | n + 1, x1, x2, x3, x4, s =>
    if x1 < x4 then
      some (x3, s)
    else
    if x4 = x1 then
      (ld s 101 x4).bind fun v1 =>
      if x2 < v1 then
        F_D_mostLeft_4 n x1 x2 x3 (x4 + 1) s
      else
      (ld s 102 x1).bind fun v2 =>
      if (0 + 1) = v2 then
        (ld s 101 x4).bind fun v3 =>
        (F_JM_max x3 (x2 - v3) s).bind fun z4 =>
        F_D_mostLeft_4 n x1 x2 z4.1 (x4 + 1) z4.2
      else
      F_D_mostLeft_4 n x1 x2 x3 (x4 + 1) s
    else
    (ld s 102 (x1 ^^^ x4)).bind fun v5 =>
    (ld s 101 x4).bind fun v6 =>
    if x2 < v6 then
      F_D_mostLeft_4 n x1 x2 x3 (x4 + 1) s
    else
    (ld s 102 x1).bind fun v7 =>
    if (v5 + 1) = v7 then
      (ld s 101 x4).bind fun v8 =>
      (F_JM_max x3 (x2 - v8) s).bind fun z9 =>
      F_D_mostLeft_4 n x1 x2 z9.1 (x4 + 1) z9.2
    else
    F_D_mostLeft_4 n x1 x2 x3 (x4 + 1) s
noncomputable def F_D_mostLeft (x1 : Int32) (x2 : Int32) (s : Mem) : Option (Int32 × Mem) :=
  F_D_mostLeft_4 gF x1 x2 0 1 s
def A_D_mostLeft_4 (f : Int32 → Int32 → Int32 → Int32 → Mem → Option (Int32 × Mem)) (ls : List (Option Value)) (s : Mem) : Option (Int32 × Mem) := match lk ls 0, lk ls 1, lk ls 2, lk ls 3, lk ls 4 with
  | some (.ref a0), some (.int a1), some (.int a2), some (.int a3), some (.int a4) => cbr (Nat.beq a0 100) (f a1 a2 a3 a4 s) none
  | _, _, _, _, _ => none
noncomputable def A_D_mostLeft (av : List Value) (s : Mem) : Option (Int32 × Mem) := match av with
  | [.ref a0, .int a1, .int a2] => cbr (Nat.beq a0 100) (F_D_mostLeft a1 a2 s) none
  | _ => none
noncomputable def C_D_mostLeft (k : Nat) (av : List Value) (s : Mem) : Option (Int32 × Mem) := cbr (Nat.beq k 21) (A_JM_max av s) (none)
set_option maxRecDepth 100000 in
theorem e_D_mostLeft_4  (n : Nat) (x1 : Int32) (x2 : Int32) (x3 : Int32) (x4 : Int32) (s : Mem) : F_D_mostLeft_4 (n + 1) x1 x2 x3 x4 s = xs C_D_mostLeft (fun k ls s => cbr (Nat.beq k 0) (A_D_mostLeft_4 (F_D_mostLeft_4 n) ls s) (none)) 0 (fun _ => 0) K_D_mostLeft 700 (K_D_mostLeft.drop 5) [some (.ref 100), some (.int x1), some (.int x2), some (.int x3), some (.int x4), none] [] s := rfl
set_option maxRecDepth 100000 in
theorem e_D_mostLeft (x1 : Int32) (x2 : Int32) (s : Mem) : F_D_mostLeft x1 x2 s = xs C_D_mostLeft (fun k ls s => cbr (Nat.beq k 0) (A_D_mostLeft_4 (F_D_mostLeft_4 gF) ls s) (none)) 0 (fun _ => 0) K_D_mostLeft 700 K_D_mostLeft [some (.ref 100), some (.int x1), some (.int x2), none, none, none] [] s := rfl
def K_D_cutRolls : MC := [(0, .lconst 1, 0), (1, .aload 1, 0), (2, .getfield 801, 0), (5, .iconst 0, 7), (7, .invokeinterface 14 2, 0), (10, .ishl, 0), (11, .lconst 1, 0), (12, .isub, 0), (13, .istore 4, 0), (15, .iload 4, 0), (17, .ifCond .ne 13, 0), (20, .lconst 0, 0), (21, .ireturn, 0), (22, .aload 0, 0), (23, .aload 1, 0), (24, .iload 4, 0), (26, .multianewarray 158 131, 0), (29, .lconst 1, 0), (30, .istore 5, 0), (32, .ret 0, 0), (32, .iload 5, 0), (34, .iload 4, 0), (36, .if_icmp .gt 33, 0), (39, .aload 0, 0), (40, .getstatic 701, 0), (43, .iload 5, 0), (45, .aload 0, 0), (46, .iload 5, 0), (48, .iload 2, 0), (49, .invokeinterface 159 131, 0), (52, .iastore, 0), (53, .iinc 5 0, 1), (56, .goto 19, 0), (59, .aload 0, 0), (60, .getstatic 701, 0), (63, .iload 4, 0), (65, .iaload, 0), (66, .iconst 0, 1000000), (68, .if_icmp .lt 41, 0), (71, .iconst 0, (-1)), (72, .ireturn, 0), (73, .iload 3, 0), (74, .ifCond .ne 48, 0), (77, .aload 0, 0), (78, .getstatic 701, 0), (81, .iload 4, 0), (83, .iaload, 0), (84, .goto 52, 0), (87, .aload 0, 0), (88, .iload 4, 0), (90, .iload 2, 0), (91, .invokeinterface 160 131, 0), (94, .ireturn, 0)]
noncomputable def F_D_cutRolls_19 : Nat → Int32 → Int32 → Int32 → Int32 → Mem → Option (Int32 × Mem)
  | 0, _, _, _, _, _ => none
  | n + 1, x2, x3, x4, x5, s =>
    if x4 < x5 then
      (ld s 102 x4).bind fun v1 =>
      if v1 < 1000000 then
        if x3 = 0 then
          (ld s 102 x4).bind fun v2 =>
          some (v2, s)
        else
        (F_D_mostLeft x4 x2 s).bind fun z3 =>
        some (z3.1, z3.2)
      else
      some ((-1), s)
    else
    (F_D_fewestRolls x5 x2 s).bind fun z4 =>
    (sd z4.2 102 x5 z4.1).bind fun s5 =>
    F_D_cutRolls_19 n x2 x3 x4 (x5 + 1) s5
noncomputable def F_D_cutRolls (x2 : Int32) (x3 : Int32) (s : Mem) : Option (Int32 × Mem) :=
  (F_JM_min (s 30 1) 7 s).bind fun z1 =>
  if ((shl 1 z1.1) - 1) = 0 then
    some (0, z1.2)
  else
  (F_D_weigh ((shl 1 z1.1) - 1) z1.2).bind fun z2 =>
  F_D_cutRolls_19 gF x2 x3 ((shl 1 z1.1) - 1) 1 z2.2
def A_D_cutRolls_19 (f : Int32 → Int32 → Int32 → Int32 → Mem → Option (Int32 × Mem)) (ls : List (Option Value)) (s : Mem) : Option (Int32 × Mem) := match lk ls 0, lk ls 2, lk ls 3, lk ls 4, lk ls 5 with
  | some (.ref a0), some (.int a1), some (.int a2), some (.int a3), some (.int a4) => cbr (Nat.beq a0 100) (f a1 a2 a3 a4 s) none
  | _, _, _, _, _ => none
noncomputable def A_D_cutRolls (av : List Value) (s : Mem) : Option (Int32 × Mem) := match av with
  | [.ref a0, .ref a1, .int a2, .int a3] => cbr (Nat.beq a0 100) (cbr (Nat.beq a1 30) (F_D_cutRolls a2 a3 s) none) none
  | _ => none
noncomputable def C_D_cutRolls (k : Nat) (av : List Value) (s : Mem) : Option (Int32 × Mem) := cbr (Nat.beq k 14) (A_JM_min av s) (cbr (Nat.beq k 158) (A_D_weigh av s) (cbr (Nat.beq k 160) (A_D_mostLeft av s) (cbr (Nat.beq k 159) (A_D_fewestRolls av s) (none))))
set_option maxRecDepth 100000 in
theorem e_D_cutRolls_19  (n : Nat) (x2 : Int32) (x3 : Int32) (x4 : Int32) (x5 : Int32) (s : Mem) : F_D_cutRolls_19 (n + 1) x2 x3 x4 x5 s = xs C_D_cutRolls (fun k ls s => cbr (Nat.beq k 0) (A_D_cutRolls_19 (F_D_cutRolls_19 n) ls s) (none)) 0 (fun _ => 0) K_D_cutRolls 700 (K_D_cutRolls.drop 20) [some (.ref 100), none, some (.int x2), some (.int x3), some (.int x4), some (.int x5)] [] s := rfl
set_option maxRecDepth 100000 in
theorem e_D_cutRolls (x2 : Int32) (x3 : Int32) (s : Mem) : F_D_cutRolls x2 x3 s = xs C_D_cutRolls (fun k ls s => cbr (Nat.beq k 0) (A_D_cutRolls_19 (F_D_cutRolls_19 gF) ls s) (none)) 0 (fun _ => 0) K_D_cutRolls 700 K_D_cutRolls [some (.ref 100), some (.ref 30), some (.int x2), some (.int x3), none, none] [] s := rfl
def K_C_runner : MC := [(0, .iload 1, 0), (1, .lconst 1, 0), (2, .iconst 0, 120), (4, .invokeinterface 2 3, 0), (7, .ifCond .eq 10, 0), (10, .iload 2, 0), (11, .lconst 0, 0), (12, .lconst 1, 0), (13, .invokeinterface 2 3, 0), (16, .ifCond .ne 12, 0), (19, .iconst 0, (-1)), (20, .ireturn, 0), (21, .aload 0, 0), (22, .getstatic 1013, 0), (25, .aload 0, 0), (26, .getstatic 1000, 0), (29, .getstatic 606, 0), (32, .getstatic 904, 0), (35, .iload 1, 0), (36, .iload 2, 0), (37, .invokeinterface 161 132, 0), (40, .ireturn, 0)]
noncomputable def F_C_runner (x1 : Int32) (x2 : Int32) (s : Mem) : Option (Int32 × Mem) :=
  (F_C_within x1 1 120 s).bind fun z1 =>
  if z1.1 = 0 then
    some ((-1), z1.2)
  else
  (F_C_within x2 0 1 z1.2).bind fun z2 =>
  if z2.1 = 0 then
    some ((-1), z2.2)
  else
  (F_D_cutRolls x1 x2 z2.2).bind fun z3 =>
  some (z3.1, z3.2)
noncomputable def A_C_runner (av : List Value) (s : Mem) : Option (Int32 × Mem) := match av with
  | [.ref a0, .int a1, .int a2] => cbr (Nat.beq a0 0) (F_C_runner a1 a2 s) none
  | _ => none
noncomputable def C_C_runner (k : Nat) (av : List Value) (s : Mem) : Option (Int32 × Mem) := cbr (Nat.beq k 2) (A_C_within av s) (cbr (Nat.beq k 161) (A_D_cutRolls av s) (none))
set_option maxRecDepth 100000 in
theorem e_C_runner (x1 : Int32) (x2 : Int32) (s : Mem) : F_C_runner x1 x2 s = xs C_C_runner (fun k ls s => none) 0 (fun _ => 0) K_C_runner 700 K_C_runner [some (.ref 0), some (.int x1), some (.int x2)] [] s := rfl
def K_C_wall : MC := [(0, .aload 0, 0), (1, .getstatic 1000, 0), (4, .getstatic 606, 0), (7, .getstatic 905, 0), (10, .iload 1, 0), (11, .lconst 0, 0), (12, .iconst 0, 99), (14, .invokeinterface 151 148, 0), (17, .ireturn, 0)]
noncomputable def F_C_wall (x1 : Int32) (s : Mem) : Option (Int32 × Mem) :=
  (F_W_tell 32 x1 0 99 s).bind fun z1 =>
  some (z1.1, z1.2)
noncomputable def A_C_wall (av : List Value) (s : Mem) : Option (Int32 × Mem) := match av with
  | [.ref a0, .int a1] => cbr (Nat.beq a0 0) (F_C_wall a1 s) none
  | _ => none
noncomputable def C_C_wall (k : Nat) (av : List Value) (s : Mem) : Option (Int32 × Mem) := cbr (Nat.beq k 151) (A_W_tell av s) (none)
set_option maxRecDepth 100000 in
theorem e_C_wall (x1 : Int32) (s : Mem) : F_C_wall x1 s = xs C_C_wall (fun k ls s => none) 0 (fun _ => 0) K_C_wall 700 K_C_wall [some (.ref 0), some (.int x1)] [] s := rfl
def K_D_rampFoot : MC := [(0, .lconst 0, 0), (1, .istore 3, 0), (2, .ret 0, 0), (2, .iload 3, 0), (3, .aload 0, 0), (4, .getfield 801, 0), (7, .if_icmp .ge 25, 0), (10, .aload 0, 0), (11, .iload 3, 0), (12, .invokeinterface 105 146, 0), (15, .iload 2, 0), (16, .if_icmp .gt 21, 0), (19, .aload 0, 0), (20, .iload 3, 0), (21, .invokeinterface 105 146, 0), (24, .iload 1, 0), (25, .iload 3, 0), (26, .lconst 1, 0), (27, .iadd, 0), (28, .imul, 0), (29, .if_icmp .le 23, 0), (32, .iconst 0, (-1)), (33, .ireturn, 0), (34, .iinc 3 0, 1), (37, .goto 2, 0), (40, .aload 0, 0), (41, .getfield 801, 0), (44, .iload 1, 0), (45, .ifCond .le 37, 0), (48, .iload 2, 0), (49, .iload 1, 0), (50, .iadd, 0), (51, .lconst 1, 0), (52, .isub, 0), (53, .iload 1, 0), (54, .idiv, 0), (55, .goto 38, 0), (58, .lconst 0, 0), (59, .invokeinterface 21 2, 0), (62, .ireturn, 0)]
noncomputable def F_D_rampFoot_2 : Nat → Int32 → Int32 → Int32 → Mem → Option (Int32 × Mem)
  | 0, _, _, _, _ => none
  | n + 1, x1, x2, x3, s =>
    if (s 32 1) ≤ x3 then
      if x1 ≤ 0 then
        (F_JM_max (s 32 1) 0 s).bind fun z1 =>
        some (z1.1, z1.2)
      else
      if x1 = 0 then none else
      (F_JM_max (s 32 1) (((x2 + x1) - 1) / x1) s).bind fun z2 =>
      some (z2.1, z2.2)
    else
    (F_W_at 32 x3 s).bind fun z3 =>
    if x2 < z3.1 then
      some ((-1), z3.2)
    else
    (F_W_at 32 x3 z3.2).bind fun z4 =>
    if z4.1 ≤ (x1 * (x3 + 1)) then
      F_D_rampFoot_2 n x1 x2 (x3 + 1) z4.2
    else
    some ((-1), z4.2)
noncomputable def F_D_rampFoot (x1 : Int32) (x2 : Int32) (s : Mem) : Option (Int32 × Mem) :=
  F_D_rampFoot_2 gF x1 x2 0 s
def A_D_rampFoot_2 (f : Int32 → Int32 → Int32 → Mem → Option (Int32 × Mem)) (ls : List (Option Value)) (s : Mem) : Option (Int32 × Mem) := match lk ls 0, lk ls 1, lk ls 2, lk ls 3 with
  | some (.ref a0), some (.int a1), some (.int a2), some (.int a3) => cbr (Nat.beq a0 32) (f a1 a2 a3 s) none
  | _, _, _, _ => none
noncomputable def A_D_rampFoot (av : List Value) (s : Mem) : Option (Int32 × Mem) := match av with
  | [.ref a0, .int a1, .int a2] => cbr (Nat.beq a0 32) (F_D_rampFoot a1 a2 s) none
  | _ => none
noncomputable def C_D_rampFoot (k : Nat) (av : List Value) (s : Mem) : Option (Int32 × Mem) := cbr (Nat.beq k 21) (A_JM_max av s) (cbr (Nat.beq k 105) (A_W_at av s) (none))
set_option maxRecDepth 100000 in
theorem e_D_rampFoot_2  (n : Nat) (x1 : Int32) (x2 : Int32) (x3 : Int32) (s : Mem) : F_D_rampFoot_2 (n + 1) x1 x2 x3 s = xs C_D_rampFoot (fun k ls s => cbr (Nat.beq k 0) (A_D_rampFoot_2 (F_D_rampFoot_2 n) ls s) (none)) 0 (fun _ => 0) K_D_rampFoot 700 (K_D_rampFoot.drop 3) [some (.ref 32), some (.int x1), some (.int x2), some (.int x3)] [] s := rfl
set_option maxRecDepth 100000 in
theorem e_D_rampFoot (x1 : Int32) (x2 : Int32) (s : Mem) : F_D_rampFoot x1 x2 s = xs C_D_rampFoot (fun k ls s => cbr (Nat.beq k 0) (A_D_rampFoot_2 (F_D_rampFoot_2 gF) ls s) (none)) 0 (fun _ => 0) K_D_rampFoot 700 K_D_rampFoot [some (.ref 32), some (.int x1), some (.int x2), none] [] s := rfl
def K_C_ramp : MC := [(0, .iload 1, 0), (1, .lconst 1, 0), (2, .iconst 0, 9), (4, .invokeinterface 2 3, 0), (7, .ifCond .eq 10, 0), (10, .iload 2, 0), (11, .lconst 0, 0), (12, .iconst 0, 99), (14, .invokeinterface 2 3, 0), (17, .ifCond .ne 12, 0), (20, .iconst 0, (-1)), (21, .ireturn, 0), (22, .aload 0, 0), (23, .getstatic 1000, 0), (26, .getstatic 606, 0), (29, .getstatic 905, 0), (32, .iload 1, 0), (33, .iload 2, 0), (34, .invokeinterface 164 3, 0), (37, .ireturn, 0)]
noncomputable def F_C_ramp (x1 : Int32) (x2 : Int32) (s : Mem) : Option (Int32 × Mem) :=
  (F_C_within x1 1 9 s).bind fun z1 =>
  if z1.1 = 0 then
    some ((-1), z1.2)
  else
  (F_C_within x2 0 99 z1.2).bind fun z2 =>
  if z2.1 = 0 then
    some ((-1), z2.2)
  else
  (F_D_rampFoot x1 x2 z2.2).bind fun z3 =>
  some (z3.1, z3.2)
noncomputable def A_C_ramp (av : List Value) (s : Mem) : Option (Int32 × Mem) := match av with
  | [.ref a0, .int a1, .int a2] => cbr (Nat.beq a0 0) (F_C_ramp a1 a2 s) none
  | _ => none
noncomputable def C_C_ramp (k : Nat) (av : List Value) (s : Mem) : Option (Int32 × Mem) := cbr (Nat.beq k 2) (A_C_within av s) (cbr (Nat.beq k 164) (A_D_rampFoot av s) (none))
set_option maxRecDepth 100000 in
theorem e_C_ramp (x1 : Int32) (x2 : Int32) (s : Mem) : F_C_ramp x1 x2 s = xs C_C_ramp (fun k ls s => none) 0 (fun _ => 0) K_C_ramp 700 K_C_ramp [some (.ref 0), some (.int x1), some (.int x2)] [] s := rfl
def K_D_waysOfSide : MC := [(0, .iload 0, 0), (1, .iload 2, 0), (2, .if_icmp .gt 8, 0), (5, .iload 1, 0), (6, .iload 3, 0), (7, .if_icmp .gt 8, 0), (10, .lconst 1, 0), (11, .goto 9, 0), (14, .lconst 0, 0), (15, .iload 1, 0), (16, .iload 2, 0), (17, .if_icmp .gt 17, 0), (20, .iload 0, 0), (21, .iload 3, 0), (22, .if_icmp .gt 17, 0), (25, .lconst 1, 0), (26, .goto 18, 0), (29, .lconst 0, 0), (30, .iadd, 0), (31, .ireturn, 0)]
noncomputable def F_D_waysOfSide (x0 : Int32) (x1 : Int32) (x2 : Int32) (x3 : Int32) (s : Mem) : Option (Int32 × Mem) :=
  if x2 < x0 then
    if x2 < x1 then
      some ((0 + 0), s)
    else
    if x3 < x0 then
      some ((0 + 0), s)
    else
    some ((0 + 1), s)
  else
  if x3 < x1 then
    if x2 < x1 then
      some ((0 + 0), s)
    else
    if x3 < x0 then
      some ((0 + 0), s)
    else
    some ((0 + 1), s)
  else
  if x2 < x1 then
    some ((1 + 0), s)
  else
  if x3 < x0 then
    some ((1 + 0), s)
  else
  some ((1 + 1), s)
noncomputable def A_D_waysOfSide (av : List Value) (s : Mem) : Option (Int32 × Mem) := match av with
  | [.int a0, .int a1, .int a2, .int a3] => F_D_waysOfSide a0 a1 a2 a3 s
  | _ => none
noncomputable def C_D_waysOfSide (k : Nat) (av : List Value) (s : Mem) : Option (Int32 × Mem) := none
set_option maxRecDepth 100000 in
theorem e_D_waysOfSide (x0 : Int32) (x1 : Int32) (x2 : Int32) (x3 : Int32) (s : Mem) : F_D_waysOfSide x0 x1 x2 x3 s = xs C_D_waysOfSide (fun k ls s => none) 0 (fun _ => 0) K_D_waysOfSide 700 K_D_waysOfSide [some (.int x0), some (.int x1), some (.int x2), some (.int x3)] [] s := rfl
def K_D_waysThrough : MC := [(0, .iload 0, 0), (1, .iconst 0, 10000), (4, .ldiv, 0), (5, .istore 2, 0), (6, .iload 0, 0), (7, .iconst 0, 100), (9, .ldiv, 0), (10, .iconst 0, 100), (12, .lrem, 0), (13, .istore 3, 0), (14, .iload 0, 0), (15, .iconst 0, 100), (17, .lrem, 0), (18, .istore 4, 0), (20, .iload 1, 0), (21, .iconst 0, 100), (23, .ldiv, 0), (24, .istore 5, 0), (26, .iload 1, 0), (27, .iconst 0, 100), (29, .lrem, 0), (30, .istore 6, 0), (32, .iload 2, 0), (33, .ifCond .eq 32, 0), (36, .iload 3, 0), (37, .ifCond .eq 32, 0), (40, .iload 4, 0), (42, .ifCond .eq 32, 0), (45, .iload 5, 0), (47, .ifCond .eq 32, 0), (50, .iload 6, 0), (52, .ifCond .ne 34, 0), (55, .iconst 0, (-1)), (56, .ireturn, 0), (57, .iload 2, 0), (58, .iload 3, 0), (59, .iload 5, 0), (61, .iload 6, 0), (63, .invokeinterface 166 4, 0), (66, .iload 3, 0), (67, .iload 4, 0), (69, .iload 5, 0), (71, .iload 6, 0), (73, .invokeinterface 166 4, 0), (76, .iadd, 0), (77, .iload 2, 0), (78, .iload 4, 0), (80, .iload 5, 0), (82, .iload 6, 0), (84, .invokeinterface 166 4, 0), (87, .iadd, 0), (88, .ireturn, 0)]
noncomputable def F_D_waysThrough (x0 : Int32) (x1 : Int32) (s : Mem) : Option (Int32 × Mem) :=
  if (x0 / 10000) = 0 then
    some ((-1), s)
  else
  if (irm (x0 / 100) 100) = 0 then
    some ((-1), s)
  else
  if (irm x0 100) = 0 then
    some ((-1), s)
  else
  if (x1 / 100) = 0 then
    some ((-1), s)
  else
  if (irm x1 100) = 0 then
    some ((-1), s)
  else
  (F_D_waysOfSide (x0 / 10000) (irm (x0 / 100) 100) (x1 / 100) (irm x1 100) s).bind fun z1 =>
  (F_D_waysOfSide (irm (x0 / 100) 100) (irm x0 100) (x1 / 100) (irm x1 100) z1.2).bind fun z2 =>
  (F_D_waysOfSide (x0 / 10000) (irm x0 100) (x1 / 100) (irm x1 100) z2.2).bind fun z3 =>
  some (((z1.1 + z2.1) + z3.1), z3.2)
noncomputable def A_D_waysThrough (av : List Value) (s : Mem) : Option (Int32 × Mem) := match av with
  | [.int a0, .int a1] => F_D_waysThrough a0 a1 s
  | _ => none
noncomputable def C_D_waysThrough (k : Nat) (av : List Value) (s : Mem) : Option (Int32 × Mem) := cbr (Nat.beq k 166) (A_D_waysOfSide av s) (none)
set_option maxRecDepth 100000 in
theorem e_D_waysThrough (x0 : Int32) (x1 : Int32) (s : Mem) : F_D_waysThrough x0 x1 s = xs C_D_waysThrough (fun k ls s => none) 0 (fun _ => 0) K_D_waysThrough 700 K_D_waysThrough [some (.int x0), some (.int x1), none, none, none, none, none] [] s := rfl
def K_C_box : MC := [(0, .iload 1, 0), (1, .lconst 0, 0), (2, .iconst 0, 999999), (5, .invokeinterface 2 3, 0), (8, .ifCond .eq 15, 0), (11, .iload 2, 0), (12, .lconst 0, 0), (13, .iconst 0, 9999), (16, .invokeinterface 2 3, 0), (19, .ifCond .eq 15, 0), (22, .iload 3, 0), (23, .lconst 0, 0), (24, .lconst 1, 0), (25, .invokeinterface 2 3, 0), (28, .ifCond .ne 17, 0), (31, .iconst 0, (-1)), (32, .ireturn, 0), (33, .iload 1, 0), (34, .iload 2, 0), (35, .invokeinterface 167 2, 0), (38, .istore 4, 0), (40, .iload 3, 0), (41, .lconst 1, 0), (42, .if_icmp .eq 27, 0), (45, .iload 4, 0), (47, .iconst 0, (-1)), (48, .if_icmp .ne 29, 0), (51, .iload 4, 0), (53, .goto 32, 0), (56, .iload 4, 0), (58, .lconst 1, 0), (59, .invokeinterface 14 2, 0), (62, .ireturn, 0)]
noncomputable def F_C_box (x1 : Int32) (x2 : Int32) (x3 : Int32) (s : Mem) : Option (Int32 × Mem) :=
  (F_C_within x1 0 999999 s).bind fun z1 =>
  if z1.1 = 0 then
    some ((-1), z1.2)
  else
  (F_C_within x2 0 9999 z1.2).bind fun z2 =>
  if z2.1 = 0 then
    some ((-1), z2.2)
  else
  (F_C_within x3 0 1 z2.2).bind fun z3 =>
  if z3.1 = 0 then
    some ((-1), z3.2)
  else
  (F_D_waysThrough x1 x2 z3.2).bind fun z4 =>
  if x3 = 1 then
    some (z4.1, z4.2)
  else
  if z4.1 = (-1) then
    some (z4.1, z4.2)
  else
  (F_JM_min z4.1 1 z4.2).bind fun z5 =>
  some (z5.1, z5.2)
noncomputable def A_C_box (av : List Value) (s : Mem) : Option (Int32 × Mem) := match av with
  | [.ref a0, .int a1, .int a2, .int a3] => cbr (Nat.beq a0 0) (F_C_box a1 a2 a3 s) none
  | _ => none
noncomputable def C_C_box (k : Nat) (av : List Value) (s : Mem) : Option (Int32 × Mem) := cbr (Nat.beq k 2) (A_C_within av s) (cbr (Nat.beq k 167) (A_D_waysThrough av s) (cbr (Nat.beq k 14) (A_JM_min av s) (none)))
set_option maxRecDepth 100000 in
theorem e_C_box (x1 : Int32) (x2 : Int32) (x3 : Int32) (s : Mem) : F_C_box x1 x2 x3 s = xs C_C_box (fun k ls s => none) 0 (fun _ => 0) K_C_box 700 K_C_box [some (.ref 0), some (.int x1), some (.int x2), some (.int x3), none] [] s := rfl
def K_C_digit : MC := [(0, .aload 0, 0), (1, .getstatic 1000, 0), (4, .getstatic 606, 0), (7, .getstatic 906, 0), (10, .iload 1, 0), (11, .lconst 0, 0), (12, .iconst 0, 9), (14, .invokeinterface 151 148, 0), (17, .ireturn, 0)]
noncomputable def F_C_digit (x1 : Int32) (s : Mem) : Option (Int32 × Mem) :=
  (F_W_tell 34 x1 0 9 s).bind fun z1 =>
  some (z1.1, z1.2)
noncomputable def A_C_digit (av : List Value) (s : Mem) : Option (Int32 × Mem) := match av with
  | [.ref a0, .int a1] => cbr (Nat.beq a0 0) (F_C_digit a1 s) none
  | _ => none
noncomputable def C_C_digit (k : Nat) (av : List Value) (s : Mem) : Option (Int32 × Mem) := cbr (Nat.beq k 151) (A_W_tell av s) (none)
set_option maxRecDepth 100000 in
theorem e_C_digit (x1 : Int32) (s : Mem) : F_C_digit x1 s = xs C_C_digit (fun k ls s => none) 0 (fun _ => 0) K_C_digit 700 K_C_digit [some (.ref 0), some (.int x1)] [] s := rfl
def K_D_countDigits : MC := [(0, .aload 0, 0), (1, .getstatic 703, 0), (4, .lconst 0, 0), (5, .multianewarray 110 2, 0), (8, .lconst 0, 0), (9, .istore 2, 0), (10, .ret 0, 0), (10, .iload 2, 0), (11, .aload 1, 0), (12, .getfield 801, 0), (15, .if_icmp .ge 30, 0), (18, .aload 1, 0), (19, .iload 2, 0), (20, .invokeinterface 105 146, 0), (23, .istore 3, 0), (24, .iload 3, 0), (25, .lconst 0, 0), (26, .iconst 0, 9), (28, .invokeinterface 2 3, 0), (31, .ifCond .eq 28, 0), (34, .aload 0, 0), (35, .getstatic 703, 0), (38, .iload 3, 0), (39, .dup2, 0), (40, .iaload, 0), (41, .lconst 1, 0), (42, .iadd, 0), (43, .iastore, 0), (44, .iinc 2 0, 1), (47, .goto 6, 0), (50, .return_, 0)]
noncomputable def F_D_countDigits_6 : Nat → Int32 → Mem → Option (Int32 × Mem)
  | 0, _, _ => none
  | n + 1, x2, s =>
    if (s 34 1) ≤ x2 then
      some (0, s)
    else
    (F_W_at 34 x2 s).bind fun z1 =>
    (F_C_within z1.1 0 9 z1.2).bind fun z2 =>
    if z2.1 = 0 then
      F_D_countDigits_6 n (x2 + 1) z2.2
    else
    (ld z2.2 104 z1.1).bind fun v3 =>
    (sd z2.2 104 z1.1 (v3 + 1)).bind fun s4 =>
    F_D_countDigits_6 n (x2 + 1) s4
noncomputable def F_D_countDigits  (s : Mem) : Option (Int32 × Mem) :=
  (F_JA_fill 104 0 s).bind fun z1 =>
  F_D_countDigits_6 gF 0 z1.2
def A_D_countDigits_6 (f : Int32 → Mem → Option (Int32 × Mem)) (ls : List (Option Value)) (s : Mem) : Option (Int32 × Mem) := match lk ls 0, lk ls 1, lk ls 2 with
  | some (.ref a0), some (.ref a1), some (.int a2) => cbr (Nat.beq a0 100) (cbr (Nat.beq a1 34) (f a2 s) none) none
  | _, _, _ => none
noncomputable def A_D_countDigits (av : List Value) (s : Mem) : Option (Int32 × Mem) := match av with
  | [.ref a0, .ref a1] => cbr (Nat.beq a0 100) (cbr (Nat.beq a1 34) (F_D_countDigits s) none) none
  | _ => none
noncomputable def C_D_countDigits (k : Nat) (av : List Value) (s : Mem) : Option (Int32 × Mem) := cbr (Nat.beq k 110) (A_JA_fill av s) (cbr (Nat.beq k 105) (A_W_at av s) (cbr (Nat.beq k 2) (A_C_within av s) (none)))
set_option maxRecDepth 100000 in
theorem e_D_countDigits_6  (n : Nat) (x2 : Int32) (s : Mem) : F_D_countDigits_6 (n + 1) x2 s = xs C_D_countDigits (fun k ls s => cbr (Nat.beq k 0) (A_D_countDigits_6 (F_D_countDigits_6 n) ls s) (none)) 0 (fun _ => 0) K_D_countDigits 700 (K_D_countDigits.drop 7) [some (.ref 100), some (.ref 34), some (.int x2), none] [] s := rfl
set_option maxRecDepth 100000 in
theorem e_D_countDigits  (s : Mem) : F_D_countDigits s = xs C_D_countDigits (fun k ls s => cbr (Nat.beq k 0) (A_D_countDigits_6 (F_D_countDigits_6 gF) ls s) (none)) 0 (fun _ => 0) K_D_countDigits 700 K_D_countDigits [some (.ref 100), some (.ref 34), none, none] [] s := rfl
def K_D_countArranged : MC := [(0, .lconst 1, 0), (1, .istore 1, 0), (2, .lconst 0, 0), (3, .istore 2, 0), (4, .lconst 0, 0), (5, .istore 3, 0), (6, .ret 0, 0), (6, .iload 3, 0), (7, .iconst 0, 10), (9, .if_icmp .ge 30, 0), (12, .lconst 1, 0), (13, .istore 4, 0), (15, .ret 1, 0), (15, .iload 4, 0), (17, .aload 0, 0), (18, .getstatic 703, 0), (21, .iload 3, 0), (22, .iaload, 0), (23, .if_icmp .gt 28, 0), (26, .iinc 2 0, 1), (29, .iload 1, 0), (30, .iload 2, 0), (31, .imul, 0), (32, .iload 4, 0), (34, .idiv, 0), (35, .istore 1, 0), (36, .iinc 4 0, 1), (39, .goto 12, 0), (42, .iinc 3 0, 1), (45, .goto 6, 0), (48, .iload 1, 0), (49, .ireturn, 0)]
noncomputable def F_D_countArranged_11 (k6 : Int32 → Int32 → Int32 → Mem → Option (Int32 × Mem)) : Nat → Int32 → Int32 → Int32 → Int32 → Mem → Option (Int32 × Mem)
  | 0, _, _, _, _, _ => none
  | n + 1, x1, x2, x3, x4, s =>
    (ld s 104 x3).bind fun v1 =>
    if v1 < x4 then
      k6 x1 x2 (x3 + 1) s
    else
    if x4 = 0 then none else
    F_D_countArranged_11 k6 n ((x1 * (x2 + 1)) / x4) (x2 + 1) x3 (x4 + 1) s
noncomputable def F_D_countArranged_6 : Nat → Int32 → Int32 → Int32 → Mem → Option (Int32 × Mem)
  | 0, _, _, _, _ => none
  | n + 1, x1, x2, x3, s =>
    if 10 ≤ x3 then
      some (x1, s)
    else
    F_D_countArranged_11 (F_D_countArranged_6 n) gF x1 x2 x3 1 s
noncomputable def F_D_countArranged  (s : Mem) : Option (Int32 × Mem) :=
  F_D_countArranged_6 gF 1 0 0 s
def A_D_countArranged_6 (f : Int32 → Int32 → Int32 → Mem → Option (Int32 × Mem)) (ls : List (Option Value)) (s : Mem) : Option (Int32 × Mem) := match lk ls 0, lk ls 1, lk ls 2, lk ls 3 with
  | some (.ref a0), some (.int a1), some (.int a2), some (.int a3) => cbr (Nat.beq a0 100) (f a1 a2 a3 s) none
  | _, _, _, _ => none
def A_D_countArranged_11 (f : Int32 → Int32 → Int32 → Int32 → Mem → Option (Int32 × Mem)) (ls : List (Option Value)) (s : Mem) : Option (Int32 × Mem) := match lk ls 0, lk ls 1, lk ls 2, lk ls 3, lk ls 4 with
  | some (.ref a0), some (.int a1), some (.int a2), some (.int a3), some (.int a4) => cbr (Nat.beq a0 100) (f a1 a2 a3 a4 s) none
  | _, _, _, _, _ => none
noncomputable def A_D_countArranged (av : List Value) (s : Mem) : Option (Int32 × Mem) := match av with
  | [.ref a0] => cbr (Nat.beq a0 100) (F_D_countArranged s) none
  | _ => none
noncomputable def C_D_countArranged (k : Nat) (av : List Value) (s : Mem) : Option (Int32 × Mem) := none
set_option maxRecDepth 100000 in
theorem e_D_countArranged_11 (k6 : Int32 → Int32 → Int32 → Mem → Option (Int32 × Mem)) (n : Nat) (x1 : Int32) (x2 : Int32) (x3 : Int32) (x4 : Int32) (s : Mem) : F_D_countArranged_11 k6 (n + 1) x1 x2 x3 x4 s = xs C_D_countArranged (fun k ls s => cbr (Nat.beq k 0) (A_D_countArranged_6 (k6) ls s) (cbr (Nat.beq k 1) (A_D_countArranged_11 (F_D_countArranged_11 k6 n) ls s) (none))) 0 (fun _ => 0) K_D_countArranged 700 (K_D_countArranged.drop 13) [some (.ref 100), some (.int x1), some (.int x2), some (.int x3), some (.int x4)] [] s := rfl
set_option maxRecDepth 100000 in
theorem e_D_countArranged_6  (n : Nat) (x1 : Int32) (x2 : Int32) (x3 : Int32) (s : Mem) : F_D_countArranged_6 (n + 1) x1 x2 x3 s = xs C_D_countArranged (fun k ls s => cbr (Nat.beq k 1) (A_D_countArranged_11 (F_D_countArranged_11 (F_D_countArranged_6 n) gF) ls s) (none)) 0 (fun _ => 0) K_D_countArranged 700 (K_D_countArranged.drop 7) [some (.ref 100), some (.int x1), some (.int x2), some (.int x3), none] [] s := rfl
set_option maxRecDepth 100000 in
theorem e_D_countArranged  (s : Mem) : F_D_countArranged s = xs C_D_countArranged (fun k ls s => cbr (Nat.beq k 0) (A_D_countArranged_6 (F_D_countArranged_6 gF) ls s) (none)) 0 (fun _ => 0) K_D_countArranged 700 K_D_countArranged [some (.ref 100), none, none, none, none] [] s := rfl
def K_D_countRows : MC := [(0, .aload 0, 0), (1, .aload 1, 0), (2, .multianewarray 170 130, 0), (5, .aload 0, 0), (6, .invokeinterface 171 129, 0), (9, .ireturn, 0)]
noncomputable def F_D_countRows  (s : Mem) : Option (Int32 × Mem) :=
  (F_D_countDigits s).bind fun z1 =>
  (F_D_countArranged z1.2).bind fun z2 =>
  some (z2.1, z2.2)
noncomputable def A_D_countRows (av : List Value) (s : Mem) : Option (Int32 × Mem) := match av with
  | [.ref a0, .ref a1] => cbr (Nat.beq a0 100) (cbr (Nat.beq a1 34) (F_D_countRows s) none) none
  | _ => none
noncomputable def C_D_countRows (k : Nat) (av : List Value) (s : Mem) : Option (Int32 × Mem) := cbr (Nat.beq k 170) (A_D_countDigits av s) (cbr (Nat.beq k 171) (A_D_countArranged av s) (none))
set_option maxRecDepth 100000 in
theorem e_D_countRows  (s : Mem) : F_D_countRows s = xs C_D_countRows (fun k ls s => none) 0 (fun _ => 0) K_D_countRows 700 K_D_countRows [some (.ref 100), some (.ref 34)] [] s := rfl
def K_D_rankOfRow : MC := [(0, .aload 0, 0), (1, .aload 1, 0), (2, .multianewarray 170 130, 0), (5, .lconst 0, 0), (6, .istore 2, 0), (7, .lconst 0, 0), (8, .istore 3, 0), (9, .ret 0, 0), (9, .iload 3, 0), (10, .aload 1, 0), (11, .getfield 801, 0), (14, .if_icmp .ge 68, 0), (17, .aload 1, 0), (18, .iload 3, 0), (19, .invokeinterface 105 146, 0), (22, .istore 4, 0), (24, .lconst 0, 0), (25, .istore 5, 0), (27, .ret 1, 0), (27, .iload 5, 0), (29, .iload 4, 0), (31, .if_icmp .ge 53, 0), (34, .iload 5, 0), (36, .iconst 0, 10), (38, .if_icmp .ge 53, 0), (41, .aload 0, 0), (42, .getstatic 703, 0), (45, .iload 5, 0), (47, .iaload, 0), (48, .ifCond .le 51, 0), (51, .aload 0, 0), (52, .getstatic 703, 0), (55, .iload 5, 0), (57, .dup2, 0), (58, .iaload, 0), (59, .lconst 1, 0), (60, .isub, 0), (61, .iastore, 0), (62, .iload 2, 0), (63, .aload 0, 0), (64, .invokeinterface 171 129, 0), (67, .iadd, 0), (68, .istore 2, 0), (69, .aload 0, 0), (70, .getstatic 703, 0), (73, .iload 5, 0), (75, .dup2, 0), (76, .iaload, 0), (77, .lconst 1, 0), (78, .iadd, 0), (79, .iastore, 0), (80, .iinc 5 0, 1), (83, .goto 18, 0), (86, .iload 4, 0), (88, .lconst 0, 0), (89, .iconst 0, 9), (91, .invokeinterface 2 3, 0), (94, .ifCond .eq 66, 0), (97, .aload 0, 0), (98, .getstatic 703, 0), (101, .iload 4, 0), (103, .dup2, 0), (104, .iaload, 0), (105, .lconst 1, 0), (106, .isub, 0), (107, .iastore, 0), (108, .iinc 3 0, 1), (111, .goto 7, 0), (114, .iload 2, 0), (115, .ireturn, 0)]
noncomputable def F_D_rankOfRow_17 (k7 : Int32 → Int32 → Mem → Option (Int32 × Mem)) : Nat → Int32 → Int32 → Int32 → Int32 → Mem → Option (Int32 × Mem)
  | 0, _, _, _, _, _ => none
  | n + 1, x2, x3, x4, x5, s =>
    if x4 ≤ x5 then
      (F_C_within x4 0 9 s).bind fun z1 =>
      if z1.1 = 0 then
        k7 x2 (x3 + 1) z1.2
      else
      (ld z1.2 104 x4).bind fun v2 =>
      (sd z1.2 104 x4 (v2 - 1)).bind fun s3 =>
      k7 x2 (x3 + 1) s3
    else
    if 10 ≤ x5 then
      (F_C_within x4 0 9 s).bind fun z4 =>
      if z4.1 = 0 then
        k7 x2 (x3 + 1) z4.2
      else
      (ld z4.2 104 x4).bind fun v5 =>
      (sd z4.2 104 x4 (v5 - 1)).bind fun s6 =>
      k7 x2 (x3 + 1) s6
    else
    (ld s 104 x5).bind fun v7 =>
    if v7 ≤ 0 then
      F_D_rankOfRow_17 k7 n x2 x3 x4 (x5 + 1) s
    else
    (ld s 104 x5).bind fun v8 =>
    (sd s 104 x5 (v8 - 1)).bind fun s9 =>
    (F_D_countArranged s9).bind fun z10 =>
    (ld z10.2 104 x5).bind fun v11 =>
    (sd z10.2 104 x5 (v11 + 1)).bind fun s12 =>
    F_D_rankOfRow_17 k7 n (x2 + z10.1) x3 x4 (x5 + 1) s12
noncomputable def F_D_rankOfRow_7 : Nat → Int32 → Int32 → Mem → Option (Int32 × Mem)
  | 0, _, _, _ => none
  | n + 1, x2, x3, s =>
    if (s 34 1) ≤ x3 then
      some (x2, s)
    else
    (F_W_at 34 x3 s).bind fun z1 =>
    F_D_rankOfRow_17 (F_D_rankOfRow_7 n) gF x2 x3 z1.1 0 z1.2
noncomputable def F_D_rankOfRow  (s : Mem) : Option (Int32 × Mem) :=
  (F_D_countDigits s).bind fun z1 =>
  F_D_rankOfRow_7 gF 0 0 z1.2
def A_D_rankOfRow_7 (f : Int32 → Int32 → Mem → Option (Int32 × Mem)) (ls : List (Option Value)) (s : Mem) : Option (Int32 × Mem) := match lk ls 0, lk ls 1, lk ls 2, lk ls 3 with
  | some (.ref a0), some (.ref a1), some (.int a2), some (.int a3) => cbr (Nat.beq a0 100) (cbr (Nat.beq a1 34) (f a2 a3 s) none) none
  | _, _, _, _ => none
def A_D_rankOfRow_17 (f : Int32 → Int32 → Int32 → Int32 → Mem → Option (Int32 × Mem)) (ls : List (Option Value)) (s : Mem) : Option (Int32 × Mem) := match lk ls 0, lk ls 1, lk ls 2, lk ls 3, lk ls 4, lk ls 5 with
  | some (.ref a0), some (.ref a1), some (.int a2), some (.int a3), some (.int a4), some (.int a5) => cbr (Nat.beq a0 100) (cbr (Nat.beq a1 34) (f a2 a3 a4 a5 s) none) none
  | _, _, _, _, _, _ => none
noncomputable def A_D_rankOfRow (av : List Value) (s : Mem) : Option (Int32 × Mem) := match av with
  | [.ref a0, .ref a1] => cbr (Nat.beq a0 100) (cbr (Nat.beq a1 34) (F_D_rankOfRow s) none) none
  | _ => none
noncomputable def C_D_rankOfRow (k : Nat) (av : List Value) (s : Mem) : Option (Int32 × Mem) := cbr (Nat.beq k 170) (A_D_countDigits av s) (cbr (Nat.beq k 105) (A_W_at av s) (cbr (Nat.beq k 2) (A_C_within av s) (cbr (Nat.beq k 171) (A_D_countArranged av s) (none))))
set_option maxRecDepth 100000 in
theorem e_D_rankOfRow_17 (k7 : Int32 → Int32 → Mem → Option (Int32 × Mem)) (n : Nat) (x2 : Int32) (x3 : Int32) (x4 : Int32) (x5 : Int32) (s : Mem) : F_D_rankOfRow_17 k7 (n + 1) x2 x3 x4 x5 s = xs C_D_rankOfRow (fun k ls s => cbr (Nat.beq k 0) (A_D_rankOfRow_7 (k7) ls s) (cbr (Nat.beq k 1) (A_D_rankOfRow_17 (F_D_rankOfRow_17 k7 n) ls s) (none))) 0 (fun _ => 0) K_D_rankOfRow 700 (K_D_rankOfRow.drop 19) [some (.ref 100), some (.ref 34), some (.int x2), some (.int x3), some (.int x4), some (.int x5)] [] s := rfl
set_option maxRecDepth 100000 in
theorem e_D_rankOfRow_7  (n : Nat) (x2 : Int32) (x3 : Int32) (s : Mem) : F_D_rankOfRow_7 (n + 1) x2 x3 s = xs C_D_rankOfRow (fun k ls s => cbr (Nat.beq k 1) (A_D_rankOfRow_17 (F_D_rankOfRow_17 (F_D_rankOfRow_7 n) gF) ls s) (none)) 0 (fun _ => 0) K_D_rankOfRow 700 (K_D_rankOfRow.drop 8) [some (.ref 100), some (.ref 34), some (.int x2), some (.int x3), none, none] [] s := rfl
set_option maxRecDepth 100000 in
theorem e_D_rankOfRow  (s : Mem) : F_D_rankOfRow s = xs C_D_rankOfRow (fun k ls s => cbr (Nat.beq k 0) (A_D_rankOfRow_7 (F_D_rankOfRow_7 gF) ls s) (none)) 0 (fun _ => 0) K_D_rankOfRow 700 K_D_rankOfRow [some (.ref 100), some (.ref 34), none, none, none, none] [] s := rfl
def K_D_swapNext : MC := [(0, .iload 1, 0), (1, .lconst 0, 0), (2, .aload 0, 0), (3, .getstatic 702, 0), (6, .arraylength, 0), (7, .lconst 1, 0), (8, .isub, 0), (9, .invokeinterface 2 3, 0), (12, .ifCond .eq 36, 0), (15, .iload 2, 0), (16, .lconst 0, 0), (17, .aload 0, 0), (18, .getstatic 702, 0), (21, .arraylength, 0), (22, .lconst 1, 0), (23, .isub, 0), (24, .invokeinterface 2 3, 0), (27, .ifCond .eq 36, 0), (30, .aload 0, 0), (31, .getstatic 702, 0), (34, .iload 1, 0), (35, .iaload, 0), (36, .istore 3, 0), (37, .aload 0, 0), (38, .getstatic 702, 0), (41, .iload 1, 0), (42, .aload 0, 0), (43, .getstatic 702, 0), (46, .iload 2, 0), (47, .iaload, 0), (48, .iastore, 0), (49, .aload 0, 0), (50, .getstatic 702, 0), (53, .iload 2, 0), (54, .iload 3, 0), (55, .iastore, 0), (56, .return_, 0)]
noncomputable def F_D_swapNext (x1 : Int32) (x2 : Int32) (s : Mem) : Option (Int32 × Mem) :=
  (F_C_within x1 0 (10 - 1) s).bind fun z1 =>
  if z1.1 = 0 then
    some (0, z1.2)
  else
  (F_C_within x2 0 (10 - 1) z1.2).bind fun z2 =>
  if z2.1 = 0 then
    some (0, z2.2)
  else
  (ld z2.2 103 x1).bind fun v3 =>
  (ld z2.2 103 x2).bind fun v4 =>
  (sd z2.2 103 x1 v4).bind fun s5 =>
  (sd s5 103 x2 v3).bind fun s6 =>
  some (0, s6)
noncomputable def A_D_swapNext (av : List Value) (s : Mem) : Option (Int32 × Mem) := match av with
  | [.ref a0, .int a1, .int a2] => cbr (Nat.beq a0 100) (F_D_swapNext a1 a2 s) none
  | _ => none
noncomputable def C_D_swapNext (k : Nat) (av : List Value) (s : Mem) : Option (Int32 × Mem) := cbr (Nat.beq k 2) (A_C_within av s) (none)
set_option maxRecDepth 100000 in
theorem e_D_swapNext (x1 : Int32) (x2 : Int32) (s : Mem) : F_D_swapNext x1 x2 s = xs C_D_swapNext (fun k ls s => none) 0 (fun _ => 0) K_D_swapNext 700 K_D_swapNext [some (.ref 100), some (.int x1), some (.int x2), none] [] s := rfl
def K_D_goToNext : MC := [(0, .iload 1, 0), (1, .iconst 0, 2), (2, .isub, 0), (3, .istore 2, 0), (4, .ret 0, 0), (4, .iload 2, 0), (5, .ifCond .lt 20, 0), (8, .aload 0, 0), (9, .getstatic 702, 0), (12, .iload 2, 0), (13, .iaload, 0), (14, .aload 0, 0), (15, .getstatic 702, 0), (18, .iload 2, 0), (19, .lconst 1, 0), (20, .iadd, 0), (21, .iaload, 0), (22, .if_icmp .lt 20, 0), (25, .iinc 2 0, (-1)), (28, .goto 4, 0), (31, .iload 2, 0), (32, .ifCond .ge 24, 0), (35, .lconst 0, 0), (36, .lreturn, 0), (37, .iload 1, 0), (38, .lconst 1, 0), (39, .isub, 0), (40, .istore 3, 0), (41, .ret 1, 0), (41, .iload 3, 0), (42, .iload 2, 0), (43, .if_icmp .le 43, 0), (46, .aload 0, 0), (47, .getstatic 702, 0), (50, .iload 3, 0), (51, .iaload, 0), (52, .aload 0, 0), (53, .getstatic 702, 0), (56, .iload 2, 0), (57, .iaload, 0), (58, .if_icmp .gt 43, 0), (61, .iinc 3 0, (-1)), (64, .goto 28, 0), (67, .aload 0, 0), (68, .iload 2, 0), (69, .iload 3, 0), (70, .multianewarray 174 131, 0), (73, .iload 2, 0), (74, .lconst 1, 0), (75, .iadd, 0), (76, .istore 4, 0), (78, .iload 1, 0), (79, .lconst 1, 0), (80, .isub, 0), (81, .istore 5, 0), (83, .ret 2, 0), (83, .iload 4, 0), (85, .iload 5, 0), (87, .if_icmp .ge 66, 0), (90, .aload 0, 0), (91, .iload 4, 0), (93, .iload 5, 0), (95, .multianewarray 174 131, 0), (98, .iinc 4 0, 1), (101, .iinc 5 0, (-1)), (104, .goto 55, 0), (107, .lconst 1, 0), (108, .lreturn, 0)]
noncomputable def F_D_goToNext_53 : Nat → Int32 → Int32 → Mem → Option (Int32 × Mem)
  | 0, _, _, _ => none
  | n + 1, x4, x5, s =>
    if x5 ≤ x4 then
      some (1, s)
    else
    (F_D_swapNext x4 x5 s).bind fun z1 =>
    F_D_goToNext_53 n (x4 + 1) (x5 + (-1)) z1.2
noncomputable def F_D_goToNext_27 : Nat → Int32 → Int32 → Int32 → Mem → Option (Int32 × Mem)
  | 0, _, _, _, _ => none
  | n + 1, x1, x2, x3, s =>
    if x3 ≤ x2 then
      (F_D_swapNext x2 x3 s).bind fun z1 =>
      F_D_goToNext_53 gF (x2 + 1) (x1 - 1) z1.2
    else
    (ld s 103 x3).bind fun v2 =>
    (ld s 103 x2).bind fun v3 =>
    if v3 < v2 then
      (F_D_swapNext x2 x3 s).bind fun z4 =>
      F_D_goToNext_53 gF (x2 + 1) (x1 - 1) z4.2
    else
    F_D_goToNext_27 n x1 x2 (x3 + (-1)) s
noncomputable def F_D_goToNext_4 : Nat → Int32 → Int32 → Mem → Option (Int32 × Mem)
  | 0, _, _, _ => none
  | n + 1, x1, x2, s =>
    if x2 < 0 then
      if 0 ≤ x2 then
        F_D_goToNext_27 gF x1 x2 (x1 - 1) s
      else
      some (0, s)
    else
    (ld s 103 x2).bind fun v1 =>
    (ld s 103 (x2 + 1)).bind fun v2 =>
    if v1 < v2 then
      if 0 ≤ x2 then
        F_D_goToNext_27 gF x1 x2 (x1 - 1) s
      else
      some (0, s)
    else
    F_D_goToNext_4 n x1 (x2 + (-1)) s
noncomputable def F_D_goToNext (x1 : Int32) (s : Mem) : Option (Int32 × Mem) :=
  F_D_goToNext_4 gF x1 (x1 - 2) s
def A_D_goToNext_4 (f : Int32 → Int32 → Mem → Option (Int32 × Mem)) (ls : List (Option Value)) (s : Mem) : Option (Int32 × Mem) := match lk ls 0, lk ls 1, lk ls 2 with
  | some (.ref a0), some (.int a1), some (.int a2) => cbr (Nat.beq a0 100) (f a1 a2 s) none
  | _, _, _ => none
def A_D_goToNext_27 (f : Int32 → Int32 → Int32 → Mem → Option (Int32 × Mem)) (ls : List (Option Value)) (s : Mem) : Option (Int32 × Mem) := match lk ls 0, lk ls 1, lk ls 2, lk ls 3 with
  | some (.ref a0), some (.int a1), some (.int a2), some (.int a3) => cbr (Nat.beq a0 100) (f a1 a2 a3 s) none
  | _, _, _, _ => none
def A_D_goToNext_53 (f : Int32 → Int32 → Mem → Option (Int32 × Mem)) (ls : List (Option Value)) (s : Mem) : Option (Int32 × Mem) := match lk ls 0, lk ls 4, lk ls 5 with
  | some (.ref a0), some (.int a1), some (.int a2) => cbr (Nat.beq a0 100) (f a1 a2 s) none
  | _, _, _ => none
noncomputable def A_D_goToNext (av : List Value) (s : Mem) : Option (Int32 × Mem) := match av with
  | [.ref a0, .int a1] => cbr (Nat.beq a0 100) (F_D_goToNext a1 s) none
  | _ => none
noncomputable def C_D_goToNext (k : Nat) (av : List Value) (s : Mem) : Option (Int32 × Mem) := cbr (Nat.beq k 174) (A_D_swapNext av s) (none)
set_option maxRecDepth 100000 in
theorem e_D_goToNext_53  (n : Nat) (x4 : Int32) (x5 : Int32) (s : Mem) : F_D_goToNext_53 (n + 1) x4 x5 s = xs C_D_goToNext (fun k ls s => cbr (Nat.beq k 2) (A_D_goToNext_53 (F_D_goToNext_53 n) ls s) (none)) 0 (fun _ => 0) K_D_goToNext 700 (K_D_goToNext.drop 56) [some (.ref 100), none, none, none, some (.int x4), some (.int x5)] [] s := rfl
set_option maxRecDepth 100000 in
theorem e_D_goToNext_27  (n : Nat) (x1 : Int32) (x2 : Int32) (x3 : Int32) (s : Mem) : F_D_goToNext_27 (n + 1) x1 x2 x3 s = xs C_D_goToNext (fun k ls s => cbr (Nat.beq k 1) (A_D_goToNext_27 (F_D_goToNext_27 n) ls s) (cbr (Nat.beq k 2) (A_D_goToNext_53 (F_D_goToNext_53 gF) ls s) (none))) 0 (fun _ => 0) K_D_goToNext 700 (K_D_goToNext.drop 29) [some (.ref 100), some (.int x1), some (.int x2), some (.int x3), none, none] [] s := rfl
set_option maxRecDepth 100000 in
theorem e_D_goToNext_4  (n : Nat) (x1 : Int32) (x2 : Int32) (s : Mem) : F_D_goToNext_4 (n + 1) x1 x2 s = xs C_D_goToNext (fun k ls s => cbr (Nat.beq k 0) (A_D_goToNext_4 (F_D_goToNext_4 n) ls s) (cbr (Nat.beq k 1) (A_D_goToNext_27 (F_D_goToNext_27 gF) ls s) (none))) 0 (fun _ => 0) K_D_goToNext 700 (K_D_goToNext.drop 5) [some (.ref 100), some (.int x1), some (.int x2), none, none, none] [] s := rfl
set_option maxRecDepth 100000 in
theorem e_D_goToNext (x1 : Int32) (s : Mem) : F_D_goToNext x1 s = xs C_D_goToNext (fun k ls s => cbr (Nat.beq k 0) (A_D_goToNext_4 (F_D_goToNext_4 gF) ls s) (none)) 0 (fun _ => 0) K_D_goToNext 700 K_D_goToNext [some (.ref 100), some (.int x1), none, none, none, none] [] s := rfl
def K_D_nextDigit : MC := [(0, .aload 1, 0), (1, .getfield 801, 0), (4, .iconst 0, 10), (6, .invokeinterface 14 2, 0), (9, .istore 3, 0), (10, .lconst 0, 0), (11, .istore 4, 0), (13, .ret 0, 0), (13, .iload 4, 0), (15, .iload 3, 0), (16, .if_icmp .ge 20, 0), (19, .aload 0, 0), (20, .getstatic 702, 0), (23, .iload 4, 0), (25, .aload 1, 0), (26, .iload 4, 0), (28, .invokeinterface 105 146, 0), (31, .iastore, 0), (32, .iinc 4 0, 1), (35, .goto 7, 0), (38, .iload 2, 0), (39, .lconst 0, 0), (40, .iload 3, 0), (41, .lconst 1, 0), (42, .isub, 0), (43, .invokeinterface 2 3, 0), (46, .ifCond .eq 36, 0), (49, .aload 0, 0), (50, .iload 3, 0), (51, .invokeinterface 175 130, 0), (54, .ifCond .eq 36, 0), (57, .aload 0, 0), (58, .getstatic 702, 0), (61, .iload 2, 0), (62, .iaload, 0), (63, .goto 37, 0), (66, .iconst 0, (-1)), (67, .ireturn, 0)]
noncomputable def F_D_nextDigit_7 : Nat → Int32 → Int32 → Int32 → Mem → Option (Int32 × Mem)
  | 0, _, _, _, _ => none
  | n + 1, x2, x3, x4, s =>
    if x3 ≤ x4 then
      (F_C_within x2 0 (x3 - 1) s).bind fun z1 =>
      if z1.1 = 0 then
        some ((-1), z1.2)
      else
      (F_D_goToNext x3 z1.2).bind fun z2 =>
      if z2.1 = 0 then
        some ((-1), z2.2)
      else
      (ld z2.2 103 x2).bind fun v3 =>
      some (v3, z2.2)
    else
    (F_W_at 34 x4 s).bind fun z4 =>
    (sd z4.2 103 x4 z4.1).bind fun s5 =>
    F_D_nextDigit_7 n x2 x3 (x4 + 1) s5
noncomputable def F_D_nextDigit (x2 : Int32) (s : Mem) : Option (Int32 × Mem) :=
  (F_JM_min (s 34 1) 10 s).bind fun z1 =>
  F_D_nextDigit_7 gF x2 z1.1 0 z1.2
def A_D_nextDigit_7 (f : Int32 → Int32 → Int32 → Mem → Option (Int32 × Mem)) (ls : List (Option Value)) (s : Mem) : Option (Int32 × Mem) := match lk ls 0, lk ls 1, lk ls 2, lk ls 3, lk ls 4 with
  | some (.ref a0), some (.ref a1), some (.int a2), some (.int a3), some (.int a4) => cbr (Nat.beq a0 100) (cbr (Nat.beq a1 34) (f a2 a3 a4 s) none) none
  | _, _, _, _, _ => none
noncomputable def A_D_nextDigit (av : List Value) (s : Mem) : Option (Int32 × Mem) := match av with
  | [.ref a0, .ref a1, .int a2] => cbr (Nat.beq a0 100) (cbr (Nat.beq a1 34) (F_D_nextDigit a2 s) none) none
  | _ => none
noncomputable def C_D_nextDigit (k : Nat) (av : List Value) (s : Mem) : Option (Int32 × Mem) := cbr (Nat.beq k 14) (A_JM_min av s) (cbr (Nat.beq k 2) (A_C_within av s) (cbr (Nat.beq k 175) (A_D_goToNext av s) (cbr (Nat.beq k 105) (A_W_at av s) (none))))
set_option maxRecDepth 100000 in
theorem e_D_nextDigit_7  (n : Nat) (x2 : Int32) (x3 : Int32) (x4 : Int32) (s : Mem) : F_D_nextDigit_7 (n + 1) x2 x3 x4 s = xs C_D_nextDigit (fun k ls s => cbr (Nat.beq k 0) (A_D_nextDigit_7 (F_D_nextDigit_7 n) ls s) (none)) 0 (fun _ => 0) K_D_nextDigit 700 (K_D_nextDigit.drop 8) [some (.ref 100), some (.ref 34), some (.int x2), some (.int x3), some (.int x4)] [] s := rfl
set_option maxRecDepth 100000 in
theorem e_D_nextDigit (x2 : Int32) (s : Mem) : F_D_nextDigit x2 s = xs C_D_nextDigit (fun k ls s => cbr (Nat.beq k 0) (A_D_nextDigit_7 (F_D_nextDigit_7 gF) ls s) (none)) 0 (fun _ => 0) K_D_nextDigit 700 K_D_nextDigit [some (.ref 100), some (.ref 34), some (.int x2), none, none] [] s := rfl
def K_C_cellar : MC := [(0, .iload 1, 0), (1, .iconst 0, 10), (3, .if_icmp .ne 11, 0), (6, .aload 0, 0), (7, .getstatic 1013, 0), (10, .aload 0, 0), (11, .getstatic 1000, 0), (14, .getstatic 606, 0), (17, .getstatic 906, 0), (20, .invokeinterface 172 130, 0), (23, .ireturn, 0), (24, .iload 1, 0), (25, .iconst 0, 11), (27, .if_icmp .ne 22, 0), (30, .aload 0, 0), (31, .getstatic 1013, 0), (34, .aload 0, 0), (35, .getstatic 1000, 0), (38, .getstatic 606, 0), (41, .getstatic 906, 0), (44, .invokeinterface 173 130, 0), (47, .ireturn, 0), (48, .iload 1, 0), (49, .lconst 0, 0), (50, .iconst 0, 9), (52, .invokeinterface 2 3, 0), (55, .ifCond .eq 36, 0), (58, .aload 0, 0), (59, .getstatic 1013, 0), (62, .aload 0, 0), (63, .getstatic 1000, 0), (66, .getstatic 606, 0), (69, .getstatic 906, 0), (72, .iload 1, 0), (73, .invokeinterface 176 131, 0), (76, .goto 37, 0), (79, .iconst 0, (-1)), (80, .ireturn, 0)]
noncomputable def F_C_cellar (x1 : Int32) (s : Mem) : Option (Int32 × Mem) :=
  if x1 = 10 then
    (F_D_countRows s).bind fun z1 =>
    some (z1.1, z1.2)
  else
  if x1 = 11 then
    (F_D_rankOfRow s).bind fun z2 =>
    some (z2.1, z2.2)
  else
  (F_C_within x1 0 9 s).bind fun z3 =>
  if z3.1 = 0 then
    some ((-1), z3.2)
  else
  (F_D_nextDigit x1 z3.2).bind fun z4 =>
  some (z4.1, z4.2)
noncomputable def A_C_cellar (av : List Value) (s : Mem) : Option (Int32 × Mem) := match av with
  | [.ref a0, .int a1] => cbr (Nat.beq a0 0) (F_C_cellar a1 s) none
  | _ => none
noncomputable def C_C_cellar (k : Nat) (av : List Value) (s : Mem) : Option (Int32 × Mem) := cbr (Nat.beq k 172) (A_D_countRows av s) (cbr (Nat.beq k 173) (A_D_rankOfRow av s) (cbr (Nat.beq k 2) (A_C_within av s) (cbr (Nat.beq k 176) (A_D_nextDigit av s) (none))))
set_option maxRecDepth 100000 in
theorem e_C_cellar (x1 : Int32) (s : Mem) : F_C_cellar x1 s = xs C_C_cellar (fun k ls s => none) 0 (fun _ => 0) K_C_cellar 700 K_C_cellar [some (.ref 0), some (.int x1)] [] s := rfl
def K_C_coins : MC := [(0, .iload 1, 0), (1, .lconst 1, 0), (2, .iconst 0, 8), (4, .invokeinterface 2 3, 0), (7, .ifCond .eq 10, 0), (10, .iload 2, 0), (11, .lconst 0, 0), (12, .iconst 0, 20), (14, .invokeinterface 2 3, 0), (17, .ifCond .ne 12, 0), (20, .lconst 0, 0), (21, .lreturn, 0), (22, .aload 0, 0), (23, .getstatic 1000, 0), (26, .getstatic 606, 0), (29, .getstatic 908, 0), (32, .iload 1, 0), (33, .iload 2, 0), (34, .iastore, 0), (35, .lconst 1, 0), (36, .lreturn, 0)]
noncomputable def F_C_coins (x1 : Int32) (x2 : Int32) (s : Mem) : Option (Int32 × Mem) :=
  (F_C_within x1 1 8 s).bind fun z1 =>
  if z1.1 = 0 then
    some (0, z1.2)
  else
  (F_C_within x2 0 20 z1.2).bind fun z2 =>
  if z2.1 = 0 then
    some (0, z2.2)
  else
  (sd z2.2 36 x1 x2).bind fun s3 =>
  some (1, s3)
noncomputable def A_C_coins (av : List Value) (s : Mem) : Option (Int32 × Mem) := match av with
  | [.ref a0, .int a1, .int a2] => cbr (Nat.beq a0 0) (F_C_coins a1 a2 s) none
  | _ => none
noncomputable def C_C_coins (k : Nat) (av : List Value) (s : Mem) : Option (Int32 × Mem) := cbr (Nat.beq k 2) (A_C_within av s) (none)
set_option maxRecDepth 100000 in
theorem e_C_coins (x1 : Int32) (x2 : Int32) (s : Mem) : F_C_coins x1 x2 s = xs C_C_coins (fun k ls s => none) 0 (fun _ => 0) K_C_coins 700 K_C_coins [some (.ref 0), some (.int x1), some (.int x2)] [] s := rfl
def K_D_goodMove : MC := [(0, .lconst 0, 0), (1, .istore 1, 0), (2, .lconst 1, 0), (3, .istore 2, 0), (4, .ret 0, 0), (4, .iload 2, 0), (5, .aload 0, 0), (6, .arraylength, 0), (7, .if_icmp .ge 17, 0), (10, .iload 1, 0), (11, .aload 0, 0), (12, .iload 2, 0), (13, .iaload, 0), (14, .ixor, 0), (15, .istore 1, 0), (16, .iinc 2 0, 2), (19, .goto 4, 0), (22, .iload 1, 0), (23, .ifCond .ne 21, 0), (26, .iconst 0, (-1)), (27, .ireturn, 0), (28, .lconst 1, 0), (29, .istore 2, 0), (30, .ret 1, 0), (30, .iload 2, 0), (31, .aload 0, 0), (32, .arraylength, 0), (33, .if_icmp .ge 79, 0), (36, .iload 2, 0), (37, .iconst 0, 2), (38, .lrem, 0), (39, .lconst 1, 0), (40, .if_icmp .ne 35, 0), (43, .iload 2, 0), (44, .goto 38, 0), (47, .iload 2, 0), (48, .lconst 1, 0), (49, .isub, 0), (50, .istore 3, 0), (51, .iload 2, 0), (52, .iconst 0, 2), (53, .lrem, 0), (54, .lconst 1, 0), (55, .if_icmp .ne 54, 0), (58, .aload 0, 0), (59, .iload 3, 0), (60, .iaload, 0), (61, .aload 0, 0), (62, .iload 3, 0), (63, .iaload, 0), (64, .iload 1, 0), (65, .ixor, 0), (66, .isub, 0), (67, .goto 63, 0), (70, .aload 0, 0), (71, .iload 3, 0), (72, .iaload, 0), (73, .iload 1, 0), (74, .ixor, 0), (75, .aload 0, 0), (76, .iload 3, 0), (77, .iaload, 0), (78, .isub, 0), (79, .istore 4, 0), (81, .iload 4, 0), (83, .ifCond .le 77, 0), (86, .iload 4, 0), (88, .aload 0, 0), (89, .iload 2, 0), (90, .iaload, 0), (91, .if_icmp .gt 77, 0), (94, .iconst 0, 100), (96, .iload 2, 0), (97, .imul, 0), (98, .iload 4, 0), (100, .iadd, 0), (101, .ireturn, 0), (102, .iinc 2 0, 1), (105, .goto 23, 0), (108, .iconst 0, (-1)), (109, .ireturn, 0)]
noncomputable def F_D_goodMove_22 : Nat → Int32 → Int32 → Mem → Option (Int32 × Mem)
  | 0, _, _, _ => none
  | n + 1, x1, x2, s =>
    if 9 ≤ x2 then
      some ((-1), s)
    else
    if (irm x2 2) = 1 then
      if (irm x2 2) = 1 then
        (ld s 36 x2).bind fun v1 =>
        (ld s 36 x2).bind fun v2 =>
        if (v1 - (v2 ^^^ x1)) ≤ 0 then
          F_D_goodMove_22 n x1 (x2 + 1) s
        else
        (ld s 36 x2).bind fun v3 =>
        if v3 < (v1 - (v2 ^^^ x1)) then
          F_D_goodMove_22 n x1 (x2 + 1) s
        else
        some (((100 * x2) + (v1 - (v2 ^^^ x1))), s)
      else
      (ld s 36 x2).bind fun v4 =>
      (ld s 36 x2).bind fun v5 =>
      if ((v4 ^^^ x1) - v5) ≤ 0 then
        F_D_goodMove_22 n x1 (x2 + 1) s
      else
      (ld s 36 x2).bind fun v6 =>
      if v6 < ((v4 ^^^ x1) - v5) then
        F_D_goodMove_22 n x1 (x2 + 1) s
      else
      some (((100 * x2) + ((v4 ^^^ x1) - v5)), s)
    else
    if (irm x2 2) = 1 then
      (ld s 36 (x2 - 1)).bind fun v7 =>
      (ld s 36 (x2 - 1)).bind fun v8 =>
      if (v7 - (v8 ^^^ x1)) ≤ 0 then
        F_D_goodMove_22 n x1 (x2 + 1) s
      else
      (ld s 36 x2).bind fun v9 =>
      if v9 < (v7 - (v8 ^^^ x1)) then
        F_D_goodMove_22 n x1 (x2 + 1) s
      else
      some (((100 * x2) + (v7 - (v8 ^^^ x1))), s)
    else
    (ld s 36 (x2 - 1)).bind fun v10 =>
    (ld s 36 (x2 - 1)).bind fun v11 =>
    if ((v10 ^^^ x1) - v11) ≤ 0 then
      F_D_goodMove_22 n x1 (x2 + 1) s
    else
    (ld s 36 x2).bind fun v12 =>
    if v12 < ((v10 ^^^ x1) - v11) then
      F_D_goodMove_22 n x1 (x2 + 1) s
    else
    some (((100 * x2) + ((v10 ^^^ x1) - v11)), s)
noncomputable def F_D_goodMove_4 : Nat → Int32 → Int32 → Mem → Option (Int32 × Mem)
  | 0, _, _, _ => none
  | n + 1, x1, x2, s =>
    if 9 ≤ x2 then
      if x1 = 0 then
        some ((-1), s)
      else
      F_D_goodMove_22 gF x1 1 s
    else
    (ld s 36 x2).bind fun v1 =>
    F_D_goodMove_4 n (x1 ^^^ v1) (x2 + 2) s
noncomputable def F_D_goodMove  (s : Mem) : Option (Int32 × Mem) :=
  F_D_goodMove_4 gF 0 1 s
def A_D_goodMove_4 (f : Int32 → Int32 → Mem → Option (Int32 × Mem)) (ls : List (Option Value)) (s : Mem) : Option (Int32 × Mem) := match lk ls 0, lk ls 1, lk ls 2 with
  | some (.ref a0), some (.int a1), some (.int a2) => cbr (Nat.beq a0 36) (f a1 a2 s) none
  | _, _, _ => none
def A_D_goodMove_22 (f : Int32 → Int32 → Mem → Option (Int32 × Mem)) (ls : List (Option Value)) (s : Mem) : Option (Int32 × Mem) := match lk ls 0, lk ls 1, lk ls 2 with
  | some (.ref a0), some (.int a1), some (.int a2) => cbr (Nat.beq a0 36) (f a1 a2 s) none
  | _, _, _ => none
noncomputable def A_D_goodMove (av : List Value) (s : Mem) : Option (Int32 × Mem) := match av with
  | [.ref a0] => cbr (Nat.beq a0 36) (F_D_goodMove s) none
  | _ => none
noncomputable def C_D_goodMove (k : Nat) (av : List Value) (s : Mem) : Option (Int32 × Mem) := none
set_option maxRecDepth 100000 in
theorem e_D_goodMove_22  (n : Nat) (x1 : Int32) (x2 : Int32) (s : Mem) : F_D_goodMove_22 (n + 1) x1 x2 s = xs C_D_goodMove (fun k ls s => cbr (Nat.beq k 1) (A_D_goodMove_22 (F_D_goodMove_22 n) ls s) (none)) 0 (fun _ => 0) K_D_goodMove 700 (K_D_goodMove.drop 24) [some (.ref 36), some (.int x1), some (.int x2), none, none] [] s := rfl
set_option maxRecDepth 100000 in
theorem e_D_goodMove_4  (n : Nat) (x1 : Int32) (x2 : Int32) (s : Mem) : F_D_goodMove_4 (n + 1) x1 x2 s = xs C_D_goodMove (fun k ls s => cbr (Nat.beq k 0) (A_D_goodMove_4 (F_D_goodMove_4 n) ls s) (cbr (Nat.beq k 1) (A_D_goodMove_22 (F_D_goodMove_22 gF) ls s) (none))) 0 (fun _ => 0) K_D_goodMove 700 (K_D_goodMove.drop 5) [some (.ref 36), some (.int x1), some (.int x2), none, none] [] s := rfl
set_option maxRecDepth 100000 in
theorem e_D_goodMove  (s : Mem) : F_D_goodMove s = xs C_D_goodMove (fun k ls s => cbr (Nat.beq k 0) (A_D_goodMove_4 (F_D_goodMove_4 gF) ls s) (none)) 0 (fun _ => 0) K_D_goodMove 700 K_D_goodMove [some (.ref 36), none, none, none, none] [] s := rfl
def K_C_game : MC := [(0, .iload 1, 0), (1, .lconst 0, 0), (2, .lconst 1, 0), (3, .invokeinterface 2 3, 0), (6, .ifCond .ne 7, 0), (9, .iconst 0, (-1)), (10, .ireturn, 0), (11, .aload 0, 0), (12, .getstatic 1000, 0), (15, .getstatic 606, 0), (18, .getstatic 908, 0), (21, .invokeinterface 179 1, 0), (24, .istore 2, 0), (25, .iload 2, 0), (26, .iconst 0, (-1)), (27, .if_icmp .ne 18, 0), (30, .iconst 0, (-1)), (31, .ireturn, 0), (32, .iload 1, 0), (33, .ifCond .ne 24, 0), (36, .iload 2, 0), (37, .iconst 0, 100), (39, .ldiv, 0), (40, .goto 27, 0), (43, .iload 2, 0), (44, .iconst 0, 100), (46, .lrem, 0), (47, .ireturn, 0)]
noncomputable def F_C_game (x1 : Int32) (s : Mem) : Option (Int32 × Mem) :=
  (F_C_within x1 0 1 s).bind fun z1 =>
  if z1.1 = 0 then
    some ((-1), z1.2)
  else
  (F_D_goodMove z1.2).bind fun z2 =>
  if z2.1 = (-1) then
    some ((-1), z2.2)
  else
  if x1 = 0 then
    some ((z2.1 / 100), z2.2)
  else
  some ((irm z2.1 100), z2.2)
noncomputable def A_C_game (av : List Value) (s : Mem) : Option (Int32 × Mem) := match av with
  | [.ref a0, .int a1] => cbr (Nat.beq a0 0) (F_C_game a1 s) none
  | _ => none
noncomputable def C_C_game (k : Nat) (av : List Value) (s : Mem) : Option (Int32 × Mem) := cbr (Nat.beq k 2) (A_C_within av s) (cbr (Nat.beq k 179) (A_D_goodMove av s) (none))
set_option maxRecDepth 100000 in
theorem e_C_game (x1 : Int32) (s : Mem) : F_C_game x1 s = xs C_C_game (fun k ls s => none) 0 (fun _ => 0) K_C_game 700 K_C_game [some (.ref 0), some (.int x1), none] [] s := rfl
def K_C_undo : MC := [(0, .aload 0, 0), (1, .getfield 1006, 0), (4, .ifCond .gt 5, 0), (7, .lconst 0, 0), (8, .lreturn, 0), (9, .aload 0, 0), (10, .dup, 0), (11, .getfield 1006, 0), (14, .lconst 1, 0), (15, .isub, 0), (16, .putfield 1006, 0), (19, .aload 0, 0), (20, .aload 0, 0), (21, .getfield 1005, 0), (24, .lconst 1, 0), (25, .isub, 0), (26, .iconst 0, 6), (28, .invokeinterface 12 2, 0), (31, .putfield 1005, 0), (34, .aload 0, 0), (35, .getstatic 1003, 0), (38, .aload 0, 0), (39, .getfield 1005, 0), (42, .aaload, 0), (43, .astore 1, 0), (44, .aload 1, 0), (45, .ifnull 32, 0), (48, .aload 0, 0), (49, .getstatic 1000, 0), (52, .getstatic 600, 0), (55, .aload 1, 0), (56, .multianewarray 13 34, 0), (59, .aload 0, 0), (60, .getstatic 1000, 0), (63, .getstatic 601, 0), (66, .aload 0, 0), (67, .getstatic 1004, 0), (70, .aload 0, 0), (71, .getfield 1005, 0), (74, .iaload, 0), (75, .putfield 1, 0), (78, .lconst 1, 0), (79, .lreturn, 0)]
noncomputable def F_C_undo  (s : Mem) : Option (Int32 × Mem) :=
  if 0 < (s 0 6) then
    let s1 : Mem := mw s 0 6 ((s 0 6) - 1)
    (F_JM_floorMod ((s1 0 5) - 1) 6 s1).bind fun z2 =>
    let s3 : Mem := mw z2.2 0 5 z2.1
    (alr 73 (s3 0 5)).bind fun h4 =>
    (F_H_copyFrom 2 h4 s3).bind fun z5 =>
    (ld z5.2 74 (z5.2 0 5)).bind fun v6 =>
    let s7 : Mem := mw z5.2 5 1 v6
    some (1, s7)
  else
  some (0, s)
noncomputable def A_C_undo (av : List Value) (s : Mem) : Option (Int32 × Mem) := match av with
  | [.ref a0] => cbr (Nat.beq a0 0) (F_C_undo s) none
  | _ => none
noncomputable def C_C_undo (k : Nat) (av : List Value) (s : Mem) : Option (Int32 × Mem) := cbr (Nat.beq k 12) (A_JM_floorMod av s) (cbr (Nat.beq k 13) (A_H_copyFrom av s) (none))
set_option maxRecDepth 100000 in
theorem e_C_undo  (s : Mem) : F_C_undo s = xs C_C_undo (fun k ls s => none) 0 (fun _ => 0) K_C_undo 700 K_C_undo [some (.ref 0), none] [] s := rfl
