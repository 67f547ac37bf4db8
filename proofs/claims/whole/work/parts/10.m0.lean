def K_C_forgetDeeds : MC := [(0, .aload 0, 0), (1, .lconst 0, 0), (2, .putfield 1006, 0), (5, .return_, 0)]
noncomputable def F_C_forgetDeeds  (s : Mem) : Option (Int32 × Mem) :=
  let s1 : Mem := mw s 0 6 0
  some (0, s1)
noncomputable def A_C_forgetDeeds (av : List Value) (s : Mem) : Option (Int32 × Mem) := match av with
  | [.ref a0] => cbr (Nat.beq a0 0) (F_C_forgetDeeds s) none
  | _ => none
noncomputable def C_C_forgetDeeds (k : Nat) (av : List Value) (s : Mem) : Option (Int32 × Mem) := none
set_option maxRecDepth 100000 in
theorem e_C_forgetDeeds  (s : Mem) : F_C_forgetDeeds s = xs C_C_forgetDeeds (fun k ls s => none) 0 (fun _ => 0) K_C_forgetDeeds 700 K_C_forgetDeeds [some (.ref 0)] [] s := rfl
def K_C_state : MC := [(0, .aload 0, 0), (1, .getstatic 1000, 0), (4, .getstatic 600, 0), (7, .getfield 106, 0), (10, .istore 2, 0), (11, .aload 0, 0), (12, .getstatic 1000, 0), (15, .getstatic 600, 0), (18, .iload 1, 0), (19, .putfield 106, 0), (22, .aload 0, 0), (23, .multianewarray 0 177, 0), (26, .iload 2, 0), (27, .ireturn, 0)]
noncomputable def F_C_state (x1 : Int32) (s : Mem) : Option (Int32 × Mem) :=
  let s1 : Mem := mw s 2 6 x1
  (F_C_forgetDeeds s1).bind fun z2 =>
  some ((s 2 6), z2.2)
noncomputable def A_C_state (av : List Value) (s : Mem) : Option (Int32 × Mem) := match av with
  | [.ref a0, .int a1] => cbr (Nat.beq a0 0) (F_C_state a1 s) none
  | _ => none
noncomputable def C_C_state (k : Nat) (av : List Value) (s : Mem) : Option (Int32 × Mem) := cbr (Nat.beq k 0) (A_C_forgetDeeds av s) (none)
set_option maxRecDepth 100000 in
theorem e_C_state (x1 : Int32) (s : Mem) : F_C_state x1 s = xs C_C_state (fun k ls s => none) 0 (fun _ => 0) K_C_state 700 K_C_state [some (.ref 0), some (.int x1), none] [] s := rfl
def K_C_within : MC := [(0, .iload 0, 0), (1, .iload 1, 0), (2, .if_icmp .lt 8, 0), (5, .iload 0, 0), (6, .iload 2, 0), (7, .if_icmp .gt 8, 0), (10, .lconst 1, 0), (11, .goto 9, 0), (14, .lconst 0, 0), (15, .lreturn, 0)]
noncomputable def F_C_within (x0 : Int32) (x1 : Int32) (x2 : Int32) (s : Mem) : Option (Int32 × Mem) :=
  if x0 < x1 then
    some (0, s)
  else
  if x2 < x0 then
    some (0, s)
  else
  some (1, s)
noncomputable def A_C_within (av : List Value) (s : Mem) : Option (Int32 × Mem) := match av with
  | [.int a0, .int a1, .int a2] => F_C_within a0 a1 a2 s
  | _ => none
noncomputable def C_C_within (k : Nat) (av : List Value) (s : Mem) : Option (Int32 × Mem) := none
set_option maxRecDepth 100000 in
theorem e_C_within (x0 : Int32) (x1 : Int32) (x2 : Int32) (s : Mem) : F_C_within x0 x1 x2 s = xs C_C_within (fun k ls s => none) 0 (fun _ => 0) K_C_within 700 K_C_within [some (.int x0), some (.int x1), some (.int x2)] [] s := rfl
def K_H_isHeight : MC := [(0, .iload 0, 0), (1, .iconst 0, 5), (2, .iconst 0, 40), (4, .invokeinterface 2 3, 0), (7, .lreturn, 0)]
noncomputable def F_H_isHeight (x0 : Int32) (s : Mem) : Option (Int32 × Mem) :=
  (F_C_within x0 5 40 s).bind fun z1 =>
  if z1.1 &&& 1 = z1.1 then
  some (z1.1, z1.2)
  else none
noncomputable def A_H_isHeight (av : List Value) (s : Mem) : Option (Int32 × Mem) := match av with
  | [.int a0] => F_H_isHeight a0 s
  | _ => none
noncomputable def C_H_isHeight (k : Nat) (av : List Value) (s : Mem) : Option (Int32 × Mem) := cbr (Nat.beq k 2) (A_C_within av s) (none)
set_option maxRecDepth 100000 in
theorem e_H_isHeight (x0 : Int32) (s : Mem) : F_H_isHeight x0 s = xs C_H_isHeight (fun k ls s => none) 0 (fun _ => 0) K_H_isHeight 700 K_H_isHeight [some (.int x0)] [] s := rfl
def K_H_put : MC := [(0, .iload 1, 0), (1, .iconst 0, 96), (3, .imul, 0), (4, .iload 2, 0), (5, .iconst 0, 16), (7, .imul, 0), (8, .iadd, 0), (9, .iload 3, 0), (10, .iadd, 0), (11, .istore 5, 0), (13, .iload 5, 0), (15, .ifCond .lt 22, 0), (18, .iload 5, 0), (20, .aload 0, 0), (21, .dload 100, 0), (24, .lneg, 0), (25, .if_icmp .ge 22, 0), (28, .aload 0, 0), (29, .dload 100, 0), (32, .iload 5, 0), (34, .iload 4, 0), (36, .iastore, 0), (37, .return_, 0)]
noncomputable def F_H_put (h0 : Nat) (x1 : Int32) (x2 : Int32) (x3 : Int32) (x4 : Int32) (s : Mem) : Option (Int32 × Mem) :=
  let y1 : Int32 := (((x1 * 96) + (x2 * 16)) + x3)
  if y1 < 0 then
    some (0, s)
  else
  bif Nat.beq (kd h0) 4 then
  bif Nat.beq (kd (rf h0 0)) 1 || Nat.beq (kd (rf h0 0)) 2 then
  if (nI (ln (rf h0 0))) ≤ y1 then
    some (0, s)
  else
  bif Nat.beq (kd h0) 4 then
  (sd s (rf h0 0) y1 x4).bind fun s2 =>
  some (0, s2)
  else none
  else none
  else none
noncomputable def A_H_put (av : List Value) (s : Mem) : Option (Int32 × Mem) := match av with
  | [.ref a0, .int a1, .int a2, .int a3, .int a4] => F_H_put a0 a1 a2 a3 a4 s
  | _ => none
noncomputable def C_H_put (k : Nat) (av : List Value) (s : Mem) : Option (Int32 × Mem) := none
set_option maxRecDepth 100000 in
theorem e_H_put (h0 : Nat) (x1 : Int32) (x2 : Int32) (x3 : Int32) (x4 : Int32) (s : Mem) : F_H_put h0 x1 x2 x3 x4 s = xs C_H_put (fun k ls s => none) 0 (fun _ => 0) K_H_put 700 K_H_put [some (.ref h0), some (.int x1), some (.int x2), some (.int x3), some (.int x4), none] [] s := rfl
def K_H_build : MC := [(0, .aload 0, 0), (1, .getfield 102, 0), (4, .lconst 0, 0), (5, .iconst 0, 5), (6, .invokeinterface 2 3, 0), (9, .ifCond .ne 8, 0), (12, .iconst 0, (-1)), (13, .ireturn, 0), (14, .aload 0, 0), (15, .getfield 102, 0), (18, .istore 3, 0), (19, .aload 0, 0), (20, .getstatic 101, 0), (23, .iload 3, 0), (24, .iload 1, 0), (25, .iastore, 0), (26, .aload 0, 0), (27, .dup, 0), (28, .getfield 102, 0), (31, .lconst 1, 0), (32, .iadd, 0), (33, .putfield 102, 0), (36, .lconst 0, 0), (37, .istore 4, 0), (39, .ret 0, 0), (39, .iload 4, 0), (41, .iload 1, 0), (42, .if_icmp .ge 36, 0), (45, .aload 0, 0), (46, .lconst 0, 0), (47, .iload 3, 0), (48, .iload 4, 0), (50, .iload 2, 0), (51, .multianewarray 4 37, 0), (54, .iinc 4 0, 1), (57, .goto 24, 0), (60, .iload 3, 0), (61, .ireturn, 0)]
noncomputable def F_H_build_24 : Nat → Int32 → Int32 → Int32 → Int32 → Mem → Option (Int32 × Mem)
  | 0, _, _, _, _, _ => none
  | n + 1, x1, x2, x3, x4, s =>
    if x1 ≤ x4 then
      some (x3, s)
    else
    (F_H_put 2 0 x3 x4 x2 s).bind fun z1 =>
    F_H_build_24 n x1 x2 x3 (x4 + 1) z1.2
noncomputable def F_H_build (x1 : Int32) (x2 : Int32) (s : Mem) : Option (Int32 × Mem) :=
  (F_C_within (s 2 2) 0 5 s).bind fun z1 =>
  if z1.1 = 0 then
    some ((-1), z1.2)
  else
  (sd z1.2 4 (z1.2 2 2) x1).bind fun s2 =>
  let s3 : Mem := mw s2 2 2 ((s2 2 2) + 1)
  F_H_build_24 gF x1 x2 (z1.2 2 2) 0 s3
def A_H_build_24 (f : Int32 → Int32 → Int32 → Int32 → Mem → Option (Int32 × Mem)) (ls : List (Option Value)) (s : Mem) : Option (Int32 × Mem) := match lk ls 0, lk ls 1, lk ls 2, lk ls 3, lk ls 4 with
  | some (.ref a0), some (.int a1), some (.int a2), some (.int a3), some (.int a4) => cbr (Nat.beq a0 2) (f a1 a2 a3 a4 s) none
  | _, _, _, _, _ => none
noncomputable def A_H_build (av : List Value) (s : Mem) : Option (Int32 × Mem) := match av with
  | [.ref a0, .int a1, .int a2] => cbr (Nat.beq a0 2) (F_H_build a1 a2 s) none
  | _ => none
noncomputable def C_H_build (k : Nat) (av : List Value) (s : Mem) : Option (Int32 × Mem) := cbr (Nat.beq k 2) (A_C_within av s) (cbr (Nat.beq k 4) (A_H_put av s) (none))
set_option maxRecDepth 100000 in
theorem e_H_build_24  (n : Nat) (x1 : Int32) (x2 : Int32) (x3 : Int32) (x4 : Int32) (s : Mem) : F_H_build_24 (n + 1) x1 x2 x3 x4 s = xs C_H_build (fun k ls s => cbr (Nat.beq k 0) (A_H_build_24 (F_H_build_24 n) ls s) (none)) 0 (fun _ => 0) K_H_build 700 (K_H_build.drop 25) [some (.ref 2), some (.int x1), some (.int x2), some (.int x3), some (.int x4)] [] s := rfl
set_option maxRecDepth 100000 in
theorem e_H_build (x1 : Int32) (x2 : Int32) (s : Mem) : F_H_build x1 x2 s = xs C_H_build (fun k ls s => cbr (Nat.beq k 0) (A_H_build_24 (F_H_build_24 gF) ls s) (none)) 0 (fun _ => 0) K_H_build 700 K_H_build [some (.ref 2), some (.int x1), some (.int x2), none, none] [] s := rfl
def K_C_flight : MC := [(0, .aload 0, 0), (1, .getstatic 1000, 0), (4, .getstatic 600, 0), (7, .astore 3, 0), (8, .iload 2, 0), (9, .invokeinterface 3 1, 0), (12, .ifCond .eq 16, 0), (15, .iload 1, 0), (16, .lconst 1, 0), (17, .iconst 0, 16), (19, .invokeinterface 2 3, 0), (22, .ifCond .eq 16, 0), (25, .aload 3, 0), (26, .getfield 102, 0), (29, .iconst 0, 6), (31, .if_icmp .lt 18, 0), (34, .iconst 0, (-1)), (35, .ireturn, 0), (36, .aload 0, 0), (37, .multianewarray 0 177, 0), (40, .aload 3, 0), (41, .iload 1, 0), (42, .iload 2, 0), (43, .invokeinterface 5 35, 0), (46, .ireturn, 0)]
noncomputable def F_C_flight (x1 : Int32) (x2 : Int32) (s : Mem) : Option (Int32 × Mem) :=
  (F_H_isHeight x2 s).bind fun z1 =>
  if z1.1 = 0 then
    some ((-1), z1.2)
  else
  (F_C_within x1 1 16 z1.2).bind fun z2 =>
  if z2.1 = 0 then
    some ((-1), z2.2)
  else
  if (z2.2 2 2) < 6 then
    (F_C_forgetDeeds z2.2).bind fun z3 =>
    (F_H_build x1 x2 z3.2).bind fun z4 =>
    some (z4.1, z4.2)
  else
  some ((-1), z2.2)
noncomputable def A_C_flight (av : List Value) (s : Mem) : Option (Int32 × Mem) := match av with
  | [.ref a0, .int a1, .int a2] => cbr (Nat.beq a0 0) (F_C_flight a1 a2 s) none
  | _ => none
noncomputable def C_C_flight (k : Nat) (av : List Value) (s : Mem) : Option (Int32 × Mem) := cbr (Nat.beq k 3) (A_H_isHeight av s) (cbr (Nat.beq k 2) (A_C_within av s) (cbr (Nat.beq k 0) (A_C_forgetDeeds av s) (cbr (Nat.beq k 5) (A_H_build av s) (none))))
set_option maxRecDepth 100000 in
theorem e_C_flight (x1 : Int32) (x2 : Int32) (s : Mem) : F_C_flight x1 x2 s = xs C_C_flight (fun k ls s => none) 0 (fun _ => 0) K_C_flight 700 K_C_flight [some (.ref 0), some (.int x1), some (.int x2), none] [] s := rfl
def K_H_has1 : MC := [(0, .iload 1, 0), (1, .lconst 0, 0), (2, .aload 0, 0), (3, .getfield 102, 0), (6, .lconst 1, 0), (7, .isub, 0), (8, .invokeinterface 2 3, 0), (11, .lreturn, 0)]
noncomputable def F_H_has1 (x1 : Int32) (s : Mem) : Option (Int32 × Mem) :=
  (F_C_within x1 0 ((s 2 2) - 1) s).bind fun z1 =>
  if z1.1 &&& 1 = z1.1 then
  some (z1.1, z1.2)
  else none
noncomputable def A_H_has1 (av : List Value) (s : Mem) : Option (Int32 × Mem) := match av with
  | [.ref a0, .int a1] => cbr (Nat.beq a0 2) (F_H_has1 a1 s) none
  | _ => none
noncomputable def C_H_has1 (k : Nat) (av : List Value) (s : Mem) : Option (Int32 × Mem) := cbr (Nat.beq k 2) (A_C_within av s) (none)
set_option maxRecDepth 100000 in
theorem e_H_has1 (x1 : Int32) (s : Mem) : F_H_has1 x1 s = xs C_H_has1 (fun k ls s => none) 0 (fun _ => 0) K_H_has1 700 K_H_has1 [some (.ref 2), some (.int x1)] [] s := rfl
def K_H_size : MC := [(0, .iload 1, 0), (1, .lconst 0, 0), (2, .aload 0, 0), (3, .dload 101, 0), (6, .lneg, 0), (7, .lconst 1, 0), (8, .isub, 0), (9, .invokeinterface 2 3, 0), (12, .ifCond .eq 14, 0), (15, .aload 0, 0), (16, .dload 101, 0), (19, .iload 1, 0), (20, .iaload, 0), (21, .goto 15, 0), (24, .lconst 0, 0), (25, .ireturn, 0)]
noncomputable def F_H_size (h0 : Nat) (x1 : Int32) (s : Mem) : Option (Int32 × Mem) :=
  bif Nat.beq (kd h0) 4 then
  bif Nat.beq (kd (rf h0 1)) 1 || Nat.beq (kd (rf h0 1)) 2 then
  (F_C_within x1 0 ((nI (ln (rf h0 1))) - 1) s).bind fun z1 =>
  if z1.1 = 0 then
    some (0, z1.2)
  else
  bif Nat.beq (kd h0) 4 then
  (ld z1.2 (rf h0 1) x1).bind fun v2 =>
  some (v2, z1.2)
  else none
  else none
  else none
noncomputable def A_H_size (av : List Value) (s : Mem) : Option (Int32 × Mem) := match av with
  | [.ref a0, .int a1] => F_H_size a0 a1 s
  | _ => none
noncomputable def C_H_size (k : Nat) (av : List Value) (s : Mem) : Option (Int32 × Mem) := cbr (Nat.beq k 2) (A_C_within av s) (none)
set_option maxRecDepth 100000 in
theorem e_H_size (h0 : Nat) (x1 : Int32) (s : Mem) : F_H_size h0 x1 s = xs C_H_size (fun k ls s => none) 0 (fun _ => 0) K_H_size 700 K_H_size [some (.ref h0), some (.int x1)] [] s := rfl
def K_H_has2 : MC := [(0, .aload 0, 0), (1, .iload 1, 0), (2, .invokeinterface 7 34, 0), (5, .ifCond .eq 15, 0), (8, .iload 2, 0), (9, .lconst 0, 0), (10, .aload 0, 0), (11, .iload 1, 0), (12, .invokeinterface 8 34, 0), (15, .lconst 1, 0), (16, .isub, 0), (17, .invokeinterface 2 3, 0), (20, .ifCond .eq 15, 0), (23, .lconst 1, 0), (24, .goto 16, 0), (27, .lconst 0, 0), (28, .lreturn, 0)]
noncomputable def F_H_has2 (x1 : Int32) (x2 : Int32) (s : Mem) : Option (Int32 × Mem) :=
  (F_H_has1 x1 s).bind fun z1 =>
  if z1.1 = 0 then
    some (0, z1.2)
  else
  (F_H_size 2 x1 z1.2).bind fun z2 =>
  (F_C_within x2 0 (z2.1 - 1) z2.2).bind fun z3 =>
  if z3.1 = 0 then
    some (0, z3.2)
  else
  some (1, z3.2)
noncomputable def A_H_has2 (av : List Value) (s : Mem) : Option (Int32 × Mem) := match av with
  | [.ref a0, .int a1, .int a2] => cbr (Nat.beq a0 2) (F_H_has2 a1 a2 s) none
  | _ => none
noncomputable def C_H_has2 (k : Nat) (av : List Value) (s : Mem) : Option (Int32 × Mem) := cbr (Nat.beq k 7) (A_H_has1 av s) (cbr (Nat.beq k 8) (A_H_size av s) (cbr (Nat.beq k 2) (A_C_within av s) (none)))
set_option maxRecDepth 100000 in
theorem e_H_has2 (x1 : Int32) (x2 : Int32) (s : Mem) : F_H_has2 x1 x2 s = xs C_H_has2 (fun k ls s => none) 0 (fun _ => 0) K_H_has2 700 K_H_has2 [some (.ref 2), some (.int x1), some (.int x2)] [] s := rfl
def K_H_mayBeSet : MC := [(0, .iload 0, 0), (1, .lookupswitch 15 #[(0, 2), (1, 5), (2, 10), (3, 10)], 0), (32, .iload 1, 0), (33, .invokeinterface 3 1, 0), (36, .lreturn, 0), (37, .iload 1, 0), (38, .lconst 0, 0), (39, .iconst 0, 99), (41, .invokeinterface 2 3, 0), (44, .lreturn, 0), (45, .iload 1, 0), (46, .lconst 0, 0), (47, .iconst 0, 9), (49, .invokeinterface 2 3, 0), (52, .lreturn, 0), (53, .lconst 0, 0), (54, .lreturn, 0)]
noncomputable def F_H_mayBeSet (x0 : Int32) (x1 : Int32) (s : Mem) : Option (Int32 × Mem) :=
  if x0 = 0 then
    (F_H_isHeight x1 s).bind fun z1 =>
    if z1.1 &&& 1 = z1.1 then
    some (z1.1, z1.2)
    else none
  else
  if x0 = 1 then
    (F_C_within x1 0 99 s).bind fun z2 =>
    if z2.1 &&& 1 = z2.1 then
    some (z2.1, z2.2)
    else none
  else
  if x0 = 2 then
    (F_C_within x1 0 9 s).bind fun z3 =>
    if z3.1 &&& 1 = z3.1 then
    some (z3.1, z3.2)
    else none
  else
  if x0 = 3 then
    (F_C_within x1 0 9 s).bind fun z4 =>
    if z4.1 &&& 1 = z4.1 then
    some (z4.1, z4.2)
    else none
  else
  some (0, s)
noncomputable def A_H_mayBeSet (av : List Value) (s : Mem) : Option (Int32 × Mem) := match av with
  | [.int a0, .int a1] => F_H_mayBeSet a0 a1 s
  | _ => none
noncomputable def C_H_mayBeSet (k : Nat) (av : List Value) (s : Mem) : Option (Int32 × Mem) := cbr (Nat.beq k 3) (A_H_isHeight av s) (cbr (Nat.beq k 2) (A_C_within av s) (none))
set_option maxRecDepth 100000 in
theorem e_H_mayBeSet (x0 : Int32) (x1 : Int32) (s : Mem) : F_H_mayBeSet x0 x1 s = xs C_H_mayBeSet (fun k ls s => none) 0 (fun _ => 0) K_H_mayBeSet 700 K_H_mayBeSet [some (.int x0), some (.int x1)] [] s := rfl
def K_C_set : MC := [(0, .aload 0, 0), (1, .getstatic 1000, 0), (4, .getstatic 600, 0), (7, .iload 2, 0), (8, .iload 3, 0), (9, .invokeinterface 9 35, 0), (12, .ifCond .eq 11, 0), (15, .iload 1, 0), (16, .iload 4, 0), (18, .invokeinterface 10 2, 0), (21, .ifCond .ne 13, 0), (24, .lconst 0, 0), (25, .lreturn, 0), (26, .aload 0, 0), (27, .getstatic 1000, 0), (30, .getstatic 600, 0), (33, .iload 1, 0), (34, .iload 2, 0), (35, .iload 3, 0), (36, .iload 4, 0), (38, .multianewarray 4 37, 0), (41, .aload 0, 0), (42, .multianewarray 0 177, 0), (45, .lconst 1, 0), (46, .lreturn, 0)]
noncomputable def F_C_set (x1 : Int32) (x2 : Int32) (x3 : Int32) (x4 : Int32) (s : Mem) : Option (Int32 × Mem) :=
  (F_H_has2 x2 x3 s).bind fun z1 =>
  if z1.1 = 0 then
    some (0, z1.2)
  else
  (F_H_mayBeSet x1 x4 z1.2).bind fun z2 =>
  if z2.1 = 0 then
    some (0, z2.2)
  else
  (F_H_put 2 x1 x2 x3 x4 z2.2).bind fun z3 =>
  (F_C_forgetDeeds z3.2).bind fun z4 =>
  some (1, z4.2)
noncomputable def A_C_set (av : List Value) (s : Mem) : Option (Int32 × Mem) := match av with
  | [.ref a0, .int a1, .int a2, .int a3, .int a4] => cbr (Nat.beq a0 0) (F_C_set a1 a2 a3 a4 s) none
  | _ => none
noncomputable def C_C_set (k : Nat) (av : List Value) (s : Mem) : Option (Int32 × Mem) := cbr (Nat.beq k 9) (A_H_has2 av s) (cbr (Nat.beq k 10) (A_H_mayBeSet av s) (cbr (Nat.beq k 4) (A_H_put av s) (cbr (Nat.beq k 0) (A_C_forgetDeeds av s) (none))))
set_option maxRecDepth 100000 in
theorem e_C_set (x1 : Int32) (x2 : Int32) (x3 : Int32) (x4 : Int32) (s : Mem) : F_C_set x1 x2 x3 x4 s = xs C_C_set (fun k ls s => none) 0 (fun _ => 0) K_C_set 700 K_C_set [some (.ref 0), some (.int x1), some (.int x2), some (.int x3), some (.int x4)] [] s := rfl
def K_JM_floorMod : MC := [(0, .iload 0, 0), (1, .iload 1, 0), (2, .irem, 0), (3, .istore 2, 0), (4, .iload 0, 0), (5, .iload 1, 0), (6, .ixor, 0), (7, .ifCond .ge 14, 0), (10, .iload 2, 0), (11, .ifCond .eq 14, 0), (14, .iload 2, 0), (15, .iload 1, 0), (16, .iadd, 0), (17, .ireturn, 0), (18, .iload 2, 0), (19, .ireturn, 0)]
noncomputable def F_JM_floorMod (x0 : Int32) (x1 : Int32) (s : Mem) : Option (Int32 × Mem) :=
  if x1 = 0 then none else
  if 0 ≤ (x0 ^^^ x1) then
    some ((irm x0 x1), s)
  else
  if (irm x0 x1) = 0 then
    some ((irm x0 x1), s)
  else
  some (((irm x0 x1) + x1), s)
noncomputable def A_JM_floorMod (av : List Value) (s : Mem) : Option (Int32 × Mem) := match av with
  | [.int a0, .int a1] => F_JM_floorMod a0 a1 s
  | _ => none
noncomputable def C_JM_floorMod (k : Nat) (av : List Value) (s : Mem) : Option (Int32 × Mem) := none
set_option maxRecDepth 100000 in
theorem e_JM_floorMod (x0 : Int32) (x1 : Int32) (s : Mem) : F_JM_floorMod x0 x1 s = xs C_JM_floorMod (fun k ls s => none) 0 (fun _ => 0) K_JM_floorMod 700 K_JM_floorMod [some (.int x0), some (.int x1), none] [] s := rfl
def K_H_copyFrom : MC := [(0, .aload 1, 0), (1, .dload 100, 0), (4, .lconst 0, 0), (5, .aload 0, 0), (6, .dload 100, 0), (9, .lconst 0, 0), (10, .aload 0, 0), (11, .dload 100, 0), (14, .lneg, 0), (15, .invokedynamic 0, 0), (18, .aload 1, 0), (19, .dload 101, 0), (22, .lconst 0, 0), (23, .aload 0, 0), (24, .dload 101, 0), (27, .lconst 0, 0), (28, .aload 0, 0), (29, .dload 101, 0), (32, .lneg, 0), (33, .invokedynamic 0, 0), (36, .aload 0, 0), (37, .aload 1, 0), (38, .fload 102, 0), (41, .fstore 102, 0), (44, .aload 0, 0), (45, .aload 1, 0), (46, .fload 103, 0), (49, .fstore 103, 0), (52, .aload 0, 0), (53, .aload 1, 0), (54, .fload 104, 0), (57, .fstore 104, 0), (60, .aload 0, 0), (61, .aload 1, 0), (62, .fload 105, 0), (65, .fstore 105, 0), (68, .aload 0, 0), (69, .aload 1, 0), (70, .fload 106, 0), (73, .fstore 106, 0), (76, .return_, 0)]
noncomputable def F_H_copyFrom (h0 : Nat) (h1 : Nat) (s : Mem) : Option (Int32 × Mem) :=
  bif Nat.beq (kd h1) 4 then
  bif Nat.beq (kd h0) 4 then
  bif Nat.beq (kd h0) 4 then
  bif Nat.beq (kd (rf h0 0)) 1 || Nat.beq (kd (rf h0 0)) 2 then
  (cpy s (rf h1 0) 0 (rf h0 0) 0 (nI (ln (rf h0 0)))).bind fun s1 =>
  bif Nat.beq (kd h1) 4 then
  bif Nat.beq (kd h0) 4 then
  bif Nat.beq (kd h0) 4 then
  bif Nat.beq (kd (rf h0 1)) 1 || Nat.beq (kd (rf h0 1)) 2 then
  (cpy s1 (rf h1 1) 0 (rf h0 1) 0 (nI (ln (rf h0 1)))).bind fun s2 =>
  bif Nat.beq (kd h1) 4 then
  bif Nat.beq (kd h0) 4 then
  let s3 : Mem := mw s2 h0 2 (s2 h1 2)
  bif Nat.beq (kd h1) 4 then
  bif Nat.beq (kd h0) 4 then
  let s4 : Mem := mw s3 h0 3 (s3 h1 3)
  bif Nat.beq (kd h1) 4 then
  bif Nat.beq (kd h0) 4 then
  let s5 : Mem := mw s4 h0 4 (s4 h1 4)
  bif Nat.beq (kd h1) 4 then
  bif Nat.beq (kd h0) 4 then
  let s6 : Mem := mw s5 h0 5 (s5 h1 5)
  bif Nat.beq (kd h1) 4 then
  bif Nat.beq (kd h0) 4 then
  let s7 : Mem := mw s6 h0 6 (s6 h1 6)
  some (0, s7)
  else none
  else none
  else none
  else none
  else none
  else none
  else none
  else none
  else none
  else none
  else none
  else none
  else none
  else none
  else none
  else none
  else none
  else none
noncomputable def A_H_copyFrom (av : List Value) (s : Mem) : Option (Int32 × Mem) := match av with
  | [.ref a0, .ref a1] => F_H_copyFrom a0 a1 s
  | _ => none
noncomputable def C_H_copyFrom (k : Nat) (av : List Value) (s : Mem) : Option (Int32 × Mem) := none
set_option maxRecDepth 100000 in
theorem e_H_copyFrom (h0 : Nat) (h1 : Nat) (s : Mem) : F_H_copyFrom h0 h1 s = xs C_H_copyFrom (fun k ls s => none) 0 (fun _ => 0) K_H_copyFrom 700 K_H_copyFrom [some (.ref h0), some (.ref h1)] [] s := rfl
def K_JM_min : MC := [(0, .iload 0, 0), (1, .iload 1, 0), (2, .if_icmp .gt 5, 0), (5, .iload 0, 0), (6, .goto 6, 0), (9, .iload 1, 0), (10, .ireturn, 0)]
noncomputable def F_JM_min (x0 : Int32) (x1 : Int32) (s : Mem) : Option (Int32 × Mem) :=
  if x1 < x0 then
    some (x1, s)
  else
  some (x0, s)
noncomputable def A_JM_min (av : List Value) (s : Mem) : Option (Int32 × Mem) := match av with
  | [.int a0, .int a1] => F_JM_min a0 a1 s
  | _ => none
noncomputable def C_JM_min (k : Nat) (av : List Value) (s : Mem) : Option (Int32 × Mem) := none
set_option maxRecDepth 100000 in
theorem e_JM_min (x0 : Int32) (x1 : Int32) (s : Mem) : F_JM_min x0 x1 s = xs C_JM_min (fun k ls s => none) 0 (fun _ => 0) K_JM_min 700 K_JM_min [some (.int x0), some (.int x1)] [] s := rfl
def K_C_keepBefore : MC := [(0, .aload 0, 0), (1, .getfield 1005, 0), (4, .iconst 0, 6), (6, .invokeinterface 12 2, 0), (9, .istore 1, 0), (10, .aload 0, 0), (11, .getstatic 1003, 0), (14, .iload 1, 0), (15, .aaload, 0), (16, .astore 2, 0), (17, .aload 2, 0), (18, .ifnull 17, 0), (21, .aload 2, 0), (22, .aload 0, 0), (23, .getstatic 1000, 0), (26, .getstatic 600, 0), (29, .lstore 13346, 0), (32, .aload 0, 0), (33, .getstatic 1004, 0), (36, .iload 1, 0), (37, .aload 0, 0), (38, .getstatic 1000, 0), (41, .getstatic 601, 0), (44, .getfield 1, 0), (47, .iastore, 0), (48, .aload 0, 0), (49, .iload 1, 0), (50, .lconst 1, 0), (51, .iadd, 0), (52, .iconst 0, 6), (54, .invokeinterface 12 2, 0), (57, .putfield 1005, 0), (60, .aload 0, 0), (61, .aload 0, 0), (62, .getfield 1006, 0), (65, .lconst 1, 0), (66, .iadd, 0), (67, .iconst 0, 6), (69, .invokeinterface 14 2, 0), (72, .putfield 1006, 0), (75, .return_, 0)]
noncomputable def F_C_keepBefore  (s : Mem) : Option (Int32 × Mem) :=
  (F_JM_floorMod (s 0 5) 6 s).bind fun z1 =>
  (alr 73 z1.1).bind fun h2 =>
  bif Nat.beq (kd h2) 4 then
  (F_H_copyFrom h2 2 z1.2).bind fun z3 =>
  (sd z3.2 74 z1.1 (z3.2 5 1)).bind fun s4 =>
  (F_JM_floorMod (z1.1 + 1) 6 s4).bind fun z5 =>
  let s6 : Mem := mw z5.2 0 5 z5.1
  (F_JM_min ((s6 0 6) + 1) 6 s6).bind fun z7 =>
  let s8 : Mem := mw z7.2 0 6 z7.1
  some (0, s8)
  else none
noncomputable def A_C_keepBefore (av : List Value) (s : Mem) : Option (Int32 × Mem) := match av with
  | [.ref a0] => cbr (Nat.beq a0 0) (F_C_keepBefore s) none
  | _ => none
noncomputable def C_C_keepBefore (k : Nat) (av : List Value) (s : Mem) : Option (Int32 × Mem) := cbr (Nat.beq k 12) (A_JM_floorMod av s) (cbr (Nat.beq k 13) (A_H_copyFrom av s) (cbr (Nat.beq k 14) (A_JM_min av s) (none)))
set_option maxRecDepth 100000 in
theorem e_C_keepBefore  (s : Mem) : F_C_keepBefore s = xs C_C_keepBefore (fun k ls s => none) 0 (fun _ => 0) K_C_keepBefore 700 K_C_keepBefore [some (.ref 0), none, none] [] s := rfl
def K_H_get : MC := [(0, .iload 1, 0), (1, .iconst 0, 96), (3, .imul, 0), (4, .iload 2, 0), (5, .iconst 0, 16), (7, .imul, 0), (8, .iadd, 0), (9, .iload 3, 0), (10, .iadd, 0), (11, .istore 4, 0), (13, .iload 4, 0), (15, .ifCond .lt 22, 0), (18, .iload 4, 0), (20, .aload 0, 0), (21, .dload 100, 0), (24, .lneg, 0), (25, .if_icmp .ge 22, 0), (28, .aload 0, 0), (29, .dload 100, 0), (32, .iload 4, 0), (34, .iaload, 0), (35, .goto 23, 0), (38, .lconst 0, 0), (39, .ireturn, 0)]
noncomputable def F_H_get (h0 : Nat) (x1 : Int32) (x2 : Int32) (x3 : Int32) (s : Mem) : Option (Int32 × Mem) :=
  let y1 : Int32 := (((x1 * 96) + (x2 * 16)) + x3)
  if y1 < 0 then
    some (0, s)
  else
  bif Nat.beq (kd h0) 4 then
  bif Nat.beq (kd (rf h0 0)) 1 || Nat.beq (kd (rf h0 0)) 2 then
  if (nI (ln (rf h0 0))) ≤ y1 then
    some (0, s)
  else
  bif Nat.beq (kd h0) 4 then
  (ld s (rf h0 0) y1).bind fun v2 =>
  some (v2, s)
  else none
  else none
  else none
noncomputable def A_H_get (av : List Value) (s : Mem) : Option (Int32 × Mem) := match av with
  | [.ref a0, .int a1, .int a2, .int a3] => F_H_get a0 a1 a2 a3 s
  | _ => none
noncomputable def C_H_get (k : Nat) (av : List Value) (s : Mem) : Option (Int32 × Mem) := none
set_option maxRecDepth 100000 in
theorem e_H_get (h0 : Nat) (x1 : Int32) (x2 : Int32) (x3 : Int32) (s : Mem) : F_H_get h0 x1 x2 x3 s = xs C_H_get (fun k ls s => none) 0 (fun _ => 0) K_H_get 700 K_H_get [some (.ref h0), some (.int x1), some (.int x2), some (.int x3), none] [] s := rfl
def K_H_raiseTo : MC := [(0, .aload 0, 0), (1, .iload 1, 0), (2, .iload 2, 0), (3, .iload 3, 0), (4, .aload 0, 0), (5, .iload 1, 0), (6, .iload 2, 0), (7, .iload 3, 0), (8, .lload 16420, 0), (11, .iload 4, 0), (13, .iadd, 0), (14, .iload 5, 0), (16, .invokeinterface 14 2, 0), (19, .lstore 4133, 0), (22, .return_, 0)]
noncomputable def F_H_raiseTo (h0 : Nat) (x1 : Int32) (x2 : Int32) (x3 : Int32) (x4 : Int32) (x5 : Int32) (s : Mem) : Option (Int32 × Mem) :=
  bif Nat.beq (kd h0) 4 then
  (F_H_get h0 x1 x2 x3 s).bind fun z1 =>
  (F_JM_min (z1.1 + x4) x5 z1.2).bind fun z2 =>
  bif Nat.beq (kd h0) 4 then
  (F_H_put h0 x1 x2 x3 z2.1 z2.2).bind fun z3 =>
  some (0, z3.2)
  else none
  else none
noncomputable def A_H_raiseTo (av : List Value) (s : Mem) : Option (Int32 × Mem) := match av with
  | [.ref a0, .int a1, .int a2, .int a3, .int a4, .int a5] => F_H_raiseTo a0 a1 a2 a3 a4 a5 s
  | _ => none
noncomputable def C_H_raiseTo (k : Nat) (av : List Value) (s : Mem) : Option (Int32 × Mem) := cbr (Nat.beq k 16) (A_H_get av s) (cbr (Nat.beq k 14) (A_JM_min av s) (cbr (Nat.beq k 4) (A_H_put av s) (none)))
set_option maxRecDepth 100000 in
theorem e_H_raiseTo (h0 : Nat) (x1 : Int32) (x2 : Int32) (x3 : Int32) (x4 : Int32) (x5 : Int32) (s : Mem) : F_H_raiseTo h0 x1 x2 x3 x4 x5 s = xs C_H_raiseTo (fun k ls s => none) 0 (fun _ => 0) K_H_raiseTo 700 K_H_raiseTo [some (.ref h0), some (.int x1), some (.int x2), some (.int x3), some (.int x4), some (.int x5)] [] s := rfl
def K_G_obey : MC := [(0, .iload 1, 0), (1, .lookupswitch 31 #[(3, 2), (4, 9), (5, 16), (6, 23)], 0), (32, .aload 0, 0), (33, .iconst 0, 5), (34, .iload 2, 0), (35, .iload 3, 0), (36, .lconst 1, 0), (37, .lstore 4133, 0), (40, .goto 37, 0), (43, .aload 0, 0), (44, .iconst 0, 5), (45, .iload 2, 0), (46, .iload 3, 0), (47, .lconst 0, 0), (48, .lstore 4133, 0), (51, .goto 37, 0), (54, .aload 0, 0), (55, .iconst 0, 2), (56, .iload 2, 0), (57, .iload 3, 0), (58, .lconst 0, 0), (59, .lstore 4133, 0), (62, .goto 37, 0), (65, .aload 0, 0), (66, .iconst 0, 2), (67, .iload 2, 0), (68, .iload 3, 0), (69, .lconst 1, 0), (70, .iconst 0, 9), (72, .lstore 17446, 0), (75, .goto 37, 0), (78, .aload 0, 0), (79, .iconst 0, 4), (80, .iload 2, 0), (81, .iload 3, 0), (82, .iload 1, 0), (83, .lstore 4133, 0), (86, .return_, 0)]
noncomputable def F_G_obey (h0 : Nat) (x1 : Int32) (x2 : Int32) (x3 : Int32) (s : Mem) : Option (Int32 × Mem) :=
  if x1 = 3 then
    bif Nat.beq (kd h0) 4 then
    (F_H_put h0 5 x2 x3 1 s).bind fun z1 =>
    some (0, z1.2)
    else none
  else
  if x1 = 4 then
    bif Nat.beq (kd h0) 4 then
    (F_H_put h0 5 x2 x3 0 s).bind fun z2 =>
    some (0, z2.2)
    else none
  else
  if x1 = 5 then
    bif Nat.beq (kd h0) 4 then
    (F_H_put h0 2 x2 x3 0 s).bind fun z3 =>
    some (0, z3.2)
    else none
  else
  if x1 = 6 then
    bif Nat.beq (kd h0) 4 then
    (F_H_raiseTo h0 2 x2 x3 1 9 s).bind fun z4 =>
    some (0, z4.2)
    else none
  else
  bif Nat.beq (kd h0) 4 then
  (F_H_put h0 4 x2 x3 x1 s).bind fun z5 =>
  some (0, z5.2)
  else none
noncomputable def A_G_obey (av : List Value) (s : Mem) : Option (Int32 × Mem) := match av with
  | [.ref a0, .int a1, .int a2, .int a3] => F_G_obey a0 a1 a2 a3 s
  | _ => none
noncomputable def C_G_obey (k : Nat) (av : List Value) (s : Mem) : Option (Int32 × Mem) := cbr (Nat.beq k 4) (A_H_put av s) (cbr (Nat.beq k 17) (A_H_raiseTo av s) (none))
set_option maxRecDepth 100000 in
theorem e_G_obey (h0 : Nat) (x1 : Int32) (x2 : Int32) (x3 : Int32) (s : Mem) : F_G_obey h0 x1 x2 x3 s = xs C_G_obey (fun k ls s => none) 0 (fun _ => 0) K_G_obey 700 K_G_obey [some (.ref h0), some (.int x1), some (.int x2), some (.int x3)] [] s := rfl
def K_C_order : MC := [(0, .aload 0, 0), (1, .getstatic 1000, 0), (4, .getstatic 600, 0), (7, .iload 2, 0), (8, .iload 3, 0), (9, .invokeinterface 9 35, 0), (12, .ifCond .eq 12, 0), (15, .iload 1, 0), (16, .lconst 0, 0), (17, .iconst 0, 6), (19, .invokeinterface 2 3, 0), (22, .ifCond .ne 14, 0), (25, .lconst 0, 0), (26, .lreturn, 0), (27, .aload 0, 0), (28, .multianewarray 15 177, 0), (31, .aload 0, 0), (32, .getstatic 1000, 0), (35, .getstatic 600, 0), (38, .iload 1, 0), (39, .iload 2, 0), (40, .iload 3, 0), (41, .multianewarray 18 4, 0), (44, .lconst 1, 0), (45, .lreturn, 0)]
noncomputable def F_C_order (x1 : Int32) (x2 : Int32) (x3 : Int32) (s : Mem) : Option (Int32 × Mem) :=
  (F_H_has2 x2 x3 s).bind fun z1 =>
  if z1.1 = 0 then
    some (0, z1.2)
  else
  (F_C_within x1 0 6 z1.2).bind fun z2 =>
  if z2.1 = 0 then
    some (0, z2.2)
  else
  (F_C_keepBefore z2.2).bind fun z3 =>
  (F_G_obey 2 x1 x2 x3 z3.2).bind fun z4 =>
  some (1, z4.2)
noncomputable def A_C_order (av : List Value) (s : Mem) : Option (Int32 × Mem) := match av with
  | [.ref a0, .int a1, .int a2, .int a3] => cbr (Nat.beq a0 0) (F_C_order a1 a2 a3 s) none
  | _ => none
noncomputable def C_C_order (k : Nat) (av : List Value) (s : Mem) : Option (Int32 × Mem) := cbr (Nat.beq k 9) (A_H_has2 av s) (cbr (Nat.beq k 2) (A_C_within av s) (cbr (Nat.beq k 15) (A_C_keepBefore av s) (cbr (Nat.beq k 18) (A_G_obey av s) (none))))
set_option maxRecDepth 100000 in
theorem e_C_order (x1 : Int32) (x2 : Int32) (x3 : Int32) (s : Mem) : F_C_order x1 x2 x3 s = xs C_C_order (fun k ls s => none) 0 (fun _ => 0) K_C_order 700 K_C_order [some (.ref 0), some (.int x1), some (.int x2), some (.int x3)] [] s := rfl
def K_C_isVisitor : MC := [(0, .iload 0, 0), (1, .lconst 1, 0), (2, .iconst 0, 200), (5, .invokeinterface 2 3, 0), (8, .ifCond .eq 12, 0), (11, .iload 1, 0), (12, .lconst 1, 0), (13, .iconst 0, 5), (14, .invokeinterface 2 3, 0), (17, .ifCond .eq 12, 0), (20, .lconst 1, 0), (21, .goto 13, 0), (24, .lconst 0, 0), (25, .lreturn, 0)]
noncomputable def F_C_isVisitor (x0 : Int32) (x1 : Int32) (s : Mem) : Option (Int32 × Mem) :=
  (F_C_within x0 1 200 s).bind fun z1 =>
  if z1.1 = 0 then
    some (0, z1.2)
  else
  (F_C_within x1 1 5 z1.2).bind fun z2 =>
  if z2.1 = 0 then
    some (0, z2.2)
  else
  some (1, z2.2)
noncomputable def A_C_isVisitor (av : List Value) (s : Mem) : Option (Int32 × Mem) := match av with
  | [.int a0, .int a1] => F_C_isVisitor a0 a1 s
  | _ => none
noncomputable def C_C_isVisitor (k : Nat) (av : List Value) (s : Mem) : Option (Int32 × Mem) := cbr (Nat.beq k 2) (A_C_within av s) (none)
set_option maxRecDepth 100000 in
theorem e_C_isVisitor (x0 : Int32) (x1 : Int32) (s : Mem) : F_C_isVisitor x0 x1 s = xs C_C_isVisitor (fun k ls s => none) 0 (fun _ => 0) K_C_isVisitor 700 K_C_isVisitor [some (.int x0), some (.int x1)] [] s := rfl
def K_JM_max : MC := [(0, .iload 0, 0), (1, .iload 1, 0), (2, .if_icmp .lt 5, 0), (5, .iload 0, 0), (6, .goto 6, 0), (9, .iload 1, 0), (10, .ireturn, 0)]
noncomputable def F_JM_max (x0 : Int32) (x1 : Int32) (s : Mem) : Option (Int32 × Mem) :=
  if x0 < x1 then
    some (x1, s)
  else
  some (x0, s)
noncomputable def A_JM_max (av : List Value) (s : Mem) : Option (Int32 × Mem) := match av with
  | [.int a0, .int a1] => F_JM_max a0 a1 s
  | _ => none
noncomputable def C_JM_max (k : Nat) (av : List Value) (s : Mem) : Option (Int32 × Mem) := none
set_option maxRecDepth 100000 in
theorem e_JM_max (x0 : Int32) (x1 : Int32) (s : Mem) : F_JM_max x0 x1 s = xs C_JM_max (fun k ls s => none) 0 (fun _ => 0) K_JM_max 700 K_JM_max [some (.int x0), some (.int x1)] [] s := rfl
def K_H_isMissing : MC := [(0, .aload 0, 0), (1, .iconst 0, 4), (2, .iload 1, 0), (3, .iload 2, 0), (4, .lload 16420, 0), (7, .iconst 0, 2), (8, .if_icmp .ne 9, 0), (11, .lconst 1, 0), (12, .goto 10, 0), (15, .lconst 0, 0), (16, .lreturn, 0)]
noncomputable def F_H_isMissing (h0 : Nat) (x1 : Int32) (x2 : Int32) (s : Mem) : Option (Int32 × Mem) :=
  bif Nat.beq (kd h0) 4 then
  (F_H_get h0 4 x1 x2 s).bind fun z1 =>
  if z1.1 = 2 then
    some (1, z1.2)
  else
  some (0, z1.2)
  else none
noncomputable def A_H_isMissing (av : List Value) (s : Mem) : Option (Int32 × Mem) := match av with
  | [.ref a0, .int a1, .int a2] => F_H_isMissing a0 a1 a2 s
  | _ => none
noncomputable def C_H_isMissing (k : Nat) (av : List Value) (s : Mem) : Option (Int32 × Mem) := cbr (Nat.beq k 16) (A_H_get av s) (none)
set_option maxRecDepth 100000 in
theorem e_H_isMissing (h0 : Nat) (x1 : Int32) (x2 : Int32) (s : Mem) : F_H_isMissing h0 x1 x2 s = xs C_H_isMissing (fun k ls s => none) 0 (fun _ => 0) K_H_isMissing 700 K_H_isMissing [some (.ref h0), some (.int x1), some (.int x2)] [] s := rfl
def K_B_write : MC := [(0, .aload 0, 0), (1, .getfield 1, 0), (4, .lconst 0, 0), (5, .iconst 0, 149), (8, .invokeinterface 2 3, 0), (11, .ifCond .ne 7, 0), (14, .return_, 0), (15, .aload 0, 0), (16, .getfield 1, 0), (19, .iconst 0, 4), (20, .imul, 0), (21, .istore 6, 0), (23, .aload 0, 0), (24, .getstatic 0, 0), (27, .iload 6, 0), (29, .iload 1, 0), (30, .iastore, 0), (31, .aload 0, 0), (32, .getstatic 0, 0), (35, .iload 6, 0), (37, .lconst 1, 0), (38, .iadd, 0), (39, .iload 2, 0), (40, .iastore, 0), (41, .aload 0, 0), (42, .getstatic 0, 0), (45, .iload 6, 0), (47, .iconst 0, 2), (48, .iadd, 0), (49, .iconst 0, 100), (51, .iload 3, 0), (52, .imul, 0), (53, .iload 4, 0), (55, .iadd, 0), (56, .iastore, 0), (57, .aload 0, 0), (58, .getstatic 0, 0), (61, .iload 6, 0), (63, .iconst 0, 3), (64, .iadd, 0), (65, .iload 5, 0), (67, .iastore, 0), (68, .aload 0, 0), (69, .dup, 0), (70, .getfield 1, 0), (73, .lconst 1, 0), (74, .iadd, 0), (75, .putfield 1, 0), (78, .return_, 0)]
noncomputable def F_B_write (x1 : Int32) (x2 : Int32) (x3 : Int32) (x4 : Int32) (x5 : Int32) (s : Mem) : Option (Int32 × Mem) :=
  (F_C_within (s 5 1) 0 149 s).bind fun z1 =>
  if z1.1 = 0 then
    some (0, z1.2)
  else
  (sd z1.2 6 ((z1.2 5 1) * 4) x1).bind fun s2 =>
  (sd s2 6 (((z1.2 5 1) * 4) + 1) x2).bind fun s3 =>
  (sd s3 6 (((z1.2 5 1) * 4) + 2) ((100 * x3) + x4)).bind fun s4 =>
  (sd s4 6 (((z1.2 5 1) * 4) + 3) x5).bind fun s5 =>
  let s6 : Mem := mw s5 5 1 ((s5 5 1) + 1)
  some (0, s6)
noncomputable def A_B_write (av : List Value) (s : Mem) : Option (Int32 × Mem) := match av with
  | [.ref a0, .int a1, .int a2, .int a3, .int a4, .int a5] => cbr (Nat.beq a0 5) (F_B_write a1 a2 a3 a4 a5 s) none
  | _ => none
noncomputable def C_B_write (k : Nat) (av : List Value) (s : Mem) : Option (Int32 × Mem) := cbr (Nat.beq k 2) (A_C_within av s) (none)
set_option maxRecDepth 100000 in
theorem e_B_write (x1 : Int32) (x2 : Int32) (x3 : Int32) (x4 : Int32) (x5 : Int32) (s : Mem) : F_B_write x1 x2 x3 x4 x5 s = xs C_B_write (fun k ls s => none) 0 (fun _ => 0) K_B_write 700 K_B_write [some (.ref 5), some (.int x1), some (.int x2), some (.int x3), some (.int x4), some (.int x5), none] [] s := rfl
def K_G_note : MC := [(0, .iload 2, 0), (1, .ifCond .ne 11, 0), (4, .aload 0, 0), (5, .getstatic 601, 0), (8, .aload 1, 0), (9, .fload 105, 0), (12, .iload 3, 0), (13, .iload 4, 0), (15, .iload 5, 0), (17, .iload 6, 0), (19, .multianewarray 23 22, 0), (22, .return_, 0)]
noncomputable def F_G_note (h1 : Nat) (x2 : Int32) (x3 : Int32) (x4 : Int32) (x5 : Int32) (x6 : Int32) (s : Mem) : Option (Int32 × Mem) :=
  if x2 = 0 then
    bif Nat.beq (kd h1) 4 then
    (F_B_write (s h1 5) x3 x4 x5 x6 s).bind fun z1 =>
    some (0, z1.2)
    else none
  else
  some (0, s)
noncomputable def A_G_note (av : List Value) (s : Mem) : Option (Int32 × Mem) := match av with
  | [.ref a0, .ref a1, .int a2, .int a3, .int a4, .int a5, .int a6] => cbr (Nat.beq a0 1) (F_G_note a1 a2 a3 a4 a5 a6 s) none
  | _ => none
noncomputable def C_G_note (k : Nat) (av : List Value) (s : Mem) : Option (Int32 × Mem) := cbr (Nat.beq k 23) (A_B_write av s) (none)
set_option maxRecDepth 100000 in
theorem e_G_note (h1 : Nat) (x2 : Int32) (x3 : Int32) (x4 : Int32) (x5 : Int32) (x6 : Int32) (s : Mem) : F_G_note h1 x2 x3 x4 x5 x6 s = xs C_G_note (fun k ls s => none) 0 (fun _ => 0) K_G_note 700 K_G_note [some (.ref 1), some (.ref h1), some (.int x2), some (.int x3), some (.int x4), some (.int x5), some (.int x6)] [] s := rfl
def K_L_learn : MC := [(0, .aload 0, 0), (1, .getstatic 207, 0), (4, .lconst 0, 0), (5, .iload 4, 0), (7, .iastore, 0), (8, .aload 0, 0), (9, .getstatic 207, 0), (12, .lconst 1, 0), (13, .aload 1, 0), (14, .lconst 1, 0), (15, .iload 2, 0), (16, .iload 3, 0), (17, .lload 16420, 0), (20, .iastore, 0), (21, .aload 0, 0), (22, .getstatic 207, 0), (25, .iconst 0, 2), (26, .aload 1, 0), (27, .iconst 0, 2), (28, .iload 2, 0), (29, .iload 3, 0), (30, .lload 16420, 0), (33, .iastore, 0), (34, .aload 0, 0), (35, .getstatic 207, 0), (38, .iconst 0, 3), (39, .aload 1, 0), (40, .iconst 0, 3), (41, .iload 2, 0), (42, .iload 3, 0), (43, .lload 16420, 0), (46, .iastore, 0), (47, .aload 0, 0), (48, .getstatic 207, 0), (51, .iconst 0, 4), (52, .aload 1, 0), (53, .iconst 0, 5), (54, .iload 2, 0), (55, .iload 3, 0), (56, .lload 16420, 0), (59, .iastore, 0), (60, .aload 0, 0), (61, .getstatic 207, 0), (64, .iconst 0, 5), (65, .aload 1, 0), (66, .lconst 0, 0), (67, .iload 2, 0), (68, .iload 3, 0), (69, .lload 16420, 0), (72, .iastore, 0), (73, .aload 0, 0), (74, .getstatic 207, 0), (77, .iconst 0, 6), (79, .iload 3, 0), (80, .iastore, 0), (81, .aload 0, 0), (82, .getstatic 207, 0), (85, .iconst 0, 7), (87, .aload 1, 0), (88, .iconst 0, 6), (90, .iload 2, 0), (91, .iload 3, 0), (92, .lload 16420, 0), (95, .iastore, 0), (96, .aload 0, 0), (97, .getstatic 207, 0), (100, .iconst 0, 8), (102, .aload 1, 0), (103, .iconst 0, 7), (105, .iload 2, 0), (106, .iload 3, 0), (107, .lload 16420, 0), (110, .iastore, 0), (111, .aload 0, 0), (112, .getstatic 207, 0), (115, .iconst 0, 9), (117, .iload 5, 0), (119, .iastore, 0), (120, .aload 0, 0), (121, .getstatic 207, 0), (124, .iconst 0, 10), (126, .aload 1, 0), (127, .fload 105, 0), (130, .iastore, 0), (131, .return_, 0)]
noncomputable def F_L_learn (h1 : Nat) (x2 : Int32) (x3 : Int32) (x4 : Int32) (x5 : Int32) (s : Mem) : Option (Int32 × Mem) :=
  (sd s 13 0 x4).bind fun s1 =>
  bif Nat.beq (kd h1) 4 then
  (F_H_get h1 1 x2 x3 s1).bind fun z2 =>
  (sd z2.2 13 1 z2.1).bind fun s3 =>
  bif Nat.beq (kd h1) 4 then
  (F_H_get h1 2 x2 x3 s3).bind fun z4 =>
  (sd z4.2 13 2 z4.1).bind fun s5 =>
  bif Nat.beq (kd h1) 4 then
  (F_H_get h1 3 x2 x3 s5).bind fun z6 =>
  (sd z6.2 13 3 z6.1).bind fun s7 =>
  bif Nat.beq (kd h1) 4 then
  (F_H_get h1 5 x2 x3 s7).bind fun z8 =>
  (sd z8.2 13 4 z8.1).bind fun s9 =>
  bif Nat.beq (kd h1) 4 then
  (F_H_get h1 0 x2 x3 s9).bind fun z10 =>
  (sd z10.2 13 5 z10.1).bind fun s11 =>
  (sd s11 13 6 x3).bind fun s12 =>
  bif Nat.beq (kd h1) 4 then
  (F_H_get h1 6 x2 x3 s12).bind fun z13 =>
  (sd z13.2 13 7 z13.1).bind fun s14 =>
  bif Nat.beq (kd h1) 4 then
  (F_H_get h1 7 x2 x3 s14).bind fun z15 =>
  (sd z15.2 13 8 z15.1).bind fun s16 =>
  (sd s16 13 9 x5).bind fun s17 =>
  bif Nat.beq (kd h1) 4 then
  (sd s17 13 10 (s17 h1 5)).bind fun s18 =>
  some (0, s18)
  else none
  else none
  else none
  else none
  else none
  else none
  else none
  else none
noncomputable def A_L_learn (av : List Value) (s : Mem) : Option (Int32 × Mem) := match av with
  | [.ref a0, .ref a1, .int a2, .int a3, .int a4, .int a5] => cbr (Nat.beq a0 7) (F_L_learn a1 a2 a3 a4 a5 s) none
  | _ => none
noncomputable def C_L_learn (k : Nat) (av : List Value) (s : Mem) : Option (Int32 × Mem) := cbr (Nat.beq k 16) (A_H_get av s) (none)
set_option maxRecDepth 100000 in
theorem e_L_learn (h1 : Nat) (x2 : Int32) (x3 : Int32) (x4 : Int32) (x5 : Int32) (s : Mem) : F_L_learn h1 x2 x3 x4 x5 s = xs C_L_learn (fun k ls s => none) 0 (fun _ => 0) K_L_learn 700 K_L_learn [some (.ref 7), some (.ref h1), some (.int x2), some (.int x3), some (.int x4), some (.int x5)] [] s := rfl
def K_L_part : MC := [(0, .iload 1, 0), (1, .ifCond .le 6, 0), (4, .iload 0, 0), (5, .iload 1, 0), (6, .idiv, 0), (7, .goto 7, 0), (10, .lconst 0, 0), (11, .ireturn, 0)]
noncomputable def F_L_part (x0 : Int32) (x1 : Int32) (s : Mem) : Option (Int32 × Mem) :=
  if x1 ≤ 0 then
    some (0, s)
  else
  if x1 = 0 then none else
  some ((x0 / x1), s)
noncomputable def A_L_part (av : List Value) (s : Mem) : Option (Int32 × Mem) := match av with
  | [.int a0, .int a1] => F_L_part a0 a1 s
  | _ => none
noncomputable def C_L_part (k : Nat) (av : List Value) (s : Mem) : Option (Int32 × Mem) := none
set_option maxRecDepth 100000 in
theorem e_L_part (x0 : Int32) (x1 : Int32) (s : Mem) : F_L_part x0 x1 s = xs C_L_part (fun k ls s => none) 0 (fun _ => 0) K_L_part 700 K_L_part [some (.int x0), some (.int x1)] [] s := rfl
def K_L_combine : MC := [(0, .iload 0, 0), (1, .lookupswitch 39 #[(2, 2), (3, 6), (4, 10), (5, 39), (6, 14), (7, 21), (8, 28), (9, 39), (10, 35)], 0), (52, .iload 1, 0), (53, .iload 2, 0), (54, .iadd, 0), (55, .ireturn, 0), (56, .iload 1, 0), (57, .iload 2, 0), (58, .isub, 0), (59, .ireturn, 0), (60, .iload 1, 0), (61, .iload 2, 0), (62, .imul, 0), (63, .ireturn, 0), (64, .iload 1, 0), (65, .iload 2, 0), (66, .if_icmp .ge 19, 0), (69, .lconst 1, 0), (70, .goto 20, 0), (73, .lconst 0, 0), (74, .ireturn, 0), (75, .iload 1, 0), (76, .iload 2, 0), (77, .if_icmp .ne 26, 0), (80, .lconst 1, 0), (81, .goto 27, 0), (84, .lconst 0, 0), (85, .ireturn, 0), (86, .iload 1, 0), (87, .iload 2, 0), (88, .if_icmp .le 33, 0), (91, .lconst 1, 0), (92, .goto 34, 0), (95, .lconst 0, 0), (96, .ireturn, 0), (97, .iload 1, 0), (98, .iload 2, 0), (99, .iand, 0), (100, .ireturn, 0), (101, .iload 1, 0), (102, .iload 2, 0), (103, .ior, 0), (104, .ireturn, 0)]
noncomputable def F_L_combine (x0 : Int32) (x1 : Int32) (x2 : Int32) (s : Mem) : Option (Int32 × Mem) :=
  if x0 = 2 then
    some ((x1 + x2), s)
  else
  if x0 = 3 then
    some ((x1 - x2), s)
  else
  if x0 = 4 then
    some ((x1 * x2), s)
  else
  if x0 = 5 then
    some ((x1 ||| x2), s)
  else
  if x0 = 6 then
    if x2 ≤ x1 then
      some (0, s)
    else
    some (1, s)
  else
  if x0 = 7 then
    if x1 = x2 then
      some (1, s)
    else
    some (0, s)
  else
  if x0 = 8 then
    if x1 ≤ x2 then
      some (0, s)
    else
    some (1, s)
  else
  if x0 = 9 then
    some ((x1 ||| x2), s)
  else
  if x0 = 10 then
    some ((x1 &&& x2), s)
  else
  some ((x1 ||| x2), s)
noncomputable def A_L_combine (av : List Value) (s : Mem) : Option (Int32 × Mem) := match av with
  | [.int a0, .int a1, .int a2] => F_L_combine a0 a1 a2 s
  | _ => none
noncomputable def C_L_combine (k : Nat) (av : List Value) (s : Mem) : Option (Int32 × Mem) := none
set_option maxRecDepth 100000 in
theorem e_L_combine (x0 : Int32) (x1 : Int32) (x2 : Int32) (s : Mem) : F_L_combine x0 x1 x2 s = xs C_L_combine (fun k ls s => none) 0 (fun _ => 0) K_L_combine 700 K_L_combine [some (.int x0), some (.int x1), some (.int x2)] [] s := rfl
def K_L_run : MC := [(0, .lconst 0, 0), (1, .istore 3, 0), (2, .iload 1, 0), (3, .lconst 0, 0), (4, .invokeinterface 21 2, 0), (7, .istore 4, 0), (9, .ret 0, 0), (9, .iload 4, 0), (11, .iload 2, 0), (12, .if_icmp .ge 126, 0), (15, .iload 4, 0), (17, .aload 0, 0), (18, .getstatic 200, 0), (21, .arraylength, 0), (22, .if_icmp .ge 126, 0), (25, .aload 0, 0), (26, .getstatic 200, 0), (29, .iload 4, 0), (31, .iaload, 0), (32, .iconst 0, 15), (34, .iand, 0), (35, .istore 5, 0), (37, .aload 0, 0), (38, .getstatic 200, 0), (41, .iload 4, 0), (43, .iaload, 0), (44, .iconst 0, 4), (45, .ishr, 0), (46, .istore 6, 0), (48, .iload 5, 0), (50, .ifCond .eq 34, 0), (53, .iload 5, 0), (55, .lconst 1, 0), (56, .if_icmp .ne 67, 0), (59, .iload 3, 0), (60, .aload 0, 0), (61, .getstatic 208, 0), (64, .arraylength, 0), (65, .if_icmp .ge 124, 0), (68, .iload 5, 0), (70, .lconst 1, 0), (71, .if_icmp .ne 51, 0), (74, .iload 6, 0), (76, .ifCond .lt 51, 0), (79, .iload 6, 0), (81, .aload 0, 0), (82, .getstatic 207, 0), (85, .arraylength, 0), (86, .if_icmp .ge 51, 0), (89, .lconst 1, 0), (90, .goto 52, 0), (93, .lconst 0, 0), (94, .istore 7, 0), (96, .aload 0, 0), (97, .getstatic 208, 0), (100, .iload 3, 0), (101, .iload 7, 0), (103, .ifCond .eq 63, 0), (106, .aload 0, 0), (107, .getstatic 207, 0), (110, .iload 6, 0), (112, .iaload, 0), (113, .goto 64, 0), (116, .iload 6, 0), (118, .iastore, 0), (119, .iinc 3 0, 1), (122, .goto 124, 0), (125, .iload 5, 0), (127, .iconst 0, 9), (129, .if_icmp .eq 73, 0), (132, .iload 5, 0), (134, .iconst 0, 5), (135, .if_icmp .ne 102, 0), (138, .iload 3, 0), (139, .ifCond .le 124, 0), (142, .aload 0, 0), (143, .getstatic 208, 0), (146, .iload 3, 0), (147, .lconst 1, 0), (148, .isub, 0), (149, .iload 5, 0), (151, .iconst 0, 9), (153, .if_icmp .ne 92, 0), (156, .lconst 1, 0), (157, .aload 0, 0), (158, .getstatic 208, 0), (161, .iload 3, 0), (162, .lconst 1, 0), (163, .isub, 0), (164, .iaload, 0), (165, .isub, 0), (166, .goto 100, 0), (169, .aload 0, 0), (170, .getstatic 208, 0), (173, .iload 3, 0), (174, .lconst 1, 0), (175, .isub, 0), (176, .iaload, 0), (177, .iload 6, 0), (179, .invokeinterface 26 2, 0), (182, .iastore, 0), (183, .goto 124, 0), (186, .iload 3, 0), (187, .lconst 1, 0), (188, .if_icmp .le 124, 0), (191, .iinc 3 0, (-1)), (194, .aload 0, 0), (195, .getstatic 208, 0), (198, .iload 3, 0), (199, .lconst 1, 0), (200, .isub, 0), (201, .iload 5, 0), (203, .aload 0, 0), (204, .getstatic 208, 0), (207, .iload 3, 0), (208, .lconst 1, 0), (209, .isub, 0), (210, .iaload, 0), (211, .aload 0, 0), (212, .getstatic 208, 0), (215, .iload 3, 0), (216, .iaload, 0), (217, .invokeinterface 27 3, 0), (220, .iastore, 0), (221, .iinc 4 0, 1), (224, .goto 6, 0), (227, .iload 3, 0), (228, .ifCond .le 133, 0), (231, .aload 0, 0), (232, .getstatic 208, 0), (235, .lconst 0, 0), (236, .iaload, 0), (237, .goto 134, 0), (240, .lconst 0, 0), (241, .ireturn, 0)]
noncomputable def F_L_run_6 : Nat → Int32 → Int32 → Int32 → Mem → Option (Int32 × Mem)
  | 0, _, _, _, _ => none
  | n + 1, x2, x3, x4, s =>
    if x2 ≤ x4 then
      if x3 ≤ 0 then
        some (0, s)
      else
      (ld s 14 0).bind fun v1 =>
      some (v1, s)
    else
    if 400 ≤ x4 then
      if x3 ≤ 0 then
        some (0, s)
      else
      (ld s 14 0).bind fun v2 =>
      some (v2, s)
    else
    (ld s 8 x4).bind fun v3 =>
    (ld s 8 x4).bind fun v4 =>
    if (v3 &&& 15) = 0 then
      if 32 ≤ x3 then
        F_L_run_6 n x2 x3 (x4 + 1) s
      else
      if (v3 &&& 15) = 1 then
        if (shr v4 4) < 0 then
          (sd s 14 x3 (shr v4 4)).bind fun s5 =>
          F_L_run_6 n x2 (x3 + 1) (x4 + 1) s5
        else
        if 11 ≤ (shr v4 4) then
          (sd s 14 x3 (shr v4 4)).bind fun s6 =>
          F_L_run_6 n x2 (x3 + 1) (x4 + 1) s6
        else
        (ld s 13 (shr v4 4)).bind fun v7 =>
        (sd s 14 x3 v7).bind fun s8 =>
        F_L_run_6 n x2 (x3 + 1) (x4 + 1) s8
      else
      (sd s 14 x3 (shr v4 4)).bind fun s9 =>
      F_L_run_6 n x2 (x3 + 1) (x4 + 1) s9
    else
    if (v3 &&& 15) = 1 then
      if 32 ≤ x3 then
        F_L_run_6 n x2 x3 (x4 + 1) s
      else
      if (v3 &&& 15) = 1 then
        if (shr v4 4) < 0 then
          (sd s 14 x3 (shr v4 4)).bind fun s10 =>
          F_L_run_6 n x2 (x3 + 1) (x4 + 1) s10
        else
        if 11 ≤ (shr v4 4) then
          (sd s 14 x3 (shr v4 4)).bind fun s11 =>
          F_L_run_6 n x2 (x3 + 1) (x4 + 1) s11
        else
        (ld s 13 (shr v4 4)).bind fun v12 =>
        (sd s 14 x3 v12).bind fun s13 =>
        F_L_run_6 n x2 (x3 + 1) (x4 + 1) s13
      else
      (sd s 14 x3 (shr v4 4)).bind fun s14 =>
      F_L_run_6 n x2 (x3 + 1) (x4 + 1) s14
    else
    if (v3 &&& 15) = 9 then
      if x3 ≤ 0 then
        F_L_run_6 n x2 x3 (x4 + 1) s
      else
      if (v3 &&& 15) = 9 then
        (ld s 14 (x3 - 1)).bind fun v15 =>
        (sd s 14 (x3 - 1) (1 - v15)).bind fun s16 =>
        F_L_run_6 n x2 x3 (x4 + 1) s16
      else
      (ld s 14 (x3 - 1)).bind fun v17 =>
      (F_L_part v17 (shr v4 4) s).bind fun z18 =>
      (sd z18.2 14 (x3 - 1) z18.1).bind fun s19 =>
      F_L_run_6 n x2 x3 (x4 + 1) s19
    else
    if (v3 &&& 15) = 5 then
      if x3 ≤ 0 then
        F_L_run_6 n x2 x3 (x4 + 1) s
      else
      if (v3 &&& 15) = 9 then
        (ld s 14 (x3 - 1)).bind fun v20 =>
        (sd s 14 (x3 - 1) (1 - v20)).bind fun s21 =>
        F_L_run_6 n x2 x3 (x4 + 1) s21
      else
      (ld s 14 (x3 - 1)).bind fun v22 =>
      (F_L_part v22 (shr v4 4) s).bind fun z23 =>
      (sd z23.2 14 (x3 - 1) z23.1).bind fun s24 =>
      F_L_run_6 n x2 x3 (x4 + 1) s24
    else
    if x3 ≤ 1 then
      F_L_run_6 n x2 x3 (x4 + 1) s
    else
    (ld s 14 ((x3 + (-1)) - 1)).bind fun v25 =>
    (ld s 14 (x3 + (-1))).bind fun v26 =>
    (F_L_combine (v3 &&& 15) v25 v26 s).bind fun z27 =>
    (sd z27.2 14 ((x3 + (-1)) - 1) z27.1).bind fun s28 =>
    F_L_run_6 n x2 (x3 + (-1)) (x4 + 1) s28
noncomputable def F_L_run (x1 : Int32) (x2 : Int32) (s : Mem) : Option (Int32 × Mem) :=
  (F_JM_max x1 0 s).bind fun z1 =>
  F_L_run_6 gF x2 0 z1.1 z1.2
def A_L_run_6 (f : Int32 → Int32 → Int32 → Mem → Option (Int32 × Mem)) (ls : List (Option Value)) (s : Mem) : Option (Int32 × Mem) := match lk ls 0, lk ls 2, lk ls 3, lk ls 4 with
  | some (.ref a0), some (.int a1), some (.int a2), some (.int a3) => cbr (Nat.beq a0 7) (f a1 a2 a3 s) none
  | _, _, _, _ => none
noncomputable def A_L_run (av : List Value) (s : Mem) : Option (Int32 × Mem) := match av with
  | [.ref a0, .int a1, .int a2] => cbr (Nat.beq a0 7) (F_L_run a1 a2 s) none
  | _ => none
noncomputable def C_L_run (k : Nat) (av : List Value) (s : Mem) : Option (Int32 × Mem) := cbr (Nat.beq k 21) (A_JM_max av s) (cbr (Nat.beq k 26) (A_L_part av s) (cbr (Nat.beq k 27) (A_L_combine av s) (none)))
set_option maxRecDepth 100000 in
theorem e_L_run_6  (n : Nat) (x2 : Int32) (x3 : Int32) (x4 : Int32) (s : Mem) : F_L_run_6 (n + 1) x2 x3 x4 s = xs C_L_run (fun k ls s => cbr (Nat.beq k 0) (A_L_run_6 (F_L_run_6 n) ls s) (none)) 0 (fun _ => 0) K_L_run 700 (K_L_run.drop 7) [some (.ref 7), none, some (.int x2), some (.int x3), some (.int x4), none, none, none] [] s := rfl
set_option maxRecDepth 100000 in
theorem e_L_run (x1 : Int32) (x2 : Int32) (s : Mem) : F_L_run x1 x2 s = xs C_L_run (fun k ls s => cbr (Nat.beq k 0) (A_L_run_6 (F_L_run_6 gF) ls s) (none)) 0 (fun _ => 0) K_L_run 700 K_L_run [some (.ref 7), some (.int x1), some (.int x2), none, none, none, none, none] [] s := rfl
def K_L_held : MC := [(0, .iload 0, 0), (1, .ifCond .ne 4, 0), (4, .iconst 0, 1000), (7, .goto 10, 0), (10, .iload 0, 0), (11, .lconst 1, 0), (12, .if_icmp .ne 9, 0), (15, .iconst 0, 99), (17, .goto 10, 0), (20, .iconst 0, 9), (22, .istore 2, 0), (23, .lconst 0, 0), (24, .iload 1, 0), (25, .iload 2, 0), (26, .invokeinterface 14 2, 0), (29, .invokeinterface 21 2, 0), (32, .ireturn, 0)]
noncomputable def F_L_held (x0 : Int32) (x1 : Int32) (s : Mem) : Option (Int32 × Mem) :=
  if x0 = 0 then
    (F_JM_min x1 1000 s).bind fun z1 =>
    (F_JM_max 0 z1.1 z1.2).bind fun z2 =>
    some (z2.1, z2.2)
  else
  if x0 = 1 then
    (F_JM_min x1 99 s).bind fun z3 =>
    (F_JM_max 0 z3.1 z3.2).bind fun z4 =>
    some (z4.1, z4.2)
  else
  (F_JM_min x1 9 s).bind fun z5 =>
  (F_JM_max 0 z5.1 z5.2).bind fun z6 =>
  some (z6.1, z6.2)
noncomputable def A_L_held (av : List Value) (s : Mem) : Option (Int32 × Mem) := match av with
  | [.int a0, .int a1] => F_L_held a0 a1 s
  | _ => none
noncomputable def C_L_held (k : Nat) (av : List Value) (s : Mem) : Option (Int32 × Mem) := cbr (Nat.beq k 14) (A_JM_min av s) (cbr (Nat.beq k 21) (A_JM_max av s) (none))
set_option maxRecDepth 100000 in
theorem e_L_held (x0 : Int32) (x1 : Int32) (s : Mem) : F_L_held x0 x1 s = xs C_L_held (fun k ls s => none) 0 (fun _ => 0) K_L_held 700 K_L_held [some (.int x0), some (.int x1), none] [] s := rfl
def K_L_unwritten : MC := [(0, .iload 1, 0), (1, .ifCond .ne 28, 0), (4, .aload 0, 0), (5, .getstatic 207, 0), (8, .lconst 0, 0), (9, .iaload, 0), (10, .iconst 0, 5), (11, .aload 0, 0), (12, .getstatic 207, 0), (15, .lconst 1, 0), (16, .iaload, 0), (17, .imul, 0), (18, .iadd, 0), (19, .iconst 0, 50), (21, .aload 0, 0), (22, .getstatic 207, 0), (25, .iconst 0, 2), (26, .iaload, 0), (27, .imul, 0), (28, .iadd, 0), (29, .iconst 0, 300), (32, .aload 0, 0), (33, .getstatic 207, 0), (36, .iconst 0, 4), (37, .iaload, 0), (38, .imul, 0), (39, .isub, 0), (40, .goto 29, 0), (43, .lconst 1, 0), (44, .ireturn, 0)]
noncomputable def F_L_unwritten (x1 : Int32) (s : Mem) : Option (Int32 × Mem) :=
  if x1 = 0 then
    (ld s 13 0).bind fun v1 =>
    (ld s 13 1).bind fun v2 =>
    (ld s 13 2).bind fun v3 =>
    (ld s 13 4).bind fun v4 =>
    some ((((v1 + (5 * v2)) + (50 * v3)) - (300 * v4)), s)
  else
  some (1, s)
noncomputable def A_L_unwritten (av : List Value) (s : Mem) : Option (Int32 × Mem) := match av with
  | [.ref a0, .int a1] => cbr (Nat.beq a0 7) (F_L_unwritten a1 s) none
  | _ => none
noncomputable def C_L_unwritten (k : Nat) (av : List Value) (s : Mem) : Option (Int32 × Mem) := none
set_option maxRecDepth 100000 in
theorem e_L_unwritten (x1 : Int32) (s : Mem) : F_L_unwritten x1 s = xs C_L_unwritten (fun k ls s => none) 0 (fun _ => 0) K_L_unwritten 700 K_L_unwritten [some (.ref 7), some (.int x1)] [] s := rfl
def K_L_ask : MC := [(0, .aload 0, 0), (1, .aload 2, 0), (2, .iload 3, 0), (3, .iload 4, 0), (5, .iload 5, 0), (7, .iload 6, 0), (9, .multianewarray 25 54, 0), (12, .lconst 0, 0), (13, .istore 7, 0), (15, .ret 0, 0), (15, .iload 7, 0), (17, .aload 0, 0), (18, .getfield 206, 0), (21, .if_icmp .ge 59, 0), (24, .iload 7, 0), (26, .iconst 0, 16), (28, .if_icmp .ge 59, 0), (31, .aload 0, 0), (32, .getstatic 202, 0), (35, .iload 7, 0), (37, .iaload, 0), (38, .iload 1, 0), (39, .if_icmp .eq 24, 0), (42, .goto 57, 0), (45, .aload 0, 0), (46, .getstatic 204, 0), (49, .iload 7, 0), (51, .iaload, 0), (52, .aload 0, 0), (53, .getstatic 205, 0), (56, .iload 7, 0), (58, .iaload, 0), (59, .if_icmp .ge 44, 0), (62, .aload 0, 0), (63, .aload 0, 0), (64, .getstatic 204, 0), (67, .iload 7, 0), (69, .iaload, 0), (70, .aload 0, 0), (71, .getstatic 205, 0), (74, .iload 7, 0), (76, .iaload, 0), (77, .invokeinterface 28 51, 0), (80, .ifCond .eq 57, 0), (83, .iload 1, 0), (84, .aload 0, 0), (85, .aload 0, 0), (86, .getstatic 203, 0), (89, .iload 7, 0), (91, .iaload, 0), (92, .aload 0, 0), (93, .getstatic 204, 0), (96, .iload 7, 0), (98, .iaload, 0), (99, .invokeinterface 28 51, 0), (102, .invokeinterface 29 2, 0), (105, .ireturn, 0), (106, .iinc 7 0, 1), (109, .goto 9, 0), (112, .iload 1, 0), (113, .aload 0, 0), (114, .iload 1, 0), (115, .invokeinterface 30 50, 0), (118, .invokeinterface 29 2, 0), (121, .ireturn, 0)]
noncomputable def F_L_ask_9 : Nat → Int32 → Int32 → Mem → Option (Int32 × Mem)
  | 0, _, _, _ => none
  | n + 1, x1, x7, s =>
    if (s 7 6) ≤ x7 then
      (F_L_unwritten x1 s).bind fun z1 =>
      (F_L_held x1 z1.1 z1.2).bind fun z2 =>
      some (z2.1, z2.2)
    else
    if 16 ≤ x7 then
      (F_L_unwritten x1 s).bind fun z3 =>
      (F_L_held x1 z3.1 z3.2).bind fun z4 =>
      some (z4.1, z4.2)
    else
    (ld s 9 x7).bind fun v5 =>
    if v5 = x1 then
      (ld s 11 x7).bind fun v6 =>
      (ld s 12 x7).bind fun v7 =>
      if v7 ≤ v6 then
        (ld s 10 x7).bind fun v8 =>
        (ld s 11 x7).bind fun v9 =>
        (F_L_run v8 v9 s).bind fun z10 =>
        (F_L_held x1 z10.1 z10.2).bind fun z11 =>
        some (z11.1, z11.2)
      else
      (ld s 11 x7).bind fun v12 =>
      (ld s 12 x7).bind fun v13 =>
      (F_L_run v12 v13 s).bind fun z14 =>
      if z14.1 = 0 then
        F_L_ask_9 n x1 (x7 + 1) z14.2
      else
      (ld z14.2 10 x7).bind fun v15 =>
      (ld z14.2 11 x7).bind fun v16 =>
      (F_L_run v15 v16 z14.2).bind fun z17 =>
      (F_L_held x1 z17.1 z17.2).bind fun z18 =>
      some (z18.1, z18.2)
    else
    F_L_ask_9 n x1 (x7 + 1) s
noncomputable def F_L_ask (x1 : Int32) (h2 : Nat) (x3 : Int32) (x4 : Int32) (x5 : Int32) (x6 : Int32) (s : Mem) : Option (Int32 × Mem) :=
  (F_L_learn h2 x3 x4 x5 x6 s).bind fun z1 =>
  F_L_ask_9 gF x1 0 z1.2
def A_L_ask_9 (f : Int32 → Int32 → Mem → Option (Int32 × Mem)) (ls : List (Option Value)) (s : Mem) : Option (Int32 × Mem) := match lk ls 0, lk ls 1, lk ls 7 with
  | some (.ref a0), some (.int a1), some (.int a2) => cbr (Nat.beq a0 7) (f a1 a2 s) none
  | _, _, _ => none
noncomputable def A_L_ask (av : List Value) (s : Mem) : Option (Int32 × Mem) := match av with
  | [.ref a0, .int a1, .ref a2, .int a3, .int a4, .int a5, .int a6] => cbr (Nat.beq a0 7) (F_L_ask a1 a2 a3 a4 a5 a6 s) none
  | _ => none
noncomputable def C_L_ask (k : Nat) (av : List Value) (s : Mem) : Option (Int32 × Mem) := cbr (Nat.beq k 25) (A_L_learn av s) (cbr (Nat.beq k 30) (A_L_unwritten av s) (cbr (Nat.beq k 29) (A_L_held av s) (cbr (Nat.beq k 28) (A_L_run av s) (none))))
set_option maxRecDepth 100000 in
theorem e_L_ask_9  (n : Nat) (x1 : Int32) (x7 : Int32) (s : Mem) : F_L_ask_9 (n + 1) x1 x7 s = xs C_L_ask (fun k ls s => cbr (Nat.beq k 0) (A_L_ask_9 (F_L_ask_9 n) ls s) (none)) 0 (fun _ => 0) K_L_ask 700 (K_L_ask.drop 10) [some (.ref 7), some (.int x1), none, none, none, none, none, some (.int x7)] [] s := rfl
set_option maxRecDepth 100000 in
theorem e_L_ask (x1 : Int32) (h2 : Nat) (x3 : Int32) (x4 : Int32) (x5 : Int32) (x6 : Int32) (s : Mem) : F_L_ask x1 h2 x3 x4 x5 x6 s = xs C_L_ask (fun k ls s => cbr (Nat.beq k 0) (A_L_ask_9 (F_L_ask_9 gF) ls s) (none)) 0 (fun _ => 0) K_L_ask 700 K_L_ask [some (.ref 7), some (.int x1), some (.ref h2), some (.int x3), some (.int x4), some (.int x5), some (.int x6), none] [] s := rfl
def K_H_draw : MC := [(0, .aload 0, 0), (1, .aload 0, 0), (2, .fload 106, 0), (5, .iconst 0, 1664525), (7, .imul, 0), (8, .iconst 0, 1013904223), (10, .iadd, 0), (11, .fstore 106, 0), (14, .iload 1, 0), (15, .ifCond .le 17, 0), (18, .aload 0, 0), (19, .fload 106, 0), (22, .iconst 0, 8), (24, .iushr, 0), (25, .iload 1, 0), (26, .irem, 0), (27, .goto 18, 0), (30, .lconst 0, 0), (31, .ireturn, 0)]
noncomputable def F_H_draw (h0 : Nat) (x1 : Int32) (s : Mem) : Option (Int32 × Mem) :=
  bif Nat.beq (kd h0) 4 then
  bif Nat.beq (kd h0) 4 then
  let s1 : Mem := mw s h0 6 (((s h0 6) * 1664525) + 1013904223)
  if x1 ≤ 0 then
    some (0, s1)
  else
  bif Nat.beq (kd h0) 4 then
  if x1 = 0 then none else
  some ((irm (ush (s1 h0 6) 8) x1), s1)
  else none
  else none
  else none
noncomputable def A_H_draw (av : List Value) (s : Mem) : Option (Int32 × Mem) := match av with
  | [.ref a0, .int a1] => F_H_draw a0 a1 s
  | _ => none
noncomputable def C_H_draw (k : Nat) (av : List Value) (s : Mem) : Option (Int32 × Mem) := none
set_option maxRecDepth 100000 in
theorem e_H_draw (h0 : Nat) (x1 : Int32) (s : Mem) : F_H_draw h0 x1 s = xs C_H_draw (fun k ls s => none) 0 (fun _ => 0) K_H_draw 700 K_H_draw [some (.ref h0), some (.int x1)] [] s := rfl
def K_H_raise : MC := [(0, .aload 0, 0), (1, .iload 1, 0), (2, .iload 2, 0), (3, .iload 3, 0), (4, .aload 0, 0), (5, .iload 1, 0), (6, .iload 2, 0), (7, .iload 3, 0), (8, .lload 16420, 0), (11, .iload 4, 0), (13, .iadd, 0), (14, .lstore 4133, 0), (17, .return_, 0)]
noncomputable def F_H_raise (h0 : Nat) (x1 : Int32) (x2 : Int32) (x3 : Int32) (x4 : Int32) (s : Mem) : Option (Int32 × Mem) :=
  bif Nat.beq (kd h0) 4 then
  (F_H_get h0 x1 x2 x3 s).bind fun z1 =>
  bif Nat.beq (kd h0) 4 then
  (F_H_put h0 x1 x2 x3 (z1.1 + x4) z1.2).bind fun z2 =>
  some (0, z2.2)
  else none
  else none
noncomputable def A_H_raise (av : List Value) (s : Mem) : Option (Int32 × Mem) := match av with
  | [.ref a0, .int a1, .int a2, .int a3, .int a4] => F_H_raise a0 a1 a2 a3 a4 s
  | _ => none
noncomputable def C_H_raise (k : Nat) (av : List Value) (s : Mem) : Option (Int32 × Mem) := cbr (Nat.beq k 16) (A_H_get av s) (cbr (Nat.beq k 4) (A_H_put av s) (none))
set_option maxRecDepth 100000 in
theorem e_H_raise (h0 : Nat) (x1 : Int32) (x2 : Int32) (x3 : Int32) (x4 : Int32) (s : Mem) : F_H_raise h0 x1 x2 x3 x4 s = xs C_H_raise (fun k ls s => none) 0 (fun _ => 0) K_H_raise 700 K_H_raise [some (.ref h0), some (.int x1), some (.int x2), some (.int x3), some (.int x4)] [] s := rfl
def K_G_treadOne : MC := [(0, .aload 1, 0), (1, .iload 3, 0), (2, .iload 4, 0), (4, .lload 22563, 0), (7, .ifCond .eq 21, 0), (10, .aload 1, 0), (11, .dup, 0), (12, .fload 103, 0), (15, .lconst 1, 0), (16, .iadd, 0), (17, .fstore 103, 0), (20, .aload 0, 0), (21, .aload 1, 0), (22, .iload 2, 0), (23, .iconst 0, 2), (24, .iload 3, 0), (25, .iload 4, 0), (27, .lconst 0, 0), (28, .multianewarray 24 119, 0), (31, .lconst 0, 0), (32, .lreturn, 0), (33, .aload 0, 0), (34, .getstatic 602, 0), (37, .lconst 0, 0), (38, .aload 1, 0), (39, .iload 3, 0), (40, .iload 4, 0), (42, .iload 5, 0), (44, .iload 6, 0), (46, .invokeinterface 31 55, 0), (49, .istore 7, 0), (51, .iload 2, 0), (52, .ifCond .eq 40, 0), (55, .iload 7, 0), (57, .iconst 0, 500), (60, .if_icmp .lt 38, 0), (63, .lconst 1, 0), (64, .goto 50, 0), (67, .lconst 0, 0), (68, .goto 50, 0), (71, .iload 7, 0), (73, .ifCond .le 49, 0), (76, .aload 1, 0), (77, .iconst 0, 1000), (80, .lload 32802, 0), (83, .iload 7, 0), (85, .if_icmp .ge 49, 0), (88, .lconst 1, 0), (89, .goto 50, 0), (92, .lconst 0, 0), (93, .istore 8, 0), (95, .aload 1, 0), (96, .iconst 0, 4), (97, .iload 3, 0), (98, .iload 4, 0), (100, .lload 16420, 0), (103, .ifCond .ne 59, 0), (106, .lconst 1, 0), (107, .goto 60, 0), (110, .lconst 0, 0), (111, .istore 9, 0), (113, .iload 8, 0), (115, .ifCond .eq 78, 0), (118, .aload 1, 0), (119, .dup, 0), (120, .fload 104, 0), (123, .lconst 1, 0), (124, .iadd, 0), (125, .fstore 104, 0), (128, .aload 0, 0), (129, .aload 1, 0), (130, .iload 2, 0), (131, .lconst 0, 0), (132, .iload 3, 0), (133, .iload 4, 0), (135, .iload 5, 0), (137, .multianewarray 24 119, 0), (140, .goto 88, 0), (143, .iload 9, 0), (145, .ifCond .eq 88, 0), (148, .aload 0, 0), (149, .aload 1, 0), (150, .iload 2, 0), (151, .lconst 1, 0), (152, .iload 3, 0), (153, .iload 4, 0), (155, .iload 5, 0), (157, .multianewarray 24 119, 0), (160, .iload 9, 0), (162, .ifCond .eq 100, 0), (165, .aload 1, 0), (166, .iload 8, 0), (168, .ifCond .eq 95, 0), (171, .iconst 0, 6), (173, .goto 96, 0), (176, .iconst 0, 7), (178, .iload 3, 0), (179, .iload 4, 0), (181, .lconst 1, 0), (182, .lstore 33829, 0), (185, .aload 1, 0), (186, .lconst 1, 0), (187, .iload 3, 0), (188, .iload 4, 0), (190, .aload 0, 0), (191, .getstatic 602, 0), (194, .lconst 1, 0), (195, .aload 1, 0), (196, .iload 3, 0), (197, .iload 4, 0), (199, .iload 5, 0), (201, .iload 6, 0), (203, .invokeinterface 31 55, 0), (206, .iconst 0, 99), (208, .lstore 17446, 0), (211, .iload 8, 0), (213, .lreturn, 0)]
noncomputable def F_G_treadOne (h1 : Nat) (x2 : Int32) (x3 : Int32) (x4 : Int32) (x5 : Int32) (x6 : Int32) (s : Mem) : Option (Int32 × Mem) :=
  bif Nat.beq (kd h1) 4 then
  (F_H_isMissing h1 x3 x4 s).bind fun z1 =>
  if z1.1 = 0 then
    (F_L_ask 0 h1 x3 x4 x5 x6 z1.2).bind fun z2 =>
    if x2 = 0 then
      if z2.1 ≤ 0 then
        bif Nat.beq (kd h1) 4 then
        (F_H_get h1 4 x3 x4 z2.2).bind fun z3 =>
        if z3.1 = 0 then
          (F_G_note h1 x2 1 x3 x4 x5 z3.2).bind fun z4 =>
          bif Nat.beq (kd h1) 4 then
          (F_H_raise h1 7 x3 x4 1 z4.2).bind fun z5 =>
          (F_L_ask 1 h1 x3 x4 x5 x6 z5.2).bind fun z6 =>
          bif Nat.beq (kd h1) 4 then
          (F_H_raiseTo h1 1 x3 x4 z6.1 99 z6.2).bind fun z7 =>
          some (0, z7.2)
          else none
          else none
        else
        (F_L_ask 1 h1 x3 x4 x5 x6 z3.2).bind fun z8 =>
        bif Nat.beq (kd h1) 4 then
        (F_H_raiseTo h1 1 x3 x4 z8.1 99 z8.2).bind fun z9 =>
        some (0, z9.2)
        else none
        else none
      else
      bif Nat.beq (kd h1) 4 then
      (F_H_draw h1 1000 z2.2).bind fun z10 =>
      if z2.1 ≤ z10.1 then
        bif Nat.beq (kd h1) 4 then
        (F_H_get h1 4 x3 x4 z10.2).bind fun z11 =>
        if z11.1 = 0 then
          (F_G_note h1 x2 1 x3 x4 x5 z11.2).bind fun z12 =>
          bif Nat.beq (kd h1) 4 then
          (F_H_raise h1 7 x3 x4 1 z12.2).bind fun z13 =>
          (F_L_ask 1 h1 x3 x4 x5 x6 z13.2).bind fun z14 =>
          bif Nat.beq (kd h1) 4 then
          (F_H_raiseTo h1 1 x3 x4 z14.1 99 z14.2).bind fun z15 =>
          some (0, z15.2)
          else none
          else none
        else
        (F_L_ask 1 h1 x3 x4 x5 x6 z11.2).bind fun z16 =>
        bif Nat.beq (kd h1) 4 then
        (F_H_raiseTo h1 1 x3 x4 z16.1 99 z16.2).bind fun z17 =>
        some (0, z17.2)
        else none
        else none
      else
      bif Nat.beq (kd h1) 4 then
      (F_H_get h1 4 x3 x4 z10.2).bind fun z18 =>
      if z18.1 = 0 then
        bif Nat.beq (kd h1) 4 then
        bif Nat.beq (kd h1) 4 then
        let s19 : Mem := mw z18.2 h1 4 ((z18.2 h1 4) + 1)
        (F_G_note h1 x2 0 x3 x4 x5 s19).bind fun z20 =>
        bif Nat.beq (kd h1) 4 then
        (F_H_raise h1 6 x3 x4 1 z20.2).bind fun z21 =>
        (F_L_ask 1 h1 x3 x4 x5 x6 z21.2).bind fun z22 =>
        bif Nat.beq (kd h1) 4 then
        (F_H_raiseTo h1 1 x3 x4 z22.1 99 z22.2).bind fun z23 =>
        some (1, z23.2)
        else none
        else none
        else none
        else none
      else
      bif Nat.beq (kd h1) 4 then
      bif Nat.beq (kd h1) 4 then
      let s24 : Mem := mw z18.2 h1 4 ((z18.2 h1 4) + 1)
      (F_G_note h1 x2 0 x3 x4 x5 s24).bind fun z25 =>
      (F_L_ask 1 h1 x3 x4 x5 x6 z25.2).bind fun z26 =>
      bif Nat.beq (kd h1) 4 then
      (F_H_raiseTo h1 1 x3 x4 z26.1 99 z26.2).bind fun z27 =>
      some (1, z27.2)
      else none
      else none
      else none
      else none
      else none
    else
    if z2.1 < 500 then
      bif Nat.beq (kd h1) 4 then
      (F_H_get h1 4 x3 x4 z2.2).bind fun z28 =>
      if z28.1 = 0 then
        (F_G_note h1 x2 1 x3 x4 x5 z28.2).bind fun z29 =>
        bif Nat.beq (kd h1) 4 then
        (F_H_raise h1 7 x3 x4 1 z29.2).bind fun z30 =>
        (F_L_ask 1 h1 x3 x4 x5 x6 z30.2).bind fun z31 =>
        bif Nat.beq (kd h1) 4 then
        (F_H_raiseTo h1 1 x3 x4 z31.1 99 z31.2).bind fun z32 =>
        some (0, z32.2)
        else none
        else none
      else
      (F_L_ask 1 h1 x3 x4 x5 x6 z28.2).bind fun z33 =>
      bif Nat.beq (kd h1) 4 then
      (F_H_raiseTo h1 1 x3 x4 z33.1 99 z33.2).bind fun z34 =>
      some (0, z34.2)
      else none
      else none
    else
    bif Nat.beq (kd h1) 4 then
    (F_H_get h1 4 x3 x4 z2.2).bind fun z35 =>
    if z35.1 = 0 then
      bif Nat.beq (kd h1) 4 then
      bif Nat.beq (kd h1) 4 then
      let s36 : Mem := mw z35.2 h1 4 ((z35.2 h1 4) + 1)
      (F_G_note h1 x2 0 x3 x4 x5 s36).bind fun z37 =>
      bif Nat.beq (kd h1) 4 then
      (F_H_raise h1 6 x3 x4 1 z37.2).bind fun z38 =>
      (F_L_ask 1 h1 x3 x4 x5 x6 z38.2).bind fun z39 =>
      bif Nat.beq (kd h1) 4 then
      (F_H_raiseTo h1 1 x3 x4 z39.1 99 z39.2).bind fun z40 =>
      some (1, z40.2)
      else none
      else none
      else none
      else none
    else
    bif Nat.beq (kd h1) 4 then
    bif Nat.beq (kd h1) 4 then
    let s41 : Mem := mw z35.2 h1 4 ((z35.2 h1 4) + 1)
    (F_G_note h1 x2 0 x3 x4 x5 s41).bind fun z42 =>
    (F_L_ask 1 h1 x3 x4 x5 x6 z42.2).bind fun z43 =>
    bif Nat.beq (kd h1) 4 then
    (F_H_raiseTo h1 1 x3 x4 z43.1 99 z43.2).bind fun z44 =>
    some (1, z44.2)
    else none
    else none
    else none
    else none
  else
  bif Nat.beq (kd h1) 4 then
  bif Nat.beq (kd h1) 4 then
  let s45 : Mem := mw z1.2 h1 3 ((z1.2 h1 3) + 1)
  (F_G_note h1 x2 2 x3 x4 0 s45).bind fun z46 =>
  some (0, z46.2)
  else none
  else none
  else none
noncomputable def A_G_treadOne (av : List Value) (s : Mem) : Option (Int32 × Mem) := match av with
  | [.ref a0, .ref a1, .int a2, .int a3, .int a4, .int a5, .int a6] => cbr (Nat.beq a0 1) (F_G_treadOne a1 a2 a3 a4 a5 a6 s) none
  | _ => none
noncomputable def C_G_treadOne (k : Nat) (av : List Value) (s : Mem) : Option (Int32 × Mem) := cbr (Nat.beq k 22) (A_H_isMissing av s) (cbr (Nat.beq k 31) (A_L_ask av s) (cbr (Nat.beq k 16) (A_H_get av s) (cbr (Nat.beq k 24) (A_G_note av s) (cbr (Nat.beq k 33) (A_H_raise av s) (cbr (Nat.beq k 17) (A_H_raiseTo av s) (cbr (Nat.beq k 32) (A_H_draw av s) (none)))))))
set_option maxRecDepth 100000 in
theorem e_G_treadOne (h1 : Nat) (x2 : Int32) (x3 : Int32) (x4 : Int32) (x5 : Int32) (x6 : Int32) (s : Mem) : F_G_treadOne h1 x2 x3 x4 x5 x6 s = xs C_G_treadOne (fun k ls s => none) 0 (fun _ => 0) K_G_treadOne 700 K_G_treadOne [some (.ref 1), some (.ref h1), some (.int x2), some (.int x3), some (.int x4), some (.int x5), some (.int x6), none, none, none] [] s := rfl
def K_G_tread : MC := [(0, .aload 1, 0), (1, .iload 3, 0), (2, .lload 8226, 0), (5, .istore 7, 0), (7, .iload 6, 0), (9, .lconst 1, 0), (10, .invokeinterface 21 2, 0), (13, .istore 8, 0), (15, .lconst 0, 0), (16, .istore 9, 0), (18, .iload 8, 0), (20, .istore 10, 0), (22, .ret 0, 0), (22, .iload 10, 0), (24, .iload 7, 0), (26, .iload 8, 0), (28, .iadd, 0), (29, .if_icmp .ge 54, 0), (32, .iload 4, 0), (34, .ifCond .eq 24, 0), (37, .iload 10, 0), (39, .lconst 1, 0), (40, .isub, 0), (41, .goto 31, 0), (44, .iload 7, 0), (46, .lconst 1, 0), (47, .isub, 0), (48, .iload 10, 0), (50, .iload 8, 0), (52, .isub, 0), (53, .isub, 0), (54, .istore 11, 0), (56, .iload 11, 0), (58, .lconst 0, 0), (59, .iload 7, 0), (61, .lconst 1, 0), (62, .isub, 0), (63, .invokeinterface 2 3, 0), (66, .ifCond .eq 49, 0), (69, .aload 0, 0), (70, .aload 1, 0), (71, .iload 2, 0), (72, .iload 3, 0), (73, .iload 11, 0), (75, .iload 5, 0), (77, .iload 6, 0), (79, .invokeinterface 34 119, 0), (82, .ifCond .eq 49, 0), (85, .iinc 9 0, 1), (88, .iload 10, 0), (90, .iload 8, 0), (92, .iadd, 0), (93, .istore 10, 0), (95, .goto 12, 0), (98, .iload 9, 0), (100, .ireturn, 0)]
noncomputable def F_G_tread_12 : Nat → Nat → Int32 → Int32 → Int32 → Int32 → Int32 → Int32 → Int32 → Int32 → Int32 → Mem → Option (Int32 × Mem)
  | 0, _, _, _, _, _, _, _, _, _, _, _ => none
  | n + 1, h1, x2, x3, x4, x5, x6, x7, x8, x9, x10, s =>
    if (x7 + x8) ≤ x10 then
      some (x9, s)
    else
    if x4 = 0 then
      (F_C_within ((x7 - 1) - (x10 - x8)) 0 (x7 - 1) s).bind fun z1 =>
      if z1.1 = 0 then
        F_G_tread_12 n h1 x2 x3 x4 x5 x6 x7 x8 x9 (x10 + x8) z1.2
      else
      (F_G_treadOne h1 x2 x3 ((x7 - 1) - (x10 - x8)) x5 x6 z1.2).bind fun z2 =>
      if z2.1 = 0 then
        F_G_tread_12 n h1 x2 x3 x4 x5 x6 x7 x8 x9 (x10 + x8) z2.2
      else
      F_G_tread_12 n h1 x2 x3 x4 x5 x6 x7 x8 (x9 + 1) (x10 + x8) z2.2
    else
    (F_C_within (x10 - 1) 0 (x7 - 1) s).bind fun z3 =>
    if z3.1 = 0 then
      F_G_tread_12 n h1 x2 x3 x4 x5 x6 x7 x8 x9 (x10 + x8) z3.2
    else
    (F_G_treadOne h1 x2 x3 (x10 - 1) x5 x6 z3.2).bind fun z4 =>
    if z4.1 = 0 then
      F_G_tread_12 n h1 x2 x3 x4 x5 x6 x7 x8 x9 (x10 + x8) z4.2
    else
    F_G_tread_12 n h1 x2 x3 x4 x5 x6 x7 x8 (x9 + 1) (x10 + x8) z4.2
noncomputable def F_G_tread (h1 : Nat) (x2 : Int32) (x3 : Int32) (x4 : Int32) (x5 : Int32) (x6 : Int32) (s : Mem) : Option (Int32 × Mem) :=
  bif Nat.beq (kd h1) 4 then
  (F_H_size h1 x3 s).bind fun z1 =>
  (F_JM_max x6 1 z1.2).bind fun z2 =>
  F_G_tread_12 gF h1 x2 x3 x4 x5 x6 z1.1 z2.1 0 z2.1 z2.2
  else none
def A_G_tread_12 (f : Nat → Int32 → Int32 → Int32 → Int32 → Int32 → Int32 → Int32 → Int32 → Int32 → Mem → Option (Int32 × Mem)) (ls : List (Option Value)) (s : Mem) : Option (Int32 × Mem) := match lk ls 0, lk ls 1, lk ls 2, lk ls 3, lk ls 4, lk ls 5, lk ls 6, lk ls 7, lk ls 8, lk ls 9, lk ls 10 with
  | some (.ref a0), some (.ref a1), some (.int a2), some (.int a3), some (.int a4), some (.int a5), some (.int a6), some (.int a7), some (.int a8), some (.int a9), some (.int a10) => cbr (Nat.beq a0 1) (f a1 a2 a3 a4 a5 a6 a7 a8 a9 a10 s) none
  | _, _, _, _, _, _, _, _, _, _, _ => none
noncomputable def A_G_tread (av : List Value) (s : Mem) : Option (Int32 × Mem) := match av with
  | [.ref a0, .ref a1, .int a2, .int a3, .int a4, .int a5, .int a6] => cbr (Nat.beq a0 1) (F_G_tread a1 a2 a3 a4 a5 a6 s) none
  | _ => none
noncomputable def C_G_tread (k : Nat) (av : List Value) (s : Mem) : Option (Int32 × Mem) := cbr (Nat.beq k 8) (A_H_size av s) (cbr (Nat.beq k 21) (A_JM_max av s) (cbr (Nat.beq k 2) (A_C_within av s) (cbr (Nat.beq k 34) (A_G_treadOne av s) (none))))
set_option maxRecDepth 100000 in
theorem e_G_tread_12  (n : Nat) (h1 : Nat) (x2 : Int32) (x3 : Int32) (x4 : Int32) (x5 : Int32) (x6 : Int32) (x7 : Int32) (x8 : Int32) (x9 : Int32) (x10 : Int32) (s : Mem) : F_G_tread_12 (n + 1) h1 x2 x3 x4 x5 x6 x7 x8 x9 x10 s = xs C_G_tread (fun k ls s => cbr (Nat.beq k 0) (A_G_tread_12 (F_G_tread_12 n) ls s) (none)) 0 (fun _ => 0) K_G_tread 700 (K_G_tread.drop 13) [some (.ref 1), some (.ref h1), some (.int x2), some (.int x3), some (.int x4), some (.int x5), some (.int x6), some (.int x7), some (.int x8), some (.int x9), some (.int x10), none] [] s := rfl
set_option maxRecDepth 100000 in
theorem e_G_tread (h1 : Nat) (x2 : Int32) (x3 : Int32) (x4 : Int32) (x5 : Int32) (x6 : Int32) (s : Mem) : F_G_tread h1 x2 x3 x4 x5 x6 s = xs C_G_tread (fun k ls s => cbr (Nat.beq k 0) (A_G_tread_12 (F_G_tread_12 gF) ls s) (none)) 0 (fun _ => 0) K_G_tread 700 K_G_tread [some (.ref 1), some (.ref h1), some (.int x2), some (.int x3), some (.int x4), some (.int x5), some (.int x6), none, none, none, none, none] [] s := rfl
def K_C_visit : MC := [(0, .aload 0, 0), (1, .getstatic 1000, 0), (4, .getstatic 600, 0), (7, .iload 1, 0), (8, .invokeinterface 7 34, 0), (11, .ifCond .eq 10, 0), (14, .iload 3, 0), (15, .iload 4, 0), (17, .invokeinterface 20 2, 0), (20, .ifCond .ne 12, 0), (23, .iconst 0, (-1)), (24, .ireturn, 0), (25, .aload 0, 0), (26, .multianewarray 15 177, 0), (29, .aload 0, 0), (30, .getstatic 1000, 0), (33, .aload 0, 0), (34, .getstatic 1000, 0), (37, .getstatic 600, 0), (40, .lconst 0, 0), (41, .iload 1, 0), (42, .iload 2, 0), (43, .iload 3, 0), (44, .iload 4, 0), (46, .invokeinterface 35 119, 0), (49, .ireturn, 0)]
noncomputable def F_C_visit (x1 : Int32) (x2 : Int32) (x3 : Int32) (x4 : Int32) (s : Mem) : Option (Int32 × Mem) :=
  (F_H_has1 x1 s).bind fun z1 =>
  if z1.1 = 0 then
    some ((-1), z1.2)
  else
  (F_C_isVisitor x3 x4 z1.2).bind fun z2 =>
  if z2.1 = 0 then
    some ((-1), z2.2)
  else
  (F_C_keepBefore z2.2).bind fun z3 =>
  (F_G_tread 2 0 x1 x2 x3 x4 z3.2).bind fun z4 =>
  some (z4.1, z4.2)
noncomputable def A_C_visit (av : List Value) (s : Mem) : Option (Int32 × Mem) := match av with
  | [.ref a0, .int a1, .int a2, .int a3, .int a4] => cbr (Nat.beq a0 0) (F_C_visit a1 a2 a3 a4 s) none
  | _ => none
noncomputable def C_C_visit (k : Nat) (av : List Value) (s : Mem) : Option (Int32 × Mem) := cbr (Nat.beq k 7) (A_H_has1 av s) (cbr (Nat.beq k 20) (A_C_isVisitor av s) (cbr (Nat.beq k 15) (A_C_keepBefore av s) (cbr (Nat.beq k 35) (A_G_tread av s) (none))))
set_option maxRecDepth 100000 in
theorem e_C_visit (x1 : Int32) (x2 : Int32) (x3 : Int32) (x4 : Int32) (s : Mem) : F_C_visit x1 x2 x3 x4 s = xs C_C_visit (fun k ls s => none) 0 (fun _ => 0) K_C_visit 700 K_C_visit [some (.ref 0), some (.int x1), some (.int x2), some (.int x3), some (.int x4)] [] s := rfl
def K_N_at : MC := [(0, .iload 1, 0), (1, .iconst 0, 5), (2, .imul, 0), (3, .iload 2, 0), (4, .iadd, 0), (5, .istore 3, 0), (6, .iload 3, 0), (7, .lconst 0, 0), (8, .aload 0, 0), (9, .dload 300, 0), (12, .lneg, 0), (13, .lconst 1, 0), (14, .isub, 0), (15, .invokeinterface 2 3, 0), (18, .ifCond .eq 20, 0), (21, .aload 0, 0), (22, .dload 300, 0), (25, .iload 3, 0), (26, .iaload, 0), (27, .goto 21, 0), (30, .lconst 0, 0), (31, .ireturn, 0)]
noncomputable def F_N_at (h0 : Nat) (x1 : Int32) (x2 : Int32) (s : Mem) : Option (Int32 × Mem) :=
  bif Nat.beq (kd h0) 6 then
  bif Nat.beq (kd (rf h0 0)) 1 || Nat.beq (kd (rf h0 0)) 2 then
  (F_C_within ((x1 * 5) + x2) 0 ((nI (ln (rf h0 0))) - 1) s).bind fun z1 =>
  if z1.1 = 0 then
    some (0, z1.2)
  else
  bif Nat.beq (kd h0) 6 then
  (ld z1.2 (rf h0 0) ((x1 * 5) + x2)).bind fun v2 =>
  some (v2, z1.2)
  else none
  else none
  else none
noncomputable def A_N_at (av : List Value) (s : Mem) : Option (Int32 × Mem) := match av with
  | [.ref a0, .int a1, .int a2] => F_N_at a0 a1 a2 s
  | _ => none
noncomputable def C_N_at (k : Nat) (av : List Value) (s : Mem) : Option (Int32 × Mem) := cbr (Nat.beq k 2) (A_C_within av s) (none)
set_option maxRecDepth 100000 in
theorem e_N_at (h0 : Nat) (x1 : Int32) (x2 : Int32) (s : Mem) : F_N_at h0 x1 x2 s = xs C_N_at (fun k ls s => none) 0 (fun _ => 0) K_N_at 700 K_N_at [some (.ref h0), some (.int x1), some (.int x2), none] [] s := rfl
def K_G_dawn : MC := [(0, .aload 1, 0), (1, .iconst 0, 6), (3, .iload 3, 0), (4, .iload 4, 0), (6, .lload 16420, 0), (9, .istore 5, 0), (11, .iload 5, 0), (13, .aload 1, 0), (14, .iconst 0, 8), (16, .iload 3, 0), (17, .iload 4, 0), (19, .lload 16420, 0), (22, .isub, 0), (23, .iconst 0, 3), (24, .if_icmp .lt 48, 0), (27, .aload 1, 0), (28, .iconst 0, 3), (29, .iload 3, 0), (30, .iload 4, 0), (32, .aload 0, 0), (33, .getstatic 602, 0), (36, .iconst 0, 2), (37, .aload 1, 0), (38, .iload 3, 0), (39, .iload 4, 0), (41, .lconst 0, 0), (42, .lconst 0, 0), (43, .invokeinterface 31 55, 0), (46, .iconst 0, 9), (48, .lstore 17446, 0), (51, .aload 1, 0), (52, .iconst 0, 8), (54, .iload 3, 0), (55, .iload 4, 0), (57, .iload 5, 0), (59, .lstore 4133, 0), (62, .aload 0, 0), (63, .aload 1, 0), (64, .iload 2, 0), (65, .iconst 0, 3), (66, .iload 3, 0), (67, .iload 4, 0), (69, .aload 1, 0), (70, .iconst 0, 3), (71, .iload 3, 0), (72, .iload 4, 0), (74, .lload 16420, 0), (77, .multianewarray 24 119, 0), (80, .aload 1, 0), (81, .iconst 0, 7), (83, .iload 3, 0), (84, .iload 4, 0), (86, .lload 16420, 0), (89, .istore 6, 0), (91, .iload 6, 0), (93, .iconst 0, 5), (94, .if_icmp .le 79, 0), (97, .iload 6, 0), (99, .iload 5, 0), (101, .if_icmp .le 79, 0), (104, .aload 1, 0), (105, .iload 3, 0), (106, .iload 4, 0), (108, .lload 22563, 0), (111, .ifCond .ne 79, 0), (114, .aload 1, 0), (115, .iconst 0, 4), (116, .iload 3, 0), (117, .iload 4, 0), (119, .iconst 0, 2), (120, .lstore 4133, 0), (123, .aload 0, 0), (124, .aload 1, 0), (125, .iload 2, 0), (126, .iconst 0, 4), (127, .iload 3, 0), (128, .iload 4, 0), (130, .iload 6, 0), (132, .multianewarray 24 119, 0), (135, .return_, 0)]
noncomputable def F_G_dawn (h1 : Nat) (x2 : Int32) (x3 : Int32) (x4 : Int32) (s : Mem) : Option (Int32 × Mem) :=
  bif Nat.beq (kd h1) 4 then
  (F_H_get h1 6 x3 x4 s).bind fun z1 =>
  bif Nat.beq (kd h1) 4 then
  (F_H_get h1 8 x3 x4 z1.2).bind fun z2 =>
  if (z1.1 - z2.1) < 3 then
    bif Nat.beq (kd h1) 4 then
    (F_H_get h1 7 x3 x4 z2.2).bind fun z3 =>
    if z3.1 ≤ 5 then
      some (0, z3.2)
    else
    if z3.1 ≤ z1.1 then
      some (0, z3.2)
    else
    bif Nat.beq (kd h1) 4 then
    (F_H_isMissing h1 x3 x4 z3.2).bind fun z4 =>
    if z4.1 = 0 then
      bif Nat.beq (kd h1) 4 then
      (F_H_put h1 4 x3 x4 2 z4.2).bind fun z5 =>
      (F_G_note h1 x2 4 x3 x4 z3.1 z5.2).bind fun z6 =>
      some (0, z6.2)
      else none
    else
    some (0, z4.2)
    else none
    else none
  else
  (F_L_ask 2 h1 x3 x4 0 0 z2.2).bind fun z7 =>
  bif Nat.beq (kd h1) 4 then
  (F_H_raiseTo h1 3 x3 x4 z7.1 9 z7.2).bind fun z8 =>
  bif Nat.beq (kd h1) 4 then
  (F_H_put h1 8 x3 x4 z1.1 z8.2).bind fun z9 =>
  bif Nat.beq (kd h1) 4 then
  (F_H_get h1 3 x3 x4 z9.2).bind fun z10 =>
  (F_G_note h1 x2 3 x3 x4 z10.1 z10.2).bind fun z11 =>
  bif Nat.beq (kd h1) 4 then
  (F_H_get h1 7 x3 x4 z11.2).bind fun z12 =>
  if z12.1 ≤ 5 then
    some (0, z12.2)
  else
  if z12.1 ≤ z1.1 then
    some (0, z12.2)
  else
  bif Nat.beq (kd h1) 4 then
  (F_H_isMissing h1 x3 x4 z12.2).bind fun z13 =>
  if z13.1 = 0 then
    bif Nat.beq (kd h1) 4 then
    (F_H_put h1 4 x3 x4 2 z13.2).bind fun z14 =>
    (F_G_note h1 x2 4 x3 x4 z12.1 z14.2).bind fun z15 =>
    some (0, z15.2)
    else none
  else
  some (0, z13.2)
  else none
  else none
  else none
  else none
  else none
  else none
  else none
noncomputable def A_G_dawn (av : List Value) (s : Mem) : Option (Int32 × Mem) := match av with
  | [.ref a0, .ref a1, .int a2, .int a3, .int a4] => cbr (Nat.beq a0 1) (F_G_dawn a1 a2 a3 a4 s) none
  | _ => none
noncomputable def C_G_dawn (k : Nat) (av : List Value) (s : Mem) : Option (Int32 × Mem) := cbr (Nat.beq k 16) (A_H_get av s) (cbr (Nat.beq k 22) (A_H_isMissing av s) (cbr (Nat.beq k 4) (A_H_put av s) (cbr (Nat.beq k 24) (A_G_note av s) (cbr (Nat.beq k 31) (A_L_ask av s) (cbr (Nat.beq k 17) (A_H_raiseTo av s) (none))))))
set_option maxRecDepth 100000 in
theorem e_G_dawn (h1 : Nat) (x2 : Int32) (x3 : Int32) (x4 : Int32) (s : Mem) : F_G_dawn h1 x2 x3 x4 s = xs C_G_dawn (fun k ls s => none) 0 (fun _ => 0) K_G_dawn 700 K_G_dawn [some (.ref 1), some (.ref h1), some (.int x2), some (.int x3), some (.int x4), none, none] [] s := rfl
def K_G_passNight : MC := [(0, .lconst 0, 0), (1, .istore 3, 0), (2, .ret 0, 0), (2, .iload 3, 0), (3, .aload 0, 0), (4, .getstatic 603, 0), (7, .getfield 301, 0), (10, .if_icmp .ge 35, 0), (13, .aload 0, 0), (14, .getstatic 603, 0), (17, .iload 3, 0), (18, .lconst 0, 0), (19, .invokeinterface 37 67, 0), (22, .aload 1, 0), (23, .fload 105, 0), (26, .if_icmp .ne 33, 0), (29, .aload 1, 0), (30, .aload 0, 0), (31, .getstatic 603, 0), (34, .iload 3, 0), (35, .iconst 0, 3), (36, .invokeinterface 37 67, 0), (39, .aload 0, 0), (40, .getstatic 603, 0), (43, .iload 3, 0), (44, .lconst 1, 0), (45, .invokeinterface 37 67, 0), (48, .aload 0, 0), (49, .getstatic 603, 0), (52, .iload 3, 0), (53, .iconst 0, 2), (54, .invokeinterface 37 67, 0), (57, .multianewarray 18 4, 0), (60, .iinc 3 0, 1), (63, .goto 2, 0), (66, .lconst 0, 0), (67, .istore 3, 0), (68, .lconst 0, 0), (69, .istore 4, 0), (71, .ret 1, 0), (71, .iload 4, 0), (73, .aload 0, 0), (74, .getstatic 604, 0), (77, .getfield 301, 0), (80, .if_icmp .ge 89, 0), (83, .aload 0, 0), (84, .getstatic 604, 0), (87, .iload 4, 0), (89, .lconst 0, 0), (90, .invokeinterface 37 67, 0), (93, .aload 1, 0), (94, .fload 105, 0), (97, .if_icmp .ne 87, 0), (100, .aload 0, 0), (101, .getstatic 604, 0), (104, .iload 4, 0), (106, .iconst 0, 2), (107, .invokeinterface 37 67, 0), (110, .lconst 1, 0), (111, .if_icmp .ne 62, 0), (114, .lconst 1, 0), (115, .goto 63, 0), (118, .lconst 0, 0), (119, .istore 5, 0), (121, .iload 3, 0), (122, .aload 0, 0), (123, .aload 1, 0), (124, .iload 2, 0), (125, .aload 0, 0), (126, .getstatic 604, 0), (129, .iload 4, 0), (131, .lconst 1, 0), (132, .invokeinterface 37 67, 0), (135, .iload 5, 0), (137, .aload 0, 0), (138, .getstatic 604, 0), (141, .iload 4, 0), (143, .iconst 0, 3), (144, .invokeinterface 37 67, 0), (147, .aload 0, 0), (148, .getstatic 604, 0), (151, .iload 4, 0), (153, .iconst 0, 4), (154, .invokeinterface 37 67, 0), (157, .invokeinterface 35 119, 0), (160, .iadd, 0), (161, .istore 3, 0), (162, .iinc 4 0, 1), (165, .goto 39, 0), (168, .lconst 0, 0), (169, .istore 4, 0), (171, .ret 2, 0), (171, .iload 4, 0), (173, .aload 1, 0), (174, .fload 102, 0), (177, .if_icmp .ge 114, 0), (180, .lconst 0, 0), (181, .istore 5, 0), (183, .ret 3, 0), (183, .iload 5, 0), (185, .aload 1, 0), (186, .iload 4, 0), (188, .lload 8226, 0), (191, .if_icmp .ge 112, 0), (194, .aload 0, 0), (195, .aload 1, 0), (196, .iload 2, 0), (197, .iload 4, 0), (199, .iload 5, 0), (201, .multianewarray 38 117, 0), (204, .iinc 5 0, 1), (207, .goto 98, 0), (210, .iinc 4 0, 1), (213, .goto 91, 0), (216, .aload 1, 0), (217, .dup, 0), (218, .fload 105, 0), (221, .lconst 1, 0), (222, .iadd, 0), (223, .fstore 105, 0), (226, .iload 3, 0), (227, .ireturn, 0)]
noncomputable def F_G_passNight_95 (k89 : Nat → Int32 → Int32 → Int32 → Mem → Option (Int32 × Mem)) : Nat → Nat → Int32 → Int32 → Int32 → Int32 → Mem → Option (Int32 × Mem)
  | 0, _, _, _, _, _, _ => none
  | n + 1, h1, x2, x3, x4, x5, s =>
    bif Nat.beq (kd h1) 4 then
    (F_H_size h1 x4 s).bind fun z1 =>
    if z1.1 ≤ x5 then
      k89 h1 x2 x3 (x4 + 1) z1.2
    else
    (F_G_dawn h1 x2 x4 x5 z1.2).bind fun z2 =>
    F_G_passNight_95 k89 n h1 x2 x3 x4 (x5 + 1) z2.2
    else none
noncomputable def F_G_passNight_89 : Nat → Nat → Int32 → Int32 → Int32 → Mem → Option (Int32 × Mem)
  | 0, _, _, _, _, _ => none
  | n + 1, h1, x2, x3, x4, s =>
    bif Nat.beq (kd h1) 4 then
    if (s h1 2) ≤ x4 then
      bif Nat.beq (kd h1) 4 then
      bif Nat.beq (kd h1) 4 then
      let s1 : Mem := mw s h1 5 ((s h1 5) + 1)
      some (x3, s1)
      else none
      else none
    else
    F_G_passNight_95 (F_G_passNight_89 n) gF h1 x2 x3 x4 0 s
    else none
noncomputable def F_G_passNight_38 : Nat → Nat → Int32 → Int32 → Int32 → Mem → Option (Int32 × Mem)
  | 0, _, _, _, _, _ => none
  | n + 1, h1, x2, x3, x4, s =>
    if (s 17 1) ≤ x4 then
      F_G_passNight_89 gF h1 x2 x3 0 s
    else
    (F_N_at 17 x4 0 s).bind fun z1 =>
    bif Nat.beq (kd h1) 4 then
    if z1.1 = (z1.2 h1 5) then
      (F_N_at 17 x4 2 z1.2).bind fun z2 =>
      if z2.1 = 1 then
        (F_N_at 17 x4 1 z2.2).bind fun z3 =>
        (F_N_at 17 x4 3 z3.2).bind fun z4 =>
        (F_N_at 17 x4 4 z4.2).bind fun z5 =>
        (F_G_tread h1 x2 z3.1 1 z4.1 z5.1 z5.2).bind fun z6 =>
        F_G_passNight_38 n h1 x2 (x3 + z6.1) (x4 + 1) z6.2
      else
      (F_N_at 17 x4 1 z2.2).bind fun z7 =>
      (F_N_at 17 x4 3 z7.2).bind fun z8 =>
      (F_N_at 17 x4 4 z8.2).bind fun z9 =>
      (F_G_tread h1 x2 z7.1 0 z8.1 z9.1 z9.2).bind fun z10 =>
      F_G_passNight_38 n h1 x2 (x3 + z10.1) (x4 + 1) z10.2
    else
    F_G_passNight_38 n h1 x2 x3 (x4 + 1) z1.2
    else none
noncomputable def F_G_passNight_2 : Nat → Nat → Int32 → Int32 → Mem → Option (Int32 × Mem)
  | 0, _, _, _, _ => none
  | n + 1, h1, x2, x3, s =>
    if (s 15 1) ≤ x3 then
      F_G_passNight_38 gF h1 x2 0 0 s
    else
    (F_N_at 15 x3 0 s).bind fun z1 =>
    bif Nat.beq (kd h1) 4 then
    if z1.1 = (z1.2 h1 5) then
      (F_N_at 15 x3 3 z1.2).bind fun z2 =>
      (F_N_at 15 x3 1 z2.2).bind fun z3 =>
      (F_N_at 15 x3 2 z3.2).bind fun z4 =>
      (F_G_obey h1 z2.1 z3.1 z4.1 z4.2).bind fun z5 =>
      F_G_passNight_2 n h1 x2 (x3 + 1) z5.2
    else
    F_G_passNight_2 n h1 x2 (x3 + 1) z1.2
    else none
noncomputable def F_G_passNight (h1 : Nat) (x2 : Int32) (s : Mem) : Option (Int32 × Mem) :=
  F_G_passNight_2 gF h1 x2 0 s
def A_G_passNight_2 (f : Nat → Int32 → Int32 → Mem → Option (Int32 × Mem)) (ls : List (Option Value)) (s : Mem) : Option (Int32 × Mem) := match lk ls 0, lk ls 1, lk ls 2, lk ls 3 with
  | some (.ref a0), some (.ref a1), some (.int a2), some (.int a3) => cbr (Nat.beq a0 1) (f a1 a2 a3 s) none
  | _, _, _, _ => none
def A_G_passNight_38 (f : Nat → Int32 → Int32 → Int32 → Mem → Option (Int32 × Mem)) (ls : List (Option Value)) (s : Mem) : Option (Int32 × Mem) := match lk ls 0, lk ls 1, lk ls 2, lk ls 3, lk ls 4 with
  | some (.ref a0), some (.ref a1), some (.int a2), some (.int a3), some (.int a4) => cbr (Nat.beq a0 1) (f a1 a2 a3 a4 s) none
  | _, _, _, _, _ => none
def A_G_passNight_89 (f : Nat → Int32 → Int32 → Int32 → Mem → Option (Int32 × Mem)) (ls : List (Option Value)) (s : Mem) : Option (Int32 × Mem) := match lk ls 0, lk ls 1, lk ls 2, lk ls 3, lk ls 4 with
  | some (.ref a0), some (.ref a1), some (.int a2), some (.int a3), some (.int a4) => cbr (Nat.beq a0 1) (f a1 a2 a3 a4 s) none
  | _, _, _, _, _ => none
def A_G_passNight_95 (f : Nat → Int32 → Int32 → Int32 → Int32 → Mem → Option (Int32 × Mem)) (ls : List (Option Value)) (s : Mem) : Option (Int32 × Mem) := match lk ls 0, lk ls 1, lk ls 2, lk ls 3, lk ls 4, lk ls 5 with
  | some (.ref a0), some (.ref a1), some (.int a2), some (.int a3), some (.int a4), some (.int a5) => cbr (Nat.beq a0 1) (f a1 a2 a3 a4 a5 s) none
  | _, _, _, _, _, _ => none
noncomputable def A_G_passNight (av : List Value) (s : Mem) : Option (Int32 × Mem) := match av with
  | [.ref a0, .ref a1, .int a2] => cbr (Nat.beq a0 1) (F_G_passNight a1 a2 s) none
  | _ => none
noncomputable def C_G_passNight (k : Nat) (av : List Value) (s : Mem) : Option (Int32 × Mem) := cbr (Nat.beq k 37) (A_N_at av s) (cbr (Nat.beq k 18) (A_G_obey av s) (cbr (Nat.beq k 35) (A_G_tread av s) (cbr (Nat.beq k 8) (A_H_size av s) (cbr (Nat.beq k 38) (A_G_dawn av s) (none)))))
set_option maxRecDepth 100000 in
theorem e_G_passNight_95 (k89 : Nat → Int32 → Int32 → Int32 → Mem → Option (Int32 × Mem)) (n : Nat) (h1 : Nat) (x2 : Int32) (x3 : Int32) (x4 : Int32) (x5 : Int32) (s : Mem) : F_G_passNight_95 k89 (n + 1) h1 x2 x3 x4 x5 s = xs C_G_passNight (fun k ls s => cbr (Nat.beq k 2) (A_G_passNight_89 (k89) ls s) (cbr (Nat.beq k 3) (A_G_passNight_95 (F_G_passNight_95 k89 n) ls s) (none))) 0 (fun _ => 0) K_G_passNight 700 (K_G_passNight.drop 99) [some (.ref 1), some (.ref h1), some (.int x2), some (.int x3), some (.int x4), some (.int x5)] [] s := rfl
set_option maxRecDepth 100000 in
theorem e_G_passNight_89  (n : Nat) (h1 : Nat) (x2 : Int32) (x3 : Int32) (x4 : Int32) (s : Mem) : F_G_passNight_89 (n + 1) h1 x2 x3 x4 s = xs C_G_passNight (fun k ls s => cbr (Nat.beq k 3) (A_G_passNight_95 (F_G_passNight_95 (F_G_passNight_89 n) gF) ls s) (none)) 0 (fun _ => 0) K_G_passNight 700 (K_G_passNight.drop 92) [some (.ref 1), some (.ref h1), some (.int x2), some (.int x3), some (.int x4), none] [] s := rfl
set_option maxRecDepth 100000 in
theorem e_G_passNight_38  (n : Nat) (h1 : Nat) (x2 : Int32) (x3 : Int32) (x4 : Int32) (s : Mem) : F_G_passNight_38 (n + 1) h1 x2 x3 x4 s = xs C_G_passNight (fun k ls s => cbr (Nat.beq k 1) (A_G_passNight_38 (F_G_passNight_38 n) ls s) (cbr (Nat.beq k 2) (A_G_passNight_89 (F_G_passNight_89 gF) ls s) (none))) 0 (fun _ => 0) K_G_passNight 700 (K_G_passNight.drop 40) [some (.ref 1), some (.ref h1), some (.int x2), some (.int x3), some (.int x4), none] [] s := rfl
set_option maxRecDepth 100000 in
theorem e_G_passNight_2  (n : Nat) (h1 : Nat) (x2 : Int32) (x3 : Int32) (s : Mem) : F_G_passNight_2 (n + 1) h1 x2 x3 s = xs C_G_passNight (fun k ls s => cbr (Nat.beq k 0) (A_G_passNight_2 (F_G_passNight_2 n) ls s) (cbr (Nat.beq k 1) (A_G_passNight_38 (F_G_passNight_38 gF) ls s) (none))) 0 (fun _ => 0) K_G_passNight 700 (K_G_passNight.drop 3) [some (.ref 1), some (.ref h1), some (.int x2), some (.int x3), none, none] [] s := rfl
set_option maxRecDepth 100000 in
theorem e_G_passNight (h1 : Nat) (x2 : Int32) (s : Mem) : F_G_passNight h1 x2 s = xs C_G_passNight (fun k ls s => cbr (Nat.beq k 0) (A_G_passNight_2 (F_G_passNight_2 gF) ls s) (none)) 0 (fun _ => 0) K_G_passNight 700 K_G_passNight [some (.ref 1), some (.ref h1), some (.int x2), none, none, none] [] s := rfl
def K_C_nights : MC := [(0, .iload 1, 0), (1, .lconst 1, 0), (2, .iconst 0, 60), (4, .invokeinterface 2 3, 0), (7, .ifCond .eq 13, 0), (10, .aload 0, 0), (11, .getstatic 1000, 0), (14, .getstatic 600, 0), (17, .getfield 105, 0), (20, .iload 1, 0), (21, .iadd, 0), (22, .iconst 0, 9999), (25, .if_icmp .le 15, 0), (28, .iconst 0, (-1)), (29, .ireturn, 0), (30, .lconst 0, 0), (31, .istore 2, 0), (32, .iload 1, 0), (33, .istore 3, 0), (34, .ret 0, 0), (34, .iload 3, 0), (35, .ifCond .le 39, 0), (38, .iload 3, 0), (39, .iconst 0, 6), (41, .if_icmp .gt 27, 0), (44, .aload 0, 0), (45, .multianewarray 15 177, 0), (48, .iload 2, 0), (49, .aload 0, 0), (50, .getstatic 1000, 0), (53, .aload 0, 0), (54, .getstatic 1000, 0), (57, .getstatic 600, 0), (60, .lconst 0, 0), (61, .invokeinterface 39 115, 0), (64, .iadd, 0), (65, .istore 2, 0), (66, .iinc 3 0, (-1)), (69, .goto 19, 0), (72, .iload 2, 0), (73, .ireturn, 0)]
noncomputable def F_C_nights_19 : Nat → Int32 → Int32 → Mem → Option (Int32 × Mem)
  | 0, _, _, _ => none
  | n + 1, x2, x3, s =>
    if x3 ≤ 0 then
      some (x2, s)
    else
    if 6 < x3 then
      (F_G_passNight 2 0 s).bind fun z1 =>
      F_C_nights_19 n (x2 + z1.1) (x3 + (-1)) z1.2
    else
    (F_C_keepBefore s).bind fun z2 =>
    (F_G_passNight 2 0 z2.2).bind fun z3 =>
    F_C_nights_19 n (x2 + z3.1) (x3 + (-1)) z3.2
noncomputable def F_C_nights (x1 : Int32) (s : Mem) : Option (Int32 × Mem) :=
  (F_C_within x1 1 60 s).bind fun z1 =>
  if z1.1 = 0 then
    some ((-1), z1.2)
  else
  if ((z1.2 2 5) + x1) ≤ 9999 then
    F_C_nights_19 gF 0 x1 z1.2
  else
  some ((-1), z1.2)
def A_C_nights_19 (f : Int32 → Int32 → Mem → Option (Int32 × Mem)) (ls : List (Option Value)) (s : Mem) : Option (Int32 × Mem) := match lk ls 0, lk ls 2, lk ls 3 with
  | some (.ref a0), some (.int a1), some (.int a2) => cbr (Nat.beq a0 0) (f a1 a2 s) none
  | _, _, _ => none
noncomputable def A_C_nights (av : List Value) (s : Mem) : Option (Int32 × Mem) := match av with
  | [.ref a0, .int a1] => cbr (Nat.beq a0 0) (F_C_nights a1 s) none
  | _ => none
noncomputable def C_C_nights (k : Nat) (av : List Value) (s : Mem) : Option (Int32 × Mem) := cbr (Nat.beq k 2) (A_C_within av s) (cbr (Nat.beq k 39) (A_G_passNight av s) (cbr (Nat.beq k 15) (A_C_keepBefore av s) (none)))
set_option maxRecDepth 100000 in
theorem e_C_nights_19  (n : Nat) (x2 : Int32) (x3 : Int32) (s : Mem) : F_C_nights_19 (n + 1) x2 x3 s = xs C_C_nights (fun k ls s => cbr (Nat.beq k 0) (A_C_nights_19 (F_C_nights_19 n) ls s) (none)) 0 (fun _ => 0) K_C_nights 700 (K_C_nights.drop 20) [some (.ref 0), none, some (.int x2), some (.int x3)] [] s := rfl
set_option maxRecDepth 100000 in
theorem e_C_nights (x1 : Int32) (s : Mem) : F_C_nights x1 s = xs C_C_nights (fun k ls s => cbr (Nat.beq k 0) (A_C_nights_19 (F_C_nights_19 gF) ls s) (none)) 0 (fun _ => 0) K_C_nights 700 K_C_nights [some (.ref 0), some (.int x1), none, none] [] s := rfl
def K_C_putBytes : MC := [(0, .iconst 0, 24), (2, .istore 2, 0), (3, .ret 0, 0), (3, .iload 2, 0), (4, .ifCond .lt 32, 0), (7, .aload 0, 0), (8, .getfield 1008, 0), (11, .ifCond .lt 30, 0), (14, .aload 0, 0), (15, .getfield 1008, 0), (18, .aload 0, 0), (19, .getstatic 1007, 0), (22, .arraylength, 0), (23, .if_icmp .ge 30, 0), (26, .aload 0, 0), (27, .getstatic 1007, 0), (30, .aload 0, 0), (31, .getfield 1008, 0), (34, .iload 1, 0), (35, .iload 2, 0), (36, .iushr, 0), (37, .iconst 0, 255), (40, .iand, 0), (41, .iastore, 0), (42, .aload 0, 0), (43, .dup, 0), (44, .getfield 1008, 0), (47, .lconst 1, 0), (48, .iadd, 0), (49, .putfield 1008, 0), (52, .iinc 2 0, (-8)), (55, .goto 2, 0), (58, .return_, 0)]
noncomputable def F_C_putBytes_2 : Nat → Int32 → Int32 → Mem → Option (Int32 × Mem)
  | 0, _, _, _ => none
  | n + 1, x1, x2, s =>
    if x2 < 0 then
      some (0, s)
    else
    if (s 0 8) < 0 then
      F_C_putBytes_2 n x1 (x2 + (-8)) s
    else
    if 400 ≤ (s 0 8) then
      F_C_putBytes_2 n x1 (x2 + (-8)) s
    else
    (sd s 75 (s 0 8) ((ush x1 x2) &&& 255)).bind fun s1 =>
    let s2 : Mem := mw s1 0 8 ((s1 0 8) + 1)
    F_C_putBytes_2 n x1 (x2 + (-8)) s2
noncomputable def F_C_putBytes (x1 : Int32) (s : Mem) : Option (Int32 × Mem) :=
  F_C_putBytes_2 gF x1 24 s
def A_C_putBytes_2 (f : Int32 → Int32 → Mem → Option (Int32 × Mem)) (ls : List (Option Value)) (s : Mem) : Option (Int32 × Mem) := match lk ls 0, lk ls 1, lk ls 2 with
  | some (.ref a0), some (.int a1), some (.int a2) => cbr (Nat.beq a0 0) (f a1 a2 s) none
  | _, _, _ => none
noncomputable def A_C_putBytes (av : List Value) (s : Mem) : Option (Int32 × Mem) := match av with
  | [.ref a0, .int a1] => cbr (Nat.beq a0 0) (F_C_putBytes a1 s) none
  | _ => none
noncomputable def C_C_putBytes (k : Nat) (av : List Value) (s : Mem) : Option (Int32 × Mem) := none
set_option maxRecDepth 100000 in
theorem e_C_putBytes_2  (n : Nat) (x1 : Int32) (x2 : Int32) (s : Mem) : F_C_putBytes_2 (n + 1) x1 x2 s = xs C_C_putBytes (fun k ls s => cbr (Nat.beq k 0) (A_C_putBytes_2 (F_C_putBytes_2 n) ls s) (none)) 0 (fun _ => 0) K_C_putBytes 700 (K_C_putBytes.drop 3) [some (.ref 0), some (.int x1), some (.int x2)] [] s := rfl
set_option maxRecDepth 100000 in
theorem e_C_putBytes (x1 : Int32) (s : Mem) : F_C_putBytes x1 s = xs C_C_putBytes (fun k ls s => cbr (Nat.beq k 0) (A_C_putBytes_2 (F_C_putBytes_2 gF) ls s) (none)) 0 (fun _ => 0) K_C_putBytes 700 K_C_putBytes [some (.ref 0), some (.int x1), none] [] s := rfl
def K_C_feed : MC := [(0, .aload 0, 0), (1, .getfield 1008, 0), (4, .iconst 0, 20), (6, .iadd, 0), (7, .iconst 0, 400), (10, .if_icmp .le 8, 0), (13, .iconst 0, (-1)), (14, .ireturn, 0), (15, .aload 0, 0), (16, .iload 1, 0), (17, .multianewarray 41 178, 0), (20, .aload 0, 0), (21, .iload 2, 0), (22, .multianewarray 41 178, 0), (25, .aload 0, 0), (26, .iload 3, 0), (27, .multianewarray 41 178, 0), (30, .aload 0, 0), (31, .iload 4, 0), (33, .multianewarray 41 178, 0), (36, .aload 0, 0), (37, .iload 5, 0), (39, .multianewarray 41 178, 0), (42, .aload 0, 0), (43, .getfield 1008, 0), (46, .ireturn, 0)]
noncomputable def F_C_feed (x1 : Int32) (x2 : Int32) (x3 : Int32) (x4 : Int32) (x5 : Int32) (s : Mem) : Option (Int32 × Mem) :=
  if ((s 0 8) + 20) ≤ 400 then
    (F_C_putBytes x1 s).bind fun z1 =>
    (F_C_putBytes x2 z1.2).bind fun z2 =>
    (F_C_putBytes x3 z2.2).bind fun z3 =>
    (F_C_putBytes x4 z3.2).bind fun z4 =>
    (F_C_putBytes x5 z4.2).bind fun z5 =>
    some ((z5.2 0 8), z5.2)
  else
  some ((-1), s)
noncomputable def A_C_feed (av : List Value) (s : Mem) : Option (Int32 × Mem) := match av with
  | [.ref a0, .int a1, .int a2, .int a3, .int a4, .int a5] => cbr (Nat.beq a0 0) (F_C_feed a1 a2 a3 a4 a5 s) none
  | _ => none
noncomputable def C_C_feed (k : Nat) (av : List Value) (s : Mem) : Option (Int32 × Mem) := cbr (Nat.beq k 41) (A_C_putBytes av s) (none)
set_option maxRecDepth 100000 in
theorem e_C_feed (x1 : Int32) (x2 : Int32) (x3 : Int32) (x4 : Int32) (x5 : Int32) (s : Mem) : F_C_feed x1 x2 x3 x4 x5 s = xs C_C_feed (fun k ls s => none) 0 (fun _ => 0) K_C_feed 700 K_C_feed [some (.ref 0), some (.int x1), some (.int x2), some (.int x3), some (.int x4), some (.int x5)] [] s := rfl
def K_C_end : MC := [(0, .iload 1, 0), (1, .lconst 0, 0), (2, .aload 0, 0), (3, .getfield 1008, 0), (6, .invokeinterface 2 3, 0), (9, .ifCond .ne 8, 0), (12, .lconst 0, 0), (13, .lreturn, 0), (14, .aload 0, 0), (15, .iload 1, 0), (16, .putfield 1008, 0), (19, .lconst 1, 0), (20, .lreturn, 0)]
noncomputable def F_C_end (x1 : Int32) (s : Mem) : Option (Int32 × Mem) :=
  (F_C_within x1 0 (s 0 8) s).bind fun z1 =>
  if z1.1 = 0 then
    some (0, z1.2)
  else
  let s2 : Mem := mw z1.2 0 8 x1
  some (1, s2)
noncomputable def A_C_end (av : List Value) (s : Mem) : Option (Int32 × Mem) := match av with
  | [.ref a0, .int a1] => cbr (Nat.beq a0 0) (F_C_end a1 s) none
  | _ => none
noncomputable def C_C_end (k : Nat) (av : List Value) (s : Mem) : Option (Int32 × Mem) := cbr (Nat.beq k 2) (A_C_within av s) (none)
set_option maxRecDepth 100000 in
theorem e_C_end (x1 : Int32) (s : Mem) : F_C_end x1 s = xs C_C_end (fun k ls s => none) 0 (fun _ => 0) K_C_end 700 K_C_end [some (.ref 0), some (.int x1)] [] s := rfl
def K_P_isLetter : MC := [(0, .iload 0, 0), (1, .iconst 0, 97), (3, .iconst 0, 122), (5, .invokeinterface 2 3, 0), (8, .ifCond .ne 10, 0), (11, .iload 0, 0), (12, .iconst 0, 65), (14, .iconst 0, 90), (16, .invokeinterface 2 3, 0), (19, .ifCond .eq 12, 0), (22, .lconst 1, 0), (23, .goto 13, 0), (26, .lconst 0, 0), (27, .lreturn, 0)]
noncomputable def F_P_isLetter (x0 : Int32) (s : Mem) : Option (Int32 × Mem) :=
  (F_C_within x0 97 122 s).bind fun z1 =>
  if z1.1 = 0 then
    (F_C_within x0 65 90 z1.2).bind fun z2 =>
    if z2.1 = 0 then
      some (0, z2.2)
    else
    some (1, z2.2)
  else
  some (1, z1.2)
noncomputable def A_P_isLetter (av : List Value) (s : Mem) : Option (Int32 × Mem) := match av with
  | [.int a0] => F_P_isLetter a0 s
  | _ => none
noncomputable def C_P_isLetter (k : Nat) (av : List Value) (s : Mem) : Option (Int32 × Mem) := cbr (Nat.beq k 2) (A_C_within av s) (none)
set_option maxRecDepth 100000 in
theorem e_P_isLetter (x0 : Int32) (s : Mem) : F_P_isLetter x0 s = xs C_P_isLetter (fun k ls s => none) 0 (fun _ => 0) K_P_isLetter 700 K_P_isLetter [some (.int x0)] [] s := rfl
