/-! ===== the engine: memory, pre-decoded code, its run ===== -/
abbrev Mem : Type := Nat → Nat → Int32
abbrev MC : Type := List (Nat × Instr × Int32)
abbrev MI : Type := MethodName × ByteArray × Nat × Option FieldType × Nat × Nat
def mw (σ : Mem) (c k : Nat) (v : Int32) : Mem := fun a => if a = c then (fun b => if b = k then v else σ c b) else σ a
def ld (σ : Mem) (c : Nat) (i : Int32) : Option Int32 := if kd c = 1 ∧ ¬ (i < 0 ∨ ln c ≤ i.toNatClampNeg) then some (σ c i.toNatClampNeg) else none
def sd (σ : Mem) (c : Nat) (i v : Int32) : Option Mem := if kd c = 1 ∧ ¬ (i < 0 ∨ ln c ≤ i.toNatClampNeg) then some (mw σ c i.toNatClampNeg v) else none
def cpy (σ : Mem) (s : Nat) (sp : Int32) (d : Nat) (dp n : Int32) : Option Mem := if kd s = 1 ∧ kd d = 1 ∧ ¬ sp < 0 ∧ ¬ dp < 0 ∧ ¬ n < 0 ∧ sp.toNatClampNeg + n.toNatClampNeg ≤ ln s ∧ dp.toNatClampNeg + n.toNatClampNeg ≤ ln d then some (fun a => if a = d then va_cpy (σ s) (σ d) sp.toNatClampNeg dp.toNatClampNeg n.toNatClampNeg else σ a) else none
def alr (c : Nat) (i : Int32) : Option Nat := if kd c = 2 ∧ ¬ (i < 0 ∨ ln c ≤ i.toNatClampNeg) then some (rf c i.toNatClampNeg) else none
/-- .retAddr k stands for a known truth value -/
abbrev kI (k : Nat) : Int32 := match k with
  | 0 => 0
  | _ + 1 => 1
abbrev gi (v : Value) : Option Int32 := match v with
  | .int x => some x
  | .retAddr k => some (kI k)
  | _ => none
abbrev nrm (v : Value) : Value := match v with
  | .retAddr k => .int (kI k)
  | v => v
def nrmL : List (Option Value) → List (Option Value)
  | [] => []
  | a :: l => (match a with
    | some v => some (nrm v)
    | none => none) :: nrmL l
def nrmA : List Value → List Value
  | [] => []
  | v :: l => nrm v :: nrmA l
def lk : List (Option Value) → Nat → Option Value
  | [], _ => none
  | a :: _, 0 => a
  | _ :: l, n + 1 => lk l n
def lset : List (Option Value) → Nat → Value → List (Option Value)
  | [], _, _ => []
  | _ :: l, 0, v => some v :: l
  | a :: l, n + 1, v => a :: lset l n v
def c1 : Value → Bool
  | .int _ => true
  | .ref _ => true
  | .null => true
  | .retAddr _ => true
  | _ => false
def tk : Nat → List Value → List Value → Option (List Value × List Value)
  | 0, st, acc => some (acc, st)
  | n + 1, v :: st, acc => tk n st (v :: acc)
  | _ + 1, [], _ => none
def ckr (st : List Value) : Bool := Nat.ble st.length 8 && st.all c1
/-- the receiver of a call is of the class that the call names (g: that class's number and 1; 0: a static method) -/
def rcv (g : Nat) (av : List Value) : Bool := match g with
  | 0 => true
  | g + 1 => match av with
    | .ref c :: _ => Nat.beq (kd c) (g + 3)
    | _ => false
/-- a branch on a test that is closed wherever it is used -/
abbrev cbr {α : Type} (b : Bool) (x y : α) : α := match b with
  | true => x
  | false => y
abbrev cdk (cd : ClassFile.Cond) (k : Nat) : Bool := match cd with
  | .eq => Nat.beq k 0
  | .ne => !(Nat.beq k 0)
  | .lt => false
  | .ge => true
  | .gt => !(Nat.beq k 0)
  | .le => Nat.beq k 0
def sws {α : Type} (f : Int → Option α) (d : Int) (x : Int32) : List (Int × Int) → Option α
  | [] => f d
  | p :: l => if x = Int32.ofInt p.1 then f p.2 else sws f d x l
def xs (Cl : Nat → List Value → Mem → Option (Int32 × Mem)) (K : Nat → List (Option Value) → Mem → Option (Int32 × Mem)) (scL : Nat) (scX : Nat → Int32) (code : MC) : Nat → MC → List (Option Value) → List Value → Mem → Option (Int32 × Mem)
  | 0, _, _, _, _ => none
  | _ + 1, [], _, _, _ => none
  | n + 1, q :: r, ls, st, σ =>
    match q.2.1 with
    | .ret k => (match st with
      | [] => K k (nrmL ls) σ
      | _ => none)
    | .iconst _ => xs Cl K scL scX code n r ls (.int q.2.2 :: st) σ
    | .lconst b => xs Cl K scL scX code n r ls (.retAddr b.val :: st) σ
    | .ldc k => xs Cl K scL scX code n r ls (.ref (1000 + k) :: st) σ
    | .iload i => (match lk ls i with
      | some (.int x) => xs Cl K scL scX code n r ls (.int x :: st) σ
      | some (.retAddr x) => xs Cl K scL scX code n r ls (.retAddr x :: st) σ
      | _ => none)
    | .aload i => (match lk ls i with
      | some (.ref x) => xs Cl K scL scX code n r ls (.ref x :: st) σ
      | _ => none)
    | .istore i => (match st with
      | .int x :: t => xs Cl K scL scX code n r (lset ls i (.int x)) t σ
      | .retAddr x :: t => xs Cl K scL scX code n r (lset ls i (.retAddr x)) t σ
      | _ => none)
    | .astore i => (match st with
      | .ref x :: t => xs Cl K scL scX code n r (lset ls i (.ref x)) t σ
      | _ => none)
    | .iinc i _ => (match lk ls i with
      | some v => (match gi v with
        | some x => xs Cl K scL scX code n r (lset ls i (.int (x + q.2.2))) st σ
        | none => none)
      | _ => none)
    | .iadd => (match st with
      | v :: w :: t => (match gi v, gi w with
        | some y, some x => xs Cl K scL scX code n r ls (.int (x + y) :: t) σ
        | _, _ => none)
      | _ => none)
    | .isub => (match st with
      | v :: w :: t => (match gi v, gi w with
        | some y, some x => xs Cl K scL scX code n r ls (.int (x - y) :: t) σ
        | _, _ => none)
      | _ => none)
    | .imul => (match st with
      | v :: w :: t => (match gi v, gi w with
        | some y, some x => xs Cl K scL scX code n r ls (.int (x * y) :: t) σ
        | _, _ => none)
      | _ => none)
    | .idiv => (match st with
      | v :: w :: t => (match gi v, gi w with
        | some y, some x => if y = 0 then none else xs Cl K scL scX code n r ls (.int (x / y) :: t) σ
        | _, _ => none)
      | _ => none)
    | .ldiv => (match st with
      | v :: w :: t => (match gi v, gi w with
        | some y, some x => cbr (decide (y = 0)) none (xs Cl K scL scX code n r ls (.int (x / y) :: t) σ)
        | _, _ => none)
      | _ => none)
    | .lrem => (match st with
      | v :: w :: t => (match gi v, gi w with
        | some y, some x => cbr (decide (y = 0)) none (xs Cl K scL scX code n r ls (.int (irm x y) :: t) σ)
        | _, _ => none)
      | _ => none)
    | .irem => (match st with
      | v :: w :: t => (match gi v, gi w with
        | some y, some x => if y = 0 then none else xs Cl K scL scX code n r ls (.int (irm x y) :: t) σ
        | _, _ => none)
      | _ => none)
    | .iand => (match st with
      | v :: w :: t => (match gi v, gi w with
        | some y, some x => xs Cl K scL scX code n r ls (.int (x &&& y) :: t) σ
        | _, _ => none)
      | _ => none)
    | .ior => (match st with
      | v :: w :: t => (match gi v, gi w with
        | some y, some x => xs Cl K scL scX code n r ls (.int (x ||| y) :: t) σ
        | _, _ => none)
      | _ => none)
    | .ixor => (match st with
      | v :: w :: t => (match gi v, gi w with
        | some y, some x => xs Cl K scL scX code n r ls (.int (x ^^^ y) :: t) σ
        | _, _ => none)
      | _ => none)
    | .ishl => (match st with
      | v :: w :: t => (match gi v, gi w with
        | some y, some x => xs Cl K scL scX code n r ls (.int (shl x y) :: t) σ
        | _, _ => none)
      | _ => none)
    | .ishr => (match st with
      | v :: w :: t => (match gi v, gi w with
        | some y, some x => xs Cl K scL scX code n r ls (.int (shr x y) :: t) σ
        | _, _ => none)
      | _ => none)
    | .iushr => (match st with
      | v :: w :: t => (match gi v, gi w with
        | some y, some x => xs Cl K scL scX code n r ls (.int (ush x y) :: t) σ
        | _, _ => none)
      | _ => none)
    | .ineg => (match st with
      | v :: t => (match gi v with
        | some x => xs Cl K scL scX code n r ls (.int (-x) :: t) σ
        | none => none)
      | _ => none)
    | .dup => (match st with
      | v :: t => cbr (c1 v) (xs Cl K scL scX code n r ls (v :: v :: t) σ) none
      | _ => none)
    | .dup2 => (match st with
      | v :: w :: t => cbr (c1 v && c1 w) (xs Cl K scL scX code n r ls (v :: w :: v :: w :: t) σ) none
      | _ => none)
    | .pop => (match st with
      | v :: t => cbr (c1 v) (xs Cl K scL scX code n r ls t σ) none
      | _ => none)
    | .goto j => xs Cl K scL scX code n (code.drop j.toNat) ls st σ
    | .ifCond cd j => (match st with
      | .int x :: t => (match cd with
        | .eq => if x = 0 then xs Cl K scL scX code n (code.drop j.toNat) ls t σ else xs Cl K scL scX code n r ls t σ
        | .ne => if x = 0 then xs Cl K scL scX code n r ls t σ else xs Cl K scL scX code n (code.drop j.toNat) ls t σ
        | .lt => if x < 0 then xs Cl K scL scX code n (code.drop j.toNat) ls t σ else xs Cl K scL scX code n r ls t σ
        | .ge => if 0 ≤ x then xs Cl K scL scX code n (code.drop j.toNat) ls t σ else xs Cl K scL scX code n r ls t σ
        | .gt => if 0 < x then xs Cl K scL scX code n (code.drop j.toNat) ls t σ else xs Cl K scL scX code n r ls t σ
        | .le => if x ≤ 0 then xs Cl K scL scX code n (code.drop j.toNat) ls t σ else xs Cl K scL scX code n r ls t σ)
      | .retAddr k :: t => cbr (cdk cd k) (xs Cl K scL scX code n (code.drop j.toNat) ls t σ) (xs Cl K scL scX code n r ls t σ)
      | _ => none)
    | .if_icmp cd j => (match st with
      | v :: w :: t => (match gi v, gi w with
      | some y, some x => (match cd with
        | .eq => if x = y then xs Cl K scL scX code n (code.drop j.toNat) ls t σ else xs Cl K scL scX code n r ls t σ
        | .ne => if x = y then xs Cl K scL scX code n r ls t σ else xs Cl K scL scX code n (code.drop j.toNat) ls t σ
        | .lt => if x < y then xs Cl K scL scX code n (code.drop j.toNat) ls t σ else xs Cl K scL scX code n r ls t σ
        | .ge => if y ≤ x then xs Cl K scL scX code n (code.drop j.toNat) ls t σ else xs Cl K scL scX code n r ls t σ
        | .gt => if y < x then xs Cl K scL scX code n (code.drop j.toNat) ls t σ else xs Cl K scL scX code n r ls t σ
        | .le => if x ≤ y then xs Cl K scL scX code n (code.drop j.toNat) ls t σ else xs Cl K scL scX code n r ls t σ)
      | _, _ => none)
      | _ => none)
    | .ifnull _ => (match st with
      | .ref _ :: t => xs Cl K scL scX code n r ls t σ
      | _ => none)
    | .lookupswitch d ps => (match st with
      | v :: t => (match gi v with
        | some x => sws (fun j => xs Cl K scL scX code n (code.drop j.toNat) ls t σ) d x ps.toList
        | none => none)
      | _ => none)
    | .getfield w => (match st with
      | .ref c :: t => cbr (Nat.beq (kd c) (w / 100 + 3)) (xs Cl K scL scX code n r ls (.int (σ c (w % 100)) :: t) σ) none
      | _ => none)
    | .fload w => (match st with
      | .ref c :: t => bif Nat.beq (kd c) (w / 100 + 3) then xs Cl K scL scX code n r ls (.int (σ c (w % 100)) :: t) σ else none
      | _ => none)
    | .getstatic w => (match st with
      | .ref c :: t => cbr (Nat.beq (kd c) (w / 100 + 3)) (xs Cl K scL scX code n r ls (.ref (rf c (w % 100)) :: t) σ) none
      | _ => none)
    | .dload w => (match st with
      | .ref c :: t => bif Nat.beq (kd c) (w / 100 + 3) then xs Cl K scL scX code n r ls (.ref (rf c (w % 100)) :: t) σ else none
      | _ => none)
    | .putfield w => (match st with
      | u :: .ref c :: t => (match gi u with
        | some v => cbr (Nat.beq (kd c) (w / 100 + 3)) (xs Cl K scL scX code n r ls t (mw σ c (w % 100) v)) none
        | none => none)
      | _ => none)
    | .fstore w => (match st with
      | u :: .ref c :: t => (match gi u with
        | some v => bif Nat.beq (kd c) (w / 100 + 3) then xs Cl K scL scX code n r ls t (mw σ c (w % 100) v) else none
        | none => none)
      | _ => none)
    | .putstatic w => (match st with
      | .int v :: .ref c :: t => cbr (Nat.beq (kd c) (w / 100 + 3)) (if v &&& 1 = v then xs Cl K scL scX code n r ls t (mw σ c (w % 100) v) else none) none
      | .retAddr k :: .ref c :: t => cbr (Nat.beq (kd c) (w / 100 + 3)) (xs Cl K scL scX code n r ls t (mw σ c (w % 100) (kI k))) none
      | _ => none)
    | .iaload => (match st with
      | u :: .ref c :: t => (match gi u with
        | some i => (ld σ c i).bind fun v => xs Cl K scL scX code n r ls (.int v :: t) σ
        | none => none)
      | _ => none)
    | .saload => (match st with
      | u :: .ref c :: t => (match gi u with
        | some i => cbr (Nat.beq c 1000) (if ¬ (i < 0 ∨ scL ≤ i.toNatClampNeg) then xs Cl K scL scX code n r ls (.int (scX i.toNatClampNeg) :: t) σ else none) none
        | none => none)
      | _ => none)
    | .swap => (match st with
      | .ref c :: t => cbr (Nat.beq c 1000) (xs Cl K scL scX code n r ls (.int (nI scL) :: t) σ) none
      | _ => none)
    | .iastore => (match st with
      | u :: w :: .ref c :: t => (match gi u, gi w with
        | some v, some i => (sd σ c i v).bind fun σ' => xs Cl K scL scX code n r ls t σ'
        | _, _ => none)
      | _ => none)
    | .aaload => (match st with
      | u :: .ref c :: t => (match gi u with
        | some i => (alr c i).bind fun h => xs Cl K scL scX code n r ls (.ref h :: t) σ
        | none => none)
      | _ => none)
    | .arraylength => (match st with
      | .ref c :: t => cbr (Nat.beq (kd c) 1 || Nat.beq (kd c) 2) (xs Cl K scL scX code n r ls (.int (nI (ln c)) :: t) σ) none
      | _ => none)
    | .lneg => (match st with
      | .ref c :: t => bif Nat.beq (kd c) 1 || Nat.beq (kd c) 2 then xs Cl K scL scX code n r ls (.int (nI (ln c)) :: t) σ else none
      | _ => none)
    | .invokedynamic _ => (match st with
      | u :: v :: .ref d :: w :: .ref s :: t => (match gi u, gi v, gi w with
        | some m, some dp, some sp => cbr (ckr t) ((cpy σ s sp d dp m).bind fun σ' => xs Cl K scL scX code n r ls t σ') none
        | _, _, _ => none)
      | _ => none)
    | .invokeinterface k w => (match tk (w % 16) st [] with
      | some (av, t) => cbr (ckr t && rcv (w / 16) av) ((Cl k (nrmA av) σ).bind fun z => xs Cl K scL scX code n r ls (.int z.1 :: t) z.2) none
      | none => none)
    | .multianewarray k w => (match tk (w % 16) st [] with
      | some (av, t) => cbr (ckr t && rcv (w / 16) av) ((Cl k (nrmA av) σ).bind fun z => xs Cl K scL scX code n r ls t z.2) none
      | none => none)
    | .lload w => (match tk (w % 16) st [] with
      | some (av, t) => cbr (ckr t) (bif rcv (w / 16 % 64) av then (Cl (w / 1024) (nrmA av) σ).bind fun z => xs Cl K scL scX code n r ls (.int z.1 :: t) z.2 else none) none
      | none => none)
    | .lstore w => (match tk (w % 16) st [] with
      | some (av, t) => cbr (ckr t) (bif rcv (w / 16 % 64) av then (Cl (w / 1024) (nrmA av) σ).bind fun z => xs Cl K scL scX code n r ls t z.2 else none) none
      | none => none)
    | .ireturn => (match st with
      | [u] => (match gi u with
        | some v => some (v, σ)
        | none => none)
      | _ => none)
    | .lreturn => (match st with
      | [.int v] => if v &&& 1 = v then some (v, σ) else none
      | [.retAddr k] => some (kI k, σ)
      | _ => none)
    | .return_ => (match st with
      | [] => some (0, σ)
      | _ => none)
    | _ => none
/-! ===== the two String constants, and what String.length and charAt tell of them ===== -/
def strT (h : Nat) : List Int32 := if h = 1001 then [99, 114, 101, 97, 107, 115, 32, 119, 101, 97, 114, 115, 32, 114, 105, 115, 101, 115, 32, 119, 104, 101, 110, 32, 111, 114, 32, 97, 110, 100, 32, 110, 111, 116, 32, 119, 101, 105, 103, 104, 116, 32, 119, 101, 97, 114, 32, 108, 111, 111, 115, 101, 32, 114, 97, 110, 107, 32, 99, 97, 114, 112, 101, 116, 32, 104, 101, 105, 103, 104, 116, 32, 110, 117, 109, 98, 101, 114, 32, 104, 101, 97, 114, 100, 32, 102, 97, 105, 108, 101, 100, 32, 115, 116, 114, 105, 100, 101, 32, 110, 105, 103, 104, 116, 32] else if h = 1002 then [111, 110, 32, 102, 108, 105, 103, 104, 116, 32, 115, 116, 101, 112, 32, 119, 97, 116, 99, 104, 32, 108, 101, 97, 118, 101, 32, 100, 101, 115, 101, 114, 116, 32, 98, 97, 114, 101, 32, 109, 101, 110, 100, 32, 108, 111, 111, 115, 101, 110, 32, 117, 112, 32, 100, 111, 119, 110, 32, 100, 111, 111, 114, 32] else []
def F_JS_length (h0 : Nat) (s : Mem) : Option (Int32 × Mem) := if h0 = 1001 then some (105, s) else if h0 = 1002 then some (64, s) else none
def F_JS_charAt (h0 : Nat) (x1 : Int32) (s : Mem) : Option (Int32 × Mem) := if ¬ (x1 < 0 ∨ (strT h0).length ≤ x1.toNatClampNeg) then some ((strT h0).getD x1.toNatClampNeg 0, s) else none
def A_JS_length (av : List Value) (s : Mem) : Option (Int32 × Mem) := match av with
  | [.ref a0] => F_JS_length a0 s
  | _ => none
def A_JS_charAt (av : List Value) (s : Mem) : Option (Int32 × Mem) := match av with
  | [.ref a0, .int a1] => F_JS_charAt a0 a1 s
  | _ => none
