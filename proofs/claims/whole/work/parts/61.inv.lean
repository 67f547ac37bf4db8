/-! ===== what counts of a memory: the invariant ===== -/
def relT : List Nat := [2, 0, 1, 1, 1, 1, 1, 1, 1, 1, 1, 1, 1, 0, 0, 1, 1, 1, 1, 1, 1, 1, 1, 1, 1, 1, 1, 1, 1, 1, 1, 1, 1, 1, 1, 1, 1, 0, 1, 1, 1, 1, 1, 1, 1, 1, 1, 1, 1, 0, 0, 1, 1, 1, 1, 1, 1, 1, 1, 1, 1, 1, 1, 1, 1, 1, 1, 1, 1, 1, 1, 1, 1, 0, 1, 1, 0, 0, 0, 0, 0, 0, 0, 0, 0, 0, 0, 0, 0, 0, 0, 0, 0, 0, 0, 0, 0, 0, 0, 0, 0, 0, 0, 0, 0, 1, 1, 1, 1, 1, 1, 1, 1, 1, 1, 1, 1, 1, 1, 1, 1, 1, 1, 3, 1, 1, 0, 1, 1, 1, 1, 1, 1, 16, 16, 16, 16, 400, 400, 0, 48, 80, 32, 0, 0, 0, 1, 1, 1, 0, 0, 0, 0, 1, 1, 0, 0, 1, 0, 1, 0, 0, 1, 1]
/-- 0: nothing of the cell counts, 1: all, 2 and 3: the two objects, else: so many of its first slots -/
def rel (c k : Nat) : Bool := match nth 0 relT c with
  | 0 => false
  | 1 => true
  | 2 => Nat.beq k 2 || Nat.beq k 5 || Nat.beq k 6 || Nat.beq k 8 || Nat.beq k 10 || Nat.beq k 11
  | 3 => Nat.beq k 3 || Nat.beq k 5 || Nat.beq k 6 || Nat.beq k 11 || Nat.beq k 31 || Nat.beq k 32 || Nat.beq k 33 || Nat.beq k 35 || Nat.beq k 37 || Nat.beq k 41 || Nat.beq k 43 || Nat.beq k 46 || Nat.beq k 51 || Nat.beq k 55 || Nat.beq k 57 || Nat.beq k 61 || Nat.beq k 64 || Nat.beq k 70
  | n => Nat.blt k n
def prj (s : Mem) : Mem := fun c k => bif rel c k then s c k else 0
theorem prj_at {s : Mem} {c k : Nat} (h : rel c k = true) : prj s c k = s c k := by
  unfold prj
  rw [h]
  rfl
theorem prj_mw {s : Mem} {c k : Nat} {v : Int32} (h : rel c k = false) : prj (mw s c k v) = prj s := by
  funext a b
  unfold prj
  cases hq : rel a b with
  | false => rfl
  | true =>
    show mw s c k v a b = s a b
    unfold mw
    by_cases h1 : a = c
    · subst h1
      rw [if_pos rfl]
      by_cases h2 : b = k
      · subst h2; rw [h] at hq; cases hq
      · rw [if_neg h2]
    · rw [if_neg h1]
theorem prj_rp {s : Mem} {c : Nat} {f : Nat → Int32} (h : ∀ k, rel c k = true → f k = s c k) : prj (rp s c f) = prj s := by
  funext a b
  unfold prj
  cases hq : rel a b with
  | false => rfl
  | true =>
    show rp s c f a b = s a b
    unfold rp
    by_cases h1 : a = c
    · subst h1
      rw [if_pos rfl]
      exact h b hq
    · rw [if_neg h1]
/-- two memories that are alike wherever it counts -/
def eqR (s' s : Mem) : Prop := prj s' = prj s
theorem eqR_of {s' s : Mem} (h : ∀ c k, rel c k = true → s' c k = s c k) : eqR s' s := by
  funext a b
  unfold prj
  cases hq : rel a b with
  | false => rfl
  | true => exact h a b hq
theorem eqR_at {s' s : Mem} (h : eqR s' s) {c k : Nat} (hr : rel c k = true) : s' c k = s c k := by
  have := congrFun (congrFun h c) k
  rwa [prj_at hr, prj_at hr] at this
/-! the flights: a the class's cells, b the reference's -/
def nF (a : Mem) : Nat := (a 2 2).toNatClampNeg
def sz (a : Mem) (f : Nat) : Nat := (a 4 f).toNatClampNeg
def isS (a : Mem) (f i : Nat) : Prop := f < nF a ∧ i < sz a f
/-- flights, sizes, heights -/
def HS (a b : Mem) : Prop := nF a ≤ 6 ∧ a 2 2 = nI (nF a) ∧ b 123 6 = nI (nF a) ∧ (∀ f, f < nF a → 1 ≤ sz a f ∧ sz a f ≤ 16 ∧ a 4 f = nI (sz a f) ∧ b 127 f = nI (sz a f)) ∧ (∀ f i, isS a f i → ∃ h, 5 ≤ h ∧ h ≤ 40 ∧ a 3 (16 * f + i) = nI h ∧ b 128 (16 * f + i) = nI h)
/-- the men's other traits, salutes, creaks, night, draws -/
def HM (a b : Mem) : Prop := (∀ k, k < 768 → b 124 (5 + k) = a 3 (96 + k)) ∧ (∀ t j, t < 8 → j < 96 → ¬ isS a (j / 16) (j % 16) → a 3 (96 + 96 * t + j) = 0) ∧ (∀ j, j < 96 → (∃ v, v ≤ 9 ∧ a 3 (192 + j) = nI v) ∧ ∃ v, v ≤ 9 ∧ a 3 (288 + j) = nI v) ∧ b 124 4 = a 2 3 ∧ b 124 3 = a 2 4 ∧ b 124 0 = a 2 5 ∧ b 124 1 = a 2 6
def BR (a b : Mem) : Prop := (∃ n, n ≤ 150 ∧ a 5 1 = nI n ∧ b 124 2 = nI n) ∧ ∀ k, k < 600 → b 129 k = a 6 k
/-! the law: what its code makes of facts -/
def cmb (act x y : Int32) : Int32 := if act = 2 then x + y else if act = 3 then x - y else if act = 4 then x * y else if act = 6 then (if x < y then 1 else 0) else if act = 7 then (if x = y then 1 else 0) else if act = 8 then (if y < x then 1 else 0) else if act = 10 then x &&& y else x ||| y
def twoO (op x y : Int32) : Option Int32 := if op = 2 then some (x + y) else if op = 3 then some (x - y) else if op = 4 then some (x * y) else if op = 5 then (if y = 0 then none else some (x / y)) else if op = 6 then some (if x < y then 1 else 0) else if op = 7 then some (if x = y then 1 else 0) else if op = 8 then some (if y < x then 1 else 0) else if op = 10 then some (x * y) else some (if 0 < x + y then 1 else 0)
/-- a step of the class's code -/
def stC (cc fa : Nat → Int32) (i : Nat) (st : List Int32) : Option (List Int32) :=
  if cc i &&& 15 = 0 then (if st.length < 32 then some (shr (cc i) 4 :: st) else none)
  else if cc i &&& 15 = 1 then (if st.length < 32 ∧ 0 ≤ shr (cc i) 4 ∧ shr (cc i) 4 < 11 then some (fa (shr (cc i) 4).toNatClampNeg :: st) else none)
  else if cc i &&& 15 = 9 then (match st with
    | x :: t => some ((1 - x) :: t)
    | [] => none)
  else if cc i &&& 15 = 5 then (match st with
    | x :: t => if 0 < shr (cc i) 4 then some (x / shr (cc i) 4 :: t) else none
    | [] => none)
  else match st with
    | y :: x :: t => some (cmb (cc i &&& 15) x y :: t)
    | _ => none
def exC (cc fa : Nat → Int32) : Nat → Nat → List Int32 → Option (List Int32)
  | 0, _, st => some st
  | n + 1, i, st => (stC cc fa i st).bind fun t => exC cc fa n (i + 1) t
/-- a step of the reference's code -/
def stM (op ar fa : Nat → Int32) (i : Nat) (st : List Int32) : Option (List Int32) :=
  if op i = 0 then (if st.length < 420 then some (ar i :: st) else none)
  else if op i = 1 then (if st.length < 420 ∧ 0 ≤ ar i ∧ ar i < 11 then some (fa (ar i).toNatClampNeg :: st) else none)
  else if op i = 9 then (match st with
    | x :: t => some ((1 - x) :: t)
    | [] => none)
  else match st with
    | y :: x :: t => (twoO (op i) x y).map fun v => v :: t
    | _ => none
def exM (op ar fa : Nat → Int32) : Nat → Nat → List Int32 → Option (List Int32)
  | 0, _, st => some st
  | n + 1, i, st => (stM op ar fa i st).bind fun t => exM op ar fa n (i + 1) t
/-- two pieces of code make the same of all facts -/
def codeEq (cc op ar : Nat → Int32) (p q p' q' : Nat) : Prop := ∀ fa : Nat → Int32, ∃ v, exC cc fa (q - p) p [] = some [v] ∧ exM op ar fa (q' - p') p' [] = some [v]
def lineR (a b : Mem) (l : Nat) : Prop := b 133 l = a 9 l ∧ (a 9 l = 0 ∨ a 9 l = 1 ∨ a 9 l = 2) ∧ ∃ p q r p' q' r' : Nat, a 10 l = nI p ∧ a 11 l = nI q ∧ a 12 l = nI r ∧ p ≤ q ∧ q ≤ r ∧ r ≤ 400 ∧ b 134 l = nI p' ∧ b 135 l = nI q' ∧ b 136 l = nI r' ∧ p' ≤ q' ∧ q' ≤ r' ∧ r' ≤ 400 ∧ codeEq (a 8) (b 137) (b 138) p q p' q' ∧ (q = r ↔ q' = r') ∧ (q < r → codeEq (a 8) (b 137) (b 138) q r q' r')
def LwR (a b : Mem) : Prop := ∃ n, n ≤ 16 ∧ a 7 6 = nI n ∧ b 132 0 = nI n ∧ ∀ l, l < n → lineR a b l
def OrR (a b : Mem) : Prop := ∃ n, n ≤ 16 ∧ a 15 1 = nI n ∧ b 123 33 = nI n ∧ ∀ l, l < n → b 140 (3 * l) = a 16 (5 * l) ∧ ∃ w f i, w ≤ 6 ∧ isS a f i ∧ a 16 (5 * l + 1) = nI f ∧ a 16 (5 * l + 2) = nI i ∧ a 16 (5 * l + 3) = nI w ∧ b 140 (3 * l + 1) = nI w ∧ b 140 (3 * l + 2) = nI (16 * f + i)
def ViR (a b : Mem) : Prop := ∃ n, n ≤ 16 ∧ a 17 1 = nI n ∧ b 123 35 = nI n ∧ ∀ l, l < n → b 141 (5 * l) = a 18 (5 * l) ∧ ∃ f u w st, f < nF a ∧ u ≤ 1 ∧ 1 ≤ w ∧ w ≤ 200 ∧ 1 ≤ st ∧ st ≤ 5 ∧ a 18 (5 * l + 1) = nI f ∧ a 18 (5 * l + 2) = nI u ∧ a 18 (5 * l + 3) = nI w ∧ a 18 (5 * l + 4) = nI st ∧ b 141 (5 * l + 1) = nI f ∧ b 141 (5 * l + 2) = nI u ∧ b 141 (5 * l + 3) = nI w ∧ b 141 (5 * l + 4) = nI st
def DoR (a b : Mem) : Prop := ∃ n, n ≤ 16 ∧ a 19 1 = nI n ∧ b 123 37 = nI n ∧ ∀ l, l < n → ∃ f i g j, isS a f i ∧ isS a g j ∧ f ≠ g ∧ a 20 (5 * l) = nI f ∧ a 20 (5 * l + 1) = nI i ∧ a 20 (5 * l + 2) = nI g ∧ a 20 (5 * l + 3) = nI j ∧ b 142 (2 * l) = nI (16 * f + i) ∧ b 142 (2 * l + 1) = nI (16 * g + j)
/-! what is told -/
def RowR (a b : Mem) (o c len ms mc : Nat) (P : Int32 → Prop) : Prop := ∃ n, n ≤ len ∧ a o 1 = nI n ∧ b 123 ms = nI n ∧ (∀ k, k < len → b mc k = a c k) ∧ ∀ k, k < n → P (a c k)
def inN (lo hi : Nat) (x : Int32) : Prop := ∃ v, lo ≤ v ∧ v ≤ hi ∧ x = nI v
/-- the digits of a number, d of them, are 0 .. d - 1 -/
def isPm (d : Nat) (x : Int32) : Prop := ∃ r, r < 10 ^ d ∧ x = nI r ∧ ∀ v, v < d → ∃ i, i < d ∧ r / 10 ^ i % 10 = v
def TR (a b : Mem) : Prop := RowR a b 22 23 8 43 146 (inN 1 200) ∧ RowR a b 24 25 8 43 147 (inN 1 5) ∧ RowR a b 26 27 7 46 148 (isPm 4) ∧ RowR a b 28 29 12 55 153 (inN 0 15) ∧ RowR a b 30 31 7 57 154 (inN 1 60) ∧ RowR a b 32 33 8 61 157 (inN 0 99) ∧ RowR a b 34 35 10 64 159 (inN 0 9) ∧ (isPm 8 (a 21 7) ∧ b 123 51 = a 21 7 - 1234567) ∧ ∀ k, k < 9 → b 162 k = a 36 k ∧ inN 0 20 (a 36 k)
def RR (a b : Mem) : Prop := HS a b ∧ HM a b ∧ BR a b ∧ LwR a b ∧ OrR a b ∧ ViR a b ∧ DoR a b ∧ TR a b
/-! what is kept: the image -/
def ivo (c k : Nat) : Nat := if c = 124 then k else if c = 123 then (if k = 6 then 773 else if k = 33 then 774 else if k = 35 then 775 else if k = 37 then 776 else if k = 43 then 777 else if k = 46 then 778 else if k = 51 then 779 else if k = 55 then 780 else if k = 57 then 781 else if k = 61 then 782 else if k = 64 then 783 else 3199) else if c = 127 then 784 + k else if c = 128 then 790 + k else if c = 140 then 886 + k else if c = 141 then 934 + k else if c = 142 then 1014 + k else if c = 146 then 1046 + 3 * k else if c = 147 then 1047 + 3 * k else if c = 157 then 1048 + 3 * k else if c = 148 then 1070 + 2 * k else if c = 154 then 1071 + 2 * k else if c = 153 then 1084 + k else if c = 159 then 1096 + k else if c = 162 then 1106 + k else if c = 129 then 1115 + k else if c = 132 then 1715 + k else if c = 133 then 1716 + 4 * k else if c = 134 then 1717 + 4 * k else if c = 135 then 1718 + 4 * k else if c = 136 then 1719 + 4 * k else if c = 137 then 1780 + 2 * k else if c = 138 then 1781 + 2 * k else 3199
def kv (s : Mem) : Mem := fun c k => s (c + 36) k
def iv (s : Mem) : Mem := fun c k => s 163 (ivo c k)
def KR (s : Mem) : Prop := s 123 70 = s 0 2 ∧ (s 0 2 = 0 ∨ (s 0 2 = 1 ∧ RR (kv s) (iv s)))
/-! what was before: the ring of deeds -/
def rgH (s : Mem) (r : Nat) : Nat → Int32 := match r with
  | 0 => s 105
  | 1 => s 108
  | 2 => s 111
  | 3 => s 114
  | 4 => s 117
  | _ => s 120
def rgM (s : Mem) (r : Nat) : Nat → Int32 := match r with
  | 0 => s 106
  | 1 => s 109
  | 2 => s 112
  | 3 => s 115
  | 4 => s 118
  | _ => s 121
def rgS (s : Mem) (r : Nat) : Nat → Int32 := match r with
  | 0 => s 107
  | 1 => s 110
  | 2 => s 113
  | 3 => s 116
  | 4 => s 119
  | _ => s 122
def uc (s : Mem) (r : Nat) : Mem := fun c => if c = 2 then rgH s r else if c = 3 then rgM s r else if c = 4 then rgS s r else s c
def um (s : Mem) (j : Nat) : Mem := fun c => if c = 124 then (fun k => s 125 (773 * j + k)) else s c
def rowU (s : Mem) (r j : Nat) : Prop := rgH s r 2 = s 2 2 ∧ (∀ f, f < 6 → rgS s r f = s 4 f) ∧ (∀ k, k < 96 → rgM s r k = s 3 k) ∧ HM (uc s r) (um s j) ∧ ∃ n, n ≤ 150 ∧ s 74 r = nI n ∧ s 125 (773 * j + 2) = nI n
def UR (s : Mem) : Prop := ∃ u x, u ≤ 6 ∧ x < 6 ∧ s 0 6 = nI u ∧ s 123 3 = nI u ∧ s 0 5 = nI x ∧ ∀ j, j < u → rowU s ((x + 6 - u + j) % 6) j
def wrdT : List Int32 := [32, 99, 114, 101, 97, 107, 115, 32, 119, 101, 97, 114, 115, 32, 114, 105, 115, 101, 115, 32, 119, 104, 101, 110, 32, 111, 114, 32, 97, 110, 100, 32, 110, 111, 116, 32, 119, 101, 105, 103, 104, 116, 32, 119, 101, 97, 114, 32, 108, 111, 111, 115, 101, 32, 114, 97, 110, 107, 32, 99, 97, 114, 112, 101, 116, 32, 104, 101, 105, 103, 104, 116, 32, 110, 117, 109, 98, 101, 114, 32, 104, 101, 97, 114, 100, 32, 102, 97, 105, 108, 101, 100, 32, 115, 116, 114, 105, 100, 101, 32, 110, 105, 103, 104, 116, 32, 111, 110, 32, 102, 108, 105, 103, 104, 116, 32, 115, 116, 101, 112, 32, 119, 97, 116, 99, 104, 32, 108, 101, 97, 118, 101, 32, 100, 101, 115, 101, 114, 116, 32, 98, 97, 114, 101, 32, 109, 101, 110, 100, 32, 108, 111, 111, 115, 101, 110, 32, 117, 112, 32, 100, 111, 119, 110, 32, 100, 111, 111, 114, 32]
def MR (s : Mem) : Prop := (∃ n, n ≤ 400 ∧ s 0 8 = nI n ∧ s 123 11 = nI n ∧ ∀ k, k < n → s 130 k = s 75 k ∧ inN 0 255 (s 75 k)) ∧ s 123 31 = s 0 10 ∧ s 123 32 = s 0 11 ∧ s 123 5 = 0 ∧ s 123 41 = 0 ∧ ∀ k, k < 170 → s 131 k = wrdT.getD k 0
def J (s : Mem) : Prop := RR s s ∧ KR s ∧ UR s ∧ MR s
def Inv (s : Mem) : Prop := J (prj s)
theorem Inv_eq {s' s : Mem} (h : eqR s' s) (hs : Inv s) : Inv s' := by
  unfold Inv
  rw [show prj s' = prj s from h]
  exact hs
theorem prj2 (s : Mem) : prj (prj s) = prj s := by
  funext a b
  unfold prj
  cases hq : rel a b <;> rfl
theorem Inv_t {s : Mem} {v : Int32} (h : Inv s) : Inv (mw s 123 0 v) := Inv_eq (prj_mw rfl) h
