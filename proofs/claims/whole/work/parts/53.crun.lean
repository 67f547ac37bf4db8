/-! ===== constructors: links, and the engine ===== -/
def cnT : List (Nat × Nat × Nat) := [(4, 9, 1), (5, 21, 2), (5, 28, 3), (6, 7, 1), (6, 16, 0), (6, 23, 2), (6, 30, 3), (6, 43, 9), (9, 7, 8), (10, 9, 6), (10, 19, 1), (10, 32, 5), (10, 39, 4), (10, 46, 7)]
def csT : List (Nat × Nat × Nat × Nat) := [(0, 3, 0, 0), (1, 5, 0, 0), (2, 3, 0, 0), (3, 1, 0, 0), (4, 3, 0, 0), (4, 11, 1, 1), (5, 3, 0, 0), (5, 23, 1, 2), (5, 30, 1, 3), (6, 1, 0, 0), (6, 9, 1, 1), (6, 18, 1, 0), (6, 25, 1, 2), (6, 32, 1, 3), (6, 45, 1, 9), (7, 3, 0, 0), (8, 3, 0, 0), (8, 9, 3, 0), (9, 1, 0, 0), (9, 9, 2, 8), (10, 3, 0, 0), (10, 11, 1, 6), (10, 34, 1, 5), (10, 41, 1, 4), (10, 48, 1, 7), (10, 53, 1, 1), (11, 1, 0, 0)]
def ctT : List MI := [((⟨"StairRegiment$Book", "<init>", "()V"⟩ : MethodName), prog_2_method_1_code, 1, none, 0, 0),
  ((⟨"StairRegiment$House", "<init>", "()V"⟩ : MethodName), prog_3_method_1_code, 1, none, 0, 0),
  ((⟨"StairRegiment$Law", "<init>", "()V"⟩ : MethodName), prog_4_method_1_code, 1, none, 0, 0),
  ((⟨"StairRegiment$Lines", "<init>", "()V"⟩ : MethodName), prog_5_method_1_code, 1, none, 0, 0),
  ((⟨"StairRegiment$Musing", "<init>", "()V"⟩ : MethodName), prog_6_method_1_code, 1, none, 0, 0),
  ((⟨"StairRegiment$Parser", "<init>", "()V"⟩ : MethodName), prog_7_method_1_code, 1, none, 0, 0),
  ((⟨"StairRegiment$Regiment", "<init>", "()V"⟩ : MethodName), prog_8_method_1_code, 1, none, 0, 0),
  ((⟨"StairRegiment$Riddles", "<init>", "()V"⟩ : MethodName), prog_9_method_1_code, 1, none, 0, 0),
  ((⟨"StairRegiment$Row", "<init>", "(I)V"⟩ : MethodName), prog_10_method_1_code, 2, none, 1, 0),
  ((⟨"StairRegiment$Told", "<init>", "()V"⟩ : MethodName), prog_11_method_1_code, 1, none, 0, 0),
  ((⟨"StairRegiment", "<init>", "()V"⟩ : MethodName), prog_1_method_1_code, 2, none, 0, 0),
  ((⟨"StairRegimentModel", "<init>", "()V"⟩ : MethodName), prog_13_method_1_code, 1, none, 0, 0)]
def ctab (k : Nat) : MI := nth ((⟨"StairRegiment$Book", "<init>", "()V"⟩ : MethodName), prog_2_method_1_code, 1, none, 0, 0) ctT k
set_option maxRecDepth 1000000 in
theorem cnT_ok : ∀ q ∈ cnT, Cond.classLink (cR q.1) q.2.1 (cR q.2.2) ∈ tables_1 ∧ q.2.2 < 12 := by decide +kernel
set_option maxRecDepth 1000000 in
theorem cnI_ok : ∀ k, k < 12 → Cond.instantiable (cR k) (cN k) ∈ tables_1 ∧ Cond.initialized (cR k) ∈ tables_1 := by decide +kernel
set_option maxRecDepth 1000000 in
theorem csT_ok : ∀ q ∈ csT, (q.2.2.1 = 0 → Cond.methodLink (cR q.1) q.2.1 Lib.objectInit ∈ tables_1) ∧ (q.2.2.1 = 1 → (cR q.1, q.2.1, (ctab q.2.2.2).1) ∈ nestL) ∧ (q.2.2.1 = 2 → Cond.methodLink (cR q.1) q.2.1 (ctab q.2.2.2).1 ∈ tables_1) ∧ (q.2.2.1 = 3 → Cond.methodLink (cR q.1) q.2.1 Lib.Math.max.name ∈ tables_1) ∧ q.2.2.1 ≤ 3 ∧ q.2.2.2 < 12 := by decide +kernel
theorem ct_ok0 : cOK (ctab 0) := ⟨gT_of (in_t1 (List.mem_of_getElem? (i := 80) rfl)) rfl, gT_of (in_t1 (List.mem_of_getElem? (i := 4) rfl)) rfl, by decide +kernel, ⟨by decide +kernel, by decide +kernel⟩, by decide +kernel, gT_of (in_t1 (List.mem_of_getElem? (i := 79) rfl)) rfl, rfl, by decide +kernel⟩
theorem ct_ok1 : cOK (ctab 1) := ⟨gT_of (in_t1 (List.mem_of_getElem? (i := 39) rfl)) rfl, gT_of (in_t1 (List.mem_of_getElem? (i := 3) rfl)) rfl, by decide +kernel, ⟨by decide +kernel, by decide +kernel⟩, by decide +kernel, gT_of (in_t1 (List.mem_of_getElem? (i := 38) rfl)) rfl, rfl, by decide +kernel⟩
theorem ct_ok2 : cOK (ctab 2) := ⟨gT_of (in_t1 (List.mem_of_getElem? (i := 94) rfl)) rfl, gT_of (in_t1 (List.mem_of_getElem? (i := 5) rfl)) rfl, by decide +kernel, ⟨by decide +kernel, by decide +kernel⟩, by decide +kernel, gT_of (in_t1 (List.mem_of_getElem? (i := 93) rfl)) rfl, rfl, by decide +kernel⟩
theorem ct_ok3 : cOK (ctab 3) := ⟨gT_of (in_t1 (List.mem_of_getElem? (i := 129) rfl)) rfl, gT_of (in_t1 (List.mem_of_getElem? (i := 6) rfl)) rfl, by decide +kernel, ⟨by decide +kernel, by decide +kernel⟩, by decide +kernel, gT_of (in_t1 (List.mem_of_getElem? (i := 128) rfl)) rfl, rfl, by decide +kernel⟩
theorem ct_ok4 : cOK (ctab 4) := ⟨gT_of (in_t2 (List.mem_of_getElem? (i := 50) rfl)) rfl, gT_of (in_t1 (List.mem_of_getElem? (i := 11) rfl)) rfl, by decide +kernel, ⟨by decide +kernel, by decide +kernel⟩, by decide +kernel, gT_of (in_t2 (List.mem_of_getElem? (i := 49) rfl)) rfl, rfl, by decide +kernel⟩
theorem ct_ok5 : cOK (ctab 5) := ⟨gT_of (in_t2 (List.mem_of_getElem? (i := 5) rfl)) rfl, gT_of (in_t1 (List.mem_of_getElem? (i := 10) rfl)) rfl, by decide +kernel, ⟨by decide +kernel, by decide +kernel⟩, by decide +kernel, gT_of (in_t2 (List.mem_of_getElem? (i := 4) rfl)) rfl, rfl, by decide +kernel⟩
theorem ct_ok6 : cOK (ctab 6) := ⟨gT_of (in_t1 (List.mem_of_getElem? (i := 33) rfl)) rfl, gT_of (in_t1 (List.mem_of_getElem? (i := 2) rfl)) rfl, by decide +kernel, ⟨by decide +kernel, by decide +kernel⟩, by decide +kernel, gT_of (in_t1 (List.mem_of_getElem? (i := 32) rfl)) rfl, rfl, by decide +kernel⟩
theorem ct_ok7 : cOK (ctab 7) := ⟨gT_of (in_t2 (List.mem_of_getElem? (i := 83) rfl)) rfl, gT_of (in_t1 (List.mem_of_getElem? (i := 12) rfl)) rfl, by decide +kernel, ⟨by decide +kernel, by decide +kernel⟩, by decide +kernel, gT_of (in_t2 (List.mem_of_getElem? (i := 82) rfl)) rfl, rfl, by decide +kernel⟩
theorem ct_ok8 : cOK (ctab 8) := ⟨gT_of (in_t1 (List.mem_of_getElem? (i := 152) rfl)) rfl, gT_of (in_t1 (List.mem_of_getElem? (i := 8) rfl)) rfl, by decide +kernel, ⟨by decide +kernel, by decide +kernel⟩, by decide +kernel, gT_of (in_t1 (List.mem_of_getElem? (i := 151) rfl)) rfl, rfl, by decide +kernel⟩
theorem ct_ok9 : cOK (ctab 9) := ⟨gT_of (in_t1 (List.mem_of_getElem? (i := 146) rfl)) rfl, gT_of (in_t1 (List.mem_of_getElem? (i := 7) rfl)) rfl, by decide +kernel, ⟨by decide +kernel, by decide +kernel⟩, by decide +kernel, gT_of (in_t1 (List.mem_of_getElem? (i := 145) rfl)) rfl, rfl, by decide +kernel⟩
theorem ct_ok10 : cOK (ctab 10) := ⟨gT_of (in_t1 (List.mem_of_getElem? (i := 25) rfl)) rfl, gT_of (in_t1 (List.mem_of_getElem? (i := 1) rfl)) rfl, by decide +kernel, ⟨by decide +kernel, by decide +kernel⟩, by decide +kernel, gT_of (in_t1 (List.mem_of_getElem? (i := 24) rfl)) rfl, rfl, by decide +kernel⟩
theorem ct_ok11 : cOK (ctab 11) := ⟨gT_of (in_t5 (List.mem_of_getElem? (i := 238) rfl)) rfl, gT_of (in_t1 (List.mem_of_getElem? (i := 13) rfl)) rfl, by decide +kernel, ⟨by decide +kernel, by decide +kernel⟩, by decide +kernel, gT_of (in_t5 (List.mem_of_getElem? (i := 237) rfl)) rfl, rfl, by decide +kernel⟩
theorem ct_ok : ∀ k, k < 12 → cOK (ctab k)
  | 0, _ => ct_ok0
  | 1, _ => ct_ok1
  | 2, _ => ct_ok2
  | 3, _ => ct_ok3
  | 4, _ => ct_ok4
  | 5, _ => ct_ok5
  | 6, _ => ct_ok6
  | 7, _ => ct_ok7
  | 8, _ => ct_ok8
  | 9, _ => ct_ok9
  | 10, _ => ct_ok10
  | 11, _ => ct_ok11
  | n + 12, h => absurd h (by omega)

/-! ===== a constructor's run, computed ===== -/
def cnF (own ix : Nat) : Option Nat := (cnT.find? fun q => Nat.beq q.1 own && Nat.beq q.2.1 ix).map fun q => q.2.2
def flF (own ix : Nat) : Option Nat := (flTc.find? fun q => Nat.beq q.1 own && Nat.beq q.2.1 ix).map fun q => q.2.2.1
def csF (own ix : Nat) : Option (Nat × Nat) := (csT.find? fun q => Nat.beq q.1 own && Nat.beq q.2.1 ix).map fun q => q.2.2
def xc (Cc : Nat → List Value → Option (List CE)) (cc : ByteArray) (own nL w0 mc ms : Nat) : Nat → Nat → List (Option Value) → List Value → List CE → Option (List CE)
  | 0, _, _, _, _ => none
  | n + 1, pc, ls, st, Z => match decode cc pc with
    | .ok (.return_, 1) => match st with
      | [] => some Z
      | _ => none
    | .ok (.iconst v, 1) => xc Cc cc own nL w0 mc ms n (pc + 1) ls (.int (Int32.ofInt v) :: st) Z
    | .ok (.bipush v, 2) => xc Cc cc own nL w0 mc ms n (pc + 2) ls (.int (Int8.ofInt v).toInt32 :: st) Z
    | .ok (.sipush v, 3) => xc Cc cc own nL w0 mc ms n (pc + 3) ls (.int (Int16.ofInt v).toInt32 :: st) Z
    | .ok (.ldc ix, 2) => if oKn own ix 1234567 then xc Cc cc own nL w0 mc ms n (pc + 2) ls (.int 1234567 :: st) Z else none
    | .ok (.aload_n f, 1) => match lk ls f.val with
      | some (.ref b) => xc Cc cc own nL w0 mc ms n (pc + 1) ls (.ref b :: st) Z
      | _ => none
    | .ok (.iload_n f, 1) => match lk ls f.val with
      | some (.int b) => xc Cc cc own nL w0 mc ms n (pc + 1) ls (.int b :: st) Z
      | _ => none
    | .ok (.istore_n f, 1) => match st with
      | .int x :: t => if Nat.ble (f.val + 1) nL then xc Cc cc own nL w0 mc ms n (pc + 1) (lset ls f.val (.int x)) t Z else none
      | _ => none
    | .ok (.iinc i v, 3) => match lk ls i with
      | some (.int x) => if Nat.ble (i + 1) nL then xc Cc cc own nL w0 mc ms n (pc + 3) (lset ls i (.int (x + Int32.ofInt v))) st Z else none
      | _ => none
    | .ok (.dup, 1) => match st with
      | v :: t => if c1 v then xc Cc cc own nL w0 mc ms n (pc + 1) ls (v :: v :: t) Z else none
      | _ => none
    | .ok (.goto off, 3) => if decide (0 ≤ (pc : Int) + off) then xc Cc cc own nL w0 mc ms n ((pc : Int) + off).toNat ls st Z else none
    | .ok (.if_icmp .ge off, 3) => match st with
      | .int y :: .int x :: t => if decide (0 ≤ (pc : Int) + off) then (if y ≤ x then xc Cc cc own nL w0 mc ms n ((pc : Int) + off).toNat ls t Z else xc Cc cc own nL w0 mc ms n (pc + 3) ls t Z) else none
      | _ => none
    | .ok (.new ix, 3) => match cnF own ix with
      | some ci => if gd Z ls st && Nat.ble (Z.length - w0 + 1) mc && Nat.ble (slS w0 Z + cN ci) ms then xc Cc cc own nL w0 mc ms n (pc + 3) ls (.ref Z.length :: st) (Z ++ [.inr (.inr (ci, dfl ci))]) else none
      | none => none
    | .ok (.newarray .int, 2) => match st with
      | .int k :: t => if gd Z ls t && decide (¬ k < 0) && Nat.ble k.toNatClampNeg 100000 && Nat.ble (Z.length - w0 + 1) mc && Nat.ble (slS w0 Z + k.toNatClampNeg) ms then xc Cc cc own nL w0 mc ms n (pc + 2) ls (.ref Z.length :: t) (Z ++ [.inl (k.toNatClampNeg, [])]) else none
      | _ => none
    | .ok (.anewarray ix, 3) => match st with
      | .int k :: t => if Nat.beq own 10 && Nat.beq ix 19 && gd Z ls t && decide (¬ k < 0) && Nat.ble k.toNatClampNeg 100000 && Nat.ble (Z.length - w0 + 1) mc && Nat.ble (slS w0 Z + k.toNatClampNeg) ms then xc Cc cc own nL w0 mc ms n (pc + 3) ls (.ref Z.length :: t) (Z ++ [.inr (.inl (k.toNatClampNeg, List.replicate k.toNatClampNeg none))]) else none
      | _ => none
    | .ok (.arraylength, 1) => match st with
      | .ref b :: t => match Z[b]? with
        | some (.inr (.inl q)) => xc Cc cc own nL w0 mc ms n (pc + 1) ls (.int (nI q.1) :: t) Z
        | _ => none
      | _ => none
    | .ok (.putfield ix, 3) => match st, flF own ix with
      | v :: .ref b :: t, some w => match Z[b]? with
        | some (.inr (.inr q)) => if Nat.beq q.1 (w / 100) && Nat.ble (w % 100 + 1) q.2.length && okP (w / 100) (w % 100) v && Nat.beq (w / 100) own then xc Cc cc own nL w0 mc ms n (pc + 3) ls t (Z.set b (.inr (.inr (w / 100, q.2.set (w % 100) v)))) else none
        | _ => none
      | _, _ => none
    | .ok (.getfield ix, 3) => match st, flF own ix with
      | .ref b :: t, some w => match Z[b]? with
        | some (.inr (.inr q)) => match q.2[w % 100]? with
          | some (.ref x) => if Nat.beq q.1 (w / 100) then xc Cc cc own nL w0 mc ms n (pc + 3) ls (.ref x :: t) Z else none
          | _ => none
        | _ => none
      | _, _ => none
    | .ok (.iastore, 1) => match st with
      | .int v :: .int i :: .ref b :: t => match Z[b]? with
        | some (.inl q) => if decide (¬ (i < 0 ∨ q.1 ≤ i.toNatClampNeg)) then xc Cc cc own nL w0 mc ms n (pc + 1) ls t (Z.set b (.inl (q.1, (i.toNatClampNeg, v) :: q.2))) else none
        | _ => none
      | _ => none
    | .ok (.aastore, 1) => match st with
      | .ref x :: .int i :: .ref b :: t => match Z[b]?, Z[x]? with
        | some (.inr (.inl q)), some (.inr (.inr r)) => if Nat.beq r.1 1 && decide (¬ (i < 0 ∨ q.1 ≤ i.toNatClampNeg)) && Nat.ble (i.toNatClampNeg + 1) q.2.length then xc Cc cc own nL w0 mc ms n (pc + 1) ls t (Z.set b (.inr (.inl (q.1, q.2.set i.toNatClampNeg (some x))))) else none
        | _, _ => none
      | _ => none
    | .ok (.invokestatic ix, 3) => match st, csF own ix with
      | .int y :: .int x :: t, some (3, _) => if ckr t && Nat.ble (Z.length - w0) mc && Nat.ble (slS w0 Z) ms then xc Cc cc own nL w0 mc ms n (pc + 3) ls (.int (if x < y then y else x) :: t) Z else none
      | _, _ => none
    | .ok (.invokespecial ix, 3) => match csF own ix with
      | some (0, _) => match st with
        | .ref b :: t => if ckr t then xc Cc cc own nL w0 mc ms n (pc + 3) ls t Z else none
        | _ => none
      | some (kn, ci) => match tk (ctab ci).2.2.2.2.1 st [] with
        | some (av, .ref k :: t) => match Cc ci av, Z[k]? with
          | some (x :: U), some (.inr (.inr q)) => if Nat.ble kn 2 && Nat.beq q.1 ci && decide (q.2 = dfl ci) && Nat.beq (sl x) (cN ci) && gd Z ls t && ckr t && Nat.ble (Z.length - w0 + U.length) mc && Nat.ble (slS w0 Z + slS 1 (x :: U)) ms then xc Cc cc own nL w0 mc ms n (pc + 3) ls t (jn Z k (x :: U)) else none
          | _, _ => none
        | _ => none
      | none => none
    | _ => none

theorem find_t {α : Type} {l : List (Nat × Nat × α)} {own ix : Nat} {a : α} (h : (l.find? fun q => Nat.beq q.1 own && Nat.beq q.2.1 ix).map (fun q => q.2.2) = some a) : (own, ix, a) ∈ l := by
  cases hq : l.find? fun q => Nat.beq q.1 own && Nat.beq q.2.1 ix with
  | none => rw [hq] at h; cases h
  | some q =>
    rw [hq] at h
    have h1 := List.find?_some hq
    have h2 := List.mem_of_find?_eq_some hq
    simp only [Bool.and_eq_true] at h1
    obtain ⟨a1, a2, a3⟩ := q
    simp only [Option.map_some, Option.some.injEq] at h
    have e1 := beq_t h1.1
    have e2 := beq_t h1.2
    simp only at e1 e2
    rw [← e1, ← e2, ← h]
    exact h2
theorem cnF_t {own ix ci : Nat} (h : cnF own ix = some ci) : Cond.classLink (cR own) ix (cR ci) ∈ gT ∧ ci < 12 ∧ Cond.instantiable (cR ci) (cN ci) ∈ gT ∧ Cond.initialized (cR ci) ∈ gT := by
  have h1 := cnT_ok _ (find_t h)
  have h2 := cnI_ok ci h1.2
  exact ⟨gT_of (in_T h1.1) rfl, h1.2, gT_of (in_T h2.1) rfl, gT_of (in_T h2.2) rfl⟩
theorem flF_t {own ix w : Nat} (h : flF own ix = some w) : ∃ pos, (own, ix, w, pos) ∈ flTc := by
  unfold flF at h
  cases hq : flTc.find? fun q => Nat.beq q.1 own && Nat.beq q.2.1 ix with
  | none => rw [hq] at h; cases h
  | some q =>
    rw [hq] at h
    have h0 : (flTc.find? fun q => Nat.beq q.1 own && Nat.beq q.2.1 ix).map (fun q => q.2.2) = some q.2.2 := by rw [hq]; rfl
    have h1 := find_t h0
    obtain ⟨a1, a2, a3, a4⟩ := q
    simp only [Option.map_some, Option.some.injEq] at h
    subst h
    exact ⟨a4, h1⟩
theorem csF_t {own ix : Nat} {a : Nat × Nat} (h : csF own ix = some a) : (a.1 = 0 → Cond.methodLink (cR own) ix Lib.objectInit ∈ gT) ∧ (a.1 = 1 → (cR own, ix, (ctab a.2).1) ∈ nestL) ∧ (a.1 = 2 → Cond.methodLink (cR own) ix (ctab a.2).1 ∈ gT) ∧ (a.1 = 3 → Cond.methodLink (cR own) ix Lib.Math.max.name ∈ gT) ∧ a.1 ≤ 3 ∧ a.2 < 12 := by
  have h1 := csT_ok _ (find_t h)
  exact ⟨fun q => gT_of (in_T (h1.1 q)) rfl, h1.2.1, fun q => gT_of (in_T (h1.2.2.1 q)) rfl, fun q => gT_of (in_T (h1.2.2.2.1 q)) rfl, h1.2.2.2.2.1, h1.2.2.2.2.2⟩
