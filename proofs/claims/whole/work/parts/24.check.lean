
/-! ===== the check of pre-decoded code against the bytes ===== -/
def pcO : MC → Nat
  | [] => 0
  | q :: _ => q.1
def oTg (code : MC) (pc : Nat) (j off : Int) : Bool := decide ((pc : Int) + off = ((pcO (code.drop j.toNat) : Nat) : Int))
def oTab (code : MC) (pc : Nat) : Int → List (Int × Int) → List Int → Bool
  | _, [], [] => true
  | lo, q :: ps, off :: offs => decide (q.1 = lo) && oTg code pc q.2 off && oTab code pc (lo + 1) ps offs
  | _, _, _ => false
def oLok (code : MC) (pc : Nat) : List (Int × Int) → List (Int × Int) → Bool
  | [], [] => true
  | q :: ps, w :: ws => decide (q.1 = w.1) && decide (0 ≤ w.1) && decide (w.1 < 1000000) && oTg code pc q.2 w.2 && oLok code pc ps ws
  | _, _ => false
def oLn (r : MC) (pc len n : Nat) : Bool := Nat.beq len n && Nat.beq (pcO r) (pc + n)
def oFl (own ix w : Nat) : Bool := flT.any fun q => Nat.beq q.1 own && Nat.beq q.2.1 ix && Nat.beq q.2.2.1 w
def oMP (own ix k : Nat) : Bool := mlP.any fun q => Nat.beq q.1 own && Nat.beq q.2.1 ix && Nat.beq q.2.2.1 k
def oMN (own ix k : Nat) : Bool := mlN.any fun q => Nat.beq q.1 own && Nat.beq q.2.1 ix && Nat.beq q.2.2 k
def oKn (own ix : Nat) (z : Int32) : Bool := knT.any fun q => Nat.beq q.1 own && Nat.beq q.2.1 ix && decide (q.2.2.1 = z)
def oCall (own k n g : Nat) (rs : Bool) (j : Instr) : Bool := Nat.ble (k + 1) mT.length && Nat.beq n (mtab k).2.2.2.2.1 && (rs == (mtab k).2.2.2.1.isSome) && (match j with
  | .invokestatic ix => Nat.beq (mtab k).2.2.2.2.2 0 && Nat.beq g 0 && (oMP own ix k || oMN own ix k)
  | .invokevirtual ix => !(Nat.beq (mtab k).2.2.2.2.2 0) && oMP own ix k && ((Nat.beq (mtab k).2.2.2.2.2 77 && Nat.beq g 0) || (Nat.ble g 12 && !(Nat.beq g 0) && Nat.beq (mtab k).2.2.2.2.2 g))
  | _ => false)
def okJ (own nl : Nat) (code : MC) (rt : Option FieldType) (pc len : Nat) (r : MC) (z : Int32) (i j : Instr) : Bool := match i with
  | .iconst _ => (match j with
    | .iconst n => oLn r pc len 1 && decide (Int32.ofInt n = z)
    | .bipush n => oLn r pc len 2 && decide ((Int8.ofInt n).toInt32 = z)
    | .sipush n => oLn r pc len 3 && decide ((Int16.ofInt n).toInt32 = z)
    | .ldc x => oLn r pc len 2 && oKn own x z
    | .ldc_w x => oLn r pc len 3 && oKn own x z
    | _ => false)
  | .lconst b => (match j with
    | .iconst n => oLn r pc len 1 && decide (Int32.ofInt n = kI b.val)
    | _ => false)
  | .ldc k => (match j with
    | .ldc x => oLn r pc len 2 && Nat.beq own 5 && ((Nat.beq k 1 && Nat.beq x 82) || (Nat.beq k 2 && Nat.beq x 88))
    | _ => false)
  | .iload a => (match j with
    | .iload_n f => oLn r pc len 1 && Nat.beq f.val a
    | .iload b => oLn r pc len 2 && Nat.beq b a
    | _ => false)
  | .aload a => (match j with
    | .aload_n f => oLn r pc len 1 && Nat.beq f.val a
    | .aload b => oLn r pc len 2 && Nat.beq b a
    | _ => false)
  | .istore a => (match j with
    | .istore_n f => oLn r pc len 1 && Nat.ble (a + 1) nl && Nat.beq f.val a
    | .istore b => oLn r pc len 2 && Nat.ble (a + 1) nl && Nat.beq b a
    | _ => false)
  | .astore a => (match j with
    | .astore_n f => oLn r pc len 1 && Nat.ble (a + 1) nl && Nat.beq f.val a
    | .astore b => oLn r pc len 2 && Nat.ble (a + 1) nl && Nat.beq b a
    | _ => false)
  | .iinc a _ => (match j with
    | .iinc b n => oLn r pc len 3 && Nat.ble (a + 1) nl && Nat.beq b a && decide (Int32.ofInt n = z)
    | _ => false)
  | .ldiv => (match j with
    | .idiv => oLn r pc len 1
    | _ => false)
  | .lrem => (match j with
    | .irem => oLn r pc len 1
    | _ => false)
  | .goto t => (match j with
    | .goto off => Nat.beq len 3 && oTg code pc t off
    | _ => false)
  | .ifCond cd t => (match j with
    | .ifCond cd' off => oLn r pc len 3 && decide (cd = cd') && oTg code pc t off
    | _ => false)
  | .if_icmp cd t => (match j with
    | .if_icmp cd' off => oLn r pc len 3 && decide (cd = cd') && oTg code pc t off
    | _ => false)
  | .ifnull _ => (match j with
    | .ifnull _ => oLn r pc len 3
    | _ => false)
  | .lookupswitch d ps => (match j with
    | .tableswitch df lo hi offs => oTg code pc d df && oTab code pc lo ps.toList offs.toList && decide (0 ≤ lo) && decide (lo < 1000) && decide (hi + 1 = lo + offs.toList.length) && decide (hi < 1000)
    | .lookupswitch df ws => oTg code pc d df && oLok code pc ps.toList ws.toList && (ws.toList.zip (ws.toList.drop 1)).all (fun (a, next) => a.1 < next.1)
    | _ => false)
  | .getfield w => (match j with
    | .getfield ix => oLn r pc len 3 && oFl own ix w && !(Nat.beq (fk (w / 100) (w % 100)) 0)
    | _ => false)
  | .fload w => (match j with
    | .getfield ix => oLn r pc len 3 && oFl own ix w && !(Nat.beq (fk (w / 100) (w % 100)) 0)
    | _ => false)
  | .getstatic w => (match j with
    | .getfield ix => oLn r pc len 3 && oFl own ix w && Nat.beq (fk (w / 100) (w % 100)) 0
    | _ => false)
  | .dload w => (match j with
    | .getfield ix => oLn r pc len 3 && oFl own ix w && Nat.beq (fk (w / 100) (w % 100)) 0
    | _ => false)
  | .putfield w => (match j with
    | .putfield ix => oLn r pc len 3 && oFl own ix w && Nat.beq (fk (w / 100) (w % 100)) 1
    | _ => false)
  | .fstore w => (match j with
    | .putfield ix => oLn r pc len 3 && oFl own ix w && Nat.beq (fk (w / 100) (w % 100)) 1
    | _ => false)
  | .putstatic w => (match j with
    | .putfield ix => oLn r pc len 3 && oFl own ix w && Nat.beq (fk (w / 100) (w % 100)) 2
    | _ => false)
  | .saload => (match j with
    | .iaload => oLn r pc len 1 && Nat.beq own 16
    | _ => false)
  | .swap => (match j with
    | .arraylength => oLn r pc len 1 && Nat.beq own 16
    | _ => false)
  | .lneg => (match j with
    | .arraylength => oLn r pc len 1
    | _ => false)
  | .invokedynamic _ => (match j with
    | .invokestatic ix => oLn r pc len 3 && acT.any fun q => Nat.beq q.1 own && Nat.beq q.2.1 ix
    | _ => false)
  | .invokeinterface k w => oLn r pc len 3 && oCall own k (w % 16) (w / 16) true j
  | .multianewarray k w => oLn r pc len 3 && oCall own k (w % 16) (w / 16) false j
  | .lload w => oLn r pc len 3 && oCall own (w / 1024) (w % 16) (w / 16 % 64) true j
  | .lstore w => oLn r pc len 3 && oCall own (w / 1024) (w % 16) (w / 16 % 64) false j
  | .ireturn => (match j with
    | .ireturn => Nat.beq len 1 && decide (rt = some .int)
    | _ => false)
  | .lreturn => (match j with
    | .ireturn => Nat.beq len 1 && decide (rt = some .boolean)
    | _ => false)
  | .return_ => (match j with
    | .return_ => Nat.beq len 1 && decide (rt = none)
    | _ => false)
  | i => oLn r pc len 1 && decide (i = j)
def okI (own nl : Nat) (bt : ByteArray) (rt : Option FieldType) (kps : List Nat) (code : MC) (q : Nat × Instr × Int32) (r : MC) : Bool := match q.2.1 with
  | .ret k => Nat.beq (pcO r) q.1 && Nat.beq (nth 0 kps k) q.1
  | i => (match decode bt q.1 with
    | .ok (j, len) => okJ own nl code rt q.1 len r q.2.2 i j
    | .error _ => false)
def okC (own nl : Nat) (bt : ByteArray) (rt : Option FieldType) (kps : List Nat) (code : MC) : MC → Bool
  | [] => true
  | q :: r => okI own nl bt rt kps code q r && okC own nl bt rt kps code r
theorem okC_drop {own nl : Nat} {bt : ByteArray} {rt : Option FieldType} {kps : List Nat} {code : MC} : ∀ (r : MC) (n : Nat), okC own nl bt rt kps code r = true → okC own nl bt rt kps code (r.drop n) = true
  | r, 0, h => h
  | [], _ + 1, h => h
  | _ :: r, n + 1, h => okC_drop r n (by simp only [okC, Bool.and_eq_true] at h; exact h.2)
theorem beq_t {a b : Nat} (h : Nat.beq a b = true) : a = b := Nat.eq_of_beq_eq_true h
theorem oLn_t {r : MC} {pc len n : Nat} (h : oLn r pc len n = true) : len = n ∧ pcO r = pc + n := by
  simp only [oLn, Bool.and_eq_true] at h
  exact ⟨beq_t h.1, beq_t h.2⟩
theorem oTg_t {code : MC} {pc : Nat} {j off : Int} (h : oTg code pc j off = true) : (pc : Int) + off = ((pcO (code.drop j.toNat) : Nat) : Int) := of_decide_eq_true h
theorem oFl_t {own ix w : Nat} (h : oFl own ix w = true) : ∃ pos, (own, ix, w, pos) ∈ flT := by
  obtain ⟨q, h1, h2⟩ := List.any_eq_true.mp h
  simp only [Bool.and_eq_true] at h2
  obtain ⟨a, b, c, d⟩ := q
  obtain ⟨⟨e1, e2⟩, e3⟩ := h2
  cases beq_t e1; cases beq_t e2; cases beq_t e3
  exact ⟨d, h1⟩
theorem oKn_t {own ix : Nat} {z : Int32} (h : oKn own ix z = true) : Cond.constant (cR own) ix z ∈ gT := by
  obtain ⟨q, h1, h2⟩ := List.any_eq_true.mp h
  simp only [Bool.and_eq_true, decide_eq_true_eq] at h2
  obtain ⟨a, b, c, d⟩ := q
  obtain ⟨⟨e1, e2⟩, e3⟩ := h2
  cases beq_t e1; cases beq_t e2
  have h3 := knT_ok _ h1
  dsimp only at h3 e3
  subst e3
  exact gT_of (in_T (List.mem_of_getElem? h3)) rfl
theorem oMP_t {own ix k : Nat} (h : oMP own ix k = true) : Cond.methodLink (cR own) ix (mtab k).1 ∈ gT := by
  obtain ⟨q, h1, h2⟩ := List.any_eq_true.mp h
  simp only [Bool.and_eq_true] at h2
  obtain ⟨a, b, c, d⟩ := q
  obtain ⟨⟨e1, e2⟩, e3⟩ := h2
  cases beq_t e1; cases beq_t e2; cases beq_t e3
  exact gT_of (in_T (List.mem_of_getElem? (mlP_ok _ h1))) rfl
theorem oMN_t {own ix k : Nat} (h : oMN own ix k = true) : (cR own, ix, (mtab k).1) ∈ nestL := by
  obtain ⟨q, h1, h2⟩ := List.any_eq_true.mp h
  simp only [Bool.and_eq_true] at h2
  obtain ⟨a, b, c⟩ := q
  obtain ⟨⟨e1, e2⟩, e3⟩ := h2
  cases beq_t e1; cases beq_t e2; cases beq_t e3
  exact mlN_ok _ h1
theorem mT_len : mT.length = 325 := by decide +kernel
theorem sws_tab {α : Type} {f : Int → Option α} {d : Int} {x : Int32} {y : α} {code : MC} {pc : Nat} : ∀ (ps : List (Int × Int)) (lo : Int) (offs : List Int), oTab code pc lo ps offs = true → 0 ≤ lo → lo + offs.length ≤ 1000 → sws f d x ps = some y → (∃ (i : Nat) (off j : Int), offs[i]? = some off ∧ x.toInt = lo + i ∧ f j = some y ∧ oTg code pc j off = true) ∨ ((x.toInt < lo ∨ lo + offs.length ≤ x.toInt) ∧ f d = some y)
  | [], lo, [], _, _, _, h => by
    refine Or.inr ⟨?_, h⟩
    simp only [List.length_nil]
    omega
  | [], _, _ :: _, ho, _, _, _ => by simp [oTab] at ho
  | _ :: _, _, [], ho, _, _, _ => by simp [oTab] at ho
  | q :: ps, lo, off :: offs, ho, h0, h1, h => by
    simp only [oTab, Bool.and_eq_true, decide_eq_true_eq] at ho
    obtain ⟨⟨e1, e2⟩, e3⟩ := ho
    simp only [List.length_cons] at h1
    simp only [sws] at h
    have hx : x = Int32.ofInt q.1 ↔ x.toInt = lo := by
      rw [e1]
      have hb : (Int32.ofInt lo).toInt = lo := Int32.toInt_ofInt_of_le (by omega) (by omega)
      constructor
      · intro h; rw [h]; exact hb
      · intro h; exact Int32.toInt_inj.mp (by rw [h, hb])
    split at h
    · rename_i hq
      exact Or.inl ⟨0, off, q.2, rfl, by rw [hx.mp hq]; simp, h, e2⟩
    · rename_i hq
      have hne : ¬ x.toInt = lo := fun q => hq (hx.mpr q)
      rcases sws_tab ps (lo + 1) offs e3 (by omega) (by omega) h with ⟨i, o, j, g1, g2, g3, g4⟩ | ⟨g1, g2⟩
      · refine Or.inl ⟨i + 1, o, j, by simpa using g1, by omega, g3, g4⟩
      · refine Or.inr ⟨?_, g2⟩
        simp only [List.length_cons]
        omega
theorem sws_lok {α : Type} {f : Int → Option α} {d df : Int} {x : Int32} {y : α} {code : MC} {pc : Nat} (hd : oTg code pc d df = true) : ∀ (ps ws : List (Int × Int)), oLok code pc ps ws = true → sws f d x ps = some y → ∃ j, f j = some y ∧ oTg code pc j (Op.lookupswitch.offset ws df x.toInt) = true
  | [], [], _, h => ⟨d, h, hd⟩
  | [], _ :: _, ho, _ => by simp [oLok] at ho
  | _ :: _, [], ho, _ => by simp [oLok] at ho
  | q :: ps, w :: ws, ho, h => by
    simp only [oLok, Bool.and_eq_true, decide_eq_true_eq] at ho
    obtain ⟨⟨⟨⟨e1, e2⟩, e3⟩, e4⟩, e5⟩ := ho
    obtain ⟨wk, wo⟩ := w
    dsimp only at e1 e2 e3 e4
    simp only [sws] at h
    have hx : x = Int32.ofInt q.1 ↔ x.toInt = wk := by
      rw [e1]
      have hb : (Int32.ofInt wk).toInt = wk := Int32.toInt_ofInt_of_le (by omega) (by omega)
      constructor
      · intro h; rw [h]; exact hb
      · intro h; exact Int32.toInt_inj.mp (by rw [h, hb])
    rw [Op.lookupswitch.offset_cons]
    split at h
    · rename_i hq
      refine ⟨q.2, h, ?_⟩
      rw [if_pos (by first | exact (hx.mp hq) | exact (hx.mp hq).symm | (simp [hx.mp hq]))]
      exact e4
    · rename_i hq
      obtain ⟨j, g1, g2⟩ := sws_lok hd ps ws e5 h
      refine ⟨j, g1, ?_⟩
      rw [if_neg (fun z => hq (hx.mpr (by first | exact z | exact z.symm | simpa using z)))]
      exact g2
theorem Fn {a b c d : Nat} (h : a = c) (h2 : b = d) : a = c ∧ b = d := ⟨h, h2⟩
section ENM
variable {p : Program} {l : Launch} {e : Env} {R : Room} {s : State} {m : MethodId} {args : Array Value} {below : List Frame} {meth : Method} {c : Code} {D : va_G} {cA cQ : ClassId} {ad : Nat → Nat} {A : Nat → Prop} {kc ks nL : Nat} {Q : State → Prop} {cc : ByteArray} {own scL : Nat} {scX : Nat → Int32} {pc : Nat} {ls : List (Option Value)} {st t : List Value} {σ : Mem}
theorem WG.eqv {st st' : List Value} (he : st.map (rv ad) = st'.map (rv ad)) (h : WG p l e R s m args below meth c D cA cQ ad A kc ks nL Q pc ls st' σ) : WG p l e R s m args below meth c D cA cQ ad A kc ks nL Q pc ls st σ := by
  intro ls' H locs hL hP hS
  rw [he]
  exact h ls' H locs hL hP hS
theorem WG.gi {u : Value} {v : Int32} (hu : gi u = some v) (h : WG p l e R s m args below meth c D cA cQ ad A kc ks nL Q pc ls (.int v :: t) σ) : WG p l e R s m args below meth c D cA cQ ad A kc ks nL Q pc ls (u :: t) σ := WG.eqv (by simp [rv_gi hu]; rfl) h
theorem WG.pceq {pc' : Nat} (he : pc' = pc) (h : WG p l e R s m args below meth c D cA cQ ad A kc ks nL Q pc' ls st σ) : WG p l e R s m args below meth c D cA cQ ad A kc ks nL Q pc ls st σ := he ▸ h
theorem WG.mono {ls1 : List (Option Value)} (hl : ls1.length = ls.length) (he : ∀ i v, lk ls1 i = some v → lk ls i = some v) (h : WG p l e R s m args below meth c D cA cQ ad A kc ks nL Q pc ls1 st σ) : WG p l e R s m args below meth c D cA cQ ad A kc ks nL Q pc ls st σ := by
  intro ls' H locs hL hP hS
  exact h ls' H locs ⟨hl.trans hL.1, hL.2.1, hL.2.2.1, fun i v hv => hL.2.2.2 i v (he i v hv)⟩ hP hS
end ENM
