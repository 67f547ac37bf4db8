theorem bool01 {v : Int32} (h : v &&& 1 = v) : (v == 0 || v == 1) = true := by
  have h1 : v = 0 ∨ v = 1 := by
    have h2 : v.toBitVec &&& 1#32 = v.toBitVec := by
      have := congrArg Int32.toBitVec h
      simpa using this
    have h3 : v.toBitVec = 0#32 ∨ v.toBitVec = 1#32 := by
      have h4 : v.toBitVec.toNat = 0 ∨ v.toBitVec.toNat = 1 := by
        have := congrArg BitVec.toNat h2
        rw [BitVec.toNat_and] at this
        have h5 : v.toBitVec.toNat &&& 1 = v.toBitVec.toNat % 2 := Nat.and_one_is_mod _
        rw [show (1#32).toNat = 1 from rfl, h5] at this
        omega
      rcases h4 with h4 | h4
      · exact Or.inl (BitVec.eq_of_toNat_eq h4)
      · exact Or.inr (BitVec.eq_of_toNat_eq h4)
    rcases h3 with h3 | h3
    · exact Or.inl (Int32.toBitVec_inj.mp h3)
    · exact Or.inr (Int32.toBitVec_inj.mp h3)
  rcases h1 with rfl | rfl <;> rfl

/-! ===== what a state brings along ===== -/
def KK (D : va_G) (cA cQ : ClassId) (ad : Nat → Nat) (U : State) : Prop := va_K D vwCl [(cA, .int), (cQ, .object "StairRegiment$House")] U ∧ (∀ q ∈ nestL, va_Nw (.methodLinkNest q.1 q.2.1 q.2.2 "StairRegiment") U) ∧ vk_R "StairRegiment$Parser" 82 "creaks wears rises when or and not weight wear loose rank carpet height number heard failed stride night " (ad 1001) U ∧ vk_R "StairRegiment$Parser" 88 "on flight step watch leave desert bare mend loosen up down door " (ad 1002) U
theorem KK.warm {D : va_G} {cA cQ : ClassId} {ad : Nat → Nat} {s U : State} (hW : s.WarmedH U.vm) (h : KK D cA cQ ad s) : KK D cA cQ ad U :=
  ⟨va_K.moved hW.alike h.1, fun q hq => va_Nw.warmM hW (h.2.1 q hq), vk_R.warm hW h.2.2.1, vk_R.warm hW h.2.2.2⟩
theorem KK.same {D : va_G} {cA cQ : ClassId} {ad : Nat → Nat} {s U : State} (hv : U.vm = s.vm) (h : KK D cA cQ ad s) : KK D cA cQ ad U :=
  ⟨va_K.moved (by rw [hv]; exact Vm.Alike.refl _) h.1, fun q hq => va_Nw.same rfl hv.symm (h.2.1 q hq), vk_R.same hv h.2.2.1, vk_R.same hv h.2.2.2⟩
def SS (ad : Nat → Nat) (A : Nat → Prop) (U : State) (H : Heap) : Prop := vk_S 2 [105, 64] [strT 1001, strT 1002] (fun i => ad (1001 + i)) (fun i => ad (1003 + i)) A U H ∧ va_Z "java/lang/String" "COMPACT_STRINGS" "Z" (.int 1) A U H ∧ (va_Z "jdk/internal/util/Preconditions" "SIOOBE_FORMATTER" "Ljava/util/function/BiFunction;" .null A U H ∨ va_Z "jdk/internal/util/Preconditions" "SIOOBE_FORMATTER" "Ljava/util/function/BiFunction;" (.ref (ad 1005)) A U H)
theorem SS.moved {ad : Nat → Nat} {A : Nat → Prop} {s U : State} {H : Heap} (hv : s.vm.Alike U.vm) (h : SS ad A s H) : SS ad A U H := ⟨vk_S.moved hv h.1, va_Z.moved hv h.2.1, h.2.2.imp (va_Z.moved hv) (va_Z.moved hv)⟩
theorem SS.kept {ad : Nat → Nat} {A : Nat → Prop} {s : State} {H H1 : Heap} (h : SS ad A s H) (hq : ∀ a : Nat, a < H.size → ¬ A a → H1[a]? = H[a]?) : SS ad A s H1 := ⟨vk_S.kept h.1 hq, va_Z.kept h.2.1 hq, h.2.2.imp (fun z => va_Z.kept z hq) (fun z => va_Z.kept z hq)⟩
theorem SS.narrow {ad : Nat → Nat} {A B : Nat → Prop} {s : State} {H : Heap} (h : SS ad A s H) (hAB : ∀ q, B q → A q) : SS ad B s H := ⟨vk_S.narrow h.1 hAB, va_Z.narrow h.2.1 hAB, h.2.2.imp (fun z => va_Z.narrow z hAB) (fun z => va_Z.narrow z hAB)⟩
def AA (ad : Nat → Nat) (sz : Nat) : Nat → Prop := fun q => (∃ c, c < nC ∧ q = ad c) ∨ sz ≤ q
def rmd (d : Nat) : Room := { frames := d, cells := 0, slots := 0, locals := 40 * d }
def PcM (D : va_G) (cA cQ : ClassId) (ad : Nat → Nat) (av : List Value) (σ : Mem) (sz : Nat) : Array Value → State → Prop := va_Pc av (fun U => U.heap.size = sz ∧ va_P D vwCl (wd ad cA cQ σ) U.heap ∧ KK D cA cQ ad U ∧ (∀ a b, a < nC → b < nC → ad a = ad b → a = b) ∧ SS ad (AA ad sz) U U.heap)
def QcI (D : va_G) (cA cQ : ClassId) (ad : Nat → Nat) (sz : Nat) (z : Int32 × Mem) : Array Value → State → Outcome → State → Prop := va_Qi (S := Unit) (fun x _ => x = z.1) (fun _ t => va_P D vwCl (wd ad cA cQ z.2) t.heap) (AA ad sz)
def QcV (D : va_G) (cA cQ : ClassId) (ad : Nat → Nat) (sz : Nat) (z : Int32 × Mem) : Array Value → State → Outcome → State → Prop := va_Qv (S := Unit) (fun _ => True) (fun _ t => va_P D vwCl (wd ad cA cQ z.2) t.heap) (AA ad sz)
def QcM (r : Option FieldType) (D : va_G) (cA cQ : ClassId) (ad : Nat → Nat) (sz : Nat) (z : Int32 × Mem) : Array Value → State → Outcome → State → Prop := match r with
  | none => QcV D cA cQ ad sz z
  | some _ => QcI D cA cQ ad sz z
/-- the contract of a method at level d, for arguments and a memory -/
def Ctr (d : Nat) (M : MI) (av : List Value) (σ : Mem) (z : Int32 × Mem) : Prop := ∀ (l : Launch) (D : va_G) (cA cQ : ClassId) (ad : Nat → Nat) (sz : Nat), Met l M.1 (Cond.code M.1 M.2.1 M.2.2.1 M.2.2.2.1 :: gT) (rmd d) (PcM D cA cQ ad (av.map (rv ad)) σ sz) (QcM M.2.2.2.1 D cA cQ ad sz z) 0 0 (AA ad sz)
theorem PcM.blind (D : va_G) (cA cQ : ClassId) (ad : Nat → Nat) (av : List Value) (σ : Mem) (sz : Nat) : FrameBlind (PcM D cA cQ ad av σ sz) := by
  intro a U g mk h
  obtain ⟨h1, h2, h3, h4, h5, h6⟩ := h
  exact ⟨h1, h2, h3, h4.same (U := U.calling g mk a) rfl, h5, h6.moved (U := U.calling g mk a) (Vm.Alike.refl U.vm)⟩
def WG (p : Program) (l : Launch) (e : Env) (R : Room) (s : State) (m : MethodId) (args : Array Value) (below : List Frame) (meth : Method) (c : Code) (D : va_G) (cA cQ : ClassId) (ad : Nat → Nat) (A : Nat → Prop) (kc ks nL : Nat) (Q : State → Prop) (pc : Nat) (ls : List (Option Value)) (st : List Value) (σ : Mem) : Prop :=
  ∀ (ls' : Array Slot) (H : Heap) (locs : List Loc), LR ad nL ls ls' → va_P D vwCl (wd ad cA cQ σ) H → va_S A s.heap H locs → W p l e R s m args below meth c H locs kc ks Q (F0 m pc ls' (st.map (rv ad)))
def CX (p : Program) (R : Room) (s : State) (m : MethodId) (args : Array Value) (c : Code) (D : va_G) (cA cQ : ClassId) (ad : Nat → Nat) (A : Nat → Prop) (kc ks nL : Nat) (cc : ByteArray) (own scL : Nat) (scX : Nat → Int32) : Prop :=
  p.tables.exec = Jvm.exec ∧ c.code = cc ∧ c.maxLocals = nL ∧ s.vm.findClass (cR own) = some m.cls ∧ (∀ w ∈ gT, w.before args s = true) ∧ KK D cA cQ ad s ∧ (∀ a b, a < nC → b < nC → ad a = ad b → a = b) ∧ (∀ a, a < nC → A (ad a)) ∧ (∀ q, s.heap.size ≤ q → A q) ∧ SS ad A s s.heap ∧ (kc ≤ R.cells ∧ ks ≤ R.slots) ∧ (own = 16 → va_X (ad 1000) scL scX s s.heap ∧ ad 1000 < s.heap.size ∧ ¬ A (ad 1000))
section ENG
variable {p : Program} {l : Launch} {e : Env} {R : Room} {s : State} {m : MethodId} {args : Array Value} {below : List Frame} {meth : Method} {c : Code} {D : va_G} {cA cQ : ClassId} {ad : Nat → Nat} {A : Nat → Prop} {kc ks nL : Nat} {Q : State → Prop} {cc : ByteArray} {own scL : Nat} {scX : Nat → Int32} {pc : Nat} {ls : List (Option Value)} {st t : List Value} {σ : Mem}
theorem CX.dj (X : CX p R s m args c D cA cQ ad A kc ks nL cc own scL scX) (σ : Mem) : va_D A (wd ad cA cQ σ) := wd_D X.2.2.2.2.2.2.1 X.2.2.2.2.2.2.2.1
theorem CX.AA (X : CX p R s m args c D cA cQ ad A kc ks nL cc own scL scX) {n : Nat} (h : s.heap.size ≤ n) : ∀ q, AA ad n q → A q := by
  intro q hq
  rcases hq with ⟨a, h1, rfl⟩ | h1
  · exact X.2.2.2.2.2.2.2.1 a h1
  · exact X.2.2.2.2.2.2.2.2.1 q (Nat.le_trans h h1)
theorem CX.pre (X : CX p R s m args c D cA cQ ad A kc ks nL cc own scL scX) {av : List Value} {H : Heap} {locs : List Loc} (hP : va_P D vwCl (wd ad cA cQ σ) H) (hS : va_S A s.heap H locs) : ∀ U : State, U.heap = H → s.WarmedH U.vm → PcM D cA cQ ad (av.map (rv ad)) σ H.size (av.map (rv ad)).toArray U := by
  intro U hU hW
  refine ⟨rfl, by rw [hU], by rw [hU]; exact hP, X.2.2.2.2.2.1.warm hW, X.2.2.2.2.2.2.1, ?_⟩
  rw [hU]
  exact ((X.2.2.2.2.2.2.2.2.2.1.kept hS.2.1).narrow (X.AA hS.1)).moved hW.alike
/-- a call that has run: back in the caller -/
theorem g_back {M : MI} {z : Int32 × Mem} {H : Heap} {locs : List Loc} {ls' : Array Slot} {stk : List Value} {a : Array Value} (X : CX p R s m args c D cA cQ ad A kc ks nL cc own scL scX) (hP : va_P D vwCl (wd ad cA cQ σ) H) (hS : va_S A s.heap H locs) (hL : LR ad nL ls ls')
    (hr : va_Run p l e R s m args below meth c H locs kc ks 0 0 (F0 m pc ls' stk) (t.map (rv ad)) (QcM M.2.2.2.1 D cA cQ ad H.size z a) (AA ad H.size))
    (kk : WG p l e R s m args below meth c D cA cQ ad A kc ks nL Q (pc + 3) ls ((match M.2.2.2.1 with
      | none => t
      | some _ => .int z.1 :: t)) z.2) : W p l e R s m args below meth c H locs kc ks Q (F0 m pc ls' stk) := by
  cases hM : M.2.2.2.1 with
  | none =>
    rw [hM] at hr kk
    refine va_callv (S := Unit) (post := fun _ => True) (B := fun _ t => va_P D vwCl (wd ad cA cQ z.2) t.heap) (A1 := AA ad H.size) (a := a) hr hS (fun q _ h => X.AA hS.1 q h) (X.AA hS.1) (fun u t1 H1 locs1 ht hvm hw hB hz1 hk1 hS1 => ?_)
    rw [ht] at hB
    exact kk ls' H1 locs1 hL hB hS1
  | some ty =>
    rw [hM] at hr kk
    refine va_calli (S := Unit) (post := fun x _ => x = z.1) (B := fun _ t => va_P D vwCl (wd ad cA cQ z.2) t.heap) (A1 := AA ad H.size) (a := a) hr hS (fun q _ h => X.AA hS.1 q h) (X.AA hS.1) (fun x u t1 H1 locs1 ht hvm hw hB hz1 hk1 hS1 => ?_)
    rw [ht] at hB
    rw [hw]
    exact kk ls' H1 locs1 hL hB hS1
theorem gT_code {M : MI} (hM : mOK M) : GoodIn gT (Cond.code M.1 M.2.1 M.2.2.1 M.2.2.2.1 :: gT) := by
  intro w hw
  rcases List.mem_cons.mp hw with rfl | hw
  · exact ⟨hM.1, Or.inl rfl⟩
  · exact gT_self w hw
theorem rmd_fits {M : MI} {d : Nat} (hM : mOK M) (hR : d + 1 ≤ R.frames ∧ 40 * (d + 1) ≤ R.locals) : (rmd d).frames + 1 ≤ R.frames ∧ 8 + (M.2.2.1 + 11) + (rmd d).locals ≤ R.locals := by
  have h1 : M.2.2.1 ≤ 21 := hM.2.2.2.2.1
  refine ⟨hR.1, ?_⟩
  show 8 + (M.2.2.1 + 11) + 40 * d ≤ R.locals
  omega
/-- a static method of the same class or with an ordinary link -/
theorem g_callS {M : MI} {d ix : Nat} {av : List Value} {z : Int32 × Mem} (X : CX p R s m args c D cA cQ ad A kc ks nL cc own scL scX) (hM : mOK M) (hg : M.2.2.2.2.2 = 0) (hl : Cond.methodLink (cR own) ix M.1 ∈ gT) (hC : Ctr d M av σ z) (hn : av.length = M.2.2.2.2.1) (hck : ckr t = true) (hR : d + 1 ≤ R.frames ∧ 40 * (d + 1) ≤ R.locals) (hd : decode cc pc = .ok (.invokestatic ix, 3))
    (kk : WG p l e R s m args below meth c D cA cQ ad A kc ks nL Q (pc + 3) ls ((match M.2.2.2.1 with
      | none => t
      | some _ => .int z.1 :: t)) z.2) : WG p l e R s m args below meth c D cA cQ ad A kc ks nL Q pc ls (av.reverse ++ t) σ := by
  intro ls' H locs hL hP hS
  obtain ⟨hx, hb, hml, hown, hts, -⟩ := id X
  have hst := (hM.2.2.2.2.2.1 hg)
  refine g_back (a := (av.map (rv ad)).toArray) X hP hS hL (va_runS (As := av.map (rv ad)) (rest := t.map (rv ad)) (ws := Cond.code M.1 M.2.1 M.2.2.1 M.2.2.2.1 :: gT) (Ts := gT) (own := cR own) (nL := nL) (n := M.2.2.2.2.1) ⟨hx, hb, hml, hown, hts⟩ (hC l D cA cQ ad H.size) ⟨callB_of M.2.2.2.2.1 hts (gT_code hM) rfl rfl rfl (hts _ hM.2.1) (hts _ hl) ⟨hM.2.2.2.1.1, hM.2.2.2.1.2, hst.2⟩ (rmd_fits hM hR), hts _ hst.1⟩ ⟨PcM.blind D cA cQ ad _ σ _, X.pre hP hS⟩ rfl (by rw [List.length_map]; exact hn) hL.2.1 ?_ (lv_room (ckr_sum hck)) hd X.2.2.2.2.2.2.2.2.2.2.1) kk
  simp [List.map_append, List.map_reverse]
/-- a static method of a nest mate -/
theorem g_callN {M : MI} {d ix : Nat} {av : List Value} {z : Int32 × Mem} (X : CX p R s m args c D cA cQ ad A kc ks nL cc own scL scX) (hM : mOK M) (hg : M.2.2.2.2.2 = 0) (hl : (cR own, ix, M.1) ∈ nestL) (hC : Ctr d M av σ z) (hn : av.length = M.2.2.2.2.1) (hck : ckr t = true) (hR : d + 1 ≤ R.frames ∧ 40 * (d + 1) ≤ R.locals) (hd : decode cc pc = .ok (.invokestatic ix, 3))
    (kk : WG p l e R s m args below meth c D cA cQ ad A kc ks nL Q (pc + 3) ls ((match M.2.2.2.1 with
      | none => t
      | some _ => .int z.1 :: t)) z.2) : WG p l e R s m args below meth c D cA cQ ad A kc ks nL Q pc ls (av.reverse ++ t) σ := by
  intro ls' H locs hL hP hS
  obtain ⟨hx, hb, hml, hown, hts, hKK, -⟩ := id X
  have hst := (hM.2.2.2.2.2.1 hg)
  refine g_back (a := (av.map (rv ad)).toArray) X hP hS hL (va_runSN (As := av.map (rv ad)) (rest := t.map (rv ad)) (ws := Cond.code M.1 M.2.1 M.2.2.1 M.2.2.2.1 :: gT) (Ts := gT) (own := cR own) (host := "StairRegiment") (nL := nL) (n := M.2.2.2.2.1) ⟨hx, hb, hml, hown, hts⟩ (hC l D cA cQ ad H.size) ⟨va_cnB M.2.2.2.2.1 hts (gT_code hM) rfl rfl rfl (hKK.2.1 _ hl) (hts _ hM.2.1) ⟨hM.2.2.2.1.1, hM.2.2.2.1.2, hst.2⟩ (rmd_fits hM hR), hts _ hst.1, trivial⟩ ⟨PcM.blind D cA cQ ad _ σ _, X.pre hP hS⟩ rfl (by rw [List.length_map]; exact hn) hL.2.1 ?_ (lv_room (ckr_sum hck)) hd X.2.2.2.2.2.2.2.2.2.2.1) kk
  simp [List.map_append, List.map_reverse]
/-- a virtual method: the receiver's class is known -/
theorem g_callV {M : MI} {d ix b : Nat} {av : List Value} {z : Int32 × Mem} (X : CX p R s m args c D cA cQ ad A kc ks nL cc own scL scX) (hM : mOK M) (hg : M.2.2.2.2.2 ≠ 0) (hl : Cond.methodLink (cR own) ix M.1 ∈ gT) (hC : Ctr d M (.ref b :: av) σ z) (hn : av.length + 1 = M.2.2.2.2.1) (hck : ckr t = true) (hR : d + 1 ≤ R.frames ∧ 40 * (d + 1) ≤ R.locals) (hd : decode cc pc = .ok (.invokevirtual ix, 3))
    (hrc : ∀ (H : Heap) (locs : List Loc), va_P D vwCl (wd ad cA cQ σ) H → va_S A s.heap H locs → ∃ cell : Cell, H[ad b]? = some cell ∧ cell.vm.isStatics = false ∧ s.vm.findClass M.1.cls = some cell.cls)
    (kk : WG p l e R s m args below meth c D cA cQ ad A kc ks nL Q (pc + 3) ls ((match M.2.2.2.1 with
      | none => t
      | some _ => .int z.1 :: t)) z.2) : WG p l e R s m args below meth c D cA cQ ad A kc ks nL Q pc ls (av.reverse ++ .ref b :: t) σ := by
  intro ls' H locs hL hP hS
  obtain ⟨hx, hb, hml, hown, hts, -⟩ := id X
  have hst := (hM.2.2.2.2.2.2.1 hg)
  have hpar : (parseMethodDescriptor M.1.desc).map (fun d => d.parameters.length) = some av.length := by
    have h := hst.2.2
    cases hq : parseMethodDescriptor M.1.desc with
    | none => rw [hq] at h; cases h
    | some sg =>
      rw [hq] at h
      simp only [Option.map_some, Option.some.injEq] at h ⊢
      omega
  refine g_back (a := (Value.ref (ad b) :: av.map (rv ad)).toArray) X hP hS hL (va_runV (As := av.map (rv ad)) (rest := t.map (rv ad)) (ws := Cond.code M.1 M.2.1 M.2.2.1 M.2.2.2.1 :: gT) (Ts := gT) (own := cR own) (C := M.1.cls) (b := ad b) (nL := nL) (n := av.length) ⟨hx, hb, hml, hown, hts⟩ (hC l D cA cQ ad H.size) ⟨callB_of av.length hts (gT_code hM) rfl rfl rfl (hts _ hM.2.1) (hts _ hl) ⟨hM.2.2.2.1.1, hM.2.2.2.1.2, hpar⟩ (rmd_fits hM hR), hts _ hst.1, hts _ hst.2.1⟩ ⟨PcM.blind D cA cQ ad _ σ _, hrc H locs hP hS, fun U hU hW => X.pre (av := .ref b :: av) hP hS U hU hW⟩ rfl (by rw [List.length_map]) hL.2.1 ?_ (lv_room (ckr_sum hck)) hd X.2.2.2.2.2.2.2.2.2.2.1) kk
  simp [List.map_append, List.map_reverse, rv]
/-- the receiver: an object of the world -/
theorem g_recv {b g : Nat} (X : CX p R s m args c D cA cQ ad A kc ks nL cc own scL scX) (hk : kd b = g + 3) (hg : g < 12) : ∀ (H : Heap) (locs : List Loc), va_P D vwCl (wd ad cA cQ σ) H → va_S A s.heap H locs → ∃ cell : Cell, H[ad b]? = some cell ∧ cell.vm.isStatics = false ∧ s.vm.findClass (cR g) = some cell.cls := by
  intro H locs hP _
  have hlt : b < nC := kd_lt (by rw [hk]; omega)
  exact va_recv (q := (cR g, cT g, cN g)) (ci := g) X.2.2.2.2.2.1.1 hP (cls_vw g hg) (q0 := b) (by rw [wd_get hlt, wE_obj hk])
/-- the receiver: one of the two String constants -/
theorem g_recvS {b : Nat} (X : CX p R s m args c D cA cQ ad A kc ks nL cc own scL scX) (hb : b = 1001 ∨ b = 1002) : ∀ (H : Heap) (locs : List Loc), va_P D vwCl (wd ad cA cQ σ) H → va_S A s.heap H locs → ∃ cell : Cell, H[ad b]? = some cell ∧ cell.vm.isStatics = false ∧ s.vm.findClass "java/lang/String" = some cell.cls := by
  intro H locs _ hS
  have hE := X.2.2.2.2.2.2.2.2.2.1.1
  rcases hb with rfl | rfl
  · exact vk_recv (i := 0) hE (by omega) hS
  · exact vk_recv (i := 1) hE (by omega) hS
theorem g_iald {v u : Value} {i : Int32} {b : Nat} {x : Int32} (X : CX p R s m args c D cA cQ ad A kc ks nL cc own scL scX) (hu : gi u = some i) (hv : ld σ b i = some x) (hd : decode cc pc = .ok (.iaload, 1)) (kk : WG p l e R s m args below meth c D cA cQ ad A kc ks nL Q (pc + 1) ls (.int x :: t) σ) : WG p l e R s m args below meth c D cA cQ ad A kc ks nL Q pc ls (u :: .ref b :: t) σ := by
  intro ls' H locs hL hP hS
  unfold ld at hv
  split at hv
  · rename_i h
    cases hv
    simp only [List.map_cons, rv_gi hu]
    have hlt : b < nC := kd_lt (by rw [h.1]; omega)
    refine va_iald (q0 := b) (t0 := 0) X.1 X.2.1 X.2.2.2.2.2.1.1 hP (by rw [wd_get hlt, wE_arr h.1]) rfl h.2 hd ?_
    exact kk ls' H locs hL hP hS
  · cases hv
theorem g_iast {u w : Value} {v i : Int32} {b : Nat} {σ' : Mem} (X : CX p R s m args c D cA cQ ad A kc ks nL cc own scL scX) (hu : gi u = some v) (hw : gi w = some i) (hv : sd σ b i v = some σ') (hd : decode cc pc = .ok (.iastore, 1)) (kk : WG p l e R s m args below meth c D cA cQ ad A kc ks nL Q (pc + 1) ls t σ') : WG p l e R s m args below meth c D cA cQ ad A kc ks nL Q pc ls (u :: w :: .ref b :: t) σ := by
  intro ls' H locs hL hP hS
  unfold sd at hv
  split at hv
  · rename_i h
    cases hv
    simp only [List.map_cons, rv_gi hu, rv_gi hw]
    have hlt : b < nC := kd_lt (by rw [h.1]; omega)
    refine va_iast (q0 := b) (t0 := 0) X.1 X.2.1 X.2.2.2.2.2.1.1 hP (X.dj σ) hS (by rw [wd_get hlt, wE_arr h.1]) rfl h.2 hd (fun H1 locs1 hP1 _ hS1 => ?_)
    rw [wd_set (σ' := mw σ b i.toNatClampNeg v) hlt (by rw [wE_arr h.1]; simp [mw]; rfl) (fun a ha => mw_o ha)] at hP1
    exact kk ls' H1 locs1 hL hP1 hS1
  · cases hv
theorem g_alen {b : Nat} (X : CX p R s m args c D cA cQ ad A kc ks nL cc own scL scX) (hk : kd b = 1 ∨ kd b = 2) (hd : decode cc pc = .ok (.arraylength, 1)) (kk : WG p l e R s m args below meth c D cA cQ ad A kc ks nL Q (pc + 1) ls (.int (nI (ln b)) :: t) σ) : WG p l e R s m args below meth c D cA cQ ad A kc ks nL Q pc ls (.ref b :: t) σ := by
  intro ls' H locs hL hP hS
  rcases hk with h | h
  · have hlt : b < nC := kd_lt (by rw [h]; omega)
    exact va_alen (q0 := b) (t0 := 0) (x := (ln b, .inl (σ b))) X.1 X.2.1 X.2.2.2.2.2.1.1 hP (by rw [wd_get hlt, wE_arr h]) rfl rfl hd (kk ls' H locs hL hP hS)
  · have hlt : b < nC := kd_lt (by rw [h]; omega)
    exact va_alen (q0 := b) (t0 := 1) (x := (ln b, .inr (.inr (.inr (.inr fun i => some (ad (rf b i))))))) X.1 X.2.1 X.2.2.2.2.2.1.1 hP (by rw [wd_get hlt, wE_qar h]) rfl rfl hd (kk ls' H locs hL hP hS)
theorem g_aald {u : Value} {i : Int32} {b h1 : Nat} (X : CX p R s m args c D cA cQ ad A kc ks nL cc own scL scX) (hu : gi u = some i) (hv : alr b i = some h1) (hd : decode cc pc = .ok (.aaload, 1)) (kk : WG p l e R s m args below meth c D cA cQ ad A kc ks nL Q (pc + 1) ls (.ref h1 :: t) σ) : WG p l e R s m args below meth c D cA cQ ad A kc ks nL Q pc ls (u :: .ref b :: t) σ := by
  intro ls' H locs hL hP hS
  unfold alr at hv
  split at hv
  · rename_i h
    cases hv
    simp only [List.map_cons, rv_gi hu]
    have hlt : b < nC := kd_lt (by rw [h.1]; omega)
    exact va_aldq (q0 := b) (t0 := 1) (f := fun i => some (ad (rf b i))) X.1 X.2.1 X.2.2.2.2.2.1.1 hP (by rw [wd_get hlt, wE_qar h.1]) rfl h.2 hd (kk ls' H locs hL hP hS)
  · cases hv
theorem g_copy {u v w : Value} {n dp sp : Int32} {a b ix : Nat} {σ' : Mem} (X : CX p R s m args c D cA cQ ad A kc ks nL cc own scL scX) (hl : Cond.methodLink (cR own) ix arraycopyName ∈ gT) (hu : gi u = some n) (hv : gi v = some dp) (hw : gi w = some sp) (hc : cpy σ a sp b dp n = some σ') (hck : ckr t = true) (hR : 1 ≤ R.frames ∧ 40 ≤ R.locals) (hd : decode cc pc = .ok (.invokestatic ix, 3)) (kk : WG p l e R s m args below meth c D cA cQ ad A kc ks nL Q (pc + 3) ls t σ') : WG p l e R s m args below meth c D cA cQ ad A kc ks nL Q pc ls (u :: v :: .ref b :: w :: .ref a :: t) σ := by
  intro ls' H locs hL hP hS
  obtain ⟨hx, hb, hml, hown, hts, hKK, -⟩ := id X
  unfold cpy at hc
  split at hc
  · rename_i h
    obtain ⟨h1, h2, h3, h4, h5, h6, h7⟩ := h
    cases hc
    simp only [List.map_cons, rv_gi hu, rv_gi hv, rv_gi hw]
    have hlta : a < nC := kd_lt (by rw [h1]; omega)
    have hltb : b < nC := kd_lt (by rw [h2]; omega)
    refine va_copyi (q0 := a) (q1 := b) (t0 := 0) (t1 := 0) (ty := .int) hx hb (by rw [hL.2.1]; exact hml) hown (hts _ hl) (hts _ ac_nat) (hts _ ac_sta) (hts _ ac_ini) hKK.1 hP (X.dj σ) hS (by rw [wd_get hlta, wE_arr h1]) (by rw [wd_get hltb, wE_arr h2]) rfl rfl rfl h3 h4 h5 h6 h7 (fun i _ => rfl) hR.1 ?_ hd (fun H1 locs1 hP1 _ hS1 => ?_)
    · have := ckr_sum (ad := ad) hck
      have h8 : nativeFrameWords "java/lang/System" "arraycopy" 5 = 7 := by decide +kernel
      rw [h8]
      omega
    · rw [wd_set (σ' := fun q => if q = b then va_cpy (σ a) (σ b) sp.toNatClampNeg dp.toNatClampNeg n.toNatClampNeg else σ q) hltb (by rw [wE_arr h2]; simp) (fun q hq => by simp [hq])] at hP1
      exact kk ls' H1 locs1 hL hP1 hS1
  · cases hc
theorem g_get {b w ix pos : Nat} (X : CX p R s m args c D cA cQ ad A kc ks nL cc own scL scX) (hf : (own, ix, w, pos) ∈ flT) (hk : kd b = w / 100 + 3) (hd : decode cc pc = .ok (.getfield ix, 3)) (kk : WG p l e R s m args below meth c D cA cQ ad A kc ks nL Q (pc + 3) ls ((if fk (w / 100) (w % 100) = 0 then .ref (rf b (w % 100)) else .int (σ b (w % 100))) :: t) σ) : WG p l e R s m args below meth c D cA cQ ad A kc ks nL Q pc ls (.ref b :: t) σ := by
  intro ls' H locs hL hP hS
  obtain ⟨hx, hb, hml, hown, hts, hKK, -⟩ := id X
  obtain ⟨h1, h2, h3⟩ := flT_ok _ hf
  have hlt : b < nC := kd_lt (by rw [hk]; omega)
  have hkk := kk ls' H locs hL hP hS
  have e1 : (((if fk (w / 100) (w % 100) = 0 then Value.ref (rf b (w % 100)) else .int (σ b (w % 100))) :: t).map (rv ad)) = (if fk (w / 100) (w % 100) = 0 then Value.ref (ad (rf b (w % 100))) else .int (σ b (w % 100))) :: t.map (rv ad) := by
    rw [List.map_cons]
    split <;> rfl
  rw [e1] at hkk
  refine va_get (q0 := b) (C := cR (w / 100)) (T := cT (w / 100)) (N := cN (w / 100)) (ci := w / 100) (ref := cR (w / 100)) (k := w % 100) hx hb hts (cls_ws h2) hown hKK.1 hP (by rw [wd_get hlt, wE_obj hk]) (cls_vw _ h2) h3 (hts _ (gT_of (in_T (List.mem_of_getElem? h1)) rfl)) (fun x h => by rw [cls_own _ h2 _ h3] at h; exact h) (wF_get h3) hd hkk
theorem g_put {b w ix pos : Nat} {u : Value} {v : Int32} (X : CX p R s m args c D cA cQ ad A kc ks nL cc own scL scX) (hf : (own, ix, w, pos) ∈ flT) (hk : kd b = w / 100 + 3) (hu : gi u = some v) (hv : fk (w / 100) (w % 100) = 1 ∨ (fk (w / 100) (w % 100) = 2 ∧ v &&& 1 = v)) (hd : decode cc pc = .ok (.putfield ix, 3)) (kk : WG p l e R s m args below meth c D cA cQ ad A kc ks nL Q (pc + 3) ls t (mw σ b (w % 100) v)) : WG p l e R s m args below meth c D cA cQ ad A kc ks nL Q pc ls (u :: .ref b :: t) σ := by
  intro ls' H locs hL hP hS
  obtain ⟨hx, hb, hml, hown, hts, hKK, -⟩ := id X
  obtain ⟨h1, h2, h3⟩ := flT_ok _ hf
  have hlt : b < nC := kd_lt (by rw [hk]; omega)
  simp only [List.map_cons, rv_gi hu]
  have hne : fk (w / 100) (w % 100) ≠ 0 := by rcases hv with h | h <;> omega
  obtain ⟨hi, hz⟩ := cls_fk _ h2 _ h3
  have hty : (cTy (w / 100) (w % 100) = .int ∨ (cTy (w / 100) (w % 100) = .boolean ∧ v &&& 1 = v)) ∧ (cT (w / 100) (w % 100)).2.2.2 = false := by
    rcases hv with h | h
    · exact ⟨Or.inl (hi h).1, (hi h).2⟩
    · exact ⟨Or.inr ⟨(hz h.1).1, h.2⟩, (hz h.1).2⟩
  refine va_put (q0 := b) (C := cR (w / 100)) (T := cT (w / 100)) (N := cN (w / 100)) (ci := w / 100) (ref := cR (w / 100)) (k := w % 100) (ty := cTy (w / 100) (w % 100)) hx hb hts (cls_ws h2) (cTy (w / 100)) (cls_ty _ h2) (cls_nm _ h2) hown hKK.1 hP (X.dj σ) hS (by rw [wd_get hlt, wE_obj hk]) (cls_vw _ h2) h3 (hts _ (gT_of (in_T (List.mem_of_getElem? h1)) rfl)) (fun x h => by rw [cls_own _ h2 _ h3] at h; exact h) hty.2 (v := .int v) (cls_ty _ h2 _ h3) ?_ ?_ (by simpa [wF] using h3) hd (fun H1 locs1 hP1 _ hS1 => ?_)
  · rcases hty.1 with h | ⟨h, h4⟩
    · rw [h]; rfl
    · rw [h]; show Value.int (v &&& 1) = .int v; rw [h4]
  · rcases hty.1 with h | ⟨h, h4⟩
    · rw [h]; rfl
    · rw [h]
      show (v == 0 || v == 1) = true
      exact bool01 h4
  · rw [wF_set hne, wd_set (σ' := mw σ b (w % 100) v) hlt (by rw [wE_obj hk]) (fun a ha => mw_o ha)] at hP1
    exact kk ls' H1 locs1 hL hP1 hS1
theorem g_sld {u : Value} {i : Int32} (X : CX p R s m args c D cA cQ ad A kc ks nL cc own scL scX) (ho : own = 16) (hu : gi u = some i) (hi : ¬ (i < 0 ∨ scL ≤ i.toNatClampNeg)) (hd : decode cc pc = .ok (.iaload, 1)) (kk : WG p l e R s m args below meth c D cA cQ ad A kc ks nL Q (pc + 1) ls (.int (scX i.toNatClampNeg) :: t) σ) : WG p l e R s m args below meth c D cA cQ ad A kc ks nL Q pc ls (u :: .ref 1000 :: t) σ := by
  intro ls' H locs hL hP hS
  obtain ⟨h1, h2, h3⟩ := X.2.2.2.2.2.2.2.2.2.2.2 ho
  simp only [List.map_cons, rv_gi hu]
  exact va_sld X.1 X.2.1 h1 h2 h3 hS hi hd (kk ls' H locs hL hP hS)
theorem g_slen (X : CX p R s m args c D cA cQ ad A kc ks nL cc own scL scX) (ho : own = 16) (hd : decode cc pc = .ok (.arraylength, 1)) (kk : WG p l e R s m args below meth c D cA cQ ad A kc ks nL Q (pc + 1) ls (.int (nI scL) :: t) σ) : WG p l e R s m args below meth c D cA cQ ad A kc ks nL Q pc ls (.ref 1000 :: t) σ := by
  intro ls' H locs hL hP hS
  obtain ⟨h1, h2, h3⟩ := X.2.2.2.2.2.2.2.2.2.2.2 ho
  exact va_slen X.1 X.2.1 h1 h2 h3 hS hd (kk ls' H locs hL hP hS)
end ENG
