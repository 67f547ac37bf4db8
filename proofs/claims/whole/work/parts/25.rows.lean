section ENX
variable {p : Program} {l : Launch} {e : Env} {R : Room} {s : State} {m : MethodId} {args : Array Value} {below : List Frame} {meth : Method} {c : Code} {D : va_G} {cA cQ : ClassId} {ad : Nat → Nat} {A : Nat → Prop} {kc ks nL : Nat} {Q : State → Prop} {cc : ByteArray} {own scL : Nat} {scX : Nat → Int32} {pc : Nat} {ls : List (Option Value)} {st t : List Value} {σ : Mem}
theorem g_iadd {v w : Value} {x y : Int32} (X : CX p R s m args c D cA cQ ad A kc ks nL cc own scL scX) (hv : gi v = some y) (hw : gi w = some x) (hd : decode cc pc = .ok (.iadd, 1)) (kk : WG p l e R s m args below meth c D cA cQ ad A kc ks nL Q (pc + 1) ls (.int (x + y) :: t) σ) : WG p l e R s m args below meth c D cA cQ ad A kc ks nL Q pc ls (v :: w :: t) σ := by
  intro ls' H locs hL hP hS
  simp only [List.map_cons, rv_gi hv, rv_gi hw]
  exact lv_iadd X.1 X.2.1 hd (kk ls' H locs hL hP hS)
theorem g_isub {v w : Value} {x y : Int32} (X : CX p R s m args c D cA cQ ad A kc ks nL cc own scL scX) (hv : gi v = some y) (hw : gi w = some x) (hd : decode cc pc = .ok (.isub, 1)) (kk : WG p l e R s m args below meth c D cA cQ ad A kc ks nL Q (pc + 1) ls (.int (x - y) :: t) σ) : WG p l e R s m args below meth c D cA cQ ad A kc ks nL Q pc ls (v :: w :: t) σ := by
  intro ls' H locs hL hP hS
  simp only [List.map_cons, rv_gi hv, rv_gi hw]
  exact lv_isub X.1 X.2.1 hd (kk ls' H locs hL hP hS)
theorem g_imul {v w : Value} {x y : Int32} (X : CX p R s m args c D cA cQ ad A kc ks nL cc own scL scX) (hv : gi v = some y) (hw : gi w = some x) (hd : decode cc pc = .ok (.imul, 1)) (kk : WG p l e R s m args below meth c D cA cQ ad A kc ks nL Q (pc + 1) ls (.int (x * y) :: t) σ) : WG p l e R s m args below meth c D cA cQ ad A kc ks nL Q pc ls (v :: w :: t) σ := by
  intro ls' H locs hL hP hS
  simp only [List.map_cons, rv_gi hv, rv_gi hw]
  exact lv_imul X.1 X.2.1 hd (kk ls' H locs hL hP hS)
theorem g_iand {v w : Value} {x y : Int32} (X : CX p R s m args c D cA cQ ad A kc ks nL cc own scL scX) (hv : gi v = some y) (hw : gi w = some x) (hd : decode cc pc = .ok (.iand, 1)) (kk : WG p l e R s m args below meth c D cA cQ ad A kc ks nL Q (pc + 1) ls (.int (x &&& y) :: t) σ) : WG p l e R s m args below meth c D cA cQ ad A kc ks nL Q pc ls (v :: w :: t) σ := by
  intro ls' H locs hL hP hS
  simp only [List.map_cons, rv_gi hv, rv_gi hw]
  exact lv_iand X.1 X.2.1 hd (kk ls' H locs hL hP hS)
theorem g_ior {v w : Value} {x y : Int32} (X : CX p R s m args c D cA cQ ad A kc ks nL cc own scL scX) (hv : gi v = some y) (hw : gi w = some x) (hd : decode cc pc = .ok (.ior, 1)) (kk : WG p l e R s m args below meth c D cA cQ ad A kc ks nL Q (pc + 1) ls (.int (x ||| y) :: t) σ) : WG p l e R s m args below meth c D cA cQ ad A kc ks nL Q pc ls (v :: w :: t) σ := by
  intro ls' H locs hL hP hS
  simp only [List.map_cons, rv_gi hv, rv_gi hw]
  exact lv_ior X.1 X.2.1 hd (kk ls' H locs hL hP hS)
theorem g_ixor {v w : Value} {x y : Int32} (X : CX p R s m args c D cA cQ ad A kc ks nL cc own scL scX) (hv : gi v = some y) (hw : gi w = some x) (hd : decode cc pc = .ok (.ixor, 1)) (kk : WG p l e R s m args below meth c D cA cQ ad A kc ks nL Q (pc + 1) ls (.int (x ^^^ y) :: t) σ) : WG p l e R s m args below meth c D cA cQ ad A kc ks nL Q pc ls (v :: w :: t) σ := by
  intro ls' H locs hL hP hS
  simp only [List.map_cons, rv_gi hv, rv_gi hw]
  exact lv_ixor X.1 X.2.1 hd (kk ls' H locs hL hP hS)
theorem g_ishl {v w : Value} {x y : Int32} (X : CX p R s m args c D cA cQ ad A kc ks nL cc own scL scX) (hv : gi v = some y) (hw : gi w = some x) (hd : decode cc pc = .ok (.ishl, 1)) (kk : WG p l e R s m args below meth c D cA cQ ad A kc ks nL Q (pc + 1) ls (.int (shl x y) :: t) σ) : WG p l e R s m args below meth c D cA cQ ad A kc ks nL Q pc ls (v :: w :: t) σ := by
  intro ls' H locs hL hP hS
  simp only [List.map_cons, rv_gi hv, rv_gi hw]
  exact lv_ishl X.1 X.2.1 hd (kk ls' H locs hL hP hS)
theorem g_ishr {v w : Value} {x y : Int32} (X : CX p R s m args c D cA cQ ad A kc ks nL cc own scL scX) (hv : gi v = some y) (hw : gi w = some x) (hd : decode cc pc = .ok (.ishr, 1)) (kk : WG p l e R s m args below meth c D cA cQ ad A kc ks nL Q (pc + 1) ls (.int (shr x y) :: t) σ) : WG p l e R s m args below meth c D cA cQ ad A kc ks nL Q pc ls (v :: w :: t) σ := by
  intro ls' H locs hL hP hS
  simp only [List.map_cons, rv_gi hv, rv_gi hw]
  exact lv_ishr X.1 X.2.1 hd (kk ls' H locs hL hP hS)
theorem g_idiv {v w : Value} {x y : Int32} (X : CX p R s m args c D cA cQ ad A kc ks nL cc own scL scX) (hv : gi v = some y) (hw : gi w = some x) (hz : ¬ y = 0) (hd : decode cc pc = .ok (.idiv, 1)) (kk : WG p l e R s m args below meth c D cA cQ ad A kc ks nL Q (pc + 1) ls (.int (x / y) :: t) σ) : WG p l e R s m args below meth c D cA cQ ad A kc ks nL Q pc ls (v :: w :: t) σ := by
  intro ls' H locs hL hP hS
  simp only [List.map_cons, rv_gi hv, rv_gi hw]
  exact lv_idiv X.1 X.2.1 hd hz (kk ls' H locs hL hP hS)
theorem g_irem {v w : Value} {x y : Int32} (X : CX p R s m args c D cA cQ ad A kc ks nL cc own scL scX) (hv : gi v = some y) (hw : gi w = some x) (hz : ¬ y = 0) (hd : decode cc pc = .ok (.irem, 1)) (kk : WG p l e R s m args below meth c D cA cQ ad A kc ks nL Q (pc + 1) ls (.int (irm x y) :: t) σ) : WG p l e R s m args below meth c D cA cQ ad A kc ks nL Q pc ls (v :: w :: t) σ := by
  intro ls' H locs hL hP hS
  simp only [List.map_cons, rv_gi hv, rv_gi hw]
  exact lv_irem X.1 X.2.1 hd hz (kk ls' H locs hL hP hS)
theorem g_iushr {v w : Value} {x y : Int32} (X : CX p R s m args c D cA cQ ad A kc ks nL cc own scL scX) (hv : gi v = some y) (hw : gi w = some x) (hd : decode cc pc = .ok (.iushr, 1)) (kk : WG p l e R s m args below meth c D cA cQ ad A kc ks nL Q (pc + 1) ls (.int (ush x y) :: t) σ) : WG p l e R s m args below meth c D cA cQ ad A kc ks nL Q pc ls (v :: w :: t) σ := by
  intro ls' H locs hL hP hS
  simp only [List.map_cons, rv_gi hv, rv_gi hw]
  exact lv_iushr X.1 X.2.1 hd rfl (kk ls' H locs hL hP hS)
theorem g_ineg {v : Value} {x : Int32} (X : CX p R s m args c D cA cQ ad A kc ks nL cc own scL scX) (hv : gi v = some x) (hd : decode cc pc = .ok (.ineg, 1)) (kk : WG p l e R s m args below meth c D cA cQ ad A kc ks nL Q (pc + 1) ls (.int (-x) :: t) σ) : WG p l e R s m args below meth c D cA cQ ad A kc ks nL Q pc ls (v :: t) σ := by
  intro ls' H locs hL hP hS
  simp only [List.map_cons, rv_gi hv]
  exact lv_ineg X.1 X.2.1 hd (kk ls' H locs hL hP hS)
theorem g_dup {v : Value} (X : CX p R s m args c D cA cQ ad A kc ks nL cc own scL scX) (hv : c1 v = true) (hd : decode cc pc = .ok (.dup, 1)) (kk : WG p l e R s m args below meth c D cA cQ ad A kc ks nL Q (pc + 1) ls (v :: v :: t) σ) : WG p l e R s m args below meth c D cA cQ ad A kc ks nL Q pc ls (v :: t) σ := by
  intro ls' H locs hL hP hS
  exact lv_dup X.1 X.2.1 hd (rv_c1 hv) (kk ls' H locs hL hP hS)
theorem g_dup2 {v w : Value} (X : CX p R s m args c D cA cQ ad A kc ks nL cc own scL scX) (hv : c1 v = true) (hw : c1 w = true) (hd : decode cc pc = .ok (.dup2, 1)) (kk : WG p l e R s m args below meth c D cA cQ ad A kc ks nL Q (pc + 1) ls (v :: w :: v :: w :: t) σ) : WG p l e R s m args below meth c D cA cQ ad A kc ks nL Q pc ls (v :: w :: t) σ := by
  intro ls' H locs hL hP hS
  exact lv_dup2_11 X.1 X.2.1 hd (rv_c1 hv) (rv_c1 hw) (kk ls' H locs hL hP hS)
theorem g_pop {v : Value} (X : CX p R s m args c D cA cQ ad A kc ks nL cc own scL scX) (hv : c1 v = true) (hd : decode cc pc = .ok (.pop, 1)) (kk : WG p l e R s m args below meth c D cA cQ ad A kc ks nL Q (pc + 1) ls t σ) : WG p l e R s m args below meth c D cA cQ ad A kc ks nL Q pc ls (v :: t) σ := by
  intro ls' H locs hL hP hS
  exact lv_pop X.1 X.2.1 hd (rv_c1 hv) (kk ls' H locs hL hP hS)
theorem g_iload {i len : Nat} {v : Value} {x : Int32} {j : Instr} (X : CX p R s m args c D cA cQ ad A kc ks nL cc own scL scX) (hv : lk ls i = some v) (hx : gi v = some x) (hd : decode cc pc = .ok (j, len)) (hj : (∃ f : Fin 4, j = .iload_n f ∧ f.val = i ∧ len = 1) ∨ (j = .iload i ∧ len = 2)) (kk : WG p l e R s m args below meth c D cA cQ ad A kc ks nL Q (pc + len) ls (v :: st) σ) : WG p l e R s m args below meth c D cA cQ ad A kc ks nL Q pc ls st σ := by
  intro ls' H locs hL hP hS
  have h1 := hL.2.2.2 i v hv
  rw [rv_gi hx] at h1
  have h2 := kk ls' H locs hL hP hS
  simp only [List.map_cons, rv_gi hx] at h2
  rcases hj with ⟨f, rfl, hf, rfl⟩ | ⟨rfl, rfl⟩
  · exact lv_iload_n X.1 X.2.1 hd hf h1 h2
  · exact lv_iload X.1 X.2.1 hd h1 h2
theorem g_aload {i len b : Nat} {j : Instr} (X : CX p R s m args c D cA cQ ad A kc ks nL cc own scL scX) (hv : lk ls i = some (.ref b)) (hd : decode cc pc = .ok (j, len)) (hj : (∃ f : Fin 4, j = .aload_n f ∧ f.val = i ∧ len = 1) ∨ (j = .aload i ∧ len = 2)) (kk : WG p l e R s m args below meth c D cA cQ ad A kc ks nL Q (pc + len) ls (.ref b :: st) σ) : WG p l e R s m args below meth c D cA cQ ad A kc ks nL Q pc ls st σ := by
  intro ls' H locs hL hP hS
  have h1 := hL.2.2.2 i _ hv
  have h2 := kk ls' H locs hL hP hS
  rcases hj with ⟨f, rfl, hf, rfl⟩ | ⟨rfl, rfl⟩
  · exact lv_aload_n X.1 X.2.1 hd hf h1 h2
  · exact lv_aload X.1 X.2.1 hd h1 h2
theorem g_istore {i len : Nat} {v : Value} {x : Int32} {j : Instr} (X : CX p R s m args c D cA cQ ad A kc ks nL cc own scL scX) (hi : i < nL) (hck : ck1 ls) (hx : gi v = some x) (hd : decode cc pc = .ok (j, len)) (hj : (∃ f : Fin 4, j = .istore_n f ∧ f.val = i ∧ len = 1) ∨ (j = .istore i ∧ len = 2)) (kk : WG p l e R s m args below meth c D cA cQ ad A kc ks nL Q (pc + len) (lset ls i v) st σ) : WG p l e R s m args below meth c D cA cQ ad A kc ks nL Q pc ls (v :: st) σ := by
  intro ls' H locs hL hP hS
  simp only [List.map_cons, rv_gi hx]
  have hl : (i, rv ad v) :: (lvO ad ls).filter (fun q => !(q.1 == i) && !(q.1 + 1 == i && q.2.category == 2)) = (i, Value.int x) :: (lvO ad ls).filter (fun q => !(q.1 == i) && !(q.1 + 1 == i && q.2.category == 2)) := by rw [rv_gi hx]
  rcases hj with ⟨f, rfl, hf, rfl⟩ | ⟨rfl, rfl⟩
  · exact lv_istore_n X.1 X.2.1 hd hf hL.has hi rfl (fun ls2 h2 => kk ls2 H locs (hL.store hck hl h2) hP hS)
  · exact lv_istore X.1 X.2.1 hd hL.has hi rfl (fun ls2 h2 => kk ls2 H locs (hL.store hck hl h2) hP hS)
theorem g_astore {i len b : Nat} {j : Instr} (X : CX p R s m args c D cA cQ ad A kc ks nL cc own scL scX) (hi : i < nL) (hck : ck1 ls) (hd : decode cc pc = .ok (j, len)) (hj : (∃ f : Fin 4, j = .astore_n f ∧ f.val = i ∧ len = 1) ∨ (j = .astore i ∧ len = 2)) (kk : WG p l e R s m args below meth c D cA cQ ad A kc ks nL Q (pc + len) (lset ls i (.ref b)) st σ) : WG p l e R s m args below meth c D cA cQ ad A kc ks nL Q pc ls (.ref b :: st) σ := by
  intro ls' H locs hL hP hS
  have hl : (i, rv ad (.ref b)) :: (lvO ad ls).filter (fun q => !(q.1 == i) && !(q.1 + 1 == i && q.2.category == 2)) = (i, Value.ref (ad b)) :: (lvO ad ls).filter (fun q => !(q.1 == i) && !(q.1 + 1 == i && q.2.category == 2)) := rfl
  rcases hj with ⟨f, rfl, hf, rfl⟩ | ⟨rfl, rfl⟩
  · exact lv_astore_n X.1 X.2.1 hd hf hL.has hi rfl (fun ls2 h2 => kk ls2 H locs (hL.store hck hl h2) hP hS)
  · exact lv_astore X.1 X.2.1 hd hL.has hi rfl (fun ls2 h2 => kk ls2 H locs (hL.store hck hl h2) hP hS)
theorem lvO_at {i : Nat} {v : Value} (h : lk ls i = some v) : ∃ k : Nat, (lvO ad ls)[k]? = some (i, rv ad v) := by
  obtain ⟨k, hk, h2⟩ := List.getElem_of_mem (lvO_mem (ad := ad) h)
  exact ⟨k, by rw [List.getElem?_eq_getElem hk, h2]⟩
theorem g_iinc {i : Nat} {n : Int} {v : Value} {x z : Int32} (X : CX p R s m args c D cA cQ ad A kc ks nL cc own scL scX) (hi : i < nL) (hck : ck1 ls) (hv : lk ls i = some v) (hx : gi v = some x) (hz : Int32.ofInt n = z) (hd : decode cc pc = .ok (.iinc i n, 3)) (kk : WG p l e R s m args below meth c D cA cQ ad A kc ks nL Q (pc + 3) (lset ls i (.int (x + z))) st σ) : WG p l e R s m args below meth c D cA cQ ad A kc ks nL Q pc ls st σ := by
  intro ls' H locs hL hP hS
  obtain ⟨k, hk⟩ := lvO_at (ad := ad) hv
  rw [rv_gi hx] at hk
  have hl : (i, rv ad (.int (x + z))) :: (lvO ad ls).filter (fun q => !(q.1 == i) && !(q.1 + 1 == i && q.2.category == 2)) = (i, Value.int (x + z)) :: (lvO ad ls).filter (fun q => !(q.1 == i) && !(q.1 + 1 == i && q.2.category == 2)) := rfl
  exact lv_iinc (k := k) X.1 X.2.1 hd hL.has hk (by rw [hz]) hi rfl (fun ls2 h2 => kk ls2 H locs (hL.store hck hl h2) hP hS)
theorem g_goto {off : Int} {tg : Nat} (X : CX p R s m args c D cA cQ ad A kc ks nL cc own scL scX) (hd : decode cc pc = .ok (.goto off, 3)) (ht : (pc : Int) + off = (tg : Int)) (kk : WG p l e R s m args below meth c D cA cQ ad A kc ks nL Q tg ls st σ) : WG p l e R s m args below meth c D cA cQ ad A kc ks nL Q pc ls st σ := by
  intro ls' H locs hL hP hS
  exact lv_goto X.1 X.2.1 hd ht (kk ls' H locs hL hP hS)
theorem g_ifnull {off : Int} {b : Nat} (X : CX p R s m args c D cA cQ ad A kc ks nL cc own scL scX) (hd : decode cc pc = .ok (.ifnull off, 3)) (kk : WG p l e R s m args below meth c D cA cQ ad A kc ks nL Q (pc + 3) ls st σ) : WG p l e R s m args below meth c D cA cQ ad A kc ks nL Q pc ls (.ref b :: st) σ := by
  intro ls' H locs hL hP hS
  exact lv_ifnull X.1 X.2.1 hd (kk ls' H locs hL hP hS)
theorem g_if_eq {v : Value} {x : Int32} {off : Int} {tg : Nat} (X : CX p R s m args c D cA cQ ad A kc ks nL cc own scL scX) (hv : gi v = some x) (hd : decode cc pc = .ok (.ifCond .eq off, 3)) (ht : (pc : Int) + off = (tg : Int)) (kt : x = 0 → WG p l e R s m args below meth c D cA cQ ad A kc ks nL Q tg ls t σ) (kf : ¬ x = 0 → WG p l e R s m args below meth c D cA cQ ad A kc ks nL Q (pc + 3) ls t σ) : WG p l e R s m args below meth c D cA cQ ad A kc ks nL Q pc ls (v :: t) σ := by
  intro ls' H locs hL hP hS
  simp only [List.map_cons, rv_gi hv]
  exact lv_if_eq X.1 X.2.1 hd ht (fun h => kt h ls' H locs hL hP hS) (fun h => kf h ls' H locs hL hP hS)
theorem g_ic_eq {v w : Value} {x y : Int32} {off : Int} {tg : Nat} (X : CX p R s m args c D cA cQ ad A kc ks nL cc own scL scX) (hv : gi v = some y) (hw : gi w = some x) (hd : decode cc pc = .ok (.if_icmp .eq off, 3)) (ht : (pc : Int) + off = (tg : Int)) (kt : x = y → WG p l e R s m args below meth c D cA cQ ad A kc ks nL Q tg ls t σ) (kf : ¬ x = y → WG p l e R s m args below meth c D cA cQ ad A kc ks nL Q (pc + 3) ls t σ) : WG p l e R s m args below meth c D cA cQ ad A kc ks nL Q pc ls (v :: w :: t) σ := by
  intro ls' H locs hL hP hS
  simp only [List.map_cons, rv_gi hv, rv_gi hw]
  exact lv_icmp_eq X.1 X.2.1 hd ht (fun h => kt h ls' H locs hL hP hS) (fun h => kf h ls' H locs hL hP hS)
theorem g_if_ne {v : Value} {x : Int32} {off : Int} {tg : Nat} (X : CX p R s m args c D cA cQ ad A kc ks nL cc own scL scX) (hv : gi v = some x) (hd : decode cc pc = .ok (.ifCond .ne off, 3)) (ht : (pc : Int) + off = (tg : Int)) (kt : ¬ x = 0 → WG p l e R s m args below meth c D cA cQ ad A kc ks nL Q tg ls t σ) (kf : x = 0 → WG p l e R s m args below meth c D cA cQ ad A kc ks nL Q (pc + 3) ls t σ) : WG p l e R s m args below meth c D cA cQ ad A kc ks nL Q pc ls (v :: t) σ := by
  intro ls' H locs hL hP hS
  simp only [List.map_cons, rv_gi hv]
  exact lv_if_ne X.1 X.2.1 hd ht (fun h => kt h ls' H locs hL hP hS) (fun h => kf h ls' H locs hL hP hS)
theorem g_ic_ne {v w : Value} {x y : Int32} {off : Int} {tg : Nat} (X : CX p R s m args c D cA cQ ad A kc ks nL cc own scL scX) (hv : gi v = some y) (hw : gi w = some x) (hd : decode cc pc = .ok (.if_icmp .ne off, 3)) (ht : (pc : Int) + off = (tg : Int)) (kt : ¬ x = y → WG p l e R s m args below meth c D cA cQ ad A kc ks nL Q tg ls t σ) (kf : x = y → WG p l e R s m args below meth c D cA cQ ad A kc ks nL Q (pc + 3) ls t σ) : WG p l e R s m args below meth c D cA cQ ad A kc ks nL Q pc ls (v :: w :: t) σ := by
  intro ls' H locs hL hP hS
  simp only [List.map_cons, rv_gi hv, rv_gi hw]
  exact lv_icmp_ne X.1 X.2.1 hd ht (fun h => kt h ls' H locs hL hP hS) (fun h => kf h ls' H locs hL hP hS)
theorem g_if_lt {v : Value} {x : Int32} {off : Int} {tg : Nat} (X : CX p R s m args c D cA cQ ad A kc ks nL cc own scL scX) (hv : gi v = some x) (hd : decode cc pc = .ok (.ifCond .lt off, 3)) (ht : (pc : Int) + off = (tg : Int)) (kt : x < 0 → WG p l e R s m args below meth c D cA cQ ad A kc ks nL Q tg ls t σ) (kf : ¬ x < 0 → WG p l e R s m args below meth c D cA cQ ad A kc ks nL Q (pc + 3) ls t σ) : WG p l e R s m args below meth c D cA cQ ad A kc ks nL Q pc ls (v :: t) σ := by
  intro ls' H locs hL hP hS
  simp only [List.map_cons, rv_gi hv]
  exact lv_if_lt X.1 X.2.1 hd ht (fun h => kt h ls' H locs hL hP hS) (fun h => kf h ls' H locs hL hP hS)
theorem g_ic_lt {v w : Value} {x y : Int32} {off : Int} {tg : Nat} (X : CX p R s m args c D cA cQ ad A kc ks nL cc own scL scX) (hv : gi v = some y) (hw : gi w = some x) (hd : decode cc pc = .ok (.if_icmp .lt off, 3)) (ht : (pc : Int) + off = (tg : Int)) (kt : x < y → WG p l e R s m args below meth c D cA cQ ad A kc ks nL Q tg ls t σ) (kf : ¬ x < y → WG p l e R s m args below meth c D cA cQ ad A kc ks nL Q (pc + 3) ls t σ) : WG p l e R s m args below meth c D cA cQ ad A kc ks nL Q pc ls (v :: w :: t) σ := by
  intro ls' H locs hL hP hS
  simp only [List.map_cons, rv_gi hv, rv_gi hw]
  exact lv_icmp_lt X.1 X.2.1 hd ht (fun h => kt h ls' H locs hL hP hS) (fun h => kf h ls' H locs hL hP hS)
theorem g_if_ge {v : Value} {x : Int32} {off : Int} {tg : Nat} (X : CX p R s m args c D cA cQ ad A kc ks nL cc own scL scX) (hv : gi v = some x) (hd : decode cc pc = .ok (.ifCond .ge off, 3)) (ht : (pc : Int) + off = (tg : Int)) (kt : 0 ≤ x → WG p l e R s m args below meth c D cA cQ ad A kc ks nL Q tg ls t σ) (kf : ¬ 0 ≤ x → WG p l e R s m args below meth c D cA cQ ad A kc ks nL Q (pc + 3) ls t σ) : WG p l e R s m args below meth c D cA cQ ad A kc ks nL Q pc ls (v :: t) σ := by
  intro ls' H locs hL hP hS
  simp only [List.map_cons, rv_gi hv]
  exact lv_if_ge X.1 X.2.1 hd ht (fun h => kt h ls' H locs hL hP hS) (fun h => kf h ls' H locs hL hP hS)
theorem g_ic_ge {v w : Value} {x y : Int32} {off : Int} {tg : Nat} (X : CX p R s m args c D cA cQ ad A kc ks nL cc own scL scX) (hv : gi v = some y) (hw : gi w = some x) (hd : decode cc pc = .ok (.if_icmp .ge off, 3)) (ht : (pc : Int) + off = (tg : Int)) (kt : y ≤ x → WG p l e R s m args below meth c D cA cQ ad A kc ks nL Q tg ls t σ) (kf : ¬ y ≤ x → WG p l e R s m args below meth c D cA cQ ad A kc ks nL Q (pc + 3) ls t σ) : WG p l e R s m args below meth c D cA cQ ad A kc ks nL Q pc ls (v :: w :: t) σ := by
  intro ls' H locs hL hP hS
  simp only [List.map_cons, rv_gi hv, rv_gi hw]
  exact lv_icmp_ge X.1 X.2.1 hd ht (fun h => kt h ls' H locs hL hP hS) (fun h => kf h ls' H locs hL hP hS)
theorem g_if_gt {v : Value} {x : Int32} {off : Int} {tg : Nat} (X : CX p R s m args c D cA cQ ad A kc ks nL cc own scL scX) (hv : gi v = some x) (hd : decode cc pc = .ok (.ifCond .gt off, 3)) (ht : (pc : Int) + off = (tg : Int)) (kt : 0 < x → WG p l e R s m args below meth c D cA cQ ad A kc ks nL Q tg ls t σ) (kf : ¬ 0 < x → WG p l e R s m args below meth c D cA cQ ad A kc ks nL Q (pc + 3) ls t σ) : WG p l e R s m args below meth c D cA cQ ad A kc ks nL Q pc ls (v :: t) σ := by
  intro ls' H locs hL hP hS
  simp only [List.map_cons, rv_gi hv]
  exact lv_if_gt X.1 X.2.1 hd ht (fun h => kt h ls' H locs hL hP hS) (fun h => kf h ls' H locs hL hP hS)
theorem g_ic_gt {v w : Value} {x y : Int32} {off : Int} {tg : Nat} (X : CX p R s m args c D cA cQ ad A kc ks nL cc own scL scX) (hv : gi v = some y) (hw : gi w = some x) (hd : decode cc pc = .ok (.if_icmp .gt off, 3)) (ht : (pc : Int) + off = (tg : Int)) (kt : y < x → WG p l e R s m args below meth c D cA cQ ad A kc ks nL Q tg ls t σ) (kf : ¬ y < x → WG p l e R s m args below meth c D cA cQ ad A kc ks nL Q (pc + 3) ls t σ) : WG p l e R s m args below meth c D cA cQ ad A kc ks nL Q pc ls (v :: w :: t) σ := by
  intro ls' H locs hL hP hS
  simp only [List.map_cons, rv_gi hv, rv_gi hw]
  exact lv_icmp_gt X.1 X.2.1 hd ht (fun h => kt h ls' H locs hL hP hS) (fun h => kf h ls' H locs hL hP hS)
theorem g_if_le {v : Value} {x : Int32} {off : Int} {tg : Nat} (X : CX p R s m args c D cA cQ ad A kc ks nL cc own scL scX) (hv : gi v = some x) (hd : decode cc pc = .ok (.ifCond .le off, 3)) (ht : (pc : Int) + off = (tg : Int)) (kt : x ≤ 0 → WG p l e R s m args below meth c D cA cQ ad A kc ks nL Q tg ls t σ) (kf : ¬ x ≤ 0 → WG p l e R s m args below meth c D cA cQ ad A kc ks nL Q (pc + 3) ls t σ) : WG p l e R s m args below meth c D cA cQ ad A kc ks nL Q pc ls (v :: t) σ := by
  intro ls' H locs hL hP hS
  simp only [List.map_cons, rv_gi hv]
  exact lv_if_le X.1 X.2.1 hd ht (fun h => kt h ls' H locs hL hP hS) (fun h => kf h ls' H locs hL hP hS)
theorem g_ic_le {v w : Value} {x y : Int32} {off : Int} {tg : Nat} (X : CX p R s m args c D cA cQ ad A kc ks nL cc own scL scX) (hv : gi v = some y) (hw : gi w = some x) (hd : decode cc pc = .ok (.if_icmp .le off, 3)) (ht : (pc : Int) + off = (tg : Int)) (kt : x ≤ y → WG p l e R s m args below meth c D cA cQ ad A kc ks nL Q tg ls t σ) (kf : ¬ x ≤ y → WG p l e R s m args below meth c D cA cQ ad A kc ks nL Q (pc + 3) ls t σ) : WG p l e R s m args below meth c D cA cQ ad A kc ks nL Q pc ls (v :: w :: t) σ := by
  intro ls' H locs hL hP hS
  simp only [List.map_cons, rv_gi hv, rv_gi hw]
  exact lv_icmp_le X.1 X.2.1 hd ht (fun h => kt h ls' H locs hL hP hS) (fun h => kf h ls' H locs hL hP hS)
end ENX
theorem okI_t {own nl : Nat} {bt : ByteArray} {rt : Option FieldType} {kps : List Nat} {code : MC} {pc : Nat} {i : Instr} {z : Int32} {r : MC} (hne : ∀ k, i ≠ .ret k) (h : okI own nl bt rt kps code (pc, i, z) r = true) : ∃ j len, decode bt pc = .ok (j, len) ∧ okJ own nl code rt pc len r z i j = true := by
  have key : (match decode bt pc with
    | .ok (j, len) => okJ own nl code rt pc len r z i j
    | .error _ => false) = true := by
    cases i <;> first | exact h | exact absurd rfl (hne _)
  cases hd : decode bt pc with
  | error e => rw [hd] at key; cases key
  | ok q => obtain ⟨j, len⟩ := q; rw [hd] at key; exact ⟨j, len, rfl, key⟩
theorem kI_1 (k : Nat) : kI k &&& 1 = kI k := by
  cases k with
  | zero => decide
  | succ n => show (1 : Int32) &&& 1 = 1; decide
section ENZ
variable {p : Program} {l : Launch} {e : Env} {R : Room} {s : State} {m : MethodId} {args : Array Value} {below : List Frame} {meth : Method} {c : Code} {D : va_G} {cA cQ : ClassId} {ad : Nat → Nat} {A : Nat → Prop} {kc ks nL : Nat} {Q : State → Prop} {cc : ByteArray} {own scL : Nat} {scX : Nat → Int32} {pc : Nat} {ls : List (Option Value)} {st t : List Value} {σ : Mem}
theorem g_call {d k n g : Nat} {rs : Bool} {j : Instr} {av : List Value} {y : Int32 × Mem} (X : CX p R s m args c D cA cQ ad A kc ks nL cc own scL scX) (hR : d + 1 ≤ R.frames ∧ 40 * (d + 1) ≤ R.locals) (hn : av.length = n) (hck : ckr t = true) (hg : rcv g av = true) (hC : Ctr d (mtab k) (nrmA av) σ y ∧ ((mtab k).2.2.2.2.2 = 77 → ∃ b rest, nrmA av = .ref b :: rest ∧ (b = 1001 ∨ b = 1002))) (ho : oCall own k n g rs j = true) (hd : decode cc pc = .ok (j, 3))
    (kk1 : rs = true → WG p l e R s m args below meth c D cA cQ ad A kc ks nL Q (pc + 3) ls (.int y.1 :: t) y.2) (kk0 : rs = false → WG p l e R s m args below meth c D cA cQ ad A kc ks nL Q (pc + 3) ls t y.2) : WG p l e R s m args below meth c D cA cQ ad A kc ks nL Q pc ls (av.reverse ++ t) σ := by
  have e1 : (av.reverse ++ t).map (rv ad) = ((nrmA av).reverse ++ t).map (rv ad) := by
    simp only [List.map_append, List.map_reverse, nrmA_rv]
  have hlen : (nrmA av).length = av.length := by
    have := congrArg List.length (nrmA_rv ad av)
    simpa using this
  refine WG.eqv e1 ?_
  unfold oCall at ho
  simp only [Bool.and_eq_true] at ho
  obtain ⟨⟨⟨o1, o2⟩, o3⟩, o4⟩ := ho
  have hk : k < 325 := by
    have := Nat.le_of_ble_eq_true o1
    rw [mT_len] at this
    exact this
  have hM := mt_ok k hk
  have hnn : (nrmA av).length = (mtab k).2.2.2.2.1 := by rw [hlen, hn]; exact beq_t o2
  have kk2 : WG p l e R s m args below meth c D cA cQ ad A kc ks nL Q (pc + 3) ls (match (mtab k).2.2.2.1 with
      | none => t
      | some _ => .int y.1 :: t) y.2 := by
    cases hr : (mtab k).2.2.2.1 with
    | none =>
      rw [hr] at o3
      cases rs with
      | true => cases o3
      | false => exact kk0 rfl
    | some ty =>
      rw [hr] at o3
      cases rs with
      | true => exact kk1 rfl
      | false => cases o3
  split at o4 <;> first | (cases o4; done) | skip
  · rename_i ix
    simp only [Bool.and_eq_true, Bool.or_eq_true] at o4
    obtain ⟨⟨q1, q2⟩, q3⟩ := o4
    rcases q3 with q3 | q3
    · exact g_callS X hM (beq_t q1) (oMP_t q3) hC.1 hnn hck hR hd kk2
    · exact g_callN X hM (beq_t q1) (oMN_t q3) hC.1 hnn hck hR hd kk2
  · rename_i ix
    simp only [Bool.and_eq_true, Bool.or_eq_true] at o4
    obtain ⟨⟨q1, q2⟩, q3⟩ := o4
    have hgne : (mtab k).2.2.2.2.2 ≠ 0 := fun h => by rw [h] at q1; cases q1
    rcases q3 with ⟨q3, q4⟩ | ⟨⟨q3, q4⟩, q5⟩
    · obtain ⟨b, rest, r1, r2⟩ := hC.2 (beq_t q3)
      have hC1 := hC.1
      rw [r1] at hC1 hnn ⊢
      have hs := hM.2.2.2.2.2.2.2.2 (beq_t q3)
      have hfin := g_callV (av := rest) (b := b) X hM hgne (oMP_t q2) hC1 (by simpa using hnn) hck hR hd (by rw [hs]; exact g_recvS X r2) kk2
      simpa using hfin
    · cases g with
      | zero => cases q4
      | succ g =>
        have hg2 := beq_t q5
        match av, hg with
        | .ref b :: rest, hg =>
          have hkb : kd b = g + 3 := beq_t hg
          have hg12 : g < 12 := Nat.le_of_ble_eq_true q3
          have hs := hM.2.2.2.2.2.2.2.1 g hg2 (by omega)
          have hC1 : Ctr d (mtab k) (.ref b :: nrmA rest) σ y := hC.1
          have hfin := g_callV (av := nrmA rest) (b := b) X hM hgne (oMP_t q2) hC1 (by simpa [nrmA] using hnn) hck hR hd (by rw [← hs]; exact g_recv X hkb hg12) kk2
          simpa [nrmA] using hfin
        | [], hg => cases hg
        | .int _ :: _, hg => cases hg
        | .long _ :: _, hg => cases hg
        | .float _ :: _, hg => cases hg
        | .double _ :: _, hg => cases hg
        | .null :: _, hg => cases hg
        | .retAddr _ :: _, hg => cases hg
end ENZ
