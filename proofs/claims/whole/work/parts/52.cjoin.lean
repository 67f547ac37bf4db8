
section ECW
variable {p : Program} {l : Launch} {e : Env} {R : Room} {s : State} {m : MethodId} {args : Array Value} {below : List Frame} {meth : Method} {c : Code} {D : va_G} {cA cQ : ClassId} {A : Nat → Prop} {w0 nL : Nat} {q0 : Option Nat} {Q : State → Prop} {cc : ByteArray} {own : Nat} {pc : Nat} {ls : List (Option Value)} {st t : List Value} {Z : List CE}
theorem y_ico {n0 : Int} {v : Int32} (X : CY p R s m args meth c D cA cQ A nL cc own) (hv : Int32.ofInt n0 = v) (hd : decode cc pc = .ok (.iconst n0, 1)) (kk : WC p l e R s m args below meth c D cA cQ A w0 nL q0 Q (pc + 1) ls (.int v :: st) Z) : WC p l e R s m args below meth c D cA cQ A w0 nL q0 Q pc ls st Z := by
  intro as ls' H locs ha hL hP hD hS
  exact lv_iconst X.1 X.2.1 hd hv (kk as ls' H locs ha hL hP hD hS)
theorem y_bip {n0 : Int} {v : Int32} (X : CY p R s m args meth c D cA cQ A nL cc own) (hv : (Int8.ofInt n0).toInt32 = v) (hd : decode cc pc = .ok (.bipush n0, 2)) (kk : WC p l e R s m args below meth c D cA cQ A w0 nL q0 Q (pc + 2) ls (.int v :: st) Z) : WC p l e R s m args below meth c D cA cQ A w0 nL q0 Q pc ls st Z := by
  intro as ls' H locs ha hL hP hD hS
  exact lv_bipush X.1 X.2.1 hd hv (kk as ls' H locs ha hL hP hD hS)
theorem y_sip {n0 : Int} {v : Int32} (X : CY p R s m args meth c D cA cQ A nL cc own) (hv : (Int16.ofInt n0).toInt32 = v) (hd : decode cc pc = .ok (.sipush n0, 3)) (kk : WC p l e R s m args below meth c D cA cQ A w0 nL q0 Q (pc + 3) ls (.int v :: st) Z) : WC p l e R s m args below meth c D cA cQ A w0 nL q0 Q pc ls st Z := by
  intro as ls' H locs ha hL hP hD hS
  exact lv_sipush X.1 X.2.1 hd hv (kk as ls' H locs ha hL hP hD hS)
theorem y_dup {v : Value} (X : CY p R s m args meth c D cA cQ A nL cc own) (hv : c1 v = true) (hd : decode cc pc = .ok (.dup, 1)) (kk : WC p l e R s m args below meth c D cA cQ A w0 nL q0 Q (pc + 1) ls (v :: v :: t) Z) : WC p l e R s m args below meth c D cA cQ A w0 nL q0 Q pc ls (v :: t) Z := by
  intro as ls' H locs ha hL hP hD hS
  exact lv_dup X.1 X.2.1 hd (rv_c1 hv) (kk as ls' H locs ha hL hP hD hS)
theorem y_ild {i : Nat} {f : Fin 4} {x : Int32} (X : CY p R s m args meth c D cA cQ A nL cc own) (hf : f.val = i) (hv : lk ls i = some (.int x)) (hd : decode cc pc = .ok (.iload_n f, 1)) (kk : WC p l e R s m args below meth c D cA cQ A w0 nL q0 Q (pc + 1) ls (.int x :: st) Z) : WC p l e R s m args below meth c D cA cQ A w0 nL q0 Q pc ls st Z := by
  intro as ls' H locs ha hL hP hD hS
  exact lv_iload_n X.1 X.2.1 hd hf (hL.2.2.2 i _ hv) (kk as ls' H locs ha hL hP hD hS)
theorem y_ald {i b : Nat} {f : Fin 4} (X : CY p R s m args meth c D cA cQ A nL cc own) (hf : f.val = i) (hv : lk ls i = some (.ref b)) (hd : decode cc pc = .ok (.aload_n f, 1)) (kk : WC p l e R s m args below meth c D cA cQ A w0 nL q0 Q (pc + 1) ls (.ref b :: st) Z) : WC p l e R s m args below meth c D cA cQ A w0 nL q0 Q pc ls st Z := by
  intro as ls' H locs ha hL hP hD hS
  exact lv_aload_n X.1 X.2.1 hd hf (hL.2.2.2 i _ hv) (kk as ls' H locs ha hL hP hD hS)
theorem y_ist {i : Nat} {f : Fin 4} {x : Int32} (X : CY p R s m args meth c D cA cQ A nL cc own) (hf : f.val = i) (hi : i < nL) (hck : ck1 ls) (hd : decode cc pc = .ok (.istore_n f, 1)) (kk : WC p l e R s m args below meth c D cA cQ A w0 nL q0 Q (pc + 1) (lset ls i (.int x)) st Z) : WC p l e R s m args below meth c D cA cQ A w0 nL q0 Q pc ls (.int x :: st) Z := by
  intro as ls' H locs ha hL hP hD hS
  exact lv_istore_n X.1 X.2.1 hd hf hL.has hi rfl (fun ls2 h2 => kk as ls2 H locs ha (hL.store (v := .int x) hck rfl h2) hP hD hS)
theorem y_ast {i b : Nat} {f : Fin 4} (X : CY p R s m args meth c D cA cQ A nL cc own) (hf : f.val = i) (hi : i < nL) (hck : ck1 ls) (hd : decode cc pc = .ok (.astore_n f, 1)) (kk : WC p l e R s m args below meth c D cA cQ A w0 nL q0 Q (pc + 1) (lset ls i (.ref b)) st Z) : WC p l e R s m args below meth c D cA cQ A w0 nL q0 Q pc ls (.ref b :: st) Z := by
  intro as ls' H locs ha hL hP hD hS
  exact lv_astore_n X.1 X.2.1 hd hf hL.has hi rfl (fun ls2 h2 => kk as ls2 H locs ha (hL.store (v := .ref b) hck rfl h2) hP hD hS)
theorem y_inc {i : Nat} {n : Int} {x z : Int32} (X : CY p R s m args meth c D cA cQ A nL cc own) (hi : i < nL) (hck : ck1 ls) (hv : lk ls i = some (.int x)) (hz : Int32.ofInt n = z) (hd : decode cc pc = .ok (.iinc i n, 3)) (kk : WC p l e R s m args below meth c D cA cQ A w0 nL q0 Q (pc + 3) (lset ls i (.int (x + z))) st Z) : WC p l e R s m args below meth c D cA cQ A w0 nL q0 Q pc ls st Z := by
  intro as ls' H locs ha hL hP hD hS
  obtain ⟨k, hk⟩ := lvO_at (ad := as) hv
  exact lv_iinc (k := k) X.1 X.2.1 hd hL.has hk (by rw [hz]) hi rfl (fun ls2 h2 => kk as ls2 H locs ha (hL.store (v := .int (x + z)) hck rfl h2) hP hD hS)
theorem y_goto {off : Int} {tg : Nat} (X : CY p R s m args meth c D cA cQ A nL cc own) (hd : decode cc pc = .ok (.goto off, 3)) (ht : (pc : Int) + off = (tg : Int)) (kk : WC p l e R s m args below meth c D cA cQ A w0 nL q0 Q tg ls st Z) : WC p l e R s m args below meth c D cA cQ A w0 nL q0 Q pc ls st Z := by
  intro as ls' H locs ha hL hP hD hS
  exact lv_goto X.1 X.2.1 hd ht (kk as ls' H locs ha hL hP hD hS)
theorem y_ge {x y : Int32} {off : Int} {tg : Nat} (X : CY p R s m args meth c D cA cQ A nL cc own) (hd : decode cc pc = .ok (.if_icmp .ge off, 3)) (ht : (pc : Int) + off = (tg : Int)) (kt : y ≤ x → WC p l e R s m args below meth c D cA cQ A w0 nL q0 Q tg ls t Z) (kf : ¬ y ≤ x → WC p l e R s m args below meth c D cA cQ A w0 nL q0 Q (pc + 3) ls t Z) : WC p l e R s m args below meth c D cA cQ A w0 nL q0 Q pc ls (.int y :: .int x :: t) Z := by
  intro as ls' H locs ha hL hP hD hS
  exact lv_icmp_ge X.1 X.2.1 hd ht (fun h => kt h as ls' H locs ha hL hP hD hS) (fun h => kf h as ls' H locs ha hL hP hD hS)
end ECW
/-! ===== a constructor's cells, moved into its caller's world ===== -/
def mvR (k n j : Nat) : Nat := if j = 0 then k else n + j - 1
def mvE (f : Nat → Nat) : CE → CE
  | .inl q => .inl q
  | .inr (.inl q) => .inr (.inl (q.1, q.2.map (Option.map f)))
  | .inr (.inr q) => .inr (.inr (q.1, q.2.map (rv f)))
def jn (Z : List CE) (k : Nat) : List CE → List CE
  | [] => Z
  | x :: U => Z.set k (mvE (mvR k Z.length) x) ++ U.map (mvE (mvR k Z.length))
theorem rv_rv (f g : Nat → Nat) (v : Value) : rv f (rv g v) = rv (fun j => f (g j)) v := by cases v <;> rfl
theorem nth_mapO (f : Nat → Nat) : ∀ (l : List (Option Nat)) (i : Nat), nth none (l.map (Option.map f)) i = (nth none l i).map f
  | [], _ => rfl
  | _ :: _, 0 => rfl
  | _ :: l, i + 1 => nth_mapO f l i
theorem rE_mv {as as' f : Nat → Nat} {cA cQ : ClassId} (h : ∀ j, as' (f j) = as j) (x : CE) : rE as' cA cQ (mvE f x) = rE as cA cQ x := by
  have e : (fun j => as' (f j)) = as := funext h
  match x with
  | .inl q => rfl
  | .inr (.inl q) =>
    simp only [mvE, rE, nth_mapO, Option.map_map]
    have : (as' ∘ f) = as := e
    rw [this]
  | .inr (.inr q) =>
    simp only [mvE, rE, List.map_map]
    have : (rv as' ∘ rv f) = rv as := by
      funext v
      simp only [Function.comp, rv_rv, e]
    rw [this]
theorem sl_mv (f : Nat → Nat) (x : CE) : sl (mvE f x) = sl x := by
  match x with
  | .inl q => rfl
  | .inr (.inl q) => rfl
  | .inr (.inr q) => rfl
theorem wr_mv {as as' f : Nat → Nat} {cA cQ : ClassId} (h : ∀ j, as' (f j) = as j) (n : Nat) (hn : ∀ j, as' (n + j) = as (j + 1)) : ∀ (U : List CE) (j : Nat), wr as' cA cQ (n + j) (U.map (mvE f)) = wr as cA cQ (j + 1) U
  | [], _ => rfl
  | x :: U, j => by
    simp only [List.map_cons, wr, rE_mv h, hn]
    have := wr_mv (cA := cA) (cQ := cQ) h n hn U (j + 1)
    rw [show n + j + 1 = n + (j + 1) by omega, this]
def jas (as ac : Nat → Nat) (n : Nat) : Nat → Nat := fun i => if i < n then as i else ac (i - n + 1)
theorem jas_mv {as ac : Nat → Nat} {k n : Nat} (hk : k < n) (h0 : as k = ac 0) (j : Nat) : jas as ac n (mvR k n j) = ac j := by
  unfold jas mvR
  by_cases h : j = 0
  · rw [if_pos h, if_pos hk, h0, h]
  · rw [if_neg h, if_neg (by omega)]
    congr 1
    omega
theorem jas_n {as ac : Nat → Nat} {n : Nat} (j : Nat) : jas as ac n (n + j) = ac (j + 1) := by
  unfold jas
  rw [if_neg (by omega)]
  congr 1
  omega
theorem jas_agr {as ac : Nat → Nat} {n : Nat} : agr n as (jas as ac n) := fun k hk => if_pos hk
theorem wr_jn {as ac : Nat → Nat} {cA cQ : ClassId} {Z U : List CE} {x : CE} {k : Nat} (hk : k < Z.length) (h0 : as k = ac 0) (hg : Z.all (rbE Z.length) = true) : wr (jas as ac Z.length) cA cQ 0 (jn Z k (x :: U)) = (wr as cA cQ 0 Z).set k (as k, rE ac cA cQ x) ++ wr ac cA cQ 1 U := by
  simp only [jn]
  rw [wr_app, wr_set, wr_agr jas_agr (by omega) hg, rE_mv (jas_mv hk h0), List.length_set]
  have := wr_mv (as := ac) (as' := jas as ac Z.length) (f := mvR k Z.length) (cA := cA) (cQ := cQ) (jas_mv hk h0) Z.length (fun j => jas_n j) U 0
  simp only [Nat.add_zero, Nat.zero_add] at this ⊢
  rw [this, jas_agr k hk]
def rmc (d mc ms : Nat) : Room := { frames := d, cells := mc, slots := ms, locals := 40 * d }
def AC (b sz : Nat) : Nat → Prop := fun q => q = b ∨ sz ≤ q
def PcC (D : va_G) (cA cQ : ClassId) (ci b : Nat) (av : List Value) (sz : Nat) : Array Value → State → Prop := va_Pc (.ref b :: av) (fun U => U.heap.size = sz ∧ va_P D vwCl [(b, .inr (ci, dfl ci))] U.heap ∧ KC D cA cQ U ∧ b < sz)
def QcC (D : va_G) (cA cQ : ClassId) (b sz : Nat) (Z : List CE) : Array Value → State → Outcome → State → Prop := va_Qv (S := Nat → Nat) (fun as => as 0 = b ∧ va_D (AC b sz) (wr as cA cQ 0 Z)) (fun as t => va_P D vwCl (wr as cA cQ 0 Z) t.heap) (AC b sz)
/-- the contract of a constructor: what cells it leaves; av holds no reference -/
def CtC (d : Nat) (M : MI) (ci : Nat) (av : List Value) (Z : List CE) : Prop := ∀ (l : Launch) (D : va_G) (cA cQ : ClassId) (b sz : Nat), Met l M.1 (Cond.code M.1 M.2.1 M.2.2.1 none :: gT) (rmc d (Z.length - 1) (slS 1 Z)) (PcC D cA cQ ci b av sz) (QcC D cA cQ b sz Z) (Z.length - 1) (slS 1 Z) (AC b sz)
theorem PcC.blind (D : va_G) (cA cQ : ClassId) (ci b : Nat) (av : List Value) (sz : Nat) : FrameBlind (PcC D cA cQ ci b av sz) := by
  intro a U g mk h
  obtain ⟨h1, h2, h3, h4, h5⟩ := h
  exact ⟨h1, h2, h3, h4.same (U := U.calling g mk a) rfl, h5⟩
/-- what is known of a constructor -/
def cOK (M : MI) : Prop := Cond.code M.1 M.2.1 M.2.2.1 none ∈ gT ∧ Cond.initialized M.1.cls ∈ gT ∧ plainFor M.1 = true ∧ (M.1.cls ≠ "java/lang/invoke/MethodHandle" ∧ M.1.cls ≠ "java/lang/invoke/VarHandle") ∧ M.2.2.1 ≤ 21 ∧ Cond.instanceMethod M.1 ∈ gT ∧ M.1.name = "<init>" ∧ (parseMethodDescriptor M.1.desc).map (fun d => d.parameters.length) = some M.2.2.2.2.1
theorem slS_jn {w0 k : Nat} {Z U : List CE} {x y : CE} (hw : w0 ≤ Z.length) (hz : Z[k]? = some y) (hs : sl x = sl y) : slS w0 (jn Z k (x :: U)) = slS w0 Z + slS 1 (x :: U) := by
  unfold slS
  simp only [jn]
  rw [List.drop_append_of_le_length (by simpa using hw)]
  simp only [List.map_append, List.sum_append, List.map_map, List.drop_succ_cons, List.drop_zero]
  have e1 : (U.map (sl ∘ mvE (mvR k Z.length))) = U.map sl := List.map_congr_left (fun a _ => sl_mv _ a)
  have e2 : (Z.set k (mvE (mvR k Z.length) x)).map sl = Z.map sl := by
    rw [List.map_set, sl_mv, hs]
    apply List.ext_getElem?
    intro j
    rw [List.getElem?_set]
    by_cases hj : k = j
    · subst hj
      have hlt := (List.getElem?_eq_some_iff.mp hz).1
      rw [if_pos rfl, if_pos (by simpa using hlt), List.getElem?_map, hz]
      rfl
    · rw [if_neg hj]
  rw [e1, List.map_drop, List.map_drop, e2]
section ECX
variable {p : Program} {l : Launch} {e : Env} {R : Room} {s : State} {m : MethodId} {args : Array Value} {below : List Frame} {meth : Method} {c : Code} {D : va_G} {cA cQ : ClassId} {A : Nat → Prop} {w0 nL : Nat} {q0 : Option Nat} {Q : State → Prop} {cc : ByteArray} {own : Nat} {pc : Nat} {ls : List (Option Value)} {st t : List Value} {Z : List CE}
theorem y_join {k ci : Nat} {x : CE} {U : List CE} (X : CY p R s m args meth c D cA cQ A nL cc own) (hw : w0 ≤ Z.length) (hg : gd Z ls t = true) (hz : Z[k]? = some (.inr (.inr (ci, dfl ci)))) (hs : sl x = cN ci) {as : Nat → Nat} {ls' : Array Slot} {H : Heap} {locs : List Loc} {stk : List Value} {a : Array Value} (ha : ∀ q, q0 = some q → as 0 = q) (hL : LR as nL ls ls') (hP : va_P D vwCl (wr as cA cQ 0 Z) H) (hD : va_D A (wr as cA cQ 0 Z)) (hS : va_S A s.heap H locs)
    (hr : va_Run p l e R s m args below meth c H locs (Z.length - w0) (slS w0 Z) U.length (slS 1 (x :: U)) (F0 m pc ls' stk) (t.map (rv as)) (QcC D cA cQ (as k) H.size (x :: U) a) (AC (as k) H.size))
    (kk : WC p l e R s m args below meth c D cA cQ A w0 nL q0 Q (pc + 3) ls t (jn Z k (x :: U))) : W p l e R s m args below meth c H locs (Z.length - w0) (slS w0 Z) Q (F0 m pc ls' stk) := by
  have hA : ∀ q, s.heap.size ≤ q → A q := X.2.2.2.2.2.2.1
  have hkl : k < Z.length := (List.getElem?_eq_some_iff.mp hz).1
  have hk0 : (wr as cA cQ 0 Z)[k]? = some (as k, rE as cA cQ (.inr (.inr (ci, dfl ci)))) := by rw [wr_get, hz]; simp
  have hAC : ∀ q, AC (as k) H.size q → A q := by
    intro q hq
    rcases hq with rfl | hq
    · exact hD.2 k _ hk0
    · exact hA q (Nat.le_trans hS.1 hq)
  simp only [gd, Bool.and_eq_true] at hg
  obtain ⟨⟨g1, g2⟩, g3⟩ := hg
  refine va_callv (S := Nat → Nat) (a := a) hr hS (fun q _ h => hAC q h) hAC (fun ac t1 H1 locs1 ht hvm hpo hB hz1 hk1 hS1 => ?_)
  obtain ⟨hc0, hcD⟩ := hpo
  rw [ht] at hB
  have e1 := wr_jn (as := as) (ac := ac) (cA := cA) (cQ := cQ) (U := U) (x := x) hkl hc0.symm g1
  have hlt : ∀ (j : Nat) (q : Nat × va_E), (wr as cA cQ 0 Z)[j]? = some q → q.1 < H.size := fun j q hj => (hP j q hj).lt
  have hnew : ∀ (j : Nat) (q : Nat × va_E), (wr ac cA cQ 1 U)[j]? = some q → H.size ≤ q.1 := by
    intro j q hj
    have hj' : (wr ac cA cQ 0 (x :: U))[j + 1]? = some q := hj
    rcases hcD.2 _ _ hj' with h | h
    · have := hcD.1 (j + 1) 0 q (ac 0, rE ac cA cQ x) hj' rfl (by rw [h, hc0])
      omega
    · exact h
  have hP1 : va_P D vwCl ((wr as cA cQ 0 Z).set k (as k, rE ac cA cQ x) ++ wr ac cA cQ 1 U) H1 := by
    refine va_P.app ?_ (fun j q hj => hB (j + 1) q hj)
    intro j q hj
    rw [List.getElem?_set] at hj
    by_cases h : k = j
    · subst h
      rw [if_pos rfl, if_pos (by rw [wr_len]; exact hkl)] at hj
      cases hj
      have := hB 0 (ac 0, rE ac cA cQ x) rfl
      rw [hc0] at this
      exact this
    · rw [if_neg h] at hj
      refine (hP j q hj).kept (hk1 q.1 (hlt j q hj) ?_)
      rintro (h1 | h1)
      · exact h (hD.1 j k q _ hj hk0 h1).symm
      · have := hlt j q hj
        omega
  have hD1 : va_D A ((wr as cA cQ 0 Z).set k (as k, rE ac cA cQ x) ++ wr ac cA cQ 1 U) := by
    refine va_D.app (va_D.set hD hk0) ⟨fun i j y q hi hj hyq => ?_, fun j q hj => hA _ (Nat.le_trans hS.1 (hnew j q hj))⟩ (fun i j y q hi hj => ?_)
    · have := hcD.1 (i + 1) (j + 1) y q hi hj hyq
      omega
    · have h1 := hnew j q hj
      have h2 : y.1 < H.size := by
        rw [List.getElem?_set] at hi
        by_cases h : k = i
        · rw [if_pos h, if_pos (by rw [wr_len]; exact hkl)] at hi
          cases hi
          have h9 := hlt k _ hk0
          exact h9
        · rw [if_neg h] at hi
          exact hlt i y hi
      omega
  have h1 := kk (jas as ac Z.length) ls' H1 locs1 (fun q hq => by rw [jas_agr 0 (by omega)]; exact ha q hq) (LR_agr jas_agr g2 hL) (by rw [e1]; exact hP1) (by rw [e1]; exact hD1) hS1
  rw [slS_jn hw hz (by rw [hs]; rfl), map_agr jas_agr g3] at h1
  have e3 : (jn Z k (x :: U)).length - w0 = Z.length - w0 + U.length := by
    simp only [jn, List.length_append, List.length_set, List.length_map]
    omega
  rw [e3] at h1
  exact h1
end ECX
theorem gT_codeC {M : MI} (hM : cOK M) : GoodIn gT (Cond.code M.1 M.2.1 M.2.2.1 none :: gT) := by
  intro w hw
  rcases List.mem_cons.mp hw with rfl | hw
  · exact ⟨hM.1, Or.inl rfl⟩
  · exact gT_self w hw
theorem rmc_fits {M : MI} {d mc ms : Nat} {R : Room} (hM : cOK M) (hR : d + 1 ≤ R.frames ∧ 40 * (d + 1) ≤ R.locals) : (rmc d mc ms).frames + 1 ≤ R.frames ∧ 8 + (M.2.2.1 + 11) + (rmc d mc ms).locals ≤ R.locals := by
  have h1 : M.2.2.1 ≤ 21 := hM.2.2.2.2.1
  refine ⟨hR.1, ?_⟩
  show 8 + (M.2.2.1 + 11) + 40 * d ≤ R.locals
  omega
theorem one_P {D : va_G} {cA cQ : ClassId} {as : Nat → Nat} {H : Heap} {b ci : Nat} (h : va_at D vwCl (b, rE as cA cQ (.inr (.inr (ci, dfl ci)))) H) : va_P D vwCl [(b, .inr (ci, dfl ci))] H := by
  intro j q hj
  cases j with
  | zero =>
    cases hj
    simpa only [rE, dfl_rv] using h
  | succ j => simp at hj
section ECZ
variable {p : Program} {l : Launch} {e : Env} {R : Room} {s : State} {m : MethodId} {args : Array Value} {below : List Frame} {meth : Method} {c : Code} {D : va_G} {cA cQ : ClassId} {A : Nat → Prop} {w0 nL : Nat} {q0 : Option Nat} {Q : State → Prop} {cc : ByteArray} {own : Nat} {pc : Nat} {ls : List (Option Value)} {st t : List Value} {Z : List CE}
/-- a constructor of a nest mate -/
theorem y_callN {M : MI} {d ix k ci : Nat} {av : List Value} {x : CE} {U : List CE} (X : CY p R s m args meth c D cA cQ A nL cc own) (hM : cOK M) (hl : (cR own, ix, M.1) ∈ nestL) (hC : CtC d M ci av (x :: U)) (hw : w0 ≤ Z.length) (hg : gd Z ls t = true) (hz : Z[k]? = some (.inr (.inr (ci, dfl ci)))) (hs : sl x = cN ci) (hav : ∀ as, av.map (rv as) = av) (hn : av.length = M.2.2.2.2.1) (hck : ckr t = true) (hR : d + 1 ≤ R.frames ∧ 40 * (d + 1) ≤ R.locals) (hR2 : Z.length - w0 + U.length ≤ R.cells ∧ slS w0 Z + slS 1 (x :: U) ≤ R.slots) (hd : decode cc pc = .ok (.invokespecial ix, 3)) (kk : WC p l e R s m args below meth c D cA cQ A w0 nL q0 Q (pc + 3) ls t (jn Z k (x :: U))) : WC p l e R s m args below meth c D cA cQ A w0 nL q0 Q pc ls (av.reverse ++ .ref k :: t) Z := by
  intro as ls' H locs ha hL hP hD hS
  obtain ⟨hx, hb, hml, hown, hts, hK, hA, hnm⟩ := id X
  have hk0 : (wr as cA cQ 0 Z)[k]? = some (as k, rE as cA cQ (.inr (.inr (ci, dfl ci)))) := by rw [wr_get, hz]; simp
  refine y_join (a := (Value.ref (as k) :: av).toArray) X hw hg hz hs ha hL hP hD hS (va_runIN (As := av) (rest := t.map (rv as)) (ws := Cond.code M.1 M.2.1 M.2.2.1 none :: gT) (Ts := gT) (own := cR own) (host := "StairRegiment") (nL := nL) (n := M.2.2.2.2.1) ⟨hx, hb, hml, hown, hts⟩ (hC l D cA cQ (as k) H.size) ⟨va_cnB M.2.2.2.2.1 hts (gT_codeC hM) rfl rfl rfl (hK.2.1 _ hl) (hts _ hM.2.1) ⟨hM.2.2.2.1.1, hM.2.2.2.1.2, hM.2.2.2.2.2.2.2⟩ (rmc_fits hM hR), hM.2.2.2.2.2.2.1, hts _ hM.2.2.2.2.2.1⟩ ⟨PcC.blind D cA cQ ci _ av _, fun V hV hW => ⟨rfl, by rw [hV], by rw [hV]; exact one_P (hP k _ hk0), hK.warm hW, (hP k _ hk0).lt⟩⟩ rfl hn hL.2.1 ?_ (lv_room (ckr_sum hck)) hd hR2) kk
  simp [List.map_append, List.map_reverse, rv, hav]
/-- a constructor with an ordinary link -/
theorem y_callI {M : MI} {d ix k ci : Nat} {av : List Value} {x : CE} {U : List CE} (X : CY p R s m args meth c D cA cQ A nL cc own) (hM : cOK M) (hl : Cond.methodLink (cR own) ix M.1 ∈ gT) (hC : CtC d M ci av (x :: U)) (hw : w0 ≤ Z.length) (hg : gd Z ls t = true) (hz : Z[k]? = some (.inr (.inr (ci, dfl ci)))) (hs : sl x = cN ci) (hav : ∀ as, av.map (rv as) = av) (hn : av.length = M.2.2.2.2.1) (hck : ckr t = true) (hR : d + 1 ≤ R.frames ∧ 40 * (d + 1) ≤ R.locals) (hR2 : Z.length - w0 + U.length ≤ R.cells ∧ slS w0 Z + slS 1 (x :: U) ≤ R.slots) (hd : decode cc pc = .ok (.invokespecial ix, 3)) (kk : WC p l e R s m args below meth c D cA cQ A w0 nL q0 Q (pc + 3) ls t (jn Z k (x :: U))) : WC p l e R s m args below meth c D cA cQ A w0 nL q0 Q pc ls (av.reverse ++ .ref k :: t) Z := by
  intro as ls' H locs ha hL hP hD hS
  obtain ⟨hx, hb, hml, hown, hts, hK, hA, hnm⟩ := id X
  have hk0 : (wr as cA cQ 0 Z)[k]? = some (as k, rE as cA cQ (.inr (.inr (ci, dfl ci)))) := by rw [wr_get, hz]; simp
  refine y_join (a := (Value.ref (as k) :: av).toArray) X hw hg hz hs ha hL hP hD hS (va_runI (As := av) (rest := t.map (rv as)) (ws := Cond.code M.1 M.2.1 M.2.2.1 none :: gT) (Ts := gT) (own := cR own) (nL := nL) (n := M.2.2.2.2.1) ⟨hx, hb, hml, hown, hts⟩ (hC l D cA cQ (as k) H.size) ⟨callB_of M.2.2.2.2.1 hts (gT_codeC hM) rfl rfl rfl (hts _ hM.2.1) (hts _ hl) ⟨hM.2.2.2.1.1, hM.2.2.2.1.2, hM.2.2.2.2.2.2.2⟩ (rmc_fits hM hR), hM.2.2.2.2.2.2.1, hts _ hM.2.2.2.2.2.1⟩ ⟨PcC.blind D cA cQ ci _ av _, fun V hV hW => ⟨rfl, by rw [hV], by rw [hV]; exact one_P (hP k _ hk0), hK.warm hW, (hP k _ hk0).lt⟩⟩ rfl hn hL.2.1 ?_ (lv_room (ckr_sum hck)) hd hR2) kk
  simp [List.map_append, List.map_reverse, rv, hav]
end ECZ
set_option maxHeartbeats 4000000 in
/-- the contract of a constructor out of its run -/
theorem ctc_of {M : MI} {own d ci : Nat} {av : List Value} {Z : List CE} (hM : cOK M) (ho : cR own = M.1.cls) (havi : ∀ as, av.map (rv as) = av) (hav : ∀ v ∈ av, c1 v = true) (hlen : av.length + 1 ≤ M.2.2.1)
    (hrun : ∀ (p : Program) (l : Launch) (e : Env) (s : State) (m : MethodId) (args : Array Value) (below : List Frame) (meth : Method) (c : Code) (D : va_G) (cA cQ : ClassId) (A : Nat → Prop) (q : Nat) (Q : State → Prop), CY p (rmc (d + 1) (Z.length - 1) (slS 1 Z)) s m args meth c D cA cQ A M.2.2.1 M.2.1 own →
      (∀ (pc : Nat) (ls : List (Option Value)), decode M.2.1 pc = .ok (.return_, 1) → WC p l e (rmc (d + 1) (Z.length - 1) (slS 1 Z)) s m args below meth c D cA cQ A 1 M.2.2.1 (some q) Q pc ls [] Z) →
      WC p l e (rmc (d + 1) (Z.length - 1) (slS 1 Z)) s m args below meth c D cA cQ A 1 M.2.2.1 (some q) Q 0 (entL M.2.2.1 (.ref 0 :: av)) [] [.inr (.inr (ci, dfl ci))]) : CtC (d + 1) M ci av Z := by
  intro l D cA cQ b sz
  refine va_MetF (cc := M.2.1) (maxL := M.2.2.1) (ret := none) hM.2.2.1 rfl ?_
  intro p e s m args below meth c s₁ B hml hv
  obtain ⟨rfl, hsz, hP, hK, hb0⟩ := hv
  subst hsz
  have hx := B.exec
  have hb := B.bytes
  have hr := B.returns
  have hts0 := atoms_spec (ws := Cond.code M.1 M.2.1 M.2.2.1 none :: gT) B.pre
  have hts : ∀ w ∈ gT, w.before (Value.ref b :: av).toArray s = true := fun w hw => hts0 w (List.mem_cons_of_mem _ hw)
  have hown : s.vm.findClass (cR own) = some m.cls := by rw [ho]; exact findClass_of_methodNamed B.named
  have hnm : meth.name = "<init>" := (name_of_methodNamed B.named B.method).1.trans hM.2.2.2.2.2.2.1
  have X : CY p (rmc (d + 1) (Z.length - 1) (slS 1 Z)) s m (Value.ref b :: av).toArray meth c D cA cQ (AC b s.heap.size) M.2.2.1 M.2.1 own := ⟨hx, hb, hml, hown, hts, hK, fun q hq => Or.inr hq, hnm⟩
  have hS0 : va_S (AC b s.heap.size) s.heap s.heap [] := va_S.rf
  have e0 : (Value.ref b :: av) = (Value.ref 0 :: av).map (rv (fun _ => b)) := by simp [rv, havi]
  have hL := LR.entry (ad := fun _ => b) (n := M.2.2.1) (av := .ref 0 :: av) (by
    intro v hv
    rcases List.mem_cons.mp hv with rfl | hv
    · rfl
    · exact hav v hv) hlen
  rw [← e0] at hL
  have e1 : wr (fun _ => b) cA cQ 0 [.inr (.inr (ci, dfl ci))] = [(b, .inr (ci, dfl ci))] := by simp [wr, rE, dfl_rv]
  rw [lg_entry_eq]
  refine hrun p l e s m _ below meth c D cA cQ (AC b s.heap.size) b _ X (fun pc ls hd => ?_) (fun _ => b) _ s.heap [] (fun q hq => by cases hq; rfl) hL (by rw [e1]; exact hP) (by
    rw [e1]
    refine ⟨fun i j x y hi hj _ => ?_, fun k q hk => ?_⟩
    · have h1 := (List.getElem?_eq_some_iff.mp hi).1
      have h2 := (List.getElem?_eq_some_iff.mp hj).1
      simp only [List.length_cons, List.length_nil] at h1 h2
      omega
    · cases k with
      | zero => cases hk; exact Or.inl rfl
      | succ k => simp at hk) hS0
  intro as ls' H locs ha hL hP hD hS
  refine W.vret hx hb hr (fun t ht1 hW => ?_) hS.2.2 hd
  exact ⟨⟨as, rfl, ⟨ha b rfl, hD⟩, (by show va_P D vwCl (wr as cA cQ 0 Z) t.heap; rw [ht1]; exact hP)⟩, hS.F ht1⟩
