def R_law : String := "StairRegimentLaw"
def lw_P (b : Addr) (xs : List Int32) (args : Array Value) (s : State) : Prop := args = #[.ref b] ∧ s.IntsAt b xs ∧ xs.length ≤ 384 ∧ (Jvm.Cond.and given_1 narrow_1).before args s = true
def lw_Q (_ : Array Value) (s : State) (o : Outcome) (t : State) : Prop := o = .returned (some (.int 1)) ∧ Framed s o t [] 600000 7302250
def lw_Z (below : List Frame) (a : Array Value) (s : State) : State → Prop := fun t => ∃ o, t.status = .running ∧ Ended t below o ∧ lw_Q a s o t
/-- the law's own end, with 1 on the stack, nothing written that was there before, its room as the claim has it -/
theorem lw_ret {p : Program} {l : Launch} {e : Env} {s : State} {m : MethodId} {below : List Frame} {meth : Method} {c : Code} {b : Nat} (hx : p.tables.exec = Jvm.exec) (hb : c.code = code) (hr : meth.sig.returnType = ret) (hlocks : meth.locks = false) {pc : Nat} {H : Heap} {ls : Array Slot} (hdg : decode code pc = .ok (.ireturn, 1)) : W p l e room_1 s m #[Value.ref b] below meth c H [] 600000 7302250 (lw_Z below #[Value.ref b] s) (F0 m pc ls [.int 1]) := by
  intro T hT X
  obtain ⟨fs, hret, hrun, hended, hW, hframe⟩ := X.leave (v := some (.int 1)) (hlocks := hlocks) (fun h => by rw [hr] at h; cases h)
  have hmeth' : T.vm.method? m = some meth := X.method'
  refine ⟨T.setFrames fs, ?_, .returned (some (.int 1)), hrun, hended, rfl, ⟨_, rfl⟩, hW, hframe⟩
  jvm_step X.here [X.here.top, hx, hb, hdg, hmeth', hr, ret, narrow_b1]
  (try refine ⟨rfl, ?_⟩); (try refine ⟨rfl, ?_⟩)
  first | (intro acts; rw [hret _ acts rfl rfl rfl]) | rw [hret _ _ rfl rfl rfl]
  exact Steps.refl _
/-- what holds at the law's entry: the machine, the code, the tables' words (any of lw_tbl by 'hts w (by decide +kernel)'), the script of L ints xs at the cell b, what the Statement gives of the start (any of its parts by flat_of_before) -/
def lw_At (p : Program) (s : State) (m : MethodId) (meth : Method) (c : Code) (b L : Nat) (xs : Nat → Int32) : Prop :=
  p.tables.exec = Jvm.exec ∧ c.code = code ∧ meth.sig.returnType = ret ∧ c.maxLocals = 4 ∧ s.vm.findClass R_law = some m.cls ∧ (∀ w ∈ lw_tbl, w.before #[Value.ref b] s = true) ∧ va_X b L xs s s.heap ∧ b < s.heap.size ∧ meth.locks = false ∧ (Jvm.Cond.and given_1 narrow_1).before #[Value.ref b] s = true
/-! ===== the law's entry: two constructors, with the locals held fast ===== -/
def WL (p : Program) (l : Launch) (e : Env) (R : Room) (s : State) (m : MethodId) (args : Array Value) (below : List Frame) (meth : Method) (c : Code) (D : va_G) (cA cQ : ClassId) (A : Nat → Prop) (q0 : Option Nat) (Q : State → Prop) (pc : Nat) (ls' : Array Slot) (st : List Value) (Z : List CE) : Prop :=
  ∀ (as : Nat → Nat) (H : Heap) (locs : List Loc), (∀ q, q0 = some q → as 0 = q) → va_P D vwCl (wr as cA cQ 0 Z) H → va_D A (wr as cA cQ 0 Z) → va_S A s.heap H locs → W p l e R s m args below meth c H locs Z.length (slS 0 Z) Q (F0 m pc ls' (st.map (rv as)))
section EZA
variable {p : Program} {l : Launch} {e : Env} {R : Room} {s : State} {m : MethodId} {args : Array Value} {below : List Frame} {meth : Method} {c : Code} {D : va_G} {cA cQ : ClassId} {A : Nat → Prop} {nL : Nat} {q0 : Option Nat} {Q : State → Prop} {cc : ByteArray} {own : Nat} {pc : Nat} {ls' : Array Slot} {st t : List Value} {Z : List CE}
theorem z_push {x : CE} (h0 : q0 = none ∨ 0 < Z.length) (hg : gd Z [] st = true) (hx : rbE Z.length x = true) (k : WL p l e R s m args below meth c D cA cQ A q0 Q pc ls' (.ref Z.length :: st) (Z ++ [x])) {as : Nat → Nat} {H : Heap} {locs : List Loc} {q : Nat} (ha : ∀ q, q0 = some q → as 0 = q) (hP : va_P D vwCl (wr as cA cQ 0 Z ++ [(q, rE as cA cQ x)]) H) (hD : va_D A (wr as cA cQ 0 Z ++ [(q, rE as cA cQ x)])) (hS : va_S A s.heap H locs) : W p l e R s m args below meth c H locs (Z.length + 1) (slS 0 Z + sl x) Q (F0 m pc ls' (.ref q :: st.map (rv as))) := by
  simp only [gd, Bool.and_eq_true] at hg
  obtain ⟨⟨g1, g2⟩, g3⟩ := hg
  have hag : agr Z.length as (fun k => if k = Z.length then q else as k) := fun k hk => if_neg (Nat.ne_of_lt hk)
  have e1 : wr (fun k => if k = Z.length then q else as k) cA cQ 0 (Z ++ [x]) = wr as cA cQ 0 Z ++ [(q, rE as cA cQ x)] := by
    rw [wr_app, wr_agr hag (by omega) g1]
    simp [wr, rE_agr hag hx]
  have h1 := k (fun k => if k = Z.length then q else as k) H locs (fun q' hq => by
    rcases h0 with h | h
    · rw [h] at hq; cases hq
    · rw [if_neg (by omega)]; exact ha q' hq) (by rw [e1]; exact hP) (by rw [e1]; exact hD) hS
  rw [slS_app (Nat.zero_le _), List.length_append] at h1
  rw [List.map_cons, map_agr hag g3] at h1
  simpa [rv] using h1
theorem z_new {ci ix : Nat} (hx : p.tables.exec = Jvm.exec) (hb : c.code = cc) (hown : s.vm.findClass (cR own) = some m.cls) (hts : ∀ w ∈ gT, w.before args s = true) (hK : KC D cA cQ s) (hA : ∀ q, s.heap.size ≤ q → A q) (h0 : q0 = none ∨ 0 < Z.length) (hg : gd Z [] st = true) (hci : ci < 12) (hl : Cond.classLink (cR own) ix (cR ci) ∈ gT) (hin : Cond.instantiable (cR ci) (cN ci) ∈ gT) (hini : Cond.initialized (cR ci) ∈ gT) (hR : Z.length + 1 ≤ R.cells ∧ slS 0 Z + cN ci ≤ R.slots) (hd : decode cc pc = .ok (.new ix, 3)) (k : WL p l e R s m args below meth c D cA cQ A q0 Q (pc + 3) ls' (.ref Z.length :: st) (Z ++ [.inr (.inr (ci, dfl ci))])) : WL p l e R s m args below meth c D cA cQ A q0 Q pc ls' st Z := by
  intro as H locs ha hP hD hS
  refine va_new (ci := ci) (fs := dfl ci) (C := cR ci) (T := cT ci) (N := cN ci) hx hb hts (cls_ws hci) (cTy ci) (cls_ty ci hci) hown (hts _ hl) (hts _ hin) (hts _ hini) hK.1 hP hD hS hA (cls_vw ci hci) (fun j hj => ?_) hR.1 hR.2 hd (fun q H1 hP1 hD1 hS1 => ?_)
  · exact dfl_ok ci hci j hj
  · have e : rE as cA cQ (.inr (.inr (ci, dfl ci))) = .inr (ci, dfl ci) := by simp only [rE, dfl_rv]
    exact z_push (x := .inr (.inr (ci, dfl ci))) h0 hg (dfl_rb ci Z.length) k ha (by rw [e]; exact hP1) (by rw [e]; exact hD1) hS1
theorem z_dup {v : Value} (hx : p.tables.exec = Jvm.exec) (hb : c.code = cc) (hv : c1 v = true) (hd : decode cc pc = .ok (.dup, 1)) (kk : WL p l e R s m args below meth c D cA cQ A q0 Q (pc + 1) ls' (v :: v :: t) Z) : WL p l e R s m args below meth c D cA cQ A q0 Q pc ls' (v :: t) Z := by
  intro as H locs ha hP hD hS
  exact lv_dup hx hb hd (rv_c1 hv) (kk as H locs ha hP hD hS)
theorem z_join {k ci : Nat} {x : CE} {U : List CE} (hA : ∀ q, s.heap.size ≤ q → A q) (hg : gd Z [] t = true) (hz : Z[k]? = some (.inr (.inr (ci, dfl ci)))) (hs : sl x = cN ci) {as : Nat → Nat} {H : Heap} {locs : List Loc} {stk : List Value} {a : Array Value} (ha : ∀ q, q0 = some q → as 0 = q) (hP : va_P D vwCl (wr as cA cQ 0 Z) H) (hD : va_D A (wr as cA cQ 0 Z)) (hS : va_S A s.heap H locs)
    (hr : va_Run p l e R s m args below meth c H locs Z.length (slS 0 Z) U.length (slS 1 (x :: U)) (F0 m pc ls' stk) (t.map (rv as)) (QcC D cA cQ (as k) H.size (x :: U) a) (AC (as k) H.size))
    (kk : WL p l e R s m args below meth c D cA cQ A q0 Q (pc + 3) ls' t (jn Z k (x :: U))) : W p l e R s m args below meth c H locs Z.length (slS 0 Z) Q (F0 m pc ls' stk) := by
  have hkl : k < Z.length := (List.getElem?_eq_some_iff.mp hz).1
  have hk0 : (wr as cA cQ 0 Z)[k]? = some (as k, rE as cA cQ (.inr (.inr (ci, dfl ci)))) := by rw [wr_get, hz]; simp
  have hAC : ∀ q, AC (as k) H.size q → A q := by
    intro q hq
    rcases hq with rfl | hq
    · exact hD.2 k _ hk0
    · exact hA q (Nat.le_trans hS.1 hq)
  simp only [gd, Bool.and_eq_true] at hg
  obtain ⟨⟨g1, g2⟩, g3⟩ := hg
  refine va_callv (S := Nat → Nat) (a := a) hr hS (fun q _ h => hAC q h) hAC (fun ac t1 H1 locs1 ht hvm hpo hB hz1 hk1 hS1 => ?_)
  obtain ⟨hc0, hcD⟩ := hpo
  rw [ht] at hB
  have e1 := wr_jn (as := as) (ac := ac) (cA := cA) (cQ := cQ) (U := U) (x := x) hkl hc0.symm g1
  have hlt : ∀ (j : Nat) (q : Nat × va_E), (wr as cA cQ 0 Z)[j]? = some q → q.1 < H.size := fun j q hj => (hP j q hj).lt
  have hnew : ∀ (j : Nat) (q : Nat × va_E), (wr ac cA cQ 1 U)[j]? = some q → H.size ≤ q.1 := by
    intro j q hj
    have hj' : (wr ac cA cQ 0 (x :: U))[j + 1]? = some q := hj
    rcases hcD.2 _ _ hj' with h | h
    · have := hcD.1 (j + 1) 0 q (ac 0, rE ac cA cQ x) hj' rfl (by rw [h, hc0])
      omega
    · exact h
  have hP1 : va_P D vwCl ((wr as cA cQ 0 Z).set k (as k, rE ac cA cQ x) ++ wr ac cA cQ 1 U) H1 := by
    refine va_P.app ?_ (fun j q hj => hB (j + 1) q hj)
    intro j q hj
    rw [List.getElem?_set] at hj
    by_cases h : k = j
    · subst h
      rw [if_pos rfl, if_pos (by rw [wr_len]; exact hkl)] at hj
      cases hj
      have := hB 0 (ac 0, rE ac cA cQ x) rfl
      rw [hc0] at this
      exact this
    · rw [if_neg h] at hj
      refine (hP j q hj).kept (hk1 q.1 (hlt j q hj) ?_)
      rintro (h1 | h1)
      · exact h (hD.1 j k q _ hj hk0 h1).symm
      · have := hlt j q hj
        omega
  have hD1 : va_D A ((wr as cA cQ 0 Z).set k (as k, rE ac cA cQ x) ++ wr ac cA cQ 1 U) := by
    refine va_D.app (va_D.set hD hk0) ⟨fun i j y q hi hj hyq => ?_, fun j q hj => hA _ (Nat.le_trans hS.1 (hnew j q hj))⟩ (fun i j y q hi hj => ?_)
    · have := hcD.1 (i + 1) (j + 1) y q hi hj hyq
      omega
    · have h1 := hnew j q hj
      have h2 : y.1 < H.size := by
        rw [List.getElem?_set] at hi
        by_cases h : k = i
        · rw [if_pos h, if_pos (by rw [wr_len]; exact hkl)] at hi
          cases hi
          have h9 := hlt k _ hk0
          exact h9
        · rw [if_neg h] at hi
          exact hlt i y hi
      omega
  have h1 := kk (jas as ac Z.length) H1 locs1 (fun q hq => by rw [jas_agr 0 (by omega)]; exact ha q hq) (by rw [e1]; exact hP1) (by rw [e1]; exact hD1) hS1
  rw [slS_jn (Nat.zero_le _) hz (by rw [hs]; rfl), map_agr jas_agr g3] at h1
  have e3 : (jn Z k (x :: U)).length = Z.length + U.length := by
    simp only [jn, List.length_append, List.length_set, List.length_map]
  rw [e3] at h1
  exact h1
theorem z_callI {M : MI} {d ix k ci : Nat} {av : List Value} {x : CE} {U : List CE} (hx : p.tables.exec = Jvm.exec) (hb : c.code = cc) (hml : c.maxLocals = nL) (hls : ls'.size = nL) (hown : s.vm.findClass (cR own) = some m.cls) (hts : ∀ w ∈ gT, w.before args s = true) (hK : KC D cA cQ s) (hA : ∀ q, s.heap.size ≤ q → A q) (hM : cOK M) (hl : Cond.methodLink (cR own) ix M.1 ∈ gT) (hC : CtC d M ci av (x :: U)) (hg : gd Z [] t = true) (hz : Z[k]? = some (.inr (.inr (ci, dfl ci)))) (hs : sl x = cN ci) (hav : ∀ as, av.map (rv as) = av) (hn : av.length = M.2.2.2.2.1) (hck : ckr t = true) (hR : d + 1 ≤ R.frames ∧ 40 * (d + 1) ≤ R.locals) (hR2 : Z.length + U.length ≤ R.cells ∧ slS 0 Z + slS 1 (x :: U) ≤ R.slots) (hd : decode cc pc = .ok (.invokespecial ix, 3)) (kk : WL p l e R s m args below meth c D cA cQ A q0 Q (pc + 3) ls' t (jn Z k (x :: U))) : WL p l e R s m args below meth c D cA cQ A q0 Q pc ls' (av.reverse ++ .ref k :: t) Z := by
  intro as H locs ha hP hD hS
  have hk0 : (wr as cA cQ 0 Z)[k]? = some (as k, rE as cA cQ (.inr (.inr (ci, dfl ci)))) := by rw [wr_get, hz]; simp
  refine z_join (a := (Value.ref (as k) :: av).toArray) hA hg hz hs ha hP hD hS (va_runI (As := av) (rest := t.map (rv as)) (ws := Cond.code M.1 M.2.1 M.2.2.1 none :: gT) (Ts := gT) (own := cR own) (nL := nL) (n := M.2.2.2.2.1) ⟨hx, hb, hml, hown, hts⟩ (hC l D cA cQ (as k) H.size) ⟨callB_of M.2.2.2.2.1 hts (gT_codeC hM) rfl rfl rfl (hts _ hM.2.1) (hts _ hl) ⟨hM.2.2.2.1.1, hM.2.2.2.1.2, hM.2.2.2.2.2.2.2⟩ (rmc_fits hM hR), hM.2.2.2.2.2.2.1, hts _ hM.2.2.2.2.2.1⟩ ⟨PcC.blind D cA cQ ci _ av _, fun V hV hW => ⟨rfl, by rw [hV], by rw [hV]; exact one_P (hP k _ hk0), hK.warm hW, (hP k _ hk0).lt⟩⟩ rfl hn hls ?_ (lv_room (ckr_sum hck)) hd hR2) kk
  simp [List.map_append, List.map_reverse, rv, hav]
end EZA
def hdS (ci : Nat) : List CE → Bool
  | x :: _ => Nat.beq (sl x) (cN ci)
  | [] => false
theorem z_callZ {p : Program} {l : Launch} {e : Env} {R : Room} {s : State} {m : MethodId} {args : Array Value} {below : List Frame} {meth : Method} {c : Code} {D : va_G} {cA cQ : ClassId} {A : Nat → Prop} {nL : Nat} {q0 : Option Nat} {Q : State → Prop} {cc : ByteArray} {own : Nat} {pc : Nat} {ls' : Array Slot} {Z : List CE} {M : MI} {d ix k ci : Nat} {Zc : List CE} (hx : p.tables.exec = Jvm.exec) (hb : c.code = cc) (hml : c.maxLocals = nL) (hls : ls'.size = nL) (hown : s.vm.findClass (cR own) = some m.cls) (hts : ∀ w ∈ gT, w.before args s = true) (hK : KC D cA cQ s) (hA : ∀ q, s.heap.size ≤ q → A q) (hM : cOK M) (hl : Cond.methodLink (cR own) ix M.1 ∈ gT) (hC : CtC d M ci [] Zc) (hg : gd Z [] [.ref k] = true) (hz : Z[k]? = some (.inr (.inr (ci, dfl ci)))) (hs : hdS ci Zc = true) (hn : 0 = M.2.2.2.2.1) (hR : d + 1 ≤ R.frames ∧ 40 * (d + 1) ≤ R.locals) (hR2 : Z.length + (Zc.length - 1) ≤ R.cells ∧ slS 0 Z + slS 1 Zc ≤ R.slots) (hd : decode cc pc = .ok (.invokespecial ix, 3)) (kk : WL p l e R s m args below meth c D cA cQ A q0 Q (pc + 3) ls' [.ref k] (jn Z k Zc)) : WL p l e R s m args below meth c D cA cQ A q0 Q pc ls' [.ref k, .ref k] Z := by
  cases Zc with
  | nil => cases hs
  | cons x U => exact z_callI (av := []) hx hb hml hls hown hts hK hA hM hl hC hg hz (beq_t hs) (fun _ => rfl) hn rfl hR hR2 hd kk
def zF : List CE := [.inr (.inr (10, [.ref 1, .ref 37, .int 0, .ref 73, .ref 74, .int 0, .int 0, .ref 75, .int 0, .ref 76, .int 0, .int (-1), .ref 90, .ref 100])), .inr (.inr (6, [.ref 2, .ref 5, .ref 7, .ref 15, .ref 17, .ref 19, .ref 21])), .inr (.inr (1, [.ref 3, .ref 4, .int 0, .int 0, .int 0, .int 0, .int 0])), .inl (864, []), .inl (6, []), .inr (.inr (0, [.ref 6, .int 0])), .inl (600, []), .inr (.inr (2, [.ref 8, .int 0, .ref 9, .ref 10, .ref 11, .ref 12, .int 0, .ref 13, .ref 14])), .inl (400, []), .inl (16, []), .inl (16, []), .inl (16, []), .inl (16, []), .inl (11, []), .inl (32, []), .inr (.inr (3, [.ref 16, .int 0])), .inl (80, []), .inr (.inr (3, [.ref 18, .int 0])), .inl (80, []), .inr (.inr (3, [.ref 20, .int 0])), .inl (80, []), .inr (.inr (9, [.ref 22, .ref 24, .ref 26, .ref 28, .ref 30, .ref 32, .ref 34, .int 1234567, .ref 36])), .inr (.inr (8, [.ref 23, .int 0])), .inl (8, []), .inr (.inr (8, [.ref 25, .int 0])), .inl (8, []), .inr (.inr (8, [.ref 27, .int 0])), .inl (7, []), .inr (.inr (8, [.ref 29, .int 0])), .inl (12, []), .inr (.inr (8, [.ref 31, .int 0])), .inl (7, []), .inr (.inr (8, [.ref 33, .int 0])), .inl (8, []), .inr (.inr (8, [.ref 35, .int 0])), .inl (10, []), .inl (9, []), .inr (.inr (6, [.ref 38, .ref 41, .ref 43, .ref 51, .ref 53, .ref 55, .ref 57])), .inr (.inr (1, [.ref 39, .ref 40, .int 0, .int 0, .int 0, .int 0, .int 0])), .inl (864, []), .inl (6, []), .inr (.inr (0, [.ref 42, .int 0])), .inl (600, []), .inr (.inr (2, [.ref 44, .int 0, .ref 45, .ref 46, .ref 47, .ref 48, .int 0, .ref 49, .ref 50])), .inl (400, []), .inl (16, []), .inl (16, []), .inl (16, []), .inl (16, []), .inl (11, []), .inl (32, []), .inr (.inr (3, [.ref 52, .int 0])), .inl (80, []), .inr (.inr (3, [.ref 54, .int 0])), .inl (80, []), .inr (.inr (3, [.ref 56, .int 0])), .inl (80, []), .inr (.inr (9, [.ref 58, .ref 60, .ref 62, .ref 64, .ref 66, .ref 68, .ref 70, .int 1234567, .ref 72])), .inr (.inr (8, [.ref 59, .int 0])), .inl (8, []), .inr (.inr (8, [.ref 61, .int 0])), .inl (8, []), .inr (.inr (8, [.ref 63, .int 0])), .inl (7, []), .inr (.inr (8, [.ref 65, .int 0])), .inl (12, []), .inr (.inr (8, [.ref 67, .int 0])), .inl (7, []), .inr (.inr (8, [.ref 69, .int 0])), .inl (8, []), .inr (.inr (8, [.ref 71, .int 0])), .inl (10, []), .inl (9, []), .inr (.inl (6, [some 105, some 108, some 111, some 114, some 117, some 120])), .inl (6, []), .inl (400, []), .inr (.inr (5, [.ref 77, .ref 78, .ref 79, .int 0, .int 0, .int 0, .int 0, .int 0, .ref 80, .ref 88])), .inl (401, []), .inl (401, []), .inl (401, []), .inr (.inr (2, [.ref 81, .int 0, .ref 82, .ref 83, .ref 84, .ref 85, .int 0, .ref 86, .ref 87])), .inl (400, []), .inl (16, []), .inl (16, []), .inl (16, []), .inl (16, []), .inl (11, []), .inl (32, []), .inr (.inr (3, [.ref 89, .int 0])), .inl (80, []), .inr (.inr (4, [.ref 91, .ref 94, .ref 95, .ref 96, .ref 97, .ref 98, .ref 99, .int 0])), .inr (.inr (1, [.ref 92, .ref 93, .int 0, .int 0, .int 0, .int 0, .int 0])), .inl (864, []), .inl (6, []), .inl (17, []), .inl (17, []), .inl (5, []), .inl (5, []), .inl (96, []), .inl (96, []), .inr (.inr (7, [.ref 101, .ref 102, .ref 103, .ref 104])), .inl (128, []), .inl (128, []), .inl (10, []), .inl (10, []), .inr (.inr (1, [.ref 106, .ref 107, .int 0, .int 0, .int 0, .int 0, .int 0])), .inl (864, []), .inl (6, []), .inr (.inr (1, [.ref 109, .ref 110, .int 0, .int 0, .int 0, .int 0, .int 0])), .inl (864, []), .inl (6, []), .inr (.inr (1, [.ref 112, .ref 113, .int 0, .int 0, .int 0, .int 0, .int 0])), .inl (864, []), .inl (6, []), .inr (.inr (1, [.ref 115, .ref 116, .int 0, .int 0, .int 0, .int 0, .int 0])), .inl (864, []), .inl (6, []), .inr (.inr (1, [.ref 118, .ref 119, .int 0, .int 0, .int 0, .int 0, .int 0])), .inl (864, []), .inl (6, []), .inr (.inr (1, [.ref 121, .ref 122, .int 0, .int 0, .int 0, .int 0, .int 0])), .inl (864, []), .inl (6, []), .inr (.inr (11, [.int 0, .ref 124, .ref 125, .int 0, .ref 126, .int 0, .int 0, .ref 127, .ref 128, .ref 129, .ref 130, .int 0, .int 0, .int 0, .int 0, .int 0, .ref 131, .ref 132, .ref 133, .ref 134, .ref 135, .ref 136, .ref 137, .ref 138, .int 0, .int 0, .int 0, .ref 139, .int 0, .int 0, .int 0, .int 0, .int (-1), .int 0, .ref 140, .int 0, .ref 141, .int 0, .ref 142, .ref 143, .ref 144, .int 0, .ref 145, .int 0, .ref 146, .ref 147, .int 0, .ref 148, .ref 149, .ref 150, .ref 151, .int 0, .ref 152, .int 0, .int 0, .int 0, .ref 153, .int 0, .ref 154, .ref 155, .ref 156, .int 0, .ref 157, .ref 158, .int 0, .ref 159, .ref 160, .ref 161, .ref 162, .int 0, .int 0, .int 0, .ref 163])), .inl (773, []), .inl (4638, []), .inl (773, []), .inl (6, []), .inl (96, []), .inl (600, []), .inl (400, []), .inl (170, [(169, 32), (168, 114), (167, 111), (166, 111), (165, 100), (164, 32), (163, 110), (162, 119), (161, 111), (160, 100), (159, 32), (158, 112), (157, 117), (156, 32), (155, 110), (154, 101), (153, 115), (152, 111), (151, 111), (150, 108), (149, 32), (148, 100), (147, 110), (146, 101), (145, 109), (144, 32), (143, 101), (142, 114), (141, 97), (140, 98), (139, 32), (138, 116), (137, 114), (136, 101), (135, 115), (134, 101), (133, 100), (132, 32), (131, 101), (130, 118), (129, 97), (128, 101), (127, 108), (126, 32), (125, 104), (124, 99), (123, 116), (122, 97), (121, 119), (120, 32), (119, 112), (118, 101), (117, 116), (116, 115), (115, 32), (114, 116), (113, 104), (112, 103), (111, 105), (110, 108), (109, 102), (108, 32), (107, 110), (106, 111), (105, 32), (104, 116), (103, 104), (102, 103), (101, 105), (100, 110), (99, 32), (98, 101), (97, 100), (96, 105), (95, 114), (94, 116), (93, 115), (92, 32), (91, 100), (90, 101), (89, 108), (88, 105), (87, 97), (86, 102), (85, 32), (84, 100), (83, 114), (82, 97), (81, 101), (80, 104), (79, 32), (78, 114), (77, 101), (76, 98), (75, 109), (74, 117), (73, 110), (72, 32), (71, 116), (70, 104), (69, 103), (68, 105), (67, 101), (66, 104), (65, 32), (64, 116), (63, 101), (62, 112), (61, 114), (60, 97), (59, 99), (58, 32), (57, 107), (56, 110), (55, 97), (54, 114), (53, 32), (52, 101), (51, 115), (50, 111), (49, 111), (48, 108), (47, 32), (46, 114), (45, 97), (44, 101), (43, 119), (42, 32), (41, 116), (40, 104), (39, 103), (38, 105), (37, 101), (36, 119), (35, 32), (34, 116), (33, 111), (32, 110), (31, 32), (30, 100), (29, 110), (28, 97), (27, 32), (26, 114), (25, 111), (24, 32), (23, 110), (22, 101), (21, 104), (20, 119), (19, 32), (18, 115), (17, 101), (16, 115), (15, 105), (14, 114), (13, 32), (12, 115), (11, 114), (10, 97), (9, 101), (8, 119), (7, 32), (6, 115), (5, 107), (4, 97), (3, 101), (2, 114), (1, 99), (0, 32)]), .inl (2, []), .inl (48, []), .inl (48, []), .inl (48, []), .inl (48, []), .inl (1200, []), .inl (1200, []), .inl (40, []), .inl (96, []), .inl (160, []), .inl (64, []), .inl (11, []), .inl (420, []), .inl (17, []), .inl (8, []), .inl (8, []), .inl (7, []), .inl (4, []), .inl (289, []), .inl (96, []), .inl (8, []), .inl (12, []), .inl (7, []), .inl (128, []), .inl (128, []), .inl (8, []), .inl (3, []), .inl (10, []), .inl (10, []), .inl (10, []), .inl (9, []), .inl (3200, [])]
def zX : List CE := jn [.inr (.inr (10, dfl 10))] 0 zC10
set_option maxRecDepth 1000000 in
theorem zF_ok : jn (zX ++ [.inr (.inr (11, dfl 11))]) 123 zC11 = zF := Option.some.inj (@of_decide_eq_true _ (dZ (some (jn (zX ++ [.inr (.inr (11, dfl 11))]) 123 zC11)) (some zF)) (by decide +kernel))
/-- the memory behind the two constructors -/
def S0 (c k : Nat) : Int32 := match zF[c]? with
  | some (.inl q) => look q.2 k
  | some (.inr (.inr q)) => (match q.2[k]? with
    | some (.int v) => v
    | _ => 0)
  | _ => 0
def eqE (c : Nat) (x : CE) : Bool := match x with
  | .inl q => Nat.beq (kd c) 1 && Nat.beq (ln c) q.1
  | .inr (.inl q) => Nat.beq (kd c) 2 && Nat.beq (ln c) q.1 && (List.range q.1).all fun i => decide (nth none q.2 i = some (rf c i)) && Nat.ble (rf c i + 1) 164
  | .inr (.inr q) => Nat.beq (kd c) (q.1 + 3) && decide (q.2 = (List.range (cN q.1)).map fun k => if fk q.1 k = 0 then Value.ref (rf c k) else Value.int (S0 c k)) && (List.range (cN q.1)).all fun k => (!(Nat.beq (fk q.1 k) 0)) || Nat.ble (rf c k + 1) 164
def eqO (c : Nat) : Option CE → Bool
  | some x => eqE c x
  | none => false
set_option maxRecDepth 1000000 in
theorem eqE_ok : ∀ c, c < 164 → eqO c zF[c]? = true := by decide +kernel
theorem arrV_same {cI : ClassId} {N : Nat} {f g : Nat → Value} (h : ∀ j, j < N → f j = g j) : arrV cI N f = arrV cI N g := by
  unfold arrV
  congr 1
  apply Array.ext
  · simp
  · intro i h1 h2
    simp only [Array.getElem_ofFn]
    exact h i (by simpa using h1)
theorem wd_of {as ad : Nat → Nat} {cA cQ : ClassId} {D : va_G} {H : Heap} (ha : ∀ k, k < 164 → ad k = as k) (hP : va_P D vwCl (wr as cA cQ 0 zF) H) : va_P D vwCl (wd ad cA cQ S0) H := by
  intro k q hq
  have hk : k < nC := by
    have := (List.getElem?_eq_some_iff.mp hq).1
    rwa [wd_len] at this
  rw [wd_get hk] at hq
  cases hq
  have hE := eqE_ok k hk
  cases hz : zF[k]? with
  | none => rw [hz] at hE; cases hE
  | some x =>
    rw [hz] at hE
    have h1 := hP k (as k, rE as cA cQ x) (by rw [wr_get, hz]; simp)
    show va_at D vwCl (ad k, wE ad cA cQ S0 k) H
    rw [ha k hk]
    match x, hE, h1, hz with
    | .inl q, hE, h1, hz =>
      simp only [eqO, eqE, Bool.and_eq_true] at hE
      have e1 := beq_t hE.1
      have e2 := beq_t hE.2
      have e3 : S0 k = look q.2 := by
        funext j
        simp only [S0, hz]
      rw [wE_arr e1, e2, e3]
      exact h1
    | .inr (.inl q), hE, h1, hz =>
      simp only [eqO, eqE, Bool.and_eq_true] at hE
      obtain ⟨⟨e1, e2⟩, e3⟩ := hE
      rw [wE_qar (beq_t e1), beq_t e2]
      have h2 : H[as k]? = some (arrV cQ q.1 (fun j => va_rf ((nth none q.2 j).map as))) := h1
      show H[as k]? = some (arrV cQ q.1 (fun j => va_rf (some (ad (rf k j)))))
      rw [h2]
      congr 1
      apply arrV_same
      intro j hj
      have := List.all_eq_true.mp e3 j (List.mem_range.mpr hj)
      simp only [Bool.and_eq_true, decide_eq_true_eq] at this
      rw [this.1, ha _ (Nat.le_of_ble_eq_true this.2)]
      rfl
    | .inr (.inr q), hE, h1, hz =>
      simp only [eqO, eqE, Bool.and_eq_true] at hE
      obtain ⟨⟨e1, e2⟩, e3⟩ := hE
      have e2 := of_decide_eq_true e2
      rw [wE_obj (beq_t e1)]
      have e4 : wF ad S0 k q.1 = q.2.map (rv as) := by
        rw [e2, List.map_map]
        unfold wF
        apply List.map_congr_left
        intro j hj
        have h3 := List.all_eq_true.mp e3 j hj
        simp only [Function.comp]
        by_cases h4 : fk q.1 j = 0
        · rw [if_pos h4, if_pos h4]
          rw [h4] at h3
          simp only [show Nat.beq 0 0 = true from rfl, Bool.not_true, Bool.false_or] at h3
          rw [ha _ (Nat.le_of_ble_eq_true h3)]
          rfl
        · rw [if_neg h4, if_neg h4]
          rfl
      rw [e4]
      exact h1
def inL : List Nat := [77, 36, 91, 126, 287, 242, 30, 320, 149, 143, 22, 1195]
set_option maxRecDepth 1000000 in
theorem inL_ok : ∀ ci, ci < 12 → tables_1[nth 0 inL ci]? = some (Cond.instantiable (cR ci) (cN ci)) ∧ goodWord (Cond.instantiable (cR ci) (cN ci)) = true := by decide +kernel
theorem in_ci (ci : Nat) (h : ci < 12) : Cond.instantiable (cR ci) (cN ci) ∈ gT := gT_of (in_T (List.mem_of_getElem? (inL_ok ci h).1)) (inL_ok ci h).2
def tmS (i : Nat) : Term := match i with
  | 0 => .string "StairRegiment$Parser" 82
  | _ => .string "StairRegiment$Parser" 88
set_option maxRecDepth 1000000 in
theorem elS0 : ∀ j, j < 105 → (flatC (Jvm.Cond.and given_1 narrow_1))[13 + j]? = some (Cond.eq (.elem (.field (tmS 0) "java/lang/String" "value" "[B") (.int (Int32.ofNat j))) (.int ((strT 1001).getD j 0))) := by decide +kernel
set_option maxRecDepth 1000000 in
theorem elS1 : ∀ j, j < 64 → (flatC (Jvm.Cond.and given_1 narrow_1))[122 + j]? = some (Cond.eq (.elem (.field (tmS 1) "java/lang/String" "value" "[B") (.int (Int32.ofNat j))) (.int ((strT 1002).getD j 0))) := by decide +kernel
theorem fl_at {args : Array Value} {s : State} (h : ∀ c ∈ flatC (Jvm.Cond.and given_1 narrow_1), c.before args s = true) (i : Nat) {w : Cond} (hw : (flatC (Jvm.Cond.and given_1 narrow_1))[i]? = some w) : w.before args s = true := h w (List.mem_of_getElem? hw)
set_option maxRecDepth 1000000 in
theorem flS : (flatC (Jvm.Cond.and given_1 narrow_1))[9]? = some (Cond.exactly (tmS 0) "java/lang/String") ∧ (flatC (Jvm.Cond.and given_1 narrow_1))[118]? = some (Cond.exactly (tmS 1) "java/lang/String") ∧ (flatC (Jvm.Cond.and given_1 narrow_1))[10]? = some (Cond.eq (.field (tmS 0) "java/lang/String" "coder" "B") (.int 0)) ∧ (flatC (Jvm.Cond.and given_1 narrow_1))[119]? = some (Cond.eq (.field (tmS 1) "java/lang/String" "coder" "B") (.int 0)) ∧
  (flatC (Jvm.Cond.and given_1 narrow_1))[11]? = some (Cond.arrayOf (.field (tmS 0) "java/lang/String" "value" "[B") .byte) ∧ (flatC (Jvm.Cond.and given_1 narrow_1))[120]? = some (Cond.arrayOf (.field (tmS 1) "java/lang/String" "value" "[B") .byte) ∧ (flatC (Jvm.Cond.and given_1 narrow_1))[12]? = some (Cond.eq (.length (.field (tmS 0) "java/lang/String" "value" "[B")) (.int (Int32.ofNat 105))) ∧ (flatC (Jvm.Cond.and given_1 narrow_1))[121]? = some (Cond.eq (.length (.field (tmS 1) "java/lang/String" "value" "[B")) (.int (Int32.ofNat 64))) ∧
  (flatC (Jvm.Cond.and given_1 narrow_1))[186]? = some (Cond.not (Cond.eq (tmS 0) (tmS 1))) ∧ (flatC (Jvm.Cond.and given_1 narrow_1))[4]? = some (Cond.eq (.static "java/lang/String" "COMPACT_STRINGS" "Z") (.int 1)) ∧ (flatC (Jvm.Cond.and given_1 narrow_1))[5]? = some (Cond.isRef (.static "jdk/internal/util/Preconditions" "SIOOBE_FORMATTER" "Ljava/util/function/BiFunction;")) := by decide +kernel
theorem two {P : Nat → Prop} (h0 : P 0) (h1 : P 1) : ∀ i, i < 2 → P i := by
  intro i hi
  match i, hi with
  | 0, _ => exact h0
  | 1, _ => exact h1
  | i + 2, hi => omega
theorem str_start {s : State} {b : Nat} {A : Nat → Prop} (hgv : (Jvm.Cond.and given_1 narrow_1).before #[Value.ref b] s = true) (hA : ∀ a : Nat, a < s.heap.size → ¬ A a) : ∃ adK adV : Nat → Nat, vk_S 2 [105, 64] [strT 1001, strT 1002] adK adV A s s.heap ∧ ∀ i : Nat, i < 2 → (tmS i).eval #[Value.ref b] s none [] s = some (.ref (adK i)) := by
  have hs := flat_of_before _ hgv
  obtain ⟨f1, f2, f3, f4, f5, f6, f7, f8, f9, -, -⟩ := flS
  refine vk_Sof (tm := tmS) (two (by decide) (by decide)) (two (fl_at hs _ f1) (fl_at hs _ f2)) (two (fl_at hs _ f3) (fl_at hs _ f4)) (two (fl_at hs _ f5) (fl_at hs _ f6)) (two (fl_at hs _ f7) (fl_at hs _ f8)) (two (fun j hj => fl_at hs _ (elS0 j hj)) (fun j hj => fl_at hs _ (elS1 j hj))) ?_ hA
  intro i j hi hj hij
  rcases (show (i = 0 ∧ j = 1) ∨ (i = 1 ∧ j = 0) by omega) with ⟨rfl, rfl⟩ | ⟨rfl, rfl⟩
  · exact Or.inl (fl_at hs _ f9)
  · exact Or.inr (fl_at hs _ f9)
theorem gl_0 : decode code 0 = .ok (.new 7, 3) := by decide +kernel
theorem gl_3 : decode code 3 = .ok (.dup, 1) := by decide +kernel
theorem gl_4 : decode code 4 = .ok (.invokespecial 9, 3) := by decide +kernel
theorem gl_7 : decode code 7 = .ok (.astore_n 1, 1) := by decide +kernel
theorem gl_8 : decode code 8 = .ok (.new 10, 3) := by decide +kernel
theorem gl_11 : decode code 11 = .ok (.dup, 1) := by decide +kernel
theorem gl_12 : decode code 12 = .ok (.invokespecial 12, 3) := by decide +kernel
theorem gl_15 : decode code 15 = .ok (.astore_n 2, 1) := by decide +kernel
theorem gl_16 : decode code 16 = .ok (.iconst 0, 1) := by decide +kernel
theorem gl_17 : decode code 17 = .ok (.istore_n 3, 1) := by decide +kernel
def adF (as adK adV : Nat → Nat) (b t5 k : Nat) : Nat := if k < 164 then as k else if k = 1000 then b else if k = 1001 then adK 0 else if k = 1002 then adK 1 else if k = 1003 then adV 0 else if k = 1004 then adV 1 else t5
theorem adF_lt {as adK adV : Nat → Nat} {b t5 k : Nat} (h : k < 164) : adF as adK adV b t5 k = as k := if_pos h
set_option maxRecDepth 1000000 in
theorem zX_sum : zX.length = 123 ∧ slS 0 zX = slS 0 zX ∧ gd (zX ++ [.inr (.inr (11, dfl 11))]) [] [.ref 123] = true ∧ gd zX [] [] = true ∧ zF.length = 164 ∧ slS 0 zF = 28456 := by decide +kernel
theorem zX_at : (zX ++ [.inr (.inr (11, dfl 11))])[123]? = some (.inr (.inr (11, dfl 11))) := by
  have h := zX_sum.1
  rw [List.getElem?_append_right (by rw [h]; exact Nat.le_refl _), h]
  rfl
theorem law_start (LT : ∀ (L : Nat) (xs : Nat → Int32), L ≤ 384 → ∃ (n : Nat) (s' : Mem), F_Z_law_10 L xs n 0 S0 = some (1, s')) {p : Program} {e : Env} {s : State} {m : MethodId} {below : List Frame} {meth : Method} {c : Code} (l : Launch) {b L : Nat} {xs : Nat → Int32} (hL : L ≤ 384) (C0 : lw_At p s m meth c b L xs) : W p l e room_1 s m #[Value.ref b] below meth c s.heap [] 0 0 (lw_Z below #[Value.ref b] s) (entryFrame m ([Value.ref b] : List Value).toArray 4) := by
  obtain ⟨hx, hb, hr, hml, hown0, htsT, hX, hbl, hlocks, hgv⟩ := id C0
  have hts : ∀ w ∈ gT, w.before #[Value.ref b] s = true := fun w hw => htsT w (List.mem_filter.mp hw).1
  have hown : s.vm.findClass (cR 16) = some m.cls := hown0
  have hkn : ∀ ci : Nat, ∃ q : ClassId × (Nat → Nat), ci < 12 → u_Kn s (cR ci) (cT ci) (cN ci) q.1 q.2 := by
    intro ci
    by_cases h : ci < 12
    · obtain ⟨cC, iS, h1⟩ := u_known (n := cN ci) hts (cls_ws h) (hts _ (in_ci ci h))
      exact ⟨(cC, iS), fun _ => h1⟩
    · exact ⟨(m.cls, fun _ => 0), fun q => absurd q h⟩
  obtain ⟨f, hf⟩ := Classical.axiomOfChoice hkn
  obtain ⟨cA, kA, compA, hA1, hA2, hA3⟩ := Cond.arrayClass_spec (hts _ w_arrI)
  have hAO := htsT _ (in_t2 (List.mem_of_getElem? (i := 0) rfl))
  obtain ⟨compQ, cQ, kQ, hQ1, hQ2, hQ3, hQ4, hQ5⟩ := Cond.arrayOver_spec hAO
  generalize hD : ((fun k => (f k).1, fun k => (f k).2) : va_G) = D
  have hVK : va_K D vwCl [(cA, .int), (cQ, .object "StairRegiment$House")] s := by
    subst hD
    refine ⟨fun k q hq => ?_, fun k q hq => ?_⟩
    · have hk : k < 12 := (List.getElem?_eq_some_iff.mp hq).1
      rw [cls_vw k hk] at hq
      cases hq
      exact hf k hk
    · match k, hq with
      | 0, hq => cases hq; exact ⟨fun n z => ⟨(fun k h => by cases h), kA, hA2, compA, hA3⟩, hA1⟩
      | 1, hq => cases hq; exact ⟨fun n z => ⟨(fun k h => by cases h), kQ, hQ3, compQ, hQ4⟩, kQ, compQ, hQ3, hQ4, hQ1, hQ5⟩
      | k + 2, hq => simp at hq
  have hNest : ∀ q ∈ nestL, va_Nw (.methodLinkNest q.1 q.2.1 q.2.2 "StairRegiment") s := fun q hq => va_Nw.of rfl (htsT _ (in_T (nestL_in q hq)))
  have hK : KC D cA cQ s := ⟨hVK, hNest, va_AO.of hAO⟩
  have hA : ∀ q : Nat, s.heap.size ≤ q → (fun q : Nat => s.heap.size ≤ q) q := fun _ h => h
  have hnA : ∀ a : Nat, a < s.heap.size → ¬ (fun q : Nat => s.heap.size ≤ q) a := fun a h => Nat.not_le.mpr h
  obtain ⟨adK, adV, hSt, hev⟩ := str_start hgv hnA
  have hs := flat_of_before _ hgv
  obtain ⟨-, -, -, -, -, -, -, -, -, f10, f11⟩ := flS
  have hZc : va_Z "java/lang/String" "COMPACT_STRINGS" "Z" (.int 1) (fun q : Nat => s.heap.size ≤ q) s s.heap := va_Zof (htsT _ (in_t3 (List.mem_of_getElem? (i := 115) rfl))) (htsT _ (in_t1 (List.mem_of_getElem? (i := 15) rfl))) (va_eqt (fl_at hs _ f10)) hnA
  have hZs : ∃ t5 : Nat, va_Z "jdk/internal/util/Preconditions" "SIOOBE_FORMATTER" "Ljava/util/function/BiFunction;" .null (fun q : Nat => s.heap.size ≤ q) s s.heap ∨ va_Z "jdk/internal/util/Preconditions" "SIOOBE_FORMATTER" "Ljava/util/function/BiFunction;" (.ref t5) (fun q : Nat => s.heap.size ≤ q) s s.heap := by
    rcases va_Zqof (htsT _ (in_t3 (List.mem_of_getElem? (i := 131) rfl))) (htsT _ (in_t1 (List.mem_of_getElem? (i := 17) rfl))) (fl_at hs _ f11) hnA with h | ⟨t, h⟩
    · exact ⟨0, Or.inl h⟩
    · exact ⟨t, Or.inr h⟩
  obtain ⟨t5, hZs⟩ := hZs
  have hr0 : vk_R "StairRegiment$Parser" 82 "creaks wears rises when or and not weight wear loose rank carpet height number heard failed stride night " (adK 0) s := vk_R.of (htsT _ (in_t3 (List.mem_of_getElem? (i := 102) rfl))) (hev 0 (by decide))
  have hr1 : vk_R "StairRegiment$Parser" 88 "on flight step watch leave desert bare mend loosen up down door " (adK 1) s := vk_R.of (htsT _ (in_t3 (List.mem_of_getElem? (i := 154) rfl))) (hev 1 (by decide))
  obtain ⟨z1, -, z3, z4, z5, z6⟩ := zX_sum
  have z7 := zX_at
  -- the loop
  have LOOP : ∀ (as : Nat → Nat) (ls4 : Array Slot) (H : Heap) (locs : List Loc), lv_has ls4 4 [(3, .int 0), (2, .ref (as 123)), (1, .ref (as 0)), (0, .ref b)] → va_P D vwCl (wr as cA cQ 0 zF) H → va_D (fun q : Nat => s.heap.size ≤ q) (wr as cA cQ 0 zF) → va_S (fun q : Nat => s.heap.size ≤ q) s.heap H locs → W p l e room_1 s m #[Value.ref b] below meth c H locs 164 28456 (lw_Z below #[Value.ref b] s) (F0 m 18 ls4 []) := by
    intro as ls4 H locs hl4 hP hDD hS
    have wget : ∀ k, k < 164 → ∃ x, (wr as cA cQ 0 zF)[k]? = some (as k, x) := by
      intro k hk
      rw [wr_get]
      have h1 : zF[k]? = some (zF[k]'(by rw [z5]; exact hk)) := List.getElem?_eq_getElem _
      rw [h1]
      exact ⟨_, by rw [Option.map_some, Nat.zero_add]⟩
    have X : CX p room_1 s m #[Value.ref b] c D cA cQ (adF as adK adV b t5) (fun q : Nat => s.heap.size ≤ q) 164 28456 4 code 16 L xs := by
      refine ⟨hx, hb, hml, hown, hts, ⟨hVK, hNest, hr0, hr1⟩, fun a a' ha ha' hq => ?_, fun a ha => ?_, hA, ⟨⟨two (hSt.1 0 (by decide)) (hSt.1 1 (by decide)), fun i j hi hj hq => ?_⟩, hZc, hZs⟩, ⟨by decide, by decide⟩, fun _ => ⟨hX, hbl, hnA b hbl⟩⟩
      · rw [adF_lt (show a < 164 from ha), adF_lt (show a' < 164 from ha')] at hq
        obtain ⟨x, hx1⟩ := wget a ha
        obtain ⟨x', hx2⟩ := wget a' ha'
        exact hDD.1 a a' _ _ hx1 hx2 hq
      · rw [adF_lt (show a < 164 from ha)]
        obtain ⟨x, hx1⟩ := wget a ha
        exact hDD.2 a _ hx1
      · rcases (show (i = 0 ∨ i = 1) ∧ (j = 0 ∨ j = 1) by omega) with ⟨rfl | rfl, rfl | rfl⟩
        · rfl
        · exact hSt.2 0 1 (by decide) (by decide) hq
        · exact hSt.2 1 0 (by decide) (by decide) hq
        · rfl
    obtain ⟨n, s', hrun⟩ := LT L xs hL
    have hfin := n_Z_law_10 (z := (1, s')) (RA := fun pc ls σ => WG p l e room_1 s m #[Value.ref b] below meth c D cA cQ (adF as adK adV b t5) (fun q : Nat => s.heap.size ≤ q) 164 28456 4 (lw_Z below #[Value.ref b] s) pc ls [] σ) ⟨fun pc ls ls1 σ h1 h2 h3 => ?_, fun K hK n j ls σ hck h => ?_⟩ n 0 S0 hrun
    · refine hfin ls4 H locs ⟨rfl, hl4.1, hl4.2.1, fun i v hv => ?_⟩ (wd_of (fun k hk => adF_lt hk) hP) hS
      match i, hv with
      | 0, hv => cases hv; exact hl4.2.2 (0, .ref b) (by simp)
      | 1, hv => cases hv; exact hl4.2.2 (1, .ref (as 0)) (by simp)
      | 2, hv => cases hv; exact hl4.2.2 (2, .ref (as 123)) (by simp)
      | 3, hv => cases hv; exact hl4.2.2 (3, .int 0) (by simp)
      | i + 4, hv => cases hv
    · intro ls' H locs hL hP hS
      exact h3 ls' H locs ⟨h1, hL.2.1, hL.2.2.1, fun i v hv => hL.2.2.2 i v (h2 i v hv)⟩ hP hS
    · refine xs_ok (d := 70) (z := (1, s')) X k_Z_law ⟨by decide, by decide⟩ (l_Z_law 0) (fun k ls σ _ h => hK k ls σ h) (fun pc ls hd ht => ?_) (fun pc ls hd ht => ?_) n (K_Z_law.drop j) ls [] σ (okC_drop K_Z_law j k_Z_law) hck h
      · intro ls' H locs hL hP hS
        refine va_forget (fun q hq => hS.2.2 q hq) ?_
        exact W.widen (k := 600000) (n := 7302250) (by decide) (by decide) (lw_ret hx hb hr hlocks hd)
      · cases ht
  -- the second constructor
  have K8 : ∀ (q : Nat) (ls1 : Array Slot), lv_has ls1 4 [(1, .ref q), (0, .ref b)] → WL p l e room_1 s m #[Value.ref b] below meth c D cA cQ (fun q : Nat => s.heap.size ≤ q) (some q) (lw_Z below #[Value.ref b] s) 8 ls1 [] zX := by
    intro q ls1 hl1
    refine z_new (ci := 11) (ix := 10) (own := 16) hx hb hown hts hK hA (Or.inr (by rw [z1]; decide)) z4 (by decide) (gT_of (in_t5 (List.mem_of_getElem? (i := 234) rfl)) rfl) (in_ci 11 (by decide)) (gT_of (in_t1 (List.mem_of_getElem? (i := 13) rfl)) rfl) ⟨by rw [z1]; decide, by decide +kernel⟩ gl_8 ?_
    rw [z1]
    refine z_dup hx hb rfl gl_11 ?_
    refine z_callZ (k := 123) (d := 1) (M := ctab 11) (ix := 12) (own := 16) hx hb hml hl1.1 hown hts hK hA ct_ok11 (gT_of (in_t5 (List.mem_of_getElem? (i := 236) rfl)) rfl) (qc11 0) z3 z7 (by decide +kernel) rfl ⟨by decide, by decide⟩ ⟨by decide +kernel, by decide +kernel⟩ gl_12 ?_
    rw [zF_ok]
    intro as H locs ha hP hDD hS
    rw [z5, z6]
    refine lv_astore_n (lv' := [(2, .ref (as 123)), (1, .ref q), (0, .ref b)]) hx hb gl_15 rfl hl1 (by decide) rfl (fun ls2 hl2 => ?_)
    refine lv_iconst (v := 0) hx hb gl_16 (by decide) ?_
    refine lv_istore_n (lv' := [(3, .int 0), (2, .ref (as 123)), (1, .ref q), (0, .ref b)]) hx hb gl_17 rfl hl2 (by decide) rfl (fun ls3 hl3 => ?_)
    have hq : as 0 = q := ha q rfl
    rw [← hq] at hl3
    exact LOOP as ls3 H locs hl3 hP hDD hS
  -- the first one
  have hl := lv_entry ([Value.ref b]) (n := 4) (Nat.le_of_ble_eq_true rfl)
  rw [lg_entry_eq]
  generalize (lg_sl ([Value.ref b]) ++ List.replicate (4 - (lg_sl ([Value.ref b])).length) Slot.unset).toArray = ls0 at hl ⊢
  have hl : lv_has ls0 4 [(0, .ref b)] := hl
  have K0 : WL p l e room_1 s m #[Value.ref b] below meth c D cA cQ (fun q : Nat => s.heap.size ≤ q) none (lw_Z below #[Value.ref b] s) 0 ls0 [] [] := by
    refine z_new (ci := 10) (ix := 7) (own := 16) hx hb hown hts hK hA (Or.inl rfl) rfl (by decide) (gT_of (in_t1 (List.mem_of_getElem? (i := 21) rfl)) rfl) (in_ci 10 (by decide)) (gT_of (in_t1 (List.mem_of_getElem? (i := 1) rfl)) rfl) ⟨by decide, by decide +kernel⟩ gl_0 ?_
    refine z_dup hx hb rfl gl_3 ?_
    refine z_callZ (k := 0) (d := 4) (M := ctab 10) (ix := 9) (own := 16) hx hb hml hl.1 hown hts hK hA ct_ok10 (gT_of (in_t1 (List.mem_of_getElem? (i := 23) rfl)) rfl) (qc10 0) (by decide +kernel) rfl (by decide +kernel) rfl ⟨by decide, by decide⟩ ⟨by decide +kernel, by decide +kernel⟩ gl_4 ?_
    intro as H locs ha hP hDD hS
    refine lv_astore_n (lv' := [(1, .ref (as 0)), (0, .ref b)]) hx hb gl_7 rfl hl (by decide) rfl (fun ls1 hl1 => ?_)
    exact K8 (as 0) ls1 hl1 as H locs (fun q hq => by cases hq; rfl) hP hDD hS
  exact K0 (fun _ => 0) s.heap [] (fun q hq => by cases hq) (fun k q h => by simp [wr] at h) ⟨fun i j p q h => by simp [wr] at h, fun k q h => by simp [wr] at h⟩ va_S.rf
