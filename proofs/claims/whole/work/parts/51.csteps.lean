def flTc : List (Nat × Nat × Nat × Nat) := [(10, 12, 1000, 339), (10, 16, 1001, 340), (10, 21, 1003, 342), (10, 25, 1004, 343), (10, 29, 1007, 346), (10, 35, 1009, 348), (10, 42, 1012, 351), (10, 49, 1013, 352), (10, 54, 1011, 350), (11, 7, 1101, 1201), (11, 13, 1102, 1202), (11, 16, 1104, 1204), (11, 19, 1107, 1207), (11, 22, 1108, 1208), (11, 25, 1109, 1209), (11, 28, 1110, 1210), (11, 31, 1116, 1216), (11, 34, 1117, 1217), (11, 37, 1118, 1218), (11, 40, 1119, 1219), (11, 43, 1120, 1220), (11, 46, 1121, 1221), (11, 49, 1122, 1222), (11, 52, 1123, 1223), (11, 55, 1127, 1227), (11, 58, 1132, 1232), (11, 62, 1134, 1234), (11, 65, 1136, 1236), (11, 68, 1138, 1238), (11, 71, 1139, 1239), (11, 74, 1140, 1240), (11, 77, 1142, 1242), (11, 80, 1144, 1244), (11, 83, 1145, 1245), (11, 86, 1147, 1247), (11, 89, 1148, 1248), (11, 92, 1149, 1249), (11, 95, 1150, 1250), (11, 98, 1152, 1252), (11, 101, 1156, 1256), (11, 104, 1158, 1258), (11, 107, 1159, 1259), (11, 110, 1160, 1260), (11, 113, 1162, 1262), (11, 116, 1163, 1263), (11, 119, 1165, 1265), (11, 122, 1166, 1266), (11, 125, 1167, 1267), (11, 128, 1168, 1268), (11, 131, 1172, 1272), (0, 11, 0, 82), (1, 11, 100, 41), (1, 15, 101, 42), (2, 9, 200, 96), (2, 17, 202, 98), (2, 20, 203, 99), (2, 23, 204, 100), (2, 26, 205, 101), (2, 29, 207, 104), (2, 32, 208, 105), (3, 9, 300, 131), (4, 12, 400, 294), (4, 18, 401, 295), (4, 22, 402, 296), (4, 25, 403, 297), (4, 28, 404, 298), (4, 31, 405, 299), (4, 34, 406, 300), (5, 9, 500, 251), (5, 15, 501, 252), (5, 18, 502, 253), (5, 24, 508, 261), (5, 31, 509, 263), (6, 10, 600, 206), (6, 19, 601, 209), (6, 26, 602, 211), (6, 33, 603, 214), (6, 37, 604, 216), (6, 40, 605, 218), (6, 46, 606, 221), (7, 11, 700, 325), (7, 15, 701, 326), (7, 18, 702, 327), (7, 21, 703, 328), (8, 15, 800, 157), (9, 12, 900, 167), (9, 18, 901, 170), (9, 21, 902, 173), (9, 24, 903, 175), (9, 27, 904, 177), (9, 30, 905, 179), (9, 33, 906, 181), (9, 37, 907, 183), (9, 41, 908, 185)]
set_option maxRecDepth 1000000 in
theorem flTc_ok : ∀ q ∈ flTc, tables_1[q.2.2.2]? = some (Cond.fieldLink (cR q.1) q.2.1 (cR (q.2.2.1 / 100)) (cT (q.2.2.1 / 100) (q.2.2.1 % 100)).2.1 (cT (q.2.2.1 / 100) (q.2.2.1 % 100)).2.2.1) ∧ q.2.2.1 / 100 < 12 ∧ q.2.2.1 % 100 < cN (q.2.2.1 / 100) := by decide +kernel
def isR : FieldType → Bool
  | .object _ => true
  | .array _ => true
  | _ => false
/-- what a constructor may put into a field -/
def okP (ci k : Nat) (v : Value) : Bool := match v with
  | .int _ => Nat.beq (fk ci k) 1
  | .ref _ => Nat.beq (fk ci k) 0
  | _ => false
theorem cls_int : ∀ ci, ci < 12 → ∀ k, k < cN ci → (fk ci k = 1 → cTy ci k = .int) ∧ (fk ci k = 0 → isR (cTy ci k) = true) := by decide +kernel
theorem okP_t {as : Nat → Nat} {ci k : Nat} {v : Value} (h2 : ci < 12) (h3 : k < cN ci) (h : okP ci k v = true) : narrow (cTy ci k) (rv as v) = rv as v ∧ fits (cTy ci k) (rv as v) = true := by
  obtain ⟨i1, i2⟩ := cls_int ci h2 k h3
  cases v with
  | int x =>
    rw [i1 (beq_t h)]
    exact ⟨rfl, rfl⟩
  | ref x =>
    have := i2 (beq_t h)
    cases hq : cTy ci k <;> rw [hq] at this <;> first | (cases this; done) | exact ⟨rfl, rfl⟩
  | _ => cases h
theorem w_arrI : Cond.arrayClass (newarray.typeOf .int) ∈ gT := gT_of (in_t1 (List.mem_of_getElem? (i := 75) rfl)) rfl
theorem w_objI : Cond.instanceMethod Lib.objectInit ∈ gT := gT_of (in_t1 (List.mem_of_getElem? (i := 27) rfl)) rfl
theorem w_objC : Cond.code Lib.objectInit ⟨#[0xb1]⟩ 1 none ∈ gT := gT_of (in_t1 (List.mem_of_getElem? (i := 28) rfl)) rfl
theorem w_maxS : Cond.static Lib.Math.max.name ∈ gT := gT_of (in_t1 (List.mem_of_getElem? (i := 155) rfl)) rfl
theorem w_maxI : Cond.initialized "java/lang/Math" ∈ gT := gT_of (in_t1 (List.mem_of_getElem? (i := 9) rfl)) rfl
theorem w_maxC : Cond.code Lib.Math.max.name Lib.Math.max.code 2 (some .int) ∈ gT := gT_of (in_t1 (List.mem_of_getElem? (i := 156) rfl)) rfl

section ECU
variable {p : Program} {l : Launch} {e : Env} {R : Room} {s : State} {m : MethodId} {args : Array Value} {below : List Frame} {meth : Method} {c : Code} {D : va_G} {cA cQ : ClassId} {A : Nat → Prop} {w0 nL : Nat} {q0 : Option Nat} {Q : State → Prop} {cc : ByteArray} {own : Nat} {pc : Nat} {ls : List (Option Value)} {st t : List Value} {Z : List CE}
theorem y_newa {k : Int32} (X : CY p R s m args meth c D cA cQ A nL cc own) (hw : w0 ≤ Z.length) (h0 : q0 = none ∨ 0 < Z.length) (hg : gd Z ls st = true) (hk : ¬ k < 0 ∧ k.toNatClampNeg ≤ 100000) (hR : Z.length - w0 + 1 ≤ R.cells ∧ slS w0 Z + k.toNatClampNeg ≤ R.slots) (hd : decode cc pc = .ok (.newarray .int, 2)) (kk : WC p l e R s m args below meth c D cA cQ A w0 nL q0 Q (pc + 2) ls (.ref Z.length :: st) (Z ++ [.inl (k.toNatClampNeg, [])])) : WC p l e R s m args below meth c D cA cQ A w0 nL q0 Q pc ls (.int k :: st) Z := by
  intro as ls' H locs ha hL hP hD hS
  obtain ⟨hx, hb, hml, hown, hts, hK, hA, -⟩ := id X
  refine va_newa (atype := .int) (ty := .int) (a0 := (k.toNatClampNeg, .inl (fun _ => 0))) hx hb (hts _ w_arrI) rfl hK.1 hP hD hS hA (fun cA => by rw [vp_cell_i]; rfl) hk.1 rfl (by show k.toNatClampNeg * 4 ≤ 536870912; omega) hR.1 hR.2 hd (fun q cA' H1 hK1 hP1 hD1 hS1 => ?_)
  have e1 : cA' = cA := by
    have a1 : s.vm.findClass ("[" ++ FieldType.int.toString) = some cA' := (hK1.2 2 (cA', .int) rfl).2
    have a2 : s.vm.findClass ("[" ++ FieldType.int.toString) = some cA := (hK.1.2 0 (cA, .int) rfl).2
    exact Option.some.inj (a1.symm.trans a2)
  subst e1
  exact y_push (x := .inl (k.toNatClampNeg, [])) hw h0 hg rfl kk ha hL hP1 hD1 hS1
theorem nth_rep (n i : Nat) : nth none (List.replicate n none) i = (none : Option Nat) := by
  induction n generalizing i with
  | zero => rfl
  | succ n ih =>
    cases i with
    | zero => rfl
    | succ i => exact ih i
theorem y_newq {k : Int32} {ix : Nat} (X : CY p R s m args meth c D cA cQ A nL cc own) (hw : w0 ≤ Z.length) (h0 : q0 = none ∨ 0 < Z.length) (hg : gd Z ls st = true) (hk : ¬ k < 0 ∧ k.toNatClampNeg ≤ 100000) (hl : Cond.classLink (cR own) ix "StairRegiment$House" ∈ gT) (hR : Z.length - w0 + 1 ≤ R.cells ∧ slS w0 Z + k.toNatClampNeg ≤ R.slots) (hd : decode cc pc = .ok (.anewarray ix, 3)) (kk : WC p l e R s m args below meth c D cA cQ A w0 nL q0 Q (pc + 3) ls (.ref Z.length :: st) (Z ++ [.inr (.inl (k.toNatClampNeg, List.replicate k.toNatClampNeg none))])) : WC p l e R s m args below meth c D cA cQ A w0 nL q0 Q pc ls (.int k :: st) Z := by
  intro as ls' H locs ha hL hP hD hS
  obtain ⟨hx, hb, hml, hown, hts, hK, hA, -⟩ := id X
  refine va_newq hx hb hown (hts _ hl) hK.2.2 hK.1 hP hD hS hA hk.1 rfl (by omega) hR.1 hR.2 hd (fun q cA' H1 hK1 hP1 hD1 hS1 => ?_)
  have e1 : cA' = cQ := by
    obtain ⟨_, _, _, _, _, a1⟩ := (hK1.2 2 (cA', .object "StairRegiment$House") rfl).2
    obtain ⟨_, _, _, _, _, a2⟩ := (hK.1.2 1 (cQ, .object "StairRegiment$House") rfl).2
    exact Option.some.inj (a1.symm.trans a2)
  subst e1
  have e2 : rE as cA cA' (.inr (.inl (k.toNatClampNeg, List.replicate k.toNatClampNeg none))) = rE as cA cA' (.inr (.inl (k.toNatClampNeg, []))) := by
    simp only [rE, nth_rep]
    rfl
  exact y_push (x := .inr (.inl (k.toNatClampNeg, List.replicate k.toNatClampNeg none))) hw h0 hg (by simp [rbE, rbO]) kk ha hL (by rw [e2]; exact hP1) (by rw [e2]; exact hD1) hS1
/-- one cell is stored anew -/
theorem y_set {b : Nat} {x x' : CE} (hz : Z[b]? = some x) (hs : sl x' = sl x) (kk : WC p l e R s m args below meth c D cA cQ A w0 nL q0 Q pc ls st (Z.set b x')) {as : Nat → Nat} {ls' : Array Slot} {H1 : Heap} {locs1 : List Loc} (ha : ∀ q, q0 = some q → as 0 = q) (hL : LR as nL ls ls') (hP : va_P D vwCl ((wr as cA cQ 0 Z).set b (as b, rE as cA cQ x')) H1) (hD : va_D A ((wr as cA cQ 0 Z).set b (as b, rE as cA cQ x'))) (hS : va_S A s.heap H1 locs1) : W p l e R s m args below meth c H1 locs1 (Z.length - w0) (slS w0 Z) Q (F0 m pc ls' (st.map (rv as))) := by
  have e1 : wr as cA cQ 0 (Z.set b x') = (wr as cA cQ 0 Z).set b (as b, rE as cA cQ x') := by rw [wr_set, Nat.zero_add]
  have h1 := kk as ls' H1 locs1 ha hL (by rw [e1]; exact hP) (by rw [e1]; exact hD) hS
  have e2 : slS w0 (Z.set b x') = slS w0 Z := by
    unfold slS
    have : (Z.set b x').map sl = Z.map sl := by
      rw [List.map_set, hs]
      apply List.ext_getElem?
      intro k
      rw [List.getElem?_set]
      by_cases hk : b = k
      · subst hk
        have hlt := (List.getElem?_eq_some_iff.mp hz).1
        rw [if_pos rfl, if_pos (by simpa using hlt), List.getElem?_map, hz]
        rfl
      · rw [if_neg hk]
    rw [List.map_drop, List.map_drop, this]
  rw [List.length_set, e2] at h1
  exact h1
theorem y_put {b w ix pos : Nat} {v : Value} {fs : List Value} (X : CY p R s m args meth c D cA cQ A nL cc own) (hf : (own, ix, w, pos) ∈ flTc) (hz : Z[b]? = some (.inr (.inr (w / 100, fs)))) (hlen : w % 100 < fs.length) (hv : okP (w / 100) (w % 100) v = true) (hown2 : (cT (w / 100) (w % 100)).2.2.2 = true → cR (w / 100) = cR own) (hd : decode cc pc = .ok (.putfield ix, 3)) (kk : WC p l e R s m args below meth c D cA cQ A w0 nL q0 Q (pc + 3) ls st (Z.set b (.inr (.inr (w / 100, fs.set (w % 100) v))))) : WC p l e R s m args below meth c D cA cQ A w0 nL q0 Q pc ls (v :: .ref b :: st) Z := by
  intro as ls' H locs ha hL hP hD hS
  obtain ⟨hx, hb, hml, hown, hts, hK, hA, hnm⟩ := id X
  obtain ⟨h1, h2, h3⟩ := flTc_ok _ hf
  have hP0 : (wr as cA cQ 0 Z)[b]? = some (as b, .inr (w / 100, fs.map (rv as))) := by rw [wr_get, hz]; simp [rE]
  have he : (fs.map (rv as)).set (w % 100) (rv as v) = (fs.set (w % 100) v).map (rv as) := by rw [List.map_set]
  have hlk := hts _ (gT_of (in_T (List.mem_of_getElem? h1)) rfl)
  obtain ⟨n1, n2⟩ := okP_t (as := as) h2 h3 hv
  simp only [List.map_cons]
  cases hfin : (cT (w / 100) (w % 100)).2.2.2 with
  | false =>
    refine va_put (q0 := b) (C := cR (w / 100)) (T := cT (w / 100)) (N := cN (w / 100)) (ci := w / 100) (ref := cR (w / 100)) (k := w % 100) (ty := cTy (w / 100) (w % 100)) hx hb hts (cls_ws h2) (cTy (w / 100)) (cls_ty _ h2) (cls_nm _ h2) hown hK.1 hP hD hS hP0 (cls_vw _ h2) h3 hlk (fun x h => by rw [cls_own _ h2 _ h3] at h; exact h) hfin (v := rv as v) (cls_ty _ h2 _ h3) n1 n2 (by simpa using hlen) hd (fun H1 locs1 hP1 hD1 hS1 => ?_)
    rw [he] at hP1 hD1
    exact y_set (x := .inr (.inr (w / 100, fs))) (x' := .inr (.inr (w / 100, fs.set (w % 100) v))) hz rfl kk ha hL hP1 hD1 hS1
  | true =>
    refine va_putF (q0 := b) (C := cR (w / 100)) (T := cT (w / 100)) (N := cN (w / 100)) (ci := w / 100) (ref := cR (w / 100)) (k := w % 100) (ty := cTy (w / 100) (w % 100)) hx hb hts (cls_ws h2) (cTy (w / 100)) (cls_ty _ h2) (cls_nm _ h2) hown hK.1 hP hD hS hP0 (cls_vw _ h2) h3 hlk (fun x h => by rw [cls_own _ h2 _ h3] at h; exact h) hfin hnm (by rw [cls_own _ h2 _ h3]; exact hown2 hfin) (v := rv as v) (cls_ty _ h2 _ h3) n1 n2 (by simpa using hlen) hd (fun H1 locs1 hP1 hD1 hS1 => ?_)
    rw [he] at hP1 hD1
    exact y_set (x := .inr (.inr (w / 100, fs))) (x' := .inr (.inr (w / 100, fs.set (w % 100) v))) hz rfl kk ha hL hP1 hD1 hS1
theorem y_getr {b w ix pos x : Nat} {fs : List Value} (X : CY p R s m args meth c D cA cQ A nL cc own) (hf : (own, ix, w, pos) ∈ flTc) (hz : Z[b]? = some (.inr (.inr (w / 100, fs)))) (hv : fs[w % 100]? = some (.ref x)) (hd : decode cc pc = .ok (.getfield ix, 3)) (kk : WC p l e R s m args below meth c D cA cQ A w0 nL q0 Q (pc + 3) ls (.ref x :: st) Z) : WC p l e R s m args below meth c D cA cQ A w0 nL q0 Q pc ls (.ref b :: st) Z := by
  intro as ls' H locs ha hL hP hD hS
  obtain ⟨hx, hb, hml, hown, hts, hK, hA, hnm⟩ := id X
  obtain ⟨h1, h2, h3⟩ := flTc_ok _ hf
  have hP0 : (wr as cA cQ 0 Z)[b]? = some (as b, .inr (w / 100, fs.map (rv as))) := by rw [wr_get, hz]; simp [rE]
  exact va_get (q0 := b) (C := cR (w / 100)) (T := cT (w / 100)) (N := cN (w / 100)) (ci := w / 100) (ref := cR (w / 100)) (k := w % 100) (v := .ref (as x)) hx hb hts (cls_ws h2) hown hK.1 hP hP0 (cls_vw _ h2) h3 (hts _ (gT_of (in_T (List.mem_of_getElem? h1)) rfl)) (fun x h => by rw [cls_own _ h2 _ h3] at h; exact h) (by rw [List.getElem?_map, hv]; rfl) hd (kk as ls' H locs ha hL hP hD hS)
theorem y_iast {b n : Nat} {u : List (Nat × Int32)} {i v : Int32} (X : CY p R s m args meth c D cA cQ A nL cc own) (hz : Z[b]? = some (.inl (n, u))) (hi : ¬ (i < 0 ∨ n ≤ i.toNatClampNeg)) (hd : decode cc pc = .ok (.iastore, 1)) (kk : WC p l e R s m args below meth c D cA cQ A w0 nL q0 Q (pc + 1) ls st (Z.set b (.inl (n, (i.toNatClampNeg, v) :: u)))) : WC p l e R s m args below meth c D cA cQ A w0 nL q0 Q pc ls (.int v :: .int i :: .ref b :: st) Z := by
  intro as ls' H locs ha hL hP hD hS
  obtain ⟨hx, hb, hml, hown, hts, hK, hA, hnm⟩ := id X
  have hP0 : (wr as cA cQ 0 Z)[b]? = some (as b, .inl (cA, n, .inl (look u))) := by rw [wr_get, hz]; simp [rE]
  refine va_iast (q0 := b) (t0 := 0) hx hb hK.1 hP hD hS hP0 rfl hi hd (fun H1 locs1 hP1 hD1 hS1 => ?_)
  exact y_set (x := .inl (n, u)) (x' := .inl (n, (i.toNatClampNeg, v) :: u)) hz rfl kk ha hL hP1 hD1 hS1
theorem va_up_nth {l : List (Option Nat)} {as : Nat → Nat} {i v : Nat} (h : i < l.length) : va_up (fun j => (nth none l j).map as) i (some (as v)) = fun j => (nth none (l.set i (some v)) j).map as := by
  have key : ∀ (l : List (Option Nat)) (i j : Nat), i < l.length → nth none (l.set i (some v)) j = if j = i then some v else nth none l j := by
    intro l
    induction l with
    | nil => intro i j h; simp at h
    | cons a l ih =>
      intro i j h
      cases i with
      | zero => cases j <;> simp [nth]
      | succ i =>
        cases j with
        | zero => simp [nth]
        | succ j =>
          simp only [List.set_cons_succ, nth, ih i j (by simpa using h)]
          simp
  funext j
  unfold va_up
  rw [key l i j h]
  split <;> rfl
theorem y_aast {b n x : Nat} {u : List (Option Nat)} {fs : List Value} {i : Int32} (X : CY p R s m args meth c D cA cQ A nL cc own) (hz : Z[b]? = some (.inr (.inl (n, u)))) (hx1 : Z[x]? = some (.inr (.inr (1, fs)))) (hi : ¬ (i < 0 ∨ n ≤ i.toNatClampNeg)) (hu : i.toNatClampNeg < u.length) (hd : decode cc pc = .ok (.aastore, 1)) (kk : WC p l e R s m args below meth c D cA cQ A w0 nL q0 Q (pc + 1) ls st (Z.set b (.inr (.inl (n, u.set i.toNatClampNeg (some x)))))) : WC p l e R s m args below meth c D cA cQ A w0 nL q0 Q pc ls (.ref x :: .int i :: .ref b :: st) Z := by
  intro as ls' H locs ha hL hP hD hS
  obtain ⟨hx, hb, hml, hown, hts, hK, hA, hnm⟩ := id X
  have hP0 : (wr as cA cQ 0 Z)[b]? = some (as b, .inl (cQ, n, .inr (.inr (.inr (.inr fun i => (nth none u i).map as))))) := by rw [wr_get, hz]; simp [rE]
  have hP1 : (wr as cA cQ 0 Z)[x]? = some (as x, .inr (1, fs.map (rv as))) := by rw [wr_get, hx1]; simp [rE]
  refine va_astq (q0 := b) (t0 := 1) (qk := x) (ci := 1) (r := (cR 1, cT 1, cN 1)) hx hb hK.1 hP hD hS hP0 rfl hP1 (cls_vw 1 (by omega)) hi hd (fun H1 locs1 hP1 hD1 hS1 => ?_)
  rw [va_up_nth hu] at hP1 hD1
  exact y_set (x := .inr (.inl (n, u))) (x' := .inr (.inl (n, u.set i.toNatClampNeg (some x)))) hz rfl kk ha hL hP1 hD1 hS1
theorem y_alen {b n : Nat} {u : List (Option Nat)} (X : CY p R s m args meth c D cA cQ A nL cc own) (hz : Z[b]? = some (.inr (.inl (n, u)))) (hd : decode cc pc = .ok (.arraylength, 1)) (kk : WC p l e R s m args below meth c D cA cQ A w0 nL q0 Q (pc + 1) ls (.int (nI n) :: st) Z) : WC p l e R s m args below meth c D cA cQ A w0 nL q0 Q pc ls (.ref b :: st) Z := by
  intro as ls' H locs ha hL hP hD hS
  obtain ⟨hx, hb, hml, hown, hts, hK, hA, hnm⟩ := id X
  have hP0 : (wr as cA cQ 0 Z)[b]? = some (as b, .inl (cQ, n, .inr (.inr (.inr (.inr fun i => (nth none u i).map as))))) := by rw [wr_get, hz]; simp [rE]
  exact va_alen (q0 := b) (t0 := 1) hx hb hK.1 hP hP0 rfl rfl hd (kk as ls' H locs ha hL hP hD hS)
theorem y_obj {b ix : Nat} (X : CY p R s m args meth c D cA cQ A nL cc own) (hl : Cond.methodLink (cR own) ix Lib.objectInit ∈ gT) (hR : 1 ≤ R.frames ∧ 40 ≤ R.locals) (hck : ckr st = true) (hd : decode cc pc = .ok (.invokespecial ix, 3)) (kk : WC p l e R s m args below meth c D cA cQ A w0 nL q0 Q (pc + 3) ls st Z) : WC p l e R s m args below meth c D cA cQ A w0 nL q0 Q pc ls (.ref b :: st) Z := by
  intro as ls' H locs ha hL hP hD hS
  obtain ⟨hx, hb, hml, hown, hts, hK, hA, hnm⟩ := id X
  refine W.objInit hx hb hown (hts _ hl) (hts _ w_objI) (hts _ w_objC) rfl (by rw [hml]; exact hL.2.1) (rest := st.map (rv as)) rfl hd hR.1 ?_ (kk as ls' H locs ha hL hP hD hS)
  have := ckr_sum (ad := as) hck
  show 2 * 0 + _ + 12 ≤ _
  omega
theorem y_max {x y : Int32} {ix : Nat} (X : CY p R s m args meth c D cA cQ A nL cc own) (hl : Cond.methodLink (cR own) ix Lib.Math.max.name ∈ gT) (hR : 1 ≤ R.frames ∧ 40 ≤ R.locals) (hR2 : Z.length - w0 ≤ R.cells ∧ slS w0 Z ≤ R.slots) (hck : ckr st = true) (hd : decode cc pc = .ok (.invokestatic ix, 3)) (kk : WC p l e R s m args below meth c D cA cQ A w0 nL q0 Q (pc + 3) ls (.int (if x < y then y else x) :: st) Z) : WC p l e R s m args below meth c D cA cQ A w0 nL q0 Q pc ls (.int y :: .int x :: st) Z := by
  intro as ls' H locs ha hL hP hD hS
  obtain ⟨hx, hb, hml, hown, hts, hK, hA, hnm⟩ := id X
  refine va_mmax hx hb (by rw [hL.2.1]; exact hml) hown (hts _ hl) (hts _ w_maxS) (hts _ w_maxI) (hts _ w_maxC) hR.1 ?_ hR2.1 hR2.2 hd (kk as ls' H locs ha hL hP hD hS)
  have := ckr_sum (ad := as) hck
  omega
end ECU
