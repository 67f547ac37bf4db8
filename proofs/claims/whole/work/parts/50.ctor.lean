
/-! ===== constructors: worlds that grow ===== -/
def look : List (Nat × Int32) → Nat → Int32
  | [], _ => 0
  | q :: u, i => if i = q.1 then q.2 else look u i
/-- an array of ints (length, what was stored), an array of references, an object (class, fields) -/
abbrev CE : Type := (Nat × List (Nat × Int32)) ⊕ ((Nat × List (Option Nat)) ⊕ (Nat × List Value))
def sl : CE → Nat
  | .inl q => q.1
  | .inr (.inl q) => q.1
  | .inr (.inr q) => cN q.1
def rE (as : Nat → Nat) (cA cQ : ClassId) : CE → va_E
  | .inl q => .inl (cA, q.1, .inl (look q.2))
  | .inr (.inl q) => .inl (cQ, q.1, .inr (.inr (.inr (.inr fun i => (nth none q.2 i).map as))))
  | .inr (.inr q) => .inr (q.1, q.2.map (rv as))
def wr (as : Nat → Nat) (cA cQ : ClassId) : Nat → List CE → va_W
  | _, [] => []
  | k, x :: W => (as k, rE as cA cQ x) :: wr as cA cQ (k + 1) W
theorem wr_get {as : Nat → Nat} {cA cQ : ClassId} : ∀ (W : List CE) (k j : Nat), (wr as cA cQ k W)[j]? = (W[j]?).map fun x => (as (k + j), rE as cA cQ x)
  | [], k, j => by simp [wr]
  | x :: W, k, 0 => by simp [wr]
  | x :: W, k, j + 1 => by
    simp only [wr, List.getElem?_cons_succ, wr_get W (k + 1) j]
    rw [show k + 1 + j = k + (j + 1) by omega]
theorem wr_len {as : Nat → Nat} {cA cQ : ClassId} : ∀ (W : List CE) (k : Nat), (wr as cA cQ k W).length = W.length
  | [], _ => rfl
  | x :: W, k => by simp [wr, wr_len W (k + 1)]
theorem wr_app {as : Nat → Nat} {cA cQ : ClassId} : ∀ (W V : List CE) (k : Nat), wr as cA cQ k (W ++ V) = wr as cA cQ k W ++ wr as cA cQ (k + W.length) V
  | [], V, k => by simp [wr]
  | x :: W, V, k => by
    simp only [List.cons_append, wr, wr_app W V (k + 1), List.length_cons]
    rw [show k + 1 + W.length = k + (W.length + 1) by omega]
theorem wr_set {as : Nat → Nat} {cA cQ : ClassId} : ∀ (W : List CE) (k j : Nat) (x : CE), wr as cA cQ k (W.set j x) = (wr as cA cQ k W).set j (as (k + j), rE as cA cQ x)
  | [], k, j, x => by simp [wr]
  | y :: W, k, 0, x => by simp [wr]
  | y :: W, k, j + 1, x => by
    simp only [List.set_cons_succ, wr, wr_set W (k + 1) j x]
    rw [show k + 1 + j = k + (j + 1) by omega]
/-- every reference lies below n -/
def rbV (n : Nat) : Value → Bool
  | .ref k => Nat.ble (k + 1) n
  | _ => true
def rbO (n : Nat) : Option Nat → Bool
  | some k => Nat.ble (k + 1) n
  | none => true
def rbE (n : Nat) : CE → Bool
  | .inl _ => true
  | .inr (.inl q) => q.2.all (rbO n)
  | .inr (.inr q) => q.2.all (rbV n)
def rbL (n : Nat) : List (Option Value) → Bool
  | [] => true
  | a :: l => (match a with
    | some v => rbV n v
    | none => true) && rbL n l
def gd (Z : List CE) (ls : List (Option Value)) (st : List Value) : Bool := Z.all (rbE Z.length) && rbL Z.length ls && st.all (rbV Z.length)
def agr (n : Nat) (as as' : Nat → Nat) : Prop := ∀ k, k < n → as' k = as k
theorem rv_agr {n : Nat} {as as' : Nat → Nat} (h : agr n as as') {v : Value} (hv : rbV n v = true) : rv as' v = rv as v := by
  cases v <;> simp only [rv]
  rename_i a
  rw [h a (Nat.le_of_ble_eq_true hv)]
theorem map_agr {n : Nat} {as as' : Nat → Nat} (h : agr n as as') : ∀ {l : List Value}, l.all (rbV n) = true → l.map (rv as') = l.map (rv as)
  | [], _ => rfl
  | v :: l, hl => by
    simp only [List.all_cons, Bool.and_eq_true] at hl
    simp only [List.map_cons, rv_agr h hl.1, map_agr h hl.2]
theorem nth_all {α : Type} {d : α} {f : α → Bool} (hd : f d = true) : ∀ {l : List α} (i : Nat), l.all f = true → f (nth d l i) = true
  | [], _, _ => hd
  | a :: l, 0, h => by simp only [List.all_cons, Bool.and_eq_true] at h; exact h.1
  | a :: l, i + 1, h => by simp only [List.all_cons, Bool.and_eq_true] at h; exact nth_all hd i h.2
theorem rE_agr {n : Nat} {as as' : Nat → Nat} {cA cQ : ClassId} (h : agr n as as') {x : CE} (hx : rbE n x = true) : rE as' cA cQ x = rE as cA cQ x := by
  match x, hx with
  | .inl q, _ => rfl
  | .inr (.inl q), hx =>
    simp only [rE]
    have : (fun i => (nth none q.2 i).map as') = (fun i => (nth none q.2 i).map as) := by
      funext i
      have h1 := nth_all (d := none) (f := rbO n) rfl i hx
      cases hq : nth none q.2 i with
      | none => rfl
      | some k =>
        rw [hq] at h1
        simp only [Option.map_some, h k (Nat.le_of_ble_eq_true h1)]
    rw [this]
  | .inr (.inr q), hx =>
    simp only [rE]
    rw [map_agr h hx]
theorem wr_agr {n : Nat} {as as' : Nat → Nat} {cA cQ : ClassId} (h : agr n as as') : ∀ {Z : List CE} {k : Nat}, k + Z.length ≤ n → Z.all (rbE n) = true → wr as' cA cQ k Z = wr as cA cQ k Z
  | [], _, _, _ => rfl
  | x :: Z, k, hk, hz => by
    simp only [List.all_cons, Bool.and_eq_true] at hz
    simp only [List.length_cons] at hk
    simp only [wr, h k (by omega), rE_agr h hz.1, wr_agr h (Z := Z) (k := k + 1) (by omega) hz.2]
theorem rbL_lk {n : Nat} : ∀ {ls : List (Option Value)} {i : Nat} {v : Value}, rbL n ls = true → lk ls i = some v → rbV n v = true
  | [], _, _, _, h => by simp [lk] at h
  | a :: l, 0, v, hb, h => by
    simp only [rbL, Bool.and_eq_true] at hb
    simp only [lk] at h
    rw [h] at hb
    exact hb.1
  | a :: l, i + 1, v, hb, h => by
    simp only [rbL, Bool.and_eq_true] at hb
    exact rbL_lk hb.2 h
theorem LR_agr {n nL : Nat} {as as' : Nat → Nat} (h : agr n as as') {ls : List (Option Value)} {ls' : Array Slot} (hb : rbL n ls = true) (hL : LR as nL ls ls') : LR as' nL ls ls' :=
  ⟨hL.1, hL.2.1, hL.2.2.1, fun i v hv => by rw [rv_agr h (rbL_lk hb hv)]; exact hL.2.2.2 i v hv⟩
def slS (w0 : Nat) (Z : List CE) : Nat := ((Z.drop w0).map sl).sum
def KC (D : va_G) (cA cQ : ClassId) (U : State) : Prop := va_K D vwCl [(cA, .int), (cQ, .object "StairRegiment$House")] U ∧ (∀ q ∈ nestL, va_Nw (.methodLinkNest q.1 q.2.1 q.2.2 "StairRegiment") U) ∧ va_AO "StairRegiment$House" U
theorem KC.warm {D : va_G} {cA cQ : ClassId} {s U : State} (hW : s.WarmedH U.vm) (h : KC D cA cQ s) : KC D cA cQ U := ⟨va_K.moved hW.alike h.1, fun q hq => va_Nw.warmM hW (h.2.1 q hq), va_AO.moved hW.alike h.2.2⟩
theorem KC.same {D : va_G} {cA cQ : ClassId} {s U : State} (hv : U.vm = s.vm) (h : KC D cA cQ s) : KC D cA cQ U := ⟨va_K.moved (by rw [hv]; exact Vm.Alike.refl _) h.1, fun q hq => va_Nw.same rfl hv.symm (h.2.1 q hq), va_AO.moved (by rw [hv]; exact Vm.Alike.refl _) h.2.2⟩
def WC (p : Program) (l : Launch) (e : Env) (R : Room) (s : State) (m : MethodId) (args : Array Value) (below : List Frame) (meth : Method) (c : Code) (D : va_G) (cA cQ : ClassId) (A : Nat → Prop) (w0 nL : Nat) (q0 : Option Nat) (Q : State → Prop) (pc : Nat) (ls : List (Option Value)) (st : List Value) (Z : List CE) : Prop :=
  ∀ (as : Nat → Nat) (ls' : Array Slot) (H : Heap) (locs : List Loc), (∀ q, q0 = some q → as 0 = q) → LR as nL ls ls' → va_P D vwCl (wr as cA cQ 0 Z) H → va_D A (wr as cA cQ 0 Z) → va_S A s.heap H locs → W p l e R s m args below meth c H locs (Z.length - w0) (slS w0 Z) Q (F0 m pc ls' (st.map (rv as)))
def CY (p : Program) (R : Room) (s : State) (m : MethodId) (args : Array Value) (meth : Method) (c : Code) (D : va_G) (cA cQ : ClassId) (A : Nat → Prop) (nL : Nat) (cc : ByteArray) (own : Nat) : Prop :=
  p.tables.exec = Jvm.exec ∧ c.code = cc ∧ c.maxLocals = nL ∧ s.vm.findClass (cR own) = some m.cls ∧ (∀ w ∈ gT, w.before args s = true) ∧ KC D cA cQ s ∧ (∀ q, s.heap.size ≤ q → A q) ∧ meth.name = "<init>"
def dfl (ci : Nat) : List Value := (List.range (cN ci)).map fun k => if fk ci k = 0 then .null else .int 0
theorem slS_app {w0 : Nat} {Z : List CE} {x : CE} (h : w0 ≤ Z.length) : slS w0 (Z ++ [x]) = slS w0 Z + sl x := by
  unfold slS
  rw [List.drop_append_of_le_length h]
  simp
theorem len_app {w0 : Nat} {Z : List CE} {x : CE} (h : w0 ≤ Z.length) : (Z ++ [x]).length - w0 = Z.length - w0 + 1 := by
  simp only [List.length_append, List.length_cons, List.length_nil]
  omega

theorem dfl_ok : ∀ ci, ci < 12 → ∀ j, j < cN ci → defaultValue (cTy ci j) = vp_V (dfl ci) j := by decide +kernel
theorem dfl_rv {as : Nat → Nat} {ci : Nat} : (dfl ci).map (rv as) = dfl ci := by
  unfold dfl
  rw [List.map_map]
  apply List.map_congr_left
  intro k _
  simp only [Function.comp]
  split <;> rfl
theorem dfl_rb (ci n : Nat) : rbE n (.inr (.inr (ci, dfl ci))) = true := by
  simp only [rbE, dfl, List.all_map, List.all_eq_true]
  intro k _
  simp only [Function.comp]
  split <;> rfl
section ECT
variable {p : Program} {l : Launch} {e : Env} {R : Room} {s : State} {m : MethodId} {args : Array Value} {below : List Frame} {meth : Method} {c : Code} {D : va_G} {cA cQ : ClassId} {A : Nat → Prop} {w0 nL : Nat} {q0 : Option Nat} {Q : State → Prop} {cc : ByteArray} {own : Nat} {pc : Nat} {ls : List (Option Value)} {st t : List Value} {Z : List CE}
/-- a cell that was made: the addresses go on -/
theorem y_push {x : CE} (hw : w0 ≤ Z.length) (h0 : q0 = none ∨ 0 < Z.length) (hg : gd Z ls st = true) (hx : rbE Z.length x = true) (k : WC p l e R s m args below meth c D cA cQ A w0 nL q0 Q pc ls (.ref Z.length :: st) (Z ++ [x])) {as : Nat → Nat} {ls' : Array Slot} {H : Heap} {locs : List Loc} {q : Nat} (ha : ∀ q, q0 = some q → as 0 = q) (hL : LR as nL ls ls') (hP : va_P D vwCl (wr as cA cQ 0 Z ++ [(q, rE as cA cQ x)]) H) (hD : va_D A (wr as cA cQ 0 Z ++ [(q, rE as cA cQ x)])) (hS : va_S A s.heap H locs) : W p l e R s m args below meth c H locs (Z.length - w0 + 1) (slS w0 Z + sl x) Q (F0 m pc ls' (.ref q :: st.map (rv as))) := by
  simp only [gd, Bool.and_eq_true] at hg
  obtain ⟨⟨g1, g2⟩, g3⟩ := hg
  have hag : agr Z.length as (fun k => if k = Z.length then q else as k) := fun k hk => if_neg (Nat.ne_of_lt hk)
  have e1 : wr (fun k => if k = Z.length then q else as k) cA cQ 0 (Z ++ [x]) = wr as cA cQ 0 Z ++ [(q, rE as cA cQ x)] := by
    rw [wr_app, wr_agr hag (by omega) g1]
    simp [wr, rE_agr hag hx]
  have h1 := k (fun k => if k = Z.length then q else as k) ls' H locs (fun q' hq => by
    rcases h0 with h | h
    · rw [h] at hq; cases hq
    · rw [if_neg (by omega)]; exact ha q' hq) (LR_agr hag g2 hL) (by rw [e1]; exact hP) (by rw [e1]; exact hD) hS
  rw [len_app hw, slS_app hw] at h1
  rw [List.map_cons, map_agr hag g3] at h1
  simpa [rv] using h1
theorem y_new {ci ix : Nat} (X : CY p R s m args meth c D cA cQ A nL cc own) (hw : w0 ≤ Z.length) (h0 : q0 = none ∨ 0 < Z.length) (hg : gd Z ls st = true) (hci : ci < 12) (hl : Cond.classLink (cR own) ix (cR ci) ∈ gT) (hin : Cond.instantiable (cR ci) (cN ci) ∈ gT) (hini : Cond.initialized (cR ci) ∈ gT) (hR : Z.length - w0 + 1 ≤ R.cells ∧ slS w0 Z + cN ci ≤ R.slots) (hd : decode cc pc = .ok (.new ix, 3)) (k : WC p l e R s m args below meth c D cA cQ A w0 nL q0 Q (pc + 3) ls (.ref Z.length :: st) (Z ++ [.inr (.inr (ci, dfl ci))])) : WC p l e R s m args below meth c D cA cQ A w0 nL q0 Q pc ls st Z := by
  intro as ls' H locs ha hL hP hD hS
  obtain ⟨hx, hb, hml, hown, hts, hK, hA, -⟩ := id X
  refine va_new (ci := ci) (fs := dfl ci) (C := cR ci) (T := cT ci) (N := cN ci) hx hb hts (cls_ws hci) (cTy ci) (cls_ty ci hci) hown (hts _ hl) (hts _ hin) (hts _ hini) hK.1 hP hD hS hA (cls_vw ci hci) (fun j hj => ?_) hR.1 hR.2 hd (fun q H1 hP1 hD1 hS1 => ?_)
  · exact dfl_ok ci hci j hj
  · have e : rE as cA cQ (.inr (.inr (ci, dfl ci))) = .inr (ci, dfl ci) := by simp only [rE, dfl_rv]
    exact y_push hw h0 hg (dfl_rb ci Z.length) k ha hL (by rw [e]; exact hP1) (by rw [e]; exact hD1) hS1
end ECT
