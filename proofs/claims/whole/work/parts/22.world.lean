/-! ===== the world of a memory ===== -/
def rv (ad : Nat → Nat) (v : Value) : Value := match v with
  | .ref k => .ref (ad k)
  | .retAddr k => .int (kI k)
  | v => v
theorem rv_gi {ad : Nat → Nat} {v : Value} {x : Int32} (h : gi v = some x) : rv ad v = .int x := by
  cases v <;> simp [gi, rv] at h ⊢ <;> exact h
theorem rv_nrm (ad : Nat → Nat) (v : Value) : rv ad (nrm v) = rv ad v := by
  cases v <;> rfl
theorem rv_c1 {ad : Nat → Nat} {v : Value} (h : c1 v = true) : (rv ad v).category = 1 := by
  cases v <;> simp [c1, rv, Value.category] at h ⊢
def wF (ad : Nat → Nat) (σ : Mem) (c ci : Nat) : List Value := (List.range (cN ci)).map fun k => if fk ci k = 0 then .ref (ad (rf c k)) else .int (σ c k)
def wE (ad : Nat → Nat) (cA cQ : ClassId) (σ : Mem) (c : Nat) : va_E := if kd c = 1 then .inl (cA, ln c, .inl (σ c)) else if kd c = 2 then .inl (cQ, ln c, .inr (.inr (.inr (.inr fun i => some (ad (rf c i)))))) else .inr (kd c - 3, wF ad σ c (kd c - 3))
def wd (ad : Nat → Nat) (cA cQ : ClassId) (σ : Mem) : va_W := (List.range nC).map fun c => (ad c, wE ad cA cQ σ c)
theorem wd_get {ad : Nat → Nat} {cA cQ : ClassId} {σ : Mem} {c : Nat} (h : c < nC) : (wd ad cA cQ σ)[c]? = some (ad c, wE ad cA cQ σ c) := by
  simp [wd, List.getElem?_range h]
theorem wd_len {ad : Nat → Nat} {cA cQ : ClassId} {σ : Mem} : (wd ad cA cQ σ).length = nC := by simp [wd]
theorem nth_big {α : Type} (d : α) : ∀ (l : List α) (n : Nat), l.length ≤ n → nth d l n = d
  | [], _, _ => rfl
  | _ :: _, 0, h => by simp at h
  | _ :: l, n + 1, h => nth_big d l n (by simpa using h)
theorem kd_lt {c : Nat} (h : kd c ≠ 0) : c < nC := by
  rcases Nat.lt_or_ge c 176 with h1 | h1
  · have key : ∀ c, c < 176 → kd c ≠ 0 → c < nC := by decide +kernel
    exact key c h1 h
  · exfalso
    apply h
    have h2 : kdT.length ≤ c / 16 := by
      have : kdT.length = 11 := by decide +kernel
      omega
    rw [kd, nth_big [] kdT (c / 16) h2]
    rfl
theorem wd_set {ad : Nat → Nat} {cA cQ : ClassId} {σ σ' : Mem} {c : Nat} {E : va_E} (hc : c < nC) (he : wE ad cA cQ σ' c = E) (ho : ∀ a, a ≠ c → σ' a = σ a) : (wd ad cA cQ σ).set c (ad c, E) = wd ad cA cQ σ' := by
  apply List.ext_getElem?
  intro k
  rw [List.getElem?_set]
  by_cases hk : c = k
  · subst hk
    rw [if_pos rfl, if_pos (by rw [wd_len]; exact hc), wd_get hc, he]
  · rw [if_neg hk]
    by_cases hk2 : k < nC
    · rw [wd_get hk2, wd_get hk2]
      have : wE ad cA cQ σ k = wE ad cA cQ σ' k := by
        unfold wE wF
        rw [ho k (fun q => hk q.symm)]
      rw [this]
    · simp [wd, Nat.not_lt.mp hk2]
theorem wd_D {ad : Nat → Nat} {cA cQ : ClassId} {σ : Mem} {A : Nat → Prop} (hi : ∀ a b, a < nC → b < nC → ad a = ad b → a = b) (hA : ∀ a, a < nC → A (ad a)) : va_D A (wd ad cA cQ σ) := by
  have g : ∀ (k : Nat) (q : Nat × va_E), (wd ad cA cQ σ)[k]? = some q → k < nC ∧ q.1 = ad k := by
    intro k q h
    have hk : k < nC := by
      have := (List.getElem?_eq_some_iff.mp h).1
      rwa [wd_len] at this
    rw [wd_get hk] at h
    cases h
    exact ⟨hk, rfl⟩
  refine ⟨fun i j x y hx hy e => ?_, fun k q h => ?_⟩
  · obtain ⟨h1, h2⟩ := g i x hx
    obtain ⟨h3, h4⟩ := g j y hy
    exact hi i j h1 h3 (by rw [← h2, ← h4]; exact e)
  · obtain ⟨h1, h2⟩ := g k q h
    rw [h2]
    exact hA k h1
theorem wE_arr {ad : Nat → Nat} {cA cQ : ClassId} {σ : Mem} {c : Nat} (h : kd c = 1) : wE ad cA cQ σ c = .inl (cA, ln c, .inl (σ c)) := by simp [wE, h]
theorem wE_qar {ad : Nat → Nat} {cA cQ : ClassId} {σ : Mem} {c : Nat} (h : kd c = 2) : wE ad cA cQ σ c = .inl (cQ, ln c, .inr (.inr (.inr (.inr fun i => some (ad (rf c i)))))) := by simp [wE, h]
theorem wE_obj {ad : Nat → Nat} {cA cQ : ClassId} {σ : Mem} {c ci : Nat} (h : kd c = ci + 3) : wE ad cA cQ σ c = .inr (ci, wF ad σ c ci) := by
  have h1 : ¬ ci + 3 = 1 := by omega
  have h2 : ¬ ci + 3 = 2 := by omega
  simp [wE, h, h1, h2]
theorem wF_get {ad : Nat → Nat} {σ : Mem} {c ci k : Nat} (hk : k < cN ci) : (wF ad σ c ci)[k]? = some (if fk ci k = 0 then .ref (ad (rf c k)) else .int (σ c k)) := by
  simp [wF, List.getElem?_range hk]
theorem wF_set {ad : Nat → Nat} {σ : Mem} {c ci k : Nat} {v : Int32} (hf : fk ci k ≠ 0) : (wF ad σ c ci).set k (.int v) = wF ad (mw σ c k v) c ci := by
  apply List.ext_getElem?
  intro j
  rw [List.getElem?_set]
  by_cases hj : k = j
  · subst hj
    rw [if_pos rfl]
    by_cases hk : k < cN ci
    · rw [if_pos (by simpa [wF] using hk), wF_get hk]
      simp [hf, mw]
    · rw [if_neg (by simpa [wF] using hk)]
      simp [wF, Nat.not_lt.mp hk]
  · rw [if_neg hj]
    by_cases hk : j < cN ci
    · rw [wF_get hk, wF_get hk]
      have : mw σ c k v c j = σ c j := by simp [mw, Ne.symm hj]
      rw [this]
    · simp [wF, Nat.not_lt.mp hk]
theorem mw_o {σ : Mem} {c k : Nat} {v : Int32} {a : Nat} (h : a ≠ c) : mw σ c k v a = σ a := by simp [mw, h]
/-! ===== the locals ===== -/
def LR (ad : Nat → Nat) (nL : Nat) (ls : List (Option Value)) (ls' : Array Slot) : Prop := ls.length = nL ∧ ls'.size = nL ∧ lv_wf ls' ∧ ∀ (i : Nat) (v : Value), lk ls i = some v → ls'[i]? = some (.val (rv ad v))
theorem lk_lt : ∀ {ls : List (Option Value)} {i : Nat} {v : Value}, lk ls i = some v → i < ls.length
  | [], _, _, h => by simp [lk] at h
  | _ :: _, 0, _, _ => by simp
  | _ :: l, n + 1, _, h => by
    have := lk_lt (ls := l) (i := n) h
    simp only [List.length_cons]
    omega
theorem lset_len : ∀ (ls : List (Option Value)) (i : Nat) (v : Value), (lset ls i v).length = ls.length
  | [], _, _ => rfl
  | _ :: _, 0, _ => rfl
  | _ :: l, n + 1, v => by simp [lset, lset_len l n v]
theorem lk_lset : ∀ (ls : List (Option Value)) (i : Nat) (v : Value) (j : Nat) (w : Value), lk (lset ls i v) j = some w → (j = i ∧ w = v) ∨ (j ≠ i ∧ lk ls j = some w)
  | [], _, _, _, _, h => by simp [lset, lk] at h
  | _ :: _, 0, v, 0, w, h => by simp [lset, lk] at h; exact Or.inl ⟨rfl, h.symm⟩
  | _ :: l, 0, v, j + 1, w, h => Or.inr ⟨by omega, h⟩
  | a :: l, i + 1, v, 0, w, h => Or.inr ⟨by omega, h⟩
  | a :: l, i + 1, v, j + 1, w, h => by
    rcases lk_lset l i v j w h with ⟨h1, h2⟩ | ⟨h1, h2⟩
    · exact Or.inl ⟨by omega, h2⟩
    · exact Or.inr ⟨by omega, h2⟩
def lvO (ad : Nat → Nat) (ls : List (Option Value)) : List (Nat × Value) := (List.range ls.length).filterMap fun i => (lk ls i).map fun v => (i, rv ad v)
theorem LR.has {ad : Nat → Nat} {nL : Nat} {ls : List (Option Value)} {ls' : Array Slot} (h : LR ad nL ls ls') : lv_has ls' nL (lvO ad ls) := by
  refine ⟨h.2.1, h.2.2.1, fun q hq => ?_⟩
  obtain ⟨i, -, h2⟩ := List.mem_filterMap.mp hq
  cases hk : lk ls i with
  | none => rw [hk] at h2; cases h2
  | some v => rw [hk] at h2; cases h2; exact h.2.2.2 i v hk
theorem lvO_mem {ad : Nat → Nat} {ls : List (Option Value)} {i : Nat} {v : Value} (h : lk ls i = some v) : (i, rv ad v) ∈ lvO ad ls :=
  List.mem_filterMap.mpr ⟨i, List.mem_range.mpr (lk_lt h), by rw [h]; rfl⟩
theorem rv_cat {ad : Nat → Nat} {ls : List (Option Value)} {i : Nat} {v : Value} (h : (rv ad v).category = 2) : ∃ x, v = .long x ∨ ∃ x, v = .double x := by
  cases v <;> simp [rv, Value.category] at h
  · exact ⟨_, Or.inl rfl⟩
  · exact ⟨0, Or.inr ⟨_, rfl⟩⟩
/-- the locals hold values of one slot alone -/
def ck1 (ls : List (Option Value)) : Prop := ∀ i v, lk ls i = some v → c1 v = true
theorem LR.store {ad : Nat → Nat} {nL i : Nat} {ls : List (Option Value)} {ls1 : Array Slot} {v : Value} {lv' : List (Nat × Value)} (h : LR ad nL ls ls1) (hc : ck1 ls) (hl : (i, rv ad v) :: (lvO ad ls).filter (fun q => !(q.1 == i) && !(q.1 + 1 == i && q.2.category == 2)) = lv') {ls' : Array Slot} (h' : lv_has ls' nL lv') : LR ad nL (lset ls i v) ls' := by
  refine ⟨by rw [lset_len]; exact h.1, h'.1, h'.2.1, fun j w hj => ?_⟩
  rcases lk_lset ls i v j w hj with ⟨h1, h2⟩ | ⟨h1, h2⟩
  · subst h1; subst h2
    exact h'.2.2 (j, rv ad w) (by rw [← hl]; exact List.mem_cons_self)
  · refine h'.2.2 (j, rv ad w) ?_
    rw [← hl]
    refine List.mem_cons_of_mem _ (List.mem_filter.mpr ⟨lvO_mem h2, ?_⟩)
    have hcat : (rv ad w).category = 1 := rv_c1 (hc j w h2)
    simp [h1, hcat]
theorem ck1_lset {ls : List (Option Value)} {i : Nat} {v : Value} (h : ck1 ls) (hv : c1 v = true) : ck1 (lset ls i v) := by
  intro j w hj
  rcases lk_lset ls i v j w hj with ⟨-, h2⟩ | ⟨-, h2⟩
  · rw [h2]; exact hv
  · exact h j w h2
theorem lk_nrmL : ∀ (ls : List (Option Value)) (i : Nat) (w : Value), lk (nrmL ls) i = some w → ∃ v, lk ls i = some v ∧ w = nrm v
  | [], _, _, h => by simp [nrmL, lk] at h
  | a :: l, 0, w, h => by
    cases a with
    | none => simp [nrmL, lk] at h
    | some v => simp only [nrmL, lk] at h; exact ⟨v, rfl, by cases h; rfl⟩
  | _ :: l, n + 1, w, h => lk_nrmL l n w h
theorem nrmL_len : ∀ (ls : List (Option Value)), (nrmL ls).length = ls.length
  | [] => rfl
  | _ :: l => by simp [nrmL, nrmL_len l]
theorem LR.nrm {ad : Nat → Nat} {nL : Nat} {ls : List (Option Value)} {ls' : Array Slot} (h : LR ad nL ls ls') : LR ad nL (nrmL ls) ls' := by
  refine ⟨by rw [nrmL_len]; exact h.1, h.2.1, h.2.2.1, fun i w hw => ?_⟩
  obtain ⟨v, h1, h2⟩ := lk_nrmL ls i w hw
  rw [h2, rv_nrm]
  exact h.2.2.2 i v h1
theorem ck1_nrm {ls : List (Option Value)} (h : ck1 ls) : ck1 (nrmL ls) := by
  intro i w hw
  obtain ⟨v, h1, h2⟩ := lk_nrmL ls i w hw
  have := h i v h1
  rw [h2]
  cases v <;> first | rfl | exact this
theorem tk_spec : ∀ (k : Nat) (st acc av t : List Value), tk k st acc = some (av, t) → ∃ pre, st = pre ++ t ∧ av = pre.reverse ++ acc ∧ pre.length = k
  | 0, st, acc, av, t, h => by simp only [tk, Option.some.injEq, Prod.mk.injEq] at h; exact ⟨[], by simp [h.2], by simp [h.1], rfl⟩
  | k + 1, [], acc, av, t, h => by simp [tk] at h
  | k + 1, v :: st, acc, av, t, h => by
    obtain ⟨pre, h1, h2, h3⟩ := tk_spec k st (v :: acc) av t h
    exact ⟨v :: pre, by simp [h1], by simp [h2], by simp [h3]⟩
theorem nrmA_rv (ad : Nat → Nat) : ∀ (l : List Value), (nrmA l).map (rv ad) = l.map (rv ad)
  | [] => rfl
  | v :: l => by simp [nrmA, rv_nrm, nrmA_rv ad l]
theorem ckr_sum {ad : Nat → Nat} {t : List Value} (h : ckr t = true) : ((t.map (rv ad)).map fun v => v.category).sum ≤ 8 := by
  simp only [ckr, Bool.and_eq_true, List.all_eq_true] at h
  have h1 : t.length ≤ 8 := Nat.le_of_ble_eq_true h.1
  have h2 : ∀ (t : List Value), (∀ v ∈ t, c1 v = true) → ((t.map (rv ad)).map fun v => v.category).sum = t.length := by
    intro t
    induction t with
    | nil => intro _; rfl
    | cons v t ih =>
      intro h
      simp only [List.map_cons, List.sum_cons, List.length_cons, rv_c1 (h v List.mem_cons_self), ih (fun w hw => h w (List.mem_cons_of_mem _ hw))]
      omega
  rw [h2 t h.2]
  exact h1
