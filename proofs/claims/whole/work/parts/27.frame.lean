/-! ===== from a run to a method's contract ===== -/
def Sm (M : MI) (Cl : Nat → List Value → Mem → Option (Int32 × Mem)) (code : MC) (kps : List Nat) (z : Int32 × Mem) (RA : Nat → List (Option Value) → Mem → Prop) : Prop :=
  (∀ (pc : Nat) (ls ls1 : List (Option Value)) (σ : Mem), ls1.length = M.2.2.1 → (∀ i v, lk ls1 i = some v → lk ls i = some v) → RA pc ls1 σ → RA pc ls σ) ∧
  ∀ (K : Nat → List (Option Value) → Mem → Option (Int32 × Mem)), (∀ k ls σ, K k ls σ = some z → RA (nth 0 kps k) ls σ) → ∀ (n j : Nat) (ls : List (Option Value)) (σ : Mem), ck1 ls → xs Cl K 0 (fun _ => 0) code n (code.drop j) ls [] σ = some z → RA (pcO (code.drop j)) ls σ
def entL (n : Nat) (av : List Value) : List (Option Value) := av.map some ++ List.replicate (n - av.length) none
theorem lk_ge : ∀ (ls : List (Option Value)) (i : Nat), lk ls i = (ls[i]?).join
  | [], i => by simp [lk]
  | a :: l, 0 => by simp [lk]
  | _ :: l, n + 1 => by simp [lk, lk_ge l n]
theorem lk_ent {n : Nat} {av : List Value} {i : Nat} {v : Value} (h : lk (entL n av) i = some v) : av[i]? = some v := by
  rw [lk_ge, entL] at h
  by_cases hi : i < av.length
  · rw [List.getElem?_append_left (by simpa using hi), List.getElem?_map] at h
    cases hq : av[i]? with
    | none => rw [hq] at h; cases h
    | some w => rw [hq] at h; simpa using h
  · rw [List.getElem?_append_right (by simpa using Nat.not_lt.mp hi)] at h
    have : ∀ (k : Nat), ((List.replicate (n - av.length) (none : Option Value))[k]?).join = none := by
      intro k
      cases hq : (List.replicate (n - av.length) (none : Option Value))[k]? with
      | none => rfl
      | some w => rw [List.getElem?_replicate] at hq; split at hq <;> simp_all
    rw [this] at h
    cases h
theorem lv_args_mem : ∀ (vs : List Value) (k i : Nat) (v : Value), (∀ w ∈ vs, w.category = 1) → vs[i]? = some v → (k + i, v) ∈ lv_args k vs
  | [], _, _, _, _, h => by simp at h
  | w :: vs, k, 0, v, hc, h => by
    simp only [List.getElem?_cons_zero, Option.some.injEq] at h
    subst h
    simp [lv_args]
  | w :: vs, k, i + 1, v, hc, h => by
    have h1 : w.category = 1 := hc w List.mem_cons_self
    have h2 : ¬ w.category = 2 := by omega
    simp only [lv_args, if_neg h2]
    refine List.mem_cons_of_mem _ ?_
    have := lv_args_mem vs (k + 1) i v (fun u hu => hc u (List.mem_cons_of_mem _ hu)) (by simpa using h)
    rw [show k + (i + 1) = k + 1 + i by omega]
    exact this
theorem lg_sl_len : ∀ (vs : List Value), (∀ w ∈ vs, w.category = 1) → (lg_sl vs).length = vs.length
  | [], _ => rfl
  | w :: vs, hc => by
    have h1 : w.category = 1 := hc w List.mem_cons_self
    have h2 : ¬ w.category = 2 := by omega
    have h3 := lg_sl_len vs (fun u hu => hc u (List.mem_cons_of_mem _ hu))
    simp only [lg_sl] at h3 ⊢
    simp [List.flatMap_cons, h2, h3]
theorem LR.entry {ad : Nat → Nat} {n : Nat} {av : List Value} (hc : ∀ v ∈ av, c1 v = true) (hn : av.length ≤ n) : LR ad n (entL n av) ((lg_sl (av.map (rv ad)) ++ List.replicate (n - (lg_sl (av.map (rv ad))).length) Slot.unset).toArray) := by
  have hcat : ∀ w ∈ av.map (rv ad), w.category = 1 := by
    intro w hw
    obtain ⟨v, hv, rfl⟩ := List.mem_map.mp hw
    exact rv_c1 (hc v hv)
  have hlen := lg_sl_len (av.map (rv ad)) hcat
  have h := lv_entry (av.map (rv ad)) (n := n) (by rw [hlen, List.length_map]; exact hn)
  refine ⟨?_, h.1, h.2.1, fun i v hv => ?_⟩
  · simp only [entL, List.length_append, List.length_map, List.length_replicate]
    omega
  · have h1 := lk_ent hv
    have h2 := lv_args_mem (av.map (rv ad)) 0 i (rv ad v) hcat (by simp [h1])
    rw [Nat.zero_add] at h2
    exact h.2.2 (i, rv ad v) h2
theorem ck1_ent {n : Nat} {av : List Value} (hc : ∀ v ∈ av, c1 v = true) : ck1 (entL n av) := fun i v hv => hc v (List.mem_of_getElem? (lk_ent hv))
set_option maxHeartbeats 4000000 in
/-- the contract of a method out of the soundness of its function -/
theorem ctr_of {M : MI} {own d : Nat} {Cl : Nat → List Value → Mem → Option (Int32 × Mem)} {code : MC} {kps : List Nat} {av : List Value} {σ : Mem} {z : Int32 × Mem} (hM : mOK M) (ho : cR own = M.1.cls) (ho2 : own ≠ 16) (hc : okC own M.2.2.1 M.2.1 M.2.2.2.1 kps code code = true)
    (hCl : ∀ k av σ y, Cl k av σ = some y → Ctr d (mtab k) av σ y ∧ ((mtab k).2.2.2.2.2 = 77 → ∃ b rest, av = .ref b :: rest ∧ (b = 1001 ∨ b = 1002)))
    (hav : ∀ v ∈ av, c1 v = true) (hlen : av.length ≤ M.2.2.1) (hrun : ∀ RA, Sm M Cl code kps z RA → RA 0 (entL M.2.2.1 av) σ) : Ctr (d + 1) M av σ z := by
  intro l D cA cQ ad sz
  refine va_MetF (cc := M.2.1) (maxL := M.2.2.1) (ret := M.2.2.2.1) hM.2.2.1 rfl ?_
  intro p e s m args below meth c s₁ B hml hv
  obtain ⟨rfl, hsz, hP, hKK, hinj, hSS⟩ := hv
  subst hsz
  have hx := B.exec
  have hb := B.bytes
  have hr := B.returns
  have hts0 := atoms_spec (ws := Cond.code M.1 M.2.1 M.2.2.1 M.2.2.2.1 :: gT) B.pre
  have hts : ∀ w ∈ gT, w.before (av.map (rv ad)).toArray s = true := fun w hw => hts0 w (List.mem_cons_of_mem _ hw)
  have hown : s.vm.findClass (cR own) = some m.cls := by rw [ho]; exact findClass_of_methodNamed B.named
  have hlocks := B.notSynchronized
  have X : CX p (rmd (d + 1)) s m (av.map (rv ad)).toArray c D cA cQ ad (AA ad s.heap.size) 0 0 M.2.2.1 M.2.1 own 0 (fun _ => 0) :=
    ⟨hx, hb, hml, hown, hts, hKK, hinj, fun a ha => Or.inl ⟨a, ha, rfl⟩, fun q hq => Or.inr hq, hSS, ⟨Nat.zero_le _, Nat.zero_le _⟩, fun h => absurd h ho2⟩
  have hS0 : va_S (AA ad s.heap.size) s.heap s.heap [] := va_S.rf
  have hfin := hrun (fun pc ls σ => WG p l e (rmd (d + 1)) s m (av.map (rv ad)).toArray below meth c D cA cQ ad (AA ad s.heap.size) 0 0 M.2.2.1 (MQ below (QcM M.2.2.2.1 D cA cQ ad s.heap.size z) (av.map (rv ad)).toArray s 0 0 (AA ad s.heap.size)) pc ls [] σ) ⟨fun pc ls ls1 σ h1 h2 h3 => ?_, fun K hK n j ls σ hck h => ?_⟩
  · rw [lg_entry_eq]
    exact hfin _ s.heap [] (LR.entry hav hlen) hP hS0
  · intro ls' H locs hL hP hS
    exact h3 ls' H locs ⟨h1, hL.2.1, hL.2.2.1, fun i v hv => hL.2.2.2 i v (h2 i v hv)⟩ hP hS
  · refine xs_ok (d := d) (z := z) X hc ⟨Nat.le_refl _, Nat.le_refl _⟩ hCl (fun k ls σ _ h => hK k ls σ h) (fun pc ls hd ht => ?_) (fun pc ls hd ht => ?_) n (code.drop j) ls [] σ (okC_drop code j hc) hck h
    · intro ls' H locs hL hP hS
      rcases ht with ht | ⟨ht, hn⟩
      · refine W.iret hx hb (by rw [hr, ht]) (fun t ht1 hW => ?_) hS.2.2 hd
        rw [ht]
        exact ⟨⟨z.1, (), rfl, rfl, (by show va_P D vwCl (wd ad cA cQ z.2) t.heap; rw [ht1]; exact hP)⟩, hS.F ht1⟩
      · refine W.zret hx hb (ty := .boolean) (by rw [hr, ht]) (by show Value.int (z.1 &&& 1) = .int z.1; rw [hn]) (fun t ht1 hW => ?_) hS.2.2 hd
        rw [ht]
        exact ⟨⟨z.1, (), rfl, rfl, (by show va_P D vwCl (wd ad cA cQ z.2) t.heap; rw [ht1]; exact hP)⟩, hS.F ht1⟩
    · intro ls' H locs hL hP hS
      refine W.vret hx hb (by rw [hr, ht]) (fun t ht1 hW => ?_) hS.2.2 hd
      rw [ht]
      exact ⟨⟨(), rfl, trivial, (by show va_P D vwCl (wd ad cA cQ z.2) t.heap; rw [ht1]; exact hP)⟩, hS.F ht1⟩
set_option maxHeartbeats 4000000 in
/-- the contract of a method whose run is walked by hand -/
theorem ctr_hand {M : MI} {own d : Nat} {av : List Value} {σ : Mem} {z : Int32 × Mem} (hM : mOK M) (ho : cR own = M.1.cls) (ho2 : own ≠ 16) (hav : ∀ v ∈ av, c1 v = true) (hlen : av.length ≤ M.2.2.1)
    (hrun : ∀ (p : Program) (l : Launch) (e : Env) (s : State) (m : MethodId) (args : Array Value) (below : List Frame) (meth : Method) (c : Code) (D : va_G) (cA cQ : ClassId) (ad : Nat → Nat) (A : Nat → Prop) (Q : State → Prop), CX p (rmd (d + 1)) s m args c D cA cQ ad A 0 0 M.2.2.1 M.2.1 own 0 (fun _ => 0) →
      (∀ (pc : Nat) (ls : List (Option Value)) (ty : FieldType), M.2.2.2.1 = some ty → narrow ty (.int z.1) = .int z.1 → decode M.2.1 pc = .ok (.ireturn, 1) → WG p l e (rmd (d + 1)) s m args below meth c D cA cQ ad A 0 0 M.2.2.1 Q pc ls [.int z.1] z.2) →
      (∀ (pc : Nat) (ls : List (Option Value)), M.2.2.2.1 = none → decode M.2.1 pc = .ok (.return_, 1) → WG p l e (rmd (d + 1)) s m args below meth c D cA cQ ad A 0 0 M.2.2.1 Q pc ls [] z.2) →
      WG p l e (rmd (d + 1)) s m args below meth c D cA cQ ad A 0 0 M.2.2.1 Q 0 (entL M.2.2.1 av) [] σ) : Ctr (d + 1) M av σ z := by
  intro l D cA cQ ad sz
  refine va_MetF (cc := M.2.1) (maxL := M.2.2.1) (ret := M.2.2.2.1) hM.2.2.1 rfl ?_
  intro p e s m args below meth c s₁ B hml hv
  obtain ⟨rfl, hsz, hP, hKK, hinj, hSS⟩ := hv
  subst hsz
  have hx := B.exec
  have hb := B.bytes
  have hr := B.returns
  have hts0 := atoms_spec (ws := Cond.code M.1 M.2.1 M.2.2.1 M.2.2.2.1 :: gT) B.pre
  have hts : ∀ w ∈ gT, w.before (av.map (rv ad)).toArray s = true := fun w hw => hts0 w (List.mem_cons_of_mem _ hw)
  have hown : s.vm.findClass (cR own) = some m.cls := by rw [ho]; exact findClass_of_methodNamed B.named
  have hlocks := B.notSynchronized
  have X : CX p (rmd (d + 1)) s m (av.map (rv ad)).toArray c D cA cQ ad (AA ad s.heap.size) 0 0 M.2.2.1 M.2.1 own 0 (fun _ => 0) :=
    ⟨hx, hb, hml, hown, hts, hKK, hinj, fun a ha => Or.inl ⟨a, ha, rfl⟩, fun q hq => Or.inr hq, hSS, ⟨Nat.zero_le _, Nat.zero_le _⟩, fun h => absurd h ho2⟩
  have hS0 : va_S (AA ad s.heap.size) s.heap s.heap [] := va_S.rf
  have hfin := hrun p l e s m (av.map (rv ad)).toArray below meth c D cA cQ ad (AA ad s.heap.size) (MQ below (QcM M.2.2.2.1 D cA cQ ad s.heap.size z) (av.map (rv ad)).toArray s 0 0 (AA ad s.heap.size)) X (fun pc ls ty ht hn hd => ?_) (fun pc ls ht hd => ?_)
  · rw [lg_entry_eq]
    exact hfin _ s.heap [] (LR.entry hav hlen) hP hS0
  · intro ls' H locs hL hP hS
    refine W.zret hx hb (ty := ty) (by rw [hr, ht]) hn (fun t ht1 hW => ?_) hS.2.2 hd
    rw [ht]
    exact ⟨⟨z.1, (), rfl, rfl, (by show va_P D vwCl (wd ad cA cQ z.2) t.heap; rw [ht1]; exact hP)⟩, hS.F ht1⟩
  · intro ls' H locs hL hP hS
    refine W.vret hx hb (by rw [hr, ht]) (fun t ht1 hW => ?_) hS.2.2 hd
    rw [ht]
    exact ⟨⟨(), rfl, trivial, (by show va_P D vwCl (wd ad cA cQ z.2) t.heap; rw [ht1]; exact hP)⟩, hS.F ht1⟩
theorem cbr_c {α : Type} {b : Bool} {x y : Option α} {z : α} (h : cbr b x y = some z) : (b = true ∧ x = some z) ∨ (b = false ∧ y = some z) := by
  cases b with
  | true => exact Or.inl ⟨rfl, h⟩
  | false => exact Or.inr ⟨rfl, h⟩
def ckB : List (Option Value) → Bool
  | [] => true
  | a :: l => (match a with
    | some v => c1 v
    | none => true) && ckB l
theorem ck1_of : ∀ {ls : List (Option Value)}, ckB ls = true → ck1 ls
  | [], _, _, _, h => by simp [lk] at h
  | a :: l, hb, 0, v, h => by
    simp only [ckB, Bool.and_eq_true] at hb
    simp only [lk] at h
    rw [h] at hb
    exact hb.1
  | a :: l, hb, n + 1, v, h => by
    simp only [ckB, Bool.and_eq_true] at hb
    exact ck1_of hb.2 n v h
theorem c1_of : ∀ {av : List Value}, av.all c1 = true → ∀ v ∈ av, c1 v = true := fun h => List.all_eq_true.mp h
theorem cbr_n {α : Type} {b : Bool} {x : Option α} {z : α} (h : cbr b x none = some z) : b = true ∧ x = some z := by
  cases b with
  | true => exact ⟨rfl, h⟩
  | false => cases h
