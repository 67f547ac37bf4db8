/-! ===== unheard: what both ask; the class's table ===== -/
def UQ (a b : Mem) (f i : Nat) : Prop := f < 6 ∧ i < 16 ∧ LwR a b ∧ menW a b 2 3 f i ∧ (if b 124 (101 + (16 * f + i)) + b 123 41 ≤ 9 then b 124 (101 + (16 * f + i)) + b 123 41 else 9) = a 3 (96 * 2 + 16 * f + i)
def eqU (a' a : Mem) : Prop := ∀ c, c ≠ 13 → c ≠ 14 → c ≠ 94 → a' c = a c
def eqW (b' b : Mem) : Prop := ∀ c, c ≠ 143 → c ≠ 144 → c ≠ 145 → b' c = b c
theorem UQ_e {f i : Nat} {a a' b b' : Mem} (e1 : eqU a' a) (e2 : eqW b' b) (q : UQ a b f i) : UQ a' b' f i := by
  obtain ⟨q1, q2, q3, q4, q5⟩ := q
  have a2 := e1 2 (by decide) (by decide) (by decide)
  have a3 := e1 3 (by decide) (by decide) (by decide)
  have b124 := e2 124 (by decide) (by decide) (by decide)
  have b123 := e2 123 (by decide) (by decide) (by decide)
  have b128 := e2 128 (by decide) (by decide) (by decide)
  refine ⟨q1, q2, LwR_c (fun c c1 c2 => e1 c (by omega) (by omega) (by omega)) (fun c c1 c2 => e2 c (by omega) (by omega) (by omega)) q3, ⟨fun t t1 t2 => ?_, ?_, ?_⟩, ?_⟩
  · rw [b124, a3]; exact q4.1 t t1 t2
  · rw [b128, a3]; exact q4.2.1
  · rw [b124, a2]; exact q4.2.2
  · rw [b124, b123, a3]; exact q5
theorem uq_cr {a b : Mem} {f i : Nat} {w st : Int32} (q : UQ a b f i) : ∃ (v : Int32) (a' b' : Mem), (v = 0 ∨ v = 1) ∧ F_U_wouldCreak 2 (nI f) (nI i) w st a = some (v, a') ∧ F_R_doesCreak (nI (16 * f + i)) w st b = some (v, b') ∧ eqA a' a ∧ eqB b' b := by
  obtain ⟨f6, i16, q3, q4, q5⟩ := q
  obtain ⟨r, ga, gb, r1, -, -, e1, e2⟩ := ask_pairW (word := 0) (w := w) (st := st) (h0 := 2) (c := 3) (Or.inl rfl) rfl rfl rfl rfl (by decide) (by decide) f6 i16 q3 q4 q5
  have e2' : F_R_creaksOf (nI (16 * f + i)) w st b = some (nI r, rp (rp b 143 (FM b (16 * f + i) (a 3 (96 * 2 + 16 * f + i)) w st)) 144 gb) := by rw [R_creaksOf, e2]; rfl
  have x1 : (nI r < 500) ↔ r < 500 := nI_ltI (b := 500) (by omega) (by decide)
  have x2 : (2 * nI r < 1000) ↔ 2 * r < 1000 := by
    rw [show (2 : Int32) * nI r = nI (2 * r) from n_mul 2 r]
    exact nI_ltI (b := 1000) (by omega) (by decide)
  have o1 : eqA (rp (rp a 13 (FC a 2 3 f i w st)) 14 ga) a := fun c c1 c2 => by rw [rp_o c2, rp_o c1]
  have o2 : eqB (rp (rp b 143 (FM b (16 * f + i) (a 3 (96 * 2 + 16 * f + i)) w st)) 144 gb) b := fun c c1 c2 => by rw [rp_o c2, rp_o c1]
  by_cases c5 : r < 500
  · refine ⟨0, _, _, Or.inl rfl, ?_, ?_, o1, o2⟩
    · simp only [F_U_wouldCreak, e1, Option.bind_some, if_pos (x1.mpr c5)]
    · simp only [F_R_doesCreak, e2', Option.bind_some, if_pos (x2.mpr (by omega))]
  · refine ⟨1, _, _, Or.inr rfl, ?_, ?_, o1, o2⟩
    · simp only [F_U_wouldCreak, e1, Option.bind_some, if_neg (fun z => c5 (x1.mp z))]
    · simp only [F_R_doesCreak, e2', Option.bind_some, if_neg (fun z => c5 (by have := x2.mp z; omega))]
/-- the class knows who is missing, and what creaks -/
def UC (a0 : Mem) (f z : Nat) (w : Int32) (gn : Nat → Bool) (W : Nat → Nat → Nat) : Prop := ∀ a i, eqU a a0 → i < z → F_H_isMissing 2 (nI f) (nI i) a = some (if gn i = true then 1 else 0, a) ∧ ∀ k, ∃ (v : Int32) (a' : Mem), F_U_wouldCreak 2 (nI f) (nI i) w (nI k) a = some (v, a') ∧ eqA a' a ∧ ((v = 0 ∧ W i k = 1) ∨ (v = 1 ∧ W i k = 101))
def UM (b0 : Mem) (f z : Nat) (w : Int32) (gn : Nat → Bool) (W : Nat → Nat → Nat) : Prop := ∀ b i, eqW b b0 → i < z → F_R_isGone (nI (16 * f + i)) b = some (if gn i = true then 1 else 0, b) ∧ ∀ k, ∃ (v : Int32) (b' : Mem), F_R_doesCreak (nI (16 * f + i)) w (nI k) b = some (v, b') ∧ eqB b' b ∧ ((v = 0 ∧ W i k = 1) ∨ (v = 1 ∧ W i k = 101))
theorem u_ask {a0 b0 : Mem} {f z : Nat} {w : Int32} (h : ∀ i, i < z → UQ a0 b0 f i) : ∃ gn W, UC a0 f z w gn W ∧ UM b0 f z w gn W := by
  have rU : eqU a0 a0 := fun _ _ _ _ => rfl
  have rW : eqW b0 b0 := fun _ _ _ _ => rfl
  have hw : ∀ i k, ∃ x, i < z → ∀ a b, eqU a a0 → eqW b b0 → ∃ (v : Int32) (a' b' : Mem), F_U_wouldCreak 2 (nI f) (nI i) w (nI k) a = some (v, a') ∧ F_R_doesCreak (nI (16 * f + i)) w (nI k) b = some (v, b') ∧ eqA a' a ∧ eqB b' b ∧ ((v = 0 ∧ x = 1) ∨ (v = 1 ∧ x = 101)) := fun i k => by
    by_cases c : i < z
    · obtain ⟨v0, p0, r0, v1, v2, v3, -, -⟩ := uq_cr (w := w) (st := nI k) (h i c)
      refine ⟨if v0 = 0 then 1 else 101, fun _ a b ea eb => ?_⟩
      obtain ⟨v, a', b', y1, y2, y3, y4, y5⟩ := uq_cr (w := w) (st := nI k) (UQ_e ea eb (h i c))
      obtain ⟨v', a'', b'', x1, x2, x3, -, -⟩ := uq_cr (w := w) (st := nI k) (UQ_e ea rW (h i c))
      have e1 : v' = v0 := by
        rw [v3] at x3
        exact (congrArg Prod.fst (Option.some.inj x3)).symm
      have e2 : v = v' := by
        rw [y2] at x2
        exact congrArg Prod.fst (Option.some.inj x2)
      refine ⟨v, a', b', y2, y3, y4, y5, ?_⟩
      rw [e2, e1]
      rcases v1 with q | q
      · exact Or.inl ⟨q, if_pos q⟩
      · refine Or.inr ⟨q, if_neg ?_⟩
        rw [q]
        decide
    · exact ⟨0, fun hc => absurd hc c⟩
  refine ⟨fun i => decide (a0 3 (96 * 4 + 16 * f + i) = 2), fun i k => (hw i k).choose, fun a i ea hi => ?_, fun b i eb hi => ?_⟩
  · obtain ⟨f6, i16, -⟩ := h i hi
    refine ⟨?_, fun k => ?_⟩
    · have pg : F_H_get 2 4 (nI f) (nI i) a = some (a 3 (96 * 4 + 16 * f + i), a) := H_get (t := 4) rfl rfl rfl rfl (by decide) f6 i16
      rw [ea 3 (by decide) (by decide) (by decide)] at pg
      show F_H_isMissing 2 (nI f) (nI i) a = some (if decide (a0 3 (96 * 4 + 16 * f + i) = 2) = true then 1 else 0, a)
      by_cases c : a0 3 (96 * 4 + 16 * f + i) = 2
      · rw [decide_eq_true c, if_pos rfl]
        simp only [F_H_isMissing, show Nat.beq (kd 2) 4 = true from rfl, cond_true, pg, Option.bind_some, if_pos c]
      · rw [decide_eq_false c, if_neg (by decide)]
        simp only [F_H_isMissing, show Nat.beq (kd 2) 4 = true from rfl, cond_true, pg, Option.bind_some, if_neg c]
    · obtain ⟨v, a', b', y1, -, y3, -, y5⟩ := (hw i k).choose_spec hi a b0 ea rW
      exact ⟨v, a', y1, y3, y5⟩
  · obtain ⟨f6, i16, -, q4, -⟩ := h i hi
    refine ⟨?_, fun k => ?_⟩
    · have pm : ld b 124 (293 + nI (16 * f + i)) = some (a0 3 (96 * 4 + 16 * f + i)) := by
        rw [show (293 : Int32) + nI (16 * f + i) = nI (5 + 96 * 3 + (16 * f + i)) from nI_add 293 _]
        refine (ld_in rfl (show 5 + 96 * 3 + (16 * f + i) < 773 by omega) (by decide)).trans (congrArg some ?_)
        rw [eb 124 (by decide) (by decide) (by decide)]
        exact q4.1 3 (by decide) (by decide)
      show F_R_isGone (nI (16 * f + i)) b = some (if decide (a0 3 (96 * 4 + 16 * f + i) = 2) = true then 1 else 0, b)
      by_cases c : a0 3 (96 * 4 + 16 * f + i) = 2
      · rw [decide_eq_true c, if_pos rfl]
        simp only [F_R_isGone, pm, Option.bind_some, if_pos c]
      · rw [decide_eq_false c, if_neg (by decide)]
        simp only [F_R_isGone, pm, Option.bind_some, if_neg c]
    · obtain ⟨v, a', b', -, y2, -, y4, y5⟩ := (hw i k).choose_spec hi a0 b rU eb
      exact ⟨v, b', y2, y4, y5⟩
/-! the class -/
theorem n_sk (p k : Nat) : nI p - 1 + nI (k + 1) = nI (p + k) := by
  have e : nI p - 1 + nI (k + 1) = nI p + nI (k + 1) - 1 := by
    rw [Int32.sub_eq_add_neg, Int32.sub_eq_add_neg, Int32.add_assoc, Int32.add_comm (-1), ← Int32.add_assoc]
  rw [e, nI_add]
  exact nI_pred (p + k)
theorem eqU_A {a' a a0 : Mem} (h : eqA a' a) (k : eqU a a0) : eqU a' a0 := fun c c1 c2 c3 => (h c c1 c2).trans (k c c1 c2 c3)
theorem stCo {a0 a : Mem} {f z p k : Nat} {w : Int32} {gn : Nat → Bool} {W : Nat → Nat → Nat} {T : Nat → Nat} (hf : f < 6) (hz : z ≤ 16) (ez : a0 4 f = nI z) (hU : UC a0 f z w gn W) (ea : eqU a a0) (hp : p ≤ z) (hk : k < 5) (hT : ∀ p', p < p' → p' ≤ z → a 94 p' = nI (T p') ∧ T p' ≤ 1000000) : ∃ a', F_U_strideCost (nI f) (nI p) w (nI (k + 1)) a = some (nI (eC z gn W T p k), a') ∧ eqA a' a := by
  have es : F_H_size 2 (nI f) a = some (nI z, a) := by rw [H_size (c := 4) rfl rfl rfl rfl hf, ea 4 (by decide) (by decide) (by decide), ez]
  by_cases c : z < p + k + 1
  · refine ⟨a, ?_, eqA_rf a⟩
    simp only [F_U_strideCost, es, Option.bind_some, n_sk, if_neg (show ¬ nI (p + k) < nI z from nI_nlt (by omega) (by omega)), eC, if_pos c]
    rfl
  · have g : nI (p + k) < nI z := nI_lt (by omega) (by omega)
    have gi : 0 ≤ nI (p + k) ∧ nI (p + k) ≤ 17 - 2 := ⟨nI_pos' (by omega), nI_le (b := 15) (by omega) (by decide)⟩
    obtain ⟨u1, u2⟩ := hU a (p + k) ea (by omega)
    cases hg : gn (p + k) with
    | true =>
      rw [hg, if_pos rfl] at u1
      refine ⟨a, ?_, eqA_rf a⟩
      simp only [F_U_strideCost, es, Option.bind_some, n_sk, if_pos g, C_within, b01, gi, and_self, not_true_eq_false, if_false, u1, one0, eC, if_neg c, hg, if_true]
      rfl
    | false =>
      rw [hg, if_neg (by decide)] at u1
      obtain ⟨v, a', v1, v2, v3⟩ := u2 (k + 1)
      obtain ⟨t1, t2⟩ := hT (p + k + 1) (by omega) (by omega)
      have l1 : ld a' 94 (nI (p + k + 1)) = some (nI (T (p + k + 1))) := by
        refine (ld_in rfl (show p + k + 1 < 17 by omega) (by decide)).trans (congrArg some ?_)
        rw [v2 94 (by decide) (by decide)]
        exact t1
      refine ⟨a', ?_, v2⟩
      rcases v3 with ⟨q1, q2⟩ | ⟨q1, q2⟩
      · subst q1
        have e1 : (0 : Int32) + 1 + nI (T (p + k + 1)) = nI (1 + T (p + k + 1)) := nI_add 1 _
        have e2 := n_mn (x := 1000000) (y := 1 + T (p + k + 1)) (by decide) (by omega)
        have e2 : (if nI (1 + T (p + k + 1)) < 1000000 then nI (1 + T (p + k + 1)) else 1000000) = _ := e2
        simp only [F_U_strideCost, es, Option.bind_some, n_sk, if_pos g, C_within, b01, gi, and_self, not_true_eq_false, if_false, u1, if_true, v1, nI_1, l1, e1, C_min, e2, eC, if_neg c, hg, q2, Bool.false_eq_true, one0]
      · subst q1
        have e1 : (100 : Int32) + 1 + nI (T (p + k + 1)) = nI (101 + T (p + k + 1)) := nI_add 101 _
        have e2 := n_mn (x := 1000000) (y := 101 + T (p + k + 1)) (by decide) (by omega)
        have e2 : (if nI (101 + T (p + k + 1)) < 1000000 then nI (101 + T (p + k + 1)) else 1000000) = _ := e2
        simp only [F_U_strideCost, es, Option.bind_some, n_sk, if_pos g, C_within, b01, gi, and_self, not_true_eq_false, if_false, u1, if_true, v1, nI_1, l1, e1, C_min, e2, eC, if_neg c, hg, q2, Bool.false_eq_true, one0]
theorem eC_far {n : Nat} {gn : Nat → Bool} {W : Nat → Nat → Nat} {T : Nat → Nat} {p k : Nat} : eC n gn W T p k ≤ 1000000 := by
  unfold eC
  split
  · omega
  · split
    · exact Nat.le_refl _
    · exact mn_le _ _
theorem qu18 {a0 : Mem} {f z p s : Nat} {w : Int32} {gn : Nat → Bool} {W : Nat → Nat → Nat} {T : Nat → Nat} {k9 : Int32 → Int32 → Int32 → Int32 → Mem → Option (Int32 × Mem)} (hf : f < 6) (hz : z ≤ 16) (ez : a0 4 f = nI z) (hU : UC a0 f z w gn W) (hp : p ≤ z) (hs : s ≤ 5) : ∀ (q k m : Nat) (a : Mem), k + q = s → q < m → eqU a a0 → (∀ p', p < p' → p' ≤ z → a 94 p' = nI (T p') ∧ T p' ≤ 1000000) → a 94 p = nI (mns (eC z gn W T p) k) → ∃ a', F_U_quietest_18 k9 m (nI f) w (nI s) (nI p) (nI (k + 1)) a = k9 (nI f) w (nI s) (nI p + (-1)) a' ∧ eqU a' a0 ∧ a' 94 p = nI (mns (eC z gn W T p) s) ∧ ∀ p', p' ≠ p → a' 94 p' = a 94 p' := by
  intro q
  induction q with
  | zero =>
    intro k m a hk hm ea hT e
    obtain ⟨m, rfl⟩ : ∃ k, m = k + 1 := ⟨m - 1, by omega⟩
    have : k = s := by omega
    subst this
    refine ⟨a, ?_, ea, e, fun _ _ => rfl⟩
    simp only [F_U_quietest_18, if_pos (show nI k < nI (k + 1) from nI_lt (by omega) (by omega))]
  | succ q ih =>
    intro k m a hk hm ea hT e
    obtain ⟨m, rfl⟩ : ∃ k, m = k + 1 := ⟨m - 1, by omega⟩
    obtain ⟨a1, z1, z2⟩ := stCo (T := T) hf hz ez hU ea hp (show k < 5 by omega) hT
    have l1 : ld a 94 (nI p) = some (nI (mns (eC z gn W T p) k)) := (ld_in rfl (show p < 17 by omega) (by decide)).trans (congrArg some e)
    have w1 : ∀ v, sd a1 94 (nI p) v = some (mw a1 94 p v) := fun v => sd_in rfl (show p < 17 by omega) (by decide)
    have f1 := mns_far (eC z gn W T p) k
    have f2 := eC_far (n := z) (gn := gn) (W := W) (T := T) (p := p) (k := k)
    have a94 : a1 94 = a 94 := z2 94 (by decide) (by decide)
    obtain ⟨a', y1, y2, y3, y4⟩ := ih (k + 1) m (mw a1 94 p (nI (mns (eC z gn W T p) (k + 1)))) (by omega) (by omega) (fun c c1 c2 c3 => by rw [mw_o c3, z2 c c1 c2]; exact ea c c1 c2 c3) (fun p' h1 h2 => by rw [mw_n (by omega), a94]; exact hT p' h1 h2) mw_y
    refine ⟨a', ?_, y2, y3, fun p' hp' => by rw [y4 p' hp', mw_n hp', a94]⟩
    rw [← y1]
    simp only [F_U_quietest_18, if_neg (show ¬ nI s < nI (k + 1) from nI_nlt (by omega) (by omega)), l1, Option.bind_some, z1, C_min, n_mn (show mns (eC z gn W T p) k < 2 ^ 31 by omega) (show eC z gn W T p k < 2 ^ 31 by omega), w1, nI_1]
    rfl
theorem eC_c {n : Nat} {gn : Nat → Bool} {W : Nat → Nat → Nat} {T T' : Nat → Nat} {p k : Nat} (h : ∀ p', p < p' → T p' = T' p') : eC n gn W T p k = eC n gn W T' p k := by
  unfold eC
  rw [h (p + k + 1) (by omega)]
theorem qu9 {a0 : Mem} {f z s : Nat} {w : Int32} {gn : Nat → Bool} {W : Nat → Nat → Nat} (hf : f < 6) (hz : z ≤ 16) (ez : a0 4 f = nI z) (hU : UC a0 f z w gn W) (hs : s ≤ 5) : ∀ (p m : Nat) (a : Mem) (T : Nat → Nat), p ≤ z + 1 → p < m → eqU a a0 → (∀ p', p ≤ p' → p' ≤ z → a 94 p' = nI (T p') ∧ isC z s gn W T p') → ∃ (T' : Nat → Nat) (a' : Mem), F_U_quietest_9 m (nI f) w (nI s) (nI p + (-1)) a = some (if T' 0 = 1000000 then -1 else nI (T' 0), a') ∧ eqU a' a0 ∧ ∀ p', p' ≤ z → isC z s gn W T' p' := by
  intro p
  induction p with
  | zero =>
    intro m a T hp hm ea hT
    obtain ⟨m, rfl⟩ : ∃ k, m = k + 1 := ⟨m - 1, by omega⟩
    obtain ⟨t1, t2⟩ := hT 0 (Nat.le_refl 0) (Nat.zero_le z)
    have l1 : ld a 94 0 = some (nI (T 0)) := (ld_in (k := 0) rfl (by decide) (by decide)).trans (congrArg some t1)
    have tf : T 0 ≤ 1000000 := by rw [t2]; exact mns_far _ _
    refine ⟨T, a, ?_, ea, fun p' hp' => (hT p' (Nat.zero_le p') hp').2⟩
    by_cases c : T 0 = 1000000
    · simp only [F_U_quietest_9, show (nI 0 + (-1) < 0) = True from by decide, if_true, l1, Option.bind_some, c, if_neg (show ¬ nI 1000000 < 1000000 from by decide)]
    · simp only [F_U_quietest_9, show (nI 0 + (-1) < 0) = True from by decide, if_true, l1, Option.bind_some, if_pos (show nI (T 0) < 1000000 from nI_lt (b := 1000000) (by omega) (by decide)), if_neg c]
  | succ p ih =>
    intro m a T hp hm ea hT
    obtain ⟨m, rfl⟩ : ∃ k, m = k + 1 := ⟨m - 1, by omega⟩
    have e1 : nI (p + 1) + (-1) = nI p := by rw [m1_add]; exact nI_pred p
    have w1 : ∀ v, sd a 94 (nI p) v = some (mw a 94 p v) := fun v => sd_in rfl (show p < 17 by omega) (by decide)
    obtain ⟨a1, z1, z2, z3, z4⟩ := qu18 (T := T) (k9 := F_U_quietest_9 m) (p := p) hf hz ez hU (by omega) hs s 0 gF (mw a 94 p 1000000) (Nat.zero_add s) (by rw [gF_eq]; omega) (fun c c1 c2 c3 => by rw [mw_o c3]; exact ea c c1 c2 c3) (fun p' h1 h2 => by
      obtain ⟨t1, t2⟩ := hT p' (by omega) h2
      refine ⟨by rw [mw_n (by omega)]; exact t1, ?_⟩
      rw [t2]
      exact mns_far _ _) mw_y
    have z1 : F_U_quietest_18 (F_U_quietest_9 m) gF (nI f) w (nI s) (nI p) 1 (mw a 94 p 1000000) = _ := z1
    obtain ⟨T1, hT1⟩ : ∃ T1 : Nat → Nat, T1 = fun p' => if p' = p then mns (eC z gn W T p) s else T p' := ⟨_, rfl⟩
    have t1 : ∀ p', p < p' → T p' = T1 p' := fun p' h => by
      rw [hT1]
      exact (if_neg (by omega)).symm
    obtain ⟨T', a', y1, y2, y3⟩ := ih m a1 T1 (by omega) (by omega) z2 (fun p' h1 h2 => by
      by_cases c : p' = p
      · subst c
        have e2 : T1 p' = mns (eC z gn W T p') s := by rw [hT1]; exact if_pos rfl
        refine ⟨by rw [z3, e2], ?_⟩
        unfold isC
        rw [e2]
        exact mns_c s (fun j hj => eC_c t1)
      · obtain ⟨t2, t3⟩ := hT p' (by omega) h2
        have e2 : T1 p' = T p' := by rw [hT1]; exact if_neg c
        refine ⟨by rw [z4 p' c, mw_n c, e2]; exact t2, ?_⟩
        unfold isC
        rw [e2, t3]
        exact mns_c s (fun j hj => eC_c (fun p'' h => t1 p'' (by omega))))
    refine ⟨T', a', ?_, y2, y3⟩
    rw [← y1, ← z1]
    simp only [F_U_quietest_9, e1, if_neg (show ¬ nI p < 0 from nI_pos (show p < 2 ^ 31 by omega)), w1, Option.bind_some]
