/-! ===== text: orders ===== -/
theorem blt_f {a b : Nat} (h : b ≤ a) : Nat.blt a b = false := by
  cases e : Nat.blt a b with
  | false => rfl
  | true =>
    have := Nat.le_of_ble_eq_true e
    omega
/-- what the class has left alone, what the reference has left alone -/
def frA (a a' : Mem) : Prop := (∀ c k, rel c k = true → a' c k = a c k) ∧ ∀ c, ¬ c < 123 → a' c = a c
def frB (b b' : Mem) : Prop := (∀ c k, rel c k = true → b' c k = b c k) ∧ ∀ c, c < 123 → b' c = b c
theorem frA_0 (a : Mem) : frA a a := ⟨fun _ _ _ => rfl, fun _ _ => rfl⟩
theorem frB_0 (a : Mem) : frB a a := ⟨fun _ _ _ => rfl, fun _ _ => rfl⟩
theorem frA_t {a b c : Mem} (h : frA a b) (k : frA b c) : frA a c := ⟨fun x y hx => (k.1 x y hx).trans (h.1 x y hx), fun x hx => (k.2 x hx).trans (h.2 x hx)⟩
theorem frB_t {a b c : Mem} (h : frB a b) (k : frB b c) : frB a c := ⟨fun x y hx => (k.1 x y hx).trans (h.1 x y hx), fun x hx => (k.2 x hx).trans (h.2 x hx)⟩
theorem rl_mw {a : Mem} {c k : Nat} {v : Int32} (h : rel c k = false) : ∀ x y, rel x y = true → mw a c k v x y = a x y := fun x y hx => by
  by_cases h1 : x = c
  · subst h1
    by_cases h2 : y = k
    · subst h2
      rw [h] at hx
      exact absurd hx (by decide)
    · rw [mw_k h2]
  · rw [mw_o h1]
theorem frA_mw {a : Mem} {c k : Nat} {v : Int32} (h : rel c k = false) (hc : c < 123) : frA a (mw a c k v) := ⟨rl_mw h, fun x hx => mw_o (by omega)⟩
theorem frB_mw {a : Mem} {c k : Nat} {v : Int32} (h : rel c k = false) (hc : ¬ c < 123) : frB a (mw a c k v) := ⟨rl_mw h, fun x hx => mw_o (by omega)⟩
theorem frB_T {b b' : Mem} (h : frT b b') : frB b b' := ⟨fun c k hr => by
  by_cases h1 : c = 123
  · subst h1
    exact h.2 k (fun e => by subst e; exact Bool.noConfusion (show false = true from hr)) (fun e => by subst e; exact Bool.noConfusion (show false = true from hr)) (fun e => by subst e; exact Bool.noConfusion (show false = true from hr)) (fun e => by subst e; exact Bool.noConfusion (show false = true from hr))
  · rw [h.1 c h1], fun c hc => h.1 c (by omega)⟩
/-- both have failed alike -/
def flY (a b a' b' : Mem) : Prop := frA a a' ∧ frB b b' ∧ a' 76 6 = b' 123 29 ∧ a' 76 7 = b' 123 30
theorem flY_X {a b a' b' : Mem} (h : flX a b a' b') : flY a b a' b' := by
  obtain ⟨h1, h2, h3, h4, h5⟩ := h
  refine ⟨⟨fun c k hr => ?_, fun c hc => h1 c (by omega)⟩, ⟨fun c k hr => ?_, fun c hc => h2 c (by omega)⟩, h4, h5⟩
  · by_cases q : c = 76
    · subst q
      exact Bool.noConfusion (show false = true from hr)
    · rw [h1 c q]
  · by_cases q : c = 123
    · subst q
      exact h3 k ⟨fun e => by subst e; exact Bool.noConfusion (show false = true from hr), fun e => by subst e; exact Bool.noConfusion (show false = true from hr), fun e => by subst e; exact Bool.noConfusion (show false = true from hr), fun e => by subst e; exact Bool.noConfusion (show false = true from hr), fun e => by subst e; exact Bool.noConfusion (show false = true from hr), fun e => by subst e; exact Bool.noConfusion (show false = true from hr)⟩
    · rw [h2 c q]
theorem flY_t {a b a1 b1 a' b' : Mem} (ha : frA a a1) (hb : frB b b1) (h : flY a1 b1 a' b') : flY a b a' b' := ⟨frA_t ha h.1, frB_t hb h.2.1, h.2.2⟩
theorem flY_b {a b a' b' b2 : Mem} (h : flY a b a' b') (hb : frB b' b2) (e : b2 123 = b' 123) : flY a b a' b2 := ⟨h.1, frB_t h.2.1 hb, by rw [e]; exact h.2.2.1, by rw [e]; exact h.2.2.2⟩
theorem flY_1 {a b : Mem} {L : List (Nat × Nat × Nat × Nat)} {j : Nat} {k : Int32} : flY a b (flM a L j k) (erM b L j k) := flY_X (flX_1 (a1 := a) (b1 := b) (fun _ _ => rfl) (frT_0 b))
theorem PSt_o {b b' : Mem} {t : Nat → Nat} {n j : Nat} {L : List (Nat × Nat × Nat × Nat)} (h : PSt b t n L j) (e0 : ∀ k, b' 130 k = b 130 k) (e1 : ∀ k, b' 131 k = b 131 k) (e : ∀ k, 11 ≤ k → k ≤ 15 → b' 123 k = b 123 k) : PSt b' t n L j := by
  obtain ⟨h1, ⟨t1, t2, t3, t4⟩, ⟨r1, r2, r3⟩, h4, h5⟩ := h
  refine ⟨h1, ⟨t1, (e 11 (by omega) (by omega)).trans t2, fun k hk => by rw [e0]; exact t3 k hk, fun k hk => (e1 k).trans (t4 k hk)⟩, ⟨(e 12 (by omega) (by omega)).trans r1, (e 13 (by omega) (by omega)).trans r2, by rw [e 14 (by omega) (by omega), e 15 (by omega) (by omega)]; exact r3⟩, h4, h5⟩
theorem PSt_mw {b : Mem} {t : Nat → Nat} {n j c k : Nat} {v : Int32} {L : List (Nat × Nat × Nat × Nat)} (h : PSt b t n L j) (h0 : c ≠ 130) (h1 : c ≠ 131) (h2 : c ≠ 123) : PSt (mw b c k v) t n L j := PSt_o h (fun x => by rw [mw_o (Ne.symm h0)]) (fun x => by rw [mw_o (Ne.symm h1)]) (fun x _ _ => by rw [mw_o (Ne.symm h2)])
/-- flights and sizes -/
def HZ (a b : Mem) (g : Nat) (z : Nat → Nat) : Prop := g ≤ 6 ∧ a 2 2 = nI g ∧ b 123 6 = nI g ∧ ∀ f, f < g → 1 ≤ z f ∧ z f ≤ 16 ∧ a 4 f = nI (z f) ∧ b 127 f = nI (z f)
theorem HZ_fr {a b a' b' : Mem} {g : Nat} {z : Nat → Nat} (h : HZ a b g z) (ha : frA a a') (hb : frB b b') : HZ a' b' g z := ⟨h.1, (ha.1 2 2 rfl).trans h.2.1, (hb.1 123 6 rfl).trans h.2.2.1, fun f hf => by
  obtain ⟨k1, k2, k3, k4⟩ := h.2.2.2 f hf
  exact ⟨k1, k2, (ha.1 4 f rfl).trans k3, (hb.1 127 f rfl).trans k4⟩⟩
theorem frA_bd {a : Mem} {j m c v : Nat} : frA a (bdM a j m c v) := by
  unfold bdM nmM avM
  exact frA_t (frA_t (frA_t (frA_mw rfl (by decide)) (frA_mw rfl (by decide))) (frA_mw rfl (by decide))) (frA_mw rfl (by decide))
theorem jS {a b : Mem} {t : Nat → Nat} {n j m c g f : Nat} {z : Nat → Nat} {L : List (Nat × Nat × Nat × Nat)} (hA : ATt a L j) (hP : PSt b t n L j) (h88 : a 88 1 = nI m) (hm : m < 16) (hc : c < 5) (hH : HZ a b g z) (hf : f < g) (h5 : a 76 5 = nI f) : (∃ (v : Nat) (b' : Mem), v < z f ∧ F_P_readStep (nI c) a = some (1, bdM a j m c v) ∧ F_R_readStep (nI f) b = some (nI (16 * f + v), b') ∧ frT b b' ∧ PSt b' t n L (j + 2) ∧ ATt (bdM a j m c v) L (j + 2)) ∨ ∃ a' b', F_P_readStep (nI c) a = some (0, a') ∧ F_R_readStep (nI f) b = some (-1, b') ∧ flX a b a' b' := by
  obtain ⟨z1, z2, z3, z4⟩ := hH.2.2.2 f hf
  have f6 : f < 6 := by have := hH.1; omega
  have es : F_H_size 2 (nI f) a = some (nI (z f), a) := by rw [H_size (h0 := 2) (c := 4) rfl rfl rfl rfl f6, z3]
  have el : ld b 127 (nI f) = some (nI (z f)) := (ld_in rfl (show f < 6 from f6) (by decide)).trans (congrArg some z4)
  rcases jB (w := 20) (c := c) (lo := 0) (hi := nI (z f) - 1) hA hP (by decide) h88 hm hc with ⟨v, b', v1, v2, v3, k1, k2, k3, k4, k5⟩ | ⟨a', b', k1, k2, k3⟩
  · obtain ⟨w, w1, w2⟩ := (rngF (n := z f) (by omega)).mp ⟨v2, v3⟩
    have ev : v = w := (nI_eq (by omega) (by omega)).mp w2
    have k1 : F_P_readBounded 20 (nI c) 0 (nI (z f) - 1) a = some (1, bdM a j m c v) := k1
    have k2 : F_R_readTold 20 0 (nI (z f) - 1) b = some (nI v, b') := k2
    refine Or.inl ⟨v, b', by omega, ?_, ?_, k3, k4, k5⟩
    · simp only [F_P_readStep, h5, es, Option.bind_some, k1, b1a, if_true]
    · simp only [F_R_readStep, el, Option.bind_some, k2, if_neg (nI_m1 (show v < 2 ^ 31 by omega))]
      rw [show (16 : Int32) = nI 16 from rfl, n_mul, nI_add]
  · have k1 : F_P_readBounded 20 (nI c) 0 (nI (z f) - 1) a = some (0, a') := k1
    have k2 : F_R_readTold 20 0 (nI (z f) - 1) b = some (-1, b') := k2
    refine Or.inr ⟨a', b', ?_, ?_, k3⟩
    · simp only [F_P_readStep, h5, es, Option.bind_some, k1, b0a, if_true]
    · simp only [F_R_readStep, el, Option.bind_some, k2, if_true]
/-! a line and the mark behind it -/
noncomputable def lnX (F : Mem → Option (Int32 × Mem)) (a : Mem) : Option (Int32 × Mem) := (F a).bind fun z => if z.1 = 0 then some (0, z.2) else F_P_take 59 z.2
theorem ln_b (F : Mem → Option (Int32 × Mem)) (a : Mem) (K : Mem → Option (Int32 × Mem)) : ((F a).bind fun z => if z.1 = 0 then some (0, z.2) else (F_P_take 59 z.2).bind fun y => if y.1 = 0 then some (0, y.2) else K y.2) = (lnX F a).bind fun y => if y.1 = 0 then some (0, y.2) else K y.2 := by
  unfold lnX
  cases F a with
  | none => rfl
  | some z =>
    simp only [Option.bind_some]
    by_cases c : z.1 = 0
    · rw [if_pos c, if_pos c]
      rfl
    · rw [if_neg c, if_neg c]
theorem mkE {a b : Mem} {t : Nat → Nat} {n j : Nat} {L : List (Nat × Nat × Nat × Nat)} (hA : ATt a L j) (hP : PSt b t n L j) : (∃ b', F_P_take 59 a = some (1, avM a j) ∧ F_R_readMark 59 b = some (0, b') ∧ frT b b' ∧ PSt b' t n L (j + 1) ∧ ATt (avM a j) L (j + 1)) ∨ (F_P_take 59 a = some (0, flM a L j 1) ∧ F_R_readMark 59 b = some (-1, erM b L j 1)) := by
  have k66 := tk_ne hP
  have tk : F_P_take 59 a = some (if nI (tkN L j).1 = nI 59 then (1, avM a j) else (0, flM a L j 1)) := takeE hA (nI 59)
  have iw : F_R_isSign 59 b = some (if (tkN L j).1 = 59 then 1 else 0, b) := isSE (w := 59) hP (by decide)
  by_cases c : (tkN L j).1 = 59
  · obtain ⟨b', r1, r2, r3⟩ := nextR hP (by omega)
    refine Or.inl ⟨b', ?_, ?_, r2, r3, ATt_av hA r3.1⟩
    · rw [tk, if_pos (by rw [c])]
    · rw [F_R_readMark, iw]
      simp only [if_pos c, Option.bind_some, one0, if_false, r1]
  · refine Or.inr ⟨?_, ?_⟩
    · rw [tk, if_neg (fun q => c ((nI_eq (by omega) (by decide)).mp q))]
    · rw [F_R_readMark, iw]
      simp only [if_neg c, Option.bind_some, if_true, errE hP 1]
/-! which order -/
def orv (x0 : Int32) : Int32 := if x0 = 11 then 3 else if x0 = 12 then -1 else if x0 = 13 then -1 else if x0 = 14 then -1 else if x0 = 15 then -1 else if x0 = 16 then -1 else if x0 = 17 then -1 else if x0 = 18 then -1 else if x0 = 19 then -1 else if x0 = 20 then -1 else if x0 = 21 then 0 else if x0 = 22 then 1 else if x0 = 23 then 2 else if x0 = 24 then 4 else if x0 = 25 then 5 else if x0 = 26 then 6 else -1
theorem ite_sm {c : Prop} {d : Decidable c} {u w : Int32} {s : Mem} : (if c then some (u, s) else some (w, s)) = some (if c then u else w, s) := by split <;> rfl
theorem orE (x : Int32) (s : Mem) : F_P_orderOf x s = some (orv x, s) := by simp only [F_P_orderOf, orv, ite_sm]
def orr (K : Nat) : Int32 := if K = 11 then 3 else if K < 30 then (if 21 ≤ nI K ∧ nI K ≤ 23 then nI K - 21 else if 24 ≤ nI K ∧ nI K ≤ 26 then 4 + nI K - 24 else -1) else -1
theorem or_e : ∀ K, K < 67 → orv (nI K) = orr K ∧ (orr K = -1 ∨ (orr K ≠ -1 ∧ K < 30 ∧ (orr K = nI 0 ∨ orr K = nI 1 ∨ orr K = nI 2 ∨ orr K = nI 3 ∨ orr K = nI 4 ∨ orr K = nI 5 ∨ orr K = nI 6))) := by decide +kernel
theorem koE {b : Mem} {t : Nat → Nat} {n j : Nat} {L : List (Nat × Nat × Nat × Nat)} (h : PSt b t n L j) : F_R_kindOfOrder b = some (orr (tkN L j).1, b) := by
  have iw : F_R_isWord 11 b = some (if (tkN L j).1 = 11 then 1 else 0, b) := isWE (w := 11) h (by decide)
  have hn := (isNE h).2.2
  unfold orr
  rw [F_R_kindOfOrder, iw]
  by_cases c : (tkN L j).1 = 11
  · simp only [if_pos c, Option.bind_some, one0, if_false]
  · simp only [if_neg c, Option.bind_some, if_true]
    by_cases c2 : (tkN L j).1 < 30
    · have e15 := (h.2.2.1.2.2.2.2.2.1 c2).2
      rw [if_pos (hn.mpr c2), if_pos c2, e15, R_isIn]
      by_cases c3 : 21 ≤ nI (tkN L j).1 ∧ nI (tkN L j).1 ≤ 23
      · simp only [if_pos c3, Option.bind_some, one0, if_false, e15]
      · simp only [if_neg c3, Option.bind_some, if_true, e15, R_isIn]
        by_cases c4 : 24 ≤ nI (tkN L j).1 ∧ nI (tkN L j).1 ≤ 26
        · simp only [if_pos c4, one0, if_false]
        · simp only [if_neg c4, if_true]
    · rw [if_neg (fun q => c2 (hn.mp q)), if_neg c2]
