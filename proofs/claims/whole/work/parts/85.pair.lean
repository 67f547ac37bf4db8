/-! ===== two memories: a the class's, b the reference's ===== -/
def KR2 (a b : Mem) : Prop := b 123 70 = a 0 2 ∧ (a 0 2 = 0 ∨ (a 0 2 = 1 ∧ RR (kv a) (iv b)))
def rowU2 (a b : Mem) (r j : Nat) : Prop := rgH a r 2 = a 2 2 ∧ (∀ f, f < 6 → rgS a r f = a 4 f) ∧ (∀ k, k < 96 → rgM a r k = a 3 k) ∧ HM (uc a r) (um b j) ∧ ∃ n, n ≤ 150 ∧ a 74 r = nI n ∧ b 125 (773 * j + 2) = nI n
def UR2 (a b : Mem) : Prop := ∃ u x, u ≤ 6 ∧ x < 6 ∧ a 0 6 = nI u ∧ b 123 3 = nI u ∧ a 0 5 = nI x ∧ ∀ j, j < u → rowU2 a b ((x + 6 - u + j) % 6) j
def MR2 (a b : Mem) : Prop := (∃ n, n ≤ 400 ∧ a 0 8 = nI n ∧ b 123 11 = nI n ∧ ∀ k, k < n → b 130 k = a 75 k ∧ inN 0 255 (a 75 k)) ∧ b 123 31 = a 0 10 ∧ b 123 32 = a 0 11 ∧ b 123 5 = 0 ∧ b 123 41 = 0 ∧ ∀ k, k < 170 → b 131 k = wrdT.getD k 0
def J2 (a b : Mem) : Prop := RR a b ∧ KR2 a b ∧ UR2 a b ∧ MR2 a b
def cl (a : Mem) : Mem := fun c => if c < 123 then a c else fun _ => 0
def md (b : Mem) : Mem := fun c => if c < 123 then fun _ => 0 else b c
theorem J2_cm {a b a' b' : Mem} (h1 : cl a' = cl a) (h2 : md b' = md b) (h : J2 a b) : J2 a' b' := by
  have h0 : J2 (cl a) (md b) := h
  rw [← h1, ← h2] at h0
  exact h0
def I2 (a b : Mem) : Prop := J2 (prj a) (prj b)
theorem I2_I {s : Mem} : I2 s s ↔ Inv s := Iff.rfl
theorem cl_prj {a a' : Mem} (h : ∀ c, c < 123 → a' c = a c) : cl (prj a') = cl (prj a) := by
  funext c
  unfold cl
  by_cases hc : c < 123
  · rw [if_pos hc, if_pos hc]
    funext k
    unfold prj
    rw [h c hc]
  · rw [if_neg hc, if_neg hc]
theorem md_prj {b b' : Mem} (h : ∀ c, ¬ c < 123 → b' c = b c) : md (prj b') = md (prj b) := by
  funext c
  unfold md
  by_cases hc : c < 123
  · rw [if_pos hc, if_pos hc]
  · rw [if_neg hc, if_neg hc]
    funext k
    unfold prj
    rw [h c hc]
theorem I2_cm {a b a' b' : Mem} (h1 : ∀ c, c < 123 → a' c = a c) (h2 : ∀ c, ¬ c < 123 → b' c = b c) (h : I2 a b) : I2 a' b' := J2_cm (cl_prj h1) (md_prj h2) h
/-- both go on alike -/
def Pair (P Q : Mem → Mem → Prop) (f g : Mem → Option (Int32 × Mem)) : Prop := ∀ a b, P a b → ∃ (v : Int32) (a' b' : Mem), f a = some (v, a') ∧ g b = some (v, b') ∧ Q a' b' ∧ (∀ c, ¬ c < 123 → a' c = a c) ∧ ∀ c, c < 123 → b' c = b c
theorem good_of {f g : Mem → Option (Int32 × Mem)} (h : Pair I2 I2 f g) : Good Inv f g := by
  intro s hs
  obtain ⟨v, a', -, h1, -, -, h2, -⟩ := h s s hs
  have hI : I2 s a' := I2_cm (fun _ _ => rfl) h2 hs
  obtain ⟨v', a'', b'', k1, k2, k3, k4, k5⟩ := h s a' hI
  rw [h1] at k1
  have e := Option.some.inj k1
  have e1 : v = v' := congrArg Prod.fst e
  have e2 : a' = a'' := congrArg Prod.snd e
  subst e1
  subst e2
  refine ⟨v, a', b'', h1, k2, ?_⟩
  exact (I2_I (s := b'')).mp (I2_cm k5 (fun _ _ => rfl) k3)
/-- what both leave as it was is no part of the pair -/
theorem pair_bind {P Q R : Mem → Mem → Prop} {f g : Mem → Option (Int32 × Mem)} {f2 g2 : Int32 → Mem → Option (Int32 × Mem)} (h1 : Pair P Q f g) (h2 : ∀ v, Pair Q R (f2 v) (g2 v)) : Pair P R (fun a => (f a).bind fun z => f2 z.1 z.2) (fun b => (g b).bind fun z => g2 z.1 z.2) := by
  intro a b hP
  obtain ⟨v, a1, b1, e1, e2, hQ, f1, f2'⟩ := h1 a b hP
  obtain ⟨w, a2, b2, e3, e4, hR, f3, f4⟩ := h2 v a1 b1 hQ
  refine ⟨w, a2, b2, ?_, ?_, hR, fun c hc => (f3 c hc).trans (f1 c hc), fun c hc => (f4 c hc).trans (f2' c hc)⟩
  · show (f a).bind _ = _
    rw [e1]
    exact e3
  · show (g b).bind _ = _
    rw [e2]
    exact e4
/-! keeping what was -/
theorem cpy_all {s : Mem} {c d n : Nat} (h1 : kd c = 1) (h2 : kd d = 1) (h3 : ln c = n) (h4 : ln d = n) (hn : n < 2 ^ 31) : ∃ g : Nat → Int32, (∀ k, k < n → g k = s c k) ∧ cpy s c 0 d 0 (nI n) = some (rp s d g) := by
  refine ⟨va_cpy (s c) (s d) 0 0 n, fun k hk => ?_, ?_⟩
  · simp [va_cpy, hk]
  · unfold cpy
    rw [if_pos ⟨h1, h2, by decide, by decide, nI_pos hn, by rw [nI_clamp hn, h3]; simp, by rw [nI_clamp hn, h4]; simp⟩, nI_clamp hn]
    rfl
