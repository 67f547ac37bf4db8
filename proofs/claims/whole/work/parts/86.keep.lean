/-! ===== keeping what was: the ring of deeds ===== -/
def mk (lo hi : Nat) (a : Mem) : Mem := fun c => if lo ≤ c ∧ c ≤ hi then a c else fun _ => 0
theorem mk_c {lo hi : Nat} {a a' : Mem} (h : ∀ c, lo ≤ c → c ≤ hi → a' c = a c) : mk lo hi a' = mk lo hi a := by
  funext c
  unfold mk
  by_cases hc : lo ≤ c ∧ c ≤ hi
  · rw [if_pos hc, if_pos hc, h c hc.1 hc.2]
  · rw [if_neg hc, if_neg hc]
theorem RR_c {a a' b b' : Mem} (h1 : ∀ c, 2 ≤ c → c ≤ 36 → a' c = a c) (h2 : ∀ c, c = 123 ∨ c = 124 ∨ (126 ≤ c ∧ c ≤ 162) → b' c = b c) (h : RR a b) : RR a' b' := by
  have h0 : RR (mk 2 36 a) (fun c => if c = 123 ∨ c = 124 ∨ (126 ≤ c ∧ c ≤ 162) then b c else fun _ => 0) := h
  have e : (fun c => if c = 123 ∨ c = 124 ∨ (126 ≤ c ∧ c ≤ 162) then b' c else fun _ => 0) = (fun c => if c = 123 ∨ c = 124 ∨ (126 ≤ c ∧ c ≤ 162) then b c else fun _ => (0 : Int32)) := by
    funext c
    by_cases hc : c = 123 ∨ c = 124 ∨ (126 ≤ c ∧ c ≤ 162)
    · rw [if_pos hc, if_pos hc, h2 c hc]
    · rw [if_neg hc, if_neg hc]
  rw [← mk_c h1, ← e] at h0
  exact h0
theorem KR2_c {a a' b b' : Mem} (h0 : a' 0 2 = a 0 2) (h1 : ∀ c, 38 ≤ c → c ≤ 72 → a' c = a c) (h2 : b' 123 70 = b 123 70) (h3 : b' 163 = b 163) (h : KR2 a b) : KR2 a' b' := by
  obtain ⟨k1, k2⟩ := h
  refine ⟨by rw [h2, h0]; exact k1, ?_⟩
  rw [h0]
  rcases k2 with k2 | ⟨k2, k3⟩
  · exact Or.inl k2
  · refine Or.inr ⟨k2, RR_c (fun c c1 c2 => ?_) (fun c _ => ?_) k3⟩
    · show a' (c + 36) = a (c + 36)
      exact h1 _ (by omega) (by omega)
    · show (fun k => b' 163 (ivo c k)) = fun k => b 163 (ivo c k)
      rw [h3]
theorem isS_c {a a' : Mem} (h2 : a' 2 2 = a 2 2) (h4 : ∀ f, f < 6 → a' 4 f = a 4 f) {f i : Nat} (hf : f < 6) : isS a' f i ↔ isS a f i := by
  unfold isS nF sz
  rw [h2, h4 f hf]
theorem HM_c {a a' b b' : Mem} (h3 : ∀ k, 96 ≤ k → k < 864 → a' 3 k = a 3 k) (h2 : ∀ k, 2 ≤ k → k < 7 → a' 2 k = a 2 k) (h4 : ∀ f, f < 6 → a' 4 f = a 4 f) (hb : ∀ k, k < 773 → b' 124 k = b 124 k) (h : HM a b) : HM a' b' := by
  obtain ⟨m1, m2, m3, m4, m5, m6, m7⟩ := h
  refine ⟨fun k hk => ?_, fun t j ht hj hn => ?_, fun j hj => ?_, ?_, ?_, ?_, ?_⟩
  · rw [hb _ (by omega), h3 _ (by omega) (by omega)]; exact m1 k hk
  · rw [h3 _ (by omega) (by omega)]
    exact m2 t j ht hj (fun q => hn ((isS_c (h2 2 (by decide) (by decide)) h4 (by omega)).mpr q))
  · rw [h3 _ (by omega) (by omega), h3 _ (by omega) (by omega)]; exact m3 j hj
  · rw [hb 4 (by decide), h2 3 (by decide) (by decide)]; exact m4
  · rw [hb 3 (by decide), h2 4 (by decide) (by decide)]; exact m5
  · rw [hb 0 (by decide), h2 5 (by decide) (by decide)]; exact m6
  · rw [hb 1 (by decide), h2 6 (by decide) (by decide)]; exact m7
theorem rg_eq {a : Mem} {r : Nat} (h : r < 6) : rgH a r = a (105 + 3 * r) ∧ rgM a r = a (106 + 3 * r) ∧ rgS a r = a (107 + 3 * r) := by
  rcases (show r = 0 ∨ r = 1 ∨ r = 2 ∨ r = 3 ∨ r = 4 ∨ r = 5 by omega) with rfl | rfl | rfl | rfl | rfl | rfl <;> exact ⟨rfl, rfl, rfl⟩
theorem uc2 (a : Mem) (r k : Nat) : uc a r 2 k = rgH a r k := rfl
theorem uc3 (a : Mem) (r k : Nat) : uc a r 3 k = rgM a r k := rfl
theorem uc4 (a : Mem) (r k : Nat) : uc a r 4 k = rgS a r k := rfl
theorem um124 (b : Mem) (j k : Nat) : um b j 124 k = b 125 (773 * j + k) := rfl
theorem sh6 : ∀ x, x < 6 → kd 73 = 2 ∧ ln 73 = 6 ∧ rf 73 x = 105 + 3 * x ∧ kd (105 + 3 * x) = 4 ∧ rf (105 + 3 * x) 0 = 106 + 3 * x ∧ rf (105 + 3 * x) 1 = 107 + 3 * x ∧ kd (106 + 3 * x) = 1 ∧ kd (107 + 3 * x) = 1 ∧ ln (106 + 3 * x) = 864 ∧ ln (107 + 3 * x) = 6 := by decide +kernel
theorem C_flm {x : Nat} (hx : x < 2 ^ 30) (s : Mem) : F_JM_floorMod (nI x) 6 s = some (nI (x % 6), s) := by
  have e1 : irm (nI x) 6 = nI (x % 6) := n_irmL (by omega) (by decide) (by decide) rfl
  have e2 : 0 ≤ nI x ^^^ 6 := by
    rw [show (6 : Int32) = nI 6 from rfl, fb_xorI]
    have : x ^^^ 6 < 2 ^ 30 := Nat.xor_lt_two_pow hx (by decide)
    exact nI_pos' (by omega)
  simp only [F_JM_floorMod, show ((6 : Int32) = 0) = False from by decide, if_false, if_pos e2, e1]
/-- a house is copied -/
theorem H_copy {s : Mem} {h0 h1 c0 c1 d0 d1 : Nat} (k0 : kd h0 = 4) (k1 : kd h1 = 4) (r0 : rf h0 0 = c0) (r1 : rf h1 0 = c1) (q0 : rf h0 1 = d0) (q1 : rf h1 1 = d1) (a0 : kd c0 = 1) (a1 : kd c1 = 1) (b0 : kd d0 = 1) (b1 : kd d1 = 1) (l0 : ln c0 = 864) (l1 : ln c1 = 864) (m0 : ln d0 = 6) (m1 : ln d1 = 6) (n1 : c0 ≠ d1) (n2 : c0 ≠ h1) (n3 : d0 ≠ h1) (n4 : h0 ≠ h1) (n5 : d0 ≠ c0) (n6 : h0 ≠ c0) (n7 : h0 ≠ d0) : ∃ s', F_H_copyFrom h0 h1 s = some (0, s') ∧ (∀ c, c ≠ h0 → c ≠ c0 → c ≠ d0 → s' c = s c) ∧ (∀ k, k < 864 → s' c0 k = s c1 k) ∧ (∀ k, k < 6 → s' d0 k = s d1 k) ∧ (∀ k, 2 ≤ k → k < 7 → s' h0 k = s h1 k) := by
  obtain ⟨g1, e1, e2⟩ := cpy_all (s := s) (c := c1) (d := c0) (n := 864) a1 a0 l1 l0 (by decide)
  obtain ⟨g2, e3, e4⟩ := cpy_all (s := rp s c0 g1) (c := d1) (d := d0) (n := 6) b1 b0 m1 m0 (by decide)
  have hb : ∀ k, (rp (rp s c0 g1) d0 g2) h1 k = s h1 k := fun k => by rw [rp_o n3.symm, rp_o n2.symm]
  refine ⟨mw (mw (mw (mw (mw (rp (rp s c0 g1) d0 g2) h0 2 (s h1 2)) h0 3 (s h1 3)) h0 4 (s h1 4)) h0 5 (s h1 5)) h0 6 (s h1 6), ?_, fun c x1 x2 x3 => ?_, fun k hk => ?_, fun k hk => ?_, fun k k1 k2 => ?_⟩
  · simp only [F_H_copyFrom, k0, k1, r0, r1, q0, q1, a0, b0, l0, m0, show Nat.beq 4 4 = true from rfl, show Nat.beq 1 1 = true from rfl, Bool.true_or, cond_true, e2, e4, Option.bind_some]
    have w : ∀ (t : Mem) (k : Nat) (v : Int32) (j : Nat), mw t h0 k v h1 j = t h1 j := fun t k v j => by rw [mw_o n4.symm]
    simp only [w, hb]
  · rw [mw_o x1, mw_o x1, mw_o x1, mw_o x1, mw_o x1, rp_o x3, rp_o x2]
  · rw [mw_o n6.symm, mw_o n6.symm, mw_o n6.symm, mw_o n6.symm, mw_o n6.symm, rp_o n5.symm, rp_at]
    exact e1 k hk
  · rw [mw_o n7.symm, mw_o n7.symm, mw_o n7.symm, mw_o n7.symm, mw_o n7.symm, rp_at, e3 k hk, rp_o n1.symm]
  · rcases (show k = 2 ∨ k = 3 ∨ k = 4 ∨ k = 5 ∨ k = 6 by omega) with rfl | rfl | rfl | rfl | rfl <;> simp [mw]
theorem keepC {a : Mem} {x u : Nat} (hx : x < 6) (hu : u ≤ 6) (e5 : a 0 5 = nI x) (e6 : a 0 6 = nI u) : ∃ a', F_C_keepBefore a = some (0, a') ∧ (∀ c, c ≠ 0 → c ≠ 74 → c ≠ 105 + 3 * x → c ≠ 106 + 3 * x → c ≠ 107 + 3 * x → a' c = a c) ∧ (∀ k, k ≠ 5 → k ≠ 6 → a' 0 k = a 0 k) ∧ a' 0 5 = nI ((x + 1) % 6) ∧ a' 0 6 = nI (if u < 6 then u + 1 else 6) ∧ (∀ k, a' 74 k = if k = x then a 5 1 else a 74 k) ∧ (∀ k, k < 864 → a' (106 + 3 * x) k = a 3 k) ∧ (∀ k, k < 6 → a' (107 + 3 * x) k = a 4 k) ∧ (∀ k, 2 ≤ k → k < 7 → a' (105 + 3 * x) k = a 2 k) := by
  obtain ⟨s1, s2, s3, s4, s5, s6, s7, s8, s9, s10⟩ := sh6 x hx
  obtain ⟨A, hA, o1, o2, o3, o4⟩ := H_copy (s := a) (h0 := 105 + 3 * x) (h1 := 2) (c0 := 106 + 3 * x) (c1 := 3) (d0 := 107 + 3 * x) (d1 := 4) s4 rfl s5 rfl s6 rfl s7 rfl s8 rfl s9 rfl s10 rfl (by omega) (by omega) (by omega) (by omega) (by omega) (by omega) (by omega)
  have f1 : F_JM_floorMod (nI x) 6 a = some (nI x, a) := by
    rw [C_flm (by omega), Nat.mod_eq_of_lt hx]
  have hal : alr 73 (nI x) = some (105 + 3 * x) := by
    unfold alr
    rw [if_pos ⟨s1, by rw [s2]; exact nI_in hx (by decide)⟩, nI_clamp (by omega), s3]
  have A51 : A 5 1 = a 5 1 := by rw [o1 5 (by omega) (by omega) (by omega)]
  have A06 : A 0 6 = nI u := by rw [o1 0 (by omega) (by omega) (by omega)]; exact e6
  have mn : (if (6 : Int32) < nI u + 1 then 6 else nI u + 1) = nI (if u < 6 then u + 1 else 6) := by
    rw [nI_1]
    by_cases c : u < 6
    · rw [if_pos c, if_neg (show ¬ (6 : Int32) < nI (u + 1) from nI_nlt (a := 6) (by omega) (by decide))]
    · rw [if_neg c, if_pos (show (6 : Int32) < nI (u + 1) from nI_lt (a := 6) (by omega) (by omega))]
      rfl
  refine ⟨mw (mw (mw A 74 x (a 5 1)) 0 5 (nI ((x + 1) % 6))) 0 6 (nI (if u < 6 then u + 1 else 6)), ?_, fun c c1 c2 c3 c4 c5 => ?_, fun k k1 k2 => ?_, rfl, rfl, fun k => ?_, fun k hk => ?_, fun k hk => ?_, fun k k1 k2 => ?_⟩
  · have f2 : ∀ t : Mem, F_JM_floorMod (nI x + 1) 6 t = some (nI ((x + 1) % 6), t) := fun t => by rw [nI_1]; exact C_flm (by omega) t
    have f3 : sd A 74 (nI x) (a 5 1) = some (mw A 74 x (a 5 1)) := sd_in rfl (show x < 6 from hx) (by decide)
    have f4 : (mw (mw A 74 x (a 5 1)) 0 5 (nI ((x + 1) % 6))) 0 6 = nI u := A06
    simp only [F_C_keepBefore, e5, f1, Option.bind_some, hal, s4, show Nat.beq 4 4 = true from rfl, cond_true, hA, A51, f3, f2, f4, C_min, mn]
  · rw [mw_o c1, mw_o c1, mw_o c2, o1 c c3 c4 c5]
  · rw [mw_n k2, mw_n k1]
    show mw A 74 x (a 5 1) 0 k = a 0 k
    rw [mw_o (by decide), o1 0 (by omega) (by omega) (by omega)]
  · show mw A 74 x (a 5 1) 74 k = _
    by_cases c : k = x
    · rw [if_pos c, c, mw_y]
    · rw [if_neg c, mw_n c, o1 74 (by omega) (by omega) (by omega)]
  · rw [mw_o (by omega), mw_o (by omega), mw_o (by omega)]; exact o2 k hk
  · rw [mw_o (by omega), mw_o (by omega), mw_o (by omega)]; exact o3 k hk
  · rw [mw_o (by omega), mw_o (by omega), mw_o (by omega)]; exact o4 k k1 k2
/-! the reference's rows -/
def rwS (f g : Nat → Int32) (u k : Nat) : Nat → Int32 := fun i => if 773 * u + k ≤ i ∧ i < 773 * u + 773 then g (i - 773 * u) else f i
theorem rwS_e (f g : Nat → Int32) (u : Nat) : rwS f g u 773 = f := by
  funext i
  exact if_neg (by omega)
theorem rwS_s {f g : Nat → Int32} {u k : Nat} (h : k < 773) : rwS (up f (773 * u + k) (g k)) g u (k + 1) = rwS f g u k := by
  funext i
  unfold rwS up
  by_cases c1 : 773 * u + (k + 1) ≤ i ∧ i < 773 * u + 773
  · rw [if_pos c1, if_pos (by omega)]
  · rw [if_neg c1]
    by_cases c2 : i = 773 * u + k
    · rw [if_pos c2, if_pos (by omega), c2, show 773 * u + k - 773 * u = k by omega]
    · rw [if_neg c2, if_neg (by omega)]
theorem kM32 {u : Nat} (hu : u < 6) : ∀ (q k m : Nat) (b : Mem), k + q = 773 → q < m → b 123 3 = nI u → F_R_keepsAhead_32 m (nI k) b = some (0, mw (rp b 125 (rwS (b 125) (b 124) u k)) 123 3 (nI (u + 1))) := by
  intro q
  induction q with
  | zero =>
    intro k m b hk hm e
    obtain ⟨m, rfl⟩ : ∃ m', m = m' + 1 := ⟨m - 1, by omega⟩
    have : k = 773 := by omega
    subst this
    simp only [F_R_keepsAhead_32, if_pos (show (773 : Int32) ≤ nI 773 from by decide), e, nI_1, rwS_e, rp_id]
  | succ q ih =>
    intro k m b hk hm e
    obtain ⟨m, rfl⟩ : ∃ m', m = m' + 1 := ⟨m - 1, by omega⟩
    have l1 : ld b 124 (nI k) = some (b 124 k) := ld_in rfl (show k < 773 by omega) (by decide)
    have e1 : (773 : Int32) * nI u + nI k = nI (773 * u + k) := by rw [show (773 : Int32) = nI 773 from rfl, n_mul, nI_add]
    simp only [F_R_keepsAhead_32, if_neg (show ¬ (773 : Int32) ≤ nI k from nI_ge (b := 773) (by omega) (by decide)), l1, Option.bind_some, e, e1, nI_1]
    rw [sd_in (c := 125) rfl (show 773 * u + k < 4638 by omega) (by decide)]
    simp only [Option.bind_some]
    rw [ih (k + 1) m (mw b 125 (773 * u + k) (b 124 k)) (by omega) (by omega) e, mw_rp b, rp_rp, rp_at, show (rp b 125 (up (b 125) (773 * u + k) (b 124 k))) 124 = b 124 from rfl, rwS_s (by omega)]
def shF (f : Nat → Int32) (k : Nat) : Nat → Int32 := fun i => if k ≤ i ∧ i < 3865 then f (i + 773) else f i
theorem shF_s {f : Nat → Int32} {k : Nat} (h : k < 3865) : shF (up f k (f (k + 773))) (k + 1) = shF f k := by
  funext i
  unfold shF up
  by_cases c1 : k + 1 ≤ i ∧ i < 3865
  · rw [if_pos c1, if_neg (show ¬ i + 773 = k by omega), if_pos (show k ≤ i ∧ i < 3865 by omega)]
  · rw [if_neg c1]
    by_cases c2 : i = k
    · rw [if_pos c2, if_pos (by omega), c2]
    · rw [if_neg c2, if_neg (by omega)]
theorem kM12 : ∀ (q k m : Nat) (b : Mem), k + q = 3865 → q < m → b 123 3 = nI 5 → F_R_keepsAhead_12 m (nI k) b = F_R_keepsAhead_32 gF 0 (rp b 125 (shF (b 125) k)) := by
  intro q
  induction q with
  | zero =>
    intro k m b hk hm e
    obtain ⟨m, rfl⟩ : ∃ m', m = m' + 1 := ⟨m - 1, by omega⟩
    have : k = 3865 := by omega
    subst this
    have e2 : shF (b 125) 3865 = b 125 := by
      funext i
      exact if_neg (by omega)
    simp only [F_R_keepsAhead_12, e, if_pos (show (773 : Int32) * nI 5 ≤ nI 3865 from by decide), e2, rp_id]
  | succ q ih =>
    intro k m b hk hm e
    obtain ⟨m, rfl⟩ : ∃ m', m = m' + 1 := ⟨m - 1, by omega⟩
    have e1 : (773 : Int32) * nI 5 = nI 3865 := by decide
    have e2 : nI k + 773 = nI (k + 773) := nI_add k 773
    have l1 : ld b 125 (nI (k + 773)) = some (b 125 (k + 773)) := ld_in rfl (show k + 773 < 4638 by omega) (by decide)
    simp only [F_R_keepsAhead_12, e, e1, if_neg (nI_ge (show k < 3865 by omega) (by decide)), e2, l1, Option.bind_some, nI_1]
    rw [sd_in (c := 125) rfl (show k < 4638 by omega) (by decide)]
    simp only [Option.bind_some]
    rw [ih (k + 1) m (mw b 125 k (b 125 (k + 773))) (by omega) (by omega) e, mw_rp b, rp_rp, rp_at, shF_s (by omega)]
theorem mwmw (s : Mem) (c k : Nat) (v w : Int32) : mw (mw s c k v) c k w = mw s c k w := by
  funext a b
  unfold mw
  by_cases h1 : a = c
  · rw [if_pos h1, if_pos h1]
    by_cases h2 : b = k
    · rw [if_pos h2, if_pos h2]
    · rw [if_neg h2, if_neg h2, if_pos rfl, if_neg h2]
  · rw [if_neg h1, if_neg h1, if_neg h1]
theorem keepM {b : Mem} {u : Nat} (hu : u ≤ 6) (e3 : b 123 3 = nI u) : ∃ b', F_R_keepsAhead b = some (0, b') ∧ (∀ c, c ≠ 123 → c ≠ 125 → b' c = b c) ∧ (∀ k, k ≠ 3 → b' 123 k = b 123 k) ∧ b' 123 3 = nI (if u < 6 then u + 1 else 6) ∧ (∀ k, k < 773 → b' 125 (773 * ((if u < 6 then u + 1 else 6) - 1) + k) = b 124 k) ∧ ∀ j k, j + 1 < (if u < 6 then u + 1 else 6) → k < 773 → b' 125 (773 * j + k) = if u < 6 then b 125 (773 * j + k) else b 125 (773 * (j + 1) + k) := by
  by_cases c : u < 6
  · have h := kM32 c 773 0 gF b rfl (by rw [gF_eq]; omega) e3
    refine ⟨mw (rp b 125 (rwS (b 125) (b 124) u 0)) 123 3 (nI (u + 1)), ?_, fun d d1 d2 => ?_, fun k hk => ?_, ?_, fun k hk => ?_, fun j k hj hk => ?_⟩
    · unfold F_R_keepsAhead
      rw [e3, if_neg (show ¬ nI u = 6 from fun q => absurd ((nI_eq (b := 6) (by omega) (by decide)).mp q) (by omega))]
      exact h
    · rw [mw_o d1, rp_o d2]
    · rw [mw_n hk, rp_o (by decide)]
    · rw [mw_y, if_pos c]
    · rw [if_pos c, mw_o (by decide), rp_at]
      unfold rwS
      rw [if_pos (by omega), show u + 1 - 1 = u by omega, show 773 * u + k - 773 * u = k by omega]
    · rw [if_pos c] at hj ⊢
      rw [mw_o (by decide), rp_at]
      unfold rwS
      rw [if_neg (by omega)]
  · have hu6 : u = 6 := by omega
    subst hu6
    have h1 := kM12 3865 0 gF (mw b 123 3 (nI 5)) rfl (by rw [gF_eq]; omega) rfl
    have h2 := kM32 (u := 5) (by decide) 773 0 gF (rp (mw b 123 3 (nI 5)) 125 (shF ((mw b 123 3 (nI 5)) 125) 0)) rfl (by rw [gF_eq]; omega) rfl
    refine ⟨mw (rp (rp (mw b 123 3 (nI 5)) 125 (shF ((mw b 123 3 (nI 5)) 125) 0)) 125 (rwS ((rp (mw b 123 3 (nI 5)) 125 (shF ((mw b 123 3 (nI 5)) 125) 0)) 125) ((rp (mw b 123 3 (nI 5)) 125 (shF ((mw b 123 3 (nI 5)) 125) 0)) 124) 5 0)) 123 3 (nI (5 + 1)), ?_, fun d d1 d2 => ?_, fun k hk => ?_, ?_, fun k hk => ?_, fun j k hj hk => ?_⟩
    rotate_left
    · rw [mw_o d1, rp_o d2, rp_o d2, mw_o d1]
    · rw [mw_n hk, rp_o (by decide), rp_o (by decide), mw_n hk]
    · rw [mw_y]; rfl
    · rw [mw_o (by decide), rp_at]
      unfold rwS
      rw [if_neg c, if_pos (by omega), show 773 * (6 - 1) + k - 773 * 5 = k by omega]
      rfl
    · rw [if_neg c] at hj ⊢
      rw [mw_o (by decide), rp_at]
      unfold rwS
      rw [if_neg (by omega), rp_at]
      unfold shF
      rw [if_pos (by omega), show 773 * j + k + 773 = 773 * (j + 1) + k by omega]
      rfl
    · unfold F_R_keepsAhead
      rw [e3, if_pos (show nI 6 = 6 from rfl), show nI 6 - 1 = nI 5 from nI_pred 5]
      exact h1.trans h2
