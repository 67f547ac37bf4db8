/-! ===== drilled ===== -/
theorem Inv_rp {s : Mem} {c : Nat} {f : Nat → Int32} (hr : ∀ k, rel c k = false) (h : Inv s) : Inv (rp s c f) := Inv_eq (prj_rp (fun k hk => by rw [hr k] at hk; cases hk)) h
theorem m1_add (x : Int32) : x + (-1) = x - 1 := by
  apply Int32.toBitVec_inj.mp
  rw [Int32.toBitVec_add, Int32.toBitVec_sub, BitVec.sub_eq_add_neg]
  rfl
/-- the man who comes to a place -/
def dG (r p : Nat) : Nat := r / 10 ^ (7 - p) % 10
theorem mx1 {n : Nat} (h : 1 ≤ n) (h2 : n < 2 ^ 31) : (if (1 : Int32) < nI n then nI n else 1) = nI n := by
  by_cases c : 1 < n
  · exact if_pos (nI_lt (a := 1) c h2)
  · rw [show n = 1 by omega]
    rfl
theorem pbC' {s : Mem} {r p : Nat} (hr : r < 2 ^ 31) : ∀ (q j m : Nat), q < 8 → q < m → F_D_placeBefore_4 m (nI p) (nI (r / 10 ^ j)) (nI (p + q)) s = (if p + q < 2 ^ 31 then some (nI (r / 10 ^ (j + q) % 10), s) else F_D_placeBefore_4 m (nI p) (nI (r / 10 ^ j)) (nI (p + q)) s) := by
  intro q
  induction q with
  | zero =>
    intro j m h1 hm
    split
    · rename_i hp
      obtain ⟨m, rfl⟩ : ∃ m', m = m' + 1 := ⟨m - 1, by omega⟩
      have hq : r / 10 ^ j < 2 ^ 31 := Nat.lt_of_le_of_lt (Nat.div_le_self _ _) hr
      simp only [F_D_placeBefore_4, Nat.add_zero, if_pos (nI_le (Nat.le_refl p) (show p < 2 ^ 31 by omega))]
      rw [n_irmL hq (b := 10) (y := 10) (by decide) (by decide) rfl]
    · rfl
  | succ q ih =>
    intro j m h1 hm
    split
    · rename_i hp
      obtain ⟨m, rfl⟩ : ∃ m', m = m' + 1 := ⟨m - 1, by omega⟩
      have hq : r / 10 ^ j < 2 ^ 31 := Nat.lt_of_le_of_lt (Nat.div_le_self _ _) hr
      have e2 : nI (r / 10 ^ j) / 10 = nI (r / 10 ^ (j + 1)) := by rw [n_divL hq (b := 10) (y := 10) (by decide) (by decide) rfl, dg_ne]
      have e3 : nI (p + (q + 1)) + (-1) = nI (p + q) := by
        rw [m1_add]
        exact n_sub (a := p + (q + 1)) (b := 1) (by omega)
      simp only [F_D_placeBefore_4, if_neg (nI_ge (show p < p + (q + 1) by omega) hp), e2, e3]
      have := ih (j + 1) m (by omega) (by omega)
      rw [if_pos (by omega)] at this
      rw [this, show j + 1 + q = j + (q + 1) by omega]
    · rfl
theorem D_before {s : Mem} {r p : Nat} (hr : r < 2 ^ 31) (hp : p < 8) : F_D_placeBefore (nI r) (nI p) s = some (nI (dG r p), s) := by
  have h := pbC' (s := s) (r := r) (p := p) hr (7 - p) 0 gF (by omega) (by rw [gF_eq]; omega)
  rw [if_pos (by omega), Nat.pow_zero, Nat.div_one, show p + (7 - p) = 7 by omega, Nat.zero_add] at h
  exact h
/-- a row that turns places into places -/
def okG (G : Nat → Nat) : Prop := (∀ p, p < 8 → G p < 8) ∧ ∀ p q, p < 8 → q < 8 → G p = G q → p = q
theorem okG_of {r : Nat} (h : isPm 8 (nI r)) (hr : r < 2 ^ 31) : okG (dG r) := by
  obtain ⟨r', h1, h2, h3⟩ := h
  have : r = r' := (nI_eq hr (by omega)).mp h2
  subst this
  obtain ⟨k1, k2⟩ := pm_inj h3
  exact ⟨fun p hp => k1 (7 - p) (by omega), fun p q hp hq e => by
    have := k2 (7 - p) (7 - q) (by omega) (by omega) e
    omega⟩
def itG (G : Nat → Nat) (p : Nat) : Nat → Nat
  | 0 => p
  | k + 1 => G (itG G p k)
theorem itG_lt {G : Nat → Nat} (h : okG G) {p : Nat} (hp : p < 8) : ∀ k, itG G p k < 8
  | 0 => hp
  | k + 1 => h.1 _ (itG_lt h hp k)
theorem itG_back {G : Nat → Nat} (h : okG G) {p : Nat} (hp : p < 8) : ∀ (i d : Nat), itG G p i = itG G p (i + d) → itG G p d = p
  | 0, d, e => by rw [Nat.zero_add] at e; exact e.symm
  | i + 1, d, e => by
    refine itG_back h hp i d (h.2 _ _ (itG_lt h hp i) (itG_lt h hp (i + d)) ?_)
    rw [show i + 1 + d = i + d + 1 by omega] at e
    exact e
theorem itG_round {G : Nat → Nat} (h : okG G) {p : Nat} (hp : p < 8) : ∃ c, 1 ≤ c ∧ c ≤ 8 ∧ itG G p c = p := by
  obtain ⟨i, j, h1, h2, h3⟩ := fb_twice (m := 8) (n := 9) (f := itG G p) (fun i _ => itG_lt h hp i) (by decide)
  refine ⟨j - i, by omega, by omega, itG_back h hp i (j - i) ?_⟩
  rw [show i + (j - i) = j by omega]
  exact h3
/-- the first round, from n on, q left -/
def rdF (G : Nat → Nat) (p : Nat) : Nat → Nat → Nat
  | 0, n => n
  | q + 1, n => if itG G p n = p then n else rdF G p q (n + 1)
theorem rdF_b (G : Nat → Nat) (p : Nat) : ∀ q n, n ≤ rdF G p q n ∧ rdF G p q n ≤ n + q
  | 0, n => ⟨Nat.le_refl n, Nat.le_refl n⟩
  | q + 1, n => by
    rw [rdF]
    split
    · omega
    · have := rdF_b G p q (n + 1)
      omega
theorem rdC {s : Mem} {r p : Nat} (hr : r < 2 ^ 31) (hG : okG (dG r)) (hp : p < 8) : ∀ (q n m : Nat), 1 ≤ n → n + q = 8 → q < m → F_D_roundOf_6 m (nI r) (nI p) (nI (itG (dG r) p n)) (nI n) s = some (nI (rdF (dG r) p q n), s) := by
  intro q
  induction q with
  | zero =>
    intro n m h1 hn hm
    obtain ⟨m, rfl⟩ : ∃ m', m = m' + 1 := ⟨m - 1, by omega⟩
    have : n = 8 := by omega
    subst this
    simp only [F_D_roundOf_6, rdF, show (8 : Int32) ≤ nI 8 from by decide, if_true]
    split <;> rfl
  | succ q ih =>
    intro n m h1 hn hm
    obtain ⟨m, rfl⟩ : ∃ m', m = m' + 1 := ⟨m - 1, by omega⟩
    have hl := itG_lt hG hp n
    simp only [F_D_roundOf_6, rdF, nI_eq (show itG (dG r) p n < 2 ^ 31 by omega) (show p < 2 ^ 31 by omega), if_neg (show ¬ (8 : Int32) ≤ nI n from nI_ge (b := 8) (by omega) (by decide)), D_before hr hl, Option.bind_some, nI_1]
    by_cases c : itG (dG r) p n = p
    · rw [if_pos c, if_pos c]
    · rw [if_neg c, if_neg c]
      exact ih (n + 1) m (by omega) (by omega) (by omega)
theorem D_round {s : Mem} {r p : Nat} (hr : r < 2 ^ 31) (hG : okG (dG r)) (hp : p < 8) : F_D_roundOf (nI r) (nI p) s = some (nI (rdF (dG r) p 7 1), s) := by
  unfold F_D_roundOf
  rw [D_before hr hp]
  exact rdC hr hG hp 7 1 gF (Nat.le_refl 1) rfl (by rw [gF_eq]; omega)
theorem rdM {s : Mem} {G : Nat → Nat} {p : Nat} (hG : okG G) (hs : ∀ k, k < 8 → s 152 k = nI (G k)) (hp : p < 8) : ∀ (q n m : Nat), 1 ≤ n → n + q = 8 → q < m → (∀ k, 1 ≤ k → k < n → itG G p k ≠ p) → F_R_roundOf_7 m (nI p) (nI n) (nI (itG G p n)) s = some (nI (rdF G p q n), s) := by
  intro q
  induction q with
  | zero =>
    intro n m h1 hn hm hno
    obtain ⟨m, rfl⟩ : ∃ m', m = m' + 1 := ⟨m - 1, by omega⟩
    have : n = 8 := by omega
    subst this
    obtain ⟨c, c1, c2, c3⟩ := itG_round hG hp
    have : c = 8 := by
      apply Classical.byContradiction
      intro hc
      exact hno c c1 (by omega) c3
    subst this
    simp only [F_R_roundOf_7, rdF, c3, if_true]
  | succ q ih =>
    intro n m h1 hn hm hno
    obtain ⟨m, rfl⟩ : ∃ m', m = m' + 1 := ⟨m - 1, by omega⟩
    have hl := itG_lt hG hp n
    have l1 : ld s 152 (nI (itG G p n)) = some (nI (G (itG G p n))) := (ld_in rfl (show itG G p n < 8 from hl) (by decide)).trans (congrArg some (hs _ hl))
    simp only [F_R_roundOf_7, rdF, nI_eq (show itG G p n < 2 ^ 31 by omega) (show p < 2 ^ 31 by omega), l1, Option.bind_some, nI_1]
    by_cases c : itG G p n = p
    · rw [if_pos c, if_pos c]
    · rw [if_neg c, if_neg c]
      exact ih (n + 1) m (by omega) (by omega) (by omega) (fun k k1 k2 => by
        by_cases h3 : k = n
        · rw [h3]; exact c
        · exact hno k k1 (by omega))
theorem R_round {s : Mem} {G : Nat → Nat} {p : Nat} (hG : okG G) (hs : ∀ k, k < 8 → s 152 k = nI (G k)) (hp : p < 8) : F_R_roundOf (nI p) s = some (nI (rdF G p 7 1), s) := by
  have l1 : ld s 152 (nI p) = some (nI (G p)) := (ld_in rfl (show p < 8 from hp) (by decide)).trans (congrArg some (hs _ hp))
  unfold F_R_roundOf
  rw [l1]
  exact rdM hG hs hp 7 1 gF (Nat.le_refl 1) rfl (by rw [gF_eq]; omega) (fun k h1 h2 => by omega)
theorem gcdM {s : Mem} : ∀ (b a m : Nat), a < 2 ^ 31 → b < 2 ^ 31 → b < m → F_R_common_4 m (nI a) (nI b) s = some (nI (Nat.gcd a b), s) := by
  intro b
  induction b using Nat.strongRecOn with
  | ind b ih =>
    intro a m ha hb hm
    obtain ⟨m, rfl⟩ : ∃ m', m = m' + 1 := ⟨m - 1, by omega⟩
    by_cases h0 : b = 0
    · subst h0
      simp only [F_R_common_4, show nI 0 = 0 from rfl, if_true, Nat.gcd_zero_right]
    · have h1 : ¬ nI b = 0 := nI_ne0 (by omega) hb
      simp only [F_R_common_4, if_neg h1]
      have hlt : a % b < b := Nat.mod_lt _ (by omega)
      rw [n_irm ha (by omega) hb, ih (a % b) hlt b m hb (by omega) (by omega)]
      rw [Nat.gcd_comm a b, Nat.gcd_rec b a, Nat.gcd_comm]
theorem lcm_least {a b k : Nat} (ha : 0 < a) (hb : 0 < b) (h1 : b ∣ a * k) (hk : 0 < k) (h2 : ∀ j, 0 < j → j < k → ¬ b ∣ a * j) : a * k = Nat.lcm a b := by
  have hl : Nat.lcm a b ∣ a * k := Nat.lcm_dvd (Nat.dvd_mul_right a k) h1
  obtain ⟨k0, e0⟩ := Nat.dvd_lcm_left a b
  have hl0 : 0 < Nat.lcm a b := Nat.lcm_pos ha hb
  have hk0 : 0 < k0 := by
    rcases Nat.eq_zero_or_pos k0 with h | h
    · rw [h, Nat.mul_zero] at e0; omega
    · exact h
  have h3 : k ≤ k0 := by
    apply Classical.byContradiction
    intro hc
    refine h2 k0 hk0 (by omega) ?_
    rw [← e0]
    exact Nat.dvd_lcm_right a b
  have h4 : a * k ≤ a * k0 := Nat.mul_le_mul_left a h3
  have h5 := Nat.le_of_dvd (Nat.mul_pos ha hk) hl
  omega
theorem lcC {k4 : Int32 → Int32 → Int32 → Mem → Option (Int32 × Mem)} {s : Mem} {x0 : Int32} {a b p : Nat} (ha : 0 < a) (ha2 : a ≤ 840) (hb : 0 < b) (hb2 : b ≤ 8) : ∀ (q i m : Nat), 1 ≤ i → i + q = b → q < m → (∀ j, 0 < j → j < i → ¬ b ∣ a * j) → F_D_roundsOf_17 k4 m x0 (nI a) (nI p) (nI b) (nI (a * i)) (nI i) s = k4 x0 (nI (Nat.lcm a b)) (nI (p + 1)) s := by
  intro q
  induction q with
  | zero =>
    intro i m h1 hi hm hno
    obtain ⟨m, rfl⟩ : ∃ m', m = m' + 1 := ⟨m - 1, by omega⟩
    have : i = b := by omega
    subst this
    simp only [F_D_roundsOf_17, if_pos (nI_le (Nat.le_refl i) (show i < 2 ^ 31 by omega)), nI_1]
    rw [lcm_least ha hb (Nat.dvd_mul_left i a) hb hno]
  | succ q ih =>
    intro i m h1 hi hm hno
    obtain ⟨m, rfl⟩ : ∃ m', m = m' + 1 := ⟨m - 1, by omega⟩
    have hai : a * i ≤ 840 * 8 := Nat.mul_le_mul ha2 (by omega)
    have e1 : irm (nI (a * i)) (nI b) = nI (a * i % b) := n_irm (by omega) hb (by omega)
    have hm8 : a * i % b < b := Nat.mod_lt _ hb
    have e2 : (nI (a * i % b) = 0) ↔ a * i % b = 0 := nI_eq (b := 0) (by omega) (by decide)
    simp only [F_D_roundsOf_17, if_neg (nI_ge (show i < b by omega) (show b < 2 ^ 31 by omega)), if_neg (nI_ne0 hb (show b < 2 ^ 31 by omega)), e1, nI_1]
    by_cases c : a * i % b = 0
    · rw [if_pos (e2.mpr c), lcm_least ha hb (Nat.dvd_of_mod_eq_zero c) (by omega) hno]
    · rw [if_neg (fun z => c (e2.mp z)), nI_add, show a * i + a = a * (i + 1) from rfl]
      exact ih (i + 1) m (by omega) (by omega) (by omega) (fun j j1 j2 => by
        by_cases h3 : j = i
        · rw [h3]; exact fun z => c (Nat.mod_eq_zero_of_dvd z)
        · exact hno j j1 (by omega))
def lcF (G : Nat → Nat) : Nat → Nat → Nat → Nat
  | 0, _, a => a
  | q + 1, p, a => lcF G q (p + 1) (Nat.lcm a (rdF G p 7 1))
theorem dvd840 : ∀ b, b < 9 → 0 < b → b ∣ 840 := by decide
theorem lcsC {s : Mem} {r : Nat} (hr : r < 2 ^ 31) (hG : okG (dG r)) : ∀ (q p a m : Nat), p + q = 8 → a ∣ 840 → q < m → F_D_roundsOf_4 m (nI r) (nI a) (nI p) s = some (nI (lcF (dG r) q p a), s) := by
  intro q
  induction q with
  | zero =>
    intro p a m hp ha hm
    obtain ⟨m, rfl⟩ : ∃ m', m = m' + 1 := ⟨m - 1, by omega⟩
    have : p = 8 := by omega
    subst this
    simp only [F_D_roundsOf_4, lcF, show (8 : Int32) ≤ nI 8 from by decide, if_true]
  | succ q ih =>
    intro p a m hp ha hm
    obtain ⟨m, rfl⟩ : ∃ m', m = m' + 1 := ⟨m - 1, by omega⟩
    have hb := rdF_b (dG r) p 7 1
    have ha0 : 0 < a := Nat.pos_of_dvd_of_pos ha (by decide)
    have ha2 : a ≤ 840 := Nat.le_of_dvd (by decide) ha
    have hmx := mx1 hb.1 (show rdF (dG r) p 7 1 < 2 ^ 31 by omega)
    simp only [F_D_roundsOf_4, if_neg (show ¬ (8 : Int32) ≤ nI p from nI_ge (b := 8) (by omega) (by decide)), D_round hr hG (show p < 8 by omega), Option.bind_some, C_max, hmx, lcF]
    have h1 := lcC (k4 := F_D_roundsOf_4 m) (s := s) (x0 := nI r) (p := p) (b := rdF (dG r) p 7 1) ha0 ha2 (by omega) (by omega) (rdF (dG r) p 7 1 - 1) 1 gF (Nat.le_refl 1) (by omega) (by rw [gF_eq]; omega) (fun j j1 j2 => by omega)
    rw [Nat.mul_one] at h1
    refine Eq.trans h1 ?_
    exact ih (p + 1) _ m (by omega) (Nat.lcm_dvd ha (dvd840 _ (by omega) (by omega))) (by omega)
theorem lcsM {s : Mem} {G : Nat → Nat} (hG : okG G) (hs : ∀ k, k < 8 → s 152 k = nI (G k)) : ∀ (q p a m : Nat), p + q = 8 → a ∣ 840 → q < m → F_R_drilled_32 m (nI a) (nI p) s = some (nI (lcF G q p a), s) := by
  intro q
  induction q with
  | zero =>
    intro p a m hp ha hm
    obtain ⟨m, rfl⟩ : ∃ m', m = m' + 1 := ⟨m - 1, by omega⟩
    have : p = 8 := by omega
    subst this
    simp only [F_R_drilled_32, lcF, show (8 : Int32) ≤ nI 8 from by decide, if_true]
  | succ q ih =>
    intro p a m hp ha hm
    obtain ⟨m, rfl⟩ : ∃ m', m = m' + 1 := ⟨m - 1, by omega⟩
    have hb := rdF_b G p 7 1
    have ha0 : 0 < a := Nat.pos_of_dvd_of_pos ha (by decide)
    have ha2 : a ≤ 840 := Nat.le_of_dvd (by decide) ha
    have hg : F_R_common (nI a) (nI (rdF G p 7 1)) s = some (nI (Nat.gcd a (rdF G p 7 1)), s) := gcdM _ _ _ (by omega) (by omega) (by rw [gF_eq]; omega)
    have hg0 : 0 < Nat.gcd a (rdF G p 7 1) := Nat.gcd_pos_of_pos_left _ ha0
    have hg2 : Nat.gcd a (rdF G p 7 1) ≤ a := Nat.le_of_dvd ha0 (Nat.gcd_dvd_left _ _)
    simp only [F_R_drilled_32, if_neg (show ¬ (8 : Int32) ≤ nI p from nI_ge (b := 8) (by omega) (by decide)), R_round hG hs (show p < 8 by omega), Option.bind_some, hg, if_neg (nI_ne0 hg0 (show Nat.gcd a (rdF G p 7 1) < 2 ^ 31 by omega)), lcF, nI_1]
    rw [n_div (by omega) hg0 (by omega), n_mul]
    have e1 : a / Nat.gcd a (rdF G p 7 1) * rdF G p 7 1 = Nat.lcm a (rdF G p 7 1) := by
      unfold Nat.lcm
      rw [Nat.mul_comm a, Nat.mul_div_assoc _ (Nat.gcd_dvd_left _ _), Nat.mul_comm]
    rw [e1]
    exact ih (p + 1) _ m (by omega) (Nat.lcm_dvd ha (dvd840 _ (by omega) (by omega))) (by omega)
theorem stC' {s : Mem} {r p c : Nat} (hr : r < 2 ^ 31) (hG : okG (dG r)) (hp : p < 8) (hc : c < 2 ^ 31) : ∀ (q i m : Nat), i + q = c → q < m → F_D_standsAt_12 m (nI r) (nI c) (nI (itG (dG r) p i)) (nI i) s = some (nI (itG (dG r) p c), s) := by
  intro q
  induction q with
  | zero =>
    intro i m hi hm
    obtain ⟨m, rfl⟩ : ∃ m', m = m' + 1 := ⟨m - 1, by omega⟩
    have : i = c := by omega
    subst this
    simp only [F_D_standsAt_12, if_pos (nI_le (Nat.le_refl i) hc)]
  | succ q ih =>
    intro i m hi hm
    obtain ⟨m, rfl⟩ : ∃ m', m = m' + 1 := ⟨m - 1, by omega⟩
    simp only [F_D_standsAt_12, if_neg (nI_ge (show i < c by omega) hc), D_before hr (itG_lt hG hp i), Option.bind_some, nI_1]
    exact ih (i + 1) m (by omega) (by omega)
theorem stM' {s : Mem} {G : Nat → Nat} {p : Nat} (hG : okG G) (hs : ∀ k, k < 8 → s 152 k = nI (G k)) (hp : p < 8) : ∀ (q i m : Nat), q < 2 ^ 31 → q < m → F_R_drilled_74 m (nI (itG G p i)) (nI q) s = some (nI (itG G p (i + q)), s) := by
  intro q
  induction q with
  | zero =>
    intro i m hq hm
    obtain ⟨m, rfl⟩ : ∃ m', m = m' + 1 := ⟨m - 1, by omega⟩
    simp only [F_R_drilled_74, show nI 0 ≤ 0 from by decide, if_true, Nat.add_zero]
  | succ q ih =>
    intro i m hq hm
    obtain ⟨m, rfl⟩ : ∃ m', m = m' + 1 := ⟨m - 1, by omega⟩
    have hl := itG_lt hG hp i
    have l1 : ld s 152 (nI (itG G p i)) = some (nI (G (itG G p i))) := (ld_in rfl (show itG G p i < 8 from hl) (by decide)).trans (congrArg some (hs _ hl))
    simp only [F_R_drilled_74, if_neg (nI_nle (show 0 < q + 1 by omega) hq), l1, Option.bind_some, m1_add, nI_pred]
    have := ih (i + 1) m (by omega) (by omega)
    rw [show i + 1 + q = i + (q + 1) by omega] at this
    exact this
theorem dr10 {x1 x2 : Int32} {r : Nat} (hr : r < 2 ^ 31) : ∀ (q m : Nat) (t : Mem), q ≤ 8 → (∀ k, q ≤ k → k < 8 → t 152 k = nI (dG r k)) → ∃ f : Nat → Int32, (∀ k, k < 8 → f k = nI (dG r k)) ∧ F_R_drilled_10 (m + q) x1 x2 (nI (r / 10 ^ (8 - q))) (nI q - 1) t = F_R_drilled_10 m x1 x2 (nI (r / 10 ^ 8)) (-1) (rp t 152 f) := by
  intro q
  induction q with
  | zero =>
    intro m t _ ht
    refine ⟨t 152, fun k hk => ht k (Nat.zero_le k) hk, ?_⟩
    rw [rp_id]
    rfl
  | succ q ih =>
    intro m t hq ht
    have hl : r / 10 ^ (8 - (q + 1)) < 2 ^ 31 := Nat.lt_of_le_of_lt (Nat.div_le_self _ _) hr
    have e2 : nI (r / 10 ^ (8 - (q + 1))) / 10 = nI (r / 10 ^ (8 - q)) := by rw [n_divL hl (b := 10) (y := 10) (by decide) (by decide) rfl, dg_ne, show 8 - (q + 1) + 1 = 8 - q by omega]
    have e3 : irm (nI (r / 10 ^ (8 - (q + 1)))) 10 = nI (dG r q) := by
      rw [n_irmL hl (b := 10) (y := 10) (by decide) (by decide) rfl, dG, show 8 - (q + 1) = 7 - q by omega]
    obtain ⟨f, hf, e⟩ := ih m (mw t 152 q (nI (dG r q))) (by omega) (fun k h1 h2 => by
      by_cases h3 : k = q
      · rw [h3, mw_y]
      · rw [mw_n h3]; exact ht k (by omega) h2)
    refine ⟨f, hf, ?_⟩
    rw [show m + (q + 1) = (m + q) + 1 by omega]
    rw [nI_pred]
    simp only [F_R_drilled_10, if_neg (nI_pos (show q < 2 ^ 31 by omega)), e2, e3, m1_add]
    rw [sd_in (c := 152) rfl (show q < 8 by omega) (by decide)]
    simp only [Option.bind_some]
    rw [e, mw_rp, rp_rp]
theorem g_drilled (x y : Int32) : Good Inv (F_C_drilled x y) (F_R_drilled x y) := by
  intro s h
  obtain ⟨⟨hHS, hHM, hBR, hLw, hOr, hVi, hDo, ⟨hT0, hT1, hT2, hT3, hT4, hT5, hT6, ⟨hP, hB⟩, hT8⟩⟩, hKR, hUR, hMR⟩ := id h
  have hP : isPm 8 (s 21 7) := hP
  have hB : s 123 51 = s 21 7 - 1234567 := hB
  obtain ⟨r, hr8, er, -⟩ := id hP
  have hr : r < 2 ^ 31 := by
    have : (10 : Nat) ^ 8 = 100000000 := by decide
    omega
  rw [er] at hP
  have hG := okG_of hP hr
  have eb : (mw s 123 0 0) 123 51 + 1234567 = nI (r / 10 ^ (8 - 8)) := by
    have : (mw s 123 0 0) 123 51 = nI r - 1234567 := by rw [← er]; exact hB
    rw [this, Int32.sub_add_cancel]
    simp
  obtain ⟨f, hf, e10⟩ := dr10 (x1 := x) (x2 := y) hr 8 (999991 + 1) (mw s 123 0 0) (Nat.le_refl 8) (fun k h1 h2 => by omega)
  have hgF : gF = 999991 + 1 + 8 := gF_eq
  have hR : F_R_drilled x y s = F_R_drilled_10 (999991 + 1) x y (nI (r / 10 ^ 8)) (-1) (rp (mw s 123 0 0) 152 f) := by
    unfold F_R_drilled
    simp only [eb, hgF]
    exact e10
  have hI : Inv (rp (mw s 123 0 0) 152 f) := Inv_rp (fun _ => rfl) (Inv_t h)
  have hs : ∀ k, k < 8 → (rp (mw s 123 0 0) 152 f) 152 k = nI (dG r k) := fun k hk => by rw [rp_at]; exact hf k hk
  have hneg : (-1 : Int32) < 0 := by decide
  by_cases h1 : y = -1
  · have hc := lcsC (s := s) hr hG 8 0 1 gF rfl (by decide) (by rw [gF_eq]; omega)
    have hm := lcsM (s := rp (mw s 123 0 0) 152 f) hG hs 8 0 1 gF rfl (by decide) (by rw [gF_eq]; omega)
    refine ⟨nI (lcF (dG r) 8 0 1), s, rp (mw s 123 0 0) 152 f, ?_, ?_, hI⟩
    · simp only [F_C_drilled, if_pos h1, F_D_roundsOf, er]
      rw [show (1 : Int32) = nI 1 from rfl, show (0 : Int32) = nI 0 from rfl, hc]
      rfl
    · rw [hR, F_R_drilled_10, if_pos hneg, if_pos h1]
      exact hm
  · by_cases h2 : 0 ≤ x ∧ x ≤ 1000000
    · by_cases h3 : 0 ≤ y ∧ y ≤ 7
      · obtain ⟨n, hn, rfl⟩ := in_nI (m := 1000000) (by decide) h2
        obtain ⟨p, hp, rfl⟩ := in_nI (m := 7) (by decide) h3
        have hb := rdF_b (dG r) p 7 1
        have hmx := mx1 hb.1 (show rdF (dG r) p 7 1 < 2 ^ 31 by omega)
        have hz : ¬ nI (rdF (dG r) p 7 1) = 0 := nI_ne0 (by omega) (by omega)
        have hrem : irm (nI n) (nI (rdF (dG r) p 7 1)) = nI (n % rdF (dG r) p 7 1) := n_irm (by omega) (by omega) (by omega)
        have hlt : n % rdF (dG r) p 7 1 < rdF (dG r) p 7 1 := Nat.mod_lt _ (by omega)
        have hc := stC' (s := s) hr hG (show p < 8 by omega) (show n % rdF (dG r) p 7 1 < 2 ^ 31 by omega) (n % rdF (dG r) p 7 1) 0 gF (Nat.zero_add _) (by rw [gF_eq]; omega)
        have hm := stM' (s := rp (mw s 123 0 0) 152 f) hG hs (show p < 8 by omega) (n % rdF (dG r) p 7 1) 0 gF (by omega) (by rw [gF_eq]; omega)
        rw [Nat.zero_add] at hm
        refine ⟨nI (itG (dG r) p (n % rdF (dG r) p 7 1)), s, rp (mw s 123 0 0) 152 f, ?_, ?_, hI⟩
        · simp only [F_C_drilled, if_neg h1, C_within, Option.bind_some, b01, h2, h3, and_self, not_true_eq_false, if_false, one0, F_D_standsAt, er, D_round hr hG (show p < 8 by omega), C_max, hmx, if_neg hz, hrem]
          rw [show (0 : Int32) = nI 0 from rfl, show nI p = nI (itG (dG r) p 0) from rfl, hc]
          rfl
        · rw [hR, F_R_drilled_10, if_pos hneg, if_neg h1]
          simp only [R_isIn, Option.bind_some, b01, h2, h3, and_self, not_true_eq_false, if_false, one0, R_round hG hs (show p < 8 by omega), if_neg hz, hrem]
          exact hm
      · refine ⟨-1, s, rp (mw s 123 0 0) 152 f, ?_, ?_, hI⟩
        · simp only [F_C_drilled, if_neg h1, C_within, Option.bind_some, b01, h2, h3, and_self, not_true_eq_false, not_false_eq_true, if_false, if_true, one0]
        · rw [hR, F_R_drilled_10, if_pos hneg, if_neg h1]
          simp only [R_isIn, Option.bind_some, b01, h2, h3, and_self, not_true_eq_false, not_false_eq_true, if_false, if_true, one0]
    · refine ⟨-1, s, rp (mw s 123 0 0) 152 f, ?_, ?_, hI⟩
      · simp only [F_C_drilled, if_neg h1, C_within, Option.bind_some, b01, h2, not_false_eq_true, if_true]
      · rw [hR, F_R_drilled_10, if_pos hneg, if_neg h1]
        simp only [R_isIn, Option.bind_some, b01, h2, not_false_eq_true, if_true]
