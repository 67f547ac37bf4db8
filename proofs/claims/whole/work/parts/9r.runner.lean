/-! ===== runner: rolls ===== -/
/-- far for both, or the same number, B at most -/
def FE (B : Nat) (u v : Int32) : Prop := (u = 1000000 ∧ v = 100000000) ∨ ∃ x, x ≤ B ∧ u = nI x ∧ v = nI x
theorem FE_mono {B C : Nat} {u v : Int32} (h : FE B u v) (hc : B ≤ C) : FE C u v := by
  rcases h with h | ⟨x, x1, x2⟩
  · exact Or.inl h
  · exact Or.inr ⟨x, Nat.le_trans x1 hc, x2⟩
theorem FE_min {B : Nat} (hB : B < 900000) {u v u' v' : Int32} (h : FE B u v) (h' : FE B u' v' ∨ (u' = 1000001 ∧ v' = 100000001)) : FE B (if u' < u then u' else u) (if v' ≤ v then v' else v) := by
  rcases h with ⟨rfl, rfl⟩ | ⟨x, x1, rfl, rfl⟩
  · rcases h' with (⟨rfl, rfl⟩ | ⟨y, y1, rfl, rfl⟩) | ⟨rfl, rfl⟩
    · exact Or.inl ⟨by decide, by decide⟩
    · refine Or.inr ⟨y, y1, ?_, ?_⟩
      · exact if_pos (nI_lt (b := 1000000) (by omega) (by decide))
      · exact if_pos (nI_le (b := 100000000) (by omega) (by decide))
    · exact Or.inl ⟨by decide, by decide⟩
  · rcases h' with (⟨rfl, rfl⟩ | ⟨y, y1, rfl, rfl⟩) | ⟨rfl, rfl⟩
    · refine Or.inr ⟨x, x1, ?_, ?_⟩
      · exact if_neg (nI_nlt (a := 1000000) (by omega) (by decide))
      · exact if_neg (show ¬ nI 100000000 ≤ nI x from nI_ge (by omega) (by decide))
    · by_cases c : y < x
      · refine Or.inr ⟨y, y1, ?_, ?_⟩
        · exact if_pos (nI_lt c (by omega))
        · exact if_pos (nI_le (by omega) (by omega))
      · refine Or.inr ⟨x, x1, ?_, ?_⟩
        · exact if_neg (nI_nlt (by omega) (by omega))
        · by_cases c2 : y = x
          · subst c2
            exact if_pos (nI_le (Nat.le_refl y) (by omega))
          · exact if_neg (nI_ge (by omega) (by omega))
    · refine Or.inr ⟨x, x1, ?_, ?_⟩
      · exact if_neg (nI_nlt (a := 1000001) (by omega) (by decide))
      · exact if_neg (show ¬ nI 100000001 ≤ nI x from nI_ge (by omega) (by decide))
theorem FE_1 {B C : Nat} {u v : Int32} (h : FE B u v) (hc : B + 1 ≤ C) : FE C (1 + u) (v + 1) ∨ (1 + u = 1000001 ∧ v + 1 = 100000001) := by
  rcases h with ⟨rfl, rfl⟩ | ⟨x, x1, rfl, rfl⟩
  · exact Or.inr ⟨by decide, by decide⟩
  · refine Or.inl (Or.inr ⟨x + 1, by omega, ?_, nI_1 x⟩)
    rw [Int32.add_comm]
    exact nI_1 x
theorem R_gr (x y : Int32) (s : Mem) : F_R_greater x y s = some (if x < y then y else x, s) := by
  unfold F_R_greater
  by_cases c : x < y
  · rw [if_pos (fa_of_lt c).1, if_pos c]
  · rw [if_neg c]
    by_cases c2 : x ≤ y
    · rw [if_pos c2]
      have : x = y := i_ext (by
        have h1 := (fa_le _ _).mp c2
        have h2 := (fa_le _ _).mp (fa_of_nlt c)
        omega)
      rw [this]
    · rw [if_neg c2]
theorem ntz_y {x y : Int32} (h : (x ^^^ (-1)) &&& (x - 1) = (y ^^^ (-1)) &&& (y - 1)) (s : Mem) : F_JI_numberOfTrailingZeros x s = F_JI_numberOfTrailingZeros y s := by
  simp only [F_JI_numberOfTrailingZeros, h]
set_option maxRecDepth 100000 in
theorem rnT : ∀ t, t < 128 → 0 < t → ∃ k, k < 7 ∧ t.testBit k = true ∧ ((nI t ^^^ (-1)) &&& (nI t - 1) = (nI (2 ^ k) ^^^ (-1)) &&& (nI (2 ^ k) - 1)) ∧ ∀ i, i < 7 → (t &&& (t - 1)).testBit i = (t.testBit i && !(Nat.beq i k)) := by decide +kernel
set_option maxRecDepth 100000 in
theorem rnS : ∀ t, t < 128 → ∀ c, c < 128 → c &&& t = c → t &&& (4294967295 - c) = t ^^^ c ∧ (0 < c → t ^^^ c < t) ∧ (t ^^^ c = 0 → c = t) ∧ ((c - 1) &&& t) &&& t = (c - 1) &&& t := by decide +kernel
theorem n_xor (a b : Nat) : nI a ^^^ nI b = nI (a ^^^ b) := by
  apply b_ext
  intro i hi
  rw [b_xor, n_btA _ _ hi, n_btA _ _ hi, n_btA _ _ hi, Nat.testBit_xor]
/-- the lengths of a set together -/
def smL (L : Nat → Nat) (t : Nat) : Nat → Nat
  | 0 => 0
  | n + 1 => smL L t n + if t.testBit n then L n else 0
theorem smL_0 {L : Nat → Nat} : ∀ n, smL L 0 n = 0
  | 0 => rfl
  | n + 1 => by
    show smL L 0 n + (if (0 : Nat).testBit n then L n else 0) = 0
    rw [smL_0 n, Nat.zero_testBit]
    rfl
theorem smL_c {L : Nat → Nat} {t r k : Nat} (hk : t.testBit k = true) : ∀ n, n ≤ 7 → (∀ i, i < 7 → r.testBit i = (t.testBit i && !(Nat.beq i k))) → smL L t n = smL L r n + if k < n then L k else 0 := by
  intro n
  induction n with
  | zero => intro _ _; rfl
  | succ n ih =>
    intro hn h
    have e := ih (by omega) h
    have hb := h n (by omega)
    show smL L t n + (if t.testBit n then L n else 0) = smL L r n + (if r.testBit n then L n else 0) + _
    rw [e]
    by_cases c : n = k
    · subst c
      rw [hk] at hb ⊢
      have hb : r.testBit n = false := by rw [hb, Nat.beq_refl]; rfl
      rw [hb, if_neg (show ¬ n < n by omega), if_pos (show n < n + 1 by omega)]
      simp
    · have hq : Nat.beq n k = false := by
        cases hq : Nat.beq n k with
        | false => rfl
        | true => exact absurd (Nat.eq_of_beq_eq_true hq) c
      rw [hq] at hb
      have hb : r.testBit n = t.testBit n := by rw [hb]; simp
      rw [hb]
      by_cases d : k < n
      · rw [if_pos d, if_pos (show k < n + 1 by omega)]
        omega
      · rw [if_neg d, if_neg (show ¬ k < n + 1 by omega)]
        omega
/-- what a roll needs for a set -/
def usd (L : Nat → Nat) (n t : Nat) : Nat := pc 16 t - 1 + smL L t n
theorem usM {L : Nat → Nat} {n t : Nat} {b : Mem} (hn : n ≤ 7) (ht : t < 128) (e1 : b 123 57 = nI n) (e2 : ∀ k, k < n → b 154 k = nI (L k)) (c0 : Nat) : ∀ (q k m : Nat), k + q = n → q < m → F_R_usedOf_8 m (nI t) (nI (c0 + smL L t k)) (nI k) b = some (nI (c0 + smL L t n), b) := by
  intro q
  induction q with
  | zero =>
    intro k m hk hm
    obtain ⟨m, rfl⟩ : ∃ m', m = m' + 1 := ⟨m - 1, by omega⟩
    have : k = n := by omega
    subst this
    simp only [F_R_usedOf_8, e1, if_pos (nI_le (Nat.le_refl k) (show k < 2 ^ 31 by omega))]
  | succ q ih =>
    intro k m hk hm
    obtain ⟨m, rfl⟩ : ∃ m', m = m' + 1 := ⟨m - 1, by omega⟩
    have l1 : ld b 154 (nI k) = some (nI (L k)) := (ld_in rfl (show k < 7 by omega) (by decide)).trans (congrArg some (e2 k (by omega)))
    have hi := ih (k + 1) m (by omega) (by omega)
    have hh := R_has (a := t) (k := k) (by omega) (by omega) b
    rw [← hi]
    show _ = F_R_usedOf_8 m (nI t) (nI (c0 + (smL L t k + if t.testBit k then L k else 0))) (nI (k + 1)) b
    by_cases c : t.testBit k = true
    · rw [if_pos c] at hh
      rw [if_pos c]
      simp only [F_R_usedOf_8, e1, if_neg (show ¬ nI n ≤ nI k from nI_ge (by omega) (by omega)), hh, Option.bind_some, one0, if_false, l1, nI_1, nI_add, Nat.add_assoc]
    · rw [if_neg c] at hh
      rw [if_neg c]
      simp only [F_R_usedOf_8, e1, if_neg (show ¬ nI n ≤ nI k from nI_ge (by omega) (by omega)), hh, Option.bind_some, if_true, nI_1, Nat.add_zero]
theorem us_p {L : Nat → Nat} {n t : Nat} {b : Mem} (hn : n ≤ 7) (ht : t < 128) (h0 : 0 < t) (e1 : b 123 57 = nI n) (e2 : ∀ k, k < n → b 154 k = nI (L k)) : F_R_usedOf (nI t) b = some (nI (usd L n t), b) := by
  have hp := (pc_less (a := t) (by omega) h0).1
  have e3 : nI (pc 16 t) - 1 = nI (pc 16 t - 1) := n_sub (b := 1) (by omega)
  have h := usM (L := L) hn ht e1 e2 (pc 16 t - 1) n 0 gF (Nat.zero_add n) (by rw [gF_eq]; omega)
  unfold F_R_usedOf
  rw [R_onesOf (by omega)]
  show F_R_usedOf_8 gF (nI t) (nI (pc 16 t) - 1) 0 b = _
  rw [e3]
  exact h
/-- the class weighs all sets -/
theorem weP {L : Nat → Nat} {n : Nat} (hn : n ≤ 7) : ∀ (q t m : Nat) (a : Mem), t + q = 2 ^ n → 0 < t → q < m → (∀ k, k < n → a 31 k = nI (L k)) → (∀ u, 0 < u → u < t → a 101 u = nI (usd L n u)) → ∃ a', F_D_weigh_2 m (nI (2 ^ n - 1)) (nI t) a = some (0, a') ∧ (∀ u, 0 < u → u < 2 ^ n → a' 101 u = nI (usd L n u)) ∧ ∀ c, c ≠ 101 → a' c = a c := by
  have hp : 2 ^ n ≤ 2 ^ 7 := Nat.pow_le_pow_right (by decide) hn
  have hp : 2 ^ n ≤ 128 := hp
  intro q
  induction q with
  | zero =>
    intro t m a ht h0 hm e1 e2
    obtain ⟨m, rfl⟩ : ∃ m', m = m' + 1 := ⟨m - 1, by omega⟩
    refine ⟨a, ?_, fun u u0 u1 => e2 u u0 (by omega), fun _ _ => rfl⟩
    simp only [F_D_weigh_2, if_pos (show nI (2 ^ n - 1) < nI t from nI_lt (by omega) (by omega))]
  | succ q ih =>
    intro t m a ht h0 hm e1 e2
    obtain ⟨m, rfl⟩ : ∃ m', m = m' + 1 := ⟨m - 1, by omega⟩
    obtain ⟨k, k1, k2, k3, k4⟩ := rnT t (by omega) h0
    have kn : k < n := by
      have h2 := Nat.ge_two_pow_of_testBit k2
      have h3 : 2 ^ k < 2 ^ n := by omega
      exact (Nat.pow_lt_pow_iff_right (by decide)).mp h3
    have nz : F_JI_numberOfTrailingZeros (nI t) a = some (nI k, a) := (ntz_y k3 a).trans (C_ntz2 (by omega) a)
    have wa : F_W_at 30 (nI k) a = some (nI (L k), a) := (W_at (o := 30) (c := 31) (len := 7) rfl rfl rfl rfl (by decide) a k1).trans (by rw [e1 k kn])
    have er : nI t &&& (nI t - 1) = nI (t &&& (t - 1)) := by
      rw [show nI t - 1 = nI (t - 1) from n_sub (b := 1) (by omega), fa_and]
    obtain ⟨p1, p2⟩ := pc_less (a := t) (by omega) h0
    have sm := smL_c (L := L) (r := t &&& (t - 1)) k2 n hn k4
    rw [if_pos kn] at sm
    have wr : ∀ v, sd a 101 (nI t) v = some (mw a 101 t v) := fun v => sd_in rfl (show t < 128 by omega) (by decide)
    have go : ∀ v, v = nI (usd L n t) → ∃ a', F_D_weigh_2 m (nI (2 ^ n - 1)) (nI (t + 1)) (mw a 101 t v) = some (0, a') ∧ (∀ u, 0 < u → u < 2 ^ n → a' 101 u = nI (usd L n u)) ∧ ∀ c, c ≠ 101 → a' c = a c := fun v hv => by
      obtain ⟨a', z1, z2, z3⟩ := ih (t + 1) m (mw a 101 t v) (by omega) (by omega) (by omega) e1 (fun u u0 u1 => by
        by_cases c : u = t
        · rw [c, mw_y, hv]
        · rw [mw_n c]
          exact e2 u u0 (by omega))
      exact ⟨a', z1, z2, fun c hc => by rw [z3 c hc, mw_o hc]⟩
    by_cases c : t &&& (t - 1) = 0
    · have hz : pc 16 t - 1 = 0 := by rw [c, pc_0] at p1; omega
      have sz0 : smL L (t &&& (t - 1)) n = 0 := by
        rw [c]
        exact smL_0 n
      obtain ⟨a', z1, z2⟩ := go (nI (L k) + 0) (by
        unfold usd
        rw [hz, sm, sz0, Int32.add_zero]
        congr 1
        omega)
      refine ⟨a', ?_, z2⟩
      rw [← z1]
      simp only [F_D_weigh_2, if_neg (show ¬ nI (2 ^ n - 1) < nI t from nI_nlt (by omega) (by omega)), nz, Option.bind_some, wa, er, if_pos (show nI (t &&& (t - 1)) = 0 from by rw [c]; rfl), wr, nI_1]
    · have l1 : ld a 101 (nI (t &&& (t - 1))) = some (nI (usd L n (t &&& (t - 1)))) := (ld_in rfl (show t &&& (t - 1) < 128 by omega) (by decide)).trans (congrArg some (e2 _ (by omega) p2))
      have pp := (pc_less (a := t &&& (t - 1)) (by omega) (by omega)).1
      obtain ⟨a', z1, z2⟩ := go (nI (L k) + (1 + nI (usd L n (t &&& (t - 1))))) (by
        rw [show (1 : Int32) = nI 1 from rfl, nI_add, nI_add]
        congr 1
        unfold usd
        omega)
      refine ⟨a', ?_, z2⟩
      rw [← z1]
      simp only [F_D_weigh_2, if_neg (show ¬ nI (2 ^ n - 1) < nI t from nI_nlt (by omega) (by omega)), nz, Option.bind_some, wa, er, if_neg (show ¬ nI (t &&& (t - 1)) = 0 from nI_ne0 (by omega) (by omega)), l1, wr, nI_1]
