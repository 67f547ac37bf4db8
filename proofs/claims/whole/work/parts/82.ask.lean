/-! ===== what the law tells ===== -/
def gC (cc fa : Nat → Int32) (p q : Nat) : Int32 := match exC cc fa (q - p) p [] with
  | some [v] => v
  | _ => 0
theorem gC_of {cc op ar : Nat → Int32} {p q p' q' : Nat} (h : codeEq cc op ar p q p' q') (fa : Nat → Int32) : exC cc fa (q - p) p [] = some [gC cc fa p q] ∧ exM op ar fa (q' - p') p' [] = some [gC cc fa p q] := by
  obtain ⟨v, h1, h2⟩ := h fa
  have e : gC cc fa p q = v := by
    unfold gC
    rw [h1]
  rw [e]
  exact ⟨h1, h2⟩
theorem stC_c {cc fa fb : Nat → Int32} (h : ∀ k, k < 11 → fa k = fb k) (i : Nat) (st : List Int32) : stC cc fa i st = stC cc fb i st := by
  unfold stC
  by_cases h0 : cc i &&& 15 = 0
  · rw [if_pos h0, if_pos h0]
  · rw [if_neg h0, if_neg h0]
    by_cases h1 : cc i &&& 15 = 1
    · rw [if_pos h1, if_pos h1]
      by_cases hc : st.length < 32 ∧ 0 ≤ shr (cc i) 4 ∧ shr (cc i) 4 < 11
      · rw [if_pos hc, if_pos hc, h]
        have x1 : ¬ shr (cc i) 4 < 0 := by
          have := hc.2.1
          rw [fa_le] at this
          rw [fa_lt]
          omega
        obtain ⟨j, hj, ej⟩ := nI_of x1
        have := hc.2.2
        rw [ej, show (11 : Int32) = nI 11 from rfl, nI_ltI hj (by decide)] at this
        rw [ej, nI_clamp hj]
        exact this
      · rw [if_neg hc, if_neg hc]
    · rw [if_neg h1, if_neg h1]
theorem exC_c {cc fa fb : Nat → Int32} (h : ∀ k, k < 11 → fa k = fb k) : ∀ (n i : Nat) (st : List Int32), exC cc fa n i st = exC cc fb n i st
  | 0, _, _ => rfl
  | n + 1, i, st => by
    simp only [exC, stC_c h i st]
    congr 1
    funext t
    exact exC_c h n (i + 1) t
theorem gC_c {cc fa fb : Nat → Int32} (h : ∀ k, k < 11 → fa k = fb k) (p q : Nat) : gC cc fa p q = gC cc fb p q := by
  unfold gC
  rw [exC_c h]
def unW (w : Int32) (fa : Nat → Int32) : Int32 := if w = 0 then fa 0 + 5 * fa 1 + 50 * fa 2 - 300 * fa 4 else 1
def mostW (w : Int32) : Int32 := if w = 0 then 1000 else if w = 1 then 99 else 9
def hold (v m : Int32) : Int32 := if v < 0 then 0 else if m < v then m else v
/-- a line that holds, from its four marks -/
def lnC (a : Mem) (fa : Nat → Int32) (w : Int32) (l : Nat) : Prop := a 9 l = w ∧ (a 12 l ≤ a 11 l ∨ ¬ gC (a 8) fa (a 11 l).toNatClampNeg (a 12 l).toNatClampNeg = 0)
theorem lnC_d (a : Mem) (fa : Nat → Int32) (w : Int32) (l : Nat) : lnC a fa w l ∨ ¬ lnC a fa w l := Classical.em _
/-- the first line that holds: l, or none -/
def fstL (a : Mem) (fa : Nat → Int32) (w : Int32) (n l : Nat) (x : Option Nat) : Prop := match x with
  | none => ∀ j, l ≤ j → j < n → ¬ lnC a fa w j
  | some k => l ≤ k ∧ k < n ∧ lnC a fa w k ∧ ∀ j, l ≤ j → j < k → ¬ lnC a fa w j
def askV (a : Mem) (fa : Nat → Int32) (w : Int32) (x : Option Nat) : Int32 := match x with
  | none => unW w fa
  | some k => gC (a 8) fa (a 10 k).toNatClampNeg (a 11 k).toNatClampNeg
theorem fst_ex (a : Mem) (fa : Nat → Int32) (w : Int32) (n : Nat) : ∀ (q l : Nat), l + q = n → ∃ x, fstL a fa w n l x
  | 0, l, h => ⟨none, fun j h1 h2 => by omega⟩
  | q + 1, l, h => by
    rcases lnC_d a fa w l with c | c
    · exact ⟨some l, Nat.le_refl l, by omega, c, fun j h1 h2 => by omega⟩
    · obtain ⟨x, hx⟩ := fst_ex a fa w n q (l + 1) (by omega)
      refine ⟨x, ?_⟩
      cases x with
      | none =>
        intro j h1 h2
        by_cases e : j = l
        · rw [e]; exact c
        · exact hx j (by omega) h2
      | some k =>
        obtain ⟨k1, k2, k3, k4⟩ := hx
        refine ⟨by omega, k2, k3, fun j h1 h2 => ?_⟩
        by_cases e : j = l
        · rw [e]; exact c
        · exact k4 j (by omega) h2
theorem L_held (w v : Int32) (hw : w = 0 ∨ w = 1 ∨ w = 2) (s : Mem) : F_L_held w v s = some (hold v (mostW w), s) := by
  have key : ∀ m : Int32, 0 ≤ m.toInt → (if (0 : Int32) < (if m < v then m else v) then (if m < v then m else v) else 0) = hold v m := by
    intro m hm
    unfold hold
    by_cases c1 : v < 0
    · rw [if_pos c1]
      rw [fa_lt] at c1
      have c1 : v.toInt < 0 := c1
      rw [if_neg (show ¬ m < v by rw [fa_lt]; omega), if_neg (by rw [fa_lt]; show ¬ (0 : Int) < v.toInt; omega)]
    · rw [if_neg c1]
      rw [fa_lt] at c1
      have c1 : ¬ v.toInt < 0 := c1
      by_cases c2 : m < v
      · rw [if_pos c2]
        by_cases c3 : (0 : Int32) < m
        · rw [if_pos c3]
        · rw [if_neg c3]
          rw [fa_lt] at c3
          have c3 : ¬ (0 : Int) < m.toInt := c3
          exact i_ext (show (0 : Int) = m.toInt by omega)
      · rw [if_neg c2]
        by_cases c3 : (0 : Int32) < v
        · rw [if_pos c3]
        · rw [if_neg c3]
          rw [fa_lt] at c3
          have c3 : ¬ (0 : Int) < v.toInt := c3
          exact i_ext (show (0 : Int) = v.toInt by omega)
  rcases hw with rfl | rfl | rfl
  · simp only [F_L_held, if_true, C_min, C_max, Option.bind_some, mostW, key 1000 (by decide)]
  · simp only [F_L_held, one0, if_false, if_true, C_min, C_max, Option.bind_some, mostW, key 99 (by decide)]
  · simp only [F_L_held, c20, c21, if_false, C_min, C_max, Option.bind_some, mostW, key 9 (by decide)]
theorem R_held (v m : Int32) (s : Mem) : F_R_held v 0 m s = some (hold v m, s) := by
  unfold F_R_held hold
  by_cases c1 : v < 0
  · rw [if_pos c1, if_neg (by rw [fa_lt] at c1; rw [fa_le]; omega)]
  · rw [if_neg c1, if_pos (by rw [fa_lt] at c1; rw [fa_le]; omega)]
    by_cases c2 : m < v
    · rw [if_pos c2, if_neg (by rw [fa_lt] at c2; rw [fa_le]; omega)]
    · rw [if_neg c2, if_pos (by rw [fa_lt] at c2; rw [fa_le]; omega)]
theorem L_unw (w : Int32) (s : Mem) : F_L_unwritten w s = some (unW w (s 13), s) := by
  have l0 : ld s 13 0 = some (s 13 0) := ld_in (k := 0) rfl (by decide) (by decide)
  have l1 : ld s 13 1 = some (s 13 1) := ld_in (k := 1) rfl (by decide) (by decide)
  have l2 : ld s 13 2 = some (s 13 2) := ld_in (k := 2) rfl (by decide) (by decide)
  have l4 : ld s 13 4 = some (s 13 4) := ld_in (k := 4) rfl (by decide) (by decide)
  unfold F_L_unwritten unW
  by_cases c : w = 0
  · simp only [if_pos c, l0, l1, l2, l4, Option.bind_some]
  · simp only [if_neg c]
/-- the law, as the class asks it -/
theorem askC {s b : Mem} {n : Nat} {w : Int32} (hw : w = 0 ∨ w = 1 ∨ w = 2) (hn : n ≤ 16) (e : s 7 6 = nI n) (hl : ∀ l, l < n → lineR s b l) : ∀ (q l m : Nat) (g0 : Nat → Int32) (x : Option Nat), l + q = n → q < m → fstL s (s 13) w n l x → ∃ g, F_L_ask_9 m w (nI l) (rp s 14 g0) = some (hold (askV s (s 13) w x) (mostW w), rp s 14 g) := by
  intro q
  induction q with
  | zero =>
    intro l m g0 x hq hm hx
    obtain ⟨m, rfl⟩ : ∃ m', m = m' + 1 := ⟨m - 1, by omega⟩
    have : l = n := by omega
    subst this
    cases x with
    | some k => exact absurd hx.2.1 (by have := hx.1; omega)
    | none =>
      refine ⟨g0, ?_⟩
      have e' : (rp s 14 g0) 7 6 = nI l := e
      simp only [F_L_ask_9, e', if_pos (nI_le (Nat.le_refl l) (show l < 2 ^ 31 by omega)), L_unw, Option.bind_some, L_held _ _ hw]
      rfl
  | succ q ih =>
    intro l m g0 x hq hm hx
    obtain ⟨m, rfl⟩ : ∃ m', m = m' + 1 := ⟨m - 1, by omega⟩
    have e' : (rp s 14 g0) 7 6 = nI n := e
    obtain ⟨h9, h9v, p, q1, r, p', q', r', a1, a2, a3, a4, a5, a6, b1, b2, b3, b4, b5, b6, c1, c2, c3⟩ := hl l (by omega)
    have k9 : ∀ g, ld (rp s 14 g) 9 (nI l) = some (s 9 l) := fun g => ld_in rfl (show l < 16 by omega) (by decide)
    have k10 : ∀ g, ld (rp s 14 g) 10 (nI l) = some (nI p) := fun g => (ld_in rfl (show l < 16 by omega) (by decide)).trans (congrArg some a1)
    have k11 : ∀ g, ld (rp s 14 g) 11 (nI l) = some (nI q1) := fun g => (ld_in rfl (show l < 16 by omega) (by decide)).trans (congrArg some a2)
    have k12 : ∀ g, ld (rp s 14 g) 12 (nI l) = some (nI r) := fun g => (ld_in rfl (show l < 16 by omega) (by decide)).trans (congrArg some a3)
    have t10 : (s 10 l).toNatClampNeg = p := by rw [a1, nI_clamp (by omega)]
    have t11 : (s 11 l).toNatClampNeg = q1 := by rw [a2, nI_clamp (by omega)]
    have t12 : (s 12 l).toNatClampNeg = r := by rw [a3, nI_clamp (by omega)]
    have hle : (s 12 l ≤ s 11 l) ↔ q1 = r := by
      rw [a2, a3, nI_leI (by omega) (by omega)]
      omega
    have hrunE : ∀ g, ∃ g', F_L_run (nI p) (nI q1) (rp s 14 g) = some (gC (s 8) (s 13) p q1, rp s 14 g') := by
      intro g
      obtain ⟨g', hg'⟩ := L_run (s := rp s 14 g) (p := p) (q := q1) (v := gC (s 8) (s 13) p q1) (by omega) a4 (gC_of c1 (s 13)).1
      exact ⟨g', by rw [hg', rp_rp]⟩
    have n1 : ¬ nI n ≤ nI l := nI_ge (by omega) (by omega)
    have n2 : ¬ (16 : Int32) ≤ nI l := nI_ge (b := 16) (by omega) (by decide)
    have skip : ¬ lnC s (s 13) w l → fstL s (s 13) w n (l + 1) x := by
      intro hno
      cases x with
      | none => exact fun j h1 h2 => hx j (by omega) h2
      | some k =>
        obtain ⟨k1, k2, k3, k4⟩ := hx
        have : k ≠ l := fun q => hno (q ▸ k3)
        exact ⟨by omega, k2, k3, fun j h1 h2 => k4 j (by omega) h2⟩
    have take : lnC s (s 13) w l → askV s (s 13) w x = gC (s 8) (s 13) p q1 := by
      intro hy
      cases x with
      | none => exact absurd hy (hx l (Nat.le_refl l) (by omega))
      | some k =>
        obtain ⟨k1, k2, k3, k4⟩ := hx
        have : k = l := by
          apply Classical.byContradiction
          intro hc
          exact k4 l (Nat.le_refl l) (by omega) hy
        subst this
        show gC (s 8) (s 13) (s 10 k).toNatClampNeg (s 11 k).toNatClampNeg = _
        rw [t10, t11]
    by_cases hwd : s 9 l = w
    · by_cases hqr : q1 = r
      · have hy : lnC s (s 13) w l := ⟨hwd, Or.inl (hle.mpr hqr)⟩
        obtain ⟨g', hg'⟩ := hrunE g0
        refine ⟨g', ?_⟩
        rw [take hy]
        simp only [F_L_ask_9, e', if_neg n1, if_neg n2, k9, k10, k11, k12, Option.bind_some, if_pos hwd, if_pos (show nI r ≤ nI q1 from nI_le (by omega) (by omega)), hg', L_held _ _ hw]
      · have c3 := c3 (by omega)
        obtain ⟨g1, hg1⟩ := L_run (s := rp s 14 g0) (p := q1) (q := r) (v := gC (s 8) (s 13) q1 r) (by omega) a5 (gC_of c3 (s 13)).1
        rw [rp_rp] at hg1
        by_cases hz : gC (s 8) (s 13) q1 r = 0
        · have hno : ¬ lnC s (s 13) w l := by
            rintro ⟨-, h1 | h1⟩
            · exact hqr (hle.mp h1)
            · rw [t11, t12] at h1
              exact h1 hz
          obtain ⟨g', hg'⟩ := ih (l + 1) m g1 x (by omega) (by omega) (skip hno)
          refine ⟨g', ?_⟩
          simp only [F_L_ask_9, e', if_neg n1, if_neg n2, k9, k10, k11, k12, Option.bind_some, if_pos hwd, if_neg (show ¬ nI r ≤ nI q1 from nI_ge (by omega) (by omega)), hg1, if_pos hz, nI_1]
          exact hg'
        · have hy : lnC s (s 13) w l := ⟨hwd, Or.inr (by rw [t11, t12]; exact hz)⟩
          obtain ⟨g', hg'⟩ := hrunE g1
          refine ⟨g', ?_⟩
          rw [take hy]
          simp only [F_L_ask_9, e', if_neg n1, if_neg n2, k9, k10, k11, k12, Option.bind_some, if_pos hwd, if_neg (show ¬ nI r ≤ nI q1 from nI_ge (by omega) (by omega)), hg1, if_neg hz, hg', L_held _ _ hw]
    · have hno : ¬ lnC s (s 13) w l := fun z => hwd z.1
      obtain ⟨g', hg'⟩ := ih (l + 1) m g0 x (by omega) (by omega) (skip hno)
      refine ⟨g', ?_⟩
      simp only [F_L_ask_9, e', if_neg n1, if_neg n2, k9, Option.bind_some, if_neg hwd, nI_1]
      exact hg'
/-- the law, as the reference asks it -/
theorem lofM {a t : Mem} {fa : Nat → Int32} {n : Nat} {w : Int32} (hn : n ≤ 16) (e : t 132 0 = nI n) (hl : ∀ l, l < n → lineR a t l) (hfa : ∀ k, k < 11 → fa k = t 143 k) : ∀ (q l m : Nat) (g0 : Nat → Int32) (x : Option Nat), l + q = n → q < m → fstL a fa w n l x → ∃ g, F_R_lineOf_2 m w (nI l) (rp t 144 g0) = some ((match x with
    | none => -1
    | some k => nI k), rp t 144 g) := by
  intro q
  induction q with
  | zero =>
    intro l m g0 x hq hm hx
    obtain ⟨m, rfl⟩ : ∃ m', m = m' + 1 := ⟨m - 1, by omega⟩
    have : l = n := by omega
    subst this
    cases x with
    | some k => exact absurd hx.2.1 (by have := hx.1; omega)
    | none =>
      refine ⟨g0, ?_⟩
      have e' : ld (rp t 144 g0) 132 0 = some (nI l) := (ld_in (k := 0) rfl (by decide) (by decide)).trans (congrArg some e)
      simp only [F_R_lineOf_2, e', Option.bind_some, if_pos (nI_le (Nat.le_refl l) (show l < 2 ^ 31 by omega))]
  | succ q ih =>
    intro l m g0 x hq hm hx
    obtain ⟨m, rfl⟩ : ∃ m', m = m' + 1 := ⟨m - 1, by omega⟩
    have e' : ld (rp t 144 g0) 132 0 = some (nI n) := (ld_in (k := 0) rfl (by decide) (by decide)).trans (congrArg some e)
    obtain ⟨h9, h9v, p, q1, r, p', q', r', a1, a2, a3, a4, a5, a6, b1, b2, b3, b4, b5, b6, c1, c2, c3⟩ := hl l (by omega)
    have k9 : ld (rp t 144 g0) 133 (nI l) = some (a 9 l) := (ld_in rfl (show l < 48 by omega) (by decide)).trans (congrArg some h9)
    have k11 : ld (rp t 144 g0) 135 (nI l) = some (nI q') := (ld_in rfl (show l < 48 by omega) (by decide)).trans (congrArg some b2)
    have k12 : ld (rp t 144 g0) 136 (nI l) = some (nI r') := (ld_in rfl (show l < 48 by omega) (by decide)).trans (congrArg some b3)
    have t11 : (a 11 l).toNatClampNeg = q1 := by rw [a2, nI_clamp (by omega)]
    have t12 : (a 12 l).toNatClampNeg = r := by rw [a3, nI_clamp (by omega)]
    have hle : (a 12 l ≤ a 11 l) ↔ q1 = r := by
      rw [a2, a3, nI_leI (by omega) (by omega)]
      omega
    have n1 : ¬ nI n ≤ nI l := nI_ge (by omega) (by omega)
    have skip : ¬ lnC a fa w l → fstL a fa w n (l + 1) x := by
      intro hno
      cases x with
      | none => exact fun j h1 h2 => hx j (by omega) h2
      | some k =>
        obtain ⟨k1, k2, k3, k4⟩ := hx
        have : k ≠ l := fun q => hno (q ▸ k3)
        exact ⟨by omega, k2, k3, fun j h1 h2 => k4 j (by omega) h2⟩
    have take : lnC a fa w l → x = some l := by
      intro hy
      cases x with
      | none => exact absurd hy (hx l (Nat.le_refl l) (by omega))
      | some k =>
        obtain ⟨k1, k2, k3, k4⟩ := hx
        have : k = l := by
          apply Classical.byContradiction
          intro hc
          exact k4 l (Nat.le_refl l) (by omega) hy
        rw [this]
    have heq : (nI q' = nI r') ↔ q1 = r := by
      rw [nI_eq (by omega) (by omega)]
      exact c2.symm
    by_cases hwd : a 9 l = w
    · by_cases hqr : q1 = r
      · have hy : lnC a fa w l := ⟨hwd, Or.inl (hle.mpr hqr)⟩
        rw [take hy]
        refine ⟨g0, ?_⟩
        simp only [F_R_lineOf_2, e', if_neg n1, k9, k11, k12, Option.bind_some, if_pos hwd, if_pos (heq.mpr hqr)]
      · have c3 := c3 (by omega)
        obtain ⟨g1, hg1⟩ := R_run (s := rp t 144 g0) (p := q') (q := r') (v := gC (a 8) (t 143) q1 r) (by omega) b5 (gC_of c3 (t 143)).2
        rw [rp_rp, gC_c (fun k hk => (hfa k hk).symm)] at hg1
        by_cases hz : gC (a 8) fa q1 r = 0
        · have hno : ¬ lnC a fa w l := by
            rintro ⟨-, h1 | h1⟩
            · exact hqr (hle.mp h1)
            · rw [t11, t12] at h1
              exact h1 hz
          obtain ⟨g', hg'⟩ := ih (l + 1) m g1 x (by omega) (by omega) (skip hno)
          refine ⟨g', ?_⟩
          simp only [F_R_lineOf_2, e', if_neg n1, k9, k11, k12, Option.bind_some, if_pos hwd, if_neg (fun z => hqr (heq.mp z)), hg1, if_pos hz, nI_1]
          exact hg'
        · have hy : lnC a fa w l := ⟨hwd, Or.inr (by rw [t11, t12]; exact hz)⟩
          rw [take hy]
          refine ⟨g1, ?_⟩
          simp only [F_R_lineOf_2, e', if_neg n1, k9, k11, k12, Option.bind_some, if_pos hwd, if_neg (fun z => hqr (heq.mp z)), hg1, if_neg hz]
    · have hno : ¬ lnC a fa w l := fun z => hwd z.1
      obtain ⟨g', hg'⟩ := ih (l + 1) m g0 x (by omega) (by omega) (skip hno)
      refine ⟨g', ?_⟩
      simp only [F_R_lineOf_2, e', if_neg n1, k9, Option.bind_some, if_neg hwd, nI_1]
      exact hg'
theorem askM {a t : Mem} {fa : Nat → Int32} {n : Nat} {w : Int32} (hn : n ≤ 16) (e : t 132 0 = nI n) (hl : ∀ l, l < n → lineR a t l) (hfa : ∀ k, k < 11 → fa k = t 143 k) {x : Option Nat} (hx : fstL a fa w n 0 x) (m : Int32) : ∃ g, F_R_lawTells w (unW w fa) m t = some (hold (askV a fa w x) m, rp t 144 g) := by
  obtain ⟨g, hg⟩ := lofM hn e hl hfa n 0 gF (t 144) x (Nat.zero_add n) (by rw [gF_eq]; omega) hx
  rw [rp_id] at hg
  cases x with
  | none =>
    have hlo : F_R_lineOf w t = some (-1, rp t 144 g) := hg
    refine ⟨g, ?_⟩
    simp only [F_R_lawTells, hlo, Option.bind_some, if_true, R_held]
    rfl
  | some k =>
    have hlo : F_R_lineOf w t = some (nI k, rp t 144 g) := hg
    obtain ⟨-, hk, -, -⟩ := hx
    obtain ⟨h9, h9v, p, q1, r, p', q', r', a1, a2, a3, a4, a5, a6, b1, b2, b3, b4, b5, b6, c1, c2, c3⟩ := hl k hk
    have k10 : ld (rp t 144 g) 134 (nI k) = some (nI p') := (ld_in rfl (show k < 48 by omega) (by decide)).trans (congrArg some b1)
    have k11 : ld (rp t 144 g) 135 (nI k) = some (nI q') := (ld_in rfl (show k < 48 by omega) (by decide)).trans (congrArg some b2)
    obtain ⟨g1, hg1⟩ := R_run (s := rp t 144 g) (p := p') (q := q') (v := gC (a 8) (t 143) p q1) (by omega) b4 (gC_of c1 (t 143)).2
    rw [rp_rp, gC_c (fun k hk => (hfa k hk).symm)] at hg1
    refine ⟨g1, ?_⟩
    have hne : ¬ nI k = -1 := by
      intro z
      have := congrArg Int32.toInt z
      rw [nI_toInt (by omega), show (-1 : Int32).toInt = -1 from rfl] at this
      omega
    simp only [F_R_lawTells, hlo, Option.bind_some, if_neg hne, k10, k11, hg1, R_held, askV]
    rw [a1, a2, nI_clamp (by omega), nI_clamp (by omega)]
