/-! ===== roster: the best of sets ===== -/
def kyR (X : Nat) : Nat := pc 16 X * 65536 + (65535 - X)
/-- the best of some sets; none: -1 -/
def BsR (V : Nat → Prop) (v : Int32) : Prop := (∀ X, V X → X < 65536) ∧ ((v = -1 ∧ ∀ X, ¬ V X) ∨ ∃ X, v = nI X ∧ V X ∧ ∀ Y, V Y → kyR Y ≤ kyR X)
theorem pc_16 (X : Nat) : pc 16 X ≤ 16 := fb_ct_le _ 16
theorem BsR_e {V W : Nat → Prop} {v : Int32} (h : BsR V v) (e : ∀ X, V X ↔ W X) : BsR W v := by
  obtain ⟨h1, h2⟩ := h
  refine ⟨fun X hX => h1 X ((e X).mpr hX), ?_⟩
  rcases h2 with ⟨v1, v2⟩ | ⟨X, x1, x2, x3⟩
  · exact Or.inl ⟨v1, fun X hX => v2 X ((e X).mpr hX)⟩
  · exact Or.inr ⟨X, x1, (e X).mp x2, fun Y hY => x3 Y ((e Y).mpr hY)⟩
theorem nI_m1 {X : Nat} (h : X < 2 ^ 31) : ¬ nI X = -1 := fun q => by
  have q2 := congrArg Int32.toInt q
  rw [nI_toInt h] at q2
  have : (-1 : Int32).toInt = -1 := rfl
  omega
theorem BsR_u {V : Nat → Prop} {v v' : Int32} (h : BsR V v) (h' : BsR V v') : v = v' := by
  obtain ⟨h1, h2⟩ := h
  obtain ⟨-, h3⟩ := h'
  rcases h2 with ⟨v1, v2⟩ | ⟨X, x1, x2, x3⟩
  · rcases h3 with ⟨w1, -⟩ | ⟨Y, y1, y2, y3⟩
    · rw [v1, w1]
    · exact absurd y2 (v2 Y)
  · rcases h3 with ⟨w1, w2⟩ | ⟨Y, y1, y2, y3⟩
    · exact absurd x2 (w2 X)
    · have a1 := x3 Y y2
      have a2 := y3 X x2
      have a3 := h1 X x2
      have a4 := h1 Y y2
      have : X = Y := by
        unfold kyR at a1 a2
        omega
      rw [x1, y1, this]
theorem BsR_0 {V : Nat → Prop} (h : ∀ X, ¬ V X) : BsR V (-1) := ⟨fun X hX => absurd hX (h X), Or.inl ⟨rfl, h⟩⟩
set_option maxRecDepth 100000 in
theorem sbT : ∀ p, p < 17 → ∀ q, q < 17 → (nI p - nI q = 0 ↔ p = q) ∧ (nI p - nI q ≤ 0 ↔ p ≤ q) := by decide +kernel
theorem btE {X Y : Nat} (hX : X < 65536) (hY : Y < 65536) (s : Mem) : F_U_betterSet (nI X) (nI Y) s = some (nI (if kyR Y ≤ kyR X then X else Y), s) := by
  obtain ⟨t1, t2⟩ := sbT (pc 16 X) (by have := pc_16 X; omega) (pc 16 Y) (by have := pc_16 Y; omega)
  have e : F_U_betterSet (nI X) (nI Y) s = if nI (pc 16 X) - nI (pc 16 Y) = 0 then (F_JM_min (nI X) (nI Y) s).bind fun z5 => some (z5.1, z5.2) else if nI (pc 16 X) - nI (pc 16 Y) ≤ 0 then some (nI Y, s) else some (nI X, s) := by
    rw [F_U_betterSet, if_neg (nI_m1 (show X < 2 ^ 31 by omega)), if_neg (nI_m1 (show Y < 2 ^ 31 by omega)), bind_s (C_bitCount hX s), bind_s (C_bitCount hY s)]
  rw [e]
  have k1 : kyR X = pc 16 X * 65536 + (65535 - X) := rfl
  have k2 : kyR Y = pc 16 Y * 65536 + (65535 - Y) := rfl
  by_cases c : pc 16 X = pc 16 Y
  · rw [if_pos (t1.mpr c), C_min, Option.bind_some]
    by_cases c2 : Y < X
    · rw [if_pos (nI_lt c2 (by omega)), if_neg (by omega)]
    · rw [if_neg (nI_nlt (by omega) (by omega)), if_pos (by omega)]
  · rw [if_neg (fun q => c (t1.mp q))]
    by_cases c2 : pc 16 X ≤ pc 16 Y
    · rw [if_pos (t2.mpr c2), if_neg (by omega)]
    · rw [if_neg (fun q => c2 (t2.mp q)), if_pos (by omega)]
theorem bs_U {V W R : Nat → Prop} {u v : Int32} (h : BsR V u) (k : BsR W v) (e : ∀ X, R X ↔ V X ∨ W X) (s : Mem) : ∃ r, F_U_betterSet u v s = some (r, s) ∧ BsR R r := by
  obtain ⟨h1, h2⟩ := h
  obtain ⟨k1, k2⟩ := k
  have r1 : ∀ X, R X → X < 65536 := fun X hX => by
    rcases (e X).mp hX with q | q
    · exact h1 X q
    · exact k1 X q
  rcases h2 with ⟨rfl, v2⟩ | ⟨X, rfl, x2, x3⟩
  · rcases k2 with ⟨rfl, w2⟩ | ⟨Y, rfl, y2, y3⟩
    · refine ⟨-1, ?_, r1, Or.inl ⟨rfl, fun X hX => ?_⟩⟩
      · simp only [F_U_betterSet, if_true, C_max, ite_self, Option.bind_some]
      · rcases (e X).mp hX with q | q
        · exact v2 X q
        · exact w2 X q
    · have hY := k1 Y y2
      refine ⟨nI Y, ?_, r1, Or.inr ⟨Y, rfl, (e Y).mpr (Or.inr y2), fun Z hZ => ?_⟩⟩
      · have : (-1 : Int32) < nI Y := (fa_lt _ _).mpr (by
          rw [nI_toInt (by omega)]
          have : (-1 : Int32).toInt = -1 := rfl
          omega)
        simp only [F_U_betterSet, if_true, C_max, if_pos this, Option.bind_some]
      · rcases (e Z).mp hZ with q | q
        · exact absurd q (v2 Z)
        · exact y3 Z q
  · have hX := h1 X x2
    rcases k2 with ⟨rfl, w2⟩ | ⟨Y, rfl, y2, y3⟩
    · refine ⟨nI X, ?_, r1, Or.inr ⟨X, rfl, (e X).mpr (Or.inl x2), fun Z hZ => ?_⟩⟩
      · have : ¬ nI X < (-1 : Int32) := fun q => by
          have q := (fa_lt _ _).mp q
          rw [nI_toInt (by omega)] at q
          have : (-1 : Int32).toInt = -1 := rfl
          omega
        simp only [F_U_betterSet, if_neg (nI_m1 (show X < 2 ^ 31 by omega)), if_true, C_max, if_neg this, Option.bind_some]
      · rcases (e Z).mp hZ with q | q
        · exact x3 Z q
        · exact absurd q (w2 Z)
    · have hY := k1 Y y2
      refine ⟨nI (if kyR Y ≤ kyR X then X else Y), btE hX hY s, r1, Or.inr ⟨_, rfl, ?_, fun Z hZ => ?_⟩⟩
      · split
        · exact (e X).mpr (Or.inl x2)
        · exact (e Y).mpr (Or.inr y2)
      · rcases (e Z).mp hZ with q | q
        · have := x3 Z q
          split <;> omega
        · have := y3 Z q
          split <;> omega
theorem or_add {Y m : Nat} (h : Y < 2 ^ m) : Y ||| 2 ^ m = Y + 2 ^ m := by
  have := Nat.two_pow_add_eq_or_of_lt h 1
  rw [Nat.mul_one] at this
  rw [Nat.or_comm, ← this, Nat.add_comm]
theorem tb_hi {Y m : Nat} (h : Y < 2 ^ m) : Y.testBit m = false := Nat.testBit_lt_two_pow h
theorem ky_or {Y m : Nat} (hm : m < 16) (h : Y < 2 ^ m) : kyR (Y ||| 2 ^ m) + 2 ^ m = kyR Y + 65536 ∧ Y ||| 2 ^ m < 65536 := by
  have h2 : 2 ^ m * 2 ≤ 2 ^ 16 := by
    rw [← Nat.pow_succ]
    exact Nat.pow_le_pow_right (by decide) (by omega)
  have h2 : 2 ^ m * 2 ≤ 65536 := h2
  have e := or_add h
  have p := pc_set hm (tb_hi h)
  unfold kyR
  rw [p, e]
  omega
theorem BsR_or {V W : Nat → Prop} {m : Nat} {v : Int32} (hm : m < 16) (h : BsR V v) (hv : ¬ v = -1) (hV : ∀ X, V X → X < 2 ^ m) (e : ∀ X, W X ↔ ∃ Y, V Y ∧ X = Y ||| 2 ^ m) : BsR W (v ||| shl 1 (nI m)) := by
  obtain ⟨h1, h2⟩ := h
  rcases h2 with ⟨v1, -⟩ | ⟨X, x1, x2, x3⟩
  · exact absurd v1 hv
  · refine ⟨fun Z hZ => ?_, Or.inr ⟨X ||| 2 ^ m, ?_, (e _).mpr ⟨X, x2, rfl⟩, fun Z hZ => ?_⟩⟩
    · obtain ⟨Y, y1, rfl⟩ := (e Z).mp hZ
      exact (ky_or hm (hV Y y1)).2
    · rw [x1, n_shl1 (by omega), fa_or]
    · obtain ⟨Y, y1, rfl⟩ := (e Z).mp hZ
      have a1 := (ky_or hm (hV Y y1)).1
      have a2 := (ky_or hm (hV X x2)).1
      have a3 := x3 Y y1
      omega
/-! how many are behind the last on watch; s or more: too many were -/
def gsR (pr : Nat → Bool) (s X : Nat) : Nat → Nat
  | 0 => 0
  | m + 1 => if s ≤ gsR pr s X m then gsR pr s X m else if (pr m && !X.testBit m) = true then 0 else gsR pr s X m + 1
def VG (pr : Nat → Bool) (s m g X : Nat) : Prop := X < 2 ^ m ∧ (∀ i, X.testBit i = true → pr i = true) ∧ gsR pr s X m = g
theorem gsR_c {pr : Nat → Bool} {s X Y : Nat} : ∀ m, (∀ i, i < m → X.testBit i = Y.testBit i) → gsR pr s X m = gsR pr s Y m
  | 0, _ => rfl
  | m + 1, h => by
    have e := gsR_c (pr := pr) (s := s) m (fun i hi => h i (by omega))
    show (if s ≤ gsR pr s X m then gsR pr s X m else if (pr m && !X.testBit m) = true then 0 else gsR pr s X m + 1) = (if s ≤ gsR pr s Y m then gsR pr s Y m else if (pr m && !Y.testBit m) = true then 0 else gsR pr s Y m + 1)
    rw [e, h m (by omega)]
/-- the sets that come to a step with so many behind -/
def TV (pr : Nat → Bool) (s m g X : Nat) : Prop := (pr m = true ∧ ∃ Y, VG pr s m g Y ∧ X = Y ||| 2 ^ m) ∨ (pr m = false ∧ VG pr s m g X)
theorem lt_pow_s {X m : Nat} (h : X < 2 ^ (m + 1)) (hb : X.testBit m = false) : X < 2 ^ m := by
  rcases Nat.lt_or_ge X (2 ^ m) with q | q
  · exact q
  · rw [Nat.pow_succ] at h
    have e : X / 2 ^ m = 1 := Nat.div_eq_of_lt_le (by omega) (by omega)
    rw [Nat.testBit_eq_decide_div_mod_eq, e] at hb
    exact absurd hb (by decide)
theorem vg_0 {pr : Nat → Bool} {s m X : Nat} (hs : 1 ≤ s) : VG pr s (m + 1) 0 X ↔ pr m = true ∧ ∃ g, g < s ∧ VG pr s m g X := by
  have eg : gsR pr s X (m + 1) = if s ≤ gsR pr s X m then gsR pr s X m else if (pr m && !X.testBit m) = true then 0 else gsR pr s X m + 1 := rfl
  constructor
  · rintro ⟨h1, h2, h3⟩
    rw [eg] at h3
    by_cases c : s ≤ gsR pr s X m
    · rw [if_pos c] at h3
      omega
    · rw [if_neg c] at h3
      by_cases d : (pr m && !X.testBit m) = true
      · rw [Bool.and_eq_true] at d
        obtain ⟨d1, d2⟩ := d
        have hb : X.testBit m = false := by
          cases hq : X.testBit m with
          | false => rfl
          | true => rw [hq] at d2; exact absurd d2 (by decide)
        exact ⟨d1, gsR pr s X m, by omega, lt_pow_s h1 hb, h2, rfl⟩
      · rw [if_neg d] at h3
        omega
  · rintro ⟨d1, g, g1, h1, h2, h3⟩
    have hb := tb_hi h1
    refine ⟨Nat.lt_of_lt_of_le h1 (Nat.pow_le_pow_right (by decide) (by omega)), h2, ?_⟩
    rw [eg, if_neg (by omega), d1, hb]
    rfl
theorem vg_s {pr : Nat → Bool} {s m g X : Nat} (hg : g + 1 < s) : VG pr s (m + 1) (g + 1) X ↔ TV pr s m g X := by
  have eg : gsR pr s X (m + 1) = if s ≤ gsR pr s X m then gsR pr s X m else if (pr m && !X.testBit m) = true then 0 else gsR pr s X m + 1 := rfl
  constructor
  · rintro ⟨h1, h2, h3⟩
    rw [eg] at h3
    by_cases c : s ≤ gsR pr s X m
    · rw [if_pos c] at h3
      omega
    · rw [if_neg c] at h3
      by_cases d : (pr m && !X.testBit m) = true
      · rw [if_pos d] at h3
        omega
      · rw [if_neg d] at h3
        cases hp : pr m with
        | true =>
          have hb : X.testBit m = true := by
            rw [hp] at d
            cases hq : X.testBit m with
            | false => rw [hq] at d; exact absurd rfl d
            | true => rfl
          refine Or.inl ⟨hp, X - 2 ^ m, ⟨?_, fun i hi => ?_, ?_⟩, ?_⟩
          · rw [Nat.pow_succ] at h1
            omega
          all_goals
            have hge := Nat.ge_two_pow_of_testBit hb
            have hlt : X - 2 ^ m < 2 ^ m := by
              rw [Nat.pow_succ] at h1
              omega
            have hX : X = (X - 2 ^ m) ||| 2 ^ m := by
              rw [or_add hlt]
              omega
          · apply h2 i
            rw [hX, or_bit]
            split
            · rfl
            · exact hi
          · rw [← gsR_c m (X := X) (fun i hi => by
              rw [hX, or_bit, if_neg (by omega), ← hX])]
            omega
          · exact hX
        | false =>
          have hb : X.testBit m = false := by
            cases hq : X.testBit m with
            | false => rfl
            | true =>
              have := h2 m hq
              rw [hp] at this
              exact absurd this (by decide)
          exact Or.inr ⟨hp, lt_pow_s h1 hb, h2, by omega⟩
  · rintro (⟨hp, Y, ⟨h1, h2, h3⟩, rfl⟩ | ⟨hp, h1, h2, h3⟩)
    · have hb : (Y ||| 2 ^ m).testBit m = true := by rw [or_bit, if_pos rfl]
      have e : gsR pr s (Y ||| 2 ^ m) m = g := by
        rw [← h3]
        exact gsR_c m (fun i hi => by rw [or_bit, if_neg (by omega)])
      refine ⟨?_, fun i hi => ?_, ?_⟩
      · rw [or_add h1, Nat.pow_succ]
        omega
      · rw [or_bit] at hi
        by_cases c : i = m
        · rw [c]; exact hp
        · rw [if_neg c] at hi
          exact h2 i hi
      · rw [eg, e, if_neg (by omega), hb, hp]
        rfl
    · refine ⟨Nat.lt_of_lt_of_le h1 (Nat.pow_le_pow_right (by decide) (by omega)), h2, ?_⟩
      rw [eg, h3, if_neg (by omega), hp]
      rfl
/-- no s side by side are without one on watch -/
theorem gs_ok {pr : Nat → Bool} {s X : Nat} (hs : 1 ≤ s) : ∀ m, (gsR pr s X m < s → (∀ i, i + s ≤ m → ∃ j, j < s ∧ (pr (i + j) && !X.testBit (i + j)) = true) ∧ gsR pr s X m ≤ m ∧ (∀ k, m - gsR pr s X m ≤ k → k < m → ¬ (pr k && !X.testBit k) = true) ∧ (gsR pr s X m < m → (pr (m - gsR pr s X m - 1) && !X.testBit (m - gsR pr s X m - 1)) = true)) ∧ (¬ gsR pr s X m < s → ∃ i, i + s ≤ m ∧ ∀ j, j < s → ¬ (pr (i + j) && !X.testBit (i + j)) = true) := by
  intro m
  induction m with
  | zero =>
    refine ⟨fun _ => ⟨fun i hi => absurd hi (by omega), Nat.le_refl 0, fun k _ hk => absurd hk (Nat.not_lt_zero k), fun h => absurd h (Nat.not_lt_zero _)⟩, fun h => absurd (show gsR pr s X 0 < s from hs) h⟩
  | succ m ih =>
    have eg : gsR pr s X (m + 1) = if s ≤ gsR pr s X m then gsR pr s X m else if (pr m && !X.testBit m) = true then 0 else gsR pr s X m + 1 := rfl
    generalize gsR pr s X (m + 1) = G at eg ⊢
    generalize gsR pr s X m = g at eg ih
    obtain ⟨i1, i2⟩ := ih
    by_cases c : s ≤ g
    · rw [if_pos c] at eg
      obtain ⟨i, q1, q2⟩ := i2 (by omega)
      exact ⟨fun h => absurd h (by omega), fun _ => ⟨i, by omega, q2⟩⟩
    · rw [if_neg c] at eg
      obtain ⟨j1, j2, j3, j4⟩ := i1 (by omega)
      by_cases d : (pr m && !X.testBit m) = true
      · rw [if_pos d] at eg
        subst eg
        refine ⟨fun _ => ⟨fun i hi => ?_, Nat.zero_le _, fun k h1 h2 => absurd h1 (by omega), fun _ => ?_⟩, fun h => absurd hs h⟩
        · by_cases e : i + s = m + 1
          · refine ⟨s - 1, by omega, ?_⟩
            rw [show i + (s - 1) = m by omega]
            exact d
          · exact j1 i (by omega)
        · rw [show m + 1 - 0 - 1 = m by omega]
          exact d
      · rw [if_neg d] at eg
        subst eg
        refine ⟨fun h => ⟨fun i hi => ?_, by omega, fun k h1 h2 => ?_, fun h1 => ?_⟩, fun h => ⟨m - g, by omega, fun j hj => ?_⟩⟩
        · by_cases e : i + s = m + 1
          · have := j4 (by omega)
            refine ⟨m - g - 1 - i, by omega, ?_⟩
            rw [show i + (m - g - 1 - i) = m - g - 1 by omega]
            exact this
          · exact j1 i (by omega)
        · by_cases e : k = m
          · rw [e]; exact d
          · exact j3 k (by omega) (by omega)
        · rw [show m + 1 - (g + 1) - 1 = m - g - 1 by omega]
          exact j4 (by omega)
        · by_cases e : m - g + j = m
          · rw [e]; exact d
          · exact j3 (m - g + j) (by omega) (by omega)
theorem gs_iff {pr : Nat → Bool} {s X n : Nat} (hs : 1 ≤ s) : gsR pr s X n < s ↔ ∀ i, i + s ≤ n → ∃ j, j < s ∧ (pr (i + j) && !X.testBit (i + j)) = true := by
  obtain ⟨h1, h2⟩ := gs_ok (pr := pr) (X := X) hs n
  constructor
  · exact fun h => (h1 h).1
  · intro h
    by_cases c : gsR pr s X n < s
    · exact c
    · obtain ⟨i, i1, i2⟩ := h2 c
      obtain ⟨j, j1, j2⟩ := h i i1
      exact absurd j2 (i2 j j1)
