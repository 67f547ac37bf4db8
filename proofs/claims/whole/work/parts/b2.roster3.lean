/-! ===== roster: the reference; the call ===== -/
theorem go_r {b : Mem} {j : Nat} (hj : j < 96) : F_R_isGone (nI j) b = some (if b 124 (293 + j) = 2 then 1 else 0, b) := by
  have pm : ld b 124 (293 + nI j) = some (b 124 (293 + j)) := by
    rw [show (293 : Int32) + nI j = nI (293 + j) from nI_add 293 _]
    exact ld_in rfl (show 293 + j < 773 by omega) (by decide)
  simp only [F_R_isGone, pm, Option.bind_some]
  split <;> rfl
/-- those who are not missing -/
def psN (pr : Nat → Bool) : Nat → Nat
  | 0 => 0
  | m + 1 => if pr m = true then psN pr m ||| 2 ^ m else psN pr m
theorem psN_b (pr : Nat → Bool) (i : Nat) : ∀ m, (psN pr m).testBit i = (decide (i < m) && pr i)
  | 0 => by
    show (0 : Nat).testBit i = _
    rw [Nat.zero_testBit]
    simp
  | m + 1 => by
    have ih := psN_b pr i m
    show (if pr m = true then psN pr m ||| 2 ^ m else psN pr m).testBit i = _
    by_cases c : pr m = true
    · rw [if_pos c, or_bit, ih]
      by_cases e : i = m
      · subst e
        rw [if_pos rfl, c]
        simp
      · rw [if_neg e]
        have : decide (i < m) = decide (i < m + 1) := by
          apply decide_eq_decide.mpr
          omega
        rw [this]
    · rw [if_neg c, ih]
      by_cases e : i = m
      · subst e
        have : pr i = false := by
          cases hq : pr i with
          | false => rfl
          | true => exact absurd hq c
        rw [this]
        simp
      · have : decide (i < m) = decide (i < m + 1) := by
          apply decide_eq_decide.mpr
          omega
        rw [this]
theorem psN_lt (pr : Nat → Bool) : ∀ m, psN pr m < 2 ^ m
  | 0 => Nat.zero_lt_one
  | m + 1 => by
    have ih := psN_lt pr m
    show (if pr m = true then psN pr m ||| 2 ^ m else psN pr m) < 2 ^ (m + 1)
    rw [Nat.pow_succ]
    split
    · rw [or_add ih]
      omega
    · omega
theorem psM {pr : Nat → Bool} {b : Mem} {f z : Nat} (hf : f < 6) (hz : z ≤ 16) (ez : b 127 f = nI z) (hp : ∀ i, i < z → (b 124 (293 + (16 * f + i)) = 2 ↔ pr i = false)) : ∀ (q m fu : Nat), m + q = z → q < fu → F_R_presentSet_4 fu (nI f) (nI (psN pr m)) (nI m) b = some (nI (psN pr z), b) := by
  have lz : ld b 127 (nI f) = some (nI z) := (ld_in rfl (show f < 6 from hf) (by decide)).trans (congrArg some ez)
  intro q
  induction q with
  | zero =>
    intro m fu hm hfu
    obtain ⟨fu, rfl⟩ : ∃ k, fu = k + 1 := ⟨fu - 1, by omega⟩
    have : m = z := by omega
    subst this
    simp only [F_R_presentSet_4, lz, Option.bind_some, if_pos (show nI m ≤ nI m from nI_le (Nat.le_refl m) (by omega))]
  | succ q ih =>
    intro m fu hm hfu
    obtain ⟨fu, rfl⟩ : ∃ k, fu = k + 1 := ⟨fu - 1, by omega⟩
    have g := go_r (b := b) (j := 16 * f + m) (by omega)
    have hi := ih (m + 1) fu (by omega) (by omega)
    have hpm := hp m (by omega)
    rw [← hi]
    have e : psN pr (m + 1) = if pr m = true then psN pr m ||| 2 ^ m else psN pr m := rfl
    cases c : pr m with
    | true =>
      rw [if_neg (fun q => by rw [hpm.mp q] at c; exact absurd c (by decide))] at g
      rw [e, if_pos c]
      simp only [F_R_presentSet_4, lz, Option.bind_some, if_neg (show ¬ nI z ≤ nI m from nI_ge (by omega) (by omega)), n16, g, if_true, n_shl1 (show m < 32 by omega), fa_or, nI_1]
    | false =>
      rw [if_pos (hpm.mpr c)] at g
      rw [e, if_neg (by rw [c]; decide)]
      simp only [F_R_presentSet_4, lz, Option.bind_some, if_neg (show ¬ nI z ≤ nI m from nI_ge (by omega) (by omega)), n16, g, one0, if_false, nI_1]
theorem ps_p {pr : Nat → Bool} {b : Mem} {f z : Nat} (hf : f < 6) (hz : z ≤ 16) (ez : b 127 f = nI z) (hp : ∀ i, i < z → (b 124 (293 + (16 * f + i)) = 2 ↔ pr i = false)) : F_R_presentSet (nI f) b = some (nI (psN pr z), b) :=
  psM hf hz ez hp z 0 gF (Nat.zero_add z) (by rw [gF_eq]; omega)
theorem tb_not {P i : Nat} (hP : P < 2 ^ 16) : (4294967295 - P).testBit i = (decide (i < 32) && !P.testBit i) := by
  have h : P < 2 ^ 32 := Nat.lt_of_lt_of_le hP (by decide)
  have := Nat.testBit_two_pow_sub_succ h i
  rw [← this]
  congr 1
  omega
theorem n_minus {X P : Nat} (hP : P < 2 ^ 16) : nI X &&& (nI P ^^^ (-1)) = nI (X &&& (4294967295 - P)) := by
  rw [n_not (Nat.lt_of_lt_of_le hP (by decide)), fa_and]
/-- within a set -/
theorem sub_z {X P : Nat} (hX : X < 2 ^ 16) (hP : P < 2 ^ 16) : (nI X &&& (nI P ^^^ (-1)) = 0) ↔ ∀ i, X.testBit i = true → P.testBit i = true := by
  rw [n_minus hP]
  have hle : X &&& (4294967295 - P) ≤ X := Nat.and_le_left
  rw [show (0 : Int32) = nI 0 from rfl, nI_eq (by omega) (by decide)]
  constructor
  · intro h i hi
    have h2 : (X &&& (4294967295 - P)).testBit i = false := by rw [h, Nat.zero_testBit]
    rw [Nat.testBit_and, tb_not hP, hi] at h2
    have i32 : i < 32 := by
      rcases Nat.lt_or_ge i 32 with q | q
      · exact q
      · have : X.testBit i = false := Nat.testBit_lt_two_pow (Nat.lt_of_lt_of_le hX (Nat.pow_le_pow_right (by decide) (by omega)))
        rw [hi] at this
        exact absurd this (by decide)
    rw [decide_eq_true i32] at h2
    cases hq : P.testBit i with
    | true => rfl
    | false => rw [hq] at h2; exact absurd h2 (by decide)
  · intro h
    apply Nat.eq_of_testBit_eq
    intro i
    rw [Nat.testBit_and, tb_not hP, Nat.zero_testBit]
    cases hq : X.testBit i with
    | false => rfl
    | true => rw [h i hq]; simp
def maP (M n s i : Nat) : Prop := ∀ k, i ≤ k → k + s ≤ n → ∃ j, j < s ∧ M.testBit (k + j) = true
theorem maM {M n s : Nat} {b : Mem} (hM : M < 65536) (hn : n ≤ 16) (hs : s ≤ 5) : ∀ (q i fu : Nat), i + q = n + 1 → q < fu → (maP M n s i → F_R_isManned_2 fu (nI M) (nI n) (nI s) (nI i) b = some (1, b)) ∧ (¬ maP M n s i → F_R_isManned_2 fu (nI M) (nI n) (nI s) (nI i) b = some (0, b)) := by
  intro q
  induction q with
  | zero =>
    intro i fu hi hfu
    obtain ⟨fu, rfl⟩ : ∃ k, fu = k + 1 := ⟨fu - 1, by omega⟩
    refine ⟨fun _ => ?_, fun h => absurd (fun k k1 k2 => by omega) h⟩
    simp only [F_R_isManned_2, nI_add, if_pos (show nI n < nI (i + s) from nI_lt (by omega) (by omega))]
  | succ q ih =>
    intro i fu hi hfu
    obtain ⟨fu, rfl⟩ : ∃ k, fu = k + 1 := ⟨fu - 1, by omega⟩
    by_cases c : n < i + s
    · refine ⟨fun _ => ?_, fun h => absurd (fun k k1 k2 => by omega) h⟩
      simp only [F_R_isManned_2, nI_add, if_pos (show nI n < nI (i + s) from nI_lt c (by omega))]
    · obtain ⟨h1, h2⟩ := ih (i + 1) fu (by omega) (by omega)
      have hp : 2 ^ s ≤ 2 ^ 5 := Nat.pow_le_pow_right (by decide) hs
      have hp0 : 0 < 2 ^ s := Nat.two_pow_pos s
      have em : shr (nI M) (nI i) &&& (shl 1 (nI s) - 1) = nI (M / 2 ^ i % 2 ^ s) := by
        rw [n_shr (by omega) (by omega), n_shl1 (by omega), show nI (2 ^ s) - 1 = nI (2 ^ s - 1) from n_sub (b := 1) (by omega), fa_mask]
      have hb : ∀ j, (M / 2 ^ i % 2 ^ s).testBit j = (decide (j < s) && M.testBit (i + j)) := fun j => by
        rw [Nat.testBit_mod_two_pow, Nat.testBit_div_two_pow, Nat.add_comm]
      have hlt : M / 2 ^ i % 2 ^ s < 2 ^ s := Nat.mod_lt _ hp0
      by_cases d : M / 2 ^ i % 2 ^ s = 0
      · have no : ¬ maP M n s i := fun q => by
          obtain ⟨j, j1, j2⟩ := q i (Nat.le_refl i) (by omega)
          have := hb j
          rw [d, Nat.zero_testBit, decide_eq_true j1, j2] at this
          exact absurd this (by decide)
        refine ⟨fun h => absurd h no, fun _ => ?_⟩
        simp only [F_R_isManned_2, nI_add, if_neg (show ¬ nI n < nI (i + s) from nI_nlt (by omega) (by omega)), em, if_pos (show nI (M / 2 ^ i % 2 ^ s) = 0 from by rw [d]; rfl)]
      · have ex : ∃ j, j < s ∧ M.testBit (i + j) = true := by
          obtain ⟨j, hj⟩ := Nat.exists_testBit_of_ne_zero d
          rw [hb j, Bool.and_eq_true] at hj
          exact ⟨j, of_decide_eq_true hj.1, hj.2⟩
        have e : F_R_isManned_2 (fu + 1) (nI M) (nI n) (nI s) (nI i) b = F_R_isManned_2 fu (nI M) (nI n) (nI s) (nI (i + 1)) b := by
          simp only [F_R_isManned_2, nI_add, if_neg (show ¬ nI n < nI (i + s) from nI_nlt (by omega) (by omega)), em, if_neg (show ¬ nI (M / 2 ^ i % 2 ^ s) = 0 from nI_ne0 (by omega) (by omega)), nI_1]
        rw [e]
        refine ⟨fun h => h1 (fun k k1 k2 => h k (by omega) k2), fun h => h2 (fun h' => h (fun k k1 k2 => ?_))⟩
        by_cases e : k = i
        · rw [e]; exact ex
        · exact h' k (by omega) k2
theorem ma_p {M n s : Nat} {b : Mem} (hM : M < 65536) (hn : n ≤ 16) (hs : s ≤ 5) : (maP M n s 0 → F_R_isManned (nI M) (nI n) (nI s) b = some (1, b)) ∧ (¬ maP M n s 0 → F_R_isManned (nI M) (nI n) (nI s) b = some (0, b)) :=
  maM hM hn hs (n + 1) 0 gF (Nat.zero_add _) (by rw [gF_eq]; omega)
/-- a set can be on leave -/
def ZR (pr : Nat → Bool) (s n X : Nat) : Prop := X < 2 ^ n ∧ (∀ i, X.testBit i = true → pr i = true) ∧ gsR pr s X n < s
theorem ro34 {pr : Nat → Bool} {b : Mem} {n s : Nat} {x3 : Int32} (hn : n ≤ 16) (hs : s ≤ 5) (hs1 : 1 ≤ s) : ∀ (q T fu : Nat) (v : Int32), T + q = 2 ^ n → q < fu → BsR (fun X => X < T ∧ ZR pr s n X) v → ∃ v', BsR (ZR pr s n) v' ∧ F_R_roster_34 fu (nI s) x3 (nI n) (nI (psN pr n)) v (nI T) b = (if x3 = 1 then some (v', b) else if v' = -1 then some (v', b) else (F_R_onesOf v' b).bind fun z1 => some (z1.1, z1.2)) := by
  have hP := psN_lt pr n
  have p16 : 2 ^ n ≤ 2 ^ 16 := Nat.pow_le_pow_right (by decide) hn
  have p16 : 2 ^ n ≤ 65536 := p16
  have esh : shl 1 (nI n) = nI (2 ^ n) := n_shl1 (by omega)
  intro q
  induction q with
  | zero =>
    intro T fu v hT hfu h
    obtain ⟨fu, rfl⟩ : ∃ k, fu = k + 1 := ⟨fu - 1, by omega⟩
    refine ⟨v, BsR_e h (fun X => ⟨fun q => q.2, fun q => ⟨by have := q.1; omega, q⟩⟩), ?_⟩
    simp only [F_R_roster_34, esh, if_pos (show nI (2 ^ n) ≤ nI T from nI_le (by omega) (by omega))]
  | succ q ih =>
    intro T fu v hT hfu h
    obtain ⟨fu, rfl⟩ : ∃ k, fu = k + 1 := ⟨fu - 1, by omega⟩
    have gT : ¬ nI (2 ^ n) ≤ nI T := nI_ge (by omega) (by omega)
    have T16 : T < 2 ^ 16 := by omega
    have P16 : psN pr n < 2 ^ 16 := by omega
    have hsub : (nI T &&& (nI (psN pr n) ^^^ (-1)) = 0) ↔ ∀ i, T.testBit i = true → pr i = true := by
      rw [sub_z T16 P16]
      constructor
      · intro h i hi
        have := h i hi
        rw [psN_b, Bool.and_eq_true] at this
        exact this.2
      · intro h i hi
        have hin : i < n := by
          rcases Nat.lt_or_ge i n with q | q
          · exact q
          · have : T.testBit i = false := Nat.testBit_lt_two_pow (Nat.lt_of_lt_of_le (show T < 2 ^ n by omega) (Nat.pow_le_pow_right (by decide) q))
            rw [hi] at this
            exact absurd this (by decide)
        rw [psN_b, h i hi, decide_eq_true hin]
        rfl
    obtain ⟨M, hM⟩ : ∃ M, M = psN pr n &&& (4294967295 - T) := ⟨_, rfl⟩
    have eM : nI (psN pr n) &&& (nI T ^^^ (-1)) = nI M := by rw [n_minus T16, hM]
    have M16 : M < 65536 := by
      have : M ≤ psN pr n := by rw [hM]; exact Nat.and_le_left
      omega
    have hman : maP M n s 0 ↔ gsR pr s T n < s := by
      rw [gs_iff hs1]
      have hb : ∀ i, i < n → M.testBit i = (pr i && !T.testBit i) := fun i hi => by
        rw [hM, Nat.testBit_and, tb_not T16, psN_b, decide_eq_true hi, decide_eq_true (show i < 32 by omega)]
        rfl
      constructor
      · intro h k hk
        obtain ⟨j, j1, j2⟩ := h k (Nat.zero_le k) hk
        rw [hb _ (by omega)] at j2
        exact ⟨j, j1, j2⟩
      · intro h k _ hk
        obtain ⟨j, j1, j2⟩ := h k hk
        rw [← hb _ (by omega)] at j2
        exact ⟨j, j1, j2⟩
    obtain ⟨m1, m2⟩ := ma_p (b := b) M16 hn hs
    have old : BsR (fun X => X < T + 1 ∧ ZR pr s n X) v → ∃ v', BsR (ZR pr s n) v' ∧ F_R_roster_34 fu (nI s) x3 (nI n) (nI (psN pr n)) v (nI (T + 1)) b = (if x3 = 1 then some (v', b) else if v' = -1 then some (v', b) else (F_R_onesOf v' b).bind fun z1 => some (z1.1, z1.2)) := fun hk => ih (T + 1) fu v (by omega) (by omega) hk
    have new : BsR (fun X => X < T + 1 ∧ ZR pr s n X) (nI T) → ∃ v', BsR (ZR pr s n) v' ∧ F_R_roster_34 fu (nI s) x3 (nI n) (nI (psN pr n)) (nI T) (nI (T + 1)) b = (if x3 = 1 then some (v', b) else if v' = -1 then some (v', b) else (F_R_onesOf v' b).bind fun z1 => some (z1.1, z1.2)) := fun hk => ih (T + 1) fu (nI T) (by omega) (by omega) hk
    have notZ : ¬ ZR pr s n T → BsR (fun X => X < T + 1 ∧ ZR pr s n X) v := fun hz => BsR_e h (fun X => ⟨fun q => ⟨by have := q.1; omega, q.2⟩, fun q => ⟨by
      have h1 := q.1
      have h2 : X ≠ T := fun e => hz (e ▸ q.2)
      omega, q.2⟩⟩)
    by_cases cs : ∀ i, T.testBit i = true → pr i = true
    · have cs' := hsub.mpr cs
      rcases h.2 with ⟨v1, v2⟩ | ⟨Y, y1, y2, y3⟩
      · by_cases cm : maP M n s 0
        · have hZ : ZR pr s n T := ⟨by omega, cs, hman.mp cm⟩
          obtain ⟨v', w1, w2⟩ := new ⟨fun X hX => by have := hX.2.1; omega, Or.inr ⟨T, rfl, ⟨by omega, hZ⟩, fun Z hZ' => by
            have : Z = T := by
              have h1 := hZ'.1
              rcases Nat.lt_or_ge Z T with q | q
              · exact absurd ⟨q, hZ'.2⟩ (v2 Z)
              · omega
            rw [this]
            exact Nat.le_refl _⟩⟩
          refine ⟨v', w1, ?_⟩
          rw [← w2]
          simp only [F_R_roster_34, esh, if_neg gT, if_pos cs', if_pos v1, eM, m1 cm, Option.bind_some, one0, if_false, nI_1]
        · obtain ⟨v', w1, w2⟩ := old (notZ (fun q => cm (hman.mpr q.2.2)))
          refine ⟨v', w1, ?_⟩
          rw [← w2]
          simp only [F_R_roster_34, esh, if_neg gT, if_pos cs', if_pos v1, eM, m2 cm, Option.bind_some, if_true, nI_1]
      · have Y16 : Y < 65536 := h.1 Y y2
        have nv : ¬ v = -1 := by rw [y1]; exact nI_m1 (by omega)
        have pY := pc_16 Y
        have pT := pc_16 T
        have k1 : kyR T = pc 16 T * 65536 + (65535 - T) := rfl
        have k2 : kyR Y = pc 16 Y * 65536 + (65535 - Y) := rfl
        have yT : Y < T := y2.1
        by_cases cp : pc 16 T ≤ pc 16 Y
        · obtain ⟨v', w1, w2⟩ := old ⟨fun X hX => by have := hX.2.1; omega, Or.inr ⟨Y, y1, ⟨by omega, y2.2⟩, fun Z hZ' => by
            by_cases e : Z = T
            · rw [e]
              omega
            · exact y3 Z ⟨by have := hZ'.1; omega, hZ'.2⟩⟩⟩
          refine ⟨v', w1, ?_⟩
          have e1 : F_R_roster_34 (fu + 1) (nI s) x3 (nI n) (nI (psN pr n)) v (nI T) b = F_R_roster_34 fu (nI s) x3 (nI n) (nI (psN pr n)) v (nI T + 1) b := by
            rw [F_R_roster_34, esh, if_neg gT, if_pos cs', if_neg nv, bind_s (R_onesOf (show T < 65536 by omega) b), y1, bind_s (R_onesOf Y16 b), if_pos (nI_le cp (by omega))]
          rw [e1, nI_1, w2]
        · by_cases cm : maP M n s 0
          · have hZ : ZR pr s n T := ⟨by omega, cs, hman.mp cm⟩
            obtain ⟨v', w1, w2⟩ := new ⟨fun X hX => by have := hX.2.1; omega, Or.inr ⟨T, rfl, ⟨by omega, hZ⟩, fun Z hZ' => by
              by_cases e : Z = T
              · rw [e]
                exact Nat.le_refl _
              · have := y3 Z ⟨by have := hZ'.1; omega, hZ'.2⟩
                omega⟩⟩
            refine ⟨v', w1, ?_⟩
            have e1 : F_R_roster_34 (fu + 1) (nI s) x3 (nI n) (nI (psN pr n)) v (nI T) b = F_R_roster_34 fu (nI s) x3 (nI n) (nI (psN pr n)) (nI T) (nI T + 1) b := by
              rw [F_R_roster_34, esh, if_neg gT, if_pos cs', if_neg nv, bind_s (R_onesOf (show T < 65536 by omega) b), y1, bind_s (R_onesOf Y16 b), if_neg (nI_ge (by omega) (by omega)), eM, bind_s (m1 cm), if_neg (show ¬ (1 : Int32) = 0 from by decide)]
            rw [e1, nI_1, w2]
          · obtain ⟨v', w1, w2⟩ := old (notZ (fun q => cm (hman.mpr q.2.2)))
            refine ⟨v', w1, ?_⟩
            have e1 : F_R_roster_34 (fu + 1) (nI s) x3 (nI n) (nI (psN pr n)) v (nI T) b = F_R_roster_34 fu (nI s) x3 (nI n) (nI (psN pr n)) v (nI T + 1) b := by
              rw [F_R_roster_34, esh, if_neg gT, if_pos cs', if_neg nv, bind_s (R_onesOf (show T < 65536 by omega) b), y1, bind_s (R_onesOf Y16 b), if_neg (nI_ge (by omega) (by omega)), eM, bind_s (m2 cm), if_pos rfl]
            rw [e1, nI_1, w2]
    · obtain ⟨v', w1, w2⟩ := old (notZ (fun q => cs q.2.1))
      refine ⟨v', w1, ?_⟩
      rw [← w2]
      simp only [F_R_roster_34, esh, if_neg gT, if_neg (fun q => cs (hsub.mp q)), nI_1]
theorem I2_ro {a b a' : Mem} (h : I2 a b) (ha : ∀ c, c ≠ 96 → c ≠ 97 → a' c = a c) : I2 a' b := by
  refine I2_rel h (fun c k hr => ?_) (fun _ _ _ => rfl)
  by_cases c1 : c = 96
  · subst c1; exact absurd hr (show ¬ false = true from Bool.false_ne_true)
  · by_cases c2 : c = 97
    · subst c2; exact absurd hr (show ¬ false = true from Bool.false_ne_true)
    · rw [ha c c1 c2]
theorem po_I2 {a b : Mem} (h : I2 a b) {f i : Nat} (hf : f < 6) (hi : i < 16) : b 124 (293 + (16 * f + i)) = a 3 (96 * 4 + 16 * f + i) := by
  obtain ⟨⟨-, hHM, -⟩, -⟩ := id h
  have hHM : HM a b := hHM
  have := hHM.1 (288 + (16 * f + i)) (by omega)
  rw [show 293 + (16 * f + i) = 5 + (288 + (16 * f + i)) by omega, this, show 96 * 4 + 16 * f + i = 96 + (288 + (16 * f + i)) by omega]
theorem p_roster (x y w : Int32) : Pair I2 I2 (F_C_roster x y w) (F_R_roster x y w) := by
  intro a b h
  obtain ⟨hz, hc, hm⟩ := I2_sz h
  have fr0 : ∀ c, c < 123 → (mw b 123 0 0) c = b c := fun c hc => mw_o (by omega)
  have h0 : I2 a (mw b 123 0 0) := I2_0 h
  have hm0 : mSz (mw b 123 0 0) (nF a) (sz a) := hm
  obtain ⟨b0, hb0⟩ : ∃ b0, b0 = mw b 123 0 0 := ⟨_, rfl⟩
  rw [← hb0] at h0 fr0 hm0
  have fin : ∀ (v : Int32) (a' : Mem), F_C_roster x y w a = some (v, a') → F_R_roster x y w b = some (v, b0) → (∀ c, c ≠ 96 → c ≠ 97 → a' c = a c) → ∃ (v : Int32) (a' b' : Mem), F_C_roster x y w a = some (v, a') ∧ F_R_roster x y w b = some (v, b') ∧ I2 a' b' ∧ (∀ c, ¬ c < 123 → a' c = a c) ∧ ∀ c, c < 123 → b' c = b c := fun v a' z1 z2 z3 => ⟨v, a', b0, z1, z2, I2_ro h0 z3, fun c hc => z3 c (by omega) (by omega), fr0⟩
  rcases C_has1 hz hc x with ⟨f, hf, rfl, hh⟩ | ⟨hno, hh⟩
  · have rf := R_isF_y hz hm0 hf
    by_cases hy : 1 ≤ y ∧ y ≤ 5
    · by_cases hw : 0 ≤ w ∧ w ≤ 1
      · obtain ⟨t, t1, t5, rfl⟩ := in_1 (m := 5) (by decide) hy
        have f6 : f < 6 := by have := hz.1; omega
        obtain ⟨z1, z16⟩ := hz.2 f hf
        have ez : a 4 f = nI (sz a f) := hc.2 f hf
        have eb : b0 127 f = nI (sz a f) := hm0.2 f hf
        have lb : ld b0 127 (nI f) = some (nI (sz a f)) := (ld_in rfl (show f < 6 from f6) (by decide)).trans (congrArg some eb)
        obtain ⟨r, a1, y1, y2, y3⟩ := le_p f6 z16 t5 t1 ez
        have p16 : 2 ^ sz a f ≤ 2 ^ 16 := Nat.pow_le_pow_right (by decide) z16
        have p16 : 2 ^ sz a f ≤ 65536 := p16
        have y2 : BsR (ZR (preS a f) t (sz a f)) r := BsR_e y2 (fun X => by
          constructor
          · rintro ⟨g, g1, g2, g3, g4⟩
            exact ⟨g2, g3, by omega⟩
          · rintro ⟨g2, g3, g4⟩
            exact ⟨gsR (preS a f) t X (sz a f), g4, g2, g3, rfl⟩)
        have ps := ps_p (pr := preS a f) f6 z16 eb (fun i hi => by
          rw [po_I2 h0 f6 (by omega)]
          unfold preS
          constructor
          · intro q
            rw [decide_eq_true q]
            rfl
          · intro q
            by_cases c : a 3 (96 * 4 + 16 * f + i) = 2
            · exact c
            · rw [decide_eq_false c] at q
              exact absurd q (by decide))
        obtain ⟨v', w1, w2⟩ := ro34 (pr := preS a f) (b := b0) (x3 := w) z16 t5 t1 (2 ^ sz a f) 0 gF (-1) (Nat.zero_add _) (by rw [gF_eq]; omega) (BsR_0 (fun X q => absurd q.1 (Nat.not_lt_zero X)))
        have w2 : F_R_roster_34 gF (nI t) w (nI (sz a f)) (nI (psN (preS a f) (sz a f))) (-1) 0 b0 = _ := w2
        have e := BsR_u w1 y2
        subst e
        have hR : F_R_roster (nI f) (nI t) w b = (if w = 1 then some (v', b0) else if v' = -1 then some (v', b0) else (F_R_onesOf v' b0).bind fun z1 => some (z1.1, z1.2)) := by
          rw [← w2]
          simp only [F_R_roster, ← hb0, rf, Option.bind_some, one0, if_false, R_isIn, b01, hy, hw, and_self, not_true_eq_false, lb, ps]
        have hC : F_C_roster (nI f) (nI t) w a = (if w = 1 then some (v', a1) else if v' = -1 then some (v', a1) else (F_JI_bitCount v' a1).bind fun z5 => some (z5.1, z5.2)) := by
          simp only [F_C_roster, hh, Option.bind_some, one0, if_false, C_within, b01, hy, hw, and_self, not_true_eq_false, y1]
        by_cases cw : w = 1
        · rw [if_pos cw] at hR hC
          exact fin v' a1 hC hR y3
        · rw [if_neg cw] at hR hC
          by_cases cv : v' = -1
          · rw [if_pos cv] at hR hC
            exact fin v' a1 hC hR y3
          · rw [if_neg cv] at hR hC
            rcases w1.2 with ⟨q, -⟩ | ⟨X, x1, x2, -⟩
            · exact absurd q cv
            · have X16 := w1.1 X x2
              rw [x1, bind_s (R_onesOf X16 b0)] at hR
              rw [x1, bind_s (C_bitCount X16 a1)] at hC
              exact fin _ a1 hC hR y3
      · refine fin (-1) a ?_ ?_ (fun _ _ _ => rfl)
        · simp only [F_C_roster, hh, Option.bind_some, one0, if_false, C_within, b01, hy, hw, and_self, not_true_eq_false, not_false_eq_true, if_true]
        · simp only [F_R_roster, ← hb0, rf, Option.bind_some, one0, if_false, R_isIn, b01, hy, hw, and_self, not_true_eq_false, not_false_eq_true, if_true]
    · refine fin (-1) a ?_ ?_ (fun _ _ _ => rfl)
      · simp only [F_C_roster, hh, Option.bind_some, one0, if_false, C_within, b01, hy, not_false_eq_true, if_true]
      · simp only [F_R_roster, ← hb0, rf, Option.bind_some, one0, if_false, R_isIn, b01, hy, not_false_eq_true, if_true]
  · have rf := R_isF_n hz hm0 hno
    refine fin (-1) a ?_ ?_ (fun _ _ _ => rfl)
    · simp only [F_C_roster, hh, Option.bind_some, if_true]
    · simp only [F_R_roster, ← hb0, rf, Option.bind_some, if_true]
theorem g_roster (x y w : Int32) : Good Inv (F_C_roster x y w) (F_R_roster x y w) := good_of (p_roster x y w)
