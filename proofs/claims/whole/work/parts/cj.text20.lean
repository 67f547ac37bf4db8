/-! ===== text: what is taken ===== -/
theorem gd_m {α : Type} {A c B : List α} {i : Nat} {d : α} (h : i < c.length) : (A ++ (c ++ B)).getD (A.length + i) d = c.getD i d := by
  simp only [List.getD_eq_getElem?_getD]
  rw [List.getElem?_append_right (by omega), show A.length + i - A.length = i by omega, List.getElem?_append_left h]
theorem PC_e {C : List Int32} {R : List (Int32 × Int32)} {p q p' q' : Nat} {cc op ar : Nat → Int32} (h : PC C R p q p' q') (h1 : ∀ i, i < C.length → cc i = C.getD i 0) (h2 : ∀ i, i < R.length → op i = (R.getD i (0, 0)).1 ∧ ar i = (R.getD i (0, 0)).2) : codeEq cc op ar p q p' q' := by
  obtain ⟨Cp, c, Cs, Rp, r, Rs, rfl, rfl, rfl, rfl, rfl, rfl, h7⟩ := h
  intro fa
  obtain ⟨v, v1, v2⟩ := h7 fa
  refine ⟨v, ?_, ?_⟩
  · rw [show Cp.length + c.length - Cp.length = c.length by omega, exC_L c Cp.length [] (fun i hi => ?_)]
    · exact v1
    · rw [h1 (Cp.length + i) (by simp only [List.length_append]; omega), gd_m hi]
  · rw [show Rp.length + r.length - Rp.length = r.length by omega, exM_R r Rp.length [] (fun i hi => ?_)]
    · exact v2
    · have := h2 (Rp.length + i) (by simp only [List.length_append]; omega)
      rw [gd_m hi] at this
      exact this
/-- cells cs: their first k slots are those from off on -/
def cpM (cs : Nat → Bool) (off k : Nat) (s : Mem) : Mem := fun c i => if cs c = true ∧ i < k then s c (off + i) else s c i
theorem cp_y {cs : Nat → Bool} {off k c i : Nat} {s : Mem} (h : cs c = true) (hi : i < k) : cpM cs off k s c i = s c (off + i) := if_pos ⟨h, hi⟩
theorem cp_n {cs : Nat → Bool} {off k c i : Nat} {s : Mem} (hi : ¬ i < k) : cpM cs off k s c i = s c i := if_neg (fun q => hi q.2)
theorem cp_o {cs : Nat → Bool} {off k c : Nat} {s : Mem} (h : cs c = false) : cpM cs off k s c = s c := by
  funext i
  exact if_neg (fun q => by rw [h] at q; exact absurd q.1 (by decide))
theorem cp_0 {cs : Nat → Bool} {off : Nat} {s : Mem} : cpM cs off 0 s = s := by
  funext c i
  exact if_neg (fun q => absurd q.2 (Nat.not_lt_zero i))
theorem cp_ld {cs : Nat → Bool} {off k c : Nat} {s : Mem} (h1 : kd c = 1) (h2 : off + k < ln c) (h3 : ln c < 2 ^ 31) : ld (cpM cs off k s) c (nI (off + k)) = some (s c (off + k)) := (ld_in h1 h2 h3).trans (congrArg some (cp_n (by omega)))
theorem cp_1 {off k C : Nat} {s : Mem} : mw (cpM (Nat.beq C) off k s) C k (s C (off + k)) = cpM (Nat.beq C) off (k + 1) s := by
  funext c i
  by_cases hc : c = C
  · subst hc
    have hb : Nat.beq c c = true := Nat.beq_refl c
    by_cases hi : i = k
    · subst hi
      rw [mwSelf, cp_y hb (by omega)]
    · rw [mw_k hi]
      by_cases hk : i < k
      · rw [cp_y hb hk, cp_y hb (by omega)]
      · rw [cp_n hk, cp_n (by omega)]
  · have hb : Nat.beq C c = false := by
      cases e : Nat.beq C c with
      | false => rfl
      | true => exact absurd (Nat.eq_of_beq_eq_true e).symm hc
    rw [mw_o hc, cp_o hb, cp_o hb]
theorem tO5 {n : Nat} (hn : n ≤ 16) {s : Mem} : ∀ (q k f : Nat), k + q = 2 * n → q < f → F_R_takesOther_5 f (nI n) (nI k) (cpM (Nat.beq 142) 32 k s) = some (0, mw (cpM (Nat.beq 142) 32 (2 * n) s) 123 37 (nI n))
  | 0, k, f, hq, hf => by
    obtain ⟨g, rfl⟩ : ∃ g, f = g + 1 := ⟨f - 1, by omega⟩
    have e : k = 2 * n := by omega
    subst e
    rw [F_R_takesOther_5, show (2 : Int32) * nI n = nI (2 * n) from n_mul 2 n, if_pos (nI_le (Nat.le_refl _) (by omega))]
  | q + 1, k, f, hq, hf => by
    obtain ⟨g, rfl⟩ : ∃ g, f = g + 1 := ⟨f - 1, by omega⟩
    have e1 : sd (cpM (Nat.beq 142) 32 k s) 142 (nI k) (s 142 (32 + k)) = some (mw (cpM (Nat.beq 142) 32 k s) 142 k (s 142 (32 + k))) := sd_in rfl (show k < 64 by omega) (by decide)
    rw [F_R_takesOther_5, show (2 : Int32) * nI n = nI (2 * n) from n_mul 2 n, if_neg (nI_ge (by omega) (by omega)), show (32 : Int32) + nI k = nI (32 + k) from nI_add 32 k, cp_ld rfl (show 32 + k < 64 by omega) (by decide)]
    simp only [Option.bind_some, e1, cp_1, nI_1]
    exact tO5 hn q (k + 1) g (by omega) (by omega)
theorem tO31 {n : Nat} (hn : n ≤ 16) {s : Mem} : ∀ (q k f : Nat), k + q = 3 * n → q < f → F_R_takesOther_31 f (nI n) (nI k) (cpM (Nat.beq 140) 48 k s) = some (0, mw (mw (cpM (Nat.beq 140) 48 (3 * n) s) 123 33 (nI n)) 123 3 0)
  | 0, k, f, hq, hf => by
    obtain ⟨g, rfl⟩ : ∃ g, f = g + 1 := ⟨f - 1, by omega⟩
    have e : k = 3 * n := by omega
    subst e
    rw [F_R_takesOther_31, show (3 : Int32) * nI n = nI (3 * n) from n_mul 3 n, if_pos (nI_le (Nat.le_refl _) (by omega))]
  | q + 1, k, f, hq, hf => by
    obtain ⟨g, rfl⟩ : ∃ g, f = g + 1 := ⟨f - 1, by omega⟩
    have e1 : sd (cpM (Nat.beq 140) 48 k s) 140 (nI k) (s 140 (48 + k)) = some (mw (cpM (Nat.beq 140) 48 k s) 140 k (s 140 (48 + k))) := sd_in rfl (show k < 96 by omega) (by decide)
    rw [F_R_takesOther_31, show (3 : Int32) * nI n = nI (3 * n) from n_mul 3 n, if_neg (nI_ge (by omega) (by omega)), show (48 : Int32) + nI k = nI (48 + k) from nI_add 48 k, cp_ld rfl (show 48 + k < 96 by omega) (by decide)]
    simp only [Option.bind_some, e1, cp_1, nI_1]
    exact tO31 hn q (k + 1) g (by omega) (by omega)
theorem tO54 {n : Nat} (hn : n ≤ 16) {s : Mem} : ∀ (q k f : Nat), k + q = 5 * n → q < f → F_R_takesOther_54 f (nI n) (nI k) (cpM (Nat.beq 141) 80 k s) = some (0, mw (mw (cpM (Nat.beq 141) 80 (5 * n) s) 123 35 (nI n)) 123 3 0)
  | 0, k, f, hq, hf => by
    obtain ⟨g, rfl⟩ : ∃ g, f = g + 1 := ⟨f - 1, by omega⟩
    have e : k = 5 * n := by omega
    subst e
    rw [F_R_takesOther_54, show (5 : Int32) * nI n = nI (5 * n) from n_mul 5 n, if_pos (nI_le (Nat.le_refl _) (by omega))]
  | q + 1, k, f, hq, hf => by
    obtain ⟨g, rfl⟩ : ∃ g, f = g + 1 := ⟨f - 1, by omega⟩
    have e1 : sd (cpM (Nat.beq 141) 80 k s) 141 (nI k) (s 141 (80 + k)) = some (mw (cpM (Nat.beq 141) 80 k s) 141 k (s 141 (80 + k))) := sd_in rfl (show k < 160 by omega) (by decide)
    rw [F_R_takesOther_54, show (5 : Int32) * nI n = nI (5 * n) from n_mul 5 n, if_neg (nI_ge (by omega) (by omega)), show (80 : Int32) + nI k = nI (80 + k) from nI_add 80 k, cp_ld rfl (show 80 + k < 160 by omega) (by decide)]
    simp only [Option.bind_some, e1, cp_1, nI_1]
    exact tO54 hn q (k + 1) g (by omega) (by omega)
theorem gF_9 {q : Nat} (h : q ≤ 1000) : q < gF := by
  rw [gF_eq]
  omega
theorem tkD {n : Nat} (hn : n ≤ 16) (s : Mem) : F_R_takesOther 3 (nI n) s = some (0, mw (cpM (Nat.beq 142) 32 (2 * n) s) 123 37 (nI n)) := by
  have := tO5 hn (s := s) (2 * n) 0 gF (by omega) (gF_9 (by omega))
  rw [cp_0] at this
  rw [F_R_takesOther, if_pos rfl]
  exact this
theorem tkO {n : Nat} (hn : n ≤ 16) (s : Mem) : F_R_takesOther 1 (nI n) s = some (0, mw (mw (cpM (Nat.beq 140) 48 (3 * n) s) 123 33 (nI n)) 123 3 0) := by
  have := tO31 hn (s := s) (3 * n) 0 gF (by omega) (gF_9 (by omega))
  rw [cp_0] at this
  rw [F_R_takesOther, if_neg (by decide), if_pos rfl]
  exact this
theorem tkV {n : Nat} (hn : n ≤ 16) (s : Mem) : F_R_takesOther 2 (nI n) s = some (0, mw (mw (cpM (Nat.beq 141) 80 (5 * n) s) 123 35 (nI n)) 123 3 0) := by
  have := tO54 hn (s := s) (5 * n) 0 gF (by omega) (gF_9 (by omega))
  rw [cp_0] at this
  rw [F_R_takesOther, if_neg (by decide), if_neg (by decide)]
  exact this
/-! the law -/
def cz2 (c : Nat) : Bool := Nat.beq c 137 || Nat.beq c 138
def cz4 (c : Nat) : Bool := Nat.beq c 133 || (Nat.beq c 134 || (Nat.beq c 135 || Nat.beq c 136))
theorem cz2_f {c : Nat} (h1 : c ≠ 137) (h2 : c ≠ 138) : cz2 c = false := by
  cases e : cz2 c with
  | false => rfl
  | true =>
    unfold cz2 at e
    rcases (Bool.or_eq_true _ _).mp e with e | e
    · exact absurd (Nat.eq_of_beq_eq_true e) h1
    · exact absurd (Nat.eq_of_beq_eq_true e) h2
theorem cz4_f {c : Nat} (h1 : c ≠ 133) (h2 : c ≠ 134) (h3 : c ≠ 135) (h4 : c ≠ 136) : cz4 c = false := by
  cases e : cz4 c with
  | false => rfl
  | true =>
    unfold cz4 at e
    rcases (Bool.or_eq_true _ _).mp e with e | e
    · exact absurd (Nat.eq_of_beq_eq_true e) h1
    · rcases (Bool.or_eq_true _ _).mp e with e | e
      · exact absurd (Nat.eq_of_beq_eq_true e) h2
      · rcases (Bool.or_eq_true _ _).mp e with e | e
        · exact absurd (Nat.eq_of_beq_eq_true e) h3
        · exact absurd (Nat.eq_of_beq_eq_true e) h4
theorem cp_s {cs : Nat → Bool} {off k c i : Nat} {s : Mem} (h : cs c = true) : (if i = k then s c (off + k) else cpM cs off k s c i) = cpM cs off (k + 1) s c i := by
  by_cases hi : i = k
  · subst hi
    rw [if_pos rfl, cp_y h (by omega)]
  · rw [if_neg hi]
    by_cases hk : i < k
    · rw [cp_y h hk, cp_y h (by omega)]
    · rw [cp_n hk, cp_n (by omega)]
theorem mw_if {s : Mem} {c k i : Nat} {v : Int32} : mw s c k v c i = if i = k then v else s c i := by
  by_cases h : i = k
  · rw [if_pos h, h, mwSelf]
  · rw [if_neg h, mw_k h]
theorem cp_2 {k : Nat} {s : Mem} : mw (mw (cpM cz2 800 k s) 137 k (s 137 (800 + k))) 138 k (s 138 (800 + k)) = cpM cz2 800 (k + 1) s := by
  funext c i
  by_cases h2 : c = 138
  · subst h2
    rw [mw_if, mw_o (by decide)]
    exact cp_s rfl
  · rw [mw_o h2]
    by_cases h1 : c = 137
    · subst h1
      rw [mw_if]
      exact cp_s rfl
    · rw [mw_o h1, cp_o (cz2_f h1 h2), cp_o (cz2_f h1 h2)]
theorem cp_4 {k : Nat} {s : Mem} : mw (mw (mw (mw (cpM cz4 32 k s) 133 k (s 133 (32 + k))) 134 k (s 134 (32 + k))) 135 k (s 135 (32 + k))) 136 k (s 136 (32 + k)) = cpM cz4 32 (k + 1) s := by
  funext c i
  by_cases h4 : c = 136
  · subst h4
    rw [mw_if, mw_o (by decide), mw_o (by decide), mw_o (by decide)]
    exact cp_s rfl
  · rw [mw_o h4]
    by_cases h3 : c = 135
    · subst h3
      rw [mw_if, mw_o (by decide), mw_o (by decide)]
      exact cp_s rfl
    · rw [mw_o h3]
      by_cases h2 : c = 134
      · subst h2
        rw [mw_if, mw_o (by decide)]
        exact cp_s rfl
      · rw [mw_o h2]
        by_cases h1 : c = 133
        · subst h1
          rw [mw_if]
          exact cp_s rfl
        · rw [mw_o h1, cp_o (cz4_f h1 h2 h3 h4), cp_o (cz4_f h1 h2 h3 h4)]
theorem z16 {k : Nat} : (16 : Int32) * 0 + nI k = nI k := by rw [show (16 : Int32) * 0 = nI 0 by decide, nI_add, Nat.zero_add]
theorem z400 {k : Nat} : (400 : Int32) * 0 + nI k = nI k := by rw [show (400 : Int32) * 0 = nI 0 by decide, nI_add, Nat.zero_add]
theorem tL69 {m u : Nat} (hu : u ≤ 400) {s : Mem} (h24 : s 123 24 = 0) (h25 : s 123 25 = nI u) : ∀ (q k f : Nat), k + q = u → q < f → F_R_takesLaw_69 f (nI m) (nI k) (cpM cz2 800 k s) = some (0, mw (cpM cz2 800 u s) 132 0 (nI m))
  | 0, k, f, hq, hf => by
    obtain ⟨g, rfl⟩ : ∃ g, f = g + 1 := ⟨f - 1, by omega⟩
    have e : k = u := by omega
    subst e
    have e1 : cpM cz2 800 k s 123 25 = nI k := (congrFun (cp_o rfl) 25).trans h25
    have e2 : cpM cz2 800 k s 123 24 = nI 0 := (congrFun (cp_o rfl) 24).trans h24
    rw [F_R_takesLaw_69, e1, if_pos (nI_le (Nat.le_refl _) (by omega)), e2, sd_in (c := 132) (k := 0) rfl (by decide) (by decide)]
    rfl
  | q + 1, k, f, hq, hf => by
    obtain ⟨g, rfl⟩ : ∃ g, f = g + 1 := ⟨f - 1, by omega⟩
    have e1 : cpM cz2 800 k s 123 25 = nI u := (congrFun (cp_o rfl) 25).trans h25
    have e2 : cpM cz2 800 k s 123 24 = 0 := (congrFun (cp_o rfl) 24).trans h24
    have e3 : (800 : Int32) + nI k = nI (800 + k) := nI_add 800 k
    have l1 : ld (cpM cz2 800 k s) 137 (nI (800 + k)) = some (s 137 (800 + k)) := cp_ld rfl (show 800 + k < 1200 by omega) (by decide)
    have s1 : sd (cpM cz2 800 k s) 137 (nI k) (s 137 (800 + k)) = some (mw (cpM cz2 800 k s) 137 k (s 137 (800 + k))) := sd_in rfl (show k < 1200 by omega) (by decide)
    have l2 : ld (mw (cpM cz2 800 k s) 137 k (s 137 (800 + k))) 138 (nI (800 + k)) = some (s 138 (800 + k)) := (ld_in rfl (show 800 + k < 1200 by omega) (by decide)).trans (congrArg some ((congrFun (mw_o (by decide)) _).trans (cp_n (by omega))))
    have e4 : mw (cpM cz2 800 k s) 137 k (s 137 (800 + k)) 123 24 = 0 := (congrFun (mw_o (by decide)) 24).trans e2
    have s2 : sd (mw (cpM cz2 800 k s) 137 k (s 137 (800 + k))) 138 (nI k) (s 138 (800 + k)) = some (mw (mw (cpM cz2 800 k s) 137 k (s 137 (800 + k))) 138 k (s 138 (800 + k))) := sd_in rfl (show k < 1200 by omega) (by decide)
    rw [F_R_takesLaw_69, e1, if_neg (nI_ge (by omega) (by omega)), e3, l1]
    simp only [Option.bind_some, e2, z400, s1, l2, e4, s2, cp_2, nI_1]
    exact tL69 hu h24 h25 q (k + 1) g (by omega) (by omega)
theorem tL2 {m : Nat} (hm : m ≤ 16) {s : Mem} (h24 : s 123 24 = 0) : ∀ (q k f : Nat), k + q = m → q < f → F_R_takesLaw_2 f (nI m) (nI k) (cpM cz4 32 k s) = F_R_takesLaw_69 gF (nI m) 0 (cpM cz4 32 m s)
  | 0, k, f, hq, hf => by
    obtain ⟨g, rfl⟩ : ∃ g, f = g + 1 := ⟨f - 1, by omega⟩
    have e : k = m := by omega
    subst e
    rw [F_R_takesLaw_2, if_pos (nI_le (Nat.le_refl _) (by omega))]
  | q + 1, k, f, hq, hf => by
    obtain ⟨g, rfl⟩ : ∃ g, f = g + 1 := ⟨f - 1, by omega⟩
    have e3 : (32 : Int32) + nI k = nI (32 + k) := nI_add 32 k
    obtain ⟨s0, h0⟩ : ∃ s0, s0 = cpM cz4 32 k s := ⟨_, rfl⟩
    have v : ∀ c, s0 c (32 + k) = s c (32 + k) := fun c => by rw [h0]; exact cp_n (by omega)
    have e24 : s0 123 24 = 0 := by rw [h0]; exact (congrFun (cp_o rfl) 24).trans h24
    have l1 : ld s0 133 (nI (32 + k)) = some (s 133 (32 + k)) := (ld_in rfl (show 32 + k < 48 by omega) (by decide)).trans (congrArg some (v 133))
    have s1 : sd s0 133 (nI k) (s 133 (32 + k)) = some (mw s0 133 k (s 133 (32 + k))) := sd_in rfl (show k < 48 by omega) (by decide)
    obtain ⟨t1, ht1⟩ : ∃ t1, t1 = mw s0 133 k (s 133 (32 + k)) := ⟨_, rfl⟩
    have o1 : ∀ c, c ≠ 133 → t1 c = s0 c := fun c hc => by rw [ht1]; exact mw_o hc
    rw [← ht1] at s1
    have l2 : ld t1 134 (nI (32 + k)) = some (s 134 (32 + k)) := (ld_in rfl (show 32 + k < 48 by omega) (by decide)).trans (congrArg some ((congrFun (o1 134 (by decide)) _).trans (v 134)))
    have s2 : sd t1 134 (nI k) (s 134 (32 + k)) = some (mw t1 134 k (s 134 (32 + k))) := sd_in rfl (show k < 48 by omega) (by decide)
    obtain ⟨t2, ht2⟩ : ∃ t2, t2 = mw t1 134 k (s 134 (32 + k)) := ⟨_, rfl⟩
    have o2 : ∀ c, c ≠ 134 → t2 c = t1 c := fun c hc => by rw [ht2]; exact mw_o hc
    rw [← ht2] at s2
    have l3 : ld t2 135 (nI (32 + k)) = some (s 135 (32 + k)) := (ld_in rfl (show 32 + k < 48 by omega) (by decide)).trans (congrArg some ((congrFun ((o2 135 (by decide)).trans (o1 135 (by decide))) _).trans (v 135)))
    have s3 : sd t2 135 (nI k) (s 135 (32 + k)) = some (mw t2 135 k (s 135 (32 + k))) := sd_in rfl (show k < 48 by omega) (by decide)
    obtain ⟨t3, ht3⟩ : ∃ t3, t3 = mw t2 135 k (s 135 (32 + k)) := ⟨_, rfl⟩
    have o3 : ∀ c, c ≠ 135 → t3 c = t2 c := fun c hc => by rw [ht3]; exact mw_o hc
    rw [← ht3] at s3
    have l4 : ld t3 136 (nI (32 + k)) = some (s 136 (32 + k)) := (ld_in rfl (show 32 + k < 48 by omega) (by decide)).trans (congrArg some ((congrFun ((o3 136 (by decide)).trans ((o2 136 (by decide)).trans (o1 136 (by decide)))) _).trans (v 136)))
    have s4 : sd t3 136 (nI k) (s 136 (32 + k)) = some (mw t3 136 k (s 136 (32 + k))) := sd_in rfl (show k < 48 by omega) (by decide)
    have f1 : t1 123 24 = 0 := by rw [o1 123 (by decide)]; exact e24
    have f2 : t2 123 24 = 0 := by rw [o2 123 (by decide)]; exact f1
    have f3 : t3 123 24 = 0 := by rw [o3 123 (by decide)]; exact f2
    have en : mw t3 136 k (s 136 (32 + k)) = cpM cz4 32 (k + 1) s := by
      rw [ht3, ht2, ht1, h0]
      exact cp_4
    rw [en] at s4
    rw [← h0, F_R_takesLaw_2, if_neg (nI_ge (by omega) (by omega)), e3, l1]
    simp only [Option.bind_some, e24, z16, s1, l2, f1, s2, l3, f2, s3, l4, f3, s4, nI_1]
    exact tL2 hm h24 q (k + 1) g (by omega) (by omega)
theorem tkL {m u : Nat} (hm : m ≤ 16) (hu : u ≤ 400) {s : Mem} (h24 : s 123 24 = 0) (h25 : s 123 25 = nI u) : F_R_takesLaw (nI m) s = some (0, mw (cpM cz2 800 u (cpM cz4 32 m s)) 132 0 (nI m)) := by
  have e1 := tL2 hm h24 m 0 gF (by omega) (gF_9 (by omega))
  rw [cp_0] at e1
  have e2 := tL69 (m := m) hu (s := cpM cz4 32 m s) ((congrFun (cp_o rfl) 24).trans h24) ((congrFun (cp_o rfl) 25).trans h25) u 0 gF (by omega) (gF_9 (by omega))
  rw [cp_0] at e2
  rw [F_R_takesLaw]
  exact e1.trans e2
/-! the class takes -/
theorem cpN {h0 d : Nat} (hk : (h0 = 15 ∧ d = 16) ∨ (h0 = 17 ∧ d = 18) ∨ (h0 = 19 ∧ d = 20)) (s : Mem) : ∃ g : Nat → Int32, (∀ k, k < 80 → g k = s 89 k) ∧ F_N_copyFrom h0 88 s = some (0, mw (rp s d g) h0 1 (s 88 1)) := by
  rcases hk with ⟨rfl, rfl⟩ | ⟨rfl, rfl⟩ | ⟨rfl, rfl⟩
  · obtain ⟨g, g1, g2⟩ := cpy_all (s := s) (c := 89) (d := 16) (n := 80) rfl rfl rfl rfl (by decide)
    refine ⟨g, g1, ?_⟩
    have e : F_N_copyFrom 15 88 s = (cpy s 89 0 16 0 (nI 80)).bind fun s1 => some (0, mw s1 15 1 (s1 88 1)) := rfl
    rw [e, g2]
    rfl
  · obtain ⟨g, g1, g2⟩ := cpy_all (s := s) (c := 89) (d := 18) (n := 80) rfl rfl rfl rfl (by decide)
    refine ⟨g, g1, ?_⟩
    have e : F_N_copyFrom 17 88 s = (cpy s 89 0 18 0 (nI 80)).bind fun s1 => some (0, mw s1 17 1 (s1 88 1)) := rfl
    rw [e, g2]
    rfl
  · obtain ⟨g, g1, g2⟩ := cpy_all (s := s) (c := 89) (d := 20) (n := 80) rfl rfl rfl rfl (by decide)
    refine ⟨g, g1, ?_⟩
    have e : F_N_copyFrom 19 88 s = (cpy s 89 0 20 0 (nI 80)).bind fun s1 => some (0, mw s1 19 1 (s1 88 1)) := rfl
    rw [e, g2]
    rfl
theorem cpLw (s : Mem) : ∃ s', F_L_copyFrom 7 80 s = some (0, s') ∧ s' 7 6 = s 80 6 ∧ (∀ k, k < 400 → s' 8 k = s 81 k) ∧ (∀ k, k < 16 → s' 9 k = s 82 k) ∧ (∀ k, k < 16 → s' 10 k = s 83 k) ∧ (∀ k, k < 16 → s' 11 k = s 84 k) ∧ (∀ k, k < 16 → s' 12 k = s 85 k) ∧ ∀ c, ¬ (7 ≤ c ∧ c ≤ 12) → s' c = s c := by
  obtain ⟨g1, a1, e1⟩ := cpy_all (s := s) (c := 81) (d := 8) (n := 400) rfl rfl rfl rfl (by decide)
  obtain ⟨s1, h1⟩ : ∃ s1, s1 = rp s 8 g1 := ⟨_, rfl⟩
  obtain ⟨g2, a2, e2⟩ := cpy_all (s := s1) (c := 82) (d := 9) (n := 16) rfl rfl rfl rfl (by decide)
  obtain ⟨s2, h2⟩ : ∃ s2, s2 = rp s1 9 g2 := ⟨_, rfl⟩
  obtain ⟨g3, a3, e3⟩ := cpy_all (s := s2) (c := 83) (d := 10) (n := 16) rfl rfl rfl rfl (by decide)
  obtain ⟨s3, h3⟩ : ∃ s3, s3 = rp s2 10 g3 := ⟨_, rfl⟩
  obtain ⟨g4, a4, e4⟩ := cpy_all (s := s3) (c := 84) (d := 11) (n := 16) rfl rfl rfl rfl (by decide)
  obtain ⟨s4, h4⟩ : ∃ s4, s4 = rp s3 11 g4 := ⟨_, rfl⟩
  obtain ⟨g5, a5, e5⟩ := cpy_all (s := s4) (c := 85) (d := 12) (n := 16) rfl rfl rfl rfl (by decide)
  obtain ⟨s5, h5⟩ : ∃ s5, s5 = rp s4 12 g5 := ⟨_, rfl⟩
  rw [← h1] at e1
  rw [← h2] at e2
  rw [← h3] at e3
  rw [← h4] at e4
  rw [← h5] at e5
  have o1 : ∀ c, c ≠ 8 → s1 c = s c := fun c hc => by rw [h1]; exact rp_o hc
  have o2 : ∀ c, c ≠ 9 → s2 c = s1 c := fun c hc => by rw [h2]; exact rp_o hc
  have o3 : ∀ c, c ≠ 10 → s3 c = s2 c := fun c hc => by rw [h3]; exact rp_o hc
  have o4 : ∀ c, c ≠ 11 → s4 c = s3 c := fun c hc => by rw [h4]; exact rp_o hc
  have o5 : ∀ c, c ≠ 12 → s5 c = s4 c := fun c hc => by rw [h5]; exact rp_o hc
  have o : ∀ c, ¬ (7 ≤ c ∧ c ≤ 12) → s5 c = s c := fun c hc => by rw [o5 c (by omega), o4 c (by omega), o3 c (by omega), o2 c (by omega), o1 c (by omega)]
  obtain ⟨s6, h6⟩ : ∃ s6, s6 = mw (mw s5 7 1 (s5 80 1)) 7 6 (mw s5 7 1 (s5 80 1) 80 6) := ⟨_, rfl⟩
  have o6 : ∀ c, c ≠ 7 → s6 c = s5 c := fun c hc => by rw [h6, mw_o hc, mw_o hc]
  refine ⟨s6, ?_, ?_, fun k hk => ?_, fun k hk => ?_, fun k hk => ?_, fun k hk => ?_, fun k hk => ?_, fun c hc => ?_⟩
  · have e : F_L_copyFrom 7 80 s = (cpy s 81 0 8 0 (nI 400)).bind fun s1 => (cpy s1 82 0 9 0 (nI 16)).bind fun s2 => (cpy s2 83 0 10 0 (nI 16)).bind fun s3 => (cpy s3 84 0 11 0 (nI 16)).bind fun s4 => (cpy s4 85 0 12 0 (nI 16)).bind fun s5 => some (0, mw (mw s5 7 1 (s5 80 1)) 7 6 (mw s5 7 1 (s5 80 1) 80 6)) := rfl
    rw [e, e1, Option.bind_some, e2, Option.bind_some, e3, Option.bind_some, e4, Option.bind_some, e5, Option.bind_some, h6]
  · rw [h6, mwSelf, mw_o (by decide), o 80 (by omega)]
  · rw [o6 8 (by decide), o5 8 (by decide), o4 8 (by decide), o3 8 (by decide), o2 8 (by decide), h1, rp_at, a1 k hk]
  · rw [o6 9 (by decide), o5 9 (by decide), o4 9 (by decide), o3 9 (by decide), h2, rp_at, a2 k hk, o1 82 (by decide)]
  · rw [o6 10 (by decide), o5 10 (by decide), o4 10 (by decide), h3, rp_at, a3 k hk, o2 83 (by decide), o1 83 (by decide)]
  · rw [o6 11 (by decide), o5 11 (by decide), h4, rp_at, a4 k hk, o3 84 (by decide), o2 84 (by decide), o1 84 (by decide)]
  · rw [o6 12 (by decide), h5, rp_at, a5 k hk, o4 85 (by decide), o3 85 (by decide), o2 85 (by decide), o1 85 (by decide)]
  · rw [o6 c (by omega), o c hc]
