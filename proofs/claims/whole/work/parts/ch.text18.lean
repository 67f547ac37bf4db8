/-! ===== text: the law's lines ===== -/
/-- a piece of both codes makes the same -/
def PC (C : List Int32) (R : List (Int32 × Int32)) (p q p' q' : Nat) : Prop := ∃ (Cp c Cs : List Int32) (Rp r Rs : List (Int32 × Int32)), C = Cp ++ (c ++ Cs) ∧ R = Rp ++ (r ++ Rs) ∧ Cp.length = p ∧ Cp.length + c.length = q ∧ Rp.length = p' ∧ Rp.length + r.length = q' ∧ ∀ fa : Nat → Int32, ∃ v, exL fa c [] = some [v] ∧ exR fa r [] = some [v]
theorem PC_a {C : List Int32} {R : List (Int32 × Int32)} {p q p' q' : Nat} (h : PC C R p q p' q') (c : List Int32) (r : List (Int32 × Int32)) : PC (C ++ c) (R ++ r) p q p' q' := by
  obtain ⟨Cp, c1, Cs, Rp, r1, Rs, rfl, rfl, h3, h4, h5, h6, h7⟩ := h
  exact ⟨Cp, c1, Cs ++ c, Rp, r1, Rs ++ r, by simp only [List.append_assoc], by simp only [List.append_assoc], h3, h4, h5, h6, h7⟩
theorem PC_n {P : Int32 → Prop} {n : Nat} {C c : List Int32} {R r : List (Int32 × Int32)} (h : eqP P n c r) (hn : n ≤ 32) : PC (C ++ c) (R ++ r) C.length (C ++ c).length R.length (R ++ r).length := by
  refine ⟨C, c, [], R, r, [], by rw [List.append_nil], by rw [List.append_nil], rfl, List.length_append.symm, rfl, List.length_append.symm, fun fa => ?_⟩
  obtain ⟨v, -, h2⟩ := h fa
  exact ⟨v, h2 [] (by show 0 + n ≤ 32; omega)⟩
theorem eqP_0 {P : Int32 → Prop} {n : Nat} {c : List Int32} {r : List (Int32 × Int32)} (h : eqP P n c r) (hn : n ≤ 32) : 0 < c.length ∧ 0 < r.length := by
  obtain ⟨v, -, h2⟩ := h (fun _ => 0)
  obtain ⟨k1, k2⟩ := h2 [] (by show 0 + n ≤ 32; omega)
  constructor
  · cases c with
    | nil =>
      have k1 : some ([] : List Int32) = some [v] := k1
      cases k1
    | cons x l => exact Nat.succ_pos _
  · cases r with
    | nil =>
      have k2 : some ([] : List Int32) = some [v] := k2
      cases k2
    | cons x l => exact Nat.succ_pos _
/-- line l of the drafts -/
def LWl (C : List Int32) (R : List (Int32 × Int32)) (a b : Mem) (l : Nat) : Prop := b 133 (32 + l) = a 82 l ∧ (a 82 l = 0 ∨ a 82 l = 1 ∨ a 82 l = 2) ∧ ∃ p q r p' q' r' : Nat, a 83 l = nI p ∧ a 84 l = nI q ∧ a 85 l = nI r ∧ p ≤ q ∧ q ≤ r ∧ r ≤ C.length ∧ b 134 (32 + l) = nI p' ∧ b 135 (32 + l) = nI q' ∧ b 136 (32 + l) = nI r' ∧ p' ≤ q' ∧ q' ≤ r' ∧ r' ≤ R.length ∧ PC C R p q p' q' ∧ (q = r ↔ q' = r') ∧ (q < r → PC C R q r q' r')
theorem LWl_a {C c : List Int32} {R r : List (Int32 × Int32)} {a b a' b' : Mem} {l : Nat} (h : LWl C R a b l) (h2 : a' 82 l = a 82 l) (h3 : a' 83 l = a 83 l) (h4 : a' 84 l = a 84 l) (h5 : a' 85 l = a 85 l) (g3 : b' 133 (32 + l) = b 133 (32 + l)) (g4 : b' 134 (32 + l) = b 134 (32 + l)) (g5 : b' 135 (32 + l) = b 135 (32 + l)) (g6 : b' 136 (32 + l) = b 136 (32 + l)) : LWl (C ++ c) (R ++ r) a' b' l := by
  obtain ⟨k1, k2, p, q, x, p', q', x', m1, m2, m3, m4, m5, m6, m7, m8, m9, m10, m11, m12, m13, m14, m15⟩ := h
  unfold LWl
  rw [h2, h3, h4, h5, g3, g4, g5, g6]
  exact ⟨k1, k2, p, q, x, p', q', x', m1, m2, m3, m4, m5, by rw [List.length_append]; omega, m7, m8, m9, m10, m11, by rw [List.length_append]; omega, PC_a m13 c r, m14, fun hh => PC_a (m15 hh) c r⟩
theorem wrA {s : Mem} {c k : Nat} {v : Int32} (hc : c = 82 ∨ c = 83 ∨ c = 84 ∨ c = 85) (hk : k < 16) : ∃ s', sd s c (nI k) v = some s' ∧ frA s s' ∧ s' c k = v ∧ (∀ i, i ≠ k → s' c i = s c i) ∧ ∀ d, d ≠ c → s' d = s d := by
  refine ⟨mw s c k v, ?_, ?_, mwSelf _ _ _ _, fun i hi => mw_k hi, fun d hd => mw_o hd⟩
  · rcases hc with rfl | rfl | rfl | rfl
    · exact sd_in rfl (show k < 16 from hk) (by decide)
    · exact sd_in rfl (show k < 16 from hk) (by decide)
    · exact sd_in rfl (show k < 16 from hk) (by decide)
    · exact sd_in rfl (show k < 16 from hk) (by decide)
  · rcases hc with rfl | rfl | rfl | rfl
    · exact frA_mw rfl (by decide)
    · exact frA_mw rfl (by decide)
    · exact frA_mw rfl (by decide)
    · exact frA_mw rfl (by decide)
theorem wrB {s : Mem} {c m : Nat} {v : Int32} (hc : c = 133 ∨ c = 134 ∨ c = 135 ∨ c = 136) (hm : m < 16) : ∃ s', sd s c (nI (32 + m)) v = some s' ∧ frB s s' ∧ (∀ (t : Nat → Nat) (n : Nat) (L : List (Nat × Nat × Nat × Nat)) (j : Nat), PSt s t n L j → PSt s' t n L j) ∧ s' c (32 + m) = v ∧ (∀ i, i ≠ 32 + m → s' c i = s c i) ∧ ∀ d, d ≠ c → s' d = s d := by
  have x1 : 32 + m < 48 := by omega
  have x2 : 16 ≤ 32 + m := by omega
  rcases hc with rfl | rfl | rfl | rfl
  · obtain ⟨s', k1, -, k3, k4, k5, k6, k7⟩ := wrR (s := s) (c := 133) (k := 32 + m) (v := v) rfl x1 (by decide) (blt_f x2) (by decide)
    exact ⟨s', k1, k3, k4, k5, k6, k7⟩
  · obtain ⟨s', k1, -, k3, k4, k5, k6, k7⟩ := wrR (s := s) (c := 134) (k := 32 + m) (v := v) rfl x1 (by decide) (blt_f x2) (by decide)
    exact ⟨s', k1, k3, k4, k5, k6, k7⟩
  · obtain ⟨s', k1, -, k3, k4, k5, k6, k7⟩ := wrR (s := s) (c := 135) (k := 32 + m) (v := v) rfl x1 (by decide) (blt_f x2) (by decide)
    exact ⟨s', k1, k3, k4, k5, k6, k7⟩
  · obtain ⟨s', k1, -, k3, k4, k5, k6, k7⟩ := wrR (s := s) (c := 136) (k := 32 + m) (v := v) rfl x1 (by decide) (blt_f x2) (by decide)
    exact ⟨s', k1, k3, k4, k5, k6, k7⟩
theorem ST_wa {a a' b : Mem} {t : Nat → Nat} {n j sc sr c : Nat} {L : List (Nat × Nat × Nat × Nat)} {C : List Int32} {R : List (Int32 × Int32)} (h : ST a b t n L j C R sc sr) (hc : c = 82 ∨ c = 83 ∨ c = 84 ∨ c = 85) (k : ∀ d, d ≠ c → a' d = a d) : ST a' b t n L j C R sc sr := ⟨ATt_o h.1 (k 76 (by omega)) (k 77 (by omega)) (k 78 (by omega)) (k 79 (by omega)), h.2.1, ⟨by rw [k 80 (by omega)]; exact h.2.2.1.1, fun i hi => by rw [k 81 (by omega)]; exact h.2.2.1.2 i hi⟩, h.2.2.2⟩
theorem ST_wb {a b b' : Mem} {t : Nat → Nat} {n j sc sr c : Nat} {L : List (Nat × Nat × Nat × Nat)} {C : List Int32} {R : List (Int32 × Int32)} (h : ST a b t n L j C R sc sr) (hc : c = 133 ∨ c = 134 ∨ c = 135 ∨ c = 136) (hp : ∀ (t : Nat → Nat) (n : Nat) (L : List (Nat × Nat × Nat × Nat)) (j : Nat), PSt b t n L j → PSt b' t n L j) (k : ∀ d, d ≠ c → b' d = b d) : ST a b' t n L j C R sc sr := ⟨h.1, hp _ _ _ _ h.2.1, h.2.2.1, ⟨by rw [k 123 (by omega)]; exact h.2.2.2.1.1, fun i hi => by rw [k 137 (by omega), k 138 (by omega)]; exact h.2.2.2.1.2 i hi⟩, h.2.2.2.2⟩
theorem LfE {a : Mem} {m : Nat} (h : a 80 6 = nI m) (hm : m ≤ 16) : F_L_isFull a = some (if m = 16 then 1 else 0, a) := by
  rw [F_L_isFull, h, C_within]
  simp only [Option.bind_some]
  by_cases c : m = 16
  · subst c
    rw [if_pos rfl, if_neg (show ¬ ((0 : Int32) ≤ nI 16 ∧ nI 16 ≤ 15) by decide), if_pos rfl]
  · rw [if_neg c, if_pos (show (0 : Int32) ≤ nI m ∧ nI m ≤ 15 from ⟨nI_pos' (by omega), nI_le (b := 15) (by omega) (by decide)⟩), if_neg (show ¬ (1 : Int32) = 0 by decide)]
/-! the end of a line -/
noncomputable def enC (K : Mem → Option (Int32 × Mem)) (s : Mem) : Option (Int32 × Mem) := (F_P_take 59 s).bind fun z13 => if z13.1 = 0 then some (0, z13.2) else (F_L_endLine z13.2).bind fun z14 => K z14.2
noncomputable def enR (K : Mem → Option (Int32 × Mem)) (x1 : Int32) (s : Mem) : Option (Int32 × Mem) := (sd s 136 (32 + x1) (s 123 25)).bind fun s16 => (F_R_isSign 59 s16).bind fun z17 => if z17.1 = 0 then (F_R_errs 1 z17.2).bind fun z18 => some (z18.1, z18.2) else (F_R_reads z17.2).bind fun z19 => K z19.2
theorem jE {a b : Mem} {t : Nat → Nat} {n j m : Nat} {L : List (Nat × Nat × Nat × Nat)} {C : List Int32} {R : List (Int32 × Int32)} (h : ST a b t n L j C R 0 0) (h6 : a 80 6 = nI m) (hm : m < 16) : (∃ a' b', (∀ K, enC K a = K a') ∧ (∀ K, enR K (nI m) b = K b') ∧ ST a' b' t n L (j + 1) C R 0 0 ∧ a' 80 6 = nI (m + 1) ∧ (b' 123 26 = b 123 26 ∧ b' 123 24 = b 123 24) ∧ a' 85 m = nI C.length ∧ b' 136 (32 + m) = nI R.length ∧ (∀ i, i ≠ m → a' 85 i = a 85 i) ∧ (∀ i, i ≠ 32 + m → b' 136 i = b 136 i) ∧ a' 82 = a 82 ∧ a' 83 = a 83 ∧ a' 84 = a 84 ∧ b' 133 = b 133 ∧ b' 134 = b 134 ∧ b' 135 = b 135 ∧ frA a a' ∧ frB b b') ∨ ∃ a' b', (∀ K, enC K a = some (0, a')) ∧ (∀ K, enR K (nI m) b = some (-1, b')) ∧ flY a b a' b' := by
  have e32 : (32 : Int32) + nI m = nI (32 + m) := nI_add 32 m
  obtain ⟨b1, s1, fB1, P1, w1, o1, q1⟩ := wrB (s := b) (c := 136) (m := m) (v := nI R.length) (by omega) hm
  have S1 := ST_wb h (c := 136) (by omega) P1 q1
  have k66 := tk_ne h.2.1
  have e25 : b 123 25 = nI R.length := h.2.2.2.1.1
  have tk : F_P_take 59 a = some (if nI (tkN L j).1 = nI 59 then (1, avM a j) else (0, flM a L j 1)) := takeE h.1 (nI 59)
  have i59 : F_R_isSign 59 b1 = some (if (tkN L j).1 = 59 then 1 else 0, b1) := isSE (w := 59) S1.2.1 (by decide)
  by_cases c : (tkN L j).1 = 59
  · rw [if_pos (by rw [c])] at tk
    rw [if_pos c] at i59
    obtain ⟨b2, r2, fs, ft, S2, av, j4⟩ := ST_n S1 (by omega)
    obtain ⟨a2, s2, fA2, w2, o2, q2⟩ := wrA (s := avM a j) (c := 85) (k := m) (v := nI C.length) (by omega) hm
    have h6' : avM a j 80 6 = nI m := (congrFun (av_o (by decide)) 6).trans h6
    have u1 : avM a j 80 1 = nI C.length := S2.2.2.1.1
    have f := LfE h6' (by omega)
    rw [if_neg (by omega)] at f
    have z6 : a2 80 6 = nI m := by rw [q2 80 (by decide)]; exact h6'
    have eL : F_L_endLine (avM a j) = some (0, mw a2 80 6 (nI (m + 1))) := by
      rw [F_L_endLine, f]
      simp only [Option.bind_some, if_true, h6', u1, s2, z6, nI_1]
    have S3 : ST a2 b2 t n L (j + 1) C R 0 0 := by
      have := ST_wa S2 (c := 85) (by omega) q2
      exact ⟨this.1, this.2.1, this.2.2.1, this.2.2.2.1, by have := this.2.2.2.2.1; omega, by have := this.2.2.2.2.2; omega⟩
    have o80 : ∀ d, d ≠ 80 → mw a2 80 6 (nI (m + 1)) d = a2 d := fun d hd => mw_o hd
    refine Or.inl ⟨mw a2 80 6 (nI (m + 1)), b2, fun K => ?_, fun K => ?_, ⟨ATt_o S3.1 (o80 _ (by decide)) (o80 _ (by decide)) (o80 _ (by decide)) (o80 _ (by decide)), S3.2.1, ⟨(mw_k (by decide)).trans S3.2.2.1.1, fun i hi => by rw [o80 _ (by decide)]; exact S3.2.2.1.2 i hi⟩, S3.2.2.2⟩, mwSelf _ _ _ _, ⟨fs.2.2.1.trans (congrFun (q1 123 (by decide)) 26), (fs.1.2.1 24 (by decide)).trans (congrFun (q1 123 (by decide)) 24)⟩, by rw [o80 _ (by decide)]; exact w2, ?_, fun i hi => ?_, fun i hi => ?_, ?_, ?_, ?_, ?_, ?_, ?_, frA_t (frA_mw rfl (by decide)) (frA_t fA2 (frA_mw rfl (by decide))), frB_t fB1 (frB_Q fs.1)⟩
    · simp only [enC, tk, Option.bind_some, one0, if_false, eL]
    · simp only [enR, e32, e25, s1, Option.bind_some, i59, one0, if_false, r2]
    · rw [fs.1.1 136 (by decide) (by decide) (by decide) (by decide)]; exact w1
    · rw [o80 _ (by decide), o2 i hi]; exact congrFun (av_o (by decide)) i
    · rw [fs.1.1 136 (by decide) (by decide) (by decide) (by decide)]; exact o1 i hi
    · rw [o80 _ (by decide), q2 82 (by decide)]; exact av_o (by decide)
    · rw [o80 _ (by decide), q2 83 (by decide)]; exact av_o (by decide)
    · rw [o80 _ (by decide), q2 84 (by decide)]; exact av_o (by decide)
    · rw [fs.1.1 133 (by decide) (by decide) (by decide) (by decide)]; exact q1 133 (by decide)
    · rw [fs.1.1 134 (by decide) (by decide) (by decide) (by decide)]; exact q1 134 (by decide)
    · rw [fs.1.1 135 (by decide) (by decide) (by decide) (by decide)]; exact q1 135 (by decide)
  · rw [if_neg (fun q => c ((nI_eq (by omega) (by decide)).mp q))] at tk
    rw [if_neg c] at i59
    refine Or.inr ⟨flM a L j 1, erM b1 L j 1, fun K => ?_, fun K => ?_, flY_t (frA_0 a) fB1 flY_1⟩
    · simp only [enC, tk, Option.bind_some, if_true]
    · simp only [enR, e32, e25, s1, Option.bind_some, i59, if_true, errE S1.2.1 1]
