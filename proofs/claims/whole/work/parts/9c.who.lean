/-! ===== who ===== -/
/-- as menA, without the trait that is looser -/
def menW (a b : Mem) (h0 c f i : Nat) : Prop := (∀ t, t < 7 → t ≠ 1 → b 124 (5 + 96 * t + (16 * f + i)) = a c (96 * (t + 1) + 16 * f + i)) ∧ b 128 (16 * f + i) = a c (16 * f + i) ∧ b 124 0 = a h0 5
theorem FCW {a b : Mem} {h0 c f i : Nat} {lz w st : Int32} (hi : i < 16) (hm : menW a b h0 c f i) (hlz : lz = a c (96 * 2 + 16 * f + i)) : ∀ k, k < 11 → FC a h0 c f i w st k = FM b (16 * f + i) lz w st k := by
  obtain ⟨m1, m2, m3⟩ := hm
  have e : ∀ t off, t < 7 ∧ t ≠ 1 → off = 5 + 96 * t → a c (96 * (t + 1) + 16 * f + i) = b 124 (off + (16 * f + i)) := fun t off ht ho => by rw [ho]; exact (m1 t ht.1 ht.2).symm
  intro k hk
  rcases (show k = 0 ∨ k = 1 ∨ k = 2 ∨ k = 3 ∨ k = 4 ∨ k = 5 ∨ k = 6 ∨ k = 7 ∨ k = 8 ∨ k = 9 ∨ k = 10 by omega) with rfl | rfl | rfl | rfl | rfl | rfl | rfl | rfl | rfl | rfl | rfl
  · rfl
  · exact e 0 5 (by decide) rfl
  · exact hlz.symm
  · exact e 2 197 (by decide) rfl
  · exact e 4 389 (by decide) rfl
  · show a c (96 * 0 + 16 * f + i) = b 128 (16 * f + i)
    rw [m2, Nat.mul_zero, Nat.zero_add]
  · show nI i = nI ((16 * f + i) % 16)
    rw [show (16 * f + i) % 16 = i by omega]
  · exact e 5 485 (by decide) rfl
  · exact e 6 581 (by decide) rfl
  · rfl
  · exact m3.symm
theorem ask_pairW {a b : Mem} {h0 c f i : Nat} {word w st : Int32} (hw : word = 0 ∨ word = 1 ∨ word = 2) (h1 : kd h0 = 4) (h2 : rf h0 0 = c) (h3 : kd c = 1) (h4 : ln c = 864) (hc : c ≠ 13) (hh : h0 ≠ 13) (hf : f < 6) (hi : i < 16) (hL : LwR a b) (hm : menW a b h0 c f i) (hlo : (if b 124 (101 + (16 * f + i)) + b 123 41 ≤ 9 then b 124 (101 + (16 * f + i)) + b 123 41 else 9) = a c (96 * 2 + 16 * f + i)) : ∃ (r : Nat) (ga gb : Nat → Int32), r ≤ 1000 ∧ (word = 1 → r ≤ 99) ∧ (word = 2 → r ≤ 9) ∧ F_L_ask word h0 (nI f) (nI i) w st a = some (nI r, rp (rp a 13 (FC a h0 c f i w st)) 14 ga) ∧ (F_R_asks (nI (16 * f + i)) w st b).bind (fun z => F_R_lawTells word (unW word (z.2 143)) (mostW word) z.2) = some (nI r, rp (rp b 143 (FM b (16 * f + i) (a c (96 * 2 + 16 * f + i)) w st)) 144 gb) := by
  obtain ⟨n, hn, e1, e2, e3⟩ := hL
  have hfa : ∀ k, k < 11 → FC a h0 c f i w st k = FM b (16 * f + i) (a c (96 * 2 + 16 * f + i)) w st k := FCW hi hm rfl
  obtain ⟨x, hx⟩ := fst_ex (rp a 13 (FC a h0 c f i w st)) (FC a h0 c f i w st) word n n 0 (Nat.zero_add n)
  obtain ⟨r, r1, r2, r3, r4⟩ := hold_b (askV (rp a 13 (FC a h0 c f i w st)) (FC a h0 c f i w st) word x) word hw
  obtain ⟨ga, hga⟩ := askC (s := rp a 13 (FC a h0 c f i w st)) (b := rp b 143 (FM b (16 * f + i) (a c (96 * 2 + 16 * f + i)) w st)) hw hn e1 e3 n 0 gF ((rp a 13 (FC a h0 c f i w st)) 14) x (Nat.zero_add n) (by rw [gF_eq]; omega) hx
  obtain ⟨gb, hgb⟩ := askM (a := rp a 13 (FC a h0 c f i w st)) (t := rp b 143 (FM b (16 * f + i) (a c (96 * 2 + 16 * f + i)) w st)) (fa := FC a h0 c f i w st) hn e2 e3 hfa hx (mostW word)
  refine ⟨r, ga, gb, r1, r3, r4, ?_, ?_⟩
  · unfold F_L_ask
    rw [L_learn h1 h2 h3 h4 hc hh hf hi]
    rw [rp_id] at hga
    rw [← r2]
    exact hga
  · rw [R_asks (show 16 * f + i < 96 by omega) hlo]
    have hu : unW word (FM b (16 * f + i) (a c (96 * 2 + 16 * f + i)) w st) = unW word (FC a h0 c f i w st) := by
      unfold unW
      rw [hfa 0 (by decide), hfa 1 (by decide), hfa 2 (by decide), hfa 4 (by decide)]
    show F_R_lawTells word (unW word (FM b (16 * f + i) (a c (96 * 2 + 16 * f + i)) w st)) (mostW word) _ = _
    rw [hu, ← r2]
    exact hgb
/-- alike but for the places where asking writes -/
def eqA (a' a : Mem) : Prop := ∀ c, c ≠ 13 → c ≠ 14 → a' c = a c
def eqB (b' b : Mem) : Prop := ∀ c, c ≠ 143 → c ≠ 144 → b' c = b c
theorem eqA_rf (a : Mem) : eqA a a := fun _ _ _ => rfl
theorem eqB_rf (b : Mem) : eqB b b := fun _ _ _ => rfl
theorem eqA_tr {x y z : Mem} (h : eqA x y) (k : eqA y z) : eqA x z := fun c c1 c2 => (h c c1 c2).trans (k c c1 c2)
theorem eqB_tr {x y z : Mem} (h : eqB x y) (k : eqB y z) : eqB x z := fun c c1 c2 => (h c c1 c2).trans (k c c1 c2)
/-- who comes: weights and strides -/
def VR (n : Nat) (a b : Mem) : Prop := n ≤ 8 ∧ a 22 1 = nI n ∧ b 123 43 = nI n ∧ ∀ k, k < n → b 146 k = a 23 k ∧ ∃ p, 1 ≤ p ∧ p ≤ 5 ∧ a 25 k = nI p ∧ b 147 k = nI p
theorem VR_of {a b : Mem} (h : TR a b) : ∃ n, VR n a b := by
  obtain ⟨⟨n, n1, n2, n3, n4, n5⟩, ⟨m, m1, m2, m3, m4, m5⟩, -⟩ := h
  rw [n3] at m3
  have e : n = m := (nI_eq (by omega) (by omega)).mp m3
  subst e
  refine ⟨n, n1, n2, n3, fun k hk => ⟨n4 k (by omega), ?_⟩⟩
  obtain ⟨p, p1, p2, p3⟩ := m5 k hk
  exact ⟨p, p1, p2, p3, (m4 k (by omega)).trans p3⟩
theorem VR_e {n : Nat} {a a' b b' : Mem} (h : VR n a b) (h1 : ∀ c, 22 ≤ c → c ≤ 25 → a' c = a c) (h2 : b' 123 43 = b 123 43) (h3 : b' 146 = b 146) (h4 : b' 147 = b 147) : VR n a' b' := by
  obtain ⟨n1, n2, n3, n4⟩ := h
  refine ⟨n1, by rw [h1 22 (by decide) (by decide)]; exact n2, by rw [h2]; exact n3, fun k hk => ?_⟩
  rw [h1 23 (by decide) (by decide), h1 25 (by decide) (by decide), h3, h4]
  exact n4 k hk
/-- a step of a flight, asked in house h by the class -/
def QA (h n : Nat) (a b : Mem) (f i : Nat) : Prop := f < 6 ∧ i < 16 ∧ LwR a b ∧ menW a b h (h + 1) f i ∧ (if b 124 (101 + (16 * f + i)) + b 123 41 ≤ 9 then b 124 (101 + (16 * f + i)) + b 123 41 else 9) = a (h + 1) (96 * 2 + 16 * f + i) ∧ VR n a b
theorem QA_e {h n f i : Nat} {a a' b b' : Mem} (hh : okH h) (e1 : eqA a' a) (e2 : eqB b' b) (q : QA h n a b f i) : QA h n a' b' f i := by
  obtain ⟨q1, q2, q3, q4, q5, q6⟩ := q
  have n13 : h ≠ 13 ∧ h ≠ 14 ∧ h + 1 ≠ 13 ∧ h + 1 ≠ 14 := by rcases hh with rfl | rfl <;> decide
  have ah := e1 h n13.1 n13.2.1
  have am := e1 (h + 1) n13.2.2.1 n13.2.2.2
  have b124 := e2 124 (by decide) (by decide)
  have b123 := e2 123 (by decide) (by decide)
  have b128 := e2 128 (by decide) (by decide)
  refine ⟨q1, q2, LwR_c (fun c c1 c2 => e1 c (by omega) (by omega)) (fun c c1 c2 => e2 c (by omega) (by omega)) q3, ⟨fun t t1 t2 => ?_, ?_, ?_⟩, ?_, VR_e q6 (fun c c1 c2 => e1 c (by omega) (by omega)) (by rw [b123]) (e2 146 (by decide) (by decide)) (e2 147 (by decide) (by decide))⟩
  · rw [b124, am]; exact q4.1 t t1 t2
  · rw [b128, am]; exact q4.2.1
  · rw [b124, ah]; exact q4.2.2
  · rw [b124, b123, am]; exact q5
theorem mk_pair {h n f i k : Nat} {a b : Mem} (hh : okH h) (q : QA h n a b f i) (hk : k < n) : ∃ (v : Int32) (a' b' : Mem), (v = 0 ∨ v = 1) ∧ F_U_makesCreak h (nI f) (nI i) (nI k) a = some (v, a') ∧ F_R_wouldCreak (nI k) (nI f) (nI i) b = some (v, b') ∧ eqA a' a ∧ eqB b' b := by
  obtain ⟨f6, i16, q3, q4, q5, n1, n2, n3, n4⟩ := q
  obtain ⟨w1, p, p1, p5, w2, w3⟩ := n4 k hk
  obtain ⟨k1, k2, k3, k4, k5, k6, k7, k8, k9⟩ := okH_f hh
  have kb : Nat.beq (kd h) 4 = true := by rw [k1]; rfl
  have a24 : F_W_at 24 (nI k) a = some (nI p, a) := (W_at (o := 24) (c := 25) (len := 8) rfl rfl rfl rfl (by decide) a (show k < 8 by omega)).trans (by rw [w2])
  have a22 : F_W_at 22 (nI k) a = some (a 23 k, a) := W_at (o := 22) (c := 23) (len := 8) rfl rfl rfl rfl (by decide) a (show k < 8 by omega)
  have em : (if nI p < 1 then (1 : Int32) else nI p) = nI p := if_neg (nI_nlt (b := 1) (by omega) (by omega))
  have p0 : ¬ nI p = 0 := nI_ne0 (by omega) (by omega)
  have ei : irm (nI (i + 1)) (nI p) = nI ((i + 1) % p) := n_irm (by omega) (by omega) (by omega)
  have l147 : ld b 147 (nI k) = some (nI p) := (ld_in rfl (Nat.lt_of_lt_of_le (show k < 8 by omega) (by decide)) (by decide)).trans (congrArg some w3)
  have l146 : ld b 146 (nI k) = some (a 23 k) := (ld_in rfl (Nat.lt_of_lt_of_le (show k < 8 by omega) (by decide)) (by decide)).trans (congrArg some w1)
  have pg : F_H_get h 4 (nI f) (nI i) a = some (a (h + 1) (96 * (3 + 1) + 16 * f + i), a) := H_get (t := 4) k1 k2 k4 k5 (by decide) f6 i16
  have pm : ld b 124 (293 + nI (16 * f + i)) = some (a (h + 1) (96 * (3 + 1) + 16 * f + i)) := by
    rw [show (293 : Int32) + nI (16 * f + i) = nI (5 + 96 * 3 + (16 * f + i)) from nI_add 293 _]
    exact (ld_in rfl (show 5 + 96 * 3 + (16 * f + i) < 773 by omega) (by decide)).trans (congrArg some (q4.1 3 (by decide) (by decide)))
  by_cases c0 : nI ((i + 1) % p) = 0
  · by_cases c2 : a (h + 1) (96 * (3 + 1) + 16 * f + i) = 2
    · refine ⟨0, a, b, Or.inl rfl, ?_, ?_, eqA_rf a, eqB_rf b⟩
      · simp only [F_U_makesCreak, a24, Option.bind_some, C_max, em, if_neg p0, nI_1, ei, if_pos c0, kb, cond_true, F_H_isMissing, pg, if_pos c2, one0, if_false]
      · simp only [F_R_wouldCreak, l147, Option.bind_some, if_neg p0, nI_1, ei, if_pos c0, n16, F_R_isGone, pm, if_pos c2, one0, if_false]
    · obtain ⟨r, ga, gb, r1, -, -, e1, e2⟩ := ask_pairW (word := 0) (w := a 23 k) (st := nI p) (Or.inl rfl) k1 k2 k4 k5 k8 k9 f6 i16 q3 q4 q5
      have e2' : F_R_creaksOf (nI (16 * f + i)) (a 23 k) (nI p) b = some (nI r, rp (rp b 143 (FM b (16 * f + i) (a (h + 1) (96 * 2 + 16 * f + i)) (a 23 k) (nI p))) 144 gb) := by rw [R_creaksOf, e2]; rfl
      have x1 : (nI r < 500) ↔ r < 500 := nI_ltI (b := 500) (by omega) (by decide)
      have x2 : (2 * nI r < 1000) ↔ 2 * r < 1000 := by
        rw [show (2 : Int32) * nI r = nI (2 * r) from n_mul 2 r]
        exact nI_ltI (b := 1000) (by omega) (by decide)
      have o1 : eqA (rp (rp a 13 (FC a h (h + 1) f i (a 23 k) (nI p))) 14 ga) a := fun c c1 c2 => by rw [rp_o c2, rp_o c1]
      have o2 : eqB (rp (rp b 143 (FM b (16 * f + i) (a (h + 1) (96 * 2 + 16 * f + i)) (a 23 k) (nI p))) 144 gb) b := fun c c1 c2 => by rw [rp_o c2, rp_o c1]
      by_cases c5 : r < 500
      · refine ⟨0, _, _, Or.inl rfl, ?_, ?_, o1, o2⟩
        · simp only [F_U_makesCreak, a24, Option.bind_some, C_max, em, if_neg p0, nI_1, ei, if_pos c0, kb, cond_true, F_H_isMissing, pg, if_neg c2, if_true, a22, F_U_wouldCreak, e1, if_pos (x1.mpr c5), show ((0 : Int32) &&& 1 = 0) = True from by decide]
        · simp only [F_R_wouldCreak, l147, Option.bind_some, if_neg p0, nI_1, ei, if_pos c0, n16, F_R_isGone, pm, if_neg c2, if_true, l146, F_R_doesCreak, e2', if_pos (x2.mpr (by omega))]
      · refine ⟨1, _, _, Or.inr rfl, ?_, ?_, o1, o2⟩
        · simp only [F_U_makesCreak, a24, Option.bind_some, C_max, em, if_neg p0, nI_1, ei, if_pos c0, kb, cond_true, F_H_isMissing, pg, if_neg c2, if_true, a22, F_U_wouldCreak, e1, if_neg (fun z => c5 (x1.mp z)), show ((1 : Int32) &&& 1 = 1) = True from by decide]
        · simp only [F_R_wouldCreak, l147, Option.bind_some, if_neg p0, nI_1, ei, if_pos c0, n16, F_R_isGone, pm, if_neg c2, if_true, l146, F_R_doesCreak, e2', if_neg (fun z => c5 (by have := x2.mp z; omega)), one0, if_false]
  · refine ⟨0, a, b, Or.inl rfl, ?_, ?_, eqA_rf a, eqB_rf b⟩
    · simp only [F_U_makesCreak, a24, Option.bind_some, C_max, em, if_neg p0, nI_1, ei, if_neg c0]
    · simp only [F_R_wouldCreak, l147, Option.bind_some, if_neg p0, nI_1, ei, if_neg c0]
