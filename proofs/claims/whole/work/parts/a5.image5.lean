/-! ===== image: the call ===== -/
set_option maxRecDepth 100000 in
theorem sqG : ∀ j, j < 2580 → ¬ ((sq j).1 = 123 ∧ ((sq j).2 = 0 ∨ (sq j).2 = 69 ∨ (sq j).2 = 70 ∨ (sq j).2 = 71 ∨ (sq j).2 = 3 ∨ (sq j).2 = 11 ∨ (sq j).2 = 31 ∨ (sq j).2 = 32 ∨ (sq j).2 = 5 ∨ (sq j).2 = 41)) ∧ (sq j).1 ≠ 130 ∧ (sq j).1 ≠ 131 ∧ rel (sq j).1 (sq j).2 = true := by decide +kernel
theorem lenA_c {c k : Nat} (h : k < lenA c) : 2 ≤ c ∧ c ≤ 36 ∧ c ≠ 13 ∧ c ≠ 14 ∧ rel c k = true ∧ rel (c + 36) k = true := by
  have h1 : ∀ c, c < 37 → 0 < lenA c → 2 ≤ c ∧ c ≠ 13 ∧ c ≠ 14 ∧ nth 0 relT c = 1 ∧ nth 0 relT (c + 36) = 1 := by decide +kernel
  have h2 : ¬ 37 ≤ c := fun q => by
    obtain ⟨n, rfl⟩ : ∃ n, c = n + 37 := ⟨c - 37, by omega⟩
    have : lenA (n + 37) = 0 := rfl
    omega
  obtain ⟨a1, a2, a3, a4, a5⟩ := h1 c (by omega) (by omega)
  refine ⟨a1, by omega, a2, a3, ?_, ?_⟩
  · unfold rel
    rw [a4]
    rfl
  · unfold rel
    rw [a5]
    rfl
def cA (a : Mem) : Mem := fun c => if 37 ≤ c ∧ c ≤ 72 then fun _ => 0 else if c = 0 then fun k => if k = 2 then 0 else a 0 k else a c
def cB (b : Mem) : Mem := fun c => if c = 163 then fun _ => 0 else if c = 123 then fun k => if k = 70 then 0 else b 123 k else b c
theorem UM_c {a a' b b' : Mem} (h1 : cA a' = cA a) (h2 : cB b' = cB b) (h : UR2 a b ∧ MR2 a b) : UR2 a' b' ∧ MR2 a' b' := by
  have h0 : UR2 (cA a) (cB b) ∧ MR2 (cA a) (cB b) := h
  rw [← h1, ← h2] at h0
  exact h0
theorem rel123 {k : Nat} (h : rel 123 k = true) : k ≠ 0 ∧ k ≠ 69 ∧ k ≠ 71 := by
  refine ⟨fun q => ?_, fun q => ?_, fun q => ?_⟩ <;> (subst q; exact absurd h (by decide))
theorem p_image (x : Int32) (hx : x = 0 ∨ x = 1) : Pair I2 I2 (F_C_image x) (F_R_image x) := by
  intro a b h
  have h' : J2 (prj a) (prj b) := h
  obtain ⟨hRR, ⟨hK1, hK2⟩, hUR, hMR⟩ := id h'
  have hK1 : b 123 70 = a 0 2 := hK1
  obtain ⟨s0, hs0⟩ : ∃ s0, s0 = mw (mw (mw (mw b 123 0 0) 123 69 x) 123 70 1) 123 71 0 := ⟨_, rfl⟩
  have o0 : ∀ c k, ¬ (c = 123 ∧ (k = 0 ∨ k = 69 ∨ k = 70 ∨ k = 71)) → s0 c k = b c k := fun c k n => by
    rw [hs0, mw_x (fun q => n ⟨q.1, Or.inr (Or.inr (Or.inr q.2))⟩), mw_x (fun q => n ⟨q.1, Or.inr (Or.inr (Or.inl q.2))⟩), mw_x (fun q => n ⟨q.1, Or.inr (Or.inl q.2)⟩), mw_x (fun q => n ⟨q.1, Or.inl q.2⟩)]
  have o70 : s0 123 70 = 1 := by rw [hs0, mw_x (by decide), mw_y]
  have o71 : s0 123 71 = 0 := by rw [hs0, mw_y]
  have o69 : s0 123 69 = x := by rw [hs0, mw_x (by decide), mw_x (by decide), mw_y]
  have osq : ∀ j, j < 2580 → s0 (sq j).1 (sq j).2 = b (sq j).1 (sq j).2 := fun j hj => o0 _ _ (fun q => (sqG j hj).1 ⟨q.1, by
    rcases q.2 with q | q | q | q
    · exact Or.inl q
    · exact Or.inr (Or.inl q)
    · exact Or.inr (Or.inr (Or.inl q))
    · exact Or.inr (Or.inr (Or.inr (Or.inl q)))⟩)
  rcases hx with rfl | rfl
  · by_cases c0 : a 0 2 = 0
    · have e70 : (mw b 123 0 0) 123 70 = 0 := by rw [mw_x (by decide), hK1, c0]
      refine ⟨0, a, mw b 123 0 0, ?_, ?_, I2_0 h, fun _ _ => rfl, fun c hc => mw_o (by omega)⟩
      · simp only [F_C_image, if_true, if_pos c0]
      · simp only [F_R_image, if_true, if_pos e70]
    · obtain ⟨hK3, hK4⟩ : a 0 2 = 1 ∧ RR (kv (prj a)) (iv (prj b)) := hK2.resolve_left c0
      have e70 : ¬ (mw b 123 0 0) 123 70 = 0 := by rw [mw_x (by decide), hK1, hK3]; decide
      obtain ⟨a1, y1, y2⟩ := cpG_b a
      obtain ⟨s', z1, z2⟩ := im_R (t := false) (s0 := s0) (x1 := 0) o71 (by rw [o69]; rfl)
      rw [if_pos rfl] at z1
      obtain ⟨k1, k2, -, k3⟩ := z2
      obtain ⟨k4, k5⟩ := k3 rfl
      have ao : ∀ c, 37 ≤ c → (mw a1 0 6 0) c = a c := fun c hc => by
        rw [mw_o (by omega)]
        exact y2.2 c (fun c' hc' => by omega)
      have a0 : ∀ k, k ≠ 6 → (mw a1 0 6 0) 0 k = a 0 k := fun k hk => by
        rw [mw_n hk, y2.2 0 (fun c' hc' => by omega)]
      have bo : ∀ c, c < 123 → (mw s' 123 3 0) c = b c := fun c hc => by
        rw [mw_o (by omega)]
        funext k
        rw [k5 c k (fun j hj q => by have := (sqF j hj).2.2.2.2; omega) (fun q => by omega)]
        exact o0 c k (fun q => by omega)
      have b163 : (mw s' 123 3 0) 163 = b 163 := by
        rw [mw_o (by decide)]
        funext k
        rw [k5 163 k (fun j hj q => (sqF j hj).1 q.1) (fun q => absurd q.1 (by decide))]
        exact o0 163 k (fun q => absurd q.1 (by decide))
      have bsq : ∀ j, j < 2580 → (mw s' 123 3 0) (sq j).1 (sq j).2 = b 163 j := fun j hj => by
        rw [mw_x (fun q => (sqG j hj).1 ⟨q.1, Or.inr (Or.inr (Or.inr (Or.inr (Or.inl q.2))))⟩), k4 j hj]
        exact o0 163 j (fun q => absurd q.1 (by decide))
      have bfr : ∀ k, (k = 70 ∨ k = 11 ∨ k = 31 ∨ k = 32 ∨ k = 5 ∨ k = 41) → (mw s' 123 3 0) 123 k = s0 123 k := fun k hk => by
        rw [mw_x (fun q => by omega)]
        exact k5 123 k (fun j hj q => (sqG j hj).1 ⟨q.1, by omega⟩) (fun q => by omega)
      have bfm : ∀ c, (c = 130 ∨ c = 131) → (mw s' 123 3 0) c = b c := fun c hc => by
        rw [mw_o (by omega)]
        funext k
        rw [k5 c k (fun j hj q => by
          have := sqG j hj
          omega) (fun q => by omega)]
        exact o0 c k (fun q => by omega)
      refine ⟨1, mw a1 0 6 0, mw s' 123 3 0, ?_, ?_, ?_, fun c hc => ao c (by omega), bo⟩
      · simp only [F_C_image, if_true, if_neg c0, y1, Option.bind_some, F_C_forgetDeeds]
      · simp only [F_R_image, if_true, if_neg e70, show ((0 : Int32) &&& 1 = 0) = True from by decide, ← hs0, z1]
      · refine ⟨?_, ⟨?_, Or.inr ⟨?_, ?_⟩⟩, ?_, ?_⟩
        · refine RR_im (fun c k h1 h2 => ?_) (fun j hj => ?_) hK4
          · obtain ⟨l1, l2, l3, l4, l5, l6⟩ := lenA_c h2
            rw [prj_at l5]
            show _ = prj a (c + 36) k
            rw [prj_at l6, mw_o (by omega)]
            exact y2.1 c k ⟨l1, l2, l3, l4⟩ h1 h2
          · rw [prj_at (sqG j hj).2.2.2, bsq j hj]
            show _ = prj b 163 (ivo (sq j).1 (sq j).2)
            rw [(sqF j hj).2.2.2.1]
            rfl
        · show (mw s' 123 3 0) 123 70 = (mw a1 0 6 0) 0 2
          rw [bfr 70 (Or.inl rfl), o70, a0 2 (by decide), hK3]
        · show (mw a1 0 6 0) 0 2 = 1
          rw [a0 2 (by decide), hK3]
        · refine RR_im (fun c k h1 h2 => ?_) (fun j hj => ?_) hK4
          · obtain ⟨l1, l2, l3, l4, l5, l6⟩ := lenA_c h2
            show prj (mw a1 0 6 0) (c + 36) k = prj a (c + 36) k
            rw [prj_at l6, prj_at l6, ao (c + 36) (by omega)]
          · show prj (mw s' 123 3 0) 163 _ = prj b 163 _
            show (mw s' 123 3 0) 163 _ = b 163 _
            rw [b163]
        · obtain ⟨u, w, -, w6, -, -, e5, -⟩ := hUR
          have e5 : a 0 5 = nI w := e5
          refine ⟨0, w, by decide, w6, ?_, ?_, ?_, fun j hj => absurd hj (Nat.not_lt_zero j)⟩
          · show (mw a1 0 6 0) 0 6 = 0
            exact mw_y
          · show (mw s' 123 3 0) 123 3 = 0
            exact mw_y
          · show (mw a1 0 6 0) 0 5 = nI w
            rw [a0 5 (by decide)]
            exact e5
        · obtain ⟨⟨n, n1, n2, n3, n4⟩, m2, m3, m4, m5, m6⟩ := hMR
          have n2 : a 0 8 = nI n := n2
          have n3 : b 123 11 = nI n := n3
          have n4 : ∀ k, k < n → b 130 k = a 75 k ∧ inN 0 255 (a 75 k) := n4
          have m2 : b 123 31 = a 0 10 := m2
          have m3 : b 123 32 = a 0 11 := m3
          have m4 : b 123 5 = 0 := m4
          have m5 : b 123 41 = 0 := m5
          have m6 : ∀ k, k < 170 → b 131 k = wrdT.getD k 0 := m6
          refine ⟨⟨n, n1, ?_, ?_, fun k hk => ?_⟩, ?_, ?_, ?_, ?_, fun k hk => ?_⟩
          · show (mw a1 0 6 0) 0 8 = _
            rw [a0 8 (by decide)]; exact n2
          · show (mw s' 123 3 0) 123 11 = _
            rw [bfr 11 (by decide), o0 _ _ (by decide)]; exact n3
          · show (mw s' 123 3 0) 130 k = (mw a1 0 6 0) 75 k ∧ inN 0 255 ((mw a1 0 6 0) 75 k)
            rw [bfm 130 (Or.inl rfl), ao 75 (by decide)]; exact n4 k hk
          · show (mw s' 123 3 0) 123 31 = (mw a1 0 6 0) 0 10
            rw [bfr 31 (by decide), o0 _ _ (by decide), a0 10 (by decide)]; exact m2
          · show (mw s' 123 3 0) 123 32 = (mw a1 0 6 0) 0 11
            rw [bfr 32 (by decide), o0 _ _ (by decide), a0 11 (by decide)]; exact m3
          · show (mw s' 123 3 0) 123 5 = 0
            rw [bfr 5 (by decide), o0 _ _ (by decide)]; exact m4
          · show (mw s' 123 3 0) 123 41 = 0
            rw [bfr 41 (by decide), o0 _ _ (by decide)]; exact m5
          · show (mw s' 123 3 0) 131 k = _
            rw [bfm 131 (Or.inr rfl)]; exact m6 k hk
  · obtain ⟨a1, y1, y2⟩ := cpG_t a
    obtain ⟨s', z1, z2⟩ := im_R (t := true) (s0 := s0) (x1 := 1) o71 (by rw [o69]; rfl)
    rw [if_neg (by decide)] at z1
    obtain ⟨k1, k2, k3, -⟩ := z2
    obtain ⟨k4, k5⟩ := k3 rfl
    have ao : ∀ c, c ≠ 0 → ¬ (37 ≤ c ∧ c ≤ 72) → (mw a1 0 2 1) c = a c := fun c c1 hc => by
      rw [mw_o c1]
      exact y2.2 c (fun c' hc' => by omega)
    have a0 : ∀ k, k ≠ 2 → (mw a1 0 2 1) 0 k = a 0 k := fun k hk => by
      rw [mw_n hk, y2.2 0 (fun c' hc' => by omega)]
    have bo : ∀ c k, c ≠ 163 → ¬ (c = 123 ∧ (k = 0 ∨ k = 69 ∨ k = 70 ∨ k = 71)) → s' c k = b c k := fun c k n1 n2 => by
      rw [k5 c k n1 (fun q => n2 ⟨q.1, Or.inr (Or.inr (Or.inr q.2))⟩)]
      exact o0 c k n2
    have bsq : ∀ j, j < 2580 → s' (sq j).1 (sq j).2 = b (sq j).1 (sq j).2 := fun j hj => by
      rw [k5 _ _ (sqF j hj).1 (sqF j hj).2.1]
      exact osq j hj
    refine ⟨1, mw a1 0 2 1, s', ?_, ?_, ?_, fun c hc => ao c (by omega) (by omega), fun c hc => by funext k; exact bo c k (by omega) (by omega)⟩
    · simp only [F_C_image, one0, if_false, y1, Option.bind_some]
    · simp only [F_R_image, one0, if_false, show ((1 : Int32) &&& 1 = 1) = True from by decide, if_true, ← hs0, z1]
    · have hum := UM_c (a := prj a) (a' := prj (mw a1 0 2 1)) (b := prj b) (b' := prj s') (by
        funext c
        unfold cA
        by_cases c1 : 37 ≤ c ∧ c ≤ 72
        · rw [if_pos c1, if_pos c1]
        · rw [if_neg c1, if_neg c1]
          by_cases c2 : c = 0
          · rw [if_pos c2, if_pos c2]
            funext k
            by_cases c3 : k = 2
            · rw [if_pos c3, if_pos c3]
            · rw [if_neg c3, if_neg c3]
              unfold prj
              rw [a0 k c3]
          · rw [if_neg c2, if_neg c2]
            funext k
            unfold prj
            rw [ao c c2 c1]) (by
        funext c
        unfold cB
        by_cases c1 : c = 163
        · rw [if_pos c1, if_pos c1]
        · rw [if_neg c1, if_neg c1]
          by_cases c2 : c = 123
          · rw [if_pos c2, if_pos c2]
            funext k
            by_cases c3 : k = 70
            · rw [if_pos c3, if_pos c3]
            · rw [if_neg c3, if_neg c3]
              unfold prj
              cases hr : rel 123 k with
              | false => rfl
              | true =>
                have := rel123 hr
                show s' 123 k = b 123 k
                exact bo 123 k (by decide) (fun q => by omega)
          · rw [if_neg c2, if_neg c2]
            funext k
            unfold prj
            rw [bo c k c1 (fun q => c2 q.1)]) ⟨hUR, hMR⟩
      refine ⟨?_, ⟨?_, Or.inr ⟨?_, ?_⟩⟩, hum.1, hum.2⟩
      · refine RR_im (fun c k h1 h2 => ?_) (fun j hj => ?_) hRR
        · obtain ⟨l1, l2, l3, l4, l5, l6⟩ := lenA_c h2
          rw [prj_at l5, prj_at l5, ao c (by omega) (by omega)]
        · rw [prj_at (sqG j hj).2.2.2, prj_at (sqG j hj).2.2.2, bsq j hj]
      · show s' 123 70 = (mw a1 0 2 1) 0 2
        rw [k5 123 70 (by decide) (by decide), o70, mw_y]
      · show (mw a1 0 2 1) 0 2 = 1
        exact mw_y
      · refine RR_im (fun c k h1 h2 => ?_) (fun j hj => ?_) hRR
        · obtain ⟨l1, l2, l3, l4, l5, l6⟩ := lenA_c h2
          show prj (mw a1 0 2 1) (c + 36) k = prj a c k
          rw [prj_at l5, prj_at l6, mw_o (by omega)]
          exact y2.1 c k ⟨l1, l2, l3, l4⟩ h1 h2
        · show prj s' 163 (ivo (sq j).1 (sq j).2) = _
          rw [(sqF j hj).2.2.2.1, prj_at (sqG j hj).2.2.2]
          show s' 163 j = _
          rw [k4 j hj]
          exact osq j hj
theorem g_image (x : Int32) (hx : x = 0 ∨ x = 1) : Good Inv (F_C_image x) (F_R_image x) := good_of (p_image x hx)
