theorem p_undo : Pair I2 I2 F_C_undo F_R_undo := by
  intro a b h
  obtain ⟨hRR, hKR, ⟨u, x, hu, hx, e6, e3, e5, hrow⟩, hMR⟩ := id h
  have e6 : a 0 6 = nI u := e6
  have e3 : b 123 3 = nI u := e3
  have e5 : a 0 5 = nI x := e5
  have fr0 : ∀ c, c < 123 → (mw b 123 0 0) c = b c := fun c hc => mw_o (by omega)
  by_cases h0 : u = 0
  · subst h0
    refine ⟨0, a, mw b 123 0 0, ?_, ?_, I2_0 h, fun _ _ => rfl, fr0⟩
    · unfold F_C_undo
      rw [e6, if_neg (show ¬ (0 : Int32) < nI 0 by decide)]
    · unfold F_R_undo
      exact if_pos e3
  · obtain ⟨v, rfl⟩ : ∃ v, u = v + 1 := ⟨u - 1, by omega⟩
    obtain ⟨r, hr⟩ : ∃ r, r = (x + 5) % 6 := ⟨_, rfl⟩
    have hr6 : r < 6 := by rw [hr]; exact Nat.mod_lt _ (by decide)
    obtain ⟨s1, s2, s3, s4, s5, s6, s7, s8, s9, s10⟩ := sh6 r hr6
    obtain ⟨A2, hA2⟩ : ∃ A : Mem, A = mw (mw a 0 6 (nI v)) 0 5 (nI r) := ⟨_, rfl⟩
    obtain ⟨A, hA, o1, o2, o3, o4⟩ := H_copy (s := A2) (h0 := 2) (h1 := 105 + 3 * r) (c0 := 3) (c1 := 106 + 3 * r) (d0 := 4) (d1 := 107 + 3 * r) rfl s4 rfl s5 rfl s6 rfl s7 rfl s8 rfl s9 rfl s10 (by omega) (by omega) (by omega) (by omega) (by omega) (by omega) (by omega)
    have A2o : ∀ c, c ≠ 0 → A2 c = a c := fun c hc => by rw [hA2, mw_o hc, mw_o hc]
    have A20 : ∀ k, k ≠ 5 → k ≠ 6 → A2 0 k = a 0 k := fun k k1 k2 => by rw [hA2, mw_n k1, mw_n k2]
    have hal : alr 73 (nI r) = some (105 + 3 * r) := by
      unfold alr
      rw [if_pos ⟨s1, by rw [s2]; exact nI_in hr6 (by decide)⟩, nI_clamp (by omega), s3]
    have A74 : A 74 = a 74 := by rw [o1 74 (by decide) (by decide) (by decide), A2o 74 (by decide)]
    have A05 : A 0 5 = nI r := by rw [o1 0 (by decide) (by decide) (by decide), hA2]; rfl
    obtain ⟨B2, hB2⟩ : ∃ B : Mem, B = mw (mw b 123 0 0) 123 3 (nI v) := ⟨_, rfl⟩
    have hB := un16 (u := v) (by omega) 773 0 gF B2 rfl (by rw [gF_eq]; omega) (by rw [hB2]; rfl)
    have B2o : ∀ c, c ≠ 123 → B2 c = b c := fun c hc => by rw [hB2, mw_o hc, mw_o hc]
    have B23 : ∀ k, k ≠ 0 → k ≠ 3 → B2 123 k = b 123 k := fun k k1 k2 => by rw [hB2, mw_n k2, mw_n k1]
    obtain ⟨B, hBd⟩ : ∃ B : Mem, B = rp B2 124 (fun i => if 0 ≤ i ∧ i < 773 then B2 125 (773 * v + i) else B2 124 i) := ⟨_, rfl⟩
    rw [← hBd] at hB
    have Bo : ∀ c, c ≠ 124 → c ≠ 123 → B c = b c := fun c c1 c2 => by rw [hBd, rp_o c1, B2o c c2]
    have B3 : ∀ k, k ≠ 0 → k ≠ 3 → B 123 k = b 123 k := fun k k1 k2 => by rw [hBd, rp_o (by decide), B23 k k1 k2]
    have B124 : ∀ k, k < 773 → B 124 k = b 125 (773 * v + k) := fun k hk => by
      rw [hBd, rp_at]
      show (if 0 ≤ k ∧ k < 773 then B2 125 (773 * v + k) else B2 124 k) = _
      rw [if_pos ⟨Nat.zero_le k, hk⟩, B2o 125 (by decide)]
    have erow : (x + 6 - (v + 1) + v) % 6 = r := by rw [hr]; omega
    have hR := hrow v (by omega)
    rw [erow] at hR
    obtain ⟨w1, w2, w3, w4, n, w5, w6, w7⟩ := id hR
    obtain ⟨q1, q2, q3⟩ := rg_eq (a := prj a) hr6
    have pv1 : ∀ k, rgH (prj a) r k = a (105 + 3 * r) k := fun k => by rw [q1]; exact prj_at (relR hr6 k).1
    have pv2 : ∀ k, rgM (prj a) r k = a (106 + 3 * r) k := fun k => by rw [q2]; exact prj_at (relR hr6 k).2.1
    have pv3 : ∀ k, rgS (prj a) r k = a (107 + 3 * r) k := fun k => by rw [q3]; exact prj_at (relR hr6 k).2.2
    have w6 : a 74 r = nI n := w6
    have w7 : b 125 (773 * v + 2) = nI n := w7
    obtain ⟨A', hA'⟩ : ∃ A' : Mem, A' = mw A 5 1 (a 74 r) := ⟨_, rfl⟩
    have Ao : ∀ c, c ≠ 0 → c ≠ 2 → c ≠ 3 → c ≠ 4 → c ≠ 5 → A' c = a c := fun c c0 c2 c3 c4 c5 => by rw [hA', mw_o c5, o1 c c2 c3 c4, A2o c c0]
    have A3 : ∀ k, k < 864 → A' 3 k = rgM (prj a) r k := fun k hk => by rw [hA', mw_o (by decide), o2 k hk, A2o _ (by omega), pv2]
    have A4 : ∀ f, f < 6 → A' 4 f = rgS (prj a) r f := fun f hf => by rw [hA', mw_o (by decide), o3 f hf, A2o _ (by omega), pv3]
    have A22 : ∀ k, 2 ≤ k → k < 7 → A' 2 k = rgH (prj a) r k := fun k k1 k2 => by rw [hA', mw_o (by decide), o4 k k1 k2, A2o _ (by omega), pv1]
    have A00 : ∀ k, k ≠ 5 → k ≠ 6 → A' 0 k = a 0 k := fun k k1 k2 => by rw [hA', mw_o (by decide), o1 0 (by decide) (by decide) (by decide), A20 k k1 k2]
    have B0r : ∀ k, k ≠ 3 → prj B 123 k = prj b 123 k := fun k hk => by
      by_cases z : k = 0
      · subst z; rfl
      · unfold prj
        rw [B3 k z hk]
    have pB : ∀ c, c ≠ 124 → c ≠ 123 → prj B c = prj b c := fun c c1 c2 => prj_cell (Bo c c1 c2)
    have pA : ∀ c, c ≠ 0 → c ≠ 2 → c ≠ 3 → c ≠ 4 → c ≠ 5 → prj A' c = prj a c := fun c c0 c2 c3 c4 c5 => prj_cell (Ao c c0 c2 c3 c4 c5)
    have f2 : prj A' 2 2 = prj a 2 2 := (A22 2 (by decide) (by decide)).trans w1
    have f4 : ∀ f, f < 6 → prj A' 4 f = prj a 4 f := fun f hf => (A4 f hf).trans (w2 f hf)
    have f3 : ∀ k, k < 96 → prj A' 3 k = prj a 3 k := fun k hk => (A3 k (by omega)).trans (w3 k hk)
    refine ⟨1, A', B, ?_, ?_, ⟨RR_deed ⟨fun c c1 c2 => pA c (by omega) (by omega) (by omega) (by omega) (by omega), f2, f4, f3, B0r, fun c c1 c2 _ => pB c (by omega) (by omega)⟩ (HM_c (fun k k1 k2 => ?_) (fun k k1 k2 => ?_) (fun f hf => ?_) (fun k hk => ?_) w4) ⟨⟨n, w5, ?_, ?_⟩, fun k hk => ?_⟩ hRR, KR2_c ?_ (fun c c1 c2 => pA c (by omega) (by omega) (by omega) (by omega) (by omega)) (B0r 70 (by decide)) (pB 163 (by decide) (by decide)) hKR, ⟨v, r, by omega, hr6, ?_, ?_, ?_, fun j hj => ?_⟩, MR2_c (fun k k1 k2 => ?_) (pA 75 (by decide) (by decide) (by decide) (by decide) (by decide)) B0r (pB 130 (by decide) (by decide)) (pB 131 (by decide) (by decide)) hMR⟩, fun c hc => Ao c (by omega) (by omega) (by omega) (by omega) (by omega), fun c hc => Bo c (by omega) (by omega)⟩
    · have z1 : (mw a 0 6 (nI v)) 0 5 = nI x := e5
      have z2 : nI (v + 1) - 1 = nI v := nI_pred v
      have z3 : (mw (mw a 0 6 (nI v)) 0 5 (nI ((x + 5) % 6))) 0 5 = nI ((x + 5) % 6) := rfl
      have z4 : ld A 74 (nI r) = some (a 74 r) := (ld_in rfl (show r < 6 from hr6) (by decide)).trans (by rw [A74])
      simp only [F_C_undo, e6, if_pos (show (0 : Int32) < nI (v + 1) from nI_lt (a := 0) (by omega) (by omega)), z2, z1, C_flm1 hx, Option.bind_some, z3]
      rw [← hr, hal, ← hA2]
      simp only [Option.bind_some, hA, A05, z4]
      rw [← hA']
    · have z1 : (mw b 123 0 0) 123 3 = nI (v + 1) := e3
      simp only [F_R_undo, z1, if_neg (show ¬ nI (v + 1) = 0 from nI_ne0 (by omega) (by omega)), show nI (v + 1) - 1 = nI v from nI_pred v]
      rw [← hB2]
      exact hB
    · exact A3 k k2
    · exact A22 k k1 k2
    · exact A4 f hf
    · exact B124 k hk
    · show A' 5 1 = nI n
      rw [hA', mw_y, w6]
    · show B 124 2 = nI n
      rw [B124 2 (by decide), w7]
    · show B 129 k = A' 6 k
      rw [Bo 129 (by decide) (by decide), Ao 6 (by decide) (by decide) (by decide) (by decide) (by decide)]
      exact hRR.2.2.1.2 k hk
    · exact A00 2 (by decide) (by decide)
    · show A' 0 6 = nI v
      rw [hA', mw_o (by decide), o1 0 (by decide) (by decide) (by decide), hA2]
      rfl
    · show B 123 3 = nI v
      rw [hBd, rp_o (by decide), hB2]
      rfl
    · show A' 0 5 = nI r
      rw [hA', mw_o (by decide)]
      exact A05
    · have e : (r + 6 - v + j) % 6 = (x + 6 - (v + 1) + j) % 6 := by rw [hr]; omega
      rw [e]
      refine row_deed (Nat.mod_lt _ (by decide)) f2 f4 f3 (fun c c1 c2 => pA c (by omega) (by omega) (by omega) (by omega) (by omega)) (pB 125 (by decide) (by decide)) (hrow j (by omega))
    · unfold prj
      rw [A00 k k1 k2]
theorem g_undo : Good Inv F_C_undo F_R_undo := good_of p_undo
