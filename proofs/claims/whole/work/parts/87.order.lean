theorem prj_cell {a a' : Mem} {c : Nat} (h : a' c = a c) : prj a' c = prj a c := by
  funext k
  unfold prj
  rw [h]
def mm (b : Mem) : Mem := fun c k => if c = 125 ∨ c = 163 ∨ (c = 123 ∧ k = 3) ∨ c < 123 then 0 else b c k
theorem RR_c2 {a a' b b' : Mem} (h1 : ∀ c, 2 ≤ c → c ≤ 36 → a' c = a c) (h2 : ∀ c k, ¬ c < 123 → c ≠ 125 → c ≠ 163 → (c = 123 → k ≠ 3) → b' c k = b c k) (h : RR a b) : RR a' b' := by
  have h0 : RR (mk 2 36 a) (mm b) := h
  have e : mm b' = mm b := by
    funext c k
    unfold mm
    by_cases hc : c = 125 ∨ c = 163 ∨ (c = 123 ∧ k = 3) ∨ c < 123
    · rw [if_pos hc, if_pos hc]
    · rw [if_neg hc, if_neg hc]
      exact h2 c k (by omega) (by omega) (by omega) (by omega)
  rw [← mk_c h1, ← e] at h0
  exact h0
theorem MR2_c {a a' b b' : Mem} (h0 : ∀ k, k ≠ 5 → k ≠ 6 → a' 0 k = a 0 k) (h1 : a' 75 = a 75) (h2 : ∀ k, k ≠ 3 → b' 123 k = b 123 k) (h3 : b' 130 = b 130) (h4 : b' 131 = b 131) (h : MR2 a b) : MR2 a' b' := by
  obtain ⟨⟨n, n1, n2, n3, n4⟩, m1, m2, m3, m4, m5⟩ := h
  refine ⟨⟨n, n1, by rw [h0 8 (by decide) (by decide)]; exact n2, by rw [h2 11 (by decide)]; exact n3, by rw [h1, h3]; exact n4⟩, ?_, ?_, ?_, ?_, ?_⟩
  · rw [h2 31 (by decide), h0 10 (by decide) (by decide)]; exact m1
  · rw [h2 32 (by decide), h0 11 (by decide) (by decide)]; exact m2
  · rw [h2 5 (by decide)]; exact m3
  · rw [h2 41 (by decide)]; exact m4
  · rw [h4]; exact m5
theorem relR {x : Nat} (hx : x < 6) (k : Nat) : rel (105 + 3 * x) k = true ∧ rel (106 + 3 * x) k = true ∧ rel (107 + 3 * x) k = true := by
  rcases (show x = 0 ∨ x = 1 ∨ x = 2 ∨ x = 3 ∨ x = 4 ∨ x = 5 by omega) with rfl | rfl | rfl | rfl | rfl | rfl <;> exact ⟨rfl, rfl, rfl⟩
theorem p_keep : Pair I2 I2 F_C_keepBefore F_R_keepsAhead := by
  intro a b h
  obtain ⟨hRR, hKR, ⟨u, x, hu, hx, e6, e3, e5, hrow⟩, hMR⟩ := id h
  obtain ⟨a', c1, c2, c3, c4, c5, c6, c7, c8, c9⟩ := keepC (a := a) hx hu e5 e6
  obtain ⟨b', d1, d2, d3, d4, d5, d6⟩ := keepM (b := b) hu e3
  refine ⟨0, a', b', c1, d1, ?_, fun c hc => c2 c (by omega) (by omega) (by omega) (by omega) (by omega), fun c hc => d2 c (by omega) (by omega)⟩
  have pa : ∀ c, 1 ≤ c → c ≤ 73 → prj a' c = prj a c := fun c h1 h2 => prj_cell (c2 c (by omega) (by omega) (by omega) (by omega) (by omega))
  have p75 : prj a' 75 = prj a 75 := prj_cell (c2 75 (by omega) (by omega) (by omega) (by omega) (by omega))
  have pb : ∀ c, c ≠ 123 → c ≠ 125 → prj b' c = prj b c := fun c h1 h2 => prj_cell (d2 c h1 h2)
  have pb3 : ∀ k, k ≠ 3 → prj b' 123 k = prj b 123 k := fun k hk => by
    unfold prj
    rw [d3 k hk]
  have pa0 : ∀ k, k ≠ 5 → k ≠ 6 → prj a' 0 k = prj a 0 k := fun k h1 h2 => by
    unfold prj
    rw [c3 k h1 h2]
  obtain ⟨hHS, hHM, ⟨⟨nb, nb1, nb2, nb3⟩, -⟩, -⟩ := id hRR
  refine ⟨RR_c2 (fun c h1 h2 => pa c (by omega) (by omega)) (fun c k h1 h2 h3 h4 => ?_) hRR, KR2_c (pa0 2 (by decide) (by decide)) (fun c h1 h2 => pa c (by omega) (by omega)) (pb3 70 (by decide)) (pb 163 (by decide) (by decide)) hKR, ?_, MR2_c pa0 p75 pb3 (pb 130 (by decide) (by decide)) (pb 131 (by decide) (by decide)) hMR⟩
  · by_cases q : c = 123
    · rw [q]; exact pb3 k (h4 q)
    · rw [pb c q h2]
  · generalize hU : (if u < 6 then u + 1 else 6) = u' at *
    have hu' : 1 ≤ u' ∧ u' ≤ 6 := by rw [← hU]; split <;> omega
    refine ⟨u', (x + 1) % 6, hu'.2, Nat.mod_lt _ (by decide), c5, d4, c4, fun j hj => ?_⟩
    have f22 : prj a' 2 = prj a 2 := pa 2 (by decide) (by decide)
    have f3 : prj a' 3 = prj a 3 := pa 3 (by decide) (by decide)
    have f4 : prj a' 4 = prj a 4 := pa 4 (by decide) (by decide)
    by_cases hlast : j + 1 = u'
    · have er : ((x + 1) % 6 + 6 - u' + j) % 6 = x := by omega
      rw [er]
      obtain ⟨g1, g2, g3⟩ := rg_eq (a := prj a') hx
      have v1 : ∀ k, prj a' (105 + 3 * x) k = a' (105 + 3 * x) k := fun k => prj_at (relR hx k).1
      have v2 : ∀ k, prj a' (106 + 3 * x) k = a' (106 + 3 * x) k := fun k => prj_at (relR hx k).2.1
      have v3 : ∀ k, prj a' (107 + 3 * x) k = a' (107 + 3 * x) k := fun k => prj_at (relR hx k).2.2
      have ej : j = u' - 1 := by omega
      refine ⟨?_, fun f hf => ?_, fun k hk => ?_, HM_c (fun k k1 k2 => ?_) (fun k k1 k2 => ?_) (fun f hf => ?_) (fun k hk => ?_) hHM, nb, nb1, ?_, ?_⟩
      · rw [g1, v1, f22, c9 2 (by decide) (by decide)]; rfl
      · rw [g3, v3, f4, c8 f hf]; rfl
      · rw [g2, v2, f3, c7 k (by omega)]; rfl
      · rw [uc3, g2, v2, c7 k (by omega)]; rfl
      · rw [uc2, g1, v1, c9 k k1 k2]; rfl
      · rw [uc4, g3, v3, c8 f hf]; rfl
      · rw [um124]
        show b' 125 (773 * j + k) = b 124 k
        rw [ej]
        exact d5 k hk
      · show a' 74 x = nI nb
        rw [c6, if_pos rfl]
        exact nb2
      · show b' 125 (773 * j + 2) = nI nb
        rw [ej, d5 2 (by decide)]
        exact nb3
    · have hj1 : j + 1 < u' := by omega
      obtain ⟨r, j0, hr, hrx, e1, e2, hR0⟩ : ∃ r j0, r < 6 ∧ r ≠ x ∧ ((x + 1) % 6 + 6 - u' + j) % 6 = r ∧ (∀ k, k < 773 → b' 125 (773 * j + k) = b 125 (773 * j0 + k)) ∧ rowU2 (prj a) (prj b) r j0 := by
        by_cases c : u < 6
        · rw [if_pos c] at hU
          refine ⟨(x + 6 - u + j) % 6, j, Nat.mod_lt _ (by decide), by omega, by omega, fun k hk => ?_, hrow j (by omega)⟩
          have := d6 j k hj1 hk
          rw [if_pos c] at this
          exact this
        · rw [if_neg c] at hU
          refine ⟨(x + 6 - u + (j + 1)) % 6, j + 1, Nat.mod_lt _ (by decide), by omega, by omega, fun k hk => ?_, hrow (j + 1) (by omega)⟩
          have := d6 j k hj1 hk
          rw [if_neg c] at this
          exact this
      rw [e1]
      obtain ⟨g1, g2, g3⟩ := rg_eq (a := prj a') hr
      obtain ⟨q1, q2, q3⟩ := rg_eq (a := prj a) hr
      have v1 : prj a' (105 + 3 * r) = prj a (105 + 3 * r) := prj_cell (c2 _ (by omega) (by omega) (by omega) (by omega) (by omega))
      have v2 : prj a' (106 + 3 * r) = prj a (106 + 3 * r) := prj_cell (c2 _ (by omega) (by omega) (by omega) (by omega) (by omega))
      have v3 : prj a' (107 + 3 * r) = prj a (107 + 3 * r) := prj_cell (c2 _ (by omega) (by omega) (by omega) (by omega) (by omega))
      obtain ⟨w1, w2, w3, w4, n, w5, w6, w7⟩ := hR0
      refine ⟨?_, fun f hf => ?_, fun k hk => ?_, HM_c (fun k k1 k2 => ?_) (fun k k1 k2 => ?_) (fun f hf => ?_) (fun k hk => ?_) w4, n, w5, ?_, ?_⟩
      · rw [g1, v1, f22, ← q1]; exact w1
      · rw [g3, v3, f4, ← q3]; exact w2 f hf
      · rw [g2, v2, f3, ← q2]; exact w3 k hk
      · rw [uc3, uc3, g2, v2, ← q2]
      · rw [uc2, uc2, g1, v1, ← q1]
      · rw [uc4, uc4, g3, v3, ← q3]
      · rw [um124, um124]
        exact e2 k hk
      · show a' 74 r = nI n
        rw [c6, if_neg hrx]
        exact w6
      · show b' 125 (773 * j + 2) = nI n
        rw [e2 2 (by decide)]
        exact w7
/-- one trait of a man is set, by both -/
theorem I2_tw {a b : Mem} (h : I2 a b) {t f i : Nat} {v : Int32} (ht : t < 8) (hf : f < nF a) (hi : i < sz a f) (hv : t = 1 ∨ t = 2 → ∃ q, q ≤ 9 ∧ v = nI q) : I2 (mw a 3 (96 + 96 * t + (16 * f + i)) v) (mw b 124 (5 + 96 * t + (16 * f + i)) v) := by
  obtain ⟨⟨hHS, hHM, ⟨⟨nb, nb1, nb2, nb3⟩, nb4⟩, hLw, hOr, hVi, hDo, hTR⟩, hKR, ⟨u, x, hu, hx, e6, e3, e5, hrow⟩, hMR⟩ := h
  obtain ⟨hz, -, -⟩ := HS_c hHS
  have hz : szOK (nF a) (sz a) := hz
  obtain ⟨f6, i16, fi⟩ := nF_16 hz hf hi
  refine ⟨⟨⟨hHS.1, hHS.2.1, hHS.2.2.1, hHS.2.2.2.1, fun g j hj => ?_⟩, ⟨fun k hk => ?_, fun t' j ht' hj hn => ?_, fun j hj => ?_, ?_, ?_, ?_, ?_⟩, ⟨⟨nb, nb1, nb2, ?_⟩, nb4⟩, hLw, hOr, hVi, hDo, hTR⟩, hKR, ⟨u, x, hu, hx, e6, e3, e5, fun j hj => ?_⟩, hMR⟩
  · have hj : g < nF a ∧ j < sz a g := hj
    obtain ⟨g6, j16, gj⟩ := nF_16 hz hj.1 hj.2
    show ∃ q, 5 ≤ q ∧ q ≤ 40 ∧ mw a 3 (96 + 96 * t + (16 * f + i)) v 3 (16 * g + j) = nI q ∧ b 128 (16 * g + j) = nI q
    rw [mw_n (by omega)]
    exact hHS.2.2.2.2 g j hj
  · show mw b 124 (5 + 96 * t + (16 * f + i)) v 124 (5 + k) = mw a 3 (96 + 96 * t + (16 * f + i)) v 3 (96 + k)
    by_cases q : 96 + k = 96 + 96 * t + (16 * f + i)
    · rw [q, show 5 + k = 5 + 96 * t + (16 * f + i) by omega, mw_y, mw_y]
    · rw [mw_n q, mw_n (by omega)]
      exact hHM.1 k hk
  · show mw a 3 (96 + 96 * t + (16 * f + i)) v 3 (96 + 96 * t' + j) = 0
    rw [mw_n]
    · exact hHM.2.1 t' j ht' hj hn
    · intro q
      have hjj : j = 16 * f + i := by omega
      apply hn
      show j / 16 < nF a ∧ j % 16 < sz a (j / 16)
      rw [hjj, show (16 * f + i) / 16 = f by omega, show (16 * f + i) % 16 = i by omega]
      exact ⟨hf, hi⟩
  · show (∃ q, q ≤ 9 ∧ mw a 3 (96 + 96 * t + (16 * f + i)) v 3 (192 + j) = nI q) ∧ ∃ q, q ≤ 9 ∧ mw a 3 (96 + 96 * t + (16 * f + i)) v 3 (288 + j) = nI q
    have := hHM.2.2.1 j hj
    refine ⟨?_, ?_⟩
    · by_cases q : 192 + j = 96 + 96 * t + (16 * f + i)
      · rw [q, mw_y]; exact hv (by omega)
      · rw [mw_n q]; exact this.1
    · by_cases q : 288 + j = 96 + 96 * t + (16 * f + i)
      · rw [q, mw_y]; exact hv (by omega)
      · rw [mw_n q]; exact this.2
  · exact Eq.trans (show mw b 124 (5 + 96 * t + (16 * f + i)) v 124 4 = b 124 4 from mw_n (by omega)) hHM.2.2.2.1
  · exact Eq.trans (show mw b 124 (5 + 96 * t + (16 * f + i)) v 124 3 = b 124 3 from mw_n (by omega)) hHM.2.2.2.2.1
  · exact Eq.trans (show mw b 124 (5 + 96 * t + (16 * f + i)) v 124 0 = b 124 0 from mw_n (by omega)) hHM.2.2.2.2.2.1
  · exact Eq.trans (show mw b 124 (5 + 96 * t + (16 * f + i)) v 124 1 = b 124 1 from mw_n (by omega)) hHM.2.2.2.2.2.2
  · exact Eq.trans (show mw b 124 (5 + 96 * t + (16 * f + i)) v 124 2 = b 124 2 from mw_n (by omega)) nb3
  · obtain ⟨w1, w2, w3, w4, w5⟩ := hrow j hj
    refine ⟨w1, w2, fun k hk => ?_, w4, w5⟩
    exact (w3 k hk).trans (show a 3 k = mw a 3 (96 + 96 * t + (16 * f + i)) v 3 k from (mw_n (by omega)).symm)
