theorem R_isS_y {s : Mem} {n f i : Nat} {z : Nat → Nat} (hz : szOK n z) (hc : mSz s n z) (hf : f < n) (hi : i < z f) : F_R_isStep (nI f) (nI i) s = some (1, s) := by
  rcases R_isS hz hc (nI f) (nI i) with ⟨_, _, _, _, _, _, h⟩ | ⟨h, -⟩
  · exact h
  · exact absurd ⟨rfl, rfl⟩ (h f i hf hi)
theorem R_isS_n {s : Mem} {n : Nat} {z : Nat → Nat} {x y : Int32} (hz : szOK n z) (hc : mSz s n z) (hno : ∀ f i, f < n → i < z f → ¬ (x = nI f ∧ y = nI i)) : F_R_isStep x y s = some (0, s) := by
  rcases R_isS hz hc x y with ⟨f, i, h1, h2, h3, h4, -⟩ | ⟨-, h⟩
  · exact absurd ⟨h3, h4⟩ (hno f i h1 h2)
  · exact h
theorem C_may0 (v : Int32) (s : Mem) : F_H_mayBeSet 0 v s = some (if 5 ≤ v ∧ v ≤ 40 then 1 else 0, s) := by
  simp only [F_H_mayBeSet, if_true, F_H_isHeight, C_within, Option.bind_some, b01a]
theorem C_may1 (v : Int32) (s : Mem) : F_H_mayBeSet 1 v s = some (if 0 ≤ v ∧ v ≤ 99 then 1 else 0, s) := by
  simp only [F_H_mayBeSet, one0, if_true, if_false, C_within, Option.bind_some, b01a]
theorem C_may2 (v : Int32) (s : Mem) : F_H_mayBeSet 2 v s = some (if 0 ≤ v ∧ v ≤ 9 then 1 else 0, s) := by
  simp only [F_H_mayBeSet, c20, c21, if_true, if_false, C_within, Option.bind_some, b01a]
theorem C_may3 (v : Int32) (s : Mem) : F_H_mayBeSet 3 v s = some (if 0 ≤ v ∧ v ≤ 9 then 1 else 0, s) := by
  simp only [F_H_mayBeSet, c30, c31, c32, if_true, if_false, C_within, Option.bind_some, b01a]
theorem nF_16 {n f i : Nat} {z : Nat → Nat} (hz : szOK n z) (hf : f < n) (hi : i < z f) : f < 6 ∧ i < 16 ∧ 16 * f + i < 96 := by
  have := hz.1
  have := hz.2 f hf
  omega
theorem g_set (w x y v : Int32) : Good Inv (F_C_set w x y v) (F_R_set w x y v) := by
  intro s h
  obtain ⟨⟨hHS, hHM, hBR, hLw, hOr, hVi, hDo, hTR⟩, hKR, hUR, hMR⟩ := id h
  obtain ⟨hz, hc, hm⟩ := HS_c hHS
  have hz : szOK (nF s) (sz s) := hz
  have hc : cSz s (nF s) (sz s) := hc
  have hm : mSz (mw s 123 0 0) (nF s) (sz s) := hm
  obtain ⟨u, ux, -, hux, -, -, e5, -⟩ := hUR
  have hUR0 : ∀ {t : Mem}, t 0 6 = nI 0 → t 123 3 = nI 0 → t 0 5 = nI ux → UR t := fun a b c => ⟨0, ux, by decide, hux, a, b, c, fun j hj => absurd hj (Nat.not_lt_zero j)⟩
  rcases C_has2 hz hc x y with ⟨f, i, hf, hi, rfl, rfl, hh⟩ | ⟨hno, hh⟩
  · obtain ⟨f6, i16, fi⟩ := nF_16 hz hf hi
    have hmR := R_isS_y hz hm hf hi
    by_cases w0 : w = 0
    · subst w0
      by_cases hv : 5 ≤ v ∧ v ≤ 40
      · have hp := H_put (s := s) (h0 := 2) (c := 3) (t := 0) (v := v) rfl rfl rfl rfl (by decide) f6 i16
        rw [Nat.mul_zero, Nat.zero_add] at hp
        have hmR2 := R_isS_y hz (show mSz (mw (mw (mw s 3 (16 * f + i) v) 0 6 0) 123 0 0) (nF s) (sz s) from hm) hf hi
        refine ⟨1, mw (mw s 3 (16 * f + i) v) 0 6 0, mw (mw (mw (mw (mw s 3 (16 * f + i) v) 0 6 0) 123 0 0) 128 (16 * f + i) v) 123 3 0, ?_, ?_, ?_⟩
        · have hp' : F_H_put 2 0 (nI f) (nI i) v s = some (0, mw s 3 (16 * f + i) v) := hp
          simp only [F_C_set, hh, Option.bind_some, one0, if_false, C_may0, if_pos hv, hp', F_C_forgetDeeds]
        · simp only [F_R_set, R_isIn, Option.bind_some, b01, show (0 : Int32) ≤ 0 ∧ (0 : Int32) ≤ 3 from by decide, and_self, not_true_eq_false, if_false, if_true, hmR2, one0, hv, n16, c01, c02, c03]
          rw [sd_in (c := 128) rfl (show 16 * f + i < 96 from fi) (by decide)]
          rfl
        · refine ⟨⟨⟨hHS.1, hHS.2.1, hHS.2.2.1, hHS.2.2.2.1, fun g j hj => ?_⟩, ⟨fun k hk => ?_, fun t j ht hj hn => ?_, fun j hj => ?_, hHM.2.2.2.1, hHM.2.2.2.2.1, hHM.2.2.2.2.2.1, hHM.2.2.2.2.2.2⟩, hBR, hLw, hOr, hVi, hDo, hTR⟩, hKR, hUR0 rfl rfl e5, hMR⟩
          · have hj : g < nF s ∧ j < sz s g := hj
            obtain ⟨g6, j16, gj⟩ := nF_16 hz hj.1 hj.2
            show ∃ q, 5 ≤ q ∧ q ≤ 40 ∧ mw s 3 (16 * f + i) v 3 (16 * g + j) = nI q ∧ mw s 128 (16 * f + i) v 128 (16 * g + j) = nI q
            by_cases q : 16 * g + j = 16 * f + i
            · rw [q, mw_y, mw_y]
              obtain ⟨r, r1, r2, r3⟩ := inN_of (lo := 5) (hi := 40) (by decide) (by decide) hv
              exact ⟨r, r1, r2, r3, r3⟩
            · rw [mw_n q, mw_n q]
              exact hHS.2.2.2.2 g j hj
          · show s 124 (5 + k) = mw s 3 (16 * f + i) v 3 (96 + k)
            rw [mw_n (by omega)]
            exact hHM.1 k hk
          · show mw s 3 (16 * f + i) v 3 (96 + 96 * t + j) = 0
            rw [mw_n (by omega)]
            exact hHM.2.1 t j ht hj hn
          · show (∃ q, q ≤ 9 ∧ mw s 3 (16 * f + i) v 3 (192 + j) = nI q) ∧ ∃ q, q ≤ 9 ∧ mw s 3 (16 * f + i) v 3 (288 + j) = nI q
            rw [mw_n (by omega), mw_n (by omega)]
            exact hHM.2.2.1 j hj
      · refine ⟨0, s, mw s 123 0 0, ?_, ?_, Inv_t h⟩
        · simp only [F_C_set, hh, Option.bind_some, one0, if_false, C_may0, if_neg hv, if_true]
        · simp only [F_R_set, R_isIn, Option.bind_some, b01, show (0 : Int32) ≤ 0 ∧ (0 : Int32) ≤ 3 from by decide, and_self, not_true_eq_false, not_false_eq_true, if_false, if_true, hmR, one0, hv]
    by_cases w1 : w = 1
    · subst w1
      by_cases hv : 0 ≤ v ∧ v ≤ 99
      · have hp := H_put (s := s) (h0 := 2) (c := 3) (t := 1) (v := v) rfl rfl rfl rfl (by decide) f6 i16
        have hp' : F_H_put 2 1 (nI f) (nI i) v s = some (0, mw s 3 (96 * 1 + 16 * f + i) v) := hp
        have hmR2 := R_isS_y hz (show mSz (mw (mw (mw s 3 (96 * 1 + 16 * f + i) v) 0 6 0) 123 0 0) (nF s) (sz s) from hm) hf hi
        have en : (5 : Int32) + nI (16 * f + i) = nI (5 + (16 * f + i)) := nI_add 5 _
        refine ⟨1, mw (mw s 3 (96 * 1 + 16 * f + i) v) 0 6 0, mw (mw (mw (mw (mw s 3 (96 * 1 + 16 * f + i) v) 0 6 0) 123 0 0) 124 (5 + (16 * f + i)) v) 123 3 0, ?_, ?_, ?_⟩
        · simp only [F_C_set, hh, Option.bind_some, one0, if_false, C_may1, if_pos hv, hp', F_C_forgetDeeds]
        · simp only [F_R_set, R_isIn, Option.bind_some, b01, show (0 : Int32) ≤ 1 ∧ (1 : Int32) ≤ 3 from by decide, and_self, not_true_eq_false, if_false, if_true, hmR2, hv, n16, one0, c12, c13, en]
          rw [sd_in (c := 124) rfl (show 5 + (16 * f + i) < 773 by omega) (by decide)]
          rfl
        · refine ⟨⟨⟨hHS.1, hHS.2.1, hHS.2.2.1, hHS.2.2.2.1, fun g j hj => ?_⟩, ⟨fun k hk => ?_, fun t j ht hj hn => ?_, fun j hj => ?_, ?_, ?_, ?_, ?_⟩, ?_, hLw, hOr, hVi, hDo, hTR⟩, hKR, hUR0 rfl rfl e5, hMR⟩
          · have hj : g < nF s ∧ j < sz s g := hj
            obtain ⟨g6, j16, gj⟩ := nF_16 hz hj.1 hj.2
            show ∃ q, 5 ≤ q ∧ q ≤ 40 ∧ mw s 3 (96 * 1 + 16 * f + i) v 3 (16 * g + j) = nI q ∧ s 128 (16 * g + j) = nI q
            rw [mw_n (by omega)]
            exact hHS.2.2.2.2 g j hj
          · show mw s 124 (5 + (16 * f + i)) v 124 (5 + k) = mw s 3 (96 * 1 + 16 * f + i) v 3 (96 + k)
            by_cases q : 96 + k = 96 * 1 + 16 * f + i
            · rw [q, show 5 + k = 5 + (16 * f + i) by omega, mw_y, mw_y]
            · rw [mw_n q, mw_n (by omega)]
              exact hHM.1 k hk
          · show mw s 3 (96 * 1 + 16 * f + i) v 3 (96 + 96 * t + j) = 0
            rw [mw_n]
            · exact hHM.2.1 t j ht hj hn
            · intro q
              have hjj : j = 16 * f + i := by omega
              apply hn
              show j / 16 < nF s ∧ j % 16 < sz s (j / 16)
              rw [hjj, show (16 * f + i) / 16 = f by omega, show (16 * f + i) % 16 = i by omega]
              exact ⟨hf, hi⟩
          · show (∃ q, q ≤ 9 ∧ mw s 3 (96 * 1 + 16 * f + i) v 3 (192 + j) = nI q) ∧ ∃ q, q ≤ 9 ∧ mw s 3 (96 * 1 + 16 * f + i) v 3 (288 + j) = nI q
            obtain ⟨r, r1, r2, r3⟩ := inN_of (lo := 0) (hi := 99) (by decide) (by decide) hv
            have := hHM.2.2.1 j hj
            refine ⟨?_, ?_⟩
            · by_cases q : 192 + j = 96 * 1 + 16 * f + i
              · exfalso; omega
              · rw [mw_n q]; exact this.1
            · by_cases q : 288 + j = 96 * 1 + 16 * f + i
              · exfalso; omega
              · rw [mw_n q]; exact this.2
          · exact Eq.trans (show mw s 124 (5 + (16 * f + i)) v 124 4 = s 124 4 from mw_n (by omega)) hHM.2.2.2.1
          · exact Eq.trans (show mw s 124 (5 + (16 * f + i)) v 124 3 = s 124 3 from mw_n (by omega)) hHM.2.2.2.2.1
          · exact Eq.trans (show mw s 124 (5 + (16 * f + i)) v 124 0 = s 124 0 from mw_n (by omega)) hHM.2.2.2.2.2.1
          · exact Eq.trans (show mw s 124 (5 + (16 * f + i)) v 124 1 = s 124 1 from mw_n (by omega)) hHM.2.2.2.2.2.2
          · obtain ⟨⟨nb, b1, b2, b3⟩, b4⟩ := hBR
            exact ⟨⟨nb, b1, b2, Eq.trans (show mw s 124 (5 + (16 * f + i)) v 124 2 = s 124 2 from mw_n (by omega)) b3⟩, b4⟩
      · refine ⟨0, s, mw s 123 0 0, ?_, ?_, Inv_t h⟩
        · simp only [F_C_set, hh, Option.bind_some, one0, if_false, C_may1, if_neg hv, if_true]
        · simp only [F_R_set, R_isIn, Option.bind_some, b01, show (0 : Int32) ≤ 1 ∧ (1 : Int32) ≤ 3 from by decide, and_self, not_true_eq_false, not_false_eq_true, if_false, if_true, hmR, hv, one0, c12, c13]
    by_cases w2 : w = 2
    · subst w2
      by_cases hv : 0 ≤ v ∧ v ≤ 9
      · have hp := H_put (s := s) (h0 := 2) (c := 3) (t := 2) (v := v) rfl rfl rfl rfl (by decide) f6 i16
        have hp' : F_H_put 2 2 (nI f) (nI i) v s = some (0, mw s 3 (96 * 2 + 16 * f + i) v) := hp
        have hmR2 := R_isS_y hz (show mSz (mw (mw (mw s 3 (96 * 2 + 16 * f + i) v) 0 6 0) 123 0 0) (nF s) (sz s) from hm) hf hi
        have en : (101 : Int32) + nI (16 * f + i) = nI (101 + (16 * f + i)) := nI_add 101 _
        refine ⟨1, mw (mw s 3 (96 * 2 + 16 * f + i) v) 0 6 0, mw (mw (mw (mw (mw s 3 (96 * 2 + 16 * f + i) v) 0 6 0) 123 0 0) 124 (101 + (16 * f + i)) v) 123 3 0, ?_, ?_, ?_⟩
        · simp only [F_C_set, hh, Option.bind_some, one0, if_false, C_may2, if_pos hv, hp', F_C_forgetDeeds]
        · simp only [F_R_set, R_isIn, Option.bind_some, b01, show (0 : Int32) ≤ 2 ∧ (2 : Int32) ≤ 3 from by decide, and_self, not_true_eq_false, if_false, if_true, hmR2, hv, n16, one0, c20, c21, c23, en]
          rw [sd_in (c := 124) rfl (show 101 + (16 * f + i) < 773 by omega) (by decide)]
          rfl
        · refine ⟨⟨⟨hHS.1, hHS.2.1, hHS.2.2.1, hHS.2.2.2.1, fun g j hj => ?_⟩, ⟨fun k hk => ?_, fun t j ht hj hn => ?_, fun j hj => ?_, ?_, ?_, ?_, ?_⟩, ?_, hLw, hOr, hVi, hDo, hTR⟩, hKR, hUR0 rfl rfl e5, hMR⟩
          · have hj : g < nF s ∧ j < sz s g := hj
            obtain ⟨g6, j16, gj⟩ := nF_16 hz hj.1 hj.2
            show ∃ q, 5 ≤ q ∧ q ≤ 40 ∧ mw s 3 (96 * 2 + 16 * f + i) v 3 (16 * g + j) = nI q ∧ s 128 (16 * g + j) = nI q
            rw [mw_n (by omega)]
            exact hHS.2.2.2.2 g j hj
          · show mw s 124 (101 + (16 * f + i)) v 124 (5 + k) = mw s 3 (96 * 2 + 16 * f + i) v 3 (96 + k)
            by_cases q : 96 + k = 96 * 2 + 16 * f + i
            · rw [q, show 5 + k = 101 + (16 * f + i) by omega, mw_y, mw_y]
            · rw [mw_n q, mw_n (by omega)]
              exact hHM.1 k hk
          · show mw s 3 (96 * 2 + 16 * f + i) v 3 (96 + 96 * t + j) = 0
            rw [mw_n]
            · exact hHM.2.1 t j ht hj hn
            · intro q
              have hjj : j = 16 * f + i := by omega
              apply hn
              show j / 16 < nF s ∧ j % 16 < sz s (j / 16)
              rw [hjj, show (16 * f + i) / 16 = f by omega, show (16 * f + i) % 16 = i by omega]
              exact ⟨hf, hi⟩
          · show (∃ q, q ≤ 9 ∧ mw s 3 (96 * 2 + 16 * f + i) v 3 (192 + j) = nI q) ∧ ∃ q, q ≤ 9 ∧ mw s 3 (96 * 2 + 16 * f + i) v 3 (288 + j) = nI q
            obtain ⟨r, r1, r2, r3⟩ := inN_of (lo := 0) (hi := 9) (by decide) (by decide) hv
            have := hHM.2.2.1 j hj
            refine ⟨?_, ?_⟩
            · by_cases q : 192 + j = 96 * 2 + 16 * f + i
              · rw [q, mw_y]; exact ⟨r, r2, r3⟩
              · rw [mw_n q]; exact this.1
            · by_cases q : 288 + j = 96 * 2 + 16 * f + i
              · exfalso; omega
              · rw [mw_n q]; exact this.2
          · exact Eq.trans (show mw s 124 (101 + (16 * f + i)) v 124 4 = s 124 4 from mw_n (by omega)) hHM.2.2.2.1
          · exact Eq.trans (show mw s 124 (101 + (16 * f + i)) v 124 3 = s 124 3 from mw_n (by omega)) hHM.2.2.2.2.1
          · exact Eq.trans (show mw s 124 (101 + (16 * f + i)) v 124 0 = s 124 0 from mw_n (by omega)) hHM.2.2.2.2.2.1
          · exact Eq.trans (show mw s 124 (101 + (16 * f + i)) v 124 1 = s 124 1 from mw_n (by omega)) hHM.2.2.2.2.2.2
          · obtain ⟨⟨nb, b1, b2, b3⟩, b4⟩ := hBR
            exact ⟨⟨nb, b1, b2, Eq.trans (show mw s 124 (101 + (16 * f + i)) v 124 2 = s 124 2 from mw_n (by omega)) b3⟩, b4⟩
      · refine ⟨0, s, mw s 123 0 0, ?_, ?_, Inv_t h⟩
        · simp only [F_C_set, hh, Option.bind_some, one0, if_false, C_may2, if_neg hv, if_true]
        · simp only [F_R_set, R_isIn, Option.bind_some, b01, show (0 : Int32) ≤ 2 ∧ (2 : Int32) ≤ 3 from by decide, and_self, not_true_eq_false, not_false_eq_true, if_false, if_true, hmR, hv, one0, c20, c21, c23]
    by_cases w3 : w = 3
    · subst w3
      by_cases hv : 0 ≤ v ∧ v ≤ 9
      · have hp := H_put (s := s) (h0 := 2) (c := 3) (t := 3) (v := v) rfl rfl rfl rfl (by decide) f6 i16
        have hp' : F_H_put 2 3 (nI f) (nI i) v s = some (0, mw s 3 (96 * 3 + 16 * f + i) v) := hp
        have hmR2 := R_isS_y hz (show mSz (mw (mw (mw s 3 (96 * 3 + 16 * f + i) v) 0 6 0) 123 0 0) (nF s) (sz s) from hm) hf hi
        have en : (197 : Int32) + nI (16 * f + i) = nI (197 + (16 * f + i)) := nI_add 197 _
        refine ⟨1, mw (mw s 3 (96 * 3 + 16 * f + i) v) 0 6 0, mw (mw (mw (mw (mw s 3 (96 * 3 + 16 * f + i) v) 0 6 0) 123 0 0) 124 (197 + (16 * f + i)) v) 123 3 0, ?_, ?_, ?_⟩
        · simp only [F_C_set, hh, Option.bind_some, one0, if_false, C_may3, if_pos hv, hp', F_C_forgetDeeds]
        · simp only [F_R_set, R_isIn, Option.bind_some, b01, show (0 : Int32) ≤ 3 ∧ (3 : Int32) ≤ 3 from by decide, and_self, not_true_eq_false, if_false, if_true, hmR2, hv, n16, one0, c30, c31, c32, en]
          rw [sd_in (c := 124) rfl (show 197 + (16 * f + i) < 773 by omega) (by decide)]
          rfl
        · refine ⟨⟨⟨hHS.1, hHS.2.1, hHS.2.2.1, hHS.2.2.2.1, fun g j hj => ?_⟩, ⟨fun k hk => ?_, fun t j ht hj hn => ?_, fun j hj => ?_, ?_, ?_, ?_, ?_⟩, ?_, hLw, hOr, hVi, hDo, hTR⟩, hKR, hUR0 rfl rfl e5, hMR⟩
          · have hj : g < nF s ∧ j < sz s g := hj
            obtain ⟨g6, j16, gj⟩ := nF_16 hz hj.1 hj.2
            show ∃ q, 5 ≤ q ∧ q ≤ 40 ∧ mw s 3 (96 * 3 + 16 * f + i) v 3 (16 * g + j) = nI q ∧ s 128 (16 * g + j) = nI q
            rw [mw_n (by omega)]
            exact hHS.2.2.2.2 g j hj
          · show mw s 124 (197 + (16 * f + i)) v 124 (5 + k) = mw s 3 (96 * 3 + 16 * f + i) v 3 (96 + k)
            by_cases q : 96 + k = 96 * 3 + 16 * f + i
            · rw [q, show 5 + k = 197 + (16 * f + i) by omega, mw_y, mw_y]
            · rw [mw_n q, mw_n (by omega)]
              exact hHM.1 k hk
          · show mw s 3 (96 * 3 + 16 * f + i) v 3 (96 + 96 * t + j) = 0
            rw [mw_n]
            · exact hHM.2.1 t j ht hj hn
            · intro q
              have hjj : j = 16 * f + i := by omega
              apply hn
              show j / 16 < nF s ∧ j % 16 < sz s (j / 16)
              rw [hjj, show (16 * f + i) / 16 = f by omega, show (16 * f + i) % 16 = i by omega]
              exact ⟨hf, hi⟩
          · show (∃ q, q ≤ 9 ∧ mw s 3 (96 * 3 + 16 * f + i) v 3 (192 + j) = nI q) ∧ ∃ q, q ≤ 9 ∧ mw s 3 (96 * 3 + 16 * f + i) v 3 (288 + j) = nI q
            obtain ⟨r, r1, r2, r3⟩ := inN_of (lo := 0) (hi := 9) (by decide) (by decide) hv
            have := hHM.2.2.1 j hj
            refine ⟨?_, ?_⟩
            · by_cases q : 192 + j = 96 * 3 + 16 * f + i
              · exfalso; omega
              · rw [mw_n q]; exact this.1
            · by_cases q : 288 + j = 96 * 3 + 16 * f + i
              · rw [q, mw_y]; exact ⟨r, r2, r3⟩
              · rw [mw_n q]; exact this.2
          · exact Eq.trans (show mw s 124 (197 + (16 * f + i)) v 124 4 = s 124 4 from mw_n (by omega)) hHM.2.2.2.1
          · exact Eq.trans (show mw s 124 (197 + (16 * f + i)) v 124 3 = s 124 3 from mw_n (by omega)) hHM.2.2.2.2.1
          · exact Eq.trans (show mw s 124 (197 + (16 * f + i)) v 124 0 = s 124 0 from mw_n (by omega)) hHM.2.2.2.2.2.1
          · exact Eq.trans (show mw s 124 (197 + (16 * f + i)) v 124 1 = s 124 1 from mw_n (by omega)) hHM.2.2.2.2.2.2
          · obtain ⟨⟨nb, b1, b2, b3⟩, b4⟩ := hBR
            exact ⟨⟨nb, b1, b2, Eq.trans (show mw s 124 (197 + (16 * f + i)) v 124 2 = s 124 2 from mw_n (by omega)) b3⟩, b4⟩
      · refine ⟨0, s, mw s 123 0 0, ?_, ?_, Inv_t h⟩
        · simp only [F_C_set, hh, Option.bind_some, one0, if_false, C_may3, if_neg hv, if_true]
        · simp only [F_R_set, R_isIn, Option.bind_some, b01, show (0 : Int32) ≤ 3 ∧ (3 : Int32) ≤ 3 from by decide, and_self, not_true_eq_false, not_false_eq_true, if_false, if_true, hmR, hv, one0, c30, c31, c32]
    · have hw : ¬ (0 ≤ w ∧ w ≤ 3) := by
        intro q
        obtain ⟨k, hk, rfl⟩ := in_nI (m := 3) (by decide) q
        rcases (show k = 0 ∨ k = 1 ∨ k = 2 ∨ k = 3 by omega) with rfl | rfl | rfl | rfl
        · exact w0 rfl
        · exact w1 rfl
        · exact w2 rfl
        · exact w3 rfl
      refine ⟨0, s, mw s 123 0 0, ?_, ?_, Inv_t h⟩
      · simp only [F_C_set, hh, Option.bind_some, one0, if_false, F_H_mayBeSet, if_neg w0, if_neg w1, if_neg w2, if_neg w3, if_true]
      · simp only [F_R_set, R_isIn, Option.bind_some, b01, hw, not_false_eq_true, if_true]
  · have hmR := R_isS_n hz hm hno
    refine ⟨0, s, mw s 123 0 0, ?_, ?_, Inv_t h⟩
    · simp only [F_C_set, hh, Option.bind_some, if_true]
    · by_cases hw : 0 ≤ w ∧ w ≤ 3
      · simp only [F_R_set, R_isIn, Option.bind_some, b01, hw, and_self, not_true_eq_false, if_false, if_true, hmR, one0]
      · simp only [F_R_set, R_isIn, Option.bind_some, b01, hw, not_false_eq_true, if_true]
