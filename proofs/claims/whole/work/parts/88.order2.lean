/-! ===== order ===== -/
theorem H_raiseTo {s : Mem} {h0 c t f i : Nat} {by' most : Int32} (h1 : kd h0 = 4) (h2 : rf h0 0 = c) (h3 : kd c = 1) (h4 : ln c = 864) (ht : t < 9) (hf : f < 6) (hi : i < 16) : F_H_raiseTo h0 (nI t) (nI f) (nI i) by' most s = some (0, mw s c (96 * t + 16 * f + i) (if most < s c (96 * t + 16 * f + i) + by' then most else s c (96 * t + 16 * f + i) + by')) := by
  simp only [F_H_raiseTo, h1, show Nat.beq 4 4 = true from rfl, cond_true, H_get h1 h2 h3 h4 ht hf hi, Option.bind_some, C_min, H_put h1 h2 h3 h4 ht hf hi]
theorem obeyE {a b : Mem} {h0 c f i w : Nat} (h1 : kd h0 = 4) (h2 : rf h0 0 = c) (h3 : kd c = 1) (h4 : ln c = 864) (hf : f < 6) (hi : i < 16) (hw : w ≤ 6) (hlo : b 124 (101 + (16 * f + i)) = a c (192 + (16 * f + i))) (hr : ∃ q, q ≤ 9 ∧ a c (192 + (16 * f + i)) = nI q) : ∃ (t : Nat) (v : Int32), t < 8 ∧ (t = 1 ∨ t = 2 → ∃ q, q ≤ 9 ∧ v = nI q) ∧ F_G_obey h0 (nI w) (nI f) (nI i) a = some (0, mw a c (96 + 96 * t + (16 * f + i)) v) ∧ F_R_isOrdered (nI w) (nI (16 * f + i)) b = some (0, mw b 124 (5 + 96 * t + (16 * f + i)) v) := by
  have b4 : Nat.beq (kd h0) 4 = true := by rw [h1]; rfl
  have ix : ∀ t, 96 * (t + 1) + 16 * f + i = 96 + 96 * t + (16 * f + i) := fun t => by omega
  have pt : ∀ (t : Nat) (v : Int32), t < 8 → F_H_put h0 (nI (t + 1)) (nI f) (nI i) v a = some (0, mw a c (96 + 96 * t + (16 * f + i)) v) := fun t v ht => by
    rw [← ix t]
    exact H_put h1 h2 h3 h4 (by omega) hf hi
  have p4 : ∀ v : Int32, F_H_put h0 4 (nI f) (nI i) v a = some (0, mw a c (96 + 96 * 3 + (16 * f + i)) v) := fun v => pt 3 v (by decide)
  have p5 : ∀ v : Int32, F_H_put h0 5 (nI f) (nI i) v a = some (0, mw a c (96 + 96 * 4 + (16 * f + i)) v) := fun v => pt 4 v (by decide)
  have p2 : ∀ v : Int32, F_H_put h0 2 (nI f) (nI i) v a = some (0, mw a c (96 + 96 * 1 + (16 * f + i)) v) := fun v => pt 1 v (by decide)
  have m3 : ∀ (t : Mem) (v : Int32), sd t 124 (293 + nI (16 * f + i)) v = some (mw t 124 (5 + 96 * 3 + (16 * f + i)) v) := fun t v => by
    rw [show (293 : Int32) + nI (16 * f + i) = nI (5 + 96 * 3 + (16 * f + i)) from nI_add 293 _]
    exact sd_in rfl (show 5 + 96 * 3 + (16 * f + i) < 773 by omega) (by decide)
  have m4 : ∀ (t : Mem) (v : Int32), sd t 124 (389 + nI (16 * f + i)) v = some (mw t 124 (5 + 96 * 4 + (16 * f + i)) v) := fun t v => by
    rw [show (389 : Int32) + nI (16 * f + i) = nI (5 + 96 * 4 + (16 * f + i)) from nI_add 389 _]
    exact sd_in rfl (show 5 + 96 * 4 + (16 * f + i) < 773 by omega) (by decide)
  have m1 : ∀ (t : Mem) (v : Int32), sd t 124 (101 + nI (16 * f + i)) v = some (mw t 124 (5 + 96 * 1 + (16 * f + i)) v) := fun t v => by
    rw [show (101 : Int32) + nI (16 * f + i) = nI (5 + 96 * 1 + (16 * f + i)) from nI_add 101 _]
    exact sd_in rfl (show 5 + 96 * 1 + (16 * f + i) < 773 by omega) (by decide)
  have l1 : ld b 124 (101 + nI (16 * f + i)) = some (b 124 (101 + (16 * f + i))) := by
    rw [show (101 : Int32) + nI (16 * f + i) = nI (101 + (16 * f + i)) from nI_add 101 _]
    exact ld_in rfl (show 101 + (16 * f + i) < 773 by omega) (by decide)
  rcases (show w = 0 ∨ w = 1 ∨ w = 2 ∨ w = 3 ∨ w = 4 ∨ w = 5 ∨ w = 6 by omega) with rfl | rfl | rfl | rfl | rfl | rfl | rfl
  · refine ⟨3, 0, by decide, fun q => by omega, ?_, ?_⟩
    · rw [show nI 0 = 0 from rfl]
      simp (config := { decide := true }) only [F_G_obey, b4, cond_true, if_false, p4, Option.bind_some]
    · rw [show nI 0 = 0 from rfl]
      simp (config := { decide := true }) only [F_R_isOrdered, if_false, m3, Option.bind_some]
  · refine ⟨3, 1, by decide, fun q => by omega, ?_, ?_⟩
    · rw [show nI 1 = 1 from rfl]
      simp (config := { decide := true }) only [F_G_obey, b4, cond_true, if_false, p4, Option.bind_some]
    · rw [show nI 1 = 1 from rfl]
      simp (config := { decide := true }) only [F_R_isOrdered, if_false, m3, Option.bind_some]
  · refine ⟨3, 2, by decide, fun q => by omega, ?_, ?_⟩
    · rw [show nI 2 = 2 from rfl]
      simp (config := { decide := true }) only [F_G_obey, b4, cond_true, if_false, p4, Option.bind_some]
    · rw [show nI 2 = 2 from rfl]
      simp (config := { decide := true }) only [F_R_isOrdered, if_false, m3, Option.bind_some]
  · refine ⟨4, 1, by decide, fun q => by omega, ?_, ?_⟩
    · rw [show nI 3 = 3 from rfl]
      simp (config := { decide := true }) only [F_G_obey, b4, cond_true, if_true, p5, Option.bind_some]
    · rw [show nI 3 = 3 from rfl]
      simp (config := { decide := true }) only [F_R_isOrdered, if_true, if_false, m4, Option.bind_some]
  · refine ⟨4, 0, by decide, fun q => by omega, ?_, ?_⟩
    · rw [show nI 4 = 4 from rfl]
      simp (config := { decide := true }) only [F_G_obey, b4, cond_true, if_true, if_false, p5, Option.bind_some]
    · rw [show nI 4 = 4 from rfl]
      simp (config := { decide := true }) only [F_R_isOrdered, if_true, if_false, m4, Option.bind_some]
  · refine ⟨1, 0, by decide, fun _ => ⟨0, by decide, rfl⟩, ?_, ?_⟩
    · rw [show nI 5 = 5 from rfl]
      simp (config := { decide := true }) only [F_G_obey, b4, cond_true, if_true, if_false, p2, Option.bind_some]
    · rw [show nI 5 = 5 from rfl]
      simp (config := { decide := true }) only [F_R_isOrdered, if_true, if_false, m1, Option.bind_some]
  · obtain ⟨q, q1, q2⟩ := hr
    refine ⟨1, nI (if q < 9 then q + 1 else 9), by decide, fun _ => ⟨if q < 9 then q + 1 else 9, by split <;> omega, rfl⟩, ?_, ?_⟩
    · have e1 : F_H_raiseTo h0 2 (nI f) (nI i) 1 9 a = some (0, mw a c (96 + 96 * 1 + (16 * f + i)) (nI (if q < 9 then q + 1 else 9))) := by
        have := H_raiseTo (s := a) (t := 2) (by' := 1) (most := 9) h1 h2 h3 h4 (by decide) hf hi
        rw [show 96 * 2 + 16 * f + i = 192 + (16 * f + i) by omega, q2, nI_1] at this
        rw [show 96 + 96 * 1 + (16 * f + i) = 192 + (16 * f + i) by omega]
        refine this.trans ?_
        by_cases c9 : q < 9
        · rw [if_pos c9, if_neg (show ¬ (9 : Int32) < nI (q + 1) from nI_nlt (a := 9) (by omega) (by decide))]
        · rw [if_neg c9, if_pos (show (9 : Int32) < nI (q + 1) from nI_lt (a := 9) (by omega) (by omega))]
          rfl
      rw [show nI 6 = 6 from rfl]
      simp (config := { decide := true }) only [F_G_obey, b4, cond_true, if_true, if_false, e1, Option.bind_some]
    · have e2 : (if nI q + 1 ≤ 9 then nI q + 1 else (9 : Int32)) = nI (if q < 9 then q + 1 else 9) := by
        rw [nI_1]
        by_cases c9 : q < 9
        · rw [if_pos c9, if_pos (show nI (q + 1) ≤ 9 from nI_le (b := 9) (by omega) (by decide))]
        · rw [if_neg c9, if_neg (show ¬ nI (q + 1) ≤ 9 from nI_ge (a := 9) (by omega) (by omega))]
          rfl
      rw [show nI 6 = 6 from rfl]
      simp (config := { decide := true }) only [F_R_isOrdered, if_true, if_false, l1, hlo, q2, R_lesser, e2, m1, Option.bind_some]
theorem I2_sz {a b : Mem} (h : I2 a b) : szOK (nF a) (sz a) ∧ cSz a (nF a) (sz a) ∧ mSz b (nF a) (sz a) := HS_c h.1.1
theorem I2_0 {a b : Mem} {v : Int32} (h : I2 a b) : I2 a (mw b 123 0 v) := by
  show J2 (prj a) (prj (mw b 123 0 v))
  rw [prj_mw rfl]
  exact h
theorem I2_lo {a b : Mem} (h : I2 a b) {j : Nat} (hj : j < 96) : b 124 (101 + j) = a 3 (192 + j) ∧ ∃ q, q ≤ 9 ∧ a 3 (192 + j) = nI q := by
  obtain ⟨⟨-, hHM, -⟩, -⟩ := h
  have v3 := hHM.1 (96 + j) (by omega)
  have v3 : b 124 (5 + (96 + j)) = a 3 (96 + (96 + j)) := v3
  refine ⟨?_, (hHM.2.2.1 j hj).1⟩
  rw [show 101 + j = 5 + (96 + j) by omega, v3]
  congr 1
  omega
theorem p_order (w x y : Int32) : Pair I2 I2 (F_C_order w x y) (F_R_order w x y) := by
  intro a b h
  obtain ⟨hz, hc, hm⟩ := I2_sz h
  have hm0 : mSz (mw b 123 0 0) (nF a) (sz a) := hm
  have fr0 : ∀ c, c < 123 → (mw b 123 0 0) c = b c := fun c hc => mw_o (by omega)
  rcases C_has2 hz hc x y with ⟨f, i, hf, hi, rfl, rfl, hh⟩ | ⟨hno, hh⟩
  · obtain ⟨f6, i16, fi⟩ := nF_16 hz hf hi
    have hmR := R_isS_y hz hm0 hf hi
    by_cases hw : 0 ≤ w ∧ w ≤ 6
    · obtain ⟨k, hk, rfl⟩ := in_nI (m := 6) (by decide) hw
      obtain ⟨v, a1, b1, e1, e2, h1, f1, f2⟩ := p_keep a (mw b 123 0 0) (I2_0 h)
      obtain ⟨l1, l2⟩ := I2_lo h1 fi
      obtain ⟨t, vv, t1, t2, t3, t4⟩ := obeyE (a := a1) (b := b1) (h0 := 2) (c := 3) rfl rfl rfl rfl f6 i16 hk l1 l2
      have n1 : nF a1 = nF a ∧ sz a1 f = sz a f := by
        obtain ⟨u, ux, hu, hux, u6, u3, u5, -⟩ := h.2.2.1
        obtain ⟨a', k1, k2, -⟩ := keepC (a := a) hux hu u5 u6
        rw [e1] at k1
        have : a1 = a' := congrArg Prod.snd (Option.some.inj k1)
        subst this
        unfold nF sz
        rw [k2 2 (by omega) (by omega) (by omega) (by omega) (by omega), k2 4 (by omega) (by omega) (by omega) (by omega) (by omega)]
        exact ⟨rfl, rfl⟩
      have hI := I2_tw h1 (v := vv) t1 (by rw [n1.1]; exact hf) (by rw [n1.2]; exact hi) t2
      refine ⟨1, mw a1 3 (96 + 96 * t + (16 * f + i)) vv, mw b1 124 (5 + 96 * t + (16 * f + i)) vv, ?_, ?_, hI, fun c hc => ?_, fun c hc => ?_⟩
      · simp only [F_C_order, hh, Option.bind_some, one0, if_false, C_within, b01, hw, and_self, not_true_eq_false, e1, t3]
      · simp only [F_R_order, R_isIn, Option.bind_some, b01, hw, and_self, not_true_eq_false, if_false, one0, hmR, e2, n16, t4]
      · rw [mw_o (by omega)]; exact f1 c hc
      · rw [mw_o (by omega)]; exact (f2 c hc).trans (fr0 c hc)
    · refine ⟨0, a, mw b 123 0 0, ?_, ?_, I2_0 h, fun _ _ => rfl, fr0⟩
      · simp only [F_C_order, hh, Option.bind_some, one0, if_false, C_within, b01, hw, not_false_eq_true, if_true]
      · simp only [F_R_order, R_isIn, Option.bind_some, b01, hw, not_false_eq_true, if_true]
  · have hmR := R_isS_n hz hm0 hno
    refine ⟨0, a, mw b 123 0 0, ?_, ?_, I2_0 h, fun _ _ => rfl, fr0⟩
    · simp only [F_C_order, hh, Option.bind_some, if_true]
    · by_cases hw : 0 ≤ w ∧ w ≤ 6
      · simp only [F_R_order, R_isIn, Option.bind_some, b01, hw, and_self, not_true_eq_false, if_false, one0, hmR, if_true]
      · simp only [F_R_order, R_isIn, Option.bind_some, b01, hw, not_false_eq_true, if_true]
theorem g_order (w x y : Int32) : Good Inv (F_C_order w x y) (F_R_order w x y) := good_of (p_order w x y)
