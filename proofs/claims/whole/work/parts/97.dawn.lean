/-! ===== dawn ===== -/
theorem sn_dw2 {h th : Nat} {a b : Mem} (hh : okH h) (S : SN h th a b) {f i : Nat} (hfi : isS (hv h a) f i) {x : Int32} (hx : x = a (h + 1) (96 + 96 * 5 + (16 * f + i))) : ∃ (a' b' : Mem), ((F_H_get h 7 (nI f) (nI i) a).bind fun z3 =>
    if z3.1 ≤ 5 then
      some ((0 : Int32), z3.2)
    else
    if z3.1 ≤ x then
      some (0, z3.2)
    else
    (F_H_isMissing h (nI f) (nI i) z3.2).bind fun z4 =>
    if z4.1 = 0 then
      (F_H_put h 4 (nI f) (nI i) 2 z4.2).bind fun z5 =>
      (F_G_note h (nI th) 4 (nI f) (nI i) z3.1 z5.2).bind fun z6 =>
      some (0, z6.2)
    else
    some (0, z4.2)) = some (0, a') ∧ ((F_R_isGone (nI (16 * f + i)) b).bind fun z3 =>
    if z3.1 = 0 then
      (ld z3.2 124 (581 + (nI (16 * f + i)))).bind fun v4 =>
      if v4 ≤ 5 then
        some ((0 : Int32), z3.2)
      else
      (ld z3.2 124 (581 + (nI (16 * f + i)))).bind fun v5 =>
      (ld z3.2 124 (485 + (nI (16 * f + i)))).bind fun v6 =>
      if v6 < v5 then
        (sd z3.2 124 (293 + (nI (16 * f + i))) 2).bind fun s7 =>
        (ld s7 124 (581 + (nI (16 * f + i)))).bind fun v8 =>
        (F_R_notes 4 (nI (16 * f + i)) v8 s7).bind fun z9 =>
        some (0, z9.2)
      else
      some (0, z3.2)
    else
    some (0, z3.2)) = some (0, b') ∧ SN h th a' b' ∧ FN h th a a' b b' := by
  obtain ⟨s1, s2, s3, s4, s5, s6, s7⟩ := id S
  obtain ⟨hz, -, -⟩ := HS_c s1
  obtain ⟨f6, i16, fi⟩ := nF_16 hz hfi.1 hfi.2
  obtain ⟨k1, k2, k3, k4, k5, k6, k7, k8, k9⟩ := okH_f hh
  have kb : Nat.beq (kd h) 4 = true := by rw [k1]; rfl
  have pg : ∀ t : Mem, F_H_get h 4 (nI f) (nI i) t = some (t (h + 1) (96 + 96 * 3 + (16 * f + i)), t) := fun t => by
    have := H_get (s := t) (t := 4) k1 k2 k4 k5 (by decide) f6 i16
    rw [show 96 * 4 + 16 * f + i = 96 + 96 * 3 + (16 * f + i) by omega] at this
    exact this
  have pg7 : ∀ t : Mem, F_H_get h 7 (nI f) (nI i) t = some (t (h + 1) (96 + 96 * 6 + (16 * f + i)), t) := fun t => by
    have := H_get (s := t) (t := 7) k1 k2 k4 k5 (by decide) f6 i16
    rw [show 96 * 7 + 16 * f + i = 96 + 96 * 6 + (16 * f + i) by omega] at this
    exact this
  have pp : F_H_put h 4 (nI f) (nI i) 2 a = some (0, mw a (h + 1) (96 + 96 * 3 + (16 * f + i)) 2) := by
    have := H_put (s := a) (t := 4) (v := 2) k1 k2 k4 k5 (by decide) f6 i16
    rw [show 96 * 4 + 16 * f + i = 96 + 96 * 3 + (16 * f + i) by omega] at this
    exact this
  have pm : ∀ t : Mem, ld t 124 (293 + nI (16 * f + i)) = some (t 124 (5 + 96 * 3 + (16 * f + i))) := fun t => by
    rw [show (293 : Int32) + nI (16 * f + i) = nI (5 + 96 * 3 + (16 * f + i)) from nI_add 293 _]
    exact ld_in rfl (show 5 + 96 * 3 + (16 * f + i) < 773 by omega) (by decide)
  have wm : ∀ (t : Mem) (v : Int32), sd t 124 (293 + nI (16 * f + i)) v = some (mw t 124 (5 + 96 * 3 + (16 * f + i)) v) := fun t v => by
    rw [show (293 : Int32) + nI (16 * f + i) = nI (5 + 96 * 3 + (16 * f + i)) from nI_add 293 _]
    exact sd_in rfl (show 5 + 96 * 3 + (16 * f + i) < 773 by omega) (by decide)
  have lF : ∀ t : Mem, ld t 124 (581 + nI (16 * f + i)) = some (t 124 (5 + 96 * 6 + (16 * f + i))) := fun t => by
    rw [show (581 : Int32) + nI (16 * f + i) = nI (5 + 96 * 6 + (16 * f + i)) from nI_add 581 _]
    exact ld_in rfl (show 5 + 96 * 6 + (16 * f + i) < 773 by omega) (by decide)
  have lH : ∀ t : Mem, ld t 124 (485 + nI (16 * f + i)) = some (t 124 (5 + 96 * 5 + (16 * f + i))) := fun t => by
    rw [show (485 : Int32) + nI (16 * f + i) = nI (5 + 96 * 5 + (16 * f + i)) from nI_add 485 _]
    exact ld_in rfl (show 5 + 96 * 5 + (16 * f + i) < 773 by omega) (by decide)
  have hP := sn_tr S (t := 3) (by decide) fi
  have hF := sn_tr S (t := 6) (by decide) fi
  have hH := sn_tr S (t := 5) (by decide) fi
  rw [← hx] at hH
  by_cases hmiss : a (h + 1) (96 + 96 * 3 + (16 * f + i)) = 2
  · refine ⟨a, b, ?_, ?_, S, FN_rf⟩
    · by_cases c5 : a (h + 1) (96 + 96 * 6 + (16 * f + i)) ≤ 5
      · simp only [pg7, Option.bind_some, if_pos c5]
      · by_cases cx : a (h + 1) (96 + 96 * 6 + (16 * f + i)) ≤ x
        · simp only [pg7, Option.bind_some, if_neg c5, if_pos cx]
        · simp only [pg7, Option.bind_some, if_neg c5, if_neg cx, F_H_isMissing, kb, cond_true, pg, if_pos hmiss, one0, if_false]
    · simp only [F_R_isGone, pm, hP, Option.bind_some, if_pos hmiss, one0, if_false]
  · by_cases c5 : a (h + 1) (96 + 96 * 6 + (16 * f + i)) ≤ 5
    · refine ⟨a, b, ?_, ?_, S, FN_rf⟩
      · simp only [pg7, Option.bind_some, if_pos c5]
      · simp only [F_R_isGone, pm, hP, Option.bind_some, if_neg hmiss, if_true, lF, hF, if_pos c5]
    · by_cases cx : a (h + 1) (96 + 96 * 6 + (16 * f + i)) ≤ x
      · have cy : ¬ x < a (h + 1) (96 + 96 * 6 + (16 * f + i)) := by rw [fa_le] at cx; rw [fa_lt]; omega
        refine ⟨a, b, ?_, ?_, S, FN_rf⟩
        · simp only [pg7, Option.bind_some, if_neg c5, if_pos cx]
        · simp only [F_R_isGone, pm, hP, Option.bind_some, if_neg hmiss, if_true, lF, hF, lH, hH, if_neg c5, if_neg cy]
      · have cy : x < a (h + 1) (96 + 96 * 6 + (16 * f + i)) := by rw [fa_le] at cx; rw [fa_lt]; omega
        obtain ⟨S1, F1⟩ := sn_tw hh S (t := 3) (v := 2) (by decide) hfi (fun q => by omega)
        obtain ⟨a1, b1, n1, n2, S2, F2, -⟩ := sn_nt hh S1 f6 i16 4 (a (h + 1) (96 + 96 * 6 + (16 * f + i)))
        have e6 : (mw b 124 (5 + 96 * 3 + (16 * f + i)) 2) 124 (5 + 96 * 6 + (16 * f + i)) = a (h + 1) (96 + 96 * 6 + (16 * f + i)) := by rw [mw_n (by omega)]; exact hF
        refine ⟨a1, b1, ?_, ?_, S2, FN_tr F1 F2⟩
        · simp only [pg7, Option.bind_some, if_neg c5, if_neg cx, F_H_isMissing, kb, cond_true, pg, if_neg hmiss, if_true, pp, n1]
        · simp only [F_R_isGone, pm, hP, Option.bind_some, if_neg hmiss, if_true, lF, hF, lH, hH, if_neg c5, if_pos cy, wm, e6, n2]
theorem sn_dawn {h th : Nat} {a b : Mem} (hh : okH h) (S : SN h th a b) {f i : Nat} (hfi : isS (hv h a) f i) : ∃ (a' b' : Mem), F_G_dawn h (nI th) (nI f) (nI i) a = some (0, a') ∧ F_R_dawns (nI (16 * f + i)) b = some (0, b') ∧ SN h th a' b' ∧ FN h th a a' b b' := by
  obtain ⟨s1, s2, s3, s4, s5, s6, s7⟩ := id S
  obtain ⟨hz, -, -⟩ := HS_c s1
  obtain ⟨f6, i16, fi⟩ := nF_16 hz hfi.1 hfi.2
  obtain ⟨k1, k2, k3, k4, k5, k6, k7, k8, k9⟩ := okH_f hh
  have kb : Nat.beq (kd h) 4 = true := by rw [k1]; rfl
  have pg : ∀ (t : Nat) (s : Mem), t < 8 → F_H_get h (nI (t + 1)) (nI f) (nI i) s = some (s (h + 1) (96 + 96 * t + (16 * f + i)), s) := fun t s ht => by
    rw [H_get (s := s) (t := t + 1) k1 k2 k4 k5 (by omega) f6 i16, show 96 * (t + 1) + 16 * f + i = 96 + 96 * t + (16 * f + i) by omega]
  have pg6 : F_H_get h 6 (nI f) (nI i) a = some (a (h + 1) (96 + 96 * 5 + (16 * f + i)), a) := pg 5 a (by decide)
  have pg8 : F_H_get h 8 (nI f) (nI i) a = some (a (h + 1) (96 + 96 * 7 + (16 * f + i)), a) := pg 7 a (by decide)
  have l5 : ∀ t : Mem, ld t 124 (485 + nI (16 * f + i)) = some (t 124 (5 + 96 * 5 + (16 * f + i))) := fun t => by
    rw [show (485 : Int32) + nI (16 * f + i) = nI (5 + 96 * 5 + (16 * f + i)) from nI_add 485 _]
    exact ld_in rfl (show 5 + 96 * 5 + (16 * f + i) < 773 by omega) (by decide)
  have l7 : ∀ t : Mem, ld t 124 (677 + nI (16 * f + i)) = some (t 124 (5 + 96 * 7 + (16 * f + i))) := fun t => by
    rw [show (677 : Int32) + nI (16 * f + i) = nI (5 + 96 * 7 + (16 * f + i)) from nI_add 677 _]
    exact ld_in rfl (show 5 + 96 * 7 + (16 * f + i) < 773 by omega) (by decide)
  have w7 : ∀ (t : Mem) (v : Int32), sd t 124 (677 + nI (16 * f + i)) v = some (mw t 124 (5 + 96 * 7 + (16 * f + i)) v) := fun t v => by
    rw [show (677 : Int32) + nI (16 * f + i) = nI (5 + 96 * 7 + (16 * f + i)) from nI_add 677 _]
    exact sd_in rfl (show 5 + 96 * 7 + (16 * f + i) < 773 by omega) (by decide)
  have l2 : ∀ t : Mem, ld t 124 (197 + nI (16 * f + i)) = some (t 124 (5 + 96 * 2 + (16 * f + i))) := fun t => by
    rw [show (197 : Int32) + nI (16 * f + i) = nI (5 + 96 * 2 + (16 * f + i)) from nI_add 197 _]
    exact ld_in rfl (show 5 + 96 * 2 + (16 * f + i) < 773 by omega) (by decide)
  have w2 : ∀ (t : Mem) (v : Int32), sd t 124 (197 + nI (16 * f + i)) v = some (mw t 124 (5 + 96 * 2 + (16 * f + i)) v) := fun t v => by
    rw [show (197 : Int32) + nI (16 * f + i) = nI (5 + 96 * 2 + (16 * f + i)) from nI_add 197 _]
    exact sd_in rfl (show 5 + 96 * 2 + (16 * f + i) < 773 by omega) (by decide)
  have h5 := sn_tr S (t := 5) (by decide) fi
  have h7 := sn_tr S (t := 7) (by decide) fi
  have h2 := sn_tr S (t := 2) (by decide) fi
  obtain ⟨x, hx⟩ : ∃ x : Int32, x = a (h + 1) (96 + 96 * 5 + (16 * f + i)) := ⟨_, rfl⟩
  rw [← hx] at h5 pg6
  by_cases c3 : x - a (h + 1) (96 + 96 * 7 + (16 * f + i)) < 3
  · obtain ⟨a', b', e1, e2, S1, F1⟩ := sn_dw2 hh S hfi hx
    refine ⟨a', b', ?_, ?_, S1, F1⟩
    · simp only [F_G_dawn, kb, cond_true, pg6, pg8, Option.bind_some, if_pos c3]
      exact e1
    · simp only [F_R_dawns, l5 b, l7 b, h5, h7, Option.bind_some, if_pos c3]
      exact e2
  · obtain ⟨r, a1, b1, r1, -, r9, e1, e2, S1, F1, q1, q2, q3⟩ := sn_ask hh S (word := 2) (w := 0) (st := 0) (Or.inr (Or.inr rfl)) hfi
    have e2' : F_R_risesOf (nI (16 * f + i)) b = some (nI r, b1) := by rw [R_risesOf, e2]; rfl
    have r9 := r9 rfl
    obtain ⟨v, v9, ev⟩ : ∃ v, v ≤ 9 ∧ a (h + 1) (288 + (16 * f + i)) = nI v := (s2.2.2.1 (16 * f + i) fi).2
    rw [show 288 + (16 * f + i) = 96 + 96 * 2 + (16 * f + i) by omega] at ev
    obtain ⟨y, hy, y9⟩ : ∃ y : Nat, (y = if v + r ≤ 9 then v + r else 9) ∧ y ≤ 9 := ⟨_, rfl, by split <;> omega⟩
    have hfi1 : isS (hv h a1) f i := (sn_isS hh F1).mpr hfi
    obtain ⟨S2, F2⟩ := sn_tw hh S1 (t := 2) (v := nI y) (by decide) hfi1 (fun _ => ⟨y, y9, rfl⟩)
    have hfi2 := (sn_isS hh F2).mpr hfi1
    obtain ⟨S3, F3⟩ := sn_tw hh S2 (t := 7) (v := x) (by decide) hfi2 (fun q => by omega)
    have hfi3 := (sn_isS hh F3).mpr hfi2
    obtain ⟨a4, b4, n1, n2, S4, F4, m1, m2, m3⟩ := sn_nt hh S3 f6 i16 3 (nI y)
    have hfi4 := (sn_isS hh F4).mpr hfi3
    have hx4 : x = a4 (h + 1) (96 + 96 * 5 + (16 * f + i)) := by
      rw [m2, mw_n (by omega), mw_n (by omega), q2]
      exact hx
    obtain ⟨a', b', d1, d2, S5, F5⟩ := sn_dw2 hh S4 hfi4 hx4
    refine ⟨a', b', ?_, ?_, S5, FN_tr F1 (FN_tr F2 (FN_tr F3 (FN_tr F4 F5)))⟩
    · have p3 : F_H_raiseTo h 3 (nI f) (nI i) (nI r) 9 a1 = some (0, mw a1 (h + 1) (96 + 96 * 2 + (16 * f + i)) (nI y)) := by
        have hr := H_raiseTo (s := a1) (t := 3) (by' := nI r) (most := 9) k1 k2 k4 k5 (by decide) f6 i16
        rw [show 96 * 3 + 16 * f + i = 96 + 96 * 2 + (16 * f + i) by omega, q2, ev, nI_add] at hr
        refine hr.trans ?_
        rw [hy]
        by_cases c : v + r ≤ 9
        · rw [if_pos c, if_neg (show ¬ (9 : Int32) < nI (v + r) from nI_nlt (a := 9) (by omega) (by decide))]
        · rw [if_neg c, if_pos (show (9 : Int32) < nI (v + r) from nI_lt (a := 9) (by omega) (by omega))]
          rfl
      have p8 : F_H_put h 8 (nI f) (nI i) x (mw a1 (h + 1) (96 + 96 * 2 + (16 * f + i)) (nI y)) = some (0, mw (mw a1 (h + 1) (96 + 96 * 2 + (16 * f + i)) (nI y)) (h + 1) (96 + 96 * 7 + (16 * f + i)) x) := by
        have := H_put (s := mw a1 (h + 1) (96 + 96 * 2 + (16 * f + i)) (nI y)) (t := 8) (v := x) k1 k2 k4 k5 (by decide) f6 i16
        rw [show 96 * 8 + 16 * f + i = 96 + 96 * 7 + (16 * f + i) by omega] at this
        exact this
      have g3 : F_H_get h 3 (nI f) (nI i) (mw (mw a1 (h + 1) (96 + 96 * 2 + (16 * f + i)) (nI y)) (h + 1) (96 + 96 * 7 + (16 * f + i)) x) = some (nI y, mw (mw a1 (h + 1) (96 + 96 * 2 + (16 * f + i)) (nI y)) (h + 1) (96 + 96 * 7 + (16 * f + i)) x) := by
        rw [show F_H_get h 3 (nI f) (nI i) _ = _ from pg 2 _ (by decide), mw_n (by omega), mw_y]
      simp only [F_G_dawn, kb, cond_true, pg6, pg8, Option.bind_some, if_neg c3, e1, p3, p8, g3, n1]
      exact d1
    · have ly : F_R_lesser 9 (nI v + nI r) b1 = some (nI y, b1) := by
        rw [R_lesser, nI_add, hy]
        by_cases c : v + r ≤ 9
        · rw [if_pos c, if_pos (show nI (v + r) ≤ 9 from nI_le (b := 9) (by omega) (by decide))]
        · rw [if_neg c, if_neg (show ¬ nI (v + r) ≤ 9 from nI_ge (a := 9) (by omega) (by omega))]
          rfl
      have b5 : (mw b1 124 (5 + 96 * 2 + (16 * f + i)) (nI y)) 124 (5 + 96 * 5 + (16 * f + i)) = x := by
        rw [mw_n (by omega), q3]; exact h5
      have b2 : (mw (mw b1 124 (5 + 96 * 2 + (16 * f + i)) (nI y)) 124 (5 + 96 * 7 + (16 * f + i)) x) 124 (5 + 96 * 2 + (16 * f + i)) = nI y := by
        rw [mw_n (by omega), mw_y]
      simp only [F_R_dawns, l5 b, l7 b, h5, h7, Option.bind_some, if_neg c3, l2 b, h2, ev, e2', ly, w2, l5 (mw b1 124 (5 + 96 * 2 + (16 * f + i)) (nI y)), b5, w7, l2 (mw (mw b1 124 (5 + 96 * 2 + (16 * f + i)) (nI y)) 124 (5 + 96 * 7 + (16 * f + i)) x), b2, n2]
      exact d2
