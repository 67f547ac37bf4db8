theorem sn_t1 {h th : Nat} {a b : Mem} (hh : okH h) (S : SN h th a b) {f i : Nat} (hfi : isS (hv h a) f i) (w st : Int32) : ∃ (v : Int32) (a' b' : Mem), F_G_treadOne h (nI th) (nI f) (nI i) w st a = some (v, a') ∧ F_R_isTrodden (nI (16 * f + i)) w st b = some (v, b') ∧ (v = 0 ∨ v = 1) ∧ SN h th a' b' ∧ FN h th a a' b b' := by
  obtain ⟨s1, s2, s3, s4, s5, s6, s7⟩ := id S
  obtain ⟨hz, -, -⟩ := HS_c s1
  obtain ⟨f6, i16, fi⟩ := nF_16 hz hfi.1 hfi.2
  obtain ⟨k1, k2, k3, k4, k5, k6, k7, k8, k9⟩ := okH_f hh
  have kb : Nat.beq (kd h) 4 = true := by rw [k1]; rfl
  have pg : ∀ t : Mem, F_H_get h 4 (nI f) (nI i) t = some (t (h + 1) (96 + 96 * 3 + (16 * f + i)), t) := fun t => by
    have := H_get (s := t) (t := 4) k1 k2 k4 k5 (by decide) f6 i16
    rw [show 96 * 4 + 16 * f + i = 96 + 96 * 3 + (16 * f + i) by omega] at this
    exact this
  have pm : ∀ t : Mem, ld t 124 (293 + nI (16 * f + i)) = some (t 124 (5 + 96 * 3 + (16 * f + i))) := fun t => by
    rw [show (293 : Int32) + nI (16 * f + i) = nI (5 + 96 * 3 + (16 * f + i)) from nI_add 293 _]
    exact ld_in rfl (show 5 + 96 * 3 + (16 * f + i) < 773 by omega) (by decide)
  have lF : ∀ t : Mem, ld t 124 (581 + nI (16 * f + i)) = some (t 124 (5 + 96 * 6 + (16 * f + i))) := fun t => by
    rw [show (581 : Int32) + nI (16 * f + i) = nI (5 + 96 * 6 + (16 * f + i)) from nI_add 581 _]
    exact ld_in rfl (show 5 + 96 * 6 + (16 * f + i) < 773 by omega) (by decide)
  have wF : ∀ (t : Mem) (v : Int32), sd t 124 (581 + nI (16 * f + i)) v = some (mw t 124 (5 + 96 * 6 + (16 * f + i)) v) := fun t v => by
    rw [show (581 : Int32) + nI (16 * f + i) = nI (5 + 96 * 6 + (16 * f + i)) from nI_add 581 _]
    exact sd_in rfl (show 5 + 96 * 6 + (16 * f + i) < 773 by omega) (by decide)
  have lH : ∀ t : Mem, ld t 124 (485 + nI (16 * f + i)) = some (t 124 (5 + 96 * 5 + (16 * f + i))) := fun t => by
    rw [show (485 : Int32) + nI (16 * f + i) = nI (5 + 96 * 5 + (16 * f + i)) from nI_add 485 _]
    exact ld_in rfl (show 5 + 96 * 5 + (16 * f + i) < 773 by omega) (by decide)
  have wH : ∀ (t : Mem) (v : Int32), sd t 124 (485 + nI (16 * f + i)) v = some (mw t 124 (5 + 96 * 5 + (16 * f + i)) v) := fun t v => by
    rw [show (485 : Int32) + nI (16 * f + i) = nI (5 + 96 * 5 + (16 * f + i)) from nI_add 485 _]
    exact sd_in rfl (show 5 + 96 * 5 + (16 * f + i) < 773 by omega) (by decide)
  have l3 : ∀ t : Mem, ld t 124 3 = some (t 124 3) := fun t => ld_in (k := 3) rfl (by decide) (by decide)
  have w3 : ∀ (t : Mem) (v : Int32), sd t 124 3 v = some (mw t 124 3 v) := fun t v => sd_in (k := 3) rfl (by decide) (by decide)
  have l4 : ∀ t : Mem, ld t 124 4 = some (t 124 4) := fun t => ld_in (k := 4) rfl (by decide) (by decide)
  have w4 : ∀ (t : Mem) (v : Int32), sd t 124 4 v = some (mw t 124 4 v) := fun t v => sd_in (k := 4) rfl (by decide) (by decide)
  have hP := sn_tr S (t := 3) (by decide) fi
  by_cases hmiss : a (h + 1) (96 + 96 * 3 + (16 * f + i)) = 2
  · have e4 : b 124 4 = a h 3 := s2.2.2.2.1
    obtain ⟨S1, F1⟩ := sn_sc hh S (k := 3) (k' := 4) (v := a h 3 + 1) (Or.inl ⟨rfl, rfl⟩)
    obtain ⟨a1, b1, c1, c2, S2, F2, -⟩ := sn_nt hh S1 f6 i16 2 0
    refine ⟨0, a1, b1, ?_, ?_, Or.inl rfl, S2, FN_tr F1 F2⟩
    · simp only [F_G_treadOne, kb, cond_true, F_H_isMissing, pg, Option.bind_some, if_pos hmiss, one0, if_false, c1]
    · simp only [F_R_isTrodden, F_R_isGone, pm, hP, Option.bind_some, if_pos hmiss, one0, if_false, l4, w4, e4, c2]
  · obtain ⟨r, a1, b1, r1, -, -, e1, e2, S1, F1, q1, q2, q3⟩ := sn_ask hh S (word := 0) (w := w) (st := st) (Or.inl rfl) hfi
    have e2' : F_R_creaksOf (nI (16 * f + i)) w st b = some (nI r, b1) := by rw [R_creaksOf, e2]; rfl
    -- what follows, once it is known whether it creaks
    have yes : ∀ a2 b2, SN h th a2 b2 → FN h th a a2 b b2 → ∃ A B, SN h th A B ∧ FN h th a A b B ∧ ((a2 (h + 1) (96 + 96 * 3 + (16 * f + i)) = 0 ∧ ∃ (y1 y2 y3 : Mem) (rr : Nat) (xx yy : Int32) (z1 z2 z3 z4 : Mem), F_G_note h (nI th) 0 (nI f) (nI i) w (mw a2 h 4 (a2 h 4 + 1)) = some (0, y1) ∧ F_H_raise h 6 (nI f) (nI i) 1 y1 = some (0, y2) ∧ F_L_ask 1 h (nI f) (nI i) w st y2 = some (nI rr, y3) ∧ F_H_raiseTo h 1 (nI f) (nI i) (nI rr) 99 y3 = some (0, A) ∧ z1 = mw b2 124 3 (b2 124 3 + 1) ∧ z2 = mw z1 124 (5 + 96 * 5 + (16 * f + i)) (z1 124 (5 + 96 * 5 + (16 * f + i)) + 1) ∧ F_R_notes 0 (nI (16 * f + i)) w z2 = some (0, z3) ∧ ld z3 124 (5 + nI (16 * f + i)) = some xx ∧ F_R_wearsOf (nI (16 * f + i)) w st z3 = some (nI rr, z4) ∧ F_R_lesser 99 (xx + nI rr) z4 = some (yy, z4) ∧ sd z4 124 (5 + nI (16 * f + i)) yy = some B) ∨ (¬ a2 (h + 1) (96 + 96 * 3 + (16 * f + i)) = 0 ∧ ∃ (y2 y3 : Mem) (rr : Nat) (xx yy : Int32) (z1 z3 z4 : Mem), F_G_note h (nI th) 0 (nI f) (nI i) w (mw a2 h 4 (a2 h 4 + 1)) = some (0, y2) ∧ F_L_ask 1 h (nI f) (nI i) w st y2 = some (nI rr, y3) ∧ F_H_raiseTo h 1 (nI f) (nI i) (nI rr) 99 y3 = some (0, A) ∧ z1 = mw b2 124 3 (b2 124 3 + 1) ∧ F_R_notes 0 (nI (16 * f + i)) w z1 = some (0, z3) ∧ ld z3 124 (5 + nI (16 * f + i)) = some xx ∧ F_R_wearsOf (nI (16 * f + i)) w st z3 = some (nI rr, z4) ∧ F_R_lesser 99 (xx + nI rr) z4 = some (yy, z4) ∧ sd z4 124 (5 + nI (16 * f + i)) yy = some B)) := by
      intro a2 b2 S2 F2
      have e3 : b2 124 3 = a2 h 4 := S2.2.1.2.2.2.2.1
      obtain ⟨S3, F3⟩ := sn_sc hh S2 (k := 4) (k' := 3) (v := a2 h 4 + 1) (Or.inr (Or.inl ⟨rfl, rfl⟩))
      have F03 := FN_tr F2 F3
      by_cases hw0 : a2 (h + 1) (96 + 96 * 3 + (16 * f + i)) = 0
      · obtain ⟨y1, y2, z2, z3, n1, n2, n3, n4, S4, F4⟩ := sn_nr hh S3 (t := 5) ((sn_isS hh F03).mpr hfi) (by decide) (by decide) 0 w
        obtain ⟨rr, xx, yy, y3, z4, A, B, u1, u2, u3, u4, u5, u6, S5, F5⟩ := sn_we hh S4 ((sn_isS hh (FN_tr F03 F4)).mpr hfi) w st
        exact ⟨A, B, S5, FN_tr (FN_tr F03 F4) F5, Or.inl ⟨hw0, y1, y2, y3, rr, xx, yy, _, z2, z3, z4, n1, n2, u1, u2, by rw [e3], n3, n4, u3, u4, u5, u6⟩⟩
      · obtain ⟨y2, z3, n1, n4, S4, F4, -⟩ := sn_nt hh S3 f6 i16 0 w
        obtain ⟨rr, xx, yy, y3, z4, A, B, u1, u2, u3, u4, u5, u6, S5, F5⟩ := sn_we hh S4 ((sn_isS hh (FN_tr F03 F4)).mpr hfi) w st
        exact ⟨A, B, S5, FN_tr (FN_tr F03 F4) F5, Or.inr ⟨hw0, y2, y3, rr, xx, yy, _, z3, z4, n1, u1, u2, by rw [e3], n4, u3, u4, u5, u6⟩⟩
    have no : ∀ a2 b2, SN h th a2 b2 → FN h th a a2 b b2 → ∃ A B, SN h th A B ∧ FN h th a A b B ∧ ((a2 (h + 1) (96 + 96 * 3 + (16 * f + i)) = 0 ∧ ∃ (y1 y2 y3 : Mem) (rr : Nat) (xx yy : Int32) (z2 z3 z4 : Mem), F_G_note h (nI th) 1 (nI f) (nI i) w a2 = some (0, y1) ∧ F_H_raise h 7 (nI f) (nI i) 1 y1 = some (0, y2) ∧ F_L_ask 1 h (nI f) (nI i) w st y2 = some (nI rr, y3) ∧ F_H_raiseTo h 1 (nI f) (nI i) (nI rr) 99 y3 = some (0, A) ∧ z2 = mw b2 124 (5 + 96 * 6 + (16 * f + i)) (b2 124 (5 + 96 * 6 + (16 * f + i)) + 1) ∧ F_R_notes 1 (nI (16 * f + i)) w z2 = some (0, z3) ∧ ld z3 124 (5 + nI (16 * f + i)) = some xx ∧ F_R_wearsOf (nI (16 * f + i)) w st z3 = some (nI rr, z4) ∧ F_R_lesser 99 (xx + nI rr) z4 = some (yy, z4) ∧ sd z4 124 (5 + nI (16 * f + i)) yy = some B) ∨ (¬ a2 (h + 1) (96 + 96 * 3 + (16 * f + i)) = 0 ∧ ∃ (y3 : Mem) (rr : Nat) (xx yy : Int32) (z4 : Mem), F_L_ask 1 h (nI f) (nI i) w st a2 = some (nI rr, y3) ∧ F_H_raiseTo h 1 (nI f) (nI i) (nI rr) 99 y3 = some (0, A) ∧ ld b2 124 (5 + nI (16 * f + i)) = some xx ∧ F_R_wearsOf (nI (16 * f + i)) w st b2 = some (nI rr, z4) ∧ F_R_lesser 99 (xx + nI rr) z4 = some (yy, z4) ∧ sd z4 124 (5 + nI (16 * f + i)) yy = some B)) := by
      intro a2 b2 S2 F2
      by_cases hw0 : a2 (h + 1) (96 + 96 * 3 + (16 * f + i)) = 0
      · obtain ⟨y1, y2, z2, z3, n1, n2, n3, n4, S4, F4⟩ := sn_nr hh S2 (t := 6) ((sn_isS hh F2).mpr hfi) (by decide) (by decide) 1 w
        obtain ⟨rr, xx, yy, y3, z4, A, B, u1, u2, u3, u4, u5, u6, S5, F5⟩ := sn_we hh S4 ((sn_isS hh (FN_tr F2 F4)).mpr hfi) w st
        exact ⟨A, B, S5, FN_tr (FN_tr F2 F4) F5, Or.inl ⟨hw0, y1, y2, y3, rr, xx, yy, z2, z3, z4, n1, n2, u1, u2, n3, n4, u3, u4, u5, u6⟩⟩
      · obtain ⟨rr, xx, yy, y3, z4, A, B, u1, u2, u3, u4, u5, u6, S5, F5⟩ := sn_we hh S2 ((sn_isS hh F2).mpr hfi) w st
        exact ⟨A, B, S5, FN_tr F2 F5, Or.inr ⟨hw0, y3, rr, xx, yy, z4, u1, u2, u3, u4, u5, u6⟩⟩
    have pB : ∀ {a2 b2 : Mem}, SN h th a2 b2 → b2 124 (5 + 96 * 3 + (16 * f + i)) = a2 (h + 1) (96 + 96 * 3 + (16 * f + i)) := fun X => sn_tr X (by decide) fi
    have b5 : b1 123 5 = nI th := S1.2.2.2.2.2.1
    rcases (show th = 0 ∨ th = 1 by omega) with rfl | rfl
    · have z0 : nI 0 = 0 := rfl
      by_cases c0 : nI r ≤ 0
      · obtain ⟨A, B, SA, FA, hcase⟩ := no a1 b1 S1 F1
        rcases hcase with ⟨hw0, y1, y2, y3, rr, xx, yy, z2, z3, z4, n1, n2, u1, u2, n3, n4, u3, u4, u5, u6⟩ | ⟨hw0, y3, rr, xx, yy, z4, u1, u2, u3, u4, u5, u6⟩
        · rw [z0] at n1
          refine ⟨0, A, B, ?_, ?_, Or.inl rfl, SA, FA⟩
          · rw [z0]
            simp only [F_G_treadOne, kb, cond_true, F_H_isMissing, pg, Option.bind_some, if_neg hmiss, if_true, e1, if_pos c0, if_pos hw0, n1, n2, u1, u2]
          · simp only [F_R_isTrodden, F_R_isGone, pm, hP, Option.bind_some, if_neg hmiss, if_true, e2', b5, z0, if_pos c0, pB S1, if_pos hw0, lF, wF]
            rw [← n3, n4]
            simp only [Option.bind_some, u3, u4, u5, u6]
        · refine ⟨0, A, B, ?_, ?_, Or.inl rfl, SA, FA⟩
          · rw [z0]
            simp only [F_G_treadOne, kb, cond_true, F_H_isMissing, pg, Option.bind_some, if_neg hmiss, if_true, e1, if_pos c0, if_neg hw0, u1, u2]
          · simp only [F_R_isTrodden, F_R_isGone, pm, hP, Option.bind_some, if_neg hmiss, if_true, e2', b5, z0, if_pos c0, pB S1, if_neg hw0, u3, u4, u5, u6]
      · obtain ⟨d, a2, b2, d1, d2, S2, F2⟩ := sn_dr hh S1
        by_cases c1 : nI r ≤ d
        · obtain ⟨A, B, SA, FA, hcase⟩ := no a2 b2 S2 (FN_tr F1 F2)
          rcases hcase with ⟨hw0, y1, y2, y3, rr, xx, yy, z2, z3, z4, n1, n2, u1, u2, n3, n4, u3, u4, u5, u6⟩ | ⟨hw0, y3, rr, xx, yy, z4, u1, u2, u3, u4, u5, u6⟩
          · rw [z0] at n1
            refine ⟨0, A, B, ?_, ?_, Or.inl rfl, SA, FA⟩
            · rw [z0]
              simp only [F_G_treadOne, kb, cond_true, F_H_isMissing, pg, Option.bind_some, if_neg hmiss, if_true, e1, if_neg c0, d1, if_pos c1, if_pos hw0, n1, n2, u1, u2]
            · simp only [F_R_isTrodden, F_R_isGone, pm, hP, Option.bind_some, if_neg hmiss, if_true, e2', b5, z0, if_neg c0, d2, if_pos c1, pB S2, if_pos hw0, lF, wF]
              rw [← n3, n4]
              simp only [Option.bind_some, u3, u4, u5, u6]
          · refine ⟨0, A, B, ?_, ?_, Or.inl rfl, SA, FA⟩
            · rw [z0]
              simp only [F_G_treadOne, kb, cond_true, F_H_isMissing, pg, Option.bind_some, if_neg hmiss, if_true, e1, if_neg c0, d1, if_pos c1, if_neg hw0, u1, u2]
            · simp only [F_R_isTrodden, F_R_isGone, pm, hP, Option.bind_some, if_neg hmiss, if_true, e2', b5, z0, if_neg c0, d2, if_pos c1, pB S2, if_neg hw0, u3, u4, u5, u6]
        · obtain ⟨A, B, SA, FA, hcase⟩ := yes a2 b2 S2 (FN_tr F1 F2)
          rcases hcase with ⟨hw0, y1, y2, y3, rr, xx, yy, z1, z2, z3, z4, n1, n2, u1, u2, m1, n3, n4, u3, u4, u5, u6⟩ | ⟨hw0, y2, y3, rr, xx, yy, z1, z3, z4, n1, u1, u2, m1, n4, u3, u4, u5, u6⟩
          · rw [z0] at n1
            refine ⟨1, A, B, ?_, ?_, Or.inr rfl, SA, FA⟩
            · rw [z0]
              simp only [F_G_treadOne, kb, cond_true, F_H_isMissing, pg, Option.bind_some, if_neg hmiss, if_true, e1, if_neg c0, d1, if_neg c1, if_pos hw0, n1, n2, u1, u2]
            · simp only [F_R_isTrodden, F_R_isGone, pm, hP, Option.bind_some, if_neg hmiss, if_true, e2', b5, z0, if_neg c0, d2, if_neg c1, pB S2, if_pos hw0, l3, w3]
              rw [← m1]
              simp only [lH, wH, Option.bind_some]
              rw [← n3, n4]
              simp only [Option.bind_some, u3, u4, u5, u6]
          · rw [z0] at n1
            refine ⟨1, A, B, ?_, ?_, Or.inr rfl, SA, FA⟩
            · rw [z0]
              simp only [F_G_treadOne, kb, cond_true, F_H_isMissing, pg, Option.bind_some, if_neg hmiss, if_true, e1, if_neg c0, d1, if_neg c1, if_neg hw0, n1, u1, u2]
            · simp only [F_R_isTrodden, F_R_isGone, pm, hP, Option.bind_some, if_neg hmiss, if_true, e2', b5, z0, if_neg c0, d2, if_neg c1, pB S2, if_neg hw0, l3, w3]
              rw [← m1, n4]
              simp only [Option.bind_some, u3, u4, u5, u6]
    · have z1' : ((1 : Int32) = 0) = False := one0
      have z0 : nI 1 = 1 := rfl
      have cm : ((2 : Int32) * nI r < 1000) ↔ nI r < 500 := by
        rw [show (2 : Int32) = nI 2 from rfl, n_mul, show (1000 : Int32) = nI 1000 from rfl, show (500 : Int32) = nI 500 from rfl, nI_ltI (by omega) (by decide), nI_ltI (by omega) (by decide)]
        omega
      by_cases c0 : nI r < 500
      · obtain ⟨A, B, SA, FA, hcase⟩ := no a1 b1 S1 F1
        rcases hcase with ⟨hw0, y1, y2, y3, rr, xx, yy, z2, z3, z4, n1, n2, u1, u2, n3, n4, u3, u4, u5, u6⟩ | ⟨hw0, y3, rr, xx, yy, z4, u1, u2, u3, u4, u5, u6⟩
        · rw [z0] at n1
          refine ⟨0, A, B, ?_, ?_, Or.inl rfl, SA, FA⟩
          · rw [z0]
            simp only [F_G_treadOne, kb, cond_true, F_H_isMissing, pg, Option.bind_some, if_neg hmiss, if_true, z1', if_false, e1, if_pos c0, if_pos hw0, n1, n2, u1, u2]
          · simp only [F_R_isTrodden, F_R_isGone, pm, hP, Option.bind_some, if_neg hmiss, if_true, e2', b5, z0, z1', if_false, if_pos (cm.mpr c0), pB S1, if_pos hw0, lF, wF]
            rw [← n3, n4]
            simp only [Option.bind_some, u3, u4, u5, u6]
        · refine ⟨0, A, B, ?_, ?_, Or.inl rfl, SA, FA⟩
          · rw [z0]
            simp only [F_G_treadOne, kb, cond_true, F_H_isMissing, pg, Option.bind_some, if_neg hmiss, if_true, z1', if_false, e1, if_pos c0, if_neg hw0, u1, u2]
          · simp only [F_R_isTrodden, F_R_isGone, pm, hP, Option.bind_some, if_neg hmiss, if_true, e2', b5, z0, z1', if_false, if_pos (cm.mpr c0), pB S1, if_neg hw0, u3, u4, u5, u6]
      · obtain ⟨A, B, SA, FA, hcase⟩ := yes a1 b1 S1 F1
        rcases hcase with ⟨hw0, y1, y2, y3, rr, xx, yy, z1, z2, z3, z4, n1, n2, u1, u2, m1, n3, n4, u3, u4, u5, u6⟩ | ⟨hw0, y2, y3, rr, xx, yy, z1, z3, z4, n1, u1, u2, m1, n4, u3, u4, u5, u6⟩
        · rw [z0] at n1
          refine ⟨1, A, B, ?_, ?_, Or.inr rfl, SA, FA⟩
          · rw [z0]
            simp only [F_G_treadOne, kb, cond_true, F_H_isMissing, pg, Option.bind_some, if_neg hmiss, if_true, z1', if_false, e1, if_neg c0, if_pos hw0, n1, n2, u1, u2]
          · simp only [F_R_isTrodden, F_R_isGone, pm, hP, Option.bind_some, if_neg hmiss, if_true, e2', b5, z0, z1', if_false, if_neg (fun q => c0 (cm.mp q)), pB S1, if_pos hw0, l3, w3]
            rw [← m1]
            simp only [lH, wH, Option.bind_some]
            rw [← n3, n4]
            simp only [Option.bind_some, u3, u4, u5, u6]
        · rw [z0] at n1
          refine ⟨1, A, B, ?_, ?_, Or.inr rfl, SA, FA⟩
          · rw [z0]
            simp only [F_G_treadOne, kb, cond_true, F_H_isMissing, pg, Option.bind_some, if_neg hmiss, if_true, z1', if_false, e1, if_neg c0, if_neg hw0, n1, u1, u2]
          · simp only [F_R_isTrodden, F_R_isGone, pm, hP, Option.bind_some, if_neg hmiss, if_true, e2', b5, z0, z1', if_false, if_neg (fun q => c0 (cm.mp q)), pB S1, if_neg hw0, l3, w3]
            rw [← m1, n4]
            simp only [Option.bind_some, u3, u4, u5, u6]
