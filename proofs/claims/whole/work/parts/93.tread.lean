/-! ===== a step is trodden ===== -/
theorem H_raise {s : Mem} {h0 c t f i : Nat} {by' : Int32} (h1 : kd h0 = 4) (h2 : rf h0 0 = c) (h3 : kd c = 1) (h4 : ln c = 864) (ht : t < 9) (hf : f < 6) (hi : i < 16) : F_H_raise h0 (nI t) (nI f) (nI i) by' s = some (0, mw s c (96 * t + 16 * f + i) (s c (96 * t + 16 * f + i) + by')) := by
  simp only [F_H_raise, h1, show Nat.beq 4 4 = true from rfl, cond_true, H_get h1 h2 h3 h4 ht hf hi, Option.bind_some, H_put h1 h2 h3 h4 ht hf hi]
theorem sn_tr {h th : Nat} {a b : Mem} (S : SN h th a b) {t j : Nat} (ht : t < 8) (hj : j < 96) : b 124 (5 + 96 * t + j) = a (h + 1) (96 + 96 * t + j) := by
  have := S.2.1.1 (96 * t + j) (by omega)
  have this : b 124 (5 + (96 * t + j)) = a (h + 1) (96 + (96 * t + j)) := this
  rw [show 5 + 96 * t + j = 5 + (96 * t + j) by omega, this]
  congr 1
  omega
/-- a line of the book, then one more of a trait; the reference the other way round -/
theorem sn_nr {h th : Nat} {a b : Mem} (hh : okH h) (S : SN h th a b) {t f i : Nat} (hfi : isS (hv h a) f i) (ht : t < 8) (ht2 : t ≠ 1 ∧ t ≠ 2) (what much : Int32) : ∃ a1 a2 b1 b2, F_G_note h (nI th) what (nI f) (nI i) much a = some (0, a1) ∧ F_H_raise h (nI (t + 1)) (nI f) (nI i) 1 a1 = some (0, a2) ∧ b1 = mw b 124 (5 + 96 * t + (16 * f + i)) (b 124 (5 + 96 * t + (16 * f + i)) + 1) ∧ F_R_notes what (nI (16 * f + i)) much b1 = some (0, b2) ∧ SN h th a2 b2 ∧ FN h th a a2 b b2 := by
  obtain ⟨s1, s2, s3, s4, s5, s6, s7⟩ := id S
  obtain ⟨hz, -, -⟩ := HS_c s1
  obtain ⟨f6, i16, fi⟩ := nF_16 hz hfi.1 hfi.2
  obtain ⟨k1, k2, k3, k4, k5, k6, k7, k8, k9⟩ := okH_f hh
  have hn : h ≠ 5 ∧ h ≠ 6 ∧ h + 1 ≠ 5 ∧ h + 1 ≠ 6 ∧ h + 2 ≠ 5 ∧ h + 2 ≠ 6 := by rcases hh with rfl | rfl <;> decide
  obtain ⟨v, hv0⟩ : ∃ v : Int32, v = a (h + 1) (96 + 96 * t + (16 * f + i)) + 1 := ⟨_, rfl⟩
  have hbv : b 124 (5 + 96 * t + (16 * f + i)) + 1 = v := by rw [sn_tr S ht fi, hv0]
  obtain ⟨S1, F1⟩ := sn_tw hh S (v := v) ht hfi (fun q => by omega)
  have hBR : th = 0 → BR a (mw b 124 (5 + 96 * t + (16 * f + i)) v) := fun h0 => by
    obtain ⟨⟨n, n1, n2, n3⟩, n4⟩ := s4 h0
    exact ⟨⟨n, n1, n2, by rw [mw_n (by omega)]; exact n3⟩, fun k hk => by rw [mw_o (by decide)]; exact n4 k hk⟩
  obtain ⟨a1, b2, e1, e2, e3, e4, e5, e6, e7⟩ := note_eq (a := a) (b := mw b 124 (5 + 96 * t + (16 * f + i)) v) hh s7 hBR (by rw [mw_n (by omega)]; exact s2.2.2.2.2.2.1) (by rw [mw_o (by decide)]; exact s6) f6 i16 what much
  have a1m : a1 (h + 1) = a (h + 1) := e4 _ hn.2.2.1 hn.2.2.2.1
  have hr := H_raise (s := a1) (t := t + 1) (by' := 1) k1 k2 k4 k5 (by omega) f6 i16
  rw [show 96 * (t + 1) + 16 * f + i = 96 + 96 * t + (16 * f + i) by omega, a1m, ← hv0] at hr
  refine ⟨a1, _, _, b2, e1, hr, rfl, by rw [hbv]; exact e2, ?_, ?_⟩
  · refine sn_e S1 ?_ ?_ ?_ (fun c c1 c2 => ?_) ?_ ?_ ?_ (fun k hk => e6 k hk) (fun c c1 c2 => e5 c (by omega) (by omega)) (fun h0 => ?_)
    · rw [mw_o (by omega), mw_o (by omega)]; exact e4 h hn.1 hn.2.1
    · rw [mw_rp, mw_rp, rp_at, rp_at, a1m]
    · rw [mw_o (by omega), mw_o (by omega)]; exact e4 _ hn.2.2.2.2.1 hn.2.2.2.2.2
    · have : c ≠ h + 1 := by rcases hh with rfl | rfl <;> omega
      rw [mw_o this, mw_o this]; exact e4 c (by omega) (by omega)
    · exact e5 123 (by decide) (by decide)
    · exact e5 127 (by decide) (by decide)
    · exact e5 128 (by decide) (by decide)
    · obtain ⟨⟨n, n1, n2, n3⟩, n4⟩ := e3 h0
      exact ⟨⟨n, n1, by rw [mw_o hn.2.2.1.symm]; exact n2, n3⟩, fun k hk => by rw [mw_o hn.2.2.2.1.symm]; exact n4 k hk⟩
  · refine ⟨fun c c1 c2 c3 c4 c5 c6 => ?_, ?_, fun k hk => ?_, fun h1 => ?_, fun c c1 c2 c3 c4 => ?_, fun h1 => ?_⟩
    · rw [mw_o c2]; exact e4 c c3 c4
    · rw [mw_o (by omega), e4 h hn.1 hn.2.1]
    · rw [mw_n (by omega), a1m]
    · rw [mw_o hn.2.2.1.symm, mw_o hn.2.2.2.1.symm, (e7 h1).1]
      exact ⟨rfl, rfl⟩
    · rw [e5 c c1 c2, mw_o c1]
    · rw [(e7 h1).2, mw_o (by decide)]
/-- a line of the book -/
theorem sn_nt {h th : Nat} {a b : Mem} (hh : okH h) (S : SN h th a b) {f i : Nat} (hf : f < 6) (hi : i < 16) (what much : Int32) : ∃ a1 b1, F_G_note h (nI th) what (nI f) (nI i) much a = some (0, a1) ∧ F_R_notes what (nI (16 * f + i)) much b = some (0, b1) ∧ SN h th a1 b1 ∧ FN h th a a1 b b1 ∧ a1 h = a h ∧ a1 (h + 1) = a (h + 1) ∧ ∀ k, k ≠ 2 → b1 124 k = b 124 k := by
  obtain ⟨a1, b1, e1, e2, e3, e4, e5, e6, e7⟩ := sn_note hh S hf hi what much
  exact ⟨a1, b1, e1, e2, e3, e4, e5, e6, e7⟩
/-- it wears -/
theorem sn_we {h th : Nat} {a b : Mem} (hh : okH h) (S : SN h th a b) {f i : Nat} (hfi : isS (hv h a) f i) (w st : Int32) : ∃ (r : Nat) (x y : Int32) (a1 b1 a2 b2 : Mem), F_L_ask 1 h (nI f) (nI i) w st a = some (nI r, a1) ∧ F_H_raiseTo h 1 (nI f) (nI i) (nI r) 99 a1 = some (0, a2) ∧ ld b 124 (5 + nI (16 * f + i)) = some x ∧ F_R_wearsOf (nI (16 * f + i)) w st b = some (nI r, b1) ∧ F_R_lesser 99 (x + nI r) b1 = some (y, b1) ∧ sd b1 124 (5 + nI (16 * f + i)) y = some b2 ∧ SN h th a2 b2 ∧ FN h th a a2 b b2 := by
  obtain ⟨s1, s2, s3, s4, s5, s6, s7⟩ := id S
  obtain ⟨hz, -, -⟩ := HS_c s1
  obtain ⟨f6, i16, fi⟩ := nF_16 hz hfi.1 hfi.2
  obtain ⟨k1, k2, k3, k4, k5, k6, k7, k8, k9⟩ := okH_f hh
  obtain ⟨r, a1, b1, r1, r2, r3, e1, e2, S1, F1, q1, q2, q3⟩ := sn_ask hh S (word := 1) (w := w) (st := st) (Or.inr (Or.inl rfl)) hfi
  have j5 : (5 : Int32) + nI (16 * f + i) = nI (5 + 96 * 0 + (16 * f + i)) := nI_add 5 _
  have hx := sn_tr S (t := 0) (by decide) fi
  have hfi1 : isS (hv h a1) f i := (sn_isS hh F1).mpr hfi
  obtain ⟨y, hy⟩ : ∃ y : Int32, y = if a (h + 1) (96 + 96 * 0 + (16 * f + i)) + nI r ≤ 99 then a (h + 1) (96 + 96 * 0 + (16 * f + i)) + nI r else 99 := ⟨_, rfl⟩
  obtain ⟨S2, F2⟩ := sn_tw hh S1 (t := 0) (v := y) (by decide) hfi1 (fun q => by omega)
  refine ⟨r, b 124 (5 + 96 * 0 + (16 * f + i)), y, a1, b1, _, _, e1, ?_, ?_, ?_, ?_, ?_, S2, FN_tr F1 F2⟩
  · have hr := H_raiseTo (s := a1) (t := 1) (by' := nI r) (most := 99) k1 k2 k4 k5 (by decide) f6 i16
    rw [show 96 * 1 + 16 * f + i = 96 + 96 * 0 + (16 * f + i) by omega, q2] at hr
    refine hr.trans ?_
    rw [hy]
    congr 3
    by_cases c : a (h + 1) (96 + 96 * 0 + (16 * f + i)) + nI r ≤ 99
    · rw [if_pos c, if_neg (by rw [fa_le] at c; rw [fa_lt]; omega)]
    · rw [if_neg c, if_pos (by rw [fa_le] at c; rw [fa_lt]; omega)]
  · rw [j5]
    exact ld_in rfl (show 5 + 96 * 0 + (16 * f + i) < 773 by omega) (by decide)
  · rw [R_wearsOf, e2]
    rfl
  · rw [R_lesser, hx, ← hy]
  · rw [j5]
    exact sd_in rfl (show 5 + 96 * 0 + (16 * f + i) < 773 by omega) (by decide)
/-- a number is drawn -/
theorem sn_dr {h th : Nat} {a b : Mem} (hh : okH h) (S : SN h th a b) : ∃ (d : Int32) (a1 b1 : Mem), F_H_draw h 1000 a = some (d, a1) ∧ F_R_draw 1000 b = some (d, b1) ∧ SN h th a1 b1 ∧ FN h th a a1 b b1 := by
  obtain ⟨k1, -⟩ := okH_f hh
  have e7 : b 124 1 = a h 6 := S.2.1.2.2.2.2.2.2
  obtain ⟨S1, F1⟩ := sn_sc hh S (k := 6) (k' := 1) (v := a h 6 * 1664525 + 1013904223) (Or.inr (Or.inr (Or.inr ⟨rfl, rfl⟩)))
  refine ⟨irm (ush (a h 6 * 1664525 + 1013904223) 8) 1000, _, _, ?_, ?_, S1, F1⟩
  · simp only [F_H_draw, k1, show Nat.beq 4 4 = true from rfl, cond_true, show ((1000 : Int32) ≤ 0) = False from by decide, show ((1000 : Int32) = 0) = False from by decide, if_false, mw_y]
  · have l1 : ld b 124 1 = some (a h 6) := (ld_in (k := 1) rfl (by decide) (by decide)).trans (congrArg some e7)
    have w1 : ∀ v, sd b 124 1 v = some (mw b 124 1 v) := fun v => sd_in (k := 1) rfl (by decide) (by decide)
    have l2 : ∀ v, ld (mw b 124 1 v) 124 1 = some v := fun v => (ld_in (k := 1) rfl (by decide) (by decide)).trans (by rw [mw_y])
    simp only [F_R_draw, l1, w1, l2, Option.bind_some, show ((1000 : Int32) = 0) = False from by decide, if_false]
    rw [Int32.mul_comm]
