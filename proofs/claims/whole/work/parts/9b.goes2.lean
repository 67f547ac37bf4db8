theorem I2_th {a a2 b b2 : Mem} (h : I2 a b) (ha : ∀ c, c ≠ 13 → c ≠ 14 → c ≠ 91 → c ≠ 92 → c ≠ 93 → a2 c = a c) (hb : ∀ c, c ≠ 124 → c ≠ 126 → c ≠ 143 → c ≠ 144 → b2 c = b c) (h124 : ∀ k, k < 773 → b2 124 k = b 124 k) : I2 a2 b2 := by
  have ea : prj a2 = prj a := by
    funext c
    by_cases q1 : c = 13
    · subst q1; rfl
    by_cases q2 : c = 14
    · subst q2; rfl
    by_cases q3 : c = 91
    · subst q3; rfl
    by_cases q4 : c = 92
    · subst q4; rfl
    by_cases q5 : c = 93
    · subst q5; rfl
    exact prj_cell (ha c q1 q2 q3 q4 q5)
  have eb : ∀ c, c ≠ 124 → prj b2 c = prj b c := by
    intro c hc
    by_cases q1 : c = 126
    · subst q1; rfl
    by_cases q2 : c = 143
    · subst q2; rfl
    by_cases q3 : c = 144
    · subst q3; rfl
    exact prj_cell (hb c hc q1 q2 q3)
  have eb4 : ∀ k, k < 773 → prj b2 124 k = prj b 124 k := fun k hk => h124 k hk
  show J2 (prj a2) (prj b2)
  rw [ea]
  obtain ⟨hRR, hKR, ⟨u, x, hu, hx, e6, e3, e5, hrow⟩, hMR⟩ := h
  obtain ⟨hHS, hHM, ⟨⟨nb, nb1, nb2, nb3⟩, nb4⟩, -⟩ := id hRR
  refine ⟨RR_deed ⟨fun _ _ _ => rfl, rfl, fun _ _ => rfl, fun _ _ => rfl, fun k _ => by rw [eb 123 (by decide)], fun c c1 c2 c3 => eb c (by omega)⟩ (HM_c (fun _ _ _ => rfl) (fun _ _ _ => rfl) (fun _ _ => rfl) eb4 hHM) ⟨⟨nb, nb1, nb2, by rw [eb4 2 (by decide)]; exact nb3⟩, fun k hk => by rw [eb 129 (by decide)]; exact nb4 k hk⟩ hRR, KR2_c rfl (fun _ _ _ => rfl) (by rw [eb 123 (by decide)]) (eb 163 (by decide)) hKR, ⟨u, x, hu, hx, e6, ?_, e5, fun j hj => row_deed (Nat.mod_lt _ (by decide)) rfl (fun _ _ => rfl) (fun _ _ => rfl) (fun _ _ _ => rfl) (eb 125 (by decide)) (hrow j hj)⟩, MR2_c (fun _ _ _ => rfl) rfl (fun k _ => by rw [eb 123 (by decide)]) (eb 130 (by decide)) (eb 131 (by decide)) hMR⟩
  rw [eb 123 (by decide)]
  exact e3
/-- the house for thought, beside what the reference thinks with -/
theorem SN_th {a a1 b b1 : Mem} (h : I2 a b) (c1 : ∀ c, c ≠ 91 → c ≠ 92 → c ≠ 93 → a1 c = a c) (c2 : ∀ k, k < 864 → a1 92 k = a 3 k) (c3 : ∀ k, k < 6 → a1 93 k = a 4 k) (c4 : ∀ k, 2 ≤ k → k < 7 → a1 91 k = a 2 k) (d1 : ∀ c, c ≠ 123 → c ≠ 126 → b1 c = b c) (d2 : ∀ k, k ≠ 5 → b1 123 k = b 123 k) (d3 : b1 123 5 = 1) : SN 91 1 a1 b1 ∧ OV 91 a1 b1 := by
  obtain ⟨⟨t1, t2, t3, -, t5, -⟩, o1, o2⟩ := SN_t (I2t_of h).2
  have t1 : HS a b := t1
  have t2 : HM a b := t2
  have o1 : OrR a b := o1
  have o2 : ViR a b := o2
  have n1 : nF (hv 91 a1) = nF a := by
    show (a1 91 2).toNatClampNeg = (a 2 2).toNatClampNeg
    rw [c4 2 (by decide) (by decide)]
  have s1 : ∀ f, f < 6 → sz (hv 91 a1) f = sz a f := fun f hf => by
    show (a1 93 f).toNatClampNeg = (a 4 f).toNatClampNeg
    rw [c3 f hf]
  have n6 := t1.1
  have iS : ∀ f i, isS a f i ↔ isS (hv 91 a1) f i := fun f i => by
    unfold isS
    rw [n1]
    constructor
    · intro q
      rw [s1 f (by omega)]
      exact q
    · intro q
      rw [s1 f (by omega)] at q
      exact q
  refine ⟨⟨⟨by rw [n1]; exact n6, ?_, ?_, fun f hf => ?_, fun f i hfi => ?_⟩, ⟨fun k hk => ?_, fun t j ht hj hn => ?_, fun j hj => ?_, ?_, ?_, ?_, ?_⟩, ?_, fun q => absurd q (by decide), ?_, d3, by decide⟩, ?_, ?_⟩
  · rw [n1]
    show a1 91 2 = _
    rw [c4 2 (by decide) (by decide)]
    exact t1.2.1
  · rw [n1, d2 6 (by decide)]; exact t1.2.2.1
  · rw [n1] at hf
    rw [s1 f (by omega), d1 127 (by decide) (by decide)]
    show _ ∧ _ ∧ a1 93 f = _ ∧ _
    rw [c3 f (by omega)]
    exact t1.2.2.2.1 f hf
  · have hh := (iS f i).mpr hfi
    have z := t1.2.2.2.1 f hh.1
    have := hh.2
    rw [d1 128 (by decide) (by decide)]
    show ∃ h, 5 ≤ h ∧ h ≤ 40 ∧ a1 92 (16 * f + i) = nI h ∧ _
    rw [c2 _ (by have := hh.1; omega)]
    exact t1.2.2.2.2 f i hh
  · rw [d1 124 (by decide) (by decide)]
    show _ = a1 92 (96 + k)
    rw [c2 _ (by omega)]
    exact t2.1 k hk
  · show a1 92 (96 + 96 * t + j) = 0
    rw [c2 _ (by omega)]
    exact t2.2.1 t j ht hj (fun q => hn ((iS _ _).mp q))
  · show (∃ v, v ≤ 9 ∧ a1 92 (192 + j) = nI v) ∧ ∃ v, v ≤ 9 ∧ a1 92 (288 + j) = nI v
    rw [c2 _ (by omega), c2 _ (by omega)]
    exact t2.2.2.1 j hj
  · rw [d1 124 (by decide) (by decide)]
    show _ = a1 91 3
    rw [c4 3 (by decide) (by decide)]; exact t2.2.2.2.1
  · rw [d1 124 (by decide) (by decide)]
    show _ = a1 91 4
    rw [c4 4 (by decide) (by decide)]; exact t2.2.2.2.2.1
  · rw [d1 124 (by decide) (by decide)]
    show _ = a1 91 5
    rw [c4 5 (by decide) (by decide)]; exact t2.2.2.2.2.2.1
  · rw [d1 124 (by decide) (by decide)]
    show _ = a1 91 6
    rw [c4 6 (by decide) (by decide)]; exact t2.2.2.2.2.2.2
  · exact LwR_c (fun c h1 h2 => c1 c (by omega) (by omega) (by omega)) (fun c h1 h2 => d1 c (by omega) (by omega)) t3
  · rw [d2 41 (by decide)]; exact t5
  · obtain ⟨n, p1, p2, p3, p4⟩ := o1
    refine ⟨n, p1, ?_, by rw [d2 33 (by decide)]; exact p3, fun l hl => ?_⟩
    · show a1 15 1 = _
      rw [c1 15 (by decide) (by decide) (by decide)]; exact p2
    · obtain ⟨q1, w, f, i, q2, q3, q4⟩ := p4 l hl
      rw [d1 140 (by decide) (by decide)]
      have e : hv 91 a1 16 = a 16 := c1 16 (by decide) (by decide) (by decide)
      rw [e]
      exact ⟨q1, w, f, i, q2, (iS f i).mp q3, q4⟩
  · obtain ⟨n, p1, p2, p3, p4⟩ := o2
    refine ⟨n, p1, ?_, by rw [d2 35 (by decide)]; exact p3, fun l hl => ?_⟩
    · show a1 17 1 = _
      rw [c1 17 (by decide) (by decide) (by decide)]; exact p2
    · obtain ⟨q1, f, u, w, st, q2, q4⟩ := p4 l hl
      rw [d1 141 (by decide) (by decide)]
      have e : hv 91 a1 18 = a 18 := c1 18 (by decide) (by decide) (by decide)
      rw [e]
      exact ⟨q1, f, u, w, st, by rw [n1]; exact q2, q4⟩
theorem go_sum {a b : Mem} (S : SN 91 1 a b) {t : Nat} (ht : t < 8) : ∃ r, F_H_sum (nI (t + 1)) a = some (r, a) ∧ F_R_sumOf (nI (5 + 96 * t)) b = some (r, b) := by
  have h := hsum4 (t := t) (n := nF (hv 91 a)) (z := sz (hv 91 a)) ht S.1.1 S.1.2.1 (fun f hf => ⟨(S.1.2.2.2.1 f hf).2.1, (S.1.2.2.2.1 f hf).2.2.1⟩) (fun j hj hn => S.2.1.2.1 t j ht hj hn) (nF (hv 91 a)) 0 gF 0 (by omega) (by rw [gF_eq]; have := S.1.1; omega)
  have h' := rsum4 (b := b) ht 96 0 gF 0 rfl (by rw [gF_eq]; omega)
  refine ⟨_, h, h'.trans ?_⟩
  rw [sm_c 96 0 0 (fun k _ k2 => sn_tr S ht (show k < 96 by omega))]
theorem go_mis {a b : Mem} (S : SN 91 1 a b) : ∃ r, F_H_countMissing a = some (r, a) ∧ F_R_goneMany b = some (r, b) := by
  have h := hmis4 (n := nF (hv 91 a)) (z := sz (hv 91 a)) S.1.1 S.1.2.1 (fun f hf => ⟨(S.1.2.2.2.1 f hf).2.1, (S.1.2.2.2.1 f hf).2.2.1⟩) (fun j hj hn => S.2.1.2.1 3 j (by decide) hj hn) (nF (hv 91 a)) 0 gF 0 (by omega) (by rw [gF_eq]; have := S.1.1; omega)
  have h' := rmis4 (b := b) 96 0 gF 0 rfl (by rw [gF_eq]; omega)
  refine ⟨_, h, h'.trans ?_⟩
  rw [sm_c (g := fun j => if b 124 (5 + 96 * 3 + j) = 2 then (1 : Int32) else 0) (g' := fun j => if a 92 (96 + 96 * 3 + j) = 2 then (1 : Int32) else 0) 96 0 0 (fun k _ k2 => by
    show (if b 124 (5 + 96 * 3 + k) = 2 then (1 : Int32) else 0) = if a 92 (96 + 96 * 3 + k) = 2 then (1 : Int32) else 0
    rw [sn_tr S (by decide) (show k < 96 by omega)])]
theorem go_lp {n y : Nat} (hn : n ≤ 60) (hy : y ≤ 3) : ∀ (q k m m' : Nat) (a b : Mem), SN 91 1 a b → OV 91 a b → k + q = n → q < m → q < m' → ∃ (r : Int32) (a' b' : Mem), F_U_afterNights_7 m (nI n) (nI y) (nI k) a = some (r, a') ∧ F_R_goes_21 m' (nI n) (nI y) (nI k) b = some (r, mw (rp b' 124 (fun i => if 0 ≤ i ∧ i < 773 then b' 126 i else b' 124 i)) 123 5 0) ∧ FN 91 1 a a' b b' := by
  intro q
  induction q with
  | zero =>
    intro k m m' a b S o hk hm hm'
    obtain ⟨m, rfl⟩ : ∃ k, m = k + 1 := ⟨m - 1, by omega⟩
    obtain ⟨m', rfl⟩ : ∃ k, m' = k + 1 := ⟨m' - 1, by omega⟩
    have c : nI n ≤ nI k := nI_le (by omega) (by omega)
    have he : F_R_endsThought b = some (0, mw (rp b 124 (fun i => if 0 ≤ i ∧ i < 773 then b 126 i else b 124 i)) 123 5 0) := ends2 773 0 gF b rfl (by rw [gF_eq]; omega)
    rcases (show y = 0 ∨ y = 1 ∨ y = 2 ∨ y = 3 by omega) with rfl | rfl | rfl | rfl
    · obtain ⟨r, r1, r2⟩ := go_sum S (t := 5) (by decide)
      have r1 : F_H_sum 6 a = some (r, a) := r1
      have r2 : F_R_sumOf 485 b = some (r, b) := r2
      refine ⟨r, a, b, ?_, ?_, FN_rf⟩
      · simp only [F_U_afterNights_7, if_pos c, show (nI 0 = 0) = True from by decide, if_true, r1, Option.bind_some]
      · simp only [F_R_goes_21, if_pos c, show (nI 0 = 0) = True from by decide, if_true, r2, Option.bind_some, he]
    · obtain ⟨r, r1, r2⟩ := go_sum S (t := 6) (by decide)
      have r1 : F_H_sum 7 a = some (r, a) := r1
      have r2 : F_R_sumOf 581 b = some (r, b) := r2
      refine ⟨r, a, b, ?_, ?_, FN_rf⟩
      · simp only [F_U_afterNights_7, if_pos c, show (nI 1 = 0) = False from by decide, show (nI 1 = 1) = True from by decide, if_true, if_false, r1, Option.bind_some]
      · simp only [F_R_goes_21, if_pos c, show (nI 1 = 0) = False from by decide, show (nI 1 = 1) = True from by decide, if_true, if_false, r2, Option.bind_some, he]
    · have l4 : ld b 124 4 = some (a 91 3) := (ld_in (k := 4) rfl (by decide) (by decide)).trans (congrArg some S.2.1.2.2.2.1)
      refine ⟨a 91 3, a, b, ?_, ?_, FN_rf⟩
      · simp only [F_U_afterNights_7, if_pos c, show (nI 2 = 0) = False from by decide, show (nI 2 = 1) = False from by decide, show (nI 2 = 2) = True from by decide, if_true, if_false]
      · simp only [F_R_goes_21, if_pos c, show (nI 2 = 0) = False from by decide, show (nI 2 = 1) = False from by decide, show (nI 2 = 2) = True from by decide, if_true, if_false, l4, Option.bind_some, he]
    · obtain ⟨r, r1, r2⟩ := go_mis S
      refine ⟨r, a, b, ?_, ?_, FN_rf⟩
      · simp only [F_U_afterNights_7, if_pos c, show (nI 3 = 0) = False from by decide, show (nI 3 = 1) = False from by decide, show (nI 3 = 2) = False from by decide, if_false, r1, Option.bind_some]
      · simp only [F_R_goes_21, if_pos c, show (nI 3 = 0) = False from by decide, show (nI 3 = 1) = False from by decide, show (nI 3 = 2) = False from by decide, if_false, r2, Option.bind_some, he]
  | succ q ih =>
    intro k m m' a b S o hk hm hm'
    obtain ⟨m, rfl⟩ : ∃ k, m = k + 1 := ⟨m - 1, by omega⟩
    obtain ⟨m', rfl⟩ : ∃ k, m' = k + 1 := ⟨m' - 1, by omega⟩
    have c : ¬ nI n ≤ nI k := nI_ge (by omega) (by omega)
    obtain ⟨r, a1, b1, y1, y2, S1, F1⟩ := sn_night (Or.inr rfl) S o
    have y1 : F_G_passNight 91 1 a = some (r, a1) := y1
    obtain ⟨rr, a2, b2, z1, z2, F2⟩ := ih (k + 1) m m' a1 b1 S1 (OV_fn (Or.inr rfl) F1 o) (by omega) (by omega) (by omega)
    refine ⟨rr, a2, b2, ?_, ?_, FN_tr F1 F2⟩
    · simp only [F_U_afterNights_7, if_neg c, y1, Option.bind_some, nI_1, z1]
    · simp only [F_R_goes_21, if_neg c, y2, Option.bind_some, nI_1, z2]
theorem p_goes (x y : Int32) : Pair I2 I2 (F_C_goes x y) (F_R_goes x y) := by
  intro a b h
  have fr0 : ∀ c, c < 123 → (mw b 123 0 0) c = b c := fun c hc => mw_o (by omega)
  by_cases hx : 1 ≤ x ∧ x ≤ 60
  · by_cases hy : 0 ≤ y ∧ y ≤ 3
    · obtain ⟨n, n1, n60, rfl⟩ := in_1 (m := 60) (by decide) hx
      obtain ⟨k, k3, rfl⟩ := in_nI (m := 3) (by decide) hy
      have h0 : I2 a (mw b 123 0 0) := I2_0 h
      obtain ⟨a1, e1, c1, c2, c3, c4⟩ := H_copy (s := a) (h0 := 91) (h1 := 2) (c0 := 92) (c1 := 3) (d0 := 93) (d1 := 4) rfl rfl rfl rfl rfl rfl rfl rfl rfl rfl rfl rfl rfl rfl (by decide) (by decide) (by decide) (by decide) (by decide) (by decide) (by decide)
      obtain ⟨b0, hb0⟩ : ∃ b0, b0 = mw b 123 0 0 := ⟨_, rfl⟩
      rw [← hb0] at h0
      have ht : F_R_thinks b0 = some (0, mw (rp b0 126 (fun i => if 0 ≤ i ∧ i < 773 then b0 124 i else b0 126 i)) 123 5 1) := think2 773 0 gF b0 rfl (by rw [gF_eq]; omega)
      obtain ⟨b1, hb1⟩ : ∃ b1, b1 = mw (rp b0 126 (fun i => if 0 ≤ i ∧ i < 773 then b0 124 i else b0 126 i)) 123 5 1 := ⟨_, rfl⟩
      rw [← hb1] at ht
      have d1 : ∀ c, c ≠ 123 → c ≠ 126 → b1 c = b0 c := fun c q1 q2 => by rw [hb1, mw_o q1, rp_o q2]
      have d2 : ∀ k, k ≠ 5 → b1 123 k = b0 123 k := fun k q => by rw [hb1, mw_n q, rp_o (by decide)]
      have d3 : b1 123 5 = 1 := by rw [hb1, mw_y]
      have d4 : ∀ k, k < 773 → b1 126 k = b0 124 k := fun k hk => by rw [hb1, mw_o (by decide), rp_at]; exact if_pos ⟨Nat.zero_le k, hk⟩
      obtain ⟨S1, O1⟩ := SN_th h0 c1 c2 c3 c4 d1 d2 d3
      obtain ⟨r, a2, b2, z1, z2, F⟩ := go_lp n60 k3 n 0 gF gF a1 b1 S1 O1 (by omega) (by rw [gF_eq]; omega) (by rw [gF_eq]; omega)
      have z1 : F_U_afterNights_7 gF (nI n) (nI k) 0 a1 = some (r, a2) := z1
      have z2 : F_R_goes_21 gF (nI n) (nI k) 0 b1 = some (r, mw (rp b2 124 (fun i => if 0 ≤ i ∧ i < 773 then b2 126 i else b2 124 i)) 123 5 0) := z2
      obtain ⟨f1, f2, f3, f4, f5, f6⟩ := F
      have m5 : b0 123 5 = 0 := h0.2.2.2.2.2.2.1
      have ea : ∀ c, c ≠ 13 → c ≠ 14 → c ≠ 91 → c ≠ 92 → c ≠ 93 → a2 c = a c := fun c q1 q2 q3 q4 q5 => by
        by_cases q6 : c = 5
        · subst q6; rw [(f4 rfl).1]; exact c1 5 q3 q4 q5
        · by_cases q7 : c = 6
          · subst q7; rw [(f4 rfl).2]; exact c1 6 q3 q4 q5
          · rw [f1 c q3 q4 q6 q7 q1 q2]; exact c1 c q3 q4 q5
      have eb2 : ∀ c, c ≠ 124 → c ≠ 143 → c ≠ 144 → b2 c = b1 c := fun c q1 q2 q3 => by
        by_cases q4 : c = 129
        · subst q4; exact f6 rfl
        · exact f5 c q1 q4 q2 q3
      have eb : ∀ c, c ≠ 124 → c ≠ 126 → c ≠ 143 → c ≠ 144 → (mw (rp b2 124 (fun i => if 0 ≤ i ∧ i < 773 then b2 126 i else b2 124 i)) 123 5 0) c = b0 c := fun c q1 q2 q3 q4 => by
        by_cases q5 : c = 123
        · subst q5
          funext k
          by_cases q6 : k = 5
          · subst q6; rw [mw_y, m5]
          · rw [mw_n q6, rp_o (by decide), eb2 123 (by decide) (by decide) (by decide)]; exact d2 k q6
        · rw [mw_o q5, rp_o q1, eb2 c q1 q3 q4]; exact d1 c q5 q2
      have e124 : ∀ k, k < 773 → (mw (rp b2 124 (fun i => if 0 ≤ i ∧ i < 773 then b2 126 i else b2 124 i)) 123 5 0) 124 k = b0 124 k := fun k hk => by
        rw [mw_o (by decide), rp_at, if_pos ⟨Nat.zero_le k, hk⟩, eb2 126 (by decide) (by decide) (by decide)]
        exact d4 k hk
      refine ⟨r, a2, _, ?_, ?_, I2_th h0 ea eb e124, fun c hc => ea c (by omega) (by omega) (by omega) (by omega) (by omega), fun c hc => ?_⟩
      · simp only [F_C_goes, C_within, Option.bind_some, b01, hx, hy, and_self, not_true_eq_false, if_false, one0, F_U_afterNights, e1, z1]
      · simp only [F_R_goes, R_isIn, Option.bind_some, b01, hx, hy, and_self, not_true_eq_false, if_false, one0, ← hb0, ht, z2]
      · rw [eb c (by omega) (by omega) (by omega) (by omega), hb0]
        exact fr0 c hc
    · refine ⟨-1, a, mw b 123 0 0, ?_, ?_, I2_0 h, fun _ _ => rfl, fr0⟩
      · simp only [F_C_goes, C_within, Option.bind_some, b01, hx, hy, and_self, not_true_eq_false, not_false_eq_true, if_false, if_true, one0]
      · simp only [F_R_goes, R_isIn, Option.bind_some, b01, hx, hy, and_self, not_true_eq_false, not_false_eq_true, if_false, if_true, one0]
  · refine ⟨-1, a, mw b 123 0 0, ?_, ?_, I2_0 h, fun _ _ => rfl, fr0⟩
    · simp only [F_C_goes, C_within, Option.bind_some, b01, hx, not_false_eq_true, if_true]
    · simp only [F_R_goes, R_isIn, Option.bind_some, b01, hx, not_false_eq_true, if_true]
theorem g_goes (x y : Int32) : Good Inv (F_C_goes x y) (F_R_goes x y) := good_of (p_goes x y)
