theorem in_1 {x : Int32} {m : Nat} (hm : m < 2 ^ 31) (h : 1 ≤ x ∧ x ≤ nI m) : ∃ k, 1 ≤ k ∧ k ≤ m ∧ x = nI k := by
  obtain ⟨k, k1, rfl⟩ := in_nI (x := x) hm ⟨Int32.le_trans (by decide) h.1, h.2⟩
  refine ⟨k, ?_, k1, rfl⟩
  rcases Nat.eq_zero_or_pos k with rfl | q
  · exact absurd h.1 (by decide)
  · exact q
/-- a visit -/
theorem sn_vis {h th : Nat} {a b : Mem} (hh : okH h) (S : SN h th a b) {f u p : Nat} {w : Int32} (hf : f < nF (hv h a)) (hu : u ≤ 1) (hp : 1 ≤ p) (hp5 : p ≤ 5) : ∃ (v : Nat) (a' b' : Mem), F_G_tread h (nI th) (nI f) (nI u) w (nI p) a = some (nI v, a') ∧ F_R_isVisited (nI f) (nI u) w (nI p) b = some (nI v, b') ∧ SN h th a' b' ∧ FN h th a a' b b' := by
  obtain ⟨k1, k2, k3, k4, k5, k6, k7, k8, k9⟩ := okH_f hh
  have f6 : f < 6 := by have := S.1.1; omega
  obtain ⟨z1, z2, z3, z4⟩ := S.1.2.2.2.1 f hf
  obtain ⟨v, a', b', e1, e2, S1, F1⟩ := sn_tread hh (u := u) (p := p) (w := w) f6 z2 hu hp hp5 16 0 0 gF gF a b S hf rfl (by omega) (by omega) (by rw [gF_eq]; omega) (by rw [gF_eq]; omega) (by omega)
  refine ⟨v, a', b', ?_, ?_, S1, F1⟩
  · have es : F_H_size h (nI f) a = some (nI (sz (hv h a) f), a) := by
      rw [H_size k1 k3 k6 k7 f6]
      exact congrArg (fun x => some (x, a)) z3
    have em : (if nI p < 1 then (1 : Int32) else nI p) = nI p := if_neg (nI_nlt (b := 1) (by omega) (by omega))
    rw [show 0 * p + p = p by omega] at e1
    simp only [F_G_tread, k1, show Nat.beq 4 4 = true from rfl, cond_true, es, Option.bind_some, C_max, em]
    exact e1
  · rw [show 0 * p = 0 by omega] at e2
    exact e2
theorem LwR_2 {a b : Mem} (h : LwR (prj a) (prj b)) : LwR a b := by
  obtain ⟨n, hn, e1, e2, e3⟩ := h
  refine ⟨n, hn, e1, e2, fun l hl => ?_⟩
  obtain ⟨h9, h9v, p, q1, r, p', q', r', a1, a2, a3, a4, a5, a6, b1, b2, b3, b4, b5, b6, c1, c2, c3⟩ := e3 l hl
  have hl16 : l < 16 := by omega
  have q133 : b 133 l = prj b 133 l := (prj_at (show rel 133 l = true from blt_t hl16)).symm
  have q134 : b 134 l = prj b 134 l := (prj_at (show rel 134 l = true from blt_t hl16)).symm
  have q135 : b 135 l = prj b 135 l := (prj_at (show rel 135 l = true from blt_t hl16)).symm
  have q136 : b 136 l = prj b 136 l := (prj_at (show rel 136 l = true from blt_t hl16)).symm
  have qc : ∀ j, j < 400 → prj b 137 j = b 137 j ∧ prj b 138 j = b 138 j := fun j hj => ⟨prj_at (show rel 137 j = true from blt_t hj), prj_at (show rel 138 j = true from blt_t hj)⟩
  exact ⟨q133.trans h9, h9v, p, q1, r, p', q', r', a1, a2, a3, a4, a5, a6, q134.trans b1, q135.trans b2, q136.trans b3, b4, b5, b6, codeEq_c (by omega) b4 qc c1, c2, fun hh => codeEq_c (by omega) b5 qc (c3 hh)⟩
theorem SN_I2 {a b : Mem} (h : I2 a b) : SN 2 0 a b := by
  obtain ⟨⟨hHS, hHM, hBR, hLw, hOr, hVi, hDo, hTR⟩, hKR, hUR, hMR⟩ := h
  exact ⟨hHS, hHM, LwR_2 hLw, fun _ => hBR, hMR.2.2.2.2.1, hMR.2.2.2.1, by decide⟩
theorem frD_FN {a a' b b' : Mem} (F : FN 2 0 a a' b b') : frD (prj a) (prj a') (prj b) (prj b') := by
  obtain ⟨f1, f2, f3, -, f5, -⟩ := F
  refine ⟨fun c c1 c2 => ?_, f2, fun f hf => ?_, fun k hk => f3 k hk, fun k hk => ?_, fun c c1 c2 c3 => ?_⟩
  · by_cases q1 : c = 13
    · subst q1; rfl
    · by_cases q2 : c = 14
      · subst q2; rfl
      · exact prj_cell (f1 c (by omega) (by omega) (by omega) (by omega) q1 q2)
  · rw [prj_cell (f1 4 (by decide) (by decide) (by decide) (by decide) (by decide) (by decide))]
  · rw [prj_cell (f5 123 (by decide) (by decide) (by decide) (by decide))]
  · by_cases q1 : c = 143
    · subst q1; rfl
    · by_cases q2 : c = 144
      · subst q2; rfl
      · exact prj_cell (f5 c (by omega) c3 q1 q2)
theorem I2_FN {a a' b b' : Mem} (h : I2 a b) (S : SN 2 0 a' b') (F : FN 2 0 a a' b b') : I2 a' b' := by
  obtain ⟨hRR, hKR, ⟨u, x, hu, hx, e6, e3, e5, hrow⟩, hMR⟩ := h
  have D := frD_FN F
  have hHM : HM (prj a') (prj b') := S.2.1
  have hBR : BR (prj a') (prj b') := S.2.2.2.1 rfl
  have pa : ∀ c, c ≠ 2 → c ≠ 3 → c ≠ 5 → c ≠ 6 → c ≠ 13 → c ≠ 14 → prj a' c = prj a c := fun c c1 c2 c3 c4 c5 c6 => prj_cell (F.1 c c1 c2 c3 c4 c5 c6)
  have pb : ∀ c, c ≠ 124 → c ≠ 129 → c ≠ 143 → c ≠ 144 → prj b' c = prj b c := fun c c1 c2 c3 c4 => prj_cell (F.2.2.2.2.1 c c1 c2 c3 c4)
  have a0 := pa 0 (by decide) (by decide) (by decide) (by decide) (by decide) (by decide)
  have b123 := pb 123 (by decide) (by decide) (by decide) (by decide)
  have hR : ∀ c, 38 ≤ c → prj a' c = prj a c := fun c hc => pa c (by omega) (by omega) (by omega) (by omega) (by omega) (by omega)
  refine ⟨RR_deed D hHM hBR hRR, KR2_c (by rw [a0]) (fun c c1 _ => hR c c1) (by rw [b123]) (pb 163 (by decide) (by decide) (by decide) (by decide)) hKR, ⟨u, x, hu, hx, ?_, ?_, ?_, fun j hj => row_deed (Nat.mod_lt _ (by decide)) D.2.1 D.2.2.1 D.2.2.2.1 (fun c c1 _ => hR c (by omega)) (pb 125 (by decide) (by decide) (by decide) (by decide)) (hrow j hj)⟩, MR2_c (fun k _ _ => by rw [a0]) (hR 75 (by decide)) (fun k _ => by rw [b123]) (pb 130 (by decide) (by decide) (by decide) (by decide)) (pb 131 (by decide) (by decide) (by decide) (by decide)) hMR⟩
  · rw [a0]; exact e6
  · rw [b123]; exact e3
  · rw [a0]; exact e5
theorem keep_nF {a b a1 : Mem} {v : Int32} (h : I2 a b) (e : F_C_keepBefore a = some (v, a1)) : a1 2 = a 2 ∧ a1 4 = a 4 := by
  obtain ⟨u, ux, hu, hux, u6, u3, u5, -⟩ := h.2.2.1
  obtain ⟨a', k1, k2, -⟩ := keepC (a := a) hux hu u5 u6
  rw [e] at k1
  have : a1 = a' := congrArg Prod.snd (Option.some.inj k1)
  subst this
  exact ⟨k2 2 (by omega) (by omega) (by omega) (by omega) (by omega), k2 4 (by omega) (by omega) (by omega) (by omega) (by omega)⟩
theorem p_visit (x u y z : Int32) (hu : u = 0 ∨ u = 1) : Pair I2 I2 (F_C_visit x u y z) (F_R_visit x u y z) := by
  intro a b h
  obtain ⟨hz, hc, hm⟩ := I2_sz h
  have hm0 : mSz (mw b 123 0 0) (nF a) (sz a) := hm
  have fr0 : ∀ c, c < 123 → (mw b 123 0 0) c = b c := fun c hc => mw_o (by omega)
  rcases C_has1 hz hc x with ⟨f, hf, rfl, hh⟩ | ⟨hno, hh⟩
  · rcases R_isF hz hm0 (nI f) with ⟨f', hf', hff, hmR⟩ | ⟨hno, -⟩
    · by_cases hy : 1 ≤ y ∧ y ≤ 200
      · by_cases hzz : 1 ≤ z ∧ z ≤ 5
        · obtain ⟨p, p1, p5, rfl⟩ := in_1 (m := 5) (by decide) hzz
          obtain ⟨v, a1, b1, e1, e2, h1, f1, f2⟩ := p_keep a (mw b 123 0 0) (I2_0 h)
          obtain ⟨n2, n4⟩ := keep_nF h e1
          have hf1 : f < nF (hv 2 a1) := by
            show f < (a1 2 2).toNatClampNeg
            rw [n2]; exact hf
          obtain ⟨uu, hu1, hu2⟩ : ∃ q, q ≤ 1 ∧ u = nI q := by
            rcases hu with rfl | rfl
            · exact ⟨0, by decide, rfl⟩
            · exact ⟨1, by decide, rfl⟩
          subst hu2
          obtain ⟨r, a2, b2, t1, t2, S2, F2⟩ := sn_vis (Or.inl rfl) (SN_I2 h1) (w := y) hf1 hu1 p1 p5
          have t1 : F_G_tread 2 0 (nI f) (nI uu) y (nI p) a1 = some (nI r, a2) := t1
          refine ⟨nI r, a2, b2, ?_, ?_, I2_FN h1 S2 F2, fun c hc => ?_, fun c hc => ?_⟩
          · simp only [F_C_visit, hh, Option.bind_some, one0, if_false, F_C_isVisitor, C_within, b01, hy, hzz, and_self, not_true_eq_false, e1, t1]
          · simp only [F_R_visit, hmR, R_isIn, Option.bind_some, b01, hy, hzz, and_self, not_true_eq_false, if_false, one0, e2, t2]
          · rw [F2.1 c (by omega) (by omega) (by omega) (by omega) (by omega) (by omega)]; exact f1 c hc
          · rw [F2.2.2.2.2.1 c (by omega) (by omega) (by omega) (by omega)]; exact (f2 c hc).trans (fr0 c hc)
        · refine ⟨-1, a, mw b 123 0 0, ?_, ?_, I2_0 h, fun _ _ => rfl, fr0⟩
          · simp only [F_C_visit, hh, Option.bind_some, one0, if_false, F_C_isVisitor, C_within, b01, hy, hzz, and_self, not_true_eq_false, not_false_eq_true, if_true]
          · simp only [F_R_visit, hmR, R_isIn, Option.bind_some, b01, hy, hzz, and_self, not_true_eq_false, not_false_eq_true, if_false, if_true, one0]
      · refine ⟨-1, a, mw b 123 0 0, ?_, ?_, I2_0 h, fun _ _ => rfl, fr0⟩
        · simp only [F_C_visit, hh, Option.bind_some, one0, if_false, F_C_isVisitor, C_within, b01, hy, not_false_eq_true, if_true]
        · simp only [F_R_visit, hmR, R_isIn, Option.bind_some, b01, hy, not_false_eq_true, if_false, if_true, one0]
    · exact absurd rfl (hno f hf)
  · rcases R_isF hz hm0 x with ⟨f', hf', hff, -⟩ | ⟨-, hmR⟩
    · exact absurd hff (hno f' hf')
    · refine ⟨-1, a, mw b 123 0 0, ?_, ?_, I2_0 h, fun _ _ => rfl, fr0⟩
      · simp only [F_C_visit, hh, Option.bind_some, if_true]
      · simp only [F_R_visit, hmR, Option.bind_some, if_true]
theorem g_visit (x u y z : Int32) (hu : u = 0 ∨ u = 1) : Good Inv (F_C_visit x u y z) (F_R_visit x u y z) := good_of (p_visit x u y z hu)
