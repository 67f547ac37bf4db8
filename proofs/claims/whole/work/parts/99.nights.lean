/-! ===== nights ===== -/
/-- the last t rows of what was before are alike; under e they are all -/
def URt (e : Prop) (t : Nat) (a b : Mem) : Prop := ∃ uc um x, uc ≤ 6 ∧ um ≤ 6 ∧ x < 6 ∧ t ≤ uc ∧ t ≤ um ∧ (e → uc = t ∧ um = t) ∧ a 0 6 = nI uc ∧ b 123 3 = nI um ∧ a 0 5 = nI x ∧ ∀ j, j < t → rowU2 a b ((x + 6 - t + j) % 6) (um - t + j)
def I2t (e : Prop) (t : Nat) (a b : Mem) : Prop := RR (prj a) (prj b) ∧ KR2 (prj a) (prj b) ∧ URt e t (prj a) (prj b) ∧ MR2 (prj a) (prj b)
theorem I2t_of {a b : Mem} (h : I2 a b) : (∃ t, t ≤ 6 ∧ I2t True t a b) ∧ I2t False 0 a b := by
  obtain ⟨hRR, hKR, ⟨u, x, hu, hx, e6, e3, e5, hrow⟩, hMR⟩ := h
  refine ⟨⟨u, hu, hRR, hKR, ⟨u, u, x, hu, hu, hx, Nat.le_refl u, Nat.le_refl u, fun _ => ⟨rfl, rfl⟩, e6, e3, e5, fun j hj => ?_⟩, hMR⟩, hRR, hKR, ⟨u, u, x, hu, hu, hx, by omega, by omega, False.elim, e6, e3, e5, fun j hj => absurd hj (by omega)⟩, hMR⟩
  rw [show u - u + j = j by omega]
  exact hrow j hj
theorem I2_of {e : Prop} {t : Nat} {a b : Mem} (h : I2t e t a b) (he : e ∨ t = 6) : I2 a b := by
  obtain ⟨hRR, hKR, ⟨uc, um, x, h1, h2, hx, h3, h4, h5, e6, e3, e5, hrow⟩, hMR⟩ := h
  obtain ⟨q1, q2⟩ : uc = t ∧ um = t := by
    rcases he with he | he
    · exact h5 he
    · omega
  subst q1
  subst q2
  refine ⟨hRR, hKR, ⟨um, x, h1, hx, e6, e3, e5, fun j hj => ?_⟩, hMR⟩
  have := hrow j hj
  rw [show um - um + j = j by omega] at this
  exact this
theorem nx6 (u : Nat) : (if u < 6 then u + 1 else 6) = u + 1 ∧ u < 6 ∨ (if u < 6 then u + 1 else 6) = 6 ∧ 6 ≤ u := by
  by_cases c : u < 6
  · exact Or.inl ⟨if_pos c, c⟩
  · exact Or.inr ⟨if_neg c, by omega⟩
theorem keep_t {e : Prop} {t : Nat} {a b : Mem} (h : I2t e t a b) : ∃ (a' b' : Mem), F_C_keepBefore a = some (0, a') ∧ F_R_keepsAhead b = some (0, b') ∧ I2t e (if t < 6 then t + 1 else 6) a' b' ∧ (∀ c, ¬ c < 123 → a' c = a c) ∧ ∀ c, c < 123 → b' c = b c := by
  obtain ⟨hRR, hKR, ⟨uc, um, x, h1, h2, hx, h3, h4, h5, e6, e3, e5, hrow⟩, hMR⟩ := id h
  obtain ⟨a', c1, c2, c3, c4, c5, c6, c7, c8, c9⟩ := keepC (a := a) hx h1 e5 e6
  obtain ⟨b', d1, d2, d3, d4, d5, d6⟩ := keepM (b := b) h2 e3
  refine ⟨a', b', c1, d1, ?_, fun c hc => c2 c (by omega) (by omega) (by omega) (by omega) (by omega), fun c hc => d2 c (by omega) (by omega)⟩
  have pa : ∀ c, 1 ≤ c → c ≤ 73 → prj a' c = prj a c := fun c h1 h2 => prj_cell (c2 c (by omega) (by omega) (by omega) (by omega) (by omega))
  have p75 : prj a' 75 = prj a 75 := prj_cell (c2 75 (by omega) (by omega) (by omega) (by omega) (by omega))
  have pb : ∀ c, c ≠ 123 → c ≠ 125 → prj b' c = prj b c := fun c h1 h2 => prj_cell (d2 c h1 h2)
  have pb3 : ∀ k, k ≠ 3 → prj b' 123 k = prj b 123 k := fun k hk => by
    unfold prj
    rw [d3 k hk]
  have pa0 : ∀ k, k ≠ 5 → k ≠ 6 → prj a' 0 k = prj a 0 k := fun k h1 h2 => by
    unfold prj
    rw [c3 k h1 h2]
  obtain ⟨hHS, hHM, ⟨⟨nb, nb1, nb2, nb3⟩, -⟩, -⟩ := id hRR
  refine ⟨RR_c2 (fun c h1 h2 => pa c (by omega) (by omega)) (fun c k h1 h2 h3 h4 => ?_) hRR, KR2_c (pa0 2 (by decide) (by decide)) (fun c h1 h2 => pa c (by omega) (by omega)) (pb3 70 (by decide)) (pb 163 (by decide) (by decide)) hKR, ?_, MR2_c pa0 p75 pb3 (pb 130 (by decide) (by decide)) (pb 131 (by decide) (by decide)) hMR⟩
  · by_cases q : c = 123
    · rw [q]; exact pb3 k (h4 q)
    · rw [pb c q h2]
  · have q1 := nx6 uc
    have q2 := nx6 um
    have q3 := nx6 t
    generalize hU : (if uc < 6 then uc + 1 else 6) = uc' at *
    generalize hM : (if um < 6 then um + 1 else 6) = um' at *
    generalize hT : (if t < 6 then t + 1 else 6) = t' at *
    refine ⟨uc', um', (x + 1) % 6, by omega, by omega, Nat.mod_lt _ (by decide), by omega, by omega, fun he => ?_, c5, d4, c4, fun j hj => ?_⟩
    · obtain ⟨y1, y2⟩ := h5 he
      omega
    have f22 : prj a' 2 = prj a 2 := pa 2 (by decide) (by decide)
    have f3 : prj a' 3 = prj a 3 := pa 3 (by decide) (by decide)
    have f4 : prj a' 4 = prj a 4 := pa 4 (by decide) (by decide)
    by_cases hlast : j + 1 = t'
    · have er : ((x + 1) % 6 + 6 - t' + j) % 6 = x := by omega
      rw [er]
      obtain ⟨g1, g2, g3⟩ := rg_eq (a := prj a') hx
      have v1 : ∀ k, prj a' (105 + 3 * x) k = a' (105 + 3 * x) k := fun k => prj_at (relR hx k).1
      have v2 : ∀ k, prj a' (106 + 3 * x) k = a' (106 + 3 * x) k := fun k => prj_at (relR hx k).2.1
      have v3 : ∀ k, prj a' (107 + 3 * x) k = a' (107 + 3 * x) k := fun k => prj_at (relR hx k).2.2
      have ej : um' - t' + j = um' - 1 := by omega
      rw [ej]
      refine ⟨?_, fun f hf => ?_, fun k hk => ?_, HM_c (fun k k1 k2 => ?_) (fun k k1 k2 => ?_) (fun f hf => ?_) (fun k hk => ?_) hHM, nb, nb1, ?_, ?_⟩
      · rw [g1, v1, f22, c9 2 (by decide) (by decide)]; rfl
      · rw [g3, v3, f4, c8 f hf]; rfl
      · rw [g2, v2, f3, c7 k (by omega)]; rfl
      · rw [uc3, g2, v2, c7 k (by omega)]; rfl
      · rw [uc2, g1, v1, c9 k k1 k2]; rfl
      · rw [uc4, g3, v3, c8 f hf]; rfl
      · rw [um124]
        exact d5 k hk
      · show a' 74 x = nI nb
        rw [c6, if_pos rfl]
        exact nb2
      · show b' 125 (773 * (um' - 1) + 2) = nI nb
        rw [d5 2 (by decide)]
        exact nb3
    · have hj1 : j + 1 < t' := by omega
      obtain ⟨r, j0, hr, hrx, e1, e2, hR0⟩ : ∃ r j0, r < 6 ∧ r ≠ x ∧ ((x + 1) % 6 + 6 - t' + j) % 6 = r ∧ (∀ k, k < 773 → b' 125 (773 * (um' - t' + j) + k) = b 125 (773 * j0 + k)) ∧ rowU2 (prj a) (prj b) r j0 := by
        by_cases c : um < 6
        · refine ⟨(x + 6 - t + j) % 6, um - t + j, Nat.mod_lt _ (by decide), by omega, by omega, fun k hk => ?_, hrow j (by omega)⟩
          have := d6 (um' - t' + j) k (by omega) hk
          rw [if_pos c] at this
          rw [this]
          congr 2
          omega
        · by_cases ct : t < 6
          · refine ⟨(x + 6 - t + j) % 6, um - t + j, Nat.mod_lt _ (by decide), by omega, by omega, fun k hk => ?_, hrow j (by omega)⟩
            have := d6 (um' - t' + j) k (by omega) hk
            rw [if_neg c] at this
            rw [this]
            congr 1
            rw [show um' - t' + j + 1 = um - t + j by omega]
          · refine ⟨(x + 6 - t + (j + 1)) % 6, um - t + (j + 1), Nat.mod_lt _ (by decide), by omega, by omega, fun k hk => ?_, hrow (j + 1) (by omega)⟩
            have := d6 (um' - t' + j) k (by omega) hk
            rw [if_neg c] at this
            rw [this]
            congr 1
            rw [show um' - t' + j + 1 = um - t + (j + 1) by omega]
      rw [e1]
      obtain ⟨g1, g2, g3⟩ := rg_eq (a := prj a') hr
      obtain ⟨q1, q2, q3⟩ := rg_eq (a := prj a) hr
      have v1 : prj a' (105 + 3 * r) = prj a (105 + 3 * r) := prj_cell (c2 _ (by omega) (by omega) (by omega) (by omega) (by omega))
      have v2 : prj a' (106 + 3 * r) = prj a (106 + 3 * r) := prj_cell (c2 _ (by omega) (by omega) (by omega) (by omega) (by omega))
      have v3 : prj a' (107 + 3 * r) = prj a (107 + 3 * r) := prj_cell (c2 _ (by omega) (by omega) (by omega) (by omega) (by omega))
      obtain ⟨w1, w2, w3, w4, n, w5, w6, w7⟩ := hR0
      refine ⟨?_, fun f hf => ?_, fun k hk => ?_, HM_c (fun k k1 k2 => ?_) (fun k k1 k2 => ?_) (fun f hf => ?_) (fun k hk => ?_) w4, n, w5, ?_, ?_⟩
      · rw [g1, v1, f22, ← q1]; exact w1
      · rw [g3, v3, f4, ← q3]; exact w2 f hf
      · rw [g2, v2, f3, ← q2]; exact w3 k hk
      · rw [uc3, uc3, g2, v2, ← q2]
      · rw [uc2, uc2, g1, v1, ← q1]
      · rw [uc4, uc4, g3, v3, ← q3]
      · rw [um124, um124]
        exact e2 k hk
      · show a' 74 r = nI n
        rw [c6, if_neg hrx]
        exact w6
      · show b' 125 (773 * (um' - t' + j) + 2) = nI n
        rw [e2 2 (by decide)]
        exact w7
/-- only the reference keeps -/
theorem keep_0 {a b : Mem} (h : I2t False 0 a b) : ∃ (b' : Mem), F_R_keepsAhead b = some (0, b') ∧ I2t False 0 a b' ∧ ∀ c, c < 123 → b' c = b c := by
  obtain ⟨hRR, hKR, ⟨uc, um, x, h1, h2, hx, h3, h4, h5, e6, e3, e5, hrow⟩, hMR⟩ := id h
  obtain ⟨b', d1, d2, d3, d4, d5, d6⟩ := keepM (b := b) h2 e3
  have pb : ∀ c, c ≠ 123 → c ≠ 125 → prj b' c = prj b c := fun c h1 h2 => prj_cell (d2 c h1 h2)
  have pb3 : ∀ k, k ≠ 3 → prj b' 123 k = prj b 123 k := fun k hk => by
    unfold prj
    rw [d3 k hk]
  refine ⟨b', d1, ⟨RR_c2 (fun _ _ _ => rfl) (fun c k h1 h2 h3 h4 => ?_) hRR, KR2_c rfl (fun _ _ _ => rfl) (pb3 70 (by decide)) (pb 163 (by decide) (by decide)) hKR, ⟨uc, _, x, h1, ?_, hx, h3, by omega, False.elim, e6, d4, e5, fun j hj => absurd hj (by omega)⟩, MR2_c (fun _ _ _ => rfl) rfl pb3 (pb 130 (by decide) (by decide)) (pb 131 (by decide) (by decide)) hMR⟩, fun c hc => d2 c (by omega) (by omega)⟩
  · by_cases q : c = 123
    · rw [q]; exact pb3 k (h4 q)
    · rw [pb c q h2]
  · split <;> omega
theorem SN_t {e : Prop} {t : Nat} {a b : Mem} (h : I2t e t a b) : SN 2 0 a b ∧ OV 2 a b := by
  obtain ⟨⟨hHS, hHM, hBR, hLw, hOr, hVi, hDo, hTR⟩, hKR, hUR, hMR⟩ := h
  refine ⟨⟨hHS, hHM, LwR_2 hLw, fun _ => hBR, hMR.2.2.2.2.1, hMR.2.2.2.1, by decide⟩, ?_, ?_⟩
  · obtain ⟨n, o1, o2, o3, o4⟩ := hOr
    refine ⟨n, o1, o2, o3, fun l hl => ?_⟩
    have at_ : ∀ k, k < 3 → prj b 140 (3 * l + k) = b 140 (3 * l + k) := fun k hk => prj_at (show rel 140 (3 * l + k) = true from blt_t (show 3 * l + k < 48 by omega))
    obtain ⟨p1, w, f, i, p2, p3, p4, p5, p6, p7, p8⟩ := o4 l hl
    exact ⟨(at_ 0 (by decide)).symm.trans p1, w, f, i, p2, p3, p4, p5, p6, (at_ 1 (by decide)).symm.trans p7, (at_ 2 (by decide)).symm.trans p8⟩
  · obtain ⟨n, o1, o2, o3, o4⟩ := hVi
    refine ⟨n, o1, o2, o3, fun l hl => ?_⟩
    have at_ : ∀ k, k < 5 → prj b 141 (5 * l + k) = b 141 (5 * l + k) := fun k hk => prj_at (show rel 141 (5 * l + k) = true from blt_t (show 5 * l + k < 80 by omega))
    obtain ⟨p1, f, u, w, st, p2, p3, p4, p5, p6, p7, p8, p9, p10, p11, q1, q2, q3, q4⟩ := o4 l hl
    exact ⟨(at_ 0 (by decide)).symm.trans p1, f, u, w, st, p2, p3, p4, p5, p6, p7, p8, p9, p10, p11, (at_ 1 (by decide)).symm.trans q1, (at_ 2 (by decide)).symm.trans q2, (at_ 3 (by decide)).symm.trans q3, (at_ 4 (by decide)).symm.trans q4⟩
theorem It_FN {e : Prop} {t : Nat} {a a' b b' : Mem} (h : I2t e t a b) (S : SN 2 0 a' b') (F : FN 2 0 a a' b b') : I2t e t a' b' := by
  obtain ⟨hRR, hKR, ⟨uc, um, x, h1, h2, hx, h3, h4, h5, e6, e3, e5, hrow⟩, hMR⟩ := h
  have D := frD_FN F
  have hHM : HM (prj a') (prj b') := S.2.1
  have hBR : BR (prj a') (prj b') := S.2.2.2.1 rfl
  have pa : ∀ c, c ≠ 2 → c ≠ 3 → c ≠ 5 → c ≠ 6 → c ≠ 13 → c ≠ 14 → prj a' c = prj a c := fun c c1 c2 c3 c4 c5 c6 => prj_cell (F.1 c c1 c2 c3 c4 c5 c6)
  have pb : ∀ c, c ≠ 124 → c ≠ 129 → c ≠ 143 → c ≠ 144 → prj b' c = prj b c := fun c c1 c2 c3 c4 => prj_cell (F.2.2.2.2.1 c c1 c2 c3 c4)
  have a0 := pa 0 (by decide) (by decide) (by decide) (by decide) (by decide) (by decide)
  have b123 := pb 123 (by decide) (by decide) (by decide) (by decide)
  have hR : ∀ c, 38 ≤ c → prj a' c = prj a c := fun c hc => pa c (by omega) (by omega) (by omega) (by omega) (by omega) (by omega)
  refine ⟨RR_deed D hHM hBR hRR, KR2_c (by rw [a0]) (fun c c1 _ => hR c c1) (by rw [b123]) (pb 163 (by decide) (by decide) (by decide) (by decide)) hKR, ⟨uc, um, x, h1, h2, hx, h3, h4, h5, ?_, ?_, ?_, fun j hj => row_deed (Nat.mod_lt _ (by decide)) D.2.1 D.2.2.1 D.2.2.2.1 (fun c c1 _ => hR c (by omega)) (pb 125 (by decide) (by decide) (by decide) (by decide)) (hrow j hj)⟩, MR2_c (fun k _ _ => by rw [a0]) (hR 75 (by decide)) (fun k _ => by rw [b123]) (pb 130 (by decide) (by decide) (by decide) (by decide)) (pb 131 (by decide) (by decide) (by decide) (by decide)) hMR⟩
  · rw [a0]; exact e6
  · rw [b123]; exact e3
  · rw [a0]; exact e5
theorem FN_fr {a a' b b' : Mem} (F : FN 2 0 a a' b b') : (∀ c, ¬ c < 123 → a' c = a c) ∧ ∀ c, c < 123 → b' c = b c :=
  ⟨fun c hc => F.1 c (by omega) (by omega) (by omega) (by omega) (by omega) (by omega), fun c hc => F.2.2.2.2.1 c (by omega) (by omega) (by omega) (by omega)⟩
theorem nt_2 {e : Prop} {n : Nat} (hn : n ≤ 60) : ∀ (q t m m' : Nat) (v : Int32) (a b : Mem), I2t e t a b → t ≤ 6 → q ≤ 6 → q ≤ n → q < m → q < m' → ∃ (r : Int32) (a' b' : Mem) (t' : Nat), F_C_nights_19 m v (nI q) a = some (r, a') ∧ F_R_nights_23 m' (nI n) v (nI (n - q)) b = some (r, b') ∧ I2t e t' a' b' ∧ (t + q ≥ 6 → t' = 6) ∧ (∀ c, ¬ c < 123 → a' c = a c) ∧ ∀ c, c < 123 → b' c = b c := by
  intro q
  induction q with
  | zero =>
    intro t m m' v a b h ht hq hqn hm hm'
    obtain ⟨m, rfl⟩ : ∃ k, m = k + 1 := ⟨m - 1, by omega⟩
    obtain ⟨m', rfl⟩ : ∃ k, m' = k + 1 := ⟨m' - 1, by omega⟩
    refine ⟨v, a, b, t, ?_, ?_, h, fun _ => by omega, fun _ _ => rfl, fun _ _ => rfl⟩
    · simp only [F_C_nights_19, if_pos (show nI 0 ≤ 0 from by decide)]
    · simp only [F_R_nights_23, if_pos (nI_le (show n ≤ n - 0 by omega) (show n - 0 < 2 ^ 31 by omega))]
  | succ q ih =>
    intro t m m' v a b h ht hq hqn hm hm'
    obtain ⟨m, rfl⟩ : ∃ k, m = k + 1 := ⟨m - 1, by omega⟩
    obtain ⟨m', rfl⟩ : ∃ k, m' = k + 1 := ⟨m' - 1, by omega⟩
    obtain ⟨a1, b1, k1, k2, h1, f1, f2⟩ := keep_t h
    obtain ⟨S1, O1⟩ := SN_t h1
    obtain ⟨r, a2, b2, y1, y2, S2, F2⟩ := sn_night (Or.inl rfl) S1 O1
    obtain ⟨g1, g2⟩ := FN_fr F2
    have y1 : F_G_passNight 2 0 a1 = some (r, a2) := y1
    have q3 := nx6 t
    generalize hT : (if t < 6 then t + 1 else 6) = t1 at *
    obtain ⟨rr, a3, b3, t', z1, z2, h3, z3, z4, z5⟩ := ih t1 m m' (v + r) a2 b2 (It_FN h1 S2 F2) (by omega) (by omega) (by omega) (by omega) (by omega)
    refine ⟨rr, a3, b3, t', ?_, ?_, h3, fun q => z3 (by omega), fun c hc => (z4 c hc).trans ((g1 c hc).trans (f1 c hc)), fun c hc => (z5 c hc).trans ((g2 c hc).trans (f2 c hc))⟩
    · have c1 : ¬ nI (q + 1) ≤ 0 := nI_ge (b := q + 1) (a := 0) (by omega) (by omega)
      have c2 : ¬ (6 : Int32) < nI (q + 1) := nI_nlt (a := 6) (by omega) (by decide)
      have e1 : nI (q + 1) + (-1) = nI q := by rw [m1_add]; exact nI_pred q
      simp only [F_C_nights_19, if_neg c1, if_neg c2, k1, y1, Option.bind_some, e1, z1]
    · have c1 : ¬ nI n ≤ nI (n - (q + 1)) := nI_ge (by omega) (by omega)
      have e1 : n - (q + 1) + 1 = n - q := by omega
      simp only [F_R_nights_23, if_neg c1, k2, y2, Option.bind_some, nI_1, e1, z2]
theorem nt_1 {n : Nat} (hn : n ≤ 60) : ∀ (q m m' : Nat) (v : Int32) (a b : Mem), I2t False 0 a b → q + 6 ≤ n → q + 6 < m → q + 6 < m' → ∃ (r : Int32) (a' b' : Mem), F_C_nights_19 m v (nI (q + 6)) a = some (r, a') ∧ F_R_nights_23 m' (nI n) v (nI (n - (q + 6))) b = some (r, b') ∧ I2 a' b' ∧ (∀ c, ¬ c < 123 → a' c = a c) ∧ ∀ c, c < 123 → b' c = b c := by
  intro q
  induction q with
  | zero =>
    intro m m' v a b h hqn hm hm'
    obtain ⟨r, a', b', t', z1, z2, h3, z3, z4, z5⟩ := nt_2 (e := False) hn 6 0 m m' v a b h (by omega) (by omega) (by omega) (by omega) (by omega)
    exact ⟨r, a', b', z1, z2, I2_of h3 (Or.inr (z3 (by omega))), z4, z5⟩
  | succ q ih =>
    intro m m' v a b h hqn hm hm'
    obtain ⟨m, rfl⟩ : ∃ k, m = k + 1 := ⟨m - 1, by omega⟩
    obtain ⟨m', rfl⟩ : ∃ k, m' = k + 1 := ⟨m' - 1, by omega⟩
    obtain ⟨b1, k2, h1, f2⟩ := keep_0 h
    obtain ⟨S1, O1⟩ := SN_t h1
    obtain ⟨r, a2, b2, y1, y2, S2, F2⟩ := sn_night (Or.inl rfl) S1 O1
    obtain ⟨g1, g2⟩ := FN_fr F2
    have y1 : F_G_passNight 2 0 a = some (r, a2) := y1
    obtain ⟨rr, a3, b3, z1, z2, h3, z4, z5⟩ := ih m m' (v + r) a2 b2 (It_FN h1 S2 F2) (by omega) (by omega) (by omega)
    refine ⟨rr, a3, b3, ?_, ?_, h3, fun c hc => (z4 c hc).trans (g1 c hc), fun c hc => (z5 c hc).trans ((g2 c hc).trans (f2 c hc))⟩
    · have c1 : ¬ nI (q + 1 + 6) ≤ 0 := nI_ge (b := q + 1 + 6) (a := 0) (by omega) (by omega)
      have c2 : (6 : Int32) < nI (q + 1 + 6) := nI_lt (a := 6) (by omega) (by omega)
      have e1 : nI (q + 1 + 6) + (-1) = nI (q + 6) := by rw [m1_add, show q + 1 + 6 = q + 6 + 1 by omega]; exact nI_pred _
      simp only [F_C_nights_19, if_neg c1, if_pos c2, y1, Option.bind_some, e1, z1]
    · have c1 : ¬ nI n ≤ nI (n - (q + 1 + 6)) := nI_ge (by omega) (by omega)
      have e1 : n - (q + 1 + 6) + 1 = n - (q + 6) := by omega
      simp only [F_R_nights_23, if_neg c1, k2, y2, Option.bind_some, nI_1, e1, z2]
theorem p_nights (x : Int32) : Pair I2 I2 (F_C_nights x) (F_R_nights x) := by
  intro a b h
  have fr0 : ∀ c, c < 123 → (mw b 123 0 0) c = b c := fun c hc => mw_o (by omega)
  by_cases hx : 1 ≤ x ∧ x ≤ 60
  · obtain ⟨n, n1, n60, rfl⟩ := in_1 (m := 60) (by decide) hx
    have e5 : b 124 0 = a 2 5 := (SN_I2 h).2.1.2.2.2.2.2.1
    have l0 : ld (mw b 123 0 0) 124 0 = some (a 2 5) := (ld_in (k := 0) rfl (by decide) (by decide)).trans (congrArg some e5)
    by_cases hs : a 2 5 + nI n ≤ 9999
    · have h0 := I2t_of (I2_0 (v := 0) h)
      obtain ⟨r, a', b', z1, z2, h3, z4, z5⟩ : ∃ (r : Int32) (a' b' : Mem), F_C_nights_19 gF 0 (nI n) a = some (r, a') ∧ F_R_nights_23 gF (nI n) 0 (nI 0) (mw b 123 0 0) = some (r, b') ∧ I2 a' b' ∧ (∀ c, ¬ c < 123 → a' c = a c) ∧ ∀ c, c < 123 → b' c = (mw b 123 0 0) c := by
        by_cases c6 : n ≤ 6
        · obtain ⟨⟨t, ht, h1⟩, -⟩ := h0
          obtain ⟨r, a', b', t', z1, z2, h3, -, z4, z5⟩ := nt_2 (e := True) n60 n t gF gF 0 a _ h1 ht c6 (Nat.le_refl n) (by rw [gF_eq]; omega) (by rw [gF_eq]; omega)
          rw [Nat.sub_self] at z2
          exact ⟨r, a', b', z1, z2, I2_of h3 (Or.inl trivial), z4, z5⟩
        · obtain ⟨-, h1⟩ := h0
          obtain ⟨q, rfl⟩ : ∃ q, n = q + 6 := ⟨n - 6, by omega⟩
          obtain ⟨r, a', b', z1, z2, h3, z4, z5⟩ := nt_1 n60 q gF gF 0 a _ h1 (Nat.le_refl _) (by rw [gF_eq]; omega) (by rw [gF_eq]; omega)
          rw [Nat.sub_self] at z2
          exact ⟨r, a', b', z1, z2, h3, z4, z5⟩
      have z2 : F_R_nights_23 gF (nI n) 0 0 (mw b 123 0 0) = some (r, b') := z2
      refine ⟨r, a', b', ?_, ?_, h3, z4, fun c hc => (z5 c hc).trans (fr0 c hc)⟩
      · simp only [F_C_nights, C_within, Option.bind_some, b01, hx, and_self, not_true_eq_false, if_false, one0, if_pos hs, z1]
      · simp only [F_R_nights, R_isIn, Option.bind_some, b01, hx, and_self, not_true_eq_false, if_false, one0, l0, if_pos hs, z2]
    · refine ⟨-1, a, mw b 123 0 0, ?_, ?_, I2_0 h, fun _ _ => rfl, fr0⟩
      · simp only [F_C_nights, C_within, Option.bind_some, b01, hx, and_self, not_true_eq_false, if_false, one0, if_neg hs]
      · simp only [F_R_nights, R_isIn, Option.bind_some, b01, hx, and_self, not_true_eq_false, if_false, one0, l0, if_neg hs]
  · refine ⟨-1, a, mw b 123 0 0, ?_, ?_, I2_0 h, fun _ _ => rfl, fr0⟩
    · simp only [F_C_nights, C_within, Option.bind_some, b01, hx, not_false_eq_true, if_true]
    · simp only [F_R_nights, R_isIn, Option.bind_some, b01, hx, not_false_eq_true, if_true]
theorem g_nights (x : Int32) : Good Inv (F_C_nights x) (F_R_nights x) := good_of (p_nights x)
