/-! ===== a night ===== -/
def OV (h : Nat) (a b : Mem) : Prop := OrR (hv h a) b ∧ ViR (hv h a) b
theorem hv_fn {h th : Nat} {a a' b b' : Mem} (hh : okH h) (F : FN h th a a' b b') : nF (hv h a') = nF (hv h a) ∧ (∀ f, sz (hv h a') f = sz (hv h a) f) ∧ ∀ c, 15 ≤ c → c ≤ 18 → hv h a' c = hv h a c := by
  have e2 : hv h a' 2 2 = hv h a 2 2 := F.2.1
  have e4 : hv h a' 4 = hv h a 4 := F.1 (h + 2) (by omega) (by omega) (by rcases hh with rfl | rfl <;> decide) (by rcases hh with rfl | rfl <;> decide) (by rcases hh with rfl | rfl <;> decide) (by rcases hh with rfl | rfl <;> decide)
  refine ⟨by unfold nF; rw [e2], fun f => by unfold sz; rw [e4], fun c c1 c2 => ?_⟩
  unfold hv
  rw [if_neg (by omega), if_neg (by omega), if_neg (by omega), if_pos (by omega), if_neg (by omega), if_neg (by omega), if_neg (by omega), if_pos (by omega)]
  exact F.1 c (by rcases hh with rfl | rfl <;> omega) (by rcases hh with rfl | rfl <;> omega) (by omega) (by omega) (by omega) (by omega)
theorem OV_fn {h th : Nat} {a a' b b' : Mem} (hh : okH h) (F : FN h th a a' b b') (o : OV h a b) : OV h a' b' := by
  obtain ⟨n1, s1, f1⟩ := hv_fn hh F
  have b123 := F.2.2.2.2.1 123 (by decide) (by decide) (by decide) (by decide)
  have b140 := F.2.2.2.2.1 140 (by decide) (by decide) (by decide) (by decide)
  have b141 := F.2.2.2.2.1 141 (by decide) (by decide) (by decide) (by decide)
  have iS : ∀ f i, isS (hv h a) f i → isS (hv h a') f i := fun f i q => ⟨by rw [n1]; exact q.1, by rw [s1]; exact q.2⟩
  obtain ⟨⟨n, o1, o2, o3, o4⟩, m, v1, v2, v3, v4⟩ := o
  refine ⟨⟨n, o1, by rw [f1 15 (by decide) (by decide)]; exact o2, by rw [b123]; exact o3, fun l hl => ?_⟩, m, v1, by rw [f1 17 (by decide) (by decide)]; exact v2, by rw [b123]; exact v3, fun l hl => ?_⟩
  · obtain ⟨p1, w, f, i, p2, p3, p4⟩ := o4 l hl
    rw [f1 16 (by decide) (by decide), b140]
    exact ⟨p1, w, f, i, p2, iS f i p3, p4⟩
  · obtain ⟨p1, f, u, w, st, p2, p4⟩ := v4 l hl
    rw [f1 18 (by decide) (by decide), b141]
    exact ⟨p1, f, u, w, st, by rw [n1]; exact p2, p4⟩
theorem sn_dl {h th : Nat} (hh : okH h) {f : Nat} {v : Int32} (k : Nat → Int32 → Int32 → Int32 → Mem → Option (Int32 × Mem)) (k' : Int32 → Int32 → Mem → Option (Int32 × Mem)) : ∀ (q i m m' : Nat) (a b : Mem), SN h th a b → f < nF (hv h a) → i + q = sz (hv h a) f → q < m → q < m' → ∃ (a' b' : Mem), F_G_passNight_95 k m h (nI th) v (nI f) (nI i) a = k h (nI th) v (nI f + 1) a' ∧ F_R_goesBy_102 k' m' v (nI f) (nI i) b = k' v (nI f + 1) b' ∧ SN h th a' b' ∧ FN h th a a' b b' := by
  obtain ⟨k1, k2, k3, k4, k5, k6, k7, k8, k9⟩ := okH_f hh
  have kb : Nat.beq (kd h) 4 = true := by rw [k1]; rfl
  intro q
  induction q with
  | zero =>
    intro i m m' a b S hf hi hm hm'
    obtain ⟨m, rfl⟩ : ∃ k, m = k + 1 := ⟨m - 1, by omega⟩
    obtain ⟨m', rfl⟩ : ∃ k, m' = k + 1 := ⟨m' - 1, by omega⟩
    have f6 : f < 6 := by have := S.1.1; omega
    obtain ⟨z1, z2, z3, z4⟩ := S.1.2.2.2.1 f hf
    have es : F_H_size h (nI f) a = some (nI (sz (hv h a) f), a) := by
      rw [H_size k1 k3 k6 k7 f6]
      exact congrArg (fun x => some (x, a)) z3
    have lb : ld b 127 (nI f) = some (nI (sz (hv h a) f)) := (ld_in rfl (show f < 6 from f6) (by decide)).trans (congrArg some z4)
    have c : nI (sz (hv h a) f) ≤ nI i := nI_le (by omega) (by omega)
    refine ⟨a, b, ?_, ?_, S, FN_rf⟩
    · simp only [F_G_passNight_95, kb, cond_true, es, Option.bind_some, if_pos c]
    · simp only [F_R_goesBy_102, lb, Option.bind_some, if_pos c]
  | succ q ih =>
    intro i m m' a b S hf hi hm hm'
    obtain ⟨m, rfl⟩ : ∃ k, m = k + 1 := ⟨m - 1, by omega⟩
    obtain ⟨m', rfl⟩ : ∃ k, m' = k + 1 := ⟨m' - 1, by omega⟩
    have f6 : f < 6 := by have := S.1.1; omega
    obtain ⟨z1, z2, z3, z4⟩ := S.1.2.2.2.1 f hf
    have es : F_H_size h (nI f) a = some (nI (sz (hv h a) f), a) := by
      rw [H_size k1 k3 k6 k7 f6]
      exact congrArg (fun x => some (x, a)) z3
    have lb : ld b 127 (nI f) = some (nI (sz (hv h a) f)) := (ld_in rfl (show f < 6 from f6) (by decide)).trans (congrArg some z4)
    have c : ¬ nI (sz (hv h a) f) ≤ nI i := nI_ge (by omega) (by omega)
    obtain ⟨a1, b1, e1, e2, S1, F1⟩ := sn_dawn hh S (f := f) (i := i) ⟨hf, by omega⟩
    obtain ⟨n1, s1, -⟩ := hv_fn hh F1
    obtain ⟨a2, b2, e3, e4, S2, F2⟩ := ih (i + 1) m m' a1 b1 S1 (by rw [n1]; exact hf) (by rw [s1]; omega) (by omega) (by omega)
    refine ⟨a2, b2, ?_, ?_, S2, FN_tr F1 F2⟩
    · simp only [F_G_passNight_95, kb, cond_true, es, Option.bind_some, if_neg c, e1, nI_1, e3]
    · simp only [F_R_goesBy_102, lb, Option.bind_some, if_neg c, n16, e2, nI_1, e4]
theorem sn_dn {h th : Nat} (hh : okH h) {v : Int32} : ∀ (q f m m' : Nat) (a b : Mem), SN h th a b → f + q = nF (hv h a) → q < m → q < m' → ∃ (a' b' : Mem), F_G_passNight_89 m h (nI th) v (nI f) a = some (v, a') ∧ F_R_goesBy_96 m' v (nI f) b = some (v, b') ∧ SN h th a' b' ∧ FN h th a a' b b' := by
  obtain ⟨k1, k2, k3, k4, k5, k6, k7, k8, k9⟩ := okH_f hh
  have kb : Nat.beq (kd h) 4 = true := by rw [k1]; rfl
  intro q
  induction q with
  | zero =>
    intro f m m' a b S hf hm hm'
    obtain ⟨m, rfl⟩ : ∃ k, m = k + 1 := ⟨m - 1, by omega⟩
    obtain ⟨m', rfl⟩ : ∃ k, m' = k + 1 := ⟨m' - 1, by omega⟩
    have n6 := S.1.1
    have e2 : a h 2 = nI (nF (hv h a)) := S.1.2.1
    have e3 : b 123 6 = nI (nF (hv h a)) := S.1.2.2.1
    have c : nI (nF (hv h a)) ≤ nI f := nI_le (by omega) (by omega)
    have e5 : b 124 0 = a h 5 := S.2.1.2.2.2.2.2.1
    obtain ⟨S1, F1⟩ := sn_sc hh S (k := 5) (k' := 0) (v := a h 5 + 1) (Or.inr (Or.inr (Or.inl ⟨rfl, rfl⟩)))
    have l0 : ld b 124 0 = some (a h 5) := (ld_in (k := 0) rfl (by decide) (by decide)).trans (congrArg some e5)
    have w0 : sd b 124 0 (a h 5 + 1) = some (mw b 124 0 (a h 5 + 1)) := sd_in (k := 0) rfl (by decide) (by decide)
    refine ⟨_, _, ?_, ?_, S1, F1⟩
    · simp only [F_G_passNight_89, kb, cond_true, e2, if_pos c]
    · simp only [F_R_goesBy_96, e3, if_pos c, l0, w0, Option.bind_some]
  | succ q ih =>
    intro f m m' a b S hf hm hm'
    obtain ⟨m, rfl⟩ : ∃ k, m = k + 1 := ⟨m - 1, by omega⟩
    obtain ⟨m', rfl⟩ : ∃ k, m' = k + 1 := ⟨m' - 1, by omega⟩
    have n6 := S.1.1
    have e2 : a h 2 = nI (nF (hv h a)) := S.1.2.1
    have e3 : b 123 6 = nI (nF (hv h a)) := S.1.2.2.1
    have c : ¬ nI (nF (hv h a)) ≤ nI f := nI_ge (by omega) (by omega)
    have z16 := (S.1.2.2.2.1 f (by omega)).2.1
    obtain ⟨a1, b1, d1, d2, S1, F1⟩ := sn_dl hh (f := f) (v := v) (F_G_passNight_89 m) (F_R_goesBy_96 m') (sz (hv h a) f) 0 gF gF a b S (by omega) (by omega) (by rw [gF_eq]; omega) (by rw [gF_eq]; omega)
    obtain ⟨n1, s1, -⟩ := hv_fn hh F1
    obtain ⟨a2, b2, d3, d4, S2, F2⟩ := ih (f + 1) m m' a1 b1 S1 (by rw [n1]; omega) (by omega) (by omega)
    have d1 : F_G_passNight_95 (F_G_passNight_89 m) gF h (nI th) v (nI f) 0 a = _ := d1
    have d2 : F_R_goesBy_102 (F_R_goesBy_96 m') gF v (nI f) 0 b = _ := d2
    refine ⟨a2, b2, ?_, ?_, S2, FN_tr F1 F2⟩
    · simp only [F_G_passNight_89, kb, cond_true, e2, if_neg c, d1, nI_1, d3]
    · simp only [F_R_goesBy_96, e3, if_neg c, d2, nI_1, d4]
theorem sn_vl {h th : Nat} (hh : okH h) {n : Nat} : ∀ (q l m m' : Nat) (v : Int32) (a b : Mem), SN h th a b → OV h a b → a 17 1 = nI n → n ≤ 16 → l + q = n → q < m → q < m' → ∃ (r : Int32) (a' b' : Mem), F_G_passNight_38 m h (nI th) v (nI l) a = some (r, a') ∧ F_R_goesBy_40 m' v (nI (5 * l)) b = some (r, b') ∧ SN h th a' b' ∧ FN h th a a' b b' := by
  obtain ⟨k1, k2, k3, k4, k5, k6, k7, k8, k9⟩ := okH_f hh
  have kb : Nat.beq (kd h) 4 = true := by rw [k1]; rfl
  intro q
  induction q with
  | zero =>
    intro l m m' v a b S o e hn hl hm hm'
    obtain ⟨m, rfl⟩ : ∃ k, m = k + 1 := ⟨m - 1, by omega⟩
    obtain ⟨m', rfl⟩ : ∃ k, m' = k + 1 := ⟨m' - 1, by omega⟩
    obtain ⟨-, n', o1, o2, o3, o4⟩ := o
    have o2 : a 17 1 = nI n' := o2
    rw [e] at o2
    have hnn : n = n' := (nI_eq (by omega) (by omega)).mp o2
    subst hnn
    have n6 := S.1.1
    obtain ⟨a', b', d1, d2, S1, F1⟩ := sn_dn hh (v := v) (nF (hv h a)) 0 gF gF a b S (by omega) (by rw [gF_eq]; omega) (by rw [gF_eq]; omega)
    refine ⟨v, a', b', ?_, ?_, S1, F1⟩
    · simp only [F_G_passNight_38, e, if_pos (nI_le (show n ≤ l by omega) (show l < 2 ^ 31 by omega))]
      exact d1
    · simp only [F_R_goesBy_40, o3, show (5 : Int32) * nI n = nI (5 * n) from n_mul 5 n, if_pos (nI_le (show 5 * n ≤ 5 * l by omega) (show 5 * l < 2 ^ 31 by omega))]
      exact d2
  | succ q ih =>
    intro l m m' v a b S o e hn hl hm hm'
    obtain ⟨m, rfl⟩ : ∃ k, m = k + 1 := ⟨m - 1, by omega⟩
    obtain ⟨m', rfl⟩ : ∃ k, m' = k + 1 := ⟨m' - 1, by omega⟩
    obtain ⟨-, n', o1, o2, o3, o4⟩ := id o
    have o2 : a 17 1 = nI n' := o2
    rw [e] at o2
    have hnn : n = n' := (nI_eq (by omega) (by omega)).mp o2
    subst hnn
    obtain ⟨p1, f, u, w, st, p2, p3, p4, p5, p6, p7, p8, p9, p10, p11, q8, q9, q10, q11⟩ := o4 l (by omega)
    have p1 : b 141 (5 * l) = a 18 (5 * l) := p1
    have p8 : a 18 (5 * l + 1) = nI f := p8
    have p9 : a 18 (5 * l + 2) = nI u := p9
    have p10 : a 18 (5 * l + 3) = nI w := p10
    have p11 : a 18 (5 * l + 4) = nI st := p11
    have c1 : ¬ nI n ≤ nI l := nI_ge (by omega) (by omega)
    have c2 : ¬ nI (5 * n) ≤ nI (5 * l) := nI_ge (by omega) (by omega)
    have e5n : (5 : Int32) * nI n = nI (5 * n) := n_mul 5 n
    have at_ : ∀ (k : Nat), k < 5 → F_N_at 17 (nI l) (nI k) a = some (a 18 (5 * l + k), a) := fun k hk => N_at rfl rfl rfl rfl (by omega) hk
    have a0 : F_N_at 17 (nI l) 0 a = some (a 18 (5 * l), a) := at_ 0 (by decide)
    have a1' : F_N_at 17 (nI l) 1 a = some (nI f, a) := (at_ 1 (by decide)).trans (by rw [p8])
    have a2' : F_N_at 17 (nI l) 2 a = some (nI u, a) := (at_ 2 (by decide)).trans (by rw [p9])
    have a3' : F_N_at 17 (nI l) 3 a = some (nI w, a) := (at_ 3 (by decide)).trans (by rw [p10])
    have a4' : F_N_at 17 (nI l) 4 a = some (nI st, a) := (at_ 4 (by decide)).trans (by rw [p11])
    have lb : ∀ k, k < 5 → ld b 141 (nI (5 * l + k)) = some (b 141 (5 * l + k)) := fun k hk => ld_in rfl (Nat.lt_of_lt_of_le (show 5 * l + k < 80 by omega) (by decide)) (by decide)
    have b0 : ld b 141 (nI (5 * l)) = some (a 18 (5 * l)) := (lb 0 (by decide)).trans (congrArg some p1)
    have b1' : ld b 141 (nI (5 * l) + 1) = some (nI f) := by
      rw [show nI (5 * l) + 1 = nI (5 * l + 1) from nI_add _ 1, lb 1 (by decide), q8]
    have b2' : ld b 141 (nI (5 * l) + 2) = some (nI u) := by
      rw [show nI (5 * l) + 2 = nI (5 * l + 2) from nI_add _ 2, lb 2 (by decide), q9]
    have b3' : ld b 141 (nI (5 * l) + 3) = some (nI w) := by
      rw [show nI (5 * l) + 3 = nI (5 * l + 3) from nI_add _ 3, lb 3 (by decide), q10]
    have b4' : ld b 141 (nI (5 * l) + 4) = some (nI st) := by
      rw [show nI (5 * l) + 4 = nI (5 * l + 4) from nI_add _ 4, lb 4 (by decide), q11]
    have enx : nI (5 * l) + 5 = nI (5 * (l + 1)) := by rw [show nI (5 * l) + 5 = nI (5 * l + 5) from nI_add _ 5]; rfl
    have e5 : b 124 0 = a h 5 := S.2.1.2.2.2.2.2.1
    have l0 : ld b 124 0 = some (a h 5) := (ld_in (k := 0) rfl (by decide) (by decide)).trans (congrArg some e5)
    by_cases ct : a 18 (5 * l) = a h 5
    · obtain ⟨r, a1, b1, t1, t2, S1, F1⟩ := sn_vis hh S (w := nI w) p2 p3 p6 p7
      have ea : a1 17 = a 17 := F1.1 17 (by rcases hh with rfl | rfl <;> decide) (by rcases hh with rfl | rfl <;> decide) (by decide) (by decide) (by decide) (by decide)
      obtain ⟨rr, a2, b2, y1, y2, S2, F2⟩ := ih (l + 1) m m' (v + nI r) a1 b1 S1 (OV_fn hh F1 o) (by rw [ea]; exact e) hn (by omega) (by omega) (by omega)
      refine ⟨rr, a2, b2, ?_, ?_, S2, FN_tr F1 F2⟩
      · rcases (show u = 0 ∨ u = 1 by omega) with rfl | rfl
        · have t1 : F_G_tread h (nI th) (nI f) 0 (nI w) (nI st) a = some (nI r, a1) := t1
          simp only [F_G_passNight_38, e, if_neg c1, a0, Option.bind_some, kb, cond_true, if_pos ct, a2', show (nI 0 = 1) = False from by decide, if_false, a1', a3', a4', t1, nI_1, y1]
        · have t1 : F_G_tread h (nI th) (nI f) 1 (nI w) (nI st) a = some (nI r, a1) := t1
          simp only [F_G_passNight_38, e, if_neg c1, a0, Option.bind_some, kb, cond_true, if_pos ct, a2', show (nI 1 = 1) = True from by decide, if_true, a1', a3', a4', t1, nI_1, y1]
      · rcases (show u = 0 ∨ u = 1 by omega) with rfl | rfl
        · have t2 : F_R_isVisited (nI f) 0 (nI w) (nI st) b = some (nI r, b1) := t2
          simp only [F_R_goesBy_40, o3, e5n, if_neg c2, b0, l0, Option.bind_some, if_pos ct, b1', b2', show (nI 0 = 1) = False from by decide, if_false, b3', b4', t2, enx, y2]
        · have t2 : F_R_isVisited (nI f) 1 (nI w) (nI st) b = some (nI r, b1) := t2
          simp only [F_R_goesBy_40, o3, e5n, if_neg c2, b0, l0, Option.bind_some, if_pos ct, b1', b2', show (nI 1 = 1) = True from by decide, if_true, b3', b4', t2, enx, y2]
    · obtain ⟨rr, a2, b2, y1, y2, S2, F2⟩ := ih (l + 1) m m' v a b S o e hn (by omega) (by omega) (by omega)
      refine ⟨rr, a2, b2, ?_, ?_, S2, F2⟩
      · simp only [F_G_passNight_38, e, if_neg c1, a0, Option.bind_some, kb, cond_true, if_neg ct, nI_1, y1]
      · simp only [F_R_goesBy_40, o3, e5n, if_neg c2, b0, l0, Option.bind_some, if_neg ct, enx, y2]
theorem sn_ol {h th : Nat} (hh : okH h) {n : Nat} : ∀ (q l m m' : Nat) (a b : Mem), SN h th a b → OV h a b → a 15 1 = nI n → n ≤ 16 → l + q = n → q < m → q < m' → ∃ (r : Int32) (a' b' : Mem), F_G_passNight_2 m h (nI th) (nI l) a = some (r, a') ∧ F_R_goesBy_2 m' (nI (3 * l)) b = some (r, b') ∧ SN h th a' b' ∧ FN h th a a' b b' := by
  obtain ⟨k1, k2, k3, k4, k5, k6, k7, k8, k9⟩ := okH_f hh
  have kb : Nat.beq (kd h) 4 = true := by rw [k1]; rfl
  intro q
  induction q with
  | zero =>
    intro l m m' a b S o e hn hl hm hm'
    obtain ⟨m, rfl⟩ : ∃ k, m = k + 1 := ⟨m - 1, by omega⟩
    obtain ⟨m', rfl⟩ : ∃ k, m' = k + 1 := ⟨m' - 1, by omega⟩
    obtain ⟨⟨n', o1, o2, o3, o4⟩, nv, v1, v2, -⟩ := id o
    have o2 : a 15 1 = nI n' := o2
    rw [e] at o2
    have hnn : n = n' := (nI_eq (by omega) (by omega)).mp o2
    subst hnn
    obtain ⟨r, a', b', d1, d2, S1, F1⟩ := sn_vl hh (n := nv) nv 0 gF gF 0 a b S o v2 v1 (by omega) (by rw [gF_eq]; omega) (by rw [gF_eq]; omega)
    refine ⟨r, a', b', ?_, ?_, S1, F1⟩
    · simp only [F_G_passNight_2, e, if_pos (nI_le (show n ≤ l by omega) (show l < 2 ^ 31 by omega))]
      exact d1
    · simp only [F_R_goesBy_2, o3, show (3 : Int32) * nI n = nI (3 * n) from n_mul 3 n, if_pos (nI_le (show 3 * n ≤ 3 * l by omega) (show 3 * l < 2 ^ 31 by omega))]
      exact d2
  | succ q ih =>
    intro l m m' a b S o e hn hl hm hm'
    obtain ⟨m, rfl⟩ : ∃ k, m = k + 1 := ⟨m - 1, by omega⟩
    obtain ⟨m', rfl⟩ : ∃ k, m' = k + 1 := ⟨m' - 1, by omega⟩
    obtain ⟨⟨n', o1, o2, o3, o4⟩, -⟩ := id o
    have o2 : a 15 1 = nI n' := o2
    rw [e] at o2
    have hnn : n = n' := (nI_eq (by omega) (by omega)).mp o2
    subst hnn
    obtain ⟨p1, w, f, i, p2, p3, p4, p5, p6, q6, q7⟩ := o4 l (by omega)
    have p1 : b 140 (3 * l) = a 16 (5 * l) := p1
    have p4 : a 16 (5 * l + 1) = nI f := p4
    have p5 : a 16 (5 * l + 2) = nI i := p5
    have p6 : a 16 (5 * l + 3) = nI w := p6
    obtain ⟨hz, -, -⟩ := HS_c S.1
    obtain ⟨f6, i16, fi⟩ := nF_16 hz p3.1 p3.2
    have c1 : ¬ nI n ≤ nI l := nI_ge (by omega) (by omega)
    have c2 : ¬ nI (3 * n) ≤ nI (3 * l) := nI_ge (by omega) (by omega)
    have e3n : (3 : Int32) * nI n = nI (3 * n) := n_mul 3 n
    have at_ : ∀ (k : Nat), k < 5 → F_N_at 15 (nI l) (nI k) a = some (a 16 (5 * l + k), a) := fun k hk => N_at rfl rfl rfl rfl (by omega) hk
    have a0 : F_N_at 15 (nI l) 0 a = some (a 16 (5 * l), a) := at_ 0 (by decide)
    have a1' : F_N_at 15 (nI l) 1 a = some (nI f, a) := (at_ 1 (by decide)).trans (by rw [p4])
    have a2' : F_N_at 15 (nI l) 2 a = some (nI i, a) := (at_ 2 (by decide)).trans (by rw [p5])
    have a3' : F_N_at 15 (nI l) 3 a = some (nI w, a) := (at_ 3 (by decide)).trans (by rw [p6])
    have lb : ∀ k, k < 3 → ld b 140 (nI (3 * l + k)) = some (b 140 (3 * l + k)) := fun k hk => ld_in rfl (Nat.lt_of_lt_of_le (show 3 * l + k < 48 by omega) (by decide)) (by decide)
    have b0 : ld b 140 (nI (3 * l)) = some (a 16 (5 * l)) := (lb 0 (by decide)).trans (congrArg some p1)
    have b1' : ld b 140 (nI (3 * l) + 1) = some (nI w) := by
      rw [show nI (3 * l) + 1 = nI (3 * l + 1) from nI_add _ 1, lb 1 (by decide), q6]
    have b2' : ld b 140 (nI (3 * l) + 2) = some (nI (16 * f + i)) := by
      rw [show nI (3 * l) + 2 = nI (3 * l + 2) from nI_add _ 2, lb 2 (by decide), q7]
    have enx : nI (3 * l) + 3 = nI (3 * (l + 1)) := by rw [show nI (3 * l) + 3 = nI (3 * l + 3) from nI_add _ 3]; rfl
    have e5 : b 124 0 = a h 5 := S.2.1.2.2.2.2.2.1
    have l0 : ld b 124 0 = some (a h 5) := (ld_in (k := 0) rfl (by decide) (by decide)).trans (congrArg some e5)
    by_cases ct : a 16 (5 * l) = a h 5
    · have hlo : b 124 (101 + (16 * f + i)) = a (h + 1) (192 + (16 * f + i)) := by
        have := sn_tr S (t := 1) (by decide) fi
        rw [show 5 + 96 * 1 + (16 * f + i) = 101 + (16 * f + i) by omega, show 96 + 96 * 1 + (16 * f + i) = 192 + (16 * f + i) by omega] at this
        exact this
      obtain ⟨t, vv, t1, t2, t3, t4⟩ := obeyE (a := a) (b := b) (h0 := h) (c := h + 1) k1 k2 k4 k5 f6 i16 p2 hlo (S.2.1.2.2.1 _ fi).1
      obtain ⟨S1, F1⟩ := sn_tw hh S (v := vv) t1 p3 t2
      have ea : (mw a (h + 1) (96 + 96 * t + (16 * f + i)) vv) 15 = a 15 := F1.1 15 (by rcases hh with rfl | rfl <;> decide) (by rcases hh with rfl | rfl <;> decide) (by decide) (by decide) (by decide) (by decide)
      obtain ⟨rr, a2, b2, y1, y2, S2, F2⟩ := ih (l + 1) m m' _ _ S1 (OV_fn hh F1 o) (by rw [ea]; exact e) hn (by omega) (by omega) (by omega)
      refine ⟨rr, a2, b2, ?_, ?_, S2, FN_tr F1 F2⟩
      · simp only [F_G_passNight_2, e, if_neg c1, a0, Option.bind_some, kb, cond_true, if_pos ct, a1', a2', a3', t3, nI_1, y1]
      · simp only [F_R_goesBy_2, o3, e3n, if_neg c2, b0, l0, Option.bind_some, if_pos ct, b1', b2', t4, enx, y2]
    · obtain ⟨rr, a2, b2, y1, y2, S2, F2⟩ := ih (l + 1) m m' a b S o e hn (by omega) (by omega) (by omega)
      refine ⟨rr, a2, b2, ?_, ?_, S2, F2⟩
      · simp only [F_G_passNight_2, e, if_neg c1, a0, Option.bind_some, kb, cond_true, if_neg ct, nI_1, y1]
      · simp only [F_R_goesBy_2, o3, e3n, if_neg c2, b0, l0, Option.bind_some, if_neg ct, enx, y2]
theorem sn_night {h th : Nat} {a b : Mem} (hh : okH h) (S : SN h th a b) (o : OV h a b) : ∃ (r : Int32) (a' b' : Mem), F_G_passNight h (nI th) a = some (r, a') ∧ F_R_goesBy b = some (r, b') ∧ SN h th a' b' ∧ FN h th a a' b b' := by
  obtain ⟨⟨n, o1, o2, -⟩, -⟩ := id o
  exact sn_ol hh (n := n) n 0 gF gF a b S o o2 o1 (by omega) (by rw [gF_eq]; omega) (by rw [gF_eq]; omega)
