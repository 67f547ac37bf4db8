/-! ===== text: what is taken keeps the invariant ===== -/
theorem beq_f {C c : Nat} (h : c ≠ C) : Nat.beq C c = false := by
  cases e : Nat.beq C c with
  | false => rfl
  | true => exact absurd (Nat.eq_of_beq_eq_true e).symm h
theorem fail_I {a b a0 b0 a' b' : Mem} (h : I2 a b) (t0 : T0 a a0) (t1 : T1 b b0) (fa : frA a0 a') (fb : frB b0 b') (v w : Int32) : I2 (mw (mw a' 0 10 v) 0 11 w) (mw (mw (mw b' 123 31 v) 123 32 w) 123 11 0) := by
  have oA : ∀ c, c ≠ 0 → mw (mw a' 0 10 v) 0 11 w c = a' c := fun c hc => (mw_o hc).trans (mw_o hc)
  have oB : ∀ c, c ≠ 123 → mw (mw (mw b' 123 31 v) 123 32 w) 123 11 0 c = b' c := fun c hc => (mw_o hc).trans ((mw_o hc).trans (mw_o hc))
  have kA : ∀ k, k ≠ 10 → k ≠ 11 → mw (mw a' 0 10 v) 0 11 w 0 k = a' 0 k := fun k k1 k2 => (mw_k k2).trans (mw_k k1)
  have kB : ∀ k, k ≠ 11 → k ≠ 31 → k ≠ 32 → mw (mw (mw b' 123 31 v) 123 32 w) 123 11 0 123 k = b' 123 k := fun k k1 k2 k3 => (mw_k k1).trans ((mw_k k3).trans (mw_k k2))
  obtain ⟨t2, t3, t4, t5⟩ := tbl (A := mw (mw a' 0 10 v) 0 11 w) (B := mw (mw (mw b' 123 31 v) 123 32 w) 123 11 0) h t0 t1 fa fb (oA 2 (by decide)) (oA 4 (by decide))
  refine txF h t0 t1 fa fb (fun c h0 _ _ => oA c h0) (fun k _ k2 k3 => kA k k2 k3) (fun c h0 _ => oB c h0) (fun k _ k2 k3 k4 _ _ _ => kB k k2 k3 k4) (Or.inl ⟨kA 6 (by decide) (by decide), kB 3 (by decide) (by decide) (by decide)⟩) (mwSelf _ _ _ _) ?_ ?_ (t2 (fun c c1 c2 => oA c (by omega)) (fun c c1 c2 => oB c (by omega))) (t3 (oA 15 (by decide)) (oA 16 (by decide)) (kB 33 (by decide) (by decide) (by decide)) (oB 140 (by decide))) (t4 (oA 17 (by decide)) (oA 18 (by decide)) (kB 35 (by decide) (by decide) (by decide)) (oB 141 (by decide))) (t5 (oA 19 (by decide)) (oA 20 (by decide)) (kB 37 (by decide) (by decide) (by decide)) (oB 142 (by decide)))
  · rw [mw_k (by decide), mw_k (by decide), mwSelf, mw_k (by decide), mwSelf]
  · rw [mw_k (by decide), mwSelf, mwSelf]
theorem none_I {a b a0 b0 : Mem} (h : I2 a b) (t0 : T0 a a0) (t1 : T1 b b0) : I2 a0 (mw b0 123 11 0) := by
  have oB : ∀ c, c ≠ 123 → mw b0 123 11 0 c = b0 c := fun c hc => mw_o hc
  have kB : ∀ k, k ≠ 11 → mw b0 123 11 0 123 k = b0 123 k := fun k k1 => mw_k k1
  obtain ⟨t2, t3, t4, t5⟩ := tbl (A := a0) (B := mw b0 123 11 0) h t0 t1 (frA_0 a0) (frB_0 b0) rfl rfl
  refine txF h t0 t1 (frA_0 a0) (frB_0 b0) (fun c _ _ _ => rfl) (fun k _ _ _ => rfl) (fun c h0 _ => oB c h0) (fun k _ k2 _ _ _ _ _ => kB k k2) (Or.inl ⟨rfl, kB 3 (by decide)⟩) (mwSelf _ _ _ _) ?_ ?_ (t2 (fun c c1 c2 => rfl) (fun c c1 c2 => oB c (by omega))) (t3 rfl rfl (kB 33 (by decide)) (oB 140 (by decide))) (t4 rfl rfl (kB 35 (by decide)) (oB 141 (by decide))) (t5 rfl rfl (kB 37 (by decide)) (oB 142 (by decide)))
  · rw [kB 31 (by decide), t1.2.2.1, t0.2.2.2.1]
  · rw [kB 32 (by decide), t1.2.2.2, t0.2.2.2.2]
theorem nsz {a b a0 b0 a' A : Mem} (t0 : T0 a a0) (fa : frA a0 a') (e2 : A 2 = a' 2) (e4 : A 4 = a' 4) : nF (prj A) = nF a ∧ ∀ f, sz (prj A) f = sz a f := by
  have p2 : prj A 2 2 = a 2 2 := by
    show A 2 2 = a 2 2
    rw [e2, fa.1 2 2 rfl, t0.1 2 (by decide)]
  refine ⟨by unfold nF; rw [p2], fun f => ?_⟩
  have p4 : prj A 4 f = a 4 f := by
    show A 4 f = a 4 f
    rw [e4, fa.1 4 f rfl, t0.1 4 (by decide)]
  unfold sz
  rw [p4]
theorem ord_I {a b a0 b0 a' b' : Mem} {m : Nat} {g : Nat → Int32} (h : I2 a b) (t0 : T0 a a0) (t1 : T1 b b0) (fa : frA a0 a') (fb : frB b0 b') (hm : m ≤ 16) (h88 : a' 88 1 = nI m) (hl : ∀ l, l < m → ORl (nF a) (sz a) a' b' l) (hg : ∀ k, k < 80 → g k = a' 89 k) : I2 (mw (rp (mw a' 0 6 0) 16 g) 15 1 (nI m)) (mw (mw (cpM (Nat.beq 140) 48 (3 * m) (mw b' 123 11 0)) 123 33 (nI m)) 123 3 0) := by
  obtain ⟨A, hA⟩ : ∃ A, A = mw (rp (mw a' 0 6 0) 16 g) 15 1 (nI m) := ⟨_, rfl⟩
  obtain ⟨B, hB⟩ : ∃ B, B = mw (mw (cpM (Nat.beq 140) 48 (3 * m) (mw b' 123 11 0)) 123 33 (nI m)) 123 3 0 := ⟨_, rfl⟩
  rw [← hA, ← hB]
  have oA : ∀ c, c ≠ 0 → c ≠ 15 → c ≠ 16 → A c = a' c := fun c h0 h1 h2 => by rw [hA, mw_o h1, rp_o h2, mw_o h0]
  have kA : ∀ k, k ≠ 6 → A 0 k = a' 0 k := fun k k1 => by rw [hA, mw_o (by decide), rp_o (by decide), mw_k k1]
  have oB : ∀ c, c ≠ 123 → c ≠ 140 → B c = b' c := fun c h0 h1 => by rw [hB, mw_o h0, mw_o h0, cp_o (beq_f h1), mw_o h0]
  have kB : ∀ k, k ≠ 3 → k ≠ 33 → k ≠ 11 → B 123 k = b' 123 k := fun k k1 k2 k3 => by rw [hB, mw_k k1, mw_k k2, cp_o rfl, mw_k k3]
  obtain ⟨t2, -, t4, t5⟩ := tbl (A := A) (B := B) h t0 t1 fa fb (oA 2 (by decide) (by decide) (by decide)) (oA 4 (by decide) (by decide) (by decide))
  obtain ⟨nf, nz⟩ := nsz (b := b) (b0 := b0) t0 fa (oA 2 (by decide) (by decide) (by decide)) (oA 4 (by decide) (by decide) (by decide))
  refine txF h t0 t1 fa fb (fun c h0 _ h2 => oA c h0 (by omega) (by omega)) (fun k k1 _ _ => kA k k1) (fun c h0 h1 => oB c h0 (by omega)) (fun k k1 k2 _ _ k5 _ _ => kB k k1 k5 k2) (Or.inr ⟨?_, ?_⟩) ?_ ?_ ?_ (t2 (fun c c1 c2 => oA c (by omega) (by omega) (by omega)) (fun c c1 c2 => oB c (by omega) (by omega))) ?_ (t4 (oA 17 (by decide) (by decide) (by decide)) (oA 18 (by decide) (by decide) (by decide)) (kB 35 (by decide) (by decide) (by decide)) (oB 141 (by decide) (by decide))) (t5 (oA 19 (by decide) (by decide) (by decide)) (oA 20 (by decide) (by decide) (by decide)) (kB 37 (by decide) (by decide) (by decide)) (oB 142 (by decide) (by decide)))
  · rw [hA, mw_o (by decide), rp_o (by decide), mwSelf]
  · rw [hB, mwSelf]
  · rw [hB, mw_k (by decide), mw_k (by decide), cp_o rfl, mwSelf]
  · rw [kB 31 (by decide) (by decide) (by decide), kA 10 (by decide), fb.1 123 31 rfl, fa.1 0 10 rfl, t1.2.2.1, t0.2.2.2.1]
  · rw [kB 32 (by decide) (by decide) (by decide), kA 11 (by decide), fb.1 123 32 rfl, fa.1 0 11 rfl, t1.2.2.2, t0.2.2.2.2]
  · have eA : ∀ i, i < 80 → prj A 16 i = a' 89 i := fun i hi => by
      show A 16 i = a' 89 i
      rw [hA, mw_o (by decide), rp_at, hg i hi]
    have eB : ∀ i, i < 3 * m → prj B 140 i = b' 140 (48 + i) := fun i hi => by
      rw [prj_at (show rel 140 i = true from blt_t (show i < 48 by omega)), hB, mw_o (by decide), mw_o (by decide), cp_y rfl hi, mw_o (by decide)]
    refine ⟨m, hm, ?_, ?_, fun l hlm => ?_⟩
    · show A 15 1 = nI m
      rw [hA, mwSelf]
    · show B 123 33 = nI m
      rw [hB, mw_k (by decide), mwSelf]
    · obtain ⟨k1, w, f, i, k2, k3, k4, k5, k6, k7, k8, k9⟩ := hl l hlm
      rw [eB (3 * l) (by omega), eB (3 * l + 1) (by omega), eB (3 * l + 2) (by omega), eA (5 * l) (by omega), eA (5 * l + 1) (by omega), eA (5 * l + 2) (by omega), eA (5 * l + 3) (by omega)]
      exact ⟨k1, w, f, i, k2, ⟨by rw [nf]; exact k3, by rw [nz]; exact k4⟩, k5, k6, k7, k8, k9⟩
theorem vis_I {a b a0 b0 a' b' : Mem} {m : Nat} {g : Nat → Int32} (h : I2 a b) (t0 : T0 a a0) (t1 : T1 b b0) (fa : frA a0 a') (fb : frB b0 b') (hm : m ≤ 16) (h88 : a' 88 1 = nI m) (hl : ∀ l, l < m → VIl (nF a) a' b' l) (hg : ∀ k, k < 80 → g k = a' 89 k) : I2 (mw (rp (mw a' 0 6 0) 18 g) 17 1 (nI m)) (mw (mw (cpM (Nat.beq 141) 80 (5 * m) (mw b' 123 11 0)) 123 35 (nI m)) 123 3 0) := by
  obtain ⟨A, hA⟩ : ∃ A, A = mw (rp (mw a' 0 6 0) 18 g) 17 1 (nI m) := ⟨_, rfl⟩
  obtain ⟨B, hB⟩ : ∃ B, B = mw (mw (cpM (Nat.beq 141) 80 (5 * m) (mw b' 123 11 0)) 123 35 (nI m)) 123 3 0 := ⟨_, rfl⟩
  rw [← hA, ← hB]
  have oA : ∀ c, c ≠ 0 → c ≠ 17 → c ≠ 18 → A c = a' c := fun c h0 h1 h2 => by rw [hA, mw_o h1, rp_o h2, mw_o h0]
  have kA : ∀ k, k ≠ 6 → A 0 k = a' 0 k := fun k k1 => by rw [hA, mw_o (by decide), rp_o (by decide), mw_k k1]
  have oB : ∀ c, c ≠ 123 → c ≠ 141 → B c = b' c := fun c h0 h1 => by rw [hB, mw_o h0, mw_o h0, cp_o (beq_f h1), mw_o h0]
  have kB : ∀ k, k ≠ 3 → k ≠ 35 → k ≠ 11 → B 123 k = b' 123 k := fun k k1 k2 k3 => by rw [hB, mw_k k1, mw_k k2, cp_o rfl, mw_k k3]
  obtain ⟨t2, t3, -, t5⟩ := tbl (A := A) (B := B) h t0 t1 fa fb (oA 2 (by decide) (by decide) (by decide)) (oA 4 (by decide) (by decide) (by decide))
  obtain ⟨nf, nz⟩ := nsz (b := b) (b0 := b0) t0 fa (oA 2 (by decide) (by decide) (by decide)) (oA 4 (by decide) (by decide) (by decide))
  refine txF h t0 t1 fa fb (fun c h0 _ h2 => oA c h0 (by omega) (by omega)) (fun k k1 _ _ => kA k k1) (fun c h0 h1 => oB c h0 (by omega)) (fun k k1 k2 _ _ _ k6 _ => kB k k1 k6 k2) (Or.inr ⟨?_, ?_⟩) ?_ ?_ ?_ (t2 (fun c c1 c2 => oA c (by omega) (by omega) (by omega)) (fun c c1 c2 => oB c (by omega) (by omega))) (t3 (oA 15 (by decide) (by decide) (by decide)) (oA 16 (by decide) (by decide) (by decide)) (kB 33 (by decide) (by decide) (by decide)) (oB 140 (by decide) (by decide))) ?_ (t5 (oA 19 (by decide) (by decide) (by decide)) (oA 20 (by decide) (by decide) (by decide)) (kB 37 (by decide) (by decide) (by decide)) (oB 142 (by decide) (by decide)))
  · rw [hA, mw_o (by decide), rp_o (by decide), mwSelf]
  · rw [hB, mwSelf]
  · rw [hB, mw_k (by decide), mw_k (by decide), cp_o rfl, mwSelf]
  · rw [kB 31 (by decide) (by decide) (by decide), kA 10 (by decide), fb.1 123 31 rfl, fa.1 0 10 rfl, t1.2.2.1, t0.2.2.2.1]
  · rw [kB 32 (by decide) (by decide) (by decide), kA 11 (by decide), fb.1 123 32 rfl, fa.1 0 11 rfl, t1.2.2.2, t0.2.2.2.2]
  · have eA : ∀ i, i < 80 → prj A 18 i = a' 89 i := fun i hi => by
      show A 18 i = a' 89 i
      rw [hA, mw_o (by decide), rp_at, hg i hi]
    have eB : ∀ i, i < 5 * m → prj B 141 i = b' 141 (80 + i) := fun i hi => by
      rw [prj_at (show rel 141 i = true from blt_t (show i < 80 by omega)), hB, mw_o (by decide), mw_o (by decide), cp_y rfl hi, mw_o (by decide)]
    refine ⟨m, hm, ?_, ?_, fun l hlm => ?_⟩
    · show A 17 1 = nI m
      rw [hA, mwSelf]
    · show B 123 35 = nI m
      rw [hB, mw_k (by decide), mwSelf]
    · obtain ⟨k1, f, u, w, st, k2, k3, k4, k5, k6, k7, k8⟩ := hl l hlm
      rw [eB (5 * l) (by omega), eB (5 * l + 1) (by omega), eB (5 * l + 2) (by omega), eB (5 * l + 3) (by omega), eB (5 * l + 4) (by omega), eA (5 * l) (by omega), eA (5 * l + 1) (by omega), eA (5 * l + 2) (by omega), eA (5 * l + 3) (by omega), eA (5 * l + 4) (by omega)]
      exact ⟨k1, f, u, w, st, by rw [nf]; exact k2, k3, k4, k5, k6, k7, k8⟩
theorem doo_I {a b a0 b0 a' b' : Mem} {m : Nat} {g : Nat → Int32} (h : I2 a b) (t0 : T0 a a0) (t1 : T1 b b0) (fa : frA a0 a') (fb : frB b0 b') (hm : m ≤ 16) (h88 : a' 88 1 = nI m) (hl : ∀ l, l < m → DOl (nF a) (sz a) a' b' l) (hg : ∀ k, k < 80 → g k = a' 89 k) : I2 (mw (rp a' 20 g) 19 1 (nI m)) (mw (cpM (Nat.beq 142) 32 (2 * m) (mw b' 123 11 0)) 123 37 (nI m)) := by
  obtain ⟨A, hA⟩ : ∃ A, A = mw (rp a' 20 g) 19 1 (nI m) := ⟨_, rfl⟩
  obtain ⟨B, hB⟩ : ∃ B, B = mw (cpM (Nat.beq 142) 32 (2 * m) (mw b' 123 11 0)) 123 37 (nI m) := ⟨_, rfl⟩
  rw [← hA, ← hB]
  have oA : ∀ c, c ≠ 19 → c ≠ 20 → A c = a' c := fun c h1 h2 => by rw [hA, mw_o h1, rp_o h2]
  have oB : ∀ c, c ≠ 123 → c ≠ 142 → B c = b' c := fun c h0 h1 => by rw [hB, mw_o h0, cp_o (beq_f h1), mw_o h0]
  have kB : ∀ k, k ≠ 37 → k ≠ 11 → B 123 k = b' 123 k := fun k k2 k3 => by rw [hB, mw_k k2, cp_o rfl, mw_k k3]
  obtain ⟨t2, t3, t4, -⟩ := tbl (A := A) (B := B) h t0 t1 fa fb (oA 2 (by decide) (by decide)) (oA 4 (by decide) (by decide))
  obtain ⟨nf, nz⟩ := nsz (b := b) (b0 := b0) t0 fa (oA 2 (by decide) (by decide)) (oA 4 (by decide) (by decide))
  refine txF h t0 t1 fa fb (fun c h0 _ h2 => oA c (by omega) (by omega)) (fun k _ _ _ => by rw [oA 0 (by decide) (by decide)]) (fun c h0 h1 => oB c h0 (by omega)) (fun k _ k2 _ _ _ _ k7 => kB k k7 k2) (Or.inl ⟨by rw [oA 0 (by decide) (by decide)], kB 3 (by decide) (by decide)⟩) ?_ ?_ ?_ (t2 (fun c c1 c2 => oA c (by omega) (by omega)) (fun c c1 c2 => oB c (by omega) (by omega))) (t3 (oA 15 (by decide) (by decide)) (oA 16 (by decide) (by decide)) (kB 33 (by decide) (by decide)) (oB 140 (by decide) (by decide))) (t4 (oA 17 (by decide) (by decide)) (oA 18 (by decide) (by decide)) (kB 35 (by decide) (by decide)) (oB 141 (by decide) (by decide))) ?_
  · rw [hB, mw_k (by decide), cp_o rfl, mwSelf]
  · rw [kB 31 (by decide) (by decide), oA 0 (by decide) (by decide), fb.1 123 31 rfl, fa.1 0 10 rfl, t1.2.2.1, t0.2.2.2.1]
  · rw [kB 32 (by decide) (by decide), oA 0 (by decide) (by decide), fb.1 123 32 rfl, fa.1 0 11 rfl, t1.2.2.2, t0.2.2.2.2]
  · have eA : ∀ i, i < 80 → prj A 20 i = a' 89 i := fun i hi => by
      show A 20 i = a' 89 i
      rw [hA, mw_o (by decide), rp_at, hg i hi]
    have eB : ∀ i, i < 2 * m → prj B 142 i = b' 142 (32 + i) := fun i hi => by
      rw [prj_at (show rel 142 i = true from blt_t (show i < 32 by omega)), hB, mw_o (by decide), cp_y rfl hi, mw_o (by decide)]
    refine ⟨m, hm, ?_, ?_, fun l hlm => ?_⟩
    · show A 19 1 = nI m
      rw [hA, mwSelf]
    · show B 123 37 = nI m
      rw [hB, mwSelf]
    · obtain ⟨f, i, f2, i2, k1, k2, k3, k4, k5, k6, k7, k8, k9, k10, k11⟩ := hl l hlm
      refine ⟨f, i, f2, i2, ⟨by rw [nf]; exact k1, by rw [nz]; exact k2⟩, ⟨by rw [nf]; exact k3, by rw [nz]; exact k4⟩, k5, ?_⟩
      rw [eB (2 * l) (by omega), eB (2 * l + 1) (by omega), eA (5 * l) (by omega), eA (5 * l + 1) (by omega), eA (5 * l + 2) (by omega), eA (5 * l + 3) (by omega)]
      exact ⟨k6, k7, k8, k9, k10, k11⟩
theorem law_I {a b a0 b0 a' b' A : Mem} {m : Nat} {C : List Int32} {R : List (Int32 × Int32)} (h : I2 a b) (t0 : T0 a a0) (t1 : T1 b b0) (fa : frA a0 a') (fb : frB b0 b') (hm : m ≤ 16) (hC : HC a' C) (hR : HR b' R) (lC : C.length ≤ 400) (lR : R.length ≤ 400) (hl : ∀ l, l < m → LWl C R a' b' l) (a6 : A 7 6 = nI m) (a8 : ∀ k, k < 400 → A 8 k = a' 81 k) (a9 : ∀ k, k < 16 → A 9 k = a' 82 k) (a10 : ∀ k, k < 16 → A 10 k = a' 83 k) (a11 : ∀ k, k < 16 → A 11 k = a' 84 k) (a12 : ∀ k, k < 16 → A 12 k = a' 85 k) (oA : ∀ c, ¬ (7 ≤ c ∧ c ≤ 12) → A c = a' c) : I2 A (mw (cpM cz2 800 R.length (cpM cz4 32 m (mw b' 123 11 0))) 132 0 (nI m)) := by
  obtain ⟨B, hB⟩ : ∃ B, B = mw (cpM cz2 800 R.length (cpM cz4 32 m (mw b' 123 11 0))) 132 0 (nI m) := ⟨_, rfl⟩
  rw [← hB]
  have oB : ∀ c, c ≠ 123 → ¬ (132 ≤ c ∧ c ≤ 138) → B c = b' c := fun c h0 h1 => by rw [hB, mw_o (by omega), cp_o (cz2_f (by omega) (by omega)), cp_o (cz4_f (by omega) (by omega) (by omega) (by omega)), mw_o h0]
  have kB : ∀ k, k ≠ 11 → B 123 k = b' 123 k := fun k k3 => by rw [hB, mw_o (by decide), cp_o rfl, cp_o rfl, mw_k k3]
  obtain ⟨-, t3, t4, t5⟩ := tbl (A := A) (B := B) h t0 t1 fa fb (oA 2 (by decide)) (oA 4 (by decide))
  refine txF h t0 t1 fa fb (fun c _ h1 _ => oA c h1) (fun k _ _ _ => by rw [oA 0 (by decide)]) (fun c h0 h1 => oB c h0 (by omega)) (fun k _ k2 _ _ _ _ _ => kB k k2) (Or.inl ⟨by rw [oA 0 (by decide)], kB 3 (by decide)⟩) ?_ ?_ ?_ ?_ (t3 (oA 15 (by decide)) (oA 16 (by decide)) (kB 33 (by decide)) (oB 140 (by decide) (by decide))) (t4 (oA 17 (by decide)) (oA 18 (by decide)) (kB 35 (by decide)) (oB 141 (by decide) (by decide))) (t5 (oA 19 (by decide)) (oA 20 (by decide)) (kB 37 (by decide)) (oB 142 (by decide) (by decide)))
  · rw [hB, mw_o (by decide), cp_o rfl, cp_o rfl, mwSelf]
  · rw [kB 31 (by decide), oA 0 (by decide), fb.1 123 31 rfl, fa.1 0 10 rfl, t1.2.2.1, t0.2.2.2.1]
  · rw [kB 32 (by decide), oA 0 (by decide), fb.1 123 32 rfl, fa.1 0 11 rfl, t1.2.2.2, t0.2.2.2.2]
  · have b4 : ∀ c l, (c = 133 ∨ c = 134 ∨ c = 135 ∨ c = 136) → l < m → B c l = b' c (32 + l) := fun c l hc hlm => by
      have hz : cz4 c = true := by rcases hc with rfl | rfl | rfl | rfl <;> rfl
      rw [hB, mw_o (by omega), cp_o (cz2_f (by omega) (by omega)), cp_y hz hlm, mw_o (by omega)]
    have b2 : ∀ c i, (c = 137 ∨ c = 138) → i < R.length → B c i = b' c (800 + i) := fun c i hc hi => by
      have hz : cz2 c = true := by rcases hc with rfl | rfl <;> rfl
      rw [hB, mw_o (by omega), cp_y hz hi, cp_o (cz4_f (by omega) (by omega) (by omega) (by omega)), mw_o (by omega)]
    have hCC : ∀ i, i < C.length → prj A 8 i = C.getD i 0 := fun i hi => by
      show A 8 i = _
      rw [a8 i (by omega)]
      exact hC.2 i hi
    have hRR : ∀ i, i < R.length → prj B 137 i = (R.getD i (0, 0)).1 ∧ prj B 138 i = (R.getD i (0, 0)).2 := fun i hi => by
      rw [prj_at (show rel 137 i = true from blt_t (show i < 400 by omega)), prj_at (show rel 138 i = true from blt_t (show i < 400 by omega)), b2 137 i (by omega) hi, b2 138 i (by omega) hi]
      exact hR.2 i hi
    refine ⟨m, hm, a6, ?_, fun l hlm => ?_⟩
    · show B 132 0 = nI m
      rw [hB, mwSelf]
    · obtain ⟨k1, k2, p, q, r, p', q', r', m1, m2, m3, m4, m5, m6, m7, m8, m9, m10, m11, m12, m13, m14, m15⟩ := hl l hlm
      have l16 : l < 16 := by omega
      have f9 : prj A 9 l = a' 82 l := a9 l l16
      have f10 : prj A 10 l = a' 83 l := a10 l l16
      have f11 : prj A 11 l = a' 84 l := a11 l l16
      have f12 : prj A 12 l = a' 85 l := a12 l l16
      have g3 : prj B 133 l = b' 133 (32 + l) := (prj_at (show rel 133 l = true from blt_t l16)).trans (b4 133 l (by omega) hlm)
      have g4 : prj B 134 l = b' 134 (32 + l) := (prj_at (show rel 134 l = true from blt_t l16)).trans (b4 134 l (by omega) hlm)
      have g5 : prj B 135 l = b' 135 (32 + l) := (prj_at (show rel 135 l = true from blt_t l16)).trans (b4 135 l (by omega) hlm)
      have g6 : prj B 136 l = b' 136 (32 + l) := (prj_at (show rel 136 l = true from blt_t l16)).trans (b4 136 l (by omega) hlm)
      refine ⟨(g3.trans k1).trans f9.symm, ?_, p, q, r, p', q', r', f10.trans m1, f11.trans m2, f12.trans m3, m4, m5, by omega, g4.trans m7, g5.trans m8, g6.trans m9, m10, m11, by omega, PC_e m13 hCC hRR, m14, fun hh => PC_e (m15 hh) hCC hRR⟩
      rw [f9]
      exact k2
