/-! ===== a flight is trodden ===== -/
def trK (u p j : Nat) : Prop := if u = 0 then j % p = 0 else (j + 1) % p = 0
theorem vsk {f z u p : Nat} {w n : Int32} {b : Mem} (hf : f < 6) (e : b 127 f = nI z) (hz : z ≤ 16) (hu : u ≤ 1) (hp : 1 ≤ p) (hp5 : p ≤ 5) : ∀ (q k m : Nat), k + q ≤ z → (∀ j, k ≤ j → j < k + q → ¬ trK u p j) → F_R_isVisited_4 (m + q) (nI f) (nI u) w (nI p) n (nI k) b = F_R_isVisited_4 m (nI f) (nI u) w (nI p) n (nI (k + q)) b := by
  have l1 : ld b 127 (nI f) = some (nI z) := (ld_in rfl (show f < 6 from hf) (by decide)).trans (congrArg some e)
  have p0 : ¬ nI p = 0 := nI_ne0 (by omega) (by omega)
  intro q
  induction q with
  | zero => intro k m _ _; rfl
  | succ q ih =>
    intro k m hk hno
    have h1 := hno k (Nat.le_refl k) (by omega)
    have n1 : ¬ nI z ≤ nI k := nI_ge (by omega) (by omega)
    have ih' := ih (k + 1) m (by omega) (fun j h1 h2 => hno j (by omega) (by omega))
    rw [show k + 1 + q = k + (q + 1) by omega] at ih'
    rw [← ih', show m + (q + 1) = (m + q) + 1 by omega]
    have e0 : irm (nI k) (nI p) = nI (k % p) := n_irm (by omega) (by omega) (by omega)
    have e1 : irm (nI (k + 1)) (nI p) = nI ((k + 1) % p) := n_irm (by omega) (by omega) (by omega)
    have m1 : k % p < p := Nat.mod_lt _ (by omega)
    have m2 : (k + 1) % p < p := Nat.mod_lt _ (by omega)
    have x0 : (nI (k % p) = 0) ↔ k % p = 0 := nI_eq (b := 0) (by omega) (by decide)
    have x1 : (nI ((k + 1) % p) = 0) ↔ (k + 1) % p = 0 := nI_eq (b := 0) (by omega) (by decide)
    unfold trK at h1
    rcases (show u = 0 ∨ u = 1 by omega) with rfl | rfl
    · rw [if_pos rfl] at h1
      rw [F_R_isVisited_4]
      simp only [l1, Option.bind_some, if_neg n1, show (nI 0 = 0) = True from by decide, if_true, if_neg p0, e0, x0, if_neg h1, nI_1]
    · rw [if_neg (by decide)] at h1
      rw [F_R_isVisited_4]
      simp only [l1, Option.bind_some, if_neg n1, show (nI 1 = 0) = False from by decide, if_false, if_neg p0, nI_1, e1, x1, if_neg h1]
theorem vtr {f z u p k : Nat} {w : Int32} {b b' : Mem} {v : Int32} {c : Nat} (hf : f < 6) (e : b 127 f = nI z) (hz : z ≤ 16) (hu : u ≤ 1) (hp : 1 ≤ p) (hp5 : p ≤ 5) (hk : k < z) (ht : trK u p k) (hv : v = 0 ∨ v = 1) (hT : F_R_isTrodden (nI (16 * f + if u = 0 then z - 1 - k else k)) w (nI p) b = some (v, b')) (m : Nat) : F_R_isVisited_4 (m + 1) (nI f) (nI u) w (nI p) (nI c) (nI k) b = F_R_isVisited_4 m (nI f) (nI u) w (nI p) (nI (if v = 0 then c else c + 1)) (nI (k + 1)) b' := by
  have l1 : ld b 127 (nI f) = some (nI z) := (ld_in rfl (show f < 6 from hf) (by decide)).trans (congrArg some e)
  have p0 : ¬ nI p = 0 := nI_ne0 (by omega) (by omega)
  have n1 : ¬ nI z ≤ nI k := nI_ge (by omega) (by omega)
  have e0 : irm (nI k) (nI p) = nI (k % p) := n_irm (by omega) (by omega) (by omega)
  have e1 : irm (nI (k + 1)) (nI p) = nI ((k + 1) % p) := n_irm (by omega) (by omega) (by omega)
  have m1 : k % p < p := Nat.mod_lt _ (by omega)
  have m2 : (k + 1) % p < p := Nat.mod_lt _ (by omega)
  have x0 : (nI (k % p) = 0) ↔ k % p = 0 := nI_eq (b := 0) (by omega) (by decide)
  have x1 : (nI ((k + 1) % p) = 0) ↔ (k + 1) % p = 0 := nI_eq (b := 0) (by omega) (by decide)
  unfold trK at ht
  rcases (show u = 0 ∨ u = 1 by omega) with rfl | rfl
  · rw [if_pos rfl] at ht hT
    have s1 : (16 : Int32) * nI f + (nI z - 1 - nI k) = nI (16 * f + (z - 1 - k)) := by
      rw [show nI z - 1 = nI (z - 1) from n_sub (b := 1) (by omega), n_sub (by omega), n16]
    rw [F_R_isVisited_4]
    simp only [l1, Option.bind_some, if_neg n1, show (nI 0 = 0) = True from by decide, if_true, if_neg p0, e0, x0, if_pos ht, s1, nI_1]
    rw [show nI 0 = 0 from rfl] at *
    rw [hT]
    simp only [Option.bind_some]
    rcases hv with rfl | rfl
    · simp only [if_true]
    · simp only [one0, if_false]
  · rw [if_neg (by decide)] at ht hT
    rw [F_R_isVisited_4]
    simp only [l1, Option.bind_some, if_neg n1, show (nI 1 = 0) = False from by decide, if_false, if_neg p0, nI_1, e1, x1, if_pos ht, n16, hT]
    rcases hv with rfl | rfl
    · simp only [if_true]
    · simp only [one0, if_false]
theorem ven {f z u p k : Nat} {w n : Int32} {b : Mem} (hf : f < 6) (e : b 127 f = nI z) (hz : z ≤ 16) (hk : z ≤ k) (hk2 : k < 1000) (m : Nat) : F_R_isVisited_4 (m + 1) (nI f) (nI u) w (nI p) n (nI k) b = some (n, b) := by
  have l1 : ld b 127 (nI f) = some (nI z) := (ld_in rfl (show f < 6 from hf) (by decide)).trans (congrArg some e)
  simp only [F_R_isVisited_4, l1, Option.bind_some, if_pos (nI_le hk (show k < 2 ^ 31 by omega))]
theorem trk_up {N p j : Nat} (hp : 1 ≤ p) (h1 : N * p ≤ j) (h2 : j + 1 < N * p + p) : ¬ trK 1 p j := by
  unfold trK
  rw [if_neg (by decide)]
  obtain ⟨d, rfl⟩ : ∃ d, j = N * p + d := ⟨j - N * p, by omega⟩
  rw [show N * p + d + 1 = (d + 1) + N * p by omega, Nat.add_mul_mod_self_right, Nat.mod_eq_of_lt (by omega)]
  omega
theorem trk_dn {N p j : Nat} (hp : 1 ≤ p) (h1 : N * p < j) (h2 : j < N * p + p) : ¬ trK 0 p j := by
  unfold trK
  rw [if_pos rfl]
  obtain ⟨d, rfl⟩ : ∃ d, j = N * p + d := ⟨j - N * p, by omega⟩
  rw [show N * p + d = d + N * p by omega, Nat.add_mul_mod_self_right, Nat.mod_eq_of_lt (by omega)]
  omega
theorem sn_tread {h th : Nat} (hh : okH h) {f z u p : Nat} {w : Int32} (hf : f < 6) (hz : z ≤ 16) (hu : u ≤ 1) (hp : 1 ≤ p) (hp5 : p ≤ 5) : ∀ (q N c m m' : Nat) (a b : Mem), SN h th a b → f < nF (hv h a) → sz (hv h a) f = z → N * p ≤ z → z - N * p ≤ q → q + 2 ≤ m → z - N * p < m' → c ≤ 100 + N → ∃ (v : Nat) (a' b' : Mem), F_G_tread_12 m h (nI th) (nI f) (nI u) w (nI p) (nI z) (nI p) (nI c) (nI (N * p + p)) a = some (nI v, a') ∧ F_R_isVisited_4 m' (nI f) (nI u) w (nI p) (nI c) (nI (N * p)) b = some (nI v, b') ∧ SN h th a' b' ∧ FN h th a a' b b' := by
  intro q
  induction q with
  | zero =>
    intro N c m m' a b S hfa hza hN hq hm hm' hc
    obtain ⟨m, rfl⟩ : ∃ k, m = k + 1 := ⟨m - 1, by omega⟩
    obtain ⟨m', rfl⟩ : ∃ k, m' = k + 1 := ⟨m' - 1, by omega⟩
    have eb : b 127 f = nI z := by rw [← hza]; exact (S.1.2.2.2.1 f hfa).2.2.2
    refine ⟨c, a, b, ?_, ven hf eb hz (by omega) (by omega) m', S, FN_rf⟩
    simp only [F_G_tread_12, nI_add, if_pos (nI_le (show z + p ≤ N * p + p by omega) (show N * p + p < 2 ^ 31 by omega))]
  | succ q ih =>
    intro N c m m' a b S hfa hza hN hq hm hm' hc
    have eb : b 127 f = nI z := by rw [← hza]; exact (S.1.2.2.2.1 f hfa).2.2.2
    by_cases hE : N * p = z
    · obtain ⟨m, rfl⟩ : ∃ k, m = k + 1 := ⟨m - 1, by omega⟩
      obtain ⟨m', rfl⟩ : ∃ k, m' = k + 1 := ⟨m' - 1, by omega⟩
      refine ⟨c, a, b, ?_, ven hf eb hz (by omega) (by omega) m', S, FN_rf⟩
      simp only [F_G_tread_12, nI_add, if_pos (nI_le (show z + p ≤ N * p + p by omega) (show N * p + p < 2 ^ 31 by omega))]
    · have hlt : N * p < z := by omega
      obtain ⟨m, rfl⟩ : ∃ k, m = k + 1 + 1 := ⟨m - 2, by omega⟩
      have nend : ¬ nI (z + p) ≤ nI (N * p + p) := nI_ge (by omega) (by omega)
      have enext : nI (N * p + p) + nI p = nI (N * p + p + p) := nI_add _ _
      have rng : ∀ k, (0 ≤ nI k ∧ nI k ≤ nI z - 1) ↔ ∃ g, g < z ∧ nI k = nI g := fun k => rngF (n := z) (by omega)
      have hfin : ∀ (c' : Nat) (a1 b1 : Mem), z ≤ N * p + p → F_G_tread_12 (m + 1) h (nI th) (nI f) (nI u) w (nI p) (nI z) (nI p) (nI c') (nI (N * p + p + p)) a1 = some (nI c', a1) := by
        intro c' a1 b1 hzz
        simp only [F_G_tread_12, nI_add, if_pos (nI_le (show z + p ≤ N * p + p + p by omega) (show N * p + p + p < 2 ^ 31 by omega))]
      rcases (show u = 0 ∨ u = 1 by omega) with rfl | rfl
      · -- down
        have hi : z - 1 - N * p < z := by omega
        obtain ⟨v, a1, b1, t1, t2, t3, S1, F1⟩ := sn_t1 hh S (f := f) (i := z - 1 - N * p) ⟨hfa, by rw [hza]; exact hi⟩ w (nI p)
        have hza1 : f < nF (hv h a1) ∧ sz (hv h a1) f = z := by
          have e2 : hv h a1 2 2 = hv h a 2 2 := F1.2.1
          have e4 : hv h a1 4 = hv h a 4 := F1.1 (h + 2) (by omega) (by omega) (by rcases hh with rfl | rfl <;> decide) (by rcases hh with rfl | rfl <;> decide) (by rcases hh with rfl | rfl <;> decide) (by rcases hh with rfl | rfl <;> decide)
          unfold nF sz at *
          rw [e2, e4]
          exact ⟨hfa, hza⟩
        have eb1 : b1 127 f = nI z := by rw [← hza1.2]; exact (S1.1.2.2.2.1 f hza1.1).2.2.2
        have hst : nI z - 1 - (nI (N * p + p) - nI p) = nI (z - 1 - N * p) := by
          rw [show nI z - 1 = nI (z - 1) from n_sub (b := 1) (by omega), n_sub (by omega), show N * p + p - p = N * p by omega, n_sub (by omega)]
        have hin := (rng (z - 1 - N * p)).mpr ⟨_, hi, rfl⟩
        have hC : F_G_tread_12 (m + 1 + 1) h (nI th) (nI f) (nI 0) w (nI p) (nI z) (nI p) (nI c) (nI (N * p + p)) a = F_G_tread_12 (m + 1) h (nI th) (nI f) (nI 0) w (nI p) (nI z) (nI p) (nI (if v = 0 then c else c + 1)) (nI (N * p + p + p)) a1 := by
          rw [F_G_tread_12]
          simp only [nI_add, if_neg nend, show (nI 0 = 0) = True from by decide, if_true, hst, C_within, Option.bind_some, b01, hin, and_self, not_true_eq_false, if_false, one0, t1, nI_1]
          rcases t3 with rfl | rfl
          · simp only [if_true]
          · simp only [one0, if_false]
        obtain ⟨m', rfl⟩ : ∃ k, m' = k + 1 := ⟨m' - 1, by omega⟩
        have htk : trK 0 p (N * p) := by
          unfold trK
          rw [if_pos rfl, Nat.mul_mod_left]
        have hM := vtr (f := f) (z := z) (u := 0) (p := p) (k := N * p) (w := w) (c := c) hf eb hz (by decide) hp hp5 hlt htk t3 (by rw [if_pos rfl]; exact t2) m'
        by_cases hmore : N * p + p ≤ z
        · have hsk := vsk (u := 0) (w := w) (n := nI (if v = 0 then c else c + 1)) hf eb1 hz (by decide) hp hp5 (p - 1) (N * p + 1) (m' - (p - 1)) (by omega) (fun j h1 h2 => trk_dn (N := N) hp (by omega) (by omega))
          rw [show m' - (p - 1) + (p - 1) = m' by omega, show N * p + 1 + (p - 1) = N * p + p by omega] at hsk
          obtain ⟨vv, a2, b2, y1, y2, S2, F2⟩ := ih (N + 1) (if v = 0 then c else c + 1) (m + 1) (m' - (p - 1)) a1 b1 S1 hza1.1 hza1.2 (by rw [Nat.succ_mul]; exact hmore) (by rw [Nat.succ_mul]; omega) (by omega) (by rw [Nat.succ_mul]; omega) (by split <;> omega)
          rw [Nat.succ_mul] at y1 y2
          exact ⟨vv, a2, b2, hC.trans y1, hM.trans (hsk.trans y2), S2, FN_tr F1 F2⟩
        · have hsk := vsk (u := 0) (w := w) (n := nI (if v = 0 then c else c + 1)) hf eb1 hz (by decide) hp hp5 (z - (N * p + 1)) (N * p + 1) (m' - (z - (N * p + 1))) (by omega) (fun j h1 h2 => trk_dn (N := N) hp (by omega) (by omega))
          rw [show m' - (z - (N * p + 1)) + (z - (N * p + 1)) = m' by omega, show N * p + 1 + (z - (N * p + 1)) = z by omega] at hsk
          obtain ⟨m2, hm2⟩ : ∃ k, m' - (z - (N * p + 1)) = k + 1 := ⟨m' - (z - (N * p + 1)) - 1, by omega⟩
          rw [hm2, ven hf eb1 hz (Nat.le_refl z) (by omega) m2] at hsk
          exact ⟨_, a1, b1, hC.trans (hfin _ a1 b1 (by omega)), hM.trans hsk, S1, F1⟩
      · -- up
        by_cases hmore : N * p + p ≤ z
        · have hi : N * p + p - 1 < z := by omega
          obtain ⟨v, a1, b1, t1, t2, t3, S1, F1⟩ := sn_t1 hh S (f := f) (i := N * p + p - 1) ⟨hfa, by rw [hza]; exact hi⟩ w (nI p)
          have hza1 : f < nF (hv h a1) ∧ sz (hv h a1) f = z := by
            have e2 : hv h a1 2 2 = hv h a 2 2 := F1.2.1
            have e4 : hv h a1 4 = hv h a 4 := F1.1 (h + 2) (by omega) (by omega) (by rcases hh with rfl | rfl <;> decide) (by rcases hh with rfl | rfl <;> decide) (by rcases hh with rfl | rfl <;> decide) (by rcases hh with rfl | rfl <;> decide)
            unfold nF sz at *
            rw [e2, e4]
            exact ⟨hfa, hza⟩
          have hst : nI (N * p + p) - 1 = nI (N * p + p - 1) := n_sub (b := 1) (by omega)
          have hin := (rng (N * p + p - 1)).mpr ⟨_, hi, rfl⟩
          have hC : F_G_tread_12 (m + 1 + 1) h (nI th) (nI f) (nI 1) w (nI p) (nI z) (nI p) (nI c) (nI (N * p + p)) a = F_G_tread_12 (m + 1) h (nI th) (nI f) (nI 1) w (nI p) (nI z) (nI p) (nI (if v = 0 then c else c + 1)) (nI (N * p + p + p)) a1 := by
            rw [F_G_tread_12]
            simp only [nI_add, if_neg nend, show (nI 1 = 0) = False from by decide, if_false, hst, C_within, Option.bind_some, b01, hin, and_self, not_true_eq_false, one0, t1, nI_1]
            rcases t3 with rfl | rfl
            · simp only [if_true]
            · simp only [one0, if_false]
          have hsk := vsk (u := 1) (w := w) (n := nI c) hf eb hz (by decide) hp hp5 (p - 1) (N * p) (m' - (p - 1)) (by omega) (fun j h1 h2 => trk_up (N := N) hp (by omega) (by omega))
          rw [show m' - (p - 1) + (p - 1) = m' by omega, show N * p + (p - 1) = N * p + p - 1 by omega] at hsk
          have htk : trK 1 p (N * p + p - 1) := by
            unfold trK
            rw [if_neg (by decide), show N * p + p - 1 + 1 = (N + 1) * p by rw [Nat.succ_mul]; omega, Nat.mul_mod_left]
          obtain ⟨m2, hm2⟩ : ∃ k, m' - (p - 1) = k + 1 := ⟨m' - (p - 1) - 1, by omega⟩
          have hM := vtr (f := f) (z := z) (u := 1) (p := p) (k := N * p + p - 1) (w := w) (c := c) hf eb hz (by decide) hp hp5 hi htk t3 (by rw [if_neg (by decide)]; exact t2) m2
          rw [show N * p + p - 1 + 1 = N * p + p by omega] at hM
          obtain ⟨vv, a2, b2, y1, y2, S2, F2⟩ := ih (N + 1) (if v = 0 then c else c + 1) (m + 1) m2 a1 b1 S1 hza1.1 hza1.2 (by rw [Nat.succ_mul]; exact hmore) (by rw [Nat.succ_mul]; omega) (by omega) (by rw [Nat.succ_mul]; omega) (by split <;> omega)
          rw [Nat.succ_mul] at y1 y2
          refine ⟨vv, a2, b2, hC.trans y1, hsk.trans ?_, S2, FN_tr F1 F2⟩
          rw [hm2]
          exact hM.trans y2
        · have hst : nI (N * p + p) - 1 = nI (N * p + p - 1) := n_sub (b := 1) (by omega)
          have hout : ¬ (0 ≤ nI (N * p + p - 1) ∧ nI (N * p + p - 1) ≤ nI z - 1) := fun q => by
            obtain ⟨g, g1, g2⟩ := (rng _).mp q
            have := (nI_eq (by omega) (by omega)).mp g2
            omega
          have hC : F_G_tread_12 (m + 1 + 1) h (nI th) (nI f) (nI 1) w (nI p) (nI z) (nI p) (nI c) (nI (N * p + p)) a = F_G_tread_12 (m + 1) h (nI th) (nI f) (nI 1) w (nI p) (nI z) (nI p) (nI c) (nI (N * p + p + p)) a := by
            rw [F_G_tread_12]
            simp only [nI_add, if_neg nend, show (nI 1 = 0) = False from by decide, if_false, hst, C_within, Option.bind_some, b01, hout, not_false_eq_true, if_true]
          have hsk := vsk (u := 1) (w := w) (n := nI c) hf eb hz (by decide) hp hp5 (z - N * p) (N * p) (m' - (z - N * p)) (by omega) (fun j h1 h2 => trk_up (N := N) hp (by omega) (by omega))
          rw [show m' - (z - N * p) + (z - N * p) = m' by omega, show N * p + (z - N * p) = z by omega] at hsk
          obtain ⟨m2, hm2⟩ : ∃ k, m' - (z - N * p) = k + 1 := ⟨m' - (z - N * p) - 1, by omega⟩
          rw [hm2, ven hf eb hz (Nat.le_refl z) (by omega) m2] at hsk
          exact ⟨c, a, b, hC.trans (hfin _ a b (by omega)), hsk, S, FN_rf⟩
