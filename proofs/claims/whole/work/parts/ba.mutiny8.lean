/-! ===== mutiny: the reference to its end; the call ===== -/
def eqX (b b0 : Mem) : Prop := ∀ c, c ≠ 151 → b c = b0 c
theorem MRf_t {a0 b b0 : Mem} {n nl : Nat} {z rk A B : Nat → Nat} (h : MRf a0 b0 n z rk A B nl) (e : eqX b b0) : MRf a0 b n z rk A B nl := by
  unfold MRf mSz
  rw [e 123 (by decide), e 124 (by decide), e 127 (by decide), e 142 (by decide)]
  exact h
def cellC (b : Mem) (C : Nat → Bool) : Prop := ∀ m, m < 96 → b 151 m = nI (cq1 (C m))
def QCm (a0 : Mem) (n : Nat) (z rk A B : Nat → Nat) (nl : Nat) (S C : Nat → Bool) : Prop := (∀ m, C m = true → vmD a0 n z m) ∧ (∀ m, vmD a0 n z m → S m = true → C m = true) ∧ ∀ K, clK a0 n z rk A B nl S K → ∀ m, C m = true → 1 ≤ K m
theorem mf34 {a0 b0 : Mem} {n nl : Nat} {z rk A B : Nat → Nat} {S C0 : Nat → Bool} {k28 : Int32 → Mem → Option (Int32 × Mem)} (hM : MRf a0 b0 n z rk A B nl) : ∀ (q s fu : Nat) (b : Mem) (C : Nat → Bool) (fl : Int32), s + q = 16 * n → q < fu → eqX b b0 → cellC b C → QCm a0 n z rk A B nl S C → ((fl = 0 ∧ C = C0 ∧ ∀ m, m < s → vmD a0 n z m → C0 m = false → besD A B z (fun x => cq1 (C0 x)) nl m < wlN (rk m)) ∨ (fl = 1 ∧ fb_ct C0 96 < fb_ct C 96)) → ∃ (b' : Mem) (C' : Nat → Bool) (fl' : Int32), F_R_mutinyFrom_34 k28 fu fl (nI s) b = k28 fl' b' ∧ eqX b' b0 ∧ cellC b' C' ∧ QCm a0 n z rk A B nl S C' ∧ ((fl' = 0 ∧ C' = C0 ∧ ∀ m, vmD a0 n z m → C0 m = false → besD A B z (fun x => cq1 (C0 x)) nl m < wlN (rk m)) ∨ (fl' = 1 ∧ fb_ct C0 96 < fb_ct C' 96)) := by
  have n6 := hM.1.1
  intro q
  induction q with
  | zero =>
    intro s fu b C fl hs hfu hb hC hQ hfl
    obtain ⟨fu, rfl⟩ : ∃ k, fu = k + 1 := ⟨fu - 1, by omega⟩
    have hMb := MRf_t hM hb
    have e16 : (16 : Int32) * (b 123 6) = nI (16 * n) := by rw [hMb.2.1.1, show (16 : Int32) = nI 16 from rfl, n_mul]
    refine ⟨b, C, fl, ?_, hb, hC, hQ, ?_⟩
    · rw [F_R_mutinyFrom_34, e16, if_pos (nI_le (show 16 * n ≤ s by omega) (by omega))]
    · rcases hfl with ⟨h1, h2, h3⟩ | h
      · exact Or.inl ⟨h1, h2, fun m hm => h3 m (by have := hm.1.1; omega) hm⟩
      · exact Or.inr h
  | succ q ih =>
    intro s fu b C fl hs hfu hb hC hQ hfl
    obtain ⟨fu, rfl⟩ : ∃ k, fu = k + 1 := ⟨fu - 1, by omega⟩
    have hMb := MRf_t hM hb
    have s96 : s < 96 := by omega
    have e16 : (16 : Int32) * (b 123 6) = nI (16 * n) := by rw [hMb.2.1.1, show (16 : Int32) = nI 16 from rfl, n_mul]
    have g1 : ¬ nI (16 * n) ≤ nI s := nI_ge (by omega) (by omega)
    have d1 : nI s / 16 = nI (s / 16) := by rw [show (16 : Int32) = nI 16 from rfl, n_div (by omega) (by decide) (by decide)]
    have d2 : irm (nI s) 16 = nI (s % 16) := by rw [show (16 : Int32) = nI 16 from rfl, n_irm (by omega) (by decide) (by decide)]
    have sn : s / 16 < n := by omega
    have lz : ld b 127 (nI (s / 16)) = some (nI (z (s / 16))) := (ld_in rfl (show s / 16 < 6 by omega) (by decide)).trans (congrArg some (hMb.2.1.2 _ sn))
    have z16 := (hM.1.2 _ sn).2
    have l1 : ld b 151 (nI s) = some (nI (cq1 (C s))) := (ld_in rfl (show s < 96 from s96) (by decide)).trans (congrArg some (hC s s96))
    have same : (C s = true ∨ ¬ vmD a0 n z s ∨ besD A B z (fun x => cq1 (C x)) nl s < wlN (rk s)) → F_R_mutinyFrom_34 k28 (fu + 1) fl (nI s) b = F_R_mutinyFrom_34 k28 fu fl (nI (s + 1)) b → ∃ (b' : Mem) (C' : Nat → Bool) (fl' : Int32), F_R_mutinyFrom_34 k28 (fu + 1) fl (nI s) b = k28 fl' b' ∧ eqX b' b0 ∧ cellC b' C' ∧ QCm a0 n z rk A B nl S C' ∧ ((fl' = 0 ∧ C' = C0 ∧ ∀ m, vmD a0 n z m → C0 m = false → besD A B z (fun x => cq1 (C0 x)) nl m < wlN (rk m)) ∨ (fl' = 1 ∧ fb_ct C0 96 < fb_ct C' 96)) := fun hh ee => by
      rw [ee]
      refine ih (s + 1) fu b C fl (by omega) (by omega) hb hC hQ ?_
      rcases hfl with ⟨h1, h2, h3⟩ | h
      · refine Or.inl ⟨h1, h2, fun m hm hv hc => ?_⟩
        by_cases c : m = s
        · subst c
          subst h2
          rcases hh with k | k | k
          · rw [hc] at k; exact absurd k (by decide)
          · exact absurd hv k
          · exact k
        · exact h3 m (by omega) hv hc
      · exact Or.inr h
    by_cases ch : s % 16 < z (s / 16)
    · have hv : hsD n z s := ⟨sn, ch⟩
      have g2 : ¬ nI (z (s / 16)) ≤ nI (s % 16) := nI_ge ch (by omega)
      cases cc : C s with
      | true =>
        refine same (Or.inl cc) ?_
        rw [cc] at l1
        rw [F_R_mutinyFrom_34, e16, if_neg g1, d1, lz]
        simp only [Option.bind_some, d2, if_neg g2, l1, if_pos (show nI (cq1 true) = 1 from rfl), nI_1]
      | false =>
        rw [cc] at l1
        have go := go_r (b := b) (j := s) s96
        rw [(hMb.2.2.1 s s96).2.2] at go
        by_cases cg : a0 3 (384 + s) = 2
        · refine same (Or.inr (Or.inl fun k => k.2 cg)) ?_
          rw [if_pos cg] at go
          rw [F_R_mutinyFrom_34, e16, if_neg g1, d1, lz]
          simp only [Option.bind_some, d2, if_neg g2, l1, if_neg (show ¬ nI (cq1 false) = 1 by decide), go, one0, if_false, nI_1]
        · have vs : vmD a0 n z s := ⟨hv, cg⟩
          rw [if_neg cg] at go
          have mb := mb_p (C := fun x => cq1 (C x)) hMb hv hC (fun m => cq1_le _)
          have bl := bes_le (A := A) (B := B) (z := z) (C := fun x => cq1 (C x)) (nl := nl) (s := s) (fun m => cq1_le _)
          have l16 : nl ≤ 16 := hM.2.2.2.1
          have lr : ld b 124 (197 + nI s) = some (nI (rk s)) := by
            rw [show (197 : Int32) = nI 197 from rfl, nI_add]
            exact (ld_in rfl (show 197 + s < 773 by omega) (by decide)).trans (congrArg some (hMb.2.2.1 s s96).2.1)
          have gr := gr_r (hMb.2.2.1 s s96).1 b
          have w9 := wlN_9 (hMb.2.2.1 s s96).1
          have sw : sd b 151 (nI s) 1 = some (mw b 151 s 1) := sd_in rfl (show s < 96 from s96) (by decide)
          have red : F_R_mutinyFrom_34 k28 (fu + 1) fl (nI s) b = if nI (wlN (rk s)) ≤ nI (besD A B z (fun x => cq1 (C x)) nl s) then F_R_mutinyFrom_34 k28 fu 1 (nI (s + 1)) (mw b 151 s 1) else F_R_mutinyFrom_34 k28 fu fl (nI (s + 1)) b := by
            rw [F_R_mutinyFrom_34, e16, if_neg g1, d1, lz]
            simp only [Option.bind_some, d2, if_neg g2, l1, if_neg (show ¬ nI (cq1 false) = 1 by decide), go, if_true, mb, lr, gr, sw, nI_1]
          by_cases cw : wlN (rk s) ≤ besD A B z (fun x => cq1 (C x)) nl s
          · rw [if_pos (nI_le cw (by omega))] at red
            rw [red]
            refine ih (s + 1) fu (mw b 151 s 1) (fun x => decide (x = s) || C x) 1 (by omega) (by omega) (fun c hc => (mw_o hc).trans (hb c hc)) (fun m hm => ?_) ⟨fun m hm => ?_, fun m hm hs' => ?_, fun K hK m hm => ?_⟩ (Or.inr ⟨rfl, ?_⟩)
            · by_cases cm : m = s
              · rw [cm]
                show (mw b 151 s 1) 151 s = nI (cq1 (decide (s = s) || C s))
                rw [decide_eq_true rfl, Bool.true_or]
                simp [mw]
                rfl
              · show (mw b 151 s 1) 151 m = nI (cq1 (decide (m = s) || C m))
                rw [decide_eq_false cm, Bool.false_or, ← hC m hm]
                simp [mw, cm]
            · have hm : (decide (m = s) || C m) = true := hm
              rw [Bool.or_eq_true] at hm
              rcases hm with k | k
              · rw [of_decide_eq_true k]; exact vs
              · exact hQ.1 m k
            · show (decide (m = s) || C m) = true
              rw [hQ.2.1 m hm hs', Bool.or_true]
            · have hm : (decide (m = s) || C m) = true := hm
              rw [Bool.or_eq_true] at hm
              rcases hm with k | k
              · rw [of_decide_eq_true k]
                have le1 : ∀ x, cq1 (C x) ≤ K x := fun x => by
                  cases cx : C x with
                  | false => exact Nat.zero_le _
                  | true => exact hQ.2.2 K hK x cx
                have le2 := bes_mono (A := A) (B := B) (z := z) (nl := nl) (s := s) le1
                by_cases c0 : K s = 0
                · have := hK.2 s vs c0
                  omega
                · omega
              · exact hQ.2.2 K hK m k
            · have fi := fb_in (p := C) (m := s) 96 cc
              rw [if_pos s96] at fi
              rcases hfl with ⟨-, h2, -⟩ | ⟨-, h⟩
              · subst h2; omega
              · omega
          · rw [if_neg (nI_ge (show besD A B z (fun x => cq1 (C x)) nl s < wlN (rk s) by omega) (by omega))] at red
            exact same (Or.inr (Or.inr (by omega))) red
    · refine same (Or.inr (Or.inl fun k => ch k.1.2)) ?_
      rw [F_R_mutinyFrom_34, e16, if_neg g1, d1, lz]
      simp only [Option.bind_some, d2, if_pos (nI_le (show z (s / 16) ≤ s % 16 by omega) (by omega)), nI_1]
theorem mf88 {b : Mem} {C : Nat → Bool} (hC : cellC b C) : ∀ (q i fu : Nat), i + q = 96 → q < fu → F_R_mutinyFrom_88 fu (nI (fb_ct C i)) (nI i) b = some (nI (fb_ct C 96), b) := by
  intro q
  induction q with
  | zero =>
    intro i fu hi hfu
    obtain ⟨fu, rfl⟩ : ∃ k, fu = k + 1 := ⟨fu - 1, by omega⟩
    have ei : i = 96 := by omega
    subst ei
    rw [F_R_mutinyFrom_88, if_pos (show (96 : Int32) ≤ nI 96 by decide)]
  | succ q ih =>
    intro i fu hi hfu
    obtain ⟨fu, rfl⟩ : ∃ k, fu = k + 1 := ⟨fu - 1, by omega⟩
    have l1 : ld b 151 (nI i) = some (nI (cq1 (C i))) := (ld_in rfl (show i < 96 by omega) (by decide)).trans (congrArg some (hC i (by omega)))
    rw [← ih (i + 1) fu (by omega) (by omega), F_R_mutinyFrom_88, if_neg (show ¬ (96 : Int32) ≤ nI i from nI_ge (b := 96) (by omega) (by decide)), l1, fb_s]
    simp only [Option.bind_some, nI_add, nI_1]
theorem mf28 {a0 b0 : Mem} {n nl : Nat} {z rk A B : Nat → Nat} {S : Nat → Bool} (hM : MRf a0 b0 n z rk A B nl) : ∀ (q fu : Nat) (b : Mem) (C : Nat → Bool), 97 ≤ fb_ct C 96 + q → q + 1 < fu → eqX b b0 → cellC b C → QCm a0 n z rk A B nl S C → ∃ (C' : Nat → Bool) (b' : Mem), F_R_mutinyFrom_28 fu 1 b = some (nI (fb_ct C' 96), b') ∧ eqX b' b0 ∧ endD a0 n z rk A B nl S C' := by
  intro q
  induction q with
  | zero =>
    intro fu b C h1
    have := fb_ct_le C 96
    omega
  | succ q ih =>
    intro fu b C h1 hfu hb hC hQ
    obtain ⟨fu, rfl⟩ : ∃ k, fu = k + 1 := ⟨fu - 1, by omega⟩
    have n6 := hM.1.1
    obtain ⟨b', C', fl', k1, k2, k3, k4, k5⟩ := mf34 (k28 := F_R_mutinyFrom_28 fu) (S := S) (C0 := C) hM (16 * n) 0 gF b C 0 (by omega) (by rw [gF_eq]; omega) hb hC hQ (Or.inl ⟨rfl, rfl, fun m hm => absurd hm (Nat.not_lt_zero m)⟩)
    have red : F_R_mutinyFrom_28 (fu + 1) 1 b = F_R_mutinyFrom_28 fu fl' b' := by
      rw [F_R_mutinyFrom_28, if_neg (by decide)]
      exact k1
    rw [red]
    rcases k5 with ⟨e1, e2, e3⟩ | ⟨e1, e2⟩
    · subst e1
      subst e2
      refine ⟨C', b', ?_, k2, k4.1, ⟨fun m hm hs => ?_, fun m hm h0 => ?_⟩, k4.2.2⟩
      · obtain ⟨fu, rfl⟩ : ∃ k, fu = k + 1 := ⟨fu - 1, by omega⟩
        rw [F_R_mutinyFrom_28, if_pos rfl]
        exact mf88 k3 96 0 gF (by omega) (by rw [gF_eq]; omega)
      · show 1 ≤ cq1 (C' m)
        rw [k4.2.1 m hm hs]
        exact Nat.le_refl 1
      · refine e3 m hm ?_
        cases c : C' m with
        | false => rfl
        | true => have h0 : cq1 (C' m) = 0 := h0; rw [c] at h0; exact absurd h0 (by decide)
    · subst e1
      exact ih fu b' C' (by omega) (by omega) k2 k3 k4
theorem mf2 {a0 b0 : Mem} {n nl f X : Nat} {z rk A B : Nat → Nat} {S : Nat → Bool} (hM : MRf a0 b0 n z rk A B nl) (hf : f < n) (hX : X < 65536) (eS : ∀ m, S m = (decide (m / 16 = f) && X.testBit (m % 16))) (hS : ∀ m, S m = true → vmD a0 n z m) : ∀ (q i fu : Nat) (b : Mem), i + q = 96 → q < fu → eqX b b0 → (∀ m, m < i → b 151 m = nI (cq1 (S m))) → ∃ (C' : Nat → Bool) (b' : Mem), F_R_mutinyFrom_2 fu (nI f) (nI X) (nI i) b = some (nI (fb_ct C' 96), b') ∧ eqX b' b0 ∧ endD a0 n z rk A B nl S C' := by
  have n6 := hM.1.1
  intro q
  induction q with
  | zero =>
    intro i fu b hi hfu hb hC
    obtain ⟨fu, rfl⟩ : ∃ k, fu = k + 1 := ⟨fu - 1, by omega⟩
    have ei : i = 96 := by omega
    subst ei
    rw [F_R_mutinyFrom_2, if_pos (show (96 : Int32) ≤ nI 96 by decide)]
    exact mf28 hM 97 gF b S (by omega) (by rw [gF_eq]; omega) hb hC ⟨hS, fun m _ hs => hs, fun K hK m hm => hK.1 m (hS m hm) hm⟩
  | succ q ih =>
    intro i fu b hi hfu hb hC
    obtain ⟨fu, rfl⟩ : ∃ k, fu = k + 1 := ⟨fu - 1, by omega⟩
    have d1 : nI i / 16 = nI (i / 16) := by rw [show (16 : Int32) = nI 16 from rfl, n_div (by omega) (by decide) (by decide)]
    have d2 : irm (nI i) 16 = nI (i % 16) := by rw [show (16 : Int32) = nI 16 from rfl, n_irm (by omega) (by decide) (by decide)]
    have g1 : ¬ (96 : Int32) ≤ nI i := nI_ge (b := 96) (by omega) (by decide)
    have sw : ∀ v, sd b 151 (nI i) v = some (mw b 151 i v) := fun v => sd_in rfl (show i < 96 by omega) (by decide)
    have red : F_R_mutinyFrom_2 (fu + 1) (nI f) (nI X) (nI i) b = F_R_mutinyFrom_2 fu (nI f) (nI X) (nI (i + 1)) (mw b 151 i (nI (cq1 (S i)))) := by
      rw [eS i, F_R_mutinyFrom_2, if_neg g1, d1]
      by_cases c : i / 16 = f
      · have hh := R_has (a := X) (k := i % 16) (by omega) (by omega) b
        rw [if_pos (by rw [c]), decide_eq_true c, Bool.true_and]
        cases cb : X.testBit (i % 16) with
        | true =>
          rw [if_pos cb] at hh
          simp only [d2, hh, Option.bind_some, one0, if_false, sw, nI_1]
          rfl
        | false =>
          rw [if_neg (by rw [cb]; decide)] at hh
          simp only [d2, hh, Option.bind_some, if_true, sw, nI_1]
          rfl
      · rw [if_neg (fun k => c ((nI_eq (by omega) (by omega)).mp k)), decide_eq_false c, Bool.false_and, sw]
        simp only [Option.bind_some, nI_1]
        rfl
    rw [red]
    refine ih (i + 1) fu _ (by omega) (by omega) (fun c hc => (mw_o hc).trans (hb c hc)) (fun m hm => ?_)
    by_cases c : m = i
    · subst c
      simp [mw]
    · rw [← hC m (by omega)]
      simp [mw, c]
theorem am2 {a : Mem} {n f X : Nat} {z : Nat → Nat} (hz : szOK n z) (hc : cSz a n z) (hf : f < n) (hX : X < 65536) : ∀ (q i fu : Nat), i + q = z f → q < fu → ((∀ j, i ≤ j → j < z f → X.testBit j = true → ¬ a 3 (384 + (16 * f + j)) = 2) → F_H_anyMissing_2 fu (nI f) (nI X) (nI i) a = some (0, a)) ∧ ((∃ j, i ≤ j ∧ j < z f ∧ X.testBit j = true ∧ a 3 (384 + (16 * f + j)) = 2) → F_H_anyMissing_2 fu (nI f) (nI X) (nI i) a = some (1, a)) := by
  have f6 : f < 6 := by have := hz.1; omega
  have z16 := (hz.2 f hf).2
  have hs := H_size (s := a) (h0 := 2) (c := 4) rfl rfl rfl rfl f6
  rw [hc.2 f hf] at hs
  intro q
  induction q with
  | zero =>
    intro i fu hi hfu
    obtain ⟨fu, rfl⟩ : ∃ k, fu = k + 1 := ⟨fu - 1, by omega⟩
    constructor
    · intro _
      rw [F_H_anyMissing_2, hs]
      simp only [Option.bind_some, if_pos (nI_le (show z f ≤ i by omega) (by omega))]
    · rintro ⟨j, j1, j2, -⟩
      omega
  | succ q ih =>
    intro i fu hi hfu
    obtain ⟨fu, rfl⟩ : ∃ k, fu = k + 1 := ⟨fu - 1, by omega⟩
    have hi2 := ih (i + 1) fu (by omega) (by omega)
    have g1 : ¬ nI (z f) ≤ nI i := nI_ge (by omega) (by omega)
    have nb := n_bit (a := X) (k := i) (by omega) (by omega)
    have mi := mi_c (a := a) (f := f) (i := i) f6 (by omega)
    rw [show 96 * 4 + 16 * f + i = 384 + (16 * f + i) by omega] at mi
    have skip : (¬ (X.testBit i = true ∧ a 3 (384 + (16 * f + i)) = 2)) → F_H_anyMissing_2 (fu + 1) (nI f) (nI X) (nI i) a = F_H_anyMissing_2 fu (nI f) (nI X) (nI (i + 1)) a := fun hh => by
      rw [F_H_anyMissing_2, hs]
      cases cb : X.testBit i with
      | true =>
        rw [if_pos cb] at nb
        rw [if_neg (fun k => hh ⟨cb, k⟩)] at mi
        simp only [Option.bind_some, if_neg g1, nb, if_pos (show nI 1 = 1 from rfl), mi, if_true, nI_1]
      | false =>
        rw [if_neg (by rw [cb]; decide)] at nb
        simp only [Option.bind_some, if_neg g1, nb, if_neg (show ¬ nI 0 = 1 by decide), nI_1]
    constructor
    · intro h
      rw [skip (fun k => h i (Nat.le_refl i) (by omega) k.1 k.2)]
      exact hi2.1 (fun j j1 => h j (by omega))
    · rintro ⟨j, j1, j2, j3, j4⟩
      by_cases c : X.testBit i = true ∧ a 3 (384 + (16 * f + i)) = 2
      · rw [if_pos c.1] at nb
        rw [if_pos c.2] at mi
        rw [F_H_anyMissing_2, hs]
        simp only [Option.bind_some, if_neg g1, nb, if_pos (show nI 1 = 1 from rfl), mi, one0, if_false]
      · rw [skip c]
        refine hi2.2 ⟨j, ?_, j2, j3, j4⟩
        by_cases cj : j = i
        · subst cj
          exact absurd ⟨j3, j4⟩ c
        · omega
theorem I2_mu {a b a' b' : Mem} (h : I2 a b) (ha : eqWq a' a) (hb : eqX b' b) : I2 a' b' := by
  refine I2_rel h (fun c k hr => ?_) (fun c k hr => ?_)
  · by_cases c1 : c = 90
    · subst c1; exact absurd hr (show ¬ false = true from Bool.false_ne_true)
    · by_cases c2 : c = 98
      · subst c2; exact absurd hr (show ¬ false = true from Bool.false_ne_true)
      · by_cases c3 : c = 99
        · subst c3; exact absurd hr (show ¬ false = true from Bool.false_ne_true)
        · rw [ha c c1 c2 c3]
  · by_cases c1 : c = 151
    · subst c1; exact absurd hr (show ¬ false = true from Bool.false_ne_true)
    · rw [hb c c1]
theorem rk_I2 {a b : Mem} (h : I2 a b) {s : Nat} (hs : s < 96) : (a 3 (288 + s)).toNatClampNeg ≤ 9 ∧ a 3 (288 + s) = nI (a 3 (288 + s)).toNatClampNeg ∧ b 124 (197 + s) = a 3 (288 + s) ∧ b 124 (293 + s) = a 3 (384 + s) := by
  obtain ⟨⟨-, hHM, -⟩, -⟩ := id h
  have hHM : HM a b := hHM
  obtain ⟨v, v9, ev⟩ := (hHM.2.2.1 s hs).2
  have m1 := hHM.1 (192 + s) (by omega)
  have m2 := hHM.1 (288 + s) (by omega)
  rw [show 96 + (192 + s) = 288 + s by omega, show 5 + (192 + s) = 197 + s by omega] at m1
  rw [show 96 + (288 + s) = 384 + s by omega, show 5 + (288 + s) = 293 + s by omega] at m2
  rw [ev, nI_clamp (by omega)]
  exact ⟨v9, rfl, by rw [m1, ev], m2⟩
theorem do_I2 {a b : Mem} (h : I2 a b) : ∃ (A B : Nat → Nat) (nl : Nat), nl ≤ 16 ∧ a 19 1 = nI nl ∧ b 123 37 = nI nl ∧ okDr A B nl ∧ ∀ l, l < nl → hsD (nF a) (sz a) (A l) ∧ hsD (nF a) (sz a) (B l) ∧ (a 20 (5 * l + 0) = nI (A l / 16) ∧ a 20 (5 * l + 1) = nI (A l % 16) ∧ a 20 (5 * l + 2) = nI (B l / 16) ∧ a 20 (5 * l + 3) = nI (B l % 16)) ∧ b 142 (2 * l) = nI (A l) ∧ b 142 (2 * l + 1) = nI (B l) := by
  obtain ⟨hz, -, -⟩ := I2_sz h
  obtain ⟨⟨-, -, -, -, -, -, hDo, -⟩, -⟩ := id h
  obtain ⟨nl, hn, e1, e2, hL⟩ := hDo
  have key : ∀ l, l < nl → hsD (nF a) (sz a) (b 142 (2 * l)).toNatClampNeg ∧ hsD (nF a) (sz a) (b 142 (2 * l + 1)).toNatClampNeg ∧ (a 20 (5 * l + 0) = nI ((b 142 (2 * l)).toNatClampNeg / 16) ∧ a 20 (5 * l + 1) = nI ((b 142 (2 * l)).toNatClampNeg % 16) ∧ a 20 (5 * l + 2) = nI ((b 142 (2 * l + 1)).toNatClampNeg / 16) ∧ a 20 (5 * l + 3) = nI ((b 142 (2 * l + 1)).toNatClampNeg % 16)) ∧ b 142 (2 * l) = nI (b 142 (2 * l)).toNatClampNeg ∧ b 142 (2 * l + 1) = nI (b 142 (2 * l + 1)).toNatClampNeg ∧ (b 142 (2 * l)).toNatClampNeg ≠ (b 142 (2 * l + 1)).toNatClampNeg := fun l hl => by
    obtain ⟨f, i, g, j, s1, s2, fg, c0, c1, c2, c3, c4, c5⟩ := hL l hl
    have s1 : f < nF a ∧ i < sz a f := s1
    have s2 : g < nF a ∧ j < sz a g := s2
    have z1 := (hz.2 f s1.1).2
    have z2 := (hz.2 g s2.1).2
    have r1 : rel 142 (2 * l) = true := by
      show Nat.blt (2 * l) 32 = true
      rw [Nat.blt_eq]
      omega
    have r2 : rel 142 (2 * l + 1) = true := by
      show Nat.blt (2 * l + 1) 32 = true
      rw [Nat.blt_eq]
      omega
    rw [prj_at r1] at c4
    rw [prj_at r2] at c5
    have c0 : a 20 (5 * l + 0) = nI f := c0
    have c1 : a 20 (5 * l + 1) = nI i := c1
    have c2 : a 20 (5 * l + 2) = nI g := c2
    have c3 : a 20 (5 * l + 3) = nI j := c3
    have f6 := hz.1
    rw [c4, c5, nI_clamp (by omega), nI_clamp (by omega)]
    have f1 : (16 * f + i) / 16 = f := by omega
    have f2 : (16 * f + i) % 16 = i := by omega
    have f3 : (16 * g + j) / 16 = g := by omega
    have f4 : (16 * g + j) % 16 = j := by omega
    unfold hsD
    rw [f1, f2, f3, f4]
    exact ⟨s1, s2, ⟨c0, c1, c2, c3⟩, rfl, rfl, by omega⟩
  refine ⟨fun l => (b 142 (2 * l)).toNatClampNeg, fun l => (b 142 (2 * l + 1)).toNatClampNeg, nl, hn, e1, e2, fun l hl => ?_, fun l hl => ?_⟩
  · obtain ⟨k1, k2, -, -, -, k6⟩ := key l hl
    exact ⟨(hs_96 hz k1).1, (hs_96 hz k2).1, k6⟩
  · obtain ⟨k1, k2, k3, k4, k5, -⟩ := key l hl
    exact ⟨k1, k2, k3, k4, k5⟩
theorem p_mutiny (x y : Int32) : Pair I2 I2 (F_C_mutiny x y) (F_R_mutiny x y) := by
  intro a b h
  obtain ⟨hz, hc, hm⟩ := I2_sz h
  have fr0 : ∀ c, c < 123 → (mw b 123 0 0) c = b c := fun c hc => mw_o (by omega)
  have h0 : I2 a (mw b 123 0 0) := I2_0 h
  have hm0 : mSz (mw b 123 0 0) (nF a) (sz a) := hm
  obtain ⟨b0, hb0⟩ : ∃ b0, b0 = mw b 123 0 0 := ⟨_, rfl⟩
  rw [← hb0] at h0 fr0 hm0
  have fin : ∀ (v : Int32) (a' b' : Mem), F_C_mutiny x y a = some (v, a') → F_R_mutiny x y b = some (v, b') → eqWq a' a → eqX b' b0 → ∃ (v : Int32) (a' b' : Mem), F_C_mutiny x y a = some (v, a') ∧ F_R_mutiny x y b = some (v, b') ∧ I2 a' b' ∧ (∀ c, ¬ c < 123 → a' c = a c) ∧ ∀ c, c < 123 → b' c = b c := fun v a' b' k1 k2 k3 k4 => ⟨v, a', b', k1, k2, I2_mu h0 k3 k4, fun c hc => k3 c (by omega) (by omega) (by omega), fun c hc => (k4 c (by omega)).trans (fr0 c hc)⟩
  have rfa : eqWq a a := fun _ _ _ _ => rfl
  have rfb : eqX b0 b0 := fun _ _ => rfl
  rcases C_has1 hz hc x with ⟨f, hf, rfl, hh⟩ | ⟨hno, hh⟩
  · have rf := R_isF_y hz hm0 hf
    have f6 : f < 6 := by have := hz.1; omega
    obtain ⟨z1, z16⟩ := hz.2 f hf
    have eb : b0 127 f = nI (sz a f) := hm0.2 f hf
    have lb : ld b0 127 (nI f) = some (nI (sz a f)) := (ld_in rfl (show f < 6 from f6) (by decide)).trans (congrArg some eb)
    have hp : ∀ i, i < sz a f → (b0 124 (293 + (16 * f + i)) = 2 ↔ preS a f i = false) := fun i hi => by
      rw [po_I2 h0 f6 (by omega)]
      unfold preS
      constructor
      · intro q
        rw [decide_eq_true q]
        rfl
      · intro q
        by_cases c : a 3 (96 * 4 + 16 * f + i) = 2
        · exact c
        · rw [decide_eq_false c] at q
          exact absurd q (by decide)
    by_cases cy : y = -1
    · have kc := fe_c (rk := fun i => (a 3 (288 + (16 * f + i))).toNatClampNeg) hz hc hf rfl (fun i hi => by
        have := rk_I2 h0 (s := 16 * f + i) (by omega)
        rw [show 96 * 3 + 16 * f + i = 288 + (16 * f + i) by omega]
        exact ⟨this.1, this.2.1⟩)
      have kr := fe_r (rk := fun i => (a 3 (288 + (16 * f + i))).toNatClampNeg) (pr := preS a f) f6 z16 eb hp (fun i hi => by
        have := rk_I2 h0 (s := 16 * f + i) (by omega)
        rw [show 197 + 16 * f + i = 197 + (16 * f + i) by omega, this.2.2.1]
        exact ⟨this.1, this.2.1⟩)
      obtain ⟨v, vc, vr⟩ : ∃ v, F_U_fewestToBegin (nI f) a = some (v, a) ∧ F_R_fewestBegin (nI f) b0 = some (v, b0) := ⟨_, kc, kr⟩
      refine fin v a b0 ?_ ?_ rfa rfb
      · rw [F_C_mutiny, hh]
        simp only [Option.bind_some, one0, if_false, if_pos cy, vc]
      · rw [F_R_mutiny, ← hb0]
        simp only [rf, Option.bind_some, one0, if_false, if_pos cy, vr]
    · have p16 : 2 ^ sz a f ≤ 2 ^ 16 := Nat.pow_le_pow_right (by decide) z16
      have p16 : 2 ^ sz a f ≤ 65536 := p16
      have p1 : 1 ≤ 2 ^ sz a f := Nat.one_le_two_pow
      have esh : shl 1 (nI (sz a f)) = nI (2 ^ sz a f) := n_shl1 (by omega)
      have hs := H_size (s := a) (h0 := 2) (c := 4) rfl rfl rfl rfl f6
      rw [hc.2 f hf] at hs
      have rg := rngF (n := 2 ^ sz a f) (by omega) (x := y)
      by_cases cr : 0 ≤ y ∧ y ≤ nI (2 ^ sz a f) - 1
      · obtain ⟨X, hX, rfl⟩ := rg.mp cr
        have set1 : F_H_hasSet (nI f) (nI X) a = some (1, a) := by
          simp only [F_H_hasSet, hh, Option.bind_some, one0, if_false, if_neg (nI_pos (show X < 2 ^ 31 by omega)), hs, esh, if_neg (nI_ge hX (by omega))]
        have ps := ps_p (pr := preS a f) f6 z16 eb hp
        have sz1 := sub_z (X := X) (P := psN (preS a f) (sz a f)) (by omega) (by have := psN_lt (preS a f) (sz a f); omega)
        have bz : ∀ i, X.testBit i = true → i < sz a f := fun i hi => by
          rcases Nat.lt_or_ge i (sz a f) with q | q
          · exact q
          · rw [Nat.testBit_lt_two_pow (Nat.lt_of_lt_of_le hX (Nat.pow_le_pow_right (by decide) q))] at hi
            exact absurd hi (by decide)
        have am := am2 (X := X) hz hc hf (by omega) (sz a f) 0 gF (by omega) (by rw [gF_eq]; omega)
        by_cases cm : ∀ j, j < sz a f → X.testBit j = true → ¬ a 3 (384 + (16 * f + j)) = 2
        · have am0 : F_H_anyMissing (nI f) (nI X) a = some (0, a) := am.1 (fun j _ => cm j)
          have sz0 : nI X &&& (nI (psN (preS a f) (sz a f)) ^^^ (-1)) = 0 := sz1.mpr (fun i hi => by
            have i1 := bz i hi
            rw [psN_b, decide_eq_true i1, Bool.true_and]
            unfold preS
            rw [show 96 * 4 + 16 * f + i = 384 + (16 * f + i) by omega, decide_eq_false (cm i i1 hi)]
            rfl)
          obtain ⟨A, B, nl, hnl, d1, d2, hok, hL⟩ := do_I2 h0
          have hMW : MW a (nF a) (sz a) (fun s => (a 3 (288 + s)).toNatClampNeg) A B nl := ⟨hz, hc, fun s hs => ⟨(rk_I2 h0 hs).1, (rk_I2 h0 hs).2.1⟩, hnl, d1, hok, fun l hl => ⟨(hL l hl).1, (hL l hl).2.1, (hL l hl).2.2.1⟩⟩
          have hMR : MRf a b0 (nF a) (sz a) (fun s => (a 3 (288 + s)).toNatClampNeg) A B nl := ⟨hz, hm0, fun s hs => ⟨(rk_I2 h0 hs).1, (rk_I2 h0 hs).2.2.1.trans (rk_I2 h0 hs).2.1, (rk_I2 h0 hs).2.2.2⟩, hnl, d2, hok, fun l hl => (hL l hl).2.2.2⟩
          obtain ⟨C, a', k1, k2, k3⟩ := mu_p (X := X) hMW hf (by omega) cm
          have eS : ∀ m, begS f X (sz a f) m = (decide (m / 16 = f) && X.testBit (m % 16)) := fun m => by
            unfold begS
            cases cx : X.testBit (m % 16) with
            | false => rw [Bool.and_false]
            | true => rw [decide_eq_true (bz _ cx)]; rfl
          have hS : ∀ m, begS f X (sz a f) m = true → vmD a (nF a) (sz a) m := fun m hm => by
            rw [eS, Bool.and_eq_true] at hm
            have e1 := of_decide_eq_true hm.1
            have e2 := bz _ hm.2
            refine ⟨⟨by rw [e1]; exact hf, by rw [e1]; exact e2⟩, ?_⟩
            have := cm _ e2 hm.2
            rw [show 16 * f + m % 16 = m by omega] at this
            exact this
          obtain ⟨D, b', j1, j2, j3⟩ := mf2 (X := X) hMR hf (by omega) eS hS 96 0 gF b0 (by omega) (by rw [gF_eq]; omega) rfb (fun m hm => absurd hm (Nat.not_lt_zero m))
          have eCD := end_u k3 j3
          subst eCD
          refine fin (nI (fb_ct C 96)) a' b' ?_ ?_ k2 j2
          · rw [F_C_mutiny, hh]
            simp only [Option.bind_some, one0, if_false, if_neg cy, set1, am0, if_true, k1]
          · rw [F_R_mutiny, ← hb0]
            simp only [rf, Option.bind_some, one0, if_false, if_neg cy, lb, esh, R_isIn, if_pos cr, ps, if_pos sz0]
            have j1 : F_R_mutinyFrom (nI f) (nI X) b0 = some (nI (fb_ct C 96), b') := j1
            rw [j1]
            rfl
        · have ex : ∃ j, 0 ≤ j ∧ j < sz a f ∧ X.testBit j = true ∧ a 3 (384 + (16 * f + j)) = 2 := by
            apply Classical.byContradiction
            intro k
            exact cm (fun j j1 j2 j3 => k ⟨j, Nat.zero_le j, j1, j2, j3⟩)
          have am1 : F_H_anyMissing (nI f) (nI X) a = some (1, a) := am.2 ex
          have sz0 : ¬ nI X &&& (nI (psN (preS a f) (sz a f)) ^^^ (-1)) = 0 := fun k => by
            obtain ⟨j, -, j1, j2, j3⟩ := ex
            have := sz1.mp k j j2
            rw [psN_b, decide_eq_true j1, Bool.true_and] at this
            unfold preS at this
            rw [show 96 * 4 + 16 * f + j = 384 + (16 * f + j) by omega, decide_eq_true j3] at this
            exact absurd this (by decide)
          refine fin (-1) a b0 ?_ ?_ rfa rfb
          · rw [F_C_mutiny, hh]
            simp only [Option.bind_some, one0, if_false, if_neg cy, set1, am1]
          · rw [F_R_mutiny, ← hb0]
            simp only [rf, Option.bind_some, one0, if_false, if_neg cy, lb, esh, R_isIn, if_pos cr, ps, if_neg sz0]
      · have set0 : F_H_hasSet (nI f) y a = some (0, a) := by
          by_cases c1 : y < 0
          · simp only [F_H_hasSet, hh, Option.bind_some, one0, if_false, if_pos c1]
          · obtain ⟨j, hj, rfl⟩ := nI_of c1
            have c2 : nI (2 ^ sz a f) ≤ nI j := by
              refine nI_le ?_ hj
              rcases Nat.lt_or_ge j (2 ^ sz a f) with q | q
              · exact absurd (rg.mpr ⟨j, q, rfl⟩) cr
              · exact q
            simp only [F_H_hasSet, hh, Option.bind_some, one0, if_false, if_neg c1, hs, esh, if_pos c2]
        refine fin (-1) a b0 ?_ ?_ rfa rfb
        · rw [F_C_mutiny, hh]
          simp only [Option.bind_some, one0, if_false, if_neg cy, set0, if_true]
        · rw [F_R_mutiny, ← hb0]
          simp only [rf, Option.bind_some, one0, if_false, if_neg cy, lb, esh, R_isIn, if_neg cr, if_true]
  · have rf := R_isF_n hz hm0 hno
    refine fin (-1) a b0 ?_ ?_ rfa rfb
    · simp only [F_C_mutiny, hh, Option.bind_some, if_true]
    · simp only [F_R_mutiny, ← hb0, rf, Option.bind_some, if_true]
theorem g_mutiny (x y : Int32) : Good Inv (F_C_mutiny x y) (F_R_mutiny x y) := good_of (p_mutiny x y)
