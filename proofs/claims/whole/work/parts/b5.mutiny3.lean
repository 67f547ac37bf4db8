/-! ===== mutiny: the fewest, both alike ===== -/
theorem fb_sub {p q : Nat → Bool} (h : ∀ i, p i = true → q i = true) : ∀ n, fb_ct p n ≤ fb_ct q n := by
  intro n
  induction n with
  | zero => exact Nat.le_refl _
  | succ n ih =>
    rw [fb_s, fb_s]
    refine Nat.add_le_add ih ?_
    cases c : p n with
    | false => exact Nat.zero_le _
    | true => rw [h n c]; exact Nat.le_refl _
theorem fb_far {p : Nat → Bool} {z : Nat} (h : ∀ i, p i = true → i < z) : ∀ d, fb_ct p (z + d) = fb_ct p z := by
  intro d
  induction d with
  | zero => rfl
  | succ d ih =>
    rw [show z + (d + 1) = z + d + 1 from rfl, fb_s, ih]
    cases c : p (z + d) with
    | false => rfl
    | true => have := h _ c; omega
theorem prZ_z (pr : Nat → Bool) (z : Nat) : prZ pr z z = false := by
  unfold prZ
  rw [decide_eq_false (Nat.lt_irrefl z)]
  rfl
theorem prZ_lt {pr : Nat → Bool} {z i : Nat} (h : prZ pr z i = true) : i < z := by
  unfold prZ at h
  rw [Bool.and_eq_true] at h
  exact of_decide_eq_true h.1
theorem pdO_P {P o : Nat → Bool} {w : Nat → Nat} {j : Nat} (h : pdO P o w j = true) : P j = true := by
  unfold pdO at h
  rw [Bool.and_eq_true] at h
  exact h.1
theorem sp_ex {b : Mem} {f z P : Nat} {rk : Nat → Nat} (hf : f < 6) (hz : z ≤ 16) (ez : b 127 f = nI z) (hP : P < 65536) (hPz : ∀ j, P.testBit j = true → j < z) (hr : ∀ i, i < 16 → rk i ≤ 9 ∧ b 124 (197 + 16 * f + i) = nI (rk i)) : ∃ sp : Nat → Nat, ∀ S, (∀ j, S.testBit j = true → P.testBit j = true) → F_R_spreads (nI f) (nI S) (nI P) b = some (nI (sp S), b) ∧ SpQ (fun j => wlN (rk j)) P S (sp S) ∧ ∀ j, P.testBit j = true → (sp S).testBit j = false → bsT (sp S) j < wlN (rk j) := by
  have key : ∀ S, ∃ T, (∀ j, S.testBit j = true → P.testBit j = true) → F_R_spreads (nI f) (nI S) (nI P) b = some (nI T, b) ∧ SpQ (fun j => wlN (rk j)) P S T ∧ ∀ j, P.testBit j = true → T.testBit j = false → bsT T j < wlN (rk j) := fun S => by
    by_cases hs : ∀ j, S.testBit j = true → P.testBit j = true
    · obtain ⟨T, k1, k2, k3⟩ := sp4 (S := S) hf hz ez hP hPz hr 17 gF S (by omega) (by rw [gF_eq]; omega) ⟨fun j hj => hj, hs, SPR_0 _ S⟩
      exact ⟨T, fun _ => ⟨k1, k2, k3⟩⟩
    · exact ⟨0, fun q => absurd q hs⟩
  exact Classical.axiomOfChoice key
def MstF (P : Nat) (sp : Nat → Nat) (T r : Nat) : Prop := (r = pc 16 P ∨ ∃ S, (∀ j, S.testBit j = true → P.testBit j = true) ∧ sp S = P ∧ r = pc 16 S) ∧ r ≤ pc 16 P ∧ ∀ S, S < T → (∀ j, S.testBit j = true → P.testBit j = true) → sp S = P → r ≤ pc 16 S
theorem fb10 {b : Mem} {f z P : Nat} {sp : Nat → Nat} (hf : f < 6) (hz : z ≤ 16) (ez : b 127 f = nI z) (hP : P < 65536) (hsp : ∀ S, (∀ j, S.testBit j = true → P.testBit j = true) → F_R_spreads (nI f) (nI S) (nI P) b = some (nI (sp S), b) ∧ sp S < 65536) : ∀ (q T fu r : Nat), T + q = 2 ^ z → q < fu → MstF P sp T r → ∃ r', F_R_fewestBegin_10 fu (nI f) (nI P) (nI r) (nI T) b = some (nI r', b) ∧ MstF P sp (2 ^ z) r' := by
  have lz : ld b 127 (nI f) = some (nI z) := (ld_in rfl (show f < 6 from hf) (by decide)).trans (congrArg some ez)
  have p16 : 2 ^ z ≤ 2 ^ 16 := Nat.pow_le_pow_right (by decide) hz
  have p16 : 2 ^ z ≤ 65536 := p16
  have esh : shl 1 (nI z) = nI (2 ^ z) := n_shl1 (by omega)
  intro q
  induction q with
  | zero =>
    intro T fu r hT hfu hM
    obtain ⟨fu, rfl⟩ : ∃ k, fu = k + 1 := ⟨fu - 1, by omega⟩
    have eT : T = 2 ^ z := by omega
    subst eT
    refine ⟨r, ?_, hM⟩
    rw [F_R_fewestBegin_10, lz]
    simp only [Option.bind_some, esh, if_pos (show nI (2 ^ z) ≤ nI (2 ^ z) from nI_le (Nat.le_refl _) (by omega))]
  | succ q ih =>
    intro T fu r hT hfu hM
    obtain ⟨fu, rfl⟩ : ∃ k, fu = k + 1 := ⟨fu - 1, by omega⟩
    have gT : ¬ nI (2 ^ z) ≤ nI T := nI_ge (by omega) (by omega)
    have hsub := sub_z (X := T) (P := P) (by omega) hP
    have hpT := pc_16 T
    have hpP := pc_16 P
    have hrP := hM.2.1
    have go : ∀ r', MstF P sp (T + 1) r' → F_R_fewestBegin_10 (fu + 1) (nI f) (nI P) (nI r) (nI T) b = F_R_fewestBegin_10 fu (nI f) (nI P) (nI r') (nI (T + 1)) b → ∃ r', F_R_fewestBegin_10 (fu + 1) (nI f) (nI P) (nI r) (nI T) b = some (nI r', b) ∧ MstF P sp (2 ^ z) r' := fun r' hM' ee => by
      rw [ee]
      exact ih (T + 1) fu r' (by omega) (by omega) hM'
    have same : ((∀ j, T.testBit j = true → P.testBit j = true) → sp T = P → r ≤ pc 16 T) → MstF P sp (T + 1) r := fun hh => by
      refine ⟨hM.1, hM.2.1, fun S hS s1 s2 => ?_⟩
      by_cases c : S = T
      · subst c
        exact hh s1 s2
      · exact hM.2.2 S (by omega) s1 s2
    by_cases cs : ∀ j, T.testBit j = true → P.testBit j = true
    · have z1 := hsub.mpr cs
      have o1 := R_onesOf (a := T) (by omega) b
      obtain ⟨s1, s2⟩ := hsp T cs
      by_cases cl : r ≤ pc 16 T
      · refine go r (same fun _ _ => cl) ?_
        rw [F_R_fewestBegin_10, lz]
        simp only [Option.bind_some, esh, if_neg gT, if_pos z1, o1, if_pos (nI_le cl (by omega)), nI_1]
      · by_cases ce : sp T = P
        · refine go (pc 16 T) ⟨Or.inr ⟨T, cs, ce, rfl⟩, by omega, fun S hS k1 k2 => ?_⟩ ?_
          · by_cases c : S = T
            · subst c
              exact Nat.le_refl _
            · have := hM.2.2 S (by omega) k1 k2
              omega
          · rw [F_R_fewestBegin_10, lz]
            simp only [Option.bind_some, esh, if_neg gT, if_pos z1, o1, if_neg (nI_ge (show pc 16 T < r by omega) (by omega)), s1, ce, if_true, nI_1]
        · refine go r (same fun _ k => absurd k ce) ?_
          have ne : ¬ nI (sp T) = nI P := fun k => ce ((nI_eq (by omega) (by omega)).mp k)
          rw [F_R_fewestBegin_10, lz]
          simp only [Option.bind_some, esh, if_neg gT, if_pos z1, o1, if_neg (nI_ge (show pc 16 T < r by omega) (by omega)), s1, if_neg ne, nI_1]
    · refine go r (same fun k _ => absurd k cs) ?_
      rw [F_R_fewestBegin_10, lz]
      simp only [Option.bind_some, esh, if_neg gT, if_neg (fun k => cs (hsub.mp k)), nI_1]
theorem fe_r {b : Mem} {f z : Nat} {rk : Nat → Nat} {pr : Nat → Bool} (hf : f < 6) (hz : z ≤ 16) (ez : b 127 f = nI z) (hp : ∀ i, i < z → (b 124 (293 + (16 * f + i)) = 2 ↔ pr i = false)) (hr : ∀ i, i < 16 → rk i ≤ 9 ∧ b 124 (197 + 16 * f + i) = nI (rk i)) : F_R_fewestBegin (nI f) b = some (nI (dpM (prZ pr z) (fun j => wlN (rk j)) z).1, b) := by
  have hw : ∀ j, 1 ≤ (fun j => wlN (rk j)) j := fun j => wlN_1 _
  have p16 : 2 ^ z ≤ 2 ^ 16 := Nat.pow_le_pow_right (by decide) hz
  have p16 : 2 ^ z ≤ 65536 := p16
  have hPl := psN_lt pr z
  have eb : ∀ j, (psN pr z).testBit j = prZ pr z j := fun j => psN_b pr j z
  have hPz : ∀ j, (psN pr z).testBit j = true → j < z := fun j hj => by rw [eb] at hj; exact prZ_lt hj
  obtain ⟨sp, hsp⟩ := sp_ex (P := psN pr z) hf hz ez (by omega) hPz hr
  have h0 : MstF (psN pr z) sp 0 (pc 16 (psN pr z)) := ⟨Or.inl rfl, Nat.le_refl _, fun S hS => absurd hS (Nat.not_lt_zero S)⟩
  obtain ⟨r, er, hM⟩ := fb10 (P := psN pr z) (sp := sp) hf hz ez (by omega) (fun S hS => ⟨(hsp S hS).1, sub_lt (by omega) (hsp S hS).2.1.2.1⟩) (2 ^ z) 0 gF (pc 16 (psN pr z)) (by omega) (by rw [gF_eq]; omega) h0
  have eR : F_R_fewestBegin (nI f) b = some (nI r, b) := by
    rw [F_R_fewestBegin, ps_p hf hz ez hp]
    simp only [Option.bind_some]
    rw [R_onesOf (by omega)]
    exact er
  rw [eR]
  have low : ∀ o, (∀ j, pdO (prZ pr z) o (fun j => wlN (rk j)) j = true → (psN pr z).testBit j = true) → (dpM (prZ pr z) (fun j => wlN (rk j)) z).1 ≤ fb_ct (pdO (prZ pr z) o (fun j => wlN (rk j))) z := fun o _ => by
    have := dp_le (P := prZ pr z) (o := o) hw z
    rw [prZ_z, Bool.and_false] at this
    exact this
  have hle : (dpM (prZ pr z) (fun j => wlN (rk j)) z).1 ≤ r := by
    rcases hM.1 with k | ⟨S, k1, k2, k3⟩
    · have a1 := low (fun _ => false) (fun j hj => by rw [eb]; exact pdO_P hj)
      have a2 := fb_sub (p := pdO (prZ pr z) (fun _ => false) (fun j => wlN (rk j))) (q := fun i => (psN pr z).testBit i) (fun j hj => by show (psN pr z).testBit j = true; rw [eb]; exact pdO_P hj) z
      have a3 := fb_far (p := fun i => (psN pr z).testBit i) (z := z) hPz (16 - z)
      rw [show z + (16 - z) = 16 by omega] at a3
      rw [k]
      show _ ≤ fb_ct (fun i => (psN pr z).testBit i) 16
      omega
    · obtain ⟨-, -, o, ho⟩ := (hsp S k1).2.1
      rw [k2] at ho
      have hsS : ∀ j, pdO (prZ pr z) o (fun j => wlN (rk j)) j = true → S.testBit j = true := fun j hj => by
        cases c : S.testBit j with
        | true => rfl
        | false =>
          exfalso
          have hpj := pdO_P hj
          have h2 := ho j (by rw [eb]; exact hpj) c
          unfold pdO at hj
          rw [Bool.and_eq_true] at hj
          have h3 := of_decide_eq_true hj.2
          unfold ahO at h3
          have h4 : lfO (prZ pr z) o j = (decide (0 < j) && ((psN pr z).testBit (j - 1) && o (j - 1))) := by
            cases j with
            | zero => rfl
            | succ j =>
              show (prZ pr z j && o j) = _
              rw [decide_eq_true (show 0 < j + 1 by omega), Bool.true_and, show j + 1 - 1 = j from rfl, eb]
          rw [h4, ← eb (j + 1)] at h3
          omega
      have a1 := low o (fun j hj => k1 j (hsS j hj))
      have a2 := fb_sub (p := pdO (prZ pr z) o (fun j => wlN (rk j))) (q := fun i => S.testBit i) hsS z
      have a3 := fb_far (p := fun i => S.testBit i) (z := z) (fun i hi => hPz i (k1 i hi)) (16 - z)
      rw [show z + (16 - z) = 16 by omega] at a3
      rw [k3]
      show _ ≤ fb_ct (fun i => S.testBit i) 16
      omega
  have hge : r ≤ (dpM (prZ pr z) (fun j => wlN (rk j)) z).1 := by
    obtain ⟨-, o, -, ho⟩ := (dp_at (P := prZ pr z) hw z (by omega)).1
    have eX : ∀ j, (psN (pdO (prZ pr z) o (fun j => wlN (rk j))) z).testBit j = pdO (prZ pr z) o (fun j => wlN (rk j)) j := fun j => by
      rw [psN_b]
      cases c : pdO (prZ pr z) o (fun j => wlN (rk j)) j with
      | false => exact Bool.and_false _
      | true => rw [decide_eq_true (prZ_lt (pdO_P c))]; rfl
    have sX : ∀ j, (psN (pdO (prZ pr z) o (fun j => wlN (rk j))) z).testBit j = true → (psN pr z).testBit j = true := fun j hj => by
      rw [eX] at hj
      rw [eb]
      exact pdO_P hj
    obtain ⟨k1, k2, k3⟩ := hsp _ sX
    have full : ∀ j, prZ pr z j = true → (sp (psN (pdO (prZ pr z) o (fun j => wlN (rk j))) z)).testBit j = true := by
      refine cl_all (o := o) (w := fun j => wlN (rk j)) (n := z) hw (fun j hj => ?_) (fun j hj => k2.1 j (by rw [eX]; exact hj)) (fun j hj => k3 j (by rw [eb]; exact hj))
      cases c : prZ pr z j with
      | false => rfl
      | true => have := prZ_lt c; omega
    have eP : sp (psN (pdO (prZ pr z) o (fun j => wlN (rk j))) z) = psN pr z := by
      apply Nat.eq_of_testBit_eq
      intro j
      cases c : (psN pr z).testBit j with
      | true => rw [eb] at c; exact full j c
      | false =>
        cases d : (sp (psN (pdO (prZ pr z) o (fun j => wlN (rk j))) z)).testBit j with
        | false => rfl
        | true => have := k2.2.1 j d; rw [c] at this; exact absurd this (by decide)
    have a1 := hM.2.2 _ (psN_lt _ z) sX eP
    have a3 := fb_far (p := fun i => (psN (pdO (prZ pr z) o (fun j => wlN (rk j))) z).testBit i) (z := z) (fun i hi => hPz i (sX i hi)) (16 - z)
    rw [show z + (16 - z) = 16 by omega] at a3
    have a4 : fb_ct (fun i => (psN (pdO (prZ pr z) o (fun j => wlN (rk j))) z).testBit i) z = fb_ct (pdO (prZ pr z) o (fun j => wlN (rk j))) z := fb_ct_cong (fun k _ => eX k)
    have a5 : pc 16 (psN (pdO (prZ pr z) o (fun j => wlN (rk j))) z) = fb_ct (fun i => (psN (pdO (prZ pr z) o (fun j => wlN (rk j))) z).testBit i) 16 := rfl
    omega
  rw [show r = (dpM (prZ pr z) (fun j => wlN (rk j)) z).1 by omega]
/-- the class's answer -/
theorem fe_c {a : Mem} {f z n : Nat} {y : Nat → Nat} {rk : Nat → Nat} (hz : szOK n y) (hc : cSz a n y) (hf : f < n) (ez : y f = z) (hr : ∀ i, i < 16 → rk i ≤ 9 ∧ a 3 (96 * 3 + 16 * f + i) = nI (rk i)) : F_U_fewestToBegin (nI f) a = some (nI (dpM (prZ (preS a f) z) (fun j => wlN (rk j)) z).1, a) := by
  have hw : ∀ j, 1 ≤ (fun j => wlN (rk j)) j := fun j => wlN_1 _
  have z16 := (hz.2 f hf).2
  have h1 := feC hz hc hf ez hr rfl z 0 gF (by omega) (by rw [gF_eq]; omega)
  have h2 := dp_at (P := prZ (preS a f) z) hw z (by omega)
  have h3 : 1000000 ≤ (dpM (prZ (preS a f) z) (fun j => wlN (rk j)) z).2 := by
    rcases h2.2 with k | ⟨k, -⟩
    · exact k
    · rw [prZ_z] at k
      exact absurd k (by decide)
  have h4 : mn (dpM (prZ (preS a f) z) (fun j => wlN (rk j)) z).1 (dpM (prZ (preS a f) z) (fun j => wlN (rk j)) z).2 = (dpM (prZ (preS a f) z) (fun j => wlN (rk j)) z).1 := if_neg (by have := h2.1.1; omega)
  rw [h4] at h1
  exact h1
