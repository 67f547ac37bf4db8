/-! ===== image: the class copies ===== -/
def CPY (D S : Nat) (P : Nat → Prop) (s s' : Mem) : Prop := (∀ c k, P c → loA c ≤ k → k < lenA c → s' (c + D) k = s (c + S) k) ∧ ∀ x, (∀ c, P c → x ≠ c + D) → s' x = s x
def okD (D S : Nat) : Prop := (D = 36 ∧ S = 0) ∨ (D = 0 ∧ S = 36)
theorem CPY_t {D S : Nat} {P Q R : Nat → Prop} {s s1 s2 : Mem} (hd : okD D S) (hP : ∀ c, P c → 2 ≤ c ∧ c ≤ 36) (hQ : ∀ c, Q c → 2 ≤ c ∧ c ≤ 36 ∧ ¬ P c) (hR : ∀ c, R c ↔ P c ∨ Q c) (h1 : CPY D S P s s1) (h2 : CPY D S Q s1 s2) : CPY D S R s s2 := by
  refine ⟨fun c k hc k1 k2 => ?_, fun x hx => ?_⟩
  · by_cases q : P c
    · rw [h2.2 (c + D) (fun c' hc' e => (hQ c' hc').2.2 (by
        have : c = c' := by omega
        rw [← this]
        exact q))]
      exact h1.1 c k q k1 k2
    · have hq : Q c := ((hR c).mp hc).resolve_left q
      rw [h2.1 c k hq k1 k2, h1.2 (c + S) (fun c' hc' e => by
        have a1 := hP c' hc'
        have a2 := hQ c hq
        rcases hd with ⟨d1, d2⟩ | ⟨d1, d2⟩ <;> omega)]
  · rw [h2.2 x (fun c hc => hx c ((hR c).mpr (Or.inr hc))), h1.2 x (fun c hc => hx c ((hR c).mpr (Or.inl hc)))]
/-- an object with one row and one number -/
theorem cpO {D S c n : Nat} (hd : okD D S) (h1 : loA c = 1) (h2 : lenA c = 2) (h4 : lenA (c + 1) = n) (hc : c ≤ 35) (k1 : kd (c + 1 + D) = 1) (k2 : kd (c + 1 + S) = 1) (l1 : ln (c + 1 + D) = n) (l2 : ln (c + 1 + S) = n) (hn : n < 2 ^ 31) (s : Mem) : ∃ s', ((cpy s (c + 1 + S) 0 (c + 1 + D) 0 (nI n)).bind fun s1 => some ((0 : Int32), mw s1 (c + D) 1 (s1 (c + S) 1))) = some (0, s') ∧ CPY D S (fun x => x = c ∨ x = c + 1) s s' := by
  obtain ⟨g, g1, g2⟩ := cpy_all (s := s) (c := c + 1 + S) (d := c + 1 + D) (n := n) k2 k1 l2 l1 hn
  refine ⟨_, by rw [g2, Option.bind_some], ?_, ?_⟩
  · intro x k hx k1 k2
    rcases hx with rfl | rfl
    · have : k = 1 := by omega
      subst this
      rw [mw_y, rp_o (by rcases hd with ⟨d1, d2⟩ | ⟨d1, d2⟩ <;> omega)]
    · rw [mw_o (by omega), rp_at]
      exact g1 k (by omega)
  · intro x hx
    rw [mw_o (hx c (Or.inl rfl)), rp_o (hx (c + 1) (Or.inr rfl))]
/-- a row alone -/
theorem cpA {D S c n : Nat} (h4 : lenA c = n) (k1 : kd (c + D) = 1) (k2 : kd (c + S) = 1) (l1 : ln (c + D) = n) (l2 : ln (c + S) = n) (hn : n < 2 ^ 31) (s : Mem) : ∃ s', cpy s (c + S) 0 (c + D) 0 (nI n) = some s' ∧ CPY D S (fun x => x = c) s s' := by
  obtain ⟨g, g1, g2⟩ := cpy_all (s := s) (c := c + S) (d := c + D) (n := n) k2 k1 l2 l1 hn
  refine ⟨_, g2, ?_, ?_⟩
  · intro x k hx k1 k2
    subst hx
    rw [rp_at]
    exact g1 k (by omega)
  · intro x hx
    rw [rp_o (hx c rfl)]
/-- numbers of an object, the last alone counts -/
theorem cpF {D S c k : Nat} (hd : okD D S) (h1 : loA c = k) (h2 : lenA c = k + 1) (s : Mem) : CPY D S (fun x => x = c) s (mw s (c + D) k (s (c + S) k)) := by
  refine ⟨?_, ?_⟩
  · intro x j hx k1 k2
    subst hx
    have : j = k := by omega
    subst this
    rw [mw_y]
  · intro x hx
    rw [mw_o (hx c rfl)]
theorem cpH_t (s : Mem) : ∃ s', F_H_copyFrom 38 2 s = some (0, s') ∧ CPY 36 0 (fun x => 2 ≤ x ∧ x ≤ 4) s s' := by
  obtain ⟨s', e1, d1, d2, d3, d4⟩ := H_copy (s := s) (h0 := 38) (h1 := 2) (c0 := 39) (c1 := 3) (d0 := 40) (d1 := 4) rfl rfl rfl rfl rfl rfl rfl rfl rfl rfl rfl rfl rfl rfl (by decide) (by decide) (by decide) (by decide) (by decide) (by decide) (by decide)
  refine ⟨s', e1, fun c k hc k1 k2 => ?_, fun x hx => d1 x (hx 2 ⟨by decide, by decide⟩) (hx 3 ⟨by decide, by decide⟩) (hx 4 ⟨by decide, by decide⟩)⟩
  rcases (show c = 2 ∨ c = 3 ∨ c = 4 by omega) with rfl | rfl | rfl
  · exact d4 k k1 k2
  · exact d2 k k2
  · exact d3 k k2
theorem cpB_t (s : Mem) : ∃ s', F_B_copyFrom 41 5 s = some (0, s') ∧ CPY 36 0 (fun x => x = 5 ∨ x = 6) s s' := by
  obtain ⟨s', e1, h1⟩ := cpO (D := 36) (S := 0) (c := 5) (n := 600) (Or.inl ⟨rfl, rfl⟩) rfl rfl rfl (by decide) rfl rfl rfl rfl (by decide) s
  refine ⟨s', ?_, h1⟩
  rw [← e1]
  rfl
theorem cpN15_t (s : Mem) : ∃ s', F_N_copyFrom 51 15 s = some (0, s') ∧ CPY 36 0 (fun x => x = 15 ∨ x = 16) s s' := by
  obtain ⟨s', e1, h1⟩ := cpO (D := 36) (S := 0) (c := 15) (n := 80) (Or.inl ⟨rfl, rfl⟩) rfl rfl rfl (by decide) rfl rfl rfl rfl (by decide) s
  refine ⟨s', ?_, h1⟩
  rw [← e1]
  rfl
theorem cpN17_t (s : Mem) : ∃ s', F_N_copyFrom 53 17 s = some (0, s') ∧ CPY 36 0 (fun x => x = 17 ∨ x = 18) s s' := by
  obtain ⟨s', e1, h1⟩ := cpO (D := 36) (S := 0) (c := 17) (n := 80) (Or.inl ⟨rfl, rfl⟩) rfl rfl rfl (by decide) rfl rfl rfl rfl (by decide) s
  refine ⟨s', ?_, h1⟩
  rw [← e1]
  rfl
theorem cpN19_t (s : Mem) : ∃ s', F_N_copyFrom 55 19 s = some (0, s') ∧ CPY 36 0 (fun x => x = 19 ∨ x = 20) s s' := by
  obtain ⟨s', e1, h1⟩ := cpO (D := 36) (S := 0) (c := 19) (n := 80) (Or.inl ⟨rfl, rfl⟩) rfl rfl rfl (by decide) rfl rfl rfl rfl (by decide) s
  refine ⟨s', ?_, h1⟩
  rw [← e1]
  rfl
theorem cpW22_t (s : Mem) : ∃ s', F_W_copyFrom 58 22 s = some (0, s') ∧ CPY 36 0 (fun x => x = 22 ∨ x = 23) s s' := by
  obtain ⟨s', e1, h1⟩ := cpO (D := 36) (S := 0) (c := 22) (n := 8) (Or.inl ⟨rfl, rfl⟩) rfl rfl rfl (by decide) rfl rfl rfl rfl (by decide) s
  refine ⟨s', ?_, h1⟩
  rw [← e1]
  have e : F_W_copyFrom 58 22 s = (F_JM_min (nI 8) (nI 8) s).bind fun z1 => (cpy z1.2 23 0 59 0 z1.1).bind fun s2 => some (0, mw s2 58 1 (s2 22 1)) := rfl
  rw [e, C_min, ite_self]
  rfl
theorem cpW24_t (s : Mem) : ∃ s', F_W_copyFrom 60 24 s = some (0, s') ∧ CPY 36 0 (fun x => x = 24 ∨ x = 25) s s' := by
  obtain ⟨s', e1, h1⟩ := cpO (D := 36) (S := 0) (c := 24) (n := 8) (Or.inl ⟨rfl, rfl⟩) rfl rfl rfl (by decide) rfl rfl rfl rfl (by decide) s
  refine ⟨s', ?_, h1⟩
  rw [← e1]
  have e : F_W_copyFrom 60 24 s = (F_JM_min (nI 8) (nI 8) s).bind fun z1 => (cpy z1.2 25 0 61 0 z1.1).bind fun s2 => some (0, mw s2 60 1 (s2 24 1)) := rfl
  rw [e, C_min, ite_self]
  rfl
theorem cpW26_t (s : Mem) : ∃ s', F_W_copyFrom 62 26 s = some (0, s') ∧ CPY 36 0 (fun x => x = 26 ∨ x = 27) s s' := by
  obtain ⟨s', e1, h1⟩ := cpO (D := 36) (S := 0) (c := 26) (n := 7) (Or.inl ⟨rfl, rfl⟩) rfl rfl rfl (by decide) rfl rfl rfl rfl (by decide) s
  refine ⟨s', ?_, h1⟩
  rw [← e1]
  have e : F_W_copyFrom 62 26 s = (F_JM_min (nI 7) (nI 7) s).bind fun z1 => (cpy z1.2 27 0 63 0 z1.1).bind fun s2 => some (0, mw s2 62 1 (s2 26 1)) := rfl
  rw [e, C_min, ite_self]
  rfl
theorem cpW28_t (s : Mem) : ∃ s', F_W_copyFrom 64 28 s = some (0, s') ∧ CPY 36 0 (fun x => x = 28 ∨ x = 29) s s' := by
  obtain ⟨s', e1, h1⟩ := cpO (D := 36) (S := 0) (c := 28) (n := 12) (Or.inl ⟨rfl, rfl⟩) rfl rfl rfl (by decide) rfl rfl rfl rfl (by decide) s
  refine ⟨s', ?_, h1⟩
  rw [← e1]
  have e : F_W_copyFrom 64 28 s = (F_JM_min (nI 12) (nI 12) s).bind fun z1 => (cpy z1.2 29 0 65 0 z1.1).bind fun s2 => some (0, mw s2 64 1 (s2 28 1)) := rfl
  rw [e, C_min, ite_self]
  rfl
theorem cpW30_t (s : Mem) : ∃ s', F_W_copyFrom 66 30 s = some (0, s') ∧ CPY 36 0 (fun x => x = 30 ∨ x = 31) s s' := by
  obtain ⟨s', e1, h1⟩ := cpO (D := 36) (S := 0) (c := 30) (n := 7) (Or.inl ⟨rfl, rfl⟩) rfl rfl rfl (by decide) rfl rfl rfl rfl (by decide) s
  refine ⟨s', ?_, h1⟩
  rw [← e1]
  have e : F_W_copyFrom 66 30 s = (F_JM_min (nI 7) (nI 7) s).bind fun z1 => (cpy z1.2 31 0 67 0 z1.1).bind fun s2 => some (0, mw s2 66 1 (s2 30 1)) := rfl
  rw [e, C_min, ite_self]
  rfl
theorem cpW32_t (s : Mem) : ∃ s', F_W_copyFrom 68 32 s = some (0, s') ∧ CPY 36 0 (fun x => x = 32 ∨ x = 33) s s' := by
  obtain ⟨s', e1, h1⟩ := cpO (D := 36) (S := 0) (c := 32) (n := 8) (Or.inl ⟨rfl, rfl⟩) rfl rfl rfl (by decide) rfl rfl rfl rfl (by decide) s
  refine ⟨s', ?_, h1⟩
  rw [← e1]
  have e : F_W_copyFrom 68 32 s = (F_JM_min (nI 8) (nI 8) s).bind fun z1 => (cpy z1.2 33 0 69 0 z1.1).bind fun s2 => some (0, mw s2 68 1 (s2 32 1)) := rfl
  rw [e, C_min, ite_self]
  rfl
theorem cpW34_t (s : Mem) : ∃ s', F_W_copyFrom 70 34 s = some (0, s') ∧ CPY 36 0 (fun x => x = 34 ∨ x = 35) s s' := by
  obtain ⟨s', e1, h1⟩ := cpO (D := 36) (S := 0) (c := 34) (n := 10) (Or.inl ⟨rfl, rfl⟩) rfl rfl rfl (by decide) rfl rfl rfl rfl (by decide) s
  refine ⟨s', ?_, h1⟩
  rw [← e1]
  have e : F_W_copyFrom 70 34 s = (F_JM_min (nI 10) (nI 10) s).bind fun z1 => (cpy z1.2 35 0 71 0 z1.1).bind fun s2 => some (0, mw s2 70 1 (s2 34 1)) := rfl
  rw [e, C_min, ite_self]
  rfl
theorem cpL_t (s : Mem) : ∃ s', F_L_copyFrom 43 7 s = some (0, s') ∧ CPY 36 0 (fun x => 7 ≤ x ∧ x ≤ 12) s s' := by
  obtain ⟨s1, e1, h1⟩ := cpA (D := 36) (S := 0) (c := 8) (n := 400) rfl rfl rfl rfl rfl (by decide) s
  obtain ⟨s2, e2, h2⟩ := cpA (D := 36) (S := 0) (c := 9) (n := 16) rfl rfl rfl rfl rfl (by decide) s1
  obtain ⟨s3, e3, h3⟩ := cpA (D := 36) (S := 0) (c := 10) (n := 16) rfl rfl rfl rfl rfl (by decide) s2
  obtain ⟨s4, e4, h4⟩ := cpA (D := 36) (S := 0) (c := 11) (n := 16) rfl rfl rfl rfl rfl (by decide) s3
  obtain ⟨s5, e5, h5⟩ := cpA (D := 36) (S := 0) (c := 12) (n := 16) rfl rfl rfl rfl rfl (by decide) s4
  have k2 := CPY_t (R := fun x => 8 ≤ x ∧ x ≤ 9) (Or.inl ⟨rfl, rfl⟩) (fun c (hc : c = 8) => by omega) (fun c (hc : c = 9) => by omega) (fun c => by show _ ↔ c = 8 ∨ c = 9; omega) h1 h2
  have k3 := CPY_t (R := fun x => 8 ≤ x ∧ x ≤ 10) (Or.inl ⟨rfl, rfl⟩) (fun c (hc : 8 ≤ c ∧ c ≤ 9) => by omega) (fun c (hc : c = 10) => by show _ ∧ _ ∧ ¬ (8 ≤ c ∧ c ≤ 9); omega) (fun c => by show _ ↔ (8 ≤ c ∧ c ≤ 9) ∨ c = 10; omega) k2 h3
  have k4 := CPY_t (R := fun x => 8 ≤ x ∧ x ≤ 11) (Or.inl ⟨rfl, rfl⟩) (fun c (hc : 8 ≤ c ∧ c ≤ 10) => by omega) (fun c (hc : c = 11) => by show _ ∧ _ ∧ ¬ (8 ≤ c ∧ c ≤ 10); omega) (fun c => by show _ ↔ (8 ≤ c ∧ c ≤ 10) ∨ c = 11; omega) k3 h4
  have k5 := CPY_t (R := fun x => 8 ≤ x ∧ x ≤ 12) (Or.inl ⟨rfl, rfl⟩) (fun c (hc : 8 ≤ c ∧ c ≤ 11) => by omega) (fun c (hc : c = 12) => by show _ ∧ _ ∧ ¬ (8 ≤ c ∧ c ≤ 11); omega) (fun c => by show _ ↔ (8 ≤ c ∧ c ≤ 11) ∨ c = 12; omega) k4 h5
  obtain ⟨s6, hs6⟩ : ∃ s6, s6 = mw s5 43 1 (s5 7 1) := ⟨_, rfl⟩
  refine ⟨mw s6 43 6 (s6 7 6), ?_, ?_⟩
  · have e : F_L_copyFrom 43 7 s = (cpy s 8 0 44 0 (nI 400)).bind fun s1 => (cpy s1 9 0 45 0 (nI 16)).bind fun s2 => (cpy s2 10 0 46 0 (nI 16)).bind fun s3 => (cpy s3 11 0 47 0 (nI 16)).bind fun s4 => (cpy s4 12 0 48 0 (nI 16)).bind fun s5 => some (0, mw (mw s5 43 1 (s5 7 1)) 43 6 ((mw s5 43 1 (s5 7 1)) 7 6)) := rfl
    rw [e, show cpy s 8 0 44 0 (nI 400) = some s1 from e1, Option.bind_some, show cpy s1 9 0 45 0 (nI 16) = some s2 from e2, Option.bind_some, show cpy s2 10 0 46 0 (nI 16) = some s3 from e3, Option.bind_some, show cpy s3 11 0 47 0 (nI 16) = some s4 from e4, Option.bind_some, show cpy s4 12 0 48 0 (nI 16) = some s5 from e5, Option.bind_some, hs6]
  · have f := cpF (D := 36) (S := 0) (c := 7) (k := 6) (Or.inl ⟨rfl, rfl⟩) rfl rfl s6
    have f0 : CPY 36 0 (fun x => x = 7) s5 (mw s6 43 6 (s6 7 6)) := by
      refine ⟨fun c k hc k1 k2 => ?_, fun x hx => ?_⟩
      · rw [f.1 c k hc k1 k2]
        subst hc
        rw [hs6, mw_o (by decide)]
      · rw [f.2 x hx, hs6, mw_o (hx 7 rfl)]
    exact CPY_t (Or.inl ⟨rfl, rfl⟩) (fun c (hc : 8 ≤ c ∧ c ≤ 12) => by omega) (fun c (hc : c = 7) => by show _ ∧ _ ∧ ¬ (8 ≤ c ∧ c ≤ 12); omega) (fun c => by show _ ↔ (8 ≤ c ∧ c ≤ 12) ∨ c = 7; omega) k5 f0
theorem cpT_t (s : Mem) : ∃ s', F_T_copyFrom 57 21 s = some (0, s') ∧ CPY 36 0 (fun x => 21 ≤ x ∧ x ≤ 36) s s' := by
  obtain ⟨s1, e1, h1⟩ := cpW22_t s
  obtain ⟨s2, e2, h2⟩ := cpW24_t s1
  obtain ⟨s3, e3, h3⟩ := cpW26_t s2
  obtain ⟨s4, e4, h4⟩ := cpW28_t s3
  obtain ⟨s5, e5, h5⟩ := cpW30_t s4
  obtain ⟨s6, e6, h6⟩ := cpW32_t s5
  obtain ⟨s7, e7, h7⟩ := cpW34_t s6
  have k2 := CPY_t (R := fun x => 22 ≤ x ∧ x ≤ 25) (Or.inl ⟨rfl, rfl⟩) (fun c (hc : c = 22 ∨ c = 23) => by omega) (fun c (hc : c = 24 ∨ c = 25) => by show _ ∧ _ ∧ ¬ (c = 22 ∨ c = 23); omega) (fun c => by show _ ↔ (c = 22 ∨ c = 23) ∨ (c = 24 ∨ c = 25); omega) h1 h2
  have k3 := CPY_t (R := fun x => 22 ≤ x ∧ x ≤ 27) (Or.inl ⟨rfl, rfl⟩) (fun c (hc : 22 ≤ c ∧ c ≤ 25) => by omega) (fun c (hc : c = 26 ∨ c = 27) => by show _ ∧ _ ∧ ¬ (22 ≤ c ∧ c ≤ 25); omega) (fun c => by show _ ↔ (22 ≤ c ∧ c ≤ 25) ∨ (c = 26 ∨ c = 27); omega) k2 h3
  have k4 := CPY_t (R := fun x => 22 ≤ x ∧ x ≤ 29) (Or.inl ⟨rfl, rfl⟩) (fun c (hc : 22 ≤ c ∧ c ≤ 27) => by omega) (fun c (hc : c = 28 ∨ c = 29) => by show _ ∧ _ ∧ ¬ (22 ≤ c ∧ c ≤ 27); omega) (fun c => by show _ ↔ (22 ≤ c ∧ c ≤ 27) ∨ (c = 28 ∨ c = 29); omega) k3 h4
  have k5 := CPY_t (R := fun x => 22 ≤ x ∧ x ≤ 31) (Or.inl ⟨rfl, rfl⟩) (fun c (hc : 22 ≤ c ∧ c ≤ 29) => by omega) (fun c (hc : c = 30 ∨ c = 31) => by show _ ∧ _ ∧ ¬ (22 ≤ c ∧ c ≤ 29); omega) (fun c => by show _ ↔ (22 ≤ c ∧ c ≤ 29) ∨ (c = 30 ∨ c = 31); omega) k4 h5
  have k6 := CPY_t (R := fun x => 22 ≤ x ∧ x ≤ 33) (Or.inl ⟨rfl, rfl⟩) (fun c (hc : 22 ≤ c ∧ c ≤ 31) => by omega) (fun c (hc : c = 32 ∨ c = 33) => by show _ ∧ _ ∧ ¬ (22 ≤ c ∧ c ≤ 31); omega) (fun c => by show _ ↔ (22 ≤ c ∧ c ≤ 31) ∨ (c = 32 ∨ c = 33); omega) k5 h6
  have k7 := CPY_t (R := fun x => 22 ≤ x ∧ x ≤ 35) (Or.inl ⟨rfl, rfl⟩) (fun c (hc : 22 ≤ c ∧ c ≤ 33) => by omega) (fun c (hc : c = 34 ∨ c = 35) => by show _ ∧ _ ∧ ¬ (22 ≤ c ∧ c ≤ 33); omega) (fun c => by show _ ↔ (22 ≤ c ∧ c ≤ 33) ∨ (c = 34 ∨ c = 35); omega) k6 h7
  have h8 := cpF (D := 36) (S := 0) (c := 21) (k := 7) (Or.inl ⟨rfl, rfl⟩) rfl rfl s7
  have k8 := CPY_t (R := fun x => 21 ≤ x ∧ x ≤ 35) (Or.inl ⟨rfl, rfl⟩) (fun c (hc : 22 ≤ c ∧ c ≤ 35) => by omega) (fun c (hc : c = 21) => by show _ ∧ _ ∧ ¬ (22 ≤ c ∧ c ≤ 35); omega) (fun c => by show _ ↔ (22 ≤ c ∧ c ≤ 35) ∨ c = 21; omega) k7 h8
  obtain ⟨s9, e9, h9⟩ := cpA (D := 36) (S := 0) (c := 36) (n := 9) rfl rfl rfl rfl rfl (by decide) (mw s7 (21 + 36) 7 (s7 (21 + 0) 7))
  have k9 := CPY_t (R := fun x => 21 ≤ x ∧ x ≤ 36) (Or.inl ⟨rfl, rfl⟩) (fun c (hc : 21 ≤ c ∧ c ≤ 35) => by omega) (fun c (hc : c = 36) => by show _ ∧ _ ∧ ¬ (21 ≤ c ∧ c ≤ 35); omega) (fun c => by show _ ↔ (21 ≤ c ∧ c ≤ 35) ∨ c = 36; omega) k8 h9
  refine ⟨s9, ?_, k9⟩
  have e : F_T_copyFrom 57 21 s = (F_W_copyFrom 58 22 s).bind fun z1 => (F_W_copyFrom 60 24 z1.2).bind fun z2 => (F_W_copyFrom 62 26 z2.2).bind fun z3 => (F_W_copyFrom 64 28 z3.2).bind fun z4 => (F_W_copyFrom 66 30 z4.2).bind fun z5 => (F_W_copyFrom 68 32 z5.2).bind fun z6 => (F_W_copyFrom 70 34 z6.2).bind fun z7 => (cpy (mw z7.2 (21 + 36) 7 (z7.2 (21 + 0) 7)) (36 + 0) 0 (36 + 36) 0 (nI 9)).bind fun s9 => some (0, s9) := rfl
  rw [e, e1, Option.bind_some, e2, Option.bind_some, e3, Option.bind_some, e4, Option.bind_some, e5, Option.bind_some, e6, Option.bind_some, e7, Option.bind_some]
  show (cpy (mw s7 _ 7 _) _ 0 _ 0 (nI 9)).bind _ = _
  rw [e9, Option.bind_some]
theorem cpG_t (s : Mem) : ∃ s', F_G_copyFrom 37 1 s = some (0, s') ∧ CPY 36 0 (fun x => 2 ≤ x ∧ x ≤ 36 ∧ x ≠ 13 ∧ x ≠ 14) s s' := by
  obtain ⟨s1, e1, h1⟩ := cpH_t s
  obtain ⟨s2, e2, h2⟩ := cpB_t s1
  obtain ⟨s3, e3, h3⟩ := cpL_t s2
  obtain ⟨s4, e4, h4⟩ := cpN15_t s3
  obtain ⟨s5, e5, h5⟩ := cpN17_t s4
  obtain ⟨s6, e6, h6⟩ := cpN19_t s5
  obtain ⟨s7, e7, h7⟩ := cpT_t s6
  have k2 := CPY_t (R := fun x => 2 ≤ x ∧ x ≤ 6) (Or.inl ⟨rfl, rfl⟩) (fun c (hc : 2 ≤ c ∧ c ≤ 4) => by omega) (fun c (hc : c = 5 ∨ c = 6) => by show _ ∧ _ ∧ ¬ (2 ≤ c ∧ c ≤ 4); omega) (fun c => by show _ ↔ (2 ≤ c ∧ c ≤ 4) ∨ (c = 5 ∨ c = 6); omega) h1 h2
  have k3 := CPY_t (R := fun x => 2 ≤ x ∧ x ≤ 12) (Or.inl ⟨rfl, rfl⟩) (fun c (hc : 2 ≤ c ∧ c ≤ 6) => by omega) (fun c (hc : 7 ≤ c ∧ c ≤ 12) => by show _ ∧ _ ∧ ¬ (2 ≤ c ∧ c ≤ 6); omega) (fun c => by show _ ↔ (2 ≤ c ∧ c ≤ 6) ∨ (7 ≤ c ∧ c ≤ 12); omega) k2 h3
  have k4 := CPY_t (R := fun x => 2 ≤ x ∧ x ≤ 16 ∧ x ≠ 13 ∧ x ≠ 14) (Or.inl ⟨rfl, rfl⟩) (fun c (hc : 2 ≤ c ∧ c ≤ 12) => by omega) (fun c (hc : c = 15 ∨ c = 16) => by show _ ∧ _ ∧ ¬ (2 ≤ c ∧ c ≤ 12); omega) (fun c => by show _ ↔ (2 ≤ c ∧ c ≤ 12) ∨ (c = 15 ∨ c = 16); omega) k3 h4
  have k5 := CPY_t (R := fun x => 2 ≤ x ∧ x ≤ 18 ∧ x ≠ 13 ∧ x ≠ 14) (Or.inl ⟨rfl, rfl⟩) (fun c (hc : 2 ≤ c ∧ c ≤ 16 ∧ c ≠ 13 ∧ c ≠ 14) => by omega) (fun c (hc : c = 17 ∨ c = 18) => by show _ ∧ _ ∧ ¬ (2 ≤ c ∧ c ≤ 16 ∧ c ≠ 13 ∧ c ≠ 14); omega) (fun c => by show _ ↔ (2 ≤ c ∧ c ≤ 16 ∧ c ≠ 13 ∧ c ≠ 14) ∨ (c = 17 ∨ c = 18); omega) k4 h5
  have k6 := CPY_t (R := fun x => 2 ≤ x ∧ x ≤ 20 ∧ x ≠ 13 ∧ x ≠ 14) (Or.inl ⟨rfl, rfl⟩) (fun c (hc : 2 ≤ c ∧ c ≤ 18 ∧ c ≠ 13 ∧ c ≠ 14) => by omega) (fun c (hc : c = 19 ∨ c = 20) => by show _ ∧ _ ∧ ¬ (2 ≤ c ∧ c ≤ 18 ∧ c ≠ 13 ∧ c ≠ 14); omega) (fun c => by show _ ↔ (2 ≤ c ∧ c ≤ 18 ∧ c ≠ 13 ∧ c ≠ 14) ∨ (c = 19 ∨ c = 20); omega) k5 h6
  have k7 := CPY_t (R := fun x => 2 ≤ x ∧ x ≤ 36 ∧ x ≠ 13 ∧ x ≠ 14) (Or.inl ⟨rfl, rfl⟩) (fun c (hc : 2 ≤ c ∧ c ≤ 20 ∧ c ≠ 13 ∧ c ≠ 14) => by omega) (fun c (hc : 21 ≤ c ∧ c ≤ 36) => by show _ ∧ _ ∧ ¬ (2 ≤ c ∧ c ≤ 20 ∧ c ≠ 13 ∧ c ≠ 14); omega) (fun c => by show _ ↔ (2 ≤ c ∧ c ≤ 20 ∧ c ≠ 13 ∧ c ≠ 14) ∨ (21 ≤ c ∧ c ≤ 36); omega) k6 h7
  refine ⟨s7, ?_, k7⟩
  have e : F_G_copyFrom 37 1 s = (F_H_copyFrom 38 2 s).bind fun z1 => (F_B_copyFrom 41 5 z1.2).bind fun z2 => (F_L_copyFrom 43 7 z2.2).bind fun z3 => (F_N_copyFrom 51 15 z3.2).bind fun z4 => (F_N_copyFrom 53 17 z4.2).bind fun z5 => (F_N_copyFrom 55 19 z5.2).bind fun z6 => (F_T_copyFrom 57 21 z6.2).bind fun z7 => some (0, z7.2) := rfl
  rw [e, e1, Option.bind_some, e2, Option.bind_some, e3, Option.bind_some, e4, Option.bind_some, e5, Option.bind_some, e6, Option.bind_some, e7, Option.bind_some]
theorem cpH_b (s : Mem) : ∃ s', F_H_copyFrom 2 38 s = some (0, s') ∧ CPY 0 36 (fun x => 2 ≤ x ∧ x ≤ 4) s s' := by
  obtain ⟨s', e1, d1, d2, d3, d4⟩ := H_copy (s := s) (h0 := 2) (h1 := 38) (c0 := 3) (c1 := 39) (d0 := 4) (d1 := 40) rfl rfl rfl rfl rfl rfl rfl rfl rfl rfl rfl rfl rfl rfl (by decide) (by decide) (by decide) (by decide) (by decide) (by decide) (by decide)
  refine ⟨s', e1, fun c k hc k1 k2 => ?_, fun x hx => d1 x (hx 2 ⟨by decide, by decide⟩) (hx 3 ⟨by decide, by decide⟩) (hx 4 ⟨by decide, by decide⟩)⟩
  rcases (show c = 2 ∨ c = 3 ∨ c = 4 by omega) with rfl | rfl | rfl
  · exact d4 k k1 k2
  · exact d2 k k2
  · exact d3 k k2
theorem cpB_b (s : Mem) : ∃ s', F_B_copyFrom 5 41 s = some (0, s') ∧ CPY 0 36 (fun x => x = 5 ∨ x = 6) s s' := by
  obtain ⟨s', e1, h1⟩ := cpO (D := 0) (S := 36) (c := 5) (n := 600) (Or.inr ⟨rfl, rfl⟩) rfl rfl rfl (by decide) rfl rfl rfl rfl (by decide) s
  refine ⟨s', ?_, h1⟩
  rw [← e1]
  rfl
theorem cpN15_b (s : Mem) : ∃ s', F_N_copyFrom 15 51 s = some (0, s') ∧ CPY 0 36 (fun x => x = 15 ∨ x = 16) s s' := by
  obtain ⟨s', e1, h1⟩ := cpO (D := 0) (S := 36) (c := 15) (n := 80) (Or.inr ⟨rfl, rfl⟩) rfl rfl rfl (by decide) rfl rfl rfl rfl (by decide) s
  refine ⟨s', ?_, h1⟩
  rw [← e1]
  rfl
theorem cpN17_b (s : Mem) : ∃ s', F_N_copyFrom 17 53 s = some (0, s') ∧ CPY 0 36 (fun x => x = 17 ∨ x = 18) s s' := by
  obtain ⟨s', e1, h1⟩ := cpO (D := 0) (S := 36) (c := 17) (n := 80) (Or.inr ⟨rfl, rfl⟩) rfl rfl rfl (by decide) rfl rfl rfl rfl (by decide) s
  refine ⟨s', ?_, h1⟩
  rw [← e1]
  rfl
theorem cpN19_b (s : Mem) : ∃ s', F_N_copyFrom 19 55 s = some (0, s') ∧ CPY 0 36 (fun x => x = 19 ∨ x = 20) s s' := by
  obtain ⟨s', e1, h1⟩ := cpO (D := 0) (S := 36) (c := 19) (n := 80) (Or.inr ⟨rfl, rfl⟩) rfl rfl rfl (by decide) rfl rfl rfl rfl (by decide) s
  refine ⟨s', ?_, h1⟩
  rw [← e1]
  rfl
theorem cpW22_b (s : Mem) : ∃ s', F_W_copyFrom 22 58 s = some (0, s') ∧ CPY 0 36 (fun x => x = 22 ∨ x = 23) s s' := by
  obtain ⟨s', e1, h1⟩ := cpO (D := 0) (S := 36) (c := 22) (n := 8) (Or.inr ⟨rfl, rfl⟩) rfl rfl rfl (by decide) rfl rfl rfl rfl (by decide) s
  refine ⟨s', ?_, h1⟩
  rw [← e1]
  have e : F_W_copyFrom 22 58 s = (F_JM_min (nI 8) (nI 8) s).bind fun z1 => (cpy z1.2 59 0 23 0 z1.1).bind fun s2 => some (0, mw s2 22 1 (s2 58 1)) := rfl
  rw [e, C_min, ite_self]
  rfl
theorem cpW24_b (s : Mem) : ∃ s', F_W_copyFrom 24 60 s = some (0, s') ∧ CPY 0 36 (fun x => x = 24 ∨ x = 25) s s' := by
  obtain ⟨s', e1, h1⟩ := cpO (D := 0) (S := 36) (c := 24) (n := 8) (Or.inr ⟨rfl, rfl⟩) rfl rfl rfl (by decide) rfl rfl rfl rfl (by decide) s
  refine ⟨s', ?_, h1⟩
  rw [← e1]
  have e : F_W_copyFrom 24 60 s = (F_JM_min (nI 8) (nI 8) s).bind fun z1 => (cpy z1.2 61 0 25 0 z1.1).bind fun s2 => some (0, mw s2 24 1 (s2 60 1)) := rfl
  rw [e, C_min, ite_self]
  rfl
theorem cpW26_b (s : Mem) : ∃ s', F_W_copyFrom 26 62 s = some (0, s') ∧ CPY 0 36 (fun x => x = 26 ∨ x = 27) s s' := by
  obtain ⟨s', e1, h1⟩ := cpO (D := 0) (S := 36) (c := 26) (n := 7) (Or.inr ⟨rfl, rfl⟩) rfl rfl rfl (by decide) rfl rfl rfl rfl (by decide) s
  refine ⟨s', ?_, h1⟩
  rw [← e1]
  have e : F_W_copyFrom 26 62 s = (F_JM_min (nI 7) (nI 7) s).bind fun z1 => (cpy z1.2 63 0 27 0 z1.1).bind fun s2 => some (0, mw s2 26 1 (s2 62 1)) := rfl
  rw [e, C_min, ite_self]
  rfl
theorem cpW28_b (s : Mem) : ∃ s', F_W_copyFrom 28 64 s = some (0, s') ∧ CPY 0 36 (fun x => x = 28 ∨ x = 29) s s' := by
  obtain ⟨s', e1, h1⟩ := cpO (D := 0) (S := 36) (c := 28) (n := 12) (Or.inr ⟨rfl, rfl⟩) rfl rfl rfl (by decide) rfl rfl rfl rfl (by decide) s
  refine ⟨s', ?_, h1⟩
  rw [← e1]
  have e : F_W_copyFrom 28 64 s = (F_JM_min (nI 12) (nI 12) s).bind fun z1 => (cpy z1.2 65 0 29 0 z1.1).bind fun s2 => some (0, mw s2 28 1 (s2 64 1)) := rfl
  rw [e, C_min, ite_self]
  rfl
theorem cpW30_b (s : Mem) : ∃ s', F_W_copyFrom 30 66 s = some (0, s') ∧ CPY 0 36 (fun x => x = 30 ∨ x = 31) s s' := by
  obtain ⟨s', e1, h1⟩ := cpO (D := 0) (S := 36) (c := 30) (n := 7) (Or.inr ⟨rfl, rfl⟩) rfl rfl rfl (by decide) rfl rfl rfl rfl (by decide) s
  refine ⟨s', ?_, h1⟩
  rw [← e1]
  have e : F_W_copyFrom 30 66 s = (F_JM_min (nI 7) (nI 7) s).bind fun z1 => (cpy z1.2 67 0 31 0 z1.1).bind fun s2 => some (0, mw s2 30 1 (s2 66 1)) := rfl
  rw [e, C_min, ite_self]
  rfl
theorem cpW32_b (s : Mem) : ∃ s', F_W_copyFrom 32 68 s = some (0, s') ∧ CPY 0 36 (fun x => x = 32 ∨ x = 33) s s' := by
  obtain ⟨s', e1, h1⟩ := cpO (D := 0) (S := 36) (c := 32) (n := 8) (Or.inr ⟨rfl, rfl⟩) rfl rfl rfl (by decide) rfl rfl rfl rfl (by decide) s
  refine ⟨s', ?_, h1⟩
  rw [← e1]
  have e : F_W_copyFrom 32 68 s = (F_JM_min (nI 8) (nI 8) s).bind fun z1 => (cpy z1.2 69 0 33 0 z1.1).bind fun s2 => some (0, mw s2 32 1 (s2 68 1)) := rfl
  rw [e, C_min, ite_self]
  rfl
theorem cpW34_b (s : Mem) : ∃ s', F_W_copyFrom 34 70 s = some (0, s') ∧ CPY 0 36 (fun x => x = 34 ∨ x = 35) s s' := by
  obtain ⟨s', e1, h1⟩ := cpO (D := 0) (S := 36) (c := 34) (n := 10) (Or.inr ⟨rfl, rfl⟩) rfl rfl rfl (by decide) rfl rfl rfl rfl (by decide) s
  refine ⟨s', ?_, h1⟩
  rw [← e1]
  have e : F_W_copyFrom 34 70 s = (F_JM_min (nI 10) (nI 10) s).bind fun z1 => (cpy z1.2 71 0 35 0 z1.1).bind fun s2 => some (0, mw s2 34 1 (s2 70 1)) := rfl
  rw [e, C_min, ite_self]
  rfl
theorem cpL_b (s : Mem) : ∃ s', F_L_copyFrom 7 43 s = some (0, s') ∧ CPY 0 36 (fun x => 7 ≤ x ∧ x ≤ 12) s s' := by
  obtain ⟨s1, e1, h1⟩ := cpA (D := 0) (S := 36) (c := 8) (n := 400) rfl rfl rfl rfl rfl (by decide) s
  obtain ⟨s2, e2, h2⟩ := cpA (D := 0) (S := 36) (c := 9) (n := 16) rfl rfl rfl rfl rfl (by decide) s1
  obtain ⟨s3, e3, h3⟩ := cpA (D := 0) (S := 36) (c := 10) (n := 16) rfl rfl rfl rfl rfl (by decide) s2
  obtain ⟨s4, e4, h4⟩ := cpA (D := 0) (S := 36) (c := 11) (n := 16) rfl rfl rfl rfl rfl (by decide) s3
  obtain ⟨s5, e5, h5⟩ := cpA (D := 0) (S := 36) (c := 12) (n := 16) rfl rfl rfl rfl rfl (by decide) s4
  have k2 := CPY_t (R := fun x => 8 ≤ x ∧ x ≤ 9) (Or.inr ⟨rfl, rfl⟩) (fun c (hc : c = 8) => by omega) (fun c (hc : c = 9) => by omega) (fun c => by show _ ↔ c = 8 ∨ c = 9; omega) h1 h2
  have k3 := CPY_t (R := fun x => 8 ≤ x ∧ x ≤ 10) (Or.inr ⟨rfl, rfl⟩) (fun c (hc : 8 ≤ c ∧ c ≤ 9) => by omega) (fun c (hc : c = 10) => by show _ ∧ _ ∧ ¬ (8 ≤ c ∧ c ≤ 9); omega) (fun c => by show _ ↔ (8 ≤ c ∧ c ≤ 9) ∨ c = 10; omega) k2 h3
  have k4 := CPY_t (R := fun x => 8 ≤ x ∧ x ≤ 11) (Or.inr ⟨rfl, rfl⟩) (fun c (hc : 8 ≤ c ∧ c ≤ 10) => by omega) (fun c (hc : c = 11) => by show _ ∧ _ ∧ ¬ (8 ≤ c ∧ c ≤ 10); omega) (fun c => by show _ ↔ (8 ≤ c ∧ c ≤ 10) ∨ c = 11; omega) k3 h4
  have k5 := CPY_t (R := fun x => 8 ≤ x ∧ x ≤ 12) (Or.inr ⟨rfl, rfl⟩) (fun c (hc : 8 ≤ c ∧ c ≤ 11) => by omega) (fun c (hc : c = 12) => by show _ ∧ _ ∧ ¬ (8 ≤ c ∧ c ≤ 11); omega) (fun c => by show _ ↔ (8 ≤ c ∧ c ≤ 11) ∨ c = 12; omega) k4 h5
  obtain ⟨s6, hs6⟩ : ∃ s6, s6 = mw s5 7 1 (s5 43 1) := ⟨_, rfl⟩
  refine ⟨mw s6 7 6 (s6 43 6), ?_, ?_⟩
  · have e : F_L_copyFrom 7 43 s = (cpy s 44 0 8 0 (nI 400)).bind fun s1 => (cpy s1 45 0 9 0 (nI 16)).bind fun s2 => (cpy s2 46 0 10 0 (nI 16)).bind fun s3 => (cpy s3 47 0 11 0 (nI 16)).bind fun s4 => (cpy s4 48 0 12 0 (nI 16)).bind fun s5 => some (0, mw (mw s5 7 1 (s5 43 1)) 7 6 ((mw s5 7 1 (s5 43 1)) 43 6)) := rfl
    rw [e, show cpy s 44 0 8 0 (nI 400) = some s1 from e1, Option.bind_some, show cpy s1 45 0 9 0 (nI 16) = some s2 from e2, Option.bind_some, show cpy s2 46 0 10 0 (nI 16) = some s3 from e3, Option.bind_some, show cpy s3 47 0 11 0 (nI 16) = some s4 from e4, Option.bind_some, show cpy s4 48 0 12 0 (nI 16) = some s5 from e5, Option.bind_some, hs6]
  · have f := cpF (D := 0) (S := 36) (c := 7) (k := 6) (Or.inr ⟨rfl, rfl⟩) rfl rfl s6
    have f0 : CPY 0 36 (fun x => x = 7) s5 (mw s6 7 6 (s6 43 6)) := by
      refine ⟨fun c k hc k1 k2 => ?_, fun x hx => ?_⟩
      · rw [f.1 c k hc k1 k2]
        subst hc
        rw [hs6, mw_o (by decide)]
      · rw [f.2 x hx, hs6, mw_o (hx 7 rfl)]
    exact CPY_t (Or.inr ⟨rfl, rfl⟩) (fun c (hc : 8 ≤ c ∧ c ≤ 12) => by omega) (fun c (hc : c = 7) => by show _ ∧ _ ∧ ¬ (8 ≤ c ∧ c ≤ 12); omega) (fun c => by show _ ↔ (8 ≤ c ∧ c ≤ 12) ∨ c = 7; omega) k5 f0
theorem cpT_b (s : Mem) : ∃ s', F_T_copyFrom 21 57 s = some (0, s') ∧ CPY 0 36 (fun x => 21 ≤ x ∧ x ≤ 36) s s' := by
  obtain ⟨s1, e1, h1⟩ := cpW22_b s
  obtain ⟨s2, e2, h2⟩ := cpW24_b s1
  obtain ⟨s3, e3, h3⟩ := cpW26_b s2
  obtain ⟨s4, e4, h4⟩ := cpW28_b s3
  obtain ⟨s5, e5, h5⟩ := cpW30_b s4
  obtain ⟨s6, e6, h6⟩ := cpW32_b s5
  obtain ⟨s7, e7, h7⟩ := cpW34_b s6
  have k2 := CPY_t (R := fun x => 22 ≤ x ∧ x ≤ 25) (Or.inr ⟨rfl, rfl⟩) (fun c (hc : c = 22 ∨ c = 23) => by omega) (fun c (hc : c = 24 ∨ c = 25) => by show _ ∧ _ ∧ ¬ (c = 22 ∨ c = 23); omega) (fun c => by show _ ↔ (c = 22 ∨ c = 23) ∨ (c = 24 ∨ c = 25); omega) h1 h2
  have k3 := CPY_t (R := fun x => 22 ≤ x ∧ x ≤ 27) (Or.inr ⟨rfl, rfl⟩) (fun c (hc : 22 ≤ c ∧ c ≤ 25) => by omega) (fun c (hc : c = 26 ∨ c = 27) => by show _ ∧ _ ∧ ¬ (22 ≤ c ∧ c ≤ 25); omega) (fun c => by show _ ↔ (22 ≤ c ∧ c ≤ 25) ∨ (c = 26 ∨ c = 27); omega) k2 h3
  have k4 := CPY_t (R := fun x => 22 ≤ x ∧ x ≤ 29) (Or.inr ⟨rfl, rfl⟩) (fun c (hc : 22 ≤ c ∧ c ≤ 27) => by omega) (fun c (hc : c = 28 ∨ c = 29) => by show _ ∧ _ ∧ ¬ (22 ≤ c ∧ c ≤ 27); omega) (fun c => by show _ ↔ (22 ≤ c ∧ c ≤ 27) ∨ (c = 28 ∨ c = 29); omega) k3 h4
  have k5 := CPY_t (R := fun x => 22 ≤ x ∧ x ≤ 31) (Or.inr ⟨rfl, rfl⟩) (fun c (hc : 22 ≤ c ∧ c ≤ 29) => by omega) (fun c (hc : c = 30 ∨ c = 31) => by show _ ∧ _ ∧ ¬ (22 ≤ c ∧ c ≤ 29); omega) (fun c => by show _ ↔ (22 ≤ c ∧ c ≤ 29) ∨ (c = 30 ∨ c = 31); omega) k4 h5
  have k6 := CPY_t (R := fun x => 22 ≤ x ∧ x ≤ 33) (Or.inr ⟨rfl, rfl⟩) (fun c (hc : 22 ≤ c ∧ c ≤ 31) => by omega) (fun c (hc : c = 32 ∨ c = 33) => by show _ ∧ _ ∧ ¬ (22 ≤ c ∧ c ≤ 31); omega) (fun c => by show _ ↔ (22 ≤ c ∧ c ≤ 31) ∨ (c = 32 ∨ c = 33); omega) k5 h6
  have k7 := CPY_t (R := fun x => 22 ≤ x ∧ x ≤ 35) (Or.inr ⟨rfl, rfl⟩) (fun c (hc : 22 ≤ c ∧ c ≤ 33) => by omega) (fun c (hc : c = 34 ∨ c = 35) => by show _ ∧ _ ∧ ¬ (22 ≤ c ∧ c ≤ 33); omega) (fun c => by show _ ↔ (22 ≤ c ∧ c ≤ 33) ∨ (c = 34 ∨ c = 35); omega) k6 h7
  have h8 := cpF (D := 0) (S := 36) (c := 21) (k := 7) (Or.inr ⟨rfl, rfl⟩) rfl rfl s7
  have k8 := CPY_t (R := fun x => 21 ≤ x ∧ x ≤ 35) (Or.inr ⟨rfl, rfl⟩) (fun c (hc : 22 ≤ c ∧ c ≤ 35) => by omega) (fun c (hc : c = 21) => by show _ ∧ _ ∧ ¬ (22 ≤ c ∧ c ≤ 35); omega) (fun c => by show _ ↔ (22 ≤ c ∧ c ≤ 35) ∨ c = 21; omega) k7 h8
  obtain ⟨s9, e9, h9⟩ := cpA (D := 0) (S := 36) (c := 36) (n := 9) rfl rfl rfl rfl rfl (by decide) (mw s7 (21 + 0) 7 (s7 (21 + 36) 7))
  have k9 := CPY_t (R := fun x => 21 ≤ x ∧ x ≤ 36) (Or.inr ⟨rfl, rfl⟩) (fun c (hc : 21 ≤ c ∧ c ≤ 35) => by omega) (fun c (hc : c = 36) => by show _ ∧ _ ∧ ¬ (21 ≤ c ∧ c ≤ 35); omega) (fun c => by show _ ↔ (21 ≤ c ∧ c ≤ 35) ∨ c = 36; omega) k8 h9
  refine ⟨s9, ?_, k9⟩
  have e : F_T_copyFrom 21 57 s = (F_W_copyFrom 22 58 s).bind fun z1 => (F_W_copyFrom 24 60 z1.2).bind fun z2 => (F_W_copyFrom 26 62 z2.2).bind fun z3 => (F_W_copyFrom 28 64 z3.2).bind fun z4 => (F_W_copyFrom 30 66 z4.2).bind fun z5 => (F_W_copyFrom 32 68 z5.2).bind fun z6 => (F_W_copyFrom 34 70 z6.2).bind fun z7 => (cpy (mw z7.2 (21 + 0) 7 (z7.2 (21 + 36) 7)) (36 + 36) 0 (36 + 0) 0 (nI 9)).bind fun s9 => some (0, s9) := rfl
  rw [e, e1, Option.bind_some, e2, Option.bind_some, e3, Option.bind_some, e4, Option.bind_some, e5, Option.bind_some, e6, Option.bind_some, e7, Option.bind_some]
  show (cpy (mw s7 _ 7 _) _ 0 _ 0 (nI 9)).bind _ = _
  rw [e9, Option.bind_some]
theorem cpG_b (s : Mem) : ∃ s', F_G_copyFrom 1 37 s = some (0, s') ∧ CPY 0 36 (fun x => 2 ≤ x ∧ x ≤ 36 ∧ x ≠ 13 ∧ x ≠ 14) s s' := by
  obtain ⟨s1, e1, h1⟩ := cpH_b s
  obtain ⟨s2, e2, h2⟩ := cpB_b s1
  obtain ⟨s3, e3, h3⟩ := cpL_b s2
  obtain ⟨s4, e4, h4⟩ := cpN15_b s3
  obtain ⟨s5, e5, h5⟩ := cpN17_b s4
  obtain ⟨s6, e6, h6⟩ := cpN19_b s5
  obtain ⟨s7, e7, h7⟩ := cpT_b s6
  have k2 := CPY_t (R := fun x => 2 ≤ x ∧ x ≤ 6) (Or.inr ⟨rfl, rfl⟩) (fun c (hc : 2 ≤ c ∧ c ≤ 4) => by omega) (fun c (hc : c = 5 ∨ c = 6) => by show _ ∧ _ ∧ ¬ (2 ≤ c ∧ c ≤ 4); omega) (fun c => by show _ ↔ (2 ≤ c ∧ c ≤ 4) ∨ (c = 5 ∨ c = 6); omega) h1 h2
  have k3 := CPY_t (R := fun x => 2 ≤ x ∧ x ≤ 12) (Or.inr ⟨rfl, rfl⟩) (fun c (hc : 2 ≤ c ∧ c ≤ 6) => by omega) (fun c (hc : 7 ≤ c ∧ c ≤ 12) => by show _ ∧ _ ∧ ¬ (2 ≤ c ∧ c ≤ 6); omega) (fun c => by show _ ↔ (2 ≤ c ∧ c ≤ 6) ∨ (7 ≤ c ∧ c ≤ 12); omega) k2 h3
  have k4 := CPY_t (R := fun x => 2 ≤ x ∧ x ≤ 16 ∧ x ≠ 13 ∧ x ≠ 14) (Or.inr ⟨rfl, rfl⟩) (fun c (hc : 2 ≤ c ∧ c ≤ 12) => by omega) (fun c (hc : c = 15 ∨ c = 16) => by show _ ∧ _ ∧ ¬ (2 ≤ c ∧ c ≤ 12); omega) (fun c => by show _ ↔ (2 ≤ c ∧ c ≤ 12) ∨ (c = 15 ∨ c = 16); omega) k3 h4
  have k5 := CPY_t (R := fun x => 2 ≤ x ∧ x ≤ 18 ∧ x ≠ 13 ∧ x ≠ 14) (Or.inr ⟨rfl, rfl⟩) (fun c (hc : 2 ≤ c ∧ c ≤ 16 ∧ c ≠ 13 ∧ c ≠ 14) => by omega) (fun c (hc : c = 17 ∨ c = 18) => by show _ ∧ _ ∧ ¬ (2 ≤ c ∧ c ≤ 16 ∧ c ≠ 13 ∧ c ≠ 14); omega) (fun c => by show _ ↔ (2 ≤ c ∧ c ≤ 16 ∧ c ≠ 13 ∧ c ≠ 14) ∨ (c = 17 ∨ c = 18); omega) k4 h5
  have k6 := CPY_t (R := fun x => 2 ≤ x ∧ x ≤ 20 ∧ x ≠ 13 ∧ x ≠ 14) (Or.inr ⟨rfl, rfl⟩) (fun c (hc : 2 ≤ c ∧ c ≤ 18 ∧ c ≠ 13 ∧ c ≠ 14) => by omega) (fun c (hc : c = 19 ∨ c = 20) => by show _ ∧ _ ∧ ¬ (2 ≤ c ∧ c ≤ 18 ∧ c ≠ 13 ∧ c ≠ 14); omega) (fun c => by show _ ↔ (2 ≤ c ∧ c ≤ 18 ∧ c ≠ 13 ∧ c ≠ 14) ∨ (c = 19 ∨ c = 20); omega) k5 h6
  have k7 := CPY_t (R := fun x => 2 ≤ x ∧ x ≤ 36 ∧ x ≠ 13 ∧ x ≠ 14) (Or.inr ⟨rfl, rfl⟩) (fun c (hc : 2 ≤ c ∧ c ≤ 20 ∧ c ≠ 13 ∧ c ≠ 14) => by omega) (fun c (hc : 21 ≤ c ∧ c ≤ 36) => by show _ ∧ _ ∧ ¬ (2 ≤ c ∧ c ≤ 20 ∧ c ≠ 13 ∧ c ≠ 14); omega) (fun c => by show _ ↔ (2 ≤ c ∧ c ≤ 20 ∧ c ≠ 13 ∧ c ≠ 14) ∨ (21 ≤ c ∧ c ≤ 36); omega) k6 h7
  refine ⟨s7, ?_, k7⟩
  have e : F_G_copyFrom 1 37 s = (F_H_copyFrom 2 38 s).bind fun z1 => (F_B_copyFrom 5 41 z1.2).bind fun z2 => (F_L_copyFrom 7 43 z2.2).bind fun z3 => (F_N_copyFrom 15 51 z3.2).bind fun z4 => (F_N_copyFrom 17 53 z4.2).bind fun z5 => (F_N_copyFrom 19 55 z5.2).bind fun z6 => (F_T_copyFrom 21 57 z6.2).bind fun z7 => some (0, z7.2) := rfl
  rw [e, e1, Option.bind_some, e2, Option.bind_some, e3, Option.bind_some, e4, Option.bind_some, e5, Option.bind_some, e6, Option.bind_some, e7, Option.bind_some]
