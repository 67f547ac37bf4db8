/-! ===== text: the invariant behind it ===== -/
def kpA (c : Nat) : Bool := (Nat.ble 2 c && Nat.ble c 6) || (Nat.ble 21 c && Nat.ble c 36)
def kpB (c k : Nat) : Bool := bif Nat.beq c 123 then !(Nat.beq k 3 || Nat.beq k 11 || Nat.beq k 31 || Nat.beq k 32 || Nat.beq k 33 || Nat.beq k 35 || Nat.beq k 37) else !(Nat.ble 132 c && Nat.ble c 142)
def mkA (a : Mem) : Mem := fun c => bif kpA c then a c else fun _ => 0
def mkB (b : Mem) : Mem := fun c k => bif kpB c k then b c k else 0
theorem kpA_t {c : Nat} (h : kpA c = true) : (2 ≤ c ∧ c ≤ 6) ∨ (21 ≤ c ∧ c ≤ 36) := by
  unfold kpA at h
  rcases (Bool.or_eq_true _ _).mp h with h | h
  · obtain ⟨h1, h2⟩ := (Bool.and_eq_true _ _).mp h
    exact Or.inl ⟨Nat.le_of_ble_eq_true h1, Nat.le_of_ble_eq_true h2⟩
  · obtain ⟨h1, h2⟩ := (Bool.and_eq_true _ _).mp h
    exact Or.inr ⟨Nat.le_of_ble_eq_true h1, Nat.le_of_ble_eq_true h2⟩
theorem kpB_3 {k : Nat} (h : kpB 123 k = true) : k ≠ 3 ∧ k ≠ 11 ∧ k ≠ 31 ∧ k ≠ 32 ∧ k ≠ 33 ∧ k ≠ 35 ∧ k ≠ 37 := by
  refine ⟨fun e => ?_, fun e => ?_, fun e => ?_, fun e => ?_, fun e => ?_, fun e => ?_, fun e => ?_⟩ <;> subst e <;> exact Bool.noConfusion (show false = true from h)
theorem kpB_o {c k : Nat} (hc : c ≠ 123) (h : kpB c k = true) : ¬ (132 ≤ c ∧ c ≤ 142) := fun q => by
  have e : Nat.beq c 123 = false := by
    cases e : Nat.beq c 123 with
    | false => rfl
    | true => exact absurd (Nat.eq_of_beq_eq_true e) hc
  unfold kpB at h
  rw [e, Nat.ble_eq_true_of_le q.1, Nat.ble_eq_true_of_le q.2] at h
  exact Bool.noConfusion (show false = true from h)
theorem R4_c {a b a' b' : Mem} (h1 : ∀ c, (2 ≤ c ∧ c ≤ 6) ∨ (21 ≤ c ∧ c ≤ 36) → a' c = a c) (h2 : ∀ c, c ≠ 123 → ¬ (132 ≤ c ∧ c ≤ 142) → b' c = b c) (h3 : ∀ k, k ≠ 3 → k ≠ 11 → k ≠ 31 → k ≠ 32 → k ≠ 33 → k ≠ 35 → k ≠ 37 → b' 123 k = b 123 k) (h : HS a b ∧ HM a b ∧ BR a b ∧ TR a b) : HS a' b' ∧ HM a' b' ∧ BR a' b' ∧ TR a' b' := by
  have h0 : HS (mkA a) (mkB b) ∧ HM (mkA a) (mkB b) ∧ BR (mkA a) (mkB b) ∧ TR (mkA a) (mkB b) := h
  have e1 : mkA a' = mkA a := by
    funext c
    unfold mkA
    cases e : kpA c with
    | false => rfl
    | true => exact h1 c (kpA_t e)
  have e2 : mkB b' = mkB b := by
    funext c k
    unfold mkB
    cases e : kpB c k with
    | false => rfl
    | true =>
      by_cases hc : c = 123
      · subst hc
        obtain ⟨k1, k2, k3, k4, k5, k6, k7⟩ := kpB_3 e
        exact h3 k k1 k2 k3 k4 k5 k6 k7
      · exact congrFun (h2 c hc (kpB_o hc e)) k
  rw [← e1, ← e2] at h0
  exact h0
theorem LwR_k {a b a' b' : Mem} (h1 : ∀ c, 7 ≤ c → c ≤ 12 → a' c = a c) (h2 : ∀ c, 132 ≤ c → c ≤ 138 → b' c = b c) (h : LwR a b) : LwR a' b' := by
  have h0 : LwR (mk 7 12 a) (mk 132 138 b) := h
  rw [← mk_c h1, ← mk_c h2] at h0
  exact h0
theorem OrR_k {a b a' b' : Mem} (h2 : a' 2 = a 2) (h4 : a' 4 = a 4) (h15 : a' 15 = a 15) (h16 : a' 16 = a 16) (g : b' 123 33 = b 123 33) (g2 : b' 140 = b 140) (h : OrR a b) : OrR a' b' := by
  unfold OrR isS nF sz
  rw [h2, h4, h15, h16, g, g2]
  exact h
theorem ViR_k {a b a' b' : Mem} (h2 : a' 2 = a 2) (h17 : a' 17 = a 17) (h18 : a' 18 = a 18) (g : b' 123 35 = b 123 35) (g2 : b' 141 = b 141) (h : ViR a b) : ViR a' b' := by
  unfold ViR nF
  rw [h2, h17, h18, g, g2]
  exact h
theorem DoR_k {a b a' b' : Mem} (h2 : a' 2 = a 2) (h4 : a' 4 = a 4) (h19 : a' 19 = a 19) (h20 : a' 20 = a 20) (g : b' 123 37 = b 123 37) (g2 : b' 142 = b 142) (h : DoR a b) : DoR a' b' := by
  unfold DoR isS nF sz
  rw [h2, h4, h19, h20, g, g2]
  exact h
/-- what text() has done to both before it reads -/
def T0 (a a0 : Mem) : Prop := (∀ c, c ≠ 0 → a0 c = a c) ∧ (∀ k, k ≠ 8 → k ≠ 10 → k ≠ 11 → a0 0 k = a 0 k) ∧ a0 0 8 = 0 ∧ a0 0 10 = 0 ∧ a0 0 11 = -1
def T1 (b b0 : Mem) : Prop := (∀ c, c ≠ 123 → b0 c = b c) ∧ (∀ k, rel 123 k = true → k ≠ 31 → k ≠ 32 → b0 123 k = b 123 k) ∧ b0 123 31 = 0 ∧ b0 123 32 = -1
theorem prj_e {a a' : Mem} {c : Nat} (h : ∀ k, rel c k = true → a' c k = a c k) : prj a' c = prj a c := by
  funext k
  unfold prj
  cases e : rel c k with
  | false => rfl
  | true => exact h k e
theorem prj_k {a a' : Mem} {c k : Nat} (h : rel c k = true → a' c k = a c k) : prj a' c k = prj a c k := by
  unfold prj
  cases e : rel c k with
  | false => rfl
  | true => exact h e
theorem txF {a b a0 b0 a' b' A B : Mem} (h : I2 a b) (t0 : T0 a a0) (t1 : T1 b b0) (fa : frA a0 a') (fb : frB b0 b') (hA : ∀ c, c ≠ 0 → ¬ (7 ≤ c ∧ c ≤ 12) → ¬ (15 ≤ c ∧ c ≤ 20) → A c = a' c) (hA0 : ∀ k, k ≠ 6 → k ≠ 10 → k ≠ 11 → A 0 k = a' 0 k) (hB : ∀ c, c ≠ 123 → ¬ (132 ≤ c ∧ c ≤ 142) → B c = b' c) (hB3 : ∀ k, k ≠ 3 → k ≠ 11 → k ≠ 31 → k ≠ 32 → k ≠ 33 → k ≠ 35 → k ≠ 37 → B 123 k = b' 123 k) (hu : (A 0 6 = a' 0 6 ∧ B 123 3 = b' 123 3) ∨ (A 0 6 = 0 ∧ B 123 3 = 0)) (m1 : B 123 11 = 0) (m2 : B 123 31 = A 0 10) (m3 : B 123 32 = A 0 11) (hL : LwR (prj A) (prj B)) (hO : OrR (prj A) (prj B)) (hV : ViR (prj A) (prj B)) (hD : DoR (prj A) (prj B)) : I2 A B := by
  obtain ⟨⟨hHS, hHM, hBR, -, -, -, -, hTR⟩, hKR, ⟨u, x, hu6, hx6, e6, e3, e5, hrow⟩, ⟨-, -, -, n3, n4, n5⟩⟩ := h
  have pA : ∀ c, c ≠ 0 → ¬ (7 ≤ c ∧ c ≤ 12) → ¬ (15 ≤ c ∧ c ≤ 20) → prj A c = prj a c := fun c h0 h1 h2 => prj_e (fun k hk => by rw [hA c h0 h1 h2, fa.1 c k hk, t0.1 c h0])
  have pA0 : ∀ k, k ≠ 6 → k ≠ 8 → k ≠ 10 → k ≠ 11 → prj A 0 k = prj a 0 k := fun k k6 k8 k10 k11 => prj_k (fun hk => by rw [hA0 k k6 k10 k11, fa.1 0 k hk, t0.2.1 k k8 k10 k11])
  have pB : ∀ c, c ≠ 123 → ¬ (132 ≤ c ∧ c ≤ 142) → prj B c = prj b c := fun c h0 h1 => prj_e (fun k hk => by rw [hB c h0 h1, fb.1 c k hk, t1.1 c h0])
  have pB3 : ∀ k, k ≠ 3 → k ≠ 11 → k ≠ 31 → k ≠ 32 → k ≠ 33 → k ≠ 35 → k ≠ 37 → prj B 123 k = prj b 123 k := fun k k1 k2 k3 k4 k5 k6 k7 => prj_k (fun hk => by rw [hB3 k k1 k2 k3 k4 k5 k6 k7, fb.1 123 k hk, t1.2.1 k hk k3 k4])
  obtain ⟨rHS, rHM, rBR, rTR⟩ := R4_c (a := prj a) (b := prj b) (a' := prj A) (b' := prj B) (fun c hc => pA c (by omega) (by omega) (by omega)) pB pB3 ⟨hHS, hHM, hBR, hTR⟩
  refine ⟨⟨rHS, rHM, rBR, hL, hO, hV, hD, rTR⟩, KR2_c (pA0 2 (by decide) (by decide) (by decide) (by decide)) (fun c c1 c2 => pA c (by omega) (by omega) (by omega)) (pB3 70 (by decide) (by decide) (by decide) (by decide) (by decide) (by decide) (by decide)) (pB 163 (by decide) (by decide)) hKR, ?_, ⟨⟨0, by decide, ?_, m1, fun k hk => absurd hk (Nat.not_lt_zero k)⟩, m2, m3, (pB3 5 (by decide) (by decide) (by decide) (by decide) (by decide) (by decide) (by decide)).trans n3, (pB3 41 (by decide) (by decide) (by decide) (by decide) (by decide) (by decide) (by decide)).trans n4, ?_⟩⟩
  · rcases hu with ⟨hu1, hu2⟩ | ⟨hu1, hu2⟩
    · refine ⟨u, x, hu6, hx6, ?_, ?_, (pA0 5 (by decide) (by decide) (by decide) (by decide)).trans e5, fun j hj => row_deed (Nat.mod_lt _ (by decide)) (congrFun (pA 2 (by decide) (by decide) (by decide)) 2) (fun f _ => congrFun (pA 4 (by decide) (by decide) (by decide)) f) (fun k _ => congrFun (pA 3 (by decide) (by decide) (by decide)) k) (fun c c1 c2 => pA c (by omega) (by omega) (by omega)) (pB 125 (by decide) (by decide)) (hrow j hj)⟩
      · show A 0 6 = nI u
        rw [hu1, fa.1 0 6 rfl, t0.2.1 6 (by decide) (by decide) (by decide)]
        exact e6
      · show B 123 3 = nI u
        rw [hu2, fb.1 123 3 rfl, t1.2.1 3 rfl (by decide) (by decide)]
        exact e3
    · exact ⟨0, x, by decide, hx6, hu1, hu2, (pA0 5 (by decide) (by decide) (by decide) (by decide)).trans e5, fun j hj => absurd hj (Nat.not_lt_zero j)⟩
  · show A 0 8 = nI 0
    rw [hA0 8 (by decide) (by decide) (by decide), fa.1 0 8 rfl]
    exact t0.2.2.1
  · intro k hk
    rw [pB 131 (by decide) (by decide)]
    exact n5 k hk
/-- the four tables that a text may fill, where they stay -/
theorem tbl {a b a0 b0 a' b' A B : Mem} (h : I2 a b) (t0 : T0 a a0) (t1 : T1 b b0) (fa : frA a0 a') (fb : frB b0 b') (e2 : A 2 = a' 2) (e4 : A 4 = a' 4) : ((∀ c, 7 ≤ c → c ≤ 12 → A c = a' c) → (∀ c, 132 ≤ c → c ≤ 138 → B c = b' c) → LwR (prj A) (prj B)) ∧ (A 15 = a' 15 → A 16 = a' 16 → B 123 33 = b' 123 33 → B 140 = b' 140 → OrR (prj A) (prj B)) ∧ (A 17 = a' 17 → A 18 = a' 18 → B 123 35 = b' 123 35 → B 141 = b' 141 → ViR (prj A) (prj B)) ∧ (A 19 = a' 19 → A 20 = a' 20 → B 123 37 = b' 123 37 → B 142 = b' 142 → DoR (prj A) (prj B)) := by
  obtain ⟨⟨-, -, -, hLw, hOr, hVi, hDo, -⟩, -, -, -⟩ := h
  have pA : ∀ c, c ≠ 0 → A c = a' c → prj A c = prj a c := fun c h0 h1 => prj_e (fun k hk => by rw [h1, fa.1 c k hk, t0.1 c h0])
  have pB : ∀ c, c ≠ 123 → B c = b' c → prj B c = prj b c := fun c h0 h1 => prj_e (fun k hk => by rw [h1, fb.1 c k hk, t1.1 c h0])
  have pB3 : ∀ k, k ≠ 31 → k ≠ 32 → B 123 k = b' 123 k → prj B 123 k = prj b 123 k := fun k k3 k4 h1 => prj_k (fun hk => by rw [h1, fb.1 123 k hk, t1.2.1 k hk k3 k4])
  have p2 := pA 2 (by decide) e2
  have p4 := pA 4 (by decide) e4
  exact ⟨fun h1 h2 => LwR_k (fun c c1 c2 => pA c (by omega) (h1 c c1 c2)) (fun c c1 c2 => pB c (by omega) (h2 c c1 c2)) hLw, fun h1 h2 h3 h4 => OrR_k p2 p4 (pA 15 (by decide) h1) (pA 16 (by decide) h2) (pB3 33 (by decide) (by decide) h3) (pB 140 (by decide) h4) hOr, fun h1 h2 h3 h4 => ViR_k p2 (pA 17 (by decide) h1) (pA 18 (by decide) h2) (pB3 35 (by decide) (by decide) h3) (pB 141 (by decide) h4) hVi, fun h1 h2 h3 h4 => DoR_k p2 p4 (pA 19 (by decide) h1) (pA 20 (by decide) h2) (pB3 37 (by decide) (by decide) h3) (pB 142 (by decide) h4) hDo⟩
