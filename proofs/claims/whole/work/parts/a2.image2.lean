/-! ===== image: the reference, whole ===== -/
set_option maxRecDepth 100000 in
theorem kq_keepsTold_185 : ∀ k, k < 9 → sq (1106 + k) = (162, k) := by decide +kernel
theorem kl_keepsTold_185 {t : Bool} {s0 s : Mem} (h : KI t s0 1106 s) : ∃ s', F_R_keepsTold_185 gF 0 s = (some (0, s')) ∧ KI t s0 1115 s' := by
  have hk := kl1 (t := t) (s0 := s0) (F := F_R_keepsTold_185) (E := fun s' => some (0, s')) (c := 162) (N := 9) (base := 1106) (fun m x s h => by rw [F_R_keepsTold_185, if_pos (show (9 : Int32) ≤ x from h)]) (fun m x s h => by rw [F_R_keepsTold_185, if_neg (show ¬ (9 : Int32) ≤ x from h)]) rfl (by decide) (by decide) kq_keepsTold_185 (by decide) 9 0 gF s (Nat.zero_add 9) (by rw [gF_eq]; omega) h
  exact hk
set_option maxRecDepth 100000 in
theorem kq_keepsTold_168 : ∀ k, k < 10 → sq (1096 + k) = (159, k) := by decide +kernel
theorem kl_keepsTold_168 {t : Bool} {s0 s : Mem} (h : KI t s0 1096 s) : ∃ s', F_R_keepsTold_168 gF 0 s = (F_R_keepsTold_185 gF 0 s') ∧ KI t s0 1106 s' := by
  have hk := kl1 (t := t) (s0 := s0) (F := F_R_keepsTold_168) (E := fun s' => F_R_keepsTold_185 gF 0 s') (c := 159) (N := 10) (base := 1096) (fun m x s h => by rw [F_R_keepsTold_168, if_pos (show (10 : Int32) ≤ x from h)]) (fun m x s h => by rw [F_R_keepsTold_168, if_neg (show ¬ (10 : Int32) ≤ x from h)]) rfl (by decide) (by decide) kq_keepsTold_168 (by decide) 10 0 gF s (Nat.zero_add 10) (by rw [gF_eq]; omega) h
  exact hk
set_option maxRecDepth 100000 in
theorem kq_keepsTold_151 : ∀ k, k < 12 → sq (1084 + k) = (153, k) := by decide +kernel
theorem kl_keepsTold_151 {t : Bool} {s0 s : Mem} (h : KI t s0 1084 s) : ∃ s', F_R_keepsTold_151 gF 0 s = (F_R_keepsTold_168 gF 0 s') ∧ KI t s0 1096 s' := by
  have hk := kl1 (t := t) (s0 := s0) (F := F_R_keepsTold_151) (E := fun s' => F_R_keepsTold_168 gF 0 s') (c := 153) (N := 12) (base := 1084) (fun m x s h => by rw [F_R_keepsTold_151, if_pos (show (12 : Int32) ≤ x from h)]) (fun m x s h => by rw [F_R_keepsTold_151, if_neg (show ¬ (12 : Int32) ≤ x from h)]) rfl (by decide) (by decide) kq_keepsTold_151 (by decide) 12 0 gF s (Nat.zero_add 12) (by rw [gF_eq]; omega) h
  exact hk
set_option maxRecDepth 100000 in
theorem kq_keepsTold_124 : ∀ k, k < 7 → sq (1070 + 2 * k) = (148, k) ∧ sq (1070 + 2 * k + 1) = (154, k) := by decide +kernel
theorem kl_keepsTold_124 {t : Bool} {s0 s : Mem} (h : KI t s0 1070 s) : ∃ s', F_R_keepsTold_124 gF 0 s = (F_R_keepsTold_151 gF 0 s') ∧ KI t s0 1084 s' := by
  have hk := kl2 (t := t) (s0 := s0) (F := F_R_keepsTold_124) (E := fun s' => F_R_keepsTold_151 gF 0 s') (c := 148) (d := 154) (N := 7) (base := 1070) (fun m x s h => by rw [F_R_keepsTold_124, if_pos (show (7 : Int32) ≤ x from h)]) (fun m x s h => by rw [F_R_keepsTold_124, if_neg (show ¬ (7 : Int32) ≤ x from h)]) rfl (by decide) (by decide) rfl (by decide) (by decide) kq_keepsTold_124 (by decide) 7 0 gF s (Nat.zero_add 7) (by rw [gF_eq]; omega) h
  exact hk
set_option maxRecDepth 100000 in
theorem kq_keepsTold_87 : ∀ k, k < 8 → sq (1046 + 3 * k) = (146, k) ∧ sq (1046 + 3 * k + 1) = (147, k) ∧ sq (1046 + 3 * k + 2) = (157, k) := by decide +kernel
theorem kl_keepsTold_87 {t : Bool} {s0 s : Mem} (h : KI t s0 1046 s) : ∃ s', F_R_keepsTold_87 gF 0 s = (F_R_keepsTold_124 gF 0 s') ∧ KI t s0 1070 s' := by
  have hk := kl3 (t := t) (s0 := s0) (F := F_R_keepsTold_87) (E := fun s' => F_R_keepsTold_124 gF 0 s') (c := 146) (d := 147) (e := 157) (N := 8) (base := 1046) (fun m x s h => by rw [F_R_keepsTold_87, if_pos (show (8 : Int32) ≤ x from h)]) (fun m x s h => by rw [F_R_keepsTold_87, if_neg (show ¬ (8 : Int32) ≤ x from h)]) rfl (by decide) (by decide) rfl (by decide) (by decide) rfl (by decide) (by decide) kq_keepsTold_87 (by decide) 8 0 gF s (Nat.zero_add 8) (by rw [gF_eq]; omega) h
  exact hk
set_option maxRecDepth 100000 in
theorem kq_keepsTold_70 : ∀ k, k < 32 → sq (1014 + k) = (142, k) := by decide +kernel
theorem kl_keepsTold_70 {t : Bool} {s0 s : Mem} (h : KI t s0 1014 s) : ∃ s', F_R_keepsTold_70 gF 0 s = (F_R_keepsTold_87 gF 0 s') ∧ KI t s0 1046 s' := by
  have hk := kl1 (t := t) (s0 := s0) (F := F_R_keepsTold_70) (E := fun s' => F_R_keepsTold_87 gF 0 s') (c := 142) (N := 32) (base := 1014) (fun m x s h => by rw [F_R_keepsTold_70, if_pos (show (32 : Int32) ≤ x from h)]) (fun m x s h => by rw [F_R_keepsTold_70, if_neg (show ¬ (32 : Int32) ≤ x from h)]) rfl (by decide) (by decide) kq_keepsTold_70 (by decide) 32 0 gF s (Nat.zero_add 32) (by rw [gF_eq]; omega) h
  exact hk
set_option maxRecDepth 100000 in
theorem kq_keepsTold_53 : ∀ k, k < 80 → sq (934 + k) = (141, k) := by decide +kernel
theorem kl_keepsTold_53 {t : Bool} {s0 s : Mem} (h : KI t s0 934 s) : ∃ s', F_R_keepsTold_53 gF 0 s = (F_R_keepsTold_70 gF 0 s') ∧ KI t s0 1014 s' := by
  have hk := kl1 (t := t) (s0 := s0) (F := F_R_keepsTold_53) (E := fun s' => F_R_keepsTold_70 gF 0 s') (c := 141) (N := 80) (base := 934) (fun m x s h => by rw [F_R_keepsTold_53, if_pos (show (80 : Int32) ≤ x from h)]) (fun m x s h => by rw [F_R_keepsTold_53, if_neg (show ¬ (80 : Int32) ≤ x from h)]) rfl (by decide) (by decide) kq_keepsTold_53 (by decide) 80 0 gF s (Nat.zero_add 80) (by rw [gF_eq]; omega) h
  exact hk
set_option maxRecDepth 100000 in
theorem kq_keepsTold_36 : ∀ k, k < 48 → sq (886 + k) = (140, k) := by decide +kernel
theorem kl_keepsTold_36 {t : Bool} {s0 s : Mem} (h : KI t s0 886 s) : ∃ s', F_R_keepsTold_36 gF 0 s = (F_R_keepsTold_53 gF 0 s') ∧ KI t s0 934 s' := by
  have hk := kl1 (t := t) (s0 := s0) (F := F_R_keepsTold_36) (E := fun s' => F_R_keepsTold_53 gF 0 s') (c := 140) (N := 48) (base := 886) (fun m x s h => by rw [F_R_keepsTold_36, if_pos (show (48 : Int32) ≤ x from h)]) (fun m x s h => by rw [F_R_keepsTold_36, if_neg (show ¬ (48 : Int32) ≤ x from h)]) rfl (by decide) (by decide) kq_keepsTold_36 (by decide) 48 0 gF s (Nat.zero_add 48) (by rw [gF_eq]; omega) h
  exact hk
set_option maxRecDepth 100000 in
theorem kq_keepsTold_19 : ∀ k, k < 96 → sq (790 + k) = (128, k) := by decide +kernel
theorem kl_keepsTold_19 {t : Bool} {s0 s : Mem} (h : KI t s0 790 s) : ∃ s', F_R_keepsTold_19 gF 0 s = (F_R_keepsTold_36 gF 0 s') ∧ KI t s0 886 s' := by
  have hk := kl1 (t := t) (s0 := s0) (F := F_R_keepsTold_19) (E := fun s' => F_R_keepsTold_36 gF 0 s') (c := 128) (N := 96) (base := 790) (fun m x s h => by rw [F_R_keepsTold_19, if_pos (show (96 : Int32) ≤ x from h)]) (fun m x s h => by rw [F_R_keepsTold_19, if_neg (show ¬ (96 : Int32) ≤ x from h)]) rfl (by decide) (by decide) kq_keepsTold_19 (by decide) 96 0 gF s (Nat.zero_add 96) (by rw [gF_eq]; omega) h
  exact hk
set_option maxRecDepth 100000 in
theorem kq_keepsTold_2 : ∀ k, k < 6 → sq (784 + k) = (127, k) := by decide +kernel
theorem kl_keepsTold_2 {t : Bool} {s0 s : Mem} (h : KI t s0 784 s) : ∃ s', F_R_keepsTold_2 gF 0 s = (F_R_keepsTold_19 gF 0 s') ∧ KI t s0 790 s' := by
  have hk := kl1 (t := t) (s0 := s0) (F := F_R_keepsTold_2) (E := fun s' => F_R_keepsTold_19 gF 0 s') (c := 127) (N := 6) (base := 784) (fun m x s h => by rw [F_R_keepsTold_2, if_pos (show (6 : Int32) ≤ x from h)]) (fun m x s h => by rw [F_R_keepsTold_2, if_neg (show ¬ (6 : Int32) ≤ x from h)]) rfl (by decide) (by decide) kq_keepsTold_2 (by decide) 6 0 gF s (Nat.zero_add 6) (by rw [gF_eq]; omega) h
  exact hk
set_option maxRecDepth 100000 in
theorem kq_keepsLaw_59 : ∀ k, k < 400 → sq (1780 + 2 * k) = (137, k) ∧ sq (1780 + 2 * k + 1) = (138, k) := by decide +kernel
theorem kl_keepsLaw_59 {t : Bool} {s0 s : Mem} (h : KI t s0 1780 s) : ∃ s', F_R_keepsLaw_59 gF 0 s = (some (0, s')) ∧ KI t s0 2580 s' := by
  have hk := kl2 (t := t) (s0 := s0) (F := F_R_keepsLaw_59) (E := fun s' => some (0, s')) (c := 137) (d := 138) (N := 400) (base := 1780) (fun m x s h => by rw [F_R_keepsLaw_59, if_pos (show (400 : Int32) ≤ x from h)]) (fun m x s h => by rw [F_R_keepsLaw_59, if_neg (show ¬ (400 : Int32) ≤ x from h)]) rfl (by decide) (by decide) rfl (by decide) (by decide) kq_keepsLaw_59 (by decide) 400 0 gF s (Nat.zero_add 400) (by rw [gF_eq]; omega) h
  exact hk
set_option maxRecDepth 100000 in
theorem kq_keepsLaw_12 : ∀ k, k < 16 → sq (1716 + 4 * k) = (133, k) ∧ sq (1716 + 4 * k + 1) = (134, k) ∧ sq (1716 + 4 * k + 2) = (135, k) ∧ sq (1716 + 4 * k + 3) = (136, k) := by decide +kernel
theorem kl_keepsLaw_12 {t : Bool} {s0 s : Mem} (h : KI t s0 1716 s) : ∃ s', F_R_keepsLaw_12 gF 0 s = (F_R_keepsLaw_59 gF 0 s') ∧ KI t s0 1780 s' := by
  have hk := kl4 (t := t) (s0 := s0) (F := F_R_keepsLaw_12) (E := fun s' => F_R_keepsLaw_59 gF 0 s')  (N := 16) (base := 1716) (fun m x s h => by rw [F_R_keepsLaw_12, if_pos (show (16 : Int32) ≤ x from h)]) (fun m x s h => by rw [F_R_keepsLaw_12, if_neg (show ¬ (16 : Int32) ≤ x from h)]) (by decide) kq_keepsLaw_12 (by decide) 16 0 gF s (Nat.zero_add 16) (by rw [gF_eq]; omega) h
  exact hk
theorem kl_told {t : Bool} {s0 s : Mem} (h : KI t s0 784 s) : ∃ s', F_R_keepsTold s = some (0, s') ∧ KI t s0 1115 s' := by
  obtain ⟨s1, e1, h1⟩ := kl_keepsTold_2 h
  obtain ⟨s2, e2, h2⟩ := kl_keepsTold_19 h1
  obtain ⟨s3, e3, h3⟩ := kl_keepsTold_36 h2
  obtain ⟨s4, e4, h4⟩ := kl_keepsTold_53 h3
  obtain ⟨s5, e5, h5⟩ := kl_keepsTold_70 h4
  obtain ⟨s6, e6, h6⟩ := kl_keepsTold_87 h5
  obtain ⟨s7, e7, h7⟩ := kl_keepsTold_124 h6
  obtain ⟨s8, e8, h8⟩ := kl_keepsTold_151 h7
  obtain ⟨s9, e9, h9⟩ := kl_keepsTold_168 h8
  obtain ⟨sA, eA, hA⟩ := kl_keepsTold_185 h9
  refine ⟨sA, ?_, hA⟩
  rw [← eA, ← e9, ← e8, ← e7, ← e6, ← e5, ← e4, ← e3, ← e2, ← e1]
  rfl
theorem kl_law {t : Bool} {s0 s : Mem} (h : KI t s0 1715 s) : ∃ s', F_R_keepsLaw s = some (0, s') ∧ KI t s0 2580 s' := by
  obtain ⟨s1, h1, e1⟩ := ksA (c := 132) (k := 0) h (by decide) (by decide +kernel) rfl (by decide) (by decide)
  obtain ⟨s2, e2, h2⟩ := kl_keepsLaw_12 h1
  obtain ⟨s3, e3, h3⟩ := kl_keepsLaw_59 h2
  refine ⟨s3, ?_, h3⟩
  rw [← e3, ← e2]
  exact e1 _
theorem kl_many {t : Bool} {s0 s : Mem} (h : KI t s0 773 s) : ∃ s', F_R_keepsMany s = some (0, s') ∧ KI t s0 784 s' := by
  obtain ⟨v1, s1, e1, h1⟩ := ks (c := 123) (k := 6) h (by decide) (by decide +kernel)
  obtain ⟨v2, s2, e2, h2⟩ := ks (c := 123) (k := 33) h1 (by decide) (by decide +kernel)
  obtain ⟨v3, s3, e3, h3⟩ := ks (c := 123) (k := 35) h2 (by decide) (by decide +kernel)
  obtain ⟨v4, s4, e4, h4⟩ := ks (c := 123) (k := 37) h3 (by decide) (by decide +kernel)
  obtain ⟨v5, s5, e5, h5⟩ := ks (c := 123) (k := 43) h4 (by decide) (by decide +kernel)
  obtain ⟨v6, s6, e6, h6⟩ := ks (c := 123) (k := 46) h5 (by decide) (by decide +kernel)
  obtain ⟨v7, s7, e7, h7⟩ := ks (c := 123) (k := 51) h6 (by decide) (by decide +kernel)
  obtain ⟨v8, s8, e8, h8⟩ := ks (c := 123) (k := 55) h7 (by decide) (by decide +kernel)
  obtain ⟨v9, s9, e9, h9⟩ := ks (c := 123) (k := 57) h8 (by decide) (by decide +kernel)
  obtain ⟨v10, s10, e10, h10⟩ := ks (c := 123) (k := 61) h9 (by decide) (by decide +kernel)
  obtain ⟨v11, s11, e11, h11⟩ := ks (c := 123) (k := 64) h10 (by decide) (by decide +kernel)
  refine ⟨_, ?_, h11⟩
  simp only [F_R_keepsMany, e1, e2, e3, e4, e5, e6, e7, e8, e9, e10, e11, Option.bind_some]
set_option maxRecDepth 100000 in
theorem kq_image_42 : ∀ k, k < 600 → sq (1115 + k) = (129, k) := by decide +kernel
theorem kl_image_42 {t : Bool} {s0 s : Mem} {x1 : Int32} (h : KI t s0 1115 s) : ∃ s', F_R_image_42 gF x1 0 s = ((F_R_keepsLaw s').bind fun z1 => if x1 = 0 then some (1, mw z1.2 123 3 0) else some (1, z1.2)) ∧ KI t s0 1715 s' := by
  have hk := kl1 (t := t) (s0 := s0) (F := (fun m x s => F_R_image_42 m x1 x s)) (E := fun s' => (F_R_keepsLaw s').bind fun z1 => if x1 = 0 then some (1, mw z1.2 123 3 0) else some (1, z1.2)) (c := 129) (N := 600) (base := 1115) (fun m x s h => by show F_R_image_42 (m + 1) x1 x s = _; rw [F_R_image_42, if_pos (show (600 : Int32) ≤ x from h)]) (fun m x s h => by show F_R_image_42 (m + 1) x1 x s = _; rw [F_R_image_42, if_neg (show ¬ (600 : Int32) ≤ x from h)]) rfl (by decide) (by decide) kq_image_42 (by decide) 600 0 gF s (Nat.zero_add 600) (by rw [gF_eq]; omega) h
  exact hk
set_option maxRecDepth 100000 in
theorem kq_image_21 : ∀ k, k < 773 → sq (0 + k) = (124, k) := by decide +kernel
theorem kl_image_21 {t : Bool} {s0 s : Mem} {x1 : Int32} (h : KI t s0 0 s) : ∃ s', F_R_image_21 gF x1 0 s = ((F_R_keepsMany s').bind fun z1 => (F_R_keepsTold z1.2).bind fun z2 => F_R_image_42 gF x1 0 z2.2) ∧ KI t s0 773 s' := by
  have hk := kl1 (t := t) (s0 := s0) (F := (fun m x s => F_R_image_21 m x1 x s)) (E := fun s' => (F_R_keepsMany s').bind fun z1 => (F_R_keepsTold z1.2).bind fun z2 => F_R_image_42 gF x1 0 z2.2) (c := 124) (N := 773) (base := 0) (fun m x s h => by show F_R_image_21 (m + 1) x1 x s = _; rw [F_R_image_21, if_pos (show (773 : Int32) ≤ x from h)]) (fun m x s h => by show F_R_image_21 (m + 1) x1 x s = _; rw [F_R_image_21, if_neg (show ¬ (773 : Int32) ≤ x from h)]) rfl (by decide) (by decide) kq_image_21 (by decide) 773 0 gF s (Nat.zero_add 773) (by rw [gF_eq]; omega) h
  exact hk
theorem im_R {t : Bool} {s0 : Mem} {x1 : Int32} (h1 : s0 123 71 = 0) (h2 : s0 123 69 = bif t then 1 else 0) : ∃ s', F_R_image_21 gF x1 0 s0 = some (1, if x1 = 0 then mw s' 123 3 0 else s') ∧ KI t s0 2580 s' := by
  have h : KI t s0 0 s0 := ⟨h1, h2, fun _ => ⟨fun j hj => absurd hj (Nat.not_lt_zero j), fun _ _ _ _ => rfl⟩, fun _ => ⟨fun j hj => absurd hj (Nat.not_lt_zero j), fun _ _ _ _ => rfl⟩⟩
  obtain ⟨s1, e1, k1⟩ := kl_image_21 (x1 := x1) h
  obtain ⟨s2, e2, k2⟩ := kl_many k1
  obtain ⟨s3, e3, k3⟩ := kl_told k2
  obtain ⟨s4, e4, k4⟩ := kl_image_42 (x1 := x1) k3
  obtain ⟨s5, e5, k5⟩ := kl_law k4
  refine ⟨s5, ?_, k5⟩
  rw [e1, e2, Option.bind_some, e3, Option.bind_some, e4, e5, Option.bind_some]
  by_cases c : x1 = 0
  · rw [if_pos c, if_pos c]
  · rw [if_neg c, if_neg c]
