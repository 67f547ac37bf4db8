set_option maxRecDepth 1000000 in
theorem k_B_copyFrom : okC 0 I_B_copyFrom.2.2.1 I_B_copyFrom.2.1 I_B_copyFrom.2.2.2.1 [] K_B_copyFrom K_B_copyFrom = true := by decide +kernel
theorem l_B_copyFrom (d : Nat) (k : Nat) (av : List Value) (s : Mem) (y : Int32 × Mem) (h : C_B_copyFrom k av s = some y) : Ctr (d + 1) (mtab k) av s y ∧ ((mtab k).2.2.2.2.2 = 77 → ∃ b rest, av = .ref b :: rest ∧ (b = 1001 ∨ b = 1002)) := by
  exact nomatch (show (none : Option (Int32 × Mem)) = some y from h)
theorem c_B_copyFrom {av : List Value} {s : Mem} {z : Int32 × Mem} (h : A_B_copyFrom av s = some z) (d : Nat) : Ctr (d + 2) I_B_copyFrom av s z := by
  unfold A_B_copyFrom at h
  split at h
  · refine ctr_of (d := d + 1) (own := 0) (kps := []) (code := K_B_copyFrom) (Cl := C_B_copyFrom) o_B_copyFrom rfl (by decide) k_B_copyFrom (l_B_copyFrom d) (c1_of rfl) (Nat.le_of_ble_eq_true rfl) ?_
    intro RA S
    rw [e_B_copyFrom] at h
    refine S.2 _ ?_ 700 0 _ _ (ck1_of rfl) h
    intro k ls s h
    cases h
  · cases h
set_option maxRecDepth 1000000 in
theorem k_W_copyFrom : okC 8 I_W_copyFrom.2.2.1 I_W_copyFrom.2.1 I_W_copyFrom.2.2.2.1 [] K_W_copyFrom K_W_copyFrom = true := by decide +kernel
theorem l_W_copyFrom (d : Nat) (k : Nat) (av : List Value) (s : Mem) (y : Int32 × Mem) (h : C_W_copyFrom k av s = some y) : Ctr (d + 1) (mtab k) av s y ∧ ((mtab k).2.2.2.2.2 = 77 → ∃ b rest, av = .ref b :: rest ∧ (b = 1001 ∨ b = 1002)) := by
  unfold C_W_copyFrom at h
  replace h := cbr_c h
  rcases h with ⟨hb, h⟩ | ⟨_, h⟩
  · cases beq_t hb
    exact ⟨c_JM_min h (d + 0), fun q => absurd q (by decide)⟩
  cases h
theorem c_W_copyFrom {av : List Value} {s : Mem} {z : Int32 × Mem} (h : A_W_copyFrom av s = some z) (d : Nat) : Ctr (d + 2) I_W_copyFrom av s z := by
  unfold A_W_copyFrom at h
  split at h
  · refine ctr_of (d := d + 1) (own := 8) (kps := []) (code := K_W_copyFrom) (Cl := C_W_copyFrom) o_W_copyFrom rfl (by decide) k_W_copyFrom (l_W_copyFrom d) (c1_of rfl) (Nat.le_of_ble_eq_true rfl) ?_
    intro RA S
    rw [e_W_copyFrom] at h
    refine S.2 _ ?_ 700 0 _ _ (ck1_of rfl) h
    intro k ls s h
    cases h
  · cases h
set_option maxRecDepth 1000000 in
theorem k_T_copyFrom : okC 9 I_T_copyFrom.2.2.1 I_T_copyFrom.2.1 I_T_copyFrom.2.2.2.1 [] K_T_copyFrom K_T_copyFrom = true := by decide +kernel
theorem l_T_copyFrom (d : Nat) (k : Nat) (av : List Value) (s : Mem) (y : Int32 × Mem) (h : C_T_copyFrom k av s = some y) : Ctr (d + 2) (mtab k) av s y ∧ ((mtab k).2.2.2.2.2 = 77 → ∃ b rest, av = .ref b :: rest ∧ (b = 1001 ∨ b = 1002)) := by
  unfold C_T_copyFrom at h
  replace h := cbr_c h
  rcases h with ⟨hb, h⟩ | ⟨_, h⟩
  · cases beq_t hb
    exact ⟨c_W_copyFrom h (d + 0), fun q => absurd q (by decide)⟩
  cases h
theorem c_T_copyFrom {av : List Value} {s : Mem} {z : Int32 × Mem} (h : A_T_copyFrom av s = some z) (d : Nat) : Ctr (d + 3) I_T_copyFrom av s z := by
  unfold A_T_copyFrom at h
  split at h
  · refine ctr_of (d := d + 2) (own := 9) (kps := []) (code := K_T_copyFrom) (Cl := C_T_copyFrom) o_T_copyFrom rfl (by decide) k_T_copyFrom (l_T_copyFrom d) (c1_of rfl) (Nat.le_of_ble_eq_true rfl) ?_
    intro RA S
    rw [e_T_copyFrom] at h
    refine S.2 _ ?_ 700 0 _ _ (ck1_of rfl) h
    intro k ls s h
    cases h
  · cases h
set_option maxRecDepth 1000000 in
theorem k_G_copyFrom : okC 6 I_G_copyFrom.2.2.1 I_G_copyFrom.2.1 I_G_copyFrom.2.2.2.1 [] K_G_copyFrom K_G_copyFrom = true := by decide +kernel
theorem l_G_copyFrom (d : Nat) (k : Nat) (av : List Value) (s : Mem) (y : Int32 × Mem) (h : C_G_copyFrom k av s = some y) : Ctr (d + 3) (mtab k) av s y ∧ ((mtab k).2.2.2.2.2 = 77 → ∃ b rest, av = .ref b :: rest ∧ (b = 1001 ∨ b = 1002)) := by
  unfold C_G_copyFrom at h
  replace h := cbr_c h
  rcases h with ⟨hb, h⟩ | ⟨_, h⟩
  · cases beq_t hb
    exact ⟨c_H_copyFrom h (d + 1), fun q => absurd q (by decide)⟩
  replace h := cbr_c h
  rcases h with ⟨hb, h⟩ | ⟨_, h⟩
  · cases beq_t hb
    exact ⟨c_B_copyFrom h (d + 1), fun q => absurd q (by decide)⟩
  replace h := cbr_c h
  rcases h with ⟨hb, h⟩ | ⟨_, h⟩
  · cases beq_t hb
    exact ⟨c_L_copyFrom h (d + 1), fun q => absurd q (by decide)⟩
  replace h := cbr_c h
  rcases h with ⟨hb, h⟩ | ⟨_, h⟩
  · cases beq_t hb
    exact ⟨c_N_copyFrom h (d + 1), fun q => absurd q (by decide)⟩
  replace h := cbr_c h
  rcases h with ⟨hb, h⟩ | ⟨_, h⟩
  · cases beq_t hb
    exact ⟨c_T_copyFrom h (d + 0), fun q => absurd q (by decide)⟩
  cases h
theorem c_G_copyFrom {av : List Value} {s : Mem} {z : Int32 × Mem} (h : A_G_copyFrom av s = some z) (d : Nat) : Ctr (d + 4) I_G_copyFrom av s z := by
  unfold A_G_copyFrom at h
  split at h
  · refine ctr_of (d := d + 3) (own := 6) (kps := []) (code := K_G_copyFrom) (Cl := C_G_copyFrom) o_G_copyFrom rfl (by decide) k_G_copyFrom (l_G_copyFrom d) (c1_of rfl) (Nat.le_of_ble_eq_true rfl) ?_
    intro RA S
    rw [e_G_copyFrom] at h
    refine S.2 _ ?_ 700 0 _ _ (ck1_of rfl) h
    intro k ls s h
    cases h
  · cases h
set_option maxRecDepth 1000000 in
theorem k_C_image : okC 10 I_C_image.2.2.1 I_C_image.2.1 I_C_image.2.2.2.1 [] K_C_image K_C_image = true := by decide +kernel
theorem l_C_image (d : Nat) (k : Nat) (av : List Value) (s : Mem) (y : Int32 × Mem) (h : C_C_image k av s = some y) : Ctr (d + 4) (mtab k) av s y ∧ ((mtab k).2.2.2.2.2 = 77 → ∃ b rest, av = .ref b :: rest ∧ (b = 1001 ∨ b = 1002)) := by
  unfold C_C_image at h
  replace h := cbr_c h
  rcases h with ⟨hb, h⟩ | ⟨_, h⟩
  · cases beq_t hb
    exact ⟨c_G_copyFrom h (d + 0), fun q => absurd q (by decide)⟩
  replace h := cbr_c h
  rcases h with ⟨hb, h⟩ | ⟨_, h⟩
  · cases beq_t hb
    exact ⟨c_C_forgetDeeds h (d + 3), fun q => absurd q (by decide)⟩
  cases h
theorem c_C_image {av : List Value} {s : Mem} {z : Int32 × Mem} (h : A_C_image av s = some z) (d : Nat) : Ctr (d + 5) I_C_image av s z := by
  unfold A_C_image at h
  split at h
  · replace h := cbr_n h
    obtain ⟨hb, h⟩ := h
    cases beq_t hb
    refine ctr_of (d := d + 4) (own := 10) (kps := []) (code := K_C_image) (Cl := C_C_image) o_C_image rfl (by decide) k_C_image (l_C_image d) (c1_of rfl) (Nat.le_of_ble_eq_true rfl) ?_
    intro RA S
    rw [e_C_image] at h
    refine S.2 _ ?_ 700 0 _ _ (ck1_of rfl) h
    intro k ls s h
    cases h
  · cases h
set_option maxRecDepth 1000000 in
theorem k_R_isIn : okC 11 I_R_isIn.2.2.1 I_R_isIn.2.1 I_R_isIn.2.2.2.1 [] K_R_isIn K_R_isIn = true := by decide +kernel
theorem l_R_isIn (d : Nat) (k : Nat) (av : List Value) (s : Mem) (y : Int32 × Mem) (h : C_R_isIn k av s = some y) : Ctr (d + 0) (mtab k) av s y ∧ ((mtab k).2.2.2.2.2 = 77 → ∃ b rest, av = .ref b :: rest ∧ (b = 1001 ∨ b = 1002)) := by
  exact nomatch (show (none : Option (Int32 × Mem)) = some y from h)
theorem c_R_isIn {av : List Value} {s : Mem} {z : Int32 × Mem} (h : A_R_isIn av s = some z) (d : Nat) : Ctr (d + 1) I_R_isIn av s z := by
  unfold A_R_isIn at h
  split at h
  · replace h := cbr_n h
    obtain ⟨hb, h⟩ := h
    cases beq_t hb
    refine ctr_of (d := d + 0) (own := 11) (kps := []) (code := K_R_isIn) (Cl := C_R_isIn) o_R_isIn rfl (by decide) k_R_isIn (l_R_isIn d) (c1_of rfl) (Nat.le_of_ble_eq_true rfl) ?_
    intro RA S
    rw [e_R_isIn] at h
    refine S.2 _ ?_ 700 0 _ _ (ck1_of rfl) h
    intro k ls s h
    cases h
  · cases h
set_option maxRecDepth 1000000 in
theorem k_R_held : okC 11 I_R_held.2.2.1 I_R_held.2.1 I_R_held.2.2.2.1 [] K_R_held K_R_held = true := by decide +kernel
theorem l_R_held (d : Nat) (k : Nat) (av : List Value) (s : Mem) (y : Int32 × Mem) (h : C_R_held k av s = some y) : Ctr (d + 0) (mtab k) av s y ∧ ((mtab k).2.2.2.2.2 = 77 → ∃ b rest, av = .ref b :: rest ∧ (b = 1001 ∨ b = 1002)) := by
  exact nomatch (show (none : Option (Int32 × Mem)) = some y from h)
theorem c_R_held {av : List Value} {s : Mem} {z : Int32 × Mem} (h : A_R_held av s = some z) (d : Nat) : Ctr (d + 1) I_R_held av s z := by
  unfold A_R_held at h
  split at h
  · replace h := cbr_n h
    obtain ⟨hb, h⟩ := h
    cases beq_t hb
    refine ctr_of (d := d + 0) (own := 11) (kps := []) (code := K_R_held) (Cl := C_R_held) o_R_held rfl (by decide) k_R_held (l_R_held d) (c1_of rfl) (Nat.le_of_ble_eq_true rfl) ?_
    intro RA S
    rw [e_R_held] at h
    refine S.2 _ ?_ 700 0 _ _ (ck1_of rfl) h
    intro k ls s h
    cases h
  · cases h
set_option maxRecDepth 1000000 in
theorem k_R_greater : okC 11 I_R_greater.2.2.1 I_R_greater.2.1 I_R_greater.2.2.2.1 [] K_R_greater K_R_greater = true := by decide +kernel
theorem l_R_greater (d : Nat) (k : Nat) (av : List Value) (s : Mem) (y : Int32 × Mem) (h : C_R_greater k av s = some y) : Ctr (d + 0) (mtab k) av s y ∧ ((mtab k).2.2.2.2.2 = 77 → ∃ b rest, av = .ref b :: rest ∧ (b = 1001 ∨ b = 1002)) := by
  exact nomatch (show (none : Option (Int32 × Mem)) = some y from h)
theorem c_R_greater {av : List Value} {s : Mem} {z : Int32 × Mem} (h : A_R_greater av s = some z) (d : Nat) : Ctr (d + 1) I_R_greater av s z := by
  unfold A_R_greater at h
  split at h
  · replace h := cbr_n h
    obtain ⟨hb, h⟩ := h
    cases beq_t hb
    refine ctr_of (d := d + 0) (own := 11) (kps := []) (code := K_R_greater) (Cl := C_R_greater) o_R_greater rfl (by decide) k_R_greater (l_R_greater d) (c1_of rfl) (Nat.le_of_ble_eq_true rfl) ?_
    intro RA S
    rw [e_R_greater] at h
    refine S.2 _ ?_ 700 0 _ _ (ck1_of rfl) h
    intro k ls s h
    cases h
  · cases h
set_option maxRecDepth 1000000 in
theorem k_R_lesser : okC 11 I_R_lesser.2.2.1 I_R_lesser.2.1 I_R_lesser.2.2.2.1 [] K_R_lesser K_R_lesser = true := by decide +kernel
theorem l_R_lesser (d : Nat) (k : Nat) (av : List Value) (s : Mem) (y : Int32 × Mem) (h : C_R_lesser k av s = some y) : Ctr (d + 0) (mtab k) av s y ∧ ((mtab k).2.2.2.2.2 = 77 → ∃ b rest, av = .ref b :: rest ∧ (b = 1001 ∨ b = 1002)) := by
  exact nomatch (show (none : Option (Int32 × Mem)) = some y from h)
theorem c_R_lesser {av : List Value} {s : Mem} {z : Int32 × Mem} (h : A_R_lesser av s = some z) (d : Nat) : Ctr (d + 1) I_R_lesser av s z := by
  unfold A_R_lesser at h
  split at h
  · replace h := cbr_n h
    obtain ⟨hb, h⟩ := h
    cases beq_t hb
    refine ctr_of (d := d + 0) (own := 11) (kps := []) (code := K_R_lesser) (Cl := C_R_lesser) o_R_lesser rfl (by decide) k_R_lesser (l_R_lesser d) (c1_of rfl) (Nat.le_of_ble_eq_true rfl) ?_
    intro RA S
    rw [e_R_lesser] at h
    refine S.2 _ ?_ 700 0 _ _ (ck1_of rfl) h
    intro k ls s h
    cases h
  · cases h
set_option maxRecDepth 1000000 in
theorem k_R_apart : okC 11 I_R_apart.2.2.1 I_R_apart.2.1 I_R_apart.2.2.2.1 [] K_R_apart K_R_apart = true := by decide +kernel
theorem l_R_apart (d : Nat) (k : Nat) (av : List Value) (s : Mem) (y : Int32 × Mem) (h : C_R_apart k av s = some y) : Ctr (d + 0) (mtab k) av s y ∧ ((mtab k).2.2.2.2.2 = 77 → ∃ b rest, av = .ref b :: rest ∧ (b = 1001 ∨ b = 1002)) := by
  exact nomatch (show (none : Option (Int32 × Mem)) = some y from h)
theorem c_R_apart {av : List Value} {s : Mem} {z : Int32 × Mem} (h : A_R_apart av s = some z) (d : Nat) : Ctr (d + 1) I_R_apart av s z := by
  unfold A_R_apart at h
  split at h
  · replace h := cbr_n h
    obtain ⟨hb, h⟩ := h
    cases beq_t hb
    refine ctr_of (d := d + 0) (own := 11) (kps := []) (code := K_R_apart) (Cl := C_R_apart) o_R_apart rfl (by decide) k_R_apart (l_R_apart d) (c1_of rfl) (Nat.le_of_ble_eq_true rfl) ?_
    intro RA S
    rw [e_R_apart] at h
    refine S.2 _ ?_ 700 0 _ _ (ck1_of rfl) h
    intro k ls s h
    cases h
  · cases h
set_option maxRecDepth 1000000 in
theorem k_R_onesOf : okC 11 I_R_onesOf.2.2.1 I_R_onesOf.2.1 I_R_onesOf.2.2.2.1 [4] K_R_onesOf K_R_onesOf = true := by decide +kernel
theorem a_R_onesOf_4 {z : Int32 × Mem} {RA : Nat → List (Option Value) → Mem → Prop} (hm : ∀ (pc : Nat) (ls ls1 : List (Option Value)) (σ : Mem), ls1.length = I_R_onesOf.2.2.1 → (∀ i v, lk ls1 i = some v → lk ls i = some v) → RA pc ls1 σ → RA pc ls σ) {f : Int32 → Int32 → Mem → Option (Int32 × Mem)} {ls : List (Option Value)} {s : Mem} (h : A_R_onesOf_4 f ls s = some z) (hf : ∀ (x2 : Int32) (x3 : Int32) (s : Mem), f x2 x3 s = some z → RA 4 [none, none, some (.int x2), some (.int x3)] s) : RA 4 ls s := by
  unfold A_R_onesOf_4 at h
  split at h
  · rename_i a0 a1 e0 e1
    refine hm _ _ [none, none, some (.int a0), some (.int a1)] _ rfl (fun i v hv => ?_) (hf _ _ _ h)
    match i, hv with
    | 0, hv => cases hv
    | 1, hv => cases hv
    | 2, hv => exact e0.trans hv
    | 3, hv => exact e1.trans hv
    | i + 4, hv => cases hv
  · cases h
theorem n_R_onesOf_4 {z : Int32 × Mem} {RA : Nat → List (Option Value) → Mem → Prop} (S : Sm I_R_onesOf C_R_onesOf K_R_onesOf [4] z RA) : ∀ (n : Nat) (x2 : Int32) (x3 : Int32) (s : Mem), F_R_onesOf_4 n x2 x3 s = some z → RA 4 [none, none, some (.int x2), some (.int x3)] s := by
  intro n
  induction n with
  | zero => intro x2 x3 s h; exact nomatch (show (none : Option (Int32 × Mem)) = some z from h)
  | succ n ih =>
    intro x2 x3 s h
    rw [e_R_onesOf_4] at h
    refine S.2 _ ?_ 700 5 _ _ (ck1_of rfl) h
    intro k ls s h
    replace h := cbr_c h
    rcases h with ⟨hb, h⟩ | ⟨_, h⟩
    · cases beq_t hb
      exact a_R_onesOf_4 S.1 h ih
    cases h
theorem l_R_onesOf (d : Nat) (k : Nat) (av : List Value) (s : Mem) (y : Int32 × Mem) (h : C_R_onesOf k av s = some y) : Ctr (d + 0) (mtab k) av s y ∧ ((mtab k).2.2.2.2.2 = 77 → ∃ b rest, av = .ref b :: rest ∧ (b = 1001 ∨ b = 1002)) := by
  exact nomatch (show (none : Option (Int32 × Mem)) = some y from h)
theorem c_R_onesOf {av : List Value} {s : Mem} {z : Int32 × Mem} (h : A_R_onesOf av s = some z) (d : Nat) : Ctr (d + 1) I_R_onesOf av s z := by
  unfold A_R_onesOf at h
  split at h
  · replace h := cbr_n h
    obtain ⟨hb, h⟩ := h
    cases beq_t hb
    refine ctr_of (d := d + 0) (own := 11) (kps := [4]) (code := K_R_onesOf) (Cl := C_R_onesOf) o_R_onesOf rfl (by decide) k_R_onesOf (l_R_onesOf d) (c1_of rfl) (Nat.le_of_ble_eq_true rfl) ?_
    intro RA S
    rw [e_R_onesOf] at h
    refine S.2 _ ?_ 700 0 _ _ (ck1_of rfl) h
    intro k ls s h
    replace h := cbr_c h
    rcases h with ⟨hb, h⟩ | ⟨_, h⟩
    · cases beq_t hb
      exact a_R_onesOf_4 S.1 h (n_R_onesOf_4 S gF)
    cases h
  · cases h
set_option maxRecDepth 1000000 in
theorem k_R_has : okC 11 I_R_has.2.2.1 I_R_has.2.1 I_R_has.2.2.2.1 [] K_R_has K_R_has = true := by decide +kernel
theorem l_R_has (d : Nat) (k : Nat) (av : List Value) (s : Mem) (y : Int32 × Mem) (h : C_R_has k av s = some y) : Ctr (d + 0) (mtab k) av s y ∧ ((mtab k).2.2.2.2.2 = 77 → ∃ b rest, av = .ref b :: rest ∧ (b = 1001 ∨ b = 1002)) := by
  exact nomatch (show (none : Option (Int32 × Mem)) = some y from h)
theorem c_R_has {av : List Value} {s : Mem} {z : Int32 × Mem} (h : A_R_has av s = some z) (d : Nat) : Ctr (d + 1) I_R_has av s z := by
  unfold A_R_has at h
  split at h
  · replace h := cbr_n h
    obtain ⟨hb, h⟩ := h
    cases beq_t hb
    refine ctr_of (d := d + 0) (own := 11) (kps := []) (code := K_R_has) (Cl := C_R_has) o_R_has rfl (by decide) k_R_has (l_R_has d) (c1_of rfl) (Nat.le_of_ble_eq_true rfl) ?_
    intro RA S
    rw [e_R_has] at h
    refine S.2 _ ?_ 700 0 _ _ (ck1_of rfl) h
    intro k ls s h
    cases h
  · cases h
set_option maxRecDepth 1000000 in
theorem k_R_keepsAhead : okC 11 I_R_keepsAhead.2.2.1 I_R_keepsAhead.2.1 I_R_keepsAhead.2.2.2.1 [21, 57] K_R_keepsAhead K_R_keepsAhead = true := by decide +kernel
theorem a_R_keepsAhead_12 {z : Int32 × Mem} {RA : Nat → List (Option Value) → Mem → Prop} (hm : ∀ (pc : Nat) (ls ls1 : List (Option Value)) (σ : Mem), ls1.length = I_R_keepsAhead.2.2.1 → (∀ i v, lk ls1 i = some v → lk ls i = some v) → RA pc ls1 σ → RA pc ls σ) {f : Int32 → Mem → Option (Int32 × Mem)} {ls : List (Option Value)} {s : Mem} (h : A_R_keepsAhead_12 f ls s = some z) (hf : ∀ (x1 : Int32) (s : Mem), f x1 s = some z → RA 21 [some (.ref 123), some (.int x1)] s) : RA 21 ls s := by
  unfold A_R_keepsAhead_12 at h
  split at h
  · rename_i a0 a1 e0 e1
    replace h := cbr_n h
    obtain ⟨hb, h⟩ := h
    cases beq_t hb
    refine hm _ _ [some (.ref 123), some (.int a1)] _ rfl (fun i v hv => ?_) (hf _ _ h)
    match i, hv with
    | 0, hv => exact e0.trans hv
    | 1, hv => exact e1.trans hv
    | i + 2, hv => cases hv
  · cases h
theorem a_R_keepsAhead_32 {z : Int32 × Mem} {RA : Nat → List (Option Value) → Mem → Prop} (hm : ∀ (pc : Nat) (ls ls1 : List (Option Value)) (σ : Mem), ls1.length = I_R_keepsAhead.2.2.1 → (∀ i v, lk ls1 i = some v → lk ls i = some v) → RA pc ls1 σ → RA pc ls σ) {f : Int32 → Mem → Option (Int32 × Mem)} {ls : List (Option Value)} {s : Mem} (h : A_R_keepsAhead_32 f ls s = some z) (hf : ∀ (x1 : Int32) (s : Mem), f x1 s = some z → RA 57 [some (.ref 123), some (.int x1)] s) : RA 57 ls s := by
  unfold A_R_keepsAhead_32 at h
  split at h
  · rename_i a0 a1 e0 e1
    replace h := cbr_n h
    obtain ⟨hb, h⟩ := h
    cases beq_t hb
    refine hm _ _ [some (.ref 123), some (.int a1)] _ rfl (fun i v hv => ?_) (hf _ _ h)
    match i, hv with
    | 0, hv => exact e0.trans hv
    | 1, hv => exact e1.trans hv
    | i + 2, hv => cases hv
  · cases h
theorem n_R_keepsAhead_32 {z : Int32 × Mem} {RA : Nat → List (Option Value) → Mem → Prop} (S : Sm I_R_keepsAhead C_R_keepsAhead K_R_keepsAhead [21, 57] z RA) : ∀ (n : Nat) (x1 : Int32) (s : Mem), F_R_keepsAhead_32 n x1 s = some z → RA 57 [some (.ref 123), some (.int x1)] s := by
  intro n
  induction n with
  | zero => intro x1 s h; exact nomatch (show (none : Option (Int32 × Mem)) = some z from h)
  | succ n ih =>
    intro x1 s h
    rw [e_R_keepsAhead_32] at h
    refine S.2 _ ?_ 700 34 _ _ (ck1_of rfl) h
    intro k ls s h
    replace h := cbr_c h
    rcases h with ⟨hb, h⟩ | ⟨_, h⟩
    · cases beq_t hb
      exact a_R_keepsAhead_32 S.1 h ih
    cases h
theorem n_R_keepsAhead_12 {z : Int32 × Mem} {RA : Nat → List (Option Value) → Mem → Prop} (S : Sm I_R_keepsAhead C_R_keepsAhead K_R_keepsAhead [21, 57] z RA) : ∀ (n : Nat) (x1 : Int32) (s : Mem), F_R_keepsAhead_12 n x1 s = some z → RA 21 [some (.ref 123), some (.int x1)] s := by
  intro n
  induction n with
  | zero => intro x1 s h; exact nomatch (show (none : Option (Int32 × Mem)) = some z from h)
  | succ n ih =>
    intro x1 s h
    rw [e_R_keepsAhead_12] at h
    refine S.2 _ ?_ 700 13 _ _ (ck1_of rfl) h
    intro k ls s h
    replace h := cbr_c h
    rcases h with ⟨hb, h⟩ | ⟨_, h⟩
    · cases beq_t hb
      exact a_R_keepsAhead_12 S.1 h ih
    replace h := cbr_c h
    rcases h with ⟨hb, h⟩ | ⟨_, h⟩
    · cases beq_t hb
      exact a_R_keepsAhead_32 S.1 h (n_R_keepsAhead_32 S gF)
    cases h
theorem l_R_keepsAhead (d : Nat) (k : Nat) (av : List Value) (s : Mem) (y : Int32 × Mem) (h : C_R_keepsAhead k av s = some y) : Ctr (d + 0) (mtab k) av s y ∧ ((mtab k).2.2.2.2.2 = 77 → ∃ b rest, av = .ref b :: rest ∧ (b = 1001 ∨ b = 1002)) := by
  exact nomatch (show (none : Option (Int32 × Mem)) = some y from h)
theorem c_R_keepsAhead {av : List Value} {s : Mem} {z : Int32 × Mem} (h : A_R_keepsAhead av s = some z) (d : Nat) : Ctr (d + 1) I_R_keepsAhead av s z := by
  unfold A_R_keepsAhead at h
  split at h
  · replace h := cbr_n h
    obtain ⟨hb, h⟩ := h
    cases beq_t hb
    refine ctr_of (d := d + 0) (own := 11) (kps := [21, 57]) (code := K_R_keepsAhead) (Cl := C_R_keepsAhead) o_R_keepsAhead rfl (by decide) k_R_keepsAhead (l_R_keepsAhead d) (c1_of rfl) (Nat.le_of_ble_eq_true rfl) ?_
    intro RA S
    rw [e_R_keepsAhead] at h
    refine S.2 _ ?_ 700 0 _ _ (ck1_of rfl) h
    intro k ls s h
    replace h := cbr_c h
    rcases h with ⟨hb, h⟩ | ⟨_, h⟩
    · cases beq_t hb
      exact a_R_keepsAhead_12 S.1 h (n_R_keepsAhead_12 S gF)
    replace h := cbr_c h
    rcases h with ⟨hb, h⟩ | ⟨_, h⟩
    · cases beq_t hb
      exact a_R_keepsAhead_32 S.1 h (n_R_keepsAhead_32 S gF)
    cases h
  · cases h
set_option maxRecDepth 1000000 in
theorem k_R_undo : okC 11 I_R_undo.2.2.1 I_R_undo.2.1 I_R_undo.2.2.2.1 [26] K_R_undo K_R_undo = true := by decide +kernel
theorem a_R_undo_16 {z : Int32 × Mem} {RA : Nat → List (Option Value) → Mem → Prop} (hm : ∀ (pc : Nat) (ls ls1 : List (Option Value)) (σ : Mem), ls1.length = I_R_undo.2.2.1 → (∀ i v, lk ls1 i = some v → lk ls i = some v) → RA pc ls1 σ → RA pc ls σ) {f : Int32 → Mem → Option (Int32 × Mem)} {ls : List (Option Value)} {s : Mem} (h : A_R_undo_16 f ls s = some z) (hf : ∀ (x1 : Int32) (s : Mem), f x1 s = some z → RA 26 [some (.ref 123), some (.int x1)] s) : RA 26 ls s := by
  unfold A_R_undo_16 at h
  split at h
  · rename_i a0 a1 e0 e1
    replace h := cbr_n h
    obtain ⟨hb, h⟩ := h
    cases beq_t hb
    refine hm _ _ [some (.ref 123), some (.int a1)] _ rfl (fun i v hv => ?_) (hf _ _ h)
    match i, hv with
    | 0, hv => exact e0.trans hv
    | 1, hv => exact e1.trans hv
    | i + 2, hv => cases hv
  · cases h
theorem n_R_undo_16 {z : Int32 × Mem} {RA : Nat → List (Option Value) → Mem → Prop} (S : Sm I_R_undo C_R_undo K_R_undo [26] z RA) : ∀ (n : Nat) (x1 : Int32) (s : Mem), F_R_undo_16 n x1 s = some z → RA 26 [some (.ref 123), some (.int x1)] s := by
  intro n
  induction n with
  | zero => intro x1 s h; exact nomatch (show (none : Option (Int32 × Mem)) = some z from h)
  | succ n ih =>
    intro x1 s h
    rw [e_R_undo_16] at h
    refine S.2 _ ?_ 700 17 _ _ (ck1_of rfl) h
    intro k ls s h
    replace h := cbr_c h
    rcases h with ⟨hb, h⟩ | ⟨_, h⟩
    · cases beq_t hb
      exact a_R_undo_16 S.1 h ih
    cases h
theorem l_R_undo (d : Nat) (k : Nat) (av : List Value) (s : Mem) (y : Int32 × Mem) (h : C_R_undo k av s = some y) : Ctr (d + 0) (mtab k) av s y ∧ ((mtab k).2.2.2.2.2 = 77 → ∃ b rest, av = .ref b :: rest ∧ (b = 1001 ∨ b = 1002)) := by
  exact nomatch (show (none : Option (Int32 × Mem)) = some y from h)
theorem c_R_undo {av : List Value} {s : Mem} {z : Int32 × Mem} (h : A_R_undo av s = some z) (d : Nat) : Ctr (d + 1) I_R_undo av s z := by
  unfold A_R_undo at h
  split at h
  · replace h := cbr_n h
    obtain ⟨hb, h⟩ := h
    cases beq_t hb
    refine ctr_of (d := d + 0) (own := 11) (kps := [26]) (code := K_R_undo) (Cl := C_R_undo) o_R_undo rfl (by decide) k_R_undo (l_R_undo d) (c1_of rfl) (Nat.le_of_ble_eq_true rfl) ?_
    intro RA S
    rw [e_R_undo] at h
    refine S.2 _ ?_ 700 0 _ _ (ck1_of rfl) h
    intro k ls s h
    replace h := cbr_c h
    rcases h with ⟨hb, h⟩ | ⟨_, h⟩
    · cases beq_t hb
      exact a_R_undo_16 S.1 h (n_R_undo_16 S gF)
    cases h
  · cases h
set_option maxRecDepth 1000000 in
theorem k_R_thinks : okC 11 I_R_thinks.2.2.1 I_R_thinks.2.1 I_R_thinks.2.2.2.1 [2] K_R_thinks K_R_thinks = true := by decide +kernel
theorem a_R_thinks_2 {z : Int32 × Mem} {RA : Nat → List (Option Value) → Mem → Prop} (hm : ∀ (pc : Nat) (ls ls1 : List (Option Value)) (σ : Mem), ls1.length = I_R_thinks.2.2.1 → (∀ i v, lk ls1 i = some v → lk ls i = some v) → RA pc ls1 σ → RA pc ls σ) {f : Int32 → Mem → Option (Int32 × Mem)} {ls : List (Option Value)} {s : Mem} (h : A_R_thinks_2 f ls s = some z) (hf : ∀ (x1 : Int32) (s : Mem), f x1 s = some z → RA 2 [some (.ref 123), some (.int x1)] s) : RA 2 ls s := by
  unfold A_R_thinks_2 at h
  split at h
  · rename_i a0 a1 e0 e1
    replace h := cbr_n h
    obtain ⟨hb, h⟩ := h
    cases beq_t hb
    refine hm _ _ [some (.ref 123), some (.int a1)] _ rfl (fun i v hv => ?_) (hf _ _ h)
    match i, hv with
    | 0, hv => exact e0.trans hv
    | 1, hv => exact e1.trans hv
    | i + 2, hv => cases hv
  · cases h
theorem n_R_thinks_2 {z : Int32 × Mem} {RA : Nat → List (Option Value) → Mem → Prop} (S : Sm I_R_thinks C_R_thinks K_R_thinks [2] z RA) : ∀ (n : Nat) (x1 : Int32) (s : Mem), F_R_thinks_2 n x1 s = some z → RA 2 [some (.ref 123), some (.int x1)] s := by
  intro n
  induction n with
  | zero => intro x1 s h; exact nomatch (show (none : Option (Int32 × Mem)) = some z from h)
  | succ n ih =>
    intro x1 s h
    rw [e_R_thinks_2] at h
    refine S.2 _ ?_ 700 3 _ _ (ck1_of rfl) h
    intro k ls s h
    replace h := cbr_c h
    rcases h with ⟨hb, h⟩ | ⟨_, h⟩
    · cases beq_t hb
      exact a_R_thinks_2 S.1 h ih
    cases h
theorem l_R_thinks (d : Nat) (k : Nat) (av : List Value) (s : Mem) (y : Int32 × Mem) (h : C_R_thinks k av s = some y) : Ctr (d + 0) (mtab k) av s y ∧ ((mtab k).2.2.2.2.2 = 77 → ∃ b rest, av = .ref b :: rest ∧ (b = 1001 ∨ b = 1002)) := by
  exact nomatch (show (none : Option (Int32 × Mem)) = some y from h)
theorem c_R_thinks {av : List Value} {s : Mem} {z : Int32 × Mem} (h : A_R_thinks av s = some z) (d : Nat) : Ctr (d + 1) I_R_thinks av s z := by
  unfold A_R_thinks at h
  split at h
  · replace h := cbr_n h
    obtain ⟨hb, h⟩ := h
    cases beq_t hb
    refine ctr_of (d := d + 0) (own := 11) (kps := [2]) (code := K_R_thinks) (Cl := C_R_thinks) o_R_thinks rfl (by decide) k_R_thinks (l_R_thinks d) (c1_of rfl) (Nat.le_of_ble_eq_true rfl) ?_
    intro RA S
    rw [e_R_thinks] at h
    refine S.2 _ ?_ 700 0 _ _ (ck1_of rfl) h
    intro k ls s h
    replace h := cbr_c h
    rcases h with ⟨hb, h⟩ | ⟨_, h⟩
    · cases beq_t hb
      exact a_R_thinks_2 S.1 h (n_R_thinks_2 S gF)
    cases h
  · cases h
set_option maxRecDepth 1000000 in
theorem k_R_endsThought : okC 11 I_R_endsThought.2.2.1 I_R_endsThought.2.1 I_R_endsThought.2.2.2.1 [2] K_R_endsThought K_R_endsThought = true := by decide +kernel
theorem a_R_endsThought_2 {z : Int32 × Mem} {RA : Nat → List (Option Value) → Mem → Prop} (hm : ∀ (pc : Nat) (ls ls1 : List (Option Value)) (σ : Mem), ls1.length = I_R_endsThought.2.2.1 → (∀ i v, lk ls1 i = some v → lk ls i = some v) → RA pc ls1 σ → RA pc ls σ) {f : Int32 → Mem → Option (Int32 × Mem)} {ls : List (Option Value)} {s : Mem} (h : A_R_endsThought_2 f ls s = some z) (hf : ∀ (x1 : Int32) (s : Mem), f x1 s = some z → RA 2 [some (.ref 123), some (.int x1)] s) : RA 2 ls s := by
  unfold A_R_endsThought_2 at h
  split at h
  · rename_i a0 a1 e0 e1
    replace h := cbr_n h
    obtain ⟨hb, h⟩ := h
    cases beq_t hb
    refine hm _ _ [some (.ref 123), some (.int a1)] _ rfl (fun i v hv => ?_) (hf _ _ h)
    match i, hv with
    | 0, hv => exact e0.trans hv
    | 1, hv => exact e1.trans hv
    | i + 2, hv => cases hv
  · cases h
theorem n_R_endsThought_2 {z : Int32 × Mem} {RA : Nat → List (Option Value) → Mem → Prop} (S : Sm I_R_endsThought C_R_endsThought K_R_endsThought [2] z RA) : ∀ (n : Nat) (x1 : Int32) (s : Mem), F_R_endsThought_2 n x1 s = some z → RA 2 [some (.ref 123), some (.int x1)] s := by
  intro n
  induction n with
  | zero => intro x1 s h; exact nomatch (show (none : Option (Int32 × Mem)) = some z from h)
  | succ n ih =>
    intro x1 s h
    rw [e_R_endsThought_2] at h
    refine S.2 _ ?_ 700 3 _ _ (ck1_of rfl) h
    intro k ls s h
    replace h := cbr_c h
    rcases h with ⟨hb, h⟩ | ⟨_, h⟩
    · cases beq_t hb
      exact a_R_endsThought_2 S.1 h ih
    cases h
theorem l_R_endsThought (d : Nat) (k : Nat) (av : List Value) (s : Mem) (y : Int32 × Mem) (h : C_R_endsThought k av s = some y) : Ctr (d + 0) (mtab k) av s y ∧ ((mtab k).2.2.2.2.2 = 77 → ∃ b rest, av = .ref b :: rest ∧ (b = 1001 ∨ b = 1002)) := by
  exact nomatch (show (none : Option (Int32 × Mem)) = some y from h)
theorem c_R_endsThought {av : List Value} {s : Mem} {z : Int32 × Mem} (h : A_R_endsThought av s = some z) (d : Nat) : Ctr (d + 1) I_R_endsThought av s z := by
  unfold A_R_endsThought at h
  split at h
  · replace h := cbr_n h
    obtain ⟨hb, h⟩ := h
    cases beq_t hb
    refine ctr_of (d := d + 0) (own := 11) (kps := [2]) (code := K_R_endsThought) (Cl := C_R_endsThought) o_R_endsThought rfl (by decide) k_R_endsThought (l_R_endsThought d) (c1_of rfl) (Nat.le_of_ble_eq_true rfl) ?_
    intro RA S
    rw [e_R_endsThought] at h
    refine S.2 _ ?_ 700 0 _ _ (ck1_of rfl) h
    intro k ls s h
    replace h := cbr_c h
    rcases h with ⟨hb, h⟩ | ⟨_, h⟩
    · cases beq_t hb
      exact a_R_endsThought_2 S.1 h (n_R_endsThought_2 S gF)
    cases h
  · cases h
set_option maxRecDepth 1000000 in
theorem k_R_state : okC 11 I_R_state.2.2.1 I_R_state.2.1 I_R_state.2.2.2.1 [] K_R_state K_R_state = true := by decide +kernel
theorem l_R_state (d : Nat) (k : Nat) (av : List Value) (s : Mem) (y : Int32 × Mem) (h : C_R_state k av s = some y) : Ctr (d + 0) (mtab k) av s y ∧ ((mtab k).2.2.2.2.2 = 77 → ∃ b rest, av = .ref b :: rest ∧ (b = 1001 ∨ b = 1002)) := by
  exact nomatch (show (none : Option (Int32 × Mem)) = some y from h)
theorem c_R_state {av : List Value} {s : Mem} {z : Int32 × Mem} (h : A_R_state av s = some z) (d : Nat) : Ctr (d + 1) I_R_state av s z := by
  unfold A_R_state at h
  split at h
  · replace h := cbr_n h
    obtain ⟨hb, h⟩ := h
    cases beq_t hb
    refine ctr_of (d := d + 0) (own := 11) (kps := []) (code := K_R_state) (Cl := C_R_state) o_R_state rfl (by decide) k_R_state (l_R_state d) (c1_of rfl) (Nat.le_of_ble_eq_true rfl) ?_
    intro RA S
    rw [e_R_state] at h
    refine S.2 _ ?_ 700 0 _ _ (ck1_of rfl) h
    intro k ls s h
    cases h
  · cases h
set_option maxRecDepth 1000000 in
theorem k_R_draw : okC 11 I_R_draw.2.2.1 I_R_draw.2.1 I_R_draw.2.2.2.1 [] K_R_draw K_R_draw = true := by decide +kernel
theorem l_R_draw (d : Nat) (k : Nat) (av : List Value) (s : Mem) (y : Int32 × Mem) (h : C_R_draw k av s = some y) : Ctr (d + 0) (mtab k) av s y ∧ ((mtab k).2.2.2.2.2 = 77 → ∃ b rest, av = .ref b :: rest ∧ (b = 1001 ∨ b = 1002)) := by
  exact nomatch (show (none : Option (Int32 × Mem)) = some y from h)
theorem c_R_draw {av : List Value} {s : Mem} {z : Int32 × Mem} (h : A_R_draw av s = some z) (d : Nat) : Ctr (d + 1) I_R_draw av s z := by
  unfold A_R_draw at h
  split at h
  · replace h := cbr_n h
    obtain ⟨hb, h⟩ := h
    cases beq_t hb
    refine ctr_of (d := d + 0) (own := 11) (kps := []) (code := K_R_draw) (Cl := C_R_draw) o_R_draw rfl (by decide) k_R_draw (l_R_draw d) (c1_of rfl) (Nat.le_of_ble_eq_true rfl) ?_
    intro RA S
    rw [e_R_draw] at h
    refine S.2 _ ?_ 700 0 _ _ (ck1_of rfl) h
    intro k ls s h
    cases h
  · cases h
set_option maxRecDepth 1000000 in
theorem k_R_isFlight : okC 11 I_R_isFlight.2.2.1 I_R_isFlight.2.1 I_R_isFlight.2.2.2.1 [] K_R_isFlight K_R_isFlight = true := by decide +kernel
theorem l_R_isFlight (d : Nat) (k : Nat) (av : List Value) (s : Mem) (y : Int32 × Mem) (h : C_R_isFlight k av s = some y) : Ctr (d + 0) (mtab k) av s y ∧ ((mtab k).2.2.2.2.2 = 77 → ∃ b rest, av = .ref b :: rest ∧ (b = 1001 ∨ b = 1002)) := by
  exact nomatch (show (none : Option (Int32 × Mem)) = some y from h)
theorem c_R_isFlight {av : List Value} {s : Mem} {z : Int32 × Mem} (h : A_R_isFlight av s = some z) (d : Nat) : Ctr (d + 1) I_R_isFlight av s z := by
  unfold A_R_isFlight at h
  split at h
  · replace h := cbr_n h
    obtain ⟨hb, h⟩ := h
    cases beq_t hb
    refine ctr_of (d := d + 0) (own := 11) (kps := []) (code := K_R_isFlight) (Cl := C_R_isFlight) o_R_isFlight rfl (by decide) k_R_isFlight (l_R_isFlight d) (c1_of rfl) (Nat.le_of_ble_eq_true rfl) ?_
    intro RA S
    rw [e_R_isFlight] at h
    refine S.2 _ ?_ 700 0 _ _ (ck1_of rfl) h
    intro k ls s h
    cases h
  · cases h
set_option maxRecDepth 1000000 in
theorem k_R_isStep : okC 11 I_R_isStep.2.2.1 I_R_isStep.2.1 I_R_isStep.2.2.2.1 [] K_R_isStep K_R_isStep = true := by decide +kernel
theorem l_R_isStep (d : Nat) (k : Nat) (av : List Value) (s : Mem) (y : Int32 × Mem) (h : C_R_isStep k av s = some y) : Ctr (d + 1) (mtab k) av s y ∧ ((mtab k).2.2.2.2.2 = 77 → ∃ b rest, av = .ref b :: rest ∧ (b = 1001 ∨ b = 1002)) := by
  unfold C_R_isStep at h
  replace h := cbr_c h
  rcases h with ⟨hb, h⟩ | ⟨_, h⟩
  · cases beq_t hb
    exact ⟨c_R_isFlight h (d + 0), fun q => absurd q (by decide)⟩
  replace h := cbr_c h
  rcases h with ⟨hb, h⟩ | ⟨_, h⟩
  · cases beq_t hb
    exact ⟨c_R_isIn h (d + 0), fun q => absurd q (by decide)⟩
  cases h
theorem c_R_isStep {av : List Value} {s : Mem} {z : Int32 × Mem} (h : A_R_isStep av s = some z) (d : Nat) : Ctr (d + 2) I_R_isStep av s z := by
  unfold A_R_isStep at h
  split at h
  · replace h := cbr_n h
    obtain ⟨hb, h⟩ := h
    cases beq_t hb
    refine ctr_of (d := d + 1) (own := 11) (kps := []) (code := K_R_isStep) (Cl := C_R_isStep) o_R_isStep rfl (by decide) k_R_isStep (l_R_isStep d) (c1_of rfl) (Nat.le_of_ble_eq_true rfl) ?_
    intro RA S
    rw [e_R_isStep] at h
    refine S.2 _ ?_ 700 0 _ _ (ck1_of rfl) h
    intro k ls s h
    cases h
  · cases h
set_option maxRecDepth 1000000 in
theorem k_R_isGone : okC 11 I_R_isGone.2.2.1 I_R_isGone.2.1 I_R_isGone.2.2.2.1 [] K_R_isGone K_R_isGone = true := by decide +kernel
theorem l_R_isGone (d : Nat) (k : Nat) (av : List Value) (s : Mem) (y : Int32 × Mem) (h : C_R_isGone k av s = some y) : Ctr (d + 0) (mtab k) av s y ∧ ((mtab k).2.2.2.2.2 = 77 → ∃ b rest, av = .ref b :: rest ∧ (b = 1001 ∨ b = 1002)) := by
  exact nomatch (show (none : Option (Int32 × Mem)) = some y from h)
theorem c_R_isGone {av : List Value} {s : Mem} {z : Int32 × Mem} (h : A_R_isGone av s = some z) (d : Nat) : Ctr (d + 1) I_R_isGone av s z := by
  unfold A_R_isGone at h
  split at h
  · replace h := cbr_n h
    obtain ⟨hb, h⟩ := h
    cases beq_t hb
    refine ctr_of (d := d + 0) (own := 11) (kps := []) (code := K_R_isGone) (Cl := C_R_isGone) o_R_isGone rfl (by decide) k_R_isGone (l_R_isGone d) (c1_of rfl) (Nat.le_of_ble_eq_true rfl) ?_
    intro RA S
    rw [e_R_isGone] at h
    refine S.2 _ ?_ 700 0 _ _ (ck1_of rfl) h
    intro k ls s h
    cases h
  · cases h
set_option maxRecDepth 1000000 in
theorem k_R_flight : okC 11 I_R_flight.2.2.1 I_R_flight.2.1 I_R_flight.2.2.2.1 [50, 74] K_R_flight K_R_flight = true := by decide +kernel
theorem a_R_flight_29 {z : Int32 × Mem} {RA : Nat → List (Option Value) → Mem → Prop} (hm : ∀ (pc : Nat) (ls ls1 : List (Option Value)) (σ : Mem), ls1.length = I_R_flight.2.2.1 → (∀ i v, lk ls1 i = some v → lk ls i = some v) → RA pc ls1 σ → RA pc ls σ) {f : Int32 → Int32 → Mem → Option (Int32 × Mem)} {ls : List (Option Value)} {s : Mem} (h : A_R_flight_29 f ls s = some z) (hf : ∀ (x2 : Int32) (x3 : Int32) (s : Mem), f x2 x3 s = some z → RA 50 [some (.ref 123), none, some (.int x2), some (.int x3), none] s) : RA 50 ls s := by
  unfold A_R_flight_29 at h
  split at h
  · rename_i a0 a1 a2 e0 e1 e2
    replace h := cbr_n h
    obtain ⟨hb, h⟩ := h
    cases beq_t hb
    refine hm _ _ [some (.ref 123), none, some (.int a1), some (.int a2), none] _ rfl (fun i v hv => ?_) (hf _ _ _ h)
    match i, hv with
    | 0, hv => exact e0.trans hv
    | 1, hv => cases hv
    | 2, hv => exact e1.trans hv
    | 3, hv => exact e2.trans hv
    | 4, hv => cases hv
    | i + 5, hv => cases hv
  · cases h
theorem a_R_flight_44 {z : Int32 × Mem} {RA : Nat → List (Option Value) → Mem → Prop} (hm : ∀ (pc : Nat) (ls ls1 : List (Option Value)) (σ : Mem), ls1.length = I_R_flight.2.2.1 → (∀ i v, lk ls1 i = some v → lk ls i = some v) → RA pc ls1 σ → RA pc ls σ) {f : Int32 → Int32 → Int32 → Mem → Option (Int32 × Mem)} {ls : List (Option Value)} {s : Mem} (h : A_R_flight_44 f ls s = some z) (hf : ∀ (x2 : Int32) (x3 : Int32) (x4 : Int32) (s : Mem), f x2 x3 x4 s = some z → RA 74 [some (.ref 123), none, some (.int x2), some (.int x3), some (.int x4)] s) : RA 74 ls s := by
  unfold A_R_flight_44 at h
  split at h
  · rename_i a0 a1 a2 a3 e0 e1 e2 e3
    replace h := cbr_n h
    obtain ⟨hb, h⟩ := h
    cases beq_t hb
    refine hm _ _ [some (.ref 123), none, some (.int a1), some (.int a2), some (.int a3)] _ rfl (fun i v hv => ?_) (hf _ _ _ _ h)
    match i, hv with
    | 0, hv => exact e0.trans hv
    | 1, hv => cases hv
    | 2, hv => exact e1.trans hv
    | 3, hv => exact e2.trans hv
    | 4, hv => exact e3.trans hv
    | i + 5, hv => cases hv
  · cases h
theorem n_R_flight_44 {z : Int32 × Mem} {RA : Nat → List (Option Value) → Mem → Prop} (S : Sm I_R_flight C_R_flight K_R_flight [50, 74] z RA) {k29 : Int32 → Int32 → Mem → Option (Int32 × Mem)} (hk29 : ∀ (x2 : Int32) (x3 : Int32) (s : Mem), k29 x2 x3 s = some z → RA 50 [some (.ref 123), none, some (.int x2), some (.int x3), none] s) : ∀ (n : Nat) (x2 : Int32) (x3 : Int32) (x4 : Int32) (s : Mem), F_R_flight_44 k29 n x2 x3 x4 s = some z → RA 74 [some (.ref 123), none, some (.int x2), some (.int x3), some (.int x4)] s := by
  intro n
  induction n with
  | zero => intro x2 x3 x4 s h; exact nomatch (show (none : Option (Int32 × Mem)) = some z from h)
  | succ n ih =>
    intro x2 x3 x4 s h
    rw [e_R_flight_44] at h
    refine S.2 _ ?_ 700 46 _ _ (ck1_of rfl) h
    intro k ls s h
    replace h := cbr_c h
    rcases h with ⟨hb, h⟩ | ⟨_, h⟩
    · cases beq_t hb
      exact a_R_flight_29 S.1 h hk29
    replace h := cbr_c h
    rcases h with ⟨hb, h⟩ | ⟨_, h⟩
    · cases beq_t hb
      exact a_R_flight_44 S.1 h ih
    cases h
theorem n_R_flight_29 {z : Int32 × Mem} {RA : Nat → List (Option Value) → Mem → Prop} (S : Sm I_R_flight C_R_flight K_R_flight [50, 74] z RA) : ∀ (n : Nat) (x2 : Int32) (x3 : Int32) (s : Mem), F_R_flight_29 n x2 x3 s = some z → RA 50 [some (.ref 123), none, some (.int x2), some (.int x3), none] s := by
  intro n
  induction n with
  | zero => intro x2 x3 s h; exact nomatch (show (none : Option (Int32 × Mem)) = some z from h)
  | succ n ih =>
    intro x2 x3 s h
    rw [e_R_flight_29] at h
    refine S.2 _ ?_ 700 30 _ _ (ck1_of rfl) h
    intro k ls s h
    replace h := cbr_c h
    rcases h with ⟨hb, h⟩ | ⟨_, h⟩
    · cases beq_t hb
      exact a_R_flight_44 S.1 h (n_R_flight_44 S ih gF)
    cases h
theorem l_R_flight (d : Nat) (k : Nat) (av : List Value) (s : Mem) (y : Int32 × Mem) (h : C_R_flight k av s = some y) : Ctr (d + 1) (mtab k) av s y ∧ ((mtab k).2.2.2.2.2 = 77 → ∃ b rest, av = .ref b :: rest ∧ (b = 1001 ∨ b = 1002)) := by
  unfold C_R_flight at h
  replace h := cbr_c h
  rcases h with ⟨hb, h⟩ | ⟨_, h⟩
  · cases beq_t hb
    exact ⟨c_R_isIn h (d + 0), fun q => absurd q (by decide)⟩
  cases h
theorem c_R_flight {av : List Value} {s : Mem} {z : Int32 × Mem} (h : A_R_flight av s = some z) (d : Nat) : Ctr (d + 2) I_R_flight av s z := by
  unfold A_R_flight at h
  split at h
  · replace h := cbr_n h
    obtain ⟨hb, h⟩ := h
    cases beq_t hb
    refine ctr_of (d := d + 1) (own := 11) (kps := [50, 74]) (code := K_R_flight) (Cl := C_R_flight) o_R_flight rfl (by decide) k_R_flight (l_R_flight d) (c1_of rfl) (Nat.le_of_ble_eq_true rfl) ?_
    intro RA S
    rw [e_R_flight] at h
    refine S.2 _ ?_ 700 0 _ _ (ck1_of rfl) h
    intro k ls s h
    replace h := cbr_c h
    rcases h with ⟨hb, h⟩ | ⟨_, h⟩
    · cases beq_t hb
      exact a_R_flight_29 S.1 h (n_R_flight_29 S gF)
    cases h
  · cases h
set_option maxRecDepth 1000000 in
theorem k_R_set : okC 11 I_R_set.2.2.1 I_R_set.2.1 I_R_set.2.2.2.1 [] K_R_set K_R_set = true := by decide +kernel
theorem l_R_set (d : Nat) (k : Nat) (av : List Value) (s : Mem) (y : Int32 × Mem) (h : C_R_set k av s = some y) : Ctr (d + 2) (mtab k) av s y ∧ ((mtab k).2.2.2.2.2 = 77 → ∃ b rest, av = .ref b :: rest ∧ (b = 1001 ∨ b = 1002)) := by
  unfold C_R_set at h
  replace h := cbr_c h
  rcases h with ⟨hb, h⟩ | ⟨_, h⟩
  · cases beq_t hb
    exact ⟨c_R_isIn h (d + 1), fun q => absurd q (by decide)⟩
  replace h := cbr_c h
  rcases h with ⟨hb, h⟩ | ⟨_, h⟩
  · cases beq_t hb
    exact ⟨c_R_isStep h (d + 0), fun q => absurd q (by decide)⟩
  cases h
theorem c_R_set {av : List Value} {s : Mem} {z : Int32 × Mem} (h : A_R_set av s = some z) (d : Nat) : Ctr (d + 3) I_R_set av s z := by
  unfold A_R_set at h
  split at h
  · replace h := cbr_n h
    obtain ⟨hb, h⟩ := h
    cases beq_t hb
    refine ctr_of (d := d + 2) (own := 11) (kps := []) (code := K_R_set) (Cl := C_R_set) o_R_set rfl (by decide) k_R_set (l_R_set d) (c1_of rfl) (Nat.le_of_ble_eq_true rfl) ?_
    intro RA S
    rw [e_R_set] at h
    refine S.2 _ ?_ 700 0 _ _ (ck1_of rfl) h
    intro k ls s h
    cases h
  · cases h
set_option maxRecDepth 1000000 in
theorem k_R_types : okC 11 I_R_types.2.2.1 I_R_types.2.1 I_R_types.2.2.2.1 [3] K_R_types K_R_types = true := by decide +kernel
theorem a_R_types_2 {z : Int32 × Mem} {RA : Nat → List (Option Value) → Mem → Prop} (hm : ∀ (pc : Nat) (ls ls1 : List (Option Value)) (σ : Mem), ls1.length = I_R_types.2.2.1 → (∀ i v, lk ls1 i = some v → lk ls i = some v) → RA pc ls1 σ → RA pc ls σ) {f : Int32 → Int32 → Mem → Option (Int32 × Mem)} {ls : List (Option Value)} {s : Mem} (h : A_R_types_2 f ls s = some z) (hf : ∀ (x1 : Int32) (x2 : Int32) (s : Mem), f x1 x2 s = some z → RA 3 [some (.ref 123), some (.int x1), some (.int x2)] s) : RA 3 ls s := by
  unfold A_R_types_2 at h
  split at h
  · rename_i a0 a1 a2 e0 e1 e2
    replace h := cbr_n h
    obtain ⟨hb, h⟩ := h
    cases beq_t hb
    refine hm _ _ [some (.ref 123), some (.int a1), some (.int a2)] _ rfl (fun i v hv => ?_) (hf _ _ _ h)
    match i, hv with
    | 0, hv => exact e0.trans hv
    | 1, hv => exact e1.trans hv
    | 2, hv => exact e2.trans hv
    | i + 3, hv => cases hv
  · cases h
theorem n_R_types_2 {z : Int32 × Mem} {RA : Nat → List (Option Value) → Mem → Prop} (S : Sm I_R_types C_R_types K_R_types [3] z RA) : ∀ (n : Nat) (x1 : Int32) (x2 : Int32) (s : Mem), F_R_types_2 n x1 x2 s = some z → RA 3 [some (.ref 123), some (.int x1), some (.int x2)] s := by
  intro n
  induction n with
  | zero => intro x1 x2 s h; exact nomatch (show (none : Option (Int32 × Mem)) = some z from h)
  | succ n ih =>
    intro x1 x2 s h
    rw [e_R_types_2] at h
    refine S.2 _ ?_ 700 3 _ _ (ck1_of rfl) h
    intro k ls s h
    replace h := cbr_c h
    rcases h with ⟨hb, h⟩ | ⟨_, h⟩
    · cases beq_t hb
      exact a_R_types_2 S.1 h ih
    cases h
theorem l_R_types (d : Nat) (k : Nat) (av : List Value) (s : Mem) (y : Int32 × Mem) (h : C_R_types k av s = some y) : Ctr (d + 0) (mtab k) av s y ∧ ((mtab k).2.2.2.2.2 = 77 → ∃ b rest, av = .ref b :: rest ∧ (b = 1001 ∨ b = 1002)) := by
  exact nomatch (show (none : Option (Int32 × Mem)) = some y from h)
theorem c_R_types {av : List Value} {s : Mem} {z : Int32 × Mem} (h : A_R_types av s = some z) (d : Nat) : Ctr (d + 1) I_R_types av s z := by
  unfold A_R_types at h
  split at h
  · replace h := cbr_n h
    obtain ⟨hb, h⟩ := h
    cases beq_t hb
    refine ctr_of (d := d + 0) (own := 11) (kps := [3]) (code := K_R_types) (Cl := C_R_types) o_R_types rfl (by decide) k_R_types (l_R_types d) (c1_of rfl) (Nat.le_of_ble_eq_true rfl) ?_
    intro RA S
    rw [e_R_types] at h
    refine S.2 _ ?_ 700 0 _ _ (ck1_of rfl) h
    intro k ls s h
    replace h := cbr_c h
    rcases h with ⟨hb, h⟩ | ⟨_, h⟩
    · cases beq_t hb
      exact a_R_types_2 S.1 h (n_R_types_2 S gF)
    cases h
  · cases h
set_option maxRecDepth 1000000 in
theorem k_R_feed : okC 11 I_R_feed.2.2.1 I_R_feed.2.1 I_R_feed.2.2.2.1 [] K_R_feed K_R_feed = true := by decide +kernel
theorem l_R_feed (d : Nat) (k : Nat) (av : List Value) (s : Mem) (y : Int32 × Mem) (h : C_R_feed k av s = some y) : Ctr (d + 1) (mtab k) av s y ∧ ((mtab k).2.2.2.2.2 = 77 → ∃ b rest, av = .ref b :: rest ∧ (b = 1001 ∨ b = 1002)) := by
  unfold C_R_feed at h
  replace h := cbr_c h
  rcases h with ⟨hb, h⟩ | ⟨_, h⟩
  · cases beq_t hb
    exact ⟨c_R_types h (d + 0), fun q => absurd q (by decide)⟩
  cases h
theorem c_R_feed {av : List Value} {s : Mem} {z : Int32 × Mem} (h : A_R_feed av s = some z) (d : Nat) : Ctr (d + 2) I_R_feed av s z := by
  unfold A_R_feed at h
  split at h
  · replace h := cbr_n h
    obtain ⟨hb, h⟩ := h
    cases beq_t hb
    refine ctr_of (d := d + 1) (own := 11) (kps := []) (code := K_R_feed) (Cl := C_R_feed) o_R_feed rfl (by decide) k_R_feed (l_R_feed d) (c1_of rfl) (Nat.le_of_ble_eq_true rfl) ?_
    intro RA S
    rw [e_R_feed] at h
    refine S.2 _ ?_ 700 0 _ _ (ck1_of rfl) h
    intro k ls s h
    cases h
  · cases h
set_option maxRecDepth 1000000 in
theorem k_R_end : okC 11 I_R_end.2.2.1 I_R_end.2.1 I_R_end.2.2.2.1 [] K_R_end K_R_end = true := by decide +kernel
theorem l_R_end (d : Nat) (k : Nat) (av : List Value) (s : Mem) (y : Int32 × Mem) (h : C_R_end k av s = some y) : Ctr (d + 1) (mtab k) av s y ∧ ((mtab k).2.2.2.2.2 = 77 → ∃ b rest, av = .ref b :: rest ∧ (b = 1001 ∨ b = 1002)) := by
  unfold C_R_end at h
  replace h := cbr_c h
  rcases h with ⟨hb, h⟩ | ⟨_, h⟩
  · cases beq_t hb
    exact ⟨c_R_isIn h (d + 0), fun q => absurd q (by decide)⟩
  cases h
theorem c_R_end {av : List Value} {s : Mem} {z : Int32 × Mem} (h : A_R_end av s = some z) (d : Nat) : Ctr (d + 2) I_R_end av s z := by
  unfold A_R_end at h
  split at h
  · replace h := cbr_n h
    obtain ⟨hb, h⟩ := h
    cases beq_t hb
    refine ctr_of (d := d + 1) (own := 11) (kps := []) (code := K_R_end) (Cl := C_R_end) o_R_end rfl (by decide) k_R_end (l_R_end d) (c1_of rfl) (Nat.le_of_ble_eq_true rfl) ?_
    intro RA S
    rw [e_R_end] at h
    refine S.2 _ ?_ 700 0 _ _ (ck1_of rfl) h
    intro k ls s h
    cases h
  · cases h
set_option maxRecDepth 1000000 in
theorem k_R_raw : okC 11 I_R_raw.2.2.1 I_R_raw.2.1 I_R_raw.2.2.2.1 [] K_R_raw K_R_raw = true := by decide +kernel
theorem l_R_raw (d : Nat) (k : Nat) (av : List Value) (s : Mem) (y : Int32 × Mem) (h : C_R_raw k av s = some y) : Ctr (d + 0) (mtab k) av s y ∧ ((mtab k).2.2.2.2.2 = 77 → ∃ b rest, av = .ref b :: rest ∧ (b = 1001 ∨ b = 1002)) := by
  exact nomatch (show (none : Option (Int32 × Mem)) = some y from h)
theorem c_R_raw {av : List Value} {s : Mem} {z : Int32 × Mem} (h : A_R_raw av s = some z) (d : Nat) : Ctr (d + 1) I_R_raw av s z := by
  unfold A_R_raw at h
  split at h
  · replace h := cbr_n h
    obtain ⟨hb, h⟩ := h
    cases beq_t hb
    refine ctr_of (d := d + 0) (own := 11) (kps := []) (code := K_R_raw) (Cl := C_R_raw) o_R_raw rfl (by decide) k_R_raw (l_R_raw d) (c1_of rfl) (Nat.le_of_ble_eq_true rfl) ?_
    intro RA S
    rw [e_R_raw] at h
    refine S.2 _ ?_ 700 0 _ _ (ck1_of rfl) h
    intro k ls s h
    cases h
  · cases h
set_option maxRecDepth 1000000 in
theorem k_R_isLetter : okC 11 I_R_isLetter.2.2.1 I_R_isLetter.2.1 I_R_isLetter.2.2.2.1 [] K_R_isLetter K_R_isLetter = true := by decide +kernel
theorem l_R_isLetter (d : Nat) (k : Nat) (av : List Value) (s : Mem) (y : Int32 × Mem) (h : C_R_isLetter k av s = some y) : Ctr (d + 1) (mtab k) av s y ∧ ((mtab k).2.2.2.2.2 = 77 → ∃ b rest, av = .ref b :: rest ∧ (b = 1001 ∨ b = 1002)) := by
  unfold C_R_isLetter at h
  replace h := cbr_c h
  rcases h with ⟨hb, h⟩ | ⟨_, h⟩
  · cases beq_t hb
    exact ⟨c_R_isIn h (d + 0), fun q => absurd q (by decide)⟩
  cases h
theorem c_R_isLetter {av : List Value} {s : Mem} {z : Int32 × Mem} (h : A_R_isLetter av s = some z) (d : Nat) : Ctr (d + 2) I_R_isLetter av s z := by
  unfold A_R_isLetter at h
  split at h
  · replace h := cbr_n h
    obtain ⟨hb, h⟩ := h
    cases beq_t hb
    refine ctr_of (d := d + 1) (own := 11) (kps := []) (code := K_R_isLetter) (Cl := C_R_isLetter) o_R_isLetter rfl (by decide) k_R_isLetter (l_R_isLetter d) (c1_of rfl) (Nat.le_of_ble_eq_true rfl) ?_
    intro RA S
    rw [e_R_isLetter] at h
    refine S.2 _ ?_ 700 0 _ _ (ck1_of rfl) h
    intro k ls s h
    cases h
  · cases h
set_option maxRecDepth 1000000 in
theorem k_R_isDigit : okC 11 I_R_isDigit.2.2.1 I_R_isDigit.2.1 I_R_isDigit.2.2.2.1 [] K_R_isDigit K_R_isDigit = true := by decide +kernel
theorem l_R_isDigit (d : Nat) (k : Nat) (av : List Value) (s : Mem) (y : Int32 × Mem) (h : C_R_isDigit k av s = some y) : Ctr (d + 1) (mtab k) av s y ∧ ((mtab k).2.2.2.2.2 = 77 → ∃ b rest, av = .ref b :: rest ∧ (b = 1001 ∨ b = 1002)) := by
  unfold C_R_isDigit at h
  replace h := cbr_c h
  rcases h with ⟨hb, h⟩ | ⟨_, h⟩
  · cases beq_t hb
    exact ⟨c_R_isIn h (d + 0), fun q => absurd q (by decide)⟩
  cases h
theorem c_R_isDigit {av : List Value} {s : Mem} {z : Int32 × Mem} (h : A_R_isDigit av s = some z) (d : Nat) : Ctr (d + 2) I_R_isDigit av s z := by
  unfold A_R_isDigit at h
  split at h
  · replace h := cbr_n h
    obtain ⟨hb, h⟩ := h
    cases beq_t hb
    refine ctr_of (d := d + 1) (own := 11) (kps := []) (code := K_R_isDigit) (Cl := C_R_isDigit) o_R_isDigit rfl (by decide) k_R_isDigit (l_R_isDigit d) (c1_of rfl) (Nat.le_of_ble_eq_true rfl) ?_
    intro RA S
    rw [e_R_isDigit] at h
    refine S.2 _ ?_ 700 0 _ _ (ck1_of rfl) h
    intro k ls s h
    cases h
  · cases h
set_option maxRecDepth 1000000 in
theorem k_R_isMarkSign : okC 11 I_R_isMarkSign.2.2.1 I_R_isMarkSign.2.1 I_R_isMarkSign.2.2.2.1 [] K_R_isMarkSign K_R_isMarkSign = true := by decide +kernel
theorem l_R_isMarkSign (d : Nat) (k : Nat) (av : List Value) (s : Mem) (y : Int32 × Mem) (h : C_R_isMarkSign k av s = some y) : Ctr (d + 0) (mtab k) av s y ∧ ((mtab k).2.2.2.2.2 = 77 → ∃ b rest, av = .ref b :: rest ∧ (b = 1001 ∨ b = 1002)) := by
  exact nomatch (show (none : Option (Int32 × Mem)) = some y from h)
theorem c_R_isMarkSign {av : List Value} {s : Mem} {z : Int32 × Mem} (h : A_R_isMarkSign av s = some z) (d : Nat) : Ctr (d + 1) I_R_isMarkSign av s z := by
  unfold A_R_isMarkSign at h
  split at h
  · replace h := cbr_n h
    obtain ⟨hb, h⟩ := h
    cases beq_t hb
    refine ctr_of (d := d + 0) (own := 11) (kps := []) (code := K_R_isMarkSign) (Cl := C_R_isMarkSign) o_R_isMarkSign rfl (by decide) k_R_isMarkSign (l_R_isMarkSign d) (c1_of rfl) (Nat.le_of_ble_eq_true rfl) ?_
    intro RA S
    rw [e_R_isMarkSign] at h
    refine S.2 _ ?_ 700 0 _ _ (ck1_of rfl) h
    intro k ls s h
    cases h
  · cases h
set_option maxRecDepth 1000000 in
theorem k_R_wordAt : okC 11 I_R_wordAt.2.2.1 I_R_wordAt.2.1 I_R_wordAt.2.2.2.1 [5, 20, 94] K_R_wordAt K_R_wordAt = true := by decide +kernel
theorem a_R_wordAt_4 {z : Int32 × Mem} {RA : Nat → List (Option Value) → Mem → Prop} (hm : ∀ (pc : Nat) (ls ls1 : List (Option Value)) (σ : Mem), ls1.length = I_R_wordAt.2.2.1 → (∀ i v, lk ls1 i = some v → lk ls i = some v) → RA pc ls1 σ → RA pc ls σ) {f : Int32 → Int32 → Int32 → Int32 → Mem → Option (Int32 × Mem)} {ls : List (Option Value)} {s : Mem} (h : A_R_wordAt_4 f ls s = some z) (hf : ∀ (x1 : Int32) (x2 : Int32) (x3 : Int32) (x4 : Int32) (s : Mem), f x1 x2 x3 x4 s = some z → RA 5 [some (.ref 123), some (.int x1), some (.int x2), some (.int x3), some (.int x4), none] s) : RA 5 ls s := by
  unfold A_R_wordAt_4 at h
  split at h
  · rename_i a0 a1 a2 a3 a4 e0 e1 e2 e3 e4
    replace h := cbr_n h
    obtain ⟨hb, h⟩ := h
    cases beq_t hb
    refine hm _ _ [some (.ref 123), some (.int a1), some (.int a2), some (.int a3), some (.int a4), none] _ rfl (fun i v hv => ?_) (hf _ _ _ _ _ h)
    match i, hv with
    | 0, hv => exact e0.trans hv
    | 1, hv => exact e1.trans hv
    | 2, hv => exact e2.trans hv
    | 3, hv => exact e3.trans hv
    | 4, hv => exact e4.trans hv
    | 5, hv => cases hv
    | i + 6, hv => cases hv
  · cases h
theorem a_R_wordAt_13 {z : Int32 × Mem} {RA : Nat → List (Option Value) → Mem → Prop} (hm : ∀ (pc : Nat) (ls ls1 : List (Option Value)) (σ : Mem), ls1.length = I_R_wordAt.2.2.1 → (∀ i v, lk ls1 i = some v → lk ls i = some v) → RA pc ls1 σ → RA pc ls σ) {f : Int32 → Int32 → Int32 → Int32 → Int32 → Mem → Option (Int32 × Mem)} {ls : List (Option Value)} {s : Mem} (h : A_R_wordAt_13 f ls s = some z) (hf : ∀ (x1 : Int32) (x2 : Int32) (x3 : Int32) (x4 : Int32) (x5 : Int32) (s : Mem), f x1 x2 x3 x4 x5 s = some z → RA 20 [some (.ref 123), some (.int x1), some (.int x2), some (.int x3), some (.int x4), some (.int x5)] s) : RA 20 ls s := by
  unfold A_R_wordAt_13 at h
  split at h
  · rename_i a0 a1 a2 a3 a4 a5 e0 e1 e2 e3 e4 e5
    replace h := cbr_n h
    obtain ⟨hb, h⟩ := h
    cases beq_t hb
    refine hm _ _ [some (.ref 123), some (.int a1), some (.int a2), some (.int a3), some (.int a4), some (.int a5)] _ rfl (fun i v hv => ?_) (hf _ _ _ _ _ _ h)
    match i, hv with
    | 0, hv => exact e0.trans hv
    | 1, hv => exact e1.trans hv
    | 2, hv => exact e2.trans hv
    | 3, hv => exact e3.trans hv
    | 4, hv => exact e4.trans hv
    | 5, hv => exact e5.trans hv
    | i + 6, hv => cases hv
  · cases h
theorem a_R_wordAt_59 {z : Int32 × Mem} {RA : Nat → List (Option Value) → Mem → Prop} (hm : ∀ (pc : Nat) (ls ls1 : List (Option Value)) (σ : Mem), ls1.length = I_R_wordAt.2.2.1 → (∀ i v, lk ls1 i = some v → lk ls i = some v) → RA pc ls1 σ → RA pc ls σ) {f : Int32 → Int32 → Int32 → Int32 → Mem → Option (Int32 × Mem)} {ls : List (Option Value)} {s : Mem} (h : A_R_wordAt_59 f ls s = some z) (hf : ∀ (x1 : Int32) (x2 : Int32) (x3 : Int32) (x4 : Int32) (s : Mem), f x1 x2 x3 x4 s = some z → RA 94 [some (.ref 123), some (.int x1), some (.int x2), some (.int x3), some (.int x4), none] s) : RA 94 ls s := by
  unfold A_R_wordAt_59 at h
  split at h
  · rename_i a0 a1 a2 a3 a4 e0 e1 e2 e3 e4
    replace h := cbr_n h
    obtain ⟨hb, h⟩ := h
    cases beq_t hb
    refine hm _ _ [some (.ref 123), some (.int a1), some (.int a2), some (.int a3), some (.int a4), none] _ rfl (fun i v hv => ?_) (hf _ _ _ _ _ h)
    match i, hv with
    | 0, hv => exact e0.trans hv
    | 1, hv => exact e1.trans hv
    | 2, hv => exact e2.trans hv
    | 3, hv => exact e3.trans hv
    | 4, hv => exact e4.trans hv
    | 5, hv => cases hv
    | i + 6, hv => cases hv
  · cases h
theorem n_R_wordAt_59 {z : Int32 × Mem} {RA : Nat → List (Option Value) → Mem → Prop} (S : Sm I_R_wordAt C_R_wordAt K_R_wordAt [5, 20, 94] z RA) {k4 : Int32 → Int32 → Int32 → Int32 → Mem → Option (Int32 × Mem)} (hk4 : ∀ (x1 : Int32) (x2 : Int32) (x3 : Int32) (x4 : Int32) (s : Mem), k4 x1 x2 x3 x4 s = some z → RA 5 [some (.ref 123), some (.int x1), some (.int x2), some (.int x3), some (.int x4), none] s) : ∀ (n : Nat) (x1 : Int32) (x2 : Int32) (x3 : Int32) (x4 : Int32) (s : Mem), F_R_wordAt_59 k4 n x1 x2 x3 x4 s = some z → RA 94 [some (.ref 123), some (.int x1), some (.int x2), some (.int x3), some (.int x4), none] s := by
  intro n
  induction n with
  | zero => intro x1 x2 x3 x4 s h; exact nomatch (show (none : Option (Int32 × Mem)) = some z from h)
  | succ n ih =>
    intro x1 x2 x3 x4 s h
    rw [e_R_wordAt_59] at h
    refine S.2 _ ?_ 700 62 _ _ (ck1_of rfl) h
    intro k ls s h
    replace h := cbr_c h
    rcases h with ⟨hb, h⟩ | ⟨_, h⟩
    · cases beq_t hb
      exact a_R_wordAt_4 S.1 h hk4
    replace h := cbr_c h
    rcases h with ⟨hb, h⟩ | ⟨_, h⟩
    · cases beq_t hb
      exact a_R_wordAt_59 S.1 h ih
    cases h
theorem n_R_wordAt_13 {z : Int32 × Mem} {RA : Nat → List (Option Value) → Mem → Prop} (S : Sm I_R_wordAt C_R_wordAt K_R_wordAt [5, 20, 94] z RA) {k4 : Int32 → Int32 → Int32 → Int32 → Mem → Option (Int32 × Mem)} (hk4 : ∀ (x1 : Int32) (x2 : Int32) (x3 : Int32) (x4 : Int32) (s : Mem), k4 x1 x2 x3 x4 s = some z → RA 5 [some (.ref 123), some (.int x1), some (.int x2), some (.int x3), some (.int x4), none] s) : ∀ (n : Nat) (x1 : Int32) (x2 : Int32) (x3 : Int32) (x4 : Int32) (x5 : Int32) (s : Mem), F_R_wordAt_13 k4 n x1 x2 x3 x4 x5 s = some z → RA 20 [some (.ref 123), some (.int x1), some (.int x2), some (.int x3), some (.int x4), some (.int x5)] s := by
  intro n
  induction n with
  | zero => intro x1 x2 x3 x4 x5 s h; exact nomatch (show (none : Option (Int32 × Mem)) = some z from h)
  | succ n ih =>
    intro x1 x2 x3 x4 x5 s h
    rw [e_R_wordAt_13] at h
    refine S.2 _ ?_ 700 15 _ _ (ck1_of rfl) h
    intro k ls s h
    replace h := cbr_c h
    rcases h with ⟨hb, h⟩ | ⟨_, h⟩
    · cases beq_t hb
      exact a_R_wordAt_13 S.1 h ih
    replace h := cbr_c h
    rcases h with ⟨hb, h⟩ | ⟨_, h⟩
    · cases beq_t hb
      exact a_R_wordAt_59 S.1 h (n_R_wordAt_59 S hk4 gF)
    cases h
theorem n_R_wordAt_4 {z : Int32 × Mem} {RA : Nat → List (Option Value) → Mem → Prop} (S : Sm I_R_wordAt C_R_wordAt K_R_wordAt [5, 20, 94] z RA) : ∀ (n : Nat) (x1 : Int32) (x2 : Int32) (x3 : Int32) (x4 : Int32) (s : Mem), F_R_wordAt_4 n x1 x2 x3 x4 s = some z → RA 5 [some (.ref 123), some (.int x1), some (.int x2), some (.int x3), some (.int x4), none] s := by
  intro n
  induction n with
  | zero => intro x1 x2 x3 x4 s h; exact nomatch (show (none : Option (Int32 × Mem)) = some z from h)
  | succ n ih =>
    intro x1 x2 x3 x4 s h
    rw [e_R_wordAt_4] at h
    refine S.2 _ ?_ 700 5 _ _ (ck1_of rfl) h
    intro k ls s h
    replace h := cbr_c h
    rcases h with ⟨hb, h⟩ | ⟨_, h⟩
    · cases beq_t hb
      exact a_R_wordAt_13 S.1 h (n_R_wordAt_13 S ih gF)
    cases h
theorem l_R_wordAt (d : Nat) (k : Nat) (av : List Value) (s : Mem) (y : Int32 × Mem) (h : C_R_wordAt k av s = some y) : Ctr (d + 0) (mtab k) av s y ∧ ((mtab k).2.2.2.2.2 = 77 → ∃ b rest, av = .ref b :: rest ∧ (b = 1001 ∨ b = 1002)) := by
  exact nomatch (show (none : Option (Int32 × Mem)) = some y from h)
theorem c_R_wordAt {av : List Value} {s : Mem} {z : Int32 × Mem} (h : A_R_wordAt av s = some z) (d : Nat) : Ctr (d + 1) I_R_wordAt av s z := by
  unfold A_R_wordAt at h
  split at h
  · replace h := cbr_n h
    obtain ⟨hb, h⟩ := h
    cases beq_t hb
    refine ctr_of (d := d + 0) (own := 11) (kps := [5, 20, 94]) (code := K_R_wordAt) (Cl := C_R_wordAt) o_R_wordAt rfl (by decide) k_R_wordAt (l_R_wordAt d) (c1_of rfl) (Nat.le_of_ble_eq_true rfl) ?_
    intro RA S
    rw [e_R_wordAt] at h
    refine S.2 _ ?_ 700 0 _ _ (ck1_of rfl) h
    intro k ls s h
    replace h := cbr_c h
    rcases h with ⟨hb, h⟩ | ⟨_, h⟩
    · cases beq_t hb
      exact a_R_wordAt_4 S.1 h (n_R_wordAt_4 S gF)
    cases h
  · cases h
set_option maxRecDepth 1000000 in
theorem k_R_reads : okC 11 I_R_reads.2.2.1 I_R_reads.2.1 I_R_reads.2.2.2.1 [0, 95, 171] K_R_reads K_R_reads = true := by decide +kernel
theorem a_R_reads_0 {z : Int32 × Mem} {RA : Nat → List (Option Value) → Mem → Prop} (hm : ∀ (pc : Nat) (ls ls1 : List (Option Value)) (σ : Mem), ls1.length = I_R_reads.2.2.1 → (∀ i v, lk ls1 i = some v → lk ls i = some v) → RA pc ls1 σ → RA pc ls σ) {f : Mem → Option (Int32 × Mem)} {ls : List (Option Value)} {s : Mem} (h : A_R_reads_0 f ls s = some z) (hf : ∀  (s : Mem), f  s = some z → RA 0 [some (.ref 123), none] s) : RA 0 ls s := by
  unfold A_R_reads_0 at h
  split at h
  · rename_i a0 e0
    replace h := cbr_n h
    obtain ⟨hb, h⟩ := h
    cases beq_t hb
    refine hm _ _ [some (.ref 123), none] _ rfl (fun i v hv => ?_) (hf  _ h)
    match i, hv with
    | 0, hv => exact e0.trans hv
    | 1, hv => cases hv
    | i + 2, hv => cases hv
  · cases h
theorem a_R_reads_51 {z : Int32 × Mem} {RA : Nat → List (Option Value) → Mem → Prop} (hm : ∀ (pc : Nat) (ls ls1 : List (Option Value)) (σ : Mem), ls1.length = I_R_reads.2.2.1 → (∀ i v, lk ls1 i = some v → lk ls i = some v) → RA pc ls1 σ → RA pc ls σ) {f : Mem → Option (Int32 × Mem)} {ls : List (Option Value)} {s : Mem} (h : A_R_reads_51 f ls s = some z) (hf : ∀  (s : Mem), f  s = some z → RA 95 [some (.ref 123), none] s) : RA 95 ls s := by
  unfold A_R_reads_51 at h
  split at h
  · rename_i a0 e0
    replace h := cbr_n h
    obtain ⟨hb, h⟩ := h
    cases beq_t hb
    refine hm _ _ [some (.ref 123), none] _ rfl (fun i v hv => ?_) (hf  _ h)
    match i, hv with
    | 0, hv => exact e0.trans hv
    | 1, hv => cases hv
    | i + 2, hv => cases hv
  · cases h
theorem a_R_reads_90 {z : Int32 × Mem} {RA : Nat → List (Option Value) → Mem → Prop} (hm : ∀ (pc : Nat) (ls ls1 : List (Option Value)) (σ : Mem), ls1.length = I_R_reads.2.2.1 → (∀ i v, lk ls1 i = some v → lk ls i = some v) → RA pc ls1 σ → RA pc ls σ) {f : Mem → Option (Int32 × Mem)} {ls : List (Option Value)} {s : Mem} (h : A_R_reads_90 f ls s = some z) (hf : ∀  (s : Mem), f  s = some z → RA 171 [some (.ref 123), none] s) : RA 171 ls s := by
  unfold A_R_reads_90 at h
  split at h
  · rename_i a0 e0
    replace h := cbr_n h
    obtain ⟨hb, h⟩ := h
    cases beq_t hb
    refine hm _ _ [some (.ref 123), none] _ rfl (fun i v hv => ?_) (hf  _ h)
    match i, hv with
    | 0, hv => exact e0.trans hv
    | 1, hv => cases hv
    | i + 2, hv => cases hv
  · cases h
theorem n_R_reads_51 {z : Int32 × Mem} {RA : Nat → List (Option Value) → Mem → Prop} (S : Sm I_R_reads C_R_reads K_R_reads [0, 95, 171] z RA) : ∀ (n : Nat)  (s : Mem), F_R_reads_51 n s = some z → RA 95 [some (.ref 123), none] s := by
  intro n
  induction n with
  | zero => intro s h; exact nomatch (show (none : Option (Int32 × Mem)) = some z from h)
  | succ n ih =>
    intro s h
    rw [e_R_reads_51] at h
    refine S.2 _ ?_ 700 53 _ _ (ck1_of rfl) h
    intro k ls s h
    replace h := cbr_c h
    rcases h with ⟨hb, h⟩ | ⟨_, h⟩
    · cases beq_t hb
      exact a_R_reads_51 S.1 h ih
    cases h
theorem n_R_reads_90 {z : Int32 × Mem} {RA : Nat → List (Option Value) → Mem → Prop} (S : Sm I_R_reads C_R_reads K_R_reads [0, 95, 171] z RA) : ∀ (n : Nat)  (s : Mem), F_R_reads_90 n s = some z → RA 171 [some (.ref 123), none] s := by
  intro n
  induction n with
  | zero => intro s h; exact nomatch (show (none : Option (Int32 × Mem)) = some z from h)
  | succ n ih =>
    intro s h
    rw [e_R_reads_90] at h
    refine S.2 _ ?_ 700 93 _ _ (ck1_of rfl) h
    intro k ls s h
    replace h := cbr_c h
    rcases h with ⟨hb, h⟩ | ⟨_, h⟩
    · cases beq_t hb
      exact a_R_reads_90 S.1 h ih
    cases h
theorem n_R_reads_0 {z : Int32 × Mem} {RA : Nat → List (Option Value) → Mem → Prop} (S : Sm I_R_reads C_R_reads K_R_reads [0, 95, 171] z RA) : ∀ (n : Nat)  (s : Mem), F_R_reads_0 n s = some z → RA 0 [some (.ref 123), none] s := by
  intro n
  induction n with
  | zero => intro s h; exact nomatch (show (none : Option (Int32 × Mem)) = some z from h)
  | succ n ih =>
    intro s h
    rw [e_R_reads_0] at h
    refine S.2 _ ?_ 700 1 _ _ (ck1_of rfl) h
    intro k ls s h
    replace h := cbr_c h
    rcases h with ⟨hb, h⟩ | ⟨_, h⟩
    · cases beq_t hb
      exact a_R_reads_0 S.1 h ih
    replace h := cbr_c h
    rcases h with ⟨hb, h⟩ | ⟨_, h⟩
    · cases beq_t hb
      exact a_R_reads_51 S.1 h (n_R_reads_51 S gF)
    replace h := cbr_c h
    rcases h with ⟨hb, h⟩ | ⟨_, h⟩
    · cases beq_t hb
      exact a_R_reads_90 S.1 h (n_R_reads_90 S gF)
    cases h
theorem l_R_reads (d : Nat) (k : Nat) (av : List Value) (s : Mem) (y : Int32 × Mem) (h : C_R_reads k av s = some y) : Ctr (d + 2) (mtab k) av s y ∧ ((mtab k).2.2.2.2.2 = 77 → ∃ b rest, av = .ref b :: rest ∧ (b = 1001 ∨ b = 1002)) := by
  unfold C_R_reads at h
  replace h := cbr_c h
  rcases h with ⟨hb, h⟩ | ⟨_, h⟩
  · cases beq_t hb
    exact ⟨c_R_raw h (d + 1), fun q => absurd q (by decide)⟩
  replace h := cbr_c h
  rcases h with ⟨hb, h⟩ | ⟨_, h⟩
  · cases beq_t hb
    exact ⟨c_R_isLetter h (d + 0), fun q => absurd q (by decide)⟩
  replace h := cbr_c h
  rcases h with ⟨hb, h⟩ | ⟨_, h⟩
  · cases beq_t hb
    exact ⟨c_R_isDigit h (d + 0), fun q => absurd q (by decide)⟩
  replace h := cbr_c h
  rcases h with ⟨hb, h⟩ | ⟨_, h⟩
  · cases beq_t hb
    exact ⟨c_R_isMarkSign h (d + 1), fun q => absurd q (by decide)⟩
  replace h := cbr_c h
  rcases h with ⟨hb, h⟩ | ⟨_, h⟩
  · cases beq_t hb
    exact ⟨c_R_wordAt h (d + 1), fun q => absurd q (by decide)⟩
  cases h
theorem c_R_reads {av : List Value} {s : Mem} {z : Int32 × Mem} (h : A_R_reads av s = some z) (d : Nat) : Ctr (d + 3) I_R_reads av s z := by
  unfold A_R_reads at h
  split at h
  · replace h := cbr_n h
    obtain ⟨hb, h⟩ := h
    cases beq_t hb
    refine ctr_of (d := d + 2) (own := 11) (kps := [0, 95, 171]) (code := K_R_reads) (Cl := C_R_reads) o_R_reads rfl (by decide) k_R_reads (l_R_reads d) (c1_of rfl) (Nat.le_of_ble_eq_true rfl) ?_
    intro RA S
    rw [e_R_reads] at h
    refine S.2 _ ?_ 700 0 _ _ (ck1_of rfl) h
    intro k ls s h
    replace h := cbr_c h
    rcases h with ⟨hb, h⟩ | ⟨_, h⟩
    · cases beq_t hb
      exact a_R_reads_0 S.1 h (n_R_reads_0 S gF)
    cases h
  · cases h
set_option maxRecDepth 1000000 in
theorem k_R_errs : okC 11 I_R_errs.2.2.1 I_R_errs.2.1 I_R_errs.2.2.2.1 [] K_R_errs K_R_errs = true := by decide +kernel
theorem l_R_errs (d : Nat) (k : Nat) (av : List Value) (s : Mem) (y : Int32 × Mem) (h : C_R_errs k av s = some y) : Ctr (d + 0) (mtab k) av s y ∧ ((mtab k).2.2.2.2.2 = 77 → ∃ b rest, av = .ref b :: rest ∧ (b = 1001 ∨ b = 1002)) := by
  exact nomatch (show (none : Option (Int32 × Mem)) = some y from h)
theorem c_R_errs {av : List Value} {s : Mem} {z : Int32 × Mem} (h : A_R_errs av s = some z) (d : Nat) : Ctr (d + 1) I_R_errs av s z := by
  unfold A_R_errs at h
  split at h
  · replace h := cbr_n h
    obtain ⟨hb, h⟩ := h
    cases beq_t hb
    refine ctr_of (d := d + 0) (own := 11) (kps := []) (code := K_R_errs) (Cl := C_R_errs) o_R_errs rfl (by decide) k_R_errs (l_R_errs d) (c1_of rfl) (Nat.le_of_ble_eq_true rfl) ?_
    intro RA S
    rw [e_R_errs] at h
    refine S.2 _ ?_ 700 0 _ _ (ck1_of rfl) h
    intro k ls s h
    cases h
  · cases h
set_option maxRecDepth 1000000 in
theorem k_R_isWord : okC 11 I_R_isWord.2.2.1 I_R_isWord.2.1 I_R_isWord.2.2.2.1 [] K_R_isWord K_R_isWord = true := by decide +kernel
theorem l_R_isWord (d : Nat) (k : Nat) (av : List Value) (s : Mem) (y : Int32 × Mem) (h : C_R_isWord k av s = some y) : Ctr (d + 0) (mtab k) av s y ∧ ((mtab k).2.2.2.2.2 = 77 → ∃ b rest, av = .ref b :: rest ∧ (b = 1001 ∨ b = 1002)) := by
  exact nomatch (show (none : Option (Int32 × Mem)) = some y from h)
theorem c_R_isWord {av : List Value} {s : Mem} {z : Int32 × Mem} (h : A_R_isWord av s = some z) (d : Nat) : Ctr (d + 1) I_R_isWord av s z := by
  unfold A_R_isWord at h
  split at h
  · replace h := cbr_n h
    obtain ⟨hb, h⟩ := h
    cases beq_t hb
    refine ctr_of (d := d + 0) (own := 11) (kps := []) (code := K_R_isWord) (Cl := C_R_isWord) o_R_isWord rfl (by decide) k_R_isWord (l_R_isWord d) (c1_of rfl) (Nat.le_of_ble_eq_true rfl) ?_
    intro RA S
    rw [e_R_isWord] at h
    refine S.2 _ ?_ 700 0 _ _ (ck1_of rfl) h
    intro k ls s h
    cases h
  · cases h
set_option maxRecDepth 1000000 in
theorem k_R_isSign : okC 11 I_R_isSign.2.2.1 I_R_isSign.2.1 I_R_isSign.2.2.2.1 [] K_R_isSign K_R_isSign = true := by decide +kernel
theorem l_R_isSign (d : Nat) (k : Nat) (av : List Value) (s : Mem) (y : Int32 × Mem) (h : C_R_isSign k av s = some y) : Ctr (d + 0) (mtab k) av s y ∧ ((mtab k).2.2.2.2.2 = 77 → ∃ b rest, av = .ref b :: rest ∧ (b = 1001 ∨ b = 1002)) := by
  exact nomatch (show (none : Option (Int32 × Mem)) = some y from h)
theorem c_R_isSign {av : List Value} {s : Mem} {z : Int32 × Mem} (h : A_R_isSign av s = some z) (d : Nat) : Ctr (d + 1) I_R_isSign av s z := by
  unfold A_R_isSign at h
  split at h
  · replace h := cbr_n h
    obtain ⟨hb, h⟩ := h
    cases beq_t hb
    refine ctr_of (d := d + 0) (own := 11) (kps := []) (code := K_R_isSign) (Cl := C_R_isSign) o_R_isSign rfl (by decide) k_R_isSign (l_R_isSign d) (c1_of rfl) (Nat.le_of_ble_eq_true rfl) ?_
    intro RA S
    rw [e_R_isSign] at h
    refine S.2 _ ?_ 700 0 _ _ (ck1_of rfl) h
    intro k ls s h
    cases h
  · cases h
set_option maxRecDepth 1000000 in
theorem k_R_emits : okC 11 I_R_emits.2.2.1 I_R_emits.2.1 I_R_emits.2.2.2.1 [] K_R_emits K_R_emits = true := by decide +kernel
theorem l_R_emits (d : Nat) (k : Nat) (av : List Value) (s : Mem) (y : Int32 × Mem) (h : C_R_emits k av s = some y) : Ctr (d + 0) (mtab k) av s y ∧ ((mtab k).2.2.2.2.2 = 77 → ∃ b rest, av = .ref b :: rest ∧ (b = 1001 ∨ b = 1002)) := by
  exact nomatch (show (none : Option (Int32 × Mem)) = some y from h)
theorem c_R_emits {av : List Value} {s : Mem} {z : Int32 × Mem} (h : A_R_emits av s = some z) (d : Nat) : Ctr (d + 1) I_R_emits av s z := by
  unfold A_R_emits at h
  split at h
  · replace h := cbr_n h
    obtain ⟨hb, h⟩ := h
    cases beq_t hb
    refine ctr_of (d := d + 0) (own := 11) (kps := []) (code := K_R_emits) (Cl := C_R_emits) o_R_emits rfl (by decide) k_R_emits (l_R_emits d) (c1_of rfl) (Nat.le_of_ble_eq_true rfl) ?_
    intro RA S
    rw [e_R_emits] at h
    refine S.2 _ ?_ 700 0 _ _ (ck1_of rfl) h
    intro k ls s h
    cases h
  · cases h
set_option maxRecDepth 1000000 in
theorem k_R_canAsk : okC 11 I_R_canAsk.2.2.1 I_R_canAsk.2.1 I_R_canAsk.2.2.2.1 [] K_R_canAsk K_R_canAsk = true := by decide +kernel
theorem l_R_canAsk (d : Nat) (k : Nat) (av : List Value) (s : Mem) (y : Int32 × Mem) (h : C_R_canAsk k av s = some y) : Ctr (d + 1) (mtab k) av s y ∧ ((mtab k).2.2.2.2.2 = 77 → ∃ b rest, av = .ref b :: rest ∧ (b = 1001 ∨ b = 1002)) := by
  unfold C_R_canAsk at h
  replace h := cbr_c h
  rcases h with ⟨hb, h⟩ | ⟨_, h⟩
  · cases beq_t hb
    exact ⟨c_R_isIn h (d + 0), fun q => absurd q (by decide)⟩
  cases h
theorem c_R_canAsk {av : List Value} {s : Mem} {z : Int32 × Mem} (h : A_R_canAsk av s = some z) (d : Nat) : Ctr (d + 2) I_R_canAsk av s z := by
  unfold A_R_canAsk at h
  split at h
  · replace h := cbr_n h
    obtain ⟨hb, h⟩ := h
    cases beq_t hb
    refine ctr_of (d := d + 1) (own := 11) (kps := []) (code := K_R_canAsk) (Cl := C_R_canAsk) o_R_canAsk rfl (by decide) k_R_canAsk (l_R_canAsk d) (c1_of rfl) (Nat.le_of_ble_eq_true rfl) ?_
    intro RA S
    rw [e_R_canAsk] at h
    refine S.2 _ ?_ 700 0 _ _ (ck1_of rfl) h
    intro k ls s h
    cases h
  · cases h
set_option maxRecDepth 1000000 in
theorem k_R_readUnit : okC 11 I_R_readUnit.2.2.1 I_R_readUnit.2.1 I_R_readUnit.2.2.2.1 [] K_R_readUnit K_R_readUnit = true := by decide +kernel
theorem l_R_readUnit (d : Nat) (k : Nat) (av : List Value) (s : Mem) (y : Int32 × Mem) (h : C_R_readUnit k av s = some y) : Ctr (d + 3) (mtab k) av s y ∧ ((mtab k).2.2.2.2.2 = 77 → ∃ b rest, av = .ref b :: rest ∧ (b = 1001 ∨ b = 1002)) := by
  unfold C_R_readUnit at h
  replace h := cbr_c h
  rcases h with ⟨hb, h⟩ | ⟨_, h⟩
  · cases beq_t hb
    exact ⟨c_R_canAsk h (d + 1), fun q => absurd q (by decide)⟩
  replace h := cbr_c h
  rcases h with ⟨hb, h⟩ | ⟨_, h⟩
  · cases beq_t hb
    exact ⟨c_R_emits h (d + 2), fun q => absurd q (by decide)⟩
  replace h := cbr_c h
  rcases h with ⟨hb, h⟩ | ⟨_, h⟩
  · cases beq_t hb
    exact ⟨c_R_reads h (d + 0), fun q => absurd q (by decide)⟩
  replace h := cbr_c h
  rcases h with ⟨hb, h⟩ | ⟨_, h⟩
  · cases beq_t hb
    exact ⟨c_R_errs h (d + 2), fun q => absurd q (by decide)⟩
  cases h
theorem c_R_readUnit {av : List Value} {s : Mem} {z : Int32 × Mem} (h : A_R_readUnit av s = some z) (d : Nat) : Ctr (d + 4) I_R_readUnit av s z := by
  unfold A_R_readUnit at h
  split at h
  · replace h := cbr_n h
    obtain ⟨hb, h⟩ := h
    cases beq_t hb
    refine ctr_of (d := d + 3) (own := 11) (kps := []) (code := K_R_readUnit) (Cl := C_R_readUnit) o_R_readUnit rfl (by decide) k_R_readUnit (l_R_readUnit d) (c1_of rfl) (Nat.le_of_ble_eq_true rfl) ?_
    intro RA S
    rw [e_R_readUnit] at h
    refine S.2 _ ?_ 700 0 _ _ (ck1_of rfl) h
    intro k ls s h
    cases h
  · cases h
set_option maxRecDepth 1000000 in
theorem k_R_readProduct : okC 11 I_R_readProduct.2.2.1 I_R_readProduct.2.1 I_R_readProduct.2.2.2.1 [10] K_R_readProduct K_R_readProduct = true := by decide +kernel
theorem a_R_readProduct_6 {z : Int32 × Mem} {RA : Nat → List (Option Value) → Mem → Prop} (hm : ∀ (pc : Nat) (ls ls1 : List (Option Value)) (σ : Mem), ls1.length = I_R_readProduct.2.2.1 → (∀ i v, lk ls1 i = some v → lk ls i = some v) → RA pc ls1 σ → RA pc ls σ) {f : Mem → Option (Int32 × Mem)} {ls : List (Option Value)} {s : Mem} (h : A_R_readProduct_6 f ls s = some z) (hf : ∀  (s : Mem), f  s = some z → RA 10 [some (.ref 123), none] s) : RA 10 ls s := by
  unfold A_R_readProduct_6 at h
  split at h
  · rename_i a0 e0
    replace h := cbr_n h
    obtain ⟨hb, h⟩ := h
    cases beq_t hb
    refine hm _ _ [some (.ref 123), none] _ rfl (fun i v hv => ?_) (hf  _ h)
    match i, hv with
    | 0, hv => exact e0.trans hv
    | 1, hv => cases hv
    | i + 2, hv => cases hv
  · cases h
theorem n_R_readProduct_6 {z : Int32 × Mem} {RA : Nat → List (Option Value) → Mem → Prop} (S : Sm I_R_readProduct C_R_readProduct K_R_readProduct [10] z RA) : ∀ (n : Nat)  (s : Mem), F_R_readProduct_6 n s = some z → RA 10 [some (.ref 123), none] s := by
  intro n
  induction n with
  | zero => intro s h; exact nomatch (show (none : Option (Int32 × Mem)) = some z from h)
  | succ n ih =>
    intro s h
    rw [e_R_readProduct_6] at h
    refine S.2 _ ?_ 700 7 _ _ (ck1_of rfl) h
    intro k ls s h
    replace h := cbr_c h
    rcases h with ⟨hb, h⟩ | ⟨_, h⟩
    · cases beq_t hb
      exact a_R_readProduct_6 S.1 h ih
    cases h
theorem l_R_readProduct (d : Nat) (k : Nat) (av : List Value) (s : Mem) (y : Int32 × Mem) (h : C_R_readProduct k av s = some y) : Ctr (d + 4) (mtab k) av s y ∧ ((mtab k).2.2.2.2.2 = 77 → ∃ b rest, av = .ref b :: rest ∧ (b = 1001 ∨ b = 1002)) := by
  unfold C_R_readProduct at h
  replace h := cbr_c h
  rcases h with ⟨hb, h⟩ | ⟨_, h⟩
  · cases beq_t hb
    exact ⟨c_R_readUnit h (d + 0), fun q => absurd q (by decide)⟩
  replace h := cbr_c h
  rcases h with ⟨hb, h⟩ | ⟨_, h⟩
  · cases beq_t hb
    exact ⟨c_R_isSign h (d + 3), fun q => absurd q (by decide)⟩
  replace h := cbr_c h
  rcases h with ⟨hb, h⟩ | ⟨_, h⟩
  · cases beq_t hb
    exact ⟨c_R_reads h (d + 1), fun q => absurd q (by decide)⟩
  replace h := cbr_c h
  rcases h with ⟨hb, h⟩ | ⟨_, h⟩
  · cases beq_t hb
    exact ⟨c_R_errs h (d + 3), fun q => absurd q (by decide)⟩
  replace h := cbr_c h
  rcases h with ⟨hb, h⟩ | ⟨_, h⟩
  · cases beq_t hb
    exact ⟨c_R_emits h (d + 3), fun q => absurd q (by decide)⟩
  cases h
theorem c_R_readProduct {av : List Value} {s : Mem} {z : Int32 × Mem} (h : A_R_readProduct av s = some z) (d : Nat) : Ctr (d + 5) I_R_readProduct av s z := by
  unfold A_R_readProduct at h
  split at h
  · replace h := cbr_n h
    obtain ⟨hb, h⟩ := h
    cases beq_t hb
    refine ctr_of (d := d + 4) (own := 11) (kps := [10]) (code := K_R_readProduct) (Cl := C_R_readProduct) o_R_readProduct rfl (by decide) k_R_readProduct (l_R_readProduct d) (c1_of rfl) (Nat.le_of_ble_eq_true rfl) ?_
    intro RA S
    rw [e_R_readProduct] at h
    refine S.2 _ ?_ 700 0 _ _ (ck1_of rfl) h
    intro k ls s h
    replace h := cbr_c h
    rcases h with ⟨hb, h⟩ | ⟨_, h⟩
    · cases beq_t hb
      exact a_R_readProduct_6 S.1 h (n_R_readProduct_6 S gF)
    cases h
  · cases h
set_option maxRecDepth 1000000 in
theorem k_R_readSum : okC 11 I_R_readSum.2.2.1 I_R_readSum.2.1 I_R_readSum.2.2.2.1 [10] K_R_readSum K_R_readSum = true := by decide +kernel
theorem a_R_readSum_6 {z : Int32 × Mem} {RA : Nat → List (Option Value) → Mem → Prop} (hm : ∀ (pc : Nat) (ls ls1 : List (Option Value)) (σ : Mem), ls1.length = I_R_readSum.2.2.1 → (∀ i v, lk ls1 i = some v → lk ls i = some v) → RA pc ls1 σ → RA pc ls σ) {f : Mem → Option (Int32 × Mem)} {ls : List (Option Value)} {s : Mem} (h : A_R_readSum_6 f ls s = some z) (hf : ∀  (s : Mem), f  s = some z → RA 10 [some (.ref 123), none] s) : RA 10 ls s := by
  unfold A_R_readSum_6 at h
  split at h
  · rename_i a0 e0
    replace h := cbr_n h
    obtain ⟨hb, h⟩ := h
    cases beq_t hb
    refine hm _ _ [some (.ref 123), none] _ rfl (fun i v hv => ?_) (hf  _ h)
    match i, hv with
    | 0, hv => exact e0.trans hv
    | 1, hv => cases hv
    | i + 2, hv => cases hv
  · cases h
theorem n_R_readSum_6 {z : Int32 × Mem} {RA : Nat → List (Option Value) → Mem → Prop} (S : Sm I_R_readSum C_R_readSum K_R_readSum [10] z RA) : ∀ (n : Nat)  (s : Mem), F_R_readSum_6 n s = some z → RA 10 [some (.ref 123), none] s := by
  intro n
  induction n with
  | zero => intro s h; exact nomatch (show (none : Option (Int32 × Mem)) = some z from h)
  | succ n ih =>
    intro s h
    rw [e_R_readSum_6] at h
    refine S.2 _ ?_ 700 7 _ _ (ck1_of rfl) h
    intro k ls s h
    replace h := cbr_c h
    rcases h with ⟨hb, h⟩ | ⟨_, h⟩
    · cases beq_t hb
      exact a_R_readSum_6 S.1 h ih
    cases h
theorem l_R_readSum (d : Nat) (k : Nat) (av : List Value) (s : Mem) (y : Int32 × Mem) (h : C_R_readSum k av s = some y) : Ctr (d + 5) (mtab k) av s y ∧ ((mtab k).2.2.2.2.2 = 77 → ∃ b rest, av = .ref b :: rest ∧ (b = 1001 ∨ b = 1002)) := by
  unfold C_R_readSum at h
  replace h := cbr_c h
  rcases h with ⟨hb, h⟩ | ⟨_, h⟩
  · cases beq_t hb
    exact ⟨c_R_readProduct h (d + 0), fun q => absurd q (by decide)⟩
  replace h := cbr_c h
  rcases h with ⟨hb, h⟩ | ⟨_, h⟩
  · cases beq_t hb
    exact ⟨c_R_isSign h (d + 4), fun q => absurd q (by decide)⟩
  replace h := cbr_c h
  rcases h with ⟨hb, h⟩ | ⟨_, h⟩
  · cases beq_t hb
    exact ⟨c_R_reads h (d + 2), fun q => absurd q (by decide)⟩
  replace h := cbr_c h
  rcases h with ⟨hb, h⟩ | ⟨_, h⟩
  · cases beq_t hb
    exact ⟨c_R_emits h (d + 4), fun q => absurd q (by decide)⟩
  cases h
theorem c_R_readSum {av : List Value} {s : Mem} {z : Int32 × Mem} (h : A_R_readSum av s = some z) (d : Nat) : Ctr (d + 6) I_R_readSum av s z := by
  unfold A_R_readSum at h
  split at h
  · replace h := cbr_n h
    obtain ⟨hb, h⟩ := h
    cases beq_t hb
    refine ctr_of (d := d + 5) (own := 11) (kps := [10]) (code := K_R_readSum) (Cl := C_R_readSum) o_R_readSum rfl (by decide) k_R_readSum (l_R_readSum d) (c1_of rfl) (Nat.le_of_ble_eq_true rfl) ?_
    intro RA S
    rw [e_R_readSum] at h
    refine S.2 _ ?_ 700 0 _ _ (ck1_of rfl) h
    intro k ls s h
    replace h := cbr_c h
    rcases h with ⟨hb, h⟩ | ⟨_, h⟩
    · cases beq_t hb
      exact a_R_readSum_6 S.1 h (n_R_readSum_6 S gF)
    cases h
  · cases h
set_option maxRecDepth 1000000 in
theorem k_R_readCompared : okC 11 I_R_readCompared.2.2.1 I_R_readCompared.2.1 I_R_readCompared.2.2.2.1 [] K_R_readCompared K_R_readCompared = true := by decide +kernel
theorem l_R_readCompared (d : Nat) (k : Nat) (av : List Value) (s : Mem) (y : Int32 × Mem) (h : C_R_readCompared k av s = some y) : Ctr (d + 6) (mtab k) av s y ∧ ((mtab k).2.2.2.2.2 = 77 → ∃ b rest, av = .ref b :: rest ∧ (b = 1001 ∨ b = 1002)) := by
  unfold C_R_readCompared at h
  replace h := cbr_c h
  rcases h with ⟨hb, h⟩ | ⟨_, h⟩
  · cases beq_t hb
    exact ⟨c_R_readSum h (d + 0), fun q => absurd q (by decide)⟩
  replace h := cbr_c h
  rcases h with ⟨hb, h⟩ | ⟨_, h⟩
  · cases beq_t hb
    exact ⟨c_R_isSign h (d + 5), fun q => absurd q (by decide)⟩
  replace h := cbr_c h
  rcases h with ⟨hb, h⟩ | ⟨_, h⟩
  · cases beq_t hb
    exact ⟨c_R_errs h (d + 5), fun q => absurd q (by decide)⟩
  replace h := cbr_c h
  rcases h with ⟨hb, h⟩ | ⟨_, h⟩
  · cases beq_t hb
    exact ⟨c_R_reads h (d + 3), fun q => absurd q (by decide)⟩
  replace h := cbr_c h
  rcases h with ⟨hb, h⟩ | ⟨_, h⟩
  · cases beq_t hb
    exact ⟨c_R_emits h (d + 5), fun q => absurd q (by decide)⟩
  cases h
theorem c_R_readCompared {av : List Value} {s : Mem} {z : Int32 × Mem} (h : A_R_readCompared av s = some z) (d : Nat) : Ctr (d + 7) I_R_readCompared av s z := by
  unfold A_R_readCompared at h
  split at h
  · replace h := cbr_n h
    obtain ⟨hb, h⟩ := h
    cases beq_t hb
    refine ctr_of (d := d + 6) (own := 11) (kps := []) (code := K_R_readCompared) (Cl := C_R_readCompared) o_R_readCompared rfl (by decide) k_R_readCompared (l_R_readCompared d) (c1_of rfl) (Nat.le_of_ble_eq_true rfl) ?_
    intro RA S
    rw [e_R_readCompared] at h
    refine S.2 _ ?_ 700 0 _ _ (ck1_of rfl) h
    intro k ls s h
    cases h
  · cases h
set_option maxRecDepth 1000000 in
theorem k_R_waits : okC 11 I_R_waits.2.2.1 I_R_waits.2.1 I_R_waits.2.2.2.1 [] K_R_waits K_R_waits = true := by decide +kernel
theorem l_R_waits (d : Nat) (k : Nat) (av : List Value) (s : Mem) (y : Int32 × Mem) (h : C_R_waits k av s = some y) : Ctr (d + 0) (mtab k) av s y ∧ ((mtab k).2.2.2.2.2 = 77 → ∃ b rest, av = .ref b :: rest ∧ (b = 1001 ∨ b = 1002)) := by
  exact nomatch (show (none : Option (Int32 × Mem)) = some y from h)
theorem c_R_waits {av : List Value} {s : Mem} {z : Int32 × Mem} (h : A_R_waits av s = some z) (d : Nat) : Ctr (d + 1) I_R_waits av s z := by
  unfold A_R_waits at h
  split at h
  · replace h := cbr_n h
    obtain ⟨hb, h⟩ := h
    cases beq_t hb
    refine ctr_of (d := d + 0) (own := 11) (kps := []) (code := K_R_waits) (Cl := C_R_waits) o_R_waits rfl (by decide) k_R_waits (l_R_waits d) (c1_of rfl) (Nat.le_of_ble_eq_true rfl) ?_
    intro RA S
    rw [e_R_waits] at h
    refine S.2 _ ?_ 700 0 _ _ (ck1_of rfl) h
    intro k ls s h
    cases h
  · cases h
set_option maxRecDepth 1000000 in
theorem k_R_settles : okC 11 I_R_settles.2.2.1 I_R_settles.2.1 I_R_settles.2.2.2.1 [0] K_R_settles K_R_settles = true := by decide +kernel
theorem a_R_settles_0 {z : Int32 × Mem} {RA : Nat → List (Option Value) → Mem → Prop} (hm : ∀ (pc : Nat) (ls ls1 : List (Option Value)) (σ : Mem), ls1.length = I_R_settles.2.2.1 → (∀ i v, lk ls1 i = some v → lk ls i = some v) → RA pc ls1 σ → RA pc ls σ) {f : Int32 → Mem → Option (Int32 × Mem)} {ls : List (Option Value)} {s : Mem} (h : A_R_settles_0 f ls s = some z) (hf : ∀ (x1 : Int32) (s : Mem), f x1 s = some z → RA 0 [some (.ref 123), some (.int x1)] s) : RA 0 ls s := by
  unfold A_R_settles_0 at h
  split at h
  · rename_i a0 a1 e0 e1
    replace h := cbr_n h
    obtain ⟨hb, h⟩ := h
    cases beq_t hb
    refine hm _ _ [some (.ref 123), some (.int a1)] _ rfl (fun i v hv => ?_) (hf _ _ h)
    match i, hv with
    | 0, hv => exact e0.trans hv
    | 1, hv => exact e1.trans hv
    | i + 2, hv => cases hv
  · cases h
theorem n_R_settles_0 {z : Int32 × Mem} {RA : Nat → List (Option Value) → Mem → Prop} (S : Sm I_R_settles C_R_settles K_R_settles [0] z RA) : ∀ (n : Nat) (x1 : Int32) (s : Mem), F_R_settles_0 n x1 s = some z → RA 0 [some (.ref 123), some (.int x1)] s := by
  intro n
  induction n with
  | zero => intro x1 s h; exact nomatch (show (none : Option (Int32 × Mem)) = some z from h)
  | succ n ih =>
    intro x1 s h
    rw [e_R_settles_0] at h
    refine S.2 _ ?_ 700 1 _ _ (ck1_of rfl) h
    intro k ls s h
    replace h := cbr_c h
    rcases h with ⟨hb, h⟩ | ⟨_, h⟩
    · cases beq_t hb
      exact a_R_settles_0 S.1 h ih
    cases h
theorem l_R_settles (d : Nat) (k : Nat) (av : List Value) (s : Mem) (y : Int32 × Mem) (h : C_R_settles k av s = some y) : Ctr (d + 1) (mtab k) av s y ∧ ((mtab k).2.2.2.2.2 = 77 → ∃ b rest, av = .ref b :: rest ∧ (b = 1001 ∨ b = 1002)) := by
  unfold C_R_settles at h
  replace h := cbr_c h
  rcases h with ⟨hb, h⟩ | ⟨_, h⟩
  · cases beq_t hb
    exact ⟨c_R_emits h (d + 0), fun q => absurd q (by decide)⟩
  cases h
theorem c_R_settles {av : List Value} {s : Mem} {z : Int32 × Mem} (h : A_R_settles av s = some z) (d : Nat) : Ctr (d + 2) I_R_settles av s z := by
  unfold A_R_settles at h
  split at h
  · replace h := cbr_n h
    obtain ⟨hb, h⟩ := h
    cases beq_t hb
    refine ctr_of (d := d + 1) (own := 11) (kps := [0]) (code := K_R_settles) (Cl := C_R_settles) o_R_settles rfl (by decide) k_R_settles (l_R_settles d) (c1_of rfl) (Nat.le_of_ble_eq_true rfl) ?_
    intro RA S
    rw [e_R_settles] at h
    refine S.2 _ ?_ 700 0 _ _ (ck1_of rfl) h
    intro k ls s h
    replace h := cbr_c h
    rcases h with ⟨hb, h⟩ | ⟨_, h⟩
    · cases beq_t hb
      exact a_R_settles_0 S.1 h (n_R_settles_0 S gF)
    cases h
  · cases h
set_option maxRecDepth 1000000 in
theorem k_R_readAny : okC 11 I_R_readAny.2.2.1 I_R_readAny.2.1 I_R_readAny.2.2.2.1 [9] K_R_readAny K_R_readAny = true := by decide +kernel
theorem a_R_readAny_7 {z : Int32 × Mem} {RA : Nat → List (Option Value) → Mem → Prop} (hm : ∀ (pc : Nat) (ls ls1 : List (Option Value)) (σ : Mem), ls1.length = I_R_readAny.2.2.1 → (∀ i v, lk ls1 i = some v → lk ls i = some v) → RA pc ls1 σ → RA pc ls σ) {f : Int32 → Int32 → Mem → Option (Int32 × Mem)} {ls : List (Option Value)} {s : Mem} (h : A_R_readAny_7 f ls s = some z) (hf : ∀ (x1 : Int32) (x2 : Int32) (s : Mem), f x1 x2 s = some z → RA 9 [some (.ref 123), some (.int x1), some (.int x2), none] s) : RA 9 ls s := by
  unfold A_R_readAny_7 at h
  split at h
  · rename_i a0 a1 a2 e0 e1 e2
    replace h := cbr_n h
    obtain ⟨hb, h⟩ := h
    cases beq_t hb
    refine hm _ _ [some (.ref 123), some (.int a1), some (.int a2), none] _ rfl (fun i v hv => ?_) (hf _ _ _ h)
    match i, hv with
    | 0, hv => exact e0.trans hv
    | 1, hv => exact e1.trans hv
    | 2, hv => exact e2.trans hv
    | 3, hv => cases hv
    | i + 4, hv => cases hv
  · cases h
theorem n_R_readAny_7 {z : Int32 × Mem} {RA : Nat → List (Option Value) → Mem → Prop} (S : Sm I_R_readAny C_R_readAny K_R_readAny [9] z RA) : ∀ (n : Nat) (x1 : Int32) (x2 : Int32) (s : Mem), F_R_readAny_7 n x1 x2 s = some z → RA 9 [some (.ref 123), some (.int x1), some (.int x2), none] s := by
  intro n
  induction n with
  | zero => intro x1 x2 s h; exact nomatch (show (none : Option (Int32 × Mem)) = some z from h)
  | succ n ih =>
    intro x1 x2 s h
    rw [e_R_readAny_7] at h
    refine S.2 _ ?_ 700 8 _ _ (ck1_of rfl) h
    intro k ls s h
    replace h := cbr_c h
    rcases h with ⟨hb, h⟩ | ⟨_, h⟩
    · cases beq_t hb
      exact a_R_readAny_7 S.1 h ih
    cases h
theorem l_R_readAny (d : Nat) (k : Nat) (av : List Value) (s : Mem) (y : Int32 × Mem) (h : C_R_readAny k av s = some y) : Ctr (d + 7) (mtab k) av s y ∧ ((mtab k).2.2.2.2.2 = 77 → ∃ b rest, av = .ref b :: rest ∧ (b = 1001 ∨ b = 1002)) := by
  unfold C_R_readAny at h
  replace h := cbr_c h
  rcases h with ⟨hb, h⟩ | ⟨_, h⟩
  · cases beq_t hb
    exact ⟨c_R_isWord h (d + 6), fun q => absurd q (by decide)⟩
  replace h := cbr_c h
  rcases h with ⟨hb, h⟩ | ⟨_, h⟩
  · cases beq_t hb
    exact ⟨c_R_settles h (d + 5), fun q => absurd q (by decide)⟩
  replace h := cbr_c h
  rcases h with ⟨hb, h⟩ | ⟨_, h⟩
  · cases beq_t hb
    exact ⟨c_R_isSign h (d + 6), fun q => absurd q (by decide)⟩
  replace h := cbr_c h
  rcases h with ⟨hb, h⟩ | ⟨_, h⟩
  · cases beq_t hb
    exact ⟨c_R_errs h (d + 6), fun q => absurd q (by decide)⟩
  replace h := cbr_c h
  rcases h with ⟨hb, h⟩ | ⟨_, h⟩
  · cases beq_t hb
    exact ⟨c_R_reads h (d + 4), fun q => absurd q (by decide)⟩
  replace h := cbr_c h
  rcases h with ⟨hb, h⟩ | ⟨_, h⟩
  · cases beq_t hb
    exact ⟨c_R_waits h (d + 6), fun q => absurd q (by decide)⟩
  replace h := cbr_c h
  rcases h with ⟨hb, h⟩ | ⟨_, h⟩
  · cases beq_t hb
    exact ⟨c_R_readCompared h (d + 0), fun q => absurd q (by decide)⟩
  cases h
theorem c_R_readAny {av : List Value} {s : Mem} {z : Int32 × Mem} (h : A_R_readAny av s = some z) (d : Nat) : Ctr (d + 8) I_R_readAny av s z := by
  unfold A_R_readAny at h
  split at h
  · replace h := cbr_n h
    obtain ⟨hb, h⟩ := h
    cases beq_t hb
    refine ctr_of (d := d + 7) (own := 11) (kps := [9]) (code := K_R_readAny) (Cl := C_R_readAny) o_R_readAny rfl (by decide) k_R_readAny (l_R_readAny d) (c1_of rfl) (Nat.le_of_ble_eq_true rfl) ?_
    intro RA S
    rw [e_R_readAny] at h
    refine S.2 _ ?_ 700 0 _ _ (ck1_of rfl) h
    intro k ls s h
    replace h := cbr_c h
    rcases h with ⟨hb, h⟩ | ⟨_, h⟩
    · cases beq_t hb
      exact a_R_readAny_7 S.1 h (n_R_readAny_7 S gF)
    cases h
  · cases h
set_option maxRecDepth 1000000 in
theorem k_R_isLineWord : okC 11 I_R_isLineWord.2.2.1 I_R_isLineWord.2.1 I_R_isLineWord.2.2.2.1 [] K_R_isLineWord K_R_isLineWord = true := by decide +kernel
theorem l_R_isLineWord (d : Nat) (k : Nat) (av : List Value) (s : Mem) (y : Int32 × Mem) (h : C_R_isLineWord k av s = some y) : Ctr (d + 1) (mtab k) av s y ∧ ((mtab k).2.2.2.2.2 = 77 → ∃ b rest, av = .ref b :: rest ∧ (b = 1001 ∨ b = 1002)) := by
  unfold C_R_isLineWord at h
  replace h := cbr_c h
  rcases h with ⟨hb, h⟩ | ⟨_, h⟩
  · cases beq_t hb
    exact ⟨c_R_isIn h (d + 0), fun q => absurd q (by decide)⟩
  cases h
theorem c_R_isLineWord {av : List Value} {s : Mem} {z : Int32 × Mem} (h : A_R_isLineWord av s = some z) (d : Nat) : Ctr (d + 2) I_R_isLineWord av s z := by
  unfold A_R_isLineWord at h
  split at h
  · replace h := cbr_n h
    obtain ⟨hb, h⟩ := h
    cases beq_t hb
    refine ctr_of (d := d + 1) (own := 11) (kps := []) (code := K_R_isLineWord) (Cl := C_R_isLineWord) o_R_isLineWord rfl (by decide) k_R_isLineWord (l_R_isLineWord d) (c1_of rfl) (Nat.le_of_ble_eq_true rfl) ?_
    intro RA S
    rw [e_R_isLineWord] at h
    refine S.2 _ ?_ 700 0 _ _ (ck1_of rfl) h
    intro k ls s h
    cases h
  · cases h
