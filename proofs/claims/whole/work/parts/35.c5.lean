set_option maxRecDepth 1000000 in
theorem k_R_readLaw : okC 11 I_R_readLaw.2.2.1 I_R_readLaw.2.1 I_R_readLaw.2.2.2.1 [2] K_R_readLaw K_R_readLaw = true := by decide +kernel
theorem a_R_readLaw_2 {z : Int32 × Mem} {RA : Nat → List (Option Value) → Mem → Prop} (hm : ∀ (pc : Nat) (ls ls1 : List (Option Value)) (σ : Mem), ls1.length = I_R_readLaw.2.2.1 → (∀ i v, lk ls1 i = some v → lk ls i = some v) → RA pc ls1 σ → RA pc ls σ) {f : Int32 → Mem → Option (Int32 × Mem)} {ls : List (Option Value)} {s : Mem} (h : A_R_readLaw_2 f ls s = some z) (hf : ∀ (x1 : Int32) (s : Mem), f x1 s = some z → RA 2 [some (.ref 123), some (.int x1), none] s) : RA 2 ls s := by
  unfold A_R_readLaw_2 at h
  split at h
  · rename_i a0 a1 e0 e1
    replace h := cbr_n h
    obtain ⟨hb, h⟩ := h
    cases beq_t hb
    refine hm _ _ [some (.ref 123), some (.int a1), none] _ rfl (fun i v hv => ?_) (hf _ _ h)
    match i, hv with
    | 0, hv => exact e0.trans hv
    | 1, hv => exact e1.trans hv
    | 2, hv => cases hv
    | i + 3, hv => cases hv
  · cases h
theorem n_R_readLaw_2 {z : Int32 × Mem} {RA : Nat → List (Option Value) → Mem → Prop} (S : Sm I_R_readLaw C_R_readLaw K_R_readLaw [2] z RA) : ∀ (n : Nat) (x1 : Int32) (s : Mem), F_R_readLaw_2 n x1 s = some z → RA 2 [some (.ref 123), some (.int x1), none] s := by
  intro n
  induction n with
  | zero => intro x1 s h; exact nomatch (show (none : Option (Int32 × Mem)) = some z from h)
  | succ n ih =>
    intro x1 s h
    rw [e_R_readLaw_2] at h
    refine S.2 _ ?_ 700 3 _ _ (ck1_of rfl) h
    intro k ls s h
    replace h := cbr_c h
    rcases h with ⟨hb, h⟩ | ⟨_, h⟩
    · cases beq_t hb
      exact a_R_readLaw_2 S.1 h ih
    cases h
theorem l_R_readLaw (d : Nat) (k : Nat) (av : List Value) (s : Mem) (y : Int32 × Mem) (h : C_R_readLaw k av s = some y) : Ctr (d + 8) (mtab k) av s y ∧ ((mtab k).2.2.2.2.2 = 77 → ∃ b rest, av = .ref b :: rest ∧ (b = 1001 ∨ b = 1002)) := by
  unfold C_R_readLaw at h
  replace h := cbr_c h
  rcases h with ⟨hb, h⟩ | ⟨_, h⟩
  · cases beq_t hb
    exact ⟨c_R_isLineWord h (d + 6), fun q => absurd q (by decide)⟩
  replace h := cbr_c h
  rcases h with ⟨hb, h⟩ | ⟨_, h⟩
  · cases beq_t hb
    exact ⟨c_R_errs h (d + 7), fun q => absurd q (by decide)⟩
  replace h := cbr_c h
  rcases h with ⟨hb, h⟩ | ⟨_, h⟩
  · cases beq_t hb
    exact ⟨c_R_reads h (d + 5), fun q => absurd q (by decide)⟩
  replace h := cbr_c h
  rcases h with ⟨hb, h⟩ | ⟨_, h⟩
  · cases beq_t hb
    exact ⟨c_R_readSum h (d + 2), fun q => absurd q (by decide)⟩
  replace h := cbr_c h
  rcases h with ⟨hb, h⟩ | ⟨_, h⟩
  · cases beq_t hb
    exact ⟨c_R_isWord h (d + 7), fun q => absurd q (by decide)⟩
  replace h := cbr_c h
  rcases h with ⟨hb, h⟩ | ⟨_, h⟩
  · cases beq_t hb
    exact ⟨c_R_isSign h (d + 7), fun q => absurd q (by decide)⟩
  replace h := cbr_c h
  rcases h with ⟨hb, h⟩ | ⟨_, h⟩
  · cases beq_t hb
    exact ⟨c_R_readAny h (d + 0), fun q => absurd q (by decide)⟩
  cases h
theorem c_R_readLaw {av : List Value} {s : Mem} {z : Int32 × Mem} (h : A_R_readLaw av s = some z) (d : Nat) : Ctr (d + 9) I_R_readLaw av s z := by
  unfold A_R_readLaw at h
  split at h
  · replace h := cbr_n h
    obtain ⟨hb, h⟩ := h
    cases beq_t hb
    refine ctr_of (d := d + 8) (own := 11) (kps := [2]) (code := K_R_readLaw) (Cl := C_R_readLaw) o_R_readLaw rfl (by decide) k_R_readLaw (l_R_readLaw d) (c1_of rfl) (Nat.le_of_ble_eq_true rfl) ?_
    intro RA S
    rw [e_R_readLaw] at h
    refine S.2 _ ?_ 700 0 _ _ (ck1_of rfl) h
    intro k ls s h
    replace h := cbr_c h
    rcases h with ⟨hb, h⟩ | ⟨_, h⟩
    · cases beq_t hb
      exact a_R_readLaw_2 S.1 h (n_R_readLaw_2 S gF)
    cases h
  · cases h
set_option maxRecDepth 1000000 in
theorem k_R_takesLaw : okC 11 I_R_takesLaw.2.2.1 I_R_takesLaw.2.1 I_R_takesLaw.2.2.2.1 [2, 107] K_R_takesLaw K_R_takesLaw = true := by decide +kernel
theorem a_R_takesLaw_2 {z : Int32 × Mem} {RA : Nat → List (Option Value) → Mem → Prop} (hm : ∀ (pc : Nat) (ls ls1 : List (Option Value)) (σ : Mem), ls1.length = I_R_takesLaw.2.2.1 → (∀ i v, lk ls1 i = some v → lk ls i = some v) → RA pc ls1 σ → RA pc ls σ) {f : Int32 → Int32 → Mem → Option (Int32 × Mem)} {ls : List (Option Value)} {s : Mem} (h : A_R_takesLaw_2 f ls s = some z) (hf : ∀ (x1 : Int32) (x2 : Int32) (s : Mem), f x1 x2 s = some z → RA 2 [some (.ref 123), some (.int x1), some (.int x2)] s) : RA 2 ls s := by
  unfold A_R_takesLaw_2 at h
  split at h
  · rename_i a0 a1 a2 e0 e1 e2
    replace h := cbr_n h
    obtain ⟨hb, h⟩ := h
    cases beq_t hb
    refine hm _ _ [some (.ref 123), some (.int a1), some (.int a2)] _ rfl (fun i v hv => ?_) (hf _ _ _ h)
    match i, hv with
    | 0, hv => exact e0.trans hv
    | 1, hv => exact e1.trans hv
    | 2, hv => exact e2.trans hv
    | i + 3, hv => cases hv
  · cases h
theorem a_R_takesLaw_69 {z : Int32 × Mem} {RA : Nat → List (Option Value) → Mem → Prop} (hm : ∀ (pc : Nat) (ls ls1 : List (Option Value)) (σ : Mem), ls1.length = I_R_takesLaw.2.2.1 → (∀ i v, lk ls1 i = some v → lk ls i = some v) → RA pc ls1 σ → RA pc ls σ) {f : Int32 → Int32 → Mem → Option (Int32 × Mem)} {ls : List (Option Value)} {s : Mem} (h : A_R_takesLaw_69 f ls s = some z) (hf : ∀ (x1 : Int32) (x2 : Int32) (s : Mem), f x1 x2 s = some z → RA 107 [some (.ref 123), some (.int x1), some (.int x2)] s) : RA 107 ls s := by
  unfold A_R_takesLaw_69 at h
  split at h
  · rename_i a0 a1 a2 e0 e1 e2
    replace h := cbr_n h
    obtain ⟨hb, h⟩ := h
    cases beq_t hb
    refine hm _ _ [some (.ref 123), some (.int a1), some (.int a2)] _ rfl (fun i v hv => ?_) (hf _ _ _ h)
    match i, hv with
    | 0, hv => exact e0.trans hv
    | 1, hv => exact e1.trans hv
    | 2, hv => exact e2.trans hv
    | i + 3, hv => cases hv
  · cases h
theorem n_R_takesLaw_69 {z : Int32 × Mem} {RA : Nat → List (Option Value) → Mem → Prop} (S : Sm I_R_takesLaw C_R_takesLaw K_R_takesLaw [2, 107] z RA) : ∀ (n : Nat) (x1 : Int32) (x2 : Int32) (s : Mem), F_R_takesLaw_69 n x1 x2 s = some z → RA 107 [some (.ref 123), some (.int x1), some (.int x2)] s := by
  intro n
  induction n with
  | zero => intro x1 x2 s h; exact nomatch (show (none : Option (Int32 × Mem)) = some z from h)
  | succ n ih =>
    intro x1 x2 s h
    rw [e_R_takesLaw_69] at h
    refine S.2 _ ?_ 700 71 _ _ (ck1_of rfl) h
    intro k ls s h
    replace h := cbr_c h
    rcases h with ⟨hb, h⟩ | ⟨_, h⟩
    · cases beq_t hb
      exact a_R_takesLaw_69 S.1 h ih
    cases h
theorem n_R_takesLaw_2 {z : Int32 × Mem} {RA : Nat → List (Option Value) → Mem → Prop} (S : Sm I_R_takesLaw C_R_takesLaw K_R_takesLaw [2, 107] z RA) : ∀ (n : Nat) (x1 : Int32) (x2 : Int32) (s : Mem), F_R_takesLaw_2 n x1 x2 s = some z → RA 2 [some (.ref 123), some (.int x1), some (.int x2)] s := by
  intro n
  induction n with
  | zero => intro x1 x2 s h; exact nomatch (show (none : Option (Int32 × Mem)) = some z from h)
  | succ n ih =>
    intro x1 x2 s h
    rw [e_R_takesLaw_2] at h
    refine S.2 _ ?_ 700 3 _ _ (ck1_of rfl) h
    intro k ls s h
    replace h := cbr_c h
    rcases h with ⟨hb, h⟩ | ⟨_, h⟩
    · cases beq_t hb
      exact a_R_takesLaw_2 S.1 h ih
    replace h := cbr_c h
    rcases h with ⟨hb, h⟩ | ⟨_, h⟩
    · cases beq_t hb
      exact a_R_takesLaw_69 S.1 h (n_R_takesLaw_69 S gF)
    cases h
theorem l_R_takesLaw (d : Nat) (k : Nat) (av : List Value) (s : Mem) (y : Int32 × Mem) (h : C_R_takesLaw k av s = some y) : Ctr (d + 0) (mtab k) av s y ∧ ((mtab k).2.2.2.2.2 = 77 → ∃ b rest, av = .ref b :: rest ∧ (b = 1001 ∨ b = 1002)) := by
  exact nomatch (show (none : Option (Int32 × Mem)) = some y from h)
theorem c_R_takesLaw {av : List Value} {s : Mem} {z : Int32 × Mem} (h : A_R_takesLaw av s = some z) (d : Nat) : Ctr (d + 1) I_R_takesLaw av s z := by
  unfold A_R_takesLaw at h
  split at h
  · replace h := cbr_n h
    obtain ⟨hb, h⟩ := h
    cases beq_t hb
    refine ctr_of (d := d + 0) (own := 11) (kps := [2, 107]) (code := K_R_takesLaw) (Cl := C_R_takesLaw) o_R_takesLaw rfl (by decide) k_R_takesLaw (l_R_takesLaw d) (c1_of rfl) (Nat.le_of_ble_eq_true rfl) ?_
    intro RA S
    rw [e_R_takesLaw] at h
    refine S.2 _ ?_ 700 0 _ _ (ck1_of rfl) h
    intro k ls s h
    replace h := cbr_c h
    rcases h with ⟨hb, h⟩ | ⟨_, h⟩
    · cases beq_t hb
      exact a_R_takesLaw_2 S.1 h (n_R_takesLaw_2 S gF)
    cases h
  · cases h
set_option maxRecDepth 1000000 in
theorem k_R_readNumber : okC 11 I_R_readNumber.2.2.1 I_R_readNumber.2.1 I_R_readNumber.2.2.2.1 [] K_R_readNumber K_R_readNumber = true := by decide +kernel
theorem l_R_readNumber (d : Nat) (k : Nat) (av : List Value) (s : Mem) (y : Int32 × Mem) (h : C_R_readNumber k av s = some y) : Ctr (d + 3) (mtab k) av s y ∧ ((mtab k).2.2.2.2.2 = 77 → ∃ b rest, av = .ref b :: rest ∧ (b = 1001 ∨ b = 1002)) := by
  unfold C_R_readNumber at h
  replace h := cbr_c h
  rcases h with ⟨hb, h⟩ | ⟨_, h⟩
  · cases beq_t hb
    exact ⟨c_R_isIn h (d + 2), fun q => absurd q (by decide)⟩
  replace h := cbr_c h
  rcases h with ⟨hb, h⟩ | ⟨_, h⟩
  · cases beq_t hb
    exact ⟨c_R_errs h (d + 2), fun q => absurd q (by decide)⟩
  replace h := cbr_c h
  rcases h with ⟨hb, h⟩ | ⟨_, h⟩
  · cases beq_t hb
    exact ⟨c_R_reads h (d + 0), fun q => absurd q (by decide)⟩
  cases h
theorem c_R_readNumber {av : List Value} {s : Mem} {z : Int32 × Mem} (h : A_R_readNumber av s = some z) (d : Nat) : Ctr (d + 4) I_R_readNumber av s z := by
  unfold A_R_readNumber at h
  split at h
  · replace h := cbr_n h
    obtain ⟨hb, h⟩ := h
    cases beq_t hb
    refine ctr_of (d := d + 3) (own := 11) (kps := []) (code := K_R_readNumber) (Cl := C_R_readNumber) o_R_readNumber rfl (by decide) k_R_readNumber (l_R_readNumber d) (c1_of rfl) (Nat.le_of_ble_eq_true rfl) ?_
    intro RA S
    rw [e_R_readNumber] at h
    refine S.2 _ ?_ 700 0 _ _ (ck1_of rfl) h
    intro k ls s h
    cases h
  · cases h
set_option maxRecDepth 1000000 in
theorem k_R_readMark : okC 11 I_R_readMark.2.2.1 I_R_readMark.2.1 I_R_readMark.2.2.2.1 [] K_R_readMark K_R_readMark = true := by decide +kernel
theorem l_R_readMark (d : Nat) (k : Nat) (av : List Value) (s : Mem) (y : Int32 × Mem) (h : C_R_readMark k av s = some y) : Ctr (d + 3) (mtab k) av s y ∧ ((mtab k).2.2.2.2.2 = 77 → ∃ b rest, av = .ref b :: rest ∧ (b = 1001 ∨ b = 1002)) := by
  unfold C_R_readMark at h
  replace h := cbr_c h
  rcases h with ⟨hb, h⟩ | ⟨_, h⟩
  · cases beq_t hb
    exact ⟨c_R_isSign h (d + 2), fun q => absurd q (by decide)⟩
  replace h := cbr_c h
  rcases h with ⟨hb, h⟩ | ⟨_, h⟩
  · cases beq_t hb
    exact ⟨c_R_errs h (d + 2), fun q => absurd q (by decide)⟩
  replace h := cbr_c h
  rcases h with ⟨hb, h⟩ | ⟨_, h⟩
  · cases beq_t hb
    exact ⟨c_R_reads h (d + 0), fun q => absurd q (by decide)⟩
  cases h
theorem c_R_readMark {av : List Value} {s : Mem} {z : Int32 × Mem} (h : A_R_readMark av s = some z) (d : Nat) : Ctr (d + 4) I_R_readMark av s z := by
  unfold A_R_readMark at h
  split at h
  · replace h := cbr_n h
    obtain ⟨hb, h⟩ := h
    cases beq_t hb
    refine ctr_of (d := d + 3) (own := 11) (kps := []) (code := K_R_readMark) (Cl := C_R_readMark) o_R_readMark rfl (by decide) k_R_readMark (l_R_readMark d) (c1_of rfl) (Nat.le_of_ble_eq_true rfl) ?_
    intro RA S
    rw [e_R_readMark] at h
    refine S.2 _ ?_ 700 0 _ _ (ck1_of rfl) h
    intro k ls s h
    cases h
  · cases h
set_option maxRecDepth 1000000 in
theorem k_R_readTold : okC 11 I_R_readTold.2.2.1 I_R_readTold.2.1 I_R_readTold.2.2.2.1 [] K_R_readTold K_R_readTold = true := by decide +kernel
theorem l_R_readTold (d : Nat) (k : Nat) (av : List Value) (s : Mem) (y : Int32 × Mem) (h : C_R_readTold k av s = some y) : Ctr (d + 4) (mtab k) av s y ∧ ((mtab k).2.2.2.2.2 = 77 → ∃ b rest, av = .ref b :: rest ∧ (b = 1001 ∨ b = 1002)) := by
  unfold C_R_readTold at h
  replace h := cbr_c h
  rcases h with ⟨hb, h⟩ | ⟨_, h⟩
  · cases beq_t hb
    exact ⟨c_R_isWord h (d + 3), fun q => absurd q (by decide)⟩
  replace h := cbr_c h
  rcases h with ⟨hb, h⟩ | ⟨_, h⟩
  · cases beq_t hb
    exact ⟨c_R_errs h (d + 3), fun q => absurd q (by decide)⟩
  replace h := cbr_c h
  rcases h with ⟨hb, h⟩ | ⟨_, h⟩
  · cases beq_t hb
    exact ⟨c_R_reads h (d + 1), fun q => absurd q (by decide)⟩
  replace h := cbr_c h
  rcases h with ⟨hb, h⟩ | ⟨_, h⟩
  · cases beq_t hb
    exact ⟨c_R_readNumber h (d + 0), fun q => absurd q (by decide)⟩
  cases h
theorem c_R_readTold {av : List Value} {s : Mem} {z : Int32 × Mem} (h : A_R_readTold av s = some z) (d : Nat) : Ctr (d + 5) I_R_readTold av s z := by
  unfold A_R_readTold at h
  split at h
  · replace h := cbr_n h
    obtain ⟨hb, h⟩ := h
    cases beq_t hb
    refine ctr_of (d := d + 4) (own := 11) (kps := []) (code := K_R_readTold) (Cl := C_R_readTold) o_R_readTold rfl (by decide) k_R_readTold (l_R_readTold d) (c1_of rfl) (Nat.le_of_ble_eq_true rfl) ?_
    intro RA S
    rw [e_R_readTold] at h
    refine S.2 _ ?_ 700 0 _ _ (ck1_of rfl) h
    intro k ls s h
    cases h
  · cases h
set_option maxRecDepth 1000000 in
theorem k_R_readStep : okC 11 I_R_readStep.2.2.1 I_R_readStep.2.1 I_R_readStep.2.2.2.1 [] K_R_readStep K_R_readStep = true := by decide +kernel
theorem l_R_readStep (d : Nat) (k : Nat) (av : List Value) (s : Mem) (y : Int32 × Mem) (h : C_R_readStep k av s = some y) : Ctr (d + 5) (mtab k) av s y ∧ ((mtab k).2.2.2.2.2 = 77 → ∃ b rest, av = .ref b :: rest ∧ (b = 1001 ∨ b = 1002)) := by
  unfold C_R_readStep at h
  replace h := cbr_c h
  rcases h with ⟨hb, h⟩ | ⟨_, h⟩
  · cases beq_t hb
    exact ⟨c_R_readTold h (d + 0), fun q => absurd q (by decide)⟩
  cases h
theorem c_R_readStep {av : List Value} {s : Mem} {z : Int32 × Mem} (h : A_R_readStep av s = some z) (d : Nat) : Ctr (d + 6) I_R_readStep av s z := by
  unfold A_R_readStep at h
  split at h
  · replace h := cbr_n h
    obtain ⟨hb, h⟩ := h
    cases beq_t hb
    refine ctr_of (d := d + 5) (own := 11) (kps := []) (code := K_R_readStep) (Cl := C_R_readStep) o_R_readStep rfl (by decide) k_R_readStep (l_R_readStep d) (c1_of rfl) (Nat.le_of_ble_eq_true rfl) ?_
    intro RA S
    rw [e_R_readStep] at h
    refine S.2 _ ?_ 700 0 _ _ (ck1_of rfl) h
    intro k ls s h
    cases h
  · cases h
set_option maxRecDepth 1000000 in
theorem k_R_kindOfOrder : okC 11 I_R_kindOfOrder.2.2.1 I_R_kindOfOrder.2.1 I_R_kindOfOrder.2.2.2.1 [] K_R_kindOfOrder K_R_kindOfOrder = true := by decide +kernel
theorem l_R_kindOfOrder (d : Nat) (k : Nat) (av : List Value) (s : Mem) (y : Int32 × Mem) (h : C_R_kindOfOrder k av s = some y) : Ctr (d + 1) (mtab k) av s y ∧ ((mtab k).2.2.2.2.2 = 77 → ∃ b rest, av = .ref b :: rest ∧ (b = 1001 ∨ b = 1002)) := by
  unfold C_R_kindOfOrder at h
  replace h := cbr_c h
  rcases h with ⟨hb, h⟩ | ⟨_, h⟩
  · cases beq_t hb
    exact ⟨c_R_isWord h (d + 0), fun q => absurd q (by decide)⟩
  replace h := cbr_c h
  rcases h with ⟨hb, h⟩ | ⟨_, h⟩
  · cases beq_t hb
    exact ⟨c_R_isIn h (d + 0), fun q => absurd q (by decide)⟩
  cases h
theorem c_R_kindOfOrder {av : List Value} {s : Mem} {z : Int32 × Mem} (h : A_R_kindOfOrder av s = some z) (d : Nat) : Ctr (d + 2) I_R_kindOfOrder av s z := by
  unfold A_R_kindOfOrder at h
  split at h
  · replace h := cbr_n h
    obtain ⟨hb, h⟩ := h
    cases beq_t hb
    refine ctr_of (d := d + 1) (own := 11) (kps := []) (code := K_R_kindOfOrder) (Cl := C_R_kindOfOrder) o_R_kindOfOrder rfl (by decide) k_R_kindOfOrder (l_R_kindOfOrder d) (c1_of rfl) (Nat.le_of_ble_eq_true rfl) ?_
    intro RA S
    rw [e_R_kindOfOrder] at h
    refine S.2 _ ?_ 700 0 _ _ (ck1_of rfl) h
    intro k ls s h
    cases h
  · cases h
set_option maxRecDepth 1000000 in
theorem k_R_readOrder : okC 11 I_R_readOrder.2.2.1 I_R_readOrder.2.1 I_R_readOrder.2.2.2.1 [] K_R_readOrder K_R_readOrder = true := by decide +kernel
theorem l_R_readOrder (d : Nat) (k : Nat) (av : List Value) (s : Mem) (y : Int32 × Mem) (h : C_R_readOrder k av s = some y) : Ctr (d + 6) (mtab k) av s y ∧ ((mtab k).2.2.2.2.2 = 77 → ∃ b rest, av = .ref b :: rest ∧ (b = 1001 ∨ b = 1002)) := by
  unfold C_R_readOrder at h
  replace h := cbr_c h
  rcases h with ⟨hb, h⟩ | ⟨_, h⟩
  · cases beq_t hb
    exact ⟨c_R_readTold h (d + 1), fun q => absurd q (by decide)⟩
  replace h := cbr_c h
  rcases h with ⟨hb, h⟩ | ⟨_, h⟩
  · cases beq_t hb
    exact ⟨c_R_readStep h (d + 0), fun q => absurd q (by decide)⟩
  replace h := cbr_c h
  rcases h with ⟨hb, h⟩ | ⟨_, h⟩
  · cases beq_t hb
    exact ⟨c_R_kindOfOrder h (d + 4), fun q => absurd q (by decide)⟩
  replace h := cbr_c h
  rcases h with ⟨hb, h⟩ | ⟨_, h⟩
  · cases beq_t hb
    exact ⟨c_R_errs h (d + 5), fun q => absurd q (by decide)⟩
  replace h := cbr_c h
  rcases h with ⟨hb, h⟩ | ⟨_, h⟩
  · cases beq_t hb
    exact ⟨c_R_reads h (d + 3), fun q => absurd q (by decide)⟩
  replace h := cbr_c h
  rcases h with ⟨hb, h⟩ | ⟨_, h⟩
  · cases beq_t hb
    exact ⟨c_R_readMark h (d + 2), fun q => absurd q (by decide)⟩
  cases h
theorem c_R_readOrder {av : List Value} {s : Mem} {z : Int32 × Mem} (h : A_R_readOrder av s = some z) (d : Nat) : Ctr (d + 7) I_R_readOrder av s z := by
  unfold A_R_readOrder at h
  split at h
  · replace h := cbr_n h
    obtain ⟨hb, h⟩ := h
    cases beq_t hb
    refine ctr_of (d := d + 6) (own := 11) (kps := []) (code := K_R_readOrder) (Cl := C_R_readOrder) o_R_readOrder rfl (by decide) k_R_readOrder (l_R_readOrder d) (c1_of rfl) (Nat.le_of_ble_eq_true rfl) ?_
    intro RA S
    rw [e_R_readOrder] at h
    refine S.2 _ ?_ 700 0 _ _ (ck1_of rfl) h
    intro k ls s h
    cases h
  · cases h
set_option maxRecDepth 1000000 in
theorem k_R_readOrders : okC 11 I_R_readOrders.2.2.1 I_R_readOrders.2.1 I_R_readOrders.2.2.2.1 [2] K_R_readOrders K_R_readOrders = true := by decide +kernel
theorem a_R_readOrders_2 {z : Int32 × Mem} {RA : Nat → List (Option Value) → Mem → Prop} (hm : ∀ (pc : Nat) (ls ls1 : List (Option Value)) (σ : Mem), ls1.length = I_R_readOrders.2.2.1 → (∀ i v, lk ls1 i = some v → lk ls i = some v) → RA pc ls1 σ → RA pc ls σ) {f : Int32 → Mem → Option (Int32 × Mem)} {ls : List (Option Value)} {s : Mem} (h : A_R_readOrders_2 f ls s = some z) (hf : ∀ (x1 : Int32) (s : Mem), f x1 s = some z → RA 2 [some (.ref 123), some (.int x1)] s) : RA 2 ls s := by
  unfold A_R_readOrders_2 at h
  split at h
  · rename_i a0 a1 e0 e1
    replace h := cbr_n h
    obtain ⟨hb, h⟩ := h
    cases beq_t hb
    refine hm _ _ [some (.ref 123), some (.int a1)] _ rfl (fun i v hv => ?_) (hf _ _ h)
    match i, hv with
    | 0, hv => exact e0.trans hv
    | 1, hv => exact e1.trans hv
    | i + 2, hv => cases hv
  · cases h
theorem n_R_readOrders_2 {z : Int32 × Mem} {RA : Nat → List (Option Value) → Mem → Prop} (S : Sm I_R_readOrders C_R_readOrders K_R_readOrders [2] z RA) : ∀ (n : Nat) (x1 : Int32) (s : Mem), F_R_readOrders_2 n x1 s = some z → RA 2 [some (.ref 123), some (.int x1)] s := by
  intro n
  induction n with
  | zero => intro x1 s h; exact nomatch (show (none : Option (Int32 × Mem)) = some z from h)
  | succ n ih =>
    intro x1 s h
    rw [e_R_readOrders_2] at h
    refine S.2 _ ?_ 700 3 _ _ (ck1_of rfl) h
    intro k ls s h
    replace h := cbr_c h
    rcases h with ⟨hb, h⟩ | ⟨_, h⟩
    · cases beq_t hb
      exact a_R_readOrders_2 S.1 h ih
    cases h
theorem l_R_readOrders (d : Nat) (k : Nat) (av : List Value) (s : Mem) (y : Int32 × Mem) (h : C_R_readOrders k av s = some y) : Ctr (d + 7) (mtab k) av s y ∧ ((mtab k).2.2.2.2.2 = 77 → ∃ b rest, av = .ref b :: rest ∧ (b = 1001 ∨ b = 1002)) := by
  unfold C_R_readOrders at h
  replace h := cbr_c h
  rcases h with ⟨hb, h⟩ | ⟨_, h⟩
  · cases beq_t hb
    exact ⟨c_R_isWord h (d + 6), fun q => absurd q (by decide)⟩
  replace h := cbr_c h
  rcases h with ⟨hb, h⟩ | ⟨_, h⟩
  · cases beq_t hb
    exact ⟨c_R_errs h (d + 6), fun q => absurd q (by decide)⟩
  replace h := cbr_c h
  rcases h with ⟨hb, h⟩ | ⟨_, h⟩
  · cases beq_t hb
    exact ⟨c_R_readOrder h (d + 0), fun q => absurd q (by decide)⟩
  cases h
theorem c_R_readOrders {av : List Value} {s : Mem} {z : Int32 × Mem} (h : A_R_readOrders av s = some z) (d : Nat) : Ctr (d + 8) I_R_readOrders av s z := by
  unfold A_R_readOrders at h
  split at h
  · replace h := cbr_n h
    obtain ⟨hb, h⟩ := h
    cases beq_t hb
    refine ctr_of (d := d + 7) (own := 11) (kps := [2]) (code := K_R_readOrders) (Cl := C_R_readOrders) o_R_readOrders rfl (by decide) k_R_readOrders (l_R_readOrders d) (c1_of rfl) (Nat.le_of_ble_eq_true rfl) ?_
    intro RA S
    rw [e_R_readOrders] at h
    refine S.2 _ ?_ 700 0 _ _ (ck1_of rfl) h
    intro k ls s h
    replace h := cbr_c h
    rcases h with ⟨hb, h⟩ | ⟨_, h⟩
    · cases beq_t hb
      exact a_R_readOrders_2 S.1 h (n_R_readOrders_2 S gF)
    cases h
  · cases h
set_option maxRecDepth 1000000 in
theorem k_R_readVisit : okC 11 I_R_readVisit.2.2.1 I_R_readVisit.2.1 I_R_readVisit.2.2.2.1 [] K_R_readVisit K_R_readVisit = true := by decide +kernel
theorem l_R_readVisit (d : Nat) (k : Nat) (av : List Value) (s : Mem) (y : Int32 × Mem) (h : C_R_readVisit k av s = some y) : Ctr (d + 5) (mtab k) av s y ∧ ((mtab k).2.2.2.2.2 = 77 → ∃ b rest, av = .ref b :: rest ∧ (b = 1001 ∨ b = 1002)) := by
  unfold C_R_readVisit at h
  replace h := cbr_c h
  rcases h with ⟨hb, h⟩ | ⟨_, h⟩
  · cases beq_t hb
    exact ⟨c_R_readTold h (d + 0), fun q => absurd q (by decide)⟩
  replace h := cbr_c h
  rcases h with ⟨hb, h⟩ | ⟨_, h⟩
  · cases beq_t hb
    exact ⟨c_R_isWord h (d + 4), fun q => absurd q (by decide)⟩
  replace h := cbr_c h
  rcases h with ⟨hb, h⟩ | ⟨_, h⟩
  · cases beq_t hb
    exact ⟨c_R_errs h (d + 4), fun q => absurd q (by decide)⟩
  replace h := cbr_c h
  rcases h with ⟨hb, h⟩ | ⟨_, h⟩
  · cases beq_t hb
    exact ⟨c_R_reads h (d + 2), fun q => absurd q (by decide)⟩
  replace h := cbr_c h
  rcases h with ⟨hb, h⟩ | ⟨_, h⟩
  · cases beq_t hb
    exact ⟨c_R_readMark h (d + 1), fun q => absurd q (by decide)⟩
  cases h
theorem c_R_readVisit {av : List Value} {s : Mem} {z : Int32 × Mem} (h : A_R_readVisit av s = some z) (d : Nat) : Ctr (d + 6) I_R_readVisit av s z := by
  unfold A_R_readVisit at h
  split at h
  · replace h := cbr_n h
    obtain ⟨hb, h⟩ := h
    cases beq_t hb
    refine ctr_of (d := d + 5) (own := 11) (kps := []) (code := K_R_readVisit) (Cl := C_R_readVisit) o_R_readVisit rfl (by decide) k_R_readVisit (l_R_readVisit d) (c1_of rfl) (Nat.le_of_ble_eq_true rfl) ?_
    intro RA S
    rw [e_R_readVisit] at h
    refine S.2 _ ?_ 700 0 _ _ (ck1_of rfl) h
    intro k ls s h
    cases h
  · cases h
set_option maxRecDepth 1000000 in
theorem k_R_readVisits : okC 11 I_R_readVisits.2.2.1 I_R_readVisits.2.1 I_R_readVisits.2.2.2.1 [2] K_R_readVisits K_R_readVisits = true := by decide +kernel
theorem a_R_readVisits_2 {z : Int32 × Mem} {RA : Nat → List (Option Value) → Mem → Prop} (hm : ∀ (pc : Nat) (ls ls1 : List (Option Value)) (σ : Mem), ls1.length = I_R_readVisits.2.2.1 → (∀ i v, lk ls1 i = some v → lk ls i = some v) → RA pc ls1 σ → RA pc ls σ) {f : Int32 → Mem → Option (Int32 × Mem)} {ls : List (Option Value)} {s : Mem} (h : A_R_readVisits_2 f ls s = some z) (hf : ∀ (x1 : Int32) (s : Mem), f x1 s = some z → RA 2 [some (.ref 123), some (.int x1)] s) : RA 2 ls s := by
  unfold A_R_readVisits_2 at h
  split at h
  · rename_i a0 a1 e0 e1
    replace h := cbr_n h
    obtain ⟨hb, h⟩ := h
    cases beq_t hb
    refine hm _ _ [some (.ref 123), some (.int a1)] _ rfl (fun i v hv => ?_) (hf _ _ h)
    match i, hv with
    | 0, hv => exact e0.trans hv
    | 1, hv => exact e1.trans hv
    | i + 2, hv => cases hv
  · cases h
theorem n_R_readVisits_2 {z : Int32 × Mem} {RA : Nat → List (Option Value) → Mem → Prop} (S : Sm I_R_readVisits C_R_readVisits K_R_readVisits [2] z RA) : ∀ (n : Nat) (x1 : Int32) (s : Mem), F_R_readVisits_2 n x1 s = some z → RA 2 [some (.ref 123), some (.int x1)] s := by
  intro n
  induction n with
  | zero => intro x1 s h; exact nomatch (show (none : Option (Int32 × Mem)) = some z from h)
  | succ n ih =>
    intro x1 s h
    rw [e_R_readVisits_2] at h
    refine S.2 _ ?_ 700 3 _ _ (ck1_of rfl) h
    intro k ls s h
    replace h := cbr_c h
    rcases h with ⟨hb, h⟩ | ⟨_, h⟩
    · cases beq_t hb
      exact a_R_readVisits_2 S.1 h ih
    cases h
theorem l_R_readVisits (d : Nat) (k : Nat) (av : List Value) (s : Mem) (y : Int32 × Mem) (h : C_R_readVisits k av s = some y) : Ctr (d + 6) (mtab k) av s y ∧ ((mtab k).2.2.2.2.2 = 77 → ∃ b rest, av = .ref b :: rest ∧ (b = 1001 ∨ b = 1002)) := by
  unfold C_R_readVisits at h
  replace h := cbr_c h
  rcases h with ⟨hb, h⟩ | ⟨_, h⟩
  · cases beq_t hb
    exact ⟨c_R_isWord h (d + 5), fun q => absurd q (by decide)⟩
  replace h := cbr_c h
  rcases h with ⟨hb, h⟩ | ⟨_, h⟩
  · cases beq_t hb
    exact ⟨c_R_errs h (d + 5), fun q => absurd q (by decide)⟩
  replace h := cbr_c h
  rcases h with ⟨hb, h⟩ | ⟨_, h⟩
  · cases beq_t hb
    exact ⟨c_R_readVisit h (d + 0), fun q => absurd q (by decide)⟩
  cases h
theorem c_R_readVisits {av : List Value} {s : Mem} {z : Int32 × Mem} (h : A_R_readVisits av s = some z) (d : Nat) : Ctr (d + 7) I_R_readVisits av s z := by
  unfold A_R_readVisits at h
  split at h
  · replace h := cbr_n h
    obtain ⟨hb, h⟩ := h
    cases beq_t hb
    refine ctr_of (d := d + 6) (own := 11) (kps := [2]) (code := K_R_readVisits) (Cl := C_R_readVisits) o_R_readVisits rfl (by decide) k_R_readVisits (l_R_readVisits d) (c1_of rfl) (Nat.le_of_ble_eq_true rfl) ?_
    intro RA S
    rw [e_R_readVisits] at h
    refine S.2 _ ?_ 700 0 _ _ (ck1_of rfl) h
    intro k ls s h
    replace h := cbr_c h
    rcases h with ⟨hb, h⟩ | ⟨_, h⟩
    · cases beq_t hb
      exact a_R_readVisits_2 S.1 h (n_R_readVisits_2 S gF)
    cases h
  · cases h
set_option maxRecDepth 1000000 in
theorem k_R_readDoor : okC 11 I_R_readDoor.2.2.1 I_R_readDoor.2.1 I_R_readDoor.2.2.2.1 [] K_R_readDoor K_R_readDoor = true := by decide +kernel
theorem l_R_readDoor (d : Nat) (k : Nat) (av : List Value) (s : Mem) (y : Int32 × Mem) (h : C_R_readDoor k av s = some y) : Ctr (d + 6) (mtab k) av s y ∧ ((mtab k).2.2.2.2.2 = 77 → ∃ b rest, av = .ref b :: rest ∧ (b = 1001 ∨ b = 1002)) := by
  unfold C_R_readDoor at h
  replace h := cbr_c h
  rcases h with ⟨hb, h⟩ | ⟨_, h⟩
  · cases beq_t hb
    exact ⟨c_R_readTold h (d + 1), fun q => absurd q (by decide)⟩
  replace h := cbr_c h
  rcases h with ⟨hb, h⟩ | ⟨_, h⟩
  · cases beq_t hb
    exact ⟨c_R_readStep h (d + 0), fun q => absurd q (by decide)⟩
  replace h := cbr_c h
  rcases h with ⟨hb, h⟩ | ⟨_, h⟩
  · cases beq_t hb
    exact ⟨c_R_isWord h (d + 5), fun q => absurd q (by decide)⟩
  replace h := cbr_c h
  rcases h with ⟨hb, h⟩ | ⟨_, h⟩
  · cases beq_t hb
    exact ⟨c_R_errs h (d + 5), fun q => absurd q (by decide)⟩
  replace h := cbr_c h
  rcases h with ⟨hb, h⟩ | ⟨_, h⟩
  · cases beq_t hb
    exact ⟨c_R_reads h (d + 3), fun q => absurd q (by decide)⟩
  replace h := cbr_c h
  rcases h with ⟨hb, h⟩ | ⟨_, h⟩
  · cases beq_t hb
    exact ⟨c_R_readNumber h (d + 2), fun q => absurd q (by decide)⟩
  replace h := cbr_c h
  rcases h with ⟨hb, h⟩ | ⟨_, h⟩
  · cases beq_t hb
    exact ⟨c_R_readMark h (d + 2), fun q => absurd q (by decide)⟩
  cases h
theorem c_R_readDoor {av : List Value} {s : Mem} {z : Int32 × Mem} (h : A_R_readDoor av s = some z) (d : Nat) : Ctr (d + 7) I_R_readDoor av s z := by
  unfold A_R_readDoor at h
  split at h
  · replace h := cbr_n h
    obtain ⟨hb, h⟩ := h
    cases beq_t hb
    refine ctr_of (d := d + 6) (own := 11) (kps := []) (code := K_R_readDoor) (Cl := C_R_readDoor) o_R_readDoor rfl (by decide) k_R_readDoor (l_R_readDoor d) (c1_of rfl) (Nat.le_of_ble_eq_true rfl) ?_
    intro RA S
    rw [e_R_readDoor] at h
    refine S.2 _ ?_ 700 0 _ _ (ck1_of rfl) h
    intro k ls s h
    cases h
  · cases h
set_option maxRecDepth 1000000 in
theorem k_R_readDoors : okC 11 I_R_readDoors.2.2.1 I_R_readDoors.2.1 I_R_readDoors.2.2.2.1 [2] K_R_readDoors K_R_readDoors = true := by decide +kernel
theorem a_R_readDoors_2 {z : Int32 × Mem} {RA : Nat → List (Option Value) → Mem → Prop} (hm : ∀ (pc : Nat) (ls ls1 : List (Option Value)) (σ : Mem), ls1.length = I_R_readDoors.2.2.1 → (∀ i v, lk ls1 i = some v → lk ls i = some v) → RA pc ls1 σ → RA pc ls σ) {f : Int32 → Mem → Option (Int32 × Mem)} {ls : List (Option Value)} {s : Mem} (h : A_R_readDoors_2 f ls s = some z) (hf : ∀ (x1 : Int32) (s : Mem), f x1 s = some z → RA 2 [some (.ref 123), some (.int x1)] s) : RA 2 ls s := by
  unfold A_R_readDoors_2 at h
  split at h
  · rename_i a0 a1 e0 e1
    replace h := cbr_n h
    obtain ⟨hb, h⟩ := h
    cases beq_t hb
    refine hm _ _ [some (.ref 123), some (.int a1)] _ rfl (fun i v hv => ?_) (hf _ _ h)
    match i, hv with
    | 0, hv => exact e0.trans hv
    | 1, hv => exact e1.trans hv
    | i + 2, hv => cases hv
  · cases h
theorem n_R_readDoors_2 {z : Int32 × Mem} {RA : Nat → List (Option Value) → Mem → Prop} (S : Sm I_R_readDoors C_R_readDoors K_R_readDoors [2] z RA) : ∀ (n : Nat) (x1 : Int32) (s : Mem), F_R_readDoors_2 n x1 s = some z → RA 2 [some (.ref 123), some (.int x1)] s := by
  intro n
  induction n with
  | zero => intro x1 s h; exact nomatch (show (none : Option (Int32 × Mem)) = some z from h)
  | succ n ih =>
    intro x1 s h
    rw [e_R_readDoors_2] at h
    refine S.2 _ ?_ 700 3 _ _ (ck1_of rfl) h
    intro k ls s h
    replace h := cbr_c h
    rcases h with ⟨hb, h⟩ | ⟨_, h⟩
    · cases beq_t hb
      exact a_R_readDoors_2 S.1 h ih
    cases h
theorem l_R_readDoors (d : Nat) (k : Nat) (av : List Value) (s : Mem) (y : Int32 × Mem) (h : C_R_readDoors k av s = some y) : Ctr (d + 7) (mtab k) av s y ∧ ((mtab k).2.2.2.2.2 = 77 → ∃ b rest, av = .ref b :: rest ∧ (b = 1001 ∨ b = 1002)) := by
  unfold C_R_readDoors at h
  replace h := cbr_c h
  rcases h with ⟨hb, h⟩ | ⟨_, h⟩
  · cases beq_t hb
    exact ⟨c_R_isWord h (d + 6), fun q => absurd q (by decide)⟩
  replace h := cbr_c h
  rcases h with ⟨hb, h⟩ | ⟨_, h⟩
  · cases beq_t hb
    exact ⟨c_R_errs h (d + 6), fun q => absurd q (by decide)⟩
  replace h := cbr_c h
  rcases h with ⟨hb, h⟩ | ⟨_, h⟩
  · cases beq_t hb
    exact ⟨c_R_readDoor h (d + 0), fun q => absurd q (by decide)⟩
  cases h
theorem c_R_readDoors {av : List Value} {s : Mem} {z : Int32 × Mem} (h : A_R_readDoors av s = some z) (d : Nat) : Ctr (d + 8) I_R_readDoors av s z := by
  unfold A_R_readDoors at h
  split at h
  · replace h := cbr_n h
    obtain ⟨hb, h⟩ := h
    cases beq_t hb
    refine ctr_of (d := d + 7) (own := 11) (kps := [2]) (code := K_R_readDoors) (Cl := C_R_readDoors) o_R_readDoors rfl (by decide) k_R_readDoors (l_R_readDoors d) (c1_of rfl) (Nat.le_of_ble_eq_true rfl) ?_
    intro RA S
    rw [e_R_readDoors] at h
    refine S.2 _ ?_ 700 0 _ _ (ck1_of rfl) h
    intro k ls s h
    replace h := cbr_c h
    rcases h with ⟨hb, h⟩ | ⟨_, h⟩
    · cases beq_t hb
      exact a_R_readDoors_2 S.1 h (n_R_readDoors_2 S gF)
    cases h
  · cases h
set_option maxRecDepth 1000000 in
theorem k_R_readsText : okC 11 I_R_readsText.2.2.1 I_R_readsText.2.1 I_R_readsText.2.2.2.1 [] K_R_readsText K_R_readsText = true := by decide +kernel
theorem l_R_readsText (d : Nat) (k : Nat) (av : List Value) (s : Mem) (y : Int32 × Mem) (h : C_R_readsText k av s = some y) : Ctr (d + 9) (mtab k) av s y ∧ ((mtab k).2.2.2.2.2 = 77 → ∃ b rest, av = .ref b :: rest ∧ (b = 1001 ∨ b = 1002)) := by
  unfold C_R_readsText at h
  replace h := cbr_c h
  rcases h with ⟨hb, h⟩ | ⟨_, h⟩
  · cases beq_t hb
    exact ⟨c_R_reads h (d + 6), fun q => absurd q (by decide)⟩
  replace h := cbr_c h
  rcases h with ⟨hb, h⟩ | ⟨_, h⟩
  · cases beq_t hb
    exact ⟨c_R_readOrders h (d + 1), fun q => absurd q (by decide)⟩
  replace h := cbr_c h
  rcases h with ⟨hb, h⟩ | ⟨_, h⟩
  · cases beq_t hb
    exact ⟨c_R_readVisits h (d + 2), fun q => absurd q (by decide)⟩
  replace h := cbr_c h
  rcases h with ⟨hb, h⟩ | ⟨_, h⟩
  · cases beq_t hb
    exact ⟨c_R_readDoors h (d + 1), fun q => absurd q (by decide)⟩
  replace h := cbr_c h
  rcases h with ⟨hb, h⟩ | ⟨_, h⟩
  · cases beq_t hb
    exact ⟨c_R_readLaw h (d + 0), fun q => absurd q (by decide)⟩
  cases h
theorem c_R_readsText {av : List Value} {s : Mem} {z : Int32 × Mem} (h : A_R_readsText av s = some z) (d : Nat) : Ctr (d + 10) I_R_readsText av s z := by
  unfold A_R_readsText at h
  split at h
  · replace h := cbr_n h
    obtain ⟨hb, h⟩ := h
    cases beq_t hb
    refine ctr_of (d := d + 9) (own := 11) (kps := []) (code := K_R_readsText) (Cl := C_R_readsText) o_R_readsText rfl (by decide) k_R_readsText (l_R_readsText d) (c1_of rfl) (Nat.le_of_ble_eq_true rfl) ?_
    intro RA S
    rw [e_R_readsText] at h
    refine S.2 _ ?_ 700 0 _ _ (ck1_of rfl) h
    intro k ls s h
    cases h
  · cases h
set_option maxRecDepth 1000000 in
theorem k_R_takesOther : okC 11 I_R_takesOther.2.2.1 I_R_takesOther.2.1 I_R_takesOther.2.2.2.1 [7, 48, 86] K_R_takesOther K_R_takesOther = true := by decide +kernel
theorem a_R_takesOther_5 {z : Int32 × Mem} {RA : Nat → List (Option Value) → Mem → Prop} (hm : ∀ (pc : Nat) (ls ls1 : List (Option Value)) (σ : Mem), ls1.length = I_R_takesOther.2.2.1 → (∀ i v, lk ls1 i = some v → lk ls i = some v) → RA pc ls1 σ → RA pc ls σ) {f : Int32 → Int32 → Mem → Option (Int32 × Mem)} {ls : List (Option Value)} {s : Mem} (h : A_R_takesOther_5 f ls s = some z) (hf : ∀ (x2 : Int32) (x3 : Int32) (s : Mem), f x2 x3 s = some z → RA 7 [some (.ref 123), none, some (.int x2), some (.int x3)] s) : RA 7 ls s := by
  unfold A_R_takesOther_5 at h
  split at h
  · rename_i a0 a1 a2 e0 e1 e2
    replace h := cbr_n h
    obtain ⟨hb, h⟩ := h
    cases beq_t hb
    refine hm _ _ [some (.ref 123), none, some (.int a1), some (.int a2)] _ rfl (fun i v hv => ?_) (hf _ _ _ h)
    match i, hv with
    | 0, hv => exact e0.trans hv
    | 1, hv => cases hv
    | 2, hv => exact e1.trans hv
    | 3, hv => exact e2.trans hv
    | i + 4, hv => cases hv
  · cases h
theorem a_R_takesOther_31 {z : Int32 × Mem} {RA : Nat → List (Option Value) → Mem → Prop} (hm : ∀ (pc : Nat) (ls ls1 : List (Option Value)) (σ : Mem), ls1.length = I_R_takesOther.2.2.1 → (∀ i v, lk ls1 i = some v → lk ls i = some v) → RA pc ls1 σ → RA pc ls σ) {f : Int32 → Int32 → Mem → Option (Int32 × Mem)} {ls : List (Option Value)} {s : Mem} (h : A_R_takesOther_31 f ls s = some z) (hf : ∀ (x2 : Int32) (x3 : Int32) (s : Mem), f x2 x3 s = some z → RA 48 [some (.ref 123), none, some (.int x2), some (.int x3)] s) : RA 48 ls s := by
  unfold A_R_takesOther_31 at h
  split at h
  · rename_i a0 a1 a2 e0 e1 e2
    replace h := cbr_n h
    obtain ⟨hb, h⟩ := h
    cases beq_t hb
    refine hm _ _ [some (.ref 123), none, some (.int a1), some (.int a2)] _ rfl (fun i v hv => ?_) (hf _ _ _ h)
    match i, hv with
    | 0, hv => exact e0.trans hv
    | 1, hv => cases hv
    | 2, hv => exact e1.trans hv
    | 3, hv => exact e2.trans hv
    | i + 4, hv => cases hv
  · cases h
theorem a_R_takesOther_54 {z : Int32 × Mem} {RA : Nat → List (Option Value) → Mem → Prop} (hm : ∀ (pc : Nat) (ls ls1 : List (Option Value)) (σ : Mem), ls1.length = I_R_takesOther.2.2.1 → (∀ i v, lk ls1 i = some v → lk ls i = some v) → RA pc ls1 σ → RA pc ls σ) {f : Int32 → Int32 → Mem → Option (Int32 × Mem)} {ls : List (Option Value)} {s : Mem} (h : A_R_takesOther_54 f ls s = some z) (hf : ∀ (x2 : Int32) (x3 : Int32) (s : Mem), f x2 x3 s = some z → RA 86 [some (.ref 123), none, some (.int x2), some (.int x3)] s) : RA 86 ls s := by
  unfold A_R_takesOther_54 at h
  split at h
  · rename_i a0 a1 a2 e0 e1 e2
    replace h := cbr_n h
    obtain ⟨hb, h⟩ := h
    cases beq_t hb
    refine hm _ _ [some (.ref 123), none, some (.int a1), some (.int a2)] _ rfl (fun i v hv => ?_) (hf _ _ _ h)
    match i, hv with
    | 0, hv => exact e0.trans hv
    | 1, hv => cases hv
    | 2, hv => exact e1.trans hv
    | 3, hv => exact e2.trans hv
    | i + 4, hv => cases hv
  · cases h
theorem n_R_takesOther_5 {z : Int32 × Mem} {RA : Nat → List (Option Value) → Mem → Prop} (S : Sm I_R_takesOther C_R_takesOther K_R_takesOther [7, 48, 86] z RA) : ∀ (n : Nat) (x2 : Int32) (x3 : Int32) (s : Mem), F_R_takesOther_5 n x2 x3 s = some z → RA 7 [some (.ref 123), none, some (.int x2), some (.int x3)] s := by
  intro n
  induction n with
  | zero => intro x2 x3 s h; exact nomatch (show (none : Option (Int32 × Mem)) = some z from h)
  | succ n ih =>
    intro x2 x3 s h
    rw [e_R_takesOther_5] at h
    refine S.2 _ ?_ 700 6 _ _ (ck1_of rfl) h
    intro k ls s h
    replace h := cbr_c h
    rcases h with ⟨hb, h⟩ | ⟨_, h⟩
    · cases beq_t hb
      exact a_R_takesOther_5 S.1 h ih
    cases h
theorem n_R_takesOther_31 {z : Int32 × Mem} {RA : Nat → List (Option Value) → Mem → Prop} (S : Sm I_R_takesOther C_R_takesOther K_R_takesOther [7, 48, 86] z RA) : ∀ (n : Nat) (x2 : Int32) (x3 : Int32) (s : Mem), F_R_takesOther_31 n x2 x3 s = some z → RA 48 [some (.ref 123), none, some (.int x2), some (.int x3)] s := by
  intro n
  induction n with
  | zero => intro x2 x3 s h; exact nomatch (show (none : Option (Int32 × Mem)) = some z from h)
  | succ n ih =>
    intro x2 x3 s h
    rw [e_R_takesOther_31] at h
    refine S.2 _ ?_ 700 33 _ _ (ck1_of rfl) h
    intro k ls s h
    replace h := cbr_c h
    rcases h with ⟨hb, h⟩ | ⟨_, h⟩
    · cases beq_t hb
      exact a_R_takesOther_31 S.1 h ih
    cases h
theorem n_R_takesOther_54 {z : Int32 × Mem} {RA : Nat → List (Option Value) → Mem → Prop} (S : Sm I_R_takesOther C_R_takesOther K_R_takesOther [7, 48, 86] z RA) : ∀ (n : Nat) (x2 : Int32) (x3 : Int32) (s : Mem), F_R_takesOther_54 n x2 x3 s = some z → RA 86 [some (.ref 123), none, some (.int x2), some (.int x3)] s := by
  intro n
  induction n with
  | zero => intro x2 x3 s h; exact nomatch (show (none : Option (Int32 × Mem)) = some z from h)
  | succ n ih =>
    intro x2 x3 s h
    rw [e_R_takesOther_54] at h
    refine S.2 _ ?_ 700 57 _ _ (ck1_of rfl) h
    intro k ls s h
    replace h := cbr_c h
    rcases h with ⟨hb, h⟩ | ⟨_, h⟩
    · cases beq_t hb
      exact a_R_takesOther_54 S.1 h ih
    cases h
theorem l_R_takesOther (d : Nat) (k : Nat) (av : List Value) (s : Mem) (y : Int32 × Mem) (h : C_R_takesOther k av s = some y) : Ctr (d + 0) (mtab k) av s y ∧ ((mtab k).2.2.2.2.2 = 77 → ∃ b rest, av = .ref b :: rest ∧ (b = 1001 ∨ b = 1002)) := by
  exact nomatch (show (none : Option (Int32 × Mem)) = some y from h)
theorem c_R_takesOther {av : List Value} {s : Mem} {z : Int32 × Mem} (h : A_R_takesOther av s = some z) (d : Nat) : Ctr (d + 1) I_R_takesOther av s z := by
  unfold A_R_takesOther at h
  split at h
  · replace h := cbr_n h
    obtain ⟨hb, h⟩ := h
    cases beq_t hb
    refine ctr_of (d := d + 0) (own := 11) (kps := [7, 48, 86]) (code := K_R_takesOther) (Cl := C_R_takesOther) o_R_takesOther rfl (by decide) k_R_takesOther (l_R_takesOther d) (c1_of rfl) (Nat.le_of_ble_eq_true rfl) ?_
    intro RA S
    rw [e_R_takesOther] at h
    refine S.2 _ ?_ 700 0 _ _ (ck1_of rfl) h
    intro k ls s h
    replace h := cbr_c h
    rcases h with ⟨hb, h⟩ | ⟨_, h⟩
    · cases beq_t hb
      exact a_R_takesOther_5 S.1 h (n_R_takesOther_5 S gF)
    replace h := cbr_c h
    rcases h with ⟨hb, h⟩ | ⟨_, h⟩
    · cases beq_t hb
      exact a_R_takesOther_31 S.1 h (n_R_takesOther_31 S gF)
    replace h := cbr_c h
    rcases h with ⟨hb, h⟩ | ⟨_, h⟩
    · cases beq_t hb
      exact a_R_takesOther_54 S.1 h (n_R_takesOther_54 S gF)
    cases h
  · cases h
set_option maxRecDepth 1000000 in
theorem k_R_text : okC 11 I_R_text.2.2.1 I_R_text.2.1 I_R_text.2.2.2.1 [] K_R_text K_R_text = true := by decide +kernel
theorem l_R_text (d : Nat) (k : Nat) (av : List Value) (s : Mem) (y : Int32 × Mem) (h : C_R_text k av s = some y) : Ctr (d + 10) (mtab k) av s y ∧ ((mtab k).2.2.2.2.2 = 77 → ∃ b rest, av = .ref b :: rest ∧ (b = 1001 ∨ b = 1002)) := by
  unfold C_R_text at h
  replace h := cbr_c h
  rcases h with ⟨hb, h⟩ | ⟨_, h⟩
  · cases beq_t hb
    exact ⟨c_R_isIn h (d + 9), fun q => absurd q (by decide)⟩
  replace h := cbr_c h
  rcases h with ⟨hb, h⟩ | ⟨_, h⟩
  · cases beq_t hb
    exact ⟨c_R_takesLaw h (d + 9), fun q => absurd q (by decide)⟩
  replace h := cbr_c h
  rcases h with ⟨hb, h⟩ | ⟨_, h⟩
  · cases beq_t hb
    exact ⟨c_R_takesOther h (d + 9), fun q => absurd q (by decide)⟩
  replace h := cbr_c h
  rcases h with ⟨hb, h⟩ | ⟨_, h⟩
  · cases beq_t hb
    exact ⟨c_R_readsText h (d + 0), fun q => absurd q (by decide)⟩
  cases h
theorem c_R_text {av : List Value} {s : Mem} {z : Int32 × Mem} (h : A_R_text av s = some z) (d : Nat) : Ctr (d + 11) I_R_text av s z := by
  unfold A_R_text at h
  split at h
  · replace h := cbr_n h
    obtain ⟨hb, h⟩ := h
    cases beq_t hb
    refine ctr_of (d := d + 10) (own := 11) (kps := []) (code := K_R_text) (Cl := C_R_text) o_R_text rfl (by decide) k_R_text (l_R_text d) (c1_of rfl) (Nat.le_of_ble_eq_true rfl) ?_
    intro RA S
    rw [e_R_text] at h
    refine S.2 _ ?_ 700 0 _ _ (ck1_of rfl) h
    intro k ls s h
    cases h
  · cases h
set_option maxRecDepth 1000000 in
theorem k_R_fault : okC 11 I_R_fault.2.2.1 I_R_fault.2.1 I_R_fault.2.2.2.1 [] K_R_fault K_R_fault = true := by decide +kernel
theorem l_R_fault (d : Nat) (k : Nat) (av : List Value) (s : Mem) (y : Int32 × Mem) (h : C_R_fault k av s = some y) : Ctr (d + 0) (mtab k) av s y ∧ ((mtab k).2.2.2.2.2 = 77 → ∃ b rest, av = .ref b :: rest ∧ (b = 1001 ∨ b = 1002)) := by
  exact nomatch (show (none : Option (Int32 × Mem)) = some y from h)
theorem c_R_fault {av : List Value} {s : Mem} {z : Int32 × Mem} (h : A_R_fault av s = some z) (d : Nat) : Ctr (d + 1) I_R_fault av s z := by
  unfold A_R_fault at h
  split at h
  · replace h := cbr_n h
    obtain ⟨hb, h⟩ := h
    cases beq_t hb
    refine ctr_of (d := d + 0) (own := 11) (kps := []) (code := K_R_fault) (Cl := C_R_fault) o_R_fault rfl (by decide) k_R_fault (l_R_fault d) (c1_of rfl) (Nat.le_of_ble_eq_true rfl) ?_
    intro RA S
    rw [e_R_fault] at h
    refine S.2 _ ?_ 700 0 _ _ (ck1_of rfl) h
    intro k ls s h
    cases h
  · cases h
set_option maxRecDepth 1000000 in
theorem k_R_twoOf : okC 11 I_R_twoOf.2.2.1 I_R_twoOf.2.1 I_R_twoOf.2.2.2.1 [] K_R_twoOf K_R_twoOf = true := by decide +kernel
theorem l_R_twoOf (d : Nat) (k : Nat) (av : List Value) (s : Mem) (y : Int32 × Mem) (h : C_R_twoOf k av s = some y) : Ctr (d + 0) (mtab k) av s y ∧ ((mtab k).2.2.2.2.2 = 77 → ∃ b rest, av = .ref b :: rest ∧ (b = 1001 ∨ b = 1002)) := by
  exact nomatch (show (none : Option (Int32 × Mem)) = some y from h)
theorem c_R_twoOf {av : List Value} {s : Mem} {z : Int32 × Mem} (h : A_R_twoOf av s = some z) (d : Nat) : Ctr (d + 1) I_R_twoOf av s z := by
  unfold A_R_twoOf at h
  split at h
  · replace h := cbr_n h
    obtain ⟨hb, h⟩ := h
    cases beq_t hb
    refine ctr_of (d := d + 0) (own := 11) (kps := []) (code := K_R_twoOf) (Cl := C_R_twoOf) o_R_twoOf rfl (by decide) k_R_twoOf (l_R_twoOf d) (c1_of rfl) (Nat.le_of_ble_eq_true rfl) ?_
    intro RA S
    rw [e_R_twoOf] at h
    refine S.2 _ ?_ 700 0 _ _ (ck1_of rfl) h
    intro k ls s h
    cases h
  · cases h
set_option maxRecDepth 1000000 in
theorem k_R_runs : okC 11 I_R_runs.2.2.1 I_R_runs.2.1 I_R_runs.2.2.2.1 [12] K_R_runs K_R_runs = true := by decide +kernel
theorem a_R_runs_8 {z : Int32 × Mem} {RA : Nat → List (Option Value) → Mem → Prop} (hm : ∀ (pc : Nat) (ls ls1 : List (Option Value)) (σ : Mem), ls1.length = I_R_runs.2.2.1 → (∀ i v, lk ls1 i = some v → lk ls i = some v) → RA pc ls1 σ → RA pc ls σ) {f : Int32 → Int32 → Int32 → Int32 → Mem → Option (Int32 × Mem)} {ls : List (Option Value)} {s : Mem} (h : A_R_runs_8 f ls s = some z) (hf : ∀ (x1 : Int32) (x3 : Int32) (x4 : Int32) (x5 : Int32) (s : Mem), f x1 x3 x4 x5 s = some z → RA 12 [some (.ref 123), some (.int x1), none, some (.int x3), some (.int x4), some (.int x5)] s) : RA 12 ls s := by
  unfold A_R_runs_8 at h
  split at h
  · rename_i a0 a1 a2 a3 a4 e0 e1 e2 e3 e4
    replace h := cbr_n h
    obtain ⟨hb, h⟩ := h
    cases beq_t hb
    refine hm _ _ [some (.ref 123), some (.int a1), none, some (.int a2), some (.int a3), some (.int a4)] _ rfl (fun i v hv => ?_) (hf _ _ _ _ _ h)
    match i, hv with
    | 0, hv => exact e0.trans hv
    | 1, hv => exact e1.trans hv
    | 2, hv => cases hv
    | 3, hv => exact e2.trans hv
    | 4, hv => exact e3.trans hv
    | 5, hv => exact e4.trans hv
    | i + 6, hv => cases hv
  · cases h
theorem n_R_runs_8 {z : Int32 × Mem} {RA : Nat → List (Option Value) → Mem → Prop} (S : Sm I_R_runs C_R_runs K_R_runs [12] z RA) : ∀ (n : Nat) (x1 : Int32) (x3 : Int32) (x4 : Int32) (x5 : Int32) (s : Mem), F_R_runs_8 n x1 x3 x4 x5 s = some z → RA 12 [some (.ref 123), some (.int x1), none, some (.int x3), some (.int x4), some (.int x5)] s := by
  intro n
  induction n with
  | zero => intro x1 x3 x4 x5 s h; exact nomatch (show (none : Option (Int32 × Mem)) = some z from h)
  | succ n ih =>
    intro x1 x3 x4 x5 s h
    rw [e_R_runs_8] at h
    refine S.2 _ ?_ 700 9 _ _ (ck1_of rfl) h
    intro k ls s h
    replace h := cbr_c h
    rcases h with ⟨hb, h⟩ | ⟨_, h⟩
    · cases beq_t hb
      exact a_R_runs_8 S.1 h ih
    cases h
theorem l_R_runs (d : Nat) (k : Nat) (av : List Value) (s : Mem) (y : Int32 × Mem) (h : C_R_runs k av s = some y) : Ctr (d + 1) (mtab k) av s y ∧ ((mtab k).2.2.2.2.2 = 77 → ∃ b rest, av = .ref b :: rest ∧ (b = 1001 ∨ b = 1002)) := by
  unfold C_R_runs at h
  replace h := cbr_c h
  rcases h with ⟨hb, h⟩ | ⟨_, h⟩
  · cases beq_t hb
    exact ⟨c_R_twoOf h (d + 0), fun q => absurd q (by decide)⟩
  cases h
theorem c_R_runs {av : List Value} {s : Mem} {z : Int32 × Mem} (h : A_R_runs av s = some z) (d : Nat) : Ctr (d + 2) I_R_runs av s z := by
  unfold A_R_runs at h
  split at h
  · replace h := cbr_n h
    obtain ⟨hb, h⟩ := h
    cases beq_t hb
    refine ctr_of (d := d + 1) (own := 11) (kps := [12]) (code := K_R_runs) (Cl := C_R_runs) o_R_runs rfl (by decide) k_R_runs (l_R_runs d) (c1_of rfl) (Nat.le_of_ble_eq_true rfl) ?_
    intro RA S
    rw [e_R_runs] at h
    refine S.2 _ ?_ 700 0 _ _ (ck1_of rfl) h
    intro k ls s h
    replace h := cbr_c h
    rcases h with ⟨hb, h⟩ | ⟨_, h⟩
    · cases beq_t hb
      exact a_R_runs_8 S.1 h (n_R_runs_8 S gF)
    cases h
  · cases h
set_option maxRecDepth 1000000 in
theorem k_R_lineOf : okC 11 I_R_lineOf.2.2.1 I_R_lineOf.2.1 I_R_lineOf.2.2.2.1 [2] K_R_lineOf K_R_lineOf = true := by decide +kernel
theorem a_R_lineOf_2 {z : Int32 × Mem} {RA : Nat → List (Option Value) → Mem → Prop} (hm : ∀ (pc : Nat) (ls ls1 : List (Option Value)) (σ : Mem), ls1.length = I_R_lineOf.2.2.1 → (∀ i v, lk ls1 i = some v → lk ls i = some v) → RA pc ls1 σ → RA pc ls σ) {f : Int32 → Int32 → Mem → Option (Int32 × Mem)} {ls : List (Option Value)} {s : Mem} (h : A_R_lineOf_2 f ls s = some z) (hf : ∀ (x1 : Int32) (x2 : Int32) (s : Mem), f x1 x2 s = some z → RA 2 [some (.ref 123), some (.int x1), some (.int x2)] s) : RA 2 ls s := by
  unfold A_R_lineOf_2 at h
  split at h
  · rename_i a0 a1 a2 e0 e1 e2
    replace h := cbr_n h
    obtain ⟨hb, h⟩ := h
    cases beq_t hb
    refine hm _ _ [some (.ref 123), some (.int a1), some (.int a2)] _ rfl (fun i v hv => ?_) (hf _ _ _ h)
    match i, hv with
    | 0, hv => exact e0.trans hv
    | 1, hv => exact e1.trans hv
    | 2, hv => exact e2.trans hv
    | i + 3, hv => cases hv
  · cases h
theorem n_R_lineOf_2 {z : Int32 × Mem} {RA : Nat → List (Option Value) → Mem → Prop} (S : Sm I_R_lineOf C_R_lineOf K_R_lineOf [2] z RA) : ∀ (n : Nat) (x1 : Int32) (x2 : Int32) (s : Mem), F_R_lineOf_2 n x1 x2 s = some z → RA 2 [some (.ref 123), some (.int x1), some (.int x2)] s := by
  intro n
  induction n with
  | zero => intro x1 x2 s h; exact nomatch (show (none : Option (Int32 × Mem)) = some z from h)
  | succ n ih =>
    intro x1 x2 s h
    rw [e_R_lineOf_2] at h
    refine S.2 _ ?_ 700 3 _ _ (ck1_of rfl) h
    intro k ls s h
    replace h := cbr_c h
    rcases h with ⟨hb, h⟩ | ⟨_, h⟩
    · cases beq_t hb
      exact a_R_lineOf_2 S.1 h ih
    cases h
theorem l_R_lineOf (d : Nat) (k : Nat) (av : List Value) (s : Mem) (y : Int32 × Mem) (h : C_R_lineOf k av s = some y) : Ctr (d + 2) (mtab k) av s y ∧ ((mtab k).2.2.2.2.2 = 77 → ∃ b rest, av = .ref b :: rest ∧ (b = 1001 ∨ b = 1002)) := by
  unfold C_R_lineOf at h
  replace h := cbr_c h
  rcases h with ⟨hb, h⟩ | ⟨_, h⟩
  · cases beq_t hb
    exact ⟨c_R_runs h (d + 0), fun q => absurd q (by decide)⟩
  cases h
theorem c_R_lineOf {av : List Value} {s : Mem} {z : Int32 × Mem} (h : A_R_lineOf av s = some z) (d : Nat) : Ctr (d + 3) I_R_lineOf av s z := by
  unfold A_R_lineOf at h
  split at h
  · replace h := cbr_n h
    obtain ⟨hb, h⟩ := h
    cases beq_t hb
    refine ctr_of (d := d + 2) (own := 11) (kps := [2]) (code := K_R_lineOf) (Cl := C_R_lineOf) o_R_lineOf rfl (by decide) k_R_lineOf (l_R_lineOf d) (c1_of rfl) (Nat.le_of_ble_eq_true rfl) ?_
    intro RA S
    rw [e_R_lineOf] at h
    refine S.2 _ ?_ 700 0 _ _ (ck1_of rfl) h
    intro k ls s h
    replace h := cbr_c h
    rcases h with ⟨hb, h⟩ | ⟨_, h⟩
    · cases beq_t hb
      exact a_R_lineOf_2 S.1 h (n_R_lineOf_2 S gF)
    cases h
  · cases h
set_option maxRecDepth 1000000 in
theorem k_R_asks : okC 11 I_R_asks.2.2.1 I_R_asks.2.1 I_R_asks.2.2.2.1 [] K_R_asks K_R_asks = true := by decide +kernel
theorem l_R_asks (d : Nat) (k : Nat) (av : List Value) (s : Mem) (y : Int32 × Mem) (h : C_R_asks k av s = some y) : Ctr (d + 1) (mtab k) av s y ∧ ((mtab k).2.2.2.2.2 = 77 → ∃ b rest, av = .ref b :: rest ∧ (b = 1001 ∨ b = 1002)) := by
  unfold C_R_asks at h
  replace h := cbr_c h
  rcases h with ⟨hb, h⟩ | ⟨_, h⟩
  · cases beq_t hb
    exact ⟨c_R_lesser h (d + 0), fun q => absurd q (by decide)⟩
  cases h
theorem c_R_asks {av : List Value} {s : Mem} {z : Int32 × Mem} (h : A_R_asks av s = some z) (d : Nat) : Ctr (d + 2) I_R_asks av s z := by
  unfold A_R_asks at h
  split at h
  · replace h := cbr_n h
    obtain ⟨hb, h⟩ := h
    cases beq_t hb
    refine ctr_of (d := d + 1) (own := 11) (kps := []) (code := K_R_asks) (Cl := C_R_asks) o_R_asks rfl (by decide) k_R_asks (l_R_asks d) (c1_of rfl) (Nat.le_of_ble_eq_true rfl) ?_
    intro RA S
    rw [e_R_asks] at h
    refine S.2 _ ?_ 700 0 _ _ (ck1_of rfl) h
    intro k ls s h
    cases h
  · cases h
set_option maxRecDepth 1000000 in
theorem k_R_lawTells : okC 11 I_R_lawTells.2.2.1 I_R_lawTells.2.1 I_R_lawTells.2.2.2.1 [] K_R_lawTells K_R_lawTells = true := by decide +kernel
theorem l_R_lawTells (d : Nat) (k : Nat) (av : List Value) (s : Mem) (y : Int32 × Mem) (h : C_R_lawTells k av s = some y) : Ctr (d + 3) (mtab k) av s y ∧ ((mtab k).2.2.2.2.2 = 77 → ∃ b rest, av = .ref b :: rest ∧ (b = 1001 ∨ b = 1002)) := by
  unfold C_R_lawTells at h
  replace h := cbr_c h
  rcases h with ⟨hb, h⟩ | ⟨_, h⟩
  · cases beq_t hb
    exact ⟨c_R_lineOf h (d + 0), fun q => absurd q (by decide)⟩
  replace h := cbr_c h
  rcases h with ⟨hb, h⟩ | ⟨_, h⟩
  · cases beq_t hb
    exact ⟨c_R_held h (d + 2), fun q => absurd q (by decide)⟩
  replace h := cbr_c h
  rcases h with ⟨hb, h⟩ | ⟨_, h⟩
  · cases beq_t hb
    exact ⟨c_R_runs h (d + 1), fun q => absurd q (by decide)⟩
  cases h
theorem c_R_lawTells {av : List Value} {s : Mem} {z : Int32 × Mem} (h : A_R_lawTells av s = some z) (d : Nat) : Ctr (d + 4) I_R_lawTells av s z := by
  unfold A_R_lawTells at h
  split at h
  · replace h := cbr_n h
    obtain ⟨hb, h⟩ := h
    cases beq_t hb
    refine ctr_of (d := d + 3) (own := 11) (kps := []) (code := K_R_lawTells) (Cl := C_R_lawTells) o_R_lawTells rfl (by decide) k_R_lawTells (l_R_lawTells d) (c1_of rfl) (Nat.le_of_ble_eq_true rfl) ?_
    intro RA S
    rw [e_R_lawTells] at h
    refine S.2 _ ?_ 700 0 _ _ (ck1_of rfl) h
    intro k ls s h
    cases h
  · cases h
set_option maxRecDepth 1000000 in
theorem k_R_creaksOf : okC 11 I_R_creaksOf.2.2.1 I_R_creaksOf.2.1 I_R_creaksOf.2.2.2.1 [] K_R_creaksOf K_R_creaksOf = true := by decide +kernel
theorem l_R_creaksOf (d : Nat) (k : Nat) (av : List Value) (s : Mem) (y : Int32 × Mem) (h : C_R_creaksOf k av s = some y) : Ctr (d + 4) (mtab k) av s y ∧ ((mtab k).2.2.2.2.2 = 77 → ∃ b rest, av = .ref b :: rest ∧ (b = 1001 ∨ b = 1002)) := by
  unfold C_R_creaksOf at h
  replace h := cbr_c h
  rcases h with ⟨hb, h⟩ | ⟨_, h⟩
  · cases beq_t hb
    exact ⟨c_R_asks h (d + 2), fun q => absurd q (by decide)⟩
  replace h := cbr_c h
  rcases h with ⟨hb, h⟩ | ⟨_, h⟩
  · cases beq_t hb
    exact ⟨c_R_lawTells h (d + 0), fun q => absurd q (by decide)⟩
  cases h
theorem c_R_creaksOf {av : List Value} {s : Mem} {z : Int32 × Mem} (h : A_R_creaksOf av s = some z) (d : Nat) : Ctr (d + 5) I_R_creaksOf av s z := by
  unfold A_R_creaksOf at h
  split at h
  · replace h := cbr_n h
    obtain ⟨hb, h⟩ := h
    cases beq_t hb
    refine ctr_of (d := d + 4) (own := 11) (kps := []) (code := K_R_creaksOf) (Cl := C_R_creaksOf) o_R_creaksOf rfl (by decide) k_R_creaksOf (l_R_creaksOf d) (c1_of rfl) (Nat.le_of_ble_eq_true rfl) ?_
    intro RA S
    rw [e_R_creaksOf] at h
    refine S.2 _ ?_ 700 0 _ _ (ck1_of rfl) h
    intro k ls s h
    cases h
  · cases h
set_option maxRecDepth 1000000 in
theorem k_R_wearsOf : okC 11 I_R_wearsOf.2.2.1 I_R_wearsOf.2.1 I_R_wearsOf.2.2.2.1 [] K_R_wearsOf K_R_wearsOf = true := by decide +kernel
theorem l_R_wearsOf (d : Nat) (k : Nat) (av : List Value) (s : Mem) (y : Int32 × Mem) (h : C_R_wearsOf k av s = some y) : Ctr (d + 4) (mtab k) av s y ∧ ((mtab k).2.2.2.2.2 = 77 → ∃ b rest, av = .ref b :: rest ∧ (b = 1001 ∨ b = 1002)) := by
  unfold C_R_wearsOf at h
  replace h := cbr_c h
  rcases h with ⟨hb, h⟩ | ⟨_, h⟩
  · cases beq_t hb
    exact ⟨c_R_asks h (d + 2), fun q => absurd q (by decide)⟩
  replace h := cbr_c h
  rcases h with ⟨hb, h⟩ | ⟨_, h⟩
  · cases beq_t hb
    exact ⟨c_R_lawTells h (d + 0), fun q => absurd q (by decide)⟩
  cases h
theorem c_R_wearsOf {av : List Value} {s : Mem} {z : Int32 × Mem} (h : A_R_wearsOf av s = some z) (d : Nat) : Ctr (d + 5) I_R_wearsOf av s z := by
  unfold A_R_wearsOf at h
  split at h
  · replace h := cbr_n h
    obtain ⟨hb, h⟩ := h
    cases beq_t hb
    refine ctr_of (d := d + 4) (own := 11) (kps := []) (code := K_R_wearsOf) (Cl := C_R_wearsOf) o_R_wearsOf rfl (by decide) k_R_wearsOf (l_R_wearsOf d) (c1_of rfl) (Nat.le_of_ble_eq_true rfl) ?_
    intro RA S
    rw [e_R_wearsOf] at h
    refine S.2 _ ?_ 700 0 _ _ (ck1_of rfl) h
    intro k ls s h
    cases h
  · cases h
set_option maxRecDepth 1000000 in
theorem k_R_risesOf : okC 11 I_R_risesOf.2.2.1 I_R_risesOf.2.1 I_R_risesOf.2.2.2.1 [] K_R_risesOf K_R_risesOf = true := by decide +kernel
theorem l_R_risesOf (d : Nat) (k : Nat) (av : List Value) (s : Mem) (y : Int32 × Mem) (h : C_R_risesOf k av s = some y) : Ctr (d + 4) (mtab k) av s y ∧ ((mtab k).2.2.2.2.2 = 77 → ∃ b rest, av = .ref b :: rest ∧ (b = 1001 ∨ b = 1002)) := by
  unfold C_R_risesOf at h
  replace h := cbr_c h
  rcases h with ⟨hb, h⟩ | ⟨_, h⟩
  · cases beq_t hb
    exact ⟨c_R_asks h (d + 2), fun q => absurd q (by decide)⟩
  replace h := cbr_c h
  rcases h with ⟨hb, h⟩ | ⟨_, h⟩
  · cases beq_t hb
    exact ⟨c_R_lawTells h (d + 0), fun q => absurd q (by decide)⟩
  cases h
theorem c_R_risesOf {av : List Value} {s : Mem} {z : Int32 × Mem} (h : A_R_risesOf av s = some z) (d : Nat) : Ctr (d + 5) I_R_risesOf av s z := by
  unfold A_R_risesOf at h
  split at h
  · replace h := cbr_n h
    obtain ⟨hb, h⟩ := h
    cases beq_t hb
    refine ctr_of (d := d + 4) (own := 11) (kps := []) (code := K_R_risesOf) (Cl := C_R_risesOf) o_R_risesOf rfl (by decide) k_R_risesOf (l_R_risesOf d) (c1_of rfl) (Nat.le_of_ble_eq_true rfl) ?_
    intro RA S
    rw [e_R_risesOf] at h
    refine S.2 _ ?_ 700 0 _ _ (ck1_of rfl) h
    intro k ls s h
    cases h
  · cases h
set_option maxRecDepth 1000000 in
theorem k_R_notes : okC 11 I_R_notes.2.2.1 I_R_notes.2.1 I_R_notes.2.2.2.1 [] K_R_notes K_R_notes = true := by decide +kernel
theorem l_R_notes (d : Nat) (k : Nat) (av : List Value) (s : Mem) (y : Int32 × Mem) (h : C_R_notes k av s = some y) : Ctr (d + 0) (mtab k) av s y ∧ ((mtab k).2.2.2.2.2 = 77 → ∃ b rest, av = .ref b :: rest ∧ (b = 1001 ∨ b = 1002)) := by
  exact nomatch (show (none : Option (Int32 × Mem)) = some y from h)
theorem c_R_notes {av : List Value} {s : Mem} {z : Int32 × Mem} (h : A_R_notes av s = some z) (d : Nat) : Ctr (d + 1) I_R_notes av s z := by
  unfold A_R_notes at h
  split at h
  · replace h := cbr_n h
    obtain ⟨hb, h⟩ := h
    cases beq_t hb
    refine ctr_of (d := d + 0) (own := 11) (kps := []) (code := K_R_notes) (Cl := C_R_notes) o_R_notes rfl (by decide) k_R_notes (l_R_notes d) (c1_of rfl) (Nat.le_of_ble_eq_true rfl) ?_
    intro RA S
    rw [e_R_notes] at h
    refine S.2 _ ?_ 700 0 _ _ (ck1_of rfl) h
    intro k ls s h
    cases h
  · cases h
set_option maxRecDepth 1000000 in
theorem k_R_isOrdered : okC 11 I_R_isOrdered.2.2.1 I_R_isOrdered.2.1 I_R_isOrdered.2.2.2.1 [] K_R_isOrdered K_R_isOrdered = true := by decide +kernel
theorem l_R_isOrdered (d : Nat) (k : Nat) (av : List Value) (s : Mem) (y : Int32 × Mem) (h : C_R_isOrdered k av s = some y) : Ctr (d + 1) (mtab k) av s y ∧ ((mtab k).2.2.2.2.2 = 77 → ∃ b rest, av = .ref b :: rest ∧ (b = 1001 ∨ b = 1002)) := by
  unfold C_R_isOrdered at h
  replace h := cbr_c h
  rcases h with ⟨hb, h⟩ | ⟨_, h⟩
  · cases beq_t hb
    exact ⟨c_R_lesser h (d + 0), fun q => absurd q (by decide)⟩
  cases h
theorem c_R_isOrdered {av : List Value} {s : Mem} {z : Int32 × Mem} (h : A_R_isOrdered av s = some z) (d : Nat) : Ctr (d + 2) I_R_isOrdered av s z := by
  unfold A_R_isOrdered at h
  split at h
  · replace h := cbr_n h
    obtain ⟨hb, h⟩ := h
    cases beq_t hb
    refine ctr_of (d := d + 1) (own := 11) (kps := []) (code := K_R_isOrdered) (Cl := C_R_isOrdered) o_R_isOrdered rfl (by decide) k_R_isOrdered (l_R_isOrdered d) (c1_of rfl) (Nat.le_of_ble_eq_true rfl) ?_
    intro RA S
    rw [e_R_isOrdered] at h
    refine S.2 _ ?_ 700 0 _ _ (ck1_of rfl) h
    intro k ls s h
    cases h
  · cases h
set_option maxRecDepth 1000000 in
theorem k_R_order : okC 11 I_R_order.2.2.1 I_R_order.2.1 I_R_order.2.2.2.1 [] K_R_order K_R_order = true := by decide +kernel
theorem l_R_order (d : Nat) (k : Nat) (av : List Value) (s : Mem) (y : Int32 × Mem) (h : C_R_order k av s = some y) : Ctr (d + 2) (mtab k) av s y ∧ ((mtab k).2.2.2.2.2 = 77 → ∃ b rest, av = .ref b :: rest ∧ (b = 1001 ∨ b = 1002)) := by
  unfold C_R_order at h
  replace h := cbr_c h
  rcases h with ⟨hb, h⟩ | ⟨_, h⟩
  · cases beq_t hb
    exact ⟨c_R_isIn h (d + 1), fun q => absurd q (by decide)⟩
  replace h := cbr_c h
  rcases h with ⟨hb, h⟩ | ⟨_, h⟩
  · cases beq_t hb
    exact ⟨c_R_isStep h (d + 0), fun q => absurd q (by decide)⟩
  replace h := cbr_c h
  rcases h with ⟨hb, h⟩ | ⟨_, h⟩
  · cases beq_t hb
    exact ⟨c_R_keepsAhead h (d + 1), fun q => absurd q (by decide)⟩
  replace h := cbr_c h
  rcases h with ⟨hb, h⟩ | ⟨_, h⟩
  · cases beq_t hb
    exact ⟨c_R_isOrdered h (d + 0), fun q => absurd q (by decide)⟩
  cases h
theorem c_R_order {av : List Value} {s : Mem} {z : Int32 × Mem} (h : A_R_order av s = some z) (d : Nat) : Ctr (d + 3) I_R_order av s z := by
  unfold A_R_order at h
  split at h
  · replace h := cbr_n h
    obtain ⟨hb, h⟩ := h
    cases beq_t hb
    refine ctr_of (d := d + 2) (own := 11) (kps := []) (code := K_R_order) (Cl := C_R_order) o_R_order rfl (by decide) k_R_order (l_R_order d) (c1_of rfl) (Nat.le_of_ble_eq_true rfl) ?_
    intro RA S
    rw [e_R_order] at h
    refine S.2 _ ?_ 700 0 _ _ (ck1_of rfl) h
    intro k ls s h
    cases h
  · cases h
set_option maxRecDepth 1000000 in
theorem k_R_isTrodden : okC 11 I_R_isTrodden.2.2.1 I_R_isTrodden.2.1 I_R_isTrodden.2.2.2.1 [] K_R_isTrodden K_R_isTrodden = true := by decide +kernel
theorem l_R_isTrodden (d : Nat) (k : Nat) (av : List Value) (s : Mem) (y : Int32 × Mem) (h : C_R_isTrodden k av s = some y) : Ctr (d + 5) (mtab k) av s y ∧ ((mtab k).2.2.2.2.2 = 77 → ∃ b rest, av = .ref b :: rest ∧ (b = 1001 ∨ b = 1002)) := by
  unfold C_R_isTrodden at h
  replace h := cbr_c h
  rcases h with ⟨hb, h⟩ | ⟨_, h⟩
  · cases beq_t hb
    exact ⟨c_R_isGone h (d + 4), fun q => absurd q (by decide)⟩
  replace h := cbr_c h
  rcases h with ⟨hb, h⟩ | ⟨_, h⟩
  · cases beq_t hb
    exact ⟨c_R_creaksOf h (d + 0), fun q => absurd q (by decide)⟩
  replace h := cbr_c h
  rcases h with ⟨hb, h⟩ | ⟨_, h⟩
  · cases beq_t hb
    exact ⟨c_R_notes h (d + 4), fun q => absurd q (by decide)⟩
  replace h := cbr_c h
  rcases h with ⟨hb, h⟩ | ⟨_, h⟩
  · cases beq_t hb
    exact ⟨c_R_wearsOf h (d + 0), fun q => absurd q (by decide)⟩
  replace h := cbr_c h
  rcases h with ⟨hb, h⟩ | ⟨_, h⟩
  · cases beq_t hb
    exact ⟨c_R_lesser h (d + 4), fun q => absurd q (by decide)⟩
  replace h := cbr_c h
  rcases h with ⟨hb, h⟩ | ⟨_, h⟩
  · cases beq_t hb
    exact ⟨c_R_draw h (d + 4), fun q => absurd q (by decide)⟩
  cases h
theorem c_R_isTrodden {av : List Value} {s : Mem} {z : Int32 × Mem} (h : A_R_isTrodden av s = some z) (d : Nat) : Ctr (d + 6) I_R_isTrodden av s z := by
  unfold A_R_isTrodden at h
  split at h
  · replace h := cbr_n h
    obtain ⟨hb, h⟩ := h
    cases beq_t hb
    refine ctr_of (d := d + 5) (own := 11) (kps := []) (code := K_R_isTrodden) (Cl := C_R_isTrodden) o_R_isTrodden rfl (by decide) k_R_isTrodden (l_R_isTrodden d) (c1_of rfl) (Nat.le_of_ble_eq_true rfl) ?_
    intro RA S
    rw [e_R_isTrodden] at h
    refine S.2 _ ?_ 700 0 _ _ (ck1_of rfl) h
    intro k ls s h
    cases h
  · cases h
set_option maxRecDepth 1000000 in
theorem k_R_isVisited : okC 11 I_R_isVisited.2.2.1 I_R_isVisited.2.1 I_R_isVisited.2.2.2.1 [6] K_R_isVisited K_R_isVisited = true := by decide +kernel
theorem a_R_isVisited_4 {z : Int32 × Mem} {RA : Nat → List (Option Value) → Mem → Prop} (hm : ∀ (pc : Nat) (ls ls1 : List (Option Value)) (σ : Mem), ls1.length = I_R_isVisited.2.2.1 → (∀ i v, lk ls1 i = some v → lk ls i = some v) → RA pc ls1 σ → RA pc ls σ) {f : Int32 → Int32 → Int32 → Int32 → Int32 → Int32 → Mem → Option (Int32 × Mem)} {ls : List (Option Value)} {s : Mem} (h : A_R_isVisited_4 f ls s = some z) (hf : ∀ (x1 : Int32) (x2 : Int32) (x3 : Int32) (x4 : Int32) (x5 : Int32) (x6 : Int32) (s : Mem), f x1 x2 x3 x4 x5 x6 s = some z → RA 6 [some (.ref 123), some (.int x1), some (.int x2), some (.int x3), some (.int x4), some (.int x5), some (.int x6), none, none] s) : RA 6 ls s := by
  unfold A_R_isVisited_4 at h
  split at h
  · rename_i a0 a1 a2 a3 a4 a5 a6 e0 e1 e2 e3 e4 e5 e6
    replace h := cbr_n h
    obtain ⟨hb, h⟩ := h
    cases beq_t hb
    refine hm _ _ [some (.ref 123), some (.int a1), some (.int a2), some (.int a3), some (.int a4), some (.int a5), some (.int a6), none, none] _ rfl (fun i v hv => ?_) (hf _ _ _ _ _ _ _ h)
    match i, hv with
    | 0, hv => exact e0.trans hv
    | 1, hv => exact e1.trans hv
    | 2, hv => exact e2.trans hv
    | 3, hv => exact e3.trans hv
    | 4, hv => exact e4.trans hv
    | 5, hv => exact e5.trans hv
    | 6, hv => exact e6.trans hv
    | 7, hv => cases hv
    | 8, hv => cases hv
    | i + 9, hv => cases hv
  · cases h
theorem n_R_isVisited_4 {z : Int32 × Mem} {RA : Nat → List (Option Value) → Mem → Prop} (S : Sm I_R_isVisited C_R_isVisited K_R_isVisited [6] z RA) : ∀ (n : Nat) (x1 : Int32) (x2 : Int32) (x3 : Int32) (x4 : Int32) (x5 : Int32) (x6 : Int32) (s : Mem), F_R_isVisited_4 n x1 x2 x3 x4 x5 x6 s = some z → RA 6 [some (.ref 123), some (.int x1), some (.int x2), some (.int x3), some (.int x4), some (.int x5), some (.int x6), none, none] s := by
  intro n
  induction n with
  | zero => intro x1 x2 x3 x4 x5 x6 s h; exact nomatch (show (none : Option (Int32 × Mem)) = some z from h)
  | succ n ih =>
    intro x1 x2 x3 x4 x5 x6 s h
    rw [e_R_isVisited_4] at h
    refine S.2 _ ?_ 700 5 _ _ (ck1_of rfl) h
    intro k ls s h
    replace h := cbr_c h
    rcases h with ⟨hb, h⟩ | ⟨_, h⟩
    · cases beq_t hb
      exact a_R_isVisited_4 S.1 h ih
    cases h
theorem l_R_isVisited (d : Nat) (k : Nat) (av : List Value) (s : Mem) (y : Int32 × Mem) (h : C_R_isVisited k av s = some y) : Ctr (d + 6) (mtab k) av s y ∧ ((mtab k).2.2.2.2.2 = 77 → ∃ b rest, av = .ref b :: rest ∧ (b = 1001 ∨ b = 1002)) := by
  unfold C_R_isVisited at h
  replace h := cbr_c h
  rcases h with ⟨hb, h⟩ | ⟨_, h⟩
  · cases beq_t hb
    exact ⟨c_R_isTrodden h (d + 0), fun q => absurd q (by decide)⟩
  cases h
theorem c_R_isVisited {av : List Value} {s : Mem} {z : Int32 × Mem} (h : A_R_isVisited av s = some z) (d : Nat) : Ctr (d + 7) I_R_isVisited av s z := by
  unfold A_R_isVisited at h
  split at h
  · replace h := cbr_n h
    obtain ⟨hb, h⟩ := h
    cases beq_t hb
    refine ctr_of (d := d + 6) (own := 11) (kps := [6]) (code := K_R_isVisited) (Cl := C_R_isVisited) o_R_isVisited rfl (by decide) k_R_isVisited (l_R_isVisited d) (c1_of rfl) (Nat.le_of_ble_eq_true rfl) ?_
    intro RA S
    rw [e_R_isVisited] at h
    refine S.2 _ ?_ 700 0 _ _ (ck1_of rfl) h
    intro k ls s h
    replace h := cbr_c h
    rcases h with ⟨hb, h⟩ | ⟨_, h⟩
    · cases beq_t hb
      exact a_R_isVisited_4 S.1 h (n_R_isVisited_4 S gF)
    cases h
  · cases h
set_option maxRecDepth 1000000 in
theorem k_R_visit : okC 11 I_R_visit.2.2.1 I_R_visit.2.1 I_R_visit.2.2.2.1 [] K_R_visit K_R_visit = true := by decide +kernel
theorem l_R_visit (d : Nat) (k : Nat) (av : List Value) (s : Mem) (y : Int32 × Mem) (h : C_R_visit k av s = some y) : Ctr (d + 7) (mtab k) av s y ∧ ((mtab k).2.2.2.2.2 = 77 → ∃ b rest, av = .ref b :: rest ∧ (b = 1001 ∨ b = 1002)) := by
  unfold C_R_visit at h
  replace h := cbr_c h
  rcases h with ⟨hb, h⟩ | ⟨_, h⟩
  · cases beq_t hb
    exact ⟨c_R_isFlight h (d + 6), fun q => absurd q (by decide)⟩
  replace h := cbr_c h
  rcases h with ⟨hb, h⟩ | ⟨_, h⟩
  · cases beq_t hb
    exact ⟨c_R_isIn h (d + 6), fun q => absurd q (by decide)⟩
  replace h := cbr_c h
  rcases h with ⟨hb, h⟩ | ⟨_, h⟩
  · cases beq_t hb
    exact ⟨c_R_keepsAhead h (d + 6), fun q => absurd q (by decide)⟩
  replace h := cbr_c h
  rcases h with ⟨hb, h⟩ | ⟨_, h⟩
  · cases beq_t hb
    exact ⟨c_R_isVisited h (d + 0), fun q => absurd q (by decide)⟩
  cases h
theorem c_R_visit {av : List Value} {s : Mem} {z : Int32 × Mem} (h : A_R_visit av s = some z) (d : Nat) : Ctr (d + 8) I_R_visit av s z := by
  unfold A_R_visit at h
  split at h
  · replace h := cbr_n h
    obtain ⟨hb, h⟩ := h
    cases beq_t hb
    refine ctr_of (d := d + 7) (own := 11) (kps := []) (code := K_R_visit) (Cl := C_R_visit) o_R_visit rfl (by decide) k_R_visit (l_R_visit d) (c1_of rfl) (Nat.le_of_ble_eq_true rfl) ?_
    intro RA S
    rw [e_R_visit] at h
    refine S.2 _ ?_ 700 0 _ _ (ck1_of rfl) h
    intro k ls s h
    cases h
  · cases h
set_option maxRecDepth 1000000 in
theorem k_R_dawns : okC 11 I_R_dawns.2.2.1 I_R_dawns.2.1 I_R_dawns.2.2.2.1 [] K_R_dawns K_R_dawns = true := by decide +kernel
theorem l_R_dawns (d : Nat) (k : Nat) (av : List Value) (s : Mem) (y : Int32 × Mem) (h : C_R_dawns k av s = some y) : Ctr (d + 5) (mtab k) av s y ∧ ((mtab k).2.2.2.2.2 = 77 → ∃ b rest, av = .ref b :: rest ∧ (b = 1001 ∨ b = 1002)) := by
  unfold C_R_dawns at h
  replace h := cbr_c h
  rcases h with ⟨hb, h⟩ | ⟨_, h⟩
  · cases beq_t hb
    exact ⟨c_R_isGone h (d + 4), fun q => absurd q (by decide)⟩
  replace h := cbr_c h
  rcases h with ⟨hb, h⟩ | ⟨_, h⟩
  · cases beq_t hb
    exact ⟨c_R_notes h (d + 4), fun q => absurd q (by decide)⟩
  replace h := cbr_c h
  rcases h with ⟨hb, h⟩ | ⟨_, h⟩
  · cases beq_t hb
    exact ⟨c_R_risesOf h (d + 0), fun q => absurd q (by decide)⟩
  replace h := cbr_c h
  rcases h with ⟨hb, h⟩ | ⟨_, h⟩
  · cases beq_t hb
    exact ⟨c_R_lesser h (d + 4), fun q => absurd q (by decide)⟩
  cases h
theorem c_R_dawns {av : List Value} {s : Mem} {z : Int32 × Mem} (h : A_R_dawns av s = some z) (d : Nat) : Ctr (d + 6) I_R_dawns av s z := by
  unfold A_R_dawns at h
  split at h
  · replace h := cbr_n h
    obtain ⟨hb, h⟩ := h
    cases beq_t hb
    refine ctr_of (d := d + 5) (own := 11) (kps := []) (code := K_R_dawns) (Cl := C_R_dawns) o_R_dawns rfl (by decide) k_R_dawns (l_R_dawns d) (c1_of rfl) (Nat.le_of_ble_eq_true rfl) ?_
    intro RA S
    rw [e_R_dawns] at h
    refine S.2 _ ?_ 700 0 _ _ (ck1_of rfl) h
    intro k ls s h
    cases h
  · cases h
set_option maxRecDepth 1000000 in
theorem k_R_goesBy : okC 11 I_R_goesBy.2.2.1 I_R_goesBy.2.1 I_R_goesBy.2.2.2.1 [2, 58, 140, 150] K_R_goesBy K_R_goesBy = true := by decide +kernel
theorem a_R_goesBy_2 {z : Int32 × Mem} {RA : Nat → List (Option Value) → Mem → Prop} (hm : ∀ (pc : Nat) (ls ls1 : List (Option Value)) (σ : Mem), ls1.length = I_R_goesBy.2.2.1 → (∀ i v, lk ls1 i = some v → lk ls i = some v) → RA pc ls1 σ → RA pc ls σ) {f : Int32 → Mem → Option (Int32 × Mem)} {ls : List (Option Value)} {s : Mem} (h : A_R_goesBy_2 f ls s = some z) (hf : ∀ (x1 : Int32) (s : Mem), f x1 s = some z → RA 2 [some (.ref 123), some (.int x1), none, none] s) : RA 2 ls s := by
  unfold A_R_goesBy_2 at h
  split at h
  · rename_i a0 a1 e0 e1
    replace h := cbr_n h
    obtain ⟨hb, h⟩ := h
    cases beq_t hb
    refine hm _ _ [some (.ref 123), some (.int a1), none, none] _ rfl (fun i v hv => ?_) (hf _ _ h)
    match i, hv with
    | 0, hv => exact e0.trans hv
    | 1, hv => exact e1.trans hv
    | 2, hv => cases hv
    | 3, hv => cases hv
    | i + 4, hv => cases hv
  · cases h
theorem a_R_goesBy_40 {z : Int32 × Mem} {RA : Nat → List (Option Value) → Mem → Prop} (hm : ∀ (pc : Nat) (ls ls1 : List (Option Value)) (σ : Mem), ls1.length = I_R_goesBy.2.2.1 → (∀ i v, lk ls1 i = some v → lk ls i = some v) → RA pc ls1 σ → RA pc ls σ) {f : Int32 → Int32 → Mem → Option (Int32 × Mem)} {ls : List (Option Value)} {s : Mem} (h : A_R_goesBy_40 f ls s = some z) (hf : ∀ (x1 : Int32) (x2 : Int32) (s : Mem), f x1 x2 s = some z → RA 58 [some (.ref 123), some (.int x1), some (.int x2), none] s) : RA 58 ls s := by
  unfold A_R_goesBy_40 at h
  split at h
  · rename_i a0 a1 a2 e0 e1 e2
    replace h := cbr_n h
    obtain ⟨hb, h⟩ := h
    cases beq_t hb
    refine hm _ _ [some (.ref 123), some (.int a1), some (.int a2), none] _ rfl (fun i v hv => ?_) (hf _ _ _ h)
    match i, hv with
    | 0, hv => exact e0.trans hv
    | 1, hv => exact e1.trans hv
    | 2, hv => exact e2.trans hv
    | 3, hv => cases hv
    | i + 4, hv => cases hv
  · cases h
theorem a_R_goesBy_96 {z : Int32 × Mem} {RA : Nat → List (Option Value) → Mem → Prop} (hm : ∀ (pc : Nat) (ls ls1 : List (Option Value)) (σ : Mem), ls1.length = I_R_goesBy.2.2.1 → (∀ i v, lk ls1 i = some v → lk ls i = some v) → RA pc ls1 σ → RA pc ls σ) {f : Int32 → Int32 → Mem → Option (Int32 × Mem)} {ls : List (Option Value)} {s : Mem} (h : A_R_goesBy_96 f ls s = some z) (hf : ∀ (x1 : Int32) (x2 : Int32) (s : Mem), f x1 x2 s = some z → RA 140 [some (.ref 123), some (.int x1), some (.int x2), none] s) : RA 140 ls s := by
  unfold A_R_goesBy_96 at h
  split at h
  · rename_i a0 a1 a2 e0 e1 e2
    replace h := cbr_n h
    obtain ⟨hb, h⟩ := h
    cases beq_t hb
    refine hm _ _ [some (.ref 123), some (.int a1), some (.int a2), none] _ rfl (fun i v hv => ?_) (hf _ _ _ h)
    match i, hv with
    | 0, hv => exact e0.trans hv
    | 1, hv => exact e1.trans hv
    | 2, hv => exact e2.trans hv
    | 3, hv => cases hv
    | i + 4, hv => cases hv
  · cases h
theorem a_R_goesBy_102 {z : Int32 × Mem} {RA : Nat → List (Option Value) → Mem → Prop} (hm : ∀ (pc : Nat) (ls ls1 : List (Option Value)) (σ : Mem), ls1.length = I_R_goesBy.2.2.1 → (∀ i v, lk ls1 i = some v → lk ls i = some v) → RA pc ls1 σ → RA pc ls σ) {f : Int32 → Int32 → Int32 → Mem → Option (Int32 × Mem)} {ls : List (Option Value)} {s : Mem} (h : A_R_goesBy_102 f ls s = some z) (hf : ∀ (x1 : Int32) (x2 : Int32) (x3 : Int32) (s : Mem), f x1 x2 x3 s = some z → RA 150 [some (.ref 123), some (.int x1), some (.int x2), some (.int x3)] s) : RA 150 ls s := by
  unfold A_R_goesBy_102 at h
  split at h
  · rename_i a0 a1 a2 a3 e0 e1 e2 e3
    replace h := cbr_n h
    obtain ⟨hb, h⟩ := h
    cases beq_t hb
    refine hm _ _ [some (.ref 123), some (.int a1), some (.int a2), some (.int a3)] _ rfl (fun i v hv => ?_) (hf _ _ _ _ h)
    match i, hv with
    | 0, hv => exact e0.trans hv
    | 1, hv => exact e1.trans hv
    | 2, hv => exact e2.trans hv
    | 3, hv => exact e3.trans hv
    | i + 4, hv => cases hv
  · cases h
theorem n_R_goesBy_102 {z : Int32 × Mem} {RA : Nat → List (Option Value) → Mem → Prop} (S : Sm I_R_goesBy C_R_goesBy K_R_goesBy [2, 58, 140, 150] z RA) {k96 : Int32 → Int32 → Mem → Option (Int32 × Mem)} (hk96 : ∀ (x1 : Int32) (x2 : Int32) (s : Mem), k96 x1 x2 s = some z → RA 140 [some (.ref 123), some (.int x1), some (.int x2), none] s) : ∀ (n : Nat) (x1 : Int32) (x2 : Int32) (x3 : Int32) (s : Mem), F_R_goesBy_102 k96 n x1 x2 x3 s = some z → RA 150 [some (.ref 123), some (.int x1), some (.int x2), some (.int x3)] s := by
  intro n
  induction n with
  | zero => intro x1 x2 x3 s h; exact nomatch (show (none : Option (Int32 × Mem)) = some z from h)
  | succ n ih =>
    intro x1 x2 x3 s h
    rw [e_R_goesBy_102] at h
    refine S.2 _ ?_ 700 106 _ _ (ck1_of rfl) h
    intro k ls s h
    replace h := cbr_c h
    rcases h with ⟨hb, h⟩ | ⟨_, h⟩
    · cases beq_t hb
      exact a_R_goesBy_96 S.1 h hk96
    replace h := cbr_c h
    rcases h with ⟨hb, h⟩ | ⟨_, h⟩
    · cases beq_t hb
      exact a_R_goesBy_102 S.1 h ih
    cases h
theorem n_R_goesBy_96 {z : Int32 × Mem} {RA : Nat → List (Option Value) → Mem → Prop} (S : Sm I_R_goesBy C_R_goesBy K_R_goesBy [2, 58, 140, 150] z RA) : ∀ (n : Nat) (x1 : Int32) (x2 : Int32) (s : Mem), F_R_goesBy_96 n x1 x2 s = some z → RA 140 [some (.ref 123), some (.int x1), some (.int x2), none] s := by
  intro n
  induction n with
  | zero => intro x1 x2 s h; exact nomatch (show (none : Option (Int32 × Mem)) = some z from h)
  | succ n ih =>
    intro x1 x2 s h
    rw [e_R_goesBy_96] at h
    refine S.2 _ ?_ 700 99 _ _ (ck1_of rfl) h
    intro k ls s h
    replace h := cbr_c h
    rcases h with ⟨hb, h⟩ | ⟨_, h⟩
    · cases beq_t hb
      exact a_R_goesBy_102 S.1 h (n_R_goesBy_102 S ih gF)
    cases h
theorem n_R_goesBy_40 {z : Int32 × Mem} {RA : Nat → List (Option Value) → Mem → Prop} (S : Sm I_R_goesBy C_R_goesBy K_R_goesBy [2, 58, 140, 150] z RA) : ∀ (n : Nat) (x1 : Int32) (x2 : Int32) (s : Mem), F_R_goesBy_40 n x1 x2 s = some z → RA 58 [some (.ref 123), some (.int x1), some (.int x2), none] s := by
  intro n
  induction n with
  | zero => intro x1 x2 s h; exact nomatch (show (none : Option (Int32 × Mem)) = some z from h)
  | succ n ih =>
    intro x1 x2 s h
    rw [e_R_goesBy_40] at h
    refine S.2 _ ?_ 700 42 _ _ (ck1_of rfl) h
    intro k ls s h
    replace h := cbr_c h
    rcases h with ⟨hb, h⟩ | ⟨_, h⟩
    · cases beq_t hb
      exact a_R_goesBy_40 S.1 h ih
    replace h := cbr_c h
    rcases h with ⟨hb, h⟩ | ⟨_, h⟩
    · cases beq_t hb
      exact a_R_goesBy_96 S.1 h (n_R_goesBy_96 S gF)
    cases h
theorem n_R_goesBy_2 {z : Int32 × Mem} {RA : Nat → List (Option Value) → Mem → Prop} (S : Sm I_R_goesBy C_R_goesBy K_R_goesBy [2, 58, 140, 150] z RA) : ∀ (n : Nat) (x1 : Int32) (s : Mem), F_R_goesBy_2 n x1 s = some z → RA 2 [some (.ref 123), some (.int x1), none, none] s := by
  intro n
  induction n with
  | zero => intro x1 s h; exact nomatch (show (none : Option (Int32 × Mem)) = some z from h)
  | succ n ih =>
    intro x1 s h
    rw [e_R_goesBy_2] at h
    refine S.2 _ ?_ 700 3 _ _ (ck1_of rfl) h
    intro k ls s h
    replace h := cbr_c h
    rcases h with ⟨hb, h⟩ | ⟨_, h⟩
    · cases beq_t hb
      exact a_R_goesBy_2 S.1 h ih
    replace h := cbr_c h
    rcases h with ⟨hb, h⟩ | ⟨_, h⟩
    · cases beq_t hb
      exact a_R_goesBy_40 S.1 h (n_R_goesBy_40 S gF)
    cases h
theorem l_R_goesBy (d : Nat) (k : Nat) (av : List Value) (s : Mem) (y : Int32 × Mem) (h : C_R_goesBy k av s = some y) : Ctr (d + 7) (mtab k) av s y ∧ ((mtab k).2.2.2.2.2 = 77 → ∃ b rest, av = .ref b :: rest ∧ (b = 1001 ∨ b = 1002)) := by
  unfold C_R_goesBy at h
  replace h := cbr_c h
  rcases h with ⟨hb, h⟩ | ⟨_, h⟩
  · cases beq_t hb
    exact ⟨c_R_isOrdered h (d + 5), fun q => absurd q (by decide)⟩
  replace h := cbr_c h
  rcases h with ⟨hb, h⟩ | ⟨_, h⟩
  · cases beq_t hb
    exact ⟨c_R_isVisited h (d + 0), fun q => absurd q (by decide)⟩
  replace h := cbr_c h
  rcases h with ⟨hb, h⟩ | ⟨_, h⟩
  · cases beq_t hb
    exact ⟨c_R_dawns h (d + 1), fun q => absurd q (by decide)⟩
  cases h
theorem c_R_goesBy {av : List Value} {s : Mem} {z : Int32 × Mem} (h : A_R_goesBy av s = some z) (d : Nat) : Ctr (d + 8) I_R_goesBy av s z := by
  unfold A_R_goesBy at h
  split at h
  · replace h := cbr_n h
    obtain ⟨hb, h⟩ := h
    cases beq_t hb
    refine ctr_of (d := d + 7) (own := 11) (kps := [2, 58, 140, 150]) (code := K_R_goesBy) (Cl := C_R_goesBy) o_R_goesBy rfl (by decide) k_R_goesBy (l_R_goesBy d) (c1_of rfl) (Nat.le_of_ble_eq_true rfl) ?_
    intro RA S
    rw [e_R_goesBy] at h
    refine S.2 _ ?_ 700 0 _ _ (ck1_of rfl) h
    intro k ls s h
    replace h := cbr_c h
    rcases h with ⟨hb, h⟩ | ⟨_, h⟩
    · cases beq_t hb
      exact a_R_goesBy_2 S.1 h (n_R_goesBy_2 S gF)
    cases h
  · cases h
set_option maxRecDepth 1000000 in
theorem k_R_nights : okC 11 I_R_nights.2.2.1 I_R_nights.2.1 I_R_nights.2.2.2.1 [36] K_R_nights K_R_nights = true := by decide +kernel
theorem a_R_nights_23 {z : Int32 × Mem} {RA : Nat → List (Option Value) → Mem → Prop} (hm : ∀ (pc : Nat) (ls ls1 : List (Option Value)) (σ : Mem), ls1.length = I_R_nights.2.2.1 → (∀ i v, lk ls1 i = some v → lk ls i = some v) → RA pc ls1 σ → RA pc ls σ) {f : Int32 → Int32 → Int32 → Mem → Option (Int32 × Mem)} {ls : List (Option Value)} {s : Mem} (h : A_R_nights_23 f ls s = some z) (hf : ∀ (x1 : Int32) (x2 : Int32) (x3 : Int32) (s : Mem), f x1 x2 x3 s = some z → RA 36 [some (.ref 123), some (.int x1), some (.int x2), some (.int x3)] s) : RA 36 ls s := by
  unfold A_R_nights_23 at h
  split at h
  · rename_i a0 a1 a2 a3 e0 e1 e2 e3
    replace h := cbr_n h
    obtain ⟨hb, h⟩ := h
    cases beq_t hb
    refine hm _ _ [some (.ref 123), some (.int a1), some (.int a2), some (.int a3)] _ rfl (fun i v hv => ?_) (hf _ _ _ _ h)
    match i, hv with
    | 0, hv => exact e0.trans hv
    | 1, hv => exact e1.trans hv
    | 2, hv => exact e2.trans hv
    | 3, hv => exact e3.trans hv
    | i + 4, hv => cases hv
  · cases h
theorem n_R_nights_23 {z : Int32 × Mem} {RA : Nat → List (Option Value) → Mem → Prop} (S : Sm I_R_nights C_R_nights K_R_nights [36] z RA) : ∀ (n : Nat) (x1 : Int32) (x2 : Int32) (x3 : Int32) (s : Mem), F_R_nights_23 n x1 x2 x3 s = some z → RA 36 [some (.ref 123), some (.int x1), some (.int x2), some (.int x3)] s := by
  intro n
  induction n with
  | zero => intro x1 x2 x3 s h; exact nomatch (show (none : Option (Int32 × Mem)) = some z from h)
  | succ n ih =>
    intro x1 x2 x3 s h
    rw [e_R_nights_23] at h
    refine S.2 _ ?_ 700 24 _ _ (ck1_of rfl) h
    intro k ls s h
    replace h := cbr_c h
    rcases h with ⟨hb, h⟩ | ⟨_, h⟩
    · cases beq_t hb
      exact a_R_nights_23 S.1 h ih
    cases h
theorem l_R_nights (d : Nat) (k : Nat) (av : List Value) (s : Mem) (y : Int32 × Mem) (h : C_R_nights k av s = some y) : Ctr (d + 8) (mtab k) av s y ∧ ((mtab k).2.2.2.2.2 = 77 → ∃ b rest, av = .ref b :: rest ∧ (b = 1001 ∨ b = 1002)) := by
  unfold C_R_nights at h
  replace h := cbr_c h
  rcases h with ⟨hb, h⟩ | ⟨_, h⟩
  · cases beq_t hb
    exact ⟨c_R_isIn h (d + 7), fun q => absurd q (by decide)⟩
  replace h := cbr_c h
  rcases h with ⟨hb, h⟩ | ⟨_, h⟩
  · cases beq_t hb
    exact ⟨c_R_keepsAhead h (d + 7), fun q => absurd q (by decide)⟩
  replace h := cbr_c h
  rcases h with ⟨hb, h⟩ | ⟨_, h⟩
  · cases beq_t hb
    exact ⟨c_R_goesBy h (d + 0), fun q => absurd q (by decide)⟩
  cases h
theorem c_R_nights {av : List Value} {s : Mem} {z : Int32 × Mem} (h : A_R_nights av s = some z) (d : Nat) : Ctr (d + 9) I_R_nights av s z := by
  unfold A_R_nights at h
  split at h
  · replace h := cbr_n h
    obtain ⟨hb, h⟩ := h
    cases beq_t hb
    refine ctr_of (d := d + 8) (own := 11) (kps := [36]) (code := K_R_nights) (Cl := C_R_nights) o_R_nights rfl (by decide) k_R_nights (l_R_nights d) (c1_of rfl) (Nat.le_of_ble_eq_true rfl) ?_
    intro RA S
    rw [e_R_nights] at h
    refine S.2 _ ?_ 700 0 _ _ (ck1_of rfl) h
    intro k ls s h
    replace h := cbr_c h
    rcases h with ⟨hb, h⟩ | ⟨_, h⟩
    · cases beq_t hb
      exact a_R_nights_23 S.1 h (n_R_nights_23 S gF)
    cases h
  · cases h
set_option maxRecDepth 1000000 in
theorem k_R_doorsOf : okC 11 I_R_doorsOf.2.2.1 I_R_doorsOf.2.1 I_R_doorsOf.2.2.2.1 [4] K_R_doorsOf K_R_doorsOf = true := by decide +kernel
theorem a_R_doorsOf_4 {z : Int32 × Mem} {RA : Nat → List (Option Value) → Mem → Prop} (hm : ∀ (pc : Nat) (ls ls1 : List (Option Value)) (σ : Mem), ls1.length = I_R_doorsOf.2.2.1 → (∀ i v, lk ls1 i = some v → lk ls i = some v) → RA pc ls1 σ → RA pc ls σ) {f : Int32 → Int32 → Int32 → Mem → Option (Int32 × Mem)} {ls : List (Option Value)} {s : Mem} (h : A_R_doorsOf_4 f ls s = some z) (hf : ∀ (x1 : Int32) (x2 : Int32) (x3 : Int32) (s : Mem), f x1 x2 x3 s = some z → RA 4 [some (.ref 123), some (.int x1), some (.int x2), some (.int x3)] s) : RA 4 ls s := by
  unfold A_R_doorsOf_4 at h
  split at h
  · rename_i a0 a1 a2 a3 e0 e1 e2 e3
    replace h := cbr_n h
    obtain ⟨hb, h⟩ := h
    cases beq_t hb
    refine hm _ _ [some (.ref 123), some (.int a1), some (.int a2), some (.int a3)] _ rfl (fun i v hv => ?_) (hf _ _ _ _ h)
    match i, hv with
    | 0, hv => exact e0.trans hv
    | 1, hv => exact e1.trans hv
    | 2, hv => exact e2.trans hv
    | 3, hv => exact e3.trans hv
    | i + 4, hv => cases hv
  · cases h
theorem n_R_doorsOf_4 {z : Int32 × Mem} {RA : Nat → List (Option Value) → Mem → Prop} (S : Sm I_R_doorsOf C_R_doorsOf K_R_doorsOf [4] z RA) : ∀ (n : Nat) (x1 : Int32) (x2 : Int32) (x3 : Int32) (s : Mem), F_R_doorsOf_4 n x1 x2 x3 s = some z → RA 4 [some (.ref 123), some (.int x1), some (.int x2), some (.int x3)] s := by
  intro n
  induction n with
  | zero => intro x1 x2 x3 s h; exact nomatch (show (none : Option (Int32 × Mem)) = some z from h)
  | succ n ih =>
    intro x1 x2 x3 s h
    rw [e_R_doorsOf_4] at h
    refine S.2 _ ?_ 700 5 _ _ (ck1_of rfl) h
    intro k ls s h
    replace h := cbr_c h
    rcases h with ⟨hb, h⟩ | ⟨_, h⟩
    · cases beq_t hb
      exact a_R_doorsOf_4 S.1 h ih
    cases h
theorem l_R_doorsOf (d : Nat) (k : Nat) (av : List Value) (s : Mem) (y : Int32 × Mem) (h : C_R_doorsOf k av s = some y) : Ctr (d + 0) (mtab k) av s y ∧ ((mtab k).2.2.2.2.2 = 77 → ∃ b rest, av = .ref b :: rest ∧ (b = 1001 ∨ b = 1002)) := by
  exact nomatch (show (none : Option (Int32 × Mem)) = some y from h)
theorem c_R_doorsOf {av : List Value} {s : Mem} {z : Int32 × Mem} (h : A_R_doorsOf av s = some z) (d : Nat) : Ctr (d + 1) I_R_doorsOf av s z := by
  unfold A_R_doorsOf at h
  split at h
  · replace h := cbr_n h
    obtain ⟨hb, h⟩ := h
    cases beq_t hb
    refine ctr_of (d := d + 0) (own := 11) (kps := [4]) (code := K_R_doorsOf) (Cl := C_R_doorsOf) o_R_doorsOf rfl (by decide) k_R_doorsOf (l_R_doorsOf d) (c1_of rfl) (Nat.le_of_ble_eq_true rfl) ?_
    intro RA S
    rw [e_R_doorsOf] at h
    refine S.2 _ ?_ 700 0 _ _ (ck1_of rfl) h
    intro k ls s h
    replace h := cbr_c h
    rcases h with ⟨hb, h⟩ | ⟨_, h⟩
    · cases beq_t hb
      exact a_R_doorsOf_4 S.1 h (n_R_doorsOf_4 S gF)
    cases h
  · cases h
set_option maxRecDepth 1000000 in
theorem k_R_of : okC 11 I_R_of.2.2.1 I_R_of.2.1 I_R_of.2.2.2.1 [] K_R_of K_R_of = true := by decide +kernel
theorem l_R_of (d : Nat) (k : Nat) (av : List Value) (s : Mem) (y : Int32 × Mem) (h : C_R_of k av s = some y) : Ctr (d + 5) (mtab k) av s y ∧ ((mtab k).2.2.2.2.2 = 77 → ∃ b rest, av = .ref b :: rest ∧ (b = 1001 ∨ b = 1002)) := by
  unfold C_R_of at h
  replace h := cbr_c h
  rcases h with ⟨hb, h⟩ | ⟨_, h⟩
  · cases beq_t hb
    exact ⟨c_R_isStep h (d + 3), fun q => absurd q (by decide)⟩
  replace h := cbr_c h
  rcases h with ⟨hb, h⟩ | ⟨_, h⟩
  · cases beq_t hb
    exact ⟨c_R_isIn h (d + 4), fun q => absurd q (by decide)⟩
  replace h := cbr_c h
  rcases h with ⟨hb, h⟩ | ⟨_, h⟩
  · cases beq_t hb
    exact ⟨c_R_risesOf h (d + 0), fun q => absurd q (by decide)⟩
  replace h := cbr_c h
  rcases h with ⟨hb, h⟩ | ⟨_, h⟩
  · cases beq_t hb
    exact ⟨c_R_doorsOf h (d + 4), fun q => absurd q (by decide)⟩
  cases h
theorem c_R_of {av : List Value} {s : Mem} {z : Int32 × Mem} (h : A_R_of av s = some z) (d : Nat) : Ctr (d + 6) I_R_of av s z := by
  unfold A_R_of at h
  split at h
  · replace h := cbr_n h
    obtain ⟨hb, h⟩ := h
    cases beq_t hb
    refine ctr_of (d := d + 5) (own := 11) (kps := []) (code := K_R_of) (Cl := C_R_of) o_R_of rfl (by decide) k_R_of (l_R_of d) (c1_of rfl) (Nat.le_of_ble_eq_true rfl) ?_
    intro RA S
    rw [e_R_of] at h
    refine S.2 _ ?_ 700 0 _ _ (ck1_of rfl) h
    intro k ls s h
    cases h
  · cases h
set_option maxRecDepth 1000000 in
theorem k_R_canTread : okC 11 I_R_canTread.2.2.1 I_R_canTread.2.1 I_R_canTread.2.2.2.1 [] K_R_canTread K_R_canTread = true := by decide +kernel
theorem l_R_canTread (d : Nat) (k : Nat) (av : List Value) (s : Mem) (y : Int32 × Mem) (h : C_R_canTread k av s = some y) : Ctr (d + 2) (mtab k) av s y ∧ ((mtab k).2.2.2.2.2 = 77 → ∃ b rest, av = .ref b :: rest ∧ (b = 1001 ∨ b = 1002)) := by
  unfold C_R_canTread at h
  replace h := cbr_c h
  rcases h with ⟨hb, h⟩ | ⟨_, h⟩
  · cases beq_t hb
    exact ⟨c_R_isStep h (d + 0), fun q => absurd q (by decide)⟩
  replace h := cbr_c h
  rcases h with ⟨hb, h⟩ | ⟨_, h⟩
  · cases beq_t hb
    exact ⟨c_R_isIn h (d + 1), fun q => absurd q (by decide)⟩
  cases h
theorem c_R_canTread {av : List Value} {s : Mem} {z : Int32 × Mem} (h : A_R_canTread av s = some z) (d : Nat) : Ctr (d + 3) I_R_canTread av s z := by
  unfold A_R_canTread at h
  split at h
  · replace h := cbr_n h
    obtain ⟨hb, h⟩ := h
    cases beq_t hb
    refine ctr_of (d := d + 2) (own := 11) (kps := []) (code := K_R_canTread) (Cl := C_R_canTread) o_R_canTread rfl (by decide) k_R_canTread (l_R_canTread d) (c1_of rfl) (Nat.le_of_ble_eq_true rfl) ?_
    intro RA S
    rw [e_R_canTread] at h
    refine S.2 _ ?_ 700 0 _ _ (ck1_of rfl) h
    intro k ls s h
    cases h
  · cases h
set_option maxRecDepth 1000000 in
theorem k_R_creaks : okC 11 I_R_creaks.2.2.1 I_R_creaks.2.1 I_R_creaks.2.2.2.1 [] K_R_creaks K_R_creaks = true := by decide +kernel
theorem l_R_creaks (d : Nat) (k : Nat) (av : List Value) (s : Mem) (y : Int32 × Mem) (h : C_R_creaks k av s = some y) : Ctr (d + 5) (mtab k) av s y ∧ ((mtab k).2.2.2.2.2 = 77 → ∃ b rest, av = .ref b :: rest ∧ (b = 1001 ∨ b = 1002)) := by
  unfold C_R_creaks at h
  replace h := cbr_c h
  rcases h with ⟨hb, h⟩ | ⟨_, h⟩
  · cases beq_t hb
    exact ⟨c_R_canTread h (d + 2), fun q => absurd q (by decide)⟩
  replace h := cbr_c h
  rcases h with ⟨hb, h⟩ | ⟨_, h⟩
  · cases beq_t hb
    exact ⟨c_R_creaksOf h (d + 0), fun q => absurd q (by decide)⟩
  cases h
theorem c_R_creaks {av : List Value} {s : Mem} {z : Int32 × Mem} (h : A_R_creaks av s = some z) (d : Nat) : Ctr (d + 6) I_R_creaks av s z := by
  unfold A_R_creaks at h
  split at h
  · replace h := cbr_n h
    obtain ⟨hb, h⟩ := h
    cases beq_t hb
    refine ctr_of (d := d + 5) (own := 11) (kps := []) (code := K_R_creaks) (Cl := C_R_creaks) o_R_creaks rfl (by decide) k_R_creaks (l_R_creaks d) (c1_of rfl) (Nat.le_of_ble_eq_true rfl) ?_
    intro RA S
    rw [e_R_creaks] at h
    refine S.2 _ ?_ 700 0 _ _ (ck1_of rfl) h
    intro k ls s h
    cases h
  · cases h
set_option maxRecDepth 1000000 in
theorem k_R_wears : okC 11 I_R_wears.2.2.1 I_R_wears.2.1 I_R_wears.2.2.2.1 [] K_R_wears K_R_wears = true := by decide +kernel
theorem l_R_wears (d : Nat) (k : Nat) (av : List Value) (s : Mem) (y : Int32 × Mem) (h : C_R_wears k av s = some y) : Ctr (d + 5) (mtab k) av s y ∧ ((mtab k).2.2.2.2.2 = 77 → ∃ b rest, av = .ref b :: rest ∧ (b = 1001 ∨ b = 1002)) := by
  unfold C_R_wears at h
  replace h := cbr_c h
  rcases h with ⟨hb, h⟩ | ⟨_, h⟩
  · cases beq_t hb
    exact ⟨c_R_canTread h (d + 2), fun q => absurd q (by decide)⟩
  replace h := cbr_c h
  rcases h with ⟨hb, h⟩ | ⟨_, h⟩
  · cases beq_t hb
    exact ⟨c_R_wearsOf h (d + 0), fun q => absurd q (by decide)⟩
  cases h
theorem c_R_wears {av : List Value} {s : Mem} {z : Int32 × Mem} (h : A_R_wears av s = some z) (d : Nat) : Ctr (d + 6) I_R_wears av s z := by
  unfold A_R_wears at h
  split at h
  · replace h := cbr_n h
    obtain ⟨hb, h⟩ := h
    cases beq_t hb
    refine ctr_of (d := d + 5) (own := 11) (kps := []) (code := K_R_wears) (Cl := C_R_wears) o_R_wears rfl (by decide) k_R_wears (l_R_wears d) (c1_of rfl) (Nat.le_of_ble_eq_true rfl) ?_
    intro RA S
    rw [e_R_wears] at h
    refine S.2 _ ?_ 700 0 _ _ (ck1_of rfl) h
    intro k ls s h
    cases h
  · cases h
set_option maxRecDepth 1000000 in
theorem k_R_book : okC 11 I_R_book.2.2.1 I_R_book.2.1 I_R_book.2.2.2.1 [] K_R_book K_R_book = true := by decide +kernel
theorem l_R_book (d : Nat) (k : Nat) (av : List Value) (s : Mem) (y : Int32 × Mem) (h : C_R_book k av s = some y) : Ctr (d + 1) (mtab k) av s y ∧ ((mtab k).2.2.2.2.2 = 77 → ∃ b rest, av = .ref b :: rest ∧ (b = 1001 ∨ b = 1002)) := by
  unfold C_R_book at h
  replace h := cbr_c h
  rcases h with ⟨hb, h⟩ | ⟨_, h⟩
  · cases beq_t hb
    exact ⟨c_R_isIn h (d + 0), fun q => absurd q (by decide)⟩
  cases h
theorem c_R_book {av : List Value} {s : Mem} {z : Int32 × Mem} (h : A_R_book av s = some z) (d : Nat) : Ctr (d + 2) I_R_book av s z := by
  unfold A_R_book at h
  split at h
  · replace h := cbr_n h
    obtain ⟨hb, h⟩ := h
    cases beq_t hb
    refine ctr_of (d := d + 1) (own := 11) (kps := []) (code := K_R_book) (Cl := C_R_book) o_R_book rfl (by decide) k_R_book (l_R_book d) (c1_of rfl) (Nat.le_of_ble_eq_true rfl) ?_
    intro RA S
    rw [e_R_book] at h
    refine S.2 _ ?_ 700 0 _ _ (ck1_of rfl) h
    intro k ls s h
    cases h
  · cases h
set_option maxRecDepth 1000000 in
theorem k_R_sumOf : okC 11 I_R_sumOf.2.2.1 I_R_sumOf.2.1 I_R_sumOf.2.2.2.1 [4] K_R_sumOf K_R_sumOf = true := by decide +kernel
theorem a_R_sumOf_4 {z : Int32 × Mem} {RA : Nat → List (Option Value) → Mem → Prop} (hm : ∀ (pc : Nat) (ls ls1 : List (Option Value)) (σ : Mem), ls1.length = I_R_sumOf.2.2.1 → (∀ i v, lk ls1 i = some v → lk ls i = some v) → RA pc ls1 σ → RA pc ls σ) {f : Int32 → Int32 → Int32 → Mem → Option (Int32 × Mem)} {ls : List (Option Value)} {s : Mem} (h : A_R_sumOf_4 f ls s = some z) (hf : ∀ (x1 : Int32) (x2 : Int32) (x3 : Int32) (s : Mem), f x1 x2 x3 s = some z → RA 4 [some (.ref 123), some (.int x1), some (.int x2), some (.int x3)] s) : RA 4 ls s := by
  unfold A_R_sumOf_4 at h
  split at h
  · rename_i a0 a1 a2 a3 e0 e1 e2 e3
    replace h := cbr_n h
    obtain ⟨hb, h⟩ := h
    cases beq_t hb
    refine hm _ _ [some (.ref 123), some (.int a1), some (.int a2), some (.int a3)] _ rfl (fun i v hv => ?_) (hf _ _ _ _ h)
    match i, hv with
    | 0, hv => exact e0.trans hv
    | 1, hv => exact e1.trans hv
    | 2, hv => exact e2.trans hv
    | 3, hv => exact e3.trans hv
    | i + 4, hv => cases hv
  · cases h
theorem n_R_sumOf_4 {z : Int32 × Mem} {RA : Nat → List (Option Value) → Mem → Prop} (S : Sm I_R_sumOf C_R_sumOf K_R_sumOf [4] z RA) : ∀ (n : Nat) (x1 : Int32) (x2 : Int32) (x3 : Int32) (s : Mem), F_R_sumOf_4 n x1 x2 x3 s = some z → RA 4 [some (.ref 123), some (.int x1), some (.int x2), some (.int x3)] s := by
  intro n
  induction n with
  | zero => intro x1 x2 x3 s h; exact nomatch (show (none : Option (Int32 × Mem)) = some z from h)
  | succ n ih =>
    intro x1 x2 x3 s h
    rw [e_R_sumOf_4] at h
    refine S.2 _ ?_ 700 5 _ _ (ck1_of rfl) h
    intro k ls s h
    replace h := cbr_c h
    rcases h with ⟨hb, h⟩ | ⟨_, h⟩
    · cases beq_t hb
      exact a_R_sumOf_4 S.1 h ih
    cases h
theorem l_R_sumOf (d : Nat) (k : Nat) (av : List Value) (s : Mem) (y : Int32 × Mem) (h : C_R_sumOf k av s = some y) : Ctr (d + 0) (mtab k) av s y ∧ ((mtab k).2.2.2.2.2 = 77 → ∃ b rest, av = .ref b :: rest ∧ (b = 1001 ∨ b = 1002)) := by
  exact nomatch (show (none : Option (Int32 × Mem)) = some y from h)
theorem c_R_sumOf {av : List Value} {s : Mem} {z : Int32 × Mem} (h : A_R_sumOf av s = some z) (d : Nat) : Ctr (d + 1) I_R_sumOf av s z := by
  unfold A_R_sumOf at h
  split at h
  · replace h := cbr_n h
    obtain ⟨hb, h⟩ := h
    cases beq_t hb
    refine ctr_of (d := d + 0) (own := 11) (kps := [4]) (code := K_R_sumOf) (Cl := C_R_sumOf) o_R_sumOf rfl (by decide) k_R_sumOf (l_R_sumOf d) (c1_of rfl) (Nat.le_of_ble_eq_true rfl) ?_
    intro RA S
    rw [e_R_sumOf] at h
    refine S.2 _ ?_ 700 0 _ _ (ck1_of rfl) h
    intro k ls s h
    replace h := cbr_c h
    rcases h with ⟨hb, h⟩ | ⟨_, h⟩
    · cases beq_t hb
      exact a_R_sumOf_4 S.1 h (n_R_sumOf_4 S gF)
    cases h
  · cases h
set_option maxRecDepth 1000000 in
theorem k_R_goneMany : okC 11 I_R_goneMany.2.2.1 I_R_goneMany.2.1 I_R_goneMany.2.2.2.1 [4] K_R_goneMany K_R_goneMany = true := by decide +kernel
theorem a_R_goneMany_4 {z : Int32 × Mem} {RA : Nat → List (Option Value) → Mem → Prop} (hm : ∀ (pc : Nat) (ls ls1 : List (Option Value)) (σ : Mem), ls1.length = I_R_goneMany.2.2.1 → (∀ i v, lk ls1 i = some v → lk ls i = some v) → RA pc ls1 σ → RA pc ls σ) {f : Int32 → Int32 → Mem → Option (Int32 × Mem)} {ls : List (Option Value)} {s : Mem} (h : A_R_goneMany_4 f ls s = some z) (hf : ∀ (x1 : Int32) (x2 : Int32) (s : Mem), f x1 x2 s = some z → RA 4 [some (.ref 123), some (.int x1), some (.int x2)] s) : RA 4 ls s := by
  unfold A_R_goneMany_4 at h
  split at h
  · rename_i a0 a1 a2 e0 e1 e2
    replace h := cbr_n h
    obtain ⟨hb, h⟩ := h
    cases beq_t hb
    refine hm _ _ [some (.ref 123), some (.int a1), some (.int a2)] _ rfl (fun i v hv => ?_) (hf _ _ _ h)
    match i, hv with
    | 0, hv => exact e0.trans hv
    | 1, hv => exact e1.trans hv
    | 2, hv => exact e2.trans hv
    | i + 3, hv => cases hv
  · cases h
theorem n_R_goneMany_4 {z : Int32 × Mem} {RA : Nat → List (Option Value) → Mem → Prop} (S : Sm I_R_goneMany C_R_goneMany K_R_goneMany [4] z RA) : ∀ (n : Nat) (x1 : Int32) (x2 : Int32) (s : Mem), F_R_goneMany_4 n x1 x2 s = some z → RA 4 [some (.ref 123), some (.int x1), some (.int x2)] s := by
  intro n
  induction n with
  | zero => intro x1 x2 s h; exact nomatch (show (none : Option (Int32 × Mem)) = some z from h)
  | succ n ih =>
    intro x1 x2 s h
    rw [e_R_goneMany_4] at h
    refine S.2 _ ?_ 700 5 _ _ (ck1_of rfl) h
    intro k ls s h
    replace h := cbr_c h
    rcases h with ⟨hb, h⟩ | ⟨_, h⟩
    · cases beq_t hb
      exact a_R_goneMany_4 S.1 h ih
    cases h
theorem l_R_goneMany (d : Nat) (k : Nat) (av : List Value) (s : Mem) (y : Int32 × Mem) (h : C_R_goneMany k av s = some y) : Ctr (d + 1) (mtab k) av s y ∧ ((mtab k).2.2.2.2.2 = 77 → ∃ b rest, av = .ref b :: rest ∧ (b = 1001 ∨ b = 1002)) := by
  unfold C_R_goneMany at h
  replace h := cbr_c h
  rcases h with ⟨hb, h⟩ | ⟨_, h⟩
  · cases beq_t hb
    exact ⟨c_R_isGone h (d + 0), fun q => absurd q (by decide)⟩
  cases h
theorem c_R_goneMany {av : List Value} {s : Mem} {z : Int32 × Mem} (h : A_R_goneMany av s = some z) (d : Nat) : Ctr (d + 2) I_R_goneMany av s z := by
  unfold A_R_goneMany at h
  split at h
  · replace h := cbr_n h
    obtain ⟨hb, h⟩ := h
    cases beq_t hb
    refine ctr_of (d := d + 1) (own := 11) (kps := [4]) (code := K_R_goneMany) (Cl := C_R_goneMany) o_R_goneMany rfl (by decide) k_R_goneMany (l_R_goneMany d) (c1_of rfl) (Nat.le_of_ble_eq_true rfl) ?_
    intro RA S
    rw [e_R_goneMany] at h
    refine S.2 _ ?_ 700 0 _ _ (ck1_of rfl) h
    intro k ls s h
    replace h := cbr_c h
    rcases h with ⟨hb, h⟩ | ⟨_, h⟩
    · cases beq_t hb
      exact a_R_goneMany_4 S.1 h (n_R_goneMany_4 S gF)
    cases h
  · cases h
set_option maxRecDepth 1000000 in
theorem k_R_goes : okC 11 I_R_goes.2.2.1 I_R_goes.2.1 I_R_goes.2.2.2.1 [34] K_R_goes K_R_goes = true := by decide +kernel
theorem a_R_goes_21 {z : Int32 × Mem} {RA : Nat → List (Option Value) → Mem → Prop} (hm : ∀ (pc : Nat) (ls ls1 : List (Option Value)) (σ : Mem), ls1.length = I_R_goes.2.2.1 → (∀ i v, lk ls1 i = some v → lk ls i = some v) → RA pc ls1 σ → RA pc ls σ) {f : Int32 → Int32 → Int32 → Mem → Option (Int32 × Mem)} {ls : List (Option Value)} {s : Mem} (h : A_R_goes_21 f ls s = some z) (hf : ∀ (x1 : Int32) (x2 : Int32) (x3 : Int32) (s : Mem), f x1 x2 x3 s = some z → RA 34 [some (.ref 123), some (.int x1), some (.int x2), some (.int x3)] s) : RA 34 ls s := by
  unfold A_R_goes_21 at h
  split at h
  · rename_i a0 a1 a2 a3 e0 e1 e2 e3
    replace h := cbr_n h
    obtain ⟨hb, h⟩ := h
    cases beq_t hb
    refine hm _ _ [some (.ref 123), some (.int a1), some (.int a2), some (.int a3)] _ rfl (fun i v hv => ?_) (hf _ _ _ _ h)
    match i, hv with
    | 0, hv => exact e0.trans hv
    | 1, hv => exact e1.trans hv
    | 2, hv => exact e2.trans hv
    | 3, hv => exact e3.trans hv
    | i + 4, hv => cases hv
  · cases h
theorem n_R_goes_21 {z : Int32 × Mem} {RA : Nat → List (Option Value) → Mem → Prop} (S : Sm I_R_goes C_R_goes K_R_goes [34] z RA) : ∀ (n : Nat) (x1 : Int32) (x2 : Int32) (x3 : Int32) (s : Mem), F_R_goes_21 n x1 x2 x3 s = some z → RA 34 [some (.ref 123), some (.int x1), some (.int x2), some (.int x3)] s := by
  intro n
  induction n with
  | zero => intro x1 x2 x3 s h; exact nomatch (show (none : Option (Int32 × Mem)) = some z from h)
  | succ n ih =>
    intro x1 x2 x3 s h
    rw [e_R_goes_21] at h
    refine S.2 _ ?_ 700 22 _ _ (ck1_of rfl) h
    intro k ls s h
    replace h := cbr_c h
    rcases h with ⟨hb, h⟩ | ⟨_, h⟩
    · cases beq_t hb
      exact a_R_goes_21 S.1 h ih
    cases h
theorem l_R_goes (d : Nat) (k : Nat) (av : List Value) (s : Mem) (y : Int32 × Mem) (h : C_R_goes k av s = some y) : Ctr (d + 8) (mtab k) av s y ∧ ((mtab k).2.2.2.2.2 = 77 → ∃ b rest, av = .ref b :: rest ∧ (b = 1001 ∨ b = 1002)) := by
  unfold C_R_goes at h
  replace h := cbr_c h
  rcases h with ⟨hb, h⟩ | ⟨_, h⟩
  · cases beq_t hb
    exact ⟨c_R_isIn h (d + 7), fun q => absurd q (by decide)⟩
  replace h := cbr_c h
  rcases h with ⟨hb, h⟩ | ⟨_, h⟩
  · cases beq_t hb
    exact ⟨c_R_thinks h (d + 7), fun q => absurd q (by decide)⟩
  replace h := cbr_c h
  rcases h with ⟨hb, h⟩ | ⟨_, h⟩
  · cases beq_t hb
    exact ⟨c_R_sumOf h (d + 7), fun q => absurd q (by decide)⟩
  replace h := cbr_c h
  rcases h with ⟨hb, h⟩ | ⟨_, h⟩
  · cases beq_t hb
    exact ⟨c_R_endsThought h (d + 7), fun q => absurd q (by decide)⟩
  replace h := cbr_c h
  rcases h with ⟨hb, h⟩ | ⟨_, h⟩
  · cases beq_t hb
    exact ⟨c_R_goneMany h (d + 6), fun q => absurd q (by decide)⟩
  replace h := cbr_c h
  rcases h with ⟨hb, h⟩ | ⟨_, h⟩
  · cases beq_t hb
    exact ⟨c_R_goesBy h (d + 0), fun q => absurd q (by decide)⟩
  cases h
theorem c_R_goes {av : List Value} {s : Mem} {z : Int32 × Mem} (h : A_R_goes av s = some z) (d : Nat) : Ctr (d + 9) I_R_goes av s z := by
  unfold A_R_goes at h
  split at h
  · replace h := cbr_n h
    obtain ⟨hb, h⟩ := h
    cases beq_t hb
    refine ctr_of (d := d + 8) (own := 11) (kps := [34]) (code := K_R_goes) (Cl := C_R_goes) o_R_goes rfl (by decide) k_R_goes (l_R_goes d) (c1_of rfl) (Nat.le_of_ble_eq_true rfl) ?_
    intro RA S
    rw [e_R_goes] at h
    refine S.2 _ ?_ 700 0 _ _ (ck1_of rfl) h
    intro k ls s h
    replace h := cbr_c h
    rcases h with ⟨hb, h⟩ | ⟨_, h⟩
    · cases beq_t hb
      exact a_R_goes_21 S.1 h (n_R_goes_21 S gF)
    cases h
  · cases h
set_option maxRecDepth 1000000 in
theorem k_R_doesCreak : okC 11 I_R_doesCreak.2.2.1 I_R_doesCreak.2.1 I_R_doesCreak.2.2.2.1 [] K_R_doesCreak K_R_doesCreak = true := by decide +kernel
theorem l_R_doesCreak (d : Nat) (k : Nat) (av : List Value) (s : Mem) (y : Int32 × Mem) (h : C_R_doesCreak k av s = some y) : Ctr (d + 5) (mtab k) av s y ∧ ((mtab k).2.2.2.2.2 = 77 → ∃ b rest, av = .ref b :: rest ∧ (b = 1001 ∨ b = 1002)) := by
  unfold C_R_doesCreak at h
  replace h := cbr_c h
  rcases h with ⟨hb, h⟩ | ⟨_, h⟩
  · cases beq_t hb
    exact ⟨c_R_creaksOf h (d + 0), fun q => absurd q (by decide)⟩
  cases h
theorem c_R_doesCreak {av : List Value} {s : Mem} {z : Int32 × Mem} (h : A_R_doesCreak av s = some z) (d : Nat) : Ctr (d + 6) I_R_doesCreak av s z := by
  unfold A_R_doesCreak at h
  split at h
  · replace h := cbr_n h
    obtain ⟨hb, h⟩ := h
    cases beq_t hb
    refine ctr_of (d := d + 5) (own := 11) (kps := []) (code := K_R_doesCreak) (Cl := C_R_doesCreak) o_R_doesCreak rfl (by decide) k_R_doesCreak (l_R_doesCreak d) (c1_of rfl) (Nat.le_of_ble_eq_true rfl) ?_
    intro RA S
    rw [e_R_doesCreak] at h
    refine S.2 _ ?_ 700 0 _ _ (ck1_of rfl) h
    intro k ls s h
    cases h
  · cases h
set_option maxRecDepth 1000000 in
theorem k_R_unheard : okC 11 I_R_unheard.2.2.1 I_R_unheard.2.1 I_R_unheard.2.2.2.1 [81, 96] K_R_unheard K_R_unheard = true := by decide +kernel
theorem a_R_unheard_46 {z : Int32 × Mem} {RA : Nat → List (Option Value) → Mem → Prop} (hm : ∀ (pc : Nat) (ls ls1 : List (Option Value)) (σ : Mem), ls1.length = I_R_unheard.2.2.1 → (∀ i v, lk ls1 i = some v → lk ls i = some v) → RA pc ls1 σ → RA pc ls σ) {f : Int32 → Int32 → Int32 → Int32 → Int32 → Int32 → Int32 → Mem → Option (Int32 × Mem)} {ls : List (Option Value)} {s : Mem} (h : A_R_unheard_46 f ls s = some z) (hf : ∀ (x1 : Int32) (x2 : Int32) (x3 : Int32) (x4 : Int32) (x5 : Int32) (x6 : Int32) (x7 : Int32) (s : Mem), f x1 x2 x3 x4 x5 x6 x7 s = some z → RA 81 [some (.ref 123), some (.int x1), some (.int x2), some (.int x3), some (.int x4), some (.int x5), some (.int x6), some (.int x7), none, none] s) : RA 81 ls s := by
  unfold A_R_unheard_46 at h
  split at h
  · rename_i a0 a1 a2 a3 a4 a5 a6 a7 e0 e1 e2 e3 e4 e5 e6 e7
    replace h := cbr_n h
    obtain ⟨hb, h⟩ := h
    cases beq_t hb
    refine hm _ _ [some (.ref 123), some (.int a1), some (.int a2), some (.int a3), some (.int a4), some (.int a5), some (.int a6), some (.int a7), none, none] _ rfl (fun i v hv => ?_) (hf _ _ _ _ _ _ _ _ h)
    match i, hv with
    | 0, hv => exact e0.trans hv
    | 1, hv => exact e1.trans hv
    | 2, hv => exact e2.trans hv
    | 3, hv => exact e3.trans hv
    | 4, hv => exact e4.trans hv
    | 5, hv => exact e5.trans hv
    | 6, hv => exact e6.trans hv
    | 7, hv => exact e7.trans hv
    | 8, hv => cases hv
    | 9, hv => cases hv
    | i + 10, hv => cases hv
  · cases h
theorem a_R_unheard_53 {z : Int32 × Mem} {RA : Nat → List (Option Value) → Mem → Prop} (hm : ∀ (pc : Nat) (ls ls1 : List (Option Value)) (σ : Mem), ls1.length = I_R_unheard.2.2.1 → (∀ i v, lk ls1 i = some v → lk ls i = some v) → RA pc ls1 σ → RA pc ls σ) {f : Int32 → Int32 → Int32 → Int32 → Int32 → Int32 → Int32 → Int32 → Int32 → Mem → Option (Int32 × Mem)} {ls : List (Option Value)} {s : Mem} (h : A_R_unheard_53 f ls s = some z) (hf : ∀ (x1 : Int32) (x2 : Int32) (x3 : Int32) (x4 : Int32) (x5 : Int32) (x6 : Int32) (x7 : Int32) (x8 : Int32) (x9 : Int32) (s : Mem), f x1 x2 x3 x4 x5 x6 x7 x8 x9 s = some z → RA 96 [some (.ref 123), some (.int x1), some (.int x2), some (.int x3), some (.int x4), some (.int x5), some (.int x6), some (.int x7), some (.int x8), some (.int x9)] s) : RA 96 ls s := by
  unfold A_R_unheard_53 at h
  split at h
  · rename_i a0 a1 a2 a3 a4 a5 a6 a7 a8 a9 e0 e1 e2 e3 e4 e5 e6 e7 e8 e9
    replace h := cbr_n h
    obtain ⟨hb, h⟩ := h
    cases beq_t hb
    refine hm _ _ [some (.ref 123), some (.int a1), some (.int a2), some (.int a3), some (.int a4), some (.int a5), some (.int a6), some (.int a7), some (.int a8), some (.int a9)] _ rfl (fun i v hv => ?_) (hf _ _ _ _ _ _ _ _ _ _ h)
    match i, hv with
    | 0, hv => exact e0.trans hv
    | 1, hv => exact e1.trans hv
    | 2, hv => exact e2.trans hv
    | 3, hv => exact e3.trans hv
    | 4, hv => exact e4.trans hv
    | 5, hv => exact e5.trans hv
    | 6, hv => exact e6.trans hv
    | 7, hv => exact e7.trans hv
    | 8, hv => exact e8.trans hv
    | 9, hv => exact e9.trans hv
    | i + 10, hv => cases hv
  · cases h
theorem n_R_unheard_53 {z : Int32 × Mem} {RA : Nat → List (Option Value) → Mem → Prop} (S : Sm I_R_unheard C_R_unheard K_R_unheard [81, 96] z RA) {k46 : Int32 → Int32 → Int32 → Int32 → Int32 → Int32 → Int32 → Mem → Option (Int32 × Mem)} (hk46 : ∀ (x1 : Int32) (x2 : Int32) (x3 : Int32) (x4 : Int32) (x5 : Int32) (x6 : Int32) (x7 : Int32) (s : Mem), k46 x1 x2 x3 x4 x5 x6 x7 s = some z → RA 81 [some (.ref 123), some (.int x1), some (.int x2), some (.int x3), some (.int x4), some (.int x5), some (.int x6), some (.int x7), none, none] s) : ∀ (n : Nat) (x1 : Int32) (x2 : Int32) (x3 : Int32) (x4 : Int32) (x5 : Int32) (x6 : Int32) (x7 : Int32) (x8 : Int32) (x9 : Int32) (s : Mem), F_R_unheard_53 k46 n x1 x2 x3 x4 x5 x6 x7 x8 x9 s = some z → RA 96 [some (.ref 123), some (.int x1), some (.int x2), some (.int x3), some (.int x4), some (.int x5), some (.int x6), some (.int x7), some (.int x8), some (.int x9)] s := by
  intro n
  induction n with
  | zero => intro x1 x2 x3 x4 x5 x6 x7 x8 x9 s h; exact nomatch (show (none : Option (Int32 × Mem)) = some z from h)
  | succ n ih =>
    intro x1 x2 x3 x4 x5 x6 x7 x8 x9 s h
    rw [e_R_unheard_53] at h
    refine S.2 _ ?_ 700 55 _ _ (ck1_of rfl) h
    intro k ls s h
    replace h := cbr_c h
    rcases h with ⟨hb, h⟩ | ⟨_, h⟩
    · cases beq_t hb
      exact a_R_unheard_46 S.1 h hk46
    replace h := cbr_c h
    rcases h with ⟨hb, h⟩ | ⟨_, h⟩
    · cases beq_t hb
      exact a_R_unheard_53 S.1 h ih
    cases h
theorem n_R_unheard_46 {z : Int32 × Mem} {RA : Nat → List (Option Value) → Mem → Prop} (S : Sm I_R_unheard C_R_unheard K_R_unheard [81, 96] z RA) : ∀ (n : Nat) (x1 : Int32) (x2 : Int32) (x3 : Int32) (x4 : Int32) (x5 : Int32) (x6 : Int32) (x7 : Int32) (s : Mem), F_R_unheard_46 n x1 x2 x3 x4 x5 x6 x7 s = some z → RA 81 [some (.ref 123), some (.int x1), some (.int x2), some (.int x3), some (.int x4), some (.int x5), some (.int x6), some (.int x7), none, none] s := by
  intro n
  induction n with
  | zero => intro x1 x2 x3 x4 x5 x6 x7 s h; exact nomatch (show (none : Option (Int32 × Mem)) = some z from h)
  | succ n ih =>
    intro x1 x2 x3 x4 x5 x6 x7 s h
    rw [e_R_unheard_46] at h
    refine S.2 _ ?_ 700 47 _ _ (ck1_of rfl) h
    intro k ls s h
    replace h := cbr_c h
    rcases h with ⟨hb, h⟩ | ⟨_, h⟩
    · cases beq_t hb
      exact a_R_unheard_53 S.1 h (n_R_unheard_53 S ih gF)
    cases h
theorem l_R_unheard (d : Nat) (k : Nat) (av : List Value) (s : Mem) (y : Int32 × Mem) (h : C_R_unheard k av s = some y) : Ctr (d + 6) (mtab k) av s y ∧ ((mtab k).2.2.2.2.2 = 77 → ∃ b rest, av = .ref b :: rest ∧ (b = 1001 ∨ b = 1002)) := by
  unfold C_R_unheard at h
  replace h := cbr_c h
  rcases h with ⟨hb, h⟩ | ⟨_, h⟩
  · cases beq_t hb
    exact ⟨c_R_isFlight h (d + 5), fun q => absurd q (by decide)⟩
  replace h := cbr_c h
  rcases h with ⟨hb, h⟩ | ⟨_, h⟩
  · cases beq_t hb
    exact ⟨c_R_isIn h (d + 5), fun q => absurd q (by decide)⟩
  replace h := cbr_c h
  rcases h with ⟨hb, h⟩ | ⟨_, h⟩
  · cases beq_t hb
    exact ⟨c_R_lesser h (d + 5), fun q => absurd q (by decide)⟩
  replace h := cbr_c h
  rcases h with ⟨hb, h⟩ | ⟨_, h⟩
  · cases beq_t hb
    exact ⟨c_R_isGone h (d + 5), fun q => absurd q (by decide)⟩
  replace h := cbr_c h
  rcases h with ⟨hb, h⟩ | ⟨_, h⟩
  · cases beq_t hb
    exact ⟨c_R_doesCreak h (d + 0), fun q => absurd q (by decide)⟩
  cases h
theorem c_R_unheard {av : List Value} {s : Mem} {z : Int32 × Mem} (h : A_R_unheard av s = some z) (d : Nat) : Ctr (d + 7) I_R_unheard av s z := by
  unfold A_R_unheard at h
  split at h
  · replace h := cbr_n h
    obtain ⟨hb, h⟩ := h
    cases beq_t hb
    refine ctr_of (d := d + 6) (own := 11) (kps := [81, 96]) (code := K_R_unheard) (Cl := C_R_unheard) o_R_unheard rfl (by decide) k_R_unheard (l_R_unheard d) (c1_of rfl) (Nat.le_of_ble_eq_true rfl) ?_
    intro RA S
    rw [e_R_unheard] at h
    refine S.2 _ ?_ 700 0 _ _ (ck1_of rfl) h
    intro k ls s h
    replace h := cbr_c h
    rcases h with ⟨hb, h⟩ | ⟨_, h⟩
    · cases beq_t hb
      exact a_R_unheard_46 S.1 h (n_R_unheard_46 S gF)
    cases h
  · cases h
