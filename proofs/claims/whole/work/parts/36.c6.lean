set_option maxRecDepth 1000000 in
theorem k_R_suspect : okC 11 I_R_suspect.2.2.1 I_R_suspect.2.1 I_R_suspect.2.2.2.1 [] K_R_suspect K_R_suspect = true := by decide +kernel
theorem l_R_suspect (d : Nat) (k : Nat) (av : List Value) (s : Mem) (y : Int32 × Mem) (h : C_R_suspect k av s = some y) : Ctr (d + 1) (mtab k) av s y ∧ ((mtab k).2.2.2.2.2 = 77 → ∃ b rest, av = .ref b :: rest ∧ (b = 1001 ∨ b = 1002)) := by
  unfold C_R_suspect at h
  replace h := cbr_c h
  rcases h with ⟨hb, h⟩ | ⟨_, h⟩
  · cases beq_t hb
    exact ⟨c_R_isIn h (d + 0), fun q => absurd q (by decide)⟩
  cases h
theorem c_R_suspect {av : List Value} {s : Mem} {z : Int32 × Mem} (h : A_R_suspect av s = some z) (d : Nat) : Ctr (d + 2) I_R_suspect av s z := by
  unfold A_R_suspect at h
  split at h
  · replace h := cbr_n h
    obtain ⟨hb, h⟩ := h
    cases beq_t hb
    refine ctr_of (d := d + 1) (own := 11) (kps := []) (code := K_R_suspect) (Cl := C_R_suspect) o_R_suspect rfl (by decide) k_R_suspect (l_R_suspect d) (c1_of rfl) (Nat.le_of_ble_eq_true rfl) ?_
    intro RA S
    rw [e_R_suspect] at h
    refine S.2 _ ?_ 700 0 _ _ (ck1_of rfl) h
    intro k ls s h
    cases h
  · cases h
set_option maxRecDepth 1000000 in
theorem k_R_wouldCreak : okC 11 I_R_wouldCreak.2.2.1 I_R_wouldCreak.2.1 I_R_wouldCreak.2.2.2.1 [] K_R_wouldCreak K_R_wouldCreak = true := by decide +kernel
theorem l_R_wouldCreak (d : Nat) (k : Nat) (av : List Value) (s : Mem) (y : Int32 × Mem) (h : C_R_wouldCreak k av s = some y) : Ctr (d + 6) (mtab k) av s y ∧ ((mtab k).2.2.2.2.2 = 77 → ∃ b rest, av = .ref b :: rest ∧ (b = 1001 ∨ b = 1002)) := by
  unfold C_R_wouldCreak at h
  replace h := cbr_c h
  rcases h with ⟨hb, h⟩ | ⟨_, h⟩
  · cases beq_t hb
    exact ⟨c_R_isGone h (d + 5), fun q => absurd q (by decide)⟩
  replace h := cbr_c h
  rcases h with ⟨hb, h⟩ | ⟨_, h⟩
  · cases beq_t hb
    exact ⟨c_R_doesCreak h (d + 0), fun q => absurd q (by decide)⟩
  cases h
theorem c_R_wouldCreak {av : List Value} {s : Mem} {z : Int32 × Mem} (h : A_R_wouldCreak av s = some z) (d : Nat) : Ctr (d + 7) I_R_wouldCreak av s z := by
  unfold A_R_wouldCreak at h
  split at h
  · replace h := cbr_n h
    obtain ⟨hb, h⟩ := h
    cases beq_t hb
    refine ctr_of (d := d + 6) (own := 11) (kps := []) (code := K_R_wouldCreak) (Cl := C_R_wouldCreak) o_R_wouldCreak rfl (by decide) k_R_wouldCreak (l_R_wouldCreak d) (c1_of rfl) (Nat.le_of_ble_eq_true rfl) ?_
    intro RA S
    rw [e_R_wouldCreak] at h
    refine S.2 _ ?_ 700 0 _ _ (ck1_of rfl) h
    intro k ls s h
    cases h
  · cases h
set_option maxRecDepth 1000000 in
theorem k_R_fittingSet : okC 11 I_R_fittingSet.2.2.1 I_R_fittingSet.2.1 I_R_fittingSet.2.2.2.1 [5, 20] K_R_fittingSet K_R_fittingSet = true := by decide +kernel
theorem a_R_fittingSet_4 {z : Int32 × Mem} {RA : Nat → List (Option Value) → Mem → Prop} (hm : ∀ (pc : Nat) (ls ls1 : List (Option Value)) (σ : Mem), ls1.length = I_R_fittingSet.2.2.1 → (∀ i v, lk ls1 i = some v → lk ls i = some v) → RA pc ls1 σ → RA pc ls σ) {f : Int32 → Int32 → Int32 → Int32 → Mem → Option (Int32 × Mem)} {ls : List (Option Value)} {s : Mem} (h : A_R_fittingSet_4 f ls s = some z) (hf : ∀ (x1 : Int32) (x2 : Int32) (x3 : Int32) (x4 : Int32) (s : Mem), f x1 x2 x3 x4 s = some z → RA 5 [some (.ref 123), some (.int x1), some (.int x2), some (.int x3), some (.int x4), none, none] s) : RA 5 ls s := by
  unfold A_R_fittingSet_4 at h
  split at h
  · rename_i a0 a1 a2 a3 a4 e0 e1 e2 e3 e4
    replace h := cbr_n h
    obtain ⟨hb, h⟩ := h
    cases beq_t hb
    refine hm _ _ [some (.ref 123), some (.int a1), some (.int a2), some (.int a3), some (.int a4), none, none] _ rfl (fun i v hv => ?_) (hf _ _ _ _ _ h)
    match i, hv with
    | 0, hv => exact e0.trans hv
    | 1, hv => exact e1.trans hv
    | 2, hv => exact e2.trans hv
    | 3, hv => exact e3.trans hv
    | 4, hv => exact e4.trans hv
    | 5, hv => cases hv
    | 6, hv => cases hv
    | i + 7, hv => cases hv
  · cases h
theorem a_R_fittingSet_12 {z : Int32 × Mem} {RA : Nat → List (Option Value) → Mem → Prop} (hm : ∀ (pc : Nat) (ls ls1 : List (Option Value)) (σ : Mem), ls1.length = I_R_fittingSet.2.2.1 → (∀ i v, lk ls1 i = some v → lk ls i = some v) → RA pc ls1 σ → RA pc ls σ) {f : Int32 → Int32 → Int32 → Int32 → Int32 → Int32 → Mem → Option (Int32 × Mem)} {ls : List (Option Value)} {s : Mem} (h : A_R_fittingSet_12 f ls s = some z) (hf : ∀ (x1 : Int32) (x2 : Int32) (x3 : Int32) (x4 : Int32) (x5 : Int32) (x6 : Int32) (s : Mem), f x1 x2 x3 x4 x5 x6 s = some z → RA 20 [some (.ref 123), some (.int x1), some (.int x2), some (.int x3), some (.int x4), some (.int x5), some (.int x6)] s) : RA 20 ls s := by
  unfold A_R_fittingSet_12 at h
  split at h
  · rename_i a0 a1 a2 a3 a4 a5 a6 e0 e1 e2 e3 e4 e5 e6
    replace h := cbr_n h
    obtain ⟨hb, h⟩ := h
    cases beq_t hb
    refine hm _ _ [some (.ref 123), some (.int a1), some (.int a2), some (.int a3), some (.int a4), some (.int a5), some (.int a6)] _ rfl (fun i v hv => ?_) (hf _ _ _ _ _ _ _ h)
    match i, hv with
    | 0, hv => exact e0.trans hv
    | 1, hv => exact e1.trans hv
    | 2, hv => exact e2.trans hv
    | 3, hv => exact e3.trans hv
    | 4, hv => exact e4.trans hv
    | 5, hv => exact e5.trans hv
    | 6, hv => exact e6.trans hv
    | i + 7, hv => cases hv
  · cases h
theorem n_R_fittingSet_12 {z : Int32 × Mem} {RA : Nat → List (Option Value) → Mem → Prop} (S : Sm I_R_fittingSet C_R_fittingSet K_R_fittingSet [5, 20] z RA) {k4 : Int32 → Int32 → Int32 → Int32 → Mem → Option (Int32 × Mem)} (hk4 : ∀ (x1 : Int32) (x2 : Int32) (x3 : Int32) (x4 : Int32) (s : Mem), k4 x1 x2 x3 x4 s = some z → RA 5 [some (.ref 123), some (.int x1), some (.int x2), some (.int x3), some (.int x4), none, none] s) : ∀ (n : Nat) (x1 : Int32) (x2 : Int32) (x3 : Int32) (x4 : Int32) (x5 : Int32) (x6 : Int32) (s : Mem), F_R_fittingSet_12 k4 n x1 x2 x3 x4 x5 x6 s = some z → RA 20 [some (.ref 123), some (.int x1), some (.int x2), some (.int x3), some (.int x4), some (.int x5), some (.int x6)] s := by
  intro n
  induction n with
  | zero => intro x1 x2 x3 x4 x5 x6 s h; exact nomatch (show (none : Option (Int32 × Mem)) = some z from h)
  | succ n ih =>
    intro x1 x2 x3 x4 x5 x6 s h
    rw [e_R_fittingSet_12] at h
    refine S.2 _ ?_ 700 14 _ _ (ck1_of rfl) h
    intro k ls s h
    replace h := cbr_c h
    rcases h with ⟨hb, h⟩ | ⟨_, h⟩
    · cases beq_t hb
      exact a_R_fittingSet_4 S.1 h hk4
    replace h := cbr_c h
    rcases h with ⟨hb, h⟩ | ⟨_, h⟩
    · cases beq_t hb
      exact a_R_fittingSet_12 S.1 h ih
    cases h
theorem n_R_fittingSet_4 {z : Int32 × Mem} {RA : Nat → List (Option Value) → Mem → Prop} (S : Sm I_R_fittingSet C_R_fittingSet K_R_fittingSet [5, 20] z RA) : ∀ (n : Nat) (x1 : Int32) (x2 : Int32) (x3 : Int32) (x4 : Int32) (s : Mem), F_R_fittingSet_4 n x1 x2 x3 x4 s = some z → RA 5 [some (.ref 123), some (.int x1), some (.int x2), some (.int x3), some (.int x4), none, none] s := by
  intro n
  induction n with
  | zero => intro x1 x2 x3 x4 s h; exact nomatch (show (none : Option (Int32 × Mem)) = some z from h)
  | succ n ih =>
    intro x1 x2 x3 x4 s h
    rw [e_R_fittingSet_4] at h
    refine S.2 _ ?_ 700 5 _ _ (ck1_of rfl) h
    intro k ls s h
    replace h := cbr_c h
    rcases h with ⟨hb, h⟩ | ⟨_, h⟩
    · cases beq_t hb
      exact a_R_fittingSet_12 S.1 h (n_R_fittingSet_12 S ih gF)
    cases h
theorem l_R_fittingSet (d : Nat) (k : Nat) (av : List Value) (s : Mem) (y : Int32 × Mem) (h : C_R_fittingSet k av s = some y) : Ctr (d + 7) (mtab k) av s y ∧ ((mtab k).2.2.2.2.2 = 77 → ∃ b rest, av = .ref b :: rest ∧ (b = 1001 ∨ b = 1002)) := by
  unfold C_R_fittingSet at h
  replace h := cbr_c h
  rcases h with ⟨hb, h⟩ | ⟨_, h⟩
  · cases beq_t hb
    exact ⟨c_R_wouldCreak h (d + 0), fun q => absurd q (by decide)⟩
  cases h
theorem c_R_fittingSet {av : List Value} {s : Mem} {z : Int32 × Mem} (h : A_R_fittingSet av s = some z) (d : Nat) : Ctr (d + 8) I_R_fittingSet av s z := by
  unfold A_R_fittingSet at h
  split at h
  · replace h := cbr_n h
    obtain ⟨hb, h⟩ := h
    cases beq_t hb
    refine ctr_of (d := d + 7) (own := 11) (kps := [5, 20]) (code := K_R_fittingSet) (Cl := C_R_fittingSet) o_R_fittingSet rfl (by decide) k_R_fittingSet (l_R_fittingSet d) (c1_of rfl) (Nat.le_of_ble_eq_true rfl) ?_
    intro RA S
    rw [e_R_fittingSet] at h
    refine S.2 _ ?_ 700 0 _ _ (ck1_of rfl) h
    intro k ls s h
    replace h := cbr_c h
    rcases h with ⟨hb, h⟩ | ⟨_, h⟩
    · cases beq_t hb
      exact a_R_fittingSet_4 S.1 h (n_R_fittingSet_4 S gF)
    cases h
  · cases h
set_option maxRecDepth 1000000 in
theorem k_R_firstLoose : okC 11 I_R_firstLoose.2.2.1 I_R_firstLoose.2.1 I_R_firstLoose.2.2.2.1 [2, 23] K_R_firstLoose K_R_firstLoose = true := by decide +kernel
theorem a_R_firstLoose_2 {z : Int32 × Mem} {RA : Nat → List (Option Value) → Mem → Prop} (hm : ∀ (pc : Nat) (ls ls1 : List (Option Value)) (σ : Mem), ls1.length = I_R_firstLoose.2.2.1 → (∀ i v, lk ls1 i = some v → lk ls i = some v) → RA pc ls1 σ → RA pc ls σ) {f : Int32 → Int32 → Int32 → Mem → Option (Int32 × Mem)} {ls : List (Option Value)} {s : Mem} (h : A_R_firstLoose_2 f ls s = some z) (hf : ∀ (x1 : Int32) (x2 : Int32) (x3 : Int32) (s : Mem), f x1 x2 x3 s = some z → RA 2 [some (.ref 123), some (.int x1), some (.int x2), some (.int x3), none, none] s) : RA 2 ls s := by
  unfold A_R_firstLoose_2 at h
  split at h
  · rename_i a0 a1 a2 a3 e0 e1 e2 e3
    replace h := cbr_n h
    obtain ⟨hb, h⟩ := h
    cases beq_t hb
    refine hm _ _ [some (.ref 123), some (.int a1), some (.int a2), some (.int a3), none, none] _ rfl (fun i v hv => ?_) (hf _ _ _ _ h)
    match i, hv with
    | 0, hv => exact e0.trans hv
    | 1, hv => exact e1.trans hv
    | 2, hv => exact e2.trans hv
    | 3, hv => exact e3.trans hv
    | 4, hv => cases hv
    | 5, hv => cases hv
    | i + 6, hv => cases hv
  · cases h
theorem a_R_firstLoose_15 {z : Int32 × Mem} {RA : Nat → List (Option Value) → Mem → Prop} (hm : ∀ (pc : Nat) (ls ls1 : List (Option Value)) (σ : Mem), ls1.length = I_R_firstLoose.2.2.1 → (∀ i v, lk ls1 i = some v → lk ls i = some v) → RA pc ls1 σ → RA pc ls σ) {f : Int32 → Int32 → Int32 → Int32 → Int32 → Mem → Option (Int32 × Mem)} {ls : List (Option Value)} {s : Mem} (h : A_R_firstLoose_15 f ls s = some z) (hf : ∀ (x1 : Int32) (x2 : Int32) (x3 : Int32) (x4 : Int32) (x5 : Int32) (s : Mem), f x1 x2 x3 x4 x5 s = some z → RA 23 [some (.ref 123), some (.int x1), some (.int x2), some (.int x3), some (.int x4), some (.int x5)] s) : RA 23 ls s := by
  unfold A_R_firstLoose_15 at h
  split at h
  · rename_i a0 a1 a2 a3 a4 a5 e0 e1 e2 e3 e4 e5
    replace h := cbr_n h
    obtain ⟨hb, h⟩ := h
    cases beq_t hb
    refine hm _ _ [some (.ref 123), some (.int a1), some (.int a2), some (.int a3), some (.int a4), some (.int a5)] _ rfl (fun i v hv => ?_) (hf _ _ _ _ _ _ h)
    match i, hv with
    | 0, hv => exact e0.trans hv
    | 1, hv => exact e1.trans hv
    | 2, hv => exact e2.trans hv
    | 3, hv => exact e3.trans hv
    | 4, hv => exact e4.trans hv
    | 5, hv => exact e5.trans hv
    | i + 6, hv => cases hv
  · cases h
theorem n_R_firstLoose_15 {z : Int32 × Mem} {RA : Nat → List (Option Value) → Mem → Prop} (S : Sm I_R_firstLoose C_R_firstLoose K_R_firstLoose [2, 23] z RA) {k2 : Int32 → Int32 → Int32 → Mem → Option (Int32 × Mem)} (hk2 : ∀ (x1 : Int32) (x2 : Int32) (x3 : Int32) (s : Mem), k2 x1 x2 x3 s = some z → RA 2 [some (.ref 123), some (.int x1), some (.int x2), some (.int x3), none, none] s) : ∀ (n : Nat) (x1 : Int32) (x2 : Int32) (x3 : Int32) (x4 : Int32) (x5 : Int32) (s : Mem), F_R_firstLoose_15 k2 n x1 x2 x3 x4 x5 s = some z → RA 23 [some (.ref 123), some (.int x1), some (.int x2), some (.int x3), some (.int x4), some (.int x5)] s := by
  intro n
  induction n with
  | zero => intro x1 x2 x3 x4 x5 s h; exact nomatch (show (none : Option (Int32 × Mem)) = some z from h)
  | succ n ih =>
    intro x1 x2 x3 x4 x5 s h
    rw [e_R_firstLoose_15] at h
    refine S.2 _ ?_ 700 17 _ _ (ck1_of rfl) h
    intro k ls s h
    replace h := cbr_c h
    rcases h with ⟨hb, h⟩ | ⟨_, h⟩
    · cases beq_t hb
      exact a_R_firstLoose_2 S.1 h hk2
    replace h := cbr_c h
    rcases h with ⟨hb, h⟩ | ⟨_, h⟩
    · cases beq_t hb
      exact a_R_firstLoose_15 S.1 h ih
    cases h
theorem n_R_firstLoose_2 {z : Int32 × Mem} {RA : Nat → List (Option Value) → Mem → Prop} (S : Sm I_R_firstLoose C_R_firstLoose K_R_firstLoose [2, 23] z RA) : ∀ (n : Nat) (x1 : Int32) (x2 : Int32) (x3 : Int32) (s : Mem), F_R_firstLoose_2 n x1 x2 x3 s = some z → RA 2 [some (.ref 123), some (.int x1), some (.int x2), some (.int x3), none, none] s := by
  intro n
  induction n with
  | zero => intro x1 x2 x3 s h; exact nomatch (show (none : Option (Int32 × Mem)) = some z from h)
  | succ n ih =>
    intro x1 x2 x3 s h
    rw [e_R_firstLoose_2] at h
    refine S.2 _ ?_ 700 3 _ _ (ck1_of rfl) h
    intro k ls s h
    replace h := cbr_c h
    rcases h with ⟨hb, h⟩ | ⟨_, h⟩
    · cases beq_t hb
      exact a_R_firstLoose_15 S.1 h (n_R_firstLoose_15 S ih gF)
    cases h
theorem l_R_firstLoose (d : Nat) (k : Nat) (av : List Value) (s : Mem) (y : Int32 × Mem) (h : C_R_firstLoose k av s = some y) : Ctr (d + 7) (mtab k) av s y ∧ ((mtab k).2.2.2.2.2 = 77 → ∃ b rest, av = .ref b :: rest ∧ (b = 1001 ∨ b = 1002)) := by
  unfold C_R_firstLoose at h
  replace h := cbr_c h
  rcases h with ⟨hb, h⟩ | ⟨_, h⟩
  · cases beq_t hb
    exact ⟨c_R_onesOf h (d + 6), fun q => absurd q (by decide)⟩
  replace h := cbr_c h
  rcases h with ⟨hb, h⟩ | ⟨_, h⟩
  · cases beq_t hb
    exact ⟨c_R_has h (d + 6), fun q => absurd q (by decide)⟩
  replace h := cbr_c h
  rcases h with ⟨hb, h⟩ | ⟨_, h⟩
  · cases beq_t hb
    exact ⟨c_R_wouldCreak h (d + 0), fun q => absurd q (by decide)⟩
  cases h
theorem c_R_firstLoose {av : List Value} {s : Mem} {z : Int32 × Mem} (h : A_R_firstLoose av s = some z) (d : Nat) : Ctr (d + 8) I_R_firstLoose av s z := by
  unfold A_R_firstLoose at h
  split at h
  · replace h := cbr_n h
    obtain ⟨hb, h⟩ := h
    cases beq_t hb
    refine ctr_of (d := d + 7) (own := 11) (kps := [2, 23]) (code := K_R_firstLoose) (Cl := C_R_firstLoose) o_R_firstLoose rfl (by decide) k_R_firstLoose (l_R_firstLoose d) (c1_of rfl) (Nat.le_of_ble_eq_true rfl) ?_
    intro RA S
    rw [e_R_firstLoose] at h
    refine S.2 _ ?_ 700 0 _ _ (ck1_of rfl) h
    intro k ls s h
    replace h := cbr_c h
    rcases h with ⟨hb, h⟩ | ⟨_, h⟩
    · cases beq_t hb
      exact a_R_firstLoose_2 S.1 h (n_R_firstLoose_2 S gF)
    cases h
  · cases h
set_option maxRecDepth 1000000 in
theorem k_R_who : okC 11 I_R_who.2.2.1 I_R_who.2.1 I_R_who.2.2.2.1 [] K_R_who K_R_who = true := by decide +kernel
theorem l_R_who (d : Nat) (k : Nat) (av : List Value) (s : Mem) (y : Int32 × Mem) (h : C_R_who k av s = some y) : Ctr (d + 8) (mtab k) av s y ∧ ((mtab k).2.2.2.2.2 = 77 → ∃ b rest, av = .ref b :: rest ∧ (b = 1001 ∨ b = 1002)) := by
  unfold C_R_who at h
  replace h := cbr_c h
  rcases h with ⟨hb, h⟩ | ⟨_, h⟩
  · cases beq_t hb
    exact ⟨c_R_isFlight h (d + 7), fun q => absurd q (by decide)⟩
  replace h := cbr_c h
  rcases h with ⟨hb, h⟩ | ⟨_, h⟩
  · cases beq_t hb
    exact ⟨c_R_isIn h (d + 7), fun q => absurd q (by decide)⟩
  replace h := cbr_c h
  rcases h with ⟨hb, h⟩ | ⟨_, h⟩
  · cases beq_t hb
    exact ⟨c_R_fittingSet h (d + 0), fun q => absurd q (by decide)⟩
  replace h := cbr_c h
  rcases h with ⟨hb, h⟩ | ⟨_, h⟩
  · cases beq_t hb
    exact ⟨c_R_firstLoose h (d + 0), fun q => absurd q (by decide)⟩
  cases h
theorem c_R_who {av : List Value} {s : Mem} {z : Int32 × Mem} (h : A_R_who av s = some z) (d : Nat) : Ctr (d + 9) I_R_who av s z := by
  unfold A_R_who at h
  split at h
  · replace h := cbr_n h
    obtain ⟨hb, h⟩ := h
    cases beq_t hb
    refine ctr_of (d := d + 8) (own := 11) (kps := []) (code := K_R_who) (Cl := C_R_who) o_R_who rfl (by decide) k_R_who (l_R_who d) (c1_of rfl) (Nat.le_of_ble_eq_true rfl) ?_
    intro RA S
    rw [e_R_who] at h
    refine S.2 _ ?_ 700 0 _ _ (ck1_of rfl) h
    intro k ls s h
    cases h
  · cases h
set_option maxRecDepth 1000000 in
theorem k_R_presentSet : okC 11 I_R_presentSet.2.2.1 I_R_presentSet.2.1 I_R_presentSet.2.2.2.1 [4] K_R_presentSet K_R_presentSet = true := by decide +kernel
theorem a_R_presentSet_4 {z : Int32 × Mem} {RA : Nat → List (Option Value) → Mem → Prop} (hm : ∀ (pc : Nat) (ls ls1 : List (Option Value)) (σ : Mem), ls1.length = I_R_presentSet.2.2.1 → (∀ i v, lk ls1 i = some v → lk ls i = some v) → RA pc ls1 σ → RA pc ls σ) {f : Int32 → Int32 → Int32 → Mem → Option (Int32 × Mem)} {ls : List (Option Value)} {s : Mem} (h : A_R_presentSet_4 f ls s = some z) (hf : ∀ (x1 : Int32) (x2 : Int32) (x3 : Int32) (s : Mem), f x1 x2 x3 s = some z → RA 4 [some (.ref 123), some (.int x1), some (.int x2), some (.int x3)] s) : RA 4 ls s := by
  unfold A_R_presentSet_4 at h
  split at h
  · rename_i a0 a1 a2 a3 e0 e1 e2 e3
    replace h := cbr_n h
    obtain ⟨hb, h⟩ := h
    cases beq_t hb
    refine hm _ _ [some (.ref 123), some (.int a1), some (.int a2), some (.int a3)] _ rfl (fun i v hv => ?_) (hf _ _ _ _ h)
    match i, hv with
    | 0, hv => exact e0.trans hv
    | 1, hv => exact e1.trans hv
    | 2, hv => exact e2.trans hv
    | 3, hv => exact e3.trans hv
    | i + 4, hv => cases hv
  · cases h
theorem n_R_presentSet_4 {z : Int32 × Mem} {RA : Nat → List (Option Value) → Mem → Prop} (S : Sm I_R_presentSet C_R_presentSet K_R_presentSet [4] z RA) : ∀ (n : Nat) (x1 : Int32) (x2 : Int32) (x3 : Int32) (s : Mem), F_R_presentSet_4 n x1 x2 x3 s = some z → RA 4 [some (.ref 123), some (.int x1), some (.int x2), some (.int x3)] s := by
  intro n
  induction n with
  | zero => intro x1 x2 x3 s h; exact nomatch (show (none : Option (Int32 × Mem)) = some z from h)
  | succ n ih =>
    intro x1 x2 x3 s h
    rw [e_R_presentSet_4] at h
    refine S.2 _ ?_ 700 5 _ _ (ck1_of rfl) h
    intro k ls s h
    replace h := cbr_c h
    rcases h with ⟨hb, h⟩ | ⟨_, h⟩
    · cases beq_t hb
      exact a_R_presentSet_4 S.1 h ih
    cases h
theorem l_R_presentSet (d : Nat) (k : Nat) (av : List Value) (s : Mem) (y : Int32 × Mem) (h : C_R_presentSet k av s = some y) : Ctr (d + 1) (mtab k) av s y ∧ ((mtab k).2.2.2.2.2 = 77 → ∃ b rest, av = .ref b :: rest ∧ (b = 1001 ∨ b = 1002)) := by
  unfold C_R_presentSet at h
  replace h := cbr_c h
  rcases h with ⟨hb, h⟩ | ⟨_, h⟩
  · cases beq_t hb
    exact ⟨c_R_isGone h (d + 0), fun q => absurd q (by decide)⟩
  cases h
theorem c_R_presentSet {av : List Value} {s : Mem} {z : Int32 × Mem} (h : A_R_presentSet av s = some z) (d : Nat) : Ctr (d + 2) I_R_presentSet av s z := by
  unfold A_R_presentSet at h
  split at h
  · replace h := cbr_n h
    obtain ⟨hb, h⟩ := h
    cases beq_t hb
    refine ctr_of (d := d + 1) (own := 11) (kps := [4]) (code := K_R_presentSet) (Cl := C_R_presentSet) o_R_presentSet rfl (by decide) k_R_presentSet (l_R_presentSet d) (c1_of rfl) (Nat.le_of_ble_eq_true rfl) ?_
    intro RA S
    rw [e_R_presentSet] at h
    refine S.2 _ ?_ 700 0 _ _ (ck1_of rfl) h
    intro k ls s h
    replace h := cbr_c h
    rcases h with ⟨hb, h⟩ | ⟨_, h⟩
    · cases beq_t hb
      exact a_R_presentSet_4 S.1 h (n_R_presentSet_4 S gF)
    cases h
  · cases h
set_option maxRecDepth 1000000 in
theorem k_R_isManned : okC 11 I_R_isManned.2.2.1 I_R_isManned.2.1 I_R_isManned.2.2.2.1 [3] K_R_isManned K_R_isManned = true := by decide +kernel
theorem a_R_isManned_2 {z : Int32 × Mem} {RA : Nat → List (Option Value) → Mem → Prop} (hm : ∀ (pc : Nat) (ls ls1 : List (Option Value)) (σ : Mem), ls1.length = I_R_isManned.2.2.1 → (∀ i v, lk ls1 i = some v → lk ls i = some v) → RA pc ls1 σ → RA pc ls σ) {f : Int32 → Int32 → Int32 → Int32 → Mem → Option (Int32 × Mem)} {ls : List (Option Value)} {s : Mem} (h : A_R_isManned_2 f ls s = some z) (hf : ∀ (x1 : Int32) (x2 : Int32) (x3 : Int32) (x4 : Int32) (s : Mem), f x1 x2 x3 x4 s = some z → RA 3 [none, some (.int x1), some (.int x2), some (.int x3), some (.int x4)] s) : RA 3 ls s := by
  unfold A_R_isManned_2 at h
  split at h
  · rename_i a0 a1 a2 a3 e0 e1 e2 e3
    refine hm _ _ [none, some (.int a0), some (.int a1), some (.int a2), some (.int a3)] _ rfl (fun i v hv => ?_) (hf _ _ _ _ _ h)
    match i, hv with
    | 0, hv => cases hv
    | 1, hv => exact e0.trans hv
    | 2, hv => exact e1.trans hv
    | 3, hv => exact e2.trans hv
    | 4, hv => exact e3.trans hv
    | i + 5, hv => cases hv
  · cases h
theorem n_R_isManned_2 {z : Int32 × Mem} {RA : Nat → List (Option Value) → Mem → Prop} (S : Sm I_R_isManned C_R_isManned K_R_isManned [3] z RA) : ∀ (n : Nat) (x1 : Int32) (x2 : Int32) (x3 : Int32) (x4 : Int32) (s : Mem), F_R_isManned_2 n x1 x2 x3 x4 s = some z → RA 3 [none, some (.int x1), some (.int x2), some (.int x3), some (.int x4)] s := by
  intro n
  induction n with
  | zero => intro x1 x2 x3 x4 s h; exact nomatch (show (none : Option (Int32 × Mem)) = some z from h)
  | succ n ih =>
    intro x1 x2 x3 x4 s h
    rw [e_R_isManned_2] at h
    refine S.2 _ ?_ 700 3 _ _ (ck1_of rfl) h
    intro k ls s h
    replace h := cbr_c h
    rcases h with ⟨hb, h⟩ | ⟨_, h⟩
    · cases beq_t hb
      exact a_R_isManned_2 S.1 h ih
    cases h
theorem l_R_isManned (d : Nat) (k : Nat) (av : List Value) (s : Mem) (y : Int32 × Mem) (h : C_R_isManned k av s = some y) : Ctr (d + 0) (mtab k) av s y ∧ ((mtab k).2.2.2.2.2 = 77 → ∃ b rest, av = .ref b :: rest ∧ (b = 1001 ∨ b = 1002)) := by
  exact nomatch (show (none : Option (Int32 × Mem)) = some y from h)
theorem c_R_isManned {av : List Value} {s : Mem} {z : Int32 × Mem} (h : A_R_isManned av s = some z) (d : Nat) : Ctr (d + 1) I_R_isManned av s z := by
  unfold A_R_isManned at h
  split at h
  · replace h := cbr_n h
    obtain ⟨hb, h⟩ := h
    cases beq_t hb
    refine ctr_of (d := d + 0) (own := 11) (kps := [3]) (code := K_R_isManned) (Cl := C_R_isManned) o_R_isManned rfl (by decide) k_R_isManned (l_R_isManned d) (c1_of rfl) (Nat.le_of_ble_eq_true rfl) ?_
    intro RA S
    rw [e_R_isManned] at h
    refine S.2 _ ?_ 700 0 _ _ (ck1_of rfl) h
    intro k ls s h
    replace h := cbr_c h
    rcases h with ⟨hb, h⟩ | ⟨_, h⟩
    · cases beq_t hb
      exact a_R_isManned_2 S.1 h (n_R_isManned_2 S gF)
    cases h
  · cases h
set_option maxRecDepth 1000000 in
theorem k_R_roster : okC 11 I_R_roster.2.2.1 I_R_roster.2.1 I_R_roster.2.2.2.1 [56] K_R_roster K_R_roster = true := by decide +kernel
theorem a_R_roster_34 {z : Int32 × Mem} {RA : Nat → List (Option Value) → Mem → Prop} (hm : ∀ (pc : Nat) (ls ls1 : List (Option Value)) (σ : Mem), ls1.length = I_R_roster.2.2.1 → (∀ i v, lk ls1 i = some v → lk ls i = some v) → RA pc ls1 σ → RA pc ls σ) {f : Int32 → Int32 → Int32 → Int32 → Int32 → Int32 → Mem → Option (Int32 × Mem)} {ls : List (Option Value)} {s : Mem} (h : A_R_roster_34 f ls s = some z) (hf : ∀ (x2 : Int32) (x3 : Int32) (x4 : Int32) (x5 : Int32) (x6 : Int32) (x7 : Int32) (s : Mem), f x2 x3 x4 x5 x6 x7 s = some z → RA 56 [some (.ref 123), none, some (.int x2), some (.int x3), some (.int x4), some (.int x5), some (.int x6), some (.int x7)] s) : RA 56 ls s := by
  unfold A_R_roster_34 at h
  split at h
  · rename_i a0 a1 a2 a3 a4 a5 a6 e0 e1 e2 e3 e4 e5 e6
    replace h := cbr_n h
    obtain ⟨hb, h⟩ := h
    cases beq_t hb
    refine hm _ _ [some (.ref 123), none, some (.int a1), some (.int a2), some (.int a3), some (.int a4), some (.int a5), some (.int a6)] _ rfl (fun i v hv => ?_) (hf _ _ _ _ _ _ _ h)
    match i, hv with
    | 0, hv => exact e0.trans hv
    | 1, hv => cases hv
    | 2, hv => exact e1.trans hv
    | 3, hv => exact e2.trans hv
    | 4, hv => exact e3.trans hv
    | 5, hv => exact e4.trans hv
    | 6, hv => exact e5.trans hv
    | 7, hv => exact e6.trans hv
    | i + 8, hv => cases hv
  · cases h
theorem n_R_roster_34 {z : Int32 × Mem} {RA : Nat → List (Option Value) → Mem → Prop} (S : Sm I_R_roster C_R_roster K_R_roster [56] z RA) : ∀ (n : Nat) (x2 : Int32) (x3 : Int32) (x4 : Int32) (x5 : Int32) (x6 : Int32) (x7 : Int32) (s : Mem), F_R_roster_34 n x2 x3 x4 x5 x6 x7 s = some z → RA 56 [some (.ref 123), none, some (.int x2), some (.int x3), some (.int x4), some (.int x5), some (.int x6), some (.int x7)] s := by
  intro n
  induction n with
  | zero => intro x2 x3 x4 x5 x6 x7 s h; exact nomatch (show (none : Option (Int32 × Mem)) = some z from h)
  | succ n ih =>
    intro x2 x3 x4 x5 x6 x7 s h
    rw [e_R_roster_34] at h
    refine S.2 _ ?_ 700 35 _ _ (ck1_of rfl) h
    intro k ls s h
    replace h := cbr_c h
    rcases h with ⟨hb, h⟩ | ⟨_, h⟩
    · cases beq_t hb
      exact a_R_roster_34 S.1 h ih
    cases h
theorem l_R_roster (d : Nat) (k : Nat) (av : List Value) (s : Mem) (y : Int32 × Mem) (h : C_R_roster k av s = some y) : Ctr (d + 2) (mtab k) av s y ∧ ((mtab k).2.2.2.2.2 = 77 → ∃ b rest, av = .ref b :: rest ∧ (b = 1001 ∨ b = 1002)) := by
  unfold C_R_roster at h
  replace h := cbr_c h
  rcases h with ⟨hb, h⟩ | ⟨_, h⟩
  · cases beq_t hb
    exact ⟨c_R_isFlight h (d + 1), fun q => absurd q (by decide)⟩
  replace h := cbr_c h
  rcases h with ⟨hb, h⟩ | ⟨_, h⟩
  · cases beq_t hb
    exact ⟨c_R_isIn h (d + 1), fun q => absurd q (by decide)⟩
  replace h := cbr_c h
  rcases h with ⟨hb, h⟩ | ⟨_, h⟩
  · cases beq_t hb
    exact ⟨c_R_presentSet h (d + 0), fun q => absurd q (by decide)⟩
  replace h := cbr_c h
  rcases h with ⟨hb, h⟩ | ⟨_, h⟩
  · cases beq_t hb
    exact ⟨c_R_onesOf h (d + 1), fun q => absurd q (by decide)⟩
  replace h := cbr_c h
  rcases h with ⟨hb, h⟩ | ⟨_, h⟩
  · cases beq_t hb
    exact ⟨c_R_isManned h (d + 1), fun q => absurd q (by decide)⟩
  cases h
theorem c_R_roster {av : List Value} {s : Mem} {z : Int32 × Mem} (h : A_R_roster av s = some z) (d : Nat) : Ctr (d + 3) I_R_roster av s z := by
  unfold A_R_roster at h
  split at h
  · replace h := cbr_n h
    obtain ⟨hb, h⟩ := h
    cases beq_t hb
    refine ctr_of (d := d + 2) (own := 11) (kps := [56]) (code := K_R_roster) (Cl := C_R_roster) o_R_roster rfl (by decide) k_R_roster (l_R_roster d) (c1_of rfl) (Nat.le_of_ble_eq_true rfl) ?_
    intro RA S
    rw [e_R_roster] at h
    refine S.2 _ ?_ 700 0 _ _ (ck1_of rfl) h
    intro k ls s h
    replace h := cbr_c h
    rcases h with ⟨hb, h⟩ | ⟨_, h⟩
    · cases beq_t hb
      exact a_R_roster_34 S.1 h (n_R_roster_34 S gF)
    cases h
  · cases h
set_option maxRecDepth 1000000 in
theorem k_R_signer : okC 11 I_R_signer.2.2.1 I_R_signer.2.1 I_R_signer.2.2.2.1 [47] K_R_signer K_R_signer = true := by decide +kernel
theorem a_R_signer_29 {z : Int32 × Mem} {RA : Nat → List (Option Value) → Mem → Prop} (hm : ∀ (pc : Nat) (ls ls1 : List (Option Value)) (σ : Mem), ls1.length = I_R_signer.2.2.1 → (∀ i v, lk ls1 i = some v → lk ls i = some v) → RA pc ls1 σ → RA pc ls σ) {f : Int32 → Int32 → Int32 → Int32 → Mem → Option (Int32 × Mem)} {ls : List (Option Value)} {s : Mem} (h : A_R_signer_29 f ls s = some z) (hf : ∀ (x1 : Int32) (x2 : Int32) (x3 : Int32) (x4 : Int32) (s : Mem), f x1 x2 x3 x4 s = some z → RA 47 [some (.ref 123), some (.int x1), some (.int x2), some (.int x3), some (.int x4)] s) : RA 47 ls s := by
  unfold A_R_signer_29 at h
  split at h
  · rename_i a0 a1 a2 a3 a4 e0 e1 e2 e3 e4
    replace h := cbr_n h
    obtain ⟨hb, h⟩ := h
    cases beq_t hb
    refine hm _ _ [some (.ref 123), some (.int a1), some (.int a2), some (.int a3), some (.int a4)] _ rfl (fun i v hv => ?_) (hf _ _ _ _ _ h)
    match i, hv with
    | 0, hv => exact e0.trans hv
    | 1, hv => exact e1.trans hv
    | 2, hv => exact e2.trans hv
    | 3, hv => exact e3.trans hv
    | 4, hv => exact e4.trans hv
    | i + 5, hv => cases hv
  · cases h
theorem n_R_signer_29 {z : Int32 × Mem} {RA : Nat → List (Option Value) → Mem → Prop} (S : Sm I_R_signer C_R_signer K_R_signer [47] z RA) : ∀ (n : Nat) (x1 : Int32) (x2 : Int32) (x3 : Int32) (x4 : Int32) (s : Mem), F_R_signer_29 n x1 x2 x3 x4 s = some z → RA 47 [some (.ref 123), some (.int x1), some (.int x2), some (.int x3), some (.int x4)] s := by
  intro n
  induction n with
  | zero => intro x1 x2 x3 x4 s h; exact nomatch (show (none : Option (Int32 × Mem)) = some z from h)
  | succ n ih =>
    intro x1 x2 x3 x4 s h
    rw [e_R_signer_29] at h
    refine S.2 _ ?_ 700 30 _ _ (ck1_of rfl) h
    intro k ls s h
    replace h := cbr_c h
    rcases h with ⟨hb, h⟩ | ⟨_, h⟩
    · cases beq_t hb
      exact a_R_signer_29 S.1 h ih
    cases h
theorem l_R_signer (d : Nat) (k : Nat) (av : List Value) (s : Mem) (y : Int32 × Mem) (h : C_R_signer k av s = some y) : Ctr (d + 1) (mtab k) av s y ∧ ((mtab k).2.2.2.2.2 = 77 → ∃ b rest, av = .ref b :: rest ∧ (b = 1001 ∨ b = 1002)) := by
  unfold C_R_signer at h
  replace h := cbr_c h
  rcases h with ⟨hb, h⟩ | ⟨_, h⟩
  · cases beq_t hb
    exact ⟨c_R_isIn h (d + 0), fun q => absurd q (by decide)⟩
  cases h
theorem c_R_signer {av : List Value} {s : Mem} {z : Int32 × Mem} (h : A_R_signer av s = some z) (d : Nat) : Ctr (d + 2) I_R_signer av s z := by
  unfold A_R_signer at h
  split at h
  · replace h := cbr_n h
    obtain ⟨hb, h⟩ := h
    cases beq_t hb
    refine ctr_of (d := d + 1) (own := 11) (kps := [47]) (code := K_R_signer) (Cl := C_R_signer) o_R_signer rfl (by decide) k_R_signer (l_R_signer d) (c1_of rfl) (Nat.le_of_ble_eq_true rfl) ?_
    intro RA S
    rw [e_R_signer] at h
    refine S.2 _ ?_ 700 0 _ _ (ck1_of rfl) h
    intro k ls s h
    replace h := cbr_c h
    rcases h with ⟨hb, h⟩ | ⟨_, h⟩
    · cases beq_t hb
      exact a_R_signer_29 S.1 h (n_R_signer_29 S gF)
    cases h
  · cases h
set_option maxRecDepth 1000000 in
theorem k_R_votesFor : okC 11 I_R_votesFor.2.2.1 I_R_votesFor.2.1 I_R_votesFor.2.2.2.1 [5, 26] K_R_votesFor K_R_votesFor = true := by decide +kernel
theorem a_R_votesFor_4 {z : Int32 × Mem} {RA : Nat → List (Option Value) → Mem → Prop} (hm : ∀ (pc : Nat) (ls ls1 : List (Option Value)) (σ : Mem), ls1.length = I_R_votesFor.2.2.1 → (∀ i v, lk ls1 i = some v → lk ls i = some v) → RA pc ls1 σ → RA pc ls σ) {f : Int32 → Int32 → Int32 → Int32 → Mem → Option (Int32 × Mem)} {ls : List (Option Value)} {s : Mem} (h : A_R_votesFor_4 f ls s = some z) (hf : ∀ (x1 : Int32) (x2 : Int32) (x3 : Int32) (x4 : Int32) (s : Mem), f x1 x2 x3 x4 s = some z → RA 5 [some (.ref 123), some (.int x1), some (.int x2), some (.int x3), some (.int x4), none, none] s) : RA 5 ls s := by
  unfold A_R_votesFor_4 at h
  split at h
  · rename_i a0 a1 a2 a3 a4 e0 e1 e2 e3 e4
    replace h := cbr_n h
    obtain ⟨hb, h⟩ := h
    cases beq_t hb
    refine hm _ _ [some (.ref 123), some (.int a1), some (.int a2), some (.int a3), some (.int a4), none, none] _ rfl (fun i v hv => ?_) (hf _ _ _ _ _ h)
    match i, hv with
    | 0, hv => exact e0.trans hv
    | 1, hv => exact e1.trans hv
    | 2, hv => exact e2.trans hv
    | 3, hv => exact e3.trans hv
    | 4, hv => exact e4.trans hv
    | 5, hv => cases hv
    | 6, hv => cases hv
    | i + 7, hv => cases hv
  · cases h
theorem a_R_votesFor_15 {z : Int32 × Mem} {RA : Nat → List (Option Value) → Mem → Prop} (hm : ∀ (pc : Nat) (ls ls1 : List (Option Value)) (σ : Mem), ls1.length = I_R_votesFor.2.2.1 → (∀ i v, lk ls1 i = some v → lk ls i = some v) → RA pc ls1 σ → RA pc ls σ) {f : Int32 → Int32 → Int32 → Int32 → Int32 → Int32 → Mem → Option (Int32 × Mem)} {ls : List (Option Value)} {s : Mem} (h : A_R_votesFor_15 f ls s = some z) (hf : ∀ (x1 : Int32) (x2 : Int32) (x3 : Int32) (x4 : Int32) (x5 : Int32) (x6 : Int32) (s : Mem), f x1 x2 x3 x4 x5 x6 s = some z → RA 26 [some (.ref 123), some (.int x1), some (.int x2), some (.int x3), some (.int x4), some (.int x5), some (.int x6)] s) : RA 26 ls s := by
  unfold A_R_votesFor_15 at h
  split at h
  · rename_i a0 a1 a2 a3 a4 a5 a6 e0 e1 e2 e3 e4 e5 e6
    replace h := cbr_n h
    obtain ⟨hb, h⟩ := h
    cases beq_t hb
    refine hm _ _ [some (.ref 123), some (.int a1), some (.int a2), some (.int a3), some (.int a4), some (.int a5), some (.int a6)] _ rfl (fun i v hv => ?_) (hf _ _ _ _ _ _ _ h)
    match i, hv with
    | 0, hv => exact e0.trans hv
    | 1, hv => exact e1.trans hv
    | 2, hv => exact e2.trans hv
    | 3, hv => exact e3.trans hv
    | 4, hv => exact e4.trans hv
    | 5, hv => exact e5.trans hv
    | 6, hv => exact e6.trans hv
    | i + 7, hv => cases hv
  · cases h
theorem n_R_votesFor_15 {z : Int32 × Mem} {RA : Nat → List (Option Value) → Mem → Prop} (S : Sm I_R_votesFor C_R_votesFor K_R_votesFor [5, 26] z RA) {k4 : Int32 → Int32 → Int32 → Int32 → Mem → Option (Int32 × Mem)} (hk4 : ∀ (x1 : Int32) (x2 : Int32) (x3 : Int32) (x4 : Int32) (s : Mem), k4 x1 x2 x3 x4 s = some z → RA 5 [some (.ref 123), some (.int x1), some (.int x2), some (.int x3), some (.int x4), none, none] s) : ∀ (n : Nat) (x1 : Int32) (x2 : Int32) (x3 : Int32) (x4 : Int32) (x5 : Int32) (x6 : Int32) (s : Mem), F_R_votesFor_15 k4 n x1 x2 x3 x4 x5 x6 s = some z → RA 26 [some (.ref 123), some (.int x1), some (.int x2), some (.int x3), some (.int x4), some (.int x5), some (.int x6)] s := by
  intro n
  induction n with
  | zero => intro x1 x2 x3 x4 x5 x6 s h; exact nomatch (show (none : Option (Int32 × Mem)) = some z from h)
  | succ n ih =>
    intro x1 x2 x3 x4 x5 x6 s h
    rw [e_R_votesFor_15] at h
    refine S.2 _ ?_ 700 17 _ _ (ck1_of rfl) h
    intro k ls s h
    replace h := cbr_c h
    rcases h with ⟨hb, h⟩ | ⟨_, h⟩
    · cases beq_t hb
      exact a_R_votesFor_4 S.1 h hk4
    replace h := cbr_c h
    rcases h with ⟨hb, h⟩ | ⟨_, h⟩
    · cases beq_t hb
      exact a_R_votesFor_15 S.1 h ih
    cases h
theorem n_R_votesFor_4 {z : Int32 × Mem} {RA : Nat → List (Option Value) → Mem → Prop} (S : Sm I_R_votesFor C_R_votesFor K_R_votesFor [5, 26] z RA) : ∀ (n : Nat) (x1 : Int32) (x2 : Int32) (x3 : Int32) (x4 : Int32) (s : Mem), F_R_votesFor_4 n x1 x2 x3 x4 s = some z → RA 5 [some (.ref 123), some (.int x1), some (.int x2), some (.int x3), some (.int x4), none, none] s := by
  intro n
  induction n with
  | zero => intro x1 x2 x3 x4 s h; exact nomatch (show (none : Option (Int32 × Mem)) = some z from h)
  | succ n ih =>
    intro x1 x2 x3 x4 s h
    rw [e_R_votesFor_4] at h
    refine S.2 _ ?_ 700 5 _ _ (ck1_of rfl) h
    intro k ls s h
    replace h := cbr_c h
    rcases h with ⟨hb, h⟩ | ⟨_, h⟩
    · cases beq_t hb
      exact a_R_votesFor_15 S.1 h (n_R_votesFor_15 S ih gF)
    cases h
theorem l_R_votesFor (d : Nat) (k : Nat) (av : List Value) (s : Mem) (y : Int32 × Mem) (h : C_R_votesFor k av s = some y) : Ctr (d + 0) (mtab k) av s y ∧ ((mtab k).2.2.2.2.2 = 77 → ∃ b rest, av = .ref b :: rest ∧ (b = 1001 ∨ b = 1002)) := by
  exact nomatch (show (none : Option (Int32 × Mem)) = some y from h)
theorem c_R_votesFor {av : List Value} {s : Mem} {z : Int32 × Mem} (h : A_R_votesFor av s = some z) (d : Nat) : Ctr (d + 1) I_R_votesFor av s z := by
  unfold A_R_votesFor at h
  split at h
  · replace h := cbr_n h
    obtain ⟨hb, h⟩ := h
    cases beq_t hb
    refine ctr_of (d := d + 0) (own := 11) (kps := [5, 26]) (code := K_R_votesFor) (Cl := C_R_votesFor) o_R_votesFor rfl (by decide) k_R_votesFor (l_R_votesFor d) (c1_of rfl) (Nat.le_of_ble_eq_true rfl) ?_
    intro RA S
    rw [e_R_votesFor] at h
    refine S.2 _ ?_ 700 0 _ _ (ck1_of rfl) h
    intro k ls s h
    replace h := cbr_c h
    rcases h with ⟨hb, h⟩ | ⟨_, h⟩
    · cases beq_t hb
      exact a_R_votesFor_4 S.1 h (n_R_votesFor_4 S gF)
    cases h
  · cases h
set_option maxRecDepth 1000000 in
theorem k_R_isBefore : okC 11 I_R_isBefore.2.2.1 I_R_isBefore.2.1 I_R_isBefore.2.2.2.1 [] K_R_isBefore K_R_isBefore = true := by decide +kernel
theorem l_R_isBefore (d : Nat) (k : Nat) (av : List Value) (s : Mem) (y : Int32 × Mem) (h : C_R_isBefore k av s = some y) : Ctr (d + 1) (mtab k) av s y ∧ ((mtab k).2.2.2.2.2 = 77 → ∃ b rest, av = .ref b :: rest ∧ (b = 1001 ∨ b = 1002)) := by
  unfold C_R_isBefore at h
  replace h := cbr_c h
  rcases h with ⟨hb, h⟩ | ⟨_, h⟩
  · cases beq_t hb
    exact ⟨c_R_votesFor h (d + 0), fun q => absurd q (by decide)⟩
  cases h
theorem c_R_isBefore {av : List Value} {s : Mem} {z : Int32 × Mem} (h : A_R_isBefore av s = some z) (d : Nat) : Ctr (d + 2) I_R_isBefore av s z := by
  unfold A_R_isBefore at h
  split at h
  · replace h := cbr_n h
    obtain ⟨hb, h⟩ := h
    cases beq_t hb
    refine ctr_of (d := d + 1) (own := 11) (kps := []) (code := K_R_isBefore) (Cl := C_R_isBefore) o_R_isBefore rfl (by decide) k_R_isBefore (l_R_isBefore d) (c1_of rfl) (Nat.le_of_ble_eq_true rfl) ?_
    intro RA S
    rw [e_R_isBefore] at h
    refine S.2 _ ?_ 700 0 _ _ (ck1_of rfl) h
    intro k ls s h
    cases h
  · cases h
set_option maxRecDepth 1000000 in
theorem k_R_isTop : okC 11 I_R_isTop.2.2.1 I_R_isTop.2.1 I_R_isTop.2.2.2.1 [2, 9] K_R_isTop K_R_isTop = true := by decide +kernel
theorem a_R_isTop_2 {z : Int32 × Mem} {RA : Nat → List (Option Value) → Mem → Prop} (hm : ∀ (pc : Nat) (ls ls1 : List (Option Value)) (σ : Mem), ls1.length = I_R_isTop.2.2.1 → (∀ i v, lk ls1 i = some v → lk ls i = some v) → RA pc ls1 σ → RA pc ls σ) {f : Int32 → Int32 → Mem → Option (Int32 × Mem)} {ls : List (Option Value)} {s : Mem} (h : A_R_isTop_2 f ls s = some z) (hf : ∀ (x1 : Int32) (x2 : Int32) (s : Mem), f x1 x2 s = some z → RA 2 [some (.ref 123), some (.int x1), some (.int x2), none] s) : RA 2 ls s := by
  unfold A_R_isTop_2 at h
  split at h
  · rename_i a0 a1 a2 e0 e1 e2
    replace h := cbr_n h
    obtain ⟨hb, h⟩ := h
    cases beq_t hb
    refine hm _ _ [some (.ref 123), some (.int a1), some (.int a2), none] _ rfl (fun i v hv => ?_) (hf _ _ _ h)
    match i, hv with
    | 0, hv => exact e0.trans hv
    | 1, hv => exact e1.trans hv
    | 2, hv => exact e2.trans hv
    | 3, hv => cases hv
    | i + 4, hv => cases hv
  · cases h
theorem a_R_isTop_7 {z : Int32 × Mem} {RA : Nat → List (Option Value) → Mem → Prop} (hm : ∀ (pc : Nat) (ls ls1 : List (Option Value)) (σ : Mem), ls1.length = I_R_isTop.2.2.1 → (∀ i v, lk ls1 i = some v → lk ls i = some v) → RA pc ls1 σ → RA pc ls σ) {f : Int32 → Int32 → Int32 → Mem → Option (Int32 × Mem)} {ls : List (Option Value)} {s : Mem} (h : A_R_isTop_7 f ls s = some z) (hf : ∀ (x1 : Int32) (x2 : Int32) (x3 : Int32) (s : Mem), f x1 x2 x3 s = some z → RA 9 [some (.ref 123), some (.int x1), some (.int x2), some (.int x3)] s) : RA 9 ls s := by
  unfold A_R_isTop_7 at h
  split at h
  · rename_i a0 a1 a2 a3 e0 e1 e2 e3
    replace h := cbr_n h
    obtain ⟨hb, h⟩ := h
    cases beq_t hb
    refine hm _ _ [some (.ref 123), some (.int a1), some (.int a2), some (.int a3)] _ rfl (fun i v hv => ?_) (hf _ _ _ _ h)
    match i, hv with
    | 0, hv => exact e0.trans hv
    | 1, hv => exact e1.trans hv
    | 2, hv => exact e2.trans hv
    | 3, hv => exact e3.trans hv
    | i + 4, hv => cases hv
  · cases h
theorem n_R_isTop_7 {z : Int32 × Mem} {RA : Nat → List (Option Value) → Mem → Prop} (S : Sm I_R_isTop C_R_isTop K_R_isTop [2, 9] z RA) {k2 : Int32 → Int32 → Mem → Option (Int32 × Mem)} (hk2 : ∀ (x1 : Int32) (x2 : Int32) (s : Mem), k2 x1 x2 s = some z → RA 2 [some (.ref 123), some (.int x1), some (.int x2), none] s) : ∀ (n : Nat) (x1 : Int32) (x2 : Int32) (x3 : Int32) (s : Mem), F_R_isTop_7 k2 n x1 x2 x3 s = some z → RA 9 [some (.ref 123), some (.int x1), some (.int x2), some (.int x3)] s := by
  intro n
  induction n with
  | zero => intro x1 x2 x3 s h; exact nomatch (show (none : Option (Int32 × Mem)) = some z from h)
  | succ n ih =>
    intro x1 x2 x3 s h
    rw [e_R_isTop_7] at h
    refine S.2 _ ?_ 700 9 _ _ (ck1_of rfl) h
    intro k ls s h
    replace h := cbr_c h
    rcases h with ⟨hb, h⟩ | ⟨_, h⟩
    · cases beq_t hb
      exact a_R_isTop_2 S.1 h hk2
    replace h := cbr_c h
    rcases h with ⟨hb, h⟩ | ⟨_, h⟩
    · cases beq_t hb
      exact a_R_isTop_7 S.1 h ih
    cases h
theorem n_R_isTop_2 {z : Int32 × Mem} {RA : Nat → List (Option Value) → Mem → Prop} (S : Sm I_R_isTop C_R_isTop K_R_isTop [2, 9] z RA) : ∀ (n : Nat) (x1 : Int32) (x2 : Int32) (s : Mem), F_R_isTop_2 n x1 x2 s = some z → RA 2 [some (.ref 123), some (.int x1), some (.int x2), none] s := by
  intro n
  induction n with
  | zero => intro x1 x2 s h; exact nomatch (show (none : Option (Int32 × Mem)) = some z from h)
  | succ n ih =>
    intro x1 x2 s h
    rw [e_R_isTop_2] at h
    refine S.2 _ ?_ 700 3 _ _ (ck1_of rfl) h
    intro k ls s h
    replace h := cbr_c h
    rcases h with ⟨hb, h⟩ | ⟨_, h⟩
    · cases beq_t hb
      exact a_R_isTop_7 S.1 h (n_R_isTop_7 S ih gF)
    cases h
theorem l_R_isTop (d : Nat) (k : Nat) (av : List Value) (s : Mem) (y : Int32 × Mem) (h : C_R_isTop k av s = some y) : Ctr (d + 2) (mtab k) av s y ∧ ((mtab k).2.2.2.2.2 = 77 → ∃ b rest, av = .ref b :: rest ∧ (b = 1001 ∨ b = 1002)) := by
  unfold C_R_isTop at h
  replace h := cbr_c h
  rcases h with ⟨hb, h⟩ | ⟨_, h⟩
  · cases beq_t hb
    exact ⟨c_R_has h (d + 1), fun q => absurd q (by decide)⟩
  replace h := cbr_c h
  rcases h with ⟨hb, h⟩ | ⟨_, h⟩
  · cases beq_t hb
    exact ⟨c_R_isBefore h (d + 0), fun q => absurd q (by decide)⟩
  cases h
theorem c_R_isTop {av : List Value} {s : Mem} {z : Int32 × Mem} (h : A_R_isTop av s = some z) (d : Nat) : Ctr (d + 3) I_R_isTop av s z := by
  unfold A_R_isTop at h
  split at h
  · replace h := cbr_n h
    obtain ⟨hb, h⟩ := h
    cases beq_t hb
    refine ctr_of (d := d + 2) (own := 11) (kps := [2, 9]) (code := K_R_isTop) (Cl := C_R_isTop) o_R_isTop rfl (by decide) k_R_isTop (l_R_isTop d) (c1_of rfl) (Nat.le_of_ble_eq_true rfl) ?_
    intro RA S
    rw [e_R_isTop] at h
    refine S.2 _ ?_ 700 0 _ _ (ck1_of rfl) h
    intro k ls s h
    replace h := cbr_c h
    rcases h with ⟨hb, h⟩ | ⟨_, h⟩
    · cases beq_t hb
      exact a_R_isTop_2 S.1 h (n_R_isTop_2 S gF)
    cases h
  · cases h
set_option maxRecDepth 1000000 in
theorem k_R_signs : okC 11 I_R_signs.2.2.1 I_R_signs.2.1 I_R_signs.2.2.2.1 [14, 22, 91, 133] K_R_signs K_R_signs = true := by decide +kernel
theorem a_R_signs_10 {z : Int32 × Mem} {RA : Nat → List (Option Value) → Mem → Prop} (hm : ∀ (pc : Nat) (ls ls1 : List (Option Value)) (σ : Mem), ls1.length = I_R_signs.2.2.1 → (∀ i v, lk ls1 i = some v → lk ls i = some v) → RA pc ls1 σ → RA pc ls σ) {f : Int32 → Int32 → Mem → Option (Int32 × Mem)} {ls : List (Option Value)} {s : Mem} (h : A_R_signs_10 f ls s = some z) (hf : ∀ (x2 : Int32) (x3 : Int32) (s : Mem), f x2 x3 s = some z → RA 14 [some (.ref 123), none, some (.int x2), some (.int x3), none] s) : RA 14 ls s := by
  unfold A_R_signs_10 at h
  split at h
  · rename_i a0 a1 a2 e0 e1 e2
    replace h := cbr_n h
    obtain ⟨hb, h⟩ := h
    cases beq_t hb
    refine hm _ _ [some (.ref 123), none, some (.int a1), some (.int a2), none] _ rfl (fun i v hv => ?_) (hf _ _ _ h)
    match i, hv with
    | 0, hv => exact e0.trans hv
    | 1, hv => cases hv
    | 2, hv => exact e1.trans hv
    | 3, hv => exact e2.trans hv
    | 4, hv => cases hv
    | i + 5, hv => cases hv
  · cases h
theorem a_R_signs_15 {z : Int32 × Mem} {RA : Nat → List (Option Value) → Mem → Prop} (hm : ∀ (pc : Nat) (ls ls1 : List (Option Value)) (σ : Mem), ls1.length = I_R_signs.2.2.1 → (∀ i v, lk ls1 i = some v → lk ls i = some v) → RA pc ls1 σ → RA pc ls σ) {f : Int32 → Int32 → Int32 → Mem → Option (Int32 × Mem)} {ls : List (Option Value)} {s : Mem} (h : A_R_signs_15 f ls s = some z) (hf : ∀ (x2 : Int32) (x3 : Int32) (x4 : Int32) (s : Mem), f x2 x3 x4 s = some z → RA 22 [some (.ref 123), none, some (.int x2), some (.int x3), some (.int x4)] s) : RA 22 ls s := by
  unfold A_R_signs_15 at h
  split at h
  · rename_i a0 a1 a2 a3 e0 e1 e2 e3
    replace h := cbr_n h
    obtain ⟨hb, h⟩ := h
    cases beq_t hb
    refine hm _ _ [some (.ref 123), none, some (.int a1), some (.int a2), some (.int a3)] _ rfl (fun i v hv => ?_) (hf _ _ _ _ h)
    match i, hv with
    | 0, hv => exact e0.trans hv
    | 1, hv => cases hv
    | 2, hv => exact e1.trans hv
    | 3, hv => exact e2.trans hv
    | 4, hv => exact e3.trans hv
    | i + 5, hv => cases hv
  · cases h
theorem a_R_signs_53 {z : Int32 × Mem} {RA : Nat → List (Option Value) → Mem → Prop} (hm : ∀ (pc : Nat) (ls ls1 : List (Option Value)) (σ : Mem), ls1.length = I_R_signs.2.2.1 → (∀ i v, lk ls1 i = some v → lk ls i = some v) → RA pc ls1 σ → RA pc ls σ) {f : Int32 → Int32 → Int32 → Mem → Option (Int32 × Mem)} {ls : List (Option Value)} {s : Mem} (h : A_R_signs_53 f ls s = some z) (hf : ∀ (x1 : Int32) (x2 : Int32) (x3 : Int32) (s : Mem), f x1 x2 x3 s = some z → RA 91 [some (.ref 123), some (.int x1), some (.int x2), some (.int x3), none] s) : RA 91 ls s := by
  unfold A_R_signs_53 at h
  split at h
  · rename_i a0 a1 a2 a3 e0 e1 e2 e3
    replace h := cbr_n h
    obtain ⟨hb, h⟩ := h
    cases beq_t hb
    refine hm _ _ [some (.ref 123), some (.int a1), some (.int a2), some (.int a3), none] _ rfl (fun i v hv => ?_) (hf _ _ _ _ h)
    match i, hv with
    | 0, hv => exact e0.trans hv
    | 1, hv => exact e1.trans hv
    | 2, hv => exact e2.trans hv
    | 3, hv => exact e3.trans hv
    | 4, hv => cases hv
    | i + 5, hv => cases hv
  · cases h
theorem a_R_signs_77 {z : Int32 × Mem} {RA : Nat → List (Option Value) → Mem → Prop} (hm : ∀ (pc : Nat) (ls ls1 : List (Option Value)) (σ : Mem), ls1.length = I_R_signs.2.2.1 → (∀ i v, lk ls1 i = some v → lk ls i = some v) → RA pc ls1 σ → RA pc ls σ) {f : Int32 → Int32 → Mem → Option (Int32 × Mem)} {ls : List (Option Value)} {s : Mem} (h : A_R_signs_77 f ls s = some z) (hf : ∀ (x2 : Int32) (x3 : Int32) (s : Mem), f x2 x3 s = some z → RA 133 [none, none, some (.int x2), some (.int x3), none] s) : RA 133 ls s := by
  unfold A_R_signs_77 at h
  split at h
  · rename_i a0 a1 e0 e1
    refine hm _ _ [none, none, some (.int a0), some (.int a1), none] _ rfl (fun i v hv => ?_) (hf _ _ _ h)
    match i, hv with
    | 0, hv => cases hv
    | 1, hv => cases hv
    | 2, hv => exact e0.trans hv
    | 3, hv => exact e1.trans hv
    | 4, hv => cases hv
    | i + 5, hv => cases hv
  · cases h
theorem n_R_signs_15 {z : Int32 × Mem} {RA : Nat → List (Option Value) → Mem → Prop} (S : Sm I_R_signs C_R_signs K_R_signs [14, 22, 91, 133] z RA) {k10 : Int32 → Int32 → Mem → Option (Int32 × Mem)} (hk10 : ∀ (x2 : Int32) (x3 : Int32) (s : Mem), k10 x2 x3 s = some z → RA 14 [some (.ref 123), none, some (.int x2), some (.int x3), none] s) : ∀ (n : Nat) (x2 : Int32) (x3 : Int32) (x4 : Int32) (s : Mem), F_R_signs_15 k10 n x2 x3 x4 s = some z → RA 22 [some (.ref 123), none, some (.int x2), some (.int x3), some (.int x4)] s := by
  intro n
  induction n with
  | zero => intro x2 x3 x4 s h; exact nomatch (show (none : Option (Int32 × Mem)) = some z from h)
  | succ n ih =>
    intro x2 x3 x4 s h
    rw [e_R_signs_15] at h
    refine S.2 _ ?_ 700 17 _ _ (ck1_of rfl) h
    intro k ls s h
    replace h := cbr_c h
    rcases h with ⟨hb, h⟩ | ⟨_, h⟩
    · cases beq_t hb
      exact a_R_signs_10 S.1 h hk10
    replace h := cbr_c h
    rcases h with ⟨hb, h⟩ | ⟨_, h⟩
    · cases beq_t hb
      exact a_R_signs_15 S.1 h ih
    cases h
theorem n_R_signs_10 {z : Int32 × Mem} {RA : Nat → List (Option Value) → Mem → Prop} (S : Sm I_R_signs C_R_signs K_R_signs [14, 22, 91, 133] z RA) : ∀ (n : Nat) (x2 : Int32) (x3 : Int32) (s : Mem), F_R_signs_10 n x2 x3 s = some z → RA 14 [some (.ref 123), none, some (.int x2), some (.int x3), none] s := by
  intro n
  induction n with
  | zero => intro x2 x3 s h; exact nomatch (show (none : Option (Int32 × Mem)) = some z from h)
  | succ n ih =>
    intro x2 x3 s h
    rw [e_R_signs_10] at h
    refine S.2 _ ?_ 700 11 _ _ (ck1_of rfl) h
    intro k ls s h
    replace h := cbr_c h
    rcases h with ⟨hb, h⟩ | ⟨_, h⟩
    · cases beq_t hb
      exact a_R_signs_15 S.1 h (n_R_signs_15 S ih gF)
    cases h
theorem n_R_signs_77 {z : Int32 × Mem} {RA : Nat → List (Option Value) → Mem → Prop} (S : Sm I_R_signs C_R_signs K_R_signs [14, 22, 91, 133] z RA) : ∀ (n : Nat) (x2 : Int32) (x3 : Int32) (s : Mem), F_R_signs_77 n x2 x3 s = some z → RA 133 [none, none, some (.int x2), some (.int x3), none] s := by
  intro n
  induction n with
  | zero => intro x2 x3 s h; exact nomatch (show (none : Option (Int32 × Mem)) = some z from h)
  | succ n ih =>
    intro x2 x3 s h
    rw [e_R_signs_77] at h
    refine S.2 _ ?_ 700 81 _ _ (ck1_of rfl) h
    intro k ls s h
    replace h := cbr_c h
    rcases h with ⟨hb, h⟩ | ⟨_, h⟩
    · cases beq_t hb
      exact a_R_signs_77 S.1 h ih
    cases h
theorem n_R_signs_53 {z : Int32 × Mem} {RA : Nat → List (Option Value) → Mem → Prop} (S : Sm I_R_signs C_R_signs K_R_signs [14, 22, 91, 133] z RA) : ∀ (n : Nat) (x1 : Int32) (x2 : Int32) (x3 : Int32) (s : Mem), F_R_signs_53 n x1 x2 x3 s = some z → RA 91 [some (.ref 123), some (.int x1), some (.int x2), some (.int x3), none] s := by
  intro n
  induction n with
  | zero => intro x1 x2 x3 s h; exact nomatch (show (none : Option (Int32 × Mem)) = some z from h)
  | succ n ih =>
    intro x1 x2 x3 s h
    rw [e_R_signs_53] at h
    refine S.2 _ ?_ 700 56 _ _ (ck1_of rfl) h
    intro k ls s h
    replace h := cbr_c h
    rcases h with ⟨hb, h⟩ | ⟨_, h⟩
    · cases beq_t hb
      exact a_R_signs_53 S.1 h ih
    replace h := cbr_c h
    rcases h with ⟨hb, h⟩ | ⟨_, h⟩
    · cases beq_t hb
      exact a_R_signs_77 S.1 h (n_R_signs_77 S gF)
    cases h
theorem l_R_signs (d : Nat) (k : Nat) (av : List Value) (s : Mem) (y : Int32 × Mem) (h : C_R_signs k av s = some y) : Ctr (d + 3) (mtab k) av s y ∧ ((mtab k).2.2.2.2.2 = 77 → ∃ b rest, av = .ref b :: rest ∧ (b = 1001 ∨ b = 1002)) := by
  unfold C_R_signs at h
  replace h := cbr_c h
  rcases h with ⟨hb, h⟩ | ⟨_, h⟩
  · cases beq_t hb
    exact ⟨c_R_isIn h (d + 2), fun q => absurd q (by decide)⟩
  replace h := cbr_c h
  rcases h with ⟨hb, h⟩ | ⟨_, h⟩
  · cases beq_t hb
    exact ⟨c_R_isTop h (d + 0), fun q => absurd q (by decide)⟩
  replace h := cbr_c h
  rcases h with ⟨hb, h⟩ | ⟨_, h⟩
  · cases beq_t hb
    exact ⟨c_R_onesOf h (d + 2), fun q => absurd q (by decide)⟩
  replace h := cbr_c h
  rcases h with ⟨hb, h⟩ | ⟨_, h⟩
  · cases beq_t hb
    exact ⟨c_R_votesFor h (d + 2), fun q => absurd q (by decide)⟩
  cases h
theorem c_R_signs {av : List Value} {s : Mem} {z : Int32 × Mem} (h : A_R_signs av s = some z) (d : Nat) : Ctr (d + 4) I_R_signs av s z := by
  unfold A_R_signs at h
  split at h
  · replace h := cbr_n h
    obtain ⟨hb, h⟩ := h
    cases beq_t hb
    refine ctr_of (d := d + 3) (own := 11) (kps := [14, 22, 91, 133]) (code := K_R_signs) (Cl := C_R_signs) o_R_signs rfl (by decide) k_R_signs (l_R_signs d) (c1_of rfl) (Nat.le_of_ble_eq_true rfl) ?_
    intro RA S
    rw [e_R_signs] at h
    refine S.2 _ ?_ 700 0 _ _ (ck1_of rfl) h
    intro k ls s h
    replace h := cbr_c h
    rcases h with ⟨hb, h⟩ | ⟨_, h⟩
    · cases beq_t hb
      exact a_R_signs_10 S.1 h (n_R_signs_10 S gF)
    replace h := cbr_c h
    rcases h with ⟨hb, h⟩ | ⟨_, h⟩
    · cases beq_t hb
      exact a_R_signs_53 S.1 h (n_R_signs_53 S gF)
    cases h
  · cases h
set_option maxRecDepth 1000000 in
theorem k_R_joinCost : okC 11 I_R_joinCost.2.2.1 I_R_joinCost.2.1 I_R_joinCost.2.2.2.1 [] K_R_joinCost K_R_joinCost = true := by decide +kernel
theorem l_R_joinCost (d : Nat) (k : Nat) (av : List Value) (s : Mem) (y : Int32 × Mem) (h : C_R_joinCost k av s = some y) : Ctr (d + 1) (mtab k) av s y ∧ ((mtab k).2.2.2.2.2 = 77 → ∃ b rest, av = .ref b :: rest ∧ (b = 1001 ∨ b = 1002)) := by
  unfold C_R_joinCost at h
  replace h := cbr_c h
  rcases h with ⟨hb, h⟩ | ⟨_, h⟩
  · cases beq_t hb
    exact ⟨c_R_apart h (d + 0), fun q => absurd q (by decide)⟩
  replace h := cbr_c h
  rcases h with ⟨hb, h⟩ | ⟨_, h⟩
  · cases beq_t hb
    exact ⟨c_R_lesser h (d + 0), fun q => absurd q (by decide)⟩
  cases h
theorem c_R_joinCost {av : List Value} {s : Mem} {z : Int32 × Mem} (h : A_R_joinCost av s = some z) (d : Nat) : Ctr (d + 2) I_R_joinCost av s z := by
  unfold A_R_joinCost at h
  split at h
  · replace h := cbr_n h
    obtain ⟨hb, h⟩ := h
    cases beq_t hb
    refine ctr_of (d := d + 1) (own := 11) (kps := []) (code := K_R_joinCost) (Cl := C_R_joinCost) o_R_joinCost rfl (by decide) k_R_joinCost (l_R_joinCost d) (c1_of rfl) (Nat.le_of_ble_eq_true rfl) ?_
    intro RA S
    rw [e_R_joinCost] at h
    refine S.2 _ ?_ 700 0 _ _ (ck1_of rfl) h
    intro k ls s h
    cases h
  · cases h
set_option maxRecDepth 1000000 in
theorem k_R_levels : okC 11 I_R_levels.2.2.1 I_R_levels.2.1 I_R_levels.2.2.2.1 [8, 42] K_R_levels K_R_levels = true := by decide +kernel
theorem a_R_levels_6 {z : Int32 × Mem} {RA : Nat → List (Option Value) → Mem → Prop} (hm : ∀ (pc : Nat) (ls ls1 : List (Option Value)) (σ : Mem), ls1.length = I_R_levels.2.2.1 → (∀ i v, lk ls1 i = some v → lk ls i = some v) → RA pc ls1 σ → RA pc ls σ) {f : Int32 → Int32 → Int32 → Int32 → Int32 → Mem → Option (Int32 × Mem)} {ls : List (Option Value)} {s : Mem} (h : A_R_levels_6 f ls s = some z) (hf : ∀ (x1 : Int32) (x2 : Int32) (x3 : Int32) (x4 : Int32) (x5 : Int32) (s : Mem), f x1 x2 x3 x4 x5 s = some z → RA 8 [some (.ref 123), some (.int x1), some (.int x2), some (.int x3), some (.int x4), some (.int x5), none, none] s) : RA 8 ls s := by
  unfold A_R_levels_6 at h
  split at h
  · rename_i a0 a1 a2 a3 a4 a5 e0 e1 e2 e3 e4 e5
    replace h := cbr_n h
    obtain ⟨hb, h⟩ := h
    cases beq_t hb
    refine hm _ _ [some (.ref 123), some (.int a1), some (.int a2), some (.int a3), some (.int a4), some (.int a5), none, none] _ rfl (fun i v hv => ?_) (hf _ _ _ _ _ _ h)
    match i, hv with
    | 0, hv => exact e0.trans hv
    | 1, hv => exact e1.trans hv
    | 2, hv => exact e2.trans hv
    | 3, hv => exact e3.trans hv
    | 4, hv => exact e4.trans hv
    | 5, hv => exact e5.trans hv
    | 6, hv => cases hv
    | 7, hv => cases hv
    | i + 8, hv => cases hv
  · cases h
theorem a_R_levels_27 {z : Int32 × Mem} {RA : Nat → List (Option Value) → Mem → Prop} (hm : ∀ (pc : Nat) (ls ls1 : List (Option Value)) (σ : Mem), ls1.length = I_R_levels.2.2.1 → (∀ i v, lk ls1 i = some v → lk ls i = some v) → RA pc ls1 σ → RA pc ls σ) {f : Int32 → Int32 → Int32 → Int32 → Int32 → Int32 → Int32 → Mem → Option (Int32 × Mem)} {ls : List (Option Value)} {s : Mem} (h : A_R_levels_27 f ls s = some z) (hf : ∀ (x1 : Int32) (x2 : Int32) (x3 : Int32) (x4 : Int32) (x5 : Int32) (x6 : Int32) (x7 : Int32) (s : Mem), f x1 x2 x3 x4 x5 x6 x7 s = some z → RA 42 [some (.ref 123), some (.int x1), some (.int x2), some (.int x3), some (.int x4), some (.int x5), some (.int x6), some (.int x7)] s) : RA 42 ls s := by
  unfold A_R_levels_27 at h
  split at h
  · rename_i a0 a1 a2 a3 a4 a5 a6 a7 e0 e1 e2 e3 e4 e5 e6 e7
    replace h := cbr_n h
    obtain ⟨hb, h⟩ := h
    cases beq_t hb
    refine hm _ _ [some (.ref 123), some (.int a1), some (.int a2), some (.int a3), some (.int a4), some (.int a5), some (.int a6), some (.int a7)] _ rfl (fun i v hv => ?_) (hf _ _ _ _ _ _ _ _ h)
    match i, hv with
    | 0, hv => exact e0.trans hv
    | 1, hv => exact e1.trans hv
    | 2, hv => exact e2.trans hv
    | 3, hv => exact e3.trans hv
    | 4, hv => exact e4.trans hv
    | 5, hv => exact e5.trans hv
    | 6, hv => exact e6.trans hv
    | 7, hv => exact e7.trans hv
    | i + 8, hv => cases hv
  · cases h
theorem n_R_levels_27 {z : Int32 × Mem} {RA : Nat → List (Option Value) → Mem → Prop} (S : Sm I_R_levels C_R_levels K_R_levels [8, 42] z RA) {k6 : Int32 → Int32 → Int32 → Int32 → Int32 → Mem → Option (Int32 × Mem)} (hk6 : ∀ (x1 : Int32) (x2 : Int32) (x3 : Int32) (x4 : Int32) (x5 : Int32) (s : Mem), k6 x1 x2 x3 x4 x5 s = some z → RA 8 [some (.ref 123), some (.int x1), some (.int x2), some (.int x3), some (.int x4), some (.int x5), none, none] s) : ∀ (n : Nat) (x1 : Int32) (x2 : Int32) (x3 : Int32) (x4 : Int32) (x5 : Int32) (x6 : Int32) (x7 : Int32) (s : Mem), F_R_levels_27 k6 n x1 x2 x3 x4 x5 x6 x7 s = some z → RA 42 [some (.ref 123), some (.int x1), some (.int x2), some (.int x3), some (.int x4), some (.int x5), some (.int x6), some (.int x7)] s := by
  intro n
  induction n with
  | zero => intro x1 x2 x3 x4 x5 x6 x7 s h; exact nomatch (show (none : Option (Int32 × Mem)) = some z from h)
  | succ n ih =>
    intro x1 x2 x3 x4 x5 x6 x7 s h
    rw [e_R_levels_27] at h
    refine S.2 _ ?_ 700 29 _ _ (ck1_of rfl) h
    intro k ls s h
    replace h := cbr_c h
    rcases h with ⟨hb, h⟩ | ⟨_, h⟩
    · cases beq_t hb
      exact a_R_levels_6 S.1 h hk6
    replace h := cbr_c h
    rcases h with ⟨hb, h⟩ | ⟨_, h⟩
    · cases beq_t hb
      exact a_R_levels_27 S.1 h ih
    cases h
theorem n_R_levels_6 {z : Int32 × Mem} {RA : Nat → List (Option Value) → Mem → Prop} (S : Sm I_R_levels C_R_levels K_R_levels [8, 42] z RA) : ∀ (n : Nat) (x1 : Int32) (x2 : Int32) (x3 : Int32) (x4 : Int32) (x5 : Int32) (s : Mem), F_R_levels_6 n x1 x2 x3 x4 x5 s = some z → RA 8 [some (.ref 123), some (.int x1), some (.int x2), some (.int x3), some (.int x4), some (.int x5), none, none] s := by
  intro n
  induction n with
  | zero => intro x1 x2 x3 x4 x5 s h; exact nomatch (show (none : Option (Int32 × Mem)) = some z from h)
  | succ n ih =>
    intro x1 x2 x3 x4 x5 s h
    rw [e_R_levels_6] at h
    refine S.2 _ ?_ 700 7 _ _ (ck1_of rfl) h
    intro k ls s h
    replace h := cbr_c h
    rcases h with ⟨hb, h⟩ | ⟨_, h⟩
    · cases beq_t hb
      exact a_R_levels_27 S.1 h (n_R_levels_27 S ih gF)
    cases h
theorem l_R_levels (d : Nat) (k : Nat) (av : List Value) (s : Mem) (y : Int32 × Mem) (h : C_R_levels k av s = some y) : Ctr (d + 0) (mtab k) av s y ∧ ((mtab k).2.2.2.2.2 = 77 → ∃ b rest, av = .ref b :: rest ∧ (b = 1001 ∨ b = 1002)) := by
  exact nomatch (show (none : Option (Int32 × Mem)) = some y from h)
theorem c_R_levels {av : List Value} {s : Mem} {z : Int32 × Mem} (h : A_R_levels av s = some z) (d : Nat) : Ctr (d + 1) I_R_levels av s z := by
  unfold A_R_levels at h
  split at h
  · replace h := cbr_n h
    obtain ⟨hb, h⟩ := h
    cases beq_t hb
    refine ctr_of (d := d + 0) (own := 11) (kps := [8, 42]) (code := K_R_levels) (Cl := C_R_levels) o_R_levels rfl (by decide) k_R_levels (l_R_levels d) (c1_of rfl) (Nat.le_of_ble_eq_true rfl) ?_
    intro RA S
    rw [e_R_levels] at h
    refine S.2 _ ?_ 700 0 _ _ (ck1_of rfl) h
    intro k ls s h
    replace h := cbr_c h
    rcases h with ⟨hb, h⟩ | ⟨_, h⟩
    · cases beq_t hb
      exact a_R_levels_6 S.1 h (n_R_levels_6 S gF)
    cases h
  · cases h
set_option maxRecDepth 1000000 in
theorem k_R_joined : okC 11 I_R_joined.2.2.1 I_R_joined.2.1 I_R_joined.2.2.2.1 [48, 62] K_R_joined K_R_joined = true := by decide +kernel
theorem a_R_joined_29 {z : Int32 × Mem} {RA : Nat → List (Option Value) → Mem → Prop} (hm : ∀ (pc : Nat) (ls ls1 : List (Option Value)) (σ : Mem), ls1.length = I_R_joined.2.2.1 → (∀ i v, lk ls1 i = some v → lk ls i = some v) → RA pc ls1 σ → RA pc ls σ) {f : Int32 → Int32 → Int32 → Mem → Option (Int32 × Mem)} {ls : List (Option Value)} {s : Mem} (h : A_R_joined_29 f ls s = some z) (hf : ∀ (x1 : Int32) (x2 : Int32) (x4 : Int32) (s : Mem), f x1 x2 x4 s = some z → RA 48 [some (.ref 123), some (.int x1), some (.int x2), none, some (.int x4), none] s) : RA 48 ls s := by
  unfold A_R_joined_29 at h
  split at h
  · rename_i a0 a1 a2 a3 e0 e1 e2 e3
    replace h := cbr_n h
    obtain ⟨hb, h⟩ := h
    cases beq_t hb
    refine hm _ _ [some (.ref 123), some (.int a1), some (.int a2), none, some (.int a3), none] _ rfl (fun i v hv => ?_) (hf _ _ _ _ h)
    match i, hv with
    | 0, hv => exact e0.trans hv
    | 1, hv => exact e1.trans hv
    | 2, hv => exact e2.trans hv
    | 3, hv => cases hv
    | 4, hv => exact e3.trans hv
    | 5, hv => cases hv
    | i + 6, hv => cases hv
  · cases h
theorem a_R_joined_37 {z : Int32 × Mem} {RA : Nat → List (Option Value) → Mem → Prop} (hm : ∀ (pc : Nat) (ls ls1 : List (Option Value)) (σ : Mem), ls1.length = I_R_joined.2.2.1 → (∀ i v, lk ls1 i = some v → lk ls i = some v) → RA pc ls1 σ → RA pc ls σ) {f : Int32 → Int32 → Int32 → Int32 → Mem → Option (Int32 × Mem)} {ls : List (Option Value)} {s : Mem} (h : A_R_joined_37 f ls s = some z) (hf : ∀ (x1 : Int32) (x2 : Int32) (x4 : Int32) (x5 : Int32) (s : Mem), f x1 x2 x4 x5 s = some z → RA 62 [some (.ref 123), some (.int x1), some (.int x2), none, some (.int x4), some (.int x5)] s) : RA 62 ls s := by
  unfold A_R_joined_37 at h
  split at h
  · rename_i a0 a1 a2 a3 a4 e0 e1 e2 e3 e4
    replace h := cbr_n h
    obtain ⟨hb, h⟩ := h
    cases beq_t hb
    refine hm _ _ [some (.ref 123), some (.int a1), some (.int a2), none, some (.int a3), some (.int a4)] _ rfl (fun i v hv => ?_) (hf _ _ _ _ _ h)
    match i, hv with
    | 0, hv => exact e0.trans hv
    | 1, hv => exact e1.trans hv
    | 2, hv => exact e2.trans hv
    | 3, hv => cases hv
    | 4, hv => exact e3.trans hv
    | 5, hv => exact e4.trans hv
    | i + 6, hv => cases hv
  · cases h
theorem n_R_joined_37 {z : Int32 × Mem} {RA : Nat → List (Option Value) → Mem → Prop} (S : Sm I_R_joined C_R_joined K_R_joined [48, 62] z RA) {k29 : Int32 → Int32 → Int32 → Mem → Option (Int32 × Mem)} (hk29 : ∀ (x1 : Int32) (x2 : Int32) (x4 : Int32) (s : Mem), k29 x1 x2 x4 s = some z → RA 48 [some (.ref 123), some (.int x1), some (.int x2), none, some (.int x4), none] s) : ∀ (n : Nat) (x1 : Int32) (x2 : Int32) (x4 : Int32) (x5 : Int32) (s : Mem), F_R_joined_37 k29 n x1 x2 x4 x5 s = some z → RA 62 [some (.ref 123), some (.int x1), some (.int x2), none, some (.int x4), some (.int x5)] s := by
  intro n
  induction n with
  | zero => intro x1 x2 x4 x5 s h; exact nomatch (show (none : Option (Int32 × Mem)) = some z from h)
  | succ n ih =>
    intro x1 x2 x4 x5 s h
    rw [e_R_joined_37] at h
    refine S.2 _ ?_ 700 39 _ _ (ck1_of rfl) h
    intro k ls s h
    replace h := cbr_c h
    rcases h with ⟨hb, h⟩ | ⟨_, h⟩
    · cases beq_t hb
      exact a_R_joined_29 S.1 h hk29
    replace h := cbr_c h
    rcases h with ⟨hb, h⟩ | ⟨_, h⟩
    · cases beq_t hb
      exact a_R_joined_37 S.1 h ih
    cases h
theorem n_R_joined_29 {z : Int32 × Mem} {RA : Nat → List (Option Value) → Mem → Prop} (S : Sm I_R_joined C_R_joined K_R_joined [48, 62] z RA) : ∀ (n : Nat) (x1 : Int32) (x2 : Int32) (x4 : Int32) (s : Mem), F_R_joined_29 n x1 x2 x4 s = some z → RA 48 [some (.ref 123), some (.int x1), some (.int x2), none, some (.int x4), none] s := by
  intro n
  induction n with
  | zero => intro x1 x2 x4 s h; exact nomatch (show (none : Option (Int32 × Mem)) = some z from h)
  | succ n ih =>
    intro x1 x2 x4 s h
    rw [e_R_joined_29] at h
    refine S.2 _ ?_ 700 30 _ _ (ck1_of rfl) h
    intro k ls s h
    replace h := cbr_c h
    rcases h with ⟨hb, h⟩ | ⟨_, h⟩
    · cases beq_t hb
      exact a_R_joined_37 S.1 h (n_R_joined_37 S ih gF)
    cases h
theorem l_R_joined (d : Nat) (k : Nat) (av : List Value) (s : Mem) (y : Int32 × Mem) (h : C_R_joined k av s = some y) : Ctr (d + 2) (mtab k) av s y ∧ ((mtab k).2.2.2.2.2 = 77 → ∃ b rest, av = .ref b :: rest ∧ (b = 1001 ∨ b = 1002)) := by
  unfold C_R_joined at h
  replace h := cbr_c h
  rcases h with ⟨hb, h⟩ | ⟨_, h⟩
  · cases beq_t hb
    exact ⟨c_R_isFlight h (d + 1), fun q => absurd q (by decide)⟩
  replace h := cbr_c h
  rcases h with ⟨hb, h⟩ | ⟨_, h⟩
  · cases beq_t hb
    exact ⟨c_R_isIn h (d + 1), fun q => absurd q (by decide)⟩
  replace h := cbr_c h
  rcases h with ⟨hb, h⟩ | ⟨_, h⟩
  · cases beq_t hb
    exact ⟨c_R_levels h (d + 1), fun q => absurd q (by decide)⟩
  replace h := cbr_c h
  rcases h with ⟨hb, h⟩ | ⟨_, h⟩
  · cases beq_t hb
    exact ⟨c_R_joinCost h (d + 0), fun q => absurd q (by decide)⟩
  cases h
theorem c_R_joined {av : List Value} {s : Mem} {z : Int32 × Mem} (h : A_R_joined av s = some z) (d : Nat) : Ctr (d + 3) I_R_joined av s z := by
  unfold A_R_joined at h
  split at h
  · replace h := cbr_n h
    obtain ⟨hb, h⟩ := h
    cases beq_t hb
    refine ctr_of (d := d + 2) (own := 11) (kps := [48, 62]) (code := K_R_joined) (Cl := C_R_joined) o_R_joined rfl (by decide) k_R_joined (l_R_joined d) (c1_of rfl) (Nat.le_of_ble_eq_true rfl) ?_
    intro RA S
    rw [e_R_joined] at h
    refine S.2 _ ?_ 700 0 _ _ (ck1_of rfl) h
    intro k ls s h
    replace h := cbr_c h
    rcases h with ⟨hb, h⟩ | ⟨_, h⟩
    · cases beq_t hb
      exact a_R_joined_29 S.1 h (n_R_joined_29 S gF)
    cases h
  · cases h
set_option maxRecDepth 1000000 in
theorem k_R_doorOther : okC 11 I_R_doorOther.2.2.1 I_R_doorOther.2.1 I_R_doorOther.2.2.2.1 [] K_R_doorOther K_R_doorOther = true := by decide +kernel
theorem l_R_doorOther (d : Nat) (k : Nat) (av : List Value) (s : Mem) (y : Int32 × Mem) (h : C_R_doorOther k av s = some y) : Ctr (d + 0) (mtab k) av s y ∧ ((mtab k).2.2.2.2.2 = 77 → ∃ b rest, av = .ref b :: rest ∧ (b = 1001 ∨ b = 1002)) := by
  exact nomatch (show (none : Option (Int32 × Mem)) = some y from h)
theorem c_R_doorOther {av : List Value} {s : Mem} {z : Int32 × Mem} (h : A_R_doorOther av s = some z) (d : Nat) : Ctr (d + 1) I_R_doorOther av s z := by
  unfold A_R_doorOther at h
  split at h
  · replace h := cbr_n h
    obtain ⟨hb, h⟩ := h
    cases beq_t hb
    refine ctr_of (d := d + 0) (own := 11) (kps := []) (code := K_R_doorOther) (Cl := C_R_doorOther) o_R_doorOther rfl (by decide) k_R_doorOther (l_R_doorOther d) (c1_of rfl) (Nat.le_of_ble_eq_true rfl) ?_
    intro RA S
    rw [e_R_doorOther] at h
    refine S.2 _ ?_ 700 0 _ _ (ck1_of rfl) h
    intro k ls s h
    cases h
  · cases h
set_option maxRecDepth 1000000 in
theorem k_R_mutinousBeside : okC 11 I_R_mutinousBeside.2.2.1 I_R_mutinousBeside.2.1 I_R_mutinousBeside.2.2.2.1 [51, 85] K_R_mutinousBeside K_R_mutinousBeside = true := by decide +kernel
theorem a_R_mutinousBeside_36 {z : Int32 × Mem} {RA : Nat → List (Option Value) → Mem → Prop} (hm : ∀ (pc : Nat) (ls ls1 : List (Option Value)) (σ : Mem), ls1.length = I_R_mutinousBeside.2.2.1 → (∀ i v, lk ls1 i = some v → lk ls i = some v) → RA pc ls1 σ → RA pc ls σ) {f : Int32 → Int32 → Int32 → Mem → Option (Int32 × Mem)} {ls : List (Option Value)} {s : Mem} (h : A_R_mutinousBeside_36 f ls s = some z) (hf : ∀ (x1 : Int32) (x3 : Int32) (x4 : Int32) (s : Mem), f x1 x3 x4 s = some z → RA 51 [some (.ref 123), some (.int x1), none, some (.int x3), some (.int x4), none, none, none] s) : RA 51 ls s := by
  unfold A_R_mutinousBeside_36 at h
  split at h
  · rename_i a0 a1 a2 a3 e0 e1 e2 e3
    replace h := cbr_n h
    obtain ⟨hb, h⟩ := h
    cases beq_t hb
    refine hm _ _ [some (.ref 123), some (.int a1), none, some (.int a2), some (.int a3), none, none, none] _ rfl (fun i v hv => ?_) (hf _ _ _ _ h)
    match i, hv with
    | 0, hv => exact e0.trans hv
    | 1, hv => exact e1.trans hv
    | 2, hv => cases hv
    | 3, hv => exact e2.trans hv
    | 4, hv => exact e3.trans hv
    | 5, hv => cases hv
    | 6, hv => cases hv
    | 7, hv => cases hv
    | i + 8, hv => cases hv
  · cases h
theorem a_R_mutinousBeside_54 {z : Int32 × Mem} {RA : Nat → List (Option Value) → Mem → Prop} (hm : ∀ (pc : Nat) (ls ls1 : List (Option Value)) (σ : Mem), ls1.length = I_R_mutinousBeside.2.2.1 → (∀ i v, lk ls1 i = some v → lk ls i = some v) → RA pc ls1 σ → RA pc ls σ) {f : Int32 → Int32 → Int32 → Int32 → Int32 → Int32 → Mem → Option (Int32 × Mem)} {ls : List (Option Value)} {s : Mem} (h : A_R_mutinousBeside_54 f ls s = some z) (hf : ∀ (x1 : Int32) (x3 : Int32) (x4 : Int32) (x5 : Int32) (x6 : Int32) (x7 : Int32) (s : Mem), f x1 x3 x4 x5 x6 x7 s = some z → RA 85 [some (.ref 123), some (.int x1), none, some (.int x3), some (.int x4), some (.int x5), some (.int x6), some (.int x7)] s) : RA 85 ls s := by
  unfold A_R_mutinousBeside_54 at h
  split at h
  · rename_i a0 a1 a2 a3 a4 a5 a6 e0 e1 e2 e3 e4 e5 e6
    replace h := cbr_n h
    obtain ⟨hb, h⟩ := h
    cases beq_t hb
    refine hm _ _ [some (.ref 123), some (.int a1), none, some (.int a2), some (.int a3), some (.int a4), some (.int a5), some (.int a6)] _ rfl (fun i v hv => ?_) (hf _ _ _ _ _ _ _ h)
    match i, hv with
    | 0, hv => exact e0.trans hv
    | 1, hv => exact e1.trans hv
    | 2, hv => cases hv
    | 3, hv => exact e2.trans hv
    | 4, hv => exact e3.trans hv
    | 5, hv => exact e4.trans hv
    | 6, hv => exact e5.trans hv
    | 7, hv => exact e6.trans hv
    | i + 8, hv => cases hv
  · cases h
theorem n_R_mutinousBeside_54 {z : Int32 × Mem} {RA : Nat → List (Option Value) → Mem → Prop} (S : Sm I_R_mutinousBeside C_R_mutinousBeside K_R_mutinousBeside [51, 85] z RA) {k36 : Int32 → Int32 → Int32 → Mem → Option (Int32 × Mem)} (hk36 : ∀ (x1 : Int32) (x3 : Int32) (x4 : Int32) (s : Mem), k36 x1 x3 x4 s = some z → RA 51 [some (.ref 123), some (.int x1), none, some (.int x3), some (.int x4), none, none, none] s) : ∀ (n : Nat) (x1 : Int32) (x3 : Int32) (x4 : Int32) (x5 : Int32) (x6 : Int32) (x7 : Int32) (s : Mem), F_R_mutinousBeside_54 k36 n x1 x3 x4 x5 x6 x7 s = some z → RA 85 [some (.ref 123), some (.int x1), none, some (.int x3), some (.int x4), some (.int x5), some (.int x6), some (.int x7)] s := by
  intro n
  induction n with
  | zero => intro x1 x3 x4 x5 x6 x7 s h; exact nomatch (show (none : Option (Int32 × Mem)) = some z from h)
  | succ n ih =>
    intro x1 x3 x4 x5 x6 x7 s h
    rw [e_R_mutinousBeside_54] at h
    refine S.2 _ ?_ 700 56 _ _ (ck1_of rfl) h
    intro k ls s h
    replace h := cbr_c h
    rcases h with ⟨hb, h⟩ | ⟨_, h⟩
    · cases beq_t hb
      exact a_R_mutinousBeside_36 S.1 h hk36
    replace h := cbr_c h
    rcases h with ⟨hb, h⟩ | ⟨_, h⟩
    · cases beq_t hb
      exact a_R_mutinousBeside_54 S.1 h ih
    cases h
theorem n_R_mutinousBeside_36 {z : Int32 × Mem} {RA : Nat → List (Option Value) → Mem → Prop} (S : Sm I_R_mutinousBeside C_R_mutinousBeside K_R_mutinousBeside [51, 85] z RA) : ∀ (n : Nat) (x1 : Int32) (x3 : Int32) (x4 : Int32) (s : Mem), F_R_mutinousBeside_36 n x1 x3 x4 s = some z → RA 51 [some (.ref 123), some (.int x1), none, some (.int x3), some (.int x4), none, none, none] s := by
  intro n
  induction n with
  | zero => intro x1 x3 x4 s h; exact nomatch (show (none : Option (Int32 × Mem)) = some z from h)
  | succ n ih =>
    intro x1 x3 x4 s h
    rw [e_R_mutinousBeside_36] at h
    refine S.2 _ ?_ 700 37 _ _ (ck1_of rfl) h
    intro k ls s h
    replace h := cbr_c h
    rcases h with ⟨hb, h⟩ | ⟨_, h⟩
    · cases beq_t hb
      exact a_R_mutinousBeside_54 S.1 h (n_R_mutinousBeside_54 S ih gF)
    cases h
theorem l_R_mutinousBeside (d : Nat) (k : Nat) (av : List Value) (s : Mem) (y : Int32 × Mem) (h : C_R_mutinousBeside k av s = some y) : Ctr (d + 1) (mtab k) av s y ∧ ((mtab k).2.2.2.2.2 = 77 → ∃ b rest, av = .ref b :: rest ∧ (b = 1001 ∨ b = 1002)) := by
  unfold C_R_mutinousBeside at h
  replace h := cbr_c h
  rcases h with ⟨hb, h⟩ | ⟨_, h⟩
  · cases beq_t hb
    exact ⟨c_R_doorOther h (d + 0), fun q => absurd q (by decide)⟩
  cases h
theorem c_R_mutinousBeside {av : List Value} {s : Mem} {z : Int32 × Mem} (h : A_R_mutinousBeside av s = some z) (d : Nat) : Ctr (d + 2) I_R_mutinousBeside av s z := by
  unfold A_R_mutinousBeside at h
  split at h
  · replace h := cbr_n h
    obtain ⟨hb, h⟩ := h
    cases beq_t hb
    refine ctr_of (d := d + 1) (own := 11) (kps := [51, 85]) (code := K_R_mutinousBeside) (Cl := C_R_mutinousBeside) o_R_mutinousBeside rfl (by decide) k_R_mutinousBeside (l_R_mutinousBeside d) (c1_of rfl) (Nat.le_of_ble_eq_true rfl) ?_
    intro RA S
    rw [e_R_mutinousBeside] at h
    refine S.2 _ ?_ 700 0 _ _ (ck1_of rfl) h
    intro k ls s h
    replace h := cbr_c h
    rcases h with ⟨hb, h⟩ | ⟨_, h⟩
    · cases beq_t hb
      exact a_R_mutinousBeside_36 S.1 h (n_R_mutinousBeside_36 S gF)
    cases h
  · cases h
set_option maxRecDepth 1000000 in
theorem k_R_mutinyFrom : okC 11 I_R_mutinyFrom.2.2.1 I_R_mutinyFrom.2.1 I_R_mutinyFrom.2.2.2.1 [2, 47, 56, 159] K_R_mutinyFrom K_R_mutinyFrom = true := by decide +kernel
theorem a_R_mutinyFrom_2 {z : Int32 × Mem} {RA : Nat → List (Option Value) → Mem → Prop} (hm : ∀ (pc : Nat) (ls ls1 : List (Option Value)) (σ : Mem), ls1.length = I_R_mutinyFrom.2.2.1 → (∀ i v, lk ls1 i = some v → lk ls i = some v) → RA pc ls1 σ → RA pc ls σ) {f : Int32 → Int32 → Int32 → Mem → Option (Int32 × Mem)} {ls : List (Option Value)} {s : Mem} (h : A_R_mutinyFrom_2 f ls s = some z) (hf : ∀ (x1 : Int32) (x2 : Int32) (x3 : Int32) (s : Mem), f x1 x2 x3 s = some z → RA 2 [some (.ref 123), some (.int x1), some (.int x2), some (.int x3), none, none] s) : RA 2 ls s := by
  unfold A_R_mutinyFrom_2 at h
  split at h
  · rename_i a0 a1 a2 a3 e0 e1 e2 e3
    replace h := cbr_n h
    obtain ⟨hb, h⟩ := h
    cases beq_t hb
    refine hm _ _ [some (.ref 123), some (.int a1), some (.int a2), some (.int a3), none, none] _ rfl (fun i v hv => ?_) (hf _ _ _ _ h)
    match i, hv with
    | 0, hv => exact e0.trans hv
    | 1, hv => exact e1.trans hv
    | 2, hv => exact e2.trans hv
    | 3, hv => exact e3.trans hv
    | 4, hv => cases hv
    | 5, hv => cases hv
    | i + 6, hv => cases hv
  · cases h
theorem a_R_mutinyFrom_28 {z : Int32 × Mem} {RA : Nat → List (Option Value) → Mem → Prop} (hm : ∀ (pc : Nat) (ls ls1 : List (Option Value)) (σ : Mem), ls1.length = I_R_mutinyFrom.2.2.1 → (∀ i v, lk ls1 i = some v → lk ls i = some v) → RA pc ls1 σ → RA pc ls σ) {f : Int32 → Mem → Option (Int32 × Mem)} {ls : List (Option Value)} {s : Mem} (h : A_R_mutinyFrom_28 f ls s = some z) (hf : ∀ (x3 : Int32) (s : Mem), f x3 s = some z → RA 47 [some (.ref 123), none, none, some (.int x3), none, none] s) : RA 47 ls s := by
  unfold A_R_mutinyFrom_28 at h
  split at h
  · rename_i a0 a1 e0 e1
    replace h := cbr_n h
    obtain ⟨hb, h⟩ := h
    cases beq_t hb
    refine hm _ _ [some (.ref 123), none, none, some (.int a1), none, none] _ rfl (fun i v hv => ?_) (hf _ _ h)
    match i, hv with
    | 0, hv => exact e0.trans hv
    | 1, hv => cases hv
    | 2, hv => cases hv
    | 3, hv => exact e1.trans hv
    | 4, hv => cases hv
    | 5, hv => cases hv
    | i + 6, hv => cases hv
  · cases h
theorem a_R_mutinyFrom_34 {z : Int32 × Mem} {RA : Nat → List (Option Value) → Mem → Prop} (hm : ∀ (pc : Nat) (ls ls1 : List (Option Value)) (σ : Mem), ls1.length = I_R_mutinyFrom.2.2.1 → (∀ i v, lk ls1 i = some v → lk ls i = some v) → RA pc ls1 σ → RA pc ls σ) {f : Int32 → Int32 → Mem → Option (Int32 × Mem)} {ls : List (Option Value)} {s : Mem} (h : A_R_mutinyFrom_34 f ls s = some z) (hf : ∀ (x3 : Int32) (x4 : Int32) (s : Mem), f x3 x4 s = some z → RA 56 [some (.ref 123), none, none, some (.int x3), some (.int x4), none] s) : RA 56 ls s := by
  unfold A_R_mutinyFrom_34 at h
  split at h
  · rename_i a0 a1 a2 e0 e1 e2
    replace h := cbr_n h
    obtain ⟨hb, h⟩ := h
    cases beq_t hb
    refine hm _ _ [some (.ref 123), none, none, some (.int a1), some (.int a2), none] _ rfl (fun i v hv => ?_) (hf _ _ _ h)
    match i, hv with
    | 0, hv => exact e0.trans hv
    | 1, hv => cases hv
    | 2, hv => cases hv
    | 3, hv => exact e1.trans hv
    | 4, hv => exact e2.trans hv
    | 5, hv => cases hv
    | i + 6, hv => cases hv
  · cases h
theorem a_R_mutinyFrom_88 {z : Int32 × Mem} {RA : Nat → List (Option Value) → Mem → Prop} (hm : ∀ (pc : Nat) (ls ls1 : List (Option Value)) (σ : Mem), ls1.length = I_R_mutinyFrom.2.2.1 → (∀ i v, lk ls1 i = some v → lk ls i = some v) → RA pc ls1 σ → RA pc ls σ) {f : Int32 → Int32 → Mem → Option (Int32 × Mem)} {ls : List (Option Value)} {s : Mem} (h : A_R_mutinyFrom_88 f ls s = some z) (hf : ∀ (x4 : Int32) (x5 : Int32) (s : Mem), f x4 x5 s = some z → RA 159 [some (.ref 123), none, none, none, some (.int x4), some (.int x5)] s) : RA 159 ls s := by
  unfold A_R_mutinyFrom_88 at h
  split at h
  · rename_i a0 a1 a2 e0 e1 e2
    replace h := cbr_n h
    obtain ⟨hb, h⟩ := h
    cases beq_t hb
    refine hm _ _ [some (.ref 123), none, none, none, some (.int a1), some (.int a2)] _ rfl (fun i v hv => ?_) (hf _ _ _ h)
    match i, hv with
    | 0, hv => exact e0.trans hv
    | 1, hv => cases hv
    | 2, hv => cases hv
    | 3, hv => cases hv
    | 4, hv => exact e1.trans hv
    | 5, hv => exact e2.trans hv
    | i + 6, hv => cases hv
  · cases h
theorem n_R_mutinyFrom_34 {z : Int32 × Mem} {RA : Nat → List (Option Value) → Mem → Prop} (S : Sm I_R_mutinyFrom C_R_mutinyFrom K_R_mutinyFrom [2, 47, 56, 159] z RA) {k28 : Int32 → Mem → Option (Int32 × Mem)} (hk28 : ∀ (x3 : Int32) (s : Mem), k28 x3 s = some z → RA 47 [some (.ref 123), none, none, some (.int x3), none, none] s) : ∀ (n : Nat) (x3 : Int32) (x4 : Int32) (s : Mem), F_R_mutinyFrom_34 k28 n x3 x4 s = some z → RA 56 [some (.ref 123), none, none, some (.int x3), some (.int x4), none] s := by
  intro n
  induction n with
  | zero => intro x3 x4 s h; exact nomatch (show (none : Option (Int32 × Mem)) = some z from h)
  | succ n ih =>
    intro x3 x4 s h
    rw [e_R_mutinyFrom_34] at h
    refine S.2 _ ?_ 700 37 _ _ (ck1_of rfl) h
    intro k ls s h
    replace h := cbr_c h
    rcases h with ⟨hb, h⟩ | ⟨_, h⟩
    · cases beq_t hb
      exact a_R_mutinyFrom_28 S.1 h hk28
    replace h := cbr_c h
    rcases h with ⟨hb, h⟩ | ⟨_, h⟩
    · cases beq_t hb
      exact a_R_mutinyFrom_34 S.1 h ih
    cases h
theorem n_R_mutinyFrom_88 {z : Int32 × Mem} {RA : Nat → List (Option Value) → Mem → Prop} (S : Sm I_R_mutinyFrom C_R_mutinyFrom K_R_mutinyFrom [2, 47, 56, 159] z RA) : ∀ (n : Nat) (x4 : Int32) (x5 : Int32) (s : Mem), F_R_mutinyFrom_88 n x4 x5 s = some z → RA 159 [some (.ref 123), none, none, none, some (.int x4), some (.int x5)] s := by
  intro n
  induction n with
  | zero => intro x4 x5 s h; exact nomatch (show (none : Option (Int32 × Mem)) = some z from h)
  | succ n ih =>
    intro x4 x5 s h
    rw [e_R_mutinyFrom_88] at h
    refine S.2 _ ?_ 700 92 _ _ (ck1_of rfl) h
    intro k ls s h
    replace h := cbr_c h
    rcases h with ⟨hb, h⟩ | ⟨_, h⟩
    · cases beq_t hb
      exact a_R_mutinyFrom_88 S.1 h ih
    cases h
theorem n_R_mutinyFrom_28 {z : Int32 × Mem} {RA : Nat → List (Option Value) → Mem → Prop} (S : Sm I_R_mutinyFrom C_R_mutinyFrom K_R_mutinyFrom [2, 47, 56, 159] z RA) : ∀ (n : Nat) (x3 : Int32) (s : Mem), F_R_mutinyFrom_28 n x3 s = some z → RA 47 [some (.ref 123), none, none, some (.int x3), none, none] s := by
  intro n
  induction n with
  | zero => intro x3 s h; exact nomatch (show (none : Option (Int32 × Mem)) = some z from h)
  | succ n ih =>
    intro x3 s h
    rw [e_R_mutinyFrom_28] at h
    refine S.2 _ ?_ 700 30 _ _ (ck1_of rfl) h
    intro k ls s h
    replace h := cbr_c h
    rcases h with ⟨hb, h⟩ | ⟨_, h⟩
    · cases beq_t hb
      exact a_R_mutinyFrom_34 S.1 h (n_R_mutinyFrom_34 S ih gF)
    replace h := cbr_c h
    rcases h with ⟨hb, h⟩ | ⟨_, h⟩
    · cases beq_t hb
      exact a_R_mutinyFrom_88 S.1 h (n_R_mutinyFrom_88 S gF)
    cases h
theorem n_R_mutinyFrom_2 {z : Int32 × Mem} {RA : Nat → List (Option Value) → Mem → Prop} (S : Sm I_R_mutinyFrom C_R_mutinyFrom K_R_mutinyFrom [2, 47, 56, 159] z RA) : ∀ (n : Nat) (x1 : Int32) (x2 : Int32) (x3 : Int32) (s : Mem), F_R_mutinyFrom_2 n x1 x2 x3 s = some z → RA 2 [some (.ref 123), some (.int x1), some (.int x2), some (.int x3), none, none] s := by
  intro n
  induction n with
  | zero => intro x1 x2 x3 s h; exact nomatch (show (none : Option (Int32 × Mem)) = some z from h)
  | succ n ih =>
    intro x1 x2 x3 s h
    rw [e_R_mutinyFrom_2] at h
    refine S.2 _ ?_ 700 3 _ _ (ck1_of rfl) h
    intro k ls s h
    replace h := cbr_c h
    rcases h with ⟨hb, h⟩ | ⟨_, h⟩
    · cases beq_t hb
      exact a_R_mutinyFrom_2 S.1 h ih
    replace h := cbr_c h
    rcases h with ⟨hb, h⟩ | ⟨_, h⟩
    · cases beq_t hb
      exact a_R_mutinyFrom_28 S.1 h (n_R_mutinyFrom_28 S gF)
    cases h
theorem l_R_mutinyFrom (d : Nat) (k : Nat) (av : List Value) (s : Mem) (y : Int32 × Mem) (h : C_R_mutinyFrom k av s = some y) : Ctr (d + 2) (mtab k) av s y ∧ ((mtab k).2.2.2.2.2 = 77 → ∃ b rest, av = .ref b :: rest ∧ (b = 1001 ∨ b = 1002)) := by
  unfold C_R_mutinyFrom at h
  replace h := cbr_c h
  rcases h with ⟨hb, h⟩ | ⟨_, h⟩
  · cases beq_t hb
    exact ⟨c_R_has h (d + 1), fun q => absurd q (by decide)⟩
  replace h := cbr_c h
  rcases h with ⟨hb, h⟩ | ⟨_, h⟩
  · cases beq_t hb
    exact ⟨c_R_isGone h (d + 1), fun q => absurd q (by decide)⟩
  replace h := cbr_c h
  rcases h with ⟨hb, h⟩ | ⟨_, h⟩
  · cases beq_t hb
    exact ⟨c_R_mutinousBeside h (d + 0), fun q => absurd q (by decide)⟩
  replace h := cbr_c h
  rcases h with ⟨hb, h⟩ | ⟨_, h⟩
  · cases beq_t hb
    exact ⟨c_R_greater h (d + 1), fun q => absurd q (by decide)⟩
  cases h
theorem c_R_mutinyFrom {av : List Value} {s : Mem} {z : Int32 × Mem} (h : A_R_mutinyFrom av s = some z) (d : Nat) : Ctr (d + 3) I_R_mutinyFrom av s z := by
  unfold A_R_mutinyFrom at h
  split at h
  · replace h := cbr_n h
    obtain ⟨hb, h⟩ := h
    cases beq_t hb
    refine ctr_of (d := d + 2) (own := 11) (kps := [2, 47, 56, 159]) (code := K_R_mutinyFrom) (Cl := C_R_mutinyFrom) o_R_mutinyFrom rfl (by decide) k_R_mutinyFrom (l_R_mutinyFrom d) (c1_of rfl) (Nat.le_of_ble_eq_true rfl) ?_
    intro RA S
    rw [e_R_mutinyFrom] at h
    refine S.2 _ ?_ 700 0 _ _ (ck1_of rfl) h
    intro k ls s h
    replace h := cbr_c h
    rcases h with ⟨hb, h⟩ | ⟨_, h⟩
    · cases beq_t hb
      exact a_R_mutinyFrom_2 S.1 h (n_R_mutinyFrom_2 S gF)
    cases h
  · cases h
set_option maxRecDepth 1000000 in
theorem k_R_spreads : okC 11 I_R_spreads.2.2.1 I_R_spreads.2.1 I_R_spreads.2.2.2.1 [6, 17] K_R_spreads K_R_spreads = true := by decide +kernel
theorem a_R_spreads_4 {z : Int32 × Mem} {RA : Nat → List (Option Value) → Mem → Prop} (hm : ∀ (pc : Nat) (ls ls1 : List (Option Value)) (σ : Mem), ls1.length = I_R_spreads.2.2.1 → (∀ i v, lk ls1 i = some v → lk ls i = some v) → RA pc ls1 σ → RA pc ls σ) {f : Int32 → Int32 → Int32 → Int32 → Mem → Option (Int32 × Mem)} {ls : List (Option Value)} {s : Mem} (h : A_R_spreads_4 f ls s = some z) (hf : ∀ (x1 : Int32) (x3 : Int32) (x4 : Int32) (x5 : Int32) (s : Mem), f x1 x3 x4 x5 s = some z → RA 6 [some (.ref 123), some (.int x1), none, some (.int x3), some (.int x4), some (.int x5), none, none] s) : RA 6 ls s := by
  unfold A_R_spreads_4 at h
  split at h
  · rename_i a0 a1 a2 a3 a4 e0 e1 e2 e3 e4
    replace h := cbr_n h
    obtain ⟨hb, h⟩ := h
    cases beq_t hb
    refine hm _ _ [some (.ref 123), some (.int a1), none, some (.int a2), some (.int a3), some (.int a4), none, none] _ rfl (fun i v hv => ?_) (hf _ _ _ _ _ h)
    match i, hv with
    | 0, hv => exact e0.trans hv
    | 1, hv => exact e1.trans hv
    | 2, hv => cases hv
    | 3, hv => exact e2.trans hv
    | 4, hv => exact e3.trans hv
    | 5, hv => exact e4.trans hv
    | 6, hv => cases hv
    | 7, hv => cases hv
    | i + 8, hv => cases hv
  · cases h
theorem a_R_spreads_10 {z : Int32 × Mem} {RA : Nat → List (Option Value) → Mem → Prop} (hm : ∀ (pc : Nat) (ls ls1 : List (Option Value)) (σ : Mem), ls1.length = I_R_spreads.2.2.1 → (∀ i v, lk ls1 i = some v → lk ls i = some v) → RA pc ls1 σ → RA pc ls σ) {f : Int32 → Int32 → Int32 → Int32 → Int32 → Mem → Option (Int32 × Mem)} {ls : List (Option Value)} {s : Mem} (h : A_R_spreads_10 f ls s = some z) (hf : ∀ (x1 : Int32) (x3 : Int32) (x4 : Int32) (x5 : Int32) (x6 : Int32) (s : Mem), f x1 x3 x4 x5 x6 s = some z → RA 17 [some (.ref 123), some (.int x1), none, some (.int x3), some (.int x4), some (.int x5), some (.int x6), none] s) : RA 17 ls s := by
  unfold A_R_spreads_10 at h
  split at h
  · rename_i a0 a1 a2 a3 a4 a5 e0 e1 e2 e3 e4 e5
    replace h := cbr_n h
    obtain ⟨hb, h⟩ := h
    cases beq_t hb
    refine hm _ _ [some (.ref 123), some (.int a1), none, some (.int a2), some (.int a3), some (.int a4), some (.int a5), none] _ rfl (fun i v hv => ?_) (hf _ _ _ _ _ _ h)
    match i, hv with
    | 0, hv => exact e0.trans hv
    | 1, hv => exact e1.trans hv
    | 2, hv => cases hv
    | 3, hv => exact e2.trans hv
    | 4, hv => exact e3.trans hv
    | 5, hv => exact e4.trans hv
    | 6, hv => exact e5.trans hv
    | 7, hv => cases hv
    | i + 8, hv => cases hv
  · cases h
theorem n_R_spreads_10 {z : Int32 × Mem} {RA : Nat → List (Option Value) → Mem → Prop} (S : Sm I_R_spreads C_R_spreads K_R_spreads [6, 17] z RA) {k4 : Int32 → Int32 → Int32 → Int32 → Mem → Option (Int32 × Mem)} (hk4 : ∀ (x1 : Int32) (x3 : Int32) (x4 : Int32) (x5 : Int32) (s : Mem), k4 x1 x3 x4 x5 s = some z → RA 6 [some (.ref 123), some (.int x1), none, some (.int x3), some (.int x4), some (.int x5), none, none] s) : ∀ (n : Nat) (x1 : Int32) (x3 : Int32) (x4 : Int32) (x5 : Int32) (x6 : Int32) (s : Mem), F_R_spreads_10 k4 n x1 x3 x4 x5 x6 s = some z → RA 17 [some (.ref 123), some (.int x1), none, some (.int x3), some (.int x4), some (.int x5), some (.int x6), none] s := by
  intro n
  induction n with
  | zero => intro x1 x3 x4 x5 x6 s h; exact nomatch (show (none : Option (Int32 × Mem)) = some z from h)
  | succ n ih =>
    intro x1 x3 x4 x5 x6 s h
    rw [e_R_spreads_10] at h
    refine S.2 _ ?_ 700 12 _ _ (ck1_of rfl) h
    intro k ls s h
    replace h := cbr_c h
    rcases h with ⟨hb, h⟩ | ⟨_, h⟩
    · cases beq_t hb
      exact a_R_spreads_4 S.1 h hk4
    replace h := cbr_c h
    rcases h with ⟨hb, h⟩ | ⟨_, h⟩
    · cases beq_t hb
      exact a_R_spreads_10 S.1 h ih
    cases h
theorem n_R_spreads_4 {z : Int32 × Mem} {RA : Nat → List (Option Value) → Mem → Prop} (S : Sm I_R_spreads C_R_spreads K_R_spreads [6, 17] z RA) : ∀ (n : Nat) (x1 : Int32) (x3 : Int32) (x4 : Int32) (x5 : Int32) (s : Mem), F_R_spreads_4 n x1 x3 x4 x5 s = some z → RA 6 [some (.ref 123), some (.int x1), none, some (.int x3), some (.int x4), some (.int x5), none, none] s := by
  intro n
  induction n with
  | zero => intro x1 x3 x4 x5 s h; exact nomatch (show (none : Option (Int32 × Mem)) = some z from h)
  | succ n ih =>
    intro x1 x3 x4 x5 s h
    rw [e_R_spreads_4] at h
    refine S.2 _ ?_ 700 5 _ _ (ck1_of rfl) h
    intro k ls s h
    replace h := cbr_c h
    rcases h with ⟨hb, h⟩ | ⟨_, h⟩
    · cases beq_t hb
      exact a_R_spreads_10 S.1 h (n_R_spreads_10 S ih gF)
    cases h
theorem l_R_spreads (d : Nat) (k : Nat) (av : List Value) (s : Mem) (y : Int32 × Mem) (h : C_R_spreads k av s = some y) : Ctr (d + 1) (mtab k) av s y ∧ ((mtab k).2.2.2.2.2 = 77 → ∃ b rest, av = .ref b :: rest ∧ (b = 1001 ∨ b = 1002)) := by
  unfold C_R_spreads at h
  replace h := cbr_c h
  rcases h with ⟨hb, h⟩ | ⟨_, h⟩
  · cases beq_t hb
    exact ⟨c_R_has h (d + 0), fun q => absurd q (by decide)⟩
  replace h := cbr_c h
  rcases h with ⟨hb, h⟩ | ⟨_, h⟩
  · cases beq_t hb
    exact ⟨c_R_greater h (d + 0), fun q => absurd q (by decide)⟩
  cases h
theorem c_R_spreads {av : List Value} {s : Mem} {z : Int32 × Mem} (h : A_R_spreads av s = some z) (d : Nat) : Ctr (d + 2) I_R_spreads av s z := by
  unfold A_R_spreads at h
  split at h
  · replace h := cbr_n h
    obtain ⟨hb, h⟩ := h
    cases beq_t hb
    refine ctr_of (d := d + 1) (own := 11) (kps := [6, 17]) (code := K_R_spreads) (Cl := C_R_spreads) o_R_spreads rfl (by decide) k_R_spreads (l_R_spreads d) (c1_of rfl) (Nat.le_of_ble_eq_true rfl) ?_
    intro RA S
    rw [e_R_spreads] at h
    refine S.2 _ ?_ 700 0 _ _ (ck1_of rfl) h
    intro k ls s h
    replace h := cbr_c h
    rcases h with ⟨hb, h⟩ | ⟨_, h⟩
    · cases beq_t hb
      exact a_R_spreads_4 S.1 h (n_R_spreads_4 S gF)
    cases h
  · cases h
set_option maxRecDepth 1000000 in
theorem k_R_fewestBegin : okC 11 I_R_fewestBegin.2.2.1 I_R_fewestBegin.2.1 I_R_fewestBegin.2.2.2.1 [15] K_R_fewestBegin K_R_fewestBegin = true := by decide +kernel
theorem a_R_fewestBegin_10 {z : Int32 × Mem} {RA : Nat → List (Option Value) → Mem → Prop} (hm : ∀ (pc : Nat) (ls ls1 : List (Option Value)) (σ : Mem), ls1.length = I_R_fewestBegin.2.2.1 → (∀ i v, lk ls1 i = some v → lk ls i = some v) → RA pc ls1 σ → RA pc ls σ) {f : Int32 → Int32 → Int32 → Int32 → Mem → Option (Int32 × Mem)} {ls : List (Option Value)} {s : Mem} (h : A_R_fewestBegin_10 f ls s = some z) (hf : ∀ (x1 : Int32) (x2 : Int32) (x3 : Int32) (x4 : Int32) (s : Mem), f x1 x2 x3 x4 s = some z → RA 15 [some (.ref 123), some (.int x1), some (.int x2), some (.int x3), some (.int x4)] s) : RA 15 ls s := by
  unfold A_R_fewestBegin_10 at h
  split at h
  · rename_i a0 a1 a2 a3 a4 e0 e1 e2 e3 e4
    replace h := cbr_n h
    obtain ⟨hb, h⟩ := h
    cases beq_t hb
    refine hm _ _ [some (.ref 123), some (.int a1), some (.int a2), some (.int a3), some (.int a4)] _ rfl (fun i v hv => ?_) (hf _ _ _ _ _ h)
    match i, hv with
    | 0, hv => exact e0.trans hv
    | 1, hv => exact e1.trans hv
    | 2, hv => exact e2.trans hv
    | 3, hv => exact e3.trans hv
    | 4, hv => exact e4.trans hv
    | i + 5, hv => cases hv
  · cases h
theorem n_R_fewestBegin_10 {z : Int32 × Mem} {RA : Nat → List (Option Value) → Mem → Prop} (S : Sm I_R_fewestBegin C_R_fewestBegin K_R_fewestBegin [15] z RA) : ∀ (n : Nat) (x1 : Int32) (x2 : Int32) (x3 : Int32) (x4 : Int32) (s : Mem), F_R_fewestBegin_10 n x1 x2 x3 x4 s = some z → RA 15 [some (.ref 123), some (.int x1), some (.int x2), some (.int x3), some (.int x4)] s := by
  intro n
  induction n with
  | zero => intro x1 x2 x3 x4 s h; exact nomatch (show (none : Option (Int32 × Mem)) = some z from h)
  | succ n ih =>
    intro x1 x2 x3 x4 s h
    rw [e_R_fewestBegin_10] at h
    refine S.2 _ ?_ 700 11 _ _ (ck1_of rfl) h
    intro k ls s h
    replace h := cbr_c h
    rcases h with ⟨hb, h⟩ | ⟨_, h⟩
    · cases beq_t hb
      exact a_R_fewestBegin_10 S.1 h ih
    cases h
theorem l_R_fewestBegin (d : Nat) (k : Nat) (av : List Value) (s : Mem) (y : Int32 × Mem) (h : C_R_fewestBegin k av s = some y) : Ctr (d + 2) (mtab k) av s y ∧ ((mtab k).2.2.2.2.2 = 77 → ∃ b rest, av = .ref b :: rest ∧ (b = 1001 ∨ b = 1002)) := by
  unfold C_R_fewestBegin at h
  replace h := cbr_c h
  rcases h with ⟨hb, h⟩ | ⟨_, h⟩
  · cases beq_t hb
    exact ⟨c_R_presentSet h (d + 0), fun q => absurd q (by decide)⟩
  replace h := cbr_c h
  rcases h with ⟨hb, h⟩ | ⟨_, h⟩
  · cases beq_t hb
    exact ⟨c_R_onesOf h (d + 1), fun q => absurd q (by decide)⟩
  replace h := cbr_c h
  rcases h with ⟨hb, h⟩ | ⟨_, h⟩
  · cases beq_t hb
    exact ⟨c_R_spreads h (d + 0), fun q => absurd q (by decide)⟩
  cases h
theorem c_R_fewestBegin {av : List Value} {s : Mem} {z : Int32 × Mem} (h : A_R_fewestBegin av s = some z) (d : Nat) : Ctr (d + 3) I_R_fewestBegin av s z := by
  unfold A_R_fewestBegin at h
  split at h
  · replace h := cbr_n h
    obtain ⟨hb, h⟩ := h
    cases beq_t hb
    refine ctr_of (d := d + 2) (own := 11) (kps := [15]) (code := K_R_fewestBegin) (Cl := C_R_fewestBegin) o_R_fewestBegin rfl (by decide) k_R_fewestBegin (l_R_fewestBegin d) (c1_of rfl) (Nat.le_of_ble_eq_true rfl) ?_
    intro RA S
    rw [e_R_fewestBegin] at h
    refine S.2 _ ?_ 700 0 _ _ (ck1_of rfl) h
    intro k ls s h
    replace h := cbr_c h
    rcases h with ⟨hb, h⟩ | ⟨_, h⟩
    · cases beq_t hb
      exact a_R_fewestBegin_10 S.1 h (n_R_fewestBegin_10 S gF)
    cases h
  · cases h
set_option maxRecDepth 1000000 in
theorem k_R_mutiny : okC 11 I_R_mutiny.2.2.1 I_R_mutiny.2.1 I_R_mutiny.2.2.2.1 [] K_R_mutiny K_R_mutiny = true := by decide +kernel
theorem l_R_mutiny (d : Nat) (k : Nat) (av : List Value) (s : Mem) (y : Int32 × Mem) (h : C_R_mutiny k av s = some y) : Ctr (d + 3) (mtab k) av s y ∧ ((mtab k).2.2.2.2.2 = 77 → ∃ b rest, av = .ref b :: rest ∧ (b = 1001 ∨ b = 1002)) := by
  unfold C_R_mutiny at h
  replace h := cbr_c h
  rcases h with ⟨hb, h⟩ | ⟨_, h⟩
  · cases beq_t hb
    exact ⟨c_R_isFlight h (d + 2), fun q => absurd q (by decide)⟩
  replace h := cbr_c h
  rcases h with ⟨hb, h⟩ | ⟨_, h⟩
  · cases beq_t hb
    exact ⟨c_R_fewestBegin h (d + 0), fun q => absurd q (by decide)⟩
  replace h := cbr_c h
  rcases h with ⟨hb, h⟩ | ⟨_, h⟩
  · cases beq_t hb
    exact ⟨c_R_isIn h (d + 2), fun q => absurd q (by decide)⟩
  replace h := cbr_c h
  rcases h with ⟨hb, h⟩ | ⟨_, h⟩
  · cases beq_t hb
    exact ⟨c_R_presentSet h (d + 1), fun q => absurd q (by decide)⟩
  replace h := cbr_c h
  rcases h with ⟨hb, h⟩ | ⟨_, h⟩
  · cases beq_t hb
    exact ⟨c_R_mutinyFrom h (d + 0), fun q => absurd q (by decide)⟩
  cases h
theorem c_R_mutiny {av : List Value} {s : Mem} {z : Int32 × Mem} (h : A_R_mutiny av s = some z) (d : Nat) : Ctr (d + 4) I_R_mutiny av s z := by
  unfold A_R_mutiny at h
  split at h
  · replace h := cbr_n h
    obtain ⟨hb, h⟩ := h
    cases beq_t hb
    refine ctr_of (d := d + 3) (own := 11) (kps := []) (code := K_R_mutiny) (Cl := C_R_mutiny) o_R_mutiny rfl (by decide) k_R_mutiny (l_R_mutiny d) (c1_of rfl) (Nat.le_of_ble_eq_true rfl) ?_
    intro RA S
    rw [e_R_mutiny] at h
    refine S.2 _ ?_ 700 0 _ _ (ck1_of rfl) h
    intro k ls s h
    cases h
  · cases h
set_option maxRecDepth 1000000 in
theorem k_R_drill : okC 11 I_R_drill.2.2.1 I_R_drill.2.1 I_R_drill.2.2.2.1 [26] K_R_drill K_R_drill = true := by decide +kernel
theorem a_R_drill_17 {z : Int32 × Mem} {RA : Nat → List (Option Value) → Mem → Prop} (hm : ∀ (pc : Nat) (ls ls1 : List (Option Value)) (σ : Mem), ls1.length = I_R_drill.2.2.1 → (∀ i v, lk ls1 i = some v → lk ls i = some v) → RA pc ls1 σ → RA pc ls σ) {f : Int32 → Int32 → Int32 → Int32 → Mem → Option (Int32 × Mem)} {ls : List (Option Value)} {s : Mem} (h : A_R_drill_17 f ls s = some z) (hf : ∀ (x1 : Int32) (x2 : Int32) (x3 : Int32) (x4 : Int32) (s : Mem), f x1 x2 x3 x4 s = some z → RA 26 [some (.ref 123), some (.int x1), some (.int x2), some (.int x3), some (.int x4)] s) : RA 26 ls s := by
  unfold A_R_drill_17 at h
  split at h
  · rename_i a0 a1 a2 a3 a4 e0 e1 e2 e3 e4
    replace h := cbr_n h
    obtain ⟨hb, h⟩ := h
    cases beq_t hb
    refine hm _ _ [some (.ref 123), some (.int a1), some (.int a2), some (.int a3), some (.int a4)] _ rfl (fun i v hv => ?_) (hf _ _ _ _ _ h)
    match i, hv with
    | 0, hv => exact e0.trans hv
    | 1, hv => exact e1.trans hv
    | 2, hv => exact e2.trans hv
    | 3, hv => exact e3.trans hv
    | 4, hv => exact e4.trans hv
    | i + 5, hv => cases hv
  · cases h
theorem n_R_drill_17 {z : Int32 × Mem} {RA : Nat → List (Option Value) → Mem → Prop} (S : Sm I_R_drill C_R_drill K_R_drill [26] z RA) : ∀ (n : Nat) (x1 : Int32) (x2 : Int32) (x3 : Int32) (x4 : Int32) (s : Mem), F_R_drill_17 n x1 x2 x3 x4 s = some z → RA 26 [some (.ref 123), some (.int x1), some (.int x2), some (.int x3), some (.int x4)] s := by
  intro n
  induction n with
  | zero => intro x1 x2 x3 x4 s h; exact nomatch (show (none : Option (Int32 × Mem)) = some z from h)
  | succ n ih =>
    intro x1 x2 x3 x4 s h
    rw [e_R_drill_17] at h
    refine S.2 _ ?_ 700 18 _ _ (ck1_of rfl) h
    intro k ls s h
    replace h := cbr_c h
    rcases h with ⟨hb, h⟩ | ⟨_, h⟩
    · cases beq_t hb
      exact a_R_drill_17 S.1 h ih
    cases h
theorem l_R_drill (d : Nat) (k : Nat) (av : List Value) (s : Mem) (y : Int32 × Mem) (h : C_R_drill k av s = some y) : Ctr (d + 1) (mtab k) av s y ∧ ((mtab k).2.2.2.2.2 = 77 → ∃ b rest, av = .ref b :: rest ∧ (b = 1001 ∨ b = 1002)) := by
  unfold C_R_drill at h
  replace h := cbr_c h
  rcases h with ⟨hb, h⟩ | ⟨_, h⟩
  · cases beq_t hb
    exact ⟨c_R_isIn h (d + 0), fun q => absurd q (by decide)⟩
  cases h
theorem c_R_drill {av : List Value} {s : Mem} {z : Int32 × Mem} (h : A_R_drill av s = some z) (d : Nat) : Ctr (d + 2) I_R_drill av s z := by
  unfold A_R_drill at h
  split at h
  · replace h := cbr_n h
    obtain ⟨hb, h⟩ := h
    cases beq_t hb
    refine ctr_of (d := d + 1) (own := 11) (kps := [26]) (code := K_R_drill) (Cl := C_R_drill) o_R_drill rfl (by decide) k_R_drill (l_R_drill d) (c1_of rfl) (Nat.le_of_ble_eq_true rfl) ?_
    intro RA S
    rw [e_R_drill] at h
    refine S.2 _ ?_ 700 0 _ _ (ck1_of rfl) h
    intro k ls s h
    replace h := cbr_c h
    rcases h with ⟨hb, h⟩ | ⟨_, h⟩
    · cases beq_t hb
      exact a_R_drill_17 S.1 h (n_R_drill_17 S gF)
    cases h
  · cases h
set_option maxRecDepth 1000000 in
theorem k_R_roundOf : okC 11 I_R_roundOf.2.2.1 I_R_roundOf.2.1 I_R_roundOf.2.2.2.1 [9] K_R_roundOf K_R_roundOf = true := by decide +kernel
theorem a_R_roundOf_7 {z : Int32 × Mem} {RA : Nat → List (Option Value) → Mem → Prop} (hm : ∀ (pc : Nat) (ls ls1 : List (Option Value)) (σ : Mem), ls1.length = I_R_roundOf.2.2.1 → (∀ i v, lk ls1 i = some v → lk ls i = some v) → RA pc ls1 σ → RA pc ls σ) {f : Int32 → Int32 → Int32 → Mem → Option (Int32 × Mem)} {ls : List (Option Value)} {s : Mem} (h : A_R_roundOf_7 f ls s = some z) (hf : ∀ (x1 : Int32) (x2 : Int32) (x3 : Int32) (s : Mem), f x1 x2 x3 s = some z → RA 9 [some (.ref 123), some (.int x1), some (.int x2), some (.int x3)] s) : RA 9 ls s := by
  unfold A_R_roundOf_7 at h
  split at h
  · rename_i a0 a1 a2 a3 e0 e1 e2 e3
    replace h := cbr_n h
    obtain ⟨hb, h⟩ := h
    cases beq_t hb
    refine hm _ _ [some (.ref 123), some (.int a1), some (.int a2), some (.int a3)] _ rfl (fun i v hv => ?_) (hf _ _ _ _ h)
    match i, hv with
    | 0, hv => exact e0.trans hv
    | 1, hv => exact e1.trans hv
    | 2, hv => exact e2.trans hv
    | 3, hv => exact e3.trans hv
    | i + 4, hv => cases hv
  · cases h
theorem n_R_roundOf_7 {z : Int32 × Mem} {RA : Nat → List (Option Value) → Mem → Prop} (S : Sm I_R_roundOf C_R_roundOf K_R_roundOf [9] z RA) : ∀ (n : Nat) (x1 : Int32) (x2 : Int32) (x3 : Int32) (s : Mem), F_R_roundOf_7 n x1 x2 x3 s = some z → RA 9 [some (.ref 123), some (.int x1), some (.int x2), some (.int x3)] s := by
  intro n
  induction n with
  | zero => intro x1 x2 x3 s h; exact nomatch (show (none : Option (Int32 × Mem)) = some z from h)
  | succ n ih =>
    intro x1 x2 x3 s h
    rw [e_R_roundOf_7] at h
    refine S.2 _ ?_ 700 8 _ _ (ck1_of rfl) h
    intro k ls s h
    replace h := cbr_c h
    rcases h with ⟨hb, h⟩ | ⟨_, h⟩
    · cases beq_t hb
      exact a_R_roundOf_7 S.1 h ih
    cases h
theorem l_R_roundOf (d : Nat) (k : Nat) (av : List Value) (s : Mem) (y : Int32 × Mem) (h : C_R_roundOf k av s = some y) : Ctr (d + 0) (mtab k) av s y ∧ ((mtab k).2.2.2.2.2 = 77 → ∃ b rest, av = .ref b :: rest ∧ (b = 1001 ∨ b = 1002)) := by
  exact nomatch (show (none : Option (Int32 × Mem)) = some y from h)
theorem c_R_roundOf {av : List Value} {s : Mem} {z : Int32 × Mem} (h : A_R_roundOf av s = some z) (d : Nat) : Ctr (d + 1) I_R_roundOf av s z := by
  unfold A_R_roundOf at h
  split at h
  · replace h := cbr_n h
    obtain ⟨hb, h⟩ := h
    cases beq_t hb
    refine ctr_of (d := d + 0) (own := 11) (kps := [9]) (code := K_R_roundOf) (Cl := C_R_roundOf) o_R_roundOf rfl (by decide) k_R_roundOf (l_R_roundOf d) (c1_of rfl) (Nat.le_of_ble_eq_true rfl) ?_
    intro RA S
    rw [e_R_roundOf] at h
    refine S.2 _ ?_ 700 0 _ _ (ck1_of rfl) h
    intro k ls s h
    replace h := cbr_c h
    rcases h with ⟨hb, h⟩ | ⟨_, h⟩
    · cases beq_t hb
      exact a_R_roundOf_7 S.1 h (n_R_roundOf_7 S gF)
    cases h
  · cases h
set_option maxRecDepth 1000000 in
theorem k_R_common : okC 11 I_R_common.2.2.1 I_R_common.2.1 I_R_common.2.2.2.1 [5] K_R_common K_R_common = true := by decide +kernel
theorem a_R_common_4 {z : Int32 × Mem} {RA : Nat → List (Option Value) → Mem → Prop} (hm : ∀ (pc : Nat) (ls ls1 : List (Option Value)) (σ : Mem), ls1.length = I_R_common.2.2.1 → (∀ i v, lk ls1 i = some v → lk ls i = some v) → RA pc ls1 σ → RA pc ls σ) {f : Int32 → Int32 → Mem → Option (Int32 × Mem)} {ls : List (Option Value)} {s : Mem} (h : A_R_common_4 f ls s = some z) (hf : ∀ (x3 : Int32) (x4 : Int32) (s : Mem), f x3 x4 s = some z → RA 5 [none, none, none, some (.int x3), some (.int x4), none] s) : RA 5 ls s := by
  unfold A_R_common_4 at h
  split at h
  · rename_i a0 a1 e0 e1
    refine hm _ _ [none, none, none, some (.int a0), some (.int a1), none] _ rfl (fun i v hv => ?_) (hf _ _ _ h)
    match i, hv with
    | 0, hv => cases hv
    | 1, hv => cases hv
    | 2, hv => cases hv
    | 3, hv => exact e0.trans hv
    | 4, hv => exact e1.trans hv
    | 5, hv => cases hv
    | i + 6, hv => cases hv
  · cases h
theorem n_R_common_4 {z : Int32 × Mem} {RA : Nat → List (Option Value) → Mem → Prop} (S : Sm I_R_common C_R_common K_R_common [5] z RA) : ∀ (n : Nat) (x3 : Int32) (x4 : Int32) (s : Mem), F_R_common_4 n x3 x4 s = some z → RA 5 [none, none, none, some (.int x3), some (.int x4), none] s := by
  intro n
  induction n with
  | zero => intro x3 x4 s h; exact nomatch (show (none : Option (Int32 × Mem)) = some z from h)
  | succ n ih =>
    intro x3 x4 s h
    rw [e_R_common_4] at h
    refine S.2 _ ?_ 700 5 _ _ (ck1_of rfl) h
    intro k ls s h
    replace h := cbr_c h
    rcases h with ⟨hb, h⟩ | ⟨_, h⟩
    · cases beq_t hb
      exact a_R_common_4 S.1 h ih
    cases h
theorem l_R_common (d : Nat) (k : Nat) (av : List Value) (s : Mem) (y : Int32 × Mem) (h : C_R_common k av s = some y) : Ctr (d + 0) (mtab k) av s y ∧ ((mtab k).2.2.2.2.2 = 77 → ∃ b rest, av = .ref b :: rest ∧ (b = 1001 ∨ b = 1002)) := by
  exact nomatch (show (none : Option (Int32 × Mem)) = some y from h)
theorem c_R_common {av : List Value} {s : Mem} {z : Int32 × Mem} (h : A_R_common av s = some z) (d : Nat) : Ctr (d + 1) I_R_common av s z := by
  unfold A_R_common at h
  split at h
  · replace h := cbr_n h
    obtain ⟨hb, h⟩ := h
    cases beq_t hb
    refine ctr_of (d := d + 0) (own := 11) (kps := [5]) (code := K_R_common) (Cl := C_R_common) o_R_common rfl (by decide) k_R_common (l_R_common d) (c1_of rfl) (Nat.le_of_ble_eq_true rfl) ?_
    intro RA S
    rw [e_R_common] at h
    refine S.2 _ ?_ 700 0 _ _ (ck1_of rfl) h
    intro k ls s h
    replace h := cbr_c h
    rcases h with ⟨hb, h⟩ | ⟨_, h⟩
    · cases beq_t hb
      exact a_R_common_4 S.1 h (n_R_common_4 S gF)
    cases h
  · cases h
set_option maxRecDepth 1000000 in
theorem k_R_drilled : okC 11 I_R_drilled.2.2.1 I_R_drilled.2.1 I_R_drilled.2.2.2.1 [18, 56, 133] K_R_drilled K_R_drilled = true := by decide +kernel
theorem a_R_drilled_10 {z : Int32 × Mem} {RA : Nat → List (Option Value) → Mem → Prop} (hm : ∀ (pc : Nat) (ls ls1 : List (Option Value)) (σ : Mem), ls1.length = I_R_drilled.2.2.1 → (∀ i v, lk ls1 i = some v → lk ls i = some v) → RA pc ls1 σ → RA pc ls σ) {f : Int32 → Int32 → Int32 → Int32 → Mem → Option (Int32 × Mem)} {ls : List (Option Value)} {s : Mem} (h : A_R_drilled_10 f ls s = some z) (hf : ∀ (x1 : Int32) (x2 : Int32) (x3 : Int32) (x4 : Int32) (s : Mem), f x1 x2 x3 x4 s = some z → RA 18 [some (.ref 123), some (.int x1), some (.int x2), some (.int x3), some (.int x4), none] s) : RA 18 ls s := by
  unfold A_R_drilled_10 at h
  split at h
  · rename_i a0 a1 a2 a3 a4 e0 e1 e2 e3 e4
    replace h := cbr_n h
    obtain ⟨hb, h⟩ := h
    cases beq_t hb
    refine hm _ _ [some (.ref 123), some (.int a1), some (.int a2), some (.int a3), some (.int a4), none] _ rfl (fun i v hv => ?_) (hf _ _ _ _ _ h)
    match i, hv with
    | 0, hv => exact e0.trans hv
    | 1, hv => exact e1.trans hv
    | 2, hv => exact e2.trans hv
    | 3, hv => exact e3.trans hv
    | 4, hv => exact e4.trans hv
    | 5, hv => cases hv
    | i + 6, hv => cases hv
  · cases h
theorem a_R_drilled_32 {z : Int32 × Mem} {RA : Nat → List (Option Value) → Mem → Prop} (hm : ∀ (pc : Nat) (ls ls1 : List (Option Value)) (σ : Mem), ls1.length = I_R_drilled.2.2.1 → (∀ i v, lk ls1 i = some v → lk ls i = some v) → RA pc ls1 σ → RA pc ls σ) {f : Int32 → Int32 → Mem → Option (Int32 × Mem)} {ls : List (Option Value)} {s : Mem} (h : A_R_drilled_32 f ls s = some z) (hf : ∀ (x4 : Int32) (x5 : Int32) (s : Mem), f x4 x5 s = some z → RA 56 [some (.ref 123), none, none, none, some (.int x4), some (.int x5)] s) : RA 56 ls s := by
  unfold A_R_drilled_32 at h
  split at h
  · rename_i a0 a1 a2 e0 e1 e2
    replace h := cbr_n h
    obtain ⟨hb, h⟩ := h
    cases beq_t hb
    refine hm _ _ [some (.ref 123), none, none, none, some (.int a1), some (.int a2)] _ rfl (fun i v hv => ?_) (hf _ _ _ h)
    match i, hv with
    | 0, hv => exact e0.trans hv
    | 1, hv => cases hv
    | 2, hv => cases hv
    | 3, hv => cases hv
    | 4, hv => exact e1.trans hv
    | 5, hv => exact e2.trans hv
    | i + 6, hv => cases hv
  · cases h
theorem a_R_drilled_74 {z : Int32 × Mem} {RA : Nat → List (Option Value) → Mem → Prop} (hm : ∀ (pc : Nat) (ls ls1 : List (Option Value)) (σ : Mem), ls1.length = I_R_drilled.2.2.1 → (∀ i v, lk ls1 i = some v → lk ls i = some v) → RA pc ls1 σ → RA pc ls σ) {f : Int32 → Int32 → Mem → Option (Int32 × Mem)} {ls : List (Option Value)} {s : Mem} (h : A_R_drilled_74 f ls s = some z) (hf : ∀ (x4 : Int32) (x5 : Int32) (s : Mem), f x4 x5 s = some z → RA 133 [some (.ref 123), none, none, none, some (.int x4), some (.int x5)] s) : RA 133 ls s := by
  unfold A_R_drilled_74 at h
  split at h
  · rename_i a0 a1 a2 e0 e1 e2
    replace h := cbr_n h
    obtain ⟨hb, h⟩ := h
    cases beq_t hb
    refine hm _ _ [some (.ref 123), none, none, none, some (.int a1), some (.int a2)] _ rfl (fun i v hv => ?_) (hf _ _ _ h)
    match i, hv with
    | 0, hv => exact e0.trans hv
    | 1, hv => cases hv
    | 2, hv => cases hv
    | 3, hv => cases hv
    | 4, hv => exact e1.trans hv
    | 5, hv => exact e2.trans hv
    | i + 6, hv => cases hv
  · cases h
theorem n_R_drilled_32 {z : Int32 × Mem} {RA : Nat → List (Option Value) → Mem → Prop} (S : Sm I_R_drilled C_R_drilled K_R_drilled [18, 56, 133] z RA) : ∀ (n : Nat) (x4 : Int32) (x5 : Int32) (s : Mem), F_R_drilled_32 n x4 x5 s = some z → RA 56 [some (.ref 123), none, none, none, some (.int x4), some (.int x5)] s := by
  intro n
  induction n with
  | zero => intro x4 x5 s h; exact nomatch (show (none : Option (Int32 × Mem)) = some z from h)
  | succ n ih =>
    intro x4 x5 s h
    rw [e_R_drilled_32] at h
    refine S.2 _ ?_ 700 34 _ _ (ck1_of rfl) h
    intro k ls s h
    replace h := cbr_c h
    rcases h with ⟨hb, h⟩ | ⟨_, h⟩
    · cases beq_t hb
      exact a_R_drilled_32 S.1 h ih
    cases h
theorem n_R_drilled_74 {z : Int32 × Mem} {RA : Nat → List (Option Value) → Mem → Prop} (S : Sm I_R_drilled C_R_drilled K_R_drilled [18, 56, 133] z RA) : ∀ (n : Nat) (x4 : Int32) (x5 : Int32) (s : Mem), F_R_drilled_74 n x4 x5 s = some z → RA 133 [some (.ref 123), none, none, none, some (.int x4), some (.int x5)] s := by
  intro n
  induction n with
  | zero => intro x4 x5 s h; exact nomatch (show (none : Option (Int32 × Mem)) = some z from h)
  | succ n ih =>
    intro x4 x5 s h
    rw [e_R_drilled_74] at h
    refine S.2 _ ?_ 700 77 _ _ (ck1_of rfl) h
    intro k ls s h
    replace h := cbr_c h
    rcases h with ⟨hb, h⟩ | ⟨_, h⟩
    · cases beq_t hb
      exact a_R_drilled_74 S.1 h ih
    cases h
theorem n_R_drilled_10 {z : Int32 × Mem} {RA : Nat → List (Option Value) → Mem → Prop} (S : Sm I_R_drilled C_R_drilled K_R_drilled [18, 56, 133] z RA) : ∀ (n : Nat) (x1 : Int32) (x2 : Int32) (x3 : Int32) (x4 : Int32) (s : Mem), F_R_drilled_10 n x1 x2 x3 x4 s = some z → RA 18 [some (.ref 123), some (.int x1), some (.int x2), some (.int x3), some (.int x4), none] s := by
  intro n
  induction n with
  | zero => intro x1 x2 x3 x4 s h; exact nomatch (show (none : Option (Int32 × Mem)) = some z from h)
  | succ n ih =>
    intro x1 x2 x3 x4 s h
    rw [e_R_drilled_10] at h
    refine S.2 _ ?_ 700 11 _ _ (ck1_of rfl) h
    intro k ls s h
    replace h := cbr_c h
    rcases h with ⟨hb, h⟩ | ⟨_, h⟩
    · cases beq_t hb
      exact a_R_drilled_10 S.1 h ih
    replace h := cbr_c h
    rcases h with ⟨hb, h⟩ | ⟨_, h⟩
    · cases beq_t hb
      exact a_R_drilled_32 S.1 h (n_R_drilled_32 S gF)
    replace h := cbr_c h
    rcases h with ⟨hb, h⟩ | ⟨_, h⟩
    · cases beq_t hb
      exact a_R_drilled_74 S.1 h (n_R_drilled_74 S gF)
    cases h
theorem l_R_drilled (d : Nat) (k : Nat) (av : List Value) (s : Mem) (y : Int32 × Mem) (h : C_R_drilled k av s = some y) : Ctr (d + 1) (mtab k) av s y ∧ ((mtab k).2.2.2.2.2 = 77 → ∃ b rest, av = .ref b :: rest ∧ (b = 1001 ∨ b = 1002)) := by
  unfold C_R_drilled at h
  replace h := cbr_c h
  rcases h with ⟨hb, h⟩ | ⟨_, h⟩
  · cases beq_t hb
    exact ⟨c_R_isIn h (d + 0), fun q => absurd q (by decide)⟩
  replace h := cbr_c h
  rcases h with ⟨hb, h⟩ | ⟨_, h⟩
  · cases beq_t hb
    exact ⟨c_R_roundOf h (d + 0), fun q => absurd q (by decide)⟩
  replace h := cbr_c h
  rcases h with ⟨hb, h⟩ | ⟨_, h⟩
  · cases beq_t hb
    exact ⟨c_R_common h (d + 0), fun q => absurd q (by decide)⟩
  cases h
theorem c_R_drilled {av : List Value} {s : Mem} {z : Int32 × Mem} (h : A_R_drilled av s = some z) (d : Nat) : Ctr (d + 2) I_R_drilled av s z := by
  unfold A_R_drilled at h
  split at h
  · replace h := cbr_n h
    obtain ⟨hb, h⟩ := h
    cases beq_t hb
    refine ctr_of (d := d + 1) (own := 11) (kps := [18, 56, 133]) (code := K_R_drilled) (Cl := C_R_drilled) o_R_drilled rfl (by decide) k_R_drilled (l_R_drilled d) (c1_of rfl) (Nat.le_of_ble_eq_true rfl) ?_
    intro RA S
    rw [e_R_drilled] at h
    refine S.2 _ ?_ 700 0 _ _ (ck1_of rfl) h
    intro k ls s h
    replace h := cbr_c h
    rcases h with ⟨hb, h⟩ | ⟨_, h⟩
    · cases beq_t hb
      exact a_R_drilled_10 S.1 h (n_R_drilled_10 S gF)
    cases h
  · cases h
set_option maxRecDepth 1000000 in
theorem k_R_between : okC 11 I_R_between.2.2.1 I_R_between.2.1 I_R_between.2.2.2.1 [152] K_R_between K_R_between = true := by decide +kernel
theorem a_R_between_81 {z : Int32 × Mem} {RA : Nat → List (Option Value) → Mem → Prop} (hm : ∀ (pc : Nat) (ls ls1 : List (Option Value)) (σ : Mem), ls1.length = I_R_between.2.2.1 → (∀ i v, lk ls1 i = some v → lk ls i = some v) → RA pc ls1 σ → RA pc ls σ) {f : Int32 → Int32 → Int32 → Int32 → Int32 → Mem → Option (Int32 × Mem)} {ls : List (Option Value)} {s : Mem} (h : A_R_between_81 f ls s = some z) (hf : ∀ (x8 : Int32) (x9 : Int32) (x10 : Int32) (x11 : Int32) (x12 : Int32) (s : Mem), f x8 x9 x10 x11 x12 s = some z → RA 152 [none, none, none, none, none, none, none, none, some (.int x8), some (.int x9), some (.int x10), some (.int x11), some (.int x12)] s) : RA 152 ls s := by
  unfold A_R_between_81 at h
  split at h
  · rename_i a0 a1 a2 a3 a4 e0 e1 e2 e3 e4
    refine hm _ _ [none, none, none, none, none, none, none, none, some (.int a0), some (.int a1), some (.int a2), some (.int a3), some (.int a4)] _ rfl (fun i v hv => ?_) (hf _ _ _ _ _ _ h)
    match i, hv with
    | 0, hv => cases hv
    | 1, hv => cases hv
    | 2, hv => cases hv
    | 3, hv => cases hv
    | 4, hv => cases hv
    | 5, hv => cases hv
    | 6, hv => cases hv
    | 7, hv => cases hv
    | 8, hv => exact e0.trans hv
    | 9, hv => exact e1.trans hv
    | 10, hv => exact e2.trans hv
    | 11, hv => exact e3.trans hv
    | 12, hv => exact e4.trans hv
    | i + 13, hv => cases hv
  · cases h
theorem n_R_between_81 {z : Int32 × Mem} {RA : Nat → List (Option Value) → Mem → Prop} (S : Sm I_R_between C_R_between K_R_between [152] z RA) : ∀ (n : Nat) (x8 : Int32) (x9 : Int32) (x10 : Int32) (x11 : Int32) (x12 : Int32) (s : Mem), F_R_between_81 n x8 x9 x10 x11 x12 s = some z → RA 152 [none, none, none, none, none, none, none, none, some (.int x8), some (.int x9), some (.int x10), some (.int x11), some (.int x12)] s := by
  intro n
  induction n with
  | zero => intro x8 x9 x10 x11 x12 s h; exact nomatch (show (none : Option (Int32 × Mem)) = some z from h)
  | succ n ih =>
    intro x8 x9 x10 x11 x12 s h
    rw [e_R_between_81] at h
    refine S.2 _ ?_ 700 82 _ _ (ck1_of rfl) h
    intro k ls s h
    replace h := cbr_c h
    rcases h with ⟨hb, h⟩ | ⟨_, h⟩
    · cases beq_t hb
      exact a_R_between_81 S.1 h ih
    cases h
theorem l_R_between (d : Nat) (k : Nat) (av : List Value) (s : Mem) (y : Int32 × Mem) (h : C_R_between k av s = some y) : Ctr (d + 1) (mtab k) av s y ∧ ((mtab k).2.2.2.2.2 = 77 → ∃ b rest, av = .ref b :: rest ∧ (b = 1001 ∨ b = 1002)) := by
  unfold C_R_between at h
  replace h := cbr_c h
  rcases h with ⟨hb, h⟩ | ⟨_, h⟩
  · cases beq_t hb
    exact ⟨c_R_isIn h (d + 0), fun q => absurd q (by decide)⟩
  cases h
theorem c_R_between {av : List Value} {s : Mem} {z : Int32 × Mem} (h : A_R_between av s = some z) (d : Nat) : Ctr (d + 2) I_R_between av s z := by
  unfold A_R_between at h
  split at h
  · replace h := cbr_n h
    obtain ⟨hb, h⟩ := h
    cases beq_t hb
    refine ctr_of (d := d + 1) (own := 11) (kps := [152]) (code := K_R_between) (Cl := C_R_between) o_R_between rfl (by decide) k_R_between (l_R_between d) (c1_of rfl) (Nat.le_of_ble_eq_true rfl) ?_
    intro RA S
    rw [e_R_between] at h
    refine S.2 _ ?_ 700 0 _ _ (ck1_of rfl) h
    intro k ls s h
    replace h := cbr_c h
    rcases h with ⟨hb, h⟩ | ⟨_, h⟩
    · cases beq_t hb
      exact a_R_between_81 S.1 h (n_R_between_81 S gF)
    cases h
  · cases h
set_option maxRecDepth 1000000 in
theorem k_R_walksSpiral : okC 11 I_R_walksSpiral.2.2.1 I_R_walksSpiral.2.1 I_R_walksSpiral.2.2.2.1 [22] K_R_walksSpiral K_R_walksSpiral = true := by decide +kernel
theorem a_R_walksSpiral_14 {z : Int32 × Mem} {RA : Nat → List (Option Value) → Mem → Prop} (hm : ∀ (pc : Nat) (ls ls1 : List (Option Value)) (σ : Mem), ls1.length = I_R_walksSpiral.2.2.1 → (∀ i v, lk ls1 i = some v → lk ls i = some v) → RA pc ls1 σ → RA pc ls σ) {f : Int32 → Int32 → Int32 → Int32 → Int32 → Int32 → Int32 → Mem → Option (Int32 × Mem)} {ls : List (Option Value)} {s : Mem} (h : A_R_walksSpiral_14 f ls s = some z) (hf : ∀ (x1 : Int32) (x2 : Int32) (x3 : Int32) (x4 : Int32) (x5 : Int32) (x6 : Int32) (x7 : Int32) (s : Mem), f x1 x2 x3 x4 x5 x6 x7 s = some z → RA 22 [some (.ref 123), some (.int x1), some (.int x2), some (.int x3), some (.int x4), some (.int x5), some (.int x6), some (.int x7)] s) : RA 22 ls s := by
  unfold A_R_walksSpiral_14 at h
  split at h
  · rename_i a0 a1 a2 a3 a4 a5 a6 a7 e0 e1 e2 e3 e4 e5 e6 e7
    replace h := cbr_n h
    obtain ⟨hb, h⟩ := h
    cases beq_t hb
    refine hm _ _ [some (.ref 123), some (.int a1), some (.int a2), some (.int a3), some (.int a4), some (.int a5), some (.int a6), some (.int a7)] _ rfl (fun i v hv => ?_) (hf _ _ _ _ _ _ _ _ h)
    match i, hv with
    | 0, hv => exact e0.trans hv
    | 1, hv => exact e1.trans hv
    | 2, hv => exact e2.trans hv
    | 3, hv => exact e3.trans hv
    | 4, hv => exact e4.trans hv
    | 5, hv => exact e5.trans hv
    | 6, hv => exact e6.trans hv
    | 7, hv => exact e7.trans hv
    | i + 8, hv => cases hv
  · cases h
theorem n_R_walksSpiral_14 {z : Int32 × Mem} {RA : Nat → List (Option Value) → Mem → Prop} (S : Sm I_R_walksSpiral C_R_walksSpiral K_R_walksSpiral [22] z RA) : ∀ (n : Nat) (x1 : Int32) (x2 : Int32) (x3 : Int32) (x4 : Int32) (x5 : Int32) (x6 : Int32) (x7 : Int32) (s : Mem), F_R_walksSpiral_14 n x1 x2 x3 x4 x5 x6 x7 s = some z → RA 22 [some (.ref 123), some (.int x1), some (.int x2), some (.int x3), some (.int x4), some (.int x5), some (.int x6), some (.int x7)] s := by
  intro n
  induction n with
  | zero => intro x1 x2 x3 x4 x5 x6 x7 s h; exact nomatch (show (none : Option (Int32 × Mem)) = some z from h)
  | succ n ih =>
    intro x1 x2 x3 x4 x5 x6 x7 s h
    rw [e_R_walksSpiral_14] at h
    refine S.2 _ ?_ 700 15 _ _ (ck1_of rfl) h
    intro k ls s h
    replace h := cbr_c h
    rcases h with ⟨hb, h⟩ | ⟨_, h⟩
    · cases beq_t hb
      exact a_R_walksSpiral_14 S.1 h ih
    cases h
theorem l_R_walksSpiral (d : Nat) (k : Nat) (av : List Value) (s : Mem) (y : Int32 × Mem) (h : C_R_walksSpiral k av s = some y) : Ctr (d + 0) (mtab k) av s y ∧ ((mtab k).2.2.2.2.2 = 77 → ∃ b rest, av = .ref b :: rest ∧ (b = 1001 ∨ b = 1002)) := by
  exact nomatch (show (none : Option (Int32 × Mem)) = some y from h)
theorem c_R_walksSpiral {av : List Value} {s : Mem} {z : Int32 × Mem} (h : A_R_walksSpiral av s = some z) (d : Nat) : Ctr (d + 1) I_R_walksSpiral av s z := by
  unfold A_R_walksSpiral at h
  split at h
  · replace h := cbr_n h
    obtain ⟨hb, h⟩ := h
    cases beq_t hb
    refine ctr_of (d := d + 0) (own := 11) (kps := [22]) (code := K_R_walksSpiral) (Cl := C_R_walksSpiral) o_R_walksSpiral rfl (by decide) k_R_walksSpiral (l_R_walksSpiral d) (c1_of rfl) (Nat.le_of_ble_eq_true rfl) ?_
    intro RA S
    rw [e_R_walksSpiral] at h
    refine S.2 _ ?_ 700 0 _ _ (ck1_of rfl) h
    intro k ls s h
    replace h := cbr_c h
    rcases h with ⟨hb, h⟩ | ⟨_, h⟩
    · cases beq_t hb
      exact a_R_walksSpiral_14 S.1 h (n_R_walksSpiral_14 S gF)
    cases h
  · cases h
set_option maxRecDepth 1000000 in
theorem k_R_spiral : okC 11 I_R_spiral.2.2.1 I_R_spiral.2.1 I_R_spiral.2.2.2.1 [] K_R_spiral K_R_spiral = true := by decide +kernel
theorem l_R_spiral (d : Nat) (k : Nat) (av : List Value) (s : Mem) (y : Int32 × Mem) (h : C_R_spiral k av s = some y) : Ctr (d + 1) (mtab k) av s y ∧ ((mtab k).2.2.2.2.2 = 77 → ∃ b rest, av = .ref b :: rest ∧ (b = 1001 ∨ b = 1002)) := by
  unfold C_R_spiral at h
  replace h := cbr_c h
  rcases h with ⟨hb, h⟩ | ⟨_, h⟩
  · cases beq_t hb
    exact ⟨c_R_isIn h (d + 0), fun q => absurd q (by decide)⟩
  replace h := cbr_c h
  rcases h with ⟨hb, h⟩ | ⟨_, h⟩
  · cases beq_t hb
    exact ⟨c_R_walksSpiral h (d + 0), fun q => absurd q (by decide)⟩
  cases h
theorem c_R_spiral {av : List Value} {s : Mem} {z : Int32 × Mem} (h : A_R_spiral av s = some z) (d : Nat) : Ctr (d + 2) I_R_spiral av s z := by
  unfold A_R_spiral at h
  split at h
  · replace h := cbr_n h
    obtain ⟨hb, h⟩ := h
    cases beq_t hb
    refine ctr_of (d := d + 1) (own := 11) (kps := []) (code := K_R_spiral) (Cl := C_R_spiral) o_R_spiral rfl (by decide) k_R_spiral (l_R_spiral d) (c1_of rfl) (Nat.le_of_ble_eq_true rfl) ?_
    intro RA S
    rw [e_R_spiral] at h
    refine S.2 _ ?_ 700 0 _ _ (ck1_of rfl) h
    intro k ls s h
    cases h
  · cases h
set_option maxRecDepth 1000000 in
theorem k_R_winds : okC 11 I_R_winds.2.2.1 I_R_winds.2.1 I_R_winds.2.2.2.1 [] K_R_winds K_R_winds = true := by decide +kernel
theorem l_R_winds (d : Nat) (k : Nat) (av : List Value) (s : Mem) (y : Int32 × Mem) (h : C_R_winds k av s = some y) : Ctr (d + 1) (mtab k) av s y ∧ ((mtab k).2.2.2.2.2 = 77 → ∃ b rest, av = .ref b :: rest ∧ (b = 1001 ∨ b = 1002)) := by
  unfold C_R_winds at h
  replace h := cbr_c h
  rcases h with ⟨hb, h⟩ | ⟨_, h⟩
  · cases beq_t hb
    exact ⟨c_R_isIn h (d + 0), fun q => absurd q (by decide)⟩
  replace h := cbr_c h
  rcases h with ⟨hb, h⟩ | ⟨_, h⟩
  · cases beq_t hb
    exact ⟨c_R_walksSpiral h (d + 0), fun q => absurd q (by decide)⟩
  cases h
theorem c_R_winds {av : List Value} {s : Mem} {z : Int32 × Mem} (h : A_R_winds av s = some z) (d : Nat) : Ctr (d + 2) I_R_winds av s z := by
  unfold A_R_winds at h
  split at h
  · replace h := cbr_n h
    obtain ⟨hb, h⟩ := h
    cases beq_t hb
    refine ctr_of (d := d + 1) (own := 11) (kps := []) (code := K_R_winds) (Cl := C_R_winds) o_R_winds rfl (by decide) k_R_winds (l_R_winds d) (c1_of rfl) (Nat.le_of_ble_eq_true rfl) ?_
    intro RA S
    rw [e_R_winds] at h
    refine S.2 _ ?_ 700 0 _ _ (ck1_of rfl) h
    intro k ls s h
    cases h
  · cases h
set_option maxRecDepth 1000000 in
theorem k_R_calls : okC 11 I_R_calls.2.2.1 I_R_calls.2.1 I_R_calls.2.2.2.1 [] K_R_calls K_R_calls = true := by decide +kernel
theorem l_R_calls (d : Nat) (k : Nat) (av : List Value) (s : Mem) (y : Int32 × Mem) (h : C_R_calls k av s = some y) : Ctr (d + 1) (mtab k) av s y ∧ ((mtab k).2.2.2.2.2 = 77 → ∃ b rest, av = .ref b :: rest ∧ (b = 1001 ∨ b = 1002)) := by
  unfold C_R_calls at h
  replace h := cbr_c h
  rcases h with ⟨hb, h⟩ | ⟨_, h⟩
  · cases beq_t hb
    exact ⟨c_R_isIn h (d + 0), fun q => absurd q (by decide)⟩
  cases h
theorem c_R_calls {av : List Value} {s : Mem} {z : Int32 × Mem} (h : A_R_calls av s = some z) (d : Nat) : Ctr (d + 2) I_R_calls av s z := by
  unfold A_R_calls at h
  split at h
  · replace h := cbr_n h
    obtain ⟨hb, h⟩ := h
    cases beq_t hb
    refine ctr_of (d := d + 1) (own := 11) (kps := []) (code := K_R_calls) (Cl := C_R_calls) o_R_calls rfl (by decide) k_R_calls (l_R_calls d) (c1_of rfl) (Nat.le_of_ble_eq_true rfl) ?_
    intro RA S
    rw [e_R_calls] at h
    refine S.2 _ ?_ 700 0 _ _ (ck1_of rfl) h
    intro k ls s h
    cases h
  · cases h
set_option maxRecDepth 1000000 in
theorem k_R_missing : okC 11 I_R_missing.2.2.1 I_R_missing.2.1 I_R_missing.2.2.2.1 [12, 54] K_R_missing K_R_missing = true := by decide +kernel
theorem a_R_missing_9 {z : Int32 × Mem} {RA : Nat → List (Option Value) → Mem → Prop} (hm : ∀ (pc : Nat) (ls ls1 : List (Option Value)) (σ : Mem), ls1.length = I_R_missing.2.2.1 → (∀ i v, lk ls1 i = some v → lk ls i = some v) → RA pc ls1 σ → RA pc ls σ) {f : Int32 → Int32 → Int32 → Int32 → Mem → Option (Int32 × Mem)} {ls : List (Option Value)} {s : Mem} (h : A_R_missing_9 f ls s = some z) (hf : ∀ (x1 : Int32) (x2 : Int32) (x3 : Int32) (x4 : Int32) (s : Mem), f x1 x2 x3 x4 s = some z → RA 12 [some (.ref 123), some (.int x1), some (.int x2), some (.int x3), some (.int x4)] s) : RA 12 ls s := by
  unfold A_R_missing_9 at h
  split at h
  · rename_i a0 a1 a2 a3 a4 e0 e1 e2 e3 e4
    replace h := cbr_n h
    obtain ⟨hb, h⟩ := h
    cases beq_t hb
    refine hm _ _ [some (.ref 123), some (.int a1), some (.int a2), some (.int a3), some (.int a4)] _ rfl (fun i v hv => ?_) (hf _ _ _ _ _ h)
    match i, hv with
    | 0, hv => exact e0.trans hv
    | 1, hv => exact e1.trans hv
    | 2, hv => exact e2.trans hv
    | 3, hv => exact e3.trans hv
    | 4, hv => exact e4.trans hv
    | i + 5, hv => cases hv
  · cases h
theorem a_R_missing_35 {z : Int32 × Mem} {RA : Nat → List (Option Value) → Mem → Prop} (hm : ∀ (pc : Nat) (ls ls1 : List (Option Value)) (σ : Mem), ls1.length = I_R_missing.2.2.1 → (∀ i v, lk ls1 i = some v → lk ls i = some v) → RA pc ls1 σ → RA pc ls σ) {f : Int32 → Int32 → Int32 → Int32 → Mem → Option (Int32 × Mem)} {ls : List (Option Value)} {s : Mem} (h : A_R_missing_35 f ls s = some z) (hf : ∀ (x1 : Int32) (x2 : Int32) (x3 : Int32) (x4 : Int32) (s : Mem), f x1 x2 x3 x4 s = some z → RA 54 [some (.ref 123), some (.int x1), some (.int x2), some (.int x3), some (.int x4)] s) : RA 54 ls s := by
  unfold A_R_missing_35 at h
  split at h
  · rename_i a0 a1 a2 a3 a4 e0 e1 e2 e3 e4
    replace h := cbr_n h
    obtain ⟨hb, h⟩ := h
    cases beq_t hb
    refine hm _ _ [some (.ref 123), some (.int a1), some (.int a2), some (.int a3), some (.int a4)] _ rfl (fun i v hv => ?_) (hf _ _ _ _ _ h)
    match i, hv with
    | 0, hv => exact e0.trans hv
    | 1, hv => exact e1.trans hv
    | 2, hv => exact e2.trans hv
    | 3, hv => exact e3.trans hv
    | 4, hv => exact e4.trans hv
    | i + 5, hv => cases hv
  · cases h
theorem n_R_missing_35 {z : Int32 × Mem} {RA : Nat → List (Option Value) → Mem → Prop} (S : Sm I_R_missing C_R_missing K_R_missing [12, 54] z RA) : ∀ (n : Nat) (x1 : Int32) (x2 : Int32) (x3 : Int32) (x4 : Int32) (s : Mem), F_R_missing_35 n x1 x2 x3 x4 s = some z → RA 54 [some (.ref 123), some (.int x1), some (.int x2), some (.int x3), some (.int x4)] s := by
  intro n
  induction n with
  | zero => intro x1 x2 x3 x4 s h; exact nomatch (show (none : Option (Int32 × Mem)) = some z from h)
  | succ n ih =>
    intro x1 x2 x3 x4 s h
    rw [e_R_missing_35] at h
    refine S.2 _ ?_ 700 37 _ _ (ck1_of rfl) h
    intro k ls s h
    replace h := cbr_c h
    rcases h with ⟨hb, h⟩ | ⟨_, h⟩
    · cases beq_t hb
      exact a_R_missing_35 S.1 h ih
    cases h
theorem n_R_missing_9 {z : Int32 × Mem} {RA : Nat → List (Option Value) → Mem → Prop} (S : Sm I_R_missing C_R_missing K_R_missing [12, 54] z RA) : ∀ (n : Nat) (x1 : Int32) (x2 : Int32) (x3 : Int32) (x4 : Int32) (s : Mem), F_R_missing_9 n x1 x2 x3 x4 s = some z → RA 12 [some (.ref 123), some (.int x1), some (.int x2), some (.int x3), some (.int x4)] s := by
  intro n
  induction n with
  | zero => intro x1 x2 x3 x4 s h; exact nomatch (show (none : Option (Int32 × Mem)) = some z from h)
  | succ n ih =>
    intro x1 x2 x3 x4 s h
    rw [e_R_missing_9] at h
    refine S.2 _ ?_ 700 10 _ _ (ck1_of rfl) h
    intro k ls s h
    replace h := cbr_c h
    rcases h with ⟨hb, h⟩ | ⟨_, h⟩
    · cases beq_t hb
      exact a_R_missing_9 S.1 h ih
    replace h := cbr_c h
    rcases h with ⟨hb, h⟩ | ⟨_, h⟩
    · cases beq_t hb
      exact a_R_missing_35 S.1 h (n_R_missing_35 S gF)
    cases h
theorem l_R_missing (d : Nat) (k : Nat) (av : List Value) (s : Mem) (y : Int32 × Mem) (h : C_R_missing k av s = some y) : Ctr (d + 1) (mtab k) av s y ∧ ((mtab k).2.2.2.2.2 = 77 → ∃ b rest, av = .ref b :: rest ∧ (b = 1001 ∨ b = 1002)) := by
  unfold C_R_missing at h
  replace h := cbr_c h
  rcases h with ⟨hb, h⟩ | ⟨_, h⟩
  · cases beq_t hb
    exact ⟨c_R_has h (d + 0), fun q => absurd q (by decide)⟩
  replace h := cbr_c h
  rcases h with ⟨hb, h⟩ | ⟨_, h⟩
  · cases beq_t hb
    exact ⟨c_R_onesOf h (d + 0), fun q => absurd q (by decide)⟩
  cases h
theorem c_R_missing {av : List Value} {s : Mem} {z : Int32 × Mem} (h : A_R_missing av s = some z) (d : Nat) : Ctr (d + 2) I_R_missing av s z := by
  unfold A_R_missing at h
  split at h
  · replace h := cbr_n h
    obtain ⟨hb, h⟩ := h
    cases beq_t hb
    refine ctr_of (d := d + 1) (own := 11) (kps := [12, 54]) (code := K_R_missing) (Cl := C_R_missing) o_R_missing rfl (by decide) k_R_missing (l_R_missing d) (c1_of rfl) (Nat.le_of_ble_eq_true rfl) ?_
    intro RA S
    rw [e_R_missing] at h
    refine S.2 _ ?_ 700 0 _ _ (ck1_of rfl) h
    intro k ls s h
    replace h := cbr_c h
    rcases h with ⟨hb, h⟩ | ⟨_, h⟩
    · cases beq_t hb
      exact a_R_missing_9 S.1 h (n_R_missing_9 S gF)
    cases h
  · cases h
set_option maxRecDepth 1000000 in
theorem k_R_length : okC 11 I_R_length.2.2.1 I_R_length.2.1 I_R_length.2.2.2.1 [] K_R_length K_R_length = true := by decide +kernel
theorem l_R_length (d : Nat) (k : Nat) (av : List Value) (s : Mem) (y : Int32 × Mem) (h : C_R_length k av s = some y) : Ctr (d + 1) (mtab k) av s y ∧ ((mtab k).2.2.2.2.2 = 77 → ∃ b rest, av = .ref b :: rest ∧ (b = 1001 ∨ b = 1002)) := by
  unfold C_R_length at h
  replace h := cbr_c h
  rcases h with ⟨hb, h⟩ | ⟨_, h⟩
  · cases beq_t hb
    exact ⟨c_R_isIn h (d + 0), fun q => absurd q (by decide)⟩
  cases h
theorem c_R_length {av : List Value} {s : Mem} {z : Int32 × Mem} (h : A_R_length av s = some z) (d : Nat) : Ctr (d + 2) I_R_length av s z := by
  unfold A_R_length at h
  split at h
  · replace h := cbr_n h
    obtain ⟨hb, h⟩ := h
    cases beq_t hb
    refine ctr_of (d := d + 1) (own := 11) (kps := []) (code := K_R_length) (Cl := C_R_length) o_R_length rfl (by decide) k_R_length (l_R_length d) (c1_of rfl) (Nat.le_of_ble_eq_true rfl) ?_
    intro RA S
    rw [e_R_length] at h
    refine S.2 _ ?_ 700 0 _ _ (ck1_of rfl) h
    intro k ls s h
    cases h
  · cases h
set_option maxRecDepth 1000000 in
theorem k_R_usedOf : okC 11 I_R_usedOf.2.2.1 I_R_usedOf.2.1 I_R_usedOf.2.2.2.1 [10] K_R_usedOf K_R_usedOf = true := by decide +kernel
theorem a_R_usedOf_8 {z : Int32 × Mem} {RA : Nat → List (Option Value) → Mem → Prop} (hm : ∀ (pc : Nat) (ls ls1 : List (Option Value)) (σ : Mem), ls1.length = I_R_usedOf.2.2.1 → (∀ i v, lk ls1 i = some v → lk ls i = some v) → RA pc ls1 σ → RA pc ls σ) {f : Int32 → Int32 → Int32 → Mem → Option (Int32 × Mem)} {ls : List (Option Value)} {s : Mem} (h : A_R_usedOf_8 f ls s = some z) (hf : ∀ (x1 : Int32) (x2 : Int32) (x3 : Int32) (s : Mem), f x1 x2 x3 s = some z → RA 10 [some (.ref 123), some (.int x1), some (.int x2), some (.int x3)] s) : RA 10 ls s := by
  unfold A_R_usedOf_8 at h
  split at h
  · rename_i a0 a1 a2 a3 e0 e1 e2 e3
    replace h := cbr_n h
    obtain ⟨hb, h⟩ := h
    cases beq_t hb
    refine hm _ _ [some (.ref 123), some (.int a1), some (.int a2), some (.int a3)] _ rfl (fun i v hv => ?_) (hf _ _ _ _ h)
    match i, hv with
    | 0, hv => exact e0.trans hv
    | 1, hv => exact e1.trans hv
    | 2, hv => exact e2.trans hv
    | 3, hv => exact e3.trans hv
    | i + 4, hv => cases hv
  · cases h
theorem n_R_usedOf_8 {z : Int32 × Mem} {RA : Nat → List (Option Value) → Mem → Prop} (S : Sm I_R_usedOf C_R_usedOf K_R_usedOf [10] z RA) : ∀ (n : Nat) (x1 : Int32) (x2 : Int32) (x3 : Int32) (s : Mem), F_R_usedOf_8 n x1 x2 x3 s = some z → RA 10 [some (.ref 123), some (.int x1), some (.int x2), some (.int x3)] s := by
  intro n
  induction n with
  | zero => intro x1 x2 x3 s h; exact nomatch (show (none : Option (Int32 × Mem)) = some z from h)
  | succ n ih =>
    intro x1 x2 x3 s h
    rw [e_R_usedOf_8] at h
    refine S.2 _ ?_ 700 9 _ _ (ck1_of rfl) h
    intro k ls s h
    replace h := cbr_c h
    rcases h with ⟨hb, h⟩ | ⟨_, h⟩
    · cases beq_t hb
      exact a_R_usedOf_8 S.1 h ih
    cases h
theorem l_R_usedOf (d : Nat) (k : Nat) (av : List Value) (s : Mem) (y : Int32 × Mem) (h : C_R_usedOf k av s = some y) : Ctr (d + 1) (mtab k) av s y ∧ ((mtab k).2.2.2.2.2 = 77 → ∃ b rest, av = .ref b :: rest ∧ (b = 1001 ∨ b = 1002)) := by
  unfold C_R_usedOf at h
  replace h := cbr_c h
  rcases h with ⟨hb, h⟩ | ⟨_, h⟩
  · cases beq_t hb
    exact ⟨c_R_onesOf h (d + 0), fun q => absurd q (by decide)⟩
  replace h := cbr_c h
  rcases h with ⟨hb, h⟩ | ⟨_, h⟩
  · cases beq_t hb
    exact ⟨c_R_has h (d + 0), fun q => absurd q (by decide)⟩
  cases h
theorem c_R_usedOf {av : List Value} {s : Mem} {z : Int32 × Mem} (h : A_R_usedOf av s = some z) (d : Nat) : Ctr (d + 2) I_R_usedOf av s z := by
  unfold A_R_usedOf at h
  split at h
  · replace h := cbr_n h
    obtain ⟨hb, h⟩ := h
    cases beq_t hb
    refine ctr_of (d := d + 1) (own := 11) (kps := [10]) (code := K_R_usedOf) (Cl := C_R_usedOf) o_R_usedOf rfl (by decide) k_R_usedOf (l_R_usedOf d) (c1_of rfl) (Nat.le_of_ble_eq_true rfl) ?_
    intro RA S
    rw [e_R_usedOf] at h
    refine S.2 _ ?_ 700 0 _ _ (ck1_of rfl) h
    intro k ls s h
    replace h := cbr_c h
    rcases h with ⟨hb, h⟩ | ⟨_, h⟩
    · cases beq_t hb
      exact a_R_usedOf_8 S.1 h (n_R_usedOf_8 S gF)
    cases h
  · cases h
set_option maxRecDepth 1000000 in
theorem k_R_findsRolls : okC 11 I_R_findsRolls.2.2.1 I_R_findsRolls.2.1 I_R_findsRolls.2.2.2.1 [9, 41] K_R_findsRolls K_R_findsRolls = true := by decide +kernel
theorem a_R_findsRolls_7 {z : Int32 × Mem} {RA : Nat → List (Option Value) → Mem → Prop} (hm : ∀ (pc : Nat) (ls ls1 : List (Option Value)) (σ : Mem), ls1.length = I_R_findsRolls.2.2.1 → (∀ i v, lk ls1 i = some v → lk ls i = some v) → RA pc ls1 σ → RA pc ls σ) {f : Int32 → Int32 → Mem → Option (Int32 × Mem)} {ls : List (Option Value)} {s : Mem} (h : A_R_findsRolls_7 f ls s = some z) (hf : ∀ (x1 : Int32) (x2 : Int32) (s : Mem), f x1 x2 s = some z → RA 9 [some (.ref 123), some (.int x1), some (.int x2), none] s) : RA 9 ls s := by
  unfold A_R_findsRolls_7 at h
  split at h
  · rename_i a0 a1 a2 e0 e1 e2
    replace h := cbr_n h
    obtain ⟨hb, h⟩ := h
    cases beq_t hb
    refine hm _ _ [some (.ref 123), some (.int a1), some (.int a2), none] _ rfl (fun i v hv => ?_) (hf _ _ _ h)
    match i, hv with
    | 0, hv => exact e0.trans hv
    | 1, hv => exact e1.trans hv
    | 2, hv => exact e2.trans hv
    | 3, hv => cases hv
    | i + 4, hv => cases hv
  · cases h
theorem a_R_findsRolls_27 {z : Int32 × Mem} {RA : Nat → List (Option Value) → Mem → Prop} (hm : ∀ (pc : Nat) (ls ls1 : List (Option Value)) (σ : Mem), ls1.length = I_R_findsRolls.2.2.1 → (∀ i v, lk ls1 i = some v → lk ls i = some v) → RA pc ls1 σ → RA pc ls σ) {f : Int32 → Int32 → Int32 → Mem → Option (Int32 × Mem)} {ls : List (Option Value)} {s : Mem} (h : A_R_findsRolls_27 f ls s = some z) (hf : ∀ (x1 : Int32) (x2 : Int32) (x3 : Int32) (s : Mem), f x1 x2 x3 s = some z → RA 41 [some (.ref 123), some (.int x1), some (.int x2), some (.int x3)] s) : RA 41 ls s := by
  unfold A_R_findsRolls_27 at h
  split at h
  · rename_i a0 a1 a2 a3 e0 e1 e2 e3
    replace h := cbr_n h
    obtain ⟨hb, h⟩ := h
    cases beq_t hb
    refine hm _ _ [some (.ref 123), some (.int a1), some (.int a2), some (.int a3)] _ rfl (fun i v hv => ?_) (hf _ _ _ _ h)
    match i, hv with
    | 0, hv => exact e0.trans hv
    | 1, hv => exact e1.trans hv
    | 2, hv => exact e2.trans hv
    | 3, hv => exact e3.trans hv
    | i + 4, hv => cases hv
  · cases h
theorem n_R_findsRolls_27 {z : Int32 × Mem} {RA : Nat → List (Option Value) → Mem → Prop} (S : Sm I_R_findsRolls C_R_findsRolls K_R_findsRolls [9, 41] z RA) {k7 : Int32 → Int32 → Mem → Option (Int32 × Mem)} (hk7 : ∀ (x1 : Int32) (x2 : Int32) (s : Mem), k7 x1 x2 s = some z → RA 9 [some (.ref 123), some (.int x1), some (.int x2), none] s) : ∀ (n : Nat) (x1 : Int32) (x2 : Int32) (x3 : Int32) (s : Mem), F_R_findsRolls_27 k7 n x1 x2 x3 s = some z → RA 41 [some (.ref 123), some (.int x1), some (.int x2), some (.int x3)] s := by
  intro n
  induction n with
  | zero => intro x1 x2 x3 s h; exact nomatch (show (none : Option (Int32 × Mem)) = some z from h)
  | succ n ih =>
    intro x1 x2 x3 s h
    rw [e_R_findsRolls_27] at h
    refine S.2 _ ?_ 700 29 _ _ (ck1_of rfl) h
    intro k ls s h
    replace h := cbr_c h
    rcases h with ⟨hb, h⟩ | ⟨_, h⟩
    · cases beq_t hb
      exact a_R_findsRolls_7 S.1 h hk7
    replace h := cbr_c h
    rcases h with ⟨hb, h⟩ | ⟨_, h⟩
    · cases beq_t hb
      exact a_R_findsRolls_27 S.1 h ih
    cases h
theorem n_R_findsRolls_7 {z : Int32 × Mem} {RA : Nat → List (Option Value) → Mem → Prop} (S : Sm I_R_findsRolls C_R_findsRolls K_R_findsRolls [9, 41] z RA) : ∀ (n : Nat) (x1 : Int32) (x2 : Int32) (s : Mem), F_R_findsRolls_7 n x1 x2 s = some z → RA 9 [some (.ref 123), some (.int x1), some (.int x2), none] s := by
  intro n
  induction n with
  | zero => intro x1 x2 s h; exact nomatch (show (none : Option (Int32 × Mem)) = some z from h)
  | succ n ih =>
    intro x1 x2 s h
    rw [e_R_findsRolls_7] at h
    refine S.2 _ ?_ 700 8 _ _ (ck1_of rfl) h
    intro k ls s h
    replace h := cbr_c h
    rcases h with ⟨hb, h⟩ | ⟨_, h⟩
    · cases beq_t hb
      exact a_R_findsRolls_27 S.1 h (n_R_findsRolls_27 S ih gF)
    cases h
theorem l_R_findsRolls (d : Nat) (k : Nat) (av : List Value) (s : Mem) (y : Int32 × Mem) (h : C_R_findsRolls k av s = some y) : Ctr (d + 2) (mtab k) av s y ∧ ((mtab k).2.2.2.2.2 = 77 → ∃ b rest, av = .ref b :: rest ∧ (b = 1001 ∨ b = 1002)) := by
  unfold C_R_findsRolls at h
  replace h := cbr_c h
  rcases h with ⟨hb, h⟩ | ⟨_, h⟩
  · cases beq_t hb
    exact ⟨c_R_usedOf h (d + 0), fun q => absurd q (by decide)⟩
  replace h := cbr_c h
  rcases h with ⟨hb, h⟩ | ⟨_, h⟩
  · cases beq_t hb
    exact ⟨c_R_lesser h (d + 1), fun q => absurd q (by decide)⟩
  cases h
theorem c_R_findsRolls {av : List Value} {s : Mem} {z : Int32 × Mem} (h : A_R_findsRolls av s = some z) (d : Nat) : Ctr (d + 3) I_R_findsRolls av s z := by
  unfold A_R_findsRolls at h
  split at h
  · replace h := cbr_n h
    obtain ⟨hb, h⟩ := h
    cases beq_t hb
    refine ctr_of (d := d + 2) (own := 11) (kps := [9, 41]) (code := K_R_findsRolls) (Cl := C_R_findsRolls) o_R_findsRolls rfl (by decide) k_R_findsRolls (l_R_findsRolls d) (c1_of rfl) (Nat.le_of_ble_eq_true rfl) ?_
    intro RA S
    rw [e_R_findsRolls] at h
    refine S.2 _ ?_ 700 0 _ _ (ck1_of rfl) h
    intro k ls s h
    replace h := cbr_c h
    rcases h with ⟨hb, h⟩ | ⟨_, h⟩
    · cases beq_t hb
      exact a_R_findsRolls_7 S.1 h (n_R_findsRolls_7 S gF)
    cases h
  · cases h
set_option maxRecDepth 1000000 in
theorem k_R_runner : okC 11 I_R_runner.2.2.1 I_R_runner.2.1 I_R_runner.2.2.2.1 [82] K_R_runner K_R_runner = true := by decide +kernel
theorem a_R_runner_51 {z : Int32 × Mem} {RA : Nat → List (Option Value) → Mem → Prop} (hm : ∀ (pc : Nat) (ls ls1 : List (Option Value)) (σ : Mem), ls1.length = I_R_runner.2.2.1 → (∀ i v, lk ls1 i = some v → lk ls i = some v) → RA pc ls1 σ → RA pc ls σ) {f : Int32 → Int32 → Int32 → Int32 → Mem → Option (Int32 × Mem)} {ls : List (Option Value)} {s : Mem} (h : A_R_runner_51 f ls s = some z) (hf : ∀ (x1 : Int32) (x3 : Int32) (x4 : Int32) (x5 : Int32) (s : Mem), f x1 x3 x4 x5 s = some z → RA 82 [some (.ref 123), some (.int x1), none, some (.int x3), some (.int x4), some (.int x5)] s) : RA 82 ls s := by
  unfold A_R_runner_51 at h
  split at h
  · rename_i a0 a1 a2 a3 a4 e0 e1 e2 e3 e4
    replace h := cbr_n h
    obtain ⟨hb, h⟩ := h
    cases beq_t hb
    refine hm _ _ [some (.ref 123), some (.int a1), none, some (.int a2), some (.int a3), some (.int a4)] _ rfl (fun i v hv => ?_) (hf _ _ _ _ _ h)
    match i, hv with
    | 0, hv => exact e0.trans hv
    | 1, hv => exact e1.trans hv
    | 2, hv => cases hv
    | 3, hv => exact e2.trans hv
    | 4, hv => exact e3.trans hv
    | 5, hv => exact e4.trans hv
    | i + 6, hv => cases hv
  · cases h
theorem n_R_runner_51 {z : Int32 × Mem} {RA : Nat → List (Option Value) → Mem → Prop} (S : Sm I_R_runner C_R_runner K_R_runner [82] z RA) : ∀ (n : Nat) (x1 : Int32) (x3 : Int32) (x4 : Int32) (x5 : Int32) (s : Mem), F_R_runner_51 n x1 x3 x4 x5 s = some z → RA 82 [some (.ref 123), some (.int x1), none, some (.int x3), some (.int x4), some (.int x5)] s := by
  intro n
  induction n with
  | zero => intro x1 x3 x4 x5 s h; exact nomatch (show (none : Option (Int32 × Mem)) = some z from h)
  | succ n ih =>
    intro x1 x3 x4 x5 s h
    rw [e_R_runner_51] at h
    refine S.2 _ ?_ 700 52 _ _ (ck1_of rfl) h
    intro k ls s h
    replace h := cbr_c h
    rcases h with ⟨hb, h⟩ | ⟨_, h⟩
    · cases beq_t hb
      exact a_R_runner_51 S.1 h ih
    cases h
theorem l_R_runner (d : Nat) (k : Nat) (av : List Value) (s : Mem) (y : Int32 × Mem) (h : C_R_runner k av s = some y) : Ctr (d + 3) (mtab k) av s y ∧ ((mtab k).2.2.2.2.2 = 77 → ∃ b rest, av = .ref b :: rest ∧ (b = 1001 ∨ b = 1002)) := by
  unfold C_R_runner at h
  replace h := cbr_c h
  rcases h with ⟨hb, h⟩ | ⟨_, h⟩
  · cases beq_t hb
    exact ⟨c_R_isIn h (d + 2), fun q => absurd q (by decide)⟩
  replace h := cbr_c h
  rcases h with ⟨hb, h⟩ | ⟨_, h⟩
  · cases beq_t hb
    exact ⟨c_R_findsRolls h (d + 0), fun q => absurd q (by decide)⟩
  replace h := cbr_c h
  rcases h with ⟨hb, h⟩ | ⟨_, h⟩
  · cases beq_t hb
    exact ⟨c_R_greater h (d + 2), fun q => absurd q (by decide)⟩
  cases h
theorem c_R_runner {av : List Value} {s : Mem} {z : Int32 × Mem} (h : A_R_runner av s = some z) (d : Nat) : Ctr (d + 4) I_R_runner av s z := by
  unfold A_R_runner at h
  split at h
  · replace h := cbr_n h
    obtain ⟨hb, h⟩ := h
    cases beq_t hb
    refine ctr_of (d := d + 3) (own := 11) (kps := [82]) (code := K_R_runner) (Cl := C_R_runner) o_R_runner rfl (by decide) k_R_runner (l_R_runner d) (c1_of rfl) (Nat.le_of_ble_eq_true rfl) ?_
    intro RA S
    rw [e_R_runner] at h
    refine S.2 _ ?_ 700 0 _ _ (ck1_of rfl) h
    intro k ls s h
    replace h := cbr_c h
    rcases h with ⟨hb, h⟩ | ⟨_, h⟩
    · cases beq_t hb
      exact a_R_runner_51 S.1 h (n_R_runner_51 S gF)
    cases h
  · cases h
set_option maxRecDepth 1000000 in
theorem k_R_wall : okC 11 I_R_wall.2.2.1 I_R_wall.2.1 I_R_wall.2.2.2.1 [] K_R_wall K_R_wall = true := by decide +kernel
theorem l_R_wall (d : Nat) (k : Nat) (av : List Value) (s : Mem) (y : Int32 × Mem) (h : C_R_wall k av s = some y) : Ctr (d + 1) (mtab k) av s y ∧ ((mtab k).2.2.2.2.2 = 77 → ∃ b rest, av = .ref b :: rest ∧ (b = 1001 ∨ b = 1002)) := by
  unfold C_R_wall at h
  replace h := cbr_c h
  rcases h with ⟨hb, h⟩ | ⟨_, h⟩
  · cases beq_t hb
    exact ⟨c_R_isIn h (d + 0), fun q => absurd q (by decide)⟩
  cases h
theorem c_R_wall {av : List Value} {s : Mem} {z : Int32 × Mem} (h : A_R_wall av s = some z) (d : Nat) : Ctr (d + 2) I_R_wall av s z := by
  unfold A_R_wall at h
  split at h
  · replace h := cbr_n h
    obtain ⟨hb, h⟩ := h
    cases beq_t hb
    refine ctr_of (d := d + 1) (own := 11) (kps := []) (code := K_R_wall) (Cl := C_R_wall) o_R_wall rfl (by decide) k_R_wall (l_R_wall d) (c1_of rfl) (Nat.le_of_ble_eq_true rfl) ?_
    intro RA S
    rw [e_R_wall] at h
    refine S.2 _ ?_ 700 0 _ _ (ck1_of rfl) h
    intro k ls s h
    cases h
  · cases h
set_option maxRecDepth 1000000 in
theorem k_R_ramp : okC 11 I_R_ramp.2.2.1 I_R_ramp.2.1 I_R_ramp.2.2.2.1 [31] K_R_ramp K_R_ramp = true := by decide +kernel
theorem a_R_ramp_19 {z : Int32 × Mem} {RA : Nat → List (Option Value) → Mem → Prop} (hm : ∀ (pc : Nat) (ls ls1 : List (Option Value)) (σ : Mem), ls1.length = I_R_ramp.2.2.1 → (∀ i v, lk ls1 i = some v → lk ls i = some v) → RA pc ls1 σ → RA pc ls σ) {f : Int32 → Int32 → Int32 → Mem → Option (Int32 × Mem)} {ls : List (Option Value)} {s : Mem} (h : A_R_ramp_19 f ls s = some z) (hf : ∀ (x1 : Int32) (x2 : Int32) (x3 : Int32) (s : Mem), f x1 x2 x3 s = some z → RA 31 [some (.ref 123), some (.int x1), some (.int x2), some (.int x3)] s) : RA 31 ls s := by
  unfold A_R_ramp_19 at h
  split at h
  · rename_i a0 a1 a2 a3 e0 e1 e2 e3
    replace h := cbr_n h
    obtain ⟨hb, h⟩ := h
    cases beq_t hb
    refine hm _ _ [some (.ref 123), some (.int a1), some (.int a2), some (.int a3)] _ rfl (fun i v hv => ?_) (hf _ _ _ _ h)
    match i, hv with
    | 0, hv => exact e0.trans hv
    | 1, hv => exact e1.trans hv
    | 2, hv => exact e2.trans hv
    | 3, hv => exact e3.trans hv
    | i + 4, hv => cases hv
  · cases h
theorem n_R_ramp_19 {z : Int32 × Mem} {RA : Nat → List (Option Value) → Mem → Prop} (S : Sm I_R_ramp C_R_ramp K_R_ramp [31] z RA) : ∀ (n : Nat) (x1 : Int32) (x2 : Int32) (x3 : Int32) (s : Mem), F_R_ramp_19 n x1 x2 x3 s = some z → RA 31 [some (.ref 123), some (.int x1), some (.int x2), some (.int x3)] s := by
  intro n
  induction n with
  | zero => intro x1 x2 x3 s h; exact nomatch (show (none : Option (Int32 × Mem)) = some z from h)
  | succ n ih =>
    intro x1 x2 x3 s h
    rw [e_R_ramp_19] at h
    refine S.2 _ ?_ 700 20 _ _ (ck1_of rfl) h
    intro k ls s h
    replace h := cbr_c h
    rcases h with ⟨hb, h⟩ | ⟨_, h⟩
    · cases beq_t hb
      exact a_R_ramp_19 S.1 h ih
    cases h
theorem l_R_ramp (d : Nat) (k : Nat) (av : List Value) (s : Mem) (y : Int32 × Mem) (h : C_R_ramp k av s = some y) : Ctr (d + 1) (mtab k) av s y ∧ ((mtab k).2.2.2.2.2 = 77 → ∃ b rest, av = .ref b :: rest ∧ (b = 1001 ∨ b = 1002)) := by
  unfold C_R_ramp at h
  replace h := cbr_c h
  rcases h with ⟨hb, h⟩ | ⟨_, h⟩
  · cases beq_t hb
    exact ⟨c_R_isIn h (d + 0), fun q => absurd q (by decide)⟩
  replace h := cbr_c h
  rcases h with ⟨hb, h⟩ | ⟨_, h⟩
  · cases beq_t hb
    exact ⟨c_R_greater h (d + 0), fun q => absurd q (by decide)⟩
  cases h
theorem c_R_ramp {av : List Value} {s : Mem} {z : Int32 × Mem} (h : A_R_ramp av s = some z) (d : Nat) : Ctr (d + 2) I_R_ramp av s z := by
  unfold A_R_ramp at h
  split at h
  · replace h := cbr_n h
    obtain ⟨hb, h⟩ := h
    cases beq_t hb
    refine ctr_of (d := d + 1) (own := 11) (kps := [31]) (code := K_R_ramp) (Cl := C_R_ramp) o_R_ramp rfl (by decide) k_R_ramp (l_R_ramp d) (c1_of rfl) (Nat.le_of_ble_eq_true rfl) ?_
    intro RA S
    rw [e_R_ramp] at h
    refine S.2 _ ?_ 700 0 _ _ (ck1_of rfl) h
    intro k ls s h
    replace h := cbr_c h
    rcases h with ⟨hb, h⟩ | ⟨_, h⟩
    · cases beq_t hb
      exact a_R_ramp_19 S.1 h (n_R_ramp_19 S gF)
    cases h
  · cases h
set_option maxRecDepth 1000000 in
theorem k_R_box : okC 11 I_R_box.2.2.1 I_R_box.2.1 I_R_box.2.2.2.1 [122, 131] K_R_box K_R_box = true := by decide +kernel
theorem a_R_box_77 {z : Int32 × Mem} {RA : Nat → List (Option Value) → Mem → Prop} (hm : ∀ (pc : Nat) (ls ls1 : List (Option Value)) (σ : Mem), ls1.length = I_R_box.2.2.1 → (∀ i v, lk ls1 i = some v → lk ls i = some v) → RA pc ls1 σ → RA pc ls σ) {f : Int32 → Int32 → Int32 → Int32 → Int32 → Mem → Option (Int32 × Mem)} {ls : List (Option Value)} {s : Mem} (h : A_R_box_77 f ls s = some z) (hf : ∀ (x3 : Int32) (x4 : Int32) (x5 : Int32) (x6 : Int32) (x7 : Int32) (s : Mem), f x3 x4 x5 x6 x7 s = some z → RA 122 [some (.ref 123), none, none, some (.int x3), some (.int x4), some (.int x5), some (.int x6), some (.int x7), none] s) : RA 122 ls s := by
  unfold A_R_box_77 at h
  split at h
  · rename_i a0 a1 a2 a3 a4 a5 e0 e1 e2 e3 e4 e5
    replace h := cbr_n h
    obtain ⟨hb, h⟩ := h
    cases beq_t hb
    refine hm _ _ [some (.ref 123), none, none, some (.int a1), some (.int a2), some (.int a3), some (.int a4), some (.int a5), none] _ rfl (fun i v hv => ?_) (hf _ _ _ _ _ _ h)
    match i, hv with
    | 0, hv => exact e0.trans hv
    | 1, hv => cases hv
    | 2, hv => cases hv
    | 3, hv => exact e1.trans hv
    | 4, hv => exact e2.trans hv
    | 5, hv => exact e3.trans hv
    | 6, hv => exact e4.trans hv
    | 7, hv => exact e5.trans hv
    | 8, hv => cases hv
    | i + 9, hv => cases hv
  · cases h
theorem a_R_box_82 {z : Int32 × Mem} {RA : Nat → List (Option Value) → Mem → Prop} (hm : ∀ (pc : Nat) (ls ls1 : List (Option Value)) (σ : Mem), ls1.length = I_R_box.2.2.1 → (∀ i v, lk ls1 i = some v → lk ls i = some v) → RA pc ls1 σ → RA pc ls σ) {f : Int32 → Int32 → Int32 → Int32 → Int32 → Int32 → Mem → Option (Int32 × Mem)} {ls : List (Option Value)} {s : Mem} (h : A_R_box_82 f ls s = some z) (hf : ∀ (x3 : Int32) (x4 : Int32) (x5 : Int32) (x6 : Int32) (x7 : Int32) (x8 : Int32) (s : Mem), f x3 x4 x5 x6 x7 x8 s = some z → RA 131 [some (.ref 123), none, none, some (.int x3), some (.int x4), some (.int x5), some (.int x6), some (.int x7), some (.int x8)] s) : RA 131 ls s := by
  unfold A_R_box_82 at h
  split at h
  · rename_i a0 a1 a2 a3 a4 a5 a6 e0 e1 e2 e3 e4 e5 e6
    replace h := cbr_n h
    obtain ⟨hb, h⟩ := h
    cases beq_t hb
    refine hm _ _ [some (.ref 123), none, none, some (.int a1), some (.int a2), some (.int a3), some (.int a4), some (.int a5), some (.int a6)] _ rfl (fun i v hv => ?_) (hf _ _ _ _ _ _ _ h)
    match i, hv with
    | 0, hv => exact e0.trans hv
    | 1, hv => cases hv
    | 2, hv => cases hv
    | 3, hv => exact e1.trans hv
    | 4, hv => exact e2.trans hv
    | 5, hv => exact e3.trans hv
    | 6, hv => exact e4.trans hv
    | 7, hv => exact e5.trans hv
    | 8, hv => exact e6.trans hv
    | i + 9, hv => cases hv
  · cases h
theorem n_R_box_82 {z : Int32 × Mem} {RA : Nat → List (Option Value) → Mem → Prop} (S : Sm I_R_box C_R_box K_R_box [122, 131] z RA) {k77 : Int32 → Int32 → Int32 → Int32 → Int32 → Mem → Option (Int32 × Mem)} (hk77 : ∀ (x3 : Int32) (x4 : Int32) (x5 : Int32) (x6 : Int32) (x7 : Int32) (s : Mem), k77 x3 x4 x5 x6 x7 s = some z → RA 122 [some (.ref 123), none, none, some (.int x3), some (.int x4), some (.int x5), some (.int x6), some (.int x7), none] s) : ∀ (n : Nat) (x3 : Int32) (x4 : Int32) (x5 : Int32) (x6 : Int32) (x7 : Int32) (x8 : Int32) (s : Mem), F_R_box_82 k77 n x3 x4 x5 x6 x7 x8 s = some z → RA 131 [some (.ref 123), none, none, some (.int x3), some (.int x4), some (.int x5), some (.int x6), some (.int x7), some (.int x8)] s := by
  intro n
  induction n with
  | zero => intro x3 x4 x5 x6 x7 x8 s h; exact nomatch (show (none : Option (Int32 × Mem)) = some z from h)
  | succ n ih =>
    intro x3 x4 x5 x6 x7 x8 s h
    rw [e_R_box_82] at h
    refine S.2 _ ?_ 700 84 _ _ (ck1_of rfl) h
    intro k ls s h
    replace h := cbr_c h
    rcases h with ⟨hb, h⟩ | ⟨_, h⟩
    · cases beq_t hb
      exact a_R_box_77 S.1 h hk77
    replace h := cbr_c h
    rcases h with ⟨hb, h⟩ | ⟨_, h⟩
    · cases beq_t hb
      exact a_R_box_82 S.1 h ih
    cases h
theorem n_R_box_77 {z : Int32 × Mem} {RA : Nat → List (Option Value) → Mem → Prop} (S : Sm I_R_box C_R_box K_R_box [122, 131] z RA) : ∀ (n : Nat) (x3 : Int32) (x4 : Int32) (x5 : Int32) (x6 : Int32) (x7 : Int32) (s : Mem), F_R_box_77 n x3 x4 x5 x6 x7 s = some z → RA 122 [some (.ref 123), none, none, some (.int x3), some (.int x4), some (.int x5), some (.int x6), some (.int x7), none] s := by
  intro n
  induction n with
  | zero => intro x3 x4 x5 x6 x7 s h; exact nomatch (show (none : Option (Int32 × Mem)) = some z from h)
  | succ n ih =>
    intro x3 x4 x5 x6 x7 s h
    rw [e_R_box_77] at h
    refine S.2 _ ?_ 700 78 _ _ (ck1_of rfl) h
    intro k ls s h
    replace h := cbr_c h
    rcases h with ⟨hb, h⟩ | ⟨_, h⟩
    · cases beq_t hb
      exact a_R_box_82 S.1 h (n_R_box_82 S ih gF)
    cases h
theorem l_R_box (d : Nat) (k : Nat) (av : List Value) (s : Mem) (y : Int32 × Mem) (h : C_R_box k av s = some y) : Ctr (d + 1) (mtab k) av s y ∧ ((mtab k).2.2.2.2.2 = 77 → ∃ b rest, av = .ref b :: rest ∧ (b = 1001 ∨ b = 1002)) := by
  unfold C_R_box at h
  replace h := cbr_c h
  rcases h with ⟨hb, h⟩ | ⟨_, h⟩
  · cases beq_t hb
    exact ⟨c_R_isIn h (d + 0), fun q => absurd q (by decide)⟩
  cases h
theorem c_R_box {av : List Value} {s : Mem} {z : Int32 × Mem} (h : A_R_box av s = some z) (d : Nat) : Ctr (d + 2) I_R_box av s z := by
  unfold A_R_box at h
  split at h
  · replace h := cbr_n h
    obtain ⟨hb, h⟩ := h
    cases beq_t hb
    refine ctr_of (d := d + 1) (own := 11) (kps := [122, 131]) (code := K_R_box) (Cl := C_R_box) o_R_box rfl (by decide) k_R_box (l_R_box d) (c1_of rfl) (Nat.le_of_ble_eq_true rfl) ?_
    intro RA S
    rw [e_R_box] at h
    refine S.2 _ ?_ 700 0 _ _ (ck1_of rfl) h
    intro k ls s h
    replace h := cbr_c h
    rcases h with ⟨hb, h⟩ | ⟨_, h⟩
    · cases beq_t hb
      exact a_R_box_77 S.1 h (n_R_box_77 S gF)
    cases h
  · cases h
set_option maxRecDepth 1000000 in
theorem k_R_digit : okC 11 I_R_digit.2.2.1 I_R_digit.2.1 I_R_digit.2.2.2.1 [] K_R_digit K_R_digit = true := by decide +kernel
theorem l_R_digit (d : Nat) (k : Nat) (av : List Value) (s : Mem) (y : Int32 × Mem) (h : C_R_digit k av s = some y) : Ctr (d + 1) (mtab k) av s y ∧ ((mtab k).2.2.2.2.2 = 77 → ∃ b rest, av = .ref b :: rest ∧ (b = 1001 ∨ b = 1002)) := by
  unfold C_R_digit at h
  replace h := cbr_c h
  rcases h with ⟨hb, h⟩ | ⟨_, h⟩
  · cases beq_t hb
    exact ⟨c_R_isIn h (d + 0), fun q => absurd q (by decide)⟩
  cases h
theorem c_R_digit {av : List Value} {s : Mem} {z : Int32 × Mem} (h : A_R_digit av s = some z) (d : Nat) : Ctr (d + 2) I_R_digit av s z := by
  unfold A_R_digit at h
  split at h
  · replace h := cbr_n h
    obtain ⟨hb, h⟩ := h
    cases beq_t hb
    refine ctr_of (d := d + 1) (own := 11) (kps := []) (code := K_R_digit) (Cl := C_R_digit) o_R_digit rfl (by decide) k_R_digit (l_R_digit d) (c1_of rfl) (Nat.le_of_ble_eq_true rfl) ?_
    intro RA S
    rw [e_R_digit] at h
    refine S.2 _ ?_ 700 0 _ _ (ck1_of rfl) h
    intro k ls s h
    cases h
  · cases h
set_option maxRecDepth 1000000 in
theorem k_R_rowsOf : okC 11 I_R_rowsOf.2.2.1 I_R_rowsOf.2.1 I_R_rowsOf.2.2.2.1 [6, 15] K_R_rowsOf K_R_rowsOf = true := by decide +kernel
theorem a_R_rowsOf_6 {z : Int32 × Mem} {RA : Nat → List (Option Value) → Mem → Prop} (hm : ∀ (pc : Nat) (ls ls1 : List (Option Value)) (σ : Mem), ls1.length = I_R_rowsOf.2.2.1 → (∀ i v, lk ls1 i = some v → lk ls i = some v) → RA pc ls1 σ → RA pc ls σ) {f : Int32 → Int32 → Int32 → Mem → Option (Int32 × Mem)} {ls : List (Option Value)} {s : Mem} (h : A_R_rowsOf_6 f ls s = some z) (hf : ∀ (x1 : Int32) (x2 : Int32) (x3 : Int32) (s : Mem), f x1 x2 x3 s = some z → RA 6 [some (.ref 123), some (.int x1), some (.int x2), some (.int x3), none] s) : RA 6 ls s := by
  unfold A_R_rowsOf_6 at h
  split at h
  · rename_i a0 a1 a2 a3 e0 e1 e2 e3
    replace h := cbr_n h
    obtain ⟨hb, h⟩ := h
    cases beq_t hb
    refine hm _ _ [some (.ref 123), some (.int a1), some (.int a2), some (.int a3), none] _ rfl (fun i v hv => ?_) (hf _ _ _ _ h)
    match i, hv with
    | 0, hv => exact e0.trans hv
    | 1, hv => exact e1.trans hv
    | 2, hv => exact e2.trans hv
    | 3, hv => exact e3.trans hv
    | 4, hv => cases hv
    | i + 5, hv => cases hv
  · cases h
theorem a_R_rowsOf_11 {z : Int32 × Mem} {RA : Nat → List (Option Value) → Mem → Prop} (hm : ∀ (pc : Nat) (ls ls1 : List (Option Value)) (σ : Mem), ls1.length = I_R_rowsOf.2.2.1 → (∀ i v, lk ls1 i = some v → lk ls i = some v) → RA pc ls1 σ → RA pc ls σ) {f : Int32 → Int32 → Int32 → Int32 → Mem → Option (Int32 × Mem)} {ls : List (Option Value)} {s : Mem} (h : A_R_rowsOf_11 f ls s = some z) (hf : ∀ (x1 : Int32) (x2 : Int32) (x3 : Int32) (x4 : Int32) (s : Mem), f x1 x2 x3 x4 s = some z → RA 15 [some (.ref 123), some (.int x1), some (.int x2), some (.int x3), some (.int x4)] s) : RA 15 ls s := by
  unfold A_R_rowsOf_11 at h
  split at h
  · rename_i a0 a1 a2 a3 a4 e0 e1 e2 e3 e4
    replace h := cbr_n h
    obtain ⟨hb, h⟩ := h
    cases beq_t hb
    refine hm _ _ [some (.ref 123), some (.int a1), some (.int a2), some (.int a3), some (.int a4)] _ rfl (fun i v hv => ?_) (hf _ _ _ _ _ h)
    match i, hv with
    | 0, hv => exact e0.trans hv
    | 1, hv => exact e1.trans hv
    | 2, hv => exact e2.trans hv
    | 3, hv => exact e3.trans hv
    | 4, hv => exact e4.trans hv
    | i + 5, hv => cases hv
  · cases h
theorem n_R_rowsOf_11 {z : Int32 × Mem} {RA : Nat → List (Option Value) → Mem → Prop} (S : Sm I_R_rowsOf C_R_rowsOf K_R_rowsOf [6, 15] z RA) {k6 : Int32 → Int32 → Int32 → Mem → Option (Int32 × Mem)} (hk6 : ∀ (x1 : Int32) (x2 : Int32) (x3 : Int32) (s : Mem), k6 x1 x2 x3 s = some z → RA 6 [some (.ref 123), some (.int x1), some (.int x2), some (.int x3), none] s) : ∀ (n : Nat) (x1 : Int32) (x2 : Int32) (x3 : Int32) (x4 : Int32) (s : Mem), F_R_rowsOf_11 k6 n x1 x2 x3 x4 s = some z → RA 15 [some (.ref 123), some (.int x1), some (.int x2), some (.int x3), some (.int x4)] s := by
  intro n
  induction n with
  | zero => intro x1 x2 x3 x4 s h; exact nomatch (show (none : Option (Int32 × Mem)) = some z from h)
  | succ n ih =>
    intro x1 x2 x3 x4 s h
    rw [e_R_rowsOf_11] at h
    refine S.2 _ ?_ 700 13 _ _ (ck1_of rfl) h
    intro k ls s h
    replace h := cbr_c h
    rcases h with ⟨hb, h⟩ | ⟨_, h⟩
    · cases beq_t hb
      exact a_R_rowsOf_6 S.1 h hk6
    replace h := cbr_c h
    rcases h with ⟨hb, h⟩ | ⟨_, h⟩
    · cases beq_t hb
      exact a_R_rowsOf_11 S.1 h ih
    cases h
theorem n_R_rowsOf_6 {z : Int32 × Mem} {RA : Nat → List (Option Value) → Mem → Prop} (S : Sm I_R_rowsOf C_R_rowsOf K_R_rowsOf [6, 15] z RA) : ∀ (n : Nat) (x1 : Int32) (x2 : Int32) (x3 : Int32) (s : Mem), F_R_rowsOf_6 n x1 x2 x3 s = some z → RA 6 [some (.ref 123), some (.int x1), some (.int x2), some (.int x3), none] s := by
  intro n
  induction n with
  | zero => intro x1 x2 x3 s h; exact nomatch (show (none : Option (Int32 × Mem)) = some z from h)
  | succ n ih =>
    intro x1 x2 x3 s h
    rw [e_R_rowsOf_6] at h
    refine S.2 _ ?_ 700 7 _ _ (ck1_of rfl) h
    intro k ls s h
    replace h := cbr_c h
    rcases h with ⟨hb, h⟩ | ⟨_, h⟩
    · cases beq_t hb
      exact a_R_rowsOf_11 S.1 h (n_R_rowsOf_11 S ih gF)
    cases h
theorem l_R_rowsOf (d : Nat) (k : Nat) (av : List Value) (s : Mem) (y : Int32 × Mem) (h : C_R_rowsOf k av s = some y) : Ctr (d + 0) (mtab k) av s y ∧ ((mtab k).2.2.2.2.2 = 77 → ∃ b rest, av = .ref b :: rest ∧ (b = 1001 ∨ b = 1002)) := by
  exact nomatch (show (none : Option (Int32 × Mem)) = some y from h)
theorem c_R_rowsOf {av : List Value} {s : Mem} {z : Int32 × Mem} (h : A_R_rowsOf av s = some z) (d : Nat) : Ctr (d + 1) I_R_rowsOf av s z := by
  unfold A_R_rowsOf at h
  split at h
  · replace h := cbr_n h
    obtain ⟨hb, h⟩ := h
    cases beq_t hb
    refine ctr_of (d := d + 0) (own := 11) (kps := [6, 15]) (code := K_R_rowsOf) (Cl := C_R_rowsOf) o_R_rowsOf rfl (by decide) k_R_rowsOf (l_R_rowsOf d) (c1_of rfl) (Nat.le_of_ble_eq_true rfl) ?_
    intro RA S
    rw [e_R_rowsOf] at h
    refine S.2 _ ?_ 700 0 _ _ (ck1_of rfl) h
    intro k ls s h
    replace h := cbr_c h
    rcases h with ⟨hb, h⟩ | ⟨_, h⟩
    · cases beq_t hb
      exact a_R_rowsOf_6 S.1 h (n_R_rowsOf_6 S gF)
    cases h
  · cases h
set_option maxRecDepth 1000000 in
theorem k_R_countsFrom : okC 11 I_R_countsFrom.2.2.1 I_R_countsFrom.2.1 I_R_countsFrom.2.2.2.1 [2, 23] K_R_countsFrom K_R_countsFrom = true := by decide +kernel
theorem a_R_countsFrom_2 {z : Int32 × Mem} {RA : Nat → List (Option Value) → Mem → Prop} (hm : ∀ (pc : Nat) (ls ls1 : List (Option Value)) (σ : Mem), ls1.length = I_R_countsFrom.2.2.1 → (∀ i v, lk ls1 i = some v → lk ls i = some v) → RA pc ls1 σ → RA pc ls σ) {f : Int32 → Int32 → Mem → Option (Int32 × Mem)} {ls : List (Option Value)} {s : Mem} (h : A_R_countsFrom_2 f ls s = some z) (hf : ∀ (x1 : Int32) (x2 : Int32) (s : Mem), f x1 x2 s = some z → RA 2 [some (.ref 123), some (.int x1), some (.int x2)] s) : RA 2 ls s := by
  unfold A_R_countsFrom_2 at h
  split at h
  · rename_i a0 a1 a2 e0 e1 e2
    replace h := cbr_n h
    obtain ⟨hb, h⟩ := h
    cases beq_t hb
    refine hm _ _ [some (.ref 123), some (.int a1), some (.int a2)] _ rfl (fun i v hv => ?_) (hf _ _ _ h)
    match i, hv with
    | 0, hv => exact e0.trans hv
    | 1, hv => exact e1.trans hv
    | 2, hv => exact e2.trans hv
    | i + 3, hv => cases hv
  · cases h
theorem a_R_countsFrom_14 {z : Int32 × Mem} {RA : Nat → List (Option Value) → Mem → Prop} (hm : ∀ (pc : Nat) (ls ls1 : List (Option Value)) (σ : Mem), ls1.length = I_R_countsFrom.2.2.1 → (∀ i v, lk ls1 i = some v → lk ls i = some v) → RA pc ls1 σ → RA pc ls σ) {f : Int32 → Mem → Option (Int32 × Mem)} {ls : List (Option Value)} {s : Mem} (h : A_R_countsFrom_14 f ls s = some z) (hf : ∀ (x2 : Int32) (s : Mem), f x2 s = some z → RA 23 [some (.ref 123), none, some (.int x2)] s) : RA 23 ls s := by
  unfold A_R_countsFrom_14 at h
  split at h
  · rename_i a0 a1 e0 e1
    replace h := cbr_n h
    obtain ⟨hb, h⟩ := h
    cases beq_t hb
    refine hm _ _ [some (.ref 123), none, some (.int a1)] _ rfl (fun i v hv => ?_) (hf _ _ h)
    match i, hv with
    | 0, hv => exact e0.trans hv
    | 1, hv => cases hv
    | 2, hv => exact e1.trans hv
    | i + 3, hv => cases hv
  · cases h
theorem n_R_countsFrom_14 {z : Int32 × Mem} {RA : Nat → List (Option Value) → Mem → Prop} (S : Sm I_R_countsFrom C_R_countsFrom K_R_countsFrom [2, 23] z RA) : ∀ (n : Nat) (x2 : Int32) (s : Mem), F_R_countsFrom_14 n x2 s = some z → RA 23 [some (.ref 123), none, some (.int x2)] s := by
  intro n
  induction n with
  | zero => intro x2 s h; exact nomatch (show (none : Option (Int32 × Mem)) = some z from h)
  | succ n ih =>
    intro x2 s h
    rw [e_R_countsFrom_14] at h
    refine S.2 _ ?_ 700 16 _ _ (ck1_of rfl) h
    intro k ls s h
    replace h := cbr_c h
    rcases h with ⟨hb, h⟩ | ⟨_, h⟩
    · cases beq_t hb
      exact a_R_countsFrom_14 S.1 h ih
    cases h
theorem n_R_countsFrom_2 {z : Int32 × Mem} {RA : Nat → List (Option Value) → Mem → Prop} (S : Sm I_R_countsFrom C_R_countsFrom K_R_countsFrom [2, 23] z RA) : ∀ (n : Nat) (x1 : Int32) (x2 : Int32) (s : Mem), F_R_countsFrom_2 n x1 x2 s = some z → RA 2 [some (.ref 123), some (.int x1), some (.int x2)] s := by
  intro n
  induction n with
  | zero => intro x1 x2 s h; exact nomatch (show (none : Option (Int32 × Mem)) = some z from h)
  | succ n ih =>
    intro x1 x2 s h
    rw [e_R_countsFrom_2] at h
    refine S.2 _ ?_ 700 3 _ _ (ck1_of rfl) h
    intro k ls s h
    replace h := cbr_c h
    rcases h with ⟨hb, h⟩ | ⟨_, h⟩
    · cases beq_t hb
      exact a_R_countsFrom_2 S.1 h ih
    replace h := cbr_c h
    rcases h with ⟨hb, h⟩ | ⟨_, h⟩
    · cases beq_t hb
      exact a_R_countsFrom_14 S.1 h (n_R_countsFrom_14 S gF)
    cases h
theorem l_R_countsFrom (d : Nat) (k : Nat) (av : List Value) (s : Mem) (y : Int32 × Mem) (h : C_R_countsFrom k av s = some y) : Ctr (d + 0) (mtab k) av s y ∧ ((mtab k).2.2.2.2.2 = 77 → ∃ b rest, av = .ref b :: rest ∧ (b = 1001 ∨ b = 1002)) := by
  exact nomatch (show (none : Option (Int32 × Mem)) = some y from h)
theorem c_R_countsFrom {av : List Value} {s : Mem} {z : Int32 × Mem} (h : A_R_countsFrom av s = some z) (d : Nat) : Ctr (d + 1) I_R_countsFrom av s z := by
  unfold A_R_countsFrom at h
  split at h
  · replace h := cbr_n h
    obtain ⟨hb, h⟩ := h
    cases beq_t hb
    refine ctr_of (d := d + 0) (own := 11) (kps := [2, 23]) (code := K_R_countsFrom) (Cl := C_R_countsFrom) o_R_countsFrom rfl (by decide) k_R_countsFrom (l_R_countsFrom d) (c1_of rfl) (Nat.le_of_ble_eq_true rfl) ?_
    intro RA S
    rw [e_R_countsFrom] at h
    refine S.2 _ ?_ 700 0 _ _ (ck1_of rfl) h
    intro k ls s h
    replace h := cbr_c h
    rcases h with ⟨hb, h⟩ | ⟨_, h⟩
    · cases beq_t hb
      exact a_R_countsFrom_2 S.1 h (n_R_countsFrom_2 S gF)
    cases h
  · cases h
set_option maxRecDepth 1000000 in
theorem k_R_rowNumber : okC 11 I_R_rowNumber.2.2.1 I_R_rowNumber.2.1 I_R_rowNumber.2.2.2.1 [4, 19] K_R_rowNumber K_R_rowNumber = true := by decide +kernel
theorem a_R_rowNumber_4 {z : Int32 × Mem} {RA : Nat → List (Option Value) → Mem → Prop} (hm : ∀ (pc : Nat) (ls ls1 : List (Option Value)) (σ : Mem), ls1.length = I_R_rowNumber.2.2.1 → (∀ i v, lk ls1 i = some v → lk ls i = some v) → RA pc ls1 σ → RA pc ls σ) {f : Int32 → Int32 → Mem → Option (Int32 × Mem)} {ls : List (Option Value)} {s : Mem} (h : A_R_rowNumber_4 f ls s = some z) (hf : ∀ (x1 : Int32) (x2 : Int32) (s : Mem), f x1 x2 s = some z → RA 4 [some (.ref 123), some (.int x1), some (.int x2), none] s) : RA 4 ls s := by
  unfold A_R_rowNumber_4 at h
  split at h
  · rename_i a0 a1 a2 e0 e1 e2
    replace h := cbr_n h
    obtain ⟨hb, h⟩ := h
    cases beq_t hb
    refine hm _ _ [some (.ref 123), some (.int a1), some (.int a2), none] _ rfl (fun i v hv => ?_) (hf _ _ _ h)
    match i, hv with
    | 0, hv => exact e0.trans hv
    | 1, hv => exact e1.trans hv
    | 2, hv => exact e2.trans hv
    | 3, hv => cases hv
    | i + 4, hv => cases hv
  · cases h
theorem a_R_rowNumber_13 {z : Int32 × Mem} {RA : Nat → List (Option Value) → Mem → Prop} (hm : ∀ (pc : Nat) (ls ls1 : List (Option Value)) (σ : Mem), ls1.length = I_R_rowNumber.2.2.1 → (∀ i v, lk ls1 i = some v → lk ls i = some v) → RA pc ls1 σ → RA pc ls σ) {f : Int32 → Int32 → Int32 → Mem → Option (Int32 × Mem)} {ls : List (Option Value)} {s : Mem} (h : A_R_rowNumber_13 f ls s = some z) (hf : ∀ (x1 : Int32) (x2 : Int32) (x3 : Int32) (s : Mem), f x1 x2 x3 s = some z → RA 19 [some (.ref 123), some (.int x1), some (.int x2), some (.int x3)] s) : RA 19 ls s := by
  unfold A_R_rowNumber_13 at h
  split at h
  · rename_i a0 a1 a2 a3 e0 e1 e2 e3
    replace h := cbr_n h
    obtain ⟨hb, h⟩ := h
    cases beq_t hb
    refine hm _ _ [some (.ref 123), some (.int a1), some (.int a2), some (.int a3)] _ rfl (fun i v hv => ?_) (hf _ _ _ _ h)
    match i, hv with
    | 0, hv => exact e0.trans hv
    | 1, hv => exact e1.trans hv
    | 2, hv => exact e2.trans hv
    | 3, hv => exact e3.trans hv
    | i + 4, hv => cases hv
  · cases h
theorem n_R_rowNumber_13 {z : Int32 × Mem} {RA : Nat → List (Option Value) → Mem → Prop} (S : Sm I_R_rowNumber C_R_rowNumber K_R_rowNumber [4, 19] z RA) {k4 : Int32 → Int32 → Mem → Option (Int32 × Mem)} (hk4 : ∀ (x1 : Int32) (x2 : Int32) (s : Mem), k4 x1 x2 s = some z → RA 4 [some (.ref 123), some (.int x1), some (.int x2), none] s) : ∀ (n : Nat) (x1 : Int32) (x2 : Int32) (x3 : Int32) (s : Mem), F_R_rowNumber_13 k4 n x1 x2 x3 s = some z → RA 19 [some (.ref 123), some (.int x1), some (.int x2), some (.int x3)] s := by
  intro n
  induction n with
  | zero => intro x1 x2 x3 s h; exact nomatch (show (none : Option (Int32 × Mem)) = some z from h)
  | succ n ih =>
    intro x1 x2 x3 s h
    rw [e_R_rowNumber_13] at h
    refine S.2 _ ?_ 700 15 _ _ (ck1_of rfl) h
    intro k ls s h
    replace h := cbr_c h
    rcases h with ⟨hb, h⟩ | ⟨_, h⟩
    · cases beq_t hb
      exact a_R_rowNumber_4 S.1 h hk4
    replace h := cbr_c h
    rcases h with ⟨hb, h⟩ | ⟨_, h⟩
    · cases beq_t hb
      exact a_R_rowNumber_13 S.1 h ih
    cases h
theorem n_R_rowNumber_4 {z : Int32 × Mem} {RA : Nat → List (Option Value) → Mem → Prop} (S : Sm I_R_rowNumber C_R_rowNumber K_R_rowNumber [4, 19] z RA) : ∀ (n : Nat) (x1 : Int32) (x2 : Int32) (s : Mem), F_R_rowNumber_4 n x1 x2 s = some z → RA 4 [some (.ref 123), some (.int x1), some (.int x2), none] s := by
  intro n
  induction n with
  | zero => intro x1 x2 s h; exact nomatch (show (none : Option (Int32 × Mem)) = some z from h)
  | succ n ih =>
    intro x1 x2 s h
    rw [e_R_rowNumber_4] at h
    refine S.2 _ ?_ 700 5 _ _ (ck1_of rfl) h
    intro k ls s h
    replace h := cbr_c h
    rcases h with ⟨hb, h⟩ | ⟨_, h⟩
    · cases beq_t hb
      exact a_R_rowNumber_13 S.1 h (n_R_rowNumber_13 S ih gF)
    cases h
theorem l_R_rowNumber (d : Nat) (k : Nat) (av : List Value) (s : Mem) (y : Int32 × Mem) (h : C_R_rowNumber k av s = some y) : Ctr (d + 1) (mtab k) av s y ∧ ((mtab k).2.2.2.2.2 = 77 → ∃ b rest, av = .ref b :: rest ∧ (b = 1001 ∨ b = 1002)) := by
  unfold C_R_rowNumber at h
  replace h := cbr_c h
  rcases h with ⟨hb, h⟩ | ⟨_, h⟩
  · cases beq_t hb
    exact ⟨c_R_countsFrom h (d + 0), fun q => absurd q (by decide)⟩
  replace h := cbr_c h
  rcases h with ⟨hb, h⟩ | ⟨_, h⟩
  · cases beq_t hb
    exact ⟨c_R_rowsOf h (d + 0), fun q => absurd q (by decide)⟩
  cases h
theorem c_R_rowNumber {av : List Value} {s : Mem} {z : Int32 × Mem} (h : A_R_rowNumber av s = some z) (d : Nat) : Ctr (d + 2) I_R_rowNumber av s z := by
  unfold A_R_rowNumber at h
  split at h
  · replace h := cbr_n h
    obtain ⟨hb, h⟩ := h
    cases beq_t hb
    refine ctr_of (d := d + 1) (own := 11) (kps := [4, 19]) (code := K_R_rowNumber) (Cl := C_R_rowNumber) o_R_rowNumber rfl (by decide) k_R_rowNumber (l_R_rowNumber d) (c1_of rfl) (Nat.le_of_ble_eq_true rfl) ?_
    intro RA S
    rw [e_R_rowNumber] at h
    refine S.2 _ ?_ 700 0 _ _ (ck1_of rfl) h
    intro k ls s h
    replace h := cbr_c h
    rcases h with ⟨hb, h⟩ | ⟨_, h⟩
    · cases beq_t hb
      exact a_R_rowNumber_4 S.1 h (n_R_rowNumber_4 S gF)
    cases h
  · cases h
set_option maxRecDepth 1000000 in
theorem k_R_findsNext : okC 11 I_R_findsNext.2.2.1 I_R_findsNext.2.1 I_R_findsNext.2.2.2.1 [7, 48, 72, 134] K_R_findsNext K_R_findsNext = true := by decide +kernel
theorem a_R_findsNext_5 {z : Int32 × Mem} {RA : Nat → List (Option Value) → Mem → Prop} (hm : ∀ (pc : Nat) (ls ls1 : List (Option Value)) (σ : Mem), ls1.length = I_R_findsNext.2.2.1 → (∀ i v, lk ls1 i = some v → lk ls i = some v) → RA pc ls1 σ → RA pc ls σ) {f : Int32 → Mem → Option (Int32 × Mem)} {ls : List (Option Value)} {s : Mem} (h : A_R_findsNext_5 f ls s = some z) (hf : ∀ (x1 : Int32) (s : Mem), f x1 s = some z → RA 7 [some (.ref 123), some (.int x1), none, none, none, none] s) : RA 7 ls s := by
  unfold A_R_findsNext_5 at h
  split at h
  · rename_i a0 a1 e0 e1
    replace h := cbr_n h
    obtain ⟨hb, h⟩ := h
    cases beq_t hb
    refine hm _ _ [some (.ref 123), some (.int a1), none, none, none, none] _ rfl (fun i v hv => ?_) (hf _ _ h)
    match i, hv with
    | 0, hv => exact e0.trans hv
    | 1, hv => exact e1.trans hv
    | 2, hv => cases hv
    | 3, hv => cases hv
    | 4, hv => cases hv
    | 5, hv => cases hv
    | i + 6, hv => cases hv
  · cases h
theorem a_R_findsNext_32 {z : Int32 × Mem} {RA : Nat → List (Option Value) → Mem → Prop} (hm : ∀ (pc : Nat) (ls ls1 : List (Option Value)) (σ : Mem), ls1.length = I_R_findsNext.2.2.1 → (∀ i v, lk ls1 i = some v → lk ls i = some v) → RA pc ls1 σ → RA pc ls σ) {f : Int32 → Int32 → Mem → Option (Int32 × Mem)} {ls : List (Option Value)} {s : Mem} (h : A_R_findsNext_32 f ls s = some z) (hf : ∀ (x1 : Int32) (x2 : Int32) (s : Mem), f x1 x2 s = some z → RA 48 [some (.ref 123), some (.int x1), some (.int x2), none, none, none] s) : RA 48 ls s := by
  unfold A_R_findsNext_32 at h
  split at h
  · rename_i a0 a1 a2 e0 e1 e2
    replace h := cbr_n h
    obtain ⟨hb, h⟩ := h
    cases beq_t hb
    refine hm _ _ [some (.ref 123), some (.int a1), some (.int a2), none, none, none] _ rfl (fun i v hv => ?_) (hf _ _ _ h)
    match i, hv with
    | 0, hv => exact e0.trans hv
    | 1, hv => exact e1.trans hv
    | 2, hv => exact e2.trans hv
    | 3, hv => cases hv
    | 4, hv => cases hv
    | 5, hv => cases hv
    | i + 6, hv => cases hv
  · cases h
theorem a_R_findsNext_48 {z : Int32 × Mem} {RA : Nat → List (Option Value) → Mem → Prop} (hm : ∀ (pc : Nat) (ls ls1 : List (Option Value)) (σ : Mem), ls1.length = I_R_findsNext.2.2.1 → (∀ i v, lk ls1 i = some v → lk ls i = some v) → RA pc ls1 σ → RA pc ls σ) {f : Int32 → Int32 → Int32 → Mem → Option (Int32 × Mem)} {ls : List (Option Value)} {s : Mem} (h : A_R_findsNext_48 f ls s = some z) (hf : ∀ (x1 : Int32) (x2 : Int32) (x3 : Int32) (s : Mem), f x1 x2 x3 s = some z → RA 72 [some (.ref 123), some (.int x1), some (.int x2), some (.int x3), none, none] s) : RA 72 ls s := by
  unfold A_R_findsNext_48 at h
  split at h
  · rename_i a0 a1 a2 a3 e0 e1 e2 e3
    replace h := cbr_n h
    obtain ⟨hb, h⟩ := h
    cases beq_t hb
    refine hm _ _ [some (.ref 123), some (.int a1), some (.int a2), some (.int a3), none, none] _ rfl (fun i v hv => ?_) (hf _ _ _ _ h)
    match i, hv with
    | 0, hv => exact e0.trans hv
    | 1, hv => exact e1.trans hv
    | 2, hv => exact e2.trans hv
    | 3, hv => exact e3.trans hv
    | 4, hv => cases hv
    | 5, hv => cases hv
    | i + 6, hv => cases hv
  · cases h
theorem a_R_findsNext_87 {z : Int32 × Mem} {RA : Nat → List (Option Value) → Mem → Prop} (hm : ∀ (pc : Nat) (ls ls1 : List (Option Value)) (σ : Mem), ls1.length = I_R_findsNext.2.2.1 → (∀ i v, lk ls1 i = some v → lk ls i = some v) → RA pc ls1 σ → RA pc ls σ) {f : Int32 → Int32 → Mem → Option (Int32 × Mem)} {ls : List (Option Value)} {s : Mem} (h : A_R_findsNext_87 f ls s = some z) (hf : ∀ (x3 : Int32) (x4 : Int32) (s : Mem), f x3 x4 s = some z → RA 134 [some (.ref 123), none, none, some (.int x3), some (.int x4), none] s) : RA 134 ls s := by
  unfold A_R_findsNext_87 at h
  split at h
  · rename_i a0 a1 a2 e0 e1 e2
    replace h := cbr_n h
    obtain ⟨hb, h⟩ := h
    cases beq_t hb
    refine hm _ _ [some (.ref 123), none, none, some (.int a1), some (.int a2), none] _ rfl (fun i v hv => ?_) (hf _ _ _ h)
    match i, hv with
    | 0, hv => exact e0.trans hv
    | 1, hv => cases hv
    | 2, hv => cases hv
    | 3, hv => exact e1.trans hv
    | 4, hv => exact e2.trans hv
    | 5, hv => cases hv
    | i + 6, hv => cases hv
  · cases h
theorem n_R_findsNext_87 {z : Int32 × Mem} {RA : Nat → List (Option Value) → Mem → Prop} (S : Sm I_R_findsNext C_R_findsNext K_R_findsNext [7, 48, 72, 134] z RA) : ∀ (n : Nat) (x3 : Int32) (x4 : Int32) (s : Mem), F_R_findsNext_87 n x3 x4 s = some z → RA 134 [some (.ref 123), none, none, some (.int x3), some (.int x4), none] s := by
  intro n
  induction n with
  | zero => intro x3 x4 s h; exact nomatch (show (none : Option (Int32 × Mem)) = some z from h)
  | succ n ih =>
    intro x3 x4 s h
    rw [e_R_findsNext_87] at h
    refine S.2 _ ?_ 700 91 _ _ (ck1_of rfl) h
    intro k ls s h
    replace h := cbr_c h
    rcases h with ⟨hb, h⟩ | ⟨_, h⟩
    · cases beq_t hb
      exact a_R_findsNext_87 S.1 h ih
    cases h
theorem n_R_findsNext_48 {z : Int32 × Mem} {RA : Nat → List (Option Value) → Mem → Prop} (S : Sm I_R_findsNext C_R_findsNext K_R_findsNext [7, 48, 72, 134] z RA) : ∀ (n : Nat) (x1 : Int32) (x2 : Int32) (x3 : Int32) (s : Mem), F_R_findsNext_48 n x1 x2 x3 s = some z → RA 72 [some (.ref 123), some (.int x1), some (.int x2), some (.int x3), none, none] s := by
  intro n
  induction n with
  | zero => intro x1 x2 x3 s h; exact nomatch (show (none : Option (Int32 × Mem)) = some z from h)
  | succ n ih =>
    intro x1 x2 x3 s h
    rw [e_R_findsNext_48] at h
    refine S.2 _ ?_ 700 51 _ _ (ck1_of rfl) h
    intro k ls s h
    replace h := cbr_c h
    rcases h with ⟨hb, h⟩ | ⟨_, h⟩
    · cases beq_t hb
      exact a_R_findsNext_48 S.1 h ih
    replace h := cbr_c h
    rcases h with ⟨hb, h⟩ | ⟨_, h⟩
    · cases beq_t hb
      exact a_R_findsNext_87 S.1 h (n_R_findsNext_87 S gF)
    cases h
theorem n_R_findsNext_32 {z : Int32 × Mem} {RA : Nat → List (Option Value) → Mem → Prop} (S : Sm I_R_findsNext C_R_findsNext K_R_findsNext [7, 48, 72, 134] z RA) : ∀ (n : Nat) (x1 : Int32) (x2 : Int32) (s : Mem), F_R_findsNext_32 n x1 x2 s = some z → RA 48 [some (.ref 123), some (.int x1), some (.int x2), none, none, none] s := by
  intro n
  induction n with
  | zero => intro x1 x2 s h; exact nomatch (show (none : Option (Int32 × Mem)) = some z from h)
  | succ n ih =>
    intro x1 x2 s h
    rw [e_R_findsNext_32] at h
    refine S.2 _ ?_ 700 34 _ _ (ck1_of rfl) h
    intro k ls s h
    replace h := cbr_c h
    rcases h with ⟨hb, h⟩ | ⟨_, h⟩
    · cases beq_t hb
      exact a_R_findsNext_32 S.1 h ih
    replace h := cbr_c h
    rcases h with ⟨hb, h⟩ | ⟨_, h⟩
    · cases beq_t hb
      exact a_R_findsNext_48 S.1 h (n_R_findsNext_48 S gF)
    cases h
theorem n_R_findsNext_5 {z : Int32 × Mem} {RA : Nat → List (Option Value) → Mem → Prop} (S : Sm I_R_findsNext C_R_findsNext K_R_findsNext [7, 48, 72, 134] z RA) : ∀ (n : Nat) (x1 : Int32) (s : Mem), F_R_findsNext_5 n x1 s = some z → RA 7 [some (.ref 123), some (.int x1), none, none, none, none] s := by
  intro n
  induction n with
  | zero => intro x1 s h; exact nomatch (show (none : Option (Int32 × Mem)) = some z from h)
  | succ n ih =>
    intro x1 s h
    rw [e_R_findsNext_5] at h
    refine S.2 _ ?_ 700 6 _ _ (ck1_of rfl) h
    intro k ls s h
    replace h := cbr_c h
    rcases h with ⟨hb, h⟩ | ⟨_, h⟩
    · cases beq_t hb
      exact a_R_findsNext_5 S.1 h ih
    replace h := cbr_c h
    rcases h with ⟨hb, h⟩ | ⟨_, h⟩
    · cases beq_t hb
      exact a_R_findsNext_32 S.1 h (n_R_findsNext_32 S gF)
    cases h
theorem l_R_findsNext (d : Nat) (k : Nat) (av : List Value) (s : Mem) (y : Int32 × Mem) (h : C_R_findsNext k av s = some y) : Ctr (d + 0) (mtab k) av s y ∧ ((mtab k).2.2.2.2.2 = 77 → ∃ b rest, av = .ref b :: rest ∧ (b = 1001 ∨ b = 1002)) := by
  exact nomatch (show (none : Option (Int32 × Mem)) = some y from h)
theorem c_R_findsNext {av : List Value} {s : Mem} {z : Int32 × Mem} (h : A_R_findsNext av s = some z) (d : Nat) : Ctr (d + 1) I_R_findsNext av s z := by
  unfold A_R_findsNext at h
  split at h
  · replace h := cbr_n h
    obtain ⟨hb, h⟩ := h
    cases beq_t hb
    refine ctr_of (d := d + 0) (own := 11) (kps := [7, 48, 72, 134]) (code := K_R_findsNext) (Cl := C_R_findsNext) o_R_findsNext rfl (by decide) k_R_findsNext (l_R_findsNext d) (c1_of rfl) (Nat.le_of_ble_eq_true rfl) ?_
    intro RA S
    rw [e_R_findsNext] at h
    refine S.2 _ ?_ 700 0 _ _ (ck1_of rfl) h
    intro k ls s h
    replace h := cbr_c h
    rcases h with ⟨hb, h⟩ | ⟨_, h⟩
    · cases beq_t hb
      exact a_R_findsNext_5 S.1 h (n_R_findsNext_5 S gF)
    cases h
  · cases h
set_option maxRecDepth 1000000 in
theorem k_R_cellar : okC 11 I_R_cellar.2.2.1 I_R_cellar.2.1 I_R_cellar.2.2.2.1 [] K_R_cellar K_R_cellar = true := by decide +kernel
theorem l_R_cellar (d : Nat) (k : Nat) (av : List Value) (s : Mem) (y : Int32 × Mem) (h : C_R_cellar k av s = some y) : Ctr (d + 2) (mtab k) av s y ∧ ((mtab k).2.2.2.2.2 = 77 → ∃ b rest, av = .ref b :: rest ∧ (b = 1001 ∨ b = 1002)) := by
  unfold C_R_cellar at h
  replace h := cbr_c h
  rcases h with ⟨hb, h⟩ | ⟨_, h⟩
  · cases beq_t hb
    exact ⟨c_R_rowNumber h (d + 0), fun q => absurd q (by decide)⟩
  replace h := cbr_c h
  rcases h with ⟨hb, h⟩ | ⟨_, h⟩
  · cases beq_t hb
    exact ⟨c_R_countsFrom h (d + 1), fun q => absurd q (by decide)⟩
  replace h := cbr_c h
  rcases h with ⟨hb, h⟩ | ⟨_, h⟩
  · cases beq_t hb
    exact ⟨c_R_rowsOf h (d + 1), fun q => absurd q (by decide)⟩
  replace h := cbr_c h
  rcases h with ⟨hb, h⟩ | ⟨_, h⟩
  · cases beq_t hb
    exact ⟨c_R_isIn h (d + 1), fun q => absurd q (by decide)⟩
  replace h := cbr_c h
  rcases h with ⟨hb, h⟩ | ⟨_, h⟩
  · cases beq_t hb
    exact ⟨c_R_findsNext h (d + 1), fun q => absurd q (by decide)⟩
  cases h
theorem c_R_cellar {av : List Value} {s : Mem} {z : Int32 × Mem} (h : A_R_cellar av s = some z) (d : Nat) : Ctr (d + 3) I_R_cellar av s z := by
  unfold A_R_cellar at h
  split at h
  · replace h := cbr_n h
    obtain ⟨hb, h⟩ := h
    cases beq_t hb
    refine ctr_of (d := d + 2) (own := 11) (kps := []) (code := K_R_cellar) (Cl := C_R_cellar) o_R_cellar rfl (by decide) k_R_cellar (l_R_cellar d) (c1_of rfl) (Nat.le_of_ble_eq_true rfl) ?_
    intro RA S
    rw [e_R_cellar] at h
    refine S.2 _ ?_ 700 0 _ _ (ck1_of rfl) h
    intro k ls s h
    cases h
  · cases h
