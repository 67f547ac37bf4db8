set_option maxRecDepth 1000000 in
theorem k_C_drill : okC 10 I_C_drill.2.2.1 I_C_drill.2.1 I_C_drill.2.2.2.1 [] K_C_drill K_C_drill = true := by decide +kernel
theorem l_C_drill (d : Nat) (k : Nat) (av : List Value) (s : Mem) (y : Int32 × Mem) (h : C_C_drill k av s = some y) : Ctr (d + 1) (mtab k) av s y ∧ ((mtab k).2.2.2.2.2 = 77 → ∃ b rest, av = .ref b :: rest ∧ (b = 1001 ∨ b = 1002)) := by
  unfold C_C_drill at h
  replace h := cbr_c h
  rcases h with ⟨hb, h⟩ | ⟨_, h⟩
  · cases beq_t hb
    exact ⟨c_D_isPermutation h (d + 0), fun q => absurd q (by decide)⟩
  cases h
theorem c_C_drill {av : List Value} {s : Mem} {z : Int32 × Mem} (h : A_C_drill av s = some z) (d : Nat) : Ctr (d + 2) I_C_drill av s z := by
  unfold A_C_drill at h
  split at h
  · replace h := cbr_n h
    obtain ⟨hb, h⟩ := h
    cases beq_t hb
    refine ctr_of (d := d + 1) (own := 10) (kps := []) (code := K_C_drill) (Cl := C_C_drill) o_C_drill rfl (by decide) k_C_drill (l_C_drill d) (c1_of rfl) (Nat.le_of_ble_eq_true rfl) ?_
    intro RA S
    rw [e_C_drill] at h
    refine S.2 _ ?_ 700 0 _ _ (ck1_of rfl) h
    intro k ls s h
    cases h
  · cases h
set_option maxRecDepth 1000000 in
theorem k_D_placeBefore : okC 7 I_D_placeBefore.2.2.1 I_D_placeBefore.2.1 I_D_placeBefore.2.2.2.1 [5] K_D_placeBefore K_D_placeBefore = true := by decide +kernel
theorem a_D_placeBefore_4 {z : Int32 × Mem} {RA : Nat → List (Option Value) → Mem → Prop} (hm : ∀ (pc : Nat) (ls ls1 : List (Option Value)) (σ : Mem), ls1.length = I_D_placeBefore.2.2.1 → (∀ i v, lk ls1 i = some v → lk ls i = some v) → RA pc ls1 σ → RA pc ls σ) {f : Int32 → Int32 → Int32 → Mem → Option (Int32 × Mem)} {ls : List (Option Value)} {s : Mem} (h : A_D_placeBefore_4 f ls s = some z) (hf : ∀ (x1 : Int32) (x2 : Int32) (x3 : Int32) (s : Mem), f x1 x2 x3 s = some z → RA 5 [none, some (.int x1), some (.int x2), some (.int x3)] s) : RA 5 ls s := by
  unfold A_D_placeBefore_4 at h
  split at h
  · rename_i a0 a1 a2 e0 e1 e2
    refine hm _ _ [none, some (.int a0), some (.int a1), some (.int a2)] _ rfl (fun i v hv => ?_) (hf _ _ _ _ h)
    match i, hv with
    | 0, hv => cases hv
    | 1, hv => exact e0.trans hv
    | 2, hv => exact e1.trans hv
    | 3, hv => exact e2.trans hv
    | i + 4, hv => cases hv
  · cases h
theorem n_D_placeBefore_4 {z : Int32 × Mem} {RA : Nat → List (Option Value) → Mem → Prop} (S : Sm I_D_placeBefore C_D_placeBefore K_D_placeBefore [5] z RA) : ∀ (n : Nat) (x1 : Int32) (x2 : Int32) (x3 : Int32) (s : Mem), F_D_placeBefore_4 n x1 x2 x3 s = some z → RA 5 [none, some (.int x1), some (.int x2), some (.int x3)] s := by
  intro n
  induction n with
  | zero => intro x1 x2 x3 s h; exact nomatch (show (none : Option (Int32 × Mem)) = some z from h)
  | succ n ih =>
    intro x1 x2 x3 s h
    rw [e_D_placeBefore_4] at h
    refine S.2 _ ?_ 700 5 _ _ (ck1_of rfl) h
    intro k ls s h
    replace h := cbr_c h
    rcases h with ⟨hb, h⟩ | ⟨_, h⟩
    · cases beq_t hb
      exact a_D_placeBefore_4 S.1 h ih
    cases h
theorem l_D_placeBefore (d : Nat) (k : Nat) (av : List Value) (s : Mem) (y : Int32 × Mem) (h : C_D_placeBefore k av s = some y) : Ctr (d + 0) (mtab k) av s y ∧ ((mtab k).2.2.2.2.2 = 77 → ∃ b rest, av = .ref b :: rest ∧ (b = 1001 ∨ b = 1002)) := by
  exact nomatch (show (none : Option (Int32 × Mem)) = some y from h)
theorem c_D_placeBefore {av : List Value} {s : Mem} {z : Int32 × Mem} (h : A_D_placeBefore av s = some z) (d : Nat) : Ctr (d + 1) I_D_placeBefore av s z := by
  unfold A_D_placeBefore at h
  split at h
  · refine ctr_of (d := d + 0) (own := 7) (kps := [5]) (code := K_D_placeBefore) (Cl := C_D_placeBefore) o_D_placeBefore rfl (by decide) k_D_placeBefore (l_D_placeBefore d) (c1_of rfl) (Nat.le_of_ble_eq_true rfl) ?_
    intro RA S
    rw [e_D_placeBefore] at h
    refine S.2 _ ?_ 700 0 _ _ (ck1_of rfl) h
    intro k ls s h
    replace h := cbr_c h
    rcases h with ⟨hb, h⟩ | ⟨_, h⟩
    · cases beq_t hb
      exact a_D_placeBefore_4 S.1 h (n_D_placeBefore_4 S gF)
    cases h
  · cases h
set_option maxRecDepth 1000000 in
theorem k_D_roundOf : okC 7 I_D_roundOf.2.2.1 I_D_roundOf.2.1 I_D_roundOf.2.2.2.1 [8] K_D_roundOf K_D_roundOf = true := by decide +kernel
theorem a_D_roundOf_6 {z : Int32 × Mem} {RA : Nat → List (Option Value) → Mem → Prop} (hm : ∀ (pc : Nat) (ls ls1 : List (Option Value)) (σ : Mem), ls1.length = I_D_roundOf.2.2.1 → (∀ i v, lk ls1 i = some v → lk ls i = some v) → RA pc ls1 σ → RA pc ls σ) {f : Int32 → Int32 → Int32 → Int32 → Mem → Option (Int32 × Mem)} {ls : List (Option Value)} {s : Mem} (h : A_D_roundOf_6 f ls s = some z) (hf : ∀ (x0 : Int32) (x1 : Int32) (x2 : Int32) (x3 : Int32) (s : Mem), f x0 x1 x2 x3 s = some z → RA 8 [some (.int x0), some (.int x1), some (.int x2), some (.int x3)] s) : RA 8 ls s := by
  unfold A_D_roundOf_6 at h
  split at h
  · rename_i a0 a1 a2 a3 e0 e1 e2 e3
    refine hm _ _ [some (.int a0), some (.int a1), some (.int a2), some (.int a3)] _ rfl (fun i v hv => ?_) (hf _ _ _ _ _ h)
    match i, hv with
    | 0, hv => exact e0.trans hv
    | 1, hv => exact e1.trans hv
    | 2, hv => exact e2.trans hv
    | 3, hv => exact e3.trans hv
    | i + 4, hv => cases hv
  · cases h
theorem n_D_roundOf_6 {z : Int32 × Mem} {RA : Nat → List (Option Value) → Mem → Prop} (S : Sm I_D_roundOf C_D_roundOf K_D_roundOf [8] z RA) : ∀ (n : Nat) (x0 : Int32) (x1 : Int32) (x2 : Int32) (x3 : Int32) (s : Mem), F_D_roundOf_6 n x0 x1 x2 x3 s = some z → RA 8 [some (.int x0), some (.int x1), some (.int x2), some (.int x3)] s := by
  intro n
  induction n with
  | zero => intro x0 x1 x2 x3 s h; exact nomatch (show (none : Option (Int32 × Mem)) = some z from h)
  | succ n ih =>
    intro x0 x1 x2 x3 s h
    rw [e_D_roundOf_6] at h
    refine S.2 _ ?_ 700 7 _ _ (ck1_of rfl) h
    intro k ls s h
    replace h := cbr_c h
    rcases h with ⟨hb, h⟩ | ⟨_, h⟩
    · cases beq_t hb
      exact a_D_roundOf_6 S.1 h ih
    cases h
theorem l_D_roundOf (d : Nat) (k : Nat) (av : List Value) (s : Mem) (y : Int32 × Mem) (h : C_D_roundOf k av s = some y) : Ctr (d + 1) (mtab k) av s y ∧ ((mtab k).2.2.2.2.2 = 77 → ∃ b rest, av = .ref b :: rest ∧ (b = 1001 ∨ b = 1002)) := by
  unfold C_D_roundOf at h
  replace h := cbr_c h
  rcases h with ⟨hb, h⟩ | ⟨_, h⟩
  · cases beq_t hb
    exact ⟨c_D_placeBefore h (d + 0), fun q => absurd q (by decide)⟩
  cases h
theorem c_D_roundOf {av : List Value} {s : Mem} {z : Int32 × Mem} (h : A_D_roundOf av s = some z) (d : Nat) : Ctr (d + 2) I_D_roundOf av s z := by
  unfold A_D_roundOf at h
  split at h
  · refine ctr_of (d := d + 1) (own := 7) (kps := [8]) (code := K_D_roundOf) (Cl := C_D_roundOf) o_D_roundOf rfl (by decide) k_D_roundOf (l_D_roundOf d) (c1_of rfl) (Nat.le_of_ble_eq_true rfl) ?_
    intro RA S
    rw [e_D_roundOf] at h
    refine S.2 _ ?_ 700 0 _ _ (ck1_of rfl) h
    intro k ls s h
    replace h := cbr_c h
    rcases h with ⟨hb, h⟩ | ⟨_, h⟩
    · cases beq_t hb
      exact a_D_roundOf_6 S.1 h (n_D_roundOf_6 S gF)
    cases h
  · cases h
set_option maxRecDepth 1000000 in
theorem k_D_roundsOf : okC 7 I_D_roundsOf.2.2.1 I_D_roundsOf.2.1 I_D_roundsOf.2.2.2.1 [4, 26] K_D_roundsOf K_D_roundsOf = true := by decide +kernel
theorem a_D_roundsOf_4 {z : Int32 × Mem} {RA : Nat → List (Option Value) → Mem → Prop} (hm : ∀ (pc : Nat) (ls ls1 : List (Option Value)) (σ : Mem), ls1.length = I_D_roundsOf.2.2.1 → (∀ i v, lk ls1 i = some v → lk ls i = some v) → RA pc ls1 σ → RA pc ls σ) {f : Int32 → Int32 → Int32 → Mem → Option (Int32 × Mem)} {ls : List (Option Value)} {s : Mem} (h : A_D_roundsOf_4 f ls s = some z) (hf : ∀ (x0 : Int32) (x1 : Int32) (x2 : Int32) (s : Mem), f x0 x1 x2 s = some z → RA 4 [some (.int x0), some (.int x1), some (.int x2), none, none, none] s) : RA 4 ls s := by
  unfold A_D_roundsOf_4 at h
  split at h
  · rename_i a0 a1 a2 e0 e1 e2
    refine hm _ _ [some (.int a0), some (.int a1), some (.int a2), none, none, none] _ rfl (fun i v hv => ?_) (hf _ _ _ _ h)
    match i, hv with
    | 0, hv => exact e0.trans hv
    | 1, hv => exact e1.trans hv
    | 2, hv => exact e2.trans hv
    | 3, hv => cases hv
    | 4, hv => cases hv
    | 5, hv => cases hv
    | i + 6, hv => cases hv
  · cases h
theorem a_D_roundsOf_17 {z : Int32 × Mem} {RA : Nat → List (Option Value) → Mem → Prop} (hm : ∀ (pc : Nat) (ls ls1 : List (Option Value)) (σ : Mem), ls1.length = I_D_roundsOf.2.2.1 → (∀ i v, lk ls1 i = some v → lk ls i = some v) → RA pc ls1 σ → RA pc ls σ) {f : Int32 → Int32 → Int32 → Int32 → Int32 → Int32 → Mem → Option (Int32 × Mem)} {ls : List (Option Value)} {s : Mem} (h : A_D_roundsOf_17 f ls s = some z) (hf : ∀ (x0 : Int32) (x1 : Int32) (x2 : Int32) (x3 : Int32) (x4 : Int32) (x5 : Int32) (s : Mem), f x0 x1 x2 x3 x4 x5 s = some z → RA 26 [some (.int x0), some (.int x1), some (.int x2), some (.int x3), some (.int x4), some (.int x5)] s) : RA 26 ls s := by
  unfold A_D_roundsOf_17 at h
  split at h
  · rename_i a0 a1 a2 a3 a4 a5 e0 e1 e2 e3 e4 e5
    refine hm _ _ [some (.int a0), some (.int a1), some (.int a2), some (.int a3), some (.int a4), some (.int a5)] _ rfl (fun i v hv => ?_) (hf _ _ _ _ _ _ _ h)
    match i, hv with
    | 0, hv => exact e0.trans hv
    | 1, hv => exact e1.trans hv
    | 2, hv => exact e2.trans hv
    | 3, hv => exact e3.trans hv
    | 4, hv => exact e4.trans hv
    | 5, hv => exact e5.trans hv
    | i + 6, hv => cases hv
  · cases h
theorem n_D_roundsOf_17 {z : Int32 × Mem} {RA : Nat → List (Option Value) → Mem → Prop} (S : Sm I_D_roundsOf C_D_roundsOf K_D_roundsOf [4, 26] z RA) {k4 : Int32 → Int32 → Int32 → Mem → Option (Int32 × Mem)} (hk4 : ∀ (x0 : Int32) (x1 : Int32) (x2 : Int32) (s : Mem), k4 x0 x1 x2 s = some z → RA 4 [some (.int x0), some (.int x1), some (.int x2), none, none, none] s) : ∀ (n : Nat) (x0 : Int32) (x1 : Int32) (x2 : Int32) (x3 : Int32) (x4 : Int32) (x5 : Int32) (s : Mem), F_D_roundsOf_17 k4 n x0 x1 x2 x3 x4 x5 s = some z → RA 26 [some (.int x0), some (.int x1), some (.int x2), some (.int x3), some (.int x4), some (.int x5)] s := by
  intro n
  induction n with
  | zero => intro x0 x1 x2 x3 x4 x5 s h; exact nomatch (show (none : Option (Int32 × Mem)) = some z from h)
  | succ n ih =>
    intro x0 x1 x2 x3 x4 x5 s h
    rw [e_D_roundsOf_17] at h
    refine S.2 _ ?_ 700 19 _ _ (ck1_of rfl) h
    intro k ls s h
    replace h := cbr_c h
    rcases h with ⟨hb, h⟩ | ⟨_, h⟩
    · cases beq_t hb
      exact a_D_roundsOf_4 S.1 h hk4
    replace h := cbr_c h
    rcases h with ⟨hb, h⟩ | ⟨_, h⟩
    · cases beq_t hb
      exact a_D_roundsOf_17 S.1 h ih
    cases h
theorem n_D_roundsOf_4 {z : Int32 × Mem} {RA : Nat → List (Option Value) → Mem → Prop} (S : Sm I_D_roundsOf C_D_roundsOf K_D_roundsOf [4, 26] z RA) : ∀ (n : Nat) (x0 : Int32) (x1 : Int32) (x2 : Int32) (s : Mem), F_D_roundsOf_4 n x0 x1 x2 s = some z → RA 4 [some (.int x0), some (.int x1), some (.int x2), none, none, none] s := by
  intro n
  induction n with
  | zero => intro x0 x1 x2 s h; exact nomatch (show (none : Option (Int32 × Mem)) = some z from h)
  | succ n ih =>
    intro x0 x1 x2 s h
    rw [e_D_roundsOf_4] at h
    refine S.2 _ ?_ 700 5 _ _ (ck1_of rfl) h
    intro k ls s h
    replace h := cbr_c h
    rcases h with ⟨hb, h⟩ | ⟨_, h⟩
    · cases beq_t hb
      exact a_D_roundsOf_17 S.1 h (n_D_roundsOf_17 S ih gF)
    cases h
theorem l_D_roundsOf (d : Nat) (k : Nat) (av : List Value) (s : Mem) (y : Int32 × Mem) (h : C_D_roundsOf k av s = some y) : Ctr (d + 2) (mtab k) av s y ∧ ((mtab k).2.2.2.2.2 = 77 → ∃ b rest, av = .ref b :: rest ∧ (b = 1001 ∨ b = 1002)) := by
  unfold C_D_roundsOf at h
  replace h := cbr_c h
  rcases h with ⟨hb, h⟩ | ⟨_, h⟩
  · cases beq_t hb
    exact ⟨c_D_roundOf h (d + 0), fun q => absurd q (by decide)⟩
  replace h := cbr_c h
  rcases h with ⟨hb, h⟩ | ⟨_, h⟩
  · cases beq_t hb
    exact ⟨c_JM_max h (d + 1), fun q => absurd q (by decide)⟩
  cases h
theorem c_D_roundsOf {av : List Value} {s : Mem} {z : Int32 × Mem} (h : A_D_roundsOf av s = some z) (d : Nat) : Ctr (d + 3) I_D_roundsOf av s z := by
  unfold A_D_roundsOf at h
  split at h
  · refine ctr_of (d := d + 2) (own := 7) (kps := [4, 26]) (code := K_D_roundsOf) (Cl := C_D_roundsOf) o_D_roundsOf rfl (by decide) k_D_roundsOf (l_D_roundsOf d) (c1_of rfl) (Nat.le_of_ble_eq_true rfl) ?_
    intro RA S
    rw [e_D_roundsOf] at h
    refine S.2 _ ?_ 700 0 _ _ (ck1_of rfl) h
    intro k ls s h
    replace h := cbr_c h
    rcases h with ⟨hb, h⟩ | ⟨_, h⟩
    · cases beq_t hb
      exact a_D_roundsOf_4 S.1 h (n_D_roundsOf_4 S gF)
    cases h
  · cases h
set_option maxRecDepth 1000000 in
theorem k_D_standsAt : okC 7 I_D_standsAt.2.2.1 I_D_standsAt.2.1 I_D_standsAt.2.2.2.1 [18] K_D_standsAt K_D_standsAt = true := by decide +kernel
theorem a_D_standsAt_12 {z : Int32 × Mem} {RA : Nat → List (Option Value) → Mem → Prop} (hm : ∀ (pc : Nat) (ls ls1 : List (Option Value)) (σ : Mem), ls1.length = I_D_standsAt.2.2.1 → (∀ i v, lk ls1 i = some v → lk ls i = some v) → RA pc ls1 σ → RA pc ls σ) {f : Int32 → Int32 → Int32 → Int32 → Mem → Option (Int32 × Mem)} {ls : List (Option Value)} {s : Mem} (h : A_D_standsAt_12 f ls s = some z) (hf : ∀ (x0 : Int32) (x3 : Int32) (x4 : Int32) (x5 : Int32) (s : Mem), f x0 x3 x4 x5 s = some z → RA 18 [some (.int x0), none, none, some (.int x3), some (.int x4), some (.int x5)] s) : RA 18 ls s := by
  unfold A_D_standsAt_12 at h
  split at h
  · rename_i a0 a1 a2 a3 e0 e1 e2 e3
    refine hm _ _ [some (.int a0), none, none, some (.int a1), some (.int a2), some (.int a3)] _ rfl (fun i v hv => ?_) (hf _ _ _ _ _ h)
    match i, hv with
    | 0, hv => exact e0.trans hv
    | 1, hv => cases hv
    | 2, hv => cases hv
    | 3, hv => exact e1.trans hv
    | 4, hv => exact e2.trans hv
    | 5, hv => exact e3.trans hv
    | i + 6, hv => cases hv
  · cases h
theorem n_D_standsAt_12 {z : Int32 × Mem} {RA : Nat → List (Option Value) → Mem → Prop} (S : Sm I_D_standsAt C_D_standsAt K_D_standsAt [18] z RA) : ∀ (n : Nat) (x0 : Int32) (x3 : Int32) (x4 : Int32) (x5 : Int32) (s : Mem), F_D_standsAt_12 n x0 x3 x4 x5 s = some z → RA 18 [some (.int x0), none, none, some (.int x3), some (.int x4), some (.int x5)] s := by
  intro n
  induction n with
  | zero => intro x0 x3 x4 x5 s h; exact nomatch (show (none : Option (Int32 × Mem)) = some z from h)
  | succ n ih =>
    intro x0 x3 x4 x5 s h
    rw [e_D_standsAt_12] at h
    refine S.2 _ ?_ 700 13 _ _ (ck1_of rfl) h
    intro k ls s h
    replace h := cbr_c h
    rcases h with ⟨hb, h⟩ | ⟨_, h⟩
    · cases beq_t hb
      exact a_D_standsAt_12 S.1 h ih
    cases h
theorem l_D_standsAt (d : Nat) (k : Nat) (av : List Value) (s : Mem) (y : Int32 × Mem) (h : C_D_standsAt k av s = some y) : Ctr (d + 2) (mtab k) av s y ∧ ((mtab k).2.2.2.2.2 = 77 → ∃ b rest, av = .ref b :: rest ∧ (b = 1001 ∨ b = 1002)) := by
  unfold C_D_standsAt at h
  replace h := cbr_c h
  rcases h with ⟨hb, h⟩ | ⟨_, h⟩
  · cases beq_t hb
    exact ⟨c_D_roundOf h (d + 0), fun q => absurd q (by decide)⟩
  replace h := cbr_c h
  rcases h with ⟨hb, h⟩ | ⟨_, h⟩
  · cases beq_t hb
    exact ⟨c_JM_max h (d + 1), fun q => absurd q (by decide)⟩
  replace h := cbr_c h
  rcases h with ⟨hb, h⟩ | ⟨_, h⟩
  · cases beq_t hb
    exact ⟨c_D_placeBefore h (d + 1), fun q => absurd q (by decide)⟩
  cases h
theorem c_D_standsAt {av : List Value} {s : Mem} {z : Int32 × Mem} (h : A_D_standsAt av s = some z) (d : Nat) : Ctr (d + 3) I_D_standsAt av s z := by
  unfold A_D_standsAt at h
  split at h
  · refine ctr_of (d := d + 2) (own := 7) (kps := [18]) (code := K_D_standsAt) (Cl := C_D_standsAt) o_D_standsAt rfl (by decide) k_D_standsAt (l_D_standsAt d) (c1_of rfl) (Nat.le_of_ble_eq_true rfl) ?_
    intro RA S
    rw [e_D_standsAt] at h
    refine S.2 _ ?_ 700 0 _ _ (ck1_of rfl) h
    intro k ls s h
    replace h := cbr_c h
    rcases h with ⟨hb, h⟩ | ⟨_, h⟩
    · cases beq_t hb
      exact a_D_standsAt_12 S.1 h (n_D_standsAt_12 S gF)
    cases h
  · cases h
set_option maxRecDepth 1000000 in
theorem k_C_drilled : okC 10 I_C_drilled.2.2.1 I_C_drilled.2.1 I_C_drilled.2.2.2.1 [] K_C_drilled K_C_drilled = true := by decide +kernel
theorem l_C_drilled (d : Nat) (k : Nat) (av : List Value) (s : Mem) (y : Int32 × Mem) (h : C_C_drilled k av s = some y) : Ctr (d + 3) (mtab k) av s y ∧ ((mtab k).2.2.2.2.2 = 77 → ∃ b rest, av = .ref b :: rest ∧ (b = 1001 ∨ b = 1002)) := by
  unfold C_C_drilled at h
  replace h := cbr_c h
  rcases h with ⟨hb, h⟩ | ⟨_, h⟩
  · cases beq_t hb
    exact ⟨c_D_roundsOf h (d + 0), fun q => absurd q (by decide)⟩
  replace h := cbr_c h
  rcases h with ⟨hb, h⟩ | ⟨_, h⟩
  · cases beq_t hb
    exact ⟨c_C_within h (d + 2), fun q => absurd q (by decide)⟩
  replace h := cbr_c h
  rcases h with ⟨hb, h⟩ | ⟨_, h⟩
  · cases beq_t hb
    exact ⟨c_D_standsAt h (d + 0), fun q => absurd q (by decide)⟩
  cases h
theorem c_C_drilled {av : List Value} {s : Mem} {z : Int32 × Mem} (h : A_C_drilled av s = some z) (d : Nat) : Ctr (d + 4) I_C_drilled av s z := by
  unfold A_C_drilled at h
  split at h
  · replace h := cbr_n h
    obtain ⟨hb, h⟩ := h
    cases beq_t hb
    refine ctr_of (d := d + 3) (own := 10) (kps := []) (code := K_C_drilled) (Cl := C_C_drilled) o_C_drilled rfl (by decide) k_C_drilled (l_C_drilled d) (c1_of rfl) (Nat.le_of_ble_eq_true rfl) ?_
    intro RA S
    rw [e_C_drilled] at h
    refine S.2 _ ?_ 700 0 _ _ (ck1_of rfl) h
    intro k ls s h
    cases h
  · cases h
set_option maxRecDepth 1000000 in
theorem k_D_isFraction : okC 7 I_D_isFraction.2.2.1 I_D_isFraction.2.1 I_D_isFraction.2.2.2.1 [] K_D_isFraction K_D_isFraction = true := by decide +kernel
theorem l_D_isFraction (d : Nat) (k : Nat) (av : List Value) (s : Mem) (y : Int32 × Mem) (h : C_D_isFraction k av s = some y) : Ctr (d + 1) (mtab k) av s y ∧ ((mtab k).2.2.2.2.2 = 77 → ∃ b rest, av = .ref b :: rest ∧ (b = 1001 ∨ b = 1002)) := by
  unfold C_D_isFraction at h
  replace h := cbr_c h
  rcases h with ⟨hb, h⟩ | ⟨_, h⟩
  · cases beq_t hb
    exact ⟨c_C_within h (d + 0), fun q => absurd q (by decide)⟩
  cases h
theorem c_D_isFraction {av : List Value} {s : Mem} {z : Int32 × Mem} (h : A_D_isFraction av s = some z) (d : Nat) : Ctr (d + 2) I_D_isFraction av s z := by
  unfold A_D_isFraction at h
  split at h
  · refine ctr_of (d := d + 1) (own := 7) (kps := []) (code := K_D_isFraction) (Cl := C_D_isFraction) o_D_isFraction rfl (by decide) k_D_isFraction (l_D_isFraction d) (c1_of rfl) (Nat.le_of_ble_eq_true rfl) ?_
    intro RA S
    rw [e_D_isFraction] at h
    refine S.2 _ ?_ 700 0 _ _ (ck1_of rfl) h
    intro k ls s h
    cases h
  · cases h
set_option maxRecDepth 1000000 in
theorem k_D_simplestBetween : okC 7 I_D_simplestBetween.2.2.1 I_D_simplestBetween.2.1 I_D_simplestBetween.2.2.2.1 [60] K_D_simplestBetween K_D_simplestBetween = true := by decide +kernel
theorem a_D_simplestBetween_40 {z : Int32 × Mem} {RA : Nat → List (Option Value) → Mem → Prop} (hm : ∀ (pc : Nat) (ls ls1 : List (Option Value)) (σ : Mem), ls1.length = I_D_simplestBetween.2.2.1 → (∀ i v, lk ls1 i = some v → lk ls i = some v) → RA pc ls1 σ → RA pc ls σ) {f : Int32 → Int32 → Int32 → Int32 → Mem → Option (Int32 × Mem)} {ls : List (Option Value)} {s : Mem} (h : A_D_simplestBetween_40 f ls s = some z) (hf : ∀ (x3 : Int32) (x4 : Int32) (x5 : Int32) (x6 : Int32) (s : Mem), f x3 x4 x5 x6 s = some z → RA 60 [none, none, none, some (.int x3), some (.int x4), some (.int x5), some (.int x6), none] s) : RA 60 ls s := by
  unfold A_D_simplestBetween_40 at h
  split at h
  · rename_i a0 a1 a2 a3 e0 e1 e2 e3
    refine hm _ _ [none, none, none, some (.int a0), some (.int a1), some (.int a2), some (.int a3), none] _ rfl (fun i v hv => ?_) (hf _ _ _ _ _ h)
    match i, hv with
    | 0, hv => cases hv
    | 1, hv => cases hv
    | 2, hv => cases hv
    | 3, hv => exact e0.trans hv
    | 4, hv => exact e1.trans hv
    | 5, hv => exact e2.trans hv
    | 6, hv => exact e3.trans hv
    | 7, hv => cases hv
    | i + 8, hv => cases hv
  · cases h
theorem n_D_simplestBetween_40 {z : Int32 × Mem} {RA : Nat → List (Option Value) → Mem → Prop} (S : Sm I_D_simplestBetween C_D_simplestBetween K_D_simplestBetween [60] z RA) : ∀ (n : Nat) (x3 : Int32) (x4 : Int32) (x5 : Int32) (x6 : Int32) (s : Mem), F_D_simplestBetween_40 n x3 x4 x5 x6 s = some z → RA 60 [none, none, none, some (.int x3), some (.int x4), some (.int x5), some (.int x6), none] s := by
  intro n
  induction n with
  | zero => intro x3 x4 x5 x6 s h; exact nomatch (show (none : Option (Int32 × Mem)) = some z from h)
  | succ n ih =>
    intro x3 x4 x5 x6 s h
    rw [e_D_simplestBetween_40] at h
    refine S.2 _ ?_ 700 41 _ _ (ck1_of rfl) h
    intro k ls s h
    replace h := cbr_c h
    rcases h with ⟨hb, h⟩ | ⟨_, h⟩
    · cases beq_t hb
      exact a_D_simplestBetween_40 S.1 h ih
    cases h
theorem l_D_simplestBetween (d : Nat) (k : Nat) (av : List Value) (s : Mem) (y : Int32 × Mem) (h : C_D_simplestBetween k av s = some y) : Ctr (d + 1) (mtab k) av s y ∧ ((mtab k).2.2.2.2.2 = 77 → ∃ b rest, av = .ref b :: rest ∧ (b = 1001 ∨ b = 1002)) := by
  unfold C_D_simplestBetween at h
  replace h := cbr_c h
  rcases h with ⟨hb, h⟩ | ⟨_, h⟩
  · cases beq_t hb
    exact ⟨c_JM_max h (d + 0), fun q => absurd q (by decide)⟩
  cases h
theorem c_D_simplestBetween {av : List Value} {s : Mem} {z : Int32 × Mem} (h : A_D_simplestBetween av s = some z) (d : Nat) : Ctr (d + 2) I_D_simplestBetween av s z := by
  unfold A_D_simplestBetween at h
  split at h
  · refine ctr_of (d := d + 1) (own := 7) (kps := [60]) (code := K_D_simplestBetween) (Cl := C_D_simplestBetween) o_D_simplestBetween rfl (by decide) k_D_simplestBetween (l_D_simplestBetween d) (c1_of rfl) (Nat.le_of_ble_eq_true rfl) ?_
    intro RA S
    rw [e_D_simplestBetween] at h
    refine S.2 _ ?_ 700 0 _ _ (ck1_of rfl) h
    intro k ls s h
    replace h := cbr_c h
    rcases h with ⟨hb, h⟩ | ⟨_, h⟩
    · cases beq_t hb
      exact a_D_simplestBetween_40 S.1 h (n_D_simplestBetween_40 S gF)
    cases h
  · cases h
set_option maxRecDepth 1000000 in
theorem k_C_between : okC 10 I_C_between.2.2.1 I_C_between.2.1 I_C_between.2.2.2.1 [] K_C_between K_C_between = true := by decide +kernel
theorem l_C_between (d : Nat) (k : Nat) (av : List Value) (s : Mem) (y : Int32 × Mem) (h : C_C_between k av s = some y) : Ctr (d + 2) (mtab k) av s y ∧ ((mtab k).2.2.2.2.2 = 77 → ∃ b rest, av = .ref b :: rest ∧ (b = 1001 ∨ b = 1002)) := by
  unfold C_C_between at h
  replace h := cbr_c h
  rcases h with ⟨hb, h⟩ | ⟨_, h⟩
  · cases beq_t hb
    exact ⟨c_D_isFraction h (d + 0), fun q => absurd q (by decide)⟩
  replace h := cbr_c h
  rcases h with ⟨hb, h⟩ | ⟨_, h⟩
  · cases beq_t hb
    exact ⟨c_D_simplestBetween h (d + 0), fun q => absurd q (by decide)⟩
  cases h
theorem c_C_between {av : List Value} {s : Mem} {z : Int32 × Mem} (h : A_C_between av s = some z) (d : Nat) : Ctr (d + 3) I_C_between av s z := by
  unfold A_C_between at h
  split at h
  · replace h := cbr_n h
    obtain ⟨hb, h⟩ := h
    cases beq_t hb
    refine ctr_of (d := d + 2) (own := 10) (kps := []) (code := K_C_between) (Cl := C_C_between) o_C_between rfl (by decide) k_C_between (l_C_between d) (c1_of rfl) (Nat.le_of_ble_eq_true rfl) ?_
    intro RA S
    rw [e_C_between] at h
    refine S.2 _ ?_ 700 0 _ _ (ck1_of rfl) h
    intro k ls s h
    cases h
  · cases h
set_option maxRecDepth 1000000 in
theorem k_D_ringStart : okC 7 I_D_ringStart.2.2.1 I_D_ringStart.2.1 I_D_ringStart.2.2.2.1 [] K_D_ringStart K_D_ringStart = true := by decide +kernel
theorem l_D_ringStart (d : Nat) (k : Nat) (av : List Value) (s : Mem) (y : Int32 × Mem) (h : C_D_ringStart k av s = some y) : Ctr (d + 0) (mtab k) av s y ∧ ((mtab k).2.2.2.2.2 = 77 → ∃ b rest, av = .ref b :: rest ∧ (b = 1001 ∨ b = 1002)) := by
  exact nomatch (show (none : Option (Int32 × Mem)) = some y from h)
theorem c_D_ringStart {av : List Value} {s : Mem} {z : Int32 × Mem} (h : A_D_ringStart av s = some z) (d : Nat) : Ctr (d + 1) I_D_ringStart av s z := by
  unfold A_D_ringStart at h
  split at h
  · refine ctr_of (d := d + 0) (own := 7) (kps := []) (code := K_D_ringStart) (Cl := C_D_ringStart) o_D_ringStart rfl (by decide) k_D_ringStart (l_D_ringStart d) (c1_of rfl) (Nat.le_of_ble_eq_true rfl) ?_
    intro RA S
    rw [e_D_ringStart] at h
    refine S.2 _ ?_ 700 0 _ _ (ck1_of rfl) h
    intro k ls s h
    cases h
  · cases h
set_option maxRecDepth 1000000 in
theorem k_D_spiralPlace : okC 7 I_D_spiralPlace.2.2.1 I_D_spiralPlace.2.1 I_D_spiralPlace.2.2.2.1 [8] K_D_spiralPlace K_D_spiralPlace = true := by decide +kernel
theorem a_D_spiralPlace_6 {z : Int32 × Mem} {RA : Nat → List (Option Value) → Mem → Prop} (hm : ∀ (pc : Nat) (ls ls1 : List (Option Value)) (σ : Mem), ls1.length = I_D_spiralPlace.2.2.1 → (∀ i v, lk ls1 i = some v → lk ls i = some v) → RA pc ls1 σ → RA pc ls σ) {f : Int32 → Int32 → Int32 → Mem → Option (Int32 × Mem)} {ls : List (Option Value)} {s : Mem} (h : A_D_spiralPlace_6 f ls s = some z) (hf : ∀ (x0 : Int32) (x1 : Int32) (x2 : Int32) (s : Mem), f x0 x1 x2 s = some z → RA 8 [some (.int x0), some (.int x1), some (.int x2), none, none, none] s) : RA 8 ls s := by
  unfold A_D_spiralPlace_6 at h
  split at h
  · rename_i a0 a1 a2 e0 e1 e2
    refine hm _ _ [some (.int a0), some (.int a1), some (.int a2), none, none, none] _ rfl (fun i v hv => ?_) (hf _ _ _ _ h)
    match i, hv with
    | 0, hv => exact e0.trans hv
    | 1, hv => exact e1.trans hv
    | 2, hv => exact e2.trans hv
    | 3, hv => cases hv
    | 4, hv => cases hv
    | 5, hv => cases hv
    | i + 6, hv => cases hv
  · cases h
theorem n_D_spiralPlace_6 {z : Int32 × Mem} {RA : Nat → List (Option Value) → Mem → Prop} (S : Sm I_D_spiralPlace C_D_spiralPlace K_D_spiralPlace [8] z RA) : ∀ (n : Nat) (x0 : Int32) (x1 : Int32) (x2 : Int32) (s : Mem), F_D_spiralPlace_6 n x0 x1 x2 s = some z → RA 8 [some (.int x0), some (.int x1), some (.int x2), none, none, none] s := by
  intro n
  induction n with
  | zero => intro x0 x1 x2 s h; exact nomatch (show (none : Option (Int32 × Mem)) = some z from h)
  | succ n ih =>
    intro x0 x1 x2 s h
    rw [e_D_spiralPlace_6] at h
    refine S.2 _ ?_ 700 7 _ _ (ck1_of rfl) h
    intro k ls s h
    replace h := cbr_c h
    rcases h with ⟨hb, h⟩ | ⟨_, h⟩
    · cases beq_t hb
      exact a_D_spiralPlace_6 S.1 h ih
    cases h
theorem l_D_spiralPlace (d : Nat) (k : Nat) (av : List Value) (s : Mem) (y : Int32 × Mem) (h : C_D_spiralPlace k av s = some y) : Ctr (d + 1) (mtab k) av s y ∧ ((mtab k).2.2.2.2.2 = 77 → ∃ b rest, av = .ref b :: rest ∧ (b = 1001 ∨ b = 1002)) := by
  unfold C_D_spiralPlace at h
  replace h := cbr_c h
  rcases h with ⟨hb, h⟩ | ⟨_, h⟩
  · cases beq_t hb
    exact ⟨c_D_ringStart h (d + 0), fun q => absurd q (by decide)⟩
  cases h
theorem c_D_spiralPlace {av : List Value} {s : Mem} {z : Int32 × Mem} (h : A_D_spiralPlace av s = some z) (d : Nat) : Ctr (d + 2) I_D_spiralPlace av s z := by
  unfold A_D_spiralPlace at h
  split at h
  · refine ctr_of (d := d + 1) (own := 7) (kps := [8]) (code := K_D_spiralPlace) (Cl := C_D_spiralPlace) o_D_spiralPlace rfl (by decide) k_D_spiralPlace (l_D_spiralPlace d) (c1_of rfl) (Nat.le_of_ble_eq_true rfl) ?_
    intro RA S
    rw [e_D_spiralPlace] at h
    refine S.2 _ ?_ 700 0 _ _ (ck1_of rfl) h
    intro k ls s h
    replace h := cbr_c h
    rcases h with ⟨hb, h⟩ | ⟨_, h⟩
    · cases beq_t hb
      exact a_D_spiralPlace_6 S.1 h (n_D_spiralPlace_6 S gF)
    cases h
  · cases h
set_option maxRecDepth 1000000 in
theorem k_C_spiral : okC 10 I_C_spiral.2.2.1 I_C_spiral.2.1 I_C_spiral.2.2.2.1 [] K_C_spiral K_C_spiral = true := by decide +kernel
theorem l_C_spiral (d : Nat) (k : Nat) (av : List Value) (s : Mem) (y : Int32 × Mem) (h : C_C_spiral k av s = some y) : Ctr (d + 2) (mtab k) av s y ∧ ((mtab k).2.2.2.2.2 = 77 → ∃ b rest, av = .ref b :: rest ∧ (b = 1001 ∨ b = 1002)) := by
  unfold C_C_spiral at h
  replace h := cbr_c h
  rcases h with ⟨hb, h⟩ | ⟨_, h⟩
  · cases beq_t hb
    exact ⟨c_C_within h (d + 1), fun q => absurd q (by decide)⟩
  replace h := cbr_c h
  rcases h with ⟨hb, h⟩ | ⟨_, h⟩
  · cases beq_t hb
    exact ⟨c_D_spiralPlace h (d + 0), fun q => absurd q (by decide)⟩
  cases h
theorem c_C_spiral {av : List Value} {s : Mem} {z : Int32 × Mem} (h : A_C_spiral av s = some z) (d : Nat) : Ctr (d + 3) I_C_spiral av s z := by
  unfold A_C_spiral at h
  split at h
  · replace h := cbr_n h
    obtain ⟨hb, h⟩ := h
    cases beq_t hb
    refine ctr_of (d := d + 2) (own := 10) (kps := []) (code := K_C_spiral) (Cl := C_C_spiral) o_C_spiral rfl (by decide) k_C_spiral (l_C_spiral d) (c1_of rfl) (Nat.le_of_ble_eq_true rfl) ?_
    intro RA S
    rw [e_C_spiral] at h
    refine S.2 _ ?_ 700 0 _ _ (ck1_of rfl) h
    intro k ls s h
    cases h
  · cases h
set_option maxRecDepth 1000000 in
theorem k_D_spiralStep : okC 7 I_D_spiralStep.2.2.1 I_D_spiralStep.2.1 I_D_spiralStep.2.2.2.1 [] K_D_spiralStep K_D_spiralStep = true := by decide +kernel
theorem l_D_spiralStep (d : Nat) (k : Nat) (av : List Value) (s : Mem) (y : Int32 × Mem) (h : C_D_spiralStep k av s = some y) : Ctr (d + 1) (mtab k) av s y ∧ ((mtab k).2.2.2.2.2 = 77 → ∃ b rest, av = .ref b :: rest ∧ (b = 1001 ∨ b = 1002)) := by
  unfold C_D_spiralStep at h
  replace h := cbr_c h
  rcases h with ⟨hb, h⟩ | ⟨_, h⟩
  · cases beq_t hb
    exact ⟨c_JM_abs h (d + 0), fun q => absurd q (by decide)⟩
  replace h := cbr_c h
  rcases h with ⟨hb, h⟩ | ⟨_, h⟩
  · cases beq_t hb
    exact ⟨c_JM_max h (d + 0), fun q => absurd q (by decide)⟩
  replace h := cbr_c h
  rcases h with ⟨hb, h⟩ | ⟨_, h⟩
  · cases beq_t hb
    exact ⟨c_D_ringStart h (d + 0), fun q => absurd q (by decide)⟩
  cases h
theorem c_D_spiralStep {av : List Value} {s : Mem} {z : Int32 × Mem} (h : A_D_spiralStep av s = some z) (d : Nat) : Ctr (d + 2) I_D_spiralStep av s z := by
  unfold A_D_spiralStep at h
  split at h
  · refine ctr_of (d := d + 1) (own := 7) (kps := []) (code := K_D_spiralStep) (Cl := C_D_spiralStep) o_D_spiralStep rfl (by decide) k_D_spiralStep (l_D_spiralStep d) (c1_of rfl) (Nat.le_of_ble_eq_true rfl) ?_
    intro RA S
    rw [e_D_spiralStep] at h
    refine S.2 _ ?_ 700 0 _ _ (ck1_of rfl) h
    intro k ls s h
    cases h
  · cases h
set_option maxRecDepth 1000000 in
theorem k_C_winds : okC 10 I_C_winds.2.2.1 I_C_winds.2.1 I_C_winds.2.2.2.1 [] K_C_winds K_C_winds = true := by decide +kernel
theorem l_C_winds (d : Nat) (k : Nat) (av : List Value) (s : Mem) (y : Int32 × Mem) (h : C_C_winds k av s = some y) : Ctr (d + 2) (mtab k) av s y ∧ ((mtab k).2.2.2.2.2 = 77 → ∃ b rest, av = .ref b :: rest ∧ (b = 1001 ∨ b = 1002)) := by
  unfold C_C_winds at h
  replace h := cbr_c h
  rcases h with ⟨hb, h⟩ | ⟨_, h⟩
  · cases beq_t hb
    exact ⟨c_C_within h (d + 1), fun q => absurd q (by decide)⟩
  replace h := cbr_c h
  rcases h with ⟨hb, h⟩ | ⟨_, h⟩
  · cases beq_t hb
    exact ⟨c_D_spiralStep h (d + 0), fun q => absurd q (by decide)⟩
  cases h
theorem c_C_winds {av : List Value} {s : Mem} {z : Int32 × Mem} (h : A_C_winds av s = some z) (d : Nat) : Ctr (d + 3) I_C_winds av s z := by
  unfold A_C_winds at h
  split at h
  · replace h := cbr_n h
    obtain ⟨hb, h⟩ := h
    cases beq_t hb
    refine ctr_of (d := d + 2) (own := 10) (kps := []) (code := K_C_winds) (Cl := C_C_winds) o_C_winds rfl (by decide) k_C_winds (l_C_winds d) (c1_of rfl) (Nat.le_of_ble_eq_true rfl) ?_
    intro RA S
    rw [e_C_winds] at h
    refine S.2 _ ?_ 700 0 _ _ (ck1_of rfl) h
    intro k ls s h
    cases h
  · cases h
set_option maxRecDepth 1000000 in
theorem k_W_tell : okC 8 I_W_tell.2.2.1 I_W_tell.2.1 I_W_tell.2.2.2.1 [] K_W_tell K_W_tell = true := by decide +kernel
theorem l_W_tell (d : Nat) (k : Nat) (av : List Value) (s : Mem) (y : Int32 × Mem) (h : C_W_tell k av s = some y) : Ctr (d + 2) (mtab k) av s y ∧ ((mtab k).2.2.2.2.2 = 77 → ∃ b rest, av = .ref b :: rest ∧ (b = 1001 ∨ b = 1002)) := by
  unfold C_W_tell at h
  replace h := cbr_c h
  rcases h with ⟨hb, h⟩ | ⟨_, h⟩
  · cases beq_t hb
    exact ⟨c_W_clear h (d + 1), fun q => absurd q (by decide)⟩
  replace h := cbr_c h
  rcases h with ⟨hb, h⟩ | ⟨_, h⟩
  · cases beq_t hb
    exact ⟨c_C_within h (d + 1), fun q => absurd q (by decide)⟩
  replace h := cbr_c h
  rcases h with ⟨hb, h⟩ | ⟨_, h⟩
  · cases beq_t hb
    exact ⟨c_W_add h (d + 0), fun q => absurd q (by decide)⟩
  cases h
theorem c_W_tell {av : List Value} {s : Mem} {z : Int32 × Mem} (h : A_W_tell av s = some z) (d : Nat) : Ctr (d + 3) I_W_tell av s z := by
  unfold A_W_tell at h
  split at h
  · refine ctr_of (d := d + 2) (own := 8) (kps := []) (code := K_W_tell) (Cl := C_W_tell) o_W_tell rfl (by decide) k_W_tell (l_W_tell d) (c1_of rfl) (Nat.le_of_ble_eq_true rfl) ?_
    intro RA S
    rw [e_W_tell] at h
    refine S.2 _ ?_ 700 0 _ _ (ck1_of rfl) h
    intro k ls s h
    cases h
  · cases h
set_option maxRecDepth 1000000 in
theorem k_C_calls : okC 10 I_C_calls.2.2.1 I_C_calls.2.1 I_C_calls.2.2.2.1 [] K_C_calls K_C_calls = true := by decide +kernel
theorem l_C_calls (d : Nat) (k : Nat) (av : List Value) (s : Mem) (y : Int32 × Mem) (h : C_C_calls k av s = some y) : Ctr (d + 3) (mtab k) av s y ∧ ((mtab k).2.2.2.2.2 = 77 → ∃ b rest, av = .ref b :: rest ∧ (b = 1001 ∨ b = 1002)) := by
  unfold C_C_calls at h
  replace h := cbr_c h
  rcases h with ⟨hb, h⟩ | ⟨_, h⟩
  · cases beq_t hb
    exact ⟨c_W_tell h (d + 0), fun q => absurd q (by decide)⟩
  cases h
theorem c_C_calls {av : List Value} {s : Mem} {z : Int32 × Mem} (h : A_C_calls av s = some z) (d : Nat) : Ctr (d + 4) I_C_calls av s z := by
  unfold A_C_calls at h
  split at h
  · replace h := cbr_n h
    obtain ⟨hb, h⟩ := h
    cases beq_t hb
    refine ctr_of (d := d + 3) (own := 10) (kps := []) (code := K_C_calls) (Cl := C_C_calls) o_C_calls rfl (by decide) k_C_calls (l_C_calls d) (c1_of rfl) (Nat.le_of_ble_eq_true rfl) ?_
    intro RA S
    rw [e_C_calls] at h
    refine S.2 _ ?_ 700 0 _ _ (ck1_of rfl) h
    intro k ls s h
    cases h
  · cases h
set_option maxRecDepth 1000000 in
theorem k_JI_numberOfTrailingZeros : okC 13 I_JI_numberOfTrailingZeros.2.2.1 I_JI_numberOfTrailingZeros.2.1 I_JI_numberOfTrailingZeros.2.2.2.1 [] K_JI_numberOfTrailingZeros K_JI_numberOfTrailingZeros = true := by decide +kernel
theorem l_JI_numberOfTrailingZeros (d : Nat) (k : Nat) (av : List Value) (s : Mem) (y : Int32 × Mem) (h : C_JI_numberOfTrailingZeros k av s = some y) : Ctr (d + 0) (mtab k) av s y ∧ ((mtab k).2.2.2.2.2 = 77 → ∃ b rest, av = .ref b :: rest ∧ (b = 1001 ∨ b = 1002)) := by
  exact nomatch (show (none : Option (Int32 × Mem)) = some y from h)
theorem c_JI_numberOfTrailingZeros {av : List Value} {s : Mem} {z : Int32 × Mem} (h : A_JI_numberOfTrailingZeros av s = some z) (d : Nat) : Ctr (d + 1) I_JI_numberOfTrailingZeros av s z := by
  unfold A_JI_numberOfTrailingZeros at h
  split at h
  · refine ctr_of (d := d + 0) (own := 13) (kps := []) (code := K_JI_numberOfTrailingZeros) (Cl := C_JI_numberOfTrailingZeros) o_JI_numberOfTrailingZeros rfl (by decide) k_JI_numberOfTrailingZeros (l_JI_numberOfTrailingZeros d) (c1_of rfl) (Nat.le_of_ble_eq_true rfl) ?_
    intro RA S
    rw [e_JI_numberOfTrailingZeros] at h
    refine S.2 _ ?_ 700 0 _ _ (ck1_of rfl) h
    intro k ls s h
    cases h
  · cases h
set_option maxRecDepth 1000000 in
theorem k_D_leastUntold : okC 7 I_D_leastUntold.2.2.1 I_D_leastUntold.2.1 I_D_leastUntold.2.2.2.1 [4] K_D_leastUntold K_D_leastUntold = true := by decide +kernel
theorem a_D_leastUntold_4 {z : Int32 × Mem} {RA : Nat → List (Option Value) → Mem → Prop} (hm : ∀ (pc : Nat) (ls ls1 : List (Option Value)) (σ : Mem), ls1.length = I_D_leastUntold.2.2.1 → (∀ i v, lk ls1 i = some v → lk ls i = some v) → RA pc ls1 σ → RA pc ls σ) {f : Int32 → Int32 → Mem → Option (Int32 × Mem)} {ls : List (Option Value)} {s : Mem} (h : A_D_leastUntold_4 f ls s = some z) (hf : ∀ (x1 : Int32) (x2 : Int32) (s : Mem), f x1 x2 s = some z → RA 4 [some (.ref 28), some (.int x1), some (.int x2)] s) : RA 4 ls s := by
  unfold A_D_leastUntold_4 at h
  split at h
  · rename_i a0 a1 a2 e0 e1 e2
    replace h := cbr_n h
    obtain ⟨hb, h⟩ := h
    cases beq_t hb
    refine hm _ _ [some (.ref 28), some (.int a1), some (.int a2)] _ rfl (fun i v hv => ?_) (hf _ _ _ h)
    match i, hv with
    | 0, hv => exact e0.trans hv
    | 1, hv => exact e1.trans hv
    | 2, hv => exact e2.trans hv
    | i + 3, hv => cases hv
  · cases h
theorem n_D_leastUntold_4 {z : Int32 × Mem} {RA : Nat → List (Option Value) → Mem → Prop} (S : Sm I_D_leastUntold C_D_leastUntold K_D_leastUntold [4] z RA) : ∀ (n : Nat) (x1 : Int32) (x2 : Int32) (s : Mem), F_D_leastUntold_4 n x1 x2 s = some z → RA 4 [some (.ref 28), some (.int x1), some (.int x2)] s := by
  intro n
  induction n with
  | zero => intro x1 x2 s h; exact nomatch (show (none : Option (Int32 × Mem)) = some z from h)
  | succ n ih =>
    intro x1 x2 s h
    rw [e_D_leastUntold_4] at h
    refine S.2 _ ?_ 700 5 _ _ (ck1_of rfl) h
    intro k ls s h
    replace h := cbr_c h
    rcases h with ⟨hb, h⟩ | ⟨_, h⟩
    · cases beq_t hb
      exact a_D_leastUntold_4 S.1 h ih
    cases h
theorem l_D_leastUntold (d : Nat) (k : Nat) (av : List Value) (s : Mem) (y : Int32 × Mem) (h : C_D_leastUntold k av s = some y) : Ctr (d + 2) (mtab k) av s y ∧ ((mtab k).2.2.2.2.2 = 77 → ∃ b rest, av = .ref b :: rest ∧ (b = 1001 ∨ b = 1002)) := by
  unfold C_D_leastUntold at h
  replace h := cbr_c h
  rcases h with ⟨hb, h⟩ | ⟨_, h⟩
  · cases beq_t hb
    exact ⟨c_JI_numberOfTrailingZeros h (d + 1), fun q => absurd q (by decide)⟩
  replace h := cbr_c h
  rcases h with ⟨hb, h⟩ | ⟨_, h⟩
  · cases beq_t hb
    exact ⟨c_W_at h (d + 0), fun q => absurd q (by decide)⟩
  cases h
theorem c_D_leastUntold {av : List Value} {s : Mem} {z : Int32 × Mem} (h : A_D_leastUntold av s = some z) (d : Nat) : Ctr (d + 3) I_D_leastUntold av s z := by
  unfold A_D_leastUntold at h
  split at h
  · replace h := cbr_n h
    obtain ⟨hb, h⟩ := h
    cases beq_t hb
    refine ctr_of (d := d + 2) (own := 7) (kps := [4]) (code := K_D_leastUntold) (Cl := C_D_leastUntold) o_D_leastUntold rfl (by decide) k_D_leastUntold (l_D_leastUntold d) (c1_of rfl) (Nat.le_of_ble_eq_true rfl) ?_
    intro RA S
    rw [e_D_leastUntold] at h
    refine S.2 _ ?_ 700 0 _ _ (ck1_of rfl) h
    intro k ls s h
    replace h := cbr_c h
    rcases h with ⟨hb, h⟩ | ⟨_, h⟩
    · cases beq_t hb
      exact a_D_leastUntold_4 S.1 h (n_D_leastUntold_4 S gF)
    cases h
  · cases h
set_option maxRecDepth 1000000 in
theorem k_D_onlyOdd : okC 7 I_D_onlyOdd.2.2.1 I_D_onlyOdd.2.1 I_D_onlyOdd.2.2.2.1 [4] K_D_onlyOdd K_D_onlyOdd = true := by decide +kernel
theorem a_D_onlyOdd_4 {z : Int32 × Mem} {RA : Nat → List (Option Value) → Mem → Prop} (hm : ∀ (pc : Nat) (ls ls1 : List (Option Value)) (σ : Mem), ls1.length = I_D_onlyOdd.2.2.1 → (∀ i v, lk ls1 i = some v → lk ls i = some v) → RA pc ls1 σ → RA pc ls σ) {f : Int32 → Int32 → Mem → Option (Int32 × Mem)} {ls : List (Option Value)} {s : Mem} (h : A_D_onlyOdd_4 f ls s = some z) (hf : ∀ (x1 : Int32) (x2 : Int32) (s : Mem), f x1 x2 s = some z → RA 4 [some (.ref 28), some (.int x1), some (.int x2)] s) : RA 4 ls s := by
  unfold A_D_onlyOdd_4 at h
  split at h
  · rename_i a0 a1 a2 e0 e1 e2
    replace h := cbr_n h
    obtain ⟨hb, h⟩ := h
    cases beq_t hb
    refine hm _ _ [some (.ref 28), some (.int a1), some (.int a2)] _ rfl (fun i v hv => ?_) (hf _ _ _ h)
    match i, hv with
    | 0, hv => exact e0.trans hv
    | 1, hv => exact e1.trans hv
    | 2, hv => exact e2.trans hv
    | i + 3, hv => cases hv
  · cases h
theorem n_D_onlyOdd_4 {z : Int32 × Mem} {RA : Nat → List (Option Value) → Mem → Prop} (S : Sm I_D_onlyOdd C_D_onlyOdd K_D_onlyOdd [4] z RA) : ∀ (n : Nat) (x1 : Int32) (x2 : Int32) (s : Mem), F_D_onlyOdd_4 n x1 x2 s = some z → RA 4 [some (.ref 28), some (.int x1), some (.int x2)] s := by
  intro n
  induction n with
  | zero => intro x1 x2 s h; exact nomatch (show (none : Option (Int32 × Mem)) = some z from h)
  | succ n ih =>
    intro x1 x2 s h
    rw [e_D_onlyOdd_4] at h
    refine S.2 _ ?_ 700 5 _ _ (ck1_of rfl) h
    intro k ls s h
    replace h := cbr_c h
    rcases h with ⟨hb, h⟩ | ⟨_, h⟩
    · cases beq_t hb
      exact a_D_onlyOdd_4 S.1 h ih
    cases h
theorem l_D_onlyOdd (d : Nat) (k : Nat) (av : List Value) (s : Mem) (y : Int32 × Mem) (h : C_D_onlyOdd k av s = some y) : Ctr (d + 2) (mtab k) av s y ∧ ((mtab k).2.2.2.2.2 = 77 → ∃ b rest, av = .ref b :: rest ∧ (b = 1001 ∨ b = 1002)) := by
  unfold C_D_onlyOdd at h
  replace h := cbr_c h
  rcases h with ⟨hb, h⟩ | ⟨_, h⟩
  · cases beq_t hb
    exact ⟨c_JI_bitCount h (d + 1), fun q => absurd q (by decide)⟩
  replace h := cbr_c h
  rcases h with ⟨hb, h⟩ | ⟨_, h⟩
  · cases beq_t hb
    exact ⟨c_JI_numberOfTrailingZeros h (d + 1), fun q => absurd q (by decide)⟩
  replace h := cbr_c h
  rcases h with ⟨hb, h⟩ | ⟨_, h⟩
  · cases beq_t hb
    exact ⟨c_W_at h (d + 0), fun q => absurd q (by decide)⟩
  cases h
theorem c_D_onlyOdd {av : List Value} {s : Mem} {z : Int32 × Mem} (h : A_D_onlyOdd av s = some z) (d : Nat) : Ctr (d + 3) I_D_onlyOdd av s z := by
  unfold A_D_onlyOdd at h
  split at h
  · replace h := cbr_n h
    obtain ⟨hb, h⟩ := h
    cases beq_t hb
    refine ctr_of (d := d + 2) (own := 7) (kps := [4]) (code := K_D_onlyOdd) (Cl := C_D_onlyOdd) o_D_onlyOdd rfl (by decide) k_D_onlyOdd (l_D_onlyOdd d) (c1_of rfl) (Nat.le_of_ble_eq_true rfl) ?_
    intro RA S
    rw [e_D_onlyOdd] at h
    refine S.2 _ ?_ 700 0 _ _ (ck1_of rfl) h
    intro k ls s h
    replace h := cbr_c h
    rcases h with ⟨hb, h⟩ | ⟨_, h⟩
    · cases beq_t hb
      exact a_D_onlyOdd_4 S.1 h (n_D_onlyOdd_4 S gF)
    cases h
  · cases h
set_option maxRecDepth 1000000 in
theorem k_C_missing : okC 10 I_C_missing.2.2.1 I_C_missing.2.1 I_C_missing.2.2.2.1 [] K_C_missing K_C_missing = true := by decide +kernel
theorem l_C_missing (d : Nat) (k : Nat) (av : List Value) (s : Mem) (y : Int32 × Mem) (h : C_C_missing k av s = some y) : Ctr (d + 3) (mtab k) av s y ∧ ((mtab k).2.2.2.2.2 = 77 → ∃ b rest, av = .ref b :: rest ∧ (b = 1001 ∨ b = 1002)) := by
  unfold C_C_missing at h
  replace h := cbr_c h
  rcases h with ⟨hb, h⟩ | ⟨_, h⟩
  · cases beq_t hb
    exact ⟨c_D_leastUntold h (d + 0), fun q => absurd q (by decide)⟩
  replace h := cbr_c h
  rcases h with ⟨hb, h⟩ | ⟨_, h⟩
  · cases beq_t hb
    exact ⟨c_D_onlyOdd h (d + 0), fun q => absurd q (by decide)⟩
  cases h
theorem c_C_missing {av : List Value} {s : Mem} {z : Int32 × Mem} (h : A_C_missing av s = some z) (d : Nat) : Ctr (d + 4) I_C_missing av s z := by
  unfold A_C_missing at h
  split at h
  · replace h := cbr_n h
    obtain ⟨hb, h⟩ := h
    cases beq_t hb
    refine ctr_of (d := d + 3) (own := 10) (kps := []) (code := K_C_missing) (Cl := C_C_missing) o_C_missing rfl (by decide) k_C_missing (l_C_missing d) (c1_of rfl) (Nat.le_of_ble_eq_true rfl) ?_
    intro RA S
    rw [e_C_missing] at h
    refine S.2 _ ?_ 700 0 _ _ (ck1_of rfl) h
    intro k ls s h
    cases h
  · cases h
set_option maxRecDepth 1000000 in
theorem k_C_length : okC 10 I_C_length.2.2.1 I_C_length.2.1 I_C_length.2.2.2.1 [] K_C_length K_C_length = true := by decide +kernel
theorem l_C_length (d : Nat) (k : Nat) (av : List Value) (s : Mem) (y : Int32 × Mem) (h : C_C_length k av s = some y) : Ctr (d + 3) (mtab k) av s y ∧ ((mtab k).2.2.2.2.2 = 77 → ∃ b rest, av = .ref b :: rest ∧ (b = 1001 ∨ b = 1002)) := by
  unfold C_C_length at h
  replace h := cbr_c h
  rcases h with ⟨hb, h⟩ | ⟨_, h⟩
  · cases beq_t hb
    exact ⟨c_W_tell h (d + 0), fun q => absurd q (by decide)⟩
  cases h
theorem c_C_length {av : List Value} {s : Mem} {z : Int32 × Mem} (h : A_C_length av s = some z) (d : Nat) : Ctr (d + 4) I_C_length av s z := by
  unfold A_C_length at h
  split at h
  · replace h := cbr_n h
    obtain ⟨hb, h⟩ := h
    cases beq_t hb
    refine ctr_of (d := d + 3) (own := 10) (kps := []) (code := K_C_length) (Cl := C_C_length) o_C_length rfl (by decide) k_C_length (l_C_length d) (c1_of rfl) (Nat.le_of_ble_eq_true rfl) ?_
    intro RA S
    rw [e_C_length] at h
    refine S.2 _ ?_ 700 0 _ _ (ck1_of rfl) h
    intro k ls s h
    cases h
  · cases h
set_option maxRecDepth 1000000 in
theorem k_D_weigh : okC 7 I_D_weigh.2.2.1 I_D_weigh.2.1 I_D_weigh.2.2.2.1 [2] K_D_weigh K_D_weigh = true := by decide +kernel
theorem a_D_weigh_2 {z : Int32 × Mem} {RA : Nat → List (Option Value) → Mem → Prop} (hm : ∀ (pc : Nat) (ls ls1 : List (Option Value)) (σ : Mem), ls1.length = I_D_weigh.2.2.1 → (∀ i v, lk ls1 i = some v → lk ls i = some v) → RA pc ls1 σ → RA pc ls σ) {f : Int32 → Int32 → Mem → Option (Int32 × Mem)} {ls : List (Option Value)} {s : Mem} (h : A_D_weigh_2 f ls s = some z) (hf : ∀ (x2 : Int32) (x3 : Int32) (s : Mem), f x2 x3 s = some z → RA 2 [some (.ref 100), some (.ref 30), some (.int x2), some (.int x3), none, none] s) : RA 2 ls s := by
  unfold A_D_weigh_2 at h
  split at h
  · rename_i a0 a1 a2 a3 e0 e1 e2 e3
    replace h := cbr_n h
    obtain ⟨hb, h⟩ := h
    cases beq_t hb
    replace h := cbr_n h
    obtain ⟨hb, h⟩ := h
    cases beq_t hb
    refine hm _ _ [some (.ref 100), some (.ref 30), some (.int a2), some (.int a3), none, none] _ rfl (fun i v hv => ?_) (hf _ _ _ h)
    match i, hv with
    | 0, hv => exact e0.trans hv
    | 1, hv => exact e1.trans hv
    | 2, hv => exact e2.trans hv
    | 3, hv => exact e3.trans hv
    | 4, hv => cases hv
    | 5, hv => cases hv
    | i + 6, hv => cases hv
  · cases h
theorem n_D_weigh_2 {z : Int32 × Mem} {RA : Nat → List (Option Value) → Mem → Prop} (S : Sm I_D_weigh C_D_weigh K_D_weigh [2] z RA) : ∀ (n : Nat) (x2 : Int32) (x3 : Int32) (s : Mem), F_D_weigh_2 n x2 x3 s = some z → RA 2 [some (.ref 100), some (.ref 30), some (.int x2), some (.int x3), none, none] s := by
  intro n
  induction n with
  | zero => intro x2 x3 s h; exact nomatch (show (none : Option (Int32 × Mem)) = some z from h)
  | succ n ih =>
    intro x2 x3 s h
    rw [e_D_weigh_2] at h
    refine S.2 _ ?_ 700 3 _ _ (ck1_of rfl) h
    intro k ls s h
    replace h := cbr_c h
    rcases h with ⟨hb, h⟩ | ⟨_, h⟩
    · cases beq_t hb
      exact a_D_weigh_2 S.1 h ih
    cases h
theorem l_D_weigh (d : Nat) (k : Nat) (av : List Value) (s : Mem) (y : Int32 × Mem) (h : C_D_weigh k av s = some y) : Ctr (d + 2) (mtab k) av s y ∧ ((mtab k).2.2.2.2.2 = 77 → ∃ b rest, av = .ref b :: rest ∧ (b = 1001 ∨ b = 1002)) := by
  unfold C_D_weigh at h
  replace h := cbr_c h
  rcases h with ⟨hb, h⟩ | ⟨_, h⟩
  · cases beq_t hb
    exact ⟨c_JI_numberOfTrailingZeros h (d + 1), fun q => absurd q (by decide)⟩
  replace h := cbr_c h
  rcases h with ⟨hb, h⟩ | ⟨_, h⟩
  · cases beq_t hb
    exact ⟨c_W_at h (d + 0), fun q => absurd q (by decide)⟩
  cases h
theorem c_D_weigh {av : List Value} {s : Mem} {z : Int32 × Mem} (h : A_D_weigh av s = some z) (d : Nat) : Ctr (d + 3) I_D_weigh av s z := by
  unfold A_D_weigh at h
  split at h
  · replace h := cbr_n h
    obtain ⟨hb, h⟩ := h
    cases beq_t hb
    replace h := cbr_n h
    obtain ⟨hb, h⟩ := h
    cases beq_t hb
    refine ctr_of (d := d + 2) (own := 7) (kps := [2]) (code := K_D_weigh) (Cl := C_D_weigh) o_D_weigh rfl (by decide) k_D_weigh (l_D_weigh d) (c1_of rfl) (Nat.le_of_ble_eq_true rfl) ?_
    intro RA S
    rw [e_D_weigh] at h
    refine S.2 _ ?_ 700 0 _ _ (ck1_of rfl) h
    intro k ls s h
    replace h := cbr_c h
    rcases h with ⟨hb, h⟩ | ⟨_, h⟩
    · cases beq_t hb
      exact a_D_weigh_2 S.1 h (n_D_weigh_2 S gF)
    cases h
  · cases h
set_option maxRecDepth 1000000 in
theorem k_D_fewestRolls : okC 7 I_D_fewestRolls.2.2.1 I_D_fewestRolls.2.1 I_D_fewestRolls.2.2.2.1 [6] K_D_fewestRolls K_D_fewestRolls = true := by decide +kernel
theorem a_D_fewestRolls_4 {z : Int32 × Mem} {RA : Nat → List (Option Value) → Mem → Prop} (hm : ∀ (pc : Nat) (ls ls1 : List (Option Value)) (σ : Mem), ls1.length = I_D_fewestRolls.2.2.1 → (∀ i v, lk ls1 i = some v → lk ls i = some v) → RA pc ls1 σ → RA pc ls σ) {f : Int32 → Int32 → Int32 → Int32 → Mem → Option (Int32 × Mem)} {ls : List (Option Value)} {s : Mem} (h : A_D_fewestRolls_4 f ls s = some z) (hf : ∀ (x1 : Int32) (x2 : Int32) (x3 : Int32) (x4 : Int32) (s : Mem), f x1 x2 x3 x4 s = some z → RA 6 [some (.ref 100), some (.int x1), some (.int x2), some (.int x3), some (.int x4), none] s) : RA 6 ls s := by
  unfold A_D_fewestRolls_4 at h
  split at h
  · rename_i a0 a1 a2 a3 a4 e0 e1 e2 e3 e4
    replace h := cbr_n h
    obtain ⟨hb, h⟩ := h
    cases beq_t hb
    refine hm _ _ [some (.ref 100), some (.int a1), some (.int a2), some (.int a3), some (.int a4), none] _ rfl (fun i v hv => ?_) (hf _ _ _ _ _ h)
    match i, hv with
    | 0, hv => exact e0.trans hv
    | 1, hv => exact e1.trans hv
    | 2, hv => exact e2.trans hv
    | 3, hv => exact e3.trans hv
    | 4, hv => exact e4.trans hv
    | 5, hv => cases hv
    | i + 6, hv => cases hv
  · cases h
theorem n_D_fewestRolls_4 {z : Int32 × Mem} {RA : Nat → List (Option Value) → Mem → Prop} (S : Sm I_D_fewestRolls C_D_fewestRolls K_D_fewestRolls [6] z RA) : ∀ (n : Nat) (x1 : Int32) (x2 : Int32) (x3 : Int32) (x4 : Int32) (s : Mem), F_D_fewestRolls_4 n x1 x2 x3 x4 s = some z → RA 6 [some (.ref 100), some (.int x1), some (.int x2), some (.int x3), some (.int x4), none] s := by
  intro n
  induction n with
  | zero => intro x1 x2 x3 x4 s h; exact nomatch (show (none : Option (Int32 × Mem)) = some z from h)
  | succ n ih =>
    intro x1 x2 x3 x4 s h
    rw [e_D_fewestRolls_4] at h
    refine S.2 _ ?_ 700 5 _ _ (ck1_of rfl) h
    intro k ls s h
    replace h := cbr_c h
    rcases h with ⟨hb, h⟩ | ⟨_, h⟩
    · cases beq_t hb
      exact a_D_fewestRolls_4 S.1 h ih
    cases h
theorem l_D_fewestRolls (d : Nat) (k : Nat) (av : List Value) (s : Mem) (y : Int32 × Mem) (h : C_D_fewestRolls k av s = some y) : Ctr (d + 1) (mtab k) av s y ∧ ((mtab k).2.2.2.2.2 = 77 → ∃ b rest, av = .ref b :: rest ∧ (b = 1001 ∨ b = 1002)) := by
  unfold C_D_fewestRolls at h
  replace h := cbr_c h
  rcases h with ⟨hb, h⟩ | ⟨_, h⟩
  · cases beq_t hb
    exact ⟨c_JM_min h (d + 0), fun q => absurd q (by decide)⟩
  cases h
theorem c_D_fewestRolls {av : List Value} {s : Mem} {z : Int32 × Mem} (h : A_D_fewestRolls av s = some z) (d : Nat) : Ctr (d + 2) I_D_fewestRolls av s z := by
  unfold A_D_fewestRolls at h
  split at h
  · replace h := cbr_n h
    obtain ⟨hb, h⟩ := h
    cases beq_t hb
    refine ctr_of (d := d + 1) (own := 7) (kps := [6]) (code := K_D_fewestRolls) (Cl := C_D_fewestRolls) o_D_fewestRolls rfl (by decide) k_D_fewestRolls (l_D_fewestRolls d) (c1_of rfl) (Nat.le_of_ble_eq_true rfl) ?_
    intro RA S
    rw [e_D_fewestRolls] at h
    refine S.2 _ ?_ 700 0 _ _ (ck1_of rfl) h
    intro k ls s h
    replace h := cbr_c h
    rcases h with ⟨hb, h⟩ | ⟨_, h⟩
    · cases beq_t hb
      exact a_D_fewestRolls_4 S.1 h (n_D_fewestRolls_4 S gF)
    cases h
  · cases h
set_option maxRecDepth 1000000 in
theorem k_D_mostLeft : okC 7 I_D_mostLeft.2.2.1 I_D_mostLeft.2.1 I_D_mostLeft.2.2.2.1 [5] K_D_mostLeft K_D_mostLeft = true := by decide +kernel
theorem a_D_mostLeft_4 {z : Int32 × Mem} {RA : Nat → List (Option Value) → Mem → Prop} (hm : ∀ (pc : Nat) (ls ls1 : List (Option Value)) (σ : Mem), ls1.length = I_D_mostLeft.2.2.1 → (∀ i v, lk ls1 i = some v → lk ls i = some v) → RA pc ls1 σ → RA pc ls σ) {f : Int32 → Int32 → Int32 → Int32 → Mem → Option (Int32 × Mem)} {ls : List (Option Value)} {s : Mem} (h : A_D_mostLeft_4 f ls s = some z) (hf : ∀ (x1 : Int32) (x2 : Int32) (x3 : Int32) (x4 : Int32) (s : Mem), f x1 x2 x3 x4 s = some z → RA 5 [some (.ref 100), some (.int x1), some (.int x2), some (.int x3), some (.int x4), none] s) : RA 5 ls s := by
  unfold A_D_mostLeft_4 at h
  split at h
  · rename_i a0 a1 a2 a3 a4 e0 e1 e2 e3 e4
    replace h := cbr_n h
    obtain ⟨hb, h⟩ := h
    cases beq_t hb
    refine hm _ _ [some (.ref 100), some (.int a1), some (.int a2), some (.int a3), some (.int a4), none] _ rfl (fun i v hv => ?_) (hf _ _ _ _ _ h)
    match i, hv with
    | 0, hv => exact e0.trans hv
    | 1, hv => exact e1.trans hv
    | 2, hv => exact e2.trans hv
    | 3, hv => exact e3.trans hv
    | 4, hv => exact e4.trans hv
    | 5, hv => cases hv
    | i + 6, hv => cases hv
  · cases h
theorem n_D_mostLeft_4 {z : Int32 × Mem} {RA : Nat → List (Option Value) → Mem → Prop} (S : Sm I_D_mostLeft C_D_mostLeft K_D_mostLeft [5] z RA) : ∀ (n : Nat) (x1 : Int32) (x2 : Int32) (x3 : Int32) (x4 : Int32) (s : Mem), F_D_mostLeft_4 n x1 x2 x3 x4 s = some z → RA 5 [some (.ref 100), some (.int x1), some (.int x2), some (.int x3), some (.int x4), none] s := by
  intro n
  induction n with
  | zero => intro x1 x2 x3 x4 s h; exact nomatch (show (none : Option (Int32 × Mem)) = some z from h)
  | succ n ih =>
    intro x1 x2 x3 x4 s h
    rw [e_D_mostLeft_4] at h
    refine S.2 _ ?_ 700 5 _ _ (ck1_of rfl) h
    intro k ls s h
    replace h := cbr_c h
    rcases h with ⟨hb, h⟩ | ⟨_, h⟩
    · cases beq_t hb
      exact a_D_mostLeft_4 S.1 h ih
    cases h
theorem l_D_mostLeft (d : Nat) (k : Nat) (av : List Value) (s : Mem) (y : Int32 × Mem) (h : C_D_mostLeft k av s = some y) : Ctr (d + 1) (mtab k) av s y ∧ ((mtab k).2.2.2.2.2 = 77 → ∃ b rest, av = .ref b :: rest ∧ (b = 1001 ∨ b = 1002)) := by
  unfold C_D_mostLeft at h
  replace h := cbr_c h
  rcases h with ⟨hb, h⟩ | ⟨_, h⟩
  · cases beq_t hb
    exact ⟨c_JM_max h (d + 0), fun q => absurd q (by decide)⟩
  cases h
theorem c_D_mostLeft {av : List Value} {s : Mem} {z : Int32 × Mem} (h : A_D_mostLeft av s = some z) (d : Nat) : Ctr (d + 2) I_D_mostLeft av s z := by
  unfold A_D_mostLeft at h
  split at h
  · replace h := cbr_n h
    obtain ⟨hb, h⟩ := h
    cases beq_t hb
    refine ctr_of (d := d + 1) (own := 7) (kps := [5]) (code := K_D_mostLeft) (Cl := C_D_mostLeft) o_D_mostLeft rfl (by decide) k_D_mostLeft (l_D_mostLeft d) (c1_of rfl) (Nat.le_of_ble_eq_true rfl) ?_
    intro RA S
    rw [e_D_mostLeft] at h
    refine S.2 _ ?_ 700 0 _ _ (ck1_of rfl) h
    intro k ls s h
    replace h := cbr_c h
    rcases h with ⟨hb, h⟩ | ⟨_, h⟩
    · cases beq_t hb
      exact a_D_mostLeft_4 S.1 h (n_D_mostLeft_4 S gF)
    cases h
  · cases h
set_option maxRecDepth 1000000 in
theorem k_D_cutRolls : okC 7 I_D_cutRolls.2.2.1 I_D_cutRolls.2.1 I_D_cutRolls.2.2.2.1 [32] K_D_cutRolls K_D_cutRolls = true := by decide +kernel
theorem a_D_cutRolls_19 {z : Int32 × Mem} {RA : Nat → List (Option Value) → Mem → Prop} (hm : ∀ (pc : Nat) (ls ls1 : List (Option Value)) (σ : Mem), ls1.length = I_D_cutRolls.2.2.1 → (∀ i v, lk ls1 i = some v → lk ls i = some v) → RA pc ls1 σ → RA pc ls σ) {f : Int32 → Int32 → Int32 → Int32 → Mem → Option (Int32 × Mem)} {ls : List (Option Value)} {s : Mem} (h : A_D_cutRolls_19 f ls s = some z) (hf : ∀ (x2 : Int32) (x3 : Int32) (x4 : Int32) (x5 : Int32) (s : Mem), f x2 x3 x4 x5 s = some z → RA 32 [some (.ref 100), none, some (.int x2), some (.int x3), some (.int x4), some (.int x5)] s) : RA 32 ls s := by
  unfold A_D_cutRolls_19 at h
  split at h
  · rename_i a0 a1 a2 a3 a4 e0 e1 e2 e3 e4
    replace h := cbr_n h
    obtain ⟨hb, h⟩ := h
    cases beq_t hb
    refine hm _ _ [some (.ref 100), none, some (.int a1), some (.int a2), some (.int a3), some (.int a4)] _ rfl (fun i v hv => ?_) (hf _ _ _ _ _ h)
    match i, hv with
    | 0, hv => exact e0.trans hv
    | 1, hv => cases hv
    | 2, hv => exact e1.trans hv
    | 3, hv => exact e2.trans hv
    | 4, hv => exact e3.trans hv
    | 5, hv => exact e4.trans hv
    | i + 6, hv => cases hv
  · cases h
theorem n_D_cutRolls_19 {z : Int32 × Mem} {RA : Nat → List (Option Value) → Mem → Prop} (S : Sm I_D_cutRolls C_D_cutRolls K_D_cutRolls [32] z RA) : ∀ (n : Nat) (x2 : Int32) (x3 : Int32) (x4 : Int32) (x5 : Int32) (s : Mem), F_D_cutRolls_19 n x2 x3 x4 x5 s = some z → RA 32 [some (.ref 100), none, some (.int x2), some (.int x3), some (.int x4), some (.int x5)] s := by
  intro n
  induction n with
  | zero => intro x2 x3 x4 x5 s h; exact nomatch (show (none : Option (Int32 × Mem)) = some z from h)
  | succ n ih =>
    intro x2 x3 x4 x5 s h
    rw [e_D_cutRolls_19] at h
    refine S.2 _ ?_ 700 20 _ _ (ck1_of rfl) h
    intro k ls s h
    replace h := cbr_c h
    rcases h with ⟨hb, h⟩ | ⟨_, h⟩
    · cases beq_t hb
      exact a_D_cutRolls_19 S.1 h ih
    cases h
theorem l_D_cutRolls (d : Nat) (k : Nat) (av : List Value) (s : Mem) (y : Int32 × Mem) (h : C_D_cutRolls k av s = some y) : Ctr (d + 3) (mtab k) av s y ∧ ((mtab k).2.2.2.2.2 = 77 → ∃ b rest, av = .ref b :: rest ∧ (b = 1001 ∨ b = 1002)) := by
  unfold C_D_cutRolls at h
  replace h := cbr_c h
  rcases h with ⟨hb, h⟩ | ⟨_, h⟩
  · cases beq_t hb
    exact ⟨c_JM_min h (d + 2), fun q => absurd q (by decide)⟩
  replace h := cbr_c h
  rcases h with ⟨hb, h⟩ | ⟨_, h⟩
  · cases beq_t hb
    exact ⟨c_D_weigh h (d + 0), fun q => absurd q (by decide)⟩
  replace h := cbr_c h
  rcases h with ⟨hb, h⟩ | ⟨_, h⟩
  · cases beq_t hb
    exact ⟨c_D_mostLeft h (d + 1), fun q => absurd q (by decide)⟩
  replace h := cbr_c h
  rcases h with ⟨hb, h⟩ | ⟨_, h⟩
  · cases beq_t hb
    exact ⟨c_D_fewestRolls h (d + 1), fun q => absurd q (by decide)⟩
  cases h
theorem c_D_cutRolls {av : List Value} {s : Mem} {z : Int32 × Mem} (h : A_D_cutRolls av s = some z) (d : Nat) : Ctr (d + 4) I_D_cutRolls av s z := by
  unfold A_D_cutRolls at h
  split at h
  · replace h := cbr_n h
    obtain ⟨hb, h⟩ := h
    cases beq_t hb
    replace h := cbr_n h
    obtain ⟨hb, h⟩ := h
    cases beq_t hb
    refine ctr_of (d := d + 3) (own := 7) (kps := [32]) (code := K_D_cutRolls) (Cl := C_D_cutRolls) o_D_cutRolls rfl (by decide) k_D_cutRolls (l_D_cutRolls d) (c1_of rfl) (Nat.le_of_ble_eq_true rfl) ?_
    intro RA S
    rw [e_D_cutRolls] at h
    refine S.2 _ ?_ 700 0 _ _ (ck1_of rfl) h
    intro k ls s h
    replace h := cbr_c h
    rcases h with ⟨hb, h⟩ | ⟨_, h⟩
    · cases beq_t hb
      exact a_D_cutRolls_19 S.1 h (n_D_cutRolls_19 S gF)
    cases h
  · cases h
set_option maxRecDepth 1000000 in
theorem k_C_runner : okC 10 I_C_runner.2.2.1 I_C_runner.2.1 I_C_runner.2.2.2.1 [] K_C_runner K_C_runner = true := by decide +kernel
theorem l_C_runner (d : Nat) (k : Nat) (av : List Value) (s : Mem) (y : Int32 × Mem) (h : C_C_runner k av s = some y) : Ctr (d + 4) (mtab k) av s y ∧ ((mtab k).2.2.2.2.2 = 77 → ∃ b rest, av = .ref b :: rest ∧ (b = 1001 ∨ b = 1002)) := by
  unfold C_C_runner at h
  replace h := cbr_c h
  rcases h with ⟨hb, h⟩ | ⟨_, h⟩
  · cases beq_t hb
    exact ⟨c_C_within h (d + 3), fun q => absurd q (by decide)⟩
  replace h := cbr_c h
  rcases h with ⟨hb, h⟩ | ⟨_, h⟩
  · cases beq_t hb
    exact ⟨c_D_cutRolls h (d + 0), fun q => absurd q (by decide)⟩
  cases h
theorem c_C_runner {av : List Value} {s : Mem} {z : Int32 × Mem} (h : A_C_runner av s = some z) (d : Nat) : Ctr (d + 5) I_C_runner av s z := by
  unfold A_C_runner at h
  split at h
  · replace h := cbr_n h
    obtain ⟨hb, h⟩ := h
    cases beq_t hb
    refine ctr_of (d := d + 4) (own := 10) (kps := []) (code := K_C_runner) (Cl := C_C_runner) o_C_runner rfl (by decide) k_C_runner (l_C_runner d) (c1_of rfl) (Nat.le_of_ble_eq_true rfl) ?_
    intro RA S
    rw [e_C_runner] at h
    refine S.2 _ ?_ 700 0 _ _ (ck1_of rfl) h
    intro k ls s h
    cases h
  · cases h
set_option maxRecDepth 1000000 in
theorem k_C_wall : okC 10 I_C_wall.2.2.1 I_C_wall.2.1 I_C_wall.2.2.2.1 [] K_C_wall K_C_wall = true := by decide +kernel
theorem l_C_wall (d : Nat) (k : Nat) (av : List Value) (s : Mem) (y : Int32 × Mem) (h : C_C_wall k av s = some y) : Ctr (d + 3) (mtab k) av s y ∧ ((mtab k).2.2.2.2.2 = 77 → ∃ b rest, av = .ref b :: rest ∧ (b = 1001 ∨ b = 1002)) := by
  unfold C_C_wall at h
  replace h := cbr_c h
  rcases h with ⟨hb, h⟩ | ⟨_, h⟩
  · cases beq_t hb
    exact ⟨c_W_tell h (d + 0), fun q => absurd q (by decide)⟩
  cases h
theorem c_C_wall {av : List Value} {s : Mem} {z : Int32 × Mem} (h : A_C_wall av s = some z) (d : Nat) : Ctr (d + 4) I_C_wall av s z := by
  unfold A_C_wall at h
  split at h
  · replace h := cbr_n h
    obtain ⟨hb, h⟩ := h
    cases beq_t hb
    refine ctr_of (d := d + 3) (own := 10) (kps := []) (code := K_C_wall) (Cl := C_C_wall) o_C_wall rfl (by decide) k_C_wall (l_C_wall d) (c1_of rfl) (Nat.le_of_ble_eq_true rfl) ?_
    intro RA S
    rw [e_C_wall] at h
    refine S.2 _ ?_ 700 0 _ _ (ck1_of rfl) h
    intro k ls s h
    cases h
  · cases h
set_option maxRecDepth 1000000 in
theorem k_D_rampFoot : okC 7 I_D_rampFoot.2.2.1 I_D_rampFoot.2.1 I_D_rampFoot.2.2.2.1 [2] K_D_rampFoot K_D_rampFoot = true := by decide +kernel
theorem a_D_rampFoot_2 {z : Int32 × Mem} {RA : Nat → List (Option Value) → Mem → Prop} (hm : ∀ (pc : Nat) (ls ls1 : List (Option Value)) (σ : Mem), ls1.length = I_D_rampFoot.2.2.1 → (∀ i v, lk ls1 i = some v → lk ls i = some v) → RA pc ls1 σ → RA pc ls σ) {f : Int32 → Int32 → Int32 → Mem → Option (Int32 × Mem)} {ls : List (Option Value)} {s : Mem} (h : A_D_rampFoot_2 f ls s = some z) (hf : ∀ (x1 : Int32) (x2 : Int32) (x3 : Int32) (s : Mem), f x1 x2 x3 s = some z → RA 2 [some (.ref 32), some (.int x1), some (.int x2), some (.int x3)] s) : RA 2 ls s := by
  unfold A_D_rampFoot_2 at h
  split at h
  · rename_i a0 a1 a2 a3 e0 e1 e2 e3
    replace h := cbr_n h
    obtain ⟨hb, h⟩ := h
    cases beq_t hb
    refine hm _ _ [some (.ref 32), some (.int a1), some (.int a2), some (.int a3)] _ rfl (fun i v hv => ?_) (hf _ _ _ _ h)
    match i, hv with
    | 0, hv => exact e0.trans hv
    | 1, hv => exact e1.trans hv
    | 2, hv => exact e2.trans hv
    | 3, hv => exact e3.trans hv
    | i + 4, hv => cases hv
  · cases h
theorem n_D_rampFoot_2 {z : Int32 × Mem} {RA : Nat → List (Option Value) → Mem → Prop} (S : Sm I_D_rampFoot C_D_rampFoot K_D_rampFoot [2] z RA) : ∀ (n : Nat) (x1 : Int32) (x2 : Int32) (x3 : Int32) (s : Mem), F_D_rampFoot_2 n x1 x2 x3 s = some z → RA 2 [some (.ref 32), some (.int x1), some (.int x2), some (.int x3)] s := by
  intro n
  induction n with
  | zero => intro x1 x2 x3 s h; exact nomatch (show (none : Option (Int32 × Mem)) = some z from h)
  | succ n ih =>
    intro x1 x2 x3 s h
    rw [e_D_rampFoot_2] at h
    refine S.2 _ ?_ 700 3 _ _ (ck1_of rfl) h
    intro k ls s h
    replace h := cbr_c h
    rcases h with ⟨hb, h⟩ | ⟨_, h⟩
    · cases beq_t hb
      exact a_D_rampFoot_2 S.1 h ih
    cases h
theorem l_D_rampFoot (d : Nat) (k : Nat) (av : List Value) (s : Mem) (y : Int32 × Mem) (h : C_D_rampFoot k av s = some y) : Ctr (d + 2) (mtab k) av s y ∧ ((mtab k).2.2.2.2.2 = 77 → ∃ b rest, av = .ref b :: rest ∧ (b = 1001 ∨ b = 1002)) := by
  unfold C_D_rampFoot at h
  replace h := cbr_c h
  rcases h with ⟨hb, h⟩ | ⟨_, h⟩
  · cases beq_t hb
    exact ⟨c_JM_max h (d + 1), fun q => absurd q (by decide)⟩
  replace h := cbr_c h
  rcases h with ⟨hb, h⟩ | ⟨_, h⟩
  · cases beq_t hb
    exact ⟨c_W_at h (d + 0), fun q => absurd q (by decide)⟩
  cases h
theorem c_D_rampFoot {av : List Value} {s : Mem} {z : Int32 × Mem} (h : A_D_rampFoot av s = some z) (d : Nat) : Ctr (d + 3) I_D_rampFoot av s z := by
  unfold A_D_rampFoot at h
  split at h
  · replace h := cbr_n h
    obtain ⟨hb, h⟩ := h
    cases beq_t hb
    refine ctr_of (d := d + 2) (own := 7) (kps := [2]) (code := K_D_rampFoot) (Cl := C_D_rampFoot) o_D_rampFoot rfl (by decide) k_D_rampFoot (l_D_rampFoot d) (c1_of rfl) (Nat.le_of_ble_eq_true rfl) ?_
    intro RA S
    rw [e_D_rampFoot] at h
    refine S.2 _ ?_ 700 0 _ _ (ck1_of rfl) h
    intro k ls s h
    replace h := cbr_c h
    rcases h with ⟨hb, h⟩ | ⟨_, h⟩
    · cases beq_t hb
      exact a_D_rampFoot_2 S.1 h (n_D_rampFoot_2 S gF)
    cases h
  · cases h
set_option maxRecDepth 1000000 in
theorem k_C_ramp : okC 10 I_C_ramp.2.2.1 I_C_ramp.2.1 I_C_ramp.2.2.2.1 [] K_C_ramp K_C_ramp = true := by decide +kernel
theorem l_C_ramp (d : Nat) (k : Nat) (av : List Value) (s : Mem) (y : Int32 × Mem) (h : C_C_ramp k av s = some y) : Ctr (d + 3) (mtab k) av s y ∧ ((mtab k).2.2.2.2.2 = 77 → ∃ b rest, av = .ref b :: rest ∧ (b = 1001 ∨ b = 1002)) := by
  unfold C_C_ramp at h
  replace h := cbr_c h
  rcases h with ⟨hb, h⟩ | ⟨_, h⟩
  · cases beq_t hb
    exact ⟨c_C_within h (d + 2), fun q => absurd q (by decide)⟩
  replace h := cbr_c h
  rcases h with ⟨hb, h⟩ | ⟨_, h⟩
  · cases beq_t hb
    exact ⟨c_D_rampFoot h (d + 0), fun q => absurd q (by decide)⟩
  cases h
theorem c_C_ramp {av : List Value} {s : Mem} {z : Int32 × Mem} (h : A_C_ramp av s = some z) (d : Nat) : Ctr (d + 4) I_C_ramp av s z := by
  unfold A_C_ramp at h
  split at h
  · replace h := cbr_n h
    obtain ⟨hb, h⟩ := h
    cases beq_t hb
    refine ctr_of (d := d + 3) (own := 10) (kps := []) (code := K_C_ramp) (Cl := C_C_ramp) o_C_ramp rfl (by decide) k_C_ramp (l_C_ramp d) (c1_of rfl) (Nat.le_of_ble_eq_true rfl) ?_
    intro RA S
    rw [e_C_ramp] at h
    refine S.2 _ ?_ 700 0 _ _ (ck1_of rfl) h
    intro k ls s h
    cases h
  · cases h
set_option maxRecDepth 1000000 in
theorem k_D_waysOfSide : okC 7 I_D_waysOfSide.2.2.1 I_D_waysOfSide.2.1 I_D_waysOfSide.2.2.2.1 [] K_D_waysOfSide K_D_waysOfSide = true := by decide +kernel
theorem l_D_waysOfSide (d : Nat) (k : Nat) (av : List Value) (s : Mem) (y : Int32 × Mem) (h : C_D_waysOfSide k av s = some y) : Ctr (d + 0) (mtab k) av s y ∧ ((mtab k).2.2.2.2.2 = 77 → ∃ b rest, av = .ref b :: rest ∧ (b = 1001 ∨ b = 1002)) := by
  exact nomatch (show (none : Option (Int32 × Mem)) = some y from h)
theorem c_D_waysOfSide {av : List Value} {s : Mem} {z : Int32 × Mem} (h : A_D_waysOfSide av s = some z) (d : Nat) : Ctr (d + 1) I_D_waysOfSide av s z := by
  unfold A_D_waysOfSide at h
  split at h
  · refine ctr_of (d := d + 0) (own := 7) (kps := []) (code := K_D_waysOfSide) (Cl := C_D_waysOfSide) o_D_waysOfSide rfl (by decide) k_D_waysOfSide (l_D_waysOfSide d) (c1_of rfl) (Nat.le_of_ble_eq_true rfl) ?_
    intro RA S
    rw [e_D_waysOfSide] at h
    refine S.2 _ ?_ 700 0 _ _ (ck1_of rfl) h
    intro k ls s h
    cases h
  · cases h
set_option maxRecDepth 1000000 in
theorem k_D_waysThrough : okC 7 I_D_waysThrough.2.2.1 I_D_waysThrough.2.1 I_D_waysThrough.2.2.2.1 [] K_D_waysThrough K_D_waysThrough = true := by decide +kernel
theorem l_D_waysThrough (d : Nat) (k : Nat) (av : List Value) (s : Mem) (y : Int32 × Mem) (h : C_D_waysThrough k av s = some y) : Ctr (d + 1) (mtab k) av s y ∧ ((mtab k).2.2.2.2.2 = 77 → ∃ b rest, av = .ref b :: rest ∧ (b = 1001 ∨ b = 1002)) := by
  unfold C_D_waysThrough at h
  replace h := cbr_c h
  rcases h with ⟨hb, h⟩ | ⟨_, h⟩
  · cases beq_t hb
    exact ⟨c_D_waysOfSide h (d + 0), fun q => absurd q (by decide)⟩
  cases h
theorem c_D_waysThrough {av : List Value} {s : Mem} {z : Int32 × Mem} (h : A_D_waysThrough av s = some z) (d : Nat) : Ctr (d + 2) I_D_waysThrough av s z := by
  unfold A_D_waysThrough at h
  split at h
  · refine ctr_of (d := d + 1) (own := 7) (kps := []) (code := K_D_waysThrough) (Cl := C_D_waysThrough) o_D_waysThrough rfl (by decide) k_D_waysThrough (l_D_waysThrough d) (c1_of rfl) (Nat.le_of_ble_eq_true rfl) ?_
    intro RA S
    rw [e_D_waysThrough] at h
    refine S.2 _ ?_ 700 0 _ _ (ck1_of rfl) h
    intro k ls s h
    cases h
  · cases h
set_option maxRecDepth 1000000 in
theorem k_C_box : okC 10 I_C_box.2.2.1 I_C_box.2.1 I_C_box.2.2.2.1 [] K_C_box K_C_box = true := by decide +kernel
theorem l_C_box (d : Nat) (k : Nat) (av : List Value) (s : Mem) (y : Int32 × Mem) (h : C_C_box k av s = some y) : Ctr (d + 2) (mtab k) av s y ∧ ((mtab k).2.2.2.2.2 = 77 → ∃ b rest, av = .ref b :: rest ∧ (b = 1001 ∨ b = 1002)) := by
  unfold C_C_box at h
  replace h := cbr_c h
  rcases h with ⟨hb, h⟩ | ⟨_, h⟩
  · cases beq_t hb
    exact ⟨c_C_within h (d + 1), fun q => absurd q (by decide)⟩
  replace h := cbr_c h
  rcases h with ⟨hb, h⟩ | ⟨_, h⟩
  · cases beq_t hb
    exact ⟨c_D_waysThrough h (d + 0), fun q => absurd q (by decide)⟩
  replace h := cbr_c h
  rcases h with ⟨hb, h⟩ | ⟨_, h⟩
  · cases beq_t hb
    exact ⟨c_JM_min h (d + 1), fun q => absurd q (by decide)⟩
  cases h
theorem c_C_box {av : List Value} {s : Mem} {z : Int32 × Mem} (h : A_C_box av s = some z) (d : Nat) : Ctr (d + 3) I_C_box av s z := by
  unfold A_C_box at h
  split at h
  · replace h := cbr_n h
    obtain ⟨hb, h⟩ := h
    cases beq_t hb
    refine ctr_of (d := d + 2) (own := 10) (kps := []) (code := K_C_box) (Cl := C_C_box) o_C_box rfl (by decide) k_C_box (l_C_box d) (c1_of rfl) (Nat.le_of_ble_eq_true rfl) ?_
    intro RA S
    rw [e_C_box] at h
    refine S.2 _ ?_ 700 0 _ _ (ck1_of rfl) h
    intro k ls s h
    cases h
  · cases h
set_option maxRecDepth 1000000 in
theorem k_C_digit : okC 10 I_C_digit.2.2.1 I_C_digit.2.1 I_C_digit.2.2.2.1 [] K_C_digit K_C_digit = true := by decide +kernel
theorem l_C_digit (d : Nat) (k : Nat) (av : List Value) (s : Mem) (y : Int32 × Mem) (h : C_C_digit k av s = some y) : Ctr (d + 3) (mtab k) av s y ∧ ((mtab k).2.2.2.2.2 = 77 → ∃ b rest, av = .ref b :: rest ∧ (b = 1001 ∨ b = 1002)) := by
  unfold C_C_digit at h
  replace h := cbr_c h
  rcases h with ⟨hb, h⟩ | ⟨_, h⟩
  · cases beq_t hb
    exact ⟨c_W_tell h (d + 0), fun q => absurd q (by decide)⟩
  cases h
theorem c_C_digit {av : List Value} {s : Mem} {z : Int32 × Mem} (h : A_C_digit av s = some z) (d : Nat) : Ctr (d + 4) I_C_digit av s z := by
  unfold A_C_digit at h
  split at h
  · replace h := cbr_n h
    obtain ⟨hb, h⟩ := h
    cases beq_t hb
    refine ctr_of (d := d + 3) (own := 10) (kps := []) (code := K_C_digit) (Cl := C_C_digit) o_C_digit rfl (by decide) k_C_digit (l_C_digit d) (c1_of rfl) (Nat.le_of_ble_eq_true rfl) ?_
    intro RA S
    rw [e_C_digit] at h
    refine S.2 _ ?_ 700 0 _ _ (ck1_of rfl) h
    intro k ls s h
    cases h
  · cases h
set_option maxRecDepth 1000000 in
theorem k_D_countDigits : okC 7 I_D_countDigits.2.2.1 I_D_countDigits.2.1 I_D_countDigits.2.2.2.1 [10] K_D_countDigits K_D_countDigits = true := by decide +kernel
theorem a_D_countDigits_6 {z : Int32 × Mem} {RA : Nat → List (Option Value) → Mem → Prop} (hm : ∀ (pc : Nat) (ls ls1 : List (Option Value)) (σ : Mem), ls1.length = I_D_countDigits.2.2.1 → (∀ i v, lk ls1 i = some v → lk ls i = some v) → RA pc ls1 σ → RA pc ls σ) {f : Int32 → Mem → Option (Int32 × Mem)} {ls : List (Option Value)} {s : Mem} (h : A_D_countDigits_6 f ls s = some z) (hf : ∀ (x2 : Int32) (s : Mem), f x2 s = some z → RA 10 [some (.ref 100), some (.ref 34), some (.int x2), none] s) : RA 10 ls s := by
  unfold A_D_countDigits_6 at h
  split at h
  · rename_i a0 a1 a2 e0 e1 e2
    replace h := cbr_n h
    obtain ⟨hb, h⟩ := h
    cases beq_t hb
    replace h := cbr_n h
    obtain ⟨hb, h⟩ := h
    cases beq_t hb
    refine hm _ _ [some (.ref 100), some (.ref 34), some (.int a2), none] _ rfl (fun i v hv => ?_) (hf _ _ h)
    match i, hv with
    | 0, hv => exact e0.trans hv
    | 1, hv => exact e1.trans hv
    | 2, hv => exact e2.trans hv
    | 3, hv => cases hv
    | i + 4, hv => cases hv
  · cases h
theorem n_D_countDigits_6 {z : Int32 × Mem} {RA : Nat → List (Option Value) → Mem → Prop} (S : Sm I_D_countDigits C_D_countDigits K_D_countDigits [10] z RA) : ∀ (n : Nat) (x2 : Int32) (s : Mem), F_D_countDigits_6 n x2 s = some z → RA 10 [some (.ref 100), some (.ref 34), some (.int x2), none] s := by
  intro n
  induction n with
  | zero => intro x2 s h; exact nomatch (show (none : Option (Int32 × Mem)) = some z from h)
  | succ n ih =>
    intro x2 s h
    rw [e_D_countDigits_6] at h
    refine S.2 _ ?_ 700 7 _ _ (ck1_of rfl) h
    intro k ls s h
    replace h := cbr_c h
    rcases h with ⟨hb, h⟩ | ⟨_, h⟩
    · cases beq_t hb
      exact a_D_countDigits_6 S.1 h ih
    cases h
theorem l_D_countDigits (d : Nat) (k : Nat) (av : List Value) (s : Mem) (y : Int32 × Mem) (h : C_D_countDigits k av s = some y) : Ctr (d + 2) (mtab k) av s y ∧ ((mtab k).2.2.2.2.2 = 77 → ∃ b rest, av = .ref b :: rest ∧ (b = 1001 ∨ b = 1002)) := by
  unfold C_D_countDigits at h
  replace h := cbr_c h
  rcases h with ⟨hb, h⟩ | ⟨_, h⟩
  · cases beq_t hb
    exact ⟨c_JA_fill h (d + 1), fun q => absurd q (by decide)⟩
  replace h := cbr_c h
  rcases h with ⟨hb, h⟩ | ⟨_, h⟩
  · cases beq_t hb
    exact ⟨c_W_at h (d + 0), fun q => absurd q (by decide)⟩
  replace h := cbr_c h
  rcases h with ⟨hb, h⟩ | ⟨_, h⟩
  · cases beq_t hb
    exact ⟨c_C_within h (d + 1), fun q => absurd q (by decide)⟩
  cases h
theorem c_D_countDigits {av : List Value} {s : Mem} {z : Int32 × Mem} (h : A_D_countDigits av s = some z) (d : Nat) : Ctr (d + 3) I_D_countDigits av s z := by
  unfold A_D_countDigits at h
  split at h
  · replace h := cbr_n h
    obtain ⟨hb, h⟩ := h
    cases beq_t hb
    replace h := cbr_n h
    obtain ⟨hb, h⟩ := h
    cases beq_t hb
    refine ctr_of (d := d + 2) (own := 7) (kps := [10]) (code := K_D_countDigits) (Cl := C_D_countDigits) o_D_countDigits rfl (by decide) k_D_countDigits (l_D_countDigits d) (c1_of rfl) (Nat.le_of_ble_eq_true rfl) ?_
    intro RA S
    rw [e_D_countDigits] at h
    refine S.2 _ ?_ 700 0 _ _ (ck1_of rfl) h
    intro k ls s h
    replace h := cbr_c h
    rcases h with ⟨hb, h⟩ | ⟨_, h⟩
    · cases beq_t hb
      exact a_D_countDigits_6 S.1 h (n_D_countDigits_6 S gF)
    cases h
  · cases h
set_option maxRecDepth 1000000 in
theorem k_D_countArranged : okC 7 I_D_countArranged.2.2.1 I_D_countArranged.2.1 I_D_countArranged.2.2.2.1 [6, 15] K_D_countArranged K_D_countArranged = true := by decide +kernel
theorem a_D_countArranged_6 {z : Int32 × Mem} {RA : Nat → List (Option Value) → Mem → Prop} (hm : ∀ (pc : Nat) (ls ls1 : List (Option Value)) (σ : Mem), ls1.length = I_D_countArranged.2.2.1 → (∀ i v, lk ls1 i = some v → lk ls i = some v) → RA pc ls1 σ → RA pc ls σ) {f : Int32 → Int32 → Int32 → Mem → Option (Int32 × Mem)} {ls : List (Option Value)} {s : Mem} (h : A_D_countArranged_6 f ls s = some z) (hf : ∀ (x1 : Int32) (x2 : Int32) (x3 : Int32) (s : Mem), f x1 x2 x3 s = some z → RA 6 [some (.ref 100), some (.int x1), some (.int x2), some (.int x3), none] s) : RA 6 ls s := by
  unfold A_D_countArranged_6 at h
  split at h
  · rename_i a0 a1 a2 a3 e0 e1 e2 e3
    replace h := cbr_n h
    obtain ⟨hb, h⟩ := h
    cases beq_t hb
    refine hm _ _ [some (.ref 100), some (.int a1), some (.int a2), some (.int a3), none] _ rfl (fun i v hv => ?_) (hf _ _ _ _ h)
    match i, hv with
    | 0, hv => exact e0.trans hv
    | 1, hv => exact e1.trans hv
    | 2, hv => exact e2.trans hv
    | 3, hv => exact e3.trans hv
    | 4, hv => cases hv
    | i + 5, hv => cases hv
  · cases h
theorem a_D_countArranged_11 {z : Int32 × Mem} {RA : Nat → List (Option Value) → Mem → Prop} (hm : ∀ (pc : Nat) (ls ls1 : List (Option Value)) (σ : Mem), ls1.length = I_D_countArranged.2.2.1 → (∀ i v, lk ls1 i = some v → lk ls i = some v) → RA pc ls1 σ → RA pc ls σ) {f : Int32 → Int32 → Int32 → Int32 → Mem → Option (Int32 × Mem)} {ls : List (Option Value)} {s : Mem} (h : A_D_countArranged_11 f ls s = some z) (hf : ∀ (x1 : Int32) (x2 : Int32) (x3 : Int32) (x4 : Int32) (s : Mem), f x1 x2 x3 x4 s = some z → RA 15 [some (.ref 100), some (.int x1), some (.int x2), some (.int x3), some (.int x4)] s) : RA 15 ls s := by
  unfold A_D_countArranged_11 at h
  split at h
  · rename_i a0 a1 a2 a3 a4 e0 e1 e2 e3 e4
    replace h := cbr_n h
    obtain ⟨hb, h⟩ := h
    cases beq_t hb
    refine hm _ _ [some (.ref 100), some (.int a1), some (.int a2), some (.int a3), some (.int a4)] _ rfl (fun i v hv => ?_) (hf _ _ _ _ _ h)
    match i, hv with
    | 0, hv => exact e0.trans hv
    | 1, hv => exact e1.trans hv
    | 2, hv => exact e2.trans hv
    | 3, hv => exact e3.trans hv
    | 4, hv => exact e4.trans hv
    | i + 5, hv => cases hv
  · cases h
theorem n_D_countArranged_11 {z : Int32 × Mem} {RA : Nat → List (Option Value) → Mem → Prop} (S : Sm I_D_countArranged C_D_countArranged K_D_countArranged [6, 15] z RA) {k6 : Int32 → Int32 → Int32 → Mem → Option (Int32 × Mem)} (hk6 : ∀ (x1 : Int32) (x2 : Int32) (x3 : Int32) (s : Mem), k6 x1 x2 x3 s = some z → RA 6 [some (.ref 100), some (.int x1), some (.int x2), some (.int x3), none] s) : ∀ (n : Nat) (x1 : Int32) (x2 : Int32) (x3 : Int32) (x4 : Int32) (s : Mem), F_D_countArranged_11 k6 n x1 x2 x3 x4 s = some z → RA 15 [some (.ref 100), some (.int x1), some (.int x2), some (.int x3), some (.int x4)] s := by
  intro n
  induction n with
  | zero => intro x1 x2 x3 x4 s h; exact nomatch (show (none : Option (Int32 × Mem)) = some z from h)
  | succ n ih =>
    intro x1 x2 x3 x4 s h
    rw [e_D_countArranged_11] at h
    refine S.2 _ ?_ 700 13 _ _ (ck1_of rfl) h
    intro k ls s h
    replace h := cbr_c h
    rcases h with ⟨hb, h⟩ | ⟨_, h⟩
    · cases beq_t hb
      exact a_D_countArranged_6 S.1 h hk6
    replace h := cbr_c h
    rcases h with ⟨hb, h⟩ | ⟨_, h⟩
    · cases beq_t hb
      exact a_D_countArranged_11 S.1 h ih
    cases h
theorem n_D_countArranged_6 {z : Int32 × Mem} {RA : Nat → List (Option Value) → Mem → Prop} (S : Sm I_D_countArranged C_D_countArranged K_D_countArranged [6, 15] z RA) : ∀ (n : Nat) (x1 : Int32) (x2 : Int32) (x3 : Int32) (s : Mem), F_D_countArranged_6 n x1 x2 x3 s = some z → RA 6 [some (.ref 100), some (.int x1), some (.int x2), some (.int x3), none] s := by
  intro n
  induction n with
  | zero => intro x1 x2 x3 s h; exact nomatch (show (none : Option (Int32 × Mem)) = some z from h)
  | succ n ih =>
    intro x1 x2 x3 s h
    rw [e_D_countArranged_6] at h
    refine S.2 _ ?_ 700 7 _ _ (ck1_of rfl) h
    intro k ls s h
    replace h := cbr_c h
    rcases h with ⟨hb, h⟩ | ⟨_, h⟩
    · cases beq_t hb
      exact a_D_countArranged_11 S.1 h (n_D_countArranged_11 S ih gF)
    cases h
theorem l_D_countArranged (d : Nat) (k : Nat) (av : List Value) (s : Mem) (y : Int32 × Mem) (h : C_D_countArranged k av s = some y) : Ctr (d + 0) (mtab k) av s y ∧ ((mtab k).2.2.2.2.2 = 77 → ∃ b rest, av = .ref b :: rest ∧ (b = 1001 ∨ b = 1002)) := by
  exact nomatch (show (none : Option (Int32 × Mem)) = some y from h)
theorem c_D_countArranged {av : List Value} {s : Mem} {z : Int32 × Mem} (h : A_D_countArranged av s = some z) (d : Nat) : Ctr (d + 1) I_D_countArranged av s z := by
  unfold A_D_countArranged at h
  split at h
  · replace h := cbr_n h
    obtain ⟨hb, h⟩ := h
    cases beq_t hb
    refine ctr_of (d := d + 0) (own := 7) (kps := [6, 15]) (code := K_D_countArranged) (Cl := C_D_countArranged) o_D_countArranged rfl (by decide) k_D_countArranged (l_D_countArranged d) (c1_of rfl) (Nat.le_of_ble_eq_true rfl) ?_
    intro RA S
    rw [e_D_countArranged] at h
    refine S.2 _ ?_ 700 0 _ _ (ck1_of rfl) h
    intro k ls s h
    replace h := cbr_c h
    rcases h with ⟨hb, h⟩ | ⟨_, h⟩
    · cases beq_t hb
      exact a_D_countArranged_6 S.1 h (n_D_countArranged_6 S gF)
    cases h
  · cases h
set_option maxRecDepth 1000000 in
theorem k_D_countRows : okC 7 I_D_countRows.2.2.1 I_D_countRows.2.1 I_D_countRows.2.2.2.1 [] K_D_countRows K_D_countRows = true := by decide +kernel
theorem l_D_countRows (d : Nat) (k : Nat) (av : List Value) (s : Mem) (y : Int32 × Mem) (h : C_D_countRows k av s = some y) : Ctr (d + 3) (mtab k) av s y ∧ ((mtab k).2.2.2.2.2 = 77 → ∃ b rest, av = .ref b :: rest ∧ (b = 1001 ∨ b = 1002)) := by
  unfold C_D_countRows at h
  replace h := cbr_c h
  rcases h with ⟨hb, h⟩ | ⟨_, h⟩
  · cases beq_t hb
    exact ⟨c_D_countDigits h (d + 0), fun q => absurd q (by decide)⟩
  replace h := cbr_c h
  rcases h with ⟨hb, h⟩ | ⟨_, h⟩
  · cases beq_t hb
    exact ⟨c_D_countArranged h (d + 2), fun q => absurd q (by decide)⟩
  cases h
theorem c_D_countRows {av : List Value} {s : Mem} {z : Int32 × Mem} (h : A_D_countRows av s = some z) (d : Nat) : Ctr (d + 4) I_D_countRows av s z := by
  unfold A_D_countRows at h
  split at h
  · replace h := cbr_n h
    obtain ⟨hb, h⟩ := h
    cases beq_t hb
    replace h := cbr_n h
    obtain ⟨hb, h⟩ := h
    cases beq_t hb
    refine ctr_of (d := d + 3) (own := 7) (kps := []) (code := K_D_countRows) (Cl := C_D_countRows) o_D_countRows rfl (by decide) k_D_countRows (l_D_countRows d) (c1_of rfl) (Nat.le_of_ble_eq_true rfl) ?_
    intro RA S
    rw [e_D_countRows] at h
    refine S.2 _ ?_ 700 0 _ _ (ck1_of rfl) h
    intro k ls s h
    cases h
  · cases h
set_option maxRecDepth 1000000 in
theorem k_D_rankOfRow : okC 7 I_D_rankOfRow.2.2.1 I_D_rankOfRow.2.1 I_D_rankOfRow.2.2.2.1 [9, 27] K_D_rankOfRow K_D_rankOfRow = true := by decide +kernel
theorem a_D_rankOfRow_7 {z : Int32 × Mem} {RA : Nat → List (Option Value) → Mem → Prop} (hm : ∀ (pc : Nat) (ls ls1 : List (Option Value)) (σ : Mem), ls1.length = I_D_rankOfRow.2.2.1 → (∀ i v, lk ls1 i = some v → lk ls i = some v) → RA pc ls1 σ → RA pc ls σ) {f : Int32 → Int32 → Mem → Option (Int32 × Mem)} {ls : List (Option Value)} {s : Mem} (h : A_D_rankOfRow_7 f ls s = some z) (hf : ∀ (x2 : Int32) (x3 : Int32) (s : Mem), f x2 x3 s = some z → RA 9 [some (.ref 100), some (.ref 34), some (.int x2), some (.int x3), none, none] s) : RA 9 ls s := by
  unfold A_D_rankOfRow_7 at h
  split at h
  · rename_i a0 a1 a2 a3 e0 e1 e2 e3
    replace h := cbr_n h
    obtain ⟨hb, h⟩ := h
    cases beq_t hb
    replace h := cbr_n h
    obtain ⟨hb, h⟩ := h
    cases beq_t hb
    refine hm _ _ [some (.ref 100), some (.ref 34), some (.int a2), some (.int a3), none, none] _ rfl (fun i v hv => ?_) (hf _ _ _ h)
    match i, hv with
    | 0, hv => exact e0.trans hv
    | 1, hv => exact e1.trans hv
    | 2, hv => exact e2.trans hv
    | 3, hv => exact e3.trans hv
    | 4, hv => cases hv
    | 5, hv => cases hv
    | i + 6, hv => cases hv
  · cases h
theorem a_D_rankOfRow_17 {z : Int32 × Mem} {RA : Nat → List (Option Value) → Mem → Prop} (hm : ∀ (pc : Nat) (ls ls1 : List (Option Value)) (σ : Mem), ls1.length = I_D_rankOfRow.2.2.1 → (∀ i v, lk ls1 i = some v → lk ls i = some v) → RA pc ls1 σ → RA pc ls σ) {f : Int32 → Int32 → Int32 → Int32 → Mem → Option (Int32 × Mem)} {ls : List (Option Value)} {s : Mem} (h : A_D_rankOfRow_17 f ls s = some z) (hf : ∀ (x2 : Int32) (x3 : Int32) (x4 : Int32) (x5 : Int32) (s : Mem), f x2 x3 x4 x5 s = some z → RA 27 [some (.ref 100), some (.ref 34), some (.int x2), some (.int x3), some (.int x4), some (.int x5)] s) : RA 27 ls s := by
  unfold A_D_rankOfRow_17 at h
  split at h
  · rename_i a0 a1 a2 a3 a4 a5 e0 e1 e2 e3 e4 e5
    replace h := cbr_n h
    obtain ⟨hb, h⟩ := h
    cases beq_t hb
    replace h := cbr_n h
    obtain ⟨hb, h⟩ := h
    cases beq_t hb
    refine hm _ _ [some (.ref 100), some (.ref 34), some (.int a2), some (.int a3), some (.int a4), some (.int a5)] _ rfl (fun i v hv => ?_) (hf _ _ _ _ _ h)
    match i, hv with
    | 0, hv => exact e0.trans hv
    | 1, hv => exact e1.trans hv
    | 2, hv => exact e2.trans hv
    | 3, hv => exact e3.trans hv
    | 4, hv => exact e4.trans hv
    | 5, hv => exact e5.trans hv
    | i + 6, hv => cases hv
  · cases h
theorem n_D_rankOfRow_17 {z : Int32 × Mem} {RA : Nat → List (Option Value) → Mem → Prop} (S : Sm I_D_rankOfRow C_D_rankOfRow K_D_rankOfRow [9, 27] z RA) {k7 : Int32 → Int32 → Mem → Option (Int32 × Mem)} (hk7 : ∀ (x2 : Int32) (x3 : Int32) (s : Mem), k7 x2 x3 s = some z → RA 9 [some (.ref 100), some (.ref 34), some (.int x2), some (.int x3), none, none] s) : ∀ (n : Nat) (x2 : Int32) (x3 : Int32) (x4 : Int32) (x5 : Int32) (s : Mem), F_D_rankOfRow_17 k7 n x2 x3 x4 x5 s = some z → RA 27 [some (.ref 100), some (.ref 34), some (.int x2), some (.int x3), some (.int x4), some (.int x5)] s := by
  intro n
  induction n with
  | zero => intro x2 x3 x4 x5 s h; exact nomatch (show (none : Option (Int32 × Mem)) = some z from h)
  | succ n ih =>
    intro x2 x3 x4 x5 s h
    rw [e_D_rankOfRow_17] at h
    refine S.2 _ ?_ 700 19 _ _ (ck1_of rfl) h
    intro k ls s h
    replace h := cbr_c h
    rcases h with ⟨hb, h⟩ | ⟨_, h⟩
    · cases beq_t hb
      exact a_D_rankOfRow_7 S.1 h hk7
    replace h := cbr_c h
    rcases h with ⟨hb, h⟩ | ⟨_, h⟩
    · cases beq_t hb
      exact a_D_rankOfRow_17 S.1 h ih
    cases h
theorem n_D_rankOfRow_7 {z : Int32 × Mem} {RA : Nat → List (Option Value) → Mem → Prop} (S : Sm I_D_rankOfRow C_D_rankOfRow K_D_rankOfRow [9, 27] z RA) : ∀ (n : Nat) (x2 : Int32) (x3 : Int32) (s : Mem), F_D_rankOfRow_7 n x2 x3 s = some z → RA 9 [some (.ref 100), some (.ref 34), some (.int x2), some (.int x3), none, none] s := by
  intro n
  induction n with
  | zero => intro x2 x3 s h; exact nomatch (show (none : Option (Int32 × Mem)) = some z from h)
  | succ n ih =>
    intro x2 x3 s h
    rw [e_D_rankOfRow_7] at h
    refine S.2 _ ?_ 700 8 _ _ (ck1_of rfl) h
    intro k ls s h
    replace h := cbr_c h
    rcases h with ⟨hb, h⟩ | ⟨_, h⟩
    · cases beq_t hb
      exact a_D_rankOfRow_17 S.1 h (n_D_rankOfRow_17 S ih gF)
    cases h
theorem l_D_rankOfRow (d : Nat) (k : Nat) (av : List Value) (s : Mem) (y : Int32 × Mem) (h : C_D_rankOfRow k av s = some y) : Ctr (d + 3) (mtab k) av s y ∧ ((mtab k).2.2.2.2.2 = 77 → ∃ b rest, av = .ref b :: rest ∧ (b = 1001 ∨ b = 1002)) := by
  unfold C_D_rankOfRow at h
  replace h := cbr_c h
  rcases h with ⟨hb, h⟩ | ⟨_, h⟩
  · cases beq_t hb
    exact ⟨c_D_countDigits h (d + 0), fun q => absurd q (by decide)⟩
  replace h := cbr_c h
  rcases h with ⟨hb, h⟩ | ⟨_, h⟩
  · cases beq_t hb
    exact ⟨c_W_at h (d + 1), fun q => absurd q (by decide)⟩
  replace h := cbr_c h
  rcases h with ⟨hb, h⟩ | ⟨_, h⟩
  · cases beq_t hb
    exact ⟨c_C_within h (d + 2), fun q => absurd q (by decide)⟩
  replace h := cbr_c h
  rcases h with ⟨hb, h⟩ | ⟨_, h⟩
  · cases beq_t hb
    exact ⟨c_D_countArranged h (d + 2), fun q => absurd q (by decide)⟩
  cases h
theorem c_D_rankOfRow {av : List Value} {s : Mem} {z : Int32 × Mem} (h : A_D_rankOfRow av s = some z) (d : Nat) : Ctr (d + 4) I_D_rankOfRow av s z := by
  unfold A_D_rankOfRow at h
  split at h
  · replace h := cbr_n h
    obtain ⟨hb, h⟩ := h
    cases beq_t hb
    replace h := cbr_n h
    obtain ⟨hb, h⟩ := h
    cases beq_t hb
    refine ctr_of (d := d + 3) (own := 7) (kps := [9, 27]) (code := K_D_rankOfRow) (Cl := C_D_rankOfRow) o_D_rankOfRow rfl (by decide) k_D_rankOfRow (l_D_rankOfRow d) (c1_of rfl) (Nat.le_of_ble_eq_true rfl) ?_
    intro RA S
    rw [e_D_rankOfRow] at h
    refine S.2 _ ?_ 700 0 _ _ (ck1_of rfl) h
    intro k ls s h
    replace h := cbr_c h
    rcases h with ⟨hb, h⟩ | ⟨_, h⟩
    · cases beq_t hb
      exact a_D_rankOfRow_7 S.1 h (n_D_rankOfRow_7 S gF)
    cases h
  · cases h
set_option maxRecDepth 1000000 in
theorem k_D_swapNext : okC 7 I_D_swapNext.2.2.1 I_D_swapNext.2.1 I_D_swapNext.2.2.2.1 [] K_D_swapNext K_D_swapNext = true := by decide +kernel
theorem l_D_swapNext (d : Nat) (k : Nat) (av : List Value) (s : Mem) (y : Int32 × Mem) (h : C_D_swapNext k av s = some y) : Ctr (d + 1) (mtab k) av s y ∧ ((mtab k).2.2.2.2.2 = 77 → ∃ b rest, av = .ref b :: rest ∧ (b = 1001 ∨ b = 1002)) := by
  unfold C_D_swapNext at h
  replace h := cbr_c h
  rcases h with ⟨hb, h⟩ | ⟨_, h⟩
  · cases beq_t hb
    exact ⟨c_C_within h (d + 0), fun q => absurd q (by decide)⟩
  cases h
theorem c_D_swapNext {av : List Value} {s : Mem} {z : Int32 × Mem} (h : A_D_swapNext av s = some z) (d : Nat) : Ctr (d + 2) I_D_swapNext av s z := by
  unfold A_D_swapNext at h
  split at h
  · replace h := cbr_n h
    obtain ⟨hb, h⟩ := h
    cases beq_t hb
    refine ctr_of (d := d + 1) (own := 7) (kps := []) (code := K_D_swapNext) (Cl := C_D_swapNext) o_D_swapNext rfl (by decide) k_D_swapNext (l_D_swapNext d) (c1_of rfl) (Nat.le_of_ble_eq_true rfl) ?_
    intro RA S
    rw [e_D_swapNext] at h
    refine S.2 _ ?_ 700 0 _ _ (ck1_of rfl) h
    intro k ls s h
    cases h
  · cases h
set_option maxRecDepth 1000000 in
theorem k_D_goToNext : okC 7 I_D_goToNext.2.2.1 I_D_goToNext.2.1 I_D_goToNext.2.2.2.1 [4, 41, 83] K_D_goToNext K_D_goToNext = true := by decide +kernel
theorem a_D_goToNext_4 {z : Int32 × Mem} {RA : Nat → List (Option Value) → Mem → Prop} (hm : ∀ (pc : Nat) (ls ls1 : List (Option Value)) (σ : Mem), ls1.length = I_D_goToNext.2.2.1 → (∀ i v, lk ls1 i = some v → lk ls i = some v) → RA pc ls1 σ → RA pc ls σ) {f : Int32 → Int32 → Mem → Option (Int32 × Mem)} {ls : List (Option Value)} {s : Mem} (h : A_D_goToNext_4 f ls s = some z) (hf : ∀ (x1 : Int32) (x2 : Int32) (s : Mem), f x1 x2 s = some z → RA 4 [some (.ref 100), some (.int x1), some (.int x2), none, none, none] s) : RA 4 ls s := by
  unfold A_D_goToNext_4 at h
  split at h
  · rename_i a0 a1 a2 e0 e1 e2
    replace h := cbr_n h
    obtain ⟨hb, h⟩ := h
    cases beq_t hb
    refine hm _ _ [some (.ref 100), some (.int a1), some (.int a2), none, none, none] _ rfl (fun i v hv => ?_) (hf _ _ _ h)
    match i, hv with
    | 0, hv => exact e0.trans hv
    | 1, hv => exact e1.trans hv
    | 2, hv => exact e2.trans hv
    | 3, hv => cases hv
    | 4, hv => cases hv
    | 5, hv => cases hv
    | i + 6, hv => cases hv
  · cases h
theorem a_D_goToNext_27 {z : Int32 × Mem} {RA : Nat → List (Option Value) → Mem → Prop} (hm : ∀ (pc : Nat) (ls ls1 : List (Option Value)) (σ : Mem), ls1.length = I_D_goToNext.2.2.1 → (∀ i v, lk ls1 i = some v → lk ls i = some v) → RA pc ls1 σ → RA pc ls σ) {f : Int32 → Int32 → Int32 → Mem → Option (Int32 × Mem)} {ls : List (Option Value)} {s : Mem} (h : A_D_goToNext_27 f ls s = some z) (hf : ∀ (x1 : Int32) (x2 : Int32) (x3 : Int32) (s : Mem), f x1 x2 x3 s = some z → RA 41 [some (.ref 100), some (.int x1), some (.int x2), some (.int x3), none, none] s) : RA 41 ls s := by
  unfold A_D_goToNext_27 at h
  split at h
  · rename_i a0 a1 a2 a3 e0 e1 e2 e3
    replace h := cbr_n h
    obtain ⟨hb, h⟩ := h
    cases beq_t hb
    refine hm _ _ [some (.ref 100), some (.int a1), some (.int a2), some (.int a3), none, none] _ rfl (fun i v hv => ?_) (hf _ _ _ _ h)
    match i, hv with
    | 0, hv => exact e0.trans hv
    | 1, hv => exact e1.trans hv
    | 2, hv => exact e2.trans hv
    | 3, hv => exact e3.trans hv
    | 4, hv => cases hv
    | 5, hv => cases hv
    | i + 6, hv => cases hv
  · cases h
theorem a_D_goToNext_53 {z : Int32 × Mem} {RA : Nat → List (Option Value) → Mem → Prop} (hm : ∀ (pc : Nat) (ls ls1 : List (Option Value)) (σ : Mem), ls1.length = I_D_goToNext.2.2.1 → (∀ i v, lk ls1 i = some v → lk ls i = some v) → RA pc ls1 σ → RA pc ls σ) {f : Int32 → Int32 → Mem → Option (Int32 × Mem)} {ls : List (Option Value)} {s : Mem} (h : A_D_goToNext_53 f ls s = some z) (hf : ∀ (x4 : Int32) (x5 : Int32) (s : Mem), f x4 x5 s = some z → RA 83 [some (.ref 100), none, none, none, some (.int x4), some (.int x5)] s) : RA 83 ls s := by
  unfold A_D_goToNext_53 at h
  split at h
  · rename_i a0 a1 a2 e0 e1 e2
    replace h := cbr_n h
    obtain ⟨hb, h⟩ := h
    cases beq_t hb
    refine hm _ _ [some (.ref 100), none, none, none, some (.int a1), some (.int a2)] _ rfl (fun i v hv => ?_) (hf _ _ _ h)
    match i, hv with
    | 0, hv => exact e0.trans hv
    | 1, hv => cases hv
    | 2, hv => cases hv
    | 3, hv => cases hv
    | 4, hv => exact e1.trans hv
    | 5, hv => exact e2.trans hv
    | i + 6, hv => cases hv
  · cases h
theorem n_D_goToNext_53 {z : Int32 × Mem} {RA : Nat → List (Option Value) → Mem → Prop} (S : Sm I_D_goToNext C_D_goToNext K_D_goToNext [4, 41, 83] z RA) : ∀ (n : Nat) (x4 : Int32) (x5 : Int32) (s : Mem), F_D_goToNext_53 n x4 x5 s = some z → RA 83 [some (.ref 100), none, none, none, some (.int x4), some (.int x5)] s := by
  intro n
  induction n with
  | zero => intro x4 x5 s h; exact nomatch (show (none : Option (Int32 × Mem)) = some z from h)
  | succ n ih =>
    intro x4 x5 s h
    rw [e_D_goToNext_53] at h
    refine S.2 _ ?_ 700 56 _ _ (ck1_of rfl) h
    intro k ls s h
    replace h := cbr_c h
    rcases h with ⟨hb, h⟩ | ⟨_, h⟩
    · cases beq_t hb
      exact a_D_goToNext_53 S.1 h ih
    cases h
theorem n_D_goToNext_27 {z : Int32 × Mem} {RA : Nat → List (Option Value) → Mem → Prop} (S : Sm I_D_goToNext C_D_goToNext K_D_goToNext [4, 41, 83] z RA) : ∀ (n : Nat) (x1 : Int32) (x2 : Int32) (x3 : Int32) (s : Mem), F_D_goToNext_27 n x1 x2 x3 s = some z → RA 41 [some (.ref 100), some (.int x1), some (.int x2), some (.int x3), none, none] s := by
  intro n
  induction n with
  | zero => intro x1 x2 x3 s h; exact nomatch (show (none : Option (Int32 × Mem)) = some z from h)
  | succ n ih =>
    intro x1 x2 x3 s h
    rw [e_D_goToNext_27] at h
    refine S.2 _ ?_ 700 29 _ _ (ck1_of rfl) h
    intro k ls s h
    replace h := cbr_c h
    rcases h with ⟨hb, h⟩ | ⟨_, h⟩
    · cases beq_t hb
      exact a_D_goToNext_27 S.1 h ih
    replace h := cbr_c h
    rcases h with ⟨hb, h⟩ | ⟨_, h⟩
    · cases beq_t hb
      exact a_D_goToNext_53 S.1 h (n_D_goToNext_53 S gF)
    cases h
theorem n_D_goToNext_4 {z : Int32 × Mem} {RA : Nat → List (Option Value) → Mem → Prop} (S : Sm I_D_goToNext C_D_goToNext K_D_goToNext [4, 41, 83] z RA) : ∀ (n : Nat) (x1 : Int32) (x2 : Int32) (s : Mem), F_D_goToNext_4 n x1 x2 s = some z → RA 4 [some (.ref 100), some (.int x1), some (.int x2), none, none, none] s := by
  intro n
  induction n with
  | zero => intro x1 x2 s h; exact nomatch (show (none : Option (Int32 × Mem)) = some z from h)
  | succ n ih =>
    intro x1 x2 s h
    rw [e_D_goToNext_4] at h
    refine S.2 _ ?_ 700 5 _ _ (ck1_of rfl) h
    intro k ls s h
    replace h := cbr_c h
    rcases h with ⟨hb, h⟩ | ⟨_, h⟩
    · cases beq_t hb
      exact a_D_goToNext_4 S.1 h ih
    replace h := cbr_c h
    rcases h with ⟨hb, h⟩ | ⟨_, h⟩
    · cases beq_t hb
      exact a_D_goToNext_27 S.1 h (n_D_goToNext_27 S gF)
    cases h
theorem l_D_goToNext (d : Nat) (k : Nat) (av : List Value) (s : Mem) (y : Int32 × Mem) (h : C_D_goToNext k av s = some y) : Ctr (d + 2) (mtab k) av s y ∧ ((mtab k).2.2.2.2.2 = 77 → ∃ b rest, av = .ref b :: rest ∧ (b = 1001 ∨ b = 1002)) := by
  unfold C_D_goToNext at h
  replace h := cbr_c h
  rcases h with ⟨hb, h⟩ | ⟨_, h⟩
  · cases beq_t hb
    exact ⟨c_D_swapNext h (d + 0), fun q => absurd q (by decide)⟩
  cases h
theorem c_D_goToNext {av : List Value} {s : Mem} {z : Int32 × Mem} (h : A_D_goToNext av s = some z) (d : Nat) : Ctr (d + 3) I_D_goToNext av s z := by
  unfold A_D_goToNext at h
  split at h
  · replace h := cbr_n h
    obtain ⟨hb, h⟩ := h
    cases beq_t hb
    refine ctr_of (d := d + 2) (own := 7) (kps := [4, 41, 83]) (code := K_D_goToNext) (Cl := C_D_goToNext) o_D_goToNext rfl (by decide) k_D_goToNext (l_D_goToNext d) (c1_of rfl) (Nat.le_of_ble_eq_true rfl) ?_
    intro RA S
    rw [e_D_goToNext] at h
    refine S.2 _ ?_ 700 0 _ _ (ck1_of rfl) h
    intro k ls s h
    replace h := cbr_c h
    rcases h with ⟨hb, h⟩ | ⟨_, h⟩
    · cases beq_t hb
      exact a_D_goToNext_4 S.1 h (n_D_goToNext_4 S gF)
    cases h
  · cases h
set_option maxRecDepth 1000000 in
theorem k_D_nextDigit : okC 7 I_D_nextDigit.2.2.1 I_D_nextDigit.2.1 I_D_nextDigit.2.2.2.1 [13] K_D_nextDigit K_D_nextDigit = true := by decide +kernel
theorem a_D_nextDigit_7 {z : Int32 × Mem} {RA : Nat → List (Option Value) → Mem → Prop} (hm : ∀ (pc : Nat) (ls ls1 : List (Option Value)) (σ : Mem), ls1.length = I_D_nextDigit.2.2.1 → (∀ i v, lk ls1 i = some v → lk ls i = some v) → RA pc ls1 σ → RA pc ls σ) {f : Int32 → Int32 → Int32 → Mem → Option (Int32 × Mem)} {ls : List (Option Value)} {s : Mem} (h : A_D_nextDigit_7 f ls s = some z) (hf : ∀ (x2 : Int32) (x3 : Int32) (x4 : Int32) (s : Mem), f x2 x3 x4 s = some z → RA 13 [some (.ref 100), some (.ref 34), some (.int x2), some (.int x3), some (.int x4)] s) : RA 13 ls s := by
  unfold A_D_nextDigit_7 at h
  split at h
  · rename_i a0 a1 a2 a3 a4 e0 e1 e2 e3 e4
    replace h := cbr_n h
    obtain ⟨hb, h⟩ := h
    cases beq_t hb
    replace h := cbr_n h
    obtain ⟨hb, h⟩ := h
    cases beq_t hb
    refine hm _ _ [some (.ref 100), some (.ref 34), some (.int a2), some (.int a3), some (.int a4)] _ rfl (fun i v hv => ?_) (hf _ _ _ _ h)
    match i, hv with
    | 0, hv => exact e0.trans hv
    | 1, hv => exact e1.trans hv
    | 2, hv => exact e2.trans hv
    | 3, hv => exact e3.trans hv
    | 4, hv => exact e4.trans hv
    | i + 5, hv => cases hv
  · cases h
theorem n_D_nextDigit_7 {z : Int32 × Mem} {RA : Nat → List (Option Value) → Mem → Prop} (S : Sm I_D_nextDigit C_D_nextDigit K_D_nextDigit [13] z RA) : ∀ (n : Nat) (x2 : Int32) (x3 : Int32) (x4 : Int32) (s : Mem), F_D_nextDigit_7 n x2 x3 x4 s = some z → RA 13 [some (.ref 100), some (.ref 34), some (.int x2), some (.int x3), some (.int x4)] s := by
  intro n
  induction n with
  | zero => intro x2 x3 x4 s h; exact nomatch (show (none : Option (Int32 × Mem)) = some z from h)
  | succ n ih =>
    intro x2 x3 x4 s h
    rw [e_D_nextDigit_7] at h
    refine S.2 _ ?_ 700 8 _ _ (ck1_of rfl) h
    intro k ls s h
    replace h := cbr_c h
    rcases h with ⟨hb, h⟩ | ⟨_, h⟩
    · cases beq_t hb
      exact a_D_nextDigit_7 S.1 h ih
    cases h
theorem l_D_nextDigit (d : Nat) (k : Nat) (av : List Value) (s : Mem) (y : Int32 × Mem) (h : C_D_nextDigit k av s = some y) : Ctr (d + 3) (mtab k) av s y ∧ ((mtab k).2.2.2.2.2 = 77 → ∃ b rest, av = .ref b :: rest ∧ (b = 1001 ∨ b = 1002)) := by
  unfold C_D_nextDigit at h
  replace h := cbr_c h
  rcases h with ⟨hb, h⟩ | ⟨_, h⟩
  · cases beq_t hb
    exact ⟨c_JM_min h (d + 2), fun q => absurd q (by decide)⟩
  replace h := cbr_c h
  rcases h with ⟨hb, h⟩ | ⟨_, h⟩
  · cases beq_t hb
    exact ⟨c_C_within h (d + 2), fun q => absurd q (by decide)⟩
  replace h := cbr_c h
  rcases h with ⟨hb, h⟩ | ⟨_, h⟩
  · cases beq_t hb
    exact ⟨c_D_goToNext h (d + 0), fun q => absurd q (by decide)⟩
  replace h := cbr_c h
  rcases h with ⟨hb, h⟩ | ⟨_, h⟩
  · cases beq_t hb
    exact ⟨c_W_at h (d + 1), fun q => absurd q (by decide)⟩
  cases h
theorem c_D_nextDigit {av : List Value} {s : Mem} {z : Int32 × Mem} (h : A_D_nextDigit av s = some z) (d : Nat) : Ctr (d + 4) I_D_nextDigit av s z := by
  unfold A_D_nextDigit at h
  split at h
  · replace h := cbr_n h
    obtain ⟨hb, h⟩ := h
    cases beq_t hb
    replace h := cbr_n h
    obtain ⟨hb, h⟩ := h
    cases beq_t hb
    refine ctr_of (d := d + 3) (own := 7) (kps := [13]) (code := K_D_nextDigit) (Cl := C_D_nextDigit) o_D_nextDigit rfl (by decide) k_D_nextDigit (l_D_nextDigit d) (c1_of rfl) (Nat.le_of_ble_eq_true rfl) ?_
    intro RA S
    rw [e_D_nextDigit] at h
    refine S.2 _ ?_ 700 0 _ _ (ck1_of rfl) h
    intro k ls s h
    replace h := cbr_c h
    rcases h with ⟨hb, h⟩ | ⟨_, h⟩
    · cases beq_t hb
      exact a_D_nextDigit_7 S.1 h (n_D_nextDigit_7 S gF)
    cases h
  · cases h
set_option maxRecDepth 1000000 in
theorem k_C_cellar : okC 10 I_C_cellar.2.2.1 I_C_cellar.2.1 I_C_cellar.2.2.2.1 [] K_C_cellar K_C_cellar = true := by decide +kernel
theorem l_C_cellar (d : Nat) (k : Nat) (av : List Value) (s : Mem) (y : Int32 × Mem) (h : C_C_cellar k av s = some y) : Ctr (d + 4) (mtab k) av s y ∧ ((mtab k).2.2.2.2.2 = 77 → ∃ b rest, av = .ref b :: rest ∧ (b = 1001 ∨ b = 1002)) := by
  unfold C_C_cellar at h
  replace h := cbr_c h
  rcases h with ⟨hb, h⟩ | ⟨_, h⟩
  · cases beq_t hb
    exact ⟨c_D_countRows h (d + 0), fun q => absurd q (by decide)⟩
  replace h := cbr_c h
  rcases h with ⟨hb, h⟩ | ⟨_, h⟩
  · cases beq_t hb
    exact ⟨c_D_rankOfRow h (d + 0), fun q => absurd q (by decide)⟩
  replace h := cbr_c h
  rcases h with ⟨hb, h⟩ | ⟨_, h⟩
  · cases beq_t hb
    exact ⟨c_C_within h (d + 3), fun q => absurd q (by decide)⟩
  replace h := cbr_c h
  rcases h with ⟨hb, h⟩ | ⟨_, h⟩
  · cases beq_t hb
    exact ⟨c_D_nextDigit h (d + 0), fun q => absurd q (by decide)⟩
  cases h
theorem c_C_cellar {av : List Value} {s : Mem} {z : Int32 × Mem} (h : A_C_cellar av s = some z) (d : Nat) : Ctr (d + 5) I_C_cellar av s z := by
  unfold A_C_cellar at h
  split at h
  · replace h := cbr_n h
    obtain ⟨hb, h⟩ := h
    cases beq_t hb
    refine ctr_of (d := d + 4) (own := 10) (kps := []) (code := K_C_cellar) (Cl := C_C_cellar) o_C_cellar rfl (by decide) k_C_cellar (l_C_cellar d) (c1_of rfl) (Nat.le_of_ble_eq_true rfl) ?_
    intro RA S
    rw [e_C_cellar] at h
    refine S.2 _ ?_ 700 0 _ _ (ck1_of rfl) h
    intro k ls s h
    cases h
  · cases h
set_option maxRecDepth 1000000 in
theorem k_C_coins : okC 10 I_C_coins.2.2.1 I_C_coins.2.1 I_C_coins.2.2.2.1 [] K_C_coins K_C_coins = true := by decide +kernel
theorem l_C_coins (d : Nat) (k : Nat) (av : List Value) (s : Mem) (y : Int32 × Mem) (h : C_C_coins k av s = some y) : Ctr (d + 1) (mtab k) av s y ∧ ((mtab k).2.2.2.2.2 = 77 → ∃ b rest, av = .ref b :: rest ∧ (b = 1001 ∨ b = 1002)) := by
  unfold C_C_coins at h
  replace h := cbr_c h
  rcases h with ⟨hb, h⟩ | ⟨_, h⟩
  · cases beq_t hb
    exact ⟨c_C_within h (d + 0), fun q => absurd q (by decide)⟩
  cases h
theorem c_C_coins {av : List Value} {s : Mem} {z : Int32 × Mem} (h : A_C_coins av s = some z) (d : Nat) : Ctr (d + 2) I_C_coins av s z := by
  unfold A_C_coins at h
  split at h
  · replace h := cbr_n h
    obtain ⟨hb, h⟩ := h
    cases beq_t hb
    refine ctr_of (d := d + 1) (own := 10) (kps := []) (code := K_C_coins) (Cl := C_C_coins) o_C_coins rfl (by decide) k_C_coins (l_C_coins d) (c1_of rfl) (Nat.le_of_ble_eq_true rfl) ?_
    intro RA S
    rw [e_C_coins] at h
    refine S.2 _ ?_ 700 0 _ _ (ck1_of rfl) h
    intro k ls s h
    cases h
  · cases h
set_option maxRecDepth 1000000 in
theorem k_D_goodMove : okC 7 I_D_goodMove.2.2.1 I_D_goodMove.2.1 I_D_goodMove.2.2.2.1 [4, 30] K_D_goodMove K_D_goodMove = true := by decide +kernel
theorem a_D_goodMove_4 {z : Int32 × Mem} {RA : Nat → List (Option Value) → Mem → Prop} (hm : ∀ (pc : Nat) (ls ls1 : List (Option Value)) (σ : Mem), ls1.length = I_D_goodMove.2.2.1 → (∀ i v, lk ls1 i = some v → lk ls i = some v) → RA pc ls1 σ → RA pc ls σ) {f : Int32 → Int32 → Mem → Option (Int32 × Mem)} {ls : List (Option Value)} {s : Mem} (h : A_D_goodMove_4 f ls s = some z) (hf : ∀ (x1 : Int32) (x2 : Int32) (s : Mem), f x1 x2 s = some z → RA 4 [some (.ref 36), some (.int x1), some (.int x2), none, none] s) : RA 4 ls s := by
  unfold A_D_goodMove_4 at h
  split at h
  · rename_i a0 a1 a2 e0 e1 e2
    replace h := cbr_n h
    obtain ⟨hb, h⟩ := h
    cases beq_t hb
    refine hm _ _ [some (.ref 36), some (.int a1), some (.int a2), none, none] _ rfl (fun i v hv => ?_) (hf _ _ _ h)
    match i, hv with
    | 0, hv => exact e0.trans hv
    | 1, hv => exact e1.trans hv
    | 2, hv => exact e2.trans hv
    | 3, hv => cases hv
    | 4, hv => cases hv
    | i + 5, hv => cases hv
  · cases h
theorem a_D_goodMove_22 {z : Int32 × Mem} {RA : Nat → List (Option Value) → Mem → Prop} (hm : ∀ (pc : Nat) (ls ls1 : List (Option Value)) (σ : Mem), ls1.length = I_D_goodMove.2.2.1 → (∀ i v, lk ls1 i = some v → lk ls i = some v) → RA pc ls1 σ → RA pc ls σ) {f : Int32 → Int32 → Mem → Option (Int32 × Mem)} {ls : List (Option Value)} {s : Mem} (h : A_D_goodMove_22 f ls s = some z) (hf : ∀ (x1 : Int32) (x2 : Int32) (s : Mem), f x1 x2 s = some z → RA 30 [some (.ref 36), some (.int x1), some (.int x2), none, none] s) : RA 30 ls s := by
  unfold A_D_goodMove_22 at h
  split at h
  · rename_i a0 a1 a2 e0 e1 e2
    replace h := cbr_n h
    obtain ⟨hb, h⟩ := h
    cases beq_t hb
    refine hm _ _ [some (.ref 36), some (.int a1), some (.int a2), none, none] _ rfl (fun i v hv => ?_) (hf _ _ _ h)
    match i, hv with
    | 0, hv => exact e0.trans hv
    | 1, hv => exact e1.trans hv
    | 2, hv => exact e2.trans hv
    | 3, hv => cases hv
    | 4, hv => cases hv
    | i + 5, hv => cases hv
  · cases h
theorem n_D_goodMove_22 {z : Int32 × Mem} {RA : Nat → List (Option Value) → Mem → Prop} (S : Sm I_D_goodMove C_D_goodMove K_D_goodMove [4, 30] z RA) : ∀ (n : Nat) (x1 : Int32) (x2 : Int32) (s : Mem), F_D_goodMove_22 n x1 x2 s = some z → RA 30 [some (.ref 36), some (.int x1), some (.int x2), none, none] s := by
  intro n
  induction n with
  | zero => intro x1 x2 s h; exact nomatch (show (none : Option (Int32 × Mem)) = some z from h)
  | succ n ih =>
    intro x1 x2 s h
    rw [e_D_goodMove_22] at h
    refine S.2 _ ?_ 700 24 _ _ (ck1_of rfl) h
    intro k ls s h
    replace h := cbr_c h
    rcases h with ⟨hb, h⟩ | ⟨_, h⟩
    · cases beq_t hb
      exact a_D_goodMove_22 S.1 h ih
    cases h
theorem n_D_goodMove_4 {z : Int32 × Mem} {RA : Nat → List (Option Value) → Mem → Prop} (S : Sm I_D_goodMove C_D_goodMove K_D_goodMove [4, 30] z RA) : ∀ (n : Nat) (x1 : Int32) (x2 : Int32) (s : Mem), F_D_goodMove_4 n x1 x2 s = some z → RA 4 [some (.ref 36), some (.int x1), some (.int x2), none, none] s := by
  intro n
  induction n with
  | zero => intro x1 x2 s h; exact nomatch (show (none : Option (Int32 × Mem)) = some z from h)
  | succ n ih =>
    intro x1 x2 s h
    rw [e_D_goodMove_4] at h
    refine S.2 _ ?_ 700 5 _ _ (ck1_of rfl) h
    intro k ls s h
    replace h := cbr_c h
    rcases h with ⟨hb, h⟩ | ⟨_, h⟩
    · cases beq_t hb
      exact a_D_goodMove_4 S.1 h ih
    replace h := cbr_c h
    rcases h with ⟨hb, h⟩ | ⟨_, h⟩
    · cases beq_t hb
      exact a_D_goodMove_22 S.1 h (n_D_goodMove_22 S gF)
    cases h
theorem l_D_goodMove (d : Nat) (k : Nat) (av : List Value) (s : Mem) (y : Int32 × Mem) (h : C_D_goodMove k av s = some y) : Ctr (d + 0) (mtab k) av s y ∧ ((mtab k).2.2.2.2.2 = 77 → ∃ b rest, av = .ref b :: rest ∧ (b = 1001 ∨ b = 1002)) := by
  exact nomatch (show (none : Option (Int32 × Mem)) = some y from h)
theorem c_D_goodMove {av : List Value} {s : Mem} {z : Int32 × Mem} (h : A_D_goodMove av s = some z) (d : Nat) : Ctr (d + 1) I_D_goodMove av s z := by
  unfold A_D_goodMove at h
  split at h
  · replace h := cbr_n h
    obtain ⟨hb, h⟩ := h
    cases beq_t hb
    refine ctr_of (d := d + 0) (own := 7) (kps := [4, 30]) (code := K_D_goodMove) (Cl := C_D_goodMove) o_D_goodMove rfl (by decide) k_D_goodMove (l_D_goodMove d) (c1_of rfl) (Nat.le_of_ble_eq_true rfl) ?_
    intro RA S
    rw [e_D_goodMove] at h
    refine S.2 _ ?_ 700 0 _ _ (ck1_of rfl) h
    intro k ls s h
    replace h := cbr_c h
    rcases h with ⟨hb, h⟩ | ⟨_, h⟩
    · cases beq_t hb
      exact a_D_goodMove_4 S.1 h (n_D_goodMove_4 S gF)
    cases h
  · cases h
set_option maxRecDepth 1000000 in
theorem k_C_game : okC 10 I_C_game.2.2.1 I_C_game.2.1 I_C_game.2.2.2.1 [] K_C_game K_C_game = true := by decide +kernel
theorem l_C_game (d : Nat) (k : Nat) (av : List Value) (s : Mem) (y : Int32 × Mem) (h : C_C_game k av s = some y) : Ctr (d + 1) (mtab k) av s y ∧ ((mtab k).2.2.2.2.2 = 77 → ∃ b rest, av = .ref b :: rest ∧ (b = 1001 ∨ b = 1002)) := by
  unfold C_C_game at h
  replace h := cbr_c h
  rcases h with ⟨hb, h⟩ | ⟨_, h⟩
  · cases beq_t hb
    exact ⟨c_C_within h (d + 0), fun q => absurd q (by decide)⟩
  replace h := cbr_c h
  rcases h with ⟨hb, h⟩ | ⟨_, h⟩
  · cases beq_t hb
    exact ⟨c_D_goodMove h (d + 0), fun q => absurd q (by decide)⟩
  cases h
theorem c_C_game {av : List Value} {s : Mem} {z : Int32 × Mem} (h : A_C_game av s = some z) (d : Nat) : Ctr (d + 2) I_C_game av s z := by
  unfold A_C_game at h
  split at h
  · replace h := cbr_n h
    obtain ⟨hb, h⟩ := h
    cases beq_t hb
    refine ctr_of (d := d + 1) (own := 10) (kps := []) (code := K_C_game) (Cl := C_C_game) o_C_game rfl (by decide) k_C_game (l_C_game d) (c1_of rfl) (Nat.le_of_ble_eq_true rfl) ?_
    intro RA S
    rw [e_C_game] at h
    refine S.2 _ ?_ 700 0 _ _ (ck1_of rfl) h
    intro k ls s h
    cases h
  · cases h
set_option maxRecDepth 1000000 in
theorem k_C_undo : okC 10 I_C_undo.2.2.1 I_C_undo.2.1 I_C_undo.2.2.2.1 [] K_C_undo K_C_undo = true := by decide +kernel
theorem l_C_undo (d : Nat) (k : Nat) (av : List Value) (s : Mem) (y : Int32 × Mem) (h : C_C_undo k av s = some y) : Ctr (d + 2) (mtab k) av s y ∧ ((mtab k).2.2.2.2.2 = 77 → ∃ b rest, av = .ref b :: rest ∧ (b = 1001 ∨ b = 1002)) := by
  unfold C_C_undo at h
  replace h := cbr_c h
  rcases h with ⟨hb, h⟩ | ⟨_, h⟩
  · cases beq_t hb
    exact ⟨c_JM_floorMod h (d + 1), fun q => absurd q (by decide)⟩
  replace h := cbr_c h
  rcases h with ⟨hb, h⟩ | ⟨_, h⟩
  · cases beq_t hb
    exact ⟨c_H_copyFrom h (d + 0), fun q => absurd q (by decide)⟩
  cases h
theorem c_C_undo {av : List Value} {s : Mem} {z : Int32 × Mem} (h : A_C_undo av s = some z) (d : Nat) : Ctr (d + 3) I_C_undo av s z := by
  unfold A_C_undo at h
  split at h
  · replace h := cbr_n h
    obtain ⟨hb, h⟩ := h
    cases beq_t hb
    refine ctr_of (d := d + 2) (own := 10) (kps := []) (code := K_C_undo) (Cl := C_C_undo) o_C_undo rfl (by decide) k_C_undo (l_C_undo d) (c1_of rfl) (Nat.le_of_ble_eq_true rfl) ?_
    intro RA S
    rw [e_C_undo] at h
    refine S.2 _ ?_ 700 0 _ _ (ck1_of rfl) h
    intro k ls s h
    cases h
  · cases h
