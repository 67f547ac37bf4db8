set_option maxRecDepth 1000000 in
theorem k_C_look : okC 10 I_C_look.2.2.1 I_C_look.2.1 I_C_look.2.2.2.1 [] K_C_look K_C_look = true := by decide +kernel
theorem l_C_look (d : Nat) (k : Nat) (av : List Value) (s : Mem) (y : Int32 × Mem) (h : C_C_look k av s = some y) : Ctr (d + 0) (mtab k) av s y ∧ ((mtab k).2.2.2.2.2 = 77 → ∃ b rest, av = .ref b :: rest ∧ (b = 1001 ∨ b = 1002)) := by
  exact nomatch (show (none : Option (Int32 × Mem)) = some y from h)
theorem c_C_look {av : List Value} {s : Mem} {z : Int32 × Mem} (h : A_C_look av s = some z) (d : Nat) : Ctr (d + 1) I_C_look av s z := by
  unfold A_C_look at h
  split at h
  · replace h := cbr_n h
    obtain ⟨hb, h⟩ := h
    cases beq_t hb
    refine ctr_of (d := d + 0) (own := 10) (kps := []) (code := K_C_look) (Cl := C_C_look) o_C_look rfl (by decide) k_C_look (l_C_look d) (c1_of rfl) (Nat.le_of_ble_eq_true rfl) ?_
    intro RA S
    rw [e_C_look] at h
    refine S.2 _ ?_ 700 0 _ _ (ck1_of rfl) h
    intro k ls s h
    cases h
  · cases h
set_option maxRecDepth 1000000 in
theorem k_H_sum : okC 1 I_H_sum.2.2.1 I_H_sum.2.1 I_H_sum.2.2.2.1 [4, 15] K_H_sum K_H_sum = true := by decide +kernel
theorem a_H_sum_4 {z : Int32 × Mem} {RA : Nat → List (Option Value) → Mem → Prop} (hm : ∀ (pc : Nat) (ls ls1 : List (Option Value)) (σ : Mem), ls1.length = I_H_sum.2.2.1 → (∀ i v, lk ls1 i = some v → lk ls i = some v) → RA pc ls1 σ → RA pc ls σ) {f : Int32 → Int32 → Int32 → Mem → Option (Int32 × Mem)} {ls : List (Option Value)} {s : Mem} (h : A_H_sum_4 f ls s = some z) (hf : ∀ (x1 : Int32) (x2 : Int32) (x3 : Int32) (s : Mem), f x1 x2 x3 s = some z → RA 4 [some (.ref 91), some (.int x1), some (.int x2), some (.int x3), none] s) : RA 4 ls s := by
  unfold A_H_sum_4 at h
  split at h
  · rename_i a0 a1 a2 a3 e0 e1 e2 e3
    replace h := cbr_n h
    obtain ⟨hb, h⟩ := h
    cases beq_t hb
    refine hm _ _ [some (.ref 91), some (.int a1), some (.int a2), some (.int a3), none] _ rfl (fun i v hv => ?_) (hf _ _ _ _ h)
    match i, hv with
    | 0, hv => exact e0.trans hv
    | 1, hv => exact e1.trans hv
    | 2, hv => exact e2.trans hv
    | 3, hv => exact e3.trans hv
    | 4, hv => cases hv
    | i + 5, hv => cases hv
  · cases h
theorem a_H_sum_10 {z : Int32 × Mem} {RA : Nat → List (Option Value) → Mem → Prop} (hm : ∀ (pc : Nat) (ls ls1 : List (Option Value)) (σ : Mem), ls1.length = I_H_sum.2.2.1 → (∀ i v, lk ls1 i = some v → lk ls i = some v) → RA pc ls1 σ → RA pc ls σ) {f : Int32 → Int32 → Int32 → Int32 → Mem → Option (Int32 × Mem)} {ls : List (Option Value)} {s : Mem} (h : A_H_sum_10 f ls s = some z) (hf : ∀ (x1 : Int32) (x2 : Int32) (x3 : Int32) (x4 : Int32) (s : Mem), f x1 x2 x3 x4 s = some z → RA 15 [some (.ref 91), some (.int x1), some (.int x2), some (.int x3), some (.int x4)] s) : RA 15 ls s := by
  unfold A_H_sum_10 at h
  split at h
  · rename_i a0 a1 a2 a3 a4 e0 e1 e2 e3 e4
    replace h := cbr_n h
    obtain ⟨hb, h⟩ := h
    cases beq_t hb
    refine hm _ _ [some (.ref 91), some (.int a1), some (.int a2), some (.int a3), some (.int a4)] _ rfl (fun i v hv => ?_) (hf _ _ _ _ _ h)
    match i, hv with
    | 0, hv => exact e0.trans hv
    | 1, hv => exact e1.trans hv
    | 2, hv => exact e2.trans hv
    | 3, hv => exact e3.trans hv
    | 4, hv => exact e4.trans hv
    | i + 5, hv => cases hv
  · cases h
theorem n_H_sum_10 {z : Int32 × Mem} {RA : Nat → List (Option Value) → Mem → Prop} (S : Sm I_H_sum C_H_sum K_H_sum [4, 15] z RA) {k4 : Int32 → Int32 → Int32 → Mem → Option (Int32 × Mem)} (hk4 : ∀ (x1 : Int32) (x2 : Int32) (x3 : Int32) (s : Mem), k4 x1 x2 x3 s = some z → RA 4 [some (.ref 91), some (.int x1), some (.int x2), some (.int x3), none] s) : ∀ (n : Nat) (x1 : Int32) (x2 : Int32) (x3 : Int32) (x4 : Int32) (s : Mem), F_H_sum_10 k4 n x1 x2 x3 x4 s = some z → RA 15 [some (.ref 91), some (.int x1), some (.int x2), some (.int x3), some (.int x4)] s := by
  intro n
  induction n with
  | zero => intro x1 x2 x3 x4 s h; exact nomatch (show (none : Option (Int32 × Mem)) = some z from h)
  | succ n ih =>
    intro x1 x2 x3 x4 s h
    rw [e_H_sum_10] at h
    refine S.2 _ ?_ 700 12 _ _ (ck1_of rfl) h
    intro k ls s h
    replace h := cbr_c h
    rcases h with ⟨hb, h⟩ | ⟨_, h⟩
    · cases beq_t hb
      exact a_H_sum_4 S.1 h hk4
    replace h := cbr_c h
    rcases h with ⟨hb, h⟩ | ⟨_, h⟩
    · cases beq_t hb
      exact a_H_sum_10 S.1 h ih
    cases h
theorem n_H_sum_4 {z : Int32 × Mem} {RA : Nat → List (Option Value) → Mem → Prop} (S : Sm I_H_sum C_H_sum K_H_sum [4, 15] z RA) : ∀ (n : Nat) (x1 : Int32) (x2 : Int32) (x3 : Int32) (s : Mem), F_H_sum_4 n x1 x2 x3 s = some z → RA 4 [some (.ref 91), some (.int x1), some (.int x2), some (.int x3), none] s := by
  intro n
  induction n with
  | zero => intro x1 x2 x3 s h; exact nomatch (show (none : Option (Int32 × Mem)) = some z from h)
  | succ n ih =>
    intro x1 x2 x3 s h
    rw [e_H_sum_4] at h
    refine S.2 _ ?_ 700 5 _ _ (ck1_of rfl) h
    intro k ls s h
    replace h := cbr_c h
    rcases h with ⟨hb, h⟩ | ⟨_, h⟩
    · cases beq_t hb
      exact a_H_sum_10 S.1 h (n_H_sum_10 S ih gF)
    cases h
theorem l_H_sum (d : Nat) (k : Nat) (av : List Value) (s : Mem) (y : Int32 × Mem) (h : C_H_sum k av s = some y) : Ctr (d + 2) (mtab k) av s y ∧ ((mtab k).2.2.2.2.2 = 77 → ∃ b rest, av = .ref b :: rest ∧ (b = 1001 ∨ b = 1002)) := by
  unfold C_H_sum at h
  replace h := cbr_c h
  rcases h with ⟨hb, h⟩ | ⟨_, h⟩
  · cases beq_t hb
    exact ⟨c_H_size h (d + 0), fun q => absurd q (by decide)⟩
  replace h := cbr_c h
  rcases h with ⟨hb, h⟩ | ⟨_, h⟩
  · cases beq_t hb
    exact ⟨c_H_get h (d + 1), fun q => absurd q (by decide)⟩
  cases h
theorem c_H_sum {av : List Value} {s : Mem} {z : Int32 × Mem} (h : A_H_sum av s = some z) (d : Nat) : Ctr (d + 3) I_H_sum av s z := by
  unfold A_H_sum at h
  split at h
  · replace h := cbr_n h
    obtain ⟨hb, h⟩ := h
    cases beq_t hb
    refine ctr_of (d := d + 2) (own := 1) (kps := [4, 15]) (code := K_H_sum) (Cl := C_H_sum) o_H_sum rfl (by decide) k_H_sum (l_H_sum d) (c1_of rfl) (Nat.le_of_ble_eq_true rfl) ?_
    intro RA S
    rw [e_H_sum] at h
    refine S.2 _ ?_ 700 0 _ _ (ck1_of rfl) h
    intro k ls s h
    replace h := cbr_c h
    rcases h with ⟨hb, h⟩ | ⟨_, h⟩
    · cases beq_t hb
      exact a_H_sum_4 S.1 h (n_H_sum_4 S gF)
    cases h
  · cases h
set_option maxRecDepth 1000000 in
theorem k_H_countMissing : okC 1 I_H_countMissing.2.2.1 I_H_countMissing.2.1 I_H_countMissing.2.2.2.1 [4, 14] K_H_countMissing K_H_countMissing = true := by decide +kernel
theorem a_H_countMissing_4 {z : Int32 × Mem} {RA : Nat → List (Option Value) → Mem → Prop} (hm : ∀ (pc : Nat) (ls ls1 : List (Option Value)) (σ : Mem), ls1.length = I_H_countMissing.2.2.1 → (∀ i v, lk ls1 i = some v → lk ls i = some v) → RA pc ls1 σ → RA pc ls σ) {f : Int32 → Int32 → Mem → Option (Int32 × Mem)} {ls : List (Option Value)} {s : Mem} (h : A_H_countMissing_4 f ls s = some z) (hf : ∀ (x1 : Int32) (x2 : Int32) (s : Mem), f x1 x2 s = some z → RA 4 [some (.ref 91), some (.int x1), some (.int x2), none] s) : RA 4 ls s := by
  unfold A_H_countMissing_4 at h
  split at h
  · rename_i a0 a1 a2 e0 e1 e2
    replace h := cbr_n h
    obtain ⟨hb, h⟩ := h
    cases beq_t hb
    refine hm _ _ [some (.ref 91), some (.int a1), some (.int a2), none] _ rfl (fun i v hv => ?_) (hf _ _ _ h)
    match i, hv with
    | 0, hv => exact e0.trans hv
    | 1, hv => exact e1.trans hv
    | 2, hv => exact e2.trans hv
    | 3, hv => cases hv
    | i + 4, hv => cases hv
  · cases h
theorem a_H_countMissing_10 {z : Int32 × Mem} {RA : Nat → List (Option Value) → Mem → Prop} (hm : ∀ (pc : Nat) (ls ls1 : List (Option Value)) (σ : Mem), ls1.length = I_H_countMissing.2.2.1 → (∀ i v, lk ls1 i = some v → lk ls i = some v) → RA pc ls1 σ → RA pc ls σ) {f : Int32 → Int32 → Int32 → Mem → Option (Int32 × Mem)} {ls : List (Option Value)} {s : Mem} (h : A_H_countMissing_10 f ls s = some z) (hf : ∀ (x1 : Int32) (x2 : Int32) (x3 : Int32) (s : Mem), f x1 x2 x3 s = some z → RA 14 [some (.ref 91), some (.int x1), some (.int x2), some (.int x3)] s) : RA 14 ls s := by
  unfold A_H_countMissing_10 at h
  split at h
  · rename_i a0 a1 a2 a3 e0 e1 e2 e3
    replace h := cbr_n h
    obtain ⟨hb, h⟩ := h
    cases beq_t hb
    refine hm _ _ [some (.ref 91), some (.int a1), some (.int a2), some (.int a3)] _ rfl (fun i v hv => ?_) (hf _ _ _ _ h)
    match i, hv with
    | 0, hv => exact e0.trans hv
    | 1, hv => exact e1.trans hv
    | 2, hv => exact e2.trans hv
    | 3, hv => exact e3.trans hv
    | i + 4, hv => cases hv
  · cases h
theorem n_H_countMissing_10 {z : Int32 × Mem} {RA : Nat → List (Option Value) → Mem → Prop} (S : Sm I_H_countMissing C_H_countMissing K_H_countMissing [4, 14] z RA) {k4 : Int32 → Int32 → Mem → Option (Int32 × Mem)} (hk4 : ∀ (x1 : Int32) (x2 : Int32) (s : Mem), k4 x1 x2 s = some z → RA 4 [some (.ref 91), some (.int x1), some (.int x2), none] s) : ∀ (n : Nat) (x1 : Int32) (x2 : Int32) (x3 : Int32) (s : Mem), F_H_countMissing_10 k4 n x1 x2 x3 s = some z → RA 14 [some (.ref 91), some (.int x1), some (.int x2), some (.int x3)] s := by
  intro n
  induction n with
  | zero => intro x1 x2 x3 s h; exact nomatch (show (none : Option (Int32 × Mem)) = some z from h)
  | succ n ih =>
    intro x1 x2 x3 s h
    rw [e_H_countMissing_10] at h
    refine S.2 _ ?_ 700 12 _ _ (ck1_of rfl) h
    intro k ls s h
    replace h := cbr_c h
    rcases h with ⟨hb, h⟩ | ⟨_, h⟩
    · cases beq_t hb
      exact a_H_countMissing_4 S.1 h hk4
    replace h := cbr_c h
    rcases h with ⟨hb, h⟩ | ⟨_, h⟩
    · cases beq_t hb
      exact a_H_countMissing_10 S.1 h ih
    cases h
theorem n_H_countMissing_4 {z : Int32 × Mem} {RA : Nat → List (Option Value) → Mem → Prop} (S : Sm I_H_countMissing C_H_countMissing K_H_countMissing [4, 14] z RA) : ∀ (n : Nat) (x1 : Int32) (x2 : Int32) (s : Mem), F_H_countMissing_4 n x1 x2 s = some z → RA 4 [some (.ref 91), some (.int x1), some (.int x2), none] s := by
  intro n
  induction n with
  | zero => intro x1 x2 s h; exact nomatch (show (none : Option (Int32 × Mem)) = some z from h)
  | succ n ih =>
    intro x1 x2 s h
    rw [e_H_countMissing_4] at h
    refine S.2 _ ?_ 700 5 _ _ (ck1_of rfl) h
    intro k ls s h
    replace h := cbr_c h
    rcases h with ⟨hb, h⟩ | ⟨_, h⟩
    · cases beq_t hb
      exact a_H_countMissing_10 S.1 h (n_H_countMissing_10 S ih gF)
    cases h
theorem l_H_countMissing (d : Nat) (k : Nat) (av : List Value) (s : Mem) (y : Int32 × Mem) (h : C_H_countMissing k av s = some y) : Ctr (d + 2) (mtab k) av s y ∧ ((mtab k).2.2.2.2.2 = 77 → ∃ b rest, av = .ref b :: rest ∧ (b = 1001 ∨ b = 1002)) := by
  unfold C_H_countMissing at h
  replace h := cbr_c h
  rcases h with ⟨hb, h⟩ | ⟨_, h⟩
  · cases beq_t hb
    exact ⟨c_H_size h (d + 0), fun q => absurd q (by decide)⟩
  replace h := cbr_c h
  rcases h with ⟨hb, h⟩ | ⟨_, h⟩
  · cases beq_t hb
    exact ⟨c_H_isMissing h (d + 0), fun q => absurd q (by decide)⟩
  cases h
theorem c_H_countMissing {av : List Value} {s : Mem} {z : Int32 × Mem} (h : A_H_countMissing av s = some z) (d : Nat) : Ctr (d + 3) I_H_countMissing av s z := by
  unfold A_H_countMissing at h
  split at h
  · replace h := cbr_n h
    obtain ⟨hb, h⟩ := h
    cases beq_t hb
    refine ctr_of (d := d + 2) (own := 1) (kps := [4, 14]) (code := K_H_countMissing) (Cl := C_H_countMissing) o_H_countMissing rfl (by decide) k_H_countMissing (l_H_countMissing d) (c1_of rfl) (Nat.le_of_ble_eq_true rfl) ?_
    intro RA S
    rw [e_H_countMissing] at h
    refine S.2 _ ?_ 700 0 _ _ (ck1_of rfl) h
    intro k ls s h
    replace h := cbr_c h
    rcases h with ⟨hb, h⟩ | ⟨_, h⟩
    · cases beq_t hb
      exact a_H_countMissing_4 S.1 h (n_H_countMissing_4 S gF)
    cases h
  · cases h
set_option maxRecDepth 1000000 in
theorem k_U_afterNights : okC 4 I_U_afterNights.2.2.1 I_U_afterNights.2.1 I_U_afterNights.2.2.2.1 [14] K_U_afterNights K_U_afterNights = true := by decide +kernel
theorem a_U_afterNights_7 {z : Int32 × Mem} {RA : Nat → List (Option Value) → Mem → Prop} (hm : ∀ (pc : Nat) (ls ls1 : List (Option Value)) (σ : Mem), ls1.length = I_U_afterNights.2.2.1 → (∀ i v, lk ls1 i = some v → lk ls i = some v) → RA pc ls1 σ → RA pc ls σ) {f : Int32 → Int32 → Int32 → Mem → Option (Int32 × Mem)} {ls : List (Option Value)} {s : Mem} (h : A_U_afterNights_7 f ls s = some z) (hf : ∀ (x2 : Int32) (x3 : Int32) (x4 : Int32) (s : Mem), f x2 x3 x4 s = some z → RA 14 [some (.ref 90), some (.ref 1), some (.int x2), some (.int x3), some (.int x4)] s) : RA 14 ls s := by
  unfold A_U_afterNights_7 at h
  split at h
  · rename_i a0 a1 a2 a3 a4 e0 e1 e2 e3 e4
    replace h := cbr_n h
    obtain ⟨hb, h⟩ := h
    cases beq_t hb
    replace h := cbr_n h
    obtain ⟨hb, h⟩ := h
    cases beq_t hb
    refine hm _ _ [some (.ref 90), some (.ref 1), some (.int a2), some (.int a3), some (.int a4)] _ rfl (fun i v hv => ?_) (hf _ _ _ _ h)
    match i, hv with
    | 0, hv => exact e0.trans hv
    | 1, hv => exact e1.trans hv
    | 2, hv => exact e2.trans hv
    | 3, hv => exact e3.trans hv
    | 4, hv => exact e4.trans hv
    | i + 5, hv => cases hv
  · cases h
theorem n_U_afterNights_7 {z : Int32 × Mem} {RA : Nat → List (Option Value) → Mem → Prop} (S : Sm I_U_afterNights C_U_afterNights K_U_afterNights [14] z RA) : ∀ (n : Nat) (x2 : Int32) (x3 : Int32) (x4 : Int32) (s : Mem), F_U_afterNights_7 n x2 x3 x4 s = some z → RA 14 [some (.ref 90), some (.ref 1), some (.int x2), some (.int x3), some (.int x4)] s := by
  intro n
  induction n with
  | zero => intro x2 x3 x4 s h; exact nomatch (show (none : Option (Int32 × Mem)) = some z from h)
  | succ n ih =>
    intro x2 x3 x4 s h
    rw [e_U_afterNights_7] at h
    refine S.2 _ ?_ 700 8 _ _ (ck1_of rfl) h
    intro k ls s h
    replace h := cbr_c h
    rcases h with ⟨hb, h⟩ | ⟨_, h⟩
    · cases beq_t hb
      exact a_U_afterNights_7 S.1 h ih
    cases h
theorem l_U_afterNights (d : Nat) (k : Nat) (av : List Value) (s : Mem) (y : Int32 × Mem) (h : C_U_afterNights k av s = some y) : Ctr (d + 6) (mtab k) av s y ∧ ((mtab k).2.2.2.2.2 = 77 → ∃ b rest, av = .ref b :: rest ∧ (b = 1001 ∨ b = 1002)) := by
  unfold C_U_afterNights at h
  replace h := cbr_c h
  rcases h with ⟨hb, h⟩ | ⟨_, h⟩
  · cases beq_t hb
    exact ⟨c_H_copyFrom h (d + 4), fun q => absurd q (by decide)⟩
  replace h := cbr_c h
  rcases h with ⟨hb, h⟩ | ⟨_, h⟩
  · cases beq_t hb
    exact ⟨c_H_sum h (d + 3), fun q => absurd q (by decide)⟩
  replace h := cbr_c h
  rcases h with ⟨hb, h⟩ | ⟨_, h⟩
  · cases beq_t hb
    exact ⟨c_H_countMissing h (d + 3), fun q => absurd q (by decide)⟩
  replace h := cbr_c h
  rcases h with ⟨hb, h⟩ | ⟨_, h⟩
  · cases beq_t hb
    exact ⟨c_G_passNight h (d + 0), fun q => absurd q (by decide)⟩
  cases h
theorem c_U_afterNights {av : List Value} {s : Mem} {z : Int32 × Mem} (h : A_U_afterNights av s = some z) (d : Nat) : Ctr (d + 7) I_U_afterNights av s z := by
  unfold A_U_afterNights at h
  split at h
  · replace h := cbr_n h
    obtain ⟨hb, h⟩ := h
    cases beq_t hb
    replace h := cbr_n h
    obtain ⟨hb, h⟩ := h
    cases beq_t hb
    refine ctr_of (d := d + 6) (own := 4) (kps := [14]) (code := K_U_afterNights) (Cl := C_U_afterNights) o_U_afterNights rfl (by decide) k_U_afterNights (l_U_afterNights d) (c1_of rfl) (Nat.le_of_ble_eq_true rfl) ?_
    intro RA S
    rw [e_U_afterNights] at h
    refine S.2 _ ?_ 700 0 _ _ (ck1_of rfl) h
    intro k ls s h
    replace h := cbr_c h
    rcases h with ⟨hb, h⟩ | ⟨_, h⟩
    · cases beq_t hb
      exact a_U_afterNights_7 S.1 h (n_U_afterNights_7 S gF)
    cases h
  · cases h
set_option maxRecDepth 1000000 in
theorem k_C_goes : okC 10 I_C_goes.2.2.1 I_C_goes.2.1 I_C_goes.2.2.2.1 [] K_C_goes K_C_goes = true := by decide +kernel
theorem l_C_goes (d : Nat) (k : Nat) (av : List Value) (s : Mem) (y : Int32 × Mem) (h : C_C_goes k av s = some y) : Ctr (d + 7) (mtab k) av s y ∧ ((mtab k).2.2.2.2.2 = 77 → ∃ b rest, av = .ref b :: rest ∧ (b = 1001 ∨ b = 1002)) := by
  unfold C_C_goes at h
  replace h := cbr_c h
  rcases h with ⟨hb, h⟩ | ⟨_, h⟩
  · cases beq_t hb
    exact ⟨c_C_within h (d + 6), fun q => absurd q (by decide)⟩
  replace h := cbr_c h
  rcases h with ⟨hb, h⟩ | ⟨_, h⟩
  · cases beq_t hb
    exact ⟨c_U_afterNights h (d + 0), fun q => absurd q (by decide)⟩
  cases h
theorem c_C_goes {av : List Value} {s : Mem} {z : Int32 × Mem} (h : A_C_goes av s = some z) (d : Nat) : Ctr (d + 8) I_C_goes av s z := by
  unfold A_C_goes at h
  split at h
  · replace h := cbr_n h
    obtain ⟨hb, h⟩ := h
    cases beq_t hb
    refine ctr_of (d := d + 7) (own := 10) (kps := []) (code := K_C_goes) (Cl := C_C_goes) o_C_goes rfl (by decide) k_C_goes (l_C_goes d) (c1_of rfl) (Nat.le_of_ble_eq_true rfl) ?_
    intro RA S
    rw [e_C_goes] at h
    refine S.2 _ ?_ 700 0 _ _ (ck1_of rfl) h
    intro k ls s h
    cases h
  · cases h
set_option maxRecDepth 1000000 in
theorem k_U_wouldCreak : okC 4 I_U_wouldCreak.2.2.1 I_U_wouldCreak.2.1 I_U_wouldCreak.2.2.2.1 [] K_U_wouldCreak K_U_wouldCreak = true := by decide +kernel
theorem l_U_wouldCreak (d : Nat) (k : Nat) (av : List Value) (s : Mem) (y : Int32 × Mem) (h : C_U_wouldCreak k av s = some y) : Ctr (d + 3) (mtab k) av s y ∧ ((mtab k).2.2.2.2.2 = 77 → ∃ b rest, av = .ref b :: rest ∧ (b = 1001 ∨ b = 1002)) := by
  unfold C_U_wouldCreak at h
  replace h := cbr_c h
  rcases h with ⟨hb, h⟩ | ⟨_, h⟩
  · cases beq_t hb
    exact ⟨c_L_ask h (d + 0), fun q => absurd q (by decide)⟩
  cases h
theorem c_U_wouldCreak {av : List Value} {s : Mem} {z : Int32 × Mem} (h : A_U_wouldCreak av s = some z) (d : Nat) : Ctr (d + 4) I_U_wouldCreak av s z := by
  unfold A_U_wouldCreak at h
  split at h
  · replace h := cbr_n h
    obtain ⟨hb, h⟩ := h
    cases beq_t hb
    refine ctr_of (d := d + 3) (own := 4) (kps := []) (code := K_U_wouldCreak) (Cl := C_U_wouldCreak) o_U_wouldCreak rfl (by decide) k_U_wouldCreak (l_U_wouldCreak d) (c1_of rfl) (Nat.le_of_ble_eq_true rfl) ?_
    intro RA S
    rw [e_U_wouldCreak] at h
    refine S.2 _ ?_ 700 0 _ _ (ck1_of rfl) h
    intro k ls s h
    cases h
  · cases h
set_option maxRecDepth 1000000 in
theorem k_U_strideCost : okC 4 I_U_strideCost.2.2.1 I_U_strideCost.2.1 I_U_strideCost.2.2.2.1 [] K_U_strideCost K_U_strideCost = true := by decide +kernel
theorem l_U_strideCost (d : Nat) (k : Nat) (av : List Value) (s : Mem) (y : Int32 × Mem) (h : C_U_strideCost k av s = some y) : Ctr (d + 4) (mtab k) av s y ∧ ((mtab k).2.2.2.2.2 = 77 → ∃ b rest, av = .ref b :: rest ∧ (b = 1001 ∨ b = 1002)) := by
  unfold C_U_strideCost at h
  replace h := cbr_c h
  rcases h with ⟨hb, h⟩ | ⟨_, h⟩
  · cases beq_t hb
    exact ⟨c_H_size h (d + 2), fun q => absurd q (by decide)⟩
  replace h := cbr_c h
  rcases h with ⟨hb, h⟩ | ⟨_, h⟩
  · cases beq_t hb
    exact ⟨c_C_within h (d + 3), fun q => absurd q (by decide)⟩
  replace h := cbr_c h
  rcases h with ⟨hb, h⟩ | ⟨_, h⟩
  · cases beq_t hb
    exact ⟨c_H_isMissing h (d + 2), fun q => absurd q (by decide)⟩
  replace h := cbr_c h
  rcases h with ⟨hb, h⟩ | ⟨_, h⟩
  · cases beq_t hb
    exact ⟨c_U_wouldCreak h (d + 0), fun q => absurd q (by decide)⟩
  replace h := cbr_c h
  rcases h with ⟨hb, h⟩ | ⟨_, h⟩
  · cases beq_t hb
    exact ⟨c_JM_min h (d + 3), fun q => absurd q (by decide)⟩
  cases h
theorem c_U_strideCost {av : List Value} {s : Mem} {z : Int32 × Mem} (h : A_U_strideCost av s = some z) (d : Nat) : Ctr (d + 5) I_U_strideCost av s z := by
  unfold A_U_strideCost at h
  split at h
  · replace h := cbr_n h
    obtain ⟨hb, h⟩ := h
    cases beq_t hb
    replace h := cbr_n h
    obtain ⟨hb, h⟩ := h
    cases beq_t hb
    refine ctr_of (d := d + 4) (own := 4) (kps := []) (code := K_U_strideCost) (Cl := C_U_strideCost) o_U_strideCost rfl (by decide) k_U_strideCost (l_U_strideCost d) (c1_of rfl) (Nat.le_of_ble_eq_true rfl) ?_
    intro RA S
    rw [e_U_strideCost] at h
    refine S.2 _ ?_ 700 0 _ _ (ck1_of rfl) h
    intro k ls s h
    cases h
  · cases h
set_option maxRecDepth 1000000 in
theorem k_U_quietest : okC 4 I_U_quietest.2.2.1 I_U_quietest.2.1 I_U_quietest.2.2.2.1 [19, 36] K_U_quietest K_U_quietest = true := by decide +kernel
theorem a_U_quietest_9 {z : Int32 × Mem} {RA : Nat → List (Option Value) → Mem → Prop} (hm : ∀ (pc : Nat) (ls ls1 : List (Option Value)) (σ : Mem), ls1.length = I_U_quietest.2.2.1 → (∀ i v, lk ls1 i = some v → lk ls i = some v) → RA pc ls1 σ → RA pc ls σ) {f : Int32 → Int32 → Int32 → Int32 → Mem → Option (Int32 × Mem)} {ls : List (Option Value)} {s : Mem} (h : A_U_quietest_9 f ls s = some z) (hf : ∀ (x2 : Int32) (x3 : Int32) (x4 : Int32) (x6 : Int32) (s : Mem), f x2 x3 x4 x6 s = some z → RA 19 [some (.ref 90), some (.ref 1), some (.int x2), some (.int x3), some (.int x4), none, some (.int x6), none] s) : RA 19 ls s := by
  unfold A_U_quietest_9 at h
  split at h
  · rename_i a0 a1 a2 a3 a4 a5 e0 e1 e2 e3 e4 e5
    replace h := cbr_n h
    obtain ⟨hb, h⟩ := h
    cases beq_t hb
    replace h := cbr_n h
    obtain ⟨hb, h⟩ := h
    cases beq_t hb
    refine hm _ _ [some (.ref 90), some (.ref 1), some (.int a2), some (.int a3), some (.int a4), none, some (.int a5), none] _ rfl (fun i v hv => ?_) (hf _ _ _ _ _ h)
    match i, hv with
    | 0, hv => exact e0.trans hv
    | 1, hv => exact e1.trans hv
    | 2, hv => exact e2.trans hv
    | 3, hv => exact e3.trans hv
    | 4, hv => exact e4.trans hv
    | 5, hv => cases hv
    | 6, hv => exact e5.trans hv
    | 7, hv => cases hv
    | i + 8, hv => cases hv
  · cases h
theorem a_U_quietest_18 {z : Int32 × Mem} {RA : Nat → List (Option Value) → Mem → Prop} (hm : ∀ (pc : Nat) (ls ls1 : List (Option Value)) (σ : Mem), ls1.length = I_U_quietest.2.2.1 → (∀ i v, lk ls1 i = some v → lk ls i = some v) → RA pc ls1 σ → RA pc ls σ) {f : Int32 → Int32 → Int32 → Int32 → Int32 → Mem → Option (Int32 × Mem)} {ls : List (Option Value)} {s : Mem} (h : A_U_quietest_18 f ls s = some z) (hf : ∀ (x2 : Int32) (x3 : Int32) (x4 : Int32) (x6 : Int32) (x7 : Int32) (s : Mem), f x2 x3 x4 x6 x7 s = some z → RA 36 [some (.ref 90), some (.ref 1), some (.int x2), some (.int x3), some (.int x4), none, some (.int x6), some (.int x7)] s) : RA 36 ls s := by
  unfold A_U_quietest_18 at h
  split at h
  · rename_i a0 a1 a2 a3 a4 a5 a6 e0 e1 e2 e3 e4 e5 e6
    replace h := cbr_n h
    obtain ⟨hb, h⟩ := h
    cases beq_t hb
    replace h := cbr_n h
    obtain ⟨hb, h⟩ := h
    cases beq_t hb
    refine hm _ _ [some (.ref 90), some (.ref 1), some (.int a2), some (.int a3), some (.int a4), none, some (.int a5), some (.int a6)] _ rfl (fun i v hv => ?_) (hf _ _ _ _ _ _ h)
    match i, hv with
    | 0, hv => exact e0.trans hv
    | 1, hv => exact e1.trans hv
    | 2, hv => exact e2.trans hv
    | 3, hv => exact e3.trans hv
    | 4, hv => exact e4.trans hv
    | 5, hv => cases hv
    | 6, hv => exact e5.trans hv
    | 7, hv => exact e6.trans hv
    | i + 8, hv => cases hv
  · cases h
theorem n_U_quietest_18 {z : Int32 × Mem} {RA : Nat → List (Option Value) → Mem → Prop} (S : Sm I_U_quietest C_U_quietest K_U_quietest [19, 36] z RA) {k9 : Int32 → Int32 → Int32 → Int32 → Mem → Option (Int32 × Mem)} (hk9 : ∀ (x2 : Int32) (x3 : Int32) (x4 : Int32) (x6 : Int32) (s : Mem), k9 x2 x3 x4 x6 s = some z → RA 19 [some (.ref 90), some (.ref 1), some (.int x2), some (.int x3), some (.int x4), none, some (.int x6), none] s) : ∀ (n : Nat) (x2 : Int32) (x3 : Int32) (x4 : Int32) (x6 : Int32) (x7 : Int32) (s : Mem), F_U_quietest_18 k9 n x2 x3 x4 x6 x7 s = some z → RA 36 [some (.ref 90), some (.ref 1), some (.int x2), some (.int x3), some (.int x4), none, some (.int x6), some (.int x7)] s := by
  intro n
  induction n with
  | zero => intro x2 x3 x4 x6 x7 s h; exact nomatch (show (none : Option (Int32 × Mem)) = some z from h)
  | succ n ih =>
    intro x2 x3 x4 x6 x7 s h
    rw [e_U_quietest_18] at h
    refine S.2 _ ?_ 700 20 _ _ (ck1_of rfl) h
    intro k ls s h
    replace h := cbr_c h
    rcases h with ⟨hb, h⟩ | ⟨_, h⟩
    · cases beq_t hb
      exact a_U_quietest_9 S.1 h hk9
    replace h := cbr_c h
    rcases h with ⟨hb, h⟩ | ⟨_, h⟩
    · cases beq_t hb
      exact a_U_quietest_18 S.1 h ih
    cases h
theorem n_U_quietest_9 {z : Int32 × Mem} {RA : Nat → List (Option Value) → Mem → Prop} (S : Sm I_U_quietest C_U_quietest K_U_quietest [19, 36] z RA) : ∀ (n : Nat) (x2 : Int32) (x3 : Int32) (x4 : Int32) (x6 : Int32) (s : Mem), F_U_quietest_9 n x2 x3 x4 x6 s = some z → RA 19 [some (.ref 90), some (.ref 1), some (.int x2), some (.int x3), some (.int x4), none, some (.int x6), none] s := by
  intro n
  induction n with
  | zero => intro x2 x3 x4 x6 s h; exact nomatch (show (none : Option (Int32 × Mem)) = some z from h)
  | succ n ih =>
    intro x2 x3 x4 x6 s h
    rw [e_U_quietest_9] at h
    refine S.2 _ ?_ 700 10 _ _ (ck1_of rfl) h
    intro k ls s h
    replace h := cbr_c h
    rcases h with ⟨hb, h⟩ | ⟨_, h⟩
    · cases beq_t hb
      exact a_U_quietest_18 S.1 h (n_U_quietest_18 S ih gF)
    cases h
theorem l_U_quietest (d : Nat) (k : Nat) (av : List Value) (s : Mem) (y : Int32 × Mem) (h : C_U_quietest k av s = some y) : Ctr (d + 5) (mtab k) av s y ∧ ((mtab k).2.2.2.2.2 = 77 → ∃ b rest, av = .ref b :: rest ∧ (b = 1001 ∨ b = 1002)) := by
  unfold C_U_quietest at h
  replace h := cbr_c h
  rcases h with ⟨hb, h⟩ | ⟨_, h⟩
  · cases beq_t hb
    exact ⟨c_H_size h (d + 3), fun q => absurd q (by decide)⟩
  replace h := cbr_c h
  rcases h with ⟨hb, h⟩ | ⟨_, h⟩
  · cases beq_t hb
    exact ⟨c_JM_min h (d + 4), fun q => absurd q (by decide)⟩
  replace h := cbr_c h
  rcases h with ⟨hb, h⟩ | ⟨_, h⟩
  · cases beq_t hb
    exact ⟨c_U_strideCost h (d + 0), fun q => absurd q (by decide)⟩
  cases h
theorem c_U_quietest {av : List Value} {s : Mem} {z : Int32 × Mem} (h : A_U_quietest av s = some z) (d : Nat) : Ctr (d + 6) I_U_quietest av s z := by
  unfold A_U_quietest at h
  split at h
  · replace h := cbr_n h
    obtain ⟨hb, h⟩ := h
    cases beq_t hb
    replace h := cbr_n h
    obtain ⟨hb, h⟩ := h
    cases beq_t hb
    refine ctr_of (d := d + 5) (own := 4) (kps := [19, 36]) (code := K_U_quietest) (Cl := C_U_quietest) o_U_quietest rfl (by decide) k_U_quietest (l_U_quietest d) (c1_of rfl) (Nat.le_of_ble_eq_true rfl) ?_
    intro RA S
    rw [e_U_quietest] at h
    refine S.2 _ ?_ 700 0 _ _ (ck1_of rfl) h
    intro k ls s h
    replace h := cbr_c h
    rcases h with ⟨hb, h⟩ | ⟨_, h⟩
    · cases beq_t hb
      exact a_U_quietest_9 S.1 h (n_U_quietest_9 S gF)
    cases h
  · cases h
set_option maxRecDepth 1000000 in
theorem k_C_unheard : okC 10 I_C_unheard.2.2.1 I_C_unheard.2.1 I_C_unheard.2.2.2.1 [] K_C_unheard K_C_unheard = true := by decide +kernel
theorem l_C_unheard (d : Nat) (k : Nat) (av : List Value) (s : Mem) (y : Int32 × Mem) (h : C_C_unheard k av s = some y) : Ctr (d + 6) (mtab k) av s y ∧ ((mtab k).2.2.2.2.2 = 77 → ∃ b rest, av = .ref b :: rest ∧ (b = 1001 ∨ b = 1002)) := by
  unfold C_C_unheard at h
  replace h := cbr_c h
  rcases h with ⟨hb, h⟩ | ⟨_, h⟩
  · cases beq_t hb
    exact ⟨c_H_has1 h (d + 4), fun q => absurd q (by decide)⟩
  replace h := cbr_c h
  rcases h with ⟨hb, h⟩ | ⟨_, h⟩
  · cases beq_t hb
    exact ⟨c_C_isVisitor h (d + 4), fun q => absurd q (by decide)⟩
  replace h := cbr_c h
  rcases h with ⟨hb, h⟩ | ⟨_, h⟩
  · cases beq_t hb
    exact ⟨c_C_within h (d + 5), fun q => absurd q (by decide)⟩
  replace h := cbr_c h
  rcases h with ⟨hb, h⟩ | ⟨_, h⟩
  · cases beq_t hb
    exact ⟨c_U_quietest h (d + 0), fun q => absurd q (by decide)⟩
  cases h
theorem c_C_unheard {av : List Value} {s : Mem} {z : Int32 × Mem} (h : A_C_unheard av s = some z) (d : Nat) : Ctr (d + 7) I_C_unheard av s z := by
  unfold A_C_unheard at h
  split at h
  · replace h := cbr_n h
    obtain ⟨hb, h⟩ := h
    cases beq_t hb
    refine ctr_of (d := d + 6) (own := 10) (kps := []) (code := K_C_unheard) (Cl := C_C_unheard) o_C_unheard rfl (by decide) k_C_unheard (l_C_unheard d) (c1_of rfl) (Nat.le_of_ble_eq_true rfl) ?_
    intro RA S
    rw [e_C_unheard] at h
    refine S.2 _ ?_ 700 0 _ _ (ck1_of rfl) h
    intro k ls s h
    cases h
  · cases h
set_option maxRecDepth 1000000 in
theorem k_W_clear : okC 8 I_W_clear.2.2.1 I_W_clear.2.1 I_W_clear.2.2.2.1 [] K_W_clear K_W_clear = true := by decide +kernel
theorem l_W_clear (d : Nat) (k : Nat) (av : List Value) (s : Mem) (y : Int32 × Mem) (h : C_W_clear k av s = some y) : Ctr (d + 0) (mtab k) av s y ∧ ((mtab k).2.2.2.2.2 = 77 → ∃ b rest, av = .ref b :: rest ∧ (b = 1001 ∨ b = 1002)) := by
  exact nomatch (show (none : Option (Int32 × Mem)) = some y from h)
theorem c_W_clear {av : List Value} {s : Mem} {z : Int32 × Mem} (h : A_W_clear av s = some z) (d : Nat) : Ctr (d + 1) I_W_clear av s z := by
  unfold A_W_clear at h
  split at h
  · refine ctr_of (d := d + 0) (own := 8) (kps := []) (code := K_W_clear) (Cl := C_W_clear) o_W_clear rfl (by decide) k_W_clear (l_W_clear d) (c1_of rfl) (Nat.le_of_ble_eq_true rfl) ?_
    intro RA S
    rw [e_W_clear] at h
    refine S.2 _ ?_ 700 0 _ _ (ck1_of rfl) h
    intro k ls s h
    cases h
  · cases h
set_option maxRecDepth 1000000 in
theorem k_W_add : okC 8 I_W_add.2.2.1 I_W_add.2.1 I_W_add.2.2.2.1 [] K_W_add K_W_add = true := by decide +kernel
theorem l_W_add (d : Nat) (k : Nat) (av : List Value) (s : Mem) (y : Int32 × Mem) (h : C_W_add k av s = some y) : Ctr (d + 1) (mtab k) av s y ∧ ((mtab k).2.2.2.2.2 = 77 → ∃ b rest, av = .ref b :: rest ∧ (b = 1001 ∨ b = 1002)) := by
  unfold C_W_add at h
  replace h := cbr_c h
  rcases h with ⟨hb, h⟩ | ⟨_, h⟩
  · cases beq_t hb
    exact ⟨c_C_within h (d + 0), fun q => absurd q (by decide)⟩
  cases h
theorem c_W_add {av : List Value} {s : Mem} {z : Int32 × Mem} (h : A_W_add av s = some z) (d : Nat) : Ctr (d + 2) I_W_add av s z := by
  unfold A_W_add at h
  split at h
  · refine ctr_of (d := d + 1) (own := 8) (kps := []) (code := K_W_add) (Cl := C_W_add) o_W_add rfl (by decide) k_W_add (l_W_add d) (c1_of rfl) (Nat.le_of_ble_eq_true rfl) ?_
    intro RA S
    rw [e_W_add] at h
    refine S.2 _ ?_ 700 0 _ _ (ck1_of rfl) h
    intro k ls s h
    cases h
  · cases h
set_option maxRecDepth 1000000 in
theorem k_C_suspect : okC 10 I_C_suspect.2.2.1 I_C_suspect.2.1 I_C_suspect.2.2.2.1 [] K_C_suspect K_C_suspect = true := by decide +kernel
theorem l_C_suspect (d : Nat) (k : Nat) (av : List Value) (s : Mem) (y : Int32 × Mem) (h : C_C_suspect k av s = some y) : Ctr (d + 2) (mtab k) av s y ∧ ((mtab k).2.2.2.2.2 = 77 → ∃ b rest, av = .ref b :: rest ∧ (b = 1001 ∨ b = 1002)) := by
  unfold C_C_suspect at h
  replace h := cbr_c h
  rcases h with ⟨hb, h⟩ | ⟨_, h⟩
  · cases beq_t hb
    exact ⟨c_W_clear h (d + 1), fun q => absurd q (by decide)⟩
  replace h := cbr_c h
  rcases h with ⟨hb, h⟩ | ⟨_, h⟩
  · cases beq_t hb
    exact ⟨c_C_isVisitor h (d + 0), fun q => absurd q (by decide)⟩
  replace h := cbr_c h
  rcases h with ⟨hb, h⟩ | ⟨_, h⟩
  · cases beq_t hb
    exact ⟨c_W_add h (d + 0), fun q => absurd q (by decide)⟩
  cases h
theorem c_C_suspect {av : List Value} {s : Mem} {z : Int32 × Mem} (h : A_C_suspect av s = some z) (d : Nat) : Ctr (d + 3) I_C_suspect av s z := by
  unfold A_C_suspect at h
  split at h
  · replace h := cbr_n h
    obtain ⟨hb, h⟩ := h
    cases beq_t hb
    refine ctr_of (d := d + 2) (own := 10) (kps := []) (code := K_C_suspect) (Cl := C_C_suspect) o_C_suspect rfl (by decide) k_C_suspect (l_C_suspect d) (c1_of rfl) (Nat.le_of_ble_eq_true rfl) ?_
    intro RA S
    rw [e_C_suspect] at h
    refine S.2 _ ?_ 700 0 _ _ (ck1_of rfl) h
    intro k ls s h
    cases h
  · cases h
set_option maxRecDepth 1000000 in
theorem k_H_hasSet : okC 1 I_H_hasSet.2.2.1 I_H_hasSet.2.1 I_H_hasSet.2.2.2.1 [] K_H_hasSet K_H_hasSet = true := by decide +kernel
theorem l_H_hasSet (d : Nat) (k : Nat) (av : List Value) (s : Mem) (y : Int32 × Mem) (h : C_H_hasSet k av s = some y) : Ctr (d + 2) (mtab k) av s y ∧ ((mtab k).2.2.2.2.2 = 77 → ∃ b rest, av = .ref b :: rest ∧ (b = 1001 ∨ b = 1002)) := by
  unfold C_H_hasSet at h
  replace h := cbr_c h
  rcases h with ⟨hb, h⟩ | ⟨_, h⟩
  · cases beq_t hb
    exact ⟨c_H_has1 h (d + 0), fun q => absurd q (by decide)⟩
  replace h := cbr_c h
  rcases h with ⟨hb, h⟩ | ⟨_, h⟩
  · cases beq_t hb
    exact ⟨c_H_size h (d + 0), fun q => absurd q (by decide)⟩
  cases h
theorem c_H_hasSet {av : List Value} {s : Mem} {z : Int32 × Mem} (h : A_H_hasSet av s = some z) (d : Nat) : Ctr (d + 3) I_H_hasSet av s z := by
  unfold A_H_hasSet at h
  split at h
  · replace h := cbr_n h
    obtain ⟨hb, h⟩ := h
    cases beq_t hb
    refine ctr_of (d := d + 2) (own := 1) (kps := []) (code := K_H_hasSet) (Cl := C_H_hasSet) o_H_hasSet rfl (by decide) k_H_hasSet (l_H_hasSet d) (c1_of rfl) (Nat.le_of_ble_eq_true rfl) ?_
    intro RA S
    rw [e_H_hasSet] at h
    refine S.2 _ ?_ 700 0 _ _ (ck1_of rfl) h
    intro k ls s h
    cases h
  · cases h
set_option maxRecDepth 1000000 in
theorem k_W_at : okC 8 I_W_at.2.2.1 I_W_at.2.1 I_W_at.2.2.2.1 [] K_W_at K_W_at = true := by decide +kernel
theorem l_W_at (d : Nat) (k : Nat) (av : List Value) (s : Mem) (y : Int32 × Mem) (h : C_W_at k av s = some y) : Ctr (d + 1) (mtab k) av s y ∧ ((mtab k).2.2.2.2.2 = 77 → ∃ b rest, av = .ref b :: rest ∧ (b = 1001 ∨ b = 1002)) := by
  unfold C_W_at at h
  replace h := cbr_c h
  rcases h with ⟨hb, h⟩ | ⟨_, h⟩
  · cases beq_t hb
    exact ⟨c_C_within h (d + 0), fun q => absurd q (by decide)⟩
  cases h
theorem c_W_at {av : List Value} {s : Mem} {z : Int32 × Mem} (h : A_W_at av s = some z) (d : Nat) : Ctr (d + 2) I_W_at av s z := by
  unfold A_W_at at h
  split at h
  · refine ctr_of (d := d + 1) (own := 8) (kps := []) (code := K_W_at) (Cl := C_W_at) o_W_at rfl (by decide) k_W_at (l_W_at d) (c1_of rfl) (Nat.le_of_ble_eq_true rfl) ?_
    intro RA S
    rw [e_W_at] at h
    refine S.2 _ ?_ 700 0 _ _ (ck1_of rfl) h
    intro k ls s h
    cases h
  · cases h
set_option maxRecDepth 1000000 in
theorem k_U_makesCreak : okC 4 I_U_makesCreak.2.2.1 I_U_makesCreak.2.1 I_U_makesCreak.2.2.2.1 [] K_U_makesCreak K_U_makesCreak = true := by decide +kernel
theorem l_U_makesCreak (d : Nat) (k : Nat) (av : List Value) (s : Mem) (y : Int32 × Mem) (h : C_U_makesCreak k av s = some y) : Ctr (d + 4) (mtab k) av s y ∧ ((mtab k).2.2.2.2.2 = 77 → ∃ b rest, av = .ref b :: rest ∧ (b = 1001 ∨ b = 1002)) := by
  unfold C_U_makesCreak at h
  replace h := cbr_c h
  rcases h with ⟨hb, h⟩ | ⟨_, h⟩
  · cases beq_t hb
    exact ⟨c_W_at h (d + 2), fun q => absurd q (by decide)⟩
  replace h := cbr_c h
  rcases h with ⟨hb, h⟩ | ⟨_, h⟩
  · cases beq_t hb
    exact ⟨c_JM_max h (d + 3), fun q => absurd q (by decide)⟩
  replace h := cbr_c h
  rcases h with ⟨hb, h⟩ | ⟨_, h⟩
  · cases beq_t hb
    exact ⟨c_H_isMissing h (d + 2), fun q => absurd q (by decide)⟩
  replace h := cbr_c h
  rcases h with ⟨hb, h⟩ | ⟨_, h⟩
  · cases beq_t hb
    exact ⟨c_U_wouldCreak h (d + 0), fun q => absurd q (by decide)⟩
  cases h
theorem c_U_makesCreak {av : List Value} {s : Mem} {z : Int32 × Mem} (h : A_U_makesCreak av s = some z) (d : Nat) : Ctr (d + 5) I_U_makesCreak av s z := by
  unfold A_U_makesCreak at h
  split at h
  · replace h := cbr_n h
    obtain ⟨hb, h⟩ := h
    cases beq_t hb
    refine ctr_of (d := d + 4) (own := 4) (kps := []) (code := K_U_makesCreak) (Cl := C_U_makesCreak) o_U_makesCreak rfl (by decide) k_U_makesCreak (l_U_makesCreak d) (c1_of rfl) (Nat.le_of_ble_eq_true rfl) ?_
    intro RA S
    rw [e_U_makesCreak] at h
    refine S.2 _ ?_ 700 0 _ _ (ck1_of rfl) h
    intro k ls s h
    cases h
  · cases h
set_option maxRecDepth 1000000 in
theorem k_U_fitting : okC 4 I_U_fitting.2.2.1 I_U_fitting.2.1 I_U_fitting.2.2.2.1 [6, 27] K_U_fitting K_U_fitting = true := by decide +kernel
theorem a_U_fitting_4 {z : Int32 × Mem} {RA : Nat → List (Option Value) → Mem → Prop} (hm : ∀ (pc : Nat) (ls ls1 : List (Option Value)) (σ : Mem), ls1.length = I_U_fitting.2.2.1 → (∀ i v, lk ls1 i = some v → lk ls i = some v) → RA pc ls1 σ → RA pc ls σ) {f : Int32 → Int32 → Int32 → Int32 → Mem → Option (Int32 × Mem)} {ls : List (Option Value)} {s : Mem} (h : A_U_fitting_4 f ls s = some z) (hf : ∀ (x2 : Int32) (x3 : Int32) (x4 : Int32) (x5 : Int32) (s : Mem), f x2 x3 x4 x5 s = some z → RA 6 [none, some (.ref 1), some (.int x2), some (.int x3), some (.int x4), some (.int x5), none, none] s) : RA 6 ls s := by
  unfold A_U_fitting_4 at h
  split at h
  · rename_i a0 a1 a2 a3 a4 e0 e1 e2 e3 e4
    replace h := cbr_n h
    obtain ⟨hb, h⟩ := h
    cases beq_t hb
    refine hm _ _ [none, some (.ref 1), some (.int a1), some (.int a2), some (.int a3), some (.int a4), none, none] _ rfl (fun i v hv => ?_) (hf _ _ _ _ _ h)
    match i, hv with
    | 0, hv => cases hv
    | 1, hv => exact e0.trans hv
    | 2, hv => exact e1.trans hv
    | 3, hv => exact e2.trans hv
    | 4, hv => exact e3.trans hv
    | 5, hv => exact e4.trans hv
    | 6, hv => cases hv
    | 7, hv => cases hv
    | i + 8, hv => cases hv
  · cases h
theorem a_U_fitting_14 {z : Int32 × Mem} {RA : Nat → List (Option Value) → Mem → Prop} (hm : ∀ (pc : Nat) (ls ls1 : List (Option Value)) (σ : Mem), ls1.length = I_U_fitting.2.2.1 → (∀ i v, lk ls1 i = some v → lk ls i = some v) → RA pc ls1 σ → RA pc ls σ) {f : Int32 → Int32 → Int32 → Int32 → Int32 → Int32 → Mem → Option (Int32 × Mem)} {ls : List (Option Value)} {s : Mem} (h : A_U_fitting_14 f ls s = some z) (hf : ∀ (x2 : Int32) (x3 : Int32) (x4 : Int32) (x5 : Int32) (x6 : Int32) (x7 : Int32) (s : Mem), f x2 x3 x4 x5 x6 x7 s = some z → RA 27 [none, some (.ref 1), some (.int x2), some (.int x3), some (.int x4), some (.int x5), some (.int x6), some (.int x7)] s) : RA 27 ls s := by
  unfold A_U_fitting_14 at h
  split at h
  · rename_i a0 a1 a2 a3 a4 a5 a6 e0 e1 e2 e3 e4 e5 e6
    replace h := cbr_n h
    obtain ⟨hb, h⟩ := h
    cases beq_t hb
    refine hm _ _ [none, some (.ref 1), some (.int a1), some (.int a2), some (.int a3), some (.int a4), some (.int a5), some (.int a6)] _ rfl (fun i v hv => ?_) (hf _ _ _ _ _ _ _ h)
    match i, hv with
    | 0, hv => cases hv
    | 1, hv => exact e0.trans hv
    | 2, hv => exact e1.trans hv
    | 3, hv => exact e2.trans hv
    | 4, hv => exact e3.trans hv
    | 5, hv => exact e4.trans hv
    | 6, hv => exact e5.trans hv
    | 7, hv => exact e6.trans hv
    | i + 8, hv => cases hv
  · cases h
theorem n_U_fitting_14 {z : Int32 × Mem} {RA : Nat → List (Option Value) → Mem → Prop} (S : Sm I_U_fitting C_U_fitting K_U_fitting [6, 27] z RA) {k4 : Int32 → Int32 → Int32 → Int32 → Mem → Option (Int32 × Mem)} (hk4 : ∀ (x2 : Int32) (x3 : Int32) (x4 : Int32) (x5 : Int32) (s : Mem), k4 x2 x3 x4 x5 s = some z → RA 6 [none, some (.ref 1), some (.int x2), some (.int x3), some (.int x4), some (.int x5), none, none] s) : ∀ (n : Nat) (x2 : Int32) (x3 : Int32) (x4 : Int32) (x5 : Int32) (x6 : Int32) (x7 : Int32) (s : Mem), F_U_fitting_14 k4 n x2 x3 x4 x5 x6 x7 s = some z → RA 27 [none, some (.ref 1), some (.int x2), some (.int x3), some (.int x4), some (.int x5), some (.int x6), some (.int x7)] s := by
  intro n
  induction n with
  | zero => intro x2 x3 x4 x5 x6 x7 s h; exact nomatch (show (none : Option (Int32 × Mem)) = some z from h)
  | succ n ih =>
    intro x2 x3 x4 x5 x6 x7 s h
    rw [e_U_fitting_14] at h
    refine S.2 _ ?_ 700 16 _ _ (ck1_of rfl) h
    intro k ls s h
    replace h := cbr_c h
    rcases h with ⟨hb, h⟩ | ⟨_, h⟩
    · cases beq_t hb
      exact a_U_fitting_4 S.1 h hk4
    replace h := cbr_c h
    rcases h with ⟨hb, h⟩ | ⟨_, h⟩
    · cases beq_t hb
      exact a_U_fitting_14 S.1 h ih
    cases h
theorem n_U_fitting_4 {z : Int32 × Mem} {RA : Nat → List (Option Value) → Mem → Prop} (S : Sm I_U_fitting C_U_fitting K_U_fitting [6, 27] z RA) : ∀ (n : Nat) (x2 : Int32) (x3 : Int32) (x4 : Int32) (x5 : Int32) (s : Mem), F_U_fitting_4 n x2 x3 x4 x5 s = some z → RA 6 [none, some (.ref 1), some (.int x2), some (.int x3), some (.int x4), some (.int x5), none, none] s := by
  intro n
  induction n with
  | zero => intro x2 x3 x4 x5 s h; exact nomatch (show (none : Option (Int32 × Mem)) = some z from h)
  | succ n ih =>
    intro x2 x3 x4 x5 s h
    rw [e_U_fitting_4] at h
    refine S.2 _ ?_ 700 5 _ _ (ck1_of rfl) h
    intro k ls s h
    replace h := cbr_c h
    rcases h with ⟨hb, h⟩ | ⟨_, h⟩
    · cases beq_t hb
      exact a_U_fitting_14 S.1 h (n_U_fitting_14 S ih gF)
    cases h
theorem l_U_fitting (d : Nat) (k : Nat) (av : List Value) (s : Mem) (y : Int32 × Mem) (h : C_U_fitting k av s = some y) : Ctr (d + 5) (mtab k) av s y ∧ ((mtab k).2.2.2.2.2 = 77 → ∃ b rest, av = .ref b :: rest ∧ (b = 1001 ∨ b = 1002)) := by
  unfold C_U_fitting at h
  replace h := cbr_c h
  rcases h with ⟨hb, h⟩ | ⟨_, h⟩
  · cases beq_t hb
    exact ⟨c_H_size h (d + 3), fun q => absurd q (by decide)⟩
  replace h := cbr_c h
  rcases h with ⟨hb, h⟩ | ⟨_, h⟩
  · cases beq_t hb
    exact ⟨c_U_makesCreak h (d + 0), fun q => absurd q (by decide)⟩
  cases h
theorem c_U_fitting {av : List Value} {s : Mem} {z : Int32 × Mem} (h : A_U_fitting av s = some z) (d : Nat) : Ctr (d + 6) I_U_fitting av s z := by
  unfold A_U_fitting at h
  split at h
  · replace h := cbr_n h
    obtain ⟨hb, h⟩ := h
    cases beq_t hb
    replace h := cbr_n h
    obtain ⟨hb, h⟩ := h
    cases beq_t hb
    refine ctr_of (d := d + 5) (own := 4) (kps := [6, 27]) (code := K_U_fitting) (Cl := C_U_fitting) o_U_fitting rfl (by decide) k_U_fitting (l_U_fitting d) (c1_of rfl) (Nat.le_of_ble_eq_true rfl) ?_
    intro RA S
    rw [e_U_fitting] at h
    refine S.2 _ ?_ 700 0 _ _ (ck1_of rfl) h
    intro k ls s h
    replace h := cbr_c h
    rcases h with ⟨hb, h⟩ | ⟨_, h⟩
    · cases beq_t hb
      exact a_U_fitting_4 S.1 h (n_U_fitting_4 S gF)
    cases h
  · cases h
set_option maxRecDepth 1000000 in
theorem k_U_tellingStep : okC 4 I_U_tellingStep.2.2.1 I_U_tellingStep.2.1 I_U_tellingStep.2.2.2.1 [14, 47] K_U_tellingStep K_U_tellingStep = true := by decide +kernel
theorem a_U_tellingStep_7 {z : Int32 × Mem} {RA : Nat → List (Option Value) → Mem → Prop} (hm : ∀ (pc : Nat) (ls ls1 : List (Option Value)) (σ : Mem), ls1.length = I_U_tellingStep.2.2.1 → (∀ i v, lk ls1 i = some v → lk ls i = some v) → RA pc ls1 σ → RA pc ls σ) {f : Int32 → Int32 → Int32 → Mem → Option (Int32 × Mem)} {ls : List (Option Value)} {s : Mem} (h : A_U_tellingStep_7 f ls s = some z) (hf : ∀ (x2 : Int32) (x3 : Int32) (x4 : Int32) (s : Mem), f x2 x3 x4 s = some z → RA 14 [some (.ref 90), some (.ref 1), some (.int x2), some (.int x3), some (.int x4), none, none, none] s) : RA 14 ls s := by
  unfold A_U_tellingStep_7 at h
  split at h
  · rename_i a0 a1 a2 a3 a4 e0 e1 e2 e3 e4
    replace h := cbr_n h
    obtain ⟨hb, h⟩ := h
    cases beq_t hb
    replace h := cbr_n h
    obtain ⟨hb, h⟩ := h
    cases beq_t hb
    refine hm _ _ [some (.ref 90), some (.ref 1), some (.int a2), some (.int a3), some (.int a4), none, none, none] _ rfl (fun i v hv => ?_) (hf _ _ _ _ h)
    match i, hv with
    | 0, hv => exact e0.trans hv
    | 1, hv => exact e1.trans hv
    | 2, hv => exact e2.trans hv
    | 3, hv => exact e3.trans hv
    | 4, hv => exact e4.trans hv
    | 5, hv => cases hv
    | 6, hv => cases hv
    | 7, hv => cases hv
    | i + 8, hv => cases hv
  · cases h
theorem a_U_tellingStep_25 {z : Int32 × Mem} {RA : Nat → List (Option Value) → Mem → Prop} (hm : ∀ (pc : Nat) (ls ls1 : List (Option Value)) (σ : Mem), ls1.length = I_U_tellingStep.2.2.1 → (∀ i v, lk ls1 i = some v → lk ls i = some v) → RA pc ls1 σ → RA pc ls σ) {f : Int32 → Int32 → Int32 → Int32 → Int32 → Mem → Option (Int32 × Mem)} {ls : List (Option Value)} {s : Mem} (h : A_U_tellingStep_25 f ls s = some z) (hf : ∀ (x2 : Int32) (x3 : Int32) (x4 : Int32) (x5 : Int32) (x6 : Int32) (s : Mem), f x2 x3 x4 x5 x6 s = some z → RA 47 [some (.ref 90), some (.ref 1), some (.int x2), some (.int x3), some (.int x4), some (.int x5), some (.int x6), none] s) : RA 47 ls s := by
  unfold A_U_tellingStep_25 at h
  split at h
  · rename_i a0 a1 a2 a3 a4 a5 a6 e0 e1 e2 e3 e4 e5 e6
    replace h := cbr_n h
    obtain ⟨hb, h⟩ := h
    cases beq_t hb
    replace h := cbr_n h
    obtain ⟨hb, h⟩ := h
    cases beq_t hb
    refine hm _ _ [some (.ref 90), some (.ref 1), some (.int a2), some (.int a3), some (.int a4), some (.int a5), some (.int a6), none] _ rfl (fun i v hv => ?_) (hf _ _ _ _ _ _ h)
    match i, hv with
    | 0, hv => exact e0.trans hv
    | 1, hv => exact e1.trans hv
    | 2, hv => exact e2.trans hv
    | 3, hv => exact e3.trans hv
    | 4, hv => exact e4.trans hv
    | 5, hv => exact e5.trans hv
    | 6, hv => exact e6.trans hv
    | 7, hv => cases hv
    | i + 8, hv => cases hv
  · cases h
theorem n_U_tellingStep_25 {z : Int32 × Mem} {RA : Nat → List (Option Value) → Mem → Prop} (S : Sm I_U_tellingStep C_U_tellingStep K_U_tellingStep [14, 47] z RA) {k7 : Int32 → Int32 → Int32 → Mem → Option (Int32 × Mem)} (hk7 : ∀ (x2 : Int32) (x3 : Int32) (x4 : Int32) (s : Mem), k7 x2 x3 x4 s = some z → RA 14 [some (.ref 90), some (.ref 1), some (.int x2), some (.int x3), some (.int x4), none, none, none] s) : ∀ (n : Nat) (x2 : Int32) (x3 : Int32) (x4 : Int32) (x5 : Int32) (x6 : Int32) (s : Mem), F_U_tellingStep_25 k7 n x2 x3 x4 x5 x6 s = some z → RA 47 [some (.ref 90), some (.ref 1), some (.int x2), some (.int x3), some (.int x4), some (.int x5), some (.int x6), none] s := by
  intro n
  induction n with
  | zero => intro x2 x3 x4 x5 x6 s h; exact nomatch (show (none : Option (Int32 × Mem)) = some z from h)
  | succ n ih =>
    intro x2 x3 x4 x5 x6 s h
    rw [e_U_tellingStep_25] at h
    refine S.2 _ ?_ 700 27 _ _ (ck1_of rfl) h
    intro k ls s h
    replace h := cbr_c h
    rcases h with ⟨hb, h⟩ | ⟨_, h⟩
    · cases beq_t hb
      exact a_U_tellingStep_7 S.1 h hk7
    replace h := cbr_c h
    rcases h with ⟨hb, h⟩ | ⟨_, h⟩
    · cases beq_t hb
      exact a_U_tellingStep_25 S.1 h ih
    cases h
theorem n_U_tellingStep_7 {z : Int32 × Mem} {RA : Nat → List (Option Value) → Mem → Prop} (S : Sm I_U_tellingStep C_U_tellingStep K_U_tellingStep [14, 47] z RA) : ∀ (n : Nat) (x2 : Int32) (x3 : Int32) (x4 : Int32) (s : Mem), F_U_tellingStep_7 n x2 x3 x4 s = some z → RA 14 [some (.ref 90), some (.ref 1), some (.int x2), some (.int x3), some (.int x4), none, none, none] s := by
  intro n
  induction n with
  | zero => intro x2 x3 x4 s h; exact nomatch (show (none : Option (Int32 × Mem)) = some z from h)
  | succ n ih =>
    intro x2 x3 x4 s h
    rw [e_U_tellingStep_7] at h
    refine S.2 _ ?_ 700 8 _ _ (ck1_of rfl) h
    intro k ls s h
    replace h := cbr_c h
    rcases h with ⟨hb, h⟩ | ⟨_, h⟩
    · cases beq_t hb
      exact a_U_tellingStep_25 S.1 h (n_U_tellingStep_25 S ih gF)
    cases h
theorem l_U_tellingStep (d : Nat) (k : Nat) (av : List Value) (s : Mem) (y : Int32 × Mem) (h : C_U_tellingStep k av s = some y) : Ctr (d + 5) (mtab k) av s y ∧ ((mtab k).2.2.2.2.2 = 77 → ∃ b rest, av = .ref b :: rest ∧ (b = 1001 ∨ b = 1002)) := by
  unfold C_U_tellingStep at h
  replace h := cbr_c h
  rcases h with ⟨hb, h⟩ | ⟨_, h⟩
  · cases beq_t hb
    exact ⟨c_H_copyFrom h (d + 3), fun q => absurd q (by decide)⟩
  replace h := cbr_c h
  rcases h with ⟨hb, h⟩ | ⟨_, h⟩
  · cases beq_t hb
    exact ⟨c_H_size h (d + 3), fun q => absurd q (by decide)⟩
  replace h := cbr_c h
  rcases h with ⟨hb, h⟩ | ⟨_, h⟩
  · cases beq_t hb
    exact ⟨c_H_raiseTo h (d + 3), fun q => absurd q (by decide)⟩
  replace h := cbr_c h
  rcases h with ⟨hb, h⟩ | ⟨_, h⟩
  · cases beq_t hb
    exact ⟨c_U_makesCreak h (d + 0), fun q => absurd q (by decide)⟩
  cases h
theorem c_U_tellingStep {av : List Value} {s : Mem} {z : Int32 × Mem} (h : A_U_tellingStep av s = some z) (d : Nat) : Ctr (d + 6) I_U_tellingStep av s z := by
  unfold A_U_tellingStep at h
  split at h
  · replace h := cbr_n h
    obtain ⟨hb, h⟩ := h
    cases beq_t hb
    replace h := cbr_n h
    obtain ⟨hb, h⟩ := h
    cases beq_t hb
    refine ctr_of (d := d + 5) (own := 4) (kps := [14, 47]) (code := K_U_tellingStep) (Cl := C_U_tellingStep) o_U_tellingStep rfl (by decide) k_U_tellingStep (l_U_tellingStep d) (c1_of rfl) (Nat.le_of_ble_eq_true rfl) ?_
    intro RA S
    rw [e_U_tellingStep] at h
    refine S.2 _ ?_ 700 0 _ _ (ck1_of rfl) h
    intro k ls s h
    replace h := cbr_c h
    rcases h with ⟨hb, h⟩ | ⟨_, h⟩
    · cases beq_t hb
      exact a_U_tellingStep_7 S.1 h (n_U_tellingStep_7 S gF)
    cases h
  · cases h
set_option maxRecDepth 1000000 in
theorem k_C_who : okC 10 I_C_who.2.2.1 I_C_who.2.1 I_C_who.2.2.2.1 [] K_C_who K_C_who = true := by decide +kernel
theorem l_C_who (d : Nat) (k : Nat) (av : List Value) (s : Mem) (y : Int32 × Mem) (h : C_C_who k av s = some y) : Ctr (d + 6) (mtab k) av s y ∧ ((mtab k).2.2.2.2.2 = 77 → ∃ b rest, av = .ref b :: rest ∧ (b = 1001 ∨ b = 1002)) := by
  unfold C_C_who at h
  replace h := cbr_c h
  rcases h with ⟨hb, h⟩ | ⟨_, h⟩
  · cases beq_t hb
    exact ⟨c_H_hasSet h (d + 3), fun q => absurd q (by decide)⟩
  replace h := cbr_c h
  rcases h with ⟨hb, h⟩ | ⟨_, h⟩
  · cases beq_t hb
    exact ⟨c_C_within h (d + 5), fun q => absurd q (by decide)⟩
  replace h := cbr_c h
  rcases h with ⟨hb, h⟩ | ⟨_, h⟩
  · cases beq_t hb
    exact ⟨c_U_fitting h (d + 0), fun q => absurd q (by decide)⟩
  replace h := cbr_c h
  rcases h with ⟨hb, h⟩ | ⟨_, h⟩
  · cases beq_t hb
    exact ⟨c_U_tellingStep h (d + 0), fun q => absurd q (by decide)⟩
  cases h
theorem c_C_who {av : List Value} {s : Mem} {z : Int32 × Mem} (h : A_C_who av s = some z) (d : Nat) : Ctr (d + 7) I_C_who av s z := by
  unfold A_C_who at h
  split at h
  · replace h := cbr_n h
    obtain ⟨hb, h⟩ := h
    cases beq_t hb
    refine ctr_of (d := d + 6) (own := 10) (kps := []) (code := K_C_who) (Cl := C_C_who) o_C_who rfl (by decide) k_C_who (l_C_who d) (c1_of rfl) (Nat.le_of_ble_eq_true rfl) ?_
    intro RA S
    rw [e_C_who] at h
    refine S.2 _ ?_ 700 0 _ _ (ck1_of rfl) h
    intro k ls s h
    cases h
  · cases h
set_option maxRecDepth 1000000 in
theorem k_JA_fill : okC 14 I_JA_fill.2.2.1 I_JA_fill.2.1 I_JA_fill.2.2.2.1 [5] K_JA_fill K_JA_fill = true := by decide +kernel
theorem a_JA_fill_5 {z : Int32 × Mem} {RA : Nat → List (Option Value) → Mem → Prop} (hm : ∀ (pc : Nat) (ls ls1 : List (Option Value)) (σ : Mem), ls1.length = I_JA_fill.2.2.1 → (∀ i v, lk ls1 i = some v → lk ls i = some v) → RA pc ls1 σ → RA pc ls σ) {f : Nat → Int32 → Int32 → Int32 → Mem → Option (Int32 × Mem)} {ls : List (Option Value)} {s : Mem} (h : A_JA_fill_5 f ls s = some z) (hf : ∀ (h0 : Nat) (x1 : Int32) (x2 : Int32) (x3 : Int32) (s : Mem), f h0 x1 x2 x3 s = some z → RA 5 [some (.ref h0), some (.int x1), some (.int x2), some (.int x3)] s) : RA 5 ls s := by
  unfold A_JA_fill_5 at h
  split at h
  · rename_i a0 a1 a2 a3 e0 e1 e2 e3
    refine hm _ _ [some (.ref a0), some (.int a1), some (.int a2), some (.int a3)] _ rfl (fun i v hv => ?_) (hf _ _ _ _ _ h)
    match i, hv with
    | 0, hv => exact e0.trans hv
    | 1, hv => exact e1.trans hv
    | 2, hv => exact e2.trans hv
    | 3, hv => exact e3.trans hv
    | i + 4, hv => cases hv
  · cases h
theorem n_JA_fill_5 {z : Int32 × Mem} {RA : Nat → List (Option Value) → Mem → Prop} (S : Sm I_JA_fill C_JA_fill K_JA_fill [5] z RA) : ∀ (n : Nat) (h0 : Nat) (x1 : Int32) (x2 : Int32) (x3 : Int32) (s : Mem), F_JA_fill_5 n h0 x1 x2 x3 s = some z → RA 5 [some (.ref h0), some (.int x1), some (.int x2), some (.int x3)] s := by
  intro n
  induction n with
  | zero => intro h0 x1 x2 x3 s h; exact nomatch (show (none : Option (Int32 × Mem)) = some z from h)
  | succ n ih =>
    intro h0 x1 x2 x3 s h
    rw [e_JA_fill_5] at h
    refine S.2 _ ?_ 700 6 _ _ (ck1_of rfl) h
    intro k ls s h
    replace h := cbr_c h
    rcases h with ⟨hb, h⟩ | ⟨_, h⟩
    · cases beq_t hb
      exact a_JA_fill_5 S.1 h ih
    cases h
theorem l_JA_fill (d : Nat) (k : Nat) (av : List Value) (s : Mem) (y : Int32 × Mem) (h : C_JA_fill k av s = some y) : Ctr (d + 0) (mtab k) av s y ∧ ((mtab k).2.2.2.2.2 = 77 → ∃ b rest, av = .ref b :: rest ∧ (b = 1001 ∨ b = 1002)) := by
  exact nomatch (show (none : Option (Int32 × Mem)) = some y from h)
theorem c_JA_fill {av : List Value} {s : Mem} {z : Int32 × Mem} (h : A_JA_fill av s = some z) (d : Nat) : Ctr (d + 1) I_JA_fill av s z := by
  unfold A_JA_fill at h
  split at h
  · refine ctr_of (d := d + 0) (own := 14) (kps := [5]) (code := K_JA_fill) (Cl := C_JA_fill) o_JA_fill rfl (by decide) k_JA_fill (l_JA_fill d) (c1_of rfl) (Nat.le_of_ble_eq_true rfl) ?_
    intro RA S
    rw [e_JA_fill] at h
    refine S.2 _ ?_ 700 0 _ _ (ck1_of rfl) h
    intro k ls s h
    replace h := cbr_c h
    rcases h with ⟨hb, h⟩ | ⟨_, h⟩
    · cases beq_t hb
      exact a_JA_fill_5 S.1 h (n_JA_fill_5 S gF)
    cases h
  · cases h
set_option maxRecDepth 1000000 in
theorem k_JI_bitCount : okC 13 I_JI_bitCount.2.2.1 I_JI_bitCount.2.1 I_JI_bitCount.2.2.2.1 [] K_JI_bitCount K_JI_bitCount = true := by decide +kernel
theorem l_JI_bitCount (d : Nat) (k : Nat) (av : List Value) (s : Mem) (y : Int32 × Mem) (h : C_JI_bitCount k av s = some y) : Ctr (d + 0) (mtab k) av s y ∧ ((mtab k).2.2.2.2.2 = 77 → ∃ b rest, av = .ref b :: rest ∧ (b = 1001 ∨ b = 1002)) := by
  exact nomatch (show (none : Option (Int32 × Mem)) = some y from h)
theorem c_JI_bitCount {av : List Value} {s : Mem} {z : Int32 × Mem} (h : A_JI_bitCount av s = some z) (d : Nat) : Ctr (d + 1) I_JI_bitCount av s z := by
  unfold A_JI_bitCount at h
  split at h
  · refine ctr_of (d := d + 0) (own := 13) (kps := []) (code := K_JI_bitCount) (Cl := C_JI_bitCount) o_JI_bitCount rfl (by decide) k_JI_bitCount (l_JI_bitCount d) (c1_of rfl) (Nat.le_of_ble_eq_true rfl) ?_
    intro RA S
    rw [e_JI_bitCount] at h
    refine S.2 _ ?_ 700 0 _ _ (ck1_of rfl) h
    intro k ls s h
    cases h
  · cases h
set_option maxRecDepth 1000000 in
theorem k_U_betterSet : okC 4 I_U_betterSet.2.2.1 I_U_betterSet.2.1 I_U_betterSet.2.2.2.1 [] K_U_betterSet K_U_betterSet = true := by decide +kernel
theorem l_U_betterSet (d : Nat) (k : Nat) (av : List Value) (s : Mem) (y : Int32 × Mem) (h : C_U_betterSet k av s = some y) : Ctr (d + 1) (mtab k) av s y ∧ ((mtab k).2.2.2.2.2 = 77 → ∃ b rest, av = .ref b :: rest ∧ (b = 1001 ∨ b = 1002)) := by
  unfold C_U_betterSet at h
  replace h := cbr_c h
  rcases h with ⟨hb, h⟩ | ⟨_, h⟩
  · cases beq_t hb
    exact ⟨c_JM_max h (d + 0), fun q => absurd q (by decide)⟩
  replace h := cbr_c h
  rcases h with ⟨hb, h⟩ | ⟨_, h⟩
  · cases beq_t hb
    exact ⟨c_JI_bitCount h (d + 0), fun q => absurd q (by decide)⟩
  replace h := cbr_c h
  rcases h with ⟨hb, h⟩ | ⟨_, h⟩
  · cases beq_t hb
    exact ⟨c_JM_min h (d + 0), fun q => absurd q (by decide)⟩
  cases h
theorem c_U_betterSet {av : List Value} {s : Mem} {z : Int32 × Mem} (h : A_U_betterSet av s = some z) (d : Nat) : Ctr (d + 2) I_U_betterSet av s z := by
  unfold A_U_betterSet at h
  split at h
  · refine ctr_of (d := d + 1) (own := 4) (kps := []) (code := K_U_betterSet) (Cl := C_U_betterSet) o_U_betterSet rfl (by decide) k_U_betterSet (l_U_betterSet d) (c1_of rfl) (Nat.le_of_ble_eq_true rfl) ?_
    intro RA S
    rw [e_U_betterSet] at h
    refine S.2 _ ?_ 700 0 _ _ (ck1_of rfl) h
    intro k ls s h
    cases h
  · cases h
set_option maxRecDepth 1000000 in
theorem k_U_leaveSet : okC 4 I_U_leaveSet.2.2.1 I_U_leaveSet.2.1 I_U_leaveSet.2.2.2.1 [29, 59, 189] K_U_leaveSet K_U_leaveSet = true := by decide +kernel
theorem a_U_leaveSet_17 {z : Int32 × Mem} {RA : Nat → List (Option Value) → Mem → Prop} (hm : ∀ (pc : Nat) (ls ls1 : List (Option Value)) (σ : Mem), ls1.length = I_U_leaveSet.2.2.1 → (∀ i v, lk ls1 i = some v → lk ls i = some v) → RA pc ls1 σ → RA pc ls σ) {f : Int32 → Int32 → Int32 → Mem → Option (Int32 × Mem)} {ls : List (Option Value)} {s : Mem} (h : A_U_leaveSet_17 f ls s = some z) (hf : ∀ (x2 : Int32) (x4 : Int32) (x5 : Int32) (s : Mem), f x2 x4 x5 s = some z → RA 29 [some (.ref 90), some (.ref 2), some (.int x2), none, some (.int x4), some (.int x5), none, none, none] s) : RA 29 ls s := by
  unfold A_U_leaveSet_17 at h
  split at h
  · rename_i a0 a1 a2 a3 a4 e0 e1 e2 e3 e4
    replace h := cbr_n h
    obtain ⟨hb, h⟩ := h
    cases beq_t hb
    replace h := cbr_n h
    obtain ⟨hb, h⟩ := h
    cases beq_t hb
    refine hm _ _ [some (.ref 90), some (.ref 2), some (.int a2), none, some (.int a3), some (.int a4), none, none, none] _ rfl (fun i v hv => ?_) (hf _ _ _ _ h)
    match i, hv with
    | 0, hv => exact e0.trans hv
    | 1, hv => exact e1.trans hv
    | 2, hv => exact e2.trans hv
    | 3, hv => cases hv
    | 4, hv => exact e3.trans hv
    | 5, hv => exact e4.trans hv
    | 6, hv => cases hv
    | 7, hv => cases hv
    | 8, hv => cases hv
    | i + 9, hv => cases hv
  · cases h
theorem a_U_leaveSet_33 {z : Int32 × Mem} {RA : Nat → List (Option Value) → Mem → Prop} (hm : ∀ (pc : Nat) (ls ls1 : List (Option Value)) (σ : Mem), ls1.length = I_U_leaveSet.2.2.1 → (∀ i v, lk ls1 i = some v → lk ls i = some v) → RA pc ls1 σ → RA pc ls σ) {f : Int32 → Int32 → Int32 → Int32 → Int32 → Mem → Option (Int32 × Mem)} {ls : List (Option Value)} {s : Mem} (h : A_U_leaveSet_33 f ls s = some z) (hf : ∀ (x2 : Int32) (x4 : Int32) (x5 : Int32) (x6 : Int32) (x7 : Int32) (s : Mem), f x2 x4 x5 x6 x7 s = some z → RA 59 [some (.ref 90), some (.ref 2), some (.int x2), none, some (.int x4), some (.int x5), some (.int x6), some (.int x7), none] s) : RA 59 ls s := by
  unfold A_U_leaveSet_33 at h
  split at h
  · rename_i a0 a1 a2 a3 a4 a5 a6 e0 e1 e2 e3 e4 e5 e6
    replace h := cbr_n h
    obtain ⟨hb, h⟩ := h
    cases beq_t hb
    replace h := cbr_n h
    obtain ⟨hb, h⟩ := h
    cases beq_t hb
    refine hm _ _ [some (.ref 90), some (.ref 2), some (.int a2), none, some (.int a3), some (.int a4), some (.int a5), some (.int a6), none] _ rfl (fun i v hv => ?_) (hf _ _ _ _ _ _ h)
    match i, hv with
    | 0, hv => exact e0.trans hv
    | 1, hv => exact e1.trans hv
    | 2, hv => exact e2.trans hv
    | 3, hv => cases hv
    | 4, hv => exact e3.trans hv
    | 5, hv => exact e4.trans hv
    | 6, hv => exact e5.trans hv
    | 7, hv => exact e6.trans hv
    | 8, hv => cases hv
    | i + 9, hv => cases hv
  · cases h
theorem a_U_leaveSet_102 {z : Int32 × Mem} {RA : Nat → List (Option Value) → Mem → Prop} (hm : ∀ (pc : Nat) (ls ls1 : List (Option Value)) (σ : Mem), ls1.length = I_U_leaveSet.2.2.1 → (∀ i v, lk ls1 i = some v → lk ls i = some v) → RA pc ls1 σ → RA pc ls σ) {f : Int32 → Int32 → Int32 → Mem → Option (Int32 × Mem)} {ls : List (Option Value)} {s : Mem} (h : A_U_leaveSet_102 f ls s = some z) (hf : ∀ (x4 : Int32) (x5 : Int32) (x6 : Int32) (s : Mem), f x4 x5 x6 s = some z → RA 189 [some (.ref 90), none, none, none, some (.int x4), some (.int x5), some (.int x6), none, none] s) : RA 189 ls s := by
  unfold A_U_leaveSet_102 at h
  split at h
  · rename_i a0 a1 a2 a3 e0 e1 e2 e3
    replace h := cbr_n h
    obtain ⟨hb, h⟩ := h
    cases beq_t hb
    refine hm _ _ [some (.ref 90), none, none, none, some (.int a1), some (.int a2), some (.int a3), none, none] _ rfl (fun i v hv => ?_) (hf _ _ _ _ h)
    match i, hv with
    | 0, hv => exact e0.trans hv
    | 1, hv => cases hv
    | 2, hv => cases hv
    | 3, hv => cases hv
    | 4, hv => exact e1.trans hv
    | 5, hv => exact e2.trans hv
    | 6, hv => exact e3.trans hv
    | 7, hv => cases hv
    | 8, hv => cases hv
    | i + 9, hv => cases hv
  · cases h
theorem n_U_leaveSet_33 {z : Int32 × Mem} {RA : Nat → List (Option Value) → Mem → Prop} (S : Sm I_U_leaveSet C_U_leaveSet K_U_leaveSet [29, 59, 189] z RA) {k17 : Int32 → Int32 → Int32 → Mem → Option (Int32 × Mem)} (hk17 : ∀ (x2 : Int32) (x4 : Int32) (x5 : Int32) (s : Mem), k17 x2 x4 x5 s = some z → RA 29 [some (.ref 90), some (.ref 2), some (.int x2), none, some (.int x4), some (.int x5), none, none, none] s) : ∀ (n : Nat) (x2 : Int32) (x4 : Int32) (x5 : Int32) (x6 : Int32) (x7 : Int32) (s : Mem), F_U_leaveSet_33 k17 n x2 x4 x5 x6 x7 s = some z → RA 59 [some (.ref 90), some (.ref 2), some (.int x2), none, some (.int x4), some (.int x5), some (.int x6), some (.int x7), none] s := by
  intro n
  induction n with
  | zero => intro x2 x4 x5 x6 x7 s h; exact nomatch (show (none : Option (Int32 × Mem)) = some z from h)
  | succ n ih =>
    intro x2 x4 x5 x6 x7 s h
    rw [e_U_leaveSet_33] at h
    refine S.2 _ ?_ 700 35 _ _ (ck1_of rfl) h
    intro k ls s h
    replace h := cbr_c h
    rcases h with ⟨hb, h⟩ | ⟨_, h⟩
    · cases beq_t hb
      exact a_U_leaveSet_17 S.1 h hk17
    replace h := cbr_c h
    rcases h with ⟨hb, h⟩ | ⟨_, h⟩
    · cases beq_t hb
      exact a_U_leaveSet_33 S.1 h ih
    cases h
theorem n_U_leaveSet_102 {z : Int32 × Mem} {RA : Nat → List (Option Value) → Mem → Prop} (S : Sm I_U_leaveSet C_U_leaveSet K_U_leaveSet [29, 59, 189] z RA) : ∀ (n : Nat) (x4 : Int32) (x5 : Int32) (x6 : Int32) (s : Mem), F_U_leaveSet_102 n x4 x5 x6 s = some z → RA 189 [some (.ref 90), none, none, none, some (.int x4), some (.int x5), some (.int x6), none, none] s := by
  intro n
  induction n with
  | zero => intro x4 x5 x6 s h; exact nomatch (show (none : Option (Int32 × Mem)) = some z from h)
  | succ n ih =>
    intro x4 x5 x6 s h
    rw [e_U_leaveSet_102] at h
    refine S.2 _ ?_ 700 105 _ _ (ck1_of rfl) h
    intro k ls s h
    replace h := cbr_c h
    rcases h with ⟨hb, h⟩ | ⟨_, h⟩
    · cases beq_t hb
      exact a_U_leaveSet_102 S.1 h ih
    cases h
theorem n_U_leaveSet_17 {z : Int32 × Mem} {RA : Nat → List (Option Value) → Mem → Prop} (S : Sm I_U_leaveSet C_U_leaveSet K_U_leaveSet [29, 59, 189] z RA) : ∀ (n : Nat) (x2 : Int32) (x4 : Int32) (x5 : Int32) (s : Mem), F_U_leaveSet_17 n x2 x4 x5 s = some z → RA 29 [some (.ref 90), some (.ref 2), some (.int x2), none, some (.int x4), some (.int x5), none, none, none] s := by
  intro n
  induction n with
  | zero => intro x2 x4 x5 s h; exact nomatch (show (none : Option (Int32 × Mem)) = some z from h)
  | succ n ih =>
    intro x2 x4 x5 s h
    rw [e_U_leaveSet_17] at h
    refine S.2 _ ?_ 700 18 _ _ (ck1_of rfl) h
    intro k ls s h
    replace h := cbr_c h
    rcases h with ⟨hb, h⟩ | ⟨_, h⟩
    · cases beq_t hb
      exact a_U_leaveSet_33 S.1 h (n_U_leaveSet_33 S ih gF)
    replace h := cbr_c h
    rcases h with ⟨hb, h⟩ | ⟨_, h⟩
    · cases beq_t hb
      exact a_U_leaveSet_102 S.1 h (n_U_leaveSet_102 S gF)
    cases h
theorem l_U_leaveSet (d : Nat) (k : Nat) (av : List Value) (s : Mem) (y : Int32 × Mem) (h : C_U_leaveSet k av s = some y) : Ctr (d + 2) (mtab k) av s y ∧ ((mtab k).2.2.2.2.2 = 77 → ∃ b rest, av = .ref b :: rest ∧ (b = 1001 ∨ b = 1002)) := by
  unfold C_U_leaveSet at h
  replace h := cbr_c h
  rcases h with ⟨hb, h⟩ | ⟨_, h⟩
  · cases beq_t hb
    exact ⟨c_JM_min h (d + 1), fun q => absurd q (by decide)⟩
  replace h := cbr_c h
  rcases h with ⟨hb, h⟩ | ⟨_, h⟩
  · cases beq_t hb
    exact ⟨c_JM_max h (d + 1), fun q => absurd q (by decide)⟩
  replace h := cbr_c h
  rcases h with ⟨hb, h⟩ | ⟨_, h⟩
  · cases beq_t hb
    exact ⟨c_JA_fill h (d + 1), fun q => absurd q (by decide)⟩
  replace h := cbr_c h
  rcases h with ⟨hb, h⟩ | ⟨_, h⟩
  · cases beq_t hb
    exact ⟨c_H_size h (d + 0), fun q => absurd q (by decide)⟩
  replace h := cbr_c h
  rcases h with ⟨hb, h⟩ | ⟨_, h⟩
  · cases beq_t hb
    exact ⟨c_H_isMissing h (d + 0), fun q => absurd q (by decide)⟩
  replace h := cbr_c h
  rcases h with ⟨hb, h⟩ | ⟨_, h⟩
  · cases beq_t hb
    exact ⟨c_U_betterSet h (d + 0), fun q => absurd q (by decide)⟩
  cases h
theorem c_U_leaveSet {av : List Value} {s : Mem} {z : Int32 × Mem} (h : A_U_leaveSet av s = some z) (d : Nat) : Ctr (d + 3) I_U_leaveSet av s z := by
  unfold A_U_leaveSet at h
  split at h
  · replace h := cbr_n h
    obtain ⟨hb, h⟩ := h
    cases beq_t hb
    replace h := cbr_n h
    obtain ⟨hb, h⟩ := h
    cases beq_t hb
    refine ctr_of (d := d + 2) (own := 4) (kps := [29, 59, 189]) (code := K_U_leaveSet) (Cl := C_U_leaveSet) o_U_leaveSet rfl (by decide) k_U_leaveSet (l_U_leaveSet d) (c1_of rfl) (Nat.le_of_ble_eq_true rfl) ?_
    intro RA S
    rw [e_U_leaveSet] at h
    refine S.2 _ ?_ 700 0 _ _ (ck1_of rfl) h
    intro k ls s h
    replace h := cbr_c h
    rcases h with ⟨hb, h⟩ | ⟨_, h⟩
    · cases beq_t hb
      exact a_U_leaveSet_17 S.1 h (n_U_leaveSet_17 S gF)
    cases h
  · cases h
set_option maxRecDepth 1000000 in
theorem k_C_roster : okC 10 I_C_roster.2.2.1 I_C_roster.2.1 I_C_roster.2.2.2.1 [] K_C_roster K_C_roster = true := by decide +kernel
theorem l_C_roster (d : Nat) (k : Nat) (av : List Value) (s : Mem) (y : Int32 × Mem) (h : C_C_roster k av s = some y) : Ctr (d + 3) (mtab k) av s y ∧ ((mtab k).2.2.2.2.2 = 77 → ∃ b rest, av = .ref b :: rest ∧ (b = 1001 ∨ b = 1002)) := by
  unfold C_C_roster at h
  replace h := cbr_c h
  rcases h with ⟨hb, h⟩ | ⟨_, h⟩
  · cases beq_t hb
    exact ⟨c_H_has1 h (d + 1), fun q => absurd q (by decide)⟩
  replace h := cbr_c h
  rcases h with ⟨hb, h⟩ | ⟨_, h⟩
  · cases beq_t hb
    exact ⟨c_C_within h (d + 2), fun q => absurd q (by decide)⟩
  replace h := cbr_c h
  rcases h with ⟨hb, h⟩ | ⟨_, h⟩
  · cases beq_t hb
    exact ⟨c_U_leaveSet h (d + 0), fun q => absurd q (by decide)⟩
  replace h := cbr_c h
  rcases h with ⟨hb, h⟩ | ⟨_, h⟩
  · cases beq_t hb
    exact ⟨c_JI_bitCount h (d + 2), fun q => absurd q (by decide)⟩
  cases h
theorem c_C_roster {av : List Value} {s : Mem} {z : Int32 × Mem} (h : A_C_roster av s = some z) (d : Nat) : Ctr (d + 4) I_C_roster av s z := by
  unfold A_C_roster at h
  split at h
  · replace h := cbr_n h
    obtain ⟨hb, h⟩ := h
    cases beq_t hb
    refine ctr_of (d := d + 3) (own := 10) (kps := []) (code := K_C_roster) (Cl := C_C_roster) o_C_roster rfl (by decide) k_C_roster (l_C_roster d) (c1_of rfl) (Nat.le_of_ble_eq_true rfl) ?_
    intro RA S
    rw [e_C_roster] at h
    refine S.2 _ ?_ 700 0 _ _ (ck1_of rfl) h
    intro k ls s h
    cases h
  · cases h
set_option maxRecDepth 1000000 in
theorem k_JM_abs : okC 12 I_JM_abs.2.2.1 I_JM_abs.2.1 I_JM_abs.2.2.2.1 [] K_JM_abs K_JM_abs = true := by decide +kernel
theorem l_JM_abs (d : Nat) (k : Nat) (av : List Value) (s : Mem) (y : Int32 × Mem) (h : C_JM_abs k av s = some y) : Ctr (d + 0) (mtab k) av s y ∧ ((mtab k).2.2.2.2.2 = 77 → ∃ b rest, av = .ref b :: rest ∧ (b = 1001 ∨ b = 1002)) := by
  exact nomatch (show (none : Option (Int32 × Mem)) = some y from h)
theorem c_JM_abs {av : List Value} {s : Mem} {z : Int32 × Mem} (h : A_JM_abs av s = some z) (d : Nat) : Ctr (d + 1) I_JM_abs av s z := by
  unfold A_JM_abs at h
  split at h
  · refine ctr_of (d := d + 0) (own := 12) (kps := []) (code := K_JM_abs) (Cl := C_JM_abs) o_JM_abs rfl (by decide) k_JM_abs (l_JM_abs d) (c1_of rfl) (Nat.le_of_ble_eq_true rfl) ?_
    intro RA S
    rw [e_JM_abs] at h
    refine S.2 _ ?_ 700 0 _ _ (ck1_of rfl) h
    intro k ls s h
    cases h
  · cases h
set_option maxRecDepth 1000000 in
theorem k_U_joinCost : okC 4 I_U_joinCost.2.2.1 I_U_joinCost.2.1 I_U_joinCost.2.2.2.1 [22, 65, 121] K_U_joinCost K_U_joinCost = true := by decide +kernel
theorem a_U_joinCost_13 {z : Int32 × Mem} {RA : Nat → List (Option Value) → Mem → Prop} (hm : ∀ (pc : Nat) (ls ls1 : List (Option Value)) (σ : Mem), ls1.length = I_U_joinCost.2.2.1 → (∀ i v, lk ls1 i = some v → lk ls i = some v) → RA pc ls1 σ → RA pc ls σ) {f : Int32 → Int32 → Int32 → Int32 → Mem → Option (Int32 × Mem)} {ls : List (Option Value)} {s : Mem} (h : A_U_joinCost_13 f ls s = some z) (hf : ∀ (x2 : Int32) (x3 : Int32) (x4 : Int32) (x5 : Int32) (s : Mem), f x2 x3 x4 x5 s = some z → RA 22 [some (.ref 90), some (.ref 2), some (.int x2), some (.int x3), some (.int x4), some (.int x5), none, none, none, none] s) : RA 22 ls s := by
  unfold A_U_joinCost_13 at h
  split at h
  · rename_i a0 a1 a2 a3 a4 a5 e0 e1 e2 e3 e4 e5
    replace h := cbr_n h
    obtain ⟨hb, h⟩ := h
    cases beq_t hb
    replace h := cbr_n h
    obtain ⟨hb, h⟩ := h
    cases beq_t hb
    refine hm _ _ [some (.ref 90), some (.ref 2), some (.int a2), some (.int a3), some (.int a4), some (.int a5), none, none, none, none] _ rfl (fun i v hv => ?_) (hf _ _ _ _ _ h)
    match i, hv with
    | 0, hv => exact e0.trans hv
    | 1, hv => exact e1.trans hv
    | 2, hv => exact e2.trans hv
    | 3, hv => exact e3.trans hv
    | 4, hv => exact e4.trans hv
    | 5, hv => exact e5.trans hv
    | 6, hv => cases hv
    | 7, hv => cases hv
    | 8, hv => cases hv
    | 9, hv => cases hv
    | i + 10, hv => cases hv
  · cases h
theorem a_U_joinCost_38 {z : Int32 × Mem} {RA : Nat → List (Option Value) → Mem → Prop} (hm : ∀ (pc : Nat) (ls ls1 : List (Option Value)) (σ : Mem), ls1.length = I_U_joinCost.2.2.1 → (∀ i v, lk ls1 i = some v → lk ls i = some v) → RA pc ls1 σ → RA pc ls σ) {f : Int32 → Int32 → Int32 → Int32 → Mem → Option (Int32 × Mem)} {ls : List (Option Value)} {s : Mem} (h : A_U_joinCost_38 f ls s = some z) (hf : ∀ (x2 : Int32) (x3 : Int32) (x4 : Int32) (x5 : Int32) (s : Mem), f x2 x3 x4 x5 s = some z → RA 65 [some (.ref 90), some (.ref 2), some (.int x2), some (.int x3), some (.int x4), some (.int x5), none, none, none, none] s) : RA 65 ls s := by
  unfold A_U_joinCost_38 at h
  split at h
  · rename_i a0 a1 a2 a3 a4 a5 e0 e1 e2 e3 e4 e5
    replace h := cbr_n h
    obtain ⟨hb, h⟩ := h
    cases beq_t hb
    replace h := cbr_n h
    obtain ⟨hb, h⟩ := h
    cases beq_t hb
    refine hm _ _ [some (.ref 90), some (.ref 2), some (.int a2), some (.int a3), some (.int a4), some (.int a5), none, none, none, none] _ rfl (fun i v hv => ?_) (hf _ _ _ _ _ h)
    match i, hv with
    | 0, hv => exact e0.trans hv
    | 1, hv => exact e1.trans hv
    | 2, hv => exact e2.trans hv
    | 3, hv => exact e3.trans hv
    | 4, hv => exact e4.trans hv
    | 5, hv => exact e5.trans hv
    | 6, hv => cases hv
    | 7, hv => cases hv
    | 8, hv => cases hv
    | 9, hv => cases hv
    | i + 10, hv => cases hv
  · cases h
theorem a_U_joinCost_71 {z : Int32 × Mem} {RA : Nat → List (Option Value) → Mem → Prop} (hm : ∀ (pc : Nat) (ls ls1 : List (Option Value)) (σ : Mem), ls1.length = I_U_joinCost.2.2.1 → (∀ i v, lk ls1 i = some v → lk ls i = some v) → RA pc ls1 σ → RA pc ls σ) {f : Int32 → Int32 → Int32 → Int32 → Int32 → Int32 → Mem → Option (Int32 × Mem)} {ls : List (Option Value)} {s : Mem} (h : A_U_joinCost_71 f ls s = some z) (hf : ∀ (x2 : Int32) (x3 : Int32) (x4 : Int32) (x5 : Int32) (x6 : Int32) (x7 : Int32) (s : Mem), f x2 x3 x4 x5 x6 x7 s = some z → RA 121 [some (.ref 90), some (.ref 2), some (.int x2), some (.int x3), some (.int x4), some (.int x5), some (.int x6), some (.int x7), none, none] s) : RA 121 ls s := by
  unfold A_U_joinCost_71 at h
  split at h
  · rename_i a0 a1 a2 a3 a4 a5 a6 a7 e0 e1 e2 e3 e4 e5 e6 e7
    replace h := cbr_n h
    obtain ⟨hb, h⟩ := h
    cases beq_t hb
    replace h := cbr_n h
    obtain ⟨hb, h⟩ := h
    cases beq_t hb
    refine hm _ _ [some (.ref 90), some (.ref 2), some (.int a2), some (.int a3), some (.int a4), some (.int a5), some (.int a6), some (.int a7), none, none] _ rfl (fun i v hv => ?_) (hf _ _ _ _ _ _ _ h)
    match i, hv with
    | 0, hv => exact e0.trans hv
    | 1, hv => exact e1.trans hv
    | 2, hv => exact e2.trans hv
    | 3, hv => exact e3.trans hv
    | 4, hv => exact e4.trans hv
    | 5, hv => exact e5.trans hv
    | 6, hv => exact e6.trans hv
    | 7, hv => exact e7.trans hv
    | 8, hv => cases hv
    | 9, hv => cases hv
    | i + 10, hv => cases hv
  · cases h
theorem n_U_joinCost_71 {z : Int32 × Mem} {RA : Nat → List (Option Value) → Mem → Prop} (S : Sm I_U_joinCost C_U_joinCost K_U_joinCost [22, 65, 121] z RA) {k38 : Int32 → Int32 → Int32 → Int32 → Mem → Option (Int32 × Mem)} (hk38 : ∀ (x2 : Int32) (x3 : Int32) (x4 : Int32) (x5 : Int32) (s : Mem), k38 x2 x3 x4 x5 s = some z → RA 65 [some (.ref 90), some (.ref 2), some (.int x2), some (.int x3), some (.int x4), some (.int x5), none, none, none, none] s) : ∀ (n : Nat) (x2 : Int32) (x3 : Int32) (x4 : Int32) (x5 : Int32) (x6 : Int32) (x7 : Int32) (s : Mem), F_U_joinCost_71 k38 n x2 x3 x4 x5 x6 x7 s = some z → RA 121 [some (.ref 90), some (.ref 2), some (.int x2), some (.int x3), some (.int x4), some (.int x5), some (.int x6), some (.int x7), none, none] s := by
  intro n
  induction n with
  | zero => intro x2 x3 x4 x5 x6 x7 s h; exact nomatch (show (none : Option (Int32 × Mem)) = some z from h)
  | succ n ih =>
    intro x2 x3 x4 x5 x6 x7 s h
    rw [e_U_joinCost_71] at h
    refine S.2 _ ?_ 700 74 _ _ (ck1_of rfl) h
    intro k ls s h
    replace h := cbr_c h
    rcases h with ⟨hb, h⟩ | ⟨_, h⟩
    · cases beq_t hb
      exact a_U_joinCost_38 S.1 h hk38
    replace h := cbr_c h
    rcases h with ⟨hb, h⟩ | ⟨_, h⟩
    · cases beq_t hb
      exact a_U_joinCost_71 S.1 h ih
    cases h
theorem n_U_joinCost_38 {z : Int32 × Mem} {RA : Nat → List (Option Value) → Mem → Prop} (S : Sm I_U_joinCost C_U_joinCost K_U_joinCost [22, 65, 121] z RA) : ∀ (n : Nat) (x2 : Int32) (x3 : Int32) (x4 : Int32) (x5 : Int32) (s : Mem), F_U_joinCost_38 n x2 x3 x4 x5 s = some z → RA 65 [some (.ref 90), some (.ref 2), some (.int x2), some (.int x3), some (.int x4), some (.int x5), none, none, none, none] s := by
  intro n
  induction n with
  | zero => intro x2 x3 x4 x5 s h; exact nomatch (show (none : Option (Int32 × Mem)) = some z from h)
  | succ n ih =>
    intro x2 x3 x4 x5 s h
    rw [e_U_joinCost_38] at h
    refine S.2 _ ?_ 700 40 _ _ (ck1_of rfl) h
    intro k ls s h
    replace h := cbr_c h
    rcases h with ⟨hb, h⟩ | ⟨_, h⟩
    · cases beq_t hb
      exact a_U_joinCost_71 S.1 h (n_U_joinCost_71 S ih gF)
    cases h
theorem n_U_joinCost_13 {z : Int32 × Mem} {RA : Nat → List (Option Value) → Mem → Prop} (S : Sm I_U_joinCost C_U_joinCost K_U_joinCost [22, 65, 121] z RA) : ∀ (n : Nat) (x2 : Int32) (x3 : Int32) (x4 : Int32) (x5 : Int32) (s : Mem), F_U_joinCost_13 n x2 x3 x4 x5 s = some z → RA 22 [some (.ref 90), some (.ref 2), some (.int x2), some (.int x3), some (.int x4), some (.int x5), none, none, none, none] s := by
  intro n
  induction n with
  | zero => intro x2 x3 x4 x5 s h; exact nomatch (show (none : Option (Int32 × Mem)) = some z from h)
  | succ n ih =>
    intro x2 x3 x4 x5 s h
    rw [e_U_joinCost_13] at h
    refine S.2 _ ?_ 700 14 _ _ (ck1_of rfl) h
    intro k ls s h
    replace h := cbr_c h
    rcases h with ⟨hb, h⟩ | ⟨_, h⟩
    · cases beq_t hb
      exact a_U_joinCost_13 S.1 h ih
    replace h := cbr_c h
    rcases h with ⟨hb, h⟩ | ⟨_, h⟩
    · cases beq_t hb
      exact a_U_joinCost_38 S.1 h (n_U_joinCost_38 S gF)
    cases h
theorem l_U_joinCost (d : Nat) (k : Nat) (av : List Value) (s : Mem) (y : Int32 × Mem) (h : C_U_joinCost k av s = some y) : Ctr (d + 2) (mtab k) av s y ∧ ((mtab k).2.2.2.2.2 = 77 → ∃ b rest, av = .ref b :: rest ∧ (b = 1001 ∨ b = 1002)) := by
  unfold C_U_joinCost at h
  replace h := cbr_c h
  rcases h with ⟨hb, h⟩ | ⟨_, h⟩
  · cases beq_t hb
    exact ⟨c_H_size h (d + 0), fun q => absurd q (by decide)⟩
  replace h := cbr_c h
  rcases h with ⟨hb, h⟩ | ⟨_, h⟩
  · cases beq_t hb
    exact ⟨c_JM_min h (d + 1), fun q => absurd q (by decide)⟩
  replace h := cbr_c h
  rcases h with ⟨hb, h⟩ | ⟨_, h⟩
  · cases beq_t hb
    exact ⟨c_H_get h (d + 1), fun q => absurd q (by decide)⟩
  replace h := cbr_c h
  rcases h with ⟨hb, h⟩ | ⟨_, h⟩
  · cases beq_t hb
    exact ⟨c_JM_abs h (d + 1), fun q => absurd q (by decide)⟩
  cases h
theorem c_U_joinCost {av : List Value} {s : Mem} {z : Int32 × Mem} (h : A_U_joinCost av s = some z) (d : Nat) : Ctr (d + 3) I_U_joinCost av s z := by
  unfold A_U_joinCost at h
  split at h
  · replace h := cbr_n h
    obtain ⟨hb, h⟩ := h
    cases beq_t hb
    replace h := cbr_n h
    obtain ⟨hb, h⟩ := h
    cases beq_t hb
    refine ctr_of (d := d + 2) (own := 4) (kps := [22, 65, 121]) (code := K_U_joinCost) (Cl := C_U_joinCost) o_U_joinCost rfl (by decide) k_U_joinCost (l_U_joinCost d) (c1_of rfl) (Nat.le_of_ble_eq_true rfl) ?_
    intro RA S
    rw [e_U_joinCost] at h
    refine S.2 _ ?_ 700 0 _ _ (ck1_of rfl) h
    intro k ls s h
    replace h := cbr_c h
    rcases h with ⟨hb, h⟩ | ⟨_, h⟩
    · cases beq_t hb
      exact a_U_joinCost_13 S.1 h (n_U_joinCost_13 S gF)
    cases h
  · cases h
set_option maxRecDepth 1000000 in
theorem k_U_commonHeights : okC 4 I_U_commonHeights.2.2.1 I_U_commonHeights.2.1 I_U_commonHeights.2.2.2.1 [8, 37] K_U_commonHeights K_U_commonHeights = true := by decide +kernel
theorem a_U_commonHeights_6 {z : Int32 × Mem} {RA : Nat → List (Option Value) → Mem → Prop} (hm : ∀ (pc : Nat) (ls ls1 : List (Option Value)) (σ : Mem), ls1.length = I_U_commonHeights.2.2.1 → (∀ i v, lk ls1 i = some v → lk ls i = some v) → RA pc ls1 σ → RA pc ls σ) {f : Int32 → Int32 → Int32 → Int32 → Int32 → Mem → Option (Int32 × Mem)} {ls : List (Option Value)} {s : Mem} (h : A_U_commonHeights_6 f ls s = some z) (hf : ∀ (x1 : Int32) (x2 : Int32) (x3 : Int32) (x4 : Int32) (x5 : Int32) (s : Mem), f x1 x2 x3 x4 x5 s = some z → RA 8 [some (.ref 2), some (.int x1), some (.int x2), some (.int x3), some (.int x4), some (.int x5), none, none] s) : RA 8 ls s := by
  unfold A_U_commonHeights_6 at h
  split at h
  · rename_i a0 a1 a2 a3 a4 a5 e0 e1 e2 e3 e4 e5
    replace h := cbr_n h
    obtain ⟨hb, h⟩ := h
    cases beq_t hb
    refine hm _ _ [some (.ref 2), some (.int a1), some (.int a2), some (.int a3), some (.int a4), some (.int a5), none, none] _ rfl (fun i v hv => ?_) (hf _ _ _ _ _ _ h)
    match i, hv with
    | 0, hv => exact e0.trans hv
    | 1, hv => exact e1.trans hv
    | 2, hv => exact e2.trans hv
    | 3, hv => exact e3.trans hv
    | 4, hv => exact e4.trans hv
    | 5, hv => exact e5.trans hv
    | 6, hv => cases hv
    | 7, hv => cases hv
    | i + 8, hv => cases hv
  · cases h
theorem a_U_commonHeights_23 {z : Int32 × Mem} {RA : Nat → List (Option Value) → Mem → Prop} (hm : ∀ (pc : Nat) (ls ls1 : List (Option Value)) (σ : Mem), ls1.length = I_U_commonHeights.2.2.1 → (∀ i v, lk ls1 i = some v → lk ls i = some v) → RA pc ls1 σ → RA pc ls σ) {f : Int32 → Int32 → Int32 → Int32 → Int32 → Int32 → Int32 → Mem → Option (Int32 × Mem)} {ls : List (Option Value)} {s : Mem} (h : A_U_commonHeights_23 f ls s = some z) (hf : ∀ (x1 : Int32) (x2 : Int32) (x3 : Int32) (x4 : Int32) (x5 : Int32) (x6 : Int32) (x7 : Int32) (s : Mem), f x1 x2 x3 x4 x5 x6 x7 s = some z → RA 37 [some (.ref 2), some (.int x1), some (.int x2), some (.int x3), some (.int x4), some (.int x5), some (.int x6), some (.int x7)] s) : RA 37 ls s := by
  unfold A_U_commonHeights_23 at h
  split at h
  · rename_i a0 a1 a2 a3 a4 a5 a6 a7 e0 e1 e2 e3 e4 e5 e6 e7
    replace h := cbr_n h
    obtain ⟨hb, h⟩ := h
    cases beq_t hb
    refine hm _ _ [some (.ref 2), some (.int a1), some (.int a2), some (.int a3), some (.int a4), some (.int a5), some (.int a6), some (.int a7)] _ rfl (fun i v hv => ?_) (hf _ _ _ _ _ _ _ _ h)
    match i, hv with
    | 0, hv => exact e0.trans hv
    | 1, hv => exact e1.trans hv
    | 2, hv => exact e2.trans hv
    | 3, hv => exact e3.trans hv
    | 4, hv => exact e4.trans hv
    | 5, hv => exact e5.trans hv
    | 6, hv => exact e6.trans hv
    | 7, hv => exact e7.trans hv
    | i + 8, hv => cases hv
  · cases h
theorem n_U_commonHeights_23 {z : Int32 × Mem} {RA : Nat → List (Option Value) → Mem → Prop} (S : Sm I_U_commonHeights C_U_commonHeights K_U_commonHeights [8, 37] z RA) {k6 : Int32 → Int32 → Int32 → Int32 → Int32 → Mem → Option (Int32 × Mem)} (hk6 : ∀ (x1 : Int32) (x2 : Int32) (x3 : Int32) (x4 : Int32) (x5 : Int32) (s : Mem), k6 x1 x2 x3 x4 x5 s = some z → RA 8 [some (.ref 2), some (.int x1), some (.int x2), some (.int x3), some (.int x4), some (.int x5), none, none] s) : ∀ (n : Nat) (x1 : Int32) (x2 : Int32) (x3 : Int32) (x4 : Int32) (x5 : Int32) (x6 : Int32) (x7 : Int32) (s : Mem), F_U_commonHeights_23 k6 n x1 x2 x3 x4 x5 x6 x7 s = some z → RA 37 [some (.ref 2), some (.int x1), some (.int x2), some (.int x3), some (.int x4), some (.int x5), some (.int x6), some (.int x7)] s := by
  intro n
  induction n with
  | zero => intro x1 x2 x3 x4 x5 x6 x7 s h; exact nomatch (show (none : Option (Int32 × Mem)) = some z from h)
  | succ n ih =>
    intro x1 x2 x3 x4 x5 x6 x7 s h
    rw [e_U_commonHeights_23] at h
    refine S.2 _ ?_ 700 25 _ _ (ck1_of rfl) h
    intro k ls s h
    replace h := cbr_c h
    rcases h with ⟨hb, h⟩ | ⟨_, h⟩
    · cases beq_t hb
      exact a_U_commonHeights_6 S.1 h hk6
    replace h := cbr_c h
    rcases h with ⟨hb, h⟩ | ⟨_, h⟩
    · cases beq_t hb
      exact a_U_commonHeights_23 S.1 h ih
    cases h
theorem n_U_commonHeights_6 {z : Int32 × Mem} {RA : Nat → List (Option Value) → Mem → Prop} (S : Sm I_U_commonHeights C_U_commonHeights K_U_commonHeights [8, 37] z RA) : ∀ (n : Nat) (x1 : Int32) (x2 : Int32) (x3 : Int32) (x4 : Int32) (x5 : Int32) (s : Mem), F_U_commonHeights_6 n x1 x2 x3 x4 x5 s = some z → RA 8 [some (.ref 2), some (.int x1), some (.int x2), some (.int x3), some (.int x4), some (.int x5), none, none] s := by
  intro n
  induction n with
  | zero => intro x1 x2 x3 x4 x5 s h; exact nomatch (show (none : Option (Int32 × Mem)) = some z from h)
  | succ n ih =>
    intro x1 x2 x3 x4 x5 s h
    rw [e_U_commonHeights_6] at h
    refine S.2 _ ?_ 700 7 _ _ (ck1_of rfl) h
    intro k ls s h
    replace h := cbr_c h
    rcases h with ⟨hb, h⟩ | ⟨_, h⟩
    · cases beq_t hb
      exact a_U_commonHeights_23 S.1 h (n_U_commonHeights_23 S ih gF)
    cases h
theorem l_U_commonHeights (d : Nat) (k : Nat) (av : List Value) (s : Mem) (y : Int32 × Mem) (h : C_U_commonHeights k av s = some y) : Ctr (d + 2) (mtab k) av s y ∧ ((mtab k).2.2.2.2.2 = 77 → ∃ b rest, av = .ref b :: rest ∧ (b = 1001 ∨ b = 1002)) := by
  unfold C_U_commonHeights at h
  replace h := cbr_c h
  rcases h with ⟨hb, h⟩ | ⟨_, h⟩
  · cases beq_t hb
    exact ⟨c_H_size h (d + 0), fun q => absurd q (by decide)⟩
  replace h := cbr_c h
  rcases h with ⟨hb, h⟩ | ⟨_, h⟩
  · cases beq_t hb
    exact ⟨c_H_get h (d + 1), fun q => absurd q (by decide)⟩
  cases h
theorem c_U_commonHeights {av : List Value} {s : Mem} {z : Int32 × Mem} (h : A_U_commonHeights av s = some z) (d : Nat) : Ctr (d + 3) I_U_commonHeights av s z := by
  unfold A_U_commonHeights at h
  split at h
  · replace h := cbr_n h
    obtain ⟨hb, h⟩ := h
    cases beq_t hb
    refine ctr_of (d := d + 2) (own := 4) (kps := [8, 37]) (code := K_U_commonHeights) (Cl := C_U_commonHeights) o_U_commonHeights rfl (by decide) k_U_commonHeights (l_U_commonHeights d) (c1_of rfl) (Nat.le_of_ble_eq_true rfl) ?_
    intro RA S
    rw [e_U_commonHeights] at h
    refine S.2 _ ?_ 700 0 _ _ (ck1_of rfl) h
    intro k ls s h
    replace h := cbr_c h
    rcases h with ⟨hb, h⟩ | ⟨_, h⟩
    · cases beq_t hb
      exact a_U_commonHeights_6 S.1 h (n_U_commonHeights_6 S gF)
    cases h
  · cases h
set_option maxRecDepth 1000000 in
theorem k_C_joined : okC 10 I_C_joined.2.2.1 I_C_joined.2.1 I_C_joined.2.2.2.1 [] K_C_joined K_C_joined = true := by decide +kernel
theorem l_C_joined (d : Nat) (k : Nat) (av : List Value) (s : Mem) (y : Int32 × Mem) (h : C_C_joined k av s = some y) : Ctr (d + 3) (mtab k) av s y ∧ ((mtab k).2.2.2.2.2 = 77 → ∃ b rest, av = .ref b :: rest ∧ (b = 1001 ∨ b = 1002)) := by
  unfold C_C_joined at h
  replace h := cbr_c h
  rcases h with ⟨hb, h⟩ | ⟨_, h⟩
  · cases beq_t hb
    exact ⟨c_H_has1 h (d + 1), fun q => absurd q (by decide)⟩
  replace h := cbr_c h
  rcases h with ⟨hb, h⟩ | ⟨_, h⟩
  · cases beq_t hb
    exact ⟨c_C_within h (d + 2), fun q => absurd q (by decide)⟩
  replace h := cbr_c h
  rcases h with ⟨hb, h⟩ | ⟨_, h⟩
  · cases beq_t hb
    exact ⟨c_U_joinCost h (d + 0), fun q => absurd q (by decide)⟩
  replace h := cbr_c h
  rcases h with ⟨hb, h⟩ | ⟨_, h⟩
  · cases beq_t hb
    exact ⟨c_U_commonHeights h (d + 0), fun q => absurd q (by decide)⟩
  cases h
theorem c_C_joined {av : List Value} {s : Mem} {z : Int32 × Mem} (h : A_C_joined av s = some z) (d : Nat) : Ctr (d + 4) I_C_joined av s z := by
  unfold A_C_joined at h
  split at h
  · replace h := cbr_n h
    obtain ⟨hb, h⟩ := h
    cases beq_t hb
    refine ctr_of (d := d + 3) (own := 10) (kps := []) (code := K_C_joined) (Cl := C_C_joined) o_C_joined rfl (by decide) k_C_joined (l_C_joined d) (c1_of rfl) (Nat.le_of_ble_eq_true rfl) ?_
    intro RA S
    rw [e_C_joined] at h
    refine S.2 _ ?_ 700 0 _ _ (ck1_of rfl) h
    intro k ls s h
    cases h
  · cases h
set_option maxRecDepth 1000000 in
theorem k_U_willOf : okC 4 I_U_willOf.2.2.1 I_U_willOf.2.1 I_U_willOf.2.2.2.1 [] K_U_willOf K_U_willOf = true := by decide +kernel
theorem l_U_willOf (d : Nat) (k : Nat) (av : List Value) (s : Mem) (y : Int32 × Mem) (h : C_U_willOf k av s = some y) : Ctr (d + 1) (mtab k) av s y ∧ ((mtab k).2.2.2.2.2 = 77 → ∃ b rest, av = .ref b :: rest ∧ (b = 1001 ∨ b = 1002)) := by
  unfold C_U_willOf at h
  replace h := cbr_c h
  rcases h with ⟨hb, h⟩ | ⟨_, h⟩
  · cases beq_t hb
    exact ⟨c_H_get h (d + 0), fun q => absurd q (by decide)⟩
  replace h := cbr_c h
  rcases h with ⟨hb, h⟩ | ⟨_, h⟩
  · cases beq_t hb
    exact ⟨c_JM_max h (d + 0), fun q => absurd q (by decide)⟩
  cases h
theorem c_U_willOf {av : List Value} {s : Mem} {z : Int32 × Mem} (h : A_U_willOf av s = some z) (d : Nat) : Ctr (d + 2) I_U_willOf av s z := by
  unfold A_U_willOf at h
  split at h
  · replace h := cbr_n h
    obtain ⟨hb, h⟩ := h
    cases beq_t hb
    refine ctr_of (d := d + 1) (own := 4) (kps := []) (code := K_U_willOf) (Cl := C_U_willOf) o_U_willOf rfl (by decide) k_U_willOf (l_U_willOf d) (c1_of rfl) (Nat.le_of_ble_eq_true rfl) ?_
    intro RA S
    rw [e_U_willOf] at h
    refine S.2 _ ?_ 700 0 _ _ (ck1_of rfl) h
    intro k ls s h
    cases h
  · cases h
set_option maxRecDepth 1000000 in
theorem k_U_fewestToBegin : okC 4 I_U_fewestToBegin.2.2.1 I_U_fewestToBegin.2.1 I_U_fewestToBegin.2.2.2.1 [8] K_U_fewestToBegin K_U_fewestToBegin = true := by decide +kernel
theorem a_U_fewestToBegin_6 {z : Int32 × Mem} {RA : Nat → List (Option Value) → Mem → Prop} (hm : ∀ (pc : Nat) (ls ls1 : List (Option Value)) (σ : Mem), ls1.length = I_U_fewestToBegin.2.2.1 → (∀ i v, lk ls1 i = some v → lk ls i = some v) → RA pc ls1 σ → RA pc ls σ) {f : Int32 → Int32 → Int32 → Int32 → Mem → Option (Int32 × Mem)} {ls : List (Option Value)} {s : Mem} (h : A_U_fewestToBegin_6 f ls s = some z) (hf : ∀ (x1 : Int32) (x2 : Int32) (x3 : Int32) (x4 : Int32) (s : Mem), f x1 x2 x3 x4 s = some z → RA 8 [some (.ref 2), some (.int x1), some (.int x2), some (.int x3), some (.int x4), none, none, none, none] s) : RA 8 ls s := by
  unfold A_U_fewestToBegin_6 at h
  split at h
  · rename_i a0 a1 a2 a3 a4 e0 e1 e2 e3 e4
    replace h := cbr_n h
    obtain ⟨hb, h⟩ := h
    cases beq_t hb
    refine hm _ _ [some (.ref 2), some (.int a1), some (.int a2), some (.int a3), some (.int a4), none, none, none, none] _ rfl (fun i v hv => ?_) (hf _ _ _ _ _ h)
    match i, hv with
    | 0, hv => exact e0.trans hv
    | 1, hv => exact e1.trans hv
    | 2, hv => exact e2.trans hv
    | 3, hv => exact e3.trans hv
    | 4, hv => exact e4.trans hv
    | 5, hv => cases hv
    | 6, hv => cases hv
    | 7, hv => cases hv
    | 8, hv => cases hv
    | i + 9, hv => cases hv
  · cases h
theorem n_U_fewestToBegin_6 {z : Int32 × Mem} {RA : Nat → List (Option Value) → Mem → Prop} (S : Sm I_U_fewestToBegin C_U_fewestToBegin K_U_fewestToBegin [8] z RA) : ∀ (n : Nat) (x1 : Int32) (x2 : Int32) (x3 : Int32) (x4 : Int32) (s : Mem), F_U_fewestToBegin_6 n x1 x2 x3 x4 s = some z → RA 8 [some (.ref 2), some (.int x1), some (.int x2), some (.int x3), some (.int x4), none, none, none, none] s := by
  intro n
  induction n with
  | zero => intro x1 x2 x3 x4 s h; exact nomatch (show (none : Option (Int32 × Mem)) = some z from h)
  | succ n ih =>
    intro x1 x2 x3 x4 s h
    rw [e_U_fewestToBegin_6] at h
    refine S.2 _ ?_ 700 7 _ _ (ck1_of rfl) h
    intro k ls s h
    replace h := cbr_c h
    rcases h with ⟨hb, h⟩ | ⟨_, h⟩
    · cases beq_t hb
      exact a_U_fewestToBegin_6 S.1 h ih
    cases h
theorem l_U_fewestToBegin (d : Nat) (k : Nat) (av : List Value) (s : Mem) (y : Int32 × Mem) (h : C_U_fewestToBegin k av s = some y) : Ctr (d + 3) (mtab k) av s y ∧ ((mtab k).2.2.2.2.2 = 77 → ∃ b rest, av = .ref b :: rest ∧ (b = 1001 ∨ b = 1002)) := by
  unfold C_U_fewestToBegin at h
  replace h := cbr_c h
  rcases h with ⟨hb, h⟩ | ⟨_, h⟩
  · cases beq_t hb
    exact ⟨c_H_size h (d + 1), fun q => absurd q (by decide)⟩
  replace h := cbr_c h
  rcases h with ⟨hb, h⟩ | ⟨_, h⟩
  · cases beq_t hb
    exact ⟨c_JM_min h (d + 2), fun q => absurd q (by decide)⟩
  replace h := cbr_c h
  rcases h with ⟨hb, h⟩ | ⟨_, h⟩
  · cases beq_t hb
    exact ⟨c_H_isMissing h (d + 1), fun q => absurd q (by decide)⟩
  replace h := cbr_c h
  rcases h with ⟨hb, h⟩ | ⟨_, h⟩
  · cases beq_t hb
    exact ⟨c_U_willOf h (d + 1), fun q => absurd q (by decide)⟩
  replace h := cbr_c h
  rcases h with ⟨hb, h⟩ | ⟨_, h⟩
  · cases beq_t hb
    exact ⟨c_H_has2 h (d + 0), fun q => absurd q (by decide)⟩
  cases h
theorem c_U_fewestToBegin {av : List Value} {s : Mem} {z : Int32 × Mem} (h : A_U_fewestToBegin av s = some z) (d : Nat) : Ctr (d + 4) I_U_fewestToBegin av s z := by
  unfold A_U_fewestToBegin at h
  split at h
  · replace h := cbr_n h
    obtain ⟨hb, h⟩ := h
    cases beq_t hb
    refine ctr_of (d := d + 3) (own := 4) (kps := [8]) (code := K_U_fewestToBegin) (Cl := C_U_fewestToBegin) o_U_fewestToBegin rfl (by decide) k_U_fewestToBegin (l_U_fewestToBegin d) (c1_of rfl) (Nat.le_of_ble_eq_true rfl) ?_
    intro RA S
    rw [e_U_fewestToBegin] at h
    refine S.2 _ ?_ 700 0 _ _ (ck1_of rfl) h
    intro k ls s h
    replace h := cbr_c h
    rcases h with ⟨hb, h⟩ | ⟨_, h⟩
    · cases beq_t hb
      exact a_U_fewestToBegin_6 S.1 h (n_U_fewestToBegin_6 S gF)
    cases h
  · cases h
set_option maxRecDepth 1000000 in
theorem k_H_anyMissing : okC 1 I_H_anyMissing.2.2.1 I_H_anyMissing.2.1 I_H_anyMissing.2.2.2.1 [2] K_H_anyMissing K_H_anyMissing = true := by decide +kernel
theorem a_H_anyMissing_2 {z : Int32 × Mem} {RA : Nat → List (Option Value) → Mem → Prop} (hm : ∀ (pc : Nat) (ls ls1 : List (Option Value)) (σ : Mem), ls1.length = I_H_anyMissing.2.2.1 → (∀ i v, lk ls1 i = some v → lk ls i = some v) → RA pc ls1 σ → RA pc ls σ) {f : Int32 → Int32 → Int32 → Mem → Option (Int32 × Mem)} {ls : List (Option Value)} {s : Mem} (h : A_H_anyMissing_2 f ls s = some z) (hf : ∀ (x1 : Int32) (x2 : Int32) (x3 : Int32) (s : Mem), f x1 x2 x3 s = some z → RA 2 [some (.ref 2), some (.int x1), some (.int x2), some (.int x3)] s) : RA 2 ls s := by
  unfold A_H_anyMissing_2 at h
  split at h
  · rename_i a0 a1 a2 a3 e0 e1 e2 e3
    replace h := cbr_n h
    obtain ⟨hb, h⟩ := h
    cases beq_t hb
    refine hm _ _ [some (.ref 2), some (.int a1), some (.int a2), some (.int a3)] _ rfl (fun i v hv => ?_) (hf _ _ _ _ h)
    match i, hv with
    | 0, hv => exact e0.trans hv
    | 1, hv => exact e1.trans hv
    | 2, hv => exact e2.trans hv
    | 3, hv => exact e3.trans hv
    | i + 4, hv => cases hv
  · cases h
theorem n_H_anyMissing_2 {z : Int32 × Mem} {RA : Nat → List (Option Value) → Mem → Prop} (S : Sm I_H_anyMissing C_H_anyMissing K_H_anyMissing [2] z RA) : ∀ (n : Nat) (x1 : Int32) (x2 : Int32) (x3 : Int32) (s : Mem), F_H_anyMissing_2 n x1 x2 x3 s = some z → RA 2 [some (.ref 2), some (.int x1), some (.int x2), some (.int x3)] s := by
  intro n
  induction n with
  | zero => intro x1 x2 x3 s h; exact nomatch (show (none : Option (Int32 × Mem)) = some z from h)
  | succ n ih =>
    intro x1 x2 x3 s h
    rw [e_H_anyMissing_2] at h
    refine S.2 _ ?_ 700 3 _ _ (ck1_of rfl) h
    intro k ls s h
    replace h := cbr_c h
    rcases h with ⟨hb, h⟩ | ⟨_, h⟩
    · cases beq_t hb
      exact a_H_anyMissing_2 S.1 h ih
    cases h
theorem l_H_anyMissing (d : Nat) (k : Nat) (av : List Value) (s : Mem) (y : Int32 × Mem) (h : C_H_anyMissing k av s = some y) : Ctr (d + 2) (mtab k) av s y ∧ ((mtab k).2.2.2.2.2 = 77 → ∃ b rest, av = .ref b :: rest ∧ (b = 1001 ∨ b = 1002)) := by
  unfold C_H_anyMissing at h
  replace h := cbr_c h
  rcases h with ⟨hb, h⟩ | ⟨_, h⟩
  · cases beq_t hb
    exact ⟨c_H_size h (d + 0), fun q => absurd q (by decide)⟩
  replace h := cbr_c h
  rcases h with ⟨hb, h⟩ | ⟨_, h⟩
  · cases beq_t hb
    exact ⟨c_H_isMissing h (d + 0), fun q => absurd q (by decide)⟩
  cases h
theorem c_H_anyMissing {av : List Value} {s : Mem} {z : Int32 × Mem} (h : A_H_anyMissing av s = some z) (d : Nat) : Ctr (d + 3) I_H_anyMissing av s z := by
  unfold A_H_anyMissing at h
  split at h
  · replace h := cbr_n h
    obtain ⟨hb, h⟩ := h
    cases beq_t hb
    refine ctr_of (d := d + 2) (own := 1) (kps := [2]) (code := K_H_anyMissing) (Cl := C_H_anyMissing) o_H_anyMissing rfl (by decide) k_H_anyMissing (l_H_anyMissing d) (c1_of rfl) (Nat.le_of_ble_eq_true rfl) ?_
    intro RA S
    rw [e_H_anyMissing] at h
    refine S.2 _ ?_ 700 0 _ _ (ck1_of rfl) h
    intro k ls s h
    replace h := cbr_c h
    rcases h with ⟨hb, h⟩ | ⟨_, h⟩
    · cases beq_t hb
      exact a_H_anyMissing_2 S.1 h (n_H_anyMissing_2 S gF)
    cases h
  · cases h
set_option maxRecDepth 1000000 in
theorem k_U_beginMutiny : okC 4 I_U_beginMutiny.2.2.1 I_U_beginMutiny.2.1 I_U_beginMutiny.2.2.2.1 [] K_U_beginMutiny K_U_beginMutiny = true := by decide +kernel
theorem l_U_beginMutiny (d : Nat) (k : Nat) (av : List Value) (s : Mem) (y : Int32 × Mem) (h : C_U_beginMutiny k av s = some y) : Ctr (d + 1) (mtab k) av s y ∧ ((mtab k).2.2.2.2.2 = 77 → ∃ b rest, av = .ref b :: rest ∧ (b = 1001 ∨ b = 1002)) := by
  unfold C_U_beginMutiny at h
  replace h := cbr_c h
  rcases h with ⟨hb, h⟩ | ⟨_, h⟩
  · cases beq_t hb
    exact ⟨c_C_within h (d + 0), fun q => absurd q (by decide)⟩
  cases h
theorem c_U_beginMutiny {av : List Value} {s : Mem} {z : Int32 × Mem} (h : A_U_beginMutiny av s = some z) (d : Nat) : Ctr (d + 2) I_U_beginMutiny av s z := by
  unfold A_U_beginMutiny at h
  split at h
  · replace h := cbr_n h
    obtain ⟨hb, h⟩ := h
    cases beq_t hb
    refine ctr_of (d := d + 1) (own := 4) (kps := []) (code := K_U_beginMutiny) (Cl := C_U_beginMutiny) o_U_beginMutiny rfl (by decide) k_U_beginMutiny (l_U_beginMutiny d) (c1_of rfl) (Nat.le_of_ble_eq_true rfl) ?_
    intro RA S
    rw [e_U_beginMutiny] at h
    refine S.2 _ ?_ 700 0 _ _ (ck1_of rfl) h
    intro k ls s h
    cases h
  · cases h
set_option maxRecDepth 1000000 in
theorem k_U_urge : okC 4 I_U_urge.2.2.1 I_U_urge.2.1 I_U_urge.2.2.2.1 [] K_U_urge K_U_urge = true := by decide +kernel
theorem l_U_urge (d : Nat) (k : Nat) (av : List Value) (s : Mem) (y : Int32 × Mem) (h : C_U_urge k av s = some y) : Ctr (d + 3) (mtab k) av s y ∧ ((mtab k).2.2.2.2.2 = 77 → ∃ b rest, av = .ref b :: rest ∧ (b = 1001 ∨ b = 1002)) := by
  unfold C_U_urge at h
  replace h := cbr_c h
  rcases h with ⟨hb, h⟩ | ⟨_, h⟩
  · cases beq_t hb
    exact ⟨c_H_has2 h (d + 0), fun q => absurd q (by decide)⟩
  replace h := cbr_c h
  rcases h with ⟨hb, h⟩ | ⟨_, h⟩
  · cases beq_t hb
    exact ⟨c_H_isMissing h (d + 1), fun q => absurd q (by decide)⟩
  replace h := cbr_c h
  rcases h with ⟨hb, h⟩ | ⟨_, h⟩
  · cases beq_t hb
    exact ⟨c_C_within h (d + 2), fun q => absurd q (by decide)⟩
  replace h := cbr_c h
  rcases h with ⟨hb, h⟩ | ⟨_, h⟩
  · cases beq_t hb
    exact ⟨c_U_willOf h (d + 1), fun q => absurd q (by decide)⟩
  replace h := cbr_c h
  rcases h with ⟨hb, h⟩ | ⟨_, h⟩
  · cases beq_t hb
    exact ⟨c_U_beginMutiny h (d + 1), fun q => absurd q (by decide)⟩
  cases h
theorem c_U_urge {av : List Value} {s : Mem} {z : Int32 × Mem} (h : A_U_urge av s = some z) (d : Nat) : Ctr (d + 4) I_U_urge av s z := by
  unfold A_U_urge at h
  split at h
  · replace h := cbr_n h
    obtain ⟨hb, h⟩ := h
    cases beq_t hb
    replace h := cbr_n h
    obtain ⟨hb, h⟩ := h
    cases beq_t hb
    refine ctr_of (d := d + 3) (own := 4) (kps := []) (code := K_U_urge) (Cl := C_U_urge) o_U_urge rfl (by decide) k_U_urge (l_U_urge d) (c1_of rfl) (Nat.le_of_ble_eq_true rfl) ?_
    intro RA S
    rw [e_U_urge] at h
    refine S.2 _ ?_ 700 0 _ _ (ck1_of rfl) h
    intro k ls s h
    cases h
  · cases h
set_option maxRecDepth 1000000 in
theorem k_U_doorFrom : okC 4 I_U_doorFrom.2.2.1 I_U_doorFrom.2.1 I_U_doorFrom.2.2.2.1 [] K_U_doorFrom K_U_doorFrom = true := by decide +kernel
theorem l_U_doorFrom (d : Nat) (k : Nat) (av : List Value) (s : Mem) (y : Int32 × Mem) (h : C_U_doorFrom k av s = some y) : Ctr (d + 2) (mtab k) av s y ∧ ((mtab k).2.2.2.2.2 = 77 → ∃ b rest, av = .ref b :: rest ∧ (b = 1001 ∨ b = 1002)) := by
  unfold C_U_doorFrom at h
  replace h := cbr_c h
  rcases h with ⟨hb, h⟩ | ⟨_, h⟩
  · cases beq_t hb
    exact ⟨c_N_at h (d + 0), fun q => absurd q (by decide)⟩
  cases h
theorem c_U_doorFrom {av : List Value} {s : Mem} {z : Int32 × Mem} (h : A_U_doorFrom av s = some z) (d : Nat) : Ctr (d + 3) I_U_doorFrom av s z := by
  unfold A_U_doorFrom at h
  split at h
  · replace h := cbr_n h
    obtain ⟨hb, h⟩ := h
    cases beq_t hb
    refine ctr_of (d := d + 2) (own := 4) (kps := []) (code := K_U_doorFrom) (Cl := C_U_doorFrom) o_U_doorFrom rfl (by decide) k_U_doorFrom (l_U_doorFrom d) (c1_of rfl) (Nat.le_of_ble_eq_true rfl) ?_
    intro RA S
    rw [e_U_doorFrom] at h
    refine S.2 _ ?_ 700 0 _ _ (ck1_of rfl) h
    intro k ls s h
    cases h
  · cases h
set_option maxRecDepth 1000000 in
theorem k_U_urgeThroughDoors : okC 4 I_U_urgeThroughDoors.2.2.1 I_U_urgeThroughDoors.2.1 I_U_urgeThroughDoors.2.2.2.1 [17, 54] K_U_urgeThroughDoors K_U_urgeThroughDoors = true := by decide +kernel
theorem a_U_urgeThroughDoors_11 {z : Int32 × Mem} {RA : Nat → List (Option Value) → Mem → Prop} (hm : ∀ (pc : Nat) (ls ls1 : List (Option Value)) (σ : Mem), ls1.length = I_U_urgeThroughDoors.2.2.1 → (∀ i v, lk ls1 i = some v → lk ls i = some v) → RA pc ls1 σ → RA pc ls σ) {f : Int32 → Int32 → Mem → Option (Int32 × Mem)} {ls : List (Option Value)} {s : Mem} (h : A_U_urgeThroughDoors_11 f ls s = some z) (hf : ∀ (x5 : Int32) (x6 : Int32) (s : Mem), f x5 x6 s = some z → RA 17 [some (.ref 90), some (.ref 1), none, none, some (.ref 19), some (.int x5), some (.int x6), none, none, none] s) : RA 17 ls s := by
  unfold A_U_urgeThroughDoors_11 at h
  split at h
  · rename_i a0 a1 a2 a3 a4 e0 e1 e2 e3 e4
    replace h := cbr_n h
    obtain ⟨hb, h⟩ := h
    cases beq_t hb
    replace h := cbr_n h
    obtain ⟨hb, h⟩ := h
    cases beq_t hb
    replace h := cbr_n h
    obtain ⟨hb, h⟩ := h
    cases beq_t hb
    refine hm _ _ [some (.ref 90), some (.ref 1), none, none, some (.ref 19), some (.int a3), some (.int a4), none, none, none] _ rfl (fun i v hv => ?_) (hf _ _ _ h)
    match i, hv with
    | 0, hv => exact e0.trans hv
    | 1, hv => exact e1.trans hv
    | 2, hv => cases hv
    | 3, hv => cases hv
    | 4, hv => exact e2.trans hv
    | 5, hv => exact e3.trans hv
    | 6, hv => exact e4.trans hv
    | 7, hv => cases hv
    | 8, hv => cases hv
    | 9, hv => cases hv
    | i + 10, hv => cases hv
  · cases h
theorem a_U_urgeThroughDoors_29 {z : Int32 × Mem} {RA : Nat → List (Option Value) → Mem → Prop} (hm : ∀ (pc : Nat) (ls ls1 : List (Option Value)) (σ : Mem), ls1.length = I_U_urgeThroughDoors.2.2.1 → (∀ i v, lk ls1 i = some v → lk ls i = some v) → RA pc ls1 σ → RA pc ls σ) {f : Int32 → Int32 → Int32 → Int32 → Int32 → Mem → Option (Int32 × Mem)} {ls : List (Option Value)} {s : Mem} (h : A_U_urgeThroughDoors_29 f ls s = some z) (hf : ∀ (x5 : Int32) (x6 : Int32) (x7 : Int32) (x8 : Int32) (x9 : Int32) (s : Mem), f x5 x6 x7 x8 x9 s = some z → RA 54 [some (.ref 90), some (.ref 1), none, none, some (.ref 19), some (.int x5), some (.int x6), some (.int x7), some (.int x8), some (.int x9)] s) : RA 54 ls s := by
  unfold A_U_urgeThroughDoors_29 at h
  split at h
  · rename_i a0 a1 a2 a3 a4 a5 a6 a7 e0 e1 e2 e3 e4 e5 e6 e7
    replace h := cbr_n h
    obtain ⟨hb, h⟩ := h
    cases beq_t hb
    replace h := cbr_n h
    obtain ⟨hb, h⟩ := h
    cases beq_t hb
    replace h := cbr_n h
    obtain ⟨hb, h⟩ := h
    cases beq_t hb
    refine hm _ _ [some (.ref 90), some (.ref 1), none, none, some (.ref 19), some (.int a3), some (.int a4), some (.int a5), some (.int a6), some (.int a7)] _ rfl (fun i v hv => ?_) (hf _ _ _ _ _ _ h)
    match i, hv with
    | 0, hv => exact e0.trans hv
    | 1, hv => exact e1.trans hv
    | 2, hv => cases hv
    | 3, hv => cases hv
    | 4, hv => exact e2.trans hv
    | 5, hv => exact e3.trans hv
    | 6, hv => exact e4.trans hv
    | 7, hv => exact e5.trans hv
    | 8, hv => exact e6.trans hv
    | 9, hv => exact e7.trans hv
    | i + 10, hv => cases hv
  · cases h
theorem n_U_urgeThroughDoors_29 {z : Int32 × Mem} {RA : Nat → List (Option Value) → Mem → Prop} (S : Sm I_U_urgeThroughDoors C_U_urgeThroughDoors K_U_urgeThroughDoors [17, 54] z RA) {k11 : Int32 → Int32 → Mem → Option (Int32 × Mem)} (hk11 : ∀ (x5 : Int32) (x6 : Int32) (s : Mem), k11 x5 x6 s = some z → RA 17 [some (.ref 90), some (.ref 1), none, none, some (.ref 19), some (.int x5), some (.int x6), none, none, none] s) : ∀ (n : Nat) (x5 : Int32) (x6 : Int32) (x7 : Int32) (x8 : Int32) (x9 : Int32) (s : Mem), F_U_urgeThroughDoors_29 k11 n x5 x6 x7 x8 x9 s = some z → RA 54 [some (.ref 90), some (.ref 1), none, none, some (.ref 19), some (.int x5), some (.int x6), some (.int x7), some (.int x8), some (.int x9)] s := by
  intro n
  induction n with
  | zero => intro x5 x6 x7 x8 x9 s h; exact nomatch (show (none : Option (Int32 × Mem)) = some z from h)
  | succ n ih =>
    intro x5 x6 x7 x8 x9 s h
    rw [e_U_urgeThroughDoors_29] at h
    refine S.2 _ ?_ 700 31 _ _ (ck1_of rfl) h
    intro k ls s h
    replace h := cbr_c h
    rcases h with ⟨hb, h⟩ | ⟨_, h⟩
    · cases beq_t hb
      exact a_U_urgeThroughDoors_11 S.1 h hk11
    replace h := cbr_c h
    rcases h with ⟨hb, h⟩ | ⟨_, h⟩
    · cases beq_t hb
      exact a_U_urgeThroughDoors_29 S.1 h ih
    cases h
theorem n_U_urgeThroughDoors_11 {z : Int32 × Mem} {RA : Nat → List (Option Value) → Mem → Prop} (S : Sm I_U_urgeThroughDoors C_U_urgeThroughDoors K_U_urgeThroughDoors [17, 54] z RA) : ∀ (n : Nat) (x5 : Int32) (x6 : Int32) (s : Mem), F_U_urgeThroughDoors_11 n x5 x6 s = some z → RA 17 [some (.ref 90), some (.ref 1), none, none, some (.ref 19), some (.int x5), some (.int x6), none, none, none] s := by
  intro n
  induction n with
  | zero => intro x5 x6 s h; exact nomatch (show (none : Option (Int32 × Mem)) = some z from h)
  | succ n ih =>
    intro x5 x6 s h
    rw [e_U_urgeThroughDoors_11] at h
    refine S.2 _ ?_ 700 12 _ _ (ck1_of rfl) h
    intro k ls s h
    replace h := cbr_c h
    rcases h with ⟨hb, h⟩ | ⟨_, h⟩
    · cases beq_t hb
      exact a_U_urgeThroughDoors_29 S.1 h (n_U_urgeThroughDoors_29 S ih gF)
    cases h
theorem l_U_urgeThroughDoors (d : Nat) (k : Nat) (av : List Value) (s : Mem) (y : Int32 × Mem) (h : C_U_urgeThroughDoors k av s = some y) : Ctr (d + 4) (mtab k) av s y ∧ ((mtab k).2.2.2.2.2 = 77 → ∃ b rest, av = .ref b :: rest ∧ (b = 1001 ∨ b = 1002)) := by
  unfold C_U_urgeThroughDoors at h
  replace h := cbr_c h
  rcases h with ⟨hb, h⟩ | ⟨_, h⟩
  · cases beq_t hb
    exact ⟨c_U_doorFrom h (d + 1), fun q => absurd q (by decide)⟩
  replace h := cbr_c h
  rcases h with ⟨hb, h⟩ | ⟨_, h⟩
  · cases beq_t hb
    exact ⟨c_U_urge h (d + 0), fun q => absurd q (by decide)⟩
  cases h
theorem c_U_urgeThroughDoors {av : List Value} {s : Mem} {z : Int32 × Mem} (h : A_U_urgeThroughDoors av s = some z) (d : Nat) : Ctr (d + 5) I_U_urgeThroughDoors av s z := by
  unfold A_U_urgeThroughDoors at h
  split at h
  · replace h := cbr_n h
    obtain ⟨hb, h⟩ := h
    cases beq_t hb
    replace h := cbr_n h
    obtain ⟨hb, h⟩ := h
    cases beq_t hb
    refine ctr_of (d := d + 4) (own := 4) (kps := [17, 54]) (code := K_U_urgeThroughDoors) (Cl := C_U_urgeThroughDoors) o_U_urgeThroughDoors rfl (by decide) k_U_urgeThroughDoors (l_U_urgeThroughDoors d) (c1_of rfl) (Nat.le_of_ble_eq_true rfl) ?_
    intro RA S
    rw [e_U_urgeThroughDoors] at h
    refine S.2 _ ?_ 700 0 _ _ (ck1_of rfl) h
    intro k ls s h
    replace h := cbr_c h
    rcases h with ⟨hb, h⟩ | ⟨_, h⟩
    · cases beq_t hb
      exact a_U_urgeThroughDoors_11 S.1 h (n_U_urgeThroughDoors_11 S gF)
    cases h
  · cases h
set_option maxRecDepth 1000000 in
theorem k_U_mutineers : okC 4 I_U_mutineers.2.2.1 I_U_mutineers.2.1 I_U_mutineers.2.2.2.1 [16, 59] K_U_mutineers K_U_mutineers = true := by decide +kernel
theorem a_U_mutineers_9 {z : Int32 × Mem} {RA : Nat → List (Option Value) → Mem → Prop} (hm : ∀ (pc : Nat) (ls ls1 : List (Option Value)) (σ : Mem), ls1.length = I_U_mutineers.2.2.1 → (∀ i v, lk ls1 i = some v → lk ls i = some v) → RA pc ls1 σ → RA pc ls σ) {f : Int32 → Int32 → Int32 → Mem → Option (Int32 × Mem)} {ls : List (Option Value)} {s : Mem} (h : A_U_mutineers_9 f ls s = some z) (hf : ∀ (x2 : Int32) (x3 : Int32) (x4 : Int32) (s : Mem), f x2 x3 x4 s = some z → RA 16 [some (.ref 90), some (.ref 1), some (.int x2), some (.int x3), some (.int x4), none, none, none] s) : RA 16 ls s := by
  unfold A_U_mutineers_9 at h
  split at h
  · rename_i a0 a1 a2 a3 a4 e0 e1 e2 e3 e4
    replace h := cbr_n h
    obtain ⟨hb, h⟩ := h
    cases beq_t hb
    replace h := cbr_n h
    obtain ⟨hb, h⟩ := h
    cases beq_t hb
    refine hm _ _ [some (.ref 90), some (.ref 1), some (.int a2), some (.int a3), some (.int a4), none, none, none] _ rfl (fun i v hv => ?_) (hf _ _ _ _ h)
    match i, hv with
    | 0, hv => exact e0.trans hv
    | 1, hv => exact e1.trans hv
    | 2, hv => exact e2.trans hv
    | 3, hv => exact e3.trans hv
    | 4, hv => exact e4.trans hv
    | 5, hv => cases hv
    | 6, hv => cases hv
    | 7, hv => cases hv
    | i + 8, hv => cases hv
  · cases h
theorem a_U_mutineers_33 {z : Int32 × Mem} {RA : Nat → List (Option Value) → Mem → Prop} (hm : ∀ (pc : Nat) (ls ls1 : List (Option Value)) (σ : Mem), ls1.length = I_U_mutineers.2.2.1 → (∀ i v, lk ls1 i = some v → lk ls i = some v) → RA pc ls1 σ → RA pc ls σ) {f : Int32 → Mem → Option (Int32 × Mem)} {ls : List (Option Value)} {s : Mem} (h : A_U_mutineers_33 f ls s = some z) (hf : ∀ (x4 : Int32) (s : Mem), f x4 s = some z → RA 59 [some (.ref 90), some (.ref 1), none, none, some (.int x4), none, none, none] s) : RA 59 ls s := by
  unfold A_U_mutineers_33 at h
  split at h
  · rename_i a0 a1 a2 e0 e1 e2
    replace h := cbr_n h
    obtain ⟨hb, h⟩ := h
    cases beq_t hb
    replace h := cbr_n h
    obtain ⟨hb, h⟩ := h
    cases beq_t hb
    refine hm _ _ [some (.ref 90), some (.ref 1), none, none, some (.int a2), none, none, none] _ rfl (fun i v hv => ?_) (hf _ _ h)
    match i, hv with
    | 0, hv => exact e0.trans hv
    | 1, hv => exact e1.trans hv
    | 2, hv => cases hv
    | 3, hv => cases hv
    | 4, hv => exact e2.trans hv
    | 5, hv => cases hv
    | 6, hv => cases hv
    | 7, hv => cases hv
    | i + 8, hv => cases hv
  · cases h
theorem n_U_mutineers_33 {z : Int32 × Mem} {RA : Nat → List (Option Value) → Mem → Prop} (S : Sm I_U_mutineers C_U_mutineers K_U_mutineers [16, 59] z RA) : ∀ (n : Nat) (x4 : Int32) (s : Mem), F_U_mutineers_33 n x4 s = some z → RA 59 [some (.ref 90), some (.ref 1), none, none, some (.int x4), none, none, none] s := by
  intro n
  induction n with
  | zero => intro x4 s h; exact nomatch (show (none : Option (Int32 × Mem)) = some z from h)
  | succ n ih =>
    intro x4 s h
    rw [e_U_mutineers_33] at h
    refine S.2 _ ?_ 700 35 _ _ (ck1_of rfl) h
    intro k ls s h
    replace h := cbr_c h
    rcases h with ⟨hb, h⟩ | ⟨_, h⟩
    · cases beq_t hb
      exact a_U_mutineers_33 S.1 h ih
    cases h
theorem n_U_mutineers_9 {z : Int32 × Mem} {RA : Nat → List (Option Value) → Mem → Prop} (S : Sm I_U_mutineers C_U_mutineers K_U_mutineers [16, 59] z RA) : ∀ (n : Nat) (x2 : Int32) (x3 : Int32) (x4 : Int32) (s : Mem), F_U_mutineers_9 n x2 x3 x4 s = some z → RA 16 [some (.ref 90), some (.ref 1), some (.int x2), some (.int x3), some (.int x4), none, none, none] s := by
  intro n
  induction n with
  | zero => intro x2 x3 x4 s h; exact nomatch (show (none : Option (Int32 × Mem)) = some z from h)
  | succ n ih =>
    intro x2 x3 x4 s h
    rw [e_U_mutineers_9] at h
    refine S.2 _ ?_ 700 10 _ _ (ck1_of rfl) h
    intro k ls s h
    replace h := cbr_c h
    rcases h with ⟨hb, h⟩ | ⟨_, h⟩
    · cases beq_t hb
      exact a_U_mutineers_9 S.1 h ih
    replace h := cbr_c h
    rcases h with ⟨hb, h⟩ | ⟨_, h⟩
    · cases beq_t hb
      exact a_U_mutineers_33 S.1 h (n_U_mutineers_33 S gF)
    cases h
theorem l_U_mutineers (d : Nat) (k : Nat) (av : List Value) (s : Mem) (y : Int32 × Mem) (h : C_U_mutineers k av s = some y) : Ctr (d + 5) (mtab k) av s y ∧ ((mtab k).2.2.2.2.2 = 77 → ∃ b rest, av = .ref b :: rest ∧ (b = 1001 ∨ b = 1002)) := by
  unfold C_U_mutineers at h
  replace h := cbr_c h
  rcases h with ⟨hb, h⟩ | ⟨_, h⟩
  · cases beq_t hb
    exact ⟨c_JA_fill h (d + 4), fun q => absurd q (by decide)⟩
  replace h := cbr_c h
  rcases h with ⟨hb, h⟩ | ⟨_, h⟩
  · cases beq_t hb
    exact ⟨c_H_size h (d + 3), fun q => absurd q (by decide)⟩
  replace h := cbr_c h
  rcases h with ⟨hb, h⟩ | ⟨_, h⟩
  · cases beq_t hb
    exact ⟨c_U_beginMutiny h (d + 3), fun q => absurd q (by decide)⟩
  replace h := cbr_c h
  rcases h with ⟨hb, h⟩ | ⟨_, h⟩
  · cases beq_t hb
    exact ⟨c_U_urge h (d + 1), fun q => absurd q (by decide)⟩
  replace h := cbr_c h
  rcases h with ⟨hb, h⟩ | ⟨_, h⟩
  · cases beq_t hb
    exact ⟨c_U_urgeThroughDoors h (d + 0), fun q => absurd q (by decide)⟩
  cases h
theorem c_U_mutineers {av : List Value} {s : Mem} {z : Int32 × Mem} (h : A_U_mutineers av s = some z) (d : Nat) : Ctr (d + 6) I_U_mutineers av s z := by
  unfold A_U_mutineers at h
  split at h
  · replace h := cbr_n h
    obtain ⟨hb, h⟩ := h
    cases beq_t hb
    replace h := cbr_n h
    obtain ⟨hb, h⟩ := h
    cases beq_t hb
    refine ctr_of (d := d + 5) (own := 4) (kps := [16, 59]) (code := K_U_mutineers) (Cl := C_U_mutineers) o_U_mutineers rfl (by decide) k_U_mutineers (l_U_mutineers d) (c1_of rfl) (Nat.le_of_ble_eq_true rfl) ?_
    intro RA S
    rw [e_U_mutineers] at h
    refine S.2 _ ?_ 700 0 _ _ (ck1_of rfl) h
    intro k ls s h
    replace h := cbr_c h
    rcases h with ⟨hb, h⟩ | ⟨_, h⟩
    · cases beq_t hb
      exact a_U_mutineers_9 S.1 h (n_U_mutineers_9 S gF)
    cases h
  · cases h
set_option maxRecDepth 1000000 in
theorem k_C_mutiny : okC 10 I_C_mutiny.2.2.1 I_C_mutiny.2.1 I_C_mutiny.2.2.2.1 [] K_C_mutiny K_C_mutiny = true := by decide +kernel
theorem l_C_mutiny (d : Nat) (k : Nat) (av : List Value) (s : Mem) (y : Int32 × Mem) (h : C_C_mutiny k av s = some y) : Ctr (d + 6) (mtab k) av s y ∧ ((mtab k).2.2.2.2.2 = 77 → ∃ b rest, av = .ref b :: rest ∧ (b = 1001 ∨ b = 1002)) := by
  unfold C_C_mutiny at h
  replace h := cbr_c h
  rcases h with ⟨hb, h⟩ | ⟨_, h⟩
  · cases beq_t hb
    exact ⟨c_H_has1 h (d + 4), fun q => absurd q (by decide)⟩
  replace h := cbr_c h
  rcases h with ⟨hb, h⟩ | ⟨_, h⟩
  · cases beq_t hb
    exact ⟨c_U_fewestToBegin h (d + 2), fun q => absurd q (by decide)⟩
  replace h := cbr_c h
  rcases h with ⟨hb, h⟩ | ⟨_, h⟩
  · cases beq_t hb
    exact ⟨c_H_hasSet h (d + 3), fun q => absurd q (by decide)⟩
  replace h := cbr_c h
  rcases h with ⟨hb, h⟩ | ⟨_, h⟩
  · cases beq_t hb
    exact ⟨c_H_anyMissing h (d + 3), fun q => absurd q (by decide)⟩
  replace h := cbr_c h
  rcases h with ⟨hb, h⟩ | ⟨_, h⟩
  · cases beq_t hb
    exact ⟨c_U_mutineers h (d + 0), fun q => absurd q (by decide)⟩
  cases h
theorem c_C_mutiny {av : List Value} {s : Mem} {z : Int32 × Mem} (h : A_C_mutiny av s = some z) (d : Nat) : Ctr (d + 7) I_C_mutiny av s z := by
  unfold A_C_mutiny at h
  split at h
  · replace h := cbr_n h
    obtain ⟨hb, h⟩ := h
    cases beq_t hb
    refine ctr_of (d := d + 6) (own := 10) (kps := []) (code := K_C_mutiny) (Cl := C_C_mutiny) o_C_mutiny rfl (by decide) k_C_mutiny (l_C_mutiny d) (c1_of rfl) (Nat.le_of_ble_eq_true rfl) ?_
    intro RA S
    rw [e_C_mutiny] at h
    refine S.2 _ ?_ 700 0 _ _ (ck1_of rfl) h
    intro k ls s h
    cases h
  · cases h
set_option maxRecDepth 1000000 in
theorem k_D_isPermutation : okC 7 I_D_isPermutation.2.2.1 I_D_isPermutation.2.1 I_D_isPermutation.2.2.2.1 [13] K_D_isPermutation K_D_isPermutation = true := by decide +kernel
theorem a_D_isPermutation_10 {z : Int32 × Mem} {RA : Nat → List (Option Value) → Mem → Prop} (hm : ∀ (pc : Nat) (ls ls1 : List (Option Value)) (σ : Mem), ls1.length = I_D_isPermutation.2.2.1 → (∀ i v, lk ls1 i = some v → lk ls i = some v) → RA pc ls1 σ → RA pc ls σ) {f : Int32 → Int32 → Int32 → Int32 → Mem → Option (Int32 × Mem)} {ls : List (Option Value)} {s : Mem} (h : A_D_isPermutation_10 f ls s = some z) (hf : ∀ (x1 : Int32) (x2 : Int32) (x3 : Int32) (x4 : Int32) (s : Mem), f x1 x2 x3 x4 s = some z → RA 13 [none, some (.int x1), some (.int x2), some (.int x3), some (.int x4)] s) : RA 13 ls s := by
  unfold A_D_isPermutation_10 at h
  split at h
  · rename_i a0 a1 a2 a3 e0 e1 e2 e3
    refine hm _ _ [none, some (.int a0), some (.int a1), some (.int a2), some (.int a3)] _ rfl (fun i v hv => ?_) (hf _ _ _ _ _ h)
    match i, hv with
    | 0, hv => cases hv
    | 1, hv => exact e0.trans hv
    | 2, hv => exact e1.trans hv
    | 3, hv => exact e2.trans hv
    | 4, hv => exact e3.trans hv
    | i + 5, hv => cases hv
  · cases h
theorem n_D_isPermutation_10 {z : Int32 × Mem} {RA : Nat → List (Option Value) → Mem → Prop} (S : Sm I_D_isPermutation C_D_isPermutation K_D_isPermutation [13] z RA) : ∀ (n : Nat) (x1 : Int32) (x2 : Int32) (x3 : Int32) (x4 : Int32) (s : Mem), F_D_isPermutation_10 n x1 x2 x3 x4 s = some z → RA 13 [none, some (.int x1), some (.int x2), some (.int x3), some (.int x4)] s := by
  intro n
  induction n with
  | zero => intro x1 x2 x3 x4 s h; exact nomatch (show (none : Option (Int32 × Mem)) = some z from h)
  | succ n ih =>
    intro x1 x2 x3 x4 s h
    rw [e_D_isPermutation_10] at h
    refine S.2 _ ?_ 700 11 _ _ (ck1_of rfl) h
    intro k ls s h
    replace h := cbr_c h
    rcases h with ⟨hb, h⟩ | ⟨_, h⟩
    · cases beq_t hb
      exact a_D_isPermutation_10 S.1 h ih
    cases h
theorem l_D_isPermutation (d : Nat) (k : Nat) (av : List Value) (s : Mem) (y : Int32 × Mem) (h : C_D_isPermutation k av s = some y) : Ctr (d + 0) (mtab k) av s y ∧ ((mtab k).2.2.2.2.2 = 77 → ∃ b rest, av = .ref b :: rest ∧ (b = 1001 ∨ b = 1002)) := by
  exact nomatch (show (none : Option (Int32 × Mem)) = some y from h)
theorem c_D_isPermutation {av : List Value} {s : Mem} {z : Int32 × Mem} (h : A_D_isPermutation av s = some z) (d : Nat) : Ctr (d + 1) I_D_isPermutation av s z := by
  unfold A_D_isPermutation at h
  split at h
  · refine ctr_of (d := d + 0) (own := 7) (kps := [13]) (code := K_D_isPermutation) (Cl := C_D_isPermutation) o_D_isPermutation rfl (by decide) k_D_isPermutation (l_D_isPermutation d) (c1_of rfl) (Nat.le_of_ble_eq_true rfl) ?_
    intro RA S
    rw [e_D_isPermutation] at h
    refine S.2 _ ?_ 700 0 _ _ (ck1_of rfl) h
    intro k ls s h
    replace h := cbr_c h
    rcases h with ⟨hb, h⟩ | ⟨_, h⟩
    · cases beq_t hb
      exact a_D_isPermutation_10 S.1 h (n_D_isPermutation_10 S gF)
    cases h
  · cases h
set_option maxRecDepth 1000000 in
theorem k_C_signer : okC 10 I_C_signer.2.2.1 I_C_signer.2.1 I_C_signer.2.2.2.1 [] K_C_signer K_C_signer = true := by decide +kernel
theorem l_C_signer (d : Nat) (k : Nat) (av : List Value) (s : Mem) (y : Int32 × Mem) (h : C_C_signer k av s = some y) : Ctr (d + 2) (mtab k) av s y ∧ ((mtab k).2.2.2.2.2 = 77 → ∃ b rest, av = .ref b :: rest ∧ (b = 1001 ∨ b = 1002)) := by
  unfold C_C_signer at h
  replace h := cbr_c h
  rcases h with ⟨hb, h⟩ | ⟨_, h⟩
  · cases beq_t hb
    exact ⟨c_W_clear h (d + 1), fun q => absurd q (by decide)⟩
  replace h := cbr_c h
  rcases h with ⟨hb, h⟩ | ⟨_, h⟩
  · cases beq_t hb
    exact ⟨c_D_isPermutation h (d + 1), fun q => absurd q (by decide)⟩
  replace h := cbr_c h
  rcases h with ⟨hb, h⟩ | ⟨_, h⟩
  · cases beq_t hb
    exact ⟨c_W_add h (d + 0), fun q => absurd q (by decide)⟩
  cases h
theorem c_C_signer {av : List Value} {s : Mem} {z : Int32 × Mem} (h : A_C_signer av s = some z) (d : Nat) : Ctr (d + 3) I_C_signer av s z := by
  unfold A_C_signer at h
  split at h
  · replace h := cbr_n h
    obtain ⟨hb, h⟩ := h
    cases beq_t hb
    refine ctr_of (d := d + 2) (own := 10) (kps := []) (code := K_C_signer) (Cl := C_C_signer) o_C_signer rfl (by decide) k_C_signer (l_C_signer d) (c1_of rfl) (Nat.le_of_ble_eq_true rfl) ?_
    intro RA S
    rw [e_C_signer] at h
    refine S.2 _ ?_ 700 0 _ _ (ck1_of rfl) h
    intro k ls s h
    cases h
  · cases h
set_option maxRecDepth 1000000 in
theorem k_D_placeOf : okC 7 I_D_placeOf.2.2.1 I_D_placeOf.2.1 I_D_placeOf.2.2.2.1 [4] K_D_placeOf K_D_placeOf = true := by decide +kernel
theorem a_D_placeOf_4 {z : Int32 × Mem} {RA : Nat → List (Option Value) → Mem → Prop} (hm : ∀ (pc : Nat) (ls ls1 : List (Option Value)) (σ : Mem), ls1.length = I_D_placeOf.2.2.1 → (∀ i v, lk ls1 i = some v → lk ls i = some v) → RA pc ls1 σ → RA pc ls σ) {f : Int32 → Int32 → Int32 → Mem → Option (Int32 × Mem)} {ls : List (Option Value)} {s : Mem} (h : A_D_placeOf_4 f ls s = some z) (hf : ∀ (x1 : Int32) (x2 : Int32) (x3 : Int32) (s : Mem), f x1 x2 x3 s = some z → RA 4 [none, some (.int x1), some (.int x2), some (.int x3)] s) : RA 4 ls s := by
  unfold A_D_placeOf_4 at h
  split at h
  · rename_i a0 a1 a2 e0 e1 e2
    refine hm _ _ [none, some (.int a0), some (.int a1), some (.int a2)] _ rfl (fun i v hv => ?_) (hf _ _ _ _ h)
    match i, hv with
    | 0, hv => cases hv
    | 1, hv => exact e0.trans hv
    | 2, hv => exact e1.trans hv
    | 3, hv => exact e2.trans hv
    | i + 4, hv => cases hv
  · cases h
theorem n_D_placeOf_4 {z : Int32 × Mem} {RA : Nat → List (Option Value) → Mem → Prop} (S : Sm I_D_placeOf C_D_placeOf K_D_placeOf [4] z RA) : ∀ (n : Nat) (x1 : Int32) (x2 : Int32) (x3 : Int32) (s : Mem), F_D_placeOf_4 n x1 x2 x3 s = some z → RA 4 [none, some (.int x1), some (.int x2), some (.int x3)] s := by
  intro n
  induction n with
  | zero => intro x1 x2 x3 s h; exact nomatch (show (none : Option (Int32 × Mem)) = some z from h)
  | succ n ih =>
    intro x1 x2 x3 s h
    rw [e_D_placeOf_4] at h
    refine S.2 _ ?_ 700 5 _ _ (ck1_of rfl) h
    intro k ls s h
    replace h := cbr_c h
    rcases h with ⟨hb, h⟩ | ⟨_, h⟩
    · cases beq_t hb
      exact a_D_placeOf_4 S.1 h ih
    cases h
theorem l_D_placeOf (d : Nat) (k : Nat) (av : List Value) (s : Mem) (y : Int32 × Mem) (h : C_D_placeOf k av s = some y) : Ctr (d + 0) (mtab k) av s y ∧ ((mtab k).2.2.2.2.2 = 77 → ∃ b rest, av = .ref b :: rest ∧ (b = 1001 ∨ b = 1002)) := by
  exact nomatch (show (none : Option (Int32 × Mem)) = some y from h)
theorem c_D_placeOf {av : List Value} {s : Mem} {z : Int32 × Mem} (h : A_D_placeOf av s = some z) (d : Nat) : Ctr (d + 1) I_D_placeOf av s z := by
  unfold A_D_placeOf at h
  split at h
  · refine ctr_of (d := d + 0) (own := 7) (kps := [4]) (code := K_D_placeOf) (Cl := C_D_placeOf) o_D_placeOf rfl (by decide) k_D_placeOf (l_D_placeOf d) (c1_of rfl) (Nat.le_of_ble_eq_true rfl) ?_
    intro RA S
    rw [e_D_placeOf] at h
    refine S.2 _ ?_ 700 0 _ _ (ck1_of rfl) h
    intro k ls s h
    replace h := cbr_c h
    rcases h with ⟨hb, h⟩ | ⟨_, h⟩
    · cases beq_t hb
      exact a_D_placeOf_4 S.1 h (n_D_placeOf_4 S gF)
    cases h
  · cases h
set_option maxRecDepth 1000000 in
theorem k_D_before : okC 7 I_D_before.2.2.1 I_D_before.2.1 I_D_before.2.2.2.1 [5] K_D_before K_D_before = true := by decide +kernel
theorem a_D_before_4 {z : Int32 × Mem} {RA : Nat → List (Option Value) → Mem → Prop} (hm : ∀ (pc : Nat) (ls ls1 : List (Option Value)) (σ : Mem), ls1.length = I_D_before.2.2.1 → (∀ i v, lk ls1 i = some v → lk ls i = some v) → RA pc ls1 σ → RA pc ls σ) {f : Int32 → Int32 → Int32 → Int32 → Mem → Option (Int32 × Mem)} {ls : List (Option Value)} {s : Mem} (h : A_D_before_4 f ls s = some z) (hf : ∀ (x1 : Int32) (x2 : Int32) (x3 : Int32) (x4 : Int32) (s : Mem), f x1 x2 x3 x4 s = some z → RA 5 [some (.ref 26), some (.int x1), some (.int x2), some (.int x3), some (.int x4)] s) : RA 5 ls s := by
  unfold A_D_before_4 at h
  split at h
  · rename_i a0 a1 a2 a3 a4 e0 e1 e2 e3 e4
    replace h := cbr_n h
    obtain ⟨hb, h⟩ := h
    cases beq_t hb
    refine hm _ _ [some (.ref 26), some (.int a1), some (.int a2), some (.int a3), some (.int a4)] _ rfl (fun i v hv => ?_) (hf _ _ _ _ _ h)
    match i, hv with
    | 0, hv => exact e0.trans hv
    | 1, hv => exact e1.trans hv
    | 2, hv => exact e2.trans hv
    | 3, hv => exact e3.trans hv
    | 4, hv => exact e4.trans hv
    | i + 5, hv => cases hv
  · cases h
theorem n_D_before_4 {z : Int32 × Mem} {RA : Nat → List (Option Value) → Mem → Prop} (S : Sm I_D_before C_D_before K_D_before [5] z RA) : ∀ (n : Nat) (x1 : Int32) (x2 : Int32) (x3 : Int32) (x4 : Int32) (s : Mem), F_D_before_4 n x1 x2 x3 x4 s = some z → RA 5 [some (.ref 26), some (.int x1), some (.int x2), some (.int x3), some (.int x4)] s := by
  intro n
  induction n with
  | zero => intro x1 x2 x3 x4 s h; exact nomatch (show (none : Option (Int32 × Mem)) = some z from h)
  | succ n ih =>
    intro x1 x2 x3 x4 s h
    rw [e_D_before_4] at h
    refine S.2 _ ?_ 700 5 _ _ (ck1_of rfl) h
    intro k ls s h
    replace h := cbr_c h
    rcases h with ⟨hb, h⟩ | ⟨_, h⟩
    · cases beq_t hb
      exact a_D_before_4 S.1 h ih
    cases h
theorem l_D_before (d : Nat) (k : Nat) (av : List Value) (s : Mem) (y : Int32 × Mem) (h : C_D_before k av s = some y) : Ctr (d + 2) (mtab k) av s y ∧ ((mtab k).2.2.2.2.2 = 77 → ∃ b rest, av = .ref b :: rest ∧ (b = 1001 ∨ b = 1002)) := by
  unfold C_D_before at h
  replace h := cbr_c h
  rcases h with ⟨hb, h⟩ | ⟨_, h⟩
  · cases beq_t hb
    exact ⟨c_W_at h (d + 0), fun q => absurd q (by decide)⟩
  replace h := cbr_c h
  rcases h with ⟨hb, h⟩ | ⟨_, h⟩
  · cases beq_t hb
    exact ⟨c_D_placeOf h (d + 1), fun q => absurd q (by decide)⟩
  cases h
theorem c_D_before {av : List Value} {s : Mem} {z : Int32 × Mem} (h : A_D_before av s = some z) (d : Nat) : Ctr (d + 3) I_D_before av s z := by
  unfold A_D_before at h
  split at h
  · replace h := cbr_n h
    obtain ⟨hb, h⟩ := h
    cases beq_t hb
    refine ctr_of (d := d + 2) (own := 7) (kps := [5]) (code := K_D_before) (Cl := C_D_before) o_D_before rfl (by decide) k_D_before (l_D_before d) (c1_of rfl) (Nat.le_of_ble_eq_true rfl) ?_
    intro RA S
    rw [e_D_before] at h
    refine S.2 _ ?_ 700 0 _ _ (ck1_of rfl) h
    intro k ls s h
    replace h := cbr_c h
    rcases h with ⟨hb, h⟩ | ⟨_, h⟩
    · cases beq_t hb
      exact a_D_before_4 S.1 h (n_D_before_4 S gF)
    cases h
  · cases h
set_option maxRecDepth 1000000 in
theorem k_D_isAhead : okC 7 I_D_isAhead.2.2.1 I_D_isAhead.2.1 I_D_isAhead.2.2.2.1 [2, 9] K_D_isAhead K_D_isAhead = true := by decide +kernel
theorem a_D_isAhead_2 {z : Int32 × Mem} {RA : Nat → List (Option Value) → Mem → Prop} (hm : ∀ (pc : Nat) (ls ls1 : List (Option Value)) (σ : Mem), ls1.length = I_D_isAhead.2.2.1 → (∀ i v, lk ls1 i = some v → lk ls i = some v) → RA pc ls1 σ → RA pc ls σ) {f : Int32 → Int32 → Mem → Option (Int32 × Mem)} {ls : List (Option Value)} {s : Mem} (h : A_D_isAhead_2 f ls s = some z) (hf : ∀ (x1 : Int32) (x2 : Int32) (s : Mem), f x1 x2 s = some z → RA 2 [some (.ref 26), some (.int x1), some (.int x2), none, none] s) : RA 2 ls s := by
  unfold A_D_isAhead_2 at h
  split at h
  · rename_i a0 a1 a2 e0 e1 e2
    replace h := cbr_n h
    obtain ⟨hb, h⟩ := h
    cases beq_t hb
    refine hm _ _ [some (.ref 26), some (.int a1), some (.int a2), none, none] _ rfl (fun i v hv => ?_) (hf _ _ _ h)
    match i, hv with
    | 0, hv => exact e0.trans hv
    | 1, hv => exact e1.trans hv
    | 2, hv => exact e2.trans hv
    | 3, hv => cases hv
    | 4, hv => cases hv
    | i + 5, hv => cases hv
  · cases h
theorem a_D_isAhead_7 {z : Int32 × Mem} {RA : Nat → List (Option Value) → Mem → Prop} (hm : ∀ (pc : Nat) (ls ls1 : List (Option Value)) (σ : Mem), ls1.length = I_D_isAhead.2.2.1 → (∀ i v, lk ls1 i = some v → lk ls i = some v) → RA pc ls1 σ → RA pc ls σ) {f : Int32 → Int32 → Int32 → Mem → Option (Int32 × Mem)} {ls : List (Option Value)} {s : Mem} (h : A_D_isAhead_7 f ls s = some z) (hf : ∀ (x1 : Int32) (x2 : Int32) (x3 : Int32) (s : Mem), f x1 x2 x3 s = some z → RA 9 [some (.ref 26), some (.int x1), some (.int x2), some (.int x3), none] s) : RA 9 ls s := by
  unfold A_D_isAhead_7 at h
  split at h
  · rename_i a0 a1 a2 a3 e0 e1 e2 e3
    replace h := cbr_n h
    obtain ⟨hb, h⟩ := h
    cases beq_t hb
    refine hm _ _ [some (.ref 26), some (.int a1), some (.int a2), some (.int a3), none] _ rfl (fun i v hv => ?_) (hf _ _ _ _ h)
    match i, hv with
    | 0, hv => exact e0.trans hv
    | 1, hv => exact e1.trans hv
    | 2, hv => exact e2.trans hv
    | 3, hv => exact e3.trans hv
    | 4, hv => cases hv
    | i + 5, hv => cases hv
  · cases h
theorem n_D_isAhead_7 {z : Int32 × Mem} {RA : Nat → List (Option Value) → Mem → Prop} (S : Sm I_D_isAhead C_D_isAhead K_D_isAhead [2, 9] z RA) {k2 : Int32 → Int32 → Mem → Option (Int32 × Mem)} (hk2 : ∀ (x1 : Int32) (x2 : Int32) (s : Mem), k2 x1 x2 s = some z → RA 2 [some (.ref 26), some (.int x1), some (.int x2), none, none] s) : ∀ (n : Nat) (x1 : Int32) (x2 : Int32) (x3 : Int32) (s : Mem), F_D_isAhead_7 k2 n x1 x2 x3 s = some z → RA 9 [some (.ref 26), some (.int x1), some (.int x2), some (.int x3), none] s := by
  intro n
  induction n with
  | zero => intro x1 x2 x3 s h; exact nomatch (show (none : Option (Int32 × Mem)) = some z from h)
  | succ n ih =>
    intro x1 x2 x3 s h
    rw [e_D_isAhead_7] at h
    refine S.2 _ ?_ 700 9 _ _ (ck1_of rfl) h
    intro k ls s h
    replace h := cbr_c h
    rcases h with ⟨hb, h⟩ | ⟨_, h⟩
    · cases beq_t hb
      exact a_D_isAhead_2 S.1 h hk2
    replace h := cbr_c h
    rcases h with ⟨hb, h⟩ | ⟨_, h⟩
    · cases beq_t hb
      exact a_D_isAhead_7 S.1 h ih
    cases h
theorem n_D_isAhead_2 {z : Int32 × Mem} {RA : Nat → List (Option Value) → Mem → Prop} (S : Sm I_D_isAhead C_D_isAhead K_D_isAhead [2, 9] z RA) : ∀ (n : Nat) (x1 : Int32) (x2 : Int32) (s : Mem), F_D_isAhead_2 n x1 x2 s = some z → RA 2 [some (.ref 26), some (.int x1), some (.int x2), none, none] s := by
  intro n
  induction n with
  | zero => intro x1 x2 s h; exact nomatch (show (none : Option (Int32 × Mem)) = some z from h)
  | succ n ih =>
    intro x1 x2 s h
    rw [e_D_isAhead_2] at h
    refine S.2 _ ?_ 700 3 _ _ (ck1_of rfl) h
    intro k ls s h
    replace h := cbr_c h
    rcases h with ⟨hb, h⟩ | ⟨_, h⟩
    · cases beq_t hb
      exact a_D_isAhead_7 S.1 h (n_D_isAhead_7 S ih gF)
    cases h
theorem l_D_isAhead (d : Nat) (k : Nat) (av : List Value) (s : Mem) (y : Int32 × Mem) (h : C_D_isAhead k av s = some y) : Ctr (d + 3) (mtab k) av s y ∧ ((mtab k).2.2.2.2.2 = 77 → ∃ b rest, av = .ref b :: rest ∧ (b = 1001 ∨ b = 1002)) := by
  unfold C_D_isAhead at h
  replace h := cbr_c h
  rcases h with ⟨hb, h⟩ | ⟨_, h⟩
  · cases beq_t hb
    exact ⟨c_D_before h (d + 0), fun q => absurd q (by decide)⟩
  cases h
theorem c_D_isAhead {av : List Value} {s : Mem} {z : Int32 × Mem} (h : A_D_isAhead av s = some z) (d : Nat) : Ctr (d + 4) I_D_isAhead av s z := by
  unfold A_D_isAhead at h
  split at h
  · replace h := cbr_n h
    obtain ⟨hb, h⟩ := h
    cases beq_t hb
    refine ctr_of (d := d + 3) (own := 7) (kps := [2, 9]) (code := K_D_isAhead) (Cl := C_D_isAhead) o_D_isAhead rfl (by decide) k_D_isAhead (l_D_isAhead d) (c1_of rfl) (Nat.le_of_ble_eq_true rfl) ?_
    intro RA S
    rw [e_D_isAhead] at h
    refine S.2 _ ?_ 700 0 _ _ (ck1_of rfl) h
    intro k ls s h
    replace h := cbr_c h
    rcases h with ⟨hb, h⟩ | ⟨_, h⟩
    · cases beq_t hb
      exact a_D_isAhead_2 S.1 h (n_D_isAhead_2 S gF)
    cases h
  · cases h
set_option maxRecDepth 1000000 in
theorem k_D_winner : okC 7 I_D_winner.2.2.1 I_D_winner.2.1 I_D_winner.2.2.2.1 [2] K_D_winner K_D_winner = true := by decide +kernel
theorem a_D_winner_2 {z : Int32 × Mem} {RA : Nat → List (Option Value) → Mem → Prop} (hm : ∀ (pc : Nat) (ls ls1 : List (Option Value)) (σ : Mem), ls1.length = I_D_winner.2.2.1 → (∀ i v, lk ls1 i = some v → lk ls i = some v) → RA pc ls1 σ → RA pc ls σ) {f : Int32 → Mem → Option (Int32 × Mem)} {ls : List (Option Value)} {s : Mem} (h : A_D_winner_2 f ls s = some z) (hf : ∀ (x1 : Int32) (s : Mem), f x1 s = some z → RA 2 [some (.ref 26), some (.int x1)] s) : RA 2 ls s := by
  unfold A_D_winner_2 at h
  split at h
  · rename_i a0 a1 e0 e1
    replace h := cbr_n h
    obtain ⟨hb, h⟩ := h
    cases beq_t hb
    refine hm _ _ [some (.ref 26), some (.int a1)] _ rfl (fun i v hv => ?_) (hf _ _ h)
    match i, hv with
    | 0, hv => exact e0.trans hv
    | 1, hv => exact e1.trans hv
    | i + 2, hv => cases hv
  · cases h
theorem n_D_winner_2 {z : Int32 × Mem} {RA : Nat → List (Option Value) → Mem → Prop} (S : Sm I_D_winner C_D_winner K_D_winner [2] z RA) : ∀ (n : Nat) (x1 : Int32) (s : Mem), F_D_winner_2 n x1 s = some z → RA 2 [some (.ref 26), some (.int x1)] s := by
  intro n
  induction n with
  | zero => intro x1 s h; exact nomatch (show (none : Option (Int32 × Mem)) = some z from h)
  | succ n ih =>
    intro x1 s h
    rw [e_D_winner_2] at h
    refine S.2 _ ?_ 700 3 _ _ (ck1_of rfl) h
    intro k ls s h
    replace h := cbr_c h
    rcases h with ⟨hb, h⟩ | ⟨_, h⟩
    · cases beq_t hb
      exact a_D_winner_2 S.1 h ih
    cases h
theorem l_D_winner (d : Nat) (k : Nat) (av : List Value) (s : Mem) (y : Int32 × Mem) (h : C_D_winner k av s = some y) : Ctr (d + 4) (mtab k) av s y ∧ ((mtab k).2.2.2.2.2 = 77 → ∃ b rest, av = .ref b :: rest ∧ (b = 1001 ∨ b = 1002)) := by
  unfold C_D_winner at h
  replace h := cbr_c h
  rcases h with ⟨hb, h⟩ | ⟨_, h⟩
  · cases beq_t hb
    exact ⟨c_D_isAhead h (d + 0), fun q => absurd q (by decide)⟩
  cases h
theorem c_D_winner {av : List Value} {s : Mem} {z : Int32 × Mem} (h : A_D_winner av s = some z) (d : Nat) : Ctr (d + 5) I_D_winner av s z := by
  unfold A_D_winner at h
  split at h
  · replace h := cbr_n h
    obtain ⟨hb, h⟩ := h
    cases beq_t hb
    refine ctr_of (d := d + 4) (own := 7) (kps := [2]) (code := K_D_winner) (Cl := C_D_winner) o_D_winner rfl (by decide) k_D_winner (l_D_winner d) (c1_of rfl) (Nat.le_of_ble_eq_true rfl) ?_
    intro RA S
    rw [e_D_winner] at h
    refine S.2 _ ?_ 700 0 _ _ (ck1_of rfl) h
    intro k ls s h
    replace h := cbr_c h
    rcases h with ⟨hb, h⟩ | ⟨_, h⟩
    · cases beq_t hb
      exact a_D_winner_2 S.1 h (n_D_winner_2 S gF)
    cases h
  · cases h
set_option maxRecDepth 1000000 in
theorem k_D_topSet : okC 7 I_D_topSet.2.2.1 I_D_topSet.2.1 I_D_topSet.2.2.2.1 [7] K_D_topSet K_D_topSet = true := by decide +kernel
theorem a_D_topSet_6 {z : Int32 × Mem} {RA : Nat → List (Option Value) → Mem → Prop} (hm : ∀ (pc : Nat) (ls ls1 : List (Option Value)) (σ : Mem), ls1.length = I_D_topSet.2.2.1 → (∀ i v, lk ls1 i = some v → lk ls i = some v) → RA pc ls1 σ → RA pc ls σ) {f : Int32 → Int32 → Int32 → Mem → Option (Int32 × Mem)} {ls : List (Option Value)} {s : Mem} (h : A_D_topSet_6 f ls s = some z) (hf : ∀ (x1 : Int32) (x2 : Int32) (x3 : Int32) (s : Mem), f x1 x2 x3 s = some z → RA 7 [some (.ref 26), some (.int x1), some (.int x2), some (.int x3)] s) : RA 7 ls s := by
  unfold A_D_topSet_6 at h
  split at h
  · rename_i a0 a1 a2 a3 e0 e1 e2 e3
    replace h := cbr_n h
    obtain ⟨hb, h⟩ := h
    cases beq_t hb
    refine hm _ _ [some (.ref 26), some (.int a1), some (.int a2), some (.int a3)] _ rfl (fun i v hv => ?_) (hf _ _ _ _ h)
    match i, hv with
    | 0, hv => exact e0.trans hv
    | 1, hv => exact e1.trans hv
    | 2, hv => exact e2.trans hv
    | 3, hv => exact e3.trans hv
    | i + 4, hv => cases hv
  · cases h
theorem n_D_topSet_6 {z : Int32 × Mem} {RA : Nat → List (Option Value) → Mem → Prop} (S : Sm I_D_topSet C_D_topSet K_D_topSet [7] z RA) : ∀ (n : Nat) (x1 : Int32) (x2 : Int32) (x3 : Int32) (s : Mem), F_D_topSet_6 n x1 x2 x3 s = some z → RA 7 [some (.ref 26), some (.int x1), some (.int x2), some (.int x3)] s := by
  intro n
  induction n with
  | zero => intro x1 x2 x3 s h; exact nomatch (show (none : Option (Int32 × Mem)) = some z from h)
  | succ n ih =>
    intro x1 x2 x3 s h
    rw [e_D_topSet_6] at h
    refine S.2 _ ?_ 700 7 _ _ (ck1_of rfl) h
    intro k ls s h
    replace h := cbr_c h
    rcases h with ⟨hb, h⟩ | ⟨_, h⟩
    · cases beq_t hb
      exact a_D_topSet_6 S.1 h ih
    cases h
theorem l_D_topSet (d : Nat) (k : Nat) (av : List Value) (s : Mem) (y : Int32 × Mem) (h : C_D_topSet k av s = some y) : Ctr (d + 4) (mtab k) av s y ∧ ((mtab k).2.2.2.2.2 = 77 → ∃ b rest, av = .ref b :: rest ∧ (b = 1001 ∨ b = 1002)) := by
  unfold C_D_topSet at h
  replace h := cbr_c h
  rcases h with ⟨hb, h⟩ | ⟨_, h⟩
  · cases beq_t hb
    exact ⟨c_JI_bitCount h (d + 3), fun q => absurd q (by decide)⟩
  replace h := cbr_c h
  rcases h with ⟨hb, h⟩ | ⟨_, h⟩
  · cases beq_t hb
    exact ⟨c_D_isAhead h (d + 0), fun q => absurd q (by decide)⟩
  cases h
theorem c_D_topSet {av : List Value} {s : Mem} {z : Int32 × Mem} (h : A_D_topSet av s = some z) (d : Nat) : Ctr (d + 5) I_D_topSet av s z := by
  unfold A_D_topSet at h
  split at h
  · replace h := cbr_n h
    obtain ⟨hb, h⟩ := h
    cases beq_t hb
    refine ctr_of (d := d + 4) (own := 7) (kps := [7]) (code := K_D_topSet) (Cl := C_D_topSet) o_D_topSet rfl (by decide) k_D_topSet (l_D_topSet d) (c1_of rfl) (Nat.le_of_ble_eq_true rfl) ?_
    intro RA S
    rw [e_D_topSet] at h
    refine S.2 _ ?_ 700 0 _ _ (ck1_of rfl) h
    intro k ls s h
    replace h := cbr_c h
    rcases h with ⟨hb, h⟩ | ⟨_, h⟩
    · cases beq_t hb
      exact a_D_topSet_6 S.1 h (n_D_topSet_6 S gF)
    cases h
  · cases h
set_option maxRecDepth 1000000 in
theorem k_D_agreedCouples : okC 7 I_D_agreedCouples.2.2.1 I_D_agreedCouples.2.1 I_D_agreedCouples.2.2.2.1 [13, 20] K_D_agreedCouples K_D_agreedCouples = true := by decide +kernel
theorem a_D_agreedCouples_9 {z : Int32 × Mem} {RA : Nat → List (Option Value) → Mem → Prop} (hm : ∀ (pc : Nat) (ls ls1 : List (Option Value)) (σ : Mem), ls1.length = I_D_agreedCouples.2.2.1 → (∀ i v, lk ls1 i = some v → lk ls i = some v) → RA pc ls1 σ → RA pc ls σ) {f : Int32 → Int32 → Mem → Option (Int32 × Mem)} {ls : List (Option Value)} {s : Mem} (h : A_D_agreedCouples_9 f ls s = some z) (hf : ∀ (x1 : Int32) (x2 : Int32) (s : Mem), f x1 x2 s = some z → RA 13 [some (.ref 26), some (.int x1), some (.int x2), none] s) : RA 13 ls s := by
  unfold A_D_agreedCouples_9 at h
  split at h
  · rename_i a0 a1 a2 e0 e1 e2
    replace h := cbr_n h
    obtain ⟨hb, h⟩ := h
    cases beq_t hb
    refine hm _ _ [some (.ref 26), some (.int a1), some (.int a2), none] _ rfl (fun i v hv => ?_) (hf _ _ _ h)
    match i, hv with
    | 0, hv => exact e0.trans hv
    | 1, hv => exact e1.trans hv
    | 2, hv => exact e2.trans hv
    | 3, hv => cases hv
    | i + 4, hv => cases hv
  · cases h
theorem a_D_agreedCouples_14 {z : Int32 × Mem} {RA : Nat → List (Option Value) → Mem → Prop} (hm : ∀ (pc : Nat) (ls ls1 : List (Option Value)) (σ : Mem), ls1.length = I_D_agreedCouples.2.2.1 → (∀ i v, lk ls1 i = some v → lk ls i = some v) → RA pc ls1 σ → RA pc ls σ) {f : Int32 → Int32 → Int32 → Mem → Option (Int32 × Mem)} {ls : List (Option Value)} {s : Mem} (h : A_D_agreedCouples_14 f ls s = some z) (hf : ∀ (x1 : Int32) (x2 : Int32) (x3 : Int32) (s : Mem), f x1 x2 x3 s = some z → RA 20 [some (.ref 26), some (.int x1), some (.int x2), some (.int x3)] s) : RA 20 ls s := by
  unfold A_D_agreedCouples_14 at h
  split at h
  · rename_i a0 a1 a2 a3 e0 e1 e2 e3
    replace h := cbr_n h
    obtain ⟨hb, h⟩ := h
    cases beq_t hb
    refine hm _ _ [some (.ref 26), some (.int a1), some (.int a2), some (.int a3)] _ rfl (fun i v hv => ?_) (hf _ _ _ _ h)
    match i, hv with
    | 0, hv => exact e0.trans hv
    | 1, hv => exact e1.trans hv
    | 2, hv => exact e2.trans hv
    | 3, hv => exact e3.trans hv
    | i + 4, hv => cases hv
  · cases h
theorem n_D_agreedCouples_14 {z : Int32 × Mem} {RA : Nat → List (Option Value) → Mem → Prop} (S : Sm I_D_agreedCouples C_D_agreedCouples K_D_agreedCouples [13, 20] z RA) {k9 : Int32 → Int32 → Mem → Option (Int32 × Mem)} (hk9 : ∀ (x1 : Int32) (x2 : Int32) (s : Mem), k9 x1 x2 s = some z → RA 13 [some (.ref 26), some (.int x1), some (.int x2), none] s) : ∀ (n : Nat) (x1 : Int32) (x2 : Int32) (x3 : Int32) (s : Mem), F_D_agreedCouples_14 k9 n x1 x2 x3 s = some z → RA 20 [some (.ref 26), some (.int x1), some (.int x2), some (.int x3)] s := by
  intro n
  induction n with
  | zero => intro x1 x2 x3 s h; exact nomatch (show (none : Option (Int32 × Mem)) = some z from h)
  | succ n ih =>
    intro x1 x2 x3 s h
    rw [e_D_agreedCouples_14] at h
    refine S.2 _ ?_ 700 16 _ _ (ck1_of rfl) h
    intro k ls s h
    replace h := cbr_c h
    rcases h with ⟨hb, h⟩ | ⟨_, h⟩
    · cases beq_t hb
      exact a_D_agreedCouples_9 S.1 h hk9
    replace h := cbr_c h
    rcases h with ⟨hb, h⟩ | ⟨_, h⟩
    · cases beq_t hb
      exact a_D_agreedCouples_14 S.1 h ih
    cases h
theorem n_D_agreedCouples_9 {z : Int32 × Mem} {RA : Nat → List (Option Value) → Mem → Prop} (S : Sm I_D_agreedCouples C_D_agreedCouples K_D_agreedCouples [13, 20] z RA) : ∀ (n : Nat) (x1 : Int32) (x2 : Int32) (s : Mem), F_D_agreedCouples_9 n x1 x2 s = some z → RA 13 [some (.ref 26), some (.int x1), some (.int x2), none] s := by
  intro n
  induction n with
  | zero => intro x1 x2 s h; exact nomatch (show (none : Option (Int32 × Mem)) = some z from h)
  | succ n ih =>
    intro x1 x2 s h
    rw [e_D_agreedCouples_9] at h
    refine S.2 _ ?_ 700 10 _ _ (ck1_of rfl) h
    intro k ls s h
    replace h := cbr_c h
    rcases h with ⟨hb, h⟩ | ⟨_, h⟩
    · cases beq_t hb
      exact a_D_agreedCouples_14 S.1 h (n_D_agreedCouples_14 S ih gF)
    cases h
theorem l_D_agreedCouples (d : Nat) (k : Nat) (av : List Value) (s : Mem) (y : Int32 × Mem) (h : C_D_agreedCouples k av s = some y) : Ctr (d + 3) (mtab k) av s y ∧ ((mtab k).2.2.2.2.2 = 77 → ∃ b rest, av = .ref b :: rest ∧ (b = 1001 ∨ b = 1002)) := by
  unfold C_D_agreedCouples at h
  replace h := cbr_c h
  rcases h with ⟨hb, h⟩ | ⟨_, h⟩
  · cases beq_t hb
    exact ⟨c_D_before h (d + 0), fun q => absurd q (by decide)⟩
  cases h
theorem c_D_agreedCouples {av : List Value} {s : Mem} {z : Int32 × Mem} (h : A_D_agreedCouples av s = some z) (d : Nat) : Ctr (d + 4) I_D_agreedCouples av s z := by
  unfold A_D_agreedCouples at h
  split at h
  · replace h := cbr_n h
    obtain ⟨hb, h⟩ := h
    cases beq_t hb
    refine ctr_of (d := d + 3) (own := 7) (kps := [13, 20]) (code := K_D_agreedCouples) (Cl := C_D_agreedCouples) o_D_agreedCouples rfl (by decide) k_D_agreedCouples (l_D_agreedCouples d) (c1_of rfl) (Nat.le_of_ble_eq_true rfl) ?_
    intro RA S
    rw [e_D_agreedCouples] at h
    refine S.2 _ ?_ 700 0 _ _ (ck1_of rfl) h
    intro k ls s h
    replace h := cbr_c h
    rcases h with ⟨hb, h⟩ | ⟨_, h⟩
    · cases beq_t hb
      exact a_D_agreedCouples_9 S.1 h (n_D_agreedCouples_9 S gF)
    cases h
  · cases h
set_option maxRecDepth 1000000 in
theorem k_C_signs : okC 10 I_C_signs.2.2.1 I_C_signs.2.1 I_C_signs.2.2.2.1 [] K_C_signs K_C_signs = true := by decide +kernel
theorem l_C_signs (d : Nat) (k : Nat) (av : List Value) (s : Mem) (y : Int32 × Mem) (h : C_C_signs k av s = some y) : Ctr (d + 5) (mtab k) av s y ∧ ((mtab k).2.2.2.2.2 = 77 → ∃ b rest, av = .ref b :: rest ∧ (b = 1001 ∨ b = 1002)) := by
  unfold C_C_signs at h
  replace h := cbr_c h
  rcases h with ⟨hb, h⟩ | ⟨_, h⟩
  · cases beq_t hb
    exact ⟨c_D_winner h (d + 0), fun q => absurd q (by decide)⟩
  replace h := cbr_c h
  rcases h with ⟨hb, h⟩ | ⟨_, h⟩
  · cases beq_t hb
    exact ⟨c_D_topSet h (d + 0), fun q => absurd q (by decide)⟩
  replace h := cbr_c h
  rcases h with ⟨hb, h⟩ | ⟨_, h⟩
  · cases beq_t hb
    exact ⟨c_D_agreedCouples h (d + 1), fun q => absurd q (by decide)⟩
  cases h
theorem c_C_signs {av : List Value} {s : Mem} {z : Int32 × Mem} (h : A_C_signs av s = some z) (d : Nat) : Ctr (d + 6) I_C_signs av s z := by
  unfold A_C_signs at h
  split at h
  · replace h := cbr_n h
    obtain ⟨hb, h⟩ := h
    cases beq_t hb
    refine ctr_of (d := d + 5) (own := 10) (kps := []) (code := K_C_signs) (Cl := C_C_signs) o_C_signs rfl (by decide) k_C_signs (l_C_signs d) (c1_of rfl) (Nat.le_of_ble_eq_true rfl) ?_
    intro RA S
    rw [e_C_signs] at h
    refine S.2 _ ?_ 700 0 _ _ (ck1_of rfl) h
    intro k ls s h
    cases h
  · cases h
