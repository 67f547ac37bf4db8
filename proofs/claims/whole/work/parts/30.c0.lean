set_option maxRecDepth 1000000 in
theorem k_C_forgetDeeds : okC 10 I_C_forgetDeeds.2.2.1 I_C_forgetDeeds.2.1 I_C_forgetDeeds.2.2.2.1 [] K_C_forgetDeeds K_C_forgetDeeds = true := by decide +kernel
theorem l_C_forgetDeeds (d : Nat) (k : Nat) (av : List Value) (s : Mem) (y : Int32 × Mem) (h : C_C_forgetDeeds k av s = some y) : Ctr (d + 0) (mtab k) av s y ∧ ((mtab k).2.2.2.2.2 = 77 → ∃ b rest, av = .ref b :: rest ∧ (b = 1001 ∨ b = 1002)) := by
  exact nomatch (show (none : Option (Int32 × Mem)) = some y from h)
theorem c_C_forgetDeeds {av : List Value} {s : Mem} {z : Int32 × Mem} (h : A_C_forgetDeeds av s = some z) (d : Nat) : Ctr (d + 1) I_C_forgetDeeds av s z := by
  unfold A_C_forgetDeeds at h
  split at h
  · replace h := cbr_n h
    obtain ⟨hb, h⟩ := h
    cases beq_t hb
    refine ctr_of (d := d + 0) (own := 10) (kps := []) (code := K_C_forgetDeeds) (Cl := C_C_forgetDeeds) o_C_forgetDeeds rfl (by decide) k_C_forgetDeeds (l_C_forgetDeeds d) (c1_of rfl) (Nat.le_of_ble_eq_true rfl) ?_
    intro RA S
    rw [e_C_forgetDeeds] at h
    refine S.2 _ ?_ 700 0 _ _ (ck1_of rfl) h
    intro k ls s h
    cases h
  · cases h
set_option maxRecDepth 1000000 in
theorem k_C_state : okC 10 I_C_state.2.2.1 I_C_state.2.1 I_C_state.2.2.2.1 [] K_C_state K_C_state = true := by decide +kernel
theorem l_C_state (d : Nat) (k : Nat) (av : List Value) (s : Mem) (y : Int32 × Mem) (h : C_C_state k av s = some y) : Ctr (d + 1) (mtab k) av s y ∧ ((mtab k).2.2.2.2.2 = 77 → ∃ b rest, av = .ref b :: rest ∧ (b = 1001 ∨ b = 1002)) := by
  unfold C_C_state at h
  replace h := cbr_c h
  rcases h with ⟨hb, h⟩ | ⟨_, h⟩
  · cases beq_t hb
    exact ⟨c_C_forgetDeeds h (d + 0), fun q => absurd q (by decide)⟩
  cases h
theorem c_C_state {av : List Value} {s : Mem} {z : Int32 × Mem} (h : A_C_state av s = some z) (d : Nat) : Ctr (d + 2) I_C_state av s z := by
  unfold A_C_state at h
  split at h
  · replace h := cbr_n h
    obtain ⟨hb, h⟩ := h
    cases beq_t hb
    refine ctr_of (d := d + 1) (own := 10) (kps := []) (code := K_C_state) (Cl := C_C_state) o_C_state rfl (by decide) k_C_state (l_C_state d) (c1_of rfl) (Nat.le_of_ble_eq_true rfl) ?_
    intro RA S
    rw [e_C_state] at h
    refine S.2 _ ?_ 700 0 _ _ (ck1_of rfl) h
    intro k ls s h
    cases h
  · cases h
set_option maxRecDepth 1000000 in
theorem k_C_within : okC 10 I_C_within.2.2.1 I_C_within.2.1 I_C_within.2.2.2.1 [] K_C_within K_C_within = true := by decide +kernel
theorem l_C_within (d : Nat) (k : Nat) (av : List Value) (s : Mem) (y : Int32 × Mem) (h : C_C_within k av s = some y) : Ctr (d + 0) (mtab k) av s y ∧ ((mtab k).2.2.2.2.2 = 77 → ∃ b rest, av = .ref b :: rest ∧ (b = 1001 ∨ b = 1002)) := by
  exact nomatch (show (none : Option (Int32 × Mem)) = some y from h)
theorem c_C_within {av : List Value} {s : Mem} {z : Int32 × Mem} (h : A_C_within av s = some z) (d : Nat) : Ctr (d + 1) I_C_within av s z := by
  unfold A_C_within at h
  split at h
  · refine ctr_of (d := d + 0) (own := 10) (kps := []) (code := K_C_within) (Cl := C_C_within) o_C_within rfl (by decide) k_C_within (l_C_within d) (c1_of rfl) (Nat.le_of_ble_eq_true rfl) ?_
    intro RA S
    rw [e_C_within] at h
    refine S.2 _ ?_ 700 0 _ _ (ck1_of rfl) h
    intro k ls s h
    cases h
  · cases h
set_option maxRecDepth 1000000 in
theorem k_H_isHeight : okC 1 I_H_isHeight.2.2.1 I_H_isHeight.2.1 I_H_isHeight.2.2.2.1 [] K_H_isHeight K_H_isHeight = true := by decide +kernel
theorem l_H_isHeight (d : Nat) (k : Nat) (av : List Value) (s : Mem) (y : Int32 × Mem) (h : C_H_isHeight k av s = some y) : Ctr (d + 1) (mtab k) av s y ∧ ((mtab k).2.2.2.2.2 = 77 → ∃ b rest, av = .ref b :: rest ∧ (b = 1001 ∨ b = 1002)) := by
  unfold C_H_isHeight at h
  replace h := cbr_c h
  rcases h with ⟨hb, h⟩ | ⟨_, h⟩
  · cases beq_t hb
    exact ⟨c_C_within h (d + 0), fun q => absurd q (by decide)⟩
  cases h
theorem c_H_isHeight {av : List Value} {s : Mem} {z : Int32 × Mem} (h : A_H_isHeight av s = some z) (d : Nat) : Ctr (d + 2) I_H_isHeight av s z := by
  unfold A_H_isHeight at h
  split at h
  · refine ctr_of (d := d + 1) (own := 1) (kps := []) (code := K_H_isHeight) (Cl := C_H_isHeight) o_H_isHeight rfl (by decide) k_H_isHeight (l_H_isHeight d) (c1_of rfl) (Nat.le_of_ble_eq_true rfl) ?_
    intro RA S
    rw [e_H_isHeight] at h
    refine S.2 _ ?_ 700 0 _ _ (ck1_of rfl) h
    intro k ls s h
    cases h
  · cases h
set_option maxRecDepth 1000000 in
theorem k_H_put : okC 1 I_H_put.2.2.1 I_H_put.2.1 I_H_put.2.2.2.1 [] K_H_put K_H_put = true := by decide +kernel
theorem l_H_put (d : Nat) (k : Nat) (av : List Value) (s : Mem) (y : Int32 × Mem) (h : C_H_put k av s = some y) : Ctr (d + 0) (mtab k) av s y ∧ ((mtab k).2.2.2.2.2 = 77 → ∃ b rest, av = .ref b :: rest ∧ (b = 1001 ∨ b = 1002)) := by
  exact nomatch (show (none : Option (Int32 × Mem)) = some y from h)
theorem c_H_put {av : List Value} {s : Mem} {z : Int32 × Mem} (h : A_H_put av s = some z) (d : Nat) : Ctr (d + 1) I_H_put av s z := by
  unfold A_H_put at h
  split at h
  · refine ctr_of (d := d + 0) (own := 1) (kps := []) (code := K_H_put) (Cl := C_H_put) o_H_put rfl (by decide) k_H_put (l_H_put d) (c1_of rfl) (Nat.le_of_ble_eq_true rfl) ?_
    intro RA S
    rw [e_H_put] at h
    refine S.2 _ ?_ 700 0 _ _ (ck1_of rfl) h
    intro k ls s h
    cases h
  · cases h
set_option maxRecDepth 1000000 in
theorem k_H_build : okC 1 I_H_build.2.2.1 I_H_build.2.1 I_H_build.2.2.2.1 [39] K_H_build K_H_build = true := by decide +kernel
theorem a_H_build_24 {z : Int32 × Mem} {RA : Nat → List (Option Value) → Mem → Prop} (hm : ∀ (pc : Nat) (ls ls1 : List (Option Value)) (σ : Mem), ls1.length = I_H_build.2.2.1 → (∀ i v, lk ls1 i = some v → lk ls i = some v) → RA pc ls1 σ → RA pc ls σ) {f : Int32 → Int32 → Int32 → Int32 → Mem → Option (Int32 × Mem)} {ls : List (Option Value)} {s : Mem} (h : A_H_build_24 f ls s = some z) (hf : ∀ (x1 : Int32) (x2 : Int32) (x3 : Int32) (x4 : Int32) (s : Mem), f x1 x2 x3 x4 s = some z → RA 39 [some (.ref 2), some (.int x1), some (.int x2), some (.int x3), some (.int x4)] s) : RA 39 ls s := by
  unfold A_H_build_24 at h
  split at h
  · rename_i a0 a1 a2 a3 a4 e0 e1 e2 e3 e4
    replace h := cbr_n h
    obtain ⟨hb, h⟩ := h
    cases beq_t hb
    refine hm _ _ [some (.ref 2), some (.int a1), some (.int a2), some (.int a3), some (.int a4)] _ rfl (fun i v hv => ?_) (hf _ _ _ _ _ h)
    match i, hv with
    | 0, hv => exact e0.trans hv
    | 1, hv => exact e1.trans hv
    | 2, hv => exact e2.trans hv
    | 3, hv => exact e3.trans hv
    | 4, hv => exact e4.trans hv
    | i + 5, hv => cases hv
  · cases h
theorem n_H_build_24 {z : Int32 × Mem} {RA : Nat → List (Option Value) → Mem → Prop} (S : Sm I_H_build C_H_build K_H_build [39] z RA) : ∀ (n : Nat) (x1 : Int32) (x2 : Int32) (x3 : Int32) (x4 : Int32) (s : Mem), F_H_build_24 n x1 x2 x3 x4 s = some z → RA 39 [some (.ref 2), some (.int x1), some (.int x2), some (.int x3), some (.int x4)] s := by
  intro n
  induction n with
  | zero => intro x1 x2 x3 x4 s h; exact nomatch (show (none : Option (Int32 × Mem)) = some z from h)
  | succ n ih =>
    intro x1 x2 x3 x4 s h
    rw [e_H_build_24] at h
    refine S.2 _ ?_ 700 25 _ _ (ck1_of rfl) h
    intro k ls s h
    replace h := cbr_c h
    rcases h with ⟨hb, h⟩ | ⟨_, h⟩
    · cases beq_t hb
      exact a_H_build_24 S.1 h ih
    cases h
theorem l_H_build (d : Nat) (k : Nat) (av : List Value) (s : Mem) (y : Int32 × Mem) (h : C_H_build k av s = some y) : Ctr (d + 1) (mtab k) av s y ∧ ((mtab k).2.2.2.2.2 = 77 → ∃ b rest, av = .ref b :: rest ∧ (b = 1001 ∨ b = 1002)) := by
  unfold C_H_build at h
  replace h := cbr_c h
  rcases h with ⟨hb, h⟩ | ⟨_, h⟩
  · cases beq_t hb
    exact ⟨c_C_within h (d + 0), fun q => absurd q (by decide)⟩
  replace h := cbr_c h
  rcases h with ⟨hb, h⟩ | ⟨_, h⟩
  · cases beq_t hb
    exact ⟨c_H_put h (d + 0), fun q => absurd q (by decide)⟩
  cases h
theorem c_H_build {av : List Value} {s : Mem} {z : Int32 × Mem} (h : A_H_build av s = some z) (d : Nat) : Ctr (d + 2) I_H_build av s z := by
  unfold A_H_build at h
  split at h
  · replace h := cbr_n h
    obtain ⟨hb, h⟩ := h
    cases beq_t hb
    refine ctr_of (d := d + 1) (own := 1) (kps := [39]) (code := K_H_build) (Cl := C_H_build) o_H_build rfl (by decide) k_H_build (l_H_build d) (c1_of rfl) (Nat.le_of_ble_eq_true rfl) ?_
    intro RA S
    rw [e_H_build] at h
    refine S.2 _ ?_ 700 0 _ _ (ck1_of rfl) h
    intro k ls s h
    replace h := cbr_c h
    rcases h with ⟨hb, h⟩ | ⟨_, h⟩
    · cases beq_t hb
      exact a_H_build_24 S.1 h (n_H_build_24 S gF)
    cases h
  · cases h
set_option maxRecDepth 1000000 in
theorem k_C_flight : okC 10 I_C_flight.2.2.1 I_C_flight.2.1 I_C_flight.2.2.2.1 [] K_C_flight K_C_flight = true := by decide +kernel
theorem l_C_flight (d : Nat) (k : Nat) (av : List Value) (s : Mem) (y : Int32 × Mem) (h : C_C_flight k av s = some y) : Ctr (d + 2) (mtab k) av s y ∧ ((mtab k).2.2.2.2.2 = 77 → ∃ b rest, av = .ref b :: rest ∧ (b = 1001 ∨ b = 1002)) := by
  unfold C_C_flight at h
  replace h := cbr_c h
  rcases h with ⟨hb, h⟩ | ⟨_, h⟩
  · cases beq_t hb
    exact ⟨c_H_isHeight h (d + 0), fun q => absurd q (by decide)⟩
  replace h := cbr_c h
  rcases h with ⟨hb, h⟩ | ⟨_, h⟩
  · cases beq_t hb
    exact ⟨c_C_within h (d + 1), fun q => absurd q (by decide)⟩
  replace h := cbr_c h
  rcases h with ⟨hb, h⟩ | ⟨_, h⟩
  · cases beq_t hb
    exact ⟨c_C_forgetDeeds h (d + 1), fun q => absurd q (by decide)⟩
  replace h := cbr_c h
  rcases h with ⟨hb, h⟩ | ⟨_, h⟩
  · cases beq_t hb
    exact ⟨c_H_build h (d + 0), fun q => absurd q (by decide)⟩
  cases h
theorem c_C_flight {av : List Value} {s : Mem} {z : Int32 × Mem} (h : A_C_flight av s = some z) (d : Nat) : Ctr (d + 3) I_C_flight av s z := by
  unfold A_C_flight at h
  split at h
  · replace h := cbr_n h
    obtain ⟨hb, h⟩ := h
    cases beq_t hb
    refine ctr_of (d := d + 2) (own := 10) (kps := []) (code := K_C_flight) (Cl := C_C_flight) o_C_flight rfl (by decide) k_C_flight (l_C_flight d) (c1_of rfl) (Nat.le_of_ble_eq_true rfl) ?_
    intro RA S
    rw [e_C_flight] at h
    refine S.2 _ ?_ 700 0 _ _ (ck1_of rfl) h
    intro k ls s h
    cases h
  · cases h
set_option maxRecDepth 1000000 in
theorem k_H_has1 : okC 1 I_H_has1.2.2.1 I_H_has1.2.1 I_H_has1.2.2.2.1 [] K_H_has1 K_H_has1 = true := by decide +kernel
theorem l_H_has1 (d : Nat) (k : Nat) (av : List Value) (s : Mem) (y : Int32 × Mem) (h : C_H_has1 k av s = some y) : Ctr (d + 1) (mtab k) av s y ∧ ((mtab k).2.2.2.2.2 = 77 → ∃ b rest, av = .ref b :: rest ∧ (b = 1001 ∨ b = 1002)) := by
  unfold C_H_has1 at h
  replace h := cbr_c h
  rcases h with ⟨hb, h⟩ | ⟨_, h⟩
  · cases beq_t hb
    exact ⟨c_C_within h (d + 0), fun q => absurd q (by decide)⟩
  cases h
theorem c_H_has1 {av : List Value} {s : Mem} {z : Int32 × Mem} (h : A_H_has1 av s = some z) (d : Nat) : Ctr (d + 2) I_H_has1 av s z := by
  unfold A_H_has1 at h
  split at h
  · replace h := cbr_n h
    obtain ⟨hb, h⟩ := h
    cases beq_t hb
    refine ctr_of (d := d + 1) (own := 1) (kps := []) (code := K_H_has1) (Cl := C_H_has1) o_H_has1 rfl (by decide) k_H_has1 (l_H_has1 d) (c1_of rfl) (Nat.le_of_ble_eq_true rfl) ?_
    intro RA S
    rw [e_H_has1] at h
    refine S.2 _ ?_ 700 0 _ _ (ck1_of rfl) h
    intro k ls s h
    cases h
  · cases h
set_option maxRecDepth 1000000 in
theorem k_H_size : okC 1 I_H_size.2.2.1 I_H_size.2.1 I_H_size.2.2.2.1 [] K_H_size K_H_size = true := by decide +kernel
theorem l_H_size (d : Nat) (k : Nat) (av : List Value) (s : Mem) (y : Int32 × Mem) (h : C_H_size k av s = some y) : Ctr (d + 1) (mtab k) av s y ∧ ((mtab k).2.2.2.2.2 = 77 → ∃ b rest, av = .ref b :: rest ∧ (b = 1001 ∨ b = 1002)) := by
  unfold C_H_size at h
  replace h := cbr_c h
  rcases h with ⟨hb, h⟩ | ⟨_, h⟩
  · cases beq_t hb
    exact ⟨c_C_within h (d + 0), fun q => absurd q (by decide)⟩
  cases h
theorem c_H_size {av : List Value} {s : Mem} {z : Int32 × Mem} (h : A_H_size av s = some z) (d : Nat) : Ctr (d + 2) I_H_size av s z := by
  unfold A_H_size at h
  split at h
  · refine ctr_of (d := d + 1) (own := 1) (kps := []) (code := K_H_size) (Cl := C_H_size) o_H_size rfl (by decide) k_H_size (l_H_size d) (c1_of rfl) (Nat.le_of_ble_eq_true rfl) ?_
    intro RA S
    rw [e_H_size] at h
    refine S.2 _ ?_ 700 0 _ _ (ck1_of rfl) h
    intro k ls s h
    cases h
  · cases h
set_option maxRecDepth 1000000 in
theorem k_H_has2 : okC 1 I_H_has2.2.2.1 I_H_has2.2.1 I_H_has2.2.2.2.1 [] K_H_has2 K_H_has2 = true := by decide +kernel
theorem l_H_has2 (d : Nat) (k : Nat) (av : List Value) (s : Mem) (y : Int32 × Mem) (h : C_H_has2 k av s = some y) : Ctr (d + 2) (mtab k) av s y ∧ ((mtab k).2.2.2.2.2 = 77 → ∃ b rest, av = .ref b :: rest ∧ (b = 1001 ∨ b = 1002)) := by
  unfold C_H_has2 at h
  replace h := cbr_c h
  rcases h with ⟨hb, h⟩ | ⟨_, h⟩
  · cases beq_t hb
    exact ⟨c_H_has1 h (d + 0), fun q => absurd q (by decide)⟩
  replace h := cbr_c h
  rcases h with ⟨hb, h⟩ | ⟨_, h⟩
  · cases beq_t hb
    exact ⟨c_H_size h (d + 0), fun q => absurd q (by decide)⟩
  replace h := cbr_c h
  rcases h with ⟨hb, h⟩ | ⟨_, h⟩
  · cases beq_t hb
    exact ⟨c_C_within h (d + 1), fun q => absurd q (by decide)⟩
  cases h
theorem c_H_has2 {av : List Value} {s : Mem} {z : Int32 × Mem} (h : A_H_has2 av s = some z) (d : Nat) : Ctr (d + 3) I_H_has2 av s z := by
  unfold A_H_has2 at h
  split at h
  · replace h := cbr_n h
    obtain ⟨hb, h⟩ := h
    cases beq_t hb
    refine ctr_of (d := d + 2) (own := 1) (kps := []) (code := K_H_has2) (Cl := C_H_has2) o_H_has2 rfl (by decide) k_H_has2 (l_H_has2 d) (c1_of rfl) (Nat.le_of_ble_eq_true rfl) ?_
    intro RA S
    rw [e_H_has2] at h
    refine S.2 _ ?_ 700 0 _ _ (ck1_of rfl) h
    intro k ls s h
    cases h
  · cases h
set_option maxRecDepth 1000000 in
theorem k_H_mayBeSet : okC 1 I_H_mayBeSet.2.2.1 I_H_mayBeSet.2.1 I_H_mayBeSet.2.2.2.1 [] K_H_mayBeSet K_H_mayBeSet = true := by decide +kernel
theorem l_H_mayBeSet (d : Nat) (k : Nat) (av : List Value) (s : Mem) (y : Int32 × Mem) (h : C_H_mayBeSet k av s = some y) : Ctr (d + 2) (mtab k) av s y ∧ ((mtab k).2.2.2.2.2 = 77 → ∃ b rest, av = .ref b :: rest ∧ (b = 1001 ∨ b = 1002)) := by
  unfold C_H_mayBeSet at h
  replace h := cbr_c h
  rcases h with ⟨hb, h⟩ | ⟨_, h⟩
  · cases beq_t hb
    exact ⟨c_H_isHeight h (d + 0), fun q => absurd q (by decide)⟩
  replace h := cbr_c h
  rcases h with ⟨hb, h⟩ | ⟨_, h⟩
  · cases beq_t hb
    exact ⟨c_C_within h (d + 1), fun q => absurd q (by decide)⟩
  cases h
theorem c_H_mayBeSet {av : List Value} {s : Mem} {z : Int32 × Mem} (h : A_H_mayBeSet av s = some z) (d : Nat) : Ctr (d + 3) I_H_mayBeSet av s z := by
  unfold A_H_mayBeSet at h
  split at h
  · refine ctr_of (d := d + 2) (own := 1) (kps := []) (code := K_H_mayBeSet) (Cl := C_H_mayBeSet) o_H_mayBeSet rfl (by decide) k_H_mayBeSet (l_H_mayBeSet d) (c1_of rfl) (Nat.le_of_ble_eq_true rfl) ?_
    intro RA S
    rw [e_H_mayBeSet] at h
    refine S.2 _ ?_ 700 0 _ _ (ck1_of rfl) h
    intro k ls s h
    cases h
  · cases h
set_option maxRecDepth 1000000 in
theorem k_C_set : okC 10 I_C_set.2.2.1 I_C_set.2.1 I_C_set.2.2.2.1 [] K_C_set K_C_set = true := by decide +kernel
theorem l_C_set (d : Nat) (k : Nat) (av : List Value) (s : Mem) (y : Int32 × Mem) (h : C_C_set k av s = some y) : Ctr (d + 3) (mtab k) av s y ∧ ((mtab k).2.2.2.2.2 = 77 → ∃ b rest, av = .ref b :: rest ∧ (b = 1001 ∨ b = 1002)) := by
  unfold C_C_set at h
  replace h := cbr_c h
  rcases h with ⟨hb, h⟩ | ⟨_, h⟩
  · cases beq_t hb
    exact ⟨c_H_has2 h (d + 0), fun q => absurd q (by decide)⟩
  replace h := cbr_c h
  rcases h with ⟨hb, h⟩ | ⟨_, h⟩
  · cases beq_t hb
    exact ⟨c_H_mayBeSet h (d + 0), fun q => absurd q (by decide)⟩
  replace h := cbr_c h
  rcases h with ⟨hb, h⟩ | ⟨_, h⟩
  · cases beq_t hb
    exact ⟨c_H_put h (d + 2), fun q => absurd q (by decide)⟩
  replace h := cbr_c h
  rcases h with ⟨hb, h⟩ | ⟨_, h⟩
  · cases beq_t hb
    exact ⟨c_C_forgetDeeds h (d + 2), fun q => absurd q (by decide)⟩
  cases h
theorem c_C_set {av : List Value} {s : Mem} {z : Int32 × Mem} (h : A_C_set av s = some z) (d : Nat) : Ctr (d + 4) I_C_set av s z := by
  unfold A_C_set at h
  split at h
  · replace h := cbr_n h
    obtain ⟨hb, h⟩ := h
    cases beq_t hb
    refine ctr_of (d := d + 3) (own := 10) (kps := []) (code := K_C_set) (Cl := C_C_set) o_C_set rfl (by decide) k_C_set (l_C_set d) (c1_of rfl) (Nat.le_of_ble_eq_true rfl) ?_
    intro RA S
    rw [e_C_set] at h
    refine S.2 _ ?_ 700 0 _ _ (ck1_of rfl) h
    intro k ls s h
    cases h
  · cases h
set_option maxRecDepth 1000000 in
theorem k_JM_floorMod : okC 12 I_JM_floorMod.2.2.1 I_JM_floorMod.2.1 I_JM_floorMod.2.2.2.1 [] K_JM_floorMod K_JM_floorMod = true := by decide +kernel
theorem l_JM_floorMod (d : Nat) (k : Nat) (av : List Value) (s : Mem) (y : Int32 × Mem) (h : C_JM_floorMod k av s = some y) : Ctr (d + 0) (mtab k) av s y ∧ ((mtab k).2.2.2.2.2 = 77 → ∃ b rest, av = .ref b :: rest ∧ (b = 1001 ∨ b = 1002)) := by
  exact nomatch (show (none : Option (Int32 × Mem)) = some y from h)
theorem c_JM_floorMod {av : List Value} {s : Mem} {z : Int32 × Mem} (h : A_JM_floorMod av s = some z) (d : Nat) : Ctr (d + 1) I_JM_floorMod av s z := by
  unfold A_JM_floorMod at h
  split at h
  · refine ctr_of (d := d + 0) (own := 12) (kps := []) (code := K_JM_floorMod) (Cl := C_JM_floorMod) o_JM_floorMod rfl (by decide) k_JM_floorMod (l_JM_floorMod d) (c1_of rfl) (Nat.le_of_ble_eq_true rfl) ?_
    intro RA S
    rw [e_JM_floorMod] at h
    refine S.2 _ ?_ 700 0 _ _ (ck1_of rfl) h
    intro k ls s h
    cases h
  · cases h
set_option maxRecDepth 1000000 in
theorem k_H_copyFrom : okC 1 I_H_copyFrom.2.2.1 I_H_copyFrom.2.1 I_H_copyFrom.2.2.2.1 [] K_H_copyFrom K_H_copyFrom = true := by decide +kernel
theorem l_H_copyFrom (d : Nat) (k : Nat) (av : List Value) (s : Mem) (y : Int32 × Mem) (h : C_H_copyFrom k av s = some y) : Ctr (d + 1) (mtab k) av s y ∧ ((mtab k).2.2.2.2.2 = 77 → ∃ b rest, av = .ref b :: rest ∧ (b = 1001 ∨ b = 1002)) := by
  exact nomatch (show (none : Option (Int32 × Mem)) = some y from h)
theorem c_H_copyFrom {av : List Value} {s : Mem} {z : Int32 × Mem} (h : A_H_copyFrom av s = some z) (d : Nat) : Ctr (d + 2) I_H_copyFrom av s z := by
  unfold A_H_copyFrom at h
  split at h
  · refine ctr_of (d := d + 1) (own := 1) (kps := []) (code := K_H_copyFrom) (Cl := C_H_copyFrom) o_H_copyFrom rfl (by decide) k_H_copyFrom (l_H_copyFrom d) (c1_of rfl) (Nat.le_of_ble_eq_true rfl) ?_
    intro RA S
    rw [e_H_copyFrom] at h
    refine S.2 _ ?_ 700 0 _ _ (ck1_of rfl) h
    intro k ls s h
    cases h
  · cases h
set_option maxRecDepth 1000000 in
theorem k_JM_min : okC 12 I_JM_min.2.2.1 I_JM_min.2.1 I_JM_min.2.2.2.1 [] K_JM_min K_JM_min = true := by decide +kernel
theorem l_JM_min (d : Nat) (k : Nat) (av : List Value) (s : Mem) (y : Int32 × Mem) (h : C_JM_min k av s = some y) : Ctr (d + 0) (mtab k) av s y ∧ ((mtab k).2.2.2.2.2 = 77 → ∃ b rest, av = .ref b :: rest ∧ (b = 1001 ∨ b = 1002)) := by
  exact nomatch (show (none : Option (Int32 × Mem)) = some y from h)
theorem c_JM_min {av : List Value} {s : Mem} {z : Int32 × Mem} (h : A_JM_min av s = some z) (d : Nat) : Ctr (d + 1) I_JM_min av s z := by
  unfold A_JM_min at h
  split at h
  · refine ctr_of (d := d + 0) (own := 12) (kps := []) (code := K_JM_min) (Cl := C_JM_min) o_JM_min rfl (by decide) k_JM_min (l_JM_min d) (c1_of rfl) (Nat.le_of_ble_eq_true rfl) ?_
    intro RA S
    rw [e_JM_min] at h
    refine S.2 _ ?_ 700 0 _ _ (ck1_of rfl) h
    intro k ls s h
    cases h
  · cases h
set_option maxRecDepth 1000000 in
theorem k_C_keepBefore : okC 10 I_C_keepBefore.2.2.1 I_C_keepBefore.2.1 I_C_keepBefore.2.2.2.1 [] K_C_keepBefore K_C_keepBefore = true := by decide +kernel
theorem l_C_keepBefore (d : Nat) (k : Nat) (av : List Value) (s : Mem) (y : Int32 × Mem) (h : C_C_keepBefore k av s = some y) : Ctr (d + 2) (mtab k) av s y ∧ ((mtab k).2.2.2.2.2 = 77 → ∃ b rest, av = .ref b :: rest ∧ (b = 1001 ∨ b = 1002)) := by
  unfold C_C_keepBefore at h
  replace h := cbr_c h
  rcases h with ⟨hb, h⟩ | ⟨_, h⟩
  · cases beq_t hb
    exact ⟨c_JM_floorMod h (d + 1), fun q => absurd q (by decide)⟩
  replace h := cbr_c h
  rcases h with ⟨hb, h⟩ | ⟨_, h⟩
  · cases beq_t hb
    exact ⟨c_H_copyFrom h (d + 0), fun q => absurd q (by decide)⟩
  replace h := cbr_c h
  rcases h with ⟨hb, h⟩ | ⟨_, h⟩
  · cases beq_t hb
    exact ⟨c_JM_min h (d + 1), fun q => absurd q (by decide)⟩
  cases h
theorem c_C_keepBefore {av : List Value} {s : Mem} {z : Int32 × Mem} (h : A_C_keepBefore av s = some z) (d : Nat) : Ctr (d + 3) I_C_keepBefore av s z := by
  unfold A_C_keepBefore at h
  split at h
  · replace h := cbr_n h
    obtain ⟨hb, h⟩ := h
    cases beq_t hb
    refine ctr_of (d := d + 2) (own := 10) (kps := []) (code := K_C_keepBefore) (Cl := C_C_keepBefore) o_C_keepBefore rfl (by decide) k_C_keepBefore (l_C_keepBefore d) (c1_of rfl) (Nat.le_of_ble_eq_true rfl) ?_
    intro RA S
    rw [e_C_keepBefore] at h
    refine S.2 _ ?_ 700 0 _ _ (ck1_of rfl) h
    intro k ls s h
    cases h
  · cases h
set_option maxRecDepth 1000000 in
theorem k_H_get : okC 1 I_H_get.2.2.1 I_H_get.2.1 I_H_get.2.2.2.1 [] K_H_get K_H_get = true := by decide +kernel
theorem l_H_get (d : Nat) (k : Nat) (av : List Value) (s : Mem) (y : Int32 × Mem) (h : C_H_get k av s = some y) : Ctr (d + 0) (mtab k) av s y ∧ ((mtab k).2.2.2.2.2 = 77 → ∃ b rest, av = .ref b :: rest ∧ (b = 1001 ∨ b = 1002)) := by
  exact nomatch (show (none : Option (Int32 × Mem)) = some y from h)
theorem c_H_get {av : List Value} {s : Mem} {z : Int32 × Mem} (h : A_H_get av s = some z) (d : Nat) : Ctr (d + 1) I_H_get av s z := by
  unfold A_H_get at h
  split at h
  · refine ctr_of (d := d + 0) (own := 1) (kps := []) (code := K_H_get) (Cl := C_H_get) o_H_get rfl (by decide) k_H_get (l_H_get d) (c1_of rfl) (Nat.le_of_ble_eq_true rfl) ?_
    intro RA S
    rw [e_H_get] at h
    refine S.2 _ ?_ 700 0 _ _ (ck1_of rfl) h
    intro k ls s h
    cases h
  · cases h
set_option maxRecDepth 1000000 in
theorem k_H_raiseTo : okC 1 I_H_raiseTo.2.2.1 I_H_raiseTo.2.1 I_H_raiseTo.2.2.2.1 [] K_H_raiseTo K_H_raiseTo = true := by decide +kernel
theorem l_H_raiseTo (d : Nat) (k : Nat) (av : List Value) (s : Mem) (y : Int32 × Mem) (h : C_H_raiseTo k av s = some y) : Ctr (d + 1) (mtab k) av s y ∧ ((mtab k).2.2.2.2.2 = 77 → ∃ b rest, av = .ref b :: rest ∧ (b = 1001 ∨ b = 1002)) := by
  unfold C_H_raiseTo at h
  replace h := cbr_c h
  rcases h with ⟨hb, h⟩ | ⟨_, h⟩
  · cases beq_t hb
    exact ⟨c_H_get h (d + 0), fun q => absurd q (by decide)⟩
  replace h := cbr_c h
  rcases h with ⟨hb, h⟩ | ⟨_, h⟩
  · cases beq_t hb
    exact ⟨c_JM_min h (d + 0), fun q => absurd q (by decide)⟩
  replace h := cbr_c h
  rcases h with ⟨hb, h⟩ | ⟨_, h⟩
  · cases beq_t hb
    exact ⟨c_H_put h (d + 0), fun q => absurd q (by decide)⟩
  cases h
theorem c_H_raiseTo {av : List Value} {s : Mem} {z : Int32 × Mem} (h : A_H_raiseTo av s = some z) (d : Nat) : Ctr (d + 2) I_H_raiseTo av s z := by
  unfold A_H_raiseTo at h
  split at h
  · refine ctr_of (d := d + 1) (own := 1) (kps := []) (code := K_H_raiseTo) (Cl := C_H_raiseTo) o_H_raiseTo rfl (by decide) k_H_raiseTo (l_H_raiseTo d) (c1_of rfl) (Nat.le_of_ble_eq_true rfl) ?_
    intro RA S
    rw [e_H_raiseTo] at h
    refine S.2 _ ?_ 700 0 _ _ (ck1_of rfl) h
    intro k ls s h
    cases h
  · cases h
set_option maxRecDepth 1000000 in
theorem k_G_obey : okC 6 I_G_obey.2.2.1 I_G_obey.2.1 I_G_obey.2.2.2.1 [] K_G_obey K_G_obey = true := by decide +kernel
theorem l_G_obey (d : Nat) (k : Nat) (av : List Value) (s : Mem) (y : Int32 × Mem) (h : C_G_obey k av s = some y) : Ctr (d + 2) (mtab k) av s y ∧ ((mtab k).2.2.2.2.2 = 77 → ∃ b rest, av = .ref b :: rest ∧ (b = 1001 ∨ b = 1002)) := by
  unfold C_G_obey at h
  replace h := cbr_c h
  rcases h with ⟨hb, h⟩ | ⟨_, h⟩
  · cases beq_t hb
    exact ⟨c_H_put h (d + 1), fun q => absurd q (by decide)⟩
  replace h := cbr_c h
  rcases h with ⟨hb, h⟩ | ⟨_, h⟩
  · cases beq_t hb
    exact ⟨c_H_raiseTo h (d + 0), fun q => absurd q (by decide)⟩
  cases h
theorem c_G_obey {av : List Value} {s : Mem} {z : Int32 × Mem} (h : A_G_obey av s = some z) (d : Nat) : Ctr (d + 3) I_G_obey av s z := by
  unfold A_G_obey at h
  split at h
  · refine ctr_of (d := d + 2) (own := 6) (kps := []) (code := K_G_obey) (Cl := C_G_obey) o_G_obey rfl (by decide) k_G_obey (l_G_obey d) (c1_of rfl) (Nat.le_of_ble_eq_true rfl) ?_
    intro RA S
    rw [e_G_obey] at h
    refine S.2 _ ?_ 700 0 _ _ (ck1_of rfl) h
    intro k ls s h
    cases h
  · cases h
set_option maxRecDepth 1000000 in
theorem k_C_order : okC 10 I_C_order.2.2.1 I_C_order.2.1 I_C_order.2.2.2.1 [] K_C_order K_C_order = true := by decide +kernel
theorem l_C_order (d : Nat) (k : Nat) (av : List Value) (s : Mem) (y : Int32 × Mem) (h : C_C_order k av s = some y) : Ctr (d + 3) (mtab k) av s y ∧ ((mtab k).2.2.2.2.2 = 77 → ∃ b rest, av = .ref b :: rest ∧ (b = 1001 ∨ b = 1002)) := by
  unfold C_C_order at h
  replace h := cbr_c h
  rcases h with ⟨hb, h⟩ | ⟨_, h⟩
  · cases beq_t hb
    exact ⟨c_H_has2 h (d + 0), fun q => absurd q (by decide)⟩
  replace h := cbr_c h
  rcases h with ⟨hb, h⟩ | ⟨_, h⟩
  · cases beq_t hb
    exact ⟨c_C_within h (d + 2), fun q => absurd q (by decide)⟩
  replace h := cbr_c h
  rcases h with ⟨hb, h⟩ | ⟨_, h⟩
  · cases beq_t hb
    exact ⟨c_C_keepBefore h (d + 0), fun q => absurd q (by decide)⟩
  replace h := cbr_c h
  rcases h with ⟨hb, h⟩ | ⟨_, h⟩
  · cases beq_t hb
    exact ⟨c_G_obey h (d + 0), fun q => absurd q (by decide)⟩
  cases h
theorem c_C_order {av : List Value} {s : Mem} {z : Int32 × Mem} (h : A_C_order av s = some z) (d : Nat) : Ctr (d + 4) I_C_order av s z := by
  unfold A_C_order at h
  split at h
  · replace h := cbr_n h
    obtain ⟨hb, h⟩ := h
    cases beq_t hb
    refine ctr_of (d := d + 3) (own := 10) (kps := []) (code := K_C_order) (Cl := C_C_order) o_C_order rfl (by decide) k_C_order (l_C_order d) (c1_of rfl) (Nat.le_of_ble_eq_true rfl) ?_
    intro RA S
    rw [e_C_order] at h
    refine S.2 _ ?_ 700 0 _ _ (ck1_of rfl) h
    intro k ls s h
    cases h
  · cases h
set_option maxRecDepth 1000000 in
theorem k_C_isVisitor : okC 10 I_C_isVisitor.2.2.1 I_C_isVisitor.2.1 I_C_isVisitor.2.2.2.1 [] K_C_isVisitor K_C_isVisitor = true := by decide +kernel
theorem l_C_isVisitor (d : Nat) (k : Nat) (av : List Value) (s : Mem) (y : Int32 × Mem) (h : C_C_isVisitor k av s = some y) : Ctr (d + 1) (mtab k) av s y ∧ ((mtab k).2.2.2.2.2 = 77 → ∃ b rest, av = .ref b :: rest ∧ (b = 1001 ∨ b = 1002)) := by
  unfold C_C_isVisitor at h
  replace h := cbr_c h
  rcases h with ⟨hb, h⟩ | ⟨_, h⟩
  · cases beq_t hb
    exact ⟨c_C_within h (d + 0), fun q => absurd q (by decide)⟩
  cases h
theorem c_C_isVisitor {av : List Value} {s : Mem} {z : Int32 × Mem} (h : A_C_isVisitor av s = some z) (d : Nat) : Ctr (d + 2) I_C_isVisitor av s z := by
  unfold A_C_isVisitor at h
  split at h
  · refine ctr_of (d := d + 1) (own := 10) (kps := []) (code := K_C_isVisitor) (Cl := C_C_isVisitor) o_C_isVisitor rfl (by decide) k_C_isVisitor (l_C_isVisitor d) (c1_of rfl) (Nat.le_of_ble_eq_true rfl) ?_
    intro RA S
    rw [e_C_isVisitor] at h
    refine S.2 _ ?_ 700 0 _ _ (ck1_of rfl) h
    intro k ls s h
    cases h
  · cases h
set_option maxRecDepth 1000000 in
theorem k_JM_max : okC 12 I_JM_max.2.2.1 I_JM_max.2.1 I_JM_max.2.2.2.1 [] K_JM_max K_JM_max = true := by decide +kernel
theorem l_JM_max (d : Nat) (k : Nat) (av : List Value) (s : Mem) (y : Int32 × Mem) (h : C_JM_max k av s = some y) : Ctr (d + 0) (mtab k) av s y ∧ ((mtab k).2.2.2.2.2 = 77 → ∃ b rest, av = .ref b :: rest ∧ (b = 1001 ∨ b = 1002)) := by
  exact nomatch (show (none : Option (Int32 × Mem)) = some y from h)
theorem c_JM_max {av : List Value} {s : Mem} {z : Int32 × Mem} (h : A_JM_max av s = some z) (d : Nat) : Ctr (d + 1) I_JM_max av s z := by
  unfold A_JM_max at h
  split at h
  · refine ctr_of (d := d + 0) (own := 12) (kps := []) (code := K_JM_max) (Cl := C_JM_max) o_JM_max rfl (by decide) k_JM_max (l_JM_max d) (c1_of rfl) (Nat.le_of_ble_eq_true rfl) ?_
    intro RA S
    rw [e_JM_max] at h
    refine S.2 _ ?_ 700 0 _ _ (ck1_of rfl) h
    intro k ls s h
    cases h
  · cases h
set_option maxRecDepth 1000000 in
theorem k_H_isMissing : okC 1 I_H_isMissing.2.2.1 I_H_isMissing.2.1 I_H_isMissing.2.2.2.1 [] K_H_isMissing K_H_isMissing = true := by decide +kernel
theorem l_H_isMissing (d : Nat) (k : Nat) (av : List Value) (s : Mem) (y : Int32 × Mem) (h : C_H_isMissing k av s = some y) : Ctr (d + 1) (mtab k) av s y ∧ ((mtab k).2.2.2.2.2 = 77 → ∃ b rest, av = .ref b :: rest ∧ (b = 1001 ∨ b = 1002)) := by
  unfold C_H_isMissing at h
  replace h := cbr_c h
  rcases h with ⟨hb, h⟩ | ⟨_, h⟩
  · cases beq_t hb
    exact ⟨c_H_get h (d + 0), fun q => absurd q (by decide)⟩
  cases h
theorem c_H_isMissing {av : List Value} {s : Mem} {z : Int32 × Mem} (h : A_H_isMissing av s = some z) (d : Nat) : Ctr (d + 2) I_H_isMissing av s z := by
  unfold A_H_isMissing at h
  split at h
  · refine ctr_of (d := d + 1) (own := 1) (kps := []) (code := K_H_isMissing) (Cl := C_H_isMissing) o_H_isMissing rfl (by decide) k_H_isMissing (l_H_isMissing d) (c1_of rfl) (Nat.le_of_ble_eq_true rfl) ?_
    intro RA S
    rw [e_H_isMissing] at h
    refine S.2 _ ?_ 700 0 _ _ (ck1_of rfl) h
    intro k ls s h
    cases h
  · cases h
set_option maxRecDepth 1000000 in
theorem k_B_write : okC 0 I_B_write.2.2.1 I_B_write.2.1 I_B_write.2.2.2.1 [] K_B_write K_B_write = true := by decide +kernel
theorem l_B_write (d : Nat) (k : Nat) (av : List Value) (s : Mem) (y : Int32 × Mem) (h : C_B_write k av s = some y) : Ctr (d + 1) (mtab k) av s y ∧ ((mtab k).2.2.2.2.2 = 77 → ∃ b rest, av = .ref b :: rest ∧ (b = 1001 ∨ b = 1002)) := by
  unfold C_B_write at h
  replace h := cbr_c h
  rcases h with ⟨hb, h⟩ | ⟨_, h⟩
  · cases beq_t hb
    exact ⟨c_C_within h (d + 0), fun q => absurd q (by decide)⟩
  cases h
theorem c_B_write {av : List Value} {s : Mem} {z : Int32 × Mem} (h : A_B_write av s = some z) (d : Nat) : Ctr (d + 2) I_B_write av s z := by
  unfold A_B_write at h
  split at h
  · replace h := cbr_n h
    obtain ⟨hb, h⟩ := h
    cases beq_t hb
    refine ctr_of (d := d + 1) (own := 0) (kps := []) (code := K_B_write) (Cl := C_B_write) o_B_write rfl (by decide) k_B_write (l_B_write d) (c1_of rfl) (Nat.le_of_ble_eq_true rfl) ?_
    intro RA S
    rw [e_B_write] at h
    refine S.2 _ ?_ 700 0 _ _ (ck1_of rfl) h
    intro k ls s h
    cases h
  · cases h
set_option maxRecDepth 1000000 in
theorem k_G_note : okC 6 I_G_note.2.2.1 I_G_note.2.1 I_G_note.2.2.2.1 [] K_G_note K_G_note = true := by decide +kernel
theorem l_G_note (d : Nat) (k : Nat) (av : List Value) (s : Mem) (y : Int32 × Mem) (h : C_G_note k av s = some y) : Ctr (d + 2) (mtab k) av s y ∧ ((mtab k).2.2.2.2.2 = 77 → ∃ b rest, av = .ref b :: rest ∧ (b = 1001 ∨ b = 1002)) := by
  unfold C_G_note at h
  replace h := cbr_c h
  rcases h with ⟨hb, h⟩ | ⟨_, h⟩
  · cases beq_t hb
    exact ⟨c_B_write h (d + 0), fun q => absurd q (by decide)⟩
  cases h
theorem c_G_note {av : List Value} {s : Mem} {z : Int32 × Mem} (h : A_G_note av s = some z) (d : Nat) : Ctr (d + 3) I_G_note av s z := by
  unfold A_G_note at h
  split at h
  · replace h := cbr_n h
    obtain ⟨hb, h⟩ := h
    cases beq_t hb
    refine ctr_of (d := d + 2) (own := 6) (kps := []) (code := K_G_note) (Cl := C_G_note) o_G_note rfl (by decide) k_G_note (l_G_note d) (c1_of rfl) (Nat.le_of_ble_eq_true rfl) ?_
    intro RA S
    rw [e_G_note] at h
    refine S.2 _ ?_ 700 0 _ _ (ck1_of rfl) h
    intro k ls s h
    cases h
  · cases h
set_option maxRecDepth 1000000 in
theorem k_L_learn : okC 2 I_L_learn.2.2.1 I_L_learn.2.1 I_L_learn.2.2.2.1 [] K_L_learn K_L_learn = true := by decide +kernel
theorem l_L_learn (d : Nat) (k : Nat) (av : List Value) (s : Mem) (y : Int32 × Mem) (h : C_L_learn k av s = some y) : Ctr (d + 1) (mtab k) av s y ∧ ((mtab k).2.2.2.2.2 = 77 → ∃ b rest, av = .ref b :: rest ∧ (b = 1001 ∨ b = 1002)) := by
  unfold C_L_learn at h
  replace h := cbr_c h
  rcases h with ⟨hb, h⟩ | ⟨_, h⟩
  · cases beq_t hb
    exact ⟨c_H_get h (d + 0), fun q => absurd q (by decide)⟩
  cases h
theorem c_L_learn {av : List Value} {s : Mem} {z : Int32 × Mem} (h : A_L_learn av s = some z) (d : Nat) : Ctr (d + 2) I_L_learn av s z := by
  unfold A_L_learn at h
  split at h
  · replace h := cbr_n h
    obtain ⟨hb, h⟩ := h
    cases beq_t hb
    refine ctr_of (d := d + 1) (own := 2) (kps := []) (code := K_L_learn) (Cl := C_L_learn) o_L_learn rfl (by decide) k_L_learn (l_L_learn d) (c1_of rfl) (Nat.le_of_ble_eq_true rfl) ?_
    intro RA S
    rw [e_L_learn] at h
    refine S.2 _ ?_ 700 0 _ _ (ck1_of rfl) h
    intro k ls s h
    cases h
  · cases h
set_option maxRecDepth 1000000 in
theorem k_L_part : okC 2 I_L_part.2.2.1 I_L_part.2.1 I_L_part.2.2.2.1 [] K_L_part K_L_part = true := by decide +kernel
theorem l_L_part (d : Nat) (k : Nat) (av : List Value) (s : Mem) (y : Int32 × Mem) (h : C_L_part k av s = some y) : Ctr (d + 0) (mtab k) av s y ∧ ((mtab k).2.2.2.2.2 = 77 → ∃ b rest, av = .ref b :: rest ∧ (b = 1001 ∨ b = 1002)) := by
  exact nomatch (show (none : Option (Int32 × Mem)) = some y from h)
theorem c_L_part {av : List Value} {s : Mem} {z : Int32 × Mem} (h : A_L_part av s = some z) (d : Nat) : Ctr (d + 1) I_L_part av s z := by
  unfold A_L_part at h
  split at h
  · refine ctr_of (d := d + 0) (own := 2) (kps := []) (code := K_L_part) (Cl := C_L_part) o_L_part rfl (by decide) k_L_part (l_L_part d) (c1_of rfl) (Nat.le_of_ble_eq_true rfl) ?_
    intro RA S
    rw [e_L_part] at h
    refine S.2 _ ?_ 700 0 _ _ (ck1_of rfl) h
    intro k ls s h
    cases h
  · cases h
set_option maxRecDepth 1000000 in
theorem k_L_combine : okC 2 I_L_combine.2.2.1 I_L_combine.2.1 I_L_combine.2.2.2.1 [] K_L_combine K_L_combine = true := by decide +kernel
theorem l_L_combine (d : Nat) (k : Nat) (av : List Value) (s : Mem) (y : Int32 × Mem) (h : C_L_combine k av s = some y) : Ctr (d + 0) (mtab k) av s y ∧ ((mtab k).2.2.2.2.2 = 77 → ∃ b rest, av = .ref b :: rest ∧ (b = 1001 ∨ b = 1002)) := by
  exact nomatch (show (none : Option (Int32 × Mem)) = some y from h)
theorem c_L_combine {av : List Value} {s : Mem} {z : Int32 × Mem} (h : A_L_combine av s = some z) (d : Nat) : Ctr (d + 1) I_L_combine av s z := by
  unfold A_L_combine at h
  split at h
  · refine ctr_of (d := d + 0) (own := 2) (kps := []) (code := K_L_combine) (Cl := C_L_combine) o_L_combine rfl (by decide) k_L_combine (l_L_combine d) (c1_of rfl) (Nat.le_of_ble_eq_true rfl) ?_
    intro RA S
    rw [e_L_combine] at h
    refine S.2 _ ?_ 700 0 _ _ (ck1_of rfl) h
    intro k ls s h
    cases h
  · cases h
set_option maxRecDepth 1000000 in
theorem k_L_run : okC 2 I_L_run.2.2.1 I_L_run.2.1 I_L_run.2.2.2.1 [9] K_L_run K_L_run = true := by decide +kernel
theorem a_L_run_6 {z : Int32 × Mem} {RA : Nat → List (Option Value) → Mem → Prop} (hm : ∀ (pc : Nat) (ls ls1 : List (Option Value)) (σ : Mem), ls1.length = I_L_run.2.2.1 → (∀ i v, lk ls1 i = some v → lk ls i = some v) → RA pc ls1 σ → RA pc ls σ) {f : Int32 → Int32 → Int32 → Mem → Option (Int32 × Mem)} {ls : List (Option Value)} {s : Mem} (h : A_L_run_6 f ls s = some z) (hf : ∀ (x2 : Int32) (x3 : Int32) (x4 : Int32) (s : Mem), f x2 x3 x4 s = some z → RA 9 [some (.ref 7), none, some (.int x2), some (.int x3), some (.int x4), none, none, none] s) : RA 9 ls s := by
  unfold A_L_run_6 at h
  split at h
  · rename_i a0 a1 a2 a3 e0 e1 e2 e3
    replace h := cbr_n h
    obtain ⟨hb, h⟩ := h
    cases beq_t hb
    refine hm _ _ [some (.ref 7), none, some (.int a1), some (.int a2), some (.int a3), none, none, none] _ rfl (fun i v hv => ?_) (hf _ _ _ _ h)
    match i, hv with
    | 0, hv => exact e0.trans hv
    | 1, hv => cases hv
    | 2, hv => exact e1.trans hv
    | 3, hv => exact e2.trans hv
    | 4, hv => exact e3.trans hv
    | 5, hv => cases hv
    | 6, hv => cases hv
    | 7, hv => cases hv
    | i + 8, hv => cases hv
  · cases h
theorem n_L_run_6 {z : Int32 × Mem} {RA : Nat → List (Option Value) → Mem → Prop} (S : Sm I_L_run C_L_run K_L_run [9] z RA) : ∀ (n : Nat) (x2 : Int32) (x3 : Int32) (x4 : Int32) (s : Mem), F_L_run_6 n x2 x3 x4 s = some z → RA 9 [some (.ref 7), none, some (.int x2), some (.int x3), some (.int x4), none, none, none] s := by
  intro n
  induction n with
  | zero => intro x2 x3 x4 s h; exact nomatch (show (none : Option (Int32 × Mem)) = some z from h)
  | succ n ih =>
    intro x2 x3 x4 s h
    rw [e_L_run_6] at h
    refine S.2 _ ?_ 700 7 _ _ (ck1_of rfl) h
    intro k ls s h
    replace h := cbr_c h
    rcases h with ⟨hb, h⟩ | ⟨_, h⟩
    · cases beq_t hb
      exact a_L_run_6 S.1 h ih
    cases h
theorem l_L_run (d : Nat) (k : Nat) (av : List Value) (s : Mem) (y : Int32 × Mem) (h : C_L_run k av s = some y) : Ctr (d + 1) (mtab k) av s y ∧ ((mtab k).2.2.2.2.2 = 77 → ∃ b rest, av = .ref b :: rest ∧ (b = 1001 ∨ b = 1002)) := by
  unfold C_L_run at h
  replace h := cbr_c h
  rcases h with ⟨hb, h⟩ | ⟨_, h⟩
  · cases beq_t hb
    exact ⟨c_JM_max h (d + 0), fun q => absurd q (by decide)⟩
  replace h := cbr_c h
  rcases h with ⟨hb, h⟩ | ⟨_, h⟩
  · cases beq_t hb
    exact ⟨c_L_part h (d + 0), fun q => absurd q (by decide)⟩
  replace h := cbr_c h
  rcases h with ⟨hb, h⟩ | ⟨_, h⟩
  · cases beq_t hb
    exact ⟨c_L_combine h (d + 0), fun q => absurd q (by decide)⟩
  cases h
theorem c_L_run {av : List Value} {s : Mem} {z : Int32 × Mem} (h : A_L_run av s = some z) (d : Nat) : Ctr (d + 2) I_L_run av s z := by
  unfold A_L_run at h
  split at h
  · replace h := cbr_n h
    obtain ⟨hb, h⟩ := h
    cases beq_t hb
    refine ctr_of (d := d + 1) (own := 2) (kps := [9]) (code := K_L_run) (Cl := C_L_run) o_L_run rfl (by decide) k_L_run (l_L_run d) (c1_of rfl) (Nat.le_of_ble_eq_true rfl) ?_
    intro RA S
    rw [e_L_run] at h
    refine S.2 _ ?_ 700 0 _ _ (ck1_of rfl) h
    intro k ls s h
    replace h := cbr_c h
    rcases h with ⟨hb, h⟩ | ⟨_, h⟩
    · cases beq_t hb
      exact a_L_run_6 S.1 h (n_L_run_6 S gF)
    cases h
  · cases h
set_option maxRecDepth 1000000 in
theorem k_L_held : okC 2 I_L_held.2.2.1 I_L_held.2.1 I_L_held.2.2.2.1 [] K_L_held K_L_held = true := by decide +kernel
theorem l_L_held (d : Nat) (k : Nat) (av : List Value) (s : Mem) (y : Int32 × Mem) (h : C_L_held k av s = some y) : Ctr (d + 1) (mtab k) av s y ∧ ((mtab k).2.2.2.2.2 = 77 → ∃ b rest, av = .ref b :: rest ∧ (b = 1001 ∨ b = 1002)) := by
  unfold C_L_held at h
  replace h := cbr_c h
  rcases h with ⟨hb, h⟩ | ⟨_, h⟩
  · cases beq_t hb
    exact ⟨c_JM_min h (d + 0), fun q => absurd q (by decide)⟩
  replace h := cbr_c h
  rcases h with ⟨hb, h⟩ | ⟨_, h⟩
  · cases beq_t hb
    exact ⟨c_JM_max h (d + 0), fun q => absurd q (by decide)⟩
  cases h
theorem c_L_held {av : List Value} {s : Mem} {z : Int32 × Mem} (h : A_L_held av s = some z) (d : Nat) : Ctr (d + 2) I_L_held av s z := by
  unfold A_L_held at h
  split at h
  · refine ctr_of (d := d + 1) (own := 2) (kps := []) (code := K_L_held) (Cl := C_L_held) o_L_held rfl (by decide) k_L_held (l_L_held d) (c1_of rfl) (Nat.le_of_ble_eq_true rfl) ?_
    intro RA S
    rw [e_L_held] at h
    refine S.2 _ ?_ 700 0 _ _ (ck1_of rfl) h
    intro k ls s h
    cases h
  · cases h
set_option maxRecDepth 1000000 in
theorem k_L_unwritten : okC 2 I_L_unwritten.2.2.1 I_L_unwritten.2.1 I_L_unwritten.2.2.2.1 [] K_L_unwritten K_L_unwritten = true := by decide +kernel
theorem l_L_unwritten (d : Nat) (k : Nat) (av : List Value) (s : Mem) (y : Int32 × Mem) (h : C_L_unwritten k av s = some y) : Ctr (d + 0) (mtab k) av s y ∧ ((mtab k).2.2.2.2.2 = 77 → ∃ b rest, av = .ref b :: rest ∧ (b = 1001 ∨ b = 1002)) := by
  exact nomatch (show (none : Option (Int32 × Mem)) = some y from h)
theorem c_L_unwritten {av : List Value} {s : Mem} {z : Int32 × Mem} (h : A_L_unwritten av s = some z) (d : Nat) : Ctr (d + 1) I_L_unwritten av s z := by
  unfold A_L_unwritten at h
  split at h
  · replace h := cbr_n h
    obtain ⟨hb, h⟩ := h
    cases beq_t hb
    refine ctr_of (d := d + 0) (own := 2) (kps := []) (code := K_L_unwritten) (Cl := C_L_unwritten) o_L_unwritten rfl (by decide) k_L_unwritten (l_L_unwritten d) (c1_of rfl) (Nat.le_of_ble_eq_true rfl) ?_
    intro RA S
    rw [e_L_unwritten] at h
    refine S.2 _ ?_ 700 0 _ _ (ck1_of rfl) h
    intro k ls s h
    cases h
  · cases h
set_option maxRecDepth 1000000 in
theorem k_L_ask : okC 2 I_L_ask.2.2.1 I_L_ask.2.1 I_L_ask.2.2.2.1 [15] K_L_ask K_L_ask = true := by decide +kernel
theorem a_L_ask_9 {z : Int32 × Mem} {RA : Nat → List (Option Value) → Mem → Prop} (hm : ∀ (pc : Nat) (ls ls1 : List (Option Value)) (σ : Mem), ls1.length = I_L_ask.2.2.1 → (∀ i v, lk ls1 i = some v → lk ls i = some v) → RA pc ls1 σ → RA pc ls σ) {f : Int32 → Int32 → Mem → Option (Int32 × Mem)} {ls : List (Option Value)} {s : Mem} (h : A_L_ask_9 f ls s = some z) (hf : ∀ (x1 : Int32) (x7 : Int32) (s : Mem), f x1 x7 s = some z → RA 15 [some (.ref 7), some (.int x1), none, none, none, none, none, some (.int x7)] s) : RA 15 ls s := by
  unfold A_L_ask_9 at h
  split at h
  · rename_i a0 a1 a2 e0 e1 e2
    replace h := cbr_n h
    obtain ⟨hb, h⟩ := h
    cases beq_t hb
    refine hm _ _ [some (.ref 7), some (.int a1), none, none, none, none, none, some (.int a2)] _ rfl (fun i v hv => ?_) (hf _ _ _ h)
    match i, hv with
    | 0, hv => exact e0.trans hv
    | 1, hv => exact e1.trans hv
    | 2, hv => cases hv
    | 3, hv => cases hv
    | 4, hv => cases hv
    | 5, hv => cases hv
    | 6, hv => cases hv
    | 7, hv => exact e2.trans hv
    | i + 8, hv => cases hv
  · cases h
theorem n_L_ask_9 {z : Int32 × Mem} {RA : Nat → List (Option Value) → Mem → Prop} (S : Sm I_L_ask C_L_ask K_L_ask [15] z RA) : ∀ (n : Nat) (x1 : Int32) (x7 : Int32) (s : Mem), F_L_ask_9 n x1 x7 s = some z → RA 15 [some (.ref 7), some (.int x1), none, none, none, none, none, some (.int x7)] s := by
  intro n
  induction n with
  | zero => intro x1 x7 s h; exact nomatch (show (none : Option (Int32 × Mem)) = some z from h)
  | succ n ih =>
    intro x1 x7 s h
    rw [e_L_ask_9] at h
    refine S.2 _ ?_ 700 10 _ _ (ck1_of rfl) h
    intro k ls s h
    replace h := cbr_c h
    rcases h with ⟨hb, h⟩ | ⟨_, h⟩
    · cases beq_t hb
      exact a_L_ask_9 S.1 h ih
    cases h
theorem l_L_ask (d : Nat) (k : Nat) (av : List Value) (s : Mem) (y : Int32 × Mem) (h : C_L_ask k av s = some y) : Ctr (d + 2) (mtab k) av s y ∧ ((mtab k).2.2.2.2.2 = 77 → ∃ b rest, av = .ref b :: rest ∧ (b = 1001 ∨ b = 1002)) := by
  unfold C_L_ask at h
  replace h := cbr_c h
  rcases h with ⟨hb, h⟩ | ⟨_, h⟩
  · cases beq_t hb
    exact ⟨c_L_learn h (d + 0), fun q => absurd q (by decide)⟩
  replace h := cbr_c h
  rcases h with ⟨hb, h⟩ | ⟨_, h⟩
  · cases beq_t hb
    exact ⟨c_L_unwritten h (d + 1), fun q => absurd q (by decide)⟩
  replace h := cbr_c h
  rcases h with ⟨hb, h⟩ | ⟨_, h⟩
  · cases beq_t hb
    exact ⟨c_L_held h (d + 0), fun q => absurd q (by decide)⟩
  replace h := cbr_c h
  rcases h with ⟨hb, h⟩ | ⟨_, h⟩
  · cases beq_t hb
    exact ⟨c_L_run h (d + 0), fun q => absurd q (by decide)⟩
  cases h
theorem c_L_ask {av : List Value} {s : Mem} {z : Int32 × Mem} (h : A_L_ask av s = some z) (d : Nat) : Ctr (d + 3) I_L_ask av s z := by
  unfold A_L_ask at h
  split at h
  · replace h := cbr_n h
    obtain ⟨hb, h⟩ := h
    cases beq_t hb
    refine ctr_of (d := d + 2) (own := 2) (kps := [15]) (code := K_L_ask) (Cl := C_L_ask) o_L_ask rfl (by decide) k_L_ask (l_L_ask d) (c1_of rfl) (Nat.le_of_ble_eq_true rfl) ?_
    intro RA S
    rw [e_L_ask] at h
    refine S.2 _ ?_ 700 0 _ _ (ck1_of rfl) h
    intro k ls s h
    replace h := cbr_c h
    rcases h with ⟨hb, h⟩ | ⟨_, h⟩
    · cases beq_t hb
      exact a_L_ask_9 S.1 h (n_L_ask_9 S gF)
    cases h
  · cases h
set_option maxRecDepth 1000000 in
theorem k_H_draw : okC 1 I_H_draw.2.2.1 I_H_draw.2.1 I_H_draw.2.2.2.1 [] K_H_draw K_H_draw = true := by decide +kernel
theorem l_H_draw (d : Nat) (k : Nat) (av : List Value) (s : Mem) (y : Int32 × Mem) (h : C_H_draw k av s = some y) : Ctr (d + 0) (mtab k) av s y ∧ ((mtab k).2.2.2.2.2 = 77 → ∃ b rest, av = .ref b :: rest ∧ (b = 1001 ∨ b = 1002)) := by
  exact nomatch (show (none : Option (Int32 × Mem)) = some y from h)
theorem c_H_draw {av : List Value} {s : Mem} {z : Int32 × Mem} (h : A_H_draw av s = some z) (d : Nat) : Ctr (d + 1) I_H_draw av s z := by
  unfold A_H_draw at h
  split at h
  · refine ctr_of (d := d + 0) (own := 1) (kps := []) (code := K_H_draw) (Cl := C_H_draw) o_H_draw rfl (by decide) k_H_draw (l_H_draw d) (c1_of rfl) (Nat.le_of_ble_eq_true rfl) ?_
    intro RA S
    rw [e_H_draw] at h
    refine S.2 _ ?_ 700 0 _ _ (ck1_of rfl) h
    intro k ls s h
    cases h
  · cases h
set_option maxRecDepth 1000000 in
theorem k_H_raise : okC 1 I_H_raise.2.2.1 I_H_raise.2.1 I_H_raise.2.2.2.1 [] K_H_raise K_H_raise = true := by decide +kernel
theorem l_H_raise (d : Nat) (k : Nat) (av : List Value) (s : Mem) (y : Int32 × Mem) (h : C_H_raise k av s = some y) : Ctr (d + 1) (mtab k) av s y ∧ ((mtab k).2.2.2.2.2 = 77 → ∃ b rest, av = .ref b :: rest ∧ (b = 1001 ∨ b = 1002)) := by
  unfold C_H_raise at h
  replace h := cbr_c h
  rcases h with ⟨hb, h⟩ | ⟨_, h⟩
  · cases beq_t hb
    exact ⟨c_H_get h (d + 0), fun q => absurd q (by decide)⟩
  replace h := cbr_c h
  rcases h with ⟨hb, h⟩ | ⟨_, h⟩
  · cases beq_t hb
    exact ⟨c_H_put h (d + 0), fun q => absurd q (by decide)⟩
  cases h
theorem c_H_raise {av : List Value} {s : Mem} {z : Int32 × Mem} (h : A_H_raise av s = some z) (d : Nat) : Ctr (d + 2) I_H_raise av s z := by
  unfold A_H_raise at h
  split at h
  · refine ctr_of (d := d + 1) (own := 1) (kps := []) (code := K_H_raise) (Cl := C_H_raise) o_H_raise rfl (by decide) k_H_raise (l_H_raise d) (c1_of rfl) (Nat.le_of_ble_eq_true rfl) ?_
    intro RA S
    rw [e_H_raise] at h
    refine S.2 _ ?_ 700 0 _ _ (ck1_of rfl) h
    intro k ls s h
    cases h
  · cases h
set_option maxRecDepth 1000000 in
theorem k_G_treadOne : okC 6 I_G_treadOne.2.2.1 I_G_treadOne.2.1 I_G_treadOne.2.2.2.1 [] K_G_treadOne K_G_treadOne = true := by decide +kernel
theorem l_G_treadOne (d : Nat) (k : Nat) (av : List Value) (s : Mem) (y : Int32 × Mem) (h : C_G_treadOne k av s = some y) : Ctr (d + 3) (mtab k) av s y ∧ ((mtab k).2.2.2.2.2 = 77 → ∃ b rest, av = .ref b :: rest ∧ (b = 1001 ∨ b = 1002)) := by
  unfold C_G_treadOne at h
  replace h := cbr_c h
  rcases h with ⟨hb, h⟩ | ⟨_, h⟩
  · cases beq_t hb
    exact ⟨c_H_isMissing h (d + 1), fun q => absurd q (by decide)⟩
  replace h := cbr_c h
  rcases h with ⟨hb, h⟩ | ⟨_, h⟩
  · cases beq_t hb
    exact ⟨c_L_ask h (d + 0), fun q => absurd q (by decide)⟩
  replace h := cbr_c h
  rcases h with ⟨hb, h⟩ | ⟨_, h⟩
  · cases beq_t hb
    exact ⟨c_H_get h (d + 2), fun q => absurd q (by decide)⟩
  replace h := cbr_c h
  rcases h with ⟨hb, h⟩ | ⟨_, h⟩
  · cases beq_t hb
    exact ⟨c_G_note h (d + 0), fun q => absurd q (by decide)⟩
  replace h := cbr_c h
  rcases h with ⟨hb, h⟩ | ⟨_, h⟩
  · cases beq_t hb
    exact ⟨c_H_raise h (d + 1), fun q => absurd q (by decide)⟩
  replace h := cbr_c h
  rcases h with ⟨hb, h⟩ | ⟨_, h⟩
  · cases beq_t hb
    exact ⟨c_H_raiseTo h (d + 1), fun q => absurd q (by decide)⟩
  replace h := cbr_c h
  rcases h with ⟨hb, h⟩ | ⟨_, h⟩
  · cases beq_t hb
    exact ⟨c_H_draw h (d + 2), fun q => absurd q (by decide)⟩
  cases h
theorem c_G_treadOne {av : List Value} {s : Mem} {z : Int32 × Mem} (h : A_G_treadOne av s = some z) (d : Nat) : Ctr (d + 4) I_G_treadOne av s z := by
  unfold A_G_treadOne at h
  split at h
  · replace h := cbr_n h
    obtain ⟨hb, h⟩ := h
    cases beq_t hb
    refine ctr_of (d := d + 3) (own := 6) (kps := []) (code := K_G_treadOne) (Cl := C_G_treadOne) o_G_treadOne rfl (by decide) k_G_treadOne (l_G_treadOne d) (c1_of rfl) (Nat.le_of_ble_eq_true rfl) ?_
    intro RA S
    rw [e_G_treadOne] at h
    refine S.2 _ ?_ 700 0 _ _ (ck1_of rfl) h
    intro k ls s h
    cases h
  · cases h
set_option maxRecDepth 1000000 in
theorem k_G_tread : okC 6 I_G_tread.2.2.1 I_G_tread.2.1 I_G_tread.2.2.2.1 [22] K_G_tread K_G_tread = true := by decide +kernel
theorem a_G_tread_12 {z : Int32 × Mem} {RA : Nat → List (Option Value) → Mem → Prop} (hm : ∀ (pc : Nat) (ls ls1 : List (Option Value)) (σ : Mem), ls1.length = I_G_tread.2.2.1 → (∀ i v, lk ls1 i = some v → lk ls i = some v) → RA pc ls1 σ → RA pc ls σ) {f : Nat → Int32 → Int32 → Int32 → Int32 → Int32 → Int32 → Int32 → Int32 → Int32 → Mem → Option (Int32 × Mem)} {ls : List (Option Value)} {s : Mem} (h : A_G_tread_12 f ls s = some z) (hf : ∀ (h1 : Nat) (x2 : Int32) (x3 : Int32) (x4 : Int32) (x5 : Int32) (x6 : Int32) (x7 : Int32) (x8 : Int32) (x9 : Int32) (x10 : Int32) (s : Mem), f h1 x2 x3 x4 x5 x6 x7 x8 x9 x10 s = some z → RA 22 [some (.ref 1), some (.ref h1), some (.int x2), some (.int x3), some (.int x4), some (.int x5), some (.int x6), some (.int x7), some (.int x8), some (.int x9), some (.int x10), none] s) : RA 22 ls s := by
  unfold A_G_tread_12 at h
  split at h
  · rename_i a0 a1 a2 a3 a4 a5 a6 a7 a8 a9 a10 e0 e1 e2 e3 e4 e5 e6 e7 e8 e9 e10
    replace h := cbr_n h
    obtain ⟨hb, h⟩ := h
    cases beq_t hb
    refine hm _ _ [some (.ref 1), some (.ref a1), some (.int a2), some (.int a3), some (.int a4), some (.int a5), some (.int a6), some (.int a7), some (.int a8), some (.int a9), some (.int a10), none] _ rfl (fun i v hv => ?_) (hf _ _ _ _ _ _ _ _ _ _ _ h)
    match i, hv with
    | 0, hv => exact e0.trans hv
    | 1, hv => exact e1.trans hv
    | 2, hv => exact e2.trans hv
    | 3, hv => exact e3.trans hv
    | 4, hv => exact e4.trans hv
    | 5, hv => exact e5.trans hv
    | 6, hv => exact e6.trans hv
    | 7, hv => exact e7.trans hv
    | 8, hv => exact e8.trans hv
    | 9, hv => exact e9.trans hv
    | 10, hv => exact e10.trans hv
    | 11, hv => cases hv
    | i + 12, hv => cases hv
  · cases h
theorem n_G_tread_12 {z : Int32 × Mem} {RA : Nat → List (Option Value) → Mem → Prop} (S : Sm I_G_tread C_G_tread K_G_tread [22] z RA) : ∀ (n : Nat) (h1 : Nat) (x2 : Int32) (x3 : Int32) (x4 : Int32) (x5 : Int32) (x6 : Int32) (x7 : Int32) (x8 : Int32) (x9 : Int32) (x10 : Int32) (s : Mem), F_G_tread_12 n h1 x2 x3 x4 x5 x6 x7 x8 x9 x10 s = some z → RA 22 [some (.ref 1), some (.ref h1), some (.int x2), some (.int x3), some (.int x4), some (.int x5), some (.int x6), some (.int x7), some (.int x8), some (.int x9), some (.int x10), none] s := by
  intro n
  induction n with
  | zero => intro h1 x2 x3 x4 x5 x6 x7 x8 x9 x10 s h; exact nomatch (show (none : Option (Int32 × Mem)) = some z from h)
  | succ n ih =>
    intro h1 x2 x3 x4 x5 x6 x7 x8 x9 x10 s h
    rw [e_G_tread_12] at h
    refine S.2 _ ?_ 700 13 _ _ (ck1_of rfl) h
    intro k ls s h
    replace h := cbr_c h
    rcases h with ⟨hb, h⟩ | ⟨_, h⟩
    · cases beq_t hb
      exact a_G_tread_12 S.1 h ih
    cases h
theorem l_G_tread (d : Nat) (k : Nat) (av : List Value) (s : Mem) (y : Int32 × Mem) (h : C_G_tread k av s = some y) : Ctr (d + 4) (mtab k) av s y ∧ ((mtab k).2.2.2.2.2 = 77 → ∃ b rest, av = .ref b :: rest ∧ (b = 1001 ∨ b = 1002)) := by
  unfold C_G_tread at h
  replace h := cbr_c h
  rcases h with ⟨hb, h⟩ | ⟨_, h⟩
  · cases beq_t hb
    exact ⟨c_H_size h (d + 2), fun q => absurd q (by decide)⟩
  replace h := cbr_c h
  rcases h with ⟨hb, h⟩ | ⟨_, h⟩
  · cases beq_t hb
    exact ⟨c_JM_max h (d + 3), fun q => absurd q (by decide)⟩
  replace h := cbr_c h
  rcases h with ⟨hb, h⟩ | ⟨_, h⟩
  · cases beq_t hb
    exact ⟨c_C_within h (d + 3), fun q => absurd q (by decide)⟩
  replace h := cbr_c h
  rcases h with ⟨hb, h⟩ | ⟨_, h⟩
  · cases beq_t hb
    exact ⟨c_G_treadOne h (d + 0), fun q => absurd q (by decide)⟩
  cases h
theorem c_G_tread {av : List Value} {s : Mem} {z : Int32 × Mem} (h : A_G_tread av s = some z) (d : Nat) : Ctr (d + 5) I_G_tread av s z := by
  unfold A_G_tread at h
  split at h
  · replace h := cbr_n h
    obtain ⟨hb, h⟩ := h
    cases beq_t hb
    refine ctr_of (d := d + 4) (own := 6) (kps := [22]) (code := K_G_tread) (Cl := C_G_tread) o_G_tread rfl (by decide) k_G_tread (l_G_tread d) (c1_of rfl) (Nat.le_of_ble_eq_true rfl) ?_
    intro RA S
    rw [e_G_tread] at h
    refine S.2 _ ?_ 700 0 _ _ (ck1_of rfl) h
    intro k ls s h
    replace h := cbr_c h
    rcases h with ⟨hb, h⟩ | ⟨_, h⟩
    · cases beq_t hb
      exact a_G_tread_12 S.1 h (n_G_tread_12 S gF)
    cases h
  · cases h
set_option maxRecDepth 1000000 in
theorem k_C_visit : okC 10 I_C_visit.2.2.1 I_C_visit.2.1 I_C_visit.2.2.2.1 [] K_C_visit K_C_visit = true := by decide +kernel
theorem l_C_visit (d : Nat) (k : Nat) (av : List Value) (s : Mem) (y : Int32 × Mem) (h : C_C_visit k av s = some y) : Ctr (d + 5) (mtab k) av s y ∧ ((mtab k).2.2.2.2.2 = 77 → ∃ b rest, av = .ref b :: rest ∧ (b = 1001 ∨ b = 1002)) := by
  unfold C_C_visit at h
  replace h := cbr_c h
  rcases h with ⟨hb, h⟩ | ⟨_, h⟩
  · cases beq_t hb
    exact ⟨c_H_has1 h (d + 3), fun q => absurd q (by decide)⟩
  replace h := cbr_c h
  rcases h with ⟨hb, h⟩ | ⟨_, h⟩
  · cases beq_t hb
    exact ⟨c_C_isVisitor h (d + 3), fun q => absurd q (by decide)⟩
  replace h := cbr_c h
  rcases h with ⟨hb, h⟩ | ⟨_, h⟩
  · cases beq_t hb
    exact ⟨c_C_keepBefore h (d + 2), fun q => absurd q (by decide)⟩
  replace h := cbr_c h
  rcases h with ⟨hb, h⟩ | ⟨_, h⟩
  · cases beq_t hb
    exact ⟨c_G_tread h (d + 0), fun q => absurd q (by decide)⟩
  cases h
theorem c_C_visit {av : List Value} {s : Mem} {z : Int32 × Mem} (h : A_C_visit av s = some z) (d : Nat) : Ctr (d + 6) I_C_visit av s z := by
  unfold A_C_visit at h
  split at h
  · replace h := cbr_n h
    obtain ⟨hb, h⟩ := h
    cases beq_t hb
    refine ctr_of (d := d + 5) (own := 10) (kps := []) (code := K_C_visit) (Cl := C_C_visit) o_C_visit rfl (by decide) k_C_visit (l_C_visit d) (c1_of rfl) (Nat.le_of_ble_eq_true rfl) ?_
    intro RA S
    rw [e_C_visit] at h
    refine S.2 _ ?_ 700 0 _ _ (ck1_of rfl) h
    intro k ls s h
    cases h
  · cases h
set_option maxRecDepth 1000000 in
theorem k_N_at : okC 3 I_N_at.2.2.1 I_N_at.2.1 I_N_at.2.2.2.1 [] K_N_at K_N_at = true := by decide +kernel
theorem l_N_at (d : Nat) (k : Nat) (av : List Value) (s : Mem) (y : Int32 × Mem) (h : C_N_at k av s = some y) : Ctr (d + 1) (mtab k) av s y ∧ ((mtab k).2.2.2.2.2 = 77 → ∃ b rest, av = .ref b :: rest ∧ (b = 1001 ∨ b = 1002)) := by
  unfold C_N_at at h
  replace h := cbr_c h
  rcases h with ⟨hb, h⟩ | ⟨_, h⟩
  · cases beq_t hb
    exact ⟨c_C_within h (d + 0), fun q => absurd q (by decide)⟩
  cases h
theorem c_N_at {av : List Value} {s : Mem} {z : Int32 × Mem} (h : A_N_at av s = some z) (d : Nat) : Ctr (d + 2) I_N_at av s z := by
  unfold A_N_at at h
  split at h
  · refine ctr_of (d := d + 1) (own := 3) (kps := []) (code := K_N_at) (Cl := C_N_at) o_N_at rfl (by decide) k_N_at (l_N_at d) (c1_of rfl) (Nat.le_of_ble_eq_true rfl) ?_
    intro RA S
    rw [e_N_at] at h
    refine S.2 _ ?_ 700 0 _ _ (ck1_of rfl) h
    intro k ls s h
    cases h
  · cases h
set_option maxRecDepth 1000000 in
theorem k_G_dawn : okC 6 I_G_dawn.2.2.1 I_G_dawn.2.1 I_G_dawn.2.2.2.1 [] K_G_dawn K_G_dawn = true := by decide +kernel
theorem l_G_dawn (d : Nat) (k : Nat) (av : List Value) (s : Mem) (y : Int32 × Mem) (h : C_G_dawn k av s = some y) : Ctr (d + 3) (mtab k) av s y ∧ ((mtab k).2.2.2.2.2 = 77 → ∃ b rest, av = .ref b :: rest ∧ (b = 1001 ∨ b = 1002)) := by
  unfold C_G_dawn at h
  replace h := cbr_c h
  rcases h with ⟨hb, h⟩ | ⟨_, h⟩
  · cases beq_t hb
    exact ⟨c_H_get h (d + 2), fun q => absurd q (by decide)⟩
  replace h := cbr_c h
  rcases h with ⟨hb, h⟩ | ⟨_, h⟩
  · cases beq_t hb
    exact ⟨c_H_isMissing h (d + 1), fun q => absurd q (by decide)⟩
  replace h := cbr_c h
  rcases h with ⟨hb, h⟩ | ⟨_, h⟩
  · cases beq_t hb
    exact ⟨c_H_put h (d + 2), fun q => absurd q (by decide)⟩
  replace h := cbr_c h
  rcases h with ⟨hb, h⟩ | ⟨_, h⟩
  · cases beq_t hb
    exact ⟨c_G_note h (d + 0), fun q => absurd q (by decide)⟩
  replace h := cbr_c h
  rcases h with ⟨hb, h⟩ | ⟨_, h⟩
  · cases beq_t hb
    exact ⟨c_L_ask h (d + 0), fun q => absurd q (by decide)⟩
  replace h := cbr_c h
  rcases h with ⟨hb, h⟩ | ⟨_, h⟩
  · cases beq_t hb
    exact ⟨c_H_raiseTo h (d + 1), fun q => absurd q (by decide)⟩
  cases h
theorem c_G_dawn {av : List Value} {s : Mem} {z : Int32 × Mem} (h : A_G_dawn av s = some z) (d : Nat) : Ctr (d + 4) I_G_dawn av s z := by
  unfold A_G_dawn at h
  split at h
  · replace h := cbr_n h
    obtain ⟨hb, h⟩ := h
    cases beq_t hb
    refine ctr_of (d := d + 3) (own := 6) (kps := []) (code := K_G_dawn) (Cl := C_G_dawn) o_G_dawn rfl (by decide) k_G_dawn (l_G_dawn d) (c1_of rfl) (Nat.le_of_ble_eq_true rfl) ?_
    intro RA S
    rw [e_G_dawn] at h
    refine S.2 _ ?_ 700 0 _ _ (ck1_of rfl) h
    intro k ls s h
    cases h
  · cases h
set_option maxRecDepth 1000000 in
theorem k_G_passNight : okC 6 I_G_passNight.2.2.1 I_G_passNight.2.1 I_G_passNight.2.2.2.1 [2, 71, 171, 183] K_G_passNight K_G_passNight = true := by decide +kernel
theorem a_G_passNight_2 {z : Int32 × Mem} {RA : Nat → List (Option Value) → Mem → Prop} (hm : ∀ (pc : Nat) (ls ls1 : List (Option Value)) (σ : Mem), ls1.length = I_G_passNight.2.2.1 → (∀ i v, lk ls1 i = some v → lk ls i = some v) → RA pc ls1 σ → RA pc ls σ) {f : Nat → Int32 → Int32 → Mem → Option (Int32 × Mem)} {ls : List (Option Value)} {s : Mem} (h : A_G_passNight_2 f ls s = some z) (hf : ∀ (h1 : Nat) (x2 : Int32) (x3 : Int32) (s : Mem), f h1 x2 x3 s = some z → RA 2 [some (.ref 1), some (.ref h1), some (.int x2), some (.int x3), none, none] s) : RA 2 ls s := by
  unfold A_G_passNight_2 at h
  split at h
  · rename_i a0 a1 a2 a3 e0 e1 e2 e3
    replace h := cbr_n h
    obtain ⟨hb, h⟩ := h
    cases beq_t hb
    refine hm _ _ [some (.ref 1), some (.ref a1), some (.int a2), some (.int a3), none, none] _ rfl (fun i v hv => ?_) (hf _ _ _ _ h)
    match i, hv with
    | 0, hv => exact e0.trans hv
    | 1, hv => exact e1.trans hv
    | 2, hv => exact e2.trans hv
    | 3, hv => exact e3.trans hv
    | 4, hv => cases hv
    | 5, hv => cases hv
    | i + 6, hv => cases hv
  · cases h
theorem a_G_passNight_38 {z : Int32 × Mem} {RA : Nat → List (Option Value) → Mem → Prop} (hm : ∀ (pc : Nat) (ls ls1 : List (Option Value)) (σ : Mem), ls1.length = I_G_passNight.2.2.1 → (∀ i v, lk ls1 i = some v → lk ls i = some v) → RA pc ls1 σ → RA pc ls σ) {f : Nat → Int32 → Int32 → Int32 → Mem → Option (Int32 × Mem)} {ls : List (Option Value)} {s : Mem} (h : A_G_passNight_38 f ls s = some z) (hf : ∀ (h1 : Nat) (x2 : Int32) (x3 : Int32) (x4 : Int32) (s : Mem), f h1 x2 x3 x4 s = some z → RA 71 [some (.ref 1), some (.ref h1), some (.int x2), some (.int x3), some (.int x4), none] s) : RA 71 ls s := by
  unfold A_G_passNight_38 at h
  split at h
  · rename_i a0 a1 a2 a3 a4 e0 e1 e2 e3 e4
    replace h := cbr_n h
    obtain ⟨hb, h⟩ := h
    cases beq_t hb
    refine hm _ _ [some (.ref 1), some (.ref a1), some (.int a2), some (.int a3), some (.int a4), none] _ rfl (fun i v hv => ?_) (hf _ _ _ _ _ h)
    match i, hv with
    | 0, hv => exact e0.trans hv
    | 1, hv => exact e1.trans hv
    | 2, hv => exact e2.trans hv
    | 3, hv => exact e3.trans hv
    | 4, hv => exact e4.trans hv
    | 5, hv => cases hv
    | i + 6, hv => cases hv
  · cases h
theorem a_G_passNight_89 {z : Int32 × Mem} {RA : Nat → List (Option Value) → Mem → Prop} (hm : ∀ (pc : Nat) (ls ls1 : List (Option Value)) (σ : Mem), ls1.length = I_G_passNight.2.2.1 → (∀ i v, lk ls1 i = some v → lk ls i = some v) → RA pc ls1 σ → RA pc ls σ) {f : Nat → Int32 → Int32 → Int32 → Mem → Option (Int32 × Mem)} {ls : List (Option Value)} {s : Mem} (h : A_G_passNight_89 f ls s = some z) (hf : ∀ (h1 : Nat) (x2 : Int32) (x3 : Int32) (x4 : Int32) (s : Mem), f h1 x2 x3 x4 s = some z → RA 171 [some (.ref 1), some (.ref h1), some (.int x2), some (.int x3), some (.int x4), none] s) : RA 171 ls s := by
  unfold A_G_passNight_89 at h
  split at h
  · rename_i a0 a1 a2 a3 a4 e0 e1 e2 e3 e4
    replace h := cbr_n h
    obtain ⟨hb, h⟩ := h
    cases beq_t hb
    refine hm _ _ [some (.ref 1), some (.ref a1), some (.int a2), some (.int a3), some (.int a4), none] _ rfl (fun i v hv => ?_) (hf _ _ _ _ _ h)
    match i, hv with
    | 0, hv => exact e0.trans hv
    | 1, hv => exact e1.trans hv
    | 2, hv => exact e2.trans hv
    | 3, hv => exact e3.trans hv
    | 4, hv => exact e4.trans hv
    | 5, hv => cases hv
    | i + 6, hv => cases hv
  · cases h
theorem a_G_passNight_95 {z : Int32 × Mem} {RA : Nat → List (Option Value) → Mem → Prop} (hm : ∀ (pc : Nat) (ls ls1 : List (Option Value)) (σ : Mem), ls1.length = I_G_passNight.2.2.1 → (∀ i v, lk ls1 i = some v → lk ls i = some v) → RA pc ls1 σ → RA pc ls σ) {f : Nat → Int32 → Int32 → Int32 → Int32 → Mem → Option (Int32 × Mem)} {ls : List (Option Value)} {s : Mem} (h : A_G_passNight_95 f ls s = some z) (hf : ∀ (h1 : Nat) (x2 : Int32) (x3 : Int32) (x4 : Int32) (x5 : Int32) (s : Mem), f h1 x2 x3 x4 x5 s = some z → RA 183 [some (.ref 1), some (.ref h1), some (.int x2), some (.int x3), some (.int x4), some (.int x5)] s) : RA 183 ls s := by
  unfold A_G_passNight_95 at h
  split at h
  · rename_i a0 a1 a2 a3 a4 a5 e0 e1 e2 e3 e4 e5
    replace h := cbr_n h
    obtain ⟨hb, h⟩ := h
    cases beq_t hb
    refine hm _ _ [some (.ref 1), some (.ref a1), some (.int a2), some (.int a3), some (.int a4), some (.int a5)] _ rfl (fun i v hv => ?_) (hf _ _ _ _ _ _ h)
    match i, hv with
    | 0, hv => exact e0.trans hv
    | 1, hv => exact e1.trans hv
    | 2, hv => exact e2.trans hv
    | 3, hv => exact e3.trans hv
    | 4, hv => exact e4.trans hv
    | 5, hv => exact e5.trans hv
    | i + 6, hv => cases hv
  · cases h
theorem n_G_passNight_95 {z : Int32 × Mem} {RA : Nat → List (Option Value) → Mem → Prop} (S : Sm I_G_passNight C_G_passNight K_G_passNight [2, 71, 171, 183] z RA) {k89 : Nat → Int32 → Int32 → Int32 → Mem → Option (Int32 × Mem)} (hk89 : ∀ (h1 : Nat) (x2 : Int32) (x3 : Int32) (x4 : Int32) (s : Mem), k89 h1 x2 x3 x4 s = some z → RA 171 [some (.ref 1), some (.ref h1), some (.int x2), some (.int x3), some (.int x4), none] s) : ∀ (n : Nat) (h1 : Nat) (x2 : Int32) (x3 : Int32) (x4 : Int32) (x5 : Int32) (s : Mem), F_G_passNight_95 k89 n h1 x2 x3 x4 x5 s = some z → RA 183 [some (.ref 1), some (.ref h1), some (.int x2), some (.int x3), some (.int x4), some (.int x5)] s := by
  intro n
  induction n with
  | zero => intro h1 x2 x3 x4 x5 s h; exact nomatch (show (none : Option (Int32 × Mem)) = some z from h)
  | succ n ih =>
    intro h1 x2 x3 x4 x5 s h
    rw [e_G_passNight_95] at h
    refine S.2 _ ?_ 700 99 _ _ (ck1_of rfl) h
    intro k ls s h
    replace h := cbr_c h
    rcases h with ⟨hb, h⟩ | ⟨_, h⟩
    · cases beq_t hb
      exact a_G_passNight_89 S.1 h hk89
    replace h := cbr_c h
    rcases h with ⟨hb, h⟩ | ⟨_, h⟩
    · cases beq_t hb
      exact a_G_passNight_95 S.1 h ih
    cases h
theorem n_G_passNight_89 {z : Int32 × Mem} {RA : Nat → List (Option Value) → Mem → Prop} (S : Sm I_G_passNight C_G_passNight K_G_passNight [2, 71, 171, 183] z RA) : ∀ (n : Nat) (h1 : Nat) (x2 : Int32) (x3 : Int32) (x4 : Int32) (s : Mem), F_G_passNight_89 n h1 x2 x3 x4 s = some z → RA 171 [some (.ref 1), some (.ref h1), some (.int x2), some (.int x3), some (.int x4), none] s := by
  intro n
  induction n with
  | zero => intro h1 x2 x3 x4 s h; exact nomatch (show (none : Option (Int32 × Mem)) = some z from h)
  | succ n ih =>
    intro h1 x2 x3 x4 s h
    rw [e_G_passNight_89] at h
    refine S.2 _ ?_ 700 92 _ _ (ck1_of rfl) h
    intro k ls s h
    replace h := cbr_c h
    rcases h with ⟨hb, h⟩ | ⟨_, h⟩
    · cases beq_t hb
      exact a_G_passNight_95 S.1 h (n_G_passNight_95 S ih gF)
    cases h
theorem n_G_passNight_38 {z : Int32 × Mem} {RA : Nat → List (Option Value) → Mem → Prop} (S : Sm I_G_passNight C_G_passNight K_G_passNight [2, 71, 171, 183] z RA) : ∀ (n : Nat) (h1 : Nat) (x2 : Int32) (x3 : Int32) (x4 : Int32) (s : Mem), F_G_passNight_38 n h1 x2 x3 x4 s = some z → RA 71 [some (.ref 1), some (.ref h1), some (.int x2), some (.int x3), some (.int x4), none] s := by
  intro n
  induction n with
  | zero => intro h1 x2 x3 x4 s h; exact nomatch (show (none : Option (Int32 × Mem)) = some z from h)
  | succ n ih =>
    intro h1 x2 x3 x4 s h
    rw [e_G_passNight_38] at h
    refine S.2 _ ?_ 700 40 _ _ (ck1_of rfl) h
    intro k ls s h
    replace h := cbr_c h
    rcases h with ⟨hb, h⟩ | ⟨_, h⟩
    · cases beq_t hb
      exact a_G_passNight_38 S.1 h ih
    replace h := cbr_c h
    rcases h with ⟨hb, h⟩ | ⟨_, h⟩
    · cases beq_t hb
      exact a_G_passNight_89 S.1 h (n_G_passNight_89 S gF)
    cases h
theorem n_G_passNight_2 {z : Int32 × Mem} {RA : Nat → List (Option Value) → Mem → Prop} (S : Sm I_G_passNight C_G_passNight K_G_passNight [2, 71, 171, 183] z RA) : ∀ (n : Nat) (h1 : Nat) (x2 : Int32) (x3 : Int32) (s : Mem), F_G_passNight_2 n h1 x2 x3 s = some z → RA 2 [some (.ref 1), some (.ref h1), some (.int x2), some (.int x3), none, none] s := by
  intro n
  induction n with
  | zero => intro h1 x2 x3 s h; exact nomatch (show (none : Option (Int32 × Mem)) = some z from h)
  | succ n ih =>
    intro h1 x2 x3 s h
    rw [e_G_passNight_2] at h
    refine S.2 _ ?_ 700 3 _ _ (ck1_of rfl) h
    intro k ls s h
    replace h := cbr_c h
    rcases h with ⟨hb, h⟩ | ⟨_, h⟩
    · cases beq_t hb
      exact a_G_passNight_2 S.1 h ih
    replace h := cbr_c h
    rcases h with ⟨hb, h⟩ | ⟨_, h⟩
    · cases beq_t hb
      exact a_G_passNight_38 S.1 h (n_G_passNight_38 S gF)
    cases h
theorem l_G_passNight (d : Nat) (k : Nat) (av : List Value) (s : Mem) (y : Int32 × Mem) (h : C_G_passNight k av s = some y) : Ctr (d + 5) (mtab k) av s y ∧ ((mtab k).2.2.2.2.2 = 77 → ∃ b rest, av = .ref b :: rest ∧ (b = 1001 ∨ b = 1002)) := by
  unfold C_G_passNight at h
  replace h := cbr_c h
  rcases h with ⟨hb, h⟩ | ⟨_, h⟩
  · cases beq_t hb
    exact ⟨c_N_at h (d + 3), fun q => absurd q (by decide)⟩
  replace h := cbr_c h
  rcases h with ⟨hb, h⟩ | ⟨_, h⟩
  · cases beq_t hb
    exact ⟨c_G_obey h (d + 2), fun q => absurd q (by decide)⟩
  replace h := cbr_c h
  rcases h with ⟨hb, h⟩ | ⟨_, h⟩
  · cases beq_t hb
    exact ⟨c_G_tread h (d + 0), fun q => absurd q (by decide)⟩
  replace h := cbr_c h
  rcases h with ⟨hb, h⟩ | ⟨_, h⟩
  · cases beq_t hb
    exact ⟨c_H_size h (d + 3), fun q => absurd q (by decide)⟩
  replace h := cbr_c h
  rcases h with ⟨hb, h⟩ | ⟨_, h⟩
  · cases beq_t hb
    exact ⟨c_G_dawn h (d + 1), fun q => absurd q (by decide)⟩
  cases h
theorem c_G_passNight {av : List Value} {s : Mem} {z : Int32 × Mem} (h : A_G_passNight av s = some z) (d : Nat) : Ctr (d + 6) I_G_passNight av s z := by
  unfold A_G_passNight at h
  split at h
  · replace h := cbr_n h
    obtain ⟨hb, h⟩ := h
    cases beq_t hb
    refine ctr_of (d := d + 5) (own := 6) (kps := [2, 71, 171, 183]) (code := K_G_passNight) (Cl := C_G_passNight) o_G_passNight rfl (by decide) k_G_passNight (l_G_passNight d) (c1_of rfl) (Nat.le_of_ble_eq_true rfl) ?_
    intro RA S
    rw [e_G_passNight] at h
    refine S.2 _ ?_ 700 0 _ _ (ck1_of rfl) h
    intro k ls s h
    replace h := cbr_c h
    rcases h with ⟨hb, h⟩ | ⟨_, h⟩
    · cases beq_t hb
      exact a_G_passNight_2 S.1 h (n_G_passNight_2 S gF)
    cases h
  · cases h
set_option maxRecDepth 1000000 in
theorem k_C_nights : okC 10 I_C_nights.2.2.1 I_C_nights.2.1 I_C_nights.2.2.2.1 [34] K_C_nights K_C_nights = true := by decide +kernel
theorem a_C_nights_19 {z : Int32 × Mem} {RA : Nat → List (Option Value) → Mem → Prop} (hm : ∀ (pc : Nat) (ls ls1 : List (Option Value)) (σ : Mem), ls1.length = I_C_nights.2.2.1 → (∀ i v, lk ls1 i = some v → lk ls i = some v) → RA pc ls1 σ → RA pc ls σ) {f : Int32 → Int32 → Mem → Option (Int32 × Mem)} {ls : List (Option Value)} {s : Mem} (h : A_C_nights_19 f ls s = some z) (hf : ∀ (x2 : Int32) (x3 : Int32) (s : Mem), f x2 x3 s = some z → RA 34 [some (.ref 0), none, some (.int x2), some (.int x3)] s) : RA 34 ls s := by
  unfold A_C_nights_19 at h
  split at h
  · rename_i a0 a1 a2 e0 e1 e2
    replace h := cbr_n h
    obtain ⟨hb, h⟩ := h
    cases beq_t hb
    refine hm _ _ [some (.ref 0), none, some (.int a1), some (.int a2)] _ rfl (fun i v hv => ?_) (hf _ _ _ h)
    match i, hv with
    | 0, hv => exact e0.trans hv
    | 1, hv => cases hv
    | 2, hv => exact e1.trans hv
    | 3, hv => exact e2.trans hv
    | i + 4, hv => cases hv
  · cases h
theorem n_C_nights_19 {z : Int32 × Mem} {RA : Nat → List (Option Value) → Mem → Prop} (S : Sm I_C_nights C_C_nights K_C_nights [34] z RA) : ∀ (n : Nat) (x2 : Int32) (x3 : Int32) (s : Mem), F_C_nights_19 n x2 x3 s = some z → RA 34 [some (.ref 0), none, some (.int x2), some (.int x3)] s := by
  intro n
  induction n with
  | zero => intro x2 x3 s h; exact nomatch (show (none : Option (Int32 × Mem)) = some z from h)
  | succ n ih =>
    intro x2 x3 s h
    rw [e_C_nights_19] at h
    refine S.2 _ ?_ 700 20 _ _ (ck1_of rfl) h
    intro k ls s h
    replace h := cbr_c h
    rcases h with ⟨hb, h⟩ | ⟨_, h⟩
    · cases beq_t hb
      exact a_C_nights_19 S.1 h ih
    cases h
theorem l_C_nights (d : Nat) (k : Nat) (av : List Value) (s : Mem) (y : Int32 × Mem) (h : C_C_nights k av s = some y) : Ctr (d + 6) (mtab k) av s y ∧ ((mtab k).2.2.2.2.2 = 77 → ∃ b rest, av = .ref b :: rest ∧ (b = 1001 ∨ b = 1002)) := by
  unfold C_C_nights at h
  replace h := cbr_c h
  rcases h with ⟨hb, h⟩ | ⟨_, h⟩
  · cases beq_t hb
    exact ⟨c_C_within h (d + 5), fun q => absurd q (by decide)⟩
  replace h := cbr_c h
  rcases h with ⟨hb, h⟩ | ⟨_, h⟩
  · cases beq_t hb
    exact ⟨c_G_passNight h (d + 0), fun q => absurd q (by decide)⟩
  replace h := cbr_c h
  rcases h with ⟨hb, h⟩ | ⟨_, h⟩
  · cases beq_t hb
    exact ⟨c_C_keepBefore h (d + 3), fun q => absurd q (by decide)⟩
  cases h
theorem c_C_nights {av : List Value} {s : Mem} {z : Int32 × Mem} (h : A_C_nights av s = some z) (d : Nat) : Ctr (d + 7) I_C_nights av s z := by
  unfold A_C_nights at h
  split at h
  · replace h := cbr_n h
    obtain ⟨hb, h⟩ := h
    cases beq_t hb
    refine ctr_of (d := d + 6) (own := 10) (kps := [34]) (code := K_C_nights) (Cl := C_C_nights) o_C_nights rfl (by decide) k_C_nights (l_C_nights d) (c1_of rfl) (Nat.le_of_ble_eq_true rfl) ?_
    intro RA S
    rw [e_C_nights] at h
    refine S.2 _ ?_ 700 0 _ _ (ck1_of rfl) h
    intro k ls s h
    replace h := cbr_c h
    rcases h with ⟨hb, h⟩ | ⟨_, h⟩
    · cases beq_t hb
      exact a_C_nights_19 S.1 h (n_C_nights_19 S gF)
    cases h
  · cases h
set_option maxRecDepth 1000000 in
theorem k_C_putBytes : okC 10 I_C_putBytes.2.2.1 I_C_putBytes.2.1 I_C_putBytes.2.2.2.1 [3] K_C_putBytes K_C_putBytes = true := by decide +kernel
theorem a_C_putBytes_2 {z : Int32 × Mem} {RA : Nat → List (Option Value) → Mem → Prop} (hm : ∀ (pc : Nat) (ls ls1 : List (Option Value)) (σ : Mem), ls1.length = I_C_putBytes.2.2.1 → (∀ i v, lk ls1 i = some v → lk ls i = some v) → RA pc ls1 σ → RA pc ls σ) {f : Int32 → Int32 → Mem → Option (Int32 × Mem)} {ls : List (Option Value)} {s : Mem} (h : A_C_putBytes_2 f ls s = some z) (hf : ∀ (x1 : Int32) (x2 : Int32) (s : Mem), f x1 x2 s = some z → RA 3 [some (.ref 0), some (.int x1), some (.int x2)] s) : RA 3 ls s := by
  unfold A_C_putBytes_2 at h
  split at h
  · rename_i a0 a1 a2 e0 e1 e2
    replace h := cbr_n h
    obtain ⟨hb, h⟩ := h
    cases beq_t hb
    refine hm _ _ [some (.ref 0), some (.int a1), some (.int a2)] _ rfl (fun i v hv => ?_) (hf _ _ _ h)
    match i, hv with
    | 0, hv => exact e0.trans hv
    | 1, hv => exact e1.trans hv
    | 2, hv => exact e2.trans hv
    | i + 3, hv => cases hv
  · cases h
theorem n_C_putBytes_2 {z : Int32 × Mem} {RA : Nat → List (Option Value) → Mem → Prop} (S : Sm I_C_putBytes C_C_putBytes K_C_putBytes [3] z RA) : ∀ (n : Nat) (x1 : Int32) (x2 : Int32) (s : Mem), F_C_putBytes_2 n x1 x2 s = some z → RA 3 [some (.ref 0), some (.int x1), some (.int x2)] s := by
  intro n
  induction n with
  | zero => intro x1 x2 s h; exact nomatch (show (none : Option (Int32 × Mem)) = some z from h)
  | succ n ih =>
    intro x1 x2 s h
    rw [e_C_putBytes_2] at h
    refine S.2 _ ?_ 700 3 _ _ (ck1_of rfl) h
    intro k ls s h
    replace h := cbr_c h
    rcases h with ⟨hb, h⟩ | ⟨_, h⟩
    · cases beq_t hb
      exact a_C_putBytes_2 S.1 h ih
    cases h
theorem l_C_putBytes (d : Nat) (k : Nat) (av : List Value) (s : Mem) (y : Int32 × Mem) (h : C_C_putBytes k av s = some y) : Ctr (d + 0) (mtab k) av s y ∧ ((mtab k).2.2.2.2.2 = 77 → ∃ b rest, av = .ref b :: rest ∧ (b = 1001 ∨ b = 1002)) := by
  exact nomatch (show (none : Option (Int32 × Mem)) = some y from h)
theorem c_C_putBytes {av : List Value} {s : Mem} {z : Int32 × Mem} (h : A_C_putBytes av s = some z) (d : Nat) : Ctr (d + 1) I_C_putBytes av s z := by
  unfold A_C_putBytes at h
  split at h
  · replace h := cbr_n h
    obtain ⟨hb, h⟩ := h
    cases beq_t hb
    refine ctr_of (d := d + 0) (own := 10) (kps := [3]) (code := K_C_putBytes) (Cl := C_C_putBytes) o_C_putBytes rfl (by decide) k_C_putBytes (l_C_putBytes d) (c1_of rfl) (Nat.le_of_ble_eq_true rfl) ?_
    intro RA S
    rw [e_C_putBytes] at h
    refine S.2 _ ?_ 700 0 _ _ (ck1_of rfl) h
    intro k ls s h
    replace h := cbr_c h
    rcases h with ⟨hb, h⟩ | ⟨_, h⟩
    · cases beq_t hb
      exact a_C_putBytes_2 S.1 h (n_C_putBytes_2 S gF)
    cases h
  · cases h
set_option maxRecDepth 1000000 in
theorem k_C_feed : okC 10 I_C_feed.2.2.1 I_C_feed.2.1 I_C_feed.2.2.2.1 [] K_C_feed K_C_feed = true := by decide +kernel
theorem l_C_feed (d : Nat) (k : Nat) (av : List Value) (s : Mem) (y : Int32 × Mem) (h : C_C_feed k av s = some y) : Ctr (d + 1) (mtab k) av s y ∧ ((mtab k).2.2.2.2.2 = 77 → ∃ b rest, av = .ref b :: rest ∧ (b = 1001 ∨ b = 1002)) := by
  unfold C_C_feed at h
  replace h := cbr_c h
  rcases h with ⟨hb, h⟩ | ⟨_, h⟩
  · cases beq_t hb
    exact ⟨c_C_putBytes h (d + 0), fun q => absurd q (by decide)⟩
  cases h
theorem c_C_feed {av : List Value} {s : Mem} {z : Int32 × Mem} (h : A_C_feed av s = some z) (d : Nat) : Ctr (d + 2) I_C_feed av s z := by
  unfold A_C_feed at h
  split at h
  · replace h := cbr_n h
    obtain ⟨hb, h⟩ := h
    cases beq_t hb
    refine ctr_of (d := d + 1) (own := 10) (kps := []) (code := K_C_feed) (Cl := C_C_feed) o_C_feed rfl (by decide) k_C_feed (l_C_feed d) (c1_of rfl) (Nat.le_of_ble_eq_true rfl) ?_
    intro RA S
    rw [e_C_feed] at h
    refine S.2 _ ?_ 700 0 _ _ (ck1_of rfl) h
    intro k ls s h
    cases h
  · cases h
set_option maxRecDepth 1000000 in
theorem k_C_end : okC 10 I_C_end.2.2.1 I_C_end.2.1 I_C_end.2.2.2.1 [] K_C_end K_C_end = true := by decide +kernel
theorem l_C_end (d : Nat) (k : Nat) (av : List Value) (s : Mem) (y : Int32 × Mem) (h : C_C_end k av s = some y) : Ctr (d + 1) (mtab k) av s y ∧ ((mtab k).2.2.2.2.2 = 77 → ∃ b rest, av = .ref b :: rest ∧ (b = 1001 ∨ b = 1002)) := by
  unfold C_C_end at h
  replace h := cbr_c h
  rcases h with ⟨hb, h⟩ | ⟨_, h⟩
  · cases beq_t hb
    exact ⟨c_C_within h (d + 0), fun q => absurd q (by decide)⟩
  cases h
theorem c_C_end {av : List Value} {s : Mem} {z : Int32 × Mem} (h : A_C_end av s = some z) (d : Nat) : Ctr (d + 2) I_C_end av s z := by
  unfold A_C_end at h
  split at h
  · replace h := cbr_n h
    obtain ⟨hb, h⟩ := h
    cases beq_t hb
    refine ctr_of (d := d + 1) (own := 10) (kps := []) (code := K_C_end) (Cl := C_C_end) o_C_end rfl (by decide) k_C_end (l_C_end d) (c1_of rfl) (Nat.le_of_ble_eq_true rfl) ?_
    intro RA S
    rw [e_C_end] at h
    refine S.2 _ ?_ 700 0 _ _ (ck1_of rfl) h
    intro k ls s h
    cases h
  · cases h
set_option maxRecDepth 1000000 in
theorem k_P_isLetter : okC 5 I_P_isLetter.2.2.1 I_P_isLetter.2.1 I_P_isLetter.2.2.2.1 [] K_P_isLetter K_P_isLetter = true := by decide +kernel
theorem l_P_isLetter (d : Nat) (k : Nat) (av : List Value) (s : Mem) (y : Int32 × Mem) (h : C_P_isLetter k av s = some y) : Ctr (d + 1) (mtab k) av s y ∧ ((mtab k).2.2.2.2.2 = 77 → ∃ b rest, av = .ref b :: rest ∧ (b = 1001 ∨ b = 1002)) := by
  unfold C_P_isLetter at h
  replace h := cbr_c h
  rcases h with ⟨hb, h⟩ | ⟨_, h⟩
  · cases beq_t hb
    exact ⟨c_C_within h (d + 0), fun q => absurd q (by decide)⟩
  cases h
theorem c_P_isLetter {av : List Value} {s : Mem} {z : Int32 × Mem} (h : A_P_isLetter av s = some z) (d : Nat) : Ctr (d + 2) I_P_isLetter av s z := by
  unfold A_P_isLetter at h
  split at h
  · refine ctr_of (d := d + 1) (own := 5) (kps := []) (code := K_P_isLetter) (Cl := C_P_isLetter) o_P_isLetter rfl (by decide) k_P_isLetter (l_P_isLetter d) (c1_of rfl) (Nat.le_of_ble_eq_true rfl) ?_
    intro RA S
    rw [e_P_isLetter] at h
    refine S.2 _ ?_ 700 0 _ _ (ck1_of rfl) h
    intro k ls s h
    cases h
  · cases h
