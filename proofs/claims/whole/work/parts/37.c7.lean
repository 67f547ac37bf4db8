set_option maxRecDepth 1000000 in
theorem k_R_coins : okC 11 I_R_coins.2.2.1 I_R_coins.2.1 I_R_coins.2.2.2.1 [] K_R_coins K_R_coins = true := by decide +kernel
theorem l_R_coins (d : Nat) (k : Nat) (av : List Value) (s : Mem) (y : Int32 × Mem) (h : C_R_coins k av s = some y) : Ctr (d + 1) (mtab k) av s y ∧ ((mtab k).2.2.2.2.2 = 77 → ∃ b rest, av = .ref b :: rest ∧ (b = 1001 ∨ b = 1002)) := by
  unfold C_R_coins at h
  replace h := cbr_c h
  rcases h with ⟨hb, h⟩ | ⟨_, h⟩
  · cases beq_t hb
    exact ⟨c_R_isIn h (d + 0), fun q => absurd q (by decide)⟩
  cases h
theorem c_R_coins {av : List Value} {s : Mem} {z : Int32 × Mem} (h : A_R_coins av s = some z) (d : Nat) : Ctr (d + 2) I_R_coins av s z := by
  unfold A_R_coins at h
  split at h
  · replace h := cbr_n h
    obtain ⟨hb, h⟩ := h
    cases beq_t hb
    refine ctr_of (d := d + 1) (own := 11) (kps := []) (code := K_R_coins) (Cl := C_R_coins) o_R_coins rfl (by decide) k_R_coins (l_R_coins d) (c1_of rfl) (Nat.le_of_ble_eq_true rfl) ?_
    intro RA S
    rw [e_R_coins] at h
    refine S.2 _ ?_ 700 0 _ _ (ck1_of rfl) h
    intro k ls s h
    cases h
  · cases h
set_option maxRecDepth 1000000 in
theorem k_R_game : okC 11 I_R_game.2.2.1 I_R_game.2.1 I_R_game.2.2.2.1 [48, 73] K_R_game K_R_game = true := by decide +kernel
theorem a_R_game_33 {z : Int32 × Mem} {RA : Nat → List (Option Value) → Mem → Prop} (hm : ∀ (pc : Nat) (ls ls1 : List (Option Value)) (σ : Mem), ls1.length = I_R_game.2.2.1 → (∀ i v, lk ls1 i = some v → lk ls i = some v) → RA pc ls1 σ → RA pc ls σ) {f : Int32 → Int32 → Int32 → Mem → Option (Int32 × Mem)} {ls : List (Option Value)} {s : Mem} (h : A_R_game_33 f ls s = some z) (hf : ∀ (x1 : Int32) (x2 : Int32) (x3 : Int32) (s : Mem), f x1 x2 x3 s = some z → RA 48 [some (.ref 123), some (.int x1), some (.int x2), some (.int x3), none, none] s) : RA 48 ls s := by
  unfold A_R_game_33 at h
  split at h
  · rename_i a0 a1 a2 a3 e0 e1 e2 e3
    replace h := cbr_n h
    obtain ⟨hb, h⟩ := h
    cases beq_t hb
    refine hm _ _ [some (.ref 123), some (.int a1), some (.int a2), some (.int a3), none, none] _ rfl (fun i v hv => ?_) (hf _ _ _ _ h)
    match i, hv with
    | 0, hv => exact e0.trans hv
    | 1, hv => exact e1.trans hv
    | 2, hv => exact e2.trans hv
    | 3, hv => exact e3.trans hv
    | 4, hv => cases hv
    | 5, hv => cases hv
    | i + 6, hv => cases hv
  · cases h
theorem a_R_game_49 {z : Int32 × Mem} {RA : Nat → List (Option Value) → Mem → Prop} (hm : ∀ (pc : Nat) (ls ls1 : List (Option Value)) (σ : Mem), ls1.length = I_R_game.2.2.1 → (∀ i v, lk ls1 i = some v → lk ls i = some v) → RA pc ls1 σ → RA pc ls σ) {f : Int32 → Int32 → Int32 → Int32 → Int32 → Mem → Option (Int32 × Mem)} {ls : List (Option Value)} {s : Mem} (h : A_R_game_49 f ls s = some z) (hf : ∀ (x1 : Int32) (x2 : Int32) (x3 : Int32) (x4 : Int32) (x5 : Int32) (s : Mem), f x1 x2 x3 x4 x5 s = some z → RA 73 [some (.ref 123), some (.int x1), some (.int x2), some (.int x3), some (.int x4), some (.int x5)] s) : RA 73 ls s := by
  unfold A_R_game_49 at h
  split at h
  · rename_i a0 a1 a2 a3 a4 a5 e0 e1 e2 e3 e4 e5
    replace h := cbr_n h
    obtain ⟨hb, h⟩ := h
    cases beq_t hb
    refine hm _ _ [some (.ref 123), some (.int a1), some (.int a2), some (.int a3), some (.int a4), some (.int a5)] _ rfl (fun i v hv => ?_) (hf _ _ _ _ _ _ h)
    match i, hv with
    | 0, hv => exact e0.trans hv
    | 1, hv => exact e1.trans hv
    | 2, hv => exact e2.trans hv
    | 3, hv => exact e3.trans hv
    | 4, hv => exact e4.trans hv
    | 5, hv => exact e5.trans hv
    | i + 6, hv => cases hv
  · cases h
theorem n_R_game_49 {z : Int32 × Mem} {RA : Nat → List (Option Value) → Mem → Prop} (S : Sm I_R_game C_R_game K_R_game [48, 73] z RA) {k33 : Int32 → Int32 → Int32 → Mem → Option (Int32 × Mem)} (hk33 : ∀ (x1 : Int32) (x2 : Int32) (x3 : Int32) (s : Mem), k33 x1 x2 x3 s = some z → RA 48 [some (.ref 123), some (.int x1), some (.int x2), some (.int x3), none, none] s) : ∀ (n : Nat) (x1 : Int32) (x2 : Int32) (x3 : Int32) (x4 : Int32) (x5 : Int32) (s : Mem), F_R_game_49 k33 n x1 x2 x3 x4 x5 s = some z → RA 73 [some (.ref 123), some (.int x1), some (.int x2), some (.int x3), some (.int x4), some (.int x5)] s := by
  intro n
  induction n with
  | zero => intro x1 x2 x3 x4 x5 s h; exact nomatch (show (none : Option (Int32 × Mem)) = some z from h)
  | succ n ih =>
    intro x1 x2 x3 x4 x5 s h
    rw [e_R_game_49] at h
    refine S.2 _ ?_ 700 51 _ _ (ck1_of rfl) h
    intro k ls s h
    replace h := cbr_c h
    rcases h with ⟨hb, h⟩ | ⟨_, h⟩
    · cases beq_t hb
      exact a_R_game_33 S.1 h hk33
    replace h := cbr_c h
    rcases h with ⟨hb, h⟩ | ⟨_, h⟩
    · cases beq_t hb
      exact a_R_game_49 S.1 h ih
    cases h
theorem n_R_game_33 {z : Int32 × Mem} {RA : Nat → List (Option Value) → Mem → Prop} (S : Sm I_R_game C_R_game K_R_game [48, 73] z RA) : ∀ (n : Nat) (x1 : Int32) (x2 : Int32) (x3 : Int32) (s : Mem), F_R_game_33 n x1 x2 x3 s = some z → RA 48 [some (.ref 123), some (.int x1), some (.int x2), some (.int x3), none, none] s := by
  intro n
  induction n with
  | zero => intro x1 x2 x3 s h; exact nomatch (show (none : Option (Int32 × Mem)) = some z from h)
  | succ n ih =>
    intro x1 x2 x3 s h
    rw [e_R_game_33] at h
    refine S.2 _ ?_ 700 34 _ _ (ck1_of rfl) h
    intro k ls s h
    replace h := cbr_c h
    rcases h with ⟨hb, h⟩ | ⟨_, h⟩
    · cases beq_t hb
      exact a_R_game_49 S.1 h (n_R_game_49 S ih gF)
    cases h
theorem l_R_game (d : Nat) (k : Nat) (av : List Value) (s : Mem) (y : Int32 × Mem) (h : C_R_game k av s = some y) : Ctr (d + 1) (mtab k) av s y ∧ ((mtab k).2.2.2.2.2 = 77 → ∃ b rest, av = .ref b :: rest ∧ (b = 1001 ∨ b = 1002)) := by
  unfold C_R_game at h
  replace h := cbr_c h
  rcases h with ⟨hb, h⟩ | ⟨_, h⟩
  · cases beq_t hb
    exact ⟨c_R_isIn h (d + 0), fun q => absurd q (by decide)⟩
  cases h
theorem c_R_game {av : List Value} {s : Mem} {z : Int32 × Mem} (h : A_R_game av s = some z) (d : Nat) : Ctr (d + 2) I_R_game av s z := by
  unfold A_R_game at h
  split at h
  · replace h := cbr_n h
    obtain ⟨hb, h⟩ := h
    cases beq_t hb
    refine ctr_of (d := d + 1) (own := 11) (kps := [48, 73]) (code := K_R_game) (Cl := C_R_game) o_R_game rfl (by decide) k_R_game (l_R_game d) (c1_of rfl) (Nat.le_of_ble_eq_true rfl) ?_
    intro RA S
    rw [e_R_game] at h
    refine S.2 _ ?_ 700 0 _ _ (ck1_of rfl) h
    intro k ls s h
    replace h := cbr_c h
    rcases h with ⟨hb, h⟩ | ⟨_, h⟩
    · cases beq_t hb
      exact a_R_game_33 S.1 h (n_R_game_33 S gF)
    cases h
  · cases h
set_option maxRecDepth 1000000 in
theorem k_R_keeps : okC 11 I_R_keeps.2.2.1 I_R_keeps.2.1 I_R_keeps.2.2.2.1 [] K_R_keeps K_R_keeps = true := by decide +kernel
theorem l_R_keeps (d : Nat) (k : Nat) (av : List Value) (s : Mem) (y : Int32 × Mem) (h : C_R_keeps k av s = some y) : Ctr (d + 0) (mtab k) av s y ∧ ((mtab k).2.2.2.2.2 = 77 → ∃ b rest, av = .ref b :: rest ∧ (b = 1001 ∨ b = 1002)) := by
  exact nomatch (show (none : Option (Int32 × Mem)) = some y from h)
theorem c_R_keeps {av : List Value} {s : Mem} {z : Int32 × Mem} (h : A_R_keeps av s = some z) (d : Nat) : Ctr (d + 1) I_R_keeps av s z := by
  unfold A_R_keeps at h
  split at h
  · replace h := cbr_n h
    obtain ⟨hb, h⟩ := h
    cases beq_t hb
    refine ctr_of (d := d + 0) (own := 11) (kps := []) (code := K_R_keeps) (Cl := C_R_keeps) o_R_keeps rfl (by decide) k_R_keeps (l_R_keeps d) (c1_of rfl) (Nat.le_of_ble_eq_true rfl) ?_
    intro RA S
    rw [e_R_keeps] at h
    refine S.2 _ ?_ 700 0 _ _ (ck1_of rfl) h
    intro k ls s h
    cases h
  · cases h
set_option maxRecDepth 1000000 in
theorem k_R_keepsLaw : okC 11 I_R_keepsLaw.2.2.1 I_R_keepsLaw.2.1 I_R_keepsLaw.2.2.2.1 [18, 96] K_R_keepsLaw K_R_keepsLaw = true := by decide +kernel
theorem a_R_keepsLaw_12 {z : Int32 × Mem} {RA : Nat → List (Option Value) → Mem → Prop} (hm : ∀ (pc : Nat) (ls ls1 : List (Option Value)) (σ : Mem), ls1.length = I_R_keepsLaw.2.2.1 → (∀ i v, lk ls1 i = some v → lk ls i = some v) → RA pc ls1 σ → RA pc ls σ) {f : Int32 → Mem → Option (Int32 × Mem)} {ls : List (Option Value)} {s : Mem} (h : A_R_keepsLaw_12 f ls s = some z) (hf : ∀ (x1 : Int32) (s : Mem), f x1 s = some z → RA 18 [some (.ref 123), some (.int x1)] s) : RA 18 ls s := by
  unfold A_R_keepsLaw_12 at h
  split at h
  · rename_i a0 a1 e0 e1
    replace h := cbr_n h
    obtain ⟨hb, h⟩ := h
    cases beq_t hb
    refine hm _ _ [some (.ref 123), some (.int a1)] _ rfl (fun i v hv => ?_) (hf _ _ h)
    match i, hv with
    | 0, hv => exact e0.trans hv
    | 1, hv => exact e1.trans hv
    | i + 2, hv => cases hv
  · cases h
theorem a_R_keepsLaw_59 {z : Int32 × Mem} {RA : Nat → List (Option Value) → Mem → Prop} (hm : ∀ (pc : Nat) (ls ls1 : List (Option Value)) (σ : Mem), ls1.length = I_R_keepsLaw.2.2.1 → (∀ i v, lk ls1 i = some v → lk ls i = some v) → RA pc ls1 σ → RA pc ls σ) {f : Int32 → Mem → Option (Int32 × Mem)} {ls : List (Option Value)} {s : Mem} (h : A_R_keepsLaw_59 f ls s = some z) (hf : ∀ (x1 : Int32) (s : Mem), f x1 s = some z → RA 96 [some (.ref 123), some (.int x1)] s) : RA 96 ls s := by
  unfold A_R_keepsLaw_59 at h
  split at h
  · rename_i a0 a1 e0 e1
    replace h := cbr_n h
    obtain ⟨hb, h⟩ := h
    cases beq_t hb
    refine hm _ _ [some (.ref 123), some (.int a1)] _ rfl (fun i v hv => ?_) (hf _ _ h)
    match i, hv with
    | 0, hv => exact e0.trans hv
    | 1, hv => exact e1.trans hv
    | i + 2, hv => cases hv
  · cases h
theorem n_R_keepsLaw_59 {z : Int32 × Mem} {RA : Nat → List (Option Value) → Mem → Prop} (S : Sm I_R_keepsLaw C_R_keepsLaw K_R_keepsLaw [18, 96] z RA) : ∀ (n : Nat) (x1 : Int32) (s : Mem), F_R_keepsLaw_59 n x1 s = some z → RA 96 [some (.ref 123), some (.int x1)] s := by
  intro n
  induction n with
  | zero => intro x1 s h; exact nomatch (show (none : Option (Int32 × Mem)) = some z from h)
  | succ n ih =>
    intro x1 s h
    rw [e_R_keepsLaw_59] at h
    refine S.2 _ ?_ 700 61 _ _ (ck1_of rfl) h
    intro k ls s h
    replace h := cbr_c h
    rcases h with ⟨hb, h⟩ | ⟨_, h⟩
    · cases beq_t hb
      exact a_R_keepsLaw_59 S.1 h ih
    cases h
theorem n_R_keepsLaw_12 {z : Int32 × Mem} {RA : Nat → List (Option Value) → Mem → Prop} (S : Sm I_R_keepsLaw C_R_keepsLaw K_R_keepsLaw [18, 96] z RA) : ∀ (n : Nat) (x1 : Int32) (s : Mem), F_R_keepsLaw_12 n x1 s = some z → RA 18 [some (.ref 123), some (.int x1)] s := by
  intro n
  induction n with
  | zero => intro x1 s h; exact nomatch (show (none : Option (Int32 × Mem)) = some z from h)
  | succ n ih =>
    intro x1 s h
    rw [e_R_keepsLaw_12] at h
    refine S.2 _ ?_ 700 13 _ _ (ck1_of rfl) h
    intro k ls s h
    replace h := cbr_c h
    rcases h with ⟨hb, h⟩ | ⟨_, h⟩
    · cases beq_t hb
      exact a_R_keepsLaw_12 S.1 h ih
    replace h := cbr_c h
    rcases h with ⟨hb, h⟩ | ⟨_, h⟩
    · cases beq_t hb
      exact a_R_keepsLaw_59 S.1 h (n_R_keepsLaw_59 S gF)
    cases h
theorem l_R_keepsLaw (d : Nat) (k : Nat) (av : List Value) (s : Mem) (y : Int32 × Mem) (h : C_R_keepsLaw k av s = some y) : Ctr (d + 1) (mtab k) av s y ∧ ((mtab k).2.2.2.2.2 = 77 → ∃ b rest, av = .ref b :: rest ∧ (b = 1001 ∨ b = 1002)) := by
  unfold C_R_keepsLaw at h
  replace h := cbr_c h
  rcases h with ⟨hb, h⟩ | ⟨_, h⟩
  · cases beq_t hb
    exact ⟨c_R_keeps h (d + 0), fun q => absurd q (by decide)⟩
  cases h
theorem c_R_keepsLaw {av : List Value} {s : Mem} {z : Int32 × Mem} (h : A_R_keepsLaw av s = some z) (d : Nat) : Ctr (d + 2) I_R_keepsLaw av s z := by
  unfold A_R_keepsLaw at h
  split at h
  · replace h := cbr_n h
    obtain ⟨hb, h⟩ := h
    cases beq_t hb
    refine ctr_of (d := d + 1) (own := 11) (kps := [18, 96]) (code := K_R_keepsLaw) (Cl := C_R_keepsLaw) o_R_keepsLaw rfl (by decide) k_R_keepsLaw (l_R_keepsLaw d) (c1_of rfl) (Nat.le_of_ble_eq_true rfl) ?_
    intro RA S
    rw [e_R_keepsLaw] at h
    refine S.2 _ ?_ 700 0 _ _ (ck1_of rfl) h
    intro k ls s h
    replace h := cbr_c h
    rcases h with ⟨hb, h⟩ | ⟨_, h⟩
    · cases beq_t hb
      exact a_R_keepsLaw_12 S.1 h (n_R_keepsLaw_12 S gF)
    cases h
  · cases h
set_option maxRecDepth 1000000 in
theorem k_R_keepsMany : okC 11 I_R_keepsMany.2.2.1 I_R_keepsMany.2.1 I_R_keepsMany.2.2.2.1 [] K_R_keepsMany K_R_keepsMany = true := by decide +kernel
theorem l_R_keepsMany (d : Nat) (k : Nat) (av : List Value) (s : Mem) (y : Int32 × Mem) (h : C_R_keepsMany k av s = some y) : Ctr (d + 1) (mtab k) av s y ∧ ((mtab k).2.2.2.2.2 = 77 → ∃ b rest, av = .ref b :: rest ∧ (b = 1001 ∨ b = 1002)) := by
  unfold C_R_keepsMany at h
  replace h := cbr_c h
  rcases h with ⟨hb, h⟩ | ⟨_, h⟩
  · cases beq_t hb
    exact ⟨c_R_keeps h (d + 0), fun q => absurd q (by decide)⟩
  cases h
theorem c_R_keepsMany {av : List Value} {s : Mem} {z : Int32 × Mem} (h : A_R_keepsMany av s = some z) (d : Nat) : Ctr (d + 2) I_R_keepsMany av s z := by
  unfold A_R_keepsMany at h
  split at h
  · replace h := cbr_n h
    obtain ⟨hb, h⟩ := h
    cases beq_t hb
    refine ctr_of (d := d + 1) (own := 11) (kps := []) (code := K_R_keepsMany) (Cl := C_R_keepsMany) o_R_keepsMany rfl (by decide) k_R_keepsMany (l_R_keepsMany d) (c1_of rfl) (Nat.le_of_ble_eq_true rfl) ?_
    intro RA S
    rw [e_R_keepsMany] at h
    refine S.2 _ ?_ 700 0 _ _ (ck1_of rfl) h
    intro k ls s h
    cases h
  · cases h
set_option maxRecDepth 1000000 in
theorem k_R_keepsTold : okC 11 I_R_keepsTold.2.2.1 I_R_keepsTold.2.1 I_R_keepsTold.2.2.2.1 [2, 32, 62, 92, 122, 152, 214, 260, 290, 320] K_R_keepsTold K_R_keepsTold = true := by decide +kernel
theorem a_R_keepsTold_2 {z : Int32 × Mem} {RA : Nat → List (Option Value) → Mem → Prop} (hm : ∀ (pc : Nat) (ls ls1 : List (Option Value)) (σ : Mem), ls1.length = I_R_keepsTold.2.2.1 → (∀ i v, lk ls1 i = some v → lk ls i = some v) → RA pc ls1 σ → RA pc ls σ) {f : Int32 → Mem → Option (Int32 × Mem)} {ls : List (Option Value)} {s : Mem} (h : A_R_keepsTold_2 f ls s = some z) (hf : ∀ (x1 : Int32) (s : Mem), f x1 s = some z → RA 2 [some (.ref 123), some (.int x1)] s) : RA 2 ls s := by
  unfold A_R_keepsTold_2 at h
  split at h
  · rename_i a0 a1 e0 e1
    replace h := cbr_n h
    obtain ⟨hb, h⟩ := h
    cases beq_t hb
    refine hm _ _ [some (.ref 123), some (.int a1)] _ rfl (fun i v hv => ?_) (hf _ _ h)
    match i, hv with
    | 0, hv => exact e0.trans hv
    | 1, hv => exact e1.trans hv
    | i + 2, hv => cases hv
  · cases h
theorem a_R_keepsTold_19 {z : Int32 × Mem} {RA : Nat → List (Option Value) → Mem → Prop} (hm : ∀ (pc : Nat) (ls ls1 : List (Option Value)) (σ : Mem), ls1.length = I_R_keepsTold.2.2.1 → (∀ i v, lk ls1 i = some v → lk ls i = some v) → RA pc ls1 σ → RA pc ls σ) {f : Int32 → Mem → Option (Int32 × Mem)} {ls : List (Option Value)} {s : Mem} (h : A_R_keepsTold_19 f ls s = some z) (hf : ∀ (x1 : Int32) (s : Mem), f x1 s = some z → RA 32 [some (.ref 123), some (.int x1)] s) : RA 32 ls s := by
  unfold A_R_keepsTold_19 at h
  split at h
  · rename_i a0 a1 e0 e1
    replace h := cbr_n h
    obtain ⟨hb, h⟩ := h
    cases beq_t hb
    refine hm _ _ [some (.ref 123), some (.int a1)] _ rfl (fun i v hv => ?_) (hf _ _ h)
    match i, hv with
    | 0, hv => exact e0.trans hv
    | 1, hv => exact e1.trans hv
    | i + 2, hv => cases hv
  · cases h
theorem a_R_keepsTold_36 {z : Int32 × Mem} {RA : Nat → List (Option Value) → Mem → Prop} (hm : ∀ (pc : Nat) (ls ls1 : List (Option Value)) (σ : Mem), ls1.length = I_R_keepsTold.2.2.1 → (∀ i v, lk ls1 i = some v → lk ls i = some v) → RA pc ls1 σ → RA pc ls σ) {f : Int32 → Mem → Option (Int32 × Mem)} {ls : List (Option Value)} {s : Mem} (h : A_R_keepsTold_36 f ls s = some z) (hf : ∀ (x1 : Int32) (s : Mem), f x1 s = some z → RA 62 [some (.ref 123), some (.int x1)] s) : RA 62 ls s := by
  unfold A_R_keepsTold_36 at h
  split at h
  · rename_i a0 a1 e0 e1
    replace h := cbr_n h
    obtain ⟨hb, h⟩ := h
    cases beq_t hb
    refine hm _ _ [some (.ref 123), some (.int a1)] _ rfl (fun i v hv => ?_) (hf _ _ h)
    match i, hv with
    | 0, hv => exact e0.trans hv
    | 1, hv => exact e1.trans hv
    | i + 2, hv => cases hv
  · cases h
theorem a_R_keepsTold_53 {z : Int32 × Mem} {RA : Nat → List (Option Value) → Mem → Prop} (hm : ∀ (pc : Nat) (ls ls1 : List (Option Value)) (σ : Mem), ls1.length = I_R_keepsTold.2.2.1 → (∀ i v, lk ls1 i = some v → lk ls i = some v) → RA pc ls1 σ → RA pc ls σ) {f : Int32 → Mem → Option (Int32 × Mem)} {ls : List (Option Value)} {s : Mem} (h : A_R_keepsTold_53 f ls s = some z) (hf : ∀ (x1 : Int32) (s : Mem), f x1 s = some z → RA 92 [some (.ref 123), some (.int x1)] s) : RA 92 ls s := by
  unfold A_R_keepsTold_53 at h
  split at h
  · rename_i a0 a1 e0 e1
    replace h := cbr_n h
    obtain ⟨hb, h⟩ := h
    cases beq_t hb
    refine hm _ _ [some (.ref 123), some (.int a1)] _ rfl (fun i v hv => ?_) (hf _ _ h)
    match i, hv with
    | 0, hv => exact e0.trans hv
    | 1, hv => exact e1.trans hv
    | i + 2, hv => cases hv
  · cases h
theorem a_R_keepsTold_70 {z : Int32 × Mem} {RA : Nat → List (Option Value) → Mem → Prop} (hm : ∀ (pc : Nat) (ls ls1 : List (Option Value)) (σ : Mem), ls1.length = I_R_keepsTold.2.2.1 → (∀ i v, lk ls1 i = some v → lk ls i = some v) → RA pc ls1 σ → RA pc ls σ) {f : Int32 → Mem → Option (Int32 × Mem)} {ls : List (Option Value)} {s : Mem} (h : A_R_keepsTold_70 f ls s = some z) (hf : ∀ (x1 : Int32) (s : Mem), f x1 s = some z → RA 122 [some (.ref 123), some (.int x1)] s) : RA 122 ls s := by
  unfold A_R_keepsTold_70 at h
  split at h
  · rename_i a0 a1 e0 e1
    replace h := cbr_n h
    obtain ⟨hb, h⟩ := h
    cases beq_t hb
    refine hm _ _ [some (.ref 123), some (.int a1)] _ rfl (fun i v hv => ?_) (hf _ _ h)
    match i, hv with
    | 0, hv => exact e0.trans hv
    | 1, hv => exact e1.trans hv
    | i + 2, hv => cases hv
  · cases h
theorem a_R_keepsTold_87 {z : Int32 × Mem} {RA : Nat → List (Option Value) → Mem → Prop} (hm : ∀ (pc : Nat) (ls ls1 : List (Option Value)) (σ : Mem), ls1.length = I_R_keepsTold.2.2.1 → (∀ i v, lk ls1 i = some v → lk ls i = some v) → RA pc ls1 σ → RA pc ls σ) {f : Int32 → Mem → Option (Int32 × Mem)} {ls : List (Option Value)} {s : Mem} (h : A_R_keepsTold_87 f ls s = some z) (hf : ∀ (x1 : Int32) (s : Mem), f x1 s = some z → RA 152 [some (.ref 123), some (.int x1)] s) : RA 152 ls s := by
  unfold A_R_keepsTold_87 at h
  split at h
  · rename_i a0 a1 e0 e1
    replace h := cbr_n h
    obtain ⟨hb, h⟩ := h
    cases beq_t hb
    refine hm _ _ [some (.ref 123), some (.int a1)] _ rfl (fun i v hv => ?_) (hf _ _ h)
    match i, hv with
    | 0, hv => exact e0.trans hv
    | 1, hv => exact e1.trans hv
    | i + 2, hv => cases hv
  · cases h
theorem a_R_keepsTold_124 {z : Int32 × Mem} {RA : Nat → List (Option Value) → Mem → Prop} (hm : ∀ (pc : Nat) (ls ls1 : List (Option Value)) (σ : Mem), ls1.length = I_R_keepsTold.2.2.1 → (∀ i v, lk ls1 i = some v → lk ls i = some v) → RA pc ls1 σ → RA pc ls σ) {f : Int32 → Mem → Option (Int32 × Mem)} {ls : List (Option Value)} {s : Mem} (h : A_R_keepsTold_124 f ls s = some z) (hf : ∀ (x1 : Int32) (s : Mem), f x1 s = some z → RA 214 [some (.ref 123), some (.int x1)] s) : RA 214 ls s := by
  unfold A_R_keepsTold_124 at h
  split at h
  · rename_i a0 a1 e0 e1
    replace h := cbr_n h
    obtain ⟨hb, h⟩ := h
    cases beq_t hb
    refine hm _ _ [some (.ref 123), some (.int a1)] _ rfl (fun i v hv => ?_) (hf _ _ h)
    match i, hv with
    | 0, hv => exact e0.trans hv
    | 1, hv => exact e1.trans hv
    | i + 2, hv => cases hv
  · cases h
theorem a_R_keepsTold_151 {z : Int32 × Mem} {RA : Nat → List (Option Value) → Mem → Prop} (hm : ∀ (pc : Nat) (ls ls1 : List (Option Value)) (σ : Mem), ls1.length = I_R_keepsTold.2.2.1 → (∀ i v, lk ls1 i = some v → lk ls i = some v) → RA pc ls1 σ → RA pc ls σ) {f : Int32 → Mem → Option (Int32 × Mem)} {ls : List (Option Value)} {s : Mem} (h : A_R_keepsTold_151 f ls s = some z) (hf : ∀ (x1 : Int32) (s : Mem), f x1 s = some z → RA 260 [some (.ref 123), some (.int x1)] s) : RA 260 ls s := by
  unfold A_R_keepsTold_151 at h
  split at h
  · rename_i a0 a1 e0 e1
    replace h := cbr_n h
    obtain ⟨hb, h⟩ := h
    cases beq_t hb
    refine hm _ _ [some (.ref 123), some (.int a1)] _ rfl (fun i v hv => ?_) (hf _ _ h)
    match i, hv with
    | 0, hv => exact e0.trans hv
    | 1, hv => exact e1.trans hv
    | i + 2, hv => cases hv
  · cases h
theorem a_R_keepsTold_168 {z : Int32 × Mem} {RA : Nat → List (Option Value) → Mem → Prop} (hm : ∀ (pc : Nat) (ls ls1 : List (Option Value)) (σ : Mem), ls1.length = I_R_keepsTold.2.2.1 → (∀ i v, lk ls1 i = some v → lk ls i = some v) → RA pc ls1 σ → RA pc ls σ) {f : Int32 → Mem → Option (Int32 × Mem)} {ls : List (Option Value)} {s : Mem} (h : A_R_keepsTold_168 f ls s = some z) (hf : ∀ (x1 : Int32) (s : Mem), f x1 s = some z → RA 290 [some (.ref 123), some (.int x1)] s) : RA 290 ls s := by
  unfold A_R_keepsTold_168 at h
  split at h
  · rename_i a0 a1 e0 e1
    replace h := cbr_n h
    obtain ⟨hb, h⟩ := h
    cases beq_t hb
    refine hm _ _ [some (.ref 123), some (.int a1)] _ rfl (fun i v hv => ?_) (hf _ _ h)
    match i, hv with
    | 0, hv => exact e0.trans hv
    | 1, hv => exact e1.trans hv
    | i + 2, hv => cases hv
  · cases h
theorem a_R_keepsTold_185 {z : Int32 × Mem} {RA : Nat → List (Option Value) → Mem → Prop} (hm : ∀ (pc : Nat) (ls ls1 : List (Option Value)) (σ : Mem), ls1.length = I_R_keepsTold.2.2.1 → (∀ i v, lk ls1 i = some v → lk ls i = some v) → RA pc ls1 σ → RA pc ls σ) {f : Int32 → Mem → Option (Int32 × Mem)} {ls : List (Option Value)} {s : Mem} (h : A_R_keepsTold_185 f ls s = some z) (hf : ∀ (x1 : Int32) (s : Mem), f x1 s = some z → RA 320 [some (.ref 123), some (.int x1)] s) : RA 320 ls s := by
  unfold A_R_keepsTold_185 at h
  split at h
  · rename_i a0 a1 e0 e1
    replace h := cbr_n h
    obtain ⟨hb, h⟩ := h
    cases beq_t hb
    refine hm _ _ [some (.ref 123), some (.int a1)] _ rfl (fun i v hv => ?_) (hf _ _ h)
    match i, hv with
    | 0, hv => exact e0.trans hv
    | 1, hv => exact e1.trans hv
    | i + 2, hv => cases hv
  · cases h
theorem n_R_keepsTold_185 {z : Int32 × Mem} {RA : Nat → List (Option Value) → Mem → Prop} (S : Sm I_R_keepsTold C_R_keepsTold K_R_keepsTold [2, 32, 62, 92, 122, 152, 214, 260, 290, 320] z RA) : ∀ (n : Nat) (x1 : Int32) (s : Mem), F_R_keepsTold_185 n x1 s = some z → RA 320 [some (.ref 123), some (.int x1)] s := by
  intro n
  induction n with
  | zero => intro x1 s h; exact nomatch (show (none : Option (Int32 × Mem)) = some z from h)
  | succ n ih =>
    intro x1 s h
    rw [e_R_keepsTold_185] at h
    refine S.2 _ ?_ 700 195 _ _ (ck1_of rfl) h
    intro k ls s h
    replace h := cbr_c h
    rcases h with ⟨hb, h⟩ | ⟨_, h⟩
    · cases beq_t hb
      exact a_R_keepsTold_185 S.1 h ih
    cases h
theorem n_R_keepsTold_168 {z : Int32 × Mem} {RA : Nat → List (Option Value) → Mem → Prop} (S : Sm I_R_keepsTold C_R_keepsTold K_R_keepsTold [2, 32, 62, 92, 122, 152, 214, 260, 290, 320] z RA) : ∀ (n : Nat) (x1 : Int32) (s : Mem), F_R_keepsTold_168 n x1 s = some z → RA 290 [some (.ref 123), some (.int x1)] s := by
  intro n
  induction n with
  | zero => intro x1 s h; exact nomatch (show (none : Option (Int32 × Mem)) = some z from h)
  | succ n ih =>
    intro x1 s h
    rw [e_R_keepsTold_168] at h
    refine S.2 _ ?_ 700 177 _ _ (ck1_of rfl) h
    intro k ls s h
    replace h := cbr_c h
    rcases h with ⟨hb, h⟩ | ⟨_, h⟩
    · cases beq_t hb
      exact a_R_keepsTold_168 S.1 h ih
    replace h := cbr_c h
    rcases h with ⟨hb, h⟩ | ⟨_, h⟩
    · cases beq_t hb
      exact a_R_keepsTold_185 S.1 h (n_R_keepsTold_185 S gF)
    cases h
theorem n_R_keepsTold_151 {z : Int32 × Mem} {RA : Nat → List (Option Value) → Mem → Prop} (S : Sm I_R_keepsTold C_R_keepsTold K_R_keepsTold [2, 32, 62, 92, 122, 152, 214, 260, 290, 320] z RA) : ∀ (n : Nat) (x1 : Int32) (s : Mem), F_R_keepsTold_151 n x1 s = some z → RA 260 [some (.ref 123), some (.int x1)] s := by
  intro n
  induction n with
  | zero => intro x1 s h; exact nomatch (show (none : Option (Int32 × Mem)) = some z from h)
  | succ n ih =>
    intro x1 s h
    rw [e_R_keepsTold_151] at h
    refine S.2 _ ?_ 700 159 _ _ (ck1_of rfl) h
    intro k ls s h
    replace h := cbr_c h
    rcases h with ⟨hb, h⟩ | ⟨_, h⟩
    · cases beq_t hb
      exact a_R_keepsTold_151 S.1 h ih
    replace h := cbr_c h
    rcases h with ⟨hb, h⟩ | ⟨_, h⟩
    · cases beq_t hb
      exact a_R_keepsTold_168 S.1 h (n_R_keepsTold_168 S gF)
    cases h
theorem n_R_keepsTold_124 {z : Int32 × Mem} {RA : Nat → List (Option Value) → Mem → Prop} (S : Sm I_R_keepsTold C_R_keepsTold K_R_keepsTold [2, 32, 62, 92, 122, 152, 214, 260, 290, 320] z RA) : ∀ (n : Nat) (x1 : Int32) (s : Mem), F_R_keepsTold_124 n x1 s = some z → RA 214 [some (.ref 123), some (.int x1)] s := by
  intro n
  induction n with
  | zero => intro x1 s h; exact nomatch (show (none : Option (Int32 × Mem)) = some z from h)
  | succ n ih =>
    intro x1 s h
    rw [e_R_keepsTold_124] at h
    refine S.2 _ ?_ 700 131 _ _ (ck1_of rfl) h
    intro k ls s h
    replace h := cbr_c h
    rcases h with ⟨hb, h⟩ | ⟨_, h⟩
    · cases beq_t hb
      exact a_R_keepsTold_124 S.1 h ih
    replace h := cbr_c h
    rcases h with ⟨hb, h⟩ | ⟨_, h⟩
    · cases beq_t hb
      exact a_R_keepsTold_151 S.1 h (n_R_keepsTold_151 S gF)
    cases h
theorem n_R_keepsTold_87 {z : Int32 × Mem} {RA : Nat → List (Option Value) → Mem → Prop} (S : Sm I_R_keepsTold C_R_keepsTold K_R_keepsTold [2, 32, 62, 92, 122, 152, 214, 260, 290, 320] z RA) : ∀ (n : Nat) (x1 : Int32) (s : Mem), F_R_keepsTold_87 n x1 s = some z → RA 152 [some (.ref 123), some (.int x1)] s := by
  intro n
  induction n with
  | zero => intro x1 s h; exact nomatch (show (none : Option (Int32 × Mem)) = some z from h)
  | succ n ih =>
    intro x1 s h
    rw [e_R_keepsTold_87] at h
    refine S.2 _ ?_ 700 93 _ _ (ck1_of rfl) h
    intro k ls s h
    replace h := cbr_c h
    rcases h with ⟨hb, h⟩ | ⟨_, h⟩
    · cases beq_t hb
      exact a_R_keepsTold_87 S.1 h ih
    replace h := cbr_c h
    rcases h with ⟨hb, h⟩ | ⟨_, h⟩
    · cases beq_t hb
      exact a_R_keepsTold_124 S.1 h (n_R_keepsTold_124 S gF)
    cases h
theorem n_R_keepsTold_70 {z : Int32 × Mem} {RA : Nat → List (Option Value) → Mem → Prop} (S : Sm I_R_keepsTold C_R_keepsTold K_R_keepsTold [2, 32, 62, 92, 122, 152, 214, 260, 290, 320] z RA) : ∀ (n : Nat) (x1 : Int32) (s : Mem), F_R_keepsTold_70 n x1 s = some z → RA 122 [some (.ref 123), some (.int x1)] s := by
  intro n
  induction n with
  | zero => intro x1 s h; exact nomatch (show (none : Option (Int32 × Mem)) = some z from h)
  | succ n ih =>
    intro x1 s h
    rw [e_R_keepsTold_70] at h
    refine S.2 _ ?_ 700 75 _ _ (ck1_of rfl) h
    intro k ls s h
    replace h := cbr_c h
    rcases h with ⟨hb, h⟩ | ⟨_, h⟩
    · cases beq_t hb
      exact a_R_keepsTold_70 S.1 h ih
    replace h := cbr_c h
    rcases h with ⟨hb, h⟩ | ⟨_, h⟩
    · cases beq_t hb
      exact a_R_keepsTold_87 S.1 h (n_R_keepsTold_87 S gF)
    cases h
theorem n_R_keepsTold_53 {z : Int32 × Mem} {RA : Nat → List (Option Value) → Mem → Prop} (S : Sm I_R_keepsTold C_R_keepsTold K_R_keepsTold [2, 32, 62, 92, 122, 152, 214, 260, 290, 320] z RA) : ∀ (n : Nat) (x1 : Int32) (s : Mem), F_R_keepsTold_53 n x1 s = some z → RA 92 [some (.ref 123), some (.int x1)] s := by
  intro n
  induction n with
  | zero => intro x1 s h; exact nomatch (show (none : Option (Int32 × Mem)) = some z from h)
  | succ n ih =>
    intro x1 s h
    rw [e_R_keepsTold_53] at h
    refine S.2 _ ?_ 700 57 _ _ (ck1_of rfl) h
    intro k ls s h
    replace h := cbr_c h
    rcases h with ⟨hb, h⟩ | ⟨_, h⟩
    · cases beq_t hb
      exact a_R_keepsTold_53 S.1 h ih
    replace h := cbr_c h
    rcases h with ⟨hb, h⟩ | ⟨_, h⟩
    · cases beq_t hb
      exact a_R_keepsTold_70 S.1 h (n_R_keepsTold_70 S gF)
    cases h
theorem n_R_keepsTold_36 {z : Int32 × Mem} {RA : Nat → List (Option Value) → Mem → Prop} (S : Sm I_R_keepsTold C_R_keepsTold K_R_keepsTold [2, 32, 62, 92, 122, 152, 214, 260, 290, 320] z RA) : ∀ (n : Nat) (x1 : Int32) (s : Mem), F_R_keepsTold_36 n x1 s = some z → RA 62 [some (.ref 123), some (.int x1)] s := by
  intro n
  induction n with
  | zero => intro x1 s h; exact nomatch (show (none : Option (Int32 × Mem)) = some z from h)
  | succ n ih =>
    intro x1 s h
    rw [e_R_keepsTold_36] at h
    refine S.2 _ ?_ 700 39 _ _ (ck1_of rfl) h
    intro k ls s h
    replace h := cbr_c h
    rcases h with ⟨hb, h⟩ | ⟨_, h⟩
    · cases beq_t hb
      exact a_R_keepsTold_36 S.1 h ih
    replace h := cbr_c h
    rcases h with ⟨hb, h⟩ | ⟨_, h⟩
    · cases beq_t hb
      exact a_R_keepsTold_53 S.1 h (n_R_keepsTold_53 S gF)
    cases h
theorem n_R_keepsTold_19 {z : Int32 × Mem} {RA : Nat → List (Option Value) → Mem → Prop} (S : Sm I_R_keepsTold C_R_keepsTold K_R_keepsTold [2, 32, 62, 92, 122, 152, 214, 260, 290, 320] z RA) : ∀ (n : Nat) (x1 : Int32) (s : Mem), F_R_keepsTold_19 n x1 s = some z → RA 32 [some (.ref 123), some (.int x1)] s := by
  intro n
  induction n with
  | zero => intro x1 s h; exact nomatch (show (none : Option (Int32 × Mem)) = some z from h)
  | succ n ih =>
    intro x1 s h
    rw [e_R_keepsTold_19] at h
    refine S.2 _ ?_ 700 21 _ _ (ck1_of rfl) h
    intro k ls s h
    replace h := cbr_c h
    rcases h with ⟨hb, h⟩ | ⟨_, h⟩
    · cases beq_t hb
      exact a_R_keepsTold_19 S.1 h ih
    replace h := cbr_c h
    rcases h with ⟨hb, h⟩ | ⟨_, h⟩
    · cases beq_t hb
      exact a_R_keepsTold_36 S.1 h (n_R_keepsTold_36 S gF)
    cases h
theorem n_R_keepsTold_2 {z : Int32 × Mem} {RA : Nat → List (Option Value) → Mem → Prop} (S : Sm I_R_keepsTold C_R_keepsTold K_R_keepsTold [2, 32, 62, 92, 122, 152, 214, 260, 290, 320] z RA) : ∀ (n : Nat) (x1 : Int32) (s : Mem), F_R_keepsTold_2 n x1 s = some z → RA 2 [some (.ref 123), some (.int x1)] s := by
  intro n
  induction n with
  | zero => intro x1 s h; exact nomatch (show (none : Option (Int32 × Mem)) = some z from h)
  | succ n ih =>
    intro x1 s h
    rw [e_R_keepsTold_2] at h
    refine S.2 _ ?_ 700 3 _ _ (ck1_of rfl) h
    intro k ls s h
    replace h := cbr_c h
    rcases h with ⟨hb, h⟩ | ⟨_, h⟩
    · cases beq_t hb
      exact a_R_keepsTold_2 S.1 h ih
    replace h := cbr_c h
    rcases h with ⟨hb, h⟩ | ⟨_, h⟩
    · cases beq_t hb
      exact a_R_keepsTold_19 S.1 h (n_R_keepsTold_19 S gF)
    cases h
theorem l_R_keepsTold (d : Nat) (k : Nat) (av : List Value) (s : Mem) (y : Int32 × Mem) (h : C_R_keepsTold k av s = some y) : Ctr (d + 1) (mtab k) av s y ∧ ((mtab k).2.2.2.2.2 = 77 → ∃ b rest, av = .ref b :: rest ∧ (b = 1001 ∨ b = 1002)) := by
  unfold C_R_keepsTold at h
  replace h := cbr_c h
  rcases h with ⟨hb, h⟩ | ⟨_, h⟩
  · cases beq_t hb
    exact ⟨c_R_keeps h (d + 0), fun q => absurd q (by decide)⟩
  cases h
theorem c_R_keepsTold {av : List Value} {s : Mem} {z : Int32 × Mem} (h : A_R_keepsTold av s = some z) (d : Nat) : Ctr (d + 2) I_R_keepsTold av s z := by
  unfold A_R_keepsTold at h
  split at h
  · replace h := cbr_n h
    obtain ⟨hb, h⟩ := h
    cases beq_t hb
    refine ctr_of (d := d + 1) (own := 11) (kps := [2, 32, 62, 92, 122, 152, 214, 260, 290, 320]) (code := K_R_keepsTold) (Cl := C_R_keepsTold) o_R_keepsTold rfl (by decide) k_R_keepsTold (l_R_keepsTold d) (c1_of rfl) (Nat.le_of_ble_eq_true rfl) ?_
    intro RA S
    rw [e_R_keepsTold] at h
    refine S.2 _ ?_ 700 0 _ _ (ck1_of rfl) h
    intro k ls s h
    replace h := cbr_c h
    rcases h with ⟨hb, h⟩ | ⟨_, h⟩
    · cases beq_t hb
      exact a_R_keepsTold_2 S.1 h (n_R_keepsTold_2 S gF)
    cases h
  · cases h
set_option maxRecDepth 1000000 in
theorem k_R_image : okC 11 I_R_image.2.2.1 I_R_image.2.1 I_R_image.2.2.2.1 [35, 74] K_R_image K_R_image = true := by decide +kernel
theorem a_R_image_21 {z : Int32 × Mem} {RA : Nat → List (Option Value) → Mem → Prop} (hm : ∀ (pc : Nat) (ls ls1 : List (Option Value)) (σ : Mem), ls1.length = I_R_image.2.2.1 → (∀ i v, lk ls1 i = some v → lk ls i = some v) → RA pc ls1 σ → RA pc ls σ) {f : Int32 → Int32 → Mem → Option (Int32 × Mem)} {ls : List (Option Value)} {s : Mem} (h : A_R_image_21 f ls s = some z) (hf : ∀ (x1 : Int32) (x2 : Int32) (s : Mem), f x1 x2 s = some z → RA 35 [some (.ref 123), some (.int x1), some (.int x2)] s) : RA 35 ls s := by
  unfold A_R_image_21 at h
  split at h
  · rename_i a0 a1 a2 e0 e1 e2
    replace h := cbr_n h
    obtain ⟨hb, h⟩ := h
    cases beq_t hb
    refine hm _ _ [some (.ref 123), some (.int a1), some (.int a2)] _ rfl (fun i v hv => ?_) (hf _ _ _ h)
    match i, hv with
    | 0, hv => exact e0.trans hv
    | 1, hv => exact e1.trans hv
    | 2, hv => exact e2.trans hv
    | i + 3, hv => cases hv
  · cases h
theorem a_R_image_42 {z : Int32 × Mem} {RA : Nat → List (Option Value) → Mem → Prop} (hm : ∀ (pc : Nat) (ls ls1 : List (Option Value)) (σ : Mem), ls1.length = I_R_image.2.2.1 → (∀ i v, lk ls1 i = some v → lk ls i = some v) → RA pc ls1 σ → RA pc ls σ) {f : Int32 → Int32 → Mem → Option (Int32 × Mem)} {ls : List (Option Value)} {s : Mem} (h : A_R_image_42 f ls s = some z) (hf : ∀ (x1 : Int32) (x2 : Int32) (s : Mem), f x1 x2 s = some z → RA 74 [some (.ref 123), some (.int x1), some (.int x2)] s) : RA 74 ls s := by
  unfold A_R_image_42 at h
  split at h
  · rename_i a0 a1 a2 e0 e1 e2
    replace h := cbr_n h
    obtain ⟨hb, h⟩ := h
    cases beq_t hb
    refine hm _ _ [some (.ref 123), some (.int a1), some (.int a2)] _ rfl (fun i v hv => ?_) (hf _ _ _ h)
    match i, hv with
    | 0, hv => exact e0.trans hv
    | 1, hv => exact e1.trans hv
    | 2, hv => exact e2.trans hv
    | i + 3, hv => cases hv
  · cases h
theorem n_R_image_42 {z : Int32 × Mem} {RA : Nat → List (Option Value) → Mem → Prop} (S : Sm I_R_image C_R_image K_R_image [35, 74] z RA) : ∀ (n : Nat) (x1 : Int32) (x2 : Int32) (s : Mem), F_R_image_42 n x1 x2 s = some z → RA 74 [some (.ref 123), some (.int x1), some (.int x2)] s := by
  intro n
  induction n with
  | zero => intro x1 x2 s h; exact nomatch (show (none : Option (Int32 × Mem)) = some z from h)
  | succ n ih =>
    intro x1 x2 s h
    rw [e_R_image_42] at h
    refine S.2 _ ?_ 700 44 _ _ (ck1_of rfl) h
    intro k ls s h
    replace h := cbr_c h
    rcases h with ⟨hb, h⟩ | ⟨_, h⟩
    · cases beq_t hb
      exact a_R_image_42 S.1 h ih
    cases h
theorem n_R_image_21 {z : Int32 × Mem} {RA : Nat → List (Option Value) → Mem → Prop} (S : Sm I_R_image C_R_image K_R_image [35, 74] z RA) : ∀ (n : Nat) (x1 : Int32) (x2 : Int32) (s : Mem), F_R_image_21 n x1 x2 s = some z → RA 35 [some (.ref 123), some (.int x1), some (.int x2)] s := by
  intro n
  induction n with
  | zero => intro x1 x2 s h; exact nomatch (show (none : Option (Int32 × Mem)) = some z from h)
  | succ n ih =>
    intro x1 x2 s h
    rw [e_R_image_21] at h
    refine S.2 _ ?_ 700 22 _ _ (ck1_of rfl) h
    intro k ls s h
    replace h := cbr_c h
    rcases h with ⟨hb, h⟩ | ⟨_, h⟩
    · cases beq_t hb
      exact a_R_image_21 S.1 h ih
    replace h := cbr_c h
    rcases h with ⟨hb, h⟩ | ⟨_, h⟩
    · cases beq_t hb
      exact a_R_image_42 S.1 h (n_R_image_42 S gF)
    cases h
theorem l_R_image (d : Nat) (k : Nat) (av : List Value) (s : Mem) (y : Int32 × Mem) (h : C_R_image k av s = some y) : Ctr (d + 2) (mtab k) av s y ∧ ((mtab k).2.2.2.2.2 = 77 → ∃ b rest, av = .ref b :: rest ∧ (b = 1001 ∨ b = 1002)) := by
  unfold C_R_image at h
  replace h := cbr_c h
  rcases h with ⟨hb, h⟩ | ⟨_, h⟩
  · cases beq_t hb
    exact ⟨c_R_keepsMany h (d + 0), fun q => absurd q (by decide)⟩
  replace h := cbr_c h
  rcases h with ⟨hb, h⟩ | ⟨_, h⟩
  · cases beq_t hb
    exact ⟨c_R_keepsTold h (d + 0), fun q => absurd q (by decide)⟩
  replace h := cbr_c h
  rcases h with ⟨hb, h⟩ | ⟨_, h⟩
  · cases beq_t hb
    exact ⟨c_R_keeps h (d + 1), fun q => absurd q (by decide)⟩
  replace h := cbr_c h
  rcases h with ⟨hb, h⟩ | ⟨_, h⟩
  · cases beq_t hb
    exact ⟨c_R_keepsLaw h (d + 0), fun q => absurd q (by decide)⟩
  cases h
theorem c_R_image {av : List Value} {s : Mem} {z : Int32 × Mem} (h : A_R_image av s = some z) (d : Nat) : Ctr (d + 3) I_R_image av s z := by
  unfold A_R_image at h
  split at h
  · replace h := cbr_n h
    obtain ⟨hb, h⟩ := h
    cases beq_t hb
    refine ctr_of (d := d + 2) (own := 11) (kps := [35, 74]) (code := K_R_image) (Cl := C_R_image) o_R_image rfl (by decide) k_R_image (l_R_image d) (c1_of rfl) (Nat.le_of_ble_eq_true rfl) ?_
    intro RA S
    rw [e_R_image] at h
    refine S.2 _ ?_ 700 0 _ _ (ck1_of rfl) h
    intro k ls s h
    replace h := cbr_c h
    rcases h with ⟨hb, h⟩ | ⟨_, h⟩
    · cases beq_t hb
      exact a_R_image_21 S.1 h (n_R_image_21 S gF)
    cases h
  · cases h
set_option maxRecDepth 1000000 in
theorem k_R_look : okC 11 I_R_look.2.2.1 I_R_look.2.1 I_R_look.2.2.2.1 [] K_R_look K_R_look = true := by decide +kernel
theorem l_R_look (d : Nat) (k : Nat) (av : List Value) (s : Mem) (y : Int32 × Mem) (h : C_R_look k av s = some y) : Ctr (d + 0) (mtab k) av s y ∧ ((mtab k).2.2.2.2.2 = 77 → ∃ b rest, av = .ref b :: rest ∧ (b = 1001 ∨ b = 1002)) := by
  exact nomatch (show (none : Option (Int32 × Mem)) = some y from h)
theorem c_R_look {av : List Value} {s : Mem} {z : Int32 × Mem} (h : A_R_look av s = some z) (d : Nat) : Ctr (d + 1) I_R_look av s z := by
  unfold A_R_look at h
  split at h
  · replace h := cbr_n h
    obtain ⟨hb, h⟩ := h
    cases beq_t hb
    refine ctr_of (d := d + 0) (own := 11) (kps := []) (code := K_R_look) (Cl := C_R_look) o_R_look rfl (by decide) k_R_look (l_R_look d) (c1_of rfl) (Nat.le_of_ble_eq_true rfl) ?_
    intro RA S
    rw [e_R_look] at h
    refine S.2 _ ?_ 700 0 _ _ (ck1_of rfl) h
    intro k ls s h
    cases h
  · cases h
