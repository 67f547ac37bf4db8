set_option maxRecDepth 1000000 in
theorem k_P_wordIn : okC 5 I_P_wordIn.2.2.1 I_P_wordIn.2.1 I_P_wordIn.2.2.2.1 [12] K_P_wordIn K_P_wordIn = true := by decide +kernel
theorem a_P_wordIn_8 {z : Int32 × Mem} {RA : Nat → List (Option Value) → Mem → Prop} (hm : ∀ (pc : Nat) (ls ls1 : List (Option Value)) (σ : Mem), ls1.length = I_P_wordIn.2.2.1 → (∀ i v, lk ls1 i = some v → lk ls i = some v) → RA pc ls1 σ → RA pc ls σ) {f : Nat → Int32 → Int32 → Int32 → Int32 → Int32 → Int32 → Mem → Option (Int32 × Mem)} {ls : List (Option Value)} {s : Mem} (h : A_P_wordIn_8 f ls s = some z) (hf : ∀ (h0 : Nat) (x2 : Int32) (x3 : Int32) (x4 : Int32) (x5 : Int32) (x6 : Int32) (x7 : Int32) (s : Mem), f h0 x2 x3 x4 x5 x6 x7 s = some z → RA 12 [some (.ref h0), some (.ref 75), some (.int x2), some (.int x3), some (.int x4), some (.int x5), some (.int x6), some (.int x7), none] s) : RA 12 ls s := by
  unfold A_P_wordIn_8 at h
  split at h
  · rename_i a0 a1 a2 a3 a4 a5 a6 a7 e0 e1 e2 e3 e4 e5 e6 e7
    replace h := cbr_n h
    obtain ⟨hb, h⟩ := h
    cases beq_t hb
    refine hm _ _ [some (.ref a0), some (.ref 75), some (.int a2), some (.int a3), some (.int a4), some (.int a5), some (.int a6), some (.int a7), none] _ rfl (fun i v hv => ?_) (hf _ _ _ _ _ _ _ _ h)
    match i, hv with
    | 0, hv => exact e0.trans hv
    | 1, hv => exact e1.trans hv
    | 2, hv => exact e2.trans hv
    | 3, hv => exact e3.trans hv
    | 4, hv => exact e4.trans hv
    | 5, hv => exact e5.trans hv
    | 6, hv => exact e6.trans hv
    | 7, hv => exact e7.trans hv
    | 8, hv => cases hv
    | i + 9, hv => cases hv
  · cases h
theorem n_P_wordIn_8 {z : Int32 × Mem} {RA : Nat → List (Option Value) → Mem → Prop} (S : Sm I_P_wordIn C_P_wordIn K_P_wordIn [12] z RA) : ∀ (n : Nat) (h0 : Nat) (x2 : Int32) (x3 : Int32) (x4 : Int32) (x5 : Int32) (x6 : Int32) (x7 : Int32) (s : Mem), F_P_wordIn_8 n h0 x2 x3 x4 x5 x6 x7 s = some z → RA 12 [some (.ref h0), some (.ref 75), some (.int x2), some (.int x3), some (.int x4), some (.int x5), some (.int x6), some (.int x7), none] s := by
  intro n
  induction n with
  | zero => intro h0 x2 x3 x4 x5 x6 x7 s h; exact nomatch (show (none : Option (Int32 × Mem)) = some z from h)
  | succ n ih =>
    intro h0 x2 x3 x4 x5 x6 x7 s h
    rw [e_P_wordIn_8] at h
    refine S.2 _ ?_ 700 9 _ _ (ck1_of rfl) h
    intro k ls s h
    replace h := cbr_c h
    rcases h with ⟨hb, h⟩ | ⟨_, h⟩
    · cases beq_t hb
      exact a_P_wordIn_8 S.1 h ih
    cases h
theorem l_P_wordIn (d : Nat) (k : Nat) (av : List Value) (s : Mem) (y : Int32 × Mem) (h : C_P_wordIn k av s = some y) : Ctr (d + 4) (mtab k) av s y ∧ ((mtab k).2.2.2.2.2 = 77 → ∃ b rest, av = .ref b :: rest ∧ (b = 1001 ∨ b = 1002)) := by
  unfold C_P_wordIn at h
  replace h := cbr_c h
  rcases h with ⟨hb, h⟩ | ⟨_, h⟩
  · cases beq_t hb
    exact ⟨c_JS_length h (d + 0), fun _ => r_JS_length h⟩
  replace h := cbr_c h
  rcases h with ⟨hb, h⟩ | ⟨_, h⟩
  · cases beq_t hb
    exact ⟨c_JS_charAt h (d + 0), fun _ => r_JS_charAt h⟩
  cases h
theorem c_P_wordIn {av : List Value} {s : Mem} {z : Int32 × Mem} (h : A_P_wordIn av s = some z) (d : Nat) : Ctr (d + 5) I_P_wordIn av s z := by
  unfold A_P_wordIn at h
  split at h
  · replace h := cbr_n h
    obtain ⟨hb, h⟩ := h
    cases beq_t hb
    refine ctr_of (d := d + 4) (own := 5) (kps := [12]) (code := K_P_wordIn) (Cl := C_P_wordIn) o_P_wordIn rfl (by decide) k_P_wordIn (l_P_wordIn d) (c1_of rfl) (Nat.le_of_ble_eq_true rfl) ?_
    intro RA S
    rw [e_P_wordIn] at h
    refine S.2 _ ?_ 700 0 _ _ (ck1_of rfl) h
    intro k ls s h
    replace h := cbr_c h
    rcases h with ⟨hb, h⟩ | ⟨_, h⟩
    · cases beq_t hb
      exact a_P_wordIn_8 S.1 h (n_P_wordIn_8 S gF)
    cases h
  · cases h
set_option maxRecDepth 1000000 in
theorem k_P_keyword : okC 5 I_P_keyword.2.2.1 I_P_keyword.2.1 I_P_keyword.2.2.2.1 [] K_P_keyword K_P_keyword = true := by decide +kernel
theorem l_P_keyword (d : Nat) (k : Nat) (av : List Value) (s : Mem) (y : Int32 × Mem) (h : C_P_keyword k av s = some y) : Ctr (d + 5) (mtab k) av s y ∧ ((mtab k).2.2.2.2.2 = 77 → ∃ b rest, av = .ref b :: rest ∧ (b = 1001 ∨ b = 1002)) := by
  unfold C_P_keyword at h
  replace h := cbr_c h
  rcases h with ⟨hb, h⟩ | ⟨_, h⟩
  · cases beq_t hb
    exact ⟨c_P_wordIn h (d + 0), fun q => absurd q (by decide)⟩
  cases h
theorem c_P_keyword {av : List Value} {s : Mem} {z : Int32 × Mem} (h : A_P_keyword av s = some z) (d : Nat) : Ctr (d + 6) I_P_keyword av s z := by
  unfold A_P_keyword at h
  split at h
  · replace h := cbr_n h
    obtain ⟨hb, h⟩ := h
    cases beq_t hb
    refine ctr_of (d := d + 5) (own := 5) (kps := []) (code := K_P_keyword) (Cl := C_P_keyword) o_P_keyword rfl (by decide) k_P_keyword (l_P_keyword d) (c1_of rfl) (Nat.le_of_ble_eq_true rfl) ?_
    intro RA S
    rw [e_P_keyword] at h
    refine S.2 _ ?_ 700 0 _ _ (ck1_of rfl) h
    intro k ls s h
    cases h
  · cases h
set_option maxRecDepth 1000000 in
theorem k_P_addToken : okC 5 I_P_addToken.2.2.1 I_P_addToken.2.1 I_P_addToken.2.2.2.1 [] K_P_addToken K_P_addToken = true := by decide +kernel
theorem l_P_addToken (d : Nat) (k : Nat) (av : List Value) (s : Mem) (y : Int32 × Mem) (h : C_P_addToken k av s = some y) : Ctr (d + 1) (mtab k) av s y ∧ ((mtab k).2.2.2.2.2 = 77 → ∃ b rest, av = .ref b :: rest ∧ (b = 1001 ∨ b = 1002)) := by
  unfold C_P_addToken at h
  replace h := cbr_c h
  rcases h with ⟨hb, h⟩ | ⟨_, h⟩
  · cases beq_t hb
    exact ⟨c_C_within h (d + 0), fun q => absurd q (by decide)⟩
  cases h
theorem c_P_addToken {av : List Value} {s : Mem} {z : Int32 × Mem} (h : A_P_addToken av s = some z) (d : Nat) : Ctr (d + 2) I_P_addToken av s z := by
  unfold A_P_addToken at h
  split at h
  · replace h := cbr_n h
    obtain ⟨hb, h⟩ := h
    cases beq_t hb
    refine ctr_of (d := d + 1) (own := 5) (kps := []) (code := K_P_addToken) (Cl := C_P_addToken) o_P_addToken rfl (by decide) k_P_addToken (l_P_addToken d) (c1_of rfl) (Nat.le_of_ble_eq_true rfl) ?_
    intro RA S
    rw [e_P_addToken] at h
    refine S.2 _ ?_ 700 0 _ _ (ck1_of rfl) h
    intro k ls s h
    cases h
  · cases h
set_option maxRecDepth 1000000 in
theorem k_P_isDigit : okC 5 I_P_isDigit.2.2.1 I_P_isDigit.2.1 I_P_isDigit.2.2.2.1 [] K_P_isDigit K_P_isDigit = true := by decide +kernel
theorem l_P_isDigit (d : Nat) (k : Nat) (av : List Value) (s : Mem) (y : Int32 × Mem) (h : C_P_isDigit k av s = some y) : Ctr (d + 1) (mtab k) av s y ∧ ((mtab k).2.2.2.2.2 = 77 → ∃ b rest, av = .ref b :: rest ∧ (b = 1001 ∨ b = 1002)) := by
  unfold C_P_isDigit at h
  replace h := cbr_c h
  rcases h with ⟨hb, h⟩ | ⟨_, h⟩
  · cases beq_t hb
    exact ⟨c_C_within h (d + 0), fun q => absurd q (by decide)⟩
  cases h
theorem c_P_isDigit {av : List Value} {s : Mem} {z : Int32 × Mem} (h : A_P_isDigit av s = some z) (d : Nat) : Ctr (d + 2) I_P_isDigit av s z := by
  unfold A_P_isDigit at h
  split at h
  · refine ctr_of (d := d + 1) (own := 5) (kps := []) (code := K_P_isDigit) (Cl := C_P_isDigit) o_P_isDigit rfl (by decide) k_P_isDigit (l_P_isDigit d) (c1_of rfl) (Nat.le_of_ble_eq_true rfl) ?_
    intro RA S
    rw [e_P_isDigit] at h
    refine S.2 _ ?_ 700 0 _ _ (ck1_of rfl) h
    intro k ls s h
    cases h
  · cases h
set_option maxRecDepth 1000000 in
theorem k_P_valueOf : okC 5 I_P_valueOf.2.2.1 I_P_valueOf.2.1 I_P_valueOf.2.2.2.1 [9] K_P_valueOf K_P_valueOf = true := by decide +kernel
theorem a_P_valueOf_6 {z : Int32 × Mem} {RA : Nat → List (Option Value) → Mem → Prop} (hm : ∀ (pc : Nat) (ls ls1 : List (Option Value)) (σ : Mem), ls1.length = I_P_valueOf.2.2.1 → (∀ i v, lk ls1 i = some v → lk ls i = some v) → RA pc ls1 σ → RA pc ls σ) {f : Int32 → Int32 → Int32 → Mem → Option (Int32 × Mem)} {ls : List (Option Value)} {s : Mem} (h : A_P_valueOf_6 f ls s = some z) (hf : ∀ (x2 : Int32) (x3 : Int32) (x4 : Int32) (s : Mem), f x2 x3 x4 s = some z → RA 9 [some (.ref 75), none, some (.int x2), some (.int x3), some (.int x4)] s) : RA 9 ls s := by
  unfold A_P_valueOf_6 at h
  split at h
  · rename_i a0 a1 a2 a3 e0 e1 e2 e3
    replace h := cbr_n h
    obtain ⟨hb, h⟩ := h
    cases beq_t hb
    refine hm _ _ [some (.ref 75), none, some (.int a1), some (.int a2), some (.int a3)] _ rfl (fun i v hv => ?_) (hf _ _ _ _ h)
    match i, hv with
    | 0, hv => exact e0.trans hv
    | 1, hv => cases hv
    | 2, hv => exact e1.trans hv
    | 3, hv => exact e2.trans hv
    | 4, hv => exact e3.trans hv
    | i + 5, hv => cases hv
  · cases h
theorem n_P_valueOf_6 {z : Int32 × Mem} {RA : Nat → List (Option Value) → Mem → Prop} (S : Sm I_P_valueOf C_P_valueOf K_P_valueOf [9] z RA) : ∀ (n : Nat) (x2 : Int32) (x3 : Int32) (x4 : Int32) (s : Mem), F_P_valueOf_6 n x2 x3 x4 s = some z → RA 9 [some (.ref 75), none, some (.int x2), some (.int x3), some (.int x4)] s := by
  intro n
  induction n with
  | zero => intro x2 x3 x4 s h; exact nomatch (show (none : Option (Int32 × Mem)) = some z from h)
  | succ n ih =>
    intro x2 x3 x4 s h
    rw [e_P_valueOf_6] at h
    refine S.2 _ ?_ 700 7 _ _ (ck1_of rfl) h
    intro k ls s h
    replace h := cbr_c h
    rcases h with ⟨hb, h⟩ | ⟨_, h⟩
    · cases beq_t hb
      exact a_P_valueOf_6 S.1 h ih
    cases h
theorem l_P_valueOf (d : Nat) (k : Nat) (av : List Value) (s : Mem) (y : Int32 × Mem) (h : C_P_valueOf k av s = some y) : Ctr (d + 1) (mtab k) av s y ∧ ((mtab k).2.2.2.2.2 = 77 → ∃ b rest, av = .ref b :: rest ∧ (b = 1001 ∨ b = 1002)) := by
  unfold C_P_valueOf at h
  replace h := cbr_c h
  rcases h with ⟨hb, h⟩ | ⟨_, h⟩
  · cases beq_t hb
    exact ⟨c_JM_max h (d + 0), fun q => absurd q (by decide)⟩
  cases h
theorem c_P_valueOf {av : List Value} {s : Mem} {z : Int32 × Mem} (h : A_P_valueOf av s = some z) (d : Nat) : Ctr (d + 2) I_P_valueOf av s z := by
  unfold A_P_valueOf at h
  split at h
  · replace h := cbr_n h
    obtain ⟨hb, h⟩ := h
    cases beq_t hb
    refine ctr_of (d := d + 1) (own := 5) (kps := [9]) (code := K_P_valueOf) (Cl := C_P_valueOf) o_P_valueOf rfl (by decide) k_P_valueOf (l_P_valueOf d) (c1_of rfl) (Nat.le_of_ble_eq_true rfl) ?_
    intro RA S
    rw [e_P_valueOf] at h
    refine S.2 _ ?_ 700 0 _ _ (ck1_of rfl) h
    intro k ls s h
    replace h := cbr_c h
    rcases h with ⟨hb, h⟩ | ⟨_, h⟩
    · cases beq_t hb
      exact a_P_valueOf_6 S.1 h (n_P_valueOf_6 S gF)
    cases h
  · cases h
set_option maxRecDepth 1000000 in
theorem k_P_isSign : okC 5 I_P_isSign.2.2.1 I_P_isSign.2.1 I_P_isSign.2.2.2.1 [] K_P_isSign K_P_isSign = true := by decide +kernel
theorem l_P_isSign (d : Nat) (k : Nat) (av : List Value) (s : Mem) (y : Int32 × Mem) (h : C_P_isSign k av s = some y) : Ctr (d + 1) (mtab k) av s y ∧ ((mtab k).2.2.2.2.2 = 77 → ∃ b rest, av = .ref b :: rest ∧ (b = 1001 ∨ b = 1002)) := by
  unfold C_P_isSign at h
  replace h := cbr_c h
  rcases h with ⟨hb, h⟩ | ⟨_, h⟩
  · cases beq_t hb
    exact ⟨c_C_within h (d + 0), fun q => absurd q (by decide)⟩
  cases h
theorem c_P_isSign {av : List Value} {s : Mem} {z : Int32 × Mem} (h : A_P_isSign av s = some z) (d : Nat) : Ctr (d + 2) I_P_isSign av s z := by
  unfold A_P_isSign at h
  split at h
  · refine ctr_of (d := d + 1) (own := 5) (kps := []) (code := K_P_isSign) (Cl := C_P_isSign) o_P_isSign rfl (by decide) k_P_isSign (l_P_isSign d) (c1_of rfl) (Nat.le_of_ble_eq_true rfl) ?_
    intro RA S
    rw [e_P_isSign] at h
    refine S.2 _ ?_ 700 0 _ _ (ck1_of rfl) h
    intro k ls s h
    cases h
  · cases h
set_option maxRecDepth 1000000 in
theorem k_P_split : okC 5 I_P_split.2.2.1 I_P_split.2.1 I_P_split.2.2.2.1 [30, 56, 104] K_P_split K_P_split = true := by decide +kernel
theorem a_P_split_19 {z : Int32 × Mem} {RA : Nat → List (Option Value) → Mem → Prop} (hm : ∀ (pc : Nat) (ls ls1 : List (Option Value)) (σ : Mem), ls1.length = I_P_split.2.2.1 → (∀ i v, lk ls1 i = some v → lk ls i = some v) → RA pc ls1 σ → RA pc ls σ) {f : Int32 → Int32 → Mem → Option (Int32 × Mem)} {ls : List (Option Value)} {s : Mem} (h : A_P_split_19 f ls s = some z) (hf : ∀ (x3 : Int32) (x4 : Int32) (s : Mem), f x3 x4 s = some z → RA 30 [some (.ref 76), some (.ref 75), none, some (.int x3), some (.int x4), none, none] s) : RA 30 ls s := by
  unfold A_P_split_19 at h
  split at h
  · rename_i a0 a1 a2 a3 e0 e1 e2 e3
    replace h := cbr_n h
    obtain ⟨hb, h⟩ := h
    cases beq_t hb
    replace h := cbr_n h
    obtain ⟨hb, h⟩ := h
    cases beq_t hb
    refine hm _ _ [some (.ref 76), some (.ref 75), none, some (.int a2), some (.int a3), none, none] _ rfl (fun i v hv => ?_) (hf _ _ _ h)
    match i, hv with
    | 0, hv => exact e0.trans hv
    | 1, hv => exact e1.trans hv
    | 2, hv => cases hv
    | 3, hv => exact e2.trans hv
    | 4, hv => exact e3.trans hv
    | 5, hv => cases hv
    | 6, hv => cases hv
    | i + 7, hv => cases hv
  · cases h
theorem a_P_split_33 {z : Int32 × Mem} {RA : Nat → List (Option Value) → Mem → Prop} (hm : ∀ (pc : Nat) (ls ls1 : List (Option Value)) (σ : Mem), ls1.length = I_P_split.2.2.1 → (∀ i v, lk ls1 i = some v → lk ls i = some v) → RA pc ls1 σ → RA pc ls σ) {f : Int32 → Int32 → Int32 → Mem → Option (Int32 × Mem)} {ls : List (Option Value)} {s : Mem} (h : A_P_split_33 f ls s = some z) (hf : ∀ (x3 : Int32) (x4 : Int32) (x6 : Int32) (s : Mem), f x3 x4 x6 s = some z → RA 56 [some (.ref 76), some (.ref 75), none, some (.int x3), some (.int x4), none, some (.int x6)] s) : RA 56 ls s := by
  unfold A_P_split_33 at h
  split at h
  · rename_i a0 a1 a2 a3 a4 e0 e1 e2 e3 e4
    replace h := cbr_n h
    obtain ⟨hb, h⟩ := h
    cases beq_t hb
    replace h := cbr_n h
    obtain ⟨hb, h⟩ := h
    cases beq_t hb
    refine hm _ _ [some (.ref 76), some (.ref 75), none, some (.int a2), some (.int a3), none, some (.int a4)] _ rfl (fun i v hv => ?_) (hf _ _ _ _ h)
    match i, hv with
    | 0, hv => exact e0.trans hv
    | 1, hv => exact e1.trans hv
    | 2, hv => cases hv
    | 3, hv => exact e2.trans hv
    | 4, hv => exact e3.trans hv
    | 5, hv => cases hv
    | 6, hv => exact e4.trans hv
    | i + 7, hv => cases hv
  · cases h
theorem a_P_split_55 {z : Int32 × Mem} {RA : Nat → List (Option Value) → Mem → Prop} (hm : ∀ (pc : Nat) (ls ls1 : List (Option Value)) (σ : Mem), ls1.length = I_P_split.2.2.1 → (∀ i v, lk ls1 i = some v → lk ls i = some v) → RA pc ls1 σ → RA pc ls σ) {f : Int32 → Int32 → Int32 → Mem → Option (Int32 × Mem)} {ls : List (Option Value)} {s : Mem} (h : A_P_split_55 f ls s = some z) (hf : ∀ (x3 : Int32) (x4 : Int32) (x6 : Int32) (s : Mem), f x3 x4 x6 s = some z → RA 104 [some (.ref 76), some (.ref 75), none, some (.int x3), some (.int x4), none, some (.int x6)] s) : RA 104 ls s := by
  unfold A_P_split_55 at h
  split at h
  · rename_i a0 a1 a2 a3 a4 e0 e1 e2 e3 e4
    replace h := cbr_n h
    obtain ⟨hb, h⟩ := h
    cases beq_t hb
    replace h := cbr_n h
    obtain ⟨hb, h⟩ := h
    cases beq_t hb
    refine hm _ _ [some (.ref 76), some (.ref 75), none, some (.int a2), some (.int a3), none, some (.int a4)] _ rfl (fun i v hv => ?_) (hf _ _ _ _ h)
    match i, hv with
    | 0, hv => exact e0.trans hv
    | 1, hv => exact e1.trans hv
    | 2, hv => cases hv
    | 3, hv => exact e2.trans hv
    | 4, hv => exact e3.trans hv
    | 5, hv => cases hv
    | 6, hv => exact e4.trans hv
    | i + 7, hv => cases hv
  · cases h
theorem n_P_split_33 {z : Int32 × Mem} {RA : Nat → List (Option Value) → Mem → Prop} (S : Sm I_P_split C_P_split K_P_split [30, 56, 104] z RA) {k19 : Int32 → Int32 → Mem → Option (Int32 × Mem)} (hk19 : ∀ (x3 : Int32) (x4 : Int32) (s : Mem), k19 x3 x4 s = some z → RA 30 [some (.ref 76), some (.ref 75), none, some (.int x3), some (.int x4), none, none] s) : ∀ (n : Nat) (x3 : Int32) (x4 : Int32) (x6 : Int32) (s : Mem), F_P_split_33 k19 n x3 x4 x6 s = some z → RA 56 [some (.ref 76), some (.ref 75), none, some (.int x3), some (.int x4), none, some (.int x6)] s := by
  intro n
  induction n with
  | zero => intro x3 x4 x6 s h; exact nomatch (show (none : Option (Int32 × Mem)) = some z from h)
  | succ n ih =>
    intro x3 x4 x6 s h
    rw [e_P_split_33] at h
    refine S.2 _ ?_ 700 35 _ _ (ck1_of rfl) h
    intro k ls s h
    replace h := cbr_c h
    rcases h with ⟨hb, h⟩ | ⟨_, h⟩
    · cases beq_t hb
      exact a_P_split_19 S.1 h hk19
    replace h := cbr_c h
    rcases h with ⟨hb, h⟩ | ⟨_, h⟩
    · cases beq_t hb
      exact a_P_split_33 S.1 h ih
    cases h
theorem n_P_split_55 {z : Int32 × Mem} {RA : Nat → List (Option Value) → Mem → Prop} (S : Sm I_P_split C_P_split K_P_split [30, 56, 104] z RA) {k19 : Int32 → Int32 → Mem → Option (Int32 × Mem)} (hk19 : ∀ (x3 : Int32) (x4 : Int32) (s : Mem), k19 x3 x4 s = some z → RA 30 [some (.ref 76), some (.ref 75), none, some (.int x3), some (.int x4), none, none] s) : ∀ (n : Nat) (x3 : Int32) (x4 : Int32) (x6 : Int32) (s : Mem), F_P_split_55 k19 n x3 x4 x6 s = some z → RA 104 [some (.ref 76), some (.ref 75), none, some (.int x3), some (.int x4), none, some (.int x6)] s := by
  intro n
  induction n with
  | zero => intro x3 x4 x6 s h; exact nomatch (show (none : Option (Int32 × Mem)) = some z from h)
  | succ n ih =>
    intro x3 x4 x6 s h
    rw [e_P_split_55] at h
    refine S.2 _ ?_ 700 58 _ _ (ck1_of rfl) h
    intro k ls s h
    replace h := cbr_c h
    rcases h with ⟨hb, h⟩ | ⟨_, h⟩
    · cases beq_t hb
      exact a_P_split_19 S.1 h hk19
    replace h := cbr_c h
    rcases h with ⟨hb, h⟩ | ⟨_, h⟩
    · cases beq_t hb
      exact a_P_split_55 S.1 h ih
    cases h
theorem n_P_split_19 {z : Int32 × Mem} {RA : Nat → List (Option Value) → Mem → Prop} (S : Sm I_P_split C_P_split K_P_split [30, 56, 104] z RA) : ∀ (n : Nat) (x3 : Int32) (x4 : Int32) (s : Mem), F_P_split_19 n x3 x4 s = some z → RA 30 [some (.ref 76), some (.ref 75), none, some (.int x3), some (.int x4), none, none] s := by
  intro n
  induction n with
  | zero => intro x3 x4 s h; exact nomatch (show (none : Option (Int32 × Mem)) = some z from h)
  | succ n ih =>
    intro x3 x4 s h
    rw [e_P_split_19] at h
    refine S.2 _ ?_ 700 20 _ _ (ck1_of rfl) h
    intro k ls s h
    replace h := cbr_c h
    rcases h with ⟨hb, h⟩ | ⟨_, h⟩
    · cases beq_t hb
      exact a_P_split_19 S.1 h ih
    replace h := cbr_c h
    rcases h with ⟨hb, h⟩ | ⟨_, h⟩
    · cases beq_t hb
      exact a_P_split_33 S.1 h (n_P_split_33 S ih gF)
    replace h := cbr_c h
    rcases h with ⟨hb, h⟩ | ⟨_, h⟩
    · cases beq_t hb
      exact a_P_split_55 S.1 h (n_P_split_55 S ih gF)
    cases h
theorem l_P_split (d : Nat) (k : Nat) (av : List Value) (s : Mem) (y : Int32 × Mem) (h : C_P_split k av s = some y) : Ctr (d + 6) (mtab k) av s y ∧ ((mtab k).2.2.2.2.2 = 77 → ∃ b rest, av = .ref b :: rest ∧ (b = 1001 ∨ b = 1002)) := by
  unfold C_P_split at h
  replace h := cbr_c h
  rcases h with ⟨hb, h⟩ | ⟨_, h⟩
  · cases beq_t hb
    exact ⟨c_JM_min h (d + 5), fun q => absurd q (by decide)⟩
  replace h := cbr_c h
  rcases h with ⟨hb, h⟩ | ⟨_, h⟩
  · cases beq_t hb
    exact ⟨c_P_addToken h (d + 4), fun q => absurd q (by decide)⟩
  replace h := cbr_c h
  rcases h with ⟨hb, h⟩ | ⟨_, h⟩
  · cases beq_t hb
    exact ⟨c_P_isLetter h (d + 4), fun q => absurd q (by decide)⟩
  replace h := cbr_c h
  rcases h with ⟨hb, h⟩ | ⟨_, h⟩
  · cases beq_t hb
    exact ⟨c_P_isDigit h (d + 4), fun q => absurd q (by decide)⟩
  replace h := cbr_c h
  rcases h with ⟨hb, h⟩ | ⟨_, h⟩
  · cases beq_t hb
    exact ⟨c_P_isSign h (d + 4), fun q => absurd q (by decide)⟩
  replace h := cbr_c h
  rcases h with ⟨hb, h⟩ | ⟨_, h⟩
  · cases beq_t hb
    exact ⟨c_P_valueOf h (d + 4), fun q => absurd q (by decide)⟩
  replace h := cbr_c h
  rcases h with ⟨hb, h⟩ | ⟨_, h⟩
  · cases beq_t hb
    exact ⟨c_P_keyword h (d + 0), fun q => absurd q (by decide)⟩
  cases h
theorem c_P_split {av : List Value} {s : Mem} {z : Int32 × Mem} (h : A_P_split av s = some z) (d : Nat) : Ctr (d + 7) I_P_split av s z := by
  unfold A_P_split at h
  split at h
  · replace h := cbr_n h
    obtain ⟨hb, h⟩ := h
    cases beq_t hb
    replace h := cbr_n h
    obtain ⟨hb, h⟩ := h
    cases beq_t hb
    refine ctr_of (d := d + 6) (own := 5) (kps := [30, 56, 104]) (code := K_P_split) (Cl := C_P_split) o_P_split rfl (by decide) k_P_split (l_P_split d) (c1_of rfl) (Nat.le_of_ble_eq_true rfl) ?_
    intro RA S
    rw [e_P_split] at h
    refine S.2 _ ?_ 700 0 _ _ (ck1_of rfl) h
    intro k ls s h
    replace h := cbr_c h
    rcases h with ⟨hb, h⟩ | ⟨_, h⟩
    · cases beq_t hb
      exact a_P_split_19 S.1 h (n_P_split_19 S gF)
    cases h
  · cases h
set_option maxRecDepth 1000000 in
theorem k_L_clear : okC 2 I_L_clear.2.2.1 I_L_clear.2.1 I_L_clear.2.2.2.1 [] K_L_clear K_L_clear = true := by decide +kernel
theorem l_L_clear (d : Nat) (k : Nat) (av : List Value) (s : Mem) (y : Int32 × Mem) (h : C_L_clear k av s = some y) : Ctr (d + 0) (mtab k) av s y ∧ ((mtab k).2.2.2.2.2 = 77 → ∃ b rest, av = .ref b :: rest ∧ (b = 1001 ∨ b = 1002)) := by
  exact nomatch (show (none : Option (Int32 × Mem)) = some y from h)
theorem c_L_clear {av : List Value} {s : Mem} {z : Int32 × Mem} (h : A_L_clear av s = some z) (d : Nat) : Ctr (d + 1) I_L_clear av s z := by
  unfold A_L_clear at h
  split at h
  · replace h := cbr_n h
    obtain ⟨hb, h⟩ := h
    cases beq_t hb
    refine ctr_of (d := d + 0) (own := 2) (kps := []) (code := K_L_clear) (Cl := C_L_clear) o_L_clear rfl (by decide) k_L_clear (l_L_clear d) (c1_of rfl) (Nat.le_of_ble_eq_true rfl) ?_
    intro RA S
    rw [e_L_clear] at h
    refine S.2 _ ?_ 700 0 _ _ (ck1_of rfl) h
    intro k ls s h
    cases h
  · cases h
set_option maxRecDepth 1000000 in
theorem k_P_kind : okC 5 I_P_kind.2.2.1 I_P_kind.2.1 I_P_kind.2.2.2.1 [] K_P_kind K_P_kind = true := by decide +kernel
theorem l_P_kind (d : Nat) (k : Nat) (av : List Value) (s : Mem) (y : Int32 × Mem) (h : C_P_kind k av s = some y) : Ctr (d + 0) (mtab k) av s y ∧ ((mtab k).2.2.2.2.2 = 77 → ∃ b rest, av = .ref b :: rest ∧ (b = 1001 ∨ b = 1002)) := by
  exact nomatch (show (none : Option (Int32 × Mem)) = some y from h)
theorem c_P_kind {av : List Value} {s : Mem} {z : Int32 × Mem} (h : A_P_kind av s = some z) (d : Nat) : Ctr (d + 1) I_P_kind av s z := by
  unfold A_P_kind at h
  split at h
  · replace h := cbr_n h
    obtain ⟨hb, h⟩ := h
    cases beq_t hb
    refine ctr_of (d := d + 0) (own := 5) (kps := []) (code := K_P_kind) (Cl := C_P_kind) o_P_kind rfl (by decide) k_P_kind (l_P_kind d) (c1_of rfl) (Nat.le_of_ble_eq_true rfl) ?_
    intro RA S
    rw [e_P_kind] at h
    refine S.2 _ ?_ 700 0 _ _ (ck1_of rfl) h
    intro k ls s h
    cases h
  · cases h
set_option maxRecDepth 1000000 in
theorem k_P_fail : okC 5 I_P_fail.2.2.1 I_P_fail.2.1 I_P_fail.2.2.2.1 [] K_P_fail K_P_fail = true := by decide +kernel
theorem l_P_fail (d : Nat) (k : Nat) (av : List Value) (s : Mem) (y : Int32 × Mem) (h : C_P_fail k av s = some y) : Ctr (d + 0) (mtab k) av s y ∧ ((mtab k).2.2.2.2.2 = 77 → ∃ b rest, av = .ref b :: rest ∧ (b = 1001 ∨ b = 1002)) := by
  exact nomatch (show (none : Option (Int32 × Mem)) = some y from h)
theorem c_P_fail {av : List Value} {s : Mem} {z : Int32 × Mem} (h : A_P_fail av s = some z) (d : Nat) : Ctr (d + 1) I_P_fail av s z := by
  unfold A_P_fail at h
  split at h
  · replace h := cbr_n h
    obtain ⟨hb, h⟩ := h
    cases beq_t hb
    refine ctr_of (d := d + 0) (own := 5) (kps := []) (code := K_P_fail) (Cl := C_P_fail) o_P_fail rfl (by decide) k_P_fail (l_P_fail d) (c1_of rfl) (Nat.le_of_ble_eq_true rfl) ?_
    intro RA S
    rw [e_P_fail] at h
    refine S.2 _ ?_ 700 0 _ _ (ck1_of rfl) h
    intro k ls s h
    cases h
  · cases h
set_option maxRecDepth 1000000 in
theorem k_L_isFull : okC 2 I_L_isFull.2.2.1 I_L_isFull.2.1 I_L_isFull.2.2.2.1 [] K_L_isFull K_L_isFull = true := by decide +kernel
theorem l_L_isFull (d : Nat) (k : Nat) (av : List Value) (s : Mem) (y : Int32 × Mem) (h : C_L_isFull k av s = some y) : Ctr (d + 1) (mtab k) av s y ∧ ((mtab k).2.2.2.2.2 = 77 → ∃ b rest, av = .ref b :: rest ∧ (b = 1001 ∨ b = 1002)) := by
  unfold C_L_isFull at h
  replace h := cbr_c h
  rcases h with ⟨hb, h⟩ | ⟨_, h⟩
  · cases beq_t hb
    exact ⟨c_C_within h (d + 0), fun q => absurd q (by decide)⟩
  cases h
theorem c_L_isFull {av : List Value} {s : Mem} {z : Int32 × Mem} (h : A_L_isFull av s = some z) (d : Nat) : Ctr (d + 2) I_L_isFull av s z := by
  unfold A_L_isFull at h
  split at h
  · replace h := cbr_n h
    obtain ⟨hb, h⟩ := h
    cases beq_t hb
    refine ctr_of (d := d + 1) (own := 2) (kps := []) (code := K_L_isFull) (Cl := C_L_isFull) o_L_isFull rfl (by decide) k_L_isFull (l_L_isFull d) (c1_of rfl) (Nat.le_of_ble_eq_true rfl) ?_
    intro RA S
    rw [e_L_isFull] at h
    refine S.2 _ ?_ 700 0 _ _ (ck1_of rfl) h
    intro k ls s h
    cases h
  · cases h
set_option maxRecDepth 1000000 in
theorem k_L_beginLine : okC 2 I_L_beginLine.2.2.1 I_L_beginLine.2.1 I_L_beginLine.2.2.2.1 [] K_L_beginLine K_L_beginLine = true := by decide +kernel
theorem l_L_beginLine (d : Nat) (k : Nat) (av : List Value) (s : Mem) (y : Int32 × Mem) (h : C_L_beginLine k av s = some y) : Ctr (d + 2) (mtab k) av s y ∧ ((mtab k).2.2.2.2.2 = 77 → ∃ b rest, av = .ref b :: rest ∧ (b = 1001 ∨ b = 1002)) := by
  unfold C_L_beginLine at h
  replace h := cbr_c h
  rcases h with ⟨hb, h⟩ | ⟨_, h⟩
  · cases beq_t hb
    exact ⟨c_L_isFull h (d + 0), fun q => absurd q (by decide)⟩
  cases h
theorem c_L_beginLine {av : List Value} {s : Mem} {z : Int32 × Mem} (h : A_L_beginLine av s = some z) (d : Nat) : Ctr (d + 3) I_L_beginLine av s z := by
  unfold A_L_beginLine at h
  split at h
  · replace h := cbr_n h
    obtain ⟨hb, h⟩ := h
    cases beq_t hb
    refine ctr_of (d := d + 2) (own := 2) (kps := []) (code := K_L_beginLine) (Cl := C_L_beginLine) o_L_beginLine rfl (by decide) k_L_beginLine (l_L_beginLine d) (c1_of rfl) (Nat.le_of_ble_eq_true rfl) ?_
    intro RA S
    rw [e_L_beginLine] at h
    refine S.2 _ ?_ 700 0 _ _ (ck1_of rfl) h
    intro k ls s h
    cases h
  · cases h
set_option maxRecDepth 1000000 in
theorem k_L_put : okC 2 I_L_put.2.2.1 I_L_put.2.1 I_L_put.2.2.2.1 [] K_L_put K_L_put = true := by decide +kernel
theorem l_L_put (d : Nat) (k : Nat) (av : List Value) (s : Mem) (y : Int32 × Mem) (h : C_L_put k av s = some y) : Ctr (d + 0) (mtab k) av s y ∧ ((mtab k).2.2.2.2.2 = 77 → ∃ b rest, av = .ref b :: rest ∧ (b = 1001 ∨ b = 1002)) := by
  exact nomatch (show (none : Option (Int32 × Mem)) = some y from h)
theorem c_L_put {av : List Value} {s : Mem} {z : Int32 × Mem} (h : A_L_put av s = some z) (d : Nat) : Ctr (d + 1) I_L_put av s z := by
  unfold A_L_put at h
  split at h
  · replace h := cbr_n h
    obtain ⟨hb, h⟩ := h
    cases beq_t hb
    refine ctr_of (d := d + 0) (own := 2) (kps := []) (code := K_L_put) (Cl := C_L_put) o_L_put rfl (by decide) k_L_put (l_L_put d) (c1_of rfl) (Nat.le_of_ble_eq_true rfl) ?_
    intro RA S
    rw [e_L_put] at h
    refine S.2 _ ?_ 700 0 _ _ (ck1_of rfl) h
    intro k ls s h
    cases h
  · cases h
set_option maxRecDepth 1000000 in
theorem k_P_takeNumber : okC 5 I_P_takeNumber.2.2.1 I_P_takeNumber.2.1 I_P_takeNumber.2.2.2.1 [] K_P_takeNumber K_P_takeNumber = true := by decide +kernel
theorem l_P_takeNumber (d : Nat) (k : Nat) (av : List Value) (s : Mem) (y : Int32 × Mem) (h : C_P_takeNumber k av s = some y) : Ctr (d + 1) (mtab k) av s y ∧ ((mtab k).2.2.2.2.2 = 77 → ∃ b rest, av = .ref b :: rest ∧ (b = 1001 ∨ b = 1002)) := by
  unfold C_P_takeNumber at h
  replace h := cbr_c h
  rcases h with ⟨hb, h⟩ | ⟨_, h⟩
  · cases beq_t hb
    exact ⟨c_P_kind h (d + 0), fun q => absurd q (by decide)⟩
  replace h := cbr_c h
  rcases h with ⟨hb, h⟩ | ⟨_, h⟩
  · cases beq_t hb
    exact ⟨c_P_fail h (d + 0), fun q => absurd q (by decide)⟩
  cases h
theorem c_P_takeNumber {av : List Value} {s : Mem} {z : Int32 × Mem} (h : A_P_takeNumber av s = some z) (d : Nat) : Ctr (d + 2) I_P_takeNumber av s z := by
  unfold A_P_takeNumber at h
  split at h
  · replace h := cbr_n h
    obtain ⟨hb, h⟩ := h
    cases beq_t hb
    refine ctr_of (d := d + 1) (own := 5) (kps := []) (code := K_P_takeNumber) (Cl := C_P_takeNumber) o_P_takeNumber rfl (by decide) k_P_takeNumber (l_P_takeNumber d) (c1_of rfl) (Nat.le_of_ble_eq_true rfl) ?_
    intro RA S
    rw [e_P_takeNumber] at h
    refine S.2 _ ?_ 700 0 _ _ (ck1_of rfl) h
    intro k ls s h
    cases h
  · cases h
set_option maxRecDepth 1000000 in
theorem k_P_readProduct : okC 5 I_P_readProduct.2.2.1 I_P_readProduct.2.1 I_P_readProduct.2.2.2.1 [2, 96] K_P_readProduct K_P_readProduct = true := by decide +kernel
theorem a_P_readProduct_2 {z : Int32 × Mem} {RA : Nat → List (Option Value) → Mem → Prop} (hm : ∀ (pc : Nat) (ls ls1 : List (Option Value)) (σ : Mem), ls1.length = I_P_readProduct.2.2.1 → (∀ i v, lk ls1 i = some v → lk ls i = some v) → RA pc ls1 σ → RA pc ls σ) {f : Int32 → Mem → Option (Int32 × Mem)} {ls : List (Option Value)} {s : Mem} (h : A_P_readProduct_2 f ls s = some z) (hf : ∀ (x1 : Int32) (s : Mem), f x1 s = some z → RA 2 [some (.ref 76), some (.int x1)] s) : RA 2 ls s := by
  unfold A_P_readProduct_2 at h
  split at h
  · rename_i a0 a1 e0 e1
    replace h := cbr_n h
    obtain ⟨hb, h⟩ := h
    cases beq_t hb
    refine hm _ _ [some (.ref 76), some (.int a1)] _ rfl (fun i v hv => ?_) (hf _ _ h)
    match i, hv with
    | 0, hv => exact e0.trans hv
    | 1, hv => exact e1.trans hv
    | i + 2, hv => cases hv
  · cases h
theorem a_P_readProduct_49 {z : Int32 × Mem} {RA : Nat → List (Option Value) → Mem → Prop} (hm : ∀ (pc : Nat) (ls ls1 : List (Option Value)) (σ : Mem), ls1.length = I_P_readProduct.2.2.1 → (∀ i v, lk ls1 i = some v → lk ls i = some v) → RA pc ls1 σ → RA pc ls σ) {f : Mem → Option (Int32 × Mem)} {ls : List (Option Value)} {s : Mem} (h : A_P_readProduct_49 f ls s = some z) (hf : ∀  (s : Mem), f  s = some z → RA 96 [some (.ref 76), none] s) : RA 96 ls s := by
  unfold A_P_readProduct_49 at h
  split at h
  · rename_i a0 e0
    replace h := cbr_n h
    obtain ⟨hb, h⟩ := h
    cases beq_t hb
    refine hm _ _ [some (.ref 76), none] _ rfl (fun i v hv => ?_) (hf  _ h)
    match i, hv with
    | 0, hv => exact e0.trans hv
    | 1, hv => cases hv
    | i + 2, hv => cases hv
  · cases h
theorem n_P_readProduct_49 {z : Int32 × Mem} {RA : Nat → List (Option Value) → Mem → Prop} (S : Sm I_P_readProduct C_P_readProduct K_P_readProduct [2, 96] z RA) {k2 : Int32 → Mem → Option (Int32 × Mem)} (hk2 : ∀ (x1 : Int32) (s : Mem), k2 x1 s = some z → RA 2 [some (.ref 76), some (.int x1)] s) : ∀ (n : Nat)  (s : Mem), F_P_readProduct_49 k2 n s = some z → RA 96 [some (.ref 76), none] s := by
  intro n
  induction n with
  | zero => intro s h; exact nomatch (show (none : Option (Int32 × Mem)) = some z from h)
  | succ n ih =>
    intro s h
    rw [e_P_readProduct_49] at h
    refine S.2 _ ?_ 700 51 _ _ (ck1_of rfl) h
    intro k ls s h
    replace h := cbr_c h
    rcases h with ⟨hb, h⟩ | ⟨_, h⟩
    · cases beq_t hb
      exact a_P_readProduct_2 S.1 h hk2
    replace h := cbr_c h
    rcases h with ⟨hb, h⟩ | ⟨_, h⟩
    · cases beq_t hb
      exact a_P_readProduct_49 S.1 h ih
    cases h
theorem n_P_readProduct_2 {z : Int32 × Mem} {RA : Nat → List (Option Value) → Mem → Prop} (S : Sm I_P_readProduct C_P_readProduct K_P_readProduct [2, 96] z RA) : ∀ (n : Nat) (x1 : Int32) (s : Mem), F_P_readProduct_2 n x1 s = some z → RA 2 [some (.ref 76), some (.int x1)] s := by
  intro n
  induction n with
  | zero => intro x1 s h; exact nomatch (show (none : Option (Int32 × Mem)) = some z from h)
  | succ n ih =>
    intro x1 s h
    rw [e_P_readProduct_2] at h
    refine S.2 _ ?_ 700 3 _ _ (ck1_of rfl) h
    intro k ls s h
    replace h := cbr_c h
    rcases h with ⟨hb, h⟩ | ⟨_, h⟩
    · cases beq_t hb
      exact a_P_readProduct_49 S.1 h (n_P_readProduct_49 S ih gF)
    cases h
theorem l_P_readProduct (d : Nat) (k : Nat) (av : List Value) (s : Mem) (y : Int32 × Mem) (h : C_P_readProduct k av s = some y) : Ctr (d + 2) (mtab k) av s y ∧ ((mtab k).2.2.2.2.2 = 77 → ∃ b rest, av = .ref b :: rest ∧ (b = 1001 ∨ b = 1002)) := by
  unfold C_P_readProduct at h
  replace h := cbr_c h
  rcases h with ⟨hb, h⟩ | ⟨_, h⟩
  · cases beq_t hb
    exact ⟨c_P_kind h (d + 1), fun q => absurd q (by decide)⟩
  replace h := cbr_c h
  rcases h with ⟨hb, h⟩ | ⟨_, h⟩
  · cases beq_t hb
    exact ⟨c_C_within h (d + 1), fun q => absurd q (by decide)⟩
  replace h := cbr_c h
  rcases h with ⟨hb, h⟩ | ⟨_, h⟩
  · cases beq_t hb
    exact ⟨c_P_takeNumber h (d + 0), fun q => absurd q (by decide)⟩
  replace h := cbr_c h
  rcases h with ⟨hb, h⟩ | ⟨_, h⟩
  · cases beq_t hb
    exact ⟨c_L_put h (d + 1), fun q => absurd q (by decide)⟩
  cases h
theorem c_P_readProduct {av : List Value} {s : Mem} {z : Int32 × Mem} (h : A_P_readProduct av s = some z) (d : Nat) : Ctr (d + 3) I_P_readProduct av s z := by
  unfold A_P_readProduct at h
  split at h
  · replace h := cbr_n h
    obtain ⟨hb, h⟩ := h
    cases beq_t hb
    refine ctr_of (d := d + 2) (own := 5) (kps := [2, 96]) (code := K_P_readProduct) (Cl := C_P_readProduct) o_P_readProduct rfl (by decide) k_P_readProduct (l_P_readProduct d) (c1_of rfl) (Nat.le_of_ble_eq_true rfl) ?_
    intro RA S
    rw [e_P_readProduct] at h
    refine S.2 _ ?_ 700 0 _ _ (ck1_of rfl) h
    intro k ls s h
    replace h := cbr_c h
    rcases h with ⟨hb, h⟩ | ⟨_, h⟩
    · cases beq_t hb
      exact a_P_readProduct_2 S.1 h (n_P_readProduct_2 S gF)
    cases h
  · cases h
set_option maxRecDepth 1000000 in
theorem k_P_readSum : okC 5 I_P_readSum.2.2.1 I_P_readSum.2.1 I_P_readSum.2.2.2.1 [2] K_P_readSum K_P_readSum = true := by decide +kernel
theorem a_P_readSum_2 {z : Int32 × Mem} {RA : Nat → List (Option Value) → Mem → Prop} (hm : ∀ (pc : Nat) (ls ls1 : List (Option Value)) (σ : Mem), ls1.length = I_P_readSum.2.2.1 → (∀ i v, lk ls1 i = some v → lk ls i = some v) → RA pc ls1 σ → RA pc ls σ) {f : Int32 → Mem → Option (Int32 × Mem)} {ls : List (Option Value)} {s : Mem} (h : A_P_readSum_2 f ls s = some z) (hf : ∀ (x1 : Int32) (s : Mem), f x1 s = some z → RA 2 [some (.ref 76), some (.int x1)] s) : RA 2 ls s := by
  unfold A_P_readSum_2 at h
  split at h
  · rename_i a0 a1 e0 e1
    replace h := cbr_n h
    obtain ⟨hb, h⟩ := h
    cases beq_t hb
    refine hm _ _ [some (.ref 76), some (.int a1)] _ rfl (fun i v hv => ?_) (hf _ _ h)
    match i, hv with
    | 0, hv => exact e0.trans hv
    | 1, hv => exact e1.trans hv
    | i + 2, hv => cases hv
  · cases h
theorem n_P_readSum_2 {z : Int32 × Mem} {RA : Nat → List (Option Value) → Mem → Prop} (S : Sm I_P_readSum C_P_readSum K_P_readSum [2] z RA) : ∀ (n : Nat) (x1 : Int32) (s : Mem), F_P_readSum_2 n x1 s = some z → RA 2 [some (.ref 76), some (.int x1)] s := by
  intro n
  induction n with
  | zero => intro x1 s h; exact nomatch (show (none : Option (Int32 × Mem)) = some z from h)
  | succ n ih =>
    intro x1 s h
    rw [e_P_readSum_2] at h
    refine S.2 _ ?_ 700 3 _ _ (ck1_of rfl) h
    intro k ls s h
    replace h := cbr_c h
    rcases h with ⟨hb, h⟩ | ⟨_, h⟩
    · cases beq_t hb
      exact a_P_readSum_2 S.1 h ih
    cases h
theorem l_P_readSum (d : Nat) (k : Nat) (av : List Value) (s : Mem) (y : Int32 × Mem) (h : C_P_readSum k av s = some y) : Ctr (d + 3) (mtab k) av s y ∧ ((mtab k).2.2.2.2.2 = 77 → ∃ b rest, av = .ref b :: rest ∧ (b = 1001 ∨ b = 1002)) := by
  unfold C_P_readSum at h
  replace h := cbr_c h
  rcases h with ⟨hb, h⟩ | ⟨_, h⟩
  · cases beq_t hb
    exact ⟨c_P_readProduct h (d + 0), fun q => absurd q (by decide)⟩
  replace h := cbr_c h
  rcases h with ⟨hb, h⟩ | ⟨_, h⟩
  · cases beq_t hb
    exact ⟨c_P_kind h (d + 2), fun q => absurd q (by decide)⟩
  replace h := cbr_c h
  rcases h with ⟨hb, h⟩ | ⟨_, h⟩
  · cases beq_t hb
    exact ⟨c_L_put h (d + 2), fun q => absurd q (by decide)⟩
  cases h
theorem c_P_readSum {av : List Value} {s : Mem} {z : Int32 × Mem} (h : A_P_readSum av s = some z) (d : Nat) : Ctr (d + 4) I_P_readSum av s z := by
  unfold A_P_readSum at h
  split at h
  · replace h := cbr_n h
    obtain ⟨hb, h⟩ := h
    cases beq_t hb
    refine ctr_of (d := d + 3) (own := 5) (kps := [2]) (code := K_P_readSum) (Cl := C_P_readSum) o_P_readSum rfl (by decide) k_P_readSum (l_P_readSum d) (c1_of rfl) (Nat.le_of_ble_eq_true rfl) ?_
    intro RA S
    rw [e_P_readSum] at h
    refine S.2 _ ?_ 700 0 _ _ (ck1_of rfl) h
    intro k ls s h
    replace h := cbr_c h
    rcases h with ⟨hb, h⟩ | ⟨_, h⟩
    · cases beq_t hb
      exact a_P_readSum_2 S.1 h (n_P_readSum_2 S gF)
    cases h
  · cases h
set_option maxRecDepth 1000000 in
theorem k_L_beginWhen : okC 2 I_L_beginWhen.2.2.1 I_L_beginWhen.2.1 I_L_beginWhen.2.2.2.1 [] K_L_beginWhen K_L_beginWhen = true := by decide +kernel
theorem l_L_beginWhen (d : Nat) (k : Nat) (av : List Value) (s : Mem) (y : Int32 × Mem) (h : C_L_beginWhen k av s = some y) : Ctr (d + 2) (mtab k) av s y ∧ ((mtab k).2.2.2.2.2 = 77 → ∃ b rest, av = .ref b :: rest ∧ (b = 1001 ∨ b = 1002)) := by
  unfold C_L_beginWhen at h
  replace h := cbr_c h
  rcases h with ⟨hb, h⟩ | ⟨_, h⟩
  · cases beq_t hb
    exact ⟨c_L_isFull h (d + 0), fun q => absurd q (by decide)⟩
  cases h
theorem c_L_beginWhen {av : List Value} {s : Mem} {z : Int32 × Mem} (h : A_L_beginWhen av s = some z) (d : Nat) : Ctr (d + 3) I_L_beginWhen av s z := by
  unfold A_L_beginWhen at h
  split at h
  · replace h := cbr_n h
    obtain ⟨hb, h⟩ := h
    cases beq_t hb
    refine ctr_of (d := d + 2) (own := 2) (kps := []) (code := K_L_beginWhen) (Cl := C_L_beginWhen) o_L_beginWhen rfl (by decide) k_L_beginWhen (l_L_beginWhen d) (c1_of rfl) (Nat.le_of_ble_eq_true rfl) ?_
    intro RA S
    rw [e_L_beginWhen] at h
    refine S.2 _ ?_ 700 0 _ _ (ck1_of rfl) h
    intro k ls s h
    cases h
  · cases h
set_option maxRecDepth 1000000 in
theorem k_P_take : okC 5 I_P_take.2.2.1 I_P_take.2.1 I_P_take.2.2.2.1 [] K_P_take K_P_take = true := by decide +kernel
theorem l_P_take (d : Nat) (k : Nat) (av : List Value) (s : Mem) (y : Int32 × Mem) (h : C_P_take k av s = some y) : Ctr (d + 1) (mtab k) av s y ∧ ((mtab k).2.2.2.2.2 = 77 → ∃ b rest, av = .ref b :: rest ∧ (b = 1001 ∨ b = 1002)) := by
  unfold C_P_take at h
  replace h := cbr_c h
  rcases h with ⟨hb, h⟩ | ⟨_, h⟩
  · cases beq_t hb
    exact ⟨c_P_kind h (d + 0), fun q => absurd q (by decide)⟩
  replace h := cbr_c h
  rcases h with ⟨hb, h⟩ | ⟨_, h⟩
  · cases beq_t hb
    exact ⟨c_P_fail h (d + 0), fun q => absurd q (by decide)⟩
  cases h
theorem c_P_take {av : List Value} {s : Mem} {z : Int32 × Mem} (h : A_P_take av s = some z) (d : Nat) : Ctr (d + 2) I_P_take av s z := by
  unfold A_P_take at h
  split at h
  · replace h := cbr_n h
    obtain ⟨hb, h⟩ := h
    cases beq_t hb
    refine ctr_of (d := d + 1) (own := 5) (kps := []) (code := K_P_take) (Cl := C_P_take) o_P_take rfl (by decide) k_P_take (l_P_take d) (c1_of rfl) (Nat.le_of_ble_eq_true rfl) ?_
    intro RA S
    rw [e_P_take] at h
    refine S.2 _ ?_ 700 0 _ _ (ck1_of rfl) h
    intro k ls s h
    cases h
  · cases h
set_option maxRecDepth 1000000 in
theorem k_P_readComparison : okC 5 I_P_readComparison.2.2.1 I_P_readComparison.2.1 I_P_readComparison.2.2.2.1 [] K_P_readComparison K_P_readComparison = true := by decide +kernel
theorem l_P_readComparison {rc : Nat → Int32 → Mem → Option (Int32 × Mem)} {n : Nat} (hrc : ∀ (t : Nat) (o : Int32) (s : Mem) (y : Int32 × Mem), rc t o s = some y → (t = 0 → Ctr (n + 5) (mtab 65) [.ref 76, .int o] s y) ∧ (t = 1 → Ctr (n + 5) (mtab 66) [.ref 76, .int o] s y)) (k : Nat) (av : List Value) (s : Mem) (y : Int32 × Mem) (h : C_P_readComparison rc k av s = some y) : Ctr (n + 5) (mtab k) av s y ∧ ((mtab k).2.2.2.2.2 = 77 → ∃ b rest, av = .ref b :: rest ∧ (b = 1001 ∨ b = 1002)) := by
  unfold C_P_readComparison at h
  replace h := cbr_c h
  rcases h with ⟨hb, h⟩ | ⟨_, h⟩
  · cases beq_t hb
    exact ⟨c_P_kind h (n + 4), fun q => absurd q (by decide)⟩
  replace h := cbr_c h
  rcases h with ⟨hb, h⟩ | ⟨_, h⟩
  · cases beq_t hb
    split at h
    · replace h := cbr_n h
      obtain ⟨hb, h⟩ := h
      cases beq_t hb
      exact ⟨(hrc 1 _ _ _ h).2 rfl, fun q => absurd q (by decide)⟩
    · cases h
  replace h := cbr_c h
  rcases h with ⟨hb, h⟩ | ⟨_, h⟩
  · cases beq_t hb
    exact ⟨c_P_take h (n + 3), fun q => absurd q (by decide)⟩
  replace h := cbr_c h
  rcases h with ⟨hb, h⟩ | ⟨_, h⟩
  · cases beq_t hb
    split at h
    · replace h := cbr_n h
      obtain ⟨hb, h⟩ := h
      cases beq_t hb
      exact ⟨(hrc 0 _ _ _ h).1 rfl, fun q => absurd q (by decide)⟩
    · cases h
  replace h := cbr_c h
  rcases h with ⟨hb, h⟩ | ⟨_, h⟩
  · cases beq_t hb
    exact ⟨c_L_put h (n + 4), fun q => absurd q (by decide)⟩
  replace h := cbr_c h
  rcases h with ⟨hb, h⟩ | ⟨_, h⟩
  · cases beq_t hb
    exact ⟨c_P_fail h (n + 4), fun q => absurd q (by decide)⟩
  replace h := cbr_c h
  rcases h with ⟨hb, h⟩ | ⟨_, h⟩
  · cases beq_t hb
    exact ⟨c_P_readSum h (n + 1), fun q => absurd q (by decide)⟩
  replace h := cbr_c h
  rcases h with ⟨hb, h⟩ | ⟨_, h⟩
  · cases beq_t hb
    exact ⟨c_C_within h (n + 4), fun q => absurd q (by decide)⟩
  cases h
theorem cR_P_readComparison {rc : Nat → Int32 → Mem → Option (Int32 × Mem)} {n : Nat} (hrc : ∀ (t : Nat) (o : Int32) (s : Mem) (y : Int32 × Mem), rc t o s = some y → (t = 0 → Ctr (n + 5) (mtab 65) [.ref 76, .int o] s y) ∧ (t = 1 → Ctr (n + 5) (mtab 66) [.ref 76, .int o] s y)) {o : Int32} {s : Mem} {z : Int32 × Mem} (h : F_P_readComparison rc o s = some z) : Ctr (n + 6) I_P_readComparison [.ref 76, .int o] s z := by
  refine ctr_of (d := n + 5) (own := 5) (kps := []) (code := K_P_readComparison) (Cl := C_P_readComparison rc) o_P_readComparison rfl (by decide) k_P_readComparison (l_P_readComparison hrc) (c1_of rfl) (Nat.le_of_ble_eq_true rfl) ?_
  intro RA S
  rw [e_P_readComparison] at h
  refine S.2 _ ?_ 700 0 _ _ (ck1_of rfl) h
  intro k ls s h
  cases h
set_option maxRecDepth 1000000 in
theorem k_P_readCondition : okC 5 I_P_readCondition.2.2.1 I_P_readCondition.2.1 I_P_readCondition.2.2.2.1 [4] K_P_readCondition K_P_readCondition = true := by decide +kernel
theorem a_P_readCondition_4 {z : Int32 × Mem} {RA : Nat → List (Option Value) → Mem → Prop} (hm : ∀ (pc : Nat) (ls ls1 : List (Option Value)) (σ : Mem), ls1.length = I_P_readCondition.2.2.1 → (∀ i v, lk ls1 i = some v → lk ls i = some v) → RA pc ls1 σ → RA pc ls σ) {f : Int32 → Int32 → Int32 → Mem → Option (Int32 × Mem)} {ls : List (Option Value)} {s : Mem} (h : A_P_readCondition_4 f ls s = some z) (hf : ∀ (x1 : Int32) (x2 : Int32) (x3 : Int32) (s : Mem), f x1 x2 x3 s = some z → RA 4 [some (.ref 76), some (.int x1), some (.int x2), some (.int x3)] s) : RA 4 ls s := by
  unfold A_P_readCondition_4 at h
  split at h
  · rename_i a0 a1 a2 a3 e0 e1 e2 e3
    replace h := cbr_n h
    obtain ⟨hb, h⟩ := h
    cases beq_t hb
    refine hm _ _ [some (.ref 76), some (.int a1), some (.int a2), some (.int a3)] _ rfl (fun i v hv => ?_) (hf _ _ _ _ h)
    match i, hv with
    | 0, hv => exact e0.trans hv
    | 1, hv => exact e1.trans hv
    | 2, hv => exact e2.trans hv
    | 3, hv => exact e3.trans hv
    | i + 4, hv => cases hv
  · cases h
theorem n_P_readCondition_4 {rc : Nat → Int32 → Mem → Option (Int32 × Mem)} {z : Int32 × Mem} {RA : Nat → List (Option Value) → Mem → Prop} (S : Sm I_P_readCondition (C_P_readCondition rc) K_P_readCondition [4] z RA) : ∀ (n : Nat) (x1 : Int32) (x2 : Int32) (x3 : Int32) (s : Mem), F_P_readCondition_4 rc n x1 x2 x3 s = some z → RA 4 [some (.ref 76), some (.int x1), some (.int x2), some (.int x3)] s := by
  intro n
  induction n with
  | zero => intro x1 x2 x3 s h; exact nomatch (show (none : Option (Int32 × Mem)) = some z from h)
  | succ n ih =>
    intro x1 x2 x3 s h
    rw [e_P_readCondition_4] at h
    refine S.2 _ ?_ 700 5 _ _ (ck1_of rfl) h
    intro k ls s h
    replace h := cbr_c h
    rcases h with ⟨hb, h⟩ | ⟨_, h⟩
    · cases beq_t hb
      exact a_P_readCondition_4 S.1 h ih
    cases h
theorem l_P_readCondition {rc : Nat → Int32 → Mem → Option (Int32 × Mem)} {n : Nat} (hrc : ∀ (t : Nat) (o : Int32) (s : Mem) (y : Int32 × Mem), rc t o s = some y → (t = 0 → Ctr (n + 5) (mtab 65) [.ref 76, .int o] s y) ∧ (t = 1 → Ctr (n + 5) (mtab 66) [.ref 76, .int o] s y)) (k : Nat) (av : List Value) (s : Mem) (y : Int32 × Mem) (h : C_P_readCondition rc k av s = some y) : Ctr (n + 5) (mtab k) av s y ∧ ((mtab k).2.2.2.2.2 = 77 → ∃ b rest, av = .ref b :: rest ∧ (b = 1001 ∨ b = 1002)) := by
  unfold C_P_readCondition at h
  replace h := cbr_c h
  rcases h with ⟨hb, h⟩ | ⟨_, h⟩
  · cases beq_t hb
    split at h
    · replace h := cbr_n h
      obtain ⟨hb, h⟩ := h
      cases beq_t hb
      exact ⟨(hrc 0 _ _ _ h).1 rfl, fun q => absurd q (by decide)⟩
    · cases h
  replace h := cbr_c h
  rcases h with ⟨hb, h⟩ | ⟨_, h⟩
  · cases beq_t hb
    exact ⟨c_P_kind h (n + 4), fun q => absurd q (by decide)⟩
  replace h := cbr_c h
  rcases h with ⟨hb, h⟩ | ⟨_, h⟩
  · cases beq_t hb
    exact ⟨c_L_put h (n + 4), fun q => absurd q (by decide)⟩
  cases h
theorem cR_P_readCondition {rc : Nat → Int32 → Mem → Option (Int32 × Mem)} {n : Nat} (hrc : ∀ (t : Nat) (o : Int32) (s : Mem) (y : Int32 × Mem), rc t o s = some y → (t = 0 → Ctr (n + 5) (mtab 65) [.ref 76, .int o] s y) ∧ (t = 1 → Ctr (n + 5) (mtab 66) [.ref 76, .int o] s y)) {o : Int32} {s : Mem} {z : Int32 × Mem} (h : F_P_readCondition rc o s = some z) : Ctr (n + 6) I_P_readCondition [.ref 76, .int o] s z := by
  refine ctr_of (d := n + 5) (own := 5) (kps := [4]) (code := K_P_readCondition) (Cl := C_P_readCondition rc) o_P_readCondition rfl (by decide) k_P_readCondition (l_P_readCondition hrc) (c1_of rfl) (Nat.le_of_ble_eq_true rfl) ?_
  intro RA S
  rw [e_P_readCondition] at h
  refine S.2 _ ?_ 700 0 _ _ (ck1_of rfl) h
  intro k ls s h
  replace h := cbr_c h
  rcases h with ⟨hb, h⟩ | ⟨_, h⟩
  · cases beq_t hb
    exact a_P_readCondition_4 S.1 h (n_P_readCondition_4 S gF)
  cases h
theorem rc_ok (n d : Nat) : ∀ (t : Nat) (o : Int32) (s : Mem) (y : Int32 × Mem), rcF n t o s = some y → (t = 0 → Ctr (d + n + 5) (mtab 65) [.ref 76, .int o] s y) ∧ (t = 1 → Ctr (d + n + 5) (mtab 66) [.ref 76, .int o] s y) := by
  induction n with
  | zero => intro t o s y h; exact nomatch (show (none : Option (Int32 × Mem)) = some y from h)
  | succ n ih =>
    intro t o s y h
    simp only [rcF] at h
    constructor
    · intro ht
      rw [if_pos ht] at h
      exact cR_P_readComparison ih h
    · intro ht
      rw [if_neg (by omega)] at h
      exact cR_P_readCondition ih h
theorem c_rc0 {av : List Value} {s : Mem} {z : Int32 × Mem} (h : (match av with
  | [.ref q, .int o] => cbr (Nat.beq q 76) (rcF 24 0 o s) none
  | _ => none) = some z) (d : Nat) : Ctr (d + 60) (mtab 65) av s z := by
  split at h
  · obtain ⟨hb, h⟩ := cbr_n h
    cases beq_t hb
    exact (rc_ok 24 (d + 31) 0 _ _ _ h).1 rfl
  · cases h
theorem c_rc1 {av : List Value} {s : Mem} {z : Int32 × Mem} (h : (match av with
  | [.ref q, .int o] => cbr (Nat.beq q 76) (rcF 24 1 o s) none
  | _ => none) = some z) (d : Nat) : Ctr (d + 60) (mtab 66) av s z := by
  split at h
  · obtain ⟨hb, h⟩ := cbr_n h
    cases beq_t hb
    exact (rc_ok 24 (d + 31) 1 _ _ _ h).2 rfl
  · cases h
set_option maxRecDepth 1000000 in
theorem k_L_endLine : okC 2 I_L_endLine.2.2.1 I_L_endLine.2.1 I_L_endLine.2.2.2.1 [] K_L_endLine K_L_endLine = true := by decide +kernel
theorem l_L_endLine (d : Nat) (k : Nat) (av : List Value) (s : Mem) (y : Int32 × Mem) (h : C_L_endLine k av s = some y) : Ctr (d + 2) (mtab k) av s y ∧ ((mtab k).2.2.2.2.2 = 77 → ∃ b rest, av = .ref b :: rest ∧ (b = 1001 ∨ b = 1002)) := by
  unfold C_L_endLine at h
  replace h := cbr_c h
  rcases h with ⟨hb, h⟩ | ⟨_, h⟩
  · cases beq_t hb
    exact ⟨c_L_isFull h (d + 0), fun q => absurd q (by decide)⟩
  cases h
theorem c_L_endLine {av : List Value} {s : Mem} {z : Int32 × Mem} (h : A_L_endLine av s = some z) (d : Nat) : Ctr (d + 3) I_L_endLine av s z := by
  unfold A_L_endLine at h
  split at h
  · replace h := cbr_n h
    obtain ⟨hb, h⟩ := h
    cases beq_t hb
    refine ctr_of (d := d + 2) (own := 2) (kps := []) (code := K_L_endLine) (Cl := C_L_endLine) o_L_endLine rfl (by decide) k_L_endLine (l_L_endLine d) (c1_of rfl) (Nat.le_of_ble_eq_true rfl) ?_
    intro RA S
    rw [e_L_endLine] at h
    refine S.2 _ ?_ 700 0 _ _ (ck1_of rfl) h
    intro k ls s h
    cases h
  · cases h
set_option maxRecDepth 1000000 in
theorem k_P_readLaw : okC 5 I_P_readLaw.2.2.1 I_P_readLaw.2.1 I_P_readLaw.2.2.2.1 [9] K_P_readLaw K_P_readLaw = true := by decide +kernel
theorem a_P_readLaw_5 {z : Int32 × Mem} {RA : Nat → List (Option Value) → Mem → Prop} (hm : ∀ (pc : Nat) (ls ls1 : List (Option Value)) (σ : Mem), ls1.length = I_P_readLaw.2.2.1 → (∀ i v, lk ls1 i = some v → lk ls i = some v) → RA pc ls1 σ → RA pc ls σ) {f : Int32 → Mem → Option (Int32 × Mem)} {ls : List (Option Value)} {s : Mem} (h : A_P_readLaw_5 f ls s = some z) (hf : ∀ (x1 : Int32) (s : Mem), f x1 s = some z → RA 9 [some (.ref 76), some (.int x1), none] s) : RA 9 ls s := by
  unfold A_P_readLaw_5 at h
  split at h
  · rename_i a0 a1 e0 e1
    replace h := cbr_n h
    obtain ⟨hb, h⟩ := h
    cases beq_t hb
    refine hm _ _ [some (.ref 76), some (.int a1), none] _ rfl (fun i v hv => ?_) (hf _ _ h)
    match i, hv with
    | 0, hv => exact e0.trans hv
    | 1, hv => exact e1.trans hv
    | 2, hv => cases hv
    | i + 3, hv => cases hv
  · cases h
theorem n_P_readLaw_5 {z : Int32 × Mem} {RA : Nat → List (Option Value) → Mem → Prop} (S : Sm I_P_readLaw C_P_readLaw K_P_readLaw [9] z RA) : ∀ (n : Nat) (x1 : Int32) (s : Mem), F_P_readLaw_5 n x1 s = some z → RA 9 [some (.ref 76), some (.int x1), none] s := by
  intro n
  induction n with
  | zero => intro x1 s h; exact nomatch (show (none : Option (Int32 × Mem)) = some z from h)
  | succ n ih =>
    intro x1 s h
    rw [e_P_readLaw_5] at h
    refine S.2 _ ?_ 700 6 _ _ (ck1_of rfl) h
    intro k ls s h
    replace h := cbr_c h
    rcases h with ⟨hb, h⟩ | ⟨_, h⟩
    · cases beq_t hb
      exact a_P_readLaw_5 S.1 h ih
    cases h
theorem l_P_readLaw (d : Nat) (k : Nat) (av : List Value) (s : Mem) (y : Int32 × Mem) (h : C_P_readLaw k av s = some y) : Ctr (d + 60) (mtab k) av s y ∧ ((mtab k).2.2.2.2.2 = 77 → ∃ b rest, av = .ref b :: rest ∧ (b = 1001 ∨ b = 1002)) := by
  unfold C_P_readLaw at h
  replace h := cbr_c h
  rcases h with ⟨hb, h⟩ | ⟨_, h⟩
  · cases beq_t hb
    exact ⟨c_L_clear h (d + 59), fun q => absurd q (by decide)⟩
  replace h := cbr_c h
  rcases h with ⟨hb, h⟩ | ⟨_, h⟩
  · cases beq_t hb
    exact ⟨c_P_kind h (d + 59), fun q => absurd q (by decide)⟩
  replace h := cbr_c h
  rcases h with ⟨hb, h⟩ | ⟨_, h⟩
  · cases beq_t hb
    exact ⟨c_C_within h (d + 59), fun q => absurd q (by decide)⟩
  replace h := cbr_c h
  rcases h with ⟨hb, h⟩ | ⟨_, h⟩
  · cases beq_t hb
    exact ⟨c_P_fail h (d + 59), fun q => absurd q (by decide)⟩
  replace h := cbr_c h
  rcases h with ⟨hb, h⟩ | ⟨_, h⟩
  · cases beq_t hb
    exact ⟨c_L_isFull h (d + 58), fun q => absurd q (by decide)⟩
  replace h := cbr_c h
  rcases h with ⟨hb, h⟩ | ⟨_, h⟩
  · cases beq_t hb
    exact ⟨c_L_beginLine h (d + 57), fun q => absurd q (by decide)⟩
  replace h := cbr_c h
  rcases h with ⟨hb, h⟩ | ⟨_, h⟩
  · cases beq_t hb
    exact ⟨c_P_readSum h (d + 56), fun q => absurd q (by decide)⟩
  replace h := cbr_c h
  rcases h with ⟨hb, h⟩ | ⟨_, h⟩
  · cases beq_t hb
    exact ⟨c_L_beginWhen h (d + 57), fun q => absurd q (by decide)⟩
  replace h := cbr_c h
  rcases h with ⟨hb, h⟩ | ⟨_, h⟩
  · cases beq_t hb
    exact ⟨c_rc1 h (d + 0), fun q => absurd q (by decide)⟩
  replace h := cbr_c h
  rcases h with ⟨hb, h⟩ | ⟨_, h⟩
  · cases beq_t hb
    exact ⟨c_P_take h (d + 58), fun q => absurd q (by decide)⟩
  replace h := cbr_c h
  rcases h with ⟨hb, h⟩ | ⟨_, h⟩
  · cases beq_t hb
    exact ⟨c_L_endLine h (d + 57), fun q => absurd q (by decide)⟩
  cases h
theorem c_P_readLaw {av : List Value} {s : Mem} {z : Int32 × Mem} (h : A_P_readLaw av s = some z) (d : Nat) : Ctr (d + 61) I_P_readLaw av s z := by
  unfold A_P_readLaw at h
  split at h
  · replace h := cbr_n h
    obtain ⟨hb, h⟩ := h
    cases beq_t hb
    refine ctr_of (d := d + 60) (own := 5) (kps := [9]) (code := K_P_readLaw) (Cl := C_P_readLaw) o_P_readLaw rfl (by decide) k_P_readLaw (l_P_readLaw d) (c1_of rfl) (Nat.le_of_ble_eq_true rfl) ?_
    intro RA S
    rw [e_P_readLaw] at h
    refine S.2 _ ?_ 700 0 _ _ (ck1_of rfl) h
    intro k ls s h
    replace h := cbr_c h
    rcases h with ⟨hb, h⟩ | ⟨_, h⟩
    · cases beq_t hb
      exact a_P_readLaw_5 S.1 h (n_P_readLaw_5 S gF)
    cases h
  · cases h
set_option maxRecDepth 1000000 in
theorem k_N_isFull : okC 3 I_N_isFull.2.2.1 I_N_isFull.2.1 I_N_isFull.2.2.2.1 [] K_N_isFull K_N_isFull = true := by decide +kernel
theorem l_N_isFull (d : Nat) (k : Nat) (av : List Value) (s : Mem) (y : Int32 × Mem) (h : C_N_isFull k av s = some y) : Ctr (d + 1) (mtab k) av s y ∧ ((mtab k).2.2.2.2.2 = 77 → ∃ b rest, av = .ref b :: rest ∧ (b = 1001 ∨ b = 1002)) := by
  unfold C_N_isFull at h
  replace h := cbr_c h
  rcases h with ⟨hb, h⟩ | ⟨_, h⟩
  · cases beq_t hb
    exact ⟨c_C_within h (d + 0), fun q => absurd q (by decide)⟩
  cases h
theorem c_N_isFull {av : List Value} {s : Mem} {z : Int32 × Mem} (h : A_N_isFull av s = some z) (d : Nat) : Ctr (d + 2) I_N_isFull av s z := by
  unfold A_N_isFull at h
  split at h
  · replace h := cbr_n h
    obtain ⟨hb, h⟩ := h
    cases beq_t hb
    refine ctr_of (d := d + 1) (own := 3) (kps := []) (code := K_N_isFull) (Cl := C_N_isFull) o_N_isFull rfl (by decide) k_N_isFull (l_N_isFull d) (c1_of rfl) (Nat.le_of_ble_eq_true rfl) ?_
    intro RA S
    rw [e_N_isFull] at h
    refine S.2 _ ?_ 700 0 _ _ (ck1_of rfl) h
    intro k ls s h
    cases h
  · cases h
set_option maxRecDepth 1000000 in
theorem k_N_draft : okC 3 I_N_draft.2.2.1 I_N_draft.2.1 I_N_draft.2.2.2.1 [] K_N_draft K_N_draft = true := by decide +kernel
theorem l_N_draft (d : Nat) (k : Nat) (av : List Value) (s : Mem) (y : Int32 × Mem) (h : C_N_draft k av s = some y) : Ctr (d + 1) (mtab k) av s y ∧ ((mtab k).2.2.2.2.2 = 77 → ∃ b rest, av = .ref b :: rest ∧ (b = 1001 ∨ b = 1002)) := by
  unfold C_N_draft at h
  replace h := cbr_c h
  rcases h with ⟨hb, h⟩ | ⟨_, h⟩
  · cases beq_t hb
    exact ⟨c_C_within h (d + 0), fun q => absurd q (by decide)⟩
  cases h
theorem c_N_draft {av : List Value} {s : Mem} {z : Int32 × Mem} (h : A_N_draft av s = some z) (d : Nat) : Ctr (d + 2) I_N_draft av s z := by
  unfold A_N_draft at h
  split at h
  · replace h := cbr_n h
    obtain ⟨hb, h⟩ := h
    cases beq_t hb
    refine ctr_of (d := d + 1) (own := 3) (kps := []) (code := K_N_draft) (Cl := C_N_draft) o_N_draft rfl (by decide) k_N_draft (l_N_draft d) (c1_of rfl) (Nat.le_of_ble_eq_true rfl) ?_
    intro RA S
    rw [e_N_draft] at h
    refine S.2 _ ?_ 700 0 _ _ (ck1_of rfl) h
    intro k ls s h
    cases h
  · cases h
set_option maxRecDepth 1000000 in
theorem k_P_readBounded : okC 5 I_P_readBounded.2.2.1 I_P_readBounded.2.1 I_P_readBounded.2.2.2.1 [] K_P_readBounded K_P_readBounded = true := by decide +kernel
theorem l_P_readBounded (d : Nat) (k : Nat) (av : List Value) (s : Mem) (y : Int32 × Mem) (h : C_P_readBounded k av s = some y) : Ctr (d + 2) (mtab k) av s y ∧ ((mtab k).2.2.2.2.2 = 77 → ∃ b rest, av = .ref b :: rest ∧ (b = 1001 ∨ b = 1002)) := by
  unfold C_P_readBounded at h
  replace h := cbr_c h
  rcases h with ⟨hb, h⟩ | ⟨_, h⟩
  · cases beq_t hb
    exact ⟨c_P_take h (d + 0), fun q => absurd q (by decide)⟩
  replace h := cbr_c h
  rcases h with ⟨hb, h⟩ | ⟨_, h⟩
  · cases beq_t hb
    exact ⟨c_P_takeNumber h (d + 0), fun q => absurd q (by decide)⟩
  replace h := cbr_c h
  rcases h with ⟨hb, h⟩ | ⟨_, h⟩
  · cases beq_t hb
    exact ⟨c_N_draft h (d + 0), fun q => absurd q (by decide)⟩
  cases h
theorem c_P_readBounded {av : List Value} {s : Mem} {z : Int32 × Mem} (h : A_P_readBounded av s = some z) (d : Nat) : Ctr (d + 3) I_P_readBounded av s z := by
  unfold A_P_readBounded at h
  split at h
  · replace h := cbr_n h
    obtain ⟨hb, h⟩ := h
    cases beq_t hb
    refine ctr_of (d := d + 2) (own := 5) (kps := []) (code := K_P_readBounded) (Cl := C_P_readBounded) o_P_readBounded rfl (by decide) k_P_readBounded (l_P_readBounded d) (c1_of rfl) (Nat.le_of_ble_eq_true rfl) ?_
    intro RA S
    rw [e_P_readBounded] at h
    refine S.2 _ ?_ 700 0 _ _ (ck1_of rfl) h
    intro k ls s h
    cases h
  · cases h
set_option maxRecDepth 1000000 in
theorem k_P_readNight : okC 5 I_P_readNight.2.2.1 I_P_readNight.2.1 I_P_readNight.2.2.2.1 [] K_P_readNight K_P_readNight = true := by decide +kernel
theorem l_P_readNight (d : Nat) (k : Nat) (av : List Value) (s : Mem) (y : Int32 × Mem) (h : C_P_readNight k av s = some y) : Ctr (d + 3) (mtab k) av s y ∧ ((mtab k).2.2.2.2.2 = 77 → ∃ b rest, av = .ref b :: rest ∧ (b = 1001 ∨ b = 1002)) := by
  unfold C_P_readNight at h
  replace h := cbr_c h
  rcases h with ⟨hb, h⟩ | ⟨_, h⟩
  · cases beq_t hb
    exact ⟨c_P_readBounded h (d + 0), fun q => absurd q (by decide)⟩
  cases h
theorem c_P_readNight {av : List Value} {s : Mem} {z : Int32 × Mem} (h : A_P_readNight av s = some z) (d : Nat) : Ctr (d + 4) I_P_readNight av s z := by
  unfold A_P_readNight at h
  split at h
  · replace h := cbr_n h
    obtain ⟨hb, h⟩ := h
    cases beq_t hb
    refine ctr_of (d := d + 3) (own := 5) (kps := []) (code := K_P_readNight) (Cl := C_P_readNight) o_P_readNight rfl (by decide) k_P_readNight (l_P_readNight d) (c1_of rfl) (Nat.le_of_ble_eq_true rfl) ?_
    intro RA S
    rw [e_P_readNight] at h
    refine S.2 _ ?_ 700 0 _ _ (ck1_of rfl) h
    intro k ls s h
    cases h
  · cases h
set_option maxRecDepth 1000000 in
theorem k_P_readFlight : okC 5 I_P_readFlight.2.2.1 I_P_readFlight.2.1 I_P_readFlight.2.2.2.1 [] K_P_readFlight K_P_readFlight = true := by decide +kernel
theorem l_P_readFlight (d : Nat) (k : Nat) (av : List Value) (s : Mem) (y : Int32 × Mem) (h : C_P_readFlight k av s = some y) : Ctr (d + 2) (mtab k) av s y ∧ ((mtab k).2.2.2.2.2 = 77 → ∃ b rest, av = .ref b :: rest ∧ (b = 1001 ∨ b = 1002)) := by
  unfold C_P_readFlight at h
  replace h := cbr_c h
  rcases h with ⟨hb, h⟩ | ⟨_, h⟩
  · cases beq_t hb
    exact ⟨c_P_take h (d + 0), fun q => absurd q (by decide)⟩
  replace h := cbr_c h
  rcases h with ⟨hb, h⟩ | ⟨_, h⟩
  · cases beq_t hb
    exact ⟨c_P_kind h (d + 1), fun q => absurd q (by decide)⟩
  replace h := cbr_c h
  rcases h with ⟨hb, h⟩ | ⟨_, h⟩
  · cases beq_t hb
    exact ⟨c_P_takeNumber h (d + 0), fun q => absurd q (by decide)⟩
  replace h := cbr_c h
  rcases h with ⟨hb, h⟩ | ⟨_, h⟩
  · cases beq_t hb
    exact ⟨c_N_draft h (d + 0), fun q => absurd q (by decide)⟩
  replace h := cbr_c h
  rcases h with ⟨hb, h⟩ | ⟨_, h⟩
  · cases beq_t hb
    exact ⟨c_P_fail h (d + 1), fun q => absurd q (by decide)⟩
  cases h
theorem c_P_readFlight {av : List Value} {s : Mem} {z : Int32 × Mem} (h : A_P_readFlight av s = some z) (d : Nat) : Ctr (d + 3) I_P_readFlight av s z := by
  unfold A_P_readFlight at h
  split at h
  · replace h := cbr_n h
    obtain ⟨hb, h⟩ := h
    cases beq_t hb
    replace h := cbr_n h
    obtain ⟨hb, h⟩ := h
    cases beq_t hb
    refine ctr_of (d := d + 2) (own := 5) (kps := []) (code := K_P_readFlight) (Cl := C_P_readFlight) o_P_readFlight rfl (by decide) k_P_readFlight (l_P_readFlight d) (c1_of rfl) (Nat.le_of_ble_eq_true rfl) ?_
    intro RA S
    rw [e_P_readFlight] at h
    refine S.2 _ ?_ 700 0 _ _ (ck1_of rfl) h
    intro k ls s h
    cases h
  · cases h
set_option maxRecDepth 1000000 in
theorem k_P_readStep : okC 5 I_P_readStep.2.2.1 I_P_readStep.2.1 I_P_readStep.2.2.2.1 [] K_P_readStep K_P_readStep = true := by decide +kernel
theorem l_P_readStep (d : Nat) (k : Nat) (av : List Value) (s : Mem) (y : Int32 × Mem) (h : C_P_readStep k av s = some y) : Ctr (d + 3) (mtab k) av s y ∧ ((mtab k).2.2.2.2.2 = 77 → ∃ b rest, av = .ref b :: rest ∧ (b = 1001 ∨ b = 1002)) := by
  unfold C_P_readStep at h
  replace h := cbr_c h
  rcases h with ⟨hb, h⟩ | ⟨_, h⟩
  · cases beq_t hb
    exact ⟨c_H_size h (d + 1), fun q => absurd q (by decide)⟩
  replace h := cbr_c h
  rcases h with ⟨hb, h⟩ | ⟨_, h⟩
  · cases beq_t hb
    exact ⟨c_P_readBounded h (d + 0), fun q => absurd q (by decide)⟩
  cases h
theorem c_P_readStep {av : List Value} {s : Mem} {z : Int32 × Mem} (h : A_P_readStep av s = some z) (d : Nat) : Ctr (d + 4) I_P_readStep av s z := by
  unfold A_P_readStep at h
  split at h
  · replace h := cbr_n h
    obtain ⟨hb, h⟩ := h
    cases beq_t hb
    replace h := cbr_n h
    obtain ⟨hb, h⟩ := h
    cases beq_t hb
    refine ctr_of (d := d + 3) (own := 5) (kps := []) (code := K_P_readStep) (Cl := C_P_readStep) o_P_readStep rfl (by decide) k_P_readStep (l_P_readStep d) (c1_of rfl) (Nat.le_of_ble_eq_true rfl) ?_
    intro RA S
    rw [e_P_readStep] at h
    refine S.2 _ ?_ 700 0 _ _ (ck1_of rfl) h
    intro k ls s h
    cases h
  · cases h
set_option maxRecDepth 1000000 in
theorem k_P_orderOf : okC 5 I_P_orderOf.2.2.1 I_P_orderOf.2.1 I_P_orderOf.2.2.2.1 [] K_P_orderOf K_P_orderOf = true := by decide +kernel
theorem l_P_orderOf (d : Nat) (k : Nat) (av : List Value) (s : Mem) (y : Int32 × Mem) (h : C_P_orderOf k av s = some y) : Ctr (d + 0) (mtab k) av s y ∧ ((mtab k).2.2.2.2.2 = 77 → ∃ b rest, av = .ref b :: rest ∧ (b = 1001 ∨ b = 1002)) := by
  exact nomatch (show (none : Option (Int32 × Mem)) = some y from h)
theorem c_P_orderOf {av : List Value} {s : Mem} {z : Int32 × Mem} (h : A_P_orderOf av s = some z) (d : Nat) : Ctr (d + 1) I_P_orderOf av s z := by
  unfold A_P_orderOf at h
  split at h
  · refine ctr_of (d := d + 0) (own := 5) (kps := []) (code := K_P_orderOf) (Cl := C_P_orderOf) o_P_orderOf rfl (by decide) k_P_orderOf (l_P_orderOf d) (c1_of rfl) (Nat.le_of_ble_eq_true rfl) ?_
    intro RA S
    rw [e_P_orderOf] at h
    refine S.2 _ ?_ 700 0 _ _ (ck1_of rfl) h
    intro k ls s h
    cases h
  · cases h
set_option maxRecDepth 1000000 in
theorem k_P_readOrder : okC 5 I_P_readOrder.2.2.1 I_P_readOrder.2.1 I_P_readOrder.2.2.2.1 [] K_P_readOrder K_P_readOrder = true := by decide +kernel
theorem l_P_readOrder (d : Nat) (k : Nat) (av : List Value) (s : Mem) (y : Int32 × Mem) (h : C_P_readOrder k av s = some y) : Ctr (d + 4) (mtab k) av s y ∧ ((mtab k).2.2.2.2.2 = 77 → ∃ b rest, av = .ref b :: rest ∧ (b = 1001 ∨ b = 1002)) := by
  unfold C_P_readOrder at h
  replace h := cbr_c h
  rcases h with ⟨hb, h⟩ | ⟨_, h⟩
  · cases beq_t hb
    exact ⟨c_P_readNight h (d + 0), fun q => absurd q (by decide)⟩
  replace h := cbr_c h
  rcases h with ⟨hb, h⟩ | ⟨_, h⟩
  · cases beq_t hb
    exact ⟨c_P_readFlight h (d + 1), fun q => absurd q (by decide)⟩
  replace h := cbr_c h
  rcases h with ⟨hb, h⟩ | ⟨_, h⟩
  · cases beq_t hb
    exact ⟨c_P_readStep h (d + 0), fun q => absurd q (by decide)⟩
  replace h := cbr_c h
  rcases h with ⟨hb, h⟩ | ⟨_, h⟩
  · cases beq_t hb
    exact ⟨c_P_kind h (d + 3), fun q => absurd q (by decide)⟩
  replace h := cbr_c h
  rcases h with ⟨hb, h⟩ | ⟨_, h⟩
  · cases beq_t hb
    exact ⟨c_P_orderOf h (d + 3), fun q => absurd q (by decide)⟩
  replace h := cbr_c h
  rcases h with ⟨hb, h⟩ | ⟨_, h⟩
  · cases beq_t hb
    exact ⟨c_P_fail h (d + 3), fun q => absurd q (by decide)⟩
  replace h := cbr_c h
  rcases h with ⟨hb, h⟩ | ⟨_, h⟩
  · cases beq_t hb
    exact ⟨c_N_draft h (d + 2), fun q => absurd q (by decide)⟩
  cases h
theorem c_P_readOrder {av : List Value} {s : Mem} {z : Int32 × Mem} (h : A_P_readOrder av s = some z) (d : Nat) : Ctr (d + 5) I_P_readOrder av s z := by
  unfold A_P_readOrder at h
  split at h
  · replace h := cbr_n h
    obtain ⟨hb, h⟩ := h
    cases beq_t hb
    replace h := cbr_n h
    obtain ⟨hb, h⟩ := h
    cases beq_t hb
    refine ctr_of (d := d + 4) (own := 5) (kps := []) (code := K_P_readOrder) (Cl := C_P_readOrder) o_P_readOrder rfl (by decide) k_P_readOrder (l_P_readOrder d) (c1_of rfl) (Nat.le_of_ble_eq_true rfl) ?_
    intro RA S
    rw [e_P_readOrder] at h
    refine S.2 _ ?_ 700 0 _ _ (ck1_of rfl) h
    intro k ls s h
    cases h
  · cases h
set_option maxRecDepth 1000000 in
theorem k_P_readVisit : okC 5 I_P_readVisit.2.2.1 I_P_readVisit.2.1 I_P_readVisit.2.2.2.1 [] K_P_readVisit K_P_readVisit = true := by decide +kernel
theorem l_P_readVisit (d : Nat) (k : Nat) (av : List Value) (s : Mem) (y : Int32 × Mem) (h : C_P_readVisit k av s = some y) : Ctr (d + 4) (mtab k) av s y ∧ ((mtab k).2.2.2.2.2 = 77 → ∃ b rest, av = .ref b :: rest ∧ (b = 1001 ∨ b = 1002)) := by
  unfold C_P_readVisit at h
  replace h := cbr_c h
  rcases h with ⟨hb, h⟩ | ⟨_, h⟩
  · cases beq_t hb
    exact ⟨c_P_readNight h (d + 0), fun q => absurd q (by decide)⟩
  replace h := cbr_c h
  rcases h with ⟨hb, h⟩ | ⟨_, h⟩
  · cases beq_t hb
    exact ⟨c_P_readFlight h (d + 1), fun q => absurd q (by decide)⟩
  replace h := cbr_c h
  rcases h with ⟨hb, h⟩ | ⟨_, h⟩
  · cases beq_t hb
    exact ⟨c_P_kind h (d + 3), fun q => absurd q (by decide)⟩
  replace h := cbr_c h
  rcases h with ⟨hb, h⟩ | ⟨_, h⟩
  · cases beq_t hb
    exact ⟨c_N_draft h (d + 2), fun q => absurd q (by decide)⟩
  replace h := cbr_c h
  rcases h with ⟨hb, h⟩ | ⟨_, h⟩
  · cases beq_t hb
    exact ⟨c_P_readBounded h (d + 1), fun q => absurd q (by decide)⟩
  replace h := cbr_c h
  rcases h with ⟨hb, h⟩ | ⟨_, h⟩
  · cases beq_t hb
    exact ⟨c_P_fail h (d + 3), fun q => absurd q (by decide)⟩
  cases h
theorem c_P_readVisit {av : List Value} {s : Mem} {z : Int32 × Mem} (h : A_P_readVisit av s = some z) (d : Nat) : Ctr (d + 5) I_P_readVisit av s z := by
  unfold A_P_readVisit at h
  split at h
  · replace h := cbr_n h
    obtain ⟨hb, h⟩ := h
    cases beq_t hb
    replace h := cbr_n h
    obtain ⟨hb, h⟩ := h
    cases beq_t hb
    refine ctr_of (d := d + 4) (own := 5) (kps := []) (code := K_P_readVisit) (Cl := C_P_readVisit) o_P_readVisit rfl (by decide) k_P_readVisit (l_P_readVisit d) (c1_of rfl) (Nat.le_of_ble_eq_true rfl) ?_
    intro RA S
    rw [e_P_readVisit] at h
    refine S.2 _ ?_ 700 0 _ _ (ck1_of rfl) h
    intro k ls s h
    cases h
  · cases h
set_option maxRecDepth 1000000 in
theorem k_P_readDoor : okC 5 I_P_readDoor.2.2.1 I_P_readDoor.2.1 I_P_readDoor.2.2.2.1 [] K_P_readDoor K_P_readDoor = true := by decide +kernel
theorem l_P_readDoor (d : Nat) (k : Nat) (av : List Value) (s : Mem) (y : Int32 × Mem) (h : C_P_readDoor k av s = some y) : Ctr (d + 4) (mtab k) av s y ∧ ((mtab k).2.2.2.2.2 = 77 → ∃ b rest, av = .ref b :: rest ∧ (b = 1001 ∨ b = 1002)) := by
  unfold C_P_readDoor at h
  replace h := cbr_c h
  rcases h with ⟨hb, h⟩ | ⟨_, h⟩
  · cases beq_t hb
    exact ⟨c_P_readFlight h (d + 1), fun q => absurd q (by decide)⟩
  replace h := cbr_c h
  rcases h with ⟨hb, h⟩ | ⟨_, h⟩
  · cases beq_t hb
    exact ⟨c_P_readStep h (d + 0), fun q => absurd q (by decide)⟩
  replace h := cbr_c h
  rcases h with ⟨hb, h⟩ | ⟨_, h⟩
  · cases beq_t hb
    exact ⟨c_N_at h (d + 2), fun q => absurd q (by decide)⟩
  cases h
theorem c_P_readDoor {av : List Value} {s : Mem} {z : Int32 × Mem} (h : A_P_readDoor av s = some z) (d : Nat) : Ctr (d + 5) I_P_readDoor av s z := by
  unfold A_P_readDoor at h
  split at h
  · replace h := cbr_n h
    obtain ⟨hb, h⟩ := h
    cases beq_t hb
    replace h := cbr_n h
    obtain ⟨hb, h⟩ := h
    cases beq_t hb
    refine ctr_of (d := d + 4) (own := 5) (kps := []) (code := K_P_readDoor) (Cl := C_P_readDoor) o_P_readDoor rfl (by decide) k_P_readDoor (l_P_readDoor d) (c1_of rfl) (Nat.le_of_ble_eq_true rfl) ?_
    intro RA S
    rw [e_P_readDoor] at h
    refine S.2 _ ?_ 700 0 _ _ (ck1_of rfl) h
    intro k ls s h
    cases h
  · cases h
set_option maxRecDepth 1000000 in
theorem k_P_readLines : okC 5 I_P_readLines.2.2.1 I_P_readLines.2.1 I_P_readLines.2.2.2.1 [10] K_P_readLines K_P_readLines = true := by decide +kernel
theorem a_P_readLines_6 {z : Int32 × Mem} {RA : Nat → List (Option Value) → Mem → Prop} (hm : ∀ (pc : Nat) (ls ls1 : List (Option Value)) (σ : Mem), ls1.length = I_P_readLines.2.2.1 → (∀ i v, lk ls1 i = some v → lk ls i = some v) → RA pc ls1 σ → RA pc ls σ) {f : Int32 → Int32 → Mem → Option (Int32 × Mem)} {ls : List (Option Value)} {s : Mem} (h : A_P_readLines_6 f ls s = some z) (hf : ∀ (x1 : Int32) (x3 : Int32) (s : Mem), f x1 x3 s = some z → RA 10 [some (.ref 76), some (.int x1), some (.ref 2), some (.int x3), none] s) : RA 10 ls s := by
  unfold A_P_readLines_6 at h
  split at h
  · rename_i a0 a1 a2 a3 e0 e1 e2 e3
    replace h := cbr_n h
    obtain ⟨hb, h⟩ := h
    cases beq_t hb
    replace h := cbr_n h
    obtain ⟨hb, h⟩ := h
    cases beq_t hb
    refine hm _ _ [some (.ref 76), some (.int a1), some (.ref 2), some (.int a3), none] _ rfl (fun i v hv => ?_) (hf _ _ _ h)
    match i, hv with
    | 0, hv => exact e0.trans hv
    | 1, hv => exact e1.trans hv
    | 2, hv => exact e2.trans hv
    | 3, hv => exact e3.trans hv
    | 4, hv => cases hv
    | i + 5, hv => cases hv
  · cases h
theorem n_P_readLines_6 {z : Int32 × Mem} {RA : Nat → List (Option Value) → Mem → Prop} (S : Sm I_P_readLines C_P_readLines K_P_readLines [10] z RA) : ∀ (n : Nat) (x1 : Int32) (x3 : Int32) (s : Mem), F_P_readLines_6 n x1 x3 s = some z → RA 10 [some (.ref 76), some (.int x1), some (.ref 2), some (.int x3), none] s := by
  intro n
  induction n with
  | zero => intro x1 x3 s h; exact nomatch (show (none : Option (Int32 × Mem)) = some z from h)
  | succ n ih =>
    intro x1 x3 s h
    rw [e_P_readLines_6] at h
    refine S.2 _ ?_ 700 7 _ _ (ck1_of rfl) h
    intro k ls s h
    replace h := cbr_c h
    rcases h with ⟨hb, h⟩ | ⟨_, h⟩
    · cases beq_t hb
      exact a_P_readLines_6 S.1 h ih
    cases h
theorem l_P_readLines (d : Nat) (k : Nat) (av : List Value) (s : Mem) (y : Int32 × Mem) (h : C_P_readLines k av s = some y) : Ctr (d + 5) (mtab k) av s y ∧ ((mtab k).2.2.2.2.2 = 77 → ∃ b rest, av = .ref b :: rest ∧ (b = 1001 ∨ b = 1002)) := by
  unfold C_P_readLines at h
  replace h := cbr_c h
  rcases h with ⟨hb, h⟩ | ⟨_, h⟩
  · cases beq_t hb
    exact ⟨c_P_kind h (d + 4), fun q => absurd q (by decide)⟩
  replace h := cbr_c h
  rcases h with ⟨hb, h⟩ | ⟨_, h⟩
  · cases beq_t hb
    exact ⟨c_N_isFull h (d + 3), fun q => absurd q (by decide)⟩
  replace h := cbr_c h
  rcases h with ⟨hb, h⟩ | ⟨_, h⟩
  · cases beq_t hb
    exact ⟨c_P_readOrder h (d + 0), fun q => absurd q (by decide)⟩
  replace h := cbr_c h
  rcases h with ⟨hb, h⟩ | ⟨_, h⟩
  · cases beq_t hb
    exact ⟨c_P_take h (d + 3), fun q => absurd q (by decide)⟩
  replace h := cbr_c h
  rcases h with ⟨hb, h⟩ | ⟨_, h⟩
  · cases beq_t hb
    exact ⟨c_P_readVisit h (d + 0), fun q => absurd q (by decide)⟩
  replace h := cbr_c h
  rcases h with ⟨hb, h⟩ | ⟨_, h⟩
  · cases beq_t hb
    exact ⟨c_P_readDoor h (d + 0), fun q => absurd q (by decide)⟩
  replace h := cbr_c h
  rcases h with ⟨hb, h⟩ | ⟨_, h⟩
  · cases beq_t hb
    exact ⟨c_P_fail h (d + 4), fun q => absurd q (by decide)⟩
  cases h
theorem c_P_readLines {av : List Value} {s : Mem} {z : Int32 × Mem} (h : A_P_readLines av s = some z) (d : Nat) : Ctr (d + 6) I_P_readLines av s z := by
  unfold A_P_readLines at h
  split at h
  · replace h := cbr_n h
    obtain ⟨hb, h⟩ := h
    cases beq_t hb
    replace h := cbr_n h
    obtain ⟨hb, h⟩ := h
    cases beq_t hb
    refine ctr_of (d := d + 5) (own := 5) (kps := [10]) (code := K_P_readLines) (Cl := C_P_readLines) o_P_readLines rfl (by decide) k_P_readLines (l_P_readLines d) (c1_of rfl) (Nat.le_of_ble_eq_true rfl) ?_
    intro RA S
    rw [e_P_readLines] at h
    refine S.2 _ ?_ 700 0 _ _ (ck1_of rfl) h
    intro k ls s h
    replace h := cbr_c h
    rcases h with ⟨hb, h⟩ | ⟨_, h⟩
    · cases beq_t hb
      exact a_P_readLines_6 S.1 h (n_P_readLines_6 S gF)
    cases h
  · cases h
set_option maxRecDepth 1000000 in
theorem k_L_copyFrom : okC 2 I_L_copyFrom.2.2.1 I_L_copyFrom.2.1 I_L_copyFrom.2.2.2.1 [] K_L_copyFrom K_L_copyFrom = true := by decide +kernel
theorem l_L_copyFrom (d : Nat) (k : Nat) (av : List Value) (s : Mem) (y : Int32 × Mem) (h : C_L_copyFrom k av s = some y) : Ctr (d + 1) (mtab k) av s y ∧ ((mtab k).2.2.2.2.2 = 77 → ∃ b rest, av = .ref b :: rest ∧ (b = 1001 ∨ b = 1002)) := by
  exact nomatch (show (none : Option (Int32 × Mem)) = some y from h)
theorem c_L_copyFrom {av : List Value} {s : Mem} {z : Int32 × Mem} (h : A_L_copyFrom av s = some z) (d : Nat) : Ctr (d + 2) I_L_copyFrom av s z := by
  unfold A_L_copyFrom at h
  split at h
  · refine ctr_of (d := d + 1) (own := 2) (kps := []) (code := K_L_copyFrom) (Cl := C_L_copyFrom) o_L_copyFrom rfl (by decide) k_L_copyFrom (l_L_copyFrom d) (c1_of rfl) (Nat.le_of_ble_eq_true rfl) ?_
    intro RA S
    rw [e_L_copyFrom] at h
    refine S.2 _ ?_ 700 0 _ _ (ck1_of rfl) h
    intro k ls s h
    cases h
  · cases h
set_option maxRecDepth 1000000 in
theorem k_N_copyFrom : okC 3 I_N_copyFrom.2.2.1 I_N_copyFrom.2.1 I_N_copyFrom.2.2.2.1 [] K_N_copyFrom K_N_copyFrom = true := by decide +kernel
theorem l_N_copyFrom (d : Nat) (k : Nat) (av : List Value) (s : Mem) (y : Int32 × Mem) (h : C_N_copyFrom k av s = some y) : Ctr (d + 1) (mtab k) av s y ∧ ((mtab k).2.2.2.2.2 = 77 → ∃ b rest, av = .ref b :: rest ∧ (b = 1001 ∨ b = 1002)) := by
  exact nomatch (show (none : Option (Int32 × Mem)) = some y from h)
theorem c_N_copyFrom {av : List Value} {s : Mem} {z : Int32 × Mem} (h : A_N_copyFrom av s = some z) (d : Nat) : Ctr (d + 2) I_N_copyFrom av s z := by
  unfold A_N_copyFrom at h
  split at h
  · refine ctr_of (d := d + 1) (own := 3) (kps := []) (code := K_N_copyFrom) (Cl := C_N_copyFrom) o_N_copyFrom rfl (by decide) k_N_copyFrom (l_N_copyFrom d) (c1_of rfl) (Nat.le_of_ble_eq_true rfl) ?_
    intro RA S
    rw [e_N_copyFrom] at h
    refine S.2 _ ?_ 700 0 _ _ (ck1_of rfl) h
    intro k ls s h
    cases h
  · cases h
set_option maxRecDepth 1000000 in
theorem k_C_takeText : okC 10 I_C_takeText.2.2.1 I_C_takeText.2.1 I_C_takeText.2.2.2.1 [] K_C_takeText K_C_takeText = true := by decide +kernel
theorem l_C_takeText (d : Nat) (k : Nat) (av : List Value) (s : Mem) (y : Int32 × Mem) (h : C_C_takeText k av s = some y) : Ctr (d + 2) (mtab k) av s y ∧ ((mtab k).2.2.2.2.2 = 77 → ∃ b rest, av = .ref b :: rest ∧ (b = 1001 ∨ b = 1002)) := by
  unfold C_C_takeText at h
  replace h := cbr_c h
  rcases h with ⟨hb, h⟩ | ⟨_, h⟩
  · cases beq_t hb
    exact ⟨c_L_copyFrom h (d + 0), fun q => absurd q (by decide)⟩
  replace h := cbr_c h
  rcases h with ⟨hb, h⟩ | ⟨_, h⟩
  · cases beq_t hb
    exact ⟨c_N_copyFrom h (d + 0), fun q => absurd q (by decide)⟩
  replace h := cbr_c h
  rcases h with ⟨hb, h⟩ | ⟨_, h⟩
  · cases beq_t hb
    exact ⟨c_C_forgetDeeds h (d + 1), fun q => absurd q (by decide)⟩
  cases h
theorem c_C_takeText {av : List Value} {s : Mem} {z : Int32 × Mem} (h : A_C_takeText av s = some z) (d : Nat) : Ctr (d + 3) I_C_takeText av s z := by
  unfold A_C_takeText at h
  split at h
  · replace h := cbr_n h
    obtain ⟨hb, h⟩ := h
    cases beq_t hb
    refine ctr_of (d := d + 2) (own := 10) (kps := []) (code := K_C_takeText) (Cl := C_C_takeText) o_C_takeText rfl (by decide) k_C_takeText (l_C_takeText d) (c1_of rfl) (Nat.le_of_ble_eq_true rfl) ?_
    intro RA S
    rw [e_C_takeText] at h
    refine S.2 _ ?_ 700 0 _ _ (ck1_of rfl) h
    intro k ls s h
    cases h
  · cases h
set_option maxRecDepth 1000000 in
theorem k_C_text : okC 10 I_C_text.2.2.1 I_C_text.2.1 I_C_text.2.2.2.1 [] K_C_text K_C_text = true := by decide +kernel
theorem l_C_text (d : Nat) (k : Nat) (av : List Value) (s : Mem) (y : Int32 × Mem) (h : C_C_text k av s = some y) : Ctr (d + 61) (mtab k) av s y ∧ ((mtab k).2.2.2.2.2 = 77 → ∃ b rest, av = .ref b :: rest ∧ (b = 1001 ∨ b = 1002)) := by
  unfold C_C_text at h
  replace h := cbr_c h
  rcases h with ⟨hb, h⟩ | ⟨_, h⟩
  · cases beq_t hb
    exact ⟨c_C_within h (d + 60), fun q => absurd q (by decide)⟩
  replace h := cbr_c h
  rcases h with ⟨hb, h⟩ | ⟨_, h⟩
  · cases beq_t hb
    exact ⟨c_P_split h (d + 54), fun q => absurd q (by decide)⟩
  replace h := cbr_c h
  rcases h with ⟨hb, h⟩ | ⟨_, h⟩
  · cases beq_t hb
    exact ⟨c_P_readLaw h (d + 0), fun q => absurd q (by decide)⟩
  replace h := cbr_c h
  rcases h with ⟨hb, h⟩ | ⟨_, h⟩
  · cases beq_t hb
    exact ⟨c_C_takeText h (d + 58), fun q => absurd q (by decide)⟩
  replace h := cbr_c h
  rcases h with ⟨hb, h⟩ | ⟨_, h⟩
  · cases beq_t hb
    exact ⟨c_P_readLines h (d + 55), fun q => absurd q (by decide)⟩
  cases h
theorem c_C_text {av : List Value} {s : Mem} {z : Int32 × Mem} (h : A_C_text av s = some z) (d : Nat) : Ctr (d + 62) I_C_text av s z := by
  unfold A_C_text at h
  split at h
  · replace h := cbr_n h
    obtain ⟨hb, h⟩ := h
    cases beq_t hb
    refine ctr_of (d := d + 61) (own := 10) (kps := []) (code := K_C_text) (Cl := C_C_text) o_C_text rfl (by decide) k_C_text (l_C_text d) (c1_of rfl) (Nat.le_of_ble_eq_true rfl) ?_
    intro RA S
    rw [e_C_text] at h
    refine S.2 _ ?_ 700 0 _ _ (ck1_of rfl) h
    intro k ls s h
    cases h
  · cases h
set_option maxRecDepth 1000000 in
theorem k_C_fault : okC 10 I_C_fault.2.2.1 I_C_fault.2.1 I_C_fault.2.2.2.1 [] K_C_fault K_C_fault = true := by decide +kernel
theorem l_C_fault (d : Nat) (k : Nat) (av : List Value) (s : Mem) (y : Int32 × Mem) (h : C_C_fault k av s = some y) : Ctr (d + 0) (mtab k) av s y ∧ ((mtab k).2.2.2.2.2 = 77 → ∃ b rest, av = .ref b :: rest ∧ (b = 1001 ∨ b = 1002)) := by
  exact nomatch (show (none : Option (Int32 × Mem)) = some y from h)
theorem c_C_fault {av : List Value} {s : Mem} {z : Int32 × Mem} (h : A_C_fault av s = some z) (d : Nat) : Ctr (d + 1) I_C_fault av s z := by
  unfold A_C_fault at h
  split at h
  · replace h := cbr_n h
    obtain ⟨hb, h⟩ := h
    cases beq_t hb
    refine ctr_of (d := d + 0) (own := 10) (kps := []) (code := K_C_fault) (Cl := C_C_fault) o_C_fault rfl (by decide) k_C_fault (l_C_fault d) (c1_of rfl) (Nat.le_of_ble_eq_true rfl) ?_
    intro RA S
    rw [e_C_fault] at h
    refine S.2 _ ?_ 700 0 _ _ (ck1_of rfl) h
    intro k ls s h
    cases h
  · cases h
set_option maxRecDepth 1000000 in
theorem k_G_doorsOf : okC 6 I_G_doorsOf.2.2.1 I_G_doorsOf.2.1 I_G_doorsOf.2.2.2.1 [5] K_G_doorsOf K_G_doorsOf = true := by decide +kernel
theorem a_G_doorsOf_4 {z : Int32 × Mem} {RA : Nat → List (Option Value) → Mem → Prop} (hm : ∀ (pc : Nat) (ls ls1 : List (Option Value)) (σ : Mem), ls1.length = I_G_doorsOf.2.2.1 → (∀ i v, lk ls1 i = some v → lk ls i = some v) → RA pc ls1 σ → RA pc ls σ) {f : Int32 → Int32 → Int32 → Int32 → Mem → Option (Int32 × Mem)} {ls : List (Option Value)} {s : Mem} (h : A_G_doorsOf_4 f ls s = some z) (hf : ∀ (x1 : Int32) (x2 : Int32) (x3 : Int32) (x4 : Int32) (s : Mem), f x1 x2 x3 x4 s = some z → RA 5 [some (.ref 1), some (.int x1), some (.int x2), some (.int x3), some (.int x4), none, none] s) : RA 5 ls s := by
  unfold A_G_doorsOf_4 at h
  split at h
  · rename_i a0 a1 a2 a3 a4 e0 e1 e2 e3 e4
    replace h := cbr_n h
    obtain ⟨hb, h⟩ := h
    cases beq_t hb
    refine hm _ _ [some (.ref 1), some (.int a1), some (.int a2), some (.int a3), some (.int a4), none, none] _ rfl (fun i v hv => ?_) (hf _ _ _ _ _ h)
    match i, hv with
    | 0, hv => exact e0.trans hv
    | 1, hv => exact e1.trans hv
    | 2, hv => exact e2.trans hv
    | 3, hv => exact e3.trans hv
    | 4, hv => exact e4.trans hv
    | 5, hv => cases hv
    | 6, hv => cases hv
    | i + 7, hv => cases hv
  · cases h
theorem n_G_doorsOf_4 {z : Int32 × Mem} {RA : Nat → List (Option Value) → Mem → Prop} (S : Sm I_G_doorsOf C_G_doorsOf K_G_doorsOf [5] z RA) : ∀ (n : Nat) (x1 : Int32) (x2 : Int32) (x3 : Int32) (x4 : Int32) (s : Mem), F_G_doorsOf_4 n x1 x2 x3 x4 s = some z → RA 5 [some (.ref 1), some (.int x1), some (.int x2), some (.int x3), some (.int x4), none, none] s := by
  intro n
  induction n with
  | zero => intro x1 x2 x3 x4 s h; exact nomatch (show (none : Option (Int32 × Mem)) = some z from h)
  | succ n ih =>
    intro x1 x2 x3 x4 s h
    rw [e_G_doorsOf_4] at h
    refine S.2 _ ?_ 700 5 _ _ (ck1_of rfl) h
    intro k ls s h
    replace h := cbr_c h
    rcases h with ⟨hb, h⟩ | ⟨_, h⟩
    · cases beq_t hb
      exact a_G_doorsOf_4 S.1 h ih
    cases h
theorem l_G_doorsOf (d : Nat) (k : Nat) (av : List Value) (s : Mem) (y : Int32 × Mem) (h : C_G_doorsOf k av s = some y) : Ctr (d + 2) (mtab k) av s y ∧ ((mtab k).2.2.2.2.2 = 77 → ∃ b rest, av = .ref b :: rest ∧ (b = 1001 ∨ b = 1002)) := by
  unfold C_G_doorsOf at h
  replace h := cbr_c h
  rcases h with ⟨hb, h⟩ | ⟨_, h⟩
  · cases beq_t hb
    exact ⟨c_N_at h (d + 0), fun q => absurd q (by decide)⟩
  cases h
theorem c_G_doorsOf {av : List Value} {s : Mem} {z : Int32 × Mem} (h : A_G_doorsOf av s = some z) (d : Nat) : Ctr (d + 3) I_G_doorsOf av s z := by
  unfold A_G_doorsOf at h
  split at h
  · replace h := cbr_n h
    obtain ⟨hb, h⟩ := h
    cases beq_t hb
    refine ctr_of (d := d + 2) (own := 6) (kps := [5]) (code := K_G_doorsOf) (Cl := C_G_doorsOf) o_G_doorsOf rfl (by decide) k_G_doorsOf (l_G_doorsOf d) (c1_of rfl) (Nat.le_of_ble_eq_true rfl) ?_
    intro RA S
    rw [e_G_doorsOf] at h
    refine S.2 _ ?_ 700 0 _ _ (ck1_of rfl) h
    intro k ls s h
    replace h := cbr_c h
    rcases h with ⟨hb, h⟩ | ⟨_, h⟩
    · cases beq_t hb
      exact a_G_doorsOf_4 S.1 h (n_G_doorsOf_4 S gF)
    cases h
  · cases h
set_option maxRecDepth 1000000 in
theorem k_C_of : okC 10 I_C_of.2.2.1 I_C_of.2.1 I_C_of.2.2.2.1 [] K_C_of K_C_of = true := by decide +kernel
theorem l_C_of (d : Nat) (k : Nat) (av : List Value) (s : Mem) (y : Int32 × Mem) (h : C_C_of k av s = some y) : Ctr (d + 3) (mtab k) av s y ∧ ((mtab k).2.2.2.2.2 = 77 → ∃ b rest, av = .ref b :: rest ∧ (b = 1001 ∨ b = 1002)) := by
  unfold C_C_of at h
  replace h := cbr_c h
  rcases h with ⟨hb, h⟩ | ⟨_, h⟩
  · cases beq_t hb
    exact ⟨c_H_has2 h (d + 0), fun q => absurd q (by decide)⟩
  replace h := cbr_c h
  rcases h with ⟨hb, h⟩ | ⟨_, h⟩
  · cases beq_t hb
    exact ⟨c_C_within h (d + 2), fun q => absurd q (by decide)⟩
  replace h := cbr_c h
  rcases h with ⟨hb, h⟩ | ⟨_, h⟩
  · cases beq_t hb
    exact ⟨c_L_ask h (d + 0), fun q => absurd q (by decide)⟩
  replace h := cbr_c h
  rcases h with ⟨hb, h⟩ | ⟨_, h⟩
  · cases beq_t hb
    exact ⟨c_G_doorsOf h (d + 0), fun q => absurd q (by decide)⟩
  replace h := cbr_c h
  rcases h with ⟨hb, h⟩ | ⟨_, h⟩
  · cases beq_t hb
    exact ⟨c_H_get h (d + 2), fun q => absurd q (by decide)⟩
  cases h
theorem c_C_of {av : List Value} {s : Mem} {z : Int32 × Mem} (h : A_C_of av s = some z) (d : Nat) : Ctr (d + 4) I_C_of av s z := by
  unfold A_C_of at h
  split at h
  · replace h := cbr_n h
    obtain ⟨hb, h⟩ := h
    cases beq_t hb
    refine ctr_of (d := d + 3) (own := 10) (kps := []) (code := K_C_of) (Cl := C_C_of) o_C_of rfl (by decide) k_C_of (l_C_of d) (c1_of rfl) (Nat.le_of_ble_eq_true rfl) ?_
    intro RA S
    rw [e_C_of] at h
    refine S.2 _ ?_ 700 0 _ _ (ck1_of rfl) h
    intro k ls s h
    cases h
  · cases h
set_option maxRecDepth 1000000 in
theorem k_C_asked : okC 10 I_C_asked.2.2.1 I_C_asked.2.1 I_C_asked.2.2.2.1 [] K_C_asked K_C_asked = true := by decide +kernel
theorem l_C_asked (d : Nat) (k : Nat) (av : List Value) (s : Mem) (y : Int32 × Mem) (h : C_C_asked k av s = some y) : Ctr (d + 3) (mtab k) av s y ∧ ((mtab k).2.2.2.2.2 = 77 → ∃ b rest, av = .ref b :: rest ∧ (b = 1001 ∨ b = 1002)) := by
  unfold C_C_asked at h
  replace h := cbr_c h
  rcases h with ⟨hb, h⟩ | ⟨_, h⟩
  · cases beq_t hb
    exact ⟨c_H_has2 h (d + 0), fun q => absurd q (by decide)⟩
  replace h := cbr_c h
  rcases h with ⟨hb, h⟩ | ⟨_, h⟩
  · cases beq_t hb
    exact ⟨c_C_isVisitor h (d + 1), fun q => absurd q (by decide)⟩
  replace h := cbr_c h
  rcases h with ⟨hb, h⟩ | ⟨_, h⟩
  · cases beq_t hb
    exact ⟨c_L_ask h (d + 0), fun q => absurd q (by decide)⟩
  cases h
theorem c_C_asked {av : List Value} {s : Mem} {z : Int32 × Mem} (h : A_C_asked av s = some z) (d : Nat) : Ctr (d + 4) I_C_asked av s z := by
  unfold A_C_asked at h
  split at h
  · replace h := cbr_n h
    obtain ⟨hb, h⟩ := h
    cases beq_t hb
    refine ctr_of (d := d + 3) (own := 10) (kps := []) (code := K_C_asked) (Cl := C_C_asked) o_C_asked rfl (by decide) k_C_asked (l_C_asked d) (c1_of rfl) (Nat.le_of_ble_eq_true rfl) ?_
    intro RA S
    rw [e_C_asked] at h
    refine S.2 _ ?_ 700 0 _ _ (ck1_of rfl) h
    intro k ls s h
    cases h
  · cases h
set_option maxRecDepth 1000000 in
theorem k_C_creaks : okC 10 I_C_creaks.2.2.1 I_C_creaks.2.1 I_C_creaks.2.2.2.1 [] K_C_creaks K_C_creaks = true := by decide +kernel
theorem l_C_creaks (d : Nat) (k : Nat) (av : List Value) (s : Mem) (y : Int32 × Mem) (h : C_C_creaks k av s = some y) : Ctr (d + 4) (mtab k) av s y ∧ ((mtab k).2.2.2.2.2 = 77 → ∃ b rest, av = .ref b :: rest ∧ (b = 1001 ∨ b = 1002)) := by
  unfold C_C_creaks at h
  replace h := cbr_c h
  rcases h with ⟨hb, h⟩ | ⟨_, h⟩
  · cases beq_t hb
    exact ⟨c_C_asked h (d + 0), fun q => absurd q (by decide)⟩
  cases h
theorem c_C_creaks {av : List Value} {s : Mem} {z : Int32 × Mem} (h : A_C_creaks av s = some z) (d : Nat) : Ctr (d + 5) I_C_creaks av s z := by
  unfold A_C_creaks at h
  split at h
  · replace h := cbr_n h
    obtain ⟨hb, h⟩ := h
    cases beq_t hb
    refine ctr_of (d := d + 4) (own := 10) (kps := []) (code := K_C_creaks) (Cl := C_C_creaks) o_C_creaks rfl (by decide) k_C_creaks (l_C_creaks d) (c1_of rfl) (Nat.le_of_ble_eq_true rfl) ?_
    intro RA S
    rw [e_C_creaks] at h
    refine S.2 _ ?_ 700 0 _ _ (ck1_of rfl) h
    intro k ls s h
    cases h
  · cases h
set_option maxRecDepth 1000000 in
theorem k_C_wears : okC 10 I_C_wears.2.2.1 I_C_wears.2.1 I_C_wears.2.2.2.1 [] K_C_wears K_C_wears = true := by decide +kernel
theorem l_C_wears (d : Nat) (k : Nat) (av : List Value) (s : Mem) (y : Int32 × Mem) (h : C_C_wears k av s = some y) : Ctr (d + 4) (mtab k) av s y ∧ ((mtab k).2.2.2.2.2 = 77 → ∃ b rest, av = .ref b :: rest ∧ (b = 1001 ∨ b = 1002)) := by
  unfold C_C_wears at h
  replace h := cbr_c h
  rcases h with ⟨hb, h⟩ | ⟨_, h⟩
  · cases beq_t hb
    exact ⟨c_C_asked h (d + 0), fun q => absurd q (by decide)⟩
  cases h
theorem c_C_wears {av : List Value} {s : Mem} {z : Int32 × Mem} (h : A_C_wears av s = some z) (d : Nat) : Ctr (d + 5) I_C_wears av s z := by
  unfold A_C_wears at h
  split at h
  · replace h := cbr_n h
    obtain ⟨hb, h⟩ := h
    cases beq_t hb
    refine ctr_of (d := d + 4) (own := 10) (kps := []) (code := K_C_wears) (Cl := C_C_wears) o_C_wears rfl (by decide) k_C_wears (l_C_wears d) (c1_of rfl) (Nat.le_of_ble_eq_true rfl) ?_
    intro RA S
    rw [e_C_wears] at h
    refine S.2 _ ?_ 700 0 _ _ (ck1_of rfl) h
    intro k ls s h
    cases h
  · cases h
set_option maxRecDepth 1000000 in
theorem k_B_at : okC 0 I_B_at.2.2.1 I_B_at.2.1 I_B_at.2.2.2.1 [] K_B_at K_B_at = true := by decide +kernel
theorem l_B_at (d : Nat) (k : Nat) (av : List Value) (s : Mem) (y : Int32 × Mem) (h : C_B_at k av s = some y) : Ctr (d + 1) (mtab k) av s y ∧ ((mtab k).2.2.2.2.2 = 77 → ∃ b rest, av = .ref b :: rest ∧ (b = 1001 ∨ b = 1002)) := by
  unfold C_B_at at h
  replace h := cbr_c h
  rcases h with ⟨hb, h⟩ | ⟨_, h⟩
  · cases beq_t hb
    exact ⟨c_JM_min h (d + 0), fun q => absurd q (by decide)⟩
  replace h := cbr_c h
  rcases h with ⟨hb, h⟩ | ⟨_, h⟩
  · cases beq_t hb
    exact ⟨c_C_within h (d + 0), fun q => absurd q (by decide)⟩
  cases h
theorem c_B_at {av : List Value} {s : Mem} {z : Int32 × Mem} (h : A_B_at av s = some z) (d : Nat) : Ctr (d + 2) I_B_at av s z := by
  unfold A_B_at at h
  split at h
  · replace h := cbr_n h
    obtain ⟨hb, h⟩ := h
    cases beq_t hb
    refine ctr_of (d := d + 1) (own := 0) (kps := []) (code := K_B_at) (Cl := C_B_at) o_B_at rfl (by decide) k_B_at (l_B_at d) (c1_of rfl) (Nat.le_of_ble_eq_true rfl) ?_
    intro RA S
    rw [e_B_at] at h
    refine S.2 _ ?_ 700 0 _ _ (ck1_of rfl) h
    intro k ls s h
    cases h
  · cases h
set_option maxRecDepth 1000000 in
theorem k_C_book : okC 10 I_C_book.2.2.1 I_C_book.2.1 I_C_book.2.2.2.1 [] K_C_book K_C_book = true := by decide +kernel
theorem l_C_book (d : Nat) (k : Nat) (av : List Value) (s : Mem) (y : Int32 × Mem) (h : C_C_book k av s = some y) : Ctr (d + 2) (mtab k) av s y ∧ ((mtab k).2.2.2.2.2 = 77 → ∃ b rest, av = .ref b :: rest ∧ (b = 1001 ∨ b = 1002)) := by
  unfold C_C_book at h
  replace h := cbr_c h
  rcases h with ⟨hb, h⟩ | ⟨_, h⟩
  · cases beq_t hb
    exact ⟨c_B_at h (d + 0), fun q => absurd q (by decide)⟩
  cases h
theorem c_C_book {av : List Value} {s : Mem} {z : Int32 × Mem} (h : A_C_book av s = some z) (d : Nat) : Ctr (d + 3) I_C_book av s z := by
  unfold A_C_book at h
  split at h
  · replace h := cbr_n h
    obtain ⟨hb, h⟩ := h
    cases beq_t hb
    refine ctr_of (d := d + 2) (own := 10) (kps := []) (code := K_C_book) (Cl := C_C_book) o_C_book rfl (by decide) k_C_book (l_C_book d) (c1_of rfl) (Nat.le_of_ble_eq_true rfl) ?_
    intro RA S
    rw [e_C_book] at h
    refine S.2 _ ?_ 700 0 _ _ (ck1_of rfl) h
    intro k ls s h
    cases h
  · cases h
