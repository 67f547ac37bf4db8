section ENY
variable {p : Program} {l : Launch} {e : Env} {R : Room} {s : State} {m : MethodId} {args : Array Value} {below : List Frame} {meth : Method} {c : Code} {D : va_G} {cA cQ : ClassId} {ad : Nat → Nat} {A : Nat → Prop} {kc ks nL : Nat} {Q : State → Prop} {cc : ByteArray} {own scL : Nat} {scX : Nat → Int32} {pc : Nat} {ls : List (Option Value)} {st t : List Value} {σ : Mem}
set_option maxHeartbeats 8000000 in
theorem xs_ok {Cl : Nat → List Value → Mem → Option (Int32 × Mem)} {K : Nat → List (Option Value) → Mem → Option (Int32 × Mem)} {code : MC} {kps : List Nat} {rt : Option FieldType} {d : Nat} {z : Int32 × Mem} (X : CX p R s m args c D cA cQ ad A kc ks nL cc own scL scX) (hc : okC own nL cc rt kps code code = true) (hR : d + 1 ≤ R.frames ∧ 40 * (d + 1) ≤ R.locals)
    (hCl : ∀ k av σ y, Cl k av σ = some y → Ctr d (mtab k) av σ y ∧ ((mtab k).2.2.2.2.2 = 77 → ∃ b rest, av = .ref b :: rest ∧ (b = 1001 ∨ b = 1002)))
    (hK : ∀ k ls σ, ck1 ls → K k ls σ = some z → WG p l e R s m args below meth c D cA cQ ad A kc ks nL Q (nth 0 kps k) ls [] σ)
    (hI : ∀ pc ls, decode cc pc = .ok (.ireturn, 1) → (rt = some .int ∨ (rt = some .boolean ∧ z.1 &&& 1 = z.1)) → WG p l e R s m args below meth c D cA cQ ad A kc ks nL Q pc ls [.int z.1] z.2)
    (hV : ∀ pc ls, decode cc pc = .ok (.return_, 1) → rt = none → WG p l e R s m args below meth c D cA cQ ad A kc ks nL Q pc ls [] z.2) :
    ∀ (n : Nat) (rest : MC) (ls : List (Option Value)) (st : List Value) (σ : Mem), okC own nL cc rt kps code rest = true → ck1 ls → xs Cl K scL scX code n rest ls st σ = some z → WG p l e R s m args below meth c D cA cQ ad A kc ks nL Q (pcO rest) ls st σ := by
  intro n
  induction n with
  | zero => intro rest ls st σ _ _ h; cases h
  | succ n ih =>
    intro rest ls st σ hr0 hck h
    cases rest with
    | nil => cases h
    | cons q r =>
    obtain ⟨pc, i, z0⟩ := q
    simp only [okC, Bool.and_eq_true] at hr0
    obtain ⟨hoi, hr⟩ := hr0
    have jump : ∀ (j : Int) (ls : List (Option Value)) (st : List Value) (σ : Mem), ck1 ls → xs Cl K scL scX code n (code.drop j.toNat) ls st σ = some z → WG p l e R s m args below meth c D cA cQ ad A kc ks nL Q (pcO (code.drop j.toNat)) ls st σ := fun j ls st σ hk hx => ih _ ls st σ (okC_drop code _ hc) hk hx
    show WG p l e R s m args below meth c D cA cQ ad A kc ks nL Q pc ls st σ
    cases i with
    | ret k =>
      simp only [okI, Bool.and_eq_true] at hoi
      simp only [xs] at h
      match st, h with
      | [], h =>
        have h1 := hK k (nrmL ls) σ (ck1_nrm hck) h
        rw [beq_t hoi.2] at h1
        intro ls' H locs hL hP hS
        exact h1 ls' H locs hL.nrm hP hS
      | _ :: _, h => cases h
    | iconst n0 =>
      obtain ⟨j, len, hd, hj⟩ := okI_t (fun _ q => by cases q) hoi
      simp only [xs] at h
      have h1 := ih r _ _ _ hr hck h
      simp only [okJ] at hj
      split at hj <;> first | (cases hj; done) | skip
      all_goals simp only [Bool.and_eq_true, decide_eq_true_eq] at hj
      all_goals obtain ⟨hl, hp⟩ := oLn_t hj.1
      all_goals subst hl
      all_goals rw [hp] at h1
      all_goals intro ls' H locs hL hP hS
      · exact lv_iconst X.1 X.2.1 hd hj.2 (h1 ls' H locs hL hP hS)
      · exact lv_bipush X.1 X.2.1 hd hj.2 (h1 ls' H locs hL hP hS)
      · exact lv_sipush X.1 X.2.1 hd hj.2 (h1 ls' H locs hL hP hS)
      · exact lv_ldc X.1 X.2.1 X.2.2.2.1 (X.2.2.2.2.1 _ (oKn_t hj.2)) hd (h1 ls' H locs hL hP hS)
      · exact lv_ldcw X.1 X.2.1 X.2.2.2.1 (X.2.2.2.2.1 _ (oKn_t hj.2)) hd (h1 ls' H locs hL hP hS)
    | lconst b =>
      obtain ⟨j, len, hd, hj⟩ := okI_t (fun _ q => by cases q) hoi
      simp only [xs] at h
      have h1 := ih r _ _ _ hr hck h
      simp only [okJ] at hj
      split at hj <;> first | (cases hj; done) | skip
      simp only [Bool.and_eq_true, decide_eq_true_eq] at hj
      obtain ⟨hl, hp⟩ := oLn_t hj.1
      subst hl
      rw [hp] at h1
      intro ls' H locs hL hP hS
      exact lv_iconst X.1 X.2.1 hd hj.2 (h1 ls' H locs hL hP hS)
    | ldc k =>
      obtain ⟨j, len, hd, hj⟩ := okI_t (fun _ q => by cases q) hoi
      simp only [xs] at h
      have h1 := ih r _ _ _ hr hck h
      simp only [okJ] at hj
      split at hj <;> first | (cases hj; done) | skip
      simp only [Bool.and_eq_true, Bool.or_eq_true] at hj
      obtain ⟨⟨hj1, hj2⟩, hj3⟩ := hj
      obtain ⟨hl, hp⟩ := oLn_t hj1
      subst hl
      rw [hp] at h1
      have ho := beq_t hj2
      subst ho
      have hKK := X.2.2.2.2.2.1
      intro ls' H locs hL hP hS
      rcases hj3 with ⟨e1, e2⟩ | ⟨e1, e2⟩
      · cases beq_t e1; cases beq_t e2
        exact va_ldcS X.1 X.2.1 X.2.2.2.1 hKK.2.2.1 hd (h1 ls' H locs hL hP hS)
      · cases beq_t e1; cases beq_t e2
        exact va_ldcS X.1 X.2.1 X.2.2.2.1 hKK.2.2.2 hd (h1 ls' H locs hL hP hS)
    | iload a =>
      obtain ⟨j, len, hd, hj⟩ := okI_t (fun _ q => by cases q) hoi
      simp only [xs] at h
      simp only [okJ] at hj
      have hjj : (∃ f : Fin 4, j = .iload_n f ∧ f.val = a ∧ len = 1 ∧ pcO r = pc + 1) ∨ (j = .iload a ∧ len = 2 ∧ pcO r = pc + 2) := by
        split at hj <;> first | (cases hj; done) | skip
        all_goals simp only [Bool.and_eq_true] at hj
        all_goals obtain ⟨hl, hp⟩ := oLn_t hj.1
        · exact Or.inl ⟨_, rfl, beq_t hj.2, hl, hp⟩
        · exact Or.inr ⟨by rw [beq_t hj.2], hl, hp⟩
      have hpl : pcO r = pc + len := by rcases hjj with ⟨f, _, _, h2, h3⟩ | ⟨_, h2, h3⟩ <;> rw [h2, h3]
      have hj2 : (∃ f : Fin 4, j = .iload_n f ∧ f.val = a ∧ len = 1) ∨ (j = .iload a ∧ len = 2) := by
        rcases hjj with ⟨f, g1, g2, g3, _⟩ | ⟨g1, g2, _⟩
        · exact Or.inl ⟨f, g1, g2, g3⟩
        · exact Or.inr ⟨g1, g2⟩
      split at h
      · rename_i x hx
        have h1 := ih r _ _ _ hr hck h
        rw [hpl] at h1
        exact g_iload (v := .int x) X hx rfl hd hj2 h1
      · rename_i x hx
        have h1 := ih r _ _ _ hr hck h
        rw [hpl] at h1
        exact g_iload (v := .retAddr x) X hx rfl hd hj2 h1
      · cases h
    | aload a =>
      obtain ⟨j, len, hd, hj⟩ := okI_t (fun _ q => by cases q) hoi
      simp only [xs] at h
      simp only [okJ] at hj
      have hjj : (∃ f : Fin 4, j = .aload_n f ∧ f.val = a ∧ len = 1 ∧ pcO r = pc + 1) ∨ (j = .aload a ∧ len = 2 ∧ pcO r = pc + 2) := by
        split at hj <;> first | (cases hj; done) | skip
        all_goals simp only [Bool.and_eq_true] at hj
        all_goals obtain ⟨hl, hp⟩ := oLn_t hj.1
        · exact Or.inl ⟨_, rfl, beq_t hj.2, hl, hp⟩
        · exact Or.inr ⟨by rw [beq_t hj.2], hl, hp⟩
      have hpl : pcO r = pc + len := by rcases hjj with ⟨f, _, _, h2, h3⟩ | ⟨_, h2, h3⟩ <;> rw [h2, h3]
      have hj2 : (∃ f : Fin 4, j = .aload_n f ∧ f.val = a ∧ len = 1) ∨ (j = .aload a ∧ len = 2) := by
        rcases hjj with ⟨f, g1, g2, g3, _⟩ | ⟨g1, g2, _⟩
        · exact Or.inl ⟨f, g1, g2, g3⟩
        · exact Or.inr ⟨g1, g2⟩
      split at h
      · rename_i x hx
        have h1 := ih r _ _ _ hr hck h
        rw [hpl] at h1
        exact g_aload X hx hd hj2 h1
      · cases h
    | istore a =>
      obtain ⟨j, len, hd, hj⟩ := okI_t (fun _ q => by cases q) hoi
      simp only [xs] at h
      simp only [okJ] at hj
      have hjj : (∃ f : Fin 4, j = .istore_n f ∧ f.val = a ∧ len = 1 ∧ pcO r = pc + 1 ∧ a < nL) ∨ (j = .istore a ∧ len = 2 ∧ pcO r = pc + 2 ∧ a < nL) := by
        split at hj <;> first | (cases hj; done) | skip
        all_goals simp only [Bool.and_eq_true] at hj
        all_goals obtain ⟨hl, hp⟩ := oLn_t hj.1.1
        · exact Or.inl ⟨_, rfl, beq_t hj.2, hl, hp, Nat.le_of_ble_eq_true hj.1.2⟩
        · exact Or.inr ⟨by rw [beq_t hj.2], hl, hp, Nat.le_of_ble_eq_true hj.1.2⟩
      have hpl : pcO r = pc + len := by rcases hjj with ⟨f, _, _, h2, h3, _⟩ | ⟨_, h2, h3, _⟩ <;> rw [h2, h3]
      have hin : a < nL := by rcases hjj with ⟨f, _, _, _, _, h3⟩ | ⟨_, _, _, h3⟩ <;> exact h3
      have hj2 : (∃ f : Fin 4, j = .istore_n f ∧ f.val = a ∧ len = 1) ∨ (j = .istore a ∧ len = 2) := by
        rcases hjj with ⟨f, g1, g2, g3, _⟩ | ⟨g1, g2, _⟩
        · exact Or.inl ⟨f, g1, g2, g3⟩
        · exact Or.inr ⟨g1, g2⟩
      split at h
      · rename_i x t
        have h1 := ih r _ _ _ hr (ck1_lset hck rfl) h
        rw [hpl] at h1
        exact g_istore (v := .int x) X hin hck rfl hd hj2 h1
      · rename_i x t
        have h1 := ih r _ _ _ hr (ck1_lset hck rfl) h
        rw [hpl] at h1
        exact g_istore (v := .retAddr x) X hin hck rfl hd hj2 h1
      · cases h
    | astore a =>
      obtain ⟨j, len, hd, hj⟩ := okI_t (fun _ q => by cases q) hoi
      simp only [xs] at h
      simp only [okJ] at hj
      have hjj : (∃ f : Fin 4, j = .astore_n f ∧ f.val = a ∧ len = 1 ∧ pcO r = pc + 1 ∧ a < nL) ∨ (j = .astore a ∧ len = 2 ∧ pcO r = pc + 2 ∧ a < nL) := by
        split at hj <;> first | (cases hj; done) | skip
        all_goals simp only [Bool.and_eq_true] at hj
        all_goals obtain ⟨hl, hp⟩ := oLn_t hj.1.1
        · exact Or.inl ⟨_, rfl, beq_t hj.2, hl, hp, Nat.le_of_ble_eq_true hj.1.2⟩
        · exact Or.inr ⟨by rw [beq_t hj.2], hl, hp, Nat.le_of_ble_eq_true hj.1.2⟩
      have hpl : pcO r = pc + len := by rcases hjj with ⟨f, _, _, h2, h3, _⟩ | ⟨_, h2, h3, _⟩ <;> rw [h2, h3]
      have hin : a < nL := by rcases hjj with ⟨f, _, _, _, _, h3⟩ | ⟨_, _, _, h3⟩ <;> exact h3
      have hj2 : (∃ f : Fin 4, j = .astore_n f ∧ f.val = a ∧ len = 1) ∨ (j = .astore a ∧ len = 2) := by
        rcases hjj with ⟨f, g1, g2, g3, _⟩ | ⟨g1, g2, _⟩
        · exact Or.inl ⟨f, g1, g2, g3⟩
        · exact Or.inr ⟨g1, g2⟩
      split at h
      · rename_i x t
        have h1 := ih r _ _ _ hr (ck1_lset hck rfl) h
        rw [hpl] at h1
        exact g_astore X hin hck hd hj2 h1
      · cases h
    | iinc a n0 =>
      obtain ⟨j, len, hd, hj⟩ := okI_t (fun _ q => by cases q) hoi
      simp only [xs] at h
      simp only [okJ] at hj
      split at hj <;> first | (cases hj; done) | skip
      simp only [Bool.and_eq_true, decide_eq_true_eq] at hj
      obtain ⟨⟨⟨g1, g2⟩, g3⟩, g4⟩ := hj
      obtain ⟨hl, hp⟩ := oLn_t g1
      subst hl
      cases beq_t g3
      split at h
      · rename_i v hv
        split at h
        · rename_i x hx
          have h1 := ih r _ _ _ hr (ck1_lset hck rfl) h
          rw [hp] at h1
          exact g_iinc X (Nat.le_of_ble_eq_true g2) hck hv hx g4 hd h1
        · cases h
      · cases h
    | iadd =>
      obtain ⟨j, len, hd, hj⟩ := okI_t (fun _ q => by cases q) hoi
      simp only [xs] at h
      simp only [okJ, Bool.and_eq_true, decide_eq_true_eq] at hj
      obtain ⟨hl, hp⟩ := oLn_t hj.1
      subst hl
      cases hj.2
      match st, h with
      | v :: w :: t, h =>
        dsimp only at h
        cases hv : gi v with
        | none => rw [hv] at h; cases h
        | some y =>
          cases hw : gi w with
          | none => rw [hv, hw] at h; cases h
          | some x =>
            rw [hv, hw] at h
            have h1 := ih r _ _ _ hr hck h
            rw [hp] at h1
            exact g_iadd X hv hw hd h1
      | [], h => cases h
      | [_], h => cases h
    | isub =>
      obtain ⟨j, len, hd, hj⟩ := okI_t (fun _ q => by cases q) hoi
      simp only [xs] at h
      simp only [okJ, Bool.and_eq_true, decide_eq_true_eq] at hj
      obtain ⟨hl, hp⟩ := oLn_t hj.1
      subst hl
      cases hj.2
      match st, h with
      | v :: w :: t, h =>
        dsimp only at h
        cases hv : gi v with
        | none => rw [hv] at h; cases h
        | some y =>
          cases hw : gi w with
          | none => rw [hv, hw] at h; cases h
          | some x =>
            rw [hv, hw] at h
            have h1 := ih r _ _ _ hr hck h
            rw [hp] at h1
            exact g_isub X hv hw hd h1
      | [], h => cases h
      | [_], h => cases h
    | imul =>
      obtain ⟨j, len, hd, hj⟩ := okI_t (fun _ q => by cases q) hoi
      simp only [xs] at h
      simp only [okJ, Bool.and_eq_true, decide_eq_true_eq] at hj
      obtain ⟨hl, hp⟩ := oLn_t hj.1
      subst hl
      cases hj.2
      match st, h with
      | v :: w :: t, h =>
        dsimp only at h
        cases hv : gi v with
        | none => rw [hv] at h; cases h
        | some y =>
          cases hw : gi w with
          | none => rw [hv, hw] at h; cases h
          | some x =>
            rw [hv, hw] at h
            have h1 := ih r _ _ _ hr hck h
            rw [hp] at h1
            exact g_imul X hv hw hd h1
      | [], h => cases h
      | [_], h => cases h
    | iand =>
      obtain ⟨j, len, hd, hj⟩ := okI_t (fun _ q => by cases q) hoi
      simp only [xs] at h
      simp only [okJ, Bool.and_eq_true, decide_eq_true_eq] at hj
      obtain ⟨hl, hp⟩ := oLn_t hj.1
      subst hl
      cases hj.2
      match st, h with
      | v :: w :: t, h =>
        dsimp only at h
        cases hv : gi v with
        | none => rw [hv] at h; cases h
        | some y =>
          cases hw : gi w with
          | none => rw [hv, hw] at h; cases h
          | some x =>
            rw [hv, hw] at h
            have h1 := ih r _ _ _ hr hck h
            rw [hp] at h1
            exact g_iand X hv hw hd h1
      | [], h => cases h
      | [_], h => cases h
    | ior =>
      obtain ⟨j, len, hd, hj⟩ := okI_t (fun _ q => by cases q) hoi
      simp only [xs] at h
      simp only [okJ, Bool.and_eq_true, decide_eq_true_eq] at hj
      obtain ⟨hl, hp⟩ := oLn_t hj.1
      subst hl
      cases hj.2
      match st, h with
      | v :: w :: t, h =>
        dsimp only at h
        cases hv : gi v with
        | none => rw [hv] at h; cases h
        | some y =>
          cases hw : gi w with
          | none => rw [hv, hw] at h; cases h
          | some x =>
            rw [hv, hw] at h
            have h1 := ih r _ _ _ hr hck h
            rw [hp] at h1
            exact g_ior X hv hw hd h1
      | [], h => cases h
      | [_], h => cases h
    | ixor =>
      obtain ⟨j, len, hd, hj⟩ := okI_t (fun _ q => by cases q) hoi
      simp only [xs] at h
      simp only [okJ, Bool.and_eq_true, decide_eq_true_eq] at hj
      obtain ⟨hl, hp⟩ := oLn_t hj.1
      subst hl
      cases hj.2
      match st, h with
      | v :: w :: t, h =>
        dsimp only at h
        cases hv : gi v with
        | none => rw [hv] at h; cases h
        | some y =>
          cases hw : gi w with
          | none => rw [hv, hw] at h; cases h
          | some x =>
            rw [hv, hw] at h
            have h1 := ih r _ _ _ hr hck h
            rw [hp] at h1
            exact g_ixor X hv hw hd h1
      | [], h => cases h
      | [_], h => cases h
    | ishl =>
      obtain ⟨j, len, hd, hj⟩ := okI_t (fun _ q => by cases q) hoi
      simp only [xs] at h
      simp only [okJ, Bool.and_eq_true, decide_eq_true_eq] at hj
      obtain ⟨hl, hp⟩ := oLn_t hj.1
      subst hl
      cases hj.2
      match st, h with
      | v :: w :: t, h =>
        dsimp only at h
        cases hv : gi v with
        | none => rw [hv] at h; cases h
        | some y =>
          cases hw : gi w with
          | none => rw [hv, hw] at h; cases h
          | some x =>
            rw [hv, hw] at h
            have h1 := ih r _ _ _ hr hck h
            rw [hp] at h1
            exact g_ishl X hv hw hd h1
      | [], h => cases h
      | [_], h => cases h
    | ishr =>
      obtain ⟨j, len, hd, hj⟩ := okI_t (fun _ q => by cases q) hoi
      simp only [xs] at h
      simp only [okJ, Bool.and_eq_true, decide_eq_true_eq] at hj
      obtain ⟨hl, hp⟩ := oLn_t hj.1
      subst hl
      cases hj.2
      match st, h with
      | v :: w :: t, h =>
        dsimp only at h
        cases hv : gi v with
        | none => rw [hv] at h; cases h
        | some y =>
          cases hw : gi w with
          | none => rw [hv, hw] at h; cases h
          | some x =>
            rw [hv, hw] at h
            have h1 := ih r _ _ _ hr hck h
            rw [hp] at h1
            exact g_ishr X hv hw hd h1
      | [], h => cases h
      | [_], h => cases h
    | iushr =>
      obtain ⟨j, len, hd, hj⟩ := okI_t (fun _ q => by cases q) hoi
      simp only [xs] at h
      simp only [okJ, Bool.and_eq_true, decide_eq_true_eq] at hj
      obtain ⟨hl, hp⟩ := oLn_t hj.1
      subst hl
      cases hj.2
      match st, h with
      | v :: w :: t, h =>
        dsimp only at h
        cases hv : gi v with
        | none => rw [hv] at h; cases h
        | some y =>
          cases hw : gi w with
          | none => rw [hv, hw] at h; cases h
          | some x =>
            rw [hv, hw] at h
            have h1 := ih r _ _ _ hr hck h
            rw [hp] at h1
            exact g_iushr X hv hw hd h1
      | [], h => cases h
      | [_], h => cases h
    | idiv =>
      obtain ⟨j, len, hd, hj⟩ := okI_t (fun _ q => by cases q) hoi
      simp only [xs] at h
      simp only [okJ, Bool.and_eq_true, decide_eq_true_eq] at hj
      obtain ⟨hl, hp⟩ := oLn_t hj.1
      subst hl
      cases hj.2
      match st, h with
      | v :: w :: t, h =>
        dsimp only at h
        cases hv : gi v with
        | none => rw [hv] at h; cases h
        | some y =>
          cases hw : gi w with
          | none => rw [hv, hw] at h; cases h
          | some x =>
            rw [hv, hw] at h
            dsimp only at h
            split at h
            · cases h
            · rename_i hz
              have h1 := ih r _ _ _ hr hck h
              rw [hp] at h1
              exact g_idiv X hv hw hz hd h1
      | [], h => cases h
      | [_], h => cases h
    | irem =>
      obtain ⟨j, len, hd, hj⟩ := okI_t (fun _ q => by cases q) hoi
      simp only [xs] at h
      simp only [okJ, Bool.and_eq_true, decide_eq_true_eq] at hj
      obtain ⟨hl, hp⟩ := oLn_t hj.1
      subst hl
      cases hj.2
      match st, h with
      | v :: w :: t, h =>
        dsimp only at h
        cases hv : gi v with
        | none => rw [hv] at h; cases h
        | some y =>
          cases hw : gi w with
          | none => rw [hv, hw] at h; cases h
          | some x =>
            rw [hv, hw] at h
            dsimp only at h
            split at h
            · cases h
            · rename_i hz
              have h1 := ih r _ _ _ hr hck h
              rw [hp] at h1
              exact g_irem X hv hw hz hd h1
      | [], h => cases h
      | [_], h => cases h
    | ldiv =>
      obtain ⟨j, len, hd, hj⟩ := okI_t (fun _ q => by cases q) hoi
      simp only [xs] at h
      simp only [okJ] at hj
      split at hj <;> first | (cases hj; done) | skip
      obtain ⟨hl, hp⟩ := oLn_t hj
      subst hl
      match st, h with
      | v :: w :: t, h =>
        dsimp only at h
        cases hv : gi v with
        | none => rw [hv] at h; cases h
        | some y =>
          cases hw : gi w with
          | none => rw [hv, hw] at h; cases h
          | some x =>
            rw [hv, hw] at h
            by_cases hz : y = 0
            · simp [hz, cbr] at h
            · simp only [cbr, hz, decide_false] at h
              have h1 := ih r _ _ _ hr hck h
              rw [hp] at h1
              exact g_idiv X hv hw hz hd h1
      | [], h => cases h
      | [_], h => cases h
    | lrem =>
      obtain ⟨j, len, hd, hj⟩ := okI_t (fun _ q => by cases q) hoi
      simp only [xs] at h
      simp only [okJ] at hj
      split at hj <;> first | (cases hj; done) | skip
      obtain ⟨hl, hp⟩ := oLn_t hj
      subst hl
      match st, h with
      | v :: w :: t, h =>
        dsimp only at h
        cases hv : gi v with
        | none => rw [hv] at h; cases h
        | some y =>
          cases hw : gi w with
          | none => rw [hv, hw] at h; cases h
          | some x =>
            rw [hv, hw] at h
            by_cases hz : y = 0
            · simp [hz, cbr] at h
            · simp only [cbr, hz, decide_false] at h
              have h1 := ih r _ _ _ hr hck h
              rw [hp] at h1
              exact g_irem X hv hw hz hd h1
      | [], h => cases h
      | [_], h => cases h
    | ineg =>
      obtain ⟨j, len, hd, hj⟩ := okI_t (fun _ q => by cases q) hoi
      simp only [xs] at h
      simp only [okJ, Bool.and_eq_true, decide_eq_true_eq] at hj
      obtain ⟨hl, hp⟩ := oLn_t hj.1
      subst hl
      cases hj.2
      match st, h with
      | v :: t, h =>
        dsimp only at h
        cases hv : gi v with
        | none => rw [hv] at h; cases h
        | some x =>
          rw [hv] at h
          have h1 := ih r _ _ _ hr hck h
          rw [hp] at h1
          exact g_ineg X hv hd h1
      | [], h => cases h
    | dup =>
      obtain ⟨j, len, hd, hj⟩ := okI_t (fun _ q => by cases q) hoi
      simp only [xs] at h
      simp only [okJ, Bool.and_eq_true, decide_eq_true_eq] at hj
      obtain ⟨hl, hp⟩ := oLn_t hj.1
      subst hl
      cases hj.2
      match st, h with
      | v :: t, h =>
        cases hv : c1 v with
        | false => simp [hv, cbr] at h
        | true =>
          simp only [hv, cbr] at h
          have h1 := ih r _ _ _ hr hck h
          rw [hp] at h1
          exact g_dup X hv hd h1
      | [], h => cases h
    | dup2 =>
      obtain ⟨j, len, hd, hj⟩ := okI_t (fun _ q => by cases q) hoi
      simp only [xs] at h
      simp only [okJ, Bool.and_eq_true, decide_eq_true_eq] at hj
      obtain ⟨hl, hp⟩ := oLn_t hj.1
      subst hl
      cases hj.2
      match st, h with
      | v :: w :: t, h =>
        cases hv : c1 v with
        | false => simp [hv, cbr] at h
        | true =>
          cases hw : c1 w with
          | false => simp [hv, hw, cbr] at h
          | true =>
            simp only [hv, hw, cbr, Bool.and_self] at h
            have h1 := ih r _ _ _ hr hck h
            rw [hp] at h1
            exact g_dup2 X hv hw hd h1
      | [], h => cases h
      | [_], h => cases h
    | pop =>
      obtain ⟨j, len, hd, hj⟩ := okI_t (fun _ q => by cases q) hoi
      simp only [xs] at h
      simp only [okJ, Bool.and_eq_true, decide_eq_true_eq] at hj
      obtain ⟨hl, hp⟩ := oLn_t hj.1
      subst hl
      cases hj.2
      match st, h with
      | v :: t, h =>
        cases hv : c1 v with
        | false => simp [hv, cbr] at h
        | true =>
          simp only [hv, cbr] at h
          have h1 := ih r _ _ _ hr hck h
          rw [hp] at h1
          exact g_pop X hv hd h1
      | [], h => cases h
    | goto t =>
      obtain ⟨j, len, hd, hj⟩ := okI_t (fun _ q => by cases q) hoi
      simp only [xs] at h
      simp only [okJ] at hj
      split at hj <;> first | (cases hj; done) | skip
      simp only [Bool.and_eq_true] at hj
      cases beq_t hj.1
      exact g_goto X hd (oTg_t hj.2) (jump t ls st σ hck h)
    | ifCond cd t =>
      obtain ⟨j, len, hd, hj⟩ := okI_t (fun _ q => by cases q) hoi
      simp only [xs] at h
      simp only [okJ] at hj
      split at hj <;> first | (cases hj; done) | skip
      simp only [Bool.and_eq_true, decide_eq_true_eq] at hj
      obtain ⟨⟨g1, g2⟩, g3⟩ := hj
      obtain ⟨hl, hp⟩ := oLn_t g1
      subst hl
      subst g2
      have ht := oTg_t g3
      match st, h with
      | .int x :: u, h =>
        cases cd with
        | eq =>
          dsimp only at h
          split at h
          · rename_i hx
            exact g_if_eq (v := .int x) X rfl hd ht (fun _ => jump t ls u σ hck h) (fun z => absurd hx z)
          · rename_i hx
            have h1 := ih r _ _ _ hr hck h
            rw [hp] at h1
            exact g_if_eq (v := .int x) X rfl hd ht (fun z => absurd z hx) (fun _ => h1)
        | ne =>
          dsimp only at h
          split at h
          · rename_i hx
            have h1 := ih r _ _ _ hr hck h
            rw [hp] at h1
            exact g_if_ne (v := .int x) X rfl hd ht (fun z => absurd hx z) (fun _ => h1)
          · rename_i hx
            exact g_if_ne (v := .int x) X rfl hd ht (fun _ => jump t ls u σ hck h) (fun z => absurd z hx)
        | lt =>
          dsimp only at h
          split at h
          · rename_i hx
            exact g_if_lt (v := .int x) X rfl hd ht (fun _ => jump t ls u σ hck h) (fun z => absurd hx z)
          · rename_i hx
            have h1 := ih r _ _ _ hr hck h
            rw [hp] at h1
            exact g_if_lt (v := .int x) X rfl hd ht (fun z => absurd z hx) (fun _ => h1)
        | ge =>
          dsimp only at h
          split at h
          · rename_i hx
            exact g_if_ge (v := .int x) X rfl hd ht (fun _ => jump t ls u σ hck h) (fun z => absurd hx z)
          · rename_i hx
            have h1 := ih r _ _ _ hr hck h
            rw [hp] at h1
            exact g_if_ge (v := .int x) X rfl hd ht (fun z => absurd z hx) (fun _ => h1)
        | gt =>
          dsimp only at h
          split at h
          · rename_i hx
            exact g_if_gt (v := .int x) X rfl hd ht (fun _ => jump t ls u σ hck h) (fun z => absurd hx z)
          · rename_i hx
            have h1 := ih r _ _ _ hr hck h
            rw [hp] at h1
            exact g_if_gt (v := .int x) X rfl hd ht (fun z => absurd z hx) (fun _ => h1)
        | le =>
          dsimp only at h
          split at h
          · rename_i hx
            exact g_if_le (v := .int x) X rfl hd ht (fun _ => jump t ls u σ hck h) (fun z => absurd hx z)
          · rename_i hx
            have h1 := ih r _ _ _ hr hck h
            rw [hp] at h1
            exact g_if_le (v := .int x) X rfl hd ht (fun z => absurd z hx) (fun _ => h1)
      | .retAddr k :: u, h =>
        have kt : xs Cl K scL scX code n (code.drop t.toNat) ls u σ = some z → WG p l e R s m args below meth c D cA cQ ad A kc ks nL Q (pcO (code.drop t.toNat)) ls u σ := fun h => jump t ls u σ hck h
        have kf : xs Cl K scL scX code n r ls u σ = some z → WG p l e R s m args below meth c D cA cQ ad A kc ks nL Q (pc + 3) ls u σ := fun h => by
          have h1 := ih r _ _ _ hr hck h
          rw [hp] at h1
          exact h1
        cases k with
        | zero =>
          cases cd <;> simp only [cbr, cdk, Nat.beq, Bool.not_true, Bool.not_false] at h
          · exact g_if_eq (v := .retAddr 0) (x := 0) X rfl hd ht (fun _ => kt h) (fun z => absurd (by decide) z)
          · exact g_if_ne (v := .retAddr 0) (x := 0) X rfl hd ht (fun z => absurd rfl z) (fun _ => kf h)
          · exact g_if_lt (v := .retAddr 0) (x := 0) X rfl hd ht (fun z => absurd z (by decide)) (fun _ => kf h)
          · exact g_if_ge (v := .retAddr 0) (x := 0) X rfl hd ht (fun _ => kt h) (fun z => absurd (by decide) z)
          · exact g_if_gt (v := .retAddr 0) (x := 0) X rfl hd ht (fun z => absurd z (by decide)) (fun _ => kf h)
          · exact g_if_le (v := .retAddr 0) (x := 0) X rfl hd ht (fun _ => kt h) (fun z => absurd (by decide) z)
        | succ k =>
          cases cd <;> simp only [cbr, cdk, Nat.beq, Bool.not_true, Bool.not_false] at h
          · exact g_if_eq (v := .retAddr (k + 1)) (x := 1) X rfl hd ht (fun z => absurd z (by decide)) (fun _ => kf h)
          · exact g_if_ne (v := .retAddr (k + 1)) (x := 1) X rfl hd ht (fun _ => kt h) (fun z => absurd z (by decide))
          · exact g_if_lt (v := .retAddr (k + 1)) (x := 1) X rfl hd ht (fun z => absurd z (by decide)) (fun _ => kf h)
          · exact g_if_ge (v := .retAddr (k + 1)) (x := 1) X rfl hd ht (fun _ => kt h) (fun z => absurd (by decide) z)
          · exact g_if_gt (v := .retAddr (k + 1)) (x := 1) X rfl hd ht (fun _ => kt h) (fun z => absurd (by decide) z)
          · exact g_if_le (v := .retAddr (k + 1)) (x := 1) X rfl hd ht (fun z => absurd z (by decide)) (fun _ => kf h)
      | [], h => cases h
      | .long _ :: _, h => cases h
      | .float _ :: _, h => cases h
      | .double _ :: _, h => cases h
      | .null :: _, h => cases h
      | .ref _ :: _, h => cases h
    | if_icmp cd t =>
      obtain ⟨j, len, hd, hj⟩ := okI_t (fun _ q => by cases q) hoi
      simp only [xs] at h
      simp only [okJ] at hj
      split at hj <;> first | (cases hj; done) | skip
      simp only [Bool.and_eq_true, decide_eq_true_eq] at hj
      obtain ⟨⟨g1, g2⟩, g3⟩ := hj
      obtain ⟨hl, hp⟩ := oLn_t g1
      subst hl
      subst g2
      have ht := oTg_t g3
      match st, h with
      | v :: w :: u, h =>
        dsimp only at h
        cases hv : gi v with
        | none => rw [hv] at h; cases h
        | some y =>
          cases hw : gi w with
          | none => rw [hv, hw] at h; cases h
          | some x =>
            rw [hv, hw] at h
            dsimp only at h
            cases cd with
            | eq =>
              dsimp only at h
              split at h
              · rename_i hx
                exact g_ic_eq X hv hw hd ht (fun _ => jump t ls u σ hck h) (fun z => absurd hx z)
              · rename_i hx
                have h1 := ih r _ _ _ hr hck h
                rw [hp] at h1
                exact g_ic_eq X hv hw hd ht (fun z => absurd z hx) (fun _ => h1)
            | ne =>
              dsimp only at h
              split at h
              · rename_i hx
                have h1 := ih r _ _ _ hr hck h
                rw [hp] at h1
                exact g_ic_ne X hv hw hd ht (fun z => absurd hx z) (fun _ => h1)
              · rename_i hx
                exact g_ic_ne X hv hw hd ht (fun _ => jump t ls u σ hck h) (fun z => absurd z hx)
            | lt =>
              dsimp only at h
              split at h
              · rename_i hx
                exact g_ic_lt X hv hw hd ht (fun _ => jump t ls u σ hck h) (fun z => absurd hx z)
              · rename_i hx
                have h1 := ih r _ _ _ hr hck h
                rw [hp] at h1
                exact g_ic_lt X hv hw hd ht (fun z => absurd z hx) (fun _ => h1)
            | ge =>
              dsimp only at h
              split at h
              · rename_i hx
                exact g_ic_ge X hv hw hd ht (fun _ => jump t ls u σ hck h) (fun z => absurd hx z)
              · rename_i hx
                have h1 := ih r _ _ _ hr hck h
                rw [hp] at h1
                exact g_ic_ge X hv hw hd ht (fun z => absurd z hx) (fun _ => h1)
            | gt =>
              dsimp only at h
              split at h
              · rename_i hx
                exact g_ic_gt X hv hw hd ht (fun _ => jump t ls u σ hck h) (fun z => absurd hx z)
              · rename_i hx
                have h1 := ih r _ _ _ hr hck h
                rw [hp] at h1
                exact g_ic_gt X hv hw hd ht (fun z => absurd z hx) (fun _ => h1)
            | le =>
              dsimp only at h
              split at h
              · rename_i hx
                exact g_ic_le X hv hw hd ht (fun _ => jump t ls u σ hck h) (fun z => absurd hx z)
              · rename_i hx
                have h1 := ih r _ _ _ hr hck h
                rw [hp] at h1
                exact g_ic_le X hv hw hd ht (fun z => absurd z hx) (fun _ => h1)
      | [], h => cases h
      | [_], h => cases h
    | ifnull j0 =>
      obtain ⟨j, len, hd, hj⟩ := okI_t (fun _ q => by cases q) hoi
      simp only [xs] at h
      simp only [okJ] at hj
      split at hj <;> first | (cases hj; done) | skip
      obtain ⟨hl, hp⟩ := oLn_t hj
      subst hl
      match st, h with
      | .ref b :: t, h =>
        have h1 := ih r _ _ _ hr hck h
        rw [hp] at h1
        exact g_ifnull X hd h1
      | [], h => cases h
      | .int _ :: _, h => cases h
      | .long _ :: _, h => cases h
      | .float _ :: _, h => cases h
      | .double _ :: _, h => cases h
      | .null :: _, h => cases h
      | .retAddr _ :: _, h => cases h
    | lookupswitch df ps =>
      obtain ⟨j, len, hd, hj⟩ := okI_t (fun _ q => by cases q) hoi
      simp only [xs] at h
      match st, h with
      | [], h => cases h
      | v :: t, h =>
        dsimp only at h
        cases hv : gi v with
        | none => rw [hv] at h; cases h
        | some x =>
          rw [hv] at h
          dsimp only at h
          simp only [okJ] at hj
          split at hj <;> first | (cases hj; done) | skip
          · rename_i dfl lo hi offs
            simp only [Bool.and_eq_true, decide_eq_true_eq] at hj
            obtain ⟨⟨⟨⟨⟨g1, g2⟩, g3⟩, g4⟩, g5⟩, g6⟩ := hj
            intro ls' H locs hL hP hS
            simp only [List.map_cons, rv_gi hv]
            rcases sws_tab ps.toList lo offs.toList g2 g3 (by omega) h with ⟨a, off, j, e1, e2, e3, e4⟩ | ⟨e1, e2⟩
            · have hin : a < offs.toList.length := (List.getElem?_eq_some_iff.mp e1).1
              refine lv_tableIn (off := off) X.1 X.2.1 hd (by omega) (by omega) ?_ (oTg_t e4) (jump j ls t σ hck e3 ls' H locs hL hP hS)
              rw [show (x.toInt - lo).toNat = a by omega, ← Array.getElem?_toList]
              exact e1
            · exact lv_tableOut X.1 X.2.1 hd (by omega) (oTg_t g1) (jump df ls t σ hck e2 ls' H locs hL hP hS)
          · rename_i dfl ws
            simp only [Bool.and_eq_true] at hj
            obtain ⟨⟨g1, g2⟩, g3⟩ := hj
            obtain ⟨j, e1, e2⟩ := sws_lok g1 ps.toList ws.toList g2 h
            intro ls' H locs hL hP hS
            simp only [List.map_cons, rv_gi hv]
            exact lv_lookup X.1 X.2.1 hd g3 rfl (oTg_t e2) (jump j ls t σ hck e1 ls' H locs hL hP hS)
    | getfield w =>
      obtain ⟨j, len, hd, hj⟩ := okI_t (fun _ q => by cases q) hoi
      simp only [xs] at h
      simp only [okJ] at hj
      split at hj <;> first | (cases hj; done) | skip
      simp only [Bool.and_eq_true] at hj
      obtain ⟨⟨g1, g2⟩, g3⟩ := hj
      obtain ⟨hl, hp⟩ := oLn_t g1
      subst hl
      obtain ⟨pos, hf⟩ := oFl_t g2
      match st, h with
      | .ref b :: t, h =>
        dsimp only at h
        cases hk : Nat.beq (kd b) (w / 100 + 3) with
        | false => simp [hk, cbr] at h
        | true =>
          simp only [hk, cbr] at h
          have h1 := ih r _ _ _ hr hck h
          rw [hp] at h1
          refine g_get X hf (beq_t hk) hd ?_
          rw [if_neg (fun z => by rw [z] at g3; cases g3)]
          exact h1
      | [], h => cases h
      | .int _ :: _, h => cases h
      | .long _ :: _, h => cases h
      | .float _ :: _, h => cases h
      | .double _ :: _, h => cases h
      | .null :: _, h => cases h
      | .retAddr _ :: _, h => cases h
    | fload w =>
      obtain ⟨j, len, hd, hj⟩ := okI_t (fun _ q => by cases q) hoi
      simp only [xs] at h
      simp only [okJ] at hj
      split at hj <;> first | (cases hj; done) | skip
      simp only [Bool.and_eq_true] at hj
      obtain ⟨⟨g1, g2⟩, g3⟩ := hj
      obtain ⟨hl, hp⟩ := oLn_t g1
      subst hl
      obtain ⟨pos, hf⟩ := oFl_t g2
      match st, h with
      | .ref b :: t, h =>
        dsimp only at h
        cases hk : Nat.beq (kd b) (w / 100 + 3) with
        | false => simp [hk, cond] at h
        | true =>
          simp only [hk, cond] at h
          have h1 := ih r _ _ _ hr hck h
          rw [hp] at h1
          refine g_get X hf (beq_t hk) hd ?_
          rw [if_neg (fun z => by rw [z] at g3; cases g3)]
          exact h1
      | [], h => cases h
      | .int _ :: _, h => cases h
      | .long _ :: _, h => cases h
      | .float _ :: _, h => cases h
      | .double _ :: _, h => cases h
      | .null :: _, h => cases h
      | .retAddr _ :: _, h => cases h
    | getstatic w =>
      obtain ⟨j, len, hd, hj⟩ := okI_t (fun _ q => by cases q) hoi
      simp only [xs] at h
      simp only [okJ] at hj
      split at hj <;> first | (cases hj; done) | skip
      simp only [Bool.and_eq_true] at hj
      obtain ⟨⟨g1, g2⟩, g3⟩ := hj
      obtain ⟨hl, hp⟩ := oLn_t g1
      subst hl
      obtain ⟨pos, hf⟩ := oFl_t g2
      match st, h with
      | .ref b :: t, h =>
        dsimp only at h
        cases hk : Nat.beq (kd b) (w / 100 + 3) with
        | false => simp [hk, cbr] at h
        | true =>
          simp only [hk, cbr] at h
          have h1 := ih r _ _ _ hr hck h
          rw [hp] at h1
          refine g_get X hf (beq_t hk) hd ?_
          rw [if_pos (beq_t g3)]
          exact h1
      | [], h => cases h
      | .int _ :: _, h => cases h
      | .long _ :: _, h => cases h
      | .float _ :: _, h => cases h
      | .double _ :: _, h => cases h
      | .null :: _, h => cases h
      | .retAddr _ :: _, h => cases h
    | dload w =>
      obtain ⟨j, len, hd, hj⟩ := okI_t (fun _ q => by cases q) hoi
      simp only [xs] at h
      simp only [okJ] at hj
      split at hj <;> first | (cases hj; done) | skip
      simp only [Bool.and_eq_true] at hj
      obtain ⟨⟨g1, g2⟩, g3⟩ := hj
      obtain ⟨hl, hp⟩ := oLn_t g1
      subst hl
      obtain ⟨pos, hf⟩ := oFl_t g2
      match st, h with
      | .ref b :: t, h =>
        dsimp only at h
        cases hk : Nat.beq (kd b) (w / 100 + 3) with
        | false => simp [hk, cond] at h
        | true =>
          simp only [hk, cond] at h
          have h1 := ih r _ _ _ hr hck h
          rw [hp] at h1
          refine g_get X hf (beq_t hk) hd ?_
          rw [if_pos (beq_t g3)]
          exact h1
      | [], h => cases h
      | .int _ :: _, h => cases h
      | .long _ :: _, h => cases h
      | .float _ :: _, h => cases h
      | .double _ :: _, h => cases h
      | .null :: _, h => cases h
      | .retAddr _ :: _, h => cases h
    | putfield w =>
      obtain ⟨j, len, hd, hj⟩ := okI_t (fun _ q => by cases q) hoi
      simp only [xs] at h
      simp only [okJ] at hj
      split at hj <;> first | (cases hj; done) | skip
      simp only [Bool.and_eq_true] at hj
      obtain ⟨⟨g1, g2⟩, g3⟩ := hj
      obtain ⟨hl, hp⟩ := oLn_t g1
      subst hl
      obtain ⟨pos, hf⟩ := oFl_t g2
      split at h
      · rename_i u b t
        cases hu : gi u with
        | none => rw [hu] at h; cases h
        | some v =>
          rw [hu] at h
          dsimp only at h
          cases hk : Nat.beq (kd b) (w / 100 + 3) with
          | false => simp [hk, cbr] at h
          | true =>
            simp only [hk, cbr] at h
            have h1 := ih r _ _ _ hr hck h
            rw [hp] at h1
            exact g_put X hf (beq_t hk) hu (Or.inl (beq_t g3)) hd h1
      · cases h
    | fstore w =>
      obtain ⟨j, len, hd, hj⟩ := okI_t (fun _ q => by cases q) hoi
      simp only [xs] at h
      simp only [okJ] at hj
      split at hj <;> first | (cases hj; done) | skip
      simp only [Bool.and_eq_true] at hj
      obtain ⟨⟨g1, g2⟩, g3⟩ := hj
      obtain ⟨hl, hp⟩ := oLn_t g1
      subst hl
      obtain ⟨pos, hf⟩ := oFl_t g2
      split at h
      · rename_i u b t
        cases hu : gi u with
        | none => rw [hu] at h; cases h
        | some v =>
          rw [hu] at h
          dsimp only at h
          cases hk : Nat.beq (kd b) (w / 100 + 3) with
          | false => simp [hk, cond] at h
          | true =>
            simp only [hk, cond] at h
            have h1 := ih r _ _ _ hr hck h
            rw [hp] at h1
            exact g_put X hf (beq_t hk) hu (Or.inl (beq_t g3)) hd h1
      · cases h
    | putstatic w =>
      obtain ⟨j, len, hd, hj⟩ := okI_t (fun _ q => by cases q) hoi
      simp only [xs] at h
      simp only [okJ] at hj
      split at hj <;> first | (cases hj; done) | skip
      simp only [Bool.and_eq_true] at hj
      obtain ⟨⟨g1, g2⟩, g3⟩ := hj
      obtain ⟨hl, hp⟩ := oLn_t g1
      subst hl
      obtain ⟨pos, hf⟩ := oFl_t g2
      split at h
      · rename_i v b t
        cases hk : Nat.beq (kd b) (w / 100 + 3) with
        | false => simp [hk, cbr] at h
        | true =>
          simp only [hk, cbr] at h
          split at h
          · rename_i hz
            have h1 := ih r _ _ _ hr hck h
            rw [hp] at h1
            exact g_put (u := .int v) X hf (beq_t hk) rfl (Or.inr ⟨beq_t g3, hz⟩) hd h1
          · cases h
      · rename_i k b t
        cases hk : Nat.beq (kd b) (w / 100 + 3) with
        | false => simp [hk, cbr] at h
        | true =>
          simp only [hk, cbr] at h
          have h1 := ih r _ _ _ hr hck h
          rw [hp] at h1
          exact g_put (u := .retAddr k) (v := kI k) X hf (beq_t hk) rfl (Or.inr ⟨beq_t g3, kI_1 k⟩) hd h1
      · cases h
    | iaload =>
      obtain ⟨j, len, hd, hj⟩ := okI_t (fun _ q => by cases q) hoi
      simp only [xs] at h
      simp only [okJ, Bool.and_eq_true, decide_eq_true_eq] at hj
      obtain ⟨hl, hp⟩ := oLn_t hj.1
      subst hl
      cases hj.2
      split at h
      · rename_i u b t
        cases hu : gi u with
        | none => rw [hu] at h; cases h
        | some i =>
          rw [hu] at h
          obtain ⟨x, e1, e2⟩ := Option.bind_eq_some_iff.mp h
          have h1 := ih r _ _ _ hr hck e2
          rw [hp] at h1
          exact g_iald (v := u) X hu e1 hd h1
      · cases h
    | saload =>
      obtain ⟨j, len, hd, hj⟩ := okI_t (fun _ q => by cases q) hoi
      simp only [xs] at h
      simp only [okJ] at hj
      split at hj <;> first | (cases hj; done) | skip
      simp only [Bool.and_eq_true] at hj
      obtain ⟨hl, hp⟩ := oLn_t hj.1
      subst hl
      split at h
      · rename_i u b t
        cases hu : gi u with
        | none => rw [hu] at h; cases h
        | some i =>
          rw [hu] at h
          dsimp only at h
          cases hk : Nat.beq b 1000 with
          | false => simp [hk, cbr] at h
          | true =>
            simp only [hk, cbr] at h
            cases beq_t hk
            split at h
            · rename_i hz
              have h1 := ih r _ _ _ hr hck h
              rw [hp] at h1
              exact g_sld X (beq_t hj.2) hu hz hd h1
            · cases h
      · cases h
    | swap =>
      obtain ⟨j, len, hd, hj⟩ := okI_t (fun _ q => by cases q) hoi
      simp only [xs] at h
      simp only [okJ] at hj
      split at hj <;> first | (cases hj; done) | skip
      simp only [Bool.and_eq_true] at hj
      obtain ⟨hl, hp⟩ := oLn_t hj.1
      subst hl
      split at h
      · rename_i b t
        cases hk : Nat.beq b 1000 with
        | false => simp [hk, cbr] at h
        | true =>
          simp only [hk, cbr] at h
          cases beq_t hk
          have h1 := ih r _ _ _ hr hck h
          rw [hp] at h1
          exact g_slen X (beq_t hj.2) hd h1
      · cases h
    | iastore =>
      obtain ⟨j, len, hd, hj⟩ := okI_t (fun _ q => by cases q) hoi
      simp only [xs] at h
      simp only [okJ, Bool.and_eq_true, decide_eq_true_eq] at hj
      obtain ⟨hl, hp⟩ := oLn_t hj.1
      subst hl
      cases hj.2
      split at h
      · rename_i u w b t
        cases hu : gi u with
        | none => rw [hu] at h; cases h
        | some v =>
          cases hw : gi w with
          | none => rw [hu, hw] at h; cases h
          | some i =>
            rw [hu, hw] at h
            obtain ⟨σ', e1, e2⟩ := Option.bind_eq_some_iff.mp h
            have h1 := ih r _ _ _ hr hck e2
            rw [hp] at h1
            exact g_iast X hu hw e1 hd h1
      · cases h
    | aaload =>
      obtain ⟨j, len, hd, hj⟩ := okI_t (fun _ q => by cases q) hoi
      simp only [xs] at h
      simp only [okJ, Bool.and_eq_true, decide_eq_true_eq] at hj
      obtain ⟨hl, hp⟩ := oLn_t hj.1
      subst hl
      cases hj.2
      split at h
      · rename_i u b t
        cases hu : gi u with
        | none => rw [hu] at h; cases h
        | some i =>
          rw [hu] at h
          obtain ⟨x, e1, e2⟩ := Option.bind_eq_some_iff.mp h
          have h1 := ih r _ _ _ hr hck e2
          rw [hp] at h1
          exact g_aald X hu e1 hd h1
      · cases h
    | arraylength =>
      obtain ⟨j, len, hd, hj⟩ := okI_t (fun _ q => by cases q) hoi
      simp only [xs] at h
      simp only [okJ, Bool.and_eq_true, decide_eq_true_eq] at hj
      obtain ⟨hl, hp⟩ := oLn_t hj.1
      subst hl
      cases hj.2
      split at h
      · rename_i b t
        cases hk : (Nat.beq (kd b) 1 || Nat.beq (kd b) 2) with
        | false => simp [hk, cbr] at h
        | true =>
          simp only [hk, cbr] at h
          have h1 := ih r _ _ _ hr hck h
          rw [hp] at h1
          refine g_alen X ?_ hd h1
          rcases Bool.or_eq_true_iff.mp hk with q | q
          · exact Or.inl (beq_t q)
          · exact Or.inr (beq_t q)
      · cases h
    | lneg =>
      obtain ⟨j, len, hd, hj⟩ := okI_t (fun _ q => by cases q) hoi
      simp only [xs] at h
      simp only [okJ] at hj
      split at hj <;> first | (cases hj; done) | skip
      obtain ⟨hl, hp⟩ := oLn_t hj
      subst hl
      split at h
      · rename_i b t
        cases hk : (Nat.beq (kd b) 1 || Nat.beq (kd b) 2) with
        | false => simp [hk, cond] at h
        | true =>
          simp only [hk, cond] at h
          have h1 := ih r _ _ _ hr hck h
          rw [hp] at h1
          refine g_alen X ?_ hd h1
          rcases Bool.or_eq_true_iff.mp hk with q | q
          · exact Or.inl (beq_t q)
          · exact Or.inr (beq_t q)
      · cases h
    | invokedynamic k0 =>
      obtain ⟨j, len, hd, hj⟩ := okI_t (fun _ q => by cases q) hoi
      simp only [xs] at h
      simp only [okJ] at hj
      split at hj <;> first | (cases hj; done) | skip
      simp only [Bool.and_eq_true] at hj
      obtain ⟨hl, hp⟩ := oLn_t hj.1
      subst hl
      rename_i ix
      have hlk : Cond.methodLink (cR own) ix arraycopyName ∈ gT := by
        obtain ⟨q, q1, q2⟩ := List.any_eq_true.mp hj.2
        simp only [Bool.and_eq_true] at q2
        obtain ⟨a, b, c⟩ := q
        cases beq_t q2.1; cases beq_t q2.2
        exact gT_of (in_T (List.mem_of_getElem? (acT_ok _ q1))) rfl
      split at h
      · rename_i u v b w a t
        cases hu : gi u with
        | none => rw [hu] at h; cases h
        | some m0 =>
          cases hv : gi v with
          | none => rw [hu, hv] at h; cases h
          | some dp =>
            cases hw : gi w with
            | none => rw [hu, hv, hw] at h; cases h
            | some sp =>
              rw [hu, hv, hw] at h
              dsimp only at h
              cases hk : ckr t with
              | false => simp [hk, cbr] at h
              | true =>
                simp only [hk, cbr] at h
                obtain ⟨σ', e1, e2⟩ := Option.bind_eq_some_iff.mp h
                have h1 := ih r _ _ _ hr hck e2
                rw [hp] at h1
                exact g_copy X hlk hu hv hw e1 hk ⟨by omega, by omega⟩ hd h1
      · cases h
    | invokeinterface k w =>
      obtain ⟨j, len, hd, hj⟩ := okI_t (fun _ q => by cases q) hoi
      simp only [xs] at h
      simp only [okJ, Bool.and_eq_true] at hj
      obtain ⟨hl, hp⟩ := oLn_t hj.1
      subst hl
      cases htk : tk (w % 16) st [] with
      | none => rw [htk] at h; cases h
      | some q =>
        obtain ⟨av, t⟩ := q
        rw [htk] at h
        dsimp only at h
        cases hk : ckr t with
        | false => simp [hk, cbr] at h
        | true =>
          cases hg : rcv (w / 16) av with
          | false => simp [hk, hg, cbr] at h
          | true =>
            simp only [hk, hg, cbr, cond, Bool.and_self] at h
            obtain ⟨y, e1, e2⟩ := Option.bind_eq_some_iff.mp h
            obtain ⟨pre, p1, p2, p3⟩ := tk_spec _ st [] av t htk
            rw [List.append_nil] at p2
            have h1 := ih r _ _ _ hr hck e2
            rw [hp] at h1
            have hst : st = av.reverse ++ t := by rw [p1, p2, List.reverse_reverse]
            rw [hst]
            exact g_call (av := av) X hR (by rw [p2, List.length_reverse]; exact p3) hk hg (hCl _ _ _ _ e1) hj.2 hd (fun _ => h1) (fun z => by cases z)
    | multianewarray k w =>
      obtain ⟨j, len, hd, hj⟩ := okI_t (fun _ q => by cases q) hoi
      simp only [xs] at h
      simp only [okJ, Bool.and_eq_true] at hj
      obtain ⟨hl, hp⟩ := oLn_t hj.1
      subst hl
      cases htk : tk (w % 16) st [] with
      | none => rw [htk] at h; cases h
      | some q =>
        obtain ⟨av, t⟩ := q
        rw [htk] at h
        dsimp only at h
        cases hk : ckr t with
        | false => simp [hk, cbr] at h
        | true =>
          cases hg : rcv (w / 16) av with
          | false => simp [hk, hg, cbr] at h
          | true =>
            simp only [hk, hg, cbr, cond, Bool.and_self] at h
            obtain ⟨y, e1, e2⟩ := Option.bind_eq_some_iff.mp h
            obtain ⟨pre, p1, p2, p3⟩ := tk_spec _ st [] av t htk
            rw [List.append_nil] at p2
            have h1 := ih r _ _ _ hr hck e2
            rw [hp] at h1
            have hst : st = av.reverse ++ t := by rw [p1, p2, List.reverse_reverse]
            rw [hst]
            exact g_call (av := av) X hR (by rw [p2, List.length_reverse]; exact p3) hk hg (hCl _ _ _ _ e1) hj.2 hd (fun z => by cases z) (fun _ => h1)
    | lload w =>
      obtain ⟨j, len, hd, hj⟩ := okI_t (fun _ q => by cases q) hoi
      simp only [xs] at h
      simp only [okJ, Bool.and_eq_true] at hj
      obtain ⟨hl, hp⟩ := oLn_t hj.1
      subst hl
      cases htk : tk (w % 16) st [] with
      | none => rw [htk] at h; cases h
      | some q =>
        obtain ⟨av, t⟩ := q
        rw [htk] at h
        dsimp only at h
        cases hk : ckr t with
        | false => simp [hk, cbr] at h
        | true =>
          cases hg : rcv (w / 16 % 64) av with
          | false => simp [hk, hg, cbr] at h
          | true =>
            simp only [hk, hg, cbr, cond, Bool.and_self] at h
            obtain ⟨y, e1, e2⟩ := Option.bind_eq_some_iff.mp h
            obtain ⟨pre, p1, p2, p3⟩ := tk_spec _ st [] av t htk
            rw [List.append_nil] at p2
            have h1 := ih r _ _ _ hr hck e2
            rw [hp] at h1
            have hst : st = av.reverse ++ t := by rw [p1, p2, List.reverse_reverse]
            rw [hst]
            exact g_call (av := av) X hR (by rw [p2, List.length_reverse]; exact p3) hk hg (hCl _ _ _ _ e1) hj.2 hd (fun _ => h1) (fun z => by cases z)
    | lstore w =>
      obtain ⟨j, len, hd, hj⟩ := okI_t (fun _ q => by cases q) hoi
      simp only [xs] at h
      simp only [okJ, Bool.and_eq_true] at hj
      obtain ⟨hl, hp⟩ := oLn_t hj.1
      subst hl
      cases htk : tk (w % 16) st [] with
      | none => rw [htk] at h; cases h
      | some q =>
        obtain ⟨av, t⟩ := q
        rw [htk] at h
        dsimp only at h
        cases hk : ckr t with
        | false => simp [hk, cbr] at h
        | true =>
          cases hg : rcv (w / 16 % 64) av with
          | false => simp [hk, hg, cbr] at h
          | true =>
            simp only [hk, hg, cbr, cond, Bool.and_self] at h
            obtain ⟨y, e1, e2⟩ := Option.bind_eq_some_iff.mp h
            obtain ⟨pre, p1, p2, p3⟩ := tk_spec _ st [] av t htk
            rw [List.append_nil] at p2
            have h1 := ih r _ _ _ hr hck e2
            rw [hp] at h1
            have hst : st = av.reverse ++ t := by rw [p1, p2, List.reverse_reverse]
            rw [hst]
            exact g_call (av := av) X hR (by rw [p2, List.length_reverse]; exact p3) hk hg (hCl _ _ _ _ e1) hj.2 hd (fun z => by cases z) (fun _ => h1)
    | ireturn =>
      obtain ⟨j, len, hd, hj⟩ := okI_t (fun _ q => by cases q) hoi
      simp only [xs] at h
      simp only [okJ] at hj
      split at hj <;> first | (cases hj; done) | skip
      simp only [Bool.and_eq_true, decide_eq_true_eq] at hj
      cases beq_t hj.1
      split at h
      · rename_i u
        cases hu : gi u with
        | none => rw [hu] at h; cases h
        | some v =>
          rw [hu] at h
          cases h
          exact WG.gi hu (hI pc ls hd (Or.inl hj.2))
      · cases h
    | lreturn =>
      obtain ⟨j, len, hd, hj⟩ := okI_t (fun _ q => by cases q) hoi
      simp only [xs] at h
      simp only [okJ] at hj
      split at hj <;> first | (cases hj; done) | skip
      simp only [Bool.and_eq_true, decide_eq_true_eq] at hj
      cases beq_t hj.1
      split at h
      · rename_i v
        split at h
        · rename_i hz
          cases h
          exact hI pc ls hd (Or.inr ⟨hj.2, hz⟩)
        · cases h
      · rename_i k
        cases h
        exact WG.gi (u := .retAddr k) rfl (hI pc ls hd (Or.inr ⟨hj.2, kI_1 k⟩))
      · cases h
    | return_ =>
      obtain ⟨j, len, hd, hj⟩ := okI_t (fun _ q => by cases q) hoi
      simp only [xs] at h
      simp only [okJ] at hj
      split at hj <;> first | (cases hj; done) | skip
      simp only [Bool.and_eq_true, decide_eq_true_eq] at hj
      cases beq_t hj.1
      split at h
      · cases h
        exact hV pc ls hd hj.2
      · cases h
    | _ => exact absurd h (by simp [xs])
end ENY
