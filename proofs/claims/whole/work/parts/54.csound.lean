
theorem toN_i {pc : Nat} {off : Int} (h : decide (0 ≤ (pc : Int) + off) = true) : (pc : Int) + off = ((((pc : Int) + off).toNat : Nat) : Int) := by
  have := of_decide_eq_true h
  omega
theorem jn_len {Z U : List CE} {x : CE} {k : Nat} : (jn Z k (x :: U)).length = Z.length + U.length := by
  simp [jn]
set_option maxHeartbeats 16000000 in
theorem xc_ok {p : Program} {l : Launch} {e : Env} {s : State} {m : MethodId} {args : Array Value} {below : List Frame} {meth : Method} {c : Code} {D : va_G} {cA cQ : ClassId} {A : Nat → Prop} {w0 nL d mc ms : Nat} {q0 : Option Nat} {Q : State → Prop} {cc : ByteArray} {own : Nat} {Cc : Nat → List Value → Option (List CE)} {Zf : List CE} (hw0 : w0 = 1) (hCc : ∀ k av Zc, Cc k av = some Zc → CtC d (ctab k) k av Zc ∧ (∀ as, av.map (rv as) = av)) (X : CY p (rmc (d + 1) mc ms) s m args meth c D cA cQ A nL cc own)
    (hret : ∀ (pc : Nat) (ls : List (Option Value)), decode cc pc = .ok (.return_, 1) → WC p l e (rmc (d + 1) mc ms) s m args below meth c D cA cQ A w0 nL q0 Q pc ls [] Zf) :
    ∀ (n pc : Nat) (ls : List (Option Value)) (st : List Value) (Z : List CE), 0 < Z.length → ck1 ls → xc Cc cc own nL w0 mc ms n pc ls st Z = some Zf → WC p l e (rmc (d + 1) mc ms) s m args below meth c D cA cQ A w0 nL q0 Q pc ls st Z := by
  intro n
  induction n with
  | zero => intro pc ls st Z hz hck h; cases h
  | succ n ih =>
    intro pc ls st Z hz hck h
    have hw : w0 ≤ Z.length := by omega
    have hRR : 1 ≤ (rmc (d + 1) mc ms).frames ∧ 40 ≤ (rmc (d + 1) mc ms).locals := ⟨by show 1 ≤ d + 1; omega, by show 40 ≤ 40 * (d + 1); omega⟩
    have hRd : d + 1 ≤ (rmc (d + 1) mc ms).frames ∧ 40 * (d + 1) ≤ (rmc (d + 1) mc ms).locals := ⟨Nat.le_refl _, Nat.le_refl _⟩
    unfold xc at h
    split at h
    · rename_i hd
      split at h
      · cases h; exact hret pc ls hd
      · cases h
    · rename_i hd
      exact y_ico X rfl hd (ih _ _ _ _ hz hck h)
    · rename_i hd
      exact y_bip X rfl hd (ih _ _ _ _ hz hck h)
    · rename_i hd
      exact y_sip X rfl hd (ih _ _ _ _ hz hck h)
    · rename_i hd
      split at h
      · rename_i ho
        have h1 := ih _ _ _ _ hz hck h
        intro as ls' H locs ha hL hP hD hS
        exact lv_ldc X.1 X.2.1 X.2.2.2.1 (X.2.2.2.2.1 _ (oKn_t ho)) hd (h1 as ls' H locs ha hL hP hD hS)
      · cases h
    · rename_i hd
      split at h
      · rename_i hk
        exact y_ald X rfl hk hd (ih _ _ _ _ hz hck h)
      · cases h
    · rename_i hd
      split at h
      · rename_i hk
        exact y_ild X rfl hk hd (ih _ _ _ _ hz hck h)
      · cases h
    · rename_i hd
      split at h
      · split at h
        · rename_i hb
          exact y_ist X rfl (Nat.le_of_ble_eq_true hb) hck hd (ih _ _ _ _ hz (ck1_lset hck rfl) h)
        · cases h
      · cases h
    · rename_i hd
      split at h
      · rename_i hk
        split at h
        · rename_i hb
          exact y_inc X (Nat.le_of_ble_eq_true hb) hck hk rfl hd (ih _ _ _ _ hz (ck1_lset hck rfl) h)
        · cases h
      · cases h
    · rename_i hd
      split at h
      · split at h
        · rename_i hb
          exact y_dup X hb hd (ih _ _ _ _ hz hck h)
        · cases h
      · cases h
    · rename_i hd
      split at h
      · rename_i hb
        exact y_goto X hd (toN_i hb) (ih _ _ _ _ hz hck h)
      · cases h
    · rename_i hd
      split at h
      · split at h
        · rename_i hb
          split at h
          · rename_i hle
            exact y_ge X hd (toN_i hb) (fun _ => ih _ _ _ _ hz hck h) (fun q => absurd hle q)
          · rename_i hle
            exact y_ge X hd (toN_i hb) (fun q => absurd q hle) (fun _ => ih _ _ _ _ hz hck h)
        · cases h
      · cases h
    · rename_i hd
      split at h
      · rename_i ci hci
        split at h
        · rename_i hb
          simp only [Bool.and_eq_true] at hb
          obtain ⟨⟨b1, b2⟩, b3⟩ := hb
          obtain ⟨c1, c2, c3, c4⟩ := cnF_t hci
          exact y_new X hw (Or.inr hz) b1 c2 c1 c3 c4 ⟨Nat.le_of_ble_eq_true b2, Nat.le_of_ble_eq_true b3⟩ hd (ih _ _ _ _ (by simp) hck h)
        · cases h
      · cases h
    · rename_i hd
      split at h
      · split at h
        · rename_i hb
          simp only [Bool.and_eq_true] at hb
          obtain ⟨⟨⟨⟨b1, b2⟩, b3⟩, b4⟩, b5⟩ := hb
          exact y_newa X hw (Or.inr hz) b1 ⟨of_decide_eq_true b2, Nat.le_of_ble_eq_true b3⟩ ⟨Nat.le_of_ble_eq_true b4, Nat.le_of_ble_eq_true b5⟩ hd (ih _ _ _ _ (by simp) hck h)
        · cases h
      · cases h
    · rename_i hd
      split at h
      · split at h
        · rename_i hb
          simp only [Bool.and_eq_true] at hb
          obtain ⟨⟨⟨⟨⟨⟨a1, a2⟩, b1⟩, b2⟩, b3⟩, b4⟩, b5⟩ := hb
          have e1 := beq_t a1
          have e2 := beq_t a2
          subst e1
          subst e2
          exact y_newq X hw (Or.inr hz) b1 ⟨of_decide_eq_true b2, Nat.le_of_ble_eq_true b3⟩ (cnF_t (own := 10) (ix := 19) (ci := 1) (by decide +kernel)).1 ⟨Nat.le_of_ble_eq_true b4, Nat.le_of_ble_eq_true b5⟩ hd (ih _ _ _ _ (by simp) hck h)
        · cases h
      · cases h
    · rename_i hd
      split at h
      · split at h
        · rename_i q hq
          exact y_alen (n := q.1) (u := q.2) X hq hd (ih _ _ _ _ hz hck h)
        · cases h
      · cases h
    · rename_i hd
      split at h
      · rename_i w hf
        split at h
        · rename_i q hq
          split at h
          · rename_i hb
            simp only [Bool.and_eq_true] at hb
            obtain ⟨⟨⟨b1, b2⟩, b3⟩, b4⟩ := hb
            obtain ⟨pos, hpos⟩ := flF_t hf
            have e1 := beq_t b1
            obtain ⟨q1, q2⟩ := q
            simp only at e1
            subst e1
            exact y_put X hpos hq (Nat.le_of_ble_eq_true b2) b3 (fun _ => by rw [beq_t b4]) hd (ih _ _ _ _ (by simpa using hz) hck h)
          · cases h
        · cases h
      · cases h
    · rename_i hd
      split at h
      · rename_i w hf
        split at h
        · rename_i q hq
          split at h
          · rename_i x hx
            split at h
            · rename_i hb
              obtain ⟨pos, hpos⟩ := flF_t hf
              have e1 := beq_t hb
              obtain ⟨q1, q2⟩ := q
              simp only at e1
              subst e1
              exact y_getr X hpos hq hx hd (ih _ _ _ _ hz hck h)
            · cases h
          · cases h
        · cases h
      · cases h
    · rename_i hd
      split at h
      · split at h
        · rename_i q hq
          split at h
          · rename_i hb
            exact y_iast (n := q.1) (u := q.2) X hq (of_decide_eq_true hb) hd (ih _ _ _ _ (by simpa using hz) hck h)
          · cases h
        · cases h
      · cases h
    · rename_i hd
      split at h
      · split at h
        · rename_i q r hq hr
          split at h
          · rename_i hb
            simp only [Bool.and_eq_true] at hb
            obtain ⟨⟨b1, b2⟩, b3⟩ := hb
            obtain ⟨r1, r2⟩ := r
            have e1 := beq_t b1
            simp only at e1
            subst e1
            exact y_aast (n := q.1) (u := q.2) X hq hr (of_decide_eq_true b2) (Nat.le_of_ble_eq_true b3) hd (ih _ _ _ _ (by simpa using hz) hck h)
          · cases h
        · cases h
      · cases h
    · rename_i hd
      split at h
      · rename_i hf
        split at h
        · rename_i hb
          simp only [Bool.and_eq_true] at hb
          obtain ⟨⟨b1, b2⟩, b3⟩ := hb
          exact y_max X ((csF_t hf).2.2.2.1 rfl) hRR ⟨Nat.le_of_ble_eq_true b2, Nat.le_of_ble_eq_true b3⟩ b1 hd (ih _ _ _ _ hz hck h)
        · cases h
      · cases h
    · rename_i hd
      split at h
      · rename_i hf
        split at h
        · split at h
          · rename_i hb
            exact y_obj X ((csF_t hf).1 rfl) hRR hb hd (ih _ _ _ _ hz hck h)
          · cases h
        · cases h
      · rename_i kn ci hne hf
        split at h
        · rename_i av k t htk
          split at h
          · rename_i x U q hcc hq
            split at h
            · rename_i hb
              simp only [Bool.and_eq_true] at hb
              obtain ⟨⟨⟨⟨⟨⟨⟨b0, b1⟩, b2⟩, b3⟩, b4⟩, b5⟩, b6⟩, b7⟩ := hb
              obtain ⟨q1, q2⟩ := q
              have e1 := beq_t b1
              have e2 := of_decide_eq_true b2
              simp only at e1 e2
              subst e1
              subst e2
              obtain ⟨pre, hp1, hp2, hp3⟩ := tk_spec _ _ _ _ _ htk
              obtain ⟨hC, hav⟩ := hCc _ _ _ hcc
              obtain ⟨f0, f1, f2, f3, f4, f5⟩ := csF_t hf
              have hst : st = av.reverse ++ .ref k :: t := by rw [hp1, hp2]; simp
              have hn : av.length = (ctab q1).2.2.2.2.1 := by rw [hp2]; simpa using hp3
              rw [hst]
              have h1 := ih _ _ _ _ (by rw [jn_len]; omega) hck h
              have hk3 : kn = 0 ∨ kn = 1 ∨ kn = 2 := by have := Nat.le_of_ble_eq_true b0; omega
              rcases hk3 with rfl | rfl | rfl
              · exact (hne rfl).elim
              · exact y_callN X (ct_ok q1 f5) (f1 rfl) hC hw b4 hq (beq_t b3) hav hn b5 hRd ⟨Nat.le_of_ble_eq_true b6, Nat.le_of_ble_eq_true b7⟩ hd h1
              · exact y_callI X (ct_ok q1 f5) (f2 rfl) hC hw b4 hq (beq_t b3) hav hn b5 hRd ⟨Nat.le_of_ble_eq_true b6, Nat.le_of_ble_eq_true b7⟩ hd h1
            · cases h
          · cases h
        · cases h
      · cases h
    · cases h
