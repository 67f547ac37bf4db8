/-! ===== the JDK's String methods on the two constants ===== -/
section ENS
variable {p : Program} {l : Launch} {e : Env} {R : Room} {s : State} {m : MethodId} {args : Array Value} {below : List Frame} {meth : Method} {c : Code} {D : va_G} {cA cQ : ClassId} {ad : Nat → Nat} {A : Nat → Prop} {kc ks nL : Nat} {Q : State → Prop} {cc : ByteArray} {own scL : Nat} {scX : Nat → Int32} {pc : Nat} {ls : List (Option Value)} {st t : List Value} {σ : Mem}
theorem g_cs (X : CX p R s m args c D cA cQ ad A kc ks nL cc own scL scX) (ho : own = 15) (hd : decode cc pc = .ok (.getstatic 38, 3)) (kk : WG p l e R s m args below meth c D cA cQ ad A kc ks nL Q (pc + 3) ls (.int 1 :: st) σ) : WG p l e R s m args below meth c D cA cQ ad A kc ks nL Q pc ls st σ := by
  subst ho
  intro ls' H locs hL hP hS
  exact va_gets X.1 X.2.1 X.2.2.2.2.2.2.2.2.2.1.2.1 hS X.2.2.2.1 (X.2.2.2.2.1 _ jf_cs) (fun x h => h) hd (kk ls' H locs hL hP hS)
theorem g_sio (X : CX p R s m args c D cA cQ ad A kc ks nL cc own scL scX) (ho : own = 15) (hd : decode cc pc = .ok (.getstatic 1053, 3)) (kk : ∀ v : Value, (v = .null ∨ v = .ref 1005) → WG p l e R s m args below meth c D cA cQ ad A kc ks nL Q (pc + 3) ls (v :: st) σ) : WG p l e R s m args below meth c D cA cQ ad A kc ks nL Q pc ls st σ := by
  subst ho
  intro ls' H locs hL hP hS
  rcases X.2.2.2.2.2.2.2.2.2.1.2.2 with h | h
  · exact va_gets X.1 X.2.1 h hS X.2.2.2.1 (X.2.2.2.2.1 _ jf_sio) (fun x h => h) hd (kk .null (Or.inl rfl) ls' H locs hL hP hS)
  · exact va_gets X.1 X.2.1 h hS X.2.2.2.1 (X.2.2.2.2.1 _ jf_sio) (fun x h => h) hd (kk (.ref 1005) (Or.inr rfl) ls' H locs hL hP hS)
theorem g_cod {i : Nat} (hi : i < 2) (X : CX p R s m args c D cA cQ ad A kc ks nL cc own scL scX) (ho : own = 15) (hd : decode cc pc = .ok (.getfield 15, 3)) (kk : WG p l e R s m args below meth c D cA cQ ad A kc ks nL Q (pc + 3) ls (.int 0 :: st) σ) : WG p l e R s m args below meth c D cA cQ ad A kc ks nL Q pc ls (.ref (1001 + i) :: st) σ := by
  subst ho
  intro ls' H locs hL hP hS
  exact vk_getf X.1 X.2.1 (X.2.2.2.2.2.2.2.2.2.1.1.1 i hi).2.1 hS X.2.2.2.1 (X.2.2.2.2.1 _ jf_cod) (fun x h => h) hd (kk ls' H locs hL hP hS)
theorem g_val {i : Nat} (hi : i < 2) (X : CX p R s m args c D cA cQ ad A kc ks nL cc own scL scX) (ho : own = 15) (hd : decode cc pc = .ok (.getfield 9, 3)) (kk : WG p l e R s m args below meth c D cA cQ ad A kc ks nL Q (pc + 3) ls (.ref (1003 + i) :: st) σ) : WG p l e R s m args below meth c D cA cQ ad A kc ks nL Q pc ls (.ref (1001 + i) :: st) σ := by
  subst ho
  intro ls' H locs hL hP hS
  exact vk_getf X.1 X.2.1 (X.2.2.2.2.2.2.2.2.2.1.1.1 i hi).2.2.1 hS X.2.2.2.1 (X.2.2.2.2.1 _ jf_val) (fun x h => h) hd (kk ls' H locs hL hP hS)
theorem g_vlen {i : Nat} (hi : i < 2) (X : CX p R s m args c D cA cQ ad A kc ks nL cc own scL scX) (hd : decode cc pc = .ok (.arraylength, 1)) (kk : WG p l e R s m args below meth c D cA cQ ad A kc ks nL Q (pc + 1) ls (.int (nI ([105, 64].getD i 0)) :: st) σ) : WG p l e R s m args below meth c D cA cQ ad A kc ks nL Q pc ls (.ref (1003 + i) :: st) σ := by
  intro ls' H locs hL hP hS
  exact va_tlen X.1 X.2.1 (X.2.2.2.2.2.2.2.2.2.1.1.1 i hi).2.2.2 hS rfl hd (kk ls' H locs hL hP hS)
theorem g_vb {i : Nat} {k : Int32} (hi : i < 2) (X : CX p R s m args c D cA cQ ad A kc ks nL cc own scL scX) (hk : vp_in k ([105, 64].getD i 0)) (hd : decode cc pc = .ok (.baload, 1)) (kk : WG p l e R s m args below meth c D cA cQ ad A kc ks nL Q (pc + 1) ls (.int (([strT 1001, strT 1002].getD i []).getD k.toNatClampNeg 0) :: st) σ) : WG p l e R s m args below meth c D cA cQ ad A kc ks nL Q pc ls (.int k :: .ref (1003 + i) :: st) σ := by
  intro ls' H locs hL hP hS
  exact va_tb X.1 X.2.1 (X.2.2.2.2.2.2.2.2.2.1.1.1 i hi).2.2.2 hS hk rfl hd (kk ls' H locs hL hP hS)
theorem g_ik {n : Int} {v : Int32} (X : CX p R s m args c D cA cQ ad A kc ks nL cc own scL scX) (hd : decode cc pc = .ok (.iconst n, 1)) (hv : Int32.ofInt n = v) (kk : WG p l e R s m args below meth c D cA cQ ad A kc ks nL Q (pc + 1) ls (.int v :: st) σ) : WG p l e R s m args below meth c D cA cQ ad A kc ks nL Q pc ls st σ := by
  intro ls' H locs hL hP hS
  exact lv_iconst X.1 X.2.1 hd hv (kk ls' H locs hL hP hS)
theorem g_sp {n : Int} {v : Int32} (X : CX p R s m args c D cA cQ ad A kc ks nL cc own scL scX) (hd : decode cc pc = .ok (.sipush n, 3)) (hv : (Int16.ofInt n).toInt32 = v) (kk : WG p l e R s m args below meth c D cA cQ ad A kc ks nL Q (pc + 3) ls (.int v :: st) σ) : WG p l e R s m args below meth c D cA cQ ad A kc ks nL Q pc ls st σ := by
  intro ls' H locs hL hP hS
  exact lv_sipush X.1 X.2.1 hd hv (kk ls' H locs hL hP hS)
theorem g_i2c {x v : Int32} (X : CX p R s m args c D cA cQ ad A kc ks nL cc own scL scX) (hd : decode cc pc = .ok (.i2c, 1)) (hv : (x.toUInt32 % 65536).toInt32 = v) (kk : WG p l e R s m args below meth c D cA cQ ad A kc ks nL Q (pc + 1) ls (.int v :: st) σ) : WG p l e R s m args below meth c D cA cQ ad A kc ks nL Q pc ls (.int x :: st) σ := by
  intro ls' H locs hL hP hS
  exact lv_i2c X.1 X.2.1 hd hv (kk ls' H locs hL hP hS)
theorem g_popN {v : Value} (X : CX p R s m args c D cA cQ ad A kc ks nL cc own scL scX) (hv : c1 v = true) (hd : decode cc pc = .ok (.pop, 1)) (kk : WG p l e R s m args below meth c D cA cQ ad A kc ks nL Q (pc + 1) ls t σ) : WG p l e R s m args below meth c D cA cQ ad A kc ks nL Q pc ls (v :: t) σ := g_pop X hv hd kk
end ENS
theorem dJS_length_0 : decode I_JS_length.2.1 0 = .ok (.aload_n 0, 1) := by decide +kernel
theorem dJS_length_1 : decode I_JS_length.2.1 1 = .ok (.getfield 9, 3) := by decide +kernel
theorem dJS_length_4 : decode I_JS_length.2.1 4 = .ok (.arraylength, 1) := by decide +kernel
theorem dJS_length_5 : decode I_JS_length.2.1 5 = .ok (.aload_n 0, 1) := by decide +kernel
theorem dJS_length_6 : decode I_JS_length.2.1 6 = .ok (.invokevirtual 335, 3) := by decide +kernel
theorem dJS_length_9 : decode I_JS_length.2.1 9 = .ok (.ishr, 1) := by decide +kernel
theorem dJS_length_10 : decode I_JS_length.2.1 10 = .ok (.ireturn, 1) := by decide +kernel
theorem dJS_charAt_0 : decode I_JS_charAt.2.1 0 = .ok (.aload_n 0, 1) := by decide +kernel
theorem dJS_charAt_1 : decode I_JS_charAt.2.1 1 = .ok (.invokevirtual 492, 3) := by decide +kernel
theorem dJS_charAt_4 : decode I_JS_charAt.2.1 4 = .ok (.ifCond .eq 12, 3) := by decide +kernel
theorem dJS_charAt_7 : decode I_JS_charAt.2.1 7 = .ok (.aload_n 0, 1) := by decide +kernel
theorem dJS_charAt_8 : decode I_JS_charAt.2.1 8 = .ok (.getfield 9, 3) := by decide +kernel
theorem dJS_charAt_11 : decode I_JS_charAt.2.1 11 = .ok (.iload_n 1, 1) := by decide +kernel
theorem dJS_charAt_12 : decode I_JS_charAt.2.1 12 = .ok (.invokestatic 495, 3) := by decide +kernel
theorem dJS_charAt_15 : decode I_JS_charAt.2.1 15 = .ok (.ireturn, 1) := by decide +kernel
theorem dJS_charAt_16 : decode I_JS_charAt.2.1 16 = .ok (.aload_n 0, 1) := by decide +kernel
theorem dJS_charAt_17 : decode I_JS_charAt.2.1 17 = .ok (.getfield 9, 3) := by decide +kernel
theorem dJS_charAt_20 : decode I_JS_charAt.2.1 20 = .ok (.iload_n 1, 1) := by decide +kernel
theorem dJS_charAt_21 : decode I_JS_charAt.2.1 21 = .ok (.invokestatic 498, 3) := by decide +kernel
theorem dJS_charAt_24 : decode I_JS_charAt.2.1 24 = .ok (.ireturn, 1) := by decide +kernel
theorem dJS_coder_0 : decode I_JS_coder.2.1 0 = .ok (.getstatic 38, 3) := by decide +kernel
theorem dJS_coder_3 : decode I_JS_coder.2.1 3 = .ok (.ifCond .eq 10, 3) := by decide +kernel
theorem dJS_coder_6 : decode I_JS_coder.2.1 6 = .ok (.aload_n 0, 1) := by decide +kernel
theorem dJS_coder_7 : decode I_JS_coder.2.1 7 = .ok (.getfield 15, 3) := by decide +kernel
theorem dJS_coder_10 : decode I_JS_coder.2.1 10 = .ok (.goto 4, 3) := by decide +kernel
theorem dJS_coder_13 : decode I_JS_coder.2.1 13 = .ok (.iconst 1, 1) := by decide +kernel
theorem dJS_coder_14 : decode I_JS_coder.2.1 14 = .ok (.ireturn, 1) := by decide +kernel
theorem dJS_isLatin1_0 : decode I_JS_isLatin1.2.1 0 = .ok (.getstatic 38, 3) := by decide +kernel
theorem dJS_isLatin1_3 : decode I_JS_isLatin1.2.1 3 = .ok (.ifCond .eq 14, 3) := by decide +kernel
theorem dJS_isLatin1_6 : decode I_JS_isLatin1.2.1 6 = .ok (.aload_n 0, 1) := by decide +kernel
theorem dJS_isLatin1_7 : decode I_JS_isLatin1.2.1 7 = .ok (.getfield 15, 3) := by decide +kernel
theorem dJS_isLatin1_10 : decode I_JS_isLatin1.2.1 10 = .ok (.ifCond .ne 7, 3) := by decide +kernel
theorem dJS_isLatin1_13 : decode I_JS_isLatin1.2.1 13 = .ok (.iconst 1, 1) := by decide +kernel
theorem dJS_isLatin1_14 : decode I_JS_isLatin1.2.1 14 = .ok (.goto 4, 3) := by decide +kernel
theorem dJS_isLatin1_17 : decode I_JS_isLatin1.2.1 17 = .ok (.iconst 0, 1) := by decide +kernel
theorem dJS_isLatin1_18 : decode I_JS_isLatin1.2.1 18 = .ok (.ireturn, 1) := by decide +kernel
theorem dJS_checkIndex_0 : decode I_JS_checkIndex.2.1 0 = .ok (.iload_n 0, 1) := by decide +kernel
theorem dJS_checkIndex_1 : decode I_JS_checkIndex.2.1 1 = .ok (.iload_n 1, 1) := by decide +kernel
theorem dJS_checkIndex_2 : decode I_JS_checkIndex.2.1 2 = .ok (.getstatic 1053, 3) := by decide +kernel
theorem dJS_checkIndex_5 : decode I_JS_checkIndex.2.1 5 = .ok (.invokestatic 1059, 3) := by decide +kernel
theorem dJS_checkIndex_8 : decode I_JS_checkIndex.2.1 8 = .ok (.pop, 1) := by decide +kernel
theorem dJS_checkIndex_9 : decode I_JS_checkIndex.2.1 9 = .ok (.return_, 1) := by decide +kernel
theorem dJL_charAt_0 : decode I_JL_charAt.2.1 0 = .ok (.iload_n 1, 1) := by decide +kernel
theorem dJL_charAt_1 : decode I_JL_charAt.2.1 1 = .ok (.aload_n 0, 1) := by decide +kernel
theorem dJL_charAt_2 : decode I_JL_charAt.2.1 2 = .ok (.arraylength, 1) := by decide +kernel
theorem dJL_charAt_3 : decode I_JL_charAt.2.1 3 = .ok (.invokestatic 9, 3) := by decide +kernel
theorem dJL_charAt_6 : decode I_JL_charAt.2.1 6 = .ok (.aload_n 0, 1) := by decide +kernel
theorem dJL_charAt_7 : decode I_JL_charAt.2.1 7 = .ok (.iload_n 1, 1) := by decide +kernel
theorem dJL_charAt_8 : decode I_JL_charAt.2.1 8 = .ok (.baload, 1) := by decide +kernel
theorem dJL_charAt_9 : decode I_JL_charAt.2.1 9 = .ok (.sipush 255, 3) := by decide +kernel
theorem dJL_charAt_12 : decode I_JL_charAt.2.1 12 = .ok (.iand, 1) := by decide +kernel
theorem dJL_charAt_13 : decode I_JL_charAt.2.1 13 = .ok (.i2c, 1) := by decide +kernel
theorem dJL_charAt_14 : decode I_JL_charAt.2.1 14 = .ok (.ireturn, 1) := by decide +kernel
theorem dJP_checkIndex_0 : decode I_JP_checkIndex.2.1 0 = .ok (.iload_n 0, 1) := by decide +kernel
theorem dJP_checkIndex_1 : decode I_JP_checkIndex.2.1 1 = .ok (.ifCond .lt 8, 3) := by decide +kernel
theorem dJP_checkIndex_4 : decode I_JP_checkIndex.2.1 4 = .ok (.iload_n 0, 1) := by decide +kernel
theorem dJP_checkIndex_5 : decode I_JP_checkIndex.2.1 5 = .ok (.iload_n 1, 1) := by decide +kernel
theorem dJP_checkIndex_6 : decode I_JP_checkIndex.2.1 6 = .ok (.if_icmp .lt 10, 3) := by decide +kernel
theorem dJP_checkIndex_9 : decode I_JP_checkIndex.2.1 9 = .ok (.aload_n 2, 1) := by decide +kernel
theorem dJP_checkIndex_10 : decode I_JP_checkIndex.2.1 10 = .ok (.iload_n 0, 1) := by decide +kernel
theorem dJP_checkIndex_11 : decode I_JP_checkIndex.2.1 11 = .ok (.iload_n 1, 1) := by decide +kernel
theorem dJP_checkIndex_12 : decode I_JP_checkIndex.2.1 12 = .ok (.invokestatic 95, 3) := by decide +kernel
theorem dJP_checkIndex_15 : decode I_JP_checkIndex.2.1 15 = .ok (.athrow, 1) := by decide +kernel
theorem dJP_checkIndex_16 : decode I_JP_checkIndex.2.1 16 = .ok (.iload_n 0, 1) := by decide +kernel
theorem dJP_checkIndex_17 : decode I_JP_checkIndex.2.1 17 = .ok (.ireturn, 1) := by decide +kernel

theorem q_coder (d i : Nat) (hi : i < 2) (σ : Mem) : Ctr (d + 1) I_JS_coder [.ref (1001 + i)] σ (0, σ) := by
  refine ctr_hand (own := 15) o_JS_coder rfl (by decide) (c1_of rfl) (Nat.le_of_ble_eq_true rfl) ?_
  intro p l e s m args below meth c D cA cQ ad A Q X hI hV
  refine g_cs X rfl dJS_coder_0 ?_
  refine g_if_eq (tg := 13) X (v := .int 1) rfl dJS_coder_3 (by decide) (fun h => absurd h (by decide)) (fun _ => ?_)
  refine g_aload (i := 0) (b := 1001 + i) X rfl dJS_coder_6 (Or.inl ⟨_, rfl, rfl, rfl⟩) ?_
  refine g_cod hi X rfl dJS_coder_7 ?_
  refine g_goto (tg := 14) X dJS_coder_10 (by decide) ?_
  exact hI 14 _ .byte rfl rfl dJS_coder_14
theorem q_isLatin1 (d i : Nat) (hi : i < 2) (σ : Mem) : Ctr (d + 1) I_JS_isLatin1 [.ref (1001 + i)] σ (1, σ) := by
  refine ctr_hand (own := 15) o_JS_isLatin1 rfl (by decide) (c1_of rfl) (Nat.le_of_ble_eq_true rfl) ?_
  intro p l e s m args below meth c D cA cQ ad A Q X hI hV
  refine g_cs X rfl dJS_isLatin1_0 ?_
  refine g_if_eq (tg := 17) X (v := .int 1) rfl dJS_isLatin1_3 (by decide) (fun h => absurd h (by decide)) (fun _ => ?_)
  refine g_aload (i := 0) (b := 1001 + i) X rfl dJS_isLatin1_6 (Or.inl ⟨_, rfl, rfl, rfl⟩) ?_
  refine g_cod hi X rfl dJS_isLatin1_7 ?_
  refine g_if_ne (tg := 17) X (v := .int 0) rfl dJS_isLatin1_10 (by decide) (fun h => absurd rfl h) (fun _ => ?_)
  refine g_ik X dJS_isLatin1_13 rfl ?_
  refine g_goto (tg := 18) X dJS_isLatin1_14 (by decide) ?_
  exact hI 18 _ .boolean rfl (by show narrow .boolean (.int 1) = .int 1; decide) dJS_isLatin1_18
theorem q_pre (d : Nat) (k n : Int32) (v : Value) (hv : v = .null ∨ v = .ref 1005) (h0 : ¬ k < 0) (h1 : k < n) (σ : Mem) : Ctr (d + 1) I_JP_checkIndex [.int k, .int n, v] σ (k, σ) := by
  refine ctr_hand (own := 18) o_JP_checkIndex rfl (by decide) (c1_of (by rcases hv with rfl | rfl <;> rfl)) (Nat.le_of_ble_eq_true rfl) ?_
  intro p l e s m args below meth c D cA cQ ad A Q X hI hV
  refine g_iload (i := 0) (v := .int k) X rfl rfl dJP_checkIndex_0 (Or.inl ⟨_, rfl, rfl, rfl⟩) ?_
  refine g_if_lt (tg := 9) X (v := .int k) rfl dJP_checkIndex_1 (by decide) (fun h => absurd h h0) (fun _ => ?_)
  refine g_iload (i := 0) (v := .int k) X rfl rfl dJP_checkIndex_4 (Or.inl ⟨_, rfl, rfl, rfl⟩) ?_
  refine g_iload (i := 1) (v := .int n) X rfl rfl dJP_checkIndex_5 (Or.inl ⟨_, rfl, rfl, rfl⟩) ?_
  refine g_ic_lt (tg := 16) X (v := .int n) (w := .int k) rfl rfl dJP_checkIndex_6 (by decide) (fun _ => ?_) (fun h => absurd h1 h)
  refine g_iload (i := 0) (v := .int k) X rfl rfl dJP_checkIndex_16 (Or.inl ⟨_, rfl, rfl, rfl⟩) ?_
  exact hI 17 _ .int rfl rfl dJP_checkIndex_17
theorem q_chk (d : Nat) (k n : Int32) (h0 : ¬ k < 0) (h1 : k < n) (σ : Mem) : Ctr (d + 2) I_JS_checkIndex [.int k, .int n] σ (0, σ) := by
  refine ctr_hand (own := 15) o_JS_checkIndex rfl (by decide) (c1_of rfl) (Nat.le_of_ble_eq_true rfl) ?_
  intro p l e s m args below meth c D cA cQ ad A Q X hI hV
  refine g_iload (i := 0) (v := .int k) X rfl rfl dJS_checkIndex_0 (Or.inl ⟨_, rfl, rfl, rfl⟩) ?_
  refine g_iload (i := 1) (v := .int n) X rfl rfl dJS_checkIndex_1 (Or.inl ⟨_, rfl, rfl, rfl⟩) ?_
  refine g_sio X rfl dJS_checkIndex_2 (fun v hv => ?_)
  refine g_callS (M := I_JP_checkIndex) (av := [.int k, .int n, v]) (t := []) (d := d + 1) X o_JP_checkIndex rfl jl_pre (q_pre d k n v hv h0 h1 σ) rfl rfl ⟨Nat.le_refl _, Nat.le_refl _⟩ dJS_checkIndex_5 ?_
  refine g_pop X (v := .int k) rfl dJS_checkIndex_8 ?_
  exact hV 9 _ rfl dJS_checkIndex_9
theorem str_ok : ∀ i, i < 2 → [105, 64].getD i 0 = (strT (1001 + i)).length ∧ ∀ k, k < (strT (1001 + i)).length → ((([strT 1001, strT 1002].getD i []).getD k 0 &&& 255).toUInt32 % 65536).toInt32 = (strT (1001 + i)).getD k 0 ∧ narrow .char (.int ((strT (1001 + i)).getD k 0)) = .int ((strT (1001 + i)).getD k 0) := by decide +kernel
theorem q_lch (d i : Nat) (hi : i < 2) (k : Int32) (hk : ¬ (k < 0 ∨ (strT (1001 + i)).length ≤ k.toNatClampNeg)) (σ : Mem) : Ctr (d + 3) I_JL_charAt [.ref (1003 + i), .int k] σ ((strT (1001 + i)).getD k.toNatClampNeg 0, σ) := by
  obtain ⟨e1, e2⟩ := str_ok i hi
  have hlt : k.toNatClampNeg < (strT (1001 + i)).length := Nat.not_le.mp fun q => hk (Or.inr q)
  have hk0 : ¬ k < 0 := fun q => hk (Or.inl q)
  obtain ⟨e3, e4⟩ := e2 _ hlt
  have hsm : (strT (1001 + i)).length < 2 ^ 31 := by
    have : ∀ i, i < 2 → (strT (1001 + i)).length < 2 ^ 31 := by decide +kernel
    exact this i hi
  have hkl : k < nI ([105, 64].getD i 0) := by
    rw [e1]
    obtain ⟨j, hj, rfl⟩ := nI_of hk0
    rw [nI_clamp hj] at hlt
    exact nI_lt hlt hsm
  refine ctr_hand (own := 17) o_JL_charAt rfl (by decide) (c1_of rfl) (Nat.le_of_ble_eq_true rfl) ?_
  intro p l e s m args below meth c D cA cQ ad A Q X hI hV
  refine g_iload (i := 1) (v := .int k) X rfl rfl dJL_charAt_0 (Or.inl ⟨_, rfl, rfl, rfl⟩) ?_
  refine g_aload (i := 0) (b := 1003 + i) X rfl dJL_charAt_1 (Or.inl ⟨_, rfl, rfl, rfl⟩) ?_
  refine g_vlen hi X dJL_charAt_2 ?_
  refine g_callS (M := I_JS_checkIndex) (av := [.int k, .int (nI ([105, 64].getD i 0))]) (t := []) (d := d + 2) X o_JS_checkIndex rfl jl_chk (q_chk d k _ hk0 hkl σ) rfl rfl ⟨Nat.le_refl _, Nat.le_refl _⟩ dJL_charAt_3 ?_
  refine g_aload (i := 0) (b := 1003 + i) X rfl dJL_charAt_6 (Or.inl ⟨_, rfl, rfl, rfl⟩) ?_
  refine g_iload (i := 1) (v := .int k) X rfl rfl dJL_charAt_7 (Or.inl ⟨_, rfl, rfl, rfl⟩) ?_
  refine g_vb hi X (by rw [e1]; exact hk) dJL_charAt_8 ?_
  refine g_sp X dJL_charAt_9 (v := 255) rfl ?_
  refine g_iand X (v := .int 255) (w := .int _) rfl rfl dJL_charAt_12 ?_
  refine g_i2c X dJL_charAt_13 e3 ?_
  exact hI 14 _ .char rfl e4 dJL_charAt_14
theorem q_len (d i : Nat) (hi : i < 2) (σ : Mem) : Ctr (d + 2) I_JS_length [.ref (1001 + i)] σ (nI ([105, 64].getD i 0), σ) := by
  refine ctr_hand (own := 15) o_JS_length rfl (by decide) (c1_of rfl) (Nat.le_of_ble_eq_true rfl) ?_
  intro p l e s m args below meth c D cA cQ ad A Q X hI hV
  refine g_aload (i := 0) (b := 1001 + i) X rfl dJS_length_0 (Or.inl ⟨_, rfl, rfl, rfl⟩) ?_
  refine g_val hi X rfl dJS_length_1 ?_
  refine g_vlen hi X dJS_length_4 ?_
  refine g_aload (i := 0) (b := 1001 + i) X rfl dJS_length_5 (Or.inl ⟨_, rfl, rfl, rfl⟩) ?_
  refine g_callV (M := I_JS_coder) (av := []) (b := 1001 + i) (t := [.int (nI ([105, 64].getD i 0))]) (d := d + 1) X o_JS_coder (by decide) jl_coder (q_coder d i hi σ) rfl rfl ⟨Nat.le_refl _, Nat.le_refl _⟩ dJS_length_6 (g_recvS X (by omega)) ?_
  refine g_ishr X (v := .int 0) (w := .int (nI ([105, 64].getD i 0))) rfl rfl dJS_length_9 ?_
  have h0 : shr (nI ([105, 64].getD i 0)) 0 = nI ([105, 64].getD i 0) := by
    have : ∀ i, i < 2 → shr (nI ([105, 64].getD i 0)) 0 = nI ([105, 64].getD i 0) := by decide +kernel
    exact this i hi
  rw [h0]
  exact hI 10 _ .int rfl rfl dJS_length_10
theorem q_cha (d i : Nat) (hi : i < 2) (k : Int32) (hk : ¬ (k < 0 ∨ (strT (1001 + i)).length ≤ k.toNatClampNeg)) (σ : Mem) : Ctr (d + 4) I_JS_charAt [.ref (1001 + i), .int k] σ ((strT (1001 + i)).getD k.toNatClampNeg 0, σ) := by
  obtain ⟨e1, e2⟩ := str_ok i hi
  have hlt : k.toNatClampNeg < (strT (1001 + i)).length := Nat.not_le.mp fun q => hk (Or.inr q)
  obtain ⟨e3, e4⟩ := e2 _ hlt
  refine ctr_hand (own := 15) o_JS_charAt rfl (by decide) (c1_of rfl) (Nat.le_of_ble_eq_true rfl) ?_
  intro p l e s m args below meth c D cA cQ ad A Q X hI hV
  refine g_aload (i := 0) (b := 1001 + i) X rfl dJS_charAt_0 (Or.inl ⟨_, rfl, rfl, rfl⟩) ?_
  refine g_callV (M := I_JS_isLatin1) (av := []) (b := 1001 + i) (t := []) (d := d + 3) X o_JS_isLatin1 (by decide) jl_lat (q_isLatin1 (d + 2) i hi σ) rfl rfl ⟨Nat.le_refl _, Nat.le_refl _⟩ dJS_charAt_1 (g_recvS X (by omega)) ?_
  refine g_if_eq (tg := 16) X (v := .int 1) rfl dJS_charAt_4 (by decide) (fun h => absurd h (by decide)) (fun _ => ?_)
  refine g_aload (i := 0) (b := 1001 + i) X rfl dJS_charAt_7 (Or.inl ⟨_, rfl, rfl, rfl⟩) ?_
  refine g_val hi X rfl dJS_charAt_8 ?_
  refine g_iload (i := 1) (v := .int k) X rfl rfl dJS_charAt_11 (Or.inl ⟨_, rfl, rfl, rfl⟩) ?_
  refine g_callS (M := I_JL_charAt) (av := [.ref (1003 + i), .int k]) (t := []) (d := d + 3) X o_JL_charAt rfl jl_lch (q_lch d i hi k hk σ) rfl rfl ⟨Nat.le_refl _, Nat.le_refl _⟩ dJS_charAt_12 ?_
  exact hI 15 _ .char rfl e4 dJS_charAt_15
theorem c_JS_length {av : List Value} {s : Mem} {z : Int32 × Mem} (h : A_JS_length av s = some z) (d : Nat) : Ctr (d + 4) I_JS_length av s z := by
  unfold A_JS_length at h
  split at h
  · unfold F_JS_length at h
    split at h
    · rename_i a0 hq
      subst hq
      cases h
      exact q_len (d + 2) 0 (by omega) s
    · split at h
      · rename_i hq
        subst hq
        cases h
        exact q_len (d + 2) 1 (by omega) s
      · cases h
  · cases h
theorem r_JS_length {av : List Value} {s : Mem} {z : Int32 × Mem} (h : A_JS_length av s = some z) : ∃ b rest, av = .ref b :: rest ∧ (b = 1001 ∨ b = 1002) := by
  unfold A_JS_length at h
  split at h
  · unfold F_JS_length at h
    split at h
    · rename_i a0 hq
      exact ⟨_, _, rfl, Or.inl hq⟩
    · split at h
      · rename_i hq
        exact ⟨_, _, rfl, Or.inr hq⟩
      · cases h
  · cases h
theorem strT_0 {b : Nat} {n : Nat} (h : ¬ (strT b).length ≤ n) : b = 1001 ∨ b = 1002 := by
  unfold strT at h
  split at h
  · exact Or.inl (by assumption)
  · split at h
    · exact Or.inr (by assumption)
    · exact absurd (Nat.zero_le _) h
theorem c_JS_charAt {av : List Value} {s : Mem} {z : Int32 × Mem} (h : A_JS_charAt av s = some z) (d : Nat) : Ctr (d + 4) I_JS_charAt av s z := by
  unfold A_JS_charAt at h
  split at h
  · unfold F_JS_charAt at h
    split at h
    · rename_i a0 a1 hq
      cases h
      rcases strT_0 (fun q => hq (Or.inr q)) with rfl | rfl
      · exact q_cha d 0 (by omega) _ hq s
      · exact q_cha d 1 (by omega) _ hq s
    · cases h
  · cases h
theorem r_JS_charAt {av : List Value} {s : Mem} {z : Int32 × Mem} (h : A_JS_charAt av s = some z) : ∃ b rest, av = .ref b :: rest ∧ (b = 1001 ∨ b = 1002) := by
  unfold A_JS_charAt at h
  split at h
  · unfold F_JS_charAt at h
    split at h
    · rename_i a0 a1 hq
      exact ⟨_, _, rfl, strT_0 (fun q => hq (Or.inr q))⟩
    · cases h
  · cases h
