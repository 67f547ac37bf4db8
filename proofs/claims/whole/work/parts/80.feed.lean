/-! ===== feed ===== -/
theorem n_any (x : Int32) : ∃ n, n < 4294967296 ∧ x = nI n := ⟨x.toBitVec.toNat, x.toBitVec.isLt, Int32.toBitVec_inj.mp (by show _ = BitVec.ofNat 32 _; simp)⟩
theorem byt_in (x : Int32) : inN 0 255 (x &&& 255) := by
  obtain ⟨n, hn, rfl⟩ := n_any x
  have := fa_mask n 8
  rw [show nI (2 ^ 8 - 1) = 255 from rfl] at this
  rw [this]
  exact ⟨n % 2 ^ 8, Nat.zero_le _, by omega, rfl⟩
theorem byt_eq {x : Int32} {k : Nat} (hk : k ≤ 24) : ush x (nI k) &&& 255 = shr x (nI k) &&& 255 := by
  apply b_ext
  intro i hi
  rw [b_and, b_and, b_255]
  by_cases h8 : i < 8
  · unfold ush shr
    rw [b_ushr k (by omega), b_sshr k (by omega) _ hi, if_pos (by omega)]
  · rw [decide_eq_false h8, Bool.and_false, Bool.and_false]
def byts (x : Int32) : List Int32 := [shr x 24 &&& 255, shr x 16 &&& 255, shr x 8 &&& 255, shr x 0 &&& 255]
def tp (f : Nat → Int32) : Nat → List Int32 → Nat → Int32
  | _, [] => f
  | t, b :: bs => tp (up f t b) (t + 1) bs
theorem tp_app (f : Nat → Int32) : ∀ (bs cs : List Int32) (t : Nat), tp f t (bs ++ cs) = tp (tp f t bs) (t + bs.length) cs
  | [], cs, t => rfl
  | b :: bs, cs, t => by
    simp only [List.cons_append, tp, List.length_cons]
    have := tp_app (up f t b) bs cs (t + 1)
    rw [this, show t + 1 + bs.length = t + (bs.length + 1) by omega]
theorem tp_eq {P : Int32 → Prop} : ∀ (bs : List Int32) (f g : Nat → Int32) (t : Nat), (∀ k, k < t → f k = g k ∧ P (g k)) → (∀ b ∈ bs, P b) → ∀ k, k < t + bs.length → tp f t bs k = tp g t bs k ∧ P (tp g t bs k)
  | [], f, g, t, h, _, k, hk => h k hk
  | b :: bs, f, g, t, h, hb, k, hk => by
    refine tp_eq bs (up f t b) (up g t b) (t + 1) (fun j hj => ?_) (fun c hc => hb c (List.mem_cons_of_mem _ hc)) k (by simp only [List.length_cons] at hk; omega)
    unfold up
    by_cases q : j = t
    · rw [if_pos q, if_pos q]; exact ⟨rfl, hb b List.mem_cons_self⟩
    · rw [if_neg q, if_neg q]; exact h j (by omega)
theorem pbS {n t k : Nat} {x : Int32} {s : Mem} (e : s 0 8 = nI t) (ht : t < 400) (hk : k ≤ 24) : F_C_putBytes_2 (n + 1) x (nI k) s = F_C_putBytes_2 n x (nI k - 8) (mw (rp s 75 (up (s 75) t (shr x (nI k) &&& 255))) 0 8 (nI (t + 1))) := by
  simp only [F_C_putBytes_2, if_neg (nI_pos (show k < 2 ^ 31 by omega)), e, if_neg (nI_pos (show t < 2 ^ 31 by omega)), if_neg (show ¬ (400 : Int32) ≤ nI t from nI_ge (b := 400) ht (by decide))]
  rw [sd_in (c := 75) rfl ht (by decide)]
  simp only [Option.bind_some]
  have e2 : (mw s 75 t (ush x (nI k) &&& 255)) 0 8 = nI t := e
  have e3 : nI k + (-8) = nI k - 8 := by
    apply Int32.toBitVec_inj.mp
    rw [Int32.toBitVec_add, Int32.toBitVec_sub, BitVec.sub_eq_add_neg]
    rfl
  rw [e2, nI_1, byt_eq hk, e3]
  rfl
theorem tyS {n t k : Nat} {x : Int32} {s : Mem} (e : s 123 11 = nI t) (ht : t < 400) (hk : k ≤ 24) : F_R_types_2 (n + 1) x (nI k) s = F_R_types_2 n x (nI k - 8) (mw (rp s 130 (up (s 130) t (shr x (nI k) &&& 255))) 123 11 (nI (t + 1))) := by
  simp only [F_R_types_2, if_neg (nI_pos (show k < 2 ^ 31 by omega)), e]
  rw [sd_in (c := 130) rfl ht (by decide)]
  simp only [Option.bind_some]
  have e2 : (mw s 130 t (shr x (nI k) &&& 255)) 123 11 = nI t := e
  have e3 : nI k + (-8) = nI k - 8 := by
    apply Int32.toBitVec_inj.mp
    rw [Int32.toBitVec_add, Int32.toBitVec_sub, BitVec.sub_eq_add_neg]
    rfl
  rw [e2, nI_1, e3]
  rfl
theorem mr_c (s : Mem) (f g : Nat → Int32) (a b : Int32) : mw (rp (mw (rp s 75 f) 0 8 a) 75 g) 0 8 b = mw (rp s 75 g) 0 8 b := by
  funext c k
  simp only [mw, rp]
  by_cases h0 : c = 0
  · subst h0
    simp only [if_true, show ¬ (0 : Nat) = 75 by decide, if_false]
    by_cases h8 : k = 8
    · simp only [if_pos h8]
    · simp only [if_neg h8]
  · simp only [if_neg h0]
    by_cases h75 : c = 75
    · simp only [if_pos h75]
    · simp only [if_neg h75]
theorem mr_m (s : Mem) (f g : Nat → Int32) (a b : Int32) : mw (rp (mw (rp s 130 f) 123 11 a) 130 g) 123 11 b = mw (rp s 130 g) 123 11 b := by
  funext c k
  simp only [mw, rp]
  by_cases h0 : c = 123
  · subst h0
    simp only [if_true, show ¬ (123 : Nat) = 130 by decide, if_false]
    by_cases h8 : k = 11
    · simp only [if_pos h8]
    · simp only [if_neg h8]
  · simp only [if_neg h0]
    by_cases h75 : c = 130
    · simp only [if_pos h75]
    · simp only [if_neg h75]
theorem C_put {t : Nat} {x : Int32} {s : Mem} (e : s 0 8 = nI t) (ht : t + 4 ≤ 400) : F_C_putBytes x s = some (0, mw (rp s 75 (tp (s 75) t (byts x))) 0 8 (nI (t + 4))) := by
  have hg : gF = 999995 + 1 + 1 + 1 + 1 + 1 := gF_eq
  unfold F_C_putBytes
  rw [hg, show (24 : Int32) = nI 24 from rfl, pbS e (by omega) (by decide)]
  rw [show nI 24 - 8 = nI 16 from rfl, pbS (t := t + 1) rfl (by omega) (by decide)]
  rw [show nI 16 - 8 = nI 8 from rfl, pbS (t := t + 1 + 1) rfl (by omega) (by decide)]
  rw [show nI 8 - 8 = nI 0 from rfl, pbS (t := t + 1 + 1 + 1) rfl (by omega) (by decide)]
  rw [F_C_putBytes_2, if_pos (show nI 0 - 8 < 0 by decide)]
  rw [mr_c, mr_c, mr_c]
  rfl
theorem R_types {t : Nat} {x : Int32} {s : Mem} (e : s 123 11 = nI t) (ht : t + 4 ≤ 400) : F_R_types x s = some (0, mw (rp s 130 (tp (s 130) t (byts x))) 123 11 (nI (t + 4))) := by
  have hg : gF = 999995 + 1 + 1 + 1 + 1 + 1 := gF_eq
  unfold F_R_types
  rw [hg, show (24 : Int32) = nI 24 from rfl, tyS e (by omega) (by decide)]
  rw [show nI 24 - 8 = nI 16 from rfl, tyS (t := t + 1) rfl (by omega) (by decide)]
  rw [show nI 16 - 8 = nI 8 from rfl, tyS (t := t + 1 + 1) rfl (by omega) (by decide)]
  rw [show nI 8 - 8 = nI 0 from rfl, tyS (t := t + 1 + 1 + 1) rfl (by omega) (by decide)]
  rw [F_R_types_2, if_pos (show nI 0 - 8 < 0 by decide)]
  rw [mr_m, mr_m, mr_m]
  rfl
theorem g_feed (a b c d e : Int32) : Good Inv (F_C_feed a b c d e) (F_R_feed a b c d e) := by
  intro s h
  obtain ⟨hRR, hKR, hUR, ⟨t, ht, e1, e2, e3⟩, hM2⟩ := id h
  have e1 : s 0 8 = nI t := e1
  have e2 : s 123 11 = nI t := e2
  have q1 : (nI t + 20 ≤ 400) ↔ t ≤ 380 := by
    rw [show (20 : Int32) = nI 20 from rfl, nI_add, show (400 : Int32) = nI 400 from rfl, nI_leI (by omega) (by decide)]
    omega
  have q2 : (nI t ≤ 380) ↔ t ≤ 380 := nI_leI (b := 380) (by omega) (by decide)
  by_cases hc : t ≤ 380
  · have l4 : ∀ x, (byts x).length = 4 := fun _ => rfl
    refine ⟨nI (t + 20), mw (rp s 75 (tp (s 75) t (byts a ++ byts b ++ byts c ++ byts d ++ byts e))) 0 8 (nI (t + 20)), mw (rp (mw (mw (rp s 75 (tp (s 75) t (byts a ++ byts b ++ byts c ++ byts d ++ byts e))) 0 8 (nI (t + 20))) 123 0 0) 130 (tp (s 130) t (byts a ++ byts b ++ byts c ++ byts d ++ byts e))) 123 11 (nI (t + 20)), ?_, ?_, ?_⟩
    · unfold F_C_feed
      rw [e1, if_pos (q1.mpr hc), C_put e1 (by omega)]
      simp only [Option.bind_some]
      rw [C_put (t := t + 4) rfl (by omega)]
      simp only [Option.bind_some]
      rw [C_put (t := t + 4 + 4) rfl (by omega)]
      simp only [Option.bind_some]
      rw [C_put (t := t + 4 + 4 + 4) rfl (by omega)]
      simp only [Option.bind_some]
      rw [C_put (t := t + 4 + 4 + 4 + 4) rfl (by omega)]
      simp only [Option.bind_some, mr_c]
      simp only [tp_app, l4]
      rfl
    · unfold F_R_feed
      have e2' : (mw (mw (rp s 75 (tp (s 75) t (byts a ++ byts b ++ byts c ++ byts d ++ byts e))) 0 8 (nI (t + 20))) 123 0 0) 123 11 = nI t := e2
      simp only [e2', if_pos (q2.mpr hc)]
      rw [R_types e2' (by omega)]
      simp only [Option.bind_some]
      rw [R_types (t := t + 4) rfl (by omega)]
      simp only [Option.bind_some]
      rw [R_types (t := t + 4 + 4) rfl (by omega)]
      simp only [Option.bind_some]
      rw [R_types (t := t + 4 + 4 + 4) rfl (by omega)]
      simp only [Option.bind_some]
      rw [R_types (t := t + 4 + 4 + 4 + 4) rfl (by omega)]
      simp only [Option.bind_some, mr_m]
      simp only [tp_app, l4]
      rfl
    · refine ⟨hRR, hKR, hUR, ⟨t + 20, by omega, rfl, rfl, fun k hk => ?_⟩, hM2⟩
      show tp (s 130) t (byts a ++ byts b ++ byts c ++ byts d ++ byts e) k = tp (s 75) t (byts a ++ byts b ++ byts c ++ byts d ++ byts e) k ∧ inN 0 255 (tp (s 75) t (byts a ++ byts b ++ byts c ++ byts d ++ byts e) k)
      refine tp_eq (P := inN 0 255) _ (s 130) (s 75) t (fun j hj => e3 j hj) (fun x hx => ?_) k (by simpa [l4] using hk)
      have hb : ∀ y x, x ∈ byts y → inN 0 255 x := by
        intro y x hx
        simp only [byts, List.mem_cons, List.not_mem_nil, or_false] at hx
        rcases hx with rfl | rfl | rfl | rfl <;> exact byt_in _
      simp only [List.mem_append] at hx
      rcases hx with (((hx | hx) | hx) | hx) | hx <;> exact hb _ _ hx
  · refine ⟨-1, s, mw s 123 0 0, ?_, ?_, Inv_t h⟩
    · unfold F_C_feed
      rw [e1, if_neg (fun q => hc (q1.mp q))]
    · unfold F_R_feed
      have e2' : (mw s 123 0 0) 123 11 = nI t := e2
      simp only [e2', if_neg (fun q => hc (q2.mp q))]
