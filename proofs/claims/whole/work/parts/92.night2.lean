theorem HS_e {a a' b b' : Mem} (h2 : a' 2 = a 2) (h3 : a' 3 = a 3) (h4 : a' 4 = a 4) (b1 : b' 123 = b 123) (b2 : b' 127 = b 127) (b3 : b' 128 = b 128) (h : HS a b) : HS a' b' := by
  have h0 : HS (fun c => if c = 2 then a 2 else if c = 3 then a 3 else if c = 4 then a 4 else fun _ => 0) (fun c => if c = 123 then b 123 else if c = 127 then b 127 else if c = 128 then b 128 else fun _ => 0) := h
  rw [← h2, ← h3, ← h4, ← b1, ← b2, ← b3] at h0
  exact h0
theorem HM_e {a a' b b' : Mem} (h2 : a' 2 = a 2) (h3 : a' 3 = a 3) (h4 : a' 4 = a 4) (hb : ∀ k, k ≠ 2 → b' 124 k = b 124 k) (h : HM a b) : HM a' b' := by
  obtain ⟨m1, m2, m3, m4, m5, m6, m7⟩ := h
  refine ⟨fun k hk => ?_, fun t j ht hj hn => ?_, fun j hj => ?_, ?_, ?_, ?_, ?_⟩
  · rw [hb _ (by omega), h3]; exact m1 k hk
  · rw [h3]
    refine m2 t j ht hj (fun q => hn ?_)
    unfold isS nF sz
    rw [h2, h4]
    exact q
  · rw [h3]; exact m3 j hj
  · rw [hb 4 (by decide), h2]; exact m4
  · rw [hb 3 (by decide), h2]; exact m5
  · rw [hb 0 (by decide), h2]; exact m6
  · rw [hb 1 (by decide), h2]; exact m7
/-- the same house, the same rows, another book -/
theorem sn_e {h th : Nat} {a a' b b' : Mem} (S : SN h th a b) (e0 : a' h = a h) (e1 : a' (h + 1) = a (h + 1)) (e2 : a' (h + 2) = a (h + 2)) (el : ∀ c, 7 ≤ c → c ≤ 12 → a' c = a c) (b1 : b' 123 = b 123) (b2 : b' 127 = b 127) (b3 : b' 128 = b 128) (b4 : ∀ k, k ≠ 2 → b' 124 k = b 124 k) (b5 : ∀ c, 132 ≤ c → c ≤ 138 → b' c = b c) (hB : th = 0 → BR a' b') : SN h th a' b' := by
  obtain ⟨s1, s2, s3, s4, s5, s6, s7⟩ := S
  have v2 : hv h a' 2 = hv h a 2 := e0
  have v3 : hv h a' 3 = hv h a 3 := e1
  have v4 : hv h a' 4 = hv h a 4 := e2
  exact ⟨HS_e v2 v3 v4 b1 b2 b3 s1, HM_e v2 v3 v4 b4 s2, LwR_c el b5 s3, hB, by rw [b1]; exact s5, by rw [b1]; exact s6, s7⟩
/-- a line of the book, whatever the house -/
theorem note_eq {h th : Nat} {a b : Mem} (hh : okH h) (hth : th ≤ 1) (hB : th = 0 → BR a b) (hn : b 124 0 = a h 5) (h5 : b 123 5 = nI th) {f i : Nat} (hf : f < 6) (hi : i < 16) (what much : Int32) : ∃ a' b', F_G_note h (nI th) what (nI f) (nI i) much a = some (0, a') ∧ F_R_notes what (nI (16 * f + i)) much b = some (0, b') ∧ (th = 0 → BR a' b') ∧ (∀ c, c ≠ 5 → c ≠ 6 → a' c = a c) ∧ (∀ c, c ≠ 124 → c ≠ 129 → b' c = b c) ∧ (∀ k, k ≠ 2 → b' 124 k = b 124 k) ∧ (th = 1 → a' = a ∧ b' = b) := by
  obtain ⟨k1, -⟩ := okH_f hh
  rcases (show th = 0 ∨ th = 1 by omega) with rfl | rfl
  · obtain ⟨⟨n, n1, n2, n3⟩, n4⟩ := hB rfl
    have l2 : ld b 124 2 = some (nI n) := (ld_in (k := 2) rfl (by decide) (by decide)).trans (congrArg some n3)
    by_cases c : n < 150
    · have hin : 0 ≤ nI n ∧ nI n ≤ 149 := ⟨nI_pos' (by omega), nI_le (b := 149) (by omega) (by decide)⟩
      have l0 : ld b 124 0 = some (a h 5) := (ld_in (k := 0) rfl (by decide) (by decide)).trans (congrArg some hn)
      have i0 : nI n * 4 = nI (4 * n) := by rw [show (4 : Int32) = nI 4 from rfl, n_mul, Nat.mul_comm]
      have j0 : (4 : Int32) * nI n = nI (4 * n) := by rw [show (4 : Int32) = nI 4 from rfl, n_mul]
      have e1 : nI (4 * n) + 1 = nI (4 * n + 1) := nI_1 _
      have e2 : nI (4 * n) + 2 = nI (4 * n + 2) := nI_add _ 2
      have e3 : nI (4 * n) + 3 = nI (4 * n + 3) := nI_add _ 3
      have pl : (100 : Int32) * (nI (16 * f + i) / 16) + irm (nI (16 * f + i)) 16 = 100 * nI f + nI i := by
        rw [n_divL (b := 16) (y := 16) (by omega) (by decide) (by decide) rfl, n_irmL (b := 16) (y := 16) (by omega) (by decide) (by decide) rfl, show (16 * f + i) / 16 = f by omega, show (16 * f + i) % 16 = i by omega]
      have w6 : ∀ (t : Mem) (k : Nat) (v : Int32), k < 600 → sd t 6 (nI k) v = some (mw t 6 k v) := fun t k v hk => sd_in rfl hk (by decide)
      have w9 : ∀ (t : Mem) (k : Nat) (v : Int32), k < 600 → sd t 129 (nI k) v = some (mw t 129 k v) := fun t k v hk => sd_in rfl hk (by decide)
      obtain ⟨A, hA⟩ : ∃ A : Mem, A = mw (mw (mw (mw a 6 (4 * n) (a h 5)) 6 (4 * n + 1) what) 6 (4 * n + 2) (100 * nI f + nI i)) 6 (4 * n + 3) much := ⟨_, rfl⟩
      obtain ⟨B, hBB⟩ : ∃ B : Mem, B = mw (mw (mw (mw b 129 (4 * n) (a h 5)) 129 (4 * n + 1) what) 129 (4 * n + 2) (100 * nI f + nI i)) 129 (4 * n + 3) much := ⟨_, rfl⟩
      have Ao : ∀ c, c ≠ 6 → A c = a c := fun c hc => by rw [hA, mw_o hc, mw_o hc, mw_o hc, mw_o hc]
      have Bo : ∀ c, c ≠ 129 → B c = b c := fun c hc => by rw [hBB, mw_o hc, mw_o hc, mw_o hc, mw_o hc]
      have AB : ∀ k, k < 600 → B 129 k = A 6 k := by
        intro k hk
        rw [hA, hBB]
        simp only [mw, if_true]
        by_cases q3 : k = 4 * n + 3
        · simp only [if_pos q3]
        · by_cases q2 : k = 4 * n + 2
          · simp only [if_neg q3, if_pos q2]
          · by_cases q1 : k = 4 * n + 1
            · simp only [if_neg q3, if_neg q2, if_pos q1]
            · by_cases q0 : k = 4 * n
              · simp only [if_neg q3, if_neg q2, if_neg q1, if_pos q0]
              · simp only [if_neg q3, if_neg q2, if_neg q1, if_neg q0]
                exact n4 k hk
      refine ⟨mw A 5 1 (nI (n + 1)), mw B 124 2 (nI (n + 1)), ?_, ?_, fun _ => ⟨⟨n + 1, c, rfl, rfl⟩, fun k hk => ?_⟩, fun d d1 d2 => ?_, fun d d1 d2 => ?_, fun k hk => ?_, fun q => absurd q (by decide)⟩
      · have z5 : A 5 1 = nI n := by rw [Ao 5 (by decide)]; exact n2
        simp only [F_G_note, show nI 0 = 0 from rfl, if_true, k1, show Nat.beq 4 4 = true from rfl, cond_true, F_B_write, n2, C_within, Option.bind_some, b01, hin, and_self, not_true_eq_false, if_false, one0, i0, e1, e2, e3]
        rw [w6 _ _ _ (by omega)]
        simp only [Option.bind_some]
        rw [w6 _ _ _ (by omega)]
        simp only [Option.bind_some]
        rw [w6 _ _ _ (by omega)]
        simp only [Option.bind_some]
        rw [w6 _ _ _ (by omega)]
        simp only [Option.bind_some]
        rw [← hA, z5, nI_1]
      · have z5 : ld B 124 2 = some (nI n) := (ld_in (k := 2) rfl (by decide) (by decide)).trans (by rw [Bo 124 (by decide)]; exact congrArg some n3)
        have z6 : sd B 124 2 (nI (n + 1)) = some (mw B 124 2 (nI (n + 1))) := sd_in (k := 2) rfl (by decide) (by decide)
        have n150 : ¬ nI n = 150 := fun q => absurd ((nI_eq (b := 150) (by omega) (by decide)).mp q) (by omega)
        simp only [F_R_notes, h5, show nI 0 = 0 from rfl, if_true, l2, Option.bind_some, if_neg n150, l0, j0, e1, e2, e3, pl]
        rw [w9 _ _ _ (by omega)]
        simp only [Option.bind_some]
        rw [w9 _ _ _ (by omega)]
        simp only [Option.bind_some]
        rw [w9 _ _ _ (by omega)]
        simp only [Option.bind_some]
        rw [w9 _ _ _ (by omega)]
        simp only [Option.bind_some]
        rw [← hBB, z5]
        simp only [Option.bind_some, nI_1, z6]
      · rw [mw_o (by decide), mw_o (by decide)]; exact AB k hk
      · rw [mw_o d1, Ao d d2]
      · rw [mw_o d1, Bo d d2]
      · rw [mw_n hk, Bo 124 (by decide)]
    · have hn : n = 150 := by omega
      subst hn
      refine ⟨a, b, ?_, ?_, fun _ => ⟨⟨150, n1, n2, n3⟩, n4⟩, fun _ _ _ => rfl, fun _ _ _ => rfl, fun _ _ => rfl, fun _ => ⟨rfl, rfl⟩⟩
      · simp only [F_G_note, show nI 0 = 0 from rfl, if_true, k1, show Nat.beq 4 4 = true from rfl, cond_true, F_B_write, n2, C_within, Option.bind_some, b01, show ¬ (0 ≤ nI 150 ∧ nI 150 ≤ 149) from by decide, not_false_eq_true]
      · simp only [F_R_notes, h5, show nI 0 = 0 from rfl, if_true, l2, Option.bind_some, show (nI 150 = 150) = True from by decide]
  · refine ⟨a, b, ?_, ?_, fun q => absurd q (by decide), fun _ _ _ => rfl, fun _ _ _ => rfl, fun _ _ => rfl, fun _ => ⟨rfl, rfl⟩⟩
    · simp only [F_G_note, show (nI 1 = 0) = False from by decide, if_false]
    · simp only [F_R_notes, h5, show (nI 1 = 0) = False from by decide, if_false]
/-- a step is asked -/
theorem sn_ask {h th : Nat} {a b : Mem} (hh : okH h) (S : SN h th a b) {word w st : Int32} (hw : word = 0 ∨ word = 1 ∨ word = 2) {f i : Nat} (hfi : isS (hv h a) f i) : ∃ (r : Nat) (a' b' : Mem), r ≤ 1000 ∧ (word = 1 → r ≤ 99) ∧ (word = 2 → r ≤ 9) ∧ F_L_ask word h (nI f) (nI i) w st a = some (nI r, a') ∧ (F_R_asks (nI (16 * f + i)) w st b).bind (fun z => F_R_lawTells word (unW word (z.2 143)) (mostW word) z.2) = some (nI r, b') ∧ SN h th a' b' ∧ FN h th a a' b b' ∧ a' h = a h ∧ a' (h + 1) = a (h + 1) ∧ b' 124 = b 124 := by
  obtain ⟨s1, s2, s3, s4, s5, s6, s7⟩ := id S
  obtain ⟨hz, -, -⟩ := HS_c s1
  obtain ⟨f6, i16, fi⟩ := nF_16 hz hfi.1 hfi.2
  obtain ⟨k1, k2, k3, k4, k5, k6, k7, k8, k9⟩ := okH_f hh
  have hm : menA a b h (h + 1) f i := by
    refine ⟨fun u hu => ?_, ?_, s2.2.2.2.2.2.1⟩
    · have := s2.1 (96 * u + (16 * f + i)) (by omega)
      have this : b 124 (5 + (96 * u + (16 * f + i))) = a (h + 1) (96 + (96 * u + (16 * f + i))) := this
      rw [show 5 + 96 * u + (16 * f + i) = 5 + (96 * u + (16 * f + i)) by omega, this]
      congr 1
      omega
    · obtain ⟨q, -, -, h1, h2⟩ := s1.2.2.2.2 f i hfi
      have h1 : a (h + 1) (16 * f + i) = nI q := h1
      rw [h1, h2]
  have hlo : (if b 124 (101 + (16 * f + i)) + b 123 41 ≤ 9 then b 124 (101 + (16 * f + i)) + b 123 41 else 9) = a (h + 1) (96 * 2 + 16 * f + i) := by
    obtain ⟨⟨v, v1, v2⟩, -⟩ := s2.2.2.1 (16 * f + i) fi
    have v2 : a (h + 1) (192 + (16 * f + i)) = nI v := v2
    have v3 := s2.1 (96 + (16 * f + i)) (by omega)
    have v3 : b 124 (5 + (96 + (16 * f + i))) = a (h + 1) (96 + (96 + (16 * f + i))) := v3
    rw [s5, show 101 + (16 * f + i) = 5 + (96 + (16 * f + i)) by omega, v3, show 96 + (96 + (16 * f + i)) = 192 + (16 * f + i) by omega, show 96 * 2 + 16 * f + i = 192 + (16 * f + i) by omega, v2, show (0 : Int32) = nI 0 from rfl, nI_add, Nat.add_zero, if_pos (show nI v ≤ 9 from nI_le (b := 9) v1 (by decide))]
  obtain ⟨r, ga, gb, r1, r2, r3, e1, e2⟩ := ask_pair (w := w) (st := st) hw k1 k2 k4 k5 k8 k9 f6 i16 s3 hm hlo
  have n13 : h ≠ 13 ∧ h ≠ 14 ∧ h + 1 ≠ 13 ∧ h + 1 ≠ 14 ∧ h + 2 ≠ 13 ∧ h + 2 ≠ 14 := by rcases hh with rfl | rfl <;> decide
  have ao : ∀ c, c ≠ 13 → c ≠ 14 → (rp (rp a 13 (FC a h (h + 1) f i w st)) 14 ga) c = a c := fun c c1 c2 => by rw [rp_o c2, rp_o c1]
  have bo : ∀ c, c ≠ 143 → c ≠ 144 → (rp (rp b 143 (FM b (16 * f + i) (a (h + 1) (96 * 2 + 16 * f + i)) w st)) 144 gb) c = b c := fun c c1 c2 => by rw [rp_o c2, rp_o c1]
  refine ⟨r, _, _, r1, r2, r3, e1, e2, ?_, ⟨fun c c1 c2 c3 c4 c5 c6 => ao c c5 c6, ?_, fun k hk => ?_, fun _ => ⟨ao 5 (by decide) (by decide), ao 6 (by decide) (by decide)⟩, fun c c1 c2 c3 c4 => bo c c3 c4, fun _ => bo 129 (by decide) (by decide)⟩, ao h n13.1 n13.2.1, ao _ n13.2.2.1 n13.2.2.2.1, bo 124 (by decide) (by decide)⟩
  · refine sn_e S (ao h n13.1 n13.2.1) (ao _ n13.2.2.1 n13.2.2.2.1) (ao _ n13.2.2.2.2.1 n13.2.2.2.2.2) (fun c c1 c2 => ao c (by omega) (by omega)) (bo 123 (by decide) (by decide)) (bo 127 (by decide) (by decide)) (bo 128 (by decide) (by decide)) (fun k _ => by rw [bo 124 (by decide) (by decide)]) (fun c c1 c2 => bo c (by omega) (by omega)) (fun h0 => ?_)
    obtain ⟨⟨n, n1, n2, n3⟩, n4⟩ := s4 h0
    exact ⟨⟨n, n1, by rw [ao 5 (by decide) (by decide)]; exact n2, by rw [bo 124 (by decide) (by decide)]; exact n3⟩, fun k hk => by rw [ao 6 (by decide) (by decide), bo 129 (by decide) (by decide)]; exact n4 k hk⟩
  · rw [ao h n13.1 n13.2.1]
  · rw [ao _ n13.2.2.1 n13.2.2.2.1]
theorem sn_isS {h th : Nat} {a a' b b' : Mem} (hh : okH h) (F : FN h th a a' b b') {f i : Nat} : isS (hv h a') f i ↔ isS (hv h a) f i := by
  have e2 : hv h a' 2 2 = hv h a 2 2 := F.2.1
  have e4 : hv h a' 4 = hv h a 4 := F.1 (h + 2) (by omega) (by omega) (by rcases hh with rfl | rfl <;> decide) (by rcases hh with rfl | rfl <;> decide) (by rcases hh with rfl | rfl <;> decide) (by rcases hh with rfl | rfl <;> decide)
  unfold isS nF sz
  rw [e2, e4]
