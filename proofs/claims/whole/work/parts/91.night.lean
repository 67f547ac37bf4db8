/-! ===== nights: a house h of the class (2, or the one for thought, 91) beside the reference's rows ===== -/
def hv (h : Nat) (a : Mem) : Mem := fun c => if c = 2 then a h else if c = 3 then a (h + 1) else if c = 4 then a (h + 2) else if c < 37 then a c else fun _ => 0
def okH (h : Nat) : Prop := h = 2 ∨ h = 91
theorem okH_f {h : Nat} (hh : okH h) : kd h = 4 ∧ rf h 0 = h + 1 ∧ rf h 1 = h + 2 ∧ kd (h + 1) = 1 ∧ ln (h + 1) = 864 ∧ kd (h + 2) = 1 ∧ ln (h + 2) = 6 ∧ h + 1 ≠ 13 ∧ h ≠ 13 := by
  rcases hh with rfl | rfl <;> decide
def SN (h th : Nat) (a b : Mem) : Prop := HS (hv h a) b ∧ HM (hv h a) b ∧ LwR a b ∧ (th = 0 → BR a b) ∧ b 123 41 = 0 ∧ b 123 5 = nI th ∧ th ≤ 1
/-- what a night leaves -/
def FN (h th : Nat) (a a' b b' : Mem) : Prop := (∀ c, c ≠ h → c ≠ h + 1 → c ≠ 5 → c ≠ 6 → c ≠ 13 → c ≠ 14 → a' c = a c) ∧ a' h 2 = a h 2 ∧ (∀ k, k < 96 → a' (h + 1) k = a (h + 1) k) ∧ (th = 1 → a' 5 = a 5 ∧ a' 6 = a 6) ∧ (∀ c, c ≠ 124 → c ≠ 129 → c ≠ 143 → c ≠ 144 → b' c = b c) ∧ (th = 1 → b' 129 = b 129)
theorem FN_rf {h th : Nat} {a b : Mem} : FN h th a a b b := ⟨fun _ _ _ _ _ _ _ => rfl, rfl, fun _ _ => rfl, fun _ => ⟨rfl, rfl⟩, fun _ _ _ _ _ => rfl, fun _ => rfl⟩
theorem FN_tr {h th : Nat} {a a1 a2 b b1 b2 : Mem} (x : FN h th a a1 b b1) (y : FN h th a1 a2 b1 b2) : FN h th a a2 b b2 :=
  ⟨fun c c1 c2 c3 c4 c5 c6 => (y.1 c c1 c2 c3 c4 c5 c6).trans (x.1 c c1 c2 c3 c4 c5 c6), y.2.1.trans x.2.1, fun k hk => (y.2.2.1 k hk).trans (x.2.2.1 k hk), fun ht => ⟨(y.2.2.2.1 ht).1.trans (x.2.2.2.1 ht).1, (y.2.2.2.1 ht).2.trans (x.2.2.2.1 ht).2⟩, fun c c1 c2 c3 c4 => (y.2.2.2.2.1 c c1 c2 c3 c4).trans (x.2.2.2.2.1 c c1 c2 c3 c4), fun ht => (y.2.2.2.2.2 ht).trans (x.2.2.2.2.2 ht)⟩
theorem hv_men {h : Nat} (hh : okH h) (a : Mem) (k : Nat) (v : Int32) : hv h (mw a (h + 1) k v) = mw (hv h a) 3 k v := by
  rcases hh with rfl | rfl
  · funext c j
    unfold hv mw
    by_cases c2 : c = 2
    · simp [c2]
    · by_cases c3 : c = 3
      · simp [c3]
      · by_cases c4 : c = 4
        · simp [c4]
        · by_cases c5 : c < 37 <;> simp [c2, c3, c4, c5]
  · funext c j
    unfold hv mw
    by_cases c2 : c = 2
    · simp [c2]
    · by_cases c3 : c = 3
      · simp [c3]
      · by_cases c4 : c = 4
        · simp [c4]
        · by_cases c5 : c < 37
          · have : ¬ c = 92 := by omega
            simp [c2, c3, c4, c5, this]
          · simp [c2, c3, c4, c5]
theorem hv_obj {h : Nat} (hh : okH h) (a : Mem) (k : Nat) (v : Int32) : hv h (mw a h k v) = mw (hv h a) 2 k v := by
  rcases hh with rfl | rfl
  · funext c j
    unfold hv mw
    by_cases c2 : c = 2
    · simp [c2]
    · by_cases c3 : c = 3
      · simp [c3]
      · by_cases c4 : c = 4
        · simp [c4]
        · by_cases c5 : c < 37 <;> simp [c2, c3, c4, c5]
  · funext c j
    unfold hv mw
    by_cases c2 : c = 2
    · simp [c2]
    · by_cases c3 : c = 3
      · simp [c3]
      · by_cases c4 : c = 4
        · simp [c4]
        · by_cases c5 : c < 37
          · have : ¬ c = 91 := by omega
            simp [c2, c3, c4, c5, this]
          · simp [c2, c3, c4, c5]
theorem HSM_tw {a b : Mem} (hHS : HS a b) (hHM : HM a b) {t f i : Nat} {v : Int32} (ht : t < 8) (hfi : isS a f i) (hv : t = 1 ∨ t = 2 → ∃ q, q ≤ 9 ∧ v = nI q) : HS (mw a 3 (96 + 96 * t + (16 * f + i)) v) (mw b 124 (5 + 96 * t + (16 * f + i)) v) ∧ HM (mw a 3 (96 + 96 * t + (16 * f + i)) v) (mw b 124 (5 + 96 * t + (16 * f + i)) v) := by
  obtain ⟨hf, hi⟩ := hfi
  obtain ⟨hz, -, -⟩ := HS_c hHS
  obtain ⟨f6, i16, fi⟩ := nF_16 hz hf hi
  refine ⟨⟨hHS.1, hHS.2.1, hHS.2.2.1, hHS.2.2.2.1, fun g j hj => ?_⟩, ⟨fun k hk => ?_, fun t' j ht' hj hn => ?_, fun j hj => ?_, ?_, ?_, ?_, ?_⟩⟩
  · have hj : g < nF a ∧ j < sz a g := hj
    obtain ⟨g6, j16, gj⟩ := nF_16 hz hj.1 hj.2
    rw [mw_n (by omega)]
    exact hHS.2.2.2.2 g j hj
  · by_cases q : 96 + k = 96 + 96 * t + (16 * f + i)
    · rw [q, show 5 + k = 5 + 96 * t + (16 * f + i) by omega, mw_y, mw_y]
    · rw [mw_n q, mw_n (by omega)]
      exact hHM.1 k hk
  · rw [mw_n]
    · exact hHM.2.1 t' j ht' hj hn
    · intro q
      have hjj : j = 16 * f + i := by omega
      apply hn
      show j / 16 < nF a ∧ j % 16 < sz a (j / 16)
      rw [hjj, show (16 * f + i) / 16 = f by omega, show (16 * f + i) % 16 = i by omega]
      exact ⟨hf, hi⟩
  · have := hHM.2.2.1 j hj
    refine ⟨?_, ?_⟩
    · by_cases q : 192 + j = 96 + 96 * t + (16 * f + i)
      · rw [q, mw_y]; exact hv (by omega)
      · rw [mw_n q]; exact this.1
    · by_cases q : 288 + j = 96 + 96 * t + (16 * f + i)
      · rw [q, mw_y]; exact hv (by omega)
      · rw [mw_n q]; exact this.2
  · exact Eq.trans (mw_n (by omega)) hHM.2.2.2.1
  · exact Eq.trans (mw_n (by omega)) hHM.2.2.2.2.1
  · exact Eq.trans (mw_n (by omega)) hHM.2.2.2.2.2.1
  · exact Eq.trans (mw_n (by omega)) hHM.2.2.2.2.2.2
/-- a trait is set -/
theorem sn_tw {h th : Nat} {a b : Mem} (hh : okH h) (S : SN h th a b) {t f i : Nat} {v : Int32} (ht : t < 8) (hfi : isS (hv h a) f i) (hv' : t = 1 ∨ t = 2 → ∃ q, q ≤ 9 ∧ v = nI q) : SN h th (mw a (h + 1) (96 + 96 * t + (16 * f + i)) v) (mw b 124 (5 + 96 * t + (16 * f + i)) v) ∧ FN h th a (mw a (h + 1) (96 + 96 * t + (16 * f + i)) v) b (mw b 124 (5 + 96 * t + (16 * f + i)) v) := by
  obtain ⟨s1, s2, s3, s4, s5, s6, s7⟩ := S
  obtain ⟨u1, u2⟩ := HSM_tw s1 s2 (v := v) ht hfi hv'
  refine ⟨⟨by rw [hv_men hh]; exact u1, by rw [hv_men hh]; exact u2, ?_, fun h0 => ?_, s5, s6, s7⟩, ⟨fun c c1 c2 _ _ _ _ => mw_o c2, by rw [mw_o (by omega)], fun k hk => mw_n (by omega), fun _ => ?_, fun c c1 _ _ _ => mw_o c1, fun _ => mw_o (by decide)⟩⟩
  · refine LwR_c (fun c c1 c2 => mw_o ?_) (fun c c1 c2 => mw_o (by omega)) s3
    rcases hh with rfl | rfl <;> omega
  · obtain ⟨⟨n, n1, n2, n3⟩, n4⟩ := s4 h0
    have e5 : (mw a (h + 1) (96 + 96 * t + (16 * f + i)) v) 5 = a 5 := mw_o (by rcases hh with rfl | rfl <;> decide)
    have e6 : (mw a (h + 1) (96 + 96 * t + (16 * f + i)) v) 6 = a 6 := mw_o (by rcases hh with rfl | rfl <;> decide)
    refine ⟨⟨n, n1, by rw [e5]; exact n2, by rw [mw_n (by omega)]; exact n3⟩, fun k hk => ?_⟩
    rw [e6, mw_o (by decide)]
    exact n4 k hk
  · exact ⟨mw_o (by rcases hh with rfl | rfl <;> decide), mw_o (by rcases hh with rfl | rfl <;> decide)⟩
/-- salutes (3, 4), creaks (4, 3), night (5, 0), draws (6, 1) -/
theorem sn_sc {h th : Nat} {a b : Mem} (hh : okH h) (S : SN h th a b) {k k' : Nat} {v : Int32} (hk : (k = 3 ∧ k' = 4) ∨ (k = 4 ∧ k' = 3) ∨ (k = 5 ∧ k' = 0) ∨ (k = 6 ∧ k' = 1)) : SN h th (mw a h k v) (mw b 124 k' v) ∧ FN h th a (mw a h k v) b (mw b 124 k' v) := by
  obtain ⟨s1, s2, s3, s4, s5, s6, s7⟩ := S
  have F : FN h th a (mw a h k v) b (mw b 124 k' v) := ⟨fun c c1 _ _ _ _ _ => mw_o c1, mw_n (by omega), fun j hj => by rw [mw_o (by omega)], fun _ => ⟨mw_o (by rcases hh with rfl | rfl <;> decide), mw_o (by rcases hh with rfl | rfl <;> decide)⟩, fun c c1 _ _ _ => mw_o c1, fun _ => mw_o (by decide)⟩
  refine ⟨⟨?_, ?_, ?_, fun h0 => ?_, s5, s6, s7⟩, F⟩
  · rw [hv_obj hh]
    have e2 : mw (hv h a) 2 k v 2 2 = hv h a 2 2 := mw_n (by omega)
    have n1 : nF (mw (hv h a) 2 k v) = nF (hv h a) := by unfold nF; rw [e2]
    refine ⟨by rw [n1]; exact s1.1, by rw [n1, e2]; exact s1.2.1, by rw [n1]; exact s1.2.2.1, fun f hf => by rw [n1] at hf; exact s1.2.2.2.1 f hf, fun f i hfi => s1.2.2.2.2 f i ⟨by rw [← n1]; exact hfi.1, hfi.2⟩⟩
  · rw [hv_obj hh]
    obtain ⟨m1, m2, m3, m4, m5, m6, m7⟩ := s2
    have e2 : mw (hv h a) 2 k v 2 2 = hv h a 2 2 := mw_n (by omega)
    have n1 : nF (mw (hv h a) 2 k v) = nF (hv h a) := by unfold nF; rw [e2]
    refine ⟨fun j hj => by rw [mw_n (by omega)]; exact m1 j hj, fun t j ht hj hn => m2 t j ht hj (fun q => hn ⟨by rw [n1]; exact q.1, q.2⟩), m3, ?_, ?_, ?_, ?_⟩
    · rcases hk with ⟨rfl, rfl⟩ | ⟨rfl, rfl⟩ | ⟨rfl, rfl⟩ | ⟨rfl, rfl⟩
      · rw [mw_y, mw_y]
      · rw [mw_n (by decide), mw_n (by decide)]; exact m4
      · rw [mw_n (by decide), mw_n (by decide)]; exact m4
      · rw [mw_n (by decide), mw_n (by decide)]; exact m4
    · rcases hk with ⟨rfl, rfl⟩ | ⟨rfl, rfl⟩ | ⟨rfl, rfl⟩ | ⟨rfl, rfl⟩
      · rw [mw_n (by decide), mw_n (by decide)]; exact m5
      · rw [mw_y, mw_y]
      · rw [mw_n (by decide), mw_n (by decide)]; exact m5
      · rw [mw_n (by decide), mw_n (by decide)]; exact m5
    · rcases hk with ⟨rfl, rfl⟩ | ⟨rfl, rfl⟩ | ⟨rfl, rfl⟩ | ⟨rfl, rfl⟩
      · rw [mw_n (by decide), mw_n (by decide)]; exact m6
      · rw [mw_n (by decide), mw_n (by decide)]; exact m6
      · rw [mw_y, mw_y]
      · rw [mw_n (by decide), mw_n (by decide)]; exact m6
    · rcases hk with ⟨rfl, rfl⟩ | ⟨rfl, rfl⟩ | ⟨rfl, rfl⟩ | ⟨rfl, rfl⟩
      · rw [mw_n (by decide), mw_n (by decide)]; exact m7
      · rw [mw_n (by decide), mw_n (by decide)]; exact m7
      · rw [mw_n (by decide), mw_n (by decide)]; exact m7
      · rw [mw_y, mw_y]
  · refine LwR_c (fun c c1 c2 => mw_o ?_) (fun c c1 c2 => mw_o (by omega)) s3
    rcases hh with rfl | rfl <;> omega
  · obtain ⟨⟨n, n1, n2, n3⟩, n4⟩ := s4 h0
    have e5 : (mw a h k v) 5 = a 5 := mw_o (by rcases hh with rfl | rfl <;> decide)
    have e6 : (mw a h k v) 6 = a 6 := mw_o (by rcases hh with rfl | rfl <;> decide)
    refine ⟨⟨n, n1, by rw [e5]; exact n2, by rw [mw_n (by omega)]; exact n3⟩, fun j hj => ?_⟩
    rw [e6, mw_o (by decide)]
    exact n4 j hj
/-- a line of the book -/
theorem sn_note {h th : Nat} {a b : Mem} (hh : okH h) (S : SN h th a b) {f i : Nat} (hf : f < 6) (hi : i < 16) (what much : Int32) : ∃ a' b', F_G_note h (nI th) what (nI f) (nI i) much a = some (0, a') ∧ F_R_notes what (nI (16 * f + i)) much b = some (0, b') ∧ SN h th a' b' ∧ FN h th a a' b b' ∧ a' h = a h ∧ a' (h + 1) = a (h + 1) ∧ ∀ k, k ≠ 2 → b' 124 k = b 124 k := by
  obtain ⟨s1, s2, s3, s4, s5, s6, s7⟩ := id S
  obtain ⟨k1, -⟩ := okH_f hh
  rcases (show th = 0 ∨ th = 1 by omega) with rfl | rfl
  · obtain ⟨⟨n, n1, n2, n3⟩, n4⟩ := s4 rfl
    have l2 : ld b 124 2 = some (nI n) := (ld_in (k := 2) rfl (by decide) (by decide)).trans (congrArg some n3)
    by_cases c : n < 150
    · have hin : 0 ≤ nI n ∧ nI n ≤ 149 := ⟨nI_pos' (by omega), nI_le (b := 149) (by omega) (by decide)⟩
      have l0 : ld b 124 0 = some (a h 5) := (ld_in (k := 0) rfl (by decide) (by decide)).trans (congrArg some s2.2.2.2.2.2.1)
      have i0 : nI n * 4 = nI (4 * n) := by rw [show (4 : Int32) = nI 4 from rfl, n_mul, Nat.mul_comm]
      have j0 : (4 : Int32) * nI n = nI (4 * n) := by rw [show (4 : Int32) = nI 4 from rfl, n_mul]
      have e1 : nI (4 * n) + 1 = nI (4 * n + 1) := nI_1 _
      have e2 : nI (4 * n) + 2 = nI (4 * n + 2) := nI_add _ 2
      have e3 : nI (4 * n) + 3 = nI (4 * n + 3) := nI_add _ 3
      have pl : (100 : Int32) * (nI (16 * f + i) / 16) + irm (nI (16 * f + i)) 16 = 100 * nI f + nI i := by
        rw [n_divL (b := 16) (y := 16) (by omega) (by decide) (by decide) rfl, n_irmL (b := 16) (y := 16) (by omega) (by decide) (by decide) rfl, show (16 * f + i) / 16 = f by omega, show (16 * f + i) % 16 = i by omega]
      have w6 : ∀ (t : Mem) (k : Nat) (v : Int32), k < 600 → sd t 6 (nI k) v = some (mw t 6 k v) := fun t k v hk => sd_in rfl hk (by decide)
      have w9 : ∀ (t : Mem) (k : Nat) (v : Int32), k < 600 → sd t 129 (nI k) v = some (mw t 129 k v) := fun t k v hk => sd_in rfl hk (by decide)
      obtain ⟨A, hA⟩ : ∃ A : Mem, A = mw (mw (mw (mw a 6 (4 * n) (a h 5)) 6 (4 * n + 1) what) 6 (4 * n + 2) (100 * nI f + nI i)) 6 (4 * n + 3) much := ⟨_, rfl⟩
      obtain ⟨B, hB⟩ : ∃ B : Mem, B = mw (mw (mw (mw b 129 (4 * n) (a h 5)) 129 (4 * n + 1) what) 129 (4 * n + 2) (100 * nI f + nI i)) 129 (4 * n + 3) much := ⟨_, rfl⟩
      have Ao : ∀ c, c ≠ 6 → A c = a c := fun c hc => by rw [hA, mw_o hc, mw_o hc, mw_o hc, mw_o hc]
      have Bo : ∀ c, c ≠ 129 → B c = b c := fun c hc => by rw [hB, mw_o hc, mw_o hc, mw_o hc, mw_o hc]
      have AB : ∀ k, k < 600 → B 129 k = A 6 k := by
        intro k hk
        rw [hA, hB]
        simp only [mw, if_true]
        by_cases q3 : k = 4 * n + 3
        · simp only [if_pos q3]
        · by_cases q2 : k = 4 * n + 2
          · simp only [if_neg q3, if_pos q2]
          · by_cases q1 : k = 4 * n + 1
            · simp only [if_neg q3, if_neg q2, if_pos q1]
            · by_cases q0 : k = 4 * n
              · simp only [if_neg q3, if_neg q2, if_neg q1, if_pos q0]
              · simp only [if_neg q3, if_neg q2, if_neg q1, if_neg q0]
                exact n4 k hk
      have hn5 : h ≠ 5 ∧ h ≠ 6 ∧ h + 1 ≠ 5 ∧ h + 1 ≠ 6 ∧ h + 2 ≠ 5 ∧ h + 2 ≠ 6 := by rcases hh with rfl | rfl <;> decide
      have hvE : hv h (mw A 5 1 (nI (n + 1))) 2 = hv h a 2 ∧ hv h (mw A 5 1 (nI (n + 1))) 3 = hv h a 3 ∧ hv h (mw A 5 1 (nI (n + 1))) 4 = hv h a 4 := by
        refine ⟨?_, ?_, ?_⟩
        · show mw A 5 1 (nI (n + 1)) h = a h
          rw [mw_o hn5.1, Ao h hn5.2.1]
        · show mw A 5 1 (nI (n + 1)) (h + 1) = a (h + 1)
          rw [mw_o hn5.2.2.1, Ao _ hn5.2.2.2.1]
        · show mw A 5 1 (nI (n + 1)) (h + 2) = a (h + 2)
          rw [mw_o hn5.2.2.2.2.1, Ao _ hn5.2.2.2.2.2]
      have hb124 : ∀ k, k ≠ 2 → (mw B 124 2 (nI (n + 1))) 124 k = b 124 k := fun k hk => by rw [mw_n hk, Bo 124 (by decide)]
      have HSn : HS (hv h (mw A 5 1 (nI (n + 1)))) (mw B 124 2 (nI (n + 1))) := by
        have h0 : HS (fun c => if c = 2 then hv h a 2 else if c = 3 then hv h a 3 else if c = 4 then hv h a 4 else fun _ => 0) (fun c => if c = 123 then b 123 else if c = 127 then b 127 else if c = 128 then b 128 else fun _ => 0) := s1
        have b1 : (mw B 124 2 (nI (n + 1))) 123 = b 123 := by rw [mw_o (by decide), Bo 123 (by decide)]
        have b2 : (mw B 124 2 (nI (n + 1))) 127 = b 127 := by rw [mw_o (by decide), Bo 127 (by decide)]
        have b3 : (mw B 124 2 (nI (n + 1))) 128 = b 128 := by rw [mw_o (by decide), Bo 128 (by decide)]
        rw [← hvE.1, ← hvE.2.1, ← hvE.2.2, ← b1, ← b2, ← b3] at h0
        exact h0
      refine ⟨mw A 5 1 (nI (n + 1)), mw B 124 2 (nI (n + 1)), ?_, ?_, ⟨HSn, ?_, ?_, fun _ => ⟨⟨n + 1, c, rfl, rfl⟩, fun k hk => ?_⟩, ?_, ?_, by decide⟩, ⟨fun d d1 d2 d3 d4 d5 d6 => ?_, ?_, fun k hk => ?_, fun q => absurd q (by decide), fun d d1 d2 d3 d4 => ?_, fun q => absurd q (by decide)⟩, ?_, ?_, hb124⟩
      · have z5 : A 5 1 = nI n := by rw [Ao 5 (by decide)]; exact n2
        simp only [F_G_note, show nI 0 = 0 from rfl, if_true, k1, show Nat.beq 4 4 = true from rfl, cond_true, F_B_write, n2, C_within, Option.bind_some, b01, hin, and_self, not_true_eq_false, if_false, one0, i0, e1, e2, e3]
        rw [w6 _ _ _ (by omega)]
        simp only [Option.bind_some]
        rw [w6 _ _ _ (by omega)]
        simp only [Option.bind_some]
        rw [w6 _ _ _ (by omega)]
        simp only [Option.bind_some]
        rw [w6 _ _ _ (by omega)]
        simp only [Option.bind_some]
        rw [← hA, z5, nI_1]
      · have z5 : ld B 124 2 = some (nI n) := (ld_in (k := 2) rfl (by decide) (by decide)).trans (by rw [Bo 124 (by decide)]; exact congrArg some n3)
        have z6 : sd B 124 2 (nI (n + 1)) = some (mw B 124 2 (nI (n + 1))) := sd_in (k := 2) rfl (by decide) (by decide)
        have n150 : ¬ nI n = 150 := fun q => absurd ((nI_eq (b := 150) (by omega) (by decide)).mp q) (by omega)
        simp only [F_R_notes, s6, show nI 0 = 0 from rfl, if_true, l2, Option.bind_some, if_neg n150, l0, j0, e1, e2, e3, pl]
        rw [w9 _ _ _ (by omega)]
        simp only [Option.bind_some]
        rw [w9 _ _ _ (by omega)]
        simp only [Option.bind_some]
        rw [w9 _ _ _ (by omega)]
        simp only [Option.bind_some]
        rw [w9 _ _ _ (by omega)]
        simp only [Option.bind_some]
        rw [← hB, z5]
        simp only [Option.bind_some, nI_1, z6]
      · have h0 := s2
        obtain ⟨m1, m2, m3, m4, m5, m6, m7⟩ := h0
        refine ⟨fun k hk => ?_, fun t j ht hj hn => ?_, fun j hj => ?_, ?_, ?_, ?_, ?_⟩
        · rw [hb124 _ (by omega), hvE.2.1]; exact m1 k hk
        · rw [hvE.2.1]
          refine m2 t j ht hj (fun q => hn ?_)
          unfold isS nF sz
          rw [hvE.1, hvE.2.2]
          exact q
        · rw [hvE.2.1]; exact m3 j hj
        · rw [hb124 4 (by decide), hvE.1]; exact m4
        · rw [hb124 3 (by decide), hvE.1]; exact m5
        · rw [hb124 0 (by decide), hvE.1]; exact m6
        · rw [hb124 1 (by decide), hvE.1]; exact m7
      · exact LwR_c (fun c c1 c2 => by rw [mw_o (by omega), Ao c (by omega)]) (fun c c1 c2 => by rw [mw_o (by omega), Bo c (by omega)]) s3
      · rw [mw_o (by decide), mw_o (by decide)]; exact AB k hk
      · rw [mw_o (by decide), Bo 123 (by decide)]; exact s5
      · rw [mw_o (by decide), Bo 123 (by decide)]; exact s6
      · rw [mw_o d3, Ao d d4]
      · rw [mw_o hn5.1, Ao h hn5.2.1]
      · rw [mw_o hn5.2.2.1, Ao _ hn5.2.2.2.1]
      · rw [mw_o d1, Bo d d2]
      · rw [mw_o hn5.1, Ao h hn5.2.1]
      · rw [mw_o hn5.2.2.1, Ao _ hn5.2.2.2.1]
    · have hn : n = 150 := by omega
      subst hn
      refine ⟨a, b, ?_, ?_, S, FN_rf, rfl, rfl, fun _ _ => rfl⟩
      · simp only [F_G_note, show nI 0 = 0 from rfl, if_true, k1, show Nat.beq 4 4 = true from rfl, cond_true, F_B_write, n2, C_within, Option.bind_some, b01, show ¬ (0 ≤ nI 150 ∧ nI 150 ≤ 149) from by decide, not_false_eq_true]
      · simp only [F_R_notes, s6, show nI 0 = 0 from rfl, if_true, l2, Option.bind_some, show (nI 150 = 150) = True from by decide]
  · refine ⟨a, b, ?_, ?_, S, FN_rf, rfl, rfl, fun _ _ => rfl⟩
    · simp only [F_G_note, show (nI 1 = 0) = False from by decide, if_false]
    · simp only [F_R_notes, s6, show (nI 1 = 0) = False from by decide, if_false]
