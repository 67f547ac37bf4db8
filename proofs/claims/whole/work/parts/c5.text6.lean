/-! ===== text: numbers that are told ===== -/
theorem len_next {b : Mem} {t : Nat → Nat} {n j : Nat} {L : List (Nat × Nat × Nat × Nat)} (h : PSt b t n L j) (hk : (tkN L j).1 ≠ 66) : j + 1 < L.length := by
  obtain ⟨b', -, -, k⟩ := nextR h hk
  exact k.1
def okN (L : List (Nat × Nat × Nat × Nat)) (j : Nat) (lo hi : Int32) : Prop := (tkN L j).1 = 64 ∧ lo ≤ nI (tkN L j).2.1 ∧ nI (tkN L j).2.1 ≤ hi
def fkN (L : List (Nat × Nat × Nat × Nat)) (j : Nat) : Int32 := if (tkN L j).1 = 64 then 2 else 1
theorem tnC {a : Mem} {L : List (Nat × Nat × Nat × Nat)} {j : Nat} (h : ATt a L j) (lo hi : Int32) (hk : (tkN L j).1 ≤ 66) : (okN L j lo hi → F_P_takeNumber lo hi a = some (1, nmM a j (tkN L j).2.1)) ∧ (¬ okN L j lo hi → F_P_takeNumber lo hi a = some (0, flM a L j (fkN L j))) := by
  have e := takeNE h lo hi (by omega)
  refine ⟨fun k => ?_, fun k => ?_⟩
  · rw [e, if_pos k.1, if_pos k.2]
  · rw [e]
    unfold fkN
    by_cases c : (tkN L j).1 = 64
    · rw [if_pos c, if_pos c, if_neg (fun q => k ⟨c, q⟩)]
    · rw [if_neg c, if_neg c]
theorem tnR {b : Mem} {t : Nat → Nat} {n j : Nat} {L : List (Nat × Nat × Nat × Nat)} (h : PSt b t n L j) (lo hi : Int32) : (okN L j lo hi → ∃ b', F_R_readNumber lo hi b = some (nI (tkN L j).2.1, b') ∧ frT b b' ∧ PSt b' t n L (j + 1)) ∧ (¬ okN L j lo hi → F_R_readNumber lo hi b = some (-1, erM b L j (fkN L j))) := by
  have hn := (isNE h).1
  have r3 := h.2.2.1.2.2.2.2.1
  refine ⟨fun k => ?_, fun k => ?_⟩
  · obtain ⟨b', k1, k2, k3⟩ := nextR h (by rw [k.1]; decide)
    refine ⟨b', ?_, k2, k3⟩
    rw [F_R_readNumber, if_pos (hn.mpr k.1), (r3 k.1).2.1, R_isIn, if_pos k.2]
    simp only [Option.bind_some, one0, if_false, k1, (r3 k.1).2.1]
  · rw [F_R_readNumber]
    unfold fkN
    by_cases c : (tkN L j).1 = 64
    · rw [if_pos (hn.mpr c), if_pos c, (r3 c).2.1, R_isIn, if_neg (fun q => k ⟨c, q⟩)]
      simp only [Option.bind_some, if_true, errE h 2]
    · rw [if_neg (fun q => c (hn.mp q)), if_neg c, errE h 1]
      rfl
def fl6 (s : Nat) : Prop := s ≠ 12 ∧ s ≠ 13 ∧ s ≠ 14 ∧ s ≠ 15 ∧ s ≠ 29 ∧ s ≠ 30
/-- both have failed alike -/
def flX (a b a' b' : Mem) : Prop := (∀ c, c ≠ 76 → a' c = a c) ∧ (∀ c, c ≠ 123 → b' c = b c) ∧ (∀ s, fl6 s → b' 123 s = b 123 s) ∧ a' 76 6 = b' 123 29 ∧ a' 76 7 = b' 123 30
theorem flX_1 {a b a1 b1 : Mem} {L : List (Nat × Nat × Nat × Nat)} {j : Nat} {k : Int32} (ha : ∀ c, c ≠ 76 → a1 c = a c) (hb : frT b b1) : flX a b (flM a1 L j k) (erM b1 L j k) := by
  unfold flM erM
  refine ⟨fun c hc => ?_, fun c hc => ?_, fun s hs => ?_, ?_, ?_⟩
  · rw [mw_o hc, mw_o hc]; exact ha c hc
  · rw [mw_o hc, mw_o hc]; exact hb.1 c hc
  · obtain ⟨s1, s2, s3, s4, s5, s6⟩ := hs
    rw [mw_k s6, mw_k s5]
    exact hb.2 s s1 s2 s3 s4
  · rw [mw_k (by decide), mwSelf, mw_k (by decide), mwSelf]
  · rw [mwSelf, mwSelf]
theorem frT_0 (b : Mem) : frT b b := ⟨fun _ _ => rfl, fun _ _ _ _ _ => rfl⟩
theorem av_o {a : Mem} {j c : Nat} (h : c ≠ 76) : avM a j c = a c := mw_o h
theorem nm_o {a : Mem} {j v c : Nat} (h : c ≠ 76) : nmM a j v c = a c := (mw_o h).trans (mw_o h)
theorem ATt_nm {a : Mem} {L : List (Nat × Nat × Nat × Nat)} {j v : Nat} (h : ATt a L j) (h1 : j + 1 < L.length) : ATt (nmM a j v) L (j + 1) := ATt_av (ATt_mw h (by decide) (by decide)) h1
theorem drE {s : Mem} {m c : Nat} {v : Int32} (h : s 88 1 = nI m) (hm : m < 16) (hc : c < 5) : F_N_draft (nI c) v s = some (0, mw s 89 (5 * m + c) v) := by
  have e1 : nI m * 5 + nI c = nI (5 * m + c) := by rw [show (5 : Int32) = nI 5 from rfl, n_mul, nI_add, Nat.mul_comm]
  have r1 : 0 ≤ nI (5 * m + c) ∧ nI (5 * m + c) ≤ 80 - 1 := (rngF (n := 80) (by decide)).mpr ⟨5 * m + c, by omega, rfl⟩
  have s1 : sd s 89 (nI (5 * m + c)) v = some (mw s 89 (5 * m + c) v) := sd_in rfl (show 5 * m + c < 80 by omega) (by decide)
  simp only [F_N_draft, h, e1, C_within, Option.bind_some, if_pos r1, one0, if_false, s1]
def bdM (a : Mem) (j m c v : Nat) : Mem := mw (nmM (avM a j) (j + 1) v) 89 (5 * m + c) (nI v)
theorem bd_o {a : Mem} {j m c v x : Nat} (h : x ≠ 76) (h2 : x ≠ 89) : bdM a j m c v x = a x := (mw_o h2).trans ((nm_o h).trans (av_o h))
theorem bd_5 (a : Mem) (j m c v : Nat) : bdM a j m c v 76 5 = nI v := by
  unfold bdM nmM
  rw [mw_o (by decide), mw_k (by decide), mwSelf]
theorem bd_89 {a : Mem} {j m c v k : Nat} : bdM a j m c v 89 k = if k = 5 * m + c then nI v else a 89 k := by
  unfold bdM
  by_cases h : k = 5 * m + c
  · rw [if_pos h, h, mwSelf]
  · rw [if_neg h, mw_k h, nm_o (by decide), av_o (by decide)]
theorem ATt_89 {a : Mem} {L : List (Nat × Nat × Nat × Nat)} {j k : Nat} {v : Int32} (h : ATt a L j) : ATt (mw a 89 k v) L j := ATt_o h (mw_o (by decide)) (mw_o (by decide)) (mw_o (by decide)) (mw_o (by decide))
/-- a word and a number -/
theorem jB {a b : Mem} {t : Nat → Nat} {n j m w c : Nat} {L : List (Nat × Nat × Nat × Nat)} {lo hi : Int32} (hA : ATt a L j) (hP : PSt b t n L j) (hw : w < 30) (h88 : a 88 1 = nI m) (hm : m < 16) (hc : c < 5) : (∃ (v : Nat) (b' : Mem), v ≤ 9999 ∧ lo ≤ nI v ∧ nI v ≤ hi ∧ F_P_readBounded (nI w) (nI c) lo hi a = some (1, bdM a j m c v) ∧ F_R_readTold (nI w) lo hi b = some (nI v, b') ∧ frT b b' ∧ PSt b' t n L (j + 2) ∧ ATt (bdM a j m c v) L (j + 2)) ∨ ∃ a' b', F_P_readBounded (nI w) (nI c) lo hi a = some (0, a') ∧ F_R_readTold (nI w) lo hi b = some (-1, b') ∧ flX a b a' b' := by
  have k66 := tk_ne hP
  have tk := takeE hA (nI w)
  have iw := isWE hP hw
  by_cases cw : (tkN L j).1 = w
  · rw [if_pos (by rw [cw])] at tk
    rw [if_pos cw] at iw
    have k1 : (tkN L j).1 ≠ 66 := by omega
    obtain ⟨b1, r1, r2, r3⟩ := nextR hP k1
    have hA1 := ATt_av hA r3.1
    have c1 := tnC hA1 lo hi (tk_ne r3)
    have c2 := tnR r3 lo hi
    by_cases ok : okN L (j + 1) lo hi
    · obtain ⟨b2, y1, y2, y3⟩ := c2.1 ok
      have x1 := c1.1 ok
      refine Or.inl ⟨(tkN L (j + 1)).2.1, b2, (r3.2.2.1.2.2.2.2.1 ok.1).2.2, ok.2.1, ok.2.2, ?_, ?_, frT_t r2 y2, y3, ATt_89 (ATt_nm hA1 y3.1)⟩
      · have d1 := drE (s := nmM (avM a j) (j + 1) (tkN L (j + 1)).2.1) (m := m) (c := c) (v := nI (tkN L (j + 1)).2.1) ((congrFun ((nm_o (by decide)).trans (av_o (by decide))) 1).trans h88) hm hc
        have e5 : nmM (avM a j) (j + 1) (tkN L (j + 1)).2.1 76 5 = nI (tkN L (j + 1)).2.1 := by
          unfold nmM
          rw [mw_k (by decide), mwSelf]
        rw [F_P_readBounded, tk]
        simp only [Option.bind_some, one0, if_false, x1, e5, d1]
        rfl
      · rw [F_R_readTold, iw]
        simp only [Option.bind_some, one0, if_false, r1, y1]
    · refine Or.inr ⟨_, _, ?_, ?_, flX_1 (a1 := avM a j) (b1 := b1) (L := L) (j := j + 1) (k := fkN L (j + 1)) (fun c hc => av_o hc) r2⟩
      · rw [F_P_readBounded, tk]
        simp only [Option.bind_some, one0, if_false, c1.2 ok, if_true]
      · rw [F_R_readTold, iw]
        simp only [Option.bind_some, one0, if_false, r1, c2.2 ok]
  · rw [if_neg (fun q => cw ((nI_eq (by omega) (by omega)).mp q))] at tk
    rw [if_neg cw] at iw
    refine Or.inr ⟨_, _, ?_, ?_, flX_1 (a1 := a) (b1 := b) (L := L) (j := j) (k := 1) (fun _ _ => rfl) (frT_0 b)⟩
    · rw [F_P_readBounded, tk]
      simp only [Option.bind_some, if_true]
    · rw [F_R_readTold, iw]
      simp only [Option.bind_some, if_true, errE hP 1]
/-- a flight -/
theorem jF {a b : Mem} {t : Nat → Nat} {n j m c g : Nat} {L : List (Nat × Nat × Nat × Nat)} (hA : ATt a L j) (hP : PSt b t n L j) (h88 : a 88 1 = nI m) (hm : m < 16) (hc : c < 5) (h2 : a 2 2 = nI g) (hg : g ≤ 6) : (∃ (v : Nat) (b' : Mem), v < g ∧ F_P_readFlight 19 (nI c) (-1) a = some (1, bdM a j m c v) ∧ F_R_readTold 19 0 (nI g - 1) b = some (nI v, b') ∧ frT b b' ∧ PSt b' t n L (j + 2) ∧ ATt (bdM a j m c v) L (j + 2)) ∨ ∃ a' b', F_P_readFlight 19 (nI c) (-1) a = some (0, a') ∧ F_R_readTold 19 0 (nI g - 1) b = some (-1, b') ∧ flX a b a' b' := by
  have k66 := tk_ne hP
  have tk := takeE hA (nI 19)
  have tk : F_P_take 19 a = some (if nI (tkN L j).1 = nI 19 then (1, avM a j) else (0, flM a L j 1)) := tk
  have iw := isWE (w := 19) hP (by decide)
  have iw : F_R_isWord 19 b = some (if (tkN L j).1 = 19 then 1 else 0, b) := iw
  by_cases cw : (tkN L j).1 = 19
  · rw [if_pos (by rw [cw])] at tk
    rw [if_pos cw] at iw
    obtain ⟨b1, r1, r2, r3⟩ := nextR hP (by omega)
    have hA1 := ATt_av hA r3.1
    have c1 := tnC hA1 0 (nI g - 1) (tk_ne r3)
    have c2 := tnR r3 0 (nI g - 1)
    have e22 : avM a j 2 2 = nI g := (congrFun (av_o (by decide)) 2).trans h2
    have l66 := tk_ne r3
    have j401 : j + 1 < 401 := by have := hA1.1; have := hA1.2.1; omega
    have lv : ld (avM a j) 78 (nI (j + 1)) = some (nI (tkN L (j + 1)).2.1) := (ld_in rfl (show j + 1 < 401 from j401) (by decide)).trans (congrArg some (hA1.2.2.2.2 (j + 1) hA1.1).2.1)
    have red : ∀ r, F_P_takeNumber 0 (nI g - 1) (avM a j) = some r → F_P_readFlight 19 (nI c) (-1) a = if r.1 = 0 then some (0, r.2) else (F_N_draft (nI c) (r.2 76 5) r.2).bind fun z => some (1, z.2) := fun r hr => by
      rw [F_P_readFlight, tk]
      simp only [Option.bind_some, one0, if_false, kindE hA1]
      by_cases c64 : (tkN L (j + 1)).1 = 64
      · have nm1 : ¬ nI (tkN L (j + 1)).2.1 = -1 := nI_m1 (by have := (r3.2.2.1.2.2.2.2.1 c64).2.2; omega)
        rw [if_pos (show nI (tkN L (j + 1)).1 = 64 by rw [c64]; rfl), hA1.2.2.1, if_neg (nI_pos (by omega)), if_neg (show ¬ (401 : Int32) ≤ nI (j + 1) from nI_ge (b := 401) j401 (by decide)), lv]
        simp only [Option.bind_some, if_neg nm1, e22, hr]
      · rw [if_neg (show ¬ nI (tkN L (j + 1)).1 = 64 from fun q => c64 ((nI_eq (b := 64) (by omega) (by decide)).mp q))]
        simp only [e22, hr, Option.bind_some]
    by_cases ok : okN L (j + 1) 0 (nI g - 1)
    · obtain ⟨b2, y1, y2, y3⟩ := c2.1 ok
      obtain ⟨v, v1, v2⟩ := (rngF (n := g) (by omega)).mp ok.2
      have v9 := (r3.2.2.1.2.2.2.2.1 ok.1).2.2
      have ev : (tkN L (j + 1)).2.1 = v := (nI_eq (by omega) (by omega)).mp v2
      refine Or.inl ⟨(tkN L (j + 1)).2.1, b2, by omega, ?_, ?_, frT_t r2 y2, y3, ATt_89 (ATt_nm hA1 y3.1)⟩
      · have d1 := drE (s := nmM (avM a j) (j + 1) (tkN L (j + 1)).2.1) (m := m) (c := c) (v := nI (tkN L (j + 1)).2.1) ((congrFun ((nm_o (by decide)).trans (av_o (by decide))) 1).trans h88) hm hc
        have e5 : nmM (avM a j) (j + 1) (tkN L (j + 1)).2.1 76 5 = nI (tkN L (j + 1)).2.1 := by
          unfold nmM
          rw [mw_k (by decide), mwSelf]
        rw [red _ (c1.1 ok)]
        simp only [one0, if_false, e5, d1, Option.bind_some]
        rfl
      · rw [F_R_readTold, iw]
        simp only [Option.bind_some, one0, if_false, r1, y1]
    · refine Or.inr ⟨_, _, ?_, ?_, flX_1 (a1 := avM a j) (b1 := b1) (L := L) (j := j + 1) (k := fkN L (j + 1)) (fun c hc => av_o hc) r2⟩
      · rw [red _ (c1.2 ok)]
        simp only [if_true]
      · rw [F_R_readTold, iw]
        simp only [Option.bind_some, one0, if_false, r1, c2.2 ok]
  · rw [if_neg (fun q => cw ((nI_eq (by omega) (by decide)).mp q))] at tk
    rw [if_neg cw] at iw
    refine Or.inr ⟨_, _, ?_, ?_, flX_1 (a1 := a) (b1 := b) (L := L) (j := j) (k := 1) (fun _ _ => rfl) (frT_0 b)⟩
    · rw [F_P_readFlight, tk]
      simp only [Option.bind_some, if_true]
    · rw [F_R_readTold, iw]
      simp only [Option.bind_some, if_true, errE hP 1]
