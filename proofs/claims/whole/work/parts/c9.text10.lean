/-! ===== text: a line of doors ===== -/
noncomputable def dTC (f : Int32) (s : Mem) : Option (Int32 × Mem) := (F_P_readFlight 29 2 f s).bind fun z4 => if z4.1 = 0 then some (0, z4.2) else (F_P_readStep 3 z4.2).bind fun z5 => if z5.1 = 0 then some (0, z5.2) else some (1, z5.2)
noncomputable def dTR (x1 f : Int32) (s3 : Mem) : Option (Int32 × Mem) := (F_R_isWord 29 s3).bind fun z5 => if z5.1 = 0 then (F_R_errs 1 z5.2).bind fun z6 => some (z6.1, z6.2) else (F_R_reads z5.2).bind fun z7 => if (z7.2 123 14) = 3 then (if (z7.2 123 15) = f then (F_R_errs 2 z7.2).bind fun z8 => some (z8.1, z8.2) else (F_R_readNumber 0 ((z7.2 123 6) - 1) z7.2).bind fun z9 => if z9.1 = (-1) then some ((-1), z9.2) else (F_R_readStep z9.1 z9.2).bind fun z10 => (sd z10.2 142 (x1 + 1) z10.1).bind fun s11 => (ld s11 142 (x1 + 1)).bind fun v12 => if v12 = (-1) then some ((-1), s11) else (F_R_readMark 59 s11).bind fun z13 => some (z13.1, z13.2)) else (F_R_readNumber 0 ((z7.2 123 6) - 1) z7.2).bind fun z14 => if z14.1 = (-1) then some ((-1), z14.2) else (F_R_readStep z14.1 z14.2).bind fun z15 => (sd z15.2 142 (x1 + 1) z15.1).bind fun s16 => (ld s16 142 (x1 + 1)).bind fun v17 => if v17 = (-1) then some ((-1), s16) else (F_R_readMark 59 s16).bind fun z18 => some (z18.1, z18.2)
theorem jD2 {a b : Mem} {t : Nat → Nat} {n j m g f : Nat} {z : Nat → Nat} {L : List (Nat × Nat × Nat × Nat)} (hA : ATt a L j) (hP : PSt b t n L j) (h88 : a 88 1 = nI m) (hm : m < 16) (hH : HZ a b g z) (hf : f < g) : (∃ f2 i2 j' a' b', f2 < g ∧ f2 ≠ f ∧ i2 < z f2 ∧ j < j' ∧ lnX (dTC (nI f)) a = some (1, a') ∧ dTR (nI (32 + 2 * m)) (nI f) b = some (0, b') ∧ ATt a' L j' ∧ PSt b' t n L j' ∧ frA a a' ∧ frB b b' ∧ a' 88 = a 88 ∧ (∀ k, a' 89 k = if k = 5 * m + 3 then nI i2 else if k = 5 * m + 2 then nI f2 else a 89 k) ∧ ∀ k, b' 142 k = if k = 32 + 2 * m + 1 then nI (16 * f2 + i2) else b 142 k) ∨ ∃ a' b', lnX (dTC (nI f)) a = some (0, a') ∧ dTR (nI (32 + 2 * m)) (nI f) b = some (-1, b') ∧ flY a b a' b' := by
  have x1 : 32 + 2 * m + 1 < 64 := by omega
  have e1 : nI (32 + 2 * m) + 1 = nI (32 + 2 * m + 1) := nI_add _ 1
  have g6 := hH.1
  have k66 := tk_ne hP
  have tk : F_P_take 29 a = some (if nI (tkN L j).1 = nI 29 then (1, avM a j) else (0, flM a L j 1)) := takeE hA (nI 29)
  have iw : F_R_isWord 29 b = some (if (tkN L j).1 = 29 then 1 else 0, b) := isWE (w := 29) hP (by decide)
  by_cases cw : (tkN L j).1 = 29
  · rw [if_pos (by rw [cw])] at tk
    rw [if_pos cw] at iw
    obtain ⟨b1, r1, r2, r3⟩ := nextR hP (by omega)
    have hA1 := ATt_av hA r3.1
    have n1 := tnC hA1 0 (nI g - 1) (tk_ne r3)
    have n2 := tnR r3 0 (nI g - 1)
    have H1 := HZ_fr hH (frA_mw (c := 76) (k := 4) (v := nI (j + 1)) rfl (by decide)) (frB_T r2)
    have H1 : HZ (avM a j) b1 g z := H1
    have e22 : avM a j 2 2 = nI g := H1.2.1
    have e6 : b1 123 6 = nI g := H1.2.2.1
    have l66 := tk_ne r3
    have j401 : j + 1 < 401 := by have := hA1.1; have := hA1.2.1; omega
    have lv : ld (avM a j) 78 (nI (j + 1)) = some (nI (tkN L (j + 1)).2.1) := (ld_in rfl (show j + 1 < 401 from j401) (by decide)).trans (congrArg some (hA1.2.2.2.2 (j + 1) hA1.1).2.1)
    have fA1 : frA a (avM a j) := frA_mw rfl (by decide)
    have n64 : nI (tkN L (j + 1)).1 = 64 ↔ (tkN L (j + 1)).1 = 64 := nI_eq (b := 64) (by omega) (by decide)
    by_cases same : (tkN L (j + 1)).1 = 64 ∧ (tkN L (j + 1)).2.1 = f
    · obtain ⟨t1, t2, t3⟩ := r3.2.2.1.2.2.2.2.1 same.1
      refine Or.inr ⟨flM (avM a j) L (j + 1) 2, erM b1 L (j + 1) 2, ?_, ?_, flY_t fA1 (frB_T r2) flY_1⟩
      · have c1 : F_P_readFlight 29 2 (nI f) a = some (0, flM (avM a j) L (j + 1) 2) := by
          rw [F_P_readFlight, tk]
          simp only [Option.bind_some, one0, if_false, kindE hA1]
          rw [if_pos (n64.mpr same.1), hA1.2.2.1, if_neg (nI_pos (by omega)), if_neg (show ¬ (401 : Int32) ≤ nI (j + 1) from nI_ge (b := 401) j401 (by decide)), lv]
          simp only [Option.bind_some, same.2, if_true, failE hA1, b0a]
        simp only [lnX, dTC, c1, Option.bind_some, if_true]
      · simp only [dTR, iw, Option.bind_some, one0, if_false, r1, if_pos t1, if_pos (t2.trans (congrArg nI same.2)), errE r3]
    · have red : ∀ r, F_P_takeNumber 0 (nI g - 1) (avM a j) = some r → F_P_readFlight 29 2 (nI f) a = if r.1 = 0 then some (0, r.2) else (F_N_draft 2 (r.2 76 5) r.2).bind fun z => some (1, z.2) := fun r hr => by
        rw [F_P_readFlight, tk]
        simp only [Option.bind_some, one0, if_false, kindE hA1]
        by_cases c64 : (tkN L (j + 1)).1 = 64
        · have t9 := (r3.2.2.1.2.2.2.2.1 c64).2.2
          have nm1 : ¬ nI (tkN L (j + 1)).2.1 = nI f := fun q => same ⟨c64, (nI_eq (by omega) (by omega)).mp q⟩
          rw [if_pos (n64.mpr c64), hA1.2.2.1, if_neg (nI_pos (by omega)), if_neg (show ¬ (401 : Int32) ≤ nI (j + 1) from nI_ge (b := 401) j401 (by decide)), lv]
          simp only [Option.bind_some, if_neg nm1, e22, hr]
        · rw [if_neg (fun q => c64 (n64.mp q))]
          simp only [e22, hr, Option.bind_some]
      have redR : dTR (nI (32 + 2 * m)) (nI f) b = (F_R_readNumber 0 (nI g - 1) b1).bind fun z9 => if z9.1 = (-1) then some ((-1), z9.2) else (F_R_readStep z9.1 z9.2).bind fun z10 => (sd z10.2 142 (nI (32 + 2 * m + 1)) z10.1).bind fun s11 => (ld s11 142 (nI (32 + 2 * m + 1))).bind fun v12 => if v12 = (-1) then some ((-1), s11) else (F_R_readMark 59 s11).bind fun z13 => some (z13.1, z13.2) := by
        by_cases c64 : (tkN L (j + 1)).1 = 64
        · obtain ⟨t1, t2, t9⟩ := r3.2.2.1.2.2.2.2.1 c64
          have nm1 : ¬ b1 123 15 = nI f := fun q => same ⟨c64, (nI_eq (by omega) (by omega)).mp (t2.symm.trans q)⟩
          simp only [dTR, iw, Option.bind_some, one0, if_false, r1, if_pos t1, if_neg nm1, e6, e1]
        · have t1 : ¬ b1 123 14 = 3 := fun q => c64 ((isNE r3).1.mp q)
          simp only [dTR, iw, Option.bind_some, one0, if_false, r1, if_neg t1, e6, e1]
      by_cases ok : okN L (j + 1) 0 (nI g - 1)
      · obtain ⟨b2, y1, y2, y3⟩ := n2.1 ok
        obtain ⟨f2, v1, v2⟩ := (rngF (n := g) (by omega)).mp ok.2
        have v9 := (r3.2.2.1.2.2.2.2.1 ok.1).2.2
        have ev : (tkN L (j + 1)).2.1 = f2 := (nI_eq (by omega) (by omega)).mp v2
        have fne : f2 ≠ f := fun q => same ⟨ok.1, ev.trans q⟩
        have x1c := n1.1 ok
        rw [ev] at x1c y1
        have A2 : ATt (mw (nmM (avM a j) (j + 1) f2) 89 (5 * m + 2) (nI f2)) L (j + 1 + 1) := ATt_89 (ATt_nm hA1 y3.1)
        have d1 : F_N_draft 2 (nI f2) (nmM (avM a j) (j + 1) f2) = some (0, mw (nmM (avM a j) (j + 1) f2) 89 (5 * m + 2) (nI f2)) := drE (c := 2) ((congrFun ((nm_o (by decide)).trans (av_o (by decide))) 1).trans h88) hm (by decide)
        have e5 : nmM (avM a j) (j + 1) f2 76 5 = nI f2 := by
          unfold nmM
          rw [mw_k (by decide), mwSelf]
        have c1 : F_P_readFlight 29 2 (nI f) a = some (1, mw (nmM (avM a j) (j + 1) f2) 89 (5 * m + 2) (nI f2)) := by
          rw [red _ x1c]
          simp only [one0, if_false, e5, d1, Option.bind_some]
        have p2 : bdP a (mw (nmM (avM a j) (j + 1) f2) 89 (5 * m + 2) (nI f2)) m 2 f2 := bdP_M (j := j)
        generalize mw (nmM (avM a j) (j + 1) f2) 89 (5 * m + 2) (nI f2) = a2 at *
        have h88b : a2 88 1 = nI m := by rw [p2.2.1]; exact h88
        have H2 := HZ_fr hH p2.1 (frB_t (frB_T r2) (frB_T y2))
        have fm : ¬ nI f2 = -1 := nI_m1 (by omega)
        rcases jS (c := 3) A2 y3 h88b hm (by decide) H2 v1 p2.2.2.2.2 with ⟨i2, b4, i1, k11, k12, k13, k14, k15⟩ | ⟨a4, b4, k11, k12, k13⟩
        · have c3 : F_P_readStep 3 a2 = some (1, bdM a2 (j + 1 + 1) m 3 i2) := k11
          have i16 : i2 < 16 := by have := (hH.2.2.2 f2 v1).2.1; omega
          have im : ¬ nI (16 * f2 + i2) = -1 := nI_m1 (by omega)
          have p3 : bdP a2 (bdM a2 (j + 1 + 1) m 3 i2) m 3 i2 := bdP_M
          generalize bdM a2 (j + 1 + 1) m 3 i2 = a4 at *
          obtain ⟨b5, s5, l5, fB5, P5, y5, o5, q5⟩ := wrR (s := b4) (c := 142) (k := 32 + 2 * m + 1) (v := nI (16 * f2 + i2)) rfl x1 (by decide) (rl142 (by omega)) (by decide)
          have P5 := P5 _ _ _ _ k14
          have fA4 : frA a a4 := frA_t p2.1 p3.1
          have fB5 : frB b b5 := frB_t (frB_T r2) (frB_t (frB_T y2) (frB_t (frB_T k13) fB5))
          rcases mkE k15 P5 with ⟨b6, m1, m2, m3, m4, m5⟩ | ⟨m1, m2⟩
          · refine Or.inl ⟨f2, i2, _, _, b6, v1, fne, i1, ?_, ?_, ?_, m5, m4, frA_t fA4 (frA_mw rfl (by decide)), frB_t fB5 (frB_T m3), ?_, fun k => ?_, fun k => ?_⟩
            · omega
            · simp only [lnX, dTC, c1, c3, Option.bind_some, one0, if_false, m1]
            · rw [redR]
              simp only [y1, Option.bind_some, if_neg fm, k12, s5, l5, if_neg im, m2]
            · rw [av_o (by decide), p3.2.1, p2.2.1]
            · rw [av_o (by decide)]
              by_cases d3 : k = 5 * m + 3
              · rw [if_pos d3, d3, p3.2.2.1]
              · rw [if_neg d3, p3.2.2.2.1 k d3]
                by_cases d2 : k = 5 * m + 2
                · rw [if_pos d2, d2, p2.2.2.1]
                · rw [if_neg d2, p2.2.2.2.1 k d2]
            · rw [m3.1 142 (by decide)]
              by_cases d1 : k = 32 + 2 * m + 1
              · rw [if_pos d1, d1, y5]
              · rw [if_neg d1, o5 k d1, k13.1 142 (by decide), y2.1 142 (by decide), r2.1 142 (by decide)]
          · refine Or.inr ⟨_, _, ?_, ?_, flY_t fA4 fB5 (flY_1 (L := L) (j := j + 1 + 1 + 2) (k := 1))⟩
            · simp only [lnX, dTC, c1, c3, Option.bind_some, one0, if_false, m1]
            · rw [redR]
              simp only [y1, Option.bind_some, if_neg fm, k12, s5, l5, if_neg im, m2]
        · have c3 : F_P_readStep 3 a2 = some (0, a4) := k11
          obtain ⟨b5, s5, l5, fB5, -, -, -, q5⟩ := wrR (s := b4) (c := 142) (k := 32 + 2 * m + 1) (v := -1) rfl x1 (by decide) (rl142 (by omega)) (by decide)
          refine Or.inr ⟨a4, b5, ?_, ?_, flY_t p2.1 (frB_t (frB_T r2) (frB_T y2)) (flY_b (flY_X k13) fB5 (q5 123 (by decide)))⟩
          · simp only [lnX, dTC, c1, c3, Option.bind_some, one0, if_false, if_true]
          · rw [redR]
            simp only [y1, Option.bind_some, if_neg fm, k12, s5, l5, if_true]
      · refine Or.inr ⟨flM (avM a j) L (j + 1) (fkN L (j + 1)), erM b1 L (j + 1) (fkN L (j + 1)), ?_, ?_, flY_t fA1 (frB_T r2) flY_1⟩
        · have c1 : F_P_readFlight 29 2 (nI f) a = some (0, flM (avM a j) L (j + 1) (fkN L (j + 1))) := by
            rw [red _ (n1.2 ok)]
            simp only [if_true]
          simp only [lnX, dTC, c1, Option.bind_some, if_true]
        · rw [redR]
          simp only [n2.2 ok, Option.bind_some, if_true]
  · rw [if_neg (fun q => cw ((nI_eq (by omega) (by decide)).mp q))] at tk
    rw [if_neg cw] at iw
    refine Or.inr ⟨flM a L j 1, erM b L j 1, ?_, ?_, flY_1⟩
    · have c1 : F_P_readFlight 29 2 (nI f) a = some (0, flM a L j 1) := by
        rw [F_P_readFlight, tk]
        simp only [Option.bind_some, if_true]
      simp only [lnX, dTC, c1, Option.bind_some, if_true]
    · simp only [dTR, iw, Option.bind_some, if_true, errE hP 1]
def DOl (g : Nat) (z : Nat → Nat) (a b : Mem) (l : Nat) : Prop := ∃ f i f2 i2, f < g ∧ i < z f ∧ f2 < g ∧ i2 < z f2 ∧ f ≠ f2 ∧ a 89 (5 * l) = nI f ∧ a 89 (5 * l + 1) = nI i ∧ a 89 (5 * l + 2) = nI f2 ∧ a 89 (5 * l + 3) = nI i2 ∧ b 142 (32 + 2 * l) = nI (16 * f + i) ∧ b 142 (32 + 2 * l + 1) = nI (16 * f2 + i2)
theorem jD {a b : Mem} {t : Nat → Nat} {n j m g : Nat} {z : Nat → Nat} {L : List (Nat × Nat × Nat × Nat)} (hA : ATt a L j) (hP : PSt b t n L j) (h88 : a 88 1 = nI m) (hm : m < 16) (hH : HZ a b g z) : (∃ j' a' b', j < j' ∧ lnX F_P_readDoor a = some (1, a') ∧ F_R_readDoor (nI (32 + 2 * m)) b = some (0, b') ∧ ATt a' L j' ∧ PSt b' t n L j' ∧ lnF a b a' b' m 142 (32 + 2 * m) 2 ∧ DOl g z a' b' m) ∨ ∃ a' b', lnX F_P_readDoor a = some (0, a') ∧ F_R_readDoor (nI (32 + 2 * m)) b = some (-1, b') ∧ flY a b a' b' := by
  have x0 : 32 + 2 * m < 64 := by omega
  have g6 := hH.1
  have e6 : b 123 6 = nI g := hH.2.2.1
  rcases jF (c := 0) hA hP h88 hm (by decide) hH.2.1 hH.1 with ⟨f, b1, f1, k1, k2, k3, k4, k5⟩ | ⟨a1, b1, k1, k2, k3⟩
  · have c1 : F_P_readFlight 19 0 (-1) a = some (1, bdM a j m 0 f) := k1
    have fm : ¬ nI f = -1 := nI_m1 (by omega)
    have p1 : bdP a (bdM a j m 0 f) m 0 f := bdP_M
    generalize bdM a j m 0 f = a1 at *
    have H1 := HZ_fr hH p1.1 (frB_T k3)
    have h88a : a1 88 1 = nI m := by rw [p1.2.1]; exact h88
    rcases jS (c := 1) k5 k4 h88a hm (by decide) H1 f1 p1.2.2.2.2 with ⟨i, b2, i1, k6, k7, k8, k9, k10⟩ | ⟨a2, b2, k6, k7, k8⟩
    · have c2 : F_P_readStep 1 a1 = some (1, bdM a1 (j + 2) m 1 i) := k6
      have i16 : i < 16 := by have := (hH.2.2.2 f f1).2.1; omega
      have im : ¬ nI (16 * f + i) = -1 := nI_m1 (by omega)
      have p2 : bdP a1 (bdM a1 (j + 2) m 1 i) m 1 i := bdP_M
      generalize bdM a1 (j + 2) m 1 i = a2 at *
      have h88b : a2 88 1 = nI m := by rw [p2.2.1]; exact h88a
      obtain ⟨b3, s3, l3, fB3, P3, y3, o3, q3⟩ := wrR (s := b2) (c := 142) (k := 32 + 2 * m) (v := nI (16 * f + i)) rfl x0 (by decide) (rl142 (by omega)) (by decide)
      have P3 := P3 _ _ _ _ k9
      have fA2 : frA a a2 := frA_t p1.1 p2.1
      have fB3 : frB b b3 := frB_t (frB_T k3) (frB_t (frB_T k8) fB3)
      have H3 := HZ_fr hH fA2 fB3
      have e0 : a2 89 (5 * m + 0) = nI f := by
        rw [p2.2.2.2.1 (5 * m + 0) (by omega)]
        exact p1.2.2.1
      have at0 : F_N_at 88 (nI m) 0 a2 = some (nI f, a2) := by
        rw [← e0]
        exact N_at (h0 := 88) (c := 89) (k := 0) rfl rfl rfl rfl hm (by decide)
      have hC : lnX F_P_readDoor a = lnX (dTC (nI f)) a2 := by
        simp only [lnX, F_P_readDoor, c1, c2, Option.bind_some, one0, if_false, h88b, at0, dTC]
      have hR : F_R_readDoor (nI (32 + 2 * m)) b = dTR (nI (32 + 2 * m)) (nI f) b3 := by
        simp only [F_R_readDoor, e6, k2, Option.bind_some, if_neg fm, k7, s3, l3, if_neg im, dTR]
      rcases jD2 k10 P3 h88b hm H3 f1 with ⟨f2, i2, j', a', b', v1, v2, v3, hj, hc, hr, hA', hP', fA', fB', e88, q89, q142⟩ | ⟨a', b', hc, hr, hf⟩
      · have z89 : ∀ k, a' 89 k = if k = 5 * m + 3 then nI i2 else if k = 5 * m + 2 then nI f2 else if k = 5 * m + 1 then nI i else if k = 5 * m then nI f else a 89 k := fun k => by
          rw [q89]
          by_cases d3 : k = 5 * m + 3
          · rw [if_pos d3, if_pos d3]
          · rw [if_neg d3, if_neg d3]
            by_cases d2 : k = 5 * m + 2
            · rw [if_pos d2, if_pos d2]
            · rw [if_neg d2, if_neg d2]
              by_cases d1 : k = 5 * m + 1
              · rw [if_pos d1, d1, p2.2.2.1]
              · rw [if_neg d1, p2.2.2.2.1 k d1]
                by_cases d0 : k = 5 * m
                · rw [if_pos d0, d0]
                  exact p1.2.2.1
                · rw [if_neg d0, p1.2.2.2.1 k d0]
        have z142 : ∀ k, b' 142 k = if k = 32 + 2 * m + 1 then nI (16 * f2 + i2) else if k = 32 + 2 * m then nI (16 * f + i) else b 142 k := fun k => by
          rw [q142]
          by_cases d1 : k = 32 + 2 * m + 1
          · rw [if_pos d1, if_pos d1]
          · rw [if_neg d1, if_neg d1]
            by_cases d0 : k = 32 + 2 * m
            · rw [if_pos d0, d0, y3]
            · rw [if_neg d0, o3 k d0, k8.1 142 (by decide), k3.1 142 (by decide)]
        refine Or.inl ⟨j', a', b', by omega, hC.trans hc, hR.trans hr, hA', hP', ⟨frA_t fA2 fA', frB_t fB3 fB', ?_, fun k hk => ?_, fun k hk => ?_⟩, f, i, f2, i2, f1, i1, v1, v3, Ne.symm v2, ?_, ?_, ?_, ?_, ?_, ?_⟩
        · rw [e88, p2.2.1, p1.2.1]
        · rw [z89, if_neg (by omega), if_neg (by omega), if_neg (by omega), if_neg (by omega)]
        · rw [z142, if_neg (by omega), if_neg (by omega)]
        · rw [z89, if_neg (by omega), if_neg (by omega), if_neg (by omega), if_pos rfl]
        · rw [z89, if_neg (by omega), if_neg (by omega), if_pos rfl]
        · rw [z89, if_neg (by omega), if_pos rfl]
        · rw [z89, if_pos rfl]
        · rw [z142, if_neg (by omega), if_pos rfl]
        · rw [z142, if_pos rfl]
      · exact Or.inr ⟨a', b', hC.trans hc, hR.trans hr, flY_t fA2 fB3 hf⟩
    · have c2 : F_P_readStep 1 a1 = some (0, a2) := k6
      obtain ⟨b3, s3, l3, fB3, -, -, -, q3⟩ := wrR (s := b2) (c := 142) (k := 32 + 2 * m) (v := -1) rfl x0 (by decide) (rl142 (by omega)) (by decide)
      refine Or.inr ⟨a2, b3, ?_, ?_, flY_t p1.1 (frB_T k3) (flY_b (flY_X k8) fB3 (q3 123 (by decide)))⟩
      · simp only [lnX, F_P_readDoor, c1, c2, Option.bind_some, one0, if_false, if_true]
      · simp only [F_R_readDoor, e6, k2, Option.bind_some, if_neg fm, k7, s3, l3, if_true]
  · have c1 : F_P_readFlight 19 0 (-1) a = some (0, a1) := k1
    refine Or.inr ⟨a1, b1, ?_, ?_, flY_X k3⟩
    · simp only [lnX, F_P_readDoor, c1, Option.bind_some, if_true]
    · simp only [F_R_readDoor, e6, k2, Option.bind_some, if_true]
