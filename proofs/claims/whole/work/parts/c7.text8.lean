/-! ===== text: a line of orders ===== -/
theorem wrR {s : Mem} {c k : Nat} {v : Int32} (h1 : kd c = 1) (h2 : k < ln c) (h3 : ln c < 2 ^ 31) (hr : rel c k = false) (hc : ¬ c < 132) : ∃ s', sd s c (nI k) v = some s' ∧ ld s' c (nI k) = some v ∧ frB s s' ∧ (∀ (t : Nat → Nat) (n : Nat) (L : List (Nat × Nat × Nat × Nat)) (j : Nat), PSt s t n L j → PSt s' t n L j) ∧ s' c k = v ∧ (∀ i, i ≠ k → s' c i = s c i) ∧ ∀ d, d ≠ c → s' d = s d := by
  refine ⟨mw s c k v, sd_in h1 h2 h3, (ld_in h1 h2 h3).trans (congrArg some (mwSelf _ _ _ _)), frB_mw hr (by omega), fun t n L j h => PSt_mw h (by omega) (by omega) (by omega), mwSelf _ _ _ _, fun i hi => mw_k hi, fun d hd => mw_o hd⟩
/-- a cell of the class's line m is written -/
def bdP (a a' : Mem) (m c v : Nat) : Prop := frA a a' ∧ a' 88 = a 88 ∧ a' 89 (5 * m + c) = nI v ∧ (∀ k, k ≠ 5 * m + c → a' 89 k = a 89 k) ∧ a' 76 5 = nI v
theorem bdP_M {a : Mem} {j m c v : Nat} : bdP a (bdM a j m c v) m c v := ⟨frA_bd, bd_o (by decide) (by decide), by rw [bd_89, if_pos rfl], fun k hk => by rw [bd_89, if_neg hk], bd_5 _ _ _ _ _⟩
/-- the order in line l of the drafts -/
def ORl (g : Nat) (z : Nat → Nat) (a b : Mem) (l : Nat) : Prop := b 140 (48 + 3 * l) = a 89 (5 * l) ∧ ∃ w f i, w ≤ 6 ∧ f < g ∧ i < z f ∧ a 89 (5 * l + 1) = nI f ∧ a 89 (5 * l + 2) = nI i ∧ a 89 (5 * l + 3) = nI w ∧ b 140 (48 + 3 * l + 1) = nI w ∧ b 140 (48 + 3 * l + 2) = nI (16 * f + i)
theorem rl140 {k : Nat} (h : 48 ≤ k) : rel 140 k = false := blt_f h
theorem rl141 {k : Nat} (h : 80 ≤ k) : rel 141 k = false := blt_f h
theorem rl142 {k : Nat} (h : 32 ≤ k) : rel 142 k = false := blt_f h
/-- the class's line m, the reference's at x .. x + y: what else stays -/
def lnF (a b a' b' : Mem) (m c x y : Nat) : Prop := frA a a' ∧ frB b b' ∧ a' 88 = a 88 ∧ (∀ k, ¬ (5 * m ≤ k ∧ k < 5 * m + 5) → a' 89 k = a 89 k) ∧ ∀ k, ¬ (x ≤ k ∧ k < x + y) → b' c k = b c k
theorem jO {a b : Mem} {t : Nat → Nat} {n j m g : Nat} {z : Nat → Nat} {L : List (Nat × Nat × Nat × Nat)} (hA : ATt a L j) (hP : PSt b t n L j) (h88 : a 88 1 = nI m) (hm : m < 16) (hH : HZ a b g z) : (∃ j' a' b', j < j' ∧ lnX F_P_readOrder a = some (1, a') ∧ F_R_readOrder (nI (48 + 3 * m)) b = some (0, b') ∧ ATt a' L j' ∧ PSt b' t n L j' ∧ lnF a b a' b' m 140 (48 + 3 * m) 3 ∧ ORl g z a' b' m) ∨ ∃ a' b', lnX F_P_readOrder a = some (0, a') ∧ F_R_readOrder (nI (48 + 3 * m)) b = some (-1, b') ∧ flY a b a' b' := by
  have x0 : 48 + 3 * m < 96 := by omega
  have x1 : 48 + 3 * m + 1 < 96 := by omega
  have x2 : 48 + 3 * m + 2 < 96 := by omega
  have e1 : nI (48 + 3 * m) + 1 = nI (48 + 3 * m + 1) := nI_add _ 1
  have e2 : nI (48 + 3 * m) + 2 = nI (48 + 3 * m + 2) := nI_add _ 2
  rcases jB (w := 18) (c := 0) (lo := 0) (hi := 999) hA hP (by decide) h88 hm (by decide) with ⟨v, b1, v1, -, -, k1, k2, k3, k4, k5⟩ | ⟨a1, b1, k1, k2, k3⟩
  · have c1 : F_P_readBounded 18 0 0 999 a = some (1, bdM a j m 0 v) := k1
    have r1 : F_R_readTold 18 0 999 b = some (nI v, b1) := k2
    have vm : ¬ nI v = -1 := nI_m1 (by omega)
    obtain ⟨b2, s2, l2, fB2, P2, w2, o2, q2⟩ := wrR (s := b1) (c := 140) (k := 48 + 3 * m) (v := nI v) rfl x0 (by decide) (rl140 (by omega)) (by decide)
    have p1 : bdP a (bdM a j m 0 v) m 0 v := bdP_M
    generalize bdM a j m 0 v = a1 at *
    have fB2 : frB b b2 := frB_t (frB_T k3) fB2
    have P2 := P2 _ _ _ _ k4
    have H2 := HZ_fr hH p1.1 fB2
    have e6 : b2 123 6 = nI g := H2.2.2.1
    have h88a : a1 88 1 = nI m := by rw [p1.2.1]; exact h88
    rcases jF (c := 1) k5 P2 h88a hm (by decide) H2.2.1 H2.1 with ⟨f, b3, f1, k6, k7, k8, k9, k10⟩ | ⟨a3, b3, k6, k7, k8⟩
    · have c2 : F_P_readFlight 19 1 (-1) a1 = some (1, bdM a1 (j + 2) m 1 f) := k6
      have fm : ¬ nI f = -1 := nI_m1 (by have := hH.1; omega)
      have p2 : bdP a1 (bdM a1 (j + 2) m 1 f) m 1 f := bdP_M
      generalize bdM a1 (j + 2) m 1 f = a3 at *
      have H3 := HZ_fr H2 p2.1 (frB_T k8)
      have h88b : a3 88 1 = nI m := by rw [p2.2.1]; exact h88a
      rcases jS (c := 2) k10 k9 h88b hm (by decide) H3 f1 p2.2.2.2.2 with ⟨i, b4, i1, k11, k12, k13, k14, k15⟩ | ⟨a4, b4, k11, k12, k13⟩
      · have c3 : F_P_readStep 2 a3 = some (1, bdM a3 (j + 2 + 2) m 2 i) := k11
        have i16 : i < 16 := by have := (hH.2.2.2 f f1).2.1; omega
        have im : ¬ nI (16 * f + i) = -1 := nI_m1 (by have := hH.1; omega)
        have p3 : bdP a3 (bdM a3 (j + 2 + 2) m 2 i) m 2 i := bdP_M
        generalize bdM a3 (j + 2 + 2) m 2 i = a4 at *
        have h88c : a4 88 1 = nI m := by rw [p3.2.1]; exact h88b
        obtain ⟨b5, s5, l5, fB5, P5, w5, o5, q5⟩ := wrR (s := b4) (c := 140) (k := 48 + 3 * m + 2) (v := nI (16 * f + i)) rfl x2 (by decide) (rl140 (by omega)) (by decide)
        have P5 := P5 _ _ _ _ k14
        have kd1 := kindE k15
        have ko := koE P5
        have k66 := tk_ne P5
        obtain ⟨oe, oc⟩ := or_e (tkN L (j + 2 + 2 + 2)).1 (by omega)
        obtain ⟨b6, s6, l6, fB6, P6, w6, o6, q6⟩ := wrR (s := b5) (c := 140) (k := 48 + 3 * m + 1) (v := orr (tkN L (j + 2 + 2 + 2)).1) rfl x1 (by decide) (rl140 (by omega)) (by decide)
        have P6 := P6 _ _ _ _ P5
        have fA4 : frA a a4 := frA_t p1.1 (frA_t p2.1 p3.1)
        have fB6 : frB b b6 := frB_t fB2 (frB_t (frB_T k8) (frB_t (frB_T k13) (frB_t fB5 fB6)))
        rcases oc with oc | ⟨om, o30, oc⟩
        · refine Or.inr ⟨flM a4 L (j + 2 + 2 + 2) 1, erM b6 L (j + 2 + 2 + 2) 1, ?_, ?_, flY_t fA4 fB6 flY_1⟩
          · simp only [lnX, F_P_readOrder, F_P_readNight, c1, c2, c3, Option.bind_some, b1a, b0a, if_true, one0, if_false, kd1, orE, oe, oc, failE k15]
          · rw [oc] at s6 l6
            simp only [F_R_readOrder, r1, Option.bind_some, s2, l2, if_neg vm, e6, k7, if_neg fm, k12, e2, s5, l5, if_neg im, ko, oc, e1, s6, l6, if_true, errE P6]
        · obtain ⟨w, w7, ew⟩ : ∃ w, w ≤ 6 ∧ orr (tkN L (j + 2 + 2 + 2)).1 = nI w := by
            rcases oc with q | q | q | q | q | q | q
            · exact ⟨0, by decide, q⟩
            · exact ⟨1, by decide, q⟩
            · exact ⟨2, by decide, q⟩
            · exact ⟨3, by decide, q⟩
            · exact ⟨4, by decide, q⟩
            · exact ⟨5, by decide, q⟩
            · exact ⟨6, by decide, q⟩
          obtain ⟨b7, r7, f7, P7⟩ := nextR P6 (by omega)
          have A5 := ATt_av k15 P7.1
          have dr : F_N_draft 3 (orr (tkN L (j + 2 + 2 + 2)).1) (avM a4 (j + 2 + 2 + 2)) = some (0, mw (avM a4 (j + 2 + 2 + 2)) 89 (5 * m + 3) (orr (tkN L (j + 2 + 2 + 2)).1)) := drE (c := 3) ((congrFun (av_o (by decide)) 1).trans h88c) hm (by decide)
          have av : mw a4 76 4 (a4 76 4 + 1) = avM a4 (j + 2 + 2 + 2) := by
            rw [k15.2.2.1, nI_1]
            rfl
          have A6 : ATt (mw (avM a4 (j + 2 + 2 + 2)) 89 (5 * m + 3) (orr (tkN L (j + 2 + 2 + 2)).1)) L (j + 2 + 2 + 2 + 1) := ATt_89 A5
          have g1 : frA a4 (mw (avM a4 (j + 2 + 2 + 2)) 89 (5 * m + 3) (orr (tkN L (j + 2 + 2 + 2)).1)) := frA_t (frA_mw (c := 76) rfl (by decide)) (frA_mw rfl (by decide))
          have g2 : mw (avM a4 (j + 2 + 2 + 2)) 89 (5 * m + 3) (orr (tkN L (j + 2 + 2 + 2)).1) 88 = a4 88 := (mw_o (by decide)).trans (av_o (by decide))
          have g3 : mw (avM a4 (j + 2 + 2 + 2)) 89 (5 * m + 3) (orr (tkN L (j + 2 + 2 + 2)).1) 89 (5 * m + 3) = nI w := (mwSelf _ _ _ _).trans ew
          have g4 : ∀ k, k ≠ 5 * m + 3 → mw (avM a4 (j + 2 + 2 + 2)) 89 (5 * m + 3) (orr (tkN L (j + 2 + 2 + 2)).1) 89 k = a4 89 k := fun k hk => (mw_k hk).trans (congrFun (av_o (by decide)) k)
          generalize mw (avM a4 (j + 2 + 2 + 2)) 89 (5 * m + 3) (orr (tkN L (j + 2 + 2 + 2)).1) = a5 at *
          have q89 : ∀ k, a5 89 k = if k = 5 * m + 3 then nI w else if k = 5 * m + 2 then nI i else if k = 5 * m + 1 then nI f else if k = 5 * m then nI v else a 89 k := fun k => by
            by_cases d3 : k = 5 * m + 3
            · rw [if_pos d3, d3, g3]
            · rw [if_neg d3, g4 k d3]
              by_cases d2 : k = 5 * m + 2
              · rw [if_pos d2, d2, p3.2.2.1]
              · rw [if_neg d2, p3.2.2.2.1 k d2]
                by_cases d1 : k = 5 * m + 1
                · rw [if_pos d1, d1, p2.2.2.1]
                · rw [if_neg d1, p2.2.2.2.1 k d1]
                  by_cases d0 : k = 5 * m
                  · rw [if_pos d0, d0]
                    exact p1.2.2.1
                  · rw [if_neg d0, p1.2.2.2.1 k d0]
          have q140 : ∀ k, b7 140 k = if k = 48 + 3 * m + 1 then nI w else if k = 48 + 3 * m + 2 then nI (16 * f + i) else if k = 48 + 3 * m then nI v else b 140 k := fun k => by
            rw [f7.1 140 (by decide)]
            by_cases d1 : k = 48 + 3 * m + 1
            · rw [if_pos d1, d1, w6, ew]
            · rw [if_neg d1, o6 k d1]
              by_cases d2 : k = 48 + 3 * m + 2
              · rw [if_pos d2, d2, w5]
              · rw [if_neg d2, o5 k d2, k13.1 140 (by decide), k8.1 140 (by decide)]
                by_cases d0 : k = 48 + 3 * m
                · rw [if_pos d0, d0, w2]
                · rw [if_neg d0, o2 k d0, k3.1 140 (by decide)]
          have fA5 : frA a a5 := frA_t fA4 g1
          have fB7 : frB b b7 := frB_t fB6 (frB_T f7)
          rcases mkE A6 P7 with ⟨b8, m1, m2, m3, m4, m5⟩ | ⟨m1, m2⟩
          · refine Or.inl ⟨_, avM a5 (j + 2 + 2 + 2 + 1), b8, by omega, ?_, ?_, m5, m4, ⟨frA_t fA5 (frA_mw rfl (by decide)), frB_t fB7 (frB_T m3), ?_, fun k hk => ?_, fun k hk => ?_⟩, ?_⟩
            · simp only [lnX, F_P_readOrder, F_P_readNight, c1, c2, c3, Option.bind_some, b1a, if_true, one0, if_false, kd1, orE, oe, if_neg om, av, dr, m1]
            · simp only [F_R_readOrder, r1, Option.bind_some, s2, l2, if_neg vm, e6, k7, if_neg fm, k12, e2, s5, l5, if_neg im, ko, e1, s6, l6, if_neg om, r7, m2]
            · rw [av_o (by decide), g2, p3.2.1, p2.2.1, p1.2.1]
            · rw [av_o (by decide), q89, if_neg (by omega), if_neg (by omega), if_neg (by omega), if_neg (by omega)]
            · rw [m3.1 140 (by decide), q140, if_neg (by omega), if_neg (by omega), if_neg (by omega)]
            · unfold ORl
              rw [m3.1 140 (by decide), av_o (by decide)]
              refine ⟨?_, w, f, i, w7, f1, i1, ?_, ?_, ?_, ?_, ?_⟩
              · rw [q140, if_neg (by omega), if_neg (by omega), if_pos rfl, q89, if_neg (by omega), if_neg (by omega), if_neg (by omega), if_pos rfl]
              · rw [q89, if_neg (by omega), if_neg (by omega), if_pos rfl]
              · rw [q89, if_neg (by omega), if_pos rfl]
              · rw [q89, if_pos rfl]
              · rw [q140, if_pos rfl]
              · rw [q140, if_neg (by omega), if_pos rfl]
          · refine Or.inr ⟨_, _, ?_, ?_, flY_t fA5 fB7 (flY_1 (L := L) (j := j + 2 + 2 + 2 + 1) (k := 1))⟩
            · simp only [lnX, F_P_readOrder, F_P_readNight, c1, c2, c3, Option.bind_some, b1a, if_true, one0, if_false, kd1, orE, oe, if_neg om, av, dr, m1]
            · simp only [F_R_readOrder, r1, Option.bind_some, s2, l2, if_neg vm, e6, k7, if_neg fm, k12, e2, s5, l5, if_neg im, ko, e1, s6, l6, if_neg om, r7, m2]
      · have c3 : F_P_readStep 2 a3 = some (0, a4) := k11
        obtain ⟨b5, s5, l5, fB5, -, -, -, q5⟩ := wrR (s := b4) (c := 140) (k := 48 + 3 * m + 2) (v := -1) rfl x2 (by decide) (rl140 (by omega)) (by decide)
        refine Or.inr ⟨a4, b5, ?_, ?_, flY_t (frA_t p1.1 p2.1) (frB_t fB2 (frB_T k8)) (flY_b (flY_X k13) fB5 (q5 123 (by decide)))⟩
        · simp only [lnX, F_P_readOrder, F_P_readNight, c1, c2, c3, Option.bind_some, b1a, if_true, one0, if_false]
        · simp only [F_R_readOrder, r1, Option.bind_some, s2, l2, if_neg vm, e6, k7, if_neg fm, k12, e2, s5, l5, if_true]
    · have c2 : F_P_readFlight 19 1 (-1) a1 = some (0, a3) := k6
      refine Or.inr ⟨a3, b3, ?_, ?_, flY_t p1.1 fB2 (flY_X k8)⟩
      · simp only [lnX, F_P_readOrder, F_P_readNight, c1, c2, Option.bind_some, b1a, if_true, one0, if_false]
      · simp only [F_R_readOrder, r1, Option.bind_some, s2, l2, if_neg vm, e6, k7, if_true]
  · have c1 : F_P_readBounded 18 0 0 999 a = some (0, a1) := k1
    have r1 : F_R_readTold 18 0 999 b = some (-1, b1) := k2
    obtain ⟨b2, s2, l2, fB2, -, -, -, q2⟩ := wrR (s := b1) (c := 140) (k := 48 + 3 * m) (v := -1) rfl x0 (by decide) (rl140 (by omega)) (by decide)
    refine Or.inr ⟨a1, b2, ?_, ?_, flY_b (flY_X k3) fB2 (q2 123 (by decide))⟩
    · simp only [lnX, F_P_readOrder, F_P_readNight, c1, Option.bind_some, b0a, if_true]
    · simp only [F_R_readOrder, r1, Option.bind_some, s2, l2, if_true]
