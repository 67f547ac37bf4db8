/-! ===== roster: the class ===== -/
theorem mi_c {a : Mem} {f i : Nat} (hf : f < 6) (hi : i < 16) : F_H_isMissing 2 (nI f) (nI i) a = some (if a 3 (96 * 4 + 16 * f + i) = 2 then 1 else 0, a) := by
  have pg : F_H_get 2 4 (nI f) (nI i) a = some (a 3 (96 * 4 + 16 * f + i), a) := H_get (t := 4) rfl rfl rfl rfl (by decide) hf hi
  simp only [F_H_isMissing, show Nat.beq (kd 2) 4 = true from rfl, cond_true, pg, Option.bind_some]
  split <;> rfl
def preS (a : Mem) (f : Nat) : Nat → Bool := fun i => !decide (a 3 (96 * 4 + 16 * f + i) = 2)
/-- what the next step's sets are, so many gaps looked at -/
def NV (pr : Nat → Bool) (s m j : Nat) : Nat → Nat → Prop
  | 0, X => pr m = true ∧ ∃ g, g < j ∧ VG pr s m g X
  | g + 1, X => g < j ∧ TV pr s m g X
theorem VG_lt {pr : Nat → Bool} {s m g X : Nat} (h : VG pr s m g X) : X < 2 ^ m := h.1
theorem le33 {pr : Nat → Bool} {s m : Nat} {x2 : Int32} {k17 : Int32 → Int32 → Int32 → Mem → Option (Int32 × Mem)} (hs : s ≤ 5) (hm : m < 16) : ∀ (q j fu : Nat) (a : Mem), j + q = s → q < fu → (∀ g, g < s → BsR (VG pr s m g) (a 96 g)) → (∀ g, g < s → BsR (NV pr s m j g) (a 97 g)) → ∃ a', F_U_leaveSet_33 k17 fu x2 (nI s) (nI m) (if pr m = true then 0 else 1) (nI j) a = (cpy a' 97 0 96 0 5).bind (fun s1 => k17 x2 (nI s) (nI (m + 1)) s1) ∧ (∀ g, g < s → BsR (NV pr s m s g) (a' 97 g)) ∧ ∀ c, c ≠ 97 → a' c = a c := by
  intro q
  induction q with
  | zero =>
    intro j fu a hj hfu h6 h7
    obtain ⟨fu, rfl⟩ : ∃ k, fu = k + 1 := ⟨fu - 1, by omega⟩
    have : j = s := by omega
    subst this
    refine ⟨a, ?_, h7, fun _ _ => rfl⟩
    simp only [F_U_leaveSet_33, if_pos (show nI j ≤ nI j from nI_le (Nat.le_refl j) (by omega)), nI_1]
  | succ q ih =>
    intro j fu a hj hfu h6 h7
    obtain ⟨fu, rfl⟩ : ∃ k, fu = k + 1 := ⟨fu - 1, by omega⟩
    have gj : ¬ nI s ≤ nI j := nI_ge (by omega) (by omega)
    have l6 : ld a 96 (nI j) = some (a 96 j) := ld_in rfl (show j < 5 by omega) (by decide)
    have l7 : ∀ (t : Mem) g, g < 5 → ld t 97 (nI g) = some (t 97 g) := fun t g hg => ld_in rfl (show g < 5 from hg) (by decide)
    have w7 : ∀ (t : Mem) g v, g < 5 → sd t 97 (nI g) v = some (mw t 97 g v) := fun t g v hg => sd_in rfl (show g < 5 from hg) (by decide)
    have hj6 := h6 j (by omega)
    -- the step
    have go : ∀ a1 : Mem, (∀ c, c ≠ 97 → a1 c = a c) → (∀ g, g < s → BsR (NV pr s m (j + 1) g) (a1 97 g)) → ∃ a', F_U_leaveSet_33 k17 fu x2 (nI s) (nI m) (if pr m = true then 0 else 1) (nI (j + 1)) a1 = (cpy a' 97 0 96 0 5).bind (fun s1 => k17 x2 (nI s) (nI (m + 1)) s1) ∧ (∀ g, g < s → BsR (NV pr s m s g) (a' 97 g)) ∧ ∀ c, c ≠ 97 → a' c = a c := fun a1 o1 n1 => by
      obtain ⟨a', z1, z2, z3⟩ := ih (j + 1) fu a1 (by omega) (by omega) (by rw [o1 96 (by decide)]; exact h6) n1
      exact ⟨a', z1, z2, fun c hc => (z3 c hc).trans (o1 c hc)⟩
    have nvo : ∀ g X, g ≠ 0 → g ≠ j + 1 → (NV pr s m j g X ↔ NV pr s m (j + 1) g X) := fun g X g0 g1 => by
      obtain ⟨g, rfl⟩ : ∃ k, g = k + 1 := ⟨g - 1, by omega⟩
      show (g < j ∧ TV pr s m g X) ↔ (g < j + 1 ∧ TV pr s m g X)
      constructor
      · exact fun q => ⟨by omega, q.2⟩
      · exact fun q => ⟨by omega, q.2⟩
    have nv0 : ∀ X, NV pr s m (j + 1) 0 X ↔ NV pr s m j 0 X ∨ (pr m = true ∧ VG pr s m j X) := fun X => by
      show (pr m = true ∧ ∃ g, g < j + 1 ∧ VG pr s m g X) ↔ (pr m = true ∧ ∃ g, g < j ∧ VG pr s m g X) ∨ (pr m = true ∧ VG pr s m j X)
      constructor
      · rintro ⟨p1, g, g1, g2⟩
        by_cases e : g = j
        · subst e
          exact Or.inr ⟨p1, g2⟩
        · exact Or.inl ⟨p1, g, by omega, g2⟩
      · rintro (⟨p1, g, g1, g2⟩ | ⟨p1, p2⟩)
        · exact ⟨p1, g, by omega, g2⟩
        · exact ⟨p1, j, by omega, p2⟩
    have nvj : ∀ X, NV pr s m (j + 1) (j + 1) X ↔ NV pr s m j (j + 1) X ∨ TV pr s m j X := fun X => by
      show (j < j + 1 ∧ TV pr s m j X) ↔ (j < j ∧ TV pr s m j X) ∨ TV pr s m j X
      constructor
      · exact fun q => Or.inr q.2
      · rintro (q | q)
        · exact ⟨by omega, q.2⟩
        · exact ⟨by omega, q⟩
    by_cases cn : a 96 j = -1
    · -- none
      have emp : ∀ X, ¬ VG pr s m j X := by
        rcases hj6.2 with ⟨-, q⟩ | ⟨X, x1, x2, -⟩
        · exact q
        · rw [cn] at x1
          exact absurd x1.symm (nI_m1 (by have := hj6.1 X x2; omega))
      have emt : ∀ X, ¬ TV pr s m j X := fun X q => by
        rcases q with ⟨-, Y, y1, -⟩ | ⟨-, y1⟩
        · exact emp Y y1
        · exact emp X y1
      obtain ⟨a', z1, z2⟩ := go a (fun _ _ => rfl) (fun g hg => by
        refine BsR_e (h7 g hg) (fun X => ?_)
        by_cases g0 : g = 0
        · subst g0
          rw [nv0]
          exact ⟨Or.inl, fun q => q.resolve_right (fun r => emp X r.2)⟩
        · by_cases g1 : g = j + 1
          · subst g1
            rw [nvj]
            exact ⟨Or.inl, fun q => q.resolve_right (emt X)⟩
          · exact nvo g X g0 g1)
      refine ⟨a', ?_, z2⟩
      rw [← z1]
      simp only [F_U_leaveSet_33, if_neg gj, l6, Option.bind_some, if_pos cn, nI_1]
    · cases hp : pr m with
      | true =>
        rw [hp, if_pos rfl] at go
        obtain ⟨r0, e0, b0⟩ := bs_U (h7 0 (by omega)) hj6 (R := NV pr s m (j + 1) 0) (fun X => by
          rw [nv0]
          exact ⟨fun q => q.elim Or.inl (fun r => Or.inr r.2), fun q => q.elim Or.inl (fun r => Or.inr ⟨hp, r⟩)⟩) a
        have lz : ld a 97 0 = some (a 97 0) := l7 a 0 (by decide)
        have wz : sd a 97 0 r0 = some (mw a 97 0 r0) := w7 a 0 r0 (by decide)
        by_cases cl : s ≤ j + 1
        · obtain ⟨a', z1, z2⟩ := go (mw a 97 0 r0) (fun c hc => mw_o hc) (fun g hg => by
            by_cases g0 : g = 0
            · subst g0
              rw [mw_y]
              exact b0
            · rw [mw_n g0]
              exact BsR_e (h7 g hg) (fun X => nvo g X g0 (by omega)))
          refine ⟨a', ?_, z2⟩
          rw [← z1]
          simp only [F_U_leaveSet_33, if_neg gj, l6, Option.bind_some, if_neg cn, if_true, lz, e0, wz, nI_1, if_pos (show nI s ≤ nI (j + 1) from nI_le cl (by omega))]
        · have bt : BsR (TV pr s m j) (a 96 j ||| shl 1 (nI m)) := BsR_or hm hj6 cn (fun X hX => hX.1) (fun X => by
            constructor
            · rintro (q | q)
              · exact q.2
              · rw [hp] at q
                exact absurd q.1 (by decide)
            · exact fun q => Or.inl ⟨hp, q⟩)
          obtain ⟨r1, e1, b1⟩ := bs_U (h7 (j + 1) (by omega)) bt (R := NV pr s m (j + 1) (j + 1)) nvj (mw a 97 0 r0)
          have ln1 : ld (mw a 97 0 r0) 97 (nI (j + 1)) = some (a 97 (j + 1)) := by
            rw [l7 _ _ (by omega), mw_n (by omega)]
          have wn1 : sd (mw a 97 0 r0) 97 (nI (j + 1)) r1 = some (mw (mw a 97 0 r0) 97 (j + 1) r1) := w7 _ _ _ (by omega)
          obtain ⟨a', z1, z2⟩ := go (mw (mw a 97 0 r0) 97 (j + 1) r1) (fun c hc => by rw [mw_o hc, mw_o hc]) (fun g hg => by
            by_cases g1 : g = j + 1
            · subst g1
              rw [mw_y]
              exact b1
            · rw [mw_n g1]
              by_cases g0 : g = 0
              · subst g0
                rw [mw_y]
                exact b0
              · rw [mw_n g0]
                exact BsR_e (h7 g hg) (fun X => nvo g X g0 g1))
          refine ⟨a', ?_, z2⟩
          rw [← z1]
          simp only [F_U_leaveSet_33, if_neg gj, l6, Option.bind_some, if_neg cn, if_true, lz, e0, wz, nI_1, if_neg (show ¬ nI s ≤ nI (j + 1) from nI_ge (by omega) (by omega)), ln1, e1, wn1]
      | false =>
        rw [hp, if_neg (by decide)] at go
        have nz : ∀ X, NV pr s m j 0 X ↔ NV pr s m (j + 1) 0 X := fun X => by
          rw [nv0]
          exact ⟨Or.inl, fun q => q.resolve_right (fun r => by rw [hp] at r; exact absurd r.1 (by decide))⟩
        by_cases cl : s ≤ j + 1
        · obtain ⟨a', z1, z2⟩ := go a (fun c hc => rfl) (fun g hg => by
            by_cases g0 : g = 0
            · subst g0
              exact BsR_e (h7 0 hg) nz
            · exact BsR_e (h7 g hg) (fun X => nvo g X g0 (by omega)))
          refine ⟨a', ?_, z2⟩
          rw [← z1]
          simp only [F_U_leaveSet_33, if_neg gj, l6, Option.bind_some, if_neg cn, one0, if_false, nI_1, if_pos (show nI s ≤ nI (j + 1) from nI_le cl (by omega)), Bool.false_eq_true]
        · obtain ⟨r1, e1, b1⟩ := bs_U (h7 (j + 1) (by omega)) hj6 (R := NV pr s m (j + 1) (j + 1)) (fun X => by
            rw [nvj]
            constructor
            · rintro (q | q)
              · exact Or.inl q
              · rcases q with q | q
                · rw [hp] at q
                  exact absurd q.1 (by decide)
                · exact Or.inr q.2
            · rintro (q | q)
              · exact Or.inl q
              · exact Or.inr (Or.inr ⟨hp, q⟩)) a
          have ln1 : ld a 97 (nI (j + 1)) = some (a 97 (j + 1)) := l7 _ _ (by omega)
          have wn1 : sd a 97 (nI (j + 1)) r1 = some (mw a 97 (j + 1) r1) := w7 _ _ _ (by omega)
          obtain ⟨a', z1, z2⟩ := go (mw a 97 (j + 1) r1) (fun c hc => mw_o hc) (fun g hg => by
            by_cases g1 : g = j + 1
            · subst g1
              rw [mw_y]
              exact b1
            · rw [mw_n g1]
              by_cases g0 : g = 0
              · subst g0
                exact BsR_e (h7 0 hg) nz
              · exact BsR_e (h7 g hg) (fun X => nvo g X g0 g1))
          refine ⟨a', ?_, z2⟩
          rw [← z1]
          simp only [F_U_leaveSet_33, if_neg gj, l6, Option.bind_some, if_neg cn, one0, if_false, nI_1, if_neg (show ¬ nI s ≤ nI (j + 1) from nI_ge (by omega) (by omega)), ln1, e1, wn1, Bool.false_eq_true]
theorem le102 {V : Nat → Nat → Prop} {s : Nat} {a : Mem} (hs : s ≤ 5) (h : ∀ g, g < s → BsR (V g) (a 96 g)) : ∀ (q j fu : Nat) (v : Int32), j + q = s → q < fu → BsR (fun X => ∃ g, g < j ∧ V g X) v → ∃ r, F_U_leaveSet_102 fu (nI s) v (nI j) a = some (r, a) ∧ BsR (fun X => ∃ g, g < s ∧ V g X) r := by
  intro q
  induction q with
  | zero =>
    intro j fu v hj hfu hv
    obtain ⟨fu, rfl⟩ : ∃ k, fu = k + 1 := ⟨fu - 1, by omega⟩
    have : j = s := by omega
    subst this
    refine ⟨v, ?_, hv⟩
    simp only [F_U_leaveSet_102, if_pos (show nI j ≤ nI j from nI_le (Nat.le_refl j) (by omega))]
  | succ q ih =>
    intro j fu v hj hfu hv
    obtain ⟨fu, rfl⟩ : ∃ k, fu = k + 1 := ⟨fu - 1, by omega⟩
    have l6 : ld a 96 (nI j) = some (a 96 j) := ld_in rfl (show j < 5 by omega) (by decide)
    obtain ⟨r0, e0, b0⟩ := bs_U hv (h j (by omega)) (R := fun X => ∃ g, g < j + 1 ∧ V g X) (fun X => by
      constructor
      · rintro ⟨g, g1, g2⟩
        by_cases e : g = j
        · subst e
          exact Or.inr g2
        · exact Or.inl ⟨g, by omega, g2⟩
      · rintro (⟨g, g1, g2⟩ | q)
        · exact ⟨g, by omega, g2⟩
        · exact ⟨j, by omega, q⟩) a
    obtain ⟨r, z1, z2⟩ := ih (j + 1) fu r0 (by omega) (by omega) b0
    refine ⟨r, ?_, z2⟩
    rw [← z1]
    simp only [F_U_leaveSet_102, if_neg (show ¬ nI s ≤ nI j from nI_ge (by omega) (by omega)), l6, Option.bind_some, e0, nI_1]
theorem fiE (h n : Nat) (v : Int32) (s : Mem) (h1 : kd h = 1) (h2 : ln h = n) (hn : n < 1000000) (e : F_JA_fill h v s = F_JA_fill_5 gF h v 0 (nI n) s) : F_JA_fill h v s = some (0, rp s h (fun i => if 0 ≤ i ∧ i < n then v else s h i)) := by
  rw [e]
  exact fl5 (h := h) (n := n) (v := v) h1 h2 (by omega) n 0 gF s (Nat.zero_add n) (by rw [gF_eq]; omega)
theorem le17 {a0 : Mem} {f z s : Nat} (hf : f < 6) (hz : z ≤ 16) (hs : s ≤ 5) (hs1 : 1 ≤ s) (ez : a0 4 f = nI z) : ∀ (q m fu : Nat) (a : Mem), m + q = z → q < fu → (∀ c, c ≠ 96 → c ≠ 97 → a c = a0 c) → (∀ g, g < s → BsR (VG (preS a0 f) s m g) (a 96 g)) → ∃ (r : Int32) (a' : Mem), F_U_leaveSet_17 fu (nI f) (nI s) (nI m) a = some (r, a') ∧ BsR (fun X => ∃ g, g < s ∧ VG (preS a0 f) s z g X) r ∧ ∀ c, c ≠ 96 → c ≠ 97 → a' c = a0 c := by
  intro q
  induction q with
  | zero =>
    intro m fu a hm hfu o h
    obtain ⟨fu, rfl⟩ : ∃ k, fu = k + 1 := ⟨fu - 1, by omega⟩
    have : m = z := by omega
    subst this
    have es : F_H_size 2 (nI f) a = some (nI m, a) := by rw [H_size (c := 4) rfl rfl rfl rfl hf, o 4 (by decide) (by decide), ez]
    obtain ⟨r, z1, z2⟩ := le102 hs h s 0 gF (-1) (Nat.zero_add s) (by rw [gF_eq]; omega) (BsR_0 (fun X q => by
      obtain ⟨g, g1, -⟩ := q
      exact absurd g1 (Nat.not_lt_zero g)))
    have z1 : F_U_leaveSet_102 gF (nI s) (-1) 0 a = _ := z1
    refine ⟨r, a, ?_, z2, o⟩
    simp only [F_U_leaveSet_17, es, Option.bind_some, if_pos (show nI m ≤ nI m from nI_le (Nat.le_refl m) (by omega)), z1]
  | succ q ih =>
    intro m fu a hm hfu o h
    obtain ⟨fu, rfl⟩ : ∃ k, fu = k + 1 := ⟨fu - 1, by omega⟩
    have es : F_H_size 2 (nI f) a = some (nI z, a) := by rw [H_size (c := 4) rfl rfl rfl rfl hf, o 4 (by decide) (by decide), ez]
    have mi : F_H_isMissing 2 (nI f) (nI m) a = some (if preS a0 f m = true then 0 else 1, a) := by
      rw [mi_c hf (by omega), o 3 (by decide) (by decide)]
      unfold preS
      by_cases c : a0 3 (96 * 4 + 16 * f + m) = 2
      · rw [if_pos c, decide_eq_true c]
        rfl
      · rw [if_neg c, decide_eq_false c]
        rfl
    have hfi := fiE 97 5 (-1) a rfl rfl (by decide) rfl
    obtain ⟨a1, ha1⟩ : ∃ a1, a1 = rp a 97 (fun i => if 0 ≤ i ∧ i < 5 then -1 else a 97 i) := ⟨_, rfl⟩
    rw [← ha1] at hfi
    have o1 : ∀ c, c ≠ 97 → a1 c = a c := fun c hc => by rw [ha1, rp_o hc]
    obtain ⟨a2, z1, z2, z3⟩ := le33 (pr := preS a0 f) (x2 := nI f) (k17 := F_U_leaveSet_17 fu) hs (show m < 16 by omega) s 0 gF a1 (Nat.zero_add s) (by rw [gF_eq]; omega) (by rw [o1 96 (by decide)]; exact h) (fun g hg => by
      have : a1 97 g = -1 := by
        rw [ha1, rp_at]
        exact if_pos ⟨Nat.zero_le g, by omega⟩
      rw [this]
      refine BsR_0 (fun X q => ?_)
      cases g with
      | zero =>
        obtain ⟨-, g', g1, -⟩ := q
        exact absurd g1 (Nat.not_lt_zero g')
      | succ g => exact absurd q.1 (Nat.not_lt_zero g))
    have z1 : F_U_leaveSet_33 (F_U_leaveSet_17 fu) gF (nI f) (nI s) (nI m) (if preS a0 f m = true then 0 else 1) 0 a1 = _ := z1
    obtain ⟨w, w1, w2⟩ := cpy_all (s := a2) (c := 97) (d := 96) (n := 5) rfl rfl rfl rfl (by decide)
    have w2 : cpy a2 97 0 96 0 5 = some (rp a2 96 w) := w2
    obtain ⟨r, a', y1, y2, y3⟩ := ih (m + 1) fu (rp a2 96 w) (by omega) (by omega) (fun c c1 c2 => by rw [rp_o c1, z3 c c2, o1 c c2]; exact o c c1 c2) (fun g hg => by
      rw [rp_at, w1 g (by omega)]
      refine BsR_e (z2 g hg) (fun X => ?_)
      cases g with
      | zero => exact (vg_0 hs1).symm
      | succ g =>
        rw [vg_s hg]
        exact ⟨fun q => q.2, fun q => ⟨by omega, q⟩⟩)
    refine ⟨r, a', ?_, y2, y3⟩
    rw [← y1]
    simp only [F_U_leaveSet_17, es, Option.bind_some, if_neg (show ¬ nI z ≤ nI m from nI_ge (by omega) (by omega)), mi, hfi, z1, w2]
theorem le_p {a : Mem} {f z s : Nat} (hf : f < 6) (hz : z ≤ 16) (hs : s ≤ 5) (hs1 : 1 ≤ s) (ez : a 4 f = nI z) : ∃ (r : Int32) (a' : Mem), F_U_leaveSet (nI f) (nI s) a = some (r, a') ∧ BsR (fun X => ∃ g, g < s ∧ VG (preS a f) s z g X) r ∧ ∀ c, c ≠ 96 → c ≠ 97 → a' c = a c := by
  have hfi := fiE 96 5 (-1) a rfl rfl (by decide) rfl
  obtain ⟨a1, ha1⟩ : ∃ a1, a1 = rp a 96 (fun i => if 0 ≤ i ∧ i < 5 then -1 else a 96 i) := ⟨_, rfl⟩
  rw [← ha1] at hfi
  have o1 : ∀ c, c ≠ 96 → a1 c = a c := fun c hc => by rw [ha1, rp_o hc]
  have w0 : sd a1 96 0 0 = some (mw a1 96 0 0) := sd_in (k := 0) rfl (by decide) (by decide)
  obtain ⟨r, a', z1, z2, z3⟩ := le17 (a0 := a) hf hz hs hs1 ez z 0 gF (mw a1 96 0 0) (Nat.zero_add z) (by rw [gF_eq]; omega) (fun c c1 c2 => by rw [mw_o c1, o1 c c1]) (fun g hg => by
    by_cases g0 : g = 0
    · subst g0
      rw [mw_y]
      refine ⟨fun X hX => by have := hX.1; omega, Or.inr ⟨0, rfl, ⟨by decide, fun i hi => by rw [Nat.zero_testBit] at hi; exact absurd hi (by decide), rfl⟩, fun Y hY => ?_⟩⟩
      have := hY.1
      have : Y = 0 := by omega
      rw [this]
      exact Nat.le_refl _
    · have : (mw a1 96 0 0) 96 g = -1 := by
        rw [mw_n g0, ha1, rp_at]
        exact if_pos ⟨Nat.zero_le g, by omega⟩
      rw [this]
      exact BsR_0 (fun X q => g0 q.2.2.symm))
  have z1 : F_U_leaveSet_17 gF (nI f) (nI s) 0 (mw a1 96 0 0) = _ := z1
  refine ⟨r, a', ?_, z2, z3⟩
  simp only [F_U_leaveSet, C_min, if_neg (show ¬ (5 : Int32) < nI s from nI_nlt (a := 5) hs (by decide)), Option.bind_some, C_max]
  have e : (if (1 : Int32) < nI s then nI s else 1) = nI s := by
    by_cases c : s = 1
    · subst c
      rfl
    · exact if_pos (nI_lt (a := 1) (by omega) (by omega))
  rw [e, hfi, Option.bind_some, w0, Option.bind_some, z1]
