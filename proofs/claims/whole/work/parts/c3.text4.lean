/-! ===== text: both at one token ===== -/
def tokR (x y : Int32) (T : Nat × Nat × Nat × Nat) : Prop := (T.1 = 66 → x = 0) ∧ (T.1 = 65 → x = 1) ∧ (T.1 = 64 → x = 3 ∧ y = nI T.2.1 ∧ T.2.1 ≤ 9999) ∧ (T.1 < 30 → x = 2 ∧ y = nI T.1) ∧ (40 ≤ T.1 ∧ T.1 ≤ 62 → x = 4 ∧ y = nI T.1) ∧ (T.1 = 66 ∨ T.1 = 65 ∨ T.1 = 64 ∨ T.1 < 30 ∨ (40 ≤ T.1 ∧ T.1 ≤ 62))
def RDt (b : Mem) (T : Nat × Nat × Nat × Nat) : Prop := b 123 12 = nI T.2.2.2 ∧ b 123 13 = nI T.2.2.1 ∧ tokR (b 123 14) (b 123 15) T
theorem kw_r (t : Nat → Nat) (fr to : Nat) : kwN t fr to = 65 ∨ kwN t fr to < 30 := by
  unfold kwN
  cases h : fsW t fr to wrds 0 with
  | none => exact Or.inl rfl
  | some r =>
    have := fs_b wrds 0 r h
    rw [wr_T.2.2.2.1] at this
    exact Or.inr (by show r < 30; omega)
theorem sg_r {c : Nat} (h : sgB c = true) : 40 ≤ c ∧ c ≤ 62 := by
  unfold sgB at h
  simp only [Bool.or_eq_true, Bool.and_eq_true, decide_eq_true_eq] at h
  omega
theorem rd0 {t : Nat → Nat} {n : Nat} : ∀ (q i fu : Nat) (b : Mem), n < i + q → q ≤ fu → i ≤ n → TPr b t n → b 123 12 = nI i → ∃ (b' : Mem) (T : Nat × Nat × Nat × Nat) (R : List (Nat × Nat × Nat × Nat)), tkz t n q i = T :: R ∧ F_R_reads_0 fu b = some (0, b') ∧ frT b b' ∧ RDt b' T ∧ ((T.1 = 66 ∧ R = []) ∨ (T.1 ≠ 66 ∧ T.2.2.2 ≤ n ∧ ∃ q', q' ≤ q ∧ n < T.2.2.2 + q' ∧ R = tkz t n q' T.2.2.2)) := by
  intro q
  induction q with
  | zero => intro i fu b h1 _ h2; omega
  | succ q ih =>
    intro i fu b h1 hfu hi hT e12
    obtain ⟨fu, rfl⟩ : ∃ k, fu = k + 1 := ⟨fu - 1, by omega⟩
    have n4 := hT.1
    have ez : tkz t n (q + 1) i = if n ≤ i then [(66, 0, n, n)] else if ltB (t i) = true then (kwN t i (runT ltB t n (n - (i + 1)) (i + 1)), 0, i, runT ltB t n (n - (i + 1)) (i + 1)) :: tkz t n q (runT ltB t n (n - (i + 1)) (i + 1)) else if dgB (t i) = true then ((if runT dgB t n (n - (i + 1)) (i + 1) - i ≤ 4 then 64 else 65), vlT t (if runT dgB t n (n - (i + 1)) (i + 1) - i ≤ 4 then runT dgB t n (n - (i + 1)) (i + 1) - i else 4) i 0, i, runT dgB t n (n - (i + 1)) (i + 1)) :: tkz t n q (runT dgB t n (n - (i + 1)) (i + 1)) else if blB (t i) = true then tkz t n q (i + 1) else ((if sgB (t i) = true then t i else 65), 0, i, i + 1) :: tkz t n q (i + 1) := rfl
    have r1 := rawE hT hi
    -- the head of the loop, where it isn't blank
    have hT1 : TPr (mw (mw b 123 13 (nI i)) 123 14 1) t n := TPr_mw (TPr_mw hT (by decide)) (by decide)
    have r2 := rawE hT1 hi
    have f12 : mw (mw b 123 13 (nI i)) 123 14 1 123 12 = nI i := by rw [mw_k (by decide), mw_k (by decide)]; exact e12
    by_cases cn : n ≤ i
    · have ei : i = n := by omega
      rw [if_neg (show ¬ i < n by omega)] at r1 r2
      rw [ez, if_pos cn]
      refine ⟨mw (mw (mw b 123 13 (nI i)) 123 14 1) 123 14 0, _, _, rfl, ?_, frT_t (frT_t (frT_mw (by decide)) (frT_mw (by decide))) (frT_mw (by decide)), ⟨?_, ?_, ?_⟩, Or.inl ⟨rfl, rfl⟩⟩
      · rw [F_R_reads_0, e12, r1]
        simp only [Option.bind_some, if_neg (show ¬ (-1 : Int32) = 32 by decide), e12, r1, if_neg (show ¬ (-1 : Int32) = 10 by decide), f12, r2, if_true]
      · rw [mw_k (by decide), f12, ei]
      · rw [mw_k (by decide), mw_k (by decide), mwSelf, ei]
      · rw [mwSelf]
        exact ⟨fun _ => rfl, fun k => absurd k (show ¬ (66 : Nat) = 65 by decide), fun k => absurd k (show ¬ (66 : Nat) = 64 by decide), fun k => absurd k (show ¬ (66 : Nat) < 30 by decide), fun k => absurd k (show ¬ (40 ≤ (66 : Nat) ∧ (66 : Nat) ≤ 62) by decide), Or.inl rfl⟩
    · rw [if_pos (show i < n by omega)] at r1 r2
      obtain ⟨t1, t2⟩ := hT.2.2.1 i (by omega)
      have cls := cls_256 (t i) t2
      rw [ez, if_neg cn]
      have blank : blB (t i) = true → ltB (t i) = false ∧ dgB (t i) = false := fun k => by
        unfold blB at k
        rw [Bool.or_eq_true] at k
        rcases k with k | k
        · rw [of_decide_eq_true k]; decide
        · rw [of_decide_eq_true k]; decide
      by_cases cb : blB (t i) = true
      · obtain ⟨l0, d0⟩ := blank cb
        rw [if_neg (by rw [l0]; decide), if_neg (by rw [d0]; decide), if_pos cb]
        obtain ⟨b', T, R, k1, k2, k3, k4, k5⟩ := ih (i + 1) fu (mw b 123 12 (nI (i + 1))) (by omega) (by omega) (by omega) (TPr_mw hT (by decide)) (mwSelf _ _ _ _)
        have k5 : (T.1 = 66 ∧ R = []) ∨ (T.1 ≠ 66 ∧ T.2.2.2 ≤ n ∧ ∃ q', q' ≤ q + 1 ∧ n < T.2.2.2 + q' ∧ R = tkz t n q' T.2.2.2) := by
          rcases k5 with k | ⟨k, k6, q', k7, k8⟩
          · exact Or.inl k
          · exact Or.inr ⟨k, k6, q', by omega, k8⟩
        refine ⟨b', T, R, k1, ?_, frT_t (frT_mw (by decide)) k3, k4, k5⟩
        rw [← k2, F_R_reads_0, e12, r1]
        simp only [Option.bind_some]
        by_cases c32 : t i = 32
        · rw [if_pos (cls.2.2.2.2.1.mpr c32), e12, nI_1]
        · rw [if_neg (fun k => c32 (cls.2.2.2.2.1.mp k)), e12, r1]
          simp only [Option.bind_some]
          have c10 : t i = 10 := by
            unfold blB at cb
            rw [Bool.or_eq_true] at cb
            rcases cb with k | k
            · exact absurd (of_decide_eq_true k) c32
            · exact of_decide_eq_true k
          rw [if_pos (cls.2.2.2.2.2.mpr c10), e12, nI_1]
      · have c32 : ¬ nI (t i) = 32 := fun k => cb (by unfold blB; rw [decide_eq_true (cls.2.2.2.2.1.mp k)]; rfl)
        have c10 : ¬ nI (t i) = 10 := fun k => cb (by unfold blB; rw [decide_eq_true (cls.2.2.2.2.2.mp k), Bool.or_true])
        have cm1 : ¬ nI (t i) = -1 := nI_m1 (by omega)
        obtain ⟨b1, hb1⟩ : ∃ b1, b1 = mw (mw (mw (mw b 123 13 (nI i)) 123 14 1) 123 12 (nI (i + 1))) 123 15 (nI (t i)) := ⟨_, rfl⟩
        have hTb : TPr b1 t n := by rw [hb1]; exact TPr_mw (TPr_mw hT1 (by decide)) (by decide)
        have g12 : b1 123 12 = nI (i + 1) := by rw [hb1, mw_k (by decide), mwSelf]
        have g13 : b1 123 13 = nI i := by rw [hb1, mw_k (by decide), mw_k (by decide), mw_k (by decide), mwSelf]
        have g14 : b1 123 14 = 1 := by rw [hb1, mw_k (by decide), mw_k (by decide), mwSelf]
        have g15 : b1 123 15 = nI (t i) := by rw [hb1, mwSelf]
        have fb : frT b b1 := by rw [hb1]; exact frT_t (frT_t (frT_t (frT_mw (by decide)) (frT_mw (by decide))) (frT_mw (by decide))) (frT_mw (by decide))
        have red : F_R_reads_0 (fu + 1) b = if ¬ ltB (t i) = true then (if ¬ dgB (t i) = true then (if ¬ sgB (t i) = true then some (0, b1) else some (0, mw b1 123 14 4)) else F_R_reads_90 gF (mw b1 123 15 (nI (t i) - 48))) else F_R_reads_51 gF b1 := by
          rw [F_R_reads_0, e12, r1]
          simp only [Option.bind_some, if_neg c32, e12, r1, if_neg c10, f12, r2, if_neg cm1, nI_1, ← hb1, R_isLetter t2, R_isDigit t2, R_isMark t2, b01]
        rw [red]
        by_cases cl : ltB (t i) = true
        · rw [if_pos cl, if_neg (fun k => k cl)]
          have rb := rn_b (p := ltB) (t := t) (n := n) (n - (i + 1)) (i + 1) (by omega)
          obtain ⟨b', k1, k2, k3, k4, k5, k6⟩ := r51 (n - (i + 1)) (i + 1) gF b1 (by omega) (by rw [gF_eq]; omega) hTb g12 g13 (by omega) (fun k x1 x2 => by rw [show k = i by omega]; exact cl) g14
          generalize runT ltB t n (n - (i + 1)) (i + 1) = to at rb k3 k5 k6 ⊢
          have kr := kw_r t i to
          refine ⟨b', _, _, rfl, k1, frT_t fb k2, ⟨k3, k4, ?_, ?_, ?_, ?_, ?_, ?_⟩, Or.inr ⟨?_, rb.2, q, Nat.le_succ q, by show n < to + q; omega, rfl⟩⟩
          · intro k; have k : kwN t i to = 66 := k; omega
          · exact k5
          · intro k; have k : kwN t i to = 64 := k; omega
          · exact k6
          · intro k; have k : 40 ≤ kwN t i to ∧ kwN t i to ≤ 62 := k; omega
          · show kwN t i to = 66 ∨ kwN t i to = 65 ∨ kwN t i to = 64 ∨ kwN t i to < 30 ∨ _
            omega
          · show kwN t i to ≠ 66
            omega
        · rw [if_neg cl, if_pos cl]
          by_cases cd : dgB (t i) = true
          · rw [if_pos cd, if_neg (show ¬ ¬ dgB (t i) = true from fun k => k cd)]
            have d1 := dg_48 cd
            have rb := rn_b (p := dgB) (t := t) (n := n) (n - (i + 1)) (i + 1) (by omega)
            have e48 : nI (t i) - 48 = nI (t i - 48) := by rw [show (48 : Int32) = nI 48 from rfl, n_sub (by omega)]
            rw [e48]
            obtain ⟨b', k1, k2, k3, k4, k5, k6⟩ := r90 (n - (i + 1)) (i + 1) gF (t i - 48) (mw b1 123 15 (nI (t i - 48))) (by omega) (by rw [gF_eq]; omega) (TPr_mw hTb (by decide)) (by rw [mw_k (by decide)]; exact g12) (by rw [mw_k (by decide)]; exact g13) (by omega) (by rw [mw_k (by decide)]; exact g14) (mwSelf _ _ _ _) (by omega) (fun _ => by
              rw [show i + 1 - i = 1 by omega]
              refine ⟨?_, by omega⟩
              show t i - 48 = 0 * 10 + t i - 48
              omega)
            generalize runT dgB t n (n - (i + 1)) (i + 1) = to at rb k3 k5 k6 ⊢
            by_cases c4 : to - i ≤ 4
            · rw [if_pos c4, if_pos c4]
              obtain ⟨y1, y2, y3⟩ := k5 c4
              exact ⟨b', _, _, rfl, k1, frT_t (frT_t fb (frT_mw (by decide))) k2, ⟨k3, k4, fun k => absurd k (show ¬ (64 : Nat) = 66 by decide), fun k => absurd k (show ¬ (64 : Nat) = 65 by decide), fun _ => ⟨y1, y2, y3⟩, fun k => absurd k (show ¬ (64 : Nat) < 30 by decide), fun k => absurd k (show ¬ (40 ≤ (64 : Nat) ∧ (64 : Nat) ≤ 62) by decide), Or.inr (Or.inr (Or.inl rfl))⟩, Or.inr ⟨show (64 : Nat) ≠ 66 by decide, rb.2, q, Nat.le_succ q, by show n < to + q; omega, rfl⟩⟩
            · rw [if_neg c4, if_neg c4]
              exact ⟨b', _, _, rfl, k1, frT_t (frT_t fb (frT_mw (by decide))) k2, ⟨k3, k4, fun k => absurd k (show ¬ (65 : Nat) = 66 by decide), fun _ => k6 c4, fun k => absurd k (show ¬ (65 : Nat) = 64 by decide), fun k => absurd k (show ¬ (65 : Nat) < 30 by decide), fun k => absurd k (show ¬ (40 ≤ (65 : Nat) ∧ (65 : Nat) ≤ 62) by decide), Or.inr (Or.inl rfl)⟩, Or.inr ⟨show (65 : Nat) ≠ 66 by decide, rb.2, q, Nat.le_succ q, by show n < to + q; omega, rfl⟩⟩
          · rw [if_neg cd, if_pos cd, if_neg cb]
            by_cases cs : sgB (t i) = true
            · have sr := sg_r cs
              rw [if_pos cs, if_neg (fun k => k cs)]
              refine ⟨_, _, _, rfl, rfl, frT_t fb (frT_mw (by decide)), ⟨by rw [mw_k (by decide)]; exact g12, by rw [mw_k (by decide)]; exact g13, ?_, ?_, ?_, ?_, ?_, ?_⟩, Or.inr ⟨?_, by show i + 1 ≤ n; omega, q, Nat.le_succ q, by show n < i + 1 + q; omega, rfl⟩⟩
              · intro k; have k : t i = 66 := k; omega
              · intro k; have k : t i = 65 := k; omega
              · intro k; have k : t i = 64 := k; omega
              · intro k; have k : t i < 30 := k; omega
              · exact fun _ => ⟨mwSelf _ _ _ _, by rw [mw_k (by decide)]; exact g15⟩
              · exact Or.inr (Or.inr (Or.inr (Or.inr sr)))
              · show t i ≠ 66
                omega
            · rw [if_neg cs, if_pos cs]
              exact ⟨b1, _, _, rfl, rfl, fb, ⟨g12, g13, fun k => absurd k (show ¬ (65 : Nat) = 66 by decide), fun _ => g14, fun k => absurd k (show ¬ (65 : Nat) = 64 by decide), fun k => absurd k (show ¬ (65 : Nat) < 30 by decide), fun k => absurd k (show ¬ (40 ≤ (65 : Nat) ∧ (65 : Nat) ≤ 62) by decide), Or.inr (Or.inl rfl)⟩, Or.inr ⟨show (65 : Nat) ≠ 66 by decide, by show i + 1 ≤ n; omega, q, Nat.le_succ q, by show n < i + 1 + q; omega, rfl⟩⟩
theorem tk_len {t : Nat → Nat} {n : Nat} : ∀ q i, i ≤ n → (tkz t n q i).length ≤ n - i + 1 := by
  intro q
  induction q with
  | zero => intro i _; exact Nat.zero_le _
  | succ q ih =>
    intro i hi
    have rb1 := fun h => rn_b (p := ltB) (t := t) (n := n) (n - (i + 1)) (i + 1) h
    have rb2 := fun h => rn_b (p := dgB) (t := t) (n := n) (n - (i + 1)) (i + 1) h
    unfold tkz
    split
    · show 1 ≤ _
      omega
    · have r1 := rb1 (by omega)
      have r2 := rb2 (by omega)
      split
      · rw [List.length_cons]
        have := ih _ r1.2
        omega
      · split
        · rw [List.length_cons]
          have := ih _ r2.2
          omega
        · split
          · have := ih (i + 1) (by omega)
            omega
          · rw [List.length_cons]
            have := ih (i + 1) (by omega)
            omega
abbrev Tok := Nat × Nat × Nat × Nat
def tkN (L : List (Nat × Nat × Nat × Nat)) (j : Nat) : Nat × Nat × Nat × Nat := L.getD j (0, 0, 0, 0)
/-- the reference at token j -/
def PSt (b : Mem) (t : Nat → Nat) (n : Nat) (L : List (Nat × Nat × Nat × Nat)) (j : Nat) : Prop := j < L.length ∧ TPr b t n ∧ RDt b (tkN L j) ∧ ((tkN L j).1 = 66 → j + 1 = L.length) ∧ ((tkN L j).1 ≠ 66 → (tkN L j).2.2.2 ≤ n ∧ ∃ q, q ≤ 1000 ∧ n < (tkN L j).2.2.2 + q ∧ L.drop (j + 1) = tkz t n q (tkN L j).2.2.2)
theorem TPr_fr {b b' : Mem} {t : Nat → Nat} {n : Nat} (h : TPr b t n) (k : frT b b') : TPr b' t n := by
  unfold TPr
  rw [k.1 130 (by decide), k.1 131 (by decide), k.2 11 (by decide) (by decide) (by decide) (by decide)]
  exact h
theorem rd_at {b : Mem} {t : Nat → Nat} {n q i j : Nat} {L : List (Nat × Nat × Nat × Nat)} (h1 : n < i + q) (hi : i ≤ n) (hT : TPr b t n) (e12 : b 123 12 = nI i) (hL : L.drop j = tkz t n q i) (hq : q ≤ 1000) : ∃ b', F_R_reads b = some (0, b') ∧ frT b b' ∧ PSt b' t n L j := by
  obtain ⟨b', T, R, k1, k2, k3, k4, k5⟩ := rd0 q i gF b h1 (by rw [gF_eq]; omega) hi hT e12
  rw [k1] at hL
  have jl : j < L.length := by
    rcases Nat.lt_or_ge j L.length with c | c
    · exact c
    · rw [List.drop_eq_nil_of_le c] at hL
      exact absurd hL (by simp)
  have eT : tkN L j = T := by
    have e1 : L.drop j = L[j] :: L.drop (j + 1) := List.drop_eq_getElem_cons jl
    rw [e1] at hL
    have := (List.cons.inj hL).1
    unfold tkN
    rw [List.getD_eq_getElem?_getD, List.getElem?_eq_getElem jl]
    exact this
  have eR : L.drop (j + 1) = R := by
    have e1 : L.drop j = L[j] :: L.drop (j + 1) := List.drop_eq_getElem_cons jl
    rw [e1] at hL
    exact (List.cons.inj hL).2
  refine ⟨b', k2, k3, jl, TPr_fr hT k3, by rw [eT]; exact k4, fun k => ?_, fun k => ?_⟩
  · rw [eT] at k
    rcases k5 with ⟨-, c⟩ | ⟨c, -⟩
    · rw [c] at eR
      have := List.drop_eq_nil_iff.mp eR
      omega
    · exact absurd k c
  · rw [eT] at k ⊢
    rcases k5 with ⟨c, -⟩ | ⟨-, c1, q', c0, c2, c3⟩
    · exact absurd c k
    · exact ⟨c1, q', by omega, c2, by rw [eR, c3]⟩
