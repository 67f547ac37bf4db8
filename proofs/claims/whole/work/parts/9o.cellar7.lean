/-- the digits: the class's copy in 103, the reference's row in 159 -/
def DG (n : Nat) (d : Nat → Nat) (a b : Mem) : Prop := (∀ k, k < n → a 103 k = nI (d k) ∧ b 159 k = nI (d k) ∧ d k ≤ 9) ∧ b 123 64 = nI n
theorem nx48 {n p x : Nat} (hn : n ≤ 10) (hp : p < n) (hx : x < n) : ∀ (q k m : Nat) (b : Mem), k + q = n → q < m → b 123 64 = nI n → F_R_findsNext_48 m (nI p) (nI x) (nI k) b = F_R_findsNext_87 gF (nI (n - 1)) (nI (p + 1)) (mw (mw (rp b 160 (fun i => if k ≤ i ∧ i < n then b 159 i else b 160 i)) 160 p (b 159 x)) 160 x (b 159 p)) := by
  intro q
  induction q with
  | zero =>
    intro k m b hk hm e
    obtain ⟨m, rfl⟩ : ∃ m', m = m' + 1 := ⟨m - 1, by omega⟩
    have e2 : (fun i => if k ≤ i ∧ i < n then b 159 i else b 160 i) = b 160 := by
      funext i
      exact if_neg (by omega)
    have l1 : ∀ t : Mem, ld t 159 (nI x) = some (t 159 x) := fun t => ld_in rfl (show x < 10 by omega) (by decide)
    have l2 : ∀ t : Mem, ld t 159 (nI p) = some (t 159 p) := fun t => ld_in rfl (show p < 10 by omega) (by decide)
    have w1 : ∀ (t : Mem) (v : Int32), sd t 160 (nI p) v = some (mw t 160 p v) := fun t v => sd_in rfl (show p < 10 by omega) (by decide)
    have w2 : ∀ (t : Mem) (v : Int32), sd t 160 (nI x) v = some (mw t 160 x v) := fun t v => sd_in rfl (show x < 10 by omega) (by decide)
    have e3 : nI n - 1 = nI (n - 1) := n_sub (b := 1) (by omega)
    rw [e2, rp_id]
    simp only [F_R_findsNext_48, e, if_pos (nI_le (show n ≤ k by omega) (show k < 2 ^ 31 by omega)), l1, l2, Option.bind_some, w1, w2, nI_1]
    rw [show (mw (mw b 160 p (b 159 x)) 160 x (mw b 160 p (b 159 x) 159 p)) 123 64 = nI n from e, e3]
    rfl
  | succ q ih =>
    intro k m b hk hm e
    obtain ⟨m, rfl⟩ : ∃ m', m = m' + 1 := ⟨m - 1, by omega⟩
    have l1 : ld b 159 (nI k) = some (b 159 k) := ld_in rfl (show k < 10 by omega) (by decide)
    simp only [F_R_findsNext_48, e, if_neg (show ¬ nI n ≤ nI k from nI_ge (by omega) (by omega)), l1, Option.bind_some]
    rw [sd_in (c := 160) rfl (show k < 10 by omega) (by decide)]
    simp only [Option.bind_some, nI_1]
    rw [ih (k + 1) m (mw b 160 k (b 159 k)) (by omega) (by omega) e, mw_rp b, rp_rp]
    have e2 : (fun i => if k + 1 ≤ i ∧ i < n then rp b 160 (up (b 160) k (b 159 k)) 159 i else rp b 160 (up (b 160) k (b 159 k)) 160 i) = fun i => if k ≤ i ∧ i < n then b 159 i else b 160 i := by
      funext i
      rw [rp_at, rp_o (by decide)]
      unfold up
      by_cases c1 : k + 1 ≤ i ∧ i < n
      · rw [if_pos c1, if_pos (by omega)]
      · rw [if_neg c1]
        by_cases c2 : i = k
        · rw [if_pos c2, if_pos (by omega), c2]
        · rw [if_neg c2, if_neg (by omega)]
    rw [e2]
    rfl
theorem nx27 {n p : Nat} {d : Nat → Nat} (hn : n ≤ 10) (hpn : p + 1 < n) (hd : d p < d (p + 1)) : ∀ (q m m' : Nat) (a b : Mem), p + 1 + q < n → q < m → q < m' → DG n d a b → ∃ (a' b' : Mem), F_D_goToNext_27 m (nI n) (nI p) (nI (p + 1 + q)) a = some (1, a') ∧ F_R_findsNext_32 m' (nI p) (nI (p + 1 + q)) b = some (1, b') ∧ (∀ k, k < n → b' 160 k = a' 103 k) ∧ (∀ x, x ≠ 103 → a' x = a x) ∧ ∀ x, x ≠ 160 → b' x = b x := by
  have main : ∀ (x m m' : Nat) (a b : Mem), p < x → x < n → DG n d a b → d p < d x → 0 < m → 0 < m' → ∃ (a' b' : Mem), F_D_goToNext_27 m (nI n) (nI p) (nI x) a = some (1, a') ∧ F_R_findsNext_32 m' (nI p) (nI x) b = some (1, b') ∧ (∀ k, k < n → b' 160 k = a' 103 k) ∧ (∀ x, x ≠ 103 → a' x = a x) ∧ ∀ x, x ≠ 160 → b' x = b x := by
    intro x m m' a b hpx hx h hlt hm hm'
    obtain ⟨m, rfl⟩ : ∃ m', m = m' + 1 := ⟨m - 1, by omega⟩
    obtain ⟨m', rfl⟩ : ∃ k, m' = k + 1 := ⟨m' - 1, by omega⟩
    obtain ⟨ax, bx, dx⟩ := h.1 x hx
    obtain ⟨ap, bp, dp⟩ := h.1 p (by omega)
    have g : ¬ nI x ≤ nI p := nI_ge (by omega) (by omega)
    have gv : nI (d p) < nI (d x) := nI_lt hlt (by omega)
    have la : ld a 103 (nI x) = some (nI (d x)) := (ld_in rfl (show x < 10 by omega) (by decide)).trans (congrArg some ax)
    have lp : ld a 103 (nI p) = some (nI (d p)) := (ld_in rfl (show p < 10 by omega) (by decide)).trans (congrArg some ap)
    have lb : ld b 159 (nI x) = some (nI (d x)) := (ld_in rfl (show x < 10 by omega) (by decide)).trans (congrArg some bx)
    have lq : ld b 159 (nI p) = some (nI (d p)) := (ld_in rfl (show p < 10 by omega) (by decide)).trans (congrArg some bp)
    have e3 : nI n - 1 = nI (n - 1) := n_sub (b := 1) (by omega)
    have hc := nx48 (p := p) (x := x) hn (by omega) hx n 0 gF b (by omega) (by rw [gF_eq]; omega) h.2
    obtain ⟨a', b', z1, z2, z3, z4, z5⟩ := rvP hn 10 (p + 1) (n - 1) gF gF (mw (mw a 103 p (a 103 x)) 103 x (a 103 p)) (mw (mw (rp b 160 (fun i => if 0 ≤ i ∧ i < n then b 159 i else b 160 i)) 160 p (b 159 x)) 160 x (b 159 p)) (by omega) (by omega) (by omega) (by rw [gF_eq]; omega) (by rw [gF_eq]; omega) (fun k hk => by
      by_cases q1 : k = x
      · subst q1; rw [mw_y, mw_y, bp, ap]
      · by_cases q2 : k = p
        · subst q2; rw [mw_n q1, mw_n q1, mw_y, mw_y, bx, ax]
        · rw [mw_n q1, mw_n q1, mw_n q2, mw_n q2, rp_at, if_pos ⟨Nat.zero_le k, hk⟩, (h.1 k hk).1, (h.1 k hk).2.1])
    refine ⟨a', b', ?_, ?_, z3, fun y hy => by rw [z4 y hy, mw_o hy, mw_o hy], fun y hy => by rw [z5 y hy, mw_o hy, mw_o hy, rp_o hy]⟩
    · simp only [F_D_goToNext_27, if_neg g, la, lp, Option.bind_some, if_pos gv, swC (show p < 10 by omega) (show x < 10 by omega), nI_1, e3, z1]
    · have hc : F_R_findsNext_48 gF (nI p) (nI x) 0 b = _ := hc
      simp only [F_R_findsNext_32, lb, lq, Option.bind_some, if_pos gv, hc, z2]
  intro q
  induction q with
  | zero =>
    intro m m' a b hx hm hm' h
    exact main (p + 1 + 0) m m' a b (by omega) hx h hd hm hm'
  | succ q ih =>
    intro m m' a b hx hm hm' h
    by_cases hlt : d p < d (p + 1 + (q + 1))
    · exact main _ m m' a b (by omega) hx h hlt (by omega) (by omega)
    · obtain ⟨m, rfl⟩ : ∃ m', m = m' + 1 := ⟨m - 1, by omega⟩
      obtain ⟨m', rfl⟩ : ∃ k, m' = k + 1 := ⟨m' - 1, by omega⟩
      obtain ⟨ax, bx, dx⟩ := h.1 (p + 1 + (q + 1)) hx
      obtain ⟨ap, bp, dp⟩ := h.1 p (by omega)
      have g : ¬ nI (p + 1 + (q + 1)) ≤ nI p := nI_ge (by omega) (by omega)
      have gv : ¬ nI (d p) < nI (d (p + 1 + (q + 1))) := nI_nlt (by omega) (by omega)
      have la : ld a 103 (nI (p + 1 + (q + 1))) = some (nI (d (p + 1 + (q + 1)))) := (ld_in rfl (show p + 1 + (q + 1) < 10 by omega) (by decide)).trans (congrArg some ax)
      have lp : ld a 103 (nI p) = some (nI (d p)) := (ld_in rfl (show p < 10 by omega) (by decide)).trans (congrArg some ap)
      have lb : ld b 159 (nI (p + 1 + (q + 1))) = some (nI (d (p + 1 + (q + 1)))) := (ld_in rfl (show p + 1 + (q + 1) < 10 by omega) (by decide)).trans (congrArg some bx)
      have lq : ld b 159 (nI p) = some (nI (d p)) := (ld_in rfl (show p < 10 by omega) (by decide)).trans (congrArg some bp)
      have e1 : nI (p + 1 + (q + 1)) + (-1) = nI (p + 1 + q) := by rw [m1_add]; exact nI_pred (p + 1 + q)
      have e2 : nI (p + 1 + (q + 1)) - 1 = nI (p + 1 + q) := nI_pred (p + 1 + q)
      obtain ⟨a', b', z1, z2, z3⟩ := ih m m' a b (by omega) (by omega) (by omega) h
      refine ⟨a', b', ?_, ?_, z3⟩
      · rw [← z1]
        simp only [F_D_goToNext_27, if_neg g, la, lp, Option.bind_some, if_neg gv, e1]
      · rw [← z2]
        simp only [F_R_findsNext_32, lb, lq, Option.bind_some, if_neg gv, e2]
