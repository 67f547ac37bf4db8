/-! ===== what a deed leaves ===== -/
theorem LwR_c {a a' b b' : Mem} (h1 : ∀ c, 7 ≤ c → c ≤ 12 → a' c = a c) (h2 : ∀ c, 132 ≤ c → c ≤ 138 → b' c = b c) (h : LwR a b) : LwR a' b' := by
  have h0 : LwR (mk 7 12 a) (mk 132 138 b) := h
  rw [← mk_c h1, ← mk_c h2] at h0
  exact h0
theorem TR_c {a a' b b' : Mem} (h1 : ∀ c, 21 ≤ c → c ≤ 36 → a' c = a c) (h2 : ∀ k, k ≠ 3 → b' 123 k = b 123 k) (h3 : ∀ c, 146 ≤ c → c ≤ 162 → b' c = b c) (h : TR a b) : TR a' b' := by
  have h0 : TR (mk 21 36 a) (fun c k => if c = 123 then (if k = 3 then 0 else b 123 k) else if 146 ≤ c ∧ c ≤ 162 then b c k else 0) := h
  have e : (fun c k => if c = 123 then (if k = 3 then 0 else b' 123 k) else if 146 ≤ c ∧ c ≤ 162 then b' c k else 0) = (fun c k => if c = 123 then (if k = 3 then 0 else b 123 k) else if 146 ≤ c ∧ c ≤ 162 then b c k else (0 : Int32)) := by
    funext c k
    by_cases c1 : c = 123
    · rw [if_pos c1, if_pos c1]
      by_cases c2 : k = 3
      · rw [if_pos c2, if_pos c2]
      · rw [if_neg c2, if_neg c2, h2 k c2]
    · rw [if_neg c1, if_neg c1]
      by_cases c2 : 146 ≤ c ∧ c ≤ 162
      · rw [if_pos c2, if_pos c2, h3 c c2.1 c2.2]
      · rw [if_neg c2, if_neg c2]
  rw [← mk_c h1, ← e] at h0
  exact h0
/-- flights and sizes and heights as they were; nothing else of the class but house and book, nothing else of the reference but its rows and the book -/
def frD (a a' b b' : Mem) : Prop := (∀ c, 7 ≤ c → c ≤ 36 → a' c = a c) ∧ a' 2 2 = a 2 2 ∧ (∀ f, f < 6 → a' 4 f = a 4 f) ∧ (∀ k, k < 96 → a' 3 k = a 3 k) ∧ (∀ k, k ≠ 3 → b' 123 k = b 123 k) ∧ (∀ c, 127 ≤ c → c ≤ 162 → c ≠ 129 → b' c = b c)
theorem RR_deed {a a' b b' : Mem} (hf : frD a a' b b') (hHM : HM a' b') (hBR : BR a' b') (h : RR a b) : RR a' b' := by
  obtain ⟨f1, f2, f3, f4, f5, f6⟩ := hf
  obtain ⟨hHS, -, -, hLw, hOr, hVi, hDo, hTR⟩ := h
  have n1 : nF a' = nF a := by unfold nF; rw [f2]
  have s1 : ∀ f, f < 6 → sz a' f = sz a f := fun f hf => by unfold sz; rw [f3 f hf]
  have hn6 := hHS.1
  have iS : ∀ f i, isS a f i → isS a' f i := fun f i hh => ⟨by rw [n1]; exact hh.1, by rw [s1 f (by have := hh.1; omega)]; exact hh.2⟩
  refine ⟨⟨by rw [n1]; exact hHS.1, by rw [n1, f2]; exact hHS.2.1, by rw [n1, f5 6 (by decide)]; exact hHS.2.2.1, fun f hf => ?_, fun f i hfi => ?_⟩, hHM, hBR, LwR_c (fun c c1 c2 => f1 c c1 (by omega)) (fun c c1 c2 => f6 c (by omega) (by omega) (by omega)) hLw, ?_, ?_, ?_, TR_c (fun c c1 c2 => f1 c (by omega) c2) f5 (fun c c1 c2 => f6 c (by omega) c2 (by omega)) hTR⟩
  · rw [n1] at hf
    rw [s1 f (by omega), f3 f (by omega), f6 127 (by decide) (by decide) (by decide)]
    exact hHS.2.2.2.1 f hf
  · have h1 : f < nF a := by rw [← n1]; exact hfi.1
    have h2 : i < sz a f := by rw [← s1 f (by omega)]; exact hfi.2
    have := hHS.2.2.2.1 f h1
    rw [f4 _ (by omega), f6 128 (by decide) (by decide) (by decide)]
    exact hHS.2.2.2.2 f i ⟨h1, h2⟩
  · obtain ⟨n, o1, o2, o3, o4⟩ := hOr
    refine ⟨n, o1, by rw [f1 15 (by decide) (by decide)]; exact o2, by rw [f5 33 (by decide)]; exact o3, fun l hl => ?_⟩
    obtain ⟨p1, w, f, i, p2, p3, p4⟩ := o4 l hl
    rw [f1 16 (by decide) (by decide), f6 140 (by decide) (by decide) (by decide)]
    exact ⟨p1, w, f, i, p2, iS f i p3, p4⟩
  · obtain ⟨n, o1, o2, o3, o4⟩ := hVi
    refine ⟨n, o1, by rw [f1 17 (by decide) (by decide)]; exact o2, by rw [f5 35 (by decide)]; exact o3, fun l hl => ?_⟩
    obtain ⟨p1, f, u, w, st, p2, p4⟩ := o4 l hl
    rw [f1 18 (by decide) (by decide), f6 141 (by decide) (by decide) (by decide)]
    exact ⟨p1, f, u, w, st, by rw [n1]; exact p2, p4⟩
  · obtain ⟨n, o1, o2, o3, o4⟩ := hDo
    refine ⟨n, o1, by rw [f1 19 (by decide) (by decide)]; exact o2, by rw [f5 37 (by decide)]; exact o3, fun l hl => ?_⟩
    obtain ⟨f, i, g, j, p1, p2, p3, p4⟩ := o4 l hl
    rw [f1 20 (by decide) (by decide), f6 142 (by decide) (by decide) (by decide)]
    exact ⟨f, i, g, j, iS f i p1, iS g j p2, p3, p4⟩
/-- the ring's rows, where a deed has not touched them -/
theorem row_deed {a a' b b' : Mem} {r j : Nat} (hr : r < 6) (h2 : a' 2 2 = a 2 2) (h4 : ∀ f, f < 6 → a' 4 f = a 4 f) (h3 : ∀ k, k < 96 → a' 3 k = a 3 k) (hR : ∀ c, 74 ≤ c → c ≤ 122 → a' c = a c) (hb : b' 125 = b 125) (h : rowU2 a b r j) : rowU2 a' b' r j := by
  obtain ⟨w1, w2, w3, w4, n, w5, w6, w7⟩ := h
  obtain ⟨g1, g2, g3⟩ := rg_eq (a := a') hr
  obtain ⟨q1, q2, q3⟩ := rg_eq (a := a) hr
  have v1 : rgH a' r = rgH a r := by rw [g1, q1]; exact hR _ (by omega) (by omega)
  have v2 : rgM a' r = rgM a r := by rw [g2, q2]; exact hR _ (by omega) (by omega)
  have v3 : rgS a' r = rgS a r := by rw [g3, q3]; exact hR _ (by omega) (by omega)
  refine ⟨by rw [v1, h2]; exact w1, fun f hf => by rw [v3, h4 f hf]; exact w2 f hf, fun k hk => by rw [v2, h3 k hk]; exact w3 k hk, HM_c (fun k _ _ => by rw [uc3, uc3, v2]) (fun k _ _ => by rw [uc2, uc2, v1]) (fun f _ => by rw [uc4, uc4, v3]) (fun k _ => by rw [um124, um124, hb]) w4, n, w5, by rw [hR 74 (by decide) (by decide)]; exact w6, by rw [hb]; exact w7⟩
/-! undo -/
theorem un16 {u : Nat} (hu : u < 6) : ∀ (q k m : Nat) (b : Mem), k + q = 773 → q < m → b 123 3 = nI u → F_R_undo_16 m (nI k) b = some (1, rp b 124 (fun i => if k ≤ i ∧ i < 773 then b 125 (773 * u + i) else b 124 i)) := by
  intro q
  induction q with
  | zero =>
    intro k m b hk hm e
    obtain ⟨m, rfl⟩ : ∃ m', m = m' + 1 := ⟨m - 1, by omega⟩
    have : k = 773 := by omega
    subst this
    have e2 : (fun i => if 773 ≤ i ∧ i < 773 then b 125 (773 * u + i) else b 124 i) = b 124 := by
      funext i
      exact if_neg (by omega)
    simp only [F_R_undo_16, if_pos (show (773 : Int32) ≤ nI 773 from by decide), e2, rp_id]
  | succ q ih =>
    intro k m b hk hm e
    obtain ⟨m, rfl⟩ : ∃ m', m = m' + 1 := ⟨m - 1, by omega⟩
    have e1 : (773 : Int32) * nI u + nI k = nI (773 * u + k) := by rw [show (773 : Int32) = nI 773 from rfl, n_mul, nI_add]
    have l1 : ld b 125 (nI (773 * u + k)) = some (b 125 (773 * u + k)) := ld_in rfl (show 773 * u + k < 4638 by omega) (by decide)
    simp only [F_R_undo_16, if_neg (show ¬ (773 : Int32) ≤ nI k from nI_ge (b := 773) (by omega) (by decide)), e, e1, l1, Option.bind_some, nI_1]
    rw [sd_in (c := 124) rfl (show k < 773 by omega) (by decide)]
    simp only [Option.bind_some]
    rw [ih (k + 1) m (mw b 124 k (b 125 (773 * u + k))) (by omega) (by omega) e, mw_rp b, rp_rp]
    congr 3
    funext i
    show (if k + 1 ≤ i ∧ i < 773 then b 125 (773 * u + i) else up (b 124) k (b 125 (773 * u + k)) i) = _
    unfold up
    by_cases c1 : k + 1 ≤ i ∧ i < 773
    · rw [if_pos c1, if_pos (by omega)]
    · rw [if_neg c1]
      by_cases c2 : i = k
      · rw [if_pos c2, if_pos (by omega), c2]
      · rw [if_neg c2, if_neg (by omega)]
theorem C_flm1 {x : Nat} (hx : x < 6) (s : Mem) : F_JM_floorMod (nI x - 1) 6 s = some (nI ((x + 5) % 6), s) := by
  rcases (show x = 0 ∨ x = 1 ∨ x = 2 ∨ x = 3 ∨ x = 4 ∨ x = 5 by omega) with rfl | rfl | rfl | rfl | rfl | rfl <;> rfl
