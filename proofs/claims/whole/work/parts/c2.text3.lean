/-! ===== text: the reference's tokens ===== -/
def TPr (b : Mem) (t : Nat → Nat) (n : Nat) : Prop := n ≤ 400 ∧ b 123 11 = nI n ∧ (∀ k, k < n → b 130 k = nI (t k) ∧ t k < 256) ∧ ∀ k, k < 170 → b 131 k = wrdT.getD k 0
theorem TPr_mw {b : Mem} {t : Nat → Nat} {n k : Nat} {v : Int32} (h : TPr b t n) (hk : k ≠ 11) : TPr (mw b 123 k v) t n := by
  unfold TPr
  rw [mw_o (show (130 : Nat) ≠ 123 by decide), mw_o (show (131 : Nat) ≠ 123 by decide), show mw b 123 k v 123 11 = b 123 11 by simp [mw, Ne.symm hk]]
  exact h
theorem wr_T : wrdT = (32 :: fltW wrds).map nI ∧ (32 :: fltW wrds).length = 170 ∧ (∀ w ∈ wrds, ∀ c ∈ w, c ≠ 32) ∧ wrds.length = 30 ∧ ∀ c ∈ (32 :: fltW wrds), c < 256 := by decide +kernel
theorem wcell {b : Mem} {t : Nat → Nat} {n k c : Nat} {M R : List Nat} (hT : TPr b t n) (h : M ++ c :: R = 32 :: fltW wrds) (hk : M.length = k) : ld b 131 (nI k) = some (nI c) ∧ k < 170 ∧ c < 256 := by
  have hl := wr_T.2.1
  rw [← h, List.length_append, List.length_cons] at hl
  have k170 : k < 170 := by omega
  have hc : c < 256 := wr_T.2.2.2.2 c (by rw [← h]; exact List.mem_append_right M List.mem_cons_self)
  refine ⟨(ld_in rfl (show k < 170 from k170) (by decide)).trans (congrArg some ?_), k170, hc⟩
  rw [hT.2.2.2 k k170, wr_T.1, ← h, List.getD_eq_getElem?_getD, List.getElem?_map, ← hk, List.getElem?_append_right (Nat.le_refl _), Nat.sub_self]
  rfl
theorem w59 {b : Mem} {t : Nat → Nat} {n : Nat} {x1 x2 x3 : Int32} {R : List Nat} {k4 : Int32 → Int32 → Int32 → Int32 → Mem → Option (Int32 × Mem)} (hT : TPr b t n) : ∀ (v M : List Nat) (fu p : Nat), M ++ (v ++ 32 :: R) = 32 :: fltW wrds → M.length = p → (∀ c ∈ v, c ≠ 32) → v.length < fu → F_R_wordAt_59 k4 fu x1 x2 x3 (nI p) b = k4 x1 x2 x3 (nI (p + v.length)) b := by
  intro v
  induction v with
  | nil =>
    intro M fu p h hp _ hfu
    obtain ⟨fu, rfl⟩ : ∃ m, fu = m + 1 := ⟨fu - 1, by have : 0 < fu := hfu; omega⟩
    rw [F_R_wordAt_59, (wcell hT h hp).1]
    simp only [Option.bind_some]
    rw [if_pos (show nI 32 = 32 from rfl)]
    rfl
  | cons c v ih =>
    intro M fu p h hp hv hfu
    rw [List.length_cons] at hfu
    obtain ⟨fu, rfl⟩ : ∃ m, fu = m + 1 := ⟨fu - 1, by omega⟩
    obtain ⟨w1, w2, w3⟩ := wcell hT h hp
    have hc := hv c List.mem_cons_self
    have := ih (M ++ [c]) fu (p + 1) (by rw [List.append_assoc]; exact h) (by rw [List.length_append, hp]; rfl) (fun d hd => hv d (List.mem_cons_of_mem c hd)) (by omega)
    rw [F_R_wordAt_59, w1]
    simp only [Option.bind_some]
    rw [if_neg (show ¬ nI c = 32 from fun q => hc ((nI_eq (b := 32) (by omega) (by decide)).mp q)), nI_1, this, List.length_cons, show p + 1 + v.length = p + (v.length + 1) by omega]
theorem w13 {b : Mem} {t : Nat → Nat} {n fr to k : Nat} {x3 : Int32} {R M : List Nat} {k4 : Int32 → Int32 → Int32 → Int32 → Mem → Option (Int32 × Mem)} (hT : TPr b t n) (hto : to ≤ n) (hM : M.length = k) (hlt : ∀ j, fr ≤ j → j < to → t j ≠ 32) : ∀ (v u : List Nat) (fu i : Nat), M ++ 32 :: (u ++ (v ++ 32 :: R)) = 32 :: fltW wrds → u.length = i → (∀ c ∈ v, c ≠ 32) → v.length < fu → fr + i ≤ to → F_R_wordAt_13 k4 fu (nI fr) (nI to) x3 (nI k) (nI i) b = if mtB t to v (fr + i) = true then some (x3, b) else F_R_wordAt_59 k4 gF (nI fr) (nI to) x3 (nI (k + 1)) b := by
  have n4 := hT.1
  have cell : ∀ (u : List Nat) (i c : Nat) (Q : List Nat), M ++ 32 :: (u ++ c :: Q) = 32 :: fltW wrds → u.length = i → ld b 131 (nI k + 1 + nI i) = some (nI c) ∧ c < 256 := fun u i c Q h hu => by
    have e : (M ++ 32 :: u) ++ c :: Q = 32 :: fltW wrds := by rw [← h, List.append_assoc]; rfl
    have := wcell hT e (k := k + 1 + i) (by rw [List.length_append, List.length_cons, hM, hu]; omega)
    rw [nI_1, nI_add]
    exact ⟨this.1, this.2.2⟩
  have tape : ∀ j, j < to → ld b 130 (nI j) = some (nI (t j)) ∧ t j < 256 := fun j hj => by
    obtain ⟨t1, t2⟩ := hT.2.2.1 j (by omega)
    exact ⟨(ld_in rfl (show j < 400 by omega) (by decide)).trans (congrArg some t1), t2⟩
  intro v
  induction v with
  | nil =>
    intro u fu i h hu _ hfu hi
    obtain ⟨fu, rfl⟩ : ∃ m, fu = m + 1 := ⟨fu - 1, by have : 0 < fu := hfu; omega⟩
    obtain ⟨c1, -⟩ := cell u i 32 R h hu
    have em : mtB t to [] (fr + i) = decide (fr + i = to) := rfl
    rw [F_R_wordAt_13, em, nI_add]
    by_cases ce : fr + i = to
    · rw [if_pos (nI_le (show to ≤ fr + i by omega) (by omega)), if_pos (by rw [ce]), c1, if_pos (decide_eq_true ce)]
      simp only [Option.bind_some]
      rw [if_pos (show nI 32 = 32 from rfl)]
    · obtain ⟨p1, p2⟩ := tape (fr + i) (by omega)
      rw [if_neg (nI_ge (show fr + i < to by omega) (by omega)), c1, p1, decide_eq_false ce, if_neg Bool.false_ne_true]
      simp only [Option.bind_some]
      rw [if_neg (show ¬ (nI 32 = nI (t (fr + i))) from fun q => hlt (fr + i) (by omega) (by omega) ((nI_eq (by decide) (by omega)).mp q).symm), if_neg (fun q => ce ((nI_eq (by omega) (by omega)).mp q)), nI_1]
  | cons c v ih =>
    intro u fu i h hu hv hfu hi
    rw [List.length_cons] at hfu
    obtain ⟨fu, rfl⟩ : ∃ m, fu = m + 1 := ⟨fu - 1, by omega⟩
    obtain ⟨c1, c2⟩ := cell u i c (v ++ 32 :: R) h hu
    have hc := hv c List.mem_cons_self
    have em : mtB t to (c :: v) (fr + i) = (decide (fr + i < to) && (decide (t (fr + i) = c) && mtB t to v (fr + i + 1))) := rfl
    rw [F_R_wordAt_13, em, nI_add]
    by_cases ce : fr + i = to
    · rw [if_pos (nI_le (show to ≤ fr + i by omega) (by omega)), if_pos (by rw [ce]), c1, decide_eq_false (show ¬ fr + i < to by omega), Bool.false_and, if_neg Bool.false_ne_true]
      simp only [Option.bind_some]
      rw [if_neg (show ¬ nI c = 32 from fun q => hc ((nI_eq (b := 32) (by omega) (by decide)).mp q)), nI_1]
    · obtain ⟨p1, p2⟩ := tape (fr + i) (by omega)
      rw [if_neg (nI_ge (show fr + i < to by omega) (by omega)), c1, p1, decide_eq_true (show fr + i < to by omega), Bool.true_and]
      simp only [Option.bind_some]
      by_cases ct : t (fr + i) = c
      · have nx := ih (u ++ [c]) fu (i + 1) (by rw [List.append_assoc]; exact h) (by rw [List.length_append, hu]; rfl) (fun d hd => hv d (List.mem_cons_of_mem c hd)) (by omega) (by omega)
        rw [if_pos (by rw [ct]), decide_eq_true ct, Bool.true_and, nI_1]
        exact nx
      · rw [if_neg (fun q => ct ((nI_eq (by omega) (by omega)).mp q).symm), if_neg (fun q => ce ((nI_eq (by omega) (by omega)).mp q)), decide_eq_false ct, Bool.false_and, if_neg Bool.false_ne_true, nI_1]
theorem w4 {b : Mem} {t : Nat → Nat} {n fr to : Nat} (hT : TPr b t n) (hto : to ≤ n) (hfr : fr ≤ to) (hlt : ∀ j, fr ≤ j → j < to → t j ≠ 32) : ∀ (ws : List (List Nat)) (M : List Nat) (fu k num : Nat) (x3 : Int32), M ++ 32 :: fltW ws = 32 :: fltW wrds → M.length = k → (∀ w ∈ ws, ∀ c ∈ w, c ≠ 32) → ws.length < fu → x3 + 1 = nI num → F_R_wordAt_4 fu (nI fr) (nI to) x3 (nI k) b = some (resW (fsW t fr to ws num), b) := by
  intro ws
  induction ws with
  | nil =>
    intro M fu k num x3 h hM _ hfu _
    obtain ⟨fu, rfl⟩ : ∃ m, fu = m + 1 := ⟨fu - 1, by have : 0 < fu := hfu; omega⟩
    have hl := wr_T.2.1
    rw [← h, List.length_append] at hl
    have hl : M.length + 1 = 170 := hl
    rw [F_R_wordAt_4, if_pos (show (169 : Int32) ≤ nI k from nI_le (a := 169) (by omega) (by omega))]
    rfl
  | cons w ws ih =>
    intro M fu k num x3 h hM hw hfu hx
    rw [List.length_cons] at hfu
    obtain ⟨fu, rfl⟩ : ∃ m, fu = m + 1 := ⟨fu - 1, by omega⟩
    have h' : M ++ 32 :: ([] ++ (w ++ 32 :: fltW ws)) = 32 :: fltW wrds := h
    have hl := wr_T.2.1
    rw [← h'] at hl
    simp only [List.length_append, List.length_cons, List.nil_append] at hl
    have g1 := w13 (x3 := x3 + 1) (k4 := F_R_wordAt_4 fu) hT hto hM hlt w [] gF 0 h' rfl (hw w List.mem_cons_self) (by rw [gF_eq]; omega) (by omega)
    have g1 : F_R_wordAt_13 (F_R_wordAt_4 fu) gF (nI fr) (nI to) (x3 + 1) (nI k) 0 b = _ := g1
    have g2 := w59 (x1 := nI fr) (x2 := nI to) (x3 := x3 + 1) (R := fltW ws) (k4 := F_R_wordAt_4 fu) hT w (M ++ [32]) gF (k + 1) (by rw [List.append_assoc]; exact h') (by rw [List.length_append, hM]; rfl) (hw w List.mem_cons_self) (by rw [gF_eq]; omega)
    have g3 := ih (M ++ 32 :: w) fu (k + 1 + w.length) (num + 1) (nI num) (by rw [List.append_assoc]; exact h') (by rw [List.length_append, List.length_cons, hM]; omega) (fun v hv => hw v (List.mem_cons_of_mem w hv)) (by omega) (nI_1 num)
    rw [F_R_wordAt_4, if_neg (show ¬ (169 : Int32) ≤ nI k from nI_ge (b := 169) (by omega) (by decide)), g1, Nat.add_zero]
    show _ = some (resW (if mtB t to w fr = true then some num else fsW t fr to ws (num + 1)), b)
    by_cases c : mtB t to w fr = true
    · rw [if_pos c, if_pos c, hx]
      rfl
    · rw [if_neg c, if_neg c, g2, hx, g3]
theorem R_word {b : Mem} {t : Nat → Nat} {n fr to : Nat} (hT : TPr b t n) (hto : to ≤ n) (hfr : fr ≤ to) (hlt : ∀ j, fr ≤ j → j < to → t j ≠ 32) : F_R_wordAt (nI fr) (nI to) b = some (resW (fsW t fr to wrds 0), b) := w4 hT hto hfr hlt wrds [] gF 0 0 (-1) rfl rfl wr_T.2.2.1 (by rw [wr_T.2.2.2.1, gF_eq]; decide) (by decide)
theorem rawE {b : Mem} {t : Nat → Nat} {n i : Nat} (hT : TPr b t n) (hi : i ≤ n) : F_R_raw (nI i) b = some (if i < n then nI (t i) else -1, b) := by
  have n4 := hT.1
  rw [F_R_raw, hT.2.1]
  by_cases c : i < n
  · rw [if_neg (nI_ge c (by omega)), if_pos c, ld_in (s := b) (c := 130) (k := i) rfl (show i < 400 by omega) (by decide), (hT.2.2.1 i c).1]
    rfl
  · rw [if_pos (nI_le (show n ≤ i by omega) (by omega)), if_neg c]
def frT (b b' : Mem) : Prop := (∀ c, c ≠ 123 → b' c = b c) ∧ ∀ k, k ≠ 12 → k ≠ 13 → k ≠ 14 → k ≠ 15 → b' 123 k = b 123 k
theorem frT_mw {b : Mem} {k : Nat} {v : Int32} (h : k = 12 ∨ k = 13 ∨ k = 14 ∨ k = 15) : frT b (mw b 123 k v) := by
  refine ⟨fun c hc => mw_o hc, fun j j1 j2 j3 j4 => ?_⟩
  have : ¬ j = k := by omega
  simp [mw, this]
theorem frT_t {a b c : Mem} (h : frT a b) (k : frT b c) : frT a c := ⟨fun x hx => (k.1 x hx).trans (h.1 x hx), fun j j1 j2 j3 j4 => (k.2 j j1 j2 j3 j4).trans (h.2 j j1 j2 j3 j4)⟩
theorem mw_k {s : Mem} {c k j : Nat} {v : Int32} (h : j ≠ k) : mw s c k v c j = s c j := by simp [mw, h]
theorem r51 {t : Nat → Nat} {n i : Nat} : ∀ (q j fu : Nat) (b : Mem), j + q = n → q < fu → TPr b t n → b 123 12 = nI j → b 123 13 = nI i → i < j → (∀ k, i ≤ k → k < j → ltB (t k) = true) → b 123 14 = 1 → ∃ b', F_R_reads_51 fu b = some (0, b') ∧ frT b b' ∧ b' 123 12 = nI (runT ltB t n q j) ∧ b' 123 13 = nI i ∧ (kwN t i (runT ltB t n q j) = 65 → b' 123 14 = 1) ∧ (kwN t i (runT ltB t n q j) < 30 → b' 123 14 = 2 ∧ b' 123 15 = nI (kwN t i (runT ltB t n q j))) := by
  have stop : ∀ (j fu : Nat) (b : Mem), j ≤ n → TPr b t n → b 123 12 = nI j → b 123 13 = nI i → i < j → (∀ k, i ≤ k → k < j → ltB (t k) = true) → b 123 14 = 1 → (¬ (j < n ∧ ltB (t j) = true)) → ∃ b', F_R_reads_51 (fu + 1) b = some (0, b') ∧ frT b b' ∧ b' 123 12 = nI j ∧ b' 123 13 = nI i ∧ (kwN t i j = 65 → b' 123 14 = 1) ∧ (kwN t i j < 30 → b' 123 14 = 2 ∧ b' 123 15 = nI (kwN t i j)) := fun j fu b hj hT e12 e13 hij hl e14 hn => by
    have r1 := rawE hT hj
    have il : F_R_isLetter (if j < n then nI (t j) else -1) b = some (0, b) := by
      by_cases c : j < n
      · rw [if_pos c, R_isLetter (hT.2.2.1 j c).2, if_neg (fun k => hn ⟨c, k⟩)]
      · rw [if_neg c]
        rfl
    have wd := R_word (fr := i) (to := j) hT hj (by omega) (fun k k1 k2 q => by
      have := hl k k1 k2
      rw [q] at this
      exact absurd this (by decide))
    have red : F_R_reads_51 (fu + 1) b = (let s4 : Mem := mw b 123 15 (resW (fsW t i j wrds 0)); if (s4 123 15) = (-1) then some (0, s4) else let s5 : Mem := mw s4 123 14 2; some (0, s5)) := by
      rw [F_R_reads_51, e12, r1]
      simp only [Option.bind_some, il, if_true, e12, e13, wd]
    rw [red]
    simp only [mwSelf]
    unfold kwN
    cases hf : fsW t i j wrds 0 with
    | none =>
      rw [if_pos (show resW none = -1 from rfl)]
      refine ⟨_, rfl, frT_mw (by decide), by rw [mw_k (by decide)]; exact e12, by rw [mw_k (by decide)]; exact e13, fun _ => by rw [mw_k (by decide)]; exact e14, fun k => ?_⟩
      have k : (65 : Nat) < 30 := k
      omega
    | some r =>
      have rb := fs_b wrds 0 r hf
      rw [wr_T.2.2.2.1] at rb
      have ne : ¬ resW (some r) = -1 := nI_m1 (by omega)
      rw [if_neg ne]
      refine ⟨_, rfl, frT_t (frT_mw (by decide)) (frT_mw (by decide)), by rw [mw_k (by decide), mw_k (by decide)]; exact e12, by rw [mw_k (by decide), mw_k (by decide)]; exact e13, fun k => ?_, fun _ => ⟨mwSelf _ _ _ _, by rw [mw_k (by decide), mwSelf]; rfl⟩⟩
      have k : r = 65 := k
      omega
  intro q
  induction q with
  | zero =>
    intro j fu b hj hfu hT e12 e13 hij hl e14
    obtain ⟨fu, rfl⟩ : ∃ k, fu = k + 1 := ⟨fu - 1, by omega⟩
    exact stop j fu b (by omega) hT e12 e13 hij hl e14 (fun k => by omega)
  | succ q ih =>
    intro j fu b hj hfu hT e12 e13 hij hl e14
    obtain ⟨fu, rfl⟩ : ∃ k, fu = k + 1 := ⟨fu - 1, by omega⟩
    by_cases c : ltB (t j) = true
    · have er : runT ltB t n (q + 1) j = runT ltB t n q (j + 1) := if_pos ⟨by omega, c⟩
      have r1 := rawE hT (show j ≤ n by omega)
      rw [if_pos (show j < n by omega)] at r1
      have il := R_isLetter (hT.2.2.1 j (by omega)).2 b
      rw [if_pos c] at il
      obtain ⟨b', k1, k2, k3⟩ := ih (j + 1) fu (mw b 123 12 (nI (j + 1))) (by omega) (by omega) (TPr_mw hT (by decide)) (mwSelf _ _ _ _) (by rw [mw_k (by decide)]; exact e13) (by omega) (fun k h1 h2 => by
        by_cases ck : k = j
        · rw [ck]; exact c
        · exact hl k h1 (by omega)) (by rw [mw_k (by decide)]; exact e14)
      rw [er]
      refine ⟨b', ?_, frT_t (frT_mw (by decide)) k2, k3⟩
      rw [F_R_reads_51, e12, r1]
      simp only [Option.bind_some, il, one0, if_false, e12, nI_1]
      exact k1
    · have er : runT ltB t n (q + 1) j = j := if_neg (fun k => c k.2)
      rw [er]
      exact stop j fu b (by omega) hT e12 e13 hij hl e14 (fun k => c k.2)
theorem vl_s {t : Nat → Nat} : ∀ (q i v : Nat), vlT t (q + 1) i v = vlT t q i v * 10 + t (i + q) - 48 := by
  intro q
  induction q with
  | zero => intro i v; rfl
  | succ q ih =>
    intro i v
    show vlT t (q + 1) (i + 1) (v * 10 + t i - 48) = vlT t q (i + 1) (v * 10 + t i - 48) * 10 + t (i + (q + 1)) - 48
    rw [ih, show i + 1 + q = i + (q + 1) by omega]
theorem r90 {t : Nat → Nat} {n i : Nat} : ∀ (q j fu v : Nat) (b : Mem), j + q = n → q < fu → TPr b t n → b 123 12 = nI j → b 123 13 = nI i → i < j → b 123 14 = 1 → b 123 15 = nI v → v < 100000 → (j - i ≤ 4 → v = vlT t (j - i) i 0 ∧ v < 10 ^ (j - i)) → ∃ b', F_R_reads_90 fu b = some (0, b') ∧ frT b b' ∧ b' 123 12 = nI (runT dgB t n q j) ∧ b' 123 13 = nI i ∧ (runT dgB t n q j - i ≤ 4 → b' 123 14 = 3 ∧ b' 123 15 = nI (vlT t (runT dgB t n q j - i) i 0) ∧ vlT t (runT dgB t n q j - i) i 0 ≤ 9999) ∧ (¬ runT dgB t n q j - i ≤ 4 → b' 123 14 = 1) := by
  have stop : ∀ (j fu v : Nat) (b : Mem), j ≤ n → TPr b t n → b 123 12 = nI j → b 123 13 = nI i → i < j → b 123 14 = 1 → b 123 15 = nI v → (j - i ≤ 4 → v = vlT t (j - i) i 0 ∧ v < 10 ^ (j - i)) → (¬ (j < n ∧ dgB (t j) = true)) → ∃ b', F_R_reads_90 (fu + 1) b = some (0, b') ∧ frT b b' ∧ b' 123 12 = nI j ∧ b' 123 13 = nI i ∧ (j - i ≤ 4 → b' 123 14 = 3 ∧ b' 123 15 = nI (vlT t (j - i) i 0) ∧ vlT t (j - i) i 0 ≤ 9999) ∧ (¬ j - i ≤ 4 → b' 123 14 = 1) := fun j fu v b hj hT e12 e13 hij e14 e15 hv hn => by
    have n4 := hT.1
    have r1 := rawE hT hj
    have il : F_R_isDigit (if j < n then nI (t j) else -1) b = some (0, b) := by
      by_cases c : j < n
      · rw [if_pos c, R_isDigit (hT.2.2.1 j c).2, if_neg (fun k => hn ⟨c, k⟩)]
      · rw [if_neg c]
        simp only [F_R_isDigit, R_isIn, Option.bind_some, if_neg (show ¬ (48 ≤ (-1 : Int32) ∧ (-1 : Int32) ≤ 57) by decide), b0a, if_true]
    have es : nI j - nI i = nI (j - i) := n_sub (by omega)
    by_cases c : j - i ≤ 4
    · obtain ⟨v1, v2⟩ := hv c
      have v3 : 10 ^ (j - i) ≤ 10 ^ 4 := Nat.pow_le_pow_right (by decide) c
      refine ⟨mw b 123 14 3, ?_, frT_mw (by decide), by rw [mw_k (by decide)]; exact e12, by rw [mw_k (by decide)]; exact e13, fun _ => ⟨mwSelf _ _ _ _, by rw [mw_k (by decide), e15, v1], by rw [← v1]; omega⟩, fun k => absurd c k⟩
      rw [F_R_reads_90, e12, r1]
      simp only [Option.bind_some, il, if_true, e12, e13, es, if_neg (show ¬ (5 : Int32) ≤ nI (j - i) from nI_ge (b := 5) (by omega) (by decide))]
    · refine ⟨b, ?_, ⟨fun _ _ => rfl, fun _ _ _ _ _ => rfl⟩, e12, e13, fun k => absurd k c, fun _ => e14⟩
      rw [F_R_reads_90, e12, r1]
      simp only [Option.bind_some, il, if_true, e12, e13, es, if_pos (show (5 : Int32) ≤ nI (j - i) from nI_le (a := 5) (by omega) (by omega))]
  intro q
  induction q with
  | zero =>
    intro j fu v b hj hfu hT e12 e13 hij e14 e15 v5 hv
    obtain ⟨fu, rfl⟩ : ∃ k, fu = k + 1 := ⟨fu - 1, by omega⟩
    exact stop j fu v b (by omega) hT e12 e13 hij e14 e15 hv (fun k => by omega)
  | succ q ih =>
    intro j fu v b hj hfu hT e12 e13 hij e14 e15 v5 hv
    obtain ⟨fu, rfl⟩ : ∃ k, fu = k + 1 := ⟨fu - 1, by omega⟩
    by_cases c : dgB (t j) = true
    · have er : runT dgB t n (q + 1) j = runT dgB t n q (j + 1) := if_pos ⟨by omega, c⟩
      have d1 := dg_48 c
      have r1 := rawE hT (show j ≤ n by omega)
      rw [if_pos (show j < n by omega)] at r1
      have il := R_isDigit (hT.2.2.1 j (by omega)).2 b
      rw [if_pos c] at il
      have go : ∀ v', v' < 100000 → (j + 1 - i ≤ 4 → v' = vlT t (j + 1 - i) i 0 ∧ v' < 10 ^ (j + 1 - i)) → F_R_reads_90 (fu + 1) b = F_R_reads_90 fu (mw (mw b 123 15 (nI v')) 123 12 (nI (j + 1))) → ∃ b', F_R_reads_90 (fu + 1) b = some (0, b') ∧ frT b b' ∧ b' 123 12 = nI (runT dgB t n q (j + 1)) ∧ b' 123 13 = nI i ∧ (runT dgB t n q (j + 1) - i ≤ 4 → b' 123 14 = 3 ∧ b' 123 15 = nI (vlT t (runT dgB t n q (j + 1) - i) i 0) ∧ vlT t (runT dgB t n q (j + 1) - i) i 0 ≤ 9999) ∧ (¬ runT dgB t n q (j + 1) - i ≤ 4 → b' 123 14 = 1) := fun v' h1 h2 h3 => by
        obtain ⟨b', k1, k2, k3⟩ := ih (j + 1) fu v' (mw (mw b 123 15 (nI v')) 123 12 (nI (j + 1))) (by omega) (by omega) (TPr_mw (TPr_mw hT (by decide)) (by decide)) (mwSelf _ _ _ _) (by rw [mw_k (by decide), mw_k (by decide)]; exact e13) (by omega) (by rw [mw_k (by decide), mw_k (by decide)]; exact e14) (by rw [mw_k (by decide), mwSelf]) h1 h2
        exact ⟨b', by rw [h3]; exact k1, frT_t (frT_t (frT_mw (by decide)) (frT_mw (by decide))) k2, k3⟩
      rw [er]
      by_cases cv : 10000 ≤ v
      · refine go v v5 (fun k => ?_) ?_
        · have v2 := (hv (by omega)).2
          have : 10 ^ (j - i) ≤ 10 ^ 4 := Nat.pow_le_pow_right (by decide) (by omega)
          omega
        · rw [F_R_reads_90, e12, r1]
          simp only [Option.bind_some, il, one0, if_false, e15, if_pos (show (10000 : Int32) ≤ nI v from nI_le (a := 10000) cv (by omega))]
          rw [mw_k (show (12 : Nat) ≠ 15 by decide), e12, nI_1]
      · refine go (v * 10 + t j - 48) (by omega) (fun k => ?_) ?_
        · obtain ⟨v1, v2⟩ := hv (by omega)
          have e1 : j + 1 - i = j - i + 1 := by omega
          rw [e1, vl_s, show i + (j - i) = j by omega, ← v1, Nat.pow_succ]
          exact ⟨rfl, by omega⟩
        · have ev : (10 : Int32) * nI v + nI (t j) - 48 = nI (v * 10 + t j - 48) := by
            rw [show (10 : Int32) = nI 10 from rfl, n_mul, nI_add, show (48 : Int32) = nI 48 from rfl, n_sub (by omega), Nat.mul_comm]
          rw [F_R_reads_90, e12, r1]
          simp only [Option.bind_some, il, one0, if_false, e15, if_neg (show ¬ (10000 : Int32) ≤ nI v from nI_ge (b := 10000) (by omega) (by decide)), e12, r1, ev]
          rw [mw_k (show (12 : Nat) ≠ 15 by decide), e12, nI_1]
    · have er : runT dgB t n (q + 1) j = j := if_neg (fun k => c k.2)
      rw [er]
      exact stop j fu v b (by omega) hT e12 e13 hij e14 e15 hv (fun k => c k.2)
