/-! ===== text: signs and words ===== -/
def ltB (c : Nat) : Bool := (decide (97 ≤ c) && decide (c ≤ 122)) || (decide (65 ≤ c) && decide (c ≤ 90))
def dgB (c : Nat) : Bool := decide (48 ≤ c) && decide (c ≤ 57)
def blB (c : Nat) : Bool := decide (c = 32) || decide (c = 10)
def sgB (c : Nat) : Bool := (decide (40 ≤ c) && decide (c ≤ 43)) || ((decide (59 ≤ c) && decide (c ≤ 62)) || (decide (c = 45) || decide (c = 47)))
set_option maxRecDepth 100000 in
theorem cls_256 : ∀ c, c < 256 → ((97 ≤ nI c ∧ nI c ≤ 122) ∨ (65 ≤ nI c ∧ nI c ≤ 90) ↔ ltB c = true) ∧ (48 ≤ nI c ∧ nI c ≤ 57 ↔ dgB c = true) ∧ ((40 ≤ nI c ∧ nI c ≤ 43) ∨ (59 ≤ nI c ∧ nI c ≤ 62) ∨ nI c = 45 ∨ nI c = 47 ↔ sgB c = true) ∧ ((nI c = 59 ∨ nI c = 43 ∨ nI c = 45 ∨ nI c = 42 ∨ nI c = 47 ∨ nI c = 40 ∨ nI c = 41 ∨ nI c = 60 ∨ nI c = 61 ∨ nI c = 62) ↔ sgB c = true) ∧ (nI c = 32 ↔ c = 32) ∧ (nI c = 10 ↔ c = 10) := by decide +kernel
theorem P_isLetter {c : Nat} (hc : c < 256) (s : Mem) : F_P_isLetter (nI c) s = some (if ltB c = true then 1 else 0, s) := by
  have h := (cls_256 c hc).1
  unfold F_P_isLetter
  simp only [C_within, Option.bind_some, b01]
  by_cases c1 : 97 ≤ nI c ∧ nI c ≤ 122
  · rw [if_neg (fun q => q c1), if_pos (h.mp (Or.inl c1))]
  · rw [if_pos c1]
    by_cases c2 : 65 ≤ nI c ∧ nI c ≤ 90
    · rw [if_neg (fun q => q c2), if_pos (h.mp (Or.inr c2))]
    · rw [if_pos c2, if_neg (fun q => by rcases h.mpr q with k | k; exact c1 k; exact c2 k)]
theorem R_isLetter {c : Nat} (hc : c < 256) (s : Mem) : F_R_isLetter (nI c) s = some (if ltB c = true then 1 else 0, s) := P_isLetter hc s
theorem P_isDigit {c : Nat} (hc : c < 256) (s : Mem) : F_P_isDigit (nI c) s = some (if dgB c = true then 1 else 0, s) := by
  have h := (cls_256 c hc).2.1
  unfold F_P_isDigit
  simp only [C_within, Option.bind_some, b01a, if_true]
  by_cases c1 : 48 ≤ nI c ∧ nI c ≤ 57
  · rw [if_pos c1, if_pos (h.mp c1)]
  · rw [if_neg c1, if_neg (fun q => c1 (h.mpr q))]
theorem R_isDigit {c : Nat} (hc : c < 256) (s : Mem) : F_R_isDigit (nI c) s = some (if dgB c = true then 1 else 0, s) := P_isDigit hc s
theorem P_isSign {c : Nat} (hc : c < 256) (s : Mem) : F_P_isSign (nI c) s = some (if sgB c = true then 1 else 0, s) := by
  have h := (cls_256 c hc).2.2.1
  unfold F_P_isSign
  simp only [C_within, Option.bind_some, b01]
  by_cases c1 : 40 ≤ nI c ∧ nI c ≤ 43
  · rw [if_neg (fun q => q c1), if_pos (h.mp (Or.inl c1))]
  · rw [if_pos c1]
    by_cases c2 : 59 ≤ nI c ∧ nI c ≤ 62
    · rw [if_neg (fun q => q c2), if_pos (h.mp (Or.inr (Or.inl c2)))]
    · rw [if_pos c2]
      by_cases c3 : nI c = 45
      · rw [if_pos c3, if_pos (h.mp (Or.inr (Or.inr (Or.inl c3))))]
      · rw [if_neg c3]
        by_cases c4 : nI c = 47
        · rw [if_pos c4, if_pos (h.mp (Or.inr (Or.inr (Or.inr c4))))]
        · rw [if_neg c4, if_neg (fun q => by rcases h.mpr q with k | k | k | k; exact c1 k; exact c2 k; exact c3 k; exact c4 k)]
theorem R_isMark {c : Nat} (hc : c < 256) (s : Mem) : F_R_isMarkSign (nI c) s = some (if sgB c = true then 1 else 0, s) := by
  have h := (cls_256 c hc).2.2.2.1
  unfold F_R_isMarkSign
  by_cases g : sgB c = true
  · rw [if_pos g]
    rcases h.mpr g with k | k | k | k | k | k | k | k | k | k
    all_goals
      rw [k]
      rfl
  · rw [if_neg g]
    have n0 : ∀ v : Int32, (v = 59 ∨ v = 43 ∨ v = 45 ∨ v = 42 ∨ v = 47 ∨ v = 40 ∨ v = 41 ∨ v = 60 ∨ v = 61 ∨ v = 62) → ¬ nI c = v := fun v hv q => g (h.mp (by rw [q]; exact hv))
    rw [if_neg (n0 59 (by decide)), if_neg (n0 43 (by decide)), if_neg (n0 45 (by decide)), if_neg (n0 42 (by decide)), if_neg (n0 47 (by decide)), if_neg (n0 40 (by decide)), if_neg (n0 41 (by decide)), if_neg (n0 60 (by decide)), if_neg (n0 61 (by decide)), if_neg (n0 62 (by decide))]
/-- the end of a run -/
def runT (p : Nat → Bool) (t : Nat → Nat) (n : Nat) : Nat → Nat → Nat
  | 0, i => i
  | q + 1, i => if i < n ∧ p (t i) = true then runT p t n q (i + 1) else i
theorem rn_b {p : Nat → Bool} {t : Nat → Nat} {n : Nat} : ∀ q i, i + q = n → i ≤ runT p t n q i ∧ runT p t n q i ≤ n := by
  intro q
  induction q with
  | zero => intro i h; exact ⟨Nat.le_refl _, by show i ≤ n; omega⟩
  | succ q ih =>
    intro i h
    show i ≤ (if i < n ∧ p (t i) = true then runT p t n q (i + 1) else i) ∧ (if i < n ∧ p (t i) = true then runT p t n q (i + 1) else i) ≤ n
    have := ih (i + 1) (by omega)
    split <;> omega
theorem rn_p {p : Nat → Bool} {t : Nat → Nat} {n : Nat} : ∀ q i, i + q = n → ∀ k, i ≤ k → k < runT p t n q i → p (t k) = true := by
  intro q
  induction q with
  | zero => intro i h k h1 h2; have h2 : k < i := h2; omega
  | succ q ih =>
    intro i h k h1 h2
    have h2 : k < (if i < n ∧ p (t i) = true then runT p t n q (i + 1) else i) := h2
    by_cases c : i < n ∧ p (t i) = true
    · rw [if_pos c] at h2
      by_cases d : k = i
      · rw [d]; exact c.2
      · exact ih (i + 1) (by omega) k (by omega) h2
    · rw [if_neg c] at h2
      omega
/-! words -/
def wrd1 : List (List Nat) := [[99, 114, 101, 97, 107, 115], [119, 101, 97, 114, 115], [114, 105, 115, 101, 115], [119, 104, 101, 110], [111, 114], [97, 110, 100], [110, 111, 116], [119, 101, 105, 103, 104, 116], [119, 101, 97, 114], [108, 111, 111, 115, 101], [114, 97, 110, 107], [99, 97, 114, 112, 101, 116], [104, 101, 105, 103, 104, 116], [110, 117, 109, 98, 101, 114], [104, 101, 97, 114, 100], [102, 97, 105, 108, 101, 100], [115, 116, 114, 105, 100, 101], [110, 105, 103, 104, 116]]
def wrd2 : List (List Nat) := [[111, 110], [102, 108, 105, 103, 104, 116], [115, 116, 101, 112], [119, 97, 116, 99, 104], [108, 101, 97, 118, 101], [100, 101, 115, 101, 114, 116], [98, 97, 114, 101], [109, 101, 110, 100], [108, 111, 111, 115, 101, 110], [117, 112], [100, 111, 119, 110], [100, 111, 111, 114]]
def wrds : List (List Nat) := wrd1 ++ wrd2
def fltW : List (List Nat) → List Nat
  | [] => []
  | w :: ws => w ++ 32 :: fltW ws
def mtB (t : Nat → Nat) (to : Nat) : List Nat → Nat → Bool
  | [], i => decide (i = to)
  | c :: w, i => decide (i < to) && (decide (t i = c) && mtB t to w (i + 1))
def fsW (t : Nat → Nat) (fr to : Nat) : List (List Nat) → Nat → Option Nat
  | [], _ => none
  | w :: ws, k => if mtB t to w fr = true then some k else fsW t fr to ws (k + 1)
def resW : Option Nat → Int32
  | none => -1
  | some k => nI k
def kwN (t : Nat → Nat) (fr to : Nat) : Nat := match fsW t fr to wrds 0 with
  | none => 65
  | some k => k
theorem fs_b {t : Nat → Nat} {fr to : Nat} : ∀ (ws : List (List Nat)) (k r : Nat), fsW t fr to ws k = some r → k ≤ r ∧ r < k + ws.length := by
  intro ws
  induction ws with
  | nil => intro k r h; exact absurd h (by simp [fsW])
  | cons w ws ih =>
    intro k r h
    have h : (if mtB t to w fr = true then some k else fsW t fr to ws (k + 1)) = some r := h
    rw [List.length_cons]
    by_cases c : mtB t to w fr = true
    · rw [if_pos c] at h
      have := Option.some.inj h
      omega
    · rw [if_neg c] at h
      have := ih (k + 1) r h
      omega
theorem fs_app {t : Nat → Nat} {fr to : Nat} : ∀ (ws vs : List (List Nat)) (k : Nat), fsW t fr to (ws ++ vs) k = match fsW t fr to ws k with
    | none => fsW t fr to vs (k + ws.length)
    | some r => some r := by
  intro ws
  induction ws with
  | nil => intro vs k; rfl
  | cons w ws ih =>
    intro vs k
    show (if mtB t to w fr = true then some k else fsW t fr to (ws ++ vs) (k + 1)) = match (if mtB t to w fr = true then some k else fsW t fr to ws (k + 1)) with
      | none => fsW t fr to vs (k + (w :: ws).length)
      | some r => some r
    by_cases c : mtB t to w fr = true
    · rw [if_pos c, if_pos c]
    · rw [if_neg c, if_neg c, ih vs (k + 1), List.length_cons, show k + 1 + ws.length = k + (ws.length + 1) by omega]
def wi8 (t : Nat → Nat) (fr to : Nat) : List Nat → Nat → Nat → Bool → Option Nat
  | [], _, _, _ => none
  | c :: cs, k, nx, al => if c = 32 then (if (al && decide (nx = to)) = true then some k else wi8 t fr to cs (k + 1) fr true) else wi8 t fr to cs k (nx + 1) (al && (decide (nx < to) && decide (t nx = c)))
theorem wi_w {t : Nat → Nat} {fr to k : Nat} {rest : List Nat} : ∀ (w : List Nat), (∀ c ∈ w, c ≠ 32) → ∀ nx al, wi8 t fr to (w ++ 32 :: rest) k nx al = if (al && mtB t to w nx) = true then some k else wi8 t fr to rest (k + 1) fr true := by
  intro w
  induction w with
  | nil =>
    intro _ nx al
    show (if (32 : Nat) = 32 then _ else _) = _
    rw [if_pos rfl]
    rfl
  | cons c w ih =>
    intro h nx al
    show (if c = 32 then _ else wi8 t fr to (w ++ 32 :: rest) k (nx + 1) (al && (decide (nx < to) && decide (t nx = c)))) = _
    rw [if_neg (h c List.mem_cons_self), ih (fun d hd => h d (List.mem_cons_of_mem c hd))]
    show _ = if (al && (decide (nx < to) && (decide (t nx = c) && mtB t to w (nx + 1)))) = true then _ else _
    rw [Bool.and_assoc, Bool.and_assoc]
theorem wi_f {t : Nat → Nat} {fr to : Nat} : ∀ (ws : List (List Nat)), (∀ w ∈ ws, ∀ c ∈ w, c ≠ 32) → ∀ k, wi8 t fr to (fltW ws) k fr true = fsW t fr to ws k := by
  intro ws
  induction ws with
  | nil => intro _ k; rfl
  | cons w ws ih =>
    intro h k
    show wi8 t fr to (w ++ 32 :: fltW ws) k fr true = if mtB t to w fr = true then some k else fsW t fr to ws (k + 1)
    rw [wi_w w (h w List.mem_cons_self), Bool.true_and, ih (fun v hv => h v (List.mem_cons_of_mem w hv))]
theorem wr_1 : strT 1001 = (fltW wrd1).map nI ∧ strT 1002 = (fltW wrd2).map nI ∧ (fltW wrd1).length = 105 ∧ (fltW wrd2).length = 64 := by decide +kernel
theorem wr_n : (∀ w ∈ wrd1, ∀ c ∈ w, c ≠ 32) ∧ (∀ w ∈ wrd2, ∀ c ∈ w, c ≠ 32) ∧ (∀ c ∈ fltW wrd1, c < 256) ∧ ∀ c ∈ fltW wrd2, c < 256 := by decide +kernel
/-- the tape -/
def TP (a : Mem) (t : Nat → Nat) (n : Nat) : Prop := n ≤ 400 ∧ ∀ k, k < n → a 75 k = nI (t k) ∧ t k < 256
theorem wi_c8 {a : Mem} {t : Nat → Nat} {n fr to h0 : Nat} {L : List Nat} (hT : TP a t n) (hto : to ≤ n) (hS : strT h0 = L.map nI) (hl : F_JS_length h0 = fun s => some (nI L.length, s)) (hL : ∀ c ∈ L, c < 256) (hLl : L.length ≤ 200) (hfr : fr ≤ to) : ∀ (R : List Nat) (i fu k nx : Nat) (al : Bool), (∃ M, M.length = i ∧ M ++ R = L) → R.length < fu → k ≤ i → nx ≤ to + i → F_P_wordIn_8 fu h0 (nI fr) (nI to) (nI k) (nI nx) (if al = true then 1 else 0) (nI i) a = some (resW (wi8 t fr to R k nx al), a) := by
  have n4 := hT.1
  intro R
  induction R with
  | nil =>
    intro i fu k nx al hM hfu hk hn
    obtain ⟨fu, rfl⟩ : ∃ m, fu = m + 1 := ⟨fu - 1, by have : 0 < fu := hfu; omega⟩
    obtain ⟨M, m1, m2⟩ := hM
    rw [List.append_nil] at m2
    rw [F_P_wordIn_8, hl]
    simp only [Option.bind_some]
    rw [if_pos (show nI L.length ≤ nI i from nI_le (by rw [← m2, m1]; omega) (by rw [← m1, m2]; omega))]
    rfl
  | cons c R ih =>
    intro i fu k nx al hM hfu hk hn
    rw [List.length_cons] at hfu
    obtain ⟨fu, rfl⟩ : ∃ m, fu = m + 1 := ⟨fu - 1, by omega⟩
    obtain ⟨M, m1, m2⟩ := hM
    have hlen : M.length + (R.length + 1) = L.length := by rw [← m2, List.length_append, List.length_cons]
    have hM2 : ∃ M, M.length = i + 1 ∧ M ++ R = L := ⟨M ++ [c], by rw [List.length_append, m1]; rfl, by rw [List.append_assoc]; exact m2⟩
    have c256 : c < 256 := hL c (by rw [← m2]; exact List.mem_append_right M List.mem_cons_self)
    have hc : F_JS_charAt h0 (nI i) a = some (nI c, a) := by
      unfold F_JS_charAt
      have e1 : (nI i).toNatClampNeg = i := nI_clamp (by omega)
      have e2 : (strT h0).length = L.length := by rw [hS, List.length_map]
      rw [if_pos (by rw [e1, e2]; intro q; rcases q with q | q; exact nI_pos (by omega) q; omega), e1, hS, List.getD_eq_getElem?_getD, List.getElem?_map, ← m2, ← m1, List.getElem?_append_right (Nat.le_refl _), Nat.sub_self]
      rfl
    have g1 : ¬ nI L.length ≤ nI i := nI_ge (by omega) (by omega)
    have hi1 := ih (i + 1) fu
    have e32 : (nI c = 32) ↔ c = 32 := nI_eq (b := 32) (by omega) (by decide)
    rw [F_P_wordIn_8, hl]
    simp only [Option.bind_some, if_neg g1, hc]
    by_cases cc : c = 32
    · rw [if_pos (e32.mpr cc)]
      have ew : wi8 t fr to (c :: R) k nx al = if (al && decide (nx = to)) = true then some k else wi8 t fr to R (k + 1) fr true := if_pos cc
      rw [ew]
      have nxt := hi1 (k + 1) fr true hM2 (by omega) (by omega) (by omega)
      rw [if_pos rfl] at nxt
      cases al with
      | false =>
        rw [if_neg Bool.false_ne_true, if_pos rfl, Bool.false_and, if_neg Bool.false_ne_true, nI_1, nI_1]
        exact nxt
      | true =>
        rw [if_pos rfl, if_neg (by decide), Bool.true_and]
        by_cases cn : nx = to
        · rw [if_pos (by rw [cn]), if_pos (decide_eq_true cn)]
          rfl
        · rw [if_neg (fun q => cn ((nI_eq (by omega) (by omega)).mp q)), if_neg (by rw [decide_eq_false cn]; exact Bool.false_ne_true), nI_1, nI_1]
          exact nxt
    · rw [if_neg (fun q => cc (e32.mp q))]
      have ew : wi8 t fr to (c :: R) k nx al = wi8 t fr to R k (nx + 1) (al && (decide (nx < to) && decide (t nx = c))) := if_neg cc
      rw [ew, nI_1, nI_1]
      have nxt := hi1 k (nx + 1) (al && (decide (nx < to) && decide (t nx = c))) hM2 (by omega) (by omega) (by omega)
      rw [← nxt]
      cases al with
      | false => rfl
      | true =>
        rw [if_pos rfl, if_neg (by decide), if_neg (nI_pos (by omega)), Bool.true_and]
        by_cases cn : nx < to
        · rw [if_neg (nI_ge cn (by omega)), if_neg (show ¬ (400 : Int32) ≤ nI nx from nI_ge (b := 400) (by omega) (by decide))]
          obtain ⟨t1, t2⟩ := hT.2 nx (by omega)
          have lv : ld a 75 (nI nx) = some (nI (t nx)) := (ld_in rfl (show nx < 400 by omega) (by decide)).trans (congrArg some t1)
          rw [lv, decide_eq_true cn, Bool.true_and]
          simp only [Option.bind_some]
          by_cases ct : t nx = c
          · rw [if_pos (by rw [ct]), if_pos (decide_eq_true ct)]
          · rw [if_neg (fun q => ct ((nI_eq (by omega) (by omega)).mp q)), if_neg (by rw [decide_eq_false ct]; exact Bool.false_ne_true)]
        · rw [if_pos (nI_le (show to ≤ nx by omega) (by omega)), decide_eq_false cn, Bool.false_and, if_neg Bool.false_ne_true]
theorem kw_c {a : Mem} {t : Nat → Nat} {n fr to : Nat} (hT : TP a t n) (hto : to ≤ n) (hfr : fr ≤ to) : F_P_keyword (nI fr) (nI to) a = some (nI (kwN t fr to), a) := by
  have n4 := hT.1
  have l1 : F_JS_length 1001 = fun s => some (nI (fltW wrd1).length, s) := by rw [wr_1.2.2.1]; rfl
  have l2 : F_JS_length 1002 = fun s => some (nI (fltW wrd2).length, s) := by rw [wr_1.2.2.2]; rfl
  have k1 := wi_c8 (h0 := 1001) (L := fltW wrd1) hT hto wr_1.1 l1 wr_n.2.2.1 (by rw [wr_1.2.2.1]; decide) hfr (fltW wrd1) 0 gF 0 fr true ⟨[], rfl, rfl⟩ (by rw [wr_1.2.2.1, gF_eq]; decide) (Nat.le_refl _) (by omega)
  have k2 := wi_c8 (h0 := 1002) (L := fltW wrd2) hT hto wr_1.2.1 l2 wr_n.2.2.2 (by rw [wr_1.2.2.2]; decide) hfr (fltW wrd2) 0 gF 0 fr true ⟨[], rfl, rfl⟩ (by rw [wr_1.2.2.2, gF_eq]; decide) (Nat.le_refl _) (by omega)
  rw [wi_f wrd1 wr_n.1, if_pos rfl] at k1
  rw [wi_f wrd2 wr_n.2.1, if_pos rfl] at k2
  have k1 : F_P_wordIn 1001 (nI fr) (nI to) a = some (resW (fsW t fr to wrd1 0), a) := k1
  have k2 : F_P_wordIn 1002 (nI fr) (nI to) a = some (resW (fsW t fr to wrd2 0), a) := k2
  have ea : fsW t fr to wrds 0 = match fsW t fr to wrd1 0 with
    | none => fsW t fr to wrd2 (0 + wrd1.length)
    | some r => some r := fs_app wrd1 wrd2 0
  unfold F_P_keyword kwN
  rw [k1, ea]
  simp only [Option.bind_some]
  cases h1 : fsW t fr to wrd1 0 with
  | some r =>
    have := fs_b wrd1 0 r h1
    have w18 : wrd1.length = 18 := rfl
    show (if nI r = -1 then _ else some (nI r, a)) = some (nI r, a)
    rw [if_neg (nI_m1 (by omega))]
  | none =>
    show (if (-1 : Int32) = -1 then _ else _) = _
    rw [if_pos rfl, k2]
    simp only [Option.bind_some]
    have sh : ∀ (ws : List (List Nat)) (k d : Nat), fsW t fr to ws (k + d) = (fsW t fr to ws k).map (fun r => r + d) := by
      intro ws
      induction ws with
      | nil => intro k d; rfl
      | cons w ws ih =>
        intro k d
        show (if mtB t to w fr = true then some (k + d) else fsW t fr to ws (k + d + 1)) = (if mtB t to w fr = true then some k else fsW t fr to ws (k + 1)).map (fun r => r + d)
        by_cases c : mtB t to w fr = true
        · rw [if_pos c, if_pos c]; rfl
        · rw [if_neg c, if_neg c, show k + d + 1 = k + 1 + d by omega, ih (k + 1) d]
    rw [show wrd1.length = 18 from rfl, sh wrd2 0 18]
    cases h2 : fsW t fr to wrd2 0 with
    | none =>
      show (if (-1 : Int32) = -1 then _ else _) = _
      rw [if_pos rfl]
      rfl
    | some r =>
      have := fs_b wrd2 0 r h2
      have w12 : wrd2.length = 12 := rfl
      show (if nI r = -1 then _ else some (18 + nI r, a)) = some (nI (r + 18), a)
      rw [if_neg (nI_m1 (by omega)), show (18 : Int32) = nI 18 from rfl, nI_add, Nat.add_comm]
