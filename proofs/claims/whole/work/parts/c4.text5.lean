/-! ===== text: the parsers' steps ===== -/
theorem nextR {b : Mem} {t : Nat → Nat} {n j : Nat} {L : List (Nat × Nat × Nat × Nat)} (h : PSt b t n L j) (hk : (tkN L j).1 ≠ 66) : ∃ b', F_R_reads b = some (0, b') ∧ frT b b' ∧ PSt b' t n L (j + 1) := by
  obtain ⟨h1, h2, h3, -, h5⟩ := h
  obtain ⟨k1, q, k2, k3, k4⟩ := h5 hk
  exact rd_at k3 k1 h2 h3.1 k4 k2
theorem firstR {b : Mem} {t : Nat → Nat} {n : Nat} (hT : TPr b t n) (e12 : b 123 12 = 0) : ∃ b', F_R_reads b = some (0, b') ∧ frT b b' ∧ PSt b' t n (tkz t n (n + 1) 0) 0 := rd_at (q := n + 1) (i := 0) (by omega) (Nat.zero_le n) hT e12 rfl (by have := hT.1; omega)
/-- the class at token j -/
def ATt (a : Mem) (L : List (Nat × Nat × Nat × Nat)) (j : Nat) : Prop := j < L.length ∧ L.length ≤ 401 ∧ a 76 4 = nI j ∧ a 76 3 = nI L.length ∧ ∀ i, i < L.length → tkA a i (tkN L i)
theorem kindE {a : Mem} {L : List (Nat × Nat × Nat × Nat)} {j : Nat} (h : ATt a L j) : F_P_kind a = some (nI (tkN L j).1, a) := by
  obtain ⟨h1, h2, h3, h4, h5⟩ := h
  rw [F_P_kind, h3, h4, if_neg (nI_pos (by omega)), if_neg (nI_ge h1 (by omega)), if_neg (show ¬ (401 : Int32) ≤ nI j from nI_ge (b := 401) (by omega) (by decide)), ld_in (s := a) (c := 77) (k := j) rfl (show j < 401 by omega) (by decide), (h5 j h1).1]
  rfl
def flM (a : Mem) (L : List (Nat × Nat × Nat × Nat)) (j : Nat) (k : Int32) : Mem := mw (mw a 76 6 k) 76 7 (nI (tkN L j).2.2.1)
theorem failE {a : Mem} {L : List (Nat × Nat × Nat × Nat)} {j : Nat} (h : ATt a L j) (k : Int32) : F_P_fail k a = some (0, flM a L j k) := by
  obtain ⟨h1, h2, h3, h4, h5⟩ := h
  have e4 : mw a 76 6 k 76 4 = nI j := by rw [mw_k (by decide)]; exact h3
  have lv : ld (mw a 76 6 k) 79 (nI j) = some (nI (tkN L j).2.2.1) := (ld_in rfl (show j < 401 by omega) (by decide)).trans (congrArg some ((congrFun (mw_o (by decide)) j).trans (h5 j h1).2.2))
  simp only [F_P_fail, e4, if_neg (nI_pos (show j < 2 ^ 31 by omega)), if_neg (show ¬ (401 : Int32) ≤ nI j from nI_ge (b := 401) (by omega) (by decide)), lv, Option.bind_some]
  rfl
def avM (a : Mem) (j : Nat) : Mem := mw a 76 4 (nI (j + 1))
theorem ATt_mw {a : Mem} {L : List (Nat × Nat × Nat × Nat)} {j k : Nat} {v : Int32} (h : ATt a L j) (h3 : k ≠ 3) (h4 : k ≠ 4) : ATt (mw a 76 k v) L j := by
  obtain ⟨k1, k2, k3, k4, k5⟩ := h
  refine ⟨k1, k2, by rw [mw_k (Ne.symm h4)]; exact k3, by rw [mw_k (Ne.symm h3)]; exact k4, fun i hi => ?_⟩
  unfold tkA
  rw [mw_o (show (77 : Nat) ≠ 76 by decide), mw_o (show (78 : Nat) ≠ 76 by decide), mw_o (show (79 : Nat) ≠ 76 by decide)]
  exact k5 i hi
theorem ATt_o {a a' : Mem} {L : List (Nat × Nat × Nat × Nat)} {j : Nat} (h : ATt a L j) (e6 : a' 76 = a 76) (e7 : a' 77 = a 77) (e8 : a' 78 = a 78) (e9 : a' 79 = a 79) : ATt a' L j := by
  unfold ATt tkA
  rw [e6, e7, e8, e9]
  exact h
theorem ATt_av {a : Mem} {L : List (Nat × Nat × Nat × Nat)} {j : Nat} (h : ATt a L j) (h1 : j + 1 < L.length) : ATt (avM a j) L (j + 1) := by
  obtain ⟨k1, k2, k3, k4, k5⟩ := h
  unfold avM
  refine ⟨h1, k2, mwSelf _ _ _ _, by rw [mw_k (by decide)]; exact k4, fun i hi => ?_⟩
  unfold tkA
  rw [mw_o (show (77 : Nat) ≠ 76 by decide), mw_o (show (78 : Nat) ≠ 76 by decide), mw_o (show (79 : Nat) ≠ 76 by decide)]
  exact k5 i hi
theorem takeE {a : Mem} {L : List (Nat × Nat × Nat × Nat)} {j : Nat} (h : ATt a L j) (k : Int32) : F_P_take k a = some (if nI (tkN L j).1 = k then (1, avM a j) else (0, flM a L j 1)) := by
  rw [F_P_take, kindE h]
  simp only [Option.bind_some]
  by_cases c : nI (tkN L j).1 = k
  · rw [if_pos c, if_pos c, h.2.2.1, nI_1]
    rfl
  · rw [if_neg c, if_neg c, failE h 1]
    simp only [Option.bind_some, b0a, if_true]
def nmM (a : Mem) (j v : Nat) : Mem := mw (mw a 76 5 (nI v)) 76 4 (nI (j + 1))
theorem takeNE {a : Mem} {L : List (Nat × Nat × Nat × Nat)} {j : Nat} (h : ATt a L j) (lo hi : Int32) (hk : (tkN L j).1 < 2 ^ 31) : F_P_takeNumber lo hi a = some (if (tkN L j).1 = 64 then (if lo ≤ nI (tkN L j).2.1 ∧ nI (tkN L j).2.1 ≤ hi then (1, nmM a j (tkN L j).2.1) else (0, flM a L j 2)) else (0, flM a L j 1)) := by
  obtain ⟨h1, h2, h3, h4, h5⟩ := id h
  have lv : ld a 78 (nI j) = some (nI (tkN L j).2.1) := (ld_in rfl (show j < 401 by omega) (by decide)).trans (congrArg some (h5 j h1).2.1)
  have e64 : nI (tkN L j).1 = 64 ↔ (tkN L j).1 = 64 := nI_eq (b := 64) hk (by decide)
  have s4 : mw a 76 5 (nI (tkN L j).2.1) 76 4 = nI j := by rw [mw_k (by decide)]; exact h3
  rw [F_P_takeNumber, kindE h]
  simp only [Option.bind_some]
  by_cases c : (tkN L j).1 = 64
  · rw [if_pos (e64.mpr c), if_pos c, h3, if_neg (nI_pos (by omega)), if_neg (show ¬ (401 : Int32) ≤ nI j from nI_ge (b := 401) (by omega) (by decide)), lv]
    simp only [Option.bind_some]
    by_cases c1 : nI (tkN L j).2.1 < lo
    · have n1 : ¬ (lo ≤ nI (tkN L j).2.1 ∧ nI (tkN L j).2.1 ≤ hi) := fun k => by
        have k1 := (fa_le _ _).mp k.1
        have k2 := (fa_lt _ _).mp c1
        omega
      rw [if_pos c1, if_neg n1, failE h 2]
      simp only [Option.bind_some, b0a, if_true]
    · have l1 : lo ≤ nI (tkN L j).2.1 := by
        rw [fa_le]
        rw [fa_lt] at c1
        omega
      rw [if_neg c1]
      by_cases c2 : nI (tkN L j).2.1 ≤ hi
      · rw [if_pos c2, if_pos ⟨l1, c2⟩, s4, nI_1]
        rfl
      · rw [if_neg c2, if_neg (fun k => c2 k.2), failE h 2]
        simp only [Option.bind_some, b0a, if_true]
  · rw [if_neg (fun k => c (e64.mp k)), if_neg c, failE h 1]
    simp only [Option.bind_some, b0a, if_true]
/-! the reference -/
def erM (b : Mem) (L : List (Nat × Nat × Nat × Nat)) (j : Nat) (k : Int32) : Mem := mw (mw b 123 29 k) 123 30 (nI (tkN L j).2.2.1)
theorem errE {b : Mem} {t : Nat → Nat} {n j : Nat} {L : List (Nat × Nat × Nat × Nat)} (h : PSt b t n L j) (k : Int32) : F_R_errs k b = some (-1, erM b L j k) := by
  have e : mw b 123 29 k 123 13 = nI (tkN L j).2.2.1 := by rw [mw_k (by decide)]; exact h.2.2.1.2.1
  simp only [F_R_errs, e]
  rfl
theorem tk_ne {b : Mem} {t : Nat → Nat} {n j : Nat} {L : List (Nat × Nat × Nat × Nat)} (h : PSt b t n L j) : (tkN L j).1 ≤ 66 := by
  have := h.2.2.1.2.2.2.2.2.2.2
  omega
theorem isWE {b : Mem} {t : Nat → Nat} {n j w : Nat} {L : List (Nat × Nat × Nat × Nat)} (h : PSt b t n L j) (hw : w < 30) : F_R_isWord (nI w) b = some (if (tkN L j).1 = w then 1 else 0, b) := by
  obtain ⟨r1, r2, r3, r4, r5, r6⟩ := h.2.2.1.2.2
  rw [F_R_isWord]
  rcases r6 with c | c | c | c | c
  · rw [r1 c, if_neg (by decide), if_neg (by omega)]
  · rw [r2 c, if_neg (by decide), if_neg (by omega)]
  · rw [(r3 c).1, if_neg (by decide), if_neg (by omega)]
  · obtain ⟨x1, x2⟩ := r4 c
    rw [x1, if_pos rfl, x2]
    by_cases d : (tkN L j).1 = w
    · rw [if_pos (by rw [d]), if_pos d]
    · rw [if_neg (fun k => d ((nI_eq (by omega) (by omega)).mp k)), if_neg d]
  · obtain ⟨x1, x2⟩ := r5 c
    rw [x1, if_neg (by decide), if_neg (by omega)]
theorem isSE {b : Mem} {t : Nat → Nat} {n j w : Nat} {L : List (Nat × Nat × Nat × Nat)} (h : PSt b t n L j) (hw : 40 ≤ w ∧ w ≤ 62) : F_R_isSign (nI w) b = some (if (tkN L j).1 = w then 1 else 0, b) := by
  obtain ⟨r1, r2, r3, r4, r5, r6⟩ := h.2.2.1.2.2
  rw [F_R_isSign]
  rcases r6 with c | c | c | c | c
  · rw [r1 c, if_neg (by decide), if_neg (by omega)]
  · rw [r2 c, if_neg (by decide), if_neg (by omega)]
  · rw [(r3 c).1, if_neg (by decide), if_neg (by omega)]
  · obtain ⟨x1, x2⟩ := r4 c
    rw [x1, if_neg (by decide), if_neg (by omega)]
  · obtain ⟨x1, x2⟩ := r5 c
    rw [x1, if_pos rfl, x2]
    by_cases d : (tkN L j).1 = w
    · rw [if_pos (by rw [d]), if_pos d]
    · rw [if_neg (fun k => d ((nI_eq (by omega) (by omega)).mp k)), if_neg d]
theorem isNE {b : Mem} {t : Nat → Nat} {n j : Nat} {L : List (Nat × Nat × Nat × Nat)} (h : PSt b t n L j) : (b 123 14 = 3 ↔ (tkN L j).1 = 64) ∧ (b 123 14 = 0 ↔ (tkN L j).1 = 66) ∧ (b 123 14 = 2 ↔ (tkN L j).1 < 30) := by
  obtain ⟨r1, r2, r3, r4, r5, r6⟩ := h.2.2.1.2.2
  rcases r6 with c | c | c | c | c
  · rw [r1 c]; exact ⟨⟨fun k => absurd k (by decide), fun k => by omega⟩, ⟨fun _ => c, fun _ => rfl⟩, ⟨fun k => absurd k (by decide), fun k => by omega⟩⟩
  · rw [r2 c]; exact ⟨⟨fun k => absurd k (by decide), fun k => by omega⟩, ⟨fun k => absurd k (by decide), fun k => by omega⟩, ⟨fun k => absurd k (by decide), fun k => by omega⟩⟩
  · rw [(r3 c).1]; exact ⟨⟨fun _ => c, fun _ => rfl⟩, ⟨fun k => absurd k (by decide), fun k => by omega⟩, ⟨fun k => absurd k (by decide), fun k => by omega⟩⟩
  · rw [(r4 c).1]; exact ⟨⟨fun k => absurd k (by decide), fun k => by omega⟩, ⟨fun k => absurd k (by decide), fun k => by omega⟩, ⟨fun _ => c, fun _ => rfl⟩⟩
  · rw [(r5 c).1]; exact ⟨⟨fun k => absurd k (by decide), fun k => by omega⟩, ⟨fun k => absurd k (by decide), fun k => by omega⟩, ⟨fun k => absurd k (by decide), fun k => by omega⟩⟩
