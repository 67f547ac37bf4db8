/-! ===== the law's loop ===== -/
def Good (I : Mem → Prop) (f g : Mem → Option (Int32 × Mem)) : Prop := ∀ s, I s → ∃ (v : Int32) (s1 s2 : Mem), f s = some (v, s1) ∧ g s1 = some (v, s2) ∧ I s2
def scIn (L : Nat) (x : Int32) : Prop := ¬ (x < 0 ∨ L ≤ x.toNatClampNeg)
section LOOPS
variable {I : Mem → Prop} {L : Nat} {xs : Nat → Int32} {k : Int32 → Mem → Option (Int32 × Mem)} {x3 : Int32}
theorem j_state (h_state : Good I (F_C_state (xs (x3 + 1).toNatClampNeg)) (F_R_state (xs (x3 + 1).toNatClampNeg))) (b1 : scIn L (x3 + 1)) (hk : ∀ s, I s → ∃ s', k (x3 + 6) s = some (1, s')) (n : Nat) (s : Mem) (hs : I s) : ∃ s', F_Z_law_22 L xs k (n + 1) x3 s = some (1, s') := by
  simp only [scIn] at b1
  obtain ⟨v, s1, s2, e1, e2, e3⟩ := h_state s hs
  obtain ⟨s', e4⟩ := hk s2 e3
  refine ⟨s', ?_⟩
  simp only [F_Z_law_22, if_pos b1, e1, e2, Option.bind_some, if_true, e4]
theorem j_flight (h_flight : Good I (F_C_flight (xs (x3 + 1).toNatClampNeg) (xs (x3 + 2).toNatClampNeg)) (F_R_flight (xs (x3 + 1).toNatClampNeg) (xs (x3 + 2).toNatClampNeg))) (b1 : scIn L (x3 + 1)) (b2 : scIn L (x3 + 2)) (hk : ∀ s, I s → ∃ s', k (x3 + 6) s = some (1, s')) (n : Nat) (s : Mem) (hs : I s) : ∃ s', F_Z_law_39 L xs k (n + 1) x3 s = some (1, s') := by
  simp only [scIn] at b1 b2
  obtain ⟨v, s1, s2, e1, e2, e3⟩ := h_flight s hs
  obtain ⟨s', e4⟩ := hk s2 e3
  refine ⟨s', ?_⟩
  simp only [F_Z_law_39, if_pos b1, if_pos b2, e1, e2, Option.bind_some, if_true, e4]
theorem j_set (h_set : Good I (F_C_set (xs (x3 + 1).toNatClampNeg) (xs (x3 + 2).toNatClampNeg) (xs (x3 + 3).toNatClampNeg) (xs (x3 + 4).toNatClampNeg)) (F_R_set (xs (x3 + 1).toNatClampNeg) (xs (x3 + 2).toNatClampNeg) (xs (x3 + 3).toNatClampNeg) (xs (x3 + 4).toNatClampNeg))) (b1 : scIn L (x3 + 1)) (b2 : scIn L (x3 + 2)) (b3 : scIn L (x3 + 3)) (b4 : scIn L (x3 + 4)) (hk : ∀ s, I s → ∃ s', k (x3 + 6) s = some (1, s')) (n : Nat) (s : Mem) (hs : I s) : ∃ s', F_Z_law_66 L xs k (n + 1) x3 s = some (1, s') := by
  simp only [scIn] at b1 b2 b3 b4
  obtain ⟨v, s1, s2, e1, e2, e3⟩ := h_set s hs
  obtain ⟨s', e4⟩ := hk s2 e3
  refine ⟨s', ?_⟩
  simp only [F_Z_law_66, if_pos b1, if_pos b2, if_pos b3, if_pos b4, e1, e2, Option.bind_some, if_true, e4]
theorem j_order (h_order : Good I (F_C_order (xs (x3 + 1).toNatClampNeg) (xs (x3 + 2).toNatClampNeg) (xs (x3 + 3).toNatClampNeg)) (F_R_order (xs (x3 + 1).toNatClampNeg) (xs (x3 + 2).toNatClampNeg) (xs (x3 + 3).toNatClampNeg))) (b1 : scIn L (x3 + 1)) (b2 : scIn L (x3 + 2)) (b3 : scIn L (x3 + 3)) (hk : ∀ s, I s → ∃ s', k (x3 + 6) s = some (1, s')) (n : Nat) (s : Mem) (hs : I s) : ∃ s', F_Z_law_113 L xs k (n + 1) x3 s = some (1, s') := by
  simp only [scIn] at b1 b2 b3
  obtain ⟨v, s1, s2, e1, e2, e3⟩ := h_order s hs
  obtain ⟨s', e4⟩ := hk s2 e3
  refine ⟨s', ?_⟩
  simp only [F_Z_law_113, if_pos b1, if_pos b2, if_pos b3, e1, e2, Option.bind_some, if_true, e4]
theorem j_visit (h_visit : ∀ a u c d : Int32, u = 0 ∨ u = 1 → Good I (F_C_visit a u c d) (F_R_visit a u c d)) (b1 : scIn L (x3 + 1)) (b2 : scIn L (x3 + 2)) (b3 : scIn L (x3 + 3)) (b4 : scIn L (x3 + 4)) (hk : ∀ s, I s → ∃ s', k (x3 + 6) s = some (1, s')) (n : Nat) (s : Mem) (hs : I s) : ∃ s', F_Z_law_150 L xs k (n + 1) x3 s = some (1, s') := by
  simp only [scIn] at b1 b2 b3 b4
  by_cases hu : xs (x3 + 2).toNatClampNeg = 0
  · obtain ⟨v, s1, s2, e1, e2, e3⟩ := h_visit (xs (x3 + 1).toNatClampNeg) 0 (xs (x3 + 3).toNatClampNeg) (xs (x3 + 4).toNatClampNeg) (by decide) s hs
    obtain ⟨s', e4⟩ := hk s2 e3
    refine ⟨s', ?_⟩
    simp only [F_Z_law_150, if_pos b1, if_pos b2, if_pos b3, if_pos b4, if_pos hu, e1, e2, Option.bind_some, if_true, e4]
  · obtain ⟨v, s1, s2, e1, e2, e3⟩ := h_visit (xs (x3 + 1).toNatClampNeg) 1 (xs (x3 + 3).toNatClampNeg) (xs (x3 + 4).toNatClampNeg) (by decide) s hs
    obtain ⟨s', e4⟩ := hk s2 e3
    refine ⟨s', ?_⟩
    simp only [F_Z_law_150, if_pos b1, if_pos b2, if_pos b3, if_pos b4, if_neg hu, e1, e2, Option.bind_some, if_true, e4]
theorem j_nights (h_nights : Good I (F_C_nights (xs (x3 + 1).toNatClampNeg)) (F_R_nights (xs (x3 + 1).toNatClampNeg))) (b1 : scIn L (x3 + 1)) (hk : ∀ s, I s → ∃ s', k (x3 + 6) s = some (1, s')) (n : Nat) (s : Mem) (hs : I s) : ∃ s', F_Z_law_205 L xs k (n + 1) x3 s = some (1, s') := by
  simp only [scIn] at b1
  obtain ⟨v, s1, s2, e1, e2, e3⟩ := h_nights s hs
  obtain ⟨s', e4⟩ := hk s2 e3
  refine ⟨s', ?_⟩
  simp only [F_Z_law_205, if_pos b1, e1, e2, Option.bind_some, if_true, e4]
theorem j_feed (h_feed : Good I (F_C_feed (xs (x3 + 1).toNatClampNeg) (xs (x3 + 2).toNatClampNeg) (xs (x3 + 3).toNatClampNeg) (xs (x3 + 4).toNatClampNeg) (xs (x3 + 5).toNatClampNeg)) (F_R_feed (xs (x3 + 1).toNatClampNeg) (xs (x3 + 2).toNatClampNeg) (xs (x3 + 3).toNatClampNeg) (xs (x3 + 4).toNatClampNeg) (xs (x3 + 5).toNatClampNeg))) (b1 : scIn L (x3 + 1)) (b2 : scIn L (x3 + 2)) (b3 : scIn L (x3 + 3)) (b4 : scIn L (x3 + 4)) (b5 : scIn L (x3 + 5)) (hk : ∀ s, I s → ∃ s', k (x3 + 6) s = some (1, s')) (n : Nat) (s : Mem) (hs : I s) : ∃ s', F_Z_law_222 L xs k (n + 1) x3 s = some (1, s') := by
  simp only [scIn] at b1 b2 b3 b4 b5
  obtain ⟨v, s1, s2, e1, e2, e3⟩ := h_feed s hs
  obtain ⟨s', e4⟩ := hk s2 e3
  refine ⟨s', ?_⟩
  simp only [F_Z_law_222, if_pos b1, if_pos b2, if_pos b3, if_pos b4, if_pos b5, e1, e2, Option.bind_some, if_true, e4]
theorem j_end (h_end : Good I (F_C_end (xs (x3 + 1).toNatClampNeg)) (F_R_end (xs (x3 + 1).toNatClampNeg))) (b1 : scIn L (x3 + 1)) (hk : ∀ s, I s → ∃ s', k (x3 + 6) s = some (1, s')) (n : Nat) (s : Mem) (hs : I s) : ∃ s', F_Z_law_279 L xs k (n + 1) x3 s = some (1, s') := by
  simp only [scIn] at b1
  obtain ⟨v, s1, s2, e1, e2, e3⟩ := h_end s hs
  obtain ⟨s', e4⟩ := hk s2 e3
  refine ⟨s', ?_⟩
  simp only [F_Z_law_279, if_pos b1, e1, e2, Option.bind_some, if_true, e4]
theorem j_text (h_text : Good I (F_C_text (xs (x3 + 1).toNatClampNeg)) (F_R_text (xs (x3 + 1).toNatClampNeg))) (b1 : scIn L (x3 + 1)) (hk : ∀ s, I s → ∃ s', k (x3 + 6) s = some (1, s')) (n : Nat) (s : Mem) (hs : I s) : ∃ s', F_Z_law_296 L xs k (n + 1) x3 s = some (1, s') := by
  simp only [scIn] at b1
  obtain ⟨v, s1, s2, e1, e2, e3⟩ := h_text s hs
  obtain ⟨s', e4⟩ := hk s2 e3
  refine ⟨s', ?_⟩
  simp only [F_Z_law_296, if_pos b1, e1, e2, Option.bind_some, if_true, e4]
theorem j_fault (h_fault : Good I (F_C_fault (xs (x3 + 1).toNatClampNeg)) (F_R_fault (xs (x3 + 1).toNatClampNeg))) (b1 : scIn L (x3 + 1)) (hk : ∀ s, I s → ∃ s', k (x3 + 6) s = some (1, s')) (n : Nat) (s : Mem) (hs : I s) : ∃ s', F_Z_law_313 L xs k (n + 1) x3 s = some (1, s') := by
  simp only [scIn] at b1
  obtain ⟨v, s1, s2, e1, e2, e3⟩ := h_fault s hs
  obtain ⟨s', e4⟩ := hk s2 e3
  refine ⟨s', ?_⟩
  simp only [F_Z_law_313, if_pos b1, e1, e2, Option.bind_some, if_true, e4]
theorem j_of (h_of : Good I (F_C_of (xs (x3 + 1).toNatClampNeg) (xs (x3 + 2).toNatClampNeg) (xs (x3 + 3).toNatClampNeg)) (F_R_of (xs (x3 + 1).toNatClampNeg) (xs (x3 + 2).toNatClampNeg) (xs (x3 + 3).toNatClampNeg))) (b1 : scIn L (x3 + 1)) (b2 : scIn L (x3 + 2)) (b3 : scIn L (x3 + 3)) (hk : ∀ s, I s → ∃ s', k (x3 + 6) s = some (1, s')) (n : Nat) (s : Mem) (hs : I s) : ∃ s', F_Z_law_330 L xs k (n + 1) x3 s = some (1, s') := by
  simp only [scIn] at b1 b2 b3
  obtain ⟨v, s1, s2, e1, e2, e3⟩ := h_of s hs
  obtain ⟨s', e4⟩ := hk s2 e3
  refine ⟨s', ?_⟩
  simp only [F_Z_law_330, if_pos b1, if_pos b2, if_pos b3, e1, e2, Option.bind_some, if_true, e4]
theorem j_creaks (h_creaks : Good I (F_C_creaks (xs (x3 + 1).toNatClampNeg) (xs (x3 + 2).toNatClampNeg) (xs (x3 + 3).toNatClampNeg) (xs (x3 + 4).toNatClampNeg)) (F_R_creaks (xs (x3 + 1).toNatClampNeg) (xs (x3 + 2).toNatClampNeg) (xs (x3 + 3).toNatClampNeg) (xs (x3 + 4).toNatClampNeg))) (b1 : scIn L (x3 + 1)) (b2 : scIn L (x3 + 2)) (b3 : scIn L (x3 + 3)) (b4 : scIn L (x3 + 4)) (hk : ∀ s, I s → ∃ s', k (x3 + 6) s = some (1, s')) (n : Nat) (s : Mem) (hs : I s) : ∃ s', F_Z_law_367 L xs k (n + 1) x3 s = some (1, s') := by
  simp only [scIn] at b1 b2 b3 b4
  obtain ⟨v, s1, s2, e1, e2, e3⟩ := h_creaks s hs
  obtain ⟨s', e4⟩ := hk s2 e3
  refine ⟨s', ?_⟩
  simp only [F_Z_law_367, if_pos b1, if_pos b2, if_pos b3, if_pos b4, e1, e2, Option.bind_some, if_true, e4]
theorem j_wears (h_wears : Good I (F_C_wears (xs (x3 + 1).toNatClampNeg) (xs (x3 + 2).toNatClampNeg) (xs (x3 + 3).toNatClampNeg) (xs (x3 + 4).toNatClampNeg)) (F_R_wears (xs (x3 + 1).toNatClampNeg) (xs (x3 + 2).toNatClampNeg) (xs (x3 + 3).toNatClampNeg) (xs (x3 + 4).toNatClampNeg))) (b1 : scIn L (x3 + 1)) (b2 : scIn L (x3 + 2)) (b3 : scIn L (x3 + 3)) (b4 : scIn L (x3 + 4)) (hk : ∀ s, I s → ∃ s', k (x3 + 6) s = some (1, s')) (n : Nat) (s : Mem) (hs : I s) : ∃ s', F_Z_law_414 L xs k (n + 1) x3 s = some (1, s') := by
  simp only [scIn] at b1 b2 b3 b4
  obtain ⟨v, s1, s2, e1, e2, e3⟩ := h_wears s hs
  obtain ⟨s', e4⟩ := hk s2 e3
  refine ⟨s', ?_⟩
  simp only [F_Z_law_414, if_pos b1, if_pos b2, if_pos b3, if_pos b4, e1, e2, Option.bind_some, if_true, e4]
theorem j_book (h_book : Good I (F_C_book (xs (x3 + 1).toNatClampNeg) (xs (x3 + 2).toNatClampNeg)) (F_R_book (xs (x3 + 1).toNatClampNeg) (xs (x3 + 2).toNatClampNeg))) (b1 : scIn L (x3 + 1)) (b2 : scIn L (x3 + 2)) (hk : ∀ s, I s → ∃ s', k (x3 + 6) s = some (1, s')) (n : Nat) (s : Mem) (hs : I s) : ∃ s', F_Z_law_461 L xs k (n + 1) x3 s = some (1, s') := by
  simp only [scIn] at b1 b2
  obtain ⟨v, s1, s2, e1, e2, e3⟩ := h_book s hs
  obtain ⟨s', e4⟩ := hk s2 e3
  refine ⟨s', ?_⟩
  simp only [F_Z_law_461, if_pos b1, if_pos b2, e1, e2, Option.bind_some, if_true, e4]
theorem j_goes (h_goes : Good I (F_C_goes (xs (x3 + 1).toNatClampNeg) (xs (x3 + 2).toNatClampNeg)) (F_R_goes (xs (x3 + 1).toNatClampNeg) (xs (x3 + 2).toNatClampNeg))) (b1 : scIn L (x3 + 1)) (b2 : scIn L (x3 + 2)) (hk : ∀ s, I s → ∃ s', k (x3 + 6) s = some (1, s')) (n : Nat) (s : Mem) (hs : I s) : ∃ s', F_Z_law_488 L xs k (n + 1) x3 s = some (1, s') := by
  simp only [scIn] at b1 b2
  obtain ⟨v, s1, s2, e1, e2, e3⟩ := h_goes s hs
  obtain ⟨s', e4⟩ := hk s2 e3
  refine ⟨s', ?_⟩
  simp only [F_Z_law_488, if_pos b1, if_pos b2, e1, e2, Option.bind_some, if_true, e4]
theorem j_unheard (h_unheard : Good I (F_C_unheard (xs (x3 + 1).toNatClampNeg) (xs (x3 + 2).toNatClampNeg) (xs (x3 + 3).toNatClampNeg) (xs (x3 + 4).toNatClampNeg)) (F_R_unheard (xs (x3 + 1).toNatClampNeg) (xs (x3 + 2).toNatClampNeg) (xs (x3 + 3).toNatClampNeg) (xs (x3 + 4).toNatClampNeg))) (b1 : scIn L (x3 + 1)) (b2 : scIn L (x3 + 2)) (b3 : scIn L (x3 + 3)) (b4 : scIn L (x3 + 4)) (hk : ∀ s, I s → ∃ s', k (x3 + 6) s = some (1, s')) (n : Nat) (s : Mem) (hs : I s) : ∃ s', F_Z_law_515 L xs k (n + 1) x3 s = some (1, s') := by
  simp only [scIn] at b1 b2 b3 b4
  obtain ⟨v, s1, s2, e1, e2, e3⟩ := h_unheard s hs
  obtain ⟨s', e4⟩ := hk s2 e3
  refine ⟨s', ?_⟩
  simp only [F_Z_law_515, if_pos b1, if_pos b2, if_pos b3, if_pos b4, e1, e2, Option.bind_some, if_true, e4]
theorem j_suspect (h_suspect : Good I (F_C_suspect (xs (x3 + 1).toNatClampNeg) (xs (x3 + 2).toNatClampNeg)) (F_R_suspect (xs (x3 + 1).toNatClampNeg) (xs (x3 + 2).toNatClampNeg))) (b1 : scIn L (x3 + 1)) (b2 : scIn L (x3 + 2)) (hk : ∀ s, I s → ∃ s', k (x3 + 6) s = some (1, s')) (n : Nat) (s : Mem) (hs : I s) : ∃ s', F_Z_law_562 L xs k (n + 1) x3 s = some (1, s') := by
  simp only [scIn] at b1 b2
  obtain ⟨v, s1, s2, e1, e2, e3⟩ := h_suspect s hs
  obtain ⟨s', e4⟩ := hk s2 e3
  refine ⟨s', ?_⟩
  simp only [F_Z_law_562, if_pos b1, if_pos b2, e1, e2, Option.bind_some, if_true, e4]
theorem j_who (h_who : Good I (F_C_who (xs (x3 + 1).toNatClampNeg) (xs (x3 + 2).toNatClampNeg) (xs (x3 + 3).toNatClampNeg)) (F_R_who (xs (x3 + 1).toNatClampNeg) (xs (x3 + 2).toNatClampNeg) (xs (x3 + 3).toNatClampNeg))) (b1 : scIn L (x3 + 1)) (b2 : scIn L (x3 + 2)) (b3 : scIn L (x3 + 3)) (hk : ∀ s, I s → ∃ s', k (x3 + 6) s = some (1, s')) (n : Nat) (s : Mem) (hs : I s) : ∃ s', F_Z_law_589 L xs k (n + 1) x3 s = some (1, s') := by
  simp only [scIn] at b1 b2 b3
  obtain ⟨v, s1, s2, e1, e2, e3⟩ := h_who s hs
  obtain ⟨s', e4⟩ := hk s2 e3
  refine ⟨s', ?_⟩
  simp only [F_Z_law_589, if_pos b1, if_pos b2, if_pos b3, e1, e2, Option.bind_some, if_true, e4]
theorem j_roster (h_roster : Good I (F_C_roster (xs (x3 + 1).toNatClampNeg) (xs (x3 + 2).toNatClampNeg) (xs (x3 + 3).toNatClampNeg)) (F_R_roster (xs (x3 + 1).toNatClampNeg) (xs (x3 + 2).toNatClampNeg) (xs (x3 + 3).toNatClampNeg))) (b1 : scIn L (x3 + 1)) (b2 : scIn L (x3 + 2)) (b3 : scIn L (x3 + 3)) (hk : ∀ s, I s → ∃ s', k (x3 + 6) s = some (1, s')) (n : Nat) (s : Mem) (hs : I s) : ∃ s', F_Z_law_626 L xs k (n + 1) x3 s = some (1, s') := by
  simp only [scIn] at b1 b2 b3
  obtain ⟨v, s1, s2, e1, e2, e3⟩ := h_roster s hs
  obtain ⟨s', e4⟩ := hk s2 e3
  refine ⟨s', ?_⟩
  simp only [F_Z_law_626, if_pos b1, if_pos b2, if_pos b3, e1, e2, Option.bind_some, if_true, e4]
theorem j_signer (h_signer : Good I (F_C_signer (xs (x3 + 1).toNatClampNeg)) (F_R_signer (xs (x3 + 1).toNatClampNeg))) (b1 : scIn L (x3 + 1)) (hk : ∀ s, I s → ∃ s', k (x3 + 6) s = some (1, s')) (n : Nat) (s : Mem) (hs : I s) : ∃ s', F_Z_law_663 L xs k (n + 1) x3 s = some (1, s') := by
  simp only [scIn] at b1
  obtain ⟨v, s1, s2, e1, e2, e3⟩ := h_signer s hs
  obtain ⟨s', e4⟩ := hk s2 e3
  refine ⟨s', ?_⟩
  simp only [F_Z_law_663, if_pos b1, e1, e2, Option.bind_some, if_true, e4]
theorem j_signs (h_signs : Good I (F_C_signs (xs (x3 + 1).toNatClampNeg)) (F_R_signs (xs (x3 + 1).toNatClampNeg))) (b1 : scIn L (x3 + 1)) (hk : ∀ s, I s → ∃ s', k (x3 + 6) s = some (1, s')) (n : Nat) (s : Mem) (hs : I s) : ∃ s', F_Z_law_680 L xs k (n + 1) x3 s = some (1, s') := by
  simp only [scIn] at b1
  obtain ⟨v, s1, s2, e1, e2, e3⟩ := h_signs s hs
  obtain ⟨s', e4⟩ := hk s2 e3
  refine ⟨s', ?_⟩
  simp only [F_Z_law_680, if_pos b1, e1, e2, Option.bind_some, if_true, e4]
theorem j_joined (h_joined : Good I (F_C_joined (xs (x3 + 1).toNatClampNeg) (xs (x3 + 2).toNatClampNeg) (xs (x3 + 3).toNatClampNeg)) (F_R_joined (xs (x3 + 1).toNatClampNeg) (xs (x3 + 2).toNatClampNeg) (xs (x3 + 3).toNatClampNeg))) (b1 : scIn L (x3 + 1)) (b2 : scIn L (x3 + 2)) (b3 : scIn L (x3 + 3)) (hk : ∀ s, I s → ∃ s', k (x3 + 6) s = some (1, s')) (n : Nat) (s : Mem) (hs : I s) : ∃ s', F_Z_law_697 L xs k (n + 1) x3 s = some (1, s') := by
  simp only [scIn] at b1 b2 b3
  obtain ⟨v, s1, s2, e1, e2, e3⟩ := h_joined s hs
  obtain ⟨s', e4⟩ := hk s2 e3
  refine ⟨s', ?_⟩
  simp only [F_Z_law_697, if_pos b1, if_pos b2, if_pos b3, e1, e2, Option.bind_some, if_true, e4]
theorem j_mutiny (h_mutiny : Good I (F_C_mutiny (xs (x3 + 1).toNatClampNeg) (xs (x3 + 2).toNatClampNeg)) (F_R_mutiny (xs (x3 + 1).toNatClampNeg) (xs (x3 + 2).toNatClampNeg))) (b1 : scIn L (x3 + 1)) (b2 : scIn L (x3 + 2)) (hk : ∀ s, I s → ∃ s', k (x3 + 6) s = some (1, s')) (n : Nat) (s : Mem) (hs : I s) : ∃ s', F_Z_law_734 L xs k (n + 1) x3 s = some (1, s') := by
  simp only [scIn] at b1 b2
  obtain ⟨v, s1, s2, e1, e2, e3⟩ := h_mutiny s hs
  obtain ⟨s', e4⟩ := hk s2 e3
  refine ⟨s', ?_⟩
  simp only [F_Z_law_734, if_pos b1, if_pos b2, e1, e2, Option.bind_some, if_true, e4]
theorem j_drill (h_drill : Good I (F_C_drill (xs (x3 + 1).toNatClampNeg)) (F_R_drill (xs (x3 + 1).toNatClampNeg))) (b1 : scIn L (x3 + 1)) (hk : ∀ s, I s → ∃ s', k (x3 + 6) s = some (1, s')) (n : Nat) (s : Mem) (hs : I s) : ∃ s', F_Z_law_761 L xs k (n + 1) x3 s = some (1, s') := by
  simp only [scIn] at b1
  obtain ⟨v, s1, s2, e1, e2, e3⟩ := h_drill s hs
  obtain ⟨s', e4⟩ := hk s2 e3
  refine ⟨s', ?_⟩
  simp only [F_Z_law_761, if_pos b1, e1, e2, Option.bind_some, if_true, e4]
theorem j_drilled (h_drilled : Good I (F_C_drilled (xs (x3 + 1).toNatClampNeg) (xs (x3 + 2).toNatClampNeg)) (F_R_drilled (xs (x3 + 1).toNatClampNeg) (xs (x3 + 2).toNatClampNeg))) (b1 : scIn L (x3 + 1)) (b2 : scIn L (x3 + 2)) (hk : ∀ s, I s → ∃ s', k (x3 + 6) s = some (1, s')) (n : Nat) (s : Mem) (hs : I s) : ∃ s', F_Z_law_778 L xs k (n + 1) x3 s = some (1, s') := by
  simp only [scIn] at b1 b2
  obtain ⟨v, s1, s2, e1, e2, e3⟩ := h_drilled s hs
  obtain ⟨s', e4⟩ := hk s2 e3
  refine ⟨s', ?_⟩
  simp only [F_Z_law_778, if_pos b1, if_pos b2, e1, e2, Option.bind_some, if_true, e4]
theorem j_between (h_between : Good I (F_C_between (xs (x3 + 1).toNatClampNeg) (xs (x3 + 2).toNatClampNeg)) (F_R_between (xs (x3 + 1).toNatClampNeg) (xs (x3 + 2).toNatClampNeg))) (b1 : scIn L (x3 + 1)) (b2 : scIn L (x3 + 2)) (hk : ∀ s, I s → ∃ s', k (x3 + 6) s = some (1, s')) (n : Nat) (s : Mem) (hs : I s) : ∃ s', F_Z_law_805 L xs k (n + 1) x3 s = some (1, s') := by
  simp only [scIn] at b1 b2
  obtain ⟨v, s1, s2, e1, e2, e3⟩ := h_between s hs
  obtain ⟨s', e4⟩ := hk s2 e3
  refine ⟨s', ?_⟩
  simp only [F_Z_law_805, if_pos b1, if_pos b2, e1, e2, Option.bind_some, if_true, e4]
theorem j_spiral (h_spiral : Good I (F_C_spiral (xs (x3 + 1).toNatClampNeg) (xs (x3 + 2).toNatClampNeg)) (F_R_spiral (xs (x3 + 1).toNatClampNeg) (xs (x3 + 2).toNatClampNeg))) (b1 : scIn L (x3 + 1)) (b2 : scIn L (x3 + 2)) (hk : ∀ s, I s → ∃ s', k (x3 + 6) s = some (1, s')) (n : Nat) (s : Mem) (hs : I s) : ∃ s', F_Z_law_832 L xs k (n + 1) x3 s = some (1, s') := by
  simp only [scIn] at b1 b2
  obtain ⟨v, s1, s2, e1, e2, e3⟩ := h_spiral s hs
  obtain ⟨s', e4⟩ := hk s2 e3
  refine ⟨s', ?_⟩
  simp only [F_Z_law_832, if_pos b1, if_pos b2, e1, e2, Option.bind_some, if_true, e4]
theorem j_winds (h_winds : Good I (F_C_winds (xs (x3 + 1).toNatClampNeg) (xs (x3 + 2).toNatClampNeg)) (F_R_winds (xs (x3 + 1).toNatClampNeg) (xs (x3 + 2).toNatClampNeg))) (b1 : scIn L (x3 + 1)) (b2 : scIn L (x3 + 2)) (hk : ∀ s, I s → ∃ s', k (x3 + 6) s = some (1, s')) (n : Nat) (s : Mem) (hs : I s) : ∃ s', F_Z_law_859 L xs k (n + 1) x3 s = some (1, s') := by
  simp only [scIn] at b1 b2
  obtain ⟨v, s1, s2, e1, e2, e3⟩ := h_winds s hs
  obtain ⟨s', e4⟩ := hk s2 e3
  refine ⟨s', ?_⟩
  simp only [F_Z_law_859, if_pos b1, if_pos b2, e1, e2, Option.bind_some, if_true, e4]
theorem j_calls (h_calls : Good I (F_C_calls (xs (x3 + 1).toNatClampNeg)) (F_R_calls (xs (x3 + 1).toNatClampNeg))) (b1 : scIn L (x3 + 1)) (hk : ∀ s, I s → ∃ s', k (x3 + 6) s = some (1, s')) (n : Nat) (s : Mem) (hs : I s) : ∃ s', F_Z_law_886 L xs k (n + 1) x3 s = some (1, s') := by
  simp only [scIn] at b1
  obtain ⟨v, s1, s2, e1, e2, e3⟩ := h_calls s hs
  obtain ⟨s', e4⟩ := hk s2 e3
  refine ⟨s', ?_⟩
  simp only [F_Z_law_886, if_pos b1, e1, e2, Option.bind_some, if_true, e4]
theorem j_missing (h_missing : Good I (F_C_missing (xs (x3 + 1).toNatClampNeg)) (F_R_missing (xs (x3 + 1).toNatClampNeg))) (b1 : scIn L (x3 + 1)) (hk : ∀ s, I s → ∃ s', k (x3 + 6) s = some (1, s')) (n : Nat) (s : Mem) (hs : I s) : ∃ s', F_Z_law_903 L xs k (n + 1) x3 s = some (1, s') := by
  simp only [scIn] at b1
  obtain ⟨v, s1, s2, e1, e2, e3⟩ := h_missing s hs
  obtain ⟨s', e4⟩ := hk s2 e3
  refine ⟨s', ?_⟩
  simp only [F_Z_law_903, if_pos b1, e1, e2, Option.bind_some, if_true, e4]
theorem j_length (h_length : Good I (F_C_length (xs (x3 + 1).toNatClampNeg)) (F_R_length (xs (x3 + 1).toNatClampNeg))) (b1 : scIn L (x3 + 1)) (hk : ∀ s, I s → ∃ s', k (x3 + 6) s = some (1, s')) (n : Nat) (s : Mem) (hs : I s) : ∃ s', F_Z_law_920 L xs k (n + 1) x3 s = some (1, s') := by
  simp only [scIn] at b1
  obtain ⟨v, s1, s2, e1, e2, e3⟩ := h_length s hs
  obtain ⟨s', e4⟩ := hk s2 e3
  refine ⟨s', ?_⟩
  simp only [F_Z_law_920, if_pos b1, e1, e2, Option.bind_some, if_true, e4]
theorem j_runner (h_runner : Good I (F_C_runner (xs (x3 + 1).toNatClampNeg) (xs (x3 + 2).toNatClampNeg)) (F_R_runner (xs (x3 + 1).toNatClampNeg) (xs (x3 + 2).toNatClampNeg))) (b1 : scIn L (x3 + 1)) (b2 : scIn L (x3 + 2)) (hk : ∀ s, I s → ∃ s', k (x3 + 6) s = some (1, s')) (n : Nat) (s : Mem) (hs : I s) : ∃ s', F_Z_law_937 L xs k (n + 1) x3 s = some (1, s') := by
  simp only [scIn] at b1 b2
  obtain ⟨v, s1, s2, e1, e2, e3⟩ := h_runner s hs
  obtain ⟨s', e4⟩ := hk s2 e3
  refine ⟨s', ?_⟩
  simp only [F_Z_law_937, if_pos b1, if_pos b2, e1, e2, Option.bind_some, if_true, e4]
theorem j_wall (h_wall : Good I (F_C_wall (xs (x3 + 1).toNatClampNeg)) (F_R_wall (xs (x3 + 1).toNatClampNeg))) (b1 : scIn L (x3 + 1)) (hk : ∀ s, I s → ∃ s', k (x3 + 6) s = some (1, s')) (n : Nat) (s : Mem) (hs : I s) : ∃ s', F_Z_law_964 L xs k (n + 1) x3 s = some (1, s') := by
  simp only [scIn] at b1
  obtain ⟨v, s1, s2, e1, e2, e3⟩ := h_wall s hs
  obtain ⟨s', e4⟩ := hk s2 e3
  refine ⟨s', ?_⟩
  simp only [F_Z_law_964, if_pos b1, e1, e2, Option.bind_some, if_true, e4]
theorem j_ramp (h_ramp : Good I (F_C_ramp (xs (x3 + 1).toNatClampNeg) (xs (x3 + 2).toNatClampNeg)) (F_R_ramp (xs (x3 + 1).toNatClampNeg) (xs (x3 + 2).toNatClampNeg))) (b1 : scIn L (x3 + 1)) (b2 : scIn L (x3 + 2)) (hk : ∀ s, I s → ∃ s', k (x3 + 6) s = some (1, s')) (n : Nat) (s : Mem) (hs : I s) : ∃ s', F_Z_law_981 L xs k (n + 1) x3 s = some (1, s') := by
  simp only [scIn] at b1 b2
  obtain ⟨v, s1, s2, e1, e2, e3⟩ := h_ramp s hs
  obtain ⟨s', e4⟩ := hk s2 e3
  refine ⟨s', ?_⟩
  simp only [F_Z_law_981, if_pos b1, if_pos b2, e1, e2, Option.bind_some, if_true, e4]
theorem j_box (h_box : Good I (F_C_box (xs (x3 + 1).toNatClampNeg) (xs (x3 + 2).toNatClampNeg) (xs (x3 + 3).toNatClampNeg)) (F_R_box (xs (x3 + 1).toNatClampNeg) (xs (x3 + 2).toNatClampNeg) (xs (x3 + 3).toNatClampNeg))) (b1 : scIn L (x3 + 1)) (b2 : scIn L (x3 + 2)) (b3 : scIn L (x3 + 3)) (hk : ∀ s, I s → ∃ s', k (x3 + 6) s = some (1, s')) (n : Nat) (s : Mem) (hs : I s) : ∃ s', F_Z_law_1008 L xs k (n + 1) x3 s = some (1, s') := by
  simp only [scIn] at b1 b2 b3
  obtain ⟨v, s1, s2, e1, e2, e3⟩ := h_box s hs
  obtain ⟨s', e4⟩ := hk s2 e3
  refine ⟨s', ?_⟩
  simp only [F_Z_law_1008, if_pos b1, if_pos b2, if_pos b3, e1, e2, Option.bind_some, if_true, e4]
theorem j_digit (h_digit : Good I (F_C_digit (xs (x3 + 1).toNatClampNeg)) (F_R_digit (xs (x3 + 1).toNatClampNeg))) (b1 : scIn L (x3 + 1)) (hk : ∀ s, I s → ∃ s', k (x3 + 6) s = some (1, s')) (n : Nat) (s : Mem) (hs : I s) : ∃ s', F_Z_law_1045 L xs k (n + 1) x3 s = some (1, s') := by
  simp only [scIn] at b1
  obtain ⟨v, s1, s2, e1, e2, e3⟩ := h_digit s hs
  obtain ⟨s', e4⟩ := hk s2 e3
  refine ⟨s', ?_⟩
  simp only [F_Z_law_1045, if_pos b1, e1, e2, Option.bind_some, if_true, e4]
theorem j_cellar (h_cellar : Good I (F_C_cellar (xs (x3 + 1).toNatClampNeg)) (F_R_cellar (xs (x3 + 1).toNatClampNeg))) (b1 : scIn L (x3 + 1)) (hk : ∀ s, I s → ∃ s', k (x3 + 6) s = some (1, s')) (n : Nat) (s : Mem) (hs : I s) : ∃ s', F_Z_law_1062 L xs k (n + 1) x3 s = some (1, s') := by
  simp only [scIn] at b1
  obtain ⟨v, s1, s2, e1, e2, e3⟩ := h_cellar s hs
  obtain ⟨s', e4⟩ := hk s2 e3
  refine ⟨s', ?_⟩
  simp only [F_Z_law_1062, if_pos b1, e1, e2, Option.bind_some, if_true, e4]
theorem j_coins (h_coins : Good I (F_C_coins (xs (x3 + 1).toNatClampNeg) (xs (x3 + 2).toNatClampNeg)) (F_R_coins (xs (x3 + 1).toNatClampNeg) (xs (x3 + 2).toNatClampNeg))) (b1 : scIn L (x3 + 1)) (b2 : scIn L (x3 + 2)) (hk : ∀ s, I s → ∃ s', k (x3 + 6) s = some (1, s')) (n : Nat) (s : Mem) (hs : I s) : ∃ s', F_Z_law_1079 L xs k (n + 1) x3 s = some (1, s') := by
  simp only [scIn] at b1 b2
  obtain ⟨v, s1, s2, e1, e2, e3⟩ := h_coins s hs
  obtain ⟨s', e4⟩ := hk s2 e3
  refine ⟨s', ?_⟩
  simp only [F_Z_law_1079, if_pos b1, if_pos b2, e1, e2, Option.bind_some, if_true, e4]
theorem j_game (h_game : Good I (F_C_game (xs (x3 + 1).toNatClampNeg)) (F_R_game (xs (x3 + 1).toNatClampNeg))) (b1 : scIn L (x3 + 1)) (hk : ∀ s, I s → ∃ s', k (x3 + 6) s = some (1, s')) (n : Nat) (s : Mem) (hs : I s) : ∃ s', F_Z_law_1106 L xs k (n + 1) x3 s = some (1, s') := by
  simp only [scIn] at b1
  obtain ⟨v, s1, s2, e1, e2, e3⟩ := h_game s hs
  obtain ⟨s', e4⟩ := hk s2 e3
  refine ⟨s', ?_⟩
  simp only [F_Z_law_1106, if_pos b1, e1, e2, Option.bind_some, if_true, e4]
theorem j_undo (h_undo : Good I (F_C_undo ) (F_R_undo )) (hk : ∀ s, I s → ∃ s', k (x3 + 6) s = some (1, s')) (n : Nat) (s : Mem) (hs : I s) : ∃ s', F_Z_law_1123 L xs k (n + 1) x3 s = some (1, s') := by
  obtain ⟨v, s1, s2, e1, e2, e3⟩ := h_undo s hs
  obtain ⟨s', e4⟩ := hk s2 e3
  refine ⟨s', ?_⟩
  simp only [F_Z_law_1123, e1, e2, Option.bind_some, if_true, e4]
theorem j_image (h_image : ∀ u : Int32, u = 0 ∨ u = 1 → Good I (F_C_image u) (F_R_image u)) (b1 : scIn L (x3 + 1)) (hk : ∀ s, I s → ∃ s', k (x3 + 6) s = some (1, s')) (n : Nat) (s : Mem) (hs : I s) : ∃ s', F_Z_law_1130 L xs k (n + 1) x3 s = some (1, s') := by
  simp only [scIn] at b1
  by_cases hu : xs (x3 + 1).toNatClampNeg = 0
  · obtain ⟨v, s1, s2, e1, e2, e3⟩ := h_image 0 (by decide) s hs
    obtain ⟨s', e4⟩ := hk s2 e3
    refine ⟨s', ?_⟩
    simp only [F_Z_law_1130, if_pos b1, if_pos hu, e1, e2, Option.bind_some, if_true, e4]
  · obtain ⟨v, s1, s2, e1, e2, e3⟩ := h_image 1 (by decide) s hs
    obtain ⟨s', e4⟩ := hk s2 e3
    refine ⟨s', ?_⟩
    simp only [F_Z_law_1130, if_pos b1, if_neg hu, e1, e2, Option.bind_some, if_true, e4]
theorem j_look (h_look : Good I (F_C_look (xs (x3 + 1).toNatClampNeg)) (F_R_look (xs (x3 + 1).toNatClampNeg))) (b1 : scIn L (x3 + 1)) (hk : ∀ s, I s → ∃ s', k (x3 + 6) s = some (1, s')) (n : Nat) (s : Mem) (hs : I s) : ∃ s', F_Z_law_1155 L xs k (n + 1) x3 s = some (1, s') := by
  simp only [scIn] at b1
  obtain ⟨v, s1, s2, e1, e2, e3⟩ := h_look s hs
  obtain ⟨s', e4⟩ := hk s2 e3
  refine ⟨s', ?_⟩
  simp only [F_Z_law_1155, if_pos b1, e1, e2, Option.bind_some, if_true, e4]
end LOOPS
theorem sc_in {L i j : Nat} (h : i + j < L) (hL : L ≤ 384) : scIn L (nI i + nI j) := by
  rw [nI_add]
  exact nI_in h (by omega)
theorem sc_end {L i : Nat} (hL : L ≤ 384) (hi : i ≤ 384) : (nI L - 6 < nI i) ↔ L < i + 6 := by
  rw [Int32.lt_iff_toInt_lt, Int32.toInt_sub, nI_toInt (show L < 2 ^ 31 by omega), nI_toInt (show i < 2 ^ 31 by omega), show (6 : Int32).toInt = 6 from rfl]
  simp only [Int.bmod_def]
  omega
theorem lt_loop {I : Mem → Prop} (h_state : ∀ a : Int32, Good I (F_C_state a) (F_R_state a)) (h_flight : ∀ a b : Int32, Good I (F_C_flight a b) (F_R_flight a b)) (h_set : ∀ a b c d : Int32, Good I (F_C_set a b c d) (F_R_set a b c d)) (h_order : ∀ a b c : Int32, Good I (F_C_order a b c) (F_R_order a b c)) (h_visit : ∀ a u c d : Int32, u = 0 ∨ u = 1 → Good I (F_C_visit a u c d) (F_R_visit a u c d)) (h_nights : ∀ a : Int32, Good I (F_C_nights a) (F_R_nights a)) (h_feed : ∀ a b c d e : Int32, Good I (F_C_feed a b c d e) (F_R_feed a b c d e)) (h_end : ∀ a : Int32, Good I (F_C_end a) (F_R_end a)) (h_text : ∀ a : Int32, Good I (F_C_text a) (F_R_text a)) (h_fault : ∀ a : Int32, Good I (F_C_fault a) (F_R_fault a)) (h_of : ∀ a b c : Int32, Good I (F_C_of a b c) (F_R_of a b c)) (h_creaks : ∀ a b c d : Int32, Good I (F_C_creaks a b c d) (F_R_creaks a b c d)) (h_wears : ∀ a b c d : Int32, Good I (F_C_wears a b c d) (F_R_wears a b c d)) (h_book : ∀ a b : Int32, Good I (F_C_book a b) (F_R_book a b)) (h_goes : ∀ a b : Int32, Good I (F_C_goes a b) (F_R_goes a b)) (h_unheard : ∀ a b c d : Int32, Good I (F_C_unheard a b c d) (F_R_unheard a b c d)) (h_suspect : ∀ a b : Int32, Good I (F_C_suspect a b) (F_R_suspect a b)) (h_who : ∀ a b c : Int32, Good I (F_C_who a b c) (F_R_who a b c)) (h_roster : ∀ a b c : Int32, Good I (F_C_roster a b c) (F_R_roster a b c)) (h_signer : ∀ a : Int32, Good I (F_C_signer a) (F_R_signer a)) (h_signs : ∀ a : Int32, Good I (F_C_signs a) (F_R_signs a)) (h_joined : ∀ a b c : Int32, Good I (F_C_joined a b c) (F_R_joined a b c)) (h_mutiny : ∀ a b : Int32, Good I (F_C_mutiny a b) (F_R_mutiny a b)) (h_drill : ∀ a : Int32, Good I (F_C_drill a) (F_R_drill a)) (h_drilled : ∀ a b : Int32, Good I (F_C_drilled a b) (F_R_drilled a b)) (h_between : ∀ a b : Int32, Good I (F_C_between a b) (F_R_between a b)) (h_spiral : ∀ a b : Int32, Good I (F_C_spiral a b) (F_R_spiral a b)) (h_winds : ∀ a b : Int32, Good I (F_C_winds a b) (F_R_winds a b)) (h_calls : ∀ a : Int32, Good I (F_C_calls a) (F_R_calls a)) (h_missing : ∀ a : Int32, Good I (F_C_missing a) (F_R_missing a)) (h_length : ∀ a : Int32, Good I (F_C_length a) (F_R_length a)) (h_runner : ∀ a b : Int32, Good I (F_C_runner a b) (F_R_runner a b)) (h_wall : ∀ a : Int32, Good I (F_C_wall a) (F_R_wall a)) (h_ramp : ∀ a b : Int32, Good I (F_C_ramp a b) (F_R_ramp a b)) (h_box : ∀ a b c : Int32, Good I (F_C_box a b c) (F_R_box a b c)) (h_digit : ∀ a : Int32, Good I (F_C_digit a) (F_R_digit a)) (h_cellar : ∀ a : Int32, Good I (F_C_cellar a) (F_R_cellar a)) (h_coins : ∀ a b : Int32, Good I (F_C_coins a b) (F_R_coins a b)) (h_game : ∀ a : Int32, Good I (F_C_game a) (F_R_game a)) (h_undo : Good I (F_C_undo) (F_R_undo)) (h_image : ∀ u : Int32, u = 0 ∨ u = 1 → Good I (F_C_image u) (F_R_image u)) (h_look : ∀ a : Int32, Good I (F_C_look a) (F_R_look a)) {L : Nat} {xs : Nat → Int32} (hL : L ≤ 384) : ∀ (n i : Nat) (s : Mem), i ≤ L → L + 6 < i + 6 * n → I s → ∃ s', F_Z_law_10 L xs n (nI i) s = some (1, s') := by
  intro n
  induction n with
  | zero => intro i s h1 h2; omega
  | succ n ih =>
    intro i s h1 h2 hs
    by_cases hE : L < i + 6
    · refine ⟨s, ?_⟩
      rw [F_Z_law_10, if_pos ((sc_end hL (by omega)).mpr hE)]
    · have hE' : ¬ (nI L - 6 < nI i) := fun q => hE ((sc_end hL (by omega)).mp q)
      have b0 : scIn L (nI i) := nI_in (by omega) (by omega)
      have b1 : scIn L (nI i + 1) := sc_in (j := 1) (by omega) hL
      have b2 : scIn L (nI i + 2) := sc_in (j := 2) (by omega) hL
      have b3 : scIn L (nI i + 3) := sc_in (j := 3) (by omega) hL
      have b4 : scIn L (nI i + 4) := sc_in (j := 4) (by omega) hL
      have b5 : scIn L (nI i + 5) := sc_in (j := 5) (by omega) hL
      have e6 : nI i + 6 = nI (i + 6) := nI_add i 6
      have hk : ∀ s, I s → ∃ s', F_Z_law_10 L xs n (nI i + 6) s = some (1, s') := by
        intro s hs
        rw [e6]
        exact ih (i + 6) s (by omega) (by omega) hs
      have hg : gF = 999999 + 1 := gF_eq
      rw [F_Z_law_10, if_neg hE']
      rw [if_pos (show ¬ (nI i < 0 ∨ L ≤ (nI i).toNatClampNeg) from b0), hg]
      by_cases q0 : (xs (nI i).toNatClampNeg &&& 63) = 0
      · rw [if_pos q0]; exact j_state (h_state _) b1 hk _ s hs
      rw [if_neg q0]
      by_cases q1 : (xs (nI i).toNatClampNeg &&& 63) = 1
      · rw [if_pos q1]; exact j_flight (h_flight _ _) b1 b2 hk _ s hs
      rw [if_neg q1]
      by_cases q2 : (xs (nI i).toNatClampNeg &&& 63) = 2
      · rw [if_pos q2]; exact j_set (h_set _ _ _ _) b1 b2 b3 b4 hk _ s hs
      rw [if_neg q2]
      by_cases q3 : (xs (nI i).toNatClampNeg &&& 63) = 3
      · rw [if_pos q3]; exact j_order (h_order _ _ _) b1 b2 b3 hk _ s hs
      rw [if_neg q3]
      by_cases q4 : (xs (nI i).toNatClampNeg &&& 63) = 4
      · rw [if_pos q4]; exact j_visit h_visit b1 b2 b3 b4 hk _ s hs
      rw [if_neg q4]
      by_cases q5 : (xs (nI i).toNatClampNeg &&& 63) = 5
      · rw [if_pos q5]; exact j_nights (h_nights _) b1 hk _ s hs
      rw [if_neg q5]
      by_cases q6 : (xs (nI i).toNatClampNeg &&& 63) = 6
      · rw [if_pos q6]; exact j_feed (h_feed _ _ _ _ _) b1 b2 b3 b4 b5 hk _ s hs
      rw [if_neg q6]
      by_cases q7 : (xs (nI i).toNatClampNeg &&& 63) = 7
      · rw [if_pos q7]; exact j_end (h_end _) b1 hk _ s hs
      rw [if_neg q7]
      by_cases q8 : (xs (nI i).toNatClampNeg &&& 63) = 8
      · rw [if_pos q8]; exact j_text (h_text _) b1 hk _ s hs
      rw [if_neg q8]
      by_cases q9 : (xs (nI i).toNatClampNeg &&& 63) = 9
      · rw [if_pos q9]; exact j_fault (h_fault _) b1 hk _ s hs
      rw [if_neg q9]
      by_cases q10 : (xs (nI i).toNatClampNeg &&& 63) = 10
      · rw [if_pos q10]; exact j_of (h_of _ _ _) b1 b2 b3 hk _ s hs
      rw [if_neg q10]
      by_cases q11 : (xs (nI i).toNatClampNeg &&& 63) = 11
      · rw [if_pos q11]; exact j_creaks (h_creaks _ _ _ _) b1 b2 b3 b4 hk _ s hs
      rw [if_neg q11]
      by_cases q12 : (xs (nI i).toNatClampNeg &&& 63) = 12
      · rw [if_pos q12]; exact j_wears (h_wears _ _ _ _) b1 b2 b3 b4 hk _ s hs
      rw [if_neg q12]
      by_cases q13 : (xs (nI i).toNatClampNeg &&& 63) = 13
      · rw [if_pos q13]; exact j_book (h_book _ _) b1 b2 hk _ s hs
      rw [if_neg q13]
      by_cases q14 : (xs (nI i).toNatClampNeg &&& 63) = 14
      · rw [if_pos q14]; exact j_goes (h_goes _ _) b1 b2 hk _ s hs
      rw [if_neg q14]
      by_cases q15 : (xs (nI i).toNatClampNeg &&& 63) = 15
      · rw [if_pos q15]; exact j_unheard (h_unheard _ _ _ _) b1 b2 b3 b4 hk _ s hs
      rw [if_neg q15]
      by_cases q16 : (xs (nI i).toNatClampNeg &&& 63) = 16
      · rw [if_pos q16]; exact j_suspect (h_suspect _ _) b1 b2 hk _ s hs
      rw [if_neg q16]
      by_cases q17 : (xs (nI i).toNatClampNeg &&& 63) = 17
      · rw [if_pos q17]; exact j_who (h_who _ _ _) b1 b2 b3 hk _ s hs
      rw [if_neg q17]
      by_cases q18 : (xs (nI i).toNatClampNeg &&& 63) = 18
      · rw [if_pos q18]; exact j_roster (h_roster _ _ _) b1 b2 b3 hk _ s hs
      rw [if_neg q18]
      by_cases q19 : (xs (nI i).toNatClampNeg &&& 63) = 19
      · rw [if_pos q19]; exact j_signer (h_signer _) b1 hk _ s hs
      rw [if_neg q19]
      by_cases q20 : (xs (nI i).toNatClampNeg &&& 63) = 20
      · rw [if_pos q20]; exact j_signs (h_signs _) b1 hk _ s hs
      rw [if_neg q20]
      by_cases q21 : (xs (nI i).toNatClampNeg &&& 63) = 21
      · rw [if_pos q21]; exact j_joined (h_joined _ _ _) b1 b2 b3 hk _ s hs
      rw [if_neg q21]
      by_cases q22 : (xs (nI i).toNatClampNeg &&& 63) = 22
      · rw [if_pos q22]; exact j_mutiny (h_mutiny _ _) b1 b2 hk _ s hs
      rw [if_neg q22]
      by_cases q23 : (xs (nI i).toNatClampNeg &&& 63) = 23
      · rw [if_pos q23]; exact j_drill (h_drill _) b1 hk _ s hs
      rw [if_neg q23]
      by_cases q24 : (xs (nI i).toNatClampNeg &&& 63) = 24
      · rw [if_pos q24]; exact j_drilled (h_drilled _ _) b1 b2 hk _ s hs
      rw [if_neg q24]
      by_cases q25 : (xs (nI i).toNatClampNeg &&& 63) = 25
      · rw [if_pos q25]; exact j_between (h_between _ _) b1 b2 hk _ s hs
      rw [if_neg q25]
      by_cases q26 : (xs (nI i).toNatClampNeg &&& 63) = 26
      · rw [if_pos q26]; exact j_spiral (h_spiral _ _) b1 b2 hk _ s hs
      rw [if_neg q26]
      by_cases q27 : (xs (nI i).toNatClampNeg &&& 63) = 27
      · rw [if_pos q27]; exact j_winds (h_winds _ _) b1 b2 hk _ s hs
      rw [if_neg q27]
      by_cases q28 : (xs (nI i).toNatClampNeg &&& 63) = 28
      · rw [if_pos q28]; exact j_calls (h_calls _) b1 hk _ s hs
      rw [if_neg q28]
      by_cases q29 : (xs (nI i).toNatClampNeg &&& 63) = 29
      · rw [if_pos q29]; exact j_missing (h_missing _) b1 hk _ s hs
      rw [if_neg q29]
      by_cases q30 : (xs (nI i).toNatClampNeg &&& 63) = 30
      · rw [if_pos q30]; exact j_length (h_length _) b1 hk _ s hs
      rw [if_neg q30]
      by_cases q31 : (xs (nI i).toNatClampNeg &&& 63) = 31
      · rw [if_pos q31]; exact j_runner (h_runner _ _) b1 b2 hk _ s hs
      rw [if_neg q31]
      by_cases q32 : (xs (nI i).toNatClampNeg &&& 63) = 32
      · rw [if_pos q32]; exact j_wall (h_wall _) b1 hk _ s hs
      rw [if_neg q32]
      by_cases q33 : (xs (nI i).toNatClampNeg &&& 63) = 33
      · rw [if_pos q33]; exact j_ramp (h_ramp _ _) b1 b2 hk _ s hs
      rw [if_neg q33]
      by_cases q34 : (xs (nI i).toNatClampNeg &&& 63) = 34
      · rw [if_pos q34]; exact j_box (h_box _ _ _) b1 b2 b3 hk _ s hs
      rw [if_neg q34]
      by_cases q35 : (xs (nI i).toNatClampNeg &&& 63) = 35
      · rw [if_pos q35]; exact j_digit (h_digit _) b1 hk _ s hs
      rw [if_neg q35]
      by_cases q36 : (xs (nI i).toNatClampNeg &&& 63) = 36
      · rw [if_pos q36]; exact j_cellar (h_cellar _) b1 hk _ s hs
      rw [if_neg q36]
      by_cases q37 : (xs (nI i).toNatClampNeg &&& 63) = 37
      · rw [if_pos q37]; exact j_coins (h_coins _ _) b1 b2 hk _ s hs
      rw [if_neg q37]
      by_cases q38 : (xs (nI i).toNatClampNeg &&& 63) = 38
      · rw [if_pos q38]; exact j_game (h_game _) b1 hk _ s hs
      rw [if_neg q38]
      by_cases q39 : (xs (nI i).toNatClampNeg &&& 63) = 39
      · rw [if_pos q39]; exact j_undo h_undo  hk _ s hs
      rw [if_neg q39]
      by_cases q40 : (xs (nI i).toNatClampNeg &&& 63) = 40
      · rw [if_pos q40]; exact j_image h_image b1 hk _ s hs
      rw [if_neg q40]
      by_cases q41 : (xs (nI i).toNatClampNeg &&& 63) = 41
      · rw [if_pos q41]; exact j_look (h_look _) b1 hk _ s hs
      rw [if_neg q41]
      exact hk s hs
theorem lt_of {I : Mem → Prop} (h0 : I S0) (h_state : ∀ a : Int32, Good I (F_C_state a) (F_R_state a)) (h_flight : ∀ a b : Int32, Good I (F_C_flight a b) (F_R_flight a b)) (h_set : ∀ a b c d : Int32, Good I (F_C_set a b c d) (F_R_set a b c d)) (h_order : ∀ a b c : Int32, Good I (F_C_order a b c) (F_R_order a b c)) (h_visit : ∀ a u c d : Int32, u = 0 ∨ u = 1 → Good I (F_C_visit a u c d) (F_R_visit a u c d)) (h_nights : ∀ a : Int32, Good I (F_C_nights a) (F_R_nights a)) (h_feed : ∀ a b c d e : Int32, Good I (F_C_feed a b c d e) (F_R_feed a b c d e)) (h_end : ∀ a : Int32, Good I (F_C_end a) (F_R_end a)) (h_text : ∀ a : Int32, Good I (F_C_text a) (F_R_text a)) (h_fault : ∀ a : Int32, Good I (F_C_fault a) (F_R_fault a)) (h_of : ∀ a b c : Int32, Good I (F_C_of a b c) (F_R_of a b c)) (h_creaks : ∀ a b c d : Int32, Good I (F_C_creaks a b c d) (F_R_creaks a b c d)) (h_wears : ∀ a b c d : Int32, Good I (F_C_wears a b c d) (F_R_wears a b c d)) (h_book : ∀ a b : Int32, Good I (F_C_book a b) (F_R_book a b)) (h_goes : ∀ a b : Int32, Good I (F_C_goes a b) (F_R_goes a b)) (h_unheard : ∀ a b c d : Int32, Good I (F_C_unheard a b c d) (F_R_unheard a b c d)) (h_suspect : ∀ a b : Int32, Good I (F_C_suspect a b) (F_R_suspect a b)) (h_who : ∀ a b c : Int32, Good I (F_C_who a b c) (F_R_who a b c)) (h_roster : ∀ a b c : Int32, Good I (F_C_roster a b c) (F_R_roster a b c)) (h_signer : ∀ a : Int32, Good I (F_C_signer a) (F_R_signer a)) (h_signs : ∀ a : Int32, Good I (F_C_signs a) (F_R_signs a)) (h_joined : ∀ a b c : Int32, Good I (F_C_joined a b c) (F_R_joined a b c)) (h_mutiny : ∀ a b : Int32, Good I (F_C_mutiny a b) (F_R_mutiny a b)) (h_drill : ∀ a : Int32, Good I (F_C_drill a) (F_R_drill a)) (h_drilled : ∀ a b : Int32, Good I (F_C_drilled a b) (F_R_drilled a b)) (h_between : ∀ a b : Int32, Good I (F_C_between a b) (F_R_between a b)) (h_spiral : ∀ a b : Int32, Good I (F_C_spiral a b) (F_R_spiral a b)) (h_winds : ∀ a b : Int32, Good I (F_C_winds a b) (F_R_winds a b)) (h_calls : ∀ a : Int32, Good I (F_C_calls a) (F_R_calls a)) (h_missing : ∀ a : Int32, Good I (F_C_missing a) (F_R_missing a)) (h_length : ∀ a : Int32, Good I (F_C_length a) (F_R_length a)) (h_runner : ∀ a b : Int32, Good I (F_C_runner a b) (F_R_runner a b)) (h_wall : ∀ a : Int32, Good I (F_C_wall a) (F_R_wall a)) (h_ramp : ∀ a b : Int32, Good I (F_C_ramp a b) (F_R_ramp a b)) (h_box : ∀ a b c : Int32, Good I (F_C_box a b c) (F_R_box a b c)) (h_digit : ∀ a : Int32, Good I (F_C_digit a) (F_R_digit a)) (h_cellar : ∀ a : Int32, Good I (F_C_cellar a) (F_R_cellar a)) (h_coins : ∀ a b : Int32, Good I (F_C_coins a b) (F_R_coins a b)) (h_game : ∀ a : Int32, Good I (F_C_game a) (F_R_game a)) (h_undo : Good I (F_C_undo) (F_R_undo)) (h_image : ∀ u : Int32, u = 0 ∨ u = 1 → Good I (F_C_image u) (F_R_image u)) (h_look : ∀ a : Int32, Good I (F_C_look a) (F_R_look a)) : ∀ (L : Nat) (xs : Nat → Int32), L ≤ 384 → ∃ (n : Nat) (s' : Mem), F_Z_law_10 L xs n 0 S0 = some (1, s') := fun L xs hL => ⟨L + 7, lt_loop (I := I) h_state h_flight h_set h_order h_visit h_nights h_feed h_end h_text h_fault h_of h_creaks h_wears h_book h_goes h_unheard h_suspect h_who h_roster h_signer h_signs h_joined h_mutiny h_drill h_drilled h_between h_spiral h_winds h_calls h_missing h_length h_runner h_wall h_ramp h_box h_digit h_cellar h_coins h_game h_undo h_image h_look hL (L + 7) 0 S0 (Nat.zero_le _) (by omega) h0⟩
