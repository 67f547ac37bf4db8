/-! ===== facts ===== -/
theorem mwrp (s : Mem) (c : Nat) (F : Nat → Int32) (k : Nat) (v : Int32) : mw (rp s c F) c k v = rp s c (up F k v) := by
  rw [mw_rp, rp_rp, rp_at]
def FC (s : Mem) (h0 c f i : Nat) (w st : Int32) : Nat → Int32 := (up (up (up (up (up (up (up (up (up (up (up (s 13) 0 (w)) 1 (s c (96 * 1 + 16 * f + i))) 2 (s c (96 * 2 + 16 * f + i))) 3 (s c (96 * 3 + 16 * f + i))) 4 (s c (96 * 5 + 16 * f + i))) 5 (s c (96 * 0 + 16 * f + i))) 6 (nI i)) 7 (s c (96 * 6 + 16 * f + i))) 8 (s c (96 * 7 + 16 * f + i))) 9 (st)) 10 (s h0 5))
theorem L_learn {s : Mem} {h0 c f i : Nat} {w st : Int32} (h1 : kd h0 = 4) (h2 : rf h0 0 = c) (h3 : kd c = 1) (h4 : ln c = 864) (hc : c ≠ 13) (hh : h0 ≠ 13) (hf : f < 6) (hi : i < 16) : F_L_learn h0 (nI f) (nI i) w st s = some (0, rp s 13 (FC s h0 c f i w st)) := by
  have d0 : ∀ (F : Nat → Int32) (v : Int32), sd (rp s 13 F) 13 0 v = some (rp s 13 (up F 0 v)) := fun F v => (sd_in (k := 0) rfl (by decide) (by decide)).trans (congrArg some (mwrp s 13 F 0 v))
  have d1 : ∀ (F : Nat → Int32) (v : Int32), sd (rp s 13 F) 13 1 v = some (rp s 13 (up F 1 v)) := fun F v => (sd_in (k := 1) rfl (by decide) (by decide)).trans (congrArg some (mwrp s 13 F 1 v))
  have d2 : ∀ (F : Nat → Int32) (v : Int32), sd (rp s 13 F) 13 2 v = some (rp s 13 (up F 2 v)) := fun F v => (sd_in (k := 2) rfl (by decide) (by decide)).trans (congrArg some (mwrp s 13 F 2 v))
  have d3 : ∀ (F : Nat → Int32) (v : Int32), sd (rp s 13 F) 13 3 v = some (rp s 13 (up F 3 v)) := fun F v => (sd_in (k := 3) rfl (by decide) (by decide)).trans (congrArg some (mwrp s 13 F 3 v))
  have d4 : ∀ (F : Nat → Int32) (v : Int32), sd (rp s 13 F) 13 4 v = some (rp s 13 (up F 4 v)) := fun F v => (sd_in (k := 4) rfl (by decide) (by decide)).trans (congrArg some (mwrp s 13 F 4 v))
  have d5 : ∀ (F : Nat → Int32) (v : Int32), sd (rp s 13 F) 13 5 v = some (rp s 13 (up F 5 v)) := fun F v => (sd_in (k := 5) rfl (by decide) (by decide)).trans (congrArg some (mwrp s 13 F 5 v))
  have d6 : ∀ (F : Nat → Int32) (v : Int32), sd (rp s 13 F) 13 6 v = some (rp s 13 (up F 6 v)) := fun F v => (sd_in (k := 6) rfl (by decide) (by decide)).trans (congrArg some (mwrp s 13 F 6 v))
  have d7 : ∀ (F : Nat → Int32) (v : Int32), sd (rp s 13 F) 13 7 v = some (rp s 13 (up F 7 v)) := fun F v => (sd_in (k := 7) rfl (by decide) (by decide)).trans (congrArg some (mwrp s 13 F 7 v))
  have d8 : ∀ (F : Nat → Int32) (v : Int32), sd (rp s 13 F) 13 8 v = some (rp s 13 (up F 8 v)) := fun F v => (sd_in (k := 8) rfl (by decide) (by decide)).trans (congrArg some (mwrp s 13 F 8 v))
  have d9 : ∀ (F : Nat → Int32) (v : Int32), sd (rp s 13 F) 13 9 v = some (rp s 13 (up F 9 v)) := fun F v => (sd_in (k := 9) rfl (by decide) (by decide)).trans (congrArg some (mwrp s 13 F 9 v))
  have d10 : ∀ (F : Nat → Int32) (v : Int32), sd (rp s 13 F) 13 10 v = some (rp s 13 (up F 10 v)) := fun F v => (sd_in (k := 10) rfl (by decide) (by decide)).trans (congrArg some (mwrp s 13 F 10 v))
  have g0 : ∀ F : Nat → Int32, F_H_get h0 0 (nI f) (nI i) (rp s 13 F) = some (s c (96 * 0 + 16 * f + i), rp s 13 F) := fun F => (H_get (t := 0) h1 h2 h3 h4 (by decide) hf hi).trans (by rw [rp_o hc])
  have g1 : ∀ F : Nat → Int32, F_H_get h0 1 (nI f) (nI i) (rp s 13 F) = some (s c (96 * 1 + 16 * f + i), rp s 13 F) := fun F => (H_get (t := 1) h1 h2 h3 h4 (by decide) hf hi).trans (by rw [rp_o hc])
  have g2 : ∀ F : Nat → Int32, F_H_get h0 2 (nI f) (nI i) (rp s 13 F) = some (s c (96 * 2 + 16 * f + i), rp s 13 F) := fun F => (H_get (t := 2) h1 h2 h3 h4 (by decide) hf hi).trans (by rw [rp_o hc])
  have g3 : ∀ F : Nat → Int32, F_H_get h0 3 (nI f) (nI i) (rp s 13 F) = some (s c (96 * 3 + 16 * f + i), rp s 13 F) := fun F => (H_get (t := 3) h1 h2 h3 h4 (by decide) hf hi).trans (by rw [rp_o hc])
  have g5 : ∀ F : Nat → Int32, F_H_get h0 5 (nI f) (nI i) (rp s 13 F) = some (s c (96 * 5 + 16 * f + i), rp s 13 F) := fun F => (H_get (t := 5) h1 h2 h3 h4 (by decide) hf hi).trans (by rw [rp_o hc])
  have g6 : ∀ F : Nat → Int32, F_H_get h0 6 (nI f) (nI i) (rp s 13 F) = some (s c (96 * 6 + 16 * f + i), rp s 13 F) := fun F => (H_get (t := 6) h1 h2 h3 h4 (by decide) hf hi).trans (by rw [rp_o hc])
  have g7 : ∀ F : Nat → Int32, F_H_get h0 7 (nI f) (nI i) (rp s 13 F) = some (s c (96 * 7 + 16 * f + i), rp s 13 F) := fun F => (H_get (t := 7) h1 h2 h3 h4 (by decide) hf hi).trans (by rw [rp_o hc])
  have gn : ∀ F : Nat → Int32, (rp s 13 F) h0 5 = s h0 5 := fun F => by rw [rp_o hh]
  have e0 : F_L_learn h0 (nI f) (nI i) w st s = F_L_learn h0 (nI f) (nI i) w st (rp s 13 (s 13)) := by rw [rp_id]
  rw [e0]
  simp only [F_L_learn, h1, show Nat.beq 4 4 = true from rfl, cond_true, d0, d1, d2, d3, d4, d5, d6, d7, d8, d9, d10, g0, g1, g2, g3, g5, g6, g7, gn, Option.bind_some]
  rfl
def FM (s : Mem) (j : Nat) (lz w st : Int32) : Nat → Int32 := (up (up (up (up (up (up (up (up (up (up (up (s 143) 0 (w)) 1 (s 124 (5 + j))) 2 (lz)) 3 (s 124 (197 + j))) 4 (s 124 (389 + j))) 5 (s 128 j)) 6 (nI (j % 16))) 7 (s 124 (485 + j))) 8 (s 124 (581 + j))) 9 (st)) 10 (s 124 0))
theorem R_lesser (x y : Int32) (s : Mem) : F_R_lesser x y s = some (if y ≤ x then y else x, s) := by
  unfold F_R_lesser
  split <;> rfl
theorem R_asks {s : Mem} {j : Nat} {lz w st : Int32} (hj : j < 96) (hlz : (if s 124 (101 + j) + s 123 41 ≤ 9 then s 124 (101 + j) + s 123 41 else 9) = lz) : F_R_asks (nI j) w st s = some (0, rp s 143 (FM s j lz w st)) := by
  have d0 : ∀ (F : Nat → Int32) (v : Int32), sd (rp s 143 F) 143 0 v = some (rp s 143 (up F 0 v)) := fun F v => (sd_in (k := 0) rfl (by decide) (by decide)).trans (congrArg some (mwrp s 143 F 0 v))
  have d1 : ∀ (F : Nat → Int32) (v : Int32), sd (rp s 143 F) 143 1 v = some (rp s 143 (up F 1 v)) := fun F v => (sd_in (k := 1) rfl (by decide) (by decide)).trans (congrArg some (mwrp s 143 F 1 v))
  have d2 : ∀ (F : Nat → Int32) (v : Int32), sd (rp s 143 F) 143 2 v = some (rp s 143 (up F 2 v)) := fun F v => (sd_in (k := 2) rfl (by decide) (by decide)).trans (congrArg some (mwrp s 143 F 2 v))
  have d3 : ∀ (F : Nat → Int32) (v : Int32), sd (rp s 143 F) 143 3 v = some (rp s 143 (up F 3 v)) := fun F v => (sd_in (k := 3) rfl (by decide) (by decide)).trans (congrArg some (mwrp s 143 F 3 v))
  have d4 : ∀ (F : Nat → Int32) (v : Int32), sd (rp s 143 F) 143 4 v = some (rp s 143 (up F 4 v)) := fun F v => (sd_in (k := 4) rfl (by decide) (by decide)).trans (congrArg some (mwrp s 143 F 4 v))
  have d5 : ∀ (F : Nat → Int32) (v : Int32), sd (rp s 143 F) 143 5 v = some (rp s 143 (up F 5 v)) := fun F v => (sd_in (k := 5) rfl (by decide) (by decide)).trans (congrArg some (mwrp s 143 F 5 v))
  have d6 : ∀ (F : Nat → Int32) (v : Int32), sd (rp s 143 F) 143 6 v = some (rp s 143 (up F 6 v)) := fun F v => (sd_in (k := 6) rfl (by decide) (by decide)).trans (congrArg some (mwrp s 143 F 6 v))
  have d7 : ∀ (F : Nat → Int32) (v : Int32), sd (rp s 143 F) 143 7 v = some (rp s 143 (up F 7 v)) := fun F v => (sd_in (k := 7) rfl (by decide) (by decide)).trans (congrArg some (mwrp s 143 F 7 v))
  have d8 : ∀ (F : Nat → Int32) (v : Int32), sd (rp s 143 F) 143 8 v = some (rp s 143 (up F 8 v)) := fun F v => (sd_in (k := 8) rfl (by decide) (by decide)).trans (congrArg some (mwrp s 143 F 8 v))
  have d9 : ∀ (F : Nat → Int32) (v : Int32), sd (rp s 143 F) 143 9 v = some (rp s 143 (up F 9 v)) := fun F v => (sd_in (k := 9) rfl (by decide) (by decide)).trans (congrArg some (mwrp s 143 F 9 v))
  have d10 : ∀ (F : Nat → Int32) (v : Int32), sd (rp s 143 F) 143 10 v = some (rp s 143 (up F 10 v)) := fun F v => (sd_in (k := 10) rfl (by decide) (by decide)).trans (congrArg some (mwrp s 143 F 10 v))
  have g5 : ∀ F : Nat → Int32, ld (rp s 143 F) 124 (5 + nI j) = some (s 124 (5 + j)) := fun F => by
    rw [show (5 : Int32) + nI j = nI (5 + j) from nI_add 5 j]
    exact ld_in rfl (show 5 + j < 773 by omega) (by decide)
  have g101 : ∀ F : Nat → Int32, ld (rp s 143 F) 124 (101 + nI j) = some (s 124 (101 + j)) := fun F => by
    rw [show (101 : Int32) + nI j = nI (101 + j) from nI_add 101 j]
    exact ld_in rfl (show 101 + j < 773 by omega) (by decide)
  have g197 : ∀ F : Nat → Int32, ld (rp s 143 F) 124 (197 + nI j) = some (s 124 (197 + j)) := fun F => by
    rw [show (197 : Int32) + nI j = nI (197 + j) from nI_add 197 j]
    exact ld_in rfl (show 197 + j < 773 by omega) (by decide)
  have g389 : ∀ F : Nat → Int32, ld (rp s 143 F) 124 (389 + nI j) = some (s 124 (389 + j)) := fun F => by
    rw [show (389 : Int32) + nI j = nI (389 + j) from nI_add 389 j]
    exact ld_in rfl (show 389 + j < 773 by omega) (by decide)
  have g485 : ∀ F : Nat → Int32, ld (rp s 143 F) 124 (485 + nI j) = some (s 124 (485 + j)) := fun F => by
    rw [show (485 : Int32) + nI j = nI (485 + j) from nI_add 485 j]
    exact ld_in rfl (show 485 + j < 773 by omega) (by decide)
  have g581 : ∀ F : Nat → Int32, ld (rp s 143 F) 124 (581 + nI j) = some (s 124 (581 + j)) := fun F => by
    rw [show (581 : Int32) + nI j = nI (581 + j) from nI_add 581 j]
    exact ld_in rfl (show 581 + j < 773 by omega) (by decide)
  have g128 : ∀ F : Nat → Int32, ld (rp s 143 F) 128 (nI j) = some (s 128 j) := fun F => ld_in rfl (show j < 96 from hj) (by decide)
  have gn : ∀ F : Nat → Int32, ld (rp s 143 F) 124 0 = some (s 124 0) := fun F => ld_in (k := 0) rfl (by decide) (by decide)
  have gl : ∀ F : Nat → Int32, (rp s 143 F) 123 41 = s 123 41 := fun F => rfl
  have gi : irm (nI j) 16 = nI (j % 16) := n_irmL (by omega) (by decide) (by decide) rfl
  have e0 : F_R_asks (nI j) w st s = F_R_asks (nI j) w st (rp s 143 (s 143)) := by rw [rp_id]
  rw [e0]
  simp only [F_R_asks, d0, d1, d2, d3, d4, d5, d6, d7, d8, d9, d10, g5, g101, g197, g389, g485, g581, g128, gn, gl, gi, R_lesser, hlz, Option.bind_some]
  rfl
/-- a house of the class and the reference's rows, at a step -/
def menA (a b : Mem) (h0 c f i : Nat) : Prop := (∀ t, t < 7 → b 124 (5 + 96 * t + (16 * f + i)) = a c (96 * (t + 1) + 16 * f + i)) ∧ b 128 (16 * f + i) = a c (16 * f + i) ∧ b 124 0 = a h0 5
theorem FCM {a b : Mem} {h0 c f i : Nat} {lz w st : Int32} (hi : i < 16) (hm : menA a b h0 c f i) (hlz : lz = a c (96 * 2 + 16 * f + i)) : ∀ k, k < 11 → FC a h0 c f i w st k = FM b (16 * f + i) lz w st k := by
  obtain ⟨m1, m2, m3⟩ := hm
  have e : ∀ t off, t < 7 → off = 5 + 96 * t → a c (96 * (t + 1) + 16 * f + i) = b 124 (off + (16 * f + i)) := fun t off ht ho => by rw [ho]; exact (m1 t ht).symm
  intro k hk
  rcases (show k = 0 ∨ k = 1 ∨ k = 2 ∨ k = 3 ∨ k = 4 ∨ k = 5 ∨ k = 6 ∨ k = 7 ∨ k = 8 ∨ k = 9 ∨ k = 10 by omega) with rfl | rfl | rfl | rfl | rfl | rfl | rfl | rfl | rfl | rfl | rfl
  · rfl
  · exact e 0 5 (by decide) rfl
  · exact hlz.symm
  · exact e 2 197 (by decide) rfl
  · exact e 4 389 (by decide) rfl
  · show a c (96 * 0 + 16 * f + i) = b 128 (16 * f + i)
    rw [m2, Nat.mul_zero, Nat.zero_add]
  · show nI i = nI ((16 * f + i) % 16)
    rw [show (16 * f + i) % 16 = i by omega]
  · exact e 5 485 (by decide) rfl
  · exact e 6 581 (by decide) rfl
  · rfl
  · exact m3.symm
theorem hold_b (v : Int32) (w : Int32) (hw : w = 0 ∨ w = 1 ∨ w = 2) : ∃ r, r ≤ 1000 ∧ hold v (mostW w) = nI r ∧ (w = 1 → r ≤ 99) ∧ (w = 2 → r ≤ 9) := by
  have key : ∀ m : Nat, m ≤ 1000 → ∃ r, r ≤ m ∧ hold v (nI m) = nI r := by
    intro m hm
    unfold hold
    by_cases c1 : v < 0
    · rw [if_pos c1]; exact ⟨0, Nat.zero_le _, rfl⟩
    · rw [if_neg c1]
      by_cases c2 : nI m < v
      · rw [if_pos c2]; exact ⟨m, Nat.le_refl _, rfl⟩
      · rw [if_neg c2]
        obtain ⟨j, hj, rfl⟩ := nI_of c1
        rw [nI_ltI (by omega) hj] at c2
        exact ⟨j, by omega, rfl⟩
  rcases hw with rfl | rfl | rfl
  · obtain ⟨r, h1, h2⟩ := key 1000 (by decide)
    exact ⟨r, h1, h2, fun q => absurd q (by decide), fun q => absurd q (by decide)⟩
  · obtain ⟨r, h1, h2⟩ := key 99 (by decide)
    exact ⟨r, by omega, h2, fun _ => h1, fun q => absurd q (by decide)⟩
  · obtain ⟨r, h1, h2⟩ := key 9 (by decide)
    exact ⟨r, by omega, h2, fun q => absurd q (by decide), fun _ => h1⟩
/-- a step is asked, by both -/
theorem ask_pair {a b : Mem} {h0 c f i : Nat} {word w st : Int32} (hw : word = 0 ∨ word = 1 ∨ word = 2) (h1 : kd h0 = 4) (h2 : rf h0 0 = c) (h3 : kd c = 1) (h4 : ln c = 864) (hc : c ≠ 13) (hh : h0 ≠ 13) (hf : f < 6) (hi : i < 16) (hL : LwR a b) (hm : menA a b h0 c f i) (hlo : (if b 124 (101 + (16 * f + i)) + b 123 41 ≤ 9 then b 124 (101 + (16 * f + i)) + b 123 41 else 9) = a c (96 * 2 + 16 * f + i)) : ∃ (r : Nat) (ga gb : Nat → Int32), r ≤ 1000 ∧ (word = 1 → r ≤ 99) ∧ (word = 2 → r ≤ 9) ∧ F_L_ask word h0 (nI f) (nI i) w st a = some (nI r, rp (rp a 13 (FC a h0 c f i w st)) 14 ga) ∧ (F_R_asks (nI (16 * f + i)) w st b).bind (fun z => F_R_lawTells word (unW word (z.2 143)) (mostW word) z.2) = some (nI r, rp (rp b 143 (FM b (16 * f + i) (a c (96 * 2 + 16 * f + i)) w st)) 144 gb) := by
  obtain ⟨n, hn, e1, e2, e3⟩ := hL
  have hfa : ∀ k, k < 11 → FC a h0 c f i w st k = FM b (16 * f + i) (a c (96 * 2 + 16 * f + i)) w st k := FCM hi hm rfl
  obtain ⟨x, hx⟩ := fst_ex (rp a 13 (FC a h0 c f i w st)) (FC a h0 c f i w st) word n n 0 (Nat.zero_add n)
  obtain ⟨r, r1, r2, r3, r4⟩ := hold_b (askV (rp a 13 (FC a h0 c f i w st)) (FC a h0 c f i w st) word x) word hw
  obtain ⟨ga, hga⟩ := askC (s := rp a 13 (FC a h0 c f i w st)) (b := rp b 143 (FM b (16 * f + i) (a c (96 * 2 + 16 * f + i)) w st)) hw hn e1 e3 n 0 gF ((rp a 13 (FC a h0 c f i w st)) 14) x (Nat.zero_add n) (by rw [gF_eq]; omega) hx
  obtain ⟨gb, hgb⟩ := askM (a := rp a 13 (FC a h0 c f i w st)) (t := rp b 143 (FM b (16 * f + i) (a c (96 * 2 + 16 * f + i)) w st)) (fa := FC a h0 c f i w st) hn e2 e3 hfa hx (mostW word)
  refine ⟨r, ga, gb, r1, r3, r4, ?_, ?_⟩
  · unfold F_L_ask
    rw [L_learn h1 h2 h3 h4 hc hh hf hi]
    rw [rp_id] at hga
    rw [← r2]
    exact hga
  · rw [R_asks (show 16 * f + i < 96 by omega) hlo]
    have hu : unW word (FM b (16 * f + i) (a c (96 * 2 + 16 * f + i)) w st) = unW word (FC a h0 c f i w st) := by
      unfold unW
      rw [hfa 0 (by decide), hfa 1 (by decide), hfa 2 (by decide), hfa 4 (by decide)]
    show F_R_lawTells word (unW word (FM b (16 * f + i) (a c (96 * 2 + 16 * f + i)) w st)) (mostW word) _ = _
    rw [hu, ← r2]
    exact hgb
theorem R_creaksOf (j w st : Int32) (b : Mem) : F_R_creaksOf j w st b = ((F_R_asks j w st b).bind (fun z => F_R_lawTells 0 (unW 0 (z.2 143)) (mostW 0) z.2)).bind fun z => some (z.1, z.2) := by
  have l0 : ∀ s : Mem, ld s 143 0 = some (s 143 0) := fun s => ld_in (k := 0) rfl (by decide) (by decide)
  have l1 : ∀ s : Mem, ld s 143 1 = some (s 143 1) := fun s => ld_in (k := 1) rfl (by decide) (by decide)
  have l2 : ∀ s : Mem, ld s 143 2 = some (s 143 2) := fun s => ld_in (k := 2) rfl (by decide) (by decide)
  have l4 : ∀ s : Mem, ld s 143 4 = some (s 143 4) := fun s => ld_in (k := 4) rfl (by decide) (by decide)
  simp only [F_R_creaksOf, l0, l1, l2, l4, Option.bind_some]
  cases F_R_asks j w st b with
  | none => rfl
  | some z => rfl
theorem R_wearsOf (j w st : Int32) (b : Mem) : F_R_wearsOf j w st b = ((F_R_asks j w st b).bind (fun z => F_R_lawTells 1 (unW 1 (z.2 143)) (mostW 1) z.2)).bind fun z => some (z.1, z.2) := by
  unfold F_R_wearsOf
  cases F_R_asks j w st b with
  | none => rfl
  | some z => rfl
theorem R_risesOf (j : Int32) (b : Mem) : F_R_risesOf j b = ((F_R_asks j 0 0 b).bind (fun z => F_R_lawTells 2 (unW 2 (z.2 143)) (mostW 2) z.2)).bind fun z => some (z.1, z.2) := by
  unfold F_R_risesOf
  cases F_R_asks j 0 0 b with
  | none => rfl
  | some z => rfl
