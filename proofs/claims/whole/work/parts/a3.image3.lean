/-! ===== image: what the pairs rest on ===== -/
def lenA (c : Nat) : Nat := nth 0 [0, 0, 7, 864, 6, 2, 600, 7, 400, 16, 16, 16, 16, 0, 0, 2, 80, 2, 80, 2, 80, 8, 2, 8, 2, 8, 2, 7, 2, 12, 2, 7, 2, 8, 2, 10, 9] c
def loA (c : Nat) : Nat := nth 0 [0, 0, 2, 0, 0, 1, 0, 6, 0, 0, 0, 0, 0, 0, 0, 1, 0, 1, 0, 1, 0, 7, 1, 0, 1, 0, 1, 0, 1, 0, 1, 0, 1, 0, 1, 0, 0] c
def DA (x y : Mem) : Prop := ∀ c k, loA c ≤ k → k < lenA c → x c k = y c k
def DM (x y : Mem) : Prop := ∀ j, j < 2580 → x (sq j).1 (sq j).2 = y (sq j).1 (sq j).2
theorem dm {x y : Mem} (h : DM x y) {c k : Nat} (j : Nat) (hj : j < 2580) (e : sq j = (c, k)) : x c k = y c k := by
  have := h j hj
  rw [e] at this
  exact this
theorem exC_cc {cc cc' fa : Nat → Int32} : ∀ (n i : Nat) (st : List Int32), (∀ j, i ≤ j → j < i + n → cc j = cc' j) → exC cc fa n i st = exC cc' fa n i st
  | 0, _, _, _ => rfl
  | n + 1, i, st, h => by
    show (stC cc fa i st).bind _ = (stC cc' fa i st).bind _
    have e : stC cc fa i st = stC cc' fa i st := by
      unfold stC
      rw [h i (Nat.le_refl i) (by omega)]
    rw [e]
    congr 1
    funext t
    exact exC_cc n (i + 1) t (fun j h1 h2 => h j (by omega) (by omega))
theorem codeEq_cc {cc cc' op ar : Nat → Int32} {p q p' q' : Nat} (hq : q ≤ 400) (hpq : p ≤ q) (h : ∀ j, j < 400 → cc j = cc' j) (hc : codeEq cc op ar p q p' q') : codeEq cc' op ar p q p' q' := by
  intro fa
  obtain ⟨v, v1, v2⟩ := hc fa
  exact ⟨v, (exC_cc (q - p) p [] (fun j _ h2 => h j (by omega))).symm.trans v1, v2⟩
theorem RowR_c {a a' b b' : Mem} {o c len ms mc : Nat} {P : Int32 → Prop} (h1 : a' o 1 = a o 1) (h2 : b' 123 ms = b 123 ms) (h3 : ∀ k, k < len → a' c k = a c k) (h4 : ∀ k, k < len → b' mc k = b mc k) (h : RowR a b o c len ms mc P) : RowR a' b' o c len ms mc P := by
  obtain ⟨n, n1, n2, n3, n4, n5⟩ := h
  refine ⟨n, n1, h1.trans n2, h2.trans n3, fun k hk => by rw [h3 k hk, h4 k hk]; exact n4 k hk, fun k hk => by rw [h3 k (by omega)]; exact n5 k hk⟩
theorem RR_im {a a' b b' : Mem} (ha : DA a' a) (hb : DM b' b) (h : RR a b) : RR a' b' := by
  obtain ⟨hHS, hHM, hBR, hLw, hOr, hVi, hDo, hTR⟩ := h
  have e22 : a' 2 2 = a 2 2 := ha 2 2 (Nat.le_refl _) (show 2 < 7 by decide)
  have enF : nF a' = nF a := by unfold nF; rw [e22]
  have n6 : nF a ≤ 6 := hHS.1
  have a4 : ∀ f, f < 6 → a' 4 f = a 4 f := fun f hf => ha 4 f (Nat.zero_le f) hf
  have esz : ∀ f, f < 6 → sz a' f = sz a f := fun f hf => by unfold sz; rw [a4 f hf]
  have a3 : ∀ k, k < 864 → a' 3 k = a 3 k := fun k hk => ha 3 k (Nat.zero_le k) hk
  have b127 : ∀ k, k < 6 → b' 127 k = b 127 k := fun k hk => dm hb (784 + k) (by omega) (kq_keepsTold_2 k hk)
  have b128 : ∀ k, k < 96 → b' 128 k = b 128 k := fun k hk => dm hb (790 + k) (by omega) (kq_keepsTold_19 k hk)
  have b124 : ∀ k, k < 773 → b' 124 k = b 124 k := fun k hk => dm hb (0 + k) (by omega) (kq_image_21 k hk)
  have b129 : ∀ k, k < 600 → b' 129 k = b 129 k := fun k hk => dm hb (1115 + k) (by omega) (kq_image_42 k hk)
  have bf : ∀ j, j < 11 → b' 123 (sqM j) = b 123 (sqM j) := fun j hj => dm hb (773 + j) (by omega) (by
    unfold sq
    rw [if_neg (by omega), if_pos (by omega), show 773 + j - 773 = j by omega])
  have hs1 : ∀ f i, isS a' f i → isS a f i := fun f i q => by
    obtain ⟨q1, q2⟩ := q
    rw [enF] at q1
    rw [esz f (by omega)] at q2
    exact ⟨q1, q2⟩
  have hs2 : ∀ f i, isS a f i → isS a' f i := fun f i q => by
    obtain ⟨q1, q2⟩ := q
    refine ⟨by rw [enF]; exact q1, by rw [esz f (by omega)]; exact q2⟩
  refine ⟨?_, ?_, ?_, ?_, ?_, ?_, ?_, ?_⟩
  · obtain ⟨s1, s2, s3, s4, s5⟩ := hHS
    refine ⟨by rw [enF]; exact s1, by rw [enF, e22]; exact s2, by rw [enF]; exact (bf 0 (by decide)).trans s3, fun f hf => ?_, fun f i hfi => ?_⟩
    · rw [enF] at hf
      rw [esz f (by omega), a4 f (by omega), b127 f (by omega)]
      exact s4 f hf
    · have q := hs1 f i hfi
      obtain ⟨z1, z16, -⟩ := s4 f q.1
      have hq2 : i < sz a f := q.2
      have hq1 : f < nF a := q.1
      rw [a3 _ (by omega), b128 _ (by omega)]
      exact s5 f i q
  · obtain ⟨m1, m2, m3, m4, m5, m6, m7⟩ := hHM
    refine ⟨fun k hk => by rw [b124 _ (by omega), a3 _ (by omega)]; exact m1 k hk, fun t j ht hj hn => ?_, fun j hj => ?_, ?_, ?_, ?_, ?_⟩
    · rw [a3 _ (by omega)]
      exact m2 t j ht hj (fun q => hn (hs2 _ _ q))
    · rw [a3 _ (by omega), a3 _ (by omega)]
      exact m3 j hj
    · rw [b124 4 (by decide), ha 2 3 (show 2 ≤ 3 by decide) (show 3 < 7 by decide)]; exact m4
    · rw [b124 3 (by decide), ha 2 4 (show 2 ≤ 4 by decide) (show 4 < 7 by decide)]; exact m5
    · rw [b124 0 (by decide), ha 2 5 (show 2 ≤ 5 by decide) (show 5 < 7 by decide)]; exact m6
    · rw [b124 1 (by decide), ha 2 6 (show 2 ≤ 6 by decide) (show 6 < 7 by decide)]; exact m7
  · obtain ⟨⟨n, n1, n2, n3⟩, n4⟩ := hBR
    refine ⟨⟨n, n1, (ha 5 1 (Nat.le_refl _) (show 1 < 2 by decide)).trans n2, (b124 2 (by decide)).trans n3⟩, fun k hk => ?_⟩
    rw [b129 k hk, ha 6 k (Nat.zero_le k) hk]
    exact n4 k hk
  · obtain ⟨n, n1, n2, n3, n4⟩ := hLw
    refine ⟨n, n1, (ha 7 6 (Nat.le_refl _) (show 6 < 7 by decide)).trans n2, (dm hb 1715 (by decide) (by decide +kernel)).trans n3, fun l hl => ?_⟩
    obtain ⟨h9, h9v, p, q1, r, p', q', r', x1, x2, x3, x4, x5, x6, y1, y2, y3, y4, y5, y6, c1, c2, c3⟩ := n4 l hl
    have l16 : l < 16 := by omega
    obtain ⟨k1, k2, k3, k4⟩ := kq_keepsLaw_12 l l16
    have b133 : b' 133 l = b 133 l := dm hb (1716 + 4 * l) (by omega) k1
    have b134 : b' 134 l = b 134 l := dm hb (1716 + 4 * l + 1) (by omega) k2
    have b135 : b' 135 l = b 135 l := dm hb (1716 + 4 * l + 2) (by omega) k3
    have b136 : b' 136 l = b 136 l := dm hb (1716 + 4 * l + 3) (by omega) k4
    have bc : ∀ j, j < 400 → b 137 j = b' 137 j ∧ b 138 j = b' 138 j := fun j hj => by
      obtain ⟨k1, k2⟩ := kq_keepsLaw_59 j hj
      exact ⟨(dm hb (1780 + 2 * j) (by omega) k1).symm, (dm hb (1780 + 2 * j + 1) (by omega) k2).symm⟩
    have ac : ∀ j, j < 400 → a 8 j = a' 8 j := fun j hj => (ha 8 j (Nat.zero_le j) hj).symm
    have a9 : a' 9 l = a 9 l := ha 9 l (Nat.zero_le l) l16
    have a10 : a' 10 l = a 10 l := ha 10 l (Nat.zero_le l) l16
    have a11 : a' 11 l = a 11 l := ha 11 l (Nat.zero_le l) l16
    have a12 : a' 12 l = a 12 l := ha 12 l (Nat.zero_le l) l16
    unfold lineR
    rw [b133, b134, b135, b136, a9, a10, a11, a12]
    exact ⟨h9, h9v, p, q1, r, p', q', r', x1, x2, x3, x4, x5, x6, y1, y2, y3, y4, y5, y6, codeEq_cc (by omega) x4 ac (codeEq_c (by omega) y4 bc c1), c2, fun hh => codeEq_cc (by omega) x5 ac (codeEq_c (by omega) y5 bc (c3 hh))⟩
  · obtain ⟨n, n1, n2, n3, n4⟩ := hOr
    refine ⟨n, n1, (ha 15 1 (Nat.le_refl _) (show 1 < 2 by decide)).trans n2, (bf 1 (by decide)).trans n3, fun l hl => ?_⟩
    have a16 : ∀ k, k < 80 → a' 16 k = a 16 k := fun k hk => ha 16 k (Nat.zero_le k) hk
    have b140 : ∀ k, k < 48 → b' 140 k = b 140 k := fun k hk => dm hb (886 + k) (by omega) (kq_keepsTold_36 k hk)
    obtain ⟨e, w, f, i, w1, q, q1, q2, q3, q4, q5⟩ := n4 l hl
    refine ⟨by rw [b140 _ (by omega), a16 _ (by omega)]; exact e, w, f, i, w1, hs2 f i q, ?_⟩
    rw [b140 _ (by omega), b140 _ (by omega), a16 _ (by omega), a16 _ (by omega), a16 _ (by omega)]
    exact ⟨q1, q2, q3, q4, q5⟩
  · obtain ⟨n, n1, n2, n3, n4⟩ := hVi
    refine ⟨n, n1, (ha 17 1 (Nat.le_refl _) (show 1 < 2 by decide)).trans n2, (bf 2 (by decide)).trans n3, fun l hl => ?_⟩
    have a18 : ∀ k, k < 80 → a' 18 k = a 18 k := fun k hk => ha 18 k (Nat.zero_le k) hk
    have b141 : ∀ k, k < 80 → b' 141 k = b 141 k := fun k hk => dm hb (934 + k) (by omega) (kq_keepsTold_53 k hk)
    obtain ⟨e, f, u, w, st, w1, q⟩ := n4 l hl
    refine ⟨by rw [b141 _ (by omega), a18 _ (by omega)]; exact e, f, u, w, st, by rw [enF]; exact w1, ?_⟩
    rw [b141 (5 * l + 1) (by omega), b141 (5 * l + 2) (by omega), b141 (5 * l + 3) (by omega), b141 (5 * l + 4) (by omega), a18 (5 * l + 1) (by omega), a18 (5 * l + 2) (by omega), a18 (5 * l + 3) (by omega), a18 (5 * l + 4) (by omega)]
    exact q
  · obtain ⟨n, n1, n2, n3, n4⟩ := hDo
    refine ⟨n, n1, (ha 19 1 (Nat.le_refl _) (show 1 < 2 by decide)).trans n2, (bf 3 (by decide)).trans n3, fun l hl => ?_⟩
    have a20 : ∀ k, k < 80 → a' 20 k = a 20 k := fun k hk => ha 20 k (Nat.zero_le k) hk
    have b142 : ∀ k, k < 32 → b' 142 k = b 142 k := fun k hk => dm hb (1014 + k) (by omega) (kq_keepsTold_70 k hk)
    obtain ⟨f, i, g, j, q1, q2, q⟩ := n4 l hl
    refine ⟨f, i, g, j, hs2 f i q1, hs2 g j q2, ?_⟩
    rw [b142 (2 * l) (by omega), b142 (2 * l + 1) (by omega), a20 (5 * l) (by omega), a20 (5 * l + 1) (by omega), a20 (5 * l + 2) (by omega), a20 (5 * l + 3) (by omega)]
    exact q
  · obtain ⟨t0, t1, t2, t3, t4, t5, t6, ⟨t7, t8⟩, t9⟩ := hTR
    have o1 : ∀ c, loA c = 1 → 1 < lenA c → a' c 1 = a c 1 := fun c h1 h2 => ha c 1 (by omega) h2
    have b146 : ∀ k, k < 8 → b' 146 k = b 146 k := fun k hk => dm hb (1046 + 3 * k) (by omega) (kq_keepsTold_87 k hk).1
    have b147 : ∀ k, k < 8 → b' 147 k = b 147 k := fun k hk => dm hb (1046 + 3 * k + 1) (by omega) (kq_keepsTold_87 k hk).2.1
    have b157 : ∀ k, k < 8 → b' 157 k = b 157 k := fun k hk => dm hb (1046 + 3 * k + 2) (by omega) (kq_keepsTold_87 k hk).2.2
    have b148 : ∀ k, k < 7 → b' 148 k = b 148 k := fun k hk => dm hb (1070 + 2 * k) (by omega) (kq_keepsTold_124 k hk).1
    have b154 : ∀ k, k < 7 → b' 154 k = b 154 k := fun k hk => dm hb (1070 + 2 * k + 1) (by omega) (kq_keepsTold_124 k hk).2
    have b153 : ∀ k, k < 12 → b' 153 k = b 153 k := fun k hk => dm hb (1084 + k) (by omega) (kq_keepsTold_151 k hk)
    have b159 : ∀ k, k < 10 → b' 159 k = b 159 k := fun k hk => dm hb (1096 + k) (by omega) (kq_keepsTold_168 k hk)
    have b162 : ∀ k, k < 9 → b' 162 k = b 162 k := fun k hk => dm hb (1106 + k) (by omega) (kq_keepsTold_185 k hk)
    have a21 : a' 21 7 = a 21 7 := ha 21 7 (Nat.le_refl _) (show 7 < 8 by decide)
    refine ⟨RowR_c (o1 22 rfl (by decide)) (bf 4 (by decide)) (fun k hk => ha 23 k (Nat.zero_le k) hk) b146 t0, RowR_c (o1 24 rfl (by decide)) (bf 4 (by decide)) (fun k hk => ha 25 k (Nat.zero_le k) hk) b147 t1, RowR_c (o1 26 rfl (by decide)) (bf 5 (by decide)) (fun k hk => ha 27 k (Nat.zero_le k) hk) b148 t2, RowR_c (o1 28 rfl (by decide)) (bf 7 (by decide)) (fun k hk => ha 29 k (Nat.zero_le k) hk) b153 t3, RowR_c (o1 30 rfl (by decide)) (bf 8 (by decide)) (fun k hk => ha 31 k (Nat.zero_le k) hk) b154 t4, RowR_c (o1 32 rfl (by decide)) (bf 9 (by decide)) (fun k hk => ha 33 k (Nat.zero_le k) hk) b157 t5, RowR_c (o1 34 rfl (by decide)) (bf 10 (by decide)) (fun k hk => ha 35 k (Nat.zero_le k) hk) b159 t6, ⟨by rw [a21]; exact t7, by rw [a21]; exact (bf 6 (by decide)).trans t8⟩, fun k hk => ?_⟩
    rw [b162 k hk, ha 36 k (Nat.zero_le k) hk]
    exact t9 k hk
