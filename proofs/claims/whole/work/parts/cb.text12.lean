/-! ===== text: pieces of the law's code ===== -/
def wdA (act v : Nat) : Int32 := shl (nI v) 4 ||| nI act
theorem wdA_n {act : Nat} (v : Nat) (h : act < 16) : wdA act v = nI (16 * v + act) := by
  unfold wdA
  rw [show shl (nI v) 4 = nI (v * 2 ^ 4) from n_shl (k := 4) (by decide), Nat.mul_comm, fa_or_sum v (k := 4) h]
theorem wdA_a {act : Nat} (v : Nat) (h : act < 16) : wdA act v &&& 15 = nI act := by
  rw [wdA_n v h]
  have := fa_mask (16 * v + act) 4
  rw [show nI (2 ^ 4 - 1) = 15 from rfl] at this
  rw [this]
  congr 1
  omega
theorem wdA_o {act v : Nat} (h : act < 16) (hv : v < 2 ^ 20) : shr (wdA act v) 4 = nI v := by
  rw [wdA_n v h, show shr (nI (16 * v + act)) 4 = nI ((16 * v + act) / 2 ^ 4) from n_shr (k := 4) (by omega) (by decide)]
  congr 1
  omega
def exL (fa : Nat → Int32) : List Int32 → List Int32 → Option (List Int32)
  | [], st => some st
  | w :: l, st => (stC (fun _ => w) fa 0 st).bind fun u => exL fa l u
def exR (fa : Nat → Int32) : List (Int32 × Int32) → List Int32 → Option (List Int32)
  | [], st => some st
  | w :: l, st => (stM (fun _ => w.1) (fun _ => w.2) fa 0 st).bind fun u => exR fa l u
theorem exL_a {fa : Nat → Int32} : ∀ (l m st : List Int32), exL fa (l ++ m) st = (exL fa l st).bind fun u => exL fa m u
  | [], m, st => rfl
  | w :: l, m, st => by
    simp only [List.cons_append, exL]
    cases stC (fun _ => w) fa 0 st with
    | none => rfl
    | some u => exact exL_a l m u
theorem exR_a {fa : Nat → Int32} : ∀ (l m : List (Int32 × Int32)) (st : List Int32), exR fa (l ++ m) st = (exR fa l st).bind fun u => exR fa m u
  | [], m, st => rfl
  | w :: l, m, st => by
    simp only [List.cons_append, exR]
    cases stM (fun _ => w.1) (fun _ => w.2) fa 0 st with
    | none => rfl
    | some u => exact exR_a l m u
theorem exC_L {cc fa : Nat → Int32} : ∀ (l : List Int32) (p : Nat) (st : List Int32), (∀ i, i < l.length → cc (p + i) = l.getD i 0) → exC cc fa l.length p st = exL fa l st
  | [], p, st, _ => rfl
  | w :: l, p, st, h => by
    have h0 : cc p = w := h 0 (Nat.succ_pos _)
    have e : stC cc fa p st = stC (fun _ => w) fa 0 st := by
      unfold stC
      rw [h0]
    simp only [List.length_cons, exC, exL, e]
    congr 1
    funext u
    refine exC_L l (p + 1) u (fun i hi => ?_)
    have := h (i + 1) (Nat.succ_lt_succ hi)
    rw [show p + 1 + i = p + (i + 1) by omega, this]
    rfl
theorem exM_R {op ar fa : Nat → Int32} : ∀ (l : List (Int32 × Int32)) (p : Nat) (st : List Int32), (∀ i, i < l.length → op (p + i) = (l.getD i (0, 0)).1 ∧ ar (p + i) = (l.getD i (0, 0)).2) → exM op ar fa l.length p st = exR fa l st
  | [], p, st, _ => rfl
  | w :: l, p, st, h => by
    have h0 : op p = w.1 := (h 0 (Nat.succ_pos _)).1
    have h1 : ar p = w.2 := (h 0 (Nat.succ_pos _)).2
    have e : stM op ar fa p st = stM (fun _ => w.1) (fun _ => w.2) fa 0 st := by
      unfold stM
      rw [h0, h1]
    simp only [List.length_cons, exM, exR, e]
    congr 1
    funext u
    refine exM_R l (p + 1) u (fun i hi => ?_)
    have := h (i + 1) (Nat.succ_lt_succ hi)
    rw [show p + 1 + i = p + (i + 1) by omega, this.1, this.2]
    exact ⟨rfl, rfl⟩
/-- the class's piece and the reference's make the same value of all facts, in a stack of at most 32 -/
def eqP (P : Int32 → Prop) (n : Nat) (c : List Int32) (r : List (Int32 × Int32)) : Prop := ∀ fa : Nat → Int32, ∃ v, P v ∧ ∀ st : List Int32, st.length + n ≤ 32 → exL fa c st = some (v :: st) ∧ exR fa r st = some (v :: st)
def anyV (_ : Int32) : Prop := True
def bitV (v : Int32) : Prop := v = 0 ∨ v = 1
theorem eqP_m {P : Int32 → Prop} {n m : Nat} {c : List Int32} {r : List (Int32 × Int32)} (h : eqP P n c r) (k : n ≤ m) : eqP P m c r := fun fa => by
  obtain ⟨v, h1, h2⟩ := h fa
  exact ⟨v, h1, fun st hs => h2 st (by omega)⟩
theorem eqP_b {P1 P2 P : Int32 → Prop} {n1 n2 n : Nat} {c1 c2 : List Int32} {r1 r2 : List (Int32 × Int32)} {w o x : Int32} {G : Int32 → Int32 → Int32} (h1 : eqP P1 n1 c1 r1) (h2 : eqP P2 n2 c2 r2) (k1 : n1 ≤ n) (k2 : n2 + 1 ≤ n) (hC : ∀ fa x y st, P1 x → P2 y → stC (fun _ => w) fa 0 (y :: x :: st) = some (G x y :: st)) (hM : ∀ fa u y st, P1 u → P2 y → stM (fun _ => o) (fun _ => x) fa 0 (y :: u :: st) = some (G u y :: st)) (hP : ∀ x y, P1 x → P2 y → P (G x y)) : eqP P n (c1 ++ c2 ++ [w]) (r1 ++ r2 ++ [(o, x)]) := fun fa => by
  obtain ⟨u, u1, u2⟩ := h1 fa
  obtain ⟨y, y1, y2⟩ := h2 fa
  refine ⟨G u y, hP u y u1 y1, fun st hs => ?_⟩
  have a1 := u2 st (by omega)
  have a2 := y2 (u :: st) (by simp only [List.length_cons]; omega)
  constructor
  · rw [exL_a, exL_a, a1.1, Option.bind_some, a2.1, Option.bind_some]
    simp only [exL, hC fa u y st u1 y1, Option.bind_some]
  · rw [exR_a, exR_a, a1.2, Option.bind_some, a2.2, Option.bind_some]
    simp only [exR, hM fa u y st u1 y1, Option.bind_some]
theorem stC_b {w x y : Int32} {fa : Nat → Int32} {st : List Int32} (h0 : ¬ w &&& 15 = 0) (h1 : ¬ w &&& 15 = 1) (h9 : ¬ w &&& 15 = 9) (h5 : ¬ w &&& 15 = 5) : stC (fun _ => w) fa 0 (y :: x :: st) = some (cmb (w &&& 15) x y :: st) := by simp only [stC, if_neg h0, if_neg h1, if_neg h9, if_neg h5]
theorem stM_b {o a x y v : Int32} {fa : Nat → Int32} {st : List Int32} (h0 : ¬ o = 0) (h1 : ¬ o = 1) (h9 : ¬ o = 9) (ht : twoO o x y = some v) : stM (fun _ => o) (fun _ => a) fa 0 (y :: x :: st) = some (v :: st) := by simp only [stM, if_neg h0, if_neg h1, if_neg h9, ht, Option.map_some]
theorem cm_2 (x y : Int32) : cmb 2 x y = x + y := if_pos rfl
theorem cm_3 (x y : Int32) : cmb 3 x y = x - y := (if_neg (by decide)).trans (if_pos rfl)
theorem cm_4 (x y : Int32) : cmb 4 x y = x * y := (if_neg (by decide)).trans ((if_neg (by decide)).trans (if_pos rfl))
theorem cm_6 (x y : Int32) : cmb 6 x y = if x < y then 1 else 0 := (if_neg (by decide)).trans ((if_neg (by decide)).trans ((if_neg (by decide)).trans (if_pos rfl)))
theorem cm_7 (x y : Int32) : cmb 7 x y = if x = y then 1 else 0 := (if_neg (by decide)).trans ((if_neg (by decide)).trans ((if_neg (by decide)).trans ((if_neg (by decide)).trans (if_pos rfl))))
theorem cm_8 (x y : Int32) : cmb 8 x y = if y < x then 1 else 0 := (if_neg (by decide)).trans ((if_neg (by decide)).trans ((if_neg (by decide)).trans ((if_neg (by decide)).trans ((if_neg (by decide)).trans (if_pos rfl)))))
theorem cm_10 (x y : Int32) : cmb 10 x y = x &&& y := (if_neg (by decide)).trans ((if_neg (by decide)).trans ((if_neg (by decide)).trans ((if_neg (by decide)).trans ((if_neg (by decide)).trans ((if_neg (by decide)).trans (if_pos rfl))))))
theorem cm_11 (x y : Int32) : cmb 11 x y = x ||| y := (if_neg (by decide)).trans ((if_neg (by decide)).trans ((if_neg (by decide)).trans ((if_neg (by decide)).trans ((if_neg (by decide)).trans ((if_neg (by decide)).trans (if_neg (by decide)))))))
theorem to_2 (x y : Int32) : twoO 2 x y = some (x + y) := if_pos rfl
theorem to_3 (x y : Int32) : twoO 3 x y = some (x - y) := (if_neg (by decide)).trans (if_pos rfl)
theorem to_4 (x y : Int32) : twoO 4 x y = some (x * y) := (if_neg (by decide)).trans ((if_neg (by decide)).trans (if_pos rfl))
theorem to_5 {x y : Int32} (h : ¬ y = 0) : twoO 5 x y = some (x / y) := (if_neg (by decide)).trans ((if_neg (by decide)).trans ((if_neg (by decide)).trans ((if_pos rfl).trans (if_neg h))))
theorem to_6 (x y : Int32) : twoO 6 x y = some (if x < y then 1 else 0) := (if_neg (by decide)).trans ((if_neg (by decide)).trans ((if_neg (by decide)).trans ((if_neg (by decide)).trans (if_pos rfl))))
theorem to_7 (x y : Int32) : twoO 7 x y = some (if x = y then 1 else 0) := (if_neg (by decide)).trans ((if_neg (by decide)).trans ((if_neg (by decide)).trans ((if_neg (by decide)).trans ((if_neg (by decide)).trans (if_pos rfl)))))
theorem to_8 (x y : Int32) : twoO 8 x y = some (if y < x then 1 else 0) := (if_neg (by decide)).trans ((if_neg (by decide)).trans ((if_neg (by decide)).trans ((if_neg (by decide)).trans ((if_neg (by decide)).trans ((if_neg (by decide)).trans (if_pos rfl))))))
theorem to_10 (x y : Int32) : twoO 10 x y = some (x * y) := (if_neg (by decide)).trans ((if_neg (by decide)).trans ((if_neg (by decide)).trans ((if_neg (by decide)).trans ((if_neg (by decide)).trans ((if_neg (by decide)).trans ((if_neg (by decide)).trans (if_pos rfl)))))))
theorem to_11 (x y : Int32) : twoO 11 x y = some (if 0 < x + y then 1 else 0) := (if_neg (by decide)).trans ((if_neg (by decide)).trans ((if_neg (by decide)).trans ((if_neg (by decide)).trans ((if_neg (by decide)).trans ((if_neg (by decide)).trans ((if_neg (by decide)).trans (if_neg (by decide))))))))
theorem bt_if {c : Prop} {d : Decidable c} : bitV (if c then 1 else 0) := by
  by_cases h : c
  · rw [if_pos h]; exact Or.inr rfl
  · rw [if_neg h]; exact Or.inl rfl
theorem wd_10 : ∀ k, k < 12 → wdA k 0 &&& 15 = nI k := fun k hk => wdA_a 0 (by omega)
theorem e_plus {c1 c2 : List Int32} {r1 r2 : List (Int32 × Int32)} (h1 : eqP anyV 3 c1 r1) (h2 : eqP anyV 2 c2 r2) : eqP anyV 3 (c1 ++ c2 ++ [wdA 2 0]) (r1 ++ r2 ++ [(2, 0)]) := by
  have hw : wdA 2 0 &&& 15 = 2 := wd_10 2 (by decide)
  refine eqP_b (G := fun x y => x + y) h1 h2 (by decide) (by decide) (fun fa x y st _ _ => ?_) (fun fa x y st _ _ => ?_) (fun _ _ _ _ => trivial)
  · rw [stC_b (by rw [hw]; decide) (by rw [hw]; decide) (by rw [hw]; decide) (by rw [hw]; decide), hw, cm_2]
  · exact stM_b (by decide) (by decide) (by decide) (to_2 x y)
theorem e_minus {c1 c2 : List Int32} {r1 r2 : List (Int32 × Int32)} (h1 : eqP anyV 3 c1 r1) (h2 : eqP anyV 2 c2 r2) : eqP anyV 3 (c1 ++ c2 ++ [wdA 3 0]) (r1 ++ r2 ++ [(3, 0)]) := by
  have hw : wdA 3 0 &&& 15 = 3 := wd_10 3 (by decide)
  refine eqP_b (G := fun x y => x - y) h1 h2 (by decide) (by decide) (fun fa x y st _ _ => ?_) (fun fa x y st _ _ => ?_) (fun _ _ _ _ => trivial)
  · rw [stC_b (by rw [hw]; decide) (by rw [hw]; decide) (by rw [hw]; decide) (by rw [hw]; decide), hw, cm_3]
  · exact stM_b (by decide) (by decide) (by decide) (to_3 x y)
theorem e_times {c1 c2 : List Int32} {r1 r2 : List (Int32 × Int32)} (h1 : eqP anyV 2 c1 r1) (h2 : eqP anyV 1 c2 r2) : eqP anyV 2 (c1 ++ c2 ++ [wdA 4 0]) (r1 ++ r2 ++ [(4, 0)]) := by
  have hw : wdA 4 0 &&& 15 = 4 := wd_10 4 (by decide)
  refine eqP_b (G := fun x y => x * y) h1 h2 (by decide) (by decide) (fun fa x y st _ _ => ?_) (fun fa x y st _ _ => ?_) (fun _ _ _ _ => trivial)
  · rw [stC_b (by rw [hw]; decide) (by rw [hw]; decide) (by rw [hw]; decide) (by rw [hw]; decide), hw, cm_4]
  · exact stM_b (by decide) (by decide) (by decide) (to_4 x y)
theorem e_less {c1 c2 : List Int32} {r1 r2 : List (Int32 × Int32)} (h1 : eqP anyV 3 c1 r1) (h2 : eqP anyV 3 c2 r2) : eqP bitV 4 (c1 ++ c2 ++ [wdA 6 0]) (r1 ++ r2 ++ [(6, 0)]) := by
  have hw : wdA 6 0 &&& 15 = 6 := wd_10 6 (by decide)
  refine eqP_b (G := fun x y => if x < y then 1 else 0) h1 h2 (by decide) (by decide) (fun fa x y st _ _ => ?_) (fun fa x y st _ _ => ?_) (fun _ _ _ _ => bt_if)
  · rw [stC_b (by rw [hw]; decide) (by rw [hw]; decide) (by rw [hw]; decide) (by rw [hw]; decide), hw, cm_6]
  · exact stM_b (by decide) (by decide) (by decide) (to_6 x y)
theorem e_same {c1 c2 : List Int32} {r1 r2 : List (Int32 × Int32)} (h1 : eqP anyV 3 c1 r1) (h2 : eqP anyV 3 c2 r2) : eqP bitV 4 (c1 ++ c2 ++ [wdA 7 0]) (r1 ++ r2 ++ [(7, 0)]) := by
  have hw : wdA 7 0 &&& 15 = 7 := wd_10 7 (by decide)
  refine eqP_b (G := fun x y => if x = y then 1 else 0) h1 h2 (by decide) (by decide) (fun fa x y st _ _ => ?_) (fun fa x y st _ _ => ?_) (fun _ _ _ _ => bt_if)
  · rw [stC_b (by rw [hw]; decide) (by rw [hw]; decide) (by rw [hw]; decide) (by rw [hw]; decide), hw, cm_7]
  · exact stM_b (by decide) (by decide) (by decide) (to_7 x y)
theorem e_more {c1 c2 : List Int32} {r1 r2 : List (Int32 × Int32)} (h1 : eqP anyV 3 c1 r1) (h2 : eqP anyV 3 c2 r2) : eqP bitV 4 (c1 ++ c2 ++ [wdA 8 0]) (r1 ++ r2 ++ [(8, 0)]) := by
  have hw : wdA 8 0 &&& 15 = 8 := wd_10 8 (by decide)
  refine eqP_b (G := fun x y => if y < x then 1 else 0) h1 h2 (by decide) (by decide) (fun fa x y st _ _ => ?_) (fun fa x y st _ _ => ?_) (fun _ _ _ _ => bt_if)
  · rw [stC_b (by rw [hw]; decide) (by rw [hw]; decide) (by rw [hw]; decide) (by rw [hw]; decide), hw, cm_8]
  · exact stM_b (by decide) (by decide) (by decide) (to_8 x y)
theorem e_and {n1 n2 n : Nat} {c1 c2 : List Int32} {r1 r2 : List (Int32 × Int32)} (h1 : eqP bitV n1 c1 r1) (h2 : eqP bitV n2 c2 r2) (k1 : n1 ≤ n) (k2 : n2 + 1 ≤ n) : eqP bitV n (c1 ++ c2 ++ [wdA 10 0]) (r1 ++ r2 ++ [(10, 0)]) := by
  have hw : wdA 10 0 &&& 15 = 10 := wd_10 10 (by decide)
  refine eqP_b (G := fun x y => x &&& y) h1 h2 k1 k2 (fun fa x y st _ _ => ?_) (fun fa x y st hx hy => ?_) (fun x y hx hy => ?_)
  · rw [stC_b (by rw [hw]; decide) (by rw [hw]; decide) (by rw [hw]; decide) (by rw [hw]; decide), hw, cm_10]
  · refine stM_b (by decide) (by decide) (by decide) ((to_10 x y).trans (congrArg some ?_))
    rcases hx with rfl | rfl <;> rcases hy with rfl | rfl <;> decide
  · rcases hx with rfl | rfl <;> rcases hy with rfl | rfl <;> unfold bitV <;> decide
theorem e_or {n1 n2 n : Nat} {c1 c2 : List Int32} {r1 r2 : List (Int32 × Int32)} (h1 : eqP bitV n1 c1 r1) (h2 : eqP bitV n2 c2 r2) (k1 : n1 ≤ n) (k2 : n2 + 1 ≤ n) : eqP bitV n (c1 ++ c2 ++ [wdA 11 0]) (r1 ++ r2 ++ [(11, 0)]) := by
  have hw : wdA 11 0 &&& 15 = 11 := wd_10 11 (by decide)
  refine eqP_b (G := fun x y => x ||| y) h1 h2 k1 k2 (fun fa x y st _ _ => ?_) (fun fa x y st hx hy => ?_) (fun x y hx hy => ?_)
  · rw [stC_b (by rw [hw]; decide) (by rw [hw]; decide) (by rw [hw]; decide) (by rw [hw]; decide), hw, cm_11]
  · refine stM_b (by decide) (by decide) (by decide) ((to_11 x y).trans (congrArg some ?_))
    rcases hx with rfl | rfl <;> rcases hy with rfl | rfl <;> decide
  · rcases hx with rfl | rfl <;> rcases hy with rfl | rfl <;> unfold bitV <;> decide
theorem e_not {n : Nat} {c : List Int32} {r : List (Int32 × Int32)} (h : eqP bitV n c r) : eqP bitV n (c ++ [wdA 9 0]) (r ++ [(9, 0)]) := fun fa => by
  have hw : wdA 9 0 &&& 15 = 9 := wd_10 9 (by decide)
  obtain ⟨v, v1, v2⟩ := h fa
  refine ⟨1 - v, ?_, fun st hs => ⟨?_, ?_⟩⟩
  · rcases v1 with rfl | rfl <;> unfold bitV <;> decide
  · rw [exL_a, (v2 st hs).1, Option.bind_some]
    simp only [exL, stC, hw, show ((9 : Int32) = 0) = False by decide, show ((9 : Int32) = 1) = False by decide, if_false, if_true, Option.bind_some]
  · rw [exR_a, (v2 st hs).2, Option.bind_some]
    simp only [exR, stM, show ((9 : Int32) = 0) = False by decide, show ((9 : Int32) = 1) = False by decide, if_false, if_true, Option.bind_some]
theorem e_num {v : Nat} (hv : v ≤ 9999) : eqP anyV 1 [wdA 0 v] [(0, nI v)] := fun fa => by
  have hw : wdA 0 v &&& 15 = 0 := wdA_a v (by decide)
  have ho : shr (wdA 0 v) 4 = nI v := wdA_o (by decide) (by omega)
  refine ⟨nI v, trivial, fun st hs => ⟨?_, ?_⟩⟩
  · simp only [exL, stC, hw, ho, if_true, if_pos (show st.length < 32 by omega), Option.bind_some]
  · simp only [exR, stM, if_true, if_pos (show st.length < 420 by omega), Option.bind_some]
theorem e_fact {f : Nat} (hf : f < 11) : eqP anyV 1 [wdA 1 f] [(1, nI f)] := fun fa => by
  have hw : wdA 1 f &&& 15 = 1 := wdA_a f (by decide)
  have ho : shr (wdA 1 f) 4 = nI f := wdA_o (by decide) (by omega)
  have g1 : 0 ≤ nI f := nI_pos' (by omega)
  have g2 : nI f < 11 := nI_lt (b := 11) hf (by decide)
  refine ⟨fa (nI f).toNatClampNeg, trivial, fun st hs => ⟨?_, ?_⟩⟩
  · simp only [exL, stC, hw, ho, one0, if_false, if_true, if_pos (show st.length < 32 ∧ 0 ≤ nI f ∧ nI f < 11 from ⟨by omega, g1, g2⟩), Option.bind_some]
  · simp only [exR, stM, one0, if_false, if_true, if_pos (show st.length < 420 ∧ 0 ≤ nI f ∧ nI f < 11 from ⟨by omega, g1, g2⟩), Option.bind_some]
theorem e_part {d : Nat} {c : List Int32} {r : List (Int32 × Int32)} (h : eqP anyV 2 c r) (h1 : 1 ≤ d) (h2 : d ≤ 9999) : eqP anyV 2 (c ++ [wdA 5 d]) (r ++ [(0, nI d)] ++ [(5, 0)]) := fun fa => by
  have hw : wdA 5 d &&& 15 = 5 := wdA_a d (by decide)
  have ho : shr (wdA 5 d) 4 = nI d := wdA_o (by decide) (by omega)
  have g1 : 0 < nI d := nI_lt (a := 0) (by omega) (by omega)
  have g2 : ¬ nI d = 0 := nI_ne0 (by omega) (by omega)
  obtain ⟨v, v1, v2⟩ := h fa
  refine ⟨v / nI d, trivial, fun st hs => ⟨?_, ?_⟩⟩
  · rw [exL_a, (v2 st hs).1, Option.bind_some]
    simp only [exL, stC, hw, ho, show ((5 : Int32) = 0) = False by decide, show ((5 : Int32) = 1) = False by decide, show ((5 : Int32) = 9) = False by decide, if_false, if_true, if_pos g1, Option.bind_some]
  · rw [exR_a, exR_a, (v2 st hs).2, Option.bind_some]
    have l1 : (v :: st).length < 420 := by simp only [List.length_cons]; omega
    simp only [exR, stM, if_true, if_pos l1, Option.bind_some, show ((5 : Int32) = 0) = False by decide, show ((5 : Int32) = 1) = False by decide, show ((5 : Int32) = 9) = False by decide, if_false, to_5 g2, Option.map_some]
