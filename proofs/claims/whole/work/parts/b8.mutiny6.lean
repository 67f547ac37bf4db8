/-! ===== mutiny: the class, through doors, to the end ===== -/
def cdN (v : Nat) : Nat := 100 * (v / 16) + v % 16
def cdD (v : Nat) : Int32 := if v < 96 then nI (cdN v) else -1
theorem cdN_i {u v : Nat} (hu : u < 96) (hv : v < 96) : nI (cdN u) = nI (cdN v) ↔ u = v := by
  unfold cdN
  rw [nI_eq (by omega) (by omega)]
  omega
theorem oth_le {A B : Nat → Nat} {nl l t : Nat} (h : okDr A B nl) (hl : l < nl) : othD A B l t ≤ 96 := by
  obtain ⟨h1, h2, -⟩ := h l hl
  unfold othD
  split
  · omega
  · split <;> omega
theorem cd_eq {u v : Nat} (hv : v < 96) : cdD u = nI (cdN v) ↔ u = v := by
  unfold cdD
  by_cases c : u < 96
  · rw [if_pos c]
    exact cdN_i c hv
  · rw [if_neg c]
    constructor
    · intro q
      exact absurd q.symm (nI_m1 (by unfold cdN; omega))
    · intro q
      omega
theorem dfE {a : Mem} {n nl l t : Nat} {z rk A B : Nat → Nat} (hM : MW a n z rk A B nl) (hl : l < nl) (ht : t < 96) : F_U_doorFrom (nI l) (nI (cdN t)) a = some (cdD (othD A B l t), a) := by
  obtain ⟨-, -, -, n16', -, hok, hL⟩ := hM
  obtain ⟨-, -, e0, e1, e2, e3⟩ := hL l hl
  obtain ⟨o1, o2, o3⟩ := hok l hl
  have q0 : F_N_at 19 (nI l) 0 a = some (nI (A l / 16), a) := (N_at (s := a) (h0 := 19) (c := 20) (l := l) (k := 0) rfl rfl rfl rfl (by omega) (by decide)).trans (by rw [e0])
  have q1 : F_N_at 19 (nI l) 1 a = some (nI (A l % 16), a) := (N_at (s := a) (h0 := 19) (c := 20) (l := l) (k := 1) rfl rfl rfl rfl (by omega) (by decide)).trans (by rw [e1])
  have q2 : F_N_at 19 (nI l) 2 a = some (nI (B l / 16), a) := (N_at (s := a) (h0 := 19) (c := 20) (l := l) (k := 2) rfl rfl rfl rfl (by omega) (by decide)).trans (by rw [e2])
  have q3 : F_N_at 19 (nI l) 3 a = some (nI (B l % 16), a) := (N_at (s := a) (h0 := 19) (c := 20) (l := l) (k := 3) rfl rfl rfl rfl (by omega) (by decide)).trans (by rw [e3])
  have p1 : (100 : Int32) * nI (A l / 16) + nI (A l % 16) = nI (cdN (A l)) := by
    rw [show (100 : Int32) = nI 100 from rfl, n_mul, nI_add]
    rfl
  have p2 : (100 : Int32) * nI (B l / 16) + nI (B l % 16) = nI (cdN (B l)) := by
    rw [show (100 : Int32) = nI 100 from rfl, n_mul, nI_add]
    rfl
  simp only [F_U_doorFrom, q0, q1, q2, q3, Option.bind_some, p1, p2]
  unfold othD cdD
  by_cases c1 : A l = t
  · rw [if_pos ((cdN_i o1 ht).mpr c1), if_pos c1, if_pos o2]
  · rw [if_neg (fun q => c1 ((cdN_i o1 ht).mp q)), if_neg c1]
    by_cases c2 : B l = t
    · rw [if_pos ((cdN_i o2 ht).mpr c2), if_pos c2, if_pos o1]
    · rw [if_neg (fun q => c2 ((cdN_i o2 ht).mp q)), if_neg c2, if_neg (by decide)]
theorem ud29n {k11 : Int32 → Int32 → Mem → Option (Int32 × Mem)} {fu : Nat} {x5 x6 x7 x9 : Int32} {s : Mem} : F_U_urgeThroughDoors_29 k11 (fu + 1) x5 x6 x7 0 x9 s = k11 x5 (x6 + 1) s := by
  rw [F_U_urgeThroughDoors_29]
  split
  · rw [if_pos rfl]
  · rw [if_pos rfl, if_pos rfl]
theorem ud29 {a : Mem} {n nl l t v : Nat} {z rk A B : Nat → Nat} {x5 : Int32} {k11 : Int32 → Int32 → Mem → Option (Int32 × Mem)} (hM : MW a n z rk A B nl) (hl : l < nl) (ht : t < 96) (hv : v < 96) (h5 : x5 = nI (cdN t)) : ∀ (q i fu : Nat), i + q = l → q < fu → F_U_urgeThroughDoors_29 k11 fu x5 (nI l) (nI (cdN v)) (if seenD A B t v i = true then 0 else 1) (nI i) a = if seenD A B t v l = true then k11 x5 (nI (l + 1)) a else (F_U_urge (nI (v / 16)) (nI (v % 16)) a).bind fun z1 => k11 x5 (nI (l + 1)) z1.2 := by
  have l16 : nl ≤ 16 := hM.2.2.2.1
  have d1 : nI (cdN v) / 100 = nI (v / 16) := by
    rw [show (100 : Int32) = nI 100 from rfl, n_div (by unfold cdN; omega) (by decide) (by decide)]
    congr 1
    unfold cdN
    omega
  have d2 : irm (nI (cdN v)) 100 = nI (v % 16) := by
    rw [show (100 : Int32) = nI 100 from rfl, n_irm (by unfold cdN; omega) (by decide) (by decide)]
    congr 1
    unfold cdN
    omega
  intro q
  induction q with
  | zero =>
    intro i fu hi hfu
    obtain ⟨fu, rfl⟩ : ∃ k, fu = k + 1 := ⟨fu - 1, by omega⟩
    have ei : i = l := by omega
    subst ei
    rw [F_U_urgeThroughDoors_29, if_pos (nI_le (Nat.le_refl i) (by omega)), d1, d2, nI_1]
    by_cases c : seenD A B t v i = true
    · rw [if_pos c, if_pos rfl, if_pos c]
    · rw [if_neg c, if_neg (by decide), if_neg c]
  | succ q ih =>
    intro i fu hi hfu
    obtain ⟨fu, rfl⟩ : ∃ k, fu = k + 1 := ⟨fu - 1, by omega⟩
    by_cases c : seenD A B t v i = true
    · have cl := seen_m (A := A) (B := B) (s := t) (v := v) (q + 1) i c
      rw [hi] at cl
      rw [if_pos c, ud29n, if_pos cl, nI_1]
    · have hi2 := ih (i + 1) fu (by omega) (by omega)
      rw [← hi2, if_neg c, F_U_urgeThroughDoors_29, if_neg (nI_ge (show i < l by omega) (by omega)), if_neg (by decide), h5, dfE hM (show i < nl by omega) ht]
      simp only [Option.bind_some, nI_1]
      have es : seenD A B t v (i + 1) = (seenD A B t v i || decide (othD A B i t = v)) := rfl
      have c' : seenD A B t v i = false := by cases hq : seenD A B t v i with | true => exact absurd hq c | false => rfl
      by_cases co : othD A B i t = v
      · rw [if_pos ((cd_eq hv).mpr co), if_pos (by rw [es, c', decide_eq_true co]; rfl)]
      · rw [if_neg (fun k => co ((cd_eq hv).mp k)), if_neg (by rw [es, c', decide_eq_false co]; decide)]
theorem ud11 {a0 : Mem} {n nl t : Nat} {z rk A B c0 : Nat → Nat} {S : Nat → Bool} {x5 : Int32} (hM : MW a0 n z rk A B nl) (ht : t < 96) (h5 : x5 = nI (cdN t)) (hb : ∀ m, c0 m ≤ 100) : ∀ (q l fu : Nat) (a : Mem) (inQ : Nat → Bool) (qf : Nat → Nat) (len : Nat), l + q = nl → q < fu → WS a0 a n z rk S inQ qf (fun m => c0 m + dsD A B (inD m) t l) len → ∃ (a' : Mem) (inQ' : Nat → Bool) (qf' : Nat → Nat) (len' : Nat), F_U_urgeThroughDoors_11 fu x5 (nI l) a = some (0, a') ∧ WS a0 a' n z rk S inQ' qf' (fun m => c0 m + dsD A B (inD m) t nl) len' ∧ extQ qf qf' len len' := by
  intro q
  induction q with
  | zero =>
    intro l fu a inQ qf len hl hfu hW
    obtain ⟨fu, rfl⟩ : ∃ k, fu = k + 1 := ⟨fu - 1, by omega⟩
    have el : l = nl := by omega
    subst el
    have hMa := MW_t hM hW.1
    have l16 : l ≤ 16 := hMa.2.2.2.1
    refine ⟨a, inQ, qf, len, ?_, hW, Nat.le_refl _, fun _ _ => rfl⟩
    rw [F_U_urgeThroughDoors_11, hMa.2.2.2.2.1, if_pos (nI_le (Nat.le_refl _) (by omega))]
  | succ q ih =>
    intro l fu a inQ qf len hl hfu hW
    obtain ⟨fu, rfl⟩ : ∃ k, fu = k + 1 := ⟨fu - 1, by omega⟩
    have hMa := MW_t hM hW.1
    have l16 : nl ≤ 16 := hMa.2.2.2.1
    have hok := hMa.2.2.2.2.2.1
    have hdf := dfE hMa (show l < nl by omega) ht
    obtain ⟨N, hN⟩ : ∃ N, gF = N + 1 := ⟨999999, gF_eq⟩
    have red : F_U_urgeThroughDoors_11 (fu + 1) x5 (nI l) a = if cdD (othD A B l t) = (-1) then F_U_urgeThroughDoors_29 (F_U_urgeThroughDoors_11 fu) gF x5 (nI l) (cdD (othD A B l t)) 0 0 a else F_U_urgeThroughDoors_29 (F_U_urgeThroughDoors_11 fu) gF x5 (nI l) (cdD (othD A B l t)) 1 0 a := by
      rw [F_U_urgeThroughDoors_11, hMa.2.2.2.2.1, if_neg (nI_ge (show l < nl by omega) (by omega)), h5, hdf]
      rfl
    have stay : nwD A B l t = false → F_U_urgeThroughDoors_11 (fu + 1) x5 (nI l) a = F_U_urgeThroughDoors_11 fu x5 (nI (l + 1)) a → ∃ (a' : Mem) (inQ' : Nat → Bool) (qf' : Nat → Nat) (len' : Nat), F_U_urgeThroughDoors_11 (fu + 1) x5 (nI l) a = some (0, a') ∧ WS a0 a' n z rk S inQ' qf' (fun m => c0 m + dsD A B (inD m) t nl) len' ∧ extQ qf qf' len len' := fun hn ee => by
      rw [ee]
      refine ih (l + 1) fu a inQ qf len (by omega) (by omega) (WS_c hW (fun m _ => ?_))
      show c0 m + (dsD A B (inD m) t l + (bif nwD A B l t then inD m (othD A B l t) else 0)) = c0 m + dsD A B (inD m) t l
      rw [hn]
      rfl
    by_cases cv : othD A B l t < 96
    · have ecd : cdD (othD A B l t) = nI (cdN (othD A B l t)) := if_pos cv
      have h29 := ud29 (k11 := F_U_urgeThroughDoors_11 fu) hMa (show l < nl by omega) ht cv h5 l 0 gF (by omega) (by rw [gF_eq]; omega)
      rw [if_neg (show ¬ seenD A B t (othD A B l t) 0 = true from Bool.false_ne_true)] at h29
      rw [if_neg (by rw [ecd]; exact nI_m1 (by unfold cdN; omega)), ecd] at red
      have h29' : F_U_urgeThroughDoors_29 (F_U_urgeThroughDoors_11 fu) gF x5 (nI l) (nI (cdN (othD A B l t))) 1 0 a = _ := h29
      rw [h29'] at red
      by_cases cs : seenD A B t (othD A B l t) l = true
      · rw [if_pos cs] at red
        refine stay ?_ red
        unfold nwD
        rw [cs, Bool.not_true, Bool.and_false]
      · rw [if_neg cs] at red
        have cs' : seenD A B t (othD A B l t) l = false := by cases hq : seenD A B t (othD A B l t) l with | true => exact absurd hq cs | false => rfl
        have hn : nwD A B l t = true := by
          unfold nwD
          rw [cs', decide_eq_true cv]
          rfl
        have hv : hsD n z (othD A B l t) := by
          obtain ⟨k1, k2, -⟩ := hMa.2.2.2.2.2.2 l (by omega)
          have := (oth_J hok (show l < nl by omega) cv).mp rfl
          rcases this with ⟨-, k⟩ | ⟨-, k⟩
          · rw [← k]; exact k2
          · rw [← k]; exact k1
        have dl := ds_le (A := A) (B := B) (C := inD (othD A B l t)) (s := t) (fun m => by unfold inD; split <;> omega) l
        obtain ⟨a1, i1, q1, n1, u1, u2, u3⟩ := ug_y hM hW hv (by have := hb (othD A B l t); show c0 _ + dsD A B (inD (othD A B l t)) t l < 5000; omega)
        rw [u1] at red
        simp only [Option.bind_some] at red
        rw [red]
        obtain ⟨a2, i2, q2, n2, y1, y2, y3⟩ := ih (l + 1) fu a1 i1 q1 n1 (by omega) (by omega) (WS_c u2 (fun m _ => by
          show c0 m + (dsD A B (inD m) t l + (bif nwD A B l t then inD m (othD A B l t) else 0)) = c0 m + dsD A B (inD m) t l + inD (othD A B l t) m
          rw [hn]
          unfold inD
          try dsimp only
          by_cases cm : m = othD A B l t
          · rw [if_pos cm]
            show _ + (_ + (if othD A B l t = m then 1 else 0)) = _
            rw [if_pos cm.symm]
            omega
          · rw [if_neg cm]
            show _ + (_ + (if othD A B l t = m then 1 else 0)) = _
            rw [if_neg (fun k => cm k.symm)]
            omega))
        exact ⟨a2, i2, q2, n2, y1, y2, ext_t u3 y3⟩
    · have ecd : cdD (othD A B l t) = -1 := if_neg cv
      rw [ecd, if_pos rfl, hN, ud29n, nI_1] at red
      refine stay ?_ red
      unfold nwD
      rw [decide_eq_false cv]
      rfl
def clK (a0 : Mem) (n : Nat) (z rk A B : Nat → Nat) (nl : Nat) (S : Nat → Bool) (K : Nat → Nat) : Prop := (∀ m, vmD a0 n z m → S m = true → 1 ≤ K m) ∧ ∀ m, vmD a0 n z m → K m = 0 → besD A B z K nl m < wlN (rk m)
/-- what both find: those who are there, joined by S or by those beside them; no more than they must -/
def endD (a0 : Mem) (n : Nat) (z rk A B : Nat → Nat) (nl : Nat) (S C : Nat → Bool) : Prop := (∀ m, C m = true → vmD a0 n z m) ∧ clK a0 n z rk A B nl S (fun m => cq1 (C m)) ∧ ∀ K, clK a0 n z rk A B nl S K → ∀ m, C m = true → 1 ≤ K m
theorem end_u {a0 : Mem} {n nl : Nat} {z rk A B : Nat → Nat} {S C D : Nat → Bool} (h : endD a0 n z rk A B nl S C) (k : endD a0 n z rk A B nl S D) : C = D := by
  funext m
  have h1 := h.2.2 _ k.2.1 m
  have k1 := k.2.2 _ h.2.1 m
  cases c : C m with
  | true =>
    have := h1 c
    cases d : D m with
    | true => rfl
    | false => rw [d] at this; exact absurd this (by decide)
  | false =>
    cases d : D m with
    | false => rfl
    | true => have := k1 d; rw [c] at this; exact absurd this (by decide)
theorem u_dn {a0 a : Mem} {n len nl t : Nat} {z rk qf cnt A B : Nat → Nat} {S inQ : Nat → Bool} (hM : MW a0 n z rk A B nl) (h : WS a0 a n z rk S inQ qf cnt len) (ht : hsD n z t) (hb : ∀ m, cnt m < 5000) : ∃ (a' : Mem) (inQ' : Nat → Bool) (qf' : Nat → Nat) (len' : Nat), F_U_urge (nI (t / 16)) (nI (t % 16) - 1) a = some (0, a') ∧ WS a0 a' n z rk S inQ' qf' (fun m => cnt m + (if 0 < t % 16 then inD m (t - 1) else 0)) len' ∧ extQ qf qf' len len' := by
  have hMa := MW_t hM h.1
  by_cases c : 0 < t % 16
  · have e1 : nI (t % 16) - 1 = nI ((t - 1) % 16) := by
      obtain ⟨k, hk⟩ : ∃ k, t % 16 = k + 1 := ⟨t % 16 - 1, by omega⟩
      rw [hk, nI_pred]
      congr 1
      omega
    have e2 : t / 16 = (t - 1) / 16 := by omega
    have hv : hsD n z (t - 1) := by
      obtain ⟨k1, k2⟩ := ht
      refine ⟨by omega, ?_⟩
      rw [← e2]
      omega
    obtain ⟨a1, i1, q1, n1, u1, u2, u3⟩ := ug_y hM h hv (hb _)
    rw [e1, e2]
    refine ⟨a1, i1, q1, n1, u1, WS_c u2 (fun m _ => ?_), u3⟩
    show cnt m + (if 0 < t % 16 then inD m (t - 1) else 0) = cnt m + inD (t - 1) m
    rw [if_pos c]
    unfold inD
    try dsimp only
    by_cases d : m = t - 1
    · rw [if_pos d, if_pos d.symm]
    · rw [if_neg d, if_neg (fun k => d k.symm)]
  · have e1 : nI (t % 16) - 1 = -1 := by rw [show t % 16 = 0 by omega]; rfl
    refine ⟨a, inQ, qf, len, ?_, WS_c h (fun m _ => by rw [if_neg c]; rfl), Nat.le_refl _, fun _ _ => rfl⟩
    rw [e1]
    refine ug_n hMa.1 hMa.2.1 (fun f i hf hi k => ?_)
    have := (hMa.1.2 f hf).2
    exact nI_m1 (X := i) (by omega) k.2.symm
theorem u_up {a0 a : Mem} {n len nl t : Nat} {z rk qf cnt A B : Nat → Nat} {S inQ : Nat → Bool} (hM : MW a0 n z rk A B nl) (h : WS a0 a n z rk S inQ qf cnt len) (ht : hsD n z t) (hb : ∀ m, cnt m < 5000) : ∃ (a' : Mem) (inQ' : Nat → Bool) (qf' : Nat → Nat) (len' : Nat), F_U_urge (nI (t / 16)) (nI (t % 16) + 1) a = some (0, a') ∧ WS a0 a' n z rk S inQ' qf' (fun m => cnt m + (if t % 16 + 1 < z (t / 16) then inD m (t + 1) else 0)) len' ∧ extQ qf qf' len len' := by
  have hMa := MW_t hM h.1
  have z16 := (hs_96 hMa.1 ht).2
  rw [nI_1]
  by_cases c : t % 16 + 1 < z (t / 16)
  · have e1 : t % 16 + 1 = (t + 1) % 16 := by omega
    have e2 : t / 16 = (t + 1) / 16 := by omega
    have hv : hsD n z (t + 1) := by
      obtain ⟨k1, k2⟩ := ht
      refine ⟨by omega, ?_⟩
      rw [← e2, ← e1]
      exact c
    obtain ⟨a1, i1, q1, n1, u1, u2, u3⟩ := ug_y hM h hv (hb _)
    rw [← e1, ← e2] at u1
    refine ⟨a1, i1, q1, n1, u1, WS_c u2 (fun m _ => ?_), u3⟩
    show cnt m + (if t % 16 + 1 < z (t / 16) then inD m (t + 1) else 0) = cnt m + inD (t + 1) m
    rw [if_pos c]
    unfold inD
    try dsimp only
    by_cases d : m = t + 1
    · rw [if_pos d, if_pos d.symm]
    · rw [if_neg d, if_neg (fun k => d k.symm)]
  · refine ⟨a, inQ, qf, len, ?_, WS_c h (fun m _ => by rw [if_neg c]; rfl), Nat.le_refl _, fun _ _ => rfl⟩
    refine ug_n hMa.1 hMa.2.1 (fun f i hf hi k => ?_)
    have i16 := (hMa.1.2 f hf).2
    have f6 := hMa.1.1
    have t1 := ht.1
    have q1 := (nI_eq (by omega) (by omega)).mp k.1
    have q2 := (nI_eq (by omega) (by omega)).mp k.2
    rw [← q1] at hi
    omega
theorem mu33 {a0 : Mem} {n nl : Nat} {z rk A B : Nat → Nat} {S : Nat → Bool} (hM : MW a0 n z rk A B nl) : ∀ (q k fu : Nat) (a : Mem) (inQ : Nat → Bool) (qf : Nat → Nat) (len : Nat), k + q = 96 → q < fu → k ≤ len → WS a0 a n z rk S inQ qf (fun m => besD A B z (ckQ qf k) nl m) len → (∀ K, clK a0 n z rk A B nl S K → ∀ m, inQ m = true → 1 ≤ K m) → ∃ (C : Nat → Bool) (a' : Mem), F_U_mutineers_33 fu (nI k) a = some (nI (fb_ct C 96), a') ∧ eqWq a' a0 ∧ endD a0 n z rk A B nl S C := by
  have fin : ∀ (k fu : Nat) (a : Mem) (inQ : Nat → Bool) (qf : Nat → Nat) (len : Nat), k ≤ len → len ≤ k → WS a0 a n z rk S inQ qf (fun m => besD A B z (ckQ qf k) nl m) len → (∀ K, clK a0 n z rk A B nl S K → ∀ m, inQ m = true → 1 ≤ K m) → ∃ (C : Nat → Bool) (a' : Mem), F_U_mutineers_33 (fu + 1) (nI k) a = some (nI (fb_ct C 96), a') ∧ eqWq a' a0 ∧ endD a0 n z rk A B nl S C := fun k fu a inQ qf len hk1 hk2 hW hL => by
    have ek : k = len := by omega
    subst ek
    obtain ⟨w1, ⟨w21, w22, w23, w24, w25⟩, w3, w4, w5⟩ := hW
    have l96 : k ≤ 96 := by rw [w22]; exact fb_ct_le _ _
    have eC : ckQ qf k = fun m => cq1 (inQ m) := by
      funext m
      cases c : inQ m with
      | true =>
        have u1 := ck_1 k ((w24 m).mp c)
        have u2 := ck_le (K := fun _ => 1) (m := m) k (fun i j hij hj => w25 i j hij hj) (fun _ _ => Nat.le_refl _)
        show _ = 1
        omega
      | false =>
        refine ck_0 k (fun j hj e => ?_)
        have := (w24 m).mpr ⟨j, hj, e⟩
        rw [c] at this
        exact absurd this (by decide)
    refine ⟨inQ, a, ?_, w1, w3, ⟨fun m hm hs => ?_, fun m hm h0 => ?_⟩, hL⟩
    · rw [F_U_mutineers_33, w21, if_pos (nI_le (Nat.le_refl k) (by omega)), ← w22]
    · have := w4 m hm
      rw [hs, Bool.true_or] at this
      show 1 ≤ cq1 (inQ m)
      rw [this]
      exact Nat.le_refl 1
    · have h1 := w4 m hm
      have h2 : inQ m = false := by
        cases c : inQ m with
        | false => rfl
        | true => have h0 : cq1 (inQ m) = 0 := h0; rw [c] at h0; exact absurd h0 (by decide)
      rw [h2] at h1
      have h1 := h1.symm
      rw [Bool.or_eq_false_iff] at h1
      have := of_decide_eq_false h1.2
      rw [← eC]
      show besD A B z (ckQ qf k) nl m < _
      have this : ¬ wlN (rk m) ≤ besD A B z (ckQ qf k) nl m := this
      omega
  intro q
  induction q with
  | zero =>
    intro k fu a inQ qf len hk hfu hkl hW hL
    obtain ⟨fu, rfl⟩ : ∃ k, fu = k + 1 := ⟨fu - 1, by omega⟩
    have l96 : len ≤ 96 := by rw [hW.2.1.2.1]; exact fb_ct_le _ _
    exact fin k fu a inQ qf len hkl (by omega) hW hL
  | succ q ih =>
    intro k fu a inQ qf len hk hfu hkl hW hL
    obtain ⟨fu, rfl⟩ : ∃ k, fu = k + 1 := ⟨fu - 1, by omega⟩
    have l96 : len ≤ 96 := by rw [hW.2.1.2.1]; exact fb_ct_le _ _
    by_cases ck : len ≤ k
    · exact fin k fu a inQ qf len hkl ck hW hL
    · have hQ := hW.2.1
      have hz := hM.1
      have hin : inQ (qf k) = true := (hQ.2.2.2.1 (qf k)).mpr ⟨k, by omega, rfl⟩
      have vt := hW.2.2.1 _ hin
      obtain ⟨t96, zt⟩ := hs_96 hz vt.1
      have l16 : nl ≤ 16 := hM.2.2.2.1
      have hck1 : ∀ j, j ≤ len → ∀ m, ckQ qf j m ≤ 1 := fun j hj m => ck_le (K := fun _ => 1) j (fun i i' h1 h2 => hQ.2.2.2.2 i i' h1 (by omega)) (fun _ _ => Nat.le_refl _)
      have hb0 : ∀ m, besD A B z (ckQ qf k) nl m ≤ 18 := fun m => by have := bes_le (A := A) (B := B) (z := z) (nl := nl) (s := m) (hck1 k (by omega)); omega
      have i1' : ∀ t m, inD t m ≤ 1 := fun t m => by unfold inD; split <;> omega
      obtain ⟨a1, i1, q1, n1, u1, u2, u3⟩ := u_dn hM hW vt.1 (fun m => by have := hb0 m; omega)
      obtain ⟨a2, i2, q2, n2, y1, y2, y3⟩ := u_up hM u2 vt.1 (fun m => by
        have := hb0 m
        have := i1' m (qf k - 1)
        show besD A B z (ckQ qf k) nl m + (if 0 < qf k % 16 then inD m (qf k - 1) else 0) < 5000
        split <;> omega)
      obtain ⟨a3, i3, q3, n3, x1, x2, x3⟩ := ud11 (S := S) (c0 := fun m => besD A B z (ckQ qf k) nl m + (if 0 < qf k % 16 then inD m (qf k - 1) else 0) + (if qf k % 16 + 1 < z (qf k / 16) then inD m (qf k + 1) else 0)) hM t96 rfl (fun m => by
        have := hb0 m
        have := i1' m (qf k - 1)
        have := i1' m (qf k + 1)
        show besD A B z (ckQ qf k) nl m + (if 0 < qf k % 16 then inD m (qf k - 1) else 0) + (if qf k % 16 + 1 < z (qf k / 16) then inD m (qf k + 1) else 0) ≤ 100
        split <;> split <;> omega) nl 0 gF a2 i2 q2 n2 (by omega) (by rw [gF_eq]; omega) (WS_c y2 (fun m _ => rfl))
      have x1 : F_U_urgeThroughDoors_11 gF (nI (cdN (qf k))) 0 a2 = some (0, a3) := x1
      rw [nI_1] at y1
      have ext := ext_t u3 (ext_t y3 x3)
      have red : F_U_mutineers_33 (fu + 1) (nI k) a = F_U_mutineers_33 fu (nI (k + 1)) a3 := by
        have l1 : ld a 99 (nI k) = some (nI (qf k)) := (ld_in rfl (show k < 96 by omega) (by decide)).trans (congrArg some (hQ.2.2.1 k (by omega)))
        have d1 : nI (qf k) / 16 = nI (qf k / 16) := by rw [show (16 : Int32) = nI 16 from rfl, n_div (by omega) (by decide) (by decide)]
        have d2 : irm (nI (qf k)) 16 = nI (qf k % 16) := by rw [show (16 : Int32) = nI 16 from rfl, n_irm (by omega) (by decide) (by decide)]
        have d3 : (100 : Int32) * nI (qf k / 16) + nI (qf k % 16) = nI (cdN (qf k)) := by
          rw [show (100 : Int32) = nI 100 from rfl, n_mul, nI_add]
          rfl
        have x1' : F_U_urgeThroughDoors (nI (qf k / 16)) (nI (qf k % 16)) a2 = some (0, a3) := by rw [F_U_urgeThroughDoors, d3]; exact x1
        rw [F_U_mutineers_33, hQ.1, if_neg (nI_ge (show k < len by omega) (by omega)), if_neg (show ¬ (96 : Int32) ≤ nI k from nI_ge (b := 96) (by omega) (by decide)), l1]
        simp only [Option.bind_some, d1, d2, u1, y1, x1', nI_1]
      rw [red]
      have eck : ∀ m, vmD a0 n z m → besD A B z (ckQ q3 (k + 1)) nl m = besD A B z (ckQ qf k) nl m + (if 0 < qf k % 16 then inD m (qf k - 1) else 0) + (if qf k % 16 + 1 < z (qf k / 16) then inD m (qf k + 1) else 0) + dsD A B (inD m) (qf k) nl := fun m hm => by
        obtain ⟨m96, zm⟩ := hs_96 hz hm.1
        have f1 : ckQ q3 (k + 1) = fun x => ckQ qf k x + inD (qf k) x := by
          funext x
          exact ck_c (k + 1) (fun j hj => ext.2 j (by omega))
        rw [f1, bes_add, bes_S hM.2.2.2.2.2.1 t96 m96 hm.1.2 vt.1.2 zm zt]
        unfold besD
        omega
      have hW3 : WS a0 a3 n z rk S i3 q3 (fun m => besD A B z (ckQ q3 (k + 1)) nl m) n3 := WS_c x2 (fun m hm => eck m hm)
      refine ih (k + 1) fu a3 i3 q3 n3 (by omega) (by omega) (by have := ext.1; omega) hW3 (fun K hK m hm => ?_)
      have hK1 : ∀ x, ckQ q3 (k + 1) x ≤ K x := fun x => by
        refine ck_le (k + 1) (fun i j hij hj => hW3.2.1.2.2.2.2 i j hij (by have := ext.1; omega)) (fun j hj => ?_)
        rw [ext.2 j (by omega)]
        exact hL K hK _ ((hQ.2.2.2.1 _).mpr ⟨j, by omega, rfl⟩)
      have vm := hW3.2.2.1 m hm
      have h4 := hW3.2.2.2.1 m vm
      rw [hm] at h4
      have h4 := h4.symm
      rw [Bool.or_eq_true] at h4
      rcases h4 with c | c
      · exact hK.1 m vm c
      · have c : wlN (rk m) ≤ besD A B z (ckQ q3 (k + 1)) nl m := of_decide_eq_true c
        have c2 := bes_mono (A := A) (B := B) (z := z) (nl := nl) (s := m) hK1
        by_cases c0 : K m = 0
        · have := hK.2 m vm c0
          omega
        · omega
