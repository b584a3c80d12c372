/-! ROWS kept and taken back: hold, restore, undo -/
theorem rowC_44 {c : gar} {C D R : Nat → Int32} (hc : gOk c) (h : rowC c C R) (e : ∀ j, j < 44 → D j = C j) : rowC c D R := by
  obtain ⟨hc1, hc2, hc3, hc4, -⟩ := hc
  obtain ⟨⟨h1, h2, h3⟩, h4, h5, h6⟩ := h
  refine ⟨⟨(e _ (by omega)).trans h1, fun d hd => ⟨(e _ (by omega)).trans (h2 d hd).1, (e _ (by omega)).trans (h2 d hd).2⟩, fun g hg => ⟨(e _ (by omega)).trans (h3 g hg).1, (e _ (by omega)).trans (h3 g hg).2⟩⟩, fun a ha b hb hab => (e _ (by omega)).trans (h4 a ha b hb hab), h5, h6⟩
theorem cpP {a L : Nat} (h : a + 44 ≤ L) (hL : L < 2147483648) : (!(decide ((0 : Int32) < 0)) && !(decide (nI a < 0)) && !(decide ((44 : Int32) < 0)) && Nat.ble ((0 : Int32).toNatClampNeg + (44 : Int32).toNatClampNeg) 44 && Nat.ble ((nI a).toNatClampNeg + (44 : Int32).toNatClampNeg) L) = true := by
  rw [clp (by omega), decide_eq_false (nI_pos (n := a) (by omega)), show Nat.ble (a + (44 : Int32).toNatClampNeg) L = true from Nat.ble_eq.mpr h]
  rfl
theorem cpT {a L : Nat} (h : a + 44 ≤ L) (hL : L < 2147483648) : (!(decide (nI a < 0)) && !(decide ((0 : Int32) < 0)) && !(decide ((44 : Int32) < 0)) && Nat.ble ((nI a).toNatClampNeg + (44 : Int32).toNatClampNeg) L && Nat.ble ((0 : Int32).toNatClampNeg + (44 : Int32).toNatClampNeg) 44) = true := by
  rw [clp (by omega), decide_eq_false (nI_pos (n := a) (by omega)), show Nat.ble (a + (44 : Int32).toNatClampNeg) L = true from Nat.ble_eq.mpr h]
  rfl
theorem grd_t {α : Type} {b : Bool} {x : Option α} (h : b = true) : grd b x = x := by rw [h]; rfl
theorem cl0 : (0 : Int32).toNatClampNeg = 0 := rfl
theorem cl44 : (44 : Int32).toNatClampNeg = 44 := rfl
theorem put_s1 {N p : Nat} {M : mS} (hp : p < 3) (h : M.1 37 1 = 3) : Sh_put_s1 N (nI p) M = some (mWW M 38 (va_cpy (M.1 34) (M.1 38) 0 (p * 44) 44)) := by
  unfold Sh_put_s1
  rw [if_neg (nI_pos (by omega)), h, if_neg (by rw [show (3 : Int32) = nI 3 from rfl, leP (by omega) (by omega)]; omega), show nI p * 44 = nI (p * 44) from pk_mul p 44, grd_t (cpP (by omega) (by omega)), nxs, clp (by omega), cl0, cl44]
theorem put_s {N p : Nat} {M : mS} (hp : p < 40) (h : M.1 35 1 = 40) : Sh_put N (nI p) M = some (mWW M 36 (va_cpy (M.1 34) (M.1 36) 0 (p * 44) 44)) := by
  unfold Sh_put
  rw [if_neg (nI_pos (by omega)), h, if_neg (by rw [show (40 : Int32) = nI 40 from rfl, leP (by omega) (by omega)]; omega), show nI p * 44 = nI (p * 44) from pk_mul p 44, grd_t (cpP (by omega) (by omega)), nxs, clp (by omega), cl0, cl44]
theorem take_s1 {N p : Nat} {M : mS} (hp : p < 3) (h : M.1 37 1 = 3) : Sh_take_s1 N (nI p) M = some (mWW M 34 (va_cpy (M.1 38) (M.1 34) (p * 44) 0 44)) := by
  unfold Sh_take_s1
  rw [if_neg (nI_pos (by omega)), h, if_neg (by rw [show (3 : Int32) = nI 3 from rfl, leP (by omega) (by omega)]; omega), show nI p * 44 = nI (p * 44) from pk_mul p 44, grd_t (cpT (by omega) (by omega)), nxs, clp (by omega), cl0, cl44]
theorem take_s {N p : Nat} {M : mS} (hp : p < 40) (h : M.1 35 1 = 40) : Sh_take N (nI p) M = some (mWW M 34 (va_cpy (M.1 36) (M.1 34) (p * 44) 0 44)) := by
  unfold Sh_take
  rw [if_neg (nI_pos (by omega)), h, if_neg (by rw [show (40 : Int32) = nI 40 from rfl, leP (by omega) (by omega)]; omega), show nI p * 44 = nI (p * 44) from pk_mul p 44, grd_t (cpT (by omega) (by omega)), nxs, clp (by omega), cl0, cl44]
theorem hold_l {N p : Nat} {M : mS} (hN : 1000 ≤ N) (hp : p < 3) : ∃ B, Mo_hold_20 N N (nI p) 0 M = some (1, B) ∧ (∀ j, j < 29 → B.1 110 (29 * p + j) = M.1 95 j) ∧ (∀ a j, (a ≠ 110 ∨ j < 29 * p ∨ 29 * p + 29 ≤ j) → B.1 a j = M.1 a j) ∧ B.2 = M.2 := by
  refine iter (F := fun f i (s : mS) => Mo_hold_20 N f (nI p) (nI i) s) (n := 29) (Q := fun r => ∃ B, r = some (1, B) ∧ (∀ j, j < 29 → B.1 110 (29 * p + j) = M.1 95 j) ∧ (∀ a j, (a ≠ 110 ∨ j < 29 * p ∨ 29 * p + 29 ≤ j) → B.1 a j = M.1 a j) ∧ B.2 = M.2) (fun i s => (∀ j, j < i → s.1 110 (29 * p + j) = M.1 95 j) ∧ (∀ a j, (a ≠ 110 ∨ j < 29 * p ∨ 29 * p + 29 ≤ j) → s.1 a j = M.1 a j) ∧ s.2 = M.2) ?_ ?_ (Nat.zero_le _) (by omega) ⟨fun k hk => absurd hk (Nat.not_lt_zero _), fun _ _ _ => rfl, rfl⟩
  · rintro f i s hi ⟨h1, h2, h3⟩
    have e95 : s.1 95 i = M.1 95 i := h2 95 i (by omega)
    refine Or.inl ⟨mWI s 110 (29 * p + i) (M.1 95 i), ⟨fun k hk => ?_, fun a j ha => ?_, h3⟩, ?_⟩
    · by_cases e : k = i
      · subst e; rw [rI rfl]
      · rw [rN (by omega)]; exact h1 k (by omega)
    · rw [rN (by omega)]; exact h2 a j ha
    · simp (disch := omega) only [Mo_hold_20, li, leP, if_neg, grd_in, clp, nxs, nI_add, pk_mul, e95]
  · rintro f s ⟨h1, h2, h3⟩
    refine ⟨s, ?_, h1, h2, h3⟩
    rw [Mo_hold_20, if_pos (by decide)]
theorem restore_l {N p : Nat} {M : mS} (hN : 1000 ≤ N) (hp : p < 3) : ∃ B, Mo_restore_22 N N (nI p) 0 M = some (1, B) ∧ (∀ j, j < 29 → B.1 95 j = M.1 110 (29 * p + j)) ∧ B.1 64 53 = 0 ∧ (∀ a j, a ≠ 95 → (a ≠ 64 ∨ j ≠ 53) → B.1 a j = M.1 a j) ∧ B.2 = M.2 := by
  refine iter (F := fun f i (s : mS) => Mo_restore_22 N f (nI p) (nI i) s) (n := 29) (Q := fun r => ∃ B, r = some (1, B) ∧ (∀ j, j < 29 → B.1 95 j = M.1 110 (29 * p + j)) ∧ B.1 64 53 = 0 ∧ (∀ a j, a ≠ 95 → (a ≠ 64 ∨ j ≠ 53) → B.1 a j = M.1 a j) ∧ B.2 = M.2) (fun i s => (∀ j, j < i → s.1 95 j = M.1 110 (29 * p + j)) ∧ (∀ a j, a ≠ 95 → s.1 a j = M.1 a j) ∧ s.2 = M.2) ?_ ?_ (Nat.zero_le _) (by omega) ⟨fun k hk => absurd hk (Nat.not_lt_zero _), fun _ _ _ => rfl, rfl⟩
  · rintro f i s hi ⟨h1, h2, h3⟩
    have e95 : s.1 110 (29 * p + i) = M.1 110 (29 * p + i) := h2 110 _ (by omega)
    refine Or.inl ⟨mWI s 95 i (M.1 110 (29 * p + i)), ⟨fun k hk => ?_, fun a j ha => ?_, h3⟩, ?_⟩
    · by_cases e : k = i
      · subst e; rw [rI rfl]
      · rw [rN (by omega)]; exact h1 k (by omega)
    · rw [rN (by omega)]; exact h2 a j ha
    · simp (disch := omega) only [Mo_restore_22, li, leP, if_neg, grd_in, clp, nxs, nI_add, pk_mul, e95]
  · rintro f s ⟨h1, h2, h3⟩
    refine ⟨mWI s 64 53 0, ?_, fun j hj => ?_, rI rfl, fun a j q1 q2 => ?_, h3⟩
    · rw [Mo_restore_22, if_pos (by decide), nxs]
    · rw [mWI_ne (by omega)]; exact h1 j hj
    · rw [rN q2]; exact h2 a j q1
theorem undo_l {N u : Nat} {M : mS} (hN : 1000 ≤ N) (hu : u < 40) (h : M.1 64 53 = nI u) : ∃ B, Mo_undo_21 N N 0 M = some (1, B) ∧ (∀ j, j < 29 → B.1 95 j = M.1 98 (29 * u + j)) ∧ (∀ a j, a ≠ 95 → B.1 a j = M.1 a j) ∧ B.2 = M.2 := by
  refine iter (F := fun f i (s : mS) => Mo_undo_21 N f (nI i) s) (n := 29) (Q := fun r => ∃ B, r = some (1, B) ∧ (∀ j, j < 29 → B.1 95 j = M.1 98 (29 * u + j)) ∧ (∀ a j, a ≠ 95 → B.1 a j = M.1 a j) ∧ B.2 = M.2) (fun i s => (∀ j, j < i → s.1 95 j = M.1 98 (29 * u + j)) ∧ (∀ a j, a ≠ 95 → s.1 a j = M.1 a j) ∧ s.2 = M.2) ?_ ?_ (Nat.zero_le _) (by omega) ⟨fun k hk => absurd hk (Nat.not_lt_zero _), fun _ _ _ => rfl, rfl⟩
  · rintro f i s hi ⟨h1, h2, h3⟩
    have e98 : s.1 98 (29 * u + i) = M.1 98 (29 * u + i) := h2 98 _ (by omega)
    have e64 : s.1 64 53 = nI u := (h2 _ _ (by omega)).trans h
    refine Or.inl ⟨mWI s 95 i (M.1 98 (29 * u + i)), ⟨fun k hk => ?_, fun a j ha => ?_, h3⟩, ?_⟩
    · by_cases e : k = i
      · subst e; rw [rI rfl]
      · rw [rN (by omega)]; exact h1 k (by omega)
    · rw [rN (by omega)]; exact h2 a j ha
    · simp (disch := omega) only [Mo_undo_21, li, leP, if_neg, grd_in, clp, nxs, nI_add, pk_mul, e64, e98]
  · rintro f s ⟨h1, h2, h3⟩
    refine ⟨s, ?_, h1, h2, h3⟩
    rw [Mo_undo_21, if_pos (by decide)]
theorem bit_or : ∀ s, s < 8 → ∀ p, p < 3 → (s ||| 2 ^ p) < 8 ∧ ∀ z, z < 3 → (s ||| 2 ^ p).testBit z = (if z = p then true else s.testBit z) := by decide +kernel
theorem arg3 {x : Int32} (q : outr x 3) : (if x < 0 then (0 : Int32) else if x < 3 then 1 else 0) = 0 ∧ (¬ x < 0 → ¬ x < 3 ∧ 3 ≤ x) := by
  rcases q with q | ⟨q1, q2⟩
  · exact ⟨if_pos q, fun z => absurd q z⟩
  · have : ¬ x < 3 := by
      rw [fa_lt]; rw [fa_le] at q2
      have e : (3 : Int32).toInt = 3 := rfl
      have e2 : (nI 3).toInt = 3 := rfl
      omega
    exact ⟨by rw [if_neg q1, if_neg this], fun _ => ⟨this, q2⟩⟩
theorem call_hold {N : Nat} {M : mS} (hN : 1000 ≤ N) (h : INV M) (x : Int32) : ∃ r A B, Md_hold N x M = some (r, A) ∧ Mo_hold N x A = some (r, B) ∧ INV B := by
  obtain ⟨c, v, R, X, hc, hC, hM⟩ := h
  unfold Md_hold Mo_hold
  rcases arg_c x 3 (by omega) with ⟨p, hp, rfl⟩ | q
  · obtain ⟨h1, h2, h3, h4, h5, ⟨h61, s, h62, h63, h64⟩, h7, h8⟩ := hC
    obtain ⟨g1, g2, g3, g4, g5, g6, g7, g8, g9⟩ := hM
    have hb := bit_or s h62 p hp
    let A : mS := mWI (mWW M 38 (va_cpy (M.1 34) (M.1 38) 0 (p * 44) 44)) 0 14 (nI (s ||| 2 ^ p))
    have fA : ∀ a j, a ≠ 38 → (a ≠ 0 ∨ j ≠ 14) → A.1 a j = M.1 a j := fun a j q1 q2 => by show (mWI _ 0 14 _).1 a j = _; rw [rN q2, mWW_ne q1]
    obtain ⟨B, eB, b1, b2, b3⟩ := hold_l (N := N) (M := mWI A 109 p 1) hN hp
    have f : ∀ a j, a ≠ 38 ∧ (a ≠ 0 ∨ j ≠ 14) ∧ a ≠ 109 ∧ a ≠ 110 → B.1 a j = M.1 a j := fun a j q => by rw [b2 a j (by omega), mWI_ne (by omega)]; exact fA a j q.1 q.2.1
    have f38 : ∀ j, B.1 38 j = va_cpy (M.1 34) (M.1 38) 0 (p * 44) 44 j := fun j => by
      rw [b2 38 j (by omega), mWI_ne (by omega)]
      show (mWI _ 0 14 _).1 38 j = _
      rw [mWI_ne (by omega), mWW_eq]
    refine ⟨1, A, B, ?_, ?_, c, v, R, (xT X, xB X, xP X, xU X, xH X, (fun z => if z = p then true else xS X z), (fun z => if z = p then R else xQ X z), xN X, xI X, xO X, xZ X), hc, ⟨gC_fr h1 (fun a j q => f a j (by omega)), rowC_c h2 (fun j => f _ _ (by omega)), CIt_fr h3 (f _ _ (by omega)) (fun i => f _ _ (by omega)), (f _ _ (by omega)).trans h4, CIu_fr h5 (f _ _ (by omega)) (f _ _ (by omega)) (f _ _ (by omega)) (fun i => f _ _ (by omega)), ⟨(f _ _ (by omega)).trans h61, s ||| 2 ^ p, hb.1, ?_, fun z hz => ⟨?_, fun q => ?_⟩⟩, CIn_fr h7 (f _ _ (by omega)) (fun i => f _ _ (by omega)) (fun i => f _ _ (by omega)) (fun i => f _ _ (by omega)), fun k hk => by rw [b3]; exact h8 k hk⟩, gM_fr g1 (fun a j q => f a j (by omega)), fun k hk => (f _ _ (by omega)).trans (g2 k hk), MIt_fr g3 (f _ _ (by omega)) (fun i => f _ _ (by omega)), (f _ _ (by omega)).trans g4, MIu_fr g5 (f _ _ (by omega)) (fun i => f _ _ (by omega)), fun z hz => ⟨?_, fun q j hj => ?_⟩, MIn_fr g7 (f _ _ (by omega)) (fun i => f _ _ (by omega)) (fun i => f _ _ (by omega)) (fun i => f _ _ (by omega)), fun k hk => (f _ _ (by omega)).trans (g8 k hk), fun k hk => by rw [b3]; exact g9 k hk⟩
    · rw [if_neg (nI_pos (by omega)), if_pos (by rw [show (3 : Int32) = nI 3 from rfl, ltP (by omega) (by omega)]; omega), put_s1 hp h61, bVs, nxs]
      simp (disch := omega) only [mWW_ne, h63, li, shl1, fa_or, A]
    · rw [show (2 : Int32) = nI 2 from rfl, inK_y (by omega) (by omega), if_neg (by decide), grd_in hp (by omega), nxs, clp (by omega), show vp_nar .boolean 1 = 1 from rfl, eB]
    · rw [b2 0 14 (by omega), mWI_ne (by omega)]; exact rI rfl
    · rw [hb.2 z hz]
      show _ = (if z = p then true else xS X z)
      rw [(h64 z hz).1]
    · show rowC c (fun j => B.1 38 (44 * z + j)) (if z = p then R else xQ X z)
      have q : (if z = p then true else xS X z) = true := q
      by_cases e : z = p
      · subst e
        rw [if_pos rfl]
        refine rowC_44 hc h2 (fun j hj => ?_)
        show B.1 38 _ = _
        rw [f38, pk_cpy_in (by omega) (by omega)]
        exact congrArg (M.1 34) (by omega)
      · rw [if_neg e] at q ⊢
        refine rowC_44 hc ((h64 z hz).2 q) (fun j hj => ?_)
        show B.1 38 _ = _
        rw [f38, pk_cpy_out (by omega)]
    · show B.1 109 z = if (if z = p then true else xS X z) = true then 1 else 0
      rw [b2 109 z (by omega)]
      by_cases e : z = p
      · subst e; rw [rI rfl, if_pos rfl, if_pos rfl]
      · rw [rN (by omega), if_neg e, fA 109 z (by omega) (by omega)]; exact (g6 z hz).1
    · show B.1 110 (29 * z + j) = (if z = p then R else xQ X z) j
      have q : (if z = p then true else xS X z) = true := q
      by_cases e : z = p
      · subst e; rw [b1 j hj, if_pos rfl, mWI_ne (by omega), fA 95 j (by omega) (by omega)]; exact g2 j hj
      · rw [if_neg e] at q ⊢
        rw [b2 110 _ (by omega), mWI_ne (by omega), fA 110 _ (by omega) (by omega)]; exact (g6 z hz).2 q j hj
  · refine ⟨0, M, M, ?_, ?_, c, v, R, X, hc, hC, hM⟩
    · by_cases z : x < 0
      · rw [if_pos z]
      · rw [if_neg z, if_neg ((arg3 q).2 z).1]
    · rw [show (2 : Int32) = nI 2 from rfl, inK_n q (by omega), if_pos (by decide)]
theorem call_restore {N : Nat} {M : mS} (hN : 1000 ≤ N) (h : INV M) (x : Int32) : ∃ r A B, Md_restore N x M = some (r, A) ∧ Mo_restore N x A = some (r, B) ∧ INV B := by
  obtain ⟨c, v, R, X, hc, hC, hM⟩ := h
  unfold Md_restore Mo_restore
  rcases arg_c x 3 (by omega) with ⟨p, hp, rfl⟩ | q
  · have hCM := And.intro hC hM
    obtain ⟨h1, h2, h3, h4, h5, ⟨h61, s, h62, h63, h64⟩, h7, h8⟩ := hC
    obtain ⟨g1, g2, g3, g4, g5, g6, g7, g8, g9⟩ := hM
    have e1 : nI s >>> (nI p &&& 31) &&& 1 = nI (s / 2 ^ p % 2) := sar1 (by omega) (by omega)
    have e2 : s.testBit p = decide (s / 2 ^ p % 2 = 1) := Nat.testBit_eq_decide_div_mod_eq
    have e3 := (h64 p hp).1
    cases q : xS X p
    · rw [q, e2] at e3
      have e4 := of_decide_eq_false e3
      refine ⟨0, M, M, ?_, ?_, c, v, R, X, hc, hCM.1, hCM.2⟩
      · rw [if_neg (nI_pos (by omega)), if_neg (by rw [show (3 : Int32) = nI 3 from rfl, leP (by omega) (by omega)]; omega), h63, e1, if_pos (by rw [show s / 2 ^ p % 2 = 0 by omega]; rfl)]
      · rw [show (2 : Int32) = nI 2 from rfl, inK_y (by omega) (by omega), if_neg (by decide), grd_in hp (by omega), clp (by omega), if_pos (by rw [(g6 p hp).1, q]; rfl)]
    · rw [q, e2] at e3
      have e4 := of_decide_eq_true e3
      let A : mS := mWI (mWW M 34 (va_cpy (M.1 38) (M.1 34) (p * 44) 0 44)) 0 12 0
      have fA : ∀ a j, a ≠ 34 → (a ≠ 0 ∨ j ≠ 12) → A.1 a j = M.1 a j := fun a j q1 q2 => by show (mWI _ 0 12 _).1 a j = _; rw [rN q2, mWW_ne q1]
      obtain ⟨B, eB, b1, b2, b3, b4⟩ := restore_l (N := N) (M := A) hN hp
      have f : ∀ a j, a ≠ 34 ∧ (a ≠ 0 ∨ j ≠ 12) ∧ a ≠ 95 ∧ (a ≠ 64 ∨ j ≠ 53) → B.1 a j = M.1 a j := fun a j q => by rw [b3 a j (by omega) (by omega)]; exact fA a j q.1 q.2.1
      have f34 : ∀ j, B.1 34 j = va_cpy (M.1 38) (M.1 34) (p * 44) 0 44 j := fun j => by
        rw [b3 34 j (by omega) (by omega)]
        show (mWI _ 0 12 _).1 34 j = _
        rw [mWI_ne (by omega), mWW_eq]
      refine ⟨1, A, B, ?_, ?_, c, v, xQ X p, (xT X, xB X, xP X, 0, xH X, xS X, xQ X, xN X, xI X, xO X, xZ X), hc, ⟨gC_fr h1 (fun a j q => f a j (by omega)), rowC_44 hc ((h64 p hp).2 q) (fun j hj => ?_), CIt_fr h3 (f _ _ (by omega)) (fun i => f _ _ (by omega)), (f _ _ (by omega)).trans h4, ⟨(f _ _ (by omega)).trans h5.1, Nat.zero_le _, ?_, ?_⟩, CIs_fr ⟨h61, s, h62, h63, h64⟩ (f _ _ (by omega)) (f _ _ (by omega)) (fun i => f _ _ (by omega)), CIn_fr h7 (f _ _ (by omega)) (fun i => f _ _ (by omega)) (fun i => f _ _ (by omega)) (fun i => f _ _ (by omega)), fun k hk => by rw [b4]; exact h8 k hk⟩, gM_fr g1 (fun a j q => f a j (by omega)), fun k hk => ?_, MIt_fr g3 (f _ _ (by omega)) (fun i => f _ _ (by omega)), (f _ _ (by omega)).trans g4, ⟨b2, fun k hk => absurd hk (Nat.not_lt_zero _)⟩, MIs_fr g6 (fun i => f _ _ (by omega)) (fun i => f _ _ (by omega)), MIn_fr g7 (f _ _ (by omega)) (fun i => f _ _ (by omega)) (fun i => f _ _ (by omega)) (fun i => f _ _ (by omega)), fun k hk => (f _ _ (by omega)).trans (g8 k hk), fun k hk => by rw [b4]; exact g9 k hk⟩
      · rw [if_neg (nI_pos (by omega)), if_neg (by rw [show (3 : Int32) = nI 3 from rfl, leP (by omega) (by omega)]; omega), h63, e1, if_neg (by rw [e4]; decide), take_s1 hp h61, bVs, nxs]
      · rw [show (2 : Int32) = nI 2 from rfl, inK_y (by omega) (by omega), if_neg (by decide), grd_in hp (by omega), clp (by omega), if_neg, eB]
        rw [fA 109 p (by omega) (by omega), (g6 p hp).1, q]; decide
      · rw [f34, pk_cpy_in (by omega) (by omega)]
        show _ = M.1 38 (44 * p + j)
        exact congrArg (M.1 38) (by omega)
      · rw [b3 0 12 (by omega) (by omega)]; exact rI rfl
      · obtain ⟨w, w1, w2, w3⟩ := h5.2.2.2
        exact ⟨w, w1, (f _ _ (by omega)).trans w2, fun k hk => absurd hk (Nat.not_lt_zero _)⟩
      · rw [b1 k hk, fA 110 _ (by omega) (by omega)]; exact (g6 p hp).2 q k hk
  · refine ⟨0, M, M, ?_, ?_, c, v, R, X, hc, hC, hM⟩
    · by_cases z : x < 0
      · rw [if_pos z]
      · rw [if_neg z, if_pos ((arg3 q).2 z).2]
    · rw [show (2 : Int32) = nI 2 from rfl, inK_n q (by omega), if_pos (by decide)]
theorem call_undo {N : Nat} {M : mS} (hN : 1000 ≤ N) (h : INV M) : ∃ r A B, Md_undo N M = some (r, A) ∧ Mo_undo N A = some (r, B) ∧ INV B := by
  obtain ⟨c, v, R, X, hc, hC, hM⟩ := h
  have hCM := And.intro hC hM
  obtain ⟨h1, h2, h3, h4, ⟨h51, h52, h53, w, h54, h55, h56⟩, h6, h7, h8⟩ := hC
  obtain ⟨g1, g2, g3, g4, ⟨g51, g52⟩, g6, g7, g8, g9⟩ := hM
  unfold Md_undo Mo_undo
  by_cases q : xU X = 0
  · refine ⟨0, M, M, ?_, ?_, c, v, R, X, hc, hCM.1, hCM.2⟩
    · rw [h53, q, if_pos (by decide)]
    · rw [g51, q, if_pos (by decide)]
  · let A : mS := mWI (mWI (mWW M 34 (va_cpy (M.1 36) (M.1 34) (w * 44) 0 44)) 0 13 (nI ((w + 40 - 1) % 40))) 0 12 (nI (xU X - 1))
    have fA : ∀ a j, a ≠ 34 → (a ≠ 0 ∨ (j ≠ 12 ∧ j ≠ 13)) → A.1 a j = M.1 a j := fun a j q1 q2 => by show (mWI _ 0 12 _).1 a j = _; rw [rN (by omega), rN (by omega), mWW_ne q1]
    have a53 : A.1 64 53 = nI (xU X) := (fA _ _ (by omega) (by omega)).trans g51
    obtain ⟨B, eB, b1, b3, b4⟩ := undo_l (N := N) (u := xU X - 1) (M := mWI A 64 53 (nI (xU X - 1))) hN (by omega) (rI rfl)
    have f : ∀ a j, a ≠ 34 ∧ (a ≠ 0 ∨ (j ≠ 12 ∧ j ≠ 13)) ∧ a ≠ 95 ∧ (a ≠ 64 ∨ j ≠ 53) → B.1 a j = M.1 a j := fun a j q => by rw [b3 a j (by omega), rN (by omega)]; exact fA a j q.1 q.2.1
    have f34 : ∀ j, B.1 34 j = va_cpy (M.1 36) (M.1 34) (w * 44) 0 44 j := fun j => by
      rw [b3 34 j (by omega), rN (by omega)]
      show (mWI _ 0 12 _).1 34 j = _
      rw [mWI_ne (by omega), mWI_ne (by omega), mWW_eq]
    refine ⟨1, A, B, ?_, ?_, c, v, xH X 0, (xT X, xB X, xP X, xU X - 1, (fun k => xH X (k + 1)), xS X, xQ X, xN X, xI X, xO X, xZ X), hc, ⟨gC_fr h1 (fun a j q => f a j (by omega)), rowC_44 hc (h56 0 (by omega)) (fun j hj => ?_), CIt_fr h3 (f _ _ (by omega)) (fun i => f _ _ (by omega)), (f _ _ (by omega)).trans h4, ⟨(f _ _ (by omega)).trans h51, show xU X - 1 ≤ 40 by omega, ?_, (w + 40 - 1) % 40, by omega, ?_, fun k hk => ?_⟩, CIs_fr h6 (f _ _ (by omega)) (f _ _ (by omega)) (fun i => f _ _ (by omega)), CIn_fr h7 (f _ _ (by omega)) (fun i => f _ _ (by omega)) (fun i => f _ _ (by omega)) (fun i => f _ _ (by omega)), fun k hk => by rw [b4]; exact h8 k hk⟩, gM_fr g1 (fun a j q => f a j (by omega)), fun k hk => ?_, MIt_fr g3 (f _ _ (by omega)) (fun i => f _ _ (by omega)), (f _ _ (by omega)).trans g4, ⟨?_, fun k hk j hj => ?_⟩, MIs_fr g6 (fun i => f _ _ (by omega)) (fun i => f _ _ (by omega)), MIn_fr g7 (f _ _ (by omega)) (fun i => f _ _ (by omega)) (fun i => f _ _ (by omega)) (fun i => f _ _ (by omega)), fun k hk => (f _ _ (by omega)).trans (g8 k hk), fun k hk => by rw [b4]; exact g9 k hk⟩
    · rw [h53, if_neg (nI_ne0 (by omega) (by omega)), h55, take_s h54 h51, bVs, mWW_ne (by omega), h55, show (1 : Int32) = nI 1 from rfl, show (40 : Int32) = nI 40 from rfl, rest_d (by omega) (by omega) (by omega), bRs, nxs, rN (by omega), mWW_ne (by omega), h53, sbP (by omega), nxs]
    · rw [a53, if_neg (nI_ne0 (by omega) (by omega)), show (1 : Int32) = nI 1 from rfl, sbP (by omega), nxs, eB]
      rfl
    · show B.1 34 j = M.1 36 _
      rw [f34, pk_cpy_in (by omega) (by omega)]
      exact congrArg (M.1 36) (by omega)
    · rw [b3 0 12 (by omega), rN (by omega)]; exact rI rfl
    · rw [b3 0 13 (by omega), rN (by omega)]
      show (mWI _ 0 12 _).1 0 13 = _
      rw [rN (by omega), rI rfl]
    · have hk : k < xU X - 1 := hk
      refine rowC_c (h56 (k + 1) (by omega)) (fun j => ?_)
      show B.1 36 _ = _
      rw [f 36 _ (by omega)]
      exact congrArg (M.1 36) (by omega)
    · rw [b1 k hk, rN (by omega), fA 98 _ (by omega) (by omega)]
      have := g52 0 (by omega) k hk
      rw [show xU X - 1 - 0 = xU X - 1 by omega] at this; exact this
    · rw [b3 64 53 (by omega)]; exact rI rfl
    · have hk : k < xU X - 1 := hk
      rw [f 98 _ (by omega)]
      have := g52 (k + 1) (by omega) j hj
      rw [show xU X - 1 - (k + 1) = xU X - 1 - 1 - k by omega] at this
      exact this
