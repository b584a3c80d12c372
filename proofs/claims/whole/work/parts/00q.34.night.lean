/-! A NIGHT GOES BY in the model -/
theorem ne_m1 {i : Nat} (h : i < 2147483648) : ¬ nI i = -1 := by
  intro e
  have h1 := congrArg Int32.toInt e
  rw [nI_toInt h] at h1
  have h2 : (-1 : Int32).toInt = -1 := by decide
  omega
theorem nI_self (x : Int32) : nI x.toBitVec.toNat = x := by
  apply Int32.toBitVec_inj.1
  show BitVec.ofNat 32 x.toBitVec.toNat = x.toBitVec
  simp
def sml (x : Int32) : Prop := ∃ n, n < 16777216 ∧ x = nI n
theorem sml_and {x y : Int32} (h : sml x) : sml (x &&& y) := by
  obtain ⟨n, hn, rfl⟩ := h
  refine ⟨n &&& y.toBitVec.toNat, Nat.lt_of_le_of_lt Nat.and_le_left hn, ?_⟩
  rw [← nx_and, nI_self]
theorem sml_or {x y : Int32} (h : sml x) (g : sml y) : sml (x ||| y) := by
  obtain ⟨n, hn, rfl⟩ := h
  obtain ⟨m, hm, rfl⟩ := g
  exact ⟨n ||| m, Nat.or_lt_two_pow (n := 24) hn hm, fa_or n m⟩
theorem sml_0 : sml 0 := ⟨0, by omega, rfl⟩
theorem sml_th {c : gar} (hc : gOk c) {m : Option Int32} {R : Nat → Int32} {g : Nat} : sml (th c m R g) := th_n hc m R g
theorem bits_s {N : Nat} {x : Int32} {M : mS} (hN : 1000 ≤ N) (h : sml x) : Mo_bits N x M = some (bc x) := by
  obtain ⟨n, hn, rfl⟩ := h
  exact Mo_bits_s hN hn
theorem others_s {N : Nat} {M : mS} {f : Nat → Int32} (hN : 1000 ≤ N) (hf : ∀ g, g < 5 → M.1 97 g = f g) {g : Nat} (hg : g < 1000) : Mo_othersBits N (nI g) M = some (oth f g 5) := by
  unfold Mo_othersBits
  refine iter (F := fun k i (s : Int32) => Mo_othersBits_4 N M k (nI g) s (nI i)) (n := 5) (Q := fun r => r = some (oth f g 5)) (fun i s => s = oth f g i) ?_ ?_ (Nat.zero_le _) (by omega) rfl
  · rintro k i s hi rfl
    refine Or.inl ⟨_, rfl, ?_⟩
    show _ = Mo_othersBits_4 N M k (nI g) (oth f g i ||| (if i = g then 0 else f i)) (nI (i + 1))
    have e5 := hf i hi
    by_cases e : i = g
    · rw [if_pos e, or0]
      simp (disch := omega) only [Mo_othersBits_4, li, leP, eqP, if_neg, if_pos, Mo_othersBits_23, nI_add]
    · rw [if_neg e]
      simp (disch := omega) only [Mo_othersBits_4, li, leP, eqP, if_neg, Mo_othersBits_23, nI_add, grd_in, clp, nxs, e5]
  · rintro k s rfl
    simp (disch := omega) only [Mo_othersBits_4, li, leP, if_pos]
theorem anyB_s {N : Nat} {M : mS} {f : Nat → Int32} (hN : 1000 ≤ N) (hf : ∀ g, g < 5 → M.1 97 g = f g) : Mo_othersBits N (-1) M = some (orB f 5) := by
  unfold Mo_othersBits
  refine iter (F := fun k i (s : Int32) => Mo_othersBits_4 N M k (-1) s (nI i)) (n := 5) (Q := fun r => r = some (orB f 5)) (fun i s => s = orB f i) ?_ ?_ (Nat.zero_le _) (by omega) rfl
  · rintro k i s hi rfl
    refine Or.inl ⟨_, rfl, ?_⟩
    have e5 := hf i hi
    have e1 := ne_m1 (i := i) (by omega)
    show _ = Mo_othersBits_4 N M k (-1) (orB f i ||| f i) (nI (i + 1))
    rw [Mo_othersBits_4, if_neg (by rw [show (5 : Int32) = nI 5 from rfl, leP (by omega) (by omega)]; omega), if_neg e1]
    simp (disch := omega) only [Mo_othersBits_23, li, nI_add, grd_in, clp, nxs, e5]
  · rintro k s rfl
    rw [Mo_othersBits_4, if_pos (by decide)]
theorem oth_5 {c : gar} (hc : gOk c) {m : Option Int32} {R : Nat → Int32} {g : Nat} : oth (th c m R) g 5 = oth (th c m R) g (gG c) := by
  unfold oth
  refine orB_m (fun k hk => ?_) hc.2.2.2.1
  rw [th_out hk]; split <;> rfl
theorem orB_5 {c : gar} (hc : gOk c) {m : Option Int32} {R : Nat → Int32} : orB (th c m R) 5 = orB (th c m R) (gG c) := orB_m (fun k hk => th_out hk) hc.2.2.2.1
theorem night_48 {N : Nat} {c : gar} {m : Option Int32} {R : Nat → Int32} {k6 : Int32 → mS → Option mS} {s : mS} {i : Nat} (hN : 1000 ≤ N) (hc : gOk c) (hi : i < gG c) (h97 : ∀ g, g < 5 → s.1 97 g = th c m R g) (hz : ∀ k, 18 ≤ k → k < 28 → (uA (k - 18)).2 = i → s.1 96 k = R k) :
    ∃ B : mS, (∀ k, k < 29 → B.1 96 k = if 18 ≤ k ∧ k < 28 ∧ (uA (k - 18)).2 = i then nx c m R k else s.1 96 k) ∧ (∀ a j, a ≠ 96 → B.1 a j = s.1 a j) ∧ B.2 = s.2 ∧ Mo_nightGoes_48 N k6 N (nI i) 0 s = k6 (nI (i + 1)) B := by
  obtain ⟨hc1, hc2, hc3, hc4, hc5, hc6⟩ := id hc
  refine iter (F := fun f j (t : mS) => Mo_nightGoes_48 N k6 f (nI i) (nI j) t) (n := i) (Q := fun r => ∃ B : mS, (∀ k, k < 29 → B.1 96 k = if 18 ≤ k ∧ k < 28 ∧ (uA (k - 18)).2 = i then nx c m R k else s.1 96 k) ∧ (∀ a j, a ≠ 96 → B.1 a j = s.1 a j) ∧ B.2 = s.2 ∧ r = k6 (nI (i + 1)) B)
    (fun j t => (∀ k, k < 29 → t.1 96 k = if 18 ≤ k ∧ k < 28 ∧ (uA (k - 18)).2 = i ∧ (uA (k - 18)).1 < j then nx c m R k else s.1 96 k) ∧ (∀ a j, a ≠ 96 → t.1 a j = s.1 a j) ∧ t.2 = s.2) ?_ ?_ (Nat.zero_le _) (by omega) ⟨fun k hk => (if_neg (fun q => absurd q.2.2.2 (Nat.not_lt_zero _))).symm, fun _ _ _ => rfl, rfl⟩
  · rintro f j t hj ⟨h1, h2, h3⟩
    have hp := pA_lt i (by omega) j (by omega) (by omega)
    have hpc := pA_c i (by omega) j (by omega)
    have hu := pA_u j (by omega) i (by omega) hj
    have hpa := pairAt_s (M := t) (a := i) (b := j) (by omega) (by omega) (by omega)
    have e1 : t.1 97 i = th c m R i := by rw [h2 97 i (by omega)]; exact h97 i (by omega)
    have e2 : t.1 97 j = th c m R j := by rw [h2 97 j (by omega)]; exact h97 j (by omega)
    have eb := bits_s (N := N) (M := t) hN (sml_and (y := th c m R j) (sml_th hc (m := m) (R := R) (g := i)))
    have e3 : t.1 96 (18 + pA i j) = R (18 + pA i j) := by
      rw [h1 _ (by omega), if_neg (by rw [show 18 + pA i j - 18 = pA j i by omega, hu]; intro q; exact absurd q.2.2.2 (Nat.lt_irrefl _))]
      exact hz _ (by omega) (by omega) (by rw [show 18 + pA i j - 18 = pA j i by omega, hu])
    refine Or.inl ⟨mWI t 96 (18 + pA i j) (nx c m R (18 + pA i j)), ⟨fun k hk => ?_, fun a q ha => ?_, h3⟩, ?_⟩
    · by_cases e : k = 18 + pA i j
      · subst e
        rw [rI rfl, if_pos]
        rw [show 18 + pA i j - 18 = pA j i by omega, hu]
        exact ⟨by omega, by omega, rfl, Nat.lt_succ_self _⟩
      · rw [rN (by omega), h1 k hk]
        by_cases q : 18 ≤ k ∧ k < 28 ∧ (uA (k - 18)).2 = i ∧ (uA (k - 18)).1 < j
        · rw [if_pos q, if_pos ⟨q.1, q.2.1, q.2.2.1, by omega⟩]
        · rw [if_neg q, if_neg]
          rintro ⟨q1, q2, q3, q4⟩
          have hx := uA_p (k - 18) (by omega)
          by_cases e5 : (uA (k - 18)).1 = j
          · rw [e5, q3] at hx
            omega
          · exact q ⟨q1, q2, q3, by omega⟩
    · rw [mWI_ne ha]; exact h2 a q ha
    · rw [hpc, nx_p hc hj hi, ← hpc]
      simp (disch := omega) only [Mo_nightGoes_48, leP, if_neg, hpa, li, nI_add, grd_in, clp, e1, e2, eb, bRs, nxs, e3]
  · rintro f t ⟨h1, h2, h3⟩
    refine ⟨t, fun k hk => ?_, h2, h3, ?_⟩
    · rw [h1 k hk]
      by_cases q : 18 ≤ k ∧ k < 28 ∧ (uA (k - 18)).2 = i
      · have hx := uA_p (k - 18) (by omega)
        rw [if_pos q, if_pos ⟨q.1, q.2.1, q.2.2, by omega⟩]
      · rw [if_neg q, if_neg (fun z => q ⟨z.1, z.2.1, z.2.2.1⟩)]
    · simp (disch := omega) only [Mo_nightGoes_48, leP, if_pos, li, nI_add]
theorem night_6 {N : Nat} {c : gar} {v : Nat} {m : Option Int32} {R : Nat → Int32} {M : mS} (hN : 1000 ≤ N) (hc : gOk c) (hM : gM c v M) (hr : rM M R) (h97 : ∀ g, g < 5 → M.1 97 g = th c m R g) :
    ∃ B : mS, (∀ k, k < 29 → B.1 96 k = if (13 ≤ k ∧ k < 13 + gG c) ∨ (18 ≤ k ∧ k < 28 ∧ (uA (k - 18)).2 < gG c) then nx c m R k else R k) ∧ (∀ a j, a ≠ 96 → B.1 a j = M.1 a j) ∧ B.2 = M.2 ∧ Mo_nightGoes_6 N N 0 M = Mo_nightGoes_99 N N 0 B := by
  obtain ⟨hc1, hc2, hc3, hc4, hc5, hc6⟩ := id hc
  refine iter (F := fun f i (t : mS) => Mo_nightGoes_6 N f (nI i) t) (n := gG c) (Q := fun r => ∃ B : mS, (∀ k, k < 29 → B.1 96 k = if (13 ≤ k ∧ k < 13 + gG c) ∨ (18 ≤ k ∧ k < 28 ∧ (uA (k - 18)).2 < gG c) then nx c m R k else R k) ∧ (∀ a j, a ≠ 96 → B.1 a j = M.1 a j) ∧ B.2 = M.2 ∧ r = Mo_nightGoes_99 N N 0 B)
    (fun i t => (∀ k, k < 29 → t.1 96 k = if (13 ≤ k ∧ k < 13 + i) ∨ (18 ≤ k ∧ k < 28 ∧ (uA (k - 18)).2 < i) then nx c m R k else R k) ∧ (∀ a j, a ≠ 96 → t.1 a j = M.1 a j) ∧ t.2 = M.2) ?_ ?_ (Nat.zero_le _) (by omega) ⟨fun k hk => (hr k hk).trans (if_neg (fun q => q.elim (fun z => absurd z.2 (Nat.not_lt.mpr z.1)) (fun z => absurd z.2.2 (Nat.not_lt_zero _)))).symm, fun _ _ _ => rfl, rfl⟩
  · rintro f i t hi ⟨h1, h2, h3⟩
    have t64 : t.1 64 18 = nI v := by rw [h2 64 18 (by omega)]; exact hM.2.1
    have t78 : t.1 78 v = nI (gG c) := by rw [h2 78 v (by omega)]; exact hM.2.2.2.2.1
    have hv := hM.1
    have t97 : ∀ g, g < 5 → t.1 97 g = th c m R g := fun g hg => by rw [h2 97 g (by omega)]; exact h97 g hg
    have t97i := t97 i (by omega)
    have eo := others_s (N := N) hN t97 (g := i) (by omega)
    have eb := bits_s (N := N) (M := t) hN (sml_and (y := oth (th c m R) i 5) (sml_th hc (m := m) (R := R) (g := i)))
    have e13 : t.1 96 (13 + i) = R (13 + i) := by rw [h1 _ (by omega), if_neg (by omega)]
    have enx : R (13 + i) + bc (th c m R i &&& oth (th c m R) i 5) = nx c m R (13 + i) := by rw [nx_m hc hi, oth_5 hc]
    obtain ⟨B, b1, b2, b3, b4⟩ := night_48 (k6 := Mo_nightGoes_6 N f) (s := mWI t 96 (13 + i) (nx c m R (13 + i))) (m := m) (R := R) hN hc hi (fun g hg => by rw [mWI_ne (by omega)]; exact t97 g hg) (fun k q1 q2 q3 => by rw [rN (by omega), h1 k (by omega), if_neg (by omega)])
    refine Or.inl ⟨B, ⟨fun k hk => ?_, fun a j ha => by rw [b2 a j ha, mWI_ne ha]; exact h2 a j ha, b3.trans h3⟩, ?_⟩
    · rw [b1 k hk]
      by_cases q : 18 ≤ k ∧ k < 28 ∧ (uA (k - 18)).2 = i
      · rw [if_pos q, if_pos (Or.inr ⟨q.1, q.2.1, by omega⟩)]
      · rw [if_neg q]
        by_cases e : k = 13 + i
        · subst e; rw [rI rfl, if_pos (by omega)]
        · rw [rN (by omega), h1 k hk]
          by_cases z : (13 ≤ k ∧ k < 13 + i) ∨ (18 ≤ k ∧ k < 28 ∧ (uA (k - 18)).2 < i)
          · rw [if_pos z, if_pos (by omega)]
          · rw [if_neg z, if_neg (by omega)]
    · rw [← b4]
      simp (disch := omega) only [Mo_nightGoes_6, t64, t78, leP, if_neg, li, nI_add, grd_in, clp, t97i, eo, eb, bRs, nxs, e13, enx]
  · rintro f t ⟨h1, h2, h3⟩
    have t64 : t.1 64 18 = nI v := by rw [h2 64 18 (by omega)]; exact hM.2.1
    have t78 : t.1 78 v = nI (gG c) := by rw [h2 78 v (by omega)]; exact hM.2.2.2.2.1
    have hv := hM.1
    refine ⟨t, h1, h2, h3, ?_⟩
    simp (disch := omega) only [Mo_nightGoes_6, t64, t78, leP, if_pos, grd_in, clp]
theorem nightGoes_s {N : Nat} {c : gar} {v : Nat} {m : Option Int32} {R : Nat → Int32} {M : mS} (hN : 1000 ≤ N) (hc : gOk c) (hM : gM c v M) (hr : rM M R) (hR : VR c R) (hm : mdM m M) :
    ∃ B : mS, Mo_nightGoes N M = some B ∧ (∀ g, g < 5 → B.1 97 g = th c m R g) ∧ rM B (nx c m R) ∧ frM M B := by
  obtain ⟨A, eA, a1, a2, a3⟩ := fillsThere_s hN hc hM hr hR hm
  obtain ⟨B, b1, b2, b3, b4⟩ := night_6 hN hc (a2.gM hM) a3 a1
  obtain ⟨hc1, hc2, hc3, hc4, hc5, hc6⟩ := id hc
  have hv := hM.1
  have hMA := a2.gM hM
  have loop : ∃ C : mS, Mo_nightGoes_99 N N 0 B = some C ∧ (∀ k, k < 29 → C.1 96 k = nx c m R k) ∧ (∀ a j, a ≠ 96 → C.1 a j = B.1 a j) ∧ C.2 = B.2 := by
    refine iter (F := fun f i (t : mS) => Mo_nightGoes_99 N f (nI i) t) (n := gD c) (Q := fun r => ∃ C : mS, r = some C ∧ (∀ k, k < 29 → C.1 96 k = nx c m R k) ∧ (∀ a j, a ≠ 96 → C.1 a j = B.1 a j) ∧ C.2 = B.2)
      (fun i t => (∀ k, k < 29 → t.1 96 k = if k < i then nx c m R k else B.1 96 k) ∧ (∀ a j, a ≠ 96 → t.1 a j = B.1 a j) ∧ t.2 = B.2) ?_ ?_ (Nat.zero_le _) (by omega) ⟨fun k hk => (if_neg (Nat.not_lt_zero _)).symm, fun _ _ _ => rfl, rfl⟩
    · rintro f i t hi ⟨h1, h2, h3⟩
      have t64 : t.1 64 18 = nI v := by rw [h2 64 18 (by omega), b2 64 18 (by omega)]; exact hMA.2.1
      have t75 : t.1 75 v = nI (gD c) := by rw [h2 75 v (by omega), b2 75 v (by omega)]; exact hMA.2.2.2.1
      have tH : Mo_hours N t = some (nI (gH c)) := hours_s (gM_fr hMA (fun a j q => by rw [h2 a j (by omega), b2 a j (by omega)]))
      obtain ⟨⟨o, ho, eo⟩, ⟨p, hp, ep⟩⟩ := hR.1 i hi
      have e1 : t.1 96 i = nI o := by rw [h1 i (by omega), if_neg (by omega), b1 i (by omega), if_neg (by omega), eo]
      have e2 : t.1 96 (4 + i) = nI p := by rw [h1 _ (by omega), if_neg (by omega), b1 _ (by omega), if_neg (by omega), ep]
      refine Or.inl ⟨mWI t 96 i (nx c m R i), ⟨fun k hk => ?_, fun a j ha => by rw [mWI_ne ha]; exact h2 a j ha, h3⟩, ?_⟩
      · by_cases e : k = i
        · subst e; rw [rI rfl, if_pos (by omega)]
        · rw [rN (by omega), h1 k hk]
          by_cases z : k < i
          · rw [if_pos z, if_pos (by omega)]
          · rw [if_neg z, if_neg (by omega)]
      · rw [nx_d hi, eo, ep, clp (by omega), clp (by omega)]
        simp (disch := omega) only [Mo_nightGoes_99, t64, t75, leP, if_neg, li, nI_add, grd_in, clp, tH, bRs, nz_n, nxs, e1, e2, rmP]
    · rintro f t ⟨h1, h2, h3⟩
      have t64 : t.1 64 18 = nI v := by rw [h2 64 18 (by omega), b2 64 18 (by omega)]; exact hMA.2.1
      have t75 : t.1 75 v = nI (gD c) := by rw [h2 75 v (by omega), b2 75 v (by omega)]; exact hMA.2.2.2.1
      have e28 : t.1 96 28 = R 28 := by rw [h1 28 (by omega), if_neg (by omega), b1 28 (by omega), if_neg (by omega)]
      refine ⟨mWI t 96 28 (R 28 + 1), ?_, fun k hk => ?_, fun a j ha => by rw [mWI_ne ha]; exact h2 a j ha, h3⟩
      · simp (disch := omega) only [Mo_nightGoes_99, t64, t75, leP, if_pos, grd_in, clp, nxs, e28]
      · by_cases e : k = 28
        · subst e; rw [rI rfl, nx_n hc]
        · rw [rN (by omega), h1 k hk]
          by_cases z : k < gD c
          · rw [if_pos z]
          · rw [if_neg z, b1 k hk]
            by_cases y : (13 ≤ k ∧ k < 13 + gG c) ∨ (18 ≤ k ∧ k < 28 ∧ (uA (k - 18)).2 < gG c)
            · rw [if_pos y]
            · rw [if_neg y]
              unfold nx
              rw [if_neg z, if_neg (by omega), if_neg (by omega), if_neg e]
  obtain ⟨C, eC, c1, c2, c3⟩ := loop
  refine ⟨C, ?_, fun g hg => by rw [c2 97 g (by omega), b2 97 g (by omega)]; exact a1 g hg, c1, a2.trans ⟨fun a j q1 q2 q3 q4 q5 => by rw [c2 a j q3, b2 a j q3], c3.trans b3⟩⟩
  unfold Mo_nightGoes
  rw [eA, bVs, b4, eC]
