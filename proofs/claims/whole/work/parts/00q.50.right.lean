/-! right, agree, round, outIn, metIn, year -/
theorem first_at {p : Nat → Bool} {n i : Nat} (h : ∀ k, k < i → p k = false) (hi : p i = true) (hn : i < n) : fa_first p n = i := by
  rcases Nat.lt_trichotomy (fa_first p n) i with q | q | q
  · have := fa_first_yes p n (by omega)
    rw [h _ q] at this; cases this
  · exact q
  · have := fa_first_no p n i q
    rw [hi] at this; cases this
theorem first_none {p : Nat → Bool} {n : Nat} (h : ∀ k, k < n → p k = false) : fa_first p n = n := by
  have h1 := fa_first_le p n
  by_cases q : fa_first p n < n
  · have := fa_first_yes p n q
    rw [h _ q] at this; cases this
  · omega
def fstA (p : Nat → Bool) (n : Nat) : Int32 := if fa_first p n < n then nI (fa_first p n) else -2
theorem fstA_at {p : Nat → Bool} {n i : Nat} (h : ∀ k, k < i → p k = false) (hi : p i = true) (hn : i < n) : fstA p n = nI i := by
  unfold fstA
  rw [first_at h hi hn, if_pos hn]
theorem fstA_none {p : Nat → Bool} {n : Nat} (h : ∀ k, k < n → p k = false) : fstA p n = -2 := by
  unfold fstA
  rw [first_none h, if_neg (Nat.lt_irrefl _)]
theorem snoc_f {p : Nat → Bool} {i : Nat} (h : ∀ k, k < i → p k = false) (hi : p i = false) : ∀ k, k < i + 1 → p k = false := fun k hk => by
  by_cases e : k = i
  · subst e; exact hi
  · exact h k (by omega)
/-- a dial's out and slip as numbers -/
def oN (R : Nat → Int32) (d : Nat) : Nat := (R d).toNatClampNeg
def pN (R : Nat → Int32) (d : Nat) : Nat := (R (4 + d)).toNatClampNeg
theorem oN_s {c : gar} (hc : gOk c) {R : Nat → Int32} (hR : VR c R) {d : Nat} (hd : d < gD c) : R d = nI (oN R d) ∧ oN R d < gH c ∧ R (4 + d) = nI (pN R d) ∧ pN R d < gH c := by
  obtain ⟨⟨o, ho, eo⟩, ⟨p, hp, ep⟩⟩ := hR.1 d hd
  have h := hc.2.1
  unfold oN pN
  rw [eo, ep, clp (by omega), clp (by omega)]
  exact ⟨rfl, ho, rfl, hp⟩
theorem mulb {i p : Nat} (hi : i ≤ 400) (hp : p < 24) : i * p ≤ 9600 := by
  have := Nat.mul_le_mul hi (show p ≤ 24 by omega)
  omega
theorem behind_s {N : Nat} {c : gar} {R : Nat → Int32} {M : mS} {d i : Nat} (hc : gOk c) (hM : gC c M) (h : rowC c (M.1 34) R) (hd : d < gD c) (hi : i ≤ 400) : Md_outBehind N (nI d) (nI i) M = some (nI ((oN R d + i * pN R d) % gH c)) := by
  obtain ⟨hc1, hc2, hc3, hc4, -⟩ := id hc
  obtain ⟨e1, e2, e3, e4⟩ := oN_s hc h.2.2.1 hd
  have h1 := (h.1.2.1 d hd).1.trans e1
  have h5 := (h.1.2.1 d hd).2.trans e3
  have hb := mulb hi (show pN R d < 24 by omega)
  unfold Md_outBehind
  simp (disch := omega) only [li, nI_add, grd_in, clp, h1, h5, pk_mul, hM.1, rest_s, bRs]
def rightP (c : gar) (R : Nat → Int32) (d : Nat) (i : Nat) : Bool := decide ((oN R d + i * pN R d) % gH c = 0)
def agreeP (c : gar) (R : Nat → Int32) (d e : Nat) (i : Nat) : Bool := decide ((oN R d + i * pN R d) % gH c = (oN R e + i * pN R e) % gH c)
theorem call_right {N : Nat} {M : mS} (hN : 1000 ≤ N) (h : INV M) (x : Int32) : ∃ r, Md_right N x M = some r ∧ Mo_right N x M = some r := by
  obtain ⟨c, v, R, X, hc, hC, hM⟩ := h
  obtain ⟨hc1, hc2, hc3, hc4, hc5, hc6⟩ := id hc
  unfold Md_right Mo_right
  rcases arg_c x (gD c) (by omega) with ⟨d, hd, rfl⟩ | q
  · obtain ⟨e1, e2, e3, e4⟩ := oN_s hc hC.2.1.2.2.1 hd
    refine ⟨fstA (rightP c R d) (gH c), ?_, ?_⟩
    · rw [cDial_y hc hC.1 hd, if_neg (by decide)]
      refine iter (F := fun f i (s : Unit) => Md_right_12 N M f (nI d) (nI i)) (i := 0) (f := N) (s := ()) (n := gH c) (Q := fun r => r = some (fstA (rightP c R d) (gH c))) (fun i s => ∀ k, k < i → rightP c R d k = false) ?_ ?_ (Nat.zero_le _) (by omega) (fun k hk => absurd hk (Nat.not_lt_zero _))
      · rintro f i s hi h1
        have eb := behind_s (N := N) (i := i) hc hC.1 hC.2.1 hd (by omega)
        have hl : (oN R d + i * pN R d) % gH c < gH c := Nat.mod_lt _ (by omega)
        cases z : rightP c R d i
        · refine Or.inl ⟨(), snoc_f h1 z, ?_⟩
          have z := of_decide_eq_false z
          rw [Md_right_12, hC.1.1, if_neg (by rw [leP (by omega) (by omega)]; omega), eb, bRs, if_neg (by rw [li0, eqP (by omega) (by omega)]; exact z), i1, nI_add]
        · refine Or.inr ?_
          rw [fstA_at h1 z hi]
          have z := of_decide_eq_true z
          rw [Md_right_12, hC.1.1, if_neg (by rw [leP (by omega) (by omega)]; omega), eb, bRs, if_pos (by rw [z]; rfl)]
      · rintro f s h1
        rw [fstA_none h1, Md_right_12, hC.1.1, if_pos (by rw [leP (by omega) (by omega)]; omega)]
    · rw [oDial_y hc hM.1 hd, bRs, if_neg (by decide)]
      have m1 : M.1 95 d = nI (oN R d) := (hM.2.1 d (by omega)).trans e1
      have m2 : M.1 95 (4 + d) = nI (pN R d) := (hM.2.1 _ (by omega)).trans e3
      have hh := hours_s (N := N) hM.1
      refine iter (F := fun f i (s : Unit) => Mo_right_12 N M f (nI d) (nI i)) (i := 0) (f := N) (s := ()) (n := gH c) (Q := fun r => r = some (fstA (rightP c R d) (gH c))) (fun i s => ∀ k, k < i → rightP c R d k = false) ?_ ?_ (Nat.zero_le _) (by omega) (fun k hk => absurd hk (Nat.not_lt_zero _))
      · rintro f i s hi h1
        have hl : (oN R d + i * pN R d) % gH c < gH c := Nat.mod_lt _ (by omega)
        have hb := mulb (i := i) (by omega) (show pN R d < 24 by omega)
        have key : Mo_right_12 N M (f + 1) (nI d) (nI i) = if (oN R d + i * pN R d) % gH c = 0 then some (nI i) else Mo_right_12 N M f (nI d) (nI (i + 1)) := by
          simp (disch := omega) only [Mo_right_12, hh, bRs, leP, if_neg, li, nI_add, grd_in, clp, m1, m2, pk_mul, nz_n, rmP, eqP]
        cases z : rightP c R d i
        · refine Or.inl ⟨(), snoc_f h1 z, ?_⟩
          rw [key, if_neg (of_decide_eq_false z)]
        · refine Or.inr ?_
          rw [fstA_at h1 z hi, key, if_pos (of_decide_eq_true z)]
      · rintro f s h1
        rw [fstA_none h1, Mo_right_12, hh, bRs, if_pos (by rw [leP (by omega) (by omega)]; omega)]
  · refine ⟨-1, ?_, ?_⟩
    · rw [cDial_n hC.1 q, if_pos (by decide)]
    · rw [oDial_n hc hM.1 q, bRs, if_pos (by decide)]
theorem call_agree {N : Nat} {M : mS} (hN : 1000 ≤ N) (h : INV M) (x y : Int32) : ∃ r, Md_agree N x y M = some r ∧ Mo_agree N x y M = some r := by
  obtain ⟨c, v, R, X, hc, hC, hM⟩ := h
  obtain ⟨hc1, hc2, hc3, hc4, hc5, hc6⟩ := id hc
  unfold Md_agree Mo_agree
  rcases arg_c x (gD c) (by omega) with ⟨d, hd, rfl⟩ | q
  · rcases arg_c y (gD c) (by omega) with ⟨e, he, rfl⟩ | q
    · obtain ⟨e1, e2, e3, e4⟩ := oN_s hc hC.2.1.2.2.1 hd
      obtain ⟨d1, d2, d3, d4⟩ := oN_s hc hC.2.1.2.2.1 he
      refine ⟨fstA (agreeP c R d e) (gH c), ?_, ?_⟩
      · rw [cDial_y hc hC.1 hd, if_neg (by decide), cDial_y hc hC.1 he, if_neg (by decide)]
        refine iter (F := fun f i (s : Unit) => Md_agree_20 N M f (nI d) (nI e) (nI i)) (i := 0) (f := N) (s := ()) (n := gH c) (Q := fun r => r = some (fstA (agreeP c R d e) (gH c))) (fun i s => ∀ k, k < i → agreeP c R d e k = false) ?_ ?_ (Nat.zero_le _) (by omega) (fun k hk => absurd hk (Nat.not_lt_zero _))
        · rintro f i s hi h1
          have eb := behind_s (N := N) (i := i) hc hC.1 hC.2.1 hd (by omega)
          have eb2 := behind_s (N := N) (i := i) hc hC.1 hC.2.1 he (by omega)
          have hl : (oN R d + i * pN R d) % gH c < gH c := Nat.mod_lt _ (by omega)
          have hl2 : (oN R e + i * pN R e) % gH c < gH c := Nat.mod_lt _ (by omega)
          cases z : agreeP c R d e i
          · refine Or.inl ⟨(), snoc_f h1 z, ?_⟩
            have z := of_decide_eq_false z
            rw [Md_agree_20, hC.1.1, if_neg (by rw [leP (by omega) (by omega)]; omega), eb, bRs, eb2, bRs, if_neg (by rw [eqP (by omega) (by omega)]; exact z), i1, nI_add]
          · refine Or.inr ?_
            rw [fstA_at h1 z hi]
            have z := of_decide_eq_true z
            rw [Md_agree_20, hC.1.1, if_neg (by rw [leP (by omega) (by omega)]; omega), eb, bRs, eb2, bRs, if_pos (by rw [z])]
        · rintro f s h1
          rw [fstA_none h1, Md_agree_20, hC.1.1, if_pos (by rw [leP (by omega) (by omega)]; omega)]
      · rw [oDial_y hc hM.1 hd, bRs, if_neg (by decide), oDial_y hc hM.1 he, bRs, if_neg (by decide)]
        have m1 : M.1 95 d = nI (oN R d) := (hM.2.1 d (by omega)).trans e1
        have m2 : M.1 95 (4 + d) = nI (pN R d) := (hM.2.1 _ (by omega)).trans e3
        have m3 : M.1 95 e = nI (oN R e) := (hM.2.1 e (by omega)).trans d1
        have m4 : M.1 95 (4 + e) = nI (pN R e) := (hM.2.1 _ (by omega)).trans d3
        have hh := hours_s (N := N) hM.1
        refine iter (F := fun f i (s : Unit) => Mo_agree_20 N M f (nI d) (nI e) (nI i)) (i := 0) (f := N) (s := ()) (n := gH c) (Q := fun r => r = some (fstA (agreeP c R d e) (gH c))) (fun i s => ∀ k, k < i → agreeP c R d e k = false) ?_ ?_ (Nat.zero_le _) (by omega) (fun k hk => absurd hk (Nat.not_lt_zero _))
        · rintro f i s hi h1
          have hl : (oN R d + i * pN R d) % gH c < gH c := Nat.mod_lt _ (by omega)
          have hl2 : (oN R e + i * pN R e) % gH c < gH c := Nat.mod_lt _ (by omega)
          have hb := mulb (i := i) (by omega) (show pN R d < 24 by omega)
          have hb2 := mulb (i := i) (by omega) (show pN R e < 24 by omega)
          have key : Mo_agree_20 N M (f + 1) (nI d) (nI e) (nI i) = if (oN R d + i * pN R d) % gH c = (oN R e + i * pN R e) % gH c then some (nI i) else Mo_agree_20 N M f (nI d) (nI e) (nI (i + 1)) := by
            simp (disch := omega) only [Mo_agree_20, hh, bRs, leP, if_neg, li, nI_add, grd_in, clp, m1, m2, m3, m4, pk_mul, nz_n, rmP, eqP]
          cases z : agreeP c R d e i
          · refine Or.inl ⟨(), snoc_f h1 z, ?_⟩
            rw [key, if_neg (of_decide_eq_false z)]
          · refine Or.inr ?_
            rw [fstA_at h1 z hi, key, if_pos (of_decide_eq_true z)]
        · rintro f s h1
          rw [fstA_none h1, Mo_agree_20, hh, bRs, if_pos (by rw [leP (by omega) (by omega)]; omega)]
    · refine ⟨-1, ?_, ?_⟩
      · rw [cDial_y hc hC.1 hd, if_neg (by decide), cDial_n hC.1 q, if_pos (by decide)]
      · rw [oDial_y hc hM.1 hd, bRs, if_neg (by decide), oDial_n hc hM.1 q, bRs, if_pos (by decide)]
  · refine ⟨-1, ?_, ?_⟩
    · rw [cDial_n hC.1 q, if_pos (by decide)]
    · rw [oDial_n hc hM.1 q, bRs, if_pos (by decide)]
/-! round -/
def allP (c : gar) (R : Nat → Int32) (n : Nat) : Nat → Bool
  | 0 => true
  | d + 1 => allP c R n d && decide (n * pN R d % gH c = 0)
theorem allP_t {c : gar} {R : Nat → Int32} {n : Nat} : ∀ {d : Nat}, allP c R n d = true ↔ ∀ e, e < d → n * pN R e % gH c = 0
  | 0 => ⟨fun _ e he => absurd he (Nat.not_lt_zero _), fun _ => rfl⟩
  | d + 1 => by
    unfold allP
    rw [Bool.and_eq_true, allP_t, decide_eq_true_eq]
    constructor
    · rintro ⟨h1, h2⟩ e he
      by_cases q : e = d
      · subst q; exact h2
      · exact h1 e (by omega)
    · exact fun h => ⟨fun e he => h e (by omega), h d (by omega)⟩
def rndN (c : gar) (R : Nat → Int32) : Nat := fa_first (fun k => allP c R (k + 1) (gD c)) (gH c - 1) + 1
theorem same_o {o a H : Nat} (ho : o < H) : (o + a) % H = o ↔ a % H = 0 := by
  have hH : 0 < H := by omega
  have h1 : (o + a) % H = (o + a % H) % H := by rw [Nat.add_mod, Nat.mod_eq_of_lt ho]
  have h2 := Nat.mod_lt a hH
  rw [h1]
  generalize a % H = b at *
  by_cases q : o + b < H
  · rw [Nat.mod_eq_of_lt q]; omega
  · rw [Nat.mod_eq_sub_mod (by omega), Nat.mod_eq_of_lt (by omega)]; omega
theorem call_round {N : Nat} {M : mS} (hN : 1000 ≤ N) (h : INV M) : ∃ r, Md_round N M = some r ∧ Mo_round N M = some r := by
  obtain ⟨c, v, R, X, hc, hC, hM⟩ := h
  obtain ⟨hc1, hc2, hc3, hc4, hc5, hc6⟩ := id hc
  have dl : ∀ d, d < gD c → R d = nI (oN R d) ∧ oN R d < gH c ∧ R (4 + d) = nI (pN R d) ∧ pN R d < gH c := fun d hd => oN_s hc hC.2.1.2.2.1 hd
  refine ⟨nI (rndN c R), ?_, ?_⟩
  · have all : ∀ n, n ≤ 400 → Md_allOutAsNow N (nI n) M = some (if allP c R n (gD c) = true then 1 else 0) := by
      intro n hn
      unfold Md_allOutAsNow
      refine iter (F := fun f i (s : Unit) => Md_allOutAsNow_2 N M f (nI n) (nI i)) (i := 0) (f := N) (s := ()) (n := gD c) (Q := fun r => r = some (if allP c R n (gD c) = true then 1 else 0)) (fun i s => allP c R n i = true) ?_ ?_ (Nat.zero_le _) (by omega) rfl
      · rintro f i s hi h1
        obtain ⟨e1, e2, e3, e4⟩ := dl i hi
        have eb := behind_s (N := N) (i := n) hc hC.1 hC.2.1 hi hn
        have hl : (oN R i + n * pN R i) % gH c < gH c := Nat.mod_lt _ (by omega)
        have e34 : M.1 34 (1 + i) = nI (oN R i) := (hC.2.1.1.2.1 i hi).1.trans e1
        have key : Md_allOutAsNow_2 N M (f + 1) (nI n) (nI i) = if (oN R i + n * pN R i) % gH c = oN R i then Md_allOutAsNow_2 N M f (nI n) (nI (i + 1)) else some 0 := by
          rw [Md_allOutAsNow_2, hC.1.2.1, if_neg (by rw [leP (by omega) (by omega)]; omega), eb, bRs, i1, nI_add, nI_add, grd_in (by omega) (by omega), clp (by omega), e34]
          by_cases z : (oN R i + n * pN R i) % gH c = oN R i
          · rw [if_pos z, if_pos (by rw [z])]
          · rw [if_neg z, if_neg (by rw [eqP (by omega) (by omega)]; exact z)]
        by_cases z : n * pN R i % gH c = 0
        · refine Or.inl ⟨(), ?_, ?_⟩
          · show (allP c R n i && decide (n * pN R i % gH c = 0)) = true
            rw [h1, decide_eq_true z]; rfl
          · rw [key, if_pos ((same_o e2).mpr z)]
        · refine Or.inr ?_
          rw [key, if_neg (fun q => z ((same_o e2).mp q)), if_neg (fun q => z (allP_t.mp q i hi))]
      · rintro f s h1
        rw [Md_allOutAsNow_2, hC.1.2.1, if_pos (by rw [leP (by omega) (by omega)]; omega), if_pos h1]
    unfold Md_round
    refine iter (F := fun f i (s : Unit) => Md_round_2 N M f (nI (i + 1))) (i := 0) (f := N) (s := ()) (n := gH c - 1) (Q := fun r => r = some (nI (rndN c R))) (fun i s => ∀ k, k < i → (fun k => allP c R (k + 1) (gD c)) k = false) ?_ ?_ (Nat.zero_le _) (by omega) (fun k hk => absurd hk (Nat.not_lt_zero _))
    · rintro f i s hi h1
      cases z : allP c R (i + 1) (gD c)
      · refine Or.inl ⟨(), snoc_f h1 z, ?_⟩
        rw [Md_round_2, hC.1.1, if_neg (by rw [leP (by omega) (by omega)]; omega), all _ (by omega), bRs, z, if_pos (by decide), i1, nI_add]
      · refine Or.inr ?_
        unfold rndN
        rw [first_at h1 z hi, Md_round_2, hC.1.1, if_neg (by rw [leP (by omega) (by omega)]; omega), all _ (by omega), bRs, z, if_neg (by decide)]
    · rintro f s h1
      unfold rndN
      rw [first_none h1, Md_round_2, hC.1.1, show gH c - 1 + 1 = gH c by omega, if_pos (by rw [leP (by omega) (by omega)]; omega)]
  · unfold Mo_round
    have hv := hM.1.1
    have m64 := hM.1.2.1
    have m75 := hM.1.2.2.2.1
    have hh := hours_s (N := N) hM.1
    have topH : allP c R (gH c) (gD c) = true := allP_t.mpr (fun e he => Nat.mul_mod_right _ _)
    refine iterm (F := fun f (s : Nat × Nat) => Mo_round_4 N M f (nI s.1) (nI s.2)) (f := N) (s := (1, 0)) (Q := fun r => r = some (nI (rndN c R))) (fun s => 1 ≤ s.1 ∧ s.1 ≤ gH c ∧ s.2 ≤ gD c ∧ (∀ k, k < s.1 - 1 → (fun k => allP c R (k + 1) (gD c)) k = false) ∧ allP c R s.1 s.2 = true) (fun s => (gH c - s.1) * 5 + (gD c - s.2)) ?_ (by dsimp only; omega) ⟨Nat.le_refl _, by dsimp only; omega, Nat.zero_le _, fun k hk => absurd hk (by dsimp only; omega), rfl⟩
    rintro f ⟨n, d⟩ ⟨h1, h2, h3, h4, h5⟩
    dsimp only at h1 h2 h3 h4 h5 ⊢
    by_cases e : d = gD c
    · subst e
      refine Or.inr ?_
      have er : rndN c R = n := by
        unfold rndN
        by_cases q : n - 1 < gH c - 1
        · rw [first_at h4 (by show allP c R (n - 1 + 1) (gD c) = true; rw [show n - 1 + 1 = n by omega]; exact h5) q]; omega
        · rw [show n - 1 = gH c - 1 by omega] at h4
          rw [first_none h4]; omega
      rw [er]
      simp (disch := omega) only [Mo_round_4, m64, m75, grd_in, clp, leP, if_pos]
    · have hd : d < gD c := by omega
      obtain ⟨e1, e2, e3, e4⟩ := dl d hd
      have m2 : M.1 95 (4 + d) = nI (pN R d) := (hM.2.1 _ (by omega)).trans e3
      have hb := mulb (i := n) (by omega) (show pN R d < 24 by omega)
      have hl : (n * pN R d) % gH c < gH c := Nat.mod_lt _ (by omega)
      have key : Mo_round_4 N M (f + 1) (nI n) (nI d) = if n * pN R d % gH c = 0 then Mo_round_4 N M f (nI n) (nI (d + 1)) else Mo_round_4 N M f (nI (n + 1)) (nI 0) := by
        simp (disch := omega) only [Mo_round_4, m64, m75, grd_in, clp, leP, if_neg, hh, bRs, li, nI_add, m2, pk_mul, nz_n, rmP, eqP, Mo_round_40, Mo_round_48, Mo_round_59, if_pos, if_true]
      by_cases z : n * pN R d % gH c = 0
      · refine Or.inl ⟨(n, d + 1), ⟨h1, h2, by omega, h4, ?_⟩, by dsimp only; omega, ?_⟩
        · show (allP c R n d && decide (n * pN R d % gH c = 0)) = true
          rw [h5, decide_eq_true z]; rfl
        · rw [key, if_pos z]
      · have hnH : n ≠ gH c := by
          rintro rfl
          exact z (allP_t.mp topH d hd)
        have an : allP c R (n - 1 + 1) (gD c) = false := by
          rw [show n - 1 + 1 = n by omega]
          exact Bool.eq_false_iff.mpr (fun q => z (allP_t.mp q d hd))
        refine Or.inl ⟨(n + 1, 0), ⟨by omega, by dsimp only; omega, Nat.zero_le _, ?_, rfl⟩, by dsimp only; omega, ?_⟩
        · have := snoc_f h4 an
          rw [show n - 1 + 1 = n by omega] at this
          exact this
        · rw [key, if_neg z]
