/-! couples -/
theorem lev5 {N G : Nat} {w : Nat → Nat → Nat} (hG : G ≤ 5) : CLM G w 5 (Tl_pairFrom_s5 N) := by
  intro M p S s h8 h47 h49 hS hb hs
  have h := leaf_s (w := w) (M := M) hG (Nat.le_refl 5) h49 hS hb hs
  unfold Tl_pairFrom_s5
  split <;> exact h
theorem lev4 {N G : Nat} {w : Nat → Nat → Nat} (hN : 1000 ≤ N) (hG : G ≤ 5) (hw : ∀ a b, w a b ≤ 10000) : CLM G w 4 (Tl_pairFrom_s4 N) := level_s (L := Tl_pairFrom_s4_68 N) hN hG (by omega) hw (lev5 (N := N) hG) (fun n x2 x3 M => rfl) (fun a0 M => rfl)
theorem lev3 {N G : Nat} {w : Nat → Nat → Nat} (hN : 1000 ≤ N) (hG : G ≤ 5) (hw : ∀ a b, w a b ≤ 10000) : CLM G w 3 (Tl_pairFrom_s3 N) := level_s (L := Tl_pairFrom_s3_68 N) hN hG (by omega) hw (lev4 hN hG hw) (fun n x2 x3 M => rfl) (fun a0 M => rfl)
theorem lev2 {N G : Nat} {w : Nat → Nat → Nat} (hN : 1000 ≤ N) (hG : G ≤ 5) (hw : ∀ a b, w a b ≤ 10000) : CLM G w 2 (Tl_pairFrom_s2 N) := level_s (L := Tl_pairFrom_s2_68 N) hN hG (by omega) hw (lev3 hN hG hw) (fun n x2 x3 M => rfl) (fun a0 M => rfl)
theorem lev1 {N G : Nat} {w : Nat → Nat → Nat} (hN : 1000 ≤ N) (hG : G ≤ 5) (hw : ∀ a b, w a b ≤ 10000) : CLM G w 1 (Tl_pairFrom_s1 N) := level_s (L := Tl_pairFrom_s1_68 N) hN hG (by omega) hw (lev2 hN hG hw) (fun n x2 x3 M => rfl) (fun a0 M => rfl)
theorem lev0 {N G : Nat} {w : Nat → Nat → Nat} (hN : 1000 ≤ N) (hG : G ≤ 5) (hw : ∀ a b, w a b ≤ 10000) : CLM G w 0 (Tl_pairFrom N) := level_s (L := Tl_pairFrom_68 N) hN hG (by omega) hw (lev1 hN hG hw) (fun n x2 x3 M => rfl) (fun a0 M => rfl)
theorem ofN_b {c : gar} (hc : gOk c) {R : Nat → Int32} {n : Nat} (hn : n ≤ 400) (a b : Nat) : ofN c R n a b ≤ 10000 := by
  have := ofN_le hc (R := R) (n := n) (a := a) (b := b); omega
theorem bestCouples_s {N : Nat} {c : gar} {R : Nat → Int32} {M : mS} {n : Nat} (hN : 1000 ≤ N) (hn : n ≤ 400) (hc : gOk c) (h : WK c M R) : ∃ A, Tl_bestCouples N (nI n) M = some (nI (cbN (ofN c R n) (2 ^ gG c - 1)), A) ∧ (∀ i, i < gG c → A.1 46 i = mtN (ofN c R n) (2 ^ gG c - 1) i) ∧ frQ M A := by
  obtain ⟨hc1, hc2, hc3, hc4, hc5, hc6⟩ := id hc
  have hp := pow5 hc4
  obtain ⟨A, eA, a1, fA⟩ := addShared_s (N := N) (n := n) hN hn hc h
  have hCA := fA.gC h.1
  have hw := ofN_b hc (R := R) hn
  unfold Tl_bestCouples
  rw [eA, bVs, nxs]
  refine iter (F := fun f i (t : mS) => Tl_bestCouples_12 N f (nI i) t) (i := 0) (f := N) (s := mWI A 45 0 (-1)) (n := 5) (Q := fun r => ∃ A, r = some (nI (cbN (ofN c R n) (2 ^ gG c - 1)), A) ∧ (∀ i, i < gG c → A.1 46 i = mtN (ofN c R n) (2 ^ gG c - 1) i) ∧ frQ M A) (fun i t => (∀ j, j < i → t.1 49 j = -2) ∧ t.1 45 0 = -1 ∧ (∀ a j, a ≠ 45 → a ≠ 49 → t.1 a j = A.1 a j) ∧ t.2 = A.2) ?_ ?_ (Nat.zero_le _) (by omega) ⟨fun j hj => absurd hj (Nat.not_lt_zero _), rI rfl, fun a j q1 q2 => by rw [mWI_ne q1], rfl⟩
  · rintro f i t hi ⟨t1, t2, t3, t4⟩
    refine Or.inl ⟨mWI t 49 i (-2), ⟨fun j hj => ?_, by rw [mWI_ne (by omega)]; exact t2, fun a j q1 q2 => by rw [mWI_ne q2]; exact t3 a j q1 q2, t4⟩, ?_⟩
    · by_cases e : j = i
      · rw [rI e]
      · rw [rN (by omega)]; exact t1 j (by omega)
    · rw [Tl_bestCouples_12, if_neg (by rw [show (5 : Int32) = nI 5 from rfl, leP (by omega) (by omega)]; omega), grd_in (by omega) (by omega), clp (by omega), nxs, show nI i + 1 = nI (i + 1) from nI_add i 1]
  · rintro f t ⟨t1, t2, t3, t4⟩
    obtain ⟨D, eD, d1, d2, d3, d4⟩ := lev0 (N := N) hN hc4 hw t (fun _ => -2) (2 ^ gG c - 1) 0 ((t3 _ _ (by omega) (by omega)).trans hCA.2.2.1) (fun a b q1 q2 => (t3 _ _ (by omega) (by omega)).trans (a1 a b q1 q2)) t1 (by omega) (fun o => by
      rw [Nat.testBit_two_pow_sub_one, decide_eq_true_eq]
      exact ⟨fun q => ⟨Nat.zero_le _, q, rfl⟩, fun q => q.2.1⟩) (by omega)
    rw [Nat.zero_add] at d4
    have hl := cbN_le hw (2 ^ gG c - 1) (by omega)
    have h2 : 10000 * (2 ^ gG c - 1) ≤ 10000 * 32 := Nat.mul_le_mul_left _ (by omega)
    have imp : t.1 45 0 < nI (cbN (ofN c R n) (2 ^ gG c - 1)) := by rw [t2]; exact ge_m1 (by omega)
    rcases d4 with ⟨-, q2, q3⟩ | ⟨q1, -, -⟩
    · refine ⟨D, ?_, fun i hi => ?_, fA.trans ⟨fun a j z1 z2 z3 => by rw [d2 a j (by omega) (by omega) (by omega)]; exact t3 a j (by omega) (by omega), d3.trans t4⟩⟩
      · rw [Tl_bestCouples_12, if_pos (by decide), li0, eD, bVs, q2]
      · rw [q3 i (by omega)]
        exact if_pos (full_bit hi)
    · exact absurd imp q1
/-! the model -/
theorem low5 {N : Nat} {M : mS} {S : Nat} (hN : 1000 ≤ N) (hS : S < 32) (h0 : S ≠ 0) : Mo_lowestOf N (nI S) M = some (nI (lowN S)) := by
  obtain ⟨t, m, e⟩ := odd_part (n := S) (by omega)
  have ht : t < 5 := by
    apply Classical.byContradiction
    intro q
    have h1 : 2 ^ 5 ≤ 2 ^ t := Nat.pow_le_pow_right (by omega) (by omega)
    have h2 := Nat.mul_le_mul h1 (show 1 ≤ 2 * m + 1 by omega)
    omega
  have hm : m < 16 := by
    have := Nat.mul_le_mul (Nat.two_pow_pos t) (Nat.le_refl (2 * m + 1))
    omega
  have e2 := low_o t ht m hm (by omega)
  rw [e, e2]
  exact lowestOf_s hN (by omega)
def CBF (c : gar) (w : Nat → Nat → Nat) (n : Nat) (B : mS) : Prop := B.1 64 58 = nI n ∧ ∀ T, T < 2 ^ gG c → B.1 101 T = nI (cbN w T)
theorem couplesWith_s {N : Nat} {c : gar} {n : Nat} {R : Nat → Int32} {B : mS} {a b S : Nat} (hN : 1000 ≤ N) (hn : n ≤ 400) (hc : gOk c) (hF : FILL c R n B) (h58 : B.1 64 58 = nI n) (ha : a < gG c) (hb : b < gG c) (hS : S < 32) (hv : B.1 101 (rm (rm S a) b) = nI (cbN (ofN c R n) (rm (rm S a) b))) : Mo_couplesWith N (nI a) (nI b) (nI S) B = some (nI (ofN c R n a b + cbN (ofN c R n) (rm (rm S a) b))) := by
  obtain ⟨hc1, hc2, hc3, hc4, hc5, hc6⟩ := id hc
  have k1 := rm_k S hS a (by omega)
  have k2 := rm_k (rm S a) k1.1 b (by omega)
  unfold Mo_couplesWith
  rw [h58, oftenBy_s hN (Nat.le_refl n) hn hc hF ha hb, bRs, ofI_s hc, shlg (by omega), shlg (by omega), rm_s hS (by omega), rm_s k1.1 (by omega), grd_in k2.1 (by omega), clp (by omega), hv, nI_add]
theorem fillsCouples_s {N : Nat} {c : gar} {v n : Nat} {R : Nat → Int32} {X : aux} {M : mS} (hN : 1000 ≤ N) (hn : n ≤ 400) (hc : gOk c) (hM : MI c v R X M) (hR : VR c R) : ∃ B, Mo_fillsCouples N (nI n) M = some B ∧ FILL c R n B ∧ CBF c (ofN c R n) n B ∧ gM c v B ∧ frP M B := by
  obtain ⟨hc1, hc2, hc3, hc4, hc5, hc6⟩ := id hc
  have hp := pow5 hc4
  have hp0 := Nat.two_pow_pos (gG c)
  have hw := ofN_b hc (R := R) hn
  have cbl : ∀ T, T < 32 → cbN (ofN c R n) T ≤ 320000 := fun T hT => by
    have := cbN_le hw T hT
    have h2 : 10000 * T ≤ 10000 * 32 := Nat.mul_le_mul_left _ (by omega)
    omega
  obtain ⟨A, eA, a1, a2, a3⟩ := fillsStill_s (N := N) (n := n) hN hn hc hM.1 hM.2.1 hR
  let A1 : mS := mWI (mWI A 64 58 (nI n)) 101 0 0
  have fr1 : ∀ a j, a ≠ 101 → (a ≠ 64 ∨ j ≠ 58) → A1.1 a j = A.1 a j := fun a j q1 q2 => by show (mWI _ 101 0 0).1 a j = _; rw [mWI_ne q1, rN q2]
  have a58 : A1.1 64 58 = nI n := by show (mWI _ 101 0 0).1 64 58 = _; rw [mWI_ne (by omega), rI rfl]
  have fP1 : frP M A1 := a3.trans ⟨fun a j q1 q2 q3 q4 q5 q6 q7 q8 q9 q10 q11 => fr1 a j q7 (by omega), rfl⟩
  unfold Mo_fillsCouples
  rw [eA, bVs, nxs, nxs]
  refine iter (F := fun f i (t : mS) => Mo_fillsCouples_19 N f (nI (i + 1)) t) (i := 0) (f := N) (s := A1) (n := 2 ^ gG c - 1) (Q := fun r => ∃ B, r = some B ∧ FILL c R n B ∧ CBF c (ofN c R n) n B ∧ gM c v B ∧ frP M B) (fun i t => (∀ T, T < i + 1 → t.1 101 T = nI (cbN (ofN c R n) T)) ∧ (∀ a j, a ≠ 101 → t.1 a j = A1.1 a j) ∧ t.2 = A1.2) ?_ ?_ (Nat.zero_le _) (by omega) ⟨fun T hT => ?_, fun _ _ _ => rfl, rfl⟩
  · rintro f i t hi ⟨t1, t2, t3⟩
    have fP : frP M t := fP1.trans ⟨fun a j q1 q2 q3 q4 q5 q6 q7 q8 q9 q10 q11 => t2 a j q7, t3⟩
    have gt : gM c v t := fP.gM hM.1
    obtain ⟨g0, g1, g2, g3, g4, -⟩ := id gt
    have ft : FILL c R n t := fun k hk g hg => by
      rw [t2 99 _ (by omega), t2 100 _ (by omega), fr1 99 _ (by omega) (by omega), fr1 100 _ (by omega) (by omega)]; exact a1 k hk g hg
    have h58 : t.1 64 58 = nI n := (t2 _ _ (by omega)).trans a58
    have hS : i + 1 < 32 := by omega
    obtain ⟨l1, l2, l3⟩ := low_k (i + 1) hS (by omega)
    have k1 := rm_k (i + 1) hS _ l1
    have k2 := k1.2.2.1 l2
    have hSG : ∀ o, gG c ≤ o → (i + 1).testBit o = false := fun o ho => by
      apply Nat.testBit_lt_two_pow
      have : 2 ^ gG c ≤ 2 ^ o := Nat.pow_le_pow_right (by omega) ho
      omega
    have hlG : lowN (i + 1) < gG c := by
      apply Classical.byContradiction
      intro q
      rw [hSG _ (by omega)] at l2; cases l2
    have inner : ∃ B : mS, ((∀ T, T < i + 1 → B.1 101 T = nI (cbN (ofN c R n) T)) ∧ B.1 101 (i + 1) = nI (cbN (ofN c R n) (i + 1)) ∧ (∀ a j, a ≠ 101 → B.1 a j = A1.1 a j) ∧ B.2 = A1.2) ∧ Mo_fillsCouples_62 N (Mo_fillsCouples_19 N f) N (nI (i + 1)) (nI (lowN (i + 1))) (nI (lowN (i + 1) + 1)) (mWI t 101 (i + 1) (nI (cbN (ofN c R n) (rm (i + 1) (lowN (i + 1)))))) = Mo_fillsCouples_19 N f (nI (i + 1 + 1)) B := by
      refine iter (F := fun u j (y : mS) => Mo_fillsCouples_62 N (Mo_fillsCouples_19 N f) u (nI (i + 1)) (nI (lowN (i + 1))) (nI j) y) (i := lowN (i + 1) + 1) (f := N) (s := mWI t 101 (i + 1) (nI (cbN (ofN c R n) (rm (i + 1) (lowN (i + 1)))))) (n := 5) (Q := fun r => ∃ B : mS, ((∀ T, T < i + 1 → B.1 101 T = nI (cbN (ofN c R n) T)) ∧ B.1 101 (i + 1) = nI (cbN (ofN c R n) (i + 1)) ∧ (∀ a j, a ≠ 101 → B.1 a j = A1.1 a j) ∧ B.2 = A1.2) ∧ r = Mo_fillsCouples_19 N f (nI (i + 1 + 1)) B) (fun j y => lowN (i + 1) + 1 ≤ j ∧ (∀ T, T < i + 1 → y.1 101 T = nI (cbN (ofN c R n) T)) ∧ y.1 101 (i + 1) = nI (pmx (ofN c R n) (cbN (ofN c R n)) (i + 1) (lowN (i + 1)) j) ∧ (∀ a j, a ≠ 101 → y.1 a j = A1.1 a j) ∧ y.2 = A1.2) ?_ ?_ (by omega) (by omega) ⟨Nat.le_refl _, fun T hT => by rw [rN (by omega)]; exact t1 T hT, ?_, fun a j ha => by rw [mWI_ne ha]; exact t2 a j ha, t3⟩
      · rintro u j y hj ⟨y0, y1, y2, y3, y4⟩
        have pml := pmx_le (F := cbN (ofN c R n)) (S := i + 1) (a := lowN (i + 1)) (B := 320000) hw (fun T hT => cbl T (by omega)) j
        have kk := rm_k (rm (i + 1) (lowN (i + 1))) k1.1 j hj
        have bb : nI (i + 1) >>> (nI j &&& 31) &&& 1 = nI ((i + 1) / 2 ^ j % 2) := sar1 (by omega) (by omega)
        have hm : (i + 1) / 2 ^ j % 2 < 2 := Nat.mod_lt _ (by omega)
        have k5 : ¬ (5 : Int32) ≤ nI j := by rw [show (5 : Int32) = nI 5 from rfl, leP (by omega) (by omega)]; omega
        by_cases z : (i + 1).testBit j = true
        · have hjG : j < gG c := by
            apply Classical.byContradiction
            intro q
            rw [hSG _ (by omega)] at z; cases z
          have fy : FILL c R n y := fun k hk g hg => by
            rw [y3 99 _ (by omega), y3 100 _ (by omega), fr1 99 _ (by omega) (by omega), fr1 100 _ (by omega) (by omega)]; exact a1 k hk g hg
          have ew := couplesWith_s (N := N) (B := y) (a := lowN (i + 1)) (b := j) (S := i + 1) hN hn hc fy ((y3 _ _ (by omega)).trans a58) hlG hjG hS (y1 _ (by omega))
          have cb2 := cbl (rm (rm (i + 1) (lowN (i + 1))) j) (by omega)
          have hwl := hw (lowN (i + 1)) j
          have key : Mo_fillsCouples_62 N (Mo_fillsCouples_19 N f) (u + 1) (nI (i + 1)) (nI (lowN (i + 1))) (nI j) y = if nI (ofN c R n (lowN (i + 1)) j + cbN (ofN c R n) (rm (rm (i + 1) (lowN (i + 1))) j)) ≤ nI (pmx (ofN c R n) (cbN (ofN c R n)) (i + 1) (lowN (i + 1)) j) then Mo_fillsCouples_62 N (Mo_fillsCouples_19 N f) u (nI (i + 1)) (nI (lowN (i + 1))) (nI (j + 1)) y else Mo_fillsCouples_62 N (Mo_fillsCouples_19 N f) u (nI (i + 1)) (nI (lowN (i + 1))) (nI (j + 1)) (mWI y 101 (i + 1) (nI (ofN c R n (lowN (i + 1)) j + cbN (ofN c R n) (rm (rm (i + 1) (lowN (i + 1))) j)))) := by
            rw [Mo_fillsCouples_62, if_neg k5, bb, bit_t.mp z, if_pos (by decide), ew, bRs, grd_in (by omega) (by omega), clp (by omega), y2, bRs, grd_in (by omega) (by omega), nxs]
            unfold Mo_fillsCouples_109
            rw [show nI j + 1 = nI (j + 1) from nI_add j 1]
          by_cases z2 : pmx (ofN c R n) (cbN (ofN c R n)) (i + 1) (lowN (i + 1)) j < ofN c R n (lowN (i + 1)) j + cbN (ofN c R n) (rm (rm (i + 1) (lowN (i + 1))) j)
          · rw [if_neg (by rw [leP (by omega) (by omega)]; omega)] at key
            refine Or.inl ⟨mWI y 101 (i + 1) (nI (ofN c R n (lowN (i + 1)) j + cbN (ofN c R n) (rm (rm (i + 1) (lowN (i + 1))) j))), ⟨by omega, fun T hT => ?_, ?_, fun a j ha => ?_, y4⟩, key⟩
            · rw [rN (by omega)]; exact y1 T hT
            · rw [rI rfl, pmx_s, if_pos ⟨by omega, z, z2⟩]
            · rw [mWI_ne ha]; exact y3 a j ha
          · rw [if_pos (by rw [leP (by omega) (by omega)]; omega)] at key
            refine Or.inl ⟨y, ⟨by omega, y1, ?_, y3, y4⟩, key⟩
            rw [y2, pmx_s, if_neg (fun q => z2 q.2.2)]
        · refine Or.inl ⟨y, ⟨by omega, y1, ?_, y3, y4⟩, ?_⟩
          · rw [y2, pmx_s, if_neg (fun q => z q.2.1)]
          · have z3 : (i + 1) / 2 ^ j % 2 = 0 := bit_e.mp (Bool.eq_false_iff.mpr z)
            rw [Mo_fillsCouples_62, if_neg k5, bb, z3, if_neg (by decide)]
            unfold Mo_fillsCouples_109
            rw [show nI j + 1 = nI (j + 1) from nI_add j 1]
      · rintro u y ⟨y0, y1, y2, y3, y4⟩
        refine ⟨y, ⟨y1, by rw [y2, cbN_s hS (by omega)], y3, y4⟩, ?_⟩
        rw [Mo_fillsCouples_62, if_pos (by decide), show nI (i + 1) + 1 = nI (i + 1 + 1) from nI_add (i + 1) 1]
      · rw [rI rfl, (pmx_lo _ (Nat.le_refl _)).1]
    obtain ⟨B, ⟨q1, q2, q3, q4⟩, q5⟩ := inner
    refine Or.inl ⟨B, ⟨fun T hT => ?_, q3, q4⟩, ?_⟩
    · by_cases e : T = i + 1
      · rw [e]; exact q2
      · exact q1 T (by omega)
    · rw [Mo_fillsCouples_19, g1, grd_in g0 (by omega), clp (by omega), g4, shlg (by omega), if_neg (by rw [leP (by omega) (by omega)]; omega), low5 hN hS (by omega), bRs, shlg (by omega), rm_s hS l1, grd_in k1.1 (by omega), grd_in (by omega) (by omega), clp (by omega), clp (by omega), t1 _ (by omega), nxs, nxs, show nI (lowN (i + 1)) + 1 = nI (lowN (i + 1) + 1) from nI_add _ 1, q5]
  · rintro f t ⟨t1, t2, t3⟩
    have fP : frP M t := fP1.trans ⟨fun a j q1 q2 q3 q4 q5 q6 q7 q8 q9 q10 q11 => t2 a j q7, t3⟩
    have gt : gM c v t := fP.gM hM.1
    obtain ⟨g0, g1, g2, g3, g4, -⟩ := id gt
    refine ⟨t, ?_, fun k hk g hg => ?_, ⟨(t2 _ _ (by omega)).trans a58, fun T hT => t1 T (by omega)⟩, gt, fP⟩
    · rw [Mo_fillsCouples_19, g1, grd_in g0 (by omega), clp (by omega), g4, shlg (by omega), if_pos (by rw [leP (by omega) (by omega)]; omega)]
    · rw [t2 99 _ (by omega), t2 100 _ (by omega), fr1 99 _ (by omega) (by omega), fr1 100 _ (by omega) (by omega)]; exact a1 k hk g hg
  · have : T = 0 := by omega
    subst this
    show (mWI _ 101 0 0).1 101 0 = _
    rw [rI rfl]; rfl
theorem coupleOf_s {N : Nat} {c : gar} {n : Nat} {R : Nat → Int32} {B : mS} {S : Nat} (hN : 1000 ≤ N) (hn : n ≤ 400) (hc : gOk c) (hF : FILL c R n B) (hB : CBF c (ofN c R n) n B) (hS : S < 2 ^ gG c) (h0 : S ≠ 0) : Mo_coupleOf N (nI S) B = some (match pch (ofN c R n) (cbN (ofN c R n)) S (lowN S) 5 with | none => -2 | some b => nI b) := by
  obtain ⟨hc1, hc2, hc3, hc4, hc5, hc6⟩ := id hc
  have hp := pow5 hc4
  have hw := ofN_b hc (R := R) hn
  have cbl : ∀ T, T < 32 → cbN (ofN c R n) T ≤ 320000 := fun T hT => by
    have := cbN_le hw T hT
    have h2 : 10000 * T ≤ 10000 * 32 := Nat.mul_le_mul_left _ (by omega)
    omega
  have hS5 : S < 32 := by omega
  obtain ⟨l1, l2, l3⟩ := low_k S hS5 h0
  have k1 := rm_k S hS5 _ l1
  have k2 := k1.2.2.1 l2
  have hSG : ∀ o, gG c ≤ o → S.testBit o = false := fun o ho => by
    apply Nat.testBit_lt_two_pow
    have : 2 ^ gG c ≤ 2 ^ o := Nat.pow_le_pow_right (by omega) ho
    omega
  have hlG : lowN S < gG c := by
    apply Classical.byContradiction
    intro q
    rw [hSG _ (by omega)] at l2; cases l2
  have c1 := cbl (rm S (lowN S)) (by omega)
  have c2 := cbl S hS5
  have es := cbN_s (w := ofN c R n) hS5 h0
  unfold Mo_coupleOf
  rw [low5 hN hS5 h0, bRs, shlg (by omega), rm_s hS5 l1, grd_in k1.1 (by omega), grd_in hS5 (by omega), clp (by omega), clp (by omega), hB.2 _ (by omega), hB.2 _ hS]
  obtain ⟨p0, pc'⟩ := pch_c (w := ofN c R n) (F := cbN (ofN c R n)) (S := S) (a := lowN S) 5
  rw [← es] at p0 pc'
  rcases pc' with ⟨e1, e2, -⟩ | ⟨b, e1, e2, e3, e4, e5, e6, e7, -⟩
  · rw [if_pos (by rw [e2]), e1]
  · rw [if_neg (by rw [eqP (by omega) (by omega)]; omega), e1, nxs, show nI (lowN S) + 1 = nI (lowN S + 1) from nI_add _ 1]
    dsimp only
    refine iter (F := fun f j (_ : Unit) => Mo_coupleOf_33 N B f (nI S) (nI (lowN S)) (nI j)) (i := lowN S + 1) (f := N) (s := ()) (n := b) (Q := fun r => r = some (nI b)) (fun j _ => lowN S + 1 ≤ j) ?_ ?_ (by omega) (by omega) (Nat.le_refl _)
    · rintro f j _ hj j0
      refine Or.inl ⟨(), by omega, ?_⟩
      have bb : nI S >>> (nI j &&& 31) &&& 1 = nI (S / 2 ^ j % 2) := sar1 (by omega) (by omega)
      have kk := rm_k (rm S (lowN S)) k1.1 j (by omega)
      by_cases z : S.testBit j = true
      · have hjG : j < gG c := by
          apply Classical.byContradiction
          intro q
          rw [hSG _ (by omega)] at z; cases z
        have lt := e7 j (by omega) hj z
        rw [Mo_coupleOf_33, bb, bit_t.mp z, if_neg (by decide), couplesWith_s hN hn hc hF hB.1 hlG hjG hS5 (hB.2 _ (by omega)), bRs, grd_in hS5 (by omega), clp (by omega), hB.2 _ hS, if_neg (by rw [eqP (by omega) (by omega)]; omega)]
        unfold Mo_coupleOf_57
        rw [show nI j + 1 = nI (j + 1) from nI_add j 1]
      · rw [Mo_coupleOf_33, bb, bit_e.mp (Bool.eq_false_iff.mpr z), if_pos (by decide)]
        unfold Mo_coupleOf_57
        rw [show nI j + 1 = nI (j + 1) from nI_add j 1]
    · rintro f _ j0
      have bb : nI S >>> (nI b &&& 31) &&& 1 = nI (S / 2 ^ b % 2) := sar1 (by omega) (by omega)
      have kk := rm_k (rm S (lowN S)) k1.1 b (by omega)
      have hjG : b < gG c := by
        apply Classical.byContradiction
        intro q
        rw [hSG _ (by omega)] at e4; cases e4
      rw [Mo_coupleOf_33, bb, bit_t.mp e4, if_neg (by decide), couplesWith_s hN hn hc hF hB.1 hlG hjG hS5 (hB.2 _ (by omega)), bRs, grd_in hS5 (by omega), clp (by omega), hB.2 _ hS, if_pos (by rw [e6])]
theorem couples_53 {N : Nat} {c : gar} {n : Nat} {R : Nat → Int32} {B : mS} {i : Nat} (hN : 1000 ≤ N) (hn : n ≤ 400) (hc : gOk c) (hF : FILL c R n B) (hB : CBF c (ofN c R n) n B) (hi : i < gG c) : Mo_couples_53 N N (nI i) (nI (2 ^ gG c - 1)) B = some (mtN (ofN c R n) (2 ^ gG c - 1) i, B) := by
  obtain ⟨hc1, hc2, hc3, hc4, hc5, hc6⟩ := id hc
  have hp := pow5 hc4
  have hp0 := Nat.two_pow_pos (gG c)
  refine iterm (F := fun f (S : Nat) => Mo_couples_53 N f (nI i) (nI S) B) (f := N) (s := 2 ^ gG c - 1) (Q := fun r => r = some (mtN (ofN c R n) (2 ^ gG c - 1) i, B)) (fun S => S < 2 ^ gG c ∧ S.testBit i = true ∧ mtN (ofN c R n) S i = mtN (ofN c R n) (2 ^ gG c - 1) i) (fun S => S) ?_ (by omega) ⟨by omega, full_bit hi, rfl⟩
  rintro f S ⟨hS, hb, hm⟩
  have h0 : S ≠ 0 := by rintro rfl; rw [Nat.zero_testBit] at hb; cases hb
  have hS5 : S < 32 := by omega
  obtain ⟨l1, l2, l3⟩ := low_k S hS5 h0
  have k1 := rm_k S hS5 _ l1
  have k2 := k1.2.2.1 l2
  have eo := coupleOf_s (N := N) hN hn hc hF hB hS h0
  have em := mtN_s (w := ofN c R n) (i := i) hS5 h0
  obtain ⟨p0, pc'⟩ := pch_c (w := ofN c R n) (F := cbN (ofN c R n)) (S := S) (a := lowN S) 5
  rcases pc' with ⟨e1, e2, -⟩ | ⟨b, e1, e2, e3, e4, e5, e6, e7, -⟩
  · rw [e1] at eo em
    dsimp only at eo em
    by_cases z : i = lowN S
    · refine Or.inr ?_
      rw [if_pos z] at em
      rw [Mo_couples_53, low5 hN hS5 h0, bRs, eo, bRs, if_pos (by rw [z]), ← hm, em]
    · rw [if_neg z] at em
      refine Or.inl ⟨rm S (lowN S), ⟨by omega, (rm_bit hS5 l1).mpr ⟨hb, z⟩, by rw [← em]; exact hm⟩, k2, ?_⟩
      rw [Mo_couples_53, low5 hN hS5 h0, bRs, eo, bRs, if_neg (by rw [eqP (by omega) (by omega)]; omega), if_neg (by intro q; exact ne_m2 (k := i) (by omega) q.symm), shlg (by omega), rm_s hS5 l1, nxs, if_pos (by decide)]
      rfl
  · rw [e1] at eo em
    dsimp only at eo em
    have kk := rm_k (rm S (lowN S)) k1.1 b e3
    by_cases z : i = lowN S
    · refine Or.inr ?_
      rw [if_pos z] at em
      rw [Mo_couples_53, low5 hN hS5 h0, bRs, eo, bRs, if_pos (by rw [z]), ← hm, em]
    · rw [if_neg z] at em
      by_cases z2 : i = b
      · refine Or.inr ?_
        rw [if_pos z2] at em
        rw [Mo_couples_53, low5 hN hS5 h0, bRs, eo, bRs, if_neg (by rw [eqP (by omega) (by omega)]; omega), if_pos (by rw [z2]), ← hm, em]
      · rw [if_neg z2] at em
        refine Or.inl ⟨rm (rm S (lowN S)) b, ⟨by omega, (rm_bit k1.1 e3).mpr ⟨(rm_bit hS5 l1).mpr ⟨hb, z⟩, z2⟩, by rw [← em]; exact hm⟩, by omega, ?_⟩
        rw [Mo_couples_53, low5 hN hS5 h0, bRs, eo, bRs, if_neg (by rw [eqP (by omega) (by omega)]; omega), if_neg (by rw [eqP (by omega) (by omega)]; omega), shlg (by omega), rm_s hS5 l1, nxs, if_neg (nI_pos (by omega)), shlg (by omega), rm_s k1.1 e3, nxs]
        rfl
theorem call_couples {N : Nat} {M : mS} (hN : 1000 ≤ N) (h : INV M) (x y : Int32) : ∃ r A B, Md_couples N x y M = some (r, A) ∧ Mo_couples N x y A = some (r, B) ∧ INV B := by
  obtain ⟨c, v, R, X, hc, hC, hM⟩ := h
  obtain ⟨hc1, hc2, hc3, hc4, hc5, hc6⟩ := id hc
  have hp := pow5 hc4
  have hp0 := Nat.two_pow_pos (gG c)
  unfold Md_couples Mo_couples Mo_isSpan
  rw [show (60 : Int32) = nI 60 from rfl]
  rcases arg_c x 61 (by omega) with ⟨n, hn, rfl⟩ | q
  · obtain ⟨A, eA, wA, fA, rA, -⟩ := beginW (N := N) hc hC.1 hC.2.1.1 hC.2.1.2.2.1
    obtain ⟨A2, eA2, a2, f2⟩ := bestCouples_s (N := N) (n := n) hN (by omega) hc wA
    have fQ : frQ M A2 := fA.frQ.trans f2
    have hMA := MI_u hM fQ.frU
    obtain ⟨B, eB, b1, b2, b3, b4⟩ := fillsCouples_s (N := N) (n := n) hN (by omega) hc hMA hC.2.1.2.2.1
    obtain ⟨g0, g1, g2, g3, g4, -⟩ := id b3
    have o22 : ∀ y, Mo_couples_22 N (nI n) y A2 = if y = -1 then some (nI (cbN (ofN c R n) (2 ^ gG c - 1)), B) else Mo_couples_53 N N y (nI (2 ^ gG c - 1)) B := by
      intro y
      unfold Mo_couples_22
      rw [eB, bVs, g1, grd_in g0 (by omega), clp (by omega), g4, shlg (by omega)]
      rw [show nI (2 ^ gG c) - 1 = nI (2 ^ gG c - 1) from sbP (b := 1) (by omega), nxs, grd_in (by omega) (by omega), clp (by omega), b2.2 _ (by omega)]
    by_cases hy : y = -1
    · subst hy
      refine ⟨nI (cbN (ofN c R n) (2 ^ gG c - 1)), A2, B, ?_, ?_, INV_q hc hC hM fQ b4⟩
      · rw [with_y (by omega) (by omega), if_neg (by decide), if_pos rfl]
        unfold Md_couples_24
        rw [eA, bVs, eA2, bWs, if_pos rfl]
      · rw [inK_y (by omega) (by omega), if_neg (by decide), if_pos rfl, o22, if_pos rfl]
    · rcases arg_c y (gG c) (by omega) with ⟨i, hi, rfl⟩ | q
      · refine ⟨mtN (ofN c R n) (2 ^ gG c - 1) i, A2, B, ?_, ?_, INV_q hc hC hM fQ b4⟩
        · rw [with_y (by omega) (by omega), if_neg (by decide), if_neg hy, cGoer_y hc hC.1 hi, if_neg (by decide)]
          unfold Md_couples_24
          rw [eA, bVs, eA2, bWs, if_neg hy, grd_in (by omega) (by omega), clp (by omega), a2 i hi]
        · rw [inK_y (by omega) (by omega), if_neg (by decide), if_neg hy, oGoer_y hc hMA.1 hi, bRs, if_neg (by decide), o22, if_neg hy, couples_53 hN (by omega) hc b1 b2 hi]
      · refine ⟨-1, M, M, ?_, ?_, c, v, R, X, hc, hC, hM⟩
        · rw [with_y (by omega) (by omega), if_neg (by decide), if_neg hy, cGoer_n hC.1 q, if_pos (by decide)]
        · rw [inK_y (by omega) (by omega), if_neg (by decide), if_neg hy, oGoer_n hc hM.1 q, bRs, if_pos (by decide)]
  · refine ⟨-1, M, M, ?_, ?_, c, v, R, X, hc, hC, hM⟩
    · rw [with_n q (by omega), if_pos (by decide)]
    · rw [inK_n q (by omega), if_pos (by decide)]
