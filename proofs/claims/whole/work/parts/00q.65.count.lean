/-! count -/
theorem and_z (x : Int32) : x &&& 0 = 0 := by
  apply b_ext; intro i _; rw [b_and, b_0, Bool.and_false]
theorem tw_m {f : Nat → Int32} {n : Nat} : ∀ {m : Nat}, (∀ k, n ≤ k → f k = 0) → n ≤ m → tw f m = tw f n := by
  intro m
  induction m with
  | zero => intro h hm; rw [show n = 0 by omega]
  | succ m ih =>
    intro h hm
    by_cases e : n = m + 1
    · rw [e]
    · rw [show tw f (m + 1) = tw f m ||| (orB f m &&& f m) from rfl, h m (by omega), and_z, or0]; exact ih h (by omega)
/-- pairs, one by one -/
def psI (W : Nat → Int32) (P : Nat → Prop) [DecidablePred P] : Int32 := sumI (fun k => if P k then W k else 0) 10
theorem sumI_1 {f h : Nat → Int32} {n k : Nat} (hk : k < n) (ho : ∀ j, j < n → j ≠ k → h j = f j) : sumI h n = sumI f n + (h k - f k) := by
  induction n with
  | zero => omega
  | succ n ih =>
    rw [sumI_s, sumI_s]
    by_cases e : k = n
    · subst e
      rw [sumI_c (fun j hj => ho j (by omega) (by omega))]
      rw [Int32.add_assoc, Int32.add_comm (f k), Int32.sub_add_cancel]
    · rw [ih (by omega) (fun j hj => ho j (by omega)), ho n (by omega) (fun q => e q.symm), Int32.add_assoc, Int32.add_assoc, Int32.add_comm (h k - f k)]
theorem psI_0 {W : Nat → Int32} {P : Nat → Prop} [DecidablePred P] (h : ∀ k, k < 10 → ¬ P k) : psI W P = 0 := by
  unfold psI
  rw [sumI_c (g := fun _ => 0) (fun k hk => if_neg (h k hk))]
  decide
theorem psI_c {W : Nat → Int32} {P Q : Nat → Prop} [DecidablePred P] [DecidablePred Q] (h : ∀ k, k < 10 → (P k ↔ Q k)) : psI W P = psI W Q := by
  unfold psI
  refine sumI_c (fun k hk => ?_)
  by_cases q : P k
  · rw [if_pos q, if_pos ((h k hk).mp q)]
  · rw [if_neg q, if_neg (fun z => q ((h k hk).mpr z))]
theorem psI_1 {W : Nat → Int32} {P Q : Nat → Prop} [DecidablePred P] [DecidablePred Q] {k0 : Nat} (hk : k0 < 10) (h0 : ¬ P k0) (h1 : Q k0) (h : ∀ k, k < 10 → k ≠ k0 → (P k ↔ Q k)) : psI W Q = psI W P + W k0 := by
  unfold psI
  rw [sumI_1 (f := fun k => if P k then W k else 0) (h := fun k => if Q k then W k else 0) hk (fun j hj hne => by
    by_cases q : P j
    · show (if Q j then W j else 0) = if P j then W j else 0
      rw [if_pos q, if_pos ((h j hj hne).mp q)]
    · show (if Q j then W j else 0) = if P j then W j else 0
      rw [if_neg q, if_neg (fun z => q ((h j hj hne).mpr z))])]
  show _ + ((if Q k0 then W k0 else 0) - (if P k0 then W k0 else 0)) = _
  rw [if_pos h1, if_neg h0, Int32.sub_zero]
def lxB (G a b : Nat) (k : Nat) : Bool := decide ((uA k).2 < G) && (decide ((uA k).1 < a) || (decide ((uA k).1 = a) && decide ((uA k).2 < b)))
theorem lxB_t {G a b k : Nat} : lxB G a b k = true ↔ (uA k).2 < G ∧ ((uA k).1 < a ∨ ((uA k).1 = a ∧ (uA k).2 < b)) := by
  unfold lxB
  rw [Bool.and_eq_true, Bool.or_eq_true, Bool.and_eq_true, decide_eq_true_eq, decide_eq_true_eq, decide_eq_true_eq, decide_eq_true_eq]
/-- the double loop over pairs a < b < G, with what is added told by W -/
theorem pairs_l {N : Nat} {G : Nat} {W : Nat → Int32} {F : Nat → Int32 → Int32 → Option Int32} {K : (Int32 → Int32 → Option Int32) → Nat → Int32 → Int32 → Int32 → Option Int32} (hN : 1000 ≤ N) (hG : G ≤ 5)
    (hF1 : ∀ f x i, i < G → F (f + 1) x (nI i) = K (F f) N x (nI i) (nI (i + 1))) (hF2 : ∀ f x, F (f + 1) x (nI G) = some x)
    (hK1 : ∀ k4 f x i j, i < j → j < G → K k4 (f + 1) x (nI i) (nI j) = K k4 f (x + W (pA i j)) (nI i) (nI (j + 1))) (hK2 : ∀ k4 f x i, K k4 (f + 1) x (nI i) (nI G) = k4 x (nI (i + 1))) : F N 0 0 = some (psI W (fun k => (uA k).2 < G)) := by
  refine iter (F := fun f i (x : Int32) => F f x (nI i)) (i := 0) (f := N) (s := (0 : Int32)) (n := G) (Q := fun r => r = some (psI W (fun k => (uA k).2 < G))) (fun i x => x = psI W (fun k => lxB G i 0 k = true)) ?_ ?_ (Nat.zero_le _) (by omega) ?_
  · rintro f i x hi rfl
    refine Or.inl ⟨_, rfl, ?_⟩
    rw [hF1 f _ i hi]
    refine iter (F := fun g j (x : Int32) => K (F f) g x (nI i) (nI j)) (i := i + 1) (f := N) (s := psI W (fun k => lxB G i 0 k = true)) (n := G) (Q := fun r => r = F f (psI W (fun k => lxB G (i + 1) 0 k = true)) (nI (i + 1))) (fun j x => i + 1 ≤ j ∧ x = psI W (fun k => lxB G i j k = true)) ?_ ?_ (by omega) (by omega) ⟨Nat.le_refl _, ?_⟩
    · rintro g j x hj ⟨j0, rfl⟩
      have hp := pA_lt i (by omega) j (by omega) (by omega)
      have hu := pA_u i (by omega) j (by omega) (by omega)
      refine Or.inl ⟨psI W (fun k => lxB G i (j + 1) k = true), ⟨by omega, rfl⟩, ?_⟩
      rw [hK1 _ _ _ i j (by omega) hj]
      rw [psI_1 (W := W) (P := fun k => lxB G i j k = true) (Q := fun k => lxB G i (j + 1) k = true) (k0 := pA i j) hp ?_ ?_ ?_]
      · show ¬ lxB G i j (pA i j) = true
        rw [lxB_t, hu]; dsimp only; omega
      · show lxB G i (j + 1) (pA i j) = true
        rw [lxB_t, hu]; dsimp only; omega
      · intro k hk hne
        show lxB G i j k = true ↔ lxB G i (j + 1) k = true
        rw [lxB_t, lxB_t]
        have hx := uA_p k hk
        constructor
        · rintro ⟨q1, q2⟩; exact ⟨q1, by omega⟩
        · rintro ⟨q1, q2⟩
          refine ⟨q1, ?_⟩
          rcases q2 with q2 | ⟨q2, q3⟩
          · exact Or.inl q2
          · refine Or.inr ⟨q2, ?_⟩
            apply Classical.byContradiction
            intro z
            have e : (uA k).2 = j := by omega
            rw [q2, e] at hx
            exact hne hx.2.2.symm
    · rintro g x ⟨j0, rfl⟩
      rw [hK2]
      rw [psI_c (W := W) (P := fun k => lxB G i G k = true) (Q := fun k => lxB G (i + 1) 0 k = true) (fun k hk => ?_)]
      rw [lxB_t, lxB_t]
      constructor
      · rintro ⟨q1, q2⟩; exact ⟨q1, by omega⟩
      · rintro ⟨q1, q2⟩; exact ⟨q1, by omega⟩
    · refine psI_c (fun k hk => ?_)
      have hx := uA_p k hk
      rw [lxB_t, lxB_t]
      constructor
      · rintro ⟨q1, q2⟩; exact ⟨q1, by omega⟩
      · rintro ⟨q1, q2⟩; exact ⟨q1, by omega⟩
  · rintro f x rfl
    rw [hF2]
    rw [psI_c (W := W) (P := fun k => lxB G G 0 k = true) (Q := fun k => (uA k).2 < G) (fun k hk => ?_)]
    have hx := uA_p k hk
    rw [lxB_t]
    constructor
    · rintro ⟨q1, q2⟩; exact q1
    · intro q1; exact ⟨q1, by omega⟩
  · rw [psI_0 (fun k hk => ?_)]
    show ¬ lxB G 0 0 k = true
    rw [lxB_t]; omega
/-- the model's loop over the ten -/
theorem ten_l {N : Nat} {W : Nat → Int32} {M : mS} {F : Nat → Int32 → Int32 → mS → Option (Int32 × mS)} (hN : 1000 ≤ N) (h1 : ∀ f x k, k < 10 → F (f + 1) x (nI (18 + k)) M = F f (x + W k) (nI (18 + k + 1)) M) (h2 : ∀ f x, F (f + 1) x (nI 28) M = some (x, M)) : F N 0 18 M = some (sumI W 10, M) := by
  refine iter (F := fun f i (x : Int32) => F f x (nI (18 + i)) M) (i := 0) (f := N) (s := (0 : Int32)) (n := 10) (Q := fun r => r = some (sumI W 10, M)) (fun i x => x = sumI W i) ?_ ?_ (Nat.zero_le _) (by omega) rfl
  · rintro f i x hi rfl
    exact Or.inl ⟨_, rfl, h1 f _ i hi⟩
  · rintro f x rfl
    exact h2 f _
theorem psI_t {W : Nat → Int32} {G : Nat} (h : ∀ k, k < 10 → G ≤ (uA k).2 → W k = 0) : psI W (fun k => (uA k).2 < G) = sumI W 10 := by
  unfold psI
  refine sumI_c (fun k hk => ?_)
  by_cases q : (uA k).2 < G
  · rw [if_pos q]
  · rw [if_neg q]; exact (h k hk (by omega)).symm
theorem bc_8 : ∀ s, s < 8 → bc (nI s) = ((if s.testBit 0 = true then (1 : Int32) else 0) + (if s.testBit 1 = true then 1 else 0)) + (if s.testBit 2 = true then 1 else 0) := by decide +kernel
section
variable {N : Nat} {c : gar} {v : Nat} {R : Nat → Int32} {X : aux} {M : mS}
theorem cnt_4C (hN : 1000 ≤ N) (hc : gOk c) (hC : gC c M) (hrow : rowC c (M.1 34) R) : Md_pairHours N M = some (psI (fun k => R (18 + k)) (fun k => (uA k).2 < gG c)) := by
  obtain ⟨hc1, hc2, hc3, hc4, hc5, hc6⟩ := id hc
  unfold Md_pairHours
  refine pairs_l (W := fun k => R (18 + k)) (G := gG c) (F := fun f x i => Md_pairHours_4 N M f x i) (K := fun k4 f x i j => Md_pairHours_19 N k4 M f x i j) hN hc4 (fun f x i hi => ?_) (fun f x => ?_) (fun k4 f x i j hij hj => ?_) (fun k4 f x i => ?_)
  · show Md_pairHours_4 N M (f + 1) x (nI i) = _
    rw [Md_pairHours_4, hC.2.2.1, if_neg (by rw [leP (by omega) (by omega)]; omega), nxs, show nI i + 1 = nI (i + 1) from nI_add i 1]
  · show Md_pairHours_4 N M (f + 1) x (nI (gG c)) = _
    rw [Md_pairHours_4, hC.2.2.1, if_pos (by rw [leP (by omega) (by omega)]; omega)]
  · show Md_pairHours_19 N k4 M (f + 1) x (nI i) (nI j) = _
    have e := hrow.2.1 i (by omega) j hj (by omega)
    simp (disch := omega) only [Md_pairHours_19, Md_pair, hC.2.2.1, leP, if_neg, li, pk_mul, nI_add, grd_in, clp, nxs, show 19 + i * 5 + j = 19 + 5 * i + j by omega, e]
  · show Md_pairHours_19 N k4 M (f + 1) x (nI i) (nI (gG c)) = _
    rw [Md_pairHours_19, hC.2.2.1, if_pos (by rw [leP (by omega) (by omega)]; omega), show nI i + 1 = nI (i + 1) from nI_add i 1]
theorem cnt_14C (hN : 1000 ≤ N) (hc : gOk c) (hC : gC c M) (hrow : rowC c (M.1 34) R) : Md_pairsMet N M = some (psI (fun k => if R (18 + k) ≤ 0 then 0 else 1) (fun k => (uA k).2 < gG c)) := by
  obtain ⟨hc1, hc2, hc3, hc4, hc5, hc6⟩ := id hc
  unfold Md_pairsMet
  refine pairs_l (W := fun k => if R (18 + k) ≤ 0 then 0 else 1) (G := gG c) (F := fun f x i => Md_pairsMet_4 N M f x i) (K := fun k4 f x i j => Md_pairsMet_19 N k4 M f x i j) hN hc4 (fun f x i hi => ?_) (fun f x => ?_) (fun k4 f x i j hij hj => ?_) (fun k4 f x i => ?_)
  · show Md_pairsMet_4 N M (f + 1) x (nI i) = _
    rw [Md_pairsMet_4, hC.2.2.1, if_neg (by rw [leP (by omega) (by omega)]; omega), nxs, show nI i + 1 = nI (i + 1) from nI_add i 1]
  · show Md_pairsMet_4 N M (f + 1) x (nI (gG c)) = _
    rw [Md_pairsMet_4, hC.2.2.1, if_pos (by rw [leP (by omega) (by omega)]; omega)]
  · show Md_pairsMet_19 N k4 M (f + 1) x (nI i) (nI j) = Md_pairsMet_19 N k4 M f (x + (if R (18 + pA i j) ≤ 0 then 0 else 1)) (nI i) (nI (j + 1))
    have e := hrow.2.1 i (by omega) j hj (by omega)
    rw [Md_pairsMet_19, hC.2.2.1, if_neg (by rw [leP (by omega) (by omega)]; omega)]
    unfold Md_pair Md_pairsMet_46
    rw [show (19 : Int32) + nI i * 5 + nI j = nI (19 + 5 * i + j) by rw [show nI i * 5 = nI (i * 5) from pk_mul i 5, show (19 : Int32) = nI 19 from rfl, nI_add, nI_add]; congr 1; omega, grd_in (by omega) (by omega), clp (by omega), e, show nI j + 1 = nI (j + 1) from nI_add j 1]
    by_cases z : R (18 + pA i j) ≤ 0
    · rw [if_pos z, if_pos z, add0]
    · rw [if_neg z, if_neg z]
  · show Md_pairsMet_19 N k4 M (f + 1) x (nI i) (nI (gG c)) = _
    rw [Md_pairsMet_19, hC.2.2.1, if_pos (by rw [leP (by omega) (by omega)]; omega), show nI i + 1 = nI (i + 1) from nI_add i 1]
theorem cnt_4M (hN : 1000 ≤ N) (hr : rM M R) : Mo_count_128 N N 0 18 M = some (sumI (fun k => R (18 + k)) 10, M) := by
  refine ten_l (W := fun k => R (18 + k)) hN (fun f x k hk => ?_) (fun f x => ?_)
  · rw [Mo_count_128, if_neg (by rw [show (28 : Int32) = nI 28 from rfl, leP (by omega) (by omega)]; omega), grd_in (by omega) (by omega), clp (by omega), hr _ (by omega), nxs, show nI (18 + k) + 1 = nI (18 + k + 1) from nI_add _ 1]
  · rw [Mo_count_128, if_pos (by decide)]
theorem cnt_14M (hN : 1000 ≤ N) (hr : rM M R) : Mo_count_347 N N 0 18 M = some (sumI (fun k => if R (18 + k) ≤ 0 then 0 else 1) 10, M) := by
  refine ten_l (W := fun k => if R (18 + k) ≤ 0 then 0 else 1) hN (fun f x k hk => ?_) (fun f x => ?_)
  · show _ = Mo_count_347 N f (x + (if R (18 + k) ≤ 0 then 0 else 1)) (nI (18 + k + 1)) M
    rw [Mo_count_347, if_neg (by rw [show (28 : Int32) = nI 28 from rfl, leP (by omega) (by omega)]; omega), grd_in (by omega) (by omega), clp (by omega), hr _ (by omega)]
    unfold Mo_count_365
    rw [show nI (18 + k) + 1 = nI (18 + k + 1) from nI_add _ 1]
    by_cases z : R (18 + k) ≤ 0
    · rw [if_pos z, if_pos z, add0]
    · rw [if_neg z, if_neg z]
  · rw [Mo_count_347, if_pos (by decide)]
/-- a set of those that are so -/
noncomputable def stI (P : Nat → Prop) (n : Nat) : Int32 := orB (fun d => by classical exact if P d then nI (2 ^ d) else 0) n
theorem stI_y {P : Nat → Prop} {n : Nat} (h : P n) : stI P (n + 1) = stI P n ||| nI (2 ^ n) := by
  classical
  show stI P n ||| (if P n then nI (2 ^ n) else 0) = _
  rw [if_pos h]
theorem stI_n {P : Nat → Prop} {n : Nat} (h : ¬ P n) : stI P (n + 1) = stI P n := by
  classical
  show stI P n ||| (if P n then nI (2 ^ n) else 0) = _
  rw [if_neg h, or0]
theorem cnt_12C (hN : 1000 ≤ N) (hc : gOk c) (hC : gC c M) (hrow : rowC c (M.1 34) R) : Md_rightDials N M = some (stI (fun d => R d = 0) (gD c)) := by
  obtain ⟨hc1, hc2, hc3, hc4, hc5, hc6⟩ := id hc
  unfold Md_rightDials
  refine iter (F := fun f i (x : Int32) => Md_rightDials_4 N M f x (nI i)) (i := 0) (f := N) (s := (0 : Int32)) (n := gD c) (Q := fun r => r = some (stI (fun d => R d = 0) (gD c))) (fun i x => x = stI (fun d => R d = 0) i) ?_ ?_ (Nat.zero_le _) (by omega) rfl
  · rintro f i x hi rfl
    refine Or.inl ⟨_, rfl, ?_⟩
    have e := (hrow.1.2.1 i hi).1
    rw [Md_rightDials_4, hC.2.1, if_neg (by rw [leP (by omega) (by omega)]; omega), show (1 : Int32) + nI i = nI (1 + i) from nI_add 1 i, grd_in (by omega) (by omega), clp (by omega), e]
    unfold Md_rightDials_32
    rw [show nI i + 1 = nI (i + 1) from nI_add i 1]
    by_cases z : R i = 0
    · rw [if_pos z, stI_y z, nxs, shlg (by omega)]
    · rw [if_neg z, stI_n z]
  · rintro f x rfl
    rw [Md_rightDials_4, hC.2.1, if_pos (by rw [leP (by omega) (by omega)]; omega)]
theorem cnt_12M (hN : 1000 ≤ N) (hc : gOk c) (hM : gM c v M) (hr : rM M R) : Mo_count_303 N N 0 0 M = some (stI (fun d => R d = 0) (gD c), M) := by
  obtain ⟨hc1, hc2, hc3, hc4, hc5, hc6⟩ := id hc
  obtain ⟨m0, m1, m2, m3, m4, -⟩ := id hM
  refine iter (F := fun f i (x : Int32) => Mo_count_303 N f x (nI i) M) (i := 0) (f := N) (s := (0 : Int32)) (n := gD c) (Q := fun r => r = some (stI (fun d => R d = 0) (gD c), M)) (fun i x => x = stI (fun d => R d = 0) i) ?_ ?_ (Nat.zero_le _) (by omega) rfl
  · rintro f i x hi rfl
    refine Or.inl ⟨_, rfl, ?_⟩
    rw [Mo_count_303, m1, grd_in m0 (by omega), clp (by omega), m3, if_neg (by rw [leP (by omega) (by omega)]; omega), grd_in (by omega) (by omega), clp (by omega), hr i (by omega)]
    unfold Mo_count_331
    rw [show nI i + 1 = nI (i + 1) from nI_add i 1]
    by_cases z : R i = 0
    · rw [if_pos z, stI_y z, nxs, shlg (by omega)]
    · rw [if_neg z, stI_n z]
  · rintro f x rfl
    rw [Mo_count_303, m1, grd_in m0 (by omega), clp (by omega), m3, if_pos (by rw [leP (by omega) (by omega)]; omega)]
theorem cnt_16C (hN : 1000 ≤ N) (hc : gOk c) (hC : gC c M) (hrow : rowC c (M.1 34) R) : Md_lonelyGoers N M = some (stI (fun g => R (13 + g) = 0) (gG c)) := by
  obtain ⟨hc1, hc2, hc3, hc4, hc5, hc6⟩ := id hc
  unfold Md_lonelyGoers
  refine iter (F := fun f i (x : Int32) => Md_lonelyGoers_4 N M f x (nI i)) (i := 0) (f := N) (s := (0 : Int32)) (n := gG c) (Q := fun r => r = some (stI (fun g => R (13 + g) = 0) (gG c))) (fun i x => x = stI (fun g => R (13 + g) = 0) i) ?_ ?_ (Nat.zero_le _) (by omega) rfl
  · rintro f i x hi rfl
    refine Or.inl ⟨_, rfl, ?_⟩
    have e := (hrow.1.2.2 i hi).2
    rw [Md_lonelyGoers_4, hC.2.2.1, if_neg (by rw [leP (by omega) (by omega)]; omega), show (14 : Int32) + nI i = nI (14 + i) from nI_add 14 i, grd_in (by omega) (by omega), clp (by omega), e]
    unfold Md_lonelyGoers_33
    rw [show nI i + 1 = nI (i + 1) from nI_add i 1]
    by_cases z : R (13 + i) = 0
    · rw [if_pos z, stI_y z, nxs, shlg (by omega)]
    · rw [if_neg z, stI_n z]
  · rintro f x rfl
    rw [Md_lonelyGoers_4, hC.2.2.1, if_pos (by rw [leP (by omega) (by omega)]; omega)]
theorem cnt_16M (hN : 1000 ≤ N) (hc : gOk c) (hM : gM c v M) (hr : rM M R) : Mo_count_380 N N 0 0 M = some (stI (fun g => R (13 + g) = 0) (gG c), M) := by
  obtain ⟨hc1, hc2, hc3, hc4, hc5, hc6⟩ := id hc
  obtain ⟨m0, m1, m2, m3, m4, -⟩ := id hM
  refine iter (F := fun f i (x : Int32) => Mo_count_380 N f x (nI i) M) (i := 0) (f := N) (s := (0 : Int32)) (n := gG c) (Q := fun r => r = some (stI (fun g => R (13 + g) = 0) (gG c), M)) (fun i x => x = stI (fun g => R (13 + g) = 0) i) ?_ ?_ (Nat.zero_le _) (by omega) rfl
  · rintro f i x hi rfl
    refine Or.inl ⟨_, rfl, ?_⟩
    rw [Mo_count_380, m1, grd_in m0 (by omega), clp (by omega), m4, if_neg (by rw [leP (by omega) (by omega)]; omega), show (13 : Int32) + nI i = nI (13 + i) from nI_add 13 i, grd_in (by omega) (by omega), clp (by omega), hr _ (by omega)]
    unfold Mo_count_411
    rw [show nI i + 1 = nI (i + 1) from nI_add i 1]
    by_cases z : R (13 + i) = 0
    · rw [if_pos z, stI_y z, nxs, shlg (by omega)]
    · rw [if_neg z, stI_n z]
  · rintro f x rfl
    rw [Mo_count_380, m1, grd_in m0 (by omega), clp (by omega), m4, if_pos (by rw [leP (by omega) (by omega)]; omega)]
/-- dials by which nobody goes -/
def idI (D : Nat) (R : Nat → Int32) : Nat → Int32
  | 0 => nI (2 ^ D - 1)
  | g + 1 => idI D R g &&& (((1 : Int32) <<< (R (8 + g) &&& 31)) ^^^ (-1))
theorem cnt_15C (hN : 1000 ≤ N) (hc : gOk c) (hC : gC c M) (hrow : rowC c (M.1 34) R) : Md_unusedDials N M = some (idI (gD c) R (gG c)) := by
  obtain ⟨hc1, hc2, hc3, hc4, hc5, hc6⟩ := id hc
  have hp := Nat.two_pow_pos (gD c)
  unfold Md_unusedDials
  rw [hC.2.1, shlg (by omega), show nI (2 ^ gD c) - 1 = nI (2 ^ gD c - 1) from sbP (b := 1) hp, nxs]
  refine iter (F := fun f i (x : Int32) => Md_unusedDials_14 N M f x (nI i)) (i := 0) (f := N) (s := nI (2 ^ gD c - 1)) (n := gG c) (Q := fun r => r = some (idI (gD c) R (gG c))) (fun i x => x = idI (gD c) R i) ?_ ?_ (Nat.zero_le _) (by omega) rfl
  · rintro f i x hi rfl
    refine Or.inl ⟨_, rfl, ?_⟩
    have e := (hrow.1.2.2 i hi).1
    rw [Md_unusedDials_14, hC.2.2.1, if_neg (by rw [leP (by omega) (by omega)]; omega), show (9 : Int32) + nI i = nI (9 + i) from nI_add 9 i, grd_in (by omega) (by omega), clp (by omega), e, nxs, show nI i + 1 = nI (i + 1) from nI_add i 1]
    rfl
  · rintro f x rfl
    rw [Md_unusedDials_14, hC.2.2.1, if_pos (by rw [leP (by omega) (by omega)]; omega)]
theorem cnt_15M (hN : 1000 ≤ N) (hc : gOk c) (hM : gM c v M) (hr : rM M R) : Mo_idleBits N M = some (idI (gD c) R (gG c)) := by
  obtain ⟨hc1, hc2, hc3, hc4, hc5, hc6⟩ := id hc
  have hp := Nat.two_pow_pos (gD c)
  obtain ⟨m0, m1, m2, m3, m4, -⟩ := id hM
  unfold Mo_idleBits
  rw [m1, grd_in m0 (by omega), clp (by omega), m3, shlg (by omega), show nI (2 ^ gD c) - 1 = nI (2 ^ gD c - 1) from sbP (b := 1) hp, nxs]
  refine iter (F := fun f i (x : Int32) => Mo_idleBits_16 N M f x (nI i)) (i := 0) (f := N) (s := nI (2 ^ gD c - 1)) (n := gG c) (Q := fun r => r = some (idI (gD c) R (gG c))) (fun i x => x = idI (gD c) R i) ?_ ?_ (Nat.zero_le _) (by omega) rfl
  · rintro f i x hi rfl
    refine Or.inl ⟨_, rfl, ?_⟩
    rw [Mo_idleBits_16, m1, grd_in m0 (by omega), clp (by omega), m4, if_neg (by rw [leP (by omega) (by omega)]; omega), show (8 : Int32) + nI i = nI (8 + i) from nI_add 8 i, grd_in (by omega) (by omega), clp (by omega), hr _ (by omega), nxs, show nI i + 1 = nI (i + 1) from nI_add i 1]
    rfl
  · rintro f x rfl
    rw [Mo_idleBits_16, m1, grd_in m0 (by omega), clp (by omega), m4, if_pos (by rw [leP (by omega) (by omega)]; omega)]
theorem cnt_13M (hN : 1000 ≤ N) (hc : gOk c) (h : ∀ g, g < 5 → M.1 97 g = th c none R g) : Mo_manyBits N M = some (tw (th c none R) (gG c)) := by
  rw [← tw_m (f := th c none R) (fun k hk => th_out hk) hc.2.2.2.1 (m := 5), tw_many]
  unfold Mo_manyBits
  refine iter (F := fun f i (x : Int32) => Mo_manyBits_4 N M f x (nI i)) (i := 0) (f := N) (s := (0 : Int32)) (n := 5) (Q := fun r => r = some (orB (fun g => th c none R g &&& oth (th c none R) g 5) 5)) (fun i x => x = orB (fun g => th c none R g &&& oth (th c none R) g 5) i) ?_ ?_ (Nat.zero_le _) (by omega) rfl
  · rintro f i x hi rfl
    refine Or.inl ⟨_, rfl, ?_⟩
    rw [Mo_manyBits_4, if_neg (by rw [show (5 : Int32) = nI 5 from rfl, leP (by omega) (by omega)]; omega), grd_in (by omega) (by omega), others_s hN h (by omega), bRs, clp (by omega), h i hi, nxs, show nI i + 1 = nI (i + 1) from nI_add i 1]
    rfl
  · rintro f x rfl
    rw [Mo_manyBits_4, if_pos (by decide)]
theorem cnt_5C (hN : 1000 ≤ N) (hc : gOk c) (h : WK c M R) : ∃ A, Md_whoComes N M = some (stI (fun g => ¬ gL c 0 (vG c R g) ≤ 0) (gG c), A) ∧ frQ M A := by
  obtain ⟨hc1, hc2, hc3, hc4, hc5, hc6⟩ := id hc
  unfold Md_whoComes
  refine iter (F := fun f i (s : Int32 × mS) => Md_whoComes_4 N f s.1 (nI i) s.2) (i := 0) (f := N) (s := ((0 : Int32), M)) (n := gG c) (Q := fun r => ∃ A, r = some (stI (fun g => ¬ gL c 0 (vG c R g) ≤ 0) (gG c), A) ∧ frQ M A) (fun i s => s.1 = stI (fun g => ¬ gL c 0 (vG c R g) ≤ 0) i ∧ WK c s.2 R ∧ frQ M s.2) ?_ ?_ (Nat.zero_le _) (by omega) ⟨rfl, h, frQ.refl⟩
  · rintro f i ⟨x, t⟩ hi ⟨h1, h2, h3⟩
    dsimp only at h1 h2 h3
    subst h1
    obtain ⟨B, eB, b1, b2⟩ := lawG (k := 0) hN hc h2.1 h2.2.1 h2.2.2.1 hi (by omega)
    have key : Md_whoComes_4 N (f + 1) (stI (fun g => ¬ gL c 0 (vG c R g) ≤ 0) i) (nI i) t = if gL c 0 (vG c R i) ≤ 0 then Md_whoComes_4 N f (stI (fun g => ¬ gL c 0 (vG c R g) ≤ 0) i) (nI (i + 1)) B else Md_whoComes_4 N f (stI (fun g => ¬ gL c 0 (vG c R g) ≤ 0) i ||| nI (2 ^ i)) (nI (i + 1)) B := by
      rw [Md_whoComes_4, h2.1.2.2.1, if_neg (by rw [leP (by omega) (by omega)]; omega), show Wk_lawOfGoer N 0 (nI i) t = some (lawV c R 0 i, B) from eB, bWs, lawV0, nxs, shlg (by omega)]
      unfold Md_whoComes_33
      rw [show nI i + 1 = nI (i + 1) from nI_add i 1]
    have fB : frQ M B := h3.trans ⟨fun a j q1 q2 _ => b1 a j q1 q2, b2⟩
    by_cases z : gL c 0 (vG c R i) ≤ 0
    · refine Or.inl ⟨(stI (fun g => ¬ gL c 0 (vG c R g) ≤ 0) i, B), ⟨(stI_n (fun w => w z)).symm, WK_58 h2 b1, fB⟩, ?_⟩
      rw [key, if_pos z]
    · refine Or.inl ⟨(stI (fun g => ¬ gL c 0 (vG c R g) ≤ 0) i ||| nI (2 ^ i), B), ⟨(stI_y z).symm, WK_58 h2 b1, fB⟩, ?_⟩
      rw [key, if_neg z]
  · rintro f ⟨x, t⟩ ⟨h1, h2, h3⟩
    dsimp only at h1 h2 h3
    subst h1
    refine ⟨t, ?_, h3⟩
    dsimp only
    rw [Md_whoComes_4, h2.1.2.2.1, if_pos (by rw [leP (by omega) (by omega)]; omega)]
theorem cnt_5M (hN : 1000 ≤ N) (hc : gOk c) (hM : gM c v M) (hr : rM M R) (hR : VR c R) : ∃ A, Mo_count_153 N N 0 0 M = some (stI (fun g => ¬ gL c 0 (vG c R g) ≤ 0) (gG c), A) ∧ frP M A := by
  obtain ⟨hc1, hc2, hc3, hc4, hc5, hc6⟩ := id hc
  refine iter (F := fun f i (s : Int32 × mS) => Mo_count_153 N f s.1 (nI i) s.2) (i := 0) (f := N) (s := ((0 : Int32), M)) (n := gG c) (Q := fun r => ∃ A, r = some (stI (fun g => ¬ gL c 0 (vG c R g) ≤ 0) (gG c), A) ∧ frP M A) (fun i s => s.1 = stI (fun g => ¬ gL c 0 (vG c R g) ≤ 0) i ∧ frL M s.2) ?_ ?_ (Nat.zero_le _) (by omega) ⟨rfl, frL.refl⟩
  · rintro f i ⟨x, t⟩ hi ⟨h1, h2⟩
    dsimp only at h1 h2
    subst h1
    obtain ⟨m0, m1, m2, m3, m4, -⟩ := id (h2.gM hM)
    obtain ⟨B, eB, fB⟩ := doesCome_s (N := N) hN hc (h2.gM hM) (h2.rM hr) hR hi
    have key : ∀ y, y = (if gL c 0 (vG c R i) ≤ 0 then (0 : Int32) else 1) → Mo_count_153 N (f + 1) (stI (fun g => ¬ gL c 0 (vG c R g) ≤ 0) i) (nI i) t = if y = 0 then Mo_count_153 N f (stI (fun g => ¬ gL c 0 (vG c R g) ≤ 0) i) (nI (i + 1)) B else Mo_count_153 N f (stI (fun g => ¬ gL c 0 (vG c R g) ≤ 0) i ||| nI (2 ^ i)) (nI (i + 1)) B := by
      rintro y rfl
      rw [Mo_count_153, m1, grd_in m0 (by omega), clp (by omega), m4, if_neg (by rw [leP (by omega) (by omega)]; omega), eB, bWs, nxs, shlg (by omega)]
      unfold Mo_count_180
      rw [show nI i + 1 = nI (i + 1) from nI_add i 1]
    by_cases z : gL c 0 (vG c R i) ≤ 0
    · refine Or.inl ⟨(stI (fun g => ¬ gL c 0 (vG c R g) ≤ 0) i, B), ⟨(stI_n (fun w => w z)).symm, h2.trans fB⟩, ?_⟩
      rw [key 0 (if_pos z).symm, if_pos rfl]
    · refine Or.inl ⟨(stI (fun g => ¬ gL c 0 (vG c R g) ≤ 0) i ||| nI (2 ^ i), B), ⟨(stI_y z).symm, h2.trans fB⟩, ?_⟩
      rw [key 1 (if_neg z).symm, if_neg (by decide)]
  · rintro f ⟨x, t⟩ ⟨h1, h2⟩
    dsimp only at h1 h2
    subst h1
    obtain ⟨m0, m1, m2, m3, m4, -⟩ := id (h2.gM hM)
    refine ⟨t, ?_, h2.frP⟩
    dsimp only
    rw [Mo_count_153, m1, grd_in m0 (by omega), clp (by omega), m4, if_pos (by rw [leP (by omega) (by omega)]; omega)]
theorem cnt_7C (hN : 1000 ≤ N) (hc : gOk c) (h : WK c M R) : ∃ A, Md_darkDials N M = some (stI (fun d => lotN 100 (nI (gS c)) (8 * R 28 + nI d) < dmN c R d) (gD c), A) ∧ frQ M A := by
  obtain ⟨hc1, hc2, hc3, hc4, hc5, hc6⟩ := id hc
  unfold Md_darkDials
  refine iter (F := fun f i (s : Int32 × mS) => Md_darkDials_4 N f s.1 (nI i) s.2) (i := 0) (f := N) (s := ((0 : Int32), M)) (n := gD c) (Q := fun r => ∃ A, r = some (stI (fun d => lotN 100 (nI (gS c)) (8 * R 28 + nI d) < dmN c R d) (gD c), A) ∧ frQ M A) (fun i s => s.1 = stI (fun d => lotN 100 (nI (gS c)) (8 * R 28 + nI d) < dmN c R d) i ∧ WK c s.2 R ∧ frQ M s.2) ?_ ?_ (Nat.zero_le _) (by omega) ⟨rfl, h, frQ.refl⟩
  · rintro f i ⟨x, t⟩ hi ⟨h1, h2, h3⟩
    dsimp only at h1 h2 h3
    subst h1
    obtain ⟨B, eB, b1, b2⟩ := darkC (s := nI (gS c)) hN hc h2.1 h2.2.1 hi
    have key : ∀ y, y = (if lotN 100 (nI (gS c)) (8 * R 28 + nI i) < dmN c R i then (1 : Int32) else 0) → Md_darkDials_4 N (f + 1) (stI (fun d => lotN 100 (nI (gS c)) (8 * R 28 + nI d) < dmN c R d) i) (nI i) t = if y = 0 then Md_darkDials_4 N f (stI (fun d => lotN 100 (nI (gS c)) (8 * R 28 + nI d) < dmN c R d) i) (nI (i + 1)) B else Md_darkDials_4 N f (stI (fun d => lotN 100 (nI (gS c)) (8 * R 28 + nI d) < dmN c R d) i ||| nI (2 ^ i)) (nI (i + 1)) B := by
      rintro y rfl
      rw [Md_darkDials_4, h2.1.2.1, if_neg (by rw [leP (by omega) (by omega)]; omega), h2.1.2.2.2.1, eB, bWs, nxs, shlg (by omega)]
      unfold Md_darkDials_39
      rw [show nI i + 1 = nI (i + 1) from nI_add i 1]
    have fB : frQ M B := h3.trans ⟨fun a j q1 q2 _ => b1 a j q1 q2, b2⟩
    by_cases z : lotN 100 (nI (gS c)) (8 * R 28 + nI i) < dmN c R i
    · refine Or.inl ⟨(stI (fun d => lotN 100 (nI (gS c)) (8 * R 28 + nI d) < dmN c R d) i ||| nI (2 ^ i), B), ⟨(stI_y (P := fun d => lotN 100 (nI (gS c)) (8 * R 28 + nI d) < dmN c R d) z).symm, WK_58 h2 b1, fB⟩, ?_⟩
      rw [key 1 (if_pos z).symm, if_neg (by decide)]
    · refine Or.inl ⟨(stI (fun d => lotN 100 (nI (gS c)) (8 * R 28 + nI d) < dmN c R d) i, B), ⟨(stI_n (P := fun d => lotN 100 (nI (gS c)) (8 * R 28 + nI d) < dmN c R d) z).symm, WK_58 h2 b1, fB⟩, ?_⟩
      rw [key 0 (if_neg z).symm, if_pos rfl]
  · rintro f ⟨x, t⟩ ⟨h1, h2, h3⟩
    dsimp only at h1 h2 h3
    subst h1
    refine ⟨t, ?_, h3⟩
    dsimp only
    rw [Md_darkDials_4, h2.1.2.1, if_pos (by rw [leP (by omega) (by omega)]; omega)]
theorem cnt_7M (hN : 1000 ≤ N) (hc : gOk c) (hM : gM c v M) (hr : rM M R) (h50 : M.1 64 50 = nI (gS c)) : ∃ A, Mo_count_206 N N 0 0 M = some (stI (fun d => lotN 100 (nI (gS c)) (8 * R 28 + nI d) < dmN c R d) (gD c), A) ∧ frP M A := by
  obtain ⟨hc1, hc2, hc3, hc4, hc5, hc6⟩ := id hc
  refine iter (F := fun f i (s : Int32 × mS) => Mo_count_206 N f s.1 (nI i) s.2) (i := 0) (f := N) (s := ((0 : Int32), M)) (n := gD c) (Q := fun r => ∃ A, r = some (stI (fun d => lotN 100 (nI (gS c)) (8 * R 28 + nI d) < dmN c R d) (gD c), A) ∧ frP M A) (fun i s => s.1 = stI (fun d => lotN 100 (nI (gS c)) (8 * R 28 + nI d) < dmN c R d) i ∧ frL M s.2) ?_ ?_ (Nat.zero_le _) (by omega) ⟨rfl, frL.refl⟩
  · rintro f i ⟨x, t⟩ hi ⟨h1, h2⟩
    dsimp only at h1 h2
    subst h1
    obtain ⟨m0, m1, m2, m3, m4, -⟩ := id (h2.gM hM)
    obtain ⟨B, eB, fB⟩ := isDim_s (N := N) hN hc (h2.gM hM) (h2.rM hr) hi
    rw [h2.1 64 50 (by omega) (by omega) (by omega), h50] at eB
    have key : ∀ y, y = (if lotN 100 (nI (gS c)) (8 * R 28 + nI i) < dmN c R i then (1 : Int32) else 0) → Mo_count_206 N (f + 1) (stI (fun d => lotN 100 (nI (gS c)) (8 * R 28 + nI d) < dmN c R d) i) (nI i) t = if y = 0 then Mo_count_206 N f (stI (fun d => lotN 100 (nI (gS c)) (8 * R 28 + nI d) < dmN c R d) i) (nI (i + 1)) B else Mo_count_206 N f (stI (fun d => lotN 100 (nI (gS c)) (8 * R 28 + nI d) < dmN c R d) i ||| nI (2 ^ i)) (nI (i + 1)) B := by
      rintro y rfl
      rw [Mo_count_206, m1, grd_in m0 (by omega), clp (by omega), m3, if_neg (by rw [leP (by omega) (by omega)]; omega), eB, bWs, nxs, shlg (by omega)]
      unfold Mo_count_233
      rw [show nI i + 1 = nI (i + 1) from nI_add i 1]
    by_cases z : lotN 100 (nI (gS c)) (8 * R 28 + nI i) < dmN c R i
    · refine Or.inl ⟨(stI (fun d => lotN 100 (nI (gS c)) (8 * R 28 + nI d) < dmN c R d) i ||| nI (2 ^ i), B), ⟨(stI_y (P := fun d => lotN 100 (nI (gS c)) (8 * R 28 + nI d) < dmN c R d) z).symm, h2.trans fB⟩, ?_⟩
      rw [key 1 (if_pos z).symm, if_neg (by decide)]
    · refine Or.inl ⟨(stI (fun d => lotN 100 (nI (gS c)) (8 * R 28 + nI d) < dmN c R d) i, B), ⟨(stI_n (P := fun d => lotN 100 (nI (gS c)) (8 * R 28 + nI d) < dmN c R d) z).symm, h2.trans fB⟩, ?_⟩
      rw [key 0 (if_neg z).symm, if_pos rfl]
  · rintro f ⟨x, t⟩ ⟨h1, h2⟩
    dsimp only at h1 h2
    subst h1
    obtain ⟨m0, m1, m2, m3, m4, -⟩ := id (h2.gM hM)
    refine ⟨t, ?_, h2.frP⟩
    dsimp only
    rw [Mo_count_206, m1, grd_in m0 (by omega), clp (by omega), m3, if_pos (by rw [leP (by omega) (by omega)]; omega)]
end
theorem bc_3 {s : Nat} {p : Nat → Bool} (hs : s < 8) (h : ∀ k, k < 3 → s.testBit k = p k) : bc (nI s) = ((if p 0 = true then (1 : Int32) else 0) + (if p 1 = true then 1 else 0)) + (if p 2 = true then 1 else 0) := by
  rw [bc_8 s hs, h 0 (by omega), h 1 (by omega), h 2 (by omega)]
/-- what the model answers, once the night is filled -/
theorem cnt_B {N : Nat} {c : gar} {v : Nat} {R : Nat → Int32} {X : aux} {M : mS} (hN : 1000 ≤ N) (hc : gOk c) (hM : MI c v R X M) (hR : VR c R) : ∃ B1 B, Mo_copiesStill N M = some B1 ∧ Mo_fillsThere N B1 = some B ∧ (∀ g, g < 5 → B.1 97 g = th c none R g) ∧ rM B R ∧ B.1 64 50 = nI (gS c) ∧ gM c v B ∧ MI c v R X B ∧ frP M B := by
  obtain ⟨B1, B, eB1, eB, b1, b2, b3, b4, b5, b6⟩ := fillThis_s (N := N) hN hc hM hR
  exact ⟨B1, B, eB1, eB, b1, b2, b4, b5, MI_p hM b6, b6⟩
theorem x17 (x : Int32) : (∃ k, k < 17 ∧ x = nI k) ∨ ∀ k, k < 17 → ¬ x = nI k := by
  rcases arg_c x 17 (by omega) with h | h
  · exact Or.inl h
  · exact Or.inr (fun k hk => outr_ne h hk (by omega))
theorem call_count {N : Nat} {M : mS} (hN : 1000 ≤ N) (h : INV M) (x : Int32) : ∃ r A B, Md_count N x M = some (r, A) ∧ Mo_count N x A = some (r, B) ∧ INV B := by
  obtain ⟨c, v, R, X, hc, hC, hM⟩ := h
  obtain ⟨hc1, hc2, hc3, hc4, hc5, hc6⟩ := id hc
  obtain ⟨C1, C2, C3, C4, C5, C6, C7, C8⟩ := id hC
  -- a count that the class tells without looking
  have easy : ∀ r, Md_count N x M = some (r, M) → (∀ B1 B, Mo_copiesStill N M = some B1 → Mo_fillsThere N B1 = some B → (∀ g, g < 5 → B.1 97 g = th c none R g) → rM B R → B.1 64 50 = nI (gS c) → gM c v B → MI c v R X B → Mo_count N x M = some (r, B)) → ∃ r A B, Md_count N x M = some (r, A) ∧ Mo_count N x A = some (r, B) ∧ INV B := by
    intro r h1 h2
    obtain ⟨B1, B, eB1, eB, b1, b2, b3, b4, b5, b6⟩ := cnt_B (N := N) hN hc hM C2.2.2.1
    exact ⟨r, M, B, h1, h2 B1 B eB1 eB b1 b2 b3 b4 b5, INV_q hc hC hM frQ.refl b6⟩
  -- one that sees the night
  obtain ⟨A, eA, wA, sA, fA⟩ := seeThis_s (N := N) hN hc C1 C2
  have fQ : frQ M A := fA.frQ
  have late : ∀ r A', Md_count N x M = some (r, A') → frQ A A' → (∀ B1 B, Mo_copiesStill N A' = some B1 → Mo_fillsThere N B1 = some B → (∀ g, g < 5 → B.1 97 g = th c none R g) → rM B R → B.1 64 50 = nI (gS c) → gM c v B → MI c v R X B → ∃ D, Mo_count N x A' = some (r, D) ∧ frP B D) → ∃ r A B, Md_count N x M = some (r, A) ∧ Mo_count N x A = some (r, B) ∧ INV B := by
    intro r A' h1 f1 h2
    have f2 := fQ.trans f1
    obtain ⟨B1, B, eB1, eB, b1, b2, b3, b4, b5, b6⟩ := cnt_B (N := N) hN hc (MI_u hM f2.frU) C2.2.2.1
    obtain ⟨D, eD, fD⟩ := h2 B1 B eB1 eB b1 b2 b3 b4 b5
    exact ⟨r, A', D, h1, eD, INV_q hc hC hM f2 (b6.trans fD)⟩
  rcases x17 x with ⟨k, hk, rfl⟩ | hx
  · obtain rfl | rfl | rfl | rfl | rfl | rfl | rfl | rfl | rfl | rfl | rfl | rfl | rfl | rfl | rfl | rfl | rfl : k = 0 ∨ k = 1 ∨ k = 2 ∨ k = 3 ∨ k = 4 ∨ k = 5 ∨ k = 6 ∨ k = 7 ∨ k = 8 ∨ k = 9 ∨ k = 10 ∨ k = 11 ∨ k = 12 ∨ k = 13 ∨ k = 14 ∨ k = 15 ∨ k = 16 := by omega
    · refine easy (nI (gH c)) ?_ (fun B1 B eB1 eB b1 b2 b3 b4 b5 => ?_)
      · rw [Md_count, if_pos (by decide), C1.1]
      · rw [Mo_count, eB1, bVs, eB, bVs, if_pos (by decide), hours_s b4, bRs]
    · refine easy (nI (gD c)) ?_ (fun B1 B eB1 eB b1 b2 b3 b4 b5 => ?_)
      · rw [Md_count, if_neg (by decide), if_pos (by decide), C1.2.1]
      · rw [Mo_count, eB1, bVs, eB, bVs, if_neg (by decide), if_pos (by decide), b4.2.1, grd_in b4.1 (by omega), clp (by have := b4.1; omega), b4.2.2.2.1]
    · refine easy (nI (gG c)) ?_ (fun B1 B eB1 eB b1 b2 b3 b4 b5 => ?_)
      · rw [Md_count, if_neg (by decide), if_neg (by decide), if_pos (by decide), C1.2.2.1]
      · rw [Mo_count, eB1, bVs, eB, bVs, if_neg (by decide), if_neg (by decide), if_pos (by decide), b4.2.1, grd_in b4.1 (by omega), clp (by have := b4.1; omega), b4.2.2.2.2.1]
    · refine easy (R 28) ?_ (fun B1 B eB1 eB b1 b2 b3 b4 b5 => ?_)
      · rw [Md_count]; iterate 3 rw [if_neg (by decide)]
        rw [if_pos (by decide), C2.1.1]
      · rw [Mo_count, eB1, bVs, eB, bVs]; iterate 3 rw [if_neg (by decide)]
        rw [if_pos (by decide), b2 28 (by omega)]
    · refine easy (sumI (fun k => R (18 + k)) 10) ?_ (fun B1 B eB1 eB b1 b2 b3 b4 b5 => ?_)
      · rw [Md_count]; iterate 4 rw [if_neg (by decide)]
        rw [if_pos (by decide), cnt_4C hN hc C1 C2, bRs, psI_t (W := fun k => R (18 + k)) (fun k hk q => C2.2.2.2 k hk q)]
      · rw [Mo_count, eB1, bVs, eB, bVs]; iterate 4 rw [if_neg (by decide)]
        rw [if_pos (by decide), cnt_4M hN b2]
    · obtain ⟨A', eA', fA'⟩ := cnt_5C (N := N) hN hc wA
      refine late (stI (fun g => ¬ gL c 0 (vG c R g) ≤ 0) (gG c)) A' ?_ fA' (fun B1 B eB1 eB b1 b2 b3 b4 b5 => ?_)
      · rw [Md_count]; iterate 13 rw [if_neg (by decide)]
        rw [Md_countOfNight, eA, bVs, if_pos (by decide), eA', bWs, bWs]
      · obtain ⟨D, eD, fD⟩ := cnt_5M (N := N) hN hc b4 b2 C2.2.2.1
        refine ⟨D, ?_, fD⟩
        rw [Mo_count, eB1, bVs, eB, bVs]; iterate 5 rw [if_neg (by decide)]
        rw [if_pos (by decide), eD]
    · refine late (nI (2 ^ gH c - 1) &&& (orB (th c none R) (gG c) ^^^ (-1))) A ?_ frQ.refl (fun B1 B eB1 eB b1 b2 b3 b4 b5 => ⟨B, ?_, frP.refl⟩)
      · rw [Md_count]; iterate 13 rw [if_neg (by decide)]
        rw [Md_countOfNight, eA, bVs, if_neg (by decide), if_pos (by decide), wA.1.1, allHours_s (by omega), sA.2.1, bWs]
      · rw [Mo_count, eB1, bVs, eB, bVs]; iterate 6 rw [if_neg (by decide)]
        rw [if_pos (by decide), hours_s b4, bRs, Mo_anyBits, anyB_s hN b1, bRs, bRs, orB_5 hc, shlg (by omega), show nI (2 ^ gH c) - 1 = nI (2 ^ gH c - 1) from sbP (b := 1) (Nat.two_pow_pos _)]
    · obtain ⟨A', eA', fA'⟩ := cnt_7C (N := N) hN hc wA
      refine late (stI (fun d => lotN 100 (nI (gS c)) (8 * R 28 + nI d) < dmN c R d) (gD c)) A' ?_ fA' (fun B1 B eB1 eB b1 b2 b3 b4 b5 => ?_)
      · rw [Md_count]; iterate 13 rw [if_neg (by decide)]
        rw [Md_countOfNight, eA, bVs, if_neg (by decide), if_neg (by decide), if_pos (by decide), eA', bWs, bWs]
      · obtain ⟨D, eD, fD⟩ := cnt_7M (N := N) hN hc b4 b2 b3
        refine ⟨D, ?_, fD⟩
        rw [Mo_count, eB1, bVs, eB, bVs]; iterate 7 rw [if_neg (by decide)]
        rw [if_pos (by decide), eD]
    · refine easy (nI (xT X)) ?_ (fun B1 B eB1 eB b1 b2 b3 b4 b5 => ?_)
      · rw [Md_count]; iterate 5 rw [if_neg (by decide)]
        rw [if_pos (by decide), C3.1]
      · rw [Mo_count, eB1, bVs, eB, bVs]; iterate 8 rw [if_neg (by decide)]
        rw [if_pos (by decide), b5.2.2.1.1]
    · refine easy (nI (xU X)) ?_ (fun B1 B eB1 eB b1 b2 b3 b4 b5 => ?_)
      · rw [Md_count]; iterate 6 rw [if_neg (by decide)]
        rw [if_pos (by decide), C5.2.2.1]
      · rw [Mo_count, eB1, bVs, eB, bVs]; iterate 9 rw [if_neg (by decide)]
        rw [if_pos (by decide), b5.2.2.2.2.1.1]
    · refine easy (nI (xN X)) ?_ (fun B1 B eB1 eB b1 b2 b3 b4 b5 => ?_)
      · rw [Md_count]; iterate 7 rw [if_neg (by decide)]
        rw [if_pos (by decide), C7.2.1]
      · rw [Mo_count, eB1, bVs, eB, bVs]; iterate 10 rw [if_neg (by decide)]
        rw [if_pos (by decide), b5.2.2.2.2.2.2.1.1]
    · obtain ⟨-, s, hs, e14, hbits⟩ := C6
      refine easy (((if xS X 0 = true then (1 : Int32) else 0) + (if xS X 1 = true then 1 else 0)) + (if xS X 2 = true then 1 else 0)) ?_ (fun B1 B eB1 eB b1 b2 b3 b4 b5 => ?_)
      · rw [Md_count]; iterate 8 rw [if_neg (by decide)]
        rw [if_pos (by decide), e14, bc_of, bc_3 hs (fun k hk => (hbits k hk).1)]
      · have s0 := (b5.2.2.2.2.2.1 0 (by omega)).1
        have s1 := (b5.2.2.2.2.2.1 1 (by omega)).1
        have s2 := (b5.2.2.2.2.2.1 2 (by omega)).1
        rw [Mo_count, eB1, bVs, eB, bVs]; iterate 11 rw [if_neg (by decide)]
        rw [if_pos (by decide), s0]
        cases h0 : xS X 0 <;> cases h1 : xS X 1 <;> cases h2 : xS X 2 <;> rw [h1] at s1 <;> rw [h2] at s2 <;> simp [Mo_count_270, Mo_count_284, s1, s2]
    · refine easy (stI (fun d => R d = 0) (gD c)) ?_ (fun B1 B eB1 eB b1 b2 b3 b4 b5 => ?_)
      · rw [Md_count]; iterate 9 rw [if_neg (by decide)]
        rw [if_pos (by decide), cnt_12C hN hc C1 C2, bRs]
      · rw [Mo_count, eB1, bVs, eB, bVs]; iterate 12 rw [if_neg (by decide)]
        rw [if_pos (by decide), cnt_12M hN hc b4 b2]
    · refine late (tw (th c none R) (gG c)) A ?_ frQ.refl (fun B1 B eB1 eB b1 b2 b3 b4 b5 => ⟨B, ?_, frP.refl⟩)
      · rw [Md_count]; iterate 13 rw [if_neg (by decide)]
        rw [Md_countOfNight, eA, bVs]; iterate 3 rw [if_neg (by decide)]
        rw [if_pos (by decide), sA.2.2, bWs]
      · rw [Mo_count, eB1, bVs, eB, bVs]; iterate 13 rw [if_neg (by decide)]
        rw [if_pos (by decide), cnt_13M hN hc b1, bRs]
    · refine easy (sumI (fun k => if R (18 + k) ≤ 0 then 0 else 1) 10) ?_ (fun B1 B eB1 eB b1 b2 b3 b4 b5 => ?_)
      · rw [Md_count]; iterate 10 rw [if_neg (by decide)]
        rw [if_pos (by decide), cnt_14C hN hc C1 C2, bRs, psI_t (W := fun k => if R (18 + k) ≤ 0 then 0 else 1) (fun k hk q => by
          show (if R (18 + k) ≤ 0 then (0 : Int32) else 1) = 0
          rw [C2.2.2.2 k hk q]; rfl)]
      · rw [Mo_count, eB1, bVs, eB, bVs]; iterate 14 rw [if_neg (by decide)]
        rw [if_pos (by decide), cnt_14M hN b2]
    · refine easy (idI (gD c) R (gG c)) ?_ (fun B1 B eB1 eB b1 b2 b3 b4 b5 => ?_)
      · rw [Md_count]; iterate 11 rw [if_neg (by decide)]
        rw [if_pos (by decide), cnt_15C hN hc C1 C2, bRs]
      · rw [Mo_count, eB1, bVs, eB, bVs]; iterate 15 rw [if_neg (by decide)]
        rw [if_pos (by decide), cnt_15M hN hc b4 b2, bRs]
    · refine easy (stI (fun g => R (13 + g) = 0) (gG c)) ?_ (fun B1 B eB1 eB b1 b2 b3 b4 b5 => ?_)
      · rw [Md_count]; iterate 12 rw [if_neg (by decide)]
        rw [if_pos (by decide), cnt_16C hN hc C1 C2, bRs]
      · rw [Mo_count, eB1, bVs, eB, bVs]; iterate 16 rw [if_neg (by decide)]
        rw [if_pos (by decide), cnt_16M hN hc b4 b2]
  · refine late (-1) A ?_ frQ.refl (fun B1 B eB1 eB b1 b2 b3 b4 b5 => ⟨B, ?_, frP.refl⟩)
    · rw [Md_count, if_neg (show ¬ x = 0 from hx 0 (by omega)), if_neg (show ¬ x = 1 from hx 1 (by omega)), if_neg (show ¬ x = 2 from hx 2 (by omega)), if_neg (show ¬ x = 3 from hx 3 (by omega)), if_neg (show ¬ x = 4 from hx 4 (by omega)), if_neg (show ¬ x = 8 from hx 8 (by omega)), if_neg (show ¬ x = 9 from hx 9 (by omega)), if_neg (show ¬ x = 10 from hx 10 (by omega)), if_neg (show ¬ x = 11 from hx 11 (by omega)), if_neg (show ¬ x = 12 from hx 12 (by omega)), if_neg (show ¬ x = 14 from hx 14 (by omega)), if_neg (show ¬ x = 15 from hx 15 (by omega)), if_neg (show ¬ x = 16 from hx 16 (by omega)), Md_countOfNight, eA, bVs, if_neg (show ¬ x = 5 from hx 5 (by omega)), if_neg (show ¬ x = 6 from hx 6 (by omega)), if_neg (show ¬ x = 7 from hx 7 (by omega)), if_neg (show ¬ x = 13 from hx 13 (by omega)), bWs]
    · rw [Mo_count, eB1, bVs, eB, bVs, if_neg (show ¬ x = 0 from hx 0 (by omega)), if_neg (show ¬ x = 1 from hx 1 (by omega)), if_neg (show ¬ x = 2 from hx 2 (by omega)), if_neg (show ¬ x = 3 from hx 3 (by omega)), if_neg (show ¬ x = 4 from hx 4 (by omega)), if_neg (show ¬ x = 5 from hx 5 (by omega)), if_neg (show ¬ x = 6 from hx 6 (by omega)), if_neg (show ¬ x = 7 from hx 7 (by omega)), if_neg (show ¬ x = 8 from hx 8 (by omega)), if_neg (show ¬ x = 9 from hx 9 (by omega)), if_neg (show ¬ x = 10 from hx 10 (by omega)), if_neg (show ¬ x = 11 from hx 11 (by omega)), if_neg (show ¬ x = 12 from hx 12 (by omega)), if_neg (show ¬ x = 13 from hx 13 (by omega)), if_neg (show ¬ x = 14 from hx 14 (by omega)), if_neg (show ¬ x = 15 from hx 15 (by omega)), if_neg (show ¬ x = 16 from hx 16 (by omega))]
