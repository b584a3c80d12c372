/-! SETS of goers; meet -/
def setA (c : gar) (x : Int32) : Prop := ∃ n, n < 2 ^ gG c ∧ x = nI n ∧ 2 ≤ pc n 24
theorem pow5 {G : Nat} (h : G ≤ 5) : 2 ^ G ≤ 32 := Nat.pow_le_pow_right (n := 2) (by omega) h
theorem isSet_y {c : gar} {M : mS} {n : Nat} (hc : gOk c) (hM : gC c M) (h : n < 2 ^ gG c) (h2 : 2 ≤ pc n 24) : Md_isSet (nI n) M = 1 := by
  have hG := hc.2.2.2.1
  have hp := pow5 hG
  have hl := pc_le n 24
  unfold Md_isSet
  rw [hM.2.2.1, show nI n >>> (nI (gG c) &&& 31) = nI (n / 2 ^ gG c) from sar (by omega) (by omega), Nat.div_eq_of_lt h, if_pos (by decide), bc_of, bc_n (by omega), if_neg (by rw [show (2 : Int32) = nI 2 from rfl, ltP (by omega) (by omega)]; omega)]
theorem isGroup_y {N : Nat} {c : gar} {v : Nat} {M : mS} {n : Nat} (hN : 1000 ≤ N) (hc : gOk c) (hM : gM c v M) (h : n < 2 ^ gG c) (h2 : 2 ≤ pc n 24) : Mo_isGroup N (nI n) M = some 1 := by
  have hG := hc.2.2.2.1
  have hp := pow5 hG
  have hl := pc_le n 24
  obtain ⟨h0, h1, -, -, h4, -⟩ := hM
  unfold Mo_isGroup
  rw [if_neg (nI_pos (by omega)), h1, grd_in h0 (by omega), clp (by omega), h4, show (1 : Int32) <<< (nI (gG c) &&& 31) = nI (2 ^ gG c) from shl1 (by omega), if_neg (by rw [leP (by omega) (by omega)]; omega), Mo_bits_n hN (by omega), bRs, if_neg (by rw [i1, leP (by omega) (by omega)]; omega)]
theorem neg_b31 {x : Int32} (h : x < 0) : bt x 31 = true := by
  rw [fa_lt] at h
  have e : x.toBitVec.msb = decide (x.toBitVec.toInt < 0) := BitVec.msb_eq_toInt
  have e2 : x.toBitVec.toInt < 0 := h
  rw [decide_eq_true e2, BitVec.msb_eq_getLsbD_last] at e
  exact e
theorem isSet_n {c : gar} {M : mS} {x : Int32} (hc : gOk c) (hM : gC c M) (h : ¬ setA c x) : Md_isSet x M = 0 := by
  have hG := hc.2.2.2.1
  have hp := pow5 hG
  unfold Md_isSet
  rw [hM.2.2.1]
  by_cases q : x < 0
  · rw [if_neg]
    intro e
    have h1 := b_sshr (gG c) (by omega) x (i := 31) (by omega)
    rw [show x >>> (nI (gG c) &&& 31) = 0 from e, b_0] at h1
    have h2 := neg_b31 q
    by_cases z : gG c + 31 < 32
    · rw [if_pos z, show gG c + 31 = 31 by omega, h2] at h1; cases h1
    · rw [if_neg z, h2] at h1; cases h1
  · obtain ⟨n, hn, rfl⟩ := nI_of q
    rw [show nI n >>> (nI (gG c) &&& 31) = nI (n / 2 ^ gG c) from sar hn (by omega)]
    have hdl : n / 2 ^ gG c ≤ n := Nat.div_le_self _ _
    by_cases z : n < 2 ^ gG c
    · have hl := pc_le n 24
      rw [Nat.div_eq_of_lt z, if_pos (by decide), bc_of, bc_n (by omega), if_pos]
      rw [show (2 : Int32) = nI 2 from rfl, ltP (by omega) (by omega)]
      exact Classical.byContradiction fun w => h ⟨n, z, rfl, by omega⟩
    · rw [if_neg]
      have : 1 ≤ n / 2 ^ gG c := (Nat.one_le_div_iff (Nat.two_pow_pos _)).mpr (by omega)
      rw [li0, eqP (by omega) (by omega)]; omega
theorem isGroup_n {N : Nat} {c : gar} {v : Nat} {M : mS} {x : Int32} (hN : 1000 ≤ N) (hc : gOk c) (hM : gM c v M) (h : ¬ setA c x) : Mo_isGroup N x M = some 0 := by
  have hG := hc.2.2.2.1
  have hp := pow5 hG
  obtain ⟨h0, h1, -, -, h4, -⟩ := hM
  unfold Mo_isGroup
  by_cases q : x < 0
  · rw [if_pos q]
  · obtain ⟨n, hn, rfl⟩ := nI_of q
    rw [if_neg q, h1, grd_in h0 (by omega), clp (by omega), h4, show (1 : Int32) <<< (nI (gG c) &&& 31) = nI (2 ^ gG c) from shl1 (by omega)]
    by_cases z : n < 2 ^ gG c
    · have hl := pc_le n 24
      rw [if_neg (by rw [leP (by omega) (by omega)]; omega), Mo_bits_n hN (by omega), bRs, if_pos]
      rw [i1, leP (by omega) (by omega)]
      exact Classical.byContradiction fun w => h ⟨n, z, rfl, by omega⟩
    · rw [if_pos (by rw [leP (by omega) (by omega)]; omega)]
/-! the hours of all of a set -/
def alB (H : Nat) (f : Nat → Int32) (s : Nat) : Nat → Int32
  | 0 => nI (2 ^ H - 1)
  | g + 1 => if s / 2 ^ g % 2 = 1 then alB H f s g &&& f g else alB H f s g
theorem alB_s {H : Nat} {f : Nat → Int32} {s g : Nat} : alB H f s (g + 1) = if s / 2 ^ g % 2 = 1 then alB H f s g &&& f g else alB H f s g := rfl
theorem alB_sml {H : Nat} {f : Nat → Int32} {s : Nat} (hH : H ≤ 24) : ∀ {g : Nat}, sml (alB H f s g)
  | 0 => ⟨2 ^ H - 1, by have : 2 ^ H ≤ 2 ^ 24 := Nat.pow_le_pow_right (by omega) hH; omega, rfl⟩
  | g + 1 => by
    rw [alB_s]
    split
    · exact sml_and (alB_sml hH)
    · exact alB_sml hH
theorem hoursOfAll_s {N : Nat} {c : gar} {M : mS} {f : Nat → Int32} {s : Nat} (hN : 1000 ≤ N) (hc : gOk c) (hM : gC c M) (hf : ∀ g, g < gG c → M.1 41 g = f g) (hs : s < 2147483648) : Mt_hoursOfAll N (nI s) M = some (alB (gH c) f s (gG c)) := by
  obtain ⟨hc1, hc2, hc3, hc4, hc5, hc6⟩ := id hc
  unfold Mt_hoursOfAll
  rw [hM.1, allHours_s (by omega), nxs]
  refine iter (F := fun k i (t : Int32) => Mt_hoursOfAll_13 N M k (nI s) t (nI i)) (n := gG c) (Q := fun r => r = some (alB (gH c) f s (gG c))) (fun i t => t = alB (gH c) f s i) ?_ ?_ (Nat.zero_le _) (by omega) rfl
  · rintro k i t hi rfl
    refine Or.inl ⟨_, rfl, ?_⟩
    have hb : s / 2 ^ i % 2 < 2 := Nat.mod_lt _ (by omega)
    rw [Mt_hoursOfAll_13, hM.2.2.1, if_neg (by rw [leP (by omega) (by omega)]; omega), show nI s >>> (nI i &&& 31) &&& 1 = nI (s / 2 ^ i % 2) from sar1 hs (by omega), alB_s]
    unfold Mt_hoursOfAll_44
    by_cases z : s / 2 ^ i % 2 = 1
    · rw [if_pos z, z, if_neg (by decide), grd_in (by omega) (by omega), clp (by omega), hf i hi, nxs, show nI i + 1 = nI (i + 1) from nI_add i 1]
    · rw [if_neg z, show s / 2 ^ i % 2 = 0 by omega, if_pos (by decide), show nI i + 1 = nI (i + 1) from nI_add i 1]
  · rintro k t rfl
    rw [Mt_hoursOfAll_13, hM.2.2.1, if_pos (by rw [leP (by omega) (by omega)]; omega)]
theorem allBits_s {N : Nat} {c : gar} {v n k : Nat} {R : Nat → Int32} {B : mS} {s : Nat} (hN : 1000 ≤ N) (hk : k ≤ n) (hn : n ≤ 400) (hc : gOk c) (hM : gM c v B) (hF : FILL c R n B) (hs : s < 2147483648) : Mo_allBits N (nI s) (nI k) B = some (alB (gH c) (tK c R k) s (gG c)) := by
  obtain ⟨hc1, hc2, hc3, hc4, hc5, hc6⟩ := id hc
  have hh := hours_s (N := N) hM
  obtain ⟨h0, h1, h2, h3, h4, -⟩ := hM
  have hp : 2 ^ gH c ≤ 2 ^ 24 := Nat.pow_le_pow_right (by omega) hc2
  have hp0 := Nat.two_pow_pos (gH c)
  unfold Mo_allBits
  rw [hh, bRs, show (1 : Int32) <<< (nI (gH c) &&& 31) = nI (2 ^ gH c) from shl1 (by omega), i1, sbP (by omega), nxs]
  refine iter (F := fun f i (t : Int32) => Mo_allBits_12 N B f (nI s) (nI k) t (nI i)) (n := gG c) (Q := fun r => r = some (alB (gH c) (tK c R k) s (gG c))) (fun i t => t = alB (gH c) (tK c R k) s i) ?_ ?_ (Nat.zero_le _) (by omega) rfl
  · rintro f i t hi rfl
    refine Or.inl ⟨_, rfl, ?_⟩
    have e1 := (hF k hk i hi).1
    rw [Mo_allBits_12, h1, grd_in h0 (by omega), clp (by omega), h4, if_neg (by rw [leP (by omega) (by omega)]; omega), show nI s >>> (nI i &&& 31) &&& 1 = nI (s / 2 ^ i % 2) from sar1 hs (by omega), alB_s]
    unfold Mo_allBits_50
    have hb : s / 2 ^ i % 2 < 2 := Nat.mod_lt _ (by omega)
    by_cases z : s / 2 ^ i % 2 = 1
    · rw [if_pos z, z, if_pos (by decide), show (5 : Int32) * nI k = nI (5 * k) from pk_mul 5 k, nI_add, grd_in (by omega) (by omega), clp (by omega), e1, nxs, show nI i + 1 = nI (i + 1) from nI_add i 1]
    · rw [if_neg z, show s / 2 ^ i % 2 = 0 by omega, if_neg (by decide), show nI i + 1 = nI (i + 1) from nI_add i 1]
  · rintro f t rfl
    rw [Mo_allBits_12, h1, grd_in h0 (by omega), clp (by omega), h4, if_pos (by rw [leP (by omega) (by omega)]; omega)]
noncomputable def alK (c : gar) (R : Nat → Int32) (s k : Nat) : Int32 := alB (gH c) (tK c R k) s (gG c)
noncomputable def mtP (c : gar) (R : Nat → Int32) (s k : Nat) : Bool := by classical exact decide (alK c R s k ≠ 0)
theorem mtP_f {c : gar} {R : Nat → Int32} {s k : Nat} (h : alK c R s k = 0) : mtP c R s k = false := decide_eq_false (fun q => q h)
theorem mtP_t {c : gar} {R : Nat → Int32} {s k : Nat} (h : ¬ alK c R s k = 0) : mtP c R s k = true := decide_eq_true h
theorem firstNight_s {N : Nat} {c : gar} {R : Nat → Int32} {M : mS} {s n : Nat} (hN : 1000 ≤ N) (hc : gOk c) (h : WK c M R) (hs : s < 2147483648) (hn : n ≤ 400) : ∃ A, Mt_firstNight N (nI s) (nI n) M = some (fstA (mtP c R s) (n + 1), A) ∧ frQ M A ∧ (∀ k, k ≤ n → fstA (mtP c R s) (n + 1) = nI k → A.1 44 0 = alK c R s k) := by
  unfold Mt_firstNight
  refine iter (F := fun f i (t : mS) => Mt_firstNight_2 N f (nI s) (nI n) (nI i) t) (i := 0) (f := N) (s := M) (n := n + 1) (Q := fun r => ∃ A, r = some (fstA (mtP c R s) (n + 1), A) ∧ frQ M A ∧ (∀ k, k ≤ n → fstA (mtP c R s) (n + 1) = nI k → A.1 44 0 = alK c R s k)) (fun i t => (∀ k, k < i → mtP c R s k = false) ∧ WK c t (nxn c none R i) ∧ frQ M t) ?_ ?_ (Nat.zero_le _) (by omega) ⟨fun k hk => absurd hk (Nat.not_lt_zero _), h, frQ.refl⟩
  · rintro f i t hi ⟨h1, h2, h3⟩
    obtain ⟨B1, b1, b2, b3, b4⟩ := night_W hN hc h2
    have ha := hoursOfAll_s (N := N) (M := B1) hN hc b2.1 b3.1 hs
    have f1 : frQ M (mWI B1 44 0 (alK c R s i)) := (h3.trans b4.frQ).wI (by omega)
    have key : Mt_firstNight_2 N (f + 1) (nI s) (nI n) (nI i) t = if alK c R s i = 0 then (bV (Wk_pass N (mWI B1 44 0 (alK c R s i))) fun M7 => Mt_firstNight_2 N f (nI s) (nI n) (nI (i + 1)) M7) else some (nI i, mWI B1 44 0 (alK c R s i)) := by
      rw [Mt_firstNight_2, if_neg (by rw [ltP (by omega) (by omega)]; omega), b1, bVs, ha, bRs, nxs, rI rfl, show nI i + 1 = nI (i + 1) from nI_add i 1]
      rfl
    by_cases z : alK c R s i = 0
    · have w2 : WK c (mWI B1 44 0 (alK c R s i)) (nxn c none R i) := by
        obtain ⟨q1, q2, q3, q4⟩ := b2
        refine ⟨gC_fr q1 (fun a j q => by rw [mWI_ne (by omega)]), by rw [mWI_ne (by omega)]; exact q2, q3, fun p7 p0 p1 g hg => ?_⟩
        rw [mWI_ne (by omega)] at p7 ⊢
        rw [changes_c (by rw [mWI_ne (by omega)])] at p0 p1
        exact q4 p7 p0 p1 g hg
      have s2 : SEEN c none (mWI B1 44 0 (alK c R s i)) (nxn c none R i) := by
        unfold SEEN; rw [mWI_ne (by omega), mWI_ne (by omega)]; exact b3
      obtain ⟨B2, d1, d2, d3⟩ := pass_W hN hc w2 s2
      refine Or.inl ⟨B2, ⟨snoc_f h1 (mtP_f z), d2, f1.trans d3.frQ⟩, ?_⟩
      rw [key, if_pos z, d1, bVs]
    · refine Or.inr ⟨mWI B1 44 0 (alK c R s i), ?_, f1, fun k hk e => ?_⟩
      · rw [key, if_neg z, fstA_at h1 (mtP_t z) hi]
      · rw [fstA_at h1 (mtP_t z) hi, eqP (by omega) (by omega)] at e
        rw [rI rfl, e]
  · rintro f t ⟨h1, h2, h3⟩
    refine ⟨t, ?_, h3, fun k hk e => ?_⟩
    · rw [fstA_none h1, Mt_firstNight_2, if_pos (by rw [ltP (by omega) (by omega)]; omega)]
    · rw [fstA_none h1] at e
      exfalso
      have h4 := congrArg Int32.toInt e
      rw [nI_toInt (by omega)] at h4
      have : (-2 : Int32).toInt = -2 := by decide
      omega
theorem firstMeet_s {N : Nat} {c : gar} {v n L : Nat} {R : Nat → Int32} {B : mS} {s : Nat} (hN : 1000 ≤ N) (hnL : n ≤ L) (hn : L ≤ 400) (hc : gOk c) (hM : gM c v B) (hF : FILL c R L B) (hs : s < 2147483648) : Mo_firstMeet N (nI s) (nI n) B = some (fstA (mtP c R s) (n + 1)) := by
  unfold Mo_firstMeet
  refine iter (F := fun f i (t : Unit) => Mo_firstMeet_2 N B f (nI s) (nI n) (nI i)) (i := 0) (f := N) (s := ()) (n := n + 1) (Q := fun r => r = some (fstA (mtP c R s) (n + 1))) (fun i t => ∀ k, k < i → mtP c R s k = false) ?_ ?_ (Nat.zero_le _) (by omega) (fun k hk => absurd hk (Nat.not_lt_zero _))
  · rintro f i t hi h1
    have ha := allBits_s (N := N) (k := i) hN (by omega) hn hc hM hF hs
    have key : Mo_firstMeet_2 N B (f + 1) (nI s) (nI n) (nI i) = if alK c R s i = 0 then Mo_firstMeet_2 N B f (nI s) (nI n) (nI (i + 1)) else some (nI i) := by
      rw [Mo_firstMeet_2, if_neg (by rw [ltP (by omega) (by omega)]; omega), ha, bRs, show nI i + 1 = nI (i + 1) from nI_add i 1]
      rfl
    by_cases z : alK c R s i = 0
    · refine Or.inl ⟨(), snoc_f h1 (mtP_f z), ?_⟩
      rw [key, if_pos z]
    · refine Or.inr ?_
      rw [key, if_neg z, fstA_at h1 (mtP_t z) hi]
  · rintro f t h1
    rw [fstA_none h1, Mo_firstMeet_2, if_pos (by rw [ltP (by omega) (by omega)]; omega)]
theorem m2T : (-2 : Int32).toInt = -2 := by decide
theorem fstA_c {p : Nat → Bool} {n : Nat} (hn : n < 2147483648) : (∃ k, k < n ∧ fstA p n = nI k ∧ p k = true) ∨ (fstA p n = -2 ∧ ∀ k, k < n → p k = false) := by
  by_cases q : fa_first p n < n
  · exact Or.inl ⟨fa_first p n, q, if_pos q, fa_first_yes p n q⟩
  · exact Or.inr ⟨if_neg q, fun k hk => fa_first_no p n k (by omega)⟩
theorem ne_m2 {k : Nat} (h : k < 2147483648) : ¬ nI k = -2 := by
  intro e
  have h4 := congrArg Int32.toInt e
  rw [nI_toInt h, m2T] at h4
  omega
/-! the lowest bit -/
theorem odd_part {n : Nat} : 0 < n → ∃ t m, n = 2 ^ t * (2 * m + 1) := by
  induction n using Nat.strongRecOn with
  | _ n ih =>
    intro h
    by_cases q : n % 2 = 1
    · exact ⟨0, n / 2, by omega⟩
    · obtain ⟨t, m, e⟩ := ih (n / 2) (by omega) (by omega)
      refine ⟨t + 1, m, ?_⟩
      rw [Nat.pow_succ, Nat.mul_comm (2 ^ t) 2, Nat.mul_assoc, ← e]; omega
theorem and_compl {m k : Nat} (h : m < 2 ^ k) : m &&& (2 ^ k - (m + 1)) = 0 := by
  apply Nat.eq_of_testBit_eq
  intro i
  rw [Nat.testBit_and, Nat.testBit_two_pow_sub_succ h, Nat.zero_testBit]
  cases m.testBit i <;> simp
theorem and_odd (a b : Nat) : (2 * a + 1) &&& (2 * b + 1) = 2 * (a &&& b) + 1 := by
  apply Nat.eq_of_testBit_eq
  intro i
  rw [Nat.testBit_and]
  cases i with
  | zero => simp
  | succ i =>
    rw [Nat.testBit_succ, Nat.testBit_succ, Nat.testBit_succ, show (2 * a + 1) / 2 = a by omega, show (2 * b + 1) / 2 = b by omega, show (2 * (a &&& b) + 1) / 2 = a &&& b by omega, Nat.testBit_and]
theorem and_sh (t a b : Nat) : (2 ^ t * a) &&& (2 ^ t * b) = 2 ^ t * (a &&& b) := by
  apply Nat.eq_of_testBit_eq
  intro i
  rw [Nat.testBit_and, Nat.testBit_two_pow_mul, Nat.testBit_two_pow_mul, Nat.testBit_two_pow_mul, Nat.testBit_and]
  cases decide (t ≤ i) <;> simp
theorem low_and {t m : Nat} (h : 2 ^ t * (2 * m + 1) < 2 ^ 24) : nI (2 ^ t * (2 * m + 1)) &&& -nI (2 ^ t * (2 * m + 1)) = nI (2 ^ t) ∧ t < 24 := by
  have ht : t < 24 := by
    apply Classical.byContradiction
    intro q
    have h1 : 2 ^ 24 ≤ 2 ^ t := Nat.pow_le_pow_right (by omega) (by omega)
    have h2 := Nat.mul_le_mul h1 (show 1 ≤ 2 * m + 1 by omega)
    omega
  refine ⟨?_, ht⟩
  have hm : m < 2 ^ (31 - t) := by
    have h1 : 2 ^ t * m ≤ 2 ^ t * (2 * m + 1) := Nat.mul_le_mul_left _ (by omega)
    have h2 : 2 ^ t * 2 ^ (31 - t) = 2 ^ 31 := by rw [← Nat.pow_add]; congr 1; omega
    apply Classical.byContradiction
    intro q
    have h3 := Nat.mul_le_mul_left (2 ^ t) (show 2 ^ (31 - t) ≤ m by omega)
    rw [h2] at h3
    omega
  have h32 : 2 ^ t * (2 * (2 ^ (31 - t) - (m + 1)) + 1) = 2 ^ 32 - 2 ^ t * (2 * m + 1) := by
    have h2 : 2 ^ t * 2 ^ (32 - t) = 2 ^ 32 := by rw [← Nat.pow_add]; congr 1; omega
    have h3 : 2 ^ (32 - t) = 2 * 2 ^ (31 - t) := by rw [show 32 - t = 31 - t + 1 by omega, Nat.pow_succ, Nat.mul_comm]
    rw [← h2, ← Nat.mul_sub, h3]
    congr 1
    omega
  have hneg : -nI (2 ^ t * (2 * m + 1)) = nI (2 ^ 32 - 2 ^ t * (2 * m + 1)) := by
    have h5 : 0 < 2 ^ t * (2 * m + 1) := Nat.mul_pos (Nat.two_pow_pos _) (by omega)
    generalize 2 ^ t * (2 * m + 1) = z at *
    apply Int32.toBitVec_inj.1
    rw [Int32.toBitVec_neg]
    show -BitVec.ofNat 32 z = BitVec.ofNat 32 (2 ^ 32 - z)
    apply BitVec.eq_of_toNat_eq
    rw [BitVec.toNat_neg, BitVec.toNat_ofNat, BitVec.toNat_ofNat]
    omega
  rw [hneg, nx_and, ← h32, and_sh, and_odd, and_compl hm, Nat.mul_zero, Nat.zero_add, Nat.mul_one]
theorem pc_ones : ∀ t, t < 24 → pc (2 ^ t - 1) 24 = t := by decide +kernel
theorem firstHour_s {M : mS} {t m : Nat} (h : 2 ^ t * (2 * m + 1) < 2 ^ 24) : Md_firstHour (nI (2 ^ t * (2 * m + 1))) M = nI t := by
  obtain ⟨h1, ht⟩ := low_and h
  have h5 : 0 < 2 ^ t * (2 * m + 1) := Nat.mul_pos (Nat.two_pow_pos _) (by omega)
  have h6 := Nat.two_pow_pos t
  have h7 : 2 ^ t ≤ 2 ^ 23 := Nat.pow_le_pow_right (by omega) (by omega)
  unfold Md_firstHour
  rw [if_neg (nI_ne0 h5 (by omega)), h1, i1, sbP (by omega), bc_of, bc_n (by omega), pc_ones t ht]
theorem lowestOf_s {N : Nat} {M : mS} {t m : Nat} (hN : 1000 ≤ N) (h : 2 ^ t * (2 * m + 1) < 2 ^ 24) : Mo_lowestOf N (nI (2 ^ t * (2 * m + 1))) M = some (nI t) := by
  obtain ⟨-, ht⟩ := low_and h
  have bit : ∀ i, i < t → 2 ^ t * (2 * m + 1) / 2 ^ i % 2 = 0 := by
    intro i hi
    rw [show 2 ^ t = 2 ^ i * (2 * 2 ^ (t - i - 1)) by rw [← Nat.mul_assoc, Nat.mul_comm (2 ^ i) 2, ← Nat.pow_succ', ← Nat.pow_add]; congr 1; omega, Nat.mul_assoc, Nat.mul_div_cancel_left _ (Nat.two_pow_pos i), Nat.mul_assoc, Nat.mul_mod_right]
  have bit2 : 2 ^ t * (2 * m + 1) / 2 ^ t % 2 = 1 := by
    rw [Nat.mul_div_cancel_left _ (Nat.two_pow_pos t)]; omega
  unfold Mo_lowestOf
  refine iter (F := fun f i (s : Unit) => Mo_lowestOf_2 N M f (nI (2 ^ t * (2 * m + 1))) (nI i)) (i := 0) (f := N) (s := ()) (n := t) (Q := fun r => r = some (nI t)) (fun i s => True) ?_ ?_ (Nat.zero_le _) (by omega) trivial
  · rintro f i s hi -
    refine Or.inl ⟨(), trivial, ?_⟩
    rw [Mo_lowestOf_2, show nI (2 ^ t * (2 * m + 1)) >>> (nI i &&& 31) &&& 1 = nI (2 ^ t * (2 * m + 1) / 2 ^ i % 2) from sar1 (by omega) (by omega), bit i hi, if_pos (by decide), show nI i + 1 = nI (i + 1) from nI_add i 1]
  · rintro f s -
    rw [Mo_lowestOf_2, show nI (2 ^ t * (2 * m + 1)) >>> (nI t &&& 31) &&& 1 = nI (2 ^ t * (2 * m + 1) / 2 ^ t % 2) from sar1 (by omega) (by omega), bit2, if_neg (by decide)]
theorem call_meet {N : Nat} {M : mS} (hN : 1000 ≤ N) (h : INV M) (x y : Int32) : ∃ r A B, Md_meet N x y M = some (r, A) ∧ Mo_meet N x y A = some (r, B) ∧ INV B := by
  obtain ⟨c, v, R, X, hc, hC, hM⟩ := h
  obtain ⟨hc1, hc2, hc3, hc4, hc5, hc6⟩ := id hc
  unfold Md_meet Mo_meet
  by_cases q : setA c x
  · obtain ⟨s, hs, rfl, hs2⟩ := q
    have hp := pow5 hc4
    rcases arg_c y 3 (by omega) with ⟨w, hw, rfl⟩ | q
    · obtain ⟨A, eA, wA, fA, rA, -⟩ := beginW (N := N) hc hC.1 hC.2.1.1 hC.2.1.2.2.1
      obtain ⟨A2, eA2, f2, g2⟩ := firstNight_s (N := N) (s := s) (n := 400) hN hc wA (by omega) (by omega)
      have fQ : frQ M A2 := fA.frQ.trans f2
      have hMA := MI_u hM fQ.frU
      obtain ⟨B, eB, b1, b2, b3⟩ := fillsStill_s (N := N) (n := 400) hN (by omega) hc hMA.1 hMA.2.1 hC.2.1.2.2.1
      have em := firstMeet_s (N := N) (s := s) hN (Nat.le_refl 400) (by omega) hc b2 b1 (by omega)
      have hC0 : ∀ r, (if fstA (mtP c R s) 401 = -2 then some (fstA (mtP c R s) 401, A2) else if nI w = 0 then some (fstA (mtP c R s) 401, A2) else if nI w = 1 then some (Md_firstHour (A2.1 44 0) A2, A2) else some (Jl_bitCount (A2.1 44 0) A2, A2)) = some (r, A2) → Md_meet N (nI s) (nI w) M = some (r, A2) := by
        intro r hr
        unfold Md_meet
        rw [isSet_y hc hC.1 hs hs2, if_neg (by decide), if_neg (nI_pos (by omega)), if_pos (by rw [show (2 : Int32) = nI 2 from rfl, leP (by omega) (by omega)]; omega), eA, bVs, show (400 : Int32) = nI 400 from rfl, eA2, bWs]
        exact hr
      have hM0 : ∀ r, (if fstA (mtP c R s) 401 < 0 then some (fstA (mtP c R s) 401, B) else if nI w = 0 then some (fstA (mtP c R s) 401, B) else if nI w = 1 then (bR (Mo_allBits N (nI s) (fstA (mtP c R s) 401) B) fun r10 => bR (Mo_lowestOf N r10 B) fun r12 => some (r12, B)) else (bR (Mo_allBits N (nI s) (fstA (mtP c R s) 401) B) fun r14 => bR (Mo_bits N r14 B) fun r16 => some (r16, B))) = some (r, B) → Mo_meet N (nI s) (nI w) A2 = some (r, B) := by
        intro r hr
        unfold Mo_meet
        rw [isGroup_y hN hc hMA.1 hs hs2, bRs, if_neg (by decide), show (2 : Int32) = nI 2 from rfl, inK_y (by omega) (by omega), if_neg (by decide), show (400 : Int32) = nI 400 from rfl, eB, bVs, em, bRs]
        exact hr
      unfold Md_meet at hC0
      unfold Mo_meet at hM0
      rcases fstA_c (p := mtP c R s) (n := 401) (by omega) with ⟨k, hk, ek, pk⟩ | ⟨ek, nk⟩
      · have e44 : A2.1 44 0 = alK c R s k := g2 k (by omega) ek
        have hnz : ¬ alK c R s k = 0 := of_decide_eq_true pk
        have ha : Mo_allBits N (nI s) (nI k) B = some (alK c R s k) := allBits_s (N := N) hN (by omega) (Nat.le_refl 400) hc b2 b1 (by omega)
        have sm : sml (alK c R s k) := alB_sml hc2
        obtain ⟨n, hn, en⟩ := sm
        have hn0 : 0 < n := by
          rcases Nat.eq_zero_or_pos n with z | z
          · exfalso; rw [en, z] at hnz; exact hnz rfl
          · exact z
        obtain ⟨t, m, em2⟩ := odd_part hn0
        have hw3 : w = 0 ∨ w = 1 ∨ w = 2 := by omega
        have nn : ¬ nI k < 0 := nI_pos (by omega)
        rcases hw3 with rfl | rfl | rfl
        · refine ⟨nI k, A2, B, hC0 _ ?_, hM0 _ ?_, INV_q hc hC hM fQ b3⟩
          · rw [ek, if_neg (ne_m2 (by omega)), if_pos (by decide)]
          · rw [ek, if_neg nn, if_pos (by decide)]
        · refine ⟨nI t, A2, B, hC0 _ ?_, hM0 _ ?_, INV_q hc hC hM fQ b3⟩
          · rw [ek, if_neg (ne_m2 (by omega)), if_neg (by decide), if_pos (by decide), e44, en, em2, firstHour_s (by omega)]
          · rw [ek, if_neg nn, if_neg (by decide), if_pos (by decide), ha, bRs, en, em2, lowestOf_s hN (by omega), bRs]
        · refine ⟨bc (alK c R s k), A2, B, hC0 _ ?_, hM0 _ ?_, INV_q hc hC hM fQ b3⟩
          · rw [ek, if_neg (ne_m2 (by omega)), if_neg (by decide), if_neg (by decide), e44, bc_of]
          · rw [ek, if_neg nn, if_neg (by decide), if_neg (by decide), ha, bRs, bits_s hN ⟨n, hn, en⟩, bRs]
      · refine ⟨-2, A2, B, hC0 _ ?_, hM0 _ ?_, INV_q hc hC hM fQ b3⟩
        · rw [ek, if_pos rfl]
        · rw [ek, if_pos (by decide)]
    · refine ⟨-1, M, M, ?_, ?_, c, v, R, X, hc, hC, hM⟩
      · rw [isSet_y hc hC.1 hs hs2, if_neg (by decide)]
        rcases q with q | ⟨q1, q2⟩
        · rw [if_pos q]
        · rw [if_neg q1, if_neg]
          rw [fa_le, nI_toInt (by omega)] at q2
          rw [fa_le]
          have e1 : (2 : Int32).toInt = 2 := rfl
          omega
      · rw [isGroup_y hN hc hM.1 hs hs2, bRs, if_neg (by decide), show (2 : Int32) = nI 2 from rfl, inK_n q (by omega), if_pos (by decide)]
  · refine ⟨-1, M, M, ?_, ?_, c, v, R, X, hc, hC, hM⟩
    · rw [isSet_n hc hC.1 q, if_pos (by decide)]
    · rw [isGroup_n hN hc hM.1 q, bRs, if_pos (by decide)]
