/-! NUMBERS that class and model come to alike -/
theorem rest_s {N a b : Nat} {M : mS} (ha : a < 2147483648) (hb : 0 < b) (hb2 : b < 2147483648) : Md_rest N (nI a) (nI b) M = some (nI (a % b)) := by
  have h := Nat.mod_lt a hb
  simp (disch := omega) only [Md_rest, li, ltP, leP, if_pos, nz_n, nxs, rmP]
theorem sub_add (a b c : Int32) : a - b + c = a + c - b := by
  rw [Int32.sub_eq_add_neg, Int32.sub_eq_add_neg, Int32.add_assoc, Int32.add_comm (-b) c, Int32.add_assoc]
theorem sbaP {a b c : Nat} (h : b ≤ a + c) : nI a - nI b + nI c = nI (a + c - b) := by rw [sub_add, nI_add, sbP h]
theorem negT {a b : Nat} (ha : a < 1073741824) (hb : b < 1073741824) : (nI a - nI b).toInt = (a : Int) - b := pk_sub_toInt ha hb
theorem div_sm {a b H : Nat} (h : a < b) (h2 : b - a < H) (hb : b < 1073741824) (hH : H < 1073741824) : (nI a - nI b) / nI H = 0 := by
  apply Int32.toInt_inj.mp
  rw [Int32.toInt_div, negT (by omega) hb, nI_toInt (by omega)]
  have e : ((a : Int) - b).tdiv (H : Int) = 0 := by
    rw [show ((a : Int) - b) = -((b - a : Nat) : Int) by omega, Int.neg_tdiv, Int.tdiv_eq_zero_of_lt (by omega) (by omega)]; rfl
  rw [e]; rfl
theorem rest_d {N f o H : Nat} {M : mS} (hf : f < H) (ho : o < H) (hH : H < 1073741824) : Md_rest N (nI f - nI o) (nI H) M = some (nI ((f + H - o) % H)) := by
  by_cases h : o ≤ f
  · rw [sbP h, rest_s (by omega) (by omega) (by omega), show f + H - o = f - o + H by omega, Nat.add_mod_right]
  · have e1 : ¬ (0 : Int32) ≤ nI f - nI o := by
      rw [fa_le, negT (by omega) (by omega)]
      have : (0 : Int32).toInt = 0 := rfl
      omega
    have e2 : nI f - nI o - 0 * nI H = nI f - nI o := by
      rw [Int32.zero_mul, Int32.sub_zero]
    unfold Md_rest
    rw [if_pos (by rw [li0]; exact nI_lt (by omega) (by omega)), nz_n (by omega) (by omega), nxs, div_sm (by omega) (by omega) (by omega) (by omega), e2, if_neg e1, sbaP (by omega), Nat.mod_eq_of_lt (by omega)]
def wit (v : Int32) (m : Nat) : Nat := if 0 ≤ v then (if v ≤ nI m then v.toNatClampNeg else m) else 0
theorem pos_nI {v : Int32} (h : 0 ≤ v) : nI v.toNatClampNeg = v ∧ v.toNatClampNeg < 2147483648 := by
  obtain ⟨j, hj, rfl⟩ := nI_of (x := v) (fun q => by rw [fa_lt] at q; rw [fa_le] at h; omega)
  rw [clp hj]; exact ⟨rfl, hj⟩
theorem wit_le {v : Int32} {m : Nat} (hm : m < 2147483648) : wit v m ≤ m := by
  unfold wit
  split
  · next h => split
              · next h2 =>
                obtain ⟨e, h3⟩ := pos_nI h
                rw [← e, leP h3 hm] at h2
                exact h2
              · exact Nat.le_refl m
  · exact Nat.zero_le m
theorem wit_n {n m : Nat} (hn : n < 2147483648) (hm : m < 2147483648) : wit (nI n) m = min n m := by
  unfold wit
  simp (disch := omega) only [li, leP, Nat.zero_le, if_true, clp]
  rw [Nat.min_def]
theorem held_s {v : Int32} {m : Nat} {M : mS} : Md_held v (nI m) M = nI (wit v m) := by
  unfold Md_held wit
  split
  · next h => split
              · exact (pos_nI h).1.symm
              · rfl
  · rfl
theorem within_s {v : Int32} {m : Nat} {M : mS} : Mo_within v 0 (nI m) M = nI (wit v m) := by
  unfold Mo_within wit
  split
  · next h => split
              · exact (pos_nI h).1.symm
              · rfl
  · rfl
def mix (a b : Int32) : Int32 := Md_mixed a b (fun _ _ => 0, fun _ _ => 0)
def lotN (n : Nat) (s w : Int32) : Nat := (ushr (mix (mix s 203) w) 1).toNatClampNeg % n
theorem ush1 (x : Int32) : nI (ushr x 1).toNatClampNeg = ushr x 1 ∧ (ushr x 1).toNatClampNeg < 2147483648 := by
  have h : (ushr x 1).toBitVec.toNat = x.toBitVec.toNat / 2 ^ 1 := pk_ushr x 1 1 (s_u 1 (by omega))
  have h2 := x.toBitVec.isLt
  have e : ushr x 1 = nI (x.toBitVec.toNat / 2) := by
    apply Int32.toBitVec_inj.mp
    apply BitVec.eq_of_toNat_eq
    rw [h, pk_tn (by omega)]
  rw [e, clp (by omega)]
  exact ⟨rfl, by omega⟩
theorem lot_lt {n : Nat} {s w : Int32} (h : 0 < n) : lotN n s w < n := Nat.mod_lt _ h
theorem lot_s {N n : Nat} {s w : Int32} {M : mS} (h : 0 < n) (h2 : n < 2147483648) : Md_lot N (nI n) s w M = some (nI (lotN n s w)) := by
  unfold Md_lot
  rw [nxs]
  show bR (Md_rest N (ushr (mix (mix s 203) w) 1) (nI n) M) _ = _
  obtain ⟨e, hb⟩ := ush1 (mix (mix s 203) w)
  rw [← e, rest_s hb h h2, bRs]; rfl
theorem lotOf_s {N n : Nat} {w : Int32} {M : mS} (h : 0 < n) (h2 : n < 2147483648) : Mo_lotOf N w (nI n) M = some (nI (lotN n (M.1 64 50) w)) := by
  unfold Mo_lotOf
  rw [nz_n h h2]
  show some (ushr (mix (mix (M.1 64 50) 203) w) 1 - ushr (mix (mix (M.1 64 50) 203) w) 1 / nI n * nI n) = _
  unfold lotN
  obtain ⟨e, hb⟩ := ush1 (mix (mix (M.1 64 50) 203) w)
  generalize (ushr (mix (mix (M.1 64 50) 203) w) 1).toNatClampNeg = j at *
  rw [← e, rmP hb h h2]
/-! the hours of an arc -/
def arcN (H f o l : Nat) : Nat → Nat
  | 0 => 0
  | n + 1 => arcN H f o l n ||| (if ((n + o) % H + H - f) % H < l then 2 ^ n else 0)
theorem arcN_lt (H f o l : Nat) : ∀ n, arcN H f o l n < 2 ^ n
  | 0 => by unfold arcN; omega
  | n + 1 => by
    have h := arcN_lt H f o l n
    have h2 : (2 : Nat) ^ (n + 1) = 2 ^ n + 2 ^ n := by rw [Nat.pow_succ]; omega
    unfold arcN
    apply Nat.or_lt_two_pow
    · omega
    · split
      · have := Nat.two_pow_pos n; omega
      · exact Nat.two_pow_pos _
theorem arcN_bit (H f o l : Nat) : ∀ n i, (arcN H f o l n).testBit i = (decide (i < n) && decide (((i + o) % H + H - f) % H < l))
  | 0, i => by simp [arcN]
  | n + 1, i => by
    unfold arcN
    rw [Nat.testBit_or, arcN_bit H f o l n i]
    by_cases h : ((n + o) % H + H - f) % H < l
    · rw [if_pos h, Nat.testBit_two_pow]
      by_cases e : i = n
      · subst e; simp [h]
      · have e2 : ¬ n = i := fun q => e q.symm
        have e3 : (i < n + 1) ↔ i < n := by omega
        simp [e2, e3]
    · rw [if_neg h, Nat.zero_testBit]
      by_cases e : i = n
      · subst e; simp [h]
      · have e3 : (i < n + 1) ↔ i < n := by omega
        simp [e3]
theorem b_nI (n : Nat) {i : Nat} (hi : i < 32) : bt (nI n) i = n.testBit i := by
  show (BitVec.ofNat 32 n).getLsbD i = _
  rw [BitVec.getLsbD_ofNat, decide_eq_true hi, Bool.true_and]
theorem allHours_s {l : Nat} {M : mS} (hl : l < 32) : Md_allHours (nI l) M = nI (2 ^ l - 1) := by
  have := Nat.two_pow_pos l
  unfold Md_allHours
  show nI 1 <<< (nI l &&& nI 31) - nI 1 = _
  rw [shl1 hl, sbP (by omega)]
theorem mod1 {x H : Nat} (h : x < H) : x % H = x := Nat.mod_eq_of_lt h
theorem mod2 {x H : Nat} (h : H ≤ x) (h2 : x < H + H) : x % H = x - H := by rw [Nat.mod_eq_sub_mod h, mod1 (by omega)]
theorem arc_s {N H f o l : Nat} {M : mS} (hM : M.1 3 6 = nI H) (hH : 2 ≤ H) (hH2 : H ≤ 24) (hf : f < H) (ho : o < H) (hl : l ≤ H) : Wk_arc N (nI f - nI o) (nI l) M = some (nI (arcN H f o l H)) := by
  unfold Wk_arc
  rw [hM, rest_d hf ho (by omega), bRs, nxs, allHours_s (by omega), allHours_s (by omega)]
  have hr : (f + H - o) % H < H := Nat.mod_lt _ (by omega)
  have hr2 : (o ≤ f ∧ (f + H - o) % H = f - o) ∨ (f < o ∧ (f + H - o) % H = f + H - o) := by
    by_cases q : o ≤ f
    · exact Or.inl ⟨q, by rw [mod2 (by omega) (by omega)]; omega⟩
    · exact Or.inr ⟨by omega, by rw [mod1 (by omega)]⟩
  generalize (f + H - o) % H = r at *
  rw [sbP (by omega)]
  congr 1
  apply b_ext
  intro i hi
  rw [b_and, b_or, show ushr (nI (2 ^ l - 1)) (nI (H - r)) = ((nI (2 ^ l - 1)).toUInt32 >>> ((nI (H - r)).toUInt32 &&& Int32.toUInt32 31)).toInt32 from rfl, b_shl r (by omega) _ hi, b_ushr (H - r) (by omega), b_nI _ hi, b_nI _ hi, arcN_bit]
  by_cases hiH : i < H
  · rw [b_nI _ (show i - r < 32 by omega), Nat.testBit_two_pow_sub_one, Nat.testBit_two_pow_sub_one, decide_eq_true hiH, Bool.and_true, Bool.true_and]
    have e1 : bt (nI (2 ^ l - 1)) (H - r + i) = decide (H - r + i < l) := by
      rcases Nat.lt_or_ge (H - r + i) 32 with q | q
      · rw [b_nI _ q, Nat.testBit_two_pow_sub_one]
      · rw [b_big q, decide_eq_false (by omega)]
    rw [e1, Bool.eq_iff_iff]
    simp only [Bool.or_eq_true, Bool.and_eq_true, decide_eq_true_eq]
    by_cases hs : i + o < H
    · rw [mod1 hs]
      by_cases hz : i + o + H - f < H
      · rw [mod1 hz]; omega
      · rw [mod2 (by omega) (by omega)]; omega
    · rw [mod2 (show H ≤ i + o by omega) (by omega)]
      by_cases hz : i + o - H + H - f < H
      · rw [mod1 hz]; omega
      · rw [mod2 (by omega) (by omega)]; omega
  · rw [Nat.testBit_two_pow_sub_one, decide_eq_false hiH, Bool.and_false, Bool.false_and]
/-! two and more -/
def oth (f : Nat → Int32) (g : Nat) (n : Nat) : Int32 := orB (fun o => if o = g then 0 else f o) n
def tw (f : Nat → Int32) : Nat → Int32
  | 0 => 0
  | n + 1 => tw f n ||| (orB f n &&& f n)
theorem bt_orB {f : Nat → Int32} {i : Nat} : ∀ {n : Nat}, bt (orB f n) i = true ↔ ∃ k, k < n ∧ bt (f k) i = true
  | 0 => ⟨fun h => (by rw [show orB f 0 = 0 from rfl, b_0] at h; cases h), fun ⟨k, h, _⟩ => by omega⟩
  | n + 1 => by
    rw [orB_s, b_or, Bool.or_eq_true, bt_orB (n := n)]
    constructor
    · rintro (⟨k, h1, h2⟩ | h)
      · exact ⟨k, by omega, h2⟩
      · exact ⟨n, by omega, h⟩
    · rintro ⟨k, h1, h2⟩
      by_cases e : k = n
      · subst e; exact Or.inr h2
      · exact Or.inl ⟨k, by omega, h2⟩
theorem bt_tw {f : Nat → Int32} {i : Nat} : ∀ {n : Nat}, bt (tw f n) i = true ↔ ∃ a b, a < b ∧ b < n ∧ bt (f a) i = true ∧ bt (f b) i = true
  | 0 => ⟨fun h => (by rw [show tw f 0 = 0 from rfl, b_0] at h; cases h), fun ⟨a, b, h, h2, _⟩ => by omega⟩
  | n + 1 => by
    rw [show tw f (n + 1) = tw f n ||| (orB f n &&& f n) from rfl, b_or, b_and, Bool.or_eq_true, Bool.and_eq_true, bt_tw (n := n), bt_orB]
    constructor
    · rintro (⟨a, b, h1, h2, h3⟩ | ⟨⟨k, h1, h2⟩, h3⟩)
      · exact ⟨a, b, h1, by omega, h3⟩
      · exact ⟨k, n, h1, by omega, h2, h3⟩
    · rintro ⟨a, b, h1, h2, h3, h4⟩
      by_cases e : b = n
      · subst e; exact Or.inr ⟨⟨a, h1, h3⟩, h4⟩
      · exact Or.inl ⟨a, b, h1, by omega, h3, h4⟩
theorem bt_oth {f : Nat → Int32} {g n i : Nat} : bt (oth f g n) i = true ↔ ∃ k, k < n ∧ k ≠ g ∧ bt (f k) i = true := by
  unfold oth
  rw [bt_orB]
  constructor
  · rintro ⟨k, h1, h2⟩
    by_cases e : k = g
    · rw [if_pos e, b_0] at h2; cases h2
    · rw [if_neg e] at h2; exact ⟨k, h1, e, h2⟩
  · rintro ⟨k, h1, h2, h3⟩
    exact ⟨k, h1, by rw [if_neg h2]; exact h3⟩
theorem tw_at {f : Nat → Int32} {g n i : Nat} (hg : g < n) (h : bt (f g) i = true) : bt (tw f n) i = bt (oth f g n) i := by
  rw [Bool.eq_iff_iff, bt_tw, bt_oth]
  constructor
  · rintro ⟨a, b, h1, h2, h3, h4⟩
    by_cases e : a = g
    · exact ⟨b, h2, by omega, h4⟩
    · exact ⟨a, by omega, e, h3⟩
  · rintro ⟨k, h1, h2, h3⟩
    rcases Nat.lt_or_gt_of_ne h2 with q | q
    · exact ⟨k, g, q, hg, h3, h⟩
    · exact ⟨g, k, q, h1, h, h3⟩
theorem tw_oth {f : Nat → Int32} {g n : Nat} (hg : g < n) : f g &&& tw f n = f g &&& oth f g n := by
  apply b_ext
  intro i _
  rw [b_and, b_and]
  cases h : bt (f g) i
  · rfl
  · rw [tw_at hg h]
theorem tw_many {f : Nat → Int32} {n : Nat} : tw f n = orB (fun g => f g &&& oth f g n) n := by
  apply b_ext
  intro i _
  rw [Bool.eq_iff_iff, bt_tw, bt_orB]
  constructor
  · rintro ⟨a, b, h1, h2, h3, h4⟩
    exact ⟨a, by omega, by rw [b_and, h3, Bool.true_and, bt_oth]; exact ⟨b, h2, by omega, h4⟩⟩
  · rintro ⟨a, h1, h2⟩
    rw [b_and, Bool.and_eq_true, bt_oth] at h2
    obtain ⟨h3, k, h4, h5, h6⟩ := h2
    rcases Nat.lt_or_gt_of_ne h5 with q | q
    · exact ⟨k, a, q, h1, h6, h3⟩
    · exact ⟨a, k, q, h4, h3, h6⟩
def pA (a b : Nat) : Nat := (if a < b then a else b) * (9 - (if a < b then a else b)) / 2 + (if a < b then b else a) - (if a < b then a else b) - 1
theorem pairAt_k : ∀ a, a < 5 → ∀ b, b < 5 → a ≠ b → Mo_pairAt (nI a) (nI b) (fun _ _ => 0, fun _ _ => 0) = nI (pA a b) := by decide +kernel
theorem pairAt_s {a b : Nat} {M : mS} (ha : a < 5) (hb : b < 5) (h : a ≠ b) : Mo_pairAt (nI a) (nI b) M = nI (pA a b) := pairAt_k a ha b hb h
theorem pA_lt : ∀ a, a < 5 → ∀ b, b < 5 → a ≠ b → pA a b < 10 := by decide
theorem pA_c : ∀ a, a < 5 → ∀ b, b < 5 → pA a b = pA b a := by decide
def uA (n : Nat) : Nat × Nat := [(0, 1), (0, 2), (0, 3), (0, 4), (1, 2), (1, 3), (1, 4), (2, 3), (2, 4), (3, 4)].getD n (0, 0)
theorem pA_u : ∀ a, a < 5 → ∀ b, b < 5 → a < b → uA (pA a b) = (a, b) := by decide +kernel
theorem uA_p : ∀ n, n < 10 → (uA n).1 < (uA n).2 ∧ (uA n).2 < 5 ∧ pA (uA n).1 (uA n).2 = n := by decide +kernel
theorem pA_i {a b c d : Nat} (hb : b < 5) (hd : d < 5) (h : a < b) (h2 : c < d) (e : pA a b = pA c d) : a = c ∧ b = d := by
  have h3 := pA_u a (by omega) b hb h
  rw [e, pA_u c (by omega) d hd h2] at h3
  exact ⟨(congrArg Prod.fst h3).symm, (congrArg Prod.snd h3).symm⟩
