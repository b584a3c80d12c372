/-! TWO who meet: sooner, strangers -/
/-- two are there at one hour of night k -/
def Pm (c : gar) (R : Nat → Int32) (a b k : Nat) : Prop := ∃ i, i < gH c ∧ bt (tK c R k a) i = true ∧ bt (tK c R k b) i = true
theorem bt_alB {H : Nat} {f : Nat → Int32} {s i : Nat} (hi : i < 32) : ∀ {g : Nat}, bt (alB H f s g) i = true ↔ i < H ∧ ∀ o, o < g → s.testBit o = true → bt (f o) i = true
  | 0 => by
    show bt (nI (2 ^ H - 1)) i = true ↔ _
    rw [b_nI _ hi, Nat.testBit_two_pow_sub_one, decide_eq_true_eq]
    exact ⟨fun h => ⟨h, fun o ho => absurd ho (Nat.not_lt_zero _)⟩, fun h => h.1⟩
  | g + 1 => by
    rw [alB_s]
    have e : s.testBit g = decide (s / 2 ^ g % 2 = 1) := Nat.testBit_eq_decide_div_mod_eq
    by_cases q : s / 2 ^ g % 2 = 1
    · rw [if_pos q, b_and, Bool.and_eq_true, bt_alB hi]
      constructor
      · rintro ⟨⟨h1, h2⟩, h3⟩
        refine ⟨h1, fun o ho hb => ?_⟩
        by_cases z : o = g
        · subst z; exact h3
        · exact h2 o (by omega) hb
      · rintro ⟨h1, h2⟩
        exact ⟨⟨h1, fun o ho => h2 o (by omega)⟩, h2 g (by omega) (by rw [e, decide_eq_true q])⟩
    · rw [if_neg q, bt_alB hi]
      constructor
      · rintro ⟨h1, h2⟩
        refine ⟨h1, fun o ho hb => ?_⟩
        by_cases z : o = g
        · subst z; rw [e, decide_eq_false q] at hb; cases hb
        · exact h2 o (by omega) hb
      · rintro ⟨h1, h2⟩
        exact ⟨h1, fun o ho => h2 o (by omega)⟩
theorem nz_bt {x : Int32} : ¬ x = 0 ↔ ∃ i, i < 32 ∧ bt x i = true := by
  constructor
  · intro h
    apply Classical.byContradiction
    intro q
    apply h
    apply b_ext
    intro i hi
    rw [b_0]
    cases z : bt x i
    · rfl
    · exact absurd ⟨i, hi, z⟩ q
  · rintro ⟨i, hi, h⟩ rfl
    rw [b_0] at h; cases h
theorem tK_lt {c : gar} (hc : gOk c) {R : Nat → Int32} {k g i : Nat} (hi : i < 32) (h : bt (tK c R k g) i = true) : i < gH c := by
  unfold tK th at h
  split at h
  · unfold thN at h
    rw [b_nI _ hi, arcN_bit, Bool.and_eq_true, decide_eq_true_eq] at h
    exact h.1
  · rw [b_0] at h; cases h
theorem pair_bit {a b o : Nat} : (2 ^ a ||| 2 ^ b).testBit o = true ↔ o = a ∨ o = b := by
  rw [Nat.testBit_or, Bool.or_eq_true, Nat.testBit_two_pow, Nat.testBit_two_pow, decide_eq_true_eq, decide_eq_true_eq]
  constructor <;> rintro (h | h) <;> omega
theorem mtP_pair {c : gar} (hc : gOk c) {R : Nat → Int32} {a b k : Nat} (ha : a < gG c) (hb : b < gG c) : mtP c R (2 ^ a ||| 2 ^ b) k = true ↔ Pm c R a b k := by
  have h1 : mtP c R (2 ^ a ||| 2 ^ b) k = true ↔ ¬ alK c R (2 ^ a ||| 2 ^ b) k = 0 := by
    unfold mtP; rw [decide_eq_true_eq]
  rw [h1, nz_bt]
  unfold alK Pm
  have hc2 := hc.2.1
  constructor
  · rintro ⟨i, hi, h⟩
    obtain ⟨q1, q2⟩ := (bt_alB hi).mp h
    exact ⟨i, q1, q2 a ha (pair_bit.mpr (Or.inl rfl)), q2 b hb (pair_bit.mpr (Or.inr rfl))⟩
  · rintro ⟨i, hi, h2, h3⟩
    refine ⟨i, by omega, (bt_alB (by omega)).mpr ⟨hi, fun o ho hbit => ?_⟩⟩
    rcases pair_bit.mp hbit with rfl | rfl
    · exact h2
    · exact h3
theorem and_Pm {c : gar} (hc : gOk c) {R : Nat → Int32} {a b k : Nat} : ¬ tK c R k a &&& tK c R k b = 0 ↔ Pm c R a b k := by
  rw [nz_bt]
  unfold Pm
  have hc2 := hc.2.1
  constructor
  · rintro ⟨i, hi, h⟩
    rw [b_and, Bool.and_eq_true] at h
    exact ⟨i, tK_lt hc hi h.1, h.1, h.2⟩
  · rintro ⟨i, hi, h2, h3⟩
    exact ⟨i, by omega, by rw [b_and, h2, h3]; rfl⟩
theorem tw_Pm {c : gar} (hc : gOk c) {R : Nat → Int32} {k : Nat} : ¬ tw (tK c R k) (gG c) = 0 ↔ ∃ a b, a < b ∧ b < gG c ∧ Pm c R a b k := by
  rw [nz_bt]
  unfold Pm
  have hc2 := hc.2.1
  constructor
  · rintro ⟨i, hi, h⟩
    obtain ⟨a, b, h1, h2, h3, h4⟩ := bt_tw.mp h
    exact ⟨a, b, h1, h2, i, tK_lt hc hi h3, h3, h4⟩
  · rintro ⟨a, b, h1, h2, i, hi, h3, h4⟩
    exact ⟨i, by omega, bt_tw.mpr ⟨a, b, h1, h2, h3, h4⟩⟩
/-- (a, b) comes ahead of (g, o) -/
def lexL (a b g o : Nat) : Prop := a < g ∨ (a = g ∧ b < o)
def soQ (c : gar) (R : Nat → Int32) (k a b : Nat) : Prop := a < b ∧ b < gG c ∧ k ≤ 400 ∧ Pm c R a b k ∧ (∀ a' b', a' < b' → b' < gG c → ∀ k', k' < k → ¬ Pm c R a' b' k') ∧ ∀ a' b', a' < b' → b' < gG c → lexL a' b' a b → ¬ Pm c R a' b' k
theorem soQ_u {c : gar} {R : Nat → Int32} {k a b k' a' b' : Nat} (h : soQ c R k a b) (g : soQ c R k' a' b') : k = k' ∧ a = a' ∧ b = b' := by
  obtain ⟨h1, h2, h3, h4, h5, h6⟩ := h
  obtain ⟨g1, g2, g3, g4, g5, g6⟩ := g
  have ek : k = k' := by
    rcases Nat.lt_trichotomy k k' with q | q | q
    · exact absurd h4 (g5 a b h1 h2 k q)
    · exact q
    · exact absurd g4 (h5 a' b' g1 g2 k' q)
  subst ek
  refine ⟨rfl, ?_⟩
  by_cases q1 : lexL a b a' b'
  · exact absurd h4 (g6 a b h1 h2 q1)
  · by_cases q2 : lexL a' b' a b
    · exact absurd g4 (h6 a' b' g1 g2 q2)
    · unfold lexL at q1 q2; omega
def noQ (c : gar) (R : Nat → Int32) : Prop := ∀ a b, a < b → b < gG c → ∀ k, k ≤ 400 → ¬ Pm c R a b k
theorem sh_0 {c : gar} (hc : gOk c) {R : Nat → Int32} {a b k : Nat} : bc (tK c R k a &&& tK c R k b) = 0 ↔ ¬ Pm c R a b k := by
  rw [bc_0 (sml_and (sml_tK hc)), ← and_Pm hc, Classical.not_not]
theorem firstTwoSeen_s {N : Nat} {c : gar} {R : Nat → Int32} {M : mS} {k : Nat} (hN : 1000 ≤ N) (hc : gOk c) (h8 : M.1 3 8 = nI (gG c)) (hs : ∀ g, g < gG c → M.1 41 g = tK c R k g) (he : ∃ a b, a < b ∧ b < gG c ∧ Pm c R a b k) : ∃ a b, a < b ∧ b < gG c ∧ Pm c R a b k ∧ (∀ a' b', a' < b' → b' < gG c → lexL a' b' a b → ¬ Pm c R a' b' k) ∧ Mt_firstTwoSeen N M = some (nI (10 * a + b)) := by
  obtain ⟨hc1, hc2, hc3, hc4, hc5, hc6⟩ := id hc
  unfold Mt_firstTwoSeen
  refine iter (F := fun f i (t : Unit) => Mt_firstTwoSeen_2 N M f (nI i)) (i := 0) (f := N) (s := ()) (n := gG c) (Q := fun r => ∃ a b, a < b ∧ b < gG c ∧ Pm c R a b k ∧ (∀ a' b', a' < b' → b' < gG c → lexL a' b' a b → ¬ Pm c R a' b' k) ∧ r = some (nI (10 * a + b))) (fun i t => ∀ a' b', a' < b' → b' < gG c → a' < i → ¬ Pm c R a' b' k) ?_ ?_ (Nat.zero_le _) (by omega) (fun a' b' _ _ q => absurd q (Nat.not_lt_zero _))
  · rintro f i t hi h1
    have inner : (∀ b', i < b' → b' < gG c → ¬ Pm c R i b' k) ∧ Mt_firstTwoSeen_17 N (Mt_firstTwoSeen_2 N M f) M N (nI i) (nI (i + 1)) = Mt_firstTwoSeen_2 N M f (nI (i + 1)) ∨ ∃ b, i < b ∧ b < gG c ∧ Pm c R i b k ∧ (∀ b', i < b' → b' < b → ¬ Pm c R i b' k) ∧ Mt_firstTwoSeen_17 N (Mt_firstTwoSeen_2 N M f) M N (nI i) (nI (i + 1)) = some (nI (10 * i + b)) := by
      refine iter (F := fun g j (t : Unit) => Mt_firstTwoSeen_17 N (Mt_firstTwoSeen_2 N M f) M g (nI i) (nI j)) (i := i + 1) (f := N) (s := ()) (n := gG c) (Q := fun r => (∀ b', i < b' → b' < gG c → ¬ Pm c R i b' k) ∧ r = Mt_firstTwoSeen_2 N M f (nI (i + 1)) ∨ ∃ b, i < b ∧ b < gG c ∧ Pm c R i b k ∧ (∀ b', i < b' → b' < b → ¬ Pm c R i b' k) ∧ r = some (nI (10 * i + b))) (fun j t => i + 1 ≤ j ∧ ∀ b', i < b' → b' < j → ¬ Pm c R i b' k) ?_ ?_ (by omega) (by omega) ⟨Nat.le_refl _, fun b' q1 q2 => by omega⟩
      · rintro g j t hj ⟨z0, z1⟩
        have sh := shared_s (N := N) (M := M) hc4 hs hi hj
        rw [shv_ne (by omega)] at sh
        by_cases p : Pm c R i j k
        · refine Or.inr (Or.inr ⟨j, by omega, hj, p, z1, ?_⟩)
          rw [Mt_firstTwoSeen_17, h8, if_neg (by rw [leP (by omega) (by omega)]; omega), sh, bRs, if_neg (fun q => (sh_0 hc).mp q p), show (10 : Int32) * nI i = nI (10 * i) from pk_mul 10 i, nI_add]
        · refine Or.inl ⟨(), ⟨by omega, fun b' q1 q2 => ?_⟩, ?_⟩
          · by_cases e : b' = j
            · subst e; exact p
            · exact z1 b' q1 (by omega)
          · rw [Mt_firstTwoSeen_17, h8, if_neg (by rw [leP (by omega) (by omega)]; omega), sh, bRs, if_pos ((sh_0 hc).mpr p), show nI j + 1 = nI (j + 1) from nI_add j 1]
      · rintro g t ⟨z0, z1⟩
        refine Or.inl ⟨z1, ?_⟩
        rw [Mt_firstTwoSeen_17, h8, if_pos (by rw [leP (by omega) (by omega)]; omega), show nI i + 1 = nI (i + 1) from nI_add i 1]
    have key : Mt_firstTwoSeen_2 N M (f + 1) (nI i) = Mt_firstTwoSeen_17 N (Mt_firstTwoSeen_2 N M f) M N (nI i) (nI (i + 1)) := by
      rw [Mt_firstTwoSeen_2, h8, if_neg (by rw [leP (by omega) (by omega)]; omega), nxs, show nI i + 1 = nI (i + 1) from nI_add i 1]
    rcases inner with ⟨q1, q2⟩ | ⟨b, q1, q2, q3, q4, q5⟩
    · refine Or.inl ⟨(), fun a' b' z1 z2 z3 => ?_, key.trans q2⟩
      by_cases e : a' = i
      · subst e; exact q1 b' z1 z2
      · exact h1 a' b' z1 z2 (by omega)
    · refine Or.inr ⟨i, b, q1, q2, q3, fun a' b' z1 z2 z3 => ?_, key.trans q5⟩
      rcases z3 with z3 | ⟨rfl, z3⟩
      · exact h1 a' b' z1 z2 z3
      · exact q4 b' z1 z3
  · rintro f t h1
    obtain ⟨a, b, q1, q2, q3⟩ := he
    exact absurd q3 (h1 a b q1 q2 (by omega))
theorem firstNightOfTwo_s {N : Nat} {c : gar} {R : Nat → Int32} {M : mS} (hN : 1000 ≤ N) (hc : gOk c) (h : WK c M R) : ∃ A, frQ M A ∧ ((noQ c R ∧ Mt_firstNightOfTwo N M = some (-2, A)) ∨ ∃ k a b, soQ c R k a b ∧ Mt_firstNightOfTwo N M = some (nI k, A) ∧ A.1 44 1 = nI (10 * a + b)) := by
  unfold Mt_firstNightOfTwo
  refine iter (F := fun f i (t : mS) => Mt_firstNightOfTwo_2 N f (nI i) t) (i := 0) (f := N) (s := M) (n := 401) (Q := fun r => ∃ A, frQ M A ∧ ((noQ c R ∧ r = some (-2, A)) ∨ ∃ k a b, soQ c R k a b ∧ r = some (nI k, A) ∧ A.1 44 1 = nI (10 * a + b))) (fun i t => (∀ a b, a < b → b < gG c → ∀ k, k < i → ¬ Pm c R a b k) ∧ WK c t (nxn c none R i) ∧ frQ M t) ?_ ?_ (Nat.zero_le _) (by omega) ⟨fun a b _ _ k hk => absurd hk (Nat.not_lt_zero _), h, frQ.refl⟩
  · rintro f i t hi ⟨h1, h2, h3⟩
    obtain ⟨B1, b1, b2, b3, b4⟩ := night_W hN hc h2
    have e39 : B1.1 39 3 = tw (tK c R i) (gG c) := b3.2.2
    by_cases z : tw (tK c R i) (gG c) = 0
    · obtain ⟨B2, d1, d2, d3⟩ := pass_W hN hc b2 b3
      refine Or.inl ⟨B2, ⟨fun a b q1 q2 k hk => ?_, d2, (h3.trans b4.frQ).trans d3.frQ⟩, ?_⟩
      · by_cases e : k = i
        · subst e
          intro p
          exact (tw_Pm hc).mpr ⟨a, b, q1, q2, p⟩ z
        · exact h1 a b q1 q2 k (by omega)
      · rw [Mt_firstNightOfTwo_2, if_neg (by rw [show (400 : Int32) = nI 400 from rfl, ltP (by omega) (by omega)]; omega), b1, bVs, e39, if_pos z, d1, bVs, show nI i + 1 = nI (i + 1) from nI_add i 1]
    · obtain ⟨a, b, q1, q2, q3, q4, q5⟩ := firstTwoSeen_s (N := N) (M := B1) (R := R) (k := i) hN hc b2.1.2.2.1 b3.1 ((tw_Pm hc).mp z)
      refine Or.inr ⟨mWI B1 44 1 (nI (10 * a + b)), (h3.trans b4.frQ).wI (by omega), Or.inr ⟨i, a, b, ⟨q1, q2, by omega, q3, h1, q4⟩, ?_, rI rfl⟩⟩
      rw [Mt_firstNightOfTwo_2, if_neg (by rw [show (400 : Int32) = nI 400 from rfl, ltP (by omega) (by omega)]; omega), b1, bVs, e39, if_neg z, q5, bRs, nxs]
  · rintro f t ⟨h1, h2, h3⟩
    refine ⟨t, h3, Or.inl ⟨fun a b q1 q2 k hk => h1 a b q1 q2 k (by omega), ?_⟩⟩
    rw [Mt_firstNightOfTwo_2, if_pos (by decide)]
/-- the model, pairs looked at so far: those ahead of (g, o) -/
def soI (c : gar) (R : Nat → Int32) (g o : Nat) (x y : Int32) : Prop := (x = -2 ∧ y = -2 ∧ ∀ a b, a < b → b < gG c → lexL a b g o → ∀ k, k ≤ 400 → ¬ Pm c R a b k) ∨ ∃ k a b, a < b ∧ b < gG c ∧ lexL a b g o ∧ k ≤ 400 ∧ x = nI (10 * a + b) ∧ y = nI k ∧ Pm c R a b k ∧ (∀ a' b', a' < b' → b' < gG c → lexL a' b' g o → ∀ k', k' < k → ¬ Pm c R a' b' k') ∧ ∀ a' b', a' < b' → b' < gG c → lexL a' b' a b → ¬ Pm c R a' b' k
theorem sooner_M {N : Nat} {c : gar} {v : Nat} {R : Nat → Int32} {B : mS} {w : Nat} (hN : 1000 ≤ N) (hc : gOk c) (hM : gM c v B) (hF : FILL c R 400 B) : ∃ x y, soI c R (gG c) 0 x y ∧ Mo_sooner_27 N N (nI w) (-2) (-2) 0 B = if nI w = 0 then some (x, B) else some (y, B) := by
  obtain ⟨hc1, hc2, hc3, hc4, hc5, hc6⟩ := id hc
  obtain ⟨h0, h1, h2, h3, h4, -⟩ := id hM
  refine iter (F := fun f i (s : Int32 × Int32) => Mo_sooner_27 N f (nI w) s.1 s.2 (nI i) B) (i := 0) (f := N) (s := ((-2 : Int32), (-2 : Int32))) (n := gG c) (Q := fun r => ∃ x y, soI c R (gG c) 0 x y ∧ r = if nI w = 0 then some (x, B) else some (y, B)) (fun i s => soI c R i 0 s.1 s.2) ?_ ?_ (Nat.zero_le _) (by omega) (Or.inl ⟨rfl, rfl, fun a b _ _ q => by unfold lexL at q; omega⟩)
  · rintro f i ⟨x, y⟩ hi hI
    dsimp only at hI
    have inner : ∃ x' y', soI c R (i + 1) 0 x' y' ∧ Mo_sooner_47 N (Mo_sooner_27 N f) N (nI w) x y (nI i) (nI (i + 1)) B = Mo_sooner_27 N f (nI w) x' y' (nI (i + 1)) B := by
      refine iter (F := fun g j (s : Int32 × Int32) => Mo_sooner_47 N (Mo_sooner_27 N f) g (nI w) s.1 s.2 (nI i) (nI j) B) (i := i + 1) (f := N) (s := (x, y)) (n := gG c) (Q := fun r => ∃ x' y', soI c R (i + 1) 0 x' y' ∧ r = Mo_sooner_27 N f (nI w) x' y' (nI (i + 1)) B) (fun j s => i + 1 ≤ j ∧ soI c R i j s.1 s.2) ?_ ?_ (by omega) (by omega) ⟨Nat.le_refl _, ?_⟩
      · rintro g j ⟨x, y⟩ hj ⟨z0, hI⟩
        dsimp only at hI
        have hp1 : (2 : Nat) ^ i ≤ 32 := pow5 (by omega)
        have hp2 : (2 : Nat) ^ j ≤ 32 := pow5 (by omega)
        have hor : 2 ^ i ||| 2 ^ j < 2 ^ 6 := Nat.or_lt_two_pow (by omega) (by omega)
        have em := firstMeet_s (N := N) (s := 2 ^ i ||| 2 ^ j) (n := 400) hN (Nat.le_refl 400) (by omega) hc hM hF (by omega)
        have key : Mo_sooner_47 N (Mo_sooner_27 N f) (g + 1) (nI w) x y (nI i) (nI j) B = if fstA (mtP c R (2 ^ i ||| 2 ^ j)) 401 < 0 then Mo_sooner_47 N (Mo_sooner_27 N f) g (nI w) x y (nI i) (nI (j + 1)) B else if x < 0 then Mo_sooner_47 N (Mo_sooner_27 N f) g (nI w) (nI (10 * i + j)) (fstA (mtP c R (2 ^ i ||| 2 ^ j)) 401) (nI i) (nI (j + 1)) B else if fstA (mtP c R (2 ^ i ||| 2 ^ j)) 401 < y then Mo_sooner_47 N (Mo_sooner_27 N f) g (nI w) (nI (10 * i + j)) (fstA (mtP c R (2 ^ i ||| 2 ^ j)) 401) (nI i) (nI (j + 1)) B else Mo_sooner_47 N (Mo_sooner_27 N f) g (nI w) x y (nI i) (nI (j + 1)) B := by
          rw [Mo_sooner_47, h1, grd_in h0 (by omega), clp (by omega), h4, if_neg (by rw [leP (by omega) (by omega)]; omega), show (1 : Int32) <<< (nI i &&& 31) = nI (2 ^ i) from shl1 (by omega), show (1 : Int32) <<< (nI j &&& 31) = nI (2 ^ j) from shl1 (by omega), fa_or, show (400 : Int32) = nI 400 from rfl, em, bRs]
          unfold Mo_sooner_97 Mo_sooner_109
          rw [show nI j + 1 = nI (j + 1) from nI_add j 1, show (10 : Int32) * nI i = nI (10 * i) from pk_mul 10 i, nI_add, nxs]
        have lx : ∀ a b, a < b → lexL a b i (j + 1) → lexL a b i j ∨ (a = i ∧ b = j) := by
          intro a b _ q; unfold lexL at q ⊢; omega
        rcases fstA_c (p := mtP c R (2 ^ i ||| 2 ^ j)) (n := 401) (by omega) with ⟨k, hk, ek, pk⟩ | ⟨ek, nk⟩
        · have pk := (mtP_pair hc hi hj).mp pk
          have fk : ∀ k', k' < k → ¬ Pm c R i j k' := by
            intro k' hk' p
            have p2 := (mtP_pair hc hi hj).mpr p
            have := fstA_at (p := mtP c R (2 ^ i ||| 2 ^ j)) (n := 401) (i := fa_first (mtP c R (2 ^ i ||| 2 ^ j)) 401) (fun q hq => fa_first_no _ _ q hq) (fa_first_yes _ _ (by
              apply Classical.byContradiction
              intro q
              have := fa_first_no (mtP c R (2 ^ i ||| 2 ^ j)) 401 k' (by omega)
              rw [p2] at this; cases this)) (by
              apply Classical.byContradiction
              intro q
              have := fa_first_no (mtP c R (2 ^ i ||| 2 ^ j)) 401 k' (by omega)
              rw [p2] at this; cases this)
            have hle := fa_first_le (mtP c R (2 ^ i ||| 2 ^ j)) 401
            rw [ek, eqP (by omega) (by omega)] at this
            have := fa_first_no (mtP c R (2 ^ i ||| 2 ^ j)) 401 k' (by omega)
            rw [p2] at this; cases this
          rw [ek, if_neg (nI_pos (by omega))] at key
          rcases hI with ⟨rfl, rfl, hn⟩ | ⟨k0, a, b, q1, q2, q3, q4, rfl, rfl, q5, q6, q7⟩
          · refine Or.inl ⟨(nI (10 * i + j), nI k), ⟨by omega, Or.inr ⟨k, i, j, by omega, hj, by unfold lexL; omega, by omega, rfl, rfl, pk, fun a' b' z1 z2 z3 k' z4 => ?_, fun a' b' z1 z2 z3 => ?_⟩⟩, ?_⟩
            · rcases lx a' b' z1 z3 with z | ⟨rfl, rfl⟩
              · exact hn a' b' z1 z2 z k' (by omega)
              · exact fk k' z4
            · exact hn a' b' z1 z2 z3 k (by omega)
            · dsimp only; rw [key, if_pos (by decide)]
          · have hb5 : b < 5 := by omega
            rw [if_neg (nI_pos (by omega))] at key
            by_cases z : k < k0
            · rw [if_pos (by rw [ltP (by omega) (by omega)]; exact z)] at key
              refine Or.inl ⟨(nI (10 * i + j), nI k), ⟨by omega, Or.inr ⟨k, i, j, by omega, hj, by unfold lexL; omega, by omega, rfl, rfl, pk, fun a' b' z1 z2 z3 k' z4 => ?_, fun a' b' z1 z2 z3 => ?_⟩⟩, key⟩
              · rcases lx a' b' z1 z3 with z5 | ⟨rfl, rfl⟩
                · exact q6 a' b' z1 z2 z5 k' (by omega)
                · exact fk k' z4
              · exact q6 a' b' z1 z2 z3 k z
            · rw [if_neg (by rw [ltP (by omega) (by omega)]; exact z)] at key
              refine Or.inl ⟨(nI (10 * a + b), nI k0), ⟨by omega, Or.inr ⟨k0, a, b, q1, q2, by unfold lexL at q3 ⊢; omega, q4, rfl, rfl, q5, fun a' b' z1 z2 z3 k' z4 => ?_, q7⟩⟩, key⟩
              rcases lx a' b' z1 z3 with z5 | ⟨rfl, rfl⟩
              · exact q6 a' b' z1 z2 z5 k' z4
              · exact fk k' (by omega)
        · have nk : ∀ k, k ≤ 400 → ¬ Pm c R i j k := fun k hk p => by
            have := nk k (by omega)
            rw [(mtP_pair hc hi hj).mpr p] at this; cases this
          rw [ek, if_pos (by decide)] at key
          refine Or.inl ⟨(x, y), ⟨by omega, ?_⟩, key⟩
          rcases hI with ⟨rfl, rfl, hn⟩ | ⟨k0, a, b, q1, q2, q3, q4, rfl, rfl, q5, q6, q7⟩
          · refine Or.inl ⟨rfl, rfl, fun a' b' z1 z2 z3 k' z4 => ?_⟩
            rcases lx a' b' z1 z3 with z | ⟨rfl, rfl⟩
            · exact hn a' b' z1 z2 z k' z4
            · exact nk k' z4
          · refine Or.inr ⟨k0, a, b, q1, q2, by unfold lexL at q3 ⊢; omega, q4, rfl, rfl, q5, fun a' b' z1 z2 z3 k' z4 => ?_, q7⟩
            rcases lx a' b' z1 z3 with z | ⟨rfl, rfl⟩
            · exact q6 a' b' z1 z2 z k' z4
            · exact nk k' (by omega)
      · rintro g ⟨x, y⟩ ⟨z0, hI⟩
        dsimp only at hI
        refine ⟨x, y, ?_, ?_⟩
        · have lx : ∀ a b, a < b → b < gG c → (lexL a b (i + 1) 0 ↔ lexL a b i (gG c)) := by
            intro a b _ _; unfold lexL; omega
          rcases hI with ⟨e1, e2, hn⟩ | ⟨k0, a, b, q1, q2, q3, q4, e1, e2, q5, q6, q7⟩
          · exact Or.inl ⟨e1, e2, fun a b z1 z2 z3 => hn a b z1 z2 ((lx a b z1 z2).mp z3)⟩
          · exact Or.inr ⟨k0, a, b, q1, q2, (lx a b q1 q2).mpr q3, q4, e1, e2, q5, fun a' b' z1 z2 z3 => q6 a' b' z1 z2 ((lx a' b' z1 z2).mp z3), q7⟩
        · dsimp only
          rw [Mo_sooner_47, h1, grd_in h0 (by omega), clp (by omega), h4, if_pos (by rw [leP (by omega) (by omega)]; omega), show nI i + 1 = nI (i + 1) from nI_add i 1]
      · dsimp only
        have lx : ∀ a b, a < b → (lexL a b i (i + 1) ↔ lexL a b i 0) := by
          intro a b _; unfold lexL; omega
        rcases hI with ⟨e1, e2, hn⟩ | ⟨k0, a, b, q1, q2, q3, q4, e1, e2, q5, q6, q7⟩
        · exact Or.inl ⟨e1, e2, fun a b z1 z2 z3 => hn a b z1 z2 ((lx a b z1).mp z3)⟩
        · exact Or.inr ⟨k0, a, b, q1, q2, (lx a b q1).mpr q3, q4, e1, e2, q5, fun a' b' z1 z2 z3 => q6 a' b' z1 z2 ((lx a' b' z1).mp z3), q7⟩
    obtain ⟨x', y', q1, q2⟩ := inner
    refine Or.inl ⟨(x', y'), q1, ?_⟩
    dsimp only
    rw [Mo_sooner_27, h1, grd_in h0 (by omega), clp (by omega), h4, if_neg (by rw [leP (by omega) (by omega)]; omega), nxs, show nI i + 1 = nI (i + 1) from nI_add i 1, q2]
  · rintro f ⟨x, y⟩ hI
    refine ⟨x, y, hI, ?_⟩
    dsimp only
    rw [Mo_sooner_27, h1, grd_in h0 (by omega), clp (by omega), h4, if_pos (by rw [leP (by omega) (by omega)]; omega)]
theorem call_sooner {N : Nat} {M : mS} (hN : 1000 ≤ N) (h : INV M) (x : Int32) : ∃ r A B, Md_sooner N x M = some (r, A) ∧ Mo_sooner N x A = some (r, B) ∧ INV B := by
  obtain ⟨c, v, R, X, hc, hC, hM⟩ := h
  obtain ⟨hc1, hc2, hc3, hc4, hc5, hc6⟩ := id hc
  rcases arg_c x 2 (by omega) with ⟨w, hw, rfl⟩ | q
  · have hw2 : w = 0 ∨ w = 1 := by omega
    obtain ⟨A, eA, wA, fA, rA, -⟩ := beginW (N := N) hc hC.1 hC.2.1.1 hC.2.1.2.2.1
    obtain ⟨A2, f2, hA2⟩ := firstNightOfTwo_s (N := N) hN hc wA
    have fQ : frQ M A2 := fA.frQ.trans f2
    have hMA := MI_u hM fQ.frU
    obtain ⟨B, eB, b1, b2, b3⟩ := fillsStill_s (N := N) (n := 400) hN (by omega) hc hMA.1 hMA.2.1 hC.2.1.2.2.1
    obtain ⟨xx, yy, hI, eM⟩ := sooner_M (N := N) (w := w) hN hc b2 b1
    have mo : Mo_sooner N (nI w) A2 = if nI w = 0 then some (xx, B) else some (yy, B) := by
      unfold Mo_sooner
      rw [i1, inK_y (by omega) (by omega), if_neg (by decide), show (400 : Int32) = nI 400 from rfl, eB, bVs]
      exact eM
    have cl : ∀ r, (bW (Mt_firstNightOfTwo N A) fun r5 M4 => if r5 = (-2) then (some (r5, M4)) else (if nI w = 1 then (some (r5, M4)) else (some (M4.1 44 1, M4)))) = some (r, A2) → Md_sooner N (nI w) M = some (r, A2) := by
      intro r hr
      unfold Md_sooner Md_sooner_11
      rcases hw2 with rfl | rfl
      · rw [if_pos (by decide), eA, bVs]; exact hr
      · rw [if_neg (by decide), if_pos (by decide), eA, bVs]; exact hr
    rcases hA2 with ⟨no, e2⟩ | ⟨k, a, b, sq, e2, e44⟩
    · rcases hI with ⟨rfl, rfl, -⟩ | ⟨k0, a, b, q1, q2, q3, q4, -, -, q5, -, -⟩
      · refine ⟨-2, A2, B, cl _ ?_, ?_, INV_q hc hC hM fQ b3⟩
        · rw [e2, bWs, if_pos rfl]
        · rw [mo]; split <;> rfl
      · exact absurd q5 (no a b q1 q2 k0 q4)
    · rcases hI with ⟨-, -, hn⟩ | ⟨k0, a0, b0, q1, q2, q3, q4, rfl, rfl, q5, q6, q7⟩
      · exact absurd sq.2.2.2.1 (hn a b sq.1 sq.2.1 (by have := sq.1; have := sq.2.1; unfold lexL; omega) k sq.2.2.1)
      · have sq2 : soQ c R k0 a0 b0 := ⟨q1, q2, q4, q5, fun a' b' z1 z2 k' z3 => q6 a' b' z1 z2 (by unfold lexL; omega) k' z3, q7⟩
        obtain ⟨rfl, rfl, rfl⟩ := soQ_u sq sq2
        have hk := sq.2.2.1
        rcases hw2 with rfl | rfl
        · refine ⟨nI (10 * a + b), A2, B, cl _ ?_, ?_, INV_q hc hC hM fQ b3⟩
          · rw [e2, bWs, if_neg (ne_m2 (by omega)), if_neg (by decide), e44]
          · rw [mo, if_pos (by decide)]
        · refine ⟨nI k, A2, B, cl _ ?_, ?_, INV_q hc hC hM fQ b3⟩
          · rw [e2, bWs, if_neg (ne_m2 (by omega)), if_pos (by decide)]
          · rw [mo, if_neg (by decide)]
  · have z0 : ¬ x = 0 := outr_ne q (k := 0) (by omega) (by omega)
    have z1 : ¬ x = 1 := outr_ne q (k := 1) (by omega) (by omega)
    refine ⟨-1, M, M, ?_, ?_, c, v, R, X, hc, hC, hM⟩
    · unfold Md_sooner; rw [if_neg z0, if_neg z1]
    · unfold Mo_sooner; rw [show (1 : Int32) = nI 1 from rfl, inK_n q (by omega), if_pos (by decide)]
