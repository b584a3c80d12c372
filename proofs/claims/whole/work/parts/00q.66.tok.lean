/-! TOKENS, as both cut them -/
def bY (x : Int32) : Nat := (x &&& 255).toBitVec.toNat
theorem bY_s (x : Int32) : x &&& 255 = nI (bY x) := (nI_self _).symm
theorem bY_lt (x : Int32) : bY x < 256 := by
  show (x.toBitVec &&& (255 : Int32).toBitVec).toNat < 256
  rw [BitVec.toNat_and]
  have := Nat.and_le_right (n := x.toBitVec.toNat) (m := (255 : Int32).toBitVec.toNat)
  have h : (255 : Int32).toBitVec.toNat = 255 := by decide
  omega
theorem nar_b (x : Int32) : vp_nar .byte x &&& 255 = x &&& 255 := by
  show x.toInt8.toInt32 &&& 255 = x &&& 255
  apply Int32.toBitVec_inj.1
  apply BitVec.eq_of_getLsbD_eq
  intro i hi
  show (x.toInt8.toInt32.toBitVec &&& (255 : Int32).toBitVec).getLsbD i = (x.toBitVec &&& (255 : Int32).toBitVec).getLsbD i
  rw [BitVec.getLsbD_and, BitVec.getLsbD_and]
  by_cases h : i < 8
  · have h2 : x.toInt8.toInt32.toBitVec.getLsbD i = x.toBitVec.getLsbD i := by
      rw [Int8.toBitVec_toInt32, BitVec.getLsbD_signExtend, if_pos h, Int32.toBitVec_toInt8, BitVec.getLsbD_signExtend, if_pos hi]
      simp [hi, h]
    rw [h2]
  · have h2 : ∀ j : Fin 32, ¬ j.val < 8 → (255 : Int32).toBitVec.getLsbD j.val = false := by decide +kernel
    rw [h2 ⟨i, hi⟩ h, Bool.and_false, Bool.and_false]
/-- letters, digits, blanks -/
def isL (b : Nat) : Bool := decide (97 ≤ b) && decide (b ≤ 122)
def isD (b : Nat) : Bool := decide (48 ≤ b) && decide (b ≤ 57)
def isB (b : Nat) : Bool := decide (b = 9) || decide (b = 10) || decide (b = 13) || decide (b = 32)
theorem isL_t {b : Nat} : isL b = true ↔ 97 ≤ b ∧ b ≤ 122 := by unfold isL; simp
theorem isD_t {b : Nat} : isD b = true ↔ 48 ≤ b ∧ b ≤ 57 := by unfold isD; simp
theorem isB_t {b : Nat} : isB b = true ↔ b = 9 ∨ b = 10 ∨ b = 13 ∨ b = 32 := by unfold isB; simp; omega
theorem isL_C {b : Nat} {M : mS} (h : b < 256) : Tk_isLetter (nI b) M = if isL b = true then 1 else 0 := by
  unfold Tk_isLetter
  simp (disch := omega) only [li, ltP]
  by_cases q : isL b = true
  · have := isL_t.mp q
    rw [if_pos q, if_neg (by omega), if_neg (by omega)]
  · rw [if_neg q]
    rw [isL_t] at q
    by_cases z : b < 97
    · rw [if_pos z]
    · rw [if_neg z, if_pos (by omega)]
theorem isD_C {b : Nat} {M : mS} (h : b < 256) : Tk_isDigit (nI b) M = if isD b = true then 1 else 0 := by
  unfold Tk_isDigit
  simp (disch := omega) only [li, ltP]
  by_cases q : isD b = true
  · have := isD_t.mp q
    rw [if_pos q, if_neg (by omega), if_neg (by omega)]
  · rw [if_neg q]
    rw [isD_t] at q
    by_cases z : b < 48
    · rw [if_pos z]
    · rw [if_neg z, if_pos (by omega)]
theorem isL_M {b : Nat} {M : mS} (h : b < 256) : Mo_isLetter (nI b) M = if isL b = true then 1 else 0 := isL_C (M := M) h
theorem isD_M {b : Nat} {M : mS} (h : b < 256) : Mo_isDigit (nI b) M = if isD b = true then 1 else 0 := isD_C (M := M) h
theorem isB_C {b : Nat} {M : mS} (h : b < 256) : Tk_isBlank (nI b) M = if isB b = true then 1 else 0 := by
  unfold Tk_isBlank
  simp (disch := omega) only [li, eqP]
  by_cases q : isB b = true
  · rw [if_pos q]
    rcases isB_t.mp q with z | z | z | z <;> subst z <;> decide
  · rw [if_neg q]
    rw [isB_t] at q
    rw [if_neg (by omega), if_neg (by omega), if_neg (by omega), if_neg (by omega)]
/-- behind blanks; a run -/
def nbP (n : Nat) (b : Nat → Nat) (i : Nat) : Nat := i + fa_first (fun k => !isB (b (i + k))) (n - i)
def rnP (p : Nat → Bool) (n : Nat) (b : Nat → Nat) (i : Nat) : Nat := fa_first (fun k => !p (b (i + k))) (n - i)
theorem nbP_le {n : Nat} {b : Nat → Nat} {i : Nat} (h : i ≤ n) : i ≤ nbP n b i ∧ nbP n b i ≤ n := by
  have := fa_first_le (fun k => !isB (b (i + k))) (n - i)
  unfold nbP; omega
theorem nbP_b {n : Nat} {b : Nat → Nat} {i : Nat} (h : i < n) (hb : isB (b i) = true) : nbP n b i = nbP n b (i + 1) := by
  have e1 := fa_first_le (fun k => !isB (b (i + 1 + k))) (n - (i + 1))
  have e2 : ∀ k, k < fa_first (fun k => !isB (b (i + 1 + k))) (n - (i + 1)) + 1 → (fun k => !isB (b (i + k))) k = false := by
    intro k hk
    cases k with
    | zero => show (!isB (b (i + 0))) = false; rw [Nat.add_zero, hb]; rfl
    | succ k =>
      have := fa_first_no (fun k => !isB (b (i + 1 + k))) (n - (i + 1)) k (by omega)
      show (!isB (b (i + (k + 1)))) = false
      rw [show i + (k + 1) = i + 1 + k by omega]; exact this
  unfold nbP
  by_cases q : fa_first (fun k => !isB (b (i + 1 + k))) (n - (i + 1)) < n - (i + 1)
  · have y := fa_first_yes _ _ q
    rw [first_at (i := fa_first (fun k => !isB (b (i + 1 + k))) (n - (i + 1)) + 1) e2 ?_ (by omega)]
    · omega
    · show (!isB (b (i + (fa_first (fun k => !isB (b (i + 1 + k))) (n - (i + 1)) + 1)))) = true
      rw [show i + (fa_first (fun k => !isB (b (i + 1 + k))) (n - (i + 1)) + 1) = i + 1 + fa_first (fun k => !isB (b (i + 1 + k))) (n - (i + 1)) by omega]
      exact y
  · rw [first_none (fun k hk => e2 k (by omega))]
    omega
theorem nbP_n {n : Nat} {b : Nat → Nat} {i : Nat} (h : i < n) (hb : ¬ isB (b i) = true) : nbP n b i = i := by
  unfold nbP
  rw [first_at (i := 0) (fun k hk => by omega) (by show (!isB (b (i + 0))) = true; rw [Nat.add_zero]; cases q : isB (b i); rfl; exact absurd q hb) (by omega)]
  rfl
theorem nbP_e {n : Nat} {b : Nat → Nat} {i : Nat} (h : n ≤ i) : nbP n b i = i := by
  unfold nbP
  rw [show n - i = 0 by omega]; rfl
theorem nbP_y {n : Nat} {b : Nat → Nat} {i : Nat} (hn : nbP n b i < n) : ¬ isB (b (nbP n b i)) = true := by
  have := fa_first_yes (fun k => !isB (b (i + k))) (n - i) (by unfold nbP at hn; omega)
  intro q
  have h2 : (!isB (b (nbP n b i))) = true := this
  rw [q] at h2
  cases h2
theorem rnP_le {p : Nat → Bool} {n : Nat} {b : Nat → Nat} {i : Nat} : rnP p n b i ≤ n - i := fa_first_le _ _
theorem rnP_p {p : Nat → Bool} {n : Nat} {b : Nat → Nat} {i k : Nat} (h : k < rnP p n b i) : p (b (i + k)) = true := by
  have := fa_first_no (fun k => !p (b (i + k))) (n - i) k h
  cases q : p (b (i + k))
  · have h2 : (!p (b (i + k))) = false := this
    rw [q] at h2; cases h2
  · rfl
theorem rnP_e {p : Nat → Bool} {n : Nat} {b : Nat → Nat} {i : Nat} (h : i + rnP p n b i < n) : ¬ p (b (i + rnP p n b i)) = true := by
  have := fa_first_yes (fun k => !p (b (i + k))) (n - i) (by unfold rnP at h; omega)
  intro q
  have h2 : (!p (b (i + rnP p n b i))) = true := this
  rw [q] at h2
  cases h2
theorem rnP_pos {p : Nat → Bool} {n : Nat} {b : Nat → Nat} {i : Nat} (h : i < n) (hp : p (b i) = true) : 1 ≤ rnP p n b i := by
  apply Classical.byContradiction
  intro q
  have e : rnP p n b i = 0 := by omega
  have := rnP_e (p := p) (n := n) (b := b) (i := i) (by omega)
  rw [e, Nat.add_zero] at this
  exact this hp
/-- a word, last letter first -/
def wrd (b : Nat → Nat) (p : Nat) : Nat → List Nat
  | 0 => []
  | l + 1 => (b (p + l) - 96) :: wrd b p l
def krd (B : Nat) : List Nat → Nat
  | [] => 0
  | d :: t => krd B t * B + d
def wOk (l : List Nat) : Prop := l.length ≤ 8 ∧ ∀ d, d ∈ l → 1 ≤ d ∧ d ≤ 26
theorem krd_inj {B : Nat} (hB : 27 ≤ B) : ∀ {l m : List Nat}, (∀ d, d ∈ l → 1 ≤ d ∧ d ≤ 26) → (∀ d, d ∈ m → 1 ≤ d ∧ d ≤ 26) → krd B l = krd B m → l = m
  | [], [], _, _, _ => rfl
  | [], d :: m, _, h2, h => by
    have := h2 d (List.mem_cons_self ..)
    unfold krd at h; omega
  | d :: l, [], h1, _, h => by
    have := h1 d (List.mem_cons_self ..)
    have e : krd B (d :: l) = krd B l * B + d := rfl
    have e2 : krd B [] = 0 := rfl
    omega
  | d :: l, f :: m, h1, h2, h => by
    have q1 := h1 d (List.mem_cons_self ..)
    have q2 := h2 f (List.mem_cons_self ..)
    have h : krd B l * B + d = krd B m * B + f := h
    have e1 : (krd B l * B + d) % B = d := by rw [Nat.mul_comm, Nat.mul_add_mod, Nat.mod_eq_of_lt (by omega)]
    have e2 : (krd B m * B + f) % B = f := by rw [Nat.mul_comm, Nat.mul_add_mod, Nat.mod_eq_of_lt (by omega)]
    have e : d = f := by rw [← e1, ← e2, h]
    subst e
    have h3 : krd B l * B = krd B m * B := by omega
    have h4 := Nat.eq_of_mul_eq_mul_right (by omega) h3
    rw [krd_inj hB (fun x hx => h1 x (List.mem_cons_of_mem _ hx)) (fun x hx => h2 x (List.mem_cons_of_mem _ hx)) h4]
theorem krd_lt {B : Nat} (hB : 27 ≤ B) : ∀ {l : List Nat}, (∀ d, d ∈ l → 1 ≤ d ∧ d ≤ 26) → krd B l < B ^ l.length
  | [], _ => by show 0 < B ^ 0; simp
  | d :: l, h => by
    have q := h d (List.mem_cons_self ..)
    have ih := krd_lt hB (l := l) (fun x hx => h x (List.mem_cons_of_mem _ hx))
    show krd B l * B + d < B ^ (l.length + 1)
    rw [Nat.pow_succ]
    have : (krd B l + 1) * B ≤ B ^ l.length * B := Nat.mul_le_mul_right _ ih
    rw [Nat.add_mul, Nat.one_mul] at this
    omega
theorem krd_63 {B : Nat} (hB : 27 ≤ B) (hB2 : B ≤ 32) {l : List Nat} (h : wOk l) : krd B l < 2 ^ 63 := by
  have h1 := krd_lt hB h.2
  have h2 : B ^ l.length ≤ B ^ 8 := Nat.pow_le_pow_right (by omega) h.1
  have h3 : B ^ 8 ≤ 32 ^ 8 := Nat.pow_le_pow_left hB2 8
  have h4 : (32 : Nat) ^ 8 < 2 ^ 63 := by decide
  omega
theorem krd_eq {B : Nat} (hB : 27 ≤ B) (hB2 : B ≤ 32) {l m : List Nat} (h : wOk l) (g : wOk m) : lN (krd B l) = lN (krd B m) ↔ l = m := by
  rw [pk_lEQ (krd_63 hB hB2 h) (krd_63 hB hB2 g)]
  exact ⟨krd_inj hB h.2 g.2, fun e => by rw [e]⟩
def wds : List (List Nat) := [[19, 18, 21, 15, 8], [12, 1, 9, 4], [18, 5, 15, 7], [19, 5, 13, 15, 3], [19, 25, 1, 20, 19], [8, 20, 18, 15, 23], [19, 13, 9, 4], [4, 5, 5, 19], [6, 9], [14, 5, 8, 20], [5, 19, 12, 5], [20, 8, 7, 9, 14], [20, 21, 15], [16, 9, 12, 19], [13, 15, 18, 6], [7, 14, 15, 12], [20, 5, 13], [8, 3, 9, 8, 23], [25, 1, 4], [19, 18, 5, 15, 7]]
def wdK (k : Nat) : List Nat := wds.getD k []
theorem wdK_C : ∀ k, k < 20 → kC k = lN (krd 32 (wdK k)) := by decide +kernel
theorem wdK_M : ∀ k, k < 20 → kM k = lN (krd 27 (wdK k)) := by decide +kernel
theorem wdK_ok0 : ∀ k, k < 20 → (wdK k).length ≤ 8 ∧ ∀ d, d ∈ wdK k → 1 ≤ d ∧ d ≤ 26 := by decide +kernel
theorem wdK_ok {k : Nat} (h : k < 20) : wOk (wdK k) := wdK_ok0 k h
theorem wdK_inj : ∀ j, j < 20 → ∀ k, k < 20 → wdK j = wdK k → j = k := by decide +kernel
theorem wrd_len {b : Nat → Nat} {p : Nat} : ∀ {l : Nat}, (wrd b p l).length = l
  | 0 => rfl
  | l + 1 => by show (wrd b p l).length + 1 = l + 1; rw [wrd_len]
theorem wrd_ok0 {b : Nat → Nat} {p : Nat} : ∀ {l : Nat}, (∀ k, k < l → isL (b (p + k)) = true) → ∀ d, d ∈ wrd b p l → 1 ≤ d ∧ d ≤ 26
  | 0, _, d, hd => by cases hd
  | l + 1, h, d, hd => by
    rcases List.mem_cons.mp hd with e | e
    · have := isL_t.mp (h l (by omega)); omega
    · exact wrd_ok0 (fun k hk => h k (by omega)) d e
theorem wrd_ok {b : Nat → Nat} {p l : Nat} (hl : l ≤ 8) (h : ∀ k, k < l → isL (b (p + k)) = true) : wOk (wrd b p l) := ⟨by rw [wrd_len]; exact hl, wrd_ok0 h⟩
/-- a number -/
def num (b : Nat → Nat) (p : Nat) : Nat → Nat
  | 0 => 0
  | l + 1 => num b p l * 10 + (b (p + l) - 48)
theorem num_lt {b : Nat → Nat} {p : Nat} : ∀ {l : Nat}, (∀ k, k < l → isD (b (p + k)) = true) → num b p l < 10 ^ l
  | 0, _ => by show 0 < 10 ^ 0; decide
  | l + 1, h => by
    have ih := num_lt (l := l) (fun k hk => h k (by omega))
    have := isD_t.mp (h l (by omega))
    show num b p l * 10 + (b (p + l) - 48) < 10 ^ (l + 1)
    rw [Nat.pow_succ]; omega
def wkN (w : List Nat) : Nat := fa_first (fun k => decide (wdK k = w)) 20
def sgs : List Nat := [59, 61, 43, 45, 42, 47, 60, 40, 41]
def sgN (x : Nat) : Nat := if x = 59 then 22 else if x = 61 then 23 else if x = 43 then 24 else if x = 45 then 25 else if x = 42 then 26 else if x = 47 then 27 else if x = 60 then 28 else if x = 40 then 29 else if x = 41 then 30 else 32
/-- how long, of what kind is the token at p -/
def tkL (n : Nat) (b : Nat → Nat) (p : Nat) : Nat := if n ≤ p then 1 else if isL (b p) = true then rnP isL n b p else if isD (b p) = true then rnP isD n b p else 1
def tkK (n : Nat) (b : Nat → Nat) (p : Nat) : Nat := if n ≤ p then 31 else if isL (b p) = true then (if rnP isL n b p ≤ 8 then wkN (wrd b p (rnP isL n b p)) else 32) else if isD (b p) = true then (if rnP isD n b p ≤ 4 then 21 else 32) else sgN (b p)
/-- where the tokens are -/
def tkP (n : Nat) (b : Nat → Nat) : Nat → Nat
  | 0 => nbP n b 0
  | k + 1 => nbP n b (tkP n b k + tkL n b (tkP n b k))
/-- the class's tape, byte by byte -/
def tpB (n : Nat) (b : Nat → Nat) (M : mS) : Prop := n ≤ 2000 ∧ M.1 1 1 = nI n ∧ ∀ i, i < n → M.1 2 i &&& 255 = nI (b i) ∧ b i < 256
section
variable {N n : Nat} {b : Nat → Nat} {M : mS}
theorem at_y (h : tpB n b M) {i : Nat} (hi : i < n) : Tp_at N (nI i) M = some (nI (b i)) := by
  obtain ⟨h1, h2, h3⟩ := h
  unfold Tp_at
  rw [h2, if_neg (by rw [show (0 : Int32) = nI 0 from rfl, ltP (by omega) (by omega)]; omega), if_neg (by rw [leP (by omega) (by omega)]; omega), grd_in (by omega) (by omega), clp (by omega), (h3 i hi).1]
theorem at_n (h : tpB n b M) {i : Nat} (hi : n ≤ i) (hi2 : i < 100000) : Tp_at N (nI i) M = some (-1) := by
  obtain ⟨h1, h2, h3⟩ := h
  unfold Tp_at
  rw [h2, if_neg (by rw [show (0 : Int32) = nI 0 from rfl, ltP (by omega) (by omega)]; omega), if_pos (by rw [leP (by omega) (by omega)]; omega)]
theorem at_s (h : tpB n b M) {i : Nat} (hi2 : i < 100000) : ∃ r, Tp_at N (nI i) M = some r := by
  by_cases q : i < n
  · exact ⟨_, at_y h q⟩
  · exact ⟨_, at_n h (by omega) hi2⟩
theorem blanks_s (hN : 5000 ≤ N) (h : tpB n b M) {i : Nat} (hi : i ≤ n) : Tk_behindBlanks N (nI i) M = some (nI (nbP n b i)) := by
  have h1 := h.1
  unfold Tk_behindBlanks
  refine iter (F := fun f k (s : Unit) => Tk_behindBlanks_2 N M f (nI k)) (i := i) (f := N) (s := ()) (n := n) (Q := fun r => r = some (nI (nbP n b i))) (fun k s => nbP n b k = nbP n b i) ?_ ?_ hi (by omega) rfl
  · rintro f k - hk e
    rw [Tk_behindBlanks_2, h.2.1, if_neg (by rw [leP (by omega) (by omega)]; omega), at_y h hk, bRs, isB_C (h.2.2 k hk).2]
    by_cases z : isB (b k) = true
    · refine Or.inl ⟨(), by rw [← nbP_b hk z]; exact e, ?_⟩
      rw [if_pos z, if_neg (by decide), show nI k + 1 = nI (k + 1) from nI_add k 1]
    · refine Or.inr ?_
      rw [if_neg z, if_pos rfl, ← e, nbP_n hk z]
  · rintro f - e
    rw [Tk_behindBlanks_2, h.2.1, if_pos (by rw [leP (by omega) (by omega)]; omega), ← e, nbP_e (Nat.le_refl _)]
theorem m1L {M : mS} : Tk_isLetter (-1) M = 0 := rfl
theorem m1D {M : mS} : Tk_isDigit (-1) M = 0 := rfl
theorem run_s (hN : 5000 ≤ N) (h : tpB n b M) {p : Nat} (hp : p ≤ n) : Tk_runLength N (nI p) M = some (nI (tkL n b p)) := by
  have h1 := h.1
  unfold Tk_runLength tkL
  by_cases e : n ≤ p
  · rw [at_n h e (by omega), bRs, m1L, if_pos rfl, m1D, if_pos rfl, if_pos e]; rfl
  · have hp : p < n := by omega
    rw [at_y h hp, bRs, isL_C (h.2.2 p hp).2, isD_C (h.2.2 p hp).2, if_neg e]
    by_cases zL : isL (b p) = true
    · rw [if_pos zL, if_neg (by decide), if_pos zL, i1]
      have r1 := rnP_pos (p := isL) hp zL
      have r2 := rnP_le (p := isL) (n := n) (b := b) (i := p)
      refine iter (F := fun f k (s : Unit) => Tk_runLength_15 N M f (nI p) (nI k)) (i := 1) (f := N) (s := ()) (n := rnP isL n b p) (Q := fun r => r = some (nI (rnP isL n b p))) (fun k s => True) ?_ ?_ r1 (by omega) trivial
      · rintro f k - hk -
        refine Or.inl ⟨(), trivial, ?_⟩
        have q := rnP_p hk
        rw [Tk_runLength_15, if_neg (by rw [show (2000 : Int32) = nI 2000 from rfl, leP (by omega) (by omega)]; omega), nI_add, at_y h (by omega), bRs, isL_C (h.2.2 _ (by omega)).2, if_pos q, if_neg (by decide), show nI k + 1 = nI (k + 1) from nI_add k 1]
      · rintro f - -
        rw [Tk_runLength_15]
        by_cases z : 2000 ≤ rnP isL n b p
        · rw [if_pos (by rw [show (2000 : Int32) = nI 2000 from rfl, leP (by omega) (by omega)]; omega)]
        · rw [if_neg (by rw [show (2000 : Int32) = nI 2000 from rfl, leP (by omega) (by omega)]; omega), nI_add]
          by_cases y : p + rnP isL n b p < n
          · rw [at_y h y, bRs, isL_C (h.2.2 _ y).2, if_neg (rnP_e y), if_pos rfl]
          · rw [at_n h (by omega) (by omega), bRs, m1L, if_pos rfl]
    · rw [if_neg zL, if_pos rfl, if_neg zL]
      by_cases zD : isD (b p) = true
      · rw [if_pos zD, if_neg (by decide), if_pos zD, i1]
        have r1 := rnP_pos (p := isD) hp zD
        have r2 := rnP_le (p := isD) (n := n) (b := b) (i := p)
        refine iter (F := fun f k (s : Unit) => Tk_runLength_48 N M f (nI p) (nI k)) (i := 1) (f := N) (s := ()) (n := rnP isD n b p) (Q := fun r => r = some (nI (rnP isD n b p))) (fun k s => True) ?_ ?_ r1 (by omega) trivial
        · rintro f k - hk -
          refine Or.inl ⟨(), trivial, ?_⟩
          have q := rnP_p hk
          rw [Tk_runLength_48, if_neg (by rw [show (2000 : Int32) = nI 2000 from rfl, leP (by omega) (by omega)]; omega), nI_add, at_y h (by omega), bRs, isD_C (h.2.2 _ (by omega)).2, if_pos q, if_neg (by decide), show nI k + 1 = nI (k + 1) from nI_add k 1]
        · rintro f - -
          rw [Tk_runLength_48]
          by_cases z : 2000 ≤ rnP isD n b p
          · rw [if_pos (by rw [show (2000 : Int32) = nI 2000 from rfl, leP (by omega) (by omega)]; omega)]
          · rw [if_neg (by rw [show (2000 : Int32) = nI 2000 from rfl, leP (by omega) (by omega)]; omega), nI_add]
            by_cases y : p + rnP isD n b p < n
            · rw [at_y h y, bRs, isD_C (h.2.2 _ y).2, if_neg (rnP_e y), if_pos rfl]
            · rw [at_n h (by omega) (by omega), bRs, m1D, if_pos rfl]
      · rw [if_neg zD, if_pos rfl, if_neg zD]; rfl
theorem tkL_b {p : Nat} (hp : p ≤ n) (hn : n ≤ 2000) : 1 ≤ tkL n b p ∧ tkL n b p ≤ 2000 ∧ (p < n → p + tkL n b p ≤ n) := by
  unfold tkL
  have r1 := rnP_le (p := isD) (n := n) (b := b) (i := p)
  have r2 := rnP_le (p := isL) (n := n) (b := b) (i := p)
  by_cases e : n ≤ p
  · rw [if_pos e]; omega
  · rw [if_neg e]
    by_cases zL : isL (b p) = true
    · have := rnP_pos (p := isL) (show p < n by omega) zL
      rw [if_pos zL]; omega
    · rw [if_neg zL]
      by_cases zD : isD (b p) = true
      · have := rnP_pos (p := isD) (show p < n by omega) zD
        rw [if_pos zD]; omega
      · rw [if_neg zD]; omega
theorem key_ex (hN : 5000 ≤ N) (h : tpB n b M) {p l : Nat} (hp : p ≤ n) (hl : l ≤ 2000) : ∃ x, Tk_key N (nI p) (nI l) M = some x := by
  have h1 := h.1
  unfold Tk_key
  refine iter (F := fun f k (s : Int64) => Tk_key_5 N M f (nI p) (nI l) s (nI k)) (i := 0) (f := N) (s := (0 : Int64)) (n := 8) (Q := fun r => ∃ x, r = some x) (fun k s => True) ?_ ?_ (by omega) (by omega) trivial
  · rintro f k s hk -
    obtain ⟨r, er⟩ := at_s (N := N) h (i := p + k) (by omega)
    rw [Tk_key_5]
    by_cases z : l ≤ k
    · refine Or.inr ⟨s, ?_⟩
      rw [if_pos (by rw [leP (by omega) (by omega)]; omega)]
    · refine Or.inl ⟨Tk_withLetter s r M, trivial, ?_⟩
      rw [if_neg (by rw [leP (by omega) (by omega)]; omega), if_neg (by rw [show (8 : Int32) = nI 8 from rfl, leP (by omega) (by omega)]; omega), nI_add, er, bRs, nxs, show nI k + 1 = nI (k + 1) from nI_add k 1]
  · rintro f s -
    refine ⟨s, ?_⟩
    rw [Tk_key_5]
    by_cases z : l ≤ 8
    · rw [if_pos (by rw [leP (by omega) (by omega)]; omega)]
    · rw [if_neg (by rw [leP (by omega) (by omega)]; omega), if_pos (by decide)]
theorem num_ex (hN : 5000 ≤ N) (h : tpB n b M) {p l : Nat} (hp : p ≤ n) (hl : l ≤ 2000) : ∃ x, Tk_number N (nI p) (nI l) M = some x := by
  have h1 := h.1
  unfold Tk_number
  refine iter (F := fun f k (s : Int64) => Tk_number_5 N M f (nI p) (nI l) s (nI k)) (i := 0) (f := N) (s := (0 : Int64)) (n := 4) (Q := fun r => ∃ x, r = some x) (fun k s => True) ?_ ?_ (by omega) (by omega) trivial
  · rintro f k s hk -
    obtain ⟨r, er⟩ := at_s (N := N) h (i := p + k) (by omega)
    rw [Tk_number_5]
    by_cases z : l ≤ k
    · refine Or.inr ⟨s, ?_⟩
      rw [if_pos (by rw [leP (by omega) (by omega)]; omega)]
    · refine Or.inl ⟨s * 10 + (r - 48).toInt64, trivial, ?_⟩
      rw [if_neg (by rw [leP (by omega) (by omega)]; omega), if_neg (by rw [show (4 : Int32) = nI 4 from rfl, leP (by omega) (by omega)]; omega), nI_add, er, bRs, nxs, show nI k + 1 = nI (k + 1) from nI_add k 1]
  · rintro f s -
    refine ⟨s, ?_⟩
    rw [Tk_number_5]
    by_cases z : l ≤ 4
    · rw [if_pos (by rw [leP (by omega) (by omega)]; omega)]
    · rw [if_neg (by rw [leP (by omega) (by omega)]; omega), if_pos (by decide)]
theorem key_s (hN : 5000 ≤ N) (h : tpB n b M) {p l : Nat} (hp : p + l ≤ n) (hl : l ≤ 8) (hw : ∀ k, k < l → isL (b (p + k)) = true) : Tk_key N (nI p) (nI l) M = some (lN (krd 32 (wrd b p l))) := by
  have h1 := h.1
  unfold Tk_key
  refine iter (F := fun f k (s : Int64) => Tk_key_5 N M f (nI p) (nI l) s (nI k)) (i := 0) (f := N) (s := (0 : Int64)) (n := l) (Q := fun r => r = some (lN (krd 32 (wrd b p l)))) (fun k s => s = lN (krd 32 (wrd b p k))) ?_ ?_ (Nat.zero_le _) (by omega) rfl
  · rintro f k s hk rfl
    refine Or.inl ⟨_, rfl, ?_⟩
    have w := isL_t.mp (hw k hk)
    rw [Tk_key_5, if_neg (by rw [leP (by omega) (by omega)]; omega), if_neg (by rw [show (8 : Int32) = nI 8 from rfl, leP (by omega) (by omega)]; omega), nI_add, at_y h (by omega), bRs, nxs, show nI k + 1 = nI (k + 1) from nI_add k 1]
    unfold Tk_withLetter
    rw [show (31 : Int32) = nI (2 ^ 5 - 1) from rfl, fa_mask, nI_l (by omega), show lN (krd 32 (wrd b p k)) * 32 = lN (krd 32 (wrd b p k) * 32) from lN_mul _ 32, lN_add]
    show Tk_key_5 N M f (nI p) (nI l) _ (nI (k + 1)) = Tk_key_5 N M f (nI p) (nI l) (lN (krd 32 (wrd b p k) * 32 + (b (p + k) - 96))) (nI (k + 1))
    rw [show b (p + k) % 2 ^ 5 = b (p + k) - 96 by omega]
  · rintro f s rfl
    rw [Tk_key_5, if_pos (by rw [leP (by omega) (by omega)]; omega)]
theorem num_s (hN : 5000 ≤ N) (h : tpB n b M) {p l : Nat} (hp : p + l ≤ n) (hl : l ≤ 4) (hw : ∀ k, k < l → isD (b (p + k)) = true) : Tk_number N (nI p) (nI l) M = some (lN (num b p l)) := by
  have h1 := h.1
  unfold Tk_number
  refine iter (F := fun f k (s : Int64) => Tk_number_5 N M f (nI p) (nI l) s (nI k)) (i := 0) (f := N) (s := (0 : Int64)) (n := l) (Q := fun r => r = some (lN (num b p l))) (fun k s => s = lN (num b p k)) ?_ ?_ (Nat.zero_le _) (by omega) rfl
  · rintro f k s hk rfl
    refine Or.inl ⟨_, rfl, ?_⟩
    have w := isD_t.mp (hw k hk)
    rw [Tk_number_5, if_neg (by rw [leP (by omega) (by omega)]; omega), if_neg (by rw [show (4 : Int32) = nI 4 from rfl, leP (by omega) (by omega)]; omega), nI_add, at_y h (by omega), bRs, nxs, show nI k + 1 = nI (k + 1) from nI_add k 1]
    rw [show nI (b (p + k)) - 48 = nI (b (p + k) - 48) from sbP (b := 48) (by omega), nI_l (by omega), show lN (num b p k) * 10 = lN (num b p k * 10) from lN_mul _ 10, lN_add]
    rfl
  · rintro f s rfl
    rw [Tk_number_5, if_pos (by rw [leP (by omega) (by omega)]; omega)]
theorem wordKind_s (hN : 5000 ≤ N) (hk : ∀ k, k < 20 → M.2 27 k = kC k) {w : List Nat} (hw : wOk w) : Tk_wordKind N (lN (krd 32 w)) M = some (nI (wkN w)) := by
  unfold Tk_wordKind
  refine iter (F := fun f k (s : Unit) => Tk_wordKind_2 N M f (lN (krd 32 w)) (nI k)) (i := 0) (f := N) (s := ()) (n := 20) (Q := fun r => r = some (nI (wkN w))) (fun k s => ∀ j, j < k → (fun k => decide (wdK k = w)) j = false) ?_ ?_ (by omega) (by omega) (fun j hj => absurd hj (by omega))
  · rintro f k - hk2 e
    rw [Tk_wordKind_2, if_neg (by rw [show (20 : Int32) = nI 20 from rfl, leP (by omega) (by omega)]; omega), grd_in (by omega) (by omega), clp (by omega), hk k hk2, wdK_C k hk2]
    by_cases z : wdK k = w
    · refine Or.inr ?_
      rw [if_pos (by rw [lg_cmp_eq, z])]
      unfold wkN
      rw [first_at e (by show decide (wdK k = w) = true; rw [decide_eq_true_eq]; exact z) hk2]
    · refine Or.inl ⟨(), snoc_f e (by show decide (wdK k = w) = false; rw [decide_eq_false_iff_not]; exact z), ?_⟩
      rw [if_neg (by rw [lg_cmp_eq, krd_eq (by omega) (by omega) (wdK_ok hk2) hw]; exact z), show nI k + 1 = nI (k + 1) from nI_add k 1]
  · rintro f - e
    rw [Tk_wordKind_2, if_pos (by decide)]
    unfold wkN
    rw [first_none e]; rfl
theorem sg_C : ∀ x, x < 256 → (if (0 : Int32) ≤ mIdx (nI x) (mTx 1) 0 then 22 + mIdx (nI x) (mTx 1) 0 else 32) = nI (sgN x) := by decide +kernel
theorem sg_g : ∀ x, x < 256 → (decide (0 ≤ (((nI x).toUInt32 % 65536).toInt32)) && decide ((((nI x).toUInt32 % 65536).toInt32) < 256)) = true ∧ ((nI x).toUInt32 % 65536).toInt32 = nI x := by decide +kernel
theorem kindAt_s (hN : 5000 ≤ N) (h : tpB n b M) (hk : ∀ k, k < 20 → M.2 27 k = kC k) {p : Nat} (hp : p ≤ n) : Tk_kindAt N (nI p) (nI (tkL n b p)) M = some (nI (tkK n b p)) := by
  have h1 := h.1
  unfold Tk_kindAt tkK
  by_cases e : n ≤ p
  · rw [at_n h e (by omega), bRs, if_pos rfl, if_pos e]; rfl
  · have hp : p < n := by omega
    have hb := (h.2.2 p hp).2
    have r1 := rnP_le (p := isD) (n := n) (b := b) (i := p)
    have r2 := rnP_le (p := isL) (n := n) (b := b) (i := p)
    rw [at_y h hp, bRs, if_neg (ne_m1 (by omega)), isL_C hb, isD_C hb, if_neg e]
    unfold tkL
    rw [if_neg e]
    by_cases zL : isL (b p) = true
    · rw [if_pos zL, if_neg (by decide), if_pos zL, if_pos zL]
      by_cases z : rnP isL n b p ≤ 8
      · have hw : ∀ k, k < rnP isL n b p → isL (b (p + k)) = true := fun k hk => rnP_p hk
        rw [if_pos (by rw [show (8 : Int32) = nI 8 from rfl, leP (by omega) (by omega)]; omega), key_s hN h (by omega) z hw, bRs, wordKind_s hN hk (wrd_ok z hw), bRs, if_pos z]
      · rw [if_neg (by rw [show (8 : Int32) = nI 8 from rfl, leP (by omega) (by omega)]; omega), if_neg z]; rfl
    · rw [if_neg zL, if_pos rfl, if_neg zL, if_neg zL]
      by_cases zD : isD (b p) = true
      · rw [if_pos zD, if_neg (by decide), if_pos zD, if_pos zD]
        by_cases z : rnP isD n b p ≤ 4
        · rw [if_pos (by rw [show (4 : Int32) = nI 4 from rfl, leP (by omega) (by omega)]; omega), if_pos z]; rfl
        · rw [if_neg (by rw [show (4 : Int32) = nI 4 from rfl, leP (by omega) (by omega)]; omega), if_neg z]; rfl
      · rw [if_neg zD, if_pos rfl, if_neg zD, grd_t (sg_g _ hb).1, (sg_g _ hb).2, nxs, ← sg_C _ hb]
        by_cases z : (0 : Int32) ≤ mIdx (nI (b p)) (mTx 1) 0
        · rw [if_pos z, if_pos z]
        · rw [if_neg z, if_neg z]
end
