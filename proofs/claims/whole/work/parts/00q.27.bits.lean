/-! BITS: counts of bits -/
theorem sar {n k : Nat} (hn : n < 2147483648) (hk : k < 32) : nI n >>> (nI k &&& nI 31) = nI (n / 2 ^ k) := pk_shrN hn _ k (s_l k hk)
theorem sar1 {n k : Nat} (hn : n < 2147483648) (hk : k < 32) : nI n >>> (nI k &&& nI 31) &&& nI 1 = nI (n / 2 ^ k % 2) := by rw [sar hn hk, nx_and, Nat.and_one_is_mod]
theorem shl1 {k : Nat} (hk : k < 32) : nI 1 <<< (nI k &&& nI 31) = nI (2 ^ k) := by
  have h : 2 ^ k < 2 ^ 32 := Nat.pow_lt_pow_right (by omega) hk
  have := pk_shlN (n := 1) (nI k &&& nI 31) k (s_l k hk) (by rw [Nat.one_mul]; exact h)
  rw [Nat.one_mul] at this; exact this
theorem ush {n k : Nat} (hn : n < 4294967296) (hk : k < 32) : ushr (nI n) (nI k) = nI (n / 2 ^ k) := pk_ushrN hn _ k (s_u k hk)
/-- the bits of n below m -/
def pc (n : Nat) : Nat → Nat
  | 0 => 0
  | m + 1 => pc n m + n / 2 ^ m % 2
theorem pc_le (n : Nat) : ∀ m, pc n m ≤ m
  | 0 => Nat.le_refl 0
  | m + 1 => by
    have := pc_le n m
    unfold pc
    omega
def bc (x : Int32) : Int32 := Jl_bitCount x (fun _ _ => 0, fun _ _ => 0)
theorem bc_of (x : Int32) (M : mS) : Jl_bitCount x M = bc x := rfl
theorem and_lane {q r m k : Nat} (hr : r < 256) (hk : k < 256) : (256 * q + r) &&& (256 * m + k) = 256 * (q &&& m) + (r &&& k) := by
  have h1 : r &&& k < 2 ^ 8 := Nat.lt_of_le_of_lt Nat.and_le_left hr
  apply Nat.eq_of_testBit_eq
  intro i
  rw [Nat.testBit_and, show (256 : Nat) = 2 ^ 8 from rfl, Nat.testBit_two_pow_mul_add _ hr, Nat.testBit_two_pow_mul_add _ hk, Nat.testBit_two_pow_mul_add _ h1]
  split
  · rw [Nat.testBit_and]
  · rw [Nat.testBit_and]
theorem bc_1 : ∀ r, r < 256 → ∀ b, b < 2 → (128 * b + r / 2) &&& 85 = (r / 2) &&& 85 := by decide +kernel
theorem bc_2 : ∀ r, r < 256 → ∀ b, b < 4 → (64 * b + r / 4) &&& 51 = (r / 4) &&& 51 := by decide +kernel
def bs1 (r : Nat) : Nat := r - ((r / 2) &&& 85)
def bs2 (r : Nat) : Nat := (r &&& 51) + ((r / 4) &&& 51)
def bs3 (r : Nat) : Nat := (r + r / 16) &&& 15
theorem bs1_l : ∀ r, r < 256 → (r / 2) &&& 85 ≤ r := by decide +kernel
theorem bs2_l : ∀ r, r < 256 → bs2 (bs1 r) ≤ 68 ∧ bs2 (bs1 r) % 16 ≤ 4 := by decide +kernel
theorem bs3_l : ∀ x, x ≤ 68 → ∀ y, y ≤ 4 → (16 * y + x / 16 + x) &&& 15 = bs3 x := by decide +kernel
theorem bs_all : ∀ r, r < 256 → bs3 (bs2 (bs1 r)) = pc r 8 := by decide +kernel
theorem pc_hi {q r : Nat} (hr : r < 256) : ∀ m, pc (256 * q + r) (8 + m) = pc r 8 + pc q m
  | 0 => by
    simp only [pc, Nat.pow_zero, Nat.div_one, show (2 : Nat) ^ 1 = 2 from rfl, show (2 : Nat) ^ 2 = 4 from rfl, show (2 : Nat) ^ 3 = 8 from rfl, show (2 : Nat) ^ 4 = 16 from rfl, show (2 : Nat) ^ 5 = 32 from rfl, show (2 : Nat) ^ 6 = 64 from rfl, show (2 : Nat) ^ 7 = 128 from rfl, Nat.add_zero]
    have e0 : (256 * q + r) % 2 = r % 2 := by omega
    have e1 : (256 * q + r) / 2 % 2 = r / 2 % 2 := by omega
    have e2 : (256 * q + r) / 4 % 2 = r / 4 % 2 := by omega
    have e3 : (256 * q + r) / 8 % 2 = r / 8 % 2 := by omega
    have e4 : (256 * q + r) / 16 % 2 = r / 16 % 2 := by omega
    have e5 : (256 * q + r) / 32 % 2 = r / 32 % 2 := by omega
    have e6 : (256 * q + r) / 64 % 2 = r / 64 % 2 := by omega
    have e7 : (256 * q + r) / 128 % 2 = r / 128 % 2 := by omega
    rw [e0, e1, e2, e3, e4, e5, e6, e7]
  | m + 1 => by
    have e : (256 * q + r) / 2 ^ (8 + m) = q / 2 ^ m := by
      rw [Nat.pow_add, ← Nat.div_div_eq_div_mul, show (256 * q + r) / 2 ^ 8 = q by omega]
    show pc (256 * q + r) (8 + m) + (256 * q + r) / 2 ^ (8 + m) % 2 = pc r 8 + (pc q m + q / 2 ^ m % 2)
    rw [pc_hi hr m, e]; omega
theorem bs_le : ∀ r, r < 256 → bs3 (bs2 (bs1 r)) ≤ 8 := by decide +kernel
theorem lanes {a0 a1 a2 k : Nat} (h0 : a0 < 256) (h1 : a1 < 256) (h2 : a2 < 256) (hk : k < 256) : (256 * (256 * a2 + a1) + a0) &&& (256 * (256 * (256 * k + k) + k) + k) = 256 * (256 * (a2 &&& k) + (a1 &&& k)) + (a0 &&& k) := by
  have e : a2 &&& (256 * k + k) = a2 &&& k := by
    have := and_lane (q := 0) (m := k) h2 hk
    rw [Nat.mul_zero, Nat.zero_add, Nat.zero_and, Nat.mul_zero, Nat.zero_add] at this
    exact this
  rw [and_lane h0 hk, and_lane h1 hk, e]
theorem bc_n {n : Nat} (hn : n < 16777216) : bc (nI n) = nI (pc n 24) := by
  have h0 : n % 256 < 256 := by omega
  have h1 : n / 256 % 256 < 256 := by omega
  have h2 : n / 65536 < 256 := by omega
  have en : n = 256 * (256 * (n / 65536) + n / 256 % 256) + n % 256 := by omega
  have hp : pc n 24 = bs3 (bs2 (bs1 (n % 256))) + bs3 (bs2 (bs1 (n / 256 % 256))) + bs3 (bs2 (bs1 (n / 65536))) := by
    rw [bs_all _ h0, bs_all _ h1, bs_all _ h2]
    have e1 := pc_hi (q := 256 * (n / 65536) + n / 256 % 256) h0 16
    have e2 := pc_hi (q := n / 65536) h1 8
    rw [← en] at e1
    rw [show (24 : Nat) = 8 + 16 from rfl, e1, show (16 : Nat) = 8 + 8 from rfl, e2]
    omega
  rw [hp]
  have l0 := bs_le _ h0
  have l1 := bs_le _ h1
  have l2 := bs_le _ h2
  have a0 := bs1_l _ h0
  have a1 := bs1_l _ h1
  have a2 := bs1_l _ h2
  have d0 := bs2_l _ h0
  have d1 := bs2_l _ h1
  have d2 := bs2_l _ h2
  have t1 : n - ((n / 2) &&& 1431655765) = 256 * (256 * bs1 (n / 65536) + bs1 (n / 256 % 256)) + bs1 (n % 256) := by
    have e1 : n / 2 = 256 * (256 * (n / 65536 / 2) + (128 * (n / 65536 % 2) + n / 256 % 256 / 2)) + (128 * (n / 256 % 256 % 2) + n % 256 / 2) := by omega
    rw [show n - ((n / 2) &&& 1431655765) = n - ((256 * (256 * (n / 65536 / 2) + (128 * (n / 65536 % 2) + n / 256 % 256 / 2)) + (128 * (n / 256 % 256 % 2) + n % 256 / 2)) &&& (256 * (256 * (256 * 85 + 85) + 85) + 85)) by rw [← e1], lanes (by omega) (by omega) (by omega) (by omega), bc_1 _ h0 _ (by omega), bc_1 _ h1 _ (by omega)]
    unfold bs1
    omega
  have b0 : bs1 (n % 256) < 256 := by unfold bs1; omega
  have b1 : bs1 (n / 256 % 256) < 256 := by unfold bs1; omega
  have b2 : bs1 (n / 65536) < 256 := by unfold bs1; omega
  generalize bs1 (n % 256) = x0 at *
  generalize bs1 (n / 256 % 256) = x1 at *
  generalize bs1 (n / 65536) = x2 at *
  have t2 : ((256 * (256 * x2 + x1) + x0) &&& 858993459) + (((256 * (256 * x2 + x1) + x0) / 4) &&& 858993459) = 256 * (256 * bs2 x2 + bs2 x1) + bs2 x0 := by
    have e1 : (256 * (256 * x2 + x1) + x0) / 4 = 256 * (256 * (x2 / 4) + (64 * (x2 % 4) + x1 / 4)) + (64 * (x1 % 4) + x0 / 4) := by omega
    rw [e1, show (858993459 : Nat) = 256 * (256 * (256 * 51 + 51) + 51) + 51 from rfl, lanes b0 b1 b2 (by omega), lanes (by omega) (by omega) (by omega) (by omega), bc_2 _ b0 _ (by omega), bc_2 _ b1 _ (by omega)]
    unfold bs2
    omega
  generalize bs2 x0 = y0 at *
  generalize bs2 x1 = y1 at *
  generalize bs2 x2 = y2 at *
  have t3 : ((256 * (256 * y2 + y1) + y0) + (256 * (256 * y2 + y1) + y0) / 16) &&& 252645135 = 256 * (256 * bs3 y2 + bs3 y1) + bs3 y0 := by
    have e1 : (256 * (256 * y2 + y1) + y0) + (256 * (256 * y2 + y1) + y0) / 16 = 256 * (256 * (y2 / 16 + y2) + (16 * (y2 % 16) + y1 / 16 + y1)) + (16 * (y1 % 16) + y0 / 16 + y0) := by omega
    rw [e1, show (252645135 : Nat) = 256 * (256 * (256 * 15 + 15) + 15) + 15 from rfl, lanes (by omega) (by omega) (by omega) (by omega), bs3_l _ d0.1 _ d1.2, bs3_l _ d1.1 _ d2.2]
    have := bs3_l _ d2.1 0 (by omega)
    rw [show 16 * 0 + y2 / 16 + y2 = y2 / 16 + y2 by omega] at this
    rw [this]
  generalize bs3 y0 = c0 at *
  generalize bs3 y1 = c1 at *
  generalize bs3 y2 = c2 at *
  unfold bc Jl_bitCount
  have hsub : (n / 2) &&& 1431655765 ≤ n := Nat.le_trans Nat.and_le_left (by omega)
  simp (disch := omega) only [nxs, li, ush, nx_and, Nat.pow_one]
  rw [sbP hsub, t1]
  simp (disch := omega) only [nxs, li, ush, nx_and, nI_add, show (2 : Nat) ^ 2 = 4 from rfl]
  rw [t2]
  simp (disch := omega) only [nxs, li, ush, nx_and, nI_add, show (2 : Nat) ^ 4 = 16 from rfl]
  rw [t3]
  simp (disch := omega) only [nxs, li, ush, nx_and, nI_add, show (2 : Nat) ^ 8 = 256 from rfl, show (2 : Nat) ^ 16 = 65536 from rfl]
  rw [show (63 : Nat) = 2 ^ 6 - 1 from rfl, Nat.and_two_pow_sub_one_eq_mod]
  congr 1
  clear t1 t2 t3 hsub hp en a0 a1 a2 d0 d1 d2 b0 b1 b2 h0 h1 h2 hn
  have e1 : (256 * (256 * c2 + c1) + c0) / 256 = 256 * c2 + c1 := by omega
  rw [e1]
  have e2 : (256 * (256 * c2 + c1) + c0 + (256 * c2 + c1)) / 65536 = c2 := by omega
  rw [e2]
  omega
theorem Mo_bits_n {N n : Nat} {M : mS} (hN : 1000 ≤ N) (hn : n < 16777216) : Mo_bits N (nI n) M = some (nI (pc n 24)) := by
  unfold Mo_bits
  refine iter (F := fun f i (s : Int32) => Mo_bits_4 N M f (nI n) s (nI i)) (n := 24) (Q := fun r => r = some (nI (pc n 24))) (fun i s => s = nI (pc n i)) ?_ ?_ (Nat.zero_le _) (by omega) rfl
  · rintro f i s hi rfl
    refine Or.inl ⟨_, rfl, ?_⟩
    simp (disch := omega) only [Mo_bits_4, li, leP, if_neg, nxs, sar1, nI_add]
    rfl
  · rintro f s rfl
    simp (disch := omega) only [Mo_bits_4, li, leP, if_pos]
theorem Mo_bits_s {N n : Nat} {M : mS} (hN : 1000 ≤ N) (hn : n < 16777216) : Mo_bits N (nI n) M = some (bc (nI n)) := by rw [bc_n hn, Mo_bits_n hN hn]
