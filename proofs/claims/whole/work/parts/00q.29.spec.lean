/-! THE GARDEN and a night of it, told once for class and model. c = (hours, dials, goers, seed, from, stay, laws) -/
abbrev gar : Type := Nat × Nat × Nat × Nat × (Nat → Nat) × (Nat → Nat) × (Nat → (Nat → Int32) → Int32)
def gH (c : gar) : Nat := c.1
def gD (c : gar) : Nat := c.2.1
def gG (c : gar) : Nat := c.2.2.1
def gS (c : gar) : Nat := c.2.2.2.1
def gF (c : gar) : Nat → Nat := c.2.2.2.2.1
def gT (c : gar) : Nat → Nat := c.2.2.2.2.2.1
def gL (c : gar) : Nat → (Nat → Int32) → Int32 := c.2.2.2.2.2.2
def gOk (c : gar) : Prop := 2 ≤ gH c ∧ gH c ≤ 24 ∧ gD c ≤ 4 ∧ gG c ≤ 5 ∧ gS c ≤ 9999 ∧ ∀ g, g < gG c → gF c g < gH c ∧ 1 ≤ gT c g ∧ gT c g ≤ 24
/-! a row R, as the model lays it: 0 out, 4 slip, 8 by, 13 met, 18 pairs, 28 the night -/
def bN (R : Nat → Int32) (g : Nat) : Nat := (R (8 + g)).toNatClampNeg
def vG (c : gar) (R : Nat → Int32) (g : Nat) (i : Nat) : Int32 := [R 28, R (bN R g), R (4 + bN R g), nI (gF c g), nI (gT c g), R (13 + g), nI g, nI (gH c), nI (gG c)].getD i 0
def vD (c : gar) (R : Nat → Int32) (d : Nat) (i : Nat) : Int32 := [R 28, R d, R (4 + d), 0, 0, 0, nI d, nI (gH c), nI (gG c)].getD i 0
def stN (c : gar) (R : Nat → Int32) (g : Nat) : Nat := wit (gL c 1 (vG c R g)) (gH c)
def lnN (c : gar) (R : Nat → Int32) (g : Nat) : Nat := if gL c 0 (vG c R g) ≤ 0 then 0 else stN c R g
def woN (c : gar) (R : Nat → Int32) (g : Nat) : Nat := wit (gL c 2 (vG c R g)) 99
def dmN (c : gar) (R : Nat → Int32) (d : Nat) : Nat := wit (gL c 3 (vD c R d)) 100
def dkB (c : gar) (R : Nat → Int32) (s : Int32) (d : Nat) : Prop := lotN 100 s (8 * R 28 + nI d) < dmN c R d
noncomputable def outN (c : gar) (m : Option Int32) (R : Nat → Int32) (d : Nat) : Nat := match m with
  | none => (R d).toNatClampNeg
  | some s => by classical exact if dkB c R s d then lotN (gH c) s (100000 + (8 * R 28 + nI d)) else (R d).toNatClampNeg
noncomputable def thN (c : gar) (m : Option Int32) (R : Nat → Int32) (g : Nat) : Nat := arcN (gH c) (gF c g) (outN c m R (bN R g)) (lnN c R g) (gH c)
noncomputable def th (c : gar) (m : Option Int32) (R : Nat → Int32) (g : Nat) : Int32 := if g < gG c then nI (thN c m R g) else 0
noncomputable def nx (c : gar) (m : Option Int32) (R : Nat → Int32) (k : Nat) : Int32 :=
  if k < gD c then nI (((R k).toNatClampNeg + (R (4 + k)).toNatClampNeg) % gH c)
  else if 13 ≤ k ∧ k < 13 + gG c then R k + bc (th c m R (k - 13) &&& oth (th c m R) (k - 13) (gG c))
  else if 18 ≤ k ∧ k < 28 ∧ (uA (k - 18)).2 < gG c then R k + bc (th c m R (uA (k - 18)).2 &&& th c m R (uA (k - 18)).1)
  else if k = 28 then R 28 + 1 else R k
def VR (c : gar) (R : Nat → Int32) : Prop := (∀ d, d < gD c → (∃ o, o < gH c ∧ R d = nI o) ∧ ∃ o, o < gH c ∧ R (4 + d) = nI o) ∧ ∀ g, g < gG c → ∃ b, b < gD c ∧ R (8 + g) = nI b
/-! the class's cells -/
def LawC (c : gar) (M : mS) : Prop := (∀ N, 1000 ≤ N → ∀ A : mS, A.1 4 = M.1 4 → A.1 6 = M.1 6 → A.1 7 = M.1 7 → ∀ k, k < 4 → ∀ v : Nat → Int32, (∀ i, i < 9 → A.1 5 i = v i) → ∃ B : mS, La_say N (nI k) A = some (gL c k v, B) ∧ (∀ a j, a ≠ 8 → B.1 a j = A.1 a j) ∧ B.2 = A.2)
  ∧ ∀ k, k < 2 → La_changes (nI k) M = 0 → ∀ v w : Nat → Int32, (∀ i, i < 9 → i ≠ 0 → i ≠ 1 → i ≠ 5 → v i = w i) → gL c k v = gL c k w
def gC (c : gar) (M : mS) : Prop := M.1 3 6 = nI (gH c) ∧ M.1 3 7 = nI (gD c) ∧ M.1 3 8 = nI (gG c) ∧ M.1 3 9 = nI (gS c) ∧ (∀ g, g < gG c → M.1 12 g = nI (gF c g) ∧ M.1 13 g = nI (gT c g)) ∧ LawC c M
def wR (c : gar) (C R : Nat → Int32) : Prop := C 0 = R 28 ∧ (∀ d, d < gD c → C (1 + d) = R d ∧ C (5 + d) = R (4 + d)) ∧ ∀ g, g < gG c → C (9 + g) = R (8 + g) ∧ C (14 + g) = R (13 + g)
def pR (c : gar) (C R : Nat → Int32) : Prop := ∀ a, a < gG c → ∀ b, b < gG c → a ≠ b → C (19 + 5 * a + b) = R (18 + pA a b)
/-! the model's cells: v is the side that lives -/
def LawM (c : gar) (v : Nat) (M : mS) : Prop := ∀ N, 1000 ≤ N → ∀ A : mS, (∀ a j, 83 ≤ a → a ≤ 91 → (a ≤ 84 → 4 * v ≤ j ∧ j < 4 * v + 4) → (85 ≤ a → a ≤ 89 → 130 * v ≤ j ∧ j < 130 * v + 130) → (90 ≤ a → 420 * v ≤ j ∧ j < 420 * v + 420) → A.1 a j = M.1 a j) → A.1 64 18 = nI v → ∀ k, k < 4 → ∀ w : Nat → Int32, (∀ i, i < 9 → A.1 93 i = w i) → ∃ B : mS, Mo_lawTells N (nI k) (if k = 1 then w 4 else if k = 3 then 0 else 1) A = some (gL c k w, B) ∧ (∀ a j, a ≠ 94 → (a ≠ 64 ∨ j ≠ 47) → B.1 a j = A.1 a j) ∧ B.2 = A.2
def gM (c : gar) (v : Nat) (M : mS) : Prop := v < 2 ∧ M.1 64 18 = nI v ∧ M.1 74 v = nI (gH c) ∧ M.1 75 v = nI (gD c) ∧ M.1 78 v = nI (gG c) ∧ M.1 82 v = nI (gS c) ∧ (∀ g, g < gG c → (∃ f, f < 1000000 ∧ M.1 80 (5 * v + g) = nI f ∧ f % gH c = gF c g) ∧ M.1 81 (5 * v + g) = nI (gT c g)) ∧ LawM c v M
def rM (M : mS) (R : Nat → Int32) : Prop := ∀ k, k < 29 → M.1 96 k = R k
/-! facts -/
theorem arcN_0 (H f o : Nat) : ∀ n, arcN H f o 0 n = 0
  | 0 => rfl
  | n + 1 => by unfold arcN; rw [arcN_0 H f o n, if_neg (Nat.not_lt_zero _)]; rfl
theorem stN_le {c : gar} (hc : gOk c) {R : Nat → Int32} {g : Nat} : stN c R g ≤ gH c := wit_le (by have := hc.2.1; omega)
theorem lnN_le {c : gar} (hc : gOk c) {R : Nat → Int32} {g : Nat} : lnN c R g ≤ gH c := by
  unfold lnN
  split
  · exact Nat.zero_le _
  · exact stN_le hc
theorem outN_lt {c : gar} (hc : gOk c) {R : Nat → Int32} (hR : VR c R) {m : Option Int32} {d : Nat} (hd : d < gD c) : outN c m R d < gH c := by
  obtain ⟨⟨o, ho, e⟩, -⟩ := hR.1 d hd
  have h := hc.2.1
  have h1 := hc.1
  have e2 : (R d).toNatClampNeg < gH c := by rw [e, clp (by omega)]; exact ho
  unfold outN
  split
  · exact e2
  · split
    · exact lot_lt (by omega)
    · exact e2
theorem thN_lt {c : gar} (hc : gOk c) {R : Nat → Int32} {m : Option Int32} {g : Nat} : thN c m R g < 16777216 := by
  have h := arcN_lt (gH c) (gF c g) (outN c m R (bN R g)) (lnN c R g) (gH c)
  have h2 : 2 ^ gH c ≤ 2 ^ 24 := Nat.pow_le_pow_right (by omega) hc.2.1
  unfold thN
  omega
theorem th_n {c : gar} (hc : gOk c) (m : Option Int32) (R : Nat → Int32) (g : Nat) : ∃ n, n < 16777216 ∧ th c m R g = nI n := by
  unfold th
  split
  · exact ⟨_, thN_lt hc, rfl⟩
  · exact ⟨0, by omega, rfl⟩
theorem th_out {c : gar} {m : Option Int32} {R : Nat → Int32} {g : Nat} (h : gG c ≤ g) : th c m R g = 0 := if_neg (by omega)
theorem bN_lt {c : gar} (hc : gOk c) {R : Nat → Int32} (hR : VR c R) {g : Nat} (hg : g < gG c) : bN R g < gD c ∧ R (8 + g) = nI (bN R g) := by
  obtain ⟨b, hb, e⟩ := hR.2 g hg
  have h := hc.2.2.1
  have e2 : bN R g = b := by unfold bN; rw [e, clp (by omega)]
  rw [e2]; exact ⟨hb, e⟩
theorem VR_nx {c : gar} (hc : gOk c) {R : Nat → Int32} (hR : VR c R) {m : Option Int32} : VR c (nx c m R) := by
  obtain ⟨h1, h2, h3, h4, -⟩ := hc
  refine ⟨fun d hd => ⟨?_, ?_⟩, fun g hg => ?_⟩
  · refine ⟨_, ?_, if_pos hd⟩
    exact Nat.mod_lt _ (by omega)
  · obtain ⟨-, o, ho, e⟩ := hR.1 d hd
    refine ⟨o, ho, ?_⟩
    unfold nx
    rw [if_neg (by omega), if_neg (by omega), if_neg (by omega), if_neg (by omega), e]
  · obtain ⟨b, hb, e⟩ := hR.2 g hg
    refine ⟨b, hb, ?_⟩
    unfold nx
    rw [if_neg (by omega), if_neg (by omega), if_neg (by omega), if_neg (by omega), e]
theorem gC_fr {c : gar} {M A : mS} (h : gC c M) (hf : ∀ a j, (a = 3 ∨ a = 4 ∨ a = 6 ∨ a = 7 ∨ a = 12 ∨ a = 13) → A.1 a j = M.1 a j) : gC c A := by
  obtain ⟨h1, h2, h3, h4, h5, h6, h7⟩ := h
  have e4 : A.1 4 = M.1 4 := funext fun j => hf 4 j (by omega)
  have e6 : A.1 6 = M.1 6 := funext fun j => hf 6 j (by omega)
  have e7 : A.1 7 = M.1 7 := funext fun j => hf 7 j (by omega)
  refine ⟨by rw [hf 3 6 (by omega)]; exact h1, by rw [hf 3 7 (by omega)]; exact h2, by rw [hf 3 8 (by omega)]; exact h3, by rw [hf 3 9 (by omega)]; exact h4, fun g hg => ⟨by rw [hf 12 g (by omega)]; exact (h5 g hg).1, by rw [hf 13 g (by omega)]; exact (h5 g hg).2⟩, ?_, ?_⟩
  · intro N hN B q4 q6 q7
    exact h6 N hN B (q4.trans e4) (q6.trans e6) (q7.trans e7)
  · intro k hk hch
    exact h7 k hk (by unfold La_changes at *; rw [← e4]; exact hch)
theorem gM_fr {c : gar} {v : Nat} {M A : mS} (h : gM c v M) (hf : ∀ a j, (a = 74 ∨ a = 75 ∨ a = 78 ∨ (80 ≤ a ∧ a ≤ 91) ∨ (a = 64 ∧ j = 18)) → A.1 a j = M.1 a j) : gM c v A := by
  obtain ⟨h0, h1, h2, h3, h4, h5, h6, h7⟩ := h
  refine ⟨h0, by rw [hf 64 18 (by omega)]; exact h1, by rw [hf 74 v (by omega)]; exact h2, by rw [hf 75 v (by omega)]; exact h3, by rw [hf 78 v (by omega)]; exact h4, by rw [hf 82 v (by omega)]; exact h5, fun g hg => ⟨?_, by rw [hf 81 _ (by omega)]; exact (h6 g hg).2⟩, ?_⟩
  · rw [hf 80 _ (by omega)]; exact (h6 g hg).1
  · intro N hN B q1 q2
    exact h7 N hN B (fun a j ha hb x1 x2 x3 => (q1 a j ha hb x1 x2 x3).trans (hf a j (by omega))) q2
