/-! TOOLS of the pure part: by simp (disch := omega) only [..] -/
theorem grd_in {α : Type} {n N : Nat} {x : Option α} (h : n < N) (hN : N < 2147483648) : grd (mIn (nI n) N) x = x := by
  rw [inx rfl h hN]; rfl
theorem clp {n : Nat} (h : n < 2147483648) : (nI n).toNatClampNeg = n := nI_clamp h
theorem nz_n {α : Type} {n : Nat} {x : Option α} (h : 0 < n) (h2 : n < 2147483648) : nz (nI n) x = x := if_neg (nI_ne0 h h2)
theorem ltP {a b : Nat} (ha : a < 2147483648) (hb : b < 2147483648) : (nI a < nI b) = (a < b) := propext (nI_ltI ha hb)
theorem leP {a b : Nat} (ha : a < 2147483648) (hb : b < 2147483648) : (nI a ≤ nI b) = (a ≤ b) := propext (nI_leI ha hb)
theorem eqP {a b : Nat} (ha : a < 2147483648) (hb : b < 2147483648) : (nI a = nI b) = (a = b) := propext (nI_eq ha hb)
theorem onI (n : Nat) : Int32.ofNat n = nI n := rfl
theorem rmP {a b : Nat} (ha : a < 2147483648) (h0 : 0 < b) (hb : b < 2147483648) : nI a - nI a / nI b * nI b = nI (a % b) := pk_rem ha h0 hb
theorem sbP {a b : Nat} (h : b ≤ a) : nI a - nI b = nI (a - b) := pk_sub h
theorem bVs {β : Type} {M : mS} {f : mS → Option β} : bV (some M) f = f M := rfl
theorem bUs {β : Type} {u : Unit} {f : Unit → Option β} : bU (some u) f = f u := rfl
theorem bRs {α β : Type} {r : α} {f : α → Option β} : bR (some r) f = f r := rfl
theorem bWs {α β : Type} {r : α} {M : mS} {f : α → mS → Option β} : bW (some (r, M)) f = f r M := rfl
theorem nxs {α β : Type} {x : α} {f : α → β} : nxt x f = f x := rfl
theorem rI {M : mS} {a k j : Nat} {x : Int32} (h : j = k) : (mWI M a k x).1 a j = x := by rw [h]; exact mWI_at
theorem rN {M : mS} {a b k j : Nat} {x : Int32} (h : b ≠ a ∨ j ≠ k) : (mWI M a k x).1 b j = M.1 b j := by
  by_cases e : b = a
  · rw [e]; exact mWI_off (h.resolve_left (fun q => q e))
  · rw [mWI_ne e]
theorem rWE {M : mS} {a j : Nat} {g : Nat → Int32} : (mWW M a g).1 a j = g j := by rw [mWW_eq]
theorem rLI {M : mS} {a k : Nat} {x : Int64} : (mWL M a k x).1 = M.1 := rfl
theorem rIL {M : mS} {a k : Nat} {x : Int32} : (mWI M a k x).2 = M.2 := rfl
theorem rWL {M : mS} {a : Nat} {g : Nat → Int32} : (mWW M a g).2 = M.2 := rfl
theorem rL {M : mS} {a k j : Nat} {x : Int64} (h : j = k) : (mWL M a k x).2 a j = x := by rw [h, mWL_eq]; exact pk_uLs
theorem rLN {M : mS} {a b k j : Nat} {x : Int64} (h : b ≠ a ∨ j ≠ k) : (mWL M a k x).2 b j = M.2 b j := by
  by_cases e : b = a
  · rw [e, mWL_eq]; exact pk_uLn (h.resolve_left (fun q => q e))
  · rw [mWL_ne e]
theorem iter {σ β : Type} {F : Nat → Nat → σ → Option β} {n : Nat} {Q : Option β → Prop} (I : Nat → σ → Prop)
    (hs : ∀ f i s, i < n → I i s → (∃ s', I (i + 1) s' ∧ F (f + 1) i s = F f (i + 1) s') ∨ Q (F (f + 1) i s))
    (he : ∀ f s, I n s → Q (F (f + 1) n s)) : ∀ {f i : Nat} {s : σ}, i ≤ n → n < f + i → I i s → Q (F f i s) := by
  intro f
  induction f with
  | zero => intro i s h1 h2; omega
  | succ f ih =>
    intro i s h1 h2 hi
    by_cases e : i = n
    · subst e; exact he f s hi
    · rcases hs f i s (by omega) hi with ⟨s', h3, h4⟩ | h3
      · rw [h4]; exact ih (by omega) (by omega) h3
      · exact h3
/-- as iter, where the fuel is not counted by i -/
theorem iterm {σ β : Type} {F : Nat → σ → Option β} {Q : Option β → Prop} (I : σ → Prop) (μ : σ → Nat)
    (hs : ∀ f s, I s → (∃ s', I s' ∧ μ s' < μ s ∧ F (f + 1) s = F f s') ∨ Q (F (f + 1) s)) : ∀ {f : Nat} {s : σ}, μ s < f → I s → Q (F f s) := by
  intro f
  induction f with
  | zero => intro s h; omega
  | succ f ih =>
    intro s h hi
    rcases hs f s hi with ⟨s', h3, h4, h5⟩ | h3
    · rw [h5]; exact ih (by omega) h3
    · exact h3
/-! folds -/
def orB (f : Nat → Int32) : Nat → Int32
  | 0 => 0
  | n + 1 => orB f n ||| f n
def sumI (f : Nat → Int32) : Nat → Int32
  | 0 => 0
  | n + 1 => sumI f n + f n
theorem orB_s {f : Nat → Int32} {n : Nat} : orB f (n + 1) = orB f n ||| f n := rfl
theorem sumI_s {f : Nat → Int32} {n : Nat} : sumI f (n + 1) = sumI f n + f n := rfl
theorem orB_c {f g : Nat → Int32} : ∀ {n : Nat}, (∀ k, k < n → f k = g k) → orB f n = orB g n
  | 0, _ => rfl
  | n + 1, h => by rw [orB_s, orB_s, orB_c (fun k hk => h k (by omega)), h n (by omega)]
theorem sumI_c {f g : Nat → Int32} : ∀ {n : Nat}, (∀ k, k < n → f k = g k) → sumI f n = sumI g n
  | 0, _ => rfl
  | n + 1, h => by rw [sumI_s, sumI_s, sumI_c (fun k hk => h k (by omega)), h n (by omega)]
theorem or0 (x : Int32) : x ||| 0 = x := by
  apply Int32.toBitVec_inj.1; exact BitVec.or_zero
theorem zor (x : Int32) : 0 ||| x = x := by
  apply Int32.toBitVec_inj.1; exact BitVec.zero_or
theorem add0 (x : Int32) : x + 0 = x := Int32.add_zero x
theorem orB_m {f : Nat → Int32} {n : Nat} : ∀ {m : Nat}, (∀ k, n ≤ k → f k = 0) → n ≤ m → orB f m = orB f n := by
  intro m
  induction m with
  | zero => intro h hm; rw [show n = 0 by omega]
  | succ m ih =>
    intro h hm
    by_cases e : n = m + 1
    · rw [e]
    · rw [orB_s, h m (by omega), or0]; exact ih h (by omega)
theorem sumI_m {f : Nat → Int32} {n : Nat} : ∀ {m : Nat}, (∀ k, n ≤ k → f k = 0) → n ≤ m → sumI f m = sumI f n := by
  intro m
  induction m with
  | zero => intro h hm; rw [show n = 0 by omega]
  | succ m ih =>
    intro h hm
    by_cases e : n = m + 1
    · rw [e]
    · rw [sumI_s, h m (by omega), add0]; exact ih h (by omega)
