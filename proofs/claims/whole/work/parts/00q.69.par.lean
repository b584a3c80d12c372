/-! THE READERS: both against one way to read. A context: how many tokens, kinds, places, numbers, names -/
abbrev ctx : Type := Nat × (Nat → Nat) × (Nat → Nat) × (Nat → Nat) × (Nat → List Nat)
def cN (T : ctx) : Nat := T.1
def cK (T : ctx) : Nat → Nat := T.2.1
def cP (T : ctx) : Nat → Nat := T.2.2.1
def cV (T : ctx) : Nat → Nat := T.2.2.2.1
def cW (T : ctx) : Nat → List Nat := T.2.2.2.2
def TF (T : ctx) : Prop := 1 ≤ cN T ∧ cN T ≤ 401 ∧ (∀ i, cK T i ≤ 32) ∧ (∀ i, i + 1 < cN T → cK T i < 31) ∧ (cN T < 401 → 31 ≤ cK T (cN T - 1)) ∧ (∀ i, i < cN T → cK T i = 21 → cV T i ≤ 9999) ∧ (∀ i, i < cN T → cK T i = 20 → wOk (cW T i)) ∧ (∀ i j, i < j → j < cN T → cP T i < cP T j) ∧ ∀ i, i < cN T → cP T i ≤ 2000
def TC (T : ctx) (M : mS) : Prop := M.1 26 4 = nI (cN T) ∧ ∀ i, i < cN T → M.1 28 i = nI (cK T i) ∧ M.1 29 i = nI (cP T i) ∧ (cK T i = 21 → M.2 30 i = lN (cV T i)) ∧ (cK T i = 20 → M.2 30 i = lN (krd 32 (cW T i)))
def TM (T : ctx) (M : mS) : Prop := ∀ i, i < cN T → M.1 67 i = nI (mkK (cK T i)) ∧ M.1 68 i = nI (cP T i) ∧ (cK T i = 21 → M.1 69 i = nI (cV T i)) ∧ (cK T i = 20 → M.2 70 i = lN (krd 27 (cW T i)))
theorem tkP_le {n : Nat} {b : Nat → Nat} (hn : n ≤ 2000) : ∀ {k : Nat}, (∀ i, i < k → tkD n b i < 31) → tkE n b k ≤ n ∧ tkP n b k ≤ n
  | 0, _ => ⟨Nat.zero_le _, (nbP_le (Nat.zero_le _)).2⟩
  | k + 1, h => by
    have hp := tkK_n (h k (by omega))
    have h1 : tkE n b (k + 1) ≤ n := (tkL_b (b := b) (Nat.le_of_lt hp) hn).2.2 hp
    exact ⟨h1, by rw [tkP_E]; exact (nbP_le h1).2⟩
theorem tkP_s {n : Nat} {b : Nat → Nat} (hn : n ≤ 2000) {k : Nat} (h : tkD n b k < 31) : tkP n b k < tkP n b (k + 1) := by
  have hp := tkK_n h
  obtain ⟨l1, l2, l3⟩ := tkL_b (b := b) (Nat.le_of_lt hp) hn
  have h1 : tkE n b (k + 1) ≤ n := l3 hp
  rw [tkP_E (k := k + 1)]
  have := (nbP_le (b := b) h1).1
  have h2 : tkE n b (k + 1) = tkP n b k + tkL n b (tkP n b k) := rfl
  omega
theorem TF_of {n c : Nat} {b : Nat → Nat} (hn : n ≤ 2000) (h1 : 1 ≤ c) (h2 : c ≤ 401) (h3 : ∀ i, i + 1 < c → tkD n b i < 31) (h4 : c < 401 → 31 ≤ tkD n b (c - 1)) : TF (c, tkD n b, tkP n b, tkV n b, tkW n b) := by
  refine ⟨h1, h2, fun i => tkK_le, h3, h4, fun i _ => tkV_le, fun i _ q => tkW_ok (Nat.le_of_eq q), fun i j hij => ?_, fun i hi => ?_⟩
  · intro hj
    have hj : j < c := hj
    show tkP n b i < tkP n b j
    induction j with
    | zero => omega
    | succ j ih =>
      have s := tkP_s (b := b) hn (h3 j (by omega))
      by_cases e : i = j
      · subst e; exact s
      · have := ih (by omega) (by omega) (by omega); omega
  · have hi : i < c := hi
    have := (tkP_le (b := b) hn (k := i) (fun j hj => h3 j (by omega))).2
    show tkP n b i ≤ 2000
    omega
theorem TC_of {n c : Nat} {b : Nat → Nat} {M : mS} (h : TOKC n b c M) : TC (c, tkD n b, tkP n b, tkV n b, tkW n b) M := ⟨h.1, fun i hi => ⟨(h.2 i hi).1, (h.2 i hi).2.1, (h.2 i hi).2.2.1, fun q => (h.2 i hi).2.2.2 (Nat.le_of_eq q)⟩⟩
theorem TM_of {n c m : Nat} {b : Nat → Nat} {M : mS} (h : TOKM n b m M) (hm : c ≤ m) : TM (c, tkD n b, tkP n b, tkV n b, tkW n b) M := fun i hi => by
  have hi : i < c := hi
  obtain ⟨g1, g2, g3, g4⟩ := h.2 i (by omega)
  exact ⟨g1, g2, g3, fun q => g4 (Nat.le_of_eq q)⟩
/-- one token of kind a -/
def aT (T : ctx) (t a : Nat) : Except (Nat × Nat) Nat := if cK T t = a then (if t < 400 then .ok (t + 1) else .error (2, t)) else .error (1, t)
def sAdd (s : Nat × Nat) (e q : Nat) : Nat × Nat := if s.1 = 0 then (e, q) else s
/-- what the class's reader may write -/
def frR (M A : mS) : Prop := (∀ a j, (a < 14 ∨ (26 ≤ a ∧ a ≠ 33)) → A.1 a j = M.1 a j) ∧ ∀ a j, a ≠ 31 → a ≠ 32 → A.2 a j = M.2 a j
theorem frR.refl {M : mS} : frR M M := ⟨fun _ _ _ => rfl, fun _ _ _ _ => rfl⟩
theorem frR.trans {A B C : mS} (h : frR A B) (g : frR B C) : frR A C := ⟨fun a j q => (g.1 a j q).trans (h.1 a j q), fun a j q1 q2 => (g.2 a j q1 q2).trans (h.2 a j q1 q2)⟩
theorem frR.wI {M A : mS} (h : frR M A) {a k : Nat} {x : Int32} (ha : (14 ≤ a ∧ a ≤ 25) ∨ a = 33) : frR M (mWI A a k x) := ⟨fun b j q => by rw [mWI_ne (by omega)]; exact h.1 b j q, h.2⟩
theorem frR.TC {T : ctx} {M A : mS} (h : frR M A) (g : TC T M) : TC T A := by
  refine ⟨(h.1 26 4 (by omega)).trans g.1, fun i hi => ?_⟩
  rw [h.1 28 i (by omega), h.1 29 i (by omega), h.2 30 i (by omega) (by omega)]
  exact g.2 i hi
/-- at token t, no fault of form, s the fault of sense -/
def NC (T : ctx) (t : Nat) (s : Nat × Nat) (M : mS) : Prop := TC T M ∧ t < cN T ∧ M.1 14 8 = nI t ∧ M.1 14 9 = 0 ∧ M.1 14 10 = nI s.1 ∧ s.1 ≤ 5 ∧ (s.1 ≠ 0 → M.1 14 11 = nI s.2)
/-- a fault of form -/
def FC (T : ctx) (e : Nat × Nat) (M : mS) : Prop := TC T M ∧ e.2 < cN T ∧ 1 ≤ e.1 ∧ e.1 ≤ 2 ∧ M.1 14 8 = nI e.2 ∧ M.1 14 9 = nI e.1
theorem FC.ne {T : ctx} {e : Nat × Nat} {M : mS} (h : FC T e M) : ¬ M.1 14 9 = 0 := by
  obtain ⟨h1, h2, h3, h4, h5, h6⟩ := h
  rw [h6, show (0 : Int32) = nI 0 from rfl, eqP (by omega) (by omega)]; omega
def frT14 (M A : mS) : Prop := (∀ a j, a ≠ 14 ∨ (j ≠ 8 ∧ j ≠ 9) → A.1 a j = M.1 a j) ∧ A.2 = M.2
theorem frT14.frR {M A : mS} (h : frT14 M A) : frR M A := ⟨fun a j q => h.1 a j (by omega), fun a j _ _ => by rw [h.2]⟩
section
variable {N : Nat} {T : ctx} {M : mS} {t : Nat} {s : Nat × Nat}
theorem kindOf_s (hT : TF T) (h : TC T M) (ht : t < cN T) : Tk_kindOf N (nI t) M = some (nI (cK T t)) := by
  have h2 := hT.2.1
  unfold Tk_kindOf
  rw [if_neg (by rw [show (0 : Int32) = nI 0 from rfl, ltP (by omega) (by omega)]; omega), h.1, if_neg (by rw [leP (by omega) (by omega)]; omega), grd_in (by omega) (by omega), clp (by omega), (h.2 t ht).1]
theorem placeOf_s (hT : TF T) (h : TC T M) (ht : t < cN T) : Tk_placeOf N (nI t) M = some (nI (cP T t)) := by
  have h2 := hT.2.1
  unfold Tk_placeOf
  rw [if_neg (by rw [show (0 : Int32) = nI 0 from rfl, ltP (by omega) (by omega)]; omega), h.1, if_neg (by rw [leP (by omega) (by omega)]; omega), grd_in (by omega) (by omega), clp (by omega), (h.2 t ht).2.1]
theorem valueOf_s (hT : TF T) (h : TC T M) (ht : t < cN T) : Tk_valueOf N (nI t) M = some (M.2 30 t) := by
  have h2 := hT.2.1
  unfold Tk_valueOf
  rw [if_neg (by rw [show (0 : Int32) = nI 0 from rfl, ltP (by omega) (by omega)]; omega), h.1, if_neg (by rw [leP (by omega) (by omega)]; omega), grd_in (by omega) (by omega), clp (by omega)]
theorem t_next (hT : TF T) (ht : t < cN T) (h4 : t < 400) (hk : cK T t < 31) : t + 1 < cN T := by
  obtain ⟨h1, h2, h3, h5, h6, -⟩ := hT
  apply Classical.byContradiction
  intro q
  have := h6 (by omega)
  rw [show cN T - 1 = t by omega] at this
  omega
theorem rtake_s (hT : TF T) (h : NC T t s M) {a : Nat} (ha : a ≤ 30) : match aT T t a with
    | .ok u => u = t + 1 ∧ cK T t = a ∧ ∃ A, Rr_take N (nI a) M = some (1, A) ∧ NC T u s A ∧ frT14 M A
    | .error e => ∃ A, Rr_take N (nI a) M = some (0, A) ∧ FC T e A ∧ frT14 M A := by
  obtain ⟨h1, h2, h3, h4, h5, h6, h7⟩ := h
  have c2 := hT.2.1
  have hk := hT.2.2.1 t
  have go : Rr_take N (nI a) M = if nI (cK T t) = nI a then (if nI t < 400 then (nxt (mWI M 14 8 (nI t + 1)) fun M3 => Rr_take_60 N M3) else (bV (Rr_failForm N 2 M) fun M5 => Rr_take_60 N M5)) else (bV (Rr_failForm N 1 M) fun M7 => Rr_take_60 N M7) := by
    unfold Rr_take
    rw [if_pos h4, h3, kindOf_s hT h1 h2, bRs]
  have ff : ∀ e : Int32, Rr_failForm N e M = some (mWI M 14 9 e) := fun e => by
    unfold Rr_failForm
    rw [if_pos h4, nxs]
  unfold aT
  by_cases z : cK T t = a
  · rw [if_pos z]
    rw [if_pos (by rw [z])] at go
    by_cases y : t < 400
    · rw [if_pos y]
      rw [if_pos (by rw [show (400 : Int32) = nI 400 from rfl, ltP (by omega) (by omega)]; omega), nxs, show nI t + 1 = nI (t + 1) from nI_add t 1] at go
      have fr : frT14 M (mWI M 14 8 (nI (t + 1))) := ⟨fun b j q => rN (by omega), rfl⟩
      refine ⟨rfl, z, mWI M 14 8 (nI (t + 1)), ?_, ⟨fr.frR.TC h1, t_next hT h2 y (by omega), rI rfl, ?_, ?_, h6, fun q => ?_⟩, fr⟩
      · rw [go]; unfold Rr_take_60; rw [rN (by omega), if_pos h4]
      · rw [rN (by omega)]; exact h4
      · rw [rN (by omega)]; exact h5
      · rw [rN (by omega)]; exact h7 q
    · rw [if_neg y]
      rw [if_neg (by rw [show (400 : Int32) = nI 400 from rfl, ltP (by omega) (by omega)]; omega), ff, bVs] at go
      have fr : frT14 M (mWI M 14 9 2) := ⟨fun b j q => rN (by omega), rfl⟩
      refine ⟨mWI M 14 9 2, ?_, ⟨fr.frR.TC h1, h2, by omega, by omega, ?_, rI rfl⟩, fr⟩
      · rw [go]; unfold Rr_take_60; rw [rI rfl, if_neg (by decide)]
      · rw [rN (by omega)]; exact h3
  · rw [if_neg z]
    rw [if_neg (by rw [eqP (by omega) (by omega)]; exact z), ff, bVs] at go
    have fr : frT14 M (mWI M 14 9 1) := ⟨fun b j q => rN (by omega), rfl⟩
    refine ⟨mWI M 14 9 1, ?_, ⟨fr.frR.TC h1, h2, by omega, by omega, ?_, rI rfl⟩, fr⟩
    · rw [go]; unfold Rr_take_60; rw [rI rfl, if_neg (by decide)]
    · rw [rN (by omega)]; exact h3
theorem take_f {e : Nat × Nat} {a : Int32} (h : FC T e M) : Rr_take N a M = some (0, M) := by
  unfold Rr_take
  rw [if_neg h.ne]
theorem form_f {e : Nat × Nat} {a : Int32} (h : FC T e M) : Rr_failForm N a M = some M := by
  unfold Rr_failForm
  rw [if_neg h.ne]
theorem FC.fr {e : Nat × Nat} {A : mS} (h : FC T e M) (f : frR M A) (h8 : A.1 14 8 = M.1 14 8) (h9 : A.1 14 9 = M.1 14 9) : FC T e A := ⟨f.TC h.1, h.2.1, h.2.2.1, h.2.2.2.1, h8.trans h.2.2.2.2.1, h9.trans h.2.2.2.2.2⟩
theorem NC.fr {A : mS} (h : NC T t s M) (f : frR M A) (hj : ∀ j, 8 ≤ j → j ≤ 11 → A.1 14 j = M.1 14 j) : NC T t s A := ⟨f.TC h.1, h.2.1, (hj 8 (by omega) (by omega)).trans h.2.2.1, (hj 9 (by omega) (by omega)).trans h.2.2.2.1, (hj 10 (by omega) (by omega)).trans h.2.2.2.2.1, h.2.2.2.2.2.1, fun q => (hj 11 (by omega) (by omega)).trans (h.2.2.2.2.2.2 q)⟩
def frS14 (M A : mS) : Prop := (∀ a j, a ≠ 14 ∨ (j ≠ 8 ∧ j ≠ 9 ∧ j ≠ 10 ∧ j ≠ 11) → A.1 a j = M.1 a j) ∧ A.2 = M.2
theorem frT14.frS {A : mS} (h : frT14 M A) : frS14 M A := ⟨fun a j q => h.1 a j (by omega), h.2⟩
theorem frS14.trans {A B C : mS} (h : frS14 A B) (g : frS14 B C) : frS14 A C := ⟨fun a j q => (g.1 a j q).trans (h.1 a j q), g.2.trans h.2⟩
theorem frS14.refl : frS14 M M := ⟨fun _ _ _ => rfl, rfl⟩
theorem frS14.frR {A : mS} (h : frS14 M A) : frR M A := ⟨fun a j q => h.1 a j (by omega), fun a j _ _ => by rw [h.2]⟩
theorem sense_s (hT : TF T) (h : NC T (t + 1) s M) {e : Nat} (he : 1 ≤ e) (he5 : e ≤ 5) : ∃ A, Rr_failSense N (nI e) M = some A ∧ NC T (t + 1) (sAdd s e (cP T t)) A ∧ frS14 M A := by
  obtain ⟨h1, h2, h3, h4, h5, h6, h7⟩ := id h
  unfold Rr_failSense sAdd
  by_cases z : s.1 = 0
  · rw [if_pos z]
    have fr : frS14 M (mWI (mWI M 14 10 (nI e)) 14 11 (nI (cP T t))) := ⟨fun b j q => by rw [rN (by omega), rN (by omega)], rfl⟩
    refine ⟨mWI (mWI M 14 10 (nI e)) 14 11 (nI (cP T t)), ?_, ⟨fr.frR.TC h1, h2, ?_, ?_, ?_, he5, fun _ => rI rfl⟩, fr⟩
    · have f1 : frR M (mWI M 14 10 (nI e)) := frR.refl.wI (by omega)
      rw [h5, z, if_pos (by decide), nxs, rN (show (14 : Nat) ≠ 14 ∨ 8 ≠ 10 by omega), h3, show nI (t + 1) - 1 = nI (t + 1 - 1) from sbP (b := 1) (by omega), Nat.add_sub_cancel, placeOf_s hT (f1.TC h1) (by omega), bRs, nxs]
    · rw [rN (by omega), rN (by omega)]; exact h3
    · rw [rN (by omega), rN (by omega)]; exact h4
    · rw [rN (by omega), rI rfl]
  · rw [if_neg z]
    refine ⟨M, ?_, h, frS14.refl⟩
    rw [h5, if_neg (by rw [show (0 : Int32) = nI 0 from rfl, eqP (by omega) (by omega)]; exact z)]
/-- a number within bounds -/
def aI (T : ctx) (lo hi : Nat) (t : Nat) (s : Nat × Nat) : Except (Nat × Nat) (Nat × Nat × (Nat × Nat)) := match aT T t 21 with
  | .error e => .error e
  | .ok u => .ok (cV T t, u, if lo ≤ cV T t ∧ cV T t ≤ hi then s else sAdd s 5 (cP T t))
theorem int_s (hT : TF T) (h : NC T t s M) {lo hi : Nat} (hlo : lo < 100000) (hhi : hi < 100000) : match aI T lo hi t s with
    | .ok (x, u, s') => x ≤ 9999 ∧ u = t + 1 ∧ ∃ A, Rr_takeInt N (nI lo) (nI hi) M = some (nI x, A) ∧ NC T u s' A ∧ frS14 M A
    | .error e => ∃ x A, Rr_takeInt N (nI lo) (nI hi) M = some (x, A) ∧ FC T e A ∧ frS14 M A := by
  have tk := rtake_s (N := N) hT h (a := 21) (by omega)
  obtain ⟨h1, h2, h3, h4, h5, h6, h7⟩ := id h
  have base : Rr_takeInt N (nI lo) (nI hi) M = bW (Rr_take N (nI 21) M) fun r8 M7 => if r8 = 0 then (some ((M.2 30 t).toInt32, M7)) else (if (M.2 30 t).toInt32 < nI lo then (Rr_takeInt_32 N (M.2 30 t).toInt32 M7) else (if (M.2 30 t).toInt32 ≤ nI hi then (some ((M.2 30 t).toInt32, M7)) else (Rr_takeInt_32 N (M.2 30 t).toInt32 M7))) := by
    unfold Rr_takeInt
    rw [h3, valueOf_s hT h1 h2, bRs, nxs]; rfl
  unfold aI
  cases ea : aT T t 21 with
  | error e =>
    rw [ea] at tk
    obtain ⟨A, eA, fA, rA⟩ := tk
    refine ⟨(M.2 30 t).toInt32, A, ?_, fA, rA.frS⟩
    rw [base, eA, bWs, if_pos rfl]
  | ok u =>
    rw [ea] at tk
    obtain ⟨rfl, k21, A, eA, nA, rA⟩ := tk
    have v9 := hT.2.2.2.2.2.1 t h2 k21
    rw [(h1.2 t h2).2.2.1 k21, lN_i, eA, bWs, if_neg (by decide)] at base
    obtain ⟨B, eB, nB, fB⟩ := sense_s (N := N) hT nA (e := 5) (by omega) (by omega)
    have e5 : Rr_takeInt_32 N (nI (cV T t)) A = some (nI (cV T t), B) := by
      unfold Rr_takeInt_32
      rw [show (5 : Int32) = nI 5 from rfl, eB, bVs]
    refine ⟨v9, rfl, ?_⟩
    by_cases z : lo ≤ cV T t ∧ cV T t ≤ hi
    · rw [if_pos z]
      refine ⟨A, ?_, nA, rA.frS⟩
      rw [base, if_neg (by rw [ltP (by omega) (by omega)]; omega), if_pos (by rw [leP (by omega) (by omega)]; omega)]
    · rw [if_neg z]
      refine ⟨B, ?_, nB, rA.frS.trans fB⟩
      rw [base]
      by_cases z1 : cV T t < lo
      · rw [if_pos (by rw [ltP (by omega) (by omega)]; exact z1), e5]
      · rw [if_neg (by rw [ltP (by omega) (by omega)]; exact z1), if_neg (by rw [leP (by omega) (by omega)]; omega), e5]
theorem int_f {e : Nat × Nat} {lo hi : Int32} (hT : TF T) (h : FC T e M) : ∃ x, Rr_takeInt N lo hi M = some (x, M) := by
  unfold Rr_takeInt
  rw [h.2.2.2.2.1, valueOf_s hT h.1 h.2.1, bRs, nxs, take_f h, bWs, if_pos rfl]
  exact ⟨_, rfl⟩
end
