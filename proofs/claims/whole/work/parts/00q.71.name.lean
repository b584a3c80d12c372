/-! names, dials, goers, hours: the draft -/
abbrev drf : Type := Nat × Nat × Nat × Nat × (Nat → Nat) × (Nat → Nat) × (Nat → Nat) × (Nat → Nat) × (Nat → Nat) × (Nat → List Nat) × (Nat → List Nat)
def dH (d : drf) : Nat := d.1
def dD (d : drf) : Nat := d.2.1
def dG (d : drf) : Nat := d.2.2.1
def dS (d : drf) : Nat := d.2.2.2.1
def dO (d : drf) : Nat → Nat := d.2.2.2.2.1
def dL (d : drf) : Nat → Nat := d.2.2.2.2.2.1
def dA (d : drf) : Nat → Nat := d.2.2.2.2.2.2.1
def dF (d : drf) : Nat → Nat := d.2.2.2.2.2.2.2.1
def dY (d : drf) : Nat → Nat := d.2.2.2.2.2.2.2.2.1
def dNm (d : drf) : Nat → List Nat := d.2.2.2.2.2.2.2.2.2.1
def dGm (d : drf) : Nat → List Nat := d.2.2.2.2.2.2.2.2.2.2
def upN {α : Type} (f : Nat → α) (k : Nat) (x : α) : Nat → α := fun i => if i = k then x else f i
theorem upN_s {α : Type} {f : Nat → α} {k : Nat} {x : α} : upN f k x k = x := if_pos rfl
theorem upN_n {α : Type} {f : Nat → α} {k i : Nat} {x : α} (h : i ≠ k) : upN f k x i = f i := if_neg h
/-- the class's draft -/
def DC (d : drf) (M : mS) : Prop := dD d ≤ 4 ∧ dG d ≤ 5 ∧ M.1 15 6 = nI (dH d) ∧ M.1 15 7 = nI (dD d) ∧ M.1 15 8 = nI (dG d) ∧ M.1 15 9 = nI (dS d) ∧ (∀ i, i < dD d → M.1 21 i = nI (dO d i) ∧ M.1 22 i = nI (dL d i) ∧ M.2 31 i = lN (krd 32 (dNm d i)) ∧ wOk (dNm d i)) ∧ ∀ g, g < dG d → M.1 23 g = nI (dA d g) ∧ M.1 24 g = nI (dF d g) ∧ M.1 25 g = nI (dY d g) ∧ M.2 32 g = lN (krd 32 (dGm d g)) ∧ wOk (dGm d g)
theorem DC_fr {d : drf} {M A : mS} (h : DC d M) (h1 : ∀ a j, (a = 15 ∨ (21 ≤ a ∧ a ≤ 25)) → A.1 a j = M.1 a j) (h2 : ∀ a j, (a = 31 ∨ a = 32) → A.2 a j = M.2 a j) : DC d A := by
  obtain ⟨g1, g2, g3, g4, g5, g6, g7, g8⟩ := h
  refine ⟨g1, g2, (h1 15 6 (by omega)).trans g3, (h1 15 7 (by omega)).trans g4, (h1 15 8 (by omega)).trans g5, (h1 15 9 (by omega)).trans g6, fun i hi => ?_, fun g hg => ?_⟩
  · rw [h1 21 i (by omega), h1 22 i (by omega), h2 31 i (by omega)]; exact g7 i hi
  · rw [h1 23 g (by omega), h1 24 g (by omega), h1 25 g (by omega), h2 32 g (by omega)]; exact g8 g hg
theorem frS14.DC {d : drf} {M A : mS} (h : frS14 M A) (g : DC d M) : DC d A := DC_fr g (fun a j q => h.1 a j (by omega)) (fun a j _ => by rw [h.2])
def fnd (f : Nat → List Nat) (n : Nat) (w : List Nat) : Nat := fa_first (fun k => decide (f k = w)) n
def isAm (d : drf) (w : List Nat) : Bool := decide (fnd (dNm d) (dD d) w < dD d) || decide (fnd (dGm d) (dG d) w < dG d)
def aNw (T : ctx) (d : drf) (t : Nat) (s : Nat × Nat) : Except (Nat × Nat) (List Nat × Nat × (Nat × Nat)) := match aT T t 20 with
  | .error e => .error e
  | .ok u => .ok (cW T t, u, if isAm d (cW T t) = true then sAdd s 3 (cP T t) else s)
def aKn (T : ctx) (d : drf) (t : Nat) (s : Nat × Nat) : Except (Nat × Nat) (Nat × Nat × (Nat × Nat)) := match aT T t 20 with
  | .error e => .error e
  | .ok u => if fnd (dNm d) (dD d) (cW T t) < dD d then .ok (fnd (dNm d) (dD d) (cW T t), u, s) else .ok (0, u, sAdd s 4 (cP T t))
section
variable {N : Nat} {T : ctx} {M : mS} {t : Nat} {s : Nat × Nat} {d : drf}
theorem among_s {f : Nat → List Nat} {w : List Nat} {n : Nat} (hN : 5000 ≤ N) (hn : n ≤ 4) (hf : ∀ i, i < n → M.2 31 i = lN (krd 32 (f i)) ∧ wOk (f i)) (hw : wOk w) : Rr_isAmong N (nI n) (lN (krd 32 w)) M = some (if fnd f n w < n then 1 else 0) := by
  unfold Rr_isAmong
  refine iter (F := fun k i (u : Unit) => Rr_isAmong_3 N M k (nI n) (lN (krd 32 w)) (nI i)) (i := 0) (f := N) (s := ()) (n := n) (Q := fun r => r = some (if fnd f n w < n then 1 else 0)) (fun i u => ∀ j, j < i → (fun k => decide (f k = w)) j = false) ?_ ?_ (Nat.zero_le _) (by omega) (fun j hj => absurd hj (by omega))
  · rintro k i - hi hj
    rw [Rr_isAmong_3, if_neg (by rw [leP (by omega) (by omega)]; omega), if_neg (by rw [show (Int32.ofNat 4 : Int32) = nI 4 from rfl, leP (by omega) (by omega)]; omega), grd_in (by omega) (by omega), clp (by omega), (hf i hi).1]
    by_cases z : f i = w
    · refine Or.inr ?_
      have e : fnd f n w = i := first_at hj (by show decide (f i = w) = true; rw [decide_eq_true_eq]; exact z) hi
      rw [if_pos (by rw [lg_cmp_eq, z]), e, if_pos hi]
    · refine Or.inl ⟨(), snoc_f hj (by show decide (f i = w) = false; rw [decide_eq_false_iff_not]; exact z), ?_⟩
      rw [if_neg (by rw [lg_cmp_eq, krd_eq (by omega) (by omega) (hf i hi).2 hw]; exact z), show nI i + 1 = nI (i + 1) from nI_add i 1]
  · rintro k - hj
    have e : fnd f n w = n := first_none hj
    rw [Rr_isAmong_3, if_pos (by rw [leP (by omega) (by omega)]; omega), e, if_neg (by omega)]
theorem amongG_s {f : Nat → List Nat} {w : List Nat} {n : Nat} (hN : 5000 ≤ N) (hn : n ≤ 5) (hf : ∀ i, i < n → M.2 32 i = lN (krd 32 (f i)) ∧ wOk (f i)) (hw : wOk w) : Rr_isAmong_s1 N (nI n) (lN (krd 32 w)) M = some (if fnd f n w < n then 1 else 0) := by
  unfold Rr_isAmong_s1
  refine iter (F := fun k i (u : Unit) => Rr_isAmong_s1_3 N M k (nI n) (lN (krd 32 w)) (nI i)) (i := 0) (f := N) (s := ()) (n := n) (Q := fun r => r = some (if fnd f n w < n then 1 else 0)) (fun i u => ∀ j, j < i → (fun k => decide (f k = w)) j = false) ?_ ?_ (Nat.zero_le _) (by omega) (fun j hj => absurd hj (by omega))
  · rintro k i - hi hj
    rw [Rr_isAmong_s1_3, if_neg (by rw [leP (by omega) (by omega)]; omega), if_neg (by rw [show (Int32.ofNat 5 : Int32) = nI 5 from rfl, leP (by omega) (by omega)]; omega), grd_in (by omega) (by omega), clp (by omega), (hf i hi).1]
    by_cases z : f i = w
    · refine Or.inr ?_
      have e : fnd f n w = i := first_at hj (by show decide (f i = w) = true; rw [decide_eq_true_eq]; exact z) hi
      rw [if_pos (by rw [lg_cmp_eq, z]), e, if_pos hi]
    · refine Or.inl ⟨(), snoc_f hj (by show decide (f i = w) = false; rw [decide_eq_false_iff_not]; exact z), ?_⟩
      rw [if_neg (by rw [lg_cmp_eq, krd_eq (by omega) (by omega) (hf i hi).2 hw]; exact z), show nI i + 1 = nI (i + 1) from nI_add i 1]
  · rintro k - hj
    have e : fnd f n w = n := first_none hj
    rw [Rr_isAmong_s1_3, if_pos (by rw [leP (by omega) (by omega)]; omega), e, if_neg (by omega)]
theorem newName_s (hN : 5000 ≤ N) (hT : TF T) (h : NC T t s M) (hd : DC d M) : match aNw T d t s with
    | .ok (w, u, s') => wOk w ∧ u = t + 1 ∧ ∃ A, Rr_takeNewName N M = some (lN (krd 32 w), A) ∧ NC T u s' A ∧ frS14 M A
    | .error e => ∃ x A, Rr_takeNewName N M = some (x, A) ∧ FC T e A ∧ frS14 M A := by
  have tk := rtake_s (N := N) hT h (a := 20) (by omega)
  obtain ⟨h1, h2, h3, h4, h5, h6, h7⟩ := id h
  unfold aNw
  have base : Rr_takeNewName N M = bW (Rr_take N (nI 20) M) fun r7 M6 => if r7 = 0 then (some (M.2 30 t, M6)) else (bR (Rr_isAmong N (M6.1 15 7) (M.2 30 t) M6) fun r10 => if r10 = 0 then (bR (Rr_isAmong_s1 N (M6.1 15 8) (M.2 30 t) M6) fun r13 => if r13 = 0 then (some (M.2 30 t, M6)) else (Rr_takeNewName_57 N (M.2 30 t) M6)) else (Rr_takeNewName_57 N (M.2 30 t) M6)) := by
    unfold Rr_takeNewName
    rw [h3, valueOf_s hT h1 h2, bRs]; rfl
  cases ea : aT T t 20 with
  | error e =>
    rw [ea] at tk
    obtain ⟨A, eA, fA, rA⟩ := tk
    refine ⟨M.2 30 t, A, ?_, fA, rA.frS⟩
    rw [base, eA, bWs, if_pos rfl]
  | ok u =>
    rw [ea] at tk
    obtain ⟨rfl, k20, A, eA, nA, rA⟩ := tk
    have hw := hT.2.2.2.2.2.2.1 t h2 k20
    have dA := rA.frS.DC hd
    obtain ⟨B, eB, nB, fB⟩ := sense_s (N := N) hT nA (e := 3) (by omega) (by omega)
    have e3 : Rr_takeNewName_57 N (lN (krd 32 (cW T t))) A = some (lN (krd 32 (cW T t)), B) := by
      unfold Rr_takeNewName_57
      rw [show (3 : Int32) = nI 3 from rfl, eB, bVs]
    rw [(h1.2 t h2).2.2.2 k20, eA, bWs, if_neg (by decide), dA.2.2.2.1, dA.2.2.2.2.1, among_s hN dA.1 (fun i hi => ⟨(dA.2.2.2.2.2.2.1 i hi).2.2.1, (dA.2.2.2.2.2.2.1 i hi).2.2.2⟩) hw, bRs, amongG_s hN dA.2.1 (fun i hi => ⟨(dA.2.2.2.2.2.2.2 i hi).2.2.2.1, (dA.2.2.2.2.2.2.2 i hi).2.2.2.2⟩) hw, bRs] at base
    refine ⟨hw, rfl, ?_⟩
    unfold isAm
    by_cases z1 : fnd (dNm d) (dD d) (cW T t) < dD d
    · rw [if_pos z1, if_neg (by decide), e3] at base
      rw [decide_eq_true z1, Bool.true_or, if_pos rfl]
      exact ⟨B, base, nB, rA.frS.trans fB⟩
    · rw [if_neg z1, if_pos rfl] at base
      by_cases z2 : fnd (dGm d) (dG d) (cW T t) < dG d
      · rw [if_pos z2, if_neg (by decide), e3] at base
        rw [decide_eq_true z2, Bool.or_true, if_pos rfl]
        exact ⟨B, base, nB, rA.frS.trans fB⟩
      · rw [if_neg z2, if_pos rfl] at base
        rw [decide_eq_false z1, decide_eq_false z2, Bool.or_false, if_neg (by decide)]
        exact ⟨A, base, nA, rA.frS⟩
theorem newName_f {e : Nat × Nat} (hT : TF T) (h : FC T e M) : ∃ x, Rr_takeNewName N M = some (x, M) := by
  unfold Rr_takeNewName
  rw [h.2.2.2.2.1, valueOf_s hT h.1 h.2.1, bRs, take_f h, bWs, if_pos rfl]
  exact ⟨_, rfl⟩
theorem dialName_s (hN : 5000 ≤ N) (hT : TF T) (h : NC T t s M) (hd : DC d M) : match aKn T d t s with
    | .ok (x, u, s') => x < 4 ∧ u = t + 1 ∧ ∃ A, Rr_takeDialName N M = some (nI x, A) ∧ NC T u s' A ∧ frS14 M A
    | .error e => ∃ x A, Rr_takeDialName N M = some (x, A) ∧ FC T e A ∧ frS14 M A := by
  have tk := rtake_s (N := N) hT h (a := 20) (by omega)
  obtain ⟨h1, h2, h3, h4, h5, h6, h7⟩ := id h
  unfold aKn
  have base : Rr_takeDialName N M = bW (Rr_take N (nI 20) M) fun r8 M7 => Rr_takeDialName_22 N N (M.2 30 t) r8 0 M7 := by
    unfold Rr_takeDialName
    rw [h3, valueOf_s hT h1 h2, bRs]; rfl
  cases ea : aT T t 20 with
  | error e =>
    rw [ea] at tk
    obtain ⟨A, eA, fA, rA⟩ := tk
    have dA := rA.frS.DC hd
    rw [eA, bWs] at base
    have : ∃ x, Rr_takeDialName_22 N N (M.2 30 t) 0 0 A = some (x, A) := by
      refine iter (F := fun k i (u : Unit) => Rr_takeDialName_22 N k (M.2 30 t) 0 (nI i) A) (i := 0) (f := N) (s := ()) (n := dD d) (Q := fun r => ∃ x, r = some (x, A)) (fun i u => True) ?_ ?_ (Nat.zero_le _) (by have := dA.1; omega) trivial
      · rintro k i - hi -
        have d4 := dA.1
        rw [Rr_takeDialName_22, dA.2.2.2.1, if_neg (by rw [leP (by omega) (by omega)]; omega), if_neg (by rw [show (4 : Int32) = nI 4 from rfl, leP (by omega) (by omega)]; omega), grd_in (by omega) (by omega)]
        by_cases z : lg_cmp (A.2 31 (nI i).toNatClampNeg) (M.2 30 t) = 0
        · exact Or.inr ⟨nI i, by rw [if_pos z]⟩
        · exact Or.inl ⟨(), trivial, by rw [if_neg z, show nI i + 1 = nI (i + 1) from nI_add i 1]⟩
      · rintro k - -
        have d4 := dA.1
        refine ⟨0, ?_⟩
        rw [Rr_takeDialName_22, dA.2.2.2.1, if_pos (by rw [leP (by omega) (by omega)]; omega)]
        rfl
    obtain ⟨x, ex⟩ := this
    exact ⟨x, A, by rw [base, ex], fA, rA.frS⟩
  | ok u =>
    rw [ea] at tk
    obtain ⟨rfl, k20, A, eA, nA, rA⟩ := tk
    have hw := hT.2.2.2.2.2.2.1 t h2 k20
    have dA := rA.frS.DC hd
    have d4 := dA.1
    obtain ⟨B, eB, nB, fB⟩ := sense_s (N := N) hT nA (e := 4) (by omega) (by omega)
    have key : Rr_takeDialName_22 N N (lN (krd 32 (cW T t))) 1 0 A = if fnd (dNm d) (dD d) (cW T t) < dD d then some (nI (fnd (dNm d) (dD d) (cW T t)), A) else some (0, B) := by
      refine iter (F := fun k i (u : Unit) => Rr_takeDialName_22 N k (lN (krd 32 (cW T t))) 1 (nI i) A) (i := 0) (f := N) (s := ()) (n := dD d) (Q := fun r => r = if fnd (dNm d) (dD d) (cW T t) < dD d then some (nI (fnd (dNm d) (dD d) (cW T t)), A) else some (0, B)) (fun i u => ∀ j, j < i → (fun k => decide (dNm d k = cW T t)) j = false) ?_ ?_ (Nat.zero_le _) (by omega) (fun j hj => absurd hj (by omega))
      · rintro k i - hi hj
        have hf := dA.2.2.2.2.2.2.1 i hi
        rw [Rr_takeDialName_22, dA.2.2.2.1, if_neg (by rw [leP (by omega) (by omega)]; omega), if_neg (by rw [show (4 : Int32) = nI 4 from rfl, leP (by omega) (by omega)]; omega), grd_in (by omega) (by omega), clp (by omega), hf.2.2.1]
        by_cases z : dNm d i = cW T t
        · refine Or.inr ?_
          have e : fnd (dNm d) (dD d) (cW T t) = i := first_at hj (by show decide (dNm d i = cW T t) = true; rw [decide_eq_true_eq]; exact z) hi
          rw [if_pos (by rw [lg_cmp_eq, z]), e, if_pos hi]
        · refine Or.inl ⟨(), snoc_f hj (by show decide (dNm d i = cW T t) = false; rw [decide_eq_false_iff_not]; exact z), ?_⟩
          rw [if_neg (by rw [lg_cmp_eq, krd_eq (by omega) (by omega) hf.2.2.2 hw]; exact z), show nI i + 1 = nI (i + 1) from nI_add i 1]
      · rintro k - hj
        have e : fnd (dNm d) (dD d) (cW T t) = dD d := first_none hj
        rw [Rr_takeDialName_22, dA.2.2.2.1, if_pos (by rw [leP (by omega) (by omega)]; omega), e, if_neg (Nat.lt_irrefl _)]
        unfold Rr_takeDialName_61
        rw [if_neg (by decide), show (4 : Int32) = nI 4 from rfl, eB, bVs]
    rw [(h1.2 t h2).2.2.2 k20, eA, bWs, key] at base
    show match (if fnd (dNm d) (dD d) (cW T t) < dD d then Except.ok (fnd (dNm d) (dD d) (cW T t), t + 1, s) else Except.ok (0, t + 1, sAdd s 4 (cP T t)) : Except (Nat × Nat) (Nat × Nat × (Nat × Nat))) with
      | .ok (x, u, s') => x < 4 ∧ u = t + 1 ∧ ∃ A, Rr_takeDialName N M = some (nI x, A) ∧ NC T u s' A ∧ frS14 M A
      | .error e => ∃ x A, Rr_takeDialName N M = some (x, A) ∧ FC T e A ∧ frS14 M A
    by_cases z : fnd (dNm d) (dD d) (cW T t) < dD d
    · rw [if_pos z] at base ⊢
      exact ⟨by omega, rfl, A, base, nA, rA.frS⟩
    · rw [if_neg z] at base ⊢
      exact ⟨by omega, rfl, B, base, nB, rA.frS.trans fB⟩
theorem dialName_f {e : Nat × Nat} (hN : 5000 ≤ N) (hT : TF T) (h : FC T e M) {D : Nat} (hD : D ≤ 4) (h7 : M.1 15 7 = nI D) : ∃ x, Rr_takeDialName N M = some (x, M) := by
  unfold Rr_takeDialName
  rw [h.2.2.2.2.1, valueOf_s hT h.1 h.2.1, bRs, take_f h, bWs]
  refine iter (F := fun k i (u : Unit) => Rr_takeDialName_22 N k (M.2 30 e.2) 0 (nI i) M) (i := 0) (f := N) (s := ()) (n := D) (Q := fun r => ∃ x, r = some (x, M)) (fun i u => True) ?_ ?_ (Nat.zero_le _) (by omega) trivial
  · rintro k i - hi -
    rw [Rr_takeDialName_22, h7, if_neg (by rw [leP (by omega) (by omega)]; omega), if_neg (by rw [show (4 : Int32) = nI 4 from rfl, leP (by omega) (by omega)]; omega), grd_in (by omega) (by omega)]
    by_cases z : lg_cmp (M.2 31 (nI i).toNatClampNeg) (M.2 30 e.2) = 0
    · exact Or.inr ⟨nI i, by rw [if_pos z]⟩
    · exact Or.inl ⟨(), trivial, by rw [if_neg z, show nI i + 1 = nI (i + 1) from nI_add i 1]⟩
  · rintro k - -
    refine ⟨0, ?_⟩
    rw [Rr_takeDialName_22, h7, if_pos (by rw [leP (by omega) (by omega)]; omega)]
    rfl
end
