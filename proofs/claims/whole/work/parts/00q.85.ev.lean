/-! WHAT THE CODE SAYS: none, where it parts by zero -/
def rn (v : Nat → Int32) : List Int32 → List (Nat × Nat) → Option (List Int32)
  | st, [] => some st
  | st, (c, a) :: O => if c = 0 then rn v (nI a :: st) O else if c = 1 then rn v (v a :: st) O else match st with
    | y :: x :: st' => if c = 2 then rn v ((x + y) :: st') O else if c = 3 then rn v ((x - y) :: st') O else if c = 4 then rn v ((x * y) :: st') O else if y = 0 then none else rn v ((x / y) :: st') O
    | _ => none
theorem rn_c {v : Nat → Int32} {st : List Int32} {c a : Nat} {O : List (Nat × Nat)} : rn v st ((c, a) :: O) = if c = 0 then rn v (nI a :: st) O else if c = 1 then rn v (v a :: st) O else match st with
    | y :: x :: st' => if c = 2 then rn v ((x + y) :: st') O else if c = 3 then rn v ((x - y) :: st') O else if c = 4 then rn v ((x * y) :: st') O else if y = 0 then none else rn v ((x / y) :: st') O
    | _ => none := rfl
/-- a pile in the cells a -/
def piS (p : Nat) : List Int32 → mS → Prop
  | [], _ => True
  | x :: st, M => M.1 p st.length = x ∧ piS p st M
theorem piS_fr {p : Nat} {A M : mS} : ∀ {st : List Int32}, piS p st M → (∀ j, j < st.length → A.1 p j = M.1 p j) → piS p st A
  | [], _, _ => trivial
  | x :: st, h, hf => ⟨(hf st.length (by show st.length < st.length + 1; omega)).trans h.1, piS_fr h.2 (fun j hj => hf j (by show j < st.length + 1; omega))⟩
def frV (M A : mS) : Prop := (∀ a j, a ≠ 94 → (a ≠ 64 ∨ j ≠ 47) → A.1 a j = M.1 a j) ∧ A.2 = M.2
theorem frV.refl {M : mS} : frV M M := ⟨fun _ _ _ _ => rfl, rfl⟩
theorem frV.trans {A B C : mS} (h : frV A B) (g : frV B C) : frV A C := ⟨fun a j q1 q2 => (g.1 a j q1 q2).trans (h.1 a j q1 q2), g.2.trans h.2⟩
def cdAt (p : Nat) (O : List (Nat × Nat)) (M : mS) : Prop := ∀ i x, O[i]? = some x → M.1 90 (p + i) = nI x.1 ∧ M.1 91 (p + i) = nI x.2
theorem cdAt_t {p : Nat} {y : Nat × Nat} {O : List (Nat × Nat)} {M A : mS} (h : cdAt p (y :: O) M) (hf : ∀ a j, (a = 90 ∨ a = 91) → A.1 a j = M.1 a j) : cdAt (p + 1) O A := fun i x hx => by
  have := h (i + 1) x (by rw [List.getElem?_cons_succ]; exact hx)
  rw [hf 90 _ (by omega), hf 91 _ (by omega), show p + 1 + i = p + (i + 1) by omega]
  exact this
theorem two_l : ∀ {st : List Int32}, 2 ≤ st.length → ∃ w x r, st = w :: x :: r
  | [], h => absurd h (by show ¬ 2 ≤ 0; decide)
  | [w], h => absurd h (by show ¬ 2 ≤ 1; decide)
  | w :: x :: r, _ => ⟨w, x, r, rfl⟩
theorem term_M {N : Nat} {v : Nat → Int32} : ∀ {O : List (Nat × Nat)} {p f k : Nat} {st : List Int32} {M : mS}, cdAt p O M → (∀ i, i < 9 → M.1 93 i = v i) → piS 94 st M → hO st.length O = some k → p + O.length ≤ 840 → st.length ≤ 32 → O.length < f → match rn v st O with
    | some st' => st'.length = k ∧ ∃ B, Mo_termOf_5 N f (nI (p + O.length)) (nI st.length) (nI p) M = some (B.1 94 0, B) ∧ piS 94 st' B ∧ B.1 64 47 = M.1 64 47 ∧ frV M B
    | none => ∃ B, Mo_termOf_5 N f (nI (p + O.length)) (nI st.length) (nI p) M = some (0, B) ∧ B.1 64 47 = 1 ∧ frV M B := by
  intro O
  induction O with
  | nil =>
    intro p f k st M hc hv hp hh hl hs hf
    obtain ⟨f, rfl⟩ : ∃ g, f = g + 1 := ⟨f - 1, by have : ([] : List (Nat × Nat)).length = 0 := rfl; omega⟩
    have hh : some st.length = some k := hh
    injection hh with hh
    refine ⟨hh, M, ?_, hp, rfl, frV.refl⟩
    have l0 : ([] : List (Nat × Nat)).length = 0 := rfl
    rw [Mo_termOf_5, if_pos (by rw [l0, leP (by omega) (by omega)]; omega)]
  | cons y O ih =>
    obtain ⟨c, a⟩ := y
    intro p f k st M hc hv hp hh hl hs hf
    have l1 : ((c, a) :: O).length = O.length + 1 := rfl
    obtain ⟨f, rfl⟩ : ∃ g, f = g + 1 := ⟨f - 1, by omega⟩
    obtain ⟨h90, h91⟩ := hc 0 (c, a) rfl
    rw [Nat.add_zero] at h90 h91
    rw [hO_c] at hh
    rw [rn_c]
    have le : p + ((c, a) :: O).length = p + 1 + O.length := by rw [l1]; omega
    -- a value laid on the pile, at height m
    have lay : ∀ (z : Int32) (r : List Int32), piS 94 r M → r.length ≤ 31 → hO (r.length + 1) O = some k → Mo_termOf_5 N (f + 1) (nI (p + ((c, a) :: O).length)) (nI st.length) (nI p) M = Mo_termOf_5 N f (nI (p + 1 + O.length)) (nI (r.length + 1)) (nI (p + 1)) (mWI M 94 r.length z) → match rn v (z :: r) O with
        | some st' => st'.length = k ∧ ∃ B, Mo_termOf_5 N (f + 1) (nI (p + ((c, a) :: O).length)) (nI st.length) (nI p) M = some (B.1 94 0, B) ∧ piS 94 st' B ∧ B.1 64 47 = M.1 64 47 ∧ frV M B
        | none => ∃ B, Mo_termOf_5 N (f + 1) (nI (p + ((c, a) :: O).length)) (nI st.length) (nI p) M = some (0, B) ∧ B.1 64 47 = 1 ∧ frV M B := by
      intro z r hr hr31 hk eb
      have f0 : frV M (mWI M 94 r.length z) := ⟨fun a j q1 q2 => by rw [mWI_ne q1], rfl⟩
      have k1 := ih (p := p + 1) (f := f) (k := k) (st := z :: r) (M := mWI M 94 r.length z) (cdAt_t hc (fun a j q => by rw [mWI_ne (by omega)])) (fun i hi => by rw [mWI_ne (by omega)]; exact hv i hi) ⟨rI rfl, piS_fr hr (fun j hj => rN (by omega))⟩ hk (by omega) (by show r.length + 1 ≤ 32; omega) (by omega)
      rw [eb]
      cases ek : rn v (z :: r) O with
      | none =>
        rw [ek] at k1
        obtain ⟨B, eB, b1, fB⟩ := k1
        exact ⟨B, eB, b1, f0.trans fB⟩
      | some st' =>
        rw [ek] at k1
        obtain ⟨q, B, eB, pB, b1, fB⟩ := k1
        exact ⟨q, B, eB, pB, by rw [b1, mWI_ne (by omega)], f0.trans fB⟩
    have i1' : nI p + 1 = nI (p + 1) := nI_add p 1
    by_cases c1 : c ≤ 1
    · rw [if_pos c1] at hh
      by_cases y : st.length < 31 ∧ a ≤ 9999 ∧ (c = 1 → a ≤ 8)
      · rw [if_pos y] at hh
        have base : Mo_termOf_5 N (f + 1) (nI (p + ((c, a) :: O).length)) (nI st.length) (nI p) M = if nI c = 0 then (Mo_termOf_58 N (Mo_termOf_5 N f) (nI (p + 1 + O.length)) (nI st.length) (nI p) (nI st.length) (nI a) M) else (grd (mIn (nI a) 9) (Mo_termOf_58 N (Mo_termOf_5 N f) (nI (p + 1 + O.length)) (nI st.length) (nI p) (nI st.length) (M.1 93 (nI a).toNatClampNeg) M)) := by
          rw [le, Mo_termOf_5, if_neg (by rw [leP (by omega) (by omega)]; omega), grd_in (by omega) (by omega), clp (by omega), h90, nxs, if_neg (by rw [show (2 : Int32) = nI 2 from rfl, leP (by omega) (by omega)]; omega), grd_in (by omega) (by omega), grd_in (by omega) (by omega), h91]
        have b58 : ∀ z : Int32, Mo_termOf_58 N (Mo_termOf_5 N f) (nI (p + 1 + O.length)) (nI st.length) (nI p) (nI st.length) z M = Mo_termOf_5 N f (nI (p + 1 + O.length)) (nI (st.length + 1)) (nI (p + 1)) (mWI M 94 st.length z) := fun z => by
          unfold Mo_termOf_58 Mo_termOf_159
          rw [grd_in (by omega) (by omega), clp (by omega), nxs, show nI st.length + 1 = nI (st.length + 1) from nI_add _ 1, i1']
        by_cases c0 : c = 0
        · rw [if_pos c0]
          exact lay (nI a) st hp (by omega) hh (by rw [base, if_pos (by rw [c0]; rfl), b58])
        · have c1 : c = 1 := by omega
          rw [if_neg c0, if_pos c1]
          have a8 := y.2.2 c1
          exact lay (v a) st hp (by omega) hh (by rw [base, if_neg (by rw [c1]; decide), grd_in (by omega) (by omega), clp (by omega), hv a (by omega), b58])
      · rw [if_neg y] at hh; cases hh
    · rw [if_neg c1] at hh
      by_cases y : c ≤ 5 ∧ 2 ≤ st.length
      · rw [if_pos y] at hh
        rw [if_neg (by omega), if_neg (by omega)]
        obtain ⟨w, x, r, rfl⟩ := two_l y.2
        have lr : (w :: x :: r).length = r.length + 2 := rfl
        have hw : M.1 94 (r.length + 1) = w := hp.1
        have hx : M.1 94 r.length = x := hp.2.1
        have hh : hO (r.length + 1) O = some k := hh
        have base : Mo_termOf_5 N (f + 1) (nI (p + ((c, a) :: O).length)) (nI (w :: x :: r).length) (nI p) M = if nI c = 5 then (if w = 0 then (nxt (mWI M 64 47 1) fun M12 => some (0, M12)) else (Mo_termOf_104 N (Mo_termOf_5 N f) (nI (p + 1 + O.length)) (nI (r.length + 1)) (nI p) (nI c) x w M)) else (Mo_termOf_104 N (Mo_termOf_5 N f) (nI (p + 1 + O.length)) (nI (r.length + 1)) (nI p) (nI c) x w M) := by
          have e1 : nI (r.length + 2) + (-1) = nI (r.length + 1) := by rw [← Int32.sub_eq_add_neg, show nI (r.length + 2) - 1 = nI (r.length + 2 - 1) from sbP (b := 1) (by omega), show r.length + 2 - 1 = r.length + 1 by omega]
          have e2 : nI (r.length + 1) - 1 = nI r.length := by rw [show nI (r.length + 1) - 1 = nI (r.length + 1 - 1) from sbP (b := 1) (by omega), Nat.add_sub_cancel]
          rw [le, lr, Mo_termOf_5, if_neg (by rw [leP (by omega) (by omega)]; omega), grd_in (by omega) (by omega), clp (by omega), h90, nxs, if_pos (by rw [show (2 : Int32) = nI 2 from rfl, leP (by omega) (by omega)]; omega), e1, e2, grd_in (by omega) (by omega), clp (by omega), hx, nxs, grd_in (by omega) (by omega), clp (by omega), hw, nxs]
        have b158 : ∀ z : Int32, Mo_termOf_158 N (Mo_termOf_5 N f) (nI (p + 1 + O.length)) (nI (r.length + 1)) (nI p) (nI (r.length + 1) - 1) z M = Mo_termOf_5 N f (nI (p + 1 + O.length)) (nI (r.length + 1)) (nI (p + 1)) (mWI M 94 r.length z) := fun z => by
          have e2 : nI (r.length + 1) - 1 = nI r.length := by rw [show nI (r.length + 1) - 1 = nI (r.length + 1 - 1) from sbP (b := 1) (by omega), Nat.add_sub_cancel]
          unfold Mo_termOf_158 Mo_termOf_159
          rw [e2, grd_in (by omega) (by omega), clp (by omega), nxs, i1']
        have cs : c = 2 ∨ c = 3 ∨ c = 4 ∨ c = 5 := by omega
        rcases cs with rfl | rfl | rfl | rfl
        · exact lay (x + w) r hp.2.2 (by omega) hh (by rw [base, if_neg (by decide), Mo_termOf_104, if_pos (by decide), b158])
        · exact lay (x - w) r hp.2.2 (by omega) hh (by rw [base, if_neg (by decide), Mo_termOf_104, if_neg (by decide), if_pos (by decide), b158])
        · exact lay (x * w) r hp.2.2 (by omega) hh (by rw [base, if_neg (by decide), Mo_termOf_104, if_neg (by decide), if_neg (by decide), if_pos (by decide), b158])
        · rw [if_pos (by decide)] at base
          by_cases z : w = 0
          · rw [if_pos z, nxs] at base
            dsimp only
            rw [if_neg (by decide), if_neg (by decide), if_neg (by decide), if_pos z]
            exact ⟨mWI M 64 47 1, base, rI rfl, ⟨fun a j q1 q2 => rN q2, rfl⟩⟩
          · rw [if_neg z] at base
            dsimp only
            rw [if_neg (by decide), if_neg (by decide), if_neg (by decide), if_neg z]
            exact lay (x / w) r hp.2.2 (by omega) hh (by rw [base, Mo_termOf_104, if_neg (by decide), if_neg (by decide), if_neg (by decide)]; unfold nz; rw [if_neg z, b158])
      · rw [if_neg y] at hh; cases hh
