/-! THE LAWS: what a law says; the class's code of it, said -/
abbrev oc : Type := List (Nat × Nat)
abbrev brs : Type := List (oc × oc × oc)
def vl (v : Nat → Int32) (O : oc) : Option Int32 := match rn v [] O with
  | some (x :: _) => some x
  | _ => none
def sayL (v : Nat → Int32) : brs → oc → Int32
  | [], O => (vl v O).getD 0
  | b :: bs, O => match vl v b.1 with
    | none => 0
    | some x => match vl v b.2.1 with
      | none => 0
      | some y => if x < y then (vl v b.2.2).getD 0 else sayL v bs O
theorem sayL_c {v : Nat → Int32} {b : oc × oc × oc} {bs : brs} {O : oc} : sayL v (b :: bs) O = match vl v b.1 with
    | none => 0
    | some x => match vl v b.2.1 with
      | none => 0
      | some y => if x < y then (vl v b.2.2).getD 0 else sayL v bs O := rfl
def lcd (b : Nat) : brs → oc → oc
  | [], O => O ++ [(7, 0)]
  | x :: bs, O => x.1 ++ (x.2.1 ++ ((6, b + x.1.length + x.2.1.length + x.2.2.length + 2) :: (x.2.2 ++ ((7, 0) :: lcd (b + x.1.length + x.2.1.length + x.2.2.length + 2) bs O))))
theorem lcd_c {b : Nat} {x : oc × oc × oc} {bs : brs} {O : oc} : lcd b (x :: bs) O = x.1 ++ (x.2.1 ++ ((6, b + x.1.length + x.2.1.length + x.2.2.length + 2) :: (x.2.2 ++ ((7, 0) :: lcd (b + x.1.length + x.2.1.length + x.2.2.length + 2) bs O)))) := rfl
def bOk (O : oc) : Prop := hO 0 O = some 1
def lOk (bs : brs) (O : oc) : Prop := (∀ x, x ∈ bs → bOk x.1 ∧ bOk x.2.1 ∧ bOk x.2.2) ∧ bOk O
/-- code in the cells a, from p on -/
def cdC (a p : Nat) (O : oc) (M : mS) : Prop := ∀ i x, O[i]? = some x → M.1 a (p + i) = nI (x.2 * 8 + x.1)
theorem cdC_c {a p : Nat} {x : Nat × Nat} {O : oc} {M : mS} (h : cdC a p (x :: O) M) : M.1 a p = nI (x.2 * 8 + x.1) ∧ cdC a (p + 1) O M := ⟨h 0 x rfl, fun i y hy => by
  have := h (i + 1) y (by rw [List.getElem?_cons_succ]; exact hy)
  rw [show p + 1 + i = p + (i + 1) by omega]; exact this⟩
theorem cdC_l {a p : Nat} {O P : oc} {M : mS} (h : cdC a p (O ++ P) M) : cdC a p O M ∧ cdC a (p + O.length) P M := by
  refine ⟨fun i x hx => ?_, fun i x hx => ?_⟩
  · have hi : i < O.length := by
      apply Classical.byContradiction
      intro q
      rw [List.getElem?_eq_none (by omega)] at hx
      cases hx
    exact h i x (by rw [List.getElem?_append_left hi]; exact hx)
  · have := h (O.length + i) x (by rw [List.getElem?_append_right (by omega), Nat.add_sub_cancel_left]; exact hx)
    rw [show p + O.length + i = p + (O.length + i) by omega]; exact this
theorem cdC_fr {a p : Nat} {O : oc} {M A : mS} (h : cdC a p O M) (hf : ∀ j, A.1 a j = M.1 a j) : cdC a p O A := fun i x hx => by rw [hf]; exact h i x hx
theorem st_lo {c a : Nat} (hc : c < 8) : (nI (a * 8 + c) &&& 7) = nI c := by
  have h := fa_mask (a * 8 + c) 3
  have e : (a * 8 + c) % 2 ^ 3 = c := by rw [show (2 : Nat) ^ 3 = 8 from rfl]; omega
  rw [e] at h
  exact h
theorem st_hi {c a : Nat} (hc : c < 8) (ha : a ≤ 9999) : (nI (a * 8 + c) >>> ((3 : Int32) &&& 31)) = nI a := by
  have h := sar (n := a * 8 + c) (k := 3) (by omega) (by omega)
  have e : (a * 8 + c) / 2 ^ 3 = a := by rw [show (2 : Nat) ^ 3 = 8 from rfl]; omega
  rw [e] at h
  exact h
def fr8 (M A : mS) : Prop := (∀ a j, a ≠ 8 → A.1 a j = M.1 a j) ∧ A.2 = M.2
theorem fr8.refl {M : mS} : fr8 M M := ⟨fun _ _ _ => rfl, rfl⟩
theorem fr8.trans {A B C : mS} (h : fr8 A B) (g : fr8 B C) : fr8 A C := ⟨fun a j q => (g.1 a j q).trans (h.1 a j q), g.2.trans h.2⟩
theorem fr8.cd {p : Nat} {O : oc} {M A : mS} (f : fr8 M A) (h : cdC 6 p O M) : cdC 6 p O A := cdC_fr h (fun j => f.1 6 j (by omega))
theorem say_r {N z : Nat} {v : Nat → Int32} {r : List Int32} (hz : z ≤ 408) (hr : r.length ≤ 1) : ∀ {O : oc} {p f k : Nat} {st : List Int32} {M : mS}, M.1 4 4 = nI z → cdC 6 p O M → (∀ i, i < 9 → M.1 5 i = v i) → piS 8 (st ++ r) M → hO st.length O = some k → p + O.length ≤ z → st.length ≤ 31 → match rn v st O with
    | some st' => st'.length = k ∧ ∃ B, La_say_9 N (f + O.length) (nI (st ++ r).length) (nI p) M = La_say_9 N f (nI (st' ++ r).length) (nI (p + O.length)) B ∧ piS 8 (st' ++ r) B ∧ fr8 M B
    | none => ∃ B, La_say_9 N (f + O.length) (nI (st ++ r).length) (nI p) M = some (0, B) ∧ fr8 M B := by
  intro O
  induction O with
  | nil =>
    intro p f k st M h4 hc hv hp hh hl hs
    have hh : some st.length = some k := hh
    injection hh with hh
    exact ⟨hh, M, rfl, hp, fr8.refl⟩
  | cons y O ih =>
    obtain ⟨c, a⟩ := y
    intro p f k st M h4 hc hv hp hh hl hs
    have l1 : ((c, a) :: O).length = O.length + 1 := rfl
    obtain ⟨h6, hc2⟩ := cdC_c hc
    have h6 : M.1 6 p = nI (a * 8 + c) := h6
    rw [hO_c] at hh
    rw [rn_c]
    have le : p + ((c, a) :: O).length = p + 1 + O.length := by rw [l1]; omega
    have lf : f + ((c, a) :: O).length = f + O.length + 1 := by rw [l1]; omega
    have i1' : nI p + 1 = nI (p + 1) := nI_add p 1
    rw [le, lf]
    -- a value laid on the pile
    have lay : ∀ (w : Int32) (q : List Int32), piS 8 (q ++ r) M → q.length ≤ 30 → hO (q.length + 1) O = some k → La_say_9 N (f + O.length + 1) (nI (st ++ r).length) (nI p) M = La_say_9 N (f + O.length) (nI ((q ++ r).length + 1)) (nI (p + 1)) (mWI M 8 (q ++ r).length w) → match rn v (w :: q) O with
        | some st' => st'.length = k ∧ ∃ B, La_say_9 N (f + O.length + 1) (nI (st ++ r).length) (nI p) M = La_say_9 N f (nI (st' ++ r).length) (nI (p + 1 + O.length)) B ∧ piS 8 (st' ++ r) B ∧ fr8 M B
        | none => ∃ B, La_say_9 N (f + O.length + 1) (nI (st ++ r).length) (nI p) M = some (0, B) ∧ fr8 M B := by
      intro w q hq hq30 hk eb
      have f0 : fr8 M (mWI M 8 (q ++ r).length w) := ⟨fun a j q1 => by rw [mWI_ne q1], rfl⟩
      have k1 := ih (p := p + 1) (f := f) (k := k) (st := w :: q) (M := mWI M 8 (q ++ r).length w) (by rw [mWI_ne (by omega)]; exact h4) (f0.cd hc2) (fun i hi => by rw [mWI_ne (by omega)]; exact hv i hi) (show piS 8 (w :: (q ++ r)) _ from ⟨rI rfl, piS_fr hq (fun j hj => rN (by omega))⟩) hk (by omega) (by show q.length + 1 ≤ 31; omega)
      rw [eb]
      cases ek : rn v (w :: q) O with
      | none =>
        rw [ek] at k1
        obtain ⟨B, eB, fB⟩ := k1
        exact ⟨B, eB, f0.trans fB⟩
      | some st' =>
        rw [ek] at k1
        obtain ⟨q, B, eB, pB, fB⟩ := k1
        exact ⟨q, B, eB, pB, f0.trans fB⟩
    have la : (st ++ r).length = st.length + r.length := List.length_append
    by_cases c1 : c ≤ 1
    · rw [if_pos c1] at hh
      by_cases y : st.length < 31 ∧ a ≤ 9999 ∧ (c = 1 → a ≤ 8)
      · rw [if_pos y] at hh
        have d1 := st_lo (c := c) (a := a) (by omega)
        have d2 := st_hi (c := c) (a := a) (by omega) y.2.1
        have base : La_say_9 N (f + O.length + 1) (nI (st ++ r).length) (nI p) M = La_say_77 N (La_say_9 N (f + O.length)) (nI (st ++ r).length) (nI p) (nI c) (nI a) M := by
          rw [La_say_9, if_neg (nI_pos (by omega)), h4, if_neg (by rw [leP (by omega) (by omega)]; omega), grd_in (by omega) (by omega), clp (by omega), h6, d1, d2, nxs, grd_in (by omega) (by omega), nxs, if_neg (by rw [show (7 : Int32) = nI 7 from rfl, eqP (by omega) (by omega)]; omega)]
          by_cases c0 : c = 0
          · rw [if_pos (by rw [c0]; rfl)]
          · rw [if_neg (by rw [show (0 : Int32) = nI 0 from rfl, eqP (by omega) (by omega)]; exact c0), if_pos (by rw [show c = 1 by omega]; rfl)]
        have b126 : ∀ w : Int32, La_say_126 N (La_say_9 N (f + O.length)) (nI (st ++ r).length) (nI p) (nI (st ++ r).length) w M = La_say_9 N (f + O.length) (nI ((st ++ r).length + 1)) (nI (p + 1)) (mWI M 8 (st ++ r).length w) := fun w => by
          unfold La_say_126 La_say_280
          rw [grd_in (by omega) (by omega), clp (by omega), nxs, show nI (st ++ r).length + 1 = nI ((st ++ r).length + 1) from nI_add _ 1, i1']
        by_cases c0 : c = 0
        · rw [if_pos c0]
          refine lay (nI a) st hp (by omega) hh ?_
          rw [base]
          unfold La_say_77 La_say_104
          rw [if_neg (by rw [show (Int32.ofNat 32 : Int32) = nI 32 from rfl, leP (by omega) (by omega)]; omega), if_neg (by rw [c0]; decide), if_pos (by rw [c0]; rfl), b126]
        · have c1 : c = 1 := by omega
          rw [if_neg c0, if_pos c1]
          have a8 := y.2.2 c1
          refine lay (v a) st hp (by omega) hh ?_
          rw [base]
          unfold La_say_77 La_say_104
          rw [if_neg (by rw [show (Int32.ofNat 32 : Int32) = nI 32 from rfl, leP (by omega) (by omega)]; omega), if_pos (by rw [c1]; rfl), if_pos (by rw [show (Int32.ofNat 9 : Int32) = nI 9 from rfl, ltP (by omega) (by omega)]; omega), if_neg (by rw [c1]; decide), grd_in (by omega) (by omega), clp (by omega), hv a (by omega), b126]
      · rw [if_neg y] at hh; cases hh
    · rw [if_neg c1] at hh
      by_cases y : c ≤ 5 ∧ 2 ≤ st.length
      · rw [if_pos y] at hh
        rw [if_neg (by omega), if_neg (by omega)]
        obtain ⟨w, x, q, rfl⟩ := two_l y.2
        have lr : ((w :: x :: q) ++ r).length = (q ++ r).length + 2 := rfl
        have hw : M.1 8 ((q ++ r).length + 1) = w := hp.1
        have hx : M.1 8 (q ++ r).length = x := hp.2.1
        have hh : hO (q.length + 1) O = some k := hh
        have lq : (q ++ r).length = q.length + r.length := List.length_append
        have hs : q.length + 2 ≤ 31 := hs
        have d1 := st_lo (c := c) (a := a) (by omega)
        have base : La_say_9 N (f + O.length + 1) (nI ((w :: x :: q) ++ r).length) (nI p) M = if nI c = 2 then La_say_9 N (f + O.length) (nI ((q ++ r).length + 1)) (nI (p + 1)) (mWI M 8 (q ++ r).length (x + w)) else if nI c = 3 then La_say_9 N (f + O.length) (nI ((q ++ r).length + 1)) (nI (p + 1)) (mWI M 8 (q ++ r).length (x - w)) else if nI c = 4 then La_say_9 N (f + O.length) (nI ((q ++ r).length + 1)) (nI (p + 1)) (mWI M 8 (q ++ r).length (x * w)) else if w = 0 then some (0, M) else nz w (La_say_9 N (f + O.length) (nI ((q ++ r).length + 1)) (nI (p + 1)) (mWI M 8 (q ++ r).length (x / w))) := by
          have e1 : nI ((q ++ r).length + 2) + (-1) = nI ((q ++ r).length + 1) := by rw [← Int32.sub_eq_add_neg, show nI ((q ++ r).length + 2) - 1 = nI ((q ++ r).length + 2 - 1) from sbP (b := 1) (by omega), show (q ++ r).length + 2 - 1 = (q ++ r).length + 1 by omega]
          have e2 : nI ((q ++ r).length + 1) - 1 = nI (q ++ r).length := by rw [show nI ((q ++ r).length + 1) - 1 = nI ((q ++ r).length + 1 - 1) from sbP (b := 1) (by omega), Nat.add_sub_cancel]
          have e3 : nI ((q ++ r).length + 2) - 1 = nI ((q ++ r).length + 1) := by rw [show nI ((q ++ r).length + 2) - 1 = nI ((q ++ r).length + 2 - 1) from sbP (b := 1) (by omega), show (q ++ r).length + 2 - 1 = (q ++ r).length + 1 by omega]
          have e4 : nI ((q ++ r).length + 2) - 2 = nI (q ++ r).length := by rw [show nI ((q ++ r).length + 2) - 2 = nI ((q ++ r).length + 2 - 2) from sbP (b := 2) (by omega), Nat.add_sub_cancel]
          have ne : ∀ k, k < 8 → c ≠ k → ¬ nI c = nI k := fun k hk2 q => by rw [eqP (by omega) (by omega)]; exact q
          rw [lr, La_say_9, if_neg (nI_pos (by omega)), h4, if_neg (by rw [leP (by omega) (by omega)]; omega), grd_in (by omega) (by omega), clp (by omega), h6, d1, nxs, grd_in (by omega) (by omega), nxs, if_neg (show ¬ nI c = 7 from ne 7 (by omega) (by omega)), if_neg (show ¬ nI c = 0 from ne 0 (by omega) (by omega)), if_neg (show ¬ nI c = 1 from ne 1 (by omega) (by omega)), if_pos (by rw [show (2 : Int32) = nI 2 from rfl, leP (by omega) (by omega)]; omega), e4, grd_in (by omega) (by omega), clp (by omega), hx, nxs, e3, grd_in (by omega) (by omega), clp (by omega), hw, nxs, if_neg (show ¬ nI c = 6 from ne 6 (by omega) (by omega)), e1, e2, clp (by omega)]
          unfold La_say_280
          have gi : ∀ X : Option (Int32 × mS), grd (mIn (nI (q ++ r).length) 32) X = X := fun X => grd_in (by omega) (by omega)
          rw [i1', gi, gi, gi, gi]
          rfl
        have cs : c = 2 ∨ c = 3 ∨ c = 4 ∨ c = 5 := by omega
        rcases cs with rfl | rfl | rfl | rfl
        · exact lay (x + w) q hp.2.2 (by omega) hh (by rw [base, if_pos (by decide)])
        · exact lay (x - w) q hp.2.2 (by omega) hh (by rw [base, if_neg (by decide), if_pos (by decide)])
        · exact lay (x * w) q hp.2.2 (by omega) hh (by rw [base, if_neg (by decide), if_neg (by decide), if_pos (by decide)])
        · rw [if_neg (by decide), if_neg (by decide), if_neg (by decide)] at base
          dsimp only
          rw [if_neg (by decide), if_neg (by decide), if_neg (by decide)]
          by_cases z : w = 0
          · rw [if_pos z] at base
            rw [if_pos z]
            exact ⟨M, base, fr8.refl⟩
          · rw [if_neg z] at base
            unfold nz at base
            rw [if_neg z] at base
            rw [if_neg z]
            exact lay (x / w) q hp.2.2 (by omega) hh base
      · rw [if_neg y] at hh; cases hh
theorem one_l : ∀ {st : List Int32}, st.length = 1 → ∃ x, st = [x]
  | [x], _ => ⟨x, rfl⟩
/-- one piece of code said on its own -/
theorem vl_some {v : Nat → Int32} {O : oc} {x : Int32} (h : rn v [] O = some [x]) : vl v O = some x := by unfold vl; rw [h]
theorem vl_none {v : Nat → Int32} {O : oc} (h : rn v [] O = none) : vl v O = none := by unfold vl; rw [h]
section
variable {N z : Nat} {v : Nat → Int32}
theorem say_1 {O : oc} {p f : Nat} {r : List Int32} {M : mS} (hz : z ≤ 408) (hr : r.length ≤ 1) (h4 : M.1 4 4 = nI z) (hc : cdC 6 p O M) (hv : ∀ i, i < 9 → M.1 5 i = v i) (hp : piS 8 r M) (hO : bOk O) (hl : p + O.length ≤ z) : match vl v O with
    | some x => ∃ B, La_say_9 N (f + O.length) (nI r.length) (nI p) M = La_say_9 N f (nI (r.length + 1)) (nI (p + O.length)) B ∧ piS 8 (x :: r) B ∧ fr8 M B
    | none => ∃ B, La_say_9 N (f + O.length) (nI r.length) (nI p) M = some (0, B) ∧ fr8 M B := by
  have k := say_r (N := N) (v := v) (f := f) (st := []) hz hr h4 hc hv hp hO hl (by show 0 ≤ 31; omega)
  cases e : rn v [] O with
  | none =>
    rw [e] at k
    rw [vl_none e]
    exact k
  | some st' =>
    rw [e] at k
    obtain ⟨k1, B, eB, pB, fB⟩ := k
    obtain ⟨x, rfl⟩ := one_l k1
    rw [vl_some e]
    exact ⟨B, eB, pB, fB⟩
/-- the end of a law: its answer -/
theorem say_e {p f : Nat} {x : Int32} {M : mS} (hz : z ≤ 408) (h4 : M.1 4 4 = nI z) (hc : M.1 6 p = nI 7) (hp : M.1 8 0 = x) (hl : p < z) : La_say_9 N (f + 1) (nI 1) (nI p) M = some (x, M) := by
  rw [La_say_9, if_neg (nI_pos (by omega)), h4, if_neg (by rw [leP (by omega) (by omega)]; omega), grd_in (by omega) (by omega), clp (by omega), hc, nxs, grd_in (by omega) (by omega), nxs, if_pos (by decide), if_neg (by decide), show nI 1 - 1 = nI 0 from rfl, grd_in (by omega) (by omega), clp (by omega), hp]
theorem say_6 {p f a : Nat} {x y : Int32} {M : mS} (hz : z ≤ 408) (h4 : M.1 4 4 = nI z) (hc : M.1 6 p = nI (a * 8 + 6)) (hx : M.1 8 0 = x) (hy : M.1 8 1 = y) (hl : p < z) (hp : p < a) (ha : a ≤ 9999) : La_say_9 N (f + 1) (nI 2) (nI p) M = if x < y then La_say_9 N f (nI 0) (nI (p + 1)) M else La_say_9 N f (nI 0) (nI a) M := by
  have d1 := st_lo (c := 6) (a := a) (by omega)
  have d2 := st_hi (c := 6) (a := a) (by omega) ha
  rw [La_say_9, if_neg (nI_pos (by omega)), h4, if_neg (by rw [leP (by omega) (by omega)]; omega), grd_in (by omega) (by omega), clp (by omega), hc, d1, d2, nxs, grd_in (by omega) (by omega), nxs, if_neg (by decide), if_neg (by decide), if_neg (by decide), if_pos (by decide), show nI 2 - 2 = nI 0 from rfl, grd_in (by omega) (by omega), clp (by omega), hx, nxs, show nI 2 - 1 = nI 1 from rfl, grd_in (by omega) (by omega), clp (by omega), hy, nxs, if_pos (by decide)]
  unfold La_say_280
  have e1 : nI 2 + (-2) = nI 0 := by decide
  rw [e1, show nI p + 1 = nI (p + 1) from nI_add p 1, if_neg (show ¬ nI a ≤ nI p by rw [leP (by omega) (by omega)]; omega), nxs, show nI a - 1 = nI (a - 1) from sbP (b := 1) (by omega), show nI (a - 1) + 1 = nI (a - 1 + 1) from nI_add _ 1, show a - 1 + 1 = a by omega]
/-- a law said -/
theorem say_L (hz : z ≤ 408) : ∀ {bs : brs} {O : oc} {p f : Nat} {M : mS}, M.1 4 4 = nI z → cdC 6 p (lcd p bs O) M → (∀ i, i < 9 → M.1 5 i = v i) → lOk bs O → p + (lcd p bs O).length ≤ z → (lcd p bs O).length ≤ f → ∃ B, La_say_9 N f (nI 0) (nI p) M = some (sayL v bs O, B) ∧ fr8 M B := by
  intro bs
  -- a sum, then the end
  have fin : ∀ {O P : oc} {p f : Nat} {M : mS}, M.1 4 4 = nI z → cdC 6 p (O ++ ((7, 0) :: P)) M → (∀ i, i < 9 → M.1 5 i = v i) → bOk O → p + O.length + 1 ≤ z → O.length + 1 ≤ f → ∃ B, La_say_9 N f (nI 0) (nI p) M = some ((vl v O).getD 0, B) ∧ fr8 M B := by
    intro O P p f M h4 hc hv hO hl hf
    obtain ⟨g, rfl⟩ : ∃ g, f = g + 1 + O.length := ⟨f - 1 - O.length, by omega⟩
    obtain ⟨c1, c2⟩ := cdC_l hc
    obtain ⟨c3, -⟩ := cdC_c c2
    have k := say_1 (N := N) (v := v) (f := g + 1) (r := []) hz (by show 0 ≤ 1; omega) h4 c1 hv trivial hO (by omega)
    cases e : vl v O with
    | none =>
      rw [e] at k
      exact k
    | some x =>
      rw [e] at k
      obtain ⟨B, eB, pB, fB⟩ := k
      refine ⟨B, eB.trans ?_, fB⟩
      exact say_e hz ((fB.1 4 4 (by omega)).trans h4) ((fB.1 6 _ (by omega)).trans c3) pB.1 (by omega)
  induction bs with
  | nil =>
    intro O p f M h4 hc hv hO hl hf
    have l1 : (lcd p [] O).length = O.length + 1 := by show (O ++ [(7, 0)]).length = _; simp
    exact fin (P := []) h4 hc hv hO.2 (by omega) (by omega)
  | cons b bs ih =>
    intro O p f M h4 hc hv hO hl hf
    obtain ⟨o1, o2, o3⟩ := b
    rw [sayL_c]
    rw [lcd_c] at hc hl hf
    dsimp only at hc hl hf ⊢
    simp only [List.length_append, List.length_cons] at hl hf
    obtain ⟨q1, q2, q3⟩ := hO.1 (o1, o2, o3) (List.mem_cons_self ..)
    dsimp only at q1 q2 q3
    obtain ⟨c1, c'⟩ := cdC_l hc
    obtain ⟨c2, c''⟩ := cdC_l c'
    obtain ⟨c6, c3⟩ := cdC_c c''
    dsimp only at c6
    obtain ⟨-, c4⟩ := cdC_l c3
    obtain ⟨-, c5⟩ := cdC_c c4
    obtain ⟨g, rfl⟩ : ∃ g, f = g + 1 + o2.length + o1.length := ⟨f - 1 - o2.length - o1.length, by omega⟩
    have k := say_1 (N := N) (v := v) (f := g + 1 + o2.length) (r := []) hz (by show 0 ≤ 1; omega) h4 c1 hv trivial q1 (by omega)
    cases e1 : vl v o1 with
    | none =>
      rw [e1] at k
      exact k
    | some x =>
      rw [e1] at k
      obtain ⟨B, eB, pB, fB⟩ := k
      have k2 := say_1 (N := N) (v := v) (f := g + 1) (r := [x]) hz (by show 1 ≤ 1; omega) ((fB.1 4 4 (by omega)).trans h4) (fB.cd c2) (fun i hi => (fB.1 5 i (by omega)).trans (hv i hi)) pB q2 (by omega)
      dsimp only
      cases e2 : vl v o2 with
      | none =>
        rw [e2] at k2
        obtain ⟨C, eC, fC⟩ := k2
        exact ⟨C, eB.trans eC, fB.trans fC⟩
      | some y =>
        rw [e2] at k2
        obtain ⟨C, eC, pC, fC⟩ := k2
        have fBC := fB.trans fC
        have k6 := say_6 (N := N) (f := g) (x := x) (y := y) hz ((fBC.1 4 4 (by omega)).trans h4) ((fBC.1 6 _ (by omega)).trans c6) pC.2.1 pC.1 (by omega) (by omega) (by omega)
        have eall := (eB.trans eC).trans k6
        dsimp only
        by_cases w : x < y
        · rw [if_pos w] at eall
          rw [if_pos w]
          obtain ⟨D, eD, fD⟩ := fin (P := lcd (p + o1.length + o2.length + o3.length + 2) bs O) (p := p + o1.length + o2.length + 1) (f := g) (M := C) ((fBC.1 4 4 (by omega)).trans h4) (fBC.cd c3) (fun i hi => (fBC.1 5 i (by omega)).trans (hv i hi)) q3 (by omega) (by omega)
          exact ⟨D, eall.trans eD, fBC.trans fD⟩
        · rw [if_neg w] at eall
          rw [if_neg w]
          have c5 : cdC 6 (p + o1.length + o2.length + o3.length + 2) (lcd (p + o1.length + o2.length + o3.length + 2) bs O) M := by
            rw [show p + o1.length + o2.length + 1 + o3.length + 1 = p + o1.length + o2.length + o3.length + 2 by omega] at c5
            exact c5
          obtain ⟨D, eD, fD⟩ := ih (O := O) (p := p + o1.length + o2.length + o3.length + 2) (f := g) (M := C) ((fBC.1 4 4 (by omega)).trans h4) (fBC.cd c5) (fun i hi => (fBC.1 5 i (by omega)).trans (hv i hi)) ⟨fun a ha => hO.1 a (List.mem_cons_of_mem _ ha), hO.2⟩ (by omega) (by omega)
          exact ⟨D, eall.trans eD, fBC.trans fD⟩
end
/-! no variable that changes: then nothing changes -/
theorem rn_same {v w : Nat → Int32} (hv : ∀ i, i < 9 → i ≠ 0 → i ≠ 1 → i ≠ 5 → v i = w i) : ∀ {O : oc} {st : List Int32} {k : Nat}, hO st.length O = some k → chL O = false → rn v st O = rn w st O := by
  intro O
  induction O with
  | nil => intro st k hh hc; rfl
  | cons y O ih =>
    obtain ⟨c, a⟩ := y
    intro st k hh hc
    rw [hO_c] at hh
    have hc1 : chO c a = false ∧ chL O = false := by
      unfold chL at hc ⊢
      rw [List.any_cons, Bool.or_eq_false_iff] at hc
      exact hc
    rw [rn_c, rn_c]
    by_cases c1 : c ≤ 1
    · rw [if_pos c1] at hh
      by_cases y : st.length < 31 ∧ a ≤ 9999 ∧ (c = 1 → a ≤ 8)
      · rw [if_pos y] at hh
        by_cases c0 : c = 0
        · rw [if_pos c0, if_pos c0]; exact ih (st := nI a :: st) hh hc1.2
        · have c1 : c = 1 := by omega
          rw [if_neg c0, if_neg c0, if_pos c1, if_pos c1]
          have a8 := y.2.2 c1
          have e : ¬ (a = 0 ∨ a = 1 ∨ a = 5) := by
            intro q
            have := hc1.1
            unfold chO at this
            rcases q with q | q | q <;> subst q <;> subst c1 <;> cases this
          rw [hv a (by omega) (by omega) (by omega) (by omega)]
          exact ih (st := w a :: st) hh hc1.2
      · rw [if_neg y] at hh; cases hh
    · rw [if_neg c1] at hh
      by_cases y : c ≤ 5 ∧ 2 ≤ st.length
      · rw [if_pos y] at hh
        rw [if_neg (by omega), if_neg (by omega), if_neg (by omega), if_neg (by omega)]
        obtain ⟨z, x, q, rfl⟩ := two_l y.2
        have hh : hO (q.length + 1) O = some k := hh
        dsimp only
        rw [ih (st := (x + z) :: q) hh hc1.2, ih (st := (x - z) :: q) hh hc1.2, ih (st := (x * z) :: q) hh hc1.2, ih (st := (x / z) :: q) hh hc1.2]
      · rw [if_neg y] at hh; cases hh
theorem chL_app {O P : oc} : chL (O ++ P) = (chL O || chL P) := by unfold chL; rw [List.any_append]
theorem chL_cons {x : Nat × Nat} {P : oc} : chL (x :: P) = (chO x.1 x.2 || chL P) := rfl
theorem vl_same {v w : Nat → Int32} (hv : ∀ i, i < 9 → i ≠ 0 → i ≠ 1 → i ≠ 5 → v i = w i) {O : oc} (h : bOk O) (hc : chL O = false) : vl v O = vl w O := by unfold vl; rw [rn_same hv (st := []) h hc]
theorem sayL_same {v w : Nat → Int32} (hv : ∀ i, i < 9 → i ≠ 0 → i ≠ 1 → i ≠ 5 → v i = w i) : ∀ {bs : brs} {O : oc} {p : Nat}, lOk bs O → chL (lcd p bs O) = false → sayL v bs O = sayL w bs O := by
  intro bs
  induction bs with
  | nil =>
    intro O p h hc
    have hc : chL (O ++ [(7, 0)]) = false := hc
    rw [chL_app, Bool.or_eq_false_iff] at hc
    show (vl v O).getD 0 = (vl w O).getD 0
    rw [vl_same hv h.2 hc.1]
  | cons b bs ih =>
    intro O p h hc
    obtain ⟨o1, o2, o3⟩ := b
    obtain ⟨q1, q2, q3⟩ := h.1 (o1, o2, o3) (List.mem_cons_self ..)
    rw [lcd_c, chL_app, chL_app, chL_cons, chL_app, chL_cons] at hc
    simp only [Bool.or_eq_false_iff] at hc
    obtain ⟨h1, h2, h3, h4, h5, h6⟩ := hc
    rw [sayL_c, sayL_c]
    dsimp only at h1 h2 h4 h6 q1 q2 q3 ⊢
    rw [vl_same hv q1 h1, vl_same hv q2 h2, vl_same hv q3 h4, ih ⟨fun a ha => h.1 a (List.mem_cons_of_mem _ ha), h.2⟩ h6]
