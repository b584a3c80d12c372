/-! a law told by the model -/
def brM (cl ch : Nat) (j : Nat) : brs → oc → mS → Prop
  | [], O, M => M.1 85 j = 0 ∧ ∃ p, M.1 88 j = nI p ∧ M.1 89 j = nI (p + O.length) ∧ cdAt p O M ∧ cl ≤ p ∧ p + O.length ≤ ch
  | b :: bs, O, M => (M.1 85 j = 1 ∧ ∃ p, M.1 86 j = nI p ∧ M.1 87 j = nI (p + b.1.length) ∧ M.1 88 j = nI (p + b.1.length + b.2.1.length) ∧ M.1 89 j = nI (p + b.1.length + b.2.1.length + b.2.2.length) ∧ cdAt p b.1 M ∧ cdAt (p + b.1.length) b.2.1 M ∧ cdAt (p + b.1.length + b.2.1.length) b.2.2 M ∧ cl ≤ p ∧ p + b.1.length + b.2.1.length + b.2.2.length ≤ ch) ∧ brM cl ch (j + 1) bs O M
theorem cdAt_fr {p : Nat} {O : oc} {M A : mS} (h : cdAt p O M) (hf : ∀ a i, (a = 90 ∨ a = 91) → p ≤ i → i < p + O.length → A.1 a i = M.1 a i) : cdAt p O A := fun i x hx => by
  have hi : i < O.length := by
    apply Classical.byContradiction
    intro q
    rw [List.getElem?_eq_none (by omega)] at hx
    cases hx
  rw [hf 90 _ (by omega) (by omega) (by omega), hf 91 _ (by omega) (by omega) (by omega)]
  exact h i x hx
theorem frV.cd {p : Nat} {O : oc} {M A : mS} (f : frV M A) (h : cdAt p O M) : cdAt p O A := cdAt_fr h (fun a i q _ _ => f.1 a i (by omega) (by omega))
theorem brM_fr {M A : mS} {cl ch : Nat} : ∀ {bs : brs} {O : oc} {j : Nat}, brM cl ch j bs O M → (∀ a i, 85 ≤ a → a ≤ 89 → j ≤ i → i ≤ j + bs.length → A.1 a i = M.1 a i) → (∀ a i, (a = 90 ∨ a = 91) → cl ≤ i → i < ch → A.1 a i = M.1 a i) → brM cl ch j bs O A := by
  intro bs
  induction bs with
  | nil =>
    intro O j h hf hg
    obtain ⟨h1, p, h2, h3, h4, h5, h6⟩ := h
    have hj : ([] : brs).length = 0 := rfl
    exact ⟨(hf 85 j (by omega) (by omega) (by omega) (by omega)).trans h1, p, (hf 88 j (by omega) (by omega) (by omega) (by omega)).trans h2, (hf 89 j (by omega) (by omega) (by omega) (by omega)).trans h3, cdAt_fr h4 (fun a i qa qp qi => hg a i qa (by omega) (by omega)), h5, h6⟩
  | cons b bs ih =>
    intro O j h hf hg
    obtain ⟨⟨h1, p, h2, h3, h4, h5, h6, h7, h8, h9, h11⟩, h10⟩ := h
    have l1 : (b :: bs).length = bs.length + 1 := rfl
    refine ⟨⟨(hf 85 j (by omega) (by omega) (by omega) (by omega)).trans h1, p, (hf 86 j (by omega) (by omega) (by omega) (by omega)).trans h2, (hf 87 j (by omega) (by omega) (by omega) (by omega)).trans h3, (hf 88 j (by omega) (by omega) (by omega) (by omega)).trans h4, (hf 89 j (by omega) (by omega) (by omega) (by omega)).trans h5, cdAt_fr h6 (fun a i qa qp qi => hg a i qa (by omega) (by omega)), cdAt_fr h7 (fun a i qa qp qi => hg a i qa (by omega) (by omega)), cdAt_fr h8 (fun a i qa qp qi => hg a i qa (by omega) (by omega)), h9, h11⟩, ?_⟩
    exact ih h10 (fun a i q1 q2 q3 q4 => hf a i q1 q2 (by omega) (by omega)) hg
theorem brM_mono {M : mS} {cl ch cl' ch' : Nat} (h1 : cl' ≤ cl) (h2 : ch ≤ ch') : ∀ {bs : brs} {O : oc} {j : Nat}, brM cl ch j bs O M → brM cl' ch' j bs O M := by
  intro bs
  induction bs with
  | nil =>
    intro O j h
    obtain ⟨a1, p, a2, a3, a4, a5, a6⟩ := h
    exact ⟨a1, p, a2, a3, a4, by omega, by omega⟩
  | cons b bs ih =>
    intro O j h
    obtain ⟨⟨a1, p, a2, a3, a4, a5, a6, a7, a8, a9, a11⟩, a10⟩ := h
    exact ⟨⟨a1, p, a2, a3, a4, a5, a6, a7, a8, by omega, by omega⟩, ih a10⟩
theorem brM_all {M A : mS} {cl ch : Nat} {bs : brs} {O : oc} {j : Nat} (h : brM cl ch j bs O M) (hf : ∀ a i, 85 ≤ a → a ≤ 91 → A.1 a i = M.1 a i) : brM cl ch j bs O A := brM_fr h (fun a i q1 q2 _ _ => hf a i q1 (by omega)) (fun a i q _ _ => hf a i (by omega) (by omega))
section
variable {N : Nat} {w : Nat → Int32}
theorem trm_1 {O : oc} {p : Nat} {M : mS} (hN : 1000 ≤ N) (hc : cdAt p O M) (hv : ∀ i, i < 9 → M.1 93 i = w i) (hO : bOk O) (hl : p + O.length ≤ 840) : match vl w O with
    | some x => ∃ B, Mo_termOf N (nI p) (nI (p + O.length)) M = some (x, B) ∧ B.1 64 47 = M.1 64 47 ∧ frV M B
    | none => ∃ r B, Mo_termOf N (nI p) (nI (p + O.length)) M = some (r, B) ∧ B.1 64 47 = 1 ∧ frV M B := by
  have k := term_M (N := N) (v := w) (f := N) (st := []) hc hv trivial hO hl (by show 0 ≤ 32; omega) (by omega)
  have e0 : Mo_termOf N (nI p) (nI (p + O.length)) M = Mo_termOf_5 N N (nI (p + O.length)) (nI ([] : List Int32).length) (nI p) M := rfl
  rw [e0]
  cases e : rn w [] O with
  | none =>
    rw [e] at k
    rw [vl_none e]
    exact ⟨0, k⟩
  | some st' =>
    rw [e] at k
    obtain ⟨k1, B, eB, pB, b47, fB⟩ := k
    obtain ⟨x, rfl⟩ := one_l k1
    rw [vl_some e]
    exact ⟨B, by rw [eB]; exact congrArg (fun q => some (q, B)) pB.1, b47, fB⟩
theorem t119_s {O : oc} {j p : Nat} {M : mS} (hN : 1000 ≤ N) (hj : j < 260) (h88 : M.1 88 j = nI p) (h89 : M.1 89 j = nI (p + O.length)) (hc : cdAt p O M) (hv : ∀ i, i < 9 → M.1 93 i = w i) (h47 : M.1 64 47 = 0) (hO : bOk O) (hl : p + O.length ≤ 840) : ∃ B, Mo_lawTells_119 N (nI j) M = some ((vl w O).getD 0, B) ∧ frV M B := by
  have k := trm_1 (N := N) hN hc hv hO hl
  unfold Mo_lawTells_119
  rw [grd_in hj (by omega), grd_in hj (by omega), clp (by omega), h88, h89]
  cases e : vl w O with
  | none =>
    rw [e] at k
    obtain ⟨r, B, eB, b47, fB⟩ := k
    exact ⟨B, by rw [eB, bWs, b47, if_neg (by decide)]; rfl, fB⟩
  | some x =>
    rw [e] at k
    obtain ⟨B, eB, b47, fB⟩ := k
    exact ⟨B, by rw [eB, bWs, b47, h47, if_pos rfl]; rfl, fB⟩
theorem tells_L {x cl ch : Nat} (hN : 1000 ≤ N) (hx : x < 8) (hch : ch ≤ 840) : ∀ {bs : brs} {O : oc} {j f : Nat} {M : mS}, brM cl ch j bs O M → M.1 84 x = nI (j + bs.length + 1) → j + bs.length < 260 → (∀ i, i < 9 → M.1 93 i = w i) → M.1 64 47 = 0 → lOk bs O → bs.length < f → ∃ B, Mo_lawTells_39 N f (nI x) (nI j) M = some (sayL w bs O, B) ∧ frV M B := by
  intro bs
  induction bs with
  | nil =>
    intro O j f M hb h84 hj hv h47 hO hf
    obtain ⟨f, rfl⟩ : ∃ g, f = g + 1 := ⟨f - 1, by omega⟩
    have l0 : ([] : brs).length = 0 := rfl
    obtain ⟨h1, p, h2, h3, h4, -, h5⟩ := hb
    obtain ⟨B, eB, fB⟩ := t119_s (N := N) (w := w) hN (by omega) h2 h3 h4 hv h47 hO.2 (by omega)
    refine ⟨B, ?_, fB⟩
    rw [Mo_lawTells_39, grd_in hx (by omega), clp (by omega), h84, if_neg (by rw [leP (by omega) (by omega)]; omega), grd_in (by omega) (by omega), clp (by omega), h1, if_pos rfl, eB]
    rfl
  | cons b bs ih =>
    intro O j f M hb h84 hj hv h47 hO hf
    obtain ⟨f, rfl⟩ : ∃ g, f = g + 1 := ⟨f - 1, by omega⟩
    obtain ⟨o1, o2, o3⟩ := b
    have l1 : ((o1, o2, o3) :: bs).length = bs.length + 1 := rfl
    obtain ⟨⟨h1, p, h2, h3, h4, h5, h6, h7, h8, -, h9⟩, h10⟩ := hb
    obtain ⟨q1, q2, q3⟩ := hO.1 (o1, o2, o3) (List.mem_cons_self ..)
    dsimp only at h2 h3 h4 h5 h6 h7 h8 h9 q1 q2 q3
    rw [sayL_c]
    dsimp only
    have k1 := trm_1 (N := N) (w := w) hN h6 hv q1 (by omega)
    have base : Mo_lawTells_39 N (f + 1) (nI x) (nI j) M = bW (Mo_termOf N (nI p) (nI (p + o1.length)) M) fun r12 M11 => grd (mIn (nI j) 260) (grd (mIn (nI j) 260) (bW (Mo_termOf N (M11.1 87 j) (M11.1 88 j) M11) fun r17 M16 => if (M16.1 64 47) = 0 then (if r12 < r17 then (Mo_lawTells_119 N (nI j) M16) else (Mo_lawTells_39 N f (nI x) (nI (j + 1)) M16)) else (some (0, M16)))) := by
      rw [Mo_lawTells_39, grd_in hx (by omega), clp (by omega), h84, if_neg (by rw [leP (by omega) (by omega)]; omega), grd_in (by omega) (by omega), clp (by omega), h1, if_neg (by decide), grd_in (by omega) (by omega), grd_in (by omega) (by omega), h2, h3, show nI j + 1 = nI (j + 1) from nI_add j 1]
    -- the second sum, from a memory B
    have two : ∀ (B : mS) (r : Int32), frV M B → Mo_termOf N (nI p) (nI (p + o1.length)) M = some (r, B) → Mo_lawTells_39 N (f + 1) (nI x) (nI j) M = bW (Mo_termOf N (nI (p + o1.length)) (nI (p + o1.length + o2.length)) B) fun r17 M16 => if (M16.1 64 47) = 0 then (if r < r17 then (Mo_lawTells_119 N (nI j) M16) else (Mo_lawTells_39 N f (nI x) (nI (j + 1)) M16)) else (some (0, M16)) := by
      intro B r fB eB
      rw [base, eB, bWs, grd_in (by omega) (by omega), grd_in (by omega) (by omega), fB.1 87 j (by omega) (by omega), fB.1 88 j (by omega) (by omega), h3, h4]
    cases e1 : vl w o1 with
    | none =>
      rw [e1] at k1
      obtain ⟨r, B, eB, b47, fB⟩ := k1
      have k2 := trm_1 (N := N) (w := w) hN (fB.cd h7) (fun i hi => (fB.1 93 i (by omega) (by omega)).trans (hv i hi)) q2 (by omega)
      cases e2 : vl w o2 with
      | none =>
        rw [e2] at k2
        obtain ⟨r2, C, eC, c47, fC⟩ := k2
        exact ⟨C, by rw [two B r fB eB, eC, bWs, c47, if_neg (by decide)], fB.trans fC⟩
      | some y =>
        rw [e2] at k2
        obtain ⟨C, eC, c47, fC⟩ := k2
        exact ⟨C, by rw [two B r fB eB, eC, bWs, c47, b47, if_neg (by decide)], fB.trans fC⟩
    | some u =>
      rw [e1] at k1
      obtain ⟨B, eB, b47, fB⟩ := k1
      have k2 := trm_1 (N := N) (w := w) hN (fB.cd h7) (fun i hi => (fB.1 93 i (by omega) (by omega)).trans (hv i hi)) q2 (by omega)
      dsimp only
      cases e2 : vl w o2 with
      | none =>
        rw [e2] at k2
        obtain ⟨r2, C, eC, c47, fC⟩ := k2
        exact ⟨C, by rw [two B u fB eB, eC, bWs, c47, if_neg (by decide)], fB.trans fC⟩
      | some y =>
        rw [e2] at k2
        obtain ⟨C, eC, c47, fC⟩ := k2
        have fBC := fB.trans fC
        have c470 : C.1 64 47 = 0 := c47.trans (b47.trans h47)
        have eb := two B u fB eB
        rw [eC, bWs, c470, if_pos rfl] at eb
        dsimp only
        by_cases z : u < y
        · rw [if_pos z] at eb
          rw [if_pos z]
          obtain ⟨D, eD, fD⟩ := t119_s (N := N) (w := w) (j := j) (M := C) hN (by omega) ((fBC.1 88 j (by omega) (by omega)).trans h4) ((fBC.1 89 j (by omega) (by omega)).trans h5) (fBC.cd h8) (fun i hi => (fBC.1 93 i (by omega) (by omega)).trans (hv i hi)) c470 q3 (by omega)
          exact ⟨D, eb.trans eD, fBC.trans fD⟩
        · rw [if_neg z] at eb
          rw [if_neg z]
          obtain ⟨D, eD, fD⟩ := ih (O := O) (j := j + 1) (f := f) (M := C) (brM_all h10 (fun a i qa qi => fBC.1 a i (by omega) (by omega))) (by rw [fBC.1 84 x (by omega) (by omega), h84, l1]; exact congrArg nI (by omega)) (by omega) (fun i hi => (fBC.1 93 i (by omega) (by omega)).trans (hv i hi)) c470 ⟨fun a ha => hO.1 a (List.mem_cons_of_mem _ ha), hO.2⟩ (by omega)
          exact ⟨D, eb.trans eD, fBC.trans fD⟩
end
/-! THE BOOK of the laws: what was told, if anything -/
abbrev bok : Type := Nat → Option (brs × oc)
def dfl (k : Nat) : oc := if k = 1 then [(1, 4)] else if k = 3 then [(0, 0)] else [(0, 1)]
def bkB (tol : bok) (k : Nat) : brs := match tol k with
  | some x => x.1
  | none => []
def bkO (tol : bok) (k : Nat) : oc := match tol k with
  | some x => x.2
  | none => dfl k
def bkL (tol : bok) (k : Nat) (v : Nat → Int32) : Int32 := sayL v (bkB tol k) (bkO tol k)
theorem dfl_ok (k : Nat) : lOk [] (dfl k) := by
  refine ⟨(fun x hx => by cases hx), ?_⟩
  unfold bOk dfl
  split
  · decide
  · split <;> decide
/-- the model's book on side v: branches below nb, code below c -/
def BM (v : Nat) (tol : bok) (nb c : Nat) (M : mS) : Prop := ∀ k, k < 4 → match tol k with
  | none => M.1 83 (4 * v + k) = 0 ∧ M.1 84 (4 * v + k) = 0
  | some x => lOk x.1 x.2 ∧ ∃ j, M.1 83 (4 * v + k) = nI j ∧ M.1 84 (4 * v + k) = nI (j + x.1.length + 1) ∧ 130 * v ≤ j ∧ j + x.1.length < nb ∧ brM (420 * v) c j x.1 x.2 M
theorem BM_fr {v nb c : Nat} {tol : bok} {M A : mS} (h : BM v tol nb c M) (h1 : ∀ a j, (a = 83 ∨ a = 84) → 4 * v ≤ j → j < 4 * v + 4 → A.1 a j = M.1 a j) (h2 : ∀ a i, 85 ≤ a → a ≤ 89 → 130 * v ≤ i → i < nb → A.1 a i = M.1 a i) (h3 : ∀ a i, (a = 90 ∨ a = 91) → 420 * v ≤ i → i < c → A.1 a i = M.1 a i) : BM v tol nb c A := by
  intro k hk
  have hb := h k hk
  cases e : tol k with
  | none =>
    rw [e] at hb
    exact ⟨(h1 83 _ (by omega) (by omega) (by omega)).trans hb.1, (h1 84 _ (by omega) (by omega) (by omega)).trans hb.2⟩
  | some x =>
    rw [e] at hb
    obtain ⟨hO, j, g1, g2, g3, g4, g5⟩ := hb
    exact ⟨hO, j, (h1 83 _ (by omega) (by omega) (by omega)).trans g1, (h1 84 _ (by omega) (by omega) (by omega)).trans g2, g3, g4, brM_fr g5 (fun a i q1 q2 q3 q4 => h2 a i q1 q2 (by omega) (by omega)) h3⟩
theorem BM_say {N v k nb c : Nat} {tol : bok} {w : Nat → Int32} {M : mS} (hN : 1000 ≤ N) (hv : v < 2) (hk : k < 4) (h : BM v tol nb c M) (hnb : nb ≤ 130 * v + 130) (hc : c ≤ 420 * v + 420) (h18 : M.1 64 18 = nI v) (hw : ∀ i, i < 9 → M.1 93 i = w i) : ∃ B : mS, Mo_lawTells N (nI k) (if k = 1 then w 4 else if k = 3 then 0 else 1) M = some (bkL tol k w, B) ∧ (∀ a j, a ≠ 94 → (a ≠ 64 ∨ j ≠ 47) → B.1 a j = M.1 a j) ∧ B.2 = M.2 := by
  have hb := h k hk
  have base : ∀ d : Int32, Mo_lawTells N (nI k) d M = if M.1 83 (4 * v + k) = M.1 84 (4 * v + k) then some (d, M) else Mo_lawTells_39 N N (nI (4 * v + k)) (M.1 83 (4 * v + k)) (mWI M 64 47 0) := fun d => by
    unfold Mo_lawTells
    rw [h18, show (4 : Int32) * nI v = nI (4 * v) from pk_mul 4 v, nI_add, nxs, grd_in (by omega) (by omega), grd_in (by omega) (by omega), clp (by omega), nxs, grd_in (by omega) (by omega), nxs, mWI_ne (by omega)]
  unfold bkL bkB bkO
  cases e : tol k with
  | none =>
    rw [e] at hb
    obtain ⟨h1, h2⟩ := hb
    refine ⟨M, ?_, fun _ _ _ _ => rfl, rfl⟩
    rw [base, h1, h2, if_pos rfl]
    have hk4 : k = 0 ∨ k = 1 ∨ k = 2 ∨ k = 3 := by omega
    rcases hk4 with rfl | rfl | rfl | rfl <;> rfl
  | some x =>
    rw [e] at hb
    obtain ⟨hO, j, h1, h2, hj, h3, h4⟩ := hb
    obtain ⟨B, eB, fB⟩ := tells_L (N := N) (w := w) (x := 4 * v + k) (f := N) (M := mWI M 64 47 0) hN (by omega) (show c ≤ 840 by omega) (brM_all h4 (fun a i qa qi => by rw [mWI_ne (by omega)])) (by rw [mWI_ne (by omega)]; exact h2) (by omega) (fun i hi => by rw [mWI_ne (by omega)]; exact hw i hi) (rI rfl) hO (by omega)
    refine ⟨B, ?_, fun a i qa qi => by rw [fB.1 a i qa qi, rN qi], by rw [fB.2]; rfl⟩
    rw [base, if_neg (by rw [h1, h2, eqP (by omega) (by omega)]; omega), h1, eB]
/-- the class's book, in cells h s t -/
def BC (h s t : Nat) (tol : bok) (M : mS) : Prop := ∃ z, z ≤ 408 ∧ M.1 h 4 = nI z ∧ ∀ k, k < 4 → lOk (bkB tol k) (bkO tol k) ∧ bt (M.1 h 5) k = chL (lcd 0 (bkB tol k) (bkO tol k)) ∧ ∃ p, M.1 t k = nI p ∧ p + (lcd p (bkB tol k) (bkO tol k)).length ≤ z ∧ cdC s p (lcd p (bkB tol k) (bkO tol k)) M
theorem chL_lcd {p q : Nat} : ∀ {bs : brs} {O : oc}, chL (lcd p bs O) = chL (lcd q bs O) := by
  intro bs
  induction bs generalizing p q with
  | nil => intro O; rfl
  | cons b bs ih =>
    intro O
    rw [lcd_c, lcd_c]
    simp only [chL_app, chL_cons]
    rw [ih (p := p + b.1.length + b.2.1.length + b.2.2.length + 2) (q := q + b.1.length + b.2.1.length + b.2.2.length + 2)]
    rfl
theorem BC_say {N k : Nat} {tol : bok} {v : Nat → Int32} {M : mS} (hN : 1000 ≤ N) (hk : k < 4) (h : BC 4 6 7 tol M) (hv : ∀ i, i < 9 → M.1 5 i = v i) : ∃ B : mS, La_say N (nI k) M = some (bkL tol k v, B) ∧ (∀ a j, a ≠ 8 → B.1 a j = M.1 a j) ∧ B.2 = M.2 := by
  obtain ⟨z, hz, h4, hb⟩ := h
  obtain ⟨hO, -, p, h7, hl, hc⟩ := hb k hk
  obtain ⟨B, eB, fB⟩ := say_L (N := N) (v := v) (f := N) hz h4 hc hv hO hl (by omega)
  refine ⟨B, ?_, fB.1, fB.2⟩
  unfold La_say
  rw [grd_in hk (by omega), clp (by omega), h7, nxs]
  exact eB
theorem BC_ch {k : Nat} {tol : bok} {M : mS} (hk : k < 4) (h : BC 4 6 7 tol M) (hc : La_changes (nI k) M = 0) {v w : Nat → Int32} (hv : ∀ i, i < 9 → i ≠ 0 → i ≠ 1 → i ≠ 5 → v i = w i) : bkL tol k v = bkL tol k w := by
  obtain ⟨z, hz, h4, hb⟩ := h
  obtain ⟨hO, hx, -⟩ := hb k hk
  refine sayL_same hv hO (p := 0) ?_
  rw [← hx]
  unfold La_changes at hc
  by_cases y : (((M.1 4 5) >>> (nI k &&& 31)) &&& 1) = 0
  · have e : bt (((M.1 4 5) >>> (nI k &&& 31)) &&& 1) 0 = bt 0 0 := congrArg (fun q => bt q 0) y
    rw [b_0, b_and, b_sshr k (by omega) _ (by omega), if_pos (by omega), Nat.add_zero, show bt 1 0 = true from rfl, Bool.and_true] at e
    exact e
  · rw [if_neg y] at hc
    exact absurd hc (by decide)
