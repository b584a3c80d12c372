/-! A TELL read: the class -/
def BD (h s t : Nat) (tol : bok) (z : Nat) (M : mS) : Prop := M.1 h 4 = nI z ∧ ∀ k, k < 4 → lOk (bkB tol k) (bkO tol k) ∧ bt (M.1 h 5) k = chL (lcd 0 (bkB tol k) (bkO tol k)) ∧ ∃ p, M.1 t k = nI p ∧ p + (lcd p (bkB tol k) (bkO tol k)).length ≤ z ∧ cdC s p (lcd p (bkB tol k) (bkO tol k)) M
theorem BD.BC {h s t z : Nat} {tol : bok} {M : mS} (hz : z ≤ 408) (g : BD h s t tol z M) : BC h s t tol M := ⟨z, hz, g⟩
theorem cdC_lt {a p : Nat} {O : oc} {M A : mS} (h : cdC a p O M) (hf : ∀ j, j < p + O.length → A.1 a j = M.1 a j) : cdC a p O A := fun i x hx => by
  have hi : i < O.length := by
    apply Classical.byContradiction
    intro q
    rw [List.getElem?_eq_none (by omega)] at hx
    cases hx
  rw [hf _ (by omega)]
  exact h i x hx
theorem BD_fr {h s t z : Nat} {tol : bok} {M A : mS} (g : BD h s t tol z M) (hf : ∀ a j, (a = h ∨ a = s ∨ a = t) → A.1 a j = M.1 a j) : BD h s t tol z A := by
  refine ⟨(hf h 4 (by omega)).trans g.1, fun k hk => ?_⟩
  obtain ⟨g1, g2, p, g3, g4, g5⟩ := g.2 k hk
  exact ⟨g1, by rw [hf h 5 (by omega)]; exact g2, p, (hf t k (by omega)).trans g3, g4, cdC_fr g5 (fun j => hf s j (by omega))⟩
theorem bit_k : ∀ k, k < 4 → ∀ j, j < 4 → bt ((1 : Int32) <<< (nI k &&& 31)) j = decide (j = k) := by decide +kernel
theorem bit_c0 {x fb : Int32} {k j : Nat} (hfb : fb = (1 : Int32) <<< (nI k &&& 31)) (hk : k < 4) (hj : j < 4) : bt (x &&& (fb ^^^ (-1))) j = (bt x j && !decide (j = k)) := by
  rw [b_and, b_xor, b_m1 j (by omega), hfb, bit_k k hk j hj]
  cases decide (j = k) <;> rfl
section
variable {N : Nat} {T : ctx} {M : mS} {t : Nat} {s e : Nat × Nat} {tol : bok} {z k : Nat}
theorem open_s (hk : k < 4) : ∃ A, La_open N (nI k) M = some A ∧ A.1 16 6 = nI k ∧ A.1 19 k = M.1 16 4 ∧ A.1 16 5 = (M.1 16 5 &&& (((1 : Int32) <<< (nI k &&& 31)) ^^^ (-1))) ∧ (∀ a j, (a ≠ 16 ∨ (j ≠ 5 ∧ j ≠ 6)) → (a ≠ 19 ∨ j ≠ k) → A.1 a j = M.1 a j) ∧ A.2 = M.2 := by
  refine ⟨mWI (mWI (mWI M 16 6 (nI k)) 19 k (M.1 16 4)) 16 5 (M.1 16 5 &&& (((1 : Int32) <<< (nI k &&& 31)) ^^^ (-1))), ?_, ?_, ?_, rI rfl, fun a j q1 q2 => ?_, rfl⟩
  · unfold La_open
    rw [if_neg (nI_pos (by omega)), if_neg (by rw [show (4 : Int32) = nI 4 from rfl, leP (by omega) (by omega)]; omega), nxs, grd_in hk (by omega), clp (by omega), rN (by omega), nxs, mWI_ne (by omega), rN (by omega), nxs]
  · rw [rN (by omega), mWI_ne (by omega), rI rfl]
  · rw [mWI_ne (by omega), rI rfl]
  · rw [rN (by omega), rN (by omega), rN (by omega)]
/-- what a law's reading may write -/
def frW2 (M A : mS) : Prop := (∀ a j, a ≠ 14 → a ≠ 33 → a ≠ 16 → a ≠ 18 → a ≠ 19 → A.1 a j = M.1 a j) ∧ A.2 = M.2
theorem readLaw_C (hN : 5000 ≤ N) (hT : TF T) (h : NC T t s M) (hB : BD 16 18 19 tol z M) (hz : z ≤ 7 + t) (hk : k < 4) : match eB (aT T t 23) fun t1 => aLw T 4 t1 with
    | .ok (u, x) => t + 1 ≤ u ∧ ∃ A z', Rr_readLaw N (nI k) M = some A ∧ NC T u s A ∧ BD 16 18 19 (upN tol k (some x)) z' A ∧ z' ≤ 7 + u ∧ frW2 M A
    | .error e => ∃ A, Rr_readLaw N (nI k) M = some A ∧ FC T e A ∧ frR M A := by
  have c2 := hT.2.1
  have ht := h.2.1
  have tk := rtake_s (N := N) hT h (a := 23) (by omega)
  unfold Rr_readLaw
  cases ea : aT T t 23 with
  | error e =>
    rw [ea] at tk
    obtain ⟨A, eA, fA, rA⟩ := tk
    obtain ⟨B, eB1, b1, b2, b3, b4, b5⟩ := open_s (N := N) (M := A) hk
    have fr : frR A B := ⟨fun a j q => b4 a j (by omega) (by omega), fun a j _ _ => by rw [b5]⟩
    have fz : FZ T e B := ⟨fA.fr fr (b4 14 8 (by omega) (by omega)) (b4 14 9 (by omega) (by omega)), z, by omega, by rw [b4 16 4 (by omega) (by omega), rA.1 16 4 (by omega)]; exact hB.1⟩
    obtain ⟨C, eC, fC, rC⟩ := l20_f (N := N) (f := N) (i := 0) hN hT (by omega) (by omega) B fz
    exact ⟨C, by rw [show (23 : Int32) = nI 23 from rfl, eA, bWs, eB1, bVs]; exact eC, fC.1, (rA.frS.frR.trans fr).trans rC⟩
  | ok u =>
    rw [ea] at tk
    obtain ⟨rfl, k0, A, eA, nA, rA⟩ := tk
    rw [eB_o]
    obtain ⟨B, eB1, b1, b2, b3, b4, b5⟩ := open_s (N := N) (M := A) hk
    have fr : frR A B := ⟨fun a j q => b4 a j (by omega) (by omega), fun a j _ _ => by rw [b5]⟩
    have nB : NC T (t + 1) s B := nA.fr fr (fun j _ _ => b4 14 j (by omega) (by omega))
    have aM : ∀ a j, a ≠ 14 → A.1 a j = M.1 a j := fun a j q => rA.1 a j (by omega)
    have cB : cdF z [] (M.1 16 5 &&& (((1 : Int32) <<< (nI k &&& 31)) ^^^ (-1))) ((1 : Int32) <<< (nI k &&& 31)) B := ⟨⟨by rw [b4 16 4 (by omega) (by omega), aM 16 4 (by omega)]; exact hB.1, fun i x hx => by cases hx⟩, by rw [b1], by rw [b3, aM 16 5 (by omega)]; rfl⟩
    have go := law_l (N := N) (n := 4) (f := N) (i := 0) hN hT (by omega) (by omega) nB cB (by show z + 0 ≤ 6 + (t + 1); omega)
    have base : (bW (Rr_take N 23 M) fun r42 M41 => bV (La_open N (nI k) M41) fun M45 => Rr_readLaw_20 N N 0 M45) = Rr_readLaw_20 N N (nI 0) B := by
      rw [show (23 : Int32) = nI 23 from rfl, eA, bWs, eB1, bVs]; rfl
    rw [base]
    cases el : aLw T 4 (t + 1) with
    | error e =>
      rw [el] at go
      obtain ⟨C, eC, fC, rC⟩ := go
      exact ⟨C, eC, fC.1, (rA.frS.frR.trans fr).trans rC⟩
    | ok r =>
      obtain ⟨u, bs, O⟩ := r
      rw [el] at go
      obtain ⟨C, eC, ⟨g1, g2, g3, g4, g5⟩, rC⟩ := go
      have g1 : t + 1 ≤ u := g1
      have g4 : cdF z (lcd z bs O) (M.1 16 5 &&& (((1 : Int32) <<< (nI k &&& 31)) ^^^ (-1))) ((1 : Int32) <<< (nI k &&& 31)) C := g4
      have g5 : z + (lcd z bs O).length ≤ 7 + u := g5
      refine ⟨g1, C, z + (lcd z bs O).length, eC, g2, ⟨g4.1.1, fun i hi => ?_⟩, g5, ⟨fun a j q1 q2 q3 q4 q5 => by rw [rC.1 a j q1 q2 (by omega) (by omega), b4 a j (by omega) (by omega), aM a j q1], by rw [rC.2, b5, rA.2]⟩⟩
      by_cases y : i = k
      · subst y
        have e1 : bkB (upN tol i (some (bs, O))) i = bs := by unfold bkB; rw [upN_s]
        have e2 : bkO (upN tol i (some (bs, O))) i = O := by unfold bkO; rw [upN_s]
        rw [e1, e2]
        refine ⟨g3, ?_, z, ?_, Nat.le_refl _, g4.1.2⟩
        · rw [g4.2.2, chL_lcd (p := 0) (q := z)]
          cases q : chL (lcd z bs O)
          · rw [if_neg (by decide), bit_c0 rfl hi hi]; simp
          · rw [if_pos rfl, b_or, bit_k i hi i hi]; simp
        · rw [rC.1 19 i (by omega) (by omega) (by omega) (by omega), b2, aM 16 4 (by omega)]; exact hB.1
      · have e1 : bkB (upN tol k (some (bs, O))) i = bkB tol i := by unfold bkB; rw [upN_n y]
        have e2 : bkO (upN tol k (some (bs, O))) i = bkO tol i := by unfold bkO; rw [upN_n y]
        rw [e1, e2]
        obtain ⟨w1, w2, p, w3, w4, w5⟩ := hB.2 i hi
        refine ⟨w1, ?_, p, ?_, by omega, cdC_lt w5 (fun j hj => ?_)⟩
        · rw [← w2, g4.2.2]
          cases q : chL (lcd z bs O)
          · rw [if_neg (by decide), bit_c0 rfl hk hi]; simp [y]
          · rw [if_pos rfl, b_or, bit_k k hk i hi, bit_c0 rfl hk hi]; simp [y]
        · rw [rC.1 19 i (by omega) (by omega) (by omega) (by omega), b4 19 i (by omega) (by omega), aM 19 i (by omega)]; exact w3
        · rw [rC.1 18 j (by omega) (by omega) (by omega) (by omega), b4 18 j (by omega) (by omega), aM 18 j (by omega)]
/-! ONE TELL, for both -/
def aTell (T : ctx) (d : drf) (tol : bok) (t : Nat) (s : Nat × Nat) : Except (Nat × Nat) (tst × bok) :=
  if cK T t = 0 then eB (aEnd T (aHo T d t s)) fun r => .ok (r, tol)
  else if cK T t = 1 then eB (aEnd T (aDi T d t s)) fun r => .ok (r, tol)
  else if cK T t = 2 then eB (aEnd T (aGo T d t s)) fun r => .ok (r, tol)
  else if cK T t = 7 then eB (aEnd T (aSe T d t s)) fun r => .ok (r, tol)
  else if 3 ≤ cK T t ∧ cK T t ≤ 6 then (eB (aT T t (cK T t)) fun t1 => eB (eB (aT T t1 23) fun t2 => aLw T 4 t2) fun r => eB (aT T r.1 22) fun u => .ok ((u, s, d), upN tol (cK T t - 3) (some r.2)))
  else .error (1, t)
/-- the class at token t -/
def KC (T : ctx) (t : Nat) (s : Nat × Nat) (d : drf) (tol : bok) (M : mS) : Prop := NC T t s M ∧ DC d M ∧ ∃ z, BD 16 18 19 tol z M ∧ z ≤ 8 + t
def gTell (T : ctx) (t : Nat) (M : mS) (x : Except (Nat × Nat) (tst × bok)) (res : Option mS) : Prop := match x with
  | .ok (r, tol') => t + 1 ≤ r.1 ∧ ∃ A, res = some A ∧ KC T r.1 r.2.1 r.2.2 tol' A ∧ frR M A
  | .error e => ∃ A, res = some A ∧ FC T e A ∧ frR M A
/-- the ending sign -/
theorem end_C {d : drf} {u : Nat} {A : mS} (hT : TF T) (h : NC T u s A) (hd : DC d A) (hB : BD 16 18 19 tol z A) (hz : z ≤ 8 + u) (ht : t ≤ u) (fr : frR M A) : gTell T t M (eB (aT T u 22) fun w => .ok ((w, s, d), tol)) (Rr_readTell_110 N A) := by
  have tk := rtake_s (N := N) hT h (a := 22) (by omega)
  unfold Rr_readTell_110 gTell
  rw [show (22 : Int32) = nI 22 from rfl]
  cases ea : aT T u 22 with
  | error e =>
    rw [ea] at tk
    obtain ⟨B, e1, e2, e3⟩ := tk
    exact ⟨B, by rw [e1, bWs], e2, fr.trans e3.frS.frR⟩
  | ok w =>
    rw [ea] at tk
    obtain ⟨rfl, k0, B, e1, e2, e3⟩ := tk
    refine ⟨by show t + 1 ≤ u + 1; omega, B, by rw [e1, bWs], ⟨e2, e3.frS.DC hd, z, BD_fr hB (fun a j q => e3.1 a j (by omega)), by show z ≤ 8 + (u + 1); omega⟩, fr.trans e3.frS.frR⟩
theorem endf_C {u : Nat} {A : mS} (h : FC T e A) (fr : frR M A) : ∃ B, Rr_readTell_110 N A = some B ∧ FC T e B ∧ frR M B := by
  unfold Rr_readTell_110
  exact ⟨A, by rw [take_f h, bWs], h, fr⟩
/-- one of the four plain tells, with its end -/
theorem plain_C {d : drf} {x : Except (Nat × Nat) tst} {K : mS → Option mS} {X : Option mS} (hT : TF T) (hB : BD 16 18 19 tol z M) (hz : z ≤ 8 + t) (hK : X = bV (K M) fun A => Rr_readTell_110 N A) (hx : match x with
    | .ok (u, s', d') => ∃ A, K M = some A ∧ NC T u s' A ∧ DC d' A ∧ frY M A
    | .error e => ∃ A, K M = some A ∧ FC T e A ∧ frY M A) (hu : ∀ r, x = .ok r → t ≤ r.1) : gTell T t M (eB (aEnd T x) fun r => .ok (r, tol)) X := by
  unfold aEnd
  cases x with
  | error e =>
    obtain ⟨A, e1, e2, e3⟩ := hx
    rw [hK, e1, bVs]
    exact endf_C (u := 0) e2 e3.frR
  | ok r =>
    obtain ⟨u, s', d'⟩ := r
    obtain ⟨A, e1, e2, e3, e4⟩ := hx
    rw [hK, e1, bVs, eB_o]
    have tu : t ≤ u := hu _ rfl
    have := end_C (N := N) (tol := tol) (z := z) (M := M) (t := t) hT e2 e3 (BD_fr hB (fun a j q => e4.1 a j (by omega) (by omega) (by omega))) (by omega) tu e4.frR
    cases ea : aT T u 22 with
    | error e => rw [ea] at this; exact this
    | ok w => rw [ea] at this; exact this
theorem aT_u {a u : Nat} (h : aT T t a = .ok u) : u = t + 1 := by
  unfold aT at h
  split at h
  · split at h
    · injection h with h; exact h.symm
    · cases h
  · cases h
theorem aI_u {lo hi : Nat} {r : Nat × Nat × (Nat × Nat)} (h : aI T lo hi t s = .ok r) : r.2.1 = t + 1 := by
  unfold aI at h
  cases ea : aT T t 21 with
  | error e => rw [ea] at h; cases h
  | ok w =>
    rw [ea] at h
    injection h with h
    rw [← h]; exact aT_u ea
theorem aNw_u {d : drf} {r : List Nat × Nat × (Nat × Nat)} (h : aNw T d t s = .ok r) : r.2.1 = t + 1 := by
  unfold aNw at h
  cases ea : aT T t 20 with
  | error e => rw [ea] at h; cases h
  | ok w =>
    rw [ea] at h
    injection h with h
    rw [← h]; exact aT_u ea
theorem aKn_u {d : drf} {r : Nat × Nat × (Nat × Nat)} (h : aKn T d t s = .ok r) : r.2.1 = t + 1 := by
  unfold aKn at h
  cases ea : aT T t 20 with
  | error e => rw [ea] at h; cases h
  | ok w =>
    rw [ea] at h
    have h : (if fnd (dNm d) (dD d) (cW T t) < dD d then Except.ok (fnd (dNm d) (dD d) (cW T t), w, s) else Except.ok (0, w, sAdd s 4 (cP T t))) = (Except.ok r : Except (Nat × Nat) _) := h
    split at h
    · injection h with h
      rw [← h]; exact aT_u ea
    · injection h with h
      rw [← h]; exact aT_u ea
theorem aHo_u {d : drf} {r : tst} (h : aHo T d t s = .ok r) : t ≤ r.1 := by
  unfold aHo at h
  obtain ⟨t1, h1, h⟩ := eB_ok h
  obtain ⟨x, h2, h⟩ := eB_ok h
  injection h with h
  rw [← h]
  have := aT_u h1
  have := aI_u h2
  show t ≤ x.2.1
  omega
theorem aSe_u {d : drf} {r : tst} (h : aSe T d t s = .ok r) : t ≤ r.1 := by
  unfold aSe at h
  obtain ⟨t1, h1, h⟩ := eB_ok h
  obtain ⟨x, h2, h⟩ := eB_ok h
  injection h with h
  rw [← h]
  have := aT_u h1
  have := aI_u h2
  show t ≤ x.2.1
  omega
theorem aDi_u {d : drf} {r : tst} (h : aDi T d t s = .ok r) : t ≤ r.1 := by
  unfold aDi at h
  split at h
  · obtain ⟨t1, h1, h⟩ := eB_ok h
    obtain ⟨n, h2, h⟩ := eB_ok h
    obtain ⟨x, h3, h⟩ := eB_ok h
    obtain ⟨y, h4, h⟩ := eB_ok h
    injection h with h
    rw [← h]
    have := aT_u h1
    have := aNw_u h2
    have := aI_u h3
    have := aI_u h4
    show t ≤ y.2.1
    omega
  · cases h
theorem aGo_u {d : drf} {r : tst} (h : aGo T d t s = .ok r) : t ≤ r.1 := by
  unfold aGo at h
  split at h
  · obtain ⟨t1, h1, h⟩ := eB_ok h
    obtain ⟨n, h2, h⟩ := eB_ok h
    obtain ⟨k, h5, h⟩ := eB_ok h
    obtain ⟨x, h3, h⟩ := eB_ok h
    obtain ⟨y, h4, h⟩ := eB_ok h
    injection h with h
    rw [← h]
    have := aT_u h1
    have := aNw_u h2
    have := aKn_u h5
    have := aI_u h3
    have := aI_u h4
    show t ≤ y.2.1
    omega
  · cases h
theorem tell_C {d : drf} (hN : 5000 ≤ N) (hT : TF T) (h : KC T t s d tol M) : gTell T t M (aTell T d tol t s) (Rr_readTell N M) := by
  obtain ⟨hn, hd, z, hB, hz⟩ := h
  have c2 := hT.2.1
  have hk := hT.2.2.1 t
  have ht := hn.2.1
  have ne : ∀ k, k < 100 → cK T t ≠ k → ¬ nI (cK T t) = nI k := fun k hk2 q => by rw [eqP (by omega) (by omega)]; exact q
  unfold aTell Rr_readTell
  rw [hn.2.2.1, kindOf_s hT hn.1 hn.2.1, bRs]
  by_cases z0 : cK T t = 0
  · rw [if_pos z0, if_pos (by rw [z0]; rfl)]
    exact plain_C (K := Rr_readHours N) (d := d) hT hB hz rfl (hours_C hT hn hd) (fun r => aHo_u)
  · rw [if_neg z0, if_neg (show ¬ nI (cK T t) = 0 from ne 0 (by omega) z0)]
    by_cases z1 : cK T t = 1
    · rw [if_pos z1, if_pos (by rw [z1]; rfl)]
      exact plain_C (K := Rr_readDial N) (d := d) hT hB hz rfl (dial_C hN hT hn hd) (fun r => aDi_u)
    · rw [if_neg z1, if_neg (show ¬ nI (cK T t) = 1 from ne 1 (by omega) z1)]
      by_cases z2 : cK T t = 2
      · rw [if_pos z2, if_pos (by rw [z2]; rfl)]
        exact plain_C (K := Rr_readGoer N) (d := d) hT hB hz rfl (goer_C hN hT hn hd) (fun r => aGo_u)
      · rw [if_neg z2, if_neg (show ¬ nI (cK T t) = 2 from ne 2 (by omega) z2)]
        by_cases z7 : cK T t = 7
        · rw [if_pos z7, if_pos (by rw [z7]; rfl)]
          have se := seed_C (N := N) (K := fun A => some A) hT hn hd
          refine plain_C (N := N) (K := fun M => bW (Rr_take N 7 M) fun _ M16 => bW (Rr_takeInt N 0 9999 M16) fun r21 M20 => nxt (mWI M20 15 9 r21) fun A => some A) (d := d) hT hB hz ?_ se (fun r => aSe_u)
          cases Rr_take N 7 M with
          | none => rfl
          | some q =>
            obtain ⟨q1, q2⟩ := q
            rw [bWs, bWs]
            cases Rr_takeInt N 0 9999 q2 with
            | none => rfl
            | some q => rfl
        · rw [if_neg z7, if_neg (show ¬ nI (cK T t) = 7 from ne 7 (by omega) z7)]
          by_cases zl : 3 ≤ cK T t ∧ cK T t ≤ 6
          · rw [if_pos zl, if_neg (by rw [show (3 : Int32) = nI 3 from rfl, ltP (by omega) (by omega)]; omega), if_neg (by rw [show (6 : Int32) = nI 6 from rfl, ltP (by omega) (by omega)]; omega), show nI (cK T t) - 3 = nI (cK T t - 3) from sbP (b := 3) (by omega)]
            have tk := rtake_s (N := N) hT hn (a := cK T t) (by omega)
            cases ea : aT T t (cK T t) with
            | error e =>
              rw [ea] at tk
              obtain ⟨A, eA, fA, rA⟩ := tk
              rw [eA, bWs, eB_e]
              -- the law behind a fault
              have e1 : ∃ B, Rr_readLaw N (nI (cK T t - 3)) A = some B ∧ FC T e B ∧ frR A B := by
                obtain ⟨B, eB1, b1, b2, b3, b4, b5⟩ := open_s (N := N) (M := A) (k := cK T t - 3) (by omega)
                have fr : frR A B := ⟨fun a j q => b4 a j (by omega) (by omega), fun a j _ _ => by rw [b5]⟩
                have fz : FZ T e B := ⟨fA.fr fr (b4 14 8 (by omega) (by omega)) (b4 14 9 (by omega) (by omega)), z, by omega, by rw [b4 16 4 (by omega) (by omega), rA.1 16 4 (by omega)]; exact hB.1⟩
                obtain ⟨C, eC, fC, rC⟩ := l20_f (N := N) (f := N) (i := 0) hN hT (by omega) (by omega) B fz
                exact ⟨C, by unfold Rr_readLaw; rw [take_f fA, bWs, eB1, bVs]; exact eC, fC.1, fr.trans rC⟩
              obtain ⟨B, e2, e3, e4⟩ := e1
              rw [e2, bVs]
              exact endf_C (u := 0) e3 (rA.frS.frR.trans e4)
            | ok u =>
              rw [ea] at tk
              obtain ⟨rfl, k0, A, eA, nA, rA⟩ := tk
              rw [eA, bWs, eB_o]
              have lw := readLaw_C (N := N) (k := cK T t - 3) hN hT nA (BD_fr hB (fun a j q => rA.1 a j (by omega))) (show z ≤ 7 + (t + 1) by omega) (by omega)
              cases el : (eB (aT T (t + 1) 23) fun t2 => aLw T 4 t2) with
              | error e =>
                rw [el] at lw
                obtain ⟨B, e2, e3, e4⟩ := lw
                rw [e2, bVs, eB_e]
                exact endf_C (u := 0) e3 (rA.frS.frR.trans e4)
              | ok r =>
                obtain ⟨u, x⟩ := r
                rw [el] at lw
                obtain ⟨tu, B, z', e2, e3, e4, e5, e6⟩ := lw
                rw [e2, bVs, eB_o]
                have dB : DC d B := DC_fr (rA.frS.DC hd) (fun a j q => e6.1 a j (by omega) (by omega) (by omega) (by omega) (by omega)) (fun a j _ => by rw [e6.2])
                have fr : frR A B := ⟨fun a j q => e6.1 a j (by omega) (by omega) (by omega) (by omega) (by omega), fun a j _ _ => by rw [e6.2]⟩
                exact end_C (N := N) (t := t) hT e3 dB e4 (by omega) (by omega) (rA.frS.frR.trans fr)
          · rw [if_neg zl]
            have ff : Rr_readTell_105 N M = some (mWI M 14 9 1) := by
              have fC : FC T (1, t) (mWI M 14 9 1) := ⟨(frR.refl.wI (by omega)).TC hn.1, hn.2.1, by omega, by omega, by rw [rN (by omega)]; exact hn.2.2.1, rI rfl⟩
              unfold Rr_readTell_105 Rr_readTell_110 Rr_failForm
              rw [if_pos hn.2.2.2.1, nxs, bVs, take_f fC, bWs]
            have fr : frR M (mWI M 14 9 1) := frR.refl.wI (by omega)
            refine ⟨mWI M 14 9 1, ?_, ⟨fr.TC hn.1, hn.2.1, by omega, by omega, by rw [rN (by omega)]; exact hn.2.2.1, rI rfl⟩, fr⟩
            by_cases y : cK T t < 3
            · rw [if_pos (by rw [show (3 : Int32) = nI 3 from rfl, ltP (by omega) (by omega)]; exact y), ff]
            · rw [if_neg (by rw [show (3 : Int32) = nI 3 from rfl, ltP (by omega) (by omega)]; exact y), if_pos (by rw [show (6 : Int32) = nI 6 from rfl, ltP (by omega) (by omega)]; omega), ff]
end
