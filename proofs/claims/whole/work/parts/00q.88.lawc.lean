/-! A LAW read: the class -/
def aLw (T : ctx) : Nat → Nat → Except (Nat × Nat) (Nat × brs × oc)
  | 0, t => if cK T t = 8 then .error (2, t) else eB (aX T t) fun r => .ok (r.1, [], r.2)
  | n + 1, t => if cK T t = 8 then (eB (aT T t 8) fun t1 => eB (aX T t1) fun a => eB (aT T a.1 28) fun t2 => eB (aX T t2) fun b => eB (aT T b.1 9) fun t3 => eB (aX T t3) fun c => eB (aT T c.1 10) fun t4 => eB (aLw T n t4) fun r => .ok (r.1, (a.2, b.2, c.2) :: r.2.1, r.2.2)) else eB (aX T t) fun r => .ok (r.1, [], r.2)
def FZ (T : ctx) (e : Nat × Nat) (M : mS) : Prop := FC T e M ∧ zC M
def rOk (r : Int32) : Prop := r = -1 ∨ ∃ k, k < 408 ∧ r = nI k
theorem frU16.frR {M A : mS} (h : frU16 M A) : frR M A := ⟨fun a j q => h.1 a j (by omega) (by omega) (by omega), fun a j _ _ => by rw [h.2]⟩
section
variable {N : Nat} {T : ctx} {M : mS} {t b : Nat} {s e : Nat × Nat} {c0 fb : Int32} {L : oc}
theorem put_z {x y : Int32} (h : zC M) : ∃ r A, La_put N x y M = some (r, A) ∧ rOk r ∧ zC A ∧ frU16 M A := by
  obtain ⟨z, hz, h4⟩ := h
  by_cases q : z < 408
  · have fin : ∀ M' : mS, M'.1 16 4 = nI z → La_put_63 N M' = some (nI z, mWI M' 16 4 (nI (z + 1))) := by
      intro M' e
      unfold La_put_63
      rw [nxs, e, show nI z + 1 = nI (z + 1) from nI_add _ 1, rI rfl, show nI (z + 1) - 1 = nI (z + 1 - 1) from sbP (b := 1) (by omega), Nat.add_sub_cancel]
    have k63 : ∃ r A, La_put_63 N (mWI M 18 z (y * 8 + x)) = some (r, A) ∧ rOk r ∧ zC A ∧ frU16 M A := ⟨nI z, _, fin _ (by rw [mWI_ne (by omega)]; exact h4), Or.inr ⟨z, q, rfl⟩, ⟨z + 1, by omega, rI rfl⟩, ⟨fun a j q1 q2 q3 => by rw [rN (by omega), mWI_ne q1], rfl⟩⟩
    have k48 : ∃ r A, La_put_48 N (mWI M 18 z (y * 8 + x)) = some (r, A) ∧ rOk r ∧ zC A ∧ frU16 M A := by
      refine ⟨nI z, mWI (mWI (mWI M 18 z (y * 8 + x)) 16 5 ((mWI M 18 z (y * 8 + x)).1 16 5 ||| ((1 : Int32) <<< (((mWI M 18 z (y * 8 + x)).1 16 6) &&& 31)))) 16 4 (nI (z + 1)), ?_, Or.inr ⟨z, q, rfl⟩, ?_, ?_⟩
      · unfold La_put_48
        rw [nxs, fin _ (by rw [rN (by omega), mWI_ne (by omega)]; exact h4)]
      · exact ⟨z + 1, by omega, rI rfl⟩
      · exact ⟨fun a j q1 q2 q3 => by rw [rN (by omega), rN (by omega), mWI_ne q1], rfl⟩
    unfold La_put
    rw [h4, if_pos (by rw [show (Int32.ofNat 408 : Int32) = nI 408 from rfl, ltP (by omega) (by omega)]; exact q), grd_in q (by omega), clp (by omega), nxs]
    split
    · split
      · exact k48
      · split
        · exact k48
        · split
          · exact k48
          · exact k63
    · exact k63
  · refine ⟨-1, M, ?_, Or.inl rfl, ⟨z, hz, h4⟩, frU16.refl⟩
    unfold La_put
    rw [h4, if_neg (by rw [show (Int32.ofNat 408 : Int32) = nI 408 from rfl, ltP (by omega) (by omega)]; exact q)]
/-! behind a fault -/
def gFl (T : ctx) (e : Nat × Nat) (K : mS → Option mS) : Prop := ∀ A, FZ T e A → ∃ B, K A = some B ∧ FZ T e B ∧ frR A B
theorem put_f {x y : Int32} {K : Int32 → mS → Option mS} (hk : ∀ r, rOk r → gFl T e (K r)) : gFl T e (fun M => bW (La_put N x y M) K) := by
  intro M h
  obtain ⟨r, A, eA, hr, zA, fA⟩ := put_z (N := N) (x := x) (y := y) h.2
  obtain ⟨B, eB, fB, rB⟩ := hk r hr A ⟨h.1.fr fA.frR (fA.1 14 8 (by omega) (by omega) (by omega)) (fA.1 14 9 (by omega) (by omega) (by omega)), zA⟩
  exact ⟨B, by show bW (La_put N x y M) K = _; rw [eA, bWs, eB], fB, fA.frR.trans rB⟩
theorem sum_ff {K : mS → Option mS} (hN : 5000 ≤ N) (hk : gFl T e K) : gFl T e (fun M => bV (Rr_readSum N M) K) := by
  intro M h
  obtain ⟨A, eA, fA, rA, zA⟩ := sum_f (N := N) (b := 0) hN h.1
  obtain ⟨B, eB, fB, rB⟩ := hk A ⟨fA, by obtain ⟨z, h1, h2⟩ := h.2; exact ⟨z, h1, zA.trans h2⟩⟩
  exact ⟨B, by show bV (Rr_readSum N M) K = _; rw [eA, bVs, eB], fB, rA.frR.trans rB⟩
theorem take_ff {a : Int32} {K : Int32 → mS → Option mS} (hk : gFl T e (K 0)) : gFl T e (fun M => bW (Rr_take N a M) K) := by
  intro M h
  obtain ⟨B, eB, fB, rB⟩ := hk M h
  exact ⟨B, by show bW (Rr_take N a M) K = _; rw [take_f h.1, bWs, eB], fB, rB⟩
theorem aim_ff {r : Int32} {K : mS → Option mS} (hr : rOk r) (hk : gFl T e K) : gFl T e (fun M => bV (La_aimHere N r M) K) := by
  intro M h
  have ex : ∃ A, La_aimHere N r M = some A ∧ FZ T e A ∧ frR M A := by
    unfold La_aimHere
    rcases hr with rfl | ⟨k, hk4, rfl⟩
    · exact ⟨M, by rw [if_pos (by decide)], h, frR.refl⟩
    · rw [if_neg (nI_pos (by omega))]
      split
      · exact ⟨M, rfl, h, frR.refl⟩
      · have fr : frR M (mWI M 18 k (((M.1 16 4) * 8) + 6)) := frR.refl.wI (by omega)
        refine ⟨mWI M 18 k (((M.1 16 4) * 8) + 6), ?_, ⟨h.1.fr fr (by rw [mWI_ne (by omega)]) (by rw [mWI_ne (by omega)]), ?_⟩, fr⟩
        · rw [grd_in hk4 (by omega), clp (by omega), nxs]
        · obtain ⟨z, h1, h2⟩ := h.2; exact ⟨z, h1, by rw [mWI_ne (by omega)]; exact h2⟩
  obtain ⟨A, eA, fA, rA⟩ := ex
  obtain ⟨B, eB, fB, rB⟩ := hk A fA
  exact ⟨B, by show bV (La_aimHere N r M) K = _; rw [eA, bVs, eB], fB, rA.trans rB⟩
theorem end_gF : gFl T e (fun M => some M) := fun M h => ⟨M, rfl, h, frR.refl⟩
def lE (N : Nat) (k20 : Int32 → mS → Option mS) (x2 r19 : Int32) (M : mS) : Option mS := bW (La_put N 7 0 M) fun _ M27 => bV (La_aimHere N r19 M27) fun M30 => k20 (x2 + 1) M30
def lD (N : Nat) (k20 : Int32 → mS → Option mS) (x2 r19 : Int32) (M : mS) : Option mS := bW (Rr_take N 10 M) fun _ M23 => lE N k20 x2 r19 M23
def lC (N : Nat) (k20 : Int32 → mS → Option mS) (x2 r19 : Int32) (M : mS) : Option mS := bV (Rr_readSum N M) fun M21 => lD N k20 x2 r19 M21
def lB2 (N : Nat) (k20 : Int32 → mS → Option mS) (x2 : Int32) (M : mS) : Option mS := bW (La_put N 6 0 M) fun r19 M18 => lC N k20 x2 r19 M18
def lB (N : Nat) (k20 : Int32 → mS → Option mS) (x2 : Int32) (M : mS) : Option mS := bW (Rr_take N 9 M) fun _ M14 => lB2 N k20 x2 M14
def lA (N : Nat) (k20 : Int32 → mS → Option mS) (x2 : Int32) (M : mS) : Option mS := bV (Rr_readSum N M) fun M12 => lB N k20 x2 M12
def l9 (N : Nat) (k20 : Int32 → mS → Option mS) (x2 : Int32) (M : mS) : Option mS := bW (Rr_take N 28 M) fun _ M8 => lA N k20 x2 M8
def l8 (N : Nat) (k20 : Int32 → mS → Option mS) (x2 : Int32) (M : mS) : Option mS := bV (Rr_readSum N M) fun M6 => l9 N k20 x2 M6
theorem l51_eq (N : Nat) (k20 : Int32 → mS → Option mS) (x2 : Int32) (M : mS) : Rr_readLaw_51 N k20 x2 M = bW (Rr_take N 8 M) fun _ M2 => l8 N k20 x2 M2 := rfl
variable {k20 : Int32 → mS → Option mS} {x2 r19 : Int32}
theorem lE_f (hr : rOk r19) (hk : gFl T e (k20 (x2 + 1))) : gFl T e (lE N k20 x2 r19) := put_f (fun _ _ => aim_ff hr hk)
theorem lD_f (hr : rOk r19) (hk : gFl T e (k20 (x2 + 1))) : gFl T e (lD N k20 x2 r19) := take_ff (lE_f hr hk)
theorem lC_f (hN : 5000 ≤ N) (hr : rOk r19) (hk : gFl T e (k20 (x2 + 1))) : gFl T e (lC N k20 x2 r19) := sum_ff hN (lD_f hr hk)
theorem lB2_f (hN : 5000 ≤ N) (hk : gFl T e (k20 (x2 + 1))) : gFl T e (lB2 N k20 x2) := put_f (fun _ hr => lC_f hN hr hk)
theorem lB_f (hN : 5000 ≤ N) (hk : gFl T e (k20 (x2 + 1))) : gFl T e (lB N k20 x2) := take_ff (lB2_f hN hk)
theorem lA_f (hN : 5000 ≤ N) (hk : gFl T e (k20 (x2 + 1))) : gFl T e (lA N k20 x2) := sum_ff hN (lB_f hN hk)
theorem l9_f (hN : 5000 ≤ N) (hk : gFl T e (k20 (x2 + 1))) : gFl T e (l9 N k20 x2) := take_ff (lA_f hN hk)
theorem l8_f (hN : 5000 ≤ N) (hk : gFl T e (k20 (x2 + 1))) : gFl T e (l8 N k20 x2) := sum_ff hN (l9_f hN hk)
theorem l51_f (hN : 5000 ≤ N) (hk : gFl T e (k20 (x2 + 1))) : gFl T e (Rr_readLaw_51 N k20 x2) := take_ff (l8_f hN hk)
theorem l136_f (hN : 5000 ≤ N) : gFl T e (Rr_readLaw_136 N) := sum_ff hN (put_f (fun _ _ => end_gF))
theorem l20_f (hN : 5000 ≤ N) (hT : TF T) : ∀ {f i : Nat}, i ≤ 5 → 5 < f + i → gFl T e (Rr_readLaw_20 N f (nI i)) := by
  intro f
  induction f with
  | zero => intro i h1 h2; omega
  | succ f ih =>
    intro i h1 h2 M h
    rw [Rr_readLaw_20]
    by_cases q : 4 < i
    · rw [if_pos (by rw [show (4 : Int32) = nI 4 from rfl, ltP (by omega) (by omega)]; exact q)]
      exact l136_f hN M h
    · rw [if_neg (by rw [show (4 : Int32) = nI 4 from rfl, ltP (by omega) (by omega)]; exact q), h.1.2.2.2.2.1, kindOf_s hT h.1.1 h.1.2.1, bRs]
      have k := l51_f (N := N) (x2 := nI i) (k20 := Rr_readLaw_20 N f) (T := T) (e := e) hN (by rw [show nI i + 1 = nI (i + 1) from nI_add i 1]; exact ih (by omega) (by omega)) M h
      split
      · split
        · rw [form_f h.1, bVs]; exact k
        · exact k
      · exact l136_f hN M h
/-! the normal way -/
def Pst {R : Type} (T : ctx) (b : Nat) (M : mS) (G : R → mS → Prop) (x : Except (Nat × Nat) R) (res : Option mS) : Prop := match x with
  | .ok r => ∃ A, res = some A ∧ G r A ∧ frX b M A
  | .error e => ∃ A, res = some A ∧ FZ T e A ∧ frR M A
theorem Pst_fr {R : Type} {A : mS} {G : R → mS → Prop} {x : Except (Nat × Nat) R} {res : Option mS} (h : Pst T b A G x res) (f : frX b M A) : Pst T b M G x res := by
  unfold Pst at *
  cases x with
  | error e =>
    obtain ⟨B, e1, e2, e3⟩ := h
    exact ⟨B, e1, e2, f.frR.trans e3⟩
  | ok r =>
    obtain ⟨B, e1, e2, e3⟩ := h
    exact ⟨B, e1, e2, f.trans e3⟩
theorem Pst_map {R S : Type} {G : R → mS → Prop} {G' : S → mS → Prop} {g : R → S} {x : Except (Nat × Nat) R} {res : Option mS} (h : Pst T b M G x res) (hg : ∀ r A, G r A → G' (g r) A) : Pst T b M G' (eB x fun r => .ok (g r)) res := by
  unfold Pst at *
  cases x with
  | error e => exact h
  | ok r =>
    obtain ⟨B, e1, e2, e3⟩ := h
    exact ⟨B, e1, hg r B e2, e3⟩
theorem Pst_err {R : Type} {A : mS} {G : R → mS → Prop} {K : mS → Option mS} (hk : gFl T e K) (h : FZ T e A) (f : frR M A) : Pst T b M G (Except.error e : Except (Nat × Nat) R) (K A) := by
  obtain ⟨B, e1, e2, e3⟩ := hk A h
  exact ⟨B, e1, e2, f.trans e3⟩
theorem cdF_z (hc : cdF b L c0 fb M) (hb : b + L.length ≤ 408) : zC M := ⟨_, hb, hc.1.1⟩
theorem st_tk {R : Type} {a : Nat} {K : mS → Option mS} {F : Nat → Except (Nat × Nat) R} {G : R → mS → Prop} (hT : TF T) (h : NC T t s M) (hc : cdF b L c0 fb M) (hb : b + L.length ≤ 408) (ha : a ≤ 30) (hF : ∀ e, gFl T e K) (hk : ∀ A, NC T (t + 1) s A → cdF b L c0 fb A → Pst T b A G (F (t + 1)) (K A)) : Pst T b M G (eB (aT T t a) F) (bW (Rr_take N (nI a) M) fun _ A => K A) := by
  have tk := rtake_s (N := N) hT h ha
  cases ea : aT T t a with
  | error e =>
    rw [ea] at tk
    obtain ⟨A, eA, fA, rA⟩ := tk
    rw [eA, bWs, eB_e]
    obtain ⟨z, z1, z2⟩ := cdF_z hc hb
    exact Pst_err (hF e) ⟨fA, z, z1, (rA.1 16 4 (by omega)).trans z2⟩ rA.frS.frR
  | ok u =>
    rw [ea] at tk
    obtain ⟨rfl, k0, A, eA, nA, rA⟩ := tk
    rw [eA, bWs, eB_o]
    exact Pst_fr (hk A nA (cdF_fr hc (fun a j q => rA.1 a j (by omega)))) rA.frX
theorem frX_le {b' : Nat} {A : mS} (h : frX b' M A) (hb : b ≤ b') : frX b M A := ⟨fun a j q1 q2 q3 q4 => h.1 a j q1 q2 q3 (by omega), h.2⟩
theorem sumL (hN : 5000 ≤ N) (hT : TF T) (h : NC T t s M) (hc : cdF b L c0 fb M) (hb : b + L.length ≤ 6 + t) : match aX T t with
    | .ok (u, O) => t ≤ u ∧ bOk O ∧ ∃ A, Rr_readSum N M = some A ∧ NC T u s A ∧ cdF b (L ++ O) c0 fb A ∧ b + (L ++ O).length ≤ 6 + u ∧ frX b M A
    | .error e => ∃ A, Rr_readSum N M = some A ∧ FZ T e A ∧ frX b M A := by
  have hc1 : cdF (b + L.length) [] (if chL L = true then c0 ||| fb else c0) fb M := ⟨⟨hc.1.1, fun i x hx => by cases hx⟩, hc.2.1, hc.2.2⟩
  have k := sum_C (N := N) hN hT h hc1 hb
  cases e : aX T t with
  | error e0 =>
    rw [e] at k
    obtain ⟨A, e1, e2, e3, e4⟩ := k
    exact ⟨A, e1, ⟨e2, e4⟩, frX_le e3 (by omega)⟩
  | ok r =>
    obtain ⟨u, O⟩ := r
    rw [e] at k
    obtain ⟨tu, A, e1, e2, e3, e4, e5⟩ := k
    have l1 : (L ++ O).length = L.length + O.length := List.length_append
    refine ⟨tu, aX_h hT h.2.1 e, A, e1, e2, ⟨⟨?_, fun i x hx => ?_⟩, e3.2.1, ?_⟩, by omega, frX_le e5 (by omega)⟩
    · rw [e3.1.1, l1, Nat.add_assoc]
    · by_cases z : i < L.length
      · rw [List.getElem?_append_left z] at hx
        rw [e5.1 18 _ (by omega) (by omega) (by omega) (by omega)]
        exact hc.1.2 i x hx
      · rw [List.getElem?_append_right (by omega)] at hx
        have := e3.1.2 (i - L.length) x hx
        rw [show b + i = b + L.length + (i - L.length) by omega]
        exact this
    · rw [e3.2.2, chL_app]
      cases q1 : chL L <;> cases q2 : chL O
      · rfl
      · rfl
      · rfl
      · exact or_tw c0 fb
theorem st_sm {R : Type} {K : mS → Option mS} {F : Nat × oc → Except (Nat × Nat) R} {G : R → mS → Prop} (hN : 5000 ≤ N) (hT : TF T) (h : NC T t s M) (hc : cdF b L c0 fb M) (hb : b + L.length ≤ 6 + t) (hF : ∀ e, gFl T e K) (hk : ∀ u O A, t ≤ u → bOk O → NC T u s A → cdF b (L ++ O) c0 fb A → b + (L ++ O).length ≤ 6 + u → Pst T b A G (F (u, O)) (K A)) : Pst T b M G (eB (aX T t) F) (bV (Rr_readSum N M) K) := by
  have k := sumL (N := N) hN hT h hc hb
  cases e : aX T t with
  | error e0 =>
    rw [e] at k
    obtain ⟨A, e1, e2, e3⟩ := k
    rw [e1, bVs, eB_e]
    exact Pst_err (hF e0) e2 e3.frR
  | ok r =>
    obtain ⟨u, O⟩ := r
    rw [e] at k
    obtain ⟨tu, hO, A, e1, e2, e3, e4, e5⟩ := k
    rw [e1, bVs, eB_o]
    exact Pst_fr (hk u O A tu hO e2 e3 e4) e5
theorem st_pt {R : Type} {a0 a1 : Nat} {x : Except (Nat × Nat) R} {K : Int32 → mS → Option mS} {G : R → mS → Prop} (h : NC T t s M) (hc : cdF b L c0 fb M) (hb : b + L.length ≤ 407) (h0 : a0 < 8) (h1 : a1 ≤ 9999) (hk : ∀ A, NC T t s A → cdF b (L ++ [(a0, a1)]) c0 fb A → Pst T b A G x (K (nI (b + L.length)) A)) : Pst T b M G x (bW (La_put N (nI a0) (nI a1) M) K) := by
  obtain ⟨A, eA, cA, a18, a5, fA⟩ := lputF (N := N) hc (by omega) h0 h1
  rw [eA, bWs]
  have fx := frX_u fA a18
  exact Pst_fr (hk A (h.fr fx.frR (fun j q1 q2 => fA.1 14 j (by omega) (by omega) (by omega))) cA) fx
theorem aim_s {P Q : oc} (hc : cdF b (P ++ ((6, 0) :: Q)) c0 fb M) (hb : b + (P ++ ((6, 0) :: Q)).length ≤ 408) : ∃ A, La_aimHere N (nI (b + P.length)) M = some A ∧ cdF b (P ++ ((6, b + (P ++ ((6, 0) :: Q)).length) :: Q)) c0 fb A ∧ frX b M A ∧ (∀ a j, a ≠ 18 → A.1 a j = M.1 a j) := by
  have l1 : ∀ x : Nat, (P ++ ((6, x) :: Q)).length = P.length + Q.length + 1 := fun x => by simp; omega
  rw [l1] at hb ⊢
  obtain ⟨⟨h1, h2⟩, h3, h4⟩ := hc
  rw [l1] at h1
  refine ⟨mWI M 18 (b + P.length) (nI ((b + (P.length + Q.length + 1)) * 8 + 6)), ?_, ⟨⟨?_, fun i x hx => ?_⟩, by rw [mWI_ne (by omega)]; exact h3, ?_⟩, ⟨fun a j q1 q2 q3 q4 => rN (by omega), rfl⟩, fun a j q => by rw [mWI_ne q]⟩
  · unfold La_aimHere
    rw [if_neg (nI_pos (by omega)), h1, if_neg (by rw [leP (by omega) (by omega)]; omega), grd_in (by omega) (by omega), clp (by omega), nxs, show nI (b + (P.length + Q.length + 1)) * 8 = nI ((b + (P.length + Q.length + 1)) * 8) from pk_mul _ 8, show nI ((b + (P.length + Q.length + 1)) * 8) + 6 = nI ((b + (P.length + Q.length + 1)) * 8 + 6) from nI_add _ 6]
  · rw [mWI_ne (by omega), l1]; exact h1
  · by_cases z : i = P.length
    · subst z
      rw [List.getElem?_append_right (by omega), Nat.sub_self] at hx
      injection hx with hx
      subst hx
      exact rI rfl
    · rw [rN (by omega)]
      refine h2 i x ?_
      by_cases y : i < P.length
      · rw [List.getElem?_append_left y] at hx ⊢; exact hx
      · rw [List.getElem?_append_right (by omega)] at hx ⊢
        obtain ⟨n, hn⟩ : ∃ n, i - P.length = n + 1 := ⟨i - P.length - 1, by omega⟩
        rw [hn, List.getElem?_cons_succ] at hx ⊢
        exact hx
  · rw [mWI_ne (by omega), h4]
    have e : ∀ x : Nat, chL (P ++ ((6, x) :: Q)) = (chL P || chL Q) := fun x => by rw [chL_app, chL_cons]; rfl
    rw [e, e]
/-- what a law's reading leaves -/
def gL2 (T : ctx) (s : Nat × Nat) (b : Nat) (c0 fb : Int32) (L : oc) (t : Nat) (r : Nat × brs × oc) (A : mS) : Prop := t ≤ r.1 ∧ NC T r.1 s A ∧ lOk r.2.1 r.2.2 ∧ cdF b (L ++ lcd (b + L.length) r.2.1 r.2.2) c0 fb A ∧ b + (L ++ lcd (b + L.length) r.2.1 r.2.2).length ≤ 7 + r.1
theorem l136_s (hN : 5000 ≤ N) (hT : TF T) (h : NC T t s M) (hc : cdF b L c0 fb M) (hb : b + L.length ≤ 6 + t) : Pst T b M (gL2 T s b c0 fb L t) (eB (aX T t) fun r => .ok (r.1, [], r.2)) (Rr_readLaw_136 N M) := by
  have c2 := hT.2.1
  refine st_sm hN hT h hc hb (fun e => put_f (fun _ _ => end_gF)) (fun u O A tu hO nA cA bA => ?_)
  have hu := nA.2.1
  refine st_pt (a0 := 7) (a1 := 0) nA cA (by omega) (by omega) (by omega) (fun B nB cB => ?_)
  have l1 : ((L ++ O) ++ [(7, 0)]).length = (L ++ O).length + 1 := List.length_append
  refine ⟨B, rfl, ⟨tu, nB, ⟨(fun x hx => by cases hx), hO⟩, ?_, ?_⟩, frX.refl⟩
  · rw [List.append_assoc] at cB; exact cB
  · show b + (L ++ (O ++ [(7, 0)])).length ≤ 7 + u
    rw [← List.append_assoc, l1]; omega
end
theorem law_l {N : Nat} {T : ctx} {s : Nat × Nat} {b : Nat} {c0 fb : Int32} (hN : 5000 ≤ N) (hT : TF T) : ∀ {n f i t : Nat} {L : oc} {M : mS}, n + i = 4 → 5 < f + i → NC T t s M → cdF b L c0 fb M → b + L.length ≤ 6 + t → Pst T b M (gL2 T s b c0 fb L t) (aLw T n t) (Rr_readLaw_20 N f (nI i) M) := by
  intro n
  induction n with
  | zero =>
    intro f i t L M hi hf h hc hb
    obtain ⟨f, rfl⟩ : ∃ g, f = g + 1 := ⟨f - 1, by omega⟩
    have c2 := hT.2.1
    have hk := hT.2.2.1 t
    have ht := h.2.1
    have i4 : i = 4 := by omega
    subst i4
    rw [Rr_readLaw_20, if_neg (by decide), h.2.2.1, kindOf_s hT h.1 h.2.1, bRs]
    unfold aLw
    by_cases z : cK T t = 8
    · rw [if_pos z, if_pos (by rw [z]; rfl), if_pos (by decide)]
      have ff : Rr_failForm N 2 M = some (mWI M 14 9 2) := by unfold Rr_failForm; rw [if_pos h.2.2.2.1, nxs]
      have fr : frR M (mWI M 14 9 2) := frR.refl.wI (by omega)
      have fC : FZ T (2, t) (mWI M 14 9 2) := ⟨⟨fr.TC h.1, h.2.1, by omega, by omega, by rw [rN (by omega)]; exact h.2.2.1, rI rfl⟩, by obtain ⟨z, h1, h2⟩ := cdF_z hc (by omega); exact ⟨z, h1, by rw [mWI_ne (by omega)]; exact h2⟩⟩
      rw [ff, bVs]
      exact Pst_err (l51_f hN (l20_f (i := 5) hN hT (by omega) (by omega))) fC fr
    · rw [if_neg z, if_neg (by rw [show (8 : Int32) = nI 8 from rfl, eqP (by omega) (by omega)]; exact z)]
      exact l136_s hN hT h hc hb
  | succ n ih =>
    intro f i t L M hi hf h hc hb
    obtain ⟨f, rfl⟩ : ∃ g, f = g + 1 := ⟨f - 1, by omega⟩
    have c2 := hT.2.1
    have hk := hT.2.2.1 t
    have ht := h.2.1
    rw [Rr_readLaw_20, if_neg (by rw [show (4 : Int32) = nI 4 from rfl, ltP (by omega) (by omega)]; omega), h.2.2.1, kindOf_s hT h.1 h.2.1, bRs]
    unfold aLw
    by_cases z : cK T t = 8
    · rw [if_pos z, if_pos (by rw [z]; rfl), if_neg (by rw [show (4 : Int32) = nI 4 from rfl, eqP (by omega) (by omega)]; omega), l51_eq]
      have k5 : ∀ e, gFl T e (Rr_readLaw_20 N f (nI i + 1)) := fun e => by
        rw [show nI i + 1 = nI (i + 1) from nI_add i 1]
        exact l20_f hN hT (by omega) (by omega)
      refine st_tk (a := 8) hT h hc (by omega) (by omega) (fun e => l8_f hN (k5 e)) (fun A1 n1 d1 => ?_)
      refine st_sm hN hT n1 d1 (by omega) (fun e => l9_f hN (k5 e)) (fun u1 o1 A2 tu1 q1 n2 d2 b2 => ?_)
      have hu1 := n2.2.1
      refine st_tk (a := 28) hT n2 d2 (by omega) (by omega) (fun e => lA_f hN (k5 e)) (fun A3 n3 d3 => ?_)
      refine st_sm hN hT n3 d3 (by omega) (fun e => lB_f hN (k5 e)) (fun u2 o2 A4 tu2 q2 n4 d4 b4 => ?_)
      have hu2 := n4.2.1
      refine st_tk (a := 9) hT n4 d4 (by omega) (by omega) (fun e => lB2_f hN (k5 e)) (fun A5 n5 d5 => ?_)
      have hu5 := n5.2.1
      refine st_pt (a0 := 6) (a1 := 0) n5 d5 (by omega) (by omega) (by omega) (fun A6 n6 d6 => ?_)
      have r9 : rOk (nI (b + (L ++ o1 ++ o2).length)) := Or.inr ⟨_, by omega, rfl⟩
      have l6 : ((L ++ o1 ++ o2) ++ [(6, 0)]).length = (L ++ o1 ++ o2).length + 1 := List.length_append
      refine st_sm hN hT n6 d6 (by omega) (fun e => lD_f r9 (k5 e)) (fun u3 o3 A7 tu3 q3 n7 d7 b7 => ?_)
      have hu3 := n7.2.1
      refine st_tk (a := 10) hT n7 d7 (by omega) (by omega) (fun e => lE_f r9 (k5 e)) (fun A8 n8 d8 => ?_)
      have hu8 := n8.2.1
      refine st_pt (a0 := 7) (a1 := 0) n8 d8 (by omega) (by omega) (by omega) (fun A9 n9 d9 => ?_)
      have eL : ((L ++ o1 ++ o2) ++ [(6, 0)] ++ o3) ++ [(7, 0)] = (L ++ o1 ++ o2) ++ ((6, 0) :: (o3 ++ [(7, 0)])) := by simp
      rw [eL] at d9
      have l9 : ((L ++ o1 ++ o2) ++ ((6, 0) :: (o3 ++ [(7, 0)]))).length = ((L ++ o1 ++ o2) ++ [(6, 0)] ++ o3).length + 1 := by rw [← eL]; exact List.length_append
      obtain ⟨B, eB1, dB, fB, rB⟩ := aim_s (N := N) (P := L ++ o1 ++ o2) (Q := o3 ++ [(7, 0)]) d9 (by omega)
      have nB : NC T (u3 + 1) s B := n9.fr fB.frR (fun j _ _ => rB 14 j (by omega))
      have le : ((L ++ o1 ++ o2) ++ ((6, b + ((L ++ o1 ++ o2) ++ ((6, 0) :: (o3 ++ [(7, 0)]))).length) :: (o3 ++ [(7, 0)]))).length = ((L ++ o1 ++ o2) ++ ((6, 0) :: (o3 ++ [(7, 0)]))).length := by simp
      have go := ih (f := f) (i := i + 1) (t := u3 + 1) (M := B) (by omega) (by omega) nB dB (by rw [le]; omega)
      rw [eB1, bVs, show nI i + 1 = nI (i + 1) from nI_add i 1]
      refine Pst_fr ?_ fB
      refine Pst_map go (fun r A g => ?_)
      obtain ⟨g1, g2, g3, g4, g5⟩ := g
      have ex : (L ++ o1 ++ o2) ++ ((6, b + ((L ++ o1 ++ o2) ++ ((6, 0) :: (o3 ++ [(7, 0)]))).length) :: (o3 ++ [(7, 0)])) ++ lcd (b + ((L ++ o1 ++ o2) ++ ((6, b + ((L ++ o1 ++ o2) ++ ((6, 0) :: (o3 ++ [(7, 0)]))).length) :: (o3 ++ [(7, 0)]))).length) r.2.1 r.2.2 = L ++ lcd (b + L.length) ((o1, o2, o3) :: r.2.1) r.2.2 := by
        have en : b + ((L ++ o1 ++ o2) ++ ((6, 0) :: (o3 ++ [(7, 0)]))).length = b + L.length + o1.length + o2.length + o3.length + 2 := by simp; omega
        rw [le, en, lcd_c]
        simp
      rw [ex] at g4 g5
      refine ⟨?_, g2, ⟨fun x hx => ?_, g3.2⟩, g4, g5⟩
      · show t ≤ r.1
        have : u3 + 1 ≤ r.1 := g1
        omega
      · rcases List.mem_cons.mp hx with rfl | hx
        · exact ⟨q1, q2, q3⟩
        · exact g3.1 x hx
    · rw [if_neg z, if_neg (by rw [show (8 : Int32) = nI 8 from rfl, eqP (by omega) (by omega)]; exact z)]
      exact l136_s hN hT h hc hb
