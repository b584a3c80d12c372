/-! A LAW read: the model, the whole -/
theorem eB_as {α β γ : Type} {x : Except (Nat × Nat) α} {f : α → Except (Nat × Nat) β} {g : β → Except (Nat × Nat) γ} : eB (eB x f) g = eB x fun a => eB (f a) g := by cases x <;> rfl
def aLe (T : ctx) (n t : Nat) : Except (Nat × Nat) (Nat × brs × oc) := eB (aLw T n t) fun r => eB (aT T r.1 22) fun u => .ok (u, r.2)
theorem aLe_if {T : ctx} {n t : Nat} (h : cK T t = 8) : aLe T (n + 1) t = eB (aT T t 8) fun t1 => eB (aX T t1) fun a => eB (aT T a.1 28) fun t2 => eB (aX T t2) fun b => eB (aT T b.1 9) fun t3 => eB (aX T t3) fun c => eB (aT T c.1 10) fun t4 => eB (aLe T n t4) fun r => .ok (r.1, (a.2, b.2, c.2) :: r.2.1, r.2.2) := by
  unfold aLe
  rw [aLw, if_pos h]
  simp only [eB_as, eB_o]
theorem aLe_no {T : ctx} {n t : Nat} (h : ¬ cK T t = 8) : aLe T n t = eB (aX T t) fun r => eB (aT T r.1 22) fun u => .ok (u, [], r.2) := by
  unfold aLe
  cases n with
  | zero => rw [aLw, if_neg h, eB_as]; rfl
  | succ n => rw [aLw, if_neg h, eB_as]; rfl
theorem aLe_4 {T : ctx} {t : Nat} (h : cK T t = 8) : aLe T 0 t = .error (2, t) := by
  unfold aLe
  rw [aLw, if_pos h]; rfl
/-- what a law's reading leaves -/
def gJm (T : ctx) (s : Nat × Nat) (v x m p t : Nat) (x2 : Int32) (r : Nat × brs × oc) (A : mS) : Prop := t + 2 ≤ r.1 ∧ NM T r.1 s A ∧ A.1 64 12 = 0 ∧ lOk r.2.1 r.2.2 ∧ A.1 64 34 = nI (m + r.2.1.length + 1) ∧ 4 * (m + r.2.1.length + 1) ≤ 520 * v + r.1 ∧ A.1 83 x = x2 ∧ A.1 84 x = nI (m + r.2.1.length + 1) ∧ ∃ p', A.1 64 40 = nI p' ∧ p ≤ p' ∧ p' ≤ 420 * v + r.1 ∧ brM p p' m r.2.1 r.2.2 A
section
variable {N : Nat} {T : ctx} {s : Nat × Nat} {v k : Nat} {x2 : Int32}
def n6 (x1 x2 : Int32) (M6 : mS) : Option mS := if (M6.1 64 13) ≤ 0 then (grd (mIn ((4 * (M6.1 64 19)) + x1) 8) (nxt (mWI M6 83 ((4 * (M6.1 64 19)) + x1).toNatClampNeg x2) fun M8 => grd (mIn ((4 * (M8.1 64 19)) + x1) 8) (nxt (mWI M8 84 ((4 * (M8.1 64 19)) + x1).toNatClampNeg (M8.1 64 34)) fun M10 => some M10))) else (some M6)
theorem m129_eq {x1 : Int32} {M : mS} : Mo_tellLaw_129 N x1 x2 M = grd (mIn (M.1 64 34) 260) (nxt (mWI M 85 (M.1 64 34).toNatClampNeg (vp_nar .boolean 0)) fun M2 => bV (Mo_term N M2) fun M4 => bV (Mo_must N 4 M4) fun M6 => n6 x1 x2 M6) := rfl
theorem n6_f {x1 : Int32} {e : Nat × Nat} {x nb c q : Nat} : gJ T e v x nb c q (n6 x1 x2) := by
  intro M h
  refine ⟨M, ?_, h.2.1, frJ.refl⟩
  unfold n6
  rw [if_neg h.2.1.pos.1]
theorem n5_f {x1 : Int32} {e : Nat × Nat} {x nb c q : Nat} : gJ T e v x nb c q (fun M4 => bV (Mo_must N 4 M4) fun M6 => n6 x1 x2 M6) := by
  intro M h
  dsimp only
  rw [must_f h.2.1, bVs]
  exact n6_f M h
theorem m129_s {t m p : Nat} {M : mS} (hN : 5000 ≤ N) (hT : TF T) (hv : v < 2) (hk : k < 4) (h : NM T t s M) (h12 : M.1 64 12 = 0) (h34 : M.1 64 34 = nI m) (h40 : M.1 64 40 = nI p) (h19 : M.1 64 19 = nI v) (hp : p ≤ 420 * v + t) (hm : 4 * m + 2 ≤ 520 * v + t) : Psm T v (4 * v + k) m p M (gJm T s v (4 * v + k) m p t x2) (eB (aX T t) fun r => eB (aT T r.1 22) fun u => .ok (u, [], r.2)) (Mo_tellLaw_129 N (nI k) x2 M) := by
  have c2 := hT.2.1
  have ht := h.2.1
  rw [m129_eq, h34, grd_in (by omega) (by omega), clp (by omega), nxs, show vp_nar .boolean 0 = 0 from rfl]
  refine Psm_fr (A := mWI M 85 m 0) ?_ (frJ.refl.w (by omega))
  refine sm_tm (q := 0) (m := m) (p := p) hN hT hv (h.w2 (by omega)) (by rw [mWI_ne (by omega)]; exact h34) (Nat.le_refl _) (by omega) (by rw [mWI_ne (by omega)]; exact h12) (by rw [mWI_ne (by omega)]; exact h40) hp (Nat.le_refl _) (fun e => n5_f) (fun u O A tu hO nA cA a12 a34 a40 a88 a89 pA fA => ?_)
  have hu := nA.2.1
  refine sm_mu (a := 22) (q := 0) (m := m + 1) hT hv nA a34 (by omega) (by omega) (by omega) (fun e => n6_f) (fun B nB fB => ?_)
  have b19 : B.1 64 19 = nI v := by rw [fB.1 64 19 (by omega), fA.2.1 19 (by omega) (by omega) (by omega) (by omega) (by omega) (by omega) (by omega) (by omega) (by omega), mWI_ne (by omega)]; exact h19
  have b34 : B.1 64 34 = nI (m + 1) := (fB.1 64 34 (by omega)).trans a34
  refine ⟨mWI (mWI B 83 (4 * v + k) x2) 84 (4 * v + k) (nI (m + 1)), ?_, ⟨?_, (nB.w2 (by omega)).w2 (by omega), ?_, ⟨(fun x hx => by cases hx), hO⟩, ?_, ?_, ?_, rI rfl, p + O.length, ?_, by omega, ?_, ?_⟩, (frJ.refl.w (by omega)).w (by omega)⟩
  · unfold n6
    have e19 : ∀ C : mS, C.1 64 19 = nI v → (4 : Int32) * (C.1 64 19) + nI k = nI (4 * v + k) := fun C e => by rw [e, show (4 : Int32) * nI v = nI (4 * v) from pk_mul 4 v, nI_add]
    rw [nB.2.2.2.1, if_pos (by decide), e19 B b19, grd_in (by omega) (by omega), clp (by omega), nxs, e19 _ (by rw [mWI_ne (by omega)]; exact b19), grd_in (by omega) (by omega), clp (by omega), nxs, mWI_ne (show (64 : Nat) ≠ 83 by omega), b34]
  · show t + 2 ≤ u + 1; omega
  · rw [mWI_ne (by omega), mWI_ne (by omega), fB.1 64 12 (by omega)]; exact a12
  · rw [mWI_ne (by omega), mWI_ne (by omega)]; exact b34
  · show 4 * (m + 0 + 1) ≤ 520 * v + (u + 1); omega
  · rw [mWI_ne (by omega), rI rfl]
  · rw [mWI_ne (by omega), mWI_ne (by omega), fB.1 64 40 (by omega)]; exact a40
  · show p + O.length ≤ 420 * v + (u + 1); omega
  · refine ⟨?_, p, ?_, ?_, ?_, Nat.le_refl _, Nat.le_refl _⟩
    · rw [mWI_ne (by omega), mWI_ne (by omega), fB.1 85 m (by omega), fA.1 85 m (by omega) (by omega) (by omega) (by omega), rI rfl]
    · rw [mWI_ne (by omega), mWI_ne (by omega), fB.1 88 m (by omega)]; exact a88
    · rw [mWI_ne (by omega), mWI_ne (by omega), fB.1 89 m (by omega)]; exact a89
    · exact cdAt_fr cA (fun a i q _ _ => by rw [mWI_ne (by omega), mWI_ne (by omega), fB.1 a i (by omega)])
theorem law_m (hN : 5000 ≤ N) (hT : TF T) (hv : v < 2) (hk : k < 4) : ∀ {n f i t m p : Nat} {M : mS}, n + i = 4 → 6 < f + i → NM T t s M → M.1 64 12 = 0 → M.1 64 34 = nI m → M.1 64 40 = nI p → M.1 64 19 = nI v → p ≤ 420 * v + t → 4 * m + 2 ≤ 520 * v + t → Psm T v (4 * v + k) m p M (gJm T s v (4 * v + k) m p t x2) (aLe T n t) (Mo_tellLaw_12 N f (nI k) x2 (nI i) M) := by
  intro n
  induction n with
  | zero =>
    intro f i t m p M hi hf h h12 h34 h40 h19 hp hm
    obtain ⟨f, rfl⟩ : ∃ g, f = g + 1 := ⟨f - 1, by omega⟩
    have i4 : i = 4 := by omega
    subst i4
    rw [Mo_tellLaw_12, if_pos h.2.2.2.1, show (28 : Int32) = nI (mkK 8) from rfl]
    by_cases z : cK T t = 8
    · rw [is_y hT h (by omega) z, bRs, if_neg (by decide), if_pos (by decide), aLe_4 z]
      obtain ⟨A, eA, fA, rA⟩ := fail_s (N := N) hT h (x := 2) (by omega) (by omega)
      refine ⟨A, ?_, fA, rA.frJ⟩
      rw [show (2 : Int32) = nI 2 from rfl, eA, bVs]
      unfold Mo_tellLaw_38
      rw [if_neg fA.pos.1]
    · rw [is_n hT h (by omega) z, bRs, if_pos rfl, aLe_no z]
      exact m129_s hN hT hv hk h h12 h34 h40 h19 hp hm
  | succ n ih =>
    intro f i t m p M hi hf h h12 h34 h40 h19 hp hm
    obtain ⟨f, rfl⟩ : ∃ g, f = g + 2 := ⟨f - 2, by omega⟩
    have c2 := hT.2.1
    have ht := h.2.1
    rw [Mo_tellLaw_12, if_pos h.2.2.2.1, show (28 : Int32) = nI (mkK 8) from rfl]
    by_cases z : cK T t = 8
    · rw [is_y hT h (by omega) z, bRs, if_neg (by decide), if_neg (by rw [show (4 : Int32) = nI 4 from rfl, eqP (by omega) (by omega)]; omega), m38_eq, h.2.2.2.1, if_pos (by decide), aLe_if z]
      have k5 : ∀ e, gJ T e v (4 * v + k) m p 0 (Mo_tellLaw_12 N (f + 1) (nI k) x2 (nI i + 1)) := fun e => m12_f
      have go := rgoes_s (N := N) hT h (a := 8) (by omega) z
      cases ea : aT T t 8 with
      | error e =>
        rw [ea] at go
        obtain ⟨A, eA, fA, rA⟩ := go
        rw [eA, bVs, eB_e]
        exact Psm_err (q := 1) (n2_f hN (k5 e)) ⟨hv, fA, m, (rA.1 64 34 (by omega)).trans h34, by omega, by omega⟩ rA.frJ
      | ok u =>
        rw [ea] at go
        obtain ⟨rfl, A1, eA1, nA1, rA1⟩ := go
        rw [eA1, bVs, eB_o]
        refine Psm_fr ?_ rA1.frJ
        have a34 : A1.1 64 34 = nI m := (rA1.1 64 34 (by omega)).trans h34
        have a40 : A1.1 64 40 = nI p := (rA1.1 64 40 (by omega)).trans h40
        unfold n2
        rw [a34, grd_in (by omega) (by omega), clp (by omega), nxs, mWI_ne (show (64 : Nat) ≠ 85 by omega), a34, grd_in (by omega) (by omega), clp (by omega), a40, nxs, show vp_nar .boolean 1 = 1 from rfl]
        refine Psm_fr (A := mWI (mWI A1 85 m 1) 86 m (nI p)) ?_ ((frJ.refl.w (by omega)).w (by omega))
        have b64 : ∀ j, (mWI (mWI A1 85 m 1) 86 m (nI p)).1 64 j = A1.1 64 j := fun j => by rw [mWI_ne (by omega), mWI_ne (by omega)]
        refine sm_ex (q := 1) (m := m) (p := p) hN hT hv ((nA1.w2 (by omega)).w2 (by omega)) ((b64 34).trans a34) (Nat.le_refl _) (by omega) ((b64 12).trans ((rA1.1 64 12 (by omega)).trans h12)) ((b64 40).trans a40) (by omega) (Nat.le_refl _) (fun e => n3_f (k5 e)) (fun u1 o1 A2 tu1 q1 n2 d2 e12 b2 f2 => ?_)
        have a34 : A2.1 64 34 = nI m := by rw [f2.1 64 34 (by omega) (by omega) (by omega), b64]; exact a34
        unfold n3
        have hu1 := n2.2.1
        refine sm_mu (a := 28) (q := 1) (m := m) hT hv n2 a34 (Nat.le_refl _) (by omega) (by omega) (fun e => n4_f (k5 e)) (fun A3 n3 f3 => ?_)
        have hu3 := n3.2.1
        have g34 : A3.1 64 34 = nI m := (f3.1 64 34 (by omega)).trans a34
        have g40 : A3.1 64 40 = nI (p + o1.length) := (f3.1 64 40 (by omega)).trans d2.1
        unfold n4
        rw [g34, grd_in (by omega) (by omega), clp (by omega), g40, nxs, if_pos (show (mWI A3 87 m (nI (p + o1.length))).1 64 13 = 0 by rw [mWI_ne (by omega)]; exact n3.2.2.2.1)]
        refine Psm_fr (A := mWI A3 87 m (nI (p + o1.length))) ?_ (frJ.refl.w (by omega))
        have c64 : ∀ j, (mWI A3 87 m (nI (p + o1.length))).1 64 j = A3.1 64 j := fun j => by rw [mWI_ne (by omega)]
        refine sm_ex (q := 1) (m := m) (p := p + o1.length) hN hT hv (n3.w2 (by omega)) ((c64 34).trans g34) (Nat.le_refl _) (by omega) ((c64 12).trans ((f3.1 64 12 (by omega)).trans e12)) ((c64 40).trans g40) (by show p + o1.length ≤ 420 * v + (u1 + 1); omega) (by omega) (fun e => m110_f (k5 e)) (fun u2 o2 A4 tu2 q2 n4 d4 e12' b4 f4 => ?_)
        have tu2 : u1 + 1 + 1 ≤ u2 := tu2
        have i34 : A4.1 64 34 = nI m := by rw [f4.1 64 34 (by omega) (by omega) (by omega), c64]; exact g34
        have hu2 := n4.2.1
        unfold Mo_tellLaw_110
        refine sm_mu (a := 9) (q := 1) (m := m) hT hv n4 i34 (Nat.le_refl _) (by omega) (by omega) (fun e => ?_) (fun A5 n5 f5 => ?_)
        · intro A h5
          obtain ⟨B, eB1, fB, rB⟩ := term_f (N := N) (x := 4 * v + k) (c := p) (q := 0) h5
          obtain ⟨C, eC, fC, rC⟩ := k5 e B fB
          exact ⟨C, by dsimp only; rw [eB1, bVs, must_f fB.2.1, bVs, eC], fC, rB.trans rC⟩
        have hu5 := n5.2.1
        refine sm_tm (q := 0) (m := m) (p := p + o1.length + o2.length) hN hT hv n5 ((f5.1 64 34 (by omega)).trans i34) (Nat.le_refl _) (by omega) ((f5.1 64 12 (by omega)).trans e12') ((f5.1 64 40 (by omega)).trans d4.1) (by show p + o1.length + o2.length ≤ 420 * v + (u2 + 1); omega) (by omega) (fun e => ?_) (fun u3 o3 A6 tu3 q3 n6 d6 e12'' j34 j40 j88 j89 b6 f6 => ?_)
        · intro A h5
          obtain ⟨C, eC, fC, rC⟩ := k5 e A h5
          exact ⟨C, by dsimp only; rw [must_f h5.2.1, bVs, eC], fC, rC⟩
        have tu3 : u2 + 1 + 1 ≤ u3 := tu3
        have hu6 := n6.2.1
        refine sm_mu (a := 10) (q := 0) (m := m + 1) hT hv n6 j34 (by omega) (by omega) (by omega) k5 (fun A7 n7 f7 => ?_)
        have m19 : A7.1 64 19 = nI v := by
          rw [f7.1 64 19 (by omega), f6.2.1 19 (by omega) (by omega) (by omega) (by omega) (by omega) (by omega) (by omega) (by omega) (by omega), f5.1 64 19 (by omega), f4.1 64 19 (by omega) (by omega) (by omega), c64, f3.1 64 19 (by omega), f2.1 64 19 (by omega) (by omega) (by omega), b64, rA1.1 64 19 (by omega)]
          exact h19
        have go := ih (f := f + 1) (i := i + 1) (t := u3 + 1) (m := m + 1) (p := p + o1.length + o2.length + o3.length) (M := A7) (by omega) (by omega) n7 ((f7.1 64 12 (by omega)).trans e12'') ((f7.1 64 34 (by omega)).trans j34) ((f7.1 64 40 (by omega)).trans j40) m19 (by omega) (by omega)
        rw [show nI i + 1 = nI (i + 1) from nI_add i 1]
        refine Psm_map go (by omega) (by omega) (fun r A g fA => ?_)
        obtain ⟨g1, g2, g3, g4, g5, g6, g7, g8, p', g9, g10, g11, g12⟩ := g
        have ln : ((o1, o2, o3) :: r.2.1).length = r.2.1.length + 1 := rfl
        have en : m + 1 + r.2.1.length + 1 = m + ((o1, o2, o3) :: r.2.1).length + 1 := by rw [ln]; omega
        rw [en] at g5 g6 g8
        have k7 : ∀ a j, 85 ≤ a → a ≤ 89 → j ≤ m → A.1 a j = A6.1 a j := fun a j y1 y2 y3 => by rw [fA.1 a j (by omega), f7.1 a j (by omega)]
        have k6 : ∀ a, 85 ≤ a → a ≤ 87 → A6.1 a m = (mWI A3 87 m (nI (p + o1.length))).1 a m := fun a y1 y2 => by rw [f6.1 a m (by omega) (by omega) (by omega) (by omega), f5.1 a m (by omega), f4.1 a m (by omega) (by omega) (by omega)]
        have k3 : ∀ a, 85 ≤ a → a ≤ 86 → A6.1 a m = (mWI (mWI A1 85 m 1) 86 m (nI p)).1 a m := fun a y1 y2 => by rw [k6 a y1 (by omega), mWI_ne (by omega), f3.1 a m (by omega), f2.1 a m (by omega) (by omega) (by omega)]
        have kc : ∀ a i, (a = 90 ∨ a = 91) → i < p + o1.length + o2.length + o3.length → A.1 a i = A6.1 a i := fun a i y1 y2 => by rw [fA.1 a i (by omega), f7.1 a i (by omega)]
        have kd : ∀ a i, (a = 90 ∨ a = 91) → i < p + o1.length + o2.length → A.1 a i = A4.1 a i := fun a i y1 y2 => by rw [kc a i y1 (by omega), f6.1 a i (by omega) (by omega) (by omega) (by omega), f5.1 a i (by omega)]
        have ke : ∀ a i, (a = 90 ∨ a = 91) → i < p + o1.length → A.1 a i = A2.1 a i := fun a i y1 y2 => by rw [kd a i y1 (by omega), f4.1 a i (by omega) (by omega) (by omega), mWI_ne (by omega), f3.1 a i (by omega)]
        refine ⟨?_, g2, g3, ⟨fun y hy => ?_, g4.2⟩, g5, g6, g7, g8, p', g9, by omega, g11, ⟨⟨?_, p, ?_, ?_, ?_, ?_, ?_, ?_, ?_, Nat.le_refl _, ?_⟩, brM_mono (by omega) (Nat.le_refl _) g12⟩⟩
        · show t + 2 ≤ r.1
          have : u3 + 1 + 2 ≤ r.1 := g1
          omega
        · rcases List.mem_cons.mp hy with rfl | hy
          · exact ⟨q1, q2, q3⟩
          · exact g4.1 y hy
        · rw [k7 85 m (by omega) (by omega) (by omega), k3 85 (by omega) (by omega), mWI_ne (by omega), rI rfl]
        · rw [k7 86 m (by omega) (by omega) (by omega), k3 86 (by omega) (by omega), rI rfl]
        · rw [k7 87 m (by omega) (by omega) (by omega), k6 87 (by omega) (by omega), rI rfl]
        · rw [k7 88 m (by omega) (by omega) (by omega)]; exact j88
        · rw [k7 89 m (by omega) (by omega) (by omega)]; exact j89
        · exact cdAt_fr d2.2 (fun a i y1 y2 y3 => ke a i y1 y3)
        · exact cdAt_fr d4.2 (fun a i y1 y2 y3 => kd a i y1 y3)
        · exact cdAt_fr d6 (fun a i y1 y2 y3 => kc a i y1 y3)
        · exact g10
    · rw [is_n hT h (by omega) z, bRs, if_pos rfl, aLe_no z]
      exact m129_s hN hT hv hk h h12 h34 h40 h19 hp hm
theorem tellLaw_M {t m p : Nat} {M : mS} (hN : 5000 ≤ N) (hT : TF T) (hv : v < 2) (hk : k < 4) (h : NM T t s M) (h12 : M.1 64 12 = 0) (h34 : M.1 64 34 = nI m) (h40 : M.1 64 40 = nI p) (h19 : M.1 64 19 = nI v) (hp : p ≤ 420 * v + t) (hm : 4 * m + 1 ≤ 520 * v + t) : Psm T v (4 * v + k) m p M (gJm T s v (4 * v + k) m p (t + 1) (nI m)) (eB (aT T t 23) fun t1 => aLe T 4 t1) (Mo_tellLaw N (nI k) M) := by
  have c2 := hT.2.1
  have ht := h.2.1
  unfold Mo_tellLaw
  rw [show (5 : Int32) = nI (mkK 23) from rfl]
  refine sm_mu (a := 23) (q := 0) (m := m) hT hv h h34 (Nat.le_refl _) (by omega) (by omega) (fun e => ?_) (fun A nA fA => ?_)
  · intro A hA
    obtain ⟨n, rfl⟩ : ∃ n, N = n + 1 := ⟨N - 1, by omega⟩
    dsimp only
    rw [nxs]
    exact m12_f A hA
  · have a34 : A.1 64 34 = nI m := (fA.1 64 34 (by omega)).trans h34
    rw [nxs, a34]
    exact law_m (i := 0) hN hT hv hk (by omega) (by omega) nA ((fA.1 64 12 (by omega)).trans h12) a34 ((fA.1 64 40 (by omega)).trans h40) ((fA.1 64 19 (by omega)).trans h19) (by omega) (by omega)
end
