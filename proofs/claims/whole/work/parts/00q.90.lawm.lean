/-! A LAW read: the model -/
section
variable {T : ctx} {t : Nat}
theorem aU_u {q : Nat} {W : List Nat} {O : oc} {r : Nat × sst} (h : aU T t q W O = .ok r) : r.1 = t + 1 := by
  unfold aU at h
  split at h
  · split at h
    · obtain ⟨u, h1, h⟩ := eB_ok h
      injection h with h
      rw [← h]; exact aT_u h1
    · cases h
  · split at h
    · obtain ⟨u, h1, h⟩ := eB_ok h
      injection h with h
      rw [← h]; exact aT_u h1
    · split at h
      · obtain ⟨u, h1, h⟩ := eB_ok h
        injection h with h
        rw [← h]; exact aT_u h1
      · cases h
theorem aG_u {q : Nat} {W : List Nat} {O : oc} {r : Bool × Nat × sst} (h : aG T t q W O = .ok r) : t ≤ r.2.1 := by
  unfold aG at h
  split at h
  · obtain ⟨u, h1, h⟩ := eB_ok h
    injection h with h
    rw [← h]
    have := aT_u h1
    show t ≤ u; omega
  · split at h
    · injection h with h
      rw [← h]; exact Nat.le_refl _
    · obtain ⟨u, h1, h⟩ := eB_ok h
      injection h with h
      rw [← h]
      have := aT_u h1
      show t ≤ u; omega
end
theorem aSum_le {T : ctx} : ∀ {n t : Nat} {x : sst} {u : Nat} {O' : oc}, aSum T n t x = .ok (u, O') → t ≤ u ∧ (x.1 = true → t + 1 ≤ u) := by
  intro n
  induction n with
  | zero => intro t x u O' h; cases h
  | succ n ih =>
    intro t x u O' h
    obtain ⟨un, q, W, O⟩ := x
    cases un with
    | true =>
      have h : (eB (aU T t q W O) fun r => aSum T n r.1 r.2) = .ok (u, O') := h
      obtain ⟨r, h1, h⟩ := eB_ok h
      have := aU_u h1
      have := (ih h).1
      exact ⟨by omega, fun _ => by omega⟩
    | false =>
      have h : (eB (aG T t q W O) fun r => if r.1 = true then aSum T n r.2.1 r.2.2 else Except.ok (r.2.1, r.2.2.2.2.2)) = .ok (u, O') := h
      obtain ⟨r, h1, h⟩ := eB_ok h
      have g := aG_u h1
      refine ⟨?_, fun q => by cases q⟩
      split at h
      · have := (ih h).1; omega
      · injection h with h
        injection h with h
        omega
theorem aX_lt {T : ctx} {t u : Nat} {O : oc} (h : aX T t = .ok (u, O)) : t + 1 ≤ u := (aSum_le h).2 rfl
def frJ (v x nb c : Nat) (M A : mS) : Prop := (∀ a j, (a < 64 ∨ (65 ≤ a ∧ a ≤ 82) ∨ 93 ≤ a ∨ (a = 64 ∧ j ≠ 11 ∧ j ≠ 12 ∧ j ≠ 13 ∧ j ≠ 14 ∧ j ≠ 15 ∧ j ≠ 16 ∧ j ≠ 34 ∧ j ≠ 40 ∧ j ≠ 44) ∨ ((a = 83 ∨ a = 84) ∧ j ≠ x) ∨ (85 ≤ a ∧ a ≤ 89 ∧ (j < nb ∨ 130 * v + 130 ≤ j)) ∨ ((a = 90 ∨ a = 91) ∧ (j < c ∨ 420 * v + 420 ≤ j))) → A.1 a j = M.1 a j) ∧ A.2 = M.2
theorem frJ.refl {v x nb c : Nat} {M : mS} : frJ v x nb c M M := ⟨fun _ _ _ => rfl, rfl⟩
theorem frJ.trans {v x nb c : Nat} {A B C : mS} (h : frJ v x nb c A B) (g : frJ v x nb c B C) : frJ v x nb c A C := ⟨fun a j q => (g.1 a j q).trans (h.1 a j q), g.2.trans h.2⟩
theorem frJ_le {v x nb c nb' c' : Nat} {M A : mS} (h : frJ v x nb' c' M A) (h1 : nb ≤ nb') (h2 : c ≤ c') : frJ v x nb c M A := ⟨fun a j q => h.1 a j (by omega), h.2⟩
theorem frN.frJ {v x nb c : Nat} {M A : mS} (h : frN M A) : frJ v x nb c M A := ⟨fun a j q => h.1 a j (by omega), h.2⟩
theorem frE.frJ {v x nb c b : Nat} {M A : mS} (h : frE b (420 * v) M A) (hb : c ≤ b) : frJ v x nb c M A := ⟨fun a j q => h.1 a j (by omega) (by omega) (by omega), h.2⟩
theorem frJ.frO {v x nb c : Nat} {M A : mS} (h : frJ v x nb c M A) : frO M A := ⟨fun a j q => h.1 a j (by omega), fun a j _ => by rw [h.2]⟩
theorem frJ.w {v x nb c : Nat} {M A : mS} (h : frJ v x nb c M A) {a k : Nat} {y : Int32} (ha : ((a = 83 ∨ a = 84) ∧ k = x) ∨ (85 ≤ a ∧ a ≤ 89 ∧ nb ≤ k ∧ k < 130 * v + 130) ∨ (a = 64 ∧ (k = 34 ∨ k = 44))) : frJ v x nb c M (mWI A a k y) := ⟨fun b j q => by rw [rN (by omega)]; exact h.1 b j q, h.2⟩
section
variable {N : Nat} {T : ctx} {M : mS} {t v x nb c : Nat} {s e : Nat × Nat}
theorem FM.w2 {a k : Nat} {y : Int32} (h : FM T e M) (ha : (83 ≤ a ∧ a ≤ 92) ∨ (a = 64 ∧ (k = 34 ∨ k = 44))) : FM T e (mWI M a k y) := h.fr ⟨fun b j q => rN (by omega), fun _ _ _ => rfl⟩ (fun j q1 q2 q3 => rN (by omega))
theorem NM.w2 {a k : Nat} {y : Int32} (h : NM T t s M) (ha : (83 ≤ a ∧ a ≤ 92) ∨ (a = 64 ∧ (k = 34 ∨ k = 44))) : NM T t s (mWI M a k y) := h.fr ⟨fun b j q => rN (by omega), fun _ _ _ => rfl⟩ (fun j q1 q2 q3 => rN (by omega))
/-! behind a fault -/
def FJ (T : ctx) (e : Nat × Nat) (v nb q : Nat) (A : mS) : Prop := v < 2 ∧ FM T e A ∧ ∃ m, A.1 64 34 = nI m ∧ nb ≤ m ∧ m + q ≤ 130 * v + 129
def gJ (T : ctx) (e : Nat × Nat) (v x nb c q : Nat) (K : mS → Option mS) : Prop := ∀ A, FJ T e v nb q A → ∃ B, K A = some B ∧ FM T e B ∧ frJ v x nb c A B
theorem t24_s {m : Nat} (h : M.1 64 34 = nI m) (hm : m < 260) : Mo_term_24 N M = some (mWI (mWI M 89 m (M.1 64 40)) 64 34 (nI (m + 1))) := by
  unfold Mo_term_24
  rw [h, grd_in hm (by omega), clp (by omega), nxs, mWI_ne (by omega), h, nxs, show nI m + 1 = nI (m + 1) from nI_add _ 1]
theorem term_f {q : Nat} (h : FJ T e v nb (q + 1) M) : ∃ B, Mo_term N M = some B ∧ FJ T e v nb q B ∧ frJ v x nb c M B := by
  obtain ⟨hv, h1, m, h2, h3, h4⟩ := h
  have f1 := h1.w2 (a := 88) (k := m) (y := M.1 64 40) (by omega)
  refine ⟨mWI (mWI (mWI M 88 m (M.1 64 40)) 89 m ((mWI M 88 m (M.1 64 40)).1 64 40)) 64 34 (nI (m + 1)), ?_, ⟨hv, (f1.w2 (by omega)).w2 (by omega), m + 1, rI rfl, by omega, by omega⟩, ((frJ.refl.w (by omega)).w (by omega)).w (by omega)⟩
  unfold Mo_term
  rw [h2, grd_in (by omega) (by omega), clp (by omega), nxs, if_neg f1.pos.2.1, t24_s (by rw [mWI_ne (by omega)]; exact h2) (by omega)]
theorem m129_f {x1 x2 : Int32} : gJ T e v x nb c 0 (Mo_tellLaw_129 N x1 x2) := by
  intro M h
  obtain ⟨hv, h1, m, h2, h3, h4⟩ := h
  have f1 := h1.w2 (a := 85) (k := m) (y := vp_nar .boolean 0) (by omega)
  have f2 := f1.w2 (a := 88) (k := m) (y := (mWI M 85 m (vp_nar .boolean 0)).1 64 40) (by omega)
  have f3 := (f2.w2 (a := 89) (k := m) (y := (mWI (mWI M 85 m (vp_nar .boolean 0)) 88 m ((mWI M 85 m (vp_nar .boolean 0)).1 64 40)).1 64 40) (by omega)).w2 (a := 64) (k := 34) (y := nI (m + 1)) (by omega)
  refine ⟨_, ?_, f3, (((frJ.refl.w (by omega)).w (by omega)).w (by omega)).w (by omega)⟩
  unfold Mo_tellLaw_129 Mo_term
  rw [h2, grd_in (by omega) (by omega), clp (by omega), nxs, mWI_ne (show (64 : Nat) ≠ 85 by omega), h2, grd_in (by omega) (by omega), clp (by omega), nxs]
  rw [mWI_ne (show (64 : Nat) ≠ 85 by omega)] at f2 f3
  rw [if_neg f2.pos.2.1, t24_s (m := m) (by rw [mWI_ne (by omega), mWI_ne (by omega)]; exact h2) (by omega), bVs, must_f f3, bVs, if_neg f3.pos.1]
theorem m12_f {f : Nat} {x1 x2 x3 : Int32} : gJ T e v x nb c 0 (Mo_tellLaw_12 N (f + 1) x1 x2 x3) := by
  intro M h
  rw [Mo_tellLaw_12, if_neg h.2.1.pos.2.1]
  exact m129_f M h
theorem m110_f {k12 : Int32 → Int32 → Int32 → mS → Option mS} {x1 x2 x3 : Int32} (hk : gJ T e v x nb c 0 (k12 x1 x2 x3)) : gJ T e v x nb c 1 (Mo_tellLaw_110 N k12 x1 x2 x3) := by
  intro M h
  obtain ⟨B, eB1, fB, rB⟩ := term_f (N := N) (x := x) (c := c) (q := 0) h
  obtain ⟨C, eC, fC, rC⟩ := hk B fB
  refine ⟨C, ?_, fC, rB.trans rC⟩
  unfold Mo_tellLaw_110
  rw [must_f h.2.1, bVs, eB1, bVs, must_f fB.2.1, bVs, eC]
theorem ex_f (hN : 5000 ≤ N) (h : FM T e M) : Mo_expression N M = some (mWI M 64 44 0) := by
  obtain ⟨n, rfl⟩ : ∃ n, N = n + 1 := ⟨N - 1, by omega⟩
  unfold Mo_expression
  rw [nxs, nxs, Mo_expression_12, if_neg (by decide), if_neg (h.w2 (by omega)).pos.2.1]
theorem FJ.w {q a k : Nat} {y : Int32} (h : FJ T e v nb q M) (ha : (83 ≤ a ∧ a ≤ 92) ∨ (a = 64 ∧ k = 44)) : FJ T e v nb q (mWI M a k y) := by
  obtain ⟨hv, h1, m, h2, h3, h4⟩ := h
  exact ⟨hv, h1.w2 (by omega), m, by rw [rN (by omega)]; exact h2, h3, h4⟩
def n4 (N : Nat) (k12 : Int32 → Int32 → Int32 → mS → Option mS) (x1 x2 x3 : Int32) (M26 : mS) : Option mS := grd (mIn (M26.1 64 34) 260) (nxt (mWI M26 87 (M26.1 64 34).toNatClampNeg (M26.1 64 40)) fun M28 => if (M28.1 64 13) = 0 then (bV (Mo_expression N M28) fun M30 => Mo_tellLaw_110 N k12 x1 x2 (x3 + 1) M30) else (Mo_tellLaw_110 N k12 x1 x2 (x3 + 1) M28))
def n3 (N : Nat) (k12 : Int32 → Int32 → Int32 → mS → Option mS) (x1 x2 x3 : Int32) (M24 : mS) : Option mS := bV (Mo_must N 13 M24) fun M26 => n4 N k12 x1 x2 x3 M26
def n2 (N : Nat) (k12 : Int32 → Int32 → Int32 → mS → Option mS) (x1 x2 x3 : Int32) (M18 : mS) : Option mS := grd (mIn (M18.1 64 34) 260) (nxt (mWI M18 85 (M18.1 64 34).toNatClampNeg (vp_nar .boolean 1)) fun M20 => grd (mIn (M20.1 64 34) 260) (nxt (mWI M20 86 (M20.1 64 34).toNatClampNeg (M20.1 64 40)) fun M22 => bV (Mo_expression N M22) fun M24 => n3 N k12 x1 x2 x3 M24))
theorem m38_eq {k12 : Int32 → Int32 → Int32 → mS → Option mS} {x1 x2 x3 : Int32} : Mo_tellLaw_38 N k12 x1 x2 x3 M = if (M.1 64 13) ≤ 0 then (bV (Mo_goesOn N M) fun M18 => n2 N k12 x1 x2 x3 M18) else (some M) := rfl
variable {k12 : Int32 → Int32 → Int32 → mS → Option mS} {x1 x2 x3 : Int32}
theorem n4_f (hk : gJ T e v x nb c 0 (k12 x1 x2 (x3 + 1))) : gJ T e v x nb c 1 (n4 N k12 x1 x2 x3) := by
  intro M h
  obtain ⟨hv, h1, m, h2, h3, h4⟩ := id h
  have f1 := h.w (a := 87) (k := m) (y := M.1 64 40) (by omega)
  obtain ⟨B, eB1, fB, rB⟩ := m110_f (N := N) hk _ f1
  refine ⟨B, ?_, fB, (frJ.refl.w (by omega)).trans rB⟩
  unfold n4
  rw [h2, grd_in (by omega) (by omega), clp (by omega), nxs, if_neg f1.2.1.pos.2.1, eB1]
theorem n3_f (hk : gJ T e v x nb c 0 (k12 x1 x2 (x3 + 1))) : gJ T e v x nb c 1 (n3 N k12 x1 x2 x3) := by
  intro M h
  unfold n3
  rw [must_f h.2.1, bVs]
  exact n4_f hk M h
theorem n2_f (hN : 5000 ≤ N) (hk : gJ T e v x nb c 0 (k12 x1 x2 (x3 + 1))) : gJ T e v x nb c 1 (n2 N k12 x1 x2 x3) := by
  intro M h
  obtain ⟨hv, h1, m, h2, h3, h4⟩ := id h
  have f1 := (h.w (a := 85) (k := m) (y := vp_nar .boolean 1) (by omega)).w (a := 86) (k := m) (y := M.1 64 40) (by omega)
  have f2 := f1.w (a := 64) (k := 44) (y := 0) (by omega)
  obtain ⟨B, eB1, fB, rB⟩ := n3_f (N := N) hk _ f2
  refine ⟨B, ?_, fB, (((frJ.refl.w (by omega)).w (by omega)).w (by omega)).trans rB⟩
  unfold n2
  rw [h2, grd_in (by omega) (by omega), clp (by omega), nxs, mWI_ne (show (64 : Nat) ≠ 85 by omega), h2, grd_in (by omega) (by omega), clp (by omega), nxs, ex_f hN f1.2.1, bVs, eB1]
/-! the normal way -/
def Psm {R : Type} (T : ctx) (v x nb c : Nat) (M : mS) (G : R → mS → Prop) (y : Except (Nat × Nat) R) (res : Option mS) : Prop := match y with
  | .ok r => ∃ A, res = some A ∧ G r A ∧ frJ v x nb c M A
  | .error e => ∃ A, res = some A ∧ FM T e A ∧ frJ v x nb c M A
theorem Psm_fr {R : Type} {A : mS} {G : R → mS → Prop} {y : Except (Nat × Nat) R} {res : Option mS} (h : Psm T v x nb c A G y res) (f : frJ v x nb c M A) : Psm T v x nb c M G y res := by
  unfold Psm at *
  cases y with
  | error e =>
    obtain ⟨B, e1, e2, e3⟩ := h
    exact ⟨B, e1, e2, f.trans e3⟩
  | ok r =>
    obtain ⟨B, e1, e2, e3⟩ := h
    exact ⟨B, e1, e2, f.trans e3⟩
theorem Psm_map {R S : Type} {nb' c' : Nat} {G : R → mS → Prop} {G' : S → mS → Prop} {g : R → S} {y : Except (Nat × Nat) R} {res : Option mS} (h : Psm T v x nb' c' M G y res) (h1 : nb ≤ nb') (h2 : c ≤ c') (hg : ∀ r A, G r A → frJ v x nb' c' M A → G' (g r) A) : Psm T v x nb c M G' (eB y fun r => .ok (g r)) res := by
  unfold Psm at *
  cases y with
  | error e =>
    obtain ⟨B, e1, e2, e3⟩ := h
    exact ⟨B, e1, e2, frJ_le e3 h1 h2⟩
  | ok r =>
    obtain ⟨B, e1, e2, e3⟩ := h
    exact ⟨B, e1, hg r B e2 e3, frJ_le e3 h1 h2⟩
theorem Psm_err {R : Type} {A : mS} {q : Nat} {G : R → mS → Prop} {K : mS → Option mS} (hk : gJ T e v x nb c q K) (h : FJ T e v nb q A) (f : frJ v x nb c M A) : Psm T v x nb c M G (Except.error e : Except (Nat × Nat) R) (K A) := by
  obtain ⟨B, e1, e2, e3⟩ := hk A h
  exact ⟨B, e1, e2, f.trans e3⟩
theorem sm_mu {R : Type} {a m q : Nat} {K : mS → Option mS} {F : Nat → Except (Nat × Nat) R} {G : R → mS → Prop} (hT : TF T) (hv : v < 2) (h : NM T t s M) (h34 : M.1 64 34 = nI m) (hm : nb ≤ m) (hm2 : m + q ≤ 130 * v + 129) (ha : a ≤ 30) (hF : ∀ e, gJ T e v x nb c q K) (hk : ∀ A, NM T (t + 1) s A → frN M A → Psm T v x nb c A G (F (t + 1)) (K A)) : Psm T v x nb c M G (eB (aT T t a) F) (bV (Mo_must N (nI (mkK a)) M) K) := by
  have tk := must_s (N := N) hT h ha
  cases ea : aT T t a with
  | error e =>
    rw [ea] at tk
    obtain ⟨A, eA, fA, rA⟩ := tk
    rw [eA, bVs, eB_e]
    exact Psm_err (hF e) ⟨hv, fA, m, (rA.1 64 34 (by omega)).trans h34, hm, hm2⟩ rA.frJ
  | ok u =>
    rw [ea] at tk
    obtain ⟨rfl, k0, A, eA, nA, rA⟩ := tk
    rw [eA, bVs, eB_o]
    exact Psm_fr (hk A nA rA) rA.frJ
theorem exprL (hN : 5000 ≤ N) (hT : TF T) (hv : v < 2) (h : NM T t s M) (h12 : M.1 64 12 = 0) {p : Nat} (h40 : M.1 64 40 = nI p) (hp : p ≤ 420 * v + t) : match aX T t with
    | .ok (u, O) => t + 1 ≤ u ∧ bOk O ∧ ∃ A, Mo_expression N M = some A ∧ NM T u s A ∧ cdM p O A ∧ A.1 64 12 = 0 ∧ p + O.length ≤ 420 * v + u ∧ frE p (420 * v) M A
    | .error e => ∃ A, Mo_expression N M = some A ∧ FM T e A ∧ frE p (420 * v) M A := by
  have k := sum_M (N := N) (b := p) (w0 := 420 * v) hN hT h ⟨h40, fun i x hx => by cases hx⟩ h12 hp (by omega)
  cases e : aX T t with
  | error e0 => rw [e] at k; exact k
  | ok r =>
    obtain ⟨u, O⟩ := r
    rw [e] at k
    obtain ⟨tu, A, e1, e2, e3, e4, e5, e6⟩ := k
    exact ⟨aX_lt e, aX_h hT h.2.1 e, A, e1, e2, e3, e4, e5, e6⟩
theorem sm_ex {R : Type} {m q p : Nat} {K : mS → Option mS} {F : Nat × oc → Except (Nat × Nat) R} {G : R → mS → Prop} (hN : 5000 ≤ N) (hT : TF T) (hv : v < 2) (h : NM T t s M) (h34 : M.1 64 34 = nI m) (hm : nb ≤ m) (hm2 : m + q ≤ 130 * v + 129) (h12 : M.1 64 12 = 0) (h40 : M.1 64 40 = nI p) (hp : p ≤ 420 * v + t) (hc : c ≤ p) (hF : ∀ e, gJ T e v x nb c q K) (hk : ∀ u O A, t + 1 ≤ u → bOk O → NM T u s A → cdM p O A → A.1 64 12 = 0 → p + O.length ≤ 420 * v + u → frE p (420 * v) M A → Psm T v x nb c A G (F (u, O)) (K A)) : Psm T v x nb c M G (eB (aX T t) F) (bV (Mo_expression N M) K) := by
  have k := exprL (N := N) hN hT hv h h12 h40 hp
  cases e : aX T t with
  | error e0 =>
    rw [e] at k
    obtain ⟨A, e1, e2, e3⟩ := k
    rw [e1, bVs, eB_e]
    exact Psm_err (hF e0) ⟨hv, e2, m, (e3.1 64 34 (by omega) (by omega) (by omega)).trans h34, hm, hm2⟩ (e3.frJ hc)
  | ok r =>
    obtain ⟨u, O⟩ := r
    rw [e] at k
    obtain ⟨tu, hO, A, e1, e2, e3, e4, e5, e6⟩ := k
    rw [e1, bVs, eB_o]
    exact Psm_fr (hk u O A tu hO e2 e3 e4 e5 e6) (e6.frJ hc)
/-- a term at m, from code p on; what it leaves as it was -/
def frTm (v m p : Nat) (M A : mS) : Prop := (∀ a j, a ≠ 64 → a ≠ 92 → ((a ≠ 88 ∧ a ≠ 89) ∨ j ≠ m) → ((a ≠ 90 ∧ a ≠ 91) ∨ j < p ∨ 420 * v + 420 ≤ j) → A.1 a j = M.1 a j) ∧ (∀ j, j ≠ 11 → j ≠ 12 → j ≠ 13 → j ≠ 14 → j ≠ 15 → j ≠ 16 → j ≠ 34 → j ≠ 40 → j ≠ 44 → A.1 64 j = M.1 64 j) ∧ A.2 = M.2
theorem frTm.frJ {m p : Nat} {A : mS} (h : frTm v m p M A) (hm : nb ≤ m) (hm2 : m < 130 * v + 130) (hp : c ≤ p) : frJ v x nb c M A := ⟨fun a j q => by
  by_cases z : a = 64
  · subst z; exact h.2.1 j (by omega) (by omega) (by omega) (by omega) (by omega) (by omega) (by omega) (by omega) (by omega)
  · exact h.1 a j z (by omega) (by omega) (by omega), h.2.2⟩
theorem term_s {m p : Nat} (hN : 5000 ≤ N) (hT : TF T) (hv : v < 2) (h : NM T t s M) (h34 : M.1 64 34 = nI m) (hm : m < 260) (h12 : M.1 64 12 = 0) (h40 : M.1 64 40 = nI p) (hp : p ≤ 420 * v + t) : match aX T t with
    | .ok (u, O) => t + 1 ≤ u ∧ bOk O ∧ ∃ A, Mo_term N M = some A ∧ NM T u s A ∧ cdAt p O A ∧ A.1 64 12 = 0 ∧ A.1 64 34 = nI (m + 1) ∧ A.1 64 40 = nI (p + O.length) ∧ A.1 88 m = nI p ∧ A.1 89 m = nI (p + O.length) ∧ p + O.length ≤ 420 * v + u ∧ frTm v m p M A
    | .error e => ∃ A, Mo_term N M = some A ∧ FM T e A ∧ A.1 64 34 = nI (m + 1) ∧ frTm v m p M A := by
  have n1 := h.w2 (a := 88) (k := m) (y := nI p) (by omega)
  have k := exprL (N := N) hN hT hv n1 (by rw [mWI_ne (by omega)]; exact h12) (p := p) (by rw [mWI_ne (by omega)]; exact h40) hp
  have base : Mo_term N M = bV (Mo_expression N (mWI M 88 m (nI p))) fun M7 => Mo_term_24 N M7 := by
    unfold Mo_term
    rw [h34, grd_in hm (by omega), clp (by omega), h40, nxs, if_pos n1.2.2.2.1]
  cases e : aX T t with
  | error e0 =>
    rw [e] at k
    obtain ⟨A, e1, e2, e3⟩ := k
    have a34 : A.1 64 34 = nI m := by rw [e3.1 64 34 (by omega) (by omega) (by omega), mWI_ne (by omega)]; exact h34
    refine ⟨_, by rw [base, e1, bVs, t24_s a34 hm], (e2.w2 (by omega)).w2 (by omega), rI rfl, ⟨fun a j q1 q2 q3 q4 => ?_, fun j q1 q2 q3 q4 q5 q6 q7 q8 q9 => ?_, by rw [mWI_L, mWI_L, e3.2]; rfl⟩⟩
    · rw [mWI_ne q1, rN (by omega), e3.1 a j q2 (by omega) (by omega), rN (by omega)]
    · rw [rN (by omega), mWI_ne (by omega), e3.1 64 j (by omega) (by omega) (by omega), mWI_ne (by omega)]
  | ok r =>
    obtain ⟨u, O⟩ := r
    rw [e] at k
    obtain ⟨tu, hO, A, e1, e2, e3, e4, e5, e6⟩ := k
    have a34 : A.1 64 34 = nI m := by rw [e6.1 64 34 (by omega) (by omega) (by omega), mWI_ne (by omega)]; exact h34
    refine ⟨tu, hO, _, by rw [base, e1, bVs, t24_s a34 hm], (e2.w2 (by omega)).w2 (by omega), fun i y hy => ?_, ?_, rI rfl, ?_, ?_, ?_, e5, ⟨fun a j q1 q2 q3 q4 => ?_, fun j q1 q2 q3 q4 q5 q6 q7 q8 q9 => ?_, by rw [mWI_L, mWI_L, e6.2]; rfl⟩⟩
    · rw [mWI_ne (by omega), mWI_ne (by omega), mWI_ne (by omega), mWI_ne (by omega)]; exact e3.2 i y hy
    · rw [rN (by omega), mWI_ne (by omega)]; exact e4
    · rw [rN (by omega), mWI_ne (by omega)]; exact e3.1
    · rw [mWI_ne (by omega), mWI_ne (by omega), e6.1 88 m (by omega) (by omega) (by omega), rI rfl]
    · rw [mWI_ne (by omega), rI rfl]; exact e3.1
    · rw [mWI_ne q1, rN (by omega), e6.1 a j q2 (by omega) (by omega), rN (by omega)]
    · rw [rN (by omega), mWI_ne (by omega), e6.1 64 j (by omega) (by omega) (by omega), mWI_ne (by omega)]
theorem sm_tm {R : Type} {m q p : Nat} {K : mS → Option mS} {F : Nat × oc → Except (Nat × Nat) R} {G : R → mS → Prop} (hN : 5000 ≤ N) (hT : TF T) (hv : v < 2) (h : NM T t s M) (h34 : M.1 64 34 = nI m) (hm : nb ≤ m) (hm2 : m + 1 + q ≤ 130 * v + 129) (h12 : M.1 64 12 = 0) (h40 : M.1 64 40 = nI p) (hp : p ≤ 420 * v + t) (hc : c ≤ p) (hF : ∀ e, gJ T e v x nb c q K) (hk : ∀ u O A, t + 1 ≤ u → bOk O → NM T u s A → cdAt p O A → A.1 64 12 = 0 → A.1 64 34 = nI (m + 1) → A.1 64 40 = nI (p + O.length) → A.1 88 m = nI p → A.1 89 m = nI (p + O.length) → p + O.length ≤ 420 * v + u → frTm v m p M A → Psm T v x nb c A G (F (u, O)) (K A)) : Psm T v x nb c M G (eB (aX T t) F) (bV (Mo_term N M) K) := by
  have k := term_s (N := N) hN hT hv h h34 (by omega) h12 h40 hp
  cases e : aX T t with
  | error e0 =>
    rw [e] at k
    obtain ⟨A, e1, e2, e4, e3⟩ := k
    rw [e1, bVs, eB_e]
    exact Psm_err (hF e0) ⟨hv, e2, m + 1, e4, by omega, by omega⟩ (e3.frJ hm (by omega) hc)
  | ok r =>
    obtain ⟨u, O⟩ := r
    rw [e] at k
    obtain ⟨tu, hO, A, e1, e2, e3, e4, e5, e6, e7, e8, e9, e10⟩ := k
    rw [e1, bVs, eB_o]
    exact Psm_fr (hk u O A tu hO e2 e3 e4 e5 e6 e7 e8 e9 e10) (e10.frJ hm (by omega) hc)
end
