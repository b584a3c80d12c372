/-! THE STATE both hold: c the garden, R the row of now, X all else (the tape, the fault's place, what can be undone, slots, what is told) -/
def VZ (c : gar) (R : Nat → Int32) : Prop := ∀ k, k < 10 → gG c ≤ (uA k).2 → R (18 + k) = 0
abbrev aux : Type := Nat × (Nat → Int32) × Int32 × Nat × (Nat → Nat → Int32) × (Nat → Bool) × (Nat → Nat → Int32) × Nat × (Nat → Nat) × (Nat → Nat) × (Nat → Bool)
def xT (X : aux) : Nat := X.1
def xB (X : aux) : Nat → Int32 := X.2.1
def xP (X : aux) : Int32 := X.2.2.1
def xU (X : aux) : Nat := X.2.2.2.1
def xH (X : aux) : Nat → Nat → Int32 := X.2.2.2.2.1
def xS (X : aux) : Nat → Bool := X.2.2.2.2.2.1
def xQ (X : aux) : Nat → Nat → Int32 := X.2.2.2.2.2.2.1
def xN (X : aux) : Nat := X.2.2.2.2.2.2.2.1
def xI (X : aux) : Nat → Nat := X.2.2.2.2.2.2.2.2.1
def xO (X : aux) : Nat → Nat := X.2.2.2.2.2.2.2.2.2.1
def xZ (X : aux) : Nat → Bool := X.2.2.2.2.2.2.2.2.2.2
def kC (k : Nat) : Int64 := ([8902227, 140332, 244914, 3650739, 20580147, 24627848, 140723, 627876, 294, 663726, 176741, 14982420, 16052, 635184, 215533, 409031, 13492, 24388712, 4153, 7837267] : List Int64).getD k 0
def kM (k : Nat) : Int64 := ([4562587, 85332, 148869, 1899199, 10492462, 12532058, 85663, 377761, 249, 399641, 107681, 7622660, 11522, 382984, 131638, 247516, 9632, 12387257, 2968, 4019482] : List Int64).getD k 0
def lvA (k : Nat) : Nat := [0, 1, 4, 13, 40, 121, 364].getD k 0
def rowC (c : gar) (C R : Nat → Int32) : Prop := wR c C R ∧ pR c C R ∧ VR c R ∧ VZ c R
def CIt (X : aux) (M : mS) : Prop := M.1 1 1 = nI (xT X) ∧ xT X ≤ 2000 ∧ ∀ i, i < xT X → M.1 2 i = xB X i
def CIu (c : gar) (X : aux) (M : mS) : Prop := M.1 35 1 = 40 ∧ xU X ≤ 40 ∧ M.1 0 12 = nI (xU X) ∧ ∃ w, w < 40 ∧ M.1 0 13 = nI w ∧ ∀ k, k < xU X → rowC c (fun j => M.1 36 (44 * ((w + 40 - k) % 40) + j)) (xH X k)
def CIs (c : gar) (X : aux) (M : mS) : Prop := M.1 37 1 = 3 ∧ ∃ s, s < 8 ∧ M.1 0 14 = nI s ∧ ∀ k, k < 3 → s.testBit k = xS X k ∧ (xS X k = true → rowC c (fun j => M.1 38 (44 * k + j)) (xQ X k))
def CIn (c : gar) (X : aux) (M : mS) : Prop := xN X ≤ 20 ∧ M.1 59 0 = nI (xN X) ∧ ∀ i, i < xN X → xI X i ≤ 30 ∧ xO X i < gH c ∧ M.1 60 i = nI (xI X i) ∧ M.1 61 i = nI (xO X i) ∧ M.1 62 i = if xZ X i = true then 1 else 0
def CI (c : gar) (R : Nat → Int32) (X : aux) (M : mS) : Prop := gC c M ∧ rowC c (M.1 34) R ∧ CIt X M ∧ M.1 0 11 = xP X ∧ CIu c X M ∧ CIs c X M ∧ CIn c X M ∧ ∀ k, k < 20 → M.2 27 k = kC k
def MIt (X : aux) (M : mS) : Prop := M.1 64 2 = nI (xT X) ∧ ∀ i, i < xT X → M.1 65 i = xB X i
def MIu (X : aux) (M : mS) : Prop := M.1 64 53 = nI (xU X) ∧ ∀ k, k < xU X → ∀ j, j < 29 → M.1 98 (29 * (xU X - 1 - k) + j) = xH X k j
def MIs (X : aux) (M : mS) : Prop := ∀ k, k < 3 → M.1 109 k = (if xS X k = true then 1 else 0) ∧ (xS X k = true → ∀ j, j < 29 → M.1 110 (29 * k + j) = xQ X k j)
def MIn (X : aux) (M : mS) : Prop := M.1 64 62 = nI (xN X) ∧ ∀ i, i < xN X → M.1 105 i = nI (xI X i) ∧ M.1 106 i = nI (xO X i) ∧ M.1 107 i = if xZ X i = true then 1 else 0
def MI (c : gar) (v : Nat) (R : Nat → Int32) (X : aux) (M : mS) : Prop := gM c v M ∧ (∀ k, k < 29 → M.1 95 k = R k) ∧ MIt X M ∧ M.1 64 17 = xP X ∧ MIu X M ∧ MIs X M ∧ MIn X M ∧ (∀ k, k < 7 → M.1 102 k = nI (lvA k)) ∧ ∀ k, k < 20 → M.2 71 k = kM k
def INV (M : mS) : Prop := ∃ c v R X, gOk c ∧ CI c R X M ∧ MI c v R X M
/-- what a call leaves: the class's cells are those below 64 -/
def frD (M A : mS) : Prop := (∀ a j, a < 64 → A.1 a j = M.1 a j) ∧ ∀ a j, a < 64 → A.2 a j = M.2 a j
def frU (M A : mS) : Prop := (∀ a j, 64 ≤ a → A.1 a j = M.1 a j) ∧ ∀ a j, 64 ≤ a → A.2 a j = M.2 a j
theorem frD.refl {M : mS} : frD M M := ⟨fun _ _ _ => rfl, fun _ _ _ => rfl⟩
theorem frU.refl {M : mS} : frU M M := ⟨fun _ _ _ => rfl, fun _ _ _ => rfl⟩
theorem frD.trans {A B C : mS} (h : frD A B) (g : frD B C) : frD A C := ⟨fun a j q => (g.1 a j q).trans (h.1 a j q), fun a j q => (g.2 a j q).trans (h.2 a j q)⟩
theorem frU.trans {A B C : mS} (h : frU A B) (g : frU B C) : frU A C := ⟨fun a j q => (g.1 a j q).trans (h.1 a j q), fun a j q => (g.2 a j q).trans (h.2 a j q)⟩
/-- a question to the class: what it may write -/
def frQ (M A : mS) : Prop := (∀ a j, a ≠ 5 → a ≠ 8 → (a < 39 ∨ (59 ≤ a ∧ a ≤ 62) ∨ 64 ≤ a) → A.1 a j = M.1 a j) ∧ A.2 = M.2
theorem frQ.refl {M : mS} : frQ M M := ⟨fun _ _ _ _ _ => rfl, rfl⟩
theorem frQ.trans {A B C : mS} (h : frQ A B) (g : frQ B C) : frQ A C := ⟨fun a j q1 q2 q3 => (g.1 a j q1 q2 q3).trans (h.1 a j q1 q2 q3), g.2.trans h.2⟩
theorem frW.frQ {M A : mS} (h : frW M A) : frQ M A := ⟨fun a j q1 q2 q3 => h.1 a j q1 q2 (by omega), h.2⟩
theorem frQ.wI {M A : mS} (h : frQ M A) {a k : Nat} {x : Int32} (ha : a = 44 ∨ a = 45 ∨ a = 46 ∨ a = 47 ∨ a = 48 ∨ a = 49 ∨ (50 ≤ a ∧ a ≤ 58) ∨ a = 63 ∨ (39 ≤ a ∧ a ≤ 43)) : frQ M (mWI A a k x) := ⟨fun b j q1 q2 q3 => by rw [mWI_ne (by omega)]; exact h.1 b j q1 q2 q3, h.2⟩
theorem frQ.gC {c : gar} {M B : mS} (h : frQ M B) (hM : gC c M) : gC c B := gC_fr hM (fun a j q => h.1 a j (by omega) (by omega) (by omega))
theorem frQ.frU {M A : mS} (h : frQ M A) : frU M A := ⟨fun a j q => h.1 a j (by omega) (by omega) (by omega), fun a j q => by rw [h.2]⟩
/-- a question to the model -/
def frP (M A : mS) : Prop := (∀ a j, a ≠ 93 → a ≠ 94 → a ≠ 96 → a ≠ 97 → a ≠ 99 → a ≠ 100 → a ≠ 101 → a ≠ 103 → a ≠ 104 → a ≠ 108 → (a ≠ 64 ∨ (j ≠ 47 ∧ j ≠ 50 ∧ j ≠ 51 ∧ j ≠ 58)) → A.1 a j = M.1 a j) ∧ A.2 = M.2
theorem frP.refl {M : mS} : frP M M := ⟨fun _ _ _ _ _ _ _ _ _ _ _ _ _ => rfl, rfl⟩
theorem frP.trans {A B C : mS} (h : frP A B) (g : frP B C) : frP A C := ⟨fun a j q1 q2 q3 q4 q5 q6 q7 q8 q9 q10 q11 => (g.1 a j q1 q2 q3 q4 q5 q6 q7 q8 q9 q10 q11).trans (h.1 a j q1 q2 q3 q4 q5 q6 q7 q8 q9 q10 q11), g.2.trans h.2⟩
theorem frM.frP {M A : mS} (h : frM M A) : frP M A := ⟨fun a j q1 q2 q3 q4 q5 q6 q7 q8 q9 q10 q11 => h.1 a j q1 q2 q3 q4 (by omega), h.2⟩
theorem frL.frP {M A : mS} (h : frL M A) : frP M A := h.frM.frP
theorem frP.gM {c : gar} {v : Nat} {M B : mS} (h : frP M B) (hM : gM c v M) : gM c v B := gM_fr hM (fun a j q => h.1 a j (by omega) (by omega) (by omega) (by omega) (by omega) (by omega) (by omega) (by omega) (by omega) (by omega) (by omega))
theorem frP.frD {M A : mS} (h : frP M A) : frD M A := ⟨fun a j q => h.1 a j (by omega) (by omega) (by omega) (by omega) (by omega) (by omega) (by omega) (by omega) (by omega) (by omega) (by omega), fun a j q => by rw [h.2]⟩
theorem rowC_c {c : gar} {C D R : Nat → Int32} (h : rowC c C R) (e : ∀ j, D j = C j) : rowC c D R := by rw [funext e]; exact h
theorem CI_fr {c : gar} {R : Nat → Int32} {X : aux} {M A : mS} (h : CI c R X M) (hf : ∀ a j, a ≠ 5 → a ≠ 8 → (a < 39 ∨ (59 ≤ a ∧ a ≤ 62)) → A.1 a j = M.1 a j) (hl : ∀ j, A.2 27 j = M.2 27 j) : CI c R X A := by
  obtain ⟨h1, h2, ⟨h3, h4, h5⟩, h6, ⟨h7, h8, h9, w, h10, h11, h12⟩, ⟨h13, s, h14, h15, h16⟩, ⟨h17, h18, h19⟩, h20⟩ := h
  have f0 : ∀ a j, a < 39 → a ≠ 5 → a ≠ 8 → A.1 a j = M.1 a j := fun a j q1 q2 q3 => hf a j q2 q3 (Or.inl q1)
  refine ⟨gC_fr h1 (fun a j q => f0 a j (by omega) (by omega) (by omega)), rowC_c h2 (fun j => f0 34 j (by omega) (by omega) (by omega)), ⟨?_, h4, fun i hi => ?_⟩, ?_, ⟨?_, h8, ?_, w, h10, ?_, fun k hk => rowC_c (h12 k hk) (fun j => f0 36 _ (by omega) (by omega) (by omega))⟩, ⟨?_, s, h14, ?_, fun k hk => ⟨(h16 k hk).1, fun q => rowC_c ((h16 k hk).2 q) (fun j => f0 38 _ (by omega) (by omega) (by omega))⟩⟩, ⟨h17, ?_, fun i hi => ?_⟩, fun k hk => by rw [hl]; exact h20 k hk⟩
  · rw [f0 1 1 (by omega) (by omega) (by omega)]; exact h3
  · rw [f0 2 i (by omega) (by omega) (by omega)]; exact h5 i hi
  · rw [f0 0 11 (by omega) (by omega) (by omega)]; exact h6
  · rw [f0 35 1 (by omega) (by omega) (by omega)]; exact h7
  · rw [f0 0 12 (by omega) (by omega) (by omega)]; exact h9
  · rw [f0 0 13 (by omega) (by omega) (by omega)]; exact h11
  · rw [f0 37 1 (by omega) (by omega) (by omega)]; exact h13
  · rw [f0 0 14 (by omega) (by omega) (by omega)]; exact h15
  · rw [hf 59 0 (by omega) (by omega) (by omega)]; exact h18
  · rw [hf 60 i (by omega) (by omega) (by omega), hf 61 i (by omega) (by omega) (by omega), hf 62 i (by omega) (by omega) (by omega)]; exact h19 i hi
theorem MI_fr {c : gar} {v : Nat} {R : Nat → Int32} {X : aux} {M A : mS} (h : MI c v R X M) (hf : ∀ a j, 64 ≤ a → a ≠ 93 → a ≠ 94 → a ≠ 96 → a ≠ 97 → a ≠ 99 → a ≠ 100 → a ≠ 101 → a ≠ 103 → a ≠ 104 → a ≠ 108 → (a ≠ 64 ∨ (j ≠ 47 ∧ j ≠ 50 ∧ j ≠ 51 ∧ j ≠ 58)) → A.1 a j = M.1 a j) (hl : ∀ j, A.2 71 j = M.2 71 j) : MI c v R X A := by
  obtain ⟨h1, h2, ⟨h3, h4⟩, h5, ⟨h6, h7⟩, h8, ⟨h9, h10⟩, h11, h12⟩ := h
  have f0 : ∀ a j, 64 ≤ a → a ≠ 93 ∧ a ≠ 94 ∧ a ≠ 96 ∧ a ≠ 97 ∧ a ≠ 99 ∧ a ≠ 100 ∧ a ≠ 101 ∧ a ≠ 103 ∧ a ≠ 104 ∧ a ≠ 108 ∧ (a ≠ 64 ∨ (j ≠ 47 ∧ j ≠ 50 ∧ j ≠ 51 ∧ j ≠ 58)) → A.1 a j = M.1 a j := fun a j q0 q => hf a j q0 q.1 q.2.1 q.2.2.1 q.2.2.2.1 q.2.2.2.2.1 q.2.2.2.2.2.1 q.2.2.2.2.2.2.1 q.2.2.2.2.2.2.2.1 q.2.2.2.2.2.2.2.2.1 q.2.2.2.2.2.2.2.2.2.1 q.2.2.2.2.2.2.2.2.2.2
  refine ⟨gM_fr h1 (fun a j q => f0 a j (by omega) (by omega)), fun k hk => ?_, ⟨?_, fun i hi => ?_⟩, ?_, ⟨?_, fun k hk j hj => ?_⟩, fun k hk => ⟨?_, fun q j hj => ?_⟩, ⟨?_, fun i hi => ?_⟩, fun k hk => ?_, fun k hk => by rw [hl]; exact h12 k hk⟩
  · rw [f0 95 k (by omega) (by omega)]; exact h2 k hk
  · rw [f0 64 2 (by omega) (by omega)]; exact h3
  · rw [f0 65 i (by omega) (by omega)]; exact h4 i hi
  · rw [f0 64 17 (by omega) (by omega)]; exact h5
  · rw [f0 64 53 (by omega) (by omega)]; exact h6
  · rw [f0 98 _ (by omega) (by omega)]; exact h7 k hk j hj
  · rw [f0 109 k (by omega) (by omega)]; exact (h8 k hk).1
  · rw [f0 110 _ (by omega) (by omega)]; exact (h8 k hk).2 q j hj
  · rw [f0 64 62 (by omega) (by omega)]; exact h9
  · rw [f0 105 i (by omega) (by omega), f0 106 i (by omega) (by omega), f0 107 i (by omega) (by omega)]; exact h10 i hi
  · rw [f0 102 k (by omega) (by omega)]; exact h11 k hk
theorem CI_q {c : gar} {R : Nat → Int32} {X : aux} {M A : mS} (h : CI c R X M) (hf : frQ M A) : CI c R X A := CI_fr h (fun a j q1 q2 q3 => hf.1 a j q1 q2 (by omega)) (fun j => by rw [hf.2])
theorem CI_d {c : gar} {R : Nat → Int32} {X : aux} {M A : mS} (h : CI c R X M) (hf : frD M A) : CI c R X A := CI_fr h (fun a j q1 q2 q3 => hf.1 a j (by omega)) (fun j => hf.2 27 j (by omega))
theorem MI_p {c : gar} {v : Nat} {R : Nat → Int32} {X : aux} {M A : mS} (h : MI c v R X M) (hf : frP M A) : MI c v R X A := MI_fr h (fun a j q0 q1 q2 q3 q4 q5 q6 q7 q8 q9 q10 q11 => hf.1 a j q1 q2 q3 q4 q5 q6 q7 q8 q9 q10 q11) (fun j => by rw [hf.2])
theorem MI_u {c : gar} {v : Nat} {R : Nat → Int32} {X : aux} {M A : mS} (h : MI c v R X M) (hf : frU M A) : MI c v R X A := MI_fr h (fun a j q0 q1 q2 q3 q4 q5 q6 q7 q8 q9 q10 q11 => hf.1 a j q0) (fun j => hf.2 71 j (by omega))
/-- two questions -/
theorem INV_q {c : gar} {v : Nat} {R : Nat → Int32} {X : aux} {M A B : mS} (hc : gOk c) (h : CI c R X M) (g : MI c v R X M) (hf : frQ M A) (hg : frP A B) : INV B := ⟨c, v, R, X, hc, CI_d (CI_q h hf) hg.frD, MI_p (MI_u g hf.frU) hg⟩
