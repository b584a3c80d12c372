/-! parts of the state under a frame -/
theorem CIt_fr {X : aux} {M A : mS} (h : CIt X M) (h1 : A.1 1 1 = M.1 1 1) (h2 : ∀ i, A.1 2 i = M.1 2 i) : CIt X A := ⟨h1.trans h.1, h.2.1, fun i hi => (h2 i).trans (h.2.2 i hi)⟩
theorem CIu_fr {c : gar} {X : aux} {M A : mS} (h : CIu c X M) (h1 : A.1 35 1 = M.1 35 1) (h2 : A.1 0 12 = M.1 0 12) (h3 : A.1 0 13 = M.1 0 13) (h4 : ∀ i, A.1 36 i = M.1 36 i) : CIu c X A := by
  obtain ⟨g1, g2, g3, w, g4, g5, g6⟩ := h
  exact ⟨h1.trans g1, g2, h2.trans g3, w, g4, h3.trans g5, fun k hk => rowC_c (g6 k hk) (fun j => h4 _)⟩
theorem CIs_fr {c : gar} {X : aux} {M A : mS} (h : CIs c X M) (h1 : A.1 37 1 = M.1 37 1) (h2 : A.1 0 14 = M.1 0 14) (h4 : ∀ i, A.1 38 i = M.1 38 i) : CIs c X A := by
  obtain ⟨g1, s, g2, g3, g4⟩ := h
  exact ⟨h1.trans g1, s, g2, h2.trans g3, fun k hk => ⟨(g4 k hk).1, fun q => rowC_c ((g4 k hk).2 q) (fun j => h4 _)⟩⟩
theorem CIn_fr {c : gar} {X : aux} {M A : mS} (h : CIn c X M) (h1 : A.1 59 0 = M.1 59 0) (h2 : ∀ i, A.1 60 i = M.1 60 i) (h3 : ∀ i, A.1 61 i = M.1 61 i) (h4 : ∀ i, A.1 62 i = M.1 62 i) : CIn c X A := by
  obtain ⟨g1, g2, g3⟩ := h
  refine ⟨g1, h1.trans g2, fun i hi => ?_⟩
  rw [h2, h3, h4]; exact g3 i hi
theorem MIt_fr {X : aux} {M A : mS} (h : MIt X M) (h1 : A.1 64 2 = M.1 64 2) (h2 : ∀ i, A.1 65 i = M.1 65 i) : MIt X A := ⟨h1.trans h.1, fun i hi => (h2 i).trans (h.2 i hi)⟩
theorem MIu_fr {X : aux} {M A : mS} (h : MIu X M) (h1 : A.1 64 53 = M.1 64 53) (h2 : ∀ i, A.1 98 i = M.1 98 i) : MIu X A := ⟨h1.trans h.1, fun k hk j hj => (h2 _).trans (h.2 k hk j hj)⟩
theorem MIs_fr {X : aux} {M A : mS} (h : MIs X M) (h1 : ∀ i, A.1 109 i = M.1 109 i) (h2 : ∀ i, A.1 110 i = M.1 110 i) : MIs X A := fun k hk => ⟨(h1 k).trans (h k hk).1, fun q j hj => (h2 _).trans ((h k hk).2 q j hj)⟩
theorem MIn_fr {X : aux} {M A : mS} (h : MIn X M) (h1 : A.1 64 62 = M.1 64 62) (h2 : ∀ i, A.1 105 i = M.1 105 i) (h3 : ∀ i, A.1 106 i = M.1 106 i) (h4 : ∀ i, A.1 107 i = M.1 107 i) : MIn X A := by
  refine ⟨h1.trans h.1, fun i hi => ?_⟩
  rw [h2, h3, h4]; exact h.2 i hi
/-! THE TAPE -/
def byt (w k : Int32) : Int32 := vp_nar .byte ((w >>> (k &&& 31)).toInt8.toInt32)
def b4 (b : Nat → Int32) (t : Nat) (w : Int32) : Nat → Int32 := upd (upd (upd (upd b t (byt w 24)) (t + 1) (byt w 16)) (t + 2) (byt w 8)) (t + 3) (byt w 0)
def tpC (t : Nat) (b : Nat → Int32) (M : mS) : Prop := M.1 1 1 = nI t ∧ ∀ i, i < t → M.1 2 i = b i
def tpM (t : Nat) (b : Nat → Int32) (M : mS) : Prop := M.1 64 2 = nI t ∧ ∀ i, i < t → M.1 65 i = b i
def frT (M A : mS) : Prop := (∀ a j, a ≠ 1 → a ≠ 2 → A.1 a j = M.1 a j) ∧ A.2 = M.2
def frS (M A : mS) : Prop := (∀ a j, a ≠ 65 → (a ≠ 64 ∨ j ≠ 2) → A.1 a j = M.1 a j) ∧ A.2 = M.2
theorem frT.refl {M : mS} : frT M M := ⟨fun _ _ _ _ => rfl, rfl⟩
theorem frS.refl {M : mS} : frS M M := ⟨fun _ _ _ _ => rfl, rfl⟩
theorem frT.trans {A B C : mS} (h : frT A B) (g : frT B C) : frT A C := ⟨fun a j q1 q2 => (g.1 a j q1 q2).trans (h.1 a j q1 q2), g.2.trans h.2⟩
theorem frS.trans {A B C : mS} (h : frS A B) (g : frS B C) : frS A C := ⟨fun a j q1 q2 => (g.1 a j q1 q2).trans (h.1 a j q1 q2), g.2.trans h.2⟩
theorem add1 {N n t : Nat} {b : Nat → Int32} {w k : Int32} {M : mS} (hk : ¬ k < 0) (h : tpC t b M) (ht : t < 2000) : ∃ A, Tp_add_3 N (n + 1) w k M = Tp_add_3 N n w (k + (-8)) A ∧ tpC (t + 1) (upd b t (byt w k)) A ∧ frT M A := by
  refine ⟨mWI (mWI M 2 t (byt w k)) 1 1 (nI (t + 1)), ?_, ⟨rI rfl, fun i hi => ?_⟩, fun a j q1 q2 => ?_, rfl⟩
  · rw [Tp_add_3, if_neg hk, h.1]
    simp (disch := omega) only [li, leP, if_neg, grd_in, clp, nxs, mWI_ne, h.1, nI_add]
    rfl
  · rw [mWI_ne (by omega)]
    by_cases e : i = t
    · subst e; rw [rI rfl, pk_us]
    · rw [rN (by omega), pk_un e]; exact h.2 i (by omega)
  · rw [mWI_ne q1, mWI_ne q2]
theorem lay1 {N n t : Nat} {b : Nat → Int32} {w k : Int32} {M : mS} (hk : ¬ k < 0) (h : tpM t b M) (ht : t < 2000) : ∃ A, Mo_lays_3 N (n + 1) w k M = Mo_lays_3 N n w (k + (-8)) A ∧ tpM (t + 1) (upd b t (byt w k)) A ∧ frS M A := by
  refine ⟨mWI (mWI M 65 t (byt w k)) 64 2 (nI (t + 1)), ?_, ⟨rI rfl, fun i hi => ?_⟩, fun a j q1 q2 => ?_, rfl⟩
  · rw [Mo_lays_3, if_neg hk, h.1]
    simp (disch := omega) only [li, grd_in, clp, nxs, mWI_ne, h.1, nI_add]
    rfl
  · rw [mWI_ne (by omega)]
    by_cases e : i = t
    · subst e; rw [rI rfl, pk_us]
    · rw [rN (by omega), pk_un e]; exact h.2 i (by omega)
  · rw [rN (by omega), mWI_ne q1]
theorem add4 {N t : Nat} {b : Nat → Int32} {w : Int32} {M : mS} (hN : 1000 ≤ N) (h : tpC t b M) (ht : t + 4 ≤ 2000) : ∃ A, Tp_add N w M = some A ∧ tpC (t + 4) (b4 b t w) A ∧ frT M A := by
  obtain ⟨n, rfl⟩ : ∃ n, N = n + 5 := ⟨N - 5, by omega⟩
  obtain ⟨A1, e1, t1, f1⟩ := add1 (N := n + 5) (n := n + 4) (w := w) (k := 24) (by decide) h (by omega)
  obtain ⟨A2, e2, t2, f2⟩ := add1 (N := n + 5) (n := n + 3) (w := w) (k := 16) (by decide) t1 (by omega)
  obtain ⟨A3, e3, t3, f3⟩ := add1 (N := n + 5) (n := n + 2) (w := w) (k := 8) (by decide) t2 (by omega)
  obtain ⟨A4, e4, t4, f4⟩ := add1 (N := n + 5) (n := n + 1) (w := w) (k := 0) (by decide) t3 (by omega)
  refine ⟨A4, ?_, t4, ((f1.trans f2).trans f3).trans f4⟩
  unfold Tp_add
  rw [e1, show (24 : Int32) + (-8) = 16 from rfl, e2, show (16 : Int32) + (-8) = 8 from rfl, e3, show (8 : Int32) + (-8) = 0 from rfl, e4, Tp_add_3, if_pos (by decide)]
theorem lay4 {N t : Nat} {b : Nat → Int32} {w : Int32} {M : mS} (hN : 1000 ≤ N) (h : tpM t b M) (ht : t + 4 ≤ 2000) : ∃ A, Mo_lays N w M = some A ∧ tpM (t + 4) (b4 b t w) A ∧ frS M A := by
  obtain ⟨n, rfl⟩ : ∃ n, N = n + 5 := ⟨N - 5, by omega⟩
  obtain ⟨A1, e1, t1, f1⟩ := lay1 (N := n + 5) (n := n + 4) (w := w) (k := 24) (by decide) h (by omega)
  obtain ⟨A2, e2, t2, f2⟩ := lay1 (N := n + 5) (n := n + 3) (w := w) (k := 16) (by decide) t1 (by omega)
  obtain ⟨A3, e3, t3, f3⟩ := lay1 (N := n + 5) (n := n + 2) (w := w) (k := 8) (by decide) t2 (by omega)
  obtain ⟨A4, e4, t4, f4⟩ := lay1 (N := n + 5) (n := n + 1) (w := w) (k := 0) (by decide) t3 (by omega)
  refine ⟨A4, ?_, t4, ((f1.trans f2).trans f3).trans f4⟩
  unfold Mo_lays
  rw [e1, show (24 : Int32) + (-8) = 16 from rfl, e2, show (16 : Int32) + (-8) = 8 from rfl, e3, show (8 : Int32) + (-8) = 0 from rfl, e4, Mo_lays_3, if_pos (by decide)]
theorem CI_t {c : gar} {R : Nat → Int32} {X : aux} {M A : mS} (h : CI c R X M) (hf : frT M A) {t : Nat} {b : Nat → Int32} (ht : t ≤ 2000) (hA : tpC t b A) : CI c R (t, b, X.2.2) A := by
  obtain ⟨h1, h2, h3, h4, h5, h6, h7, h8⟩ := h
  exact ⟨gC_fr h1 (fun a j q => hf.1 a j (by omega) (by omega)), rowC_c h2 (fun j => hf.1 34 j (by omega) (by omega)), ⟨hA.1, ht, hA.2⟩, (hf.1 0 11 (by omega) (by omega)).trans h4, CIu_fr h5 (hf.1 _ _ (by omega) (by omega)) (hf.1 _ _ (by omega) (by omega)) (hf.1 _ _ (by omega) (by omega)) (fun i => hf.1 _ _ (by omega) (by omega)), CIs_fr h6 (hf.1 _ _ (by omega) (by omega)) (hf.1 _ _ (by omega) (by omega)) (fun i => hf.1 _ _ (by omega) (by omega)), CIn_fr h7 (hf.1 _ _ (by omega) (by omega)) (fun i => hf.1 _ _ (by omega) (by omega)) (fun i => hf.1 _ _ (by omega) (by omega)) (fun i => hf.1 _ _ (by omega) (by omega)), fun k hk => by rw [hf.2]; exact h8 k hk⟩
theorem MI_t {c : gar} {v : Nat} {R : Nat → Int32} {X : aux} {M A : mS} (h : MI c v R X M) (hf : frS M A) {t : Nat} {b : Nat → Int32} (hA : tpM t b A) : MI c v R (t, b, X.2.2) A := by
  obtain ⟨h1, h2, h3, h4, h5, h6, h7, h8, h9⟩ := h
  exact ⟨gM_fr h1 (fun a j q => hf.1 a j (by omega) (by omega)), fun k hk => (hf.1 95 k (by omega) (by omega)).trans (h2 k hk), hA, (hf.1 64 17 (by omega) (by omega)).trans h4, MIu_fr h5 (hf.1 _ _ (by omega) (by omega)) (fun i => hf.1 _ _ (by omega) (by omega)), MIs_fr h6 (fun i => hf.1 _ _ (by omega) (by omega)) (fun i => hf.1 _ _ (by omega) (by omega)), MIn_fr h7 (hf.1 _ _ (by omega) (by omega)) (fun i => hf.1 _ _ (by omega) (by omega)) (fun i => hf.1 _ _ (by omega) (by omega)) (fun i => hf.1 _ _ (by omega) (by omega)), fun k hk => (hf.1 102 k (by omega) (by omega)).trans (h8 k hk), fun k hk => by rw [hf.2]; exact h9 k hk⟩
theorem frT.frU {M A : mS} (h : frT M A) : frU M A := ⟨fun a j q => h.1 a j (by omega) (by omega), fun a j q => by rw [h.2]⟩
theorem frS.frD {M A : mS} (h : frS M A) : frD M A := ⟨fun a j q => h.1 a j (by omega) (by omega), fun a j q => by rw [h.2]⟩
theorem INV_t {c : gar} {v : Nat} {R : Nat → Int32} {X : aux} {M A B : mS} {t : Nat} {b : Nat → Int32} (hc : gOk c) (h : CI c R X M) (g : MI c v R X M) (hf : frT M A) (hg : frS A B) (ht : t ≤ 2000) (hA : tpC t b A) (hB : tpM t b B) : INV B := ⟨c, v, R, (t, b, X.2.2), hc, CI_d (CI_t h hf ht hA) hg.frD, MI_t (MI_u g hf.frU) hg hB⟩
theorem call_feed {N : Nat} {M : mS} (hN : 1000 ≤ N) (h : INV M) (a b c' d e : Int32) : ∃ r A B, Md_feed N a b c' d e M = some (r, A) ∧ Mo_feed N a b c' d e A = some (r, B) ∧ INV B := by
  obtain ⟨c, v, R, X, hc, hC, hM⟩ := h
  have tC : tpC (xT X) (xB X) M := ⟨hC.2.2.1.1, hC.2.2.1.2.2⟩
  have tl := hC.2.2.1.2.1
  unfold Md_feed Mo_feed
  by_cases q : xT X + 20 ≤ 2000
  · obtain ⟨A1, e1, t1, f1⟩ := add4 (w := a) hN tC (by omega)
    obtain ⟨A2, e2, t2, f2⟩ := add4 (w := b) hN t1 (by omega)
    obtain ⟨A3, e3, t3, f3⟩ := add4 (w := c') hN t2 (by omega)
    obtain ⟨A4, e4, t4, f4⟩ := add4 (w := d) hN t3 (by omega)
    obtain ⟨A5, e5, t5, f5⟩ := add4 (w := e) hN t4 (by omega)
    have fA := (((f1.trans f2).trans f3).trans f4).trans f5
    have hM5 := MI_u hM fA.frU
    have tM : tpM (xT X) (xB X) A5 := hM5.2.2.1
    obtain ⟨B1, g1, u1, k1⟩ := lay4 (w := a) hN tM (by omega)
    obtain ⟨B2, g2, u2, k2⟩ := lay4 (w := b) hN u1 (by omega)
    obtain ⟨B3, g3, u3, k3⟩ := lay4 (w := c') hN u2 (by omega)
    obtain ⟨B4, g4, u4, k4⟩ := lay4 (w := d) hN u3 (by omega)
    obtain ⟨B5, g5, u5, k5⟩ := lay4 (w := e) hN u4 (by omega)
    have fB := (((k1.trans k2).trans k3).trans k4).trans k5
    refine ⟨nI (xT X + 4 + 4 + 4 + 4 + 4), A5, B5, ?_, ?_, INV_t hc hC hM fA fB (by omega) t5 u5⟩
    · rw [tC.1, if_pos (by rw [show (1980 : Int32) = nI 1980 from rfl, leP (by omega) (by omega)]; omega), e1, bVs, e2, bVs, e3, bVs, e4, bVs, e5, bVs, t5.1]
    · rw [tM.1, if_pos (by rw [show (20 : Int32) = nI 20 from rfl, nI_add, show (2000 : Int32) = nI 2000 from rfl, leP (by omega) (by omega)]; omega), g1, bVs, g2, bVs, g3, bVs, g4, bVs, g5, bVs, u5.1]
  · refine ⟨-1, M, M, ?_, ?_, c, v, R, X, hc, hC, hM⟩
    · rw [tC.1, if_neg (by rw [show (1980 : Int32) = nI 1980 from rfl, leP (by omega) (by omega)]; omega)]
    · rw [hM.2.2.1.1, if_neg (by rw [show (20 : Int32) = nI 20 from rfl, nI_add, show (2000 : Int32) = nI 2000 from rfl, leP (by omega) (by omega)]; omega)]
theorem call_back {N : Nat} {M : mS} (h : INV M) (a : Int32) : ∃ r A B, Md_back N a M = some (r, A) ∧ Mo_back N a A = some (r, B) ∧ INV B := by
  obtain ⟨c, v, R, X, hc, hC, hM⟩ := h
  have tC : tpC (xT X) (xB X) M := ⟨hC.2.2.1.1, hC.2.2.1.2.2⟩
  have tl := hC.2.2.1.2.1
  unfold Md_back Mo_back
  rcases arg_c a (xT X + 1) (by omega) with ⟨k, hk, rfl⟩ | q
  · have f1 : frT M (mWI M 1 1 (nI (xT X - k))) := ⟨fun a j q1 q2 => by rw [mWI_ne q1], rfl⟩
    have hM5 := MI_u hM f1.frU
    have tM : tpM (xT X) (xB X) (mWI M 1 1 (nI (xT X - k))) := hM5.2.2.1
    refine ⟨nI (xT X - k), mWI M 1 1 (nI (xT X - k)), mWI (mWI M 1 1 (nI (xT X - k))) 64 2 (nI (xT X - k)), ?_, ?_, INV_t (t := xT X - k) (b := xB X) hc hC hM f1 ⟨fun a j q1 q2 => by rw [rN (by omega)], rfl⟩ (by omega) ⟨rI rfl, fun i hi => by rw [mWI_ne (by omega)]; exact tC.2 i (by omega)⟩ ⟨rI rfl, fun i hi => by rw [mWI_ne (by omega)]; exact tM.2 i (by omega)⟩⟩
    · rw [if_neg (nI_pos (by omega)), tC.1, if_pos (by rw [leP (by omega) (by omega)]; omega), sbP (by omega), nxs, rI rfl]
    · rw [if_neg (nI_pos (by omega)), tM.1, if_pos (by rw [leP (by omega) (by omega)]; omega), sbP (by omega), nxs, rI rfl]
  · refine ⟨-1, M, M, ?_, ?_, c, v, R, X, hc, hC, hM⟩
    · rcases q with q | ⟨q1, q2⟩
      · rw [if_pos q]
      · rw [if_neg q1, tC.1, if_neg]
        rw [fa_le, nI_toInt (by omega)] at *
        omega
    · rcases q with q | ⟨q1, q2⟩
      · rw [if_pos q]
      · rw [if_neg q1, hM.2.2.1.1, if_neg]
        rw [fa_le, nI_toInt (by omega)] at *
        omega
