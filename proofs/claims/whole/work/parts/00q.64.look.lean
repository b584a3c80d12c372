/-! fits, look: the model; the night to look at -/
theorem copies_x {N : Nat} {c : gar} {v : Nat} {R : Nat → Int32} {M B : mS} (hN : 1000 ≤ N) (hc : gOk c) (hM : gM c v M) (h : ∀ k, k < 29 → M.1 95 k = R k) (e : Mo_copiesStill N M = some B) : ∀ a j, a ≠ 96 → (a ≠ 64 ∨ (j ≠ 50 ∧ j ≠ 51)) → B.1 a j = M.1 a j := by
  have key : ∃ A, Mo_copies N M = some A ∧ ∀ a j, a ≠ 96 → (a ≠ 64 ∨ (j ≠ 50 ∧ j ≠ 51)) → A.1 a j = M.1 a j := by
    unfold Mo_copies
    refine iter (F := fun f i (s : mS) => Mo_copies_2 N f (nI i) s) (i := 0) (f := N) (s := M) (n := 29) (Q := fun r => ∃ A, r = some A ∧ ∀ a j, a ≠ 96 → (a ≠ 64 ∨ (j ≠ 50 ∧ j ≠ 51)) → A.1 a j = M.1 a j) (fun i s => ∀ a j, a ≠ 96 → s.1 a j = M.1 a j) ?_ ?_ (Nat.zero_le _) (by omega) (fun _ _ _ => rfl)
    · rintro f i s hi h2
      refine Or.inl ⟨mWI s 96 i (s.1 95 i), fun a j ha => by rw [mWI_ne ha]; exact h2 a j ha, ?_⟩
      simp (disch := omega) only [Mo_copies_2, li, leP, if_neg, grd_in, clp, nxs, nI_add]
    · rintro f s h2
      obtain ⟨g0, g1, g2, g3, g4, g5, -⟩ := hM
      have e64 : s.1 64 18 = nI v := by rw [h2 64 18 (by omega)]; exact g1
      refine ⟨mWI (mWI s 64 50 (s.1 82 v)) 64 51 0, ?_, fun a j q1 q2 => ?_⟩
      · simp (disch := omega) only [Mo_copies_2, li, leP, if_pos, grd_in, clp, nxs, e64]
      · rw [rN (by omega), rN (by omega)]; exact h2 a j q1
  obtain ⟨A, eA, fA⟩ := key
  intro a j q1 q2
  unfold Mo_copiesStill at e
  rw [eA, bVs, nxs] at e
  cases e
  rw [rN (by omega)]; exact fA a j q1 q2
theorem fit_86 {N : Nat} {c : gar} {R : Nat → Int32} {X : aux} {M B : mS} {k g d : Nat} {x : Int32} {k5 : Int32 → Int32 → Int32 → Int32 → mS → Option (Int32 × mS)} (hN : 1000 ≤ N) (hc : gOk c) (hn : MIn X B) (hb : ∀ q, q < xN X → xI X q ≤ 30 ∧ xO X q < gH c) (hk : k ≤ xN X) (hk20 : xN X ≤ 20) (hd : d < gD c) (hs : ∀ i, i ≤ 30 → B.1 108 (31 * d + i) = nI (tdN c R g d i)) : Mo_fitBits_86 N k5 N (nI k) (nI g) x (nI d) 1 0 B = k5 (nI k) (nI g) (x ||| (if ftB c R X g k d = true then nI (2 ^ d) else 0)) (nI (d + 1)) B := by
  obtain ⟨hc1, hc2, hc3, hc4, hc5, hc6⟩ := id hc
  refine iter (F := fun f q (z : Int32) => Mo_fitBits_86 N k5 f (nI k) (nI g) x (nI d) z (nI q) B) (i := 0) (f := N) (s := (1 : Int32)) (n := k) (Q := fun r => r = k5 (nI k) (nI g) (x ||| (if ftB c R X g k d = true then nI (2 ^ d) else 0)) (nI (d + 1)) B) (fun q z => (z = 1 ∧ ∀ q', q' < q → tso X (tdN c R g d (xI X q')) q') ∨ (z = 0 ∧ ¬ ∀ q', q' < q → tso X (tdN c R g d (xI X q')) q')) ?_ ?_ (Nat.zero_le _) (by omega) (Or.inl ⟨rfl, fun q hq => absurd hq (Nat.not_lt_zero _)⟩)
  · rintro f q z hq hz
    obtain ⟨t1, t2, t3⟩ := hn.2 q (by omega)
    obtain ⟨u1, u2⟩ := hb q (by omega)
    have e108 := hs (xI X q) u1
    have l24 := (tdN_s hc (R := R) (g := g) (d := d) (i := xI X q)).2
    have hm : tdN c R g d (xI X q) / 2 ^ xO X q % 2 < 2 := Nat.mod_lt _ (by omega)
    have bb : nI (tdN c R g d (xI X q)) >>> (nI (xO X q) &&& 31) &&& 1 = nI (tdN c R g d (xI X q) / 2 ^ xO X q % 2) := sar1 (by omega) (by omega)
    have k1 : ¬ nI k ≤ nI q := by rw [leP (by omega) (by omega)]; omega
    have key : Mo_fitBits_86 N k5 (f + 1) (nI k) (nI g) x (nI d) z (nI q) B = if nI (tdN c R g d (xI X q) / 2 ^ xO X q % 2) = 1 then (if 1 = (if xZ X q = true then (1 : Int32) else 0) then Mo_fitBits_86 N k5 f (nI k) (nI g) x (nI d) z (nI (q + 1)) B else Mo_fitBits_86 N k5 f (nI k) (nI g) x (nI d) 0 (nI (q + 1)) B) else (if 0 = (if xZ X q = true then (1 : Int32) else 0) then Mo_fitBits_86 N k5 f (nI k) (nI g) x (nI d) z (nI (q + 1)) B else Mo_fitBits_86 N k5 f (nI k) (nI g) x (nI d) 0 (nI (q + 1)) B) := by
      rw [Mo_fitBits_86, if_neg k1, grd_in (by omega) (by omega), clp (by omega), t1, show (31 : Int32) * nI d = nI (31 * d) from pk_mul 31 d, nI_add, grd_in (by omega) (by omega), grd_in (by omega) (by omega), clp (by omega), e108, t2, bb]
      unfold Mo_fitBits_129 Mo_fitBits_142
      rw [grd_in (by omega) (by omega), grd_in (by omega) (by omega), clp (by omega), t3, show nI q + 1 = nI (q + 1) from nI_add q 1]
    refine Or.inl ?_
    by_cases y : tso X (tdN c R g d (xI X q)) q
    · refine ⟨z, ?_, ?_⟩
      · rcases hz with ⟨rfl, hz⟩ | ⟨rfl, hz⟩
        · refine Or.inl ⟨rfl, fun q' hq' => ?_⟩
          by_cases e : q' = q
          · rw [e]; exact y
          · exact hz q' (by omega)
        · exact Or.inr ⟨rfl, fun w => hz (fun q' hq' => w q' (by omega))⟩
      · rw [key]
        by_cases w : tdN c R g d (xI X q) / 2 ^ xO X q % 2 = 1
        · rw [w, if_pos (by decide), if_pos (by rw [y.mp w]; rfl)]
        · have y0 : xZ X q = false := Bool.eq_false_iff.mpr (fun q => w (y.mpr q))
          rw [show tdN c R g d (xI X q) / 2 ^ xO X q % 2 = 0 by omega, if_neg (by decide), if_pos (by rw [y0]; rfl)]
    · refine ⟨0, Or.inr ⟨rfl, fun w => y (w q (by omega))⟩, ?_⟩
      rw [key]
      by_cases w : tdN c R g d (xI X q) / 2 ^ xO X q % 2 = 1
      · have y0 : xZ X q = false := Bool.eq_false_iff.mpr (fun w2 => y ⟨fun _ => w2, fun _ => w⟩)
        rw [w, if_pos (by decide), if_neg (by rw [y0]; decide)]
      · have y0 : xZ X q = true := by
          cases w2 : xZ X q
          · exact absurd ⟨fun w3 => absurd w3 w, fun w3 => by rw [w2] at w3; cases w3⟩ y
          · rfl
        rw [show tdN c R g d (xI X q) / 2 ^ xO X q % 2 = 0 by omega, if_neg (by decide), if_neg (by rw [y0]; decide)]
  · rintro f z hz
    rw [Mo_fitBits_86, if_pos (by rw [leP (by omega) (by omega)]; omega)]
    unfold Mo_fitBits_160
    rcases hz with ⟨rfl, hz⟩ | ⟨rfl, hz⟩
    · rw [if_neg (by decide), nxs, if_pos (ftB_t.mpr hz), shlg (by omega), show nI d + 1 = nI (d + 1) from nI_add d 1]
    · rw [if_pos (by decide), if_neg (fun w => hz (ftB_t.mp w)), or0, show nI d + 1 = nI (d + 1) from nI_add d 1]
theorem fitBits_s {N : Nat} {c : gar} {v : Nat} {R : Nat → Int32} {X : aux} {M : mS} {k g : Nat} (hN : 1000 ≤ N) (hc : gOk c) (hM : MI c v R X M) (hR : VR c R) (hb : ∀ q, q < xN X → xI X q ≤ 30 ∧ xO X q < gH c) (hk : k ≤ xN X) (hk20 : xN X ≤ 20) (hg : g < gG c) : ∃ A, Mo_fitBits N (nI k) (nI g) M = some (fsI c R X g k (gD c), A) ∧ (∀ d, d < gD c → ∀ i, i ≤ 30 → A.1 108 (31 * d + i) = nI (tdN c R g d i)) ∧ frP M A := by
  obtain ⟨hc1, hc2, hc3, hc4, hc5, hc6⟩ := id hc
  unfold Mo_fitBits
  refine iter (F := fun f d (s : Int32 × mS) => Mo_fitBits_5 N f (nI k) (nI g) s.1 (nI d) s.2) (i := 0) (f := N) (s := ((0 : Int32), M)) (n := gD c) (Q := fun r => ∃ A, r = some (fsI c R X g k (gD c), A) ∧ (∀ d, d < gD c → ∀ i, i ≤ 30 → A.1 108 (31 * d + i) = nI (tdN c R g d i)) ∧ frP M A) (fun d s => s.1 = fsI c R X g k d ∧ (∀ e, e < d → ∀ i, i ≤ 30 → s.2.1 108 (31 * e + i) = nI (tdN c R g e i)) ∧ frP M s.2) ?_ ?_ (Nat.zero_le _) (by omega) ⟨rfl, fun d hd => absurd hd (Nat.not_lt_zero _), frP.refl⟩
  · rintro f d ⟨x, t⟩ hd ⟨h1, h2, h3⟩
    dsimp only at h1 h2 h3
    subst h1
    have hMt := MI_p hM h3
    obtain ⟨m0, m1, m2, m3, m4, -⟩ := id hMt.1
    obtain ⟨B, eB, b1, b2, b3, b4⟩ := copiesStill_s (N := N) hN hc hMt.1 hMt.2.1
    have gB := b4.gM hMt.1
    have f1 : frP B (mWI B 96 (8 + g) (nI d)) := ⟨fun a j q1 q2 q3 q4 q5 q6 q7 q8 q9 q10 q11 => by rw [mWI_ne q3], rfl⟩
    have md1 : mdM none (mWI B 96 (8 + g) (nI d)) := by
      unfold mdM; rw [mWI_ne (by omega)]; exact b2
    obtain ⟨D, eD, d1, d2⟩ := fillsNights_s (N := N) (n := 30) (M := mWI B 96 (8 + g) (nI d)) (R := upd R (8 + g) (nI d)) hN (by omega) hc (f1.gM gB) (fun k hk => by
      by_cases e : k = 8 + g
      · subst e; rw [rI rfl, pk_us]
      · rw [rN (by omega), pk_un e]; exact b1 k hk) (VR_by hc hR hg hd) md1
    have b108 : ∀ j, D.1 108 j = t.1 108 j := by
      intro j
      rw [d2.1 108 j (by omega) (by omega) (by omega) (by omega) (by omega) (by omega) (by omega), mWI_ne (by omega)]
      exact copies_x hN hc hMt.1 hMt.2.1 eB 108 j (by omega) (by omega)
    have copy : ∃ A, Mo_fitBits_43 N (Mo_fitBits_5 N f) N (nI k) (nI g) (fsI c R X g k d) (nI d) 0 D = Mo_fitBits_86 N (Mo_fitBits_5 N f) N (nI k) (nI g) (fsI c R X g k d) (nI d) 1 0 A ∧ (∀ i, i ≤ 30 → A.1 108 (31 * d + i) = nI (tdN c R g d i)) ∧ (∀ j, j < 31 * d → A.1 108 j = D.1 108 j) ∧ (∀ a j, a ≠ 108 → A.1 a j = D.1 a j) ∧ A.2 = D.2 := by
      refine iter (F := fun u i (s : mS) => Mo_fitBits_43 N (Mo_fitBits_5 N f) u (nI k) (nI g) (fsI c R X g k d) (nI d) (nI i) s) (i := 0) (f := N) (s := D) (n := 31) (Q := fun r => ∃ A, r = Mo_fitBits_86 N (Mo_fitBits_5 N f) N (nI k) (nI g) (fsI c R X g k d) (nI d) 1 0 A ∧ (∀ i, i ≤ 30 → A.1 108 (31 * d + i) = nI (tdN c R g d i)) ∧ (∀ j, j < 31 * d → A.1 108 j = D.1 108 j) ∧ (∀ a j, a ≠ 108 → A.1 a j = D.1 a j) ∧ A.2 = D.2) (fun i s => (∀ q, q < i → s.1 108 (31 * d + q) = nI (tdN c R g d q)) ∧ (∀ j, j < 31 * d → s.1 108 j = D.1 108 j) ∧ (∀ a j, a ≠ 108 → s.1 a j = D.1 a j) ∧ s.2 = D.2) ?_ ?_ (Nat.zero_le _) (by omega) ⟨fun q hq => absurd hq (Nat.not_lt_zero _), fun _ _ => rfl, fun _ _ _ => rfl, rfl⟩
      · rintro u i s hi ⟨s1, s2, s3, s4⟩
        have e99 : s.1 99 (5 * i + g) = nI (tdN c R g d i) := by
          rw [s3 _ _ (by omega), (d1 i (by omega) g hg).1]; exact (tdN_s hc).1
        refine Or.inl ⟨mWI s 108 (31 * d + i) (nI (tdN c R g d i)), ⟨fun q hq => ?_, fun j hj => by rw [rN (by omega)]; exact s2 j hj, fun a j ha => by rw [mWI_ne ha]; exact s3 a j ha, s4⟩, ?_⟩
        · by_cases e : q = i
          · rw [rI (by rw [e]), e]
          · rw [rN (by omega)]; exact s1 q (by omega)
        · rw [Mo_fitBits_43, if_neg (by rw [show (30 : Int32) = nI 30 from rfl, ltP (by omega) (by omega)]; omega), show (5 : Int32) * nI i = nI (5 * i) from pk_mul 5 i, nI_add, grd_in (by omega) (by omega), show (31 : Int32) * nI d = nI (31 * d) from pk_mul 31 d, nI_add, grd_in (by omega) (by omega), clp (by omega), clp (by omega), e99, nxs, show nI i + 1 = nI (i + 1) from nI_add i 1]
      · rintro u s ⟨s1, s2, s3, s4⟩
        refine ⟨s, ?_, fun i hi => s1 i (by omega), s2, s3, s4⟩
        rw [Mo_fitBits_43, if_pos (by decide)]
    obtain ⟨A, eA, a1, a2, a3, a4⟩ := copy
    have fz : frP M A := h3.trans (b4.trans (f1.trans (d2.frP.trans ⟨fun a j q1 q2 q3 q4 q5 q6 q7 q8 q9 q10 q11 => a3 a j q10, a4⟩)))
    have e86 := fit_86 (N := N) (M := M) (B := A) (k := k) (g := g) (d := d) (x := fsI c R X g k d) (k5 := Mo_fitBits_5 N f) hN hc (MI_p hM fz).2.2.2.2.2.2.1 hb hk hk20 hd a1
    refine Or.inl ⟨(fsI c R X g k (d + 1), A), ⟨rfl, fun e he i hi => ?_, fz⟩, ?_⟩
    · by_cases z : e = d
      · rw [z]; exact a1 i hi
      · rw [a2 _ (by omega), b108]; exact h2 e (by omega) i hi
    · dsimp only
      rw [Mo_fitBits_5, m1, grd_in m0 (by omega), clp (by omega), m3, if_neg (by rw [leP (by omega) (by omega)]; omega), eB, bVs, show (8 : Int32) + nI g = nI (8 + g) from nI_add 8 g, grd_in (by omega) (by omega), clp (by omega), nxs, show (30 : Int32) = nI 30 from rfl, eD, bVs, eA, e86]
      rfl
  · rintro f ⟨x, t⟩ ⟨h1, h2, h3⟩
    dsimp only at h1 h2 h3
    subst h1
    have hMt := MI_p hM h3
    obtain ⟨m0, m1, m2, m3, m4, -⟩ := id hMt.1
    refine ⟨t, ?_, h2, h3⟩
    dsimp only
    rw [Mo_fitBits_5, m1, grd_in m0 (by omega), clp (by omega), m3, if_pos (by rw [leP (by omega) (by omega)]; omega)]
theorem call_fits {N : Nat} {M : mS} (hN : 1000 ≤ N) (h : INV M) (x y z : Int32) : ∃ r A B, Md_fits N x y z M = some (r, A) ∧ Mo_fits N x y z A = some (r, B) ∧ INV B := by
  obtain ⟨c, v, R, X, hc, hC, hM⟩ := h
  obtain ⟨hc1, hc2, hc3, hc4, hc5, hc6⟩ := id hc
  have hn := hC.2.2.2.2.2.2.1
  have hn20 := hn.1
  have mn := hM.2.2.2.2.2.2.1
  unfold Md_fits Mo_fits
  rw [hn.2.1]
  rcases arg_c x (xN X + 1) (by omega) with ⟨k, hk, rfl⟩ | q
  · rcases arg_c y (gG c) (by omega) with ⟨g, hg, rfl⟩ | q
    · rcases arg_c z 2 (by omega) with ⟨w, hw, rfl⟩ | q
      · have hw2 : w = 0 ∨ w = 1 := by omega
        obtain ⟨A, eA, a1, fA⟩ := fitting_s (N := N) (k := k) (hr := 0) hN hc hC.1 hC.2.1 hn (by omega) hg (by omega)
        have hMA := MI_u hM fA.frU
        obtain ⟨B, eB, b1, fB⟩ := fitBits_s (N := N) (k := k) hN hc hMA hC.2.1.2.2.1 (fun q hq => ⟨(hn.2.2 q hq).1, (hn.2.2 q hq).2.1⟩) (by omega) hn20 hg
        refine ⟨if nI w = 0 then bc (fsI c R X g k (gD c)) else fsI c R X g k (gD c), A, B, ?_, ?_, INV_q hc hC hM fA fB⟩
        · rw [with_y (by omega) (by omega), if_neg (by decide), cGoer_y hc hC.1 hg, if_neg (by decide)]
          unfold Md_fits_33
          rw [show (0 : Int32) = nI 0 from rfl, eA, bWs, bc_of]
          rcases hw2 with rfl | rfl <;> rfl
        · rw [hMA.2.2.2.2.2.2.1.1, inK_y (by omega) (by omega), if_neg (by decide), oGoer_y hc hMA.1 hg, bRs, if_neg (by decide), show (1 : Int32) = nI 1 from rfl, inK_y (by omega) (by omega), if_neg (by decide), eB, bWs, bits_s hN (fsI_sml hc3), bRs]
          rcases hw2 with rfl | rfl <;> rfl
      · have z0 : ¬ z = 0 := outr_ne q (k := 0) (by omega) (by omega)
        have z1 : ¬ z = 1 := outr_ne q (k := 1) (by omega) (by omega)
        refine ⟨-1, M, M, ?_, ?_, c, v, R, X, hc, hC, hM⟩
        · rw [with_y (by omega) (by omega), if_neg (by decide), cGoer_y hc hC.1 hg, if_neg (by decide), if_neg z0, if_neg z1]
        · rw [mn.1, inK_y (by omega) (by omega), if_neg (by decide), oGoer_y hc hM.1 hg, bRs, if_neg (by decide), show (1 : Int32) = nI 1 from rfl, inK_n q (by omega), if_pos (by decide)]
    · refine ⟨-1, M, M, ?_, ?_, c, v, R, X, hc, hC, hM⟩
      · rw [with_y (by omega) (by omega), if_neg (by decide), cGoer_n hC.1 q, if_pos (by decide)]
      · rw [mn.1, inK_y (by omega) (by omega), if_neg (by decide), oGoer_n hc hM.1 q, bRs, if_pos (by decide)]
  · refine ⟨-1, M, M, ?_, ?_, c, v, R, X, hc, hC, hM⟩
    · rw [with_n q (by omega), if_pos (by decide)]
    · rw [mn.1, inK_n q (by omega), if_pos (by decide)]
/-! look -/
def ysI (S : Nat) (f : Nat → Nat) : Nat → Int32
  | 0 => 0
  | d + 1 => if S / 2 ^ d % 2 = 1 then ysI S f d + nI (f d) else ysI S f d
theorem ysI_s {S : Nat} {f : Nat → Nat} {d : Nat} : ysI S f (d + 1) = if S / 2 ^ d % 2 = 1 then ysI S f d + nI (f d) else ysI S f d := rfl
def lwI (a y : Int32) : Int32 := if y < a - y then a - y else y
noncomputable def lkI (c : gar) (R : Nat → Int32) (g hr S : Nat) (i : Nat) : Int32 := lwI (bc (nI S)) (ysI S (fun d => tdN c R g d i / 2 ^ hr % 2) (gD c))
def amn (f : Nat → Int32) : Nat → Nat
  | 0 => 0
  | n + 1 => if n = 0 ∨ f n < f (amn f n) then n else amn f n
theorem amn_s {f : Nat → Int32} {n : Nat} : amn f (n + 1) = if n = 0 ∨ f n < f (amn f n) then n else amn f n := rfl
theorem amn_lt {f : Nat → Int32} : ∀ {n : Nat}, 0 < n → amn f n < n
  | 0, h => absurd h (Nat.lt_irrefl _)
  | n + 1, _ => by
    rw [amn_s]
    split
    · omega
    · next q =>
      have := amn_lt (f := f) (n := n) (by
        rcases Nat.eq_zero_or_pos n with z | z
        · exact absurd (Or.inl z) q
        · exact z)
      omega
theorem leftAtWorst_s {N : Nat} {c : gar} {R : Nat → Int32} {M : mS} {g hr S i : Nat} (hN : 1000 ≤ N) (hc : gOk c) (hC : gC c M) (hs : ∀ d, d < gD c → M.1 63 d = nI (snN c R g d hr 31)) (hS : S < 16777216) (hi : i ≤ 30) : Rd_leftAtWorst N (nI S) (nI i) M = some (lkI c R g hr S i) := by
  obtain ⟨hc1, hc2, hc3, hc4, hc5, hc6⟩ := id hc
  unfold Rd_leftAtWorst
  refine iter (F := fun f d (y : Int32) => Rd_leftAtWorst_5 N M f (nI S) (nI i) y (nI d)) (i := 0) (f := N) (s := (0 : Int32)) (n := gD c) (Q := fun r => r = some (lkI c R g hr S i)) (fun d y => y = ysI S (fun d => tdN c R g d i / 2 ^ hr % 2) d) ?_ ?_ (Nat.zero_le _) (by omega) rfl
  · rintro f d y hd rfl
    refine Or.inl ⟨_, rfl, ?_⟩
    have hm : S / 2 ^ d % 2 < 2 := Nat.mod_lt _ (by omega)
    have sl := snN_lt (c := c) (R := R) (g := g) (d := d) (hr := hr) 31
    have b1 : nI S >>> (nI d &&& 31) &&& 1 = nI (S / 2 ^ d % 2) := sar1 (by omega) (by omega)
    have b2 : nI (snN c R g d hr 31) >>> (nI i &&& 31) &&& 1 = nI (snN c R g d hr 31 / 2 ^ i % 2) := sar1 (by omega) (by omega)
    rw [Rd_leftAtWorst_5, hC.2.1, if_neg (by rw [leP (by omega) (by omega)]; omega), b1, ysI_s]
    unfold Rd_leftAtWorst_40
    by_cases z : S / 2 ^ d % 2 = 1
    · rw [if_pos z, z, if_neg (by decide), grd_in (by omega) (by omega), clp (by omega), hs d hd, b2, snN_v (show i < 31 by omega), nxs, show nI d + 1 = nI (d + 1) from nI_add d 1]
    · rw [if_neg z, show S / 2 ^ d % 2 = 0 by omega, if_pos (by decide), show nI d + 1 = nI (d + 1) from nI_add d 1]
  · rintro f y rfl
    rw [Rd_leftAtWorst_5, hC.2.1, if_pos (by rw [leP (by omega) (by omega)]; omega), bc_of]
    rfl
theorem bestNight_s {N : Nat} {c : gar} {R : Nat → Int32} {M : mS} {g hr S : Nat} (hN : 1000 ≤ N) (hc : gOk c) (hC : gC c M) (hs : ∀ d, d < gD c → M.1 63 d = nI (snN c R g d hr 31)) (hS : S < 16777216) : Rd_bestNight N (nI S) M = some (nI (amn (lkI c R g hr S) 31)) := by
  have lw : ∀ i, i ≤ 30 → Rd_leftAtWorst N (nI S) (nI i) M = some (lkI c R g hr S i) := fun i hi => leftAtWorst_s hN hc hC hs hS hi
  have a1 : amn (lkI c R g hr S) 1 = 0 := by rw [amn_s, if_pos (Or.inl rfl)]
  unfold Rd_bestNight
  rw [show (0 : Int32) = nI (amn (lkI c R g hr S) (0 + 1)) by rw [a1]; rfl, show (1 : Int32) = nI (0 + 1) from rfl]
  refine iter (F := fun f i (_ : Unit) => Rd_bestNight_4 N M f (nI S) (nI (amn (lkI c R g hr S) (i + 1))) (nI (i + 1))) (i := 0) (f := N) (s := ()) (n := 30) (Q := fun r => r = some (nI (amn (lkI c R g hr S) 31))) (fun i _ => True) ?_ ?_ (Nat.zero_le _) (by omega) trivial
  · rintro f i _ hi -
    have ha := amn_lt (f := lkI c R g hr S) (show 0 < i + 1 by omega)
    refine Or.inl ⟨(), trivial, ?_⟩
    rw [Rd_bestNight_4, if_neg (by rw [show (30 : Int32) = nI 30 from rfl, ltP (by omega) (by omega)]; omega), lw _ (by omega), bRs, lw _ (by omega), bRs, amn_s (n := i + 1)]
    unfold Rd_bestNight_27
    by_cases z : lkI c R g hr S (i + 1) < lkI c R g hr S (amn (lkI c R g hr S) (i + 1))
    · rw [if_pos (Or.inr z), if_neg (fa_of_lt z).2.1, show nI (i + 1) + 1 = nI (i + 1 + 1) from nI_add (i + 1) 1]
    · rw [if_pos (fa_of_nlt z), if_neg (show ¬ (i + 1 = 0 ∨ lkI c R g hr S (i + 1) < lkI c R g hr S (amn (lkI c R g hr S) (i + 1))) from fun w => w.elim (fun w => by omega) z), show nI (i + 1) + 1 = nI (i + 1 + 1) from nI_add (i + 1) 1]
  · rintro f _ -
    rw [Rd_bestNight_4, if_pos (by decide)]
theorem look_M {N : Nat} {c : gar} {v : Nat} {R : Nat → Int32} {B : mS} {g hr S : Nat} (hN : 1000 ≤ N) (hc : gOk c) (hM : gM c v B) (hs : ∀ d, d < gD c → ∀ i, i ≤ 30 → B.1 108 (31 * d + i) = nI (tdN c R g d i)) (hS : S < 16777216) (hh : hr < 24) (h0 : ¬ bc (nI S) ≤ 0) : Mo_look_55 N N (nI hr) (nI S) (bc (nI S)) (-2) 0 0 B = some (nI (amn (lkI c R g hr S) 31), B) := by
  obtain ⟨hc1, hc2, hc3, hc4, hc5, hc6⟩ := id hc
  obtain ⟨m0, m1, m2, m3, m4, -⟩ := id hM
  refine iter (F := fun f i (s : Int32 × Int32) => Mo_look_55 N f (nI hr) (nI S) (bc (nI S)) s.1 s.2 (nI i) B) (i := 0) (f := N) (s := ((-2 : Int32), (0 : Int32))) (n := 31) (Q := fun r => r = some (nI (amn (lkI c R g hr S) 31), B)) (fun i s => (i = 0 ∧ s.1 = -2) ∨ (0 < i ∧ s.1 = nI (amn (lkI c R g hr S) i) ∧ s.2 = lkI c R g hr S (amn (lkI c R g hr S) i))) ?_ ?_ (Nat.zero_le _) (by omega) (Or.inl ⟨rfl, rfl⟩)
  · rintro f i ⟨x, y⟩ hi hx
    dsimp only at hx
    have k30 : ¬ (30 : Int32) < nI i := by rw [show (30 : Int32) = nI 30 from rfl, ltP (by omega) (by omega)]; omega
    have inner : Mo_look_73 N (Mo_look_55 N f) N (nI hr) (nI S) (bc (nI S)) x y (nI i) 0 0 B = if x < 0 then Mo_look_55 N f (nI hr) (nI S) (bc (nI S)) (nI i) (lkI c R g hr S i) (nI (i + 1)) B else if lkI c R g hr S i < y then Mo_look_55 N f (nI hr) (nI S) (bc (nI S)) (nI i) (lkI c R g hr S i) (nI (i + 1)) B else Mo_look_55 N f (nI hr) (nI S) (bc (nI S)) x y (nI (i + 1)) B := by
      refine iter (F := fun u d (z : Int32) => Mo_look_73 N (Mo_look_55 N f) u (nI hr) (nI S) (bc (nI S)) x y (nI i) z (nI d) B) (i := 0) (f := N) (s := (0 : Int32)) (n := gD c) (Q := fun r => r = if x < 0 then Mo_look_55 N f (nI hr) (nI S) (bc (nI S)) (nI i) (lkI c R g hr S i) (nI (i + 1)) B else if lkI c R g hr S i < y then Mo_look_55 N f (nI hr) (nI S) (bc (nI S)) (nI i) (lkI c R g hr S i) (nI (i + 1)) B else Mo_look_55 N f (nI hr) (nI S) (bc (nI S)) x y (nI (i + 1)) B) (fun d z => z = ysI S (fun d => tdN c R g d i / 2 ^ hr % 2) d) ?_ ?_ (Nat.zero_le _) (by omega) rfl
      · rintro u d z hd rfl
        refine Or.inl ⟨_, rfl, ?_⟩
        have hm : S / 2 ^ d % 2 < 2 := Nat.mod_lt _ (by omega)
        have l24 := (tdN_s hc (R := R) (g := g) (d := d) (i := i)).2
        have e108 := hs d hd i (by omega)
        have b1 : nI S >>> (nI d &&& 31) &&& 1 = nI (S / 2 ^ d % 2) := sar1 (by omega) (by omega)
        have b2 : nI (tdN c R g d i) >>> (nI hr &&& 31) &&& 1 = nI (tdN c R g d i / 2 ^ hr % 2) := sar1 (by omega) (by omega)
        rw [Mo_look_73, m1, grd_in m0 (by omega), clp (by omega), m3, if_neg (by rw [leP (by omega) (by omega)]; omega), b1, ysI_s]
        unfold Mo_look_120
        by_cases z : S / 2 ^ d % 2 = 1
        · rw [if_pos z, z, if_pos (by decide), show (31 : Int32) * nI d = nI (31 * d) from pk_mul 31 d, nI_add, grd_in (by omega) (by omega), clp (by omega), e108, b2, nxs, show nI d + 1 = nI (d + 1) from nI_add d 1]
        · rw [if_neg z, show S / 2 ^ d % 2 = 0 by omega, if_neg (by decide), show nI d + 1 = nI (d + 1) from nI_add d 1]
      · rintro u z rfl
        rw [Mo_look_73, m1, grd_in m0 (by omega), clp (by omega), m3, if_pos (by rw [leP (by omega) (by omega)]; omega)]
        unfold Mo_look_146 Mo_look_163 Mo_look_171
        rw [show nI i + 1 = nI (i + 1) from nI_add i 1]
        have el : lkI c R g hr S i = lwI (bc (nI S)) (ysI S (fun d => tdN c R g d i / 2 ^ hr % 2) (gD c)) := rfl
        rw [el]
        generalize ysI S (fun d => tdN c R g d i / 2 ^ hr % 2) (gD c) = Y
        unfold lwI
        by_cases w : Y < bc (nI S) - Y
        · rw [if_pos w, if_pos (fa_of_lt w).1]
        · rw [if_neg w]
          by_cases w2 : Y ≤ bc (nI S) - Y
          · have : Y = bc (nI S) - Y := by
              rw [fa_eq]; rw [fa_lt] at w; rw [fa_le] at w2; omega
            rw [if_pos w2, ← this]
          · rw [if_neg w2]
    have key : Mo_look_55 N (f + 1) (nI hr) (nI S) (bc (nI S)) x y (nI i) B = if x < 0 then Mo_look_55 N f (nI hr) (nI S) (bc (nI S)) (nI i) (lkI c R g hr S i) (nI (i + 1)) B else if lkI c R g hr S i < y then Mo_look_55 N f (nI hr) (nI S) (bc (nI S)) (nI i) (lkI c R g hr S i) (nI (i + 1)) B else Mo_look_55 N f (nI hr) (nI S) (bc (nI S)) x y (nI (i + 1)) B := by
      rw [Mo_look_55, if_neg k30, if_neg h0, inner]
    refine Or.inl ?_
    rcases hx with ⟨rfl, rfl⟩ | ⟨hp, rfl, rfl⟩
    · have a1 : amn (lkI c R g hr S) 1 = 0 := by rw [amn_s, if_pos (Or.inl rfl)]
      refine ⟨(nI 0, lkI c R g hr S 0), Or.inr ⟨by omega, by rw [a1], by rw [a1]⟩, ?_⟩
      dsimp only
      rw [key, if_pos (by decide)]
    · have ha := amn_lt (f := lkI c R g hr S) hp
      by_cases z : lkI c R g hr S i < lkI c R g hr S (amn (lkI c R g hr S) i)
      · refine ⟨(nI i, lkI c R g hr S i), Or.inr ⟨by omega, by rw [amn_s, if_pos (Or.inr z)], by rw [amn_s, if_pos (Or.inr z)]⟩, ?_⟩
        dsimp only
        rw [key, if_neg (nI_pos (by omega)), if_pos z]
      · have nz : ¬ (i = 0 ∨ lkI c R g hr S i < lkI c R g hr S (amn (lkI c R g hr S) i)) := fun w => w.elim (fun w => by omega) z
        refine ⟨(nI (amn (lkI c R g hr S) i), lkI c R g hr S (amn (lkI c R g hr S) i)), Or.inr ⟨by omega, by rw [amn_s, if_neg nz], by rw [amn_s, if_neg nz]⟩, ?_⟩
        dsimp only
        rw [key, if_neg (nI_pos (by omega)), if_neg z]
  · rintro f ⟨x, y⟩ hx
    dsimp only at hx
    rcases hx with ⟨q, -⟩ | ⟨-, rfl, rfl⟩
    · omega
    · dsimp only
      rw [Mo_look_55, if_pos (by decide)]
theorem call_look {N : Nat} {M : mS} (hN : 1000 ≤ N) (h : INV M) (x y z : Int32) : ∃ r A B, Md_look N x y z M = some (r, A) ∧ Mo_look N x y z A = some (r, B) ∧ INV B := by
  obtain ⟨c, v, R, X, hc, hC, hM⟩ := h
  obtain ⟨hc1, hc2, hc3, hc4, hc5, hc6⟩ := id hc
  have hn := hC.2.2.2.2.2.2.1
  have hn20 := hn.1
  have mn := hM.2.2.2.2.2.2.1
  unfold Md_look Mo_look
  rw [hn.2.1]
  rcases arg_c x (xN X + 1) (by omega) with ⟨k, hk, rfl⟩ | q
  · rcases arg_c y (gG c) (by omega) with ⟨g, hg, rfl⟩ | q
    · rcases arg_c z (gH c) (by omega) with ⟨hr, hh, rfl⟩ | q
      · obtain ⟨A, eA, a1, fA⟩ := fitting_s (N := N) (k := k) (hr := hr) hN hc hC.1 hC.2.1 hn (by omega) hg (by omega)
        have hMA := MI_u hM fA.frU
        obtain ⟨B, eB, b1, fB⟩ := fitBits_s (N := N) (k := k) hN hc hMA hC.2.1.2.2.1 (fun q hq => ⟨(hn.2.2 q hq).1, (hn.2.2 q hq).2.1⟩) (by omega) hn20 hg
        have sm := fsI_sml (c := c) (R := R) (X := X) (g := g) (k := k) hc3
        have eb := bits_s (N := N) (M := B) hN sm
        obtain ⟨S, hS, eS⟩ := id sm
        rw [eS] at eA eB eb sm
        by_cases s0 : S = 0
        · subst s0
          refine ⟨-2, A, B, ?_, ?_, INV_q hc hC hM fA fB⟩
          · rw [with_y (by omega) (by omega), if_neg (by decide), cGoer_y hc hC.1 hg, if_neg (by decide), cHour_y hc hC.1 hh, if_neg (by decide), eA, bWs, if_pos (by decide)]
          · rw [hMA.2.2.2.2.2.2.1.1, inK_y (by omega) (by omega), if_neg (by decide), oGoer_y hc hMA.1 hg, bRs, if_neg (by decide), oHour_y hc hMA.1 hh, bRs, if_neg (by decide), eB, bWs, eb, bRs]
            obtain ⟨N', rfl⟩ : ∃ N', N = N' + 1 := ⟨N - 1, by omega⟩
            rw [Mo_look_55, if_neg (by decide), if_pos]
            rw [show bc (nI 0) = 0 from (bc_0 sml_0).mpr rfl]
            decide
        · have nS : ¬ nI S = 0 := nI_ne0 (by omega) (by omega)
          have hb0 : ¬ bc (nI S) ≤ 0 := by
            obtain ⟨m, hm, em⟩ := bc_nat sm
            have : m ≠ 0 := by
              rintro rfl
              exact nS ((bc_0 sm).mp em)
            rw [em, li0, leP (by omega) (by omega)]; omega
          refine ⟨nI (amn (lkI c R g hr S) 31), A, B, ?_, ?_, INV_q hc hC hM fA fB⟩
          · rw [with_y (by omega) (by omega), if_neg (by decide), cGoer_y hc hC.1 hg, if_neg (by decide), cHour_y hc hC.1 hh, if_neg (by decide), eA, bWs, if_neg nS, bestNight_s hN hc (fA.gC hC.1) a1 hS, bRs]
          · rw [hMA.2.2.2.2.2.2.1.1, inK_y (by omega) (by omega), if_neg (by decide), oGoer_y hc hMA.1 hg, bRs, if_neg (by decide), oHour_y hc hMA.1 hh, bRs, if_neg (by decide), eB, bWs, eb, bRs, look_M hN hc (fB.gM hMA.1) b1 hS (by omega) hb0]
      · refine ⟨-1, M, M, ?_, ?_, c, v, R, X, hc, hC, hM⟩
        · rw [with_y (by omega) (by omega), if_neg (by decide), cGoer_y hc hC.1 hg, if_neg (by decide), cHour_n hC.1 q, if_pos (by decide)]
        · rw [mn.1, inK_y (by omega) (by omega), if_neg (by decide), oGoer_y hc hM.1 hg, bRs, if_neg (by decide), oHour_n hc hM.1 q, bRs, if_pos (by decide)]
    · refine ⟨-1, M, M, ?_, ?_, c, v, R, X, hc, hC, hM⟩
      · rw [with_y (by omega) (by omega), if_neg (by decide), cGoer_n hC.1 q, if_pos (by decide)]
      · rw [mn.1, inK_y (by omega) (by omega), if_neg (by decide), oGoer_n hc hM.1 q, bRs, if_pos (by decide)]
  · refine ⟨-1, M, M, ?_, ?_, c, v, R, X, hc, hC, hM⟩
    · rw [with_n q (by omega), if_pos (by decide)]
    · rw [mn.1, inK_n q (by omega), if_pos (by decide)]
