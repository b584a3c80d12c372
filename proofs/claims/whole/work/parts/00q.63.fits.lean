/-! fits, look -/
noncomputable def tdI (c : gar) (R : Nat → Int32) (g d i : Nat) : Int32 := tK c (upd R (8 + g) (nI d)) i g
noncomputable def tdN (c : gar) (R : Nat → Int32) (g d i : Nat) : Nat := (tdI c R g d i).toNatClampNeg
theorem tdN_s {c : gar} (hc : gOk c) {R : Nat → Int32} {g d i : Nat} : tdI c R g d i = nI (tdN c R g d i) ∧ tdN c R g d i < 16777216 := by
  obtain ⟨n, hn, e⟩ := sml_tK hc (R := upd R (8 + g) (nI d)) (k := i) (g := g)
  unfold tdN
  rw [show tdI c R g d i = nI n from e, clp (by omega)]
  exact ⟨rfl, hn⟩
/-- what is told as q is so, if the hours (bits) h are those of its night -/
def tso (X : aux) (h q : Nat) : Prop := h / 2 ^ xO X q % 2 = 1 ↔ xZ X q = true
noncomputable def ftB (c : gar) (R : Nat → Int32) (X : aux) (g k d : Nat) : Bool := by classical exact decide (∀ q, q < k → tso X (tdN c R g d (xI X q)) q)
theorem ftB_t {c : gar} {R : Nat → Int32} {X : aux} {g k d : Nat} : ftB c R X g k d = true ↔ ∀ q, q < k → tso X (tdN c R g d (xI X q)) q := by
  classical
  unfold ftB
  exact decide_eq_true_iff
noncomputable def fsI (c : gar) (R : Nat → Int32) (X : aux) (g k n : Nat) : Int32 := orB (fun d => if ftB c R X g k d = true then nI (2 ^ d) else 0) n
theorem fsI_sml {c : gar} {R : Nat → Int32} {X : aux} {g k n : Nat} (hn : n ≤ 4) : sml (fsI c R X g k n) := by
  refine orB_sml (fun d hd => ?_)
  split
  · have : 2 ^ d ≤ 2 ^ 4 := Nat.pow_le_pow_right (by omega) (by omega)
    exact ⟨2 ^ d, by omega, rfl⟩
  · exact sml_0
noncomputable def snN (c : gar) (R : Nat → Int32) (g d hr : Nat) : Nat → Nat
  | 0 => 0
  | j + 1 => snN c R g d hr j ||| (tdN c R g d j / 2 ^ hr % 2 * 2 ^ j)
theorem snN_lt {c : gar} {R : Nat → Int32} {g d hr : Nat} : ∀ j, snN c R g d hr j < 2 ^ j
  | 0 => by show 0 < 1; omega
  | j + 1 => by
    have h1 := snN_lt (c := c) (R := R) (g := g) (d := d) (hr := hr) j
    have h2 : tdN c R g d j / 2 ^ hr % 2 < 2 := Nat.mod_lt _ (by omega)
    have h3 : (2 : Nat) ^ (j + 1) = 2 ^ j * 2 := Nat.pow_succ 2 j
    have h4 : tdN c R g d j / 2 ^ hr % 2 * 2 ^ j ≤ 1 * 2 ^ j := Nat.mul_le_mul_right _ (by omega)
    show _ ||| _ < _
    apply Nat.or_lt_two_pow
    · omega
    · omega
theorem snN_bit {c : gar} {R : Nat → Int32} {g d hr i : Nat} : ∀ j, i < j → (snN c R g d hr j).testBit i = decide (tdN c R g d i / 2 ^ hr % 2 = 1)
  | 0, h => absurd h (Nat.not_lt_zero _)
  | j + 1, h => by
    have h2 : tdN c R g d j / 2 ^ hr % 2 < 2 := Nat.mod_lt _ (by omega)
    show (snN c R g d hr j ||| _).testBit i = _
    rw [Nat.testBit_or]
    by_cases e : i = j
    · subst e
      rw [Nat.testBit_lt_two_pow (snN_lt i), Bool.false_or]
      rcases (show tdN c R g d i / 2 ^ hr % 2 = 0 ∨ tdN c R g d i / 2 ^ hr % 2 = 1 by omega) with z | z
      · rw [z, Nat.zero_mul, Nat.zero_testBit]; rfl
      · rw [z, Nat.one_mul, Nat.testBit_two_pow_self]; rfl
    · rw [snN_bit j (by omega)]
      rcases (show tdN c R g d j / 2 ^ hr % 2 = 0 ∨ tdN c R g d j / 2 ^ hr % 2 = 1 by omega) with z | z
      · rw [z, Nat.zero_mul, Nat.zero_testBit, Bool.or_false]
      · rw [z, Nat.one_mul, Nat.testBit_two_pow, decide_eq_false (show ¬ j = i by omega), Bool.or_false]
theorem snN_v {c : gar} {R : Nat → Int32} {g d hr i j : Nat} (h : i < j) : snN c R g d hr j / 2 ^ i % 2 = tdN c R g d i / 2 ^ hr % 2 := by
  have h1 := snN_bit (c := c) (R := R) (g := g) (d := d) (hr := hr) j h
  have e : (snN c R g d hr j).testBit i = decide (snN c R g d hr j / 2 ^ i % 2 = 1) := Nat.testBit_eq_decide_div_mod_eq
  rw [e] at h1
  have h2 : tdN c R g d i / 2 ^ hr % 2 < 2 := Nat.mod_lt _ (by omega)
  have h3 : snN c R g d hr j / 2 ^ i % 2 < 2 := Nat.mod_lt _ (by omega)
  by_cases z : tdN c R g d i / 2 ^ hr % 2 = 1
  · rw [decide_eq_true z] at h1; rw [of_decide_eq_true h1, z]
  · rw [decide_eq_false z] at h1
    have := of_decide_eq_false h1
    omega
theorem isSo_s {N : Nat} {c : gar} {X : aux} {M : mS} {i h k : Nat} (hN : 1000 ≤ N) (hc : gOk c) (hn : CIn c X M) (hk : k ≤ xN X) (hi : i ≤ 30) (hh : h < 16777216) : ∃ r, Rd_isSo N (nI i) (nI h) (nI k) M = some r ∧ ((r = 1 ∧ ∀ q, q < k → xI X q = i → tso X h q) ∨ (r = 0 ∧ ¬ ∀ q, q < k → xI X q = i → tso X h q)) := by
  obtain ⟨h1, h2, h3⟩ := hn
  unfold Rd_isSo
  refine iter (F := fun f q (_ : Unit) => Rd_isSo_3 N M f (nI i) (nI h) (nI k) (nI q)) (i := 0) (f := N) (s := ()) (n := k) (Q := fun z => ∃ r, z = some r ∧ ((r = 1 ∧ ∀ q, q < k → xI X q = i → tso X h q) ∨ (r = 0 ∧ ¬ ∀ q, q < k → xI X q = i → tso X h q))) (fun q _ => ∀ q', q' < q → xI X q' = i → tso X h q') ?_ ?_ (Nat.zero_le _) (by omega) (fun q hq => absurd hq (Nat.not_lt_zero _))
  · rintro f q _ hq p
    obtain ⟨t1, t2, t3, t4, t5⟩ := h3 q (by omega)
    have hH := hc.2.1
    have k1 : ¬ nI k ≤ nI q := by rw [leP (by omega) (by omega)]; omega
    have k2 : ¬ (20 : Int32) ≤ nI q := by rw [show (20 : Int32) = nI 20 from rfl, leP (by omega) (by omega)]; omega
    have nxt1 : tso X h q ∨ xI X q ≠ i → ∀ q', q' < q + 1 → xI X q' = i → tso X h q' := by
      intro z q' hq' e
      by_cases e2 : q' = q
      · subst e2
        rcases z with z | z
        · exact z
        · exact absurd e z
      · exact p q' (by omega) e
    by_cases e : xI X q = i
    · have hm : h / 2 ^ xO X q % 2 < 2 := Nat.mod_lt _ (by omega)
      have bb : nI h >>> (nI (xO X q) &&& 31) &&& 1 = nI (h / 2 ^ xO X q % 2) := sar1 (by omega) (by omega)
      have key : Rd_isSo_3 N M (f + 1) (nI i) (nI h) (nI k) (nI q) = if nI (h / 2 ^ xO X q % 2) = 0 then (if (if xZ X q = true then (1 : Int32) else 0) = 0 then Rd_isSo_3 N M f (nI i) (nI h) (nI k) (nI (q + 1)) else some 0) else (if (if xZ X q = true then (1 : Int32) else 0) = 1 then Rd_isSo_3 N M f (nI i) (nI h) (nI k) (nI (q + 1)) else some 0) := by
        rw [Rd_isSo_3, if_neg k1, if_neg k2, grd_in (by omega) (by omega), clp (by omega), t3, if_pos (by rw [e]), grd_in (by omega) (by omega), grd_in (by omega) (by omega), t4, bb, t5]
        unfold Rd_isSo_53 Rd_isSo_58
        rw [show nI q + 1 = nI (q + 1) from nI_add q 1]
      by_cases z : tso X h q
      · refine Or.inl ⟨(), nxt1 (Or.inl z), ?_⟩
        rw [key]
        by_cases y : h / 2 ^ xO X q % 2 = 1
        · rw [if_neg (by rw [y]; decide), if_pos (by rw [z.mp y]; decide)]
        · have y0 : xZ X q = false := Bool.eq_false_iff.mpr (fun q => y (z.mpr q))
          rw [if_pos (by rw [show h / 2 ^ xO X q % 2 = 0 by omega]; decide), if_pos (by rw [y0]; decide)]
      · refine Or.inr ⟨0, ?_, Or.inr ⟨rfl, fun w => z (w q hq e)⟩⟩
        rw [key]
        by_cases y : h / 2 ^ xO X q % 2 = 1
        · have y0 : xZ X q = false := Bool.eq_false_iff.mpr (fun w => z ⟨fun _ => w, fun _ => y⟩)
          rw [if_neg (by rw [y]; decide), if_neg (by rw [y0]; decide)]
        · have y0 : xZ X q = true := by
            cases w : xZ X q
            · exact absurd ⟨fun w2 => absurd w2 y, fun w2 => by rw [w] at w2; cases w2⟩ z
            · rfl
          rw [if_pos (by rw [show h / 2 ^ xO X q % 2 = 0 by omega]; decide), if_neg (by rw [y0]; decide)]
    · refine Or.inl ⟨(), nxt1 (Or.inr e), ?_⟩
      rw [Rd_isSo_3, if_neg k1, if_neg k2, grd_in (by omega) (by omega), clp (by omega), t3, if_neg (by rw [eqP (by omega) (by omega)]; exact e)]
      unfold Rd_isSo_58
      rw [show nI q + 1 = nI (q + 1) from nI_add q 1]
  · rintro f _ p
    refine ⟨1, ?_, Or.inl ⟨rfl, p⟩⟩
    rw [Rd_isSo_3, if_pos (by rw [leP (by omega) (by omega)]; omega)]
theorem CIn_q {c : gar} {X : aux} {M A : mS} (h : CIn c X M) (hf : frQ M A) : CIn c X A := CIn_fr h (hf.1 _ _ (by omega) (by omega) (by omega)) (fun i => hf.1 _ _ (by omega) (by omega) (by omega)) (fun i => hf.1 _ _ (by omega) (by omega) (by omega)) (fun i => hf.1 _ _ (by omega) (by omega) (by omega))
theorem fitting_s {N : Nat} {c : gar} {R : Nat → Int32} {X : aux} {M : mS} {k g hr : Nat} (hN : 1000 ≤ N) (hc : gOk c) (hC : gC c M) (hrow : rowC c (M.1 34) R) (hn : CIn c X M) (hk : k ≤ xN X) (hg : g < gG c) (hh : hr < 24) : ∃ A, Rd_fitting N (nI k) (nI g) (nI hr) M = some (fsI c R X g k (gD c), A) ∧ (∀ d, d < gD c → A.1 63 d = nI (snN c R g d hr 31)) ∧ frQ M A := by
  obtain ⟨hc1, hc2, hc3, hc4, hc5, hc6⟩ := id hc
  unfold Rd_fitting
  refine iter (F := fun f d (s : Int32 × mS) => Rd_fitting_6 N f (nI k) (nI g) (nI hr) s.1 (nI d) s.2) (i := 0) (f := N) (s := ((0 : Int32), M)) (n := gD c) (Q := fun r => ∃ A, r = some (fsI c R X g k (gD c), A) ∧ (∀ d, d < gD c → A.1 63 d = nI (snN c R g d hr 31)) ∧ frQ M A) (fun d s => s.1 = fsI c R X g k d ∧ (∀ e, e < d → s.2.1 63 e = nI (snN c R g e hr 31)) ∧ frQ M s.2) ?_ ?_ (Nat.zero_le _) (by omega) ⟨rfl, fun d hd => absurd hd (Nat.not_lt_zero _), frQ.refl⟩
  · rintro f d ⟨x, t⟩ hd ⟨h1, h2, h3⟩
    dsimp only at h1 h2 h3
    subst h1
    have row : rowC c (t.1 34) R := rowC_c hrow (fun j => h3.1 34 j (by omega) (by omega) (by omega))
    obtain ⟨A0, eA0, wA0, fA0⟩ := beginU (N := N) hc (h3.gC hC) row (show 9 + g < 44 by omega) (row_by hc (R := R) hg hd)
    let A : mS := mWI (mWI A0 40 (9 + g) (nI d)) 63 d 0
    have fA : frQ t A := fA0.frQ.wI (by omega)
    have wA : WK c A (upd R (8 + g) (nI d)) := WK_x (x := 63) (by omega) wA0 (fun a j q => by show (mWI _ 63 d 0).1 a j = _; rw [mWI_ne q])
    have inner : ∃ B, ((∀ e, e < d + 1 → B.1 63 e = nI (snN c R g e hr 31)) ∧ frQ M B) ∧ Rd_fitting_54 N (Rd_fitting_6 N f) N (nI k) (nI g) (nI hr) (fsI c R X g k d) (nI d) 1 0 A = Rd_fitting_6 N f (nI k) (nI g) (nI hr) (fsI c R X g k (d + 1)) (nI (d + 1)) B := by
      refine iter (F := fun u j (s : Int32 × mS) => Rd_fitting_54 N (Rd_fitting_6 N f) u (nI k) (nI g) (nI hr) (fsI c R X g k d) (nI d) s.1 (nI j) s.2) (i := 0) (f := N) (s := ((1 : Int32), A)) (n := 31) (Q := fun r => ∃ B, ((∀ e, e < d + 1 → B.1 63 e = nI (snN c R g e hr 31)) ∧ frQ M B) ∧ r = Rd_fitting_6 N f (nI k) (nI g) (nI hr) (fsI c R X g k (d + 1)) (nI (d + 1)) B) (fun j s => ((s.1 = 1 ∧ ∀ q, q < k → xI X q < j → tso X (tdN c R g d (xI X q)) q) ∨ (s.1 = 0 ∧ ¬ ∀ q, q < k → xI X q < j → tso X (tdN c R g d (xI X q)) q)) ∧ WK c s.2 (nxn c none (upd R (8 + g) (nI d)) j) ∧ (∀ e, e < d → s.2.1 63 e = nI (snN c R g e hr 31)) ∧ s.2.1 63 d = nI (snN c R g d hr j) ∧ frQ M s.2) ?_ ?_ (Nat.zero_le _) (by omega) ⟨Or.inl ⟨rfl, fun q _ w => absurd w (Nat.not_lt_zero _)⟩, wA, fun e he => ?_, rI rfl, h3.trans fA⟩
      · rintro u j ⟨x7, s⟩ hj ⟨p1, p2, p3, p4, p5⟩
        dsimp only at p1 p2 p3 p4 p5
        obtain ⟨B1, b1, b2, b3, b4⟩ := night_W hN hc p2
        have e41 : B1.1 41 g = nI (tdN c R g d j) := (b3.1 g hg).trans (tdN_s hc).1
        have l24 := (tdN_s hc (R := R) (g := g) (d := d) (i := j)).2
        have e63 : B1.1 63 d = nI (snN c R g d hr j) := (b4.1 63 d (by omega) (by omega) (by omega)).trans p4
        have f1 : frQ M B1 := p5.trans b4.frQ
        have sl := snN_lt (c := c) (R := R) (g := g) (d := d) (hr := hr) j
        have hp : (2 : Nat) ^ j ≤ 2 ^ 30 := Nat.pow_le_pow_right (by omega) (by omega)
        have hm : tdN c R g d j / 2 ^ hr % 2 < 2 := Nat.mod_lt _ (by omega)
        have hmm : tdN c R g d j / 2 ^ hr % 2 * 2 ^ j ≤ 1 * 2 ^ j := Nat.mul_le_mul_right _ (by omega)
        have sh : (nI (tdN c R g d j) >>> (nI hr &&& 31) &&& 1) <<< (nI j &&& 31) = nI (tdN c R g d j / 2 ^ hr % 2 * 2 ^ j) := by
          rw [show nI (tdN c R g d j) >>> (nI hr &&& 31) &&& 1 = nI (tdN c R g d j / 2 ^ hr % 2) from sar1 (by omega) (by omega)]
          exact pk_shlN _ j (s_l j (by omega)) (by omega)
        let B2 : mS := mWI B1 63 d (nI (snN c R g d hr (j + 1)))
        have wB2 := WK_x (B := B2) (x := 63) (by omega) b2 (fun a i q => by show (mWI _ 63 d _).1 a i = _; rw [mWI_ne q])
        have sB2 := SEEN_x (B := B2) (x := 63) (by omega) b3 (fun a i q => by show (mWI _ 63 d _).1 a i = _; rw [mWI_ne q])
        obtain ⟨B3, d1, d2, d3⟩ := pass_W hN hc wB2 sB2
        have k98 : ∀ z, Rd_fitting_98 N (Rd_fitting_6 N f) (Rd_fitting_54 N (Rd_fitting_6 N f) u) (nI k) (nI g) (nI hr) (fsI c R X g k d) (nI d) (nI j) z B1 = Rd_fitting_54 N (Rd_fitting_6 N f) u (nI k) (nI g) (nI hr) (fsI c R X g k d) (nI d) z (nI (j + 1)) B3 := by
          intro z
          unfold Rd_fitting_98
          rw [grd_in (by omega) (by omega), grd_in (by omega) (by omega), grd_in (by omega) (by omega), clp (by omega), clp (by omega), e63, e41, sh, fa_or, nxs]
          show bV (Wk_pass N B2) _ = _
          rw [d1, bVs, show nI j + 1 = nI (j + 1) from nI_add j 1]
        have st : ∀ z : Int32, ((z = 1 ∧ ∀ q, q < k → xI X q < j + 1 → tso X (tdN c R g d (xI X q)) q) ∨ (z = 0 ∧ ¬ ∀ q, q < k → xI X q < j + 1 → tso X (tdN c R g d (xI X q)) q)) → Rd_fitting_54 N (Rd_fitting_6 N f) (u + 1) (nI k) (nI g) (nI hr) (fsI c R X g k d) (nI d) x7 (nI j) s = Rd_fitting_98 N (Rd_fitting_6 N f) (Rd_fitting_54 N (Rd_fitting_6 N f) u) (nI k) (nI g) (nI hr) (fsI c R X g k d) (nI d) (nI j) z B1 → (∃ s' : Int32 × mS, (((s'.1 = 1 ∧ ∀ q, q < k → xI X q < j + 1 → tso X (tdN c R g d (xI X q)) q) ∨ (s'.1 = 0 ∧ ¬ ∀ q, q < k → xI X q < j + 1 → tso X (tdN c R g d (xI X q)) q)) ∧ WK c s'.2 (nxn c none (upd R (8 + g) (nI d)) (j + 1)) ∧ (∀ e, e < d → s'.2.1 63 e = nI (snN c R g e hr 31)) ∧ s'.2.1 63 d = nI (snN c R g d hr (j + 1)) ∧ frQ M s'.2) ∧ Rd_fitting_54 N (Rd_fitting_6 N f) (u + 1) (nI k) (nI g) (nI hr) (fsI c R X g k d) (nI d) x7 (nI j) s = Rd_fitting_54 N (Rd_fitting_6 N f) u (nI k) (nI g) (nI hr) (fsI c R X g k d) (nI d) s'.1 (nI (j + 1)) s'.2) := by
          intro z hz hq
          refine ⟨(z, B3), ⟨hz, d2, fun e he => ?_, ?_, (f1.wI (a := 63) (by omega)).trans d3.frQ⟩, by rw [hq, k98]⟩
          · rw [d3.1 63 e (by omega) (by omega) (by omega)]
            show (mWI _ 63 d _).1 63 e = _
            rw [rN (by omega), b4.1 63 e (by omega) (by omega) (by omega)]; exact p3 e he
          · rw [d3.1 63 d (by omega) (by omega) (by omega)]; exact rI rfl
        have k30 : ¬ (30 : Int32) < nI j := by rw [show (30 : Int32) = nI 30 from rfl, ltP (by omega) (by omega)]; omega
        refine Or.inl ?_
        rcases p1 with ⟨rfl, p1⟩ | ⟨rfl, p1⟩
        · obtain ⟨r, er, hr'⟩ := isSo_s (N := N) (M := B1) (i := j) (h := tdN c R g d j) (k := k) hN hc (CIn_q hn f1) hk (by omega) l24
          rcases hr' with ⟨rfl, hr'⟩ | ⟨rfl, hr'⟩
          · refine st 1 (Or.inl ⟨rfl, fun q hq w => ?_⟩) ?_
            · by_cases e : xI X q = j
              · rw [e]; exact hr' q hq e
              · exact p1 q hq (by omega)
            · rw [Rd_fitting_54, if_neg k30, b1, bVs, if_neg (by decide), grd_in (by omega) (by omega), clp (by omega), e41, er, bRs, if_neg (by decide)]
          · refine st 0 (Or.inr ⟨rfl, fun w => hr' (fun q hq e => ?_)⟩) ?_
            · have := w q hq (by omega)
              rw [e] at this; exact this
            · rw [Rd_fitting_54, if_neg k30, b1, bVs, if_neg (by decide), grd_in (by omega) (by omega), clp (by omega), e41, er, bRs, if_pos (by decide)]
              rfl
        · refine st 0 (Or.inr ⟨rfl, fun w => p1 (fun q hq e => w q hq (by omega))⟩) ?_
          rw [Rd_fitting_54, if_neg k30, b1, bVs, if_pos (by decide)]
          rfl
      · rintro u ⟨x7, s⟩ ⟨p1, p2, p3, p4, p5⟩
        dsimp only at p1 p2 p3 p4 p5
        refine ⟨s, ⟨fun e he => ?_, p5⟩, ?_⟩
        · by_cases z : e = d
          · rw [z]; exact p4
          · exact p3 e (by omega)
        · have fin : (∀ q, q < k → xI X q < 31 → tso X (tdN c R g d (xI X q)) q) ↔ ftB c R X g k d = true := by
            rw [ftB_t]
            constructor
            · intro w q hq
              exact w q hq (by have := (hn.2.2 q (by omega)).1; omega)
            · intro w q hq _; exact w q hq
          have efs : fsI c R X g k (d + 1) = fsI c R X g k d ||| (if ftB c R X g k d = true then nI (2 ^ d) else 0) := rfl
          dsimp only
          rw [Rd_fitting_54, if_pos (by decide), efs]
          unfold Rd_fitting_154
          rcases p1 with ⟨rfl, p1⟩ | ⟨rfl, p1⟩
          · rw [if_neg (by decide), nxs, if_pos (fin.mp p1), shlg (by omega), show nI d + 1 = nI (d + 1) from nI_add d 1]
          · rw [if_pos (by decide), if_neg (fun w => p1 (fin.mpr w)), or0, show nI d + 1 = nI (d + 1) from nI_add d 1]
      · show (mWI (mWI A0 40 (9 + g) (nI d)) 63 d 0).1 63 e = _
        rw [rN (by omega), fA0.1 63 e (by omega) (by omega) (by omega)]; exact h2 e he
    obtain ⟨B, ⟨q1, q2⟩, q3⟩ := inner
    refine Or.inl ⟨(fsI c R X g k (d + 1), B), ⟨rfl, q1, q2⟩, ?_⟩
    dsimp only
    rw [Rd_fitting_6, (h3.gC hC).2.1, if_neg (by rw [leP (by omega) (by omega)]; omega), eA0, bVs, show (9 : Int32) + nI g = nI (9 + g) from nI_add 9 g, grd_in (by omega) (by omega), clp (by omega), nxs, grd_in (by omega) (by omega), clp (by omega), nxs]
    exact q3
  · rintro f ⟨x, t⟩ ⟨h1, h2, h3⟩
    dsimp only at h1 h2 h3
    subst h1
    refine ⟨t, ?_, h2, h3⟩
    dsimp only
    rw [Rd_fitting_6, (h3.gC hC).2.1, if_pos (by rw [leP (by omega) (by omega)]; omega)]
