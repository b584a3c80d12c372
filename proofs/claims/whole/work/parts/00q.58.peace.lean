/-! peace -/
noncomputable def hrN (c : gar) (R : Nat → Int32) (a b k : Nat) : Nat := (bc (tK c R k a &&& tK c R k b)).toNatClampNeg
theorem hrN_s {c : gar} (hc : gOk c) {R : Nat → Int32} {a b k : Nat} : bc (tK c R k a &&& tK c R k b) = nI (hrN c R a b k) ∧ hrN c R a b k ≤ 24 := by
  obtain ⟨n, hn, e⟩ := bc_nat (sml_and (y := tK c R k b) (sml_tK hc (R := R) (k := k) (g := a)))
  unfold hrN
  rw [e, clp (by omega)]
  exact ⟨rfl, hn⟩
noncomputable def ofN (c : gar) (R : Nat → Int32) (n a b : Nat) : Nat := sumN (hrN c R a b) n
theorem ofN_le {c : gar} (hc : gOk c) {R : Nat → Int32} {n a b : Nat} : ofN c R n a b ≤ n * 24 := sumN_le (fun k => (hrN_s hc).2) n
theorem ofN_c {c : gar} {R : Nat → Int32} {n a b : Nat} : ofN c R n a b = ofN c R n b a := by
  unfold ofN
  rw [show hrN c R a b = hrN c R b a from funext fun k => by unfold hrN; rw [and_cm]]
theorem ofN_s {c : gar} {R : Nat → Int32} {n a b : Nat} : ofN c R (n + 1) a b = ofN c R n a b + hrN c R a b n := rfl
theorem ofI_s {c : gar} (hc : gOk c) {R : Nat → Int32} {a b : Nat} : ∀ n, sumI (fun k => bc (tK c R k a &&& tK c R k b)) n = nI (ofN c R n a b)
  | 0 => rfl
  | n + 1 => by rw [sumI_s, ofI_s hc n, (hrN_s hc).1, nI_add, ofN_s]
theorem WK_x {c : gar} {M B : mS} {R : Nat → Int32} {x : Nat} (hx : 43 < x) (h : WK c M R) (hf : ∀ a j, a ≠ x → B.1 a j = M.1 a j) : WK c B R := by
  obtain ⟨p1, p2, p3, p4⟩ := h
  refine ⟨gC_fr p1 (fun a j q => hf a j (by omega)), by rw [show B.1 40 = M.1 40 from funext fun j => hf 40 j (by omega)]; exact p2, p3, fun p7 p0 p1 g hg => ?_⟩
  rw [hf 39 7 (by omega)] at p7
  rw [changes_c (hf 4 5 (by omega))] at p0 p1
  rw [hf 43 g (by omega)]
  exact p4 p7 p0 p1 g hg
theorem SEEN_x {c : gar} {m : Option Int32} {M B : mS} {R : Nat → Int32} {x : Nat} (hx : 43 < x) (h : SEEN c m M R) (hf : ∀ a j, a ≠ x → B.1 a j = M.1 a j) : SEEN c m B R := ⟨fun g hg => (hf _ _ (by omega)).trans (h.1 g hg), (hf _ _ (by omega)).trans h.2.1, (hf _ _ (by omega)).trans h.2.2⟩
theorem frQ_x {M B : mS} {x : Nat} (hx : 43 < x ∧ x ≤ 49) (hf : ∀ a j, a ≠ x → B.1 a j = M.1 a j) (hl : B.2 = M.2) : frQ M B := ⟨fun a j q1 q2 q3 => hf a j (by omega), hl⟩
theorem addShared_s {N : Nat} {c : gar} {R : Nat → Int32} {M : mS} {n : Nat} (hN : 1000 ≤ N) (hn : n ≤ 400) (hc : gOk c) (h : WK c M R) : ∃ A, Tl_addShared N (nI n) M = some A ∧ (∀ a b, a < b → b < gG c → A.1 47 (a * 5 + b) = nI (ofN c R n a b)) ∧ frQ M A := by
  obtain ⟨hc1, hc2, hc3, hc4, hc5, hc6⟩ := id hc
  have clear : ∃ A, Tl_clear N M = some A ∧ (∀ j, j < 25 → A.1 47 j = 0) ∧ (∀ a j, a ≠ 47 → A.1 a j = M.1 a j) ∧ A.2 = M.2 := by
    unfold Tl_clear
    refine iter (F := fun f i (s : mS) => Tl_clear_2 N f (nI i) s) (i := 0) (f := N) (s := M) (n := 25) (Q := fun r => ∃ A, r = some A ∧ (∀ j, j < 25 → A.1 47 j = 0) ∧ (∀ a j, a ≠ 47 → A.1 a j = M.1 a j) ∧ A.2 = M.2) (fun i s => (∀ j, j < i → s.1 47 j = 0) ∧ (∀ a j, a ≠ 47 → s.1 a j = M.1 a j) ∧ s.2 = M.2) ?_ ?_ (Nat.zero_le _) (by omega) ⟨fun j hj => absurd hj (Nat.not_lt_zero _), fun _ _ _ => rfl, rfl⟩
    · rintro f i s hi ⟨h1, h2, h3⟩
      refine Or.inl ⟨mWI s 47 i 0, ⟨fun j hj => ?_, fun a j ha => by rw [mWI_ne ha]; exact h2 a j ha, h3⟩, ?_⟩
      · by_cases e : j = i
        · subst e; rw [rI rfl]
        · rw [rN (by omega)]; exact h1 j (by omega)
      · rw [Tl_clear_2, onI, if_neg (by rw [leP (by omega) (by omega)]; omega), grd_in (by omega) (by omega), clp (by omega), nxs, show nI i + 1 = nI (i + 1) from nI_add i 1]
    · rintro f s ⟨h1, h2, h3⟩
      refine ⟨s, ?_, h1, h2, h3⟩
      rw [Tl_clear_2, if_pos (by decide)]
  obtain ⟨A0, e0, z1, z2, z3⟩ := clear
  have w0 : WK c A0 R := WK_x (by omega) h z2
  have f0 : frQ M A0 := frQ_x (by omega) z2 z3
  unfold Tl_addShared
  rw [e0, bVs]
  refine iter (F := fun f i (s : mS) => Tl_addShared_9 N f (nI n) (nI i) s) (i := 0) (f := N) (s := A0) (n := n) (Q := fun r => ∃ A, r = some A ∧ (∀ a b, a < b → b < gG c → A.1 47 (a * 5 + b) = nI (ofN c R n a b)) ∧ frQ M A) (fun i s => (∀ a b, a < b → b < gG c → s.1 47 (a * 5 + b) = nI (ofN c R i a b)) ∧ WK c s (nxn c none R i) ∧ frQ M s) ?_ ?_ (Nat.zero_le _) (by omega) ⟨fun a b _ hb => z1 _ (by omega), w0, f0⟩
  · rintro f i s hi ⟨h1, h2, h3⟩
    obtain ⟨B1, b1, b2, b3, b4⟩ := night_W hN hc h2
    have outer : ∃ B, ((∀ a b, a < b → b < gG c → B.1 47 (a * 5 + b) = nI (ofN c R (i + 1) a b)) ∧ (∀ a j, a ≠ 47 → B.1 a j = B1.1 a j) ∧ B.2 = B1.2) ∧ Tl_addShared_24 N (Tl_addShared_9 N f) N (nI n) (nI i) 0 B1 = bV (Wk_pass N B) fun M2 => Tl_addShared_9 N f (nI n) (nI (i + 1)) M2 := by
      refine iter (F := fun u j (t : mS) => Tl_addShared_24 N (Tl_addShared_9 N f) u (nI n) (nI i) (nI j) t) (i := 0) (f := N) (s := B1) (n := gG c) (Q := fun r => ∃ B, ((∀ a b, a < b → b < gG c → B.1 47 (a * 5 + b) = nI (ofN c R (i + 1) a b)) ∧ (∀ a j, a ≠ 47 → B.1 a j = B1.1 a j) ∧ B.2 = B1.2) ∧ r = bV (Wk_pass N B) fun M2 => Tl_addShared_9 N f (nI n) (nI (i + 1)) M2) (fun j t => (∀ a b, a < b → b < gG c → t.1 47 (a * 5 + b) = nI (if a < j then ofN c R (i + 1) a b else ofN c R i a b)) ∧ (∀ a k, a ≠ 47 → t.1 a k = B1.1 a k) ∧ t.2 = B1.2) ?_ ?_ (Nat.zero_le _) (by omega) ⟨fun a b q1 q2 => by rw [if_neg (Nat.not_lt_zero _), b4.1 47 _ (by omega) (by omega) (by omega)]; exact h1 a b q1 q2, fun _ _ _ => rfl, rfl⟩
      · rintro u j t hj ⟨q1, q2, q3⟩
        have t8 : t.1 3 8 = nI (gG c) := (q2 _ _ (by omega)).trans b2.1.2.2.1
        have inner : ∃ B, ((∀ a b, a < b → b < gG c → B.1 47 (a * 5 + b) = nI (if a < j + 1 then ofN c R (i + 1) a b else ofN c R i a b)) ∧ (∀ a k, a ≠ 47 → B.1 a k = B1.1 a k) ∧ B.2 = B1.2) ∧ Tl_addShared_40 N (Tl_addShared_9 N f) (Tl_addShared_24 N (Tl_addShared_9 N f) u) N (nI n) (nI i) (nI j) (nI (j + 1)) t = Tl_addShared_24 N (Tl_addShared_9 N f) u (nI n) (nI i) (nI (j + 1)) B := by
          refine iter (F := fun u2 b (t2 : mS) => Tl_addShared_40 N (Tl_addShared_9 N f) (Tl_addShared_24 N (Tl_addShared_9 N f) u) u2 (nI n) (nI i) (nI j) (nI b) t2) (i := j + 1) (f := N) (s := t) (n := gG c) (Q := fun r => ∃ B, ((∀ a b, a < b → b < gG c → B.1 47 (a * 5 + b) = nI (if a < j + 1 then ofN c R (i + 1) a b else ofN c R i a b)) ∧ (∀ a k, a ≠ 47 → B.1 a k = B1.1 a k) ∧ B.2 = B1.2) ∧ r = Tl_addShared_24 N (Tl_addShared_9 N f) u (nI n) (nI i) (nI (j + 1)) B) (fun b t2 => j + 1 ≤ b ∧ (∀ a' b', a' < b' → b' < gG c → t2.1 47 (a' * 5 + b') = nI (if a' < j ∨ (a' = j ∧ b' < b) then ofN c R (i + 1) a' b' else ofN c R i a' b')) ∧ (∀ a k, a ≠ 47 → t2.1 a k = B1.1 a k) ∧ t2.2 = B1.2) ?_ ?_ (by omega) (by omega) ⟨Nat.le_refl _, fun a' b' z1 z2 => ?_, q2, q3⟩
          · rintro u2 b t2 hb ⟨p0, p1, p2, p3⟩
            have t28 : t2.1 3 8 = nI (gG c) := (p2 _ _ (by omega)).trans b2.1.2.2.1
            have sh := shared_s (N := N) (M := t2) (f := tK c R i) hc4 (fun g hg => (p2 _ _ (by omega)).trans (b3.1 g hg)) hj hb
            rw [shv_ne (by omega), (hrN_s hc).1] at sh
            have e47 : t2.1 47 (j * 5 + b) = nI (ofN c R i j b) := by rw [p1 j b (by omega) hb, if_neg (by omega)]
            refine Or.inl ⟨mWI t2 47 (j * 5 + b) (nI (ofN c R (i + 1) j b)), ⟨by omega, fun a' b' z1 z2 => ?_, fun a k ha => by rw [mWI_ne ha]; exact p2 a k ha, p3⟩, ?_⟩
            · by_cases e : a' = j ∧ b' = b
              · obtain ⟨rfl, rfl⟩ := e
                rw [rI rfl, if_pos (by omega)]
              · rw [rN (by omega), p1 a' b' z1 z2]
                by_cases z : a' < j ∨ (a' = j ∧ b' < b)
                · rw [if_pos z, if_pos (by omega)]
                · rw [if_neg z, if_neg (by omega)]
            · rw [Tl_addShared_40, t28, if_neg (by rw [leP (by omega) (by omega)]; omega), show nI j * 5 = nI (j * 5) from pk_mul j 5, nI_add, grd_in (by omega) (by omega), sh, bRs, grd_in (by omega) (by omega), clp (by omega), e47, nI_add, nxs, show nI b + 1 = nI (b + 1) from nI_add b 1, ofN_s]
          · rintro u2 t2 ⟨p0, p1, p2, p3⟩
            have t28 : t2.1 3 8 = nI (gG c) := (p2 _ _ (by omega)).trans b2.1.2.2.1
            refine ⟨t2, ⟨fun a' b' z1 z2 => ?_, p2, p3⟩, ?_⟩
            · rw [p1 a' b' z1 z2]
              by_cases z : a' < j ∨ (a' = j ∧ b' < gG c)
              · rw [if_pos z, if_pos (by omega)]
              · rw [if_neg z, if_neg (by omega)]
            · rw [Tl_addShared_40, t28, if_pos (by rw [leP (by omega) (by omega)]; omega), show nI j + 1 = nI (j + 1) from nI_add j 1]
          · rw [q1 a' b' z1 z2]
            by_cases z : a' < j
            · rw [if_pos z, if_pos (Or.inl z)]
            · rw [if_neg z, if_neg (by omega)]
        obtain ⟨B, p1, p2⟩ := inner
        refine Or.inl ⟨B, p1, ?_⟩
        rw [Tl_addShared_24, t8, if_neg (by rw [leP (by omega) (by omega)]; omega), nxs, show nI j + 1 = nI (j + 1) from nI_add j 1, p2]
      · rintro u t ⟨q1, q2, q3⟩
        have t8 : t.1 3 8 = nI (gG c) := (q2 _ _ (by omega)).trans b2.1.2.2.1
        refine ⟨t, ⟨fun a b z1 z2 => by rw [q1 a b z1 z2, if_pos (by omega)], q2, q3⟩, ?_⟩
        rw [Tl_addShared_24, t8, if_pos (by rw [leP (by omega) (by omega)]; omega), show nI i + 1 = nI (i + 1) from nI_add i 1]
    obtain ⟨B, ⟨q1, q2, q3⟩, q4⟩ := outer
    obtain ⟨B2, d1, d2, d3⟩ := pass_W hN hc (WK_x (by omega) b2 q2) (SEEN_x (by omega) b3 q2)
    refine Or.inl ⟨B2, ⟨fun a b z1 z2 => by rw [d3.1 47 _ (by omega) (by omega) (by omega)]; exact q1 a b z1 z2, d2, ((h3.trans b4.frQ).trans (frQ_x (by omega) q2 q3)).trans d3.frQ⟩, ?_⟩
    rw [Tl_addShared_9, if_neg (by rw [leP (by omega) (by omega)]; omega), b1, bVs, q4, d1, bVs]
  · rintro f s ⟨h1, h2, h3⟩
    refine ⟨s, ?_, h1, h3⟩
    rw [Tl_addShared_9, if_pos (by rw [leP (by omega) (by omega)]; omega)]
/-- no two others are together -/
def pcQ (G : Nat) (w : Nat → Nat → Nat) (s : Nat) : Prop := ∀ a b, a < b → b < G → s.testBit a = false → s.testBit b = false → w a b = 0
theorem bit_e {s a : Nat} : s.testBit a = false ↔ s / 2 ^ a % 2 = 0 := by
  have e : s.testBit a = decide (s / 2 ^ a % 2 = 1) := Nat.testBit_eq_decide_div_mod_eq
  rw [e, decide_eq_false_iff_not]; omega
theorem bit_t {s a : Nat} : s.testBit a = true ↔ s / 2 ^ a % 2 = 1 := by
  have e : s.testBit a = decide (s / 2 ^ a % 2 = 1) := Nat.testBit_eq_decide_div_mod_eq
  rw [e, decide_eq_true_eq]
theorem peaceC {N : Nat} {c : gar} {M : mS} {w : Nat → Nat → Nat} {s : Nat} (hN : 1000 ≤ N) (hc : gOk c) (h8 : M.1 3 8 = nI (gG c)) (hw : ∀ a b, a < b → b < gG c → M.1 47 (a * 5 + b) = nI (w a b)) (hb : ∀ a b, w a b < 100000) (hs : s < 32) : ∃ r, Tl_isPeaceWithout N (nI s) M = some r ∧ ((r = 1 ∧ pcQ (gG c) w s) ∨ (r = 0 ∧ ¬ pcQ (gG c) w s)) := by
  obtain ⟨hc1, hc2, hc3, hc4, hc5, hc6⟩ := id hc
  unfold Tl_isPeaceWithout
  refine iter (F := fun f i (_ : Unit) => Tl_isPeaceWithout_2 N M f (nI s) (nI i)) (i := 0) (f := N) (s := ()) (n := gG c) (Q := fun q => ∃ r, q = some r ∧ ((r = 1 ∧ pcQ (gG c) w s) ∨ (r = 0 ∧ ¬ pcQ (gG c) w s))) (fun i _ => ∀ a b, a < b → b < gG c → a < i → s.testBit a = false → s.testBit b = false → w a b = 0) ?_ ?_ (Nat.zero_le _) (by omega) (fun a b _ _ q => absurd q (Nat.not_lt_zero _))
  · rintro f i _ hi h1
    have inner : ((∀ b, i < b → b < gG c → s.testBit i = false → s.testBit b = false → w i b = 0) ∧ Tl_isPeaceWithout_17 N (Tl_isPeaceWithout_2 N M f) M N (nI s) (nI i) (nI (i + 1)) = Tl_isPeaceWithout_2 N M f (nI s) (nI (i + 1))) ∨ (¬ pcQ (gG c) w s ∧ Tl_isPeaceWithout_17 N (Tl_isPeaceWithout_2 N M f) M N (nI s) (nI i) (nI (i + 1)) = some 0) := by
      refine iter (F := fun u j (_ : Unit) => Tl_isPeaceWithout_17 N (Tl_isPeaceWithout_2 N M f) M u (nI s) (nI i) (nI j)) (i := i + 1) (f := N) (s := ()) (n := gG c) (Q := fun q => ((∀ b, i < b → b < gG c → s.testBit i = false → s.testBit b = false → w i b = 0) ∧ q = Tl_isPeaceWithout_2 N M f (nI s) (nI (i + 1))) ∨ (¬ pcQ (gG c) w s ∧ q = some 0)) (fun j _ => i + 1 ≤ j ∧ ∀ b, i < b → b < j → s.testBit i = false → s.testBit b = false → w i b = 0) ?_ ?_ (by omega) (by omega) ⟨Nat.le_refl _, fun b q1 q2 => by omega⟩
      · rintro u j _ hj ⟨p0, p1⟩
        have k1 : ¬ nI (gG c) ≤ nI j := by rw [leP (by omega) (by omega)]; omega
        have b1 : nI s >>> (nI i &&& 31) &&& 1 = nI (s / 2 ^ i % 2) := sar1 (by omega) (by omega)
        have b2 : nI s >>> (nI j &&& 31) &&& 1 = nI (s / 2 ^ j % 2) := sar1 (by omega) (by omega)
        have nx1 : ∀ q : s.testBit i = true ∨ s.testBit j = true ∨ w i j = 0, ∀ b, i < b → b < j + 1 → s.testBit i = false → s.testBit b = false → w i b = 0 := by
          intro q b z1 z2 z3 z4
          by_cases e : b = j
          · subst e
            rcases q with q | q | q
            · rw [q] at z3; cases z3
            · rw [q] at z4; cases z4
            · exact q
          · exact p1 b z1 (by omega) z3 z4
        have hm1 : s / 2 ^ i % 2 < 2 := Nat.mod_lt _ (by omega)
        have hm2 : s / 2 ^ j % 2 < 2 := Nat.mod_lt _ (by omega)
        by_cases z1 : s / 2 ^ i % 2 = 0
        · by_cases z2 : s / 2 ^ j % 2 = 0
          · have e47 := hw i j (by omega) hj
            have hwb := hb i j
            have key : Tl_isPeaceWithout_17 N (Tl_isPeaceWithout_2 N M f) M (u + 1) (nI s) (nI i) (nI j) = if nI (w i j) ≤ 0 then Tl_isPeaceWithout_17 N (Tl_isPeaceWithout_2 N M f) M u (nI s) (nI i) (nI (j + 1)) else some 0 := by
              rw [Tl_isPeaceWithout_17, h8, if_neg k1, b1, z1, if_pos (by decide), b2, z2, if_pos (by decide), show nI i * 5 = nI (i * 5) from pk_mul i 5, nI_add, grd_in (by omega) (by omega), clp (by omega), e47]
              unfold Tl_isPeaceWithout_59
              rw [show nI j + 1 = nI (j + 1) from nI_add j 1]
            by_cases z3 : w i j = 0
            · refine Or.inl ⟨(), ⟨by omega, nx1 (Or.inr (Or.inr z3))⟩, ?_⟩
              rw [key, if_pos (by rw [z3]; decide)]
            · refine Or.inr (Or.inr ⟨fun q => z3 (q i j (by omega) hj (bit_e.mpr z1) (bit_e.mpr z2)), ?_⟩)
              rw [key, if_neg (by rw [li0, leP (by omega) (by omega)]; omega)]
          · refine Or.inl ⟨(), ⟨by omega, nx1 (Or.inr (Or.inl (bit_t.mpr (by omega))))⟩, ?_⟩
            rw [Tl_isPeaceWithout_17, h8, if_neg k1, b1, z1, if_pos (by decide), b2, show s / 2 ^ j % 2 = 1 by omega, if_neg (by decide)]
            unfold Tl_isPeaceWithout_59
            rw [show nI j + 1 = nI (j + 1) from nI_add j 1]
        · refine Or.inl ⟨(), ⟨by omega, nx1 (Or.inl (bit_t.mpr (by omega)))⟩, ?_⟩
          rw [Tl_isPeaceWithout_17, h8, if_neg k1, b1, show s / 2 ^ i % 2 = 1 by omega, if_neg (by decide)]
          unfold Tl_isPeaceWithout_59
          rw [show nI j + 1 = nI (j + 1) from nI_add j 1]
      · rintro u _ ⟨p0, p1⟩
        refine Or.inl ⟨p1, ?_⟩
        rw [Tl_isPeaceWithout_17, h8, if_pos (by rw [leP (by omega) (by omega)]; omega), show nI i + 1 = nI (i + 1) from nI_add i 1]
    have key : Tl_isPeaceWithout_2 N M (f + 1) (nI s) (nI i) = Tl_isPeaceWithout_17 N (Tl_isPeaceWithout_2 N M f) M N (nI s) (nI i) (nI (i + 1)) := by
      rw [Tl_isPeaceWithout_2, h8, if_neg (by rw [leP (by omega) (by omega)]; omega), nxs, show nI i + 1 = nI (i + 1) from nI_add i 1]
    rcases inner with ⟨q1, q2⟩ | ⟨q1, q2⟩
    · refine Or.inl ⟨(), fun a b z1 z2 z3 z4 z5 => ?_, key.trans q2⟩
      by_cases e : a = i
      · subst e; exact q1 b z1 z2 z4 z5
      · exact h1 a b z1 z2 (by omega) z4 z5
    · exact Or.inr ⟨0, key.trans q2, Or.inr ⟨rfl, q1⟩⟩
  · rintro f _ h1
    refine ⟨1, ?_, Or.inl ⟨rfl, fun a b z1 z2 => h1 a b z1 z2 (by omega)⟩⟩
    rw [Tl_isPeaceWithout_2, h8, if_pos (by rw [leP (by omega) (by omega)]; omega)]
theorem areAny_s {N : Nat} {c : gar} {v n : Nat} {R : Nat → Int32} {B : mS} {s : Nat} (hN : 1000 ≤ N) (hn : n ≤ 400) (hc : gOk c) (hM : gM c v B) (hF : FILL c R n B) (hs : s < 32) : ∃ r, Mo_areAny N (nI s) (nI n) B = some r ∧ ((r = 0 ∧ pcQ (gG c) (ofN c R n) s) ∨ (r = 1 ∧ ¬ pcQ (gG c) (ofN c R n) s)) := by
  obtain ⟨hc1, hc2, hc3, hc4, hc5, hc6⟩ := id hc
  obtain ⟨m0, m1, m2, m3, m4, -⟩ := id hM
  unfold Mo_areAny
  refine iter (F := fun f i (_ : Unit) => Mo_areAny_2 N B f (nI s) (nI n) (nI i)) (i := 0) (f := N) (s := ()) (n := gG c) (Q := fun q => ∃ r, q = some r ∧ ((r = 0 ∧ pcQ (gG c) (ofN c R n) s) ∨ (r = 1 ∧ ¬ pcQ (gG c) (ofN c R n) s))) (fun i _ => ∀ a b, a < b → b < i → s.testBit a = false → s.testBit b = false → ofN c R n a b = 0) ?_ ?_ (Nat.zero_le _) (by omega) (fun a b _ q => absurd q (Nat.not_lt_zero _))
  · rintro f i _ hi h1
    have inner : ((∀ a, a < i → s.testBit a = false → s.testBit i = false → ofN c R n a i = 0) ∧ Mo_areAny_18 N (Mo_areAny_2 N B f) B N (nI s) (nI n) (nI i) 0 = Mo_areAny_2 N B f (nI s) (nI n) (nI (i + 1))) ∨ (¬ pcQ (gG c) (ofN c R n) s ∧ Mo_areAny_18 N (Mo_areAny_2 N B f) B N (nI s) (nI n) (nI i) 0 = some 1) := by
      refine iter (F := fun u j (_ : Unit) => Mo_areAny_18 N (Mo_areAny_2 N B f) B u (nI s) (nI n) (nI i) (nI j)) (i := 0) (f := N) (s := ()) (n := i) (Q := fun q => ((∀ a, a < i → s.testBit a = false → s.testBit i = false → ofN c R n a i = 0) ∧ q = Mo_areAny_2 N B f (nI s) (nI n) (nI (i + 1))) ∨ (¬ pcQ (gG c) (ofN c R n) s ∧ q = some 1)) (fun j _ => ∀ a, a < j → s.testBit a = false → s.testBit i = false → ofN c R n a i = 0) ?_ ?_ (Nat.zero_le _) (by omega) (fun a q => absurd q (Nat.not_lt_zero _))
      · rintro u j _ hj p1
        have k1 : ¬ nI i ≤ nI j := by rw [leP (by omega) (by omega)]; omega
        have hp1 : (2 : Nat) ^ i ≤ 32 := pow5 (by omega)
        have hp2 : (2 : Nat) ^ j ≤ 32 := pow5 (by omega)
        have hand : (2 ^ i ||| 2 ^ j) &&& s = 0 ↔ s.testBit i = false ∧ s.testBit j = false := by
          constructor
          · intro e
            refine ⟨?_, ?_⟩
            · have := congrArg (fun z => z.testBit i) e
              simp only [Nat.testBit_and, Nat.zero_testBit] at this
              rw [pair_bit.mpr (Or.inl rfl), Bool.true_and] at this
              exact this
            · have := congrArg (fun z => z.testBit j) e
              simp only [Nat.testBit_and, Nat.zero_testBit] at this
              rw [pair_bit.mpr (Or.inr rfl), Bool.true_and] at this
              exact this
          · rintro ⟨e1, e2⟩
            apply Nat.eq_of_testBit_eq
            intro o
            rw [Nat.testBit_and, Nat.zero_testBit]
            cases z : (2 ^ i ||| 2 ^ j).testBit o
            · rfl
            · rcases pair_bit.mp z with rfl | rfl
              · rw [e1]; rfl
              · rw [e2]; rfl
        have hal : (2 ^ i ||| 2 ^ j) &&& s ≤ s := Nat.and_le_right
        have hol := ofN_le hc (R := R) (n := n) (a := j) (b := i)
        have key : Mo_areAny_18 N (Mo_areAny_2 N B f) B (u + 1) (nI s) (nI n) (nI i) (nI j) = if nI ((2 ^ i ||| 2 ^ j) &&& s) = 0 then (if nI (ofN c R n j i) ≤ 0 then Mo_areAny_18 N (Mo_areAny_2 N B f) B u (nI s) (nI n) (nI i) (nI (j + 1)) else some 1) else Mo_areAny_18 N (Mo_areAny_2 N B f) B u (nI s) (nI n) (nI i) (nI (j + 1)) := by
          rw [Mo_areAny_18, if_neg k1, shlg (by omega), shlg (by omega), fa_or, nx_and, oftenBy_s hN (Nat.le_refl n) hn hc hF hi (by omega), bRs, ofI_s hc, ofN_c]
          unfold Mo_areAny_50
          rw [show nI j + 1 = nI (j + 1) from nI_add j 1]
        by_cases z : (2 ^ i ||| 2 ^ j) &&& s = 0
        · by_cases z3 : ofN c R n j i = 0
          · refine Or.inl ⟨(), fun a q1 q2 q3 => ?_, ?_⟩
            · by_cases e : a = j
              · subst e; exact z3
              · exact p1 a (by omega) q2 q3
            · rw [key, z, if_pos (by decide), z3, if_pos (by decide)]
          · have hz := hand.mp z
            refine Or.inr (Or.inr ⟨fun q => z3 (q j i hj hi hz.2 hz.1), ?_⟩)
            rw [key, z, if_pos (by decide), if_neg (by rw [li0, leP (by omega) (by omega)]; omega)]
        · refine Or.inl ⟨(), fun a q1 q2 q3 => ?_, ?_⟩
          · by_cases e : a = j
            · subst e; exact absurd (hand.mpr ⟨q3, q2⟩) z
            · exact p1 a (by omega) q2 q3
          · rw [key, if_neg (by rw [li0, eqP (by omega) (by omega)]; exact z)]
      · rintro u _ p1
        refine Or.inl ⟨p1, ?_⟩
        rw [Mo_areAny_18, if_pos (by rw [leP (by omega) (by omega)]; omega), show nI i + 1 = nI (i + 1) from nI_add i 1]
    have key : Mo_areAny_2 N B (f + 1) (nI s) (nI n) (nI i) = Mo_areAny_18 N (Mo_areAny_2 N B f) B N (nI s) (nI n) (nI i) 0 := by
      rw [Mo_areAny_2, m1, grd_in m0 (by omega), clp (by omega), m4, if_neg (by rw [leP (by omega) (by omega)]; omega)]
    rcases inner with ⟨q1, q2⟩ | ⟨q1, q2⟩
    · refine Or.inl ⟨(), fun a b z1 z2 z4 z5 => ?_, key.trans q2⟩
      by_cases e : b = i
      · subst e; exact q1 a z1 z4 z5
      · exact h1 a b z1 (by omega) z4 z5
    · exact Or.inr ⟨1, key.trans q2, Or.inr ⟨rfl, q1⟩⟩
  · rintro f _ h1
    refine ⟨0, ?_, Or.inl ⟨rfl, h1⟩⟩
    rw [Mo_areAny_2, m1, grd_in m0 (by omega), clp (by omega), m4, if_pos (by rw [leP (by omega) (by omega)]; omega)]
theorem pc_full : ∀ G, G ≤ 5 → pc (2 ^ G - 1) 24 = G ∧ ∀ i, i < 2 ^ G → pc i 24 = G → i = 2 ^ G - 1 := by decide +kernel
theorem pc_G : ∀ G, G ≤ 5 → ∀ i, i < 2 ^ G → pc i 24 ≤ G := by decide +kernel
theorem full_bit {G a : Nat} (h : a < G) : (2 ^ G - 1).testBit a = true := by rw [Nat.testBit_two_pow_sub_one, decide_eq_true h]
theorem full_pc {G : Nat} {w : Nat → Nat → Nat} : pcQ G w (2 ^ G - 1) := fun a b h1 h2 h3 => by
  rw [full_bit (by omega)] at h3; cases h3
/-- the fewest, of as many the least -/
def bsQ (G : Nat) (w : Nat → Nat → Nat) (n b : Nat) : Prop := b < 2 ^ G ∧ pcQ G w b ∧ ∀ s, s < n → pcQ G w s → pc b 24 < pc s 24 ∨ (pc b 24 = pc s 24 ∧ b ≤ s)
theorem bsQ_u {G : Nat} {w : Nat → Nat → Nat} {a b : Nat} (h : bsQ G w (2 ^ G) a) (g : bsQ G w (2 ^ G) b) : a = b := by
  have h1 := h.2.2 b g.1 g.2.1
  have h2 := g.2.2 a h.1 h.2.1
  omega
theorem fewestAway_s {N : Nat} {c : gar} {R : Nat → Int32} {M : mS} {n : Nat} (hN : 1000 ≤ N) (hn : n ≤ 400) (hc : gOk c) (h : WK c M R) : ∃ b A, Tl_fewestAway N (nI n) M = some (nI b, A) ∧ bsQ (gG c) (ofN c R n) (2 ^ gG c) b ∧ frQ M A := by
  obtain ⟨hc1, hc2, hc3, hc4, hc5, hc6⟩ := id hc
  have hp := pow5 hc4
  have hp0 := Nat.two_pow_pos (gG c)
  obtain ⟨A, eA, a1, fA⟩ := addShared_s (N := N) (n := n) hN hn hc h
  have hCA := fA.gC h.1
  have hwb : ∀ a b, ofN c R n a b < 100000 := fun a b => by have := ofN_le hc (R := R) (n := n) (a := a) (b := b); omega
  unfold Tl_fewestAway
  rw [eA, bVs, hCA.2.2.1, shlg (by omega), i1, sbP (by omega), nxs]
  refine iter (F := fun f i (x : Int32) => Tl_fewestAway_19 N f x (nI i) A) (i := 0) (f := N) (s := nI (2 ^ gG c - 1)) (n := 2 ^ gG c) (Q := fun r => ∃ b A, r = some (nI b, A) ∧ bsQ (gG c) (ofN c R n) (2 ^ gG c) b ∧ frQ M A) (fun i x => ∃ b, x = nI b ∧ (b < i ∨ b = 2 ^ gG c - 1) ∧ bsQ (gG c) (ofN c R n) i b) ?_ ?_ (Nat.zero_le _) (by omega) ⟨2 ^ gG c - 1, rfl, Or.inr rfl, by omega, full_pc, fun s hs => absurd hs (Nat.not_lt_zero _)⟩
  · rintro f i x hi ⟨b, rfl, hb, hq1, hq2, hq3⟩
    have l1 := pc_le i 24
    have l2 := pc_le b 24
    have k0 : ¬ nI (2 ^ gG c) ≤ nI i := by rw [leP (by omega) (by omega)]; omega
    obtain ⟨r, er, hr⟩ := peaceC (N := N) (M := A) (s := i) hN hc hCA.2.2.1 a1 hwb (by omega)
    have key : Tl_fewestAway_19 N (f + 1) (nI b) (nI i) A = if pc b 24 ≤ pc i 24 then Tl_fewestAway_19 N f (nI b) (nI (i + 1)) A else if r = 0 then Tl_fewestAway_19 N f (nI b) (nI (i + 1)) A else Tl_fewestAway_19 N f (nI i) (nI (i + 1)) A := by
      rw [Tl_fewestAway_19, hCA.2.2.1, shlg (by omega), if_neg k0, bc_of, bc_of, bc_n (by omega), bc_n (by omega), er, bRs]
      unfold Tl_fewestAway_53
      rw [show nI i + 1 = nI (i + 1) from nI_add i 1]
      by_cases z : pc b 24 ≤ pc i 24
      · rw [if_pos z, if_pos (by rw [leP (by omega) (by omega)]; exact z)]
      · rw [if_neg z, if_neg (by rw [leP (by omega) (by omega)]; exact z)]
    have keep : (pcQ (gG c) (ofN c R n) i → pc b 24 ≤ pc i 24) → bsQ (gG c) (ofN c R n) (i + 1) b := by
      intro hk
      refine ⟨hq1, hq2, fun s hs ps => ?_⟩
      by_cases e : s = i
      · subst e
        have hle := hk ps
        rcases Nat.lt_or_eq_of_le hle with z | z
        · exact Or.inl z
        · refine Or.inr ⟨z, ?_⟩
          rcases hb with hb | hb
          · omega
          · rw [hb, (pc_full _ hc4).1] at z
            rw [hb, (pc_full _ hc4).2 s hi z.symm]
            exact Nat.le_refl _
      · exact hq3 s (by omega) ps
    by_cases z : pc b 24 ≤ pc i 24
    · refine Or.inl ⟨nI b, ⟨b, rfl, by omega, keep (fun _ => z)⟩, ?_⟩
      rw [key, if_pos z]
    · rcases hr with ⟨rfl, hr⟩ | ⟨rfl, hr⟩
      · refine Or.inl ⟨nI i, ⟨i, rfl, Or.inl (by omega), hi, hr, fun s hs ps => ?_⟩, ?_⟩
        · by_cases e : s = i
          · subst e; exact Or.inr ⟨rfl, Nat.le_refl _⟩
          · have := hq3 s (by omega) ps
            exact Or.inl (by omega)
        · rw [key, if_neg z, if_neg (by decide)]
      · refine Or.inl ⟨nI b, ⟨b, rfl, by omega, keep (fun q => absurd q hr)⟩, ?_⟩
        rw [key, if_neg z, if_pos rfl]
  · rintro f x ⟨b, rfl, hb, hq⟩
    refine ⟨b, A, ?_, hq, fA⟩
    rw [Tl_fewestAway_19, hCA.2.2.1, shlg (by omega), if_pos (by rw [leP (by omega) (by omega)]; omega)]
theorem peace_M {N : Nat} {c : gar} {v n w : Nat} {R : Nat → Int32} {B : mS} (hN : 1000 ≤ N) (hn : n ≤ 400) (hc : gOk c) (hM : gM c v B) (hF : FILL c R n B) : ∃ b, bsQ (gG c) (ofN c R n) (2 ^ gG c) b ∧ Mo_peace_28 N N (nI n) (nI w) (-1) 0 B = if nI w = 0 then some (nI (pc b 24), B) else some (nI b, B) := by
  obtain ⟨hc1, hc2, hc3, hc4, hc5, hc6⟩ := id hc
  obtain ⟨m0, m1, m2, m3, m4, -⟩ := id hM
  have hp := pow5 hc4
  have hp0 := Nat.two_pow_pos (gG c)
  refine iter (F := fun f i (x : Int32) => Mo_peace_28 N f (nI n) (nI w) x (nI i) B) (i := 0) (f := N) (s := (-1 : Int32)) (n := 2 ^ gG c) (Q := fun r => ∃ b, bsQ (gG c) (ofN c R n) (2 ^ gG c) b ∧ r = if nI w = 0 then some (nI (pc b 24), B) else some (nI b, B)) (fun i x => (x = -1 ∧ ∀ s, s < i → ¬ pcQ (gG c) (ofN c R n) s) ∨ ∃ b, x = nI b ∧ b < i ∧ bsQ (gG c) (ofN c R n) i b) ?_ ?_ (Nat.zero_le _) (by omega) (Or.inl ⟨rfl, fun s hs => absurd hs (Nat.not_lt_zero _)⟩)
  · rintro f i x hi hx
    have l1 := pc_le i 24
    have k0 : ¬ nI (2 ^ gG c) ≤ nI i := by rw [leP (by omega) (by omega)]; omega
    obtain ⟨r, er, hr⟩ := areAny_s (N := N) (s := i) hN hn hc hM hF (by omega)
    have k60 : ∀ y, Mo_peace_60 N (Mo_peace_28 N f) (nI n) (nI w) y (nI i) B = if r = 0 then Mo_peace_28 N f (nI n) (nI w) (nI i) (nI (i + 1)) B else Mo_peace_28 N f (nI n) (nI w) y (nI (i + 1)) B := by
      intro y
      unfold Mo_peace_60 Mo_peace_73
      rw [er, bRs, show nI i + 1 = nI (i + 1) from nI_add i 1]
    rcases hx with ⟨rfl, hno⟩ | ⟨b, rfl, hb, hq1, hq2, hq3⟩
    · have key : Mo_peace_28 N (f + 1) (nI n) (nI w) (-1) (nI i) B = if r = 0 then Mo_peace_28 N f (nI n) (nI w) (nI i) (nI (i + 1)) B else Mo_peace_28 N f (nI n) (nI w) (-1) (nI (i + 1)) B := by
        rw [Mo_peace_28, m1, grd_in m0 (by omega), clp (by omega), m4, shlg (by omega), if_neg k0, if_pos (by decide), k60]
      rcases hr with ⟨rfl, hr⟩ | ⟨rfl, hr⟩
      · refine Or.inl ⟨nI i, Or.inr ⟨i, rfl, by omega, hi, hr, fun s hs ps => ?_⟩, ?_⟩
        · by_cases e : s = i
          · subst e; exact Or.inr ⟨rfl, Nat.le_refl _⟩
          · exact absurd ps (hno s (by omega))
        · rw [key, if_pos rfl]
      · refine Or.inl ⟨-1, Or.inl ⟨rfl, fun s hs => ?_⟩, ?_⟩
        · by_cases e : s = i
          · subst e; exact hr
          · exact hno s (by omega)
        · rw [key, if_neg (by decide)]
    · have l2 := pc_le b 24
      have key : Mo_peace_28 N (f + 1) (nI n) (nI w) (nI b) (nI i) B = if pc b 24 ≤ pc i 24 then Mo_peace_28 N f (nI n) (nI w) (nI b) (nI (i + 1)) B else if r = 0 then Mo_peace_28 N f (nI n) (nI w) (nI i) (nI (i + 1)) B else Mo_peace_28 N f (nI n) (nI w) (nI b) (nI (i + 1)) B := by
        rw [Mo_peace_28, m1, grd_in m0 (by omega), clp (by omega), m4, shlg (by omega), if_neg k0, if_neg (nI_pos (by omega)), Mo_bits_n hN (by omega), bRs, Mo_bits_n hN (by omega), bRs, k60]
        unfold Mo_peace_73
        rw [show nI i + 1 = nI (i + 1) from nI_add i 1]
        by_cases z : pc b 24 ≤ pc i 24
        · rw [if_pos z, if_pos (by rw [leP (by omega) (by omega)]; exact z)]
        · rw [if_neg z, if_neg (by rw [leP (by omega) (by omega)]; exact z)]
      have keep : (pcQ (gG c) (ofN c R n) i → pc b 24 ≤ pc i 24) → bsQ (gG c) (ofN c R n) (i + 1) b := by
        intro hk
        refine ⟨hq1, hq2, fun s hs ps => ?_⟩
        by_cases e : s = i
        · subst e
          have := hk ps
          omega
        · exact hq3 s (by omega) ps
      by_cases z : pc b 24 ≤ pc i 24
      · refine Or.inl ⟨nI b, Or.inr ⟨b, rfl, by omega, keep (fun _ => z)⟩, ?_⟩
        rw [key, if_pos z]
      · rcases hr with ⟨rfl, hr⟩ | ⟨rfl, hr⟩
        · refine Or.inl ⟨nI i, Or.inr ⟨i, rfl, by omega, hi, hr, fun s hs ps => ?_⟩, ?_⟩
          · by_cases e : s = i
            · subst e; exact Or.inr ⟨rfl, Nat.le_refl _⟩
            · have := hq3 s (by omega) ps
              exact Or.inl (by omega)
          · rw [key, if_neg z, if_pos rfl]
        · refine Or.inl ⟨nI b, Or.inr ⟨b, rfl, by omega, keep (fun q => absurd q hr)⟩, ?_⟩
          rw [key, if_neg z, if_neg (by decide)]
  · rintro f x hx
    rcases hx with ⟨rfl, hno⟩ | ⟨b, rfl, hb, hq⟩
    · exact absurd full_pc (hno (2 ^ gG c - 1) (by omega))
    · refine ⟨b, hq, ?_⟩
      rw [Mo_peace_28, m1, grd_in m0 (by omega), clp (by omega), m4, shlg (by omega), if_pos (by rw [leP (by omega) (by omega)]; omega), Mo_bits_n hN (by omega), bRs]
theorem call_peace {N : Nat} {M : mS} (hN : 1000 ≤ N) (h : INV M) (x y : Int32) : ∃ r A B, Md_peace N x y M = some (r, A) ∧ Mo_peace N x y A = some (r, B) ∧ INV B := by
  obtain ⟨c, v, R, X, hc, hC, hM⟩ := h
  unfold Md_peace Mo_peace Mo_isSpan
  rw [show (60 : Int32) = nI 60 from rfl]
  rcases arg_c x 61 (by omega) with ⟨n, hn, rfl⟩ | q
  · rcases arg_c y 2 (by omega) with ⟨w, hw, rfl⟩ | q
    · have hw2 : w = 0 ∨ w = 1 := by omega
      obtain ⟨A, eA, wA, fA, rA, -⟩ := beginW (N := N) hc hC.1 hC.2.1.1 hC.2.1.2.2.1
      obtain ⟨b, A2, eA2, qA, f2⟩ := fewestAway_s (N := N) (n := n) hN (by omega) hc wA
      have fQ : frQ M A2 := fA.frQ.trans f2
      have hMA := MI_u hM fQ.frU
      obtain ⟨B, eB, b1, b2, b3⟩ := fillsStill_s (N := N) (n := n) hN (by omega) hc hMA.1 hMA.2.1 hC.2.1.2.2.1
      obtain ⟨b', qM, eM⟩ := peace_M (N := N) (w := w) hN (by omega) hc b2 b1
      have eb := bsQ_u qA qM
      subst eb
      have hp := pow5 hc.2.2.2.1
      have hb := qA.1
      refine ⟨if nI w = 0 then nI (pc b 24) else nI b, A2, B, ?_, ?_, INV_q hc hC hM fQ b3⟩
      · rw [with_y (by omega) (by omega), if_neg (by decide)]
        unfold Md_peace_20
        rw [eA, bVs, eA2, bWs, bc_of, bc_n (by omega)]
        rcases hw2 with rfl | rfl <;> rfl
      · rw [inK_y (by omega) (by omega), if_neg (by decide), i1, inK_y (by omega) (by omega), if_neg (by decide), eB, bVs, show (-nI 1 : Int32) = -1 from rfl, eM]
        rcases hw2 with rfl | rfl <;> rfl
    · have z0 : ¬ y = 0 := outr_ne q (k := 0) (by omega) (by omega)
      have z1 : ¬ y = 1 := outr_ne q (k := 1) (by omega) (by omega)
      refine ⟨-1, M, M, ?_, ?_, c, v, R, X, hc, hC, hM⟩
      · rw [with_y (by omega) (by omega), if_neg (by decide), if_neg z0, if_neg z1]
      · rw [inK_y (by omega) (by omega), if_neg (by decide), show (1 : Int32) = nI 1 from rfl, inK_n q (by omega), if_pos (by decide)]
  · refine ⟨-1, M, M, ?_, ?_, c, v, R, X, hc, hC, hM⟩
    · rw [with_n q (by omega), if_pos (by decide)]
    · rw [inK_n q (by omega), if_pos (by decide)]
