/-! GAME: the class -/
section
variable (c : gar) (d : Nat)
def turnR (R : Nat → Int32) (k : Nat) : Nat → Int32 := upd R d (nI ((oN R d + k) % gH c))
noncomputable def stepR (R : Nat → Int32) (k : Nat) : Nat → Int32 := nx c none (turnR c d R k)
noncomputable def gnN (R : Nat → Int32) (k : Nat) : Nat := (bc (th c none (turnR c d R k) 0 &&& th c none (turnR c d R k) 1)).toNatClampNeg
def btr (l u v : Nat) : Prop := if l % 2 = 0 then u < v else v < u
noncomputable def sel (l : Nat) (f : Nat → Nat) : Nat → Nat × Nat
  | 0 => (0, 0)
  | k + 1 => by classical exact if k = 0 ∨ btr l (sel l f k).1 (f k) then (f k, k) else sel l f k
noncomputable def gvN : Nat → Nat → (Nat → Int32) → Nat
  | 0, _, _ => 0
  | r + 1, l, R => (sel l (fun k => gnN c d R k + gvN r (l + 1) (stepR c d R k)) 3).1
end
theorem sel_y {l : Nat} {f : Nat → Nat} {k : Nat} (h : k = 0 ∨ btr l (sel l f k).1 (f k)) : sel l f (k + 1) = (f k, k) := if_pos h
theorem sel_n {l : Nat} {f : Nat → Nat} {k : Nat} (h : ¬ (k = 0 ∨ btr l (sel l f k).1 (f k))) : sel l f (k + 1) = sel l f k := if_neg h
theorem sel_le {l B : Nat} {f : Nat → Nat} (h : ∀ k, f k ≤ B) : ∀ k, (sel l f k).1 ≤ B
  | 0 => Nat.zero_le _
  | k + 1 => by
    by_cases q : k = 0 ∨ btr l (sel l f k).1 (f k)
    · rw [sel_y q]; exact h k
    · rw [sel_n q]; exact sel_le h k
theorem sel_eq {l : Nat} {f : Nat → Nat} : ∀ k, 0 < k → (sel l f k).1 = f (sel l f k).2 ∧ (sel l f k).2 < k
  | 0, h => absurd h (Nat.lt_irrefl _)
  | k + 1, _ => by
    by_cases q : k = 0 ∨ btr l (sel l f k).1 (f k)
    · rw [sel_y q]; exact ⟨rfl, Nat.lt_succ_self _⟩
    · rw [sel_n q]
      have := sel_eq (l := l) (f := f) k (by
        rcases Nat.eq_zero_or_pos k with z | z
        · exact absurd (Or.inl z) q
        · exact z)
      exact ⟨this.1, by omega⟩
theorem gnN_s {c : gar} (hc : gOk c) {d k : Nat} {R : Nat → Int32} : bc (th c none (turnR c d R k) 0 &&& th c none (turnR c d R k) 1) = nI (gnN c d R k) ∧ gnN c d R k ≤ 24 := by
  obtain ⟨n, hn, e⟩ := bc_nat (sml_and (y := th c none (turnR c d R k) 1) (sml_th hc (m := none) (R := turnR c d R k) (g := 0)))
  unfold gnN
  rw [e, clp (by omega)]
  exact ⟨rfl, hn⟩
theorem gvN_le {c : gar} (hc : gOk c) {d : Nat} : ∀ r l R, gvN c d r l R ≤ 24 * r
  | 0, _, _ => Nat.zero_le _
  | r + 1, l, R => by
    unfold gvN
    refine sel_le (fun k => ?_) 3
    have := (gnN_s hc (d := d) (k := k) (R := R)).2
    have := gvN_le hc (d := d) r (l + 1) (stepR c d R k)
    omega
theorem VR_turn {c : gar} (hc : gOk c) {R : Nat → Int32} (hR : VR c R) {d k : Nat} (hd : d < gD c) : VR c (turnR c d R k) := VR_out hc hR hd (Nat.mod_lt _ (by have := hc.1; omega))
theorem VR_step {c : gar} (hc : gOk c) {R : Nat → Int32} (hR : VR c R) {d k : Nat} (hd : d < gD c) : VR c (stepR c d R k) := VR_nx hc (VR_turn hc hR hd)
theorem wR_c {c : gar} (hc : gOk c) {C D R : Nat → Int32} (h : wR c C R) (e : ∀ j, j < 19 → D j = C j) : wR c D R := by
  obtain ⟨hc1, hc2, hc3, hc4, -⟩ := hc
  obtain ⟨h1, h2, h3⟩ := h
  exact ⟨(e _ (by omega)).trans h1, fun d hd => ⟨(e _ (by omega)).trans (h2 d hd).1, (e _ (by omega)).trans (h2 d hd).2⟩, fun g hg => ⟨(e _ (by omega)).trans (h3 g hg).1, (e _ (by omega)).trans (h3 g hg).2⟩⟩
theorem wR_out {c : gar} (hc : gOk c) {C R : Nat → Int32} (h : wR c C R) {d : Nat} {x : Int32} (hd : d < gD c) : wR c (upd C (1 + d) x) (upd R d x) := by
  obtain ⟨hc1, hc2, hc3, hc4, -⟩ := hc
  obtain ⟨h1, h2, h3⟩ := h
  refine ⟨?_, fun e he => ⟨?_, ?_⟩, fun g hg => ⟨?_, ?_⟩⟩
  · rw [pk_un (by omega), pk_un (by omega)]; exact h1
  · by_cases q : e = d
    · subst q; rw [pk_us, pk_us]
    · rw [pk_un (by omega), pk_un (by omega)]; exact (h2 e he).1
  · rw [pk_un (by omega), pk_un (by omega)]; exact (h2 e he).2
  · rw [pk_un (by omega), pk_un (by omega)]; exact (h3 g hg).1
  · rw [pk_un (by omega), pk_un (by omega)]; exact (h3 g hg).2
/-- a move tried, from the row of level l (cell 52 + l) to the next one -/
theorem tryMove_s {N : Nat} {c : gar} {d l k : Nat} {R : Nat → Int32} {M : mS} {tm : Int32 → mS → Option (Int32 × mS)} (hN : 1000 ≤ N) (hc : gOk c) (hG : 2 ≤ gG c) (hd : d < gD c) (hl : l < 6) (hk : k < 3)
    (hT : ∀ a0 (M : mS), tm a0 M = bV (nxt (mWW M 40 (va_cpy (M.1 (52 + l)) (M.1 40) (0 : Int32).toNatClampNeg (0 : Int32).toNatClampNeg (44 : Int32).toNatClampNeg)) fun M1 => nxt (mWI M1 39 7 0) fun M2 => some M2) fun M2 => grd (mIn (1 + (M2.1 50 4)) 44) (bR (Md_rest N ((M2.1 40 (1 + (M2.1 50 4)).toNatClampNeg) + a0) (M2.1 3 6) M2) fun r5 => grd (mIn (1 + (M2.1 50 4)) 44) (nxt (mWI M2 40 (1 + (M2.1 50 4)).toNatClampNeg r5) fun M7 => bV (Wk_see N (-1) M7) fun M9 => bR (Wk_shared N 0 1 M9) fun r11 => bV (Wk_pass N M9) fun M13 => nxt (mWW M13 (53 + l) (va_cpy (M13.1 40) (M13.1 (53 + l)) (0 : Int32).toNatClampNeg (0 : Int32).toNatClampNeg (44 : Int32).toNatClampNeg)) fun M14 => some (r11, M14))))
    (hC : gC c M) (h4 : M.1 50 4 = nI d) (hw : wR c (M.1 (52 + l)) R) (hR : VR c R) : ∃ A, tm (nI k) M = some (nI (gnN c d R k), A) ∧ wR c (A.1 (53 + l)) (stepR c d R k) ∧ gC c A ∧ (∀ a j, a ≠ 5 → a ≠ 8 → (a < 39 ∨ 43 < a) → a ≠ 53 + l → A.1 a j = M.1 a j) ∧ A.2 = M.2 := by
  obtain ⟨hc1, hc2, hc3, hc4, hc5, hc6⟩ := id hc
  obtain ⟨e1, e2, e3, e4⟩ := oN_s hc hR hd
  let B : mS := mWI (mWW M 40 (va_cpy (M.1 (52 + l)) (M.1 40) 0 0 44)) 39 7 0
  have fB : ∀ a j, a ≠ 39 → a ≠ 40 → B.1 a j = M.1 a j := fun a j q1 q2 => by show (mWI _ 39 7 0).1 a j = _; rw [mWI_ne q1, mWW_ne q2]
  have b40 : ∀ j, j < 44 → B.1 40 j = M.1 (52 + l) j := fun j hj => by
    show (mWI _ 39 7 0).1 40 j = _
    rw [mWI_ne (by omega), mWW_eq, pk_cpy_in (by omega) (by omega)]
    exact congrArg (M.1 (52 + l)) (by omega)
  have wB : wR c (B.1 40) R := wR_c hc hw (fun j hj => b40 j (by omega))
  have hB : gC c B := gC_fr hC (fun a j q => fB a j (by omega) (by omega))
  have b4 : B.1 50 4 = nI d := (fB _ _ (by omega) (by omega)).trans h4
  have b1 : B.1 40 (1 + d) = nI (oN R d) := (wB.2.1 d hd).1.trans e1
  let D : mS := mWI B 40 (1 + d) (nI ((oN R d + k) % gH c))
  have wD : WK c D (turnR c d R k) := by
    refine ⟨gC_fr hB (fun a j q => by show (mWI _ 40 _ _).1 a j = _; rw [mWI_ne (by omega)]), ?_, VR_turn hc hR hd, fun q => ?_⟩
    · show wR c ((mWI B 40 (1 + d) _).1 40) _
      rw [mWI_eq]
      exact wR_out hc wB hd
    · exfalso
      apply q
      show (mWI _ 40 _ _).1 39 7 = 0
      rw [mWI_ne (by omega)]
      exact rI rfl
  obtain ⟨E, s1, s2, s3, s4, -⟩ := seeW (N := N) (m := none) (x1 := -1) hN hc wD (Or.inl ⟨rfl, rfl⟩)
  have sh := shared_s (N := N) (M := E) (a := 0) (b := 1) hc4 s3.1 (by omega) (by omega)
  rw [shv_ne (by omega), (gnN_s hc).1] at sh
  obtain ⟨H, p1, p2, p3, p4⟩ := passW hN hc s2 s3
  refine ⟨mWW H (53 + l) (va_cpy (H.1 40) (H.1 (53 + l)) 0 0 44), ?_, ?_, ?_, fun a j q1 q2 q3 q4 => ?_, ?_⟩
  · rw [hT, nxs, nxs, bVs]
    show grd (mIn (1 + (B.1 50 4)) 44) (bR (Md_rest N ((B.1 40 (1 + (B.1 50 4)).toNatClampNeg) + nI k) (B.1 3 6) B) fun r5 => grd (mIn (1 + (B.1 50 4)) 44) (nxt (mWI B 40 (1 + (B.1 50 4)).toNatClampNeg r5) fun M7 => bV (Wk_see N (-1) M7) fun M9 => bR (Wk_shared N 0 1 M9) fun r11 => bV (Wk_pass N M9) fun M13 => nxt (mWW M13 (53 + l) (va_cpy (M13.1 40) (M13.1 (53 + l)) (0 : Int32).toNatClampNeg (0 : Int32).toNatClampNeg (44 : Int32).toNatClampNeg)) fun M14 => some (r11, M14))) = _
    rw [b4, show (1 : Int32) + nI d = nI (1 + d) from nI_add 1 d, grd_in (by omega) (by omega), clp (by omega), b1, hB.1, nI_add, rest_s (by omega) (by omega) (by omega), bRs, grd_in (by omega) (by omega), nxs]
    show bV (Wk_see N (-1) D) _ = _
    rw [s1, bVs]
    show bR (Wk_shared N (nI 0) (nI 1) E) _ = _
    rw [sh, bRs, p1, bVs, nxs]
    rfl
  · rw [mWW_eq]
    refine wR_c hc p2.2.1 (fun j hj => ?_)
    rw [pk_cpy_in (by omega) (by omega)]
    exact congrArg (H.1 40) (by omega)
  · exact gC_fr p2.1 (fun a j q => by rw [mWW_ne (by omega)])
  · rw [mWW_ne q4, p3.1 a j q1 q2 q3, s4.1 a j q1 q2 q3]
    show (mWI B 40 _ _).1 a j = _
    rw [mWI_ne (by omega)]
    exact fB a j (by omega) (by omega)
  · show H.2 = M.2
    rw [p3.2, s4.2]; rfl
def CLG (c : gar) (d n l : Nat) (b : Bool) (top : mS → Option (Int32 × mS)) : Prop := ∀ (M : mS) (R : Nat → Int32), gC c M → M.1 50 4 = nI d → M.1 50 5 = nI n → wR c (M.1 (52 + l)) R → VR c R → ∃ A, top M = some (nI (gvN c d (n - l) l R), A) ∧ gC c A ∧ (∀ a j, a ≠ 5 → a ≠ 8 → (a < 39 ∨ 43 < a) → (a < 53 + l ∨ 58 < a) → (a ≠ 50 ∨ j ≠ 0) → A.1 a j = M.1 a j) ∧ A.2 = M.2 ∧ (b = false → A.1 50 0 = M.1 50 0) ∧ (b = true → l < n → A.1 50 0 = nI (sel l (fun k => gnN c d R k + gvN c d (n - l - 1) (l + 1) (stepR c d R k)) 3).2)
theorem gameL_s {N : Nat} {c : gar} {d n l : Nat} {b : Bool} {top nx' : mS → Option (Int32 × mS)} {tm : Int32 → mS → Option (Int32 × mS)} {wr : Int32 → mS → mS} {L : Nat → Int32 → Int32 → mS → Option (Int32 × mS)} (hN : 1000 ≤ N) (hc : gOk c) (hG : 2 ≤ gG c) (hd : d < gD c) (hl : l < 6) (hn : n ≤ 6) (ih : CLG c d n (l + 1) false nx')
    (hW : (∀ x M, ∀ a j, (a ≠ 50 ∨ j ≠ 0) → (wr x M).1 a j = M.1 a j) ∧ (∀ x M, (wr x M).2 = M.2) ∧ (b = true → ∀ x M, (wr x M).1 50 0 = x) ∧ (b = false → ∀ x M, (wr x M).1 50 0 = M.1 50 0))
    (hT : ∀ a0 (M : mS), tm a0 M = bV (nxt (mWW M 40 (va_cpy (M.1 (52 + l)) (M.1 40) (0 : Int32).toNatClampNeg (0 : Int32).toNatClampNeg (44 : Int32).toNatClampNeg)) fun M1 => nxt (mWI M1 39 7 0) fun M2 => some M2) fun M2 => grd (mIn (1 + (M2.1 50 4)) 44) (bR (Md_rest N ((M2.1 40 (1 + (M2.1 50 4)).toNatClampNeg) + a0) (M2.1 3 6) M2) fun r5 => grd (mIn (1 + (M2.1 50 4)) 44) (nxt (mWI M2 40 (1 + (M2.1 50 4)).toNatClampNeg r5) fun M7 => bV (Wk_see N (-1) M7) fun M9 => bR (Wk_shared N 0 1 M9) fun r11 => bV (Wk_pass N M9) fun M13 => nxt (mWW M13 (53 + l) (va_cpy (M13.1 40) (M13.1 (53 + l)) (0 : Int32).toNatClampNeg (0 : Int32).toNatClampNeg (44 : Int32).toNatClampNeg)) fun M14 => some (r11, M14))))
    (hE : ∀ f x2 x3 (M : mS), L (f + 1) x2 x3 M = if 2 < x3 then (some (x2, M)) else (bW (tm x3 M) fun r3 M2 => bW (nx' M2) fun r6 M5 => nxt (r3 + r6) fun v7 => if (if l % 2 = 0 then v7 ≤ x2 else x2 ≤ v7) then (if x2 = (-1) then L f v7 (x3 + 1) (wr x3 M5) else (if (0 : Int32) = 0 then L f x2 (x3 + 1) M5 else L f v7 (x3 + 1) (wr x3 M5))) else (if x2 = (-1) then L f v7 (x3 + 1) (wr x3 M5) else (if (1 : Int32) = 0 then L f x2 (x3 + 1) M5 else L f v7 (x3 + 1) (wr x3 M5)))))
    (hP : ∀ (M : mS), top M = if (M.1 50 5) ≤ nI l then (some (0, M)) else (L N (-1) 0 M)) : CLG c d n l b top := by
  intro M R hC h4 h5 hw hR
  obtain ⟨hc1, hc2, hc3, hc4, hc5, hc6⟩ := id hc
  rw [hP, h5]
  by_cases hln : n ≤ l
  · rw [if_pos (by rw [leP (by omega) (by omega)]; exact hln)]
    refine ⟨M, ?_, hC, fun _ _ _ _ _ _ _ => rfl, rfl, fun _ => rfl, fun _ q => by omega⟩
    rw [show n - l = 0 by omega]; rfl
  · rw [if_neg (by rw [leP (by omega) (by omega)]; exact hln)]
    obtain ⟨r, er⟩ : ∃ r, n - l = r + 1 := ⟨n - l - 1, by omega⟩
    let F : Nat → Nat := fun k => gnN c d R k + gvN c d r (l + 1) (stepR c d R k)
    have hF : ∀ k, F k ≤ 200 := fun k => by
      have := (gnN_s hc (d := d) (k := k) (R := R)).2
      have := gvN_le hc (d := d) r (l + 1) (stepR c d R k)
      show gnN c d R k + gvN c d r (l + 1) (stepR c d R k) ≤ 200
      omega
    have hS : ∀ k, (sel l F k).1 ≤ 200 := sel_le hF
    have eF : (fun k => gnN c d R k + gvN c d (n - l - 1) (l + 1) (stepR c d R k)) = F := by
      funext k
      show _ = gnN c d R k + gvN c d r (l + 1) (stepR c d R k)
      rw [show n - l - 1 = r by omega]
    rw [eF]
    have eV : gvN c d (n - l) l R = (sel l F 3).1 := by rw [er]; rfl
    rw [eV]
    refine iter (F := fun f k (s : Int32 × mS) => L f s.1 (nI k) s.2) (i := 0) (f := N) (s := ((-1 : Int32), M)) (n := 3) (Q := fun q => ∃ A, q = some (nI (sel l F 3).1, A) ∧ gC c A ∧ (∀ a j, a ≠ 5 → a ≠ 8 → (a < 39 ∨ 43 < a) → (a < 53 + l ∨ 58 < a) → (a ≠ 50 ∨ j ≠ 0) → A.1 a j = M.1 a j) ∧ A.2 = M.2 ∧ (b = false → A.1 50 0 = M.1 50 0) ∧ (b = true → l < n → A.1 50 0 = nI (sel l F 3).2)) (fun k s => ((k = 0 ∧ s.1 = -1) ∨ (0 < k ∧ s.1 = nI (sel l F k).1)) ∧ gC c s.2 ∧ (∀ a j, a ≠ 5 → a ≠ 8 → (a < 39 ∨ 43 < a) → (a < 53 + l ∨ 58 < a) → (a ≠ 50 ∨ j ≠ 0) → s.2.1 a j = M.1 a j) ∧ s.2.2 = M.2 ∧ (b = false → s.2.1 50 0 = M.1 50 0) ∧ (b = true → 0 < k → s.2.1 50 0 = nI (sel l F k).2)) ?_ ?_ (Nat.zero_le _) (by omega) ⟨Or.inl ⟨rfl, rfl⟩, hC, fun _ _ _ _ _ _ _ => rfl, rfl, fun _ => rfl, fun _ q => absurd q (Nat.lt_irrefl _)⟩
    · rintro f k ⟨x, t⟩ hk ⟨hx, tC, tf, tl, tb, tt⟩
      dsimp only at hx tC tf tl tb tt
      obtain ⟨A1, eA1, w1, g1, f1, l1⟩ := tryMove_s (N := N) (k := k) (M := t) (R := R) hN hc hG hd hl hk hT tC ((tf _ _ (by omega) (by omega) (by omega) (by omega) (by omega)).trans h4) (wR_c hc hw (fun j _ => tf _ _ (by omega) (by omega) (by omega) (by omega) (by omega))) hR
      obtain ⟨A2, eA2, g2, f2, l2, c2, -⟩ := ih A1 (stepR c d R k) g1 (by rw [f1 _ _ (by omega) (by omega) (by omega) (by omega), tf _ _ (by omega) (by omega) (by omega) (by omega) (by omega)]; exact h4) (by rw [f1 _ _ (by omega) (by omega) (by omega) (by omega), tf _ _ (by omega) (by omega) (by omega) (by omega) (by omega)]; exact h5) (by rw [show 52 + (l + 1) = 53 + l by omega]; exact w1) (VR_step hc hR hd)
      rw [show n - (l + 1) = r by omega] at eA2
      have eFk : gnN c d R k + gvN c d r (l + 1) (stepR c d R k) = F k := rfl
      have hFk := hF k
      have a50 : A2.1 50 0 = t.1 50 0 := (c2 rfl).trans (f1 _ _ (by omega) (by omega) (by omega) (by omega))
      have fz : ∀ a j, a ≠ 5 → a ≠ 8 → (a < 39 ∨ 43 < a) → (a < 53 + l ∨ 58 < a) → (a ≠ 50 ∨ j ≠ 0) → A2.1 a j = M.1 a j := fun a j q1 q2 q3 q4 q5 => by rw [f2 a j q1 q2 q3 (by omega) q5, f1 a j q1 q2 q3 (by omega)]; exact tf a j q1 q2 q3 q4 q5
      have lz : A2.2 = M.2 := l2.trans (l1.trans tl)
      have k2 : ¬ (2 : Int32) < nI k := by rw [show (2 : Int32) = nI 2 from rfl, ltP (by omega) (by omega)]; omega
      have upd_c : (k = 0 ∨ btr l (sel l F k).1 (F k)) → L (f + 1) x (nI k) t = L f (nI (F k)) (nI (k + 1)) (wr (nI k) A2) → ∃ s' : Int32 × mS, (((k + 1 = 0 ∧ s'.1 = -1) ∨ (0 < k + 1 ∧ s'.1 = nI (sel l F (k + 1)).1)) ∧ gC c s'.2 ∧ (∀ a j, a ≠ 5 → a ≠ 8 → (a < 39 ∨ 43 < a) → (a < 53 + l ∨ 58 < a) → (a ≠ 50 ∨ j ≠ 0) → s'.2.1 a j = M.1 a j) ∧ s'.2.2 = M.2 ∧ (b = false → s'.2.1 50 0 = M.1 50 0) ∧ (b = true → 0 < k + 1 → s'.2.1 50 0 = nI (sel l F (k + 1)).2)) ∧ L (f + 1) x (nI k) t = L f s'.1 (nI (k + 1)) s'.2 := by
        intro q e
        refine ⟨(nI (F k), wr (nI k) A2), ⟨Or.inr ⟨by omega, by rw [sel_y q]⟩, gC_fr g2 (fun a j z => hW.1 _ _ a j (by omega)), fun a j q1 q2 q3 q4 q5 => (hW.1 _ _ a j q5).trans (fz a j q1 q2 q3 q4 q5), (hW.2.1 _ _).trans lz, fun hb => (hW.2.2.2 hb _ _).trans (a50.trans (tb hb)), fun hb _ => by rw [sel_y q]; exact hW.2.2.1 hb _ _⟩, e⟩
      have keep_c : ¬ (k = 0 ∨ btr l (sel l F k).1 (F k)) → x = nI (sel l F k).1 → L (f + 1) x (nI k) t = L f x (nI (k + 1)) A2 → ∃ s' : Int32 × mS, (((k + 1 = 0 ∧ s'.1 = -1) ∨ (0 < k + 1 ∧ s'.1 = nI (sel l F (k + 1)).1)) ∧ gC c s'.2 ∧ (∀ a j, a ≠ 5 → a ≠ 8 → (a < 39 ∨ 43 < a) → (a < 53 + l ∨ 58 < a) → (a ≠ 50 ∨ j ≠ 0) → s'.2.1 a j = M.1 a j) ∧ s'.2.2 = M.2 ∧ (b = false → s'.2.1 50 0 = M.1 50 0) ∧ (b = true → 0 < k + 1 → s'.2.1 50 0 = nI (sel l F (k + 1)).2)) ∧ L (f + 1) x (nI k) t = L f s'.1 (nI (k + 1)) s'.2 := by
        intro q ex e
        refine ⟨(x, A2), ⟨Or.inr ⟨by omega, by rw [sel_n q]; exact ex⟩, g2, fz, lz, fun hb => a50.trans (tb hb), fun hb _ => ?_⟩, e⟩
        rw [sel_n q]
        refine a50.trans (tt hb ?_)
        rcases Nat.eq_zero_or_pos k with z | z
        · exact absurd (Or.inl z) q
        · exact z
      refine Or.inl ?_
      have base : L (f + 1) x (nI k) t = if (if l % 2 = 0 then nI (F k) ≤ x else x ≤ nI (F k)) then (if x = (-1) then L f (nI (F k)) (nI (k + 1)) (wr (nI k) A2) else (if (0 : Int32) = 0 then L f x (nI (k + 1)) A2 else L f (nI (F k)) (nI (k + 1)) (wr (nI k) A2))) else (if x = (-1) then L f (nI (F k)) (nI (k + 1)) (wr (nI k) A2) else (if (1 : Int32) = 0 then L f x (nI (k + 1)) A2 else L f (nI (F k)) (nI (k + 1)) (wr (nI k) A2))) := by
        rw [hE, if_neg k2, eA1, bWs, eA2, bWs, nI_add, nxs, eFk, show nI k + 1 = nI (k + 1) from nI_add k 1]
      rcases hx with ⟨rfl, rfl⟩ | ⟨hk0, rfl⟩
      · refine upd_c (Or.inl rfl) ?_

        rw [base]
        simp only [if_true, ite_self]
      · have hSk := hS k
        have nm1 : ¬ nI (sel l F k).1 = -1 := ne_m1 (by omega)
        by_cases q : btr l (sel l F k).1 (F k)
        · refine upd_c (Or.inr q) ?_
          rw [base, if_neg, if_neg nm1, if_neg (by decide)]
          unfold btr at q
          by_cases e : l % 2 = 0
          · rw [if_pos e] at q ⊢
            rw [leP (by omega) (by omega)]; omega
          · rw [if_neg e] at q ⊢
            rw [leP (by omega) (by omega)]; omega
        · refine keep_c (fun z => z.elim (fun z => by omega) q) rfl ?_
          rw [base, if_pos, if_neg nm1, if_pos rfl]
          unfold btr at q
          by_cases e : l % 2 = 0
          · rw [if_pos e] at q ⊢
            rw [leP (by omega) (by omega)]; omega
          · rw [if_neg e] at q ⊢
            rw [leP (by omega) (by omega)]; omega
    · rintro f ⟨x, t⟩ ⟨hx, tC, tf, tl, tb, tt⟩
      dsimp only at hx tC tf tl tb tt
      rcases hx with ⟨q, -⟩ | ⟨-, rfl⟩
      · omega
      · refine ⟨t, ?_, tC, tf, tl, tb, fun hb _ => tt hb (by omega)⟩
        dsimp only
        rw [hE, if_pos (by decide)]
