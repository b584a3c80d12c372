/-! favourite, peace -/
def sumN (f : Nat → Nat) : Nat → Nat
  | 0 => 0
  | n + 1 => sumN f n + f n
theorem sumN_s {f : Nat → Nat} {n : Nat} : sumN f (n + 1) = sumN f n + f n := rfl
theorem sumN_le {f : Nat → Nat} {b : Nat} (h : ∀ k, f k ≤ b) : ∀ n, sumN f n ≤ n * b
  | 0 => Nat.zero_le _
  | n + 1 => by
    have := sumN_le h n
    have := h n
    rw [sumN_s, Nat.succ_mul]; omega
theorem tw_sml {f : Nat → Int32} : ∀ {n : Nat}, (∀ k, k < n → sml (f k)) → sml (tw f n)
  | 0, _ => sml_0
  | n + 1, h => sml_or (tw_sml (fun k hk => h k (by omega))) (sml_and (orB_sml (fun k hk => h k (by omega))))
noncomputable def twN (c : gar) (R : Nat → Int32) (k : Nat) : Nat := (tw (tK c R k) (gG c)).toNatClampNeg
theorem twN_s {c : gar} (hc : gOk c) {R : Nat → Int32} {k : Nat} : tw (tK c R k) (gG c) = nI (twN c R k) ∧ twN c R k < 16777216 := by
  obtain ⟨n, hn, e⟩ := tw_sml (f := tK c R k) (n := gG c) (fun g _ => sml_tK hc)
  unfold twN
  rw [e, clp (by omega)]
  exact ⟨rfl, hn⟩
noncomputable def fvN (c : gar) (R : Nat → Int32) (n h : Nat) : Nat := sumN (fun k => twN c R k / 2 ^ h % 2) n
theorem fvN_le {c : gar} {R : Nat → Int32} {n h : Nat} : fvN c R n h ≤ n := by
  have := sumN_le (f := fun k => twN c R k / 2 ^ h % 2) (b := 1) (fun k => by have := Nat.mod_lt (twN c R k / 2 ^ h) (show 0 < 2 by omega); omega) n
  unfold fvN; omega
theorem fvN_s {c : gar} {R : Nat → Int32} {n h : Nat} : fvN c R (n + 1) h = fvN c R n h + twN c R n / 2 ^ h % 2 := rfl
theorem favourite_C {N : Nat} {c : gar} {R : Nat → Int32} {M : mS} {n : Nat} (hN : 1000 ≤ N) (hn : n ≤ 400) (hc : gOk c) (h : WK c M R) : ∃ A, Tl_busiestHour N (nI n) M = some (nI (amx (fvN c R n) (gH c)), A) ∧ A.1 45 0 = nI (fvN c R n (amx (fvN c R n) (gH c))) ∧ frQ M A := by
  obtain ⟨hc1, hc2, hc3, hc4, hc5, hc6⟩ := id hc
  have clear : ∃ A, Tl_clear_s1 N M = some A ∧ (∀ j, j < 24 → A.1 48 j = 0) ∧ (∀ a j, a ≠ 48 → A.1 a j = M.1 a j) ∧ A.2 = M.2 := by
    unfold Tl_clear_s1
    refine iter (F := fun f i (s : mS) => Tl_clear_s1_2 N f (nI i) s) (i := 0) (f := N) (s := M) (n := 24) (Q := fun r => ∃ A, r = some A ∧ (∀ j, j < 24 → A.1 48 j = 0) ∧ (∀ a j, a ≠ 48 → A.1 a j = M.1 a j) ∧ A.2 = M.2) (fun i s => (∀ j, j < i → s.1 48 j = 0) ∧ (∀ a j, a ≠ 48 → s.1 a j = M.1 a j) ∧ s.2 = M.2) ?_ ?_ (Nat.zero_le _) (by omega) ⟨fun j hj => absurd hj (Nat.not_lt_zero _), fun _ _ _ => rfl, rfl⟩
    · rintro f i s hi ⟨h1, h2, h3⟩
      refine Or.inl ⟨mWI s 48 i 0, ⟨fun j hj => ?_, fun a j ha => by rw [mWI_ne ha]; exact h2 a j ha, h3⟩, ?_⟩
      · by_cases e : j = i
        · subst e; rw [rI rfl]
        · rw [rN (by omega)]; exact h1 j (by omega)
      · rw [Tl_clear_s1_2, onI, if_neg (by rw [leP (by omega) (by omega)]; omega), grd_in (by omega) (by omega), clp (by omega), nxs, show nI i + 1 = nI (i + 1) from nI_add i 1]
    · rintro f s ⟨h1, h2, h3⟩
      refine ⟨s, ?_, h1, h2, h3⟩
      rw [Tl_clear_s1_2, if_pos (by decide)]
  obtain ⟨A0, e0, z1, z2, z3⟩ := clear
  have w0 : WK c A0 R := by
    obtain ⟨q1, q2, q3, q4⟩ := h
    refine ⟨gC_fr q1 (fun a j q => z2 a j (by omega)), by rw [show A0.1 40 = M.1 40 from funext fun j => z2 40 j (by omega)]; exact q2, q3, fun p7 p0 p1 g hg => ?_⟩
    rw [z2 39 7 (by omega)] at p7
    rw [changes_c (z2 4 5 (by omega))] at p0 p1
    rw [z2 43 g (by omega)]
    exact q4 p7 p0 p1 g hg
  have f0 : frQ M A0 := ⟨fun a j q1 q2 q3 => z2 a j (by omega), z3⟩
  unfold Tl_busiestHour
  rw [e0, bVs]
  refine iter (F := fun f i (s : mS) => Tl_busiestHour_9 N f (nI n) (nI i) s) (i := 0) (f := N) (s := A0) (n := n) (Q := fun r => ∃ A, r = some (nI (amx (fvN c R n) (gH c)), A) ∧ A.1 45 0 = nI (fvN c R n (amx (fvN c R n) (gH c))) ∧ frQ M A) (fun i s => (∀ j, j < gH c → s.1 48 j = nI (fvN c R i j)) ∧ WK c s (nxn c none R i) ∧ frQ M s) ?_ ?_ (Nat.zero_le _) (by omega) ⟨fun j hj => z1 j (by omega), w0, f0⟩
  · rintro f i s hi ⟨h1, h2, h3⟩
    obtain ⟨B1, b1, b2, b3, b4⟩ := night_W hN hc h2
    have e39 : B1.1 39 3 = nI (twN c R i) := b3.2.2.trans (twN_s hc).1
    have h24 := (twN_s hc (R := R) (k := i)).2
    have inner : ∃ B, ((∀ j, j < gH c → B.1 48 j = nI (fvN c R (i + 1) j)) ∧ (∀ a j, a ≠ 48 → B.1 a j = B1.1 a j) ∧ B.2 = B1.2) ∧ Tl_busiestHour_24 N (Tl_busiestHour_9 N f) N (nI n) (nI i) 0 B1 = bV (Wk_pass N B) fun M2 => Tl_busiestHour_9 N f (nI n) (nI (i + 1)) M2 := by
      refine iter (F := fun u j (t : mS) => Tl_busiestHour_24 N (Tl_busiestHour_9 N f) u (nI n) (nI i) (nI j) t) (i := 0) (f := N) (s := B1) (n := gH c) (Q := fun r => ∃ B, ((∀ j, j < gH c → B.1 48 j = nI (fvN c R (i + 1) j)) ∧ (∀ a j, a ≠ 48 → B.1 a j = B1.1 a j) ∧ B.2 = B1.2) ∧ r = bV (Wk_pass N B) fun M2 => Tl_busiestHour_9 N f (nI n) (nI (i + 1)) M2) (fun j t => (∀ k, k < gH c → t.1 48 k = nI (if k < j then fvN c R (i + 1) k else fvN c R i k)) ∧ (∀ a k, a ≠ 48 → t.1 a k = B1.1 a k) ∧ t.2 = B1.2) ?_ ?_ (Nat.zero_le _) (by omega) ⟨fun k hk => by rw [if_neg (Nat.not_lt_zero _), b4.1 48 k (by omega) (by omega) (by omega)]; exact h1 k hk, fun _ _ _ => rfl, rfl⟩
      · rintro u j t hj ⟨q1, q2, q3⟩
        have t36 : t.1 3 6 = nI (gH c) := (q2 _ _ (by omega)).trans b2.1.1
        have t39 : t.1 39 3 = nI (twN c R i) := (q2 _ _ (by omega)).trans e39
        have t48 : t.1 48 j = nI (fvN c R i j) := by rw [q1 j hj, if_neg (Nat.lt_irrefl _)]
        refine Or.inl ⟨mWI t 48 j (nI (fvN c R (i + 1) j)), ⟨fun k hk => ?_, fun a k ha => by rw [mWI_ne ha]; exact q2 a k ha, q3⟩, ?_⟩
        · by_cases e : k = j
          · subst e; rw [rI rfl, if_pos (by omega)]
          · rw [rN (by omega), q1 k hk]
            by_cases z : k < j
            · rw [if_pos z, if_pos (by omega)]
            · rw [if_neg z, if_neg (by omega)]
        · rw [Tl_busiestHour_24, t36, if_neg (by rw [leP (by omega) (by omega)]; omega), grd_in (by omega) (by omega), grd_in (by omega) (by omega), clp (by omega), t48, t39, show nI (twN c R i) >>> (nI j &&& 31) &&& 1 = nI (twN c R i / 2 ^ j % 2) from sar1 (by omega) (by omega), nI_add, nxs, show nI j + 1 = nI (j + 1) from nI_add j 1, fvN_s]
      · rintro u t ⟨q1, q2, q3⟩
        have t36 : t.1 3 6 = nI (gH c) := (q2 _ _ (by omega)).trans b2.1.1
        refine ⟨t, ⟨fun j hj => by rw [q1 j hj, if_pos hj], q2, q3⟩, ?_⟩
        rw [Tl_busiestHour_24, t36, if_pos (by rw [leP (by omega) (by omega)]; omega), show nI i + 1 = nI (i + 1) from nI_add i 1]
    obtain ⟨B, ⟨q1, q2, q3⟩, q4⟩ := inner
    have wB : WK c B (nxn c none R i) := by
      obtain ⟨p1, p2, p3, p4⟩ := b2
      refine ⟨gC_fr p1 (fun a j q => q2 a j (by omega)), by rw [show B.1 40 = B1.1 40 from funext fun j => q2 40 j (by omega)]; exact p2, p3, fun p7 p0 p1 g hg => ?_⟩
      rw [q2 39 7 (by omega)] at p7
      rw [changes_c (q2 4 5 (by omega))] at p0 p1
      rw [q2 43 g (by omega)]
      exact p4 p7 p0 p1 g hg
    have sB : SEEN c none B (nxn c none R i) := ⟨fun g hg => (q2 _ _ (by omega)).trans (b3.1 g hg), (q2 _ _ (by omega)).trans b3.2.1, (q2 _ _ (by omega)).trans b3.2.2⟩
    obtain ⟨B2, d1, d2, d3⟩ := pass_W hN hc wB sB
    have fB : frQ B1 B := ⟨fun a j z1 z2 z3 => q2 a j (by omega), q3⟩
    refine Or.inl ⟨B2, ⟨fun j hj => by rw [d3.1 48 j (by omega) (by omega) (by omega)]; exact q1 j hj, d2, ((h3.trans b4.frQ).trans fB).trans d3.frQ⟩, ?_⟩
    rw [Tl_busiestHour_9, if_neg (by rw [leP (by omega) (by omega)]; omega), b1, bVs, q4, d1, bVs]
  · rintro f s ⟨h1, h2, h3⟩
    have s36 := h2.1.1
    rw [Tl_busiestHour_9, if_pos (by rw [leP (by omega) (by omega)]; omega), show (0 : Int32) = nI (amx (fvN c R n) (0 + 1)) by rw [amx_1]; rfl, show (1 : Int32) = nI (0 + 1) from rfl]
    refine iter (F := fun f i (_ : Unit) => Tl_busiestHour_78 N f (nI (amx (fvN c R n) (i + 1))) (nI (i + 1)) s) (i := 0) (f := N) (s := ()) (n := gH c - 1) (Q := fun r => ∃ A, r = some (nI (amx (fvN c R n) (gH c)), A) ∧ A.1 45 0 = nI (fvN c R n (amx (fvN c R n) (gH c))) ∧ frQ M A) (fun i _ => True) ?_ ?_ (Nat.zero_le _) (by omega) trivial
    · rintro f i _ hi -
      have ha := amx_lt (f := fvN c R n) (show 0 < i + 1 by omega)
      have l1 := fvN_le (c := c) (R := R) (n := n) (h := i + 1)
      have l2 := fvN_le (c := c) (R := R) (n := n) (h := amx (fvN c R n) (i + 1))
      have e1 := h1 (i + 1) (by omega)
      have e2 := h1 (amx (fvN c R n) (i + 1)) (by omega)
      refine Or.inl ⟨(), trivial, ?_⟩
      rw [Tl_busiestHour_78, s36, if_neg (by rw [leP (by omega) (by omega)]; omega), grd_in (by omega) (by omega), grd_in (by omega) (by omega), clp (by omega), clp (by omega), e1, e2, amx_s (n := i + 1)]
      unfold Tl_busiestHour_106
      by_cases z : fvN c R n (amx (fvN c R n) (i + 1)) < fvN c R n (i + 1)
      · rw [if_pos z, if_neg (by rw [leP (by omega) (by omega)]; omega), show nI (i + 1) + 1 = nI (i + 1 + 1) from nI_add (i + 1) 1]
      · rw [if_neg z, if_pos (by rw [leP (by omega) (by omega)]; omega), show nI (i + 1) + 1 = nI (i + 1 + 1) from nI_add (i + 1) 1]
    · rintro f _ -
      have ha := amx_lt (f := fvN c R n) (show 0 < gH c by omega)
      have e2 := h1 (amx (fvN c R n) (gH c)) ha
      refine ⟨mWI s 45 0 (nI (fvN c R n (amx (fvN c R n) (gH c)))), ?_, rI rfl, h3.wI (by omega)⟩
      rw [show gH c - 1 + 1 = gH c by omega, Tl_busiestHour_78, s36, if_pos (by rw [leP (by omega) (by omega)]; omega), grd_in (by omega) (by omega), clp (by omega), e2, nxs]
theorem manyBy_s {N : Nat} {c : gar} {v n k : Nat} {R : Nat → Int32} {B : mS} (hN : 1000 ≤ N) (hk : k ≤ n) (hn : n ≤ 400) (hc : gOk c) (hM : gM c v B) (hF : FILL c R n B) : Mo_manyBy N (nI k) B = some (nI (twN c R k)) := by
  have hG := hc.2.2.2.1
  obtain ⟨h0, h1, h2, h3, h4, -⟩ := id hM
  rw [← (twN_s hc).1, tw_many]
  unfold Mo_manyBy
  refine iter (F := fun f i (s : Int32) => Mo_manyBy_4 N B f (nI k) s (nI i)) (i := 0) (f := N) (s := (0 : Int32)) (n := gG c) (Q := fun r => r = some (orB (fun g => tK c R k g &&& oth (tK c R k) g (gG c)) (gG c))) (fun i s => s = orB (fun g => tK c R k g &&& oth (tK c R k) g (gG c)) i) ?_ ?_ (Nat.zero_le _) (by omega) rfl
  · rintro f i s hi rfl
    refine Or.inl ⟨_, rfl, ?_⟩
    have e1 := (hF k hk i hi).1
    have eo := othersBy_s (N := N) (k := k) (g := i) hN hk hn hc hM hF (by omega)
    rw [Mo_manyBy_4, h1, grd_in h0 (by omega), clp (by omega), h4, if_neg (by rw [leP (by omega) (by omega)]; omega), show (5 : Int32) * nI k = nI (5 * k) from pk_mul 5 k, nI_add, grd_in (by omega) (by omega), eo, bRs, clp (by omega), e1, nxs, show nI i + 1 = nI (i + 1) from nI_add i 1]
    rfl
  · rintro f s rfl
    rw [Mo_manyBy_4, h1, grd_in h0 (by omega), clp (by omega), h4, if_pos (by rw [leP (by omega) (by omega)]; omega)]
theorem favourite_M {N : Nat} {c : gar} {v n w : Nat} {R : Nat → Int32} {B : mS} (hN : 1000 ≤ N) (hn : n ≤ 400) (hc : gOk c) (hM : gM c v B) (hF : FILL c R n B) : Mo_favourite_31 N N (nI n) (nI w) 0 (-1) 0 B = if nI w = 0 then some (nI (amx (fvN c R n) (gH c)), B) else some (nI (fvN c R n (amx (fvN c R n) (gH c))), B) := by
  obtain ⟨hc1, hc2, hc3, hc4, hc5, hc6⟩ := id hc
  have hh := hours_s (N := N) hM
  refine iter (F := fun f i (s : Int32 × Int32) => Mo_favourite_31 N f (nI n) (nI w) s.1 s.2 (nI i) B) (i := 0) (f := N) (s := ((0 : Int32), (-1 : Int32))) (n := gH c) (Q := fun r => r = if nI w = 0 then some (nI (amx (fvN c R n) (gH c)), B) else some (nI (fvN c R n (amx (fvN c R n) (gH c))), B)) (fun i s => s.1 = nI (amx (fvN c R n) i) ∧ ((i = 0 ∧ s.2 = -1) ∨ (0 < i ∧ s.2 = nI (fvN c R n (amx (fvN c R n) i))))) ?_ ?_ (Nat.zero_le _) (by omega) ⟨rfl, Or.inl ⟨rfl, rfl⟩⟩
  · rintro f i ⟨s, t⟩ hi ⟨h1, h2⟩
    dsimp only at h1 h2
    subst h1
    have hl := fvN_le (c := c) (R := R) (n := n) (h := i)
    have inner : Mo_favourite_46 N (Mo_favourite_31 N f) N (nI n) (nI w) (nI (amx (fvN c R n) i)) t (nI i) 0 0 B = if t < nI (fvN c R n i) then Mo_favourite_31 N f (nI n) (nI w) (nI i) (nI (fvN c R n i)) (nI (i + 1)) B else Mo_favourite_31 N f (nI n) (nI w) (nI (amx (fvN c R n) i)) t (nI (i + 1)) B := by
      refine iter (F := fun u k (y : Int32) => Mo_favourite_46 N (Mo_favourite_31 N f) u (nI n) (nI w) (nI (amx (fvN c R n) i)) t (nI i) y (nI k) B) (i := 0) (f := N) (s := (0 : Int32)) (n := n) (Q := fun r => r = if t < nI (fvN c R n i) then Mo_favourite_31 N f (nI n) (nI w) (nI i) (nI (fvN c R n i)) (nI (i + 1)) B else Mo_favourite_31 N f (nI n) (nI w) (nI (amx (fvN c R n) i)) t (nI (i + 1)) B) (fun k y => y = nI (fvN c R k i)) ?_ ?_ (Nat.zero_le _) (by omega) rfl
      · rintro u k y hk rfl
        have h24 := (twN_s hc (R := R) (k := k)).2
        refine Or.inl ⟨_, rfl, ?_⟩
        rw [Mo_favourite_46, if_neg (by rw [leP (by omega) (by omega)]; omega), manyBy_s hN (by omega) hn hc hM hF, bRs, show nI (twN c R k) >>> (nI i &&& 31) &&& 1 = nI (twN c R k / 2 ^ i % 2) from sar1 (by omega) (by omega), nI_add, nxs, show nI k + 1 = nI (k + 1) from nI_add k 1, fvN_s]
      · rintro u y rfl
        rw [Mo_favourite_46, if_pos (by rw [leP (by omega) (by omega)]; omega)]
        unfold Mo_favourite_91
        rw [show nI i + 1 = nI (i + 1) from nI_add i 1]
    have key : Mo_favourite_31 N (f + 1) (nI n) (nI w) (nI (amx (fvN c R n) i)) t (nI i) B = if t < nI (fvN c R n i) then Mo_favourite_31 N f (nI n) (nI w) (nI i) (nI (fvN c R n i)) (nI (i + 1)) B else Mo_favourite_31 N f (nI n) (nI w) (nI (amx (fvN c R n) i)) t (nI (i + 1)) B := by
      rw [Mo_favourite_31, hh, bRs, if_neg (by rw [leP (by omega) (by omega)]; omega), inner]
    rcases h2 with ⟨rfl, rfl⟩ | ⟨hp, rfl⟩
    · refine Or.inl ⟨(nI 0, nI (fvN c R n 0)), ⟨by rw [amx_1], Or.inr ⟨by omega, by rw [amx_1]⟩⟩, ?_⟩
      dsimp only
      rw [key, if_pos (ge_m1 (by omega))]
    · have ha := amx_lt (f := fvN c R n) hp
      have hl2 := fvN_le (c := c) (R := R) (n := n) (h := amx (fvN c R n) i)
      refine Or.inl ⟨(nI (amx (fvN c R n) (i + 1)), nI (fvN c R n (amx (fvN c R n) (i + 1)))), ⟨rfl, Or.inr ⟨by omega, rfl⟩⟩, ?_⟩
      dsimp only
      rw [key, amx_s]
      by_cases z : fvN c R n (amx (fvN c R n) i) < fvN c R n i
      · rw [if_pos z, if_pos (by rw [ltP (by omega) (by omega)]; exact z)]
      · rw [if_neg z, if_neg (by rw [ltP (by omega) (by omega)]; exact z)]
  · rintro f ⟨s, t⟩ ⟨h1, h2⟩
    dsimp only at h1 h2
    subst h1
    rcases h2 with ⟨q, -⟩ | ⟨hp, rfl⟩
    · omega
    · dsimp only
      rw [Mo_favourite_31, hh, bRs, if_pos (by rw [leP (by omega) (by omega)]; omega)]
theorem call_favourite {N : Nat} {M : mS} (hN : 1000 ≤ N) (h : INV M) (x y : Int32) : ∃ r A B, Md_favourite N x y M = some (r, A) ∧ Mo_favourite N x y A = some (r, B) ∧ INV B := by
  obtain ⟨c, v, R, X, hc, hC, hM⟩ := h
  unfold Md_favourite Mo_favourite Mo_isSpan
  rw [show (60 : Int32) = nI 60 from rfl]
  rcases arg_c x 61 (by omega) with ⟨n, hn, rfl⟩ | q
  · rcases arg_c y 2 (by omega) with ⟨w, hw, rfl⟩ | q
    · have hw2 : w = 0 ∨ w = 1 := by omega
      obtain ⟨A, eA, wA, fA, rA, -⟩ := beginW (N := N) hc hC.1 hC.2.1.1 hC.2.1.2.2.1
      obtain ⟨A2, eA2, a2, f2⟩ := favourite_C (N := N) (n := n) hN (by omega) hc wA
      have fQ : frQ M A2 := fA.frQ.trans f2
      have hMA := MI_u hM fQ.frU
      obtain ⟨B, eB, b1, b2, b3⟩ := fillsStill_s (N := N) (n := n) hN (by omega) hc hMA.1 hMA.2.1 hC.2.1.2.2.1
      have eM := favourite_M (N := N) (w := w) hN (by omega) hc b2 b1
      refine ⟨if nI w = 0 then nI (amx (fvN c R n) (gH c)) else nI (fvN c R n (amx (fvN c R n) (gH c))), A2, B, ?_, ?_, INV_q hc hC hM fQ b3⟩
      · rw [with_y (by omega) (by omega), if_neg (by decide)]
        unfold Md_favourite_20
        rw [eA, bVs, eA2, bWs, a2]
        rcases hw2 with rfl | rfl <;> rfl
      · rw [inK_y (by omega) (by omega), if_neg (by decide), i1, inK_y (by omega) (by omega), if_neg (by decide), eB, bVs, show (-nI 1 : Int32) = -1 from rfl, eM]
        rcases hw2 with rfl | rfl <;> rfl
    · have z0 : ¬ y = 0 := outr_ne q (k := 0) (by omega) (by omega)
      have z1 : ¬ y = 1 := outr_ne q (k := 1) (by omega) (by omega)
      refine ⟨-1, M, M, ?_, ?_, c, v, R, X, hc, hC, hM⟩
      · rw [with_y (by omega) (by omega), if_neg (by decide), if_neg z0, if_neg z1]
      · rw [inK_y (by omega) (by omega), if_neg (by decide), show (1 : Int32) = nI 1 from rfl, inK_n q (by omega), if_pos (by decide)]
  · refine ⟨-1, M, M, ?_, ?_, c, v, R, X, hc, hC, hM⟩
    · rw [with_n q (by omega), if_pos (by decide)]
    · rw [inK_n q (by omega), if_pos (by decide)]
