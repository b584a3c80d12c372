/-! there, fullest, meet -/
def whF (f : Nat → Int32) (h g : Nat) : Int32 := ((f g >>> (nI h &&& 31)) &&& 1) <<< (nI g &&& 31)
theorem whF_n {f : Nat → Int32} {h g : Nat} (hf : sml (f g)) (hh : h < 32) (hg : g < 5) : ∃ b, b < 2 ∧ whF f h g = nI (b * 2 ^ g) := by
  obtain ⟨n, hn, e⟩ := hf
  have h2 : (2 : Nat) ^ g ≤ 2 ^ 4 := Nat.pow_le_pow_right (by omega) (by omega)
  have h3 : n / 2 ^ h % 2 < 2 := Nat.mod_lt _ (by omega)
  refine ⟨n / 2 ^ h % 2, h3, ?_⟩
  unfold whF
  rw [e, show nI n >>> (nI h &&& 31) &&& 1 = nI (n / 2 ^ h % 2) from sar1 (by omega) hh]
  refine pk_shlN _ g (s_l g (by omega)) ?_
  have := Nat.mul_le_mul (show n / 2 ^ h % 2 ≤ 1 by omega) h2
  omega
theorem whF_s {f : Nat → Int32} {h g : Nat} (hf : sml (f g)) (hh : h < 32) (hg : g < 5) : sml (whF f h g) := by
  obtain ⟨b, hb, e⟩ := whF_n hf hh hg
  have h2 : (2 : Nat) ^ g ≤ 2 ^ 4 := Nat.pow_le_pow_right (by omega) (by omega)
  have := Nat.mul_le_mul (show b ≤ 1 by omega) h2
  exact ⟨_, by omega, e⟩
theorem whF_0 {f : Nat → Int32} {h g : Nat} (hf : f g = 0) (hh : h < 32) (hg : g < 32) : whF f h g = 0 := by
  unfold whF
  rw [hf, li0, show nI 0 >>> (nI h &&& 31) &&& 1 = nI (0 / 2 ^ h % 2) from sar1 (by omega) hh, Nat.zero_div, Nat.zero_mod]
  have := pk_shlN (n := 0) (nI g &&& 31) g (s_l g hg) (by omega)
  rw [Nat.zero_mul] at this
  exact this
theorem orB_sml {f : Nat → Int32} : ∀ {n : Nat}, (∀ k, k < n → sml (f k)) → sml (orB f n)
  | 0, _ => sml_0
  | n + 1, h => sml_or (orB_sml (fun k hk => h k (by omega))) (h n (by omega))
theorem whoAt_s {N : Nat} {M : mS} {f : Nat → Int32} {G h : Nat} (hN : 1000 ≤ N) (hG : G ≤ 5) (h8 : M.1 3 8 = nI G) (hf : ∀ g, g < G → M.1 41 g = f g) : Wk_whoAt N (nI h) M = some (orB (whF f h) G) := by
  unfold Wk_whoAt
  refine iter (F := fun k i (s : Int32) => Wk_whoAt_4 N M k (nI h) s (nI i)) (n := G) (Q := fun r => r = some (orB (whF f h) G)) (fun i s => s = orB (whF f h) i) ?_ ?_ (Nat.zero_le _) (by omega) rfl
  · rintro k i s hi rfl
    refine Or.inl ⟨_, rfl, ?_⟩
    rw [Wk_whoAt_4, h8, if_neg (by rw [leP (by omega) (by omega)]; omega), grd_in (by omega) (by omega), clp (by omega), hf i hi, nxs, show nI i + 1 = nI (i + 1) from nI_add i 1]
    rfl
  · rintro k s rfl
    rw [Wk_whoAt_4, h8, if_pos (by rw [leP (by omega) (by omega)]; omega)]
theorem thereAt_s {N : Nat} {M : mS} {f : Nat → Int32} {h : Nat} (hN : 1000 ≤ N) (hf : ∀ g, g < 5 → M.1 97 g = f g) : Mo_thereAt N (nI h) M = some (orB (whF f h) 5) := by
  unfold Mo_thereAt
  refine iter (F := fun k i (s : Int32) => Mo_thereAt_4 N M k (nI h) s (nI i)) (n := 5) (Q := fun r => r = some (orB (whF f h) 5)) (fun i s => s = orB (whF f h) i) ?_ ?_ (Nat.zero_le _) (by omega) rfl
  · rintro k i s hi rfl
    refine Or.inl ⟨_, rfl, ?_⟩
    rw [Mo_thereAt_4, if_neg (by rw [show (5 : Int32) = nI 5 from rfl, leP (by omega) (by omega)]; omega), grd_in (by omega) (by omega), clp (by omega), hf i hi, nxs, show nI i + 1 = nI (i + 1) from nI_add i 1]
    rfl
  · rintro k s rfl
    rw [Mo_thereAt_4, if_pos (by decide)]
noncomputable def whN (c : gar) (m : Option Int32) (R : Nat → Int32) (h : Nat) : Int32 := orB (whF (th c m R) h) (gG c)
theorem whN_5 {c : gar} (hc : gOk c) {m : Option Int32} {R : Nat → Int32} {h : Nat} (hh : h < 32) : orB (whF (th c m R) h) 5 = whN c m R h := by
  have : ∀ {m' : Nat}, m' ≤ 5 → gG c ≤ m' → orB (whF (th c m R) h) m' = orB (whF (th c m R) h) (gG c) := by
    intro m'
    induction m' with
    | zero => intro _ q; rw [show gG c = 0 by omega]
    | succ k ih =>
      intro q1 q2
      by_cases e : gG c = k + 1
      · rw [e]
      · rw [orB_s, whF_0 (th_out (by omega)) hh (by omega), or0]
        exact ih (by omega) (by omega)
  exact this (Nat.le_refl _) hc.2.2.2.1
theorem whN_sml {c : gar} (hc : gOk c) {m : Option Int32} {R : Nat → Int32} {h : Nat} (hh : h < 32) : sml (whN c m R h) := orB_sml (fun k hk => whF_s (sml_th hc) hh (by have := hc.2.2.2.1; omega))
theorem seeThis_s {N : Nat} {c : gar} {R : Nat → Int32} {M : mS} (hN : 1000 ≤ N) (hc : gOk c) (hC : gC c M) (hrow : rowC c (M.1 34) R) : ∃ A, Md_seeThisNight N M = some A ∧ WK c A R ∧ SEEN c none A R ∧ frW M A := by
  obtain ⟨A, eA, wA, fA, rA, -⟩ := beginW (N := N) hc hC hrow.1 hrow.2.2.1
  obtain ⟨B, b1, b2, b3, b4, b5⟩ := seeW (N := N) (m := none) (x1 := -1) hN hc wA (Or.inl ⟨rfl, rfl⟩)
  refine ⟨B, ?_, b2, b3, fA.trans b4⟩
  unfold Md_seeThisNight
  rw [eA, bVs, b1, bVs]
theorem fillThis_s {N : Nat} {c : gar} {v : Nat} {R : Nat → Int32} {X : aux} {M : mS} (hN : 1000 ≤ N) (hc : gOk c) (hM : MI c v R X M) (hR : VR c R) : ∃ A B, Mo_copiesStill N M = some A ∧ Mo_fillsThere N A = some B ∧ (∀ g, g < 5 → B.1 97 g = th c none R g) ∧ rM B R ∧ mdM none B ∧ B.1 64 50 = nI (gS c) ∧ gM c v B ∧ frP M B := by
  obtain ⟨A, eA, a1, a2, a3, a4⟩ := copiesStill_s (N := N) hN hc hM.1 hM.2.1
  obtain ⟨B, eB, b1, b2, b3⟩ := fillsThere_s (N := N) hN hc (a4.gM hM.1) a1 hR a2
  exact ⟨A, B, eA, eB, b1, b3, b2.md a2, (b2.1 64 50 (by omega) (by omega) (by omega) (by omega) (by omega)).trans a3, b2.gM (a4.gM hM.1), a4.trans b2.frP⟩
theorem call_there {N : Nat} {M : mS} (hN : 1000 ≤ N) (h : INV M) (x : Int32) : ∃ r A B, Md_there N x M = some (r, A) ∧ Mo_there N x A = some (r, B) ∧ INV B := by
  obtain ⟨c, v, R, X, hc, hC, hM⟩ := h
  obtain ⟨hc1, hc2, hc3, hc4, hc5, hc6⟩ := id hc
  unfold Md_there Mo_there
  rcases arg_c x (gH c) (by omega) with ⟨k, hk, rfl⟩ | q
  · obtain ⟨A, eA, wA, sA, fA⟩ := seeThis_s (N := N) hN hc hC.1 hC.2.1
    have fQ : frQ M A := fA.frQ
    have hMA := MI_u hM fQ.frU
    obtain ⟨B1, B, eB1, eB, b1, b2, b3, b4, b5, b6⟩ := fillThis_s (N := N) hN hc hMA hC.2.1.2.2.1
    refine ⟨whN c none R k, A, B, ?_, ?_, INV_q hc hC hM fQ b6⟩
    · rw [cHour_y hc hC.1 hk, if_neg (by decide), eA, bVs, whoAt_s hN hc4 wA.1.2.2.1 sA.1, bRs]
      rfl
    · rw [oHour_y hc hMA.1 hk, bRs, if_neg (by decide), eB1, bVs, eB, bVs, thereAt_s hN b1, bRs, whN_5 hc (by omega)]
  · refine ⟨-1, M, M, ?_, ?_, c, v, R, X, hc, hC, hM⟩
    · rw [cHour_n hC.1 q, if_pos (by decide)]
    · rw [oHour_n hc hM.1 q, bRs, if_pos (by decide)]
/-! the first of the most -/
def amx (f : Nat → Nat) : Nat → Nat
  | 0 => 0
  | n + 1 => if f (amx f n) < f n then n else amx f n
theorem amx_s {f : Nat → Nat} {n : Nat} : amx f (n + 1) = if f (amx f n) < f n then n else amx f n := rfl
theorem amx_1 {f : Nat → Nat} : amx f 1 = 0 := by rw [amx_s]; split <;> rfl
theorem amx_lt {f : Nat → Nat} : ∀ {n : Nat}, 0 < n → amx f n < n
  | 0, h => absurd h (Nat.lt_irrefl _)
  | n + 1, _ => by
    rw [amx_s]
    split
    · omega
    · by_cases q : n = 0
      · subst q; exact Nat.zero_lt_one
      · have := amx_lt (f := f) (n := n) (by omega); omega
noncomputable def flN (c : gar) (R : Nat → Int32) (h : Nat) : Nat := (bc (whN c none R h)).toNatClampNeg
theorem flN_s {c : gar} (hc : gOk c) {R : Nat → Int32} {h : Nat} (hh : h < 32) : bc (whN c none R h) = nI (flN c R h) ∧ flN c R h ≤ 24 := by
  obtain ⟨n, hn, e⟩ := bc_nat (whN_sml hc (m := none) (R := R) hh)
  unfold flN
  rw [e, clp (by omega)]
  exact ⟨rfl, hn⟩
theorem ge_m1 {n : Nat} (h : n < 2147483648) : (-1 : Int32) < nI n := by
  rw [fa_lt, nI_toInt h]
  have : (-1 : Int32).toInt = -1 := by decide
  omega
theorem call_fullest {N : Nat} {M : mS} (hN : 1000 ≤ N) (h : INV M) (x : Int32) : ∃ r A B, Md_fullest N x M = some (r, A) ∧ Mo_fullest N x A = some (r, B) ∧ INV B := by
  obtain ⟨c, v, R, X, hc, hC, hM⟩ := h
  obtain ⟨hc1, hc2, hc3, hc4, hc5, hc6⟩ := id hc
  unfold Mo_fullest
  rcases arg_c x 2 (by omega) with ⟨w, hw, rfl⟩ | q
  · obtain ⟨A, eA, wA, sA, fA⟩ := seeThis_s (N := N) hN hc hC.1 hC.2.1
    have fQ : frQ M A := fA.frQ
    have hMA := MI_u hM fQ.frU
    obtain ⟨B1, B, eB1, eB, b1, b2, b3, b4, b5, b6⟩ := fillThis_s (N := N) hN hc hMA hC.2.1.2.2.1
    have who : ∀ k, Wk_whoAt N (nI k) A = some (whN c none R k) := fun k => whoAt_s hN hc4 wA.1.2.2.1 sA.1
    have thr : ∀ k, k < 32 → Mo_thereAt N (nI k) B = some (whN c none R k) := fun k hk => by rw [thereAt_s hN b1, whN_5 hc hk]
    have bts : ∀ k, k < 32 → Mo_bits N (whN c none R k) B = some (nI (flN c R k)) := fun k hk => by rw [bits_s hN (whN_sml hc hk), (flN_s hc hk).1]
    refine ⟨if w = 0 then nI (amx (flN c R) (gH c)) else nI (flN c R (amx (flN c R) (gH c))), A, B, ?_, ?_, INV_q hc hC hM fQ b6⟩
    · have hw2 : w = 0 ∨ w = 1 := by omega
      have key : Md_fullest N (nI w) M = Md_fullest_19 N N (nI w) 0 1 A := by
        unfold Md_fullest Md_fullest_11
        rcases hw2 with rfl | rfl
        · rw [if_pos (by decide), eA, bVs]
        · rw [if_neg (by decide), if_pos (by decide), eA, bVs]
      rw [key, show (0 : Int32) = nI (amx (flN c R) (0 + 1)) by rw [amx_1]; rfl, show (1 : Int32) = nI (0 + 1) from rfl]
      have a36 := wA.1.1
      refine iter (F := fun f i (s : Unit) => Md_fullest_19 N f (nI w) (nI (amx (flN c R) (i + 1))) (nI (i + 1)) A) (i := 0) (f := N) (s := ()) (n := gH c - 1) (Q := fun r => r = some (if w = 0 then nI (amx (flN c R) (gH c)) else nI (flN c R (amx (flN c R) (gH c))), A)) (fun i s => True) ?_ ?_ (Nat.zero_le _) (by omega) trivial
      · rintro f i s hi -
        have ha := amx_lt (f := flN c R) (show 0 < i + 1 by omega)
        have h1 := flN_s hc (R := R) (show i + 1 < 32 by omega)
        have h2 := flN_s hc (R := R) (show amx (flN c R) (i + 1) < 32 by omega)
        refine Or.inl ⟨(), trivial, ?_⟩
        rw [Md_fullest_19, a36, if_neg (by rw [leP (by omega) (by omega)]; omega), who, bRs, who, bRs, bc_of, bc_of, h1.1, h2.1, amx_s (n := i + 1)]
        unfold Md_fullest_57
        by_cases z : flN c R (amx (flN c R) (i + 1)) < flN c R (i + 1)
        · rw [if_pos z, if_neg (by rw [leP (by omega) (by omega)]; omega), show nI (i + 1) + 1 = nI (i + 1 + 1) from nI_add (i + 1) 1]
        · rw [if_neg z, if_pos (by rw [leP (by omega) (by omega)]; omega), show nI (i + 1) + 1 = nI (i + 1 + 1) from nI_add (i + 1) 1]
      · rintro f s -
        have ha := amx_lt (f := flN c R) (show 0 < gH c by omega)
        have h2 := flN_s hc (R := R) (show amx (flN c R) (gH c) < 32 by omega)
        rw [show gH c - 1 + 1 = gH c by omega, Md_fullest_19, a36, if_pos (by rw [leP (by omega) (by omega)]; omega)]
        rcases hw2 with rfl | rfl
        · rw [if_pos (by decide), if_pos rfl]
        · rw [if_neg (by decide), if_neg (by decide), who, bRs, bc_of, h2.1]
    · rw [i1, inK_y (by omega) (by omega), if_neg (by decide), eB1, bVs, eB, bVs]
      refine iter (F := fun f i (s : Int32 × Int32) => Mo_fullest_26 N f (nI w) s.1 s.2 (nI i) B) (i := 0) (f := N) (s := ((0 : Int32), (-nI 1 : Int32))) (n := gH c) (Q := fun r => r = some (if w = 0 then nI (amx (flN c R) (gH c)) else nI (flN c R (amx (flN c R) (gH c))), B)) (fun i s => s.1 = nI (amx (flN c R) i) ∧ ((i = 0 ∧ s.2 = -1) ∨ (0 < i ∧ s.2 = nI (flN c R (amx (flN c R) i))))) ?_ ?_ (Nat.zero_le _) (by omega) ⟨rfl, Or.inl ⟨rfl, rfl⟩⟩
      · rintro f i ⟨s, t⟩ hi ⟨h1, h2⟩
        dsimp only at h1 h2
        subst h1
        have hl := (flN_s hc (R := R) (show i < 32 by omega)).2
        have hh := hours_s (N := N) b5
        have key : Mo_fullest_26 N (f + 1) (nI w) (nI (amx (flN c R) i)) t (nI i) B = if t < nI (flN c R i) then Mo_fullest_26 N f (nI w) (nI i) (nI (flN c R i)) (nI (i + 1)) B else Mo_fullest_26 N f (nI w) (nI (amx (flN c R) i)) t (nI (i + 1)) B := by
          rw [Mo_fullest_26, hh, bRs, if_neg (by rw [leP (by omega) (by omega)]; omega), thr i (by omega), bRs, bts i (by omega), bRs, bRs, bts i (by omega), bRs]
          unfold Mo_fullest_64
          rw [show nI i + 1 = nI (i + 1) from nI_add i 1]
        rcases h2 with ⟨rfl, rfl⟩ | ⟨hp, rfl⟩
        · refine Or.inl ⟨(nI 0, nI (flN c R 0)), ⟨by rw [amx_1], Or.inr ⟨by omega, by rw [amx_1]⟩⟩, ?_⟩
          dsimp only
          rw [key, if_pos (ge_m1 (by omega))]
        · have ha := amx_lt (f := flN c R) hp
          have hl2 := (flN_s hc (R := R) (show amx (flN c R) i < 32 by omega)).2
          refine Or.inl ⟨(nI (amx (flN c R) (i + 1)), nI (flN c R (amx (flN c R) (i + 1)))), ⟨rfl, Or.inr ⟨by omega, rfl⟩⟩, ?_⟩
          dsimp only
          rw [key, amx_s]
          by_cases z : flN c R (amx (flN c R) i) < flN c R i
          · rw [if_pos z, if_pos (by rw [ltP (by omega) (by omega)]; exact z)]
          · rw [if_neg z, if_neg (by rw [ltP (by omega) (by omega)]; exact z)]
      · rintro f ⟨s, t⟩ ⟨h1, h2⟩
        dsimp only at h1 h2
        subst h1
        have hh := hours_s (N := N) b5
        rcases h2 with ⟨q, -⟩ | ⟨hp, rfl⟩
        · omega
        · dsimp only
          rw [Mo_fullest_26, hh, bRs, if_pos (by rw [leP (by omega) (by omega)]; omega)]
          have hw2 : w = 0 ∨ w = 1 := by omega
          rcases hw2 with rfl | rfl
          · rw [if_pos (by decide), if_pos rfl]
          · rw [if_neg (by decide), if_neg (by decide)]
  · have z0 : ¬ x = 0 := outr_ne q (k := 0) (by omega) (by omega)
    have z1 : ¬ x = 1 := outr_ne q (k := 1) (by omega) (by omega)
    refine ⟨-1, M, M, ?_, ?_, c, v, R, X, hc, hC, hM⟩
    · unfold Md_fullest; rw [if_neg z0, if_neg z1]
    · rw [show (1 : Int32) = nI 1 from rfl, inK_n q (by omega), if_pos (by decide)]
