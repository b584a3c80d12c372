/-! cut, the model -/
def mkK (k : Nat) : Nat := if k < 20 then 20 + k else if k = 20 then 1 else if k = 21 then 2 else if k = 22 then 4 else if k = 23 then 5 else if k = 24 then 8 else if k = 25 then 9 else if k = 26 then 10 else if k = 27 then 15 else if k = 28 then 13 else if k = 29 then 6 else if k = 30 then 7 else if k = 31 then 0 else 3
theorem mkK_inj0 : ∀ j, j < 33 → ∀ k, k < 33 → mkK j = mkK k → j = k := by decide +kernel
theorem mkK_le : ∀ j, j < 33 → mkK j < 40 := by decide +kernel
theorem mkK_inj {j k : Nat} (hj : j ≤ 32) (hk : k ≤ 32) : mkK j = mkK k ↔ j = k := ⟨mkK_inj0 j (by omega) k (by omega), fun e => by rw [e]⟩
def TOKM (n : Nat) (b : Nat → Nat) (c : Nat) (M : mS) : Prop := M.1 64 10 = nI c ∧ ∀ i, i < c → M.1 67 i = nI (mkK (tkD n b i)) ∧ M.1 68 i = nI (tkP n b i) ∧ (tkD n b i = 21 → M.1 69 i = nI (tkV n b i)) ∧ (tkD n b i ≤ 20 → M.2 70 i = lN (krd 27 (tkW n b i)))
def frK (M A : mS) : Prop := (∀ a j, a ≠ 67 → a ≠ 68 → a ≠ 69 → (a ≠ 64 ∨ j ≠ 10) → A.1 a j = M.1 a j) ∧ ∀ a j, a ≠ 70 → A.2 a j = M.2 a j
theorem frK.refl {M : mS} : frK M M := ⟨fun _ _ _ _ _ _ => rfl, fun _ _ _ => rfl⟩
theorem frK.trans {A B C : mS} (h : frK A B) (g : frK B C) : frK A C := ⟨fun a j q1 q2 q3 q4 => (g.1 a j q1 q2 q3 q4).trans (h.1 a j q1 q2 q3 q4), fun a j q => (g.2 a j q).trans (h.2 a j q)⟩
def tpQ (n : Nat) (b : Nat → Nat) (M : mS) : Prop := n ≤ 2000 ∧ M.1 64 4 = nI n ∧ ∀ i, i < n → M.1 66 i &&& 255 = nI (b i) ∧ b i < 256
theorem frK.tpQ {n : Nat} {b : Nat → Nat} {M A : mS} (h : frK M A) (g : tpQ n b M) : tpQ n b A := ⟨g.1, (h.1 64 4 (by omega) (by omega) (by omega) (by omega)).trans g.2.1, fun i hi => ⟨by rw [h.1 66 i (by omega) (by omega) (by omega) (by omega)]; exact (g.2.2 i hi).1, (g.2.2 i hi).2⟩⟩
theorem wkN_iff {k : Nat} {w : List Nat} (hk : k < 20) : wdK k = w ↔ wkN w = k := by
  constructor
  · intro e
    subst e
    refine first_at (fun j hj => ?_) (by show decide (wdK k = wdK k) = true; rw [decide_eq_true_eq]) hk
    show decide (wdK j = wdK k) = false
    rw [decide_eq_false_iff_not]
    intro q
    have := wdK_inj j (by omega) k hk q
    omega
  · intro e
    have := fa_first_yes (fun k => decide (wdK k = w)) 20 (by unfold wkN at e; omega)
    have h2 : decide (wdK (wkN w) = w) = true := this
    rw [e, decide_eq_true_eq] at h2
    exact h2
section
variable {N n : Nat} {b : Nat → Nat} {M : mS}
theorem mat_y (h : tpQ n b M) {i : Nat} (hi : i < n) : Mo_byteAt N (nI i) M = some (nI (b i)) := by
  obtain ⟨h1, h2, h3⟩ := h
  unfold Mo_byteAt
  rw [h2, if_neg (by rw [leP (by omega) (by omega)]; omega), grd_in (by omega) (by omega), clp (by omega), (h3 i hi).1]
theorem mat_n (h : tpQ n b M) {i : Nat} (hi : n ≤ i) (hi2 : i < 100000) : Mo_byteAt N (nI i) M = some (nI 0) := by
  obtain ⟨h1, h2, h3⟩ := h
  unfold Mo_byteAt
  rw [h2, if_pos (by rw [leP (by omega) (by omega)]; omega)]; rfl
theorem mat_s (h : tpQ n b M) {i : Nat} (hi2 : i < 100000) : ∃ r, Mo_byteAt N (nI i) M = some r := by
  by_cases q : i < n
  · exact ⟨_, mat_y h q⟩
  · exact ⟨_, mat_n h (by omega) hi2⟩
theorem token_s {k : Nat} {v : Int32} {x : Int64} (ht : TOKM n b k M) (hk : k ≤ 401) (hv : tkD n b k = 21 → v = nI (tkV n b k)) (hx : tkD n b k ≤ 20 → x = lN (krd 27 (tkW n b k))) : ∃ A, Mo_token N (nI (mkK (tkD n b k))) (nI (tkP n b k)) v x M = some A ∧ TOKM n b (k + 1) A ∧ frK M A := by
  refine ⟨mWI (mWL (mWI (mWI (mWI M 67 k (nI (mkK (tkD n b k)))) 68 k (nI (tkP n b k))) 69 k v) 70 k x) 64 10 (nI (k + 1)), ?_, ⟨rI rfl, fun i hi => ?_⟩, ?_⟩
  · unfold Mo_token
    simp (disch := omega) only [ht.1, grd_in, clp, nxs, mWI_ne, mWL_I]
    rw [show nI k + 1 = nI (k + 1) from nI_add k 1]
  · by_cases e : i = k
    · subst e
      refine ⟨?_, ?_, fun q => ?_, fun q => ?_⟩
      · rw [mWI_ne (by omega), mWL_I, mWI_ne (by omega), mWI_ne (by omega), rI rfl]
      · rw [mWI_ne (by omega), mWL_I, mWI_ne (by omega), rI rfl]
      · rw [mWI_ne (by omega), mWL_I, rI rfl]; exact hv q
      · rw [mWI_L, rL rfl]; exact hx q
    · obtain ⟨g1, g2, g3, g4⟩ := ht.2 i (by omega)
      refine ⟨?_, ?_, fun q => ?_, fun q => ?_⟩
      · rw [mWI_ne (by omega), mWL_I, mWI_ne (by omega), mWI_ne (by omega), rN (by omega)]; exact g1
      · rw [mWI_ne (by omega), mWL_I, mWI_ne (by omega), rN (by omega), mWI_ne (by omega)]; exact g2
      · rw [mWI_ne (by omega), mWL_I, rN (by omega), mWI_ne (by omega), mWI_ne (by omega)]; exact g3 q
      · rw [mWI_L, rLN (by omega)]; exact g4 q
  · refine ⟨fun a j q1 q2 q3 q4 => ?_, fun a j q => ?_⟩
    · rw [rN q4, mWL_I, mWI_ne q3, mWI_ne q2, mWI_ne q1]
    · rw [mWI_L, mWL_ne q]; rfl
theorem sign_s {x : Nat} {a c : Int32} (hx : x < 256) : Mo_sign N a (nI x) c M = Mo_sign_95 N a (nI (mkK (sgN x))) M := by
  by_cases h : x = 59 ∨ x = 61 ∨ x = 43 ∨ x = 45 ∨ x = 42 ∨ x = 47 ∨ x = 60 ∨ x = 40 ∨ x = 41
  · rcases h with rfl | rfl | rfl | rfl | rfl | rfl | rfl | rfl | rfl <;> rfl
  · have e : ∀ j, j < 256 → x ≠ j → ¬ nI x = nI j := fun j hj q => by rw [eqP (by omega) (by omega)]; exact q
    have eK : sgN x = 32 := by
      unfold sgN
      rw [if_neg (by omega), if_neg (by omega), if_neg (by omega), if_neg (by omega), if_neg (by omega), if_neg (by omega), if_neg (by omega), if_neg (by omega), if_neg (by omega)]
    rw [eK, Mo_sign, if_neg (show ¬ nI x = 59 from e 59 (by omega) (by omega)), if_neg (show ¬ nI x = 61 from e 61 (by omega) (by omega)), if_neg (show ¬ nI x = 40 from e 40 (by omega) (by omega)), if_neg (show ¬ nI x = 41 from e 41 (by omega) (by omega)), Mo_sign_43, if_neg (show ¬ nI x = 43 from e 43 (by omega) (by omega)), Mo_sign_55, if_neg (show ¬ nI x = 45 from e 45 (by omega) (by omega)), Mo_sign_65, if_neg (show ¬ nI x = 42 from e 42 (by omega) (by omega)), Mo_sign_75, if_neg (show ¬ nI x = 47 from e 47 (by omega) (by omega)), Mo_sign_85, if_neg (show ¬ nI x = 60 from e 60 (by omega) (by omega))]
    rfl
theorem wk_M {k7 : Int32 → mS → Option mS} {p l : Nat} {w : List Nat} (hN : 5000 ≤ N) (hk : ∀ k, k < 20 → M.2 71 k = kM k) (hw : wOk w) : Mo_cut_146 N k7 N (nI p) (nI l) (lN (krd 27 w)) 1 0 M = Mo_cut_179 N k7 (nI p) (nI l) (lN (krd 27 w)) (nI (mkK (wkN w))) M := by
  have h20 := wkN_le w
  refine iter (F := fun f k (s : Int32) => Mo_cut_146 N k7 f (nI p) (nI l) (lN (krd 27 w)) s (nI k) M) (i := 0) (f := N) (s := (1 : Int32)) (n := 20) (Q := fun r => r = Mo_cut_179 N k7 (nI p) (nI l) (lN (krd 27 w)) (nI (mkK (wkN w))) M) (fun k s => s = if wkN w < k then nI (mkK (wkN w)) else 1) ?_ ?_ (by omega) (by omega) rfl
  · rintro f k s hk2 rfl
    refine Or.inl ⟨_, rfl, ?_⟩
    rw [Mo_cut_146, if_neg (by rw [show (20 : Int32) = nI 20 from rfl, leP (by omega) (by omega)]; omega), grd_in (by omega) (by omega), clp (by omega), hk k hk2, wdK_M k hk2]
    unfold Mo_cut_173
    rw [show nI k + 1 = nI (k + 1) from nI_add k 1]
    by_cases z : wdK k = w
    · have e := (wkN_iff hk2).mp z
      rw [if_pos (by rw [lg_cmp_eq, z]), nxs, if_pos (show wkN w < k + 1 by omega), e]
      unfold mkK
      rw [if_pos hk2, show (20 : Int32) + nI k = nI (20 + k) from nI_add 20 k]
    · have e : ¬ wkN w = k := fun q => z ((wkN_iff hk2).mpr q)
      rw [if_neg (by rw [lg_cmp_eq, krd_eq (by omega) (by omega) (wdK_ok hk2) hw]; exact z)]
      by_cases y : wkN w < k
      · rw [if_pos y, if_pos (by omega)]
      · rw [if_neg y, if_neg (by omega)]
  · intro f s hs
    have hs : s = if wkN w < 20 then nI (mkK (wkN w)) else 1 := hs
    rw [Mo_cut_146, if_pos (by decide)]
    by_cases y : wkN w < 20
    · rw [if_pos y] at hs
      rw [hs]
    · rw [if_neg y] at hs
      rw [hs, show wkN w = 20 by omega]; rfl
theorem word_M {k7 : Int32 → mS → Option mS} {p : Nat} (hN : 5000 ≤ N) (h : tpQ n b M) (hk : ∀ k, k < 20 → M.2 71 k = kM k) (hp : p < n) (hL : isL (b p) = true) : ∃ x, Mo_cut_85 N k7 N (nI p) 0 0 M = Mo_cut_179 N k7 (nI p) (nI (tkL n b p)) x (nI (mkK (tkK n b p))) M ∧ (tkK n b p ≤ 20 → x = lN (krd 27 (wrd b p (tkL n b p)))) := by
  have h1 := h.1
  have eL : tkL n b p = rnP isL n b p := by unfold tkL; rw [if_neg (by omega), if_pos hL]
  have r2 := rnP_le (p := isL) (n := n) (b := b) (i := p)
  have r1 := rnP_pos (p := isL) hp hL
  have last : ∀ f x, Mo_cut_85 N k7 (f + 1) (nI p) (nI (rnP isL n b p)) x M = if rnP isL n b p ≤ 8 then Mo_cut_135 N k7 (nI p) (nI (rnP isL n b p)) x 1 M else Mo_cut_135 N k7 (nI p) (nI (rnP isL n b p)) x 3 M := by
    intro f x
    have : ∃ y, y < 256 ∧ Mo_byteAt N (nI (p + rnP isL n b p)) M = some (nI y) ∧ ¬ isL y = true := by
      by_cases z : p + rnP isL n b p < n
      · exact ⟨_, (h.2.2 _ z).2, mat_y h z, rnP_e z⟩
      · exact ⟨0, by omega, mat_n h (by omega) (by omega), by decide⟩
    obtain ⟨y, y1, y2, y3⟩ := this
    rw [Mo_cut_85, nI_add, y2, bRs, isL_M y1, if_neg y3, if_pos rfl]
    by_cases z : rnP isL n b p ≤ 8
    · rw [if_pos z, if_pos (by rw [show (8 : Int32) = nI 8 from rfl, leP (by omega) (by omega)]; exact z)]
    · rw [if_neg z, if_neg (by rw [show (8 : Int32) = nI 8 from rfl, leP (by omega) (by omega)]; exact z)]
  have key : ∃ x, Mo_cut_85 N k7 N (nI p) 0 0 M = (if rnP isL n b p ≤ 8 then Mo_cut_135 N k7 (nI p) (nI (rnP isL n b p)) x 1 M else Mo_cut_135 N k7 (nI p) (nI (rnP isL n b p)) x 3 M) ∧ (rnP isL n b p ≤ 8 → x = lN (krd 27 (wrd b p (rnP isL n b p)))) := by
    refine iter (F := fun f k (s : Int64) => Mo_cut_85 N k7 f (nI p) (nI k) s M) (i := 0) (f := N) (s := (0 : Int64)) (n := rnP isL n b p) (Q := fun r => ∃ x, r = (if rnP isL n b p ≤ 8 then Mo_cut_135 N k7 (nI p) (nI (rnP isL n b p)) x 1 M else Mo_cut_135 N k7 (nI p) (nI (rnP isL n b p)) x 3 M) ∧ (rnP isL n b p ≤ 8 → x = lN (krd 27 (wrd b p (rnP isL n b p))))) (fun k s => k ≤ 8 → s = lN (krd 27 (wrd b p k))) ?_ ?_ (by omega) (by omega) (fun _ => rfl)
    · intro f k s hk2 hs
      have w := rnP_p hk2
      have w2 := isL_t.mp w
      have hb := (h.2.2 (p + k) (by omega)).2
      by_cases z : 8 ≤ k
      · refine Or.inl ⟨s, fun q => absurd q (by omega), ?_⟩
        rw [Mo_cut_85, nI_add, mat_y h (by omega), bRs, isL_M hb, if_pos w, if_neg (by decide), if_pos (by rw [show (8 : Int32) = nI 8 from rfl, leP (by omega) (by omega)]; omega)]
        unfold Mo_cut_118
        rw [show nI k + 1 = nI (k + 1) from nI_add k 1]
      · refine Or.inl ⟨lN (krd 27 (wrd b p (k + 1))), fun _ => rfl, ?_⟩
        have hs := hs (by omega)
        subst hs
        rw [Mo_cut_85, nI_add, mat_y h (by omega), bRs, isL_M hb, if_pos w, if_neg (by decide), if_neg (by rw [show (8 : Int32) = nI 8 from rfl, leP (by omega) (by omega)]; omega), bRs, nxs]
        unfold Mo_cut_118 Mo_appends
        rw [show nI k + 1 = nI (k + 1) from nI_add k 1, if_neg (by rw [show (0 : Int32) = nI 0 from rfl, eqP (by omega) (by omega)]; omega), show nI (b (p + k)) - 97 = nI (b (p + k) - 97) from sbP (b := 97) (by omega), show nI (b (p + k) - 97) + 1 = nI (b (p + k) - 97 + 1) from nI_add _ 1, nI_l (by omega), show (27 : Int64) * lN (krd 27 (wrd b p k)) = lN (27 * krd 27 (wrd b p k)) from lN_mul 27 _, lN_add]
        show Mo_cut_85 N k7 f (nI p) (nI (k + 1)) _ M = Mo_cut_85 N k7 f (nI p) (nI (k + 1)) (lN (krd 27 (wrd b p k) * 27 + (b (p + k) - 96))) M
        rw [show 27 * krd 27 (wrd b p k) + (b (p + k) - 97 + 1) = krd 27 (wrd b p k) * 27 + (b (p + k) - 96) by omega]
    · intro f s hs
      exact ⟨s, last f s, hs⟩
  obtain ⟨x, ex, hx⟩ := key
  refine ⟨x, ?_, fun q => ?_⟩
  · rw [ex, eL]
    unfold tkK Mo_cut_135
    rw [if_neg (show ¬ n ≤ p by omega), if_pos hL]
    by_cases z : rnP isL n b p ≤ 8
    · rw [if_pos z, if_pos z, if_neg (by rw [show (8 : Int32) = nI 8 from rfl, ltP (by omega) (by omega)]; omega), hx z, wk_M hN hk (wrd_ok z (fun k hk => rnP_p hk))]
    · rw [if_neg z, if_neg z, if_pos (by rw [show (8 : Int32) = nI 8 from rfl, ltP (by omega) (by omega)]; omega)]
      rfl
  · rw [eL]; exact hx (tkK_w q).2.2.1
theorem numb_M {k7 : Int32 → mS → Option mS} {p : Nat} (hN : 5000 ≤ N) (h : tpQ n b M) (hp : p < n) (hL : ¬ isL (b p) = true) (hD : isD (b p) = true) : ∃ x, Mo_cut_208 N k7 N (nI p) 0 0 M = Mo_cut_261 N k7 (nI p) (nI (tkL n b p)) x (nI (mkK (tkK n b p))) M ∧ (tkK n b p = 21 → x = nI (num b p (tkL n b p))) := by
  have h1 := h.1
  have eL : tkL n b p = rnP isD n b p := by unfold tkL; rw [if_neg (by omega), if_neg hL, if_pos hD]
  have r2 := rnP_le (p := isD) (n := n) (b := b) (i := p)
  have r1 := rnP_pos (p := isD) hp hD
  have last : ∀ f x, Mo_cut_208 N k7 (f + 1) (nI p) (nI (rnP isD n b p)) x M = if rnP isD n b p ≤ 4 then Mo_cut_261 N k7 (nI p) (nI (rnP isD n b p)) x 2 M else Mo_cut_261 N k7 (nI p) (nI (rnP isD n b p)) x 3 M := by
    intro f x
    have : ∃ y, y < 256 ∧ Mo_byteAt N (nI (p + rnP isD n b p)) M = some (nI y) ∧ ¬ isD y = true := by
      by_cases z : p + rnP isD n b p < n
      · exact ⟨_, (h.2.2 _ z).2, mat_y h z, rnP_e z⟩
      · exact ⟨0, by omega, mat_n h (by omega) (by omega), by decide⟩
    obtain ⟨y, y1, y2, y3⟩ := this
    rw [Mo_cut_208, nI_add, y2, bRs, isD_M y1, if_neg y3, if_pos rfl]
    by_cases z : rnP isD n b p ≤ 4
    · rw [if_pos z, if_pos (by rw [show (4 : Int32) = nI 4 from rfl, leP (by omega) (by omega)]; exact z)]
    · rw [if_neg z, if_neg (by rw [show (4 : Int32) = nI 4 from rfl, leP (by omega) (by omega)]; exact z)]
  have key : ∃ x, Mo_cut_208 N k7 N (nI p) 0 0 M = (if rnP isD n b p ≤ 4 then Mo_cut_261 N k7 (nI p) (nI (rnP isD n b p)) x 2 M else Mo_cut_261 N k7 (nI p) (nI (rnP isD n b p)) x 3 M) ∧ (rnP isD n b p ≤ 4 → x = nI (num b p (rnP isD n b p))) := by
    refine iter (F := fun f k (s : Int32) => Mo_cut_208 N k7 f (nI p) (nI k) s M) (i := 0) (f := N) (s := (0 : Int32)) (n := rnP isD n b p) (Q := fun r => ∃ x, r = (if rnP isD n b p ≤ 4 then Mo_cut_261 N k7 (nI p) (nI (rnP isD n b p)) x 2 M else Mo_cut_261 N k7 (nI p) (nI (rnP isD n b p)) x 3 M) ∧ (rnP isD n b p ≤ 4 → x = nI (num b p (rnP isD n b p)))) (fun k s => k ≤ 4 → s = nI (num b p k)) ?_ ?_ (by omega) (by omega) (fun _ => rfl)
    · intro f k s hk2 hs
      have w := rnP_p hk2
      have w2 := isD_t.mp w
      have hb := (h.2.2 (p + k) (by omega)).2
      by_cases z : 4 ≤ k
      · refine Or.inl ⟨s, fun q => absurd q (by omega), ?_⟩
        rw [Mo_cut_208, nI_add, mat_y h (by omega), bRs, isD_M hb, if_pos w, if_neg (by decide), if_pos (by rw [show (4 : Int32) = nI 4 from rfl, leP (by omega) (by omega)]; omega)]
        unfold Mo_cut_244
        rw [show nI k + 1 = nI (k + 1) from nI_add k 1]
      · refine Or.inl ⟨nI (num b p (k + 1)), fun _ => rfl, ?_⟩
        have hs := hs (by omega)
        subst hs
        rw [Mo_cut_208, nI_add, mat_y h (by omega), bRs, isD_M hb, if_pos w, if_neg (by decide), if_neg (by rw [show (4 : Int32) = nI 4 from rfl, leP (by omega) (by omega)]; omega), bRs, nxs]
        unfold Mo_cut_244
        rw [show nI k + 1 = nI (k + 1) from nI_add k 1, show (10 : Int32) * nI (num b p k) = nI (10 * num b p k) from pk_mul 10 _, nI_add, show nI (10 * num b p k + b (p + k)) - 48 = nI (10 * num b p k + b (p + k) - 48) from sbP (b := 48) (by omega)]
        show Mo_cut_208 N k7 f (nI p) (nI (k + 1)) _ M = Mo_cut_208 N k7 f (nI p) (nI (k + 1)) (nI (num b p k * 10 + (b (p + k) - 48))) M
        rw [show 10 * num b p k + b (p + k) - 48 = num b p k * 10 + (b (p + k) - 48) by omega]
    · intro f s hs
      exact ⟨s, last f s, hs⟩
  obtain ⟨x, ex, hx⟩ := key
  refine ⟨x, ?_, fun q => ?_⟩
  · rw [ex, eL]
    unfold tkK
    rw [if_neg (show ¬ n ≤ p by omega), if_neg hL, if_pos hD]
    by_cases z : rnP isD n b p ≤ 4
    · rw [if_pos z, if_pos z]; rfl
    · rw [if_neg z, if_neg z]; rfl
  · rw [eL]; exact hx (tkK_d q).2.2.2.1
theorem cutM {N n : Nat} {b : Nat → Nat} {M : mS} (hN : 5000 ≤ N) (h : tpQ n b M) (hk : ∀ k, k < 20 → M.2 71 k = kM k) : ∃ A m, Mo_cut N M = some A ∧ TOKM n b m A ∧ m ≤ 401 ∧ (m < 401 → 1 ≤ m ∧ 31 ≤ tkD n b (m - 1)) ∧ frK M A := by
  have hn := h.1
  unfold Mo_cut
  rw [nxs]
  have f0 : frK M (mWI M 64 10 0) := ⟨fun a j q1 q2 q3 q4 => rN q4, fun _ _ _ => rfl⟩
  refine iterm (F := fun f (s : Nat × Nat × mS) => Mo_cut_7 N f (nI s.1) s.2.2) (f := N) (s := (0, 0, mWI M 64 10 0)) (Q := fun r => ∃ A m, r = some A ∧ TOKM n b m A ∧ m ≤ 401 ∧ (m < 401 → 1 ≤ m ∧ 31 ≤ tkD n b (m - 1)) ∧ frK M A)
    (fun s => s.1 ≤ n ∧ nbP n b s.1 = tkP n b s.2.1 ∧ s.2.1 ≤ 401 ∧ TOKM n b s.2.1 s.2.2 ∧ frK M s.2.2) (fun s => n - s.1) ?_ (by dsimp only; omega) ⟨Nat.zero_le _, rfl, by dsimp only; omega, ⟨rI rfl, fun i hi => absurd hi (by dsimp only at hi; omega)⟩, f0⟩
  rintro f ⟨i, k, t⟩ ⟨h1, h2, h3, h4, h5⟩
  dsimp only at h1 h2 h3 h4 h5 ⊢
  have hQ := h5.tpQ h
  by_cases z : k = 401
  · refine Or.inr ⟨t, k, ?_, h4, by omega, fun q => absurd q (by omega), h5⟩
    rw [Mo_cut_7, h4.1, if_pos (by rw [show (400 : Int32) = nI 400 from rfl, ltP (by omega) (by omega)]; omega)]
  · obtain ⟨r22, e22⟩ := mat_s (N := N) hQ (i := i) (by omega)
    have hd : Mo_cut_7 N (f + 1) (nI i) t = (bR (Mo_byteAt N (nI i) t) fun r22 => if nI i < (t.1 64 4) then (if r22 = 9 then (Mo_cut_67 N (Mo_cut_7 N f) (nI i) t) else (if r22 = 10 then (Mo_cut_67 N (Mo_cut_7 N f) (nI i) t) else (if r22 = 13 then (Mo_cut_67 N (Mo_cut_7 N f) (nI i) t) else (if r22 = 32 then (Mo_cut_67 N (Mo_cut_7 N f) (nI i) t) else (if (Mo_isLetter r22 t) = 0 then (if (Mo_isDigit r22 t) = 0 then (bR (Mo_byteAt N (nI i + 1) t) fun r26 => bW (Mo_sign N (nI i) r22 r26 t) fun r29 M28 => nxt (nI i + r29) fun v30 => Mo_cut_291 N (Mo_cut_7 N f) v30 M28) else (Mo_cut_208 N (Mo_cut_7 N f) N (nI i) 0 0 t)) else (Mo_cut_85 N (Mo_cut_7 N f) N (nI i) 0 0 t)))))) else (bV (Mo_token N 0 (t.1 64 4) 0 0 t) fun M32 => some M32)) := by
      rw [Mo_cut_7, h4.1, if_neg (by rw [show (400 : Int32) = nI 400 from rfl, ltP (by omega) (by omega)]; omega)]
    by_cases y : i < n
    · rw [mat_y hQ y, bRs, hQ.2.1, if_pos (by rw [ltP (by omega) (by omega)]; omega)] at hd
      have hb := (hQ.2.2 i y).2
      by_cases zB : isB (b i) = true
      · refine Or.inl ⟨(i + 1, k, t), ⟨by dsimp only; omega, by dsimp only; rw [← nbP_b y zB]; exact h2, h3, h4, h5⟩, by dsimp only; omega, ?_⟩
        rw [hd]
        unfold Mo_cut_67 Mo_cut_291
        dsimp only
        rw [show nI i + 1 = nI (i + 1) from nI_add i 1]
        rcases isB_t.mp zB with q | q | q | q <;> rw [q] <;> rfl
      · have ei : tkP n b k = i := by rw [← h2, nbP_n y zB]
        have nb := fun q => zB (isB_t.mpr q)
        have hd2 := hd
        rw [if_neg (show ¬ nI (b i) = 9 from fun q => nb (Or.inl ((nI_eq (by omega) (by omega)).mp q))), if_neg (show ¬ nI (b i) = 10 from fun q => nb (Or.inr (Or.inl ((nI_eq (by omega) (by omega)).mp q)))), if_neg (show ¬ nI (b i) = 13 from fun q => nb (Or.inr (Or.inr (Or.inl ((nI_eq (by omega) (by omega)).mp q))))), if_neg (show ¬ nI (b i) = 32 from fun q => nb (Or.inr (Or.inr (Or.inr ((nI_eq (by omega) (by omega)).mp q))))), isL_M hb, isD_M hb] at hd2
        obtain ⟨l1, l2, l3⟩ := tkL_b (b := b) (Nat.le_of_lt y) hn
        have fin : ∀ A, TOKM n b (k + 1) A → frK t A → Mo_cut_7 N (f + 1) (nI i) t = Mo_cut_7 N f (nI (i + tkL n b i)) A → (∃ s' : Nat × Nat × mS, (s'.1 ≤ n ∧ nbP n b s'.1 = tkP n b s'.2.1 ∧ s'.2.1 ≤ 401 ∧ TOKM n b s'.2.1 s'.2.2 ∧ frK M s'.2.2) ∧ n - s'.1 < n - i ∧ Mo_cut_7 N (f + 1) (nI i) t = Mo_cut_7 N f (nI s'.1) s'.2.2) := by
          intro A a1 a2 a3
          exact ⟨(i + tkL n b i, k + 1, A), ⟨l3 y, by show _ = nbP n b (tkP n b k + tkL n b (tkP n b k)); rw [ei], by dsimp only; omega, a1, h5.trans a2⟩, by dsimp only; omega, a3⟩
        by_cases zL : isL (b i) = true
        · rw [if_pos zL, if_neg (by decide)] at hd2
          obtain ⟨x, ex, hx⟩ := word_M (N := N) (k7 := Mo_cut_7 N f) hN hQ (fun k hk2 => by rw [h5.2 71 k (by omega)]; exact hk k hk2) y zL
          obtain ⟨A, eA, tA, fA⟩ := token_s (N := N) (v := 0) (x := x) h4 (by omega) (fun q => by have := (tkK_d q).2.1; rw [ei] at this; exact absurd zL this) (fun q => by unfold tkW; rw [ei]; exact hx (by unfold tkD at q; rw [ei] at q; exact q))
          refine Or.inl (fin A tA fA ?_)
          rw [hd2]
          unfold tkD at eA
          rw [ei] at eA
          rw [ex]
          unfold Mo_cut_179
          rw [eA, bVs, nxs, nI_add]
          rfl
        · rw [if_neg zL, if_pos (by decide)] at hd2
          by_cases zD : isD (b i) = true
          · rw [if_pos zD, if_neg (by decide)] at hd2
            obtain ⟨x, ex, hx⟩ := numb_M (N := N) (k7 := Mo_cut_7 N f) hN hQ y zL zD
            obtain ⟨A, eA, tA, fA⟩ := token_s (N := N) (v := x) (x := 0) h4 (by omega) (fun q => by unfold tkV; rw [ei]; exact hx (by unfold tkD at q; rw [ei] at q; exact q)) (fun q => by have := (tkK_w q).2.1; rw [ei] at this; exact absurd this zL)
            refine Or.inl (fin A tA fA ?_)
            rw [hd2]
            unfold tkD at eA
            rw [ei] at eA
            rw [ex]
            unfold Mo_cut_261
            rw [eA, bVs, nxs, nI_add]
            rfl
          · rw [if_neg zD, if_pos (by decide)] at hd2
            obtain ⟨r26, e26⟩ := mat_s (N := N) hQ (i := i + 1) (by omega)
            have eK : tkD n b k = sgN (b i) := by
              unfold tkD tkK
              rw [ei, if_neg (by omega), if_neg zL, if_neg zD]
            have eL : tkL n b i = 1 := by unfold tkL; rw [if_neg (by omega), if_neg zL, if_neg zD]
            have hs := sgN_r (b i)
            obtain ⟨A, eA, tA, fA⟩ := token_s (N := N) (v := 0) (x := 0) h4 (by omega) (fun q => by omega) (fun q => by omega)
            refine Or.inl (fin A tA fA ?_)
            rw [hd2, show nI i + 1 = nI (i + 1) from nI_add i 1, e26, bRs, sign_s hb]
            unfold Mo_sign_95
            rw [eK, ei] at eA
            rw [eA, bVs, bWs, nxs, show nI i + 1 = nI (i + 1) from nI_add i 1, eL]
            rfl
    · have ei : i = n := by omega
      subst ei
      have eP : tkP i b k = i := by rw [← h2, nbP_e (Nat.le_refl _)]
      have eK : tkD i b k = 31 := by unfold tkD tkK; rw [eP, if_pos (Nat.le_refl _)]
      obtain ⟨A, eA, tA, fA⟩ := token_s (N := N) (v := 0) (x := 0) h4 (by omega) (fun q => by omega) (fun q => by omega)
      refine Or.inr ⟨A, k + 1, ?_, tA, by omega, fun _ => ⟨by omega, by rw [Nat.add_sub_cancel, eK]; omega⟩, h5.trans fA⟩
      rw [eK, eP] at eA
      rw [hd, mat_n hQ (Nat.le_refl _) (by omega), bRs, hQ.2.1, if_neg (by rw [ltP (by omega) (by omega)]; omega), show (0 : Int32) = nI (mkK 31) from rfl]
      rw [show nI (mkK 31) = 0 from rfl] at eA ⊢
      rw [eA, bVs]
end
