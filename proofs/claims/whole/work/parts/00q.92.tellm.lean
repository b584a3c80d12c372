/-! A TELL read: the model; the loops over tells -/
def frSd (v : Nat) (M A : mS) : Prop := (∀ a j, (a < 64 ∨ (65 ≤ a ∧ a ≤ 72) ∨ 93 ≤ a ∨ (a = 64 ∧ (j ≤ 10 ∨ (17 ≤ j ∧ j ≤ 19) ∨ 45 ≤ j)) ∨ ((a = 74 ∨ a = 75 ∨ a = 78 ∨ a = 82) ∧ j ≠ v) ∨ ((a = 76 ∨ a = 77) ∧ (j < 4 * v ∨ 4 * v + 4 ≤ j)) ∨ ((79 ≤ a ∧ a ≤ 81) ∧ (j < 5 * v ∨ 5 * v + 5 ≤ j)) ∨ ((a = 83 ∨ a = 84) ∧ (j < 4 * v ∨ 4 * v + 4 ≤ j)) ∨ (85 ≤ a ∧ a ≤ 89 ∧ (j < 130 * v ∨ 130 * v + 130 ≤ j)) ∨ ((a = 90 ∨ a = 91) ∧ (j < 420 * v ∨ 420 * v + 420 ≤ j))) → A.1 a j = M.1 a j) ∧ ∀ a j, a ≠ 72 → A.2 a j = M.2 a j
theorem frSd.refl {v : Nat} {M : mS} : frSd v M M := ⟨fun _ _ _ => rfl, fun _ _ _ => rfl⟩
theorem frSd.trans {v : Nat} {A B C : mS} (h : frSd v A B) (g : frSd v B C) : frSd v A C := ⟨fun a j q => (g.1 a j q).trans (h.1 a j q), fun a j q => (g.2 a j q).trans (h.2 a j q)⟩
theorem frZ.frSd {v : Nat} {M A : mS} (h : frZ v M A) : frSd v M A := ⟨fun a j q => h.1 a j (by omega) (by omega), h.2⟩
theorem frJ.frSd {v k nb c : Nat} {M A : mS} (h : frJ v (4 * v + k) nb c M A) (hk : k < 4) (h1 : 130 * v ≤ nb) (h2 : 420 * v ≤ c) : frSd v M A := ⟨fun a j q => h.1 a j (by omega), fun a j _ => by rw [h.2]⟩
theorem frN.frSd {v : Nat} {M A : mS} (h : frN M A) : frSd v M A := h.frZ.frSd
def KM (T : ctx) (v t : Nat) (s : Nat × Nat) (d : drf) (tol : bok) (M : mS) : Prop := NM T t s M ∧ DM v d s M ∧ M.1 64 12 = 0 ∧ ∃ nb c, M.1 64 34 = nI nb ∧ M.1 64 40 = nI c ∧ 130 * v ≤ nb ∧ 4 * nb ≤ 520 * v + t ∧ 420 * v ≤ c ∧ c ≤ 420 * v + t ∧ BM v tol nb c M
def gTm (T : ctx) (v : Nat) (M : mS) (x : Except (Nat × Nat) (tst × bok)) (res : Option mS) : Prop := match x with
  | .ok (r, tol') => ∃ A, res = some A ∧ KM T v r.1 r.2.1 r.2.2 tol' A ∧ frSd v M A
  | .error e => ∃ A, res = some A ∧ FM T e A ∧ frSd v M A
section
variable {N : Nat} {T : ctx} {M : mS} {t v : Nat} {s e : Nat × Nat} {tol : bok} {d : drf}
theorem aEnd_u {x : Except (Nat × Nat) tst} {r : tst} (h : aEnd T x = .ok r) (hu : ∀ r, x = .ok r → t ≤ r.1) : t ≤ r.1 := by
  unfold aEnd at h
  obtain ⟨r0, h1, h⟩ := eB_ok h
  obtain ⟨u, h2, h⟩ := eB_ok h
  injection h with h
  rw [← h]
  have := hu r0 h1
  have := aT_u h2
  show t ≤ u
  omega
theorem plain_M {x : Except (Nat × Nat) tst} {res : Option mS} (hK : KM T v t s d tol M) (hx : match x with
    | .ok (u, s', d') => ∃ A, res = some A ∧ NM T u s' A ∧ DM v d' s' A ∧ frZ v M A
    | .error e => ∃ A, res = some A ∧ FM T e A ∧ frZ v M A) (hu : ∀ r, x = .ok r → t ≤ r.1) : gTm T v M (eB x fun r => .ok (r, tol)) res := by
  obtain ⟨k1, k2, k3, nb, c, k4, k5, k6, k7, k8, k9, k10⟩ := hK
  cases x with
  | error e =>
    obtain ⟨A, e1, e2, e3⟩ := hx
    exact ⟨A, e1, e2, e3.frSd⟩
  | ok r =>
    obtain ⟨u, s', d'⟩ := r
    obtain ⟨A, e1, e2, e3, e4⟩ := hx
    have tu : t ≤ u := hu _ rfl
    exact ⟨A, e1, ⟨e2, e3, (e4.1 64 12 (by omega) (by omega)).trans k3, nb, c, (e4.1 64 34 (by omega) (by omega)).trans k4, (e4.1 64 40 (by omega) (by omega)).trans k5, k6, by show 4 * nb ≤ 520 * v + u; omega, k8, by show c ≤ 420 * v + u; omega, BM_fr k10 (fun a j q _ _ => e4.1 a j (by omega) (by omega)) (fun a j q1 q2 _ _ => e4.1 a j (by omega) (by omega)) (fun a j q _ _ => e4.1 a j (by omega) (by omega))⟩, e4.frSd⟩
theorem mk_law0 : ∀ k, k < 33 → ((¬ (3 ≤ k ∧ k ≤ 6)) ∨ mkK k = k + 20) ∧ ((3 ≤ k ∧ k ≤ 6) ∨ k = 0 ∨ k = 1 ∨ k = 2 ∨ k = 7 ∨ mkK k < 23 ∨ 26 < mkK k) := by decide +kernel
theorem mk_law (k : Nat) (hk : k < 33) : (3 ≤ k ∧ k ≤ 6 → mkK k = k + 20) ∧ (¬ (3 ≤ k ∧ k ≤ 6) → k ≠ 0 → k ≠ 1 → k ≠ 2 → k ≠ 7 → mkK k < 23 ∨ 26 < mkK k) := by
  have h := mk_law0 k hk
  omega
theorem law_tell {k : Nat} {T : ctx} {t : Nat} {s : Nat × Nat} {d : drf} {tol : bok} : (eB (aT T t k) fun t1 => eB (eB (aT T t1 23) fun t2 => aLw T 4 t2) fun r => eB (aT T r.1 22) fun u => Except.ok (((u, s, d) : tst), upN tol (k - 3) (some r.2))) = eB (aT T t k) fun t1 => eB (eB (aT T t1 23) fun t2 => aLe T 4 t2) fun r => .ok ((r.1, s, d), upN tol (k - 3) (some r.2)) := by
  unfold aLe
  simp only [eB_as, eB_o]
theorem tell_M (hN : 5000 ≤ N) (hT : TF T) (h : KM T v t s d tol M) (h31 : ¬ cK T t = 31 ∨ True) : gTm T v M (aTell T d tol t s) (Mo_tellOne N M) := by
  obtain ⟨hn, hd, h12, nb, c, h34, h40, h5, h6, h7, h8, hB⟩ := id h
  have hv := hd.1
  have c2 := hT.2.1
  have hk := hT.2.2.1 t
  have ht := hn.2.1
  have hm := mkK_le (cK T t) (by omega)
  have ne : ∀ k, k ≤ 32 → cK T t ≠ k → ¬ nI (mkK (cK T t)) = nI (mkK k) := fun k hk2 q => by
    have := mkK_le k (by omega)
    rw [eqP (by omega) (by omega), mkK_inj hk hk2]; exact q
  unfold aTell
  rw [tell_eq, hn.2.2.1, grd_in (by omega) (by omega), clp (by omega), (hn.1 t ht).1]
  by_cases z0 : cK T t = 0
  · rw [if_pos z0, if_pos (by rw [z0]; rfl)]
    exact plain_M h (one_M (N := N) (a0 := 0) (lo := 2) (hi := 24) (c := 74) (d2 := dsH d) hT hn hd (by omega) z0 (by omega) (by omega) rfl rfl (by omega) (fun B s' x => DM_H)) (fun r q => aEnd_u q (fun r => aHo_u))
  · rw [if_neg z0, if_neg (show ¬ nI (mkK (cK T t)) = 20 from ne 0 (by omega) z0)]
    by_cases z1 : cK T t = 1
    · rw [if_pos z1, if_pos (by rw [z1]; rfl)]
      exact plain_M h (dial_M hN hT hn hd z1) (fun r q => aEnd_u q (fun r => aDi_u))
    · rw [if_neg z1, if_neg (show ¬ nI (mkK (cK T t)) = 21 from ne 1 (by omega) z1)]
      by_cases z2 : cK T t = 2
      · rw [if_pos z2, if_pos (by rw [z2]; rfl)]
        exact plain_M h (goer_M hN hT hn hd z2) (fun r q => aEnd_u q (fun r => aGo_u))
      · rw [if_neg z2, if_neg (show ¬ nI (mkK (cK T t)) = 22 from ne 2 (by omega) z2)]
        by_cases z7 : cK T t = 7
        · rw [if_pos z7, if_pos (by rw [z7]; rfl)]
          exact plain_M h (one_M (N := N) (a0 := 7) (lo := 0) (hi := 9999) (c := 82) (d2 := dsS d) hT hn hd (by omega) z7 (by omega) (by omega) rfl rfl (by omega) (fun B s' x => DM_S)) (fun r q => aEnd_u q (fun r => aSe_u))
        · rw [if_neg z7, if_neg (show ¬ nI (mkK (cK T t)) = 27 from ne 7 (by omega) z7), grd_in (by omega) (by omega), nxs, grd_in (by omega) (by omega)]
          by_cases zl : 3 ≤ cK T t ∧ cK T t ≤ 6
          · have mk := (mk_law (cK T t) (by omega)).1 zl
            rw [if_pos zl, law_tell, mk, show nI (cK T t + 20) - 23 = nI (cK T t - 3) by rw [show nI (cK T t + 20) - 23 = nI (cK T t + 20 - 23) from sbP (b := 23) (by omega), show cK T t + 20 - 23 = cK T t - 3 by omega], if_neg (nI_pos (by omega)), if_pos (by rw [show (26 : Int32) = nI 26 from rfl, leP (by omega) (by omega)]; omega)]
            unfold Mo_tellOne_366
            rw [hn.2.2.2.1, if_pos (by decide)]
            have go := rgoes_s (N := N) hT hn (a := cK T t) (by omega) rfl
            cases ea : aT T t (cK T t) with
            | error e =>
              rw [ea] at go
              obtain ⟨A, eA, fA, rA⟩ := go
              obtain ⟨n, rfl⟩ : ∃ n, N = n + 1 := ⟨N - 1, by omega⟩
              have a34 : A.1 64 34 = nI nb := (rA.1 64 34 (by omega)).trans h34
              obtain ⟨B, eB1, fB, rB⟩ := m12_f (N := n + 1) (f := n) (v := v) (x := 4 * v + (cK T t - 3)) (nb := nb) (c := c) (x1 := nI (cK T t - 3)) (x2 := nI nb) (x3 := 0) A ⟨hv, fA, nb, a34, by omega, by omega⟩
              refine ⟨B, ?_, fB, rA.frSd.trans (rB.frSd (by omega) h5 h7)⟩
              unfold Mo_tellLaw
              rw [eA, bVs, must_f fA, bVs, nxs, a34, eB1, bVs]
            | ok u =>
              rw [ea] at go
              obtain ⟨rfl, A, eA, nA, rA⟩ := go
              rw [eA, bVs, eB_o]
              have lw := tellLaw_M (N := N) (k := cK T t - 3) hN hT hv (by omega) nA ((rA.1 64 12 (by omega)).trans h12) ((rA.1 64 34 (by omega)).trans h34) ((rA.1 64 40 (by omega)).trans h40) ((rA.1 64 19 (by omega)).trans hd.2.1) (show c ≤ 420 * v + (t + 1) by omega) (show 4 * nb + 1 ≤ 520 * v + (t + 1) by omega)
              cases el : (eB (aT T (t + 1) 23) fun t1 => aLe T 4 t1) with
              | error e =>
                rw [el] at lw
                obtain ⟨B, e1, e2, e3⟩ := lw
                exact ⟨B, by rw [e1, bVs], e2, rA.frSd.trans (e3.frSd (by omega) h5 h7)⟩
              | ok r =>
                obtain ⟨u, bs, O⟩ := r
                rw [el] at lw
                obtain ⟨B, e1, ⟨g1, g2, g3, g4, g5, g6, g7, g8, p', g9, g10, g11, g12⟩, e3⟩ := lw
                dsimp only at g1 g2 g3 g4 g5 g6 g7 g8 g9 g10 g11 g12
                have fS := rA.frSd.trans (e3.frSd (by omega) h5 h7)
                refine ⟨B, by rw [e1, bVs], ⟨g2, ?_, g3, nb + bs.length + 1, p', g5, g9, by omega, g6, by omega, g11, ?_⟩, fS⟩
                · exact DM_fr (rA.DM hd (s' := s) id) id (fun a j q => e3.1 a j (by omega)) (fun j => by rw [e3.2])
                · intro i hi
                  by_cases y : i = cK T t - 3
                  · rw [y, upN_s]
                    exact ⟨g4, nb, g7, g8, h5, by show nb + bs.length < _; omega, brM_mono h7 (Nat.le_refl _) g12⟩
                  · rw [upN_n y]
                    have hb := hB i hi
                    cases et : tol i with
                    | none =>
                      rw [et] at hb
                      exact ⟨by rw [e3.1 83 _ (by omega), rA.1 83 _ (by omega)]; exact hb.1, by rw [e3.1 84 _ (by omega), rA.1 84 _ (by omega)]; exact hb.2⟩
                    | some w =>
                      rw [et] at hb
                      obtain ⟨w1, j, w2, w3, w4, w5, w6⟩ := hb
                      refine ⟨w1, j, by rw [e3.1 83 _ (by omega), rA.1 83 _ (by omega)]; exact w2, by rw [e3.1 84 _ (by omega), rA.1 84 _ (by omega)]; exact w3, w4, by omega, brM_mono (Nat.le_refl _) g10 (brM_fr w6 (fun a i q1 q2 q3 q4 => ?_) (fun a i q q1 q2 => ?_))⟩
                      · rw [e3.1 a i (by omega), rA.1 a i (by omega)]
                      · rw [e3.1 a i (by omega), rA.1 a i (by omega)]
          · rw [if_neg zl]
            obtain ⟨A, eA, fA, rA⟩ := fail_s (N := N) hT hn (x := 1) (by omega) (by omega)
            have e361 : ∀ y : Int32, Mo_tellOne_361 N y M = some A := fun y => by
              unfold Mo_tellOne_361 Mo_tellOne_366
              rw [show (1 : Int32) = nI 1 from rfl, eA, bVs, if_neg fA.pos.1]
            refine ⟨A, ?_, fA, rA.frSd⟩
            rcases (mk_law (cK T t) (by omega)).2 zl z0 z1 z2 z7 with y | y
            · have : nI (mkK (cK T t)) - 23 < 0 := by
                rw [fa_lt]
                have := pk_sub_toInt (a := mkK (cK T t)) (b := 23) (by omega) (by omega)
                rw [show nI (mkK (cK T t)) - 23 = nI (mkK (cK T t)) - nI 23 from rfl, this]
                show _ < (0 : Int)
                omega
              rw [if_pos this, e361]
            · by_cases w : nI (mkK (cK T t)) - 23 < 0
              · rw [if_pos w, e361]
              · rw [if_neg w, if_neg (by rw [show (26 : Int32) = nI 26 from rfl, leP (by omega) (by omega)]; omega), e361]
theorem aLw_u : ∀ {n t : Nat} {r : Nat × brs × oc}, aLw T n t = .ok r → t ≤ r.1 := by
  intro n
  induction n with
  | zero =>
    intro t r h
    rw [aLw] at h
    split at h
    · cases h
    · obtain ⟨x, h1, h⟩ := eB_ok h
      injection h with h
      rw [← h]
      have := aX_lt h1
      show t ≤ x.1
      omega
  | succ n ih =>
    intro t r h
    rw [aLw] at h
    split at h
    · obtain ⟨t1, h1, h⟩ := eB_ok h
      obtain ⟨a, h2, h⟩ := eB_ok h
      obtain ⟨t2, h3, h⟩ := eB_ok h
      obtain ⟨b, h4, h⟩ := eB_ok h
      obtain ⟨t3, h5, h⟩ := eB_ok h
      obtain ⟨c, h6, h⟩ := eB_ok h
      obtain ⟨t4, h7, h⟩ := eB_ok h
      obtain ⟨x, h8, h⟩ := eB_ok h
      injection h with h
      rw [← h]
      have := aT_u h1
      have := aT_u h3
      have := aT_u h5
      have := aT_u h7
      have := aX_lt h2
      have := aX_lt h4
      have := aX_lt h6
      have := ih h8
      show t ≤ x.1
      omega
    · obtain ⟨x, h1, h⟩ := eB_ok h
      injection h with h
      rw [← h]
      have := aX_lt h1
      show t ≤ x.1
      omega
/-! the loops -/
def aRd (T : ctx) : Nat → Nat → Nat × Nat → drf → bok → Except (Nat × Nat) (tst × bok)
  | 0, t, _, _, _ => .error (0, t)
  | n + 1, t, s, d, tol => if cK T t = 31 then .ok ((t, s, d), tol) else eB (aTell T d tol t s) fun r => aRd T n r.1.1 r.1.2.1 r.1.2.2 r.2
theorem check_l (hN : 5000 ≤ N) (hT : TF T) : ∀ {n t i f : Nat} {s : Nat × Nat} {d : drf} {tol : bok} {M : mS}, KC T t s d tol M → i ≤ t → 401 - t < n → 402 - t < f → match aRd T n t s d tol with
    | .ok (r, tol') => ∃ A, Rr_check_32 N f (nI i) M = Rr_check_72 N A ∧ KC T r.1 r.2.1 r.2.2 tol' A ∧ frR M A
    | .error e => ∃ A, Rr_check_32 N f (nI i) M = Rr_check_72 N A ∧ FC T e A ∧ frR M A := by
  intro n
  induction n with
  | zero => intro t i f s d tol M h hi hn; omega
  | succ n ih =>
    intro t i f s d tol M h hi hn hf
    have c2 := hT.2.1
    have hk := hT.2.2.1 t
    have hc := h.1
    have ht := hc.2.1
    obtain ⟨f, rfl⟩ : ∃ g, f = g + 2 := ⟨f - 2, by omega⟩
    rw [Rr_check_32, if_neg (by rw [show (400 : Int32) = nI 400 from rfl, ltP (by omega) (by omega)]; omega), if_pos hc.2.2.2.1, hc.2.2.1, kindOf_s hT hc.1 hc.2.1, bRs]
    unfold aRd
    by_cases z : cK T t = 31
    · rw [if_pos z, if_pos (by rw [z]; rfl)]
      exact ⟨M, rfl, h, frR.refl⟩
    · rw [if_neg z, if_neg (by rw [show (31 : Int32) = nI 31 from rfl, eqP (by omega) (by omega)]; exact z)]
      have te := tell_C (N := N) hN hT h
      cases ea : aTell T d tol t s with
      | error e =>
        rw [ea] at te
        obtain ⟨A, eA, fA, rA⟩ := te
        refine ⟨A, ?_, fA, rA⟩
        rw [eA, bVs, Rr_check_32, if_neg fA.ne]
        split <;> rfl
      | ok r =>
        obtain ⟨⟨u, s', d'⟩, tol'⟩ := r
        rw [ea] at te
        obtain ⟨tu, A, eA, kA, rA⟩ := te
        have tu : t + 1 ≤ u := tu
        have := kA.1.2.1
        rw [eB_o]
        have g := ih (t := u) (i := i + 1) (f := f + 1) kA (by omega) (by omega) (by omega)
        dsimp only
        rw [eA, bVs, show nI i + 1 = nI (i + 1) from nI_add i 1]
        cases el : aRd T n u s' d' tol' with
        | error e =>
          rw [el] at g
          obtain ⟨B, e1, e2, e3⟩ := g
          exact ⟨B, e1, e2, rA.trans e3⟩
        | ok r =>
          rw [el] at g
          obtain ⟨B, e1, e2, e3⟩ := g
          exact ⟨B, e1, e2, rA.trans e3⟩
theorem read_l (hN : 5000 ≤ N) (hT : TF T) : ∀ {n t f : Nat} {s : Nat × Nat} {d : drf} {tol : bok} {M : mS}, KM T v t s d tol M → 401 - t < n → 402 - t < f → match aRd T n t s d tol with
    | .ok (r, tol') => ∃ A, Mo_read_112 N f M = Mo_read_134 N A ∧ KM T v r.1 r.2.1 r.2.2 tol' A ∧ frSd v M A
    | .error e => ∃ A, Mo_read_112 N f M = Mo_read_134 N A ∧ FM T e A ∧ frSd v M A := by
  intro n
  induction n with
  | zero => intro t f s d tol M h hn; omega
  | succ n ih =>
    intro t f s d tol M h hn hf
    have c2 := hT.2.1
    have hk := hT.2.2.1 t
    have hc := h.1
    have ht := hc.2.1
    obtain ⟨f, rfl⟩ : ∃ g, f = g + 2 := ⟨f - 2, by omega⟩
    rw [Mo_read_112, if_pos hc.2.2.2.1, show Mo_is N 0 M = Mo_is N (nI (mkK 31)) M from rfl]
    unfold aRd
    by_cases z : cK T t = 31
    · rw [if_pos z, is_y hT hc (by omega) z, bRs, if_neg (by decide)]
      exact ⟨M, rfl, h, frSd.refl⟩
    · rw [if_neg z, is_n hT hc (by omega) z, bRs, if_pos rfl]
      have te := tell_M (N := N) hN hT h (Or.inr trivial)
      cases ea : aTell T d tol t s with
      | error e =>
        rw [ea] at te
        obtain ⟨A, eA, fA, rA⟩ := te
        refine ⟨A, ?_, fA, rA⟩
        rw [eA, bVs, Mo_read_112, if_neg fA.pos.2.1]
      | ok r =>
        obtain ⟨⟨u, s', d'⟩, tol'⟩ := r
        have tu : t + 1 ≤ u := by
          unfold aTell at ea
          have hh : ∀ {x : Except (Nat × Nat) tst}, (eB (aEnd T x) fun r => Except.ok (r, tol)) = .ok ((u, s', d'), tol') → (∀ r, x = .ok r → t ≤ r.1) → t + 1 ≤ u := by
            intro x hx hu
            obtain ⟨r, h1, hx⟩ := eB_ok hx
            injection hx with hx
            injection hx with hx _
            unfold aEnd at h1
            obtain ⟨r0, h2, h1⟩ := eB_ok h1
            obtain ⟨w, h3, h1⟩ := eB_ok h1
            injection h1 with h1
            have := hu r0 h2
            have := aT_u h3
            rw [← h1] at hx
            injection hx with hx
            omega
          split at ea
          · exact hh ea (fun r => aHo_u)
          · split at ea
            · exact hh ea (fun r => aDi_u)
            · split at ea
              · exact hh ea (fun r => aGo_u)
              · split at ea
                · exact hh ea (fun r => aSe_u)
                · split at ea
                  · rw [law_tell] at ea
                    obtain ⟨t1, h1, ea⟩ := eB_ok ea
                    obtain ⟨r, h2, ea⟩ := eB_ok ea
                    obtain ⟨t2, h3, h2⟩ := eB_ok h2
                    unfold aLe at h2
                    obtain ⟨r1, h4, h2⟩ := eB_ok h2
                    obtain ⟨w, h5, h2⟩ := eB_ok h2
                    injection h2 with h2
                    injection ea with ea
                    injection ea with ea _
                    injection ea with ea
                    have := aT_u h1
                    have := aT_u h3
                    have := aT_u h5
                    have := aLw_u h4
                    rw [← h2] at ea
                    have ea : w = u := ea
                    omega
                  · cases ea
        rw [ea] at te
        obtain ⟨A, eA, kA, rA⟩ := te
        have := kA.1.2.1
        rw [eB_o]
        have g := ih (t := u) (f := f + 1) kA (by omega) (by omega)
        dsimp only
        rw [eA, bVs]
        cases el : aRd T n u s' d' tol' with
        | error e =>
          rw [el] at g
          obtain ⟨B, e1, e2, e3⟩ := g
          exact ⟨B, e1, e2, rA.trans e3⟩
        | ok r =>
          rw [el] at g
          obtain ⟨B, e1, e2, e3⟩ := g
          exact ⟨B, e1, e2, rA.trans e3⟩
end
