/-! new int[n][w] -/
theorem vg_outer (c : ClassId) (N h0 : Nat) : ∀ i : Nat, Jvm.Free.Multi.outerC c N h0 i = arrV c N (fun j => va_rf (if j < i then some (h0 + 1 + j) else none))
  | 0 => by
    show ({ cls := c, slots := Array.replicate N .null, vm := .none } : Cell) = _
    rw [arrV_new]
    refine congrArg (arrV c N) (funext fun j => ?_)
    simp [va_rf]
  | i + 1 => by
    show (Jvm.Free.Multi.outerC c N h0 i).setSlot i (.ref (h0 + 1 + i)) = _
    rw [vg_outer c N h0 i, arrV_store]
    refine congrArg (arrV c N) (funext fun j => ?_)
    by_cases e : j = i
    · subst e
      simp [updV, va_rf]
    · by_cases h : j < i
      · simp [updV, e, h, Nat.lt_succ_of_lt h]
      · simp [updV, e, h, show ¬ j < i + 1 by omega]
section SndG
variable {p : Program} {l : Launch} {e : Env} {R : Room} {s : State} {m : MethodId} {args : Array Value} {below : List Frame} {meth : Method} {c : Code} {Q : State → Prop} {D : va_G} {cA : Nat → ClassId} {base : Nat} {xa : Nat → Nat} {nL n0 z0 : Nat} {τ : mMem} {own : String} {cc : ByteArray} {X : Nat × (Nat → Int32)}
theorem mNew2_old {σ : mMem} {n w j : Nat} (h : j < σ.1) : mCell base cA (mNew2 σ n w) j = mCell base cA σ j := by
  have h1 : ¬ j = σ.1 := by omega
  have h2 : ¬ (σ.1 < j ∧ j < σ.1 + 1 + n) := by omega
  have h3 : ¬ (σ.1 ≤ j ∧ j < σ.1 + 1 + n) := by omega
  refine mCell_congr ?_ (if_neg h1) (if_neg h3) rfl
  show (if j = σ.1 then _ else if σ.1 < j ∧ j < σ.1 + 1 + n then _ else _) = _
  rw [if_neg h1, if_neg h2]
theorem pt_new2 (C : mCx p R s m args c own cc nL D cA base n0 xa X) {k : Nat} {f : mFr} (h : kNew2 f (mPt p l e R s m args below meth c Q D cA base xa nL n0 z0 τ)) (hcl : Cond.classLink own k "[[I" ∈ mGt) (harr : Cond.arrayClass .int ∈ mGt) (hRc : τ.1 - n0 ≤ R.cells) (hRs : τ.2.1 - z0 ≤ R.slots) (hd : decode cc f.1 = .ok (.multianewarray k 2, 4)) : mPt p l e R s m args below meth c Q D cA base xa nL n0 z0 τ f := by
  obtain ⟨hx, hb, hml, hown, hts, hK, hbs, hZ, hfr, hlo, hX⟩ := C
  unfold kNew2 at h
  split at h
  · next w n r hst =>
    obtain ⟨h0, h1⟩ := h
    obtain ⟨h0, hwl⟩ := pt_bl h0
    obtain ⟨h0, hw⟩ := pt_bl h0
    obtain ⟨hn, hnl⟩ := pt_bl h0
    have hn : ¬ n < 0 := by simpa using hn
    have hw : ¬ w < 0 := by simpa using hw
    have hnl := Nat.blt_eq.mp hnl
    have hwl := Nat.blt_eq.mp hwl
    obtain ⟨⟨g1, g2⟩, g3⟩ := h1
    generalize hN : n.toNatClampNeg = N at *
    generalize hM : w.toNatClampNeg = M at *
    have e1 : (mNew2 f.2.2.2 N M).1 = f.2.2.2.1 + 1 + N := rfl
    have e2 : (mNew2 f.2.2.2 N M).2.1 = f.2.2.2.2.1 + N + N * M := rfl
    have g1 : f.2.2.2.1 + 1 + N ≤ τ.1 := g1
    have g2 : f.2.2.2.2.1 + N + N * M ≤ τ.2.1 := g2
    refine ⟨⟨by omega, by omega⟩, fun a b H locs ls q2 q3 q4 => ?_⟩
    refine W_full hbs a q2 q3 (fun hz => ?_)
    rw [hst]
    intro T hT Xs
    have hsA : ("[" ++ (FieldType.array FieldType.int).toString) = "[[I" := by decide +kernel
    obtain ⟨vm₁, c1, comp, -, fA, fC, hO, -, X', step⟩ := Xs.multianewarray2F hx (own := own) (index := k) (ty := .int) hown (by rw [hsA]; exact hts _ hcl) hZ.2.1 (hts _ harr) (g := F0 m f.1 ls (.int w :: .int n :: r.map (mCv base xa))) rfl (by rw [hb]; exact hd) rfl hn hw (by rw [hN]; omega) (by rw [hM]; show M * 4 ≤ _; omega) (by rw [hM]; omega) rfl rfl (by rw [hN]; omega) (by rw [hN, hM]; omega)
    rw [hN, hM] at X' step
    have hc1 : c1 = cA 4 := Option.some.inj (fA.symm.trans (hK.2 4 _ mTys_at.2.2.2.2).2)
    have hc2 : comp = cA 0 := Option.some.inj (fC.symm.trans (hK.2 0 _ mTys_at.1).2)
    subst hc1
    subst hc2
    generalize hF : Jvm.Free.Multi.fill (T.setVm vm₁) (cA 4) (cA 0) N M (defaultValue .int) N = F at X' step
    have hTh : (T.setVm vm₁).heap = H := hT
    obtain ⟨f1, f2, -, -⟩ := Jvm.Free.Multi.fill_facts (T.setVm vm₁) (cA 4) (cA 0) N M (defaultValue .int) N
    rw [hF, hTh] at f1 f2
    have hold : ∀ x : Nat, x < H.size → F.heap[x]? = H[x]? := fun x hx9 => by
      have := Jvm.Free.Multi.fill_old (T.setVm vm₁) (cA 4) (cA 0) N M (defaultValue .int) (a := x) (by rw [hTh]; exact hx9) N
      rw [hF, hTh] at this
      exact this
    have hrow : ∀ j : Nat, j < N → F.heap[H.size + 1 + j]? = some (arrV (cA 0) M (fun _ => .int 0)) := fun j hj => by
      have := Jvm.Free.Multi.fill_inner (T.setVm vm₁) (cA 4) (cA 0) N M (defaultValue .int) N j hj
      rw [hF, hTh] at this
      rw [this]
      show some ({ cls := cA 0, slots := Array.replicate M (.int 0), vm := .none } : Cell) = _
      rw [arrV_new]
    rw [vg_outer] at f2
    have hP1 : va_P D mCl (mWs base cA (mNew2 f.2.2.2 N M)) F.heap := by
      intro k9 q hq
      have hk9 : k9 < f.2.2.2.1 + 1 + N := by
        have := (List.getElem?_eq_some_iff.mp hq).1
        rw [mWs_len] at this
        exact this
      rw [mWs_at hk9] at hq
      cases hq
      rcases Nat.lt_trichotomy k9 f.2.2.2.1 with h9 | h9 | h9
      · rw [mNew2_old h9]
        exact (q2 k9 _ (mWs_at h9)).kept (hold _ ((q2 k9 _ (mWs_at h9)).lt))
      · subst h9
        have hkk : (mNew2 f.2.2.2 N M).2.2.1 f.2.2.2.1 = (24, N) := if_pos rfl
        rw [mCell_24 (σ := mNew2 f.2.2.2 N M) (by rw [hkk])]
        show F.heap[base + f.2.2.2.1]? = some (vp_cell _ _)
        rw [vp_cell_q, ← hz, f2]
        rw [hkk]
        refine congrArg (fun z => some (arrV (cA 4) N z)) (funext fun j => ?_)
        have hr0 : (mNew2 f.2.2.2 N M).2.2.2.1 f.2.2.2.1 = fun j => if j < N then f.2.2.2.1 + 1 + j + 1 else 0 := if_pos rfl
        have hr : (mNew2 f.2.2.2 N M).2.2.2.1 f.2.2.2.1 j = if j < N then f.2.2.2.1 + 1 + j + 1 else 0 := congrFun hr0 j
        rw [hr]
        by_cases hj : j < N
        · rw [if_pos hj, if_pos hj, hz]
          show _ = va_rf (some (base + (f.2.2.2.1 + 1 + j)))
          rw [show base + f.2.2.2.1 + 1 + j = base + (f.2.2.2.1 + 1 + j) by omega]
        · rw [if_neg hj, if_neg hj]
          rfl
      · have h8 : ¬ k9 = f.2.2.2.1 := by omega
        have h7 : f.2.2.2.1 < k9 ∧ k9 < f.2.2.2.1 + 1 + N := ⟨h9, hk9⟩
        have hkk : (mNew2 f.2.2.2 N M).2.2.1 k9 = (20, M) := by
          show (if k9 = f.2.2.2.1 then _ else if f.2.2.2.1 < k9 ∧ k9 < f.2.2.2.1 + 1 + N then _ else _) = _
          rw [if_neg h8, if_pos h7]
        have hii : (mNew2 f.2.2.2 N M).2.2.2.2.1 k9 = fun _ => 0 := if_pos ⟨by omega, hk9⟩
        rw [mCell_20 (σ := mNew2 f.2.2.2 N M) (by rw [hkk]), hkk, hii]
        show F.heap[base + k9]? = some (vp_cell _ _)
        rw [vp_cell_i]
        have h6 := hrow (k9 - f.2.2.2.1 - 1) (by omega)
        rw [show H.size + 1 + (k9 - f.2.2.2.1 - 1) = base + k9 by omega] at h6
        exact h6
    have hS1 : va_S (mA base) s.heap F.heap locs := ⟨by rw [f1]; have := q3.1; omega, fun x h1 h2 => (hold x (Nat.lt_of_lt_of_le h1 q3.1)).trans (q3.2.1 x h1 h2), q3.2.2⟩
    have w9 := g3 (by show n0 ≤ f.2.2.2.1 + 1 + N; omega) (by show z0 ≤ f.2.2.2.2.1 + N + N * M; omega) F.heap locs ls hP1 hS1 q4
    have w8 : W p l e R s m args below meth c F.heap locs (f.2.2.2.1 - n0 + 1 + N) (f.2.2.2.2.1 - z0 + N + N * M) Q (F0 m (f.1 + 4) ls (.ref (base + f.2.2.2.1) :: r.map (mCv base xa))) := by
      rw [show f.2.2.2.1 - n0 + 1 + N = f.2.2.2.1 + 1 + N - n0 by omega, show f.2.2.2.2.1 - z0 + N + N * M = f.2.2.2.2.1 + N + N * M - z0 by omega]
      exact w9
    obtain ⟨t, a1, b1⟩ := w8 F rfl X'
    refine ⟨t, step t ?_, b1⟩
    have e9 : T.heap.size = base + f.2.2.2.1 := by rw [hT]; exact hz
    rw [e9]
    exact a1
  · exact h.elim
end SndG
