/-! THE CALLS ON TEXTS are the machine's -/
section SEnd
variable {p : Program} {l : Launch} {e : Env} {R : Room} {s : State} {m : MethodId} {args : Array Value} {below : List Frame} {meth : Method} {c : Code} {Q : State → Prop} {D : va_G} {cA : Nat → ClassId} {base : Nat} {xa : Nat → Nat} {nL n0 z0 : Nat} {τ : mMem} {own : String} {cc : ByteArray} {X : Nat × (Nat → Int32)}
theorem sPt (C : mCx p R s m args c own cc nL D cA base n0 xa X) (hRc : τ.1 - n0 ≤ R.cells) (hRs : τ.2.1 - z0 ≤ R.slots) {k j n maxL d : Nat} {y : MethodName} {bytes : ByteArray} {rt : Option FieldType} {v : Int32} {bs rest : List Value} {f : mFr}
    (hct : ∀ adV : Nat → Nat, sM l D cA base xa adV f.2.2.2 d y bytes maxL rt (.ref (xa (j + 1)) :: bs.map (mCv base xa)) (some (.int v))) (hw : sW y bytes maxL rt n) (hlk : Cond.methodLink own k y ∈ mGt) (hin : Cond.instanceMethod y ∈ mGt) (hse : Cond.selects y.cls y y ∈ mGt) (hy : y.cls = "java/lang/String") (hR : d + 1 ≤ 9 ∧ 8 + (maxL + 11) + 40 * d ≤ 300) (hj : j < 2)
    (hst : f.2.2.1 = bs.reverse ++ .retAddr (j + 1) :: rest) (hn : bs.length = n) (hcat : (rest.map fun v => v.category).sum ≤ 8) (hd : decode cc f.1 = .ok (.invokevirtual k, 3)) (hk : mPt p l e R s m args below meth c Q D cA base xa nL n0 z0 τ (f.1 + 3, f.2.1, .int v :: rest, f.2.2.2)) : mPt p l e R s m args below meth c Q D cA base xa nL n0 z0 τ f := by
  obtain ⟨hx, hb, hml, hown, hts, hK, hbs, hZ, hfr, hlo, hX⟩ := C
  obtain ⟨adV, hV⟩ := hZ.2.2.2.2.1
  refine pt_ret (as := (Value.ref (xa (j + 1)) :: bs.map (mCv base xa)).toArray) (rest := rest) (rv := some (.int v)) (σ1 := f.2.2.2) (mc := 0) (ms := 0) hbs hk rfl rfl rfl rfl rfl rfl (fun H locs a b ls hz q2 q3 q4 w1 w2 => ?_)
  have hs1 : (F0 m f.1 ls (f.2.2.1.map (mCv base xa))).stack = (bs.map (mCv base xa)).reverse ++ .ref (xa (j + 1)) :: rest.map (mCv base xa) := by
    show f.2.2.1.map (mCv base xa) = _
    rw [hst, mCv_rev]
    rfl
  have hs2 : 2 * (F0 m f.1 ls (f.2.2.1.map (mCv base xa))).monitorRoom + ((rest.map (mCv base xa)).map fun v => v.category).sum ≤ 8 := by
    show 2 * 0 + _ ≤ 8
    rw [mCv_sum]
    omega
  have hrc : ∃ cell : Cell, H[xa (j + 1)]? = some cell ∧ cell.vm.isStatics = false ∧ s.vm.findClass y.cls = some cell.cls := by
    rw [hy]
    exact vk_recv (adK := fun i => xa (i + 1)) hV hj q3
  exact va_runV (As := bs.map (mCv base xa)) (b := xa (j + 1)) (C := y.cls) ⟨hx, hb, hml, hown, hts⟩ (hct adV) ⟨sCallB hts hw hlk ⟨by omega, by omega⟩, hts _ hin, hts _ hse⟩ ⟨sS_blind, hrc, sPre hK hZ hV hz q2 q3⟩ rfl (by rw [List.length_map]; exact hn) q4.1 hs1 hs2 hd ⟨by omega, by omega⟩
end SEnd
theorem mStr_ok : mStr := by
  intro p l e R s m args below meth c Q D cA base xa nL n0 z0 τ own cc X E k nt f C hRc hRs hT hv hd h
  rcases hv with ⟨rfl, hl⟩ | ⟨rfl, hl⟩ | ⟨rfl, hl⟩
  · have h : kSLen E.2.1 f _ := h
    unfold kSLen at h
    split at h
    · next j r hst =>
      obtain ⟨⟨h1, h2⟩, h3⟩ := h
      have h2 := Nat.blt_eq.mp h2
      rw [hT, s_ln j h2] at h3
      exact sPt (d := 1) (j := j) (bs := []) (rest := r) (n := 0) C hRc hRs (fun adV => s_len h2) sw_len hl si_len se_len rfl ⟨by decide, by decide⟩ h2 hst rfl h1 hd h3
    · exact h.elim
  · have h : kSChar E.2.1 f _ := h
    unfold kSChar at h
    split at h
    · next x j r hst =>
      obtain ⟨h1, h2, h3⟩ := h
      rw [hT] at h2 h3
      have hj : j < 2 := by
        apply Classical.byContradiction
        intro q
        have e : mTx j = [] := by
          unfold mTx
          rw [List.getD_eq_getElem?_getD, List.getElem?_eq_none (by show 2 ≤ j; omega)]; rfl
        rw [e] at h2
        obtain ⟨-, h2⟩ := pt_bl h2
        have := Nat.blt_eq.mp h2
        exact absurd this (Nat.not_lt_zero _)
      rw [s_ln j hj] at h2
      have hq := mIn_vp h2
      have q0 : ¬ x < 0 := fun q => hq (Or.inl q)
      have q1 : x.toNatClampNeg < mLenS.getD j 0 := Nat.not_le.mp fun q => hq (Or.inr q)
      exact sPt (d := 3) (j := j) (bs := [.int x]) (rest := r) (n := 1) C hRc hRs (fun adV => s_char hj q0 q1) sw_char hl si_char se_char rfl ⟨by decide, by decide⟩ hj hst rfl h1 hd h3
    · exact h.elim
  · have h : kSIdx E.2.1 f _ := h
    unfold kSIdx at h
    split at h
    · next x j r hst =>
      obtain ⟨⟨h1, h2⟩, ⟨q0, q1⟩, h3⟩ := h
      have h2 := Nat.blt_eq.mp h2
      rw [hT] at h3
      exact sPt (d := 3) (j := j) (bs := [.int x]) (rest := r) (n := 1) C hRc hRs (fun adV => s_idx h2 q0 q1) sw_idx hl si_idx se_idx rfl ⟨by decide, by decide⟩ h2 hst rfl h1 hd h3
    · exact h.elim
