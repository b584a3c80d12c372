/-! THE STEPS ON THE HEAP -/
section Cells
variable {base : Nat} {cA : Nat → ClassId} {σ : mMem} {i : Nat}
theorem mCell_obj {ci : Nat} (h : (σ.2.2.1 i).1 = ci) (hc : ci < 13) : mCell base cA σ i = .inr (ci, mFs base ci (σ.2.2.2.1 i) (σ.2.2.2.2.1 i)) := by
  unfold mCell
  rw [h, if_pos (by omega)]
theorem mCell_20 (h : (σ.2.2.1 i).1 = 20) : mCell base cA σ i = .inl (cA 0, (σ.2.2.1 i).2, .inl (σ.2.2.2.2.1 i)) := by
  unfold mCell
  rw [h]
  rfl
theorem mCell_21 (h : (σ.2.2.1 i).1 = 21) : mCell base cA σ i = .inl (cA 1, (σ.2.2.1 i).2, .inl (σ.2.2.2.2.1 i)) := by
  unfold mCell
  rw [h]
  rfl
theorem mCell_22 (h : (σ.2.2.1 i).1 = 22) : mCell base cA σ i = .inl (cA 2, (σ.2.2.1 i).2, .inl (σ.2.2.2.2.1 i)) := by
  unfold mCell
  rw [h]
  rfl
theorem mCell_23 (h : (σ.2.2.1 i).1 = 23) : mCell base cA σ i = .inl (cA 3, (σ.2.2.1 i).2, .inr (.inl (σ.2.2.2.2.2 i))) := by
  unfold mCell
  rw [h]
  rfl
theorem mCell_24 (h : (σ.2.2.1 i).1 = 24) : mCell base cA σ i = .inl (cA 4, (σ.2.2.1 i).2, .inr (.inr (.inr (.inr (fun j => mRo base (σ.2.2.2.1 i j)))))) := by
  unfold mCell
  rw [h]
  rfl
theorem mCell_congr {τ : mMem} {j : Nat} (hK : τ.2.2.1 j = σ.2.2.1 j) (hR : τ.2.2.2.1 j = σ.2.2.2.1 j) (hI : τ.2.2.2.2.1 j = σ.2.2.2.2.1 j) (hL : τ.2.2.2.2.2 j = σ.2.2.2.2.2 j) : mCell base cA τ j = mCell base cA σ j := by
  unfold mCell
  rw [hK, hR, hI, hL]
theorem mSI_ne {k : Nat} {x : Int32} {j : Nat} (h : j ≠ i) : mCell base cA (mSI σ i k x) j = mCell base cA σ j := mCell_congr rfl rfl (if_neg h) rfl
theorem mSL_ne {k : Nat} {x : Int64} {j : Nat} (h : j ≠ i) : mCell base cA (mSL σ i k x) j = mCell base cA σ j := mCell_congr rfl rfl rfl (if_neg h)
theorem mSR_ne {k : Nat} {x : Nat} {j : Nat} (h : j ≠ i) : mCell base cA (mSR σ i k x) j = mCell base cA σ j := mCell_congr rfl (if_neg h) rfl rfl
theorem mSW_ne {g : Nat → Int32} {j : Nat} (h : j ≠ i) : mCell base cA (mSW σ i g) j = mCell base cA σ j := mCell_congr rfl rfl (if_neg h) rfl
theorem mSI_at {k : Nat} {x : Int32} : (mSI σ i k x).2.2.2.2.1 i = upd (σ.2.2.2.2.1 i) k x := if_pos rfl
theorem mSL_at {k : Nat} {x : Int64} : (mSL σ i k x).2.2.2.2.2 i = vp_updL (σ.2.2.2.2.2 i) k x := if_pos rfl
theorem mSR_at {k : Nat} {x : Nat} : (mSR σ i k x).2.2.2.1 i = va_up (σ.2.2.2.1 i) k x := if_pos rfl
theorem mSW_at {g : Nat → Int32} : (mSW σ i g).2.2.2.2.1 i = g := if_pos rfl
theorem mWs_eq {e : va_E} (hi : i < σ.1) (h : mCell base cA σ i = e) : (mWs base cA σ)[i]? = some (base + i, e) := by rw [mWs_at hi, h]
theorem mTys_at {cA : Nat → ClassId} : (mTys cA)[0]? = some (cA 0, .int) ∧ (mTys cA)[1]? = some (cA 1, .byte) ∧ (mTys cA)[2]? = some (cA 2, .boolean) ∧ (mTys cA)[3]? = some (cA 3, .long) ∧ (mTys cA)[4]? = some (cA 4, .array .int) := ⟨rfl, rfl, rfl, rfl, rfl⟩
end Cells
section SndH
variable {p : Program} {l : Launch} {e : Env} {R : Room} {s : State} {m : MethodId} {args : Array Value} {below : List Frame} {meth : Method} {c : Code} {Q : State → Prop} {D : va_G} {cA : Nat → ClassId} {base : Nat} {xa : Nat → Nat} {nL n0 z0 : Nat} {τ : mMem} {own : String} {cc : ByteArray} {X : Nat × (Nat → Int32)}
theorem W_size {H : Heap} {locs : List Loc} {cells slots : Nat} {g : JFrame} (k : H.size ≤ s.heap.size + cells → W p l e R s m args below meth c H locs cells slots Q g) : W p l e R s m args below meth c H locs cells slots Q g := by
  intro T hT X
  refine k ?_ T hT X
  have h := X.same.2.2.1
  rw [← hT]
  exact h
/-- the heap is just as large as the cells tell -/
theorem W_full {H : Heap} {locs : List Loc} {σ : mMem} {slots : Nat} {g : JFrame} (hs : s.heap.size = base + n0) (hn : n0 ≤ σ.1) (hP : va_P D mCl (mWs base cA σ) H) (hS : va_S (mA base) s.heap H locs) (k : H.size = base + σ.1 → W p l e R s m args below meth c H locs (σ.1 - n0) slots Q g) : W p l e R s m args below meth c H locs (σ.1 - n0) slots Q g := by
  refine W_size (fun h => k ?_)
  have h1 := hS.1
  rcases Nat.eq_zero_or_pos σ.1 with h0 | h0
  · omega
  · have h2 := (hP (σ.1 - 1) _ (mWs_at (by omega))).lt
    have h3 : base + (σ.1 - 1) < H.size := h2
    omega
theorem pt_get (C : mCx p R s m args c own cc nL D cA base n0 xa X) {k ci fi : Nat} {f : mFr} (h : kGet ci fi f (mPt p l e R s m args below meth c Q D cA base xa nL n0 z0 τ)) (hci : ci < 13) (hfi : fi < mNF ci) (hlk : Cond.fieldLink own k (mTt ci fi).1 (mTt ci fi).2.1 (mTt ci fi).2.2.1 ∈ mGt) (hlay : ∀ w ∈ u_ws (mCn ci) (mTt ci) (mNF ci), w ∈ mGt) (hd : decode cc f.1 = .ok (.getfield k, 3)) : mPt p l e R s m args below meth c Q D cA base xa nL n0 z0 τ f := by
  obtain ⟨hx, hb, hml, hown, hts, hK, hbs, hZ, hfr, hlo, hX⟩ := C
  unfold kGet at h
  split at h
  · next i r hst =>
    obtain ⟨h0, h1⟩ := h
    obtain ⟨hi, hk⟩ := pt_bl h0
    have hi := Nat.blt_eq.mp hi
    have hk := Nat.eq_of_beq_eq_true hk
    split at h1
    · next hr =>
      split at h1
      · exact h1.elim
      · next j hj =>
        obtain ⟨b1, b2⟩ := h1
        refine ⟨b1, fun a b H locs ls e2 e3 e4 => ?_⟩
        rw [hst]
        refine va_get (D := D) (ci := ci) (C := mCn ci) (T := mTt ci) (N := mNF ci) hx hb hts hlay hown hK e2 i (mWs_eq hi (mCell_obj hk hci)) (mCl_at ci hci) fi hfi (hts _ hlk) (fun _ h9 => h9) (v := .ref (base + j)) ?_ hd (b2 a b H locs ls e2 e3 e4)
        rw [mFs_at hfi, hr, hj]
        rfl
    · next hr =>
      obtain ⟨b1, b2⟩ := h1
      refine ⟨b1, fun a b H locs ls e2 e3 e4 => ?_⟩
      rw [hst]
      refine va_get (D := D) (ci := ci) (C := mCn ci) (T := mTt ci) (N := mNF ci) hx hb hts hlay hown hK e2 i (mWs_eq hi (mCell_obj hk hci)) (mCl_at ci hci) fi hfi (hts _ hlk) (fun _ h9 => h9) (v := .int (f.2.2.2.2.2.2.2.1 i fi)) ?_ hd (b2 a b H locs ls e2 e3 e4)
      rw [mFs_at hfi, hr]
      rfl
  · exact h.elim
theorem pt_put (C : mCx p R s m args c own cc nL D cA base n0 xa X) {k ci fi : Nat} {f : mFr} (h : kPut ci fi f (mPt p l e R s m args below meth c Q D cA base xa nL n0 z0 τ)) (hci : ci < 13) (hfi : fi < mNF ci) (hlk : Cond.fieldLink own k (mTt ci fi).1 (mTt ci fi).2.1 (mTt ci fi).2.2.1 ∈ mGt) (hlay : ∀ w ∈ u_ws (mCn ci) (mTt ci) (mNF ci), w ∈ mGt)
    (hfin : (mTt ci fi).2.2.2 = false ∨ ((mTt ci fi).2.2.2 = true ∧ meth.name = "<init>" ∧ (mTt ci fi).1 = own)) (hd : decode cc f.1 = .ok (.putfield k, 3)) : mPt p l e R s m args below meth c Q D cA base xa nL n0 z0 τ f := by
  obtain ⟨hx, hb, hml, hown, hts, hK, hbs, hZ, hfr, hlo, hX⟩ := C
  unfold kPut at h
  split at h
  · next x i r hst =>
    obtain ⟨h0, hbo, h1⟩ := h
    obtain ⟨h0, hr⟩ := pt_bl h0
    obtain ⟨hi, hk⟩ := pt_bl h0
    have hi := Nat.blt_eq.mp hi
    have hk := Nat.eq_of_beq_eq_true hk
    have hr : mIsR ci fi = false := by simpa using hr
    obtain ⟨b1, b2⟩ := h1
    have hnf : narrow (mTy ci fi) (.int x) = .int x ∧ fits (mTy ci fi) (.int x) = true := by
      rcases mTy_in ci hci fi hfi with h9 | h9 | ⟨n, h9⟩ | ⟨t, h9⟩
      · rw [h9]; exact ⟨rfl, rfl⟩
      · rcases hbo h9 with h8 | h8 <;> rw [h9, h8] <;> exact ⟨rfl, rfl⟩
      · unfold mIsR at hr; rw [h9] at hr; cases hr
      · unfold mIsR at hr; rw [h9] at hr; cases hr
    refine ⟨b1, fun a b H locs ls e2 e3 e4 => ?_⟩
    rw [hst]
    have heq : mWs base cA (mSI f.2.2.2 i fi x) = (mWs base cA f.2.2.2).set i (base + i, .inr (ci, (mFs base ci (f.2.2.2.2.2.2.1 i) (f.2.2.2.2.2.2.2.1 i)).set fi (.int x))) := mWs_set rfl (by
      rw [mCell_obj (σ := mSI f.2.2.2 i fi x) (ci := ci) hk hci, mSI_at, mFs_setI hr]; rfl) (fun j hj => mSI_ne hj)
    have kk : ∀ (H1 : Heap) (locs1 : List Loc), va_P D mCl ((mWs base cA f.2.2.2).set i (base + i, .inr (ci, (mFs base ci (f.2.2.2.2.2.2.1 i) (f.2.2.2.2.2.2.2.1 i)).set fi (.int x)))) H1 → va_D (mA base) ((mWs base cA f.2.2.2).set i (base + i, .inr (ci, (mFs base ci (f.2.2.2.2.2.2.1 i) (f.2.2.2.2.2.2.2.1 i)).set fi (.int x)))) → va_S (mA base) s.heap H1 locs1 → W p l e R s m args below meth c H1 locs1 (f.2.2.2.1 - n0) (f.2.2.2.2.1 - z0) Q (F0 m (f.1 + 3) ls (r.map (mCv base xa))) := fun H1 locs1 q1 _ q3 => b2 a b H1 locs1 ls (by show va_P D mCl (mWs base cA (mSI f.2.2.2 i fi x)) H1; rw [heq]; exact q1) q3 e4
    rcases hfin with hfin | ⟨hfin, hin2, hdecl⟩
    · exact va_put (D := D) (ci := ci) (C := mCn ci) (T := mTt ci) (N := mNF ci) (ty := mTy ci fi) (v := .int x) hx hb hts hlay (mTy ci) (mTy_ok ci hci) (mNm_ok ci hci) hown hK e2 mWs_D e3 i (mWs_eq hi (mCell_obj hk hci)) (mCl_at ci hci) fi hfi (hts _ hlk) (fun _ h9 => h9) hfin (mTy_ok ci hci fi hfi) hnf.1 hnf.2 (by rw [mFs_len]; exact hfi) hd kk
    · exact va_putF (D := D) (ci := ci) (C := mCn ci) (T := mTt ci) (N := mNF ci) (ty := mTy ci fi) (v := .int x) hx hb hts hlay (mTy ci) (mTy_ok ci hci) (mNm_ok ci hci) hown hK e2 mWs_D e3 i (mWs_eq hi (mCell_obj hk hci)) (mCl_at ci hci) fi hfi (hts _ hlk) (fun _ h9 => h9) hfin hin2 hdecl (mTy_ok ci hci fi hfi) hnf.1 hnf.2 (by rw [mFs_len]; exact hfi) hd kk
  · next x i r hst =>
    obtain ⟨h0, h1⟩ := h
    obtain ⟨h0, hr⟩ := pt_bl h0
    obtain ⟨hi, hk⟩ := pt_bl h0
    have hi := Nat.blt_eq.mp hi
    have hk := Nat.eq_of_beq_eq_true hk
    obtain ⟨b1, b2⟩ := h1
    have hnf : narrow (mTy ci fi) (.ref (base + x)) = .ref (base + x) ∧ fits (mTy ci fi) (.ref (base + x)) = true := by
      rcases mTy_in ci hci fi hfi with h9 | h9 | ⟨n, h9⟩ | ⟨t, h9⟩
      · unfold mIsR at hr; rw [h9] at hr; cases hr
      · unfold mIsR at hr; rw [h9] at hr; cases hr
      · rw [h9]; exact ⟨rfl, rfl⟩
      · rw [h9]; exact ⟨rfl, rfl⟩
    refine ⟨b1, fun a b H locs ls e2 e3 e4 => ?_⟩
    rw [hst]
    have heq : mWs base cA (mSR f.2.2.2 i fi (x + 1)) = (mWs base cA f.2.2.2).set i (base + i, .inr (ci, (mFs base ci (f.2.2.2.2.2.2.1 i) (f.2.2.2.2.2.2.2.1 i)).set fi (.ref (base + x)))) := mWs_set rfl (by
      rw [mCell_obj (σ := mSR f.2.2.2 i fi (x + 1)) (ci := ci) hk hci, mSR_at, mFs_setR hr]; rfl) (fun j hj => mSR_ne hj)
    have kk : ∀ (H1 : Heap) (locs1 : List Loc), va_P D mCl ((mWs base cA f.2.2.2).set i (base + i, .inr (ci, (mFs base ci (f.2.2.2.2.2.2.1 i) (f.2.2.2.2.2.2.2.1 i)).set fi (.ref (base + x))))) H1 → va_D (mA base) ((mWs base cA f.2.2.2).set i (base + i, .inr (ci, (mFs base ci (f.2.2.2.2.2.2.1 i) (f.2.2.2.2.2.2.2.1 i)).set fi (.ref (base + x))))) → va_S (mA base) s.heap H1 locs1 → W p l e R s m args below meth c H1 locs1 (f.2.2.2.1 - n0) (f.2.2.2.2.1 - z0) Q (F0 m (f.1 + 3) ls (r.map (mCv base xa))) := fun H1 locs1 q1 _ q3 => b2 a b H1 locs1 ls (by show va_P D mCl (mWs base cA (mSR f.2.2.2 i fi (x + 1))) H1; rw [heq]; exact q1) q3 e4
    rcases hfin with hfin | ⟨hfin, hin2, hdecl⟩
    · exact va_put (D := D) (ci := ci) (C := mCn ci) (T := mTt ci) (N := mNF ci) (ty := mTy ci fi) (v := .ref (base + x)) hx hb hts hlay (mTy ci) (mTy_ok ci hci) (mNm_ok ci hci) hown hK e2 mWs_D e3 i (mWs_eq hi (mCell_obj hk hci)) (mCl_at ci hci) fi hfi (hts _ hlk) (fun _ h9 => h9) hfin (mTy_ok ci hci fi hfi) hnf.1 hnf.2 (by rw [mFs_len]; exact hfi) hd kk
    · exact va_putF (D := D) (ci := ci) (C := mCn ci) (T := mTt ci) (N := mNF ci) (ty := mTy ci fi) (v := .ref (base + x)) hx hb hts hlay (mTy ci) (mTy_ok ci hci) (mNm_ok ci hci) hown hK e2 mWs_D e3 i (mWs_eq hi (mCell_obj hk hci)) (mCl_at ci hci) fi hfi (hts _ hlk) (fun _ h9 => h9) hfin hin2 hdecl (mTy_ok ci hci fi hfi) hnf.1 hnf.2 (by rw [mFs_len]; exact hfi) hd kk
  · exact h.elim
theorem pt_ald (C : mCx p R s m args c own cc nL D cA base n0 xa X) {kd : Nat → Bool} {f : mFr} (h : kAld kd f (mPt p l e R s m args below meth c Q D cA base xa nL n0 z0 τ))
    (hd : (kd = (fun q => Nat.beq q 20) ∧ decode cc f.1 = .ok (.iaload, 1)) ∨ (kd = (fun q => Nat.beq q 21 || Nat.beq q 22) ∧ decode cc f.1 = .ok (.baload, 1))) : mPt p l e R s m args below meth c Q D cA base xa nL n0 z0 τ f := by
  obtain ⟨hx, hb, hml, hown, hts, hK, hbs, hZ, hfr, hlo, hX⟩ := C
  unfold kAld at h
  split at h
  · next i a r hst =>
    obtain ⟨h0, hin, h1⟩ := h
    obtain ⟨hi, hk⟩ := pt_bl h0
    have hi := Nat.blt_eq.mp hi
    obtain ⟨b1, b2⟩ := h1
    refine ⟨b1, fun a1 b H locs ls e2 e3 e4 => ?_⟩
    rw [hst]
    rcases hd with ⟨hkd, hd⟩ | ⟨hkd, hd⟩
    · rw [hkd] at hk
      exact va_iald hx hb hK e2 a 0 (mWs_eq hi (mCell_20 (Nat.eq_of_beq_eq_true hk))) mTys_at.1 (mIn_vp hin) hd (b2 a1 b H locs ls e2 e3 e4)
    · rw [hkd] at hk
      rcases Bool.or_eq_true_iff.mp hk with hk | hk
      · exact va_bald hx hb hK e2 a 1 (mWs_eq hi (mCell_21 (Nat.eq_of_beq_eq_true hk))) mTys_at.2.1 (mIn_vp hin) hd (b2 a1 b H locs ls e2 e3 e4)
      · exact va_zald hx hb hK e2 a 2 (mWs_eq hi (mCell_22 (Nat.eq_of_beq_eq_true hk))) mTys_at.2.2.1 (mIn_vp hin) hd (b2 a1 b H locs ls e2 e3 e4)
  · exact h.elim
theorem pt_iald (C : mCx p R s m args c own cc nL D cA base n0 xa X) {f : mFr} (h : kIald X f (mPt p l e R s m args below meth c Q D cA base xa nL n0 z0 τ)) (hd : decode cc f.1 = .ok (.iaload, 1)) : mPt p l e R s m args below meth c Q D cA base xa nL n0 z0 τ f := by
  have C0 := C
  obtain ⟨hx, hb, hml, hown, hts, hK, hbs, hZ, hfr, hlo, hX⟩ := C
  unfold kIald at h
  split at h
  · next i r hst =>
    obtain ⟨hin, h1⟩ := h
    rcases hX with h0 | ⟨hX, hxb⟩
    · rw [h0] at hin
      simp [mIn] at hin
    · obtain ⟨b1, b2⟩ := h1
      refine ⟨b1, fun a1 b H locs ls e2 e3 e4 => ?_⟩
      rw [hst]
      exact va_sld hx hb hX (by omega) (A := mA base) (fun q => by have : base ≤ xa 0 := q; omega) e3 (mIn_vp hin) hd (b2 a1 b H locs ls e2 e3 e4)
  · exact pt_ald C0 h (Or.inl ⟨rfl, hd⟩)
theorem pt_lald (C : mCx p R s m args c own cc nL D cA base n0 xa X) {f : mFr} (h : kLald f (mPt p l e R s m args below meth c Q D cA base xa nL n0 z0 τ)) (hd : decode cc f.1 = .ok (.laload, 1)) : mPt p l e R s m args below meth c Q D cA base xa nL n0 z0 τ f := by
  obtain ⟨hx, hb, hml, hown, hts, hK, hbs, hZ, hfr, hlo, hX⟩ := C
  unfold kLald at h
  split at h
  · next i a r hst =>
    obtain ⟨h0, hin, h1⟩ := h
    obtain ⟨hi, hk⟩ := pt_bl h0
    have hi := Nat.blt_eq.mp hi
    obtain ⟨b1, b2⟩ := h1
    refine ⟨b1, fun a1 b H locs ls e2 e3 e4 => ?_⟩
    rw [hst]
    exact va_lald hx hb hK e2 a 3 (mWs_eq hi (mCell_23 (Nat.eq_of_beq_eq_true hk))) mTys_at.2.2.2.1 (mIn_vp hin) hd (b2 a1 b H locs ls e2 e3 e4)
  · exact h.elim
theorem pt_aald (C : mCx p R s m args c own cc nL D cA base n0 xa X) {f : mFr} (h : kAald f (mPt p l e R s m args below meth c Q D cA base xa nL n0 z0 τ)) (hd : decode cc f.1 = .ok (.aaload, 1)) : mPt p l e R s m args below meth c Q D cA base xa nL n0 z0 τ f := by
  obtain ⟨hx, hb, hml, hown, hts, hK, hbs, hZ, hfr, hlo, hX⟩ := C
  unfold kAald at h
  split at h
  · next i a r hst =>
    obtain ⟨h0, hin, h1⟩ := h
    obtain ⟨hi, hk⟩ := pt_bl h0
    have hi := Nat.blt_eq.mp hi
    split at h1
    · exact h1.elim
    · next j hj =>
      obtain ⟨b1, b2⟩ := h1
      refine ⟨b1, fun a1 b H locs ls e2 e3 e4 => ?_⟩
      rw [hst]
      have hc := e2 a _ (mWs_eq hi (mCell_24 (Nat.eq_of_beq_eq_true hk)))
      have hvp := mIn_vp hin
      have hlt : i.toNatClampNeg < (f.2.2.2.2.2.1 a).2 := Nat.not_le.mp fun q => hvp (Or.inr q)
      exact W.aald (v := .ref (base + j)) (ty := .array .int) hx hb hc ((hK.2 4 _ mTys_at.2.2.2.2).1 _ (fun j => va_rf (mRo base (f.2.2.2.2.2.2.1 a j)))) rfl (fun q => by cases q) (by show ¬ (i < 0 ∨ (arrV _ _ _).slots.size ≤ _); rw [arrV_size]; exact hvp) (by show (arrV _ _ _).slots[_]? = _; rw [arrV_read _ _ hlt]; show some (va_rf (mRo base (f.2.2.2.2.2.2.1 a i.toNatClampNeg))) = _; rw [hj]; rfl) rfl rfl hd (b2 a1 b H locs ls e2 e3 e4)
  · exact h.elim
theorem pt_len (C : mCx p R s m args c own cc nL D cA base n0 xa X) {f : mFr} (h : kLen X f (mPt p l e R s m args below meth c Q D cA base xa nL n0 z0 τ)) (hd : decode cc f.1 = .ok (.arraylength, 1)) : mPt p l e R s m args below meth c Q D cA base xa nL n0 z0 τ f := by
  obtain ⟨hx, hb, hml, hown, hts, hK, hbs, hZ, hfr, hlo, hX⟩ := C
  unfold kLen at h
  split at h
  · next r hst =>
    obtain ⟨h0, h1⟩ := h
    have h0 := Nat.blt_eq.mp h0
    rcases hX with h9 | ⟨hX, hxb⟩
    · omega
    · obtain ⟨b1, b2⟩ := h1
      refine ⟨b1, fun a1 b H locs ls e2 e3 e4 => ?_⟩
      rw [hst]
      exact va_slen hx hb hX (by omega) (A := mA base) (fun q => by have : base ≤ xa 0 := q; omega) e3 hd (b2 a1 b H locs ls e2 e3 e4)
  · next a r hst =>
    obtain ⟨h0, h1⟩ := h
    obtain ⟨h0, hk2⟩ := pt_bl h0
    obtain ⟨hi, hk1⟩ := pt_bl h0
    have hi := Nat.blt_eq.mp hi
    have hk1 := Nat.blt_eq.mp hk1
    have hk2 := Nat.blt_eq.mp hk2
    obtain ⟨b1, b2⟩ := h1
    refine ⟨b1, fun a1 b H locs ls e2 e3 e4 => ?_⟩
    rw [hst]
    have hcase : (f.2.2.2.2.2.1 a).1 = 20 ∨ (f.2.2.2.2.2.1 a).1 = 21 ∨ (f.2.2.2.2.2.1 a).1 = 22 ∨ (f.2.2.2.2.2.1 a).1 = 23 ∨ (f.2.2.2.2.2.1 a).1 = 24 := by omega
    rcases hcase with hk | hk | hk | hk | hk
    · exact va_alen hx hb hK e2 a 0 (mWs_eq hi (mCell_20 hk)) mTys_at.1 rfl hd (b2 a1 b H locs ls e2 e3 e4)
    · exact va_alen hx hb hK e2 a 1 (mWs_eq hi (mCell_21 hk)) mTys_at.2.1 rfl hd (b2 a1 b H locs ls e2 e3 e4)
    · exact va_alen hx hb hK e2 a 2 (mWs_eq hi (mCell_22 hk)) mTys_at.2.2.1 rfl hd (b2 a1 b H locs ls e2 e3 e4)
    · exact va_alen hx hb hK e2 a 3 (mWs_eq hi (mCell_23 hk)) mTys_at.2.2.2.1 rfl hd (b2 a1 b H locs ls e2 e3 e4)
    · exact va_alen hx hb hK e2 a 4 (mWs_eq hi (mCell_24 hk)) mTys_at.2.2.2.2 rfl hd (b2 a1 b H locs ls e2 e3 e4)
  · exact h.elim
theorem pt_iast (C : mCx p R s m args c own cc nL D cA base n0 xa X) {f : mFr} (h : kIast f (mPt p l e R s m args below meth c Q D cA base xa nL n0 z0 τ)) (hd : decode cc f.1 = .ok (.iastore, 1)) : mPt p l e R s m args below meth c Q D cA base xa nL n0 z0 τ f := by
  obtain ⟨hx, hb, hml, hown, hts, hK, hbs, hZ, hfr, hlo, hX⟩ := C
  unfold kIast at h
  split at h
  · next x i a r hst =>
    obtain ⟨h0, hin, h1⟩ := h
    obtain ⟨hi, hk⟩ := pt_bl h0
    have hi := Nat.blt_eq.mp hi
    have hk := Nat.eq_of_beq_eq_true hk
    obtain ⟨b1, b2⟩ := h1
    refine ⟨b1, fun a1 b H locs ls e2 e3 e4 => ?_⟩
    rw [hst]
    have heq : mWs base cA (mSI f.2.2.2 a i.toNatClampNeg x) = (mWs base cA f.2.2.2).set a (base + a, .inl (cA 0, (f.2.2.2.2.2.1 a).2, .inl (upd (f.2.2.2.2.2.2.2.1 a) i.toNatClampNeg x))) := mWs_set rfl (by rw [mCell_20 (σ := mSI f.2.2.2 a i.toNatClampNeg x) hk, mSI_at]; rfl) (fun j hj => mSI_ne hj)
    exact va_iast hx hb hK e2 mWs_D e3 a 0 (mWs_eq hi (mCell_20 hk)) mTys_at.1 (mIn_vp hin) hd (fun H1 locs1 q1 _ q3 => b2 a1 b H1 locs1 ls (by show va_P D mCl (mWs base cA (mSI f.2.2.2 a i.toNatClampNeg x)) H1; rw [heq]; exact q1) q3 e4)
  · exact h.elim
theorem pt_bast (C : mCx p R s m args c own cc nL D cA base n0 xa X) {f : mFr} (h : kBast f (mPt p l e R s m args below meth c Q D cA base xa nL n0 z0 τ)) (hd : decode cc f.1 = .ok (.bastore, 1)) : mPt p l e R s m args below meth c Q D cA base xa nL n0 z0 τ f := by
  obtain ⟨hx, hb, hml, hown, hts, hK, hbs, hZ, hfr, hlo, hX⟩ := C
  unfold kBast at h
  split at h
  · next x i a r hst =>
    obtain ⟨hi, hin, h1⟩ := h
    have hi := Nat.blt_eq.mp hi
    split at h1
    · next hk =>
      obtain ⟨b1, b2⟩ := h1
      refine ⟨b1, fun a1 b H locs ls e2 e3 e4 => ?_⟩
      rw [hst]
      have heq : mWs base cA (mSI f.2.2.2 a i.toNatClampNeg (vp_nar .byte x)) = (mWs base cA f.2.2.2).set a (base + a, .inl (cA 1, (f.2.2.2.2.2.1 a).2, .inl (upd (f.2.2.2.2.2.2.2.1 a) i.toNatClampNeg (vp_nar .byte x)))) := mWs_set rfl (by rw [mCell_21 (σ := mSI f.2.2.2 a i.toNatClampNeg (vp_nar .byte x)) hk, mSI_at]; rfl) (fun j hj => mSI_ne hj)
      exact va_bast hx hb hK e2 mWs_D e3 a 1 (mWs_eq hi (mCell_21 hk)) mTys_at.2.1 (mIn_vp hin) hd (fun H1 locs1 q1 _ q3 => b2 a1 b H1 locs1 ls (by show va_P D mCl (mWs base cA (mSI f.2.2.2 a i.toNatClampNeg (vp_nar .byte x))) H1; rw [heq]; exact q1) q3 e4)
    · next hk =>
      obtain ⟨b1, b2⟩ := h1
      refine ⟨b1, fun a1 b H locs ls e2 e3 e4 => ?_⟩
      rw [hst]
      have heq : mWs base cA (mSI f.2.2.2 a i.toNatClampNeg (vp_nar .boolean x)) = (mWs base cA f.2.2.2).set a (base + a, .inl (cA 2, (f.2.2.2.2.2.1 a).2, .inl (upd (f.2.2.2.2.2.2.2.1 a) i.toNatClampNeg (vp_nar .boolean x)))) := mWs_set rfl (by rw [mCell_22 (σ := mSI f.2.2.2 a i.toNatClampNeg (vp_nar .boolean x)) hk, mSI_at]; rfl) (fun j hj => mSI_ne hj)
      exact va_zast hx hb hK e2 mWs_D e3 a 2 (mWs_eq hi (mCell_22 hk)) mTys_at.2.2.1 (mIn_vp hin) hd (fun H1 locs1 q1 _ q3 => b2 a1 b H1 locs1 ls (by show va_P D mCl (mWs base cA (mSI f.2.2.2 a i.toNatClampNeg (vp_nar .boolean x))) H1; rw [heq]; exact q1) q3 e4)
    · exact h1.elim
  · exact h.elim
theorem pt_last (C : mCx p R s m args c own cc nL D cA base n0 xa X) {f : mFr} (h : kLast f (mPt p l e R s m args below meth c Q D cA base xa nL n0 z0 τ)) (hd : decode cc f.1 = .ok (.lastore, 1)) : mPt p l e R s m args below meth c Q D cA base xa nL n0 z0 τ f := by
  obtain ⟨hx, hb, hml, hown, hts, hK, hbs, hZ, hfr, hlo, hX⟩ := C
  unfold kLast at h
  split at h
  · next x i a r hst =>
    obtain ⟨h0, hin, h1⟩ := h
    obtain ⟨hi, hk⟩ := pt_bl h0
    have hi := Nat.blt_eq.mp hi
    have hk := Nat.eq_of_beq_eq_true hk
    obtain ⟨b1, b2⟩ := h1
    refine ⟨b1, fun a1 b H locs ls e2 e3 e4 => ?_⟩
    rw [hst]
    have heq : mWs base cA (mSL f.2.2.2 a i.toNatClampNeg x) = (mWs base cA f.2.2.2).set a (base + a, .inl (cA 3, (f.2.2.2.2.2.1 a).2, .inr (.inl (vp_updL (f.2.2.2.2.2.2.2.2 a) i.toNatClampNeg x)))) := mWs_set rfl (by rw [mCell_23 (σ := mSL f.2.2.2 a i.toNatClampNeg x) hk, mSL_at]; rfl) (fun j hj => mSL_ne hj)
    exact va_last hx hb hK e2 mWs_D e3 a 3 (mWs_eq hi (mCell_23 hk)) mTys_at.2.2.2.1 (mIn_vp hin) hd (fun H1 locs1 q1 _ q3 => b2 a1 b H1 locs1 ls (by show va_P D mCl (mWs base cA (mSL f.2.2.2 a i.toNatClampNeg x)) H1; rw [heq]; exact q1) q3 e4)
  · exact h.elim
end SndH
