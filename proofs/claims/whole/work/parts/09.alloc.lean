/-! NEW CELLS, and the JDK's own -/
section SndN
variable {p : Program} {l : Launch} {e : Env} {R : Room} {s : State} {m : MethodId} {args : Array Value} {below : List Frame} {meth : Method} {c : Code} {Q : State → Prop} {D : va_G} {cA : Nat → ClassId} {base : Nat} {xa : Nat → Nat} {nL n0 z0 : Nat} {τ : mMem} {own : String} {cc : ByteArray} {X : Nat × (Nat → Int32)}
theorem mNew_old {σ : mMem} {kd len sz j : Nat} (h : j < σ.1) : mCell base cA (mNew σ kd len sz) j = mCell base cA σ j := by
  have hj : j ≠ σ.1 := Nat.ne_of_lt h
  exact mCell_congr (if_neg hj) (if_neg hj) (if_neg hj) (if_neg hj)
theorem mNew_K {σ : mMem} {kd len sz : Nat} : (mNew σ kd len sz).2.2.1 σ.1 = (kd, len) := if_pos rfl
theorem mNew_R {σ : mMem} {kd len sz : Nat} : (mNew σ kd len sz).2.2.2.1 σ.1 = fun _ => 0 := if_pos rfl
theorem mNew_I {σ : mMem} {kd len sz : Nat} : (mNew σ kd len sz).2.2.2.2.1 σ.1 = fun _ => 0 := if_pos rfl
theorem mNew_L {σ : mMem} {kd len sz : Nat} : (mNew σ kd len sz).2.2.2.2.2 σ.1 = fun _ => 0 := if_pos rfl
/-- one cell more on the heap -/
theorem pt_one {f g : mFr} {kd len sz : Nat} (hs : s.heap.size = base + n0) (hg : mPt p l e R s m args below meth c Q D cA base xa nL n0 z0 τ g) (hl : g.2.1 = f.2.1) (hσ : g.2.2.2 = mNew f.2.2.2 kd len sz) {en : va_E} (hen : mCell base cA (mNew f.2.2.2 kd len sz) f.2.2.2.1 = en)
    (hW : ∀ (H : Heap) (locs : List Loc) (a b : Nat) (ls : Array Slot), H.size = base + f.2.2.2.1 → mLh base xa ls nL f.2.1 → (a + 1 ≤ R.cells → b + sz ≤ R.slots → (∀ H1 : Heap, H1.size = H.size + 1 → (∀ q, q < H.size → H1[q]? = H[q]?) → va_at D mCl (base + f.2.2.2.1, en) H1 → W p l e R s m args below meth c H1 locs (a + 1) (b + sz) Q (F0 m g.1 ls (g.2.2.1.map (mCv base xa)))) → W p l e R s m args below meth c H locs a b Q (F0 m f.1 ls (f.2.2.1.map (mCv base xa)))))
    (hRc : τ.1 - n0 ≤ R.cells) (hRs : τ.2.1 - z0 ≤ R.slots) : mPt p l e R s m args below meth c Q D cA base xa nL n0 z0 τ f := by
  obtain ⟨⟨g1, g2⟩, g3⟩ := hg
  rw [hσ] at g1 g2 g3
  rw [hl] at g3
  have e1 : (mNew f.2.2.2 kd len sz).1 = f.2.2.2.1 + 1 := rfl
  have e2 : (mNew f.2.2.2 kd len sz).2.1 = f.2.2.2.2.1 + sz := rfl
  rw [e1] at g1
  rw [e2] at g2
  refine ⟨⟨by omega, by omega⟩, fun a b H locs ls q2 q3 q4 => ?_⟩
  refine W_full hs a q2 q3 (fun hz => ?_)
  refine hW H locs _ _ ls hz q4 (by omega) (by omega) (fun H1 z1 o1 at1 => ?_)
  have hk : ∀ (k : Nat) (x : Nat × va_E), (mWs base cA f.2.2.2)[k]? = some x → H1[x.1]? = H[x.1]? := fun k x hx => o1 x.1 ((q2 k x hx).lt)
  have hP1 : va_P D mCl (mWs base cA (mNew f.2.2.2 kd len sz)) H1 := by
    rw [mWs_push (σ := f.2.2.2) rfl hen (fun j hj => mNew_old hj)]
    refine (q2.kept hk).app (fun k x hx => ?_)
    have h0 : k < 1 := (List.getElem?_eq_some_iff.mp hx).1
    rw [show k = 0 by omega] at hx
    cases hx
    exact at1
  have hS1 : va_S (mA base) s.heap H1 locs := ⟨Nat.le_trans q3.1 (by omega), fun x h1 h2 => (o1 x (Nat.lt_of_lt_of_le h1 q3.1)).trans (q3.2.1 x h1 h2), q3.2.2⟩
  have w := g3 (by rw [e1]; omega) (by rw [e2]; omega) H1 locs ls hP1 hS1 q4
  rw [e1, e2] at w
  rw [show f.2.2.2.1 + 1 - n0 = f.2.2.2.1 - n0 + 1 by omega, show f.2.2.2.2.1 + sz - z0 = f.2.2.2.2.1 - z0 + sz by omega] at w
  exact w
theorem pt_new (C : mCx p R s m args c own cc nL D cA base n0 xa X) {k ci : Nat} {f : mFr} (h : kNew ci f (mPt p l e R s m args below meth c Q D cA base xa nL n0 z0 τ)) (hci : ci < 13) (hcl : Cond.classLink own k (mCn ci) ∈ mGt) (hins : Cond.instantiable (mCn ci) (mNF ci) ∈ mGt) (hini : Cond.initialized (mCn ci) ∈ mGt) (hlay : ∀ w ∈ u_ws (mCn ci) (mTt ci) (mNF ci), w ∈ mGt)
    (hRc : τ.1 - n0 ≤ R.cells) (hRs : τ.2.1 - z0 ≤ R.slots) (hd : decode cc f.1 = .ok (.new k, 3)) : mPt p l e R s m args below meth c Q D cA base xa nL n0 z0 τ f := by
  obtain ⟨hx, hb, hml, hown, hts, hK, hbs, hZ, hfr, hlo, hX⟩ := C
  have hKn := hK.1 ci _ (mCl_at ci hci)
  refine pt_one hbs h rfl rfl (en := .inr (ci, mFs base ci (fun _ => 0) (fun _ => 0))) ?_ (fun H locs a b ls hz hl hc1 hs1 w => ?_) hRc hRs
  · rw [mCell_obj (σ := mNew f.2.2.2 ci 0 (mNF ci)) (ci := ci) (by rw [mNew_K]) hci, mNew_R, mNew_I]
  · refine W.newcK hx hb hown (hts _ hcl) (hts _ hins) (hts _ hini) rfl hd hc1 hs1 hKn.2.1 hz fun H1 kC hkC e1 z1 o1 => ?_
    refine w H1 (by rw [z1, hz]) (by rw [hz]; exact o1) ⟨_, mCl_at ci hci, (u_born (mTy ci) hts hlay hKn hkC e1 (mTy_ok ci hci)).to (fun j hj => ?_)⟩
    show defaultValue (mTy ci j) = (mFs base ci (fun _ => 0) (fun _ => 0)).getD j .null
    rw [List.getD_eq_getElem?_getD, mFs_at hj]
    rcases mTy_in ci hci j hj with h9 | h9 | ⟨n, h9⟩ | ⟨t, h9⟩ <;> (unfold mIsR; rw [h9]; rfl)
theorem pt_newa (C : mCx p R s m args c own cc nL D cA base n0 xa X) {tag : Nat} {at1 : ArrayType} {f : mFr} (h : kNewa tag f (mPt p l e R s m args below meth c Q D cA base xa nL n0 z0 τ)) (htag : (tag = 0 ∧ at1 = .int) ∨ (tag = 1 ∧ at1 = .byte) ∨ (tag = 2 ∧ at1 = .boolean) ∨ (tag = 3 ∧ at1 = .long)) (harr : Cond.arrayClass (newarray.typeOf at1) ∈ mGt)
    (hRc : τ.1 - n0 ≤ R.cells) (hRs : τ.2.1 - z0 ≤ R.slots) (hd : decode cc f.1 = .ok (.newarray at1, 2)) : mPt p l e R s m args below meth c Q D cA base xa nL n0 z0 τ f := by
  obtain ⟨hx, hb, hml, hown, hts, hK, hbs, hZ, hfr, hlo, hX⟩ := C
  unfold kNewa at h
  split at h
  · next n r hst =>
    obtain ⟨h0, h1⟩ := h
    obtain ⟨hn, hlt⟩ := pt_bl h0
    have hn : ¬ n < 0 := by simpa using hn
    have hlt := Nat.blt_eq.mp hlt
    rcases htag with ⟨rfl, rfl⟩ | ⟨rfl, rfl⟩ | ⟨rfl, rfl⟩ | ⟨rfl, rfl⟩
    · refine pt_one hbs h1 rfl rfl (en := .inl (cA 0, n.toNatClampNeg, .inl (fun _ => 0))) ?_ (fun H locs a b ls hz hl hc1 hs1 w => ?_) hRc hRs
      · rw [mCell_20 (σ := mNew f.2.2.2 (20 + 0) n.toNatClampNeg n.toNatClampNeg) (by rw [mNew_K]), mNew_I, mNew_K]
      · rw [hst]
        refine va_newaK hx hb (hts _ harr) rfl hd rfl hn rfl (by show _ * 4 ≤ _; omega) hc1 hs1 hz fun H1 cA1 e1 z1 o1 hAr hNm => ?_
        have hc : cA1 = cA 0 := Option.some.inj (hNm.symm.trans (hK.2 0 _ mTys_at.1).2)
        subst hc
        exact w H1 (by rw [z1, hz]) (by rw [hz]; exact o1) e1
    · refine pt_one hbs h1 rfl rfl (en := .inl (cA 1, n.toNatClampNeg, .inl (fun _ => 0))) ?_ (fun H locs a b ls hz hl hc1 hs1 w => ?_) hRc hRs
      · rw [mCell_21 (σ := mNew f.2.2.2 (20 + 1) n.toNatClampNeg n.toNatClampNeg) (by rw [mNew_K]), mNew_I, mNew_K]
      · rw [hst]
        refine va_newaK hx hb (hts _ harr) rfl hd rfl hn rfl (by show _ * 1 ≤ _; omega) hc1 hs1 hz fun H1 cA1 e1 z1 o1 hAr hNm => ?_
        have hc : cA1 = cA 1 := Option.some.inj (hNm.symm.trans (hK.2 1 _ mTys_at.2.1).2)
        subst hc
        exact w H1 (by rw [z1, hz]) (by rw [hz]; exact o1) e1
    · refine pt_one hbs h1 rfl rfl (en := .inl (cA 2, n.toNatClampNeg, .inl (fun _ => 0))) ?_ (fun H locs a b ls hz hl hc1 hs1 w => ?_) hRc hRs
      · rw [mCell_22 (σ := mNew f.2.2.2 (20 + 2) n.toNatClampNeg n.toNatClampNeg) (by rw [mNew_K]), mNew_I, mNew_K]
      · rw [hst]
        refine va_newaK hx hb (hts _ harr) rfl hd rfl hn rfl (by show _ * 1 ≤ _; omega) hc1 hs1 hz fun H1 cA1 e1 z1 o1 hAr hNm => ?_
        have hc : cA1 = cA 2 := Option.some.inj (hNm.symm.trans (hK.2 2 _ mTys_at.2.2.1).2)
        subst hc
        exact w H1 (by rw [z1, hz]) (by rw [hz]; exact o1) e1
    · refine pt_one hbs h1 rfl rfl (en := .inl (cA 3, n.toNatClampNeg, .inr (.inl (fun _ => 0)))) ?_ (fun H locs a b ls hz hl hc1 hs1 w => ?_) hRc hRs
      · rw [mCell_23 (σ := mNew f.2.2.2 (20 + 3) n.toNatClampNeg n.toNatClampNeg) (by rw [mNew_K]), mNew_L, mNew_K]
      · rw [hst]
        refine va_newaK hx hb (hts _ harr) rfl hd rfl hn rfl (by show _ * 8 ≤ _; omega) hc1 hs1 hz fun H1 cA1 e1 z1 o1 hAr hNm => ?_
        have hc : cA1 = cA 3 := Option.some.inj (hNm.symm.trans (hK.2 3 _ mTys_at.2.2.2.1).2)
        subst hc
        exact w H1 (by rw [z1, hz]) (by rw [hz]; exact o1) e1
  · exact h.elim
theorem mCv_sum (base : Nat) (xa : Nat → Nat) (r : List Value) : ((r.map (mCv base xa)).map fun v => v.category).sum = (r.map fun v => v.category).sum := by
  rw [List.map_map]
  congr 1
  apply List.map_congr_left
  intro v _
  exact mCv_cat base xa v
theorem pt_copy (C : mCx p R s m args c own cc nL D cA base n0 xa X) {k : Nat} {f : mFr} (h : kCopy f (mPt p l e R s m args below meth c Q D cA base xa nL n0 z0 τ)) (hlk : Cond.methodLink own k arraycopyName ∈ mGt) (hnat : Cond.native arraycopyName ∈ mGt) (hst1 : Cond.static arraycopyName ∈ mGt) (hini : Cond.initialized "java/lang/System" ∈ mGt) (hd : decode cc f.1 = .ok (.invokestatic k, 3)) : mPt p l e R s m args below meth c Q D cA base xa nL n0 z0 τ f := by
  obtain ⟨hx, hb, hml, hown, hts, hK, hbs, hZ, hfr, hlo, hX⟩ := C
  unfold kCopy at h
  split at h
  · next n dp a1 sp a0 r hst =>
    obtain ⟨h0, hsum, h9, h1⟩ := h
    obtain ⟨h0, hk1⟩ := pt_bl h0
    obtain ⟨h0, hk0⟩ := pt_bl h0
    obtain ⟨hi0, hi1⟩ := pt_bl h0
    have hi0 := Nat.blt_eq.mp hi0
    have hi1 := Nat.blt_eq.mp hi1
    have hk0 := Nat.eq_of_beq_eq_true hk0
    have hk1 := Nat.eq_of_beq_eq_true hk1
    obtain ⟨h9, hl1⟩ := pt_bl h9
    obtain ⟨h9, hl0⟩ := pt_bl h9
    obtain ⟨h9, hn⟩ := pt_bl h9
    obtain ⟨hsp, hdp⟩ := pt_bl h9
    have hn : ¬ n < 0 := by simpa using hn
    have hsp : ¬ sp < 0 := by simpa using hsp
    have hdp : ¬ dp < 0 := by simpa using hdp
    have hl0 := Nat.le_of_ble_eq_true hl0
    have hl1 := Nat.le_of_ble_eq_true hl1
    obtain ⟨b1, b2⟩ := h1
    refine ⟨b1, fun a b H locs ls e2 e3 e4 => ?_⟩
    rw [hst]
    have heq : mWs base cA (mSW f.2.2.2 a1 (va_cpy (f.2.2.2.2.2.2.2.1 a0) (f.2.2.2.2.2.2.2.1 a1) sp.toNatClampNeg dp.toNatClampNeg n.toNatClampNeg)) = (mWs base cA f.2.2.2).set a1 (base + a1, .inl (cA 0, (f.2.2.2.2.2.1 a1).2, .inl (va_cpy (f.2.2.2.2.2.2.2.1 a0) (f.2.2.2.2.2.2.2.1 a1) sp.toNatClampNeg dp.toNatClampNeg n.toNatClampNeg))) := mWs_set rfl (by rw [mCell_20 (σ := mSW f.2.2.2 a1 _) hk1, mSW_at]; rfl) (fun j hj => mSW_ne hj)
    refine va_copyi hx hb (by rw [hml]; exact e4.1.symm) hown (hts _ hlk) (hts _ hnat) (hts _ hst1) (hts _ hini) hK e2 mWs_D e3 a0 a1 0 0 (mWs_eq hi0 (mCell_20 hk0)) (mWs_eq hi1 (mCell_20 hk1)) mTys_at.1 mTys_at.1 rfl hsp hdp hn hl0 hl1 (fun _ _ => rfl) (by omega) ?_ hd (fun H1 locs1 q1 _ q3 => b2 a b H1 locs1 ls (by show va_P D mCl (mWs base cA (mSW f.2.2.2 a1 _)) H1; rw [heq]; exact q1) q3 e4)
    have h8 := mCv_sum base xa r
    have h7 : nativeFrameWords "java/lang/System" "arraycopy" 5 ≤ 200 := by decide
    rw [h8]
    omega
  · exact h.elim
theorem pt_max (C : mCx p R s m args c own cc nL D cA base n0 xa X) {k : Nat} {f : mFr} (h : kMax f (mPt p l e R s m args below meth c Q D cA base xa nL n0 z0 τ)) (hRc : τ.1 - n0 ≤ R.cells) (hRs : τ.2.1 - z0 ≤ R.slots) (hlk : Cond.methodLink own k Lib.Math.max.name ∈ mGt) (hst1 : Cond.static Lib.Math.max.name ∈ mGt) (hini : Cond.initialized "java/lang/Math" ∈ mGt) (hcd : Cond.code Lib.Math.max.name Lib.Math.max.code 2 (some .int) ∈ mGt) (hd : decode cc f.1 = .ok (.invokestatic k, 3)) : mPt p l e R s m args below meth c Q D cA base xa nL n0 z0 τ f := by
  obtain ⟨hx, hb, hml, hown, hts, hK, hbs, hZ, hfr, hlo, hX⟩ := C
  unfold kMax at h
  split at h
  · next y x r hst =>
    obtain ⟨hsum, b1, b2⟩ := h
    have b3 := b1
    refine ⟨b1, fun a b H locs ls e2 e3 e4 => ?_⟩
    rw [hst]
    refine va_mmax hx hb (by rw [hml]; exact e4.1.symm) hown (hts _ hlk) (hts _ hst1) (hts _ hini) (hts _ hcd) (by omega) ?_ ?_ ?_ hd (b2 a b H locs ls e2 e3 e4)
    · rw [mCv_sum]; omega
    · have : f.2.2.2.1 ≤ τ.1 := b3.1; omega
    · have : f.2.2.2.2.1 ≤ τ.2.1 := b3.2; omega
  · exact h.elim
theorem pt_min (C : mCx p R s m args c own cc nL D cA base n0 xa X) {k : Nat} {f : mFr} (h : kMin f (mPt p l e R s m args below meth c Q D cA base xa nL n0 z0 τ)) (hRc : τ.1 - n0 ≤ R.cells) (hRs : τ.2.1 - z0 ≤ R.slots) (hlk : Cond.methodLink own k Lib.Math.min.name ∈ mGt) (hst1 : Cond.static Lib.Math.min.name ∈ mGt) (hini : Cond.initialized "java/lang/Math" ∈ mGt) (hcd : Cond.code Lib.Math.min.name Lib.Math.min.code 2 (some .int) ∈ mGt) (hd : decode cc f.1 = .ok (.invokestatic k, 3)) : mPt p l e R s m args below meth c Q D cA base xa nL n0 z0 τ f := by
  obtain ⟨hx, hb, hml, hown, hts, hK, hbs, hZ, hfr, hlo, hX⟩ := C
  unfold kMin at h
  split at h
  · next y x r hst =>
    obtain ⟨hsum, b1, b2⟩ := h
    have b3 := b1
    refine ⟨b1, fun a b H locs ls e2 e3 e4 => ?_⟩
    rw [hst]
    refine va_mmin hx hb (by rw [hml]; exact e4.1.symm) hown (hts _ hlk) (hts _ hst1) (hts _ hini) (hts _ hcd) (by omega) ?_ ?_ ?_ hd (b2 a b H locs ls e2 e3 e4)
    · rw [mCv_sum]; omega
    · have : f.2.2.2.1 ≤ τ.1 := b3.1; omega
    · have : f.2.2.2.2.1 ≤ τ.2.1 := b3.2; omega
  · exact h.elim
theorem pt_obj (C : mCx p R s m args c own cc nL D cA base n0 xa X) {k : Nat} {f : mFr} (h : kObj f (mPt p l e R s m args below meth c Q D cA base xa nL n0 z0 τ)) (hlk : Cond.methodLink own k objectInit ∈ mGt) (hin : Cond.instanceMethod objectInit ∈ mGt) (hcd : Cond.code objectInit ⟨#[0xb1]⟩ 1 none ∈ mGt) (hd : decode cc f.1 = .ok (.invokespecial k, 3)) : mPt p l e R s m args below meth c Q D cA base xa nL n0 z0 τ f := by
  obtain ⟨hx, hb, hml, hown, hts, hK, hbs, hZ, hfr, hlo, hX⟩ := C
  unfold kObj at h
  split at h
  · next a r hst =>
    obtain ⟨hsum, h1⟩ := h
    refine pt_st h1 rfl rfl (fun H locs a b ls hl w => ?_)
    rw [hst]
    refine W.objInit hx hb hown (hts _ hlk) (hts _ hin) (hts _ hcd) rfl (by rw [hml]; exact hl.1) rfl hd (by omega) ?_ w
    show 2 * 0 + _ + 12 ≤ _
    rw [mCv_sum]
    omega
  · exact h.elim
end SndN
