/-! CALLS: contracts, and the soundness of whole methods -/
def mSt (D : va_G) (cA : Nat → ClassId) (base : Nat) (xa : Nat → Nat) (σ : mMem) (U : State) : Prop := U.heap.size = base + σ.1 ∧ va_P D mCl (mWs base cA σ) U.heap ∧ va_K D mCl (mTys cA) U ∧ mZ base xa U U.heap
def mRm (d mc ms : Nat) : Room := { frames := d + 9, cells := mc, slots := ms, locals := 60 * d + 300 }
set_option maxRecDepth 100000 in
theorem mRm_fit {R : Room} {d mc ms k : Nat} (hR : d + 10 ≤ R.frames ∧ 60 * d + 360 ≤ R.locals) (h : k ≤ 40) : (mRm d mc ms).frames + 1 ≤ R.frames ∧ 8 + (k + 11) + (mRm d mc ms).locals ≤ R.locals := by
  obtain ⟨h1, h2⟩ := hR
  have e1 : (mRm d mc ms).frames = d + 9 := rfl
  have e2 : (mRm d mc ms).locals = 60 * d + 300 := rfl
  rw [e1, e2]
  generalize R.frames = x at *
  generalize R.locals = z at *
  exact ⟨by omega, by omega⟩
def mQc (D : va_G) (cA : Nat → ClassId) (base : Nat) (xa : Nat → Nat) (r : Option Value) (σ' : mMem) : Array Value → State → Outcome → State → Prop := fun _ st oc t => (oc = .returned (r.map (mCv base xa)) ∧ va_P D mCl (mWs base cA σ') t.heap) ∧ va_F (mA base) st t
def mWy (P : mPrg) (y : Nat) : List Cond := Cond.code (P.1 y) (P.2.1 y) (P.2.2.1 y) (P.2.2.2.1 y) :: mGt
def mCtr (l : Launch) (P : mPrg) (D : va_G) (cA : Nat → ClassId) (base : Nat) (xa : Nat → Nat) (d y : Nat) (as : List Value) (σ : mMem) (r : Option Value) (σ' : mMem) : Prop :=
  Met l (P.1 y) (mWy P y) (mRm d (σ'.1 - σ.1) (σ'.2.1 - σ.2.1)) (va_Pc (as.map (mCv base xa)) (mSt D cA base xa σ)) (mQc D cA base xa r σ') (σ'.1 - σ.1) (σ'.2.1 - σ.2.1) (mA base)
/-- what the tables say of a method -/
def mMok (P : mPrg) (y : Nat) : Prop := Cond.code (P.1 y) (P.2.1 y) (P.2.2.1 y) (P.2.2.2.1 y) ∈ mGt ∧ plainName (P.1 y).cls = true ∧ ((P.1 y).cls ≠ "java/lang/invoke/MethodHandle" ∧ (P.1 y).cls ≠ "java/lang/invoke/VarHandle") ∧ Cond.initialized (P.1 y).cls ∈ mGt ∧ P.2.2.1 y ≤ 40
theorem mWy_in {P : mPrg} {y : Nat} (h : mMok P y) : GoodIn mGt (mWy P y) := fun w hw => by
  rcases List.mem_cons.mp hw with rfl | hw
  · exact mGt_good _ h.1
  · exact mGt_good w hw
section SndC
variable {p : Program} {l : Launch} {e : Env} {R : Room} {s : State} {m : MethodId} {args : Array Value} {below : List Frame} {meth : Method} {c : Code} {Q : State → Prop} {D : va_G} {cA : Nat → ClassId} {base : Nat} {xa : Nat → Nat} {nL n0 z0 : Nat} {τ : mMem} {own : String} {cc : ByteArray} {X : Nat × (Nat → Int32)} {P : mPrg}
theorem mSt_blind {av : List Value} {σ : mMem} : FrameBlind (va_Pc av (mSt D cA base xa σ)) := fun a U g mk q => by
  obtain ⟨q0, q1, q2, q3, q4⟩ := q
  exact ⟨q0, q1, q2, va_K.moved (u := U) (U := U.calling g mk a) (Vm.Alike.refl U.vm) q3, mZ.same (s := U) rfl q4⟩
/-- behind a call -/
theorem pt_ret {f g : mFr} {mc ms : Nat} {as : Array Value} {rest : List Value} {rv : Option Value} {σ1 : mMem} (hs : s.heap.size = base + n0) (hg : mPt p l e R s m args below meth c Q D cA base xa nL n0 z0 τ g) (hl : g.2.1 = f.2.1) (hσ : g.2.2.2 = σ1) (hpc : g.1 = f.1 + 3) (hst : g.2.2.1 = rv.toList ++ rest) (h1 : f.2.2.2.1 + mc = σ1.1) (h2 : f.2.2.2.2.1 + ms = σ1.2.1)
    (hr : ∀ (H : Heap) (locs : List Loc) (a b : Nat) (ls : Array Slot), H.size = base + f.2.2.2.1 → va_P D mCl (mWs base cA f.2.2.2) H → va_S (mA base) s.heap H locs → mLh base xa ls nL f.2.1 → a + mc ≤ τ.1 - n0 → b + ms ≤ τ.2.1 - z0 →
      va_Run p l e R s m args below meth c H locs a b mc ms (F0 m f.1 ls (f.2.2.1.map (mCv base xa))) (rest.map (mCv base xa)) (mQc D cA base xa rv σ1 as) (mA base)) : mPt p l e R s m args below meth c Q D cA base xa nL n0 z0 τ f := by
  obtain ⟨⟨g1, g2⟩, g3⟩ := hg
  rw [hσ] at g1 g2 g3
  rw [hl, hpc, hst] at g3
  refine ⟨⟨by omega, by omega⟩, fun a b H locs ls q2 q3 q4 => ?_⟩
  refine W_full hs a q2 q3 (fun hz => ?_)
  intro T hT X
  obtain ⟨v, st₀, t, T', L, h0, X', hL, e1, e2, ⟨⟨hv, hP1⟩, hz1, hk⟩, st⟩ := hr H locs _ _ ls hz q2 q3 q4 (by omega) (by omega) T hT X
  cases hv
  rw [h0] at hz1 hk
  have w := g3 (by omega) (by omega) T'.heap (locs ++ L) ls (by rw [e1]; exact hP1) ⟨Nat.le_trans q3.1 (by rw [e1]; exact hz1), fun q h3 h4 => by rw [e1, hk q (Nat.lt_of_lt_of_le h3 q3.1) h4]; exact q3.2.1 q h3 h4, fun q hq => by
      rcases List.mem_append.mp hq with h | h
      · exact q3.2.2 q h
      · exact hL q h⟩ q4
  rw [← h1, ← h2] at w
  rw [show f.2.2.2.1 + mc - n0 = f.2.2.2.1 - n0 + mc by omega, show f.2.2.2.2.1 + ms - z0 = f.2.2.2.2.1 - z0 + ms by omega] at w
  have e9 : (rv.toList ++ rest).map (mCv base xa) = (rv.map (mCv base xa)).toList ++ rest.map (mCv base xa) := by cases rv <;> rfl
  rw [e9] at w
  obtain ⟨t2, a1, b1⟩ := w T' rfl X'
  exact ⟨t2, st t2 a1, b1⟩
theorem mPre {H : Heap} {locs : List Loc} {σ : mMem} {av : List Value} (hK : va_K D mCl (mTys cA) s) (hZ : mZ base xa s s.heap) (hz : H.size = base + σ.1) (hP : va_P D mCl (mWs base cA σ) H) (hS : va_S (mA base) s.heap H locs) : ∀ U : State, U.heap = H → s.WarmedH U.vm → va_Pc av (mSt D cA base xa σ) av.toArray U := fun U hU hW =>
  ⟨rfl, by rw [hU]; exact hz, by rw [hU]; exact hP, va_K.moved hW.alike hK, by rw [hU]; exact (hZ.kept hS.2.1).warm hW⟩
theorem pt_callB (C : mCx p R s m args c own cc nL D cA base n0 xa X) {d mi mc ms n : Nat} (hM : mMok P mi) (hR : d + 10 ≤ R.frames ∧ 60 * d + 360 ≤ R.locals) {k : Nat} (hlk : Cond.methodLink own k (P.1 mi) ∈ mGt) (hn : (parseMethodDescriptor (P.1 mi).desc).map (fun q => q.parameters.length) = some n) : CallB R s args own k (P.1 mi) (P.2.1 mi) (P.2.2.1 mi) (P.2.2.2.1 mi) (mWy P mi) (mRm d mc ms) mc ms n := by
  obtain ⟨hx, hb, hml, hown, hts, hK, hbs, hZ, hfr, hlo, hX⟩ := C
  have := hM.2.2.2.2
  exact callB_of n hts (mWy_in hM) rfl rfl rfl (hts _ hM.2.2.2.1) (hts _ hlk) ⟨hM.2.2.1.1, hM.2.2.1.2, hn⟩ (mRm_fit hR this)
theorem pt_callN (C : mCx p R s m args c own cc nL D cA base n0 xa X) {d mi mc ms n : Nat} (hM : mMok P mi) (hR : d + 10 ≤ R.frames ∧ 60 * d + 360 ≤ R.locals) {k : Nat} {host : String} (hlk : (own, k, P.1 mi, host) ∈ mNs) (hn : (parseMethodDescriptor (P.1 mi).desc).map (fun q => q.parameters.length) = some n) : va_CN R s args own k (P.1 mi) host (P.2.1 mi) (P.2.2.1 mi) (P.2.2.2.1 mi) (mWy P mi) (mRm d mc ms) mc ms n := by
  obtain ⟨hx, hb, hml, hown, hts, hK, hbs, hZ, hfr, hlo, hX⟩ := C
  have := hM.2.2.2.2
  exact va_cnB n hts (mWy_in hM) rfl rfl rfl (hZ.1 _ hlk) (hts _ hM.2.2.2.1) ⟨hM.2.2.1.1, hM.2.2.1.2, hn⟩ (mRm_fit hR this)
theorem mCv_rev (as rest : List Value) : (as.reverse ++ rest).map (mCv base xa) = (as.map (mCv base xa)).reverse ++ rest.map (mCv base xa) := by
  rw [List.map_append, List.map_reverse]
/-- a call on an object -/
theorem pt_callV (C : mCx p R s m args c own cc nL D cA base n0 xa X) {d mi na ci k : Nat} {E : mEnv} {f : mFr} (h : kCallV E mi na ci f (mPt p l e R s m args below meth c Q D cA base xa nL n0 z0 τ)) (hM : mMok P mi) (hR : d + 10 ≤ R.frames ∧ 60 * d + 360 ≤ R.locals) (hRc : τ.1 - n0 ≤ R.cells) (hRs : τ.2.1 - z0 ≤ R.slots)
    (hE : ∀ as σ rv σ1, E.2.2.1 mi as σ rv σ1 → (σ.1 ≤ σ1.1 ∧ σ.2.1 ≤ σ1.2.1) ∧ mCtr l P D cA base xa d mi as σ rv σ1) (hci : ci < 13) (hcn : mCn ci = (P.1 mi).cls) (hlk : Cond.methodLink own k (P.1 mi) ∈ mGt) (hin : Cond.instanceMethod (P.1 mi) ∈ mGt) (hse : Cond.selects (P.1 mi).cls (P.1 mi) (P.1 mi) ∈ mGt)
    (hn : (parseMethodDescriptor (P.1 mi).desc).map (fun q => q.parameters.length) = some (na - 1)) (hd : decode cc f.1 = .ok (.invokevirtual k, 3)) : mPt p l e R s m args below meth c Q D cA base xa nL n0 z0 τ f := by
  have C0 := C
  obtain ⟨hx, hb, hml, hown, hts, hK, hbs, hZ, hfr, hlo, hX⟩ := C
  obtain ⟨i, as, rest, rv, σ1, h1, h2, h3, h4, h5, h6⟩ := h
  obtain ⟨hi, hk⟩ := pt_bl h3
  have hi := Nat.blt_eq.mp hi
  have hk := Nat.eq_of_beq_eq_true hk
  obtain ⟨⟨l1, l2⟩, hct⟩ := hE _ _ _ _ h5
  refine pt_ret (as := ((Value.ref i :: as).map (mCv base xa)).toArray) (rest := rest) (rv := rv) (σ1 := σ1) (mc := σ1.1 - f.2.2.2.1) (ms := σ1.2.1 - f.2.2.2.2.1) hbs h6 rfl rfl rfl rfl (by omega) (by omega) (fun H locs a b ls hz q2 q3 q4 w1 w2 => ?_)
  refine va_runV (As := as.map (mCv base xa)) (b := base + i) (C := (P.1 mi).cls) ⟨hx, hb, hml, hown, hts⟩ hct ⟨pt_callB C0 hM hR hlk hn, hts _ hin, hts _ hse⟩ ⟨mSt_blind, ?_, mPre hK hZ hz q2 q3⟩ rfl (by rw [List.length_map]; omega) q4.1 ?_ ?_ hd ⟨by omega, by omega⟩
  · have hv := va_recv hK q2 (mCl_at ci hci) (mWs_eq hi (mCell_obj hk hci))
    rw [← hcn]
    exact hv
  · show f.2.2.1.map (mCv base xa) = _
    rw [h1, mCv_rev]
    rfl
  · show 2 * 0 + _ ≤ 8
    rw [mCv_sum]
    omega
/-- a static call -/
theorem pt_callS (C : mCx p R s m args c own cc nL D cA base n0 xa X) {d mi na k : Nat} {E : mEnv} {f : mFr} (h : kCall E mi na f (mPt p l e R s m args below meth c Q D cA base xa nL n0 z0 τ)) (hM : mMok P mi) (hR : d + 10 ≤ R.frames ∧ 60 * d + 360 ≤ R.locals) (hRc : τ.1 - n0 ≤ R.cells) (hRs : τ.2.1 - z0 ≤ R.slots)
    (hE : ∀ as σ rv σ1, E.2.2.1 mi as σ rv σ1 → (σ.1 ≤ σ1.1 ∧ σ.2.1 ≤ σ1.2.1) ∧ mCtr l P D cA base xa d mi as σ rv σ1) (hlk : Cond.methodLink own k (P.1 mi) ∈ mGt ∨ ∃ host, (own, k, P.1 mi, host) ∈ mNs) (hst : Cond.static (P.1 mi) ∈ mGt)
    (hn : (parseMethodDescriptor (P.1 mi).desc).map (fun q => q.parameters.length) = some na) (hd : decode cc f.1 = .ok (.invokestatic k, 3)) : mPt p l e R s m args below meth c Q D cA base xa nL n0 z0 τ f := by
  have C0 := C
  obtain ⟨hx, hb, hml, hown, hts, hK, hbs, hZ, hfr, hlo, hX⟩ := C
  obtain ⟨as, rest, rv, σ1, h1, h2, h4, h5, h6⟩ := h
  obtain ⟨⟨l1, l2⟩, hct⟩ := hE _ _ _ _ h5
  refine pt_ret (as := (as.map (mCv base xa)).toArray) (rest := rest) (rv := rv) (σ1 := σ1) (mc := σ1.1 - f.2.2.2.1) (ms := σ1.2.1 - f.2.2.2.2.1) hbs h6 rfl rfl rfl rfl (by omega) (by omega) (fun H locs a b ls hz q2 q3 q4 w1 w2 => ?_)
  have hs1 : (F0 m f.1 ls (f.2.2.1.map (mCv base xa))).stack = (as.map (mCv base xa)).reverse ++ rest.map (mCv base xa) := by
    show f.2.2.1.map (mCv base xa) = _
    rw [h1, mCv_rev]
  have hs2 : 2 * (F0 m f.1 ls (f.2.2.1.map (mCv base xa))).monitorRoom + ((rest.map (mCv base xa)).map fun v => v.category).sum ≤ 8 := by
    show 2 * 0 + _ ≤ 8
    rw [mCv_sum]
    omega
  rcases hlk with hlk | ⟨host, hlk⟩
  · exact va_runS (As := as.map (mCv base xa)) ⟨hx, hb, hml, hown, hts⟩ hct ⟨pt_callB C0 hM hR hlk hn, hts _ hst⟩ ⟨mSt_blind, mPre hK hZ hz q2 q3⟩ rfl (by rw [List.length_map]; omega) q4.1 hs1 hs2 hd ⟨by omega, by omega⟩
  · exact va_runSN (As := as.map (mCv base xa)) ⟨hx, hb, hml, hown, hts⟩ hct ⟨pt_callN C0 hM hR hlk hn, hts _ hst, trivial⟩ ⟨mSt_blind, mPre hK hZ hz q2 q3⟩ rfl (by rw [List.length_map]; omega) q4.1 hs1 hs2 hd ⟨by omega, by omega⟩
/-- a constructor's call -/
theorem pt_callI (C : mCx p R s m args c own cc nL D cA base n0 xa X) {d mi na ci k : Nat} {E : mEnv} {f : mFr} (h : kCallV E mi na ci f (mPt p l e R s m args below meth c Q D cA base xa nL n0 z0 τ)) (hM : mMok P mi) (hR : d + 10 ≤ R.frames ∧ 60 * d + 360 ≤ R.locals) (hRc : τ.1 - n0 ≤ R.cells) (hRs : τ.2.1 - z0 ≤ R.slots)
    (hE : ∀ as σ rv σ1, E.2.2.1 mi as σ rv σ1 → (σ.1 ≤ σ1.1 ∧ σ.2.1 ≤ σ1.2.1) ∧ mCtr l P D cA base xa d mi as σ rv σ1) (hlk : Cond.methodLink own k (P.1 mi) ∈ mGt ∨ ∃ host, (own, k, P.1 mi, host) ∈ mNs) (hin : Cond.instanceMethod (P.1 mi) ∈ mGt) (hnm : (P.1 mi).name = "<init>") (hre : P.2.2.2.1 mi = none)
    (hn : (parseMethodDescriptor (P.1 mi).desc).map (fun q => q.parameters.length) = some (na - 1)) (hd : decode cc f.1 = .ok (.invokespecial k, 3)) : mPt p l e R s m args below meth c Q D cA base xa nL n0 z0 τ f := by
  have C0 := C
  obtain ⟨hx, hb, hml, hown, hts, hK, hbs, hZ, hfr, hlo, hX⟩ := C
  obtain ⟨i, bs, rest, rv, σ1, h1, h2, h3, h4, h5, h6⟩ := h
  obtain ⟨⟨l1, l2⟩, hct⟩ := hE _ _ _ _ h5
  refine pt_ret (as := ((Value.ref i :: bs).map (mCv base xa)).toArray) (rest := rest) (rv := rv) (σ1 := σ1) (mc := σ1.1 - f.2.2.2.1) (ms := σ1.2.1 - f.2.2.2.2.1) hbs h6 rfl rfl rfl rfl (by omega) (by omega) (fun H locs a b ls hz q2 q3 q4 w1 w2 => ?_)
  have hs1 : (F0 m f.1 ls (f.2.2.1.map (mCv base xa))).stack = (bs.map (mCv base xa)).reverse ++ .ref (base + i) :: rest.map (mCv base xa) := by
    show f.2.2.1.map (mCv base xa) = _
    rw [h1, mCv_rev]
    rfl
  have hs2 : 2 * (F0 m f.1 ls (f.2.2.1.map (mCv base xa))).monitorRoom + ((rest.map (mCv base xa)).map fun v => v.category).sum ≤ 8 := by
    show 2 * 0 + _ ≤ 8
    rw [mCv_sum]
    omega
  have hlen : (bs.map (mCv base xa)).length = na - 1 := by rw [List.length_map]; omega
  rcases hlk with hlk | ⟨host, hlk⟩
  · have hB := pt_callB (mc := σ1.1 - f.2.2.2.1) (ms := σ1.2.1 - f.2.2.2.2.1) C0 hM hR hlk hn
    rw [hre] at hB
    exact va_runI (As := bs.map (mCv base xa)) (b := base + i) ⟨hx, hb, hml, hown, hts⟩ hct ⟨hB, hnm, hts _ hin⟩ ⟨mSt_blind, mPre hK hZ hz q2 q3⟩ rfl hlen q4.1 hs1 hs2 hd ⟨by omega, by omega⟩
  · have hB := pt_callN (mc := σ1.1 - f.2.2.2.1) (ms := σ1.2.1 - f.2.2.2.2.1) C0 hM hR hlk hn
    rw [hre] at hB
    exact va_runIN (As := bs.map (mCv base xa)) (b := base + i) ⟨hx, hb, hml, hown, hts⟩ hct ⟨hB, hnm, hts _ hin⟩ ⟨mSt_blind, mPre hK hZ hz q2 q3⟩ rfl hlen q4.1 hs1 hs2 hd ⟨by omega, by omega⟩
end SndC
