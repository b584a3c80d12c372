/-! TEXTS: String.length, charAt, indexOf on the two texts. Contracts of the JDK's own methods: nothing is written, nothing made -/
def sRm (d : Nat) : Room := { frames := d, cells := 0, slots := 0, locals := 40 * d }
def sS (D : va_G) (cA : Nat → ClassId) (base : Nat) (xa adV : Nat → Nat) (σ : mMem) (U : State) : Prop := mSt D cA base xa σ U ∧ vk_S 2 mLenS mBytS (fun i => xa (i + 1)) adV (mA base) U U.heap
def sQ (D : va_G) (cA : Nat → ClassId) (base : Nat) (σ : mMem) (r : Option Value) : Array Value → State → Outcome → State → Prop := fun _ st oc t => (oc = .returned r ∧ va_P D mCl (mWs base cA σ) t.heap) ∧ va_F (mA base) st t
def sM (l : Launch) (D : va_G) (cA : Nat → ClassId) (base : Nat) (xa adV : Nat → Nat) (σ : mMem) (d : Nat) (y : MethodName) (bytes : ByteArray) (maxL : Nat) (ret : Option FieldType) (as : List Value) (r : Option Value) : Prop := Met l y (Cond.code y bytes maxL ret :: mGt) (sRm d) (va_Pc as (sS D cA base xa adV σ)) (sQ D cA base σ r) 0 0 (mA base)
def sC (D : va_G) (cA : Nat → ClassId) (base : Nat) (xa adV : Nat → Nat) (σ : mMem) (p : Program) (s : State) (m : MethodId) (meth : Method) (c : Code) (args : Array Value) (own : String) (cc : ByteArray) (nL : Nat) (ret : Option FieldType) : Prop := p.tables.exec = Jvm.exec ∧ c.code = cc ∧ c.maxLocals = nL ∧ s.vm.findClass own = some m.cls ∧ (∀ w ∈ mGt, w.before args s = true) ∧ va_K D mCl (mTys cA) s ∧ s.heap.size = base + σ.1 ∧ mZ base xa s s.heap ∧ meth.sig.returnType = ret ∧ meth.locks = false ∧ vk_S 2 mLenS mBytS (fun i => xa (i + 1)) adV (mA base) s s.heap
theorem sM_i {l : Launch} {D : va_G} {cA : Nat → ClassId} {base : Nat} {xa adV : Nat → Nat} {σ : mMem} {d : Nat} {y : MethodName} {bytes : ByteArray} {maxL : Nat} {ret : Option FieldType} {as : List Value} {r : Option Value} (hpn : plainName y.cls = true) (hlen : (lg_sl as).length ≤ maxL)
    (body : ∀ (p : Program) (e : Env) (s : State) (m : MethodId) (below : List Frame) (meth : Method) (c : Code) (ls : Array Slot), sC D cA base xa adV σ p s m meth c as.toArray y.cls bytes maxL ret → va_P D mCl (mWs base cA σ) s.heap → lv_has ls maxL (lv_args 0 as) → W p l e (sRm d) s m as.toArray below meth c s.heap [] 0 0 (MQ below (sQ D cA base σ r) as.toArray s 0 0 (mA base)) (F0 m 0 ls [])) : sM l D cA base xa adV σ d y bytes maxL ret as r := by
  unfold sM
  refine Met.ofW (cc := bytes) (maxL := maxL) (ret := ret) hpn rfl ?_
  intro p e s m args below meth c s₁ B hml hv
  obtain ⟨rfl, ⟨hsz, hPP, hK, hZ⟩, hV⟩ := hv
  have hts := atoms_spec (ws := Cond.code y bytes maxL ret :: mGt) B.pre
  rw [lg_entry_eq]
  exact body p e s m below meth c _ ⟨B.exec, B.bytes, hml, findClass_of_methodNamed B.named, fun w hw => hts w (List.mem_cons_of_mem _ hw), hK, hsz, hZ, B.returns, B.notSynchronized, hV⟩ hPP (lv_entry as hlen)
/-- the words of a callee -/
def sW (y : MethodName) (bytes : ByteArray) (maxL : Nat) (ret : Option FieldType) (n : Nat) : Prop := Cond.code y bytes maxL ret ∈ mGt ∧ Cond.initialized y.cls ∈ mGt ∧ (y.cls ≠ "java/lang/invoke/MethodHandle" ∧ y.cls ≠ "java/lang/invoke/VarHandle" ∧ (parseMethodDescriptor y.desc).map (fun d => d.parameters.length) = some n)
section SText
variable {p : Program} {l : Launch} {e : Env} {R : Room} {s : State} {m : MethodId} {args : Array Value} {below : List Frame} {meth : Method} {c : Code} {Q : State → Prop} {D : va_G} {cA : Nat → ClassId} {base : Nat} {xa adV : Nat → Nat} {σ : mMem} {own : String} {cc : ByteArray} {nL : Nat} {ret : Option FieldType} {pc : Nat} {ls : Array Slot} {H : Heap} {locs : List Loc} {rest st : List Value}
theorem sS_blind {av : List Value} : FrameBlind (va_Pc av (sS D cA base xa adV σ)) := fun a U g mk q => by
  obtain ⟨q0, q1, q2⟩ := q
  have w := mSt_blind (D := D) (cA := cA) (base := base) (xa := xa) (av := av) (σ := σ) a U g mk ⟨q0, q1⟩
  exact ⟨w.1, w.2, vk_S.moved (u := U) (U := U.calling g mk a) (Vm.Alike.refl U.vm) q2⟩
theorem sPre {av : List Value} (hK : va_K D mCl (mTys cA) s) (hZ : mZ base xa s s.heap) (hV : vk_S 2 mLenS mBytS (fun i => xa (i + 1)) adV (mA base) s s.heap) (hz : H.size = base + σ.1) (hP : va_P D mCl (mWs base cA σ) H) (hS : va_S (mA base) s.heap H locs) : ∀ U : State, U.heap = H → s.WarmedH U.vm → va_Pc av (sS D cA base xa adV σ) av.toArray U := fun U hU hW => by
  have w := mPre (av := av) hK hZ hz hP hS U hU hW
  exact ⟨w.1, w.2, by rw [hU]; exact (hV.kept hS.2.1).moved hW.alike⟩
theorem sCallB (hts : ∀ w ∈ mGt, w.before args s = true) {d k n maxL : Nat} {y : MethodName} {bytes : ByteArray} {rt : Option FieldType} (hw : sW y bytes maxL rt n) (hlk : Cond.methodLink own k y ∈ mGt) (hR : d + 1 ≤ R.frames ∧ 8 + (maxL + 11) + 40 * d ≤ R.locals) : CallB R s args own k y bytes maxL rt (Cond.code y bytes maxL rt :: mGt) (sRm d) 0 0 n :=
  callB_of n hts (fun w hx => by
    rcases List.mem_cons.mp hx with rfl | hx
    · exact mGt_good _ hw.1
    · exact mGt_good w hx) rfl rfl rfl (hts _ hw.2.1) (hts _ hlk) hw.2.2 hR
theorem sRun {r : Option Value} {as : Array Value} (hsz : s.heap.size = base + σ.1) (hP : va_P D mCl (mWs base cA σ) H) (hS : va_S (mA base) s.heap H locs) (hr : H.size = base + σ.1 → va_Run p l e R s m args below meth c H locs 0 0 0 0 (F0 m pc ls st) rest (sQ D cA base σ r as) (mA base))
    (kk : ∀ (H1 : Heap) (locs1 : List Loc), va_P D mCl (mWs base cA σ) H1 → va_S (mA base) s.heap H1 locs1 → W p l e R s m args below meth c H1 locs1 0 0 Q (F0 m (pc + 3) ls (r.toList ++ rest))) : W p l e R s m args below meth c H locs 0 0 Q (F0 m pc ls st) := by
  have key : H.size = base + σ.1 → W p l e R s m args below meth c H locs 0 0 Q (F0 m pc ls st) := by
    intro hz T hT X
    obtain ⟨v, st₀, t, T', L, h0, X', hL, e1, e2, ⟨⟨hv, hP1⟩, hz1, hk⟩, go⟩ := hr hz T hT X
    injection hv with hv
    subst hv
    rw [h0] at hz1 hk
    have w := kk T'.heap (locs ++ L) (by rw [e1]; exact hP1) ⟨Nat.le_trans hS.1 (by rw [e1]; exact hz1), fun q h3 h4 => by rw [e1, hk q (Nat.lt_of_lt_of_le h3 hS.1) h4]; exact hS.2.1 q h3 h4, fun q hq => by
      rcases List.mem_append.mp hq with h | h
      · exact hS.2.2 q h
      · exact hL q h⟩
    obtain ⟨t2, a1, b1⟩ := w T' rfl X'
    exact ⟨t2, go t2 a1, b1⟩
  have w := W_full (p := p) (l := l) (e := e) (R := R) (m := m) (args := args) (below := below) (meth := meth) (c := c) (Q := Q) (slots := 0) (g := F0 m pc ls st) (n0 := σ.1) hsz (Nat.le_refl _) hP hS (fun hz => by rw [Nat.sub_self]; exact key hz)
  rw [Nat.sub_self] at w
  exact w
theorem sCallV {d k n maxL a : Nat} {y : MethodName} {bytes : ByteArray} {rt : Option FieldType} {As : List Value} {r : Option Value} (C : sC D cA base xa adV σ p s m meth c args own cc nL ret) (hct : sM l D cA base xa adV σ d y bytes maxL rt (.ref a :: As) r) (hw : sW y bytes maxL rt n) (hlk : Cond.methodLink own k y ∈ mGt) (hin : Cond.instanceMethod y ∈ mGt) (hse : Cond.selects y.cls y y ∈ mGt) (hR : d + 1 ≤ R.frames ∧ 8 + (maxL + 11) + 40 * d ≤ R.locals)
    (hrecv : ∀ (H : Heap) (locs : List Loc), va_S (mA base) s.heap H locs → ∃ cell : Cell, H[a]? = some cell ∧ cell.vm.isStatics = false ∧ s.vm.findClass y.cls = some cell.cls) (hP : va_P D mCl (mWs base cA σ) H) (hS : va_S (mA base) s.heap H locs) (hls : ls.size = nL) (hn : As.length = n) (hst : st = As.reverse ++ .ref a :: rest) (hcat : (rest.map fun v => v.category).sum ≤ 8) (hd : decode cc pc = .ok (.invokevirtual k, 3))
    (kk : ∀ (H1 : Heap) (locs1 : List Loc), va_P D mCl (mWs base cA σ) H1 → va_S (mA base) s.heap H1 locs1 → W p l e R s m args below meth c H1 locs1 0 0 Q (F0 m (pc + 3) ls (r.toList ++ rest))) : W p l e R s m args below meth c H locs 0 0 Q (F0 m pc ls st) := by
  obtain ⟨hx, hb, hml, hown, hts, hK, hsz, hZ, hret, hlk2, hV⟩ := C
  refine sRun (as := (Value.ref a :: As).toArray) hsz hP hS (fun hz => ?_) kk
  exact va_runV (As := As) (b := a) (C := y.cls) ⟨hx, hb, hml, hown, hts⟩ hct ⟨sCallB hts hw hlk hR, hts _ hin, hts _ hse⟩ ⟨sS_blind, hrecv H locs hS, sPre hK hZ hV hz hP hS⟩ rfl hn hls hst (by show 2 * 0 + _ ≤ 8; omega) hd ⟨by show 0 + 0 ≤ _; omega, by show 0 + 0 ≤ _; omega⟩
theorem sCallS {d k n maxL : Nat} {y : MethodName} {bytes : ByteArray} {rt : Option FieldType} {As : List Value} {r : Option Value} (C : sC D cA base xa adV σ p s m meth c args own cc nL ret) (hct : sM l D cA base xa adV σ d y bytes maxL rt As r) (hw : sW y bytes maxL rt n) (hlk : Cond.methodLink own k y ∈ mGt) (hst2 : Cond.static y ∈ mGt) (hR : d + 1 ≤ R.frames ∧ 8 + (maxL + 11) + 40 * d ≤ R.locals)
    (hP : va_P D mCl (mWs base cA σ) H) (hS : va_S (mA base) s.heap H locs) (hls : ls.size = nL) (hn : As.length = n) (hst : st = As.reverse ++ rest) (hcat : (rest.map fun v => v.category).sum ≤ 8) (hd : decode cc pc = .ok (.invokestatic k, 3))
    (kk : ∀ (H1 : Heap) (locs1 : List Loc), va_P D mCl (mWs base cA σ) H1 → va_S (mA base) s.heap H1 locs1 → W p l e R s m args below meth c H1 locs1 0 0 Q (F0 m (pc + 3) ls (r.toList ++ rest))) : W p l e R s m args below meth c H locs 0 0 Q (F0 m pc ls st) := by
  obtain ⟨hx, hb, hml, hown, hts, hK, hsz, hZ, hret, hlk2, hV⟩ := C
  refine sRun (as := As.toArray) hsz hP hS (fun hz => ?_) kk
  exact va_runS (As := As) ⟨hx, hb, hml, hown, hts⟩ hct ⟨sCallB hts hw hlk hR, hts _ hst2⟩ ⟨sS_blind, sPre hK hZ hV hz hP hS⟩ rfl hn hls hst (by show 2 * 0 + _ ≤ 8; omega) hd ⟨by show 0 + 0 ≤ _; omega, by show 0 + 0 ≤ _; omega⟩
/-- ends -/
theorem sRet {v : Int32} {ty : FieldType} {d : Nat} (C : sC D cA base xa adV σ p s m meth c args own cc nL (some ty)) (hn : narrow ty (.int v) = .int v) (hP : va_P D mCl (mWs base cA σ) H) (hS : va_S (mA base) s.heap H locs) (hd : decode cc pc = .ok (.ireturn, 1)) : W p l e (sRm d) s m args below meth c H locs 0 0 (MQ below (sQ D cA base σ (some (.int v))) args s 0 0 (mA base)) (F0 m pc ls [.int v]) := by
  obtain ⟨hx, hb, hml, hown, hts, hK, hsz, hZ, hret, hlk2, hV⟩ := C
  exact W.zret (v := v) (ty := ty) hx hb hret hn (fun t ht hW => ⟨⟨rfl, by rw [ht]; exact hP⟩, hS.F ht⟩) hS.2.2 hd hlk2
theorem sRetv {d : Nat} (C : sC D cA base xa adV σ p s m meth c args own cc nL none) (hP : va_P D mCl (mWs base cA σ) H) (hS : va_S (mA base) s.heap H locs) (hd : decode cc pc = .ok (.return_, 1)) : W p l e (sRm d) s m args below meth c H locs 0 0 (MQ below (sQ D cA base σ none) args s 0 0 (mA base)) (F0 m pc ls []) := by
  obtain ⟨hx, hb, hml, hown, hts, hK, hsz, hZ, hret, hlk2, hV⟩ := C
  exact W.vret hx hb hret (fun t ht hW => ⟨⟨rfl, by rw [ht]; exact hP⟩, hS.F ht⟩) hS.2.2 hd hlk2
end SText
