/-! THE PROGRAM'S OWN CHECK, and the soundness of whole methods -/
def mLen (i : Instr) : Nat := match i with
  | .bipush _ => 2
  | .sipush _ => 3
  | .ldc _ => 2
  | .ldc_w _ => 3
  | .ldc2_w _ => 3
  | .iload _ => 2
  | .lload _ => 2
  | .aload _ => 2
  | .istore _ => 2
  | .lstore _ => 2
  | .astore _ => 2
  | .iinc _ _ => 3
  | .ifCond _ _ => 3
  | .if_icmp _ _ => 3
  | .goto _ => 3
  | .getfield _ => 3
  | .putfield _ => 3
  | .new _ => 3
  | .newarray _ => 2
  | .multianewarray _ _ => 4
  | .invokevirtual _ => 3
  | .invokespecial _ => 3
  | .invokestatic _ => 3
  | _ => 1
/-- calls on texts -/
def mIvT (own : String) (k : Nat) (nt : List Nat) : Prop := (nt = [9005] ∧ Cond.methodLink own k yJ0_length_8abf5 ∈ mGt) ∨ (nt = [9006] ∧ Cond.methodLink own k yJ0_charAt_5068e ∈ mGt) ∨ (nt = [9007] ∧ Cond.methodLink own k yJ0_indexOf_0f7a4 ∈ mGt)
def mFl (own : String) (k ci fi : Nat) : Prop := ci < 13 ∧ fi < mNF ci ∧ Cond.fieldLink own k (mTt ci fi).1 (mTt ci fi).2.1 (mTt ci fi).2.2.1 ∈ mGt
def mPn (P : mPrg) (mi n : Nat) : Prop := (parseMethodDescriptor (P.1 mi).desc).map (fun q => q.parameters.length) = some n
/-- what an instruction links to -/
def mExG (P : mPrg) (NM : Nat) (own nm : String) (pc : Nat) (o : mOp) : Prop := match o.1 with
  | .iconst n => o.2.1 = .int (Int32.ofInt n)
  | .bipush n => o.2.1 = .int (Int8.ofInt n).toInt32
  | .sipush n => o.2.1 = .int (Int16.ofInt n).toInt32
  | .lconst n => o.2.1 = .long (Int64.ofNat n.val)
  | .ldc k => (∃ x, o.2.1 = .int x ∧ Cond.constant own k x ∈ mGt) ∨ (own = RX9 ∧ ((k = 26 ∧ o.2.1 = .retAddr 1) ∨ (k = 81 ∧ o.2.1 = .retAddr 2)))
  | .ldc_w k => ∃ x, o.2.1 = .int x ∧ Cond.constant own k x ∈ mGt
  | .ldc2_w k => ∃ x, o.2.1 = .long x ∧ Cond.constantLong own k x ∈ mGt
  | .iinc _ n => o.2.1 = .int (Int32.ofInt n)
  | .ifCond _ off => ∃ t : Nat, o.2.2 = [t] ∧ (pc : Int) + off = t
  | .if_icmp _ off => ∃ t : Nat, o.2.2 = [t] ∧ (pc : Int) + off = t
  | .goto off => ∃ t : Nat, o.2.2 = [t] ∧ (pc : Int) + off = t
  | .tableswitch d _ _ offs => ∃ (td : Nat) (ts : List Nat), o.2.2 = td :: ts ∧ (pc : Int) + d = td ∧ offs.toList.map (fun q => (pc : Int) + q) = ts.map Int.ofNat
  | .getfield k => ∃ ci fi, o.2.2 = [ci, fi] ∧ mFl own k ci fi
  | .putfield k => ∃ ci fi, o.2.2 = [ci, fi] ∧ mFl own k ci fi ∧ ((mTt ci fi).2.2.2 = false ∨ ((mTt ci fi).2.2.2 = true ∧ nm = "<init>" ∧ (mTt ci fi).1 = own))
  | .new k => ∃ ci, o.2.2 = [ci] ∧ ci < 13 ∧ Cond.classLink own k (mCn ci) ∈ mGt
  | .newarray at1 => ∃ tag, o.2.2 = [tag] ∧ ((tag = 0 ∧ at1 = .int) ∨ (tag = 1 ∧ at1 = .byte) ∨ (tag = 2 ∧ at1 = .boolean) ∨ (tag = 3 ∧ at1 = .long))
  | .multianewarray k d => d = 2 ∧ Cond.classLink own k "[[I" ∈ mGt
  | .invokevirtual k => mIvT own k o.2.2 ∨ ∃ mi na ci, o.2.2 = [mi, na, ci] ∧ mi < NM ∧ ci < 13 ∧ mCn ci = (P.1 mi).cls ∧ Cond.methodLink own k (P.1 mi) ∈ mGt ∧ Cond.instanceMethod (P.1 mi) ∈ mGt ∧ Cond.selects (P.1 mi).cls (P.1 mi) (P.1 mi) ∈ mGt ∧ mPn P mi (na - 1)
  | .invokespecial k => (o.2.2 = [9004] ∧ Cond.methodLink own k objectInit ∈ mGt) ∨ ∃ mi na ci, o.2.2 = [mi, na, ci] ∧ mi < NM ∧ (Cond.methodLink own k (P.1 mi) ∈ mGt ∨ ∃ host, (own, k, P.1 mi, host) ∈ mNs) ∧ Cond.instanceMethod (P.1 mi) ∈ mGt ∧ (P.1 mi).name = "<init>" ∧ P.2.2.2.1 mi = none ∧ mPn P mi (na - 1)
  | .invokestatic k => (o.2.2 = [9001] ∧ Cond.methodLink own k arraycopyName ∈ mGt) ∨ (o.2.2 = [9002] ∧ Cond.methodLink own k Lib.Math.max.name ∈ mGt) ∨ (o.2.2 = [9003] ∧ Cond.methodLink own k Lib.Math.min.name ∈ mGt) ∨
      ∃ mi na, o.2.2 = [mi, na] ∧ mi < NM ∧ (Cond.methodLink own k (P.1 mi) ∈ mGt ∨ ∃ host, (own, k, P.1 mi, host) ∈ mNs) ∧ Cond.static (P.1 mi) ∈ mGt ∧ mPn P mi na
  | _ => True
def mEx (P : mPrg) (NM y pc : Nat) (o : mOp) : Prop := mExG P NM (P.1 y).cls (P.1 y).name pc o
def mDec (cc : ByteArray) (pc : Nat) (i : Instr) : Prop := match i with
  | .tableswitch d lo hi offs => ∃ len, decode cc pc = .ok (.tableswitch d lo hi offs, len)
  | i => decode cc pc = .ok (i, mLen i)
def mOpG (P : mPrg) (NM : Nat) (own nm : String) (cc : ByteArray) (pc : Nat) (o : mOp) : Prop := mDec cc pc o.1 ∧ mExG P NM own nm pc o
def mOpOk (P : mPrg) (NM y pc : Nat) (o : mOp) : Prop := mOpG P NM (P.1 y).cls (P.1 y).name (P.2.1 y) pc o
/-- the words that all methods share -/
def mBase : Prop := (∀ ci, ci < 13 → (∀ w ∈ u_ws (mCn ci) (mTt ci) (mNF ci), w ∈ mGt) ∧ Cond.instantiable (mCn ci) (mNF ci) ∈ mGt ∧ Cond.initialized (mCn ci) ∈ mGt) ∧
  (Cond.arrayClass .int ∈ mGt ∧ Cond.arrayClass .byte ∈ mGt ∧ Cond.arrayClass .boolean ∈ mGt ∧ Cond.arrayClass .long ∈ mGt) ∧
  (Cond.native arraycopyName ∈ mGt ∧ Cond.static arraycopyName ∈ mGt ∧ Cond.initialized "java/lang/System" ∈ mGt) ∧
  (Cond.static Lib.Math.max.name ∈ mGt ∧ Cond.static Lib.Math.min.name ∈ mGt ∧ Cond.initialized "java/lang/Math" ∈ mGt ∧ Cond.code Lib.Math.max.name Lib.Math.max.code 2 (some .int) ∈ mGt ∧ Cond.code Lib.Math.min.name Lib.Math.min.code 2 (some .int) ∈ mGt) ∧
  (Cond.instanceMethod objectInit ∈ mGt ∧ Cond.code objectInit ⟨#[0xb1]⟩ 1 none ∈ mGt)
def mPok (P : mPrg) (NM : Nat) : Prop := mBase ∧ (∀ y, y < NM → mMok P y) ∧ ∀ y, y < NM → ∀ pc o, P.2.2.2.2 y pc = some o → mOpOk P NM y pc o
def mRetOk (ins : Instr) (ret : Option FieldType) (r : Option Value) : Prop := (ins = .return_ ∧ ret = none ∧ r = none) ∨ (∃ v, ins = .ireturn ∧ r = some (.int v) ∧ (ret = some .int ∨ ret = some .boolean ∧ (v = 0 ∨ v = 1))) ∨ ∃ v, ins = .lreturn ∧ r = some (.long v) ∧ ret = some .long
/-- the calls on texts are the machine's (shown apart) -/
def mStr : Prop := ∀ (p : Program) (l : Launch) (e : Env) (R : Room) (s : State) (m : MethodId) (args : Array Value) (below : List Frame) (meth : Method) (c : Code) (Q : State → Prop) (D : va_G) (cA : Nat → ClassId) (base : Nat) (xa : Nat → Nat) (nL n0 z0 : Nat) (τ : mMem) (own : String) (cc : ByteArray) (X : Nat × (Nat → Int32)) (E : mEnv) (k : Nat) (nt : List Nat) (f : mFr),
  mCx p R s m args c own cc nL D cA base n0 xa X → τ.1 - n0 ≤ R.cells → τ.2.1 - z0 ≤ R.slots → E.2.1 = mTx → mIvT own k nt → decode cc f.1 = .ok (.invokevirtual k, 3) → kInv E nt f (mPt p l e R s m args below meth c Q D cA base xa nL n0 z0 τ) → mPt p l e R s m args below meth c Q D cA base xa nL n0 z0 τ f
section SndP
variable {p : Program} {l : Launch} {e : Env} {R : Room} {s : State} {m : MethodId} {args : Array Value} {below : List Frame} {meth : Method} {c : Code} {Q : State → Prop} {D : va_G} {cA : Nat → ClassId} {base : Nat} {xa : Nat → Nat} {nL n0 z0 : Nat} {τ : mMem} {X : Nat × (Nat → Int32)} {P : mPrg} {NM : Nat}
theorem mStP_g {own nm : String} {cc : ByteArray} {d : Nat} {o : mOp} {f : mFr} {E : mEnv} (hP : mPok P NM) (hS : mStr) (C : mCx p R s m args c own cc nL D cA base n0 xa X) (hok : mOpG P NM own nm cc f.1 o) (hnm : meth.name = nm) (hR : d + 10 ≤ R.frames ∧ 60 * d + 360 ≤ R.locals) (hRc : τ.1 - n0 ≤ R.cells) (hRs : τ.2.1 - z0 ≤ R.slots)
    (hX : E.1 = X) (hT : E.2.1 = mTx) (hτ : E.2.2.2.2.2 = τ) (hE : ∀ mi, mi < NM → ∀ as σ rv σ1, E.2.2.1 mi as σ rv σ1 → (σ.1 ≤ σ1.1 ∧ σ.2.1 ≤ σ1.2.1) ∧ mCtr l P D cA base xa d mi as σ rv σ1)
    (hRet : ∀ (H : Heap) (locs : List Loc) (ls : Array Slot) (pc : Nat) (ins : Instr), mRetOk ins E.2.2.2.1 E.2.2.2.2.1 → decode cc pc = .ok (ins, 1) → va_P D mCl (mWs base cA τ) H → va_S (mA base) s.heap H locs → W p l e R s m args below meth c H locs (τ.1 - n0) (τ.2.1 - z0) Q (F0 m pc ls (E.2.2.2.2.1.toList.map (mCv base xa))))
    (h : mStP E o f (mPt p l e R s m args below meth c Q D cA base xa nL n0 z0 τ)) : mPt p l e R s m args below meth c Q D cA base xa nL n0 z0 τ f := by
  obtain ⟨hB, hM, hO⟩ := hP
  obtain ⟨hlay, harr, hcp, hmm, hob⟩ := hB
  obtain ⟨hd, hx⟩ := hok
  have C0 := C
  obtain ⟨ex, hb, hml, hown, hts, hK, hbs, hZ, hfr, hlo, hXX⟩ := C
  obtain ⟨ins, cv, nt⟩ := o
  unfold mStP at h
  unfold mExG at hx
  dsimp only at h hd hx
  split at h
  · next n => exact pt_push C0 h (fun H locs a b ls rest w => by rw [show cv = .int (Int32.ofInt n) from hx] at w; exact lv_iconst ex hb hd rfl w)
  · next n => exact pt_push C0 h (fun H locs a b ls rest w => by rw [show cv = .int (Int8.ofInt n).toInt32 from hx] at w; exact lv_bipush ex hb hd rfl w)
  · next n => exact pt_push C0 h (fun H locs a b ls rest w => by rw [show cv = .int (Int16.ofInt n).toInt32 from hx] at w; exact lv_sipush ex hb hd rfl w)
  · next n => exact pt_push C0 h (fun H locs a b ls rest w => by rw [show cv = .long (Int64.ofNat n.val) from hx] at w; exact lv_lconst ex hb hd rfl w)
  · next k =>
    rcases hx with ⟨x, hv, hw⟩ | ⟨hc, hx⟩
    · exact pt_push C0 h (fun H locs a b ls rest w => by rw [show cv = .int x from hv] at w; exact lv_ldc ex hb hown (hts _ hw) hd w)
    · rcases hx with ⟨rfl, hv⟩ | ⟨rfl, hv⟩
      · exact pt_push C0 h (fun H locs a b ls rest w => by rw [show cv = .retAddr 1 from hv] at w; exact va_ldcS ex hb (own := RX9) (by rw [← hc]; exact hown) hZ.2.2.1 hd w)
      · exact pt_push C0 h (fun H locs a b ls rest w => by rw [show cv = .retAddr 2 from hv] at w; exact va_ldcS ex hb (own := RX9) (by rw [← hc]; exact hown) hZ.2.2.2.1 hd w)
  · next k =>
    obtain ⟨x, hv, hw⟩ := hx
    exact pt_push C0 h (fun H locs a b ls rest w => by rw [show cv = .int x from hv] at w; exact lv_ldcw ex hb hown (hts _ hw) hd w)
  · next k =>
    obtain ⟨x, hv, hw⟩ := hx
    exact pt_push C0 h (fun H locs a b ls rest w => by rw [show cv = .long x from hv] at w; exact lv_ldc2 ex hb hown (hts _ hw) hd w)
  · exact pt_ldI h (fun H locs a b ls rest x hl w => lv_iload ex hb hd hl w)
  · exact pt_ldI h (fun H locs a b ls rest x hl w => lv_iload_n ex hb hd rfl hl w)
  · exact pt_ldL h (fun H locs a b ls rest x hl w => lv_lload ex hb hd hl w)
  · exact pt_ldL h (fun H locs a b ls rest x hl w => lv_lload_n ex hb hd rfl hl w)
  · exact pt_ldA h (fun H locs a b ls rest x hl w => lv_aload ex hb hd hl w)
  · exact pt_ldA h (fun H locs a b ls rest x hl w => lv_aload_n ex hb hd rfl hl w)
  · exact pt_stI h (fun H locs a b ls rest x lv h1 h2 w => lv_istore ex hb hd h1 h2 rfl w)
  · exact pt_stI h (fun H locs a b ls rest x lv h1 h2 w => lv_istore_n ex hb hd rfl h1 h2 rfl w)
  · exact pt_stL h (fun H locs a b ls rest x lv h1 h2 w => lv_lstore ex hb hd h1 h2 rfl w)
  · exact pt_stL h (fun H locs a b ls rest x lv h1 h2 w => lv_lstore_n ex hb hd rfl h1 h2 rfl w)
  · exact pt_stA h (fun H locs a b ls rest x lv h1 h2 w => lv_astore ex hb hd h1 h2 rfl w)
  · exact pt_stA h (fun H locs a b ls rest x lv h1 h2 w => lv_astore_n ex hb hd rfl h1 h2 rfl w)
  · exact pt_inc C0 h hx hd
  · exact pt_bin h (fun H locs a b ls rest x y w => lv_iadd ex hb hd w)
  · exact pt_bin h (fun H locs a b ls rest x y w => lv_isub ex hb hd w)
  · exact pt_bin h (fun H locs a b ls rest x y w => lv_imul ex hb hd w)
  · exact pt_bin h (fun H locs a b ls rest x y w => lv_iand ex hb hd w)
  · exact pt_bin h (fun H locs a b ls rest x y w => lv_ior ex hb hd w)
  · exact pt_bin h (fun H locs a b ls rest x y w => lv_ixor ex hb hd w)
  · exact pt_bin h (fun H locs a b ls rest x y w => lv_ishl ex hb hd w)
  · exact pt_bin h (fun H locs a b ls rest x y w => lv_ishr ex hb hd w)
  · exact pt_bin h (fun H locs a b ls rest x y w => lv_iushr ex hb hd rfl w)
  · exact pt_div h (fun H locs a b ls rest x y hy w => lv_idiv ex hb hd hy w)
  · exact pt_div h (fun H locs a b ls rest x y hy w => lv_irem ex hb hd hy w)
  · exact pt_un h (fun H locs a b ls rest x w => lv_ineg ex hb hd w)
  · exact pt_un h (fun H locs a b ls rest x w => lv_i2l ex hb hd rfl w)
  · exact pt_un h (fun H locs a b ls rest x w => lv_i2b ex hb hd rfl w)
  · exact pt_un h (fun H locs a b ls rest x w => lv_i2c ex hb hd rfl w)
  · exact pt_l2i C0 h hd
  · exact pt_binL h (fun H locs a b ls rest x y w => lv_ladd ex hb hd w)
  · exact pt_binL h (fun H locs a b ls rest x y w => lv_lmul ex hb hd w)
  · exact pt_cmpL C0 h hd
  · exact pt_dup C0 h hd
  · exact pt_pop C0 h hd
  · exact pt_dup2 C0 h hd
  · obtain ⟨t, ht, hto⟩ := hx
    rw [show nt = [t] from ht] at h
    exact pt_ifC C0 h hd hto
  · obtain ⟨t, ht, hto⟩ := hx
    rw [show nt = [t] from ht] at h
    exact pt_ifI C0 h hd hto
  · obtain ⟨t, ht, hto⟩ := hx
    rw [show nt = [t] from ht] at h
    exact pt_st (g := (t, f.2)) h rfl rfl (fun H locs a b ls _ w => lv_goto ex hb hd hto w)
  · obtain ⟨td, ts, ht, h1, h2⟩ := hx
    obtain ⟨len, hd⟩ := hd
    rw [show nt = td :: ts from ht] at h
    exact pt_sw C0 h hd h1 h2
  · obtain ⟨ci, fi, ht, h1, h2, h3⟩ := hx
    rw [show nt = [ci, fi] from ht] at h
    exact pt_get C0 h h1 h2 h3 (hlay ci h1).1 hd
  · obtain ⟨ci, fi, ht, ⟨h1, h2, h3⟩, h4⟩ := hx
    rw [show nt = [ci, fi] from ht] at h
    exact pt_put C0 h h1 h2 h3 (hlay ci h1).1 (by rw [hnm]; exact h4) hd
  · exact pt_iald C0 (by rw [← hX]; exact h) hd
  · exact pt_ald C0 h (Or.inr ⟨rfl, hd⟩)
  · exact pt_lald C0 h hd
  · exact pt_aald C0 h hd
  · exact pt_iast C0 h hd
  · exact pt_bast C0 h hd
  · exact pt_last C0 h hd
  · exact pt_len C0 (by rw [← hX]; exact h) hd
  · obtain ⟨ci, ht, h1, h2⟩ := hx
    rw [show nt = [ci] from ht] at h
    exact pt_new C0 h h1 h2 (hlay ci h1).2.1 (hlay ci h1).2.2 (hlay ci h1).1 hRc hRs hd
  · obtain ⟨tag, ht, h1⟩ := hx
    rw [show nt = [tag] from ht] at h
    refine pt_newa C0 h h1 ?_ hRc hRs hd
    rcases h1 with ⟨-, rfl⟩ | ⟨-, rfl⟩ | ⟨-, rfl⟩ | ⟨-, rfl⟩
    · exact harr.1
    · exact harr.2.1
    · exact harr.2.2.1
    · exact harr.2.2.2
  · obtain ⟨h1, h2⟩ := hx
    subst h1
    exact pt_new2 C0 h h2 harr.1 hRc hRs hd
  · next k =>
    rcases hx with hx | ⟨mi, na, ci, ht, h1, h2, h3, h4, h5, h6, h7⟩
    · exact hS p l e R s m args below meth c Q D cA base xa nL n0 z0 τ _ _ X E k nt f C0 hRc hRs hT hx hd h
    · rw [show nt = [mi, na, ci] from ht] at h
      exact pt_callV C0 h (hM mi h1) hR hRc hRs (hE mi h1) h2 h3 h4 h5 h6 h7 hd
  · next k =>
    rcases hx with ⟨ht, hx⟩ | ⟨mi, na, ci, ht, h1, h2, h3, h4, h5, h6⟩
    · rw [show nt = [9004] from ht] at h
      exact pt_obj C0 h hx hob.1 hob.2 hd
    · rw [show nt = [mi, na, ci] from ht] at h
      exact pt_callI C0 h (hM mi h1) hR hRc hRs (hE mi h1) h2 h3 h4 h5 h6 hd
  · next k =>
    rcases hx with ⟨ht, hx⟩ | ⟨ht, hx⟩ | ⟨ht, hx⟩ | ⟨mi, na, ht, h1, h2, h3, h4⟩
    · rw [show nt = [9001] from ht] at h
      exact pt_copy C0 h hx hcp.1 hcp.2.1 hcp.2.2 hd
    · rw [show nt = [9002] from ht] at h
      exact pt_max C0 h hRc hRs hx hmm.1 hmm.2.2.1 hmm.2.2.2.1 hd
    · rw [show nt = [9003] from ht] at h
      exact pt_min C0 h hRc hRs hx hmm.2.1 hmm.2.2.1 hmm.2.2.2.2 hd
    · rw [show nt = [mi, na] from ht] at h
      exact pt_callS C0 h (hM mi h1) hR hRc hRs (hE mi h1) h2 h3 h4 hd
  · obtain ⟨h1, h2, h3, h4⟩ := h
    rw [hτ] at h4
    subst h4
    refine ⟨⟨Nat.le_refl _, Nat.le_refl _⟩, fun a b H locs ls q2 q3 q4 => ?_⟩
    have w := hRet H locs ls f.1 .return_ (Or.inl ⟨rfl, h2, h3⟩) hd q2 q3
    rw [h3] at w
    rw [h1]
    exact w
  · obtain ⟨v, h1, h2, h3, h4⟩ := h
    rw [hτ] at h4
    subst h4
    refine ⟨⟨Nat.le_refl _, Nat.le_refl _⟩, fun a b H locs ls q2 q3 q4 => ?_⟩
    have w := hRet H locs ls f.1 .ireturn (Or.inr (Or.inl ⟨v, rfl, h3, h2⟩)) hd q2 q3
    rw [h3] at w
    rw [h1]
    exact w
  · obtain ⟨v, h1, h2, h3, h4⟩ := h
    rw [hτ] at h4
    subst h4
    refine ⟨⟨Nat.le_refl _, Nat.le_refl _⟩, fun a b H locs ls q2 q3 q4 => ?_⟩
    have w := hRet H locs ls f.1 .lreturn (Or.inr (Or.inr ⟨v, rfl, h3, h2⟩)) hd q2 q3
    rw [h3] at w
    rw [h1]
    exact w
  · exact h.elim
end SndP
