/-! THE STEPS ARE THE MACHINE'S: what a step says of the next frame holds of this one -/
def mCx (p : Program) (R : Room) (s : State) (m : MethodId) (args : Array Value) (c : Code) (own : String) (cc : ByteArray) (nL : Nat) (D : va_G) (cA : Nat → ClassId) (base n0 : Nat) (xa : Nat → Nat) (X : Nat × (Nat → Int32)) : Prop :=
  p.tables.exec = Jvm.exec ∧ c.code = cc ∧ c.maxLocals = nL ∧ s.vm.findClass own = some m.cls ∧ (∀ w ∈ mGt, w.before args s = true) ∧ va_K D mCl (mTys cA) s ∧ s.heap.size = base + n0 ∧ mZ base xa s s.heap ∧ 9 ≤ R.frames ∧ 300 ≤ R.locals ∧ (X.1 = 0 ∨ (va_X (xa 0) (X.1 - 1) X.2 s s.heap ∧ xa 0 < base))
def mPt (p : Program) (l : Launch) (e : Env) (R : Room) (s : State) (m : MethodId) (args : Array Value) (below : List Frame) (meth : Method) (c : Code) (Q : State → Prop) (D : va_G) (cA : Nat → ClassId) (base : Nat) (xa : Nat → Nat) (nL n0 z0 : Nat) (τ : mMem) (f : mFr) : Prop :=
  (f.2.2.2.1 ≤ τ.1 ∧ f.2.2.2.2.1 ≤ τ.2.1) ∧ (n0 ≤ f.2.2.2.1 → z0 ≤ f.2.2.2.2.1 → ∀ (H : Heap) (locs : List Loc) (ls : Array Slot), va_P D mCl (mWs base cA f.2.2.2) H → va_S (mA base) s.heap H locs → mLh base xa ls nL f.2.1 →
    W p l e R s m args below meth c H locs (f.2.2.2.1 - n0) (f.2.2.2.2.1 - z0) Q (F0 m f.1 ls (f.2.2.1.map (mCv base xa))))
section Snd
variable {p : Program} {l : Launch} {e : Env} {R : Room} {s : State} {m : MethodId} {args : Array Value} {below : List Frame} {meth : Method} {c : Code} {Q : State → Prop} {D : va_G} {cA : Nat → ClassId} {base : Nat} {xa : Nat → Nat} {nL n0 z0 : Nat} {τ : mMem} {own : String} {cc : ByteArray} {X : Nat × (Nat → Int32)}
/-- only the stack and the place change -/
theorem pt_st {f g : mFr} (hg : mPt p l e R s m args below meth c Q D cA base xa nL n0 z0 τ g) (hl : g.2.1 = f.2.1) (hσ : g.2.2.2 = f.2.2.2)
    (hW : ∀ (H : Heap) (locs : List Loc) (a b : Nat) (ls : Array Slot), mLh base xa ls nL f.2.1 → W p l e R s m args below meth c H locs a b Q (F0 m g.1 ls (g.2.2.1.map (mCv base xa))) → W p l e R s m args below meth c H locs a b Q (F0 m f.1 ls (f.2.2.1.map (mCv base xa)))) : mPt p l e R s m args below meth c Q D cA base xa nL n0 z0 τ f := by
  obtain ⟨h1, h2⟩ := hg
  rw [hσ] at h1 h2
  rw [hl] at h2
  exact ⟨h1, fun a b H locs ls h4 h5 h6 => hW H locs _ _ ls h6 (h2 a b H locs ls h4 h5 h6)⟩
theorem pt_push (C : mCx p R s m args c own cc nL D cA base n0 xa X) {d : Nat} {v : Value} {f : mFr} (h : kPush d v f (mPt p l e R s m args below meth c Q D cA base xa nL n0 z0 τ))
    (hW : ∀ (H : Heap) (locs : List Loc) (a b : Nat) (ls : Array Slot) (rest : List Value), W p l e R s m args below meth c H locs a b Q (F0 m (f.1 + d) ls (mCv base xa v :: rest)) → W p l e R s m args below meth c H locs a b Q (F0 m f.1 ls rest)) : mPt p l e R s m args below meth c Q D cA base xa nL n0 z0 τ f :=
  pt_st h rfl rfl (fun H locs a b ls _ w => hW H locs a b ls _ w)
theorem pt_ldI {d i : Nat} {f : mFr} (h : kLdI d i f (mPt p l e R s m args below meth c Q D cA base xa nL n0 z0 τ))
    (hW : ∀ (H : Heap) (locs : List Loc) (a b : Nat) (ls : Array Slot) (rest : List Value) (x : Int32), ls[i]? = some (.val (.int x)) → W p l e R s m args below meth c H locs a b Q (F0 m (f.1 + d) ls (.int x :: rest)) → W p l e R s m args below meth c H locs a b Q (F0 m f.1 ls rest)) : mPt p l e R s m args below meth c Q D cA base xa nL n0 z0 τ f := by
  unfold kLdI at h
  split at h
  · next x hx => exact pt_st h rfl rfl (fun H locs a b ls hl w => hW H locs a b ls _ x (hl.2.2.2 i _ hx) w)
  · exact h.elim
theorem pt_ldL {d i : Nat} {f : mFr} (h : kLdL d i f (mPt p l e R s m args below meth c Q D cA base xa nL n0 z0 τ))
    (hW : ∀ (H : Heap) (locs : List Loc) (a b : Nat) (ls : Array Slot) (rest : List Value) (x : Int64), ls[i]? = some (.val (.long x)) → W p l e R s m args below meth c H locs a b Q (F0 m (f.1 + d) ls (.long x :: rest)) → W p l e R s m args below meth c H locs a b Q (F0 m f.1 ls rest)) : mPt p l e R s m args below meth c Q D cA base xa nL n0 z0 τ f := by
  unfold kLdL at h
  split at h
  · next x hx => exact pt_st h rfl rfl (fun H locs a b ls hl w => hW H locs a b ls _ x (hl.2.2.2 i _ hx) w)
  · exact h.elim
theorem pt_ldA {d i : Nat} {f : mFr} (h : kLdA d i f (mPt p l e R s m args below meth c Q D cA base xa nL n0 z0 τ))
    (hW : ∀ (H : Heap) (locs : List Loc) (a b : Nat) (ls : Array Slot) (rest : List Value) (x : Nat), ls[i]? = some (.val (.ref x)) → W p l e R s m args below meth c H locs a b Q (F0 m (f.1 + d) ls (.ref x :: rest)) → W p l e R s m args below meth c H locs a b Q (F0 m f.1 ls rest)) : mPt p l e R s m args below meth c Q D cA base xa nL n0 z0 τ f := by
  unfold kLdA at h
  split at h
  · next x hx => exact pt_st h rfl rfl (fun H locs a b ls hl w => hW H locs a b ls _ _ (hl.2.2.2 i _ hx) w)
  · next x hx => exact pt_st h rfl rfl (fun H locs a b ls hl w => hW H locs a b ls _ _ (hl.2.2.2 i _ hx) w)
  · exact h.elim
/-- a store into the locals -/
theorem pt_set {f g : mFr} (hg : mPt p l e R s m args below meth c Q D cA base xa nL n0 z0 τ g) (hσ : g.2.2.2 = f.2.2.2)
    (hW : ∀ (H : Heap) (locs : List Loc) (a b : Nat) (ls : Array Slot), mLh base xa ls nL f.2.1 → (∀ ls' : Array Slot, mLh base xa ls' nL g.2.1 → W p l e R s m args below meth c H locs a b Q (F0 m g.1 ls' (g.2.2.1.map (mCv base xa)))) → W p l e R s m args below meth c H locs a b Q (F0 m f.1 ls (f.2.2.1.map (mCv base xa)))) : mPt p l e R s m args below meth c Q D cA base xa nL n0 z0 τ f := by
  obtain ⟨h1, h2⟩ := hg
  rw [hσ] at h1 h2
  exact ⟨h1, fun a b H locs ls h4 h5 h6 => hW H locs _ _ ls h6 (fun ls' h7 => h2 a b H locs ls' h4 h5 h7)⟩
theorem pt_bl {a b : Bool} (h : (a && b) = true) : a = true ∧ b = true := by simpa using h
theorem pt_stI {d i : Nat} {f : mFr} (h : kStI d i f (mPt p l e R s m args below meth c Q D cA base xa nL n0 z0 τ))
    (hW : ∀ (H : Heap) (locs : List Loc) (a b : Nat) (ls : Array Slot) (rest : List Value) (x : Int32) (lv : List (Nat × Value)), lv_has ls nL lv → i < nL → (∀ ls' : Array Slot, lv_has ls' nL ((i, .int x) :: lv.filter (fun q => !(q.1 == i) && !(q.1 + 1 == i && q.2.category == 2))) → W p l e R s m args below meth c H locs a b Q (F0 m (f.1 + d) ls' rest)) → W p l e R s m args below meth c H locs a b Q (F0 m f.1 ls (.int x :: rest))) : mPt p l e R s m args below meth c Q D cA base xa nL n0 z0 τ f := by
  unfold kStI at h
  split at h
  · next x r hst =>
    obtain ⟨hlt, h1⟩ := h
    refine pt_set h1 rfl (fun H locs a b ls hl w => ?_)
    rw [hst]
    exact hW H locs a b ls _ x _ hl.has (by have := Nat.blt_eq.mp hlt; rw [hl.2.1] at this; exact this) (fun ls' h9 => w ls' (hl.set1 (v := .int x) h9))
  · exact h.elim
theorem pt_stL {d i : Nat} {f : mFr} (h : kStL d i f (mPt p l e R s m args below meth c Q D cA base xa nL n0 z0 τ))
    (hW : ∀ (H : Heap) (locs : List Loc) (a b : Nat) (ls : Array Slot) (rest : List Value) (x : Int64) (lv : List (Nat × Value)), lv_has ls nL lv → i + 1 < nL → (∀ ls' : Array Slot, lv_has ls' nL ((i, .long x) :: lv.filter (fun q => !(q.1 == i) && (!(q.1 == i + 1) && !(q.1 + 1 == i && q.2.category == 2)))) → W p l e R s m args below meth c H locs a b Q (F0 m (f.1 + d) ls' rest)) → W p l e R s m args below meth c H locs a b Q (F0 m f.1 ls (.long x :: rest))) : mPt p l e R s m args below meth c Q D cA base xa nL n0 z0 τ f := by
  unfold kStL at h
  split at h
  · next x r hst =>
    obtain ⟨hlt, h1⟩ := h
    refine pt_set h1 rfl (fun H locs a b ls hl w => ?_)
    rw [hst]
    exact hW H locs a b ls _ x _ hl.has (by have := Nat.blt_eq.mp hlt; rw [hl.2.1] at this; exact this) (fun ls' h9 => w ls' (hl.set2 (v := .long x) h9))
  · exact h.elim
theorem pt_stA {d i : Nat} {f : mFr} (h : kStA d i f (mPt p l e R s m args below meth c Q D cA base xa nL n0 z0 τ))
    (hW : ∀ (H : Heap) (locs : List Loc) (a b : Nat) (ls : Array Slot) (rest : List Value) (x : Nat) (lv : List (Nat × Value)), lv_has ls nL lv → i < nL → (∀ ls' : Array Slot, lv_has ls' nL ((i, .ref x) :: lv.filter (fun q => !(q.1 == i) && !(q.1 + 1 == i && q.2.category == 2))) → W p l e R s m args below meth c H locs a b Q (F0 m (f.1 + d) ls' rest)) → W p l e R s m args below meth c H locs a b Q (F0 m f.1 ls (.ref x :: rest))) : mPt p l e R s m args below meth c Q D cA base xa nL n0 z0 τ f := by
  unfold kStA at h
  split at h
  · next x r hst =>
    obtain ⟨hlt, h1⟩ := h
    refine pt_set h1 rfl (fun H locs a b ls hl w => ?_)
    rw [hst]
    exact hW H locs a b ls _ _ _ hl.has (by have := Nat.blt_eq.mp hlt; rw [hl.2.1] at this; exact this) (fun ls' h9 => w ls' (hl.set1 (v := .ref x) h9))
  · exact h.elim
theorem pt_inc (C : mCx p R s m args c own cc nL D cA base n0 xa X) {i : Nat} {n : Int} {v : Value} {f : mFr} (h : kInc i v f (mPt p l e R s m args below meth c Q D cA base xa nL n0 z0 τ)) (hv : v = .int (Int32.ofInt n)) (hd : decode cc f.1 = .ok (.iinc i n, 3)) : mPt p l e R s m args below meth c Q D cA base xa nL n0 z0 τ f := by
  subst hv
  unfold kInc at h
  split at h
  · next x y hx hy =>
    cases hy
    obtain ⟨hlt, h1⟩ := h
    refine pt_set h1 rfl (fun H locs a b ls hl w => ?_)
    obtain ⟨k, hk⟩ := List.getElem?_of_mem (mLv_mem (base := base) (xa := xa) hx)
    exact lv_iinc C.1 C.2.1 hd hl.has (k := k) hk rfl (by have := Nat.blt_eq.mp hlt; rw [hl.2.1] at this; exact this) rfl (fun ls' h9 => w ls' (hl.set1 (v := .int (x + Int32.ofInt n)) h9))
  · exact h.elim
theorem pt_bin {g : Int32 → Int32 → Int32} {f : mFr} (h : kBin g f (mPt p l e R s m args below meth c Q D cA base xa nL n0 z0 τ))
    (hW : ∀ (H : Heap) (locs : List Loc) (a b : Nat) (ls : Array Slot) (rest : List Value) (x y : Int32), W p l e R s m args below meth c H locs a b Q (F0 m (f.1 + 1) ls (.int (g x y) :: rest)) → W p l e R s m args below meth c H locs a b Q (F0 m f.1 ls (.int y :: .int x :: rest))) : mPt p l e R s m args below meth c Q D cA base xa nL n0 z0 τ f := by
  unfold kBin at h
  split at h
  · next y x r hst => exact pt_st h rfl rfl (fun H locs a b ls hl w => by rw [hst]; exact hW H locs a b ls _ x y w)
  · exact h.elim
theorem pt_div {g : Int32 → Int32 → Int32} {f : mFr} (h : kDiv g f (mPt p l e R s m args below meth c Q D cA base xa nL n0 z0 τ))
    (hW : ∀ (H : Heap) (locs : List Loc) (a b : Nat) (ls : Array Slot) (rest : List Value) (x y : Int32), ¬ y = 0 → W p l e R s m args below meth c H locs a b Q (F0 m (f.1 + 1) ls (.int (g x y) :: rest)) → W p l e R s m args below meth c H locs a b Q (F0 m f.1 ls (.int y :: .int x :: rest))) : mPt p l e R s m args below meth c Q D cA base xa nL n0 z0 τ f := by
  unfold kDiv at h
  split at h
  · next y x r hst => exact pt_st h.2 rfl rfl (fun H locs a b ls hl w => by rw [hst]; exact hW H locs a b ls _ x y h.1 w)
  · exact h.elim
theorem pt_un {g : Int32 → Value} {f : mFr} (h : kUn g f (mPt p l e R s m args below meth c Q D cA base xa nL n0 z0 τ))
    (hW : ∀ (H : Heap) (locs : List Loc) (a b : Nat) (ls : Array Slot) (rest : List Value) (x : Int32), W p l e R s m args below meth c H locs a b Q (F0 m (f.1 + 1) ls (mCv base xa (g x) :: rest)) → W p l e R s m args below meth c H locs a b Q (F0 m f.1 ls (.int x :: rest))) : mPt p l e R s m args below meth c Q D cA base xa nL n0 z0 τ f := by
  unfold kUn at h
  split at h
  · next x r hst => exact pt_st h rfl rfl (fun H locs a b ls hl w => by rw [hst]; exact hW H locs a b ls _ x w)
  · exact h.elim
theorem pt_l2i (C : mCx p R s m args c own cc nL D cA base n0 xa X) {f : mFr} (h : kL2I f (mPt p l e R s m args below meth c Q D cA base xa nL n0 z0 τ)) (hd : decode cc f.1 = .ok (.l2i, 1)) : mPt p l e R s m args below meth c Q D cA base xa nL n0 z0 τ f := by
  unfold kL2I at h
  split at h
  · next x r hst => exact pt_st h rfl rfl (fun H locs a b ls hl w => by rw [hst]; exact lv_l2i C.1 C.2.1 hd rfl w)
  · exact h.elim
theorem pt_binL {g : Int64 → Int64 → Int64} {f : mFr} (h : kBinL g f (mPt p l e R s m args below meth c Q D cA base xa nL n0 z0 τ))
    (hW : ∀ (H : Heap) (locs : List Loc) (a b : Nat) (ls : Array Slot) (rest : List Value) (x y : Int64), W p l e R s m args below meth c H locs a b Q (F0 m (f.1 + 1) ls (.long (g x y) :: rest)) → W p l e R s m args below meth c H locs a b Q (F0 m f.1 ls (.long y :: .long x :: rest))) : mPt p l e R s m args below meth c Q D cA base xa nL n0 z0 τ f := by
  unfold kBinL at h
  split at h
  · next y x r hst => exact pt_st h rfl rfl (fun H locs a b ls hl w => by rw [hst]; exact hW H locs a b ls _ x y w)
  · exact h.elim
theorem pt_cmpL (C : mCx p R s m args c own cc nL D cA base n0 xa X) {f : mFr} (h : kCmpL f (mPt p l e R s m args below meth c Q D cA base xa nL n0 z0 τ)) (hd : decode cc f.1 = .ok (.lcmp, 1)) : mPt p l e R s m args below meth c Q D cA base xa nL n0 z0 τ f := by
  unfold kCmpL at h
  split at h
  · next y x r hst => exact pt_st h rfl rfl (fun H locs a b ls hl w => by rw [hst]; exact W.lcmp C.1 C.2.1 hd w)
  · exact h.elim
theorem pt_dup (C : mCx p R s m args c own cc nL D cA base n0 xa X) {f : mFr} (h : kDup f (mPt p l e R s m args below meth c Q D cA base xa nL n0 z0 τ)) (hd : decode cc f.1 = .ok (.dup, 1)) : mPt p l e R s m args below meth c Q D cA base xa nL n0 z0 τ f := by
  unfold kDup at h
  split at h
  · next v r hst => exact pt_st h.2 rfl rfl (fun H locs a b ls hl w => by rw [hst]; exact lv_dup C.1 C.2.1 hd (by rw [mCv_cat]; exact h.1) w)
  · exact h.elim
theorem pt_pop (C : mCx p R s m args c own cc nL D cA base n0 xa X) {f : mFr} (h : kPop f (mPt p l e R s m args below meth c Q D cA base xa nL n0 z0 τ)) (hd : decode cc f.1 = .ok (.pop, 1)) : mPt p l e R s m args below meth c Q D cA base xa nL n0 z0 τ f := by
  unfold kPop at h
  split at h
  · next v r hst => exact pt_st h.2 rfl rfl (fun H locs a b ls hl w => by rw [hst]; exact lv_pop C.1 C.2.1 hd (by rw [mCv_cat]; exact h.1) w)
  · exact h.elim
theorem pt_dup2 (C : mCx p R s m args c own cc nL D cA base n0 xa X) {f : mFr} (h : kDup2 f (mPt p l e R s m args below meth c Q D cA base xa nL n0 z0 τ)) (hd : decode cc f.1 = .ok (.dup2, 1)) : mPt p l e R s m args below meth c Q D cA base xa nL n0 z0 τ f := by
  unfold kDup2 at h
  split at h
  · next v w9 r hst => exact pt_st h.2 rfl rfl (fun H locs a b ls hl w => by rw [hst]; exact lv_dup2_11 C.1 C.2.1 hd (by rw [mCv_cat]; exact h.1.1) (by rw [mCv_cat]; exact h.1.2) w)
  · exact h.elim
/-- two ways on -/
theorem pt_two {f g1 g2 : mFr} {z : Prop} (hz : z ∨ ¬ z) (h1 : z → mPt p l e R s m args below meth c Q D cA base xa nL n0 z0 τ g1) (h2 : ¬ z → mPt p l e R s m args below meth c Q D cA base xa nL n0 z0 τ g2) (e1 : g1.2.1 = f.2.1) (e2 : g2.2.1 = f.2.1) (s1 : g1.2.2.2 = f.2.2.2) (s2 : g2.2.2.2 = f.2.2.2)
    (hW : ∀ (H : Heap) (locs : List Loc) (a b : Nat) (ls : Array Slot), (z → W p l e R s m args below meth c H locs a b Q (F0 m g1.1 ls (g1.2.2.1.map (mCv base xa)))) → (¬ z → W p l e R s m args below meth c H locs a b Q (F0 m g2.1 ls (g2.2.2.1.map (mCv base xa)))) → W p l e R s m args below meth c H locs a b Q (F0 m f.1 ls (f.2.2.1.map (mCv base xa)))) : mPt p l e R s m args below meth c Q D cA base xa nL n0 z0 τ f := by
  rcases hz with hz | hz
  · exact pt_st (h1 hz) e1 s1 (fun H locs a b ls _ w => hW H locs a b ls (fun _ => w) (fun q => absurd hz q))
  · exact pt_st (h2 hz) e2 s2 (fun H locs a b ls _ w => hW H locs a b ls (fun q => absurd q hz) (fun _ => w))
theorem pt_if1 {g : Int32 → Prop} {a1 b1 : Nat} {f : mFr} (h : kIf1 g a1 b1 f (mPt p l e R s m args below meth c Q D cA base xa nL n0 z0 τ))
    (hW : ∀ (H : Heap) (locs : List Loc) (a b : Nat) (ls : Array Slot) (rest : List Value) (x : Int32), (g x → W p l e R s m args below meth c H locs a b Q (F0 m a1 ls rest)) → (¬ g x → W p l e R s m args below meth c H locs a b Q (F0 m b1 ls rest)) → W p l e R s m args below meth c H locs a b Q (F0 m f.1 ls (.int x :: rest))) : mPt p l e R s m args below meth c Q D cA base xa nL n0 z0 τ f := by
  unfold kIf1 at h
  split at h
  · next x r hst => exact pt_two (Classical.em _) h.1 h.2 rfl rfl rfl rfl (fun H locs a b ls w1 w2 => by rw [hst]; exact hW H locs a b ls _ x w1 w2)
  · exact h.elim
theorem pt_if2 {g : Int32 → Int32 → Prop} {a1 b1 : Nat} {f : mFr} (h : kIf2 g a1 b1 f (mPt p l e R s m args below meth c Q D cA base xa nL n0 z0 τ))
    (hW : ∀ (H : Heap) (locs : List Loc) (a b : Nat) (ls : Array Slot) (rest : List Value) (x y : Int32), (g x y → W p l e R s m args below meth c H locs a b Q (F0 m a1 ls rest)) → (¬ g x y → W p l e R s m args below meth c H locs a b Q (F0 m b1 ls rest)) → W p l e R s m args below meth c H locs a b Q (F0 m f.1 ls (.int y :: .int x :: rest))) : mPt p l e R s m args below meth c Q D cA base xa nL n0 z0 τ f := by
  unfold kIf2 at h
  split at h
  · next y x r hst => exact pt_two (Classical.em _) h.1 h.2 rfl rfl rfl rfl (fun H locs a b ls w1 w2 => by rw [hst]; exact hW H locs a b ls _ x y w1 w2)
  · exact h.elim
theorem pt_ifC (C : mCx p R s m args c own cc nL D cA base n0 xa X) {cd : ClassFile.Cond} {off : Int} {t : Nat} {f : mFr} (h : kIfC cd t f (mPt p l e R s m args below meth c Q D cA base xa nL n0 z0 τ)) (hd : decode cc f.1 = .ok (.ifCond cd off, 3)) (ht : (f.1 : Int) + off = (t : Int)) : mPt p l e R s m args below meth c Q D cA base xa nL n0 z0 τ f := by
  cases cd
  · exact pt_if1 h (fun H locs a b ls rest x w1 w2 => lv_if_eq C.1 C.2.1 hd ht w1 w2)
  · exact pt_if1 h (fun H locs a b ls rest x w1 w2 => lv_if_ne C.1 C.2.1 hd ht w2 w1)
  · exact pt_if1 h (fun H locs a b ls rest x w1 w2 => lv_if_lt C.1 C.2.1 hd ht w1 w2)
  · exact pt_if1 h (fun H locs a b ls rest x w1 w2 => lv_if_ge C.1 C.2.1 hd ht w1 w2)
  · exact pt_if1 h (fun H locs a b ls rest x w1 w2 => lv_if_gt C.1 C.2.1 hd ht w1 w2)
  · exact pt_if1 h (fun H locs a b ls rest x w1 w2 => lv_if_le C.1 C.2.1 hd ht w1 w2)
theorem pt_ifI (C : mCx p R s m args c own cc nL D cA base n0 xa X) {cd : ClassFile.Cond} {off : Int} {t : Nat} {f : mFr} (h : kIfI cd t f (mPt p l e R s m args below meth c Q D cA base xa nL n0 z0 τ)) (hd : decode cc f.1 = .ok (.if_icmp cd off, 3)) (ht : (f.1 : Int) + off = (t : Int)) : mPt p l e R s m args below meth c Q D cA base xa nL n0 z0 τ f := by
  cases cd
  · exact pt_if2 h (fun H locs a b ls rest x y w1 w2 => lv_icmp_eq C.1 C.2.1 hd ht w1 w2)
  · exact pt_if2 h (fun H locs a b ls rest x y w1 w2 => lv_icmp_ne C.1 C.2.1 hd ht w2 w1)
  · exact pt_if2 h (fun H locs a b ls rest x y w1 w2 => lv_icmp_lt C.1 C.2.1 hd ht w1 w2)
  · exact pt_if2 h (fun H locs a b ls rest x y w1 w2 => lv_icmp_ge C.1 C.2.1 hd ht w1 w2)
  · exact pt_if2 h (fun H locs a b ls rest x y w1 w2 => lv_icmp_gt C.1 C.2.1 hd ht w1 w2)
  · exact pt_if2 h (fun H locs a b ls rest x y w1 w2 => lv_icmp_le C.1 C.2.1 hd ht w1 w2)
theorem pt_sw (C : mCx p R s m args c own cc nL D cA base n0 xa X) {dflt lo hi : Int} {offs : Array Int} {len td : Nat} {ts : List Nat} {f : mFr} (h : kSw lo hi td ts f (mPt p l e R s m args below meth c Q D cA base xa nL n0 z0 τ)) (hd : decode cc f.1 = .ok (.tableswitch dflt lo hi offs, len)) (ht : (f.1 : Int) + dflt = (td : Int)) (ho : offs.toList.map (fun o => (f.1 : Int) + o) = ts.map Int.ofNat) : mPt p l e R s m args below meth c Q D cA base xa nL n0 z0 τ f := by
  unfold kSw at h
  split at h
  · next x r hst =>
    by_cases hz : x.toInt < lo ∨ hi < x.toInt
    · exact pt_st (h.1 hz) rfl rfl (fun H locs a b ls _ w => by rw [hst]; exact lv_tableOut C.1 C.2.1 hd hz ht w)
    · obtain ⟨t, h1, h2⟩ := h.2 hz
      refine pt_st h2 rfl rfl (fun H locs a b ls _ w => ?_)
      rw [hst]
      have h3 : (ts.map Int.ofNat)[(x.toInt - lo).toNat]? = some (t : Int) := by rw [List.getElem?_map, h1]; rfl
      rw [← ho, List.getElem?_map] at h3
      cases h4 : offs.toList[(x.toInt - lo).toNat]? with
      | none => rw [h4] at h3; cases h3
      | some o =>
        rw [h4] at h3
        exact lv_tableIn C.1 C.2.1 hd (fun q => hz (Or.inl q)) (fun q => hz (Or.inr q)) (off := o) (by rw [← Array.getElem?_toList]; exact h4) (Option.some.inj h3) w
  · exact h.elim
end Snd
