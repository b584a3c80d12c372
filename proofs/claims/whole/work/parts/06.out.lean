/-! WHAT STANDS OUTSIDE, and moves with the machine: nest links, the grid's class, the two texts -/
def mNs : List (String × Nat × MethodName × String) := [("MoonDials", 11, ⟨"MoonDials$Tape", "<init>", "()V"⟩, "MoonDials"), ("MoonDials", 18, ⟨"MoonDials$Garden", "<init>", "()V"⟩, "MoonDials"), ("MoonDials", 25, ⟨"MoonDials$Reader", "<init>", "()V"⟩, "MoonDials"), ("MoonDials$Reader", 11, ⟨"MoonDials$Garden", "<init>", "()V"⟩, "MoonDials"), ("MoonDials$Garden", 50, ⟨"MoonDials", "rest", "(II)I"⟩, "MoonDials"), ("MoonDials$Walk", 129, ⟨"MoonDials", "held", "(II)I"⟩, "MoonDials"), ("MoonDials$Walk", 72, ⟨"MoonDials", "lot", "(III)I"⟩, "MoonDials"), ("MoonDials$Walk", 92, ⟨"MoonDials", "rest", "(II)I"⟩, "MoonDials"), ("MoonDials$Walk", 95, ⟨"MoonDials", "allHours", "(I)I"⟩, "MoonDials"), ("MoonDials$Walk", 103, ⟨"MoonDials", "pair", "(II)I"⟩, "MoonDials"), ("MoonDials$Meetings", 39, ⟨"MoonDials", "allHours", "(I)I"⟩, "MoonDials"), ("MoonDials$Meetings", 49, ⟨"MoonDials", "rest", "(II)I"⟩, "MoonDials"), ("MoonDials$Game", 68, ⟨"MoonDials", "rest", "(II)I"⟩, "MoonDials")]
def mTw : String := "hours dial goer comes stays worth dims seed if then else night out slip from long met which day goers "
def mTs : String := ";=+-*/<()"
def mLenS : List Nat := [102, 9]
def mZ (base : Nat) (xa : Nat → Nat) (U : State) (H : Heap) : Prop :=
  (∀ q ∈ mNs, va_Nw (.methodLinkNest q.1 q.2.1 q.2.2.1 q.2.2.2) U) ∧ (Cond.arrayOver (.array .int)).before #[] U = true ∧ vk_R RX9 26 mTw (xa 1) U ∧ vk_R RX9 81 mTs (xa 2) U ∧
  (∃ adV : Nat → Nat, vk_S 2 mLenS mBytS (fun i => xa (i + 1)) adV (mA base) U H) ∧ va_Z "java/lang/String" "COMPACT_STRINGS" "Z" (.int 1) (mA base) U H ∧ va_Zq "jdk/internal/util/Preconditions" "SIOOBE_FORMATTER" "Ljava/util/function/BiFunction;" (mA base) U H
theorem mZ.warm {base : Nat} {xa : Nat → Nat} {s U : State} {H : Heap} (hW : s.WarmedH U.vm) (h : mZ base xa s H) : mZ base xa U H := by
  obtain ⟨h1, h2, h3, h4, ⟨adV, h5⟩, h6, h7⟩ := h
  exact ⟨fun q hq => va_Nw.warmM hW (h1 q hq), Cond.overAtom_setVm hW.alike (.arrayOver (.array .int)) rfl h2, h3.warm hW, h4.warm hW, ⟨adV, h5.moved hW.alike⟩, h6.moved hW.alike, h7.moved hW.alike⟩
theorem mZ.same {base : Nat} {xa : Nat → Nat} {s U : State} {H : Heap} (hv : U.vm = s.vm) (h : mZ base xa s H) : mZ base xa U H := by
  obtain ⟨h1, h2, h3, h4, ⟨adV, h5⟩, h6, h7⟩ := h
  have ha : s.vm.Alike U.vm := by rw [hv]; exact Vm.Alike.refl _
  refine ⟨fun q hq => va_Nw.same rfl hv.symm (h1 q hq), ?_, h3.same hv, h4.same hv, ⟨adV, h5.moved ha⟩, h6.moved ha, h7.moved ha⟩
  have h9 := Cond.overAtom_setVm (args := #[]) (s := s) (vm' := U.vm) ha (.arrayOver (.array .int)) rfl h2
  exact h9
theorem mZ.kept {base : Nat} {xa : Nat → Nat} {s : State} {H H1 : Heap} (h : mZ base xa s H) (hq : ∀ a : Nat, a < H.size → ¬ mA base a → H1[a]? = H[a]?) : mZ base xa s H1 := by
  obtain ⟨h1, h2, h3, h4, ⟨adV, h5⟩, h6, h7⟩ := h
  exact ⟨h1, h2, h3, h4, ⟨adV, h5.kept hq⟩, h6.kept hq, h7.kept hq⟩
/-! LOCALS -/
def mLh (base : Nat) (xa : Nat → Nat) (ls : Array Slot) (nL : Nat) (loc : List (Option Value)) : Prop := ls.size = nL ∧ loc.length = nL ∧ lv_wf ls ∧ ∀ (i : Nat) (v : Value), loc[i]? = some (some v) → ls[i]? = some (.val (mCv base xa v))
def mLv (base : Nat) (xa : Nat → Nat) (loc : List (Option Value)) : List (Nat × Value) := (List.range loc.length).filterMap (fun i => match loc[i]? with
  | some (some v) => some (i, mCv base xa v)
  | _ => none)
theorem mLv_mem {base : Nat} {xa : Nat → Nat} {loc : List (Option Value)} {i : Nat} {v : Value} (h : loc[i]? = some (some v)) : (i, mCv base xa v) ∈ mLv base xa loc := by
  unfold mLv
  refine List.mem_filterMap.mpr ⟨i, List.mem_range.mpr (List.getElem?_eq_some_iff.mp h).1, ?_⟩
  rw [h]
theorem mLv_of {base : Nat} {xa : Nat → Nat} {loc : List (Option Value)} {q : Nat × Value} (h : q ∈ mLv base xa loc) : ∃ v, loc[q.1]? = some (some v) ∧ q.2 = mCv base xa v := by
  unfold mLv at h
  obtain ⟨i, -, hi⟩ := List.mem_filterMap.mp h
  split at hi
  · next v hv =>
    cases hi
    exact ⟨v, hv, rfl⟩
  · cases hi
theorem mLh.has {base : Nat} {xa : Nat → Nat} {ls : Array Slot} {nL : Nat} {loc : List (Option Value)} (h : mLh base xa ls nL loc) : lv_has ls nL (mLv base xa loc) := by
  refine ⟨h.1, h.2.2.1, fun q hq => ?_⟩
  obtain ⟨v, h1, h2⟩ := mLv_of hq
  rw [h2]
  exact h.2.2.2 _ _ h1
theorem mClr_len (loc : List (Option Value)) (i : Nat) : (mClr loc i).length = loc.length := by
  unfold mClr
  split
  · rfl
  · split <;> simp
theorem mClr_at {loc : List (Option Value)} {i j : Nat} {v : Value} (h : (mClr loc i)[j]? = some (some v)) : loc[j]? = some (some v) ∧ ¬ (j + 1 = i ∧ v.category = 2) := by
  cases i with
  | zero => exact ⟨h, fun q => by omega⟩
  | succ n =>
    unfold mClr at h
    dsimp only at h
    split at h
    · next x hx =>
      rw [List.getElem?_set] at h
      by_cases hj : n = j
      · rw [if_pos hj] at h
        split at h <;> cases h
      · rw [if_neg hj] at h
        exact ⟨h, fun q => hj (by omega)⟩
    · next x hx =>
      rw [List.getElem?_set] at h
      by_cases hj : n = j
      · rw [if_pos hj] at h
        split at h <;> cases h
      · rw [if_neg hj] at h
        exact ⟨h, fun q => hj (by omega)⟩
    · next h1 h2 =>
      refine ⟨h, fun q => ?_⟩
      obtain ⟨q1, q2⟩ := q
      have q1 : j = n := by omega
      subst q1
      cases v with
      | long x => exact h1 x h
      | double x => exact h2 x h
      | _ => simp [Value.category] at q2
theorem mLh.set1 {base : Nat} {xa : Nat → Nat} {ls ls' : Array Slot} {nL i : Nat} {loc : List (Option Value)} {v : Value} (h : mLh base xa ls nL loc)
    (h' : lv_has ls' nL ((i, mCv base xa v) :: (mLv base xa loc).filter (fun q => !(q.1 == i) && !(q.1 + 1 == i && q.2.category == 2)))) : mLh base xa ls' nL ((mClr loc i).set i (some v)) := by
  refine ⟨h'.1, by rw [List.length_set, mClr_len]; exact h.2.1, h'.2.1, fun j w hw => ?_⟩
  rw [List.getElem?_set] at hw
  by_cases hj : i = j
  · subst hj
    rw [if_pos rfl] at hw
    split at hw
    · cases hw
      exact h'.2.2 _ List.mem_cons_self
    · cases hw
  · rw [if_neg hj] at hw
    obtain ⟨hw, hc⟩ := mClr_at hw
    refine h'.2.2 (j, mCv base xa w) (List.mem_cons_of_mem _ (List.mem_filter.mpr ⟨mLv_mem hw, ?_⟩))
    have hj2 : ¬ j = i := fun q => hj q.symm
    by_cases hj3 : j + 1 = i
    · have hc : ¬ w.category = 2 := fun q => hc ⟨hj3, q⟩
      simp [hj2, mCv_cat, hc]
    · simp [hj2, hj3]
theorem mLh.set2 {base : Nat} {xa : Nat → Nat} {ls ls' : Array Slot} {nL i : Nat} {loc : List (Option Value)} {v : Value} (h : mLh base xa ls nL loc)
    (h' : lv_has ls' nL ((i, mCv base xa v) :: (mLv base xa loc).filter (fun q => !(q.1 == i) && (!(q.1 == i + 1) && !(q.1 + 1 == i && q.2.category == 2))))) : mLh base xa ls' nL (((mClr loc i).set i (some v)).set (i + 1) none) := by
  refine ⟨h'.1, by rw [List.length_set, List.length_set, mClr_len]; exact h.2.1, h'.2.1, fun j w hw => ?_⟩
  rw [List.getElem?_set] at hw
  by_cases hk : i + 1 = j
  · subst hk
    rw [if_pos rfl] at hw
    split at hw <;> cases hw
  rw [if_neg hk, List.getElem?_set] at hw
  by_cases hj : i = j
  · subst hj
    rw [if_pos rfl] at hw
    split at hw
    · cases hw
      exact h'.2.2 _ List.mem_cons_self
    · cases hw
  · rw [if_neg hj] at hw
    obtain ⟨hw, hc⟩ := mClr_at hw
    refine h'.2.2 (j, mCv base xa w) (List.mem_cons_of_mem _ (List.mem_filter.mpr ⟨mLv_mem hw, ?_⟩))
    have hj2 : ¬ j = i := fun q => hj q.symm
    have hk2 : ¬ j = i + 1 := fun q => hk q.symm
    by_cases hj3 : j + 1 = i
    · have hc : ¬ w.category = 2 := fun q => hc ⟨hj3, q⟩
      simp [hj2, hk2, mCv_cat, hc]
    · simp [hj2, hk2, hj3]
