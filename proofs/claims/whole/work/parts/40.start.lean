/-! THE START: from the law's entry -/
theorem arrK {s : State} {args : Array Value} {ty : FieldType} (h : (Cond.arrayClass ty).before args s = true) : ∃ cA : ClassId, s.vm.findClass ("[" ++ ty.toString) = some cA ∧ ArrOfT s cA ty := by
  obtain ⟨cA, kA, comp, h1, h2, h3⟩ := Cond.arrayClass_spec h
  exact ⟨cA, h1, fun n z => ⟨fun k h => (by cases h), kA, h2, comp, h3⟩⟩
theorem arrG {s : State} {args : Array Value} (h : (Cond.arrayOver (.array .int)).before args s = true) : ∃ cA : ClassId, s.vm.findClass ("[" ++ (FieldType.array .int).toString) = some cA ∧ ArrOfT s cA (.array .int) := by
  obtain ⟨comp, cA, kA, h1, h2, h3, h4, h5⟩ := arrayOverA_spec h
  exact ⟨cA, h5, fun n z => ⟨fun k h => (by cases h), kA, h3, comp, h4⟩⟩
theorem startK {s : State} {args : Array Value} (hts : ∀ w ∈ lw_tbl, w.before args s = true) (hov : (Cond.arrayOver (.array .int)).before args s = true) : ∃ (D : va_G) (cA : Nat → ClassId), va_K D mCl (mTys cA) s := by
  have hg : ∀ w ∈ mGt, w.before args s = true := fun w hw => hts w (mGt_sub w hw)
  obtain ⟨hcl, ⟨a0, a1, a2, a3⟩, -⟩ := mP_ok.1
  obtain ⟨c0, f0, g0⟩ := arrK (hg _ a0)
  obtain ⟨c1, f1, g1⟩ := arrK (hg _ a1)
  obtain ⟨c2, f2, g2⟩ := arrK (hg _ a2)
  obtain ⟨c3, f3, g3⟩ := arrK (hg _ a3)
  obtain ⟨c4, f4, g4⟩ := arrG hov
  have h : ∀ ci : Nat, ∃ q : ClassId × (Nat → Nat), ci < 13 → u_Kn s (mCn ci) (mTt ci) (mNF ci) q.1 q.2 := fun ci => by
    by_cases hc : ci < 13
    · obtain ⟨h1, h2, h3⟩ := hcl ci hc
      obtain ⟨cC, iS, hk⟩ := u_known (C := mCn ci) (T := mTt ci) (N := mNF ci) (n := mNF ci) hg h1 (hg _ h2)
      exact ⟨(cC, iS), fun _ => hk⟩
    · exact ⟨(c0, fun _ => 0), fun q => absurd q hc⟩
  obtain ⟨F, hF⟩ := Classical.axiomOfChoice h
  refine ⟨(fun ci => (F ci).1, fun ci => (F ci).2), fun k => if k = 0 then c0 else if k = 1 then c1 else if k = 2 then c2 else if k = 3 then c3 else c4, fun ci q hq => ?_, fun k q hq => ?_⟩
  · have hc : ci < 13 := (List.getElem?_eq_some_iff.mp hq).1
    rw [mCl_at ci hc] at hq
    cases hq
    exact hF ci hc
  · have hk : k < 5 := (List.getElem?_eq_some_iff.mp hq).1
    have hk5 : k = 0 ∨ k = 1 ∨ k = 2 ∨ k = 3 ∨ k = 4 := by omega
    rcases hk5 with rfl | rfl | rfl | rfl | rfl
    · cases hq; exact ⟨g0, f0⟩
    · cases hq; exact ⟨g1, f1⟩
    · cases hq; exact ⟨g2, f2⟩
    · cases hq; exact ⟨g3, f3⟩
    · cases hq; exact ⟨g4, f4⟩
set_option maxRecDepth 100000 in
theorem st_ns : ∀ q ∈ mNs, Cond.methodLinkNest q.1 q.2.1 q.2.2.1 q.2.2.2 ∈ lw_tbl := by decide +kernel
set_option maxRecDepth 100000 in
theorem st_w : Cond.arrayOver (.array .int) ∈ lw_tbl ∧ Cond.stringRef RX9 26 mTw ∈ lw_tbl ∧ Cond.stringRef RX9 81 mTs ∈ lw_tbl ∧ Cond.laysStatic "java/lang/String" "COMPACT_STRINGS" "Z" ∈ lw_tbl ∧ Cond.initialized "java/lang/String" ∈ lw_tbl ∧ Cond.laysStatic "jdk/internal/util/Preconditions" "SIOOBE_FORMATTER" "Ljava/util/function/BiFunction;" ∈ lw_tbl ∧ Cond.initialized "jdk/internal/util/Preconditions" ∈ lw_tbl := by decide +kernel
def stT (i : Nat) : Term := if i = 0 then .string RX9 26 else .string RX9 81
def stF : List Cond := flatC (Jvm.Cond.and given_1 narrow_1)
set_option maxRecDepth 100000 in
theorem st_f : Cond.eq (.static "java/lang/String" "COMPACT_STRINGS" "Z") (.int 1) ∈ stF ∧ Cond.isRef (.static "jdk/internal/util/Preconditions" "SIOOBE_FORMATTER" "Ljava/util/function/BiFunction;") ∈ stF ∧ (∀ i, i < 2 → Cond.exactly (stT i) "java/lang/String" ∈ stF ∧ Cond.eq (.field (stT i) "java/lang/String" "coder" "B") (.int 0) ∈ stF ∧ Cond.arrayOf (.field (stT i) "java/lang/String" "value" "[B") .byte ∈ stF ∧ Cond.eq (.length (.field (stT i) "java/lang/String" "value" "[B")) (.int (Int32.ofNat (mLenS.getD i 0))) ∈ stF) ∧ (Cond.not (Cond.eq (stT 0) (stT 1)) ∈ stF ∨ Cond.not (Cond.eq (stT 1) (stT 0)) ∈ stF) := by decide +kernel
set_option maxRecDepth 100000 in
theorem st_e : ∀ i, i < 2 → ∀ j, j < mLenS.getD i 0 → Cond.eq (.elem (.field (stT i) "java/lang/String" "value" "[B") (.int (Int32.ofNat j))) (.int ((mBytS.getD i []).getD j 0)) ∈ stF := by decide +kernel
theorem startZ {s : State} {args : Array Value} {b : Nat} (hts : ∀ w ∈ lw_tbl, w.before args s = true) (hgv : (Jvm.Cond.and given_1 narrow_1).before args s = true) : ∃ xa : Nat → Nat, xa 0 = b ∧ mZ s.heap.size xa s s.heap := by
  obtain ⟨w1, w2, w3, w4, w5, w6, w7⟩ := st_w
  obtain ⟨e1, e2, e3, e4⟩ := st_f
  have hf : ∀ c ∈ stF, c.before args s = true := flat_of_before _ hgv
  have hA : ∀ a : Nat, a < s.heap.size → ¬ mA s.heap.size a := fun a h => Nat.not_le.mpr h
  have hN : ∀ i : Nat, i < 2 → mLenS.getD i 0 < 2 ^ 31 := by decide
  obtain ⟨adK, adV, hS, hev⟩ := vk_Sof (args := args) (s := s) (N := 2) (tm := stT) (len := mLenS) (byt := mBytS) (A := mA s.heap.size) hN (fun i hi => hf _ (e3 i hi).1) (fun i hi => hf _ (e3 i hi).2.1) (fun i hi => hf _ (e3 i hi).2.2.1) (fun i hi => hf _ (e3 i hi).2.2.2) (fun i hi j hj => hf _ (st_e i hi j hj)) (fun i j hi hj hij => by
    have h2 : (i = 0 ∧ j = 1) ∨ (i = 1 ∧ j = 0) := by omega
    rcases h2 with ⟨rfl, rfl⟩ | ⟨rfl, rfl⟩
    · rcases e4 with e4 | e4
      · exact Or.inl (hf _ e4)
      · exact Or.inr (hf _ e4)
    · rcases e4 with e4 | e4
      · exact Or.inr (hf _ e4)
      · exact Or.inl (hf _ e4)) hA
  refine ⟨fun k => if k = 0 then b else adK (k - 1), rfl, fun q hq => va_Nw.of rfl (hts _ (st_ns q hq)), over_moved (Vm.Alike.refl _) (hts _ w1), vk_R.of (hts _ w2) (hev 0 (by omega)), vk_R.of (hts _ w3) (hev 1 (by omega)), ⟨adV, ?_⟩, va_Zof (hts _ w4) (hts _ w5) (va_eqi (hf _ e1)) hA, va_Zqof (hts _ w6) (hts _ w7) (hf _ e2) hA⟩
  exact hS
theorem mOpG_nm {P : mPrg} {NM : Nat} {own nm nm' : String} {cc : ByteArray} {pc : Nat} {o : mOp} (hp : (match o.1 with | .putfield _ => false | _ => true) = true) (h : mOpG P NM own nm cc pc o) : mOpG P NM own nm' cc pc o := by
  obtain ⟨ins, cv, nt⟩ := o
  cases ins <;> first | exact h | (cases hp; done)
set_option maxRecDepth 100000 in
theorem mkL_np : (mkL.all fun e => match e.2.1 with | .putfield _ => false | _ => true) = true := by decide +kernel
set_option maxRecDepth 100000 in
theorem law_ir : decode code 1679 = .ok (.ireturn, 1) := by decide +kernel
set_option maxRecDepth 100000 in
theorem whole_start {p : Program} {e : Env} {s : State} {m : MethodId} {below : List Frame} {meth : Method} {c : Code} (l : Launch) (hflags : l.flags = flags0) {b L : Nat} {xs : Nat → Int32} (hL : L ≤ 3072) (C0 : lw_At p s m meth c b L xs) : W p l e room_1 s m #[Value.ref b] below meth c s.heap [] 0 0 (lw_Z below #[Value.ref b] s) (entryFrame m ([Value.ref b] : List Value).toArray 4) := by
  obtain ⟨hx, hb, hr, hml, hown, hts, hX, hbl, hlocks, hgv⟩ := id C0
  obtain ⟨D, cA, hK⟩ := startK hts (hts _ st_w.1)
  obtain ⟨xa, hxa, hZ⟩ := startZ (b := b) hts hgv
  obtain ⟨M', hrun⟩ := law_run (L := L) (xs := xs) hL
  have C : mCx p room_1 s m #[Value.ref b] c R_law code 4 D cA s.heap.size 0 xa (L + 1, xs) := ⟨hx, hb, hml, hown, fun w hw => hts w (mGt_sub w hw), hK, rfl, hZ, Nat.le_of_ble_eq_true rfl, Nat.le_of_ble_eq_true rfl, Or.inr ⟨by rw [hxa]; exact hX, by rw [hxa]; exact hbl⟩⟩
  have key := hrun (mPt p l e room_1 s m #[Value.ref b] below meth c (lw_Z below #[Value.ref b] s) D cA s.heap.size xa 4 0 0 (mSS M')) (fun g hg => by
    obtain ⟨o, hc, hst⟩ := hg
    refine mStP_g (d := 13) (nm := meth.name) mP_ok mStr_ok C (mOpG_nm (List.all_eq_true.mp mkL_np _ (mLk_mem hc)) (mLaw_ok g.1 o hc)) rfl ⟨Nat.le_of_ble_eq_true rfl, Nat.le_of_ble_eq_true rfl⟩ (Nat.le_of_ble_eq_true rfl) (Nat.le_of_ble_eq_true rfl) rfl rfl rfl (fun mi hmi as1 σ1 rv σ2 hc => ⟨mMet_le hc, mMet_s l D cA s.heap.size xa mP_ok mStr_ok 13 mi as1 σ1 rv σ2 hmi hc⟩) ?_ hst
    intro H locs ls pc ins hro hd q2 q3
    rcases hro with ⟨rfl, e1, e2⟩ | ⟨v, rfl, e1, e2⟩ | ⟨v, rfl, e1, e2⟩
    · cases e1
    · injection e1 with e1
      injection e1 with e1
      subst e1
      refine va_forget (fun q hq => q3.2.2 q hq) ?_
      refine W.widen (k := 600000) (n := 7302250) (Nat.le_of_ble_eq_true rfl) (Nat.le_of_ble_eq_true rfl) ?_
      exact lw_ret hx hb hr hlocks hd
    · cases e2)
  have hP : va_P D mCl (mWs s.heap.size cA iS0) s.heap := fun k q h => by
    rw [show mWs s.heap.size cA iS0 = [] from rfl] at h
    simp at h
  have w := key.2 (Nat.zero_le _) (Nat.zero_le _) s.heap [] _ hP va_S.rf (mEnt_lh (as := [.retAddr 0]) (Nat.le_of_ble_eq_true rfl))
  rw [lg_entry_eq]
  have e0 : ([Value.retAddr 0] : List Value).map (mCv s.heap.size xa) = [Value.ref b] := by
    show [Value.ref (xa 0)] = _
    rw [hxa]
  rw [e0] at w
  exact w
