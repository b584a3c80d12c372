/-! WHOLE METHODS -/
theorem mEnt_sl (base : Nat) (xa : Nat → Nat) : ∀ as : List Value, lg_sl (as.map (mCv base xa)) = (mEnt as).map (fun o => match o with | some v => Slot.val (mCv base xa v) | none => Slot.second)
  | [] => rfl
  | v :: as => by
    have ih := mEnt_sl base xa as
    unfold lg_sl mEnt at ih ⊢
    rw [List.map_cons, List.flatMap_cons, List.flatMap_cons, List.map_append, ih, mCv_cat]
    by_cases h : v.category = 2
    · rw [if_pos h, if_pos h]; rfl
    · rw [if_neg h, if_neg h]; rfl
theorem mEnt_lh {base : Nat} {xa : Nat → Nat} {as : List Value} {n : Nat} (h : (mEnt as).length ≤ n) : mLh base xa ((lg_sl (as.map (mCv base xa)) ++ List.replicate (n - (lg_sl (as.map (mCv base xa))).length) Slot.unset).toArray) n (mEnt as ++ List.replicate (n - (mEnt as).length) none) := by
  have hlen : (lg_sl (as.map (mCv base xa))).length = (mEnt as).length := by rw [mEnt_sl, List.length_map]
  have hE := lv_entry (as.map (mCv base xa)) (n := n) (by rw [hlen]; exact h)
  refine ⟨hE.1, by rw [List.length_append, List.length_replicate]; omega, hE.2.1, fun i v hv => ?_⟩
  by_cases hi : i < (mEnt as).length
  · rw [List.getElem?_append_left hi] at hv
    rw [List.getElem?_toArray, List.getElem?_append_left (by rw [hlen]; exact hi), mEnt_sl, List.getElem?_map, hv]
    rfl
  · rw [List.getElem?_append_right (by omega)] at hv
    have h2 := List.mem_of_getElem? hv
    have h3 := List.eq_of_mem_replicate h2
    cases h3
theorem mMet_le {P : mPrg} {Tx : Nat → List Int32} {d y : Nat} {as : List Value} {σ : mMem} {r : Option Value} {σ' : mMem} (h : mMet P Tx d y as σ r σ') : σ.1 ≤ σ'.1 ∧ σ.2.1 ≤ σ'.2.1 := by
  cases d with
  | zero => exact h.elim
  | succ d => exact ⟨h.1.1, h.1.2.1⟩
set_option maxRecDepth 100000 in
theorem mMet_s {P : mPrg} {NM : Nat} (l : Launch) (D : va_G) (cA : Nat → ClassId) (base : Nat) (xa : Nat → Nat) (hP : mPok P NM) (hS : mStr) : ∀ (d y : Nat) (as : List Value) (σ : mMem) (r : Option Value) (σ' : mMem), y < NM → mMet P mTx d y as σ r σ' → mCtr l P D cA base xa d y as σ r σ' := by
  intro d
  induction d with
  | zero => intro y as σ r σ' hy h; exact h.elim
  | succ d ih =>
    intro y as σ r σ' hy h
    obtain ⟨⟨h1, h2, h3⟩, hrun⟩ := h
    obtain ⟨hB, hM, hO⟩ := id hP
    unfold mCtr
    refine Met.ofW (cc := P.2.1 y) (maxL := P.2.2.1 y) (ret := P.2.2.2.1 y) (hM y hy).2.1 rfl ?_
    intro p e s m args below meth c s₁ B hml hv
    obtain ⟨rfl, hsz, hPP, hK, hZ⟩ := hv
    have hts := atoms_spec (ws := mWy P y) B.pre
    have hlocks := B.notSynchronized
    have hr := B.returns
    have C : mCx p (mRm (d + 1) (σ'.1 - σ.1) (σ'.2.1 - σ.2.1)) s m (as.map (mCv base xa)).toArray c (P.1 y).cls (P.2.1 y) (P.2.2.1 y) D cA base σ.1 xa (0, fun _ => 0) :=
      ⟨B.exec, B.bytes, hml, findClass_of_methodNamed B.named, fun w hw => hts w (List.mem_cons_of_mem _ hw), hK, hsz, hZ, by show 9 ≤ d + 1 + 9; omega, by show 300 ≤ 60 * (d + 1) + 300; omega, Or.inl rfl⟩
    have key := hrun (mPt p l e (mRm (d + 1) (σ'.1 - σ.1) (σ'.2.1 - σ.2.1)) s m (as.map (mCv base xa)).toArray below meth c (MQ below (mQc D cA base xa r σ') (as.map (mCv base xa)).toArray s (σ'.1 - σ.1) (σ'.2.1 - σ.2.1) (mA base)) D cA base xa (P.2.2.1 y) σ.1 σ.2.1 σ') (fun g hg => by
      obtain ⟨o, hc, hst⟩ := hg
      refine mStP_g (d := d) hP hS C (hO y hy g.1 o hc) (name_of_methodNamed B.named B.method).1 ⟨by show d + 10 ≤ d + 1 + 9; omega, by show 60 * d + 360 ≤ 60 * (d + 1) + 300; omega⟩ (Nat.le_refl _) (Nat.le_refl _) rfl rfl rfl (fun mi hmi as1 σ1 rv σ2 hc => ⟨mMet_le hc, ih mi as1 σ1 rv σ2 hmi hc⟩) ?_ hst
      intro H locs ls pc ins hro hd q2 q3
      dsimp only at hro ⊢
      rcases hro with ⟨rfl, e1, e2⟩ | ⟨v, rfl, e1, e2⟩ | ⟨v, rfl, e1, e2⟩
      · subst e2
        exact W.vret B.exec B.bytes (hr.trans e1) (fun t ht hW => ⟨⟨rfl, by rw [ht]; exact q2⟩, q3.F ht⟩) q3.2.2 hd
      · subst e1
        rcases e2 with e2 | ⟨e2, e3⟩
        · exact W.iret (v := v) B.exec B.bytes (hr.trans e2) (fun t ht hW => ⟨⟨rfl, by rw [ht]; exact q2⟩, q3.F ht⟩) q3.2.2 hd
        · exact W.zret (v := v) (ty := .boolean) B.exec B.bytes (hr.trans e2) (by rcases e3 with rfl | rfl <;> rfl) (fun t ht hW => ⟨⟨rfl, by rw [ht]; exact q2⟩, q3.F ht⟩) q3.2.2 hd
      · subst e1
        exact W.lret (v := v) B.exec B.bytes (hr.trans e2) (fun t ht hW => ⟨⟨rfl, by rw [ht]; exact q2⟩, q3.F ht⟩) q3.2.2 hd)
    have w := key.2 (Nat.le_refl _) (Nat.le_refl _) s.heap [] _ hPP va_S.rf (mEnt_lh h3)
    dsimp only at w
    rw [Nat.sub_self, Nat.sub_self] at w
    rw [lg_entry_eq]
    exact w
