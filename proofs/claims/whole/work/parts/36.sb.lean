/-! THE TEXTS' METHODS: searching -/
section SFind
variable {l : Launch} {D : va_G} {cA : Nat → ClassId} {base : Nat} {xa adV : Nat → Nat} {σ : mMem} {i : Nat}
theorem s_can {x : Int32} (h0 : 0 ≤ x) (h1 : x < 256) : sM l D cA base xa adV σ 0 yJ1_canEncode_9a6ad cJ1_canEncode_9a6ad 1 (some .boolean) [.int x] (some (.int 1)) := by
  refine sM_i sp_can (Nat.le_of_ble_eq_true rfl) ?_
  intro p e s m below meth c ls C hP hL
  have hL : lv_has ls 1 [(0, .int x)] := hL
  obtain ⟨hx, hb, hml, hown, hts, hK, hsz, hZ, hret, hlk, hV⟩ := id C
  have hS : va_S (mA base) s.heap s.heap [] := va_S.rf
  have L0 : ls[0]? = some (.val (.int x)) := hL.2.2 (0, .int x) (List.mem_cons_self)
  refine lv_iload_n hx hb sd_can_0 rfl L0 ?_
  refine lv_if_lt (tgt := 15) hx hb sd_can_1 (by decide) (fun h => absurd h (Int32.not_lt.mpr h0)) (fun _ => ?_)
  refine lv_iload_n hx hb sd_can_4 rfl L0 ?_
  refine lv_sipush (v := 255) hx hb sd_can_5 (by decide) ?_
  refine lv_icmp_gt (tgt := 15) hx hb sd_can_8 (by decide) (fun h => absurd h ?_) (fun _ => ?_)
  · obtain ⟨e1, e2⟩ := pos_nI h0
    rw [← e1] at h1 ⊢
    have h1 : nI x.toNatClampNeg < nI 256 := h1
    show ¬ nI 255 < nI x.toNatClampNeg
    rw [nI_ltI e2 (by decide)] at h1
    rw [nI_ltI (by decide) e2]
    omega
  refine lv_iconst (v := 1) hx hb sd_can_11 (by decide) ?_
  refine lv_goto (tgt := 16) hx hb sd_can_12 (by decide) ?_
  exact sRet C rfl hP hS sd_can_16
theorem s_c0 : ∀ n, n < 256 → (nI n).toInt8.toInt32 = nI n ∨ (nI n).toInt8.toInt32 < 0 ∧ ¬ nI n < 128 := by decide +kernel
theorem s_cb {x b : Int32} (h0 : 0 ≤ x) (h1 : x < 256) (b0 : 0 ≤ b) (b1 : b < 128) : b = x.toInt8.toInt32 ↔ b = x := by
  obtain ⟨e1, e2⟩ := pos_nI h0
  have h2 : nI x.toNatClampNeg < nI 256 := by rw [e1]; exact h1
  rw [nI_ltI e2 (by decide)] at h2
  rcases s_c0 _ h2 with h | ⟨h, h3⟩
  · rw [e1] at h; rw [h]
  · rw [e1] at h h3
    constructor
    · intro q; rw [← q] at h; exact absurd h (Int32.not_lt.mpr b0)
    · intro q; rw [← q] at h3; exact absurd b1 h3
theorem s_dr {j k : Nat} (hj : j < 2) (hk : k < mLenS.getD j 0) : (mTx j).drop k = (mTx j).getD k 0 :: (mTx j).drop (k + 1) := by
  rw [← s_ln j hj] at hk
  rw [List.getD_eq_getElem?_getD, List.getElem?_eq_getElem hk]
  exact List.drop_eq_getElem_cons hk
theorem s_lidc_loop {x : Int32} (hi : i < 2) (h0 : 0 ≤ x) (h1 : x < 256) {p : Program} {e : Env} {s : State} {m : MethodId} {below : List Frame} {meth : Method} {c : Code} (C : sC D cA base xa adV σ p s m meth c [Value.ref (adV i), .int x, .int 0, .int (Int32.ofNat (mLenS.getD i 0))].toArray yJ1_indexOfChar_4cfef.cls cJ1_indexOfChar_4cfef 6 (some .int)) (hP : va_P D mCl (mWs base cA σ) s.heap) (hS : va_S (mA base) s.heap s.heap []) :
    ∀ (g k : Nat) (ls : Array Slot), mLenS.getD i 0 - k ≤ g → k ≤ mLenS.getD i 0 → mIdx x (mTx i) 0 = mIdx x ((mTx i).drop k) k → lv_has ls 6 [(5, .int (nI k)), (4, .int x.toInt8.toInt32), (0, .ref (adV i)), (1, .int x), (2, .int 0), (3, .int (Int32.ofNat (mLenS.getD i 0)))] →
    W p l e (sRm 0) s m [Value.ref (adV i), .int x, .int 0, .int (Int32.ofNat (mLenS.getD i 0))].toArray below meth c s.heap [] 0 0 (MQ below (sQ D cA base σ (some (.int (mIdx x (mTx i) 0)))) [Value.ref (adV i), .int x, .int 0, .int (Int32.ofNat (mLenS.getD i 0))].toArray s 0 0 (mA base)) (F0 m 7 ls []) := by
  obtain ⟨hx, hb, hml, hown, hts, hK, hsz, hZ, hret, hlk, hV⟩ := id C
  obtain ⟨l1, l2⟩ := s_ls i hi
  intro g
  induction g with
  | zero =>
    intro k ls hg hk hq hL
    have e : k = mLenS.getD i 0 := by omega
    have L5 : ls[5]? = some (.val (.int (nI k))) := hL.2.2 (5, .int (nI k)) (List.mem_cons_self)
    have L3 : ls[3]? = some (.val (.int (Int32.ofNat (mLenS.getD i 0)))) := hL.2.2 (3, .int (Int32.ofNat (mLenS.getD i 0))) (List.mem_cons_of_mem _ (List.mem_cons_of_mem _ (List.mem_cons_of_mem _ (List.mem_cons_of_mem _ (List.mem_cons_of_mem _ (List.mem_cons_self))))))
    refine lv_iload hx hb sd_lidc_7 L5 ?_
    refine lv_iload_n hx hb sd_lidc_9 rfl L3 ?_
    refine lv_icmp_ge (tgt := 31) hx hb sd_lidc_10 (by decide) (fun _ => ?_) (fun h => ?_)
    · refine lv_iconst (v := -1) hx hb sd_lidc_31 (by decide) ?_
      have e9 : mIdx x (mTx i) 0 = -1 := by
        rw [hq, List.drop_eq_nil_of_le (by rw [s_ln i hi]; omega)]; rfl
      rw [e9]
      exact sRet C rfl hP hS sd_lidc_32
    · exfalso
      have h : ¬ nI (mLenS.getD i 0) ≤ nI k := h
      rw [nI_leI (by omega) (by omega)] at h
      omega
  | succ g ih =>
    intro k ls hg hk hq hL
    have L5 : ls[5]? = some (.val (.int (nI k))) := hL.2.2 (5, .int (nI k)) (List.mem_cons_self)
    have L3 : ls[3]? = some (.val (.int (Int32.ofNat (mLenS.getD i 0)))) := hL.2.2 (3, .int (Int32.ofNat (mLenS.getD i 0))) (List.mem_cons_of_mem _ (List.mem_cons_of_mem _ (List.mem_cons_of_mem _ (List.mem_cons_of_mem _ (List.mem_cons_of_mem _ (List.mem_cons_self))))))
    have L0 : ls[0]? = some (.val (.ref (adV i))) := hL.2.2 (0, .ref (adV i)) (List.mem_cons_of_mem _ (List.mem_cons_of_mem _ (List.mem_cons_self)))
    have L4 : ls[4]? = some (.val (.int x.toInt8.toInt32)) := hL.2.2 (4, .int x.toInt8.toInt32) (List.mem_cons_of_mem _ (List.mem_cons_self))
    refine lv_iload hx hb sd_lidc_7 L5 ?_
    refine lv_iload_n hx hb sd_lidc_9 rfl L3 ?_
    refine lv_icmp_ge (tgt := 31) hx hb sd_lidc_10 (by decide) (fun h => ?_) (fun h => ?_)
    · have h : nI (mLenS.getD i 0) ≤ nI k := h
      rw [nI_leI (by omega) (by omega)] at h
      refine lv_iconst (v := -1) hx hb sd_lidc_31 (by decide) ?_
      have e9 : mIdx x (mTx i) 0 = -1 := by
        rw [hq, List.drop_eq_nil_of_le (by rw [s_ln i hi]; omega)]; rfl
      rw [e9]
      exact sRet C rfl hP hS sd_lidc_32
    · have h : ¬ nI (mLenS.getD i 0) ≤ nI k := h
      rw [nI_leI (by omega) (by omega)] at h
      have hk2 : k < mLenS.getD i 0 := by omega
      obtain ⟨-, -, b0, b1⟩ := s_b0 i hi _ (s_bm hi hk2)
      have ek : (nI k).toNatClampNeg = k := nI_clamp (by omega)
      rw [s_dr hi hk2] at hq
      refine lv_aload_n hx hb sd_lidc_13 rfl L0 ?_
      refine lv_iload hx hb sd_lidc_14 L5 ?_
      refine va_tb (v := .int ((mTx i).getD k 0)) hx hb (hV.1 i hi).2.2.2 hS (fun q => ?_) (by rw [ek]; rfl) sd_lidc_16 ?_
      · rcases q with q | q
        · have q : nI k < nI 0 := q
          rw [nI_ltI (by omega) (by decide)] at q
          omega
        · rw [ek] at q; omega
      refine lv_iload hx hb sd_lidc_17 L4 ?_
      refine lv_icmp_ne (tgt := 25) hx hb sd_lidc_19 (by decide) (fun hne => ?_) (fun heq => ?_)
      · refine lv_iinc (k := 0) (v := nI (k + 1)) hx hb sd_lidc_25 hL rfl (nI_add k 1) (by decide) rfl (fun ls1 hL1 => ?_)
        refine lv_goto (tgt := 7) hx hb sd_lidc_28 (by decide) ?_
        refine ih (k + 1) ls1 (by omega) (by omega) ?_ hL1
        rw [hq]
        exact if_neg (fun q => hne ((s_cb h0 h1 b0 b1).mpr q))
      · refine lv_iload hx hb sd_lidc_22 L5 ?_
        have e9 : mIdx x (mTx i) 0 = nI k := by
          rw [hq]
          exact if_pos ((s_cb h0 h1 b0 b1).mp heq)
        rw [e9]
        exact sRet C rfl hP hS sd_lidc_24
theorem s_lidc {i : Nat} {x : Int32} (hi : i < 2) (h0 : 0 ≤ x) (h1 : x < 256) : sM l D cA base xa adV σ 0 yJ1_indexOfChar_4cfef cJ1_indexOfChar_4cfef 6 (some .int) [.ref (adV i), .int x, .int 0, .int (Int32.ofNat (mLenS.getD i 0))] (some (.int (mIdx x (mTx i) 0))) := by
  refine sM_i sp_lidc (Nat.le_of_ble_eq_true rfl) ?_
  intro p e s m below meth c ls C hP hL
  have hL : lv_has ls 6 [(0, .ref (adV i)), (1, .int x), (2, .int 0), (3, .int (Int32.ofNat (mLenS.getD i 0)))] := hL
  obtain ⟨hx, hb, hml, hown, hts, hK, hsz, hZ, hret, hlk, hV⟩ := id C
  have hS : va_S (mA base) s.heap s.heap [] := va_S.rf
  have L0 : ls[0]? = some (.val (.ref (adV i))) := hL.2.2 (0, .ref (adV i)) (List.mem_cons_self)
  have L1 : ls[1]? = some (.val (.int x)) := hL.2.2 (1, .int x) (List.mem_cons_of_mem _ (List.mem_cons_self))
  have L2 : ls[2]? = some (.val (.int 0)) := hL.2.2 (2, .int 0) (List.mem_cons_of_mem _ (List.mem_cons_of_mem _ (List.mem_cons_self)))
  have L3 : ls[3]? = some (.val (.int (Int32.ofNat (mLenS.getD i 0)))) := hL.2.2 (3, .int (Int32.ofNat (mLenS.getD i 0))) (List.mem_cons_of_mem _ (List.mem_cons_of_mem _ (List.mem_cons_of_mem _ (List.mem_cons_self))))
  refine lv_iload_n hx hb sd_lidc_0 rfl L1 ?_
  refine lv_i2b (v := x.toInt8.toInt32) hx hb sd_lidc_1 rfl ?_
  refine lv_istore (lv' := [(4, .int x.toInt8.toInt32), (0, .ref (adV i)), (1, .int x), (2, .int 0), (3, .int (Int32.ofNat (mLenS.getD i 0)))]) hx hb sd_lidc_2 hL (by decide) rfl (fun ls1 hL1 => ?_)
  have M2 : ls1[2]? = some (.val (.int 0)) := hL1.2.2 (2, .int 0) (List.mem_cons_of_mem _ (List.mem_cons_of_mem _ (List.mem_cons_of_mem _ (List.mem_cons_self))))
  refine lv_iload_n hx hb sd_lidc_4 rfl M2 ?_
  refine lv_istore (lv' := [(5, .int (nI 0)), (4, .int x.toInt8.toInt32), (0, .ref (adV i)), (1, .int x), (2, .int 0), (3, .int (Int32.ofNat (mLenS.getD i 0)))]) hx hb sd_lidc_5 hL1 (by decide) rfl (fun ls2 hL2 => ?_)
  exact s_lidc_loop hi h0 h1 C hP hS (mLenS.getD i 0) 0 ls2 (by omega) (by omega) rfl hL2
theorem s_lidx {i : Nat} {x : Int32} (hi : i < 2) (h0 : 0 ≤ x) (h1 : x < 256) : sM l D cA base xa adV σ 1 yJ1_indexOf_4cfef cJ1_indexOf_4cfef 4 (some .int) [.ref (adV i), .int x, .int 0, .int (Int32.ofNat (mLenS.getD i 0))] (some (.int (mIdx x (mTx i) 0))) := by
  refine sM_i sp_lidx (Nat.le_of_ble_eq_true rfl) ?_
  intro p e s m below meth c ls C hP hL
  have hL : lv_has ls 4 [(0, .ref (adV i)), (1, .int x), (2, .int 0), (3, .int (Int32.ofNat (mLenS.getD i 0)))] := hL
  obtain ⟨hx, hb, hml, hown, hts, hK, hsz, hZ, hret, hlk, hV⟩ := id C
  have hS : va_S (mA base) s.heap s.heap [] := va_S.rf
  have L0 : ls[0]? = some (.val (.ref (adV i))) := hL.2.2 (0, .ref (adV i)) (List.mem_cons_self)
  have L1 : ls[1]? = some (.val (.int x)) := hL.2.2 (1, .int x) (List.mem_cons_of_mem _ (List.mem_cons_self))
  have L2 : ls[2]? = some (.val (.int 0)) := hL.2.2 (2, .int 0) (List.mem_cons_of_mem _ (List.mem_cons_of_mem _ (List.mem_cons_self)))
  have L3 : ls[3]? = some (.val (.int (Int32.ofNat (mLenS.getD i 0)))) := hL.2.2 (3, .int (Int32.ofNat (mLenS.getD i 0))) (List.mem_cons_of_mem _ (List.mem_cons_of_mem _ (List.mem_cons_of_mem _ (List.mem_cons_self))))
  obtain ⟨-, -, -, ⟨w1, w2, w3, w4, w5⟩, -⟩ := mBase_ok
  refine lv_iload_n hx hb sd_lidx_0 rfl L1 ?_
  refine sCallS (d := 0) (As := [.int x]) (rest := []) C (s_can h0 h1) sw_can sl_88 st_can ⟨by decide, by decide⟩ hP hS hL.1 rfl rfl (Nat.le_of_ble_eq_true rfl) sd_lidx_1 (fun H1 locs1 hP1 hS1 => ?_)
  refine lv_if_ne (tgt := 9) hx hb sd_lidx_4 (by decide) (fun _ => ?_) (fun h => absurd h (by decide))
  refine lv_iload_n hx hb sd_lidx_9 rfl L2 ?_
  refine lv_iconst (v := 0) hx hb sd_lidx_10 (by decide) ?_
  refine va_mmax (own := "java/lang/StringLatin1") (index := 92) (rest := []) hx hb (hml.trans hL.1.symm) hown (hts _ sl_92) (hts _ w1) (hts _ w3) (hts _ w4) (Nat.le_of_ble_eq_true rfl) (Nat.le_of_ble_eq_true rfl) (Nat.le_refl _) (Nat.le_refl _) sd_lidx_11 ?_
  rw [ite_self]
  refine lv_istore_n (i := 2) (lv' := [(2, .int 0), (0, .ref (adV i)), (1, .int x), (3, .int (Int32.ofNat (mLenS.getD i 0)))]) hx hb sd_lidx_14 rfl hL (by decide) rfl (fun ls1 hL1 => ?_)
  have M0 : ls1[0]? = some (.val (.ref (adV i))) := hL1.2.2 (0, .ref (adV i)) (List.mem_cons_of_mem _ (List.mem_cons_self))
  have M3 : ls1[3]? = some (.val (.int (Int32.ofNat (mLenS.getD i 0)))) := hL1.2.2 (3, .int (Int32.ofNat (mLenS.getD i 0))) (List.mem_cons_of_mem _ (List.mem_cons_of_mem _ (List.mem_cons_of_mem _ (List.mem_cons_self))))
  refine lv_iload_n hx hb sd_lidx_15 rfl M3 ?_
  refine lv_aload_n hx hb sd_lidx_16 rfl M0 ?_
  refine va_tlen hx hb (hV.1 i hi).2.2.2 hS1 rfl sd_lidx_17 ?_
  refine va_mmin (own := "java/lang/StringLatin1") (index := 38) (rest := []) hx hb (hml.trans hL1.1.symm) hown (hts _ sl_38) (hts _ w2) (hts _ w3) (hts _ w5) (Nat.le_of_ble_eq_true rfl) (Nat.le_of_ble_eq_true rfl) (Nat.le_refl _) (Nat.le_refl _) sd_lidx_18 ?_
  rw [ite_self]
  refine lv_istore_n (i := 3) (lv' := [(3, .int (Int32.ofNat (mLenS.getD i 0))), (2, .int 0), (0, .ref (adV i)), (1, .int x)]) hx hb sd_lidx_21 rfl hL1 (by decide) rfl (fun ls2 hL2 => ?_)
  have K3 : ls2[3]? = some (.val (.int (Int32.ofNat (mLenS.getD i 0)))) := hL2.2.2 (3, .int (Int32.ofNat (mLenS.getD i 0))) (List.mem_cons_self)
  have K2 : ls2[2]? = some (.val (.int 0)) := hL2.2.2 (2, .int 0) (List.mem_cons_of_mem _ (List.mem_cons_self))
  have K0 : ls2[0]? = some (.val (.ref (adV i))) := hL2.2.2 (0, .ref (adV i)) (List.mem_cons_of_mem _ (List.mem_cons_of_mem _ (List.mem_cons_self)))
  have K1 : ls2[1]? = some (.val (.int x)) := hL2.2.2 (1, .int x) (List.mem_cons_of_mem _ (List.mem_cons_of_mem _ (List.mem_cons_of_mem _ (List.mem_cons_self))))
  refine lv_iload_n hx hb sd_lidx_22 rfl K2 ?_
  refine lv_iload_n hx hb sd_lidx_23 rfl K3 ?_
  refine lv_icmp_lt (tgt := 29) hx hb sd_lidx_24 (by decide) (fun _ => ?_) (fun h => absurd ?_ h)
  · refine lv_aload_n hx hb sd_lidx_29 rfl K0 ?_
    refine lv_iload_n hx hb sd_lidx_30 rfl K1 ?_
    refine lv_iload_n hx hb sd_lidx_31 rfl K2 ?_
    refine lv_iload_n hx hb sd_lidx_32 rfl K3 ?_
    refine sCallS (d := 0) (As := [.ref (adV i), .int x, .int 0, .int (Int32.ofNat (mLenS.getD i 0))]) (rest := []) C (s_lidc hi h0 h1) sw_lidc sl_95 st_lidc ⟨by decide, by decide⟩ hP1 hS1 hL2.1 rfl rfl (Nat.le_of_ble_eq_true rfl) sd_lidx_33 (fun H2 locs2 hP2 hS2 => ?_)
    exact sRet C rfl hP2 hS2 sd_lidx_36
  · obtain ⟨l1, l2⟩ := s_ls i hi
    show nI 0 < nI (mLenS.getD i 0)
    rw [nI_ltI (by decide) (by omega)]
    exact l1
theorem s_idx2 {i : Nat} {x : Int32} (hi : i < 2) (h0 : 0 ≤ x) (h1 : x < 256) : sM l D cA base xa adV σ 2 yJ0_indexOf_7cf53 cJ0_indexOf_7cf53 3 (some .int) [.ref (xa (i + 1)), .int x, .int 0] (some (.int (mIdx x (mTx i) 0))) := by
  refine sM_i sp_idx2 (Nat.le_of_ble_eq_true rfl) ?_
  intro p e s m below meth c ls C hP hL
  have hL : lv_has ls 3 [(0, .ref (xa (i + 1))), (1, .int x), (2, .int 0)] := hL
  obtain ⟨hx, hb, hml, hown, hts, hK, hsz, hZ, hret, hlk, hV⟩ := id C
  have hS : va_S (mA base) s.heap s.heap [] := va_S.rf
  have L0 : ls[0]? = some (.val (.ref (xa (i + 1)))) := hL.2.2 (0, .ref (xa (i + 1))) (List.mem_cons_self)
  have L1 : ls[1]? = some (.val (.int x)) := hL.2.2 (1, .int x) (List.mem_cons_of_mem _ (List.mem_cons_self))
  have L2 : ls[2]? = some (.val (.int 0)) := hL.2.2 (2, .int 0) (List.mem_cons_of_mem _ (List.mem_cons_of_mem _ (List.mem_cons_self)))
  refine lv_aload_n hx hb sd_idx2_0 rfl L0 ?_
  refine sCallV (d := 0) (As := []) (rest := []) C (s_latin hi) sw_latin sl_492 si_latin se_latin ⟨by decide, by decide⟩ (fun H0 locs0 hS0 => vk_recv (adK := fun i => xa (i + 1)) (i := i) hV hi hS0) hP hS hL.1 rfl rfl (Nat.le_of_ble_eq_true rfl) sd_idx2_1 (fun H1 locs1 hP1 hS1 => ?_)
  refine lv_if_eq (tgt := 23) hx hb sd_idx2_4 (by decide) (fun h => absurd h (by decide)) (fun _ => ?_)
  refine lv_aload_n hx hb sd_idx2_7 rfl L0 ?_
  refine vk_getf hx hb (hV.1 i hi).2.2.1 hS1 hown (hts _ sk_9) (fun x h => h) sd_idx2_8 ?_
  refine lv_iload_n hx hb sd_idx2_11 rfl L1 ?_
  refine lv_iload_n hx hb sd_idx2_12 rfl L2 ?_
  refine lv_aload_n hx hb sd_idx2_13 rfl L0 ?_
  refine sCallV (d := 1) (As := []) (rest := [.int 0, .int x, .ref (adV i)]) C (s_len hi) sw_len sl_505 si_len se_len ⟨by decide, by decide⟩ (fun H0 locs0 hS0 => vk_recv (adK := fun i => xa (i + 1)) (i := i) hV hi hS0) hP1 hS1 hL.1 rfl rfl (Nat.le_of_ble_eq_true rfl) sd_idx2_14 (fun H2 locs2 hP2 hS2 => ?_)
  refine sCallS (d := 1) (As := [.ref (adV i), .int x, .int 0, .int (Int32.ofNat (mLenS.getD i 0))]) (rest := []) C (s_lidx hi h0 h1) sw_lidx sl_637 st_lidx ⟨by decide, by decide⟩ hP2 hS2 hL.1 rfl rfl (Nat.le_of_ble_eq_true rfl) sd_idx2_17 (fun H3 locs3 hP3 hS3 => ?_)
  refine lv_goto (tgt := 36) hx hb sd_idx2_20 (by decide) ?_
  exact sRet C rfl hP3 hS3 sd_idx2_36
theorem s_idx {i : Nat} {x : Int32} (hi : i < 2) (h0 : 0 ≤ x) (h1 : x < 256) : sM l D cA base xa adV σ 3 yJ0_indexOf_0f7a4 cJ0_indexOf_0f7a4 2 (some .int) [.ref (xa (i + 1)), .int x] (some (.int (mIdx x (mTx i) 0))) := by
  refine sM_i sp_idx (Nat.le_of_ble_eq_true rfl) ?_
  intro p e s m below meth c ls C hP hL
  have hL : lv_has ls 2 [(0, .ref (xa (i + 1))), (1, .int x)] := hL
  obtain ⟨hx, hb, hml, hown, hts, hK, hsz, hZ, hret, hlk, hV⟩ := id C
  have hS : va_S (mA base) s.heap s.heap [] := va_S.rf
  have L0 : ls[0]? = some (.val (.ref (xa (i + 1)))) := hL.2.2 (0, .ref (xa (i + 1))) (List.mem_cons_self)
  have L1 : ls[1]? = some (.val (.int x)) := hL.2.2 (1, .int x) (List.mem_cons_of_mem _ (List.mem_cons_self))
  refine lv_aload_n hx hb sd_idx_0 rfl L0 ?_
  refine lv_iload_n hx hb sd_idx_1 rfl L1 ?_
  refine lv_iconst (v := 0) hx hb sd_idx_2 (by decide) ?_
  refine sCallV (d := 2) (As := [.int x, .int 0]) (rest := []) C (s_idx2 hi h0 h1) sw_idx2 sl_633 si_idx2 se_idx2 ⟨by decide, by decide⟩ (fun H0 locs0 hS0 => vk_recv (adK := fun i => xa (i + 1)) (i := i) hV hi hS0) hP hS hL.1 rfl rfl (Nat.le_of_ble_eq_true rfl) sd_idx_3 (fun H1 locs1 hP1 hS1 => ?_)
  exact sRet C rfl hP1 hS1 sd_idx_6
end SFind
