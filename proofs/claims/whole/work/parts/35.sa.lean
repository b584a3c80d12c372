/-! THE TEXTS' METHODS, a contract each -/
section SMeth
variable {l : Launch} {D : va_G} {cA : Nat → ClassId} {base : Nat} {xa adV : Nat → Nat} {σ : mMem} {i : Nat}
theorem s_coder {i : Nat} (hi : i < 2) : sM l D cA base xa adV σ 0 yJ0_coder_7d493 cJ0_coder_7d493 1 (some .byte) [.ref (xa (i + 1))] (some (.int 0)) := by
  refine sM_i sp_coder (Nat.le_of_ble_eq_true rfl) ?_
  intro p e s m below meth c ls C hP hL
  have hL : lv_has ls 1 [(0, .ref (xa (i + 1)))] := hL
  obtain ⟨hx, hb, hml, hown, hts, hK, hsz, hZ, hret, hlk, hV⟩ := id C
  have hS : va_S (mA base) s.heap s.heap [] := va_S.rf
  have L0 : ls[0]? = some (.val (.ref (xa (i + 1)))) := hL.2.2 (0, .ref (xa (i + 1))) (List.mem_cons_self)
  refine va_gets hx hb hZ.2.2.2.2.2.1 hS hown (hts _ sk_38) (fun x h => h) sd_coder_0 ?_
  refine lv_if_eq (tgt := 13) hx hb sd_coder_3 (by decide) (fun h => absurd h (by decide)) (fun _ => ?_)
  refine lv_aload_n hx hb sd_coder_6 rfl L0 ?_
  refine vk_getf hx hb (hV.1 i hi).2.1 hS hown (hts _ sk_15) (fun x h => h) sd_coder_7 ?_
  refine lv_goto (tgt := 14) hx hb sd_coder_10 (by decide) ?_
  exact sRet C rfl hP hS sd_coder_14
theorem s_latin {i : Nat} (hi : i < 2) : sM l D cA base xa adV σ 0 yJ0_isLatin1_aae02 cJ0_isLatin1_aae02 1 (some .boolean) [.ref (xa (i + 1))] (some (.int 1)) := by
  refine sM_i sp_latin (Nat.le_of_ble_eq_true rfl) ?_
  intro p e s m below meth c ls C hP hL
  have hL : lv_has ls 1 [(0, .ref (xa (i + 1)))] := hL
  obtain ⟨hx, hb, hml, hown, hts, hK, hsz, hZ, hret, hlk, hV⟩ := id C
  have hS : va_S (mA base) s.heap s.heap [] := va_S.rf
  have L0 : ls[0]? = some (.val (.ref (xa (i + 1)))) := hL.2.2 (0, .ref (xa (i + 1))) (List.mem_cons_self)
  refine va_gets hx hb hZ.2.2.2.2.2.1 hS hown (hts _ sk_38) (fun x h => h) sd_latin_0 ?_
  refine lv_if_eq (tgt := 17) hx hb sd_latin_3 (by decide) (fun h => absurd h (by decide)) (fun _ => ?_)
  refine lv_aload_n hx hb sd_latin_6 rfl L0 ?_
  refine vk_getf hx hb (hV.1 i hi).2.1 hS hown (hts _ sk_15) (fun x h => h) sd_latin_7 ?_
  refine lv_if_ne (tgt := 17) hx hb sd_latin_10 (by decide) (fun h => absurd rfl h) (fun _ => ?_)
  refine lv_iconst (v := 1) hx hb sd_latin_13 (by decide) ?_
  refine lv_goto (tgt := 18) hx hb sd_latin_14 (by decide) ?_
  exact sRet C rfl hP hS sd_latin_18
theorem s_shr : ∀ i, i < 2 → (Int32.ofNat (mLenS.getD i 0)) >>> ((0 : Int32) &&& 31) = Int32.ofNat (mLenS.getD i 0) := by decide +kernel
theorem s_len {i : Nat} (hi : i < 2) : sM l D cA base xa adV σ 1 yJ0_length_8abf5 cJ0_length_8abf5 1 (some .int) [.ref (xa (i + 1))] (some (.int (Int32.ofNat (mLenS.getD i 0)))) := by
  refine sM_i sp_len (Nat.le_of_ble_eq_true rfl) ?_
  intro p e s m below meth c ls C hP hL
  have hL : lv_has ls 1 [(0, .ref (xa (i + 1)))] := hL
  obtain ⟨hx, hb, hml, hown, hts, hK, hsz, hZ, hret, hlk, hV⟩ := id C
  have hS : va_S (mA base) s.heap s.heap [] := va_S.rf
  have L0 : ls[0]? = some (.val (.ref (xa (i + 1)))) := hL.2.2 (0, .ref (xa (i + 1))) (List.mem_cons_self)
  refine lv_aload_n hx hb sd_len_0 rfl L0 ?_
  refine vk_getf hx hb (hV.1 i hi).2.2.1 hS hown (hts _ sk_9) (fun x h => h) sd_len_1 ?_
  refine va_tlen hx hb (hV.1 i hi).2.2.2 hS rfl sd_len_4 ?_
  refine lv_aload_n hx hb sd_len_5 rfl L0 ?_
  refine sCallV (d := 0) (As := []) (rest := [.int (Int32.ofNat (mLenS.getD i 0))]) C (s_coder hi) sw_coder sl_335 si_coder se_coder ⟨by decide, by decide⟩ (fun H0 locs0 hS0 => vk_recv (adK := fun i => xa (i + 1)) (i := i) hV hi hS0) hP hS hL.1 rfl rfl (Nat.le_of_ble_eq_true rfl) sd_len_6 (fun H1 locs1 hP1 hS1 => ?_)
  refine lv_ishr hx hb sd_len_9 ?_
  rw [s_shr i hi]
  exact sRet C rfl hP1 hS1 sd_len_10
theorem s_pchk {x n : Int32} {v : Value} (hv : v = .null ∨ ∃ t, v = .ref t) (h0 : ¬ x < 0) (h1 : x < n) : sM l D cA base xa adV σ 0 yJ3_checkIndex_8e157 cJ3_checkIndex_8e157 3 (some .int) [.int x, .int n, v] (some (.int x)) := by
  refine sM_i sp_pchk (by rcases hv with rfl | ⟨t, rfl⟩ <;> exact Nat.le_of_ble_eq_true rfl) ?_
  intro p e s m below meth c ls C hP hL
  have hL : lv_has ls 3 [(0, .int x), (1, .int n), (2, v)] := hL
  obtain ⟨hx, hb, hml, hown, hts, hK, hsz, hZ, hret, hlk, hV⟩ := id C
  have hS : va_S (mA base) s.heap s.heap [] := va_S.rf
  have L0 : ls[0]? = some (.val (.int x)) := hL.2.2 (0, .int x) (List.mem_cons_self)
  have L1 : ls[1]? = some (.val (.int n)) := hL.2.2 (1, .int n) (List.mem_cons_of_mem _ (List.mem_cons_self))
  refine lv_iload_n hx hb sd_pchk_0 rfl L0 ?_
  refine lv_if_lt (tgt := 9) hx hb sd_pchk_1 (by decide) (fun h => absurd h h0) (fun _ => ?_)
  refine lv_iload_n hx hb sd_pchk_4 rfl L0 ?_
  refine lv_iload_n hx hb sd_pchk_5 rfl L1 ?_
  refine lv_icmp_lt (tgt := 16) hx hb sd_pchk_6 (by decide) (fun _ => ?_) (fun h => absurd h1 h)
  refine lv_iload_n hx hb sd_pchk_16 rfl L0 ?_
  exact sRet C rfl hP hS sd_pchk_17
theorem s_chk {x n : Int32} (h0 : ¬ x < 0) (h1 : x < n) : sM l D cA base xa adV σ 1 yJ0_checkIndex_df160 cJ0_checkIndex_df160 2 none [.int x, .int n] none := by
  refine sM_i sp_chk (Nat.le_of_ble_eq_true rfl) ?_
  intro p e s m below meth c ls C hP hL
  have hL : lv_has ls 2 [(0, .int x), (1, .int n)] := hL
  obtain ⟨hx, hb, hml, hown, hts, hK, hsz, hZ, hret, hlk, hV⟩ := id C
  have hS : va_S (mA base) s.heap s.heap [] := va_S.rf
  have L0 : ls[0]? = some (.val (.int x)) := hL.2.2 (0, .int x) (List.mem_cons_self)
  have L1 : ls[1]? = some (.val (.int n)) := hL.2.2 (1, .int n) (List.mem_cons_of_mem _ (List.mem_cons_self))
  refine lv_iload_n hx hb sd_chk_0 rfl L0 ?_
  refine lv_iload_n hx hb sd_chk_1 rfl L1 ?_
  have key : ∀ v : Value, (v = .null ∨ ∃ t, v = .ref t) → W p l e (sRm 1) s m [Value.int x, .int n].toArray below meth c s.heap [] 0 0 (MQ below (sQ D cA base σ none) [Value.int x, .int n].toArray s 0 0 (mA base)) (F0 m 5 ls [v, .int n, .int x]) := by
    intro v hv
    refine sCallS (d := 0) (As := [.int x, .int n, v]) (rest := []) C (s_pchk hv h0 h1) sw_pchk sl_1059 st_pchk ⟨by decide, by decide⟩ hP hS hL.1 rfl rfl (Nat.le_of_ble_eq_true rfl) sd_chk_5 (fun H1 locs1 hP1 hS1 => ?_)
    refine lv_pop hx hb sd_chk_8 rfl ?_
    exact sRetv C hP1 hS1 sd_chk_9
  rcases hZ.2.2.2.2.2.2 with hq | ⟨t, hq⟩
  · exact va_gets hx hb hq hS hown (hts _ sk_1053) (fun x h => h) sd_chk_2 (key _ (Or.inl rfl))
  · exact va_gets hx hb hq hS hown (hts _ sk_1053) (fun x h => h) sd_chk_2 (key _ (Or.inr ⟨t, rfl⟩))
theorem s_b0 : ∀ j, j < 2 → ∀ b ∈ mTx j, ((b &&& 255).toUInt32 % 65536).toInt32 = b ∧ b.toUInt32.toUInt16.toUInt32.toInt32 = b ∧ 0 ≤ b ∧ b < 128 := by decide +kernel
theorem s_ln : ∀ j, j < 2 → (mTx j).length = mLenS.getD j 0 := by decide +kernel
theorem s_ls : ∀ j, j < 2 → 0 < mLenS.getD j 0 ∧ mLenS.getD j 0 < 2000 := by decide +kernel
theorem s_bm {j k : Nat} (hj : j < 2) (hk : k < mLenS.getD j 0) : (mTx j).getD k 0 ∈ mTx j := by
  rw [← s_ln j hj] at hk
  rw [List.getD_eq_getElem?_getD, List.getElem?_eq_getElem hk]
  exact List.getElem_mem _
theorem s_in {x : Int32} {n : Nat} (h0 : ¬ x < 0) (h1 : x.toNatClampNeg < n) (hn : n < 2147483648) : x < Int32.ofNat n := by
  obtain ⟨e1, e2⟩ := pos_nI (Int32.not_lt.mp h0)
  rw [← e1]
  exact (nI_ltI (by omega) (by omega)).mpr h1
theorem s_lchar {i : Nat} {x : Int32} (hi : i < 2) (h0 : ¬ x < 0) (h1 : x.toNatClampNeg < mLenS.getD i 0) : sM l D cA base xa adV σ 2 yJ1_charAt_3b067 cJ1_charAt_3b067 2 (some .char) [.ref (adV i), .int x] (some (.int ((mTx i).getD x.toNatClampNeg 0))) := by
  refine sM_i sp_lchar (Nat.le_of_ble_eq_true rfl) ?_
  intro p e s m below meth c ls C hP hL
  have hL : lv_has ls 2 [(0, .ref (adV i)), (1, .int x)] := hL
  obtain ⟨hx, hb, hml, hown, hts, hK, hsz, hZ, hret, hlk, hV⟩ := id C
  have hS : va_S (mA base) s.heap s.heap [] := va_S.rf
  have L0 : ls[0]? = some (.val (.ref (adV i))) := hL.2.2 (0, .ref (adV i)) (List.mem_cons_self)
  have L1 : ls[1]? = some (.val (.int x)) := hL.2.2 (1, .int x) (List.mem_cons_of_mem _ (List.mem_cons_self))
  refine lv_iload_n hx hb sd_lchar_0 rfl L1 ?_
  refine lv_aload_n hx hb sd_lchar_1 rfl L0 ?_
  refine va_tlen hx hb (hV.1 i hi).2.2.2 hS rfl sd_lchar_2 ?_
  refine sCallS (d := 1) (As := [.int x, .int (Int32.ofNat (mLenS.getD i 0))]) (rest := []) C (s_chk h0 (s_in h0 h1 (by have := (s_ls i hi).2; omega))) sw_chk sl_9 st_chk ⟨by decide, by decide⟩ hP hS hL.1 rfl rfl (Nat.le_of_ble_eq_true rfl) sd_lchar_3 (fun H1 locs1 hP1 hS1 => ?_)
  refine lv_aload_n hx hb sd_lchar_6 rfl L0 ?_
  refine lv_iload_n hx hb sd_lchar_7 rfl L1 ?_
  refine va_tb (v := .int ((mTx i).getD x.toNatClampNeg 0)) hx hb (hV.1 i hi).2.2.2 hS1 (fun q => q.elim h0 (fun q => absurd h1 (Nat.not_lt.mpr q))) rfl sd_lchar_8 ?_
  refine lv_sipush (v := 255) hx hb sd_lchar_9 (by decide) ?_
  refine lv_iand hx hb sd_lchar_12 ?_
  obtain ⟨b1, b2, -⟩ := s_b0 i hi _ (s_bm hi h1)
  refine lv_i2c hx hb sd_lchar_13 b1 ?_
  exact sRet C (congrArg Value.int b2) hP1 hS1 sd_lchar_14
theorem s_char {i : Nat} {x : Int32} (hi : i < 2) (h0 : ¬ x < 0) (h1 : x.toNatClampNeg < mLenS.getD i 0) : sM l D cA base xa adV σ 3 yJ0_charAt_5068e cJ0_charAt_5068e 2 (some .char) [.ref (xa (i + 1)), .int x] (some (.int ((mTx i).getD x.toNatClampNeg 0))) := by
  refine sM_i sp_char (Nat.le_of_ble_eq_true rfl) ?_
  intro p e s m below meth c ls C hP hL
  have hL : lv_has ls 2 [(0, .ref (xa (i + 1))), (1, .int x)] := hL
  obtain ⟨hx, hb, hml, hown, hts, hK, hsz, hZ, hret, hlk, hV⟩ := id C
  have hS : va_S (mA base) s.heap s.heap [] := va_S.rf
  have L0 : ls[0]? = some (.val (.ref (xa (i + 1)))) := hL.2.2 (0, .ref (xa (i + 1))) (List.mem_cons_self)
  have L1 : ls[1]? = some (.val (.int x)) := hL.2.2 (1, .int x) (List.mem_cons_of_mem _ (List.mem_cons_self))
  refine lv_aload_n hx hb sd_char_0 rfl L0 ?_
  refine sCallV (d := 0) (As := []) (rest := []) C (s_latin hi) sw_latin sl_492 si_latin se_latin ⟨by decide, by decide⟩ (fun H0 locs0 hS0 => vk_recv (adK := fun i => xa (i + 1)) (i := i) hV hi hS0) hP hS hL.1 rfl rfl (Nat.le_of_ble_eq_true rfl) sd_char_1 (fun H1 locs1 hP1 hS1 => ?_)
  refine lv_if_eq (tgt := 16) hx hb sd_char_4 (by decide) (fun h => absurd h (by decide)) (fun _ => ?_)
  refine lv_aload_n hx hb sd_char_7 rfl L0 ?_
  refine vk_getf hx hb (hV.1 i hi).2.2.1 hS1 hown (hts _ sk_9) (fun x h => h) sd_char_8 ?_
  refine lv_iload_n hx hb sd_char_11 rfl L1 ?_
  refine sCallS (d := 2) (As := [.ref (adV i), .int x]) (rest := []) C (s_lchar hi h0 h1) sw_lchar sl_495 st_lchar ⟨by decide, by decide⟩ hP1 hS1 hL.1 rfl rfl (Nat.le_of_ble_eq_true rfl) sd_char_12 (fun H2 locs2 hP2 hS2 => ?_)
  obtain ⟨b1, b2, -⟩ := s_b0 i hi _ (s_bm hi h1)
  exact sRet C (congrArg Value.int b2) hP2 hS2 sd_char_15
end SMeth
