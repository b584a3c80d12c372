/-! THE LAW'S CODE is good -/
theorem codL : mCodG mkL = true := mCodG_app codL_0 (mCodG_app codL_1 (mCodG_app codL_2 (mCodG_app codL_3 (mCodG_app codL_4 (mCodG_app codL_5 (mCodG_app codL_6 (mCodG_app codL_7 (mCodG_app codL_8 (mCodG_app codL_9 (mCodG_app codL_10 (mCodG_app codL_11 (mCodG_app codL_12 (mCodG_app codL_13 (mCodG_app codL_14 (mCodG_app codL_15 (mCodG_app codL_16 (mCodG_app codL_17 (mCodG_app codL_18 (mCodG_app codL_19 (mCodG_app codL_20 (mCodG_app codL_21 (mCodG_app codL_22 (mCodG_app codL_23 (mCodG_app codL_24 (mCodG_app codL_25 (mCodG_app codL_26 (mCodG_app codL_27 (mCodG_app codL_28 (mCodG_app codL_29 (codL_30))))))))))))))))))))))))))))))
def mCdL (pc : Nat) : Option mOp := mkL.lookup pc
theorem mLaw_ok : ∀ pc o, mCdL pc = some o → mOpG mP mL.length "MoonDialsLaw" "law" code pc o := by
  intro pc o ho
  obtain ⟨h1, h2⟩ := pt_bl (List.all_eq_true.mp codL _ (mLk_mem ho))
  exact ⟨mDec_of h1, mEx_of (o := 14) lkp_14 mka_all rfl (fun e => by cases e) h2⟩
