/-! the cells as they stand behind the constructors -/
def M0 : mS := ((iMem lgD).2.2.2.2.1, (iMem lgD).2.2.2.2.2)
theorem lay_all : iMem lgD = mSS M0 := lay_gen lay_n.1 lay_n.2 lay_r (fun a h => of_decide_eq_true (List.all_eq_true.mp lay_k a (List.mem_range.mpr h))) (fun a k h hk => Nat.eq_of_beq_eq_true (List.all_eq_true.mp (List.all_eq_true.mp lay_q a (List.mem_range.mpr h)) k (List.mem_range.mpr hk))) lay_l
