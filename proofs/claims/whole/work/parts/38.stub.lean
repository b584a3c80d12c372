theorem mStr_ok : mStr := sorry
