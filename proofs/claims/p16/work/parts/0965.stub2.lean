theorem xMall_ok : xMall xM := sorry
