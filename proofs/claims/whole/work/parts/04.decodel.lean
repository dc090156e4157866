/-! The law's own rows, in pieces -/
theorem dc_7_0 : (tb_7_0.all fun e => decide (decode code e.1 = .ok (e.2.1, e.2.2.1))) = true := by decide +kernel
theorem dc_7_1 : (tb_7_1.all fun e => decide (decode code e.1 = .ok (e.2.1, e.2.2.1))) = true := by decide +kernel
theorem dc_7_2 : (tb_7_2.all fun e => decide (decode code e.1 = .ok (e.2.1, e.2.2.1))) = true := by decide +kernel
theorem dc_7_3 : (tb_7_3.all fun e => decide (decode code e.1 = .ok (e.2.1, e.2.2.1))) = true := by decide +kernel
theorem dc_7_4 : (tb_7_4.all fun e => decide (decode code e.1 = .ok (e.2.1, e.2.2.1))) = true := by decide +kernel
theorem dc_7_5 : (tb_7_5.all fun e => decide (decode code e.1 = .ok (e.2.1, e.2.2.1))) = true := by decide +kernel
theorem dc_7_6 : (tb_7_6.all fun e => decide (decode code e.1 = .ok (e.2.1, e.2.2.1))) = true := by decide +kernel
theorem dc_7_7 : (tb_7_7.all fun e => decide (decode code e.1 = .ok (e.2.1, e.2.2.1))) = true := by decide +kernel
theorem dc_7_8 : (tb_7_8.all fun e => decide (decode code e.1 = .ok (e.2.1, e.2.2.1))) = true := by decide +kernel
theorem dc_7_9 : (tb_7_9.all fun e => decide (decode code e.1 = .ok (e.2.1, e.2.2.1))) = true := by decide +kernel
theorem dc_7_10 : (tb_7_10.all fun e => decide (decode code e.1 = .ok (e.2.1, e.2.2.1))) = true := by decide +kernel
theorem dc_7_11 : (tb_7_11.all fun e => decide (decode code e.1 = .ok (e.2.1, e.2.2.1))) = true := by decide +kernel
theorem dc_7_12 : (tb_7_12.all fun e => decide (decode code e.1 = .ok (e.2.1, e.2.2.1))) = true := by decide +kernel
theorem dc_7_13 : (tb_7_13.all fun e => decide (decode code e.1 = .ok (e.2.1, e.2.2.1))) = true := by decide +kernel
theorem dc_7_14 : (tb_7_14.all fun e => decide (decode code e.1 = .ok (e.2.1, e.2.2.1))) = true := by decide +kernel
theorem dc_7_15 : (tb_7_15.all fun e => decide (decode code e.1 = .ok (e.2.1, e.2.2.1))) = true := by decide +kernel
theorem dc_7_16 : (tb_7_16.all fun e => decide (decode code e.1 = .ok (e.2.1, e.2.2.1))) = true := by decide +kernel
theorem dc_7_17 : (tb_7_17.all fun e => decide (decode code e.1 = .ok (e.2.1, e.2.2.1))) = true := by decide +kernel
theorem dc_7_18 : (tb_7_18.all fun e => decide (decode code e.1 = .ok (e.2.1, e.2.2.1))) = true := by decide +kernel
theorem dc_7 : (tb_7.all fun e => decide (decode code e.1 = .ok (e.2.1, e.2.2.1))) = true := by
  simp only [tb_7, List.all_append, dc_7_0, dc_7_1, dc_7_2, dc_7_3, dc_7_4, dc_7_5, dc_7_6, dc_7_7, dc_7_8, dc_7_9, dc_7_10, dc_7_11, dc_7_12, dc_7_13, dc_7_14, dc_7_15, dc_7_16, dc_7_17, dc_7_18, Bool.and_self]
