/-! ===== the tables are faithful: by the kernel ===== -/
theorem bck_4 : (List.range 10).all (fun j => bchk (4 * 10 + j)) = true := by decide +kernel
theorem bck_5 : (List.range 10).all (fun j => bchk (5 * 10 + j)) = true := by decide +kernel
theorem bck_6 : (List.range 10).all (fun j => bchk (6 * 10 + j)) = true := by decide +kernel
theorem bck_7 : (List.range 10).all (fun j => bchk (7 * 10 + j)) = true := by decide +kernel
