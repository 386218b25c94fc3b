/-! ===== the tables are faithful: by the kernel ===== -/
theorem bck_8 : (List.range 10).all (fun j => bchk (8 * 10 + j)) = true := by decide +kernel
theorem bck_9 : (List.range 10).all (fun j => bchk (9 * 10 + j)) = true := by decide +kernel
theorem bck_10 : (List.range 10).all (fun j => bchk (10 * 10 + j)) = true := by decide +kernel
theorem bck_11 : (List.range 10).all (fun j => bchk (11 * 10 + j)) = true := by decide +kernel
