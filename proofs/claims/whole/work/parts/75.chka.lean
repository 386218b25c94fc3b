/-! ===== the tables are faithful: by the kernel ===== -/
theorem bck_0 : (List.range 10).all (fun j => bchk (0 * 10 + j)) = true := by decide +kernel
theorem bck_1 : (List.range 10).all (fun j => bchk (1 * 10 + j)) = true := by decide +kernel
theorem bck_2 : (List.range 10).all (fun j => bchk (2 * 10 + j)) = true := by decide +kernel
theorem bck_3 : (List.range 10).all (fun j => bchk (3 * 10 + j)) = true := by decide +kernel
