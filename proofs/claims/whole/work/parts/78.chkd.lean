/-! ===== the tables are faithful: by the kernel ===== -/
theorem bck_12 : (List.range 10).all (fun j => bchk (12 * 10 + j)) = true := by decide +kernel
theorem bck_13 : (List.range 10).all (fun j => bchk (13 * 10 + j)) = true := by decide +kernel
theorem bck_14 : (List.range 10).all (fun j => bchk (14 * 10 + j)) = true := by decide +kernel
