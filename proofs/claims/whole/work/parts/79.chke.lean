/-! ===== the tables are faithful: by the kernel ===== -/
theorem bck_15 : (List.range 10).all (fun j => bchk (15 * 10 + j)) = true := by decide +kernel
