/-! ===== the tables are faithful: by the kernel ===== -/
theorem bck_16a : (List.range 8).all (fun j => bchk (160 + j)) = true := by decide +kernel
