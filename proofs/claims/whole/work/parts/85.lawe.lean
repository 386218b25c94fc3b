/-! ===== the tables are faithful: by the kernel ===== -/
theorem bkl_4 : ((bL_law.drop 28).take 7).all (fun b => b.2.all (fun x => ichk 168 x.1 x.2)) = true := by decide +kernel
