set_option maxRecDepth 100000 in
theorem wAll_good : wAll.all goodWord = true := by decide +kernel
