/-! the two runs -/
set_option maxRecDepth 100000 in
theorem sd_goodC : sd_good sf_layC sd_pmC 58 4687 (fX11_init [.ref 0] sd_startC) = true := by decide +kernel
