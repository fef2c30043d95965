/-! the two runs -/
set_option maxRecDepth 100000 in
theorem sd_goodC : sd_good sf_layC sd_pmC 58 4687 (fX11_init [.ref 0] sd_startC) = true := by decide +kernel
set_option maxRecDepth 100000 in
theorem sd_goodM : sd_good sf_layM sd_pmM 38 5341 (fX12_init [.ref 0] sd_startM) = true := by decide +kernel
