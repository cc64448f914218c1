-- ===== the methods' words =====
set_option maxRecDepth 100000 in
theorem sd_okml0 : (List.range' 0 13).all sd_ckM = true := by decide +kernel
set_option maxRecDepth 100000 in
theorem sd_okml1 : (List.range' 13 13).all sd_ckM = true := by decide +kernel
set_option maxRecDepth 100000 in
theorem sd_okml2 : (List.range' 26 13).all sd_ckM = true := by decide +kernel
set_option maxRecDepth 100000 in
theorem sd_okml3 : (List.range' 39 13).all sd_ckM = true := by decide +kernel
set_option maxRecDepth 100000 in
theorem sd_okml4 : (List.range' 52 13).all sd_ckM = true := by decide +kernel
set_option maxRecDepth 100000 in
theorem sd_okml5 : (List.range' 65 13).all sd_ckM = true := by decide +kernel
set_option maxRecDepth 100000 in
theorem sd_okml6 : (List.range' 78 13).all sd_ckM = true := by decide +kernel
set_option maxRecDepth 100000 in
theorem sd_okml7 : (List.range' 91 13).all sd_ckM = true := by decide +kernel
set_option maxRecDepth 100000 in
theorem sd_okml8 : (List.range' 104 13).all sd_ckM = true := by decide +kernel
set_option maxRecDepth 100000 in
theorem sd_okml9 : (List.range' 117 13).all sd_ckM = true := by decide +kernel
set_option maxRecDepth 100000 in
theorem sd_okml10 : (List.range' 130 13).all sd_ckM = true := by decide +kernel
set_option maxRecDepth 100000 in
theorem sd_okml11 : (List.range' 143 13).all sd_ckM = true := by decide +kernel
set_option maxRecDepth 100000 in
theorem sd_okml12 : (List.range' 156 13).all sd_ckM = true := by decide +kernel
set_option maxRecDepth 100000 in
theorem sd_okml13 : (List.range' 169 13).all sd_ckM = true := by decide +kernel
set_option maxRecDepth 100000 in
theorem sd_okml14 : (List.range' 182 13).all sd_ckM = true := by decide +kernel
set_option maxRecDepth 100000 in
theorem sd_okml15 : (List.range' 195 11).all sd_ckM = true := by decide +kernel
