-- ===== the methods' tables, 1 =====
set_option maxRecDepth 100000 in
theorem sd_okT0 : (List.range' 0 13).all sd_ckm = true := by decide +kernel
set_option maxRecDepth 100000 in
theorem sd_okT1 : (List.range' 13 13).all sd_ckm = true := by decide +kernel
set_option maxRecDepth 100000 in
theorem sd_okT2 : (List.range' 26 13).all sd_ckm = true := by decide +kernel
set_option maxRecDepth 100000 in
theorem sd_okT3 : (List.range' 39 13).all sd_ckm = true := by decide +kernel
set_option maxRecDepth 100000 in
theorem sd_okT4 : (List.range' 52 13).all sd_ckm = true := by decide +kernel
set_option maxRecDepth 100000 in
theorem sd_okT5 : (List.range' 65 13).all sd_ckm = true := by decide +kernel
set_option maxRecDepth 100000 in
theorem sd_okT6 : (List.range' 78 13).all sd_ckm = true := by decide +kernel
set_option maxRecDepth 100000 in
theorem sd_okT7 : (List.range' 91 13).all sd_ckm = true := by decide +kernel
