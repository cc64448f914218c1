-- ===== the methods' tables, 2 =====
set_option maxRecDepth 100000 in
theorem sd_okU0 : (List.range' 104 13).all sd_ckm = true := by decide +kernel
set_option maxRecDepth 100000 in
theorem sd_okU1 : (List.range' 117 13).all sd_ckm = true := by decide +kernel
set_option maxRecDepth 100000 in
theorem sd_okU2 : (List.range' 130 13).all sd_ckm = true := by decide +kernel
set_option maxRecDepth 100000 in
theorem sd_okU3 : (List.range' 143 13).all sd_ckm = true := by decide +kernel
set_option maxRecDepth 100000 in
theorem sd_okU4 : (List.range' 156 13).all sd_ckm = true := by decide +kernel
set_option maxRecDepth 100000 in
theorem sd_okU5 : (List.range' 169 13).all sd_ckm = true := by decide +kernel
set_option maxRecDepth 100000 in
theorem sd_okU6 : (List.range' 182 13).all sd_ckm = true := by decide +kernel
set_option maxRecDepth 100000 in
theorem sd_okU7 : (List.range' 195 11).all sd_ckm = true := by decide +kernel
