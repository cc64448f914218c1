-- ===== the law's table =====
set_option maxRecDepth 100000 in
theorem sd_okL0 : (((tb_Law_law.drop 0).take 40).zip ((tx_Law_law.drop 0).take 40)).all (fun q => sd_ckE 14 false code ret q.1.1 q.1.2 q.2) = true := by decide +kernel
set_option maxRecDepth 100000 in
theorem sd_okL1 : (((tb_Law_law.drop 40).take 40).zip ((tx_Law_law.drop 40).take 40)).all (fun q => sd_ckE 14 false code ret q.1.1 q.1.2 q.2) = true := by decide +kernel
set_option maxRecDepth 100000 in
theorem sd_okL2 : (((tb_Law_law.drop 80).take 40).zip ((tx_Law_law.drop 80).take 40)).all (fun q => sd_ckE 14 false code ret q.1.1 q.1.2 q.2) = true := by decide +kernel
set_option maxRecDepth 100000 in
theorem sd_okL3 : (((tb_Law_law.drop 120).take 40).zip ((tx_Law_law.drop 120).take 40)).all (fun q => sd_ckE 14 false code ret q.1.1 q.1.2 q.2) = true := by decide +kernel
set_option maxRecDepth 100000 in
theorem sd_okL4 : (((tb_Law_law.drop 160).take 40).zip ((tx_Law_law.drop 160).take 40)).all (fun q => sd_ckE 14 false code ret q.1.1 q.1.2 q.2) = true := by decide +kernel
set_option maxRecDepth 100000 in
theorem sd_okL5 : (((tb_Law_law.drop 200).take 40).zip ((tx_Law_law.drop 200).take 40)).all (fun q => sd_ckE 14 false code ret q.1.1 q.1.2 q.2) = true := by decide +kernel
set_option maxRecDepth 100000 in
theorem sd_okL6 : (((tb_Law_law.drop 240).take 40).zip ((tx_Law_law.drop 240).take 40)).all (fun q => sd_ckE 14 false code ret q.1.1 q.1.2 q.2) = true := by decide +kernel
set_option maxRecDepth 100000 in
theorem sd_okL7 : (((tb_Law_law.drop 280).take 40).zip ((tx_Law_law.drop 280).take 40)).all (fun q => sd_ckE 14 false code ret q.1.1 q.1.2 q.2) = true := by decide +kernel
set_option maxRecDepth 100000 in
theorem sd_okL8 : (((tb_Law_law.drop 320).take 40).zip ((tx_Law_law.drop 320).take 40)).all (fun q => sd_ckE 14 false code ret q.1.1 q.1.2 q.2) = true := by decide +kernel
set_option maxRecDepth 100000 in
theorem sd_okL9 : (((tb_Law_law.drop 360).take 40).zip ((tx_Law_law.drop 360).take 40)).all (fun q => sd_ckE 14 false code ret q.1.1 q.1.2 q.2) = true := by decide +kernel
set_option maxRecDepth 100000 in
theorem sd_okL10 : (((tb_Law_law.drop 400).take 40).zip ((tx_Law_law.drop 400).take 40)).all (fun q => sd_ckE 14 false code ret q.1.1 q.1.2 q.2) = true := by decide +kernel
set_option maxRecDepth 100000 in
theorem sd_okL11 : (((tb_Law_law.drop 440).take 40).zip ((tx_Law_law.drop 440).take 40)).all (fun q => sd_ckE 14 false code ret q.1.1 q.1.2 q.2) = true := by decide +kernel
set_option maxRecDepth 100000 in
theorem sd_okL12 : (((tb_Law_law.drop 480).take 40).zip ((tx_Law_law.drop 480).take 40)).all (fun q => sd_ckE 14 false code ret q.1.1 q.1.2 q.2) = true := by decide +kernel
set_option maxRecDepth 100000 in
theorem sd_okL13 : (((tb_Law_law.drop 520).take 40).zip ((tx_Law_law.drop 520).take 40)).all (fun q => sd_ckE 14 false code ret q.1.1 q.1.2 q.2) = true := by decide +kernel
set_option maxRecDepth 100000 in
theorem sd_okL14 : (((tb_Law_law.drop 560).take 40).zip ((tx_Law_law.drop 560).take 40)).all (fun q => sd_ckE 14 false code ret q.1.1 q.1.2 q.2) = true := by decide +kernel
set_option maxRecDepth 100000 in
theorem sd_okL15 : (((tb_Law_law.drop 600).take 40).zip ((tx_Law_law.drop 600).take 40)).all (fun q => sd_ckE 14 false code ret q.1.1 q.1.2 q.2) = true := by decide +kernel
set_option maxRecDepth 100000 in
theorem sd_okL16 : (((tb_Law_law.drop 640).take 40).zip ((tx_Law_law.drop 640).take 40)).all (fun q => sd_ckE 14 false code ret q.1.1 q.1.2 q.2) = true := by decide +kernel
