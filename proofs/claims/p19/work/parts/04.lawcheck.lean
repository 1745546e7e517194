/-! The law's own code, in pieces. -/
def am_okQ (a n : Nat) : Bool := (List.range' a n).all (fun pc => am_okE 137 pc (am_tr0 137 pc))
set_option maxRecDepth 100000 in
theorem am_ckQ0 : am_okQ 0 30 = true := by decide +kernel
set_option maxRecDepth 100000 in
theorem am_ckQ1 : am_okQ 30 30 = true := by decide +kernel
set_option maxRecDepth 100000 in
theorem am_ckQ2 : am_okQ 60 30 = true := by decide +kernel
set_option maxRecDepth 100000 in
theorem am_ckQ3 : am_okQ 90 30 = true := by decide +kernel
set_option maxRecDepth 100000 in
theorem am_ckQ4 : am_okQ 120 30 = true := by decide +kernel
set_option maxRecDepth 100000 in
theorem am_ckQ5 : am_okQ 150 30 = true := by decide +kernel
set_option maxRecDepth 100000 in
theorem am_ckQ6 : am_okQ 180 30 = true := by decide +kernel
set_option maxRecDepth 100000 in
theorem am_ckQ7 : am_okQ 210 30 = true := by decide +kernel
set_option maxRecDepth 100000 in
theorem am_ckQ8 : am_okQ 240 30 = true := by decide +kernel
set_option maxRecDepth 100000 in
theorem am_ckQ9 : am_okQ 270 30 = true := by decide +kernel
set_option maxRecDepth 100000 in
theorem am_ckQ10 : am_okQ 300 30 = true := by decide +kernel
set_option maxRecDepth 100000 in
theorem am_ckQ11 : am_okQ 330 30 = true := by decide +kernel
set_option maxRecDepth 100000 in
theorem am_ckQ12 : am_okQ 360 30 = true := by decide +kernel
set_option maxRecDepth 100000 in
theorem am_ckQ13 : am_okQ 390 30 = true := by decide +kernel
set_option maxRecDepth 100000 in
theorem am_ckQ14 : am_okQ 420 30 = true := by decide +kernel
set_option maxRecDepth 100000 in
theorem am_ckQ15 : am_okQ 450 30 = true := by decide +kernel
set_option maxRecDepth 100000 in
theorem am_ckQ16 : am_okQ 480 30 = true := by decide +kernel
set_option maxRecDepth 100000 in
theorem am_ckQ17 : am_okQ 510 30 = true := by decide +kernel
set_option maxRecDepth 100000 in
theorem am_ckQ18 : am_okQ 540 30 = true := by decide +kernel
set_option maxRecDepth 100000 in
theorem am_ckQ19 : am_okQ 570 30 = true := by decide +kernel
set_option maxRecDepth 100000 in
theorem am_ckQ20 : am_okQ 600 30 = true := by decide +kernel
set_option maxRecDepth 100000 in
theorem am_ckQ21 : am_okQ 630 30 = true := by decide +kernel
set_option maxRecDepth 100000 in
theorem am_ckQ22 : am_okQ 660 30 = true := by decide +kernel
set_option maxRecDepth 100000 in
theorem am_ckQ23 : am_okQ 690 30 = true := by decide +kernel
set_option maxRecDepth 100000 in
theorem am_ckQ24 : am_okQ 720 30 = true := by decide +kernel
set_option maxRecDepth 100000 in
theorem am_ckQ25 : am_okQ 750 30 = true := by decide +kernel
set_option maxRecDepth 100000 in
theorem am_ckQ26 : am_okQ 780 30 = true := by decide +kernel
set_option maxRecDepth 100000 in
theorem am_ckQ27 : am_okQ 810 30 = true := by decide +kernel
