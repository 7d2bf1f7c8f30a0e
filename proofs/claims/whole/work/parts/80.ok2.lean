set_option maxRecDepth 100000 in
theorem ok_Law_law_0 : ab_okr 203 0 60 = true := by decide +kernel
set_option maxRecDepth 100000 in
theorem ok_Law_law_1 : ab_okr 203 60 60 = true := by decide +kernel
set_option maxRecDepth 100000 in
theorem ok_Law_law_2 : ab_okr 203 120 60 = true := by decide +kernel
set_option maxRecDepth 100000 in
theorem ok_Law_law_3 : ab_okr 203 180 60 = true := by decide +kernel
set_option maxRecDepth 100000 in
theorem ok_Law_law_4 : ab_okr 203 240 60 = true := by decide +kernel
set_option maxRecDepth 100000 in
theorem ok_Law_law_5 : ab_okr 203 300 60 = true := by decide +kernel
set_option maxRecDepth 100000 in
theorem ok_Law_law_6 : ab_okr 203 360 60 = true := by decide +kernel
set_option maxRecDepth 100000 in
theorem ok_Law_law_7 : ab_okr 203 420 60 = true := by decide +kernel
set_option maxRecDepth 100000 in
theorem ok_Law_law_8 : ab_okr 203 480 60 = true := by decide +kernel
set_option maxRecDepth 100000 in
theorem ok_Law_law_9 : ab_okr 203 540 60 = true := by decide +kernel
set_option maxRecDepth 100000 in
theorem ok_Law_law_10 : ab_okr 203 600 60 = true := by decide +kernel
set_option maxRecDepth 100000 in
theorem ok_Law_law_11 : ab_okr 203 660 60 = true := by decide +kernel
set_option maxRecDepth 100000 in
theorem ok_Law_law_12 : ab_okr 203 720 60 = true := by decide +kernel
set_option maxRecDepth 100000 in
theorem ok_Law_law_13 : ab_okr 203 780 60 = true := by decide +kernel
set_option maxRecDepth 100000 in
theorem ok_Law_law_14 : ab_okr 203 840 60 = true := by decide +kernel
set_option maxRecDepth 100000 in
theorem ok_Law_law_15 : ab_okr 203 900 60 = true := by decide +kernel
set_option maxRecDepth 100000 in
theorem ok_Law_law_16 : ab_okr 203 960 60 = true := by decide +kernel
set_option maxRecDepth 100000 in
theorem ok_Law_law_17 : ab_okr 203 1020 60 = true := by decide +kernel
set_option maxRecDepth 100000 in
theorem ok_Law_law_18 : ab_okr 203 1080 16 = true := by decide +kernel
set_option maxRecDepth 100000 in
theorem ok_Law_law : ∀ pc i, cdT 203 pc = some i → ab_ok 203 pc i = true := fun pc i h => ab_okr_all 203 1096 [(0, 60), (60, 60), (120, 60), (180, 60), (240, 60), (300, 60), (360, 60), (420, 60), (480, 60), (540, 60), (600, 60), (660, 60), (720, 60), (780, 60), (840, 60), (900, 60), (960, 60), (1020, 60), (1080, 16)] (by decide) (by simp [ok_Law_law_0, ok_Law_law_1, ok_Law_law_2, ok_Law_law_3, ok_Law_law_4, ok_Law_law_5, ok_Law_law_6, ok_Law_law_7, ok_Law_law_8, ok_Law_law_9, ok_Law_law_10, ok_Law_law_11, ok_Law_law_12, ok_Law_law_13, ok_Law_law_14, ok_Law_law_15, ok_Law_law_16, ok_Law_law_17, ok_Law_law_18]) pc i (ab_grd (n := 1096) (show (bif Nat.ble 1096 pc then none else _) = some i from h)) h
