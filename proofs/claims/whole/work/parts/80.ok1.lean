set_option maxRecDepth 100000 in
theorem ok_Wall_init_0 : ab_okr 0 0 37 = true := by decide +kernel
set_option maxRecDepth 100000 in
theorem ok_Wall_init : ∀ pc i, cdT 0 pc = some i → ab_ok 0 pc i = true := fun pc i h => ab_okr_all 0 37 [(0, 37)] (by decide) (by simp [ok_Wall_init_0]) pc i (ab_grd (n := 37) (show (bif Nat.ble 37 pc then none else _) = some i from h)) h
set_option maxRecDepth 100000 in
theorem ok_Rope_init_0 : ab_okr 1 0 54 = true := by decide +kernel
set_option maxRecDepth 100000 in
theorem ok_Rope_init : ∀ pc i, cdT 1 pc = some i → ab_ok 1 pc i = true := fun pc i h => ab_okr_all 1 54 [(0, 54)] (by decide) (by simp [ok_Rope_init_0]) pc i (ab_grd (n := 54) (show (bif Nat.ble 54 pc then none else _) = some i from h)) h
set_option maxRecDepth 100000 in
theorem ok_Notes_init_0 : ab_okr 2 0 21 = true := by decide +kernel
set_option maxRecDepth 100000 in
theorem ok_Notes_init : ∀ pc i, cdT 2 pc = some i → ab_ok 2 pc i = true := fun pc i h => ab_okr_all 2 21 [(0, 21)] (by decide) (by simp [ok_Notes_init_0]) pc i (ab_grd (n := 21) (show (bif Nat.ble 21 pc then none else _) = some i from h)) h
set_option maxRecDepth 100000 in
theorem ok_Undos_init_0 : ab_okr 3 0 29 = true := by decide +kernel
set_option maxRecDepth 100000 in
theorem ok_Undos_init : ∀ pc i, cdT 3 pc = some i → ab_ok 3 pc i = true := fun pc i h => ab_okr_all 3 29 [(0, 29)] (by decide) (by simp [ok_Undos_init_0]) pc i (ab_grd (n := 29) (show (bif Nat.ble 29 pc then none else _) = some i from h)) h
set_option maxRecDepth 100000 in
theorem ok_Wall_tell_0 : ab_okr 4 0 23 = true := by decide +kernel
set_option maxRecDepth 100000 in
theorem ok_Wall_tell : ∀ pc i, cdT 4 pc = some i → ab_ok 4 pc i = true := fun pc i h => ab_okr_all 4 23 [(0, 23)] (by decide) (by simp [ok_Wall_tell_0]) pc i (ab_grd (n := 23) (show (bif Nat.ble 23 pc then none else _) = some i from h)) h
set_option maxRecDepth 100000 in
theorem ok_Wall_reset_0 : ab_okr 5 0 34 = true := by decide +kernel
set_option maxRecDepth 100000 in
theorem ok_Wall_reset : ∀ pc i, cdT 5 pc = some i → ab_ok 5 pc i = true := fun pc i h => ab_okr_all 5 34 [(0, 34)] (by decide) (by simp [ok_Wall_reset_0]) pc i (ab_grd (n := 34) (show (bif Nat.ble 34 pc then none else _) = some i from h)) h
set_option maxRecDepth 100000 in
theorem ok_Scene_init_0 : ab_okr 6 0 56 = true := by decide +kernel
set_option maxRecDepth 100000 in
theorem ok_Scene_init : ∀ pc i, cdT 6 pc = some i → ab_ok 6 pc i = true := fun pc i h => ab_okr_all 6 56 [(0, 56)] (by decide) (by simp [ok_Scene_init_0]) pc i (ab_grd (n := 56) (show (bif Nat.ble 56 pc then none else _) = some i from h)) h
set_option maxRecDepth 100000 in
theorem ok_Text_init_0 : ab_okr 7 0 14 = true := by decide +kernel
set_option maxRecDepth 100000 in
theorem ok_Text_init : ∀ pc i, cdT 7 pc = some i → ab_ok 7 pc i = true := fun pc i h => ab_okr_all 7 14 [(0, 14)] (by decide) (by simp [ok_Text_init_0]) pc i (ab_grd (n := 14) (show (bif Nat.ble 14 pc then none else _) = some i from h)) h
set_option maxRecDepth 100000 in
theorem ok_Voices_init_0 : ab_okr 8 0 16 = true := by decide +kernel
set_option maxRecDepth 100000 in
theorem ok_Voices_init : ∀ pc i, cdT 8 pc = some i → ab_ok 8 pc i = true := fun pc i h => ab_okr_all 8 16 [(0, 16)] (by decide) (by simp [ok_Voices_init_0]) pc i (ab_grd (n := 16) (show (bif Nat.ble 16 pc then none else _) = some i from h)) h
set_option maxRecDepth 100000 in
theorem ok_Ways_init_0 : ab_okr 9 0 32 = true := by decide +kernel
set_option maxRecDepth 100000 in
theorem ok_Ways_init : ∀ pc i, cdT 9 pc = some i → ab_ok 9 pc i = true := fun pc i h => ab_okr_all 9 32 [(0, 32)] (by decide) (by simp [ok_Ways_init_0]) pc i (ab_grd (n := 32) (show (bif Nat.ble 32 pc then none else _) = some i from h)) h
set_option maxRecDepth 100000 in
theorem ok_Tying_init_0 : ab_okr 10 0 30 = true := by decide +kernel
set_option maxRecDepth 100000 in
theorem ok_Tying_init : ∀ pc i, cdT 10 pc = some i → ab_ok 10 pc i = true := fun pc i h => ab_okr_all 10 30 [(0, 30)] (by decide) (by simp [ok_Tying_init_0]) pc i (ab_grd (n := 30) (show (bif Nat.ble 30 pc then none else _) = some i from h)) h
set_option maxRecDepth 100000 in
theorem ok_Guess_init_0 : ab_okr 11 0 16 = true := by decide +kernel
set_option maxRecDepth 100000 in
theorem ok_Guess_init : ∀ pc i, cdT 11 pc = some i → ab_ok 11 pc i = true := fun pc i h => ab_okr_all 11 16 [(0, 16)] (by decide) (by simp [ok_Guess_init_0]) pc i (ab_grd (n := 16) (show (bif Nat.ble 16 pc then none else _) = some i from h)) h
set_option maxRecDepth 100000 in
theorem ok_X_init_0 : ab_okr 12 0 60 = true := by decide +kernel
set_option maxRecDepth 100000 in
theorem ok_X_init_1 : ab_okr 12 60 60 = true := by decide +kernel
set_option maxRecDepth 100000 in
theorem ok_X_init_2 : ab_okr 12 120 13 = true := by decide +kernel
set_option maxRecDepth 100000 in
theorem ok_X_init : ∀ pc i, cdT 12 pc = some i → ab_ok 12 pc i = true := fun pc i h => ab_okr_all 12 133 [(0, 60), (60, 60), (120, 13)] (by decide) (by simp [ok_X_init_0, ok_X_init_1, ok_X_init_2]) pc i (ab_grd (n := 133) (show (bif Nat.ble 133 pc then none else _) = some i from h)) h
set_option maxRecDepth 100000 in
theorem ok_M_begin_0 : ab_okr 13 0 59 = true := by decide +kernel
set_option maxRecDepth 100000 in
theorem ok_M_begin : ∀ pc i, cdT 13 pc = some i → ab_ok 13 pc i = true := fun pc i h => ab_okr_all 13 59 [(0, 59)] (by decide) (by simp [ok_M_begin_0]) pc i (ab_grd (n := 59) (show (bif Nat.ble 59 pc then none else _) = some i from h)) h
set_option maxRecDepth 100000 in
theorem ok_M_init_0 : ab_okr 14 0 60 = true := by decide +kernel
set_option maxRecDepth 100000 in
theorem ok_M_init_1 : ab_okr 14 60 55 = true := by decide +kernel
set_option maxRecDepth 100000 in
theorem ok_M_init : ∀ pc i, cdT 14 pc = some i → ab_ok 14 pc i = true := fun pc i h => ab_okr_all 14 115 [(0, 60), (60, 55)] (by decide) (by simp [ok_M_init_0, ok_M_init_1]) pc i (ab_grd (n := 115) (show (bif Nat.ble 115 pc then none else _) = some i from h)) h
set_option maxRecDepth 100000 in
theorem ok_Scene_reset_0 : ab_okr 15 0 37 = true := by decide +kernel
set_option maxRecDepth 100000 in
theorem ok_Scene_reset : ∀ pc i, cdT 15 pc = some i → ab_ok 15 pc i = true := fun pc i h => ab_okr_all 15 37 [(0, 37)] (by decide) (by simp [ok_Scene_reset_0]) pc i (ab_grd (n := 37) (show (bif Nat.ble 37 pc then none else _) = some i from h)) h
set_option maxRecDepth 100000 in
theorem ok_X_wall_0 : ab_okr 16 0 20 = true := by decide +kernel
set_option maxRecDepth 100000 in
theorem ok_X_wall : ∀ pc i, cdT 16 pc = some i → ab_ok 16 pc i = true := fun pc i h => ab_okr_all 16 20 [(0, 20)] (by decide) (by simp [ok_X_wall_0]) pc i (ab_grd (n := 20) (show (bif Nat.ble 20 pc then none else _) = some i from h)) h
set_option maxRecDepth 100000 in
theorem ok_M_many_0 : ab_okr 17 0 7 = true := by decide +kernel
set_option maxRecDepth 100000 in
theorem ok_M_many : ∀ pc i, cdT 17 pc = some i → ab_ok 17 pc i = true := fun pc i h => ab_okr_all 17 7 [(0, 7)] (by decide) (by simp [ok_M_many_0]) pc i (ab_grd (n := 7) (show (bif Nat.ble 7 pc then none else _) = some i from h)) h
set_option maxRecDepth 100000 in
theorem ok_M_wall_0 : ab_okr 18 0 14 = true := by decide +kernel
set_option maxRecDepth 100000 in
theorem ok_M_wall : ∀ pc i, cdT 18 pc = some i → ab_ok 18 pc i = true := fun pc i h => ab_okr_all 18 14 [(0, 14)] (by decide) (by simp [ok_M_wall_0]) pc i (ab_grd (n := 14) (show (bif Nat.ble 14 pc then none else _) = some i from h)) h
set_option maxRecDepth 100000 in
theorem ok_X_within_0 : ab_okr 19 0 16 = true := by decide +kernel
set_option maxRecDepth 100000 in
theorem ok_X_within : ∀ pc i, cdT 19 pc = some i → ab_ok 19 pc i = true := fun pc i h => ab_okr_all 19 16 [(0, 16)] (by decide) (by simp [ok_X_within_0]) pc i (ab_grd (n := 16) (show (bif Nat.ble 16 pc then none else _) = some i from h)) h
set_option maxRecDepth 100000 in
theorem ok_X_isPitch_0 : ab_okr 20 0 8 = true := by decide +kernel
set_option maxRecDepth 100000 in
theorem ok_X_isPitch : ∀ pc i, cdT 20 pc = some i → ab_ok 20 pc i = true := fun pc i h => ab_okr_all 20 8 [(0, 8)] (by decide) (by simp [ok_X_isPitch_0]) pc i (ab_grd (n := 8) (show (bif Nat.ble 8 pc then none else _) = some i from h)) h
set_option maxRecDepth 100000 in
theorem ok_X_bad_0 : ab_okr 21 0 12 = true := by decide +kernel
set_option maxRecDepth 100000 in
theorem ok_X_bad : ∀ pc i, cdT 21 pc = some i → ab_ok 21 pc i = true := fun pc i h => ab_okr_all 21 12 [(0, 12)] (by decide) (by simp [ok_X_bad_0]) pc i (ab_grd (n := 12) (show (bif Nat.ble 12 pc then none else _) = some i from h)) h
set_option maxRecDepth 100000 in
theorem ok_X_pitch_0 : ab_okr 22 0 60 = true := by decide +kernel
set_option maxRecDepth 100000 in
theorem ok_X_pitch_1 : ab_okr 22 60 28 = true := by decide +kernel
set_option maxRecDepth 100000 in
theorem ok_X_pitch : ∀ pc i, cdT 22 pc = some i → ab_ok 22 pc i = true := fun pc i h => ab_okr_all 22 88 [(0, 60), (60, 28)] (by decide) (by simp [ok_X_pitch_0, ok_X_pitch_1]) pc i (ab_grd (n := 88) (show (bif Nat.ble 88 pc then none else _) = some i from h)) h
set_option maxRecDepth 100000 in
theorem ok_M_in_0 : ab_okr 23 0 19 = true := by decide +kernel
set_option maxRecDepth 100000 in
theorem ok_M_in : ∀ pc i, cdT 23 pc = some i → ab_ok 23 pc i = true := fun pc i h => ab_okr_all 23 19 [(0, 19)] (by decide) (by simp [ok_M_in_0]) pc i (ab_grd (n := 19) (show (bif Nat.ble 19 pc then none else _) = some i from h)) h
set_option maxRecDepth 100000 in
theorem ok_M_isPitch_0 : ab_okr 24 0 10 = true := by decide +kernel
set_option maxRecDepth 100000 in
theorem ok_M_isPitch : ∀ pc i, cdT 24 pc = some i → ab_ok 24 pc i = true := fun pc i h => ab_okr_all 24 10 [(0, 10)] (by decide) (by simp [ok_M_isPitch_0]) pc i (ab_grd (n := 10) (show (bif Nat.ble 10 pc then none else _) = some i from h)) h
set_option maxRecDepth 100000 in
theorem ok_M_isWay_0 : ab_okr 25 0 55 = true := by decide +kernel
set_option maxRecDepth 100000 in
theorem ok_M_isWay : ∀ pc i, cdT 25 pc = some i → ab_ok 25 pc i = true := fun pc i h => ab_okr_all 25 55 [(0, 55)] (by decide) (by simp [ok_M_isWay_0]) pc i (ab_grd (n := 55) (show (bif Nat.ble 55 pc then none else _) = some i from h)) h
set_option maxRecDepth 100000 in
theorem ok_M_bad_0 : ab_okr 26 0 12 = true := by decide +kernel
set_option maxRecDepth 100000 in
theorem ok_M_bad : ∀ pc i, cdT 26 pc = some i → ab_ok 26 pc i = true := fun pc i h => ab_okr_all 26 12 [(0, 12)] (by decide) (by simp [ok_M_bad_0]) pc i (ab_grd (n := 12) (show (bif Nat.ble 12 pc then none else _) = some i from h)) h
set_option maxRecDepth 100000 in
theorem ok_M_ofPitch_0 : ab_okr 27 0 14 = true := by decide +kernel
set_option maxRecDepth 100000 in
theorem ok_M_ofPitch : ∀ pc i, cdT 27 pc = some i → ab_ok 27 pc i = true := fun pc i h => ab_okr_all 27 14 [(0, 14)] (by decide) (by simp [ok_M_ofPitch_0]) pc i (ab_grd (n := 14) (show (bif Nat.ble 14 pc then none else _) = some i from h)) h
set_option maxRecDepth 100000 in
theorem ok_M_layPitch_0 : ab_okr 28 0 35 = true := by decide +kernel
set_option maxRecDepth 100000 in
theorem ok_M_layPitch : ∀ pc i, cdT 28 pc = some i → ab_ok 28 pc i = true := fun pc i h => ab_okr_all 28 35 [(0, 35)] (by decide) (by simp [ok_M_layPitch_0]) pc i (ab_grd (n := 35) (show (bif Nat.ble 35 pc then none else _) = some i from h)) h
set_option maxRecDepth 100000 in
theorem ok_M_pitch_0 : ab_okr 29 0 41 = true := by decide +kernel
set_option maxRecDepth 100000 in
theorem ok_M_pitch : ∀ pc i, cdT 29 pc = some i → ab_ok 29 pc i = true := fun pc i h => ab_okr_all 29 41 [(0, 41)] (by decide) (by simp [ok_M_pitch_0]) pc i (ab_grd (n := 41) (show (bif Nat.ble 41 pc then none else _) = some i from h)) h
set_option maxRecDepth 100000 in
theorem ok_X_isFlag_0 : ab_okr 30 0 7 = true := by decide +kernel
set_option maxRecDepth 100000 in
theorem ok_X_isFlag : ∀ pc i, cdT 30 pc = some i → ab_ok 30 pc i = true := fun pc i h => ab_okr_all 30 7 [(0, 7)] (by decide) (by simp [ok_X_isFlag_0]) pc i (ab_grd (n := 7) (show (bif Nat.ble 7 pc then none else _) = some i from h)) h
set_option maxRecDepth 100000 in
theorem ok_X_ice_0 : ab_okr 31 0 49 = true := by decide +kernel
set_option maxRecDepth 100000 in
theorem ok_X_ice : ∀ pc i, cdT 31 pc = some i → ab_ok 31 pc i = true := fun pc i h => ab_okr_all 31 49 [(0, 49)] (by decide) (by simp [ok_X_ice_0]) pc i (ab_grd (n := 49) (show (bif Nat.ble 49 pc then none else _) = some i from h)) h
set_option maxRecDepth 100000 in
theorem ok_M_ice_0 : ab_okr 32 0 47 = true := by decide +kernel
set_option maxRecDepth 100000 in
theorem ok_M_ice : ∀ pc i, cdT 32 pc = some i → ab_ok 32 pc i = true := fun pc i h => ab_okr_all 32 47 [(0, 47)] (by decide) (by simp [ok_M_ice_0]) pc i (ab_grd (n := 47) (show (bif Nat.ble 47 pc then none else _) = some i from h)) h
set_option maxRecDepth 100000 in
theorem ok_X_full_0 : ab_okr 33 0 13 = true := by decide +kernel
set_option maxRecDepth 100000 in
theorem ok_X_full : ∀ pc i, cdT 33 pc = some i → ab_ok 33 pc i = true := fun pc i h => ab_okr_all 33 13 [(0, 13)] (by decide) (by simp [ok_X_full_0]) pc i (ab_grd (n := 13) (show (bif Nat.ble 13 pc then none else _) = some i from h)) h
set_option maxRecDepth 100000 in
theorem ok_Rope_add_0 : ab_okr 34 0 60 = true := by decide +kernel
set_option maxRecDepth 100000 in
theorem ok_Rope_add_1 : ab_okr 34 60 34 = true := by decide +kernel
set_option maxRecDepth 100000 in
theorem ok_Rope_add : ∀ pc i, cdT 34 pc = some i → ab_ok 34 pc i = true := fun pc i h => ab_okr_all 34 94 [(0, 60), (60, 34)] (by decide) (by simp [ok_Rope_add_0, ok_Rope_add_1]) pc i (ab_grd (n := 94) (show (bif Nat.ble 94 pc then none else _) = some i from h)) h
set_option maxRecDepth 100000 in
theorem ok_X_climber_0 : ab_okr 35 0 60 = true := by decide +kernel
set_option maxRecDepth 100000 in
theorem ok_X_climber_1 : ab_okr 35 60 53 = true := by decide +kernel
set_option maxRecDepth 100000 in
theorem ok_X_climber : ∀ pc i, cdT 35 pc = some i → ab_ok 35 pc i = true := fun pc i h => ab_okr_all 35 113 [(0, 60), (60, 53)] (by decide) (by simp [ok_X_climber_0, ok_X_climber_1]) pc i (ab_grd (n := 113) (show (bif Nat.ble 113 pc then none else _) = some i from h)) h
set_option maxRecDepth 100000 in
theorem ok_M_full_0 : ab_okr 36 0 13 = true := by decide +kernel
set_option maxRecDepth 100000 in
theorem ok_M_full : ∀ pc i, cdT 36 pc = some i → ab_ok 36 pc i = true := fun pc i h => ab_okr_all 36 13 [(0, 13)] (by decide) (by simp [ok_M_full_0]) pc i (ab_grd (n := 13) (show (bif Nat.ble 13 pc then none else _) = some i from h)) h
set_option maxRecDepth 100000 in
theorem ok_M_layClimber_0 : ab_okr 37 0 47 = true := by decide +kernel
set_option maxRecDepth 100000 in
theorem ok_M_layClimber : ∀ pc i, cdT 37 pc = some i → ab_ok 37 pc i = true := fun pc i h => ab_okr_all 37 47 [(0, 47)] (by decide) (by simp [ok_M_layClimber_0]) pc i (ab_grd (n := 47) (show (bif Nat.ble 47 pc then none else _) = some i from h)) h
set_option maxRecDepth 100000 in
theorem ok_M_climber_0 : ab_okr 38 0 60 = true := by decide +kernel
set_option maxRecDepth 100000 in
theorem ok_M_climber_1 : ab_okr 38 60 35 = true := by decide +kernel
set_option maxRecDepth 100000 in
theorem ok_M_climber : ∀ pc i, cdT 38 pc = some i → ab_ok 38 pc i = true := fun pc i h => ab_okr_all 38 95 [(0, 60), (60, 35)] (by decide) (by simp [ok_M_climber_0, ok_M_climber_1]) pc i (ab_grd (n := 95) (show (bif Nat.ble 95 pc then none else _) = some i from h)) h
set_option maxRecDepth 100000 in
theorem ok_Text_append_0 : ab_okr 39 0 32 = true := by decide +kernel
set_option maxRecDepth 100000 in
theorem ok_Text_append : ∀ pc i, cdT 39 pc = some i → ab_ok 39 pc i = true := fun pc i h => ab_okr_all 39 32 [(0, 32)] (by decide) (by simp [ok_Text_append_0]) pc i (ab_grd (n := 32) (show (bif Nat.ble 32 pc then none else _) = some i from h)) h
set_option maxRecDepth 100000 in
theorem ok_X_type_0 : ab_okr 40 0 51 = true := by decide +kernel
set_option maxRecDepth 100000 in
theorem ok_X_type : ∀ pc i, cdT 40 pc = some i → ab_ok 40 pc i = true := fun pc i h => ab_okr_all 40 51 [(0, 51)] (by decide) (by simp [ok_X_type_0]) pc i (ab_grd (n := 51) (show (bif Nat.ble 51 pc then none else _) = some i from h)) h
set_option maxRecDepth 100000 in
theorem ok_M_type_0 : ab_okr 41 0 59 = true := by decide +kernel
set_option maxRecDepth 100000 in
theorem ok_M_type : ∀ pc i, cdT 41 pc = some i → ab_ok 41 pc i = true := fun pc i h => ab_okr_all 41 59 [(0, 59)] (by decide) (by simp [ok_M_type_0]) pc i (ab_grd (n := 59) (show (bif Nat.ble 59 pc then none else _) = some i from h)) h
set_option maxRecDepth 100000 in
theorem ok_X_clear_0 : ab_okr 42 0 18 = true := by decide +kernel
set_option maxRecDepth 100000 in
theorem ok_X_clear : ∀ pc i, cdT 42 pc = some i → ab_ok 42 pc i = true := fun pc i h => ab_okr_all 42 18 [(0, 18)] (by decide) (by simp [ok_X_clear_0]) pc i (ab_grd (n := 18) (show (bif Nat.ble 18 pc then none else _) = some i from h)) h
set_option maxRecDepth 100000 in
theorem ok_M_clear_0 : ab_okr 43 0 12 = true := by decide +kernel
set_option maxRecDepth 100000 in
theorem ok_M_clear : ∀ pc i, cdT 43 pc = some i → ab_ok 43 pc i = true := fun pc i h => ab_okr_all 43 12 [(0, 12)] (by decide) (by simp [ok_M_clear_0]) pc i (ab_grd (n := 12) (show (bif Nat.ble 12 pc then none else _) = some i from h)) h
set_option maxRecDepth 100000 in
theorem ok_Text_sortOf_0 : ab_okr 44 0 40 = true := by decide +kernel
set_option maxRecDepth 100000 in
theorem ok_Text_sortOf : ∀ pc i, cdT 44 pc = some i → ab_ok 44 pc i = true := fun pc i h => ab_okr_all 44 40 [(0, 40)] (by decide) (by simp [ok_Text_sortOf_0]) pc i (ab_grd (n := 40) (show (bif Nat.ble 40 pc then none else _) = some i from h)) h
set_option maxRecDepth 100000 in
theorem ok_Text_advance_0 : ab_okr 45 0 60 = true := by decide +kernel
set_option maxRecDepth 100000 in
theorem ok_Text_advance_1 : ab_okr 45 60 60 = true := by decide +kernel
set_option maxRecDepth 100000 in
theorem ok_Text_advance_2 : ab_okr 45 120 29 = true := by decide +kernel
set_option maxRecDepth 100000 in
theorem ok_Text_advance : ∀ pc i, cdT 45 pc = some i → ab_ok 45 pc i = true := fun pc i h => ab_okr_all 45 149 [(0, 60), (60, 60), (120, 29)] (by decide) (by simp [ok_Text_advance_0, ok_Text_advance_1, ok_Text_advance_2]) pc i (ab_grd (n := 149) (show (bif Nat.ble 149 pc then none else _) = some i from h)) h
set_option maxRecDepth 100000 in
theorem ok_Str_coder_0 : ab_okr 46 0 15 = true := by decide +kernel
set_option maxRecDepth 100000 in
theorem ok_Str_coder : ∀ pc i, cdT 46 pc = some i → ab_ok 46 pc i = true := fun pc i h => ab_okr_all 46 15 [(0, 15)] (by decide) (by simp [ok_Str_coder_0]) pc i (ab_grd (n := 15) (show (bif Nat.ble 15 pc then none else _) = some i from h)) h
set_option maxRecDepth 100000 in
theorem ok_Str_length_0 : ab_okr 47 0 11 = true := by decide +kernel
set_option maxRecDepth 100000 in
theorem ok_Str_length : ∀ pc i, cdT 47 pc = some i → ab_ok 47 pc i = true := fun pc i h => ab_okr_all 47 11 [(0, 11)] (by decide) (by simp [ok_Str_length_0]) pc i (ab_grd (n := 11) (show (bif Nat.ble 11 pc then none else _) = some i from h)) h
set_option maxRecDepth 100000 in
theorem ok_Str_isLatin1_0 : ab_okr 48 0 19 = true := by decide +kernel
set_option maxRecDepth 100000 in
theorem ok_Str_isLatin1 : ∀ pc i, cdT 48 pc = some i → ab_ok 48 pc i = true := fun pc i h => ab_okr_all 48 19 [(0, 19)] (by decide) (by simp [ok_Str_isLatin1_0]) pc i (ab_grd (n := 19) (show (bif Nat.ble 19 pc then none else _) = some i from h)) h
set_option maxRecDepth 100000 in
theorem ok_Pre_checkIndex_0 : ab_okr 49 0 18 = true := by decide +kernel
set_option maxRecDepth 100000 in
theorem ok_Pre_checkIndex : ∀ pc i, cdT 49 pc = some i → ab_ok 49 pc i = true := fun pc i h => ab_okr_all 49 18 [(0, 18)] (by decide) (by simp [ok_Pre_checkIndex_0]) pc i (ab_grd (n := 18) (show (bif Nat.ble 18 pc then none else _) = some i from h)) h
set_option maxRecDepth 100000 in
theorem ok_Str_checkIndex_0 : ab_okr 50 0 10 = true := by decide +kernel
set_option maxRecDepth 100000 in
theorem ok_Str_checkIndex : ∀ pc i, cdT 50 pc = some i → ab_ok 50 pc i = true := fun pc i h => ab_okr_all 50 10 [(0, 10)] (by decide) (by simp [ok_Str_checkIndex_0]) pc i (ab_grd (n := 10) (show (bif Nat.ble 10 pc then none else _) = some i from h)) h
set_option maxRecDepth 100000 in
theorem ok_Lat_charAt_0 : ab_okr 51 0 15 = true := by decide +kernel
set_option maxRecDepth 100000 in
theorem ok_Lat_charAt : ∀ pc i, cdT 51 pc = some i → ab_ok 51 pc i = true := fun pc i h => ab_okr_all 51 15 [(0, 15)] (by decide) (by simp [ok_Lat_charAt_0]) pc i (ab_grd (n := 15) (show (bif Nat.ble 15 pc then none else _) = some i from h)) h
set_option maxRecDepth 100000 in
theorem ok_Utf_length_0 : ab_okr 52 0 5 = true := by decide +kernel
set_option maxRecDepth 100000 in
theorem ok_Utf_length : ∀ pc i, cdT 52 pc = some i → ab_ok 52 pc i = true := fun pc i h => ab_okr_all 52 5 [(0, 5)] (by decide) (by simp [ok_Utf_length_0]) pc i (ab_grd (n := 5) (show (bif Nat.ble 5 pc then none else _) = some i from h)) h
set_option maxRecDepth 100000 in
theorem ok_Utf_checkIndex_0 : ab_okr 53 0 9 = true := by decide +kernel
set_option maxRecDepth 100000 in
theorem ok_Utf_checkIndex : ∀ pc i, cdT 53 pc = some i → ab_ok 53 pc i = true := fun pc i h => ab_okr_all 53 9 [(0, 9)] (by decide) (by simp [ok_Utf_checkIndex_0]) pc i (ab_grd (n := 9) (show (bif Nat.ble 9 pc then none else _) = some i from h)) h
set_option maxRecDepth 100000 in
theorem ok_Utf_getChar_0 : ab_okr 54 0 60 = true := by decide +kernel
set_option maxRecDepth 100000 in
theorem ok_Utf_getChar : ∀ pc i, cdT 54 pc = some i → ab_ok 54 pc i = true := fun pc i h => ab_okr_all 54 60 [(0, 60)] (by decide) (by simp [ok_Utf_getChar_0]) pc i (ab_grd (n := 60) (show (bif Nat.ble 60 pc then none else _) = some i from h)) h
set_option maxRecDepth 100000 in
theorem ok_Utf_charAt_0 : ab_okr 55 0 11 = true := by decide +kernel
set_option maxRecDepth 100000 in
theorem ok_Utf_charAt : ∀ pc i, cdT 55 pc = some i → ab_ok 55 pc i = true := fun pc i h => ab_okr_all 55 11 [(0, 11)] (by decide) (by simp [ok_Utf_charAt_0]) pc i (ab_grd (n := 11) (show (bif Nat.ble 11 pc then none else _) = some i from h)) h
set_option maxRecDepth 100000 in
theorem ok_Str_charAt_0 : ab_okr 56 0 25 = true := by decide +kernel
set_option maxRecDepth 100000 in
theorem ok_Str_charAt : ∀ pc i, cdT 56 pc = some i → ab_ok 56 pc i = true := fun pc i h => ab_okr_all 56 25 [(0, 25)] (by decide) (by simp [ok_Str_charAt_0]) pc i (ab_grd (n := 25) (show (bif Nat.ble 25 pc then none else _) = some i from h)) h
set_option maxRecDepth 100000 in
theorem ok_Text_isWord_0 : ab_okr 57 0 60 = true := by decide +kernel
set_option maxRecDepth 100000 in
theorem ok_Text_isWord_1 : ab_okr 57 60 4 = true := by decide +kernel
set_option maxRecDepth 100000 in
theorem ok_Text_isWord : ∀ pc i, cdT 57 pc = some i → ab_ok 57 pc i = true := fun pc i h => ab_okr_all 57 64 [(0, 60), (60, 4)] (by decide) (by simp [ok_Text_isWord_0, ok_Text_isWord_1]) pc i (ab_grd (n := 64) (show (bif Nat.ble 64 pc then none else _) = some i from h)) h
set_option maxRecDepth 100000 in
theorem ok_Text_passStop_0 : ab_okr 58 0 16 = true := by decide +kernel
set_option maxRecDepth 100000 in
theorem ok_Text_passStop : ∀ pc i, cdT 58 pc = some i → ab_ok 58 pc i = true := fun pc i h => ab_okr_all 58 16 [(0, 16)] (by decide) (by simp [ok_Text_passStop_0]) pc i (ab_grd (n := 16) (show (bif Nat.ble 16 pc then none else _) = some i from h)) h
set_option maxRecDepth 100000 in
theorem ok_Text_tellStart_0 : ab_okr 59 0 20 = true := by decide +kernel
set_option maxRecDepth 100000 in
theorem ok_Text_tellStart : ∀ pc i, cdT 59 pc = some i → ab_ok 59 pc i = true := fun pc i h => ab_okr_all 59 20 [(0, 20)] (by decide) (by simp [ok_Text_tellStart_0]) pc i (ab_grd (n := 20) (show (bif Nat.ble 20 pc then none else _) = some i from h)) h
set_option maxRecDepth 100000 in
theorem ok_Text_passNumber_0 : ab_okr 60 0 60 = true := by decide +kernel
set_option maxRecDepth 100000 in
theorem ok_Text_passNumber_1 : ab_okr 60 60 19 = true := by decide +kernel
set_option maxRecDepth 100000 in
theorem ok_Text_passNumber : ∀ pc i, cdT 60 pc = some i → ab_ok 60 pc i = true := fun pc i h => ab_okr_all 60 79 [(0, 60), (60, 19)] (by decide) (by simp [ok_Text_passNumber_0, ok_Text_passNumber_1]) pc i (ab_grd (n := 79) (show (bif Nat.ble 79 pc then none else _) = some i from h)) h
set_option maxRecDepth 100000 in
theorem ok_Text_tellPitch_0 : ab_okr 61 0 60 = true := by decide +kernel
set_option maxRecDepth 100000 in
theorem ok_Text_tellPitch_1 : ab_okr 61 60 26 = true := by decide +kernel
set_option maxRecDepth 100000 in
theorem ok_Text_tellPitch : ∀ pc i, cdT 61 pc = some i → ab_ok 61 pc i = true := fun pc i h => ab_okr_all 61 86 [(0, 60), (60, 26)] (by decide) (by simp [ok_Text_tellPitch_0, ok_Text_tellPitch_1]) pc i (ab_grd (n := 86) (show (bif Nat.ble 86 pc then none else _) = some i from h)) h
set_option maxRecDepth 100000 in
theorem ok_Text_tellIce_0 : ab_okr 62 0 24 = true := by decide +kernel
set_option maxRecDepth 100000 in
theorem ok_Text_tellIce : ∀ pc i, cdT 62 pc = some i → ab_ok 62 pc i = true := fun pc i h => ab_okr_all 62 24 [(0, 24)] (by decide) (by simp [ok_Text_tellIce_0]) pc i (ab_grd (n := 24) (show (bif Nat.ble 24 pc then none else _) = some i from h)) h
set_option maxRecDepth 100000 in
theorem ok_Text_tellClimber_0 : ab_okr 63 0 60 = true := by decide +kernel
set_option maxRecDepth 100000 in
theorem ok_Text_tellClimber_1 : ab_okr 63 60 56 = true := by decide +kernel
set_option maxRecDepth 100000 in
theorem ok_Text_tellClimber : ∀ pc i, cdT 63 pc = some i → ab_ok 63 pc i = true := fun pc i h => ab_okr_all 63 116 [(0, 60), (60, 56)] (by decide) (by simp [ok_Text_tellClimber_0, ok_Text_tellClimber_1]) pc i (ab_grd (n := 116) (show (bif Nat.ble 116 pc then none else _) = some i from h)) h
set_option maxRecDepth 100000 in
theorem ok_Text_tellItem_0 : ab_okr 64 0 60 = true := by decide +kernel
set_option maxRecDepth 100000 in
theorem ok_Text_tellItem_1 : ab_okr 64 60 60 = true := by decide +kernel
set_option maxRecDepth 100000 in
theorem ok_Text_tellItem_2 : ab_okr 64 120 4 = true := by decide +kernel
set_option maxRecDepth 100000 in
theorem ok_Text_tellItem : ∀ pc i, cdT 64 pc = some i → ab_ok 64 pc i = true := fun pc i h => ab_okr_all 64 124 [(0, 60), (60, 60), (120, 4)] (by decide) (by simp [ok_Text_tellItem_0, ok_Text_tellItem_1, ok_Text_tellItem_2]) pc i (ab_grd (n := 124) (show (bif Nat.ble 124 pc then none else _) = some i from h)) h
set_option maxRecDepth 100000 in
theorem ok_Text_tellAll_0 : ab_okr 65 0 60 = true := by decide +kernel
set_option maxRecDepth 100000 in
theorem ok_Text_tellAll_1 : ab_okr 65 60 14 = true := by decide +kernel
set_option maxRecDepth 100000 in
theorem ok_Text_tellAll : ∀ pc i, cdT 65 pc = some i → ab_ok 65 pc i = true := fun pc i h => ab_okr_all 65 74 [(0, 60), (60, 14)] (by decide) (by simp [ok_Text_tellAll_0, ok_Text_tellAll_1]) pc i (ab_grd (n := 74) (show (bif Nat.ble 74 pc then none else _) = some i from h)) h
set_option maxRecDepth 100000 in
theorem ok_Wall_copyFrom_0 : ab_okr 66 0 60 = true := by decide +kernel
set_option maxRecDepth 100000 in
theorem ok_Wall_copyFrom_1 : ab_okr 66 60 1 = true := by decide +kernel
set_option maxRecDepth 100000 in
theorem ok_Wall_copyFrom : ∀ pc i, cdT 66 pc = some i → ab_ok 66 pc i = true := fun pc i h => ab_okr_all 66 61 [(0, 60), (60, 1)] (by decide) (by simp [ok_Wall_copyFrom_0, ok_Wall_copyFrom_1]) pc i (ab_grd (n := 61) (show (bif Nat.ble 61 pc then none else _) = some i from h)) h
set_option maxRecDepth 100000 in
theorem ok_Rope_tie_0 : ab_okr 67 0 60 = true := by decide +kernel
set_option maxRecDepth 100000 in
theorem ok_Rope_tie_1 : ab_okr 67 60 60 = true := by decide +kernel
set_option maxRecDepth 100000 in
theorem ok_Rope_tie_2 : ab_okr 67 120 17 = true := by decide +kernel
set_option maxRecDepth 100000 in
theorem ok_Rope_tie : ∀ pc i, cdT 67 pc = some i → ab_ok 67 pc i = true := fun pc i h => ab_okr_all 67 137 [(0, 60), (60, 60), (120, 17)] (by decide) (by simp [ok_Rope_tie_0, ok_Rope_tie_1, ok_Rope_tie_2]) pc i (ab_grd (n := 137) (show (bif Nat.ble 137 pc then none else _) = some i from h)) h
set_option maxRecDepth 100000 in
theorem ok_Rope_tiePart_0 : ab_okr 68 0 28 = true := by decide +kernel
set_option maxRecDepth 100000 in
theorem ok_Rope_tiePart : ∀ pc i, cdT 68 pc = some i → ab_ok 68 pc i = true := fun pc i h => ab_okr_all 68 28 [(0, 28)] (by decide) (by simp [ok_Rope_tiePart_0]) pc i (ab_grd (n := 28) (show (bif Nat.ble 28 pc then none else _) = some i from h)) h
set_option maxRecDepth 100000 in
theorem ok_Rope_copyFrom_0 : ab_okr 69 0 11 = true := by decide +kernel
set_option maxRecDepth 100000 in
theorem ok_Rope_copyFrom : ∀ pc i, cdT 69 pc = some i → ab_ok 69 pc i = true := fun pc i h => ab_okr_all 69 11 [(0, 11)] (by decide) (by simp [ok_Rope_copyFrom_0]) pc i (ab_grd (n := 11) (show (bif Nat.ble 11 pc then none else _) = some i from h)) h
set_option maxRecDepth 100000 in
theorem ok_Notes_copyFrom_0 : ab_okr 70 0 39 = true := by decide +kernel
set_option maxRecDepth 100000 in
theorem ok_Notes_copyFrom : ∀ pc i, cdT 70 pc = some i → ab_ok 70 pc i = true := fun pc i h => ab_okr_all 70 39 [(0, 39)] (by decide) (by simp [ok_Notes_copyFrom_0]) pc i (ab_grd (n := 39) (show (bif Nat.ble 39 pc then none else _) = some i from h)) h
set_option maxRecDepth 100000 in
theorem ok_Undos_copyFrom_0 : ab_okr 71 0 54 = true := by decide +kernel
set_option maxRecDepth 100000 in
theorem ok_Undos_copyFrom : ∀ pc i, cdT 71 pc = some i → ab_ok 71 pc i = true := fun pc i h => ab_okr_all 71 54 [(0, 54)] (by decide) (by simp [ok_Undos_copyFrom_0]) pc i (ab_grd (n := 54) (show (bif Nat.ble 54 pc then none else _) = some i from h)) h
set_option maxRecDepth 100000 in
theorem ok_Scene_copyFrom_0 : ab_okr 72 0 53 = true := by decide +kernel
set_option maxRecDepth 100000 in
theorem ok_Scene_copyFrom : ∀ pc i, cdT 72 pc = some i → ab_ok 72 pc i = true := fun pc i h => ab_okr_all 72 53 [(0, 53)] (by decide) (by simp [ok_Scene_copyFrom_0]) pc i (ab_grd (n := 53) (show (bif Nat.ble 53 pc then none else _) = some i from h)) h
set_option maxRecDepth 100000 in
theorem ok_X_read_0 : ab_okr 73 0 29 = true := by decide +kernel
set_option maxRecDepth 100000 in
theorem ok_X_read : ∀ pc i, cdT 73 pc = some i → ab_ok 73 pc i = true := fun pc i h => ab_okr_all 73 29 [(0, 29)] (by decide) (by simp [ok_X_read_0]) pc i (ab_grd (n := 29) (show (bif Nat.ble 29 pc then none else _) = some i from h)) h
set_option maxRecDepth 100000 in
theorem ok_M_isSmall_0 : ab_okr 74 0 12 = true := by decide +kernel
set_option maxRecDepth 100000 in
theorem ok_M_isSmall : ∀ pc i, cdT 74 pc = some i → ab_ok 74 pc i = true := fun pc i h => ab_okr_all 74 12 [(0, 12)] (by decide) (by simp [ok_M_isSmall_0]) pc i (ab_grd (n := 12) (show (bif Nat.ble 12 pc then none else _) = some i from h)) h
set_option maxRecDepth 100000 in
theorem ok_M_isFigure_0 : ab_okr 75 0 12 = true := by decide +kernel
set_option maxRecDepth 100000 in
theorem ok_M_isFigure : ∀ pc i, cdT 75 pc = some i → ab_ok 75 pc i = true := fun pc i h => ab_okr_all 75 12 [(0, 12)] (by decide) (by simp [ok_M_isFigure_0]) pc i (ab_grd (n := 12) (show (bif Nat.ble 12 pc then none else _) = some i from h)) h
set_option maxRecDepth 100000 in
theorem ok_M_lookAt_0 : ab_okr 76 0 60 = true := by decide +kernel
set_option maxRecDepth 100000 in
theorem ok_M_lookAt_1 : ab_okr 76 60 60 = true := by decide +kernel
set_option maxRecDepth 100000 in
theorem ok_M_lookAt_2 : ab_okr 76 120 60 = true := by decide +kernel
set_option maxRecDepth 100000 in
theorem ok_M_lookAt_3 : ab_okr 76 180 60 = true := by decide +kernel
set_option maxRecDepth 100000 in
theorem ok_M_lookAt_4 : ab_okr 76 240 60 = true := by decide +kernel
set_option maxRecDepth 100000 in
theorem ok_M_lookAt_5 : ab_okr 76 300 3 = true := by decide +kernel
set_option maxRecDepth 100000 in
theorem ok_M_lookAt : ∀ pc i, cdT 76 pc = some i → ab_ok 76 pc i = true := fun pc i h => ab_okr_all 76 303 [(0, 60), (60, 60), (120, 60), (180, 60), (240, 60), (300, 3)] (by decide) (by simp [ok_M_lookAt_0, ok_M_lookAt_1, ok_M_lookAt_2, ok_M_lookAt_3, ok_M_lookAt_4, ok_M_lookAt_5]) pc i (ab_grd (n := 303) (show (bif Nat.ble 303 pc then none else _) = some i from h)) h
set_option maxRecDepth 100000 in
theorem ok_M_isWord_0 : ab_okr 77 0 60 = true := by decide +kernel
set_option maxRecDepth 100000 in
theorem ok_M_isWord_1 : ab_okr 77 60 60 = true := by decide +kernel
set_option maxRecDepth 100000 in
theorem ok_M_isWord_2 : ab_okr 77 120 13 = true := by decide +kernel
set_option maxRecDepth 100000 in
theorem ok_M_isWord : ∀ pc i, cdT 77 pc = some i → ab_ok 77 pc i = true := fun pc i h => ab_okr_all 77 133 [(0, 60), (60, 60), (120, 13)] (by decide) (by simp [ok_M_isWord_0, ok_M_isWord_1, ok_M_isWord_2]) pc i (ab_grd (n := 133) (show (bif Nat.ble 133 pc then none else _) = some i from h)) h
set_option maxRecDepth 100000 in
theorem ok_M_goBehind_0 : ab_okr 78 0 14 = true := by decide +kernel
set_option maxRecDepth 100000 in
theorem ok_M_goBehind : ∀ pc i, cdT 78 pc = some i → ab_ok 78 pc i = true := fun pc i h => ab_okr_all 78 14 [(0, 14)] (by decide) (by simp [ok_M_goBehind_0]) pc i (ab_grd (n := 14) (show (bif Nat.ble 14 pc then none else _) = some i from h)) h
set_option maxRecDepth 100000 in
theorem ok_M_takes_0 : ab_okr 79 0 41 = true := by decide +kernel
set_option maxRecDepth 100000 in
theorem ok_M_takes : ∀ pc i, cdT 79 pc = some i → ab_ok 79 pc i = true := fun pc i h => ab_okr_all 79 41 [(0, 41)] (by decide) (by simp [ok_M_takes_0]) pc i (ab_grd (n := 41) (show (bif Nat.ble 41 pc then none else _) = some i from h)) h
set_option maxRecDepth 100000 in
theorem ok_M_takesPitch_0 : ab_okr 80 0 60 = true := by decide +kernel
set_option maxRecDepth 100000 in
theorem ok_M_takesPitch_1 : ab_okr 80 60 37 = true := by decide +kernel
set_option maxRecDepth 100000 in
theorem ok_M_takesPitch : ∀ pc i, cdT 80 pc = some i → ab_ok 80 pc i = true := fun pc i h => ab_okr_all 80 97 [(0, 60), (60, 37)] (by decide) (by simp [ok_M_takesPitch_0, ok_M_takesPitch_1]) pc i (ab_grd (n := 97) (show (bif Nat.ble 97 pc then none else _) = some i from h)) h
set_option maxRecDepth 100000 in
theorem ok_M_takesIce_0 : ab_okr 81 0 38 = true := by decide +kernel
set_option maxRecDepth 100000 in
theorem ok_M_takesIce : ∀ pc i, cdT 81 pc = some i → ab_ok 81 pc i = true := fun pc i h => ab_okr_all 81 38 [(0, 38)] (by decide) (by simp [ok_M_takesIce_0]) pc i (ab_grd (n := 38) (show (bif Nat.ble 38 pc then none else _) = some i from h)) h
set_option maxRecDepth 100000 in
theorem ok_M_takesClimber_0 : ab_okr 82 0 60 = true := by decide +kernel
set_option maxRecDepth 100000 in
theorem ok_M_takesClimber_1 : ab_okr 82 60 55 = true := by decide +kernel
set_option maxRecDepth 100000 in
theorem ok_M_takesClimber : ∀ pc i, cdT 82 pc = some i → ab_ok 82 pc i = true := fun pc i h => ab_okr_all 82 115 [(0, 60), (60, 55)] (by decide) (by simp [ok_M_takesClimber_0, ok_M_takesClimber_1]) pc i (ab_grd (n := 115) (show (bif Nat.ble 115 pc then none else _) = some i from h)) h
set_option maxRecDepth 100000 in
theorem ok_M_takesItem_0 : ab_okr 83 0 60 = true := by decide +kernel
set_option maxRecDepth 100000 in
theorem ok_M_takesItem_1 : ab_okr 83 60 24 = true := by decide +kernel
set_option maxRecDepth 100000 in
theorem ok_M_takesItem : ∀ pc i, cdT 83 pc = some i → ab_ok 83 pc i = true := fun pc i h => ab_okr_all 83 84 [(0, 60), (60, 24)] (by decide) (by simp [ok_M_takesItem_0, ok_M_takesItem_1]) pc i (ab_grd (n := 84) (show (bif Nat.ble 84 pc then none else _) = some i from h)) h
set_option maxRecDepth 100000 in
theorem ok_M_read_0 : ab_okr 84 0 60 = true := by decide +kernel
set_option maxRecDepth 100000 in
theorem ok_M_read_1 : ab_okr 84 60 60 = true := by decide +kernel
set_option maxRecDepth 100000 in
theorem ok_M_read_2 : ab_okr 84 120 13 = true := by decide +kernel
set_option maxRecDepth 100000 in
theorem ok_M_read : ∀ pc i, cdT 84 pc = some i → ab_ok 84 pc i = true := fun pc i h => ab_okr_all 84 133 [(0, 60), (60, 60), (120, 13)] (by decide) (by simp [ok_M_read_0, ok_M_read_1, ok_M_read_2]) pc i (ab_grd (n := 133) (show (bif Nat.ble 133 pc then none else _) = some i from h)) h
set_option maxRecDepth 100000 in
theorem ok_X_isClimber_0 : ab_okr 85 0 18 = true := by decide +kernel
set_option maxRecDepth 100000 in
theorem ok_X_isClimber : ∀ pc i, cdT 85 pc = some i → ab_ok 85 pc i = true := fun pc i h => ab_okr_all 85 18 [(0, 18)] (by decide) (by simp [ok_X_isClimber_0]) pc i (ab_grd (n := 18) (show (bif Nat.ble 18 pc then none else _) = some i from h)) h
set_option maxRecDepth 100000 in
theorem ok_Rope_sagBits_0 : ab_okr 86 0 31 = true := by decide +kernel
set_option maxRecDepth 100000 in
theorem ok_Rope_sagBits : ∀ pc i, cdT 86 pc = some i → ab_ok 86 pc i = true := fun pc i h => ab_okr_all 86 31 [(0, 31)] (by decide) (by simp [ok_Rope_sagBits_0]) pc i (ab_grd (n := 31) (show (bif Nat.ble 31 pc then none else _) = some i from h)) h
set_option maxRecDepth 100000 in
theorem ok_Rope_restBits_0 : ab_okr 87 0 31 = true := by decide +kernel
set_option maxRecDepth 100000 in
theorem ok_Rope_restBits : ∀ pc i, cdT 87 pc = some i → ab_ok 87 pc i = true := fun pc i h => ab_okr_all 87 31 [(0, 31)] (by decide) (by simp [ok_Rope_restBits_0]) pc i (ab_grd (n := 31) (show (bif Nat.ble 31 pc then none else _) = some i from h)) h
set_option maxRecDepth 100000 in
theorem ok_Undos_dropOldest_0 : ab_okr 88 0 60 = true := by decide +kernel
set_option maxRecDepth 100000 in
theorem ok_Undos_dropOldest_1 : ab_okr 88 60 5 = true := by decide +kernel
set_option maxRecDepth 100000 in
theorem ok_Undos_dropOldest : ∀ pc i, cdT 88 pc = some i → ab_ok 88 pc i = true := fun pc i h => ab_okr_all 88 65 [(0, 60), (60, 5)] (by decide) (by simp [ok_Undos_dropOldest_0, ok_Undos_dropOldest_1]) pc i (ab_grd (n := 65) (show (bif Nat.ble 65 pc then none else _) = some i from h)) h
set_option maxRecDepth 100000 in
theorem ok_Undos_push_0 : ab_okr 89 0 54 = true := by decide +kernel
set_option maxRecDepth 100000 in
theorem ok_Undos_push : ∀ pc i, cdT 89 pc = some i → ab_ok 89 pc i = true := fun pc i h => ab_okr_all 89 54 [(0, 54)] (by decide) (by simp [ok_Undos_push_0]) pc i (ab_grd (n := 54) (show (bif Nat.ble 54 pc then none else _) = some i from h)) h
set_option maxRecDepth 100000 in
theorem ok_Scene_remember_0 : ab_okr 90 0 26 = true := by decide +kernel
set_option maxRecDepth 100000 in
theorem ok_Scene_remember : ∀ pc i, cdT 90 pc = some i → ab_ok 90 pc i = true := fun pc i h => ab_okr_all 90 26 [(0, 26)] (by decide) (by simp [ok_Scene_remember_0]) pc i (ab_grd (n := 26) (show (bif Nat.ble 26 pc then none else _) = some i from h)) h
set_option maxRecDepth 100000 in
theorem ok_X_sag_0 : ab_okr 91 0 57 = true := by decide +kernel
set_option maxRecDepth 100000 in
theorem ok_X_sag : ∀ pc i, cdT 91 pc = some i → ab_ok 91 pc i = true := fun pc i h => ab_okr_all 91 57 [(0, 57)] (by decide) (by simp [ok_X_sag_0]) pc i (ab_grd (n := 57) (show (bif Nat.ble 57 pc then none else _) = some i from h)) h
set_option maxRecDepth 100000 in
theorem ok_M_isClimber_0 : ab_okr 92 0 14 = true := by decide +kernel
set_option maxRecDepth 100000 in
theorem ok_M_isClimber : ∀ pc i, cdT 92 pc = some i → ab_ok 92 pc i = true := fun pc i h => ab_okr_all 92 14 [(0, 14)] (by decide) (by simp [ok_M_isClimber_0]) pc i (ab_grd (n := 14) (show (bif Nat.ble 14 pc then none else _) = some i from h)) h
set_option maxRecDepth 100000 in
theorem ok_M_keep_0 : ab_okr 93 0 60 = true := by decide +kernel
set_option maxRecDepth 100000 in
theorem ok_M_keep_1 : ab_okr 93 60 41 = true := by decide +kernel
set_option maxRecDepth 100000 in
theorem ok_M_keep : ∀ pc i, cdT 93 pc = some i → ab_ok 93 pc i = true := fun pc i h => ab_okr_all 93 101 [(0, 60), (60, 41)] (by decide) (by simp [ok_M_keep_0, ok_M_keep_1]) pc i (ab_grd (n := 101) (show (bif Nat.ble 101 pc then none else _) = some i from h)) h
set_option maxRecDepth 100000 in
theorem ok_M_turn_0 : ab_okr 94 0 55 = true := by decide +kernel
set_option maxRecDepth 100000 in
theorem ok_M_turn : ∀ pc i, cdT 94 pc = some i → ab_ok 94 pc i = true := fun pc i h => ab_okr_all 94 55 [(0, 55)] (by decide) (by simp [ok_M_turn_0]) pc i (ab_grd (n := 55) (show (bif Nat.ble 55 pc then none else _) = some i from h)) h
set_option maxRecDepth 100000 in
theorem ok_M_sag_0 : ab_okr 95 0 35 = true := by decide +kernel
set_option maxRecDepth 100000 in
theorem ok_M_sag : ∀ pc i, cdT 95 pc = some i → ab_ok 95 pc i = true := fun pc i h => ab_okr_all 95 35 [(0, 35)] (by decide) (by simp [ok_M_sag_0]) pc i (ab_grd (n := 35) (show (bif Nat.ble 35 pc then none else _) = some i from h)) h
set_option maxRecDepth 100000 in
theorem ok_X_rest_0 : ab_okr 96 0 57 = true := by decide +kernel
set_option maxRecDepth 100000 in
theorem ok_X_rest : ∀ pc i, cdT 96 pc = some i → ab_ok 96 pc i = true := fun pc i h => ab_okr_all 96 57 [(0, 57)] (by decide) (by simp [ok_X_rest_0]) pc i (ab_grd (n := 57) (show (bif Nat.ble 57 pc then none else _) = some i from h)) h
set_option maxRecDepth 100000 in
theorem ok_M_rest_0 : ab_okr 97 0 35 = true := by decide +kernel
set_option maxRecDepth 100000 in
theorem ok_M_rest : ∀ pc i, cdT 97 pc = some i → ab_ok 97 pc i = true := fun pc i h => ab_okr_all 97 35 [(0, 35)] (by decide) (by simp [ok_M_rest_0]) pc i (ab_grd (n := 35) (show (bif Nat.ble 35 pc then none else _) = some i from h)) h
set_option maxRecDepth 100000 in
theorem ok_X_no_0 : ab_okr 98 0 13 = true := by decide +kernel
set_option maxRecDepth 100000 in
theorem ok_X_no : ∀ pc i, cdT 98 pc = some i → ab_ok 98 pc i = true := fun pc i h => ab_okr_all 98 13 [(0, 13)] (by decide) (by simp [ok_X_no_0]) pc i (ab_grd (n := 13) (show (bif Nat.ble 13 pc then none else _) = some i from h)) h
set_option maxRecDepth 100000 in
theorem ok_Rope_hang_0 : ab_okr 99 0 60 = true := by decide +kernel
set_option maxRecDepth 100000 in
theorem ok_Rope_hang_1 : ab_okr 99 60 60 = true := by decide +kernel
set_option maxRecDepth 100000 in
theorem ok_Rope_hang_2 : ab_okr 99 120 31 = true := by decide +kernel
set_option maxRecDepth 100000 in
theorem ok_Rope_hang : ∀ pc i, cdT 99 pc = some i → ab_ok 99 pc i = true := fun pc i h => ab_okr_all 99 151 [(0, 60), (60, 60), (120, 31)] (by decide) (by simp [ok_Rope_hang_0, ok_Rope_hang_1, ok_Rope_hang_2]) pc i (ab_grd (n := 151) (show (bif Nat.ble 151 pc then none else _) = some i from h)) h
set_option maxRecDepth 100000 in
theorem ok_Rope_placeOfSayer_0 : ab_okr 100 0 60 = true := by decide +kernel
set_option maxRecDepth 100000 in
theorem ok_Rope_placeOfSayer_1 : ab_okr 100 60 11 = true := by decide +kernel
set_option maxRecDepth 100000 in
theorem ok_Rope_placeOfSayer : ∀ pc i, cdT 100 pc = some i → ab_ok 100 pc i = true := fun pc i h => ab_okr_all 100 71 [(0, 60), (60, 11)] (by decide) (by simp [ok_Rope_placeOfSayer_0, ok_Rope_placeOfSayer_1]) pc i (ab_grd (n := 71) (show (bif Nat.ble 71 pc then none else _) = some i from h)) h
set_option maxRecDepth 100000 in
theorem ok_Rope_next_0 : ab_okr 101 0 54 = true := by decide +kernel
set_option maxRecDepth 100000 in
theorem ok_Rope_next : ∀ pc i, cdT 101 pc = some i → ab_ok 101 pc i = true := fun pc i h => ab_okr_all 101 54 [(0, 54)] (by decide) (by simp [ok_Rope_next_0]) pc i (ab_grd (n := 54) (show (bif Nat.ble 54 pc then none else _) = some i from h)) h
set_option maxRecDepth 100000 in
theorem ok_Rope_setSags_0 : ab_okr 102 0 28 = true := by decide +kernel
set_option maxRecDepth 100000 in
theorem ok_Rope_setSags : ∀ pc i, cdT 102 pc = some i → ab_ok 102 pc i = true := fun pc i h => ab_okr_all 102 28 [(0, 28)] (by decide) (by simp [ok_Rope_setSags_0]) pc i (ab_grd (n := 28) (show (bif Nat.ble 28 pc then none else _) = some i from h)) h
set_option maxRecDepth 100000 in
theorem ok_X_go_0 : ab_okr 103 0 60 = true := by decide +kernel
set_option maxRecDepth 100000 in
theorem ok_X_go_1 : ab_okr 103 60 14 = true := by decide +kernel
set_option maxRecDepth 100000 in
theorem ok_X_go : ∀ pc i, cdT 103 pc = some i → ab_ok 103 pc i = true := fun pc i h => ab_okr_all 103 74 [(0, 60), (60, 14)] (by decide) (by simp [ok_X_go_0, ok_X_go_1]) pc i (ab_grd (n := 74) (show (bif Nat.ble 74 pc then none else _) = some i from h)) h
set_option maxRecDepth 100000 in
theorem ok_M_no_0 : ab_okr 104 0 13 = true := by decide +kernel
set_option maxRecDepth 100000 in
theorem ok_M_no : ∀ pc i, cdT 104 pc = some i → ab_ok 104 pc i = true := fun pc i h => ab_okr_all 104 13 [(0, 13)] (by decide) (by simp [ok_M_no_0]) pc i (ab_grd (n := 13) (show (bif Nat.ble 13 pc then none else _) = some i from h)) h
set_option maxRecDepth 100000 in
theorem ok_M_get_0 : ab_okr 105 0 14 = true := by decide +kernel
set_option maxRecDepth 100000 in
theorem ok_M_get : ∀ pc i, cdT 105 pc = some i → ab_ok 105 pc i = true := fun pc i h => ab_okr_all 105 14 [(0, 14)] (by decide) (by simp [ok_M_get_0]) pc i (ab_grd (n := 14) (show (bif Nat.ble 14 pc then none else _) = some i from h)) h
set_option maxRecDepth 100000 in
theorem ok_M_layRope_0 : ab_okr 106 0 60 = true := by decide +kernel
set_option maxRecDepth 100000 in
theorem ok_M_layRope_1 : ab_okr 106 60 16 = true := by decide +kernel
set_option maxRecDepth 100000 in
theorem ok_M_layRope : ∀ pc i, cdT 106 pc = some i → ab_ok 106 pc i = true := fun pc i h => ab_okr_all 106 76 [(0, 60), (60, 16)] (by decide) (by simp [ok_M_layRope_0, ok_M_layRope_1]) pc i (ab_grd (n := 76) (show (bif Nat.ble 76 pc then none else _) = some i from h)) h
set_option maxRecDepth 100000 in
theorem ok_M_has_0 : ab_okr 107 0 15 = true := by decide +kernel
set_option maxRecDepth 100000 in
theorem ok_M_has : ∀ pc i, cdT 107 pc = some i → ab_ok 107 pc i = true := fun pc i h => ab_okr_all 107 15 [(0, 15)] (by decide) (by simp [ok_M_has_0]) pc i (ab_grd (n := 15) (show (bif Nat.ble 15 pc then none else _) = some i from h)) h
set_option maxRecDepth 100000 in
theorem ok_M_hanging_0 : ab_okr 108 0 60 = true := by decide +kernel
set_option maxRecDepth 100000 in
theorem ok_M_hanging_1 : ab_okr 108 60 60 = true := by decide +kernel
set_option maxRecDepth 100000 in
theorem ok_M_hanging_2 : ab_okr 108 120 36 = true := by decide +kernel
set_option maxRecDepth 100000 in
theorem ok_M_hanging : ∀ pc i, cdT 108 pc = some i → ab_ok 108 pc i = true := fun pc i h => ab_okr_all 108 156 [(0, 60), (60, 60), (120, 36)] (by decide) (by simp [ok_M_hanging_0, ok_M_hanging_1, ok_M_hanging_2]) pc i (ab_grd (n := 156) (show (bif Nat.ble 156 pc then none else _) = some i from h)) h
set_option maxRecDepth 100000 in
theorem ok_M_sayer_0 : ab_okr 109 0 60 = true := by decide +kernel
set_option maxRecDepth 100000 in
theorem ok_M_sayer_1 : ab_okr 109 60 56 = true := by decide +kernel
set_option maxRecDepth 100000 in
theorem ok_M_sayer : ∀ pc i, cdT 109 pc = some i → ab_ok 109 pc i = true := fun pc i h => ab_okr_all 109 116 [(0, 60), (60, 56)] (by decide) (by simp [ok_M_sayer_0, ok_M_sayer_1]) pc i (ab_grd (n := 116) (show (bif Nat.ble 116 pc then none else _) = some i from h)) h
set_option maxRecDepth 100000 in
theorem ok_M_nextOf_0 : ab_okr 110 0 35 = true := by decide +kernel
set_option maxRecDepth 100000 in
theorem ok_M_nextOf : ∀ pc i, cdT 110 pc = some i → ab_ok 110 pc i = true := fun pc i h => ab_okr_all 110 35 [(0, 35)] (by decide) (by simp [ok_M_nextOf_0]) pc i (ab_grd (n := 35) (show (bif Nat.ble 35 pc then none else _) = some i from h)) h
set_option maxRecDepth 100000 in
theorem ok_M_go_0 : ab_okr 111 0 54 = true := by decide +kernel
set_option maxRecDepth 100000 in
theorem ok_M_go : ∀ pc i, cdT 111 pc = some i → ab_ok 111 pc i = true := fun pc i h => ab_okr_all 111 54 [(0, 54)] (by decide) (by simp [ok_M_go_0]) pc i (ab_grd (n := 54) (show (bif Nat.ble 54 pc then none else _) = some i from h)) h
set_option maxRecDepth 100000 in
theorem ok_Rope_setRests_0 : ab_okr 112 0 28 = true := by decide +kernel
set_option maxRecDepth 100000 in
theorem ok_Rope_setRests : ∀ pc i, cdT 112 pc = some i → ab_ok 112 pc i = true := fun pc i h => ab_okr_all 112 28 [(0, 28)] (by decide) (by simp [ok_Rope_setRests_0]) pc i (ab_grd (n := 28) (show (bif Nat.ble 28 pc then none else _) = some i from h)) h
set_option maxRecDepth 100000 in
theorem ok_Scene_goBack_0 : ab_okr 113 0 60 = true := by decide +kernel
set_option maxRecDepth 100000 in
theorem ok_Scene_goBack_1 : ab_okr 113 60 28 = true := by decide +kernel
set_option maxRecDepth 100000 in
theorem ok_Scene_goBack : ∀ pc i, cdT 113 pc = some i → ab_ok 113 pc i = true := fun pc i h => ab_okr_all 113 88 [(0, 60), (60, 28)] (by decide) (by simp [ok_Scene_goBack_0, ok_Scene_goBack_1]) pc i (ab_grd (n := 88) (show (bif Nat.ble 88 pc then none else _) = some i from h)) h
set_option maxRecDepth 100000 in
theorem ok_X_undo_0 : ab_okr 114 0 33 = true := by decide +kernel
set_option maxRecDepth 100000 in
theorem ok_X_undo : ∀ pc i, cdT 114 pc = some i → ab_ok 114 pc i = true := fun pc i h => ab_okr_all 114 33 [(0, 33)] (by decide) (by simp [ok_X_undo_0]) pc i (ab_grd (n := 33) (show (bif Nat.ble 33 pc then none else _) = some i from h)) h
set_option maxRecDepth 100000 in
theorem ok_M_undo_0 : ab_okr 115 0 60 = true := by decide +kernel
set_option maxRecDepth 100000 in
theorem ok_M_undo_1 : ab_okr 115 60 10 = true := by decide +kernel
set_option maxRecDepth 100000 in
theorem ok_M_undo : ∀ pc i, cdT 115 pc = some i → ab_ok 115 pc i = true := fun pc i h => ab_okr_all 115 70 [(0, 60), (60, 10)] (by decide) (by simp [ok_M_undo_0, ok_M_undo_1]) pc i (ab_grd (n := 70) (show (bif Nat.ble 70 pc then none else _) = some i from h)) h
set_option maxRecDepth 100000 in
theorem ok_X_of_0 : ab_okr 116 0 60 = true := by decide +kernel
set_option maxRecDepth 100000 in
theorem ok_X_of_1 : ab_okr 116 60 60 = true := by decide +kernel
set_option maxRecDepth 100000 in
theorem ok_X_of_2 : ab_okr 116 120 21 = true := by decide +kernel
set_option maxRecDepth 100000 in
theorem ok_X_of : ∀ pc i, cdT 116 pc = some i → ab_ok 116 pc i = true := fun pc i h => ab_okr_all 116 141 [(0, 60), (60, 60), (120, 21)] (by decide) (by simp [ok_X_of_0, ok_X_of_1, ok_X_of_2]) pc i (ab_grd (n := 141) (show (bif Nat.ble 141 pc then none else _) = some i from h)) h
set_option maxRecDepth 100000 in
theorem ok_M_of_0 : ab_okr 117 0 60 = true := by decide +kernel
set_option maxRecDepth 100000 in
theorem ok_M_of_1 : ab_okr 117 60 1 = true := by decide +kernel
set_option maxRecDepth 100000 in
theorem ok_M_of : ∀ pc i, cdT 117 pc = some i → ab_ok 117 pc i = true := fun pc i h => ab_okr_all 117 61 [(0, 60), (60, 1)] (by decide) (by simp [ok_M_of_0, ok_M_of_1]) pc i (ab_grd (n := 61) (show (bif Nat.ble 61 pc then none else _) = some i from h)) h
set_option maxRecDepth 100000 in
theorem ok_X_hangs_0 : ab_okr 118 0 46 = true := by decide +kernel
set_option maxRecDepth 100000 in
theorem ok_X_hangs : ∀ pc i, cdT 118 pc = some i → ab_ok 118 pc i = true := fun pc i h => ab_okr_all 118 46 [(0, 46)] (by decide) (by simp [ok_X_hangs_0]) pc i (ab_grd (n := 46) (show (bif Nat.ble 46 pc then none else _) = some i from h)) h
set_option maxRecDepth 100000 in
theorem ok_M_hangs_0 : ab_okr 119 0 40 = true := by decide +kernel
set_option maxRecDepth 100000 in
theorem ok_M_hangs : ∀ pc i, cdT 119 pc = some i → ab_ok 119 pc i = true := fun pc i h => ab_okr_all 119 40 [(0, 40)] (by decide) (by simp [ok_M_hangs_0]) pc i (ab_grd (n := 40) (show (bif Nat.ble 40 pc then none else _) = some i from h)) h
set_option maxRecDepth 100000 in
theorem ok_Rope_sayer_0 : ab_okr 120 0 23 = true := by decide +kernel
set_option maxRecDepth 100000 in
theorem ok_Rope_sayer : ∀ pc i, cdT 120 pc = some i → ab_ok 120 pc i = true := fun pc i h => ab_okr_all 120 23 [(0, 23)] (by decide) (by simp [ok_Rope_sayer_0]) pc i (ab_grd (n := 23) (show (bif Nat.ble 23 pc then none else _) = some i from h)) h
set_option maxRecDepth 100000 in
theorem ok_X_says_0 : ab_okr 121 0 33 = true := by decide +kernel
set_option maxRecDepth 100000 in
theorem ok_X_says : ∀ pc i, cdT 121 pc = some i → ab_ok 121 pc i = true := fun pc i h => ab_okr_all 121 33 [(0, 33)] (by decide) (by simp [ok_X_says_0]) pc i (ab_grd (n := 33) (show (bif Nat.ble 33 pc then none else _) = some i from h)) h
set_option maxRecDepth 100000 in
theorem ok_M_says_0 : ab_okr 122 0 24 = true := by decide +kernel
set_option maxRecDepth 100000 in
theorem ok_M_says : ∀ pc i, cdT 122 pc = some i → ab_ok 122 pc i = true := fun pc i h => ab_okr_all 122 24 [(0, 24)] (by decide) (by simp [ok_M_says_0]) pc i (ab_grd (n := 24) (show (bif Nat.ble 24 pc then none else _) = some i from h)) h
set_option maxRecDepth 100000 in
theorem ok_Ways_walk_0 : ab_okr 123 0 60 = true := by decide +kernel
set_option maxRecDepth 100000 in
theorem ok_Ways_walk_1 : ab_okr 123 60 21 = true := by decide +kernel
set_option maxRecDepth 100000 in
theorem ok_Ways_walk : ∀ pc i, cdT 123 pc = some i → ab_ok 123 pc i = true := fun pc i h => ab_okr_all 123 81 [(0, 60), (60, 21)] (by decide) (by simp [ok_Ways_walk_0, ok_Ways_walk_1]) pc i (ab_grd (n := 81) (show (bif Nat.ble 81 pc then none else _) = some i from h)) h
set_option maxRecDepth 100000 in
theorem ok_X_path_0 : ab_okr 124 0 60 = true := by decide +kernel
set_option maxRecDepth 100000 in
theorem ok_X_path_1 : ab_okr 124 60 2 = true := by decide +kernel
set_option maxRecDepth 100000 in
theorem ok_X_path : ∀ pc i, cdT 124 pc = some i → ab_ok 124 pc i = true := fun pc i h => ab_okr_all 124 62 [(0, 60), (60, 2)] (by decide) (by simp [ok_X_path_0, ok_X_path_1]) pc i (ab_grd (n := 62) (show (bif Nat.ble 62 pc then none else _) = some i from h)) h
set_option maxRecDepth 100000 in
theorem ok_M_path_0 : ab_okr 125 0 60 = true := by decide +kernel
set_option maxRecDepth 100000 in
theorem ok_M_path_1 : ab_okr 125 60 52 = true := by decide +kernel
set_option maxRecDepth 100000 in
theorem ok_M_path : ∀ pc i, cdT 125 pc = some i → ab_ok 125 pc i = true := fun pc i h => ab_okr_all 125 112 [(0, 60), (60, 52)] (by decide) (by simp [ok_M_path_0, ok_M_path_1]) pc i (ab_grd (n := 112) (show (bif Nat.ble 112 pc then none else _) = some i from h)) h
set_option maxRecDepth 100000 in
theorem ok_Arr_fill_0 : ab_okr 126 0 21 = true := by decide +kernel
set_option maxRecDepth 100000 in
theorem ok_Arr_fill : ∀ pc i, cdT 126 pc = some i → ab_ok 126 pc i = true := fun pc i h => ab_okr_all 126 21 [(0, 21)] (by decide) (by simp [ok_Arr_fill_0]) pc i (ab_grd (n := 21) (show (bif Nat.ble 21 pc then none else _) = some i from h)) h
set_option maxRecDepth 100000 in
theorem ok_Int_bitCount_0 : ab_okr 127 0 53 = true := by decide +kernel
set_option maxRecDepth 100000 in
theorem ok_Int_bitCount : ∀ pc i, cdT 127 pc = some i → ab_ok 127 pc i = true := fun pc i h => ab_okr_all 127 53 [(0, 53)] (by decide) (by simp [ok_Int_bitCount_0]) pc i (ab_grd (n := 53) (show (bif Nat.ble 53 pc then none else _) = some i from h)) h
set_option maxRecDepth 100000 in
theorem ok_Ways_leastFrom_0 : ab_okr 128 0 60 = true := by decide +kernel
set_option maxRecDepth 100000 in
theorem ok_Ways_leastFrom_1 : ab_okr 128 60 28 = true := by decide +kernel
set_option maxRecDepth 100000 in
theorem ok_Ways_leastFrom : ∀ pc i, cdT 128 pc = some i → ab_ok 128 pc i = true := fun pc i h => ab_okr_all 128 88 [(0, 60), (60, 28)] (by decide) (by simp [ok_Ways_leastFrom_0, ok_Ways_leastFrom_1]) pc i (ab_grd (n := 88) (show (bif Nat.ble 88 pc then none else _) = some i from h)) h
set_option maxRecDepth 100000 in
theorem ok_Ways_fewestSags_0 : ab_okr 129 0 60 = true := by decide +kernel
set_option maxRecDepth 100000 in
theorem ok_Ways_fewestSags_1 : ab_okr 129 60 59 = true := by decide +kernel
set_option maxRecDepth 100000 in
theorem ok_Ways_fewestSags : ∀ pc i, cdT 129 pc = some i → ab_ok 129 pc i = true := fun pc i h => ab_okr_all 129 119 [(0, 60), (60, 59)] (by decide) (by simp [ok_Ways_fewestSags_0, ok_Ways_fewestSags_1]) pc i (ab_grd (n := 119) (show (bif Nat.ble 119 pc then none else _) = some i from h)) h
set_option maxRecDepth 100000 in
theorem ok_X_by_0 : ab_okr 130 0 59 = true := by decide +kernel
set_option maxRecDepth 100000 in
theorem ok_X_by : ∀ pc i, cdT 130 pc = some i → ab_ok 130 pc i = true := fun pc i h => ab_okr_all 130 59 [(0, 59)] (by decide) (by simp [ok_X_by_0]) pc i (ab_grd (n := 59) (show (bif Nat.ble 59 pc then none else _) = some i from h)) h
set_option maxRecDepth 100000 in
theorem ok_M_all_0 : ab_okr 131 0 9 = true := by decide +kernel
set_option maxRecDepth 100000 in
theorem ok_M_all : ∀ pc i, cdT 131 pc = some i → ab_ok 131 pc i = true := fun pc i h => ab_okr_all 131 9 [(0, 9)] (by decide) (by simp [ok_M_all_0]) pc i (ab_grd (n := 9) (show (bif Nat.ble 9 pc then none else _) = some i from h)) h
set_option maxRecDepth 100000 in
theorem ok_M_bits_0 : ab_okr 132 0 23 = true := by decide +kernel
set_option maxRecDepth 100000 in
theorem ok_M_bits : ∀ pc i, cdT 132 pc = some i → ab_ok 132 pc i = true := fun pc i h => ab_okr_all 132 23 [(0, 23)] (by decide) (by simp [ok_M_bits_0]) pc i (ab_grd (n := 23) (show (bif Nat.ble 23 pc then none else _) = some i from h)) h
set_option maxRecDepth 100000 in
theorem ok_M_fewestAt_0 : ab_okr 133 0 60 = true := by decide +kernel
set_option maxRecDepth 100000 in
theorem ok_M_fewestAt_1 : ab_okr 133 60 9 = true := by decide +kernel
set_option maxRecDepth 100000 in
theorem ok_M_fewestAt : ∀ pc i, cdT 133 pc = some i → ab_ok 133 pc i = true := fun pc i h => ab_okr_all 133 69 [(0, 60), (60, 9)] (by decide) (by simp [ok_M_fewestAt_0, ok_M_fewestAt_1]) pc i (ab_grd (n := 69) (show (bif Nat.ble 69 pc then none else _) = some i from h)) h
set_option maxRecDepth 100000 in
theorem ok_M_by_0 : ab_okr 134 0 60 = true := by decide +kernel
set_option maxRecDepth 100000 in
theorem ok_M_by_1 : ab_okr 134 60 60 = true := by decide +kernel
set_option maxRecDepth 100000 in
theorem ok_M_by_2 : ab_okr 134 120 60 = true := by decide +kernel
set_option maxRecDepth 100000 in
theorem ok_M_by_3 : ab_okr 134 180 50 = true := by decide +kernel
set_option maxRecDepth 100000 in
theorem ok_M_by : ∀ pc i, cdT 134 pc = some i → ab_ok 134 pc i = true := fun pc i h => ab_okr_all 134 230 [(0, 60), (60, 60), (120, 60), (180, 50)] (by decide) (by simp [ok_M_by_0, ok_M_by_1, ok_M_by_2, ok_M_by_3]) pc i (ab_grd (n := 230) (show (bif Nat.ble 230 pc then none else _) = some i from h)) h
set_option maxRecDepth 100000 in
theorem ok_Voices_ofAllSags_0 : ab_okr 135 0 60 = true := by decide +kernel
set_option maxRecDepth 100000 in
theorem ok_Voices_ofAllSags_1 : ab_okr 135 60 14 = true := by decide +kernel
set_option maxRecDepth 100000 in
theorem ok_Voices_ofAllSags : ∀ pc i, cdT 135 pc = some i → ab_ok 135 pc i = true := fun pc i h => ab_okr_all 135 74 [(0, 60), (60, 14)] (by decide) (by simp [ok_Voices_ofAllSags_0, ok_Voices_ofAllSags_1]) pc i (ab_grd (n := 74) (show (bif Nat.ble 74 pc then none else _) = some i from h)) h
set_option maxRecDepth 100000 in
theorem ok_X_canSay_0 : ab_okr 136 0 27 = true := by decide +kernel
set_option maxRecDepth 100000 in
theorem ok_X_canSay : ∀ pc i, cdT 136 pc = some i → ab_ok 136 pc i = true := fun pc i h => ab_okr_all 136 27 [(0, 27)] (by decide) (by simp [ok_X_canSay_0]) pc i (ab_grd (n := 27) (show (bif Nat.ble 27 pc then none else _) = some i from h)) h
set_option maxRecDepth 100000 in
theorem ok_M_canSayAt_0 : ab_okr 137 0 53 = true := by decide +kernel
set_option maxRecDepth 100000 in
theorem ok_M_canSayAt : ∀ pc i, cdT 137 pc = some i → ab_ok 137 pc i = true := fun pc i h => ab_okr_all 137 53 [(0, 53)] (by decide) (by simp [ok_M_canSayAt_0]) pc i (ab_grd (n := 53) (show (bif Nat.ble 53 pc then none else _) = some i from h)) h
set_option maxRecDepth 100000 in
theorem ok_M_canSay_0 : ab_okr 138 0 22 = true := by decide +kernel
set_option maxRecDepth 100000 in
theorem ok_M_canSay : ∀ pc i, cdT 138 pc = some i → ab_ok 138 pc i = true := fun pc i h => ab_okr_all 138 22 [(0, 22)] (by decide) (by simp [ok_M_canSay_0]) pc i (ab_grd (n := 22) (show (bif Nat.ble 22 pc then none else _) = some i from h)) h
set_option maxRecDepth 100000 in
theorem ok_Voices_neverOf_0 : ab_okr 139 0 41 = true := by decide +kernel
set_option maxRecDepth 100000 in
theorem ok_Voices_neverOf : ∀ pc i, cdT 139 pc = some i → ab_ok 139 pc i = true := fun pc i h => ab_okr_all 139 41 [(0, 41)] (by decide) (by simp [ok_Voices_neverOf_0]) pc i (ab_grd (n := 41) (show (bif Nat.ble 41 pc then none else _) = some i from h)) h
set_option maxRecDepth 100000 in
theorem ok_X_mine_0 : ab_okr 140 0 28 = true := by decide +kernel
set_option maxRecDepth 100000 in
theorem ok_X_mine : ∀ pc i, cdT 140 pc = some i → ab_ok 140 pc i = true := fun pc i h => ab_okr_all 140 28 [(0, 28)] (by decide) (by simp [ok_X_mine_0]) pc i (ab_grd (n := 28) (show (bif Nat.ble 28 pc then none else _) = some i from h)) h
set_option maxRecDepth 100000 in
theorem ok_M_mine_0 : ab_okr 141 0 55 = true := by decide +kernel
set_option maxRecDepth 100000 in
theorem ok_M_mine : ∀ pc i, cdT 141 pc = some i → ab_ok 141 pc i = true := fun pc i h => ab_okr_all 141 55 [(0, 55)] (by decide) (by simp [ok_M_mine_0]) pc i (ab_grd (n := 55) (show (bif Nat.ble 55 pc then none else _) = some i from h)) h
set_option maxRecDepth 100000 in
theorem ok_Tying_timesSaying_0 : ab_okr 142 0 60 = true := by decide +kernel
set_option maxRecDepth 100000 in
theorem ok_Tying_timesSaying_1 : ab_okr 142 60 37 = true := by decide +kernel
set_option maxRecDepth 100000 in
theorem ok_Tying_timesSaying : ∀ pc i, cdT 142 pc = some i → ab_ok 142 pc i = true := fun pc i h => ab_okr_all 142 97 [(0, 60), (60, 37)] (by decide) (by simp [ok_Tying_timesSaying_0, ok_Tying_timesSaying_1]) pc i (ab_grd (n := 97) (show (bif Nat.ble 97 pc then none else _) = some i from h)) h
set_option maxRecDepth 100000 in
theorem ok_Tying_swap_0 : ab_okr 143 0 27 = true := by decide +kernel
set_option maxRecDepth 100000 in
theorem ok_Tying_swap : ∀ pc i, cdT 143 pc = some i → ab_ok 143 pc i = true := fun pc i h => ab_okr_all 143 27 [(0, 27)] (by decide) (by simp [ok_Tying_swap_0]) pc i (ab_grd (n := 27) (show (bif Nat.ble 27 pc then none else _) = some i from h)) h
set_option maxRecDepth 100000 in
theorem ok_Tying_takeNextOrder_0 : ab_okr 144 0 60 = true := by decide +kernel
set_option maxRecDepth 100000 in
theorem ok_Tying_takeNextOrder_1 : ab_okr 144 60 51 = true := by decide +kernel
set_option maxRecDepth 100000 in
theorem ok_Tying_takeNextOrder : ∀ pc i, cdT 144 pc = some i → ab_ok 144 pc i = true := fun pc i h => ab_okr_all 144 111 [(0, 60), (60, 51)] (by decide) (by simp [ok_Tying_takeNextOrder_0, ok_Tying_takeNextOrder_1]) pc i (ab_grd (n := 111) (show (bif Nat.ble 111 pc then none else _) = some i from h)) h
set_option maxRecDepth 100000 in
theorem ok_Tying_bestFor_0 : ab_okr 145 0 60 = true := by decide +kernel
set_option maxRecDepth 100000 in
theorem ok_Tying_bestFor_1 : ab_okr 145 60 49 = true := by decide +kernel
set_option maxRecDepth 100000 in
theorem ok_Tying_bestFor : ∀ pc i, cdT 145 pc = some i → ab_ok 145 pc i = true := fun pc i h => ab_okr_all 145 109 [(0, 60), (60, 49)] (by decide) (by simp [ok_Tying_bestFor_0, ok_Tying_bestFor_1]) pc i (ab_grd (n := 109) (show (bif Nat.ble 109 pc then none else _) = some i from h)) h
set_option maxRecDepth 100000 in
theorem ok_X_tied_0 : ab_okr 146 0 60 = true := by decide +kernel
set_option maxRecDepth 100000 in
theorem ok_X_tied_1 : ab_okr 146 60 9 = true := by decide +kernel
set_option maxRecDepth 100000 in
theorem ok_X_tied : ∀ pc i, cdT 146 pc = some i → ab_ok 146 pc i = true := fun pc i h => ab_okr_all 146 69 [(0, 60), (60, 9)] (by decide) (by simp [ok_X_tied_0, ok_X_tied_1]) pc i (ab_grd (n := 69) (show (bif Nat.ble 69 pc then none else _) = some i from h)) h
set_option maxRecDepth 100000 in
theorem ok_M_layOrder_0 : ab_okr 147 0 60 = true := by decide +kernel
set_option maxRecDepth 100000 in
theorem ok_M_layOrder_1 : ab_okr 147 60 9 = true := by decide +kernel
set_option maxRecDepth 100000 in
theorem ok_M_layOrder : ∀ pc i, cdT 147 pc = some i → ab_ok 147 pc i = true := fun pc i h => ab_okr_all 147 69 [(0, 60), (60, 9)] (by decide) (by simp [ok_M_layOrder_0, ok_M_layOrder_1]) pc i (ab_grd (n := 69) (show (bif Nat.ble 69 pc then none else _) = some i from h)) h
set_option maxRecDepth 100000 in
theorem ok_M_tied_0 : ab_okr 148 0 60 = true := by decide +kernel
set_option maxRecDepth 100000 in
theorem ok_M_tied_1 : ab_okr 148 60 60 = true := by decide +kernel
set_option maxRecDepth 100000 in
theorem ok_M_tied_2 : ab_okr 148 120 60 = true := by decide +kernel
set_option maxRecDepth 100000 in
theorem ok_M_tied_3 : ab_okr 148 180 25 = true := by decide +kernel
set_option maxRecDepth 100000 in
theorem ok_M_tied : ∀ pc i, cdT 148 pc = some i → ab_ok 148 pc i = true := fun pc i h => ab_okr_all 148 205 [(0, 60), (60, 60), (120, 60), (180, 25)] (by decide) (by simp [ok_M_tied_0, ok_M_tied_1, ok_M_tied_2, ok_M_tied_3]) pc i (ab_grd (n := 205) (show (bif Nat.ble 205 pc then none else _) = some i from h)) h
set_option maxRecDepth 100000 in
theorem ok_Voices_ofPart_0 : ab_okr 149 0 40 = true := by decide +kernel
set_option maxRecDepth 100000 in
theorem ok_Voices_ofPart : ∀ pc i, cdT 149 pc = some i → ab_ok 149 pc i = true := fun pc i h => ab_okr_all 149 40 [(0, 40)] (by decide) (by simp [ok_Voices_ofPart_0]) pc i (ab_grd (n := 40) (show (bif Nat.ble 40 pc then none else _) = some i from h)) h
set_option maxRecDepth 100000 in
theorem ok_X_cut_0 : ab_okr 150 0 60 = true := by decide +kernel
set_option maxRecDepth 100000 in
theorem ok_X_cut_1 : ab_okr 150 60 38 = true := by decide +kernel
set_option maxRecDepth 100000 in
theorem ok_X_cut : ∀ pc i, cdT 150 pc = some i → ab_ok 150 pc i = true := fun pc i h => ab_okr_all 150 98 [(0, 60), (60, 38)] (by decide) (by simp [ok_X_cut_0, ok_X_cut_1]) pc i (ab_grd (n := 98) (show (bif Nat.ble 98 pc then none else _) = some i from h)) h
set_option maxRecDepth 100000 in
theorem ok_M_cut_0 : ab_okr 151 0 60 = true := by decide +kernel
set_option maxRecDepth 100000 in
theorem ok_M_cut_1 : ab_okr 151 60 60 = true := by decide +kernel
set_option maxRecDepth 100000 in
theorem ok_M_cut_2 : ab_okr 151 120 7 = true := by decide +kernel
set_option maxRecDepth 100000 in
theorem ok_M_cut : ∀ pc i, cdT 151 pc = some i → ab_ok 151 pc i = true := fun pc i h => ab_okr_all 151 127 [(0, 60), (60, 60), (120, 7)] (by decide) (by simp [ok_M_cut_0, ok_M_cut_1, ok_M_cut_2]) pc i (ab_grd (n := 127) (show (bif Nat.ble 127 pc then none else _) = some i from h)) h
set_option maxRecDepth 100000 in
theorem ok_Voices_gains_0 : ab_okr 152 0 23 = true := by decide +kernel
set_option maxRecDepth 100000 in
theorem ok_Voices_gains : ∀ pc i, cdT 152 pc = some i → ab_ok 152 pc i = true := fun pc i h => ab_okr_all 152 23 [(0, 23)] (by decide) (by simp [ok_Voices_gains_0]) pc i (ab_grd (n := 23) (show (bif Nat.ble 23 pc then none else _) = some i from h)) h
set_option maxRecDepth 100000 in
theorem ok_Voices_restingPairs_0 : ab_okr 153 0 60 = true := by decide +kernel
set_option maxRecDepth 100000 in
theorem ok_Voices_restingPairs_1 : ab_okr 153 60 60 = true := by decide +kernel
set_option maxRecDepth 100000 in
theorem ok_Voices_restingPairs_2 : ab_okr 153 120 60 = true := by decide +kernel
set_option maxRecDepth 100000 in
theorem ok_Voices_restingPairs_3 : ab_okr 153 180 2 = true := by decide +kernel
set_option maxRecDepth 100000 in
theorem ok_Voices_restingPairs : ∀ pc i, cdT 153 pc = some i → ab_ok 153 pc i = true := fun pc i h => ab_okr_all 153 182 [(0, 60), (60, 60), (120, 60), (180, 2)] (by decide) (by simp [ok_Voices_restingPairs_0, ok_Voices_restingPairs_1, ok_Voices_restingPairs_2, ok_Voices_restingPairs_3]) pc i (ab_grd (n := 182) (show (bif Nat.ble 182 pc then none else _) = some i from h)) h
set_option maxRecDepth 100000 in
theorem ok_X_rests_0 : ab_okr 154 0 59 = true := by decide +kernel
set_option maxRecDepth 100000 in
theorem ok_X_rests : ∀ pc i, cdT 154 pc = some i → ab_ok 154 pc i = true := fun pc i h => ab_okr_all 154 59 [(0, 59)] (by decide) (by simp [ok_X_rests_0]) pc i (ab_grd (n := 59) (show (bif Nat.ble 59 pc then none else _) = some i from h)) h
set_option maxRecDepth 100000 in
theorem ok_M_rests_0 : ab_okr 155 0 60 = true := by decide +kernel
set_option maxRecDepth 100000 in
theorem ok_M_rests_1 : ab_okr 155 60 60 = true := by decide +kernel
set_option maxRecDepth 100000 in
theorem ok_M_rests_2 : ab_okr 155 120 60 = true := by decide +kernel
set_option maxRecDepth 100000 in
theorem ok_M_rests_3 : ab_okr 155 180 42 = true := by decide +kernel
set_option maxRecDepth 100000 in
theorem ok_M_rests : ∀ pc i, cdT 155 pc = some i → ab_ok 155 pc i = true := fun pc i h => ab_okr_all 155 222 [(0, 60), (60, 60), (120, 60), (180, 42)] (by decide) (by simp [ok_M_rests_0, ok_M_rests_1, ok_M_rests_2, ok_M_rests_3]) pc i (ab_grd (n := 222) (show (bif Nat.ble 222 pc then none else _) = some i from h)) h
set_option maxRecDepth 100000 in
theorem ok_Notes_add_0 : ab_okr 156 0 41 = true := by decide +kernel
set_option maxRecDepth 100000 in
theorem ok_Notes_add : ∀ pc i, cdT 156 pc = some i → ab_ok 156 pc i = true := fun pc i h => ab_okr_all 156 41 [(0, 41)] (by decide) (by simp [ok_Notes_add_0]) pc i (ab_grd (n := 41) (show (bif Nat.ble 41 pc then none else _) = some i from h)) h
set_option maxRecDepth 100000 in
theorem ok_X_note_0 : ab_okr 157 0 60 = true := by decide +kernel
set_option maxRecDepth 100000 in
theorem ok_X_note_1 : ab_okr 157 60 17 = true := by decide +kernel
set_option maxRecDepth 100000 in
theorem ok_X_note : ∀ pc i, cdT 157 pc = some i → ab_ok 157 pc i = true := fun pc i h => ab_okr_all 157 77 [(0, 60), (60, 17)] (by decide) (by simp [ok_X_note_0, ok_X_note_1]) pc i (ab_grd (n := 77) (show (bif Nat.ble 77 pc then none else _) = some i from h)) h
set_option maxRecDepth 100000 in
theorem ok_M_note_0 : ab_okr 158 0 60 = true := by decide +kernel
set_option maxRecDepth 100000 in
theorem ok_M_note_1 : ab_okr 158 60 41 = true := by decide +kernel
set_option maxRecDepth 100000 in
theorem ok_M_note : ∀ pc i, cdT 158 pc = some i → ab_ok 158 pc i = true := fun pc i h => ab_okr_all 158 101 [(0, 60), (60, 41)] (by decide) (by simp [ok_M_note_0, ok_M_note_1]) pc i (ab_grd (n := 101) (show (bif Nat.ble 101 pc then none else _) = some i from h)) h
set_option maxRecDepth 100000 in
theorem ok_X_forget_0 : ab_okr 159 0 24 = true := by decide +kernel
set_option maxRecDepth 100000 in
theorem ok_X_forget : ∀ pc i, cdT 159 pc = some i → ab_ok 159 pc i = true := fun pc i h => ab_okr_all 159 24 [(0, 24)] (by decide) (by simp [ok_X_forget_0]) pc i (ab_grd (n := 24) (show (bif Nat.ble 24 pc then none else _) = some i from h)) h
set_option maxRecDepth 100000 in
theorem ok_M_forget_0 : ab_okr 160 0 16 = true := by decide +kernel
set_option maxRecDepth 100000 in
theorem ok_M_forget : ∀ pc i, cdT 160 pc = some i → ab_ok 160 pc i = true := fun pc i h => ab_okr_all 160 16 [(0, 16)] (by decide) (by simp [ok_M_forget_0]) pc i (ab_grd (n := 16) (show (bif Nat.ble 16 pc then none else _) = some i from h)) h
set_option maxRecDepth 100000 in
theorem ok_Guess_suppose_0 : ab_okr 161 0 20 = true := by decide +kernel
set_option maxRecDepth 100000 in
theorem ok_Guess_suppose : ∀ pc i, cdT 161 pc = some i → ab_ok 161 pc i = true := fun pc i h => ab_okr_all 161 20 [(0, 20)] (by decide) (by simp [ok_Guess_suppose_0]) pc i (ab_grd (n := 20) (show (bif Nat.ble 20 pc then none else _) = some i from h)) h
set_option maxRecDepth 100000 in
theorem ok_Guess_allNotesAreSo_0 : ab_okr 162 0 55 = true := by decide +kernel
set_option maxRecDepth 100000 in
theorem ok_Guess_allNotesAreSo : ∀ pc i, cdT 162 pc = some i → ab_ok 162 pc i = true := fun pc i h => ab_okr_all 162 55 [(0, 55)] (by decide) (by simp [ok_Guess_allNotesAreSo_0]) pc i (ab_grd (n := 55) (show (bif Nat.ble 55 pc then none else _) = some i from h)) h
set_option maxRecDepth 100000 in
theorem ok_Guess_fittingStones_0 : ab_okr 163 0 51 = true := by decide +kernel
set_option maxRecDepth 100000 in
theorem ok_Guess_fittingStones : ∀ pc i, cdT 163 pc = some i → ab_ok 163 pc i = true := fun pc i h => ab_okr_all 163 51 [(0, 51)] (by decide) (by simp [ok_Guess_fittingStones_0]) pc i (ab_grd (n := 51) (show (bif Nat.ble 51 pc then none else _) = some i from h)) h
set_option maxRecDepth 100000 in
theorem ok_X_stones_0 : ab_okr 164 0 28 = true := by decide +kernel
set_option maxRecDepth 100000 in
theorem ok_X_stones : ∀ pc i, cdT 164 pc = some i → ab_ok 164 pc i = true := fun pc i h => ab_okr_all 164 28 [(0, 28)] (by decide) (by simp [ok_X_stones_0]) pc i (ab_grd (n := 28) (show (bif Nat.ble 28 pc then none else _) = some i from h)) h
set_option maxRecDepth 100000 in
theorem ok_M_areNotesSo_0 : ab_okr 165 0 60 = true := by decide +kernel
set_option maxRecDepth 100000 in
theorem ok_M_areNotesSo_1 : ab_okr 165 60 3 = true := by decide +kernel
set_option maxRecDepth 100000 in
theorem ok_M_areNotesSo : ∀ pc i, cdT 165 pc = some i → ab_ok 165 pc i = true := fun pc i h => ab_okr_all 165 63 [(0, 60), (60, 3)] (by decide) (by simp [ok_M_areNotesSo_0, ok_M_areNotesSo_1]) pc i (ab_grd (n := 63) (show (bif Nat.ble 63 pc then none else _) = some i from h)) h
set_option maxRecDepth 100000 in
theorem ok_M_stonesOf_0 : ab_okr 166 0 51 = true := by decide +kernel
set_option maxRecDepth 100000 in
theorem ok_M_stonesOf : ∀ pc i, cdT 166 pc = some i → ab_ok 166 pc i = true := fun pc i h => ab_okr_all 166 51 [(0, 51)] (by decide) (by simp [ok_M_stonesOf_0]) pc i (ab_grd (n := 51) (show (bif Nat.ble 51 pc then none else _) = some i from h)) h
set_option maxRecDepth 100000 in
theorem ok_M_stones_0 : ab_okr 167 0 23 = true := by decide +kernel
set_option maxRecDepth 100000 in
theorem ok_M_stones : ∀ pc i, cdT 167 pc = some i → ab_ok 167 pc i = true := fun pc i h => ab_okr_all 167 23 [(0, 23)] (by decide) (by simp [ok_M_stones_0]) pc i (ab_grd (n := 23) (show (bif Nat.ble 23 pc then none else _) = some i from h)) h
set_option maxRecDepth 100000 in
theorem ok_Guess_fittingKinds_0 : ab_okr 168 0 50 = true := by decide +kernel
set_option maxRecDepth 100000 in
theorem ok_Guess_fittingKinds : ∀ pc i, cdT 168 pc = some i → ab_ok 168 pc i = true := fun pc i h => ab_okr_all 168 50 [(0, 50)] (by decide) (by simp [ok_Guess_fittingKinds_0]) pc i (ab_grd (n := 50) (show (bif Nat.ble 50 pc then none else _) = some i from h)) h
set_option maxRecDepth 100000 in
theorem ok_X_is_0 : ab_okr 169 0 28 = true := by decide +kernel
set_option maxRecDepth 100000 in
theorem ok_X_is : ∀ pc i, cdT 169 pc = some i → ab_ok 169 pc i = true := fun pc i h => ab_okr_all 169 28 [(0, 28)] (by decide) (by simp [ok_X_is_0]) pc i (ab_grd (n := 28) (show (bif Nat.ble 28 pc then none else _) = some i from h)) h
set_option maxRecDepth 100000 in
theorem ok_M_is_0 : ab_okr 170 0 60 = true := by decide +kernel
set_option maxRecDepth 100000 in
theorem ok_M_is_1 : ab_okr 170 60 6 = true := by decide +kernel
set_option maxRecDepth 100000 in
theorem ok_M_is : ∀ pc i, cdT 170 pc = some i → ab_ok 170 pc i = true := fun pc i h => ab_okr_all 170 66 [(0, 60), (60, 6)] (by decide) (by simp [ok_M_is_0, ok_M_is_1]) pc i (ab_grd (n := 66) (show (bif Nat.ble 66 pc then none else _) = some i from h)) h
set_option maxRecDepth 100000 in
theorem ok_Guess_stonesSaying_0 : ab_okr 171 0 60 = true := by decide +kernel
set_option maxRecDepth 100000 in
theorem ok_Guess_stonesSaying_1 : ab_okr 171 60 15 = true := by decide +kernel
set_option maxRecDepth 100000 in
theorem ok_Guess_stonesSaying : ∀ pc i, cdT 171 pc = some i → ab_ok 171 pc i = true := fun pc i h => ab_okr_all 171 75 [(0, 60), (60, 15)] (by decide) (by simp [ok_Guess_stonesSaying_0, ok_Guess_stonesSaying_1]) pc i (ab_grd (n := 75) (show (bif Nat.ble 75 pc then none else _) = some i from h)) h
set_option maxRecDepth 100000 in
theorem ok_Guess_tellingPitch_0 : ab_okr 172 0 60 = true := by decide +kernel
set_option maxRecDepth 100000 in
theorem ok_Guess_tellingPitch_1 : ab_okr 172 60 26 = true := by decide +kernel
set_option maxRecDepth 100000 in
theorem ok_Guess_tellingPitch : ∀ pc i, cdT 172 pc = some i → ab_ok 172 pc i = true := fun pc i h => ab_okr_all 172 86 [(0, 60), (60, 26)] (by decide) (by simp [ok_Guess_tellingPitch_0, ok_Guess_tellingPitch_1]) pc i (ab_grd (n := 86) (show (bif Nat.ble 86 pc then none else _) = some i from h)) h
set_option maxRecDepth 100000 in
theorem ok_X_look_0 : ab_okr 173 0 28 = true := by decide +kernel
set_option maxRecDepth 100000 in
theorem ok_X_look : ∀ pc i, cdT 173 pc = some i → ab_ok 173 pc i = true := fun pc i h => ab_okr_all 173 28 [(0, 28)] (by decide) (by simp [ok_X_look_0]) pc i (ab_grd (n := 28) (show (bif Nat.ble 28 pc then none else _) = some i from h)) h
set_option maxRecDepth 100000 in
theorem ok_M_look_0 : ab_okr 174 0 60 = true := by decide +kernel
set_option maxRecDepth 100000 in
theorem ok_M_look_1 : ab_okr 174 60 60 = true := by decide +kernel
set_option maxRecDepth 100000 in
theorem ok_M_look_2 : ab_okr 174 120 40 = true := by decide +kernel
set_option maxRecDepth 100000 in
theorem ok_M_look : ∀ pc i, cdT 174 pc = some i → ab_ok 174 pc i = true := fun pc i h => ab_okr_all 174 160 [(0, 60), (60, 60), (120, 40)] (by decide) (by simp [ok_M_look_0, ok_M_look_1, ok_M_look_2]) pc i (ab_grd (n := 160) (show (bif Nat.ble 160 pc then none else _) = some i from h)) h
set_option maxRecDepth 100000 in
theorem ok_Voices_casesOfSlips_0 : ab_okr 175 0 48 = true := by decide +kernel
set_option maxRecDepth 100000 in
theorem ok_Voices_casesOfSlips : ∀ pc i, cdT 175 pc = some i → ab_ok 175 pc i = true := fun pc i h => ab_okr_all 175 48 [(0, 48)] (by decide) (by simp [ok_Voices_casesOfSlips_0]) pc i (ab_grd (n := 48) (show (bif Nat.ble 48 pc then none else _) = some i from h)) h
set_option maxRecDepth 100000 in
theorem ok_Voices_casesOf_0 : ab_okr 176 0 60 = true := by decide +kernel
set_option maxRecDepth 100000 in
theorem ok_Voices_casesOf_1 : ab_okr 176 60 45 = true := by decide +kernel
set_option maxRecDepth 100000 in
theorem ok_Voices_casesOf : ∀ pc i, cdT 176 pc = some i → ab_ok 176 pc i = true := fun pc i h => ab_okr_all 176 105 [(0, 60), (60, 45)] (by decide) (by simp [ok_Voices_casesOf_0, ok_Voices_casesOf_1]) pc i (ab_grd (n := 105) (show (bif Nat.ble 105 pc then none else _) = some i from h)) h
set_option maxRecDepth 100000 in
theorem ok_X_commonDivisor_0 : ab_okr 177 0 48 = true := by decide +kernel
set_option maxRecDepth 100000 in
theorem ok_X_commonDivisor : ∀ pc i, cdT 177 pc = some i → ab_ok 177 pc i = true := fun pc i h => ab_okr_all 177 48 [(0, 48)] (by decide) (by simp [ok_X_commonDivisor_0]) pc i (ab_grd (n := 48) (show (bif Nat.ble 48 pc then none else _) = some i from h)) h
set_option maxRecDepth 100000 in
theorem ok_X_setFraction_0 : ab_okr 178 0 31 = true := by decide +kernel
set_option maxRecDepth 100000 in
theorem ok_X_setFraction : ∀ pc i, cdT 178 pc = some i → ab_ok 178 pc i = true := fun pc i h => ab_okr_all 178 31 [(0, 31)] (by decide) (by simp [ok_X_setFraction_0]) pc i (ab_grd (n := 31) (show (bif Nat.ble 31 pc then none else _) = some i from h)) h
set_option maxRecDepth 100000 in
theorem ok_X_slips_0 : ab_okr 179 0 60 = true := by decide +kernel
set_option maxRecDepth 100000 in
theorem ok_X_slips_1 : ab_okr 179 60 34 = true := by decide +kernel
set_option maxRecDepth 100000 in
theorem ok_X_slips : ∀ pc i, cdT 179 pc = some i → ab_ok 179 pc i = true := fun pc i h => ab_okr_all 179 94 [(0, 60), (60, 34)] (by decide) (by simp [ok_X_slips_0, ok_X_slips_1]) pc i (ab_grd (n := 94) (show (bif Nat.ble 94 pc then none else _) = some i from h)) h
set_option maxRecDepth 100000 in
theorem ok_M_fraction_0 : ab_okr 180 0 48 = true := by decide +kernel
set_option maxRecDepth 100000 in
theorem ok_M_fraction : ∀ pc i, cdT 180 pc = some i → ab_ok 180 pc i = true := fun pc i h => ab_okr_all 180 48 [(0, 48)] (by decide) (by simp [ok_M_fraction_0]) pc i (ab_grd (n := 48) (show (bif Nat.ble 48 pc then none else _) = some i from h)) h
set_option maxRecDepth 100000 in
theorem ok_M_slips_0 : ab_okr 181 0 60 = true := by decide +kernel
set_option maxRecDepth 100000 in
theorem ok_M_slips_1 : ab_okr 181 60 60 = true := by decide +kernel
set_option maxRecDepth 100000 in
theorem ok_M_slips_2 : ab_okr 181 120 60 = true := by decide +kernel
set_option maxRecDepth 100000 in
theorem ok_M_slips_3 : ab_okr 181 180 9 = true := by decide +kernel
set_option maxRecDepth 100000 in
theorem ok_M_slips : ∀ pc i, cdT 181 pc = some i → ab_ok 181 pc i = true := fun pc i h => ab_okr_all 181 189 [(0, 60), (60, 60), (120, 60), (180, 9)] (by decide) (by simp [ok_M_slips_0, ok_M_slips_1, ok_M_slips_2, ok_M_slips_3]) pc i (ab_grd (n := 189) (show (bif Nat.ble 189 pc then none else _) = some i from h)) h
set_option maxRecDepth 100000 in
theorem ok_Ways_timesBy_0 : ab_okr 182 0 60 = true := by decide +kernel
set_option maxRecDepth 100000 in
theorem ok_Ways_timesBy_1 : ab_okr 182 60 60 = true := by decide +kernel
set_option maxRecDepth 100000 in
theorem ok_Ways_timesBy_2 : ab_okr 182 120 42 = true := by decide +kernel
set_option maxRecDepth 100000 in
theorem ok_Ways_timesBy : ∀ pc i, cdT 182 pc = some i → ab_ok 182 pc i = true := fun pc i h => ab_okr_all 182 162 [(0, 60), (60, 60), (120, 42)] (by decide) (by simp [ok_Ways_timesBy_0, ok_Ways_timesBy_1, ok_Ways_timesBy_2]) pc i (ab_grd (n := 162) (show (bif Nat.ble 162 pc then none else _) = some i from h)) h
set_option maxRecDepth 100000 in
theorem ok_X_walls_0 : ab_okr 183 0 52 = true := by decide +kernel
set_option maxRecDepth 100000 in
theorem ok_X_walls : ∀ pc i, cdT 183 pc = some i → ab_ok 183 pc i = true := fun pc i h => ab_okr_all 183 52 [(0, 52)] (by decide) (by simp [ok_X_walls_0]) pc i (ab_grd (n := 52) (show (bif Nat.ble 52 pc then none else _) = some i from h)) h
set_option maxRecDepth 100000 in
theorem ok_M_walls_0 : ab_okr 184 0 60 = true := by decide +kernel
set_option maxRecDepth 100000 in
theorem ok_M_walls_1 : ab_okr 184 60 60 = true := by decide +kernel
set_option maxRecDepth 100000 in
theorem ok_M_walls_2 : ab_okr 184 120 60 = true := by decide +kernel
set_option maxRecDepth 100000 in
theorem ok_M_walls : ∀ pc i, cdT 184 pc = some i → ab_ok 184 pc i = true := fun pc i h => ab_okr_all 184 180 [(0, 60), (60, 60), (120, 60)] (by decide) (by simp [ok_M_walls_0, ok_M_walls_1, ok_M_walls_2]) pc i (ab_grd (n := 180) (show (bif Nat.ble 180 pc then none else _) = some i from h)) h
set_option maxRecDepth 100000 in
theorem ok_X_part_0 : ab_okr 185 0 31 = true := by decide +kernel
set_option maxRecDepth 100000 in
theorem ok_X_part : ∀ pc i, cdT 185 pc = some i → ab_ok 185 pc i = true := fun pc i h => ab_okr_all 185 31 [(0, 31)] (by decide) (by simp [ok_X_part_0]) pc i (ab_grd (n := 31) (show (bif Nat.ble 31 pc then none else _) = some i from h)) h
set_option maxRecDepth 100000 in
theorem ok_M_part_0 : ab_okr 186 0 31 = true := by decide +kernel
set_option maxRecDepth 100000 in
theorem ok_M_part : ∀ pc i, cdT 186 pc = some i → ab_ok 186 pc i = true := fun pc i h => ab_okr_all 186 31 [(0, 31)] (by decide) (by simp [ok_M_part_0]) pc i (ab_grd (n := 31) (show (bif Nat.ble 31 pc then none else _) = some i from h)) h
set_option maxRecDepth 100000 in
theorem ok_X_image_0 : ab_okr 187 0 38 = true := by decide +kernel
set_option maxRecDepth 100000 in
theorem ok_X_image : ∀ pc i, cdT 187 pc = some i → ab_ok 187 pc i = true := fun pc i h => ab_okr_all 187 38 [(0, 38)] (by decide) (by simp [ok_X_image_0]) pc i (ab_grd (n := 38) (show (bif Nat.ble 38 pc then none else _) = some i from h)) h
set_option maxRecDepth 100000 in
theorem ok_M_image_0 : ab_okr 188 0 57 = true := by decide +kernel
set_option maxRecDepth 100000 in
theorem ok_M_image : ∀ pc i, cdT 188 pc = some i → ab_ok 188 pc i = true := fun pc i h => ab_okr_all 188 57 [(0, 57)] (by decide) (by simp [ok_M_image_0]) pc i (ab_grd (n := 57) (show (bif Nat.ble 57 pc then none else _) = some i from h)) h
set_option maxRecDepth 100000 in
theorem ok_X_from_0 : ab_okr 189 0 45 = true := by decide +kernel
set_option maxRecDepth 100000 in
theorem ok_X_from : ∀ pc i, cdT 189 pc = some i → ab_ok 189 pc i = true := fun pc i h => ab_okr_all 189 45 [(0, 45)] (by decide) (by simp [ok_X_from_0]) pc i (ab_grd (n := 45) (show (bif Nat.ble 45 pc then none else _) = some i from h)) h
set_option maxRecDepth 100000 in
theorem ok_M_from_0 : ab_okr 190 0 60 = true := by decide +kernel
set_option maxRecDepth 100000 in
theorem ok_M_from_1 : ab_okr 190 60 4 = true := by decide +kernel
set_option maxRecDepth 100000 in
theorem ok_M_from : ∀ pc i, cdT 190 pc = some i → ab_ok 190 pc i = true := fun pc i h => ab_okr_all 190 64 [(0, 60), (60, 4)] (by decide) (by simp [ok_M_from_0, ok_M_from_1]) pc i (ab_grd (n := 64) (show (bif Nat.ble 64 pc then none else _) = some i from h)) h
set_option maxRecDepth 100000 in
theorem ok_X_status_0 : ab_okr 191 0 49 = true := by decide +kernel
set_option maxRecDepth 100000 in
theorem ok_X_status : ∀ pc i, cdT 191 pc = some i → ab_ok 191 pc i = true := fun pc i h => ab_okr_all 191 49 [(0, 49)] (by decide) (by simp [ok_X_status_0]) pc i (ab_grd (n := 49) (show (bif Nat.ble 49 pc then none else _) = some i from h)) h
set_option maxRecDepth 100000 in
theorem ok_M_status_0 : ab_okr 192 0 27 = true := by decide +kernel
set_option maxRecDepth 100000 in
theorem ok_M_status : ∀ pc i, cdT 192 pc = some i → ab_ok 192 pc i = true := fun pc i h => ab_okr_all 192 27 [(0, 27)] (by decide) (by simp [ok_M_status_0]) pc i (ab_grd (n := 27) (show (bif Nat.ble 27 pc then none else _) = some i from h)) h
set_option maxRecDepth 100000 in
theorem ok_X_count_0 : ab_okr 193 0 60 = true := by decide +kernel
set_option maxRecDepth 100000 in
theorem ok_X_count_1 : ab_okr 193 60 60 = true := by decide +kernel
set_option maxRecDepth 100000 in
theorem ok_X_count_2 : ab_okr 193 120 8 = true := by decide +kernel
set_option maxRecDepth 100000 in
theorem ok_X_count : ∀ pc i, cdT 193 pc = some i → ab_ok 193 pc i = true := fun pc i h => ab_okr_all 193 128 [(0, 60), (60, 60), (120, 8)] (by decide) (by simp [ok_X_count_0, ok_X_count_1, ok_X_count_2]) pc i (ab_grd (n := 128) (show (bif Nat.ble 128 pc then none else _) = some i from h)) h
set_option maxRecDepth 100000 in
theorem ok_M_counted_0 : ab_okr 194 0 60 = true := by decide +kernel
set_option maxRecDepth 100000 in
theorem ok_M_counted_1 : ab_okr 194 60 31 = true := by decide +kernel
set_option maxRecDepth 100000 in
theorem ok_M_counted : ∀ pc i, cdT 194 pc = some i → ab_ok 194 pc i = true := fun pc i h => ab_okr_all 194 91 [(0, 60), (60, 31)] (by decide) (by simp [ok_M_counted_0, ok_M_counted_1]) pc i (ab_grd (n := 91) (show (bif Nat.ble 91 pc then none else _) = some i from h)) h
set_option maxRecDepth 100000 in
theorem ok_M_count_0 : ab_okr 195 0 27 = true := by decide +kernel
set_option maxRecDepth 100000 in
theorem ok_M_count : ∀ pc i, cdT 195 pc = some i → ab_ok 195 pc i = true := fun pc i h => ab_okr_all 195 27 [(0, 27)] (by decide) (by simp [ok_M_count_0]) pc i (ab_grd (n := 27) (show (bif Nat.ble 27 pc then none else _) = some i from h)) h
set_option maxRecDepth 100000 in
theorem ok_X_fold_0 : ab_okr 196 0 8 = true := by decide +kernel
set_option maxRecDepth 100000 in
theorem ok_X_fold : ∀ pc i, cdT 196 pc = some i → ab_ok 196 pc i = true := fun pc i h => ab_okr_all 196 8 [(0, 8)] (by decide) (by simp [ok_X_fold_0]) pc i (ab_grd (n := 8) (show (bif Nat.ble 8 pc then none else _) = some i from h)) h
set_option maxRecDepth 100000 in
theorem ok_X_foldPitches_0 : ab_okr 197 0 60 = true := by decide +kernel
set_option maxRecDepth 100000 in
theorem ok_X_foldPitches_1 : ab_okr 197 60 25 = true := by decide +kernel
set_option maxRecDepth 100000 in
theorem ok_X_foldPitches : ∀ pc i, cdT 197 pc = some i → ab_ok 197 pc i = true := fun pc i h => ab_okr_all 197 85 [(0, 60), (60, 25)] (by decide) (by simp [ok_X_foldPitches_0, ok_X_foldPitches_1]) pc i (ab_grd (n := 85) (show (bif Nat.ble 85 pc then none else _) = some i from h)) h
set_option maxRecDepth 100000 in
theorem ok_X_foldClimbers_0 : ab_okr 198 0 60 = true := by decide +kernel
set_option maxRecDepth 100000 in
theorem ok_X_foldClimbers_1 : ab_okr 198 60 56 = true := by decide +kernel
set_option maxRecDepth 100000 in
theorem ok_X_foldClimbers : ∀ pc i, cdT 198 pc = some i → ab_ok 198 pc i = true := fun pc i h => ab_okr_all 198 116 [(0, 60), (60, 56)] (by decide) (by simp [ok_X_foldClimbers_0, ok_X_foldClimbers_1]) pc i (ab_grd (n := 116) (show (bif Nat.ble 116 pc then none else _) = some i from h)) h
set_option maxRecDepth 100000 in
theorem ok_X_foldNotes_0 : ab_okr 199 0 60 = true := by decide +kernel
set_option maxRecDepth 100000 in
theorem ok_X_foldNotes_1 : ab_okr 199 60 6 = true := by decide +kernel
set_option maxRecDepth 100000 in
theorem ok_X_foldNotes : ∀ pc i, cdT 199 pc = some i → ab_ok 199 pc i = true := fun pc i h => ab_okr_all 199 66 [(0, 60), (60, 6)] (by decide) (by simp [ok_X_foldNotes_0, ok_X_foldNotes_1]) pc i (ab_grd (n := 66) (show (bif Nat.ble 66 pc then none else _) = some i from h)) h
set_option maxRecDepth 100000 in
theorem ok_X_digest_0 : ab_okr 200 0 60 = true := by decide +kernel
set_option maxRecDepth 100000 in
theorem ok_X_digest_1 : ab_okr 200 60 5 = true := by decide +kernel
set_option maxRecDepth 100000 in
theorem ok_X_digest : ∀ pc i, cdT 200 pc = some i → ab_ok 200 pc i = true := fun pc i h => ab_okr_all 200 65 [(0, 60), (60, 5)] (by decide) (by simp [ok_X_digest_0, ok_X_digest_1]) pc i (ab_grd (n := 65) (show (bif Nat.ble 65 pc then none else _) = some i from h)) h
set_option maxRecDepth 100000 in
theorem ok_M_sums_0 : ab_okr 201 0 41 = true := by decide +kernel
set_option maxRecDepth 100000 in
theorem ok_M_sums : ∀ pc i, cdT 201 pc = some i → ab_ok 201 pc i = true := fun pc i h => ab_okr_all 201 41 [(0, 41)] (by decide) (by simp [ok_M_sums_0]) pc i (ab_grd (n := 41) (show (bif Nat.ble 41 pc then none else _) = some i from h)) h
set_option maxRecDepth 100000 in
theorem ok_M_digest_0 : ab_okr 202 0 60 = true := by decide +kernel
set_option maxRecDepth 100000 in
theorem ok_M_digest_1 : ab_okr 202 60 60 = true := by decide +kernel
set_option maxRecDepth 100000 in
theorem ok_M_digest_2 : ab_okr 202 120 20 = true := by decide +kernel
set_option maxRecDepth 100000 in
theorem ok_M_digest : ∀ pc i, cdT 202 pc = some i → ab_ok 202 pc i = true := fun pc i h => ab_okr_all 202 140 [(0, 60), (60, 60), (120, 20)] (by decide) (by simp [ok_M_digest_0, ok_M_digest_1, ok_M_digest_2]) pc i (ab_grd (n := 140) (show (bif Nat.ble 140 pc then none else _) = some i from h)) h
