set_option maxRecDepth 100000 in
theorem ci2 : Ci 2 RJx4a65c TJx4a65c 3 tyJx4a65c := ⟨by decide, rfl, rfl, by decide +kernel, tyJx4a65c_ok, nmJx4a65c, by decide +kernel⟩
set_option maxRecDepth 100000 in
theorem ci3 : Ci 3 RX0 TX0 2 tyX0 := ⟨by decide, rfl, rfl, by decide +kernel, tyX0_ok, nmX0, by decide +kernel⟩
set_option maxRecDepth 100000 in
theorem ci4 : Ci 4 RX1 TX1 2 tyX1 := ⟨by decide, rfl, rfl, by decide +kernel, tyX1_ok, nmX1, by decide +kernel⟩
set_option maxRecDepth 100000 in
theorem ci5 : Ci 5 RX2 TX2 2 tyX2 := ⟨by decide, rfl, rfl, by decide +kernel, tyX2_ok, nmX2, by decide +kernel⟩
set_option maxRecDepth 100000 in
theorem ci6 : Ci 6 RX3 TX3 7 tyX3 := ⟨by decide, rfl, rfl, by decide +kernel, tyX3_ok, nmX3, by decide +kernel⟩
set_option maxRecDepth 100000 in
theorem ci7 : Ci 7 RX4 TX4 4 tyX4 := ⟨by decide, rfl, rfl, by decide +kernel, tyX4_ok, nmX4, by decide +kernel⟩
set_option maxRecDepth 100000 in
theorem ci8 : Ci 8 RX5 TX5 10 tyX5 := ⟨by decide, rfl, rfl, by decide +kernel, tyX5_ok, nmX5, by decide +kernel⟩
set_option maxRecDepth 100000 in
theorem ci9 : Ci 9 RX6 TX6 7 tyX6 := ⟨by decide, rfl, rfl, by decide +kernel, tyX6_ok, nmX6, by decide +kernel⟩
set_option maxRecDepth 100000 in
theorem ci10 : Ci 10 RX7 TX7 5 tyX7 := ⟨by decide, rfl, rfl, by decide +kernel, tyX7_ok, nmX7, by decide +kernel⟩
set_option maxRecDepth 100000 in
theorem ci11 : Ci 11 RX8 TX8 11 tyX8 := ⟨by decide, rfl, rfl, by decide +kernel, tyX8_ok, nmX8, by decide +kernel⟩
set_option maxRecDepth 100000 in
theorem ci12 : Ci 12 RX9 TX9 54 tyX9 := ⟨by decide, rfl, rfl, by decide +kernel, tyX9_ok, nmX9, by decide +kernel⟩
