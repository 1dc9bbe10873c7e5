theorem tb1 {w : Cond} (h : w ∈ tables_1_1) : w ∈ lw_tbl := List.mem_append_right _ (List.mem_append_left _ h)
theorem tb2 {w : Cond} (h : w ∈ tables_1_2) : w ∈ lw_tbl := List.mem_append_right _ (List.mem_append_right _ (List.mem_append_left _ h))
theorem tb3 {w : Cond} (h : w ∈ tables_1_3) : w ∈ lw_tbl := List.mem_append_right _ (List.mem_append_right _ (List.mem_append_right _ (List.mem_append_left _ h)))
theorem tb4 {w : Cond} (h : w ∈ tables_1_4) : w ∈ lw_tbl := List.mem_append_right _ (List.mem_append_right _ (List.mem_append_right _ (List.mem_append_right _ (List.mem_append_left _ h))))
theorem tb5 {w : Cond} (h : w ∈ tables_1_5) : w ∈ lw_tbl := List.mem_append_right _ (List.mem_append_right _ (List.mem_append_right _ (List.mem_append_right _ (List.mem_append_right _ (List.mem_append_left _ h)))))
theorem tb6 {w : Cond} (h : w ∈ tables_1_6) : w ∈ lw_tbl := List.mem_append_right _ (List.mem_append_right _ (List.mem_append_right _ (List.mem_append_right _ (List.mem_append_right _ (List.mem_append_right _ (List.mem_append_left _ h))))))
theorem tb7 {w : Cond} (h : w ∈ tables_1_7) : w ∈ lw_tbl := List.mem_append_right _ (List.mem_append_right _ (List.mem_append_right _ (List.mem_append_right _ (List.mem_append_right _ (List.mem_append_right _ (List.mem_append_right _ (List.mem_append_left _ h)))))))
theorem tb8 {w : Cond} (h : w ∈ tables_1_8) : w ∈ lw_tbl := List.mem_append_right _ (List.mem_append_right _ (List.mem_append_right _ (List.mem_append_right _ (List.mem_append_right _ (List.mem_append_right _ (List.mem_append_right _ (List.mem_append_right _ (List.mem_append_left _ h))))))))
theorem tb9 {w : Cond} (h : w ∈ tables_1_9) : w ∈ lw_tbl := List.mem_append_right _ (List.mem_append_right _ (List.mem_append_right _ (List.mem_append_right _ (List.mem_append_right _ (List.mem_append_right _ (List.mem_append_right _ (List.mem_append_right _ (List.mem_append_right _ (h)))))))))
theorem iniL : Cond.initialized RL ∈ UW := UW_mem (tb1 (List.mem_of_getElem? (i := 0) rfl)) rfl
theorem iniX11 : Cond.initialized RX11 ∈ UW := UW_mem (tb1 (List.mem_of_getElem? (i := 1) rfl)) rfl
theorem iniX9 : Cond.initialized RX9 ∈ UW := UW_mem (tb1 (List.mem_of_getElem? (i := 2) rfl)) rfl
theorem iniJx29ce0 : Cond.initialized RJx29ce0 ∈ UW := UW_mem (tb1 (List.mem_of_getElem? (i := 3) rfl)) rfl
theorem iniX10 : Cond.initialized RX10 ∈ UW := UW_mem (tb1 (List.mem_of_getElem? (i := 4) rfl)) rfl
theorem iniX6 : Cond.initialized RX6 ∈ UW := UW_mem (tb1 (List.mem_of_getElem? (i := 5) rfl)) rfl
theorem iniX2 : Cond.initialized RX2 ∈ UW := UW_mem (tb1 (List.mem_of_getElem? (i := 6) rfl)) rfl
theorem iniX3 : Cond.initialized RX3 ∈ UW := UW_mem (tb1 (List.mem_of_getElem? (i := 7) rfl)) rfl
theorem iniX7 : Cond.initialized RX7 ∈ UW := UW_mem (tb1 (List.mem_of_getElem? (i := 8) rfl)) rfl
theorem iniJ6 : Cond.initialized RJ6 ∈ UW := UW_mem (tb1 (List.mem_of_getElem? (i := 9) rfl)) rfl
theorem iniJ9 : Cond.initialized RJ9 ∈ UW := UW_mem (tb1 (List.mem_of_getElem? (i := 10) rfl)) rfl
theorem iniX4 : Cond.initialized RX4 ∈ UW := UW_mem (tb1 (List.mem_of_getElem? (i := 11) rfl)) rfl
theorem iniX5 : Cond.initialized RX5 ∈ UW := UW_mem (tb1 (List.mem_of_getElem? (i := 12) rfl)) rfl
theorem iniX8 : Cond.initialized RX8 ∈ UW := UW_mem (tb1 (List.mem_of_getElem? (i := 13) rfl)) rfl
theorem iniX0 : Cond.initialized RX0 ∈ UW := UW_mem (tb1 (List.mem_of_getElem? (i := 14) rfl)) rfl
theorem iniX1 : Cond.initialized RX1 ∈ UW := UW_mem (tb1 (List.mem_of_getElem? (i := 15) rfl)) rfl
theorem iniX12 : Cond.initialized RX12 ∈ UW := UW_mem (tb1 (List.mem_of_getElem? (i := 16) rfl)) rfl
theorem iniJ0 : Cond.initialized RJ0 ∈ UW := UW_mem (tb1 (List.mem_of_getElem? (i := 17) rfl)) rfl
theorem iniJ1 : Cond.initialized RJ1 ∈ UW := UW_mem (tb1 (List.mem_of_getElem? (i := 18) rfl)) rfl
theorem iniJ2 : Cond.initialized RJ2 ∈ UW := UW_mem (tb1 (List.mem_of_getElem? (i := 19) rfl)) rfl
theorem iniJ3 : Cond.initialized RJ3 ∈ UW := UW_mem (tb1 (List.mem_of_getElem? (i := 20) rfl)) rfl
theorem iniJ11 : Cond.initialized RJ11 ∈ UW := UW_mem (tb1 (List.mem_of_getElem? (i := 21) rfl)) rfl
theorem iniJ7 : Cond.initialized RJ7 ∈ UW := UW_mem (tb1 (List.mem_of_getElem? (i := 22) rfl)) rfl
theorem wsX0_in : ∀ w ∈ u_ws RX0 TX0 3, w ∈ UW := by
  intro w hw
  obtain ⟨k, hk, rfl⟩ := List.mem_map.mp hw
  have hk := List.mem_range.mp hk
  match k, hk with
  | 0, _ => exact UW_mem (tb2 (List.mem_of_getElem? (i := 140) rfl)) rfl
  | 1, _ => exact UW_mem (tb2 (List.mem_of_getElem? (i := 142) rfl)) rfl
  | 2, _ => exact UW_mem (tb2 (List.mem_of_getElem? (i := 144) rfl)) rfl
  | k + 3, h => exact absurd h (by omega)
theorem ciX0 : CI 0 RX0 TX0 3 tyX0 := ⟨rfl, by decide, wsX0_in, tyX0_ok, nmX0⟩
theorem wsX1_in : ∀ w ∈ u_ws RX1 TX1 3, w ∈ UW := by
  intro w hw
  obtain ⟨k, hk, rfl⟩ := List.mem_map.mp hw
  have hk := List.mem_range.mp hk
  match k, hk with
  | 0, _ => exact UW_mem (tb2 (List.mem_of_getElem? (i := 156) rfl)) rfl
  | 1, _ => exact UW_mem (tb2 (List.mem_of_getElem? (i := 158) rfl)) rfl
  | 2, _ => exact UW_mem (tb2 (List.mem_of_getElem? (i := 160) rfl)) rfl
  | k + 3, h => exact absurd h (by omega)
theorem ciX1 : CI 1 RX1 TX1 3 tyX1 := ⟨rfl, by decide, wsX1_in, tyX1_ok, nmX1⟩
theorem wsX2_in : ∀ w ∈ u_ws RX2 TX2 7, w ∈ UW := by
  intro w hw
  obtain ⟨k, hk, rfl⟩ := List.mem_map.mp hw
  have hk := List.mem_range.mp hk
  match k, hk with
  | 0, _ => exact UW_mem (tb1 (List.mem_of_getElem? (i := 131) rfl)) rfl
  | 1, _ => exact UW_mem (tb1 (List.mem_of_getElem? (i := 133) rfl)) rfl
  | 2, _ => exact UW_mem (tb1 (List.mem_of_getElem? (i := 135) rfl)) rfl
  | 3, _ => exact UW_mem (tb1 (List.mem_of_getElem? (i := 137) rfl)) rfl
  | 4, _ => exact UW_mem (tb1 (List.mem_of_getElem? (i := 139) rfl)) rfl
  | 5, _ => exact UW_mem (tb1 (List.mem_of_getElem? (i := 141) rfl)) rfl
  | 6, _ => exact UW_mem (tb1 (List.mem_of_getElem? (i := 143) rfl)) rfl
  | k + 7, h => exact absurd h (by omega)
theorem ciX2 : CI 2 RX2 TX2 7 tyX2 := ⟨rfl, by decide, wsX2_in, tyX2_ok, nmX2⟩
theorem wsX3_in : ∀ w ∈ u_ws RX3 TX3 6, w ∈ UW := by
  intro w hw
  obtain ⟨k, hk, rfl⟩ := List.mem_map.mp hw
  have hk := List.mem_range.mp hk
  match k, hk with
  | 0, _ => exact UW_mem (tb1 (List.mem_of_getElem? (i := 110) rfl)) rfl
  | 1, _ => exact UW_mem (tb1 (List.mem_of_getElem? (i := 112) rfl)) rfl
  | 2, _ => exact UW_mem (tb1 (List.mem_of_getElem? (i := 114) rfl)) rfl
  | 3, _ => exact UW_mem (tb1 (List.mem_of_getElem? (i := 116) rfl)) rfl
  | 4, _ => exact UW_mem (tb1 (List.mem_of_getElem? (i := 118) rfl)) rfl
  | 5, _ => exact UW_mem (tb1 (List.mem_of_getElem? (i := 120) rfl)) rfl
  | k + 6, h => exact absurd h (by omega)
theorem ciX3 : CI 3 RX3 TX3 6 tyX3 := ⟨rfl, by decide, wsX3_in, tyX3_ok, nmX3⟩
theorem wsX4_in : ∀ w ∈ u_ws RX4 TX4 2, w ∈ UW := by
  intro w hw
  obtain ⟨k, hk, rfl⟩ := List.mem_map.mp hw
  have hk := List.mem_range.mp hk
  match k, hk with
  | 0, _ => exact UW_mem (tb2 (List.mem_of_getElem? (i := 74) rfl)) rfl
  | 1, _ => exact UW_mem (tb2 (List.mem_of_getElem? (i := 76) rfl)) rfl
  | k + 2, h => exact absurd h (by omega)
theorem ciX4 : CI 4 RX4 TX4 2 tyX4 := ⟨rfl, by decide, wsX4_in, tyX4_ok, nmX4⟩
theorem wsX5_in : ∀ w ∈ u_ws RX5 TX5 6, w ∈ UW := by
  intro w hw
  obtain ⟨k, hk, rfl⟩ := List.mem_map.mp hw
  have hk := List.mem_range.mp hk
  match k, hk with
  | 0, _ => exact UW_mem (tb2 (List.mem_of_getElem? (i := 91) rfl)) rfl
  | 1, _ => exact UW_mem (tb2 (List.mem_of_getElem? (i := 93) rfl)) rfl
  | 2, _ => exact UW_mem (tb2 (List.mem_of_getElem? (i := 95) rfl)) rfl
  | 3, _ => exact UW_mem (tb2 (List.mem_of_getElem? (i := 97) rfl)) rfl
  | 4, _ => exact UW_mem (tb2 (List.mem_of_getElem? (i := 99) rfl)) rfl
  | 5, _ => exact UW_mem (tb2 (List.mem_of_getElem? (i := 101) rfl)) rfl
  | k + 6, h => exact absurd h (by omega)
theorem ciX5 : CI 5 RX5 TX5 6 tyX5 := ⟨rfl, by decide, wsX5_in, tyX5_ok, nmX5⟩
theorem wsX6_in : ∀ w ∈ u_ws RX6 TX6 5, w ∈ UW := by
  intro w hw
  obtain ⟨k, hk, rfl⟩ := List.mem_map.mp hw
  have hk := List.mem_range.mp hk
  match k, hk with
  | 0, _ => exact UW_mem (tb1 (List.mem_of_getElem? (i := 80) rfl)) rfl
  | 1, _ => exact UW_mem (tb1 (List.mem_of_getElem? (i := 82) rfl)) rfl
  | 2, _ => exact UW_mem (tb1 (List.mem_of_getElem? (i := 84) rfl)) rfl
  | 3, _ => exact UW_mem (tb1 (List.mem_of_getElem? (i := 86) rfl)) rfl
  | 4, _ => exact UW_mem (tb1 (List.mem_of_getElem? (i := 88) rfl)) rfl
  | k + 5, h => exact absurd h (by omega)
theorem ciX6 : CI 6 RX6 TX6 5 tyX6 := ⟨rfl, by decide, wsX6_in, tyX6_ok, nmX6⟩
theorem wsX7_in : ∀ w ∈ u_ws RX7 TX7 18, w ∈ UW := by
  intro w hw
  obtain ⟨k, hk, rfl⟩ := List.mem_map.mp hw
  have hk := List.mem_range.mp hk
  match k, hk with
  | 0, _ => exact UW_mem (tb2 (List.mem_of_getElem? (i := 29) rfl)) rfl
  | 1, _ => exact UW_mem (tb2 (List.mem_of_getElem? (i := 31) rfl)) rfl
  | 2, _ => exact UW_mem (tb2 (List.mem_of_getElem? (i := 33) rfl)) rfl
  | 3, _ => exact UW_mem (tb2 (List.mem_of_getElem? (i := 35) rfl)) rfl
  | 4, _ => exact UW_mem (tb2 (List.mem_of_getElem? (i := 37) rfl)) rfl
  | 5, _ => exact UW_mem (tb2 (List.mem_of_getElem? (i := 39) rfl)) rfl
  | 6, _ => exact UW_mem (tb2 (List.mem_of_getElem? (i := 41) rfl)) rfl
  | 7, _ => exact UW_mem (tb2 (List.mem_of_getElem? (i := 43) rfl)) rfl
  | 8, _ => exact UW_mem (tb2 (List.mem_of_getElem? (i := 45) rfl)) rfl
  | 9, _ => exact UW_mem (tb2 (List.mem_of_getElem? (i := 47) rfl)) rfl
  | 10, _ => exact UW_mem (tb2 (List.mem_of_getElem? (i := 49) rfl)) rfl
  | 11, _ => exact UW_mem (tb2 (List.mem_of_getElem? (i := 51) rfl)) rfl
  | 12, _ => exact UW_mem (tb2 (List.mem_of_getElem? (i := 53) rfl)) rfl
  | 13, _ => exact UW_mem (tb2 (List.mem_of_getElem? (i := 55) rfl)) rfl
  | 14, _ => exact UW_mem (tb2 (List.mem_of_getElem? (i := 57) rfl)) rfl
  | 15, _ => exact UW_mem (tb2 (List.mem_of_getElem? (i := 59) rfl)) rfl
  | 16, _ => exact UW_mem (tb2 (List.mem_of_getElem? (i := 61) rfl)) rfl
  | 17, _ => exact UW_mem (tb2 (List.mem_of_getElem? (i := 63) rfl)) rfl
  | k + 18, h => exact absurd h (by omega)
theorem ciX7 : CI 7 RX7 TX7 18 tyX7 := ⟨rfl, by decide, wsX7_in, tyX7_ok, nmX7⟩
theorem wsX8_in : ∀ w ∈ u_ws RX8 TX8 6, w ∈ UW := by
  intro w hw
  obtain ⟨k, hk, rfl⟩ := List.mem_map.mp hw
  have hk := List.mem_range.mp hk
  match k, hk with
  | 0, _ => exact UW_mem (tb2 (List.mem_of_getElem? (i := 117) rfl)) rfl
  | 1, _ => exact UW_mem (tb2 (List.mem_of_getElem? (i := 119) rfl)) rfl
  | 2, _ => exact UW_mem (tb2 (List.mem_of_getElem? (i := 121) rfl)) rfl
  | 3, _ => exact UW_mem (tb2 (List.mem_of_getElem? (i := 123) rfl)) rfl
  | 4, _ => exact UW_mem (tb2 (List.mem_of_getElem? (i := 125) rfl)) rfl
  | 5, _ => exact UW_mem (tb2 (List.mem_of_getElem? (i := 127) rfl)) rfl
  | k + 6, h => exact absurd h (by omega)
theorem ciX8 : CI 8 RX8 TX8 6 tyX8 := ⟨rfl, by decide, wsX8_in, tyX8_ok, nmX8⟩
theorem wsX9_in : ∀ w ∈ u_ws RX9 TX9 8, w ∈ UW := by
  intro w hw
  obtain ⟨k, hk, rfl⟩ := List.mem_map.mp hw
  have hk := List.mem_range.mp hk
  match k, hk with
  | 0, _ => exact UW_mem (tb1 (List.mem_of_getElem? (i := 51) rfl)) rfl
  | 1, _ => exact UW_mem (tb1 (List.mem_of_getElem? (i := 53) rfl)) rfl
  | 2, _ => exact UW_mem (tb1 (List.mem_of_getElem? (i := 55) rfl)) rfl
  | 3, _ => exact UW_mem (tb1 (List.mem_of_getElem? (i := 57) rfl)) rfl
  | 4, _ => exact UW_mem (tb1 (List.mem_of_getElem? (i := 59) rfl)) rfl
  | 5, _ => exact UW_mem (tb1 (List.mem_of_getElem? (i := 61) rfl)) rfl
  | 6, _ => exact UW_mem (tb1 (List.mem_of_getElem? (i := 63) rfl)) rfl
  | 7, _ => exact UW_mem (tb1 (List.mem_of_getElem? (i := 65) rfl)) rfl
  | k + 8, h => exact absurd h (by omega)
theorem ciX9 : CI 9 RX9 TX9 8 tyX9 := ⟨rfl, by decide, wsX9_in, tyX9_ok, nmX9⟩
theorem wsX11_in : ∀ w ∈ u_ws RX11 TX11 18, w ∈ UW := by
  intro w hw
  obtain ⟨k, hk, rfl⟩ := List.mem_map.mp hw
  have hk := List.mem_range.mp hk
  match k, hk with
  | 0, _ => exact UW_mem (tb2 (List.mem_of_getElem? (i := 193) rfl)) rfl
  | 1, _ => exact UW_mem (tb2 (List.mem_of_getElem? (i := 195) rfl)) rfl
  | 2, _ => exact UW_mem (tb2 (List.mem_of_getElem? (i := 197) rfl)) rfl
  | 3, _ => exact UW_mem (tb2 (List.mem_of_getElem? (i := 199) rfl)) rfl
  | 4, _ => exact UW_mem (tb2 (List.mem_of_getElem? (i := 201) rfl)) rfl
  | 5, _ => exact UW_mem (tb2 (List.mem_of_getElem? (i := 203) rfl)) rfl
  | 6, _ => exact UW_mem (tb2 (List.mem_of_getElem? (i := 205) rfl)) rfl
  | 7, _ => exact UW_mem (tb2 (List.mem_of_getElem? (i := 207) rfl)) rfl
  | 8, _ => exact UW_mem (tb2 (List.mem_of_getElem? (i := 209) rfl)) rfl
  | 9, _ => exact UW_mem (tb2 (List.mem_of_getElem? (i := 211) rfl)) rfl
  | 10, _ => exact UW_mem (tb2 (List.mem_of_getElem? (i := 213) rfl)) rfl
  | 11, _ => exact UW_mem (tb2 (List.mem_of_getElem? (i := 215) rfl)) rfl
  | 12, _ => exact UW_mem (tb2 (List.mem_of_getElem? (i := 217) rfl)) rfl
  | 13, _ => exact UW_mem (tb2 (List.mem_of_getElem? (i := 219) rfl)) rfl
  | 14, _ => exact UW_mem (tb2 (List.mem_of_getElem? (i := 221) rfl)) rfl
  | 15, _ => exact UW_mem (tb2 (List.mem_of_getElem? (i := 223) rfl)) rfl
  | 16, _ => exact UW_mem (tb2 (List.mem_of_getElem? (i := 225) rfl)) rfl
  | 17, _ => exact UW_mem (tb2 (List.mem_of_getElem? (i := 227) rfl)) rfl
  | k + 18, h => exact absurd h (by omega)
theorem ciX11 : CI 10 RX11 TX11 18 tyX11 := ⟨rfl, by decide, wsX11_in, tyX11_ok, nmX11⟩
theorem wsX12_in : ∀ w ∈ u_ws RX12 TX12 31, w ∈ UW := by
  intro w hw
  obtain ⟨k, hk, rfl⟩ := List.mem_map.mp hw
  have hk := List.mem_range.mp hk
  match k, hk with
  | 0, _ => exact UW_mem (tb7 (List.mem_of_getElem? (i := 100) rfl)) rfl
  | 1, _ => exact UW_mem (tb7 (List.mem_of_getElem? (i := 102) rfl)) rfl
  | 2, _ => exact UW_mem (tb7 (List.mem_of_getElem? (i := 104) rfl)) rfl
  | 3, _ => exact UW_mem (tb7 (List.mem_of_getElem? (i := 106) rfl)) rfl
  | 4, _ => exact UW_mem (tb7 (List.mem_of_getElem? (i := 108) rfl)) rfl
  | 5, _ => exact UW_mem (tb7 (List.mem_of_getElem? (i := 110) rfl)) rfl
  | 6, _ => exact UW_mem (tb7 (List.mem_of_getElem? (i := 112) rfl)) rfl
  | 7, _ => exact UW_mem (tb7 (List.mem_of_getElem? (i := 114) rfl)) rfl
  | 8, _ => exact UW_mem (tb7 (List.mem_of_getElem? (i := 116) rfl)) rfl
  | 9, _ => exact UW_mem (tb7 (List.mem_of_getElem? (i := 118) rfl)) rfl
  | 10, _ => exact UW_mem (tb7 (List.mem_of_getElem? (i := 120) rfl)) rfl
  | 11, _ => exact UW_mem (tb7 (List.mem_of_getElem? (i := 122) rfl)) rfl
  | 12, _ => exact UW_mem (tb7 (List.mem_of_getElem? (i := 124) rfl)) rfl
  | 13, _ => exact UW_mem (tb7 (List.mem_of_getElem? (i := 126) rfl)) rfl
  | 14, _ => exact UW_mem (tb7 (List.mem_of_getElem? (i := 128) rfl)) rfl
  | 15, _ => exact UW_mem (tb7 (List.mem_of_getElem? (i := 130) rfl)) rfl
  | 16, _ => exact UW_mem (tb7 (List.mem_of_getElem? (i := 132) rfl)) rfl
  | 17, _ => exact UW_mem (tb7 (List.mem_of_getElem? (i := 134) rfl)) rfl
  | 18, _ => exact UW_mem (tb7 (List.mem_of_getElem? (i := 136) rfl)) rfl
  | 19, _ => exact UW_mem (tb7 (List.mem_of_getElem? (i := 138) rfl)) rfl
  | 20, _ => exact UW_mem (tb7 (List.mem_of_getElem? (i := 140) rfl)) rfl
  | 21, _ => exact UW_mem (tb7 (List.mem_of_getElem? (i := 142) rfl)) rfl
  | 22, _ => exact UW_mem (tb7 (List.mem_of_getElem? (i := 144) rfl)) rfl
  | 23, _ => exact UW_mem (tb7 (List.mem_of_getElem? (i := 146) rfl)) rfl
  | 24, _ => exact UW_mem (tb7 (List.mem_of_getElem? (i := 148) rfl)) rfl
  | 25, _ => exact UW_mem (tb7 (List.mem_of_getElem? (i := 150) rfl)) rfl
  | 26, _ => exact UW_mem (tb7 (List.mem_of_getElem? (i := 152) rfl)) rfl
  | 27, _ => exact UW_mem (tb7 (List.mem_of_getElem? (i := 154) rfl)) rfl
  | 28, _ => exact UW_mem (tb7 (List.mem_of_getElem? (i := 156) rfl)) rfl
  | 29, _ => exact UW_mem (tb7 (List.mem_of_getElem? (i := 158) rfl)) rfl
  | 30, _ => exact UW_mem (tb7 (List.mem_of_getElem? (i := 160) rfl)) rfl
  | k + 31, h => exact absurd h (by omega)
theorem ciX12 : CI 11 RX12 TX12 31 tyX12 := ⟨rfl, by decide, wsX12_in, tyX12_ok, nmX12⟩
theorem miX11_init : MI yX11_init cX11_init 2 none 0 := ⟨UW_mem (tb1 (List.mem_of_getElem? (i := 31) rfl)) rfl, iniX11, by decide +kernel⟩
theorem inX11_init : yX11_init.name = "<init>" ∧ Cond.instanceMethod yX11_init ∈ UW := ⟨rfl, UW_mem (tb1 (List.mem_of_getElem? (i := 30) rfl)) rfl⟩
theorem miX9_init : MI yX9_init cX9_init 1 none 0 := ⟨UW_mem (tb1 (List.mem_of_getElem? (i := 39) rfl)) rfl, iniX9, by decide +kernel⟩
theorem inX9_init : yX9_init.name = "<init>" ∧ Cond.instanceMethod yX9_init ∈ UW := ⟨rfl, UW_mem (tb1 (List.mem_of_getElem? (i := 38) rfl)) rfl⟩
theorem miX6_init : MI yX6_init cX6_init 2 none 1 := ⟨UW_mem (tb1 (List.mem_of_getElem? (i := 73) rfl)) rfl, iniX6, by decide +kernel⟩
theorem inX6_init : yX6_init.name = "<init>" ∧ Cond.instanceMethod yX6_init ∈ UW := ⟨rfl, UW_mem (tb1 (List.mem_of_getElem? (i := 72) rfl)) rfl⟩
theorem miX2_init : MI yX2_init cX2_init 1 none 0 := ⟨UW_mem (tb1 (List.mem_of_getElem? (i := 96) rfl)) rfl, iniX2, by decide +kernel⟩
theorem inX2_init : yX2_init.name = "<init>" ∧ Cond.instanceMethod yX2_init ∈ UW := ⟨rfl, UW_mem (tb1 (List.mem_of_getElem? (i := 95) rfl)) rfl⟩
theorem miX3_init : MI yX3_init cX3_init 2 none 1 := ⟨UW_mem (tb1 (List.mem_of_getElem? (i := 102) rfl)) rfl, iniX3, by decide +kernel⟩
theorem inX3_init : yX3_init.name = "<init>" ∧ Cond.instanceMethod yX3_init ∈ UW := ⟨rfl, UW_mem (tb1 (List.mem_of_getElem? (i := 101) rfl)) rfl⟩
theorem miX7_init : MI yX7_init cX7_init 2 none 1 := ⟨UW_mem (tb1 (List.mem_of_getElem? (i := 150) rfl)) rfl, iniX7, by decide +kernel⟩
theorem inX7_init : yX7_init.name = "<init>" ∧ Cond.instanceMethod yX7_init ∈ UW := ⟨rfl, UW_mem (tb1 (List.mem_of_getElem? (i := 149) rfl)) rfl⟩
theorem miX7_learn : MI yX7_learn cX7_learn 4 none 1 := ⟨UW_mem (tb1 (List.mem_of_getElem? (i := 155) rfl)) rfl, iniX7, by decide +kernel⟩
theorem inX7_learn : Cond.instanceMethod yX7_learn ∈ UW ∧ Cond.selects yX7_learn.cls yX7_learn yX7_learn ∈ UW := ⟨UW_mem (tb1 (List.mem_of_getElem? (i := 153) rfl)) rfl, UW_mem (tb1 (List.mem_of_getElem? (i := 154) rfl)) rfl⟩
theorem miX2_size : MI yX2_size cX2_size 1 (some .int) 0 := ⟨UW_mem (tb1 (List.mem_of_getElem? (i := 159) rfl)) rfl, iniX2, by decide +kernel⟩
theorem inX2_size : Cond.instanceMethod yX2_size ∈ UW ∧ Cond.selects yX2_size.cls yX2_size yX2_size ∈ UW := ⟨UW_mem (tb1 (List.mem_of_getElem? (i := 157) rfl)) rfl, UW_mem (tb1 (List.mem_of_getElem? (i := 158) rfl)) rfl⟩
theorem miX2_hasSide : MI yX2_hasSide cX2_hasSide 3 (some .boolean) 1 := ⟨UW_mem (tb1 (List.mem_of_getElem? (i := 163) rfl)) rfl, iniX2, by decide +kernel⟩
theorem inX2_hasSide : Cond.instanceMethod yX2_hasSide ∈ UW ∧ Cond.selects yX2_hasSide.cls yX2_hasSide yX2_hasSide ∈ UW := ⟨UW_mem (tb1 (List.mem_of_getElem? (i := 161) rfl)) rfl, UW_mem (tb1 (List.mem_of_getElem? (i := 162) rfl)) rfl⟩
theorem miX2_kindOf : MI yX2_kindOf cX2_kindOf 2 (some .int) 1 := ⟨UW_mem (tb1 (List.mem_of_getElem? (i := 167) rfl)) rfl, iniX2, by decide +kernel⟩
theorem inX2_kindOf : Cond.instanceMethod yX2_kindOf ∈ UW ∧ Cond.selects yX2_kindOf.cls yX2_kindOf yX2_kindOf ∈ UW := ⟨UW_mem (tb1 (List.mem_of_getElem? (i := 165) rfl)) rfl, UW_mem (tb1 (List.mem_of_getElem? (i := 166) rfl)) rfl⟩
theorem miX11_at : MI yX11_at cX11_at 2 (some .int) 2 := ⟨UW_mem (tb1 (List.mem_of_getElem? (i := 170) rfl)) rfl, iniX11, by decide +kernel⟩
theorem stX11_at : Cond.static yX11_at ∈ UW := UW_mem (tb1 (List.mem_of_getElem? (i := 169) rfl)) rfl
theorem miX11_put : MI yX11_put cX11_put 3 none 3 := ⟨UW_mem (tb1 (List.mem_of_getElem? (i := 173) rfl)) rfl, iniX11, by decide +kernel⟩
theorem stX11_put : Cond.static yX11_put ∈ UW := UW_mem (tb1 (List.mem_of_getElem? (i := 172) rfl)) rfl
theorem miX7_learnOrder : MI yX7_learnOrder cX7_learnOrder 8 none 1 := ⟨UW_mem (tb1 (List.mem_of_getElem? (i := 180) rfl)) rfl, iniX7, by decide +kernel⟩
theorem inX7_learnOrder : Cond.instanceMethod yX7_learnOrder ∈ UW ∧ Cond.selects yX7_learnOrder.cls yX7_learnOrder yX7_learnOrder ∈ UW := ⟨UW_mem (tb1 (List.mem_of_getElem? (i := 179) rfl)) rfl, UW_at 0 (by decide +kernel) rfl⟩
theorem miX7_cakeBehind : MI yX7_cakeBehind cX7_cakeBehind 6 (some .int) 2 := ⟨UW_mem (tb1 (List.mem_of_getElem? (i := 184) rfl)) rfl, iniX7, by decide +kernel⟩
theorem inX7_cakeBehind : Cond.instanceMethod yX7_cakeBehind ∈ UW ∧ Cond.selects yX7_cakeBehind.cls yX7_cakeBehind yX7_cakeBehind ∈ UW := ⟨UW_mem (tb1 (List.mem_of_getElem? (i := 183) rfl)) rfl, UW_at 1 (by decide +kernel) rfl⟩
theorem miX7_learnTurn : MI yX7_learnTurn cX7_learnTurn 8 none 2 := ⟨UW_mem (tb1 (List.mem_of_getElem? (i := 188) rfl)) rfl, iniX7, by decide +kernel⟩
theorem inX7_learnTurn : Cond.instanceMethod yX7_learnTurn ∈ UW ∧ Cond.selects yX7_learnTurn.cls yX7_learnTurn yX7_learnTurn ∈ UW := ⟨UW_mem (tb1 (List.mem_of_getElem? (i := 187) rfl)) rfl, UW_at 2 (by decide +kernel) rfl⟩
theorem miX7_orderOf : MI yX7_orderOf cX7_orderOf 6 (some .int) 1 := ⟨UW_mem (tb1 (List.mem_of_getElem? (i := 192) rfl)) rfl, iniX7, by decide +kernel⟩
theorem inX7_orderOf : Cond.instanceMethod yX7_orderOf ∈ UW ∧ Cond.selects yX7_orderOf.cls yX7_orderOf yX7_orderOf ∈ UW := ⟨UW_mem (tb1 (List.mem_of_getElem? (i := 191) rfl)) rfl, UW_at 3 (by decide +kernel) rfl⟩
theorem miX7_learnLaws : MI yX7_learnLaws cX7_learnLaws 7 none 1 := ⟨UW_mem (tb1 (List.mem_of_getElem? (i := 197) rfl)) rfl, iniX7, by decide +kernel⟩
theorem inX7_learnLaws : Cond.instanceMethod yX7_learnLaws ∈ UW ∧ Cond.selects yX7_learnLaws.cls yX7_learnLaws yX7_learnLaws ∈ UW := ⟨UW_mem (tb1 (List.mem_of_getElem? (i := 196) rfl)) rfl, UW_at 4 (by decide +kernel) rfl⟩
theorem miJ6_bitCount_0f7a4 : MI yJ6_bitCount_0f7a4 cJ6_bitCount_0f7a4 1 (some .int) 1 := ⟨UW_mem (tb1 (List.mem_of_getElem? (i := 200) rfl)) rfl, iniJ6, by decide +kernel⟩
theorem stJ6_bitCount_0f7a4 : Cond.static yJ6_bitCount_0f7a4 ∈ UW := UW_mem (tb1 (List.mem_of_getElem? (i := 199) rfl)) rfl
theorem miX2_weightOf : MI yX2_weightOf cX2_weightOf 2 (some .int) 1 := ⟨UW_mem (tb1 (List.mem_of_getElem? (i := 207) rfl)) rfl, iniX2, by decide +kernel⟩
theorem inX2_weightOf : Cond.instanceMethod yX2_weightOf ∈ UW ∧ Cond.selects yX2_weightOf.cls yX2_weightOf yX2_weightOf ∈ UW := ⟨UW_mem (tb1 (List.mem_of_getElem? (i := 205) rfl)) rfl, UW_mem (tb1 (List.mem_of_getElem? (i := 206) rfl)) rfl⟩
theorem miX2_widthOf : MI yX2_widthOf cX2_widthOf 2 (some .int) 1 := ⟨UW_mem (tb1 (List.mem_of_getElem? (i := 211) rfl)) rfl, iniX2, by decide +kernel⟩
theorem inX2_widthOf : Cond.instanceMethod yX2_widthOf ∈ UW ∧ Cond.selects yX2_widthOf.cls yX2_widthOf yX2_widthOf ∈ UW := ⟨UW_mem (tb1 (List.mem_of_getElem? (i := 209) rfl)) rfl, UW_mem (tb1 (List.mem_of_getElem? (i := 210) rfl)) rfl⟩
theorem miX2_costs : MI yX2_costs cX2_costs 1 (some (.object "HotCakes$Law")) 0 := ⟨UW_mem (tb1 (List.mem_of_getElem? (i := 215) rfl)) rfl, iniX2, by decide +kernel⟩
theorem inX2_costs : Cond.instanceMethod yX2_costs ∈ UW ∧ Cond.selects yX2_costs.cls yX2_costs yX2_costs ∈ UW := ⟨UW_mem (tb1 (List.mem_of_getElem? (i := 213) rfl)) rfl, UW_mem (tb1 (List.mem_of_getElem? (i := 214) rfl)) rfl⟩
theorem miX3_value : MI yX3_value cX3_value 8 (some .int) 4 := ⟨UW_mem (tb1 (List.mem_of_getElem? (i := 219) rfl)) rfl, iniX3, by decide +kernel⟩
theorem inX3_value : Cond.instanceMethod yX3_value ∈ UW ∧ Cond.selects yX3_value.cls yX3_value yX3_value ∈ UW := ⟨UW_mem (tb1 (List.mem_of_getElem? (i := 217) rfl)) rfl, UW_mem (tb1 (List.mem_of_getElem? (i := 218) rfl)) rfl⟩
theorem miX3_push : MI yX3_push cX3_push 2 none 1 := ⟨UW_mem (tb1 (List.mem_of_getElem? (i := 224) rfl)) rfl, iniX3, by decide +kernel⟩
theorem inX3_push : Cond.instanceMethod yX3_push ∈ UW ∧ Cond.selects yX3_push.cls yX3_push yX3_push ∈ UW := ⟨UW_mem (tb1 (List.mem_of_getElem? (i := 223) rfl)) rfl, UW_at 5 (by decide +kernel) rfl⟩
theorem miX3_pop : MI yX3_pop cX3_pop 1 (some .int) 0 := ⟨UW_mem (tb1 (List.mem_of_getElem? (i := 229) rfl)) rfl, iniX3, by decide +kernel⟩
theorem inX3_pop : Cond.instanceMethod yX3_pop ∈ UW ∧ Cond.selects yX3_pop.cls yX3_pop yX3_pop ∈ UW := ⟨UW_mem (tb1 (List.mem_of_getElem? (i := 228) rfl)) rfl, UW_at 6 (by decide +kernel) rfl⟩
theorem miX3_joined : MI yX3_joined cX3_joined 3 (some .int) 3 := ⟨UW_mem (tb1 (List.mem_of_getElem? (i := 232) rfl)) rfl, iniX3, by decide +kernel⟩
theorem stX3_joined : Cond.static yX3_joined ∈ UW := UW_mem (tb1 (List.mem_of_getElem? (i := 231) rfl)) rfl
theorem miX2_bars : MI yX2_bars cX2_bars 1 (some (.object "HotCakes$Law")) 0 := ⟨UW_mem (tb1 (List.mem_of_getElem? (i := 236) rfl)) rfl, iniX2, by decide +kernel⟩
theorem inX2_bars : Cond.instanceMethod yX2_bars ∈ UW ∧ Cond.selects yX2_bars.cls yX2_bars yX2_bars ∈ UW := ⟨UW_mem (tb1 (List.mem_of_getElem? (i := 234) rfl)) rfl, UW_mem (tb1 (List.mem_of_getElem? (i := 235) rfl)) rfl⟩
theorem miJ9_min_7cf53 : MI yJ9_min_7cf53 cJ9_min_7cf53 2 (some .int) 2 := ⟨UW_mem (tb1 (List.mem_of_getElem? (i := 239) rfl)) rfl, iniJ9, by decide +kernel⟩
theorem stJ9_min_7cf53 : Cond.static yJ9_min_7cf53 ∈ UW := UW_mem (tb1 (List.mem_of_getElem? (i := 238) rfl)) rfl
theorem miJ9_max_7cf53 : MI yJ9_max_7cf53 cJ9_max_7cf53 2 (some .int) 2 := ⟨UW_mem (tb2 (List.mem_of_getElem? (i := 2) rfl)) rfl, iniJ9, by decide +kernel⟩
theorem stJ9_max_7cf53 : Cond.static yJ9_max_7cf53 ∈ UW := UW_mem (tb2 (List.mem_of_getElem? (i := 1) rfl)) rfl
theorem miX2_rankOf : MI yX2_rankOf cX2_rankOf 4 (some .int) 1 := ⟨UW_mem (tb2 (List.mem_of_getElem? (i := 6) rfl)) rfl, iniX2, by decide +kernel⟩
theorem inX2_rankOf : Cond.instanceMethod yX2_rankOf ∈ UW ∧ Cond.selects yX2_rankOf.cls yX2_rankOf yX2_rankOf ∈ UW := ⟨UW_mem (tb2 (List.mem_of_getElem? (i := 4) rfl)) rfl, UW_mem (tb2 (List.mem_of_getElem? (i := 5) rfl)) rfl⟩
theorem miX7_stackOf : MI yX7_stackOf cX7_stackOf 5 (some .int) 2 := ⟨UW_mem (tb2 (List.mem_of_getElem? (i := 10) rfl)) rfl, iniX7, by decide +kernel⟩
theorem inX7_stackOf : Cond.instanceMethod yX7_stackOf ∈ UW ∧ Cond.selects yX7_stackOf.cls yX7_stackOf yX7_stackOf ∈ UW := ⟨UW_mem (tb2 (List.mem_of_getElem? (i := 8) rfl)) rfl, UW_mem (tb2 (List.mem_of_getElem? (i := 9) rfl)) rfl⟩
theorem miX4_init : MI yX4_init cX4_init 1 none 0 := ⟨UW_mem (tb2 (List.mem_of_getElem? (i := 70) rfl)) rfl, iniX4, by decide +kernel⟩
theorem inX4_init : yX4_init.name = "<init>" ∧ Cond.instanceMethod yX4_init ∈ UW := ⟨rfl, UW_mem (tb2 (List.mem_of_getElem? (i := 69) rfl)) rfl⟩
theorem miX5_init : MI yX5_init cX5_init 1 none 0 := ⟨UW_mem (tb2 (List.mem_of_getElem? (i := 83) rfl)) rfl, iniX5, by decide +kernel⟩
theorem inX5_init : yX5_init.name = "<init>" ∧ Cond.instanceMethod yX5_init ∈ UW := ⟨rfl, UW_mem (tb2 (List.mem_of_getElem? (i := 82) rfl)) rfl⟩
theorem miX8_init : MI yX8_init cX8_init 4 none 3 := ⟨UW_mem (tb2 (List.mem_of_getElem? (i := 109) rfl)) rfl, iniX8, by decide +kernel⟩
theorem inX8_init : yX8_init.name = "<init>" ∧ Cond.instanceMethod yX8_init ∈ UW := ⟨rfl, UW_mem (tb2 (List.mem_of_getElem? (i := 108) rfl)) rfl⟩
theorem miX0_init : MI yX0_init cX0_init 2 none 1 := ⟨UW_mem (tb2 (List.mem_of_getElem? (i := 135) rfl)) rfl, iniX0, by decide +kernel⟩
theorem inX0_init : yX0_init.name = "<init>" ∧ Cond.instanceMethod yX0_init ∈ UW := ⟨rfl, UW_mem (tb2 (List.mem_of_getElem? (i := 134) rfl)) rfl⟩
theorem miX1_init : MI yX1_init cX1_init 2 none 1 := ⟨UW_mem (tb2 (List.mem_of_getElem? (i := 151) rfl)) rfl, iniX1, by decide +kernel⟩
theorem inX1_init : yX1_init.name = "<init>" ∧ Cond.instanceMethod yX1_init ∈ UW := ⟨rfl, UW_mem (tb2 (List.mem_of_getElem? (i := 150) rfl)) rfl⟩
theorem miX7_told : MI yX7_told cX7_told 2 (some .int) 0 := ⟨UW_mem (tb2 (List.mem_of_getElem? (i := 166) rfl)) rfl, iniX7, by decide +kernel⟩
theorem inX7_told : Cond.instanceMethod yX7_told ∈ UW ∧ Cond.selects yX7_told.cls yX7_told yX7_told ∈ UW := ⟨UW_mem (tb2 (List.mem_of_getElem? (i := 164) rfl)) rfl, UW_mem (tb2 (List.mem_of_getElem? (i := 165) rfl)) rfl⟩
theorem miX2_ups : MI yX2_ups cX2_ups 1 (some .int) 0 := ⟨UW_mem (tb2 (List.mem_of_getElem? (i := 170) rfl)) rfl, iniX2, by decide +kernel⟩
theorem inX2_ups : Cond.instanceMethod yX2_ups ∈ UW ∧ Cond.selects yX2_ups.cls yX2_ups yX2_ups ∈ UW := ⟨UW_mem (tb2 (List.mem_of_getElem? (i := 168) rfl)) rfl, UW_mem (tb2 (List.mem_of_getElem? (i := 169) rfl)) rfl⟩
theorem miX5_begin : MI yX5_begin cX5_begin 2 none 1 := ⟨UW_mem (tb2 (List.mem_of_getElem? (i := 174) rfl)) rfl, iniX5, by decide +kernel⟩
theorem inX5_begin : Cond.instanceMethod yX5_begin ∈ UW ∧ Cond.selects yX5_begin.cls yX5_begin yX5_begin ∈ UW := ⟨UW_mem (tb2 (List.mem_of_getElem? (i := 172) rfl)) rfl, UW_mem (tb2 (List.mem_of_getElem? (i := 173) rfl)) rfl⟩
theorem miX11_feed : MI yX11_feed cX11_feed 7 (some .int) 3 := ⟨UW_mem (tb2 (List.mem_of_getElem? (i := 233) rfl)) rfl, iniX11, by decide +kernel⟩
theorem inX11_feed : Cond.instanceMethod yX11_feed ∈ UW ∧ Cond.selects yX11_feed.cls yX11_feed yX11_feed ∈ UW := ⟨UW_mem (tb2 (List.mem_of_getElem? (i := 231) rfl)) rfl, UW_mem (tb2 (List.mem_of_getElem? (i := 232) rfl)) rfl⟩
theorem miX9_addBytes : MI yX9_addBytes cX9_addBytes 4 none 1 := ⟨UW_mem (tb2 (List.mem_of_getElem? (i := 237) rfl)) rfl, iniX9, by decide +kernel⟩
theorem inX9_addBytes : Cond.instanceMethod yX9_addBytes ∈ UW ∧ Cond.selects yX9_addBytes.cls yX9_addBytes yX9_addBytes ∈ UW := ⟨UW_mem (tb2 (List.mem_of_getElem? (i := 235) rfl)) rfl, UW_mem (tb2 (List.mem_of_getElem? (i := 236) rfl)) rfl⟩
theorem miX9_addSign : MI yX9_addSign cX9_addSign 3 none 1 := ⟨UW_mem (tb3 (List.mem_of_getElem? (i := 2) rfl)) rfl, iniX9, by decide +kernel⟩
theorem inX9_addSign : Cond.instanceMethod yX9_addSign ∈ UW ∧ Cond.selects yX9_addSign.cls yX9_addSign yX9_addSign ∈ UW := ⟨UW_mem (tb3 (List.mem_of_getElem? (i := 1) rfl)) rfl, UW_at 7 (by decide +kernel) rfl⟩
theorem miX9_signs : MI yX9_signs cX9_signs 1 (some .int) 0 := ⟨UW_mem (tb3 (List.mem_of_getElem? (i := 6) rfl)) rfl, iniX9, by decide +kernel⟩
theorem inX9_signs : Cond.instanceMethod yX9_signs ∈ UW ∧ Cond.selects yX9_signs.cls yX9_signs yX9_signs ∈ UW := ⟨UW_mem (tb3 (List.mem_of_getElem? (i := 4) rfl)) rfl, UW_mem (tb3 (List.mem_of_getElem? (i := 5) rfl)) rfl⟩
theorem miX11_griddle : MI yX11_griddle cX11_griddle 3 (some .int) 0 := ⟨UW_mem (tb3 (List.mem_of_getElem? (i := 10) rfl)) rfl, iniX11, by decide +kernel⟩
theorem inX11_griddle : Cond.instanceMethod yX11_griddle ∈ UW ∧ Cond.selects yX11_griddle.cls yX11_griddle yX11_griddle ∈ UW := ⟨UW_mem (tb3 (List.mem_of_getElem? (i := 8) rfl)) rfl, UW_mem (tb3 (List.mem_of_getElem? (i := 9) rfl)) rfl⟩
theorem miX6_readGriddle : MI yX6_readGriddle cX6_readGriddle 3 (some .int) 1 := ⟨UW_mem (tb3 (List.mem_of_getElem? (i := 14) rfl)) rfl, iniX6, by decide +kernel⟩
theorem inX6_readGriddle : Cond.instanceMethod yX6_readGriddle ∈ UW ∧ Cond.selects yX6_readGriddle.cls yX6_readGriddle yX6_readGriddle ∈ UW := ⟨UW_mem (tb3 (List.mem_of_getElem? (i := 12) rfl)) rfl, UW_mem (tb3 (List.mem_of_getElem? (i := 13) rfl)) rfl⟩
theorem miX2_clear : MI yX2_clear cX2_clear 1 none 0 := ⟨UW_mem (tb3 (List.mem_of_getElem? (i := 18) rfl)) rfl, iniX2, by decide +kernel⟩
theorem inX2_clear : Cond.instanceMethod yX2_clear ∈ UW ∧ Cond.selects yX2_clear.cls yX2_clear yX2_clear ∈ UW := ⟨UW_mem (tb3 (List.mem_of_getElem? (i := 16) rfl)) rfl, UW_mem (tb3 (List.mem_of_getElem? (i := 17) rfl)) rfl⟩
theorem miX3_clear : MI yX3_clear cX3_clear 1 none 0 := ⟨UW_mem (tb3 (List.mem_of_getElem? (i := 22) rfl)) rfl, iniX3, by decide +kernel⟩
theorem inX3_clear : Cond.instanceMethod yX3_clear ∈ UW ∧ Cond.selects yX3_clear.cls yX3_clear yX3_clear ∈ UW := ⟨UW_mem (tb3 (List.mem_of_getElem? (i := 20) rfl)) rfl, UW_mem (tb3 (List.mem_of_getElem? (i := 21) rfl)) rfl⟩
theorem miX6_begin : MI yX6_begin cX6_begin 1 none 0 := ⟨UW_mem (tb3 (List.mem_of_getElem? (i := 26) rfl)) rfl, iniX6, by decide +kernel⟩
theorem inX6_begin : Cond.instanceMethod yX6_begin ∈ UW ∧ Cond.selects yX6_begin.cls yX6_begin yX6_begin ∈ UW := ⟨UW_mem (tb3 (List.mem_of_getElem? (i := 25) rfl)) rfl, UW_at 8 (by decide +kernel) rfl⟩
theorem miX9_rewind : MI yX9_rewind cX9_rewind 1 none 0 := ⟨UW_mem (tb3 (List.mem_of_getElem? (i := 30) rfl)) rfl, iniX9, by decide +kernel⟩
theorem inX9_rewind : Cond.instanceMethod yX9_rewind ∈ UW ∧ Cond.selects yX9_rewind.cls yX9_rewind yX9_rewind ∈ UW := ⟨UW_mem (tb3 (List.mem_of_getElem? (i := 28) rfl)) rfl, UW_mem (tb3 (List.mem_of_getElem? (i := 29) rfl)) rfl⟩
theorem miX9_step : MI yX9_step cX9_step 2 none 0 := ⟨UW_mem (tb3 (List.mem_of_getElem? (i := 34) rfl)) rfl, iniX9, by decide +kernel⟩
theorem inX9_step : Cond.instanceMethod yX9_step ∈ UW ∧ Cond.selects yX9_step.cls yX9_step yX9_step ∈ UW := ⟨UW_mem (tb3 (List.mem_of_getElem? (i := 32) rfl)) rfl, UW_mem (tb3 (List.mem_of_getElem? (i := 33) rfl)) rfl⟩
theorem miX9_signAt : MI yX9_signAt cX9_signAt 2 (some .char) 1 := ⟨UW_mem (tb3 (List.mem_of_getElem? (i := 38) rfl)) rfl, iniX9, by decide +kernel⟩
theorem inX9_signAt : Cond.instanceMethod yX9_signAt ∈ UW ∧ Cond.selects yX9_signAt.cls yX9_signAt yX9_signAt ∈ UW := ⟨UW_mem (tb3 (List.mem_of_getElem? (i := 37) rfl)) rfl, UW_at 9 (by decide +kernel) rfl⟩
theorem miX9_isBlank : MI yX9_isBlank cX9_isBlank 1 (some .boolean) 1 := ⟨UW_mem (tb3 (List.mem_of_getElem? (i := 41) rfl)) rfl, iniX9, by decide +kernel⟩
theorem stX9_isBlank : Cond.static yX9_isBlank ∈ UW := UW_mem (tb3 (List.mem_of_getElem? (i := 40) rfl)) rfl
theorem miX9_isLetter : MI yX9_isLetter cX9_isLetter 1 (some .boolean) 1 := ⟨UW_mem (tb3 (List.mem_of_getElem? (i := 44) rfl)) rfl, iniX9, by decide +kernel⟩
theorem stX9_isLetter : Cond.static yX9_isLetter ∈ UW := UW_mem (tb3 (List.mem_of_getElem? (i := 43) rfl)) rfl
theorem miX9_readWord : MI yX9_readWord cX9_readWord 2 none 0 := ⟨UW_mem (tb3 (List.mem_of_getElem? (i := 48) rfl)) rfl, iniX9, by decide +kernel⟩
theorem inX9_readWord : Cond.instanceMethod yX9_readWord ∈ UW ∧ Cond.selects yX9_readWord.cls yX9_readWord yX9_readWord ∈ UW := ⟨UW_mem (tb3 (List.mem_of_getElem? (i := 47) rfl)) rfl, UW_at 10 (by decide +kernel) rfl⟩
theorem miX10_withLetter : MI yX10_withLetter cX10_withLetter 3 (some .long) 2 := ⟨UW_mem (tb3 (List.mem_of_getElem? (i := 51) rfl)) rfl, iniX10, by decide +kernel⟩
theorem stX10_withLetter : Cond.static yX10_withLetter ∈ UW := UW_mem (tb3 (List.mem_of_getElem? (i := 50) rfl)) rfl
theorem miX10_of : MI yX10_of cX10_of 3 (some (.object "HotCakes$Word")) 1 := ⟨UW_mem (tb3 (List.mem_of_getElem? (i := 55) rfl)) rfl, iniX10, by decide +kernel⟩
theorem stX10_of : Cond.static yX10_of ∈ UW := UW_mem (tb3 (List.mem_of_getElem? (i := 54) rfl)) rfl
theorem miX9_isFigure : MI yX9_isFigure cX9_isFigure 1 (some .boolean) 1 := ⟨UW_mem (tb3 (List.mem_of_getElem? (i := 61) rfl)) rfl, iniX9, by decide +kernel⟩
theorem stX9_isFigure : Cond.static yX9_isFigure ∈ UW := UW_mem (tb3 (List.mem_of_getElem? (i := 60) rfl)) rfl
theorem miX9_readNumber : MI yX9_readNumber cX9_readNumber 1 none 0 := ⟨UW_mem (tb3 (List.mem_of_getElem? (i := 65) rfl)) rfl, iniX9, by decide +kernel⟩
theorem inX9_readNumber : Cond.instanceMethod yX9_readNumber ∈ UW ∧ Cond.selects yX9_readNumber.cls yX9_readNumber yX9_readNumber ∈ UW := ⟨UW_mem (tb3 (List.mem_of_getElem? (i := 64) rfl)) rfl, UW_at 11 (by decide +kernel) rfl⟩
theorem miJ0_indexOf_0f7a4 : MI yJ0_indexOf_0f7a4 cJ0_indexOf_0f7a4 2 (some .int) 1 := ⟨UW_mem (tb3 (List.mem_of_getElem? (i := 70) rfl)) rfl, iniJ0, by decide +kernel⟩
theorem inJ0_indexOf_0f7a4 : Cond.instanceMethod yJ0_indexOf_0f7a4 ∈ UW ∧ Cond.selects yJ0_indexOf_0f7a4.cls yJ0_indexOf_0f7a4 yJ0_indexOf_0f7a4 ∈ UW := ⟨UW_mem (tb3 (List.mem_of_getElem? (i := 68) rfl)) rfl, UW_mem (tb3 (List.mem_of_getElem? (i := 69) rfl)) rfl⟩
theorem miJ0_indexOf_7cf53 : MI yJ0_indexOf_7cf53 cJ0_indexOf_7cf53 3 (some .int) 2 := ⟨UW_mem (tb3 (List.mem_of_getElem? (i := 74) rfl)) rfl, iniJ0, by decide +kernel⟩
theorem inJ0_indexOf_7cf53 : Cond.instanceMethod yJ0_indexOf_7cf53 ∈ UW ∧ Cond.selects yJ0_indexOf_7cf53.cls yJ0_indexOf_7cf53 yJ0_indexOf_7cf53 ∈ UW := ⟨UW_mem (tb3 (List.mem_of_getElem? (i := 72) rfl)) rfl, UW_mem (tb3 (List.mem_of_getElem? (i := 73) rfl)) rfl⟩
theorem miJ0_isLatin1_aae02 : MI yJ0_isLatin1_aae02 cJ0_isLatin1_aae02 1 (some .boolean) 0 := ⟨UW_mem (tb3 (List.mem_of_getElem? (i := 78) rfl)) rfl, iniJ0, by decide +kernel⟩
theorem inJ0_isLatin1_aae02 : Cond.instanceMethod yJ0_isLatin1_aae02 ∈ UW ∧ Cond.selects yJ0_isLatin1_aae02.cls yJ0_isLatin1_aae02 yJ0_isLatin1_aae02 ∈ UW := ⟨UW_mem (tb3 (List.mem_of_getElem? (i := 76) rfl)) rfl, UW_mem (tb3 (List.mem_of_getElem? (i := 77) rfl)) rfl⟩
theorem miJ0_length_8abf5 : MI yJ0_length_8abf5 cJ0_length_8abf5 1 (some .int) 0 := ⟨UW_mem (tb3 (List.mem_of_getElem? (i := 84) rfl)) rfl, iniJ0, by decide +kernel⟩
theorem inJ0_length_8abf5 : Cond.instanceMethod yJ0_length_8abf5 ∈ UW ∧ Cond.selects yJ0_length_8abf5.cls yJ0_length_8abf5 yJ0_length_8abf5 ∈ UW := ⟨UW_mem (tb3 (List.mem_of_getElem? (i := 82) rfl)) rfl, UW_mem (tb3 (List.mem_of_getElem? (i := 83) rfl)) rfl⟩
theorem miJ0_coder_7d493 : MI yJ0_coder_7d493 cJ0_coder_7d493 1 (some .byte) 0 := ⟨UW_mem (tb3 (List.mem_of_getElem? (i := 88) rfl)) rfl, iniJ0, by decide +kernel⟩
theorem inJ0_coder_7d493 : Cond.instanceMethod yJ0_coder_7d493 ∈ UW ∧ Cond.selects yJ0_coder_7d493.cls yJ0_coder_7d493 yJ0_coder_7d493 ∈ UW := ⟨UW_mem (tb3 (List.mem_of_getElem? (i := 86) rfl)) rfl, UW_mem (tb3 (List.mem_of_getElem? (i := 87) rfl)) rfl⟩
theorem miJ1_indexOf_4cfef : MI yJ1_indexOf_4cfef cJ1_indexOf_4cfef 4 (some .int) 4 := ⟨UW_mem (tb3 (List.mem_of_getElem? (i := 91) rfl)) rfl, iniJ1, by decide +kernel⟩
theorem stJ1_indexOf_4cfef : Cond.static yJ1_indexOf_4cfef ∈ UW := UW_mem (tb3 (List.mem_of_getElem? (i := 90) rfl)) rfl
theorem miJ1_canEncode_9a6ad : MI yJ1_canEncode_9a6ad cJ1_canEncode_9a6ad 1 (some .boolean) 1 := ⟨UW_mem (tb3 (List.mem_of_getElem? (i := 94) rfl)) rfl, iniJ1, by decide +kernel⟩
theorem stJ1_canEncode_9a6ad : Cond.static yJ1_canEncode_9a6ad ∈ UW := UW_mem (tb3 (List.mem_of_getElem? (i := 93) rfl)) rfl
theorem miJ1_indexOfChar_4cfef : MI yJ1_indexOfChar_4cfef cJ1_indexOfChar_4cfef 6 (some .int) 4 := ⟨UW_mem (tb3 (List.mem_of_getElem? (i := 99) rfl)) rfl, iniJ1, by decide +kernel⟩
theorem stJ1_indexOfChar_4cfef : Cond.static yJ1_indexOfChar_4cfef ∈ UW := UW_mem (tb3 (List.mem_of_getElem? (i := 98) rfl)) rfl
theorem miJ2_indexOf_4cfef : MI yJ2_indexOf_4cfef cJ2_indexOf_4cfef 4 (some .int) 4 := ⟨UW_mem (tb3 (List.mem_of_getElem? (i := 102) rfl)) rfl, iniJ2, by decide +kernel⟩
theorem stJ2_indexOf_4cfef : Cond.static yJ2_indexOf_4cfef ∈ UW := UW_mem (tb3 (List.mem_of_getElem? (i := 101) rfl)) rfl
theorem miJ2_indexOfChar_4cfef : MI yJ2_indexOfChar_4cfef cJ2_indexOfChar_4cfef 4 (some .int) 4 := ⟨UW_mem (tb3 (List.mem_of_getElem? (i := 108) rfl)) rfl, iniJ2, by decide +kernel⟩
theorem stJ2_indexOfChar_4cfef : Cond.static yJ2_indexOfChar_4cfef ∈ UW := UW_mem (tb3 (List.mem_of_getElem? (i := 107) rfl)) rfl
theorem miJ2_checkBoundsBeginEnd_d044e : MI yJ2_checkBoundsBeginEnd_d044e cJ2_checkBoundsBeginEnd_d044e 3 none 3 := ⟨UW_mem (tb3 (List.mem_of_getElem? (i := 111) rfl)) rfl, iniJ2, by decide +kernel⟩
theorem stJ2_checkBoundsBeginEnd_d044e : Cond.static yJ2_checkBoundsBeginEnd_d044e ∈ UW := UW_mem (tb3 (List.mem_of_getElem? (i := 110) rfl)) rfl
theorem miJ2_length_9d52b : MI yJ2_length_9d52b cJ2_length_9d52b 1 (some .int) 1 := ⟨UW_mem (tb3 (List.mem_of_getElem? (i := 114) rfl)) rfl, iniJ2, by decide +kernel⟩
theorem stJ2_length_9d52b : Cond.static yJ2_length_9d52b ∈ UW := UW_mem (tb3 (List.mem_of_getElem? (i := 113) rfl)) rfl
theorem miJ0_checkBoundsBeginEnd_23922 : MI yJ0_checkBoundsBeginEnd_23922 cJ0_checkBoundsBeginEnd_23922 3 none 3 := ⟨UW_mem (tb3 (List.mem_of_getElem? (i := 117) rfl)) rfl, iniJ0, by decide +kernel⟩
theorem stJ0_checkBoundsBeginEnd_23922 : Cond.static yJ0_checkBoundsBeginEnd_23922 ∈ UW := UW_mem (tb3 (List.mem_of_getElem? (i := 116) rfl)) rfl
theorem miJ3_checkFromToIndex_8c36e : MI yJ3_checkFromToIndex_8c36e cJ3_checkFromToIndex_8c36e 4 (some .int) 4 := ⟨UW_mem (tb3 (List.mem_of_getElem? (i := 122) rfl)) rfl, iniJ3, by decide +kernel⟩
theorem stJ3_checkFromToIndex_8c36e : Cond.static yJ3_checkFromToIndex_8c36e ∈ UW := UW_mem (tb3 (List.mem_of_getElem? (i := 121) rfl)) rfl
theorem miJ2_indexOfCharUnsafe_4cfef : MI yJ2_indexOfCharUnsafe_4cfef cJ2_indexOfCharUnsafe_4cfef 5 (some .int) 4 := ⟨UW_mem (tb3 (List.mem_of_getElem? (i := 125) rfl)) rfl, iniJ2, by decide +kernel⟩
theorem stJ2_indexOfCharUnsafe_4cfef : Cond.static yJ2_indexOfCharUnsafe_4cfef ∈ UW := UW_mem (tb3 (List.mem_of_getElem? (i := 124) rfl)) rfl
theorem miJ2_getChar_3b067 : MI yJ2_getChar_3b067 cJ2_getChar_3b067 2 (some .char) 2 := ⟨UW_mem (tb3 (List.mem_of_getElem? (i := 128) rfl)) rfl, iniJ2, by decide +kernel⟩
theorem stJ2_getChar_3b067 : Cond.static yJ2_getChar_3b067 ∈ UW := UW_mem (tb3 (List.mem_of_getElem? (i := 127) rfl)) rfl
theorem miJ2_indexOfSupplementary_4cfef : MI yJ2_indexOfSupplementary_4cfef cJ2_indexOfSupplementary_4cfef 7 (some .int) 4 := ⟨UW_mem (tb3 (List.mem_of_getElem? (i := 137) rfl)) rfl, iniJ2, by decide +kernel⟩
theorem stJ2_indexOfSupplementary_4cfef : Cond.static yJ2_indexOfSupplementary_4cfef ∈ UW := UW_mem (tb3 (List.mem_of_getElem? (i := 136) rfl)) rfl
theorem miJ11_isValidCodePoint_9a6ad : MI yJ11_isValidCodePoint_9a6ad cJ11_isValidCodePoint_9a6ad 2 (some .boolean) 1 := ⟨UW_mem (tb3 (List.mem_of_getElem? (i := 140) rfl)) rfl, iniJ11, by decide +kernel⟩
theorem stJ11_isValidCodePoint_9a6ad : Cond.static yJ11_isValidCodePoint_9a6ad ∈ UW := UW_mem (tb3 (List.mem_of_getElem? (i := 139) rfl)) rfl
theorem miJ11_highSurrogate_5068e : MI yJ11_highSurrogate_5068e cJ11_highSurrogate_5068e 1 (some .char) 1 := ⟨UW_mem (tb3 (List.mem_of_getElem? (i := 143) rfl)) rfl, iniJ11, by decide +kernel⟩
theorem stJ11_highSurrogate_5068e : Cond.static yJ11_highSurrogate_5068e ∈ UW := UW_mem (tb3 (List.mem_of_getElem? (i := 142) rfl)) rfl
theorem miJ11_lowSurrogate_5068e : MI yJ11_lowSurrogate_5068e cJ11_lowSurrogate_5068e 1 (some .char) 1 := ⟨UW_mem (tb3 (List.mem_of_getElem? (i := 147) rfl)) rfl, iniJ11, by decide +kernel⟩
theorem stJ11_lowSurrogate_5068e : Cond.static yJ11_lowSurrogate_5068e ∈ UW := UW_mem (tb3 (List.mem_of_getElem? (i := 146) rfl)) rfl
theorem miX9_is : MI yX9_is cX9_is 2 (some .boolean) 1 := ⟨UW_mem (tb3 (List.mem_of_getElem? (i := 152) rfl)) rfl, iniX9, by decide +kernel⟩
theorem inX9_is : Cond.instanceMethod yX9_is ∈ UW ∧ Cond.selects yX9_is.cls yX9_is yX9_is ∈ UW := ⟨UW_mem (tb3 (List.mem_of_getElem? (i := 150) rfl)) rfl, UW_mem (tb3 (List.mem_of_getElem? (i := 151) rfl)) rfl⟩
theorem miX9_isWord : MI yX9_isWord cX9_isWord 2 (some .boolean) 1 := ⟨UW_mem (tb3 (List.mem_of_getElem? (i := 158) rfl)) rfl, iniX9, by decide +kernel⟩
theorem inX9_isWord : Cond.instanceMethod yX9_isWord ∈ UW ∧ Cond.selects yX9_isWord.cls yX9_isWord yX9_isWord ∈ UW := ⟨UW_mem (tb3 (List.mem_of_getElem? (i := 156) rfl)) rfl, UW_mem (tb3 (List.mem_of_getElem? (i := 157) rfl)) rfl⟩
theorem miX6_readCake : MI yX6_readCake cX6_readCake 6 (some .boolean) 1 := ⟨UW_mem (tb3 (List.mem_of_getElem? (i := 162) rfl)) rfl, iniX6, by decide +kernel⟩
theorem inX6_readCake : Cond.instanceMethod yX6_readCake ∈ UW ∧ Cond.selects yX6_readCake.cls yX6_readCake yX6_readCake ∈ UW := ⟨UW_mem (tb3 (List.mem_of_getElem? (i := 161) rfl)) rfl, UW_at 12 (by decide +kernel) rfl⟩
theorem miX6_wrong : MI yX6_wrong cX6_wrong 2 (some .boolean) 1 := ⟨UW_mem (tb3 (List.mem_of_getElem? (i := 167) rfl)) rfl, iniX6, by decide +kernel⟩
theorem inX6_wrong : Cond.instanceMethod yX6_wrong ∈ UW ∧ Cond.selects yX6_wrong.cls yX6_wrong yX6_wrong ∈ UW := ⟨UW_mem (tb3 (List.mem_of_getElem? (i := 166) rfl)) rfl, UW_at 13 (by decide +kernel) rfl⟩
theorem miX9_place : MI yX9_place cX9_place 1 (some .int) 0 := ⟨UW_mem (tb3 (List.mem_of_getElem? (i := 171) rfl)) rfl, iniX9, by decide +kernel⟩
theorem inX9_place : Cond.instanceMethod yX9_place ∈ UW ∧ Cond.selects yX9_place.cls yX9_place yX9_place ∈ UW := ⟨UW_mem (tb3 (List.mem_of_getElem? (i := 169) rfl)) rfl, UW_mem (tb3 (List.mem_of_getElem? (i := 170) rfl)) rfl⟩
theorem miX9_isName : MI yX9_isName cX9_isName 1 (some .boolean) 0 := ⟨UW_mem (tb3 (List.mem_of_getElem? (i := 176) rfl)) rfl, iniX9, by decide +kernel⟩
theorem inX9_isName : Cond.instanceMethod yX9_isName ∈ UW ∧ Cond.selects yX9_isName.cls yX9_isName yX9_isName ∈ UW := ⟨UW_mem (tb3 (List.mem_of_getElem? (i := 174) rfl)) rfl, UW_mem (tb3 (List.mem_of_getElem? (i := 175) rfl)) rfl⟩
theorem miX10_mayBeName : MI yX10_mayBeName cX10_mayBeName 1 (some .boolean) 0 := ⟨UW_mem (tb3 (List.mem_of_getElem? (i := 180) rfl)) rfl, iniX10, by decide +kernel⟩
theorem inX10_mayBeName : Cond.instanceMethod yX10_mayBeName ∈ UW ∧ Cond.selects yX10_mayBeName.cls yX10_mayBeName yX10_mayBeName ∈ UW := ⟨UW_mem (tb3 (List.mem_of_getElem? (i := 178) rfl)) rfl, UW_mem (tb3 (List.mem_of_getElem? (i := 179) rfl)) rfl⟩
theorem miX9_letters : MI yX9_letters cX9_letters 1 (some .long) 0 := ⟨UW_mem (tb3 (List.mem_of_getElem? (i := 184) rfl)) rfl, iniX9, by decide +kernel⟩
theorem inX9_letters : Cond.instanceMethod yX9_letters ∈ UW ∧ Cond.selects yX9_letters.cls yX9_letters yX9_letters ∈ UW := ⟨UW_mem (tb3 (List.mem_of_getElem? (i := 182) rfl)) rfl, UW_mem (tb3 (List.mem_of_getElem? (i := 183) rfl)) rfl⟩
theorem miX2_find : MI yX2_find cX2_find 4 (some .int) 1 := ⟨UW_mem (tb3 (List.mem_of_getElem? (i := 188) rfl)) rfl, iniX2, by decide +kernel⟩
theorem inX2_find : Cond.instanceMethod yX2_find ∈ UW ∧ Cond.selects yX2_find.cls yX2_find yX2_find ∈ UW := ⟨UW_mem (tb3 (List.mem_of_getElem? (i := 186) rfl)) rfl, UW_mem (tb3 (List.mem_of_getElem? (i := 187) rfl)) rfl⟩
theorem miX9_word : MI yX9_word cX9_word 1 (some (.object "HotCakes$Word")) 0 := ⟨UW_mem (tb3 (List.mem_of_getElem? (i := 192) rfl)) rfl, iniX9, by decide +kernel⟩
theorem inX9_word : Cond.instanceMethod yX9_word ∈ UW ∧ Cond.selects yX9_word.cls yX9_word yX9_word ∈ UW := ⟨UW_mem (tb3 (List.mem_of_getElem? (i := 190) rfl)) rfl, UW_mem (tb3 (List.mem_of_getElem? (i := 191) rfl)) rfl⟩
theorem miX10_isKind : MI yX10_isKind cX10_isKind 1 (some .boolean) 0 := ⟨UW_mem (tb3 (List.mem_of_getElem? (i := 196) rfl)) rfl, iniX10, by decide +kernel⟩
theorem inX10_isKind : Cond.instanceMethod yX10_isKind ∈ UW ∧ Cond.selects yX10_isKind.cls yX10_isKind yX10_isKind ∈ UW := ⟨UW_mem (tb3 (List.mem_of_getElem? (i := 194) rfl)) rfl, UW_mem (tb3 (List.mem_of_getElem? (i := 195) rfl)) rfl⟩
theorem miX10_sense : MI yX10_sense cX10_sense 1 (some .int) 0 := ⟨UW_mem (tb3 (List.mem_of_getElem? (i := 208) rfl)) rfl, iniX10, by decide +kernel⟩
theorem inX10_sense : Cond.instanceMethod yX10_sense ∈ UW ∧ Cond.selects yX10_sense.cls yX10_sense yX10_sense ∈ UW := ⟨UW_mem (tb3 (List.mem_of_getElem? (i := 206) rfl)) rfl, UW_mem (tb3 (List.mem_of_getElem? (i := 207) rfl)) rfl⟩
theorem miX6_readWidth : MI yX6_readWidth cX6_readWidth 2 (some .boolean) 1 := ⟨UW_mem (tb3 (List.mem_of_getElem? (i := 212) rfl)) rfl, iniX6, by decide +kernel⟩
theorem inX6_readWidth : Cond.instanceMethod yX6_readWidth ∈ UW ∧ Cond.selects yX6_readWidth.cls yX6_readWidth yX6_readWidth ∈ UW := ⟨UW_mem (tb3 (List.mem_of_getElem? (i := 211) rfl)) rfl, UW_at 14 (by decide +kernel) rfl⟩
theorem miX9_number : MI yX9_number cX9_number 1 (some .int) 0 := ⟨UW_mem (tb3 (List.mem_of_getElem? (i := 218) rfl)) rfl, iniX9, by decide +kernel⟩
theorem inX9_number : Cond.instanceMethod yX9_number ∈ UW ∧ Cond.selects yX9_number.cls yX9_number yX9_number ∈ UW := ⟨UW_mem (tb3 (List.mem_of_getElem? (i := 216) rfl)) rfl, UW_mem (tb3 (List.mem_of_getElem? (i := 217) rfl)) rfl⟩
theorem miX2_hasWidth : MI yX2_hasWidth cX2_hasWidth 3 (some .boolean) 1 := ⟨UW_mem (tb3 (List.mem_of_getElem? (i := 222) rfl)) rfl, iniX2, by decide +kernel⟩
theorem inX2_hasWidth : Cond.instanceMethod yX2_hasWidth ∈ UW ∧ Cond.selects yX2_hasWidth.cls yX2_hasWidth yX2_hasWidth ∈ UW := ⟨UW_mem (tb3 (List.mem_of_getElem? (i := 220) rfl)) rfl, UW_mem (tb3 (List.mem_of_getElem? (i := 221) rfl)) rfl⟩
theorem miX10_isLie : MI yX10_isLie cX10_isLie 1 (some .boolean) 0 := ⟨UW_mem (tb3 (List.mem_of_getElem? (i := 226) rfl)) rfl, iniX10, by decide +kernel⟩
theorem inX10_isLie : Cond.instanceMethod yX10_isLie ∈ UW ∧ Cond.selects yX10_isLie.cls yX10_isLie yX10_isLie ∈ UW := ⟨UW_mem (tb3 (List.mem_of_getElem? (i := 224) rfl)) rfl, UW_mem (tb3 (List.mem_of_getElem? (i := 225) rfl)) rfl⟩
theorem miX2_add : MI yX2_add cX2_add 6 none 4 := ⟨UW_mem (tb3 (List.mem_of_getElem? (i := 235) rfl)) rfl, iniX2, by decide +kernel⟩
theorem inX2_add : Cond.instanceMethod yX2_add ∈ UW ∧ Cond.selects yX2_add.cls yX2_add yX2_add ∈ UW := ⟨UW_mem (tb3 (List.mem_of_getElem? (i := 233) rfl)) rfl, UW_mem (tb3 (List.mem_of_getElem? (i := 234) rfl)) rfl⟩
theorem miX6_skipSign : MI yX6_skipSign cX6_skipSign 2 (some .boolean) 1 := ⟨UW_mem (tb4 (List.mem_of_getElem? (i := 0) rfl)) rfl, iniX6, by decide +kernel⟩
theorem inX6_skipSign : Cond.instanceMethod yX6_skipSign ∈ UW ∧ Cond.selects yX6_skipSign.cls yX6_skipSign yX6_skipSign ∈ UW := ⟨UW_mem (tb3 (List.mem_of_getElem? (i := 239) rfl)) rfl, UW_at 15 (by decide +kernel) rfl⟩
theorem miX6_readLaw : MI yX6_readLaw cX6_readLaw 2 (some .boolean) 1 := ⟨UW_mem (tb4 (List.mem_of_getElem? (i := 7) rfl)) rfl, iniX6, by decide +kernel⟩
theorem inX6_readLaw : Cond.instanceMethod yX6_readLaw ∈ UW ∧ Cond.selects yX6_readLaw.cls yX6_readLaw yX6_readLaw ∈ UW := ⟨UW_mem (tb4 (List.mem_of_getElem? (i := 6) rfl)) rfl, UW_at 16 (by decide +kernel) rfl⟩
theorem miX3_isTold : MI yX3_isTold cX3_isTold 1 (some .boolean) 0 := ⟨UW_mem (tb4 (List.mem_of_getElem? (i := 11) rfl)) rfl, iniX3, by decide +kernel⟩
theorem inX3_isTold : Cond.instanceMethod yX3_isTold ∈ UW ∧ Cond.selects yX3_isTold.cls yX3_isTold yX3_isTold ∈ UW := ⟨UW_mem (tb4 (List.mem_of_getElem? (i := 9) rfl)) rfl, UW_mem (tb4 (List.mem_of_getElem? (i := 10) rfl)) rfl⟩
theorem miX3_tell : MI yX3_tell cX3_tell 1 none 0 := ⟨UW_mem (tb4 (List.mem_of_getElem? (i := 15) rfl)) rfl, iniX3, by decide +kernel⟩
theorem inX3_tell : Cond.instanceMethod yX3_tell ∈ UW ∧ Cond.selects yX3_tell.cls yX3_tell yX3_tell ∈ UW := ⟨UW_mem (tb4 (List.mem_of_getElem? (i := 13) rfl)) rfl, UW_mem (tb4 (List.mem_of_getElem? (i := 14) rfl)) rfl⟩
theorem miX6_readWhole : MI yX6_readWhole cX6_readWhole 5 (some .boolean) 2 := ⟨UW_mem (tb4 (List.mem_of_getElem? (i := 19) rfl)) rfl, iniX6, by decide +kernel⟩
theorem inX6_readWhole : Cond.instanceMethod yX6_readWhole ∈ UW ∧ Cond.selects yX6_readWhole.cls yX6_readWhole yX6_readWhole ∈ UW := ⟨UW_mem (tb4 (List.mem_of_getElem? (i := 18) rfl)) rfl, UW_at 17 (by decide +kernel) rfl⟩
theorem miX6_readTest : MI yX6_readTest cX6_readTest 4 (some .boolean) 2 := ⟨UW_mem (tb4 (List.mem_of_getElem? (i := 23) rfl)) rfl, iniX6, by decide +kernel⟩
theorem inX6_readTest : Cond.instanceMethod yX6_readTest ∈ UW ∧ Cond.selects yX6_readTest.cls yX6_readTest yX6_readTest ∈ UW := ⟨UW_mem (tb4 (List.mem_of_getElem? (i := 22) rfl)) rfl, UW_at 18 (by decide +kernel) rfl⟩
theorem miX6_readSum : MI yX6_readSum cX6_readSum 5 (some .boolean) 2 := ⟨UW_mem (tb4 (List.mem_of_getElem? (i := 27) rfl)) rfl, iniX6, by decide +kernel⟩
theorem inX6_readSum : Cond.instanceMethod yX6_readSum ∈ UW ∧ Cond.selects yX6_readSum.cls yX6_readSum yX6_readSum ∈ UW := ⟨UW_mem (tb4 (List.mem_of_getElem? (i := 26) rfl)) rfl, UW_at 19 (by decide +kernel) rfl⟩
theorem miX6_readProduct : MI yX6_readProduct cX6_readProduct 4 (some .boolean) 2 := ⟨UW_mem (tb4 (List.mem_of_getElem? (i := 31) rfl)) rfl, iniX6, by decide +kernel⟩
theorem inX6_readProduct : Cond.instanceMethod yX6_readProduct ∈ UW ∧ Cond.selects yX6_readProduct.cls yX6_readProduct yX6_readProduct ∈ UW := ⟨UW_mem (tb4 (List.mem_of_getElem? (i := 30) rfl)) rfl, UW_at 20 (by decide +kernel) rfl⟩
theorem miX6_readPart : MI yX6_readPart cX6_readPart 5 (some .boolean) 2 := ⟨UW_mem (tb4 (List.mem_of_getElem? (i := 35) rfl)) rfl, iniX6, by decide +kernel⟩
theorem inX6_readPart : Cond.instanceMethod yX6_readPart ∈ UW ∧ Cond.selects yX6_readPart.cls yX6_readPart yX6_readPart ∈ UW := ⟨UW_mem (tb4 (List.mem_of_getElem? (i := 34) rfl)) rfl, UW_at 21 (by decide +kernel) rfl⟩
theorem miX10_isFact : MI yX10_isFact cX10_isFact 1 (some .boolean) 0 := ⟨UW_mem (tb4 (List.mem_of_getElem? (i := 41) rfl)) rfl, iniX10, by decide +kernel⟩
theorem inX10_isFact : Cond.instanceMethod yX10_isFact ∈ UW ∧ Cond.selects yX10_isFact.cls yX10_isFact yX10_isFact ∈ UW := ⟨UW_mem (tb4 (List.mem_of_getElem? (i := 39) rfl)) rfl, UW_mem (tb4 (List.mem_of_getElem? (i := 40) rfl)) rfl⟩
theorem miX3_add : MI yX3_add cX3_add 2 none 1 := ⟨UW_mem (tb4 (List.mem_of_getElem? (i := 53) rfl)) rfl, iniX3, by decide +kernel⟩
theorem inX3_add : Cond.instanceMethod yX3_add ∈ UW ∧ Cond.selects yX3_add.cls yX3_add yX3_add ∈ UW := ⟨UW_mem (tb4 (List.mem_of_getElem? (i := 51) rfl)) rfl, UW_mem (tb4 (List.mem_of_getElem? (i := 52) rfl)) rfl⟩
theorem miX6_finish : MI yX6_finish cX6_finish 1 (some .int) 0 := ⟨UW_mem (tb4 (List.mem_of_getElem? (i := 64) rfl)) rfl, iniX6, by decide +kernel⟩
theorem inX6_finish : Cond.instanceMethod yX6_finish ∈ UW ∧ Cond.selects yX6_finish.cls yX6_finish yX6_finish ∈ UW := ⟨UW_mem (tb4 (List.mem_of_getElem? (i := 63) rfl)) rfl, UW_at 22 (by decide +kernel) rfl⟩
theorem miX9_clear : MI yX9_clear cX9_clear 1 none 0 := ⟨UW_mem (tb4 (List.mem_of_getElem? (i := 68) rfl)) rfl, iniX9, by decide +kernel⟩
theorem inX9_clear : Cond.instanceMethod yX9_clear ∈ UW ∧ Cond.selects yX9_clear.cls yX9_clear yX9_clear ∈ UW := ⟨UW_mem (tb4 (List.mem_of_getElem? (i := 66) rfl)) rfl, UW_mem (tb4 (List.mem_of_getElem? (i := 67) rfl)) rfl⟩
theorem miX11_beginAnew : MI yX11_beginAnew cX11_beginAnew 2 none 0 := ⟨UW_mem (tb4 (List.mem_of_getElem? (i := 73) rfl)) rfl, iniX11, by decide +kernel⟩
theorem inX11_beginAnew : Cond.instanceMethod yX11_beginAnew ∈ UW ∧ Cond.selects yX11_beginAnew.cls yX11_beginAnew yX11_beginAnew ∈ UW := ⟨UW_mem (tb4 (List.mem_of_getElem? (i := 72) rfl)) rfl, UW_at 23 (by decide +kernel) rfl⟩
theorem miX4_clear : MI yX4_clear cX4_clear 1 none 0 := ⟨UW_mem (tb4 (List.mem_of_getElem? (i := 77) rfl)) rfl, iniX4, by decide +kernel⟩
theorem inX4_clear : Cond.instanceMethod yX4_clear ∈ UW ∧ Cond.selects yX4_clear.cls yX4_clear yX4_clear ∈ UW := ⟨UW_mem (tb4 (List.mem_of_getElem? (i := 75) rfl)) rfl, UW_mem (tb4 (List.mem_of_getElem? (i := 76) rfl)) rfl⟩
theorem miX5_clear : MI yX5_clear cX5_clear 1 none 0 := ⟨UW_mem (tb4 (List.mem_of_getElem? (i := 81) rfl)) rfl, iniX5, by decide +kernel⟩
theorem inX5_clear : Cond.instanceMethod yX5_clear ∈ UW ∧ Cond.selects yX5_clear.cls yX5_clear yX5_clear ∈ UW := ⟨UW_mem (tb4 (List.mem_of_getElem? (i := 79) rfl)) rfl, UW_mem (tb4 (List.mem_of_getElem? (i := 80) rfl)) rfl⟩
theorem miX8_forget : MI yX8_forget cX8_forget 1 none 0 := ⟨UW_mem (tb4 (List.mem_of_getElem? (i := 85) rfl)) rfl, iniX8, by decide +kernel⟩
theorem inX8_forget : Cond.instanceMethod yX8_forget ∈ UW ∧ Cond.selects yX8_forget.cls yX8_forget yX8_forget ∈ UW := ⟨UW_mem (tb4 (List.mem_of_getElem? (i := 83) rfl)) rfl, UW_mem (tb4 (List.mem_of_getElem? (i := 84) rfl)) rfl⟩
theorem miX0_forget : MI yX0_forget cX0_forget 1 none 0 := ⟨UW_mem (tb4 (List.mem_of_getElem? (i := 89) rfl)) rfl, iniX0, by decide +kernel⟩
theorem inX0_forget : Cond.instanceMethod yX0_forget ∈ UW ∧ Cond.selects yX0_forget.cls yX0_forget yX0_forget ∈ UW := ⟨UW_mem (tb4 (List.mem_of_getElem? (i := 87) rfl)) rfl, UW_mem (tb4 (List.mem_of_getElem? (i := 88) rfl)) rfl⟩
theorem miX1_forget : MI yX1_forget cX1_forget 1 none 0 := ⟨UW_mem (tb4 (List.mem_of_getElem? (i := 93) rfl)) rfl, iniX1, by decide +kernel⟩
theorem inX1_forget : Cond.instanceMethod yX1_forget ∈ UW ∧ Cond.selects yX1_forget.cls yX1_forget yX1_forget ∈ UW := ⟨UW_mem (tb4 (List.mem_of_getElem? (i := 91) rfl)) rfl, UW_mem (tb4 (List.mem_of_getElem? (i := 92) rfl)) rfl⟩
theorem miX11_plan : MI yX11_plan cX11_plan 2 (some .int) 0 := ⟨UW_mem (tb4 (List.mem_of_getElem? (i := 98) rfl)) rfl, iniX11, by decide +kernel⟩
theorem inX11_plan : Cond.instanceMethod yX11_plan ∈ UW ∧ Cond.selects yX11_plan.cls yX11_plan yX11_plan ∈ UW := ⟨UW_mem (tb4 (List.mem_of_getElem? (i := 96) rfl)) rfl, UW_mem (tb4 (List.mem_of_getElem? (i := 97) rfl)) rfl⟩
theorem miX7_cakes : MI yX7_cakes cX7_cakes 1 (some .int) 0 := ⟨UW_mem (tb4 (List.mem_of_getElem? (i := 102) rfl)) rfl, iniX7, by decide +kernel⟩
theorem inX7_cakes : Cond.instanceMethod yX7_cakes ∈ UW ∧ Cond.selects yX7_cakes.cls yX7_cakes yX7_cakes ∈ UW := ⟨UW_mem (tb4 (List.mem_of_getElem? (i := 100) rfl)) rfl, UW_mem (tb4 (List.mem_of_getElem? (i := 101) rfl)) rfl⟩
theorem miX6_readPlan : MI yX6_readPlan cX6_readPlan 3 (some .int) 1 := ⟨UW_mem (tb4 (List.mem_of_getElem? (i := 106) rfl)) rfl, iniX6, by decide +kernel⟩
theorem inX6_readPlan : Cond.instanceMethod yX6_readPlan ∈ UW ∧ Cond.selects yX6_readPlan.cls yX6_readPlan yX6_readPlan ∈ UW := ⟨UW_mem (tb4 (List.mem_of_getElem? (i := 104) rfl)) rfl, UW_mem (tb4 (List.mem_of_getElem? (i := 105) rfl)) rfl⟩
theorem miX6_readTurn : MI yX6_readTurn cX6_readTurn 2 (some .boolean) 1 := ⟨UW_mem (tb4 (List.mem_of_getElem? (i := 110) rfl)) rfl, iniX6, by decide +kernel⟩
theorem inX6_readTurn : Cond.instanceMethod yX6_readTurn ∈ UW ∧ Cond.selects yX6_readTurn.cls yX6_readTurn yX6_readTurn ∈ UW := ⟨UW_mem (tb4 (List.mem_of_getElem? (i := 109) rfl)) rfl, UW_at 24 (by decide +kernel) rfl⟩
theorem miX6_keep : MI yX6_keep cX6_keep 2 none 1 := ⟨UW_mem (tb4 (List.mem_of_getElem? (i := 116) rfl)) rfl, iniX6, by decide +kernel⟩
theorem inX6_keep : Cond.instanceMethod yX6_keep ∈ UW ∧ Cond.selects yX6_keep.cls yX6_keep yX6_keep ∈ UW := ⟨UW_mem (tb4 (List.mem_of_getElem? (i := 115) rfl)) rfl, UW_at 25 (by decide +kernel) rfl⟩
theorem miX6_read : MI yX6_read cX6_read 1 (some (.array .int)) 0 := ⟨UW_mem (tb4 (List.mem_of_getElem? (i := 121) rfl)) rfl, iniX6, by decide +kernel⟩
theorem inX6_read : Cond.instanceMethod yX6_read ∈ UW ∧ Cond.selects yX6_read.cls yX6_read yX6_read ∈ UW := ⟨UW_mem (tb4 (List.mem_of_getElem? (i := 119) rfl)) rfl, UW_mem (tb4 (List.mem_of_getElem? (i := 120) rfl)) rfl⟩
theorem miX6_readSize : MI yX6_readSize cX6_readSize 1 (some .int) 0 := ⟨UW_mem (tb4 (List.mem_of_getElem? (i := 125) rfl)) rfl, iniX6, by decide +kernel⟩
theorem inX6_readSize : Cond.instanceMethod yX6_readSize ∈ UW ∧ Cond.selects yX6_readSize.cls yX6_readSize yX6_readSize ∈ UW := ⟨UW_mem (tb4 (List.mem_of_getElem? (i := 123) rfl)) rfl, UW_mem (tb4 (List.mem_of_getElem? (i := 124) rfl)) rfl⟩
theorem miX4_become : MI yX4_become cX4_become 4 none 2 := ⟨UW_mem (tb4 (List.mem_of_getElem? (i := 129) rfl)) rfl, iniX4, by decide +kernel⟩
theorem inX4_become : Cond.instanceMethod yX4_become ∈ UW ∧ Cond.selects yX4_become.cls yX4_become yX4_become ∈ UW := ⟨UW_mem (tb4 (List.mem_of_getElem? (i := 127) rfl)) rfl, UW_mem (tb4 (List.mem_of_getElem? (i := 128) rfl)) rfl⟩
theorem miX11_wish : MI yX11_wish cX11_wish 2 (some .int) 0 := ⟨UW_mem (tb4 (List.mem_of_getElem? (i := 136) rfl)) rfl, iniX11, by decide +kernel⟩
theorem inX11_wish : Cond.instanceMethod yX11_wish ∈ UW ∧ Cond.selects yX11_wish.cls yX11_wish yX11_wish ∈ UW := ⟨UW_mem (tb4 (List.mem_of_getElem? (i := 134) rfl)) rfl, UW_mem (tb4 (List.mem_of_getElem? (i := 135) rfl)) rfl⟩
theorem miX6_readWish : MI yX6_readWish cX6_readWish 4 (some .int) 1 := ⟨UW_mem (tb4 (List.mem_of_getElem? (i := 140) rfl)) rfl, iniX6, by decide +kernel⟩
theorem inX6_readWish : Cond.instanceMethod yX6_readWish ∈ UW ∧ Cond.selects yX6_readWish.cls yX6_readWish yX6_readWish ∈ UW := ⟨UW_mem (tb4 (List.mem_of_getElem? (i := 138) rfl)) rfl, UW_mem (tb4 (List.mem_of_getElem? (i := 139) rfl)) rfl⟩
theorem miX6_readWished : MI yX6_readWished cX6_readWished 4 (some .int) 2 := ⟨UW_mem (tb4 (List.mem_of_getElem? (i := 144) rfl)) rfl, iniX6, by decide +kernel⟩
theorem inX6_readWished : Cond.instanceMethod yX6_readWished ∈ UW ∧ Cond.selects yX6_readWished.cls yX6_readWished yX6_readWished ∈ UW := ⟨UW_mem (tb4 (List.mem_of_getElem? (i := 143) rfl)) rfl, UW_at 26 (by decide +kernel) rfl⟩
theorem miX6_readUps : MI yX6_readUps cX6_readUps 1 (some .int) 0 := ⟨UW_mem (tb4 (List.mem_of_getElem? (i := 148) rfl)) rfl, iniX6, by decide +kernel⟩
theorem inX6_readUps : Cond.instanceMethod yX6_readUps ∈ UW ∧ Cond.selects yX6_readUps.cls yX6_readUps yX6_readUps ∈ UW := ⟨UW_mem (tb4 (List.mem_of_getElem? (i := 146) rfl)) rfl, UW_mem (tb4 (List.mem_of_getElem? (i := 147) rfl)) rfl⟩
theorem miX11_cake : MI yX11_cake cX11_cake 3 (some .int) 2 := ⟨UW_mem (tb4 (List.mem_of_getElem? (i := 153) rfl)) rfl, iniX11, by decide +kernel⟩
theorem inX11_cake : Cond.instanceMethod yX11_cake ∈ UW ∧ Cond.selects yX11_cake.cls yX11_cake yX11_cake ∈ UW := ⟨UW_mem (tb4 (List.mem_of_getElem? (i := 151) rfl)) rfl, UW_mem (tb4 (List.mem_of_getElem? (i := 152) rfl)) rfl⟩
theorem miX5_stack : MI yX5_stack cX5_stack 1 (some .int) 0 := ⟨UW_mem (tb4 (List.mem_of_getElem? (i := 159) rfl)) rfl, iniX5, by decide +kernel⟩
theorem inX5_stack : Cond.instanceMethod yX5_stack ∈ UW ∧ Cond.selects yX5_stack.cls yX5_stack yX5_stack ∈ UW := ⟨UW_mem (tb4 (List.mem_of_getElem? (i := 157) rfl)) rfl, UW_mem (tb4 (List.mem_of_getElem? (i := 158) rfl)) rfl⟩
theorem miX7_placeOf : MI yX7_placeOf cX7_placeOf 4 (some .int) 2 := ⟨UW_mem (tb4 (List.mem_of_getElem? (i := 163) rfl)) rfl, iniX7, by decide +kernel⟩
theorem inX7_placeOf : Cond.instanceMethod yX7_placeOf ∈ UW ∧ Cond.selects yX7_placeOf.cls yX7_placeOf yX7_placeOf ∈ UW := ⟨UW_mem (tb4 (List.mem_of_getElem? (i := 161) rfl)) rfl, UW_mem (tb4 (List.mem_of_getElem? (i := 162) rfl)) rfl⟩
theorem miX7_cakeIn : MI yX7_cakeIn cX7_cakeIn 3 (some .int) 2 := ⟨UW_mem (tb4 (List.mem_of_getElem? (i := 167) rfl)) rfl, iniX7, by decide +kernel⟩
theorem inX7_cakeIn : Cond.instanceMethod yX7_cakeIn ∈ UW ∧ Cond.selects yX7_cakeIn.cls yX7_cakeIn yX7_cakeIn ∈ UW := ⟨UW_mem (tb4 (List.mem_of_getElem? (i := 165) rfl)) rfl, UW_mem (tb4 (List.mem_of_getElem? (i := 166) rfl)) rfl⟩
theorem miX7_isUp : MI yX7_isUp cX7_isUp 3 (some .boolean) 2 := ⟨UW_mem (tb4 (List.mem_of_getElem? (i := 171) rfl)) rfl, iniX7, by decide +kernel⟩
theorem inX7_isUp : Cond.instanceMethod yX7_isUp ∈ UW ∧ Cond.selects yX7_isUp.cls yX7_isUp yX7_isUp ∈ UW := ⟨UW_mem (tb4 (List.mem_of_getElem? (i := 169) rfl)) rfl, UW_mem (tb4 (List.mem_of_getElem? (i := 170) rfl)) rfl⟩
theorem miX7_sideBitsOf : MI yX7_sideBitsOf cX7_sideBitsOf 2 (some .int) 1 := ⟨UW_mem (tb4 (List.mem_of_getElem? (i := 175) rfl)) rfl, iniX7, by decide +kernel⟩
theorem inX7_sideBitsOf : Cond.instanceMethod yX7_sideBitsOf ∈ UW ∧ Cond.selects yX7_sideBitsOf.cls yX7_sideBitsOf yX7_sideBitsOf ∈ UW := ⟨UW_mem (tb4 (List.mem_of_getElem? (i := 174) rfl)) rfl, UW_at 27 (by decide +kernel) rfl⟩
theorem miX11_there : MI yX11_there cX11_there 2 (some .int) 1 := ⟨UW_mem (tb4 (List.mem_of_getElem? (i := 179) rfl)) rfl, iniX11, by decide +kernel⟩
theorem inX11_there : Cond.instanceMethod yX11_there ∈ UW ∧ Cond.selects yX11_there.cls yX11_there yX11_there ∈ UW := ⟨UW_mem (tb4 (List.mem_of_getElem? (i := 177) rfl)) rfl, UW_mem (tb4 (List.mem_of_getElem? (i := 178) rfl)) rfl⟩
theorem miX11_turn : MI yX11_turn cX11_turn 4 (some .int) 1 := ⟨UW_mem (tb4 (List.mem_of_getElem? (i := 184) rfl)) rfl, iniX11, by decide +kernel⟩
theorem inX11_turn : Cond.instanceMethod yX11_turn ∈ UW ∧ Cond.selects yX11_turn.cls yX11_turn yX11_turn ∈ UW := ⟨UW_mem (tb4 (List.mem_of_getElem? (i := 182) rfl)) rfl, UW_mem (tb4 (List.mem_of_getElem? (i := 183) rfl)) rfl⟩
theorem miX7_isOpen : MI yX7_isOpen cX7_isOpen 3 (some .boolean) 2 := ⟨UW_mem (tb4 (List.mem_of_getElem? (i := 188) rfl)) rfl, iniX7, by decide +kernel⟩
theorem inX7_isOpen : Cond.instanceMethod yX7_isOpen ∈ UW ∧ Cond.selects yX7_isOpen.cls yX7_isOpen yX7_isOpen ∈ UW := ⟨UW_mem (tb4 (List.mem_of_getElem? (i := 186) rfl)) rfl, UW_mem (tb4 (List.mem_of_getElem? (i := 187) rfl)) rfl⟩
theorem miX7_turnEntry : MI yX7_turnEntry cX7_turnEntry 3 (some .int) 2 := ⟨UW_mem (tb4 (List.mem_of_getElem? (i := 192) rfl)) rfl, iniX7, by decide +kernel⟩
theorem inX7_turnEntry : Cond.instanceMethod yX7_turnEntry ∈ UW ∧ Cond.selects yX7_turnEntry.cls yX7_turnEntry yX7_turnEntry ∈ UW := ⟨UW_mem (tb4 (List.mem_of_getElem? (i := 191) rfl)) rfl, UW_at 28 (by decide +kernel) rfl⟩
theorem miX7_lawEntry : MI yX7_lawEntry cX7_lawEntry 5 (some .int) 2 := ⟨UW_mem (tb4 (List.mem_of_getElem? (i := 196) rfl)) rfl, iniX7, by decide +kernel⟩
theorem inX7_lawEntry : Cond.instanceMethod yX7_lawEntry ∈ UW ∧ Cond.selects yX7_lawEntry.cls yX7_lawEntry yX7_lawEntry ∈ UW := ⟨UW_mem (tb4 (List.mem_of_getElem? (i := 195) rfl)) rfl, UW_at 29 (by decide +kernel) rfl⟩
theorem miX7_priceOf : MI yX7_priceOf cX7_priceOf 3 (some .int) 2 := ⟨UW_mem (tb4 (List.mem_of_getElem? (i := 200) rfl)) rfl, iniX7, by decide +kernel⟩
theorem inX7_priceOf : Cond.instanceMethod yX7_priceOf ∈ UW ∧ Cond.selects yX7_priceOf.cls yX7_priceOf yX7_priceOf ∈ UW := ⟨UW_mem (tb4 (List.mem_of_getElem? (i := 198) rfl)) rfl, UW_mem (tb4 (List.mem_of_getElem? (i := 199) rfl)) rfl⟩
theorem miX7_turned : MI yX7_turned cX7_turned 4 (some .int) 2 := ⟨UW_mem (tb4 (List.mem_of_getElem? (i := 204) rfl)) rfl, iniX7, by decide +kernel⟩
theorem inX7_turned : Cond.instanceMethod yX7_turned ∈ UW ∧ Cond.selects yX7_turned.cls yX7_turned yX7_turned ∈ UW := ⟨UW_mem (tb4 (List.mem_of_getElem? (i := 202) rfl)) rfl, UW_mem (tb4 (List.mem_of_getElem? (i := 203) rfl)) rfl⟩
theorem miX5_move : MI yX5_move cX5_move 4 none 3 := ⟨UW_mem (tb4 (List.mem_of_getElem? (i := 208) rfl)) rfl, iniX5, by decide +kernel⟩
theorem inX5_move : Cond.instanceMethod yX5_move ∈ UW ∧ Cond.selects yX5_move.cls yX5_move yX5_move ∈ UW := ⟨UW_mem (tb4 (List.mem_of_getElem? (i := 206) rfl)) rfl, UW_mem (tb4 (List.mem_of_getElem? (i := 207) rfl)) rfl⟩
theorem miX11_keepForUndo : MI yX11_keepForUndo cX11_keepForUndo 4 none 2 := ⟨UW_mem (tb4 (List.mem_of_getElem? (i := 212) rfl)) rfl, iniX11, by decide +kernel⟩
theorem inX11_keepForUndo : Cond.instanceMethod yX11_keepForUndo ∈ UW ∧ Cond.selects yX11_keepForUndo.cls yX11_keepForUndo yX11_keepForUndo ∈ UW := ⟨UW_mem (tb4 (List.mem_of_getElem? (i := 211) rfl)) rfl, UW_at 30 (by decide +kernel) rfl⟩
theorem miX11_undo : MI yX11_undo cX11_undo 2 (some .boolean) 0 := ⟨UW_mem (tb4 (List.mem_of_getElem? (i := 217) rfl)) rfl, iniX11, by decide +kernel⟩
theorem inX11_undo : Cond.instanceMethod yX11_undo ∈ UW ∧ Cond.selects yX11_undo.cls yX11_undo yX11_undo ∈ UW := ⟨UW_mem (tb4 (List.mem_of_getElem? (i := 215) rfl)) rfl, UW_mem (tb4 (List.mem_of_getElem? (i := 216) rfl)) rfl⟩
theorem miX11_can : MI yX11_can cX11_can 2 (some .boolean) 1 := ⟨UW_mem (tb4 (List.mem_of_getElem? (i := 222) rfl)) rfl, iniX11, by decide +kernel⟩
theorem inX11_can : Cond.instanceMethod yX11_can ∈ UW ∧ Cond.selects yX11_can.cls yX11_can yX11_can ∈ UW := ⟨UW_mem (tb4 (List.mem_of_getElem? (i := 220) rfl)) rfl, UW_mem (tb4 (List.mem_of_getElem? (i := 221) rfl)) rfl⟩
theorem miX11_cost : MI yX11_cost cX11_cost 2 (some .int) 1 := ⟨UW_mem (tb4 (List.mem_of_getElem? (i := 226) rfl)) rfl, iniX11, by decide +kernel⟩
theorem inX11_cost : Cond.instanceMethod yX11_cost ∈ UW ∧ Cond.selects yX11_cost.cls yX11_cost yX11_cost ∈ UW := ⟨UW_mem (tb4 (List.mem_of_getElem? (i := 224) rfl)) rfl, UW_mem (tb4 (List.mem_of_getElem? (i := 225) rfl)) rfl⟩
theorem miX11_isTurn : MI yX11_isTurn cX11_isTurn 2 (some .boolean) 1 := ⟨UW_mem (tb4 (List.mem_of_getElem? (i := 230) rfl)) rfl, iniX11, by decide +kernel⟩
theorem inX11_isTurn : Cond.instanceMethod yX11_isTurn ∈ UW ∧ Cond.selects yX11_isTurn.cls yX11_isTurn yX11_isTurn ∈ UW := ⟨UW_mem (tb4 (List.mem_of_getElem? (i := 229) rfl)) rfl, UW_at 31 (by decide +kernel) rfl⟩
theorem miX11_served : MI yX11_served cX11_served 1 (some .boolean) 0 := ⟨UW_mem (tb4 (List.mem_of_getElem? (i := 234) rfl)) rfl, iniX11, by decide +kernel⟩
theorem inX11_served : Cond.instanceMethod yX11_served ∈ UW ∧ Cond.selects yX11_served.cls yX11_served yX11_served ∈ UW := ⟨UW_mem (tb4 (List.mem_of_getElem? (i := 232) rfl)) rfl, UW_mem (tb4 (List.mem_of_getElem? (i := 233) rfl)) rfl⟩
theorem miX7_goal : MI yX7_goal cX7_goal 1 (some .int) 0 := ⟨UW_mem (tb4 (List.mem_of_getElem? (i := 238) rfl)) rfl, iniX7, by decide +kernel⟩
theorem inX7_goal : Cond.instanceMethod yX7_goal ∈ UW ∧ Cond.selects yX7_goal.cls yX7_goal yX7_goal ∈ UW := ⟨UW_mem (tb4 (List.mem_of_getElem? (i := 236) rfl)) rfl, UW_mem (tb4 (List.mem_of_getElem? (i := 237) rfl)) rfl⟩
theorem miX11_judged : MI yX11_judged cX11_judged 2 (some .int) 1 := ⟨UW_mem (tb5 (List.mem_of_getElem? (i := 2) rfl)) rfl, iniX11, by decide +kernel⟩
theorem inX11_judged : Cond.instanceMethod yX11_judged ∈ UW ∧ Cond.selects yX11_judged.cls yX11_judged yX11_judged ∈ UW := ⟨UW_mem (tb5 (List.mem_of_getElem? (i := 0) rfl)) rfl, UW_mem (tb5 (List.mem_of_getElem? (i := 1) rfl)) rfl⟩
theorem miX4_judge : MI yX4_judge cX4_judge 9 (some .int) 2 := ⟨UW_mem (tb5 (List.mem_of_getElem? (i := 6) rfl)) rfl, iniX4, by decide +kernel⟩
theorem inX4_judge : Cond.instanceMethod yX4_judge ∈ UW ∧ Cond.selects yX4_judge.cls yX4_judge yX4_judge ∈ UW := ⟨UW_mem (tb5 (List.mem_of_getElem? (i := 4) rfl)) rfl, UW_mem (tb5 (List.mem_of_getElem? (i := 5) rfl)) rfl⟩
theorem miX11_least : MI yX11_least cX11_least 1 (some .int) 0 := ⟨UW_mem (tb5 (List.mem_of_getElem? (i := 15) rfl)) rfl, iniX11, by decide +kernel⟩
theorem inX11_least : Cond.instanceMethod yX11_least ∈ UW ∧ Cond.selects yX11_least.cls yX11_least yX11_least ∈ UW := ⟨UW_mem (tb5 (List.mem_of_getElem? (i := 13) rfl)) rfl, UW_mem (tb5 (List.mem_of_getElem? (i := 14) rfl)) rfl⟩
theorem miX11_servedSteps : MI yX11_servedSteps cX11_servedSteps 1 (some (.object "HotCakes$Steps")) 0 := ⟨UW_mem (tb5 (List.mem_of_getElem? (i := 19) rfl)) rfl, iniX11, by decide +kernel⟩
theorem inX11_servedSteps : Cond.instanceMethod yX11_servedSteps ∈ UW ∧ Cond.selects yX11_servedSteps.cls yX11_servedSteps yX11_servedSteps ∈ UW := ⟨UW_mem (tb5 (List.mem_of_getElem? (i := 18) rfl)) rfl, UW_at 32 (by decide +kernel) rfl⟩
theorem miX8_learn : MI yX8_learn cX8_learn 5 none 1 := ⟨UW_mem (tb5 (List.mem_of_getElem? (i := 23) rfl)) rfl, iniX8, by decide +kernel⟩
theorem inX8_learn : Cond.instanceMethod yX8_learn ∈ UW ∧ Cond.selects yX8_learn.cls yX8_learn yX8_learn ∈ UW := ⟨UW_mem (tb5 (List.mem_of_getElem? (i := 21) rfl)) rfl, UW_mem (tb5 (List.mem_of_getElem? (i := 22) rfl)) rfl⟩
theorem miJ7_fill_53178 : MI yJ7_fill_53178 cJ7_fill_53178 4 none 2 := ⟨UW_mem (tb5 (List.mem_of_getElem? (i := 26) rfl)) rfl, iniJ7, by decide +kernel⟩
theorem stJ7_fill_53178 : Cond.static yJ7_fill_53178 ∈ UW := UW_mem (tb5 (List.mem_of_getElem? (i := 25) rfl)) rfl
theorem miX7_all : MI yX7_all cX7_all 1 (some .int) 0 := ⟨UW_mem (tb5 (List.mem_of_getElem? (i := 30) rfl)) rfl, iniX7, by decide +kernel⟩
theorem inX7_all : Cond.instanceMethod yX7_all ∈ UW ∧ Cond.selects yX7_all.cls yX7_all yX7_all ∈ UW := ⟨UW_mem (tb5 (List.mem_of_getElem? (i := 28) rfl)) rfl, UW_mem (tb5 (List.mem_of_getElem? (i := 29) rfl)) rfl⟩
theorem miX7_queue : MI yX7_queue cX7_queue 1 (some (.array .int)) 0 := ⟨UW_mem (tb5 (List.mem_of_getElem? (i := 34) rfl)) rfl, iniX7, by decide +kernel⟩
theorem inX7_queue : Cond.instanceMethod yX7_queue ∈ UW ∧ Cond.selects yX7_queue.cls yX7_queue yX7_queue ∈ UW := ⟨UW_mem (tb5 (List.mem_of_getElem? (i := 32) rfl)) rfl, UW_mem (tb5 (List.mem_of_getElem? (i := 33) rfl)) rfl⟩
theorem miX8_learnRound : MI yX8_learnRound cX8_learnRound 8 (some .int) 2 := ⟨UW_mem (tb5 (List.mem_of_getElem? (i := 39) rfl)) rfl, iniX8, by decide +kernel⟩
theorem inX8_learnRound : Cond.instanceMethod yX8_learnRound ∈ UW ∧ Cond.selects yX8_learnRound.cls yX8_learnRound yX8_learnRound ∈ UW := ⟨UW_mem (tb5 (List.mem_of_getElem? (i := 38) rfl)) rfl, UW_at 33 (by decide +kernel) rfl⟩
theorem miX8_turnsOf : MI yX8_turnsOf cX8_turnsOf 2 (some .int) 1 := ⟨UW_mem (tb5 (List.mem_of_getElem? (i := 47) rfl)) rfl, iniX8, by decide +kernel⟩
theorem inX8_turnsOf : Cond.instanceMethod yX8_turnsOf ∈ UW ∧ Cond.selects yX8_turnsOf.cls yX8_turnsOf yX8_turnsOf ∈ UW := ⟨UW_mem (tb5 (List.mem_of_getElem? (i := 45) rfl)) rfl, UW_mem (tb5 (List.mem_of_getElem? (i := 46) rfl)) rfl⟩
theorem miX11_row : MI yX11_row cX11_row 5 (some .int) 1 := ⟨UW_mem (tb5 (List.mem_of_getElem? (i := 51) rfl)) rfl, iniX11, by decide +kernel⟩
theorem inX11_row : Cond.instanceMethod yX11_row ∈ UW ∧ Cond.selects yX11_row.cls yX11_row yX11_row ∈ UW := ⟨UW_mem (tb5 (List.mem_of_getElem? (i := 49) rfl)) rfl, UW_mem (tb5 (List.mem_of_getElem? (i := 50) rfl)) rfl⟩
theorem miX8_firstTurn : MI yX8_firstTurn cX8_firstTurn 4 (some .int) 1 := ⟨UW_mem (tb5 (List.mem_of_getElem? (i := 55) rfl)) rfl, iniX8, by decide +kernel⟩
theorem inX8_firstTurn : Cond.instanceMethod yX8_firstTurn ∈ UW ∧ Cond.selects yX8_firstTurn.cls yX8_firstTurn yX8_firstTurn ∈ UW := ⟨UW_mem (tb5 (List.mem_of_getElem? (i := 53) rfl)) rfl, UW_mem (tb5 (List.mem_of_getElem? (i := 54) rfl)) rfl⟩
theorem miX8_isNearer : MI yX8_isNearer cX8_isNearer 3 (some .boolean) 2 := ⟨UW_mem (tb5 (List.mem_of_getElem? (i := 59) rfl)) rfl, iniX8, by decide +kernel⟩
theorem inX8_isNearer : Cond.instanceMethod yX8_isNearer ∈ UW ∧ Cond.selects yX8_isNearer.cls yX8_isNearer yX8_isNearer ∈ UW := ⟨UW_mem (tb5 (List.mem_of_getElem? (i := 58) rfl)) rfl, UW_at 34 (by decide +kernel) rfl⟩
theorem miX11_ways : MI yX11_ways cX11_ways 1 (some .int) 0 := ⟨UW_mem (tb5 (List.mem_of_getElem? (i := 63) rfl)) rfl, iniX11, by decide +kernel⟩
theorem inX11_ways : Cond.instanceMethod yX11_ways ∈ UW ∧ Cond.selects yX11_ways.cls yX11_ways yX11_ways ∈ UW := ⟨UW_mem (tb5 (List.mem_of_getElem? (i := 61) rfl)) rfl, UW_mem (tb5 (List.mem_of_getElem? (i := 62) rfl)) rfl⟩
theorem miX8_rowsOf : MI yX8_rowsOf cX8_rowsOf 6 (some .int) 1 := ⟨UW_mem (tb5 (List.mem_of_getElem? (i := 67) rfl)) rfl, iniX8, by decide +kernel⟩
theorem inX8_rowsOf : Cond.instanceMethod yX8_rowsOf ∈ UW ∧ Cond.selects yX8_rowsOf.cls yX8_rowsOf yX8_rowsOf ∈ UW := ⟨UW_mem (tb5 (List.mem_of_getElem? (i := 65) rfl)) rfl, UW_mem (tb5 (List.mem_of_getElem? (i := 66) rfl)) rfl⟩
theorem miX7_scratch : MI yX7_scratch cX7_scratch 1 (some (.array .int)) 0 := ⟨UW_mem (tb5 (List.mem_of_getElem? (i := 71) rfl)) rfl, iniX7, by decide +kernel⟩
theorem inX7_scratch : Cond.instanceMethod yX7_scratch ∈ UW ∧ Cond.selects yX7_scratch.cls yX7_scratch yX7_scratch ∈ UW := ⟨UW_mem (tb5 (List.mem_of_getElem? (i := 69) rfl)) rfl, UW_mem (tb5 (List.mem_of_getElem? (i := 70) rfl)) rfl⟩
theorem miX8_addRows : MI yX8_addRows cX8_addRows 7 none 2 := ⟨UW_mem (tb5 (List.mem_of_getElem? (i := 75) rfl)) rfl, iniX8, by decide +kernel⟩
theorem inX8_addRows : Cond.instanceMethod yX8_addRows ∈ UW ∧ Cond.selects yX8_addRows.cls yX8_addRows yX8_addRows ∈ UW := ⟨UW_mem (tb5 (List.mem_of_getElem? (i := 74) rfl)) rfl, UW_at 35 (by decide +kernel) rfl⟩
theorem miJ9_min_f86c9 : MI yJ9_min_f86c9 cJ9_min_f86c9 4 (some .long) 2 := ⟨UW_mem (tb5 (List.mem_of_getElem? (i := 79) rfl)) rfl, iniJ9, by decide +kernel⟩
theorem stJ9_min_f86c9 : Cond.static yJ9_min_f86c9 ∈ UW := UW_mem (tb5 (List.mem_of_getElem? (i := 78) rfl)) rfl
theorem miX11_cheap : MI yX11_cheap cX11_cheap 1 (some .int) 0 := ⟨UW_mem (tb5 (List.mem_of_getElem? (i := 83) rfl)) rfl, iniX11, by decide +kernel⟩
theorem inX11_cheap : Cond.instanceMethod yX11_cheap ∈ UW ∧ Cond.selects yX11_cheap.cls yX11_cheap yX11_cheap ∈ UW := ⟨UW_mem (tb5 (List.mem_of_getElem? (i := 81) rfl)) rfl, UW_mem (tb5 (List.mem_of_getElem? (i := 82) rfl)) rfl⟩
theorem miX0_learn : MI yX0_learn cX0_learn 4 none 0 := ⟨UW_mem (tb5 (List.mem_of_getElem? (i := 87) rfl)) rfl, iniX0, by decide +kernel⟩
theorem inX0_learn : Cond.instanceMethod yX0_learn ∈ UW ∧ Cond.selects yX0_learn.cls yX0_learn yX0_learn ∈ UW := ⟨UW_mem (tb5 (List.mem_of_getElem? (i := 85) rfl)) rfl, UW_mem (tb5 (List.mem_of_getElem? (i := 86) rfl)) rfl⟩
theorem miX0_learnBehind : MI yX0_learnBehind cX0_learnBehind 8 (some .int) 2 := ⟨UW_mem (tb5 (List.mem_of_getElem? (i := 97) rfl)) rfl, iniX0, by decide +kernel⟩
theorem inX0_learnBehind : Cond.instanceMethod yX0_learnBehind ∈ UW ∧ Cond.selects yX0_learnBehind.cls yX0_learnBehind yX0_learnBehind ∈ UW := ⟨UW_mem (tb5 (List.mem_of_getElem? (i := 96) rfl)) rfl, UW_at 36 (by decide +kernel) rfl⟩
theorem miX0_sumOf : MI yX0_sumOf cX0_sumOf 2 (some .int) 1 := ⟨UW_mem (tb5 (List.mem_of_getElem? (i := 106) rfl)) rfl, iniX0, by decide +kernel⟩
theorem inX0_sumOf : Cond.instanceMethod yX0_sumOf ∈ UW ∧ Cond.selects yX0_sumOf.cls yX0_sumOf yX0_sumOf ∈ UW := ⟨UW_mem (tb5 (List.mem_of_getElem? (i := 104) rfl)) rfl, UW_mem (tb5 (List.mem_of_getElem? (i := 105) rfl)) rfl⟩
theorem miX11_bill : MI yX11_bill cX11_bill 4 (some .int) 1 := ⟨UW_mem (tb5 (List.mem_of_getElem? (i := 110) rfl)) rfl, iniX11, by decide +kernel⟩
theorem inX11_bill : Cond.instanceMethod yX11_bill ∈ UW ∧ Cond.selects yX11_bill.cls yX11_bill yX11_bill ∈ UW := ⟨UW_mem (tb5 (List.mem_of_getElem? (i := 108) rfl)) rfl, UW_mem (tb5 (List.mem_of_getElem? (i := 109) rfl)) rfl⟩
theorem miX0_firstTurn : MI yX0_firstTurn cX0_firstTurn 6 (some .int) 1 := ⟨UW_mem (tb5 (List.mem_of_getElem? (i := 114) rfl)) rfl, iniX0, by decide +kernel⟩
theorem inX0_firstTurn : Cond.instanceMethod yX0_firstTurn ∈ UW ∧ Cond.selects yX0_firstTurn.cls yX0_firstTurn yX0_firstTurn ∈ UW := ⟨UW_mem (tb5 (List.mem_of_getElem? (i := 112) rfl)) rfl, UW_mem (tb5 (List.mem_of_getElem? (i := 113) rfl)) rfl⟩
theorem miX11_without : MI yX11_without cX11_without 2 (some .int) 1 := ⟨UW_mem (tb5 (List.mem_of_getElem? (i := 118) rfl)) rfl, iniX11, by decide +kernel⟩
theorem inX11_without : Cond.instanceMethod yX11_without ∈ UW ∧ Cond.selects yX11_without.cls yX11_without yX11_without ∈ UW := ⟨UW_mem (tb5 (List.mem_of_getElem? (i := 116) rfl)) rfl, UW_mem (tb5 (List.mem_of_getElem? (i := 117) rfl)) rfl⟩
theorem miX11_leastWithout : MI yX11_leastWithout cX11_leastWithout 3 (some .int) 1 := ⟨UW_mem (tb5 (List.mem_of_getElem? (i := 122) rfl)) rfl, iniX11, by decide +kernel⟩
theorem inX11_leastWithout : Cond.instanceMethod yX11_leastWithout ∈ UW ∧ Cond.selects yX11_leastWithout.cls yX11_leastWithout yX11_leastWithout ∈ UW := ⟨UW_mem (tb5 (List.mem_of_getElem? (i := 121) rfl)) rfl, UW_at 37 (by decide +kernel) rfl⟩
theorem miX11_needed : MI yX11_needed cX11_needed 3 (some .int) 0 := ⟨UW_mem (tb5 (List.mem_of_getElem? (i := 126) rfl)) rfl, iniX11, by decide +kernel⟩
theorem inX11_needed : Cond.instanceMethod yX11_needed ∈ UW ∧ Cond.selects yX11_needed.cls yX11_needed yX11_needed ∈ UW := ⟨UW_mem (tb5 (List.mem_of_getElem? (i := 124) rfl)) rfl, UW_mem (tb5 (List.mem_of_getElem? (i := 125) rfl)) rfl⟩
theorem miX11_far : MI yX11_far cX11_far 1 (some .int) 0 := ⟨UW_mem (tb5 (List.mem_of_getElem? (i := 130) rfl)) rfl, iniX11, by decide +kernel⟩
theorem inX11_far : Cond.instanceMethod yX11_far ∈ UW ∧ Cond.selects yX11_far.cls yX11_far yX11_far ∈ UW := ⟨UW_mem (tb5 (List.mem_of_getElem? (i := 128) rfl)) rfl, UW_mem (tb5 (List.mem_of_getElem? (i := 129) rfl)) rfl⟩
theorem miX11_wishSteps : MI yX11_wishSteps cX11_wishSteps 1 (some (.object "HotCakes$Steps")) 0 := ⟨UW_mem (tb5 (List.mem_of_getElem? (i := 134) rfl)) rfl, iniX11, by decide +kernel⟩
theorem inX11_wishSteps : Cond.instanceMethod yX11_wishSteps ∈ UW ∧ Cond.selects yX11_wishSteps.cls yX11_wishSteps yX11_wishSteps ∈ UW := ⟨UW_mem (tb5 (List.mem_of_getElem? (i := 133) rfl)) rfl, UW_at 38 (by decide +kernel) rfl⟩
theorem miX11_toward : MI yX11_toward cX11_toward 1 (some .int) 0 := ⟨UW_mem (tb5 (List.mem_of_getElem? (i := 138) rfl)) rfl, iniX11, by decide +kernel⟩
theorem inX11_toward : Cond.instanceMethod yX11_toward ∈ UW ∧ Cond.selects yX11_toward.cls yX11_toward yX11_toward ∈ UW := ⟨UW_mem (tb5 (List.mem_of_getElem? (i := 136) rfl)) rfl, UW_mem (tb5 (List.mem_of_getElem? (i := 137) rfl)) rfl⟩
theorem miX11_never : MI yX11_never cX11_never 1 (some .int) 0 := ⟨UW_mem (tb5 (List.mem_of_getElem? (i := 142) rfl)) rfl, iniX11, by decide +kernel⟩
theorem inX11_never : Cond.instanceMethod yX11_never ∈ UW ∧ Cond.selects yX11_never.cls yX11_never yX11_never ∈ UW := ⟨UW_mem (tb5 (List.mem_of_getElem? (i := 140) rfl)) rfl, UW_mem (tb5 (List.mem_of_getElem? (i := 141) rfl)) rfl⟩
theorem miX8_stacksAt : MI yX8_stacksAt cX8_stacksAt 4 (some .int) 1 := ⟨UW_mem (tb5 (List.mem_of_getElem? (i := 146) rfl)) rfl, iniX8, by decide +kernel⟩
theorem inX8_stacksAt : Cond.instanceMethod yX8_stacksAt ∈ UW ∧ Cond.selects yX8_stacksAt.cls yX8_stacksAt yX8_stacksAt ∈ UW := ⟨UW_mem (tb5 (List.mem_of_getElem? (i := 144) rfl)) rfl, UW_mem (tb5 (List.mem_of_getElem? (i := 145) rfl)) rfl⟩
theorem miX11_hard : MI yX11_hard cX11_hard 3 (some .int) 1 := ⟨UW_mem (tb5 (List.mem_of_getElem? (i := 150) rfl)) rfl, iniX11, by decide +kernel⟩
theorem inX11_hard : Cond.instanceMethod yX11_hard ∈ UW ∧ Cond.selects yX11_hard.cls yX11_hard yX11_hard ∈ UW := ⟨UW_mem (tb5 (List.mem_of_getElem? (i := 148) rfl)) rfl, UW_mem (tb5 (List.mem_of_getElem? (i := 149) rfl)) rfl⟩
theorem miX8_most : MI yX8_most cX8_most 3 (some .int) 0 := ⟨UW_mem (tb5 (List.mem_of_getElem? (i := 154) rfl)) rfl, iniX8, by decide +kernel⟩
theorem inX8_most : Cond.instanceMethod yX8_most ∈ UW ∧ Cond.selects yX8_most.cls yX8_most yX8_most ∈ UW := ⟨UW_mem (tb5 (List.mem_of_getElem? (i := 152) rfl)) rfl, UW_mem (tb5 (List.mem_of_getElem? (i := 153) rfl)) rfl⟩
theorem miX11_spread : MI yX11_spread cX11_spread 2 (some .int) 1 := ⟨UW_mem (tb5 (List.mem_of_getElem? (i := 159) rfl)) rfl, iniX11, by decide +kernel⟩
theorem inX11_spread : Cond.instanceMethod yX11_spread ∈ UW ∧ Cond.selects yX11_spread.cls yX11_spread yX11_spread ∈ UW := ⟨UW_mem (tb5 (List.mem_of_getElem? (i := 157) rfl)) rfl, UW_mem (tb5 (List.mem_of_getElem? (i := 158) rfl)) rfl⟩
theorem miX11_dear : MI yX11_dear cX11_dear 1 (some .int) 0 := ⟨UW_mem (tb5 (List.mem_of_getElem? (i := 163) rfl)) rfl, iniX11, by decide +kernel⟩
theorem inX11_dear : Cond.instanceMethod yX11_dear ∈ UW ∧ Cond.selects yX11_dear.cls yX11_dear yX11_dear ∈ UW := ⟨UW_mem (tb5 (List.mem_of_getElem? (i := 161) rfl)) rfl, UW_mem (tb5 (List.mem_of_getElem? (i := 162) rfl)) rfl⟩
theorem miX0_mostSum : MI yX0_mostSum cX0_mostSum 3 (some .int) 0 := ⟨UW_mem (tb5 (List.mem_of_getElem? (i := 167) rfl)) rfl, iniX0, by decide +kernel⟩
theorem inX0_mostSum : Cond.instanceMethod yX0_mostSum ∈ UW ∧ Cond.selects yX0_mostSum.cls yX0_mostSum yX0_mostSum ∈ UW := ⟨UW_mem (tb5 (List.mem_of_getElem? (i := 165) rfl)) rfl, UW_mem (tb5 (List.mem_of_getElem? (i := 166) rfl)) rfl⟩
theorem miX11_rim : MI yX11_rim cX11_rim 1 (some .int) 0 := ⟨UW_mem (tb5 (List.mem_of_getElem? (i := 171) rfl)) rfl, iniX11, by decide +kernel⟩
theorem inX11_rim : Cond.instanceMethod yX11_rim ∈ UW ∧ Cond.selects yX11_rim.cls yX11_rim yX11_rim ∈ UW := ⟨UW_mem (tb5 (List.mem_of_getElem? (i := 169) rfl)) rfl, UW_mem (tb5 (List.mem_of_getElem? (i := 170) rfl)) rfl⟩
theorem miX11_nowSteps : MI yX11_nowSteps cX11_nowSteps 1 (some (.object "HotCakes$Steps")) 0 := ⟨UW_mem (tb5 (List.mem_of_getElem? (i := 175) rfl)) rfl, iniX11, by decide +kernel⟩
theorem inX11_nowSteps : Cond.instanceMethod yX11_nowSteps ∈ UW ∧ Cond.selects yX11_nowSteps.cls yX11_nowSteps yX11_nowSteps ∈ UW := ⟨UW_mem (tb5 (List.mem_of_getElem? (i := 174) rfl)) rfl, UW_at 39 (by decide +kernel) rfl⟩
theorem miX11_nth : MI yX11_nth cX11_nth 1 (some .int) 0 := ⟨UW_mem (tb5 (List.mem_of_getElem? (i := 179) rfl)) rfl, iniX11, by decide +kernel⟩
theorem inX11_nth : Cond.instanceMethod yX11_nth ∈ UW ∧ Cond.selects yX11_nth.cls yX11_nth yX11_nth ∈ UW := ⟨UW_mem (tb5 (List.mem_of_getElem? (i := 177) rfl)) rfl, UW_mem (tb5 (List.mem_of_getElem? (i := 178) rfl)) rfl⟩
theorem miX7_numberOf : MI yX7_numberOf cX7_numberOf 5 (some .int) 1 := ⟨UW_mem (tb5 (List.mem_of_getElem? (i := 183) rfl)) rfl, iniX7, by decide +kernel⟩
theorem inX7_numberOf : Cond.instanceMethod yX7_numberOf ∈ UW ∧ Cond.selects yX7_numberOf.cls yX7_numberOf yX7_numberOf ∈ UW := ⟨UW_mem (tb5 (List.mem_of_getElem? (i := 181) rfl)) rfl, UW_mem (tb5 (List.mem_of_getElem? (i := 182) rfl)) rfl⟩
theorem miX11_ring : MI yX11_ring cX11_ring 6 (some .int) 2 := ⟨UW_mem (tb5 (List.mem_of_getElem? (i := 188) rfl)) rfl, iniX11, by decide +kernel⟩
theorem inX11_ring : Cond.instanceMethod yX11_ring ∈ UW ∧ Cond.selects yX11_ring.cls yX11_ring yX11_ring ∈ UW := ⟨UW_mem (tb5 (List.mem_of_getElem? (i := 186) rfl)) rfl, UW_mem (tb5 (List.mem_of_getElem? (i := 187) rfl)) rfl⟩
theorem miX11_pairs : MI yX11_pairs cX11_pairs 1 (some .int) 0 := ⟨UW_mem (tb5 (List.mem_of_getElem? (i := 192) rfl)) rfl, iniX11, by decide +kernel⟩
theorem inX11_pairs : Cond.instanceMethod yX11_pairs ∈ UW ∧ Cond.selects yX11_pairs.cls yX11_pairs yX11_pairs ∈ UW := ⟨UW_mem (tb5 (List.mem_of_getElem? (i := 190) rfl)) rfl, UW_mem (tb5 (List.mem_of_getElem? (i := 191) rfl)) rfl⟩
theorem miX7_pairsIn : MI yX7_pairsIn cX7_pairsIn 6 (some .int) 1 := ⟨UW_mem (tb5 (List.mem_of_getElem? (i := 196) rfl)) rfl, iniX7, by decide +kernel⟩
theorem inX7_pairsIn : Cond.instanceMethod yX7_pairsIn ∈ UW ∧ Cond.selects yX7_pairsIn.cls yX7_pairsIn yX7_pairsIn ∈ UW := ⟨UW_mem (tb5 (List.mem_of_getElem? (i := 194) rfl)) rfl, UW_mem (tb5 (List.mem_of_getElem? (i := 195) rfl)) rfl⟩
theorem miX11_reached : MI yX11_reached cX11_reached 2 (some .int) 1 := ⟨UW_mem (tb5 (List.mem_of_getElem? (i := 201) rfl)) rfl, iniX11, by decide +kernel⟩
theorem inX11_reached : Cond.instanceMethod yX11_reached ∈ UW ∧ Cond.selects yX11_reached.cls yX11_reached yX11_reached ∈ UW := ⟨UW_mem (tb5 (List.mem_of_getElem? (i := 199) rfl)) rfl, UW_mem (tb5 (List.mem_of_getElem? (i := 200) rfl)) rfl⟩
theorem miX8_stacksWithin : MI yX8_stacksWithin cX8_stacksWithin 4 (some .int) 1 := ⟨UW_mem (tb5 (List.mem_of_getElem? (i := 205) rfl)) rfl, iniX8, by decide +kernel⟩
theorem inX8_stacksWithin : Cond.instanceMethod yX8_stacksWithin ∈ UW ∧ Cond.selects yX8_stacksWithin.cls yX8_stacksWithin yX8_stacksWithin ∈ UW := ⟨UW_mem (tb5 (List.mem_of_getElem? (i := 203) rfl)) rfl, UW_mem (tb5 (List.mem_of_getElem? (i := 204) rfl)) rfl⟩
theorem miX11_gaps : MI yX11_gaps cX11_gaps 1 (some .int) 0 := ⟨UW_mem (tb5 (List.mem_of_getElem? (i := 209) rfl)) rfl, iniX11, by decide +kernel⟩
theorem inX11_gaps : Cond.instanceMethod yX11_gaps ∈ UW ∧ Cond.selects yX11_gaps.cls yX11_gaps yX11_gaps ∈ UW := ⟨UW_mem (tb5 (List.mem_of_getElem? (i := 207) rfl)) rfl, UW_mem (tb5 (List.mem_of_getElem? (i := 208) rfl)) rfl⟩
theorem miX7_gapsIn : MI yX7_gapsIn cX7_gapsIn 4 (some .int) 1 := ⟨UW_mem (tb5 (List.mem_of_getElem? (i := 213) rfl)) rfl, iniX7, by decide +kernel⟩
theorem inX7_gapsIn : Cond.instanceMethod yX7_gapsIn ∈ UW ∧ Cond.selects yX7_gapsIn.cls yX7_gapsIn yX7_gapsIn ∈ UW := ⟨UW_mem (tb5 (List.mem_of_getElem? (i := 211) rfl)) rfl, UW_mem (tb5 (List.mem_of_getElem? (i := 212) rfl)) rfl⟩
theorem miX7_isGap : MI yX7_isGap cX7_isGap 9 (some .boolean) 2 := ⟨UW_mem (tb5 (List.mem_of_getElem? (i := 217) rfl)) rfl, iniX7, by decide +kernel⟩
theorem inX7_isGap : Cond.instanceMethod yX7_isGap ∈ UW ∧ Cond.selects yX7_isGap.cls yX7_isGap yX7_isGap ∈ UW := ⟨UW_mem (tb5 (List.mem_of_getElem? (i := 216) rfl)) rfl, UW_at 40 (by decide +kernel) rfl⟩
theorem miX7_mayLie : MI yX7_mayLie cX7_mayLie 4 (some .boolean) 3 := ⟨UW_mem (tb5 (List.mem_of_getElem? (i := 221) rfl)) rfl, iniX7, by decide +kernel⟩
theorem inX7_mayLie : Cond.instanceMethod yX7_mayLie ∈ UW ∧ Cond.selects yX7_mayLie.cls yX7_mayLie yX7_mayLie ∈ UW := ⟨UW_mem (tb5 (List.mem_of_getElem? (i := 220) rfl)) rfl, UW_at 41 (by decide +kernel) rfl⟩
theorem miX11_sharp : MI yX11_sharp cX11_sharp 1 (some .boolean) 0 := ⟨UW_mem (tb5 (List.mem_of_getElem? (i := 225) rfl)) rfl, iniX11, by decide +kernel⟩
theorem inX11_sharp : Cond.instanceMethod yX11_sharp ∈ UW ∧ Cond.selects yX11_sharp.cls yX11_sharp yX11_sharp ∈ UW := ⟨UW_mem (tb5 (List.mem_of_getElem? (i := 223) rfl)) rfl, UW_mem (tb5 (List.mem_of_getElem? (i := 224) rfl)) rfl⟩
theorem miX11_again : MI yX11_again cX11_again 3 (some .int) 0 := ⟨UW_mem (tb5 (List.mem_of_getElem? (i := 229) rfl)) rfl, iniX11, by decide +kernel⟩
theorem inX11_again : Cond.instanceMethod yX11_again ∈ UW ∧ Cond.selects yX11_again.cls yX11_again yX11_again ∈ UW := ⟨UW_mem (tb5 (List.mem_of_getElem? (i := 227) rfl)) rfl, UW_mem (tb5 (List.mem_of_getElem? (i := 228) rfl)) rfl⟩
theorem miX4_doneWhole : MI yX4_doneWhole cX4_doneWhole 6 (some .int) 2 := ⟨UW_mem (tb5 (List.mem_of_getElem? (i := 233) rfl)) rfl, iniX4, by decide +kernel⟩
theorem inX4_doneWhole : Cond.instanceMethod yX4_doneWhole ∈ UW ∧ Cond.selects yX4_doneWhole.cls yX4_doneWhole yX4_doneWhole ∈ UW := ⟨UW_mem (tb5 (List.mem_of_getElem? (i := 231) rfl)) rfl, UW_mem (tb5 (List.mem_of_getElem? (i := 232) rfl)) rfl⟩
theorem miX11_spare : MI yX11_spare cX11_spare 4 (some .int) 0 := ⟨UW_mem (tb5 (List.mem_of_getElem? (i := 237) rfl)) rfl, iniX11, by decide +kernel⟩
theorem inX11_spare : Cond.instanceMethod yX11_spare ∈ UW ∧ Cond.selects yX11_spare.cls yX11_spare yX11_spare ∈ UW := ⟨UW_mem (tb5 (List.mem_of_getElem? (i := 235) rfl)) rfl, UW_mem (tb5 (List.mem_of_getElem? (i := 236) rfl)) rfl⟩
theorem miX4_doneFrom : MI yX4_doneFrom cX4_doneFrom 7 (some .int) 3 := ⟨UW_mem (tb6 (List.mem_of_getElem? (i := 1) rfl)) rfl, iniX4, by decide +kernel⟩
theorem inX4_doneFrom : Cond.instanceMethod yX4_doneFrom ∈ UW ∧ Cond.selects yX4_doneFrom.cls yX4_doneFrom yX4_doneFrom ∈ UW := ⟨UW_mem (tb5 (List.mem_of_getElem? (i := 239) rfl)) rfl, UW_mem (tb6 (List.mem_of_getElem? (i := 0) rfl)) rfl⟩
theorem miX4_size : MI yX4_size cX4_size 1 (some .int) 0 := ⟨UW_mem (tb6 (List.mem_of_getElem? (i := 5) rfl)) rfl, iniX4, by decide +kernel⟩
theorem inX4_size : Cond.instanceMethod yX4_size ∈ UW ∧ Cond.selects yX4_size.cls yX4_size yX4_size ∈ UW := ⟨UW_mem (tb6 (List.mem_of_getElem? (i := 3) rfl)) rfl, UW_mem (tb6 (List.mem_of_getElem? (i := 4) rfl)) rfl⟩
theorem miX11_ends : MI yX11_ends cX11_ends 1 (some .boolean) 0 := ⟨UW_mem (tb6 (List.mem_of_getElem? (i := 9) rfl)) rfl, iniX11, by decide +kernel⟩
theorem inX11_ends : Cond.instanceMethod yX11_ends ∈ UW ∧ Cond.selects yX11_ends.cls yX11_ends yX11_ends ∈ UW := ⟨UW_mem (tb6 (List.mem_of_getElem? (i := 7) rfl)) rfl, UW_mem (tb6 (List.mem_of_getElem? (i := 8) rfl)) rfl⟩
theorem miX11_wins : MI yX11_wins cX11_wins 2 (some .int) 1 := ⟨UW_mem (tb6 (List.mem_of_getElem? (i := 13) rfl)) rfl, iniX11, by decide +kernel⟩
theorem inX11_wins : Cond.instanceMethod yX11_wins ∈ UW ∧ Cond.selects yX11_wins.cls yX11_wins yX11_wins ∈ UW := ⟨UW_mem (tb6 (List.mem_of_getElem? (i := 11) rfl)) rfl, UW_mem (tb6 (List.mem_of_getElem? (i := 12) rfl)) rfl⟩
theorem miX1_learn : MI yX1_learn cX1_learn 5 none 0 := ⟨UW_mem (tb6 (List.mem_of_getElem? (i := 17) rfl)) rfl, iniX1, by decide +kernel⟩
theorem inX1_learn : Cond.instanceMethod yX1_learn ∈ UW ∧ Cond.selects yX1_learn.cls yX1_learn yX1_learn ∈ UW := ⟨UW_mem (tb6 (List.mem_of_getElem? (i := 15) rfl)) rfl, UW_mem (tb6 (List.mem_of_getElem? (i := 16) rfl)) rfl⟩
theorem miX1_openTurns : MI yX1_openTurns cX1_openTurns 4 (some .int) 1 := ⟨UW_mem (tb6 (List.mem_of_getElem? (i := 25) rfl)) rfl, iniX1, by decide +kernel⟩
theorem inX1_openTurns : Cond.instanceMethod yX1_openTurns ∈ UW ∧ Cond.selects yX1_openTurns.cls yX1_openTurns yX1_openTurns ∈ UW := ⟨UW_mem (tb6 (List.mem_of_getElem? (i := 24) rfl)) rfl, UW_at 42 (by decide +kernel) rfl⟩
theorem miX1_learnRound : MI yX1_learnRound cX1_learnRound 9 (some .int) 2 := ⟨UW_mem (tb6 (List.mem_of_getElem? (i := 34) rfl)) rfl, iniX1, by decide +kernel⟩
theorem inX1_learnRound : Cond.instanceMethod yX1_learnRound ∈ UW ∧ Cond.selects yX1_learnRound.cls yX1_learnRound yX1_learnRound ∈ UW := ⟨UW_mem (tb6 (List.mem_of_getElem? (i := 33) rfl)) rfl, UW_at 43 (by decide +kernel) rfl⟩
theorem miX1_winnerOf : MI yX1_winnerOf cX1_winnerOf 3 (some .int) 1 := ⟨UW_mem (tb6 (List.mem_of_getElem? (i := 39) rfl)) rfl, iniX1, by decide +kernel⟩
theorem inX1_winnerOf : Cond.instanceMethod yX1_winnerOf ∈ UW ∧ Cond.selects yX1_winnerOf.cls yX1_winnerOf yX1_winnerOf ∈ UW := ⟨UW_mem (tb6 (List.mem_of_getElem? (i := 37) rfl)) rfl, UW_mem (tb6 (List.mem_of_getElem? (i := 38) rfl)) rfl⟩
theorem miX1_turnsOf : MI yX1_turnsOf cX1_turnsOf 2 (some .int) 1 := ⟨UW_mem (tb6 (List.mem_of_getElem? (i := 43) rfl)) rfl, iniX1, by decide +kernel⟩
theorem inX1_turnsOf : Cond.instanceMethod yX1_turnsOf ∈ UW ∧ Cond.selects yX1_turnsOf.cls yX1_turnsOf yX1_turnsOf ∈ UW := ⟨UW_mem (tb6 (List.mem_of_getElem? (i := 41) rfl)) rfl, UW_mem (tb6 (List.mem_of_getElem? (i := 42) rfl)) rfl⟩
theorem miX11_his : MI yX11_his cX11_his 1 (some .int) 0 := ⟨UW_mem (tb6 (List.mem_of_getElem? (i := 47) rfl)) rfl, iniX11, by decide +kernel⟩
theorem inX11_his : Cond.instanceMethod yX11_his ∈ UW ∧ Cond.selects yX11_his.cls yX11_his yX11_his ∈ UW := ⟨UW_mem (tb6 (List.mem_of_getElem? (i := 45) rfl)) rfl, UW_mem (tb6 (List.mem_of_getElem? (i := 46) rfl)) rfl⟩
theorem miX1_bestTurn : MI yX1_bestTurn cX1_bestTurn 5 (some .int) 1 := ⟨UW_mem (tb6 (List.mem_of_getElem? (i := 51) rfl)) rfl, iniX1, by decide +kernel⟩
theorem inX1_bestTurn : Cond.instanceMethod yX1_bestTurn ∈ UW ∧ Cond.selects yX1_bestTurn.cls yX1_bestTurn yX1_bestTurn ∈ UW := ⟨UW_mem (tb6 (List.mem_of_getElem? (i := 49) rfl)) rfl, UW_mem (tb6 (List.mem_of_getElem? (i := 50) rfl)) rfl⟩
theorem miX11_see : MI yX11_see cX11_see 4 (some .boolean) 3 := ⟨UW_mem (tb6 (List.mem_of_getElem? (i := 55) rfl)) rfl, iniX11, by decide +kernel⟩
theorem inX11_see : Cond.instanceMethod yX11_see ∈ UW ∧ Cond.selects yX11_see.cls yX11_see yX11_see ∈ UW := ⟨UW_mem (tb6 (List.mem_of_getElem? (i := 53) rfl)) rfl, UW_mem (tb6 (List.mem_of_getElem? (i := 54) rfl)) rfl⟩
theorem miX11_isPlace : MI yX11_isPlace cX11_isPlace 2 (some .boolean) 1 := ⟨UW_mem (tb6 (List.mem_of_getElem? (i := 59) rfl)) rfl, iniX11, by decide +kernel⟩
theorem inX11_isPlace : Cond.instanceMethod yX11_isPlace ∈ UW ∧ Cond.selects yX11_isPlace.cls yX11_isPlace yX11_isPlace ∈ UW := ⟨UW_mem (tb6 (List.mem_of_getElem? (i := 58) rfl)) rfl, UW_at 44 (by decide +kernel) rfl⟩
theorem miX5_addClue : MI yX5_addClue cX5_addClue 4 (some .boolean) 3 := ⟨UW_mem (tb6 (List.mem_of_getElem? (i := 63) rfl)) rfl, iniX5, by decide +kernel⟩
theorem inX5_addClue : Cond.instanceMethod yX5_addClue ∈ UW ∧ Cond.selects yX5_addClue.cls yX5_addClue yX5_addClue ∈ UW := ⟨UW_mem (tb6 (List.mem_of_getElem? (i := 61) rfl)) rfl, UW_mem (tb6 (List.mem_of_getElem? (i := 62) rfl)) rfl⟩
theorem miX11_lies : MI yX11_lies cX11_lies 3 (some .boolean) 2 := ⟨UW_mem (tb6 (List.mem_of_getElem? (i := 68) rfl)) rfl, iniX11, by decide +kernel⟩
theorem inX11_lies : Cond.instanceMethod yX11_lies ∈ UW ∧ Cond.selects yX11_lies.cls yX11_lies yX11_lies ∈ UW := ⟨UW_mem (tb6 (List.mem_of_getElem? (i := 66) rfl)) rfl, UW_mem (tb6 (List.mem_of_getElem? (i := 67) rfl)) rfl⟩
theorem miX11_fit : MI yX11_fit cX11_fit 3 (some .int) 0 := ⟨UW_mem (tb6 (List.mem_of_getElem? (i := 72) rfl)) rfl, iniX11, by decide +kernel⟩
theorem inX11_fit : Cond.instanceMethod yX11_fit ∈ UW ∧ Cond.selects yX11_fit.cls yX11_fit yX11_fit ∈ UW := ⟨UW_mem (tb6 (List.mem_of_getElem? (i := 70) rfl)) rfl, UW_mem (tb6 (List.mem_of_getElem? (i := 71) rfl)) rfl⟩
theorem miX5_fits : MI yX5_fits cX5_fits 4 (some .boolean) 2 := ⟨UW_mem (tb6 (List.mem_of_getElem? (i := 77) rfl)) rfl, iniX5, by decide +kernel⟩
theorem inX5_fits : Cond.instanceMethod yX5_fits ∈ UW ∧ Cond.selects yX5_fits.cls yX5_fits yX5_fits ∈ UW := ⟨UW_mem (tb6 (List.mem_of_getElem? (i := 75) rfl)) rfl, UW_mem (tb6 (List.mem_of_getElem? (i := 76) rfl)) rfl⟩
theorem miX5_holds : MI yX5_holds cX5_holds 6 (some .boolean) 3 := ⟨UW_mem (tb6 (List.mem_of_getElem? (i := 81) rfl)) rfl, iniX5, by decide +kernel⟩
theorem stX5_holds : Cond.static yX5_holds ∈ UW := UW_mem (tb6 (List.mem_of_getElem? (i := 80) rfl)) rfl
theorem miX11_look : MI yX11_look cX11_look 5 (some .int) 0 := ⟨UW_mem (tb6 (List.mem_of_getElem? (i := 87) rfl)) rfl, iniX11, by decide +kernel⟩
theorem inX11_look : Cond.instanceMethod yX11_look ∈ UW ∧ Cond.selects yX11_look.cls yX11_look yX11_look ∈ UW := ⟨UW_mem (tb6 (List.mem_of_getElem? (i := 85) rfl)) rfl, UW_mem (tb6 (List.mem_of_getElem? (i := 86) rfl)) rfl⟩
theorem miX11_fillTally : MI yX11_fillTally cX11_fillTally 3 (some .int) 0 := ⟨UW_mem (tb6 (List.mem_of_getElem? (i := 91) rfl)) rfl, iniX11, by decide +kernel⟩
theorem inX11_fillTally : Cond.instanceMethod yX11_fillTally ∈ UW ∧ Cond.selects yX11_fillTally.cls yX11_fillTally yX11_fillTally ∈ UW := ⟨UW_mem (tb6 (List.mem_of_getElem? (i := 90) rfl)) rfl, UW_at 45 (by decide +kernel) rfl⟩
theorem miX7_clearTally : MI yX7_clearTally cX7_clearTally 1 none 0 := ⟨UW_mem (tb6 (List.mem_of_getElem? (i := 95) rfl)) rfl, iniX7, by decide +kernel⟩
theorem inX7_clearTally : Cond.instanceMethod yX7_clearTally ∈ UW ∧ Cond.selects yX7_clearTally.cls yX7_clearTally yX7_clearTally ∈ UW := ⟨UW_mem (tb6 (List.mem_of_getElem? (i := 93) rfl)) rfl, UW_mem (tb6 (List.mem_of_getElem? (i := 94) rfl)) rfl⟩
theorem miX7_addToTally : MI yX7_addToTally cX7_addToTally 5 none 1 := ⟨UW_mem (tb6 (List.mem_of_getElem? (i := 100) rfl)) rfl, iniX7, by decide +kernel⟩
theorem inX7_addToTally : Cond.instanceMethod yX7_addToTally ∈ UW ∧ Cond.selects yX7_addToTally.cls yX7_addToTally yX7_addToTally ∈ UW := ⟨UW_mem (tb6 (List.mem_of_getElem? (i := 98) rfl)) rfl, UW_mem (tb6 (List.mem_of_getElem? (i := 99) rfl)) rfl⟩
theorem miX7_tallyEntry : MI yX7_tallyEntry cX7_tallyEntry 3 (some .int) 3 := ⟨UW_mem (tb6 (List.mem_of_getElem? (i := 103) rfl)) rfl, iniX7, by decide +kernel⟩
theorem stX7_tallyEntry : Cond.static yX7_tallyEntry ∈ UW := UW_mem (tb6 (List.mem_of_getElem? (i := 102) rfl)) rfl
theorem miX7_mostInTally : MI yX7_mostInTally cX7_mostInTally 5 (some .int) 1 := ⟨UW_mem (tb6 (List.mem_of_getElem? (i := 107) rfl)) rfl, iniX7, by decide +kernel⟩
theorem inX7_mostInTally : Cond.instanceMethod yX7_mostInTally ∈ UW ∧ Cond.selects yX7_mostInTally.cls yX7_mostInTally yX7_mostInTally ∈ UW := ⟨UW_mem (tb6 (List.mem_of_getElem? (i := 105) rfl)) rfl, UW_mem (tb6 (List.mem_of_getElem? (i := 106) rfl)) rfl⟩
theorem miX11_chance : MI yX11_chance cX11_chance 7 (some .int) 2 := ⟨UW_mem (tb6 (List.mem_of_getElem? (i := 111) rfl)) rfl, iniX11, by decide +kernel⟩
theorem inX11_chance : Cond.instanceMethod yX11_chance ∈ UW ∧ Cond.selects yX11_chance.cls yX11_chance yX11_chance ∈ UW := ⟨UW_mem (tb6 (List.mem_of_getElem? (i := 109) rfl)) rfl, UW_mem (tb6 (List.mem_of_getElem? (i := 110) rfl)) rfl⟩
theorem miX7_startCounts : MI yX7_startCounts cX7_startCounts 2 none 1 := ⟨UW_mem (tb6 (List.mem_of_getElem? (i := 115) rfl)) rfl, iniX7, by decide +kernel⟩
theorem inX7_startCounts : Cond.instanceMethod yX7_startCounts ∈ UW ∧ Cond.selects yX7_startCounts.cls yX7_startCounts yX7_startCounts ∈ UW := ⟨UW_mem (tb6 (List.mem_of_getElem? (i := 113) rfl)) rfl, UW_mem (tb6 (List.mem_of_getElem? (i := 114) rfl)) rfl⟩
theorem miX7_spreadCounts : MI yX7_spreadCounts cX7_spreadCounts 7 none 1 := ⟨UW_mem (tb6 (List.mem_of_getElem? (i := 119) rfl)) rfl, iniX7, by decide +kernel⟩
theorem inX7_spreadCounts : Cond.instanceMethod yX7_spreadCounts ∈ UW ∧ Cond.selects yX7_spreadCounts.cls yX7_spreadCounts yX7_spreadCounts ∈ UW := ⟨UW_mem (tb6 (List.mem_of_getElem? (i := 117) rfl)) rfl, UW_mem (tb6 (List.mem_of_getElem? (i := 118) rfl)) rfl⟩
theorem miX7_countOf : MI yX7_countOf cX7_countOf 2 (some .int) 1 := ⟨UW_mem (tb6 (List.mem_of_getElem? (i := 126) rfl)) rfl, iniX7, by decide +kernel⟩
theorem inX7_countOf : Cond.instanceMethod yX7_countOf ∈ UW ∧ Cond.selects yX7_countOf.cls yX7_countOf yX7_countOf ∈ UW := ⟨UW_mem (tb6 (List.mem_of_getElem? (i := 124) rfl)) rfl, UW_mem (tb6 (List.mem_of_getElem? (i := 125) rfl)) rfl⟩
theorem miX11_mornings : MI yX11_mornings cX11_mornings 12 (some .int) 3 := ⟨UW_mem (tb6 (List.mem_of_getElem? (i := 131) rfl)) rfl, iniX11, by decide +kernel⟩
theorem inX11_mornings : Cond.instanceMethod yX11_mornings ∈ UW ∧ Cond.selects yX11_mornings.cls yX11_mornings yX11_mornings ∈ UW := ⟨UW_mem (tb6 (List.mem_of_getElem? (i := 129) rfl)) rfl, UW_mem (tb6 (List.mem_of_getElem? (i := 130) rfl)) rfl⟩
theorem miX11_nextState : MI yX11_nextState cX11_nextState 2 (some .long) 1 := ⟨UW_mem (tb6 (List.mem_of_getElem? (i := 134) rfl)) rfl, iniX11, by decide +kernel⟩
theorem stX11_nextState : Cond.static yX11_nextState ∈ UW := UW_mem (tb6 (List.mem_of_getElem? (i := 133) rfl)) rfl
theorem miX11_drawBelow : MI yX11_drawBelow cX11_drawBelow 3 (some .int) 2 := ⟨UW_mem (tb6 (List.mem_of_getElem? (i := 140) rfl)) rfl, iniX11, by decide +kernel⟩
theorem stX11_drawBelow : Cond.static yX11_drawBelow ∈ UW := UW_mem (tb6 (List.mem_of_getElem? (i := 139) rfl)) rfl
theorem miX11_mark : MI yX11_mark cX11_mark 4 (some .boolean) 2 := ⟨UW_mem (tb6 (List.mem_of_getElem? (i := 145) rfl)) rfl, iniX11, by decide +kernel⟩
theorem inX11_mark : Cond.instanceMethod yX11_mark ∈ UW ∧ Cond.selects yX11_mark.cls yX11_mark yX11_mark ∈ UW := ⟨UW_mem (tb6 (List.mem_of_getElem? (i := 143) rfl)) rfl, UW_mem (tb6 (List.mem_of_getElem? (i := 144) rfl)) rfl⟩
theorem miX5_become : MI yX5_become cX5_become 3 none 1 := ⟨UW_mem (tb6 (List.mem_of_getElem? (i := 149) rfl)) rfl, iniX5, by decide +kernel⟩
theorem inX5_become : Cond.instanceMethod yX5_become ∈ UW ∧ Cond.selects yX5_become.cls yX5_become yX5_become ∈ UW := ⟨UW_mem (tb6 (List.mem_of_getElem? (i := 147) rfl)) rfl, UW_mem (tb6 (List.mem_of_getElem? (i := 148) rfl)) rfl⟩
theorem miX5_isLaid : MI yX5_isLaid cX5_isLaid 1 (some .boolean) 0 := ⟨UW_mem (tb6 (List.mem_of_getElem? (i := 153) rfl)) rfl, iniX5, by decide +kernel⟩
theorem inX5_isLaid : Cond.instanceMethod yX5_isLaid ∈ UW ∧ Cond.selects yX5_isLaid.cls yX5_isLaid yX5_isLaid ∈ UW := ⟨UW_mem (tb6 (List.mem_of_getElem? (i := 151) rfl)) rfl, UW_mem (tb6 (List.mem_of_getElem? (i := 152) rfl)) rfl⟩
theorem miX11_count : MI yX11_count cX11_count 2 (some .int) 1 := ⟨UW_mem (tb6 (List.mem_of_getElem? (i := 157) rfl)) rfl, iniX11, by decide +kernel⟩
theorem inX11_count : Cond.instanceMethod yX11_count ∈ UW ∧ Cond.selects yX11_count.cls yX11_count yX11_count ∈ UW := ⟨UW_mem (tb6 (List.mem_of_getElem? (i := 155) rfl)) rfl, UW_mem (tb6 (List.mem_of_getElem? (i := 156) rfl)) rfl⟩
theorem miX5_turns : MI yX5_turns cX5_turns 1 (some .int) 0 := ⟨UW_mem (tb6 (List.mem_of_getElem? (i := 161) rfl)) rfl, iniX5, by decide +kernel⟩
theorem inX5_turns : Cond.instanceMethod yX5_turns ∈ UW ∧ Cond.selects yX5_turns.cls yX5_turns yX5_turns ∈ UW := ⟨UW_mem (tb6 (List.mem_of_getElem? (i := 159) rfl)) rfl, UW_mem (tb6 (List.mem_of_getElem? (i := 160) rfl)) rfl⟩
theorem miX5_spent : MI yX5_spent cX5_spent 1 (some .int) 0 := ⟨UW_mem (tb6 (List.mem_of_getElem? (i := 165) rfl)) rfl, iniX5, by decide +kernel⟩
theorem inX5_spent : Cond.instanceMethod yX5_spent ∈ UW ∧ Cond.selects yX5_spent.cls yX5_spent yX5_spent ∈ UW := ⟨UW_mem (tb6 (List.mem_of_getElem? (i := 163) rfl)) rfl, UW_mem (tb6 (List.mem_of_getElem? (i := 164) rfl)) rfl⟩
theorem miX11_openBits : MI yX11_openBits cX11_openBits 3 (some .int) 0 := ⟨UW_mem (tb6 (List.mem_of_getElem? (i := 169) rfl)) rfl, iniX11, by decide +kernel⟩
theorem inX11_openBits : Cond.instanceMethod yX11_openBits ∈ UW ∧ Cond.selects yX11_openBits.cls yX11_openBits yX11_openBits ∈ UW := ⟨UW_mem (tb6 (List.mem_of_getElem? (i := 168) rfl)) rfl, UW_at 46 (by decide +kernel) rfl⟩
theorem miX5_seen : MI yX5_seen cX5_seen 1 (some .int) 0 := ⟨UW_mem (tb6 (List.mem_of_getElem? (i := 173) rfl)) rfl, iniX5, by decide +kernel⟩
theorem inX5_seen : Cond.instanceMethod yX5_seen ∈ UW ∧ Cond.selects yX5_seen.cls yX5_seen yX5_seen ∈ UW := ⟨UW_mem (tb6 (List.mem_of_getElem? (i := 171) rfl)) rfl, UW_mem (tb6 (List.mem_of_getElem? (i := 172) rfl)) rfl⟩
theorem miX11_rests : MI yX11_rests cX11_rests 10 (some .int) 4 := ⟨UW_mem (tb6 (List.mem_of_getElem? (i := 181) rfl)) rfl, iniX11, by decide +kernel⟩
theorem inX11_rests : Cond.instanceMethod yX11_rests ∈ UW ∧ Cond.selects yX11_rests.cls yX11_rests yX11_rests ∈ UW := ⟨UW_mem (tb6 (List.mem_of_getElem? (i := 179) rfl)) rfl, UW_mem (tb6 (List.mem_of_getElem? (i := 180) rfl)) rfl⟩
theorem miX11_isDigit : MI yX11_isDigit cX11_isDigit 1 (some .boolean) 1 := ⟨UW_mem (tb6 (List.mem_of_getElem? (i := 184) rfl)) rfl, iniX11, by decide +kernel⟩
theorem stX11_isDigit : Cond.static yX11_isDigit ∈ UW := UW_mem (tb6 (List.mem_of_getElem? (i := 183) rfl)) rfl
theorem miX11_gain : MI yX11_gain cX11_gain 5 (some .int) 5 := ⟨UW_mem (tb7 (List.mem_of_getElem? (i := 8) rfl)) rfl, iniX11, by decide +kernel⟩
theorem stX11_gain : Cond.static yX11_gain ∈ UW := UW_mem (tb7 (List.mem_of_getElem? (i := 7) rfl)) rfl
theorem miX12_thrown : MI yX12_thrown cX12_thrown 1 (some .int) 0 := ⟨UW_mem (tb7 (List.mem_of_getElem? (i := 12) rfl)) rfl, iniX12, by decide +kernel⟩
theorem inX12_thrown : Cond.instanceMethod yX12_thrown ∈ UW ∧ Cond.selects yX12_thrown.cls yX12_thrown yX12_thrown ∈ UW := ⟨UW_mem (tb7 (List.mem_of_getElem? (i := 10) rfl)) rfl, UW_mem (tb7 (List.mem_of_getElem? (i := 11) rfl)) rfl⟩
theorem miX12_feed : MI yX12_feed cX12_feed 7 (some .int) 3 := ⟨UW_mem (tb7 (List.mem_of_getElem? (i := 16) rfl)) rfl, iniX12, by decide +kernel⟩
theorem inX12_feed : Cond.instanceMethod yX12_feed ∈ UW ∧ Cond.selects yX12_feed.cls yX12_feed yX12_feed ∈ UW := ⟨UW_mem (tb7 (List.mem_of_getElem? (i := 14) rfl)) rfl, UW_mem (tb7 (List.mem_of_getElem? (i := 15) rfl)) rfl⟩
theorem miX12_lay : MI yX12_lay cX12_lay 5 none 1 := ⟨UW_mem (tb7 (List.mem_of_getElem? (i := 21) rfl)) rfl, iniX12, by decide +kernel⟩
theorem inX12_lay : Cond.instanceMethod yX12_lay ∈ UW ∧ Cond.selects yX12_lay.cls yX12_lay yX12_lay ∈ UW := ⟨UW_mem (tb7 (List.mem_of_getElem? (i := 19) rfl)) rfl, UW_at 48 (by decide +kernel) rfl⟩
theorem miX12_init : MI yX12_init cX12_init 1 none 0 := ⟨UW_mem (tb7 (List.mem_of_getElem? (i := 25) rfl)) rfl, iniX12, by decide +kernel⟩
theorem inX12_init : yX12_init.name = "<init>" ∧ Cond.instanceMethod yX12_init ∈ UW := ⟨rfl, UW_mem (tb7 (List.mem_of_getElem? (i := 24) rfl)) rfl⟩
theorem miX12_standsAsAlways : MI yX12_standsAsAlways cX12_standsAsAlways 3 none 1 := ⟨UW_mem (tb7 (List.mem_of_getElem? (i := 48) rfl)) rfl, iniX12, by decide +kernel⟩
theorem inX12_standsAsAlways : Cond.instanceMethod yX12_standsAsAlways ∈ UW ∧ Cond.selects yX12_standsAsAlways.cls yX12_standsAsAlways yX12_standsAsAlways ∈ UW := ⟨UW_mem (tb7 (List.mem_of_getElem? (i := 47) rfl)) rfl, UW_at 49 (by decide +kernel) rfl⟩
theorem miX12_begins : MI yX12_begins cX12_begins 2 none 0 := ⟨UW_mem (tb7 (List.mem_of_getElem? (i := 52) rfl)) rfl, iniX12, by decide +kernel⟩
theorem inX12_begins : Cond.instanceMethod yX12_begins ∈ UW ∧ Cond.selects yX12_begins.cls yX12_begins yX12_begins ∈ UW := ⟨UW_mem (tb7 (List.mem_of_getElem? (i := 51) rfl)) rfl, UW_at 50 (by decide +kernel) rfl⟩
theorem miX12_cakes : MI yX12_cakes cX12_cakes 1 (some .int) 0 := ⟨UW_mem (tb7 (List.mem_of_getElem? (i := 56) rfl)) rfl, iniX12, by decide +kernel⟩
theorem inX12_cakes : Cond.instanceMethod yX12_cakes ∈ UW ∧ Cond.selects yX12_cakes.cls yX12_cakes yX12_cakes ∈ UW := ⟨UW_mem (tb7 (List.mem_of_getElem? (i := 55) rfl)) rfl, UW_at 51 (by decide +kernel) rfl⟩
theorem miX12_hasSide : MI yX12_hasSide cX12_hasSide 2 (some .boolean) 1 := ⟨UW_mem (tb7 (List.mem_of_getElem? (i := 60) rfl)) rfl, iniX12, by decide +kernel⟩
theorem inX12_hasSide : Cond.instanceMethod yX12_hasSide ∈ UW ∧ Cond.selects yX12_hasSide.cls yX12_hasSide yX12_hasSide ∈ UW := ⟨UW_mem (tb7 (List.mem_of_getElem? (i := 59) rfl)) rfl, UW_at 52 (by decide +kernel) rfl⟩
theorem miX12_cakeOf : MI yX12_cakeOf cX12_cakeOf 3 (some .int) 2 := ⟨UW_mem (tb7 (List.mem_of_getElem? (i := 64) rfl)) rfl, iniX12, by decide +kernel⟩
theorem inX12_cakeOf : Cond.instanceMethod yX12_cakeOf ∈ UW ∧ Cond.selects yX12_cakeOf.cls yX12_cakeOf yX12_cakeOf ∈ UW := ⟨UW_mem (tb7 (List.mem_of_getElem? (i := 63) rfl)) rfl, UW_at 53 (by decide +kernel) rfl⟩
theorem miX12_numberNow : MI yX12_numberNow cX12_numberNow 5 (some .int) 0 := ⟨UW_mem (tb7 (List.mem_of_getElem? (i := 68) rfl)) rfl, iniX12, by decide +kernel⟩
theorem inX12_numberNow : Cond.instanceMethod yX12_numberNow ∈ UW ∧ Cond.selects yX12_numberNow.cls yX12_numberNow yX12_numberNow ∈ UW := ⟨UW_mem (tb7 (List.mem_of_getElem? (i := 67) rfl)) rfl, UW_at 54 (by decide +kernel) rfl⟩
theorem miX12_griddle : MI yX12_griddle cX12_griddle 2 (some .int) 0 := ⟨UW_mem (tb7 (List.mem_of_getElem? (i := 167) rfl)) rfl, iniX12, by decide +kernel⟩
theorem inX12_griddle : Cond.instanceMethod yX12_griddle ∈ UW ∧ Cond.selects yX12_griddle.cls yX12_griddle yX12_griddle ∈ UW := ⟨UW_mem (tb7 (List.mem_of_getElem? (i := 165) rfl)) rfl, UW_mem (tb7 (List.mem_of_getElem? (i := 166) rfl)) rfl⟩
theorem miX12_cutAll : MI yX12_cutAll cX12_cutAll 7 none 0 := ⟨UW_mem (tb7 (List.mem_of_getElem? (i := 171) rfl)) rfl, iniX12, by decide +kernel⟩
theorem inX12_cutAll : Cond.instanceMethod yX12_cutAll ∈ UW ∧ Cond.selects yX12_cutAll.cls yX12_cutAll yX12_cutAll ∈ UW := ⟨UW_mem (tb7 (List.mem_of_getElem? (i := 170) rfl)) rfl, UW_at 55 (by decide +kernel) rfl⟩
theorem miX12_isLetter : MI yX12_isLetter cX12_isLetter 1 (some .boolean) 1 := ⟨UW_mem (tb7 (List.mem_of_getElem? (i := 174) rfl)) rfl, iniX12, by decide +kernel⟩
theorem stX12_isLetter : Cond.static yX12_isLetter ∈ UW := UW_mem (tb7 (List.mem_of_getElem? (i := 173) rfl)) rfl
theorem miX12_rank : MI yX12_rank cX12_rank 1 (some .int) 1 := ⟨UW_mem (tb7 (List.mem_of_getElem? (i := 178) rfl)) rfl, iniX12, by decide +kernel⟩
theorem stX12_rank : Cond.static yX12_rank ∈ UW := UW_mem (tb7 (List.mem_of_getElem? (i := 177) rfl)) rfl
theorem miX12_isDigit : MI yX12_isDigit cX12_isDigit 1 (some .boolean) 1 := ⟨UW_mem (tb7 (List.mem_of_getElem? (i := 181) rfl)) rfl, iniX12, by decide +kernel⟩
theorem stX12_isDigit : Cond.static yX12_isDigit ∈ UW := UW_mem (tb7 (List.mem_of_getElem? (i := 180) rfl)) rfl
theorem miX12_isSignOf : MI yX12_isSignOf cX12_isSignOf 1 (some .boolean) 1 := ⟨UW_mem (tb7 (List.mem_of_getElem? (i := 186) rfl)) rfl, iniX12, by decide +kernel⟩
theorem stX12_isSignOf : Cond.static yX12_isSignOf ∈ UW := UW_mem (tb7 (List.mem_of_getElem? (i := 185) rfl)) rfl
theorem miX12_isWord : MI yX12_isWord cX12_isWord 2 (some .boolean) 1 := ⟨UW_mem (tb7 (List.mem_of_getElem? (i := 190) rfl)) rfl, iniX12, by decide +kernel⟩
theorem inX12_isWord : Cond.instanceMethod yX12_isWord ∈ UW ∧ Cond.selects yX12_isWord.cls yX12_isWord yX12_isWord ∈ UW := ⟨UW_mem (tb7 (List.mem_of_getElem? (i := 189) rfl)) rfl, UW_at 56 (by decide +kernel) rfl⟩
theorem miX12_readCake : MI yX12_readCake cX12_readCake 6 none 0 := ⟨UW_mem (tb7 (List.mem_of_getElem? (i := 194) rfl)) rfl, iniX12, by decide +kernel⟩
theorem inX12_readCake : Cond.instanceMethod yX12_readCake ∈ UW ∧ Cond.selects yX12_readCake.cls yX12_readCake yX12_readCake ∈ UW := ⟨UW_mem (tb7 (List.mem_of_getElem? (i := 193) rfl)) rfl, UW_at 57 (by decide +kernel) rfl⟩
theorem miX12_wrong : MI yX12_wrong cX12_wrong 2 none 1 := ⟨UW_mem (tb7 (List.mem_of_getElem? (i := 198) rfl)) rfl, iniX12, by decide +kernel⟩
theorem inX12_wrong : Cond.instanceMethod yX12_wrong ∈ UW ∧ Cond.selects yX12_wrong.cls yX12_wrong yX12_wrong ∈ UW := ⟨UW_mem (tb7 (List.mem_of_getElem? (i := 197) rfl)) rfl, UW_at 58 (by decide +kernel) rfl⟩
theorem miX12_isName : MI yX12_isName cX12_isName 1 (some .boolean) 0 := ⟨UW_mem (tb7 (List.mem_of_getElem? (i := 202) rfl)) rfl, iniX12, by decide +kernel⟩
theorem inX12_isName : Cond.instanceMethod yX12_isName ∈ UW ∧ Cond.selects yX12_isName.cls yX12_isName yX12_isName ∈ UW := ⟨UW_mem (tb7 (List.mem_of_getElem? (i := 201) rfl)) rfl, UW_at 59 (by decide +kernel) rfl⟩
theorem miX12_wordHere : MI yX12_wordHere cX12_wordHere 5 (some .int) 2 := ⟨UW_mem (tb7 (List.mem_of_getElem? (i := 206) rfl)) rfl, iniX12, by decide +kernel⟩
theorem inX12_wordHere : Cond.instanceMethod yX12_wordHere ∈ UW ∧ Cond.selects yX12_wordHere.cls yX12_wordHere yX12_wordHere ∈ UW := ⟨UW_mem (tb7 (List.mem_of_getElem? (i := 205) rfl)) rfl, UW_at 60 (by decide +kernel) rfl⟩
theorem miX12_nameAt : MI yX12_nameAt cX12_nameAt 5 (some .int) 2 := ⟨UW_mem (tb7 (List.mem_of_getElem? (i := 210) rfl)) rfl, iniX12, by decide +kernel⟩
theorem inX12_nameAt : Cond.instanceMethod yX12_nameAt ∈ UW ∧ Cond.selects yX12_nameAt.cls yX12_nameAt yX12_nameAt ∈ UW := ⟨UW_mem (tb7 (List.mem_of_getElem? (i := 209) rfl)) rfl, UW_at 61 (by decide +kernel) rfl⟩
theorem miX12_takeOne : MI yX12_takeOne cX12_takeOne 4 (some .int) 2 := ⟨UW_mem (tb7 (List.mem_of_getElem? (i := 214) rfl)) rfl, iniX12, by decide +kernel⟩
theorem inX12_takeOne : Cond.instanceMethod yX12_takeOne ∈ UW ∧ Cond.selects yX12_takeOne.cls yX12_takeOne yX12_takeOne ∈ UW := ⟨UW_mem (tb7 (List.mem_of_getElem? (i := 213) rfl)) rfl, UW_at 62 (by decide +kernel) rfl⟩
theorem miX12_takeWord : MI yX12_takeWord cX12_takeWord 2 none 1 := ⟨UW_mem (tb7 (List.mem_of_getElem? (i := 218) rfl)) rfl, iniX12, by decide +kernel⟩
theorem inX12_takeWord : Cond.instanceMethod yX12_takeWord ∈ UW ∧ Cond.selects yX12_takeWord.cls yX12_takeWord yX12_takeWord ∈ UW := ⟨UW_mem (tb7 (List.mem_of_getElem? (i := 217) rfl)) rfl, UW_at 63 (by decide +kernel) rfl⟩
theorem miX12_hasWord : MI yX12_hasWord cX12_hasWord 3 (some .boolean) 1 := ⟨UW_mem (tb7 (List.mem_of_getElem? (i := 222) rfl)) rfl, iniX12, by decide +kernel⟩
theorem inX12_hasWord : Cond.instanceMethod yX12_hasWord ∈ UW ∧ Cond.selects yX12_hasWord.cls yX12_hasWord yX12_hasWord ∈ UW := ⟨UW_mem (tb7 (List.mem_of_getElem? (i := 221) rfl)) rfl, UW_at 64 (by decide +kernel) rfl⟩
theorem miX12_takeNumber : MI yX12_takeNumber cX12_takeNumber 3 (some .int) 2 := ⟨UW_mem (tb7 (List.mem_of_getElem? (i := 226) rfl)) rfl, iniX12, by decide +kernel⟩
theorem inX12_takeNumber : Cond.instanceMethod yX12_takeNumber ∈ UW ∧ Cond.selects yX12_takeNumber.cls yX12_takeNumber yX12_takeNumber ∈ UW := ⟨UW_mem (tb7 (List.mem_of_getElem? (i := 225) rfl)) rfl, UW_at 65 (by decide +kernel) rfl⟩
theorem miX12_readLaw : MI yX12_readLaw cX12_readLaw 2 none 0 := ⟨UW_mem (tb7 (List.mem_of_getElem? (i := 230) rfl)) rfl, iniX12, by decide +kernel⟩
theorem inX12_readLaw : Cond.instanceMethod yX12_readLaw ∈ UW ∧ Cond.selects yX12_readLaw.cls yX12_readLaw yX12_readLaw ∈ UW := ⟨UW_mem (tb7 (List.mem_of_getElem? (i := 229) rfl)) rfl, UW_at 66 (by decide +kernel) rfl⟩
theorem miX12_whole : MI yX12_whole cX12_whole 3 none 1 := ⟨UW_mem (tb7 (List.mem_of_getElem? (i := 234) rfl)) rfl, iniX12, by decide +kernel⟩
theorem inX12_whole : Cond.instanceMethod yX12_whole ∈ UW ∧ Cond.selects yX12_whole.cls yX12_whole yX12_whole ∈ UW := ⟨UW_mem (tb7 (List.mem_of_getElem? (i := 233) rfl)) rfl, UW_at 67 (by decide +kernel) rfl⟩
theorem miX12_test : MI yX12_test cX12_test 3 none 1 := ⟨UW_mem (tb7 (List.mem_of_getElem? (i := 238) rfl)) rfl, iniX12, by decide +kernel⟩
theorem inX12_test : Cond.instanceMethod yX12_test ∈ UW ∧ Cond.selects yX12_test.cls yX12_test yX12_test ∈ UW := ⟨UW_mem (tb7 (List.mem_of_getElem? (i := 237) rfl)) rfl, UW_at 68 (by decide +kernel) rfl⟩
theorem miX12_sums : MI yX12_sums cX12_sums 3 none 1 := ⟨UW_mem (tb8 (List.mem_of_getElem? (i := 2) rfl)) rfl, iniX12, by decide +kernel⟩
theorem inX12_sums : Cond.instanceMethod yX12_sums ∈ UW ∧ Cond.selects yX12_sums.cls yX12_sums yX12_sums ∈ UW := ⟨UW_mem (tb8 (List.mem_of_getElem? (i := 1) rfl)) rfl, UW_at 69 (by decide +kernel) rfl⟩
theorem miX12_products : MI yX12_products cX12_products 2 none 1 := ⟨UW_mem (tb8 (List.mem_of_getElem? (i := 6) rfl)) rfl, iniX12, by decide +kernel⟩
theorem inX12_products : Cond.instanceMethod yX12_products ∈ UW ∧ Cond.selects yX12_products.cls yX12_products yX12_products ∈ UW := ⟨UW_mem (tb8 (List.mem_of_getElem? (i := 5) rfl)) rfl, UW_at 70 (by decide +kernel) rfl⟩
theorem miX12_takePart : MI yX12_takePart cX12_takePart 4 none 1 := ⟨UW_mem (tb8 (List.mem_of_getElem? (i := 10) rfl)) rfl, iniX12, by decide +kernel⟩
theorem inX12_takePart : Cond.instanceMethod yX12_takePart ∈ UW ∧ Cond.selects yX12_takePart.cls yX12_takePart yX12_takePart ∈ UW := ⟨UW_mem (tb8 (List.mem_of_getElem? (i := 9) rfl)) rfl, UW_at 71 (by decide +kernel) rfl⟩
theorem miX12_isSign : MI yX12_isSign cX12_isSign 2 (some .boolean) 1 := ⟨UW_mem (tb8 (List.mem_of_getElem? (i := 14) rfl)) rfl, iniX12, by decide +kernel⟩
theorem inX12_isSign : Cond.instanceMethod yX12_isSign ∈ UW ∧ Cond.selects yX12_isSign.cls yX12_isSign yX12_isSign ∈ UW := ⟨UW_mem (tb8 (List.mem_of_getElem? (i := 13) rfl)) rfl, UW_at 72 (by decide +kernel) rfl⟩
theorem miX12_emit : MI yX12_emit cX12_emit 3 none 2 := ⟨UW_mem (tb8 (List.mem_of_getElem? (i := 18) rfl)) rfl, iniX12, by decide +kernel⟩
theorem inX12_emit : Cond.instanceMethod yX12_emit ∈ UW ∧ Cond.selects yX12_emit.cls yX12_emit yX12_emit ∈ UW := ⟨UW_mem (tb8 (List.mem_of_getElem? (i := 17) rfl)) rfl, UW_at 73 (by decide +kernel) rfl⟩
theorem miX12_hasSign : MI yX12_hasSign cX12_hasSign 3 (some .boolean) 1 := ⟨UW_mem (tb8 (List.mem_of_getElem? (i := 22) rfl)) rfl, iniX12, by decide +kernel⟩
theorem inX12_hasSign : Cond.instanceMethod yX12_hasSign ∈ UW ∧ Cond.selects yX12_hasSign.cls yX12_hasSign yX12_hasSign ∈ UW := ⟨UW_mem (tb8 (List.mem_of_getElem? (i := 21) rfl)) rfl, UW_at 74 (by decide +kernel) rfl⟩
theorem miX12_takeSign : MI yX12_takeSign cX12_takeSign 2 none 1 := ⟨UW_mem (tb8 (List.mem_of_getElem? (i := 26) rfl)) rfl, iniX12, by decide +kernel⟩
theorem inX12_takeSign : Cond.instanceMethod yX12_takeSign ∈ UW ∧ Cond.selects yX12_takeSign.cls yX12_takeSign yX12_takeSign ∈ UW := ⟨UW_mem (tb8 (List.mem_of_getElem? (i := 25) rfl)) rfl, UW_at 75 (by decide +kernel) rfl⟩
theorem miX12_plan : MI yX12_plan cX12_plan 3 (some .int) 0 := ⟨UW_mem (tb8 (List.mem_of_getElem? (i := 30) rfl)) rfl, iniX12, by decide +kernel⟩
theorem inX12_plan : Cond.instanceMethod yX12_plan ∈ UW ∧ Cond.selects yX12_plan.cls yX12_plan yX12_plan ∈ UW := ⟨UW_mem (tb8 (List.mem_of_getElem? (i := 28) rfl)) rfl, UW_mem (tb8 (List.mem_of_getElem? (i := 29) rfl)) rfl⟩
theorem miX12_wish : MI yX12_wish cX12_wish 4 (some .int) 0 := ⟨UW_mem (tb8 (List.mem_of_getElem? (i := 34) rfl)) rfl, iniX12, by decide +kernel⟩
theorem inX12_wish : Cond.instanceMethod yX12_wish ∈ UW ∧ Cond.selects yX12_wish.cls yX12_wish yX12_wish ∈ UW := ⟨UW_mem (tb8 (List.mem_of_getElem? (i := 32) rfl)) rfl, UW_mem (tb8 (List.mem_of_getElem? (i := 33) rfl)) rfl⟩
theorem miX12_cake : MI yX12_cake cX12_cake 4 (some .int) 2 := ⟨UW_mem (tb8 (List.mem_of_getElem? (i := 38) rfl)) rfl, iniX12, by decide +kernel⟩
theorem inX12_cake : Cond.instanceMethod yX12_cake ∈ UW ∧ Cond.selects yX12_cake.cls yX12_cake yX12_cake ∈ UW := ⟨UW_mem (tb8 (List.mem_of_getElem? (i := 36) rfl)) rfl, UW_mem (tb8 (List.mem_of_getElem? (i := 37) rfl)) rfl⟩
theorem miX12_within : MI yX12_within cX12_within 3 (some .boolean) 3 := ⟨UW_mem (tb8 (List.mem_of_getElem? (i := 41) rfl)) rfl, iniX12, by decide +kernel⟩
theorem stX12_within : Cond.static yX12_within ∈ UW := UW_mem (tb8 (List.mem_of_getElem? (i := 40) rfl)) rfl
theorem miX12_lays : MI yX12_lays cX12_lays 9 none 1 := ⟨UW_mem (tb8 (List.mem_of_getElem? (i := 45) rfl)) rfl, iniX12, by decide +kernel⟩
theorem inX12_lays : Cond.instanceMethod yX12_lays ∈ UW ∧ Cond.selects yX12_lays.cls yX12_lays yX12_lays ∈ UW := ⟨UW_mem (tb8 (List.mem_of_getElem? (i := 44) rfl)) rfl, UW_at 76 (by decide +kernel) rfl⟩
theorem miX12_sides : MI yX12_sides cX12_sides 3 (some .int) 0 := ⟨UW_mem (tb8 (List.mem_of_getElem? (i := 49) rfl)) rfl, iniX12, by decide +kernel⟩
theorem inX12_sides : Cond.instanceMethod yX12_sides ∈ UW ∧ Cond.selects yX12_sides.cls yX12_sides yX12_sides ∈ UW := ⟨UW_mem (tb8 (List.mem_of_getElem? (i := 48) rfl)) rfl, UW_at 77 (by decide +kernel) rfl⟩
theorem miX12_ordersOf : MI yX12_ordersOf cX12_ordersOf 3 (some .int) 1 := ⟨UW_mem (tb8 (List.mem_of_getElem? (i := 52) rfl)) rfl, iniX12, by decide +kernel⟩
theorem stX12_ordersOf : Cond.static yX12_ordersOf ∈ UW := UW_mem (tb8 (List.mem_of_getElem? (i := 51) rfl)) rfl
theorem miX12_there : MI yX12_there cX12_there 2 (some .int) 1 := ⟨UW_mem (tb8 (List.mem_of_getElem? (i := 56) rfl)) rfl, iniX12, by decide +kernel⟩
theorem inX12_there : Cond.instanceMethod yX12_there ∈ UW ∧ Cond.selects yX12_there.cls yX12_there yX12_there ∈ UW := ⟨UW_mem (tb8 (List.mem_of_getElem? (i := 54) rfl)) rfl, UW_mem (tb8 (List.mem_of_getElem? (i := 55) rfl)) rfl⟩
theorem miX12_turn : MI yX12_turn cX12_turn 3 (some .int) 1 := ⟨UW_mem (tb8 (List.mem_of_getElem? (i := 60) rfl)) rfl, iniX12, by decide +kernel⟩
theorem inX12_turn : Cond.instanceMethod yX12_turn ∈ UW ∧ Cond.selects yX12_turn.cls yX12_turn yX12_turn ∈ UW := ⟨UW_mem (tb8 (List.mem_of_getElem? (i := 58) rfl)) rfl, UW_mem (tb8 (List.mem_of_getElem? (i := 59) rfl)) rfl⟩
theorem miX12_mayTurn : MI yX12_mayTurn cX12_mayTurn 2 (some .boolean) 1 := ⟨UW_mem (tb8 (List.mem_of_getElem? (i := 64) rfl)) rfl, iniX12, by decide +kernel⟩
theorem inX12_mayTurn : Cond.instanceMethod yX12_mayTurn ∈ UW ∧ Cond.selects yX12_mayTurn.cls yX12_mayTurn yX12_mayTurn ∈ UW := ⟨UW_mem (tb8 (List.mem_of_getElem? (i := 63) rfl)) rfl, UW_at 78 (by decide +kernel) rfl⟩
theorem miX12_factsFor : MI yX12_factsFor cX12_factsFor 4 none 1 := ⟨UW_mem (tb8 (List.mem_of_getElem? (i := 68) rfl)) rfl, iniX12, by decide +kernel⟩
theorem inX12_factsFor : Cond.instanceMethod yX12_factsFor ∈ UW ∧ Cond.selects yX12_factsFor.cls yX12_factsFor yX12_factsFor ∈ UW := ⟨UW_mem (tb8 (List.mem_of_getElem? (i := 67) rfl)) rfl, UW_at 79 (by decide +kernel) rfl⟩
theorem miX12_worthAt : MI yX12_worthAt cX12_worthAt 5 (some .int) 1 := ⟨UW_mem (tb8 (List.mem_of_getElem? (i := 72) rfl)) rfl, iniX12, by decide +kernel⟩
theorem inX12_worthAt : Cond.instanceMethod yX12_worthAt ∈ UW ∧ Cond.selects yX12_worthAt.cls yX12_worthAt yX12_worthAt ∈ UW := ⟨UW_mem (tb8 (List.mem_of_getElem? (i := 71) rfl)) rfl, UW_at 80 (by decide +kernel) rfl⟩
theorem miX12_both : MI yX12_both cX12_both 3 (some .int) 3 := ⟨UW_mem (tb8 (List.mem_of_getElem? (i := 75) rfl)) rfl, iniX12, by decide +kernel⟩
theorem stX12_both : Cond.static yX12_both ∈ UW := UW_mem (tb8 (List.mem_of_getElem? (i := 74) rfl)) rfl
theorem miX12_keeps : MI yX12_keeps cX12_keeps 2 none 0 := ⟨UW_mem (tb8 (List.mem_of_getElem? (i := 79) rfl)) rfl, iniX12, by decide +kernel⟩
theorem inX12_keeps : Cond.instanceMethod yX12_keeps ∈ UW ∧ Cond.selects yX12_keeps.cls yX12_keeps yX12_keeps ∈ UW := ⟨UW_mem (tb8 (List.mem_of_getElem? (i := 78) rfl)) rfl, UW_at 81 (by decide +kernel) rfl⟩
theorem miX12_copies : MI yX12_copies cX12_copies 5 none 3 := ⟨UW_mem (tb8 (List.mem_of_getElem? (i := 83) rfl)) rfl, iniX12, by decide +kernel⟩
theorem inX12_copies : Cond.instanceMethod yX12_copies ∈ UW ∧ Cond.selects yX12_copies.cls yX12_copies yX12_copies ∈ UW := ⟨UW_mem (tb8 (List.mem_of_getElem? (i := 82) rfl)) rfl, UW_at 82 (by decide +kernel) rfl⟩
theorem miX12_costOf : MI yX12_costOf cX12_costOf 3 (some .int) 1 := ⟨UW_mem (tb8 (List.mem_of_getElem? (i := 87) rfl)) rfl, iniX12, by decide +kernel⟩
theorem inX12_costOf : Cond.instanceMethod yX12_costOf ∈ UW ∧ Cond.selects yX12_costOf.cls yX12_costOf yX12_costOf ∈ UW := ⟨UW_mem (tb8 (List.mem_of_getElem? (i := 86) rfl)) rfl, UW_at 83 (by decide +kernel) rfl⟩
theorem miX12_turns : MI yX12_turns cX12_turns 4 none 1 := ⟨UW_mem (tb8 (List.mem_of_getElem? (i := 91) rfl)) rfl, iniX12, by decide +kernel⟩
theorem inX12_turns : Cond.instanceMethod yX12_turns ∈ UW ∧ Cond.selects yX12_turns.cls yX12_turns yX12_turns ∈ UW := ⟨UW_mem (tb8 (List.mem_of_getElem? (i := 90) rfl)) rfl, UW_at 84 (by decide +kernel) rfl⟩
theorem miX12_undo : MI yX12_undo cX12_undo 1 (some .boolean) 0 := ⟨UW_mem (tb8 (List.mem_of_getElem? (i := 95) rfl)) rfl, iniX12, by decide +kernel⟩
theorem inX12_undo : Cond.instanceMethod yX12_undo ∈ UW ∧ Cond.selects yX12_undo.cls yX12_undo yX12_undo ∈ UW := ⟨UW_mem (tb8 (List.mem_of_getElem? (i := 93) rfl)) rfl, UW_mem (tb8 (List.mem_of_getElem? (i := 94) rfl)) rfl⟩
theorem miX12_can : MI yX12_can cX12_can 2 (some .boolean) 1 := ⟨UW_mem (tb8 (List.mem_of_getElem? (i := 99) rfl)) rfl, iniX12, by decide +kernel⟩
theorem inX12_can : Cond.instanceMethod yX12_can ∈ UW ∧ Cond.selects yX12_can.cls yX12_can yX12_can ∈ UW := ⟨UW_mem (tb8 (List.mem_of_getElem? (i := 97) rfl)) rfl, UW_mem (tb8 (List.mem_of_getElem? (i := 98) rfl)) rfl⟩
theorem miX12_cost : MI yX12_cost cX12_cost 2 (some .int) 1 := ⟨UW_mem (tb8 (List.mem_of_getElem? (i := 103) rfl)) rfl, iniX12, by decide +kernel⟩
theorem inX12_cost : Cond.instanceMethod yX12_cost ∈ UW ∧ Cond.selects yX12_cost.cls yX12_cost yX12_cost ∈ UW := ⟨UW_mem (tb8 (List.mem_of_getElem? (i := 101) rfl)) rfl, UW_mem (tb8 (List.mem_of_getElem? (i := 102) rfl)) rfl⟩
theorem miX12_served : MI yX12_served cX12_served 1 (some .boolean) 0 := ⟨UW_mem (tb8 (List.mem_of_getElem? (i := 107) rfl)) rfl, iniX12, by decide +kernel⟩
theorem inX12_served : Cond.instanceMethod yX12_served ∈ UW ∧ Cond.selects yX12_served.cls yX12_served yX12_served ∈ UW := ⟨UW_mem (tb8 (List.mem_of_getElem? (i := 105) rfl)) rfl, UW_mem (tb8 (List.mem_of_getElem? (i := 106) rfl)) rfl⟩
theorem miX12_isServed : MI yX12_isServed cX12_isServed 3 (some .boolean) 0 := ⟨UW_mem (tb8 (List.mem_of_getElem? (i := 111) rfl)) rfl, iniX12, by decide +kernel⟩
theorem inX12_isServed : Cond.instanceMethod yX12_isServed ∈ UW ∧ Cond.selects yX12_isServed.cls yX12_isServed yX12_isServed ∈ UW := ⟨UW_mem (tb8 (List.mem_of_getElem? (i := 110) rfl)) rfl, UW_at 85 (by decide +kernel) rfl⟩
theorem miX12_judged : MI yX12_judged cX12_judged 7 (some .int) 1 := ⟨UW_mem (tb8 (List.mem_of_getElem? (i := 115) rfl)) rfl, iniX12, by decide +kernel⟩
theorem inX12_judged : Cond.instanceMethod yX12_judged ∈ UW ∧ Cond.selects yX12_judged.cls yX12_judged yX12_judged ∈ UW := ⟨UW_mem (tb8 (List.mem_of_getElem? (i := 113) rfl)) rfl, UW_mem (tb8 (List.mem_of_getElem? (i := 114) rfl)) rfl⟩
theorem miX12_least : MI yX12_least cX12_least 1 (some .int) 0 := ⟨UW_mem (tb8 (List.mem_of_getElem? (i := 119) rfl)) rfl, iniX12, by decide +kernel⟩
theorem inX12_least : Cond.instanceMethod yX12_least ∈ UW ∧ Cond.selects yX12_least.cls yX12_least yX12_least ∈ UW := ⟨UW_mem (tb8 (List.mem_of_getElem? (i := 117) rfl)) rfl, UW_mem (tb8 (List.mem_of_getElem? (i := 118) rfl)) rfl⟩
theorem miX12_laysFewest : MI yX12_laysFewest cX12_laysFewest 1 none 0 := ⟨UW_mem (tb8 (List.mem_of_getElem? (i := 123) rfl)) rfl, iniX12, by decide +kernel⟩
theorem inX12_laysFewest : Cond.instanceMethod yX12_laysFewest ∈ UW ∧ Cond.selects yX12_laysFewest.cls yX12_laysFewest yX12_laysFewest ∈ UW := ⟨UW_mem (tb8 (List.mem_of_getElem? (i := 122) rfl)) rfl, UW_at 86 (by decide +kernel) rfl⟩
theorem miX12_fewest : MI yX12_fewest cX12_fewest 7 none 2 := ⟨UW_mem (tb8 (List.mem_of_getElem? (i := 127) rfl)) rfl, iniX12, by decide +kernel⟩
theorem inX12_fewest : Cond.instanceMethod yX12_fewest ∈ UW ∧ Cond.selects yX12_fewest.cls yX12_fewest yX12_fewest ∈ UW := ⟨UW_mem (tb8 (List.mem_of_getElem? (i := 126) rfl)) rfl, UW_at 87 (by decide +kernel) rfl⟩
theorem miX12_stacks : MI yX12_stacks cX12_stacks 1 (some .int) 0 := ⟨UW_mem (tb8 (List.mem_of_getElem? (i := 131) rfl)) rfl, iniX12, by decide +kernel⟩
theorem inX12_stacks : Cond.instanceMethod yX12_stacks ∈ UW ∧ Cond.selects yX12_stacks.cls yX12_stacks yX12_stacks ∈ UW := ⟨UW_mem (tb8 (List.mem_of_getElem? (i := 130) rfl)) rfl, UW_at 88 (by decide +kernel) rfl⟩
theorem miX12_isWishedNow : MI yX12_isWishedNow cX12_isWishedNow 4 (some .boolean) 0 := ⟨UW_mem (tb8 (List.mem_of_getElem? (i := 135) rfl)) rfl, iniX12, by decide +kernel⟩
theorem inX12_isWishedNow : Cond.instanceMethod yX12_isWishedNow ∈ UW ∧ Cond.selects yX12_isWishedNow.cls yX12_isWishedNow yX12_isWishedNow ∈ UW := ⟨UW_mem (tb8 (List.mem_of_getElem? (i := 134) rfl)) rfl, UW_at 89 (by decide +kernel) rfl⟩
theorem miX12_partOf : MI yX12_partOf cX12_partOf 2 (some .int) 1 := ⟨UW_mem (tb8 (List.mem_of_getElem? (i := 140) rfl)) rfl, iniX12, by decide +kernel⟩
theorem inX12_partOf : Cond.instanceMethod yX12_partOf ∈ UW ∧ Cond.selects yX12_partOf.cls yX12_partOf yX12_partOf ∈ UW := ⟨UW_mem (tb8 (List.mem_of_getElem? (i := 139) rfl)) rfl, UW_at 90 (by decide +kernel) rfl⟩
theorem miX12_waysOn : MI yX12_waysOn cX12_waysOn 8 (some .boolean) 3 := ⟨UW_mem (tb8 (List.mem_of_getElem? (i := 145) rfl)) rfl, iniX12, by decide +kernel⟩
theorem inX12_waysOn : Cond.instanceMethod yX12_waysOn ∈ UW ∧ Cond.selects yX12_waysOn.cls yX12_waysOn yX12_waysOn ∈ UW := ⟨UW_mem (tb8 (List.mem_of_getElem? (i := 144) rfl)) rfl, UW_at 91 (by decide +kernel) rfl⟩
theorem miX12_leastOf : MI yX12_leastOf cX12_leastOf 2 (some .int) 1 := ⟨UW_mem (tb8 (List.mem_of_getElem? (i := 150) rfl)) rfl, iniX12, by decide +kernel⟩
theorem inX12_leastOf : Cond.instanceMethod yX12_leastOf ∈ UW ∧ Cond.selects yX12_leastOf.cls yX12_leastOf yX12_leastOf ∈ UW := ⟨UW_mem (tb8 (List.mem_of_getElem? (i := 149) rfl)) rfl, UW_at 92 (by decide +kernel) rfl⟩
theorem miX12_ways : MI yX12_ways cX12_ways 1 (some .int) 0 := ⟨UW_mem (tb8 (List.mem_of_getElem? (i := 154) rfl)) rfl, iniX12, by decide +kernel⟩
theorem inX12_ways : Cond.instanceMethod yX12_ways ∈ UW ∧ Cond.selects yX12_ways.cls yX12_ways yX12_ways ∈ UW := ⟨UW_mem (tb8 (List.mem_of_getElem? (i := 152) rfl)) rfl, UW_mem (tb8 (List.mem_of_getElem? (i := 153) rfl)) rfl⟩
theorem miX12_row : MI yX12_row cX12_row 5 (some .int) 1 := ⟨UW_mem (tb8 (List.mem_of_getElem? (i := 158) rfl)) rfl, iniX12, by decide +kernel⟩
theorem inX12_row : Cond.instanceMethod yX12_row ∈ UW ∧ Cond.selects yX12_row.cls yX12_row yX12_row ∈ UW := ⟨UW_mem (tb8 (List.mem_of_getElem? (i := 156) rfl)) rfl, UW_mem (tb8 (List.mem_of_getElem? (i := 157) rfl)) rfl⟩
theorem miX12_nearer : MI yX12_nearer cX12_nearer 4 (some .int) 1 := ⟨UW_mem (tb8 (List.mem_of_getElem? (i := 162) rfl)) rfl, iniX12, by decide +kernel⟩
theorem inX12_nearer : Cond.instanceMethod yX12_nearer ∈ UW ∧ Cond.selects yX12_nearer.cls yX12_nearer yX12_nearer ∈ UW := ⟨UW_mem (tb8 (List.mem_of_getElem? (i := 161) rfl)) rfl, UW_at 93 (by decide +kernel) rfl⟩
theorem miX12_leadsFrom : MI yX12_leadsFrom cX12_leadsFrom 4 none 2 := ⟨UW_mem (tb8 (List.mem_of_getElem? (i := 166) rfl)) rfl, iniX12, by decide +kernel⟩
theorem inX12_leadsFrom : Cond.instanceMethod yX12_leadsFrom ∈ UW ∧ Cond.selects yX12_leadsFrom.cls yX12_leadsFrom yX12_leadsFrom ∈ UW := ⟨UW_mem (tb8 (List.mem_of_getElem? (i := 165) rfl)) rfl, UW_at 94 (by decide +kernel) rfl⟩
theorem miX12_without : MI yX12_without cX12_without 2 (some .int) 1 := ⟨UW_mem (tb8 (List.mem_of_getElem? (i := 170) rfl)) rfl, iniX12, by decide +kernel⟩
theorem inX12_without : Cond.instanceMethod yX12_without ∈ UW ∧ Cond.selects yX12_without.cls yX12_without yX12_without ∈ UW := ⟨UW_mem (tb8 (List.mem_of_getElem? (i := 168) rfl)) rfl, UW_mem (tb8 (List.mem_of_getElem? (i := 169) rfl)) rfl⟩
theorem miX12_needed : MI yX12_needed cX12_needed 3 (some .int) 0 := ⟨UW_mem (tb8 (List.mem_of_getElem? (i := 174) rfl)) rfl, iniX12, by decide +kernel⟩
theorem inX12_needed : Cond.instanceMethod yX12_needed ∈ UW ∧ Cond.selects yX12_needed.cls yX12_needed yX12_needed ∈ UW := ⟨UW_mem (tb8 (List.mem_of_getElem? (i := 172) rfl)) rfl, UW_mem (tb8 (List.mem_of_getElem? (i := 173) rfl)) rfl⟩
theorem miX12_far : MI yX12_far cX12_far 1 (some .int) 0 := ⟨UW_mem (tb8 (List.mem_of_getElem? (i := 178) rfl)) rfl, iniX12, by decide +kernel⟩
theorem inX12_far : Cond.instanceMethod yX12_far ∈ UW ∧ Cond.selects yX12_far.cls yX12_far yX12_far ∈ UW := ⟨UW_mem (tb8 (List.mem_of_getElem? (i := 176) rfl)) rfl, UW_mem (tb8 (List.mem_of_getElem? (i := 177) rfl)) rfl⟩
theorem miX12_toward : MI yX12_toward cX12_toward 1 (some .int) 0 := ⟨UW_mem (tb8 (List.mem_of_getElem? (i := 182) rfl)) rfl, iniX12, by decide +kernel⟩
theorem inX12_toward : Cond.instanceMethod yX12_toward ∈ UW ∧ Cond.selects yX12_toward.cls yX12_toward yX12_toward ∈ UW := ⟨UW_mem (tb8 (List.mem_of_getElem? (i := 180) rfl)) rfl, UW_mem (tb8 (List.mem_of_getElem? (i := 181) rfl)) rfl⟩
theorem miX12_never : MI yX12_never cX12_never 3 (some .int) 0 := ⟨UW_mem (tb8 (List.mem_of_getElem? (i := 186) rfl)) rfl, iniX12, by decide +kernel⟩
theorem inX12_never : Cond.instanceMethod yX12_never ∈ UW ∧ Cond.selects yX12_never.cls yX12_never yX12_never ∈ UW := ⟨UW_mem (tb8 (List.mem_of_getElem? (i := 184) rfl)) rfl, UW_mem (tb8 (List.mem_of_getElem? (i := 185) rfl)) rfl⟩
theorem miX12_hard : MI yX12_hard cX12_hard 4 (some .int) 1 := ⟨UW_mem (tb8 (List.mem_of_getElem? (i := 190) rfl)) rfl, iniX12, by decide +kernel⟩
theorem inX12_hard : Cond.instanceMethod yX12_hard ∈ UW ∧ Cond.selects yX12_hard.cls yX12_hard yX12_hard ∈ UW := ⟨UW_mem (tb8 (List.mem_of_getElem? (i := 188) rfl)) rfl, UW_mem (tb8 (List.mem_of_getElem? (i := 189) rfl)) rfl⟩
theorem miX12_spreadOf : MI yX12_spreadOf cX12_spreadOf 4 (some .int) 1 := ⟨UW_mem (tb8 (List.mem_of_getElem? (i := 194) rfl)) rfl, iniX12, by decide +kernel⟩
theorem inX12_spreadOf : Cond.instanceMethod yX12_spreadOf ∈ UW ∧ Cond.selects yX12_spreadOf.cls yX12_spreadOf yX12_spreadOf ∈ UW := ⟨UW_mem (tb8 (List.mem_of_getElem? (i := 193) rfl)) rfl, UW_at 95 (by decide +kernel) rfl⟩
theorem miX12_spread : MI yX12_spread cX12_spread 2 (some .int) 1 := ⟨UW_mem (tb8 (List.mem_of_getElem? (i := 198) rfl)) rfl, iniX12, by decide +kernel⟩
theorem inX12_spread : Cond.instanceMethod yX12_spread ∈ UW ∧ Cond.selects yX12_spread.cls yX12_spread yX12_spread ∈ UW := ⟨UW_mem (tb8 (List.mem_of_getElem? (i := 196) rfl)) rfl, UW_mem (tb8 (List.mem_of_getElem? (i := 197) rfl)) rfl⟩
theorem miX12_sharp : MI yX12_sharp cX12_sharp 1 (some .boolean) 0 := ⟨UW_mem (tb8 (List.mem_of_getElem? (i := 202) rfl)) rfl, iniX12, by decide +kernel⟩
theorem inX12_sharp : Cond.instanceMethod yX12_sharp ∈ UW ∧ Cond.selects yX12_sharp.cls yX12_sharp yX12_sharp ∈ UW := ⟨UW_mem (tb8 (List.mem_of_getElem? (i := 200) rfl)) rfl, UW_mem (tb8 (List.mem_of_getElem? (i := 201) rfl)) rfl⟩
theorem miX12_gapsNow : MI yX12_gapsNow cX12_gapsNow 6 (some .int) 0 := ⟨UW_mem (tb8 (List.mem_of_getElem? (i := 206) rfl)) rfl, iniX12, by decide +kernel⟩
theorem inX12_gapsNow : Cond.instanceMethod yX12_gapsNow ∈ UW ∧ Cond.selects yX12_gapsNow.cls yX12_gapsNow yX12_gapsNow ∈ UW := ⟨UW_mem (tb8 (List.mem_of_getElem? (i := 205) rfl)) rfl, UW_at 96 (by decide +kernel) rfl⟩
theorem miX12_isNextWider : MI yX12_isNextWider cX12_isNextWider 5 (some .boolean) 2 := ⟨UW_mem (tb8 (List.mem_of_getElem? (i := 210) rfl)) rfl, iniX12, by decide +kernel⟩
theorem inX12_isNextWider : Cond.instanceMethod yX12_isNextWider ∈ UW ∧ Cond.selects yX12_isNextWider.cls yX12_isNextWider yX12_isNextWider ∈ UW := ⟨UW_mem (tb8 (List.mem_of_getElem? (i := 209) rfl)) rfl, UW_at 97 (by decide +kernel) rfl⟩
theorem miX12_liesBy : MI yX12_liesBy cX12_liesBy 3 (some .boolean) 2 := ⟨UW_mem (tb8 (List.mem_of_getElem? (i := 214) rfl)) rfl, iniX12, by decide +kernel⟩
theorem inX12_liesBy : Cond.instanceMethod yX12_liesBy ∈ UW ∧ Cond.selects yX12_liesBy.cls yX12_liesBy yX12_liesBy ∈ UW := ⟨UW_mem (tb8 (List.mem_of_getElem? (i := 213) rfl)) rfl, UW_at 98 (by decide +kernel) rfl⟩
theorem miX12_cheap : MI yX12_cheap cX12_cheap 1 (some .int) 0 := ⟨UW_mem (tb8 (List.mem_of_getElem? (i := 218) rfl)) rfl, iniX12, by decide +kernel⟩
theorem inX12_cheap : Cond.instanceMethod yX12_cheap ∈ UW ∧ Cond.selects yX12_cheap.cls yX12_cheap yX12_cheap ∈ UW := ⟨UW_mem (tb8 (List.mem_of_getElem? (i := 216) rfl)) rfl, UW_mem (tb8 (List.mem_of_getElem? (i := 217) rfl)) rfl⟩
theorem miX12_laysCheap : MI yX12_laysCheap cX12_laysCheap 10 none 0 := ⟨UW_mem (tb8 (List.mem_of_getElem? (i := 222) rfl)) rfl, iniX12, by decide +kernel⟩
theorem inX12_laysCheap : Cond.instanceMethod yX12_laysCheap ∈ UW ∧ Cond.selects yX12_laysCheap.cls yX12_laysCheap yX12_laysCheap ∈ UW := ⟨UW_mem (tb8 (List.mem_of_getElem? (i := 221) rfl)) rfl, UW_at 99 (by decide +kernel) rfl⟩
theorem miX12_bill : MI yX12_bill cX12_bill 6 (some .int) 1 := ⟨UW_mem (tb8 (List.mem_of_getElem? (i := 226) rfl)) rfl, iniX12, by decide +kernel⟩
theorem inX12_bill : Cond.instanceMethod yX12_bill ∈ UW ∧ Cond.selects yX12_bill.cls yX12_bill yX12_bill ∈ UW := ⟨UW_mem (tb8 (List.mem_of_getElem? (i := 224) rfl)) rfl, UW_mem (tb8 (List.mem_of_getElem? (i := 225) rfl)) rfl⟩
theorem miX12_dear : MI yX12_dear cX12_dear 4 (some .int) 0 := ⟨UW_mem (tb8 (List.mem_of_getElem? (i := 231) rfl)) rfl, iniX12, by decide +kernel⟩
theorem inX12_dear : Cond.instanceMethod yX12_dear ∈ UW ∧ Cond.selects yX12_dear.cls yX12_dear yX12_dear ∈ UW := ⟨UW_mem (tb8 (List.mem_of_getElem? (i := 229) rfl)) rfl, UW_mem (tb8 (List.mem_of_getElem? (i := 230) rfl)) rfl⟩
theorem miX12_rim : MI yX12_rim cX12_rim 1 (some .int) 0 := ⟨UW_mem (tb8 (List.mem_of_getElem? (i := 235) rfl)) rfl, iniX12, by decide +kernel⟩
theorem inX12_rim : Cond.instanceMethod yX12_rim ∈ UW ∧ Cond.selects yX12_rim.cls yX12_rim yX12_rim ∈ UW := ⟨UW_mem (tb8 (List.mem_of_getElem? (i := 233) rfl)) rfl, UW_mem (tb8 (List.mem_of_getElem? (i := 234) rfl)) rfl⟩
theorem miX12_reaches : MI yX12_reaches cX12_reaches 6 (some .int) 0 := ⟨UW_mem (tb8 (List.mem_of_getElem? (i := 239) rfl)) rfl, iniX12, by decide +kernel⟩
theorem inX12_reaches : Cond.instanceMethod yX12_reaches ∈ UW ∧ Cond.selects yX12_reaches.cls yX12_reaches yX12_reaches ∈ UW := ⟨UW_mem (tb8 (List.mem_of_getElem? (i := 238) rfl)) rfl, UW_at 100 (by decide +kernel) rfl⟩
theorem miX12_reached : MI yX12_reached cX12_reached 4 (some .int) 1 := ⟨UW_mem (tb9 (List.mem_of_getElem? (i := 3) rfl)) rfl, iniX12, by decide +kernel⟩
theorem inX12_reached : Cond.instanceMethod yX12_reached ∈ UW ∧ Cond.selects yX12_reached.cls yX12_reached yX12_reached ∈ UW := ⟨UW_mem (tb9 (List.mem_of_getElem? (i := 1) rfl)) rfl, UW_mem (tb9 (List.mem_of_getElem? (i := 2) rfl)) rfl⟩
theorem miX12_nth : MI yX12_nth cX12_nth 1 (some .int) 0 := ⟨UW_mem (tb9 (List.mem_of_getElem? (i := 7) rfl)) rfl, iniX12, by decide +kernel⟩
theorem inX12_nth : Cond.instanceMethod yX12_nth ∈ UW ∧ Cond.selects yX12_nth.cls yX12_nth yX12_nth ∈ UW := ⟨UW_mem (tb9 (List.mem_of_getElem? (i := 5) rfl)) rfl, UW_mem (tb9 (List.mem_of_getElem? (i := 6) rfl)) rfl⟩
theorem miX12_gaps : MI yX12_gaps cX12_gaps 1 (some .int) 0 := ⟨UW_mem (tb9 (List.mem_of_getElem? (i := 11) rfl)) rfl, iniX12, by decide +kernel⟩
theorem inX12_gaps : Cond.instanceMethod yX12_gaps ∈ UW ∧ Cond.selects yX12_gaps.cls yX12_gaps yX12_gaps ∈ UW := ⟨UW_mem (tb9 (List.mem_of_getElem? (i := 9) rfl)) rfl, UW_mem (tb9 (List.mem_of_getElem? (i := 10) rfl)) rfl⟩
theorem miX12_pairs : MI yX12_pairs cX12_pairs 4 (some .int) 0 := ⟨UW_mem (tb9 (List.mem_of_getElem? (i := 15) rfl)) rfl, iniX12, by decide +kernel⟩
theorem inX12_pairs : Cond.instanceMethod yX12_pairs ∈ UW ∧ Cond.selects yX12_pairs.cls yX12_pairs yX12_pairs ∈ UW := ⟨UW_mem (tb9 (List.mem_of_getElem? (i := 13) rfl)) rfl, UW_mem (tb9 (List.mem_of_getElem? (i := 14) rfl)) rfl⟩
theorem miX12_again : MI yX12_again cX12_again 3 (some .int) 0 := ⟨UW_mem (tb9 (List.mem_of_getElem? (i := 19) rfl)) rfl, iniX12, by decide +kernel⟩
theorem inX12_again : Cond.instanceMethod yX12_again ∈ UW ∧ Cond.selects yX12_again.cls yX12_again yX12_again ∈ UW := ⟨UW_mem (tb9 (List.mem_of_getElem? (i := 17) rfl)) rfl, UW_mem (tb9 (List.mem_of_getElem? (i := 18) rfl)) rfl⟩
theorem miX12_spare : MI yX12_spare cX12_spare 4 (some .int) 0 := ⟨UW_mem (tb9 (List.mem_of_getElem? (i := 23) rfl)) rfl, iniX12, by decide +kernel⟩
theorem inX12_spare : Cond.instanceMethod yX12_spare ∈ UW ∧ Cond.selects yX12_spare.cls yX12_spare yX12_spare ∈ UW := ⟨UW_mem (tb9 (List.mem_of_getElem? (i := 21) rfl)) rfl, UW_mem (tb9 (List.mem_of_getElem? (i := 22) rfl)) rfl⟩
theorem miX12_endOf : MI yX12_endOf cX12_endOf 4 (some .int) 2 := ⟨UW_mem (tb9 (List.mem_of_getElem? (i := 27) rfl)) rfl, iniX12, by decide +kernel⟩
theorem inX12_endOf : Cond.instanceMethod yX12_endOf ∈ UW ∧ Cond.selects yX12_endOf.cls yX12_endOf yX12_endOf ∈ UW := ⟨UW_mem (tb9 (List.mem_of_getElem? (i := 26) rfl)) rfl, UW_at 101 (by decide +kernel) rfl⟩
theorem miX12_ends : MI yX12_ends cX12_ends 1 (some .boolean) 0 := ⟨UW_mem (tb9 (List.mem_of_getElem? (i := 31) rfl)) rfl, iniX12, by decide +kernel⟩
theorem inX12_ends : Cond.instanceMethod yX12_ends ∈ UW ∧ Cond.selects yX12_ends.cls yX12_ends yX12_ends ∈ UW := ⟨UW_mem (tb9 (List.mem_of_getElem? (i := 29) rfl)) rfl, UW_mem (tb9 (List.mem_of_getElem? (i := 30) rfl)) rfl⟩
theorem miX12_ring : MI yX12_ring cX12_ring 5 (some .int) 2 := ⟨UW_mem (tb9 (List.mem_of_getElem? (i := 35) rfl)) rfl, iniX12, by decide +kernel⟩
theorem inX12_ring : Cond.instanceMethod yX12_ring ∈ UW ∧ Cond.selects yX12_ring.cls yX12_ring yX12_ring ∈ UW := ⟨UW_mem (tb9 (List.mem_of_getElem? (i := 33) rfl)) rfl, UW_mem (tb9 (List.mem_of_getElem? (i := 34) rfl)) rfl⟩
theorem miX12_wins : MI yX12_wins cX12_wins 4 (some .int) 1 := ⟨UW_mem (tb9 (List.mem_of_getElem? (i := 39) rfl)) rfl, iniX12, by decide +kernel⟩
theorem inX12_wins : Cond.instanceMethod yX12_wins ∈ UW ∧ Cond.selects yX12_wins.cls yX12_wins yX12_wins ∈ UW := ⟨UW_mem (tb9 (List.mem_of_getElem? (i := 37) rfl)) rfl, UW_mem (tb9 (List.mem_of_getElem? (i := 38) rfl)) rfl⟩
theorem miX12_laysCooks : MI yX12_laysCooks cX12_laysCooks 10 none 0 := ⟨UW_mem (tb9 (List.mem_of_getElem? (i := 43) rfl)) rfl, iniX12, by decide +kernel⟩
theorem inX12_laysCooks : Cond.instanceMethod yX12_laysCooks ∈ UW ∧ Cond.selects yX12_laysCooks.cls yX12_laysCooks yX12_laysCooks ∈ UW := ⟨UW_mem (tb9 (List.mem_of_getElem? (i := 42) rfl)) rfl, UW_at 102 (by decide +kernel) rfl⟩
theorem miX12_his : MI yX12_his cX12_his 9 (some .int) 0 := ⟨UW_mem (tb9 (List.mem_of_getElem? (i := 47) rfl)) rfl, iniX12, by decide +kernel⟩
theorem inX12_his : Cond.instanceMethod yX12_his ∈ UW ∧ Cond.selects yX12_his.cls yX12_his yX12_his ∈ UW := ⟨UW_mem (tb9 (List.mem_of_getElem? (i := 45) rfl)) rfl, UW_mem (tb9 (List.mem_of_getElem? (i := 46) rfl)) rfl⟩
theorem miX12_see : MI yX12_see cX12_see 4 (some .boolean) 3 := ⟨UW_mem (tb9 (List.mem_of_getElem? (i := 52) rfl)) rfl, iniX12, by decide +kernel⟩
theorem inX12_see : Cond.instanceMethod yX12_see ∈ UW ∧ Cond.selects yX12_see.cls yX12_see yX12_see ∈ UW := ⟨UW_mem (tb9 (List.mem_of_getElem? (i := 50) rfl)) rfl, UW_mem (tb9 (List.mem_of_getElem? (i := 51) rfl)) rfl⟩
theorem miX12_sees : MI yX12_sees cX12_sees 5 (some .boolean) 3 := ⟨UW_mem (tb9 (List.mem_of_getElem? (i := 56) rfl)) rfl, iniX12, by decide +kernel⟩
theorem inX12_sees : Cond.instanceMethod yX12_sees ∈ UW ∧ Cond.selects yX12_sees.cls yX12_sees yX12_sees ∈ UW := ⟨UW_mem (tb9 (List.mem_of_getElem? (i := 55) rfl)) rfl, UW_at 103 (by decide +kernel) rfl⟩
theorem miX12_lies : MI yX12_lies cX12_lies 3 (some .boolean) 2 := ⟨UW_mem (tb9 (List.mem_of_getElem? (i := 60) rfl)) rfl, iniX12, by decide +kernel⟩
theorem inX12_lies : Cond.instanceMethod yX12_lies ∈ UW ∧ Cond.selects yX12_lies.cls yX12_lies yX12_lies ∈ UW := ⟨UW_mem (tb9 (List.mem_of_getElem? (i := 58) rfl)) rfl, UW_mem (tb9 (List.mem_of_getElem? (i := 59) rfl)) rfl⟩
theorem miX12_fit : MI yX12_fit cX12_fit 1 (some .int) 0 := ⟨UW_mem (tb9 (List.mem_of_getElem? (i := 64) rfl)) rfl, iniX12, by decide +kernel⟩
theorem inX12_fit : Cond.instanceMethod yX12_fit ∈ UW ∧ Cond.selects yX12_fit.cls yX12_fit yX12_fit ∈ UW := ⟨UW_mem (tb9 (List.mem_of_getElem? (i := 62) rfl)) rfl, UW_mem (tb9 (List.mem_of_getElem? (i := 63) rfl)) rfl⟩
theorem miX12_talliesNow : MI yX12_talliesNow cX12_talliesNow 4 (some .int) 0 := ⟨UW_mem (tb9 (List.mem_of_getElem? (i := 68) rfl)) rfl, iniX12, by decide +kernel⟩
theorem inX12_talliesNow : Cond.instanceMethod yX12_talliesNow ∈ UW ∧ Cond.selects yX12_talliesNow.cls yX12_talliesNow yX12_talliesNow ∈ UW := ⟨UW_mem (tb9 (List.mem_of_getElem? (i := 67) rfl)) rfl, UW_at 104 (by decide +kernel) rfl⟩
theorem miX12_isAsSeen : MI yX12_isAsSeen cX12_isAsSeen 6 (some .boolean) 0 := ⟨UW_mem (tb9 (List.mem_of_getElem? (i := 72) rfl)) rfl, iniX12, by decide +kernel⟩
theorem inX12_isAsSeen : Cond.instanceMethod yX12_isAsSeen ∈ UW ∧ Cond.selects yX12_isAsSeen.cls yX12_isAsSeen yX12_isAsSeen ∈ UW := ⟨UW_mem (tb9 (List.mem_of_getElem? (i := 71) rfl)) rfl, UW_at 105 (by decide +kernel) rfl⟩
theorem miX12_look : MI yX12_look cX12_look 6 (some .int) 0 := ⟨UW_mem (tb9 (List.mem_of_getElem? (i := 76) rfl)) rfl, iniX12, by decide +kernel⟩
theorem inX12_look : Cond.instanceMethod yX12_look ∈ UW ∧ Cond.selects yX12_look.cls yX12_look yX12_look ∈ UW := ⟨UW_mem (tb9 (List.mem_of_getElem? (i := 74) rfl)) rfl, UW_mem (tb9 (List.mem_of_getElem? (i := 75) rfl)) rfl⟩
theorem miX12_chance : MI yX12_chance cX12_chance 11 (some .int) 2 := ⟨UW_mem (tb9 (List.mem_of_getElem? (i := 80) rfl)) rfl, iniX12, by decide +kernel⟩
theorem inX12_chance : Cond.instanceMethod yX12_chance ∈ UW ∧ Cond.selects yX12_chance.cls yX12_chance yX12_chance ∈ UW := ⟨UW_mem (tb9 (List.mem_of_getElem? (i := 78) rfl)) rfl, UW_mem (tb9 (List.mem_of_getElem? (i := 79) rfl)) rfl⟩
theorem miX12_rests : MI yX12_rests cX12_rests 12 (some .int) 4 := ⟨UW_mem (tb9 (List.mem_of_getElem? (i := 85) rfl)) rfl, iniX12, by decide +kernel⟩
theorem inX12_rests : Cond.instanceMethod yX12_rests ∈ UW ∧ Cond.selects yX12_rests.cls yX12_rests yX12_rests ∈ UW := ⟨UW_mem (tb9 (List.mem_of_getElem? (i := 83) rfl)) rfl, UW_mem (tb9 (List.mem_of_getElem? (i := 84) rfl)) rfl⟩
theorem miX12_getsBy : MI yX12_getsBy cX12_getsBy 5 (some .int) 5 := ⟨UW_mem (tb9 (List.mem_of_getElem? (i := 88) rfl)) rfl, iniX12, by decide +kernel⟩
theorem stX12_getsBy : Cond.static yX12_getsBy ∈ UW := UW_mem (tb9 (List.mem_of_getElem? (i := 87) rfl)) rfl
theorem miX12_mornings : MI yX12_mornings cX12_mornings 9 (some .int) 3 := ⟨UW_mem (tb9 (List.mem_of_getElem? (i := 92) rfl)) rfl, iniX12, by decide +kernel⟩
theorem inX12_mornings : Cond.instanceMethod yX12_mornings ∈ UW ∧ Cond.selects yX12_mornings.cls yX12_mornings yX12_mornings ∈ UW := ⟨UW_mem (tb9 (List.mem_of_getElem? (i := 90) rfl)) rfl, UW_mem (tb9 (List.mem_of_getElem? (i := 91) rfl)) rfl⟩
theorem miX12_draw : MI yX12_draw cX12_draw 2 (some .int) 1 := ⟨UW_mem (tb9 (List.mem_of_getElem? (i := 96) rfl)) rfl, iniX12, by decide +kernel⟩
theorem inX12_draw : Cond.instanceMethod yX12_draw ∈ UW ∧ Cond.selects yX12_draw.cls yX12_draw yX12_draw ∈ UW := ⟨UW_mem (tb9 (List.mem_of_getElem? (i := 95) rfl)) rfl, UW_at 106 (by decide +kernel) rfl⟩
theorem miX12_mark : MI yX12_mark cX12_mark 3 (some .boolean) 2 := ⟨UW_mem (tb9 (List.mem_of_getElem? (i := 104) rfl)) rfl, iniX12, by decide +kernel⟩
theorem inX12_mark : Cond.instanceMethod yX12_mark ∈ UW ∧ Cond.selects yX12_mark.cls yX12_mark yX12_mark ∈ UW := ⟨UW_mem (tb9 (List.mem_of_getElem? (i := 102) rfl)) rfl, UW_mem (tb9 (List.mem_of_getElem? (i := 103) rfl)) rfl⟩
theorem miX12_count : MI yX12_count cX12_count 2 (some .int) 1 := ⟨UW_mem (tb9 (List.mem_of_getElem? (i := 108) rfl)) rfl, iniX12, by decide +kernel⟩
theorem inX12_count : Cond.instanceMethod yX12_count ∈ UW ∧ Cond.selects yX12_count.cls yX12_count yX12_count ∈ UW := ⟨UW_mem (tb9 (List.mem_of_getElem? (i := 106) rfl)) rfl, UW_mem (tb9 (List.mem_of_getElem? (i := 107) rfl)) rfl⟩
theorem miX12_turnsNow : MI yX12_turnsNow cX12_turnsNow 3 (some .int) 0 := ⟨UW_mem (tb9 (List.mem_of_getElem? (i := 112) rfl)) rfl, iniX12, by decide +kernel⟩
theorem inX12_turnsNow : Cond.instanceMethod yX12_turnsNow ∈ UW ∧ Cond.selects yX12_turnsNow.cls yX12_turnsNow yX12_turnsNow ∈ UW := ⟨UW_mem (tb9 (List.mem_of_getElem? (i := 111) rfl)) rfl, UW_at 107 (by decide +kernel) rfl⟩
theorem lkL_15 : Cond.methodLink RL 15 yX11_init ∈ UW := UW_mem (tb1 (List.mem_of_getElem? (i := 29) rfl)) rfl
theorem lkX11_18 : Cond.methodLink RX11 18 yX6_init ∈ UW := UW_mem (tb1 (List.mem_of_getElem? (i := 71) rfl)) rfl
theorem lkX2_24 : Cond.methodLink RX2 24 yX3_init ∈ UW := UW_mem (tb1 (List.mem_of_getElem? (i := 100) rfl)) rfl
theorem lkX11_37 : Cond.methodLink RX11 37 yX7_init ∈ UW := UW_mem (tb1 (List.mem_of_getElem? (i := 148) rfl)) rfl
theorem lkX7_51 : Cond.methodLink RX7 51 yX7_learn ∈ UW := UW_mem (tb1 (List.mem_of_getElem? (i := 152) rfl)) rfl
theorem lkX7_59 : Cond.methodLink RX7 59 yX2_size ∈ UW := UW_mem (tb1 (List.mem_of_getElem? (i := 156) rfl)) rfl
theorem lkX7_72 : Cond.methodLink RX7 72 yX2_hasSide ∈ UW := UW_mem (tb1 (List.mem_of_getElem? (i := 160) rfl)) rfl
theorem lkX2_56 : Cond.methodLink RX2 56 yX2_kindOf ∈ UW := UW_mem (tb1 (List.mem_of_getElem? (i := 164) rfl)) rfl
theorem lkX7_90 : Cond.methodLink RX7 90 yX7_learnOrder ∈ UW := UW_mem (tb1 (List.mem_of_getElem? (i := 177) rfl)) rfl
theorem lkX7_111 : Cond.methodLink RX7 111 yX7_cakeBehind ∈ UW := UW_mem (tb1 (List.mem_of_getElem? (i := 181) rfl)) rfl
theorem lkX7_94 : Cond.methodLink RX7 94 yX7_learnTurn ∈ UW := UW_mem (tb1 (List.mem_of_getElem? (i := 185) rfl)) rfl
theorem lkX7_115 : Cond.methodLink RX7 115 yX7_orderOf ∈ UW := UW_mem (tb1 (List.mem_of_getElem? (i := 189) rfl)) rfl
theorem lkX7_119 : Cond.methodLink RX7 119 yX2_kindOf ∈ UW := UW_mem (tb1 (List.mem_of_getElem? (i := 193) rfl)) rfl
theorem lkX7_98 : Cond.methodLink RX7 98 yX7_learnLaws ∈ UW := UW_mem (tb1 (List.mem_of_getElem? (i := 194) rfl)) rfl
theorem lkX7_122 : Cond.methodLink RX7 122 yJ6_bitCount_0f7a4 ∈ UW := UW_mem (tb1 (List.mem_of_getElem? (i := 198) rfl)) rfl
theorem lkX7_127 : Cond.methodLink RX7 127 yX2_weightOf ∈ UW := UW_mem (tb1 (List.mem_of_getElem? (i := 204) rfl)) rfl
theorem lkX2_48 : Cond.methodLink RX2 48 yX2_widthOf ∈ UW := UW_mem (tb1 (List.mem_of_getElem? (i := 208) rfl)) rfl
theorem lkX7_130 : Cond.methodLink RX7 130 yX2_costs ∈ UW := UW_mem (tb1 (List.mem_of_getElem? (i := 212) rfl)) rfl
theorem lkX7_134 : Cond.methodLink RX7 134 yX3_value ∈ UW := UW_mem (tb1 (List.mem_of_getElem? (i := 216) rfl)) rfl
theorem lkX3_40 : Cond.methodLink RX3 40 yX3_push ∈ UW := UW_mem (tb1 (List.mem_of_getElem? (i := 221) rfl)) rfl
theorem lkX3_44 : Cond.methodLink RX3 44 yX3_pop ∈ UW := UW_mem (tb1 (List.mem_of_getElem? (i := 226) rfl)) rfl
theorem lkX3_48 : Cond.methodLink RX3 48 yX3_joined ∈ UW := UW_mem (tb1 (List.mem_of_getElem? (i := 230) rfl)) rfl
theorem lkX7_140 : Cond.methodLink RX7 140 yX2_bars ∈ UW := UW_mem (tb1 (List.mem_of_getElem? (i := 233) rfl)) rfl
theorem lkX7_143 : Cond.methodLink RX7 143 yJ9_min_7cf53 ∈ UW := UW_mem (tb1 (List.mem_of_getElem? (i := 237) rfl)) rfl
theorem lkX7_148 : Cond.methodLink RX7 148 yJ9_max_7cf53 ∈ UW := UW_mem (tb2 (List.mem_of_getElem? (i := 0) rfl)) rfl
theorem lkX7_101 : Cond.methodLink RX7 101 yX2_rankOf ∈ UW := UW_mem (tb2 (List.mem_of_getElem? (i := 3) rfl)) rfl
theorem lkX7_105 : Cond.methodLink RX7 105 yX7_stackOf ∈ UW := UW_mem (tb2 (List.mem_of_getElem? (i := 7) rfl)) rfl
theorem lkX11_75 : Cond.methodLink RX11 75 yX8_init ∈ UW := UW_mem (tb2 (List.mem_of_getElem? (i := 107) rfl)) rfl
theorem lkX11_94 : Cond.methodLink RX11 94 yX0_init ∈ UW := UW_mem (tb2 (List.mem_of_getElem? (i := 133) rfl)) rfl
theorem lkX11_103 : Cond.methodLink RX11 103 yX1_init ∈ UW := UW_mem (tb2 (List.mem_of_getElem? (i := 149) rfl)) rfl
theorem lkX11_108 : Cond.methodLink RX11 108 yX7_told ∈ UW := UW_mem (tb2 (List.mem_of_getElem? (i := 163) rfl)) rfl
theorem lkX7_151 : Cond.methodLink RX7 151 yX2_ups ∈ UW := UW_mem (tb2 (List.mem_of_getElem? (i := 167) rfl)) rfl
theorem lkX11_112 : Cond.methodLink RX11 112 yX5_begin ∈ UW := UW_mem (tb2 (List.mem_of_getElem? (i := 171) rfl)) rfl
theorem lkL_21 : Cond.methodLink RL 21 yX11_feed ∈ UW := UW_mem (tb2 (List.mem_of_getElem? (i := 230) rfl)) rfl
theorem lkX11_116 : Cond.methodLink RX11 116 yX9_addBytes ∈ UW := UW_mem (tb2 (List.mem_of_getElem? (i := 234) rfl)) rfl
theorem lkX9_30 : Cond.methodLink RX9 30 yX9_addSign ∈ UW := UW_mem (tb2 (List.mem_of_getElem? (i := 239) rfl)) rfl
theorem lkX11_120 : Cond.methodLink RX11 120 yX9_signs ∈ UW := UW_mem (tb3 (List.mem_of_getElem? (i := 3) rfl)) rfl
theorem lkL_26 : Cond.methodLink RL 26 yX11_griddle ∈ UW := UW_mem (tb3 (List.mem_of_getElem? (i := 7) rfl)) rfl
theorem lkX11_123 : Cond.methodLink RX11 123 yX6_readGriddle ∈ UW := UW_mem (tb3 (List.mem_of_getElem? (i := 11) rfl)) rfl
theorem lkX6_26 : Cond.methodLink RX6 26 yX2_clear ∈ UW := UW_mem (tb3 (List.mem_of_getElem? (i := 15) rfl)) rfl
theorem lkX2_41 : Cond.methodLink RX2 41 yX3_clear ∈ UW := UW_mem (tb3 (List.mem_of_getElem? (i := 19) rfl)) rfl
theorem lkX6_31 : Cond.methodLink RX6 31 yX6_begin ∈ UW := UW_mem (tb3 (List.mem_of_getElem? (i := 23) rfl)) rfl
theorem lkX6_92 : Cond.methodLink RX6 92 yX9_rewind ∈ UW := UW_mem (tb3 (List.mem_of_getElem? (i := 27) rfl)) rfl
theorem lkX9_41 : Cond.methodLink RX9 41 yX9_step ∈ UW := UW_mem (tb3 (List.mem_of_getElem? (i := 31) rfl)) rfl
theorem lkX9_47 : Cond.methodLink RX9 47 yX9_signAt ∈ UW := UW_mem (tb3 (List.mem_of_getElem? (i := 35) rfl)) rfl
theorem lkX9_51 : Cond.methodLink RX9 51 yX9_isBlank ∈ UW := UW_mem (tb3 (List.mem_of_getElem? (i := 39) rfl)) rfl
theorem lkX9_55 : Cond.methodLink RX9 55 yX9_isLetter ∈ UW := UW_mem (tb3 (List.mem_of_getElem? (i := 42) rfl)) rfl
theorem lkX9_58 : Cond.methodLink RX9 58 yX9_readWord ∈ UW := UW_mem (tb3 (List.mem_of_getElem? (i := 45) rfl)) rfl
theorem lkX9_79 : Cond.methodLink RX9 79 yX10_withLetter ∈ UW := UW_mem (tb3 (List.mem_of_getElem? (i := 49) rfl)) rfl
theorem lkX9_83 : Cond.methodLink RX9 83 yX10_of ∈ UW := UW_mem (tb3 (List.mem_of_getElem? (i := 53) rfl)) rfl
theorem lkX9_61 : Cond.methodLink RX9 61 yX9_isFigure ∈ UW := UW_mem (tb3 (List.mem_of_getElem? (i := 59) rfl)) rfl
theorem lkX9_64 : Cond.methodLink RX9 64 yX9_readNumber ∈ UW := UW_mem (tb3 (List.mem_of_getElem? (i := 62) rfl)) rfl
theorem lkX9_69 : Cond.methodLink RX9 69 yJ0_indexOf_0f7a4 ∈ UW := UW_mem (tb3 (List.mem_of_getElem? (i := 67) rfl)) rfl
theorem lkJ0_633 : Cond.methodLink RJ0 633 yJ0_indexOf_7cf53 ∈ UW := UW_mem (tb3 (List.mem_of_getElem? (i := 71) rfl)) rfl
theorem lkJ0_492 : Cond.methodLink RJ0 492 yJ0_isLatin1_aae02 ∈ UW := UW_mem (tb3 (List.mem_of_getElem? (i := 75) rfl)) rfl
theorem lkJ0_505 : Cond.methodLink RJ0 505 yJ0_length_8abf5 ∈ UW := UW_mem (tb3 (List.mem_of_getElem? (i := 81) rfl)) rfl
theorem lkJ0_335 : Cond.methodLink RJ0 335 yJ0_coder_7d493 ∈ UW := UW_mem (tb3 (List.mem_of_getElem? (i := 85) rfl)) rfl
theorem lkJ0_637 : Cond.methodLink RJ0 637 yJ1_indexOf_4cfef ∈ UW := UW_mem (tb3 (List.mem_of_getElem? (i := 89) rfl)) rfl
theorem lkJ1_88 : Cond.methodLink RJ1 88 yJ1_canEncode_9a6ad ∈ UW := UW_mem (tb3 (List.mem_of_getElem? (i := 92) rfl)) rfl
theorem lkJ1_92 : Cond.methodLink RJ1 92 yJ9_max_7cf53 ∈ UW := UW_mem (tb3 (List.mem_of_getElem? (i := 95) rfl)) rfl
theorem lkJ1_38 : Cond.methodLink RJ1 38 yJ9_min_7cf53 ∈ UW := UW_mem (tb3 (List.mem_of_getElem? (i := 96) rfl)) rfl
theorem lkJ1_95 : Cond.methodLink RJ1 95 yJ1_indexOfChar_4cfef ∈ UW := UW_mem (tb3 (List.mem_of_getElem? (i := 97) rfl)) rfl
theorem lkJ0_640 : Cond.methodLink RJ0 640 yJ2_indexOf_4cfef ∈ UW := UW_mem (tb3 (List.mem_of_getElem? (i := 100) rfl)) rfl
theorem lkJ2_224 : Cond.methodLink RJ2 224 yJ9_max_7cf53 ∈ UW := UW_mem (tb3 (List.mem_of_getElem? (i := 103) rfl)) rfl
theorem lkJ2_183 : Cond.methodLink RJ2 183 yJ9_min_7cf53 ∈ UW := UW_mem (tb3 (List.mem_of_getElem? (i := 104) rfl)) rfl
theorem lkJ2_228 : Cond.methodLink RJ2 228 yJ2_indexOfChar_4cfef ∈ UW := UW_mem (tb3 (List.mem_of_getElem? (i := 106) rfl)) rfl
theorem lkJ2_96 : Cond.methodLink RJ2 96 yJ2_checkBoundsBeginEnd_d044e ∈ UW := UW_mem (tb3 (List.mem_of_getElem? (i := 109) rfl)) rfl
theorem lkJ2_48 : Cond.methodLink RJ2 48 yJ2_length_9d52b ∈ UW := UW_mem (tb3 (List.mem_of_getElem? (i := 112) rfl)) rfl
theorem lkJ2_241 : Cond.methodLink RJ2 241 yJ0_checkBoundsBeginEnd_23922 ∈ UW := UW_mem (tb3 (List.mem_of_getElem? (i := 115) rfl)) rfl
theorem lkJ0_1062 : Cond.methodLink RJ0 1062 yJ3_checkFromToIndex_8c36e ∈ UW := UW_mem (tb3 (List.mem_of_getElem? (i := 120) rfl)) rfl
theorem lkJ2_244 : Cond.methodLink RJ2 244 yJ2_indexOfCharUnsafe_4cfef ∈ UW := UW_mem (tb3 (List.mem_of_getElem? (i := 123) rfl)) rfl
theorem lkJ2_71 : Cond.methodLink RJ2 71 yJ2_getChar_3b067 ∈ UW := UW_mem (tb3 (List.mem_of_getElem? (i := 126) rfl)) rfl
theorem lkJ2_232 : Cond.methodLink RJ2 232 yJ2_indexOfSupplementary_4cfef ∈ UW := UW_mem (tb3 (List.mem_of_getElem? (i := 135) rfl)) rfl
theorem lkJ2_164 : Cond.methodLink RJ2 164 yJ11_isValidCodePoint_9a6ad ∈ UW := UW_mem (tb3 (List.mem_of_getElem? (i := 138) rfl)) rfl
theorem lkJ2_157 : Cond.methodLink RJ2 157 yJ11_highSurrogate_5068e ∈ UW := UW_mem (tb3 (List.mem_of_getElem? (i := 141) rfl)) rfl
theorem lkJ2_161 : Cond.methodLink RJ2 161 yJ11_lowSurrogate_5068e ∈ UW := UW_mem (tb3 (List.mem_of_getElem? (i := 145) rfl)) rfl
theorem lkX6_37 : Cond.methodLink RX6 37 yX9_is ∈ UW := UW_mem (tb3 (List.mem_of_getElem? (i := 149) rfl)) rfl
theorem lkX6_49 : Cond.methodLink RX6 49 yX9_isWord ∈ UW := UW_mem (tb3 (List.mem_of_getElem? (i := 155) rfl)) rfl
theorem lkX6_53 : Cond.methodLink RX6 53 yX6_readCake ∈ UW := UW_mem (tb3 (List.mem_of_getElem? (i := 159) rfl)) rfl
theorem lkX6_85 : Cond.methodLink RX6 85 yX2_size ∈ UW := UW_mem (tb3 (List.mem_of_getElem? (i := 163) rfl)) rfl
theorem lkX6_74 : Cond.methodLink RX6 74 yX6_wrong ∈ UW := UW_mem (tb3 (List.mem_of_getElem? (i := 164) rfl)) rfl
theorem lkX6_96 : Cond.methodLink RX6 96 yX9_place ∈ UW := UW_mem (tb3 (List.mem_of_getElem? (i := 168) rfl)) rfl
theorem lkX6_99 : Cond.methodLink RX6 99 yX9_step ∈ UW := UW_mem (tb3 (List.mem_of_getElem? (i := 172) rfl)) rfl
theorem lkX6_106 : Cond.methodLink RX6 106 yX9_isName ∈ UW := UW_mem (tb3 (List.mem_of_getElem? (i := 173) rfl)) rfl
theorem lkX9_90 : Cond.methodLink RX9 90 yX10_mayBeName ∈ UW := UW_mem (tb3 (List.mem_of_getElem? (i := 177) rfl)) rfl
theorem lkX6_110 : Cond.methodLink RX6 110 yX9_letters ∈ UW := UW_mem (tb3 (List.mem_of_getElem? (i := 181) rfl)) rfl
theorem lkX6_114 : Cond.methodLink RX6 114 yX2_find ∈ UW := UW_mem (tb3 (List.mem_of_getElem? (i := 185) rfl)) rfl
theorem lkX6_118 : Cond.methodLink RX6 118 yX9_word ∈ UW := UW_mem (tb3 (List.mem_of_getElem? (i := 189) rfl)) rfl
theorem lkX6_122 : Cond.methodLink RX6 122 yX10_isKind ∈ UW := UW_mem (tb3 (List.mem_of_getElem? (i := 193) rfl)) rfl
theorem lkX6_125 : Cond.methodLink RX6 125 yX10_sense ∈ UW := UW_mem (tb3 (List.mem_of_getElem? (i := 205) rfl)) rfl
theorem lkX6_128 : Cond.methodLink RX6 128 yX6_readWidth ∈ UW := UW_mem (tb3 (List.mem_of_getElem? (i := 209) rfl)) rfl
theorem lkX6_131 : Cond.methodLink RX6 131 yX9_number ∈ UW := UW_mem (tb3 (List.mem_of_getElem? (i := 215) rfl)) rfl
theorem lkX6_150 : Cond.methodLink RX6 150 yX2_hasWidth ∈ UW := UW_mem (tb3 (List.mem_of_getElem? (i := 219) rfl)) rfl
theorem lkX6_134 : Cond.methodLink RX6 134 yX10_isLie ∈ UW := UW_mem (tb3 (List.mem_of_getElem? (i := 223) rfl)) rfl
theorem lkX6_140 : Cond.methodLink RX6 140 yX2_add ∈ UW := UW_mem (tb3 (List.mem_of_getElem? (i := 232) rfl)) rfl
theorem lkX6_144 : Cond.methodLink RX6 144 yX6_skipSign ∈ UW := UW_mem (tb3 (List.mem_of_getElem? (i := 237) rfl)) rfl
theorem lkX6_60 : Cond.methodLink RX6 60 yX2_bars ∈ UW := UW_mem (tb4 (List.mem_of_getElem? (i := 3) rfl)) rfl
theorem lkX6_64 : Cond.methodLink RX6 64 yX6_readLaw ∈ UW := UW_mem (tb4 (List.mem_of_getElem? (i := 4) rfl)) rfl
theorem lkX6_160 : Cond.methodLink RX6 160 yX3_isTold ∈ UW := UW_mem (tb4 (List.mem_of_getElem? (i := 8) rfl)) rfl
theorem lkX6_165 : Cond.methodLink RX6 165 yX3_tell ∈ UW := UW_mem (tb4 (List.mem_of_getElem? (i := 12) rfl)) rfl
theorem lkX6_168 : Cond.methodLink RX6 168 yX6_readWhole ∈ UW := UW_mem (tb4 (List.mem_of_getElem? (i := 16) rfl)) rfl
theorem lkX6_172 : Cond.methodLink RX6 172 yX6_readTest ∈ UW := UW_mem (tb4 (List.mem_of_getElem? (i := 20) rfl)) rfl
theorem lkX6_183 : Cond.methodLink RX6 183 yX6_readSum ∈ UW := UW_mem (tb4 (List.mem_of_getElem? (i := 24) rfl)) rfl
theorem lkX6_186 : Cond.methodLink RX6 186 yX6_readProduct ∈ UW := UW_mem (tb4 (List.mem_of_getElem? (i := 28) rfl)) rfl
theorem lkX6_189 : Cond.methodLink RX6 189 yX6_readPart ∈ UW := UW_mem (tb4 (List.mem_of_getElem? (i := 32) rfl)) rfl
theorem lkX6_195 : Cond.methodLink RX6 195 yX10_isFact ∈ UW := UW_mem (tb4 (List.mem_of_getElem? (i := 38) rfl)) rfl
theorem lkX6_181 : Cond.methodLink RX6 181 yX3_add ∈ UW := UW_mem (tb4 (List.mem_of_getElem? (i := 50) rfl)) rfl
theorem lkX6_71 : Cond.methodLink RX6 71 yX2_costs ∈ UW := UW_mem (tb4 (List.mem_of_getElem? (i := 60) rfl)) rfl
theorem lkX6_78 : Cond.methodLink RX6 78 yX6_finish ∈ UW := UW_mem (tb4 (List.mem_of_getElem? (i := 61) rfl)) rfl
theorem lkX6_95 : Cond.methodLink RX6 95 yX9_clear ∈ UW := UW_mem (tb4 (List.mem_of_getElem? (i := 65) rfl)) rfl
theorem lkX11_127 : Cond.methodLink RX11 127 yX7_learn ∈ UW := UW_mem (tb4 (List.mem_of_getElem? (i := 69) rfl)) rfl
theorem lkX11_130 : Cond.methodLink RX11 130 yX11_beginAnew ∈ UW := UW_mem (tb4 (List.mem_of_getElem? (i := 70) rfl)) rfl
theorem lkX11_359 : Cond.methodLink RX11 359 yX4_clear ∈ UW := UW_mem (tb4 (List.mem_of_getElem? (i := 74) rfl)) rfl
theorem lkX11_362 : Cond.methodLink RX11 362 yX5_clear ∈ UW := UW_mem (tb4 (List.mem_of_getElem? (i := 78) rfl)) rfl
theorem lkX11_363 : Cond.methodLink RX11 363 yX8_forget ∈ UW := UW_mem (tb4 (List.mem_of_getElem? (i := 82) rfl)) rfl
theorem lkX11_366 : Cond.methodLink RX11 366 yX0_forget ∈ UW := UW_mem (tb4 (List.mem_of_getElem? (i := 86) rfl)) rfl
theorem lkX11_367 : Cond.methodLink RX11 367 yX1_forget ∈ UW := UW_mem (tb4 (List.mem_of_getElem? (i := 90) rfl)) rfl
theorem lkL_31 : Cond.methodLink RL 31 yX11_plan ∈ UW := UW_mem (tb4 (List.mem_of_getElem? (i := 95) rfl)) rfl
theorem lkX11_133 : Cond.methodLink RX11 133 yX7_cakes ∈ UW := UW_mem (tb4 (List.mem_of_getElem? (i := 99) rfl)) rfl
theorem lkX11_136 : Cond.methodLink RX11 136 yX6_readPlan ∈ UW := UW_mem (tb4 (List.mem_of_getElem? (i := 103) rfl)) rfl
theorem lkX6_82 : Cond.methodLink RX6 82 yX6_readTurn ∈ UW := UW_mem (tb4 (List.mem_of_getElem? (i := 107) rfl)) rfl
theorem lkX6_156 : Cond.methodLink RX6 156 yX6_keep ∈ UW := UW_mem (tb4 (List.mem_of_getElem? (i := 113) rfl)) rfl
theorem lkX11_140 : Cond.methodLink RX11 140 yX6_read ∈ UW := UW_mem (tb4 (List.mem_of_getElem? (i := 118) rfl)) rfl
theorem lkX11_144 : Cond.methodLink RX11 144 yX6_readSize ∈ UW := UW_mem (tb4 (List.mem_of_getElem? (i := 122) rfl)) rfl
theorem lkX11_147 : Cond.methodLink RX11 147 yX4_become ∈ UW := UW_mem (tb4 (List.mem_of_getElem? (i := 126) rfl)) rfl
theorem lkX4_19 : Cond.methodLink RX4 19 yJ9_min_7cf53 ∈ UW := UW_mem (tb4 (List.mem_of_getElem? (i := 130) rfl)) rfl
theorem lkL_35 : Cond.methodLink RL 35 yX11_wish ∈ UW := UW_mem (tb4 (List.mem_of_getElem? (i := 133) rfl)) rfl
theorem lkX11_151 : Cond.methodLink RX11 151 yX6_readWish ∈ UW := UW_mem (tb4 (List.mem_of_getElem? (i := 137) rfl)) rfl
theorem lkX6_88 : Cond.methodLink RX6 88 yX6_readWished ∈ UW := UW_mem (tb4 (List.mem_of_getElem? (i := 141) rfl)) rfl
theorem lkX11_154 : Cond.methodLink RX11 154 yX6_readUps ∈ UW := UW_mem (tb4 (List.mem_of_getElem? (i := 145) rfl)) rfl
theorem lkX11_157 : Cond.methodLink RX11 157 yX7_stackOf ∈ UW := UW_mem (tb4 (List.mem_of_getElem? (i := 149) rfl)) rfl
theorem lkL_39 : Cond.methodLink RL 39 yX11_cake ∈ UW := UW_mem (tb4 (List.mem_of_getElem? (i := 150) rfl)) rfl
theorem lkX11_161 : Cond.methodLink RX11 161 yX2_kindOf ∈ UW := UW_mem (tb4 (List.mem_of_getElem? (i := 154) rfl)) rfl
theorem lkX11_164 : Cond.methodLink RX11 164 yX2_widthOf ∈ UW := UW_mem (tb4 (List.mem_of_getElem? (i := 155) rfl)) rfl
theorem lkX11_167 : Cond.methodLink RX11 167 yX5_stack ∈ UW := UW_mem (tb4 (List.mem_of_getElem? (i := 156) rfl)) rfl
theorem lkX11_170 : Cond.methodLink RX11 170 yX7_placeOf ∈ UW := UW_mem (tb4 (List.mem_of_getElem? (i := 160) rfl)) rfl
theorem lkX7_154 : Cond.methodLink RX7 154 yX7_cakeIn ∈ UW := UW_mem (tb4 (List.mem_of_getElem? (i := 164) rfl)) rfl
theorem lkX11_174 : Cond.methodLink RX11 174 yX7_isUp ∈ UW := UW_mem (tb4 (List.mem_of_getElem? (i := 168) rfl)) rfl
theorem lkX7_157 : Cond.methodLink RX7 157 yX7_sideBitsOf ∈ UW := UW_mem (tb4 (List.mem_of_getElem? (i := 172) rfl)) rfl
theorem lkL_44 : Cond.methodLink RL 44 yX11_there ∈ UW := UW_mem (tb4 (List.mem_of_getElem? (i := 176) rfl)) rfl
theorem lkX11_178 : Cond.methodLink RX11 178 yX7_cakeIn ∈ UW := UW_mem (tb4 (List.mem_of_getElem? (i := 180) rfl)) rfl
theorem lkL_49 : Cond.methodLink RL 49 yX11_turn ∈ UW := UW_mem (tb4 (List.mem_of_getElem? (i := 181) rfl)) rfl
theorem lkX11_181 : Cond.methodLink RX11 181 yX7_isOpen ∈ UW := UW_mem (tb4 (List.mem_of_getElem? (i := 185) rfl)) rfl
theorem lkX7_160 : Cond.methodLink RX7 160 yX7_turnEntry ∈ UW := UW_mem (tb4 (List.mem_of_getElem? (i := 189) rfl)) rfl
theorem lkX7_163 : Cond.methodLink RX7 163 yX7_lawEntry ∈ UW := UW_mem (tb4 (List.mem_of_getElem? (i := 193) rfl)) rfl
theorem lkX11_184 : Cond.methodLink RX11 184 yX7_priceOf ∈ UW := UW_mem (tb4 (List.mem_of_getElem? (i := 197) rfl)) rfl
theorem lkX11_187 : Cond.methodLink RX11 187 yX7_turned ∈ UW := UW_mem (tb4 (List.mem_of_getElem? (i := 201) rfl)) rfl
theorem lkX11_190 : Cond.methodLink RX11 190 yX5_move ∈ UW := UW_mem (tb4 (List.mem_of_getElem? (i := 205) rfl)) rfl
theorem lkX11_194 : Cond.methodLink RX11 194 yX11_keepForUndo ∈ UW := UW_mem (tb4 (List.mem_of_getElem? (i := 209) rfl)) rfl
theorem lkX11_368 : Cond.methodLink RX11 368 yX11_put ∈ UW := UW_mem (tb4 (List.mem_of_getElem? (i := 213) rfl)) rfl
theorem lkL_53 : Cond.methodLink RL 53 yX11_undo ∈ UW := UW_mem (tb4 (List.mem_of_getElem? (i := 214) rfl)) rfl
theorem lkX11_201 : Cond.methodLink RX11 201 yX11_at ∈ UW := UW_mem (tb4 (List.mem_of_getElem? (i := 218) rfl)) rfl
theorem lkL_58 : Cond.methodLink RL 58 yX11_can ∈ UW := UW_mem (tb4 (List.mem_of_getElem? (i := 219) rfl)) rfl
theorem lkL_63 : Cond.methodLink RL 63 yX11_cost ∈ UW := UW_mem (tb4 (List.mem_of_getElem? (i := 223) rfl)) rfl
theorem lkX11_204 : Cond.methodLink RX11 204 yX11_isTurn ∈ UW := UW_mem (tb4 (List.mem_of_getElem? (i := 227) rfl)) rfl
theorem lkL_67 : Cond.methodLink RL 67 yX11_served ∈ UW := UW_mem (tb4 (List.mem_of_getElem? (i := 231) rfl)) rfl
theorem lkX11_208 : Cond.methodLink RX11 208 yX7_goal ∈ UW := UW_mem (tb4 (List.mem_of_getElem? (i := 235) rfl)) rfl
theorem lkL_71 : Cond.methodLink RL 71 yX11_judged ∈ UW := UW_mem (tb4 (List.mem_of_getElem? (i := 239) rfl)) rfl
theorem lkX11_211 : Cond.methodLink RX11 211 yX4_judge ∈ UW := UW_mem (tb5 (List.mem_of_getElem? (i := 3) rfl)) rfl
theorem lkX4_42 : Cond.methodLink RX4 42 yX7_told ∈ UW := UW_mem (tb5 (List.mem_of_getElem? (i := 7) rfl)) rfl
theorem lkX4_33 : Cond.methodLink RX4 33 yX7_isOpen ∈ UW := UW_mem (tb5 (List.mem_of_getElem? (i := 8) rfl)) rfl
theorem lkX4_46 : Cond.methodLink RX4 46 yX7_priceOf ∈ UW := UW_mem (tb5 (List.mem_of_getElem? (i := 9) rfl)) rfl
theorem lkX4_39 : Cond.methodLink RX4 39 yX7_turned ∈ UW := UW_mem (tb5 (List.mem_of_getElem? (i := 10) rfl)) rfl
theorem lkX4_49 : Cond.methodLink RX4 49 yX7_goal ∈ UW := UW_mem (tb5 (List.mem_of_getElem? (i := 11) rfl)) rfl
theorem lkL_75 : Cond.methodLink RL 75 yX11_least ∈ UW := UW_mem (tb5 (List.mem_of_getElem? (i := 12) rfl)) rfl
theorem lkX11_215 : Cond.methodLink RX11 215 yX11_servedSteps ∈ UW := UW_mem (tb5 (List.mem_of_getElem? (i := 16) rfl)) rfl
theorem lkX11_372 : Cond.methodLink RX11 372 yX8_learn ∈ UW := UW_mem (tb5 (List.mem_of_getElem? (i := 20) rfl)) rfl
theorem lkX8_33 : Cond.methodLink RX8 33 yJ7_fill_53178 ∈ UW := UW_mem (tb5 (List.mem_of_getElem? (i := 24) rfl)) rfl
theorem lkX8_39 : Cond.methodLink RX8 39 yX7_all ∈ UW := UW_mem (tb5 (List.mem_of_getElem? (i := 27) rfl)) rfl
theorem lkX8_45 : Cond.methodLink RX8 45 yX7_queue ∈ UW := UW_mem (tb5 (List.mem_of_getElem? (i := 31) rfl)) rfl
theorem lkX8_53 : Cond.methodLink RX8 53 yX8_learnRound ∈ UW := UW_mem (tb5 (List.mem_of_getElem? (i := 36) rfl)) rfl
theorem lkX8_57 : Cond.methodLink RX8 57 yX7_cakes ∈ UW := UW_mem (tb5 (List.mem_of_getElem? (i := 40) rfl)) rfl
theorem lkX8_60 : Cond.methodLink RX8 60 yX7_turned ∈ UW := UW_mem (tb5 (List.mem_of_getElem? (i := 41) rfl)) rfl
theorem lkX8_67 : Cond.methodLink RX8 67 yX7_isOpen ∈ UW := UW_mem (tb5 (List.mem_of_getElem? (i := 43) rfl)) rfl
theorem lkX11_219 : Cond.methodLink RX11 219 yX8_turnsOf ∈ UW := UW_mem (tb5 (List.mem_of_getElem? (i := 44) rfl)) rfl
theorem lkL_79 : Cond.methodLink RL 79 yX11_row ∈ UW := UW_mem (tb5 (List.mem_of_getElem? (i := 48) rfl)) rfl
theorem lkX11_222 : Cond.methodLink RX11 222 yX8_firstTurn ∈ UW := UW_mem (tb5 (List.mem_of_getElem? (i := 52) rfl)) rfl
theorem lkX8_71 : Cond.methodLink RX8 71 yX8_isNearer ∈ UW := UW_mem (tb5 (List.mem_of_getElem? (i := 56) rfl)) rfl
theorem lkL_83 : Cond.methodLink RL 83 yX11_ways ∈ UW := UW_mem (tb5 (List.mem_of_getElem? (i := 60) rfl)) rfl
theorem lkX11_225 : Cond.methodLink RX11 225 yX8_rowsOf ∈ UW := UW_mem (tb5 (List.mem_of_getElem? (i := 64) rfl)) rfl
theorem lkX8_74 : Cond.methodLink RX8 74 yX7_scratch ∈ UW := UW_mem (tb5 (List.mem_of_getElem? (i := 68) rfl)) rfl
theorem lkX8_77 : Cond.methodLink RX8 77 yX8_addRows ∈ UW := UW_mem (tb5 (List.mem_of_getElem? (i := 72) rfl)) rfl
theorem lkX8_82 : Cond.methodLink RX8 82 yJ9_min_f86c9 ∈ UW := UW_mem (tb5 (List.mem_of_getElem? (i := 77) rfl)) rfl
theorem lkL_87 : Cond.methodLink RL 87 yX11_cheap ∈ UW := UW_mem (tb5 (List.mem_of_getElem? (i := 80) rfl)) rfl
theorem lkX11_228 : Cond.methodLink RX11 228 yX0_learn ∈ UW := UW_mem (tb5 (List.mem_of_getElem? (i := 84) rfl)) rfl
theorem lkX0_23 : Cond.methodLink RX0 23 yJ7_fill_53178 ∈ UW := UW_mem (tb5 (List.mem_of_getElem? (i := 88) rfl)) rfl
theorem lkX0_29 : Cond.methodLink RX0 29 yX7_goal ∈ UW := UW_mem (tb5 (List.mem_of_getElem? (i := 89) rfl)) rfl
theorem lkX0_40 : Cond.methodLink RX0 40 yX7_all ∈ UW := UW_mem (tb5 (List.mem_of_getElem? (i := 92) rfl)) rfl
theorem lkX0_47 : Cond.methodLink RX0 47 yX0_learnBehind ∈ UW := UW_mem (tb5 (List.mem_of_getElem? (i := 94) rfl)) rfl
theorem lkX0_56 : Cond.methodLink RX0 56 yX7_cakes ∈ UW := UW_mem (tb5 (List.mem_of_getElem? (i := 98) rfl)) rfl
theorem lkX0_59 : Cond.methodLink RX0 59 yX7_turned ∈ UW := UW_mem (tb5 (List.mem_of_getElem? (i := 99) rfl)) rfl
theorem lkX0_62 : Cond.methodLink RX0 62 yX7_priceOf ∈ UW := UW_mem (tb5 (List.mem_of_getElem? (i := 100) rfl)) rfl
theorem lkX0_65 : Cond.methodLink RX0 65 yX7_isOpen ∈ UW := UW_mem (tb5 (List.mem_of_getElem? (i := 101) rfl)) rfl
theorem lkX0_51 : Cond.methodLink RX0 51 yJ9_max_7cf53 ∈ UW := UW_mem (tb5 (List.mem_of_getElem? (i := 102) rfl)) rfl
theorem lkX11_230 : Cond.methodLink RX11 230 yX0_sumOf ∈ UW := UW_mem (tb5 (List.mem_of_getElem? (i := 103) rfl)) rfl
theorem lkL_91 : Cond.methodLink RL 91 yX11_bill ∈ UW := UW_mem (tb5 (List.mem_of_getElem? (i := 107) rfl)) rfl
theorem lkX11_233 : Cond.methodLink RX11 233 yX0_firstTurn ∈ UW := UW_mem (tb5 (List.mem_of_getElem? (i := 111) rfl)) rfl
theorem lkL_95 : Cond.methodLink RL 95 yX11_without ∈ UW := UW_mem (tb5 (List.mem_of_getElem? (i := 115) rfl)) rfl
theorem lkX11_234 : Cond.methodLink RX11 234 yX11_leastWithout ∈ UW := UW_mem (tb5 (List.mem_of_getElem? (i := 119) rfl)) rfl
theorem lkL_99 : Cond.methodLink RL 99 yX11_needed ∈ UW := UW_mem (tb5 (List.mem_of_getElem? (i := 123) rfl)) rfl
theorem lkL_103 : Cond.methodLink RL 103 yX11_far ∈ UW := UW_mem (tb5 (List.mem_of_getElem? (i := 127) rfl)) rfl
theorem lkX11_237 : Cond.methodLink RX11 237 yX11_wishSteps ∈ UW := UW_mem (tb5 (List.mem_of_getElem? (i := 131) rfl)) rfl
theorem lkL_107 : Cond.methodLink RL 107 yX11_toward ∈ UW := UW_mem (tb5 (List.mem_of_getElem? (i := 135) rfl)) rfl
theorem lkL_111 : Cond.methodLink RL 111 yX11_never ∈ UW := UW_mem (tb5 (List.mem_of_getElem? (i := 139) rfl)) rfl
theorem lkX11_240 : Cond.methodLink RX11 240 yX8_stacksAt ∈ UW := UW_mem (tb5 (List.mem_of_getElem? (i := 143) rfl)) rfl
theorem lkL_115 : Cond.methodLink RL 115 yX11_hard ∈ UW := UW_mem (tb5 (List.mem_of_getElem? (i := 147) rfl)) rfl
theorem lkX11_243 : Cond.methodLink RX11 243 yX8_most ∈ UW := UW_mem (tb5 (List.mem_of_getElem? (i := 151) rfl)) rfl
theorem lkX8_88 : Cond.methodLink RX8 88 yJ9_max_7cf53 ∈ UW := UW_mem (tb5 (List.mem_of_getElem? (i := 155) rfl)) rfl
theorem lkL_119 : Cond.methodLink RL 119 yX11_spread ∈ UW := UW_mem (tb5 (List.mem_of_getElem? (i := 156) rfl)) rfl
theorem lkL_123 : Cond.methodLink RL 123 yX11_dear ∈ UW := UW_mem (tb5 (List.mem_of_getElem? (i := 160) rfl)) rfl
theorem lkX11_246 : Cond.methodLink RX11 246 yX0_mostSum ∈ UW := UW_mem (tb5 (List.mem_of_getElem? (i := 164) rfl)) rfl
theorem lkL_127 : Cond.methodLink RL 127 yX11_rim ∈ UW := UW_mem (tb5 (List.mem_of_getElem? (i := 168) rfl)) rfl
theorem lkX11_249 : Cond.methodLink RX11 249 yX11_nowSteps ∈ UW := UW_mem (tb5 (List.mem_of_getElem? (i := 172) rfl)) rfl
theorem lkL_131 : Cond.methodLink RL 131 yX11_nth ∈ UW := UW_mem (tb5 (List.mem_of_getElem? (i := 176) rfl)) rfl
theorem lkX11_252 : Cond.methodLink RX11 252 yX7_numberOf ∈ UW := UW_mem (tb5 (List.mem_of_getElem? (i := 180) rfl)) rfl
theorem lkX7_166 : Cond.methodLink RX7 166 yX7_isUp ∈ UW := UW_mem (tb5 (List.mem_of_getElem? (i := 184) rfl)) rfl
theorem lkL_135 : Cond.methodLink RL 135 yX11_ring ∈ UW := UW_mem (tb5 (List.mem_of_getElem? (i := 185) rfl)) rfl
theorem lkL_139 : Cond.methodLink RL 139 yX11_pairs ∈ UW := UW_mem (tb5 (List.mem_of_getElem? (i := 189) rfl)) rfl
theorem lkX11_255 : Cond.methodLink RX11 255 yX7_pairsIn ∈ UW := UW_mem (tb5 (List.mem_of_getElem? (i := 193) rfl)) rfl
theorem lkX7_170 : Cond.methodLink RX7 170 yX2_widthOf ∈ UW := UW_mem (tb5 (List.mem_of_getElem? (i := 197) rfl)) rfl
theorem lkL_143 : Cond.methodLink RL 143 yX11_reached ∈ UW := UW_mem (tb5 (List.mem_of_getElem? (i := 198) rfl)) rfl
theorem lkX11_258 : Cond.methodLink RX11 258 yX8_stacksWithin ∈ UW := UW_mem (tb5 (List.mem_of_getElem? (i := 202) rfl)) rfl
theorem lkL_147 : Cond.methodLink RL 147 yX11_gaps ∈ UW := UW_mem (tb5 (List.mem_of_getElem? (i := 206) rfl)) rfl
theorem lkX11_261 : Cond.methodLink RX11 261 yX7_gapsIn ∈ UW := UW_mem (tb5 (List.mem_of_getElem? (i := 210) rfl)) rfl
theorem lkX7_173 : Cond.methodLink RX7 173 yX7_isGap ∈ UW := UW_mem (tb5 (List.mem_of_getElem? (i := 214) rfl)) rfl
theorem lkX7_176 : Cond.methodLink RX7 176 yX7_mayLie ∈ UW := UW_mem (tb5 (List.mem_of_getElem? (i := 218) rfl)) rfl
theorem lkL_151 : Cond.methodLink RL 151 yX11_sharp ∈ UW := UW_mem (tb5 (List.mem_of_getElem? (i := 222) rfl)) rfl
theorem lkL_155 : Cond.methodLink RL 155 yX11_again ∈ UW := UW_mem (tb5 (List.mem_of_getElem? (i := 226) rfl)) rfl
theorem lkX11_264 : Cond.methodLink RX11 264 yX4_doneWhole ∈ UW := UW_mem (tb5 (List.mem_of_getElem? (i := 230) rfl)) rfl
theorem lkL_159 : Cond.methodLink RL 159 yX11_spare ∈ UW := UW_mem (tb5 (List.mem_of_getElem? (i := 234) rfl)) rfl
theorem lkX11_267 : Cond.methodLink RX11 267 yX4_doneFrom ∈ UW := UW_mem (tb5 (List.mem_of_getElem? (i := 238) rfl)) rfl
theorem lkX11_271 : Cond.methodLink RX11 271 yX4_size ∈ UW := UW_mem (tb6 (List.mem_of_getElem? (i := 2) rfl)) rfl
theorem lkL_163 : Cond.methodLink RL 163 yX11_ends ∈ UW := UW_mem (tb6 (List.mem_of_getElem? (i := 6) rfl)) rfl
theorem lkL_167 : Cond.methodLink RL 167 yX11_wins ∈ UW := UW_mem (tb6 (List.mem_of_getElem? (i := 10) rfl)) rfl
theorem lkX11_274 : Cond.methodLink RX11 274 yX1_learn ∈ UW := UW_mem (tb6 (List.mem_of_getElem? (i := 14) rfl)) rfl
theorem lkX1_23 : Cond.methodLink RX1 23 yJ7_fill_53178 ∈ UW := UW_mem (tb6 (List.mem_of_getElem? (i := 18) rfl)) rfl
theorem lkX1_29 : Cond.methodLink RX1 29 yX7_queue ∈ UW := UW_mem (tb6 (List.mem_of_getElem? (i := 19) rfl)) rfl
theorem lkX1_35 : Cond.methodLink RX1 35 yX7_scratch ∈ UW := UW_mem (tb6 (List.mem_of_getElem? (i := 20) rfl)) rfl
theorem lkX1_38 : Cond.methodLink RX1 38 yX7_all ∈ UW := UW_mem (tb6 (List.mem_of_getElem? (i := 21) rfl)) rfl
theorem lkX1_42 : Cond.methodLink RX1 42 yX1_openTurns ∈ UW := UW_mem (tb6 (List.mem_of_getElem? (i := 22) rfl)) rfl
theorem lkX1_61 : Cond.methodLink RX1 61 yX7_cakes ∈ UW := UW_mem (tb6 (List.mem_of_getElem? (i := 26) rfl)) rfl
theorem lkX1_64 : Cond.methodLink RX1 64 yX7_isOpen ∈ UW := UW_mem (tb6 (List.mem_of_getElem? (i := 27) rfl)) rfl
theorem lkX1_50 : Cond.methodLink RX1 50 yX7_goal ∈ UW := UW_mem (tb6 (List.mem_of_getElem? (i := 29) rfl)) rfl
theorem lkX1_57 : Cond.methodLink RX1 57 yX1_learnRound ∈ UW := UW_mem (tb6 (List.mem_of_getElem? (i := 31) rfl)) rfl
theorem lkX1_68 : Cond.methodLink RX1 68 yX7_turned ∈ UW := UW_mem (tb6 (List.mem_of_getElem? (i := 35) rfl)) rfl
theorem lkX11_275 : Cond.methodLink RX11 275 yX1_winnerOf ∈ UW := UW_mem (tb6 (List.mem_of_getElem? (i := 36) rfl)) rfl
theorem lkX11_278 : Cond.methodLink RX11 278 yX1_turnsOf ∈ UW := UW_mem (tb6 (List.mem_of_getElem? (i := 40) rfl)) rfl
theorem lkL_171 : Cond.methodLink RL 171 yX11_his ∈ UW := UW_mem (tb6 (List.mem_of_getElem? (i := 44) rfl)) rfl
theorem lkX11_279 : Cond.methodLink RX11 279 yX1_bestTurn ∈ UW := UW_mem (tb6 (List.mem_of_getElem? (i := 48) rfl)) rfl
theorem lkL_175 : Cond.methodLink RL 175 yX11_see ∈ UW := UW_mem (tb6 (List.mem_of_getElem? (i := 52) rfl)) rfl
theorem lkX11_282 : Cond.methodLink RX11 282 yX11_isPlace ∈ UW := UW_mem (tb6 (List.mem_of_getElem? (i := 56) rfl)) rfl
theorem lkX11_285 : Cond.methodLink RX11 285 yX5_addClue ∈ UW := UW_mem (tb6 (List.mem_of_getElem? (i := 60) rfl)) rfl
theorem lkL_180 : Cond.methodLink RL 180 yX11_lies ∈ UW := UW_mem (tb6 (List.mem_of_getElem? (i := 65) rfl)) rfl
theorem lkL_185 : Cond.methodLink RL 185 yX11_fit ∈ UW := UW_mem (tb6 (List.mem_of_getElem? (i := 69) rfl)) rfl
theorem lkX11_289 : Cond.methodLink RX11 289 yX7_all ∈ UW := UW_mem (tb6 (List.mem_of_getElem? (i := 73) rfl)) rfl
theorem lkX11_292 : Cond.methodLink RX11 292 yX5_fits ∈ UW := UW_mem (tb6 (List.mem_of_getElem? (i := 74) rfl)) rfl
theorem lkX5_40 : Cond.methodLink RX5 40 yX5_holds ∈ UW := UW_mem (tb6 (List.mem_of_getElem? (i := 79) rfl)) rfl
theorem lkX5_44 : Cond.methodLink RX5 44 yX7_cakeIn ∈ UW := UW_mem (tb6 (List.mem_of_getElem? (i := 82) rfl)) rfl
theorem lkX5_50 : Cond.methodLink RX5 50 yX7_isUp ∈ UW := UW_mem (tb6 (List.mem_of_getElem? (i := 83) rfl)) rfl
theorem lkL_189 : Cond.methodLink RL 189 yX11_look ∈ UW := UW_mem (tb6 (List.mem_of_getElem? (i := 84) rfl)) rfl
theorem lkX11_296 : Cond.methodLink RX11 296 yX11_fillTally ∈ UW := UW_mem (tb6 (List.mem_of_getElem? (i := 88) rfl)) rfl
theorem lkX11_374 : Cond.methodLink RX11 374 yX7_clearTally ∈ UW := UW_mem (tb6 (List.mem_of_getElem? (i := 92) rfl)) rfl
theorem lkX7_180 : Cond.methodLink RX7 180 yJ7_fill_53178 ∈ UW := UW_mem (tb6 (List.mem_of_getElem? (i := 96) rfl)) rfl
theorem lkX11_377 : Cond.methodLink RX11 377 yX7_addToTally ∈ UW := UW_mem (tb6 (List.mem_of_getElem? (i := 97) rfl)) rfl
theorem lkX7_195 : Cond.methodLink RX7 195 yX7_tallyEntry ∈ UW := UW_mem (tb6 (List.mem_of_getElem? (i := 101) rfl)) rfl
theorem lkX11_299 : Cond.methodLink RX11 299 yX7_mostInTally ∈ UW := UW_mem (tb6 (List.mem_of_getElem? (i := 104) rfl)) rfl
theorem lkL_193 : Cond.methodLink RL 193 yX11_chance ∈ UW := UW_mem (tb6 (List.mem_of_getElem? (i := 108) rfl)) rfl
theorem lkX11_302 : Cond.methodLink RX11 302 yX7_startCounts ∈ UW := UW_mem (tb6 (List.mem_of_getElem? (i := 112) rfl)) rfl
theorem lkX11_305 : Cond.methodLink RX11 305 yX7_spreadCounts ∈ UW := UW_mem (tb6 (List.mem_of_getElem? (i := 116) rfl)) rfl
theorem lkX7_186 : Cond.methodLink RX7 186 yX7_all ∈ UW := UW_mem (tb6 (List.mem_of_getElem? (i := 120) rfl)) rfl
theorem lkX7_189 : Cond.methodLink RX7 189 yX7_isOpen ∈ UW := UW_mem (tb6 (List.mem_of_getElem? (i := 121) rfl)) rfl
theorem lkX7_192 : Cond.methodLink RX7 192 yX7_turned ∈ UW := UW_mem (tb6 (List.mem_of_getElem? (i := 122) rfl)) rfl
theorem lkX11_309 : Cond.methodLink RX11 309 yX7_countOf ∈ UW := UW_mem (tb6 (List.mem_of_getElem? (i := 123) rfl)) rfl
theorem lkL_207 : Cond.methodLink RL 207 yX11_mornings ∈ UW := UW_mem (tb6 (List.mem_of_getElem? (i := 128) rfl)) rfl
theorem lkX11_324 : Cond.methodLink RX11 324 yX11_nextState ∈ UW := UW_mem (tb6 (List.mem_of_getElem? (i := 132) rfl)) rfl
theorem lkX11_328 : Cond.methodLink RX11 328 yX11_drawBelow ∈ UW := UW_mem (tb6 (List.mem_of_getElem? (i := 138) rfl)) rfl
theorem lkL_212 : Cond.methodLink RL 212 yX11_mark ∈ UW := UW_mem (tb6 (List.mem_of_getElem? (i := 142) rfl)) rfl
theorem lkX11_332 : Cond.methodLink RX11 332 yX5_become ∈ UW := UW_mem (tb6 (List.mem_of_getElem? (i := 146) rfl)) rfl
theorem lkX11_335 : Cond.methodLink RX11 335 yX5_isLaid ∈ UW := UW_mem (tb6 (List.mem_of_getElem? (i := 150) rfl)) rfl
theorem lkL_216 : Cond.methodLink RL 216 yX11_count ∈ UW := UW_mem (tb6 (List.mem_of_getElem? (i := 154) rfl)) rfl
theorem lkX11_339 : Cond.methodLink RX11 339 yX5_turns ∈ UW := UW_mem (tb6 (List.mem_of_getElem? (i := 158) rfl)) rfl
theorem lkX11_342 : Cond.methodLink RX11 342 yX5_spent ∈ UW := UW_mem (tb6 (List.mem_of_getElem? (i := 162) rfl)) rfl
theorem lkX11_345 : Cond.methodLink RX11 345 yX11_openBits ∈ UW := UW_mem (tb6 (List.mem_of_getElem? (i := 166) rfl)) rfl
theorem lkX11_348 : Cond.methodLink RX11 348 yX5_seen ∈ UW := UW_mem (tb6 (List.mem_of_getElem? (i := 170) rfl)) rfl
theorem lkL_198 : Cond.methodLink RL 198 yL_rests ∈ UW := UW_mem (tb6 (List.mem_of_getElem? (i := 174) rfl)) rfl
theorem lkL_7 : Cond.methodLink RL 7 yX11_rests ∈ UW := UW_mem (tb6 (List.mem_of_getElem? (i := 178) rfl)) rfl
theorem lkX11_314 : Cond.methodLink RX11 314 yX11_isDigit ∈ UW := UW_mem (tb6 (List.mem_of_getElem? (i := 182) rfl)) rfl
theorem lkX11_320 : Cond.methodLink RX11 320 yX11_gain ∈ UW := UW_mem (tb7 (List.mem_of_getElem? (i := 6) rfl)) rfl
theorem lkL_204 : Cond.methodLink RL 204 yX12_thrown ∈ UW := UW_mem (tb7 (List.mem_of_getElem? (i := 9) rfl)) rfl
theorem lkL_25 : Cond.methodLink RL 25 yX12_feed ∈ UW := UW_mem (tb7 (List.mem_of_getElem? (i := 13) rfl)) rfl
theorem lkX12_7 : Cond.methodLink RX12 7 yX12_lay ∈ UW := UW_mem (tb7 (List.mem_of_getElem? (i := 17) rfl)) rfl
theorem lkL_18 : Cond.methodLink RL 18 yX12_init ∈ UW := UW_mem (tb7 (List.mem_of_getElem? (i := 23) rfl)) rfl
theorem lkX12_119 : Cond.methodLink RX12 119 yX12_standsAsAlways ∈ UW := UW_mem (tb7 (List.mem_of_getElem? (i := 45) rfl)) rfl
theorem lkX12_123 : Cond.methodLink RX12 123 yX12_begins ∈ UW := UW_mem (tb7 (List.mem_of_getElem? (i := 49) rfl)) rfl
theorem lkX12_209 : Cond.methodLink RX12 209 yX12_cakes ∈ UW := UW_mem (tb7 (List.mem_of_getElem? (i := 53) rfl)) rfl
theorem lkX12_236 : Cond.methodLink RX12 236 yX12_hasSide ∈ UW := UW_mem (tb7 (List.mem_of_getElem? (i := 57) rfl)) rfl
theorem lkX12_239 : Cond.methodLink RX12 239 yX12_cakeOf ∈ UW := UW_mem (tb7 (List.mem_of_getElem? (i := 61) rfl)) rfl
theorem lkX12_242 : Cond.methodLink RX12 242 yX12_numberNow ∈ UW := UW_mem (tb7 (List.mem_of_getElem? (i := 65) rfl)) rfl
theorem lkL_30 : Cond.methodLink RL 30 yX12_griddle ∈ UW := UW_mem (tb7 (List.mem_of_getElem? (i := 164) rfl)) rfl
theorem lkX12_171 : Cond.methodLink RX12 171 yX12_cutAll ∈ UW := UW_mem (tb7 (List.mem_of_getElem? (i := 168) rfl)) rfl
theorem lkX12_126 : Cond.methodLink RX12 126 yX12_isLetter ∈ UW := UW_mem (tb7 (List.mem_of_getElem? (i := 172) rfl)) rfl
theorem lkX12_135 : Cond.methodLink RX12 135 yX12_rank ∈ UW := UW_mem (tb7 (List.mem_of_getElem? (i := 176) rfl)) rfl
theorem lkX12_139 : Cond.methodLink RX12 139 yX12_isDigit ∈ UW := UW_mem (tb7 (List.mem_of_getElem? (i := 179) rfl)) rfl
theorem lkX12_146 : Cond.methodLink RX12 146 yX12_isSignOf ∈ UW := UW_mem (tb7 (List.mem_of_getElem? (i := 184) rfl)) rfl
theorem lkX12_161 : Cond.methodLink RX12 161 yX12_isWord ∈ UW := UW_mem (tb7 (List.mem_of_getElem? (i := 187) rfl)) rfl
theorem lkX12_177 : Cond.methodLink RX12 177 yX12_readCake ∈ UW := UW_mem (tb7 (List.mem_of_getElem? (i := 191) rfl)) rfl
theorem lkX12_158 : Cond.methodLink RX12 158 yX12_wrong ∈ UW := UW_mem (tb7 (List.mem_of_getElem? (i := 195) rfl)) rfl
theorem lkX12_186 : Cond.methodLink RX12 186 yX12_isName ∈ UW := UW_mem (tb7 (List.mem_of_getElem? (i := 199) rfl)) rfl
theorem lkX12_167 : Cond.methodLink RX12 167 yX12_wordHere ∈ UW := UW_mem (tb7 (List.mem_of_getElem? (i := 203) rfl)) rfl
theorem lkX12_190 : Cond.methodLink RX12 190 yX12_nameAt ∈ UW := UW_mem (tb7 (List.mem_of_getElem? (i := 207) rfl)) rfl
theorem lkX12_193 : Cond.methodLink RX12 193 yX12_takeOne ∈ UW := UW_mem (tb7 (List.mem_of_getElem? (i := 211) rfl)) rfl
theorem lkX12_196 : Cond.methodLink RX12 196 yX12_takeWord ∈ UW := UW_mem (tb7 (List.mem_of_getElem? (i := 215) rfl)) rfl
theorem lkX12_164 : Cond.methodLink RX12 164 yX12_hasWord ∈ UW := UW_mem (tb7 (List.mem_of_getElem? (i := 219) rfl)) rfl
theorem lkX12_199 : Cond.methodLink RX12 199 yX12_takeNumber ∈ UW := UW_mem (tb7 (List.mem_of_getElem? (i := 223) rfl)) rfl
theorem lkX12_180 : Cond.methodLink RX12 180 yX12_readLaw ∈ UW := UW_mem (tb7 (List.mem_of_getElem? (i := 227) rfl)) rfl
theorem lkX12_202 : Cond.methodLink RX12 202 yX12_whole ∈ UW := UW_mem (tb7 (List.mem_of_getElem? (i := 231) rfl)) rfl
theorem lkX12_217 : Cond.methodLink RX12 217 yX12_test ∈ UW := UW_mem (tb7 (List.mem_of_getElem? (i := 235) rfl)) rfl
theorem lkX12_220 : Cond.methodLink RX12 220 yX12_sums ∈ UW := UW_mem (tb7 (List.mem_of_getElem? (i := 239) rfl)) rfl
theorem lkX12_226 : Cond.methodLink RX12 226 yX12_products ∈ UW := UW_mem (tb8 (List.mem_of_getElem? (i := 3) rfl)) rfl
theorem lkX12_229 : Cond.methodLink RX12 229 yX12_takePart ∈ UW := UW_mem (tb8 (List.mem_of_getElem? (i := 7) rfl)) rfl
theorem lkX12_155 : Cond.methodLink RX12 155 yX12_isSign ∈ UW := UW_mem (tb8 (List.mem_of_getElem? (i := 11) rfl)) rfl
theorem lkX12_205 : Cond.methodLink RX12 205 yX12_emit ∈ UW := UW_mem (tb8 (List.mem_of_getElem? (i := 15) rfl)) rfl
theorem lkX12_223 : Cond.methodLink RX12 223 yX12_hasSign ∈ UW := UW_mem (tb8 (List.mem_of_getElem? (i := 19) rfl)) rfl
theorem lkX12_183 : Cond.methodLink RX12 183 yX12_takeSign ∈ UW := UW_mem (tb8 (List.mem_of_getElem? (i := 23) rfl)) rfl
theorem lkL_34 : Cond.methodLink RL 34 yX12_plan ∈ UW := UW_mem (tb8 (List.mem_of_getElem? (i := 27) rfl)) rfl
theorem lkL_38 : Cond.methodLink RL 38 yX12_wish ∈ UW := UW_mem (tb8 (List.mem_of_getElem? (i := 31) rfl)) rfl
theorem lkL_43 : Cond.methodLink RL 43 yX12_cake ∈ UW := UW_mem (tb8 (List.mem_of_getElem? (i := 35) rfl)) rfl
theorem lkX12_270 : Cond.methodLink RX12 270 yX12_within ∈ UW := UW_mem (tb8 (List.mem_of_getElem? (i := 39) rfl)) rfl
theorem lkX12_274 : Cond.methodLink RX12 274 yX12_lays ∈ UW := UW_mem (tb8 (List.mem_of_getElem? (i := 42) rfl)) rfl
theorem lkX12_261 : Cond.methodLink RX12 261 yX12_sides ∈ UW := UW_mem (tb8 (List.mem_of_getElem? (i := 46) rfl)) rfl
theorem lkX12_258 : Cond.methodLink RX12 258 yX12_ordersOf ∈ UW := UW_mem (tb8 (List.mem_of_getElem? (i := 50) rfl)) rfl
theorem lkL_48 : Cond.methodLink RL 48 yX12_there ∈ UW := UW_mem (tb8 (List.mem_of_getElem? (i := 53) rfl)) rfl
theorem lkL_52 : Cond.methodLink RL 52 yX12_turn ∈ UW := UW_mem (tb8 (List.mem_of_getElem? (i := 57) rfl)) rfl
theorem lkX12_277 : Cond.methodLink RX12 277 yX12_mayTurn ∈ UW := UW_mem (tb8 (List.mem_of_getElem? (i := 61) rfl)) rfl
theorem lkX12_264 : Cond.methodLink RX12 264 yX12_factsFor ∈ UW := UW_mem (tb8 (List.mem_of_getElem? (i := 65) rfl)) rfl
theorem lkX12_267 : Cond.methodLink RX12 267 yX12_worthAt ∈ UW := UW_mem (tb8 (List.mem_of_getElem? (i := 69) rfl)) rfl
theorem lkX12_232 : Cond.methodLink RX12 232 yX12_both ∈ UW := UW_mem (tb8 (List.mem_of_getElem? (i := 73) rfl)) rfl
theorem lkX12_280 : Cond.methodLink RX12 280 yX12_keeps ∈ UW := UW_mem (tb8 (List.mem_of_getElem? (i := 76) rfl)) rfl
theorem lkX12_254 : Cond.methodLink RX12 254 yX12_copies ∈ UW := UW_mem (tb8 (List.mem_of_getElem? (i := 80) rfl)) rfl
theorem lkX12_283 : Cond.methodLink RX12 283 yX12_costOf ∈ UW := UW_mem (tb8 (List.mem_of_getElem? (i := 84) rfl)) rfl
theorem lkX12_286 : Cond.methodLink RX12 286 yX12_turns ∈ UW := UW_mem (tb8 (List.mem_of_getElem? (i := 88) rfl)) rfl
theorem lkL_57 : Cond.methodLink RL 57 yX12_undo ∈ UW := UW_mem (tb8 (List.mem_of_getElem? (i := 92) rfl)) rfl
theorem lkL_62 : Cond.methodLink RL 62 yX12_can ∈ UW := UW_mem (tb8 (List.mem_of_getElem? (i := 96) rfl)) rfl
theorem lkL_66 : Cond.methodLink RL 66 yX12_cost ∈ UW := UW_mem (tb8 (List.mem_of_getElem? (i := 100) rfl)) rfl
theorem lkL_70 : Cond.methodLink RL 70 yX12_served ∈ UW := UW_mem (tb8 (List.mem_of_getElem? (i := 104) rfl)) rfl
theorem lkX12_289 : Cond.methodLink RX12 289 yX12_isServed ∈ UW := UW_mem (tb8 (List.mem_of_getElem? (i := 108) rfl)) rfl
theorem lkL_74 : Cond.methodLink RL 74 yX12_judged ∈ UW := UW_mem (tb8 (List.mem_of_getElem? (i := 112) rfl)) rfl
theorem lkL_78 : Cond.methodLink RL 78 yX12_least ∈ UW := UW_mem (tb8 (List.mem_of_getElem? (i := 116) rfl)) rfl
theorem lkX12_315 : Cond.methodLink RX12 315 yX12_laysFewest ∈ UW := UW_mem (tb8 (List.mem_of_getElem? (i := 120) rfl)) rfl
theorem lkX12_311 : Cond.methodLink RX12 311 yX12_fewest ∈ UW := UW_mem (tb8 (List.mem_of_getElem? (i := 124) rfl)) rfl
theorem lkX12_294 : Cond.methodLink RX12 294 yX12_stacks ∈ UW := UW_mem (tb8 (List.mem_of_getElem? (i := 128) rfl)) rfl
theorem lkX12_297 : Cond.methodLink RX12 297 yX12_isWishedNow ∈ UW := UW_mem (tb8 (List.mem_of_getElem? (i := 132) rfl)) rfl
theorem lkX12_302 : Cond.methodLink RX12 302 yX12_partOf ∈ UW := UW_mem (tb8 (List.mem_of_getElem? (i := 137) rfl)) rfl
theorem lkX12_305 : Cond.methodLink RX12 305 yX12_waysOn ∈ UW := UW_mem (tb8 (List.mem_of_getElem? (i := 142) rfl)) rfl
theorem lkX12_318 : Cond.methodLink RX12 318 yX12_leastOf ∈ UW := UW_mem (tb8 (List.mem_of_getElem? (i := 147) rfl)) rfl
theorem lkL_86 : Cond.methodLink RL 86 yX12_ways ∈ UW := UW_mem (tb8 (List.mem_of_getElem? (i := 151) rfl)) rfl
theorem lkL_82 : Cond.methodLink RL 82 yX12_row ∈ UW := UW_mem (tb8 (List.mem_of_getElem? (i := 155) rfl)) rfl
theorem lkX12_324 : Cond.methodLink RX12 324 yX12_nearer ∈ UW := UW_mem (tb8 (List.mem_of_getElem? (i := 159) rfl)) rfl
theorem lkX12_321 : Cond.methodLink RX12 321 yX12_leadsFrom ∈ UW := UW_mem (tb8 (List.mem_of_getElem? (i := 163) rfl)) rfl
theorem lkL_98 : Cond.methodLink RL 98 yX12_without ∈ UW := UW_mem (tb8 (List.mem_of_getElem? (i := 167) rfl)) rfl
theorem lkL_102 : Cond.methodLink RL 102 yX12_needed ∈ UW := UW_mem (tb8 (List.mem_of_getElem? (i := 171) rfl)) rfl
theorem lkL_106 : Cond.methodLink RL 106 yX12_far ∈ UW := UW_mem (tb8 (List.mem_of_getElem? (i := 175) rfl)) rfl
theorem lkL_110 : Cond.methodLink RL 110 yX12_toward ∈ UW := UW_mem (tb8 (List.mem_of_getElem? (i := 179) rfl)) rfl
theorem lkL_114 : Cond.methodLink RL 114 yX12_never ∈ UW := UW_mem (tb8 (List.mem_of_getElem? (i := 183) rfl)) rfl
theorem lkL_118 : Cond.methodLink RL 118 yX12_hard ∈ UW := UW_mem (tb8 (List.mem_of_getElem? (i := 187) rfl)) rfl
theorem lkX12_327 : Cond.methodLink RX12 327 yX12_spreadOf ∈ UW := UW_mem (tb8 (List.mem_of_getElem? (i := 191) rfl)) rfl
theorem lkL_122 : Cond.methodLink RL 122 yX12_spread ∈ UW := UW_mem (tb8 (List.mem_of_getElem? (i := 195) rfl)) rfl
theorem lkL_154 : Cond.methodLink RL 154 yX12_sharp ∈ UW := UW_mem (tb8 (List.mem_of_getElem? (i := 199) rfl)) rfl
theorem lkX12_330 : Cond.methodLink RX12 330 yX12_gapsNow ∈ UW := UW_mem (tb8 (List.mem_of_getElem? (i := 203) rfl)) rfl
theorem lkX12_341 : Cond.methodLink RX12 341 yX12_isNextWider ∈ UW := UW_mem (tb8 (List.mem_of_getElem? (i := 207) rfl)) rfl
theorem lkX12_345 : Cond.methodLink RX12 345 yX12_liesBy ∈ UW := UW_mem (tb8 (List.mem_of_getElem? (i := 211) rfl)) rfl
theorem lkL_90 : Cond.methodLink RL 90 yX12_cheap ∈ UW := UW_mem (tb8 (List.mem_of_getElem? (i := 215) rfl)) rfl
theorem lkX12_333 : Cond.methodLink RX12 333 yX12_laysCheap ∈ UW := UW_mem (tb8 (List.mem_of_getElem? (i := 219) rfl)) rfl
theorem lkL_94 : Cond.methodLink RL 94 yX12_bill ∈ UW := UW_mem (tb8 (List.mem_of_getElem? (i := 223) rfl)) rfl
theorem lkL_126 : Cond.methodLink RL 126 yX12_dear ∈ UW := UW_mem (tb8 (List.mem_of_getElem? (i := 228) rfl)) rfl
theorem lkL_130 : Cond.methodLink RL 130 yX12_rim ∈ UW := UW_mem (tb8 (List.mem_of_getElem? (i := 232) rfl)) rfl
theorem lkX12_338 : Cond.methodLink RX12 338 yX12_reaches ∈ UW := UW_mem (tb8 (List.mem_of_getElem? (i := 236) rfl)) rfl
theorem lkL_146 : Cond.methodLink RL 146 yX12_reached ∈ UW := UW_mem (tb9 (List.mem_of_getElem? (i := 0) rfl)) rfl
theorem lkL_134 : Cond.methodLink RL 134 yX12_nth ∈ UW := UW_mem (tb9 (List.mem_of_getElem? (i := 4) rfl)) rfl
theorem lkL_150 : Cond.methodLink RL 150 yX12_gaps ∈ UW := UW_mem (tb9 (List.mem_of_getElem? (i := 8) rfl)) rfl
theorem lkL_142 : Cond.methodLink RL 142 yX12_pairs ∈ UW := UW_mem (tb9 (List.mem_of_getElem? (i := 12) rfl)) rfl
theorem lkL_158 : Cond.methodLink RL 158 yX12_again ∈ UW := UW_mem (tb9 (List.mem_of_getElem? (i := 16) rfl)) rfl
theorem lkL_162 : Cond.methodLink RL 162 yX12_spare ∈ UW := UW_mem (tb9 (List.mem_of_getElem? (i := 20) rfl)) rfl
theorem lkX12_349 : Cond.methodLink RX12 349 yX12_endOf ∈ UW := UW_mem (tb9 (List.mem_of_getElem? (i := 24) rfl)) rfl
theorem lkL_166 : Cond.methodLink RL 166 yX12_ends ∈ UW := UW_mem (tb9 (List.mem_of_getElem? (i := 28) rfl)) rfl
theorem lkL_138 : Cond.methodLink RL 138 yX12_ring ∈ UW := UW_mem (tb9 (List.mem_of_getElem? (i := 32) rfl)) rfl
theorem lkL_170 : Cond.methodLink RL 170 yX12_wins ∈ UW := UW_mem (tb9 (List.mem_of_getElem? (i := 36) rfl)) rfl
theorem lkX12_352 : Cond.methodLink RX12 352 yX12_laysCooks ∈ UW := UW_mem (tb9 (List.mem_of_getElem? (i := 40) rfl)) rfl
theorem lkL_174 : Cond.methodLink RL 174 yX12_his ∈ UW := UW_mem (tb9 (List.mem_of_getElem? (i := 44) rfl)) rfl
theorem lkL_179 : Cond.methodLink RL 179 yX12_see ∈ UW := UW_mem (tb9 (List.mem_of_getElem? (i := 49) rfl)) rfl
theorem lkX12_357 : Cond.methodLink RX12 357 yX12_sees ∈ UW := UW_mem (tb9 (List.mem_of_getElem? (i := 53) rfl)) rfl
theorem lkL_184 : Cond.methodLink RL 184 yX12_lies ∈ UW := UW_mem (tb9 (List.mem_of_getElem? (i := 57) rfl)) rfl
theorem lkL_188 : Cond.methodLink RL 188 yX12_fit ∈ UW := UW_mem (tb9 (List.mem_of_getElem? (i := 61) rfl)) rfl
theorem lkX12_363 : Cond.methodLink RX12 363 yX12_talliesNow ∈ UW := UW_mem (tb9 (List.mem_of_getElem? (i := 65) rfl)) rfl
theorem lkX12_360 : Cond.methodLink RX12 360 yX12_isAsSeen ∈ UW := UW_mem (tb9 (List.mem_of_getElem? (i := 69) rfl)) rfl
theorem lkL_192 : Cond.methodLink RL 192 yX12_look ∈ UW := UW_mem (tb9 (List.mem_of_getElem? (i := 73) rfl)) rfl
theorem lkL_197 : Cond.methodLink RL 197 yX12_chance ∈ UW := UW_mem (tb9 (List.mem_of_getElem? (i := 77) rfl)) rfl
theorem lkL_203 : Cond.methodLink RL 203 yX12_rests ∈ UW := UW_mem (tb9 (List.mem_of_getElem? (i := 82) rfl)) rfl
theorem lkX12_368 : Cond.methodLink RX12 368 yX12_getsBy ∈ UW := UW_mem (tb9 (List.mem_of_getElem? (i := 86) rfl)) rfl
theorem lkL_211 : Cond.methodLink RL 211 yX12_mornings ∈ UW := UW_mem (tb9 (List.mem_of_getElem? (i := 89) rfl)) rfl
theorem lkX12_384 : Cond.methodLink RX12 384 yX12_draw ∈ UW := UW_mem (tb9 (List.mem_of_getElem? (i := 93) rfl)) rfl
theorem lkL_215 : Cond.methodLink RL 215 yX12_mark ∈ UW := UW_mem (tb9 (List.mem_of_getElem? (i := 101) rfl)) rfl
theorem lkL_219 : Cond.methodLink RL 219 yX12_count ∈ UW := UW_mem (tb9 (List.mem_of_getElem? (i := 105) rfl)) rfl
theorem lkX12_387 : Cond.methodLink RX12 387 yX12_turnsNow ∈ UW := UW_mem (tb9 (List.mem_of_getElem? (i := 109) rfl)) rfl
theorem flX9_19 : Cond.fieldLink RX9 19 "HotCakes$Word" "OTHER" "LHotCakes$Word;" ∈ UW := UW_mem (tb1 (List.mem_of_getElem? (i := 41) rfl)) rfl
theorem flX9_9 : Cond.fieldLink RX9 9 "HotCakes$Tape" "signs" "[C" ∈ UW := UW_mem (tb1 (List.mem_of_getElem? (i := 43) rfl)) rfl
theorem flX9_34 : Cond.fieldLink RX9 34 "HotCakes$Tape" "size" "I" ∈ UW := UW_mem (tb1 (List.mem_of_getElem? (i := 44) rfl)) rfl
theorem flX9_44 : Cond.fieldLink RX9 44 "HotCakes$Tape" "place" "I" ∈ UW := UW_mem (tb1 (List.mem_of_getElem? (i := 45) rfl)) rfl
theorem flX9_38 : Cond.fieldLink RX9 38 "HotCakes$Tape" "behind" "I" ∈ UW := UW_mem (tb1 (List.mem_of_getElem? (i := 46) rfl)) rfl
theorem flX9_15 : Cond.fieldLink RX9 15 "HotCakes$Tape" "type" "C" ∈ UW := UW_mem (tb1 (List.mem_of_getElem? (i := 47) rfl)) rfl
theorem flX9_87 : Cond.fieldLink RX9 87 "HotCakes$Tape" "number" "I" ∈ UW := UW_mem (tb1 (List.mem_of_getElem? (i := 48) rfl)) rfl
theorem flX9_75 : Cond.fieldLink RX9 75 "HotCakes$Tape" "letters" "J" ∈ UW := UW_mem (tb1 (List.mem_of_getElem? (i := 49) rfl)) rfl
theorem flX9_25 : Cond.fieldLink RX9 25 "HotCakes$Tape" "word" "LHotCakes$Word;" ∈ UW := UW_mem (tb1 (List.mem_of_getElem? (i := 50) rfl)) rfl
theorem flX6_15 : Cond.fieldLink RX6 15 "HotCakes$Reader" "tape" "LHotCakes$Tape;" ∈ UW := UW_mem (tb1 (List.mem_of_getElem? (i := 75) rfl)) rfl
theorem flX6_34 : Cond.fieldLink RX6 34 "HotCakes$Reader" "fault" "I" ∈ UW := UW_mem (tb1 (List.mem_of_getElem? (i := 76) rfl)) rfl
theorem flX6_9 : Cond.fieldLink RX6 9 "HotCakes$Reader" "read" "[I" ∈ UW := UW_mem (tb1 (List.mem_of_getElem? (i := 77) rfl)) rfl
theorem flX6_19 : Cond.fieldLink RX6 19 "HotCakes$Reader" "readSize" "I" ∈ UW := UW_mem (tb1 (List.mem_of_getElem? (i := 78) rfl)) rfl
theorem flX6_23 : Cond.fieldLink RX6 23 "HotCakes$Reader" "readUps" "I" ∈ UW := UW_mem (tb1 (List.mem_of_getElem? (i := 79) rfl)) rfl
theorem flX3_18 : Cond.fieldLink RX3 18 "HotCakes$Law" "untold" "I" ∈ UW := UW_mem (tb1 (List.mem_of_getElem? (i := 104) rfl)) rfl
theorem flX3_9 : Cond.fieldLink RX3 9 "HotCakes$Law" "steps" "[I" ∈ UW := UW_mem (tb1 (List.mem_of_getElem? (i := 105) rfl)) rfl
theorem flX3_15 : Cond.fieldLink RX3 15 "HotCakes$Law" "values" "[I" ∈ UW := UW_mem (tb1 (List.mem_of_getElem? (i := 106) rfl)) rfl
theorem flX3_22 : Cond.fieldLink RX3 22 "HotCakes$Law" "size" "I" ∈ UW := UW_mem (tb1 (List.mem_of_getElem? (i := 107) rfl)) rfl
theorem flX3_33 : Cond.fieldLink RX3 33 "HotCakes$Law" "depth" "I" ∈ UW := UW_mem (tb1 (List.mem_of_getElem? (i := 108) rfl)) rfl
theorem flX3_25 : Cond.fieldLink RX3 25 "HotCakes$Law" "told" "Z" ∈ UW := UW_mem (tb1 (List.mem_of_getElem? (i := 109) rfl)) rfl
theorem flX2_34 : Cond.fieldLink RX2 34 "HotCakes$Griddle" "size" "I" ∈ UW := UW_mem (tb1 (List.mem_of_getElem? (i := 124) rfl)) rfl
theorem flX2_9 : Cond.fieldLink RX2 9 "HotCakes$Griddle" "names" "[J" ∈ UW := UW_mem (tb1 (List.mem_of_getElem? (i := 125) rfl)) rfl
theorem flX2_15 : Cond.fieldLink RX2 15 "HotCakes$Griddle" "kinds" "[I" ∈ UW := UW_mem (tb1 (List.mem_of_getElem? (i := 126) rfl)) rfl
theorem flX2_19 : Cond.fieldLink RX2 19 "HotCakes$Griddle" "widths" "[I" ∈ UW := UW_mem (tb1 (List.mem_of_getElem? (i := 127) rfl)) rfl
theorem flX2_38 : Cond.fieldLink RX2 38 "HotCakes$Griddle" "ups" "I" ∈ UW := UW_mem (tb1 (List.mem_of_getElem? (i := 128) rfl)) rfl
theorem flX2_27 : Cond.fieldLink RX2 27 "HotCakes$Griddle" "bars" "LHotCakes$Law;" ∈ UW := UW_mem (tb1 (List.mem_of_getElem? (i := 129) rfl)) rfl
theorem flX2_31 : Cond.fieldLink RX2 31 "HotCakes$Griddle" "costs" "LHotCakes$Law;" ∈ UW := UW_mem (tb1 (List.mem_of_getElem? (i := 130) rfl)) rfl
theorem flX7_55 : Cond.fieldLink RX7 55 "HotCakes$Stacks" "hot" "LHotCakes$Griddle;" ∈ UW := UW_mem (tb2 (List.mem_of_getElem? (i := 11) rfl)) rfl
theorem flX7_65 : Cond.fieldLink RX7 65 "HotCakes$Stacks" "cakes" "I" ∈ UW := UW_mem (tb2 (List.mem_of_getElem? (i := 12) rfl)) rfl
theorem flX7_69 : Cond.fieldLink RX7 69 "HotCakes$Stacks" "sides" "I" ∈ UW := UW_mem (tb2 (List.mem_of_getElem? (i := 13) rfl)) rfl
theorem flX7_87 : Cond.fieldLink RX7 87 "HotCakes$Stacks" "orders" "I" ∈ UW := UW_mem (tb2 (List.mem_of_getElem? (i := 14) rfl)) rfl
theorem flX7_108 : Cond.fieldLink RX7 108 "HotCakes$Stacks" "goal" "I" ∈ UW := UW_mem (tb2 (List.mem_of_getElem? (i := 15) rfl)) rfl
theorem flX7_9 : Cond.fieldLink RX7 9 "HotCakes$Stacks" "sideBits" "[I" ∈ UW := UW_mem (tb2 (List.mem_of_getElem? (i := 16) rfl)) rfl
theorem flX7_15 : Cond.fieldLink RX7 15 "HotCakes$Stacks" "cakeRow" "[I" ∈ UW := UW_mem (tb2 (List.mem_of_getElem? (i := 17) rfl)) rfl
theorem flX7_18 : Cond.fieldLink RX7 18 "HotCakes$Stacks" "cakesByPlace" "[I" ∈ UW := UW_mem (tb2 (List.mem_of_getElem? (i := 18) rfl)) rfl
theorem flX7_21 : Cond.fieldLink RX7 21 "HotCakes$Stacks" "turnedOrders" "[I" ∈ UW := UW_mem (tb2 (List.mem_of_getElem? (i := 19) rfl)) rfl
theorem flX7_24 : Cond.fieldLink RX7 24 "HotCakes$Stacks" "turnedCakes" "[I" ∈ UW := UW_mem (tb2 (List.mem_of_getElem? (i := 20) rfl)) rfl
theorem flX7_27 : Cond.fieldLink RX7 27 "HotCakes$Stacks" "turnedSides" "[I" ∈ UW := UW_mem (tb2 (List.mem_of_getElem? (i := 21) rfl)) rfl
theorem flX7_30 : Cond.fieldLink RX7 30 "HotCakes$Stacks" "stuck" "[I" ∈ UW := UW_mem (tb2 (List.mem_of_getElem? (i := 22) rfl)) rfl
theorem flX7_33 : Cond.fieldLink RX7 33 "HotCakes$Stacks" "barred" "[I" ∈ UW := UW_mem (tb2 (List.mem_of_getElem? (i := 23) rfl)) rfl
theorem flX7_36 : Cond.fieldLink RX7 36 "HotCakes$Stacks" "prices" "[I" ∈ UW := UW_mem (tb2 (List.mem_of_getElem? (i := 24) rfl)) rfl
theorem flX7_39 : Cond.fieldLink RX7 39 "HotCakes$Stacks" "queue" "[I" ∈ UW := UW_mem (tb2 (List.mem_of_getElem? (i := 25) rfl)) rfl
theorem flX7_42 : Cond.fieldLink RX7 42 "HotCakes$Stacks" "counts" "[I" ∈ UW := UW_mem (tb2 (List.mem_of_getElem? (i := 26) rfl)) rfl
theorem flX7_45 : Cond.fieldLink RX7 45 "HotCakes$Stacks" "nextCounts" "[I" ∈ UW := UW_mem (tb2 (List.mem_of_getElem? (i := 27) rfl)) rfl
theorem flX7_48 : Cond.fieldLink RX7 48 "HotCakes$Stacks" "tally" "[I" ∈ UW := UW_mem (tb2 (List.mem_of_getElem? (i := 28) rfl)) rfl
theorem flX4_9 : Cond.fieldLink RX4 9 "HotCakes$Lines" "turns" "[I" ∈ UW := UW_mem (tb2 (List.mem_of_getElem? (i := 72) rfl)) rfl
theorem flX4_15 : Cond.fieldLink RX4 15 "HotCakes$Lines" "size" "I" ∈ UW := UW_mem (tb2 (List.mem_of_getElem? (i := 73) rfl)) rfl
theorem flX5_15 : Cond.fieldLink RX5 15 "HotCakes$Moment" "laid" "Z" ∈ UW := UW_mem (tb2 (List.mem_of_getElem? (i := 85) rfl)) rfl
theorem flX5_19 : Cond.fieldLink RX5 19 "HotCakes$Moment" "stack" "I" ∈ UW := UW_mem (tb2 (List.mem_of_getElem? (i := 86) rfl)) rfl
theorem flX5_23 : Cond.fieldLink RX5 23 "HotCakes$Moment" "turns" "I" ∈ UW := UW_mem (tb2 (List.mem_of_getElem? (i := 87) rfl)) rfl
theorem flX5_26 : Cond.fieldLink RX5 26 "HotCakes$Moment" "spent" "I" ∈ UW := UW_mem (tb2 (List.mem_of_getElem? (i := 88) rfl)) rfl
theorem flX5_29 : Cond.fieldLink RX5 29 "HotCakes$Moment" "seen" "I" ∈ UW := UW_mem (tb2 (List.mem_of_getElem? (i := 89) rfl)) rfl
theorem flX5_9 : Cond.fieldLink RX5 9 "HotCakes$Moment" "clues" "[I" ∈ UW := UW_mem (tb2 (List.mem_of_getElem? (i := 90) rfl)) rfl
theorem flX8_19 : Cond.fieldLink RX8 19 "HotCakes$Steps" "stacks" "LHotCakes$Stacks;" ∈ UW := UW_mem (tb2 (List.mem_of_getElem? (i := 111) rfl)) rfl
theorem flX8_23 : Cond.fieldLink RX8 23 "HotCakes$Steps" "back" "Z" ∈ UW := UW_mem (tb2 (List.mem_of_getElem? (i := 112) rfl)) rfl
theorem flX8_27 : Cond.fieldLink RX8 27 "HotCakes$Steps" "leftOut" "I" ∈ UW := UW_mem (tb2 (List.mem_of_getElem? (i := 113) rfl)) rfl
theorem flX8_9 : Cond.fieldLink RX8 9 "HotCakes$Steps" "turns" "[I" ∈ UW := UW_mem (tb2 (List.mem_of_getElem? (i := 114) rfl)) rfl
theorem flX8_15 : Cond.fieldLink RX8 15 "HotCakes$Steps" "origin" "I" ∈ UW := UW_mem (tb2 (List.mem_of_getElem? (i := 115) rfl)) rfl
theorem flX8_30 : Cond.fieldLink RX8 30 "HotCakes$Steps" "known" "Z" ∈ UW := UW_mem (tb2 (List.mem_of_getElem? (i := 116) rfl)) rfl
theorem flX0_15 : Cond.fieldLink RX0 15 "HotCakes$Bills" "stacks" "LHotCakes$Stacks;" ∈ UW := UW_mem (tb2 (List.mem_of_getElem? (i := 137) rfl)) rfl
theorem flX0_9 : Cond.fieldLink RX0 9 "HotCakes$Bills" "sums" "[I" ∈ UW := UW_mem (tb2 (List.mem_of_getElem? (i := 138) rfl)) rfl
theorem flX0_19 : Cond.fieldLink RX0 19 "HotCakes$Bills" "known" "Z" ∈ UW := UW_mem (tb2 (List.mem_of_getElem? (i := 139) rfl)) rfl
theorem flX1_15 : Cond.fieldLink RX1 15 "HotCakes$Cooks" "stacks" "LHotCakes$Stacks;" ∈ UW := UW_mem (tb2 (List.mem_of_getElem? (i := 153) rfl)) rfl
theorem flX1_9 : Cond.fieldLink RX1 9 "HotCakes$Cooks" "turns" "[I" ∈ UW := UW_mem (tb2 (List.mem_of_getElem? (i := 154) rfl)) rfl
theorem flX1_19 : Cond.fieldLink RX1 19 "HotCakes$Cooks" "known" "Z" ∈ UW := UW_mem (tb2 (List.mem_of_getElem? (i := 155) rfl)) rfl
theorem flX11_10 : Cond.fieldLink RX11 10 "HotCakes" "tape" "LHotCakes$Tape;" ∈ UW := UW_mem (tb2 (List.mem_of_getElem? (i := 175) rfl)) rfl
theorem flX11_21 : Cond.fieldLink RX11 21 "HotCakes" "reader" "LHotCakes$Reader;" ∈ UW := UW_mem (tb2 (List.mem_of_getElem? (i := 176) rfl)) rfl
theorem flX11_28 : Cond.fieldLink RX11 28 "HotCakes" "hot" "LHotCakes$Griddle;" ∈ UW := UW_mem (tb2 (List.mem_of_getElem? (i := 177) rfl)) rfl
theorem flX11_32 : Cond.fieldLink RX11 32 "HotCakes" "draft" "LHotCakes$Griddle;" ∈ UW := UW_mem (tb2 (List.mem_of_getElem? (i := 178) rfl)) rfl
theorem flX11_40 : Cond.fieldLink RX11 40 "HotCakes" "stacks" "LHotCakes$Stacks;" ∈ UW := UW_mem (tb2 (List.mem_of_getElem? (i := 179) rfl)) rfl
theorem flX11_47 : Cond.fieldLink RX11 47 "HotCakes" "lines" "LHotCakes$Lines;" ∈ UW := UW_mem (tb2 (List.mem_of_getElem? (i := 180) rfl)) rfl
theorem flX11_51 : Cond.fieldLink RX11 51 "HotCakes" "wished" "I" ∈ UW := UW_mem (tb2 (List.mem_of_getElem? (i := 181) rfl)) rfl
theorem flX11_58 : Cond.fieldLink RX11 58 "HotCakes" "now" "LHotCakes$Moment;" ∈ UW := UW_mem (tb2 (List.mem_of_getElem? (i := 182) rfl)) rfl
theorem flX11_62 : Cond.fieldLink RX11 62 "HotCakes" "marks" "[LHotCakes$Moment;" ∈ UW := UW_mem (tb2 (List.mem_of_getElem? (i := 183) rfl)) rfl
theorem flX11_66 : Cond.fieldLink RX11 66 "HotCakes" "undoTurns" "[I" ∈ UW := UW_mem (tb2 (List.mem_of_getElem? (i := 184) rfl)) rfl
theorem flX11_70 : Cond.fieldLink RX11 70 "HotCakes" "undoCosts" "[I" ∈ UW := UW_mem (tb2 (List.mem_of_getElem? (i := 185) rfl)) rfl
theorem flX11_198 : Cond.fieldLink RX11 198 "HotCakes" "undoable" "I" ∈ UW := UW_mem (tb2 (List.mem_of_getElem? (i := 186) rfl)) rfl
theorem flX11_78 : Cond.fieldLink RX11 78 "HotCakes" "toServed" "LHotCakes$Steps;" ∈ UW := UW_mem (tb2 (List.mem_of_getElem? (i := 187) rfl)) rfl
theorem flX11_82 : Cond.fieldLink RX11 82 "HotCakes" "withouts" "[LHotCakes$Steps;" ∈ UW := UW_mem (tb2 (List.mem_of_getElem? (i := 188) rfl)) rfl
theorem flX11_86 : Cond.fieldLink RX11 86 "HotCakes" "toWish" "LHotCakes$Steps;" ∈ UW := UW_mem (tb2 (List.mem_of_getElem? (i := 189) rfl)) rfl
theorem flX11_89 : Cond.fieldLink RX11 89 "HotCakes" "fromNow" "LHotCakes$Steps;" ∈ UW := UW_mem (tb2 (List.mem_of_getElem? (i := 190) rfl)) rfl
theorem flX11_97 : Cond.fieldLink RX11 97 "HotCakes" "bills" "LHotCakes$Bills;" ∈ UW := UW_mem (tb2 (List.mem_of_getElem? (i := 191) rfl)) rfl
theorem flX11_104 : Cond.fieldLink RX11 104 "HotCakes" "cooks" "LHotCakes$Cooks;" ∈ UW := UW_mem (tb2 (List.mem_of_getElem? (i := 192) rfl)) rfl
theorem flX10_3 : Cond.fieldLink RX10 3 "HotCakes$Word" "OTHER" "LHotCakes$Word;" ∈ UW := UW_mem (tb3 (List.mem_of_getElem? (i := 58) rfl)) rfl
theorem flX6_43 : Cond.fieldLink RX6 43 "HotCakes$Word" "CAKE" "LHotCakes$Word;" ∈ UW := UW_mem (tb3 (List.mem_of_getElem? (i := 153) rfl)) rfl
theorem flX10_28 : Cond.fieldLink RX10 28 "HotCakes$Word" "PLAIN" "LHotCakes$Word;" ∈ UW := UW_mem (tb3 (List.mem_of_getElem? (i := 197) rfl)) rfl
theorem flX10_31 : Cond.fieldLink RX10 31 "HotCakes$Word" "BROWNED" "LHotCakes$Word;" ∈ UW := UW_mem (tb3 (List.mem_of_getElem? (i := 199) rfl)) rfl
theorem flX10_34 : Cond.fieldLink RX10 34 "HotCakes$Word" "HEAVY" "LHotCakes$Word;" ∈ UW := UW_mem (tb3 (List.mem_of_getElem? (i := 201) rfl)) rfl
theorem flX10_37 : Cond.fieldLink RX10 37 "HotCakes$Word" "GLAZED" "LHotCakes$Word;" ∈ UW := UW_mem (tb3 (List.mem_of_getElem? (i := 203) rfl)) rfl
theorem flX6_147 : Cond.fieldLink RX6 147 "HotCakes$Word" "WIDE" "LHotCakes$Word;" ∈ UW := UW_mem (tb3 (List.mem_of_getElem? (i := 213) rfl)) rfl
theorem flX10_25 : Cond.fieldLink RX10 25 "HotCakes$Word" "UP" "LHotCakes$Word;" ∈ UW := UW_mem (tb3 (List.mem_of_getElem? (i := 227) rfl)) rfl
theorem flX10_22 : Cond.fieldLink RX10 22 "HotCakes$Word" "DOWN" "LHotCakes$Word;" ∈ UW := UW_mem (tb3 (List.mem_of_getElem? (i := 229) rfl)) rfl
theorem flX6_137 : Cond.fieldLink RX6 137 "HotCakes$Word" "UP" "LHotCakes$Word;" ∈ UW := UW_mem (tb3 (List.mem_of_getElem? (i := 231) rfl)) rfl
theorem flX6_57 : Cond.fieldLink RX6 57 "HotCakes$Word" "BARS" "LHotCakes$Word;" ∈ UW := UW_mem (tb4 (List.mem_of_getElem? (i := 1) rfl)) rfl
theorem flX6_192 : Cond.fieldLink RX6 192 "HotCakes$Word" "NOT" "LHotCakes$Word;" ∈ UW := UW_mem (tb4 (List.mem_of_getElem? (i := 36) rfl)) rfl
theorem flX10_49 : Cond.fieldLink RX10 49 "HotCakes$Word" "TAKE" "LHotCakes$Word;" ∈ UW := UW_mem (tb4 (List.mem_of_getElem? (i := 42) rfl)) rfl
theorem flX10_52 : Cond.fieldLink RX10 52 "HotCakes$Word" "LEFT" "LHotCakes$Word;" ∈ UW := UW_mem (tb4 (List.mem_of_getElem? (i := 44) rfl)) rfl
theorem flX10_55 : Cond.fieldLink RX10 55 "HotCakes$Word" "WEIGHT" "LHotCakes$Word;" ∈ UW := UW_mem (tb4 (List.mem_of_getElem? (i := 46) rfl)) rfl
theorem flX10_58 : Cond.fieldLink RX10 58 "HotCakes$Word" "BROWN" "LHotCakes$Word;" ∈ UW := UW_mem (tb4 (List.mem_of_getElem? (i := 48) rfl)) rfl
theorem flX6_175 : Cond.fieldLink RX6 175 "HotCakes$Word" "AND" "LHotCakes$Word;" ∈ UW := UW_mem (tb4 (List.mem_of_getElem? (i := 54) rfl)) rfl
theorem flX6_178 : Cond.fieldLink RX6 178 "HotCakes$Word" "OR" "LHotCakes$Word;" ∈ UW := UW_mem (tb4 (List.mem_of_getElem? (i := 56) rfl)) rfl
theorem flX6_68 : Cond.fieldLink RX6 68 "HotCakes$Word" "COSTS" "LHotCakes$Word;" ∈ UW := UW_mem (tb4 (List.mem_of_getElem? (i := 58) rfl)) rfl
theorem flX6_153 : Cond.fieldLink RX6 153 "HotCakes$Word" "TURN" "LHotCakes$Word;" ∈ UW := UW_mem (tb4 (List.mem_of_getElem? (i := 111) rfl)) rfl
theorem flX12_1 : Cond.fieldLink RX12 1 "HotCakesModel" "thrown" "I" ∈ UW := UW_mem (tb7 (List.mem_of_getElem? (i := 69) rfl)) rfl
theorem flX12_14 : Cond.fieldLink RX12 14 "HotCakesModel" "tape" "[I" ∈ UW := UW_mem (tb7 (List.mem_of_getElem? (i := 70) rfl)) rfl
theorem flX12_11 : Cond.fieldLink RX12 11 "HotCakesModel" "taped" "I" ∈ UW := UW_mem (tb7 (List.mem_of_getElem? (i := 71) rfl)) rfl
theorem flX12_130 : Cond.fieldLink RX12 130 "HotCakesModel" "size" "I" ∈ UW := UW_mem (tb7 (List.mem_of_getElem? (i := 72) rfl)) rfl
theorem flX12_24 : Cond.fieldLink RX12 24 "HotCakesModel" "sort" "[I" ∈ UW := UW_mem (tb7 (List.mem_of_getElem? (i := 73) rfl)) rfl
theorem flX12_27 : Cond.fieldLink RX12 27 "HotCakesModel" "place" "[I" ∈ UW := UW_mem (tb7 (List.mem_of_getElem? (i := 74) rfl)) rfl
theorem flX12_30 : Cond.fieldLink RX12 30 "HotCakesModel" "value" "[J" ∈ UW := UW_mem (tb7 (List.mem_of_getElem? (i := 75) rfl)) rfl
theorem flX12_149 : Cond.fieldLink RX12 149 "HotCakesModel" "at" "I" ∈ UW := UW_mem (tb7 (List.mem_of_getElem? (i := 76) rfl)) rfl
theorem flX12_152 : Cond.fieldLink RX12 152 "HotCakesModel" "fault" "I" ∈ UW := UW_mem (tb7 (List.mem_of_getElem? (i := 77) rfl)) rfl
theorem flX12_70 : Cond.fieldLink RX12 70 "HotCakesModel" "words" "[J" ∈ UW := UW_mem (tb7 (List.mem_of_getElem? (i := 78) rfl)) rfl
theorem flX12_73 : Cond.fieldLink RX12 73 "HotCakesModel" "griddles" "[I" ∈ UW := UW_mem (tb7 (List.mem_of_getElem? (i := 79) rfl)) rfl
theorem flX12_76 : Cond.fieldLink RX12 76 "HotCakesModel" "code" "[I" ∈ UW := UW_mem (tb7 (List.mem_of_getElem? (i := 80) rfl)) rfl
theorem flX12_174 : Cond.fieldLink RX12 174 "HotCakesModel" "codes" "I" ∈ UW := UW_mem (tb7 (List.mem_of_getElem? (i := 81) rfl)) rfl
theorem flX12_79 : Cond.fieldLink RX12 79 "HotCakesModel" "names" "[J" ∈ UW := UW_mem (tb7 (List.mem_of_getElem? (i := 82) rfl)) rfl
theorem flX12_82 : Cond.fieldLink RX12 82 "HotCakesModel" "lines" "[I" ∈ UW := UW_mem (tb7 (List.mem_of_getElem? (i := 83) rfl)) rfl
theorem flX12_85 : Cond.fieldLink RX12 85 "HotCakesModel" "wished" "[I" ∈ UW := UW_mem (tb7 (List.mem_of_getElem? (i := 84) rfl)) rfl
theorem flX12_213 : Cond.fieldLink RX12 213 "HotCakesModel" "isWished" "Z" ∈ UW := UW_mem (tb7 (List.mem_of_getElem? (i := 85) rfl)) rfl
theorem flX12_88 : Cond.fieldLink RX12 88 "HotCakesModel" "facts" "[I" ∈ UW := UW_mem (tb7 (List.mem_of_getElem? (i := 86) rfl)) rfl
theorem flX12_91 : Cond.fieldLink RX12 91 "HotCakesModel" "pile" "[I" ∈ UW := UW_mem (tb7 (List.mem_of_getElem? (i := 87) rfl)) rfl
theorem flX12_94 : Cond.fieldLink RX12 94 "HotCakesModel" "state" "[I" ∈ UW := UW_mem (tb7 (List.mem_of_getElem? (i := 88) rfl)) rfl
theorem flX12_248 : Cond.fieldLink RX12 248 "HotCakesModel" "undos" "I" ∈ UW := UW_mem (tb7 (List.mem_of_getElem? (i := 89) rfl)) rfl
theorem flX12_97 : Cond.fieldLink RX12 97 "HotCakesModel" "isMarked" "[Z" ∈ UW := UW_mem (tb7 (List.mem_of_getElem? (i := 90) rfl)) rfl
theorem flX12_245 : Cond.fieldLink RX12 245 "HotCakesModel" "first" "I" ∈ UW := UW_mem (tb7 (List.mem_of_getElem? (i := 91) rfl)) rfl
theorem flX12_101 : Cond.fieldLink RX12 101 "HotCakesModel" "order" "[I" ∈ UW := UW_mem (tb7 (List.mem_of_getElem? (i := 92) rfl)) rfl
theorem flX12_104 : Cond.fieldLink RX12 104 "HotCakesModel" "up" "[Z" ∈ UW := UW_mem (tb7 (List.mem_of_getElem? (i := 93) rfl)) rfl
theorem flX12_107 : Cond.fieldLink RX12 107 "HotCakesModel" "table" "[J" ∈ UW := UW_mem (tb7 (List.mem_of_getElem? (i := 94) rfl)) rfl
theorem flX12_251 : Cond.fieldLink RX12 251 "HotCakesModel" "laid" "I" ∈ UW := UW_mem (tb7 (List.mem_of_getElem? (i := 95) rfl)) rfl
theorem flX12_110 : Cond.fieldLink RX12 110 "HotCakesModel" "leads" "[I" ∈ UW := UW_mem (tb7 (List.mem_of_getElem? (i := 96) rfl)) rfl
theorem flX12_113 : Cond.fieldLink RX12 113 "HotCakesModel" "dues" "[I" ∈ UW := UW_mem (tb7 (List.mem_of_getElem? (i := 97) rfl)) rfl
theorem flX12_116 : Cond.fieldLink RX12 116 "HotCakesModel" "tally" "[I" ∈ UW := UW_mem (tb7 (List.mem_of_getElem? (i := 98) rfl)) rfl
theorem flX12_372 : Cond.fieldLink RX12 372 "HotCakesModel" "g" "J" ∈ UW := UW_mem (tb7 (List.mem_of_getElem? (i := 99) rfl)) rfl
theorem flX10_94 : Cond.fieldLink RX10 94 "HotCakes$Word" "letters" "J" ∈ UW := UW_mem (tb9 (List.mem_of_getElem? (i := 131) rfl)) rfl
theorem flX10_98 : Cond.fieldLink RX10 98 "HotCakes$Word" "mayName" "Z" ∈ UW := UW_mem (tb9 (List.mem_of_getElem? (i := 134) rfl)) rfl
theorem flX10_102 : Cond.fieldLink RX10 102 "HotCakes$Word" "sense" "I" ∈ UW := UW_mem (tb9 (List.mem_of_getElem? (i := 135) rfl)) rfl
theorem kcJ6_265 : Cond.constant RJ6 265 (1431655765) ∈ UW := UW_mem (tb1 (List.mem_of_getElem? (i := 201) rfl)) rfl
theorem kcJ6_266 : Cond.constant RJ6 266 (858993459) ∈ UW := UW_mem (tb1 (List.mem_of_getElem? (i := 202) rfl)) rfl
theorem kcJ6_267 : Cond.constant RJ6 267 (252645135) ∈ UW := UW_mem (tb1 (List.mem_of_getElem? (i := 203) rfl)) rfl
theorem kcJ2_227 : Cond.constant RJ2 227 (65536) ∈ UW := UW_mem (tb3 (List.mem_of_getElem? (i := 105) rfl)) rfl
theorem kcJ11_110 : Cond.constant RJ11 110 (55232) ∈ UW := UW_mem (tb3 (List.mem_of_getElem? (i := 144) rfl)) rfl
theorem kcJ11_76 : Cond.constant RJ11 76 (56320) ∈ UW := UW_mem (tb3 (List.mem_of_getElem? (i := 148) rfl)) rfl
theorem kcX0_39 : Cond.constant RX0 39 (34560) ∈ UW := UW_mem (tb5 (List.mem_of_getElem? (i := 91) rfl)) rfl
theorem klX9_28 : Cond.constantLong RX9 28 (255) ∈ UW := UW_mem (tb2 (List.mem_of_getElem? (i := 238) rfl)) rfl
theorem klX10_106 : Cond.constantLong RX10 106 (32) ∈ UW := UW_mem (tb3 (List.mem_of_getElem? (i := 52) rfl)) rfl
theorem klX8_80 : Cond.constantLong RX8 80 (2000000000) ∈ UW := UW_mem (tb5 (List.mem_of_getElem? (i := 76) rfl)) rfl
theorem klX11_312 : Cond.constantLong RX11 312 (1000000) ∈ UW := UW_mem (tb6 (List.mem_of_getElem? (i := 127) rfl)) rfl
theorem klX11_351 : Cond.constantLong RX11 351 (1103515245) ∈ UW := UW_mem (tb6 (List.mem_of_getElem? (i := 135) rfl)) rfl
theorem klX11_353 : Cond.constantLong RX11 353 (12345) ∈ UW := UW_mem (tb6 (List.mem_of_getElem? (i := 136) rfl)) rfl
theorem klX11_355 : Cond.constantLong RX11 355 (2147483648) ∈ UW := UW_mem (tb6 (List.mem_of_getElem? (i := 137) rfl)) rfl
theorem klX11_357 : Cond.constantLong RX11 357 (65536) ∈ UW := UW_mem (tb6 (List.mem_of_getElem? (i := 141) rfl)) rfl
theorem klX12_34 : Cond.constantLong RX12 34 (153740) ∈ UW := UW_mem (tb7 (List.mem_of_getElem? (i := 27) rfl)) rfl
theorem klX12_36 : Cond.constantLong RX12 36 (1177493) ∈ UW := UW_mem (tb7 (List.mem_of_getElem? (i := 28) rfl)) rfl
theorem klX12_38 : Cond.constantLong RX12 38 (793) ∈ UW := UW_mem (tb7 (List.mem_of_getElem? (i := 29) rfl)) rfl
theorem klX12_40 : Cond.constantLong RX12 40 (224012) ∈ UW := UW_mem (tb7 (List.mem_of_getElem? (i := 30) rfl)) rfl
theorem klX12_42 : Cond.constantLong RX12 42 (103360) ∈ UW := UW_mem (tb7 (List.mem_of_getElem? (i := 31) rfl)) rfl
theorem klX12_44 : Cond.constantLong RX12 44 (6409048) ∈ UW := UW_mem (tb7 (List.mem_of_getElem? (i := 32) rfl)) rfl
theorem klX12_46 : Cond.constantLong RX12 46 (1042489) ∈ UW := UW_mem (tb7 (List.mem_of_getElem? (i := 33) rfl)) rfl
theorem klX12_48 : Cond.constantLong RX12 48 (30596128) ∈ UW := UW_mem (tb7 (List.mem_of_getElem? (i := 34) rfl)) rfl
theorem klX12_50 : Cond.constantLong RX12 50 (6408940833) ∈ UW := UW_mem (tb7 (List.mem_of_getElem? (i := 35) rfl)) rfl
theorem klX12_52 : Cond.constantLong RX12 52 (15248761) ∈ UW := UW_mem (tb7 (List.mem_of_getElem? (i := 36) rfl)) rfl
theorem klX12_54 : Cond.constantLong RX12 54 (507984067) ∈ UW := UW_mem (tb7 (List.mem_of_getElem? (i := 37) rfl)) rfl
theorem klX12_56 : Cond.constantLong RX12 56 (19741) ∈ UW := UW_mem (tb7 (List.mem_of_getElem? (i := 38) rfl)) rfl
theorem klX12_58 : Cond.constantLong RX12 58 (1891) ∈ UW := UW_mem (tb7 (List.mem_of_getElem? (i := 39) rfl)) rfl
theorem klX12_60 : Cond.constantLong RX12 60 (573) ∈ UW := UW_mem (tb7 (List.mem_of_getElem? (i := 40) rfl)) rfl
theorem klX12_62 : Cond.constantLong RX12 62 (1014841) ∈ UW := UW_mem (tb7 (List.mem_of_getElem? (i := 41) rfl)) rfl
theorem klX12_64 : Cond.constantLong RX12 64 (614923) ∈ UW := UW_mem (tb7 (List.mem_of_getElem? (i := 42) rfl)) rfl
theorem klX12_66 : Cond.constantLong RX12 66 (1604747592) ∈ UW := UW_mem (tb7 (List.mem_of_getElem? (i := 43) rfl)) rfl
theorem klX12_68 : Cond.constantLong RX12 68 (4681476) ∈ UW := UW_mem (tb7 (List.mem_of_getElem? (i := 44) rfl)) rfl
theorem klX12_133 : Cond.constantLong RX12 133 (37) ∈ UW := UW_mem (tb7 (List.mem_of_getElem? (i := 175) rfl)) rfl
theorem klX12_142 : Cond.constantLong RX12 142 (10) ∈ UW := UW_mem (tb7 (List.mem_of_getElem? (i := 182) rfl)) rfl
theorem klX12_144 : Cond.constantLong RX12 144 (48) ∈ UW := UW_mem (tb7 (List.mem_of_getElem? (i := 183) rfl)) rfl
theorem klX12_300 : Cond.constantLong RX12 300 (4097) ∈ UW := UW_mem (tb8 (List.mem_of_getElem? (i := 136) rfl)) rfl
theorem klX12_292 : Cond.constantLong RX12 292 (4096) ∈ UW := UW_mem (tb8 (List.mem_of_getElem? (i := 141) rfl)) rfl
theorem klX12_309 : Cond.constantLong RX12 309 (2000000000) ∈ UW := UW_mem (tb8 (List.mem_of_getElem? (i := 146) rfl)) rfl
theorem klX12_336 : Cond.constantLong RX12 336 (2) ∈ UW := UW_mem (tb8 (List.mem_of_getElem? (i := 227) rfl)) rfl
theorem klX12_355 : Cond.constantLong RX12 355 (-1) ∈ UW := UW_mem (tb9 (List.mem_of_getElem? (i := 48) rfl)) rfl
theorem klX12_366 : Cond.constantLong RX12 366 (1000000) ∈ UW := UW_mem (tb9 (List.mem_of_getElem? (i := 81) rfl)) rfl
theorem klX12_376 : Cond.constantLong RX12 376 (1103515245) ∈ UW := UW_mem (tb9 (List.mem_of_getElem? (i := 97) rfl)) rfl
theorem klX12_378 : Cond.constantLong RX12 378 (12345) ∈ UW := UW_mem (tb9 (List.mem_of_getElem? (i := 98) rfl)) rfl
theorem klX12_380 : Cond.constantLong RX12 380 (2147483648) ∈ UW := UW_mem (tb9 (List.mem_of_getElem? (i := 99) rfl)) rfl
theorem klX12_382 : Cond.constantLong RX12 382 (65536) ∈ UW := UW_mem (tb9 (List.mem_of_getElem? (i := 100) rfl)) rfl
theorem klL_19 : Cond.constantLong RL 19 (4294967295) ∈ UW := UW_mem (tb9 (List.mem_of_getElem? (i := 113) rfl)) rfl
