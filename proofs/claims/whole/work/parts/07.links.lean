theorem mt1 {w : Cond} (h : w ∈ tables_1_1) (hg : goodWord w = true) : w ∈ W0 := List.mem_filter.mpr ⟨List.mem_append_right _ (List.mem_append_left _ h), hg⟩
theorem mt2 {w : Cond} (h : w ∈ tables_1_2) (hg : goodWord w = true) : w ∈ W0 := List.mem_filter.mpr ⟨List.mem_append_right _ (List.mem_append_right _ (List.mem_append_left _ h)), hg⟩
theorem mt3 {w : Cond} (h : w ∈ tables_1_3) (hg : goodWord w = true) : w ∈ W0 := List.mem_filter.mpr ⟨List.mem_append_right _ (List.mem_append_right _ (List.mem_append_right _ (List.mem_append_left _ h))), hg⟩
theorem mt4 {w : Cond} (h : w ∈ tables_1_4) (hg : goodWord w = true) : w ∈ W0 := List.mem_filter.mpr ⟨List.mem_append_right _ (List.mem_append_right _ (List.mem_append_right _ (List.mem_append_right _ (List.mem_append_left _ h)))), hg⟩
theorem mt5 {w : Cond} (h : w ∈ tables_1_5) (hg : goodWord w = true) : w ∈ W0 := List.mem_filter.mpr ⟨List.mem_append_right _ (List.mem_append_right _ (List.mem_append_right _ (List.mem_append_right _ (List.mem_append_right _ (List.mem_append_left _ h))))), hg⟩
theorem mt6 {w : Cond} (h : w ∈ tables_1_6) (hg : goodWord w = true) : w ∈ W0 := List.mem_filter.mpr ⟨List.mem_append_right _ (List.mem_append_right _ (List.mem_append_right _ (List.mem_append_right _ (List.mem_append_right _ (List.mem_append_right _ (List.mem_append_left _ h)))))), hg⟩
theorem mt7 {w : Cond} (h : w ∈ tables_1_7) (hg : goodWord w = true) : w ∈ W0 := List.mem_filter.mpr ⟨List.mem_append_right _ (List.mem_append_right _ (List.mem_append_right _ (List.mem_append_right _ (List.mem_append_right _ (List.mem_append_right _ (List.mem_append_right _ (List.mem_append_left _ h))))))), hg⟩
theorem mt8 {w : Cond} (h : w ∈ tables_1_8) (hg : goodWord w = true) : w ∈ W0 := List.mem_filter.mpr ⟨List.mem_append_right _ (List.mem_append_right _ (List.mem_append_right _ (List.mem_append_right _ (List.mem_append_right _ (List.mem_append_right _ (List.mem_append_right _ (List.mem_append_right _ (List.mem_append_left _ h)))))))), hg⟩
theorem mt9 {w : Cond} (h : w ∈ tables_1_9) (hg : goodWord w = true) : w ∈ W0 := List.mem_filter.mpr ⟨List.mem_append_right _ (List.mem_append_right _ (List.mem_append_right _ (List.mem_append_right _ (List.mem_append_right _ (List.mem_append_right _ (List.mem_append_right _ (List.mem_append_right _ (List.mem_append_right _ h)))))))), hg⟩
theorem mtp {w : Cond} (h : w ∈ k2_sels lw_privs) (hg : goodWord w = true) : w ∈ W0 := List.mem_filter.mpr ⟨List.mem_append_left _ h, hg⟩
theorem iwX0 : ∀ w ∈ u_ws RX0 TX0 2, w ∈ W0 := by decide +kernel
theorem iwX1 : ∀ w ∈ u_ws RX1 TX1 5, w ∈ W0 := by decide +kernel
theorem iwX2 : ∀ w ∈ u_ws RX2 TX2 9, w ∈ W0 := by decide +kernel
theorem iwX3 : ∀ w ∈ u_ws RX3 TX3 7, w ∈ W0 := by decide +kernel
theorem iwX4 : ∀ w ∈ u_ws RX4 TX4 3, w ∈ W0 := by decide +kernel
theorem iwX5 : ∀ w ∈ u_ws RX5 TX5 4, w ∈ W0 := by decide +kernel
theorem iwX6 : ∀ w ∈ u_ws RX6 TX6 3, w ∈ W0 := by decide +kernel
theorem iwX7 : ∀ w ∈ u_ws RX7 TX7 5, w ∈ W0 := by decide +kernel
theorem iwX8 : ∀ w ∈ u_ws RX8 TX8 4, w ∈ W0 := by decide +kernel
theorem iwX9 : ∀ w ∈ u_ws RX9 TX9 4, w ∈ W0 := by decide +kernel
theorem iwX10 : ∀ w ∈ u_ws RX10 TX10 7, w ∈ W0 := by decide +kernel
theorem iwX11 : ∀ w ∈ u_ws RX11 TX11 12, w ∈ W0 := by decide +kernel
theorem iwX12 : ∀ w ∈ u_ws RX12 TX12 60, w ∈ W0 := by decide +kernel
theorem lX11_10 : FL RX11 10 11 0 3 := ⟨RX11, TX11, 12, tyX11, rfl, iwX11, by decide, rfl, rfl, (mt2 (List.mem_of_getElem? (i := 115) rfl) rfl), tyX11_ok, nmX11, by decide, by decide, by decide, by decide, fun h => absurd h (by decide)⟩
theorem lX11_19 : FL RX11 19 11 1 3 := ⟨RX11, TX11, 12, tyX11, rfl, iwX11, by decide, rfl, rfl, (mt2 (List.mem_of_getElem? (i := 116) rfl) rfl), tyX11_ok, nmX11, by decide, by decide, by decide, by decide, fun h => absurd h (by decide)⟩
theorem lX11_23 : FL RX11 23 11 2 3 := ⟨RX11, TX11, 12, tyX11, rfl, iwX11, by decide, rfl, rfl, (mt2 (List.mem_of_getElem? (i := 117) rfl) rfl), tyX11_ok, nmX11, by decide, by decide, by decide, by decide, fun h => absurd h (by decide)⟩
theorem lX11_29 : FL RX11 29 11 3 3 := ⟨RX11, TX11, 12, tyX11, rfl, iwX11, by decide, rfl, rfl, (mt2 (List.mem_of_getElem? (i := 118) rfl) rfl), tyX11_ok, nmX11, by decide, by decide, by decide, by decide, fun h => absurd h (by decide)⟩
theorem lX11_36 : FL RX11 36 11 4 3 := ⟨RX11, TX11, 12, tyX11, rfl, iwX11, by decide, rfl, rfl, (mt2 (List.mem_of_getElem? (i := 119) rfl) rfl), tyX11_ok, nmX11, by decide, by decide, by decide, by decide, fun h => absurd h (by decide)⟩
theorem lX11_43 : FL RX11 43 11 5 3 := ⟨RX11, TX11, 12, tyX11, rfl, iwX11, by decide, rfl, rfl, (mt2 (List.mem_of_getElem? (i := 120) rfl) rfl), tyX11_ok, nmX11, by decide, by decide, by decide, by decide, fun h => absurd h (by decide)⟩
theorem lX11_47 : FL RX11 47 11 6 3 := ⟨RX11, TX11, 12, tyX11, rfl, iwX11, by decide, rfl, rfl, (mt2 (List.mem_of_getElem? (i := 121) rfl) rfl), tyX11_ok, nmX11, by decide, by decide, by decide, by decide, fun h => absurd h (by decide)⟩
theorem lX11_51 : FL RX11 51 11 7 3 := ⟨RX11, TX11, 12, tyX11, rfl, iwX11, by decide, rfl, rfl, (mt2 (List.mem_of_getElem? (i := 122) rfl) rfl), tyX11_ok, nmX11, by decide, by decide, by decide, by decide, fun h => absurd h (by decide)⟩
theorem lX11_54 : FL RX11 54 11 8 3 := ⟨RX11, TX11, 12, tyX11, rfl, iwX11, by decide, rfl, rfl, (mt2 (List.mem_of_getElem? (i := 123) rfl) rfl), tyX11_ok, nmX11, by decide, by decide, by decide, by decide, fun h => absurd h (by decide)⟩
theorem lX11_57 : FL RX11 57 11 9 1 := ⟨RX11, TX11, 12, tyX11, rfl, iwX11, by decide, rfl, rfl, (mt2 (List.mem_of_getElem? (i := 124) rfl) rfl), tyX11_ok, nmX11, by decide, by decide, fun _ => rfl, by decide, fun h => absurd h (by decide)⟩
theorem lX11_61 : FL RX11 61 11 10 0 := ⟨RX11, TX11, 12, tyX11, rfl, iwX11, by decide, rfl, rfl, (mt2 (List.mem_of_getElem? (i := 125) rfl) rfl), tyX11_ok, nmX11, by decide, fun _ => rfl, by decide, by decide, fun h => absurd h (by decide)⟩
theorem lX11_65 : FL RX11 65 11 11 0 := ⟨RX11, TX11, 12, tyX11, rfl, iwX11, by decide, rfl, rfl, (mt2 (List.mem_of_getElem? (i := 126) rfl) rfl), tyX11_ok, nmX11, by decide, fun _ => rfl, by decide, by decide, fun h => absurd h (by decide)⟩
theorem lX11_68 : FL RX11 68 7 0 3 := ⟨RX7, TX7, 5, tyX7, rfl, iwX7, by decide, rfl, rfl, (mt1 (List.mem_of_getElem? (i := 198) rfl) rfl), tyX7_ok, nmX7, by decide, by decide, by decide, by decide, fun h => absurd h (by decide)⟩
theorem lX11_72 : FL RX11 72 10 1 0 := ⟨RX10, TX10, 7, tyX10, rfl, iwX10, by decide, rfl, rfl, (mt1 (List.mem_of_getElem? (i := 50) rfl) rfl), tyX10_ok, nmX10, by decide, fun _ => rfl, by decide, by decide, fun h => absurd h (by decide)⟩
theorem lX11_89 : FL RX11 89 7 4 0 := ⟨RX7, TX7, 5, tyX7, rfl, iwX7, by decide, rfl, rfl, (mt1 (List.mem_of_getElem? (i := 204) rfl) rfl), tyX7_ok, nmX7, by decide, fun _ => rfl, by decide, by decide, fun h => absurd h (by decide)⟩
theorem lX11_92 : FL RX11 92 3 3 4 := ⟨RX3, TX3, 7, tyX3, rfl, iwX3, by decide, rfl, rfl, (mt2 (List.mem_of_getElem? (i := 51) rfl) rfl), tyX3_ok, nmX3, by decide, by decide, by decide, by decide, fun _ => ⟨_, rfl⟩⟩
theorem lX11_96 : FL RX11 96 7 1 4 := ⟨RX7, TX7, 5, tyX7, rfl, iwX7, by decide, rfl, rfl, (mt1 (List.mem_of_getElem? (i := 200) rfl) rfl), tyX7_ok, nmX7, by decide, by decide, by decide, by decide, fun _ => ⟨_, rfl⟩⟩
theorem lX11_99 : FL RX11 99 1 1 3 := ⟨RX1, TX1, 5, tyX1, rfl, iwX1, by decide, rfl, rfl, (mt1 (List.mem_of_getElem? (i := 173) rfl) rfl), tyX1_ok, nmX1, by decide, by decide, by decide, by decide, fun h => absurd h (by decide)⟩
theorem lX11_113 : FL RX11 113 1 4 0 := ⟨RX1, TX1, 5, tyX1, rfl, iwX1, by decide, rfl, rfl, (mt1 (List.mem_of_getElem? (i := 185) rfl) rfl), tyX1_ok, nmX1, by decide, fun _ => rfl, by decide, by decide, fun h => absurd h (by decide)⟩
theorem lX11_116 : FL RX11 116 6 0 3 := ⟨RX6, TX6, 3, tyX6, rfl, iwX6, by decide, rfl, rfl, (mt2 (List.mem_of_getElem? (i := 22) rfl) rfl), tyX6_ok, nmX6, by decide, by decide, by decide, by decide, fun h => absurd h (by decide)⟩
theorem lX11_118 : FL RX11 118 2 6 0 := ⟨RX2, TX2, 9, tyX2, rfl, iwX2, by decide, rfl, rfl, (mt1 (List.mem_of_getElem? (i := 121) rfl) rfl), tyX2_ok, nmX2, by decide, fun _ => rfl, by decide, by decide, fun h => absurd h (by decide)⟩
theorem lX11_123 : FL RX11 123 2 7 0 := ⟨RX2, TX2, 9, tyX2, rfl, iwX2, by decide, rfl, rfl, (mt1 (List.mem_of_getElem? (i := 124) rfl) rfl), tyX2_ok, nmX2, by decide, fun _ => rfl, by decide, by decide, fun h => absurd h (by decide)⟩
theorem lX11_139 : FL RX11 139 6 1 3 := ⟨RX6, TX6, 3, tyX6, rfl, iwX6, by decide, rfl, rfl, (mt2 (List.mem_of_getElem? (i := 24) rfl) rfl), tyX6_ok, nmX6, by decide, by decide, by decide, by decide, fun h => absurd h (by decide)⟩
theorem lX11_143 : FL RX11 143 0 1 0 := ⟨RX0, TX0, 2, tyX0, rfl, iwX0, by decide, rfl, rfl, (mt1 (List.mem_of_getElem? (i := 233) rfl) rfl), tyX0_ok, nmX0, by decide, fun _ => rfl, by decide, by decide, fun h => absurd h (by decide)⟩
theorem lX11_147 : FL RX11 147 6 2 3 := ⟨RX6, TX6, 3, tyX6, rfl, iwX6, by decide, rfl, rfl, (mt2 (List.mem_of_getElem? (i := 27) rfl) rfl), tyX6_ok, nmX6, by decide, by decide, by decide, by decide, fun h => absurd h (by decide)⟩
theorem lX11_151 : FL RX11 151 5 3 0 := ⟨RX5, TX5, 4, tyX5, rfl, iwX5, by decide, rfl, rfl, (mt2 (List.mem_of_getElem? (i := 10) rfl) rfl), tyX5_ok, nmX5, by decide, fun _ => rfl, by decide, by decide, fun h => absurd h (by decide)⟩
theorem lX11_159 : FL RX11 159 2 0 3 := ⟨RX2, TX2, 9, tyX2, rfl, iwX2, by decide, rfl, rfl, (mt1 (List.mem_of_getElem? (i := 98) rfl) rfl), tyX2_ok, nmX2, by decide, by decide, by decide, by decide, fun h => absurd h (by decide)⟩
theorem lX11_162 : FL RX11 162 2 1 3 := ⟨RX2, TX2, 9, tyX2, rfl, iwX2, by decide, rfl, rfl, (mt1 (List.mem_of_getElem? (i := 105) rfl) rfl), tyX2_ok, nmX2, by decide, by decide, by decide, by decide, fun h => absurd h (by decide)⟩
theorem lX11_165 : FL RX11 165 1 0 3 := ⟨RX1, TX1, 5, tyX1, rfl, iwX1, by decide, rfl, rfl, (mt1 (List.mem_of_getElem? (i := 171) rfl) rfl), tyX1_ok, nmX1, by decide, by decide, by decide, by decide, fun h => absurd h (by decide)⟩
theorem lX11_172 : FL RX11 172 2 4 3 := ⟨RX2, TX2, 9, tyX2, rfl, iwX2, by decide, rfl, rfl, (mt1 (List.mem_of_getElem? (i := 116) rfl) rfl), tyX2_ok, nmX2, by decide, by decide, by decide, by decide, fun h => absurd h (by decide)⟩
theorem lX11_208 : FL RX11 208 3 2 3 := ⟨RX3, TX3, 7, tyX3, rfl, iwX3, by decide, rfl, rfl, (mt2 (List.mem_of_getElem? (i := 48) rfl) rfl), tyX3_ok, nmX3, by decide, by decide, by decide, by decide, fun h => absurd h (by decide)⟩
theorem lX11_220 : FL RX11 220 3 4 4 := ⟨RX3, TX3, 7, tyX3, rfl, iwX3, by decide, rfl, rfl, (mt2 (List.mem_of_getElem? (i := 54) rfl) rfl), tyX3_ok, nmX3, by decide, by decide, by decide, by decide, fun _ => ⟨_, rfl⟩⟩
theorem lX11_221 : FL RX11 221 3 5 0 := ⟨RX3, TX3, 7, tyX3, rfl, iwX3, by decide, rfl, rfl, (mt2 (List.mem_of_getElem? (i := 57) rfl) rfl), tyX3_ok, nmX3, by decide, fun _ => rfl, by decide, by decide, fun h => absurd h (by decide)⟩
theorem lX11_241 : FL RX11 241 4 1 3 := ⟨RX4, TX4, 3, tyX4, rfl, iwX4, by decide, rfl, rfl, (mt2 (List.mem_of_getElem? (i := 84) rfl) rfl), tyX4_ok, nmX4, by decide, by decide, by decide, by decide, fun h => absurd h (by decide)⟩
theorem lX11_250 : FL RX11 250 4 0 3 := ⟨RX4, TX4, 3, tyX4, rfl, iwX4, by decide, rfl, rfl, (mt2 (List.mem_of_getElem? (i := 82) rfl) rfl), tyX4_ok, nmX4, by decide, by decide, by decide, by decide, fun h => absurd h (by decide)⟩
theorem lX11_286 : FL RX11 286 9 2 0 := ⟨RX9, TX9, 4, tyX9, rfl, iwX9, by decide, rfl, rfl, (mt2 (List.mem_of_getElem? (i := 102) rfl) rfl), tyX9_ok, nmX9, by decide, fun _ => rfl, by decide, by decide, fun h => absurd h (by decide)⟩
theorem lX11_289 : FL RX11 289 9 3 0 := ⟨RX9, TX9, 4, tyX9, rfl, iwX9, by decide, rfl, rfl, (mt2 (List.mem_of_getElem? (i := 104) rfl) rfl), tyX9_ok, nmX9, by decide, fun _ => rfl, by decide, by decide, fun h => absurd h (by decide)⟩
theorem lX11_325 : FL RX11 325 3 6 0 := ⟨RX3, TX3, 7, tyX3, rfl, iwX3, by decide, rfl, rfl, (mt2 (List.mem_of_getElem? (i := 59) rfl) rfl), tyX3_ok, nmX3, by decide, fun _ => rfl, by decide, by decide, fun h => absurd h (by decide)⟩
theorem lX0_11 : FL RX0 11 0 0 3 := ⟨RX0, TX0, 2, tyX0, rfl, iwX0, by decide, rfl, rfl, (mt1 (List.mem_of_getElem? (i := 230) rfl) rfl), tyX0_ok, nmX0, by decide, by decide, by decide, by decide, fun h => absurd h (by decide)⟩
theorem lX0_17 : FL RX0 17 0 1 0 := ⟨RX0, TX0, 2, tyX0, rfl, iwX0, by decide, rfl, rfl, (mt1 (List.mem_of_getElem? (i := 231) rfl) rfl), tyX0_ok, nmX0, by decide, fun _ => rfl, by decide, by decide, fun h => absurd h (by decide)⟩
theorem lX1_9 : FL RX1 9 1 0 3 := ⟨RX1, TX1, 5, tyX1, rfl, iwX1, by decide, rfl, rfl, (mt1 (List.mem_of_getElem? (i := 168) rfl) rfl), tyX1_ok, nmX1, by decide, by decide, by decide, by decide, fun h => absurd h (by decide)⟩
theorem lX1_18 : FL RX1 18 1 1 3 := ⟨RX1, TX1, 5, tyX1, rfl, iwX1, by decide, rfl, rfl, (mt1 (List.mem_of_getElem? (i := 172) rfl) rfl), tyX1_ok, nmX1, by decide, by decide, by decide, by decide, fun h => absurd h (by decide)⟩
theorem lX1_25 : FL RX1 25 1 2 3 := ⟨RX1, TX1, 5, tyX1, rfl, iwX1, by decide, rfl, rfl, (mt1 (List.mem_of_getElem? (i := 175) rfl) rfl), tyX1_ok, nmX1, by decide, by decide, by decide, by decide, fun h => absurd h (by decide)⟩
theorem lX1_29 : FL RX1 29 1 3 3 := ⟨RX1, TX1, 5, tyX1, rfl, iwX1, by decide, rfl, rfl, (mt1 (List.mem_of_getElem? (i := 177) rfl) rfl), tyX1_ok, nmX1, by decide, by decide, by decide, by decide, fun h => absurd h (by decide)⟩
theorem lX1_32 : FL RX1 32 1 4 0 := ⟨RX1, TX1, 5, tyX1, rfl, iwX1, by decide, rfl, rfl, (mt1 (List.mem_of_getElem? (i := 180) rfl) rfl), tyX1_ok, nmX1, by decide, fun _ => rfl, by decide, by decide, fun h => absurd h (by decide)⟩
theorem lX1_46 : FL RX1 46 2 0 3 := ⟨RX2, TX2, 9, tyX2, rfl, iwX2, by decide, rfl, rfl, (mt1 (List.mem_of_getElem? (i := 96) rfl) rfl), tyX2_ok, nmX2, by decide, by decide, by decide, by decide, fun h => absurd h (by decide)⟩
theorem lX1_49 : FL RX1 49 2 1 3 := ⟨RX2, TX2, 9, tyX2, rfl, iwX2, by decide, rfl, rfl, (mt1 (List.mem_of_getElem? (i := 102) rfl) rfl), tyX2_ok, nmX2, by decide, by decide, by decide, by decide, fun h => absurd h (by decide)⟩
theorem lX1_51 : FL RX1 51 8 3 1 := ⟨RX8, TX8, 4, tyX8, rfl, iwX8, by decide, rfl, rfl, (mt1 (List.mem_of_getElem? (i := 156) rfl) rfl), tyX8_ok, nmX8, by decide, by decide, fun _ => rfl, by decide, fun h => absurd h (by decide)⟩
theorem lX2_9 : FL RX2 9 2 0 3 := ⟨RX2, TX2, 9, tyX2, rfl, iwX2, by decide, rfl, rfl, (mt1 (List.mem_of_getElem? (i := 94) rfl) rfl), tyX2_ok, nmX2, by decide, by decide, by decide, by decide, fun h => absurd h (by decide)⟩
theorem lX2_15 : FL RX2 15 2 1 3 := ⟨RX2, TX2, 9, tyX2, rfl, iwX2, by decide, rfl, rfl, (mt1 (List.mem_of_getElem? (i := 100) rfl) rfl), tyX2_ok, nmX2, by decide, by decide, by decide, by decide, fun h => absurd h (by decide)⟩
theorem lX2_18 : FL RX2 18 2 2 3 := ⟨RX2, TX2, 9, tyX2, rfl, iwX2, by decide, rfl, rfl, (mt1 (List.mem_of_getElem? (i := 106) rfl) rfl), tyX2_ok, nmX2, by decide, by decide, by decide, by decide, fun h => absurd h (by decide)⟩
theorem lX2_21 : FL RX2 21 2 3 3 := ⟨RX2, TX2, 9, tyX2, rfl, iwX2, by decide, rfl, rfl, (mt1 (List.mem_of_getElem? (i := 110) rfl) rfl), tyX2_ok, nmX2, by decide, by decide, by decide, by decide, fun h => absurd h (by decide)⟩
theorem lX2_24 : FL RX2 24 2 4 3 := ⟨RX2, TX2, 9, tyX2, rfl, iwX2, by decide, rfl, rfl, (mt1 (List.mem_of_getElem? (i := 114) rfl) rfl), tyX2_ok, nmX2, by decide, by decide, by decide, by decide, fun h => absurd h (by decide)⟩
theorem lX2_27 : FL RX2 27 2 5 3 := ⟨RX2, TX2, 9, tyX2, rfl, iwX2, by decide, rfl, rfl, (mt1 (List.mem_of_getElem? (i := 118) rfl) rfl), tyX2_ok, nmX2, by decide, by decide, by decide, by decide, fun h => absurd h (by decide)⟩
theorem lX2_30 : FL RX2 30 2 6 0 := ⟨RX2, TX2, 9, tyX2, rfl, iwX2, by decide, rfl, rfl, (mt1 (List.mem_of_getElem? (i := 119) rfl) rfl), tyX2_ok, nmX2, by decide, fun _ => rfl, by decide, by decide, fun h => absurd h (by decide)⟩
theorem lX2_34 : FL RX2 34 2 7 0 := ⟨RX2, TX2, 9, tyX2, rfl, iwX2, by decide, rfl, rfl, (mt1 (List.mem_of_getElem? (i := 123) rfl) rfl), tyX2_ok, nmX2, by decide, fun _ => rfl, by decide, by decide, fun h => absurd h (by decide)⟩
theorem lX2_37 : FL RX2 37 2 8 0 := ⟨RX2, TX2, 9, tyX2, rfl, iwX2, by decide, rfl, rfl, (mt1 (List.mem_of_getElem? (i := 125) rfl) rfl), tyX2_ok, nmX2, by decide, fun _ => rfl, by decide, by decide, fun h => absurd h (by decide)⟩
theorem lX3_12 : FL RX3 12 3 0 3 := ⟨RX3, TX3, 7, tyX3, rfl, iwX3, by decide, rfl, rfl, (mt2 (List.mem_of_getElem? (i := 45) rfl) rfl), tyX3_ok, nmX3, by decide, by decide, by decide, by decide, fun h => absurd h (by decide)⟩
theorem lX3_18 : FL RX3 18 3 1 3 := ⟨RX3, TX3, 7, tyX3, rfl, iwX3, by decide, rfl, rfl, (mt2 (List.mem_of_getElem? (i := 46) rfl) rfl), tyX3_ok, nmX3, by decide, by decide, by decide, by decide, fun h => absurd h (by decide)⟩
theorem lX3_22 : FL RX3 22 3 2 3 := ⟨RX3, TX3, 7, tyX3, rfl, iwX3, by decide, rfl, rfl, (mt2 (List.mem_of_getElem? (i := 47) rfl) rfl), tyX3_ok, nmX3, by decide, by decide, by decide, by decide, fun h => absurd h (by decide)⟩
theorem lX3_28 : FL RX3 28 3 3 4 := ⟨RX3, TX3, 7, tyX3, rfl, iwX3, by decide, rfl, rfl, (mt2 (List.mem_of_getElem? (i := 49) rfl) rfl), tyX3_ok, nmX3, by decide, by decide, by decide, by decide, fun _ => ⟨_, rfl⟩⟩
theorem lX3_32 : FL RX3 32 3 4 4 := ⟨RX3, TX3, 7, tyX3, rfl, iwX3, by decide, rfl, rfl, (mt2 (List.mem_of_getElem? (i := 52) rfl) rfl), tyX3_ok, nmX3, by decide, by decide, by decide, by decide, fun _ => ⟨_, rfl⟩⟩
theorem lX3_35 : FL RX3 35 3 5 0 := ⟨RX3, TX3, 7, tyX3, rfl, iwX3, by decide, rfl, rfl, (mt2 (List.mem_of_getElem? (i := 55) rfl) rfl), tyX3_ok, nmX3, by decide, fun _ => rfl, by decide, by decide, fun h => absurd h (by decide)⟩
theorem lX3_39 : FL RX3 39 3 6 0 := ⟨RX3, TX3, 7, tyX3, rfl, iwX3, by decide, rfl, rfl, (mt2 (List.mem_of_getElem? (i := 58) rfl) rfl), tyX3_ok, nmX3, by decide, fun _ => rfl, by decide, by decide, fun h => absurd h (by decide)⟩
theorem lX3_59 : FL RX3 59 1 4 0 := ⟨RX1, TX1, 5, tyX1, rfl, iwX1, by decide, rfl, rfl, (mt1 (List.mem_of_getElem? (i := 184) rfl) rfl), tyX1_ok, nmX1, by decide, fun _ => rfl, by decide, by decide, fun h => absurd h (by decide)⟩
theorem lX3_65 : FL RX3 65 1 0 3 := ⟨RX1, TX1, 5, tyX1, rfl, iwX1, by decide, rfl, rfl, (mt1 (List.mem_of_getElem? (i := 170) rfl) rfl), tyX1_ok, nmX1, by decide, by decide, by decide, by decide, fun h => absurd h (by decide)⟩
theorem lX3_76 : FL RX3 76 2 1 3 := ⟨RX2, TX2, 9, tyX2, rfl, iwX2, by decide, rfl, rfl, (mt1 (List.mem_of_getElem? (i := 104) rfl) rfl), tyX2_ok, nmX2, by decide, by decide, by decide, by decide, fun h => absurd h (by decide)⟩
theorem lX3_78 : FL RX3 78 2 6 0 := ⟨RX2, TX2, 9, tyX2, rfl, iwX2, by decide, rfl, rfl, (mt1 (List.mem_of_getElem? (i := 122) rfl) rfl), tyX2_ok, nmX2, by decide, fun _ => rfl, by decide, by decide, fun h => absurd h (by decide)⟩
theorem lX3_85 : FL RX3 85 1 3 3 := ⟨RX1, TX1, 5, tyX1, rfl, iwX1, by decide, rfl, rfl, (mt1 (List.mem_of_getElem? (i := 179) rfl) rfl), tyX1_ok, nmX1, by decide, by decide, by decide, by decide, fun h => absurd h (by decide)⟩
theorem lX3_89 : FL RX3 89 8 3 1 := ⟨RX8, TX8, 4, tyX8, rfl, iwX8, by decide, rfl, rfl, (mt1 (List.mem_of_getElem? (i := 157) rfl) rfl), tyX8_ok, nmX8, by decide, by decide, fun _ => rfl, by decide, fun h => absurd h (by decide)⟩
theorem lX3_99 : FL RX3 99 2 0 3 := ⟨RX2, TX2, 9, tyX2, rfl, iwX2, by decide, rfl, rfl, (mt1 (List.mem_of_getElem? (i := 99) rfl) rfl), tyX2_ok, nmX2, by decide, by decide, by decide, by decide, fun h => absurd h (by decide)⟩
theorem lX3_112 : FL RX3 112 2 4 3 := ⟨RX2, TX2, 9, tyX2, rfl, iwX2, by decide, rfl, rfl, (mt1 (List.mem_of_getElem? (i := 117) rfl) rfl), tyX2_ok, nmX2, by decide, by decide, by decide, by decide, fun h => absurd h (by decide)⟩
theorem lX3_125 : FL RX3 125 2 2 3 := ⟨RX2, TX2, 9, tyX2, rfl, iwX2, by decide, rfl, rfl, (mt1 (List.mem_of_getElem? (i := 109) rfl) rfl), tyX2_ok, nmX2, by decide, by decide, by decide, by decide, fun h => absurd h (by decide)⟩
theorem lX3_131 : FL RX3 131 2 3 3 := ⟨RX2, TX2, 9, tyX2, rfl, iwX2, by decide, rfl, rfl, (mt1 (List.mem_of_getElem? (i := 113) rfl) rfl), tyX2_ok, nmX2, by decide, by decide, by decide, by decide, fun h => absurd h (by decide)⟩
theorem lX4_9 : FL RX4 9 4 0 3 := ⟨RX4, TX4, 3, tyX4, rfl, iwX4, by decide, rfl, rfl, (mt2 (List.mem_of_getElem? (i := 81) rfl) rfl), tyX4_ok, nmX4, by decide, by decide, by decide, by decide, fun h => absurd h (by decide)⟩
theorem lX4_15 : FL RX4 15 4 1 3 := ⟨RX4, TX4, 3, tyX4, rfl, iwX4, by decide, rfl, rfl, (mt2 (List.mem_of_getElem? (i := 83) rfl) rfl), tyX4_ok, nmX4, by decide, by decide, by decide, by decide, fun h => absurd h (by decide)⟩
theorem lX4_18 : FL RX4 18 4 2 3 := ⟨RX4, TX4, 3, tyX4, rfl, iwX4, by decide, rfl, rfl, (mt2 (List.mem_of_getElem? (i := 85) rfl) rfl), tyX4_ok, nmX4, by decide, by decide, by decide, by decide, fun h => absurd h (by decide)⟩
theorem lX4_27 : FL RX4 27 1 4 0 := ⟨RX1, TX1, 5, tyX1, rfl, iwX1, by decide, rfl, rfl, (mt1 (List.mem_of_getElem? (i := 181) rfl) rfl), tyX1_ok, nmX1, by decide, fun _ => rfl, by decide, by decide, fun h => absurd h (by decide)⟩
theorem lX4_39 : FL RX4 39 1 0 3 := ⟨RX1, TX1, 5, tyX1, rfl, iwX1, by decide, rfl, rfl, (mt1 (List.mem_of_getElem? (i := 169) rfl) rfl), tyX1_ok, nmX1, by decide, by decide, by decide, by decide, fun h => absurd h (by decide)⟩
theorem lX4_42 : FL RX4 42 2 1 3 := ⟨RX2, TX2, 9, tyX2, rfl, iwX2, by decide, rfl, rfl, (mt1 (List.mem_of_getElem? (i := 101) rfl) rfl), tyX2_ok, nmX2, by decide, by decide, by decide, by decide, fun h => absurd h (by decide)⟩
theorem lX4_44 : FL RX4 44 2 0 3 := ⟨RX2, TX2, 9, tyX2, rfl, iwX2, by decide, rfl, rfl, (mt1 (List.mem_of_getElem? (i := 95) rfl) rfl), tyX2_ok, nmX2, by decide, by decide, by decide, by decide, fun h => absurd h (by decide)⟩
theorem lX4_56 : FL RX4 56 2 2 3 := ⟨RX2, TX2, 9, tyX2, rfl, iwX2, by decide, rfl, rfl, (mt1 (List.mem_of_getElem? (i := 107) rfl) rfl), tyX2_ok, nmX2, by decide, by decide, by decide, by decide, fun h => absurd h (by decide)⟩
theorem lX4_63 : FL RX4 63 2 3 3 := ⟨RX2, TX2, 9, tyX2, rfl, iwX2, by decide, rfl, rfl, (mt1 (List.mem_of_getElem? (i := 111) rfl) rfl), tyX2_ok, nmX2, by decide, by decide, by decide, by decide, fun h => absurd h (by decide)⟩
theorem lX5_9 : FL RX5 9 5 0 3 := ⟨RX5, TX5, 4, tyX5, rfl, iwX5, by decide, rfl, rfl, (mt2 (List.mem_of_getElem? (i := 5) rfl) rfl), tyX5_ok, nmX5, by decide, by decide, by decide, by decide, fun h => absurd h (by decide)⟩
theorem lX5_15 : FL RX5 15 5 1 3 := ⟨RX5, TX5, 4, tyX5, rfl, iwX5, by decide, rfl, rfl, (mt2 (List.mem_of_getElem? (i := 6) rfl) rfl), tyX5_ok, nmX5, by decide, by decide, by decide, by decide, fun h => absurd h (by decide)⟩
theorem lX5_18 : FL RX5 18 5 2 0 := ⟨RX5, TX5, 4, tyX5, rfl, iwX5, by decide, rfl, rfl, (mt2 (List.mem_of_getElem? (i := 7) rfl) rfl), tyX5_ok, nmX5, by decide, fun _ => rfl, by decide, by decide, fun h => absurd h (by decide)⟩
theorem lX5_22 : FL RX5 22 5 3 0 := ⟨RX5, TX5, 4, tyX5, rfl, iwX5, by decide, rfl, rfl, (mt2 (List.mem_of_getElem? (i := 8) rfl) rfl), tyX5_ok, nmX5, by decide, fun _ => rfl, by decide, by decide, fun h => absurd h (by decide)⟩
theorem lX6_10 : FL RX6 10 6 0 3 := ⟨RX6, TX6, 3, tyX6, rfl, iwX6, by decide, rfl, rfl, (mt2 (List.mem_of_getElem? (i := 20) rfl) rfl), tyX6_ok, nmX6, by decide, by decide, by decide, by decide, fun h => absurd h (by decide)⟩
theorem lX6_19 : FL RX6 19 6 1 3 := ⟨RX6, TX6, 3, tyX6, rfl, iwX6, by decide, rfl, rfl, (mt2 (List.mem_of_getElem? (i := 23) rfl) rfl), tyX6_ok, nmX6, by decide, by decide, by decide, by decide, fun h => absurd h (by decide)⟩
theorem lX6_26 : FL RX6 26 6 2 3 := ⟨RX6, TX6, 3, tyX6, rfl, iwX6, by decide, rfl, rfl, (mt2 (List.mem_of_getElem? (i := 25) rfl) rfl), tyX6_ok, nmX6, by decide, by decide, by decide, by decide, fun h => absurd h (by decide)⟩
theorem lX6_34 : FL RX6 34 0 1 0 := ⟨RX0, TX0, 2, tyX0, rfl, iwX0, by decide, rfl, rfl, (mt1 (List.mem_of_getElem? (i := 232) rfl) rfl), tyX0_ok, nmX0, by decide, fun _ => rfl, by decide, by decide, fun h => absurd h (by decide)⟩
theorem lX6_38 : FL RX6 38 5 3 0 := ⟨RX5, TX5, 4, tyX5, rfl, iwX5, by decide, rfl, rfl, (mt2 (List.mem_of_getElem? (i := 9) rfl) rfl), tyX5_ok, nmX5, by decide, fun _ => rfl, by decide, by decide, fun h => absurd h (by decide)⟩
theorem lX7_12 : FL RX7 12 7 0 3 := ⟨RX7, TX7, 5, tyX7, rfl, iwX7, by decide, rfl, rfl, (mt1 (List.mem_of_getElem? (i := 197) rfl) rfl), tyX7_ok, nmX7, by decide, by decide, by decide, by decide, fun h => absurd h (by decide)⟩
theorem lX7_21 : FL RX7 21 7 1 4 := ⟨RX7, TX7, 5, tyX7, rfl, iwX7, by decide, rfl, rfl, (mt1 (List.mem_of_getElem? (i := 199) rfl) rfl), tyX7_ok, nmX7, by decide, by decide, by decide, by decide, fun _ => ⟨_, rfl⟩⟩
theorem lX7_25 : FL RX7 25 1 2 3 := ⟨RX1, TX1, 5, tyX1, rfl, iwX1, by decide, rfl, rfl, (mt1 (List.mem_of_getElem? (i := 176) rfl) rfl), tyX1_ok, nmX1, by decide, by decide, by decide, by decide, fun h => absurd h (by decide)⟩
theorem lX7_29 : FL RX7 29 7 2 4 := ⟨RX7, TX7, 5, tyX7, rfl, iwX7, by decide, rfl, rfl, (mt1 (List.mem_of_getElem? (i := 201) rfl) rfl), tyX7_ok, nmX7, by decide, by decide, by decide, by decide, fun _ => ⟨_, rfl⟩⟩
theorem lX7_32 : FL RX7 32 7 3 0 := ⟨RX7, TX7, 5, tyX7, rfl, iwX7, by decide, rfl, rfl, (mt1 (List.mem_of_getElem? (i := 202) rfl) rfl), tyX7_ok, nmX7, by decide, fun _ => rfl, by decide, by decide, fun h => absurd h (by decide)⟩
theorem lX7_36 : FL RX7 36 7 4 0 := ⟨RX7, TX7, 5, tyX7, rfl, iwX7, by decide, rfl, rfl, (mt1 (List.mem_of_getElem? (i := 203) rfl) rfl), tyX7_ok, nmX7, by decide, fun _ => rfl, by decide, by decide, fun h => absurd h (by decide)⟩
theorem lX7_46 : FL RX7 46 10 5 0 := ⟨RX10, TX10, 7, tyX10, rfl, iwX10, by decide, rfl, rfl, (mt1 (List.mem_of_getElem? (i := 56) rfl) rfl), tyX10_ok, nmX10, by decide, fun _ => rfl, by decide, by decide, fun h => absurd h (by decide)⟩
theorem lX7_70 : FL RX7 70 1 3 3 := ⟨RX1, TX1, 5, tyX1, rfl, iwX1, by decide, rfl, rfl, (mt1 (List.mem_of_getElem? (i := 178) rfl) rfl), tyX1_ok, nmX1, by decide, by decide, by decide, by decide, fun h => absurd h (by decide)⟩
theorem lX7_76 : FL RX7 76 10 3 0 := ⟨RX10, TX10, 7, tyX10, rfl, iwX10, by decide, rfl, rfl, (mt1 (List.mem_of_getElem? (i := 53) rfl) rfl), tyX10_ok, nmX10, by decide, fun _ => rfl, by decide, by decide, fun h => absurd h (by decide)⟩
theorem lX7_86 : FL RX7 86 1 4 0 := ⟨RX1, TX1, 5, tyX1, rfl, iwX1, by decide, rfl, rfl, (mt1 (List.mem_of_getElem? (i := 183) rfl) rfl), tyX1_ok, nmX1, by decide, fun _ => rfl, by decide, by decide, fun h => absurd h (by decide)⟩
theorem lX7_101 : FL RX7 101 10 6 0 := ⟨RX10, TX10, 7, tyX10, rfl, iwX10, by decide, rfl, rfl, (mt1 (List.mem_of_getElem? (i := 58) rfl) rfl), tyX10_ok, nmX10, by decide, fun _ => rfl, by decide, by decide, fun h => absurd h (by decide)⟩
theorem lX7_112 : FL RX7 112 1 1 3 := ⟨RX1, TX1, 5, tyX1, rfl, iwX1, by decide, rfl, rfl, (mt1 (List.mem_of_getElem? (i := 174) rfl) rfl), tyX1_ok, nmX1, by decide, by decide, by decide, by decide, fun h => absurd h (by decide)⟩
theorem lX7_116 : FL RX7 116 2 2 3 := ⟨RX2, TX2, 9, tyX2, rfl, iwX2, by decide, rfl, rfl, (mt1 (List.mem_of_getElem? (i := 108) rfl) rfl), tyX2_ok, nmX2, by decide, by decide, by decide, by decide, fun h => absurd h (by decide)⟩
theorem lX7_125 : FL RX7 125 2 3 3 := ⟨RX2, TX2, 9, tyX2, rfl, iwX2, by decide, rfl, rfl, (mt1 (List.mem_of_getElem? (i := 112) rfl) rfl), tyX2_ok, nmX2, by decide, by decide, by decide, by decide, fun h => absurd h (by decide)⟩
theorem lX7_128 : FL RX7 128 8 3 1 := ⟨RX8, TX8, 4, tyX8, rfl, iwX8, by decide, rfl, rfl, (mt1 (List.mem_of_getElem? (i := 158) rfl) rfl), tyX8_ok, nmX8, by decide, by decide, fun _ => rfl, by decide, fun h => absurd h (by decide)⟩
theorem lX8_9 : FL RX8 9 8 0 3 := ⟨RX8, TX8, 4, tyX8, rfl, iwX8, by decide, rfl, rfl, (mt1 (List.mem_of_getElem? (i := 152) rfl) rfl), tyX8_ok, nmX8, by decide, by decide, by decide, by decide, fun h => absurd h (by decide)⟩
theorem lX8_15 : FL RX8 15 8 1 3 := ⟨RX8, TX8, 4, tyX8, rfl, iwX8, by decide, rfl, rfl, (mt1 (List.mem_of_getElem? (i := 153) rfl) rfl), tyX8_ok, nmX8, by decide, by decide, by decide, by decide, fun h => absurd h (by decide)⟩
theorem lX8_18 : FL RX8 18 8 2 0 := ⟨RX8, TX8, 4, tyX8, rfl, iwX8, by decide, rfl, rfl, (mt1 (List.mem_of_getElem? (i := 154) rfl) rfl), tyX8_ok, nmX8, by decide, fun _ => rfl, by decide, by decide, fun h => absurd h (by decide)⟩
theorem lX8_22 : FL RX8 22 8 3 1 := ⟨RX8, TX8, 4, tyX8, rfl, iwX8, by decide, rfl, rfl, (mt1 (List.mem_of_getElem? (i := 155) rfl) rfl), tyX8_ok, nmX8, by decide, by decide, fun _ => rfl, by decide, fun h => absurd h (by decide)⟩
theorem lX8_34 : FL RX8 34 2 1 3 := ⟨RX2, TX2, 9, tyX2, rfl, iwX2, by decide, rfl, rfl, (mt1 (List.mem_of_getElem? (i := 103) rfl) rfl), tyX2_ok, nmX2, by decide, by decide, by decide, by decide, fun h => absurd h (by decide)⟩
theorem lX8_39 : FL RX8 39 2 0 3 := ⟨RX2, TX2, 9, tyX2, rfl, iwX2, by decide, rfl, rfl, (mt1 (List.mem_of_getElem? (i := 97) rfl) rfl), tyX2_ok, nmX2, by decide, by decide, by decide, by decide, fun h => absurd h (by decide)⟩
theorem lX8_42 : FL RX8 42 2 4 3 := ⟨RX2, TX2, 9, tyX2, rfl, iwX2, by decide, rfl, rfl, (mt1 (List.mem_of_getElem? (i := 115) rfl) rfl), tyX2_ok, nmX2, by decide, by decide, by decide, by decide, fun h => absurd h (by decide)⟩
theorem lX8_45 : FL RX8 45 2 6 0 := ⟨RX2, TX2, 9, tyX2, rfl, iwX2, by decide, rfl, rfl, (mt1 (List.mem_of_getElem? (i := 120) rfl) rfl), tyX2_ok, nmX2, by decide, fun _ => rfl, by decide, by decide, fun h => absurd h (by decide)⟩
theorem lX9_9 : FL RX9 9 9 0 3 := ⟨RX9, TX9, 4, tyX9, rfl, iwX9, by decide, rfl, rfl, (mt2 (List.mem_of_getElem? (i := 99) rfl) rfl), tyX9_ok, nmX9, by decide, by decide, by decide, by decide, fun h => absurd h (by decide)⟩
theorem lX9_15 : FL RX9 15 9 1 3 := ⟨RX9, TX9, 4, tyX9, rfl, iwX9, by decide, rfl, rfl, (mt2 (List.mem_of_getElem? (i := 100) rfl) rfl), tyX9_ok, nmX9, by decide, by decide, by decide, by decide, fun h => absurd h (by decide)⟩
theorem lX9_19 : FL RX9 19 9 2 0 := ⟨RX9, TX9, 4, tyX9, rfl, iwX9, by decide, rfl, rfl, (mt2 (List.mem_of_getElem? (i := 101) rfl) rfl), tyX9_ok, nmX9, by decide, fun _ => rfl, by decide, by decide, fun h => absurd h (by decide)⟩
theorem lX9_23 : FL RX9 23 9 3 0 := ⟨RX9, TX9, 4, tyX9, rfl, iwX9, by decide, rfl, rfl, (mt2 (List.mem_of_getElem? (i := 103) rfl) rfl), tyX9_ok, nmX9, by decide, fun _ => rfl, by decide, by decide, fun h => absurd h (by decide)⟩
theorem lX9_26 : FL RX9 26 6 0 3 := ⟨RX6, TX6, 3, tyX6, rfl, iwX6, by decide, rfl, rfl, (mt2 (List.mem_of_getElem? (i := 21) rfl) rfl), tyX6_ok, nmX6, by decide, by decide, by decide, by decide, fun h => absurd h (by decide)⟩
theorem lX9_38 : FL RX9 38 6 2 3 := ⟨RX6, TX6, 3, tyX6, rfl, iwX6, by decide, rfl, rfl, (mt2 (List.mem_of_getElem? (i := 26) rfl) rfl), tyX6_ok, nmX6, by decide, by decide, by decide, by decide, fun h => absurd h (by decide)⟩
theorem lX9_46 : FL RX9 46 3 3 4 := ⟨RX3, TX3, 7, tyX3, rfl, iwX3, by decide, rfl, rfl, (mt2 (List.mem_of_getElem? (i := 50) rfl) rfl), tyX3_ok, nmX3, by decide, by decide, by decide, by decide, fun _ => ⟨_, rfl⟩⟩
theorem lX9_50 : FL RX9 50 1 4 0 := ⟨RX1, TX1, 5, tyX1, rfl, iwX1, by decide, rfl, rfl, (mt1 (List.mem_of_getElem? (i := 182) rfl) rfl), tyX1_ok, nmX1, by decide, fun _ => rfl, by decide, by decide, fun h => absurd h (by decide)⟩
theorem lX9_60 : FL RX9 60 3 4 4 := ⟨RX3, TX3, 7, tyX3, rfl, iwX3, by decide, rfl, rfl, (mt2 (List.mem_of_getElem? (i := 53) rfl) rfl), tyX3_ok, nmX3, by decide, by decide, by decide, by decide, fun _ => ⟨_, rfl⟩⟩
theorem lX9_81 : FL RX9 81 3 5 0 := ⟨RX3, TX3, 7, tyX3, rfl, iwX3, by decide, rfl, rfl, (mt2 (List.mem_of_getElem? (i := 56) rfl) rfl), tyX3_ok, nmX3, by decide, fun _ => rfl, by decide, by decide, fun h => absurd h (by decide)⟩
theorem lX10_9 : FL RX10 9 10 0 3 := ⟨RX10, TX10, 7, tyX10, rfl, iwX10, by decide, rfl, rfl, (mt1 (List.mem_of_getElem? (i := 48) rfl) rfl), tyX10_ok, nmX10, by decide, by decide, by decide, by decide, fun h => absurd h (by decide)⟩
theorem lX10_15 : FL RX10 15 10 1 0 := ⟨RX10, TX10, 7, tyX10, rfl, iwX10, by decide, rfl, rfl, (mt1 (List.mem_of_getElem? (i := 49) rfl) rfl), tyX10_ok, nmX10, by decide, fun _ => rfl, by decide, by decide, fun h => absurd h (by decide)⟩
theorem lX10_19 : FL RX10 19 10 2 0 := ⟨RX10, TX10, 7, tyX10, rfl, iwX10, by decide, rfl, rfl, (mt1 (List.mem_of_getElem? (i := 51) rfl) rfl), tyX10_ok, nmX10, by decide, fun _ => rfl, by decide, by decide, fun h => absurd h (by decide)⟩
theorem lX10_22 : FL RX10 22 10 3 0 := ⟨RX10, TX10, 7, tyX10, rfl, iwX10, by decide, rfl, rfl, (mt1 (List.mem_of_getElem? (i := 52) rfl) rfl), tyX10_ok, nmX10, by decide, fun _ => rfl, by decide, by decide, fun h => absurd h (by decide)⟩
theorem lX10_25 : FL RX10 25 10 4 0 := ⟨RX10, TX10, 7, tyX10, rfl, iwX10, by decide, rfl, rfl, (mt1 (List.mem_of_getElem? (i := 54) rfl) rfl), tyX10_ok, nmX10, by decide, fun _ => rfl, by decide, by decide, fun h => absurd h (by decide)⟩
theorem lX10_28 : FL RX10 28 10 5 0 := ⟨RX10, TX10, 7, tyX10, rfl, iwX10, by decide, rfl, rfl, (mt1 (List.mem_of_getElem? (i := 55) rfl) rfl), tyX10_ok, nmX10, by decide, fun _ => rfl, by decide, by decide, fun h => absurd h (by decide)⟩
theorem lX10_31 : FL RX10 31 10 6 0 := ⟨RX10, TX10, 7, tyX10, rfl, iwX10, by decide, rfl, rfl, (mt1 (List.mem_of_getElem? (i := 57) rfl) rfl), tyX10_ok, nmX10, by decide, fun _ => rfl, by decide, by decide, fun h => absurd h (by decide)⟩
theorem lX12_9 : FL RX12 9 12 2 0 := ⟨RX12, TX12, 60, tyX12, rfl, iwX12, by decide, rfl, rfl, (mt6 (List.mem_of_getElem? (i := 86) rfl) rfl), tyX12_ok, nmX12, by decide, fun _ => rfl, by decide, by decide, fun h => absurd h (by decide)⟩
theorem lX12_13 : FL RX12 13 12 3 0 := ⟨RX12, TX12, 60, tyX12, rfl, iwX12, by decide, rfl, rfl, (mt6 (List.mem_of_getElem? (i := 87) rfl) rfl), tyX12_ok, nmX12, by decide, fun _ => rfl, by decide, by decide, fun h => absurd h (by decide)⟩
theorem lX12_16 : FL RX12 16 12 4 3 := ⟨RX12, TX12, 60, tyX12, rfl, iwX12, by decide, rfl, rfl, (mt6 (List.mem_of_getElem? (i := 88) rfl) rfl), tyX12_ok, nmX12, by decide, by decide, by decide, by decide, fun h => absurd h (by decide)⟩
theorem lX12_20 : FL RX12 20 12 5 3 := ⟨RX12, TX12, 60, tyX12, rfl, iwX12, by decide, rfl, rfl, (mt6 (List.mem_of_getElem? (i := 89) rfl) rfl), tyX12_ok, nmX12, by decide, by decide, by decide, by decide, fun h => absurd h (by decide)⟩
theorem lX12_23 : FL RX12 23 12 6 3 := ⟨RX12, TX12, 60, tyX12, rfl, iwX12, by decide, rfl, rfl, (mt6 (List.mem_of_getElem? (i := 90) rfl) rfl), tyX12_ok, nmX12, by decide, by decide, by decide, by decide, fun h => absurd h (by decide)⟩
theorem lX12_26 : FL RX12 26 12 9 0 := ⟨RX12, TX12, 60, tyX12, rfl, iwX12, by decide, rfl, rfl, (mt6 (List.mem_of_getElem? (i := 93) rfl) rfl), tyX12_ok, nmX12, by decide, fun _ => rfl, by decide, by decide, fun h => absurd h (by decide)⟩
theorem lX12_29 : FL RX12 29 12 10 3 := ⟨RX12, TX12, 60, tyX12, rfl, iwX12, by decide, rfl, rfl, (mt6 (List.mem_of_getElem? (i := 94) rfl) rfl), tyX12_ok, nmX12, by decide, by decide, by decide, by decide, fun h => absurd h (by decide)⟩
theorem lX12_32 : FL RX12 32 12 25 3 := ⟨RX12, TX12, 60, tyX12, rfl, iwX12, by decide, rfl, rfl, (mt6 (List.mem_of_getElem? (i := 109) rfl) rfl), tyX12_ok, nmX12, by decide, by decide, by decide, by decide, fun h => absurd h (by decide)⟩
theorem lX12_35 : FL RX12 35 12 26 3 := ⟨RX12, TX12, 60, tyX12, rfl, iwX12, by decide, rfl, rfl, (mt6 (List.mem_of_getElem? (i := 110) rfl) rfl), tyX12_ok, nmX12, by decide, by decide, by decide, by decide, fun h => absurd h (by decide)⟩
theorem lX12_38 : FL RX12 38 12 27 3 := ⟨RX12, TX12, 60, tyX12, rfl, iwX12, by decide, rfl, rfl, (mt6 (List.mem_of_getElem? (i := 111) rfl) rfl), tyX12_ok, nmX12, by decide, by decide, by decide, by decide, fun h => absurd h (by decide)⟩
theorem lX12_41 : FL RX12 41 12 28 3 := ⟨RX12, TX12, 60, tyX12, rfl, iwX12, by decide, rfl, rfl, (mt6 (List.mem_of_getElem? (i := 112) rfl) rfl), tyX12_ok, nmX12, by decide, by decide, by decide, by decide, fun h => absurd h (by decide)⟩
theorem lX12_44 : FL RX12 44 12 29 3 := ⟨RX12, TX12, 60, tyX12, rfl, iwX12, by decide, rfl, rfl, (mt6 (List.mem_of_getElem? (i := 113) rfl) rfl), tyX12_ok, nmX12, by decide, by decide, by decide, by decide, fun h => absurd h (by decide)⟩
theorem lX12_48 : FL RX12 48 12 30 3 := ⟨RX12, TX12, 60, tyX12, rfl, iwX12, by decide, rfl, rfl, (mt6 (List.mem_of_getElem? (i := 114) rfl) rfl), tyX12_ok, nmX12, by decide, by decide, by decide, by decide, fun h => absurd h (by decide)⟩
theorem lX12_51 : FL RX12 51 12 31 3 := ⟨RX12, TX12, 60, tyX12, rfl, iwX12, by decide, rfl, rfl, (mt6 (List.mem_of_getElem? (i := 115) rfl) rfl), tyX12_ok, nmX12, by decide, by decide, by decide, by decide, fun h => absurd h (by decide)⟩
theorem lX12_54 : FL RX12 54 12 32 3 := ⟨RX12, TX12, 60, tyX12, rfl, iwX12, by decide, rfl, rfl, (mt6 (List.mem_of_getElem? (i := 116) rfl) rfl), tyX12_ok, nmX12, by decide, by decide, by decide, by decide, fun h => absurd h (by decide)⟩
theorem lX12_57 : FL RX12 57 12 34 3 := ⟨RX12, TX12, 60, tyX12, rfl, iwX12, by decide, rfl, rfl, (mt6 (List.mem_of_getElem? (i := 118) rfl) rfl), tyX12_ok, nmX12, by decide, by decide, by decide, by decide, fun h => absurd h (by decide)⟩
theorem lX12_60 : FL RX12 60 12 35 3 := ⟨RX12, TX12, 60, tyX12, rfl, iwX12, by decide, rfl, rfl, (mt6 (List.mem_of_getElem? (i := 119) rfl) rfl), tyX12_ok, nmX12, by decide, by decide, by decide, by decide, fun h => absurd h (by decide)⟩
theorem lX12_63 : FL RX12 63 12 36 3 := ⟨RX12, TX12, 60, tyX12, rfl, iwX12, by decide, rfl, rfl, (mt6 (List.mem_of_getElem? (i := 120) rfl) rfl), tyX12_ok, nmX12, by decide, by decide, by decide, by decide, fun h => absurd h (by decide)⟩
theorem lX12_66 : FL RX12 66 12 37 3 := ⟨RX12, TX12, 60, tyX12, rfl, iwX12, by decide, rfl, rfl, (mt6 (List.mem_of_getElem? (i := 121) rfl) rfl), tyX12_ok, nmX12, by decide, by decide, by decide, by decide, fun h => absurd h (by decide)⟩
theorem lX12_69 : FL RX12 69 12 40 0 := ⟨RX12, TX12, 60, tyX12, rfl, iwX12, by decide, rfl, rfl, (mt6 (List.mem_of_getElem? (i := 124) rfl) rfl), tyX12_ok, nmX12, by decide, fun _ => rfl, by decide, by decide, fun h => absurd h (by decide)⟩
theorem lX12_72 : FL RX12 72 12 41 3 := ⟨RX12, TX12, 60, tyX12, rfl, iwX12, by decide, rfl, rfl, (mt6 (List.mem_of_getElem? (i := 125) rfl) rfl), tyX12_ok, nmX12, by decide, by decide, by decide, by decide, fun h => absurd h (by decide)⟩
theorem lX12_75 : FL RX12 75 12 42 3 := ⟨RX12, TX12, 60, tyX12, rfl, iwX12, by decide, rfl, rfl, (mt6 (List.mem_of_getElem? (i := 126) rfl) rfl), tyX12_ok, nmX12, by decide, by decide, by decide, by decide, fun h => absurd h (by decide)⟩
theorem lX12_78 : FL RX12 78 12 43 3 := ⟨RX12, TX12, 60, tyX12, rfl, iwX12, by decide, rfl, rfl, (mt6 (List.mem_of_getElem? (i := 127) rfl) rfl), tyX12_ok, nmX12, by decide, by decide, by decide, by decide, fun h => absurd h (by decide)⟩
theorem lX12_81 : FL RX12 81 12 44 3 := ⟨RX12, TX12, 60, tyX12, rfl, iwX12, by decide, rfl, rfl, (mt6 (List.mem_of_getElem? (i := 128) rfl) rfl), tyX12_ok, nmX12, by decide, by decide, by decide, by decide, fun h => absurd h (by decide)⟩
theorem lX12_84 : FL RX12 84 12 45 3 := ⟨RX12, TX12, 60, tyX12, rfl, iwX12, by decide, rfl, rfl, (mt6 (List.mem_of_getElem? (i := 129) rfl) rfl), tyX12_ok, nmX12, by decide, by decide, by decide, by decide, fun h => absurd h (by decide)⟩
theorem lX12_87 : FL RX12 87 12 46 3 := ⟨RX12, TX12, 60, tyX12, rfl, iwX12, by decide, rfl, rfl, (mt6 (List.mem_of_getElem? (i := 130) rfl) rfl), tyX12_ok, nmX12, by decide, by decide, by decide, by decide, fun h => absurd h (by decide)⟩
theorem lX12_90 : FL RX12 90 12 47 3 := ⟨RX12, TX12, 60, tyX12, rfl, iwX12, by decide, rfl, rfl, (mt6 (List.mem_of_getElem? (i := 131) rfl) rfl), tyX12_ok, nmX12, by decide, by decide, by decide, by decide, fun h => absurd h (by decide)⟩
theorem lX12_93 : FL RX12 93 12 48 3 := ⟨RX12, TX12, 60, tyX12, rfl, iwX12, by decide, rfl, rfl, (mt6 (List.mem_of_getElem? (i := 132) rfl) rfl), tyX12_ok, nmX12, by decide, by decide, by decide, by decide, fun h => absurd h (by decide)⟩
theorem lX12_96 : FL RX12 96 12 50 3 := ⟨RX12, TX12, 60, tyX12, rfl, iwX12, by decide, rfl, rfl, (mt6 (List.mem_of_getElem? (i := 134) rfl) rfl), tyX12_ok, nmX12, by decide, by decide, by decide, by decide, fun h => absurd h (by decide)⟩
theorem lX12_99 : FL RX12 99 12 51 3 := ⟨RX12, TX12, 60, tyX12, rfl, iwX12, by decide, rfl, rfl, (mt6 (List.mem_of_getElem? (i := 135) rfl) rfl), tyX12_ok, nmX12, by decide, by decide, by decide, by decide, fun h => absurd h (by decide)⟩
theorem lX12_102 : FL RX12 102 12 52 3 := ⟨RX12, TX12, 60, tyX12, rfl, iwX12, by decide, rfl, rfl, (mt6 (List.mem_of_getElem? (i := 136) rfl) rfl), tyX12_ok, nmX12, by decide, by decide, by decide, by decide, fun h => absurd h (by decide)⟩
theorem lX12_105 : FL RX12 105 12 57 3 := ⟨RX12, TX12, 60, tyX12, rfl, iwX12, by decide, rfl, rfl, (mt6 (List.mem_of_getElem? (i := 141) rfl) rfl), tyX12_ok, nmX12, by decide, by decide, by decide, by decide, fun h => absurd h (by decide)⟩
theorem lX12_108 : FL RX12 108 12 58 3 := ⟨RX12, TX12, 60, tyX12, rfl, iwX12, by decide, rfl, rfl, (mt6 (List.mem_of_getElem? (i := 142) rfl) rfl), tyX12_ok, nmX12, by decide, by decide, by decide, by decide, fun h => absurd h (by decide)⟩
theorem lX12_111 : FL RX12 111 12 59 3 := ⟨RX12, TX12, 60, tyX12, rfl, iwX12, by decide, rfl, rfl, (mt6 (List.mem_of_getElem? (i := 143) rfl) rfl), tyX12_ok, nmX12, by decide, by decide, by decide, by decide, fun h => absurd h (by decide)⟩
theorem lX12_114 : FL RX12 114 12 0 0 := ⟨RX12, TX12, 60, tyX12, rfl, iwX12, by decide, rfl, rfl, (mt6 (List.mem_of_getElem? (i := 84) rfl) rfl), tyX12_ok, nmX12, by decide, fun _ => rfl, by decide, by decide, fun h => absurd h (by decide)⟩
theorem lX12_117 : FL RX12 117 12 7 0 := ⟨RX12, TX12, 60, tyX12, rfl, iwX12, by decide, rfl, rfl, (mt6 (List.mem_of_getElem? (i := 91) rfl) rfl), tyX12_ok, nmX12, by decide, fun _ => rfl, by decide, by decide, fun h => absurd h (by decide)⟩
theorem lX12_124 : FL RX12 124 12 11 0 := ⟨RX12, TX12, 60, tyX12, rfl, iwX12, by decide, rfl, rfl, (mt6 (List.mem_of_getElem? (i := 95) rfl) rfl), tyX12_ok, nmX12, by decide, fun _ => rfl, by decide, by decide, fun h => absurd h (by decide)⟩
theorem lX12_127 : FL RX12 127 12 12 0 := ⟨RX12, TX12, 60, tyX12, rfl, iwX12, by decide, rfl, rfl, (mt6 (List.mem_of_getElem? (i := 96) rfl) rfl), tyX12_ok, nmX12, by decide, fun _ => rfl, by decide, by decide, fun h => absurd h (by decide)⟩
theorem lX12_134 : FL RX12 134 12 14 0 := ⟨RX12, TX12, 60, tyX12, rfl, iwX12, by decide, rfl, rfl, (mt6 (List.mem_of_getElem? (i := 98) rfl) rfl), tyX12_ok, nmX12, by decide, fun _ => rfl, by decide, by decide, fun h => absurd h (by decide)⟩
theorem lX12_137 : FL RX12 137 12 18 2 := ⟨RX12, TX12, 60, tyX12, rfl, iwX12, by decide, rfl, rfl, (mt6 (List.mem_of_getElem? (i := 102) rfl) rfl), tyX12_ok, nmX12, by decide, by decide, by decide, fun _ => rfl, fun h => absurd h (by decide)⟩
theorem lX12_141 : FL RX12 141 12 16 0 := ⟨RX12, TX12, 60, tyX12, rfl, iwX12, by decide, rfl, rfl, (mt6 (List.mem_of_getElem? (i := 100) rfl) rfl), tyX12_ok, nmX12, by decide, fun _ => rfl, by decide, by decide, fun h => absurd h (by decide)⟩
theorem lX12_144 : FL RX12 144 12 17 0 := ⟨RX12, TX12, 60, tyX12, rfl, iwX12, by decide, rfl, rfl, (mt6 (List.mem_of_getElem? (i := 101) rfl) rfl), tyX12_ok, nmX12, by decide, fun _ => rfl, by decide, by decide, fun h => absurd h (by decide)⟩
theorem lX12_147 : FL RX12 147 12 13 0 := ⟨RX12, TX12, 60, tyX12, rfl, iwX12, by decide, rfl, rfl, (mt6 (List.mem_of_getElem? (i := 97) rfl) rfl), tyX12_ok, nmX12, by decide, fun _ => rfl, by decide, by decide, fun h => absurd h (by decide)⟩
theorem lX12_157 : FL RX12 157 12 15 0 := ⟨RX12, TX12, 60, tyX12, rfl, iwX12, by decide, rfl, rfl, (mt6 (List.mem_of_getElem? (i := 99) rfl) rfl), tyX12_ok, nmX12, by decide, fun _ => rfl, by decide, by decide, fun h => absurd h (by decide)⟩
theorem lX12_170 : FL RX12 170 12 8 0 := ⟨RX12, TX12, 60, tyX12, rfl, iwX12, by decide, rfl, rfl, (mt6 (List.mem_of_getElem? (i := 92) rfl) rfl), tyX12_ok, nmX12, by decide, fun _ => rfl, by decide, by decide, fun h => absurd h (by decide)⟩
theorem lX12_183 : FL RX12 183 12 19 0 := ⟨RX12, TX12, 60, tyX12, rfl, iwX12, by decide, rfl, rfl, (mt6 (List.mem_of_getElem? (i := 103) rfl) rfl), tyX12_ok, nmX12, by decide, fun _ => rfl, by decide, by decide, fun h => absurd h (by decide)⟩
theorem lX12_186 : FL RX12 186 12 22 0 := ⟨RX12, TX12, 60, tyX12, rfl, iwX12, by decide, rfl, rfl, (mt6 (List.mem_of_getElem? (i := 106) rfl) rfl), tyX12_ok, nmX12, by decide, fun _ => rfl, by decide, by decide, fun h => absurd h (by decide)⟩
theorem lX12_189 : FL RX12 189 12 23 0 := ⟨RX12, TX12, 60, tyX12, rfl, iwX12, by decide, rfl, rfl, (mt6 (List.mem_of_getElem? (i := 107) rfl) rfl), tyX12_ok, nmX12, by decide, fun _ => rfl, by decide, by decide, fun h => absurd h (by decide)⟩
theorem lX12_205 : FL RX12 205 12 24 0 := ⟨RX12, TX12, 60, tyX12, rfl, iwX12, by decide, rfl, rfl, (mt6 (List.mem_of_getElem? (i := 108) rfl) rfl), tyX12_ok, nmX12, by decide, fun _ => rfl, by decide, by decide, fun h => absurd h (by decide)⟩
theorem lX12_250 : FL RX12 250 12 20 0 := ⟨RX12, TX12, 60, tyX12, rfl, iwX12, by decide, rfl, rfl, (mt6 (List.mem_of_getElem? (i := 104) rfl) rfl), tyX12_ok, nmX12, by decide, fun _ => rfl, by decide, by decide, fun h => absurd h (by decide)⟩
theorem lX12_256 : FL RX12 256 12 21 0 := ⟨RX12, TX12, 60, tyX12, rfl, iwX12, by decide, rfl, rfl, (mt6 (List.mem_of_getElem? (i := 105) rfl) rfl), tyX12_ok, nmX12, by decide, fun _ => rfl, by decide, by decide, fun h => absurd h (by decide)⟩
theorem lX12_269 : FL RX12 269 12 1 0 := ⟨RX12, TX12, 60, tyX12, rfl, iwX12, by decide, rfl, rfl, (mt6 (List.mem_of_getElem? (i := 85) rfl) rfl), tyX12_ok, nmX12, by decide, fun _ => rfl, by decide, by decide, fun h => absurd h (by decide)⟩
theorem lX12_276 : FL RX12 276 12 33 0 := ⟨RX12, TX12, 60, tyX12, rfl, iwX12, by decide, rfl, rfl, (mt6 (List.mem_of_getElem? (i := 117) rfl) rfl), tyX12_ok, nmX12, by decide, fun _ => rfl, by decide, by decide, fun h => absurd h (by decide)⟩
theorem lX12_279 : FL RX12 279 12 49 0 := ⟨RX12, TX12, 60, tyX12, rfl, iwX12, by decide, rfl, rfl, (mt6 (List.mem_of_getElem? (i := 133) rfl) rfl), tyX12_ok, nmX12, by decide, fun _ => rfl, by decide, by decide, fun h => absurd h (by decide)⟩
theorem lX12_282 : FL RX12 282 12 54 1 := ⟨RX12, TX12, 60, tyX12, rfl, iwX12, by decide, rfl, rfl, (mt6 (List.mem_of_getElem? (i := 138) rfl) rfl), tyX12_ok, nmX12, by decide, by decide, fun _ => rfl, by decide, fun h => absurd h (by decide)⟩
theorem lX12_293 : FL RX12 293 12 39 0 := ⟨RX12, TX12, 60, tyX12, rfl, iwX12, by decide, rfl, rfl, (mt6 (List.mem_of_getElem? (i := 123) rfl) rfl), tyX12_ok, nmX12, by decide, fun _ => rfl, by decide, by decide, fun h => absurd h (by decide)⟩
theorem lX12_300 : FL RX12 300 12 38 0 := ⟨RX12, TX12, 60, tyX12, rfl, iwX12, by decide, rfl, rfl, (mt6 (List.mem_of_getElem? (i := 122) rfl) rfl), tyX12_ok, nmX12, by decide, fun _ => rfl, by decide, by decide, fun h => absurd h (by decide)⟩
theorem lX12_418 : FL RX12 418 12 53 0 := ⟨RX12, TX12, 60, tyX12, rfl, iwX12, by decide, rfl, rfl, (mt6 (List.mem_of_getElem? (i := 137) rfl) rfl), tyX12_ok, nmX12, by decide, fun _ => rfl, by decide, by decide, fun h => absurd h (by decide)⟩
theorem lX12_428 : FL RX12 428 12 55 0 := ⟨RX12, TX12, 60, tyX12, rfl, iwX12, by decide, rfl, rfl, (mt6 (List.mem_of_getElem? (i := 139) rfl) rfl), tyX12_ok, nmX12, by decide, fun _ => rfl, by decide, by decide, fun h => absurd h (by decide)⟩
theorem lX12_431 : FL RX12 431 12 56 0 := ⟨RX12, TX12, 60, tyX12, rfl, iwX12, by decide, rfl, rfl, (mt6 (List.mem_of_getElem? (i := 140) rfl) rfl), tyX12_ok, nmX12, by decide, fun _ => rfl, by decide, by decide, fun h => absurd h (by decide)⟩
abbrev mX0_keep : MT := (yX0_keep, cX0_keep, 2, none)
theorem kX0_keep : CLV mX0_keep 1 := ⟨⟨(mt1 (List.mem_of_getElem? (i := 9) rfl) rfl), (mt2 (List.mem_of_getElem? (i := 175) rfl) rfl), ⟨by decide, by decide, by decide +kernel⟩, by decide⟩, (mt2 (List.mem_of_getElem? (i := 173) rfl) rfl), (mt2 (List.mem_of_getElem? (i := 174) rfl) rfl)⟩
abbrev mX0_takeBack : MT := (yX0_takeBack, cX0_takeBack, 2, none)
theorem kX0_takeBack : CLV mX0_takeBack 1 := ⟨⟨(mt1 (List.mem_of_getElem? (i := 9) rfl) rfl), (mt3 (List.mem_of_getElem? (i := 22) rfl) rfl), ⟨by decide, by decide, by decide +kernel⟩, by decide⟩, (mt3 (List.mem_of_getElem? (i := 20) rfl) rfl), (mt3 (List.mem_of_getElem? (i := 21) rfl) rfl)⟩
abbrev mX0_copy : MT := (yX0_copy, cX0_copy, 2, none)
theorem kX0_copy : CLV mX0_copy 1 := ⟨⟨(mt1 (List.mem_of_getElem? (i := 9) rfl) rfl), (mt3 (List.mem_of_getElem? (i := 64) rfl) rfl), ⟨by decide, by decide, by decide +kernel⟩, by decide⟩, (mt3 (List.mem_of_getElem? (i := 62) rfl) rfl), (mt3 (List.mem_of_getElem? (i := 63) rfl) rfl)⟩
abbrev mX1_clear : MT := (yX1_clear, cX1_clear, 1, none)
theorem kX1_clear : CLV mX1_clear 0 := ⟨⟨(mt1 (List.mem_of_getElem? (i := 4) rfl) rfl), (mt3 (List.mem_of_getElem? (i := 158) rfl) rfl), ⟨by decide, by decide, by decide +kernel⟩, by decide⟩, (mt3 (List.mem_of_getElem? (i := 156) rfl) rfl), (mt3 (List.mem_of_getElem? (i := 157) rfl) rfl)⟩
abbrev mX1_addCup : MT := (yX1_addCup, cX1_addCup, 4, none)
theorem kX1_addCup : CLV mX1_addCup 3 := ⟨⟨(mt1 (List.mem_of_getElem? (i := 4) rfl) rfl), (mt4 (List.mem_of_getElem? (i := 25) rfl) rfl), ⟨by decide, by decide, by decide +kernel⟩, by decide⟩, (mt4 (List.mem_of_getElem? (i := 23) rfl) rfl), (mt4 (List.mem_of_getElem? (i := 24) rfl) rfl)⟩
abbrev mX1_leak : MT := (yX1_leak, cX1_leak, 3, (some .int))
theorem kX1_leak : CLV mX1_leak 2 := ⟨⟨(mt1 (List.mem_of_getElem? (i := 4) rfl) rfl), (mt3 (List.mem_of_getElem? (i := 11) rfl) rfl), ⟨by decide, by decide, by decide +kernel⟩, by decide⟩, (mt3 (List.mem_of_getElem? (i := 9) rfl) rfl), (mt3 (List.mem_of_getElem? (i := 10) rfl) rfl)⟩
abbrev mX2_clear : MT := (yX2_clear, cX2_clear, 1, none)
theorem kX2_clear : CLV mX2_clear 0 := ⟨⟨(mt1 (List.mem_of_getElem? (i := 5) rfl) rfl), (mt1 (List.mem_of_getElem? (i := 90) rfl) rfl), ⟨by decide, by decide, by decide +kernel⟩, by decide⟩, (mt1 (List.mem_of_getElem? (i := 88) rfl) rfl), (mt1 (List.mem_of_getElem? (i := 89) rfl) rfl)⟩
abbrev mX2_copy : MT := (yX2_copy, cX2_copy, 2, none)
theorem kX2_copy : CLV mX2_copy 1 := ⟨⟨(mt1 (List.mem_of_getElem? (i := 5) rfl) rfl), (mt3 (List.mem_of_getElem? (i := 46) rfl) rfl), ⟨by decide, by decide, by decide +kernel⟩, by decide⟩, (mt3 (List.mem_of_getElem? (i := 44) rfl) rfl), (mt3 (List.mem_of_getElem? (i := 45) rfl) rfl)⟩
abbrev mX2_save : MT := (yX2_save, cX2_save, 3, none)
theorem kX2_save : CLV mX2_save 2 := ⟨⟨(mt1 (List.mem_of_getElem? (i := 5) rfl) rfl), (mt2 (List.mem_of_getElem? (i := 182) rfl) rfl), ⟨by decide, by decide, by decide +kernel⟩, by decide⟩, (mt2 (List.mem_of_getElem? (i := 180) rfl) rfl), (mt2 (List.mem_of_getElem? (i := 181) rfl) rfl)⟩
abbrev mX2_load : MT := (yX2_load, cX2_load, 3, none)
theorem kX2_load : CLV mX2_load 2 := ⟨⟨(mt1 (List.mem_of_getElem? (i := 5) rfl) rfl), (mt3 (List.mem_of_getElem? (i := 26) rfl) rfl), ⟨by decide, by decide, by decide +kernel⟩, by decide⟩, (mt3 (List.mem_of_getElem? (i := 24) rfl) rfl), (mt3 (List.mem_of_getElem? (i := 25) rfl) rfl)⟩
abbrev mX2_fillOfAll : MT := (yX2_fillOfAll, cX2_fillOfAll, 3, (some .int))
theorem kX2_fillOfAll : CLV mX2_fillOfAll 0 := ⟨⟨(mt1 (List.mem_of_getElem? (i := 5) rfl) rfl), (mt4 (List.mem_of_getElem? (i := 127) rfl) rfl), ⟨by decide, by decide, by decide +kernel⟩, by decide⟩, (mt4 (List.mem_of_getElem? (i := 125) rfl) rfl), (mt4 (List.mem_of_getElem? (i := 126) rfl) rfl)⟩
abbrev mX2_tipsOfAll : MT := (yX2_tipsOfAll, cX2_tipsOfAll, 3, (some .int))
theorem kX2_tipsOfAll : CLV mX2_tipsOfAll 0 := ⟨⟨(mt1 (List.mem_of_getElem? (i := 5) rfl) rfl), (mt4 (List.mem_of_getElem? (i := 131) rfl) rfl), ⟨by decide, by decide, by decide +kernel⟩, by decide⟩, (mt4 (List.mem_of_getElem? (i := 129) rfl) rfl), (mt4 (List.mem_of_getElem? (i := 130) rfl) rfl)⟩
abbrev mX2_filledAs : MT := (yX2_filledAs, cX2_filledAs, 3, (some .boolean))
theorem kX2_filledAs : CLV mX2_filledAs 1 := ⟨⟨(mt1 (List.mem_of_getElem? (i := 5) rfl) rfl), (mt3 (List.mem_of_getElem? (i := 51) rfl) rfl), ⟨by decide, by decide, by decide +kernel⟩, by decide⟩, (mt3 (List.mem_of_getElem? (i := 49) rfl) rfl), (mt3 (List.mem_of_getElem? (i := 50) rfl) rfl)⟩
abbrev mX2_isPlugged : MT := (yX2_isPlugged, cX2_isPlugged, 2, (some .boolean))
theorem kX2_isPlugged : CLV mX2_isPlugged 1 := ⟨⟨(mt1 (List.mem_of_getElem? (i := 5) rfl) rfl), (mt2 (List.mem_of_getElem? (i := 204) rfl) rfl), ⟨by decide, by decide, by decide +kernel⟩, by decide⟩, (mt2 (List.mem_of_getElem? (i := 202) rfl) rfl), (mt2 (List.mem_of_getElem? (i := 203) rfl) rfl)⟩
abbrev mX2_setPlugged : MT := (yX2_setPlugged, cX2_setPlugged, 3, none)
theorem kX2_setPlugged : CLV mX2_setPlugged 2 := ⟨⟨(mt1 (List.mem_of_getElem? (i := 5) rfl) rfl), (mt4 (List.mem_of_getElem? (i := 194) rfl) rfl), ⟨by decide, by decide, by decide +kernel⟩, by decide⟩, (mt4 (List.mem_of_getElem? (i := 192) rfl) rfl), (mt4 (List.mem_of_getElem? (i := 193) rfl) rfl)⟩
abbrev mX2_setHolds : MT := (yX2_setHolds, cX2_setHolds, 3, none)
theorem kX2_setHolds : CLV mX2_setHolds 2 := ⟨⟨(mt1 (List.mem_of_getElem? (i := 5) rfl) rfl), (mt4 (List.mem_of_getElem? (i := 216) rfl) rfl), ⟨by decide, by decide, by decide +kernel⟩, by decide⟩, (mt4 (List.mem_of_getElem? (i := 214) rfl) rfl), (mt4 (List.mem_of_getElem? (i := 215) rfl) rfl)⟩
abbrev mX2_setInto : MT := (yX2_setInto, cX2_setInto, 3, none)
theorem kX2_setInto : CLV mX2_setInto 2 := ⟨⟨(mt1 (List.mem_of_getElem? (i := 5) rfl) rfl), (mt4 (List.mem_of_getElem? (i := 183) rfl) rfl), ⟨by decide, by decide, by decide +kernel⟩, by decide⟩, (mt4 (List.mem_of_getElem? (i := 181) rfl) rfl), (mt4 (List.mem_of_getElem? (i := 182) rfl) rfl)⟩
abbrev mX2_leadsJust : MT := (yX2_leadsJust, cX2_leadsJust, 3, (some .boolean))
theorem kX2_leadsJust : CLV mX2_leadsJust 2 := ⟨⟨(mt1 (List.mem_of_getElem? (i := 5) rfl) rfl), (mt4 (List.mem_of_getElem? (i := 179) rfl) rfl), ⟨by decide, by decide, by decide +kernel⟩, by decide⟩, (mt4 (List.mem_of_getElem? (i := 177) rfl) rfl), (mt4 (List.mem_of_getElem? (i := 178) rfl) rfl)⟩
abbrev mX2_intoOfDrop : MT := (yX2_intoOfDrop, cX2_intoOfDrop, 4, (some .int))
theorem kX2_intoOfDrop : CLV mX2_intoOfDrop 2 := ⟨⟨(mt1 (List.mem_of_getElem? (i := 5) rfl) rfl), (mt4 (List.mem_of_getElem? (i := 162) rfl) rfl), ⟨by decide, by decide, by decide +kernel⟩, by decide⟩, (mt4 (List.mem_of_getElem? (i := 160) rfl) rfl), (mt4 (List.mem_of_getElem? (i := 161) rfl) rfl)⟩
abbrev mX2_dropsIntoFirst : MT := (yX2_dropsIntoFirst, cX2_dropsIntoFirst, 4, (some .int))
theorem kX2_dropsIntoFirst : CLV mX2_dropsIntoFirst 2 := ⟨⟨(mt1 (List.mem_of_getElem? (i := 5) rfl) rfl), (mt2 (List.mem_of_getElem? (i := 239) rfl) rfl), ⟨by decide, by decide, by decide +kernel⟩, by decide⟩, (mt2 (List.mem_of_getElem? (i := 237) rfl) rfl), (mt2 (List.mem_of_getElem? (i := 238) rfl) rfl)⟩
abbrev mX2_dropsInto : MT := (yX2_dropsInto, cX2_dropsInto, 6, (some .int))
theorem kX2_dropsInto : CLV mX2_dropsInto 3 := ⟨⟨(mt1 (List.mem_of_getElem? (i := 5) rfl) rfl), (mt6 (List.mem_of_getElem? (i := 37) rfl) rfl), ⟨by decide, by decide, by decide +kernel⟩, by decide⟩, (mt6 (List.mem_of_getElem? (i := 35) rfl) rfl), (mt6 (List.mem_of_getElem? (i := 36) rfl) rfl)⟩
abbrev mX2_passTurns : MT := (yX2_passTurns, cX2_passTurns, 3, none)
theorem kX2_passTurns : CLV mX2_passTurns 2 := ⟨⟨(mt1 (List.mem_of_getElem? (i := 5) rfl) rfl), (mt3 (List.mem_of_getElem? (i := 7) rfl) rfl), ⟨by decide, by decide, by decide +kernel⟩, by decide⟩, (mt3 (List.mem_of_getElem? (i := 5) rfl) rfl), (mt3 (List.mem_of_getElem? (i := 6) rfl) rfl)⟩
abbrev mX2_straightBelow : MT := (yX2_straightBelow, cX2_straightBelow, 2, (some .int))
theorem kX2_straightBelow : CLV mX2_straightBelow 1 := ⟨⟨(mt1 (List.mem_of_getElem? (i := 5) rfl) rfl), (mt4 (List.mem_of_getElem? (i := 141) rfl) rfl), ⟨by decide, by decide, by decide +kernel⟩, by decide⟩, (mt4 (List.mem_of_getElem? (i := 139) rfl) rfl), (mt4 (List.mem_of_getElem? (i := 140) rfl) rfl)⟩
abbrev mX2_allBelow : MT := (yX2_allBelow, cX2_allBelow, 4, (some .int))
theorem kX2_allBelow : CLV mX2_allBelow 1 := ⟨⟨(mt1 (List.mem_of_getElem? (i := 5) rfl) rfl), (mt5 (List.mem_of_getElem? (i := 103) rfl) rfl), ⟨by decide, by decide, by decide +kernel⟩, by decide⟩, (mt5 (List.mem_of_getElem? (i := 101) rfl) rfl), (mt5 (List.mem_of_getElem? (i := 102) rfl) rfl)⟩
abbrev mX2_allAbove : MT := (yX2_allAbove, cX2_allAbove, 4, (some .int))
theorem kX2_allAbove : CLV mX2_allAbove 1 := ⟨⟨(mt1 (List.mem_of_getElem? (i := 5) rfl) rfl), (mt5 (List.mem_of_getElem? (i := 99) rfl) rfl), ⟨by decide, by decide, by decide +kernel⟩, by decide⟩, (mt5 (List.mem_of_getElem? (i := 97) rfl) rfl), (mt5 (List.mem_of_getElem? (i := 98) rfl) rfl)⟩
abbrev mX2_roots : MT := (yX2_roots, cX2_roots, 4, (some .int))
theorem kX2_roots : CLV mX2_roots 1 := ⟨⟨(mt1 (List.mem_of_getElem? (i := 5) rfl) rfl), (mt4 (List.mem_of_getElem? (i := 137) rfl) rfl), ⟨by decide, by decide, by decide +kernel⟩, by decide⟩, (mt4 (List.mem_of_getElem? (i := 135) rfl) rfl), (mt4 (List.mem_of_getElem? (i := 136) rfl) rfl)⟩
abbrev mX2_deepest : MT := (yX2_deepest, cX2_deepest, 4, (some .int))
theorem kX2_deepest : CLV mX2_deepest 1 := ⟨⟨(mt1 (List.mem_of_getElem? (i := 5) rfl) rfl), (mt4 (List.mem_of_getElem? (i := 167) rfl) rfl), ⟨by decide, by decide, by decide +kernel⟩, by decide⟩, (mt4 (List.mem_of_getElem? (i := 165) rfl) rfl), (mt4 (List.mem_of_getElem? (i := 166) rfl) rfl)⟩
abbrev mX2_rowsOfPipes : MT := (yX2_rowsOfPipes, cX2_rowsOfPipes, 5, (some .int))
theorem kX2_rowsOfPipes : CLV mX2_rowsOfPipes 2 := ⟨⟨(mt1 (List.mem_of_getElem? (i := 5) rfl) rfl), (mt6 (List.mem_of_getElem? (i := 56) rfl) rfl), ⟨by decide, by decide, by decide +kernel⟩, by decide⟩, (mt6 (List.mem_of_getElem? (i := 54) rfl) rfl), (mt6 (List.mem_of_getElem? (i := 55) rfl) rfl)⟩
abbrev mX3_workOn : MT := (yX3_workOn, cX3_workOn, 2, none)
theorem kX3_workOn : CLV mX3_workOn 1 := ⟨⟨(mt1 (List.mem_of_getElem? (i := 11) rfl) rfl), (mt2 (List.mem_of_getElem? (i := 187) rfl) rfl), ⟨by decide, by decide, by decide +kernel⟩, by decide⟩, (mt2 (List.mem_of_getElem? (i := 185) rfl) rfl), (mt2 (List.mem_of_getElem? (i := 186) rfl) rfl)⟩
abbrev mX3_workOnCopy : MT := (yX3_workOnCopy, cX3_workOnCopy, 2, none)
theorem kX3_workOnCopy : CLV mX3_workOnCopy 1 := ⟨⟨(mt1 (List.mem_of_getElem? (i := 11) rfl) rfl), (mt3 (List.mem_of_getElem? (i := 42) rfl) rfl), ⟨by decide, by decide, by decide +kernel⟩, by decide⟩, (mt3 (List.mem_of_getElem? (i := 40) rfl) rfl), (mt3 (List.mem_of_getElem? (i := 41) rfl) rfl)⟩
abbrev mX3_goOn : MT := (yX3_goOn, cX3_goOn, 3, none)
theorem kX3_goOn : CLV mX3_goOn 1 := ⟨⟨(mt1 (List.mem_of_getElem? (i := 11) rfl) rfl), (mt2 (List.mem_of_getElem? (i := 192) rfl) rfl), ⟨by decide, by decide, by decide +kernel⟩, by decide⟩, (mt2 (List.mem_of_getElem? (i := 190) rfl) rfl), (mt2 (List.mem_of_getElem? (i := 191) rfl) rfl)⟩
abbrev mX3_passHour : MT := (yX3_passHour, cX3_passHour, 4, none)
theorem kX3_passHour : CLV mX3_passHour 1 := ⟨⟨(mt1 (List.mem_of_getElem? (i := 11) rfl) rfl), (mt2 (List.mem_of_getElem? (i := 196) rfl) rfl), ⟨by decide, by decide, by decide +kernel⟩, by decide⟩, (mt2 (List.mem_of_getElem? (i := 194) rfl) rfl), (mt2 (List.mem_of_getElem? (i := 195) rfl) rfl)⟩
abbrev mX3_springRuns : MT := (yX3_springRuns, cX3_springRuns, 3, (some .boolean))
theorem kX3_springRuns : CLV mX3_springRuns 2 := ⟨⟨(mt1 (List.mem_of_getElem? (i := 11) rfl) rfl), (mt2 (List.mem_of_getElem? (i := 200) rfl) rfl), ⟨by decide, by decide, by decide +kernel⟩, by decide⟩, (mt2 (List.mem_of_getElem? (i := 199) rfl) rfl), (mtp (List.mem_of_getElem? (i := 1) rfl) rfl)⟩
abbrev mX3_fillUp : MT := (yX3_fillUp, cX3_fillUp, 4, none)
theorem kX3_fillUp : CLV mX3_fillUp 2 := ⟨⟨(mt1 (List.mem_of_getElem? (i := 11) rfl) rfl), (mt4 (List.mem_of_getElem? (i := 205) rfl) rfl), ⟨by decide, by decide, by decide +kernel⟩, by decide⟩, (mt4 (List.mem_of_getElem? (i := 203) rfl) rfl), (mt4 (List.mem_of_getElem? (i := 204) rfl) rfl)⟩
abbrev mX3_tip : MT := (yX3_tip, cX3_tip, 6, none)
theorem kX3_tip : CLV mX3_tip 2 := ⟨⟨(mt1 (List.mem_of_getElem? (i := 11) rfl) rfl), (mt2 (List.mem_of_getElem? (i := 221) rfl) rfl), ⟨by decide, by decide, by decide +kernel⟩, by decide⟩, (mt2 (List.mem_of_getElem? (i := 220) rfl) rfl), (mtp (List.mem_of_getElem? (i := 2) rfl) rfl)⟩
abbrev mX3_letGo : MT := (yX3_letGo, cX3_letGo, 4, none)
theorem kX3_letGo : CLV mX3_letGo 2 := ⟨⟨(mt1 (List.mem_of_getElem? (i := 11) rfl) rfl), (mt2 (List.mem_of_getElem? (i := 235) rfl) rfl), ⟨by decide, by decide, by decide +kernel⟩, by decide⟩, (mt2 (List.mem_of_getElem? (i := 234) rfl) rfl), (mtp (List.mem_of_getElem? (i := 3) rfl) rfl)⟩
abbrev mX3_give : MT := (yX3_give, cX3_give, 3, none)
theorem kX3_give : CLV mX3_give 2 := ⟨⟨(mt1 (List.mem_of_getElem? (i := 11) rfl) rfl), (mt3 (List.mem_of_getElem? (i := 3) rfl) rfl), ⟨by decide, by decide, by decide +kernel⟩, by decide⟩, (mt3 (List.mem_of_getElem? (i := 2) rfl) rfl), (mtp (List.mem_of_getElem? (i := 4) rfl) rfl)⟩
abbrev mX3_timesOfAll : MT := (yX3_timesOfAll, cX3_timesOfAll, 3, (some .int))
theorem kX3_timesOfAll : CLV mX3_timesOfAll 0 := ⟨⟨(mt1 (List.mem_of_getElem? (i := 11) rfl) rfl), (mt5 (List.mem_of_getElem? (i := 232) rfl) rfl), ⟨by decide, by decide, by decide +kernel⟩, by decide⟩, (mt5 (List.mem_of_getElem? (i := 230) rfl) rfl), (mt5 (List.mem_of_getElem? (i := 231) rfl) rfl)⟩
abbrev mX3_neverTipped : MT := (yX3_neverTipped, cX3_neverTipped, 3, (some .int))
theorem kX3_neverTipped : CLV mX3_neverTipped 0 := ⟨⟨(mt1 (List.mem_of_getElem? (i := 11) rfl) rfl), (mt5 (List.mem_of_getElem? (i := 236) rfl) rfl), ⟨by decide, by decide, by decide +kernel⟩, by decide⟩, (mt5 (List.mem_of_getElem? (i := 234) rfl) rfl), (mt5 (List.mem_of_getElem? (i := 235) rfl) rfl)⟩
abbrev mX4_reckon : MT := (yX4_reckon, cX4_reckon, 6, none)
theorem kX4_reckon : CLV mX4_reckon 3 := ⟨⟨(mt1 (List.mem_of_getElem? (i := 12) rfl) rfl), (mt5 (List.mem_of_getElem? (i := 47) rfl) rfl), ⟨by decide, by decide, by decide +kernel⟩, by decide⟩, (mt5 (List.mem_of_getElem? (i := 45) rfl) rfl), (mt5 (List.mem_of_getElem? (i := 46) rfl) rfl)⟩
abbrev mX4_give : MT := (yX4_give, cX4_give, 3, none)
theorem kX4_give : CLV mX4_give 2 := ⟨⟨(mt1 (List.mem_of_getElem? (i := 12) rfl) rfl), (mt5 (List.mem_of_getElem? (i := 55) rfl) rfl), ⟨by decide, by decide, by decide +kernel⟩, by decide⟩, (mt5 (List.mem_of_getElem? (i := 54) rfl) rfl), (mtp (List.mem_of_getElem? (i := 30) rfl) rfl)⟩
abbrev mX4_keepTimes : MT := (yX4_keepTimes, cX4_keepTimes, 1, none)
theorem kX4_keepTimes : CLV mX4_keepTimes 0 := ⟨⟨(mt1 (List.mem_of_getElem? (i := 12) rfl) rfl), (mt5 (List.mem_of_getElem? (i := 75) rfl) rfl), ⟨by decide, by decide, by decide +kernel⟩, by decide⟩, (mt5 (List.mem_of_getElem? (i := 73) rfl) rfl), (mt5 (List.mem_of_getElem? (i := 74) rfl) rfl)⟩
abbrev mX4_allTippedSince : MT := (yX4_allTippedSince, cX4_allTippedSince, 3, (some .boolean))
theorem kX4_allTippedSince : CLV mX4_allTippedSince 1 := ⟨⟨(mt1 (List.mem_of_getElem? (i := 12) rfl) rfl), (mt5 (List.mem_of_getElem? (i := 80) rfl) rfl), ⟨by decide, by decide, by decide +kernel⟩, by decide⟩, (mt5 (List.mem_of_getElem? (i := 78) rfl) rfl), (mt5 (List.mem_of_getElem? (i := 79) rfl) rfl)⟩
abbrev mX5_note : MT := (yX5_note, cX5_note, 4, none)
theorem kX5_note : CLV mX5_note 3 := ⟨⟨(mt1 (List.mem_of_getElem? (i := 10) rfl) rfl), (mt5 (List.mem_of_getElem? (i := 136) rfl) rfl), ⟨by decide, by decide, by decide +kernel⟩, by decide⟩, (mt5 (List.mem_of_getElem? (i := 134) rfl) rfl), (mt5 (List.mem_of_getElem? (i := 135) rfl) rfl)⟩
abbrev mX5_copy : MT := (yX5_copy, cX5_copy, 2, none)
theorem kX5_copy : CLV mX5_copy 1 := ⟨⟨(mt1 (List.mem_of_getElem? (i := 10) rfl) rfl), (mt3 (List.mem_of_getElem? (i := 68) rfl) rfl), ⟨by decide, by decide, by decide +kernel⟩, by decide⟩, (mt3 (List.mem_of_getElem? (i := 66) rfl) rfl), (mt3 (List.mem_of_getElem? (i := 67) rfl) rfl)⟩
abbrev mX5_agrees : MT := (yX5_agrees, cX5_agrees, 4, (some .boolean))
theorem kX5_agrees : CLV mX5_agrees 2 := ⟨⟨(mt1 (List.mem_of_getElem? (i := 10) rfl) rfl), (mt5 (List.mem_of_getElem? (i := 157) rfl) rfl), ⟨by decide, by decide, by decide +kernel⟩, by decide⟩, (mt5 (List.mem_of_getElem? (i := 155) rfl) rfl), (mt5 (List.mem_of_getElem? (i := 156) rfl) rfl)⟩
abbrev mX6_begin : MT := (yX6_begin, cX6_begin, 2, none)
theorem kX6_begin : CLV mX6_begin 1 := ⟨⟨(mt1 (List.mem_of_getElem? (i := 8) rfl) rfl), (mt4 (List.mem_of_getElem? (i := 96) rfl) rfl), ⟨by decide, by decide, by decide +kernel⟩, by decide⟩, (mt4 (List.mem_of_getElem? (i := 94) rfl) rfl), (mt4 (List.mem_of_getElem? (i := 95) rfl) rfl)⟩
abbrev mX6_copy : MT := (yX6_copy, cX6_copy, 2, none)
theorem kX6_copy : CLV mX6_copy 1 := ⟨⟨(mt1 (List.mem_of_getElem? (i := 8) rfl) rfl), (mt3 (List.mem_of_getElem? (i := 59) rfl) rfl), ⟨by decide, by decide, by decide +kernel⟩, by decide⟩, (mt3 (List.mem_of_getElem? (i := 57) rfl) rfl), (mt3 (List.mem_of_getElem? (i := 58) rfl) rfl)⟩
abbrev mX7_read : MT := (yX7_read, cX7_read, 3, (some .int))
theorem kX7_read : CLV mX7_read 1 := ⟨⟨(mt1 (List.mem_of_getElem? (i := 2) rfl) rfl), (mt3 (List.mem_of_getElem? (i := 154) rfl) rfl), ⟨by decide, by decide, by decide +kernel⟩, by decide⟩, (mt3 (List.mem_of_getElem? (i := 152) rfl) rfl), (mt3 (List.mem_of_getElem? (i := 153) rfl) rfl)⟩
abbrev mX7_fail : MT := (yX7_fail, cX7_fail, 2, (some .int))
theorem kX7_fail : CLV mX7_fail 1 := ⟨⟨(mt1 (List.mem_of_getElem? (i := 2) rfl) rfl), (mt4 (List.mem_of_getElem? (i := 4) rfl) rfl), ⟨by decide, by decide, by decide +kernel⟩, by decide⟩, (mt4 (List.mem_of_getElem? (i := 3) rfl) rfl), (mtp (List.mem_of_getElem? (i := 8) rfl) rfl)⟩
abbrev mX7_readSign : MT := (yX7_readSign, cX7_readSign, 2, none)
theorem kX7_readSign : CLV mX7_readSign 1 := ⟨⟨(mt1 (List.mem_of_getElem? (i := 2) rfl) rfl), (mt4 (List.mem_of_getElem? (i := 17) rfl) rfl), ⟨by decide, by decide, by decide +kernel⟩, by decide⟩, (mt4 (List.mem_of_getElem? (i := 16) rfl) rfl), (mtp (List.mem_of_getElem? (i := 10) rfl) rfl)⟩
abbrev mX7_readCup : MT := (yX7_readCup, cX7_readCup, 4, none)
theorem kX7_readCup : CLV mX7_readCup 0 := ⟨⟨(mt1 (List.mem_of_getElem? (i := 2) rfl) rfl), (mt4 (List.mem_of_getElem? (i := 0) rfl) rfl), ⟨by decide, by decide, by decide +kernel⟩, by decide⟩, (mt3 (List.mem_of_getElem? (i := 239) rfl) rfl), (mtp (List.mem_of_getElem? (i := 7) rfl) rfl)⟩
abbrev mX7_readNumber : MT := (yX7_readNumber, cX7_readNumber, 4, (some .int))
theorem kX7_readNumber : CLV mX7_readNumber 2 := ⟨⟨(mt1 (List.mem_of_getElem? (i := 2) rfl) rfl), (mt4 (List.mem_of_getElem? (i := 9) rfl) rfl), ⟨by decide, by decide, by decide +kernel⟩, by decide⟩, (mt4 (List.mem_of_getElem? (i := 8) rfl) rfl), (mtp (List.mem_of_getElem? (i := 9) rfl) rfl)⟩
abbrev mX7_readPipe : MT := (yX7_readPipe, cX7_readPipe, 4, none)
theorem kX7_readPipe : CLV mX7_readPipe 0 := ⟨⟨(mt1 (List.mem_of_getElem? (i := 2) rfl) rfl), (mt4 (List.mem_of_getElem? (i := 30) rfl) rfl), ⟨by decide, by decide, by decide +kernel⟩, by decide⟩, (mt4 (List.mem_of_getElem? (i := 29) rfl) rfl), (mtp (List.mem_of_getElem? (i := 11) rfl) rfl)⟩
abbrev mX7_readInto : MT := (yX7_readInto, cX7_readInto, 4, (some .int))
theorem kX7_readInto : CLV mX7_readInto 2 := ⟨⟨(mt1 (List.mem_of_getElem? (i := 2) rfl) rfl), (mt4 (List.mem_of_getElem? (i := 38) rfl) rfl), ⟨by decide, by decide, by decide +kernel⟩, by decide⟩, (mt4 (List.mem_of_getElem? (i := 37) rfl) rfl), (mtp (List.mem_of_getElem? (i := 13) rfl) rfl)⟩
abbrev mX7_lookAtCup : MT := (yX7_lookAtCup, cX7_lookAtCup, 1, (some .int))
theorem kX7_lookAtCup : CLV mX7_lookAtCup 0 := ⟨⟨(mt1 (List.mem_of_getElem? (i := 2) rfl) rfl), (mt4 (List.mem_of_getElem? (i := 34) rfl) rfl), ⟨by decide, by decide, by decide +kernel⟩, by decide⟩, (mt4 (List.mem_of_getElem? (i := 33) rfl) rfl), (mtp (List.mem_of_getElem? (i := 12) rfl) rfl)⟩
abbrev mX7_readRule : MT := (yX7_readRule, cX7_readRule, 2, none)
theorem kX7_readRule : CLV mX7_readRule 1 := ⟨⟨(mt1 (List.mem_of_getElem? (i := 2) rfl) rfl), (mt4 (List.mem_of_getElem? (i := 43) rfl) rfl), ⟨by decide, by decide, by decide +kernel⟩, by decide⟩, (mt4 (List.mem_of_getElem? (i := 42) rfl) rfl), (mtp (List.mem_of_getElem? (i := 14) rfl) rfl)⟩
abbrev mX7_readExpr : MT := (yX7_readExpr, cX7_readExpr, 3, none)
theorem kX7_readExpr : CLV mX7_readExpr 1 := ⟨⟨(mt1 (List.mem_of_getElem? (i := 2) rfl) rfl), (mt4 (List.mem_of_getElem? (i := 47) rfl) rfl), ⟨by decide, by decide, by decide +kernel⟩, by decide⟩, (mt4 (List.mem_of_getElem? (i := 46) rfl) rfl), (mtp (List.mem_of_getElem? (i := 15) rfl) rfl)⟩
abbrev mX7_readAnd : MT := (yX7_readAnd, cX7_readAnd, 3, none)
theorem kX7_readAnd : CLV mX7_readAnd 1 := ⟨⟨(mt1 (List.mem_of_getElem? (i := 2) rfl) rfl), (mt4 (List.mem_of_getElem? (i := 51) rfl) rfl), ⟨by decide, by decide, by decide +kernel⟩, by decide⟩, (mt4 (List.mem_of_getElem? (i := 50) rfl) rfl), (mtp (List.mem_of_getElem? (i := 16) rfl) rfl)⟩
abbrev mX7_readNot : MT := (yX7_readNot, cX7_readNot, 4, none)
theorem kX7_readNot : CLV mX7_readNot 1 := ⟨⟨(mt1 (List.mem_of_getElem? (i := 2) rfl) rfl), (mt4 (List.mem_of_getElem? (i := 55) rfl) rfl), ⟨by decide, by decide, by decide +kernel⟩, by decide⟩, (mt4 (List.mem_of_getElem? (i := 54) rfl) rfl), (mtp (List.mem_of_getElem? (i := 17) rfl) rfl)⟩
abbrev mX7_readTest : MT := (yX7_readTest, cX7_readTest, 3, none)
theorem kX7_readTest : CLV mX7_readTest 1 := ⟨⟨(mt1 (List.mem_of_getElem? (i := 2) rfl) rfl), (mt4 (List.mem_of_getElem? (i := 60) rfl) rfl), ⟨by decide, by decide, by decide +kernel⟩, by decide⟩, (mt4 (List.mem_of_getElem? (i := 59) rfl) rfl), (mtp (List.mem_of_getElem? (i := 18) rfl) rfl)⟩
abbrev mX7_readSum : MT := (yX7_readSum, cX7_readSum, 4, none)
theorem kX7_readSum : CLV mX7_readSum 1 := ⟨⟨(mt1 (List.mem_of_getElem? (i := 2) rfl) rfl), (mt4 (List.mem_of_getElem? (i := 64) rfl) rfl), ⟨by decide, by decide, by decide +kernel⟩, by decide⟩, (mt4 (List.mem_of_getElem? (i := 63) rfl) rfl), (mtp (List.mem_of_getElem? (i := 19) rfl) rfl)⟩
abbrev mX7_readProduct : MT := (yX7_readProduct, cX7_readProduct, 4, none)
theorem kX7_readProduct : CLV mX7_readProduct 1 := ⟨⟨(mt1 (List.mem_of_getElem? (i := 2) rfl) rfl), (mt4 (List.mem_of_getElem? (i := 68) rfl) rfl), ⟨by decide, by decide, by decide +kernel⟩, by decide⟩, (mt4 (List.mem_of_getElem? (i := 67) rfl) rfl), (mtp (List.mem_of_getElem? (i := 20) rfl) rfl)⟩
abbrev mX7_readPart : MT := (yX7_readPart, cX7_readPart, 2, none)
theorem kX7_readPart : CLV mX7_readPart 1 := ⟨⟨(mt1 (List.mem_of_getElem? (i := 2) rfl) rfl), (mt4 (List.mem_of_getElem? (i := 72) rfl) rfl), ⟨by decide, by decide, by decide +kernel⟩, by decide⟩, (mt4 (List.mem_of_getElem? (i := 71) rfl) rfl), (mtp (List.mem_of_getElem? (i := 21) rfl) rfl)⟩
abbrev mX7_readValue : MT := (yX7_readValue, cX7_readValue, 2, none)
theorem kX7_readValue : CLV mX7_readValue 0 := ⟨⟨(mt1 (List.mem_of_getElem? (i := 2) rfl) rfl), (mt4 (List.mem_of_getElem? (i := 80) rfl) rfl), ⟨by decide, by decide, by decide +kernel⟩, by decide⟩, (mt4 (List.mem_of_getElem? (i := 79) rfl) rfl), (mtp (List.mem_of_getElem? (i := 22) rfl) rfl)⟩
abbrev mX7_valueSign : MT := (yX7_valueSign, cX7_valueSign, 1, (some .int))
theorem kX7_valueSign : CLV mX7_valueSign 0 := ⟨⟨(mt1 (List.mem_of_getElem? (i := 2) rfl) rfl), (mt4 (List.mem_of_getElem? (i := 84) rfl) rfl), ⟨by decide, by decide, by decide +kernel⟩, by decide⟩, (mt4 (List.mem_of_getElem? (i := 83) rfl) rfl), (mtp (List.mem_of_getElem? (i := 23) rfl) rfl)⟩
abbrev mX8_clear : MT := (yX8_clear, cX8_clear, 1, none)
theorem kX8_clear : CLV mX8_clear 0 := ⟨⟨(mt1 (List.mem_of_getElem? (i := 7) rfl) rfl), (mt3 (List.mem_of_getElem? (i := 164) rfl) rfl), ⟨by decide, by decide, by decide +kernel⟩, by decide⟩, (mt3 (List.mem_of_getElem? (i := 162) rfl) rfl), (mt3 (List.mem_of_getElem? (i := 163) rfl) rfl)⟩
abbrev mX8_add : MT := (yX8_add, cX8_add, 2, none)
theorem kX8_add : CLV mX8_add 1 := ⟨⟨(mt1 (List.mem_of_getElem? (i := 7) rfl) rfl), (mt4 (List.mem_of_getElem? (i := 76) rfl) rfl), ⟨by decide, by decide, by decide +kernel⟩, by decide⟩, (mt4 (List.mem_of_getElem? (i := 74) rfl) rfl), (mt4 (List.mem_of_getElem? (i := 75) rfl) rfl)⟩
abbrev mX8_value : MT := (yX8_value, cX8_value, 7, (some .int))
theorem kX8_value : CLV mX8_value 3 := ⟨⟨(mt1 (List.mem_of_getElem? (i := 7) rfl) rfl), (mt2 (List.mem_of_getElem? (i := 211) rfl) rfl), ⟨by decide, by decide, by decide +kernel⟩, by decide⟩, (mt2 (List.mem_of_getElem? (i := 209) rfl) rfl), (mt2 (List.mem_of_getElem? (i := 210) rfl) rfl)⟩
abbrev mX8_valueOf : MT := (yX8_valueOf, cX8_valueOf, 4, (some .int))
theorem kX8_valueOf : CLS mX8_valueOf 4 := ⟨⟨(mt1 (List.mem_of_getElem? (i := 7) rfl) rfl), (mt2 (List.mem_of_getElem? (i := 214) rfl) rfl), ⟨by decide, by decide, by decide +kernel⟩, by decide⟩, (mt2 (List.mem_of_getElem? (i := 213) rfl) rfl)⟩
abbrev mX8_joined : MT := (yX8_joined, cX8_joined, 3, (some .int))
theorem kX8_joined : CLS mX8_joined 3 := ⟨⟨(mt1 (List.mem_of_getElem? (i := 7) rfl) rfl), (mt2 (List.mem_of_getElem? (i := 217) rfl) rfl), ⟨by decide, by decide, by decide +kernel⟩, by decide⟩, (mt2 (List.mem_of_getElem? (i := 216) rfl) rfl)⟩
abbrev mX9_fitsAsItIs : MT := (yX9_fitsAsItIs, cX9_fitsAsItIs, 3, (some .boolean))
theorem kX9_fitsAsItIs : CLV mX9_fitsAsItIs 2 := ⟨⟨(mt1 (List.mem_of_getElem? (i := 13) rfl) rfl), (mt5 (List.mem_of_getElem? (i := 147) rfl) rfl), ⟨by decide, by decide, by decide +kernel⟩, by decide⟩, (mt5 (List.mem_of_getElem? (i := 145) rfl) rfl), (mt5 (List.mem_of_getElem? (i := 146) rfl) rfl)⟩
abbrev mX9_search : MT := (yX9_search, cX9_search, 7, none)
theorem kX9_search : CLV mX9_search 2 := ⟨⟨(mt1 (List.mem_of_getElem? (i := 13) rfl) rfl), (mt5 (List.mem_of_getElem? (i := 162) rfl) rfl), ⟨by decide, by decide, by decide +kernel⟩, by decide⟩, (mt5 (List.mem_of_getElem? (i := 160) rfl) rfl), (mt5 (List.mem_of_getElem? (i := 161) rfl) rfl)⟩
abbrev mX9_keepFound : MT := (yX9_keepFound, cX9_keepFound, 3, none)
theorem kX9_keepFound : CLV mX9_keepFound 2 := ⟨⟨(mt1 (List.mem_of_getElem? (i := 13) rfl) rfl), (mt5 (List.mem_of_getElem? (i := 171) rfl) rfl), ⟨by decide, by decide, by decide +kernel⟩, by decide⟩, (mt5 (List.mem_of_getElem? (i := 170) rfl) rfl), (mtp (List.mem_of_getElem? (i := 32) rfl) rfl)⟩
abbrev mX9_fits : MT := (yX9_fits, cX9_fits, 4, (some .boolean))
theorem kX9_fits : CLV mX9_fits 2 := ⟨⟨(mt1 (List.mem_of_getElem? (i := 13) rfl) rfl), (mt5 (List.mem_of_getElem? (i := 152) rfl) rfl), ⟨by decide, by decide, by decide +kernel⟩, by decide⟩, (mt5 (List.mem_of_getElem? (i := 151) rfl) rfl), (mtp (List.mem_of_getElem? (i := 31) rfl) rfl)⟩
abbrev mX9_keepSets : MT := (yX9_keepSets, cX9_keepSets, 3, none)
theorem kX9_keepSets : CLV mX9_keepSets 0 := ⟨⟨(mt1 (List.mem_of_getElem? (i := 13) rfl) rfl), (mt5 (List.mem_of_getElem? (i := 175) rfl) rfl), ⟨by decide, by decide, by decide +kernel⟩, by decide⟩, (mt5 (List.mem_of_getElem? (i := 174) rfl) rfl), (mtp (List.mem_of_getElem? (i := 33) rfl) rfl)⟩
abbrev mX9_unlikeIn : MT := (yX9_unlikeIn, cX9_unlikeIn, 5, (some .int))
theorem kX9_unlikeIn : CLV mX9_unlikeIn 1 := ⟨⟨(mt1 (List.mem_of_getElem? (i := 13) rfl) rfl), (mt5 (List.mem_of_getElem? (i := 186) rfl) rfl), ⟨by decide, by decide, by decide +kernel⟩, by decide⟩, (mt5 (List.mem_of_getElem? (i := 184) rfl) rfl), (mt5 (List.mem_of_getElem? (i := 185) rfl) rfl)⟩
abbrev mX10_append : MT := (yX10_append, cX10_append, 3, none)
theorem kX10_append : CLV mX10_append 1 := ⟨⟨(mt1 (List.mem_of_getElem? (i := 3) rfl) rfl), (mt2 (List.mem_of_getElem? (i := 159) rfl) rfl), ⟨by decide, by decide, by decide +kernel⟩, by decide⟩, (mt2 (List.mem_of_getElem? (i := 157) rfl) rfl), (mt2 (List.mem_of_getElem? (i := 158) rfl) rfl)⟩
abbrev mX10_begin : MT := (yX10_begin, cX10_begin, 2, none)
theorem kX10_begin : CLV mX10_begin 1 := ⟨⟨(mt1 (List.mem_of_getElem? (i := 3) rfl) rfl), (mt3 (List.mem_of_getElem? (i := 168) rfl) rfl), ⟨by decide, by decide, by decide +kernel⟩, by decide⟩, (mt3 (List.mem_of_getElem? (i := 166) rfl) rfl), (mt3 (List.mem_of_getElem? (i := 167) rfl) rfl)⟩
abbrev mX10_take : MT := (yX10_take, cX10_take, 1, none)
theorem kX10_take : CLV mX10_take 0 := ⟨⟨(mt1 (List.mem_of_getElem? (i := 3) rfl) rfl), (mt3 (List.mem_of_getElem? (i := 174) rfl) rfl), ⟨by decide, by decide, by decide +kernel⟩, by decide⟩, (mt3 (List.mem_of_getElem? (i := 172) rfl) rfl), (mt3 (List.mem_of_getElem? (i := 173) rfl) rfl)⟩
abbrev mX10_isTooLong : MT := (yX10_isTooLong, cX10_isTooLong, 1, (some .boolean))
theorem kX10_isTooLong : CLV mX10_isTooLong 0 := ⟨⟨(mt1 (List.mem_of_getElem? (i := 3) rfl) rfl), (mt4 (List.mem_of_getElem? (i := 13) rfl) rfl), ⟨by decide, by decide, by decide +kernel⟩, by decide⟩, (mt4 (List.mem_of_getElem? (i := 11) rfl) rfl), (mt4 (List.mem_of_getElem? (i := 12) rfl) rfl)⟩
abbrev mX10_isWord : MT := (yX10_isWord, cX10_isWord, 3, (some .boolean))
theorem kX10_isWord : CLV mX10_isWord 1 := ⟨⟨(mt1 (List.mem_of_getElem? (i := 3) rfl) rfl), (mt3 (List.mem_of_getElem? (i := 188) rfl) rfl), ⟨by decide, by decide, by decide +kernel⟩, by decide⟩, (mt3 (List.mem_of_getElem? (i := 186) rfl) rfl), (mt3 (List.mem_of_getElem? (i := 187) rfl) rfl)⟩
abbrev mX10_isSign : MT := (yX10_isSign, cX10_isSign, 2, (some .boolean))
theorem kX10_isSign : CLV mX10_isSign 1 := ⟨⟨(mt1 (List.mem_of_getElem? (i := 3) rfl) rfl), (mt4 (List.mem_of_getElem? (i := 21) rfl) rfl), ⟨by decide, by decide, by decide +kernel⟩, by decide⟩, (mt4 (List.mem_of_getElem? (i := 19) rfl) rfl), (mt4 (List.mem_of_getElem? (i := 20) rfl) rfl)⟩
abbrev mX10_isBlank : MT := (yX10_isBlank, cX10_isBlank, 1, (some .boolean))
theorem kX10_isBlank : CLS mX10_isBlank 1 := ⟨⟨(mt1 (List.mem_of_getElem? (i := 3) rfl) rfl), (mt3 (List.mem_of_getElem? (i := 177) rfl) rfl), ⟨by decide, by decide, by decide +kernel⟩, by decide⟩, (mt3 (List.mem_of_getElem? (i := 176) rfl) rfl)⟩
abbrev mX10_isLetter : MT := (yX10_isLetter, cX10_isLetter, 1, (some .boolean))
theorem kX10_isLetter : CLS mX10_isLetter 1 := ⟨⟨(mt1 (List.mem_of_getElem? (i := 3) rfl) rfl), (mt3 (List.mem_of_getElem? (i := 180) rfl) rfl), ⟨by decide, by decide, by decide +kernel⟩, by decide⟩, (mt3 (List.mem_of_getElem? (i := 179) rfl) rfl)⟩
abbrev mX10_isDigit : MT := (yX10_isDigit, cX10_isDigit, 1, (some .boolean))
theorem kX10_isDigit : CLS mX10_isDigit 1 := ⟨⟨(mt1 (List.mem_of_getElem? (i := 3) rfl) rfl), (mt3 (List.mem_of_getElem? (i := 183) rfl) rfl), ⟨by decide, by decide, by decide +kernel⟩, by decide⟩, (mt3 (List.mem_of_getElem? (i := 182) rfl) rfl)⟩
abbrev mX11_feed : MT := (yX11_feed, cX11_feed, 7, (some .int))
theorem kX11_feed : CLV mX11_feed 5 := ⟨⟨(mt1 (List.mem_of_getElem? (i := 1) rfl) rfl), (mt2 (List.mem_of_getElem? (i := 155) rfl) rfl), ⟨by decide, by decide, by decide +kernel⟩, by decide⟩, (mt2 (List.mem_of_getElem? (i := 153) rfl) rfl), (mt2 (List.mem_of_getElem? (i := 154) rfl) rfl)⟩
abbrev mX11_cave : MT := (yX11_cave, cX11_cave, 4, (some .int))
theorem kX11_cave : CLV mX11_cave 1 := ⟨⟨(mt1 (List.mem_of_getElem? (i := 1) rfl) rfl), (mt3 (List.mem_of_getElem? (i := 81) rfl) rfl), ⟨by decide, by decide, by decide +kernel⟩, by decide⟩, (mt3 (List.mem_of_getElem? (i := 79) rfl) rfl), (mt3 (List.mem_of_getElem? (i := 80) rfl) rfl)⟩
abbrev mX11_fault : MT := (yX11_fault, cX11_fault, 1, (some .int))
theorem kX11_fault : CLV mX11_fault 0 := ⟨⟨(mt1 (List.mem_of_getElem? (i := 1) rfl) rfl), (mt2 (List.mem_of_getElem? (i := 163) rfl) rfl), ⟨by decide, by decide, by decide +kernel⟩, by decide⟩, (mt2 (List.mem_of_getElem? (i := 161) rfl) rfl), (mt2 (List.mem_of_getElem? (i := 162) rfl) rfl)⟩
abbrev mX11_count : MT := (yX11_count, cX11_count, 2, (some .int))
theorem kX11_count : CLV mX11_count 1 := ⟨⟨(mt1 (List.mem_of_getElem? (i := 1) rfl) rfl), (mt4 (List.mem_of_getElem? (i := 104) rfl) rfl), ⟨by decide, by decide, by decide +kernel⟩, by decide⟩, (mt4 (List.mem_of_getElem? (i := 102) rfl) rfl), (mt4 (List.mem_of_getElem? (i := 103) rfl) rfl)⟩
abbrev mX11_cup : MT := (yX11_cup, cX11_cup, 4, (some .int))
theorem kX11_cup : CLV mX11_cup 2 := ⟨⟨(mt1 (List.mem_of_getElem? (i := 1) rfl) rfl), (mt4 (List.mem_of_getElem? (i := 153) rfl) rfl), ⟨by decide, by decide, by decide +kernel⟩, by decide⟩, (mt4 (List.mem_of_getElem? (i := 151) rfl) rfl), (mt4 (List.mem_of_getElem? (i := 152) rfl) rfl)⟩
abbrev mX11_hours : MT := (yX11_hours, cX11_hours, 2, (some .int))
theorem kX11_hours : CLV mX11_hours 1 := ⟨⟨(mt1 (List.mem_of_getElem? (i := 1) rfl) rfl), (mt2 (List.mem_of_getElem? (i := 167) rfl) rfl), ⟨by decide, by decide, by decide +kernel⟩, by decide⟩, (mt2 (List.mem_of_getElem? (i := 165) rfl) rfl), (mt2 (List.mem_of_getElem? (i := 166) rfl) rfl)⟩
abbrev mX11_lead : MT := (yX11_lead, cX11_lead, 3, (some .boolean))
theorem kX11_lead : CLV mX11_lead 2 := ⟨⟨(mt1 (List.mem_of_getElem? (i := 1) rfl) rfl), (mt4 (List.mem_of_getElem? (i := 175) rfl) rfl), ⟨by decide, by decide, by decide +kernel⟩, by decide⟩, (mt4 (List.mem_of_getElem? (i := 173) rfl) rfl), (mt4 (List.mem_of_getElem? (i := 174) rfl) rfl)⟩
abbrev mX11_plug : MT := (yX11_plug, cX11_plug, 3, (some .boolean))
theorem kX11_plug : CLV mX11_plug 2 := ⟨⟨(mt1 (List.mem_of_getElem? (i := 1) rfl) rfl), (mt4 (List.mem_of_getElem? (i := 190) rfl) rfl), ⟨by decide, by decide, by decide +kernel⟩, by decide⟩, (mt4 (List.mem_of_getElem? (i := 188) rfl) rfl), (mt4 (List.mem_of_getElem? (i := 189) rfl) rfl)⟩
abbrev mX11_pour : MT := (yX11_pour, cX11_pour, 3, (some .int))
theorem kX11_pour : CLV mX11_pour 2 := ⟨⟨(mt1 (List.mem_of_getElem? (i := 1) rfl) rfl), (mt4 (List.mem_of_getElem? (i := 201) rfl) rfl), ⟨by decide, by decide, by decide +kernel⟩, by decide⟩, (mt4 (List.mem_of_getElem? (i := 199) rfl) rfl), (mt4 (List.mem_of_getElem? (i := 200) rfl) rfl)⟩
abbrev mX11_crack : MT := (yX11_crack, cX11_crack, 4, (some .int))
theorem kX11_crack : CLV mX11_crack 2 := ⟨⟨(mt1 (List.mem_of_getElem? (i := 1) rfl) rfl), (mt4 (List.mem_of_getElem? (i := 212) rfl) rfl), ⟨by decide, by decide, by decide +kernel⟩, by decide⟩, (mt4 (List.mem_of_getElem? (i := 210) rfl) rfl), (mt4 (List.mem_of_getElem? (i := 211) rfl) rfl)⟩
abbrev mX11_undo : MT := (yX11_undo, cX11_undo, 1, (some .int))
theorem kX11_undo : CLV mX11_undo 0 := ⟨⟨(mt1 (List.mem_of_getElem? (i := 1) rfl) rfl), (mt3 (List.mem_of_getElem? (i := 18) rfl) rfl), ⟨by decide, by decide, by decide +kernel⟩, by decide⟩, (mt3 (List.mem_of_getElem? (i := 16) rfl) rfl), (mt3 (List.mem_of_getElem? (i := 17) rfl) rfl)⟩
abbrev mX11_then : MT := (yX11_then, cX11_then, 4, (some .int))
theorem kX11_then : CLV mX11_then 3 := ⟨⟨(mt1 (List.mem_of_getElem? (i := 1) rfl) rfl), (mt4 (List.mem_of_getElem? (i := 223) rfl) rfl), ⟨by decide, by decide, by decide +kernel⟩, by decide⟩, (mt4 (List.mem_of_getElem? (i := 221) rfl) rfl), (mt4 (List.mem_of_getElem? (i := 222) rfl) rfl)⟩
abbrev mX11_tipping : MT := (yX11_tipping, cX11_tipping, 2, (some .int))
theorem kX11_tipping : CLV mX11_tipping 1 := ⟨⟨(mt1 (List.mem_of_getElem? (i := 1) rfl) rfl), (mt4 (List.mem_of_getElem? (i := 230) rfl) rfl), ⟨by decide, by decide, by decide +kernel⟩, by decide⟩, (mt4 (List.mem_of_getElem? (i := 228) rfl) rfl), (mt4 (List.mem_of_getElem? (i := 229) rfl) rfl)⟩
abbrev mX11_next : MT := (yX11_next, cX11_next, 2, (some .int))
theorem kX11_next : CLV mX11_next 1 := ⟨⟨(mt1 (List.mem_of_getElem? (i := 1) rfl) rfl), (mt4 (List.mem_of_getElem? (i := 237) rfl) rfl), ⟨by decide, by decide, by decide +kernel⟩, by decide⟩, (mt4 (List.mem_of_getElem? (i := 235) rfl) rfl), (mt4 (List.mem_of_getElem? (i := 236) rfl) rfl)⟩
abbrev mX11_together : MT := (yX11_together, cX11_together, 2, (some .int))
theorem kX11_together : CLV mX11_together 1 := ⟨⟨(mt1 (List.mem_of_getElem? (i := 1) rfl) rfl), (mt5 (List.mem_of_getElem? (i := 8) rfl) rfl), ⟨by decide, by decide, by decide +kernel⟩, by decide⟩, (mt5 (List.mem_of_getElem? (i := 6) rfl) rfl), (mt5 (List.mem_of_getElem? (i := 7) rfl) rfl)⟩
abbrev mX11_sound : MT := (yX11_sound, cX11_sound, 3, (some .int))
theorem kX11_sound : CLV mX11_sound 2 := ⟨⟨(mt1 (List.mem_of_getElem? (i := 1) rfl) rfl), (mt5 (List.mem_of_getElem? (i := 20) rfl) rfl), ⟨by decide, by decide, by decide +kernel⟩, by decide⟩, (mt5 (List.mem_of_getElem? (i := 18) rfl) rfl), (mt5 (List.mem_of_getElem? (i := 19) rfl) rfl)⟩
abbrev mX11_fallen : MT := (yX11_fallen, cX11_fallen, 3, (some .int))
theorem kX11_fallen : CLV mX11_fallen 2 := ⟨⟨(mt1 (List.mem_of_getElem? (i := 1) rfl) rfl), (mt5 (List.mem_of_getElem? (i := 42) rfl) rfl), ⟨by decide, by decide, by decide +kernel⟩, by decide⟩, (mt5 (List.mem_of_getElem? (i := 40) rfl) rfl), (mt5 (List.mem_of_getElem? (i := 41) rfl) rfl)⟩
abbrev mX11_nth : MT := (yX11_nth, cX11_nth, 6, (some .int))
theorem kX11_nth : CLV mX11_nth 2 := ⟨⟨(mt1 (List.mem_of_getElem? (i := 1) rfl) rfl), (mt5 (List.mem_of_getElem? (i := 62) rfl) rfl), ⟨by decide, by decide, by decide +kernel⟩, by decide⟩, (mt5 (List.mem_of_getElem? (i := 60) rfl) rfl), (mt5 (List.mem_of_getElem? (i := 61) rfl) rfl)⟩
abbrev mX11_meeting : MT := (yX11_meeting, cX11_meeting, 3, (some .int))
theorem kX11_meeting : CLV mX11_meeting 1 := ⟨⟨(mt1 (List.mem_of_getElem? (i := 1) rfl) rfl), (mt5 (List.mem_of_getElem? (i := 71) rfl) rfl), ⟨by decide, by decide, by decide +kernel⟩, by decide⟩, (mt5 (List.mem_of_getElem? (i := 69) rfl) rfl), (mt5 (List.mem_of_getElem? (i := 70) rfl) rfl)⟩
abbrev mX11_flow : MT := (yX11_flow, cX11_flow, 3, (some .int))
theorem kX11_flow : CLV mX11_flow 2 := ⟨⟨(mt1 (List.mem_of_getElem? (i := 1) rfl) rfl), (mt5 (List.mem_of_getElem? (i := 88) rfl) rfl), ⟨by decide, by decide, by decide +kernel⟩, by decide⟩, (mt5 (List.mem_of_getElem? (i := 86) rfl) rfl), (mt5 (List.mem_of_getElem? (i := 87) rfl) rfl)⟩
abbrev mX11_tier : MT := (yX11_tier, cX11_tier, 3, (some .int))
theorem kX11_tier : CLV mX11_tier 2 := ⟨⟨(mt1 (List.mem_of_getElem? (i := 1) rfl) rfl), (mt5 (List.mem_of_getElem? (i := 95) rfl) rfl), ⟨by decide, by decide, by decide +kernel⟩, by decide⟩, (mt5 (List.mem_of_getElem? (i := 93) rfl) rfl), (mt5 (List.mem_of_getElem? (i := 94) rfl) rfl)⟩
abbrev mX11_toCrack : MT := (yX11_toCrack, cX11_toCrack, 9, (some .int))
theorem kX11_toCrack : CLV mX11_toCrack 4 := ⟨⟨(mt1 (List.mem_of_getElem? (i := 1) rfl) rfl), (mt5 (List.mem_of_getElem? (i := 110) rfl) rfl), ⟨by decide, by decide, by decide +kernel⟩, by decide⟩, (mt5 (List.mem_of_getElem? (i := 108) rfl) rfl), (mt5 (List.mem_of_getElem? (i := 109) rfl) rfl)⟩
abbrev mX11_office : MT := (yX11_office, cX11_office, 7, (some .int))
theorem kX11_office : CLV mX11_office 2 := ⟨⟨(mt1 (List.mem_of_getElem? (i := 1) rfl) rfl), (mt5 (List.mem_of_getElem? (i := 121) rfl) rfl), ⟨by decide, by decide, by decide +kernel⟩, by decide⟩, (mt5 (List.mem_of_getElem? (i := 119) rfl) rfl), (mt5 (List.mem_of_getElem? (i := 120) rfl) rfl)⟩
abbrev mX11_hear : MT := (yX11_hear, cX11_hear, 4, (some .int))
theorem kX11_hear : CLV mX11_hear 3 := ⟨⟨(mt1 (List.mem_of_getElem? (i := 1) rfl) rfl), (mt5 (List.mem_of_getElem? (i := 132) rfl) rfl), ⟨by decide, by decide, by decide +kernel⟩, by decide⟩, (mt5 (List.mem_of_getElem? (i := 130) rfl) rfl), (mt5 (List.mem_of_getElem? (i := 131) rfl) rfl)⟩
abbrev mX11_forget : MT := (yX11_forget, cX11_forget, 1, none)
theorem kX11_forget : CLV mX11_forget 0 := ⟨⟨(mt1 (List.mem_of_getElem? (i := 1) rfl) rfl), (mt3 (List.mem_of_getElem? (i := 30) rfl) rfl), ⟨by decide, by decide, by decide +kernel⟩, by decide⟩, (mt3 (List.mem_of_getElem? (i := 28) rfl) rfl), (mt3 (List.mem_of_getElem? (i := 29) rfl) rfl)⟩
abbrev mX11_led : MT := (yX11_led, cX11_led, 2, (some .int))
theorem kX11_led : CLV mX11_led 1 := ⟨⟨(mt1 (List.mem_of_getElem? (i := 1) rfl) rfl), (mt5 (List.mem_of_getElem? (i := 143) rfl) rfl), ⟨by decide, by decide, by decide +kernel⟩, by decide⟩, (mt5 (List.mem_of_getElem? (i := 141) rfl) rfl), (mt5 (List.mem_of_getElem? (i := 142) rfl) rfl)⟩
abbrev mX11_listen : MT := (yX11_listen, cX11_listen, 6, (some .int))
theorem kX11_listen : CLV mX11_listen 1 := ⟨⟨(mt1 (List.mem_of_getElem? (i := 1) rfl) rfl), (mt5 (List.mem_of_getElem? (i := 182) rfl) rfl), ⟨by decide, by decide, by decide +kernel⟩, by decide⟩, (mt5 (List.mem_of_getElem? (i := 180) rfl) rfl), (mt5 (List.mem_of_getElem? (i := 181) rfl) rfl)⟩
abbrev mX11_cold : MT := (yX11_cold, cX11_cold, 9, (some .int))
theorem kX11_cold : CLV mX11_cold 3 := ⟨⟨(mt1 (List.mem_of_getElem? (i := 1) rfl) rfl), (mt5 (List.mem_of_getElem? (i := 199) rfl) rfl), ⟨by decide, by decide, by decide +kernel⟩, by decide⟩, (mt5 (List.mem_of_getElem? (i := 197) rfl) rfl), (mt5 (List.mem_of_getElem? (i := 198) rfl) rfl)⟩
abbrev mX11_game : MT := (yX11_game, cX11_game, 7, (some .int))
theorem kX11_game : CLV mX11_game 3 := ⟨⟨(mt1 (List.mem_of_getElem? (i := 1) rfl) rfl), (mt5 (List.mem_of_getElem? (i := 207) rfl) rfl), ⟨by decide, by decide, by decide +kernel⟩, by decide⟩, (mt5 (List.mem_of_getElem? (i := 205) rfl) rfl), (mt5 (List.mem_of_getElem? (i := 206) rfl) rfl)⟩
abbrev mX11_years : MT := (yX11_years, cX11_years, 5, (some .int))
theorem kX11_years : CLV mX11_years 3 := ⟨⟨(mt1 (List.mem_of_getElem? (i := 1) rfl) rfl), (mt5 (List.mem_of_getElem? (i := 219) rfl) rfl), ⟨by decide, by decide, by decide +kernel⟩, by decide⟩, (mt5 (List.mem_of_getElem? (i := 217) rfl) rfl), (mt5 (List.mem_of_getElem? (i := 218) rfl) rfl)⟩
abbrev mX11_later : MT := (yX11_later, cX11_later, 3, (some .int))
theorem kX11_later : CLV mX11_later 2 := ⟨⟨(mt1 (List.mem_of_getElem? (i := 1) rfl) rfl), (mt6 (List.mem_of_getElem? (i := 3) rfl) rfl), ⟨by decide, by decide, by decide +kernel⟩, by decide⟩, (mt6 (List.mem_of_getElem? (i := 1) rfl) rfl), (mt6 (List.mem_of_getElem? (i := 2) rfl) rfl)⟩
abbrev mX11_oftenest : MT := (yX11_oftenest, cX11_oftenest, 2, (some .int))
theorem kX11_oftenest : CLV mX11_oftenest 1 := ⟨⟨(mt1 (List.mem_of_getElem? (i := 1) rfl) rfl), (mt6 (List.mem_of_getElem? (i := 18) rfl) rfl), ⟨by decide, by decide, by decide +kernel⟩, by decide⟩, (mt6 (List.mem_of_getElem? (i := 16) rfl) rfl), (mt6 (List.mem_of_getElem? (i := 17) rfl) rfl)⟩
abbrev mX11_round : MT := (yX11_round, cX11_round, 2, (some .int))
theorem kX11_round : CLV mX11_round 0 := ⟨⟨(mt1 (List.mem_of_getElem? (i := 1) rfl) rfl), (mt3 (List.mem_of_getElem? (i := 34) rfl) rfl), ⟨by decide, by decide, by decide +kernel⟩, by decide⟩, (mt3 (List.mem_of_getElem? (i := 32) rfl) rfl), (mt3 (List.mem_of_getElem? (i := 33) rfl) rfl)⟩
abbrev mX11_pause : MT := (yX11_pause, cX11_pause, 4, (some .int))
theorem kX11_pause : CLV mX11_pause 1 := ⟨⟨(mt1 (List.mem_of_getElem? (i := 1) rfl) rfl), (mt6 (List.mem_of_getElem? (i := 25) rfl) rfl), ⟨by decide, by decide, by decide +kernel⟩, by decide⟩, (mt6 (List.mem_of_getElem? (i := 23) rfl) rfl), (mt6 (List.mem_of_getElem? (i := 24) rfl) rfl)⟩
abbrev mX11_giver : MT := (yX11_giver, cX11_giver, 7, (some .int))
theorem kX11_giver : CLV mX11_giver 2 := ⟨⟨(mt1 (List.mem_of_getElem? (i := 1) rfl) rfl), (mt6 (List.mem_of_getElem? (i := 32) rfl) rfl), ⟨by decide, by decide, by decide +kernel⟩, by decide⟩, (mt6 (List.mem_of_getElem? (i := 30) rfl) rfl), (mt6 (List.mem_of_getElem? (i := 31) rfl) rfl)⟩
abbrev mX11_toPour : MT := (yX11_toPour, cX11_toPour, 4, (some .int))
theorem kX11_toPour : CLV mX11_toPour 2 := ⟨⟨(mt1 (List.mem_of_getElem? (i := 1) rfl) rfl), (mt6 (List.mem_of_getElem? (i := 45) rfl) rfl), ⟨by decide, by decide, by decide +kernel⟩, by decide⟩, (mt6 (List.mem_of_getElem? (i := 43) rfl) rfl), (mt6 (List.mem_of_getElem? (i := 44) rfl) rfl)⟩
abbrev mX11_ways : MT := (yX11_ways, cX11_ways, 3, (some .int))
theorem kX11_ways : CLV mX11_ways 2 := ⟨⟨(mt1 (List.mem_of_getElem? (i := 1) rfl) rfl), (mt6 (List.mem_of_getElem? (i := 52) rfl) rfl), ⟨by decide, by decide, by decide +kernel⟩, by decide⟩, (mt6 (List.mem_of_getElem? (i := 50) rfl) rfl), (mt6 (List.mem_of_getElem? (i := 51) rfl) rfl)⟩
abbrev mX11_chorus : MT := (yX11_chorus, cX11_chorus, 5, (some .int))
theorem kX11_chorus : CLV mX11_chorus 2 := ⟨⟨(mt1 (List.mem_of_getElem? (i := 1) rfl) rfl), (mt6 (List.mem_of_getElem? (i := 63) rfl) rfl), ⟨by decide, by decide, by decide +kernel⟩, by decide⟩, (mt6 (List.mem_of_getElem? (i := 61) rfl) rfl), (mt6 (List.mem_of_getElem? (i := 62) rfl) rfl)⟩
abbrev mX11_never : MT := (yX11_never, cX11_never, 2, (some .int))
theorem kX11_never : CLV mX11_never 1 := ⟨⟨(mt1 (List.mem_of_getElem? (i := 1) rfl) rfl), (mt6 (List.mem_of_getElem? (i := 70) rfl) rfl), ⟨by decide, by decide, by decide +kernel⟩, by decide⟩, (mt6 (List.mem_of_getElem? (i := 68) rfl) rfl), (mt6 (List.mem_of_getElem? (i := 69) rfl) rfl)⟩
abbrev mX11_swell : MT := (yX11_swell, cX11_swell, 5, (some .int))
theorem kX11_swell : CLV mX11_swell 2 := ⟨⟨(mt1 (List.mem_of_getElem? (i := 1) rfl) rfl), (mt6 (List.mem_of_getElem? (i := 77) rfl) rfl), ⟨by decide, by decide, by decide +kernel⟩, by decide⟩, (mt6 (List.mem_of_getElem? (i := 75) rfl) rfl), (mt6 (List.mem_of_getElem? (i := 76) rfl) rfl)⟩
abbrev mX11_image : MT := (yX11_image, cX11_image, 1, none)
theorem kX11_image : CLV mX11_image 0 := ⟨⟨(mt1 (List.mem_of_getElem? (i := 1) rfl) rfl), (mt3 (List.mem_of_getElem? (i := 55) rfl) rfl), ⟨by decide, by decide, by decide +kernel⟩, by decide⟩, (mt3 (List.mem_of_getElem? (i := 53) rfl) rfl), (mt3 (List.mem_of_getElem? (i := 54) rfl) rfl)⟩
abbrev mX11_restore : MT := (yX11_restore, cX11_restore, 1, (some .boolean))
theorem kX11_restore : CLV mX11_restore 0 := ⟨⟨(mt1 (List.mem_of_getElem? (i := 1) rfl) rfl), (mt3 (List.mem_of_getElem? (i := 73) rfl) rfl), ⟨by decide, by decide, by decide +kernel⟩, by decide⟩, (mt3 (List.mem_of_getElem? (i := 71) rfl) rfl), (mt3 (List.mem_of_getElem? (i := 72) rfl) rfl)⟩
abbrev mX11_needCup : MT := (yX11_needCup, cX11_needCup, 2, none)
theorem kX11_needCup : CLV mX11_needCup 1 := ⟨⟨(mt1 (List.mem_of_getElem? (i := 1) rfl) rfl), (mt4 (List.mem_of_getElem? (i := 157) rfl) rfl), ⟨by decide, by decide, by decide +kernel⟩, by decide⟩, (mt4 (List.mem_of_getElem? (i := 156) rfl) rfl), (mtp (List.mem_of_getElem? (i := 25) rfl) rfl)⟩
abbrev mX11_needWhat : MT := (yX11_needWhat, cX11_needWhat, 2, none)
theorem kX11_needWhat : CLS mX11_needWhat 2 := ⟨⟨(mt1 (List.mem_of_getElem? (i := 1) rfl) rfl), (mt4 (List.mem_of_getElem? (i := 107) rfl) rfl), ⟨by decide, by decide, by decide +kernel⟩, by decide⟩, (mt4 (List.mem_of_getElem? (i := 106) rfl) rfl)⟩
abbrev mX11_needRange : MT := (yX11_needRange, cX11_needRange, 3, none)
theorem kX11_needRange : CLS mX11_needRange 3 := ⟨⟨(mt1 (List.mem_of_getElem? (i := 1) rfl) rfl), (mt3 (List.mem_of_getElem? (i := 84) rfl) rfl), ⟨by decide, by decide, by decide +kernel⟩, by decide⟩, (mt3 (List.mem_of_getElem? (i := 83) rfl) rfl)⟩
abbrev mX11_needCups : MT := (yX11_needCups, cX11_needCups, 2, none)
theorem kX11_needCups : CLV mX11_needCups 1 := ⟨⟨(mt1 (List.mem_of_getElem? (i := 1) rfl) rfl), (mt5 (List.mem_of_getElem? (i := 12) rfl) rfl), ⟨by decide, by decide, by decide +kernel⟩, by decide⟩, (mt5 (List.mem_of_getElem? (i := 11) rfl) rfl), (mtp (List.mem_of_getElem? (i := 27) rfl) rfl)⟩
abbrev mX11_refuseAct : MT := (yX11_refuseAct, cX11_refuseAct, 1, (some .int))
theorem kX11_refuseAct : CLV mX11_refuseAct 0 := ⟨⟨(mt1 (List.mem_of_getElem? (i := 1) rfl) rfl), (mt2 (List.mem_of_getElem? (i := 171) rfl) rfl), ⟨by decide, by decide, by decide +kernel⟩, by decide⟩, (mt2 (List.mem_of_getElem? (i := 170) rfl) rfl), (mtp (List.mem_of_getElem? (i := 0) rfl) rfl)⟩
abbrev mX11_lookAhead : MT := (yX11_lookAhead, cX11_lookAhead, 2, none)
theorem kX11_lookAhead : CLV mX11_lookAhead 1 := ⟨⟨(mt1 (List.mem_of_getElem? (i := 1) rfl) rfl), (mt3 (List.mem_of_getElem? (i := 38) rfl) rfl), ⟨by decide, by decide, by decide +kernel⟩, by decide⟩, (mt3 (List.mem_of_getElem? (i := 37) rfl) rfl), (mtp (List.mem_of_getElem? (i := 5) rfl) rfl)⟩
abbrev mX11_alikeCouples : MT := (yX11_alikeCouples, cX11_alikeCouples, 6, (some .int))
theorem kX11_alikeCouples : CLV mX11_alikeCouples 0 := ⟨⟨(mt1 (List.mem_of_getElem? (i := 1) rfl) rfl), (mt4 (List.mem_of_getElem? (i := 146) rfl) rfl), ⟨by decide, by decide, by decide +kernel⟩, by decide⟩, (mt4 (List.mem_of_getElem? (i := 145) rfl) rfl), (mtp (List.mem_of_getElem? (i := 24) rfl) rfl)⟩
abbrev mX11_firstHourOfAll : MT := (yX11_firstHourOfAll, cX11_firstHourOfAll, 3, (some .int))
theorem kX11_firstHourOfAll : CLV mX11_firstHourOfAll 1 := ⟨⟨(mt1 (List.mem_of_getElem? (i := 1) rfl) rfl), (mt5 (List.mem_of_getElem? (i := 1) rfl) rfl), ⟨by decide, by decide, by decide +kernel⟩, by decide⟩, (mt5 (List.mem_of_getElem? (i := 0) rfl) rfl), (mtp (List.mem_of_getElem? (i := 26) rfl) rfl)⟩
abbrev mX11_longestSilence : MT := (yX11_longestSilence, cX11_longestSilence, 5, (some .int))
theorem kX11_longestSilence : CLV mX11_longestSilence 1 := ⟨⟨(mt1 (List.mem_of_getElem? (i := 1) rfl) rfl), (mt5 (List.mem_of_getElem? (i := 24) rfl) rfl), ⟨by decide, by decide, by decide +kernel⟩, by decide⟩, (mt5 (List.mem_of_getElem? (i := 23) rfl) rfl), (mtp (List.mem_of_getElem? (i := 28) rfl) rfl)⟩
abbrev mX11_loudestHour : MT := (yX11_loudestHour, cX11_loudestHour, 6, (some .int))
theorem kX11_loudestHour : CLV mX11_loudestHour 1 := ⟨⟨(mt1 (List.mem_of_getElem? (i := 1) rfl) rfl), (mt5 (List.mem_of_getElem? (i := 29) rfl) rfl), ⟨by decide, by decide, by decide +kernel⟩, by decide⟩, (mt5 (List.mem_of_getElem? (i := 28) rfl) rfl), (mtp (List.mem_of_getElem? (i := 29) rfl) rfl)⟩
abbrev mX11_playAll : MT := (yX11_playAll, cX11_playAll, 7, none)
theorem kX11_playAll : CLV mX11_playAll 2 := ⟨⟨(mt1 (List.mem_of_getElem? (i := 1) rfl) rfl), (mt5 (List.mem_of_getElem? (i := 212) rfl) rfl), ⟨by decide, by decide, by decide +kernel⟩, by decide⟩, (mt5 (List.mem_of_getElem? (i := 211) rfl) rfl), (mtp (List.mem_of_getElem? (i := 34) rfl) rfl)⟩
abbrev mX11_draw : MT := (yX11_draw, cX11_draw, 2, (some .int))
theorem kX11_draw : CLV mX11_draw 1 := ⟨⟨(mt1 (List.mem_of_getElem? (i := 1) rfl) rfl), (mt5 (List.mem_of_getElem? (i := 227) rfl) rfl), ⟨by decide, by decide, by decide +kernel⟩, by decide⟩, (mt5 (List.mem_of_getElem? (i := 226) rfl) rfl), (mtp (List.mem_of_getElem? (i := 36) rfl) rfl)⟩
abbrev mX11_drawAct : MT := (yX11_drawAct, cX11_drawAct, 4, none)
theorem kX11_drawAct : CLV mX11_drawAct 0 := ⟨⟨(mt1 (List.mem_of_getElem? (i := 1) rfl) rfl), (mt5 (List.mem_of_getElem? (i := 223) rfl) rfl), ⟨by decide, by decide, by decide +kernel⟩, by decide⟩, (mt5 (List.mem_of_getElem? (i := 222) rfl) rfl), (mtp (List.mem_of_getElem? (i := 35) rfl) rfl)⟩
abbrev mX11_mostOf : MT := (yX11_mostOf, cX11_mostOf, 4, (some .int))
theorem kX11_mostOf : CLV mX11_mostOf 1 := ⟨⟨(mt1 (List.mem_of_getElem? (i := 1) rfl) rfl), (mt6 (List.mem_of_getElem? (i := 7) rfl) rfl), ⟨by decide, by decide, by decide +kernel⟩, by decide⟩, (mt6 (List.mem_of_getElem? (i := 6) rfl) rfl), (mtp (List.mem_of_getElem? (i := 37) rfl) rfl)⟩
abbrev mX11_dryCups : MT := (yX11_dryCups, cX11_dryCups, 4, (some .int))
theorem kX11_dryCups : CLV mX11_dryCups 1 := ⟨⟨(mt1 (List.mem_of_getElem? (i := 1) rfl) rfl), (mt6 (List.mem_of_getElem? (i := 11) rfl) rfl), ⟨by decide, by decide, by decide +kernel⟩, by decide⟩, (mt6 (List.mem_of_getElem? (i := 10) rfl) rfl), (mtp (List.mem_of_getElem? (i := 38) rfl) rfl)⟩
abbrev mX11_leastOf : MT := (yX11_leastOf, cX11_leastOf, 2, (some .int))
theorem kX11_leastOf : CLS mX11_leastOf 1 := ⟨⟨(mt1 (List.mem_of_getElem? (i := 1) rfl) rfl), (mt5 (List.mem_of_getElem? (i := 124) rfl) rfl), ⟨by decide, by decide, by decide +kernel⟩, by decide⟩, (mt5 (List.mem_of_getElem? (i := 123) rfl) rfl)⟩
abbrev mX11_has : MT := (yX11_has, cX11_has, 2, (some .boolean))
theorem kX11_has : CLS mX11_has 2 := ⟨⟨(mt1 (List.mem_of_getElem? (i := 1) rfl) rfl), (mt2 (List.mem_of_getElem? (i := 207) rfl) rfl), ⟨by decide, by decide, by decide +kernel⟩, by decide⟩, (mt2 (List.mem_of_getElem? (i := 206) rfl) rfl)⟩
abbrev mX11_bitOf : MT := (yX11_bitOf, cX11_bitOf, 1, (some .int))
theorem kX11_bitOf : CLS mX11_bitOf 1 := ⟨⟨(mt1 (List.mem_of_getElem? (i := 1) rfl) rfl), (mt2 (List.mem_of_getElem? (i := 227) rfl) rfl), ⟨by decide, by decide, by decide +kernel⟩, by decide⟩, (mt2 (List.mem_of_getElem? (i := 226) rfl) rfl)⟩
abbrev mX12_thrown : MT := (yX12_thrown, cX12_thrown, 1, (some .int))
theorem kX12_thrown : CLV mX12_thrown 0 := ⟨⟨(mt1 (List.mem_of_getElem? (i := 14) rfl) rfl), (mt7 (List.mem_of_getElem? (i := 29) rfl) rfl), ⟨by decide, by decide, by decide +kernel⟩, by decide⟩, (mt7 (List.mem_of_getElem? (i := 27) rfl) rfl), (mt7 (List.mem_of_getElem? (i := 28) rfl) rfl)⟩
abbrev mX12_right : MT := (yX12_right, cX12_right, 3, (some .boolean))
theorem kX12_right : CLV mX12_right 2 := ⟨⟨(mt1 (List.mem_of_getElem? (i := 14) rfl) rfl), (mt7 (List.mem_of_getElem? (i := 45) rfl) rfl), ⟨by decide, by decide, by decide +kernel⟩, by decide⟩, (mt7 (List.mem_of_getElem? (i := 44) rfl) rfl), (mtp (List.mem_of_getElem? (i := 40) rfl) rfl)⟩
abbrev mX12_within : MT := (yX12_within, cX12_within, 3, (some .boolean))
theorem kX12_within : CLS mX12_within 3 := ⟨⟨(mt1 (List.mem_of_getElem? (i := 14) rfl) rfl), (mt7 (List.mem_of_getElem? (i := 171) rfl) rfl), ⟨by decide, by decide, by decide +kernel⟩, by decide⟩, (mt7 (List.mem_of_getElem? (i := 170) rfl) rfl)⟩
abbrev mX12_bounded : MT := (yX12_bounded, cX12_bounded, 3, (some .int))
theorem kX12_bounded : CLS mX12_bounded 3 := ⟨⟨(mt1 (List.mem_of_getElem? (i := 14) rfl) rfl), (mt8 (List.mem_of_getElem? (i := 28) rfl) rfl), ⟨by decide, by decide, by decide +kernel⟩, by decide⟩, (mt8 (List.mem_of_getElem? (i := 27) rfl) rfl)⟩
abbrev mX12_lesser : MT := (yX12_lesser, cX12_lesser, 2, (some .int))
theorem kX12_lesser : CLS mX12_lesser 2 := ⟨⟨(mt1 (List.mem_of_getElem? (i := 14) rfl) rfl), (mt7 (List.mem_of_getElem? (i := 183) rfl) rfl), ⟨by decide, by decide, by decide +kernel⟩, by decide⟩, (mt7 (List.mem_of_getElem? (i := 182) rfl) rfl)⟩
abbrev mX12_greater : MT := (yX12_greater, cX12_greater, 2, (some .int))
theorem kX12_greater : CLS mX12_greater 2 := ⟨⟨(mt1 (List.mem_of_getElem? (i := 14) rfl) rfl), (mt7 (List.mem_of_getElem? (i := 222) rfl) rfl), ⟨by decide, by decide, by decide +kernel⟩, by decide⟩, (mt7 (List.mem_of_getElem? (i := 221) rfl) rfl)⟩
abbrev mX12_copies : MT := (yX12_copies, cX12_copies, 4, none)
theorem kX12_copies : CLV mX12_copies 2 := ⟨⟨(mt1 (List.mem_of_getElem? (i := 14) rfl) rfl), (mt7 (List.mem_of_getElem? (i := 156) rfl) rfl), ⟨by decide, by decide, by decide +kernel⟩, by decide⟩, (mt7 (List.mem_of_getElem? (i := 155) rfl) rfl), (mtp (List.mem_of_getElem? (i := 63) rfl) rfl)⟩
abbrev mX12_bits : MT := (yX12_bits, cX12_bits, 3, (some .int))
theorem kX12_bits : CLS mX12_bits 1 := ⟨⟨(mt1 (List.mem_of_getElem? (i := 14) rfl) rfl), (mt8 (List.mem_of_getElem? (i := 103) rfl) rfl), ⟨by decide, by decide, by decide +kernel⟩, by decide⟩, (mt8 (List.mem_of_getElem? (i := 102) rfl) rfl)⟩
abbrev mX12_feed : MT := (yX12_feed, cX12_feed, 6, (some .int))
theorem kX12_feed : CLV mX12_feed 5 := ⟨⟨(mt1 (List.mem_of_getElem? (i := 14) rfl) rfl), (mt7 (List.mem_of_getElem? (i := 33) rfl) rfl), ⟨by decide, by decide, by decide +kernel⟩, by decide⟩, (mt7 (List.mem_of_getElem? (i := 31) rfl) rfl), (mt7 (List.mem_of_getElem? (i := 32) rfl) rfl)⟩
abbrev mX12_lays : MT := (yX12_lays, cX12_lays, 3, none)
theorem kX12_lays : CLV mX12_lays 1 := ⟨⟨(mt1 (List.mem_of_getElem? (i := 14) rfl) rfl), (mt7 (List.mem_of_getElem? (i := 37) rfl) rfl), ⟨by decide, by decide, by decide +kernel⟩, by decide⟩, (mt7 (List.mem_of_getElem? (i := 36) rfl) rfl), (mtp (List.mem_of_getElem? (i := 39) rfl) rfl)⟩
abbrev mX12_byteAt : MT := (yX12_byteAt, cX12_byteAt, 2, (some .int))
theorem kX12_byteAt : CLV mX12_byteAt 1 := ⟨⟨(mt1 (List.mem_of_getElem? (i := 14) rfl) rfl), (mt7 (List.mem_of_getElem? (i := 53) rfl) rfl), ⟨by decide, by decide, by decide +kernel⟩, by decide⟩, (mt7 (List.mem_of_getElem? (i := 52) rfl) rfl), (mtp (List.mem_of_getElem? (i := 42) rfl) rfl)⟩
abbrev mX12_isLetter : MT := (yX12_isLetter, cX12_isLetter, 1, (some .boolean))
theorem kX12_isLetter : CLS mX12_isLetter 1 := ⟨⟨(mt1 (List.mem_of_getElem? (i := 14) rfl) rfl), (mt7 (List.mem_of_getElem? (i := 56) rfl) rfl), ⟨by decide, by decide, by decide +kernel⟩, by decide⟩, (mt7 (List.mem_of_getElem? (i := 55) rfl) rfl)⟩
abbrev mX12_isDigit : MT := (yX12_isDigit, cX12_isDigit, 1, (some .boolean))
theorem kX12_isDigit : CLS mX12_isDigit 1 := ⟨⟨(mt1 (List.mem_of_getElem? (i := 14) rfl) rfl), (mt7 (List.mem_of_getElem? (i := 59) rfl) rfl), ⟨by decide, by decide, by decide +kernel⟩, by decide⟩, (mt7 (List.mem_of_getElem? (i := 58) rfl) rfl)⟩
abbrev mX12_goes : MT := (yX12_goes, cX12_goes, 2, none)
theorem kX12_goes : CLV mX12_goes 0 := ⟨⟨(mt1 (List.mem_of_getElem? (i := 14) rfl) rfl), (mt7 (List.mem_of_getElem? (i := 49) rfl) rfl), ⟨by decide, by decide, by decide +kernel⟩, by decide⟩, (mt7 (List.mem_of_getElem? (i := 48) rfl) rfl), (mtp (List.mem_of_getElem? (i := 41) rfl) rfl)⟩
abbrev mX12_spelled : MT := (yX12_spelled, cX12_spelled, 8, (some .long))
theorem kX12_spelled : CLS mX12_spelled 6 := ⟨⟨(mt1 (List.mem_of_getElem? (i := 14) rfl) rfl), (mt7 (List.mem_of_getElem? (i := 77) rfl) rfl), ⟨by decide, by decide, by decide +kernel⟩, by decide⟩, (mt7 (List.mem_of_getElem? (i := 76) rfl) rfl)⟩
abbrev mX12_letters : MT := (yX12_letters, cX12_letters, 1, (some .long))
theorem kX12_letters : CLS mX12_letters 1 := ⟨⟨(mt1 (List.mem_of_getElem? (i := 14) rfl) rfl), (mt7 (List.mem_of_getElem? (i := 74) rfl) rfl), ⟨by decide, by decide, by decide +kernel⟩, by decide⟩, (mt7 (List.mem_of_getElem? (i := 73) rfl) rfl)⟩
abbrev mX12_knownWord : MT := (yX12_knownWord, cX12_knownWord, 2, (some .int))
theorem kX12_knownWord : CLV mX12_knownWord 0 := ⟨⟨(mt1 (List.mem_of_getElem? (i := 14) rfl) rfl), (mt7 (List.mem_of_getElem? (i := 71) rfl) rfl), ⟨by decide, by decide, by decide +kernel⟩, by decide⟩, (mt7 (List.mem_of_getElem? (i := 70) rfl) rfl), (mtp (List.mem_of_getElem? (i := 45) rfl) rfl)⟩
abbrev mX12_wrong : MT := (yX12_wrong, cX12_wrong, 2, none)
theorem kX12_wrong : CLV mX12_wrong 1 := ⟨⟨(mt1 (List.mem_of_getElem? (i := 14) rfl) rfl), (mt7 (List.mem_of_getElem? (i := 86) rfl) rfl), ⟨by decide, by decide, by decide +kernel⟩, by decide⟩, (mt7 (List.mem_of_getElem? (i := 85) rfl) rfl), (mtp (List.mem_of_getElem? (i := 47) rfl) rfl)⟩
abbrev mX12_isGood : MT := (yX12_isGood, cX12_isGood, 1, (some .boolean))
theorem kX12_isGood : CLV mX12_isGood 0 := ⟨⟨(mt1 (List.mem_of_getElem? (i := 14) rfl) rfl), (mt7 (List.mem_of_getElem? (i := 63) rfl) rfl), ⟨by decide, by decide, by decide +kernel⟩, by decide⟩, (mt7 (List.mem_of_getElem? (i := 62) rfl) rfl), (mtp (List.mem_of_getElem? (i := 43) rfl) rfl)⟩
abbrev mX12_isSign : MT := (yX12_isSign, cX12_isSign, 2, (some .boolean))
theorem kX12_isSign : CLV mX12_isSign 1 := ⟨⟨(mt1 (List.mem_of_getElem? (i := 14) rfl) rfl), (mt7 (List.mem_of_getElem? (i := 114) rfl) rfl), ⟨by decide, by decide, by decide +kernel⟩, by decide⟩, (mt7 (List.mem_of_getElem? (i := 113) rfl) rfl), (mtp (List.mem_of_getElem? (i := 54) rfl) rfl)⟩
abbrev mX12_need : MT := (yX12_need, cX12_need, 2, none)
theorem kX12_need : CLV mX12_need 1 := ⟨⟨(mt1 (List.mem_of_getElem? (i := 14) rfl) rfl), (mt7 (List.mem_of_getElem? (i := 152) rfl) rfl), ⟨by decide, by decide, by decide +kernel⟩, by decide⟩, (mt7 (List.mem_of_getElem? (i := 151) rfl) rfl), (mtp (List.mem_of_getElem? (i := 62) rfl) rfl)⟩
abbrev mX12_number : MT := (yX12_number, cX12_number, 4, (some .int))
theorem kX12_number : CLV mX12_number 2 := ⟨⟨(mt1 (List.mem_of_getElem? (i := 14) rfl) rfl), (mt7 (List.mem_of_getElem? (i := 94) rfl) rfl), ⟨by decide, by decide, by decide +kernel⟩, by decide⟩, (mt7 (List.mem_of_getElem? (i := 93) rfl) rfl), (mtp (List.mem_of_getElem? (i := 49) rfl) rfl)⟩
abbrev mX12_isCupHere : MT := (yX12_isCupHere, cX12_isCupHere, 1, (some .boolean))
theorem kX12_isCupHere : CLV mX12_isCupHere 0 := ⟨⟨(mt1 (List.mem_of_getElem? (i := 14) rfl) rfl), (mt7 (List.mem_of_getElem? (i := 102) rfl) rfl), ⟨by decide, by decide, by decide +kernel⟩, by decide⟩, (mt7 (List.mem_of_getElem? (i := 101) rfl) rfl), (mtp (List.mem_of_getElem? (i := 51) rfl) rfl)⟩
abbrev mX12_puts : MT := (yX12_puts, cX12_puts, 2, none)
theorem kX12_puts : CLV mX12_puts 1 := ⟨⟨(mt1 (List.mem_of_getElem? (i := 14) rfl) rfl), (mt7 (List.mem_of_getElem? (i := 130) rfl) rfl), ⟨by decide, by decide, by decide +kernel⟩, by decide⟩, (mt7 (List.mem_of_getElem? (i := 129) rfl) rfl), (mtp (List.mem_of_getElem? (i := 58) rfl) rfl)⟩
abbrev mX12_isOpen : MT := (yX12_isOpen, cX12_isOpen, 1, (some .boolean))
theorem kX12_isOpen : CLS mX12_isOpen 1 := ⟨⟨(mt1 (List.mem_of_getElem? (i := 14) rfl) rfl), (mt7 (List.mem_of_getElem? (i := 137) rfl) rfl), ⟨by decide, by decide, by decide +kernel⟩, by decide⟩, (mt7 (List.mem_of_getElem? (i := 136) rfl) rfl)⟩
abbrev mX12_strength : MT := (yX12_strength, cX12_strength, 1, (some .int))
theorem kX12_strength : CLS mX12_strength 1 := ⟨⟨(mt1 (List.mem_of_getElem? (i := 14) rfl) rfl), (mt7 (List.mem_of_getElem? (i := 140) rfl) rfl), ⟨by decide, by decide, by decide +kernel⟩, by decide⟩, (mt7 (List.mem_of_getElem? (i := 139) rfl) rfl)⟩
abbrev mX12_drops : MT := (yX12_drops, cX12_drops, 2, none)
theorem kX12_drops : CLV mX12_drops 1 := ⟨⟨(mt1 (List.mem_of_getElem? (i := 14) rfl) rfl), (mt7 (List.mem_of_getElem? (i := 134) rfl) rfl), ⟨by decide, by decide, by decide +kernel⟩, by decide⟩, (mt7 (List.mem_of_getElem? (i := 133) rfl) rfl), (mtp (List.mem_of_getElem? (i := 59) rfl) rfl)⟩
abbrev mX12_waitsFor : MT := (yX12_waitsFor, cX12_waitsFor, 2, none)
theorem kX12_waitsFor : CLV mX12_waitsFor 1 := ⟨⟨(mt1 (List.mem_of_getElem? (i := 14) rfl) rfl), (mt7 (List.mem_of_getElem? (i := 122) rfl) rfl), ⟨by decide, by decide, by decide +kernel⟩, by decide⟩, (mt7 (List.mem_of_getElem? (i := 121) rfl) rfl), (mtp (List.mem_of_getElem? (i := 56) rfl) rfl)⟩
abbrev mX12_part : MT := (yX12_part, cX12_part, 2, none)
theorem kX12_part : CLV mX12_part 0 := ⟨⟨(mt1 (List.mem_of_getElem? (i := 14) rfl) rfl), (mt7 (List.mem_of_getElem? (i := 126) rfl) rfl), ⟨by decide, by decide, by decide +kernel⟩, by decide⟩, (mt7 (List.mem_of_getElem? (i := 125) rfl) rfl), (mtp (List.mem_of_getElem? (i := 57) rfl) rfl)⟩
abbrev mX12_deeper : MT := (yX12_deeper, cX12_deeper, 1, none)
theorem kX12_deeper : CLV mX12_deeper 0 := ⟨⟨(mt1 (List.mem_of_getElem? (i := 14) rfl) rfl), (mt7 (List.mem_of_getElem? (i := 110) rfl) rfl), ⟨by decide, by decide, by decide +kernel⟩, by decide⟩, (mt7 (List.mem_of_getElem? (i := 109) rfl) rfl), (mtp (List.mem_of_getElem? (i := 53) rfl) rfl)⟩
abbrev mX12_operand : MT := (yX12_operand, cX12_operand, 5, none)
theorem kX12_operand : CLV mX12_operand 1 := ⟨⟨(mt1 (List.mem_of_getElem? (i := 14) rfl) rfl), (mt7 (List.mem_of_getElem? (i := 118) rfl) rfl), ⟨by decide, by decide, by decide +kernel⟩, by decide⟩, (mt7 (List.mem_of_getElem? (i := 117) rfl) rfl), (mtp (List.mem_of_getElem? (i := 55) rfl) rfl)⟩
abbrev mX12_isOpened : MT := (yX12_isOpened, cX12_isOpened, 2, (some .boolean))
theorem kX12_isOpened : CLV mX12_isOpened 0 := ⟨⟨(mt1 (List.mem_of_getElem? (i := 14) rfl) rfl), (mt7 (List.mem_of_getElem? (i := 144) rfl) rfl), ⟨by decide, by decide, by decide +kernel⟩, by decide⟩, (mt7 (List.mem_of_getElem? (i := 143) rfl) rfl), (mtp (List.mem_of_getElem? (i := 60) rfl) rfl)⟩
abbrev mX12_closes : MT := (yX12_closes, cX12_closes, 1, none)
theorem kX12_closes : CLV mX12_closes 0 := ⟨⟨(mt1 (List.mem_of_getElem? (i := 14) rfl) rfl), (mt7 (List.mem_of_getElem? (i := 148) rfl) rfl), ⟨by decide, by decide, by decide +kernel⟩, by decide⟩, (mt7 (List.mem_of_getElem? (i := 147) rfl) rfl), (mtp (List.mem_of_getElem? (i := 61) rfl) rfl)⟩
abbrev mX12_expression : MT := (yX12_expression, cX12_expression, 3, none)
theorem kX12_expression : CLV mX12_expression 0 := ⟨⟨(mt1 (List.mem_of_getElem? (i := 14) rfl) rfl), (mt7 (List.mem_of_getElem? (i := 106) rfl) rfl), ⟨by decide, by decide, by decide +kernel⟩, by decide⟩, (mt7 (List.mem_of_getElem? (i := 105) rfl) rfl), (mtp (List.mem_of_getElem? (i := 52) rfl) rfl)⟩
abbrev mX12_begins : MT := (yX12_begins, cX12_begins, 3, (some .boolean))
theorem kX12_begins : CLV mX12_begins 2 := ⟨⟨(mt1 (List.mem_of_getElem? (i := 14) rfl) rfl), (mt7 (List.mem_of_getElem? (i := 82) rfl) rfl), ⟨by decide, by decide, by decide +kernel⟩, by decide⟩, (mt7 (List.mem_of_getElem? (i := 81) rfl) rfl), (mtp (List.mem_of_getElem? (i := 46) rfl) rfl)⟩
abbrev mX12_readsCup : MT := (yX12_readsCup, cX12_readsCup, 2, none)
theorem kX12_readsCup : CLV mX12_readsCup 0 := ⟨⟨(mt1 (List.mem_of_getElem? (i := 14) rfl) rfl), (mt7 (List.mem_of_getElem? (i := 90) rfl) rfl), ⟨by decide, by decide, by decide +kernel⟩, by decide⟩, (mt7 (List.mem_of_getElem? (i := 89) rfl) rfl), (mtp (List.mem_of_getElem? (i := 48) rfl) rfl)⟩
abbrev mX12_readsPipe : MT := (yX12_readsPipe, cX12_readsPipe, 2, none)
theorem kX12_readsPipe : CLV mX12_readsPipe 0 := ⟨⟨(mt1 (List.mem_of_getElem? (i := 14) rfl) rfl), (mt7 (List.mem_of_getElem? (i := 98) rfl) rfl), ⟨by decide, by decide, by decide +kernel⟩, by decide⟩, (mt7 (List.mem_of_getElem? (i := 97) rfl) rfl), (mtp (List.mem_of_getElem? (i := 50) rfl) rfl)⟩
abbrev mX12_line : MT := (yX12_line, cX12_line, 2, none)
theorem kX12_line : CLV mX12_line 0 := ⟨⟨(mt1 (List.mem_of_getElem? (i := 14) rfl) rfl), (mt7 (List.mem_of_getElem? (i := 67) rfl) rfl), ⟨by decide, by decide, by decide +kernel⟩, by decide⟩, (mt7 (List.mem_of_getElem? (i := 66) rfl) rfl), (mtp (List.mem_of_getElem? (i := 44) rfl) rfl)⟩
abbrev mX12_cave : MT := (yX12_cave, cX12_cave, 3, (some .int))
theorem kX12_cave : CLV mX12_cave 1 := ⟨⟨(mt1 (List.mem_of_getElem? (i := 14) rfl) rfl), (mt7 (List.mem_of_getElem? (i := 41) rfl) rfl), ⟨by decide, by decide, by decide +kernel⟩, by decide⟩, (mt7 (List.mem_of_getElem? (i := 39) rfl) rfl), (mt7 (List.mem_of_getElem? (i := 40) rfl) rfl)⟩
abbrev mX12_fault : MT := (yX12_fault, cX12_fault, 1, (some .int))
theorem kX12_fault : CLV mX12_fault 0 := ⟨⟨(mt1 (List.mem_of_getElem? (i := 14) rfl) rfl), (mt7 (List.mem_of_getElem? (i := 160) rfl) rfl), ⟨by decide, by decide, by decide +kernel⟩, by decide⟩, (mt7 (List.mem_of_getElem? (i := 158) rfl) rfl), (mt7 (List.mem_of_getElem? (i := 159) rfl) rfl)⟩
abbrev mX12_keeps : MT := (yX12_keeps, cX12_keeps, 2, none)
theorem kX12_keeps : CLV mX12_keeps 0 := ⟨⟨(mt1 (List.mem_of_getElem? (i := 14) rfl) rfl), (mt7 (List.mem_of_getElem? (i := 234) rfl) rfl), ⟨by decide, by decide, by decide +kernel⟩, by decide⟩, (mt7 (List.mem_of_getElem? (i := 233) rfl) rfl), (mtp (List.mem_of_getElem? (i := 75) rfl) rfl)⟩
abbrev mX12_refuses : MT := (yX12_refuses, cX12_refuses, 2, (some .int))
theorem kX12_refuses : CLV mX12_refuses 1 := ⟨⟨(mt1 (List.mem_of_getElem? (i := 14) rfl) rfl), (mt7 (List.mem_of_getElem? (i := 230) rfl) rfl), ⟨by decide, by decide, by decide +kernel⟩, by decide⟩, (mt7 (List.mem_of_getElem? (i := 229) rfl) rfl), (mtp (List.mem_of_getElem? (i := 74) rfl) rfl)⟩
abbrev mX12_undo : MT := (yX12_undo, cX12_undo, 2, (some .int))
theorem kX12_undo : CLV mX12_undo 0 := ⟨⟨(mt1 (List.mem_of_getElem? (i := 14) rfl) rfl), (mt7 (List.mem_of_getElem? (i := 164) rfl) rfl), ⟨by decide, by decide, by decide +kernel⟩, by decide⟩, (mt7 (List.mem_of_getElem? (i := 162) rfl) rfl), (mt7 (List.mem_of_getElem? (i := 163) rfl) rfl)⟩
abbrev mX12_tries : MT := (yX12_tries, cX12_tries, 2, none)
theorem kX12_tries : CLV mX12_tries 0 := ⟨⟨(mt1 (List.mem_of_getElem? (i := 14) rfl) rfl), (mt8 (List.mem_of_getElem? (i := 68) rfl) rfl), ⟨by decide, by decide, by decide +kernel⟩, by decide⟩, (mt8 (List.mem_of_getElem? (i := 67) rfl) rfl), (mtp (List.mem_of_getElem? (i := 87) rfl) rfl)⟩
abbrev mX12_works : MT := (yX12_works, cX12_works, 3, (some .int))
theorem kX12_works : CLS mX12_works 3 := ⟨⟨(mt1 (List.mem_of_getElem? (i := 14) rfl) rfl), (mt8 (List.mem_of_getElem? (i := 17) rfl) rfl), ⟨by decide, by decide, by decide +kernel⟩, by decide⟩, (mt8 (List.mem_of_getElem? (i := 16) rfl) rfl)⟩
abbrev mX12_reckons : MT := (yX12_reckons, cX12_reckons, 5, (some .int))
theorem kX12_reckons : CLV mX12_reckons 1 := ⟨⟨(mt1 (List.mem_of_getElem? (i := 14) rfl) rfl), (mt8 (List.mem_of_getElem? (i := 14) rfl) rfl), ⟨by decide, by decide, by decide +kernel⟩, by decide⟩, (mt8 (List.mem_of_getElem? (i := 13) rfl) rfl), (mtp (List.mem_of_getElem? (i := 80) rfl) rfl)⟩
abbrev mX12_asks : MT := (yX12_asks, cX12_asks, 4, (some .int))
theorem kX12_asks : CLV mX12_asks 3 := ⟨⟨(mt1 (List.mem_of_getElem? (i := 14) rfl) rfl), (mt8 (List.mem_of_getElem? (i := 10) rfl) rfl), ⟨by decide, by decide, by decide +kernel⟩, by decide⟩, (mt8 (List.mem_of_getElem? (i := 9) rfl) rfl), (mtp (List.mem_of_getElem? (i := 79) rfl) rfl)⟩
abbrev mX12_falls : MT := (yX12_falls, cX12_falls, 7, none)
theorem kX12_falls : CLV mX12_falls 3 := ⟨⟨(mt1 (List.mem_of_getElem? (i := 14) rfl) rfl), (mt8 (List.mem_of_getElem? (i := 25) rfl) rfl), ⟨by decide, by decide, by decide +kernel⟩, by decide⟩, (mt8 (List.mem_of_getElem? (i := 24) rfl) rfl), (mtp (List.mem_of_getElem? (i := 82) rfl) rfl)⟩
abbrev mX12_gets : MT := (yX12_gets, cX12_gets, 6, none)
theorem kX12_gets : CLV mX12_gets 3 := ⟨⟨(mt1 (List.mem_of_getElem? (i := 14) rfl) rfl), (mt8 (List.mem_of_getElem? (i := 21) rfl) rfl), ⟨by decide, by decide, by decide +kernel⟩, by decide⟩, (mt8 (List.mem_of_getElem? (i := 20) rfl) rfl), (mtp (List.mem_of_getElem? (i := 81) rfl) rfl)⟩
abbrev mX12_runs : MT := (yX12_runs, cX12_runs, 3, (some .boolean))
theorem kX12_runs : CLV mX12_runs 2 := ⟨⟨(mt1 (List.mem_of_getElem? (i := 14) rfl) rfl), (mt8 (List.mem_of_getElem? (i := 6) rfl) rfl), ⟨by decide, by decide, by decide +kernel⟩, by decide⟩, (mt8 (List.mem_of_getElem? (i := 5) rfl) rfl), (mtp (List.mem_of_getElem? (i := 78) rfl) rfl)⟩
abbrev mX12_begins0 : MT := (yX12_begins0, cX12_begins0, 2, none)
theorem kX12_begins0 : CLV mX12_begins0 0 := ⟨⟨(mt1 (List.mem_of_getElem? (i := 14) rfl) rfl), (mt8 (List.mem_of_getElem? (i := 2) rfl) rfl), ⟨by decide, by decide, by decide +kernel⟩, by decide⟩, (mt8 (List.mem_of_getElem? (i := 1) rfl) rfl), (mtp (List.mem_of_getElem? (i := 77) rfl) rfl)⟩
abbrev mX12_hourGoes : MT := (yX12_hourGoes, cX12_hourGoes, 4, none)
theorem kX12_hourGoes : CLV mX12_hourGoes 1 := ⟨⟨(mt1 (List.mem_of_getElem? (i := 14) rfl) rfl), (mt7 (List.mem_of_getElem? (i := 238) rfl) rfl), ⟨by decide, by decide, by decide +kernel⟩, by decide⟩, (mt7 (List.mem_of_getElem? (i := 237) rfl) rfl), (mtp (List.mem_of_getElem? (i := 76) rfl) rfl)⟩
abbrev mX12_hoursGo : MT := (yX12_hoursGo, cX12_hoursGo, 3, none)
theorem kX12_hoursGo : CLV mX12_hoursGo 1 := ⟨⟨(mt1 (List.mem_of_getElem? (i := 14) rfl) rfl), (mt8 (List.mem_of_getElem? (i := 76) rfl) rfl), ⟨by decide, by decide, by decide +kernel⟩, by decide⟩, (mt8 (List.mem_of_getElem? (i := 75) rfl) rfl), (mtp (List.mem_of_getElem? (i := 88) rfl) rfl)⟩
abbrev mX12_roots : MT := (yX12_roots, cX12_roots, 3, (some .int))
theorem kX12_roots : CLV mX12_roots 0 := ⟨⟨(mt1 (List.mem_of_getElem? (i := 14) rfl) rfl), (mt7 (List.mem_of_getElem? (i := 187) rfl) rfl), ⟨by decide, by decide, by decide +kernel⟩, by decide⟩, (mt7 (List.mem_of_getElem? (i := 186) rfl) rfl), (mtp (List.mem_of_getElem? (i := 66) rfl) rfl)⟩
abbrev mX12_goesInto : MT := (yX12_goesInto, cX12_goesInto, 3, (some .boolean))
theorem kX12_goesInto : CLV mX12_goesInto 2 := ⟨⟨(mt1 (List.mem_of_getElem? (i := 14) rfl) rfl), (mt7 (List.mem_of_getElem? (i := 195) rfl) rfl), ⟨by decide, by decide, by decide +kernel⟩, by decide⟩, (mt7 (List.mem_of_getElem? (i := 194) rfl) rfl), (mtp (List.mem_of_getElem? (i := 68) rfl) rfl)⟩
abbrev mX12_giversOf : MT := (yX12_giversOf, cX12_giversOf, 4, (some .int))
theorem kX12_giversOf : CLV mX12_giversOf 1 := ⟨⟨(mt1 (List.mem_of_getElem? (i := 14) rfl) rfl), (mt7 (List.mem_of_getElem? (i := 191) rfl) rfl), ⟨by decide, by decide, by decide +kernel⟩, by decide⟩, (mt7 (List.mem_of_getElem? (i := 190) rfl) rfl), (mtp (List.mem_of_getElem? (i := 67) rfl) rfl)⟩
abbrev mX12_sumOf : MT := (yX12_sumOf, cX12_sumOf, 5, (some .int))
theorem kX12_sumOf : CLV mX12_sumOf 2 := ⟨⟨(mt1 (List.mem_of_getElem? (i := 14) rfl) rfl), (mt7 (List.mem_of_getElem? (i := 179) rfl) rfl), ⟨by decide, by decide, by decide +kernel⟩, by decide⟩, (mt7 (List.mem_of_getElem? (i := 178) rfl) rfl), (mtp (List.mem_of_getElem? (i := 65) rfl) rfl)⟩
abbrev mX12_alike : MT := (yX12_alike, cX12_alike, 4, (some .int))
theorem kX12_alike : CLV mX12_alike 0 := ⟨⟨(mt1 (List.mem_of_getElem? (i := 14) rfl) rfl), (mt7 (List.mem_of_getElem? (i := 199) rfl) rfl), ⟨by decide, by decide, by decide +kernel⟩, by decide⟩, (mt7 (List.mem_of_getElem? (i := 198) rfl) rfl), (mtp (List.mem_of_getElem? (i := 69) rfl) rfl)⟩
abbrev mX12_plugged : MT := (yX12_plugged, cX12_plugged, 3, (some .int))
theorem kX12_plugged : CLV mX12_plugged 0 := ⟨⟨(mt1 (List.mem_of_getElem? (i := 14) rfl) rfl), (mt7 (List.mem_of_getElem? (i := 175) rfl) rfl), ⟨by decide, by decide, by decide +kernel⟩, by decide⟩, (mt7 (List.mem_of_getElem? (i := 174) rfl) rfl), (mtp (List.mem_of_getElem? (i := 64) rfl) rfl)⟩
abbrev mX12_count : MT := (yX12_count, cX12_count, 2, (some .int))
theorem kX12_count : CLV mX12_count 1 := ⟨⟨(mt1 (List.mem_of_getElem? (i := 14) rfl) rfl), (mt7 (List.mem_of_getElem? (i := 168) rfl) rfl), ⟨by decide, by decide, by decide +kernel⟩, by decide⟩, (mt7 (List.mem_of_getElem? (i := 166) rfl) rfl), (mt7 (List.mem_of_getElem? (i := 167) rfl) rfl)⟩
abbrev mX12_isCup : MT := (yX12_isCup, cX12_isCup, 2, (some .boolean))
theorem kX12_isCup : CLV mX12_isCup 1 := ⟨⟨(mt1 (List.mem_of_getElem? (i := 14) rfl) rfl), (mt7 (List.mem_of_getElem? (i := 207) rfl) rfl), ⟨by decide, by decide, by decide +kernel⟩, by decide⟩, (mt7 (List.mem_of_getElem? (i := 206) rfl) rfl), (mtp (List.mem_of_getElem? (i := 70) rfl) rfl)⟩
abbrev mX12_isWhat : MT := (yX12_isWhat, cX12_isWhat, 3, (some .boolean))
theorem kX12_isWhat : CLV mX12_isWhat 2 := ⟨⟨(mt1 (List.mem_of_getElem? (i := 14) rfl) rfl), (mt7 (List.mem_of_getElem? (i := 211) rfl) rfl), ⟨by decide, by decide, by decide +kernel⟩, by decide⟩, (mt7 (List.mem_of_getElem? (i := 210) rfl) rfl), (mtp (List.mem_of_getElem? (i := 71) rfl) rfl)⟩
abbrev mX12_isSome : MT := (yX12_isSome, cX12_isSome, 2, (some .boolean))
theorem kX12_isSome : CLV mX12_isSome 1 := ⟨⟨(mt1 (List.mem_of_getElem? (i := 14) rfl) rfl), (mt8 (List.mem_of_getElem? (i := 92) rfl) rfl), ⟨by decide, by decide, by decide +kernel⟩, by decide⟩, (mt8 (List.mem_of_getElem? (i := 91) rfl) rfl), (mtp (List.mem_of_getElem? (i := 90) rfl) rfl)⟩
abbrev mX12_isSoon : MT := (yX12_isSoon, cX12_isSoon, 4, (some .boolean))
theorem kX12_isSoon : CLV mX12_isSoon 3 := ⟨⟨(mt1 (List.mem_of_getElem? (i := 14) rfl) rfl), (mt8 (List.mem_of_getElem? (i := 64) rfl) rfl), ⟨by decide, by decide, by decide +kernel⟩, by decide⟩, (mt8 (List.mem_of_getElem? (i := 63) rfl) rfl), (mtp (List.mem_of_getElem? (i := 86) rfl) rfl)⟩
abbrev mX12_deep : MT := (yX12_deep, cX12_deep, 4, (some .int))
theorem kX12_deep : CLV mX12_deep 1 := ⟨⟨(mt1 (List.mem_of_getElem? (i := 14) rfl) rfl), (mt7 (List.mem_of_getElem? (i := 219) rfl) rfl), ⟨by decide, by decide, by decide +kernel⟩, by decide⟩, (mt7 (List.mem_of_getElem? (i := 218) rfl) rfl), (mtp (List.mem_of_getElem? (i := 73) rfl) rfl)⟩
abbrev mX12_into : MT := (yX12_into, cX12_into, 3, (some .int))
theorem kX12_into : CLV mX12_into 2 := ⟨⟨(mt1 (List.mem_of_getElem? (i := 14) rfl) rfl), (mt7 (List.mem_of_getElem? (i := 215) rfl) rfl), ⟨by decide, by decide, by decide +kernel⟩, by decide⟩, (mt7 (List.mem_of_getElem? (i := 214) rfl) rfl), (mtp (List.mem_of_getElem? (i := 72) rfl) rfl)⟩
abbrev mX12_cup : MT := (yX12_cup, cX12_cup, 3, (some .int))
theorem kX12_cup : CLV mX12_cup 2 := ⟨⟨(mt1 (List.mem_of_getElem? (i := 14) rfl) rfl), (mt7 (List.mem_of_getElem? (i := 203) rfl) rfl), ⟨by decide, by decide, by decide +kernel⟩, by decide⟩, (mt7 (List.mem_of_getElem? (i := 201) rfl) rfl), (mt7 (List.mem_of_getElem? (i := 202) rfl) rfl)⟩
abbrev mX12_hours : MT := (yX12_hours, cX12_hours, 3, (some .int))
theorem kX12_hours : CLV mX12_hours 1 := ⟨⟨(mt1 (List.mem_of_getElem? (i := 14) rfl) rfl), (mt7 (List.mem_of_getElem? (i := 226) rfl) rfl), ⟨by decide, by decide, by decide +kernel⟩, by decide⟩, (mt7 (List.mem_of_getElem? (i := 224) rfl) rfl), (mt7 (List.mem_of_getElem? (i := 225) rfl) rfl)⟩
abbrev mX12_leads : MT := (yX12_leads, cX12_leads, 4, none)
theorem kX12_leads : CLV mX12_leads 3 := ⟨⟨(mt1 (List.mem_of_getElem? (i := 14) rfl) rfl), (mt8 (List.mem_of_getElem? (i := 36) rfl) rfl), ⟨by decide, by decide, by decide +kernel⟩, by decide⟩, (mt8 (List.mem_of_getElem? (i := 35) rfl) rfl), (mtp (List.mem_of_getElem? (i := 83) rfl) rfl)⟩
abbrev mX12_lead : MT := (yX12_lead, cX12_lead, 3, (some .boolean))
theorem kX12_lead : CLV mX12_lead 2 := ⟨⟨(mt1 (List.mem_of_getElem? (i := 14) rfl) rfl), (mt8 (List.mem_of_getElem? (i := 32) rfl) rfl), ⟨by decide, by decide, by decide +kernel⟩, by decide⟩, (mt8 (List.mem_of_getElem? (i := 30) rfl) rfl), (mt8 (List.mem_of_getElem? (i := 31) rfl) rfl)⟩
abbrev mX12_plug : MT := (yX12_plug, cX12_plug, 3, (some .boolean))
theorem kX12_plug : CLV mX12_plug 2 := ⟨⟨(mt1 (List.mem_of_getElem? (i := 14) rfl) rfl), (mt8 (List.mem_of_getElem? (i := 40) rfl) rfl), ⟨by decide, by decide, by decide +kernel⟩, by decide⟩, (mt8 (List.mem_of_getElem? (i := 38) rfl) rfl), (mt8 (List.mem_of_getElem? (i := 39) rfl) rfl)⟩
abbrev mX12_pours : MT := (yX12_pours, cX12_pours, 5, (some .int))
theorem kX12_pours : CLV mX12_pours 3 := ⟨⟨(mt1 (List.mem_of_getElem? (i := 14) rfl) rfl), (mt8 (List.mem_of_getElem? (i := 48) rfl) rfl), ⟨by decide, by decide, by decide +kernel⟩, by decide⟩, (mt8 (List.mem_of_getElem? (i := 47) rfl) rfl), (mtp (List.mem_of_getElem? (i := 84) rfl) rfl)⟩
abbrev mX12_pour : MT := (yX12_pour, cX12_pour, 3, (some .int))
theorem kX12_pour : CLV mX12_pour 2 := ⟨⟨(mt1 (List.mem_of_getElem? (i := 14) rfl) rfl), (mt8 (List.mem_of_getElem? (i := 44) rfl) rfl), ⟨by decide, by decide, by decide +kernel⟩, by decide⟩, (mt8 (List.mem_of_getElem? (i := 42) rfl) rfl), (mt8 (List.mem_of_getElem? (i := 43) rfl) rfl)⟩
abbrev mX12_cracks : MT := (yX12_cracks, cX12_cracks, 4, none)
theorem kX12_cracks : CLV mX12_cracks 3 := ⟨⟨(mt1 (List.mem_of_getElem? (i := 14) rfl) rfl), (mt8 (List.mem_of_getElem? (i := 56) rfl) rfl), ⟨by decide, by decide, by decide +kernel⟩, by decide⟩, (mt8 (List.mem_of_getElem? (i := 55) rfl) rfl), (mtp (List.mem_of_getElem? (i := 85) rfl) rfl)⟩
abbrev mX12_crack : MT := (yX12_crack, cX12_crack, 4, (some .int))
theorem kX12_crack : CLV mX12_crack 2 := ⟨⟨(mt1 (List.mem_of_getElem? (i := 14) rfl) rfl), (mt8 (List.mem_of_getElem? (i := 52) rfl) rfl), ⟨by decide, by decide, by decide +kernel⟩, by decide⟩, (mt8 (List.mem_of_getElem? (i := 50) rfl) rfl), (mt8 (List.mem_of_getElem? (i := 51) rfl) rfl)⟩
abbrev mX12_then : MT := (yX12_then, cX12_then, 6, (some .int))
theorem kX12_then : CLV mX12_then 3 := ⟨⟨(mt1 (List.mem_of_getElem? (i := 14) rfl) rfl), (mt8 (List.mem_of_getElem? (i := 60) rfl) rfl), ⟨by decide, by decide, by decide +kernel⟩, by decide⟩, (mt8 (List.mem_of_getElem? (i := 58) rfl) rfl), (mt8 (List.mem_of_getElem? (i := 59) rfl) rfl)⟩
abbrev mX12_tipping : MT := (yX12_tipping, cX12_tipping, 2, (some .int))
theorem kX12_tipping : CLV mX12_tipping 1 := ⟨⟨(mt1 (List.mem_of_getElem? (i := 14) rfl) rfl), (mt8 (List.mem_of_getElem? (i := 72) rfl) rfl), ⟨by decide, by decide, by decide +kernel⟩, by decide⟩, (mt8 (List.mem_of_getElem? (i := 70) rfl) rfl), (mt8 (List.mem_of_getElem? (i := 71) rfl) rfl)⟩
abbrev mX12_allTip : MT := (yX12_allTip, cX12_allTip, 4, (some .int))
theorem kX12_allTip : CLV mX12_allTip 2 := ⟨⟨(mt1 (List.mem_of_getElem? (i := 14) rfl) rfl), (mt8 (List.mem_of_getElem? (i := 84) rfl) rfl), ⟨by decide, by decide, by decide +kernel⟩, by decide⟩, (mt8 (List.mem_of_getElem? (i := 83) rfl) rfl), (mtp (List.mem_of_getElem? (i := 89) rfl) rfl)⟩
abbrev mX12_next : MT := (yX12_next, cX12_next, 2, (some .int))
theorem kX12_next : CLV mX12_next 1 := ⟨⟨(mt1 (List.mem_of_getElem? (i := 14) rfl) rfl), (mt8 (List.mem_of_getElem? (i := 80) rfl) rfl), ⟨by decide, by decide, by decide +kernel⟩, by decide⟩, (mt8 (List.mem_of_getElem? (i := 78) rfl) rfl), (mt8 (List.mem_of_getElem? (i := 79) rfl) rfl)⟩
abbrev mX12_together : MT := (yX12_together, cX12_together, 2, (some .int))
theorem kX12_together : CLV mX12_together 1 := ⟨⟨(mt1 (List.mem_of_getElem? (i := 14) rfl) rfl), (mt8 (List.mem_of_getElem? (i := 88) rfl) rfl), ⟨by decide, by decide, by decide +kernel⟩, by decide⟩, (mt8 (List.mem_of_getElem? (i := 86) rfl) rfl), (mt8 (List.mem_of_getElem? (i := 87) rfl) rfl)⟩
abbrev mX12_pause : MT := (yX12_pause, cX12_pause, 4, (some .int))
theorem kX12_pause : CLV mX12_pause 1 := ⟨⟨(mt1 (List.mem_of_getElem? (i := 14) rfl) rfl), (mt8 (List.mem_of_getElem? (i := 96) rfl) rfl), ⟨by decide, by decide, by decide +kernel⟩, by decide⟩, (mt8 (List.mem_of_getElem? (i := 94) rfl) rfl), (mt8 (List.mem_of_getElem? (i := 95) rfl) rfl)⟩
abbrev mX12_sound : MT := (yX12_sound, cX12_sound, 8, (some .int))
theorem kX12_sound : CLV mX12_sound 2 := ⟨⟨(mt1 (List.mem_of_getElem? (i := 14) rfl) rfl), (mt8 (List.mem_of_getElem? (i := 100) rfl) rfl), ⟨by decide, by decide, by decide +kernel⟩, by decide⟩, (mt8 (List.mem_of_getElem? (i := 98) rfl) rfl), (mt8 (List.mem_of_getElem? (i := 99) rfl) rfl)⟩
abbrev mX12_chorus : MT := (yX12_chorus, cX12_chorus, 5, (some .int))
theorem kX12_chorus : CLV mX12_chorus 2 := ⟨⟨(mt1 (List.mem_of_getElem? (i := 14) rfl) rfl), (mt8 (List.mem_of_getElem? (i := 107) rfl) rfl), ⟨by decide, by decide, by decide +kernel⟩, by decide⟩, (mt8 (List.mem_of_getElem? (i := 105) rfl) rfl), (mt8 (List.mem_of_getElem? (i := 106) rfl) rfl)⟩
abbrev mX12_never : MT := (yX12_never, cX12_never, 4, (some .int))
theorem kX12_never : CLV mX12_never 1 := ⟨⟨(mt1 (List.mem_of_getElem? (i := 14) rfl) rfl), (mt8 (List.mem_of_getElem? (i := 111) rfl) rfl), ⟨by decide, by decide, by decide +kernel⟩, by decide⟩, (mt8 (List.mem_of_getElem? (i := 109) rfl) rfl), (mt8 (List.mem_of_getElem? (i := 110) rfl) rfl)⟩
abbrev mX12_swell : MT := (yX12_swell, cX12_swell, 5, (some .int))
theorem kX12_swell : CLV mX12_swell 2 := ⟨⟨(mt1 (List.mem_of_getElem? (i := 14) rfl) rfl), (mt8 (List.mem_of_getElem? (i := 115) rfl) rfl), ⟨by decide, by decide, by decide +kernel⟩, by decide⟩, (mt8 (List.mem_of_getElem? (i := 113) rfl) rfl), (mt8 (List.mem_of_getElem? (i := 114) rfl) rfl)⟩
abbrev mX12_later : MT := (yX12_later, cX12_later, 7, (some .int))
theorem kX12_later : CLV mX12_later 2 := ⟨⟨(mt1 (List.mem_of_getElem? (i := 14) rfl) rfl), (mt8 (List.mem_of_getElem? (i := 119) rfl) rfl), ⟨by decide, by decide, by decide +kernel⟩, by decide⟩, (mt8 (List.mem_of_getElem? (i := 117) rfl) rfl), (mt8 (List.mem_of_getElem? (i := 118) rfl) rfl)⟩
abbrev mX12_oftenest : MT := (yX12_oftenest, cX12_oftenest, 4, (some .int))
theorem kX12_oftenest : CLV mX12_oftenest 1 := ⟨⟨(mt1 (List.mem_of_getElem? (i := 14) rfl) rfl), (mt8 (List.mem_of_getElem? (i := 123) rfl) rfl), ⟨by decide, by decide, by decide +kernel⟩, by decide⟩, (mt8 (List.mem_of_getElem? (i := 121) rfl) rfl), (mt8 (List.mem_of_getElem? (i := 122) rfl) rfl)⟩
abbrev mX12_round : MT := (yX12_round, cX12_round, 4, (some .int))
theorem kX12_round : CLV mX12_round 0 := ⟨⟨(mt1 (List.mem_of_getElem? (i := 14) rfl) rfl), (mt8 (List.mem_of_getElem? (i := 127) rfl) rfl), ⟨by decide, by decide, by decide +kernel⟩, by decide⟩, (mt8 (List.mem_of_getElem? (i := 125) rfl) rfl), (mt8 (List.mem_of_getElem? (i := 126) rfl) rfl)⟩
abbrev mX12_flows : MT := (yX12_flows, cX12_flows, 4, none)
theorem kX12_flows : CLV mX12_flows 1 := ⟨⟨(mt1 (List.mem_of_getElem? (i := 14) rfl) rfl), (mt8 (List.mem_of_getElem? (i := 136) rfl) rfl), ⟨by decide, by decide, by decide +kernel⟩, by decide⟩, (mt8 (List.mem_of_getElem? (i := 135) rfl) rfl), (mtp (List.mem_of_getElem? (i := 91) rfl) rfl)⟩
abbrev mX12_gives : MT := (yX12_gives, cX12_gives, 3, (some .int))
theorem kX12_gives : CLV mX12_gives 2 := ⟨⟨(mt1 (List.mem_of_getElem? (i := 14) rfl) rfl), (mt8 (List.mem_of_getElem? (i := 140) rfl) rfl), ⟨by decide, by decide, by decide +kernel⟩, by decide⟩, (mt8 (List.mem_of_getElem? (i := 139) rfl) rfl), (mtp (List.mem_of_getElem? (i := 92) rfl) rfl)⟩
abbrev mX12_fallen : MT := (yX12_fallen, cX12_fallen, 3, (some .int))
theorem kX12_fallen : CLV mX12_fallen 2 := ⟨⟨(mt1 (List.mem_of_getElem? (i := 14) rfl) rfl), (mt8 (List.mem_of_getElem? (i := 131) rfl) rfl), ⟨by decide, by decide, by decide +kernel⟩, by decide⟩, (mt8 (List.mem_of_getElem? (i := 129) rfl) rfl), (mt8 (List.mem_of_getElem? (i := 130) rfl) rfl)⟩
abbrev mX12_flow : MT := (yX12_flow, cX12_flow, 3, (some .int))
theorem kX12_flow : CLV mX12_flow 2 := ⟨⟨(mt1 (List.mem_of_getElem? (i := 14) rfl) rfl), (mt8 (List.mem_of_getElem? (i := 144) rfl) rfl), ⟨by decide, by decide, by decide +kernel⟩, by decide⟩, (mt8 (List.mem_of_getElem? (i := 142) rfl) rfl), (mt8 (List.mem_of_getElem? (i := 143) rfl) rfl)⟩
abbrev mX12_nth : MT := (yX12_nth, cX12_nth, 6, (some .int))
theorem kX12_nth : CLV mX12_nth 2 := ⟨⟨(mt1 (List.mem_of_getElem? (i := 14) rfl) rfl), (mt8 (List.mem_of_getElem? (i := 148) rfl) rfl), ⟨by decide, by decide, by decide +kernel⟩, by decide⟩, (mt8 (List.mem_of_getElem? (i := 146) rfl) rfl), (mt8 (List.mem_of_getElem? (i := 147) rfl) rfl)⟩
abbrev mX12_meeting : MT := (yX12_meeting, cX12_meeting, 5, (some .int))
theorem kX12_meeting : CLV mX12_meeting 1 := ⟨⟨(mt1 (List.mem_of_getElem? (i := 14) rfl) rfl), (mt8 (List.mem_of_getElem? (i := 154) rfl) rfl), ⟨by decide, by decide, by decide +kernel⟩, by decide⟩, (mt8 (List.mem_of_getElem? (i := 152) rfl) rfl), (mt8 (List.mem_of_getElem? (i := 153) rfl) rfl)⟩
abbrev mX12_giver : MT := (yX12_giver, cX12_giver, 5, (some .int))
theorem kX12_giver : CLV mX12_giver 2 := ⟨⟨(mt1 (List.mem_of_getElem? (i := 14) rfl) rfl), (mt8 (List.mem_of_getElem? (i := 158) rfl) rfl), ⟨by decide, by decide, by decide +kernel⟩, by decide⟩, (mt8 (List.mem_of_getElem? (i := 156) rfl) rfl), (mt8 (List.mem_of_getElem? (i := 157) rfl) rfl)⟩
abbrev mX12_tier : MT := (yX12_tier, cX12_tier, 7, (some .int))
theorem kX12_tier : CLV mX12_tier 2 := ⟨⟨(mt1 (List.mem_of_getElem? (i := 14) rfl) rfl), (mt8 (List.mem_of_getElem? (i := 162) rfl) rfl), ⟨by decide, by decide, by decide +kernel⟩, by decide⟩, (mt8 (List.mem_of_getElem? (i := 160) rfl) rfl), (mt8 (List.mem_of_getElem? (i := 161) rfl) rfl)⟩
abbrev mX12_ways : MT := (yX12_ways, cX12_ways, 5, (some .int))
theorem kX12_ways : CLV mX12_ways 2 := ⟨⟨(mt1 (List.mem_of_getElem? (i := 14) rfl) rfl), (mt8 (List.mem_of_getElem? (i := 166) rfl) rfl), ⟨by decide, by decide, by decide +kernel⟩, by decide⟩, (mt8 (List.mem_of_getElem? (i := 164) rfl) rfl), (mt8 (List.mem_of_getElem? (i := 165) rfl) rfl)⟩
abbrev mX12_toCrack : MT := (yX12_toCrack, cX12_toCrack, 10, (some .int))
theorem kX12_toCrack : CLV mX12_toCrack 4 := ⟨⟨(mt1 (List.mem_of_getElem? (i := 14) rfl) rfl), (mt8 (List.mem_of_getElem? (i := 170) rfl) rfl), ⟨by decide, by decide, by decide +kernel⟩, by decide⟩, (mt8 (List.mem_of_getElem? (i := 168) rfl) rfl), (mt8 (List.mem_of_getElem? (i := 169) rfl) rfl)⟩
abbrev mX12_toPour : MT := (yX12_toPour, cX12_toPour, 4, (some .int))
theorem kX12_toPour : CLV mX12_toPour 2 := ⟨⟨(mt1 (List.mem_of_getElem? (i := 14) rfl) rfl), (mt8 (List.mem_of_getElem? (i := 174) rfl) rfl), ⟨by decide, by decide, by decide +kernel⟩, by decide⟩, (mt8 (List.mem_of_getElem? (i := 172) rfl) rfl), (mt8 (List.mem_of_getElem? (i := 173) rfl) rfl)⟩
abbrev mX12_office : MT := (yX12_office, cX12_office, 6, (some .int))
theorem kX12_office : CLV mX12_office 2 := ⟨⟨(mt1 (List.mem_of_getElem? (i := 14) rfl) rfl), (mt8 (List.mem_of_getElem? (i := 178) rfl) rfl), ⟨by decide, by decide, by decide +kernel⟩, by decide⟩, (mt8 (List.mem_of_getElem? (i := 176) rfl) rfl), (mt8 (List.mem_of_getElem? (i := 177) rfl) rfl)⟩
abbrev mX12_offBy : MT := (yX12_offBy, cX12_offBy, 2, (some .int))
theorem kX12_offBy : CLS mX12_offBy 2 := ⟨⟨(mt1 (List.mem_of_getElem? (i := 14) rfl) rfl), (mt8 (List.mem_of_getElem? (i := 181) rfl) rfl), ⟨by decide, by decide, by decide +kernel⟩, by decide⟩, (mt8 (List.mem_of_getElem? (i := 180) rfl) rfl)⟩
abbrev mX12_hear : MT := (yX12_hear, cX12_hear, 4, (some .int))
theorem kX12_hear : CLV mX12_hear 3 := ⟨⟨(mt1 (List.mem_of_getElem? (i := 14) rfl) rfl), (mt8 (List.mem_of_getElem? (i := 185) rfl) rfl), ⟨by decide, by decide, by decide +kernel⟩, by decide⟩, (mt8 (List.mem_of_getElem? (i := 183) rfl) rfl), (mt8 (List.mem_of_getElem? (i := 184) rfl) rfl)⟩
abbrev mX12_forget : MT := (yX12_forget, cX12_forget, 1, none)
theorem kX12_forget : CLV mX12_forget 0 := ⟨⟨(mt1 (List.mem_of_getElem? (i := 14) rfl) rfl), (mt8 (List.mem_of_getElem? (i := 189) rfl) rfl), ⟨by decide, by decide, by decide +kernel⟩, by decide⟩, (mt8 (List.mem_of_getElem? (i := 187) rfl) rfl), (mt8 (List.mem_of_getElem? (i := 188) rfl) rfl)⟩
abbrev mX12_isHeard : MT := (yX12_isHeard, cX12_isHeard, 3, (some .boolean))
theorem kX12_isHeard : CLV mX12_isHeard 0 := ⟨⟨(mt1 (List.mem_of_getElem? (i := 14) rfl) rfl), (mt8 (List.mem_of_getElem? (i := 197) rfl) rfl), ⟨by decide, by decide, by decide +kernel⟩, by decide⟩, (mt8 (List.mem_of_getElem? (i := 196) rfl) rfl), (mtp (List.mem_of_getElem? (i := 93) rfl) rfl)⟩
abbrev mX12_isGuess : MT := (yX12_isGuess, cX12_isGuess, 4, (some .boolean))
theorem kX12_isGuess : CLV mX12_isGuess 1 := ⟨⟨(mt1 (List.mem_of_getElem? (i := 14) rfl) rfl), (mt8 (List.mem_of_getElem? (i := 201) rfl) rfl), ⟨by decide, by decide, by decide +kernel⟩, by decide⟩, (mt8 (List.mem_of_getElem? (i := 200) rfl) rfl), (mtp (List.mem_of_getElem? (i := 94) rfl) rfl)⟩
abbrev mX12_led : MT := (yX12_led, cX12_led, 5, (some .int))
theorem kX12_led : CLV mX12_led 1 := ⟨⟨(mt1 (List.mem_of_getElem? (i := 14) rfl) rfl), (mt8 (List.mem_of_getElem? (i := 193) rfl) rfl), ⟨by decide, by decide, by decide +kernel⟩, by decide⟩, (mt8 (List.mem_of_getElem? (i := 191) rfl) rfl), (mt8 (List.mem_of_getElem? (i := 192) rfl) rfl)⟩
abbrev mX12_listen : MT := (yX12_listen, cX12_listen, 7, (some .int))
theorem kX12_listen : CLV mX12_listen 1 := ⟨⟨(mt1 (List.mem_of_getElem? (i := 14) rfl) rfl), (mt8 (List.mem_of_getElem? (i := 205) rfl) rfl), ⟨by decide, by decide, by decide +kernel⟩, by decide⟩, (mt8 (List.mem_of_getElem? (i := 203) rfl) rfl), (mt8 (List.mem_of_getElem? (i := 204) rfl) rfl)⟩
abbrev mX12_cold : MT := (yX12_cold, cX12_cold, 9, (some .int))
theorem kX12_cold : CLV mX12_cold 3 := ⟨⟨(mt1 (List.mem_of_getElem? (i := 14) rfl) rfl), (mt8 (List.mem_of_getElem? (i := 209) rfl) rfl), ⟨by decide, by decide, by decide +kernel⟩, by decide⟩, (mt8 (List.mem_of_getElem? (i := 207) rfl) rfl), (mt8 (List.mem_of_getElem? (i := 208) rfl) rfl)⟩
abbrev mX12_gains : MT := (yX12_gains, cX12_gains, 7, (some .int))
theorem kX12_gains : CLV mX12_gains 4 := ⟨⟨(mt1 (List.mem_of_getElem? (i := 14) rfl) rfl), (mt8 (List.mem_of_getElem? (i := 217) rfl) rfl), ⟨by decide, by decide, by decide +kernel⟩, by decide⟩, (mt8 (List.mem_of_getElem? (i := 216) rfl) rfl), (mtp (List.mem_of_getElem? (i := 95) rfl) rfl)⟩
abbrev mX12_game : MT := (yX12_game, cX12_game, 9, (some .int))
theorem kX12_game : CLV mX12_game 3 := ⟨⟨(mt1 (List.mem_of_getElem? (i := 14) rfl) rfl), (mt8 (List.mem_of_getElem? (i := 213) rfl) rfl), ⟨by decide, by decide, by decide +kernel⟩, by decide⟩, (mt8 (List.mem_of_getElem? (i := 211) rfl) rfl), (mt8 (List.mem_of_getElem? (i := 212) rfl) rfl)⟩
abbrev mX12_draw : MT := (yX12_draw, cX12_draw, 2, (some .int))
theorem kX12_draw : CLV mX12_draw 1 := ⟨⟨(mt1 (List.mem_of_getElem? (i := 14) rfl) rfl), (mt8 (List.mem_of_getElem? (i := 229) rfl) rfl), ⟨by decide, by decide, by decide +kernel⟩, by decide⟩, (mt8 (List.mem_of_getElem? (i := 228) rfl) rfl), (mtp (List.mem_of_getElem? (i := 97) rfl) rfl)⟩
abbrev mX12_happens : MT := (yX12_happens, cX12_happens, 4, none)
theorem kX12_happens : CLV mX12_happens 0 := ⟨⟨(mt1 (List.mem_of_getElem? (i := 14) rfl) rfl), (mt8 (List.mem_of_getElem? (i := 225) rfl) rfl), ⟨by decide, by decide, by decide +kernel⟩, by decide⟩, (mt8 (List.mem_of_getElem? (i := 224) rfl) rfl), (mtp (List.mem_of_getElem? (i := 96) rfl) rfl)⟩
abbrev mX12_years : MT := (yX12_years, cX12_years, 8, (some .int))
theorem kX12_years : CLV mX12_years 3 := ⟨⟨(mt1 (List.mem_of_getElem? (i := 14) rfl) rfl), (mt8 (List.mem_of_getElem? (i := 221) rfl) rfl), ⟨by decide, by decide, by decide +kernel⟩, by decide⟩, (mt8 (List.mem_of_getElem? (i := 219) rfl) rfl), (mt8 (List.mem_of_getElem? (i := 220) rfl) rfl)⟩
abbrev mX12_image : MT := (yX12_image, cX12_image, 2, none)
theorem kX12_image : CLV mX12_image 0 := ⟨⟨(mt1 (List.mem_of_getElem? (i := 14) rfl) rfl), (mt8 (List.mem_of_getElem? (i := 234) rfl) rfl), ⟨by decide, by decide, by decide +kernel⟩, by decide⟩, (mt8 (List.mem_of_getElem? (i := 232) rfl) rfl), (mt8 (List.mem_of_getElem? (i := 233) rfl) rfl)⟩
abbrev mX12_restore : MT := (yX12_restore, cX12_restore, 2, (some .boolean))
theorem kX12_restore : CLV mX12_restore 0 := ⟨⟨(mt1 (List.mem_of_getElem? (i := 14) rfl) rfl), (mt8 (List.mem_of_getElem? (i := 238) rfl) rfl), ⟨by decide, by decide, by decide +kernel⟩, by decide⟩, (mt8 (List.mem_of_getElem? (i := 236) rfl) rfl), (mt8 (List.mem_of_getElem? (i := 237) rfl) rfl)⟩
abbrev mJ6_bitCount_0f7a4 : MT := (yJ6_bitCount_0f7a4, cJ6_bitCount_0f7a4, 1, (some .int))
theorem kJ6_bitCount_0f7a4 : CLS mJ6_bitCount_0f7a4 1 := ⟨⟨(mt1 (List.mem_of_getElem? (i := 26) rfl) rfl), (mt5 (List.mem_of_getElem? (i := 32) rfl) rfl), ⟨by decide, by decide, by decide +kernel⟩, by decide⟩, (mt5 (List.mem_of_getElem? (i := 31) rfl) rfl)⟩
abbrev mJ13_bitCount_95d88 : MT := (yJ13_bitCount_95d88, cJ13_bitCount_95d88, 2, (some .int))
theorem kJ13_bitCount_95d88 : CLS mJ13_bitCount_95d88 1 := ⟨⟨(mt1 (List.mem_of_getElem? (i := 27) rfl) rfl), (mt5 (List.mem_of_getElem? (i := 189) rfl) rfl), ⟨by decide, by decide, by decide +kernel⟩, by decide⟩, (mt5 (List.mem_of_getElem? (i := 188) rfl) rfl)⟩
abbrev mJ9_abs_0f7a4 : MT := (yJ9_abs_0f7a4, cJ9_abs_0f7a4, 1, (some .int))
theorem kJ9_abs_0f7a4 : CLS mJ9_abs_0f7a4 1 := ⟨⟨(mt1 (List.mem_of_getElem? (i := 19) rfl) rfl), (mt5 (List.mem_of_getElem? (i := 114) rfl) rfl), ⟨by decide, by decide, by decide +kernel⟩, by decide⟩, (mt5 (List.mem_of_getElem? (i := 113) rfl) rfl)⟩
abbrev mJ9_max_7cf53 : MT := (yJ9_max_7cf53, cJ9_max_7cf53, 2, (some .int))
theorem kJ9_max_7cf53 : CLS mJ9_max_7cf53 2 := ⟨⟨(mt1 (List.mem_of_getElem? (i := 19) rfl) rfl), (mt2 (List.mem_of_getElem? (i := 224) rfl) rfl), ⟨by decide, by decide, by decide +kernel⟩, by decide⟩, (mt2 (List.mem_of_getElem? (i := 223) rfl) rfl)⟩
abbrev mJ9_min_7cf53 : MT := (yJ9_min_7cf53, cJ9_min_7cf53, 2, (some .int))
theorem kJ9_min_7cf53 : CLS mJ9_min_7cf53 2 := ⟨⟨(mt1 (List.mem_of_getElem? (i := 19) rfl) rfl), (mt2 (List.mem_of_getElem? (i := 231) rfl) rfl), ⟨by decide, by decide, by decide +kernel⟩, by decide⟩, (mt2 (List.mem_of_getElem? (i := 230) rfl) rfl)⟩
abbrev mJ7_fill_d0a16 : MT := (yJ7_fill_d0a16, cJ7_fill_d0a16, 5, none)
theorem kJ7_fill_d0a16 : CLS mJ7_fill_d0a16 2 := ⟨⟨(mt1 (List.mem_of_getElem? (i := 6) rfl) rfl), (mt5 (List.mem_of_getElem? (i := 165) rfl) rfl), ⟨by decide, by decide, by decide +kernel⟩, by decide⟩, (mt5 (List.mem_of_getElem? (i := 164) rfl) rfl)⟩
abbrev mJ7_fill_53178 : MT := (yJ7_fill_53178, cJ7_fill_53178, 4, none)
theorem kJ7_fill_53178 : CLS mJ7_fill_53178 2 := ⟨⟨(mt1 (List.mem_of_getElem? (i := 6) rfl) rfl), (mt1 (List.mem_of_getElem? (i := 93) rfl) rfl), ⟨by decide, by decide, by decide +kernel⟩, by decide⟩, (mt1 (List.mem_of_getElem? (i := 92) rfl) rfl)⟩
theorem qX11_77 : Cond.methodLink RX11 77 yX10_append ∈ W0 := (mt2 (List.mem_of_getElem? (i := 156) rfl) rfl)
theorem qX11_81 : Cond.methodLink RX11 81 yX11_needRange ∈ W0 := (mt3 (List.mem_of_getElem? (i := 82) rfl) rfl)
theorem qX11_85 : Cond.methodLink RX11 85 yX7_read ∈ W0 := (mt3 (List.mem_of_getElem? (i := 151) rfl) rfl)
theorem qX11_105 : Cond.methodLink RX11 105 yX6_begin ∈ W0 := (mt4 (List.mem_of_getElem? (i := 93) rfl) rfl)
theorem qX11_109 : Cond.methodLink RX11 109 yX11_needWhat ∈ W0 := (mt4 (List.mem_of_getElem? (i := 105) rfl) rfl)
theorem qX11_126 : Cond.methodLink RX11 126 yX2_fillOfAll ∈ W0 := (mt4 (List.mem_of_getElem? (i := 124) rfl) rfl)
theorem qX11_130 : Cond.methodLink RX11 130 yX2_tipsOfAll ∈ W0 := (mt4 (List.mem_of_getElem? (i := 128) rfl) rfl)
theorem qX11_133 : Cond.methodLink RX11 133 yX2_roots ∈ W0 := (mt4 (List.mem_of_getElem? (i := 134) rfl) rfl)
theorem qX11_136 : Cond.methodLink RX11 136 yX11_alikeCouples ∈ W0 := (mt4 (List.mem_of_getElem? (i := 143) rfl) rfl)
theorem qX11_156 : Cond.methodLink RX11 156 yX11_needCup ∈ W0 := (mt4 (List.mem_of_getElem? (i := 154) rfl) rfl)
theorem qX11_168 : Cond.methodLink RX11 168 yX2_intoOfDrop ∈ W0 := (mt4 (List.mem_of_getElem? (i := 159) rfl) rfl)
theorem qX11_175 : Cond.methodLink RX11 175 yX2_isPlugged ∈ W0 := (mt4 (List.mem_of_getElem? (i := 163) rfl) rfl)
theorem qX11_179 : Cond.methodLink RX11 179 yX2_deepest ∈ W0 := (mt4 (List.mem_of_getElem? (i := 164) rfl) rfl)
theorem qX11_182 : Cond.methodLink RX11 182 yX11_refuseAct ∈ W0 := (mt2 (List.mem_of_getElem? (i := 168) rfl) rfl)
theorem qX11_185 : Cond.methodLink RX11 185 yX0_keep ∈ W0 := (mt2 (List.mem_of_getElem? (i := 172) rfl) rfl)
theorem qX11_188 : Cond.methodLink RX11 188 yX3_workOn ∈ W0 := (mt2 (List.mem_of_getElem? (i := 184) rfl) rfl)
theorem qX11_191 : Cond.methodLink RX11 191 yX3_goOn ∈ W0 := (mt2 (List.mem_of_getElem? (i := 189) rfl) rfl)
theorem qX11_194 : Cond.methodLink RX11 194 yX2_leadsJust ∈ W0 := (mt4 (List.mem_of_getElem? (i := 176) rfl) rfl)
theorem qX11_198 : Cond.methodLink RX11 198 yX2_setInto ∈ W0 := (mt4 (List.mem_of_getElem? (i := 180) rfl) rfl)
theorem qX11_201 : Cond.methodLink RX11 201 yX2_setPlugged ∈ W0 := (mt4 (List.mem_of_getElem? (i := 191) rfl) rfl)
theorem qX11_205 : Cond.methodLink RX11 205 yX3_fillUp ∈ W0 := (mt4 (List.mem_of_getElem? (i := 202) rfl) rfl)
theorem qX11_211 : Cond.methodLink RX11 211 yX2_setHolds ∈ W0 := (mt4 (List.mem_of_getElem? (i := 213) rfl) rfl)
theorem qX11_214 : Cond.methodLink RX11 214 yX0_takeBack ∈ W0 := (mt3 (List.mem_of_getElem? (i := 19) rfl) rfl)
theorem qX11_217 : Cond.methodLink RX11 217 yX11_lookAhead ∈ W0 := (mt3 (List.mem_of_getElem? (i := 35) rfl) rfl)
theorem qX11_224 : Cond.methodLink RX11 224 yX11_firstHourOfAll ∈ W0 := (mt4 (List.mem_of_getElem? (i := 238) rfl) rfl)
theorem qX11_227 : Cond.methodLink RX11 227 yX11_needCups ∈ W0 := (mt5 (List.mem_of_getElem? (i := 9) rfl) rfl)
theorem qX11_230 : Cond.methodLink RX11 230 yX11_longestSilence ∈ W0 := (mt5 (List.mem_of_getElem? (i := 21) rfl) rfl)
theorem qX11_233 : Cond.methodLink RX11 233 yX11_loudestHour ∈ W0 := (mt5 (List.mem_of_getElem? (i := 26) rfl) rfl)
theorem qX11_237 : Cond.methodLink RX11 237 yX4_reckon ∈ W0 := (mt5 (List.mem_of_getElem? (i := 44) rfl) rfl)
theorem qX11_244 : Cond.methodLink RX11 244 yX4_keepTimes ∈ W0 := (mt5 (List.mem_of_getElem? (i := 72) rfl) rfl)
theorem qX11_247 : Cond.methodLink RX11 247 yX4_allTippedSince ∈ W0 := (mt5 (List.mem_of_getElem? (i := 77) rfl) rfl)
theorem qX11_253 : Cond.methodLink RX11 253 yX2_allAbove ∈ W0 := (mt5 (List.mem_of_getElem? (i := 96) rfl) rfl)
theorem qX11_256 : Cond.methodLink RX11 256 yX2_allBelow ∈ W0 := (mt5 (List.mem_of_getElem? (i := 100) rfl) rfl)
theorem qX11_266 : Cond.methodLink RX11 266 yJ9_abs_0f7a4 ∈ W0 := (mt5 (List.mem_of_getElem? (i := 112) rfl) rfl)
theorem qX11_271 : Cond.methodLink RX11 271 yX11_leastOf ∈ W0 := (mt5 (List.mem_of_getElem? (i := 122) rfl) rfl)
theorem qX11_274 : Cond.methodLink RX11 274 yX5_note ∈ W0 := (mt5 (List.mem_of_getElem? (i := 133) rfl) rfl)
theorem qX11_278 : Cond.methodLink RX11 278 yX9_fitsAsItIs ∈ W0 := (mt5 (List.mem_of_getElem? (i := 144) rfl) rfl)
theorem qX11_282 : Cond.methodLink RX11 282 yX9_search ∈ W0 := (mt5 (List.mem_of_getElem? (i := 159) rfl) rfl)
theorem qX11_292 : Cond.methodLink RX11 292 yX9_unlikeIn ∈ W0 := (mt5 (List.mem_of_getElem? (i := 183) rfl) rfl)
theorem qX11_295 : Cond.methodLink RX11 295 yX3_passHour ∈ W0 := (mt5 (List.mem_of_getElem? (i := 200) rfl) rfl)
theorem qX11_300 : Cond.methodLink RX11 300 yX11_playAll ∈ W0 := (mt5 (List.mem_of_getElem? (i := 209) rfl) rfl)
theorem qX11_303 : Cond.methodLink RX11 303 yX11_drawAct ∈ W0 := (mt5 (List.mem_of_getElem? (i := 220) rfl) rfl)
theorem qX11_306 : Cond.methodLink RX11 306 yX3_timesOfAll ∈ W0 := (mt5 (List.mem_of_getElem? (i := 229) rfl) rfl)
theorem qX11_309 : Cond.methodLink RX11 309 yX3_neverTipped ∈ W0 := (mt5 (List.mem_of_getElem? (i := 233) rfl) rfl)
theorem qX11_312 : Cond.methodLink RX11 312 yJ6_bitCount_0f7a4 ∈ W0 := (mt5 (List.mem_of_getElem? (i := 30) rfl) rfl)
theorem qX11_317 : Cond.methodLink RX11 317 yX11_mostOf ∈ W0 := (mt6 (List.mem_of_getElem? (i := 4) rfl) rfl)
theorem qX11_321 : Cond.methodLink RX11 321 yX11_dryCups ∈ W0 := (mt6 (List.mem_of_getElem? (i := 8) rfl) rfl)
theorem qX11_328 : Cond.methodLink RX11 328 yX2_filledAs ∈ W0 := (mt3 (List.mem_of_getElem? (i := 48) rfl) rfl)
theorem qX11_332 : Cond.methodLink RX11 332 yX11_has ∈ W0 := (mt5 (List.mem_of_getElem? (i := 125) rfl) rfl)
theorem qX11_335 : Cond.methodLink RX11 335 yX2_straightBelow ∈ W0 := (mt6 (List.mem_of_getElem? (i := 33) rfl) rfl)
theorem qX11_338 : Cond.methodLink RX11 338 yX2_dropsInto ∈ W0 := (mt6 (List.mem_of_getElem? (i := 34) rfl) rfl)
theorem qX11_342 : Cond.methodLink RX11 342 yX2_rowsOfPipes ∈ W0 := (mt6 (List.mem_of_getElem? (i := 53) rfl) rfl)
theorem qX11_345 : Cond.methodLink RX11 345 yJ9_max_7cf53 ∈ W0 := (mt5 (List.mem_of_getElem? (i := 25) rfl) rfl)
theorem qX11_348 : Cond.methodLink RX11 348 yX6_copy ∈ W0 := (mt3 (List.mem_of_getElem? (i := 56) rfl) rfl)
theorem qX11_363 : Cond.methodLink RX11 363 yX3_workOnCopy ∈ W0 := (mt3 (List.mem_of_getElem? (i := 39) rfl) rfl)
theorem qX11_367 : Cond.methodLink RX11 367 yX11_draw ∈ W0 := (mt5 (List.mem_of_getElem? (i := 224) rfl) rfl)
theorem qX0_27 : Cond.methodLink RX0 27 yX2_save ∈ W0 := (mt2 (List.mem_of_getElem? (i := 179) rfl) rfl)
theorem qX0_31 : Cond.methodLink RX0 31 yX2_load ∈ W0 := (mt3 (List.mem_of_getElem? (i := 23) rfl) rfl)
theorem qX1_36 : Cond.methodLink RX1 36 yJ7_fill_53178 ∈ W0 := (mt3 (List.mem_of_getElem? (i := 159) rfl) rfl)
theorem qX1_42 : Cond.methodLink RX1 42 yX2_clear ∈ W0 := (mt3 (List.mem_of_getElem? (i := 160) rfl) rfl)
theorem qX1_45 : Cond.methodLink RX1 45 yX8_clear ∈ W0 := (mt3 (List.mem_of_getElem? (i := 161) rfl) rfl)
theorem qX1_55 : Cond.methodLink RX1 55 yX8_value ∈ W0 := (mt3 (List.mem_of_getElem? (i := 12) rfl) rfl)
theorem qX1_59 : Cond.methodLink RX1 59 yJ9_min_7cf53 ∈ W0 := (mt3 (List.mem_of_getElem? (i := 13) rfl) rfl)
theorem qX1_65 : Cond.methodLink RX1 65 yJ9_max_7cf53 ∈ W0 := (mt3 (List.mem_of_getElem? (i := 14) rfl) rfl)
theorem qX2_40 : Cond.methodLink RX2 40 yX2_clear ∈ W0 := (mt1 (List.mem_of_getElem? (i := 87) rfl) rfl)
theorem qX2_43 : Cond.methodLink RX2 43 yJ7_fill_53178 ∈ W0 := (mt1 (List.mem_of_getElem? (i := 91) rfl) rfl)
theorem qX2_55 : Cond.methodLink RX2 55 yJ9_min_7cf53 ∈ W0 := (mt4 (List.mem_of_getElem? (i := 133) rfl) rfl)
theorem qX2_69 : Cond.methodLink RX2 69 yX2_dropsIntoFirst ∈ W0 := (mt6 (List.mem_of_getElem? (i := 38) rfl) rfl)
theorem qX2_72 : Cond.methodLink RX2 72 yX2_straightBelow ∈ W0 := (mt4 (List.mem_of_getElem? (i := 138) rfl) rfl)
theorem qX2_75 : Cond.methodLink RX2 75 yJ9_max_7cf53 ∈ W0 := (mt4 (List.mem_of_getElem? (i := 168) rfl) rfl)
theorem qX3_42 : Cond.methodLink RX3 42 yJ7_fill_53178 ∈ W0 := (mt2 (List.mem_of_getElem? (i := 188) rfl) rfl)
theorem qX3_48 : Cond.methodLink RX3 48 yX2_copy ∈ W0 := (mt3 (List.mem_of_getElem? (i := 43) rfl) rfl)
theorem qX3_52 : Cond.methodLink RX3 52 yX3_workOn ∈ W0 := (mt3 (List.mem_of_getElem? (i := 47) rfl) rfl)
theorem qX3_55 : Cond.methodLink RX3 55 yX3_passHour ∈ W0 := (mt2 (List.mem_of_getElem? (i := 193) rfl) rfl)
theorem qX3_61 : Cond.methodLink RX3 61 yX3_springRuns ∈ W0 := (mt2 (List.mem_of_getElem? (i := 197) rfl) rfl)
theorem qX3_68 : Cond.methodLink RX3 68 yX3_tip ∈ W0 := (mt2 (List.mem_of_getElem? (i := 218) rfl) rfl)
theorem qX3_72 : Cond.methodLink RX3 72 yX1_leak ∈ W0 := (mt3 (List.mem_of_getElem? (i := 8) rfl) rfl)
theorem qX3_81 : Cond.methodLink RX3 81 yX2_isPlugged ∈ W0 := (mt2 (List.mem_of_getElem? (i := 201) rfl) rfl)
theorem qX3_95 : Cond.methodLink RX3 95 yX8_value ∈ W0 := (mt2 (List.mem_of_getElem? (i := 208) rfl) rfl)
theorem qX3_102 : Cond.methodLink RX3 102 yJ9_max_7cf53 ∈ W0 := (mt2 (List.mem_of_getElem? (i := 222) rfl) rfl)
theorem qX3_116 : Cond.methodLink RX3 116 yJ9_min_7cf53 ∈ W0 := (mt2 (List.mem_of_getElem? (i := 229) rfl) rfl)
theorem qX3_119 : Cond.methodLink RX3 119 yX3_letGo ∈ W0 := (mt2 (List.mem_of_getElem? (i := 232) rfl) rfl)
theorem qX3_122 : Cond.methodLink RX3 122 yX2_dropsIntoFirst ∈ W0 := (mt2 (List.mem_of_getElem? (i := 236) rfl) rfl)
theorem qX3_128 : Cond.methodLink RX3 128 yX3_give ∈ W0 := (mt3 (List.mem_of_getElem? (i := 0) rfl) rfl)
theorem qX3_134 : Cond.methodLink RX3 134 yX2_passTurns ∈ W0 := (mt3 (List.mem_of_getElem? (i := 4) rfl) rfl)
theorem qX4_21 : Cond.methodLink RX4 21 yJ7_fill_53178 ∈ W0 := (mt5 (List.mem_of_getElem? (i := 48) rfl) rfl)
theorem qX4_33 : Cond.methodLink RX4 33 yX2_isPlugged ∈ W0 := (mt5 (List.mem_of_getElem? (i := 49) rfl) rfl)
theorem qX4_47 : Cond.methodLink RX4 47 yJ9_max_7cf53 ∈ W0 := (mt5 (List.mem_of_getElem? (i := 50) rfl) rfl)
theorem qX4_53 : Cond.methodLink RX4 53 yX2_dropsIntoFirst ∈ W0 := (mt5 (List.mem_of_getElem? (i := 51) rfl) rfl)
theorem qX4_59 : Cond.methodLink RX4 59 yX4_give ∈ W0 := (mt5 (List.mem_of_getElem? (i := 52) rfl) rfl)
theorem qX6_30 : Cond.methodLink RX6 30 yX2_copy ∈ W0 := (mt3 (List.mem_of_getElem? (i := 60) rfl) rfl)
theorem qX6_41 : Cond.methodLink RX6 41 yX0_copy ∈ W0 := (mt3 (List.mem_of_getElem? (i := 61) rfl) rfl)
theorem qX6_44 : Cond.methodLink RX6 44 yX5_copy ∈ W0 := (mt3 (List.mem_of_getElem? (i := 65) rfl) rfl)
theorem qX7_39 : Cond.methodLink RX7 39 yX1_clear ∈ W0 := (mt3 (List.mem_of_getElem? (i := 155) rfl) rfl)
theorem qX7_42 : Cond.methodLink RX7 42 yX10_begin ∈ W0 := (mt3 (List.mem_of_getElem? (i := 165) rfl) rfl)
theorem qX7_51 : Cond.methodLink RX7 51 yX10_isWord ∈ W0 := (mt3 (List.mem_of_getElem? (i := 185) rfl) rfl)
theorem qX7_55 : Cond.methodLink RX7 55 yX7_readCup ∈ W0 := (mt3 (List.mem_of_getElem? (i := 237) rfl) rfl)
theorem qX7_60 : Cond.methodLink RX7 60 yX7_readPipe ∈ W0 := (mt4 (List.mem_of_getElem? (i := 27) rfl) rfl)
theorem qX7_64 : Cond.methodLink RX7 64 yX7_readRule ∈ W0 := (mt4 (List.mem_of_getElem? (i := 40) rfl) rfl)
theorem qX7_72 : Cond.methodLink RX7 72 yX7_fail ∈ W0 := (mt4 (List.mem_of_getElem? (i := 1) rfl) rfl)
theorem qX7_79 : Cond.methodLink RX7 79 yX10_isSign ∈ W0 := (mt4 (List.mem_of_getElem? (i := 18) rfl) rfl)
theorem qX7_83 : Cond.methodLink RX7 83 yX10_take ∈ W0 := (mt4 (List.mem_of_getElem? (i := 5) rfl) rfl)
theorem qX7_89 : Cond.methodLink RX7 89 yX7_readNumber ∈ W0 := (mt4 (List.mem_of_getElem? (i := 6) rfl) rfl)
theorem qX7_93 : Cond.methodLink RX7 93 yX7_readSign ∈ W0 := (mt4 (List.mem_of_getElem? (i := 14) rfl) rfl)
theorem qX7_97 : Cond.methodLink RX7 97 yX1_addCup ∈ W0 := (mt4 (List.mem_of_getElem? (i := 22) rfl) rfl)
theorem qX7_104 : Cond.methodLink RX7 104 yX10_isTooLong ∈ W0 := (mt4 (List.mem_of_getElem? (i := 10) rfl) rfl)
theorem qX7_108 : Cond.methodLink RX7 108 yX7_lookAtCup ∈ W0 := (mt4 (List.mem_of_getElem? (i := 31) rfl) rfl)
theorem qX7_122 : Cond.methodLink RX7 122 yX7_readInto ∈ W0 := (mt4 (List.mem_of_getElem? (i := 35) rfl) rfl)
theorem qX7_134 : Cond.methodLink RX7 134 yX7_readExpr ∈ W0 := (mt4 (List.mem_of_getElem? (i := 44) rfl) rfl)
theorem qX7_137 : Cond.methodLink RX7 137 yX7_readAnd ∈ W0 := (mt4 (List.mem_of_getElem? (i := 48) rfl) rfl)
theorem qX7_142 : Cond.methodLink RX7 142 yX8_add ∈ W0 := (mt4 (List.mem_of_getElem? (i := 73) rfl) rfl)
theorem qX7_145 : Cond.methodLink RX7 145 yX7_readNot ∈ W0 := (mt4 (List.mem_of_getElem? (i := 52) rfl) rfl)
theorem qX7_152 : Cond.methodLink RX7 152 yX7_readTest ∈ W0 := (mt4 (List.mem_of_getElem? (i := 57) rfl) rfl)
theorem qX7_155 : Cond.methodLink RX7 155 yX7_readSum ∈ W0 := (mt4 (List.mem_of_getElem? (i := 61) rfl) rfl)
theorem qX7_158 : Cond.methodLink RX7 158 yX7_readProduct ∈ W0 := (mt4 (List.mem_of_getElem? (i := 65) rfl) rfl)
theorem qX7_161 : Cond.methodLink RX7 161 yX7_readPart ∈ W0 := (mt4 (List.mem_of_getElem? (i := 69) rfl) rfl)
theorem qX7_164 : Cond.methodLink RX7 164 yX7_readValue ∈ W0 := (mt4 (List.mem_of_getElem? (i := 77) rfl) rfl)
theorem qX7_167 : Cond.methodLink RX7 167 yX7_valueSign ∈ W0 := (mt4 (List.mem_of_getElem? (i := 81) rfl) rfl)
theorem qX8_26 : Cond.methodLink RX8 26 yX8_valueOf ∈ W0 := (mt2 (List.mem_of_getElem? (i := 212) rfl) rfl)
theorem qX8_30 : Cond.methodLink RX8 30 yX8_joined ∈ W0 := (mt2 (List.mem_of_getElem? (i := 215) rfl) rfl)
theorem qX9_32 : Cond.methodLink RX9 32 yX3_workOnCopy ∈ W0 := (mt5 (List.mem_of_getElem? (i := 148) rfl) rfl)
theorem qX9_42 : Cond.methodLink RX9 42 yX9_fits ∈ W0 := (mt5 (List.mem_of_getElem? (i := 149) rfl) rfl)
theorem qX9_54 : Cond.methodLink RX9 54 yJ7_fill_d0a16 ∈ W0 := (mt5 (List.mem_of_getElem? (i := 163) rfl) rfl)
theorem qX9_61 : Cond.methodLink RX9 61 yX2_setInto ∈ W0 := (mt5 (List.mem_of_getElem? (i := 166) rfl) rfl)
theorem qX9_67 : Cond.methodLink RX9 67 yX2_leadsJust ∈ W0 := (mt5 (List.mem_of_getElem? (i := 167) rfl) rfl)
theorem qX9_71 : Cond.methodLink RX9 71 yX9_keepFound ∈ W0 := (mt5 (List.mem_of_getElem? (i := 168) rfl) rfl)
theorem qX9_74 : Cond.methodLink RX9 74 yX9_keepSets ∈ W0 := (mt5 (List.mem_of_getElem? (i := 172) rfl) rfl)
theorem qX9_77 : Cond.methodLink RX9 77 yX3_passHour ∈ W0 := (mt5 (List.mem_of_getElem? (i := 153) rfl) rfl)
theorem qX9_83 : Cond.methodLink RX9 83 yX5_agrees ∈ W0 := (mt5 (List.mem_of_getElem? (i := 154) rfl) rfl)
theorem qX9_88 : Cond.methodLink RX9 88 yJ13_bitCount_95d88 ∈ W0 := (mt5 (List.mem_of_getElem? (i := 187) rfl) rfl)
theorem qX10_34 : Cond.methodLink RX10 34 yJ9_min_7cf53 ∈ W0 := (mt3 (List.mem_of_getElem? (i := 169) rfl) rfl)
theorem qX10_40 : Cond.methodLink RX10 40 yJ9_max_7cf53 ∈ W0 := (mt3 (List.mem_of_getElem? (i := 170) rfl) rfl)
theorem qX10_43 : Cond.methodLink RX10 43 yX10_take ∈ W0 := (mt3 (List.mem_of_getElem? (i := 171) rfl) rfl)
theorem qX10_46 : Cond.methodLink RX10 46 yX10_isBlank ∈ W0 := (mt3 (List.mem_of_getElem? (i := 175) rfl) rfl)
theorem qX10_50 : Cond.methodLink RX10 50 yX10_isLetter ∈ W0 := (mt3 (List.mem_of_getElem? (i := 178) rfl) rfl)
theorem qX10_53 : Cond.methodLink RX10 53 yX10_isDigit ∈ W0 := (mt3 (List.mem_of_getElem? (i := 181) rfl) rfl)
theorem qL_7 : Cond.methodLink RL 7 yX11_cave ∈ W0 := (mt3 (List.mem_of_getElem? (i := 78) rfl) rfl)
theorem qL_15 : Cond.methodLink RL 15 yX11_count ∈ W0 := (mt4 (List.mem_of_getElem? (i := 101) rfl) rfl)
theorem qL_20 : Cond.methodLink RL 20 yX11_cup ∈ W0 := (mt4 (List.mem_of_getElem? (i := 150) rfl) rfl)
theorem qL_24 : Cond.methodLink RL 24 yX11_lead ∈ W0 := (mt4 (List.mem_of_getElem? (i := 172) rfl) rfl)
theorem qL_28 : Cond.methodLink RL 28 yX11_plug ∈ W0 := (mt4 (List.mem_of_getElem? (i := 187) rfl) rfl)
theorem qL_32 : Cond.methodLink RL 32 yX11_pour ∈ W0 := (mt4 (List.mem_of_getElem? (i := 198) rfl) rfl)
theorem qL_35 : Cond.methodLink RL 35 yX11_crack ∈ W0 := (mt4 (List.mem_of_getElem? (i := 209) rfl) rfl)
theorem qL_38 : Cond.methodLink RL 38 yX11_then ∈ W0 := (mt4 (List.mem_of_getElem? (i := 220) rfl) rfl)
theorem qL_42 : Cond.methodLink RL 42 yX11_tipping ∈ W0 := (mt4 (List.mem_of_getElem? (i := 227) rfl) rfl)
theorem qL_45 : Cond.methodLink RL 45 yX11_next ∈ W0 := (mt4 (List.mem_of_getElem? (i := 234) rfl) rfl)
theorem qL_48 : Cond.methodLink RL 48 yX11_together ∈ W0 := (mt5 (List.mem_of_getElem? (i := 5) rfl) rfl)
theorem qL_51 : Cond.methodLink RL 51 yX11_sound ∈ W0 := (mt5 (List.mem_of_getElem? (i := 17) rfl) rfl)
theorem qL_54 : Cond.methodLink RL 54 yX11_fallen ∈ W0 := (mt5 (List.mem_of_getElem? (i := 39) rfl) rfl)
theorem qL_57 : Cond.methodLink RL 57 yX11_nth ∈ W0 := (mt5 (List.mem_of_getElem? (i := 59) rfl) rfl)
theorem qL_60 : Cond.methodLink RL 60 yX11_meeting ∈ W0 := (mt5 (List.mem_of_getElem? (i := 68) rfl) rfl)
theorem qL_63 : Cond.methodLink RL 63 yX11_flow ∈ W0 := (mt5 (List.mem_of_getElem? (i := 85) rfl) rfl)
theorem qL_66 : Cond.methodLink RL 66 yX11_tier ∈ W0 := (mt5 (List.mem_of_getElem? (i := 92) rfl) rfl)
theorem qL_69 : Cond.methodLink RL 69 yX11_toCrack ∈ W0 := (mt5 (List.mem_of_getElem? (i := 107) rfl) rfl)
theorem qL_73 : Cond.methodLink RL 73 yX11_office ∈ W0 := (mt5 (List.mem_of_getElem? (i := 118) rfl) rfl)
theorem qL_76 : Cond.methodLink RL 76 yX11_hear ∈ W0 := (mt5 (List.mem_of_getElem? (i := 129) rfl) rfl)
theorem qL_80 : Cond.methodLink RL 80 yX11_led ∈ W0 := (mt5 (List.mem_of_getElem? (i := 140) rfl) rfl)
theorem qL_83 : Cond.methodLink RL 83 yX11_listen ∈ W0 := (mt5 (List.mem_of_getElem? (i := 179) rfl) rfl)
theorem qL_86 : Cond.methodLink RL 86 yX11_cold ∈ W0 := (mt5 (List.mem_of_getElem? (i := 196) rfl) rfl)
theorem qL_89 : Cond.methodLink RL 89 yX11_game ∈ W0 := (mt5 (List.mem_of_getElem? (i := 204) rfl) rfl)
theorem qL_92 : Cond.methodLink RL 92 yX11_years ∈ W0 := (mt5 (List.mem_of_getElem? (i := 216) rfl) rfl)
theorem qL_95 : Cond.methodLink RL 95 yX11_later ∈ W0 := (mt6 (List.mem_of_getElem? (i := 0) rfl) rfl)
theorem qL_98 : Cond.methodLink RL 98 yX11_oftenest ∈ W0 := (mt6 (List.mem_of_getElem? (i := 15) rfl) rfl)
theorem qL_101 : Cond.methodLink RL 101 yX11_pause ∈ W0 := (mt6 (List.mem_of_getElem? (i := 22) rfl) rfl)
theorem qL_104 : Cond.methodLink RL 104 yX11_giver ∈ W0 := (mt6 (List.mem_of_getElem? (i := 29) rfl) rfl)
theorem qL_107 : Cond.methodLink RL 107 yX11_toPour ∈ W0 := (mt6 (List.mem_of_getElem? (i := 42) rfl) rfl)
theorem qL_110 : Cond.methodLink RL 110 yX11_ways ∈ W0 := (mt6 (List.mem_of_getElem? (i := 49) rfl) rfl)
theorem qL_113 : Cond.methodLink RL 113 yX11_chorus ∈ W0 := (mt6 (List.mem_of_getElem? (i := 60) rfl) rfl)
theorem qL_116 : Cond.methodLink RL 116 yX11_never ∈ W0 := (mt6 (List.mem_of_getElem? (i := 67) rfl) rfl)
theorem qL_119 : Cond.methodLink RL 119 yX11_swell ∈ W0 := (mt6 (List.mem_of_getElem? (i := 74) rfl) rfl)
theorem qL_126 : Cond.methodLink RL 126 yX11_feed ∈ W0 := (mt2 (List.mem_of_getElem? (i := 152) rfl) rfl)
theorem qL_130 : Cond.methodLink RL 130 yX12_feed ∈ W0 := (mt7 (List.mem_of_getElem? (i := 30) rfl) rfl)
theorem qL_136 : Cond.methodLink RL 136 yX12_cave ∈ W0 := (mt7 (List.mem_of_getElem? (i := 38) rfl) rfl)
theorem qL_137 : Cond.methodLink RL 137 yX12_thrown ∈ W0 := (mt7 (List.mem_of_getElem? (i := 26) rfl) rfl)
theorem qL_141 : Cond.methodLink RL 141 yX11_fault ∈ W0 := (mt2 (List.mem_of_getElem? (i := 160) rfl) rfl)
theorem qL_144 : Cond.methodLink RL 144 yX12_fault ∈ W0 := (mt7 (List.mem_of_getElem? (i := 157) rfl) rfl)
theorem qL_147 : Cond.methodLink RL 147 yX12_count ∈ W0 := (mt7 (List.mem_of_getElem? (i := 165) rfl) rfl)
theorem qL_151 : Cond.methodLink RL 151 yX12_cup ∈ W0 := (mt7 (List.mem_of_getElem? (i := 200) rfl) rfl)
theorem qL_152 : Cond.methodLink RL 152 yX11_hours ∈ W0 := (mt2 (List.mem_of_getElem? (i := 164) rfl) rfl)
theorem qL_155 : Cond.methodLink RL 155 yX12_hours ∈ W0 := (mt7 (List.mem_of_getElem? (i := 223) rfl) rfl)
theorem qL_158 : Cond.methodLink RL 158 yX12_lead ∈ W0 := (mt8 (List.mem_of_getElem? (i := 29) rfl) rfl)
theorem qL_162 : Cond.methodLink RL 162 yX12_plug ∈ W0 := (mt8 (List.mem_of_getElem? (i := 37) rfl) rfl)
theorem qL_165 : Cond.methodLink RL 165 yX12_pour ∈ W0 := (mt8 (List.mem_of_getElem? (i := 41) rfl) rfl)
theorem qL_168 : Cond.methodLink RL 168 yX12_crack ∈ W0 := (mt8 (List.mem_of_getElem? (i := 49) rfl) rfl)
theorem qL_169 : Cond.methodLink RL 169 yX11_undo ∈ W0 := (mt3 (List.mem_of_getElem? (i := 15) rfl) rfl)
theorem qL_172 : Cond.methodLink RL 172 yX12_undo ∈ W0 := (mt7 (List.mem_of_getElem? (i := 161) rfl) rfl)
theorem qL_176 : Cond.methodLink RL 176 yX12_then ∈ W0 := (mt8 (List.mem_of_getElem? (i := 57) rfl) rfl)
theorem qL_179 : Cond.methodLink RL 179 yX12_tipping ∈ W0 := (mt8 (List.mem_of_getElem? (i := 69) rfl) rfl)
theorem qL_182 : Cond.methodLink RL 182 yX12_next ∈ W0 := (mt8 (List.mem_of_getElem? (i := 77) rfl) rfl)
theorem qL_185 : Cond.methodLink RL 185 yX12_together ∈ W0 := (mt8 (List.mem_of_getElem? (i := 85) rfl) rfl)
theorem qL_188 : Cond.methodLink RL 188 yX12_sound ∈ W0 := (mt8 (List.mem_of_getElem? (i := 97) rfl) rfl)
theorem qL_191 : Cond.methodLink RL 191 yX12_fallen ∈ W0 := (mt8 (List.mem_of_getElem? (i := 128) rfl) rfl)
theorem qL_194 : Cond.methodLink RL 194 yX12_nth ∈ W0 := (mt8 (List.mem_of_getElem? (i := 145) rfl) rfl)
theorem qL_197 : Cond.methodLink RL 197 yX12_meeting ∈ W0 := (mt8 (List.mem_of_getElem? (i := 151) rfl) rfl)
theorem qL_200 : Cond.methodLink RL 200 yX12_flow ∈ W0 := (mt8 (List.mem_of_getElem? (i := 141) rfl) rfl)
theorem qL_203 : Cond.methodLink RL 203 yX12_tier ∈ W0 := (mt8 (List.mem_of_getElem? (i := 159) rfl) rfl)
theorem qL_207 : Cond.methodLink RL 207 yX12_toCrack ∈ W0 := (mt8 (List.mem_of_getElem? (i := 167) rfl) rfl)
theorem qL_210 : Cond.methodLink RL 210 yX12_office ∈ W0 := (mt8 (List.mem_of_getElem? (i := 175) rfl) rfl)
theorem qL_214 : Cond.methodLink RL 214 yX12_hear ∈ W0 := (mt8 (List.mem_of_getElem? (i := 182) rfl) rfl)
theorem qL_215 : Cond.methodLink RL 215 yX11_forget ∈ W0 := (mt3 (List.mem_of_getElem? (i := 27) rfl) rfl)
theorem qL_218 : Cond.methodLink RL 218 yX12_forget ∈ W0 := (mt8 (List.mem_of_getElem? (i := 186) rfl) rfl)
theorem qL_221 : Cond.methodLink RL 221 yX12_led ∈ W0 := (mt8 (List.mem_of_getElem? (i := 190) rfl) rfl)
theorem qL_224 : Cond.methodLink RL 224 yX12_listen ∈ W0 := (mt8 (List.mem_of_getElem? (i := 202) rfl) rfl)
theorem qL_227 : Cond.methodLink RL 227 yX12_cold ∈ W0 := (mt8 (List.mem_of_getElem? (i := 206) rfl) rfl)
theorem qL_230 : Cond.methodLink RL 230 yX12_game ∈ W0 := (mt8 (List.mem_of_getElem? (i := 210) rfl) rfl)
theorem qL_233 : Cond.methodLink RL 233 yX12_years ∈ W0 := (mt8 (List.mem_of_getElem? (i := 218) rfl) rfl)
theorem qL_236 : Cond.methodLink RL 236 yX12_later ∈ W0 := (mt8 (List.mem_of_getElem? (i := 116) rfl) rfl)
theorem qL_239 : Cond.methodLink RL 239 yX12_oftenest ∈ W0 := (mt8 (List.mem_of_getElem? (i := 120) rfl) rfl)
theorem qL_240 : Cond.methodLink RL 240 yX11_round ∈ W0 := (mt3 (List.mem_of_getElem? (i := 31) rfl) rfl)
theorem qL_243 : Cond.methodLink RL 243 yX12_round ∈ W0 := (mt8 (List.mem_of_getElem? (i := 124) rfl) rfl)
theorem qL_246 : Cond.methodLink RL 246 yX12_pause ∈ W0 := (mt8 (List.mem_of_getElem? (i := 93) rfl) rfl)
theorem qL_249 : Cond.methodLink RL 249 yX12_giver ∈ W0 := (mt8 (List.mem_of_getElem? (i := 155) rfl) rfl)
theorem qL_252 : Cond.methodLink RL 252 yX12_toPour ∈ W0 := (mt8 (List.mem_of_getElem? (i := 171) rfl) rfl)
theorem qL_255 : Cond.methodLink RL 255 yX12_ways ∈ W0 := (mt8 (List.mem_of_getElem? (i := 163) rfl) rfl)
theorem qL_258 : Cond.methodLink RL 258 yX12_chorus ∈ W0 := (mt8 (List.mem_of_getElem? (i := 104) rfl) rfl)
theorem qL_261 : Cond.methodLink RL 261 yX12_never ∈ W0 := (mt8 (List.mem_of_getElem? (i := 108) rfl) rfl)
theorem qL_264 : Cond.methodLink RL 264 yX12_swell ∈ W0 := (mt8 (List.mem_of_getElem? (i := 112) rfl) rfl)
theorem qL_265 : Cond.methodLink RL 265 yX11_image ∈ W0 := (mt3 (List.mem_of_getElem? (i := 52) rfl) rfl)
theorem qL_268 : Cond.methodLink RL 268 yX12_image ∈ W0 := (mt8 (List.mem_of_getElem? (i := 231) rfl) rfl)
theorem qL_269 : Cond.methodLink RL 269 yX11_restore ∈ W0 := (mt3 (List.mem_of_getElem? (i := 70) rfl) rfl)
theorem qL_273 : Cond.methodLink RL 273 yX12_restore ∈ W0 := (mt8 (List.mem_of_getElem? (i := 235) rfl) rfl)
theorem qX12_120 : Cond.methodLink RX12 120 yX12_lays ∈ W0 := (mt7 (List.mem_of_getElem? (i := 34) rfl) rfl)
theorem qX12_130 : Cond.methodLink RX12 130 yX12_byteAt ∈ W0 := (mt7 (List.mem_of_getElem? (i := 50) rfl) rfl)
theorem qX12_150 : Cond.methodLink RX12 150 yX12_isLetter ∈ W0 := (mt7 (List.mem_of_getElem? (i := 54) rfl) rfl)
theorem qX12_154 : Cond.methodLink RX12 154 yX12_isDigit ∈ W0 := (mt7 (List.mem_of_getElem? (i := 57) rfl) rfl)
theorem qX12_162 : Cond.methodLink RX12 162 yX12_spelled ∈ W0 := (mt7 (List.mem_of_getElem? (i := 75) rfl) rfl)
theorem qX12_166 : Cond.methodLink RX12 166 yX12_letters ∈ W0 := (mt7 (List.mem_of_getElem? (i := 72) rfl) rfl)
theorem qX12_173 : Cond.methodLink RX12 173 yX12_isGood ∈ W0 := (mt7 (List.mem_of_getElem? (i := 60) rfl) rfl)
theorem qX12_177 : Cond.methodLink RX12 177 yX12_goes ∈ W0 := (mt7 (List.mem_of_getElem? (i := 46) rfl) rfl)
theorem qX12_180 : Cond.methodLink RX12 180 yX12_wrong ∈ W0 := (mt7 (List.mem_of_getElem? (i := 83) rfl) rfl)
theorem qX12_192 : Cond.methodLink RX12 192 yX12_isOpen ∈ W0 := (mt7 (List.mem_of_getElem? (i := 135) rfl) rfl)
theorem qX12_195 : Cond.methodLink RX12 195 yX12_strength ∈ W0 := (mt7 (List.mem_of_getElem? (i := 138) rfl) rfl)
theorem qX12_198 : Cond.methodLink RX12 198 yX12_puts ∈ W0 := (mt7 (List.mem_of_getElem? (i := 127) rfl) rfl)
theorem qX12_201 : Cond.methodLink RX12 201 yX12_knownWord ∈ W0 := (mt7 (List.mem_of_getElem? (i := 68) rfl) rfl)
theorem qX12_208 : Cond.methodLink RX12 208 yX12_isSign ∈ W0 := (mt7 (List.mem_of_getElem? (i := 111) rfl) rfl)
theorem qX12_211 : Cond.methodLink RX12 211 yX12_waitsFor ∈ W0 := (mt7 (List.mem_of_getElem? (i := 119) rfl) rfl)
theorem qX12_214 : Cond.methodLink RX12 214 yX12_deeper ∈ W0 := (mt7 (List.mem_of_getElem? (i := 107) rfl) rfl)
theorem qX12_217 : Cond.methodLink RX12 217 yX12_part ∈ W0 := (mt7 (List.mem_of_getElem? (i := 123) rfl) rfl)
theorem qX12_220 : Cond.methodLink RX12 220 yX12_drops ∈ W0 := (mt7 (List.mem_of_getElem? (i := 131) rfl) rfl)
theorem qX12_223 : Cond.methodLink RX12 223 yX12_operand ∈ W0 := (mt7 (List.mem_of_getElem? (i := 115) rfl) rfl)
theorem qX12_227 : Cond.methodLink RX12 227 yX12_isOpened ∈ W0 := (mt7 (List.mem_of_getElem? (i := 141) rfl) rfl)
theorem qX12_230 : Cond.methodLink RX12 230 yX12_closes ∈ W0 := (mt7 (List.mem_of_getElem? (i := 145) rfl) rfl)
theorem qX12_233 : Cond.methodLink RX12 233 yX12_number ∈ W0 := (mt7 (List.mem_of_getElem? (i := 91) rfl) rfl)
theorem qX12_237 : Cond.methodLink RX12 237 yX12_isCupHere ∈ W0 := (mt7 (List.mem_of_getElem? (i := 99) rfl) rfl)
theorem qX12_240 : Cond.methodLink RX12 240 yX12_begins ∈ W0 := (mt7 (List.mem_of_getElem? (i := 79) rfl) rfl)
theorem qX12_244 : Cond.methodLink RX12 244 yX12_readsCup ∈ W0 := (mt7 (List.mem_of_getElem? (i := 87) rfl) rfl)
theorem qX12_247 : Cond.methodLink RX12 247 yX12_readsPipe ∈ W0 := (mt7 (List.mem_of_getElem? (i := 95) rfl) rfl)
theorem qX12_253 : Cond.methodLink RX12 253 yX12_expression ∈ W0 := (mt7 (List.mem_of_getElem? (i := 103) rfl) rfl)
theorem qX12_259 : Cond.methodLink RX12 259 yX12_need ∈ W0 := (mt7 (List.mem_of_getElem? (i := 149) rfl) rfl)
theorem qX12_262 : Cond.methodLink RX12 262 yX12_right ∈ W0 := (mt7 (List.mem_of_getElem? (i := 42) rfl) rfl)
theorem qX12_266 : Cond.methodLink RX12 266 yX12_line ∈ W0 := (mt7 (List.mem_of_getElem? (i := 64) rfl) rfl)
theorem qX12_272 : Cond.methodLink RX12 272 yX12_copies ∈ W0 := (mt7 (List.mem_of_getElem? (i := 153) rfl) rfl)
theorem qX12_286 : Cond.methodLink RX12 286 yX12_works ∈ W0 := (mt8 (List.mem_of_getElem? (i := 15) rfl) rfl)
theorem qX12_290 : Cond.methodLink RX12 290 yX12_reckons ∈ W0 := (mt8 (List.mem_of_getElem? (i := 11) rfl) rfl)
theorem qX12_297 : Cond.methodLink RX12 297 yX12_lesser ∈ W0 := (mt7 (List.mem_of_getElem? (i := 181) rfl) rfl)
theorem qX12_303 : Cond.methodLink RX12 303 yX12_falls ∈ W0 := (mt8 (List.mem_of_getElem? (i := 22) rfl) rfl)
theorem qX12_307 : Cond.methodLink RX12 307 yX12_asks ∈ W0 := (mt8 (List.mem_of_getElem? (i := 7) rfl) rfl)
theorem qX12_310 : Cond.methodLink RX12 310 yX12_begins0 ∈ W0 := (mt7 (List.mem_of_getElem? (i := 239) rfl) rfl)
theorem qX12_313 : Cond.methodLink RX12 313 yX12_runs ∈ W0 := (mt8 (List.mem_of_getElem? (i := 3) rfl) rfl)
theorem qX12_317 : Cond.methodLink RX12 317 yX12_gets ∈ W0 := (mt8 (List.mem_of_getElem? (i := 18) rfl) rfl)
theorem qX12_320 : Cond.methodLink RX12 320 yX12_bounded ∈ W0 := (mt8 (List.mem_of_getElem? (i := 26) rfl) rfl)
theorem qX12_323 : Cond.methodLink RX12 323 yX12_hourGoes ∈ W0 := (mt7 (List.mem_of_getElem? (i := 235) rfl) rfl)
theorem qX12_326 : Cond.methodLink RX12 326 yX12_giversOf ∈ W0 := (mt7 (List.mem_of_getElem? (i := 188) rfl) rfl)
theorem qX12_329 : Cond.methodLink RX12 329 yX12_goesInto ∈ W0 := (mt7 (List.mem_of_getElem? (i := 192) rfl) rfl)
theorem qX12_332 : Cond.methodLink RX12 332 yX12_within ∈ W0 := (mt7 (List.mem_of_getElem? (i := 169) rfl) rfl)
theorem qX12_336 : Cond.methodLink RX12 336 yX12_plugged ∈ W0 := (mt7 (List.mem_of_getElem? (i := 172) rfl) rfl)
theorem qX12_339 : Cond.methodLink RX12 339 yX12_sumOf ∈ W0 := (mt7 (List.mem_of_getElem? (i := 176) rfl) rfl)
theorem qX12_342 : Cond.methodLink RX12 342 yX12_roots ∈ W0 := (mt7 (List.mem_of_getElem? (i := 184) rfl) rfl)
theorem qX12_345 : Cond.methodLink RX12 345 yX12_alike ∈ W0 := (mt7 (List.mem_of_getElem? (i := 196) rfl) rfl)
theorem qX12_348 : Cond.methodLink RX12 348 yX12_greater ∈ W0 := (mt7 (List.mem_of_getElem? (i := 220) rfl) rfl)
theorem qX12_351 : Cond.methodLink RX12 351 yX12_isCup ∈ W0 := (mt7 (List.mem_of_getElem? (i := 204) rfl) rfl)
theorem qX12_354 : Cond.methodLink RX12 354 yX12_isWhat ∈ W0 := (mt7 (List.mem_of_getElem? (i := 208) rfl) rfl)
theorem qX12_357 : Cond.methodLink RX12 357 yX12_into ∈ W0 := (mt7 (List.mem_of_getElem? (i := 212) rfl) rfl)
theorem qX12_360 : Cond.methodLink RX12 360 yX12_deep ∈ W0 := (mt7 (List.mem_of_getElem? (i := 216) rfl) rfl)
theorem qX12_363 : Cond.methodLink RX12 363 yX12_refuses ∈ W0 := (mt7 (List.mem_of_getElem? (i := 227) rfl) rfl)
theorem qX12_366 : Cond.methodLink RX12 366 yX12_keeps ∈ W0 := (mt7 (List.mem_of_getElem? (i := 231) rfl) rfl)
theorem qX12_369 : Cond.methodLink RX12 369 yX12_leads ∈ W0 := (mt8 (List.mem_of_getElem? (i := 33) rfl) rfl)
theorem qX12_372 : Cond.methodLink RX12 372 yX12_pours ∈ W0 := (mt8 (List.mem_of_getElem? (i := 45) rfl) rfl)
theorem qX12_375 : Cond.methodLink RX12 375 yX12_cracks ∈ W0 := (mt8 (List.mem_of_getElem? (i := 53) rfl) rfl)
theorem qX12_378 : Cond.methodLink RX12 378 yX12_isSoon ∈ W0 := (mt8 (List.mem_of_getElem? (i := 61) rfl) rfl)
theorem qX12_381 : Cond.methodLink RX12 381 yX12_tries ∈ W0 := (mt8 (List.mem_of_getElem? (i := 65) rfl) rfl)
theorem qX12_384 : Cond.methodLink RX12 384 yX12_hoursGo ∈ W0 := (mt8 (List.mem_of_getElem? (i := 73) rfl) rfl)
theorem qX12_387 : Cond.methodLink RX12 387 yX12_allTip ∈ W0 := (mt8 (List.mem_of_getElem? (i := 81) rfl) rfl)
theorem qX12_390 : Cond.methodLink RX12 390 yX12_isSome ∈ W0 := (mt8 (List.mem_of_getElem? (i := 89) rfl) rfl)
theorem qX12_393 : Cond.methodLink RX12 393 yX12_bits ∈ W0 := (mt8 (List.mem_of_getElem? (i := 101) rfl) rfl)
theorem qX12_396 : Cond.methodLink RX12 396 yX12_gives ∈ W0 := (mt8 (List.mem_of_getElem? (i := 137) rfl) rfl)
theorem qX12_400 : Cond.methodLink RX12 400 yX12_flows ∈ W0 := (mt8 (List.mem_of_getElem? (i := 133) rfl) rfl)
theorem qX12_405 : Cond.methodLink RX12 405 yX12_offBy ∈ W0 := (mt8 (List.mem_of_getElem? (i := 179) rfl) rfl)
theorem qX12_408 : Cond.methodLink RX12 408 yX12_isHeard ∈ W0 := (mt8 (List.mem_of_getElem? (i := 194) rfl) rfl)
theorem qX12_411 : Cond.methodLink RX12 411 yX12_isGuess ∈ W0 := (mt8 (List.mem_of_getElem? (i := 198) rfl) rfl)
theorem qX12_414 : Cond.methodLink RX12 414 yX12_gains ∈ W0 := (mt8 (List.mem_of_getElem? (i := 214) rfl) rfl)
theorem qX12_422 : Cond.methodLink RX12 422 yX12_draw ∈ W0 := (mt8 (List.mem_of_getElem? (i := 226) rfl) rfl)
theorem qX12_425 : Cond.methodLink RX12 425 yX12_happens ∈ W0 := (mt8 (List.mem_of_getElem? (i := 222) rfl) rfl)
theorem kX11_236 : Cond.constant RX11 236 (1000000) ∈ W0 := (mt5 (List.mem_of_getElem? (i := 43) rfl) rfl)
theorem kX11_242 : Cond.constant RX11 242 (100000000) ∈ W0 := (mt5 (List.mem_of_getElem? (i := 63) rfl) rfl)
theorem kX11_243 : Cond.constant RX11 243 (524288) ∈ W0 := (mt5 (List.mem_of_getElem? (i := 64) rfl) rfl)
theorem kX11_366 : Cond.constant RX11 366 (1103515245) ∈ W0 := (mt5 (List.mem_of_getElem? (i := 228) rfl) rfl)
theorem kX2_54 : Cond.constant RX2 54 (1000000000) ∈ W0 := (mt4 (List.mem_of_getElem? (i := 132) rfl) rfl)
theorem kX3_115 : Cond.constant RX3 115 (1000000000) ∈ W0 := (mt2 (List.mem_of_getElem? (i := 228) rfl) rfl)
theorem kX12_160 : Cond.constantLong RX12 160 (96) ∈ W0 := (mt7 (List.mem_of_getElem? (i := 78) rfl) rfl)
theorem kX12_296 : Cond.constant RX12 296 (1000000000) ∈ W0 := (mt7 (List.mem_of_getElem? (i := 180) rfl) rfl)
theorem kX12_399 : Cond.constant RX12 399 (1000000) ∈ W0 := (mt8 (List.mem_of_getElem? (i := 132) rfl) rfl)
theorem kX12_403 : Cond.constant RX12 403 (100000000) ∈ W0 := (mt8 (List.mem_of_getElem? (i := 149) rfl) rfl)
theorem kX12_404 : Cond.constant RX12 404 (1000001) ∈ W0 := (mt8 (List.mem_of_getElem? (i := 150) rfl) rfl)
theorem kX12_421 : Cond.constant RX12 421 (1103515245) ∈ W0 := (mt8 (List.mem_of_getElem? (i := 230) rfl) rfl)
theorem kJ6_265 : Cond.constant RJ6 265 (1431655765) ∈ W0 := (mt5 (List.mem_of_getElem? (i := 33) rfl) rfl)
theorem kJ6_266 : Cond.constant RJ6 266 (858993459) ∈ W0 := (mt5 (List.mem_of_getElem? (i := 34) rfl) rfl)
theorem kJ6_267 : Cond.constant RJ6 267 (252645135) ∈ W0 := (mt5 (List.mem_of_getElem? (i := 35) rfl) rfl)
theorem kJ13_314 : Cond.constantLong RJ13 314 (6148914691236517205) ∈ W0 := (mt5 (List.mem_of_getElem? (i := 190) rfl) rfl)
theorem kJ13_316 : Cond.constantLong RJ13 316 (3689348814741910323) ∈ W0 := (mt5 (List.mem_of_getElem? (i := 191) rfl) rfl)
theorem kJ13_318 : Cond.constantLong RJ13 318 (1085102592571150095) ∈ W0 := (mt5 (List.mem_of_getElem? (i := 192) rfl) rfl)
