/-! links, methods, cells: by program -/
theorem qGw_all {ws : List Cond} (ps : List Nat) (hp : ws = ps.filterMap (fun i => lw_tbl[i]?)) (h : ws.all goodWord = true) : ∀ w ∈ ws, w ∈ qGw := by
  intro w hw
  have h1 := List.all_eq_true.mp h w hw
  rw [hp] at hw
  obtain ⟨i, -, hi⟩ := List.mem_filterMap.mp hw
  exact qGw_in i hi h1
theorem ci_0 : ∀ w ∈ u_ws RX0 TX0 4, w ∈ qGw := qGw_all [249, 251, 253, 255] (by decide +kernel) (by decide +kernel)
theorem ci_1 : ∀ w ∈ u_ws RX1 TX1 4, w ∈ qGw := qGw_all [227, 229, 231, 233] (by decide +kernel) (by decide +kernel)
theorem ci_2 : ∀ w ∈ u_ws RX2 TX2 2, w ∈ qGw := qGw_all [267, 269] (by decide +kernel) (by decide +kernel)
theorem ci_3 : ∀ w ∈ u_ws RX3 TX3 7, w ∈ qGw := qGw_all [103, 105, 107, 109, 111, 113, 115] (by decide +kernel) (by decide +kernel)
theorem ci_4 : ∀ w ∈ u_ws RX4 TX4 10, w ∈ qGw := qGw_all [291, 293, 295, 297, 299, 301, 303, 305, 307, 309] (by decide +kernel) (by decide +kernel)
theorem ci_5 : ∀ w ∈ u_ws RX5 TX5 6, w ∈ qGw := qGw_all [195, 197, 199, 201, 203, 205] (by decide +kernel) (by decide +kernel)
theorem ci_6 : ∀ w ∈ u_ws RX6 TX6 9, w ∈ qGw := qGw_all [152, 154, 156, 158, 160, 162, 164, 166, 168] (by decide +kernel) (by decide +kernel)
theorem ci_7 : ∀ w ∈ u_ws RX7 TX7 7, w ∈ qGw := qGw_all [319, 321, 323, 325, 327, 329, 331] (by decide +kernel) (by decide +kernel)
theorem ci_8 : ∀ w ∈ u_ws RX8 TX8 25, w ∈ qGw := qGw_all [657, 659, 661, 663, 665, 667, 669, 671, 673, 675, 677, 679, 681, 683, 685, 687, 689, 691, 693, 695, 697, 699, 701, 703, 705] (by decide +kernel) (by decide +kernel)
theorem fl_X7_12 : qF RX7 12 7 0 := ⟨RX7, TX7, 7, rfl, by decide, ci_7, Or.inl (qGw_in 312 (by decide +kernel) (by decide +kernel))⟩
theorem fl_X7_16 : qF RX7 16 7 1 := ⟨RX7, TX7, 7, rfl, by decide, ci_7, Or.inl (qGw_in 313 (by decide +kernel) (by decide +kernel))⟩
theorem fl_X7_22 : qF RX7 22 7 2 := ⟨RX7, TX7, 7, rfl, by decide, ci_7, Or.inl (qGw_in 314 (by decide +kernel) (by decide +kernel))⟩
theorem fl_X7_29 : qF RX7 29 7 3 := ⟨RX7, TX7, 7, rfl, by decide, ci_7, Or.inl (qGw_in 315 (by decide +kernel) (by decide +kernel))⟩
theorem fl_X7_33 : qF RX7 33 7 4 := ⟨RX7, TX7, 7, rfl, by decide, ci_7, Or.inl (qGw_in 316 (by decide +kernel) (by decide +kernel))⟩
theorem fp_X7_33 : qFp RX7 33 7 4 .boolean := ⟨RX7, TX7, 7, tyX7, rfl, by decide, ci_7, tyX7_ok, nmX7, rfl, by decide +kernel, Or.inl (qGw_in 316 (by decide +kernel) (by decide +kernel))⟩
theorem fl_X7_37 : qF RX7 37 7 5 := ⟨RX7, TX7, 7, rfl, by decide, ci_7, Or.inl (qGw_in 317 (by decide +kernel) (by decide +kernel))⟩
theorem fp_X7_37 : qFp RX7 37 7 5 .boolean := ⟨RX7, TX7, 7, tyX7, rfl, by decide, ci_7, tyX7_ok, nmX7, rfl, by decide +kernel, Or.inl (qGw_in 317 (by decide +kernel) (by decide +kernel))⟩
theorem fl_X7_40 : qF RX7 40 7 6 := ⟨RX7, TX7, 7, rfl, by decide, ci_7, Or.inl (qGw_in 318 (by decide +kernel) (by decide +kernel))⟩
theorem fp_X7_40 : qFp RX7 40 7 6 .int := ⟨RX7, TX7, 7, tyX7, rfl, by decide, ci_7, tyX7_ok, nmX7, rfl, by decide +kernel, Or.inl (qGw_in 318 (by decide +kernel) (by decide +kernel))⟩
theorem fl_X7_52 : qF RX7 52 0 0 := ⟨RX0, TX0, 4, rfl, by decide, ci_0, Or.inr ⟨"CampBook", qNw_in 187 (by decide +kernel) (by decide +kernel)⟩⟩
theorem fl_X7_56 : qF RX7 56 3 0 := ⟨RX3, TX3, 7, rfl, by decide, ci_3, Or.inr ⟨"CampBook", qNw_in 37 (by decide +kernel) (by decide +kernel)⟩⟩
theorem fp_X7_56 : qFp RX7 56 3 0 .int := ⟨RX3, TX3, 7, tyX3, rfl, by decide, ci_3, tyX3_ok, nmX3, rfl, by decide +kernel, Or.inr ⟨"CampBook", qNw_in 37 (by decide +kernel) (by decide +kernel)⟩⟩
theorem fl_X7_61 : qF RX7 61 3 1 := ⟨RX3, TX3, 7, rfl, by decide, ci_3, Or.inr ⟨"CampBook", qNw_in 40 (by decide +kernel) (by decide +kernel)⟩⟩
theorem fl_X7_65 : qF RX7 65 3 2 := ⟨RX3, TX3, 7, rfl, by decide, ci_3, Or.inr ⟨"CampBook", qNw_in 43 (by decide +kernel) (by decide +kernel)⟩⟩
theorem fl_X7_75 : qF RX7 75 3 3 := ⟨RX3, TX3, 7, rfl, by decide, ci_3, Or.inr ⟨"CampBook", qNw_in 45 (by decide +kernel) (by decide +kernel)⟩⟩
theorem fp_X7_75 : qFp RX7 75 3 3 .int := ⟨RX3, TX3, 7, tyX3, rfl, by decide, ci_3, tyX3_ok, nmX3, rfl, by decide +kernel, Or.inr ⟨"CampBook", qNw_in 45 (by decide +kernel) (by decide +kernel)⟩⟩
theorem fl_X7_84 : qF RX7 84 3 4 := ⟨RX3, TX3, 7, rfl, by decide, ci_3, Or.inr ⟨"CampBook", qNw_in 47 (by decide +kernel) (by decide +kernel)⟩⟩
theorem fl_X7_87 : qF RX7 87 3 5 := ⟨RX3, TX3, 7, rfl, by decide, ci_3, Or.inr ⟨"CampBook", qNw_in 49 (by decide +kernel) (by decide +kernel)⟩⟩
theorem fl_X7_93 : qF RX7 93 0 1 := ⟨RX0, TX0, 4, rfl, by decide, ci_0, Or.inr ⟨"CampBook", qNw_in 191 (by decide +kernel) (by decide +kernel)⟩⟩
theorem fl_X7_97 : qF RX7 97 6 0 := ⟨RX6, TX6, 9, rfl, by decide, ci_6, Or.inr ⟨"CampBook", qNw_in 76 (by decide +kernel) (by decide +kernel)⟩⟩
theorem fp_X7_97 : qFp RX7 97 6 0 .int := ⟨RX6, TX6, 9, tyX6, rfl, by decide, ci_6, tyX6_ok, nmX6, rfl, by decide +kernel, Or.inr ⟨"CampBook", qNw_in 76 (by decide +kernel) (by decide +kernel)⟩⟩
theorem fl_X7_102 : qF RX7 102 6 1 := ⟨RX6, TX6, 9, rfl, by decide, ci_6, Or.inr ⟨"CampBook", qNw_in 79 (by decide +kernel) (by decide +kernel)⟩⟩
theorem fl_X7_105 : qF RX7 105 6 2 := ⟨RX6, TX6, 9, rfl, by decide, ci_6, Or.inr ⟨"CampBook", qNw_in 82 (by decide +kernel) (by decide +kernel)⟩⟩
theorem fl_X7_114 : qF RX7 114 6 3 := ⟨RX6, TX6, 9, rfl, by decide, ci_6, Or.inr ⟨"CampBook", qNw_in 84 (by decide +kernel) (by decide +kernel)⟩⟩
theorem fp_X7_114 : qFp RX7 114 6 3 .int := ⟨RX6, TX6, 9, tyX6, rfl, by decide, ci_6, tyX6_ok, nmX6, rfl, by decide +kernel, Or.inr ⟨"CampBook", qNw_in 84 (by decide +kernel) (by decide +kernel)⟩⟩
theorem fl_X7_117 : qF RX7 117 6 4 := ⟨RX6, TX6, 9, rfl, by decide, ci_6, Or.inr ⟨"CampBook", qNw_in 87 (by decide +kernel) (by decide +kernel)⟩⟩
theorem fl_X7_120 : qF RX7 120 6 5 := ⟨RX6, TX6, 9, rfl, by decide, ci_6, Or.inr ⟨"CampBook", qNw_in 90 (by decide +kernel) (by decide +kernel)⟩⟩
theorem fl_X7_123 : qF RX7 123 6 6 := ⟨RX6, TX6, 9, rfl, by decide, ci_6, Or.inr ⟨"CampBook", qNw_in 93 (by decide +kernel) (by decide +kernel)⟩⟩
theorem fl_X7_126 : qF RX7 126 6 7 := ⟨RX6, TX6, 9, rfl, by decide, ci_6, Or.inr ⟨"CampBook", qNw_in 96 (by decide +kernel) (by decide +kernel)⟩⟩
theorem fl_X7_127 : qF RX7 127 6 8 := ⟨RX6, TX6, 9, rfl, by decide, ci_6, Or.inr ⟨"CampBook", qNw_in 99 (by decide +kernel) (by decide +kernel)⟩⟩
theorem fl_X7_130 : qF RX7 130 0 2 := ⟨RX0, TX0, 4, rfl, by decide, ci_0, Or.inr ⟨"CampBook", qNw_in 194 (by decide +kernel) (by decide +kernel)⟩⟩
theorem fl_X7_134 : qF RX7 134 5 0 := ⟨RX5, TX5, 6, rfl, by decide, ci_5, Or.inr ⟨"CampBook", qNw_in 128 (by decide +kernel) (by decide +kernel)⟩⟩
theorem fp_X7_134 : qFp RX7 134 5 0 .int := ⟨RX5, TX5, 6, tyX5, rfl, by decide, ci_5, tyX5_ok, nmX5, rfl, by decide +kernel, Or.inr ⟨"CampBook", qNw_in 128 (by decide +kernel) (by decide +kernel)⟩⟩
theorem fl_X7_139 : qF RX7 139 5 1 := ⟨RX5, TX5, 6, rfl, by decide, ci_5, Or.inr ⟨"CampBook", qNw_in 131 (by decide +kernel) (by decide +kernel)⟩⟩
theorem fl_X7_141 : qF RX7 141 5 2 := ⟨RX5, TX5, 6, rfl, by decide, ci_5, Or.inr ⟨"CampBook", qNw_in 134 (by decide +kernel) (by decide +kernel)⟩⟩
theorem fl_X7_143 : qF RX7 143 5 3 := ⟨RX5, TX5, 6, rfl, by decide, ci_5, Or.inr ⟨"CampBook", qNw_in 137 (by decide +kernel) (by decide +kernel)⟩⟩
theorem fl_X7_145 : qF RX7 145 5 4 := ⟨RX5, TX5, 6, rfl, by decide, ci_5, Or.inr ⟨"CampBook", qNw_in 140 (by decide +kernel) (by decide +kernel)⟩⟩
theorem fl_X7_147 : qF RX7 147 5 5 := ⟨RX5, TX5, 6, rfl, by decide, ci_5, Or.inr ⟨"CampBook", qNw_in 143 (by decide +kernel) (by decide +kernel)⟩⟩
theorem fl_X7_174 : qF RX7 174 2 1 := ⟨RX2, TX2, 2, rfl, by decide, ci_2, Or.inr ⟨"CampBook", qNw_in 215 (by decide +kernel) (by decide +kernel)⟩⟩
theorem fl_X7_196 : qF RX7 196 0 3 := ⟨RX0, TX0, 4, rfl, by decide, ci_0, Or.inr ⟨"CampBook", qNw_in 197 (by decide +kernel) (by decide +kernel)⟩⟩
theorem fl_X7_200 : qF RX7 200 1 0 := ⟨RX1, TX1, 4, rfl, by decide, ci_1, Or.inr ⟨"CampBook", qNw_in 166 (by decide +kernel) (by decide +kernel)⟩⟩
theorem fp_X7_200 : qFp RX7 200 1 0 .int := ⟨RX1, TX1, 4, tyX1, rfl, by decide, ci_1, tyX1_ok, nmX1, rfl, by decide +kernel, Or.inr ⟨"CampBook", qNw_in 166 (by decide +kernel) (by decide +kernel)⟩⟩
theorem fl_X7_205 : qF RX7 205 1 1 := ⟨RX1, TX1, 4, rfl, by decide, ci_1, Or.inr ⟨"CampBook", qNw_in 169 (by decide +kernel) (by decide +kernel)⟩⟩
theorem fl_X7_208 : qF RX7 208 1 2 := ⟨RX1, TX1, 4, rfl, by decide, ci_1, Or.inr ⟨"CampBook", qNw_in 172 (by decide +kernel) (by decide +kernel)⟩⟩
theorem fl_X7_211 : qF RX7 211 1 3 := ⟨RX1, TX1, 4, rfl, by decide, ci_1, Or.inr ⟨"CampBook", qNw_in 175 (by decide +kernel) (by decide +kernel)⟩⟩
theorem fl_X7_214 : qF RX7 214 3 6 := ⟨RX3, TX3, 7, rfl, by decide, ci_3, Or.inr ⟨"CampBook", qNw_in 51 (by decide +kernel) (by decide +kernel)⟩⟩
theorem fl_X7_220 : qF RX7 220 4 7 := ⟨RX4, TX4, 10, rfl, by decide, ci_4, Or.inr ⟨"CampBook", qNw_in 235 (by decide +kernel) (by decide +kernel)⟩⟩
theorem fl_X7_223 : qF RX7 223 4 8 := ⟨RX4, TX4, 10, rfl, by decide, ci_4, Or.inr ⟨"CampBook", qNw_in 237 (by decide +kernel) (by decide +kernel)⟩⟩
theorem fl_X7_226 : qF RX7 226 4 9 := ⟨RX4, TX4, 10, rfl, by decide, ci_4, Or.inr ⟨"CampBook", qNw_in 239 (by decide +kernel) (by decide +kernel)⟩⟩
theorem fl_X0_10 : qF RX0 10 0 0 := ⟨RX0, TX0, 4, rfl, by decide, ci_0, Or.inl (qGw_in 236 (by decide +kernel) (by decide +kernel))⟩
theorem fl_X0_19 : qF RX0 19 0 1 := ⟨RX0, TX0, 4, rfl, by decide, ci_0, Or.inl (qGw_in 240 (by decide +kernel) (by decide +kernel))⟩
theorem fl_X0_26 : qF RX0 26 0 2 := ⟨RX0, TX0, 4, rfl, by decide, ci_0, Or.inl (qGw_in 243 (by decide +kernel) (by decide +kernel))⟩
theorem fl_X0_33 : qF RX0 33 0 3 := ⟨RX0, TX0, 4, rfl, by decide, ci_0, Or.inl (qGw_in 246 (by decide +kernel) (by decide +kernel))⟩
theorem fl_X1_9 : qF RX1 9 1 1 := ⟨RX1, TX1, 4, rfl, by decide, ci_1, Or.inl (qGw_in 218 (by decide +kernel) (by decide +kernel))⟩
theorem fl_X1_15 : qF RX1 15 1 2 := ⟨RX1, TX1, 4, rfl, by decide, ci_1, Or.inl (qGw_in 221 (by decide +kernel) (by decide +kernel))⟩
theorem fl_X1_19 : qF RX1 19 1 3 := ⟨RX1, TX1, 4, rfl, by decide, ci_1, Or.inl (qGw_in 224 (by decide +kernel) (by decide +kernel))⟩
theorem fl_X1_22 : qF RX1 22 1 0 := ⟨RX1, TX1, 4, rfl, by decide, ci_1, Or.inl (qGw_in 215 (by decide +kernel) (by decide +kernel))⟩
theorem fp_X1_22 : qFp RX1 22 1 0 .int := ⟨RX1, TX1, 4, tyX1, rfl, by decide, ci_1, tyX1_ok, nmX1, rfl, by decide +kernel, Or.inl (qGw_in 215 (by decide +kernel) (by decide +kernel))⟩
theorem fl_X2_9 : qF RX2 9 2 0 := ⟨RX2, TX2, 2, rfl, by decide, ci_2, Or.inl (qGw_in 264 (by decide +kernel) (by decide +kernel))⟩
theorem fl_X2_15 : qF RX2 15 2 1 := ⟨RX2, TX2, 2, rfl, by decide, ci_2, Or.inl (qGw_in 265 (by decide +kernel) (by decide +kernel))⟩
theorem fl_X2_24 : qF RX2 24 0 1 := ⟨RX0, TX0, 4, rfl, by decide, ci_0, Or.inr ⟨"CampBook", qNw_in 190 (by decide +kernel) (by decide +kernel)⟩⟩
theorem fl_X2_30 : qF RX2 30 6 0 := ⟨RX6, TX6, 9, rfl, by decide, ci_6, Or.inr ⟨"CampBook", qNw_in 75 (by decide +kernel) (by decide +kernel)⟩⟩
theorem fl_X2_40 : qF RX2 40 0 2 := ⟨RX0, TX0, 4, rfl, by decide, ci_0, Or.inr ⟨"CampBook", qNw_in 193 (by decide +kernel) (by decide +kernel)⟩⟩
theorem fl_X2_44 : qF RX2 44 5 0 := ⟨RX5, TX5, 6, rfl, by decide, ci_5, Or.inr ⟨"CampBook", qNw_in 127 (by decide +kernel) (by decide +kernel)⟩⟩
theorem fl_X2_49 : qF RX2 49 5 2 := ⟨RX5, TX5, 6, rfl, by decide, ci_5, Or.inr ⟨"CampBook", qNw_in 133 (by decide +kernel) (by decide +kernel)⟩⟩
theorem fl_X2_55 : qF RX2 55 5 1 := ⟨RX5, TX5, 6, rfl, by decide, ci_5, Or.inr ⟨"CampBook", qNw_in 130 (by decide +kernel) (by decide +kernel)⟩⟩
theorem fl_X2_58 : qF RX2 58 5 4 := ⟨RX5, TX5, 6, rfl, by decide, ci_5, Or.inr ⟨"CampBook", qNw_in 139 (by decide +kernel) (by decide +kernel)⟩⟩
theorem fl_X2_67 : qF RX2 67 5 5 := ⟨RX5, TX5, 6, rfl, by decide, ci_5, Or.inr ⟨"CampBook", qNw_in 142 (by decide +kernel) (by decide +kernel)⟩⟩
theorem fl_X2_71 : qF RX2 71 0 0 := ⟨RX0, TX0, 4, rfl, by decide, ci_0, Or.inr ⟨"CampBook", qNw_in 188 (by decide +kernel) (by decide +kernel)⟩⟩
theorem fl_X2_75 : qF RX2 75 5 3 := ⟨RX5, TX5, 6, rfl, by decide, ci_5, Or.inr ⟨"CampBook", qNw_in 136 (by decide +kernel) (by decide +kernel)⟩⟩
theorem fl_X2_78 : qF RX2 78 6 1 := ⟨RX6, TX6, 9, rfl, by decide, ci_6, Or.inr ⟨"CampBook", qNw_in 78 (by decide +kernel) (by decide +kernel)⟩⟩
theorem fl_X2_87 : qF RX2 87 6 2 := ⟨RX6, TX6, 9, rfl, by decide, ci_6, Or.inr ⟨"CampBook", qNw_in 81 (by decide +kernel) (by decide +kernel)⟩⟩
theorem fl_X2_104 : qF RX2 104 6 3 := ⟨RX6, TX6, 9, rfl, by decide, ci_6, Or.inr ⟨"CampBook", qNw_in 85 (by decide +kernel) (by decide +kernel)⟩⟩
theorem fl_X2_111 : qF RX2 111 3 1 := ⟨RX3, TX3, 7, rfl, by decide, ci_3, Or.inr ⟨"CampBook", qNw_in 41 (by decide +kernel) (by decide +kernel)⟩⟩
theorem fl_X2_114 : qF RX2 114 6 7 := ⟨RX6, TX6, 9, rfl, by decide, ci_6, Or.inr ⟨"CampBook", qNw_in 97 (by decide +kernel) (by decide +kernel)⟩⟩
theorem fl_X2_115 : qF RX2 115 6 4 := ⟨RX6, TX6, 9, rfl, by decide, ci_6, Or.inr ⟨"CampBook", qNw_in 88 (by decide +kernel) (by decide +kernel)⟩⟩
theorem fl_X2_121 : qF RX2 121 6 5 := ⟨RX6, TX6, 9, rfl, by decide, ci_6, Or.inr ⟨"CampBook", qNw_in 91 (by decide +kernel) (by decide +kernel)⟩⟩
theorem fl_X2_124 : qF RX2 124 6 6 := ⟨RX6, TX6, 9, rfl, by decide, ci_6, Or.inr ⟨"CampBook", qNw_in 94 (by decide +kernel) (by decide +kernel)⟩⟩
theorem fl_X2_130 : qF RX2 130 6 8 := ⟨RX6, TX6, 9, rfl, by decide, ci_6, Or.inr ⟨"CampBook", qNw_in 100 (by decide +kernel) (by decide +kernel)⟩⟩
theorem fl_X2_137 : qF RX2 137 3 0 := ⟨RX3, TX3, 7, rfl, by decide, ci_3, Or.inr ⟨"CampBook", qNw_in 38 (by decide +kernel) (by decide +kernel)⟩⟩
theorem fl_X3_9 : qF RX3 9 3 1 := ⟨RX3, TX3, 7, rfl, by decide, ci_3, Or.inl (qGw_in 90 (by decide +kernel) (by decide +kernel))⟩
theorem fl_X3_15 : qF RX3 15 3 2 := ⟨RX3, TX3, 7, rfl, by decide, ci_3, Or.inl (qGw_in 93 (by decide +kernel) (by decide +kernel))⟩
theorem fl_X3_18 : qF RX3 18 3 4 := ⟨RX3, TX3, 7, rfl, by decide, ci_3, Or.inl (qGw_in 97 (by decide +kernel) (by decide +kernel))⟩
theorem fl_X3_21 : qF RX3 21 3 5 := ⟨RX3, TX3, 7, rfl, by decide, ci_3, Or.inl (qGw_in 99 (by decide +kernel) (by decide +kernel))⟩
theorem fl_X3_24 : qF RX3 24 3 6 := ⟨RX3, TX3, 7, rfl, by decide, ci_3, Or.inl (qGw_in 101 (by decide +kernel) (by decide +kernel))⟩
theorem fl_X3_33 : qF RX3 33 3 0 := ⟨RX3, TX3, 7, rfl, by decide, ci_3, Or.inl (qGw_in 87 (by decide +kernel) (by decide +kernel))⟩
theorem fp_X3_33 : qFp RX3 33 3 0 .int := ⟨RX3, TX3, 7, tyX3, rfl, by decide, ci_3, tyX3_ok, nmX3, rfl, by decide +kernel, Or.inl (qGw_in 87 (by decide +kernel) (by decide +kernel))⟩
theorem fl_X3_41 : qF RX3 41 3 3 := ⟨RX3, TX3, 7, rfl, by decide, ci_3, Or.inl (qGw_in 95 (by decide +kernel) (by decide +kernel))⟩
theorem fp_X3_41 : qFp RX3 41 3 3 .int := ⟨RX3, TX3, 7, tyX3, rfl, by decide, ci_3, tyX3_ok, nmX3, rfl, by decide +kernel, Or.inl (qGw_in 95 (by decide +kernel) (by decide +kernel))⟩
theorem fl_X4_9 : qF RX4 9 4 0 := ⟨RX4, TX4, 10, rfl, by decide, ci_4, Or.inl (qGw_in 278 (by decide +kernel) (by decide +kernel))⟩
theorem fl_X4_15 : qF RX4 15 4 1 := ⟨RX4, TX4, 10, rfl, by decide, ci_4, Or.inl (qGw_in 279 (by decide +kernel) (by decide +kernel))⟩
theorem fl_X4_18 : qF RX4 18 4 2 := ⟨RX4, TX4, 10, rfl, by decide, ci_4, Or.inl (qGw_in 280 (by decide +kernel) (by decide +kernel))⟩
theorem fl_X4_21 : qF RX4 21 4 3 := ⟨RX4, TX4, 10, rfl, by decide, ci_4, Or.inl (qGw_in 281 (by decide +kernel) (by decide +kernel))⟩
theorem fl_X4_24 : qF RX4 24 4 4 := ⟨RX4, TX4, 10, rfl, by decide, ci_4, Or.inl (qGw_in 282 (by decide +kernel) (by decide +kernel))⟩
theorem fl_X4_27 : qF RX4 27 4 5 := ⟨RX4, TX4, 10, rfl, by decide, ci_4, Or.inl (qGw_in 283 (by decide +kernel) (by decide +kernel))⟩
theorem fl_X4_30 : qF RX4 30 4 6 := ⟨RX4, TX4, 10, rfl, by decide, ci_4, Or.inl (qGw_in 284 (by decide +kernel) (by decide +kernel))⟩
theorem fl_X4_33 : qF RX4 33 4 7 := ⟨RX4, TX4, 10, rfl, by decide, ci_4, Or.inl (qGw_in 285 (by decide +kernel) (by decide +kernel))⟩
theorem fl_X4_36 : qF RX4 36 0 0 := ⟨RX0, TX0, 4, rfl, by decide, ci_0, Or.inr ⟨"CampBook", qNw_in 186 (by decide +kernel) (by decide +kernel)⟩⟩
theorem fl_X4_48 : qF RX4 48 0 3 := ⟨RX0, TX0, 4, rfl, by decide, ci_0, Or.inr ⟨"CampBook", qNw_in 196 (by decide +kernel) (by decide +kernel)⟩⟩
theorem fl_X4_52 : qF RX4 52 1 2 := ⟨RX1, TX1, 4, rfl, by decide, ci_1, Or.inr ⟨"CampBook", qNw_in 171 (by decide +kernel) (by decide +kernel)⟩⟩
theorem fl_X4_72 : qF RX4 72 1 0 := ⟨RX1, TX1, 4, rfl, by decide, ci_1, Or.inr ⟨"CampBook", qNw_in 165 (by decide +kernel) (by decide +kernel)⟩⟩
theorem fl_X4_76 : qF RX4 76 1 1 := ⟨RX1, TX1, 4, rfl, by decide, ci_1, Or.inr ⟨"CampBook", qNw_in 168 (by decide +kernel) (by decide +kernel)⟩⟩
theorem fl_X4_79 : qF RX4 79 1 3 := ⟨RX1, TX1, 4, rfl, by decide, ci_1, Or.inr ⟨"CampBook", qNw_in 174 (by decide +kernel) (by decide +kernel)⟩⟩
theorem fl_X4_94 : qF RX4 94 4 8 := ⟨RX4, TX4, 10, rfl, by decide, ci_4, Or.inl (qGw_in 287 (by decide +kernel) (by decide +kernel))⟩
theorem fp_X4_94 : qFp RX4 94 4 8 .int := ⟨RX4, TX4, 10, tyX4, rfl, by decide, ci_4, tyX4_ok, nmX4, rfl, by decide +kernel, Or.inl (qGw_in 287 (by decide +kernel) (by decide +kernel))⟩
theorem fl_X4_97 : qF RX4 97 4 9 := ⟨RX4, TX4, 10, rfl, by decide, ci_4, Or.inl (qGw_in 289 (by decide +kernel) (by decide +kernel))⟩
theorem fp_X4_97 : qFp RX4 97 4 9 .int := ⟨RX4, TX4, 10, tyX4, rfl, by decide, ci_4, tyX4_ok, nmX4, rfl, by decide +kernel, Or.inl (qGw_in 289 (by decide +kernel) (by decide +kernel))⟩
theorem fl_X5_9 : qF RX5 9 5 1 := ⟨RX5, TX5, 6, rfl, by decide, ci_5, Or.inl (qGw_in 180 (by decide +kernel) (by decide +kernel))⟩
theorem fl_X5_15 : qF RX5 15 5 2 := ⟨RX5, TX5, 6, rfl, by decide, ci_5, Or.inl (qGw_in 183 (by decide +kernel) (by decide +kernel))⟩
theorem fl_X5_18 : qF RX5 18 5 3 := ⟨RX5, TX5, 6, rfl, by decide, ci_5, Or.inl (qGw_in 186 (by decide +kernel) (by decide +kernel))⟩
theorem fl_X5_21 : qF RX5 21 5 4 := ⟨RX5, TX5, 6, rfl, by decide, ci_5, Or.inl (qGw_in 189 (by decide +kernel) (by decide +kernel))⟩
theorem fl_X5_24 : qF RX5 24 5 5 := ⟨RX5, TX5, 6, rfl, by decide, ci_5, Or.inl (qGw_in 192 (by decide +kernel) (by decide +kernel))⟩
theorem fl_X5_28 : qF RX5 28 5 0 := ⟨RX5, TX5, 6, rfl, by decide, ci_5, Or.inl (qGw_in 177 (by decide +kernel) (by decide +kernel))⟩
theorem fp_X5_28 : qFp RX5 28 5 0 .int := ⟨RX5, TX5, 6, tyX5, rfl, by decide, ci_5, tyX5_ok, nmX5, rfl, by decide +kernel, Or.inl (qGw_in 177 (by decide +kernel) (by decide +kernel))⟩
theorem fl_X6_9 : qF RX6 9 6 1 := ⟨RX6, TX6, 9, rfl, by decide, ci_6, Or.inl (qGw_in 128 (by decide +kernel) (by decide +kernel))⟩
theorem fl_X6_15 : qF RX6 15 6 2 := ⟨RX6, TX6, 9, rfl, by decide, ci_6, Or.inl (qGw_in 131 (by decide +kernel) (by decide +kernel))⟩
theorem fl_X6_18 : qF RX6 18 6 4 := ⟨RX6, TX6, 9, rfl, by decide, ci_6, Or.inl (qGw_in 137 (by decide +kernel) (by decide +kernel))⟩
theorem fl_X6_21 : qF RX6 21 6 5 := ⟨RX6, TX6, 9, rfl, by decide, ci_6, Or.inl (qGw_in 140 (by decide +kernel) (by decide +kernel))⟩
theorem fl_X6_24 : qF RX6 24 6 6 := ⟨RX6, TX6, 9, rfl, by decide, ci_6, Or.inl (qGw_in 143 (by decide +kernel) (by decide +kernel))⟩
theorem fl_X6_27 : qF RX6 27 6 7 := ⟨RX6, TX6, 9, rfl, by decide, ci_6, Or.inl (qGw_in 146 (by decide +kernel) (by decide +kernel))⟩
theorem fl_X6_30 : qF RX6 30 6 8 := ⟨RX6, TX6, 9, rfl, by decide, ci_6, Or.inl (qGw_in 149 (by decide +kernel) (by decide +kernel))⟩
theorem fl_X6_33 : qF RX6 33 6 0 := ⟨RX6, TX6, 9, rfl, by decide, ci_6, Or.inl (qGw_in 125 (by decide +kernel) (by decide +kernel))⟩
theorem fp_X6_33 : qFp RX6 33 6 0 .int := ⟨RX6, TX6, 9, tyX6, rfl, by decide, ci_6, tyX6_ok, nmX6, rfl, by decide +kernel, Or.inl (qGw_in 125 (by decide +kernel) (by decide +kernel))⟩
theorem fl_X6_41 : qF RX6 41 6 3 := ⟨RX6, TX6, 9, rfl, by decide, ci_6, Or.inl (qGw_in 134 (by decide +kernel) (by decide +kernel))⟩
theorem fp_X6_41 : qFp RX6 41 6 3 .int := ⟨RX6, TX6, 9, tyX6, rfl, by decide, ci_6, tyX6_ok, nmX6, rfl, by decide +kernel, Or.inl (qGw_in 134 (by decide +kernel) (by decide +kernel))⟩
theorem fl_X8_7 : qF RX8 7 8 0 := ⟨RX8, TX8, 25, rfl, by decide, ci_8, Or.inl (qGw_in 632 (by decide +kernel) (by decide +kernel))⟩
theorem fl_X8_13 : qF RX8 13 8 1 := ⟨RX8, TX8, 25, rfl, by decide, ci_8, Or.inl (qGw_in 633 (by decide +kernel) (by decide +kernel))⟩
theorem fl_X8_16 : qF RX8 16 8 2 := ⟨RX8, TX8, 25, rfl, by decide, ci_8, Or.inl (qGw_in 634 (by decide +kernel) (by decide +kernel))⟩
theorem fl_X8_19 : qF RX8 19 8 3 := ⟨RX8, TX8, 25, rfl, by decide, ci_8, Or.inl (qGw_in 635 (by decide +kernel) (by decide +kernel))⟩
theorem fl_X8_22 : qF RX8 22 8 4 := ⟨RX8, TX8, 25, rfl, by decide, ci_8, Or.inl (qGw_in 636 (by decide +kernel) (by decide +kernel))⟩
theorem fl_X8_25 : qF RX8 25 8 5 := ⟨RX8, TX8, 25, rfl, by decide, ci_8, Or.inl (qGw_in 637 (by decide +kernel) (by decide +kernel))⟩
theorem fl_X8_28 : qF RX8 28 8 6 := ⟨RX8, TX8, 25, rfl, by decide, ci_8, Or.inl (qGw_in 638 (by decide +kernel) (by decide +kernel))⟩
theorem fl_X8_31 : qF RX8 31 8 7 := ⟨RX8, TX8, 25, rfl, by decide, ci_8, Or.inl (qGw_in 639 (by decide +kernel) (by decide +kernel))⟩
theorem fl_X8_34 : qF RX8 34 8 8 := ⟨RX8, TX8, 25, rfl, by decide, ci_8, Or.inl (qGw_in 640 (by decide +kernel) (by decide +kernel))⟩
theorem fl_X8_37 : qF RX8 37 8 9 := ⟨RX8, TX8, 25, rfl, by decide, ci_8, Or.inl (qGw_in 641 (by decide +kernel) (by decide +kernel))⟩
theorem fl_X8_40 : qF RX8 40 8 10 := ⟨RX8, TX8, 25, rfl, by decide, ci_8, Or.inl (qGw_in 642 (by decide +kernel) (by decide +kernel))⟩
theorem fl_X8_43 : qF RX8 43 8 11 := ⟨RX8, TX8, 25, rfl, by decide, ci_8, Or.inl (qGw_in 643 (by decide +kernel) (by decide +kernel))⟩
theorem fl_X8_46 : qF RX8 46 8 12 := ⟨RX8, TX8, 25, rfl, by decide, ci_8, Or.inl (qGw_in 644 (by decide +kernel) (by decide +kernel))⟩
theorem fl_X8_49 : qF RX8 49 8 13 := ⟨RX8, TX8, 25, rfl, by decide, ci_8, Or.inl (qGw_in 645 (by decide +kernel) (by decide +kernel))⟩
theorem fp_X8_49 : qFp RX8 49 8 13 .int := ⟨RX8, TX8, 25, tyX8, rfl, by decide, ci_8, tyX8_ok, nmX8, rfl, by decide +kernel, Or.inl (qGw_in 645 (by decide +kernel) (by decide +kernel))⟩
theorem fl_X8_53 : qF RX8 53 8 15 := ⟨RX8, TX8, 25, rfl, by decide, ci_8, Or.inl (qGw_in 647 (by decide +kernel) (by decide +kernel))⟩
theorem fl_X8_56 : qF RX8 56 8 16 := ⟨RX8, TX8, 25, rfl, by decide, ci_8, Or.inl (qGw_in 648 (by decide +kernel) (by decide +kernel))⟩
theorem fl_X8_59 : qF RX8 59 8 17 := ⟨RX8, TX8, 25, rfl, by decide, ci_8, Or.inl (qGw_in 649 (by decide +kernel) (by decide +kernel))⟩
theorem fl_X8_62 : qF RX8 62 8 18 := ⟨RX8, TX8, 25, rfl, by decide, ci_8, Or.inl (qGw_in 650 (by decide +kernel) (by decide +kernel))⟩
theorem fl_X8_65 : qF RX8 65 8 19 := ⟨RX8, TX8, 25, rfl, by decide, ci_8, Or.inl (qGw_in 651 (by decide +kernel) (by decide +kernel))⟩
theorem fl_X8_68 : qF RX8 68 8 20 := ⟨RX8, TX8, 25, rfl, by decide, ci_8, Or.inl (qGw_in 652 (by decide +kernel) (by decide +kernel))⟩
theorem fl_X8_71 : qF RX8 71 8 21 := ⟨RX8, TX8, 25, rfl, by decide, ci_8, Or.inl (qGw_in 653 (by decide +kernel) (by decide +kernel))⟩
theorem fl_X8_119 : qF RX8 119 8 22 := ⟨RX8, TX8, 25, rfl, by decide, ci_8, Or.inl (qGw_in 654 (by decide +kernel) (by decide +kernel))⟩
theorem fp_X8_119 : qFp RX8 119 8 22 .int := ⟨RX8, TX8, 25, tyX8, rfl, by decide, ci_8, tyX8_ok, nmX8, rfl, by decide +kernel, Or.inl (qGw_in 654 (by decide +kernel) (by decide +kernel))⟩
theorem fl_X8_122 : qF RX8 122 8 23 := ⟨RX8, TX8, 25, rfl, by decide, ci_8, Or.inl (qGw_in 655 (by decide +kernel) (by decide +kernel))⟩
theorem fp_X8_122 : qFp RX8 122 8 23 .int := ⟨RX8, TX8, 25, tyX8, rfl, by decide, ci_8, tyX8_ok, nmX8, rfl, by decide +kernel, Or.inl (qGw_in 655 (by decide +kernel) (by decide +kernel))⟩
theorem fl_X8_149 : qF RX8 149 8 24 := ⟨RX8, TX8, 25, rfl, by decide, ci_8, Or.inl (qGw_in 656 (by decide +kernel) (by decide +kernel))⟩
theorem fp_X8_149 : qFp RX8 149 8 24 .int := ⟨RX8, TX8, 25, tyX8, rfl, by decide, ci_8, tyX8_ok, nmX8, rfl, by decide +kernel, Or.inl (qGw_in 656 (by decide +kernel) (by decide +kernel))⟩
theorem fl_X8_160 : qF RX8 160 8 14 := ⟨RX8, TX8, 25, rfl, by decide, ci_8, Or.inl (qGw_in 646 (by decide +kernel) (by decide +kernel))⟩
theorem fp_X8_160 : qFp RX8 160 8 14 .boolean := ⟨RX8, TX8, 25, tyX8, rfl, by decide, ci_8, tyX8_ok, nmX8, rfl, by decide +kernel, Or.inl (qGw_in 646 (by decide +kernel) (by decide +kernel))⟩
def j_X0_become : qj := (yX0_become, cX0_become, 2, none)
theorem md_X0_become : qMd j_X0_become 1 := ⟨qGw_in 597 (by decide +kernel) (by decide +kernel), qGw_in 53 (by decide +kernel) (by decide +kernel), ⟨by decide, by decide⟩, by decide +kernel, by decide⟩
theorem mv_X0_become : qMv j_X0_become := ⟨qGw_in 596 (by decide +kernel) (by decide +kernel), qGw_in 30 (by decide +kernel) (by decide +kernel)⟩
def j_X1_become : qj := (yX1_become, cX1_become, 2, none)
theorem md_X1_become : qMd j_X1_become 1 := ⟨qGw_in 619 (by decide +kernel) (by decide +kernel), qGw_in 58 (by decide +kernel) (by decide +kernel), ⟨by decide, by decide⟩, by decide +kernel, by decide⟩
theorem mv_X1_become : qMv j_X1_become := ⟨qGw_in 618 (by decide +kernel) (by decide +kernel), qGw_in 34 (by decide +kernel) (by decide +kernel)⟩
def j_X2_readDone : qj := (yX2_readDone, cX2_readDone, 3, none)
theorem md_X2_readDone : qMd j_X2_readDone 1 := ⟨qGw_in 412 (by decide +kernel) (by decide +kernel), qGw_in 59 (by decide +kernel) (by decide +kernel), ⟨by decide, by decide⟩, by decide +kernel, by decide⟩
theorem mv_X2_readDone : qMv j_X2_readDone := ⟨qGw_in 411 (by decide +kernel) (by decide +kernel), qGw_in 5 (by decide +kernel) (by decide +kernel)⟩
def j_X2_readTask : qj := (yX2_readTask, cX2_readTask, 6, none)
theorem md_X2_readTask : qMd j_X2_readTask 2 := ⟨qGw_in 417 (by decide +kernel) (by decide +kernel), qGw_in 59 (by decide +kernel) (by decide +kernel), ⟨by decide, by decide⟩, by decide +kernel, by decide⟩
theorem mv_X2_readTask : qMv j_X2_readTask := ⟨qGw_in 416 (by decide +kernel) (by decide +kernel), qGw_in 6 (by decide +kernel) (by decide +kernel)⟩
def j_X2_counts : qj := (yX2_counts, cX2_counts, 7, (some .boolean))
theorem md_X2_counts : qMd j_X2_counts 2 := ⟨qGw_in 421 (by decide +kernel) (by decide +kernel), qGw_in 59 (by decide +kernel) (by decide +kernel), ⟨by decide, by decide⟩, by decide +kernel, by decide⟩
theorem mv_X2_counts : qMv j_X2_counts := ⟨qGw_in 420 (by decide +kernel) (by decide +kernel), qGw_in 7 (by decide +kernel) (by decide +kernel)⟩
def j_X2_countCounting : qj := (yX2_countCounting, cX2_countCounting, 4, (some .int))
theorem md_X2_countCounting : qMd j_X2_countCounting 1 := ⟨qGw_in 582 (by decide +kernel) (by decide +kernel), qGw_in 59 (by decide +kernel) (by decide +kernel), ⟨by decide, by decide⟩, by decide +kernel, by decide⟩
theorem mv_X2_countCounting : qMv j_X2_countCounting := ⟨qGw_in 581 (by decide +kernel) (by decide +kernel), qGw_in 28 (by decide +kernel) (by decide +kernel)⟩
def j_X2_doneFrom : qj := (yX2_doneFrom, cX2_doneFrom, 3, (some .int))
theorem md_X2_doneFrom : qMd j_X2_doneFrom 2 := ⟨qGw_in 429 (by decide +kernel) (by decide +kernel), qGw_in 59 (by decide +kernel) (by decide +kernel), ⟨by decide, by decide⟩, by decide +kernel, by decide⟩
theorem mv_X2_doneFrom : qMv j_X2_doneFrom := ⟨qGw_in 428 (by decide +kernel) (by decide +kernel), qGw_in 9 (by decide +kernel) (by decide +kernel)⟩
def j_X2_bitsNotDone : qj := (yX2_bitsNotDone, cX2_bitsNotDone, 5, (some .int))
theorem md_X2_bitsNotDone : qMd j_X2_bitsNotDone 2 := ⟨qGw_in 483 (by decide +kernel) (by decide +kernel), qGw_in 59 (by decide +kernel) (by decide +kernel), ⟨by decide, by decide⟩, by decide +kernel, by decide⟩
theorem mv_X2_bitsNotDone : qMv j_X2_bitsNotDone := ⟨qGw_in 482 (by decide +kernel) (by decide +kernel), qGw_in 16 (by decide +kernel) (by decide +kernel)⟩
def j_X2_doneBy : qj := (yX2_doneBy, cX2_doneBy, 6, (some .int))
theorem md_X2_doneBy : qMd j_X2_doneBy 3 := ⟨qGw_in 471 (by decide +kernel) (by decide +kernel), qGw_in 59 (by decide +kernel) (by decide +kernel), ⟨by decide, by decide⟩, by decide +kernel, by decide⟩
theorem mv_X2_doneBy : qMv j_X2_doneBy := ⟨qGw_in 470 (by decide +kernel) (by decide +kernel), qGw_in 14 (by decide +kernel) (by decide +kernel)⟩
def j_X2_allFrom : qj := (yX2_allFrom, cX2_allFrom, 5, (some .int))
theorem md_X2_allFrom : qMd j_X2_allFrom 2 := ⟨qGw_in 457 (by decide +kernel) (by decide +kernel), qGw_in 59 (by decide +kernel) (by decide +kernel), ⟨by decide, by decide⟩, by decide +kernel, by decide⟩
theorem mv_X2_allFrom : qMv j_X2_allFrom := ⟨qGw_in 456 (by decide +kernel) (by decide +kernel), qGw_in 12 (by decide +kernel) (by decide +kernel)⟩
def j_X2_someFrom : qj := (yX2_someFrom, cX2_someFrom, 7, (some .int))
theorem md_X2_someFrom : qMd j_X2_someFrom 3 := ⟨qGw_in 467 (by decide +kernel) (by decide +kernel), qGw_in 59 (by decide +kernel) (by decide +kernel), ⟨by decide, by decide⟩, by decide +kernel, by decide⟩
theorem mv_X2_someFrom : qMv j_X2_someFrom := ⟨qGw_in 466 (by decide +kernel) (by decide +kernel), qGw_in 13 (by decide +kernel) (by decide +kernel)⟩
def j_X2_otherFrom : qj := (yX2_otherFrom, cX2_otherFrom, 2, (some .int))
theorem md_X2_otherFrom : qMd j_X2_otherFrom 1 := ⟨qGw_in 475 (by decide +kernel) (by decide +kernel), qGw_in 59 (by decide +kernel) (by decide +kernel), ⟨by decide, by decide⟩, by decide +kernel, by decide⟩
theorem mv_X2_otherFrom : qMv j_X2_otherFrom := ⟨qGw_in 474 (by decide +kernel) (by decide +kernel), qGw_in 15 (by decide +kernel) (by decide +kernel)⟩
def j_X2_readHeld : qj := (yX2_readHeld, cX2_readHeld, 4, none)
theorem md_X2_readHeld : qMd j_X2_readHeld 2 := ⟨qGw_in 449 (by decide +kernel) (by decide +kernel), qGw_in 59 (by decide +kernel) (by decide +kernel), ⟨by decide, by decide⟩, by decide +kernel, by decide⟩
theorem mv_X2_readHeld : qMv j_X2_readHeld := ⟨qGw_in 448 (by decide +kernel) (by decide +kernel), qGw_in 10 (by decide +kernel) (by decide +kernel)⟩
def j_X2_readBadge : qj := (yX2_readBadge, cX2_readBadge, 7, (some .int))
theorem md_X2_readBadge : qMd j_X2_readBadge 3 := ⟨qGw_in 453 (by decide +kernel) (by decide +kernel), qGw_in 59 (by decide +kernel) (by decide +kernel), ⟨by decide, by decide⟩, by decide +kernel, by decide⟩
theorem mv_X2_readBadge : qMv j_X2_readBadge := ⟨qGw_in 452 (by decide +kernel) (by decide +kernel), qGw_in 11 (by decide +kernel) (by decide +kernel)⟩
def j_X2_countHeld : qj := (yX2_countHeld, cX2_countHeld, 5, (some .int))
theorem md_X2_countHeld : qMd j_X2_countHeld 2 := ⟨qGw_in 494 (by decide +kernel) (by decide +kernel), qGw_in 59 (by decide +kernel) (by decide +kernel), ⟨by decide, by decide⟩, by decide +kernel, by decide⟩
theorem mv_X2_countHeld : qMv j_X2_countHeld := ⟨qGw_in 493 (by decide +kernel) (by decide +kernel), qGw_in 17 (by decide +kernel) (by decide +kernel)⟩
def j_X2_countHeldOfAll : qj := (yX2_countHeldOfAll, cX2_countHeldOfAll, 4, (some .int))
theorem md_X2_countHeldOfAll : qMd j_X2_countHeldOfAll 1 := ⟨qGw_in 586 (by decide +kernel) (by decide +kernel), qGw_in 59 (by decide +kernel) (by decide +kernel), ⟨by decide, by decide⟩, by decide +kernel, by decide⟩
theorem mv_X2_countHeldOfAll : qMv j_X2_countHeldOfAll := ⟨qGw_in 585 (by decide +kernel) (by decide +kernel), qGw_in 29 (by decide +kernel) (by decide +kernel)⟩
def j_X3_become : qj := (yX3_become, cX3_become, 2, none)
theorem md_X3_become : qMd j_X3_become 1 := ⟨qGw_in 601 (by decide +kernel) (by decide +kernel), qGw_in 54 (by decide +kernel) (by decide +kernel), ⟨by decide, by decide⟩, by decide +kernel, by decide⟩
theorem mv_X3_become : qMv j_X3_become := ⟨qGw_in 600 (by decide +kernel) (by decide +kernel), qGw_in 31 (by decide +kernel) (by decide +kernel)⟩
def j_X3_hasPaper : qj := (yX3_hasPaper, cX3_hasPaper, 5, (some .boolean))
theorem md_X3_hasPaper : qMd j_X3_hasPaper 3 := ⟨qGw_in 425 (by decide +kernel) (by decide +kernel), qGw_in 54 (by decide +kernel) (by decide +kernel), ⟨by decide, by decide⟩, by decide +kernel, by decide⟩
theorem mv_X3_hasPaper : qMv j_X3_hasPaper := ⟨qGw_in 424 (by decide +kernel) (by decide +kernel), qGw_in 8 (by decide +kernel) (by decide +kernel)⟩
def j_X3_countPatrol : qj := (yX3_countPatrol, cX3_countPatrol, 4, (some .int))
theorem md_X3_countPatrol : qMd j_X3_countPatrol 1 := ⟨qGw_in 534 (by decide +kernel) (by decide +kernel), qGw_in 54 (by decide +kernel) (by decide +kernel), ⟨by decide, by decide⟩, by decide +kernel, by decide⟩
theorem mv_X3_countPatrol : qMv j_X3_countPatrol := ⟨qGw_in 533 (by decide +kernel) (by decide +kernel), qGw_in 21 (by decide +kernel) (by decide +kernel)⟩
def j_X3_countFree : qj := (yX3_countFree, cX3_countFree, 4, (some .int))
theorem md_X3_countFree : qMd j_X3_countFree 1 := ⟨qGw_in 526 (by decide +kernel) (by decide +kernel), qGw_in 54 (by decide +kernel) (by decide +kernel), ⟨by decide, by decide⟩, by decide +kernel, by decide⟩
theorem mv_X3_countFree : qMv j_X3_countFree := ⟨qGw_in 525 (by decide +kernel) (by decide +kernel), qGw_in 20 (by decide +kernel) (by decide +kernel)⟩
def j_X4_read : qj := (yX4_read, cX4_read, 5, none)
theorem md_X4_read : qMd j_X4_read 2 := ⟨qGw_in 522 (by decide +kernel) (by decide +kernel), qGw_in 60 (by decide +kernel) (by decide +kernel), ⟨by decide, by decide⟩, by decide +kernel, by decide⟩
theorem mv_X4_read : qMv j_X4_read := ⟨qGw_in 521 (by decide +kernel) (by decide +kernel), qGw_in 19 (by decide +kernel) (by decide +kernel)⟩
def j_X4_readBars : qj := (yX4_readBars, cX4_readBars, 3, (some .int))
theorem md_X4_readBars : qMd j_X4_readBars 2 := ⟨qGw_in 530 (by decide +kernel) (by decide +kernel), qGw_in 60 (by decide +kernel) (by decide +kernel), ⟨by decide, by decide⟩, by decide +kernel, by decide⟩
theorem ms_X4_readBars : qMs j_X4_readBars := qGw_in 529 (by decide +kernel) (by decide +kernel)
def j_X4_readOffer : qj := (yX4_readOffer, cX4_readOffer, 6, (some .int))
theorem md_X4_readOffer : qMd j_X4_readOffer 3 := ⟨qGw_in 538 (by decide +kernel) (by decide +kernel), qGw_in 60 (by decide +kernel) (by decide +kernel), ⟨by decide, by decide⟩, by decide +kernel, by decide⟩
theorem mv_X4_readOffer : qMv j_X4_readOffer := ⟨qGw_in 537 (by decide +kernel) (by decide +kernel), qGw_in 22 (by decide +kernel) (by decide +kernel)⟩
def j_X4_readHopes : qj := (yX4_readHopes, cX4_readHopes, 4, none)
theorem md_X4_readHopes : qMd j_X4_readHopes 0 := ⟨qGw_in 542 (by decide +kernel) (by decide +kernel), qGw_in 60 (by decide +kernel) (by decide +kernel), ⟨by decide, by decide⟩, by decide +kernel, by decide⟩
theorem mv_X4_readHopes : qMv j_X4_readHopes := ⟨qGw_in 541 (by decide +kernel) (by decide +kernel), qGw_in 23 (by decide +kernel) (by decide +kernel)⟩
def j_X4_search : qj := (yX4_search, cX4_search, 1, none)
theorem md_X4_search : qMd j_X4_search 0 := ⟨qGw_in 547 (by decide +kernel) (by decide +kernel), qGw_in 60 (by decide +kernel) (by decide +kernel), ⟨by decide, by decide⟩, by decide +kernel, by decide⟩
theorem mv_X4_search : qMv j_X4_search := ⟨qGw_in 546 (by decide +kernel) (by decide +kernel), qGw_in 24 (by decide +kernel) (by decide +kernel)⟩
def j_X4_seek : qj := (yX4_seek, cX4_seek, 9, none)
theorem md_X4_seek : qMd j_X4_seek 5 := ⟨qGw_in 551 (by decide +kernel) (by decide +kernel), qGw_in 60 (by decide +kernel) (by decide +kernel), ⟨by decide, by decide⟩, by decide +kernel, by decide⟩
theorem ms_X4_seek : qMs j_X4_seek := qGw_in 550 (by decide +kernel) (by decide +kernel)
def j_X4_isNoBetter : qj := (yX4_isNoBetter, cX4_isNoBetter, 5, (some .boolean))
theorem md_X4_isNoBetter : qMd j_X4_isNoBetter 3 := ⟨qGw_in 555 (by decide +kernel) (by decide +kernel), qGw_in 60 (by decide +kernel) (by decide +kernel), ⟨by decide, by decide⟩, by decide +kernel, by decide⟩
theorem mv_X4_isNoBetter : qMv j_X4_isNoBetter := ⟨qGw_in 554 (by decide +kernel) (by decide +kernel), qGw_in 25 (by decide +kernel) (by decide +kernel)⟩
def j_X4_takeTried : qj := (yX4_takeTried, cX4_takeTried, 3, none)
theorem md_X4_takeTried : qMd j_X4_takeTried 2 := ⟨qGw_in 559 (by decide +kernel) (by decide +kernel), qGw_in 60 (by decide +kernel) (by decide +kernel), ⟨by decide, by decide⟩, by decide +kernel, by decide⟩
theorem mv_X4_takeTried : qMv j_X4_takeTried := ⟨qGw_in 558 (by decide +kernel) (by decide +kernel), qGw_in 26 (by decide +kernel) (by decide +kernel)⟩
def j_X4_countAway : qj := (yX4_countAway, cX4_countAway, 4, (some .int))
theorem md_X4_countAway : qMd j_X4_countAway 1 := ⟨qGw_in 574 (by decide +kernel) (by decide +kernel), qGw_in 60 (by decide +kernel) (by decide +kernel), ⟨by decide, by decide⟩, by decide +kernel, by decide⟩
theorem mv_X4_countAway : qMv j_X4_countAway := ⟨qGw_in 573 (by decide +kernel) (by decide +kernel), qGw_in 27 (by decide +kernel) (by decide +kernel)⟩
def j_X5_become : qj := (yX5_become, cX5_become, 2, none)
theorem md_X5_become : qMd j_X5_become 1 := ⟨qGw_in 611 (by decide +kernel) (by decide +kernel), qGw_in 57 (by decide +kernel) (by decide +kernel), ⟨by decide, by decide⟩, by decide +kernel, by decide⟩
theorem mv_X5_become : qMv j_X5_become := ⟨qGw_in 610 (by decide +kernel) (by decide +kernel), qGw_in 33 (by decide +kernel) (by decide +kernel)⟩
def j_X6_become : qj := (yX6_become, cX6_become, 2, none)
theorem md_X6_become : qMd j_X6_become 1 := ⟨qGw_in 606 (by decide +kernel) (by decide +kernel), qGw_in 56 (by decide +kernel) (by decide +kernel), ⟨by decide, by decide⟩, by decide +kernel, by decide⟩
theorem mv_X6_become : qMv j_X6_become := ⟨qGw_in 605 (by decide +kernel) (by decide +kernel), qGw_in 32 (by decide +kernel) (by decide +kernel)⟩
def j_X7_child : qj := (yX7_child, cX7_child, 5, (some .int))
theorem md_X7_child : qMd j_X7_child 2 := ⟨qGw_in 337 (by decide +kernel) (by decide +kernel), qGw_in 52 (by decide +kernel) (by decide +kernel), ⟨by decide, by decide⟩, by decide +kernel, by decide⟩
theorem mv_X7_child : qMv j_X7_child := ⟨qGw_in 335 (by decide +kernel) (by decide +kernel), qGw_in 336 (by decide +kernel) (by decide +kernel)⟩
def j_X7_change : qj := (yX7_change, cX7_change, 4, (some .int))
theorem md_X7_change : qMd j_X7_change 3 := ⟨qGw_in 347 (by decide +kernel) (by decide +kernel), qGw_in 52 (by decide +kernel) (by decide +kernel), ⟨by decide, by decide⟩, by decide +kernel, by decide⟩
theorem mv_X7_change : qMv j_X7_change := ⟨qGw_in 345 (by decide +kernel) (by decide +kernel), qGw_in 346 (by decide +kernel) (by decide +kernel)⟩
def j_X7_leader : qj := (yX7_leader, cX7_leader, 3, (some .int))
theorem md_X7_leader : qMd j_X7_leader 0 := ⟨qGw_in 358 (by decide +kernel) (by decide +kernel), qGw_in 52 (by decide +kernel) (by decide +kernel), ⟨by decide, by decide⟩, by decide +kernel, by decide⟩
theorem mv_X7_leader : qMv j_X7_leader := ⟨qGw_in 356 (by decide +kernel) (by decide +kernel), qGw_in 357 (by decide +kernel) (by decide +kernel)⟩
def j_X7_paper : qj := (yX7_paper, cX7_paper, 6, (some .int))
theorem md_X7_paper : qMd j_X7_paper 4 := ⟨qGw_in 362 (by decide +kernel) (by decide +kernel), qGw_in 52 (by decide +kernel) (by decide +kernel), ⟨by decide, by decide⟩, by decide +kernel, by decide⟩
theorem mv_X7_paper : qMv j_X7_paper := ⟨qGw_in 360 (by decide +kernel) (by decide +kernel), qGw_in 361 (by decide +kernel) (by decide +kernel)⟩
def j_X7_lose : qj := (yX7_lose, cX7_lose, 4, (some .int))
theorem md_X7_lose : qMd j_X7_lose 2 := ⟨qGw_in 376 (by decide +kernel) (by decide +kernel), qGw_in 52 (by decide +kernel) (by decide +kernel), ⟨by decide, by decide⟩, by decide +kernel, by decide⟩
theorem mv_X7_lose : qMv j_X7_lose := ⟨qGw_in 374 (by decide +kernel) (by decide +kernel), qGw_in 375 (by decide +kernel) (by decide +kernel)⟩
def j_X7_task : qj := (yX7_task, cX7_task, 5, (some .int))
theorem md_X7_task : qMd j_X7_task 2 := ⟨qGw_in 380 (by decide +kernel) (by decide +kernel), qGw_in 52 (by decide +kernel) (by decide +kernel), ⟨by decide, by decide⟩, by decide +kernel, by decide⟩
theorem mv_X7_task : qMv j_X7_task := ⟨qGw_in 378 (by decide +kernel) (by decide +kernel), qGw_in 379 (by decide +kernel) (by decide +kernel)⟩
def j_X7_badge : qj := (yX7_badge, cX7_badge, 8, (some .int))
theorem md_X7_badge : qMd j_X7_badge 5 := ⟨qGw_in 388 (by decide +kernel) (by decide +kernel), qGw_in 52 (by decide +kernel) (by decide +kernel), ⟨by decide, by decide⟩, by decide +kernel, by decide⟩
theorem mv_X7_badge : qMv j_X7_badge := ⟨qGw_in 386 (by decide +kernel) (by decide +kernel), qGw_in 387 (by decide +kernel) (by decide +kernel)⟩
def j_X7_sign : qj := (yX7_sign, cX7_sign, 7, (some .int))
theorem md_X7_sign : qMd j_X7_sign 4 := ⟨qGw_in 396 (by decide +kernel) (by decide +kernel), qGw_in 52 (by decide +kernel) (by decide +kernel), ⟨by decide, by decide⟩, by decide +kernel, by decide⟩
theorem mv_X7_sign : qMv j_X7_sign := ⟨qGw_in 394 (by decide +kernel) (by decide +kernel), qGw_in 395 (by decide +kernel) (by decide +kernel)⟩
def j_X7_strike : qj := (yX7_strike, cX7_strike, 2, (some .int))
theorem md_X7_strike : qMd j_X7_strike 1 := ⟨qGw_in 400 (by decide +kernel) (by decide +kernel), qGw_in 52 (by decide +kernel) (by decide +kernel), ⟨by decide, by decide⟩, by decide +kernel, by decide⟩
theorem mv_X7_strike : qMv j_X7_strike := ⟨qGw_in 398 (by decide +kernel) (by decide +kernel), qGw_in 399 (by decide +kernel) (by decide +kernel)⟩
def j_X7_of : qj := (yX7_of, cX7_of, 4, (some .int))
theorem md_X7_of : qMd j_X7_of 2 := ⟨qGw_in 408 (by decide +kernel) (by decide +kernel), qGw_in 52 (by decide +kernel) (by decide +kernel), ⟨by decide, by decide⟩, by decide +kernel, by decide⟩
theorem mv_X7_of : qMv j_X7_of := ⟨qGw_in 406 (by decide +kernel) (by decide +kernel), qGw_in 407 (by decide +kernel) (by decide +kernel)⟩
def j_X7_done : qj := (yX7_done, cX7_done, 3, (some .int))
theorem md_X7_done : qMd j_X7_done 2 := ⟨qGw_in 437 (by decide +kernel) (by decide +kernel), qGw_in 52 (by decide +kernel) (by decide +kernel), ⟨by decide, by decide⟩, by decide +kernel, by decide⟩
theorem mv_X7_done : qMv j_X7_done := ⟨qGw_in 435 (by decide +kernel) (by decide +kernel), qGw_in 436 (by decide +kernel) (by decide +kernel)⟩
def j_X7_held : qj := (yX7_held, cX7_held, 3, (some .int))
theorem md_X7_held : qMd j_X7_held 2 := ⟨qGw_in 445 (by decide +kernel) (by decide +kernel), qGw_in 52 (by decide +kernel) (by decide +kernel), ⟨by decide, by decide⟩, by decide +kernel, by decide⟩
theorem mv_X7_held : qMv j_X7_held := ⟨qGw_in 443 (by decide +kernel) (by decide +kernel), qGw_in 444 (by decide +kernel) (by decide +kernel)⟩
def j_X7_lacks : qj := (yX7_lacks, cX7_lacks, 5, (some .int))
theorem md_X7_lacks : qMd j_X7_lacks 3 := ⟨qGw_in 479 (by decide +kernel) (by decide +kernel), qGw_in 52 (by decide +kernel) (by decide +kernel), ⟨by decide, by decide⟩, by decide +kernel, by decide⟩
theorem mv_X7_lacks : qMv j_X7_lacks := ⟨qGw_in 477 (by decide +kernel) (by decide +kernel), qGw_in 478 (by decide +kernel) (by decide +kernel)⟩
def j_X7_badges : qj := (yX7_badges, cX7_badges, 3, (some .int))
theorem md_X7_badges : qMd j_X7_badges 2 := ⟨qGw_in 490 (by decide +kernel) (by decide +kernel), qGw_in 52 (by decide +kernel) (by decide +kernel), ⟨by decide, by decide⟩, by decide +kernel, by decide⟩
theorem mv_X7_badges : qMv j_X7_badges := ⟨qGw_in 488 (by decide +kernel) (by decide +kernel), qGw_in 489 (by decide +kernel) (by decide +kernel)⟩
def j_X7_site : qj := (yX7_site, cX7_site, 5, (some .int))
theorem md_X7_site : qMd j_X7_site 2 := ⟨qGw_in 498 (by decide +kernel) (by decide +kernel), qGw_in 52 (by decide +kernel) (by decide +kernel), ⟨by decide, by decide⟩, by decide +kernel, by decide⟩
theorem mv_X7_site : qMv j_X7_site := ⟨qGw_in 496 (by decide +kernel) (by decide +kernel), qGw_in 497 (by decide +kernel) (by decide +kernel)⟩
def j_X7_wish : qj := (yX7_wish, cX7_wish, 5, (some .int))
theorem md_X7_wish : qMd j_X7_wish 4 := ⟨qGw_in 502 (by decide +kernel) (by decide +kernel), qGw_in 52 (by decide +kernel) (by decide +kernel), ⟨by decide, by decide⟩, by decide +kernel, by decide⟩
theorem mv_X7_wish : qMv j_X7_wish := ⟨qGw_in 500 (by decide +kernel) (by decide +kernel), qGw_in 501 (by decide +kernel) (by decide +kernel)⟩
def j_X7_free : qj := (yX7_free, cX7_free, 3, (some .int))
theorem md_X7_free : qMd j_X7_free 2 := ⟨qGw_in 506 (by decide +kernel) (by decide +kernel), qGw_in 52 (by decide +kernel) (by decide +kernel), ⟨by decide, by decide⟩, by decide +kernel, by decide⟩
theorem mv_X7_free : qMv j_X7_free := ⟨qGw_in 504 (by decide +kernel) (by decide +kernel), qGw_in 505 (by decide +kernel) (by decide +kernel)⟩
def j_X7_ratio : qj := (yX7_ratio, cX7_ratio, 3, (some .int))
theorem md_X7_ratio : qMd j_X7_ratio 1 := ⟨qGw_in 510 (by decide +kernel) (by decide +kernel), qGw_in 52 (by decide +kernel) (by decide +kernel), ⟨by decide, by decide⟩, by decide +kernel, by decide⟩
theorem mv_X7_ratio : qMv j_X7_ratio := ⟨qGw_in 508 (by decide +kernel) (by decide +kernel), qGw_in 509 (by decide +kernel) (by decide +kernel)⟩
def j_X7_plan : qj := (yX7_plan, cX7_plan, 3, (some .int))
theorem md_X7_plan : qMd j_X7_plan 1 := ⟨qGw_in 514 (by decide +kernel) (by decide +kernel), qGw_in 52 (by decide +kernel) (by decide +kernel), ⟨by decide, by decide⟩, by decide +kernel, by decide⟩
theorem mv_X7_plan : qMv j_X7_plan := ⟨qGw_in 512 (by decide +kernel) (by decide +kernel), qGw_in 513 (by decide +kernel) (by decide +kernel)⟩
def j_X7_planned : qj := (yX7_planned, cX7_planned, 2, (some .int))
theorem md_X7_planned : qMd j_X7_planned 1 := ⟨qGw_in 570 (by decide +kernel) (by decide +kernel), qGw_in 52 (by decide +kernel) (by decide +kernel), ⟨by decide, by decide⟩, by decide +kernel, by decide⟩
theorem mv_X7_planned : qMv j_X7_planned := ⟨qGw_in 568 (by decide +kernel) (by decide +kernel), qGw_in 569 (by decide +kernel) (by decide +kernel)⟩
def j_X7_many : qj := (yX7_many, cX7_many, 2, (some .int))
theorem md_X7_many : qMd j_X7_many 1 := ⟨qGw_in 578 (by decide +kernel) (by decide +kernel), qGw_in 52 (by decide +kernel) (by decide +kernel), ⟨by decide, by decide⟩, by decide +kernel, by decide⟩
theorem mv_X7_many : qMv j_X7_many := ⟨qGw_in 576 (by decide +kernel) (by decide +kernel), qGw_in 577 (by decide +kernel) (by decide +kernel)⟩
def j_X7_keep : qj := (yX7_keep, cX7_keep, 1, (some .int))
theorem md_X7_keep : qMd j_X7_keep 0 := ⟨qGw_in 593 (by decide +kernel) (by decide +kernel), qGw_in 52 (by decide +kernel) (by decide +kernel), ⟨by decide, by decide⟩, by decide +kernel, by decide⟩
theorem mv_X7_keep : qMv j_X7_keep := ⟨qGw_in 591 (by decide +kernel) (by decide +kernel), qGw_in 592 (by decide +kernel) (by decide +kernel)⟩
def j_X7_back : qj := (yX7_back, cX7_back, 1, (some .int))
theorem md_X7_back : qMd j_X7_back 0 := ⟨qGw_in 625 (by decide +kernel) (by decide +kernel), qGw_in 52 (by decide +kernel) (by decide +kernel), ⟨by decide, by decide⟩, by decide +kernel, by decide⟩
theorem mv_X7_back : qMv j_X7_back := ⟨qGw_in 623 (by decide +kernel) (by decide +kernel), qGw_in 624 (by decide +kernel) (by decide +kernel)⟩
def j_X7_makePlan : qj := (yX7_makePlan, cX7_makePlan, 1, none)
theorem md_X7_makePlan : qMd j_X7_makePlan 0 := ⟨qGw_in 518 (by decide +kernel) (by decide +kernel), qGw_in 52 (by decide +kernel) (by decide +kernel), ⟨by decide, by decide⟩, by decide +kernel, by decide⟩
theorem mv_X7_makePlan : qMv j_X7_makePlan := ⟨qGw_in 517 (by decide +kernel) (by decide +kernel), qGw_in 18 (by decide +kernel) (by decide +kernel)⟩
def j_X7_isChild : qj := (yX7_isChild, cX7_isChild, 2, (some .boolean))
theorem md_X7_isChild : qMd j_X7_isChild 1 := ⟨qGw_in 351 (by decide +kernel) (by decide +kernel), qGw_in 52 (by decide +kernel) (by decide +kernel), ⟨by decide, by decide⟩, by decide +kernel, by decide⟩
theorem mv_X7_isChild : qMv j_X7_isChild := ⟨qGw_in 350 (by decide +kernel) (by decide +kernel), qGw_in 0 (by decide +kernel) (by decide +kernel)⟩
def j_X7_isLeader : qj := (yX7_isLeader, cX7_isLeader, 2, (some .boolean))
theorem md_X7_isLeader : qMd j_X7_isLeader 1 := ⟨qGw_in 366 (by decide +kernel) (by decide +kernel), qGw_in 52 (by decide +kernel) (by decide +kernel), ⟨by decide, by decide⟩, by decide +kernel, by decide⟩
theorem mv_X7_isLeader : qMv j_X7_isLeader := ⟨qGw_in 365 (by decide +kernel) (by decide +kernel), qGw_in 1 (by decide +kernel) (by decide +kernel)⟩
def j_X7_isTask : qj := (yX7_isTask, cX7_isTask, 2, (some .boolean))
theorem md_X7_isTask : qMd j_X7_isTask 1 := ⟨qGw_in 384 (by decide +kernel) (by decide +kernel), qGw_in 52 (by decide +kernel) (by decide +kernel), ⟨by decide, by decide⟩, by decide +kernel, by decide⟩
theorem mv_X7_isTask : qMv j_X7_isTask := ⟨qGw_in 383 (by decide +kernel) (by decide +kernel), qGw_in 2 (by decide +kernel) (by decide +kernel)⟩
def j_X7_isBadge : qj := (yX7_isBadge, cX7_isBadge, 2, (some .boolean))
theorem md_X7_isBadge : qMd j_X7_isBadge 1 := ⟨qGw_in 392 (by decide +kernel) (by decide +kernel), qGw_in 52 (by decide +kernel) (by decide +kernel), ⟨by decide, by decide⟩, by decide +kernel, by decide⟩
theorem mv_X7_isBadge : qMv j_X7_isBadge := ⟨qGw_in 391 (by decide +kernel) (by decide +kernel), qGw_in 3 (by decide +kernel) (by decide +kernel)⟩
def j_X7_isSignature : qj := (yX7_isSignature, cX7_isSignature, 2, (some .boolean))
theorem md_X7_isSignature : qMd j_X7_isSignature 1 := ⟨qGw_in 404 (by decide +kernel) (by decide +kernel), qGw_in 52 (by decide +kernel) (by decide +kernel), ⟨by decide, by decide⟩, by decide +kernel, by decide⟩
theorem mv_X7_isSignature : qMv j_X7_isSignature := ⟨qGw_in 403 (by decide +kernel) (by decide +kernel), qGw_in 4 (by decide +kernel) (by decide +kernel)⟩
def j_X7_isBelow : qj := (yX7_isBelow, cX7_isBelow, 2, (some .boolean))
theorem md_X7_isBelow : qMd j_X7_isBelow 2 := ⟨qGw_in 343 (by decide +kernel) (by decide +kernel), qGw_in 52 (by decide +kernel) (by decide +kernel), ⟨by decide, by decide⟩, by decide +kernel, by decide⟩
theorem ms_X7_isBelow : qMs j_X7_isBelow := qGw_in 342 (by decide +kernel) (by decide +kernel)
def j_X7_isUpTo : qj := (yX7_isUpTo, cX7_isUpTo, 2, (some .boolean))
theorem md_X7_isUpTo : qMd j_X7_isUpTo 2 := ⟨qGw_in 372 (by decide +kernel) (by decide +kernel), qGw_in 52 (by decide +kernel) (by decide +kernel), ⟨by decide, by decide⟩, by decide +kernel, by decide⟩
theorem ms_X7_isUpTo : qMs j_X7_isUpTo := qGw_in 371 (by decide +kernel) (by decide +kernel)
def j_X7_isDay : qj := (yX7_isDay, cX7_isDay, 1, (some .boolean))
theorem md_X7_isDay : qMd j_X7_isDay 1 := ⟨qGw_in 369 (by decide +kernel) (by decide +kernel), qGw_in 52 (by decide +kernel) (by decide +kernel), ⟨by decide, by decide⟩, by decide +kernel, by decide⟩
theorem ms_X7_isDay : qMs j_X7_isDay := qGw_in 368 (by decide +kernel) (by decide +kernel)
def j_X7_isAge : qj := (yX7_isAge, cX7_isAge, 1, (some .boolean))
theorem md_X7_isAge : qMd j_X7_isAge 1 := ⟨qGw_in 340 (by decide +kernel) (by decide +kernel), qGw_in 52 (by decide +kernel) (by decide +kernel), ⟨by decide, by decide⟩, by decide +kernel, by decide⟩
theorem ms_X7_isAge : qMs j_X7_isAge := qGw_in 339 (by decide +kernel) (by decide +kernel)
def j_X7_hasBit : qj := (yX7_hasBit, cX7_hasBit, 2, (some .boolean))
theorem md_X7_hasBit : qMd j_X7_hasBit 2 := ⟨qGw_in 460 (by decide +kernel) (by decide +kernel), qGw_in 52 (by decide +kernel) (by decide +kernel), ⟨by decide, by decide⟩, by decide +kernel, by decide⟩
theorem ms_X7_hasBit : qMs j_X7_hasBit := qGw_in 459 (by decide +kernel) (by decide +kernel)
def j_X7_dayOrNone : qj := (yX7_dayOrNone, cX7_dayOrNone, 1, (some .int))
theorem md_X7_dayOrNone : qMd j_X7_dayOrNone 1 := ⟨qGw_in 441 (by decide +kernel) (by decide +kernel), qGw_in 52 (by decide +kernel) (by decide +kernel), ⟨by decide, by decide⟩, by decide +kernel, by decide⟩
theorem ms_X7_dayOrNone : qMs j_X7_dayOrNone := qGw_in 440 (by decide +kernel) (by decide +kernel)
def j_X7_replace : qj := (yX7_replace, cX7_replace, 4, (some .int))
theorem md_X7_replace : qMd j_X7_replace 3 := ⟨qGw_in 354 (by decide +kernel) (by decide +kernel), qGw_in 52 (by decide +kernel) (by decide +kernel), ⟨by decide, by decide⟩, by decide +kernel, by decide⟩
theorem ms_X7_replace : qMs j_X7_replace := qGw_in 353 (by decide +kernel) (by decide +kernel)
def j_X7_copyRow : qj := (yX7_copyRow, cX7_copyRow, 2, none)
theorem md_X7_copyRow : qMd j_X7_copyRow 2 := ⟨qGw_in 562 (by decide +kernel) (by decide +kernel), qGw_in 52 (by decide +kernel) (by decide +kernel), ⟨by decide, by decide⟩, by decide +kernel, by decide⟩
theorem ms_X7_copyRow : qMs j_X7_copyRow := qGw_in 561 (by decide +kernel) (by decide +kernel)
def j_X7_copyMarks : qj := (yX7_copyMarks, cX7_copyMarks, 3, none)
theorem md_X7_copyMarks : qMd j_X7_copyMarks 2 := ⟨qGw_in 615 (by decide +kernel) (by decide +kernel), qGw_in 52 (by decide +kernel) (by decide +kernel), ⟨by decide, by decide⟩, by decide +kernel, by decide⟩
theorem ms_X7_copyMarks : qMs j_X7_copyMarks := qGw_in 614 (by decide +kernel) (by decide +kernel)
def j_X8_in : qj := (yX8_in, cX8_in, 3, (some .boolean))
theorem md_X8_in : qMd j_X8_in 3 := ⟨qGw_in 714 (by decide +kernel) (by decide +kernel), qGw_in 61 (by decide +kernel) (by decide +kernel), ⟨by decide, by decide⟩, by decide +kernel, by decide⟩
theorem ms_X8_in : qMs j_X8_in := qGw_in 713 (by decide +kernel) (by decide +kernel)
def j_X8_is : qj := (yX8_is, cX8_is, 3, (some .boolean))
theorem md_X8_is : qMd j_X8_is 2 := ⟨qGw_in 729 (by decide +kernel) (by decide +kernel), qGw_in 61 (by decide +kernel) (by decide +kernel), ⟨by decide, by decide⟩, by decide +kernel, by decide⟩
theorem mv_X8_is : qMv j_X8_is := ⟨qGw_in 728 (by decide +kernel) (by decide +kernel), qGw_in 36 (by decide +kernel) (by decide +kernel)⟩
def j_X8_isDay : qj := (yX8_isDay, cX8_isDay, 1, (some .boolean))
theorem md_X8_isDay : qMd j_X8_isDay 1 := ⟨qGw_in 740 (by decide +kernel) (by decide +kernel), qGw_in 61 (by decide +kernel) (by decide +kernel), ⟨by decide, by decide⟩, by decide +kernel, by decide⟩
theorem ms_X8_isDay : qMs j_X8_isDay := qGw_in 739 (by decide +kernel) (by decide +kernel)
def j_X8_isPatrol : qj := (yX8_isPatrol, cX8_isPatrol, 1, (some .boolean))
theorem md_X8_isPatrol : qMd j_X8_isPatrol 1 := ⟨qGw_in 717 (by decide +kernel) (by decide +kernel), qGw_in 61 (by decide +kernel) (by decide +kernel), ⟨by decide, by decide⟩, by decide +kernel, by decide⟩
theorem ms_X8_isPatrol : qMs j_X8_isPatrol := qGw_in 716 (by decide +kernel) (by decide +kernel)
def j_X8_came : qj := (yX8_came, cX8_came, 2, (some .int))
theorem md_X8_came : qMd j_X8_came 1 := ⟨qGw_in 721 (by decide +kernel) (by decide +kernel), qGw_in 61 (by decide +kernel) (by decide +kernel), ⟨by decide, by decide⟩, by decide +kernel, by decide⟩
theorem mv_X8_came : qMv j_X8_came := ⟨qGw_in 720 (by decide +kernel) (by decide +kernel), qGw_in 35 (by decide +kernel) (by decide +kernel)⟩
def j_X8_child : qj := (yX8_child, cX8_child, 3, (some .int))
theorem md_X8_child : qMd j_X8_child 2 := ⟨qGw_in 711 (by decide +kernel) (by decide +kernel), qGw_in 61 (by decide +kernel) (by decide +kernel), ⟨by decide, by decide⟩, by decide +kernel, by decide⟩
theorem mv_X8_child : qMv j_X8_child := ⟨qGw_in 709 (by decide +kernel) (by decide +kernel), qGw_in 710 (by decide +kernel) (by decide +kernel)⟩
def j_X8_change : qj := (yX8_change, cX8_change, 5, (some .int))
theorem md_X8_change : qMd j_X8_change 3 := ⟨qGw_in 725 (by decide +kernel) (by decide +kernel), qGw_in 61 (by decide +kernel) (by decide +kernel), ⟨by decide, by decide⟩, by decide +kernel, by decide⟩
theorem mv_X8_change : qMv j_X8_change := ⟨qGw_in 723 (by decide +kernel) (by decide +kernel), qGw_in 724 (by decide +kernel) (by decide +kernel)⟩
def j_X8_leader : qj := (yX8_leader, cX8_leader, 3, (some .int))
theorem md_X8_leader : qMd j_X8_leader 0 := ⟨qGw_in 733 (by decide +kernel) (by decide +kernel), qGw_in 61 (by decide +kernel) (by decide +kernel), ⟨by decide, by decide⟩, by decide +kernel, by decide⟩
theorem mv_X8_leader : qMv j_X8_leader := ⟨qGw_in 731 (by decide +kernel) (by decide +kernel), qGw_in 732 (by decide +kernel) (by decide +kernel)⟩
def j_X8_paper : qj := (yX8_paper, cX8_paper, 5, (some .int))
theorem md_X8_paper : qMd j_X8_paper 4 := ⟨qGw_in 737 (by decide +kernel) (by decide +kernel), qGw_in 61 (by decide +kernel) (by decide +kernel), ⟨by decide, by decide⟩, by decide +kernel, by decide⟩
theorem mv_X8_paper : qMv j_X8_paper := ⟨qGw_in 735 (by decide +kernel) (by decide +kernel), qGw_in 736 (by decide +kernel) (by decide +kernel)⟩
def j_X8_lose : qj := (yX8_lose, cX8_lose, 3, (some .int))
theorem md_X8_lose : qMd j_X8_lose 2 := ⟨qGw_in 744 (by decide +kernel) (by decide +kernel), qGw_in 61 (by decide +kernel) (by decide +kernel), ⟨by decide, by decide⟩, by decide +kernel, by decide⟩
theorem mv_X8_lose : qMv j_X8_lose := ⟨qGw_in 742 (by decide +kernel) (by decide +kernel), qGw_in 743 (by decide +kernel) (by decide +kernel)⟩
def j_X8_task : qj := (yX8_task, cX8_task, 3, (some .int))
theorem md_X8_task : qMd j_X8_task 2 := ⟨qGw_in 748 (by decide +kernel) (by decide +kernel), qGw_in 61 (by decide +kernel) (by decide +kernel), ⟨by decide, by decide⟩, by decide +kernel, by decide⟩
theorem mv_X8_task : qMv j_X8_task := ⟨qGw_in 746 (by decide +kernel) (by decide +kernel), qGw_in 747 (by decide +kernel) (by decide +kernel)⟩
def j_X8_badge : qj := (yX8_badge, cX8_badge, 7, (some .int))
theorem md_X8_badge : qMd j_X8_badge 5 := ⟨qGw_in 752 (by decide +kernel) (by decide +kernel), qGw_in 61 (by decide +kernel) (by decide +kernel), ⟨by decide, by decide⟩, by decide +kernel, by decide⟩
theorem mv_X8_badge : qMv j_X8_badge := ⟨qGw_in 750 (by decide +kernel) (by decide +kernel), qGw_in 751 (by decide +kernel) (by decide +kernel)⟩
def j_X8_sign : qj := (yX8_sign, cX8_sign, 6, (some .int))
theorem md_X8_sign : qMd j_X8_sign 4 := ⟨qGw_in 756 (by decide +kernel) (by decide +kernel), qGw_in 61 (by decide +kernel) (by decide +kernel), ⟨by decide, by decide⟩, by decide +kernel, by decide⟩
theorem mv_X8_sign : qMv j_X8_sign := ⟨qGw_in 754 (by decide +kernel) (by decide +kernel), qGw_in 755 (by decide +kernel) (by decide +kernel)⟩
def j_X8_strike : qj := (yX8_strike, cX8_strike, 2, (some .int))
theorem md_X8_strike : qMd j_X8_strike 1 := ⟨qGw_in 760 (by decide +kernel) (by decide +kernel), qGw_in 61 (by decide +kernel) (by decide +kernel), ⟨by decide, by decide⟩, by decide +kernel, by decide⟩
theorem mv_X8_strike : qMv j_X8_strike := ⟨qGw_in 758 (by decide +kernel) (by decide +kernel), qGw_in 759 (by decide +kernel) (by decide +kernel)⟩
def j_X8_counts : qj := (yX8_counts, cX8_counts, 6, (some .boolean))
theorem md_X8_counts : qMd j_X8_counts 1 := ⟨qGw_in 772 (by decide +kernel) (by decide +kernel), qGw_in 61 (by decide +kernel) (by decide +kernel), ⟨by decide, by decide⟩, by decide +kernel, by decide⟩
theorem mv_X8_counts : qMv j_X8_counts := ⟨qGw_in 771 (by decide +kernel) (by decide +kernel), qGw_in 38 (by decide +kernel) (by decide +kernel)⟩
def j_X8_findDone : qj := (yX8_findDone, cX8_findDone, 6, none)
theorem md_X8_findDone : qMd j_X8_findDone 1 := ⟨qGw_in 768 (by decide +kernel) (by decide +kernel), qGw_in 61 (by decide +kernel) (by decide +kernel), ⟨by decide, by decide⟩, by decide +kernel, by decide⟩
theorem mv_X8_findDone : qMv j_X8_findDone := ⟨qGw_in 767 (by decide +kernel) (by decide +kernel), qGw_in 37 (by decide +kernel) (by decide +kernel)⟩
def j_X8_isDone : qj := (yX8_isDone, cX8_isDone, 2, (some .boolean))
theorem md_X8_isDone : qMd j_X8_isDone 1 := ⟨qGw_in 795 (by decide +kernel) (by decide +kernel), qGw_in 61 (by decide +kernel) (by decide +kernel), ⟨by decide, by decide⟩, by decide +kernel, by decide⟩
theorem mv_X8_isDone : qMv j_X8_isDone := ⟨qGw_in 794 (by decide +kernel) (by decide +kernel), qGw_in 41 (by decide +kernel) (by decide +kernel)⟩
def j_X8_dayOf : qj := (yX8_dayOf, cX8_dayOf, 6, (some .int))
theorem md_X8_dayOf : qMd j_X8_dayOf 2 := ⟨qGw_in 791 (by decide +kernel) (by decide +kernel), qGw_in 61 (by decide +kernel) (by decide +kernel), ⟨by decide, by decide⟩, by decide +kernel, by decide⟩
theorem mv_X8_dayOf : qMv j_X8_dayOf := ⟨qGw_in 790 (by decide +kernel) (by decide +kernel), qGw_in 40 (by decide +kernel) (by decide +kernel)⟩
def j_X8_later : qj := (yX8_later, cX8_later, 2, (some .int))
theorem md_X8_later : qMd j_X8_later 2 := ⟨qGw_in 798 (by decide +kernel) (by decide +kernel), qGw_in 61 (by decide +kernel) (by decide +kernel), ⟨by decide, by decide⟩, by decide +kernel, by decide⟩
theorem ms_X8_later : qMs j_X8_later := qGw_in 797 (by decide +kernel) (by decide +kernel)
def j_X8_ones : qj := (yX8_ones, cX8_ones, 3, (some .int))
theorem md_X8_ones : qMd j_X8_ones 1 := ⟨qGw_in 787 (by decide +kernel) (by decide +kernel), qGw_in 61 (by decide +kernel) (by decide +kernel), ⟨by decide, by decide⟩, by decide +kernel, by decide⟩
theorem ms_X8_ones : qMs j_X8_ones := qGw_in 786 (by decide +kernel) (by decide +kernel)
def j_X8_findHeld : qj := (yX8_findHeld, cX8_findHeld, 5, none)
theorem md_X8_findHeld : qMd j_X8_findHeld 1 := ⟨qGw_in 784 (by decide +kernel) (by decide +kernel), qGw_in 61 (by decide +kernel) (by decide +kernel), ⟨by decide, by decide⟩, by decide +kernel, by decide⟩
theorem mv_X8_findHeld : qMv j_X8_findHeld := ⟨qGw_in 783 (by decide +kernel) (by decide +kernel), qGw_in 39 (by decide +kernel) (by decide +kernel)⟩
def j_X8_of : qj := (yX8_of, cX8_of, 3, (some .int))
theorem md_X8_of : qMd j_X8_of 2 := ⟨qGw_in 764 (by decide +kernel) (by decide +kernel), qGw_in 61 (by decide +kernel) (by decide +kernel), ⟨by decide, by decide⟩, by decide +kernel, by decide⟩
theorem mv_X8_of : qMv j_X8_of := ⟨qGw_in 762 (by decide +kernel) (by decide +kernel), qGw_in 763 (by decide +kernel) (by decide +kernel)⟩
def j_X8_done : qj := (yX8_done, cX8_done, 3, (some .int))
theorem md_X8_done : qMd j_X8_done 2 := ⟨qGw_in 776 (by decide +kernel) (by decide +kernel), qGw_in 61 (by decide +kernel) (by decide +kernel), ⟨by decide, by decide⟩, by decide +kernel, by decide⟩
theorem mv_X8_done : qMv j_X8_done := ⟨qGw_in 774 (by decide +kernel) (by decide +kernel), qGw_in 775 (by decide +kernel) (by decide +kernel)⟩
def j_X8_held : qj := (yX8_held, cX8_held, 3, (some .int))
theorem md_X8_held : qMd j_X8_held 2 := ⟨qGw_in 780 (by decide +kernel) (by decide +kernel), qGw_in 61 (by decide +kernel) (by decide +kernel), ⟨by decide, by decide⟩, by decide +kernel, by decide⟩
theorem mv_X8_held : qMv j_X8_held := ⟨qGw_in 778 (by decide +kernel) (by decide +kernel), qGw_in 779 (by decide +kernel) (by decide +kernel)⟩
def j_X8_lacks : qj := (yX8_lacks, cX8_lacks, 8, (some .int))
theorem md_X8_lacks : qMd j_X8_lacks 3 := ⟨qGw_in 802 (by decide +kernel) (by decide +kernel), qGw_in 61 (by decide +kernel) (by decide +kernel), ⟨by decide, by decide⟩, by decide +kernel, by decide⟩
theorem mv_X8_lacks : qMv j_X8_lacks := ⟨qGw_in 800 (by decide +kernel) (by decide +kernel), qGw_in 801 (by decide +kernel) (by decide +kernel)⟩
def j_X8_badges : qj := (yX8_badges, cX8_badges, 5, (some .int))
theorem md_X8_badges : qMd j_X8_badges 2 := ⟨qGw_in 806 (by decide +kernel) (by decide +kernel), qGw_in 61 (by decide +kernel) (by decide +kernel), ⟨by decide, by decide⟩, by decide +kernel, by decide⟩
theorem mv_X8_badges : qMv j_X8_badges := ⟨qGw_in 804 (by decide +kernel) (by decide +kernel), qGw_in 805 (by decide +kernel) (by decide +kernel)⟩
def j_X8_site : qj := (yX8_site, cX8_site, 3, (some .int))
theorem md_X8_site : qMd j_X8_site 2 := ⟨qGw_in 810 (by decide +kernel) (by decide +kernel), qGw_in 61 (by decide +kernel) (by decide +kernel), ⟨by decide, by decide⟩, by decide +kernel, by decide⟩
theorem mv_X8_site : qMv j_X8_site := ⟨qGw_in 808 (by decide +kernel) (by decide +kernel), qGw_in 809 (by decide +kernel) (by decide +kernel)⟩
def j_X8_wish : qj := (yX8_wish, cX8_wish, 7, (some .int))
theorem md_X8_wish : qMd j_X8_wish 4 := ⟨qGw_in 814 (by decide +kernel) (by decide +kernel), qGw_in 61 (by decide +kernel) (by decide +kernel), ⟨by decide, by decide⟩, by decide +kernel, by decide⟩
theorem mv_X8_wish : qMv j_X8_wish := ⟨qGw_in 812 (by decide +kernel) (by decide +kernel), qGw_in 813 (by decide +kernel) (by decide +kernel)⟩
def j_X8_free : qj := (yX8_free, cX8_free, 4, (some .int))
theorem md_X8_free : qMd j_X8_free 2 := ⟨qGw_in 818 (by decide +kernel) (by decide +kernel), qGw_in 61 (by decide +kernel) (by decide +kernel), ⟨by decide, by decide⟩, by decide +kernel, by decide⟩
theorem mv_X8_free : qMv j_X8_free := ⟨qGw_in 816 (by decide +kernel) (by decide +kernel), qGw_in 817 (by decide +kernel) (by decide +kernel)⟩
def j_X8_ratio : qj := (yX8_ratio, cX8_ratio, 3, (some .int))
theorem md_X8_ratio : qMd j_X8_ratio 1 := ⟨qGw_in 822 (by decide +kernel) (by decide +kernel), qGw_in 61 (by decide +kernel) (by decide +kernel), ⟨by decide, by decide⟩, by decide +kernel, by decide⟩
theorem mv_X8_ratio : qMv j_X8_ratio := ⟨qGw_in 820 (by decide +kernel) (by decide +kernel), qGw_in 821 (by decide +kernel) (by decide +kernel)⟩
def j_X8_sizeOf : qj := (yX8_sizeOf, cX8_sizeOf, 4, (some .int))
theorem md_X8_sizeOf : qMd j_X8_sizeOf 1 := ⟨qGw_in 834 (by decide +kernel) (by decide +kernel), qGw_in 61 (by decide +kernel) (by decide +kernel), ⟨by decide, by decide⟩, by decide +kernel, by decide⟩
theorem mv_X8_sizeOf : qMv j_X8_sizeOf := ⟨qGw_in 833 (by decide +kernel) (by decide +kernel), qGw_in 43 (by decide +kernel) (by decide +kernel)⟩
def j_X8_fits : qj := (yX8_fits, cX8_fits, 11, (some .boolean))
theorem md_X8_fits : qMd j_X8_fits 1 := ⟨qGw_in 838 (by decide +kernel) (by decide +kernel), qGw_in 61 (by decide +kernel) (by decide +kernel), ⟨by decide, by decide⟩, by decide +kernel, by decide⟩
theorem mv_X8_fits : qMv j_X8_fits := ⟨qGw_in 837 (by decide +kernel) (by decide +kernel), qGw_in 44 (by decide +kernel) (by decide +kernel)⟩
def j_X8_worthOf : qj := (yX8_worthOf, cX8_worthOf, 2, (some .int))
theorem md_X8_worthOf : qMd j_X8_worthOf 1 := ⟨qGw_in 846 (by decide +kernel) (by decide +kernel), qGw_in 61 (by decide +kernel) (by decide +kernel), ⟨by decide, by decide⟩, by decide +kernel, by decide⟩
theorem mv_X8_worthOf : qMv j_X8_worthOf := ⟨qGw_in 845 (by decide +kernel) (by decide +kernel), qGw_in 46 (by decide +kernel) (by decide +kernel)⟩
def j_X8_findPlan : qj := (yX8_findPlan, cX8_findPlan, 3, none)
theorem md_X8_findPlan : qMd j_X8_findPlan 0 := ⟨qGw_in 830 (by decide +kernel) (by decide +kernel), qGw_in 61 (by decide +kernel) (by decide +kernel), ⟨by decide, by decide⟩, by decide +kernel, by decide⟩
theorem mv_X8_findPlan : qMv j_X8_findPlan := ⟨qGw_in 829 (by decide +kernel) (by decide +kernel), qGw_in 42 (by decide +kernel) (by decide +kernel)⟩
def j_X8_takes : qj := (yX8_takes, cX8_takes, 4, none)
theorem md_X8_takes : qMd j_X8_takes 0 := ⟨qGw_in 842 (by decide +kernel) (by decide +kernel), qGw_in 61 (by decide +kernel) (by decide +kernel), ⟨by decide, by decide⟩, by decide +kernel, by decide⟩
theorem mv_X8_takes : qMv j_X8_takes := ⟨qGw_in 841 (by decide +kernel) (by decide +kernel), qGw_in 45 (by decide +kernel) (by decide +kernel)⟩
def j_X8_plan : qj := (yX8_plan, cX8_plan, 2, (some .int))
theorem md_X8_plan : qMd j_X8_plan 1 := ⟨qGw_in 826 (by decide +kernel) (by decide +kernel), qGw_in 61 (by decide +kernel) (by decide +kernel), ⟨by decide, by decide⟩, by decide +kernel, by decide⟩
theorem mv_X8_plan : qMv j_X8_plan := ⟨qGw_in 824 (by decide +kernel) (by decide +kernel), qGw_in 825 (by decide +kernel) (by decide +kernel)⟩
def j_X8_planned : qj := (yX8_planned, cX8_planned, 4, (some .int))
theorem md_X8_planned : qMd j_X8_planned 1 := ⟨qGw_in 850 (by decide +kernel) (by decide +kernel), qGw_in 61 (by decide +kernel) (by decide +kernel), ⟨by decide, by decide⟩, by decide +kernel, by decide⟩
theorem mv_X8_planned : qMv j_X8_planned := ⟨qGw_in 848 (by decide +kernel) (by decide +kernel), qGw_in 849 (by decide +kernel) (by decide +kernel)⟩
def j_X8_counting : qj := (yX8_counting, cX8_counting, 3, (some .int))
theorem md_X8_counting : qMd j_X8_counting 0 := ⟨qGw_in 858 (by decide +kernel) (by decide +kernel), qGw_in 61 (by decide +kernel) (by decide +kernel), ⟨by decide, by decide⟩, by decide +kernel, by decide⟩
theorem mv_X8_counting : qMv j_X8_counting := ⟨qGw_in 857 (by decide +kernel) (by decide +kernel), qGw_in 47 (by decide +kernel) (by decide +kernel)⟩
def j_X8_holding : qj := (yX8_holding, cX8_holding, 3, (some .int))
theorem md_X8_holding : qMd j_X8_holding 0 := ⟨qGw_in 863 (by decide +kernel) (by decide +kernel), qGw_in 61 (by decide +kernel) (by decide +kernel), ⟨by decide, by decide⟩, by decide +kernel, by decide⟩
theorem mv_X8_holding : qMv j_X8_holding := ⟨qGw_in 862 (by decide +kernel) (by decide +kernel), qGw_in 48 (by decide +kernel) (by decide +kernel)⟩
def j_X8_many : qj := (yX8_many, cX8_many, 2, (some .int))
theorem md_X8_many : qMd j_X8_many 1 := ⟨qGw_in 854 (by decide +kernel) (by decide +kernel), qGw_in 61 (by decide +kernel) (by decide +kernel), ⟨by decide, by decide⟩, by decide +kernel, by decide⟩
theorem mv_X8_many : qMv j_X8_many := ⟨qGw_in 852 (by decide +kernel) (by decide +kernel), qGw_in 853 (by decide +kernel) (by decide +kernel)⟩
def j_X8_move : qj := (yX8_move, cX8_move, 5, none)
theorem md_X8_move : qMd j_X8_move 3 := ⟨qGw_in 876 (by decide +kernel) (by decide +kernel), qGw_in 61 (by decide +kernel) (by decide +kernel), ⟨by decide, by decide⟩, by decide +kernel, by decide⟩
theorem mv_X8_move : qMv j_X8_move := ⟨qGw_in 875 (by decide +kernel) (by decide +kernel), qGw_in 50 (by decide +kernel) (by decide +kernel)⟩
def j_X8_moveAll : qj := (yX8_moveAll, cX8_moveAll, 2, none)
theorem md_X8_moveAll : qMd j_X8_moveAll 1 := ⟨qGw_in 872 (by decide +kernel) (by decide +kernel), qGw_in 61 (by decide +kernel) (by decide +kernel), ⟨by decide, by decide⟩, by decide +kernel, by decide⟩
theorem mv_X8_moveAll : qMv j_X8_moveAll := ⟨qGw_in 871 (by decide +kernel) (by decide +kernel), qGw_in 49 (by decide +kernel) (by decide +kernel)⟩
def j_X8_keep : qj := (yX8_keep, cX8_keep, 1, (some .int))
theorem md_X8_keep : qMd j_X8_keep 0 := ⟨qGw_in 868 (by decide +kernel) (by decide +kernel), qGw_in 61 (by decide +kernel) (by decide +kernel), ⟨by decide, by decide⟩, by decide +kernel, by decide⟩
theorem mv_X8_keep : qMv j_X8_keep := ⟨qGw_in 866 (by decide +kernel) (by decide +kernel), qGw_in 867 (by decide +kernel) (by decide +kernel)⟩
def j_X8_back : qj := (yX8_back, cX8_back, 1, (some .int))
theorem md_X8_back : qMd j_X8_back 0 := ⟨qGw_in 880 (by decide +kernel) (by decide +kernel), qGw_in 61 (by decide +kernel) (by decide +kernel), ⟨by decide, by decide⟩, by decide +kernel, by decide⟩
theorem mv_X8_back : qMv j_X8_back := ⟨qGw_in 878 (by decide +kernel) (by decide +kernel), qGw_in 879 (by decide +kernel) (by decide +kernel)⟩
def j_J7_fill_53178 : qj := (yJ7_fill_53178, cJ7_fill_53178, 4, none)
theorem md_J7_fill_53178 : qMd j_J7_fill_53178 2 := ⟨qGw_in 86 (by decide +kernel) (by decide +kernel), qGw_in 55 (by decide +kernel) (by decide +kernel), ⟨by decide, by decide⟩, by decide +kernel, by decide⟩
theorem ms_J7_fill_53178 : qMs j_J7_fill_53178 := qGw_in 85 (by decide +kernel) (by decide +kernel)
theorem ml_X7_44 : qMl RX7 44 j_X7_isAge := Or.inl (qGw_in 338 (by decide +kernel) (by decide +kernel))
theorem ml_X7_48 : qMl RX7 48 j_X7_isBelow := Or.inl (qGw_in 341 (by decide +kernel) (by decide +kernel))
theorem ml_X7_68 : qMl RX7 68 j_X7_isChild := Or.inl (qGw_in 348 (by decide +kernel) (by decide +kernel))
theorem ml_X7_71 : qMl RX7 71 j_X7_replace := Or.inl (qGw_in 352 (by decide +kernel) (by decide +kernel))
theorem ml_X7_78 : qMl RX7 78 j_X7_isLeader := Or.inl (qGw_in 363 (by decide +kernel) (by decide +kernel))
theorem ml_X7_81 : qMl RX7 81 j_X7_isDay := Or.inl (qGw_in 367 (by decide +kernel) (by decide +kernel))
theorem ml_X7_90 : qMl RX7 90 j_X7_isTask := Or.inl (qGw_in 381 (by decide +kernel) (by decide +kernel))
theorem ml_X7_108 : qMl RX7 108 j_X7_isUpTo := Or.inl (qGw_in 370 (by decide +kernel) (by decide +kernel))
theorem ml_X7_111 : qMl RX7 111 j_X7_isBadge := Or.inl (qGw_in 389 (by decide +kernel) (by decide +kernel))
theorem ml_X7_151 : qMl RX7 151 j_X7_isSignature := Or.inl (qGw_in 401 (by decide +kernel) (by decide +kernel))
theorem ml_X7_154 : qMl RX7 154 j_X2_readDone := Or.inr ⟨"CampBook", qNw_in 358 (by decide +kernel) (by decide +kernel)⟩
theorem ml_X7_158 : qMl RX7 158 j_X2_counts := Or.inr ⟨"CampBook", qNw_in 382 (by decide +kernel) (by decide +kernel)⟩
theorem ml_X7_162 : qMl RX7 162 j_X2_doneFrom := Or.inr ⟨"CampBook", qNw_in 387 (by decide +kernel) (by decide +kernel)⟩
theorem ml_X7_166 : qMl RX7 166 j_X7_dayOrNone := Or.inl (qGw_in 439 (by decide +kernel) (by decide +kernel))
theorem ml_X7_170 : qMl RX7 170 j_X2_readHeld := Or.inr ⟨"CampBook", qNw_in 395 (by decide +kernel) (by decide +kernel)⟩
theorem ml_X7_177 : qMl RX7 177 j_X2_bitsNotDone := Or.inr ⟨"CampBook", qNw_in 429 (by decide +kernel) (by decide +kernel)⟩
theorem ml_X7_180 : qMl RX7 180 j_X2_doneBy := Or.inr ⟨"CampBook", qNw_in 433 (by decide +kernel) (by decide +kernel)⟩
theorem ml_X7_184 : Cond.methodLink RX7 184 Lib.Math.max.name ∈ qGw := qGw_in 485 (by decide +kernel) (by decide +kernel)
theorem ml_X7_189 : qMl RX7 189 j_X2_otherFrom := Or.inr ⟨"CampBook", qNw_in 435 (by decide +kernel) (by decide +kernel)⟩
theorem ml_X7_192 : qMl RX7 192 j_X2_countHeld := Or.inr ⟨"CampBook", qNw_in 440 (by decide +kernel) (by decide +kernel)⟩
theorem ml_X7_217 : qMl RX7 217 j_X7_makePlan := Or.inl (qGw_in 515 (by decide +kernel) (by decide +kernel))
theorem ml_X7_229 : qMl RX7 229 j_X4_countAway := Or.inr ⟨"CampBook", qNw_in 520 (by decide +kernel) (by decide +kernel)⟩
theorem ml_X7_232 : qMl RX7 232 j_X2_countCounting := Or.inr ⟨"CampBook", qNw_in 528 (by decide +kernel) (by decide +kernel)⟩
theorem ml_X7_236 : qMl RX7 236 j_X2_countHeldOfAll := Or.inr ⟨"CampBook", qNw_in 532 (by decide +kernel) (by decide +kernel)⟩
theorem ml_X7_239 : qMl RX7 239 j_X3_countPatrol := Or.inr ⟨"CampBook", qNw_in 538 (by decide +kernel) (by decide +kernel)⟩
theorem ml_X7_242 : qMl RX7 242 j_X0_become := Or.inr ⟨"CampBook", qNw_in 543 (by decide +kernel) (by decide +kernel)⟩
theorem ml_X7_245 : qMl RX7 245 j_X4_read := Or.inr ⟨"CampBook", qNw_in 468 (by decide +kernel) (by decide +kernel)⟩
theorem ml_X7_248 : qMl RX7 248 j_X4_search := Or.inr ⟨"CampBook", qNw_in 493 (by decide +kernel) (by decide +kernel)⟩
theorem ml_X7_251 : Cond.methodLink RX7 251 Lib.Math.min.name ∈ qGw := qGw_in 563 (by decide +kernel) (by decide +kernel)
theorem ml_X7_254 : Cond.methodLink RX7 254 arraycopyName ∈ qGw := qGw_in 564 (by decide +kernel) (by decide +kernel)
theorem ml_X0_37 : qMl RX0 37 j_X3_become := Or.inr ⟨"CampBook", qNw_in 547 (by decide +kernel) (by decide +kernel)⟩
theorem ml_X0_41 : qMl RX0 41 j_X6_become := Or.inr ⟨"CampBook", qNw_in 552 (by decide +kernel) (by decide +kernel)⟩
theorem ml_X0_44 : qMl RX0 44 j_X5_become := Or.inr ⟨"CampBook", qNw_in 557 (by decide +kernel) (by decide +kernel)⟩
theorem ml_X0_47 : qMl RX0 47 j_X1_become := Or.inr ⟨"CampBook", qNw_in 565 (by decide +kernel) (by decide +kernel)⟩
theorem ml_X1_26 : qMl RX1 26 j_X7_copyRow := Or.inr ⟨"CampBook", qNw_in 569 (by decide +kernel) (by decide +kernel)⟩
theorem ml_X1_30 : qMl RX1 30 j_X7_copyMarks := Or.inr ⟨"CampBook", qNw_in 570 (by decide +kernel) (by decide +kernel)⟩
theorem ml_X2_18 : qMl RX2 18 j_J7_fill_53178 := Or.inl (qGw_in 413 (by decide +kernel) (by decide +kernel))
theorem ml_X2_36 : qMl RX2 36 j_X2_readTask := Or.inl (qGw_in 414 (by decide +kernel) (by decide +kernel))
theorem ml_X2_51 : qMl RX2 51 j_X2_counts := Or.inl (qGw_in 418 (by decide +kernel) (by decide +kernel))
theorem ml_X2_61 : Cond.methodLink RX2 61 Lib.Math.min.name ∈ qGw := qGw_in 430 (by decide +kernel) (by decide +kernel)
theorem ml_X2_81 : qMl RX2 81 j_X3_hasPaper := Or.inr ⟨"CampBook", qNw_in 371 (by decide +kernel) (by decide +kernel)⟩
theorem ml_X2_90 : qMl RX2 90 j_X2_doneFrom := Or.inl (qGw_in 426 (by decide +kernel) (by decide +kernel))
theorem ml_X2_93 : qMl RX2 93 j_X7_hasBit := Or.inr ⟨"CampBook", qNw_in 407 (by decide +kernel) (by decide +kernel)⟩
theorem ml_X2_97 : Cond.methodLink RX2 97 Lib.Math.max.name ∈ qGw := qGw_in 461 (by decide +kernel) (by decide +kernel)
theorem ml_X2_100 : qMl RX2 100 j_X2_doneBy := Or.inl (qGw_in 468 (by decide +kernel) (by decide +kernel))
theorem ml_X2_107 : qMl RX2 107 j_X2_readBadge := Or.inl (qGw_in 450 (by decide +kernel) (by decide +kernel))
theorem ml_X2_118 : qMl RX2 118 j_X2_allFrom := Or.inl (qGw_in 454 (by decide +kernel) (by decide +kernel))
theorem ml_X2_127 : qMl RX2 127 j_X2_someFrom := Or.inl (qGw_in 464 (by decide +kernel) (by decide +kernel))
theorem ml_X2_133 : qMl RX2 133 j_X2_otherFrom := Or.inl (qGw_in 472 (by decide +kernel) (by decide +kernel))
theorem ml_X2_139 : qMl RX2 139 j_X2_readHeld := Or.inl (qGw_in 587 (by decide +kernel) (by decide +kernel))
theorem ml_X2_142 : qMl RX2 142 j_X2_countHeld := Or.inl (qGw_in 588 (by decide +kernel) (by decide +kernel))
theorem ml_X3_37 : qMl RX3 37 j_X7_copyRow := Or.inr ⟨"CampBook", qNw_in 551 (by decide +kernel) (by decide +kernel)⟩
theorem ml_X3_44 : qMl RX3 44 j_X7_hasBit := Or.inr ⟨"CampBook", qNw_in 476 (by decide +kernel) (by decide +kernel)⟩
theorem ml_X4_42 : qMl RX4 42 j_X3_countFree := Or.inr ⟨"CampBook", qNw_in 472 (by decide +kernel) (by decide +kernel)⟩
theorem ml_X4_58 : qMl RX4 58 j_X4_readBars := Or.inl (qGw_in 528 (by decide +kernel) (by decide +kernel))
theorem ml_X4_62 : qMl RX4 62 j_X3_countPatrol := Or.inr ⟨"CampBook", qNw_in 480 (by decide +kernel) (by decide +kernel)⟩
theorem ml_X4_65 : qMl RX4 65 j_X4_readOffer := Or.inl (qGw_in 535 (by decide +kernel) (by decide +kernel))
theorem ml_X4_69 : qMl RX4 69 j_X4_readHopes := Or.inl (qGw_in 539 (by decide +kernel) (by decide +kernel))
theorem ml_X4_82 : Cond.methodLink RX4 82 Lib.Math.max.name ∈ qGw := qGw_in 543 (by decide +kernel) (by decide +kernel)
theorem ml_X4_88 : qMl RX4 88 j_J7_fill_53178 := Or.inl (qGw_in 548 (by decide +kernel) (by decide +kernel))
theorem ml_X4_100 : qMl RX4 100 j_X4_seek := Or.inl (qGw_in 549 (by decide +kernel) (by decide +kernel))
theorem ml_X4_104 : qMl RX4 104 j_X4_isNoBetter := Or.inl (qGw_in 552 (by decide +kernel) (by decide +kernel))
theorem ml_X4_108 : qMl RX4 108 j_X4_takeTried := Or.inl (qGw_in 556 (by decide +kernel) (by decide +kernel))
theorem ml_X4_112 : qMl RX4 112 j_X7_copyRow := Or.inr ⟨"CampBook", qNw_in 509 (by decide +kernel) (by decide +kernel)⟩
theorem ml_X5_32 : qMl RX5 32 j_X7_copyRow := Or.inr ⟨"CampBook", qNw_in 561 (by decide +kernel) (by decide +kernel)⟩
theorem ml_X5_36 : qMl RX5 36 j_X7_copyMarks := Or.inr ⟨"CampBook", qNw_in 562 (by decide +kernel) (by decide +kernel)⟩
theorem ml_X6_37 : qMl RX6 37 j_X7_copyRow := Or.inr ⟨"CampBook", qNw_in 556 (by decide +kernel) (by decide +kernel)⟩
theorem ml_L_13 : qMl RL 13 j_X7_child := Or.inl (qGw_in 334 (by decide +kernel) (by decide +kernel))
theorem ml_L_17 : qMl RL 17 j_X8_child := Or.inl (qGw_in 708 (by decide +kernel) (by decide +kernel))
theorem ml_L_18 : qMl RL 18 j_X7_change := Or.inl (qGw_in 344 (by decide +kernel) (by decide +kernel))
theorem ml_L_22 : qMl RL 22 j_X8_change := Or.inl (qGw_in 722 (by decide +kernel) (by decide +kernel))
theorem ml_L_23 : qMl RL 23 j_X7_leader := Or.inl (qGw_in 355 (by decide +kernel) (by decide +kernel))
theorem ml_L_27 : qMl RL 27 j_X8_leader := Or.inl (qGw_in 730 (by decide +kernel) (by decide +kernel))
theorem ml_L_28 : qMl RL 28 j_X7_paper := Or.inl (qGw_in 359 (by decide +kernel) (by decide +kernel))
theorem ml_L_32 : qMl RL 32 j_X8_paper := Or.inl (qGw_in 734 (by decide +kernel) (by decide +kernel))
theorem ml_L_33 : qMl RL 33 j_X7_lose := Or.inl (qGw_in 373 (by decide +kernel) (by decide +kernel))
theorem ml_L_36 : qMl RL 36 j_X8_lose := Or.inl (qGw_in 741 (by decide +kernel) (by decide +kernel))
theorem ml_L_37 : qMl RL 37 j_X7_task := Or.inl (qGw_in 377 (by decide +kernel) (by decide +kernel))
theorem ml_L_40 : qMl RL 40 j_X8_task := Or.inl (qGw_in 745 (by decide +kernel) (by decide +kernel))
theorem ml_L_41 : qMl RL 41 j_X7_badge := Or.inl (qGw_in 385 (by decide +kernel) (by decide +kernel))
theorem ml_L_45 : qMl RL 45 j_X8_badge := Or.inl (qGw_in 749 (by decide +kernel) (by decide +kernel))
theorem ml_L_46 : qMl RL 46 j_X7_sign := Or.inl (qGw_in 393 (by decide +kernel) (by decide +kernel))
theorem ml_L_49 : qMl RL 49 j_X8_sign := Or.inl (qGw_in 753 (by decide +kernel) (by decide +kernel))
theorem ml_L_50 : qMl RL 50 j_X7_strike := Or.inl (qGw_in 397 (by decide +kernel) (by decide +kernel))
theorem ml_L_54 : qMl RL 54 j_X8_strike := Or.inl (qGw_in 757 (by decide +kernel) (by decide +kernel))
theorem ml_L_55 : qMl RL 55 j_X7_of := Or.inl (qGw_in 405 (by decide +kernel) (by decide +kernel))
theorem ml_L_58 : qMl RL 58 j_X8_of := Or.inl (qGw_in 761 (by decide +kernel) (by decide +kernel))
theorem ml_L_59 : qMl RL 59 j_X7_done := Or.inl (qGw_in 434 (by decide +kernel) (by decide +kernel))
theorem ml_L_62 : qMl RL 62 j_X8_done := Or.inl (qGw_in 773 (by decide +kernel) (by decide +kernel))
theorem ml_L_63 : qMl RL 63 j_X7_held := Or.inl (qGw_in 442 (by decide +kernel) (by decide +kernel))
theorem ml_L_66 : qMl RL 66 j_X8_held := Or.inl (qGw_in 777 (by decide +kernel) (by decide +kernel))
theorem ml_L_67 : qMl RL 67 j_X7_lacks := Or.inl (qGw_in 476 (by decide +kernel) (by decide +kernel))
theorem ml_L_70 : qMl RL 70 j_X8_lacks := Or.inl (qGw_in 799 (by decide +kernel) (by decide +kernel))
theorem ml_L_71 : qMl RL 71 j_X7_badges := Or.inl (qGw_in 487 (by decide +kernel) (by decide +kernel))
theorem ml_L_74 : qMl RL 74 j_X8_badges := Or.inl (qGw_in 803 (by decide +kernel) (by decide +kernel))
theorem ml_L_75 : qMl RL 75 j_X7_site := Or.inl (qGw_in 495 (by decide +kernel) (by decide +kernel))
theorem ml_L_79 : qMl RL 79 j_X8_site := Or.inl (qGw_in 807 (by decide +kernel) (by decide +kernel))
theorem ml_L_80 : qMl RL 80 j_X7_wish := Or.inl (qGw_in 499 (by decide +kernel) (by decide +kernel))
theorem ml_L_83 : qMl RL 83 j_X8_wish := Or.inl (qGw_in 811 (by decide +kernel) (by decide +kernel))
theorem ml_L_84 : qMl RL 84 j_X7_free := Or.inl (qGw_in 503 (by decide +kernel) (by decide +kernel))
theorem ml_L_87 : qMl RL 87 j_X8_free := Or.inl (qGw_in 815 (by decide +kernel) (by decide +kernel))
theorem ml_L_88 : qMl RL 88 j_X7_ratio := Or.inl (qGw_in 507 (by decide +kernel) (by decide +kernel))
theorem ml_L_91 : qMl RL 91 j_X8_ratio := Or.inl (qGw_in 819 (by decide +kernel) (by decide +kernel))
theorem ml_L_92 : qMl RL 92 j_X7_plan := Or.inl (qGw_in 511 (by decide +kernel) (by decide +kernel))
theorem ml_L_95 : qMl RL 95 j_X8_plan := Or.inl (qGw_in 823 (by decide +kernel) (by decide +kernel))
theorem ml_L_96 : qMl RL 96 j_X7_planned := Or.inl (qGw_in 567 (by decide +kernel) (by decide +kernel))
theorem ml_L_99 : qMl RL 99 j_X8_planned := Or.inl (qGw_in 847 (by decide +kernel) (by decide +kernel))
theorem ml_L_100 : qMl RL 100 j_X7_many := Or.inl (qGw_in 575 (by decide +kernel) (by decide +kernel))
theorem ml_L_103 : qMl RL 103 j_X8_many := Or.inl (qGw_in 851 (by decide +kernel) (by decide +kernel))
theorem ml_L_104 : qMl RL 104 j_X7_keep := Or.inl (qGw_in 590 (by decide +kernel) (by decide +kernel))
theorem ml_L_107 : qMl RL 107 j_X8_keep := Or.inl (qGw_in 865 (by decide +kernel) (by decide +kernel))
theorem ml_L_108 : qMl RL 108 j_X7_back := Or.inl (qGw_in 622 (by decide +kernel) (by decide +kernel))
theorem ml_L_111 : qMl RL 111 j_X8_back := Or.inl (qGw_in 877 (by decide +kernel) (by decide +kernel))
theorem ml_X8_74 : qMl RX8 74 j_X8_in := Or.inl (qGw_in 712 (by decide +kernel) (by decide +kernel))
theorem ml_X8_78 : qMl RX8 78 j_X8_isPatrol := Or.inl (qGw_in 715 (by decide +kernel) (by decide +kernel))
theorem ml_X8_82 : qMl RX8 82 j_X8_came := Or.inl (qGw_in 718 (by decide +kernel) (by decide +kernel))
theorem ml_X8_86 : qMl RX8 86 j_X8_is := Or.inl (qGw_in 726 (by decide +kernel) (by decide +kernel))
theorem ml_X8_90 : qMl RX8 90 j_X8_isDay := Or.inl (qGw_in 738 (by decide +kernel) (by decide +kernel))
theorem ml_X8_93 : qMl RX8 93 j_X8_counts := Or.inl (qGw_in 769 (by decide +kernel) (by decide +kernel))
theorem ml_X8_96 : qMl RX8 96 j_X8_isDone := Or.inl (qGw_in 792 (by decide +kernel) (by decide +kernel))
theorem ml_X8_99 : qMl RX8 99 j_X8_findDone := Or.inl (qGw_in 765 (by decide +kernel) (by decide +kernel))
theorem ml_X8_103 : qMl RX8 103 j_X8_ones := Or.inl (qGw_in 785 (by decide +kernel) (by decide +kernel))
theorem ml_X8_106 : qMl RX8 106 j_X8_dayOf := Or.inl (qGw_in 788 (by decide +kernel) (by decide +kernel))
theorem ml_X8_110 : qMl RX8 110 j_X8_later := Or.inl (qGw_in 796 (by decide +kernel) (by decide +kernel))
theorem ml_X8_113 : qMl RX8 113 j_X8_findHeld := Or.inl (qGw_in 781 (by decide +kernel) (by decide +kernel))
theorem ml_X8_116 : qMl RX8 116 j_X8_sizeOf := Or.inl (qGw_in 831 (by decide +kernel) (by decide +kernel))
theorem ml_X8_125 : qMl RX8 125 j_X8_fits := Or.inl (qGw_in 835 (by decide +kernel) (by decide +kernel))
theorem ml_X8_128 : qMl RX8 128 j_X8_takes := Or.inl (qGw_in 839 (by decide +kernel) (by decide +kernel))
theorem ml_X8_131 : qMl RX8 131 j_X8_worthOf := Or.inl (qGw_in 843 (by decide +kernel) (by decide +kernel))
theorem ml_X8_134 : qMl RX8 134 j_X8_findPlan := Or.inl (qGw_in 827 (by decide +kernel) (by decide +kernel))
theorem ml_X8_137 : qMl RX8 137 j_X8_of := Or.inl (qGw_in 859 (by decide +kernel) (by decide +kernel))
theorem ml_X8_140 : qMl RX8 140 j_X8_badges := Or.inl (qGw_in 864 (by decide +kernel) (by decide +kernel))
theorem ml_X8_142 : qMl RX8 142 j_X8_counting := Or.inl (qGw_in 855 (by decide +kernel) (by decide +kernel))
theorem ml_X8_146 : qMl RX8 146 j_X8_holding := Or.inl (qGw_in 860 (by decide +kernel) (by decide +kernel))
theorem ml_X8_152 : qMl RX8 152 j_X8_move := Or.inl (qGw_in 873 (by decide +kernel) (by decide +kernel))
theorem ml_X8_156 : qMl RX8 156 j_X8_moveAll := Or.inl (qGw_in 869 (by decide +kernel) (by decide +kernel))
theorem mm_max : Cond.static Lib.Math.max.name ∈ qGw ∧ Cond.initialized "java/lang/Math" ∈ qGw ∧ Cond.code Lib.Math.max.name Lib.Math.max.code 2 (some .int) ∈ qGw := ⟨qGw_in 462 (by decide +kernel) (by decide +kernel), qGw_in 62 (by decide +kernel) (by decide +kernel), qGw_in 463 (by decide +kernel) (by decide +kernel)⟩
theorem mm_min : Cond.static Lib.Math.min.name ∈ qGw ∧ Cond.initialized "java/lang/Math" ∈ qGw ∧ Cond.code Lib.Math.min.name Lib.Math.min.code 2 (some .int) ∈ qGw := ⟨qGw_in 431 (by decide +kernel) (by decide +kernel), qGw_in 62 (by decide +kernel) (by decide +kernel), qGw_in 432 (by decide +kernel) (by decide +kernel)⟩
theorem mm_copy : Cond.native arraycopyName ∈ qGw ∧ Cond.static arraycopyName ∈ qGw ∧ Cond.initialized "java/lang/System" ∈ qGw := ⟨qGw_in 566 (by decide +kernel) (by decide +kernel), qGw_in 565 (by decide +kernel) (by decide +kernel), qGw_in 63 (by decide +kernel) (by decide +kernel)⟩
theorem ly_0 : qLs[0]? = some (.inl (7, [some 1, some 26, some 51, some 54, none, none, none])) := by decide +kernel
theorem ly_1 : qLs[1]? = some (.inl (0, [some 2, some 8, some 16, some 22])) := by decide +kernel
theorem ly_2 : qLs[2]? = some (.inl (3, [none, some 3, some 4, none, some 5, some 6, some 7])) := by decide +kernel
theorem ly_3 : qLs[3]? = some (.inr (false, 10)) := by decide +kernel
theorem ly_4 : qLs[4]? = some (.inr (false, 10)) := by decide +kernel
theorem ly_5 : qLs[5]? = some (.inr (false, 20)) := by decide +kernel
theorem ly_6 : qLs[6]? = some (.inr (false, 20)) := by decide +kernel
theorem ly_7 : qLs[7]? = some (.inr (false, 5)) := by decide +kernel
theorem ly_8 : qLs[8]? = some (.inl (6, [none, some 9, some 10, none, some 11, some 12, some 13, some 14, some 15])) := by decide +kernel
theorem ly_9 : qLs[9]? = some (.inr (false, 10)) := by decide +kernel
theorem ly_10 : qLs[10]? = some (.inr (false, 10)) := by decide +kernel
theorem ly_11 : qLs[11]? = some (.inr (false, 8)) := by decide +kernel
theorem ly_12 : qLs[12]? = some (.inr (false, 8)) := by decide +kernel
theorem ly_13 : qLs[13]? = some (.inr (false, 8)) := by decide +kernel
theorem ly_14 : qLs[14]? = some (.inr (false, 8)) := by decide +kernel
theorem ly_15 : qLs[15]? = some (.inr (false, 8)) := by decide +kernel
theorem ly_16 : qLs[16]? = some (.inl (5, [none, some 17, some 18, some 19, some 20, some 21])) := by decide +kernel
theorem ly_17 : qLs[17]? = some (.inr (false, 80)) := by decide +kernel
theorem ly_18 : qLs[18]? = some (.inr (false, 80)) := by decide +kernel
theorem ly_19 : qLs[19]? = some (.inr (false, 80)) := by decide +kernel
theorem ly_20 : qLs[20]? = some (.inr (false, 80)) := by decide +kernel
theorem ly_21 : qLs[21]? = some (.inr (true, 80)) := by decide +kernel
theorem ly_22 : qLs[22]? = some (.inl (1, [none, some 23, some 24, some 25])) := by decide +kernel
theorem ly_23 : qLs[23]? = some (.inr (false, 3)) := by decide +kernel
theorem ly_24 : qLs[24]? = some (.inr (true, 3)) := by decide +kernel
theorem ly_25 : qLs[25]? = some (.inr (false, 60)) := by decide +kernel
theorem ly_26 : qLs[26]? = some (.inl (0, [some 27, some 33, some 41, some 47])) := by decide +kernel
theorem ly_27 : qLs[27]? = some (.inl (3, [none, some 28, some 29, none, some 30, some 31, some 32])) := by decide +kernel
theorem ly_28 : qLs[28]? = some (.inr (false, 10)) := by decide +kernel
theorem ly_29 : qLs[29]? = some (.inr (false, 10)) := by decide +kernel
theorem ly_30 : qLs[30]? = some (.inr (false, 20)) := by decide +kernel
theorem ly_31 : qLs[31]? = some (.inr (false, 20)) := by decide +kernel
theorem ly_32 : qLs[32]? = some (.inr (false, 5)) := by decide +kernel
theorem ly_33 : qLs[33]? = some (.inl (6, [none, some 34, some 35, none, some 36, some 37, some 38, some 39, some 40])) := by decide +kernel
theorem ly_34 : qLs[34]? = some (.inr (false, 10)) := by decide +kernel
theorem ly_35 : qLs[35]? = some (.inr (false, 10)) := by decide +kernel
theorem ly_36 : qLs[36]? = some (.inr (false, 8)) := by decide +kernel
theorem ly_37 : qLs[37]? = some (.inr (false, 8)) := by decide +kernel
theorem ly_38 : qLs[38]? = some (.inr (false, 8)) := by decide +kernel
theorem ly_39 : qLs[39]? = some (.inr (false, 8)) := by decide +kernel
theorem ly_40 : qLs[40]? = some (.inr (false, 8)) := by decide +kernel
theorem ly_41 : qLs[41]? = some (.inl (5, [none, some 42, some 43, some 44, some 45, some 46])) := by decide +kernel
theorem ly_42 : qLs[42]? = some (.inr (false, 80)) := by decide +kernel
theorem ly_43 : qLs[43]? = some (.inr (false, 80)) := by decide +kernel
theorem ly_44 : qLs[44]? = some (.inr (false, 80)) := by decide +kernel
theorem ly_45 : qLs[45]? = some (.inr (false, 80)) := by decide +kernel
theorem ly_46 : qLs[46]? = some (.inr (true, 80)) := by decide +kernel
theorem ly_47 : qLs[47]? = some (.inl (1, [none, some 48, some 49, some 50])) := by decide +kernel
theorem ly_48 : qLs[48]? = some (.inr (false, 3)) := by decide +kernel
theorem ly_49 : qLs[49]? = some (.inr (true, 3)) := by decide +kernel
theorem ly_50 : qLs[50]? = some (.inr (false, 60)) := by decide +kernel
theorem ly_51 : qLs[51]? = some (.inl (2, [some 52, some 53])) := by decide +kernel
theorem ly_52 : qLs[52]? = some (.inr (false, 100)) := by decide +kernel
theorem ly_53 : qLs[53]? = some (.inr (false, 8)) := by decide +kernel
theorem ly_54 : qLs[54]? = some (.inl (4, [some 55, some 56, some 57, some 58, some 59, some 60, some 61, some 62, none, none])) := by decide +kernel
theorem ly_55 : qLs[55]? = some (.inr (false, 4)) := by decide +kernel
theorem ly_56 : qLs[56]? = some (.inr (false, 5)) := by decide +kernel
theorem ly_57 : qLs[57]? = some (.inr (false, 60)) := by decide +kernel
theorem ly_58 : qLs[58]? = some (.inr (false, 15)) := by decide +kernel
theorem ly_59 : qLs[59]? = some (.inr (false, 5)) := by decide +kernel
theorem ly_60 : qLs[60]? = some (.inr (false, 5)) := by decide +kernel
theorem ly_61 : qLs[61]? = some (.inr (false, 4)) := by decide +kernel
theorem ly_62 : qLs[62]? = some (.inr (false, 4)) := by decide +kernel
theorem ly_63 : qLs[63]? = some (.inl (8, [some 64, some 65, some 66, some 67, some 68, some 69, some 70, some 71, some 72, some 73, some 74, some 75, some 76, none, none, some 77, some 78, some 79, some 80, some 81, some 82, some 83, none, none, none])) := by decide +kernel
theorem ly_64 : qLs[64]? = some (.inr (false, 6)) := by decide +kernel
theorem ly_65 : qLs[65]? = some (.inr (false, 10)) := by decide +kernel
theorem ly_66 : qLs[66]? = some (.inr (false, 10)) := by decide +kernel
theorem ly_67 : qLs[67]? = some (.inr (false, 20)) := by decide +kernel
theorem ly_68 : qLs[68]? = some (.inr (false, 20)) := by decide +kernel
theorem ly_69 : qLs[69]? = some (.inr (false, 5)) := by decide +kernel
theorem ly_70 : qLs[70]? = some (.inr (false, 10)) := by decide +kernel
theorem ly_71 : qLs[71]? = some (.inr (false, 10)) := by decide +kernel
theorem ly_72 : qLs[72]? = some (.inr (false, 40)) := by decide +kernel
theorem ly_73 : qLs[73]? = some (.inr (false, 400)) := by decide +kernel
theorem ly_74 : qLs[74]? = some (.inr (false, 3)) := by decide +kernel
theorem ly_75 : qLs[75]? = some (.inr (false, 3)) := by decide +kernel
theorem ly_76 : qLs[76]? = some (.inr (false, 60)) := by decide +kernel
theorem ly_77 : qLs[77]? = some (.inr (false, 620)) := by decide +kernel
theorem ly_78 : qLs[78]? = some (.inr (false, 10)) := by decide +kernel
theorem ly_79 : qLs[79]? = some (.inr (false, 8)) := by decide +kernel
theorem ly_80 : qLs[80]? = some (.inr (false, 4)) := by decide +kernel
theorem ly_81 : qLs[81]? = some (.inr (false, 4)) := by decide +kernel
theorem ly_82 : qLs[82]? = some (.inr (false, 4)) := by decide +kernel
theorem ly_83 : qLs[83]? = some (.inr (false, 5)) := by decide +kernel
