/-! the words that the walks use, a row each -/
set_option maxRecDepth 100000 in
theorem fl_X2_24 : px_fl RX2 24 2 0 := ⟨⟨by decide, by decide, rfl⟩, Or.inl (px_mem 42 (by decide +kernel) rfl)⟩
set_option maxRecDepth 100000 in
theorem fl_X11_77 : px_fl RX11 77 2 0 := ⟨⟨by decide, by decide, rfl⟩, Or.inr ⟨"LightSails", px_memN 43 (by decide +kernel) rfl⟩⟩
set_option maxRecDepth 100000 in
theorem fl_X2_28 : px_fl RX2 28 2 1 := ⟨⟨by decide, by decide, rfl⟩, Or.inl (px_mem 44 (by decide +kernel) rfl)⟩
set_option maxRecDepth 100000 in
theorem fl_X2_31 : px_fl RX2 31 2 2 := ⟨⟨by decide, by decide, rfl⟩, Or.inl (px_mem 45 (by decide +kernel) rfl)⟩
set_option maxRecDepth 100000 in
theorem fl_X11_98 : px_fl RX11 98 2 2 := ⟨⟨by decide, by decide, rfl⟩, Or.inr ⟨"LightSails", px_memN 46 (by decide +kernel) rfl⟩⟩
set_option maxRecDepth 100000 in
theorem fl_X2_34 : px_fl RX2 34 2 3 := ⟨⟨by decide, by decide, rfl⟩, Or.inl (px_mem 47 (by decide +kernel) rfl)⟩
set_option maxRecDepth 100000 in
theorem fl_X2_11 : px_fl RX2 11 2 4 := ⟨⟨by decide, by decide, rfl⟩, Or.inl (px_mem 48 (by decide +kernel) rfl)⟩
set_option maxRecDepth 100000 in
theorem fl_X11_81 : px_fl RX11 81 2 4 := ⟨⟨by decide, by decide, rfl⟩, Or.inr ⟨"LightSails", px_memN 49 (by decide +kernel) rfl⟩⟩
set_option maxRecDepth 100000 in
theorem fl_X2_15 : px_fl RX2 15 2 5 := ⟨⟨by decide, by decide, rfl⟩, Or.inl (px_mem 50 (by decide +kernel) rfl)⟩
set_option maxRecDepth 100000 in
theorem fl_X2_18 : px_fl RX2 18 2 6 := ⟨⟨by decide, by decide, rfl⟩, Or.inl (px_mem 51 (by decide +kernel) rfl)⟩
set_option maxRecDepth 100000 in
theorem fl_X2_21 : px_fl RX2 21 2 7 := ⟨⟨by decide, by decide, rfl⟩, Or.inl (px_mem 52 (by decide +kernel) rfl)⟩
set_option maxRecDepth 100000 in
theorem fl_X8_13 : px_fl RX8 13 8 0 := ⟨⟨by decide, by decide, rfl⟩, Or.inl (px_mem 79 (by decide +kernel) rfl)⟩
set_option maxRecDepth 100000 in
theorem fl_X3_87 : px_fl RX3 87 8 0 := ⟨⟨by decide, by decide, rfl⟩, Or.inr ⟨"LightSails", px_memN 80 (by decide +kernel) rfl⟩⟩
set_option maxRecDepth 100000 in
theorem fl_X11_135 : px_fl RX11 135 8 0 := ⟨⟨by decide, by decide, rfl⟩, Or.inr ⟨"LightSails", px_memN 81 (by decide +kernel) rfl⟩⟩
set_option maxRecDepth 100000 in
theorem fl_X9_143 : px_fl RX9 143 8 0 := ⟨⟨by decide, by decide, rfl⟩, Or.inr ⟨"LightSails", px_memN 82 (by decide +kernel) rfl⟩⟩
set_option maxRecDepth 100000 in
theorem fl_X8_36 : px_fl RX8 36 8 1 := ⟨⟨by decide, by decide, rfl⟩, Or.inl (px_mem 83 (by decide +kernel) rfl)⟩
set_option maxRecDepth 100000 in
theorem fl_X9_140 : px_fl RX9 140 8 1 := ⟨⟨by decide, by decide, rfl⟩, Or.inr ⟨"LightSails", px_memN 84 (by decide +kernel) rfl⟩⟩
set_option maxRecDepth 100000 in
theorem fl_X11_350 : px_fl RX11 350 8 1 := ⟨⟨by decide, by decide, rfl⟩, Or.inr ⟨"LightSails", px_memN 85 (by decide +kernel) rfl⟩⟩
set_option maxRecDepth 100000 in
theorem fl_X8_17 : px_fl RX8 17 8 2 := ⟨⟨by decide, by decide, rfl⟩, Or.inl (px_mem 86 (by decide +kernel) rfl)⟩
set_option maxRecDepth 100000 in
theorem fl_X11_154 : px_fl RX11 154 8 2 := ⟨⟨by decide, by decide, rfl⟩, Or.inr ⟨"LightSails", px_memN 87 (by decide +kernel) rfl⟩⟩
set_option maxRecDepth 100000 in
theorem fl_X8_47 : px_fl RX8 47 8 3 := ⟨⟨by decide, by decide, rfl⟩, Or.inl (px_mem 88 (by decide +kernel) rfl)⟩
set_option maxRecDepth 100000 in
theorem fl_X11_181 : px_fl RX11 181 8 3 := ⟨⟨by decide, by decide, rfl⟩, Or.inr ⟨"LightSails", px_memN 89 (by decide +kernel) rfl⟩⟩
set_option maxRecDepth 100000 in
theorem fl_X8_84 : px_fl RX8 84 8 4 := ⟨⟨by decide, by decide, rfl⟩, Or.inl (px_mem 90 (by decide +kernel) rfl)⟩
set_option maxRecDepth 100000 in
theorem fl_X11_163 : px_fl RX11 163 8 4 := ⟨⟨by decide, by decide, rfl⟩, Or.inr ⟨"LightSails", px_memN 91 (by decide +kernel) rfl⟩⟩
set_option maxRecDepth 100000 in
theorem fl_X8_90 : px_fl RX8 90 8 5 := ⟨⟨by decide, by decide, rfl⟩, Or.inl (px_mem 92 (by decide +kernel) rfl)⟩
set_option maxRecDepth 100000 in
theorem fl_X11_166 : px_fl RX11 166 8 5 := ⟨⟨by decide, by decide, rfl⟩, Or.inr ⟨"LightSails", px_memN 93 (by decide +kernel) rfl⟩⟩
set_option maxRecDepth 100000 in
theorem fl_X8_20 : px_fl RX8 20 8 6 := ⟨⟨by decide, by decide, rfl⟩, Or.inl (px_mem 94 (by decide +kernel) rfl)⟩
set_option maxRecDepth 100000 in
theorem fl_X11_187 : px_fl RX11 187 8 6 := ⟨⟨by decide, by decide, rfl⟩, Or.inr ⟨"LightSails", px_memN 95 (by decide +kernel) rfl⟩⟩
set_option maxRecDepth 100000 in
theorem fl_X8_24 : px_fl RX8 24 8 7 := ⟨⟨by decide, by decide, rfl⟩, Or.inl (px_mem 96 (by decide +kernel) rfl)⟩
set_option maxRecDepth 100000 in
theorem fl_X8_27 : px_fl RX8 27 8 8 := ⟨⟨by decide, by decide, rfl⟩, Or.inl (px_mem 97 (by decide +kernel) rfl)⟩
set_option maxRecDepth 100000 in
theorem fl_X8_30 : px_fl RX8 30 8 9 := ⟨⟨by decide, by decide, rfl⟩, Or.inl (px_mem 98 (by decide +kernel) rfl)⟩
set_option maxRecDepth 100000 in
theorem fl_X8_33 : px_fl RX8 33 8 10 := ⟨⟨by decide, by decide, rfl⟩, Or.inl (px_mem 99 (by decide +kernel) rfl)⟩
set_option maxRecDepth 100000 in
theorem fl_X8_113 : px_fl RX8 113 8 11 := ⟨⟨by decide, by decide, rfl⟩, Or.inl (px_mem 100 (by decide +kernel) rfl)⟩
set_option maxRecDepth 100000 in
theorem fl_X8_122 : px_fl RX8 122 8 12 := ⟨⟨by decide, by decide, rfl⟩, Or.inl (px_mem 101 (by decide +kernel) rfl)⟩
set_option maxRecDepth 100000 in
theorem fl_X9_52 : px_fl RX9 52 9 0 := ⟨⟨by decide, by decide, rfl⟩, Or.inl (px_mem 137 (by decide +kernel) rfl)⟩
set_option maxRecDepth 100000 in
theorem fl_X11_253 : px_fl RX11 253 9 0 := ⟨⟨by decide, by decide, rfl⟩, Or.inr ⟨"LightSails", px_memN 138 (by decide +kernel) rfl⟩⟩
set_option maxRecDepth 100000 in
theorem fl_X9_9 : px_fl RX9 9 9 1 := ⟨⟨by decide, by decide, rfl⟩, Or.inl (px_mem 139 (by decide +kernel) rfl)⟩
set_option maxRecDepth 100000 in
theorem fl_X11_344 : px_fl RX11 344 9 1 := ⟨⟨by decide, by decide, rfl⟩, Or.inr ⟨"LightSails", px_memN 140 (by decide +kernel) rfl⟩⟩
set_option maxRecDepth 100000 in
theorem fl_X9_55 : px_fl RX9 55 9 2 := ⟨⟨by decide, by decide, rfl⟩, Or.inl (px_mem 141 (by decide +kernel) rfl)⟩
set_option maxRecDepth 100000 in
theorem fl_X11_347 : px_fl RX11 347 9 2 := ⟨⟨by decide, by decide, rfl⟩, Or.inr ⟨"LightSails", px_memN 142 (by decide +kernel) rfl⟩⟩
set_option maxRecDepth 100000 in
theorem fl_X9_15 : px_fl RX9 15 9 3 := ⟨⟨by decide, by decide, rfl⟩, Or.inl (px_mem 143 (by decide +kernel) rfl)⟩
set_option maxRecDepth 100000 in
theorem fl_X11_217 : px_fl RX11 217 9 3 := ⟨⟨by decide, by decide, rfl⟩, Or.inr ⟨"LightSails", px_memN 144 (by decide +kernel) rfl⟩⟩
set_option maxRecDepth 100000 in
theorem fl_X9_20 : px_fl RX9 20 9 4 := ⟨⟨by decide, by decide, rfl⟩, Or.inl (px_mem 145 (by decide +kernel) rfl)⟩
set_option maxRecDepth 100000 in
theorem fl_X11_197 : px_fl RX11 197 9 4 := ⟨⟨by decide, by decide, rfl⟩, Or.inr ⟨"LightSails", px_memN 146 (by decide +kernel) rfl⟩⟩
set_option maxRecDepth 100000 in
theorem fl_X9_37 : px_fl RX9 37 9 5 := ⟨⟨by decide, by decide, rfl⟩, Or.inl (px_mem 147 (by decide +kernel) rfl)⟩
set_option maxRecDepth 100000 in
theorem fl_X11_353 : px_fl RX11 353 9 5 := ⟨⟨by decide, by decide, rfl⟩, Or.inr ⟨"LightSails", px_memN 148 (by decide +kernel) rfl⟩⟩
set_option maxRecDepth 100000 in
theorem fl_X9_24 : px_fl RX9 24 9 6 := ⟨⟨by decide, by decide, rfl⟩, Or.inl (px_mem 149 (by decide +kernel) rfl)⟩
set_option maxRecDepth 100000 in
theorem fl_X9_28 : px_fl RX9 28 9 7 := ⟨⟨by decide, by decide, rfl⟩, Or.inl (px_mem 150 (by decide +kernel) rfl)⟩
set_option maxRecDepth 100000 in
theorem fl_X9_92 : px_fl RX9 92 9 8 := ⟨⟨by decide, by decide, rfl⟩, Or.inl (px_mem 151 (by decide +kernel) rfl)⟩
set_option maxRecDepth 100000 in
theorem fl_X11_368 : px_fl RX11 368 9 8 := ⟨⟨by decide, by decide, rfl⟩, Or.inr ⟨"LightSails", px_memN 152 (by decide +kernel) rfl⟩⟩
set_option maxRecDepth 100000 in
theorem fl_X9_31 : px_fl RX9 31 9 9 := ⟨⟨by decide, by decide, rfl⟩, Or.inl (px_mem 153 (by decide +kernel) rfl)⟩
set_option maxRecDepth 100000 in
theorem fl_X9_34 : px_fl RX9 34 9 10 := ⟨⟨by decide, by decide, rfl⟩, Or.inl (px_mem 154 (by decide +kernel) rfl)⟩
set_option maxRecDepth 100000 in
theorem fl_X7_11 : px_fl RX7 11 7 0 := ⟨⟨by decide, by decide, rfl⟩, Or.inl (px_mem 190 (by decide +kernel) rfl)⟩
set_option maxRecDepth 100000 in
theorem fl_X7_17 : px_fl RX7 17 7 1 := ⟨⟨by decide, by decide, rfl⟩, Or.inl (px_mem 191 (by decide +kernel) rfl)⟩
set_option maxRecDepth 100000 in
theorem fl_X7_20 : px_fl RX7 20 7 2 := ⟨⟨by decide, by decide, rfl⟩, Or.inl (px_mem 192 (by decide +kernel) rfl)⟩
set_option maxRecDepth 100000 in
theorem fl_X7_23 : px_fl RX7 23 7 3 := ⟨⟨by decide, by decide, rfl⟩, Or.inl (px_mem 193 (by decide +kernel) rfl)⟩
set_option maxRecDepth 100000 in
theorem fl_X7_26 : px_fl RX7 26 7 4 := ⟨⟨by decide, by decide, rfl⟩, Or.inl (px_mem 194 (by decide +kernel) rfl)⟩
set_option maxRecDepth 100000 in
theorem fl_X7_30 : px_fl RX7 30 7 5 := ⟨⟨by decide, by decide, rfl⟩, Or.inl (px_mem 195 (by decide +kernel) rfl)⟩
set_option maxRecDepth 100000 in
theorem fl_X6_70 : px_fl RX6 70 7 5 := ⟨⟨by decide, by decide, rfl⟩, Or.inr ⟨"LightSails", px_memN 196 (by decide +kernel) rfl⟩⟩
set_option maxRecDepth 100000 in
theorem fl_X11_240 : px_fl RX11 240 7 5 := ⟨⟨by decide, by decide, rfl⟩, Or.inr ⟨"LightSails", px_memN 197 (by decide +kernel) rfl⟩⟩
set_option maxRecDepth 100000 in
theorem fl_X6_11 : px_fl RX6 11 6 0 := ⟨⟨by decide, by decide, rfl⟩, Or.inl (px_mem 211 (by decide +kernel) rfl)⟩
set_option maxRecDepth 100000 in
theorem fl_X6_26 : px_fl RX6 26 6 1 := ⟨⟨by decide, by decide, rfl⟩, Or.inl (px_mem 212 (by decide +kernel) rfl)⟩
set_option maxRecDepth 100000 in
theorem fl_X11_228 : px_fl RX11 228 6 1 := ⟨⟨by decide, by decide, rfl⟩, Or.inr ⟨"LightSails", px_memN 213 (by decide +kernel) rfl⟩⟩
set_option maxRecDepth 100000 in
theorem fl_X6_35 : px_fl RX6 35 6 2 := ⟨⟨by decide, by decide, rfl⟩, Or.inl (px_mem 214 (by decide +kernel) rfl)⟩
set_option maxRecDepth 100000 in
theorem fl_X6_63 : px_fl RX6 63 6 3 := ⟨⟨by decide, by decide, rfl⟩, Or.inl (px_mem 215 (by decide +kernel) rfl)⟩
set_option maxRecDepth 100000 in
theorem fl_X6_41 : px_fl RX6 41 6 4 := ⟨⟨by decide, by decide, rfl⟩, Or.inl (px_mem 216 (by decide +kernel) rfl)⟩
set_option maxRecDepth 100000 in
theorem fl_X6_57 : px_fl RX6 57 6 5 := ⟨⟨by decide, by decide, rfl⟩, Or.inl (px_mem 217 (by decide +kernel) rfl)⟩
set_option maxRecDepth 100000 in
theorem fl_X6_112 : px_fl RX6 112 6 6 := ⟨⟨by decide, by decide, rfl⟩, Or.inl (px_mem 218 (by decide +kernel) rfl)⟩
set_option maxRecDepth 100000 in
theorem fl_X6_44 : px_fl RX6 44 6 7 := ⟨⟨by decide, by decide, rfl⟩, Or.inl (px_mem 219 (by decide +kernel) rfl)⟩
set_option maxRecDepth 100000 in
theorem fl_X6_47 : px_fl RX6 47 6 8 := ⟨⟨by decide, by decide, rfl⟩, Or.inl (px_mem 220 (by decide +kernel) rfl)⟩
set_option maxRecDepth 100000 in
theorem fl_X11_234 : px_fl RX11 234 6 8 := ⟨⟨by decide, by decide, rfl⟩, Or.inr ⟨"LightSails", px_memN 221 (by decide +kernel) rfl⟩⟩
set_option maxRecDepth 100000 in
theorem fl_X6_15 : px_fl RX6 15 6 9 := ⟨⟨by decide, by decide, rfl⟩, Or.inl (px_mem 222 (by decide +kernel) rfl)⟩
set_option maxRecDepth 100000 in
theorem fl_X11_243 : px_fl RX11 243 6 9 := ⟨⟨by decide, by decide, rfl⟩, Or.inr ⟨"LightSails", px_memN 223 (by decide +kernel) rfl⟩⟩
set_option maxRecDepth 100000 in
theorem fl_X6_22 : px_fl RX6 22 6 10 := ⟨⟨by decide, by decide, rfl⟩, Or.inl (px_mem 224 (by decide +kernel) rfl)⟩
set_option maxRecDepth 100000 in
theorem fl_X11_237 : px_fl RX11 237 6 10 := ⟨⟨by decide, by decide, rfl⟩, Or.inr ⟨"LightSails", px_memN 225 (by decide +kernel) rfl⟩⟩
set_option maxRecDepth 100000 in
theorem fl_X3_13 : px_fl RX3 13 3 0 := ⟨⟨by decide, by decide, rfl⟩, Or.inl (px_mem 255 (by decide +kernel) rfl)⟩
set_option maxRecDepth 100000 in
theorem fl_X3_17 : px_fl RX3 17 3 1 := ⟨⟨by decide, by decide, rfl⟩, Or.inl (px_mem 256 (by decide +kernel) rfl)⟩
set_option maxRecDepth 100000 in
theorem fl_X3_51 : px_fl RX3 51 3 2 := ⟨⟨by decide, by decide, rfl⟩, Or.inl (px_mem 257 (by decide +kernel) rfl)⟩
set_option maxRecDepth 100000 in
theorem fl_X11_362 : px_fl RX11 362 3 2 := ⟨⟨by decide, by decide, rfl⟩, Or.inr ⟨"LightSails", px_memN 258 (by decide +kernel) rfl⟩⟩
set_option maxRecDepth 100000 in
theorem fl_X3_20 : px_fl RX3 20 3 3 := ⟨⟨by decide, by decide, rfl⟩, Or.inl (px_mem 259 (by decide +kernel) rfl)⟩
set_option maxRecDepth 100000 in
theorem fl_X3_23 : px_fl RX3 23 3 4 := ⟨⟨by decide, by decide, rfl⟩, Or.inl (px_mem 260 (by decide +kernel) rfl)⟩
set_option maxRecDepth 100000 in
theorem fl_X3_26 : px_fl RX3 26 3 5 := ⟨⟨by decide, by decide, rfl⟩, Or.inl (px_mem 261 (by decide +kernel) rfl)⟩
set_option maxRecDepth 100000 in
theorem fl_X3_55 : px_fl RX3 55 3 6 := ⟨⟨by decide, by decide, rfl⟩, Or.inl (px_mem 262 (by decide +kernel) rfl)⟩
set_option maxRecDepth 100000 in
theorem fl_X11_365 : px_fl RX11 365 3 6 := ⟨⟨by decide, by decide, rfl⟩, Or.inr ⟨"LightSails", px_memN 263 (by decide +kernel) rfl⟩⟩
set_option maxRecDepth 100000 in
theorem fl_X3_29 : px_fl RX3 29 3 7 := ⟨⟨by decide, by decide, rfl⟩, Or.inl (px_mem 264 (by decide +kernel) rfl)⟩
set_option maxRecDepth 100000 in
theorem fl_X3_32 : px_fl RX3 32 3 8 := ⟨⟨by decide, by decide, rfl⟩, Or.inl (px_mem 265 (by decide +kernel) rfl)⟩
set_option maxRecDepth 100000 in
theorem fl_X3_35 : px_fl RX3 35 3 9 := ⟨⟨by decide, by decide, rfl⟩, Or.inl (px_mem 266 (by decide +kernel) rfl)⟩
set_option maxRecDepth 100000 in
theorem fl_X3_38 : px_fl RX3 38 3 10 := ⟨⟨by decide, by decide, rfl⟩, Or.inl (px_mem 267 (by decide +kernel) rfl)⟩
set_option maxRecDepth 100000 in
theorem fl_X3_41 : px_fl RX3 41 3 11 := ⟨⟨by decide, by decide, rfl⟩, Or.inl (px_mem 268 (by decide +kernel) rfl)⟩
set_option maxRecDepth 100000 in
theorem fl_X3_44 : px_fl RX3 44 3 12 := ⟨⟨by decide, by decide, rfl⟩, Or.inl (px_mem 269 (by decide +kernel) rfl)⟩
set_option maxRecDepth 100000 in
theorem fl_X3_58 : px_fl RX3 58 3 13 := ⟨⟨by decide, by decide, rfl⟩, Or.inl (px_mem 270 (by decide +kernel) rfl)⟩
set_option maxRecDepth 100000 in
theorem fl_X3_47 : px_fl RX3 47 3 14 := ⟨⟨by decide, by decide, rfl⟩, Or.inl (px_mem 271 (by decide +kernel) rfl)⟩
set_option maxRecDepth 100000 in
theorem fl_X4_11 : px_fl RX4 11 4 0 := ⟨⟨by decide, by decide, rfl⟩, Or.inl (px_mem 312 (by decide +kernel) rfl)⟩
set_option maxRecDepth 100000 in
theorem fl_X4_15 : px_fl RX4 15 4 1 := ⟨⟨by decide, by decide, rfl⟩, Or.inl (px_mem 313 (by decide +kernel) rfl)⟩
set_option maxRecDepth 100000 in
theorem fl_X4_18 : px_fl RX4 18 4 2 := ⟨⟨by decide, by decide, rfl⟩, Or.inl (px_mem 314 (by decide +kernel) rfl)⟩
set_option maxRecDepth 100000 in
theorem fl_X4_21 : px_fl RX4 21 4 3 := ⟨⟨by decide, by decide, rfl⟩, Or.inl (px_mem 315 (by decide +kernel) rfl)⟩
set_option maxRecDepth 100000 in
theorem fl_X4_24 : px_fl RX4 24 4 4 := ⟨⟨by decide, by decide, rfl⟩, Or.inl (px_mem 316 (by decide +kernel) rfl)⟩
set_option maxRecDepth 100000 in
theorem fl_X4_39 : px_fl RX4 39 4 5 := ⟨⟨by decide, by decide, rfl⟩, Or.inl (px_mem 317 (by decide +kernel) rfl)⟩
set_option maxRecDepth 100000 in
theorem fl_X11_376 : px_fl RX11 376 4 5 := ⟨⟨by decide, by decide, rfl⟩, Or.inr ⟨"LightSails", px_memN 318 (by decide +kernel) rfl⟩⟩
set_option maxRecDepth 100000 in
theorem fl_X4_28 : px_fl RX4 28 4 6 := ⟨⟨by decide, by decide, rfl⟩, Or.inl (px_mem 319 (by decide +kernel) rfl)⟩
set_option maxRecDepth 100000 in
theorem fl_X4_31 : px_fl RX4 31 4 7 := ⟨⟨by decide, by decide, rfl⟩, Or.inl (px_mem 320 (by decide +kernel) rfl)⟩
set_option maxRecDepth 100000 in
theorem fl_X4_47 : px_fl RX4 47 4 8 := ⟨⟨by decide, by decide, rfl⟩, Or.inl (px_mem 321 (by decide +kernel) rfl)⟩
set_option maxRecDepth 100000 in
theorem fl_X11_379 : px_fl RX11 379 4 8 := ⟨⟨by decide, by decide, rfl⟩, Or.inr ⟨"LightSails", px_memN 322 (by decide +kernel) rfl⟩⟩
set_option maxRecDepth 100000 in
theorem fl_X4_50 : px_fl RX4 50 4 9 := ⟨⟨by decide, by decide, rfl⟩, Or.inl (px_mem 323 (by decide +kernel) rfl)⟩
set_option maxRecDepth 100000 in
theorem fl_X4_58 : px_fl RX4 58 4 10 := ⟨⟨by decide, by decide, rfl⟩, Or.inl (px_mem 324 (by decide +kernel) rfl)⟩
set_option maxRecDepth 100000 in
theorem fl_X11_303 : px_fl RX11 303 4 10 := ⟨⟨by decide, by decide, rfl⟩, Or.inr ⟨"LightSails", px_memN 325 (by decide +kernel) rfl⟩⟩
set_option maxRecDepth 100000 in
theorem fl_X4_61 : px_fl RX4 61 4 11 := ⟨⟨by decide, by decide, rfl⟩, Or.inl (px_mem 326 (by decide +kernel) rfl)⟩
set_option maxRecDepth 100000 in
theorem fl_X11_309 : px_fl RX11 309 4 11 := ⟨⟨by decide, by decide, rfl⟩, Or.inr ⟨"LightSails", px_memN 327 (by decide +kernel) rfl⟩⟩
set_option maxRecDepth 100000 in
theorem fl_X4_64 : px_fl RX4 64 4 12 := ⟨⟨by decide, by decide, rfl⟩, Or.inl (px_mem 328 (by decide +kernel) rfl)⟩
set_option maxRecDepth 100000 in
theorem fl_X11_312 : px_fl RX11 312 4 12 := ⟨⟨by decide, by decide, rfl⟩, Or.inr ⟨"LightSails", px_memN 329 (by decide +kernel) rfl⟩⟩
set_option maxRecDepth 100000 in
theorem fl_X4_128 : px_fl RX4 128 4 13 := ⟨⟨by decide, by decide, rfl⟩, Or.inl (px_mem 330 (by decide +kernel) rfl)⟩
set_option maxRecDepth 100000 in
theorem fl_X11_317 : px_fl RX11 317 4 13 := ⟨⟨by decide, by decide, rfl⟩, Or.inr ⟨"LightSails", px_memN 331 (by decide +kernel) rfl⟩⟩
set_option maxRecDepth 100000 in
theorem fl_X4_125 : px_fl RX4 125 4 14 := ⟨⟨by decide, by decide, rfl⟩, Or.inl (px_mem 332 (by decide +kernel) rfl)⟩
set_option maxRecDepth 100000 in
theorem fl_X11_321 : px_fl RX11 321 4 14 := ⟨⟨by decide, by decide, rfl⟩, Or.inr ⟨"LightSails", px_memN 333 (by decide +kernel) rfl⟩⟩
set_option maxRecDepth 100000 in
theorem fl_X4_36 : px_fl RX4 36 4 15 := ⟨⟨by decide, by decide, rfl⟩, Or.inl (px_mem 334 (by decide +kernel) rfl)⟩
set_option maxRecDepth 100000 in
theorem fl_X4_92 : px_fl RX4 92 4 16 := ⟨⟨by decide, by decide, rfl⟩, Or.inl (px_mem 335 (by decide +kernel) rfl)⟩
set_option maxRecDepth 100000 in
theorem fl_X4_101 : px_fl RX4 101 4 17 := ⟨⟨by decide, by decide, rfl⟩, Or.inl (px_mem 336 (by decide +kernel) rfl)⟩
set_option maxRecDepth 100000 in
theorem fl_X4_112 : px_fl RX4 112 4 18 := ⟨⟨by decide, by decide, rfl⟩, Or.inl (px_mem 337 (by decide +kernel) rfl)⟩
set_option maxRecDepth 100000 in
theorem fl_X0_9 : px_fl RX0 9 0 0 := ⟨⟨by decide, by decide, rfl⟩, Or.inl (px_mem 384 (by decide +kernel) rfl)⟩
set_option maxRecDepth 100000 in
theorem fl_X0_13 : px_fl RX0 13 0 1 := ⟨⟨by decide, by decide, rfl⟩, Or.inl (px_mem 385 (by decide +kernel) rfl)⟩
set_option maxRecDepth 100000 in
theorem fl_X0_16 : px_fl RX0 16 0 2 := ⟨⟨by decide, by decide, rfl⟩, Or.inl (px_mem 386 (by decide +kernel) rfl)⟩
set_option maxRecDepth 100000 in
theorem fl_X0_19 : px_fl RX0 19 0 3 := ⟨⟨by decide, by decide, rfl⟩, Or.inl (px_mem 387 (by decide +kernel) rfl)⟩
set_option maxRecDepth 100000 in
theorem fl_X0_28 : px_fl RX0 28 0 4 := ⟨⟨by decide, by decide, rfl⟩, Or.inl (px_mem 388 (by decide +kernel) rfl)⟩
set_option maxRecDepth 100000 in
theorem fl_X11_382 : px_fl RX11 382 0 4 := ⟨⟨by decide, by decide, rfl⟩, Or.inr ⟨"LightSails", px_memN 389 (by decide +kernel) rfl⟩⟩
set_option maxRecDepth 100000 in
theorem fl_X0_22 : px_fl RX0 22 0 5 := ⟨⟨by decide, by decide, rfl⟩, Or.inl (px_mem 390 (by decide +kernel) rfl)⟩
set_option maxRecDepth 100000 in
theorem fl_X11_335 : px_fl RX11 335 0 5 := ⟨⟨by decide, by decide, rfl⟩, Or.inr ⟨"LightSails", px_memN 391 (by decide +kernel) rfl⟩⟩
set_option maxRecDepth 100000 in
theorem fl_X0_25 : px_fl RX0 25 0 6 := ⟨⟨by decide, by decide, rfl⟩, Or.inl (px_mem 392 (by decide +kernel) rfl)⟩
set_option maxRecDepth 100000 in
theorem fl_X11_12 : px_fl RX11 12 11 0 := ⟨⟨by decide, by decide, rfl⟩, Or.inl (px_mem 410 (by decide +kernel) rfl)⟩
set_option maxRecDepth 100000 in
theorem fl_X11_19 : px_fl RX11 19 11 1 := ⟨⟨by decide, by decide, rfl⟩, Or.inl (px_mem 411 (by decide +kernel) rfl)⟩
set_option maxRecDepth 100000 in
theorem fl_X11_26 : px_fl RX11 26 11 2 := ⟨⟨by decide, by decide, rfl⟩, Or.inl (px_mem 412 (by decide +kernel) rfl)⟩
set_option maxRecDepth 100000 in
theorem fl_X11_33 : px_fl RX11 33 11 3 := ⟨⟨by decide, by decide, rfl⟩, Or.inl (px_mem 413 (by decide +kernel) rfl)⟩
set_option maxRecDepth 100000 in
theorem fl_X11_40 : px_fl RX11 40 11 4 := ⟨⟨by decide, by decide, rfl⟩, Or.inl (px_mem 414 (by decide +kernel) rfl)⟩
set_option maxRecDepth 100000 in
theorem fl_X11_47 : px_fl RX11 47 11 5 := ⟨⟨by decide, by decide, rfl⟩, Or.inl (px_mem 415 (by decide +kernel) rfl)⟩
set_option maxRecDepth 100000 in
theorem fl_X11_54 : px_fl RX11 54 11 6 := ⟨⟨by decide, by decide, rfl⟩, Or.inl (px_mem 416 (by decide +kernel) rfl)⟩
set_option maxRecDepth 100000 in
theorem fl_X11_61 : px_fl RX11 61 11 7 := ⟨⟨by decide, by decide, rfl⟩, Or.inl (px_mem 417 (by decide +kernel) rfl)⟩
set_option maxRecDepth 100000 in
theorem fl_X5_7 : px_fl RX5 7 5 0 := ⟨⟨by decide, by decide, rfl⟩, Or.inl (px_mem 875 (by decide +kernel) rfl)⟩
set_option maxRecDepth 100000 in
theorem fl_X8_81 : px_fl RX8 81 5 0 := ⟨⟨by decide, by decide, rfl⟩, Or.inr ⟨"LightSails", px_memN 876 (by decide +kernel) rfl⟩⟩
set_option maxRecDepth 100000 in
theorem fl_X5_13 : px_fl RX5 13 5 1 := ⟨⟨by decide, by decide, rfl⟩, Or.inl (px_mem 877 (by decide +kernel) rfl)⟩
set_option maxRecDepth 100000 in
theorem fl_X8_87 : px_fl RX8 87 5 1 := ⟨⟨by decide, by decide, rfl⟩, Or.inr ⟨"LightSails", px_memN 878 (by decide +kernel) rfl⟩⟩
set_option maxRecDepth 100000 in
theorem fl_X5_16 : px_fl RX5 16 5 2 := ⟨⟨by decide, by decide, rfl⟩, Or.inl (px_mem 879 (by decide +kernel) rfl)⟩
set_option maxRecDepth 100000 in
theorem fl_X5_19 : px_fl RX5 19 5 3 := ⟨⟨by decide, by decide, rfl⟩, Or.inl (px_mem 880 (by decide +kernel) rfl)⟩
set_option maxRecDepth 100000 in
theorem fl_X8_58 : px_fl RX8 58 5 3 := ⟨⟨by decide, by decide, rfl⟩, Or.inr ⟨"LightSails", px_memN 881 (by decide +kernel) rfl⟩⟩
set_option maxRecDepth 100000 in
theorem fl_X5_22 : px_fl RX5 22 5 4 := ⟨⟨by decide, by decide, rfl⟩, Or.inl (px_mem 882 (by decide +kernel) rfl)⟩
set_option maxRecDepth 100000 in
theorem fl_X8_61 : px_fl RX8 61 5 4 := ⟨⟨by decide, by decide, rfl⟩, Or.inr ⟨"LightSails", px_memN 883 (by decide +kernel) rfl⟩⟩
set_option maxRecDepth 100000 in
theorem fl_X5_25 : px_fl RX5 25 5 5 := ⟨⟨by decide, by decide, rfl⟩, Or.inl (px_mem 884 (by decide +kernel) rfl)⟩
set_option maxRecDepth 100000 in
theorem fl_X11_144 : px_fl RX11 144 5 5 := ⟨⟨by decide, by decide, rfl⟩, Or.inr ⟨"LightSails", px_memN 885 (by decide +kernel) rfl⟩⟩
set_option maxRecDepth 100000 in
theorem fl_X8_103 : px_fl RX8 103 5 5 := ⟨⟨by decide, by decide, rfl⟩, Or.inr ⟨"LightSails", px_memN 886 (by decide +kernel) rfl⟩⟩
set_option maxRecDepth 100000 in
theorem fl_X9_147 : px_fl RX9 147 5 5 := ⟨⟨by decide, by decide, rfl⟩, Or.inr ⟨"LightSails", px_memN 887 (by decide +kernel) rfl⟩⟩
set_option maxRecDepth 100000 in
theorem fl_X5_29 : px_fl RX5 29 5 6 := ⟨⟨by decide, by decide, rfl⟩, Or.inl (px_mem 888 (by decide +kernel) rfl)⟩
set_option maxRecDepth 100000 in
theorem fl_X5_32 : px_fl RX5 32 5 7 := ⟨⟨by decide, by decide, rfl⟩, Or.inl (px_mem 889 (by decide +kernel) rfl)⟩
set_option maxRecDepth 100000 in
theorem fl_X8_50 : px_fl RX8 50 5 8 := ⟨⟨by decide, by decide, rfl⟩, Or.inr ⟨"LightSails", px_memN 890 (by decide +kernel) rfl⟩⟩
set_option maxRecDepth 100000 in
theorem fl_X5_48 : px_fl RX5 48 5 9 := ⟨⟨by decide, by decide, rfl⟩, Or.inl (px_mem 891 (by decide +kernel) rfl)⟩
set_option maxRecDepth 100000 in
theorem fl_X8_93 : px_fl RX8 93 5 9 := ⟨⟨by decide, by decide, rfl⟩, Or.inr ⟨"LightSails", px_memN 892 (by decide +kernel) rfl⟩⟩
set_option maxRecDepth 100000 in
theorem fl_X11_157 : px_fl RX11 157 5 9 := ⟨⟨by decide, by decide, rfl⟩, Or.inr ⟨"LightSails", px_memN 893 (by decide +kernel) rfl⟩⟩
set_option maxRecDepth 100000 in
theorem fl_X11_160 : px_fl RX11 160 5 10 := ⟨⟨by decide, by decide, rfl⟩, Or.inr ⟨"LightSails", px_memN 894 (by decide +kernel) rfl⟩⟩
set_option maxRecDepth 100000 in
theorem fl_X8_135 : px_fl RX8 135 5 10 := ⟨⟨by decide, by decide, rfl⟩, Or.inr ⟨"LightSails", px_memN 895 (by decide +kernel) rfl⟩⟩
set_option maxRecDepth 100000 in
theorem fl_X10_7 : px_fl RX10 7 10 0 := ⟨⟨by decide, by decide, rfl⟩, Or.inl (px_mem 1086 (by decide +kernel) rfl)⟩
set_option maxRecDepth 100000 in
theorem fl_X9_51 : px_fl RX9 51 10 0 := ⟨⟨by decide, by decide, rfl⟩, Or.inr ⟨"LightSails", px_memN 1087 (by decide +kernel) rfl⟩⟩
set_option maxRecDepth 100000 in
theorem fl_X10_13 : px_fl RX10 13 10 1 := ⟨⟨by decide, by decide, rfl⟩, Or.inl (px_mem 1088 (by decide +kernel) rfl)⟩
set_option maxRecDepth 100000 in
theorem fl_X10_16 : px_fl RX10 16 10 2 := ⟨⟨by decide, by decide, rfl⟩, Or.inl (px_mem 1089 (by decide +kernel) rfl)⟩
set_option maxRecDepth 100000 in
theorem fl_X10_31 : px_fl RX10 31 10 3 := ⟨⟨by decide, by decide, rfl⟩, Or.inl (px_mem 1090 (by decide +kernel) rfl)⟩
set_option maxRecDepth 100000 in
theorem fl_X1_21 : px_fl RX1 21 1 0 := ⟨⟨by decide, by decide, rfl⟩, Or.inl (px_mem 1137 (by decide +kernel) rfl)⟩
set_option maxRecDepth 100000 in
theorem fl_X1_13 : px_fl RX1 13 1 1 := ⟨⟨by decide, by decide, rfl⟩, Or.inl (px_mem 1138 (by decide +kernel) rfl)⟩
set_option maxRecDepth 100000 in
theorem fl_X1_41 : px_fl RX1 41 1 2 := ⟨⟨by decide, by decide, rfl⟩, Or.inl (px_mem 1139 (by decide +kernel) rfl)⟩
set_option maxRecDepth 100000 in
theorem fl_X1_17 : px_fl RX1 17 1 3 := ⟨⟨by decide, by decide, rfl⟩, Or.inl (px_mem 1140 (by decide +kernel) rfl)⟩
set_option maxRecDepth 100000 in
theorem fl_X12_179 : px_fl RX12 179 12 0 := ⟨⟨by decide, by decide, rfl⟩, Or.inl (px_mem 1615 (by decide +kernel) rfl)⟩
set_option maxRecDepth 100000 in
theorem fl_X12_182 : px_fl RX12 182 12 1 := ⟨⟨by decide, by decide, rfl⟩, Or.inl (px_mem 1616 (by decide +kernel) rfl)⟩
set_option maxRecDepth 100000 in
theorem fl_X12_185 : px_fl RX12 185 12 2 := ⟨⟨by decide, by decide, rfl⟩, Or.inl (px_mem 1617 (by decide +kernel) rfl)⟩
set_option maxRecDepth 100000 in
theorem fl_X12_196 : px_fl RX12 196 12 3 := ⟨⟨by decide, by decide, rfl⟩, Or.inl (px_mem 1618 (by decide +kernel) rfl)⟩
set_option maxRecDepth 100000 in
theorem fl_X12_7 : px_fl RX12 7 12 4 := ⟨⟨by decide, by decide, rfl⟩, Or.inl (px_mem 1619 (by decide +kernel) rfl)⟩
set_option maxRecDepth 100000 in
theorem fl_X12_13 : px_fl RX12 13 12 5 := ⟨⟨by decide, by decide, rfl⟩, Or.inl (px_mem 1620 (by decide +kernel) rfl)⟩
set_option maxRecDepth 100000 in
theorem fl_X12_16 : px_fl RX12 16 12 6 := ⟨⟨by decide, by decide, rfl⟩, Or.inl (px_mem 1621 (by decide +kernel) rfl)⟩
set_option maxRecDepth 100000 in
theorem fl_X12_19 : px_fl RX12 19 12 7 := ⟨⟨by decide, by decide, rfl⟩, Or.inl (px_mem 1622 (by decide +kernel) rfl)⟩
set_option maxRecDepth 100000 in
theorem fl_X12_22 : px_fl RX12 22 12 8 := ⟨⟨by decide, by decide, rfl⟩, Or.inl (px_mem 1623 (by decide +kernel) rfl)⟩
set_option maxRecDepth 100000 in
theorem fl_X12_222 : px_fl RX12 222 12 9 := ⟨⟨by decide, by decide, rfl⟩, Or.inl (px_mem 1624 (by decide +kernel) rfl)⟩
set_option maxRecDepth 100000 in
theorem fl_X12_225 : px_fl RX12 225 12 10 := ⟨⟨by decide, by decide, rfl⟩, Or.inl (px_mem 1625 (by decide +kernel) rfl)⟩
set_option maxRecDepth 100000 in
theorem fl_X12_231 : px_fl RX12 231 12 11 := ⟨⟨by decide, by decide, rfl⟩, Or.inl (px_mem 1626 (by decide +kernel) rfl)⟩
set_option maxRecDepth 100000 in
theorem fl_X12_234 : px_fl RX12 234 12 12 := ⟨⟨by decide, by decide, rfl⟩, Or.inl (px_mem 1627 (by decide +kernel) rfl)⟩
set_option maxRecDepth 100000 in
theorem fl_X12_26 : px_fl RX12 26 12 13 := ⟨⟨by decide, by decide, rfl⟩, Or.inl (px_mem 1628 (by decide +kernel) rfl)⟩
set_option maxRecDepth 100000 in
theorem fl_X12_29 : px_fl RX12 29 12 14 := ⟨⟨by decide, by decide, rfl⟩, Or.inl (px_mem 1629 (by decide +kernel) rfl)⟩
set_option maxRecDepth 100000 in
theorem fl_X12_32 : px_fl RX12 32 12 15 := ⟨⟨by decide, by decide, rfl⟩, Or.inl (px_mem 1630 (by decide +kernel) rfl)⟩
set_option maxRecDepth 100000 in
theorem fl_X12_35 : px_fl RX12 35 12 16 := ⟨⟨by decide, by decide, rfl⟩, Or.inl (px_mem 1631 (by decide +kernel) rfl)⟩
set_option maxRecDepth 100000 in
theorem fl_X12_38 : px_fl RX12 38 12 17 := ⟨⟨by decide, by decide, rfl⟩, Or.inl (px_mem 1632 (by decide +kernel) rfl)⟩
set_option maxRecDepth 100000 in
theorem fl_X12_41 : px_fl RX12 41 12 18 := ⟨⟨by decide, by decide, rfl⟩, Or.inl (px_mem 1633 (by decide +kernel) rfl)⟩
set_option maxRecDepth 100000 in
theorem fl_X12_44 : px_fl RX12 44 12 19 := ⟨⟨by decide, by decide, rfl⟩, Or.inl (px_mem 1634 (by decide +kernel) rfl)⟩
set_option maxRecDepth 100000 in
theorem fl_X12_47 : px_fl RX12 47 12 20 := ⟨⟨by decide, by decide, rfl⟩, Or.inl (px_mem 1635 (by decide +kernel) rfl)⟩
set_option maxRecDepth 100000 in
theorem fl_X12_50 : px_fl RX12 50 12 21 := ⟨⟨by decide, by decide, rfl⟩, Or.inl (px_mem 1636 (by decide +kernel) rfl)⟩
set_option maxRecDepth 100000 in
theorem fl_X12_53 : px_fl RX12 53 12 22 := ⟨⟨by decide, by decide, rfl⟩, Or.inl (px_mem 1637 (by decide +kernel) rfl)⟩
set_option maxRecDepth 100000 in
theorem fl_X12_56 : px_fl RX12 56 12 23 := ⟨⟨by decide, by decide, rfl⟩, Or.inl (px_mem 1638 (by decide +kernel) rfl)⟩
set_option maxRecDepth 100000 in
theorem fl_X12_307 : px_fl RX12 307 12 24 := ⟨⟨by decide, by decide, rfl⟩, Or.inl (px_mem 1639 (by decide +kernel) rfl)⟩
set_option maxRecDepth 100000 in
theorem fl_X12_59 : px_fl RX12 59 12 25 := ⟨⟨by decide, by decide, rfl⟩, Or.inl (px_mem 1640 (by decide +kernel) rfl)⟩
set_option maxRecDepth 100000 in
theorem fl_X12_304 : px_fl RX12 304 12 26 := ⟨⟨by decide, by decide, rfl⟩, Or.inl (px_mem 1641 (by decide +kernel) rfl)⟩
set_option maxRecDepth 100000 in
theorem fl_X12_289 : px_fl RX12 289 12 27 := ⟨⟨by decide, by decide, rfl⟩, Or.inl (px_mem 1642 (by decide +kernel) rfl)⟩
set_option maxRecDepth 100000 in
theorem fl_X12_63 : px_fl RX12 63 12 28 := ⟨⟨by decide, by decide, rfl⟩, Or.inl (px_mem 1643 (by decide +kernel) rfl)⟩
set_option maxRecDepth 100000 in
theorem fl_X12_66 : px_fl RX12 66 12 29 := ⟨⟨by decide, by decide, rfl⟩, Or.inl (px_mem 1644 (by decide +kernel) rfl)⟩
set_option maxRecDepth 100000 in
theorem fl_X12_69 : px_fl RX12 69 12 30 := ⟨⟨by decide, by decide, rfl⟩, Or.inl (px_mem 1645 (by decide +kernel) rfl)⟩
set_option maxRecDepth 100000 in
theorem fl_X12_72 : px_fl RX12 72 12 31 := ⟨⟨by decide, by decide, rfl⟩, Or.inl (px_mem 1646 (by decide +kernel) rfl)⟩
set_option maxRecDepth 100000 in
theorem fl_X12_77 : px_fl RX12 77 12 32 := ⟨⟨by decide, by decide, rfl⟩, Or.inl (px_mem 1647 (by decide +kernel) rfl)⟩
set_option maxRecDepth 100000 in
theorem fl_X12_80 : px_fl RX12 80 12 33 := ⟨⟨by decide, by decide, rfl⟩, Or.inl (px_mem 1648 (by decide +kernel) rfl)⟩
set_option maxRecDepth 100000 in
theorem fl_X12_301 : px_fl RX12 301 12 34 := ⟨⟨by decide, by decide, rfl⟩, Or.inl (px_mem 1649 (by decide +kernel) rfl)⟩
set_option maxRecDepth 100000 in
theorem fl_X12_324 : px_fl RX12 324 12 35 := ⟨⟨by decide, by decide, rfl⟩, Or.inl (px_mem 1650 (by decide +kernel) rfl)⟩
set_option maxRecDepth 100000 in
theorem fl_X12_421 : px_fl RX12 421 12 36 := ⟨⟨by decide, by decide, rfl⟩, Or.inl (px_mem 1651 (by decide +kernel) rfl)⟩
set_option maxRecDepth 100000 in
theorem fl_X12_418 : px_fl RX12 418 12 37 := ⟨⟨by decide, by decide, rfl⟩, Or.inl (px_mem 1652 (by decide +kernel) rfl)⟩
set_option maxRecDepth 100000 in
theorem fl_X12_83 : px_fl RX12 83 12 38 := ⟨⟨by decide, by decide, rfl⟩, Or.inl (px_mem 1653 (by decide +kernel) rfl)⟩
set_option maxRecDepth 100000 in
theorem fl_X12_86 : px_fl RX12 86 12 39 := ⟨⟨by decide, by decide, rfl⟩, Or.inl (px_mem 1654 (by decide +kernel) rfl)⟩
set_option maxRecDepth 100000 in
theorem fl_X12_89 : px_fl RX12 89 12 40 := ⟨⟨by decide, by decide, rfl⟩, Or.inl (px_mem 1655 (by decide +kernel) rfl)⟩
set_option maxRecDepth 100000 in
theorem fl_X12_427 : px_fl RX12 427 12 41 := ⟨⟨by decide, by decide, rfl⟩, Or.inl (px_mem 1656 (by decide +kernel) rfl)⟩
set_option maxRecDepth 100000 in
theorem fl_X12_92 : px_fl RX12 92 12 42 := ⟨⟨by decide, by decide, rfl⟩, Or.inl (px_mem 1657 (by decide +kernel) rfl)⟩
set_option maxRecDepth 100000 in
theorem fl_X12_95 : px_fl RX12 95 12 43 := ⟨⟨by decide, by decide, rfl⟩, Or.inl (px_mem 1658 (by decide +kernel) rfl)⟩
set_option maxRecDepth 100000 in
theorem fl_X12_98 : px_fl RX12 98 12 44 := ⟨⟨by decide, by decide, rfl⟩, Or.inl (px_mem 1659 (by decide +kernel) rfl)⟩
set_option maxRecDepth 100000 in
theorem fl_X12_101 : px_fl RX12 101 12 45 := ⟨⟨by decide, by decide, rfl⟩, Or.inl (px_mem 1660 (by decide +kernel) rfl)⟩
set_option maxRecDepth 100000 in
theorem fl_X12_104 : px_fl RX12 104 12 46 := ⟨⟨by decide, by decide, rfl⟩, Or.inl (px_mem 1661 (by decide +kernel) rfl)⟩
set_option maxRecDepth 100000 in
theorem fl_X12_107 : px_fl RX12 107 12 47 := ⟨⟨by decide, by decide, rfl⟩, Or.inl (px_mem 1662 (by decide +kernel) rfl)⟩
set_option maxRecDepth 100000 in
theorem fl_X12_433 : px_fl RX12 433 12 48 := ⟨⟨by decide, by decide, rfl⟩, Or.inl (px_mem 1663 (by decide +kernel) rfl)⟩
set_option maxRecDepth 100000 in
theorem fl_X12_437 : px_fl RX12 437 12 49 := ⟨⟨by decide, by decide, rfl⟩, Or.inl (px_mem 1664 (by decide +kernel) rfl)⟩
set_option maxRecDepth 100000 in
theorem fl_X12_110 : px_fl RX12 110 12 50 := ⟨⟨by decide, by decide, rfl⟩, Or.inl (px_mem 1665 (by decide +kernel) rfl)⟩
set_option maxRecDepth 100000 in
theorem fl_X12_113 : px_fl RX12 113 12 51 := ⟨⟨by decide, by decide, rfl⟩, Or.inl (px_mem 1666 (by decide +kernel) rfl)⟩
set_option maxRecDepth 100000 in
theorem fl_X12_116 : px_fl RX12 116 12 52 := ⟨⟨by decide, by decide, rfl⟩, Or.inl (px_mem 1667 (by decide +kernel) rfl)⟩
set_option maxRecDepth 100000 in
theorem fl_X12_119 : px_fl RX12 119 12 53 := ⟨⟨by decide, by decide, rfl⟩, Or.inl (px_mem 1668 (by decide +kernel) rfl)⟩
set_option maxRecDepth 100000 in
theorem fl_X12_122 : px_fl RX12 122 12 54 := ⟨⟨by decide, by decide, rfl⟩, Or.inl (px_mem 1669 (by decide +kernel) rfl)⟩
set_option maxRecDepth 100000 in
theorem fl_X12_125 : px_fl RX12 125 12 55 := ⟨⟨by decide, by decide, rfl⟩, Or.inl (px_mem 1670 (by decide +kernel) rfl)⟩
set_option maxRecDepth 100000 in
theorem fl_X12_128 : px_fl RX12 128 12 56 := ⟨⟨by decide, by decide, rfl⟩, Or.inl (px_mem 1671 (by decide +kernel) rfl)⟩
set_option maxRecDepth 100000 in
theorem fl_X12_449 : px_fl RX12 449 12 57 := ⟨⟨by decide, by decide, rfl⟩, Or.inl (px_mem 1672 (by decide +kernel) rfl)⟩
set_option maxRecDepth 100000 in
theorem fl_X12_452 : px_fl RX12 452 12 58 := ⟨⟨by decide, by decide, rfl⟩, Or.inl (px_mem 1673 (by decide +kernel) rfl)⟩
set_option maxRecDepth 100000 in
theorem fl_X12_489 : px_fl RX12 489 12 59 := ⟨⟨by decide, by decide, rfl⟩, Or.inl (px_mem 1674 (by decide +kernel) rfl)⟩
set_option maxRecDepth 100000 in
theorem fl_X12_131 : px_fl RX12 131 12 60 := ⟨⟨by decide, by decide, rfl⟩, Or.inl (px_mem 1675 (by decide +kernel) rfl)⟩
set_option maxRecDepth 100000 in
theorem fl_X12_134 : px_fl RX12 134 12 61 := ⟨⟨by decide, by decide, rfl⟩, Or.inl (px_mem 1676 (by decide +kernel) rfl)⟩
set_option maxRecDepth 100000 in
theorem fl_X12_137 : px_fl RX12 137 12 62 := ⟨⟨by decide, by decide, rfl⟩, Or.inl (px_mem 1677 (by decide +kernel) rfl)⟩
set_option maxRecDepth 100000 in
theorem fl_X12_140 : px_fl RX12 140 12 63 := ⟨⟨by decide, by decide, rfl⟩, Or.inl (px_mem 1678 (by decide +kernel) rfl)⟩
set_option maxRecDepth 100000 in
theorem fl_X12_143 : px_fl RX12 143 12 64 := ⟨⟨by decide, by decide, rfl⟩, Or.inl (px_mem 1679 (by decide +kernel) rfl)⟩
set_option maxRecDepth 100000 in
theorem fl_X12_146 : px_fl RX12 146 12 65 := ⟨⟨by decide, by decide, rfl⟩, Or.inl (px_mem 1680 (by decide +kernel) rfl)⟩
set_option maxRecDepth 100000 in
theorem fl_X12_149 : px_fl RX12 149 12 66 := ⟨⟨by decide, by decide, rfl⟩, Or.inl (px_mem 1681 (by decide +kernel) rfl)⟩
set_option maxRecDepth 100000 in
theorem fl_X12_154 : px_fl RX12 154 12 67 := ⟨⟨by decide, by decide, rfl⟩, Or.inl (px_mem 1682 (by decide +kernel) rfl)⟩
set_option maxRecDepth 100000 in
theorem fl_X12_157 : px_fl RX12 157 12 68 := ⟨⟨by decide, by decide, rfl⟩, Or.inl (px_mem 1683 (by decide +kernel) rfl)⟩
set_option maxRecDepth 100000 in
theorem fl_X12_160 : px_fl RX12 160 12 69 := ⟨⟨by decide, by decide, rfl⟩, Or.inl (px_mem 1684 (by decide +kernel) rfl)⟩
set_option maxRecDepth 100000 in
theorem fl_X12_164 : px_fl RX12 164 12 70 := ⟨⟨by decide, by decide, rfl⟩, Or.inl (px_mem 1685 (by decide +kernel) rfl)⟩
set_option maxRecDepth 100000 in
theorem fl_X12_477 : px_fl RX12 477 12 71 := ⟨⟨by decide, by decide, rfl⟩, Or.inl (px_mem 1686 (by decide +kernel) rfl)⟩
set_option maxRecDepth 100000 in
theorem fl_X12_473 : px_fl RX12 473 12 72 := ⟨⟨by decide, by decide, rfl⟩, Or.inl (px_mem 1687 (by decide +kernel) rfl)⟩
set_option maxRecDepth 100000 in
theorem fl_X12_167 : px_fl RX12 167 12 73 := ⟨⟨by decide, by decide, rfl⟩, Or.inl (px_mem 1688 (by decide +kernel) rfl)⟩
set_option maxRecDepth 100000 in
theorem fl_X12_170 : px_fl RX12 170 12 74 := ⟨⟨by decide, by decide, rfl⟩, Or.inl (px_mem 1689 (by decide +kernel) rfl)⟩
set_option maxRecDepth 100000 in
theorem fl_X12_173 : px_fl RX12 173 12 75 := ⟨⟨by decide, by decide, rfl⟩, Or.inl (px_mem 1690 (by decide +kernel) rfl)⟩
set_option maxRecDepth 100000 in
theorem fl_X12_176 : px_fl RX12 176 12 76 := ⟨⟨by decide, by decide, rfl⟩, Or.inl (px_mem 1691 (by decide +kernel) rfl)⟩
set_option maxRecDepth 100000 in
theorem fl_X12_330 : px_fl RX12 330 12 77 := ⟨⟨by decide, by decide, rfl⟩, Or.inl (px_mem 1692 (by decide +kernel) rfl)⟩
set_option maxRecDepth 100000 in
theorem fl_X12_333 : px_fl RX12 333 12 78 := ⟨⟨by decide, by decide, rfl⟩, Or.inl (px_mem 1693 (by decide +kernel) rfl)⟩
set_option maxRecDepth 100000 in
theorem fl_X12_327 : px_fl RX12 327 12 79 := ⟨⟨by decide, by decide, rfl⟩, Or.inl (px_mem 1694 (by decide +kernel) rfl)⟩
set_option maxRecDepth 100000 in
theorem fl_X12_358 : px_fl RX12 358 12 80 := ⟨⟨by decide, by decide, rfl⟩, Or.inl (px_mem 1695 (by decide +kernel) rfl)⟩
set_option maxRecDepth 100000 in
theorem fl_X12_339 : px_fl RX12 339 12 81 := ⟨⟨by decide, by decide, rfl⟩, Or.inl (px_mem 1696 (by decide +kernel) rfl)⟩
set_option maxRecDepth 100000 in
theorem fl_X12_342 : px_fl RX12 342 12 82 := ⟨⟨by decide, by decide, rfl⟩, Or.inl (px_mem 1697 (by decide +kernel) rfl)⟩
set_option maxRecDepth 100000 in
theorem fl_X12_409 : px_fl RX12 409 12 83 := ⟨⟨by decide, by decide, rfl⟩, Or.inl (px_mem 1698 (by decide +kernel) rfl)⟩
set_option maxRecDepth 100000 in
theorem fl_X12_412 : px_fl RX12 412 12 84 := ⟨⟨by decide, by decide, rfl⟩, Or.inl (px_mem 1699 (by decide +kernel) rfl)⟩
set_option maxRecDepth 100000 in
theorem fl_X12_406 : px_fl RX12 406 12 85 := ⟨⟨by decide, by decide, rfl⟩, Or.inl (px_mem 1700 (by decide +kernel) rfl)⟩
set_option maxRecDepth 100000 in
theorem sf_X5_44 : Cond.fieldLink RX5 44 RX5 "COS" "[I" ∈ px_G := px_mem 485 (by decide +kernel) rfl
set_option maxRecDepth 100000 in
theorem sf_X5_64 : Cond.fieldLink RX5 64 RX5 "SIN" "[I" ∈ px_G := px_mem 490 (by decide +kernel) rfl
set_option maxRecDepth 100000 in
theorem my_X11_init : px_my yX11_init cX11_init 1 none 0 := ⟨⟨px_mem 32 (by decide +kernel) rfl, px_mem 1 (by decide +kernel) rfl⟩, ⟨by decide, by decide⟩, by decide +kernel, by decide⟩
set_option maxRecDepth 100000 in
theorem iv_X11_init : Cond.instanceMethod yX11_init ∈ px_G ∧ yX11_init.name = "<init>" := ⟨px_mem 31 (by decide +kernel) rfl, rfl⟩
set_option maxRecDepth 100000 in
theorem my_X2_init : px_my yX2_init cX2_init 1 none 0 := ⟨⟨px_mem 40 (by decide +kernel) rfl, px_mem 2 (by decide +kernel) rfl⟩, ⟨by decide, by decide⟩, by decide +kernel, by decide⟩
set_option maxRecDepth 100000 in
theorem iv_X2_init : Cond.instanceMethod yX2_init ∈ px_G ∧ yX2_init.name = "<init>" := ⟨px_mem 39 (by decide +kernel) rfl, rfl⟩
set_option maxRecDepth 100000 in
theorem my_X8_init : px_my yX8_init cX8_init 1 none 0 := ⟨⟨px_mem 75 (by decide +kernel) rfl, px_mem 3 (by decide +kernel) rfl⟩, ⟨by decide, by decide⟩, by decide +kernel, by decide⟩
set_option maxRecDepth 100000 in
theorem iv_X8_init : Cond.instanceMethod yX8_init ∈ px_G ∧ yX8_init.name = "<init>" := ⟨px_mem 74 (by decide +kernel) rfl, rfl⟩
set_option maxRecDepth 100000 in
theorem my_X9_init : px_my yX9_init cX9_init 1 none 0 := ⟨⟨px_mem 133 (by decide +kernel) rfl, px_mem 4 (by decide +kernel) rfl⟩, ⟨by decide, by decide⟩, by decide +kernel, by decide⟩
set_option maxRecDepth 100000 in
theorem iv_X9_init : Cond.instanceMethod yX9_init ∈ px_G ∧ yX9_init.name = "<init>" := ⟨px_mem 132 (by decide +kernel) rfl, rfl⟩
set_option maxRecDepth 100000 in
theorem my_X6_init : px_my yX6_init cX6_init 1 none 0 := ⟨⟨px_mem 182 (by decide +kernel) rfl, px_mem 5 (by decide +kernel) rfl⟩, ⟨by decide, by decide⟩, by decide +kernel, by decide⟩
set_option maxRecDepth 100000 in
theorem iv_X6_init : Cond.instanceMethod yX6_init ∈ px_G ∧ yX6_init.name = "<init>" := ⟨px_mem 181 (by decide +kernel) rfl, rfl⟩
set_option maxRecDepth 100000 in
theorem my_X7_init : px_my yX7_init cX7_init 1 none 0 := ⟨⟨px_mem 188 (by decide +kernel) rfl, px_mem 6 (by decide +kernel) rfl⟩, ⟨by decide, by decide⟩, by decide +kernel, by decide⟩
set_option maxRecDepth 100000 in
theorem iv_X7_init : Cond.instanceMethod yX7_init ∈ px_G ∧ yX7_init.name = "<init>" := ⟨px_mem 187 (by decide +kernel) rfl, rfl⟩
set_option maxRecDepth 100000 in
theorem my_X3_init : px_my yX3_init cX3_init 1 none 0 := ⟨⟨px_mem 253 (by decide +kernel) rfl, px_mem 7 (by decide +kernel) rfl⟩, ⟨by decide, by decide⟩, by decide +kernel, by decide⟩
set_option maxRecDepth 100000 in
theorem iv_X3_init : Cond.instanceMethod yX3_init ∈ px_G ∧ yX3_init.name = "<init>" := ⟨px_mem 252 (by decide +kernel) rfl, rfl⟩
set_option maxRecDepth 100000 in
theorem my_X4_init : px_my yX4_init cX4_init 1 none 0 := ⟨⟨px_mem 308 (by decide +kernel) rfl, px_mem 8 (by decide +kernel) rfl⟩, ⟨by decide, by decide⟩, by decide +kernel, by decide⟩
set_option maxRecDepth 100000 in
theorem iv_X4_init : Cond.instanceMethod yX4_init ∈ px_G ∧ yX4_init.name = "<init>" := ⟨px_mem 307 (by decide +kernel) rfl, rfl⟩
set_option maxRecDepth 100000 in
theorem my_X0_init : px_my yX0_init cX0_init 1 none 0 := ⟨⟨px_mem 382 (by decide +kernel) rfl, px_mem 9 (by decide +kernel) rfl⟩, ⟨by decide, by decide⟩, by decide +kernel, by decide⟩
set_option maxRecDepth 100000 in
theorem iv_X0_init : Cond.instanceMethod yX0_init ∈ px_G ∧ yX0_init.name = "<init>" := ⟨px_mem 381 (by decide +kernel) rfl, rfl⟩
set_option maxRecDepth 100000 in
theorem my_X11_layer : px_my yX11_layer cX11_layer 2 (some .int) 1 := ⟨⟨px_mem 438 (by decide +kernel) rfl, px_mem 1 (by decide +kernel) rfl⟩, ⟨by decide, by decide⟩, by decide +kernel, by decide⟩
set_option maxRecDepth 100000 in
theorem iv_X11_layer : Cond.instanceMethod yX11_layer ∈ px_G ∧ Cond.selects (px_RC 11) yX11_layer yX11_layer ∈ px_G := ⟨px_mem 436 (by decide +kernel) rfl, px_mem 437 (by decide +kernel) rfl⟩
set_option maxRecDepth 100000 in
theorem my_X11_within : px_my yX11_within cX11_within 3 (some .boolean) 3 := ⟨⟨px_mem 441 (by decide +kernel) rfl, px_mem 1 (by decide +kernel) rfl⟩, ⟨by decide, by decide⟩, by decide +kernel, by decide⟩
set_option maxRecDepth 100000 in
theorem sv_X11_within : Cond.static yX11_within ∈ px_G := px_mem 440 (by decide +kernel) rfl
set_option maxRecDepth 100000 in
theorem my_X11_feed : px_my yX11_feed cX11_feed 6 (some .int) 5 := ⟨⟨px_mem 445 (by decide +kernel) rfl, px_mem 1 (by decide +kernel) rfl⟩, ⟨by decide, by decide⟩, by decide +kernel, by decide⟩
set_option maxRecDepth 100000 in
theorem iv_X11_feed : Cond.instanceMethod yX11_feed ∈ px_G ∧ Cond.selects (px_RC 11) yX11_feed yX11_feed ∈ px_G := ⟨px_mem 443 (by decide +kernel) rfl, px_mem 444 (by decide +kernel) rfl⟩
set_option maxRecDepth 100000 in
theorem my_X6_hasRoom : px_my yX6_hasRoom cX6_hasRoom 1 (some .boolean) 0 := ⟨⟨px_mem 449 (by decide +kernel) rfl, px_mem 5 (by decide +kernel) rfl⟩, ⟨by decide, by decide⟩, by decide +kernel, by decide⟩
set_option maxRecDepth 100000 in
theorem iv_X6_hasRoom : Cond.instanceMethod yX6_hasRoom ∈ px_G ∧ Cond.selects (px_RC 6) yX6_hasRoom yX6_hasRoom ∈ px_G := ⟨px_mem 448 (by decide +kernel) rfl, px_mems 0 (by decide +kernel) rfl⟩
set_option maxRecDepth 100000 in
theorem my_X6_addNumber : px_my yX6_addNumber cX6_addNumber 3 none 1 := ⟨⟨px_mem 453 (by decide +kernel) rfl, px_mem 5 (by decide +kernel) rfl⟩, ⟨by decide, by decide⟩, by decide +kernel, by decide⟩
set_option maxRecDepth 100000 in
theorem iv_X6_addNumber : Cond.instanceMethod yX6_addNumber ∈ px_G ∧ Cond.selects (px_RC 6) yX6_addNumber yX6_addNumber ∈ px_G := ⟨px_mem 452 (by decide +kernel) rfl, px_mems 1 (by decide +kernel) rfl⟩
set_option maxRecDepth 100000 in
theorem my_X11_fault : px_my yX11_fault cX11_fault 1 (some .int) 0 := ⟨⟨px_mem 457 (by decide +kernel) rfl, px_mem 1 (by decide +kernel) rfl⟩, ⟨by decide, by decide⟩, by decide +kernel, by decide⟩
set_option maxRecDepth 100000 in
theorem iv_X11_fault : Cond.instanceMethod yX11_fault ∈ px_G ∧ Cond.selects (px_RC 11) yX11_fault yX11_fault ∈ px_G := ⟨px_mem 455 (by decide +kernel) rfl, px_mem 456 (by decide +kernel) rfl⟩
set_option maxRecDepth 100000 in
theorem my_X11_asks : px_my yX11_asks cX11_asks 2 (some .int) 0 := ⟨⟨px_mem 461 (by decide +kernel) rfl, px_mem 1 (by decide +kernel) rfl⟩, ⟨by decide, by decide⟩, by decide +kernel, by decide⟩
set_option maxRecDepth 100000 in
theorem iv_X11_asks : Cond.instanceMethod yX11_asks ∈ px_G ∧ Cond.selects (px_RC 11) yX11_asks yX11_asks ∈ px_G := ⟨px_mem 459 (by decide +kernel) rfl, px_mem 460 (by decide +kernel) rfl⟩
set_option maxRecDepth 100000 in
theorem my_X8_strength : px_my yX8_strength cX8_strength 1 (some .int) 0 := ⟨⟨px_mem 465 (by decide +kernel) rfl, px_mem 3 (by decide +kernel) rfl⟩, ⟨by decide, by decide⟩, by decide +kernel, by decide⟩
set_option maxRecDepth 100000 in
theorem iv_X8_strength : Cond.instanceMethod yX8_strength ∈ px_G ∧ Cond.selects (px_RC 8) yX8_strength yX8_strength ∈ px_G := ⟨px_mem 464 (by decide +kernel) rfl, px_mems 2 (by decide +kernel) rfl⟩
set_option maxRecDepth 100000 in
theorem my_X8_pushY : px_my yX8_pushY cX8_pushY 4 (some .int) 1 := ⟨⟨px_mem 469 (by decide +kernel) rfl, px_mem 3 (by decide +kernel) rfl⟩, ⟨by decide, by decide⟩, by decide +kernel, by decide⟩
set_option maxRecDepth 100000 in
theorem iv_X8_pushY : Cond.instanceMethod yX8_pushY ∈ px_G ∧ Cond.selects (px_RC 8) yX8_pushY yX8_pushY ∈ px_G := ⟨px_mem 468 (by decide +kernel) rfl, px_mems 3 (by decide +kernel) rfl⟩
set_option maxRecDepth 100000 in
theorem my_X5_pushY : px_my yX5_pushY cX5_pushY 7 (some .int) 1 := ⟨⟨px_mem 474 (by decide +kernel) rfl, px_mem 19 (by decide +kernel) rfl⟩, ⟨by decide, by decide⟩, by decide +kernel, by decide⟩
set_option maxRecDepth 100000 in
theorem iv_X5_pushY : Cond.instanceMethod yX5_pushY ∈ px_G ∧ Cond.selects (px_RC 5) yX5_pushY yX5_pushY ∈ px_G := ⟨px_mem 472 (by decide +kernel) rfl, px_mems 4 (by decide +kernel) rfl⟩
set_option maxRecDepth 100000 in
theorem my_X5_slantFor : px_my yX5_slantFor cX5_slantFor 3 (some .int) 2 := ⟨⟨px_mem 478 (by decide +kernel) rfl, px_mem 19 (by decide +kernel) rfl⟩, ⟨by decide, by decide⟩, by decide +kernel, by decide⟩
set_option maxRecDepth 100000 in
theorem iv_X5_slantFor : Cond.instanceMethod yX5_slantFor ∈ px_G ∧ Cond.selects (px_RC 5) yX5_slantFor yX5_slantFor ∈ px_G := ⟨px_mem 477 (by decide +kernel) rfl, px_mems 5 (by decide +kernel) rfl⟩
set_option maxRecDepth 100000 in
theorem my_J9_min_7cf53 : px_my yJ9_min_7cf53 cJ9_min_7cf53 2 (some .int) 2 := ⟨⟨px_mem 481 (by decide +kernel) rfl, px_mem 17 (by decide +kernel) rfl⟩, ⟨by decide, by decide⟩, by decide +kernel, by decide⟩
set_option maxRecDepth 100000 in
theorem sv_J9_min_7cf53 : Cond.static yJ9_min_7cf53 ∈ px_G := px_mem 480 (by decide +kernel) rfl
set_option maxRecDepth 100000 in
theorem my_J9_max_7cf53 : px_my yJ9_max_7cf53 cJ9_max_7cf53 2 (some .int) 2 := ⟨⟨px_mem 484 (by decide +kernel) rfl, px_mem 17 (by decide +kernel) rfl⟩, ⟨by decide, by decide⟩, by decide +kernel, by decide⟩
set_option maxRecDepth 100000 in
theorem sv_J9_max_7cf53 : Cond.static yJ9_max_7cf53 ∈ px_G := px_mem 483 (by decide +kernel) rfl
set_option maxRecDepth 100000 in
theorem my_J9_abs_0f7a4 : px_my yJ9_abs_0f7a4 cJ9_abs_0f7a4 1 (some .int) 1 := ⟨⟨px_mem 489 (by decide +kernel) rfl, px_mem 17 (by decide +kernel) rfl⟩, ⟨by decide, by decide⟩, by decide +kernel, by decide⟩
set_option maxRecDepth 100000 in
theorem sv_J9_abs_0f7a4 : Cond.static yJ9_abs_0f7a4 ∈ px_G := px_mem 488 (by decide +kernel) rfl
set_option maxRecDepth 100000 in
theorem my_X9_firstRule : px_my yX9_firstRule cX9_firstRule 5 (some .int) 3 := ⟨⟨px_mem 499 (by decide +kernel) rfl, px_mem 4 (by decide +kernel) rfl⟩, ⟨by decide, by decide⟩, by decide +kernel, by decide⟩
set_option maxRecDepth 100000 in
theorem iv_X9_firstRule : Cond.instanceMethod yX9_firstRule ∈ px_G ∧ Cond.selects (px_RC 9) yX9_firstRule yX9_firstRule ∈ px_G := ⟨px_mem 498 (by decide +kernel) rfl, px_mems 6 (by decide +kernel) rfl⟩
set_option maxRecDepth 100000 in
theorem my_X9_hasWorld : px_my yX9_hasWorld cX9_hasWorld 2 (some .boolean) 1 := ⟨⟨px_mem 503 (by decide +kernel) rfl, px_mem 4 (by decide +kernel) rfl⟩, ⟨by decide, by decide⟩, by decide +kernel, by decide⟩
set_option maxRecDepth 100000 in
theorem iv_X9_hasWorld : Cond.instanceMethod yX9_hasWorld ∈ px_G ∧ Cond.selects (px_RC 9) yX9_hasWorld yX9_hasWorld ∈ px_G := ⟨px_mem 502 (by decide +kernel) rfl, px_mems 7 (by decide +kernel) rfl⟩
set_option maxRecDepth 100000 in
theorem my_X10_angleOn : px_my yX10_angleOn cX10_angleOn 2 (some .int) 1 := ⟨⟨px_mem 509 (by decide +kernel) rfl, px_mem 22 (by decide +kernel) rfl⟩, ⟨by decide, by decide⟩, by decide +kernel, by decide⟩
set_option maxRecDepth 100000 in
theorem iv_X10_angleOn : Cond.instanceMethod yX10_angleOn ∈ px_G ∧ Cond.selects (px_RC 10) yX10_angleOn yX10_angleOn ∈ px_G := ⟨px_mem 507 (by decide +kernel) rfl, px_mems 8 (by decide +kernel) rfl⟩
set_option maxRecDepth 100000 in
theorem my_J9_floorMod_7cf53 : px_my yJ9_floorMod_7cf53 cJ9_floorMod_7cf53 3 (some .int) 2 := ⟨⟨px_mem 512 (by decide +kernel) rfl, px_mem 17 (by decide +kernel) rfl⟩, ⟨by decide, by decide⟩, by decide +kernel, by decide⟩
set_option maxRecDepth 100000 in
theorem sv_J9_floorMod_7cf53 : Cond.static yJ9_floorMod_7cf53 ∈ px_G := px_mem 511 (by decide +kernel) rfl
set_option maxRecDepth 100000 in
theorem my_X11_stepsAt : px_my yX11_stepsAt cX11_stepsAt 2 (some .int) 2 := ⟨⟨px_mem 515 (by decide +kernel) rfl, px_mem 1 (by decide +kernel) rfl⟩, ⟨by decide, by decide⟩, by decide +kernel, by decide⟩
set_option maxRecDepth 100000 in
theorem sv_X11_stepsAt : Cond.static yX11_stepsAt ∈ px_G := px_mem 514 (by decide +kernel) rfl
set_option maxRecDepth 100000 in
theorem my_X8_tornPanels : px_my yX8_tornPanels cX8_tornPanels 3 (some .int) 0 := ⟨⟨px_mem 519 (by decide +kernel) rfl, px_mem 3 (by decide +kernel) rfl⟩, ⟨by decide, by decide⟩, by decide +kernel, by decide⟩
set_option maxRecDepth 100000 in
theorem iv_X8_tornPanels : Cond.instanceMethod yX8_tornPanels ∈ px_G ∧ Cond.selects (px_RC 8) yX8_tornPanels yX8_tornPanels ∈ px_G := ⟨px_mem 518 (by decide +kernel) rfl, px_mems 9 (by decide +kernel) rfl⟩
set_option maxRecDepth 100000 in
theorem my_X7_firstHolding : px_my yX7_firstHolding cX7_firstHolding 3 (some .int) 1 := ⟨⟨px_mem 523 (by decide +kernel) rfl, px_mem 6 (by decide +kernel) rfl⟩, ⟨by decide, by decide⟩, by decide +kernel, by decide⟩
set_option maxRecDepth 100000 in
theorem iv_X7_firstHolding : Cond.instanceMethod yX7_firstHolding ∈ px_G ∧ Cond.selects (px_RC 7) yX7_firstHolding yX7_firstHolding ∈ px_G := ⟨px_mem 522 (by decide +kernel) rfl, px_mems 10 (by decide +kernel) rfl⟩
set_option maxRecDepth 100000 in
theorem my_X7_holds : px_my yX7_holds cX7_holds 9 (some .boolean) 3 := ⟨⟨px_mem 527 (by decide +kernel) rfl, px_mem 6 (by decide +kernel) rfl⟩, ⟨by decide, by decide⟩, by decide +kernel, by decide⟩
set_option maxRecDepth 100000 in
theorem iv_X7_holds : Cond.instanceMethod yX7_holds ∈ px_G ∧ Cond.selects (px_RC 7) yX7_holds yX7_holds ∈ px_G := ⟨px_mem 526 (by decide +kernel) rfl, px_mems 11 (by decide +kernel) rfl⟩
set_option maxRecDepth 100000 in
theorem my_X7_work : px_my yX7_work cX7_work 3 (some .int) 3 := ⟨⟨px_mem 531 (by decide +kernel) rfl, px_mem 6 (by decide +kernel) rfl⟩, ⟨by decide, by decide⟩, by decide +kernel, by decide⟩
set_option maxRecDepth 100000 in
theorem sv_X7_work : Cond.static yX7_work ∈ px_G := px_mem 530 (by decide +kernel) rfl
set_option maxRecDepth 100000 in
theorem my_X7_steerOf : px_my yX7_steerOf cX7_steerOf 2 (some .int) 1 := ⟨⟨px_mem 537 (by decide +kernel) rfl, px_mem 6 (by decide +kernel) rfl⟩, ⟨by decide, by decide⟩, by decide +kernel, by decide⟩
set_option maxRecDepth 100000 in
theorem iv_X7_steerOf : Cond.instanceMethod yX7_steerOf ∈ px_G ∧ Cond.selects (px_RC 7) yX7_steerOf yX7_steerOf ∈ px_G := ⟨px_mem 536 (by decide +kernel) rfl, px_mems 12 (by decide +kernel) rfl⟩
set_option maxRecDepth 100000 in
theorem my_X11_hangs : px_my yX11_hangs cX11_hangs 1 (some .boolean) 0 := ⟨⟨px_mem 541 (by decide +kernel) rfl, px_mem 1 (by decide +kernel) rfl⟩, ⟨by decide, by decide⟩, by decide +kernel, by decide⟩
set_option maxRecDepth 100000 in
theorem iv_X11_hangs : Cond.instanceMethod yX11_hangs ∈ px_G ∧ Cond.selects (px_RC 11) yX11_hangs yX11_hangs ∈ px_G := ⟨px_mem 539 (by decide +kernel) rfl, px_mem 540 (by decide +kernel) rfl⟩
set_option maxRecDepth 100000 in
theorem my_X4_settle : px_my yX4_settle cX4_settle 2 none 0 := ⟨⟨px_mem 545 (by decide +kernel) rfl, px_mem 8 (by decide +kernel) rfl⟩, ⟨by decide, by decide⟩, by decide +kernel, by decide⟩
set_option maxRecDepth 100000 in
theorem iv_X4_settle : Cond.instanceMethod yX4_settle ∈ px_G ∧ Cond.selects (px_RC 4) yX4_settle yX4_settle ∈ px_G := ⟨px_mem 544 (by decide +kernel) rfl, px_mems 13 (by decide +kernel) rfl⟩
set_option maxRecDepth 100000 in
theorem my_X4_balances : px_my yX4_balances cX4_balances 3 (some .boolean) 2 := ⟨⟨px_mem 549 (by decide +kernel) rfl, px_mem 8 (by decide +kernel) rfl⟩, ⟨by decide, by decide⟩, by decide +kernel, by decide⟩
set_option maxRecDepth 100000 in
theorem iv_X4_balances : Cond.instanceMethod yX4_balances ∈ px_G ∧ Cond.selects (px_RC 4) yX4_balances yX4_balances ∈ px_G := ⟨px_mem 548 (by decide +kernel) rfl, px_mems 14 (by decide +kernel) rfl⟩
set_option maxRecDepth 100000 in
theorem my_X4_fillTable : px_my yX4_fillTable cX4_fillTable 4 none 2 := ⟨⟨px_mem 553 (by decide +kernel) rfl, px_mem 8 (by decide +kernel) rfl⟩, ⟨by decide, by decide⟩, by decide +kernel, by decide⟩
set_option maxRecDepth 100000 in
theorem iv_X4_fillTable : Cond.instanceMethod yX4_fillTable ∈ px_G ∧ Cond.selects (px_RC 4) yX4_fillTable yX4_fillTable ∈ px_G := ⟨px_mem 552 (by decide +kernel) rfl, px_mems 15 (by decide +kernel) rfl⟩
set_option maxRecDepth 100000 in
theorem my_J6_bitCount_0f7a4 : px_my yJ6_bitCount_0f7a4 cJ6_bitCount_0f7a4 1 (some .int) 1 := ⟨⟨px_mem 556 (by decide +kernel) rfl, px_mem 18 (by decide +kernel) rfl⟩, ⟨by decide, by decide⟩, by decide +kernel, by decide⟩
set_option maxRecDepth 100000 in
theorem sv_J6_bitCount_0f7a4 : Cond.static yJ6_bitCount_0f7a4 ∈ px_G := px_mem 555 (by decide +kernel) rfl
set_option maxRecDepth 100000 in
theorem my_X4_fillRow : px_my yX4_fillRow cX4_fillRow 7 none 4 := ⟨⟨px_mem 563 (by decide +kernel) rfl, px_mem 8 (by decide +kernel) rfl⟩, ⟨by decide, by decide⟩, by decide +kernel, by decide⟩
set_option maxRecDepth 100000 in
theorem iv_X4_fillRow : Cond.instanceMethod yX4_fillRow ∈ px_G ∧ Cond.selects (px_RC 4) yX4_fillRow yX4_fillRow ∈ px_G := ⟨px_mem 562 (by decide +kernel) rfl, px_mems 16 (by decide +kernel) rfl⟩
set_option maxRecDepth 100000 in
theorem my_X4_wayOf : px_my yX4_wayOf cX4_wayOf 6 (some .int) 3 := ⟨⟨px_mem 567 (by decide +kernel) rfl, px_mem 8 (by decide +kernel) rfl⟩, ⟨by decide, by decide⟩, by decide +kernel, by decide⟩
set_option maxRecDepth 100000 in
theorem iv_X4_wayOf : Cond.instanceMethod yX4_wayOf ∈ px_G ∧ Cond.selects (px_RC 4) yX4_wayOf yX4_wayOf ∈ px_G := ⟨px_mem 566 (by decide +kernel) rfl, px_mems 17 (by decide +kernel) rfl⟩
set_option maxRecDepth 100000 in
theorem my_X4_eliminate : px_my yX4_eliminate cX4_eliminate 5 (some .boolean) 0 := ⟨⟨px_mem 571 (by decide +kernel) rfl, px_mem 8 (by decide +kernel) rfl⟩, ⟨by decide, by decide⟩, by decide +kernel, by decide⟩
set_option maxRecDepth 100000 in
theorem iv_X4_eliminate : Cond.instanceMethod yX4_eliminate ∈ px_G ∧ Cond.selects (px_RC 4) yX4_eliminate yX4_eliminate ∈ px_G := ⟨px_mem 570 (by decide +kernel) rfl, px_mems 18 (by decide +kernel) rfl⟩
set_option maxRecDepth 100000 in
theorem my_X4_clearEntry : px_my yX4_clearEntry cX4_clearEntry 8 none 2 := ⟨⟨px_mem 575 (by decide +kernel) rfl, px_mem 8 (by decide +kernel) rfl⟩, ⟨by decide, by decide⟩, by decide +kernel, by decide⟩
set_option maxRecDepth 100000 in
theorem iv_X4_clearEntry : Cond.instanceMethod yX4_clearEntry ∈ px_G ∧ Cond.selects (px_RC 4) yX4_clearEntry yX4_clearEntry ∈ px_G := ⟨px_mem 574 (by decide +kernel) rfl, px_mems 19 (by decide +kernel) rfl⟩
set_option maxRecDepth 100000 in
theorem my_X4_pullsOnly : px_my yX4_pullsOnly cX4_pullsOnly 5 (some .boolean) 0 := ⟨⟨px_mem 579 (by decide +kernel) rfl, px_mem 8 (by decide +kernel) rfl⟩, ⟨by decide, by decide⟩, by decide +kernel, by decide⟩
set_option maxRecDepth 100000 in
theorem iv_X4_pullsOnly : Cond.instanceMethod yX4_pullsOnly ∈ px_G ∧ Cond.selects (px_RC 4) yX4_pullsOnly yX4_pullsOnly ∈ px_G := ⟨px_mem 578 (by decide +kernel) rfl, px_mems 20 (by decide +kernel) rfl⟩
set_option maxRecDepth 100000 in
theorem my_X4_takeStand : px_my yX4_takeStand cX4_takeStand 9 none 1 := ⟨⟨px_mem 583 (by decide +kernel) rfl, px_mem 8 (by decide +kernel) rfl⟩, ⟨by decide, by decide⟩, by decide +kernel, by decide⟩
set_option maxRecDepth 100000 in
theorem iv_X4_takeStand : Cond.instanceMethod yX4_takeStand ∈ px_G ∧ Cond.selects (px_RC 4) yX4_takeStand yX4_takeStand ∈ px_G := ⟨px_mem 582 (by decide +kernel) rfl, px_mems 21 (by decide +kernel) rfl⟩
set_option maxRecDepth 100000 in
theorem my_J9_abs_067f4 : px_my yJ9_abs_067f4 cJ9_abs_067f4 2 (some .long) 1 := ⟨⟨px_mem 586 (by decide +kernel) rfl, px_mem 17 (by decide +kernel) rfl⟩, ⟨by decide, by decide⟩, by decide +kernel, by decide⟩
set_option maxRecDepth 100000 in
theorem sv_J9_abs_067f4 : Cond.static yJ9_abs_067f4 ∈ px_G := px_mem 585 (by decide +kernel) rfl
set_option maxRecDepth 100000 in
theorem my_X4_canGrow : px_my yX4_canGrow cX4_canGrow 3 (some .boolean) 1 := ⟨⟨px_mem 590 (by decide +kernel) rfl, px_mem 8 (by decide +kernel) rfl⟩, ⟨by decide, by decide⟩, by decide +kernel, by decide⟩
set_option maxRecDepth 100000 in
theorem iv_X4_canGrow : Cond.instanceMethod yX4_canGrow ∈ px_G ∧ Cond.selects (px_RC 4) yX4_canGrow yX4_canGrow ∈ px_G := ⟨px_mem 589 (by decide +kernel) rfl, px_mems 22 (by decide +kernel) rfl⟩
set_option maxRecDepth 100000 in
theorem my_X4_reduceEase : px_my yX4_reduceEase cX4_reduceEase 8 none 0 := ⟨⟨px_mem 594 (by decide +kernel) rfl, px_mem 8 (by decide +kernel) rfl⟩, ⟨by decide, by decide⟩, by decide +kernel, by decide⟩
set_option maxRecDepth 100000 in
theorem iv_X4_reduceEase : Cond.instanceMethod yX4_reduceEase ∈ px_G ∧ Cond.selects (px_RC 4) yX4_reduceEase yX4_reduceEase ∈ px_G := ⟨px_mem 593 (by decide +kernel) rfl, px_mems 23 (by decide +kernel) rfl⟩
set_option maxRecDepth 100000 in
theorem my_X11_cut : px_my yX11_cut cX11_cut 1 (some .int) 0 := ⟨⟨px_mem 598 (by decide +kernel) rfl, px_mem 1 (by decide +kernel) rfl⟩, ⟨by decide, by decide⟩, by decide +kernel, by decide⟩
set_option maxRecDepth 100000 in
theorem iv_X11_cut : Cond.instanceMethod yX11_cut ∈ px_G ∧ Cond.selects (px_RC 11) yX11_cut yX11_cut ∈ px_G := ⟨px_mem 596 (by decide +kernel) rfl, px_mem 597 (by decide +kernel) rfl⟩
set_option maxRecDepth 100000 in
theorem my_X4_cutAll : px_my yX4_cutAll cX4_cutAll 2 (some .int) 0 := ⟨⟨px_mem 602 (by decide +kernel) rfl, px_mem 8 (by decide +kernel) rfl⟩, ⟨by decide, by decide⟩, by decide +kernel, by decide⟩
set_option maxRecDepth 100000 in
theorem iv_X4_cutAll : Cond.instanceMethod yX4_cutAll ∈ px_G ∧ Cond.selects (px_RC 4) yX4_cutAll yX4_cutAll ∈ px_G := ⟨px_mem 601 (by decide +kernel) rfl, px_mems 24 (by decide +kernel) rfl⟩
set_option maxRecDepth 100000 in
theorem my_X11_count : px_my yX11_count cX11_count 2 (some .int) 1 := ⟨⟨px_mem 606 (by decide +kernel) rfl, px_mem 1 (by decide +kernel) rfl⟩, ⟨by decide, by decide⟩, by decide +kernel, by decide⟩
set_option maxRecDepth 100000 in
theorem iv_X11_count : Cond.instanceMethod yX11_count ∈ px_G ∧ Cond.selects (px_RC 11) yX11_count yX11_count ∈ px_G := ⟨px_mem 604 (by decide +kernel) rfl, px_mem 605 (by decide +kernel) rfl⟩
set_option maxRecDepth 100000 in
theorem my_X9_isGoalMet : px_my yX9_isGoalMet cX9_isGoalMet 2 (some .boolean) 0 := ⟨⟨px_mem 611 (by decide +kernel) rfl, px_mem 4 (by decide +kernel) rfl⟩, ⟨by decide, by decide⟩, by decide +kernel, by decide⟩
set_option maxRecDepth 100000 in
theorem iv_X9_isGoalMet : Cond.instanceMethod yX9_isGoalMet ∈ px_G ∧ Cond.selects (px_RC 9) yX9_isGoalMet yX9_isGoalMet ∈ px_G := ⟨px_mem 610 (by decide +kernel) rfl, px_mems 25 (by decide +kernel) rfl⟩
set_option maxRecDepth 100000 in
theorem my_X10_aheadOn : px_my yX10_aheadOn cX10_aheadOn 3 (some .int) 2 := ⟨⟨px_mem 615 (by decide +kernel) rfl, px_mem 22 (by decide +kernel) rfl⟩, ⟨by decide, by decide⟩, by decide +kernel, by decide⟩
set_option maxRecDepth 100000 in
theorem iv_X10_aheadOn : Cond.instanceMethod yX10_aheadOn ∈ px_G ∧ Cond.selects (px_RC 10) yX10_aheadOn yX10_aheadOn ∈ px_G := ⟨px_mem 614 (by decide +kernel) rfl, px_mems 26 (by decide +kernel) rfl⟩
set_option maxRecDepth 100000 in
theorem my_X1_isMet : px_my yX1_isMet cX1_isMet 3 (some .boolean) 2 := ⟨⟨px_mem 620 (by decide +kernel) rfl, px_mem 23 (by decide +kernel) rfl⟩, ⟨by decide, by decide⟩, by decide +kernel, by decide⟩
set_option maxRecDepth 100000 in
theorem sv_X1_isMet : Cond.static yX1_isMet ∈ px_G := px_mem 619 (by decide +kernel) rfl
set_option maxRecDepth 100000 in
theorem my_X11_strip : px_my yX11_strip cX11_strip 3 (some .int) 2 := ⟨⟨px_mem 630 (by decide +kernel) rfl, px_mem 1 (by decide +kernel) rfl⟩, ⟨by decide, by decide⟩, by decide +kernel, by decide⟩
set_option maxRecDepth 100000 in
theorem iv_X11_strip : Cond.instanceMethod yX11_strip ∈ px_G ∧ Cond.selects (px_RC 11) yX11_strip yX11_strip ∈ px_G := ⟨px_mem 628 (by decide +kernel) rfl, px_mem 629 (by decide +kernel) rfl⟩
set_option maxRecDepth 100000 in
theorem my_X11_needArgument : px_my yX11_needArgument cX11_needArgument 1 none 1 := ⟨⟨px_mem 633 (by decide +kernel) rfl, px_mem 1 (by decide +kernel) rfl⟩, ⟨by decide, by decide⟩, by decide +kernel, by decide⟩
set_option maxRecDepth 100000 in
theorem sv_X11_needArgument : Cond.static yX11_needArgument ∈ px_G := px_mem 632 (by decide +kernel) rfl
set_option maxRecDepth 100000 in
theorem my_X2_tell : px_my yX2_tell cX2_tell 3 (some .int) 2 := ⟨⟨px_mem 706 (by decide +kernel) rfl, px_mem 2 (by decide +kernel) rfl⟩, ⟨by decide, by decide⟩, by decide +kernel, by decide⟩
set_option maxRecDepth 100000 in
theorem iv_X2_tell : Cond.instanceMethod yX2_tell ∈ px_G ∧ Cond.selects (px_RC 2) yX2_tell yX2_tell ∈ px_G := ⟨px_mem 705 (by decide +kernel) rfl, px_mems 28 (by decide +kernel) rfl⟩
set_option maxRecDepth 100000 in
theorem my_X2_pileFrom : px_my yX2_pileFrom cX2_pileFrom 8 none 4 := ⟨⟨px_mem 710 (by decide +kernel) rfl, px_mem 2 (by decide +kernel) rfl⟩, ⟨by decide, by decide⟩, by decide +kernel, by decide⟩
set_option maxRecDepth 100000 in
theorem iv_X2_pileFrom : Cond.instanceMethod yX2_pileFrom ∈ px_G ∧ Cond.selects (px_RC 2) yX2_pileFrom yX2_pileFrom ∈ px_G := ⟨px_mem 709 (by decide +kernel) rfl, px_mems 29 (by decide +kernel) rfl⟩
set_option maxRecDepth 100000 in
theorem my_X2_takeTrial : px_my yX2_takeTrial cX2_takeTrial 2 none 0 := ⟨⟨px_mem 714 (by decide +kernel) rfl, px_mem 2 (by decide +kernel) rfl⟩, ⟨by decide, by decide⟩, by decide +kernel, by decide⟩
set_option maxRecDepth 100000 in
theorem iv_X2_takeTrial : Cond.instanceMethod yX2_takeTrial ∈ px_G ∧ Cond.selects (px_RC 2) yX2_takeTrial yX2_takeTrial ∈ px_G := ⟨px_mem 713 (by decide +kernel) rfl, px_mems 30 (by decide +kernel) rfl⟩
set_option maxRecDepth 100000 in
theorem my_X2_mayCome : px_my yX2_mayCome cX2_mayCome 7 (some .boolean) 2 := ⟨⟨px_mem 718 (by decide +kernel) rfl, px_mem 2 (by decide +kernel) rfl⟩, ⟨by decide, by decide⟩, by decide +kernel, by decide⟩
set_option maxRecDepth 100000 in
theorem iv_X2_mayCome : Cond.instanceMethod yX2_mayCome ∈ px_G ∧ Cond.selects (px_RC 2) yX2_mayCome yX2_mayCome ∈ px_G := ⟨px_mem 717 (by decide +kernel) rfl, px_mems 31 (by decide +kernel) rfl⟩
set_option maxRecDepth 100000 in
theorem my_X2_rises : px_my yX2_rises cX2_rises 3 (some .boolean) 1 := ⟨⟨px_mem 722 (by decide +kernel) rfl, px_mem 2 (by decide +kernel) rfl⟩, ⟨by decide, by decide⟩, by decide +kernel, by decide⟩
set_option maxRecDepth 100000 in
theorem iv_X2_rises : Cond.instanceMethod yX2_rises ∈ px_G ∧ Cond.selects (px_RC 2) yX2_rises yX2_rises ∈ px_G := ⟨px_mem 721 (by decide +kernel) rfl, px_mems 32 (by decide +kernel) rfl⟩
set_option maxRecDepth 100000 in
theorem my_X2_evenCrease : px_my yX2_evenCrease cX2_evenCrease 1 (some .int) 1 := ⟨⟨px_mem 725 (by decide +kernel) rfl, px_mem 2 (by decide +kernel) rfl⟩, ⟨by decide, by decide⟩, by decide +kernel, by decide⟩
set_option maxRecDepth 100000 in
theorem sv_X2_evenCrease : Cond.static yX2_evenCrease ∈ px_G := px_mem 724 (by decide +kernel) rfl
set_option maxRecDepth 100000 in
theorem my_X2_sideWith : px_my yX2_sideWith cX2_sideWith 6 (some .int) 4 := ⟨⟨px_mem 729 (by decide +kernel) rfl, px_mem 2 (by decide +kernel) rfl⟩, ⟨by decide, by decide⟩, by decide +kernel, by decide⟩
set_option maxRecDepth 100000 in
theorem iv_X2_sideWith : Cond.instanceMethod yX2_sideWith ∈ px_G ∧ Cond.selects (px_RC 2) yX2_sideWith yX2_sideWith ∈ px_G := ⟨px_mem 728 (by decide +kernel) rfl, px_mems 33 (by decide +kernel) rfl⟩
set_option maxRecDepth 100000 in
theorem my_X2_oddCrease : px_my yX2_oddCrease cX2_oddCrease 1 (some .int) 1 := ⟨⟨px_mem 732 (by decide +kernel) rfl, px_mem 2 (by decide +kernel) rfl⟩, ⟨by decide, by decide⟩, by decide +kernel, by decide⟩
set_option maxRecDepth 100000 in
theorem sv_X2_oddCrease : Cond.static yX2_oddCrease ∈ px_G := px_mem 731 (by decide +kernel) rfl
set_option maxRecDepth 100000 in
theorem my_X11_lies : px_my yX11_lies cX11_lies 2 (some .boolean) 1 := ⟨⟨px_mem 740 (by decide +kernel) rfl, px_mem 1 (by decide +kernel) rfl⟩, ⟨by decide, by decide⟩, by decide +kernel, by decide⟩
set_option maxRecDepth 100000 in
theorem iv_X11_lies : Cond.instanceMethod yX11_lies ∈ px_G ∧ Cond.selects (px_RC 11) yX11_lies yX11_lies ∈ px_G := ⟨px_mem 738 (by decide +kernel) rfl, px_mem 739 (by decide +kernel) rfl⟩
set_option maxRecDepth 100000 in
theorem my_X11_needState : px_my yX11_needState cX11_needState 1 none 1 := ⟨⟨px_mem 743 (by decide +kernel) rfl, px_mem 1 (by decide +kernel) rfl⟩, ⟨by decide, by decide⟩, by decide +kernel, by decide⟩
set_option maxRecDepth 100000 in
theorem sv_X11_needState : Cond.static yX11_needState ∈ px_G := px_mem 742 (by decide +kernel) rfl
set_option maxRecDepth 100000 in
theorem my_X2_isRowOfParts : px_my yX2_isRowOfParts cX2_isRowOfParts 4 (some .boolean) 1 := ⟨⟨px_mem 763 (by decide +kernel) rfl, px_mem 2 (by decide +kernel) rfl⟩, ⟨by decide, by decide⟩, by decide +kernel, by decide⟩
set_option maxRecDepth 100000 in
theorem iv_X2_isRowOfParts : Cond.instanceMethod yX2_isRowOfParts ∈ px_G ∧ Cond.selects (px_RC 2) yX2_isRowOfParts yX2_isRowOfParts ∈ px_G := ⟨px_mem 762 (by decide +kernel) rfl, px_mems 34 (by decide +kernel) rfl⟩
set_option maxRecDepth 100000 in
theorem my_X2_liesSo : px_my yX2_liesSo cX2_liesSo 7 (some .boolean) 1 := ⟨⟨px_mem 767 (by decide +kernel) rfl, px_mem 2 (by decide +kernel) rfl⟩, ⟨by decide, by decide⟩, by decide +kernel, by decide⟩
set_option maxRecDepth 100000 in
theorem iv_X2_liesSo : Cond.instanceMethod yX2_liesSo ∈ px_G ∧ Cond.selects (px_RC 2) yX2_liesSo yX2_liesSo ∈ px_G := ⟨px_mem 766 (by decide +kernel) rfl, px_mems 35 (by decide +kernel) rfl⟩
set_option maxRecDepth 100000 in
theorem my_X11_clear : px_my yX11_clear cX11_clear 2 (some .boolean) 1 := ⟨⟨px_mem 775 (by decide +kernel) rfl, px_mem 1 (by decide +kernel) rfl⟩, ⟨by decide, by decide⟩, by decide +kernel, by decide⟩
set_option maxRecDepth 100000 in
theorem iv_X11_clear : Cond.instanceMethod yX11_clear ∈ px_G ∧ Cond.selects (px_RC 11) yX11_clear yX11_clear ∈ px_G := ⟨px_mem 773 (by decide +kernel) rfl, px_mem 774 (by decide +kernel) rfl⟩
set_option maxRecDepth 100000 in
theorem my_X11_needIndex : px_my yX11_needIndex cX11_needIndex 1 none 1 := ⟨⟨px_mem 778 (by decide +kernel) rfl, px_mem 1 (by decide +kernel) rfl⟩, ⟨by decide, by decide⟩, by decide +kernel, by decide⟩
set_option maxRecDepth 100000 in
theorem sv_X11_needIndex : Cond.static yX11_needIndex ∈ px_G := px_mem 777 (by decide +kernel) rfl
set_option maxRecDepth 100000 in
theorem my_X2_isOpen : px_my yX2_isOpen cX2_isOpen 3 (some .boolean) 2 := ⟨⟨px_mem 798 (by decide +kernel) rfl, px_mem 2 (by decide +kernel) rfl⟩, ⟨by decide, by decide⟩, by decide +kernel, by decide⟩
set_option maxRecDepth 100000 in
theorem iv_X2_isOpen : Cond.instanceMethod yX2_isOpen ∈ px_G ∧ Cond.selects (px_RC 2) yX2_isOpen yX2_isOpen ∈ px_G := ⟨px_mem 797 (by decide +kernel) rfl, px_mems 36 (by decide +kernel) rfl⟩
set_option maxRecDepth 100000 in
theorem my_X2_isClear : px_my yX2_isClear cX2_isClear 5 (some .boolean) 2 := ⟨⟨px_mem 802 (by decide +kernel) rfl, px_mem 2 (by decide +kernel) rfl⟩, ⟨by decide, by decide⟩, by decide +kernel, by decide⟩
set_option maxRecDepth 100000 in
theorem iv_X2_isClear : Cond.instanceMethod yX2_isClear ∈ px_G ∧ Cond.selects (px_RC 2) yX2_isClear yX2_isClear ∈ px_G := ⟨px_mem 801 (by decide +kernel) rfl, px_mems 37 (by decide +kernel) rfl⟩
set_option maxRecDepth 100000 in
theorem my_X2_isAbove : px_my yX2_isAbove cX2_isAbove 8 (some .boolean) 4 := ⟨⟨px_mem 807 (by decide +kernel) rfl, px_mem 2 (by decide +kernel) rfl⟩, ⟨by decide, by decide⟩, by decide +kernel, by decide⟩
set_option maxRecDepth 100000 in
theorem iv_X2_isAbove : Cond.instanceMethod yX2_isAbove ∈ px_G ∧ Cond.selects (px_RC 2) yX2_isAbove yX2_isAbove ∈ px_G := ⟨px_mem 806 (by decide +kernel) rfl, px_mems 38 (by decide +kernel) rfl⟩
set_option maxRecDepth 100000 in
theorem my_X11_open : px_my yX11_open cX11_open 2 (some .int) 1 := ⟨⟨px_mem 816 (by decide +kernel) rfl, px_mem 1 (by decide +kernel) rfl⟩, ⟨by decide, by decide⟩, by decide +kernel, by decide⟩
set_option maxRecDepth 100000 in
theorem iv_X11_open : Cond.instanceMethod yX11_open ∈ px_G ∧ Cond.selects (px_RC 11) yX11_open yX11_open ∈ px_G := ⟨px_mem 814 (by decide +kernel) rfl, px_mem 815 (by decide +kernel) rfl⟩
set_option maxRecDepth 100000 in
theorem my_X2_tryOpening : px_my yX2_tryOpening cX2_tryOpening 2 (some .int) 1 := ⟨⟨px_mem 820 (by decide +kernel) rfl, px_mem 2 (by decide +kernel) rfl⟩, ⟨by decide, by decide⟩, by decide +kernel, by decide⟩
