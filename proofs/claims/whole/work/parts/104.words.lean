/-! the words that the walks use, a row each -/
set_option maxRecDepth 100000 in
theorem ml_L_143 : px_ml RL 143 yX11_window := Or.inl (px_mem 1598 (by decide +kernel) rfl)
set_option maxRecDepth 100000 in
theorem ml_X11_341 : px_ml RX11 341 yX9_bestWaiting := Or.inr ⟨"LightSails", px_memN 1602 (by decide +kernel) rfl⟩
set_option maxRecDepth 100000 in
theorem ml_L_149 : px_ml RL 149 yX12_init := Or.inl (px_mem 1608 (by decide +kernel) rfl)
set_option maxRecDepth 100000 in
theorem oi_X12_1 : Cond.methodLink RX12 1 objectInit ∈ px_G ∧ Cond.instanceMethod objectInit ∈ px_G ∧ Cond.code objectInit ⟨#[0xb1]⟩ 1 none ∈ px_G := ⟨px_mem 1611 (by decide +kernel) rfl, px_mem 34 (by decide +kernel) rfl, px_mem 35 (by decide +kernel) rfl⟩
set_option maxRecDepth 100000 in
theorem ml_L_156 : px_ml RL 156 yX12_thrown := Or.inl (px_mem 1874 (by decide +kernel) rfl)
set_option maxRecDepth 100000 in
theorem ml_L_155 : px_ml RL 155 yX12_strip := Or.inl (px_mem 1878 (by decide +kernel) rfl)
set_option maxRecDepth 100000 in
theorem ml_X12_203 : px_ml RX12 203 yX12_in := Or.inl (px_mem 1882 (by decide +kernel) rfl)
set_option maxRecDepth 100000 in
theorem ml_X12_207 : px_ml RX12 207 yX12_bad := Or.inl (px_mem 1885 (by decide +kernel) rfl)
set_option maxRecDepth 100000 in
theorem ml_X12_199 : px_ml RX12 199 yX12_goThrough := Or.inl (px_mem 1889 (by decide +kernel) rfl)
set_option maxRecDepth 100000 in
theorem ml_X12_192 : px_ml RX12 192 yX12_stands := Or.inl (px_mem 1893 (by decide +kernel) rfl)
set_option maxRecDepth 100000 in
theorem ml_X12_188 : px_ml RX12 188 yX12_between := Or.inl (px_mem 1897 (by decide +kernel) rfl)
set_option maxRecDepth 100000 in
theorem ml_L_162 : px_ml RL 162 yX12_layer := Or.inl (px_mem 1901 (by decide +kernel) rfl)
set_option maxRecDepth 100000 in
theorem ml_L_166 : px_ml RL 166 yX12_lies := Or.inl (px_mem 1905 (by decide +kernel) rfl)
set_option maxRecDepth 100000 in
theorem ml_L_169 : px_ml RL 169 yX12_clear := Or.inl (px_mem 1909 (by decide +kernel) rfl)
set_option maxRecDepth 100000 in
theorem ml_X12_211 : px_ml RX12 211 yX12_isClear := Or.inl (px_mem 1913 (by decide +kernel) rfl)
set_option maxRecDepth 100000 in
theorem ml_L_172 : px_ml RL 172 yX12_open := Or.inl (px_mem 1917 (by decide +kernel) rfl)
set_option maxRecDepth 100000 in
theorem ml_L_176 : px_ml RL 176 yX12_orders := Or.inl (px_mem 1921 (by decide +kernel) rfl)
set_option maxRecDepth 100000 in
theorem ml_X12_215 : px_ml RX12 215 yX12_countOrders := Or.inl (px_mem 1925 (by decide +kernel) rfl)
set_option maxRecDepth 100000 in
theorem ml_L_179 : px_ml RL 179 yX12_safe := Or.inl (px_mem 1929 (by decide +kernel) rfl)
set_option maxRecDepth 100000 in
theorem ml_X12_219 : px_ml RX12 219 yX12_leads := Or.inl (px_mem 1933 (by decide +kernel) rfl)
set_option maxRecDepth 100000 in
theorem ml_L_183 : px_ml RL 183 yX12_panel := Or.inl (px_mem 1937 (by decide +kernel) rfl)
set_option maxRecDepth 100000 in
theorem ml_L_186 : px_ml RL 186 yX12_of := Or.inl (px_mem 1941 (by decide +kernel) rfl)
set_option maxRecDepth 100000 in
theorem ml_L_189 : px_ml RL 189 yX12_tear := Or.inl (px_mem 1945 (by decide +kernel) rfl)
set_option maxRecDepth 100000 in
theorem ml_L_192 : px_ml RL 192 yX12_flap := Or.inl (px_mem 1949 (by decide +kernel) rfl)
set_option maxRecDepth 100000 in
theorem ml_X12_228 : px_ml RX12 228 yX12_flapOf := Or.inl (px_mem 1953 (by decide +kernel) rfl)
set_option maxRecDepth 100000 in
theorem ml_L_195 : px_ml RL 195 yX12_bend := Or.inl (px_mem 1957 (by decide +kernel) rfl)
set_option maxRecDepth 100000 in
theorem ml_L_199 : px_ml RL 199 yX12_stuck := Or.inl (px_mem 1961 (by decide +kernel) rfl)
set_option maxRecDepth 100000 in
theorem ml_L_203 : px_ml RL 203 yX12_weights := Or.inl (px_mem 1965 (by decide +kernel) rfl)
set_option maxRecDepth 100000 in
theorem ml_L_206 : px_ml RL 206 yX12_push := Or.inl (px_mem 1969 (by decide +kernel) rfl)
set_option maxRecDepth 100000 in
theorem ml_X12_276 : px_ml RX12 276 yX12_sumY := Or.inl (px_mem 1973 (by decide +kernel) rfl)
set_option maxRecDepth 100000 in
theorem ml_X12_273 : px_ml RX12 273 yX12_pushY := Or.inl (px_mem 1977 (by decide +kernel) rfl)
set_option maxRecDepth 100000 in
theorem ml_X12_258 : px_ml RX12 258 yX12_slantOf := Or.inl (px_mem 1981 (by decide +kernel) rfl)
set_option maxRecDepth 100000 in
theorem ml_X12_262 : px_ml RX12 262 yX12_cos := Or.inl (px_mem 1985 (by decide +kernel) rfl)
set_option maxRecDepth 100000 in
theorem ml_X12_237 : px_ml RX12 237 yX12_amount := Or.inl (px_mem 1988 (by decide +kernel) rfl)
set_option maxRecDepth 100000 in
theorem ml_X12_270 : px_ml RX12 270 yX12_sin := Or.inl (px_mem 2001 (by decide +kernel) rfl)
set_option maxRecDepth 100000 in
theorem ml_X12_279 : px_ml RX12 279 yX12_pushX := Or.inl (px_mem 2005 (by decide +kernel) rfl)
set_option maxRecDepth 100000 in
theorem ml_L_209 : px_ml RL 209 yX12_turn := Or.inl (px_mem 2009 (by decide +kernel) rfl)
set_option maxRecDepth 100000 in
theorem ml_X12_286 : px_ml RX12 286 yX12_turned := Or.inl (px_mem 2013 (by decide +kernel) rfl)
set_option maxRecDepth 100000 in
theorem ml_X12_283 : px_ml RX12 283 yX12_press := Or.inl (px_mem 2017 (by decide +kernel) rfl)
set_option maxRecDepth 100000 in
theorem ml_L_212 : px_ml RL 212 yX12_trim := Or.inl (px_mem 2021 (by decide +kernel) rfl)
set_option maxRecDepth 100000 in
theorem ml_L_216 : px_ml RL 216 yX12_world := Or.inl (px_mem 2025 (by decide +kernel) rfl)
set_option maxRecDepth 100000 in
theorem ml_L_219 : px_ml RL 219 yX12_angle := Or.inl (px_mem 2029 (by decide +kernel) rfl)
set_option maxRecDepth 100000 in
theorem ml_X12_292 : px_ml RX12 292 yX12_angleOf := Or.inl (px_mem 2033 (by decide +kernel) rfl)
set_option maxRecDepth 100000 in
theorem ml_L_222 : px_ml RL 222 yX12_least := Or.inl (px_mem 2037 (by decide +kernel) rfl)
set_option maxRecDepth 100000 in
theorem ml_X12_317 : px_ml RX12 317 yX12_strength := Or.inl (px_mem 2041 (by decide +kernel) rfl)
set_option maxRecDepth 100000 in
theorem ml_X12_321 : px_ml RX12 321 yX12_findLeast := Or.inl (px_mem 2045 (by decide +kernel) rfl)
set_option maxRecDepth 100000 in
theorem ml_X12_310 : px_ml RX12 310 yX12_isMet := Or.inl (px_mem 2049 (by decide +kernel) rfl)
set_option maxRecDepth 100000 in
theorem ml_X12_314 : px_ml RX12 314 yX12_goesTo := Or.inl (px_mem 2053 (by decide +kernel) rfl)
set_option maxRecDepth 100000 in
theorem ml_X12_295 : px_ml RX12 295 yX12_stepsAt := Or.inl (px_mem 2056 (by decide +kernel) rfl)
set_option maxRecDepth 100000 in
theorem ml_X12_298 : px_ml RX12 298 yX12_turnAt := Or.inl (px_mem 2059 (by decide +kernel) rfl)
set_option maxRecDepth 100000 in
theorem ml_L_225 : px_ml RL 225 yX12_goal := Or.inl (px_mem 2062 (by decide +kernel) rfl)
set_option maxRecDepth 100000 in
theorem ml_L_229 : px_ml RL 229 yX12_feed := Or.inl (px_mem 2066 (by decide +kernel) rfl)
set_option maxRecDepth 100000 in
theorem ml_L_232 : px_ml RL 232 yX12_rules := Or.inl (px_mem 2070 (by decide +kernel) rfl)
set_option maxRecDepth 100000 in
theorem ml_X12_415 : px_ml RX12 415 yX12_readAll := Or.inl (px_mem 2074 (by decide +kernel) rfl)
set_option maxRecDepth 100000 in
theorem ml_X12_345 : px_ml RX12 345 yX12_blanks := Or.inl (px_mem 2078 (by decide +kernel) rfl)
set_option maxRecDepth 100000 in
theorem ml_X12_336 : px_ml RX12 336 yX12_byteAt := Or.inl (px_mem 2082 (by decide +kernel) rfl)
set_option maxRecDepth 100000 in
theorem ml_X12_361 : px_ml RX12 361 yX12_wordHere := Or.inl (px_mem 2086 (by decide +kernel) rfl)
set_option maxRecDepth 100000 in
theorem ml_X12_348 : px_ml RX12 348 yX12_isSmall := Or.inl (px_mem 2090 (by decide +kernel) rfl)
set_option maxRecDepth 100000 in
theorem ml_X12_364 : px_ml RX12 364 yX12_word := Or.inl (px_mem 2093 (by decide +kernel) rfl)
set_option maxRecDepth 100000 in
theorem ml_X12_351 : px_ml RX12 351 yX12_wrong := Or.inl (px_mem 2096 (by decide +kernel) rfl)
set_option maxRecDepth 100000 in
theorem ml_X12_374 : px_ml RX12 374 yX12_skipWord := Or.inl (px_mem 2100 (by decide +kernel) rfl)
set_option maxRecDepth 100000 in
theorem ml_X12_400 : px_ml RX12 400 yX12_ors := Or.inl (px_mem 2104 (by decide +kernel) rfl)
set_option maxRecDepth 100000 in
theorem ml_X12_403 : px_ml RX12 403 yX12_ands := Or.inl (px_mem 2108 (by decide +kernel) rfl)
set_option maxRecDepth 100000 in
theorem ml_X12_396 : px_ml RX12 396 yX12_test := Or.inl (px_mem 2112 (by decide +kernel) rfl)
set_option maxRecDepth 100000 in
theorem ml_X12_380 : px_ml RX12 380 yX12_opens := Or.inl (px_mem 2116 (by decide +kernel) rfl)
set_option maxRecDepth 100000 in
theorem ml_X12_387 : px_ml RX12 387 yX12_sign := Or.inl (px_mem 2120 (by decide +kernel) rfl)
set_option maxRecDepth 100000 in
theorem ml_X12_384 : px_ml RX12 384 yX12_sum := Or.inl (px_mem 2124 (by decide +kernel) rfl)
set_option maxRecDepth 100000 in
theorem ml_X12_393 : px_ml RX12 393 yX12_product := Or.inl (px_mem 2128 (by decide +kernel) rfl)
set_option maxRecDepth 100000 in
theorem ml_X12_390 : px_ml RX12 390 yX12_unit := Or.inl (px_mem 2132 (by decide +kernel) rfl)
set_option maxRecDepth 100000 in
theorem ml_X12_354 : px_ml RX12 354 yX12_isDigit := Or.inl (px_mem 2136 (by decide +kernel) rfl)
set_option maxRecDepth 100000 in
theorem ml_X12_368 : px_ml RX12 368 yX12_number := Or.inl (px_mem 2139 (by decide +kernel) rfl)
set_option maxRecDepth 100000 in
theorem ml_X12_371 : px_ml RX12 371 yX12_nameHere := Or.inl (px_mem 2144 (by decide +kernel) rfl)
set_option maxRecDepth 100000 in
theorem ml_X12_377 : px_ml RX12 377 yX12_named := Or.inl (px_mem 2148 (by decide +kernel) rfl)
set_option maxRecDepth 100000 in
theorem ml_L_236 : px_ml RL 236 yX12_fault := Or.inl (px_mem 2152 (by decide +kernel) rfl)
set_option maxRecDepth 100000 in
theorem ml_L_240 : px_ml RL 240 yX12_asks := Or.inl (px_mem 2156 (by decide +kernel) rfl)
set_option maxRecDepth 100000 in
theorem ml_X12_424 : px_ml RX12 424 yX12_asked := Or.inl (px_mem 2160 (by decide +kernel) rfl)
set_option maxRecDepth 100000 in
theorem ml_L_243 : px_ml RL 243 yX12_dust := Or.inl (px_mem 2164 (by decide +kernel) rfl)
set_option maxRecDepth 100000 in
theorem ml_L_246 : px_ml RL 246 yX12_fly := Or.inl (px_mem 2168 (by decide +kernel) rfl)
set_option maxRecDepth 100000 in
theorem ml_X12_430 : px_ml RX12 430 yX12_flyDay := Or.inl (px_mem 2172 (by decide +kernel) rfl)
set_option maxRecDepth 100000 in
theorem ml_L_249 : px_ml RL 249 yX12_note := Or.inl (px_mem 2176 (by decide +kernel) rfl)
set_option maxRecDepth 100000 in
theorem ml_L_252 : px_ml RL 252 yX12_coat := Or.inl (px_mem 2180 (by decide +kernel) rfl)
set_option maxRecDepth 100000 in
theorem ml_L_255 : px_ml RL 255 yX12_sight := Or.inl (px_mem 2184 (by decide +kernel) rfl)
set_option maxRecDepth 100000 in
theorem ml_L_258 : px_ml RL 258 yX12_fits := Or.inl (px_mem 2189 (by decide +kernel) rfl)
set_option maxRecDepth 100000 in
theorem ml_X12_443 : px_ml RX12 443 yX12_waysOf := Or.inl (px_mem 2193 (by decide +kernel) rfl)
set_option maxRecDepth 100000 in
theorem ml_X12_446 : px_ml RX12 446 yX12_takes := Or.inl (px_mem 2197 (by decide +kernel) rfl)
set_option maxRecDepth 100000 in
theorem ml_X12_440 : px_ml RX12 440 yX12_seen := Or.inl (px_mem 2201 (by decide +kernel) rfl)
set_option maxRecDepth 100000 in
theorem ml_L_261 : px_ml RL 261 yX12_fit := Or.inl (px_mem 2205 (by decide +kernel) rfl)
set_option maxRecDepth 100000 in
theorem ml_L_264 : px_ml RL 264 yX12_shows := Or.inl (px_mem 2209 (by decide +kernel) rfl)
set_option maxRecDepth 100000 in
theorem ml_L_268 : px_ml RL 268 yX12_knot := Or.inl (px_mem 2213 (by decide +kernel) rfl)
set_option maxRecDepth 100000 in
theorem ml_L_272 : px_ml RL 272 yX12_pull := Or.inl (px_mem 2217 (by decide +kernel) rfl)
set_option maxRecDepth 100000 in
theorem ml_L_275 : px_ml RL 275 yX12_string := Or.inl (px_mem 2221 (by decide +kernel) rfl)
set_option maxRecDepth 100000 in
theorem ml_L_293 : px_ml RL 293 yX12_cut := Or.inl (px_mem 2225 (by decide +kernel) rfl)
set_option maxRecDepth 100000 in
theorem ml_L_280 : px_ml RL 280 yX12_hangs := Or.inl (px_mem 2229 (by decide +kernel) rfl)
set_option maxRecDepth 100000 in
theorem ml_X12_480 : px_ml RX12 480 yX12_findEase := Or.inl (px_mem 2233 (by decide +kernel) rfl)
set_option maxRecDepth 100000 in
theorem ml_X12_470 : px_ml RX12 470 yX12_solves := Or.inl (px_mem 2237 (by decide +kernel) rfl)
set_option maxRecDepth 100000 in
theorem ml_X12_463 : px_ml RX12 463 yX12_writeRows := Or.inl (px_mem 2241 (by decide +kernel) rfl)
set_option maxRecDepth 100000 in
theorem ml_X12_455 : px_ml RX12 455 yX12_pulls := Or.inl (px_mem 2245 (by decide +kernel) rfl)
set_option maxRecDepth 100000 in
theorem ml_X12_459 : px_ml RX12 459 yX12_divisor := Or.inl (px_mem 2249 (by decide +kernel) rfl)
set_option maxRecDepth 100000 in
theorem ml_X12_466 : px_ml RX12 466 yX12_shorten := Or.inl (px_mem 2252 (by decide +kernel) rfl)
set_option maxRecDepth 100000 in
theorem ml_L_283 : px_ml RL 283 yX12_slack := Or.inl (px_mem 2256 (by decide +kernel) rfl)
set_option maxRecDepth 100000 in
theorem ml_X12_483 : px_ml RX12 483 yX12_isCorner := Or.inl (px_mem 2260 (by decide +kernel) rfl)
set_option maxRecDepth 100000 in
theorem ml_L_286 : px_ml RL 286 yX12_taut := Or.inl (px_mem 2264 (by decide +kernel) rfl)
set_option maxRecDepth 100000 in
theorem ml_L_289 : px_ml RL 289 yX12_ease := Or.inl (px_mem 2268 (by decide +kernel) rfl)
set_option maxRecDepth 100000 in
theorem ml_L_297 : px_ml RL 297 yX12_offer := Or.inl (px_mem 2273 (by decide +kernel) rfl)
set_option maxRecDepth 100000 in
theorem ml_L_300 : px_ml RL 300 yX12_sheet := Or.inl (px_mem 2277 (by decide +kernel) rfl)
set_option maxRecDepth 100000 in
theorem ml_X12_492 : px_ml RX12 492 yX12_sumOf := Or.inl (px_mem 2281 (by decide +kernel) rfl)
set_option maxRecDepth 100000 in
theorem ml_X12_495 : px_ml RX12 495 yX12_isAhead := Or.inl (px_mem 2285 (by decide +kernel) rfl)
set_option maxRecDepth 100000 in
theorem ml_L_303 : px_ml RL 303 yX12_late := Or.inl (px_mem 2289 (by decide +kernel) rfl)
set_option maxRecDepth 100000 in
theorem ml_X12_498 : px_ml RX12 498 yX12_lateBy := Or.inl (px_mem 2293 (by decide +kernel) rfl)
set_option maxRecDepth 100000 in
theorem ml_L_306 : px_ml RL 306 yX12_window := Or.inl (px_mem 2297 (by decide +kernel) rfl)
set_option maxRecDepth 100000 in
theorem ml_L_310 : px_ml RL 310 yX12_count := Or.inl (px_mem 2301 (by decide +kernel) rfl)
set_option maxRecDepth 100000 in
theorem cl_L_8 : Cond.classLink RL 8 (px_RC 11) ∈ px_G ∧ Cond.instantiable (px_RC 11) (px_N 11) ∈ px_G ∧ Cond.initialized (px_RC 11) ∈ px_G := ⟨px_mem 28 (by decide +kernel) rfl, px_mem 29 (by decide +kernel) rfl, px_mem 1 (by decide +kernel) rfl⟩
set_option maxRecDepth 100000 in
theorem cl_X11_9 : Cond.classLink RX11 9 (px_RC 2) ∈ px_G ∧ Cond.instantiable (px_RC 2) (px_N 2) ∈ px_G ∧ Cond.initialized (px_RC 2) ∈ px_G := ⟨px_mem 36 (by decide +kernel) rfl, px_mem 37 (by decide +kernel) rfl, px_mem 2 (by decide +kernel) rfl⟩
set_option maxRecDepth 100000 in
theorem cl_X11_16 : Cond.classLink RX11 16 (px_RC 8) ∈ px_G ∧ Cond.instantiable (px_RC 8) (px_N 8) ∈ px_G ∧ Cond.initialized (px_RC 8) ∈ px_G := ⟨px_mem 71 (by decide +kernel) rfl, px_mem 72 (by decide +kernel) rfl, px_mem 3 (by decide +kernel) rfl⟩
set_option maxRecDepth 100000 in
theorem cl_X8_11 : Cond.classLink RX8 11 (px_RC 5) ∈ px_G ∧ Cond.instantiable (px_RC 5) (px_N 5) ∈ px_G ∧ Cond.initialized (px_RC 5) ∈ px_G := ⟨px_mem 77 (by decide +kernel) rfl, px_mem 473 (by decide +kernel) rfl, px_mem 19 (by decide +kernel) rfl⟩
set_option maxRecDepth 100000 in
theorem cl_X11_23 : Cond.classLink RX11 23 (px_RC 9) ∈ px_G ∧ Cond.instantiable (px_RC 9) (px_N 9) ∈ px_G ∧ Cond.initialized (px_RC 9) ∈ px_G := ⟨px_mem 129 (by decide +kernel) rfl, px_mem 130 (by decide +kernel) rfl, px_mem 4 (by decide +kernel) rfl⟩
set_option maxRecDepth 100000 in
theorem cl_X9_18 : Cond.classLink RX9 18 (px_RC 10) ∈ px_G ∧ Cond.instantiable (px_RC 10) (px_N 10) ∈ px_G ∧ Cond.initialized (px_RC 10) ∈ px_G := ⟨px_mem 135 (by decide +kernel) rfl, px_mem 508 (by decide +kernel) rfl, px_mem 22 (by decide +kernel) rfl⟩
set_option maxRecDepth 100000 in
theorem cl_X11_30 : Cond.classLink RX11 30 (px_RC 6) ∈ px_G ∧ Cond.instantiable (px_RC 6) (px_N 6) ∈ px_G ∧ Cond.initialized (px_RC 6) ∈ px_G := ⟨px_mem 178 (by decide +kernel) rfl, px_mem 179 (by decide +kernel) rfl, px_mem 5 (by decide +kernel) rfl⟩
set_option maxRecDepth 100000 in
theorem cl_X6_19 : Cond.classLink RX6 19 (px_RC 7) ∈ px_G ∧ Cond.instantiable (px_RC 7) (px_N 7) ∈ px_G ∧ Cond.initialized (px_RC 7) ∈ px_G := ⟨px_mem 184 (by decide +kernel) rfl, px_mem 185 (by decide +kernel) rfl, px_mem 6 (by decide +kernel) rfl⟩
set_option maxRecDepth 100000 in
theorem cl_X11_37 : Cond.classLink RX11 37 (px_RC 3) ∈ px_G ∧ Cond.instantiable (px_RC 3) (px_N 3) ∈ px_G ∧ Cond.initialized (px_RC 3) ∈ px_G := ⟨px_mem 249 (by decide +kernel) rfl, px_mem 250 (by decide +kernel) rfl, px_mem 7 (by decide +kernel) rfl⟩
set_option maxRecDepth 100000 in
theorem cl_X11_44 : Cond.classLink RX11 44 (px_RC 4) ∈ px_G ∧ Cond.instantiable (px_RC 4) (px_N 4) ∈ px_G ∧ Cond.initialized (px_RC 4) ∈ px_G := ⟨px_mem 304 (by decide +kernel) rfl, px_mem 305 (by decide +kernel) rfl, px_mem 8 (by decide +kernel) rfl⟩
set_option maxRecDepth 100000 in
theorem cl_X11_51 : Cond.classLink RX11 51 (px_RC 0) ∈ px_G ∧ Cond.instantiable (px_RC 0) (px_N 0) ∈ px_G ∧ Cond.initialized (px_RC 0) ∈ px_G := ⟨px_mem 378 (by decide +kernel) rfl, px_mem 379 (by decide +kernel) rfl, px_mem 9 (by decide +kernel) rfl⟩
set_option maxRecDepth 100000 in
theorem cl_X11_58 : Cond.classLink RX11 58 (px_RC 7) ∈ px_G ∧ Cond.instantiable (px_RC 7) (px_N 7) ∈ px_G ∧ Cond.initialized (px_RC 7) ∈ px_G := ⟨px_mem 408 (by decide +kernel) rfl, px_mem 185 (by decide +kernel) rfl, px_mem 6 (by decide +kernel) rfl⟩
set_option maxRecDepth 100000 in
theorem kl_X5_60 : Cond.constantLong RX5 60 (2) ∈ px_G := px_mem 492 (by decide +kernel) rfl
set_option maxRecDepth 100000 in
theorem kl_X5_62 : Cond.constantLong RX5 62 (100000000) ∈ px_G := px_mem 493 (by decide +kernel) rfl
set_option maxRecDepth 100000 in
theorem ki_J6_265 : Cond.constant RJ6 265 (1431655765) ∈ px_G := px_mem 557 (by decide +kernel) rfl
set_option maxRecDepth 100000 in
theorem ki_J6_266 : Cond.constant RJ6 266 (858993459) ∈ px_G := px_mem 558 (by decide +kernel) rfl
set_option maxRecDepth 100000 in
theorem ki_J6_267 : Cond.constant RJ6 267 (252645135) ∈ px_G := px_mem 559 (by decide +kernel) rfl
set_option maxRecDepth 100000 in
theorem kl_X5_58 : Cond.constantLong RX5 58 (1000) ∈ px_G := px_mem 1020 (by decide +kernel) rfl
set_option maxRecDepth 100000 in
theorem cl_X10_35 : Cond.classLink RX10 35 (px_RC 1) ∈ px_G ∧ Cond.instantiable (px_RC 1) (px_N 1) ∈ px_G ∧ Cond.initialized (px_RC 1) ∈ px_G := ⟨px_mem 1127 (by decide +kernel) rfl, px_mem 1128 (by decide +kernel) rfl, px_mem 23 (by decide +kernel) rfl⟩
set_option maxRecDepth 100000 in
theorem kl_X1_33 : Cond.constantLong RX1 33 (7) ∈ px_G := px_mem 1135 (by decide +kernel) rfl
set_option maxRecDepth 100000 in
theorem kl_X1_35 : Cond.constantLong RX1 35 (51539607552) ∈ px_G := px_mem 1136 (by decide +kernel) rfl
set_option maxRecDepth 100000 in
theorem kl_X1_75 : Cond.constantLong RX1 75 (68719476735) ∈ px_G := px_mem 1174 (by decide +kernel) rfl
set_option maxRecDepth 100000 in
theorem ki_X11_269 : Cond.constant RX11 269 (1000000) ∈ px_G := px_mem 1406 (by decide +kernel) rfl
set_option maxRecDepth 100000 in
theorem kl_X11_315 : Cond.constantLong RX11 315 (-1) ∈ px_G := px_mem 1546 (by decide +kernel) rfl
set_option maxRecDepth 100000 in
theorem ki_J6_264 : Cond.constant RJ6 264 (65536) ∈ px_G := px_mem 1572 (by decide +kernel) rfl
set_option maxRecDepth 100000 in
theorem cl_L_147 : Cond.classLink RL 147 (px_RC 12) ∈ px_G ∧ Cond.instantiable (px_RC 12) (px_N 12) ∈ px_G ∧ Cond.initialized (px_RC 12) ∈ px_G := ⟨px_mem 1606 (by decide +kernel) rfl, px_mem 1607 (by decide +kernel) rfl, px_mem 10 (by decide +kernel) rfl⟩
set_option maxRecDepth 100000 in
theorem kl_X12_240 : Cond.constantLong RX12 240 (1000) ∈ px_G := px_mem 1991 (by decide +kernel) rfl
set_option maxRecDepth 100000 in
theorem kl_X12_242 : Cond.constantLong RX12 242 (985) ∈ px_G := px_mem 1992 (by decide +kernel) rfl
set_option maxRecDepth 100000 in
theorem kl_X12_244 : Cond.constantLong RX12 244 (940) ∈ px_G := px_mem 1993 (by decide +kernel) rfl
set_option maxRecDepth 100000 in
theorem kl_X12_246 : Cond.constantLong RX12 246 (866) ∈ px_G := px_mem 1994 (by decide +kernel) rfl
set_option maxRecDepth 100000 in
theorem kl_X12_248 : Cond.constantLong RX12 248 (766) ∈ px_G := px_mem 1995 (by decide +kernel) rfl
set_option maxRecDepth 100000 in
theorem kl_X12_250 : Cond.constantLong RX12 250 (643) ∈ px_G := px_mem 1996 (by decide +kernel) rfl
set_option maxRecDepth 100000 in
theorem kl_X12_252 : Cond.constantLong RX12 252 (500) ∈ px_G := px_mem 1997 (by decide +kernel) rfl
set_option maxRecDepth 100000 in
theorem kl_X12_254 : Cond.constantLong RX12 254 (342) ∈ px_G := px_mem 1998 (by decide +kernel) rfl
set_option maxRecDepth 100000 in
theorem kl_X12_256 : Cond.constantLong RX12 256 (174) ∈ px_G := px_mem 1999 (by decide +kernel) rfl
set_option maxRecDepth 100000 in
theorem kl_X12_266 : Cond.constantLong RX12 266 (2) ∈ px_G := px_mem 2000 (by decide +kernel) rfl
set_option maxRecDepth 100000 in
theorem kl_X12_268 : Cond.constantLong RX12 268 (100000000) ∈ px_G := px_mem 2004 (by decide +kernel) rfl
set_option maxRecDepth 100000 in
theorem ki_X12_357 : Cond.constant RX12 357 (100000) ∈ px_G := px_mem 2143 (by decide +kernel) rfl
set_option maxRecDepth 100000 in
theorem ki_X12_436 : Cond.constant RX12 436 (1000000) ∈ px_G := px_mem 2188 (by decide +kernel) rfl
set_option maxRecDepth 100000 in
theorem kl_X12_487 : Cond.constantLong RX12 487 (-1) ∈ px_G := px_mem 2272 (by decide +kernel) rfl
set_option maxRecDepth 100000 in
theorem ac_13 : Cond.arrayClass (px_et 13) ∈ px_G := px_mem 70 (by decide +kernel) rfl
set_option maxRecDepth 100000 in
theorem ac_14 : Cond.arrayClass (px_et 14) ∈ px_G := px_mem 303 (by decide +kernel) rfl
set_option maxRecDepth 100000 in
theorem ac_15 : Cond.arrayClass (px_et 15) ∈ px_G := px_mem 377 (by decide +kernel) rfl
set_option maxRecDepth 100000 in
theorem mw_L_strip : px_mw yL_strip cL_strip 5 (some .int) [(0, 10, 13, 13)] 4 := ⟨⟨px_mem 625 (by decide +kernel) rfl, px_mem 0 (by decide +kernel) rfl, px_mem 624 (by decide +kernel) rfl⟩, ⟨by decide, by decide⟩, by decide +kernel, by decide⟩
set_option maxRecDepth 100000 in
theorem mw_L_lies : px_mw yL_lies cL_lies 4 (some .int) [(0, 16, 19, 19), (0, 16, 22, 13)] 3 := ⟨⟨px_mem 735 (by decide +kernel) rfl, px_mem 0 (by decide +kernel) rfl, px_mem 734 (by decide +kernel) rfl⟩, ⟨by decide, by decide⟩, by decide +kernel, by decide⟩
set_option maxRecDepth 100000 in
theorem mw_L_clear : px_mw yL_clear cL_clear 4 (some .int) [(0, 16, 19, 19), (0, 16, 22, 24), (0, 16, 25, 13)] 3 := ⟨⟨px_mem 770 (by decide +kernel) rfl, px_mem 0 (by decide +kernel) rfl, px_mem 769 (by decide +kernel) rfl⟩, ⟨by decide, by decide⟩, by decide +kernel, by decide⟩
set_option maxRecDepth 100000 in
theorem mw_L_open : px_mw yL_open cL_open 4 (some .int) [(0, 9, 12, 19), (0, 9, 15, 24)] 3 := ⟨⟨px_mem 812 (by decide +kernel) rfl, px_mem 0 (by decide +kernel) rfl, px_mem 811 (by decide +kernel) rfl⟩, ⟨by decide, by decide⟩, by decide +kernel, by decide⟩
set_option maxRecDepth 100000 in
theorem mw_L_orders : px_mw yL_orders cL_orders 3 (some .int) [(0, 8, 11, 19)] 2 := ⟨⟨px_mem 824 (by decide +kernel) rfl, px_mem 0 (by decide +kernel) rfl, px_mem 823 (by decide +kernel) rfl⟩, ⟨by decide, by decide⟩, by decide +kernel, by decide⟩
set_option maxRecDepth 100000 in
theorem mw_L_safe : px_mw yL_safe cL_safe 4 (some .int) [(0, 9, 12, 19)] 3 := ⟨⟨px_mem 839 (by decide +kernel) rfl, px_mem 0 (by decide +kernel) rfl, px_mem 838 (by decide +kernel) rfl⟩, ⟨by decide, by decide⟩, by decide +kernel, by decide⟩
set_option maxRecDepth 100000 in
theorem mw_L_panel : px_mw yL_panel cL_panel 8 (some .int) [(0, 16, 19, 13)] 7 := ⟨⟨px_mem 856 (by decide +kernel) rfl, px_mem 0 (by decide +kernel) rfl, px_mem 855 (by decide +kernel) rfl⟩, ⟨by decide, by decide⟩, by decide +kernel, by decide⟩
set_option maxRecDepth 100000 in
theorem mw_L_of : px_mw yL_of cL_of 5 (some .int) [(0, 10, 13, 44), (0, 10, 17, 13)] 4 := ⟨⟨px_mem 921 (by decide +kernel) rfl, px_mem 0 (by decide +kernel) rfl, px_mem 920 (by decide +kernel) rfl⟩, ⟨by decide, by decide⟩, by decide +kernel, by decide⟩
set_option maxRecDepth 100000 in
theorem mw_L_tear : px_mw yL_tear cL_tear 4 (some .int) [(0, 16, 19, 44)] 3 := ⟨⟨px_mem 957 (by decide +kernel) rfl, px_mem 0 (by decide +kernel) rfl, px_mem 956 (by decide +kernel) rfl⟩, ⟨by decide, by decide⟩, by decide +kernel, by decide⟩
set_option maxRecDepth 100000 in
theorem mw_L_flap : px_mw yL_flap cL_flap 4 (some .int) [(0, 9, 12, 44)] 3 := ⟨⟨px_mem 964 (by decide +kernel) rfl, px_mem 0 (by decide +kernel) rfl, px_mem 963 (by decide +kernel) rfl⟩, ⟨by decide, by decide⟩, by decide +kernel, by decide⟩
set_option maxRecDepth 100000 in
theorem mw_L_bend : px_mw yL_bend cL_bend 5 (some .int) [(0, 10, 13, 24), (0, 10, 17, 13)] 4 := ⟨⟨px_mem 975 (by decide +kernel) rfl, px_mem 0 (by decide +kernel) rfl, px_mem 974 (by decide +kernel) rfl⟩, ⟨by decide, by decide⟩, by decide +kernel, by decide⟩
set_option maxRecDepth 100000 in
theorem mw_L_stuck : px_mw yL_stuck cL_stuck 5 (some .int) [(0, 17, 20, 24)] 4 := ⟨⟨px_mem 986 (by decide +kernel) rfl, px_mem 0 (by decide +kernel) rfl, px_mem 985 (by decide +kernel) rfl⟩, ⟨by decide, by decide⟩, by decide +kernel, by decide⟩
set_option maxRecDepth 100000 in
theorem mw_L_weights : px_mw yL_weights cL_weights 4 (some .int) [(0, 6, 9, 13)] 3 := ⟨⟨px_mem 993 (by decide +kernel) rfl, px_mem 0 (by decide +kernel) rfl, px_mem 992 (by decide +kernel) rfl⟩, ⟨by decide, by decide⟩, by decide +kernel, by decide⟩
set_option maxRecDepth 100000 in
theorem mw_L_push : px_mw yL_push cL_push 5 (some .int) [(0, 10, 13, 13)] 4 := ⟨⟨px_mem 1000 (by decide +kernel) rfl, px_mem 0 (by decide +kernel) rfl, px_mem 999 (by decide +kernel) rfl⟩, ⟨by decide, by decide⟩, by decide +kernel, by decide⟩
set_option maxRecDepth 100000 in
theorem mw_L_turn : px_mw yL_turn cL_turn 5 (some .int) [(0, 10, 13, 13)] 4 := ⟨⟨px_mem 1024 (by decide +kernel) rfl, px_mem 0 (by decide +kernel) rfl, px_mem 1023 (by decide +kernel) rfl⟩, ⟨by decide, by decide⟩, by decide +kernel, by decide⟩
set_option maxRecDepth 100000 in
theorem mw_L_trim : px_mw yL_trim cL_trim 5 (some .int) [(0, 10, 13, 13)] 4 := ⟨⟨px_mem 1043 (by decide +kernel) rfl, px_mem 0 (by decide +kernel) rfl, px_mem 1042 (by decide +kernel) rfl⟩, ⟨by decide, by decide⟩, by decide +kernel, by decide⟩
set_option maxRecDepth 100000 in
theorem mw_L_world : px_mw yL_world cL_world 6 (some .int) [(0, 12, 15, 13)] 5 := ⟨⟨px_mem 1073 (by decide +kernel) rfl, px_mem 0 (by decide +kernel) rfl, px_mem 1072 (by decide +kernel) rfl⟩, ⟨by decide, by decide⟩, by decide +kernel, by decide⟩
set_option maxRecDepth 100000 in
theorem mw_L_angle : px_mw yL_angle cL_angle 5 (some .int) [(0, 10, 13, 24), (0, 10, 17, 13)] 4 := ⟨⟨px_mem 1102 (by decide +kernel) rfl, px_mem 0 (by decide +kernel) rfl, px_mem 1101 (by decide +kernel) rfl⟩, ⟨by decide, by decide⟩, by decide +kernel, by decide⟩
set_option maxRecDepth 100000 in
theorem mw_L_least : px_mw yL_least cL_least 5 (some .int) [(0, 10, 13, 24), (0, 10, 17, 13)] 4 := ⟨⟨px_mem 1111 (by decide +kernel) rfl, px_mem 0 (by decide +kernel) rfl, px_mem 1110 (by decide +kernel) rfl⟩, ⟨by decide, by decide⟩, by decide +kernel, by decide⟩
set_option maxRecDepth 100000 in
theorem mw_L_goal : px_mw yL_goal cL_goal 4 (some .int) [(0, 9, 12, 24)] 3 := ⟨⟨px_mem 1195 (by decide +kernel) rfl, px_mem 0 (by decide +kernel) rfl, px_mem 1194 (by decide +kernel) rfl⟩, ⟨by decide, by decide⟩, by decide +kernel, by decide⟩
set_option maxRecDepth 100000 in
theorem mw_L_rules : px_mw yL_rules cL_rules 4 (some .int) [(0, 9, 12, 13)] 3 := ⟨⟨px_mem 1202 (by decide +kernel) rfl, px_mem 0 (by decide +kernel) rfl, px_mem 1201 (by decide +kernel) rfl⟩, ⟨by decide, by decide⟩, by decide +kernel, by decide⟩
set_option maxRecDepth 100000 in
theorem mw_L_dust : px_mw yL_dust cL_dust 5 (some .int) [(0, 10, 13, 44), (0, 10, 17, 13)] 4 := ⟨⟨px_mem 1335 (by decide +kernel) rfl, px_mem 0 (by decide +kernel) rfl, px_mem 1334 (by decide +kernel) rfl⟩, ⟨by decide, by decide⟩, by decide +kernel, by decide⟩
set_option maxRecDepth 100000 in
theorem mw_L_fly : px_mw yL_fly cL_fly 4 (some .int) [(0, 9, 12, 13), (0, 9, 15, 19)] 3 := ⟨⟨px_mem 1346 (by decide +kernel) rfl, px_mem 0 (by decide +kernel) rfl, px_mem 1345 (by decide +kernel) rfl⟩, ⟨by decide, by decide⟩, by decide +kernel, by decide⟩
set_option maxRecDepth 100000 in
theorem mw_L_note : px_mw yL_note cL_note 5 (some .int) [(0, 10, 13, 13)] 4 := ⟨⟨px_mem 1378 (by decide +kernel) rfl, px_mem 0 (by decide +kernel) rfl, px_mem 1377 (by decide +kernel) rfl⟩, ⟨by decide, by decide⟩, by decide +kernel, by decide⟩
set_option maxRecDepth 100000 in
theorem mw_L_coat : px_mw yL_coat cL_coat 5 (some .int) [(0, 10, 13, 13)] 4 := ⟨⟨px_mem 1390 (by decide +kernel) rfl, px_mem 0 (by decide +kernel) rfl, px_mem 1389 (by decide +kernel) rfl⟩, ⟨by decide, by decide⟩, by decide +kernel, by decide⟩
set_option maxRecDepth 100000 in
theorem mw_L_sight : px_mw yL_sight cL_sight 6 (some .int) [(0, 12, 15, 13)] 5 := ⟨⟨px_mem 1401 (by decide +kernel) rfl, px_mem 0 (by decide +kernel) rfl, px_mem 1400 (by decide +kernel) rfl⟩, ⟨by decide, by decide⟩, by decide +kernel, by decide⟩
set_option maxRecDepth 100000 in
theorem mw_L_fits : px_mw yL_fits cL_fits 4 (some .int) [(0, 9, 12, 13)] 3 := ⟨⟨px_mem 1413 (by decide +kernel) rfl, px_mem 0 (by decide +kernel) rfl, px_mem 1412 (by decide +kernel) rfl⟩, ⟨by decide, by decide⟩, by decide +kernel, by decide⟩
set_option maxRecDepth 100000 in
theorem mw_L_fit : px_mw yL_fit cL_fit 5 (some .int) [(0, 10, 13, 13)] 4 := ⟨⟨px_mem 1454 (by decide +kernel) rfl, px_mem 0 (by decide +kernel) rfl, px_mem 1453 (by decide +kernel) rfl⟩, ⟨by decide, by decide⟩, by decide +kernel, by decide⟩
set_option maxRecDepth 100000 in
theorem mw_L_shows : px_mw yL_shows cL_shows 4 (some .int) [(0, 9, 12, 13)] 3 := ⟨⟨px_mem 1466 (by decide +kernel) rfl, px_mem 0 (by decide +kernel) rfl, px_mem 1465 (by decide +kernel) rfl⟩, ⟨by decide, by decide⟩, by decide +kernel, by decide⟩
set_option maxRecDepth 100000 in
theorem mw_L_knot : px_mw yL_knot cL_knot 6 (some .int) [(0, 12, 15, 13)] 5 := ⟨⟨px_mem 1481 (by decide +kernel) rfl, px_mem 0 (by decide +kernel) rfl, px_mem 1480 (by decide +kernel) rfl⟩, ⟨by decide, by decide⟩, by decide +kernel, by decide⟩
set_option maxRecDepth 100000 in
theorem mw_L_pull : px_mw yL_pull cL_pull 5 (some .int) [(0, 7, 10, 24), (0, 7, 14, 13)] 4 := ⟨⟨px_mem 1492 (by decide +kernel) rfl, px_mem 0 (by decide +kernel) rfl, px_mem 1491 (by decide +kernel) rfl⟩, ⟨by decide, by decide⟩, by decide +kernel, by decide⟩
set_option maxRecDepth 100000 in
theorem mw_L_string : px_mw yL_string cL_string 5 (some .int) [(0, 10, 13, 24), (0, 10, 17, 13)] 4 := ⟨⟨px_mem 1508 (by decide +kernel) rfl, px_mem 0 (by decide +kernel) rfl, px_mem 1507 (by decide +kernel) rfl⟩, ⟨by decide, by decide⟩, by decide +kernel, by decide⟩
set_option maxRecDepth 100000 in
theorem mw_L_slack : px_mw yL_slack cL_slack 4 (some .int) [(0, 16, 19, 24)] 3 := ⟨⟨px_mem 1523 (by decide +kernel) rfl, px_mem 0 (by decide +kernel) rfl, px_mem 1522 (by decide +kernel) rfl⟩, ⟨by decide, by decide⟩, by decide +kernel, by decide⟩
set_option maxRecDepth 100000 in
theorem mw_L_taut : px_mw yL_taut cL_taut 4 (some .int) [(0, 16, 19, 24)] 3 := ⟨⟨px_mem 1534 (by decide +kernel) rfl, px_mem 0 (by decide +kernel) rfl, px_mem 1533 (by decide +kernel) rfl⟩, ⟨by decide, by decide⟩, by decide +kernel, by decide⟩
set_option maxRecDepth 100000 in
theorem mw_L_ease : px_mw yL_ease cL_ease 4 (some .int) [(0, 8, 11, 13)] 3 := ⟨⟨px_mem 1541 (by decide +kernel) rfl, px_mem 0 (by decide +kernel) rfl, px_mem 1540 (by decide +kernel) rfl⟩, ⟨by decide, by decide⟩, by decide +kernel, by decide⟩
set_option maxRecDepth 100000 in
theorem mw_L_offer : px_mw yL_offer cL_offer 7 (some .int) [(0, 14, 17, 13)] 6 := ⟨⟨px_mem 1549 (by decide +kernel) rfl, px_mem 0 (by decide +kernel) rfl, px_mem 1548 (by decide +kernel) rfl⟩, ⟨by decide, by decide⟩, by decide +kernel, by decide⟩
set_option maxRecDepth 100000 in
theorem mw_L_sheet : px_mw yL_sheet cL_sheet 6 (some .int) [(0, 12, 15, 13)] 5 := ⟨⟨px_mem 1560 (by decide +kernel) rfl, px_mem 0 (by decide +kernel) rfl, px_mem 1559 (by decide +kernel) rfl⟩, ⟨by decide, by decide⟩, by decide +kernel, by decide⟩
set_option maxRecDepth 100000 in
theorem mw_L_late : px_mw yL_late cL_late 5 (some .int) [(0, 10, 13, 24), (0, 10, 17, 13)] 4 := ⟨⟨px_mem 1586 (by decide +kernel) rfl, px_mem 0 (by decide +kernel) rfl, px_mem 1585 (by decide +kernel) rfl⟩, ⟨by decide, by decide⟩, by decide +kernel, by decide⟩
set_option maxRecDepth 100000 in
theorem mw_L_window : px_mw yL_window cL_window 4 (some .int) [(0, 9, 12, 24)] 3 := ⟨⟨px_mem 1597 (by decide +kernel) rfl, px_mem 0 (by decide +kernel) rfl, px_mem 1596 (by decide +kernel) rfl⟩, ⟨by decide, by decide⟩, by decide +kernel, by decide⟩
set_option maxRecDepth 100000 in
theorem tw_IAE : px_tw 385 389 "java/lang/IllegalArgumentException" := ⟨px_mem 634 (by decide +kernel) rfl, px_mem 14 (by decide +kernel) rfl, by decide +kernel⟩
set_option maxRecDepth 100000 in
theorem tw_IOOBE : px_tw 392 396 "java/lang/IndexOutOfBoundsException" := ⟨px_mem 779 (by decide +kernel) rfl, px_mem 16 (by decide +kernel) rfl, by decide +kernel⟩
set_option maxRecDepth 100000 in
theorem tw_ISE : px_tw 402 406 "java/lang/IllegalStateException" := ⟨px_mem 744 (by decide +kernel) rfl, px_mem 15 (by decide +kernel) rfl, by decide +kernel⟩
set_option maxRecDepth 100000 in
theorem cx_13 : Cond.classLink RL 13 "java/lang/IllegalArgumentException" ∈ px_G := px_mem 626 (by decide +kernel) rfl
set_option maxRecDepth 100000 in
theorem cx_19 : Cond.classLink RL 19 "java/lang/IllegalStateException" ∈ px_G := px_mem 736 (by decide +kernel) rfl
set_option maxRecDepth 100000 in
theorem cx_24 : Cond.classLink RL 24 "java/lang/IndexOutOfBoundsException" ∈ px_G := px_mem 771 (by decide +kernel) rfl
set_option maxRecDepth 100000 in
theorem cx_44 : Cond.classLink RL 44 "java/util/NoSuchElementException" ∈ px_G := px_mem 922 (by decide +kernel) rfl
set_option maxRecDepth 100000 in
theorem ca_IAE : Cond.castable "java/lang/IllegalArgumentException" "java/lang/IllegalArgumentException" ∈ px_NW := px_memN 636 (by decide +kernel) rfl
set_option maxRecDepth 100000 in
theorem ca_ISE : Cond.castable "java/lang/IllegalStateException" "java/lang/IllegalStateException" ∈ px_NW := px_memN 746 (by decide +kernel) rfl
set_option maxRecDepth 100000 in
theorem ca_IOOBE : Cond.castable "java/lang/IndexOutOfBoundsException" "java/lang/IndexOutOfBoundsException" ∈ px_NW := px_memN 781 (by decide +kernel) rfl
set_option maxRecDepth 100000 in
theorem ca_NSEE : Cond.castable "java/util/NoSuchElementException" "java/util/NoSuchElementException" ∈ px_NW := px_memN 937 (by decide +kernel) rfl
