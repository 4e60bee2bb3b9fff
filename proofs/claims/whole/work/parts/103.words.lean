/-! the words that the walks use, a row each -/
set_option maxRecDepth 100000 in
theorem iv_X12_sign : Cond.instanceMethod yX12_sign ∈ px_G ∧ Cond.selects (px_RC 12) yX12_sign yX12_sign ∈ px_G := ⟨px_mem 2122 (by decide +kernel) rfl, px_mems 149 (by decide +kernel) rfl⟩
set_option maxRecDepth 100000 in
theorem my_X12_sum : px_my yX12_sum cX12_sum 4 (some .int) 0 := ⟨⟨px_mem 2127 (by decide +kernel) rfl, px_mem 10 (by decide +kernel) rfl⟩, ⟨by decide, by decide⟩, by decide +kernel, by decide⟩
set_option maxRecDepth 100000 in
theorem iv_X12_sum : Cond.instanceMethod yX12_sum ∈ px_G ∧ Cond.selects (px_RC 12) yX12_sum yX12_sum ∈ px_G := ⟨px_mem 2126 (by decide +kernel) rfl, px_mems 150 (by decide +kernel) rfl⟩
set_option maxRecDepth 100000 in
theorem my_X12_product : px_my yX12_product cX12_product 4 (some .int) 0 := ⟨⟨px_mem 2131 (by decide +kernel) rfl, px_mem 10 (by decide +kernel) rfl⟩, ⟨by decide, by decide⟩, by decide +kernel, by decide⟩
set_option maxRecDepth 100000 in
theorem iv_X12_product : Cond.instanceMethod yX12_product ∈ px_G ∧ Cond.selects (px_RC 12) yX12_product yX12_product ∈ px_G := ⟨px_mem 2130 (by decide +kernel) rfl, px_mems 151 (by decide +kernel) rfl⟩
set_option maxRecDepth 100000 in
theorem my_X12_unit : px_my yX12_unit cX12_unit 7 (some .int) 0 := ⟨⟨px_mem 2135 (by decide +kernel) rfl, px_mem 10 (by decide +kernel) rfl⟩, ⟨by decide, by decide⟩, by decide +kernel, by decide⟩
set_option maxRecDepth 100000 in
theorem iv_X12_unit : Cond.instanceMethod yX12_unit ∈ px_G ∧ Cond.selects (px_RC 12) yX12_unit yX12_unit ∈ px_G := ⟨px_mem 2134 (by decide +kernel) rfl, px_mems 152 (by decide +kernel) rfl⟩
set_option maxRecDepth 100000 in
theorem my_X12_isDigit : px_my yX12_isDigit cX12_isDigit 1 (some .boolean) 1 := ⟨⟨px_mem 2138 (by decide +kernel) rfl, px_mem 10 (by decide +kernel) rfl⟩, ⟨by decide, by decide⟩, by decide +kernel, by decide⟩
set_option maxRecDepth 100000 in
theorem sv_X12_isDigit : Cond.static yX12_isDigit ∈ px_G := px_mem 2137 (by decide +kernel) rfl
set_option maxRecDepth 100000 in
theorem my_X12_number : px_my yX12_number cX12_number 3 (some .int) 0 := ⟨⟨px_mem 2142 (by decide +kernel) rfl, px_mem 10 (by decide +kernel) rfl⟩, ⟨by decide, by decide⟩, by decide +kernel, by decide⟩
set_option maxRecDepth 100000 in
theorem iv_X12_number : Cond.instanceMethod yX12_number ∈ px_G ∧ Cond.selects (px_RC 12) yX12_number yX12_number ∈ px_G := ⟨px_mem 2141 (by decide +kernel) rfl, px_mems 153 (by decide +kernel) rfl⟩
set_option maxRecDepth 100000 in
theorem my_X12_nameHere : px_my yX12_nameHere cX12_nameHere 2 (some .int) 0 := ⟨⟨px_mem 2147 (by decide +kernel) rfl, px_mem 10 (by decide +kernel) rfl⟩, ⟨by decide, by decide⟩, by decide +kernel, by decide⟩
set_option maxRecDepth 100000 in
theorem iv_X12_nameHere : Cond.instanceMethod yX12_nameHere ∈ px_G ∧ Cond.selects (px_RC 12) yX12_nameHere yX12_nameHere ∈ px_G := ⟨px_mem 2146 (by decide +kernel) rfl, px_mems 154 (by decide +kernel) rfl⟩
set_option maxRecDepth 100000 in
theorem my_X12_named : px_my yX12_named cX12_named 6 (some .int) 1 := ⟨⟨px_mem 2151 (by decide +kernel) rfl, px_mem 10 (by decide +kernel) rfl⟩, ⟨by decide, by decide⟩, by decide +kernel, by decide⟩
set_option maxRecDepth 100000 in
theorem iv_X12_named : Cond.instanceMethod yX12_named ∈ px_G ∧ Cond.selects (px_RC 12) yX12_named yX12_named ∈ px_G := ⟨px_mem 2150 (by decide +kernel) rfl, px_mems 155 (by decide +kernel) rfl⟩
set_option maxRecDepth 100000 in
theorem my_X12_fault : px_my yX12_fault cX12_fault 1 (some .int) 0 := ⟨⟨px_mem 2155 (by decide +kernel) rfl, px_mem 10 (by decide +kernel) rfl⟩, ⟨by decide, by decide⟩, by decide +kernel, by decide⟩
set_option maxRecDepth 100000 in
theorem iv_X12_fault : Cond.instanceMethod yX12_fault ∈ px_G ∧ Cond.selects (px_RC 12) yX12_fault yX12_fault ∈ px_G := ⟨px_mem 2153 (by decide +kernel) rfl, px_mem 2154 (by decide +kernel) rfl⟩
set_option maxRecDepth 100000 in
theorem my_X12_asks : px_my yX12_asks cX12_asks 1 (some .int) 0 := ⟨⟨px_mem 2159 (by decide +kernel) rfl, px_mem 10 (by decide +kernel) rfl⟩, ⟨by decide, by decide⟩, by decide +kernel, by decide⟩
set_option maxRecDepth 100000 in
theorem iv_X12_asks : Cond.instanceMethod yX12_asks ∈ px_G ∧ Cond.selects (px_RC 12) yX12_asks yX12_asks ∈ px_G := ⟨px_mem 2157 (by decide +kernel) rfl, px_mem 2158 (by decide +kernel) rfl⟩
set_option maxRecDepth 100000 in
theorem my_X12_asked : px_my yX12_asked cX12_asked 1 none 0 := ⟨⟨px_mem 2163 (by decide +kernel) rfl, px_mem 10 (by decide +kernel) rfl⟩, ⟨by decide, by decide⟩, by decide +kernel, by decide⟩
set_option maxRecDepth 100000 in
theorem iv_X12_asked : Cond.instanceMethod yX12_asked ∈ px_G ∧ Cond.selects (px_RC 12) yX12_asked yX12_asked ∈ px_G := ⟨px_mem 2162 (by decide +kernel) rfl, px_mems 156 (by decide +kernel) rfl⟩
set_option maxRecDepth 100000 in
theorem my_X12_dust : px_my yX12_dust cX12_dust 3 (some .int) 2 := ⟨⟨px_mem 2167 (by decide +kernel) rfl, px_mem 10 (by decide +kernel) rfl⟩, ⟨by decide, by decide⟩, by decide +kernel, by decide⟩
set_option maxRecDepth 100000 in
theorem iv_X12_dust : Cond.instanceMethod yX12_dust ∈ px_G ∧ Cond.selects (px_RC 12) yX12_dust yX12_dust ∈ px_G := ⟨px_mem 2165 (by decide +kernel) rfl, px_mem 2166 (by decide +kernel) rfl⟩
set_option maxRecDepth 100000 in
theorem my_X12_fly : px_my yX12_fly cX12_fly 4 (some .int) 1 := ⟨⟨px_mem 2171 (by decide +kernel) rfl, px_mem 10 (by decide +kernel) rfl⟩, ⟨by decide, by decide⟩, by decide +kernel, by decide⟩
set_option maxRecDepth 100000 in
theorem iv_X12_fly : Cond.instanceMethod yX12_fly ∈ px_G ∧ Cond.selects (px_RC 12) yX12_fly yX12_fly ∈ px_G := ⟨px_mem 2169 (by decide +kernel) rfl, px_mem 2170 (by decide +kernel) rfl⟩
set_option maxRecDepth 100000 in
theorem my_X12_flyDay : px_my yX12_flyDay cX12_flyDay 5 none 0 := ⟨⟨px_mem 2175 (by decide +kernel) rfl, px_mem 10 (by decide +kernel) rfl⟩, ⟨by decide, by decide⟩, by decide +kernel, by decide⟩
set_option maxRecDepth 100000 in
theorem iv_X12_flyDay : Cond.instanceMethod yX12_flyDay ∈ px_G ∧ Cond.selects (px_RC 12) yX12_flyDay yX12_flyDay ∈ px_G := ⟨px_mem 2174 (by decide +kernel) rfl, px_mems 157 (by decide +kernel) rfl⟩
set_option maxRecDepth 100000 in
theorem my_X12_note : px_my yX12_note cX12_note 3 (some .int) 2 := ⟨⟨px_mem 2179 (by decide +kernel) rfl, px_mem 10 (by decide +kernel) rfl⟩, ⟨by decide, by decide⟩, by decide +kernel, by decide⟩
set_option maxRecDepth 100000 in
theorem iv_X12_note : Cond.instanceMethod yX12_note ∈ px_G ∧ Cond.selects (px_RC 12) yX12_note yX12_note ∈ px_G := ⟨px_mem 2177 (by decide +kernel) rfl, px_mem 2178 (by decide +kernel) rfl⟩
set_option maxRecDepth 100000 in
theorem my_X12_coat : px_my yX12_coat cX12_coat 3 (some .int) 2 := ⟨⟨px_mem 2183 (by decide +kernel) rfl, px_mem 10 (by decide +kernel) rfl⟩, ⟨by decide, by decide⟩, by decide +kernel, by decide⟩
set_option maxRecDepth 100000 in
theorem iv_X12_coat : Cond.instanceMethod yX12_coat ∈ px_G ∧ Cond.selects (px_RC 12) yX12_coat yX12_coat ∈ px_G := ⟨px_mem 2181 (by decide +kernel) rfl, px_mem 2182 (by decide +kernel) rfl⟩
set_option maxRecDepth 100000 in
theorem my_X12_sight : px_my yX12_sight cX12_sight 4 (some .int) 3 := ⟨⟨px_mem 2187 (by decide +kernel) rfl, px_mem 10 (by decide +kernel) rfl⟩, ⟨by decide, by decide⟩, by decide +kernel, by decide⟩
set_option maxRecDepth 100000 in
theorem iv_X12_sight : Cond.instanceMethod yX12_sight ∈ px_G ∧ Cond.selects (px_RC 12) yX12_sight yX12_sight ∈ px_G := ⟨px_mem 2185 (by decide +kernel) rfl, px_mem 2186 (by decide +kernel) rfl⟩
set_option maxRecDepth 100000 in
theorem my_X12_fits : px_my yX12_fits cX12_fits 4 (some .int) 1 := ⟨⟨px_mem 2192 (by decide +kernel) rfl, px_mem 10 (by decide +kernel) rfl⟩, ⟨by decide, by decide⟩, by decide +kernel, by decide⟩
set_option maxRecDepth 100000 in
theorem iv_X12_fits : Cond.instanceMethod yX12_fits ∈ px_G ∧ Cond.selects (px_RC 12) yX12_fits yX12_fits ∈ px_G := ⟨px_mem 2190 (by decide +kernel) rfl, px_mem 2191 (by decide +kernel) rfl⟩
set_option maxRecDepth 100000 in
theorem my_X12_waysOf : px_my yX12_waysOf cX12_waysOf 4 (some .int) 1 := ⟨⟨px_mem 2196 (by decide +kernel) rfl, px_mem 10 (by decide +kernel) rfl⟩, ⟨by decide, by decide⟩, by decide +kernel, by decide⟩
set_option maxRecDepth 100000 in
theorem iv_X12_waysOf : Cond.instanceMethod yX12_waysOf ∈ px_G ∧ Cond.selects (px_RC 12) yX12_waysOf yX12_waysOf ∈ px_G := ⟨px_mem 2195 (by decide +kernel) rfl, px_mems 158 (by decide +kernel) rfl⟩
set_option maxRecDepth 100000 in
theorem my_X12_takes : px_my yX12_takes cX12_takes 5 (some .boolean) 2 := ⟨⟨px_mem 2200 (by decide +kernel) rfl, px_mem 10 (by decide +kernel) rfl⟩, ⟨by decide, by decide⟩, by decide +kernel, by decide⟩
set_option maxRecDepth 100000 in
theorem iv_X12_takes : Cond.instanceMethod yX12_takes ∈ px_G ∧ Cond.selects (px_RC 12) yX12_takes yX12_takes ∈ px_G := ⟨px_mem 2199 (by decide +kernel) rfl, px_mems 159 (by decide +kernel) rfl⟩
set_option maxRecDepth 100000 in
theorem my_X12_seen : px_my yX12_seen cX12_seen 5 (some .int) 2 := ⟨⟨px_mem 2204 (by decide +kernel) rfl, px_mem 10 (by decide +kernel) rfl⟩, ⟨by decide, by decide⟩, by decide +kernel, by decide⟩
set_option maxRecDepth 100000 in
theorem iv_X12_seen : Cond.instanceMethod yX12_seen ∈ px_G ∧ Cond.selects (px_RC 12) yX12_seen yX12_seen ∈ px_G := ⟨px_mem 2203 (by decide +kernel) rfl, px_mems 160 (by decide +kernel) rfl⟩
set_option maxRecDepth 100000 in
theorem my_X12_fit : px_my yX12_fit cX12_fit 4 (some .int) 2 := ⟨⟨px_mem 2208 (by decide +kernel) rfl, px_mem 10 (by decide +kernel) rfl⟩, ⟨by decide, by decide⟩, by decide +kernel, by decide⟩
set_option maxRecDepth 100000 in
theorem iv_X12_fit : Cond.instanceMethod yX12_fit ∈ px_G ∧ Cond.selects (px_RC 12) yX12_fit yX12_fit ∈ px_G := ⟨px_mem 2206 (by decide +kernel) rfl, px_mem 2207 (by decide +kernel) rfl⟩
set_option maxRecDepth 100000 in
theorem my_X12_shows : px_my yX12_shows cX12_shows 10 (some .int) 1 := ⟨⟨px_mem 2212 (by decide +kernel) rfl, px_mem 10 (by decide +kernel) rfl⟩, ⟨by decide, by decide⟩, by decide +kernel, by decide⟩
set_option maxRecDepth 100000 in
theorem iv_X12_shows : Cond.instanceMethod yX12_shows ∈ px_G ∧ Cond.selects (px_RC 12) yX12_shows yX12_shows ∈ px_G := ⟨px_mem 2210 (by decide +kernel) rfl, px_mem 2211 (by decide +kernel) rfl⟩
set_option maxRecDepth 100000 in
theorem my_X12_knot : px_my yX12_knot cX12_knot 4 (some .int) 3 := ⟨⟨px_mem 2216 (by decide +kernel) rfl, px_mem 10 (by decide +kernel) rfl⟩, ⟨by decide, by decide⟩, by decide +kernel, by decide⟩
set_option maxRecDepth 100000 in
theorem iv_X12_knot : Cond.instanceMethod yX12_knot ∈ px_G ∧ Cond.selects (px_RC 12) yX12_knot yX12_knot ∈ px_G := ⟨px_mem 2214 (by decide +kernel) rfl, px_mem 2215 (by decide +kernel) rfl⟩
set_option maxRecDepth 100000 in
theorem my_X12_pull : px_my yX12_pull cX12_pull 4 none 3 := ⟨⟨px_mem 2220 (by decide +kernel) rfl, px_mem 10 (by decide +kernel) rfl⟩, ⟨by decide, by decide⟩, by decide +kernel, by decide⟩
set_option maxRecDepth 100000 in
theorem iv_X12_pull : Cond.instanceMethod yX12_pull ∈ px_G ∧ Cond.selects (px_RC 12) yX12_pull yX12_pull ∈ px_G := ⟨px_mem 2218 (by decide +kernel) rfl, px_mem 2219 (by decide +kernel) rfl⟩
set_option maxRecDepth 100000 in
theorem my_X12_string : px_my yX12_string cX12_string 4 (some .int) 2 := ⟨⟨px_mem 2224 (by decide +kernel) rfl, px_mem 10 (by decide +kernel) rfl⟩, ⟨by decide, by decide⟩, by decide +kernel, by decide⟩
set_option maxRecDepth 100000 in
theorem iv_X12_string : Cond.instanceMethod yX12_string ∈ px_G ∧ Cond.selects (px_RC 12) yX12_string yX12_string ∈ px_G := ⟨px_mem 2222 (by decide +kernel) rfl, px_mem 2223 (by decide +kernel) rfl⟩
set_option maxRecDepth 100000 in
theorem my_X12_cut : px_my yX12_cut cX12_cut 2 (some .int) 0 := ⟨⟨px_mem 2228 (by decide +kernel) rfl, px_mem 10 (by decide +kernel) rfl⟩, ⟨by decide, by decide⟩, by decide +kernel, by decide⟩
set_option maxRecDepth 100000 in
theorem iv_X12_cut : Cond.instanceMethod yX12_cut ∈ px_G ∧ Cond.selects (px_RC 12) yX12_cut yX12_cut ∈ px_G := ⟨px_mem 2226 (by decide +kernel) rfl, px_mem 2227 (by decide +kernel) rfl⟩
set_option maxRecDepth 100000 in
theorem my_X12_hangs : px_my yX12_hangs cX12_hangs 1 (some .boolean) 0 := ⟨⟨px_mem 2232 (by decide +kernel) rfl, px_mem 10 (by decide +kernel) rfl⟩, ⟨by decide, by decide⟩, by decide +kernel, by decide⟩
set_option maxRecDepth 100000 in
theorem iv_X12_hangs : Cond.instanceMethod yX12_hangs ∈ px_G ∧ Cond.selects (px_RC 12) yX12_hangs yX12_hangs ∈ px_G := ⟨px_mem 2230 (by decide +kernel) rfl, px_mem 2231 (by decide +kernel) rfl⟩
set_option maxRecDepth 100000 in
theorem my_X12_findEase : px_my yX12_findEase cX12_findEase 12 (some .boolean) 0 := ⟨⟨px_mem 2236 (by decide +kernel) rfl, px_mem 10 (by decide +kernel) rfl⟩, ⟨by decide, by decide⟩, by decide +kernel, by decide⟩
set_option maxRecDepth 100000 in
theorem iv_X12_findEase : Cond.instanceMethod yX12_findEase ∈ px_G ∧ Cond.selects (px_RC 12) yX12_findEase yX12_findEase ∈ px_G := ⟨px_mem 2235 (by decide +kernel) rfl, px_mems 161 (by decide +kernel) rfl⟩
set_option maxRecDepth 100000 in
theorem my_X12_solves : px_my yX12_solves cX12_solves 14 (some .boolean) 2 := ⟨⟨px_mem 2240 (by decide +kernel) rfl, px_mem 10 (by decide +kernel) rfl⟩, ⟨by decide, by decide⟩, by decide +kernel, by decide⟩
set_option maxRecDepth 100000 in
theorem iv_X12_solves : Cond.instanceMethod yX12_solves ∈ px_G ∧ Cond.selects (px_RC 12) yX12_solves yX12_solves ∈ px_G := ⟨px_mem 2239 (by decide +kernel) rfl, px_mems 162 (by decide +kernel) rfl⟩
set_option maxRecDepth 100000 in
theorem my_X12_writeRows : px_my yX12_writeRows cX12_writeRows 6 none 1 := ⟨⟨px_mem 2244 (by decide +kernel) rfl, px_mem 10 (by decide +kernel) rfl⟩, ⟨by decide, by decide⟩, by decide +kernel, by decide⟩
set_option maxRecDepth 100000 in
theorem iv_X12_writeRows : Cond.instanceMethod yX12_writeRows ∈ px_G ∧ Cond.selects (px_RC 12) yX12_writeRows yX12_writeRows ∈ px_G := ⟨px_mem 2243 (by decide +kernel) rfl, px_mems 163 (by decide +kernel) rfl⟩
set_option maxRecDepth 100000 in
theorem my_X12_pulls : px_my yX12_pulls cX12_pulls 5 (some .int) 3 := ⟨⟨px_mem 2248 (by decide +kernel) rfl, px_mem 10 (by decide +kernel) rfl⟩, ⟨by decide, by decide⟩, by decide +kernel, by decide⟩
set_option maxRecDepth 100000 in
theorem iv_X12_pulls : Cond.instanceMethod yX12_pulls ∈ px_G ∧ Cond.selects (px_RC 12) yX12_pulls yX12_pulls ∈ px_G := ⟨px_mem 2247 (by decide +kernel) rfl, px_mems 164 (by decide +kernel) rfl⟩
set_option maxRecDepth 100000 in
theorem my_X12_divisor : px_my yX12_divisor cX12_divisor 10 (some .long) 2 := ⟨⟨px_mem 2251 (by decide +kernel) rfl, px_mem 10 (by decide +kernel) rfl⟩, ⟨by decide, by decide⟩, by decide +kernel, by decide⟩
set_option maxRecDepth 100000 in
theorem sv_X12_divisor : Cond.static yX12_divisor ∈ px_G := px_mem 2250 (by decide +kernel) rfl
set_option maxRecDepth 100000 in
theorem my_X12_shorten : px_my yX12_shorten cX12_shorten 5 none 1 := ⟨⟨px_mem 2255 (by decide +kernel) rfl, px_mem 10 (by decide +kernel) rfl⟩, ⟨by decide, by decide⟩, by decide +kernel, by decide⟩
set_option maxRecDepth 100000 in
theorem iv_X12_shorten : Cond.instanceMethod yX12_shorten ∈ px_G ∧ Cond.selects (px_RC 12) yX12_shorten yX12_shorten ∈ px_G := ⟨px_mem 2254 (by decide +kernel) rfl, px_mems 165 (by decide +kernel) rfl⟩
set_option maxRecDepth 100000 in
theorem my_X12_slack : px_my yX12_slack cX12_slack 2 (some .boolean) 1 := ⟨⟨px_mem 2259 (by decide +kernel) rfl, px_mem 10 (by decide +kernel) rfl⟩, ⟨by decide, by decide⟩, by decide +kernel, by decide⟩
set_option maxRecDepth 100000 in
theorem iv_X12_slack : Cond.instanceMethod yX12_slack ∈ px_G ∧ Cond.selects (px_RC 12) yX12_slack yX12_slack ∈ px_G := ⟨px_mem 2257 (by decide +kernel) rfl, px_mem 2258 (by decide +kernel) rfl⟩
set_option maxRecDepth 100000 in
theorem my_X12_isCorner : px_my yX12_isCorner cX12_isCorner 4 (some .boolean) 2 := ⟨⟨px_mem 2263 (by decide +kernel) rfl, px_mem 10 (by decide +kernel) rfl⟩, ⟨by decide, by decide⟩, by decide +kernel, by decide⟩
set_option maxRecDepth 100000 in
theorem iv_X12_isCorner : Cond.instanceMethod yX12_isCorner ∈ px_G ∧ Cond.selects (px_RC 12) yX12_isCorner yX12_isCorner ∈ px_G := ⟨px_mem 2262 (by decide +kernel) rfl, px_mems 166 (by decide +kernel) rfl⟩
set_option maxRecDepth 100000 in
theorem my_X12_taut : px_my yX12_taut cX12_taut 3 (some .boolean) 1 := ⟨⟨px_mem 2267 (by decide +kernel) rfl, px_mem 10 (by decide +kernel) rfl⟩, ⟨by decide, by decide⟩, by decide +kernel, by decide⟩
set_option maxRecDepth 100000 in
theorem iv_X12_taut : Cond.instanceMethod yX12_taut ∈ px_G ∧ Cond.selects (px_RC 12) yX12_taut yX12_taut ∈ px_G := ⟨px_mem 2265 (by decide +kernel) rfl, px_mem 2266 (by decide +kernel) rfl⟩
set_option maxRecDepth 100000 in
theorem my_X12_ease : px_my yX12_ease cX12_ease 2 (some .long) 1 := ⟨⟨px_mem 2271 (by decide +kernel) rfl, px_mem 10 (by decide +kernel) rfl⟩, ⟨by decide, by decide⟩, by decide +kernel, by decide⟩
set_option maxRecDepth 100000 in
theorem iv_X12_ease : Cond.instanceMethod yX12_ease ∈ px_G ∧ Cond.selects (px_RC 12) yX12_ease yX12_ease ∈ px_G := ⟨px_mem 2269 (by decide +kernel) rfl, px_mem 2270 (by decide +kernel) rfl⟩
set_option maxRecDepth 100000 in
theorem my_X12_offer : px_my yX12_offer cX12_offer 5 (some .int) 4 := ⟨⟨px_mem 2276 (by decide +kernel) rfl, px_mem 10 (by decide +kernel) rfl⟩, ⟨by decide, by decide⟩, by decide +kernel, by decide⟩
set_option maxRecDepth 100000 in
theorem iv_X12_offer : Cond.instanceMethod yX12_offer ∈ px_G ∧ Cond.selects (px_RC 12) yX12_offer yX12_offer ∈ px_G := ⟨px_mem 2274 (by decide +kernel) rfl, px_mem 2275 (by decide +kernel) rfl⟩
set_option maxRecDepth 100000 in
theorem my_X12_sheet : px_my yX12_sheet cX12_sheet 6 (some .int) 3 := ⟨⟨px_mem 2280 (by decide +kernel) rfl, px_mem 10 (by decide +kernel) rfl⟩, ⟨by decide, by decide⟩, by decide +kernel, by decide⟩
set_option maxRecDepth 100000 in
theorem iv_X12_sheet : Cond.instanceMethod yX12_sheet ∈ px_G ∧ Cond.selects (px_RC 12) yX12_sheet yX12_sheet ∈ px_G := ⟨px_mem 2278 (by decide +kernel) rfl, px_mem 2279 (by decide +kernel) rfl⟩
set_option maxRecDepth 100000 in
theorem my_X12_sumOf : px_my yX12_sumOf cX12_sumOf 5 (some .int) 2 := ⟨⟨px_mem 2284 (by decide +kernel) rfl, px_mem 10 (by decide +kernel) rfl⟩, ⟨by decide, by decide⟩, by decide +kernel, by decide⟩
set_option maxRecDepth 100000 in
theorem iv_X12_sumOf : Cond.instanceMethod yX12_sumOf ∈ px_G ∧ Cond.selects (px_RC 12) yX12_sumOf yX12_sumOf ∈ px_G := ⟨px_mem 2283 (by decide +kernel) rfl, px_mems 167 (by decide +kernel) rfl⟩
set_option maxRecDepth 100000 in
theorem my_X12_isAhead : px_my yX12_isAhead cX12_isAhead 4 (some .boolean) 2 := ⟨⟨px_mem 2288 (by decide +kernel) rfl, px_mem 10 (by decide +kernel) rfl⟩, ⟨by decide, by decide⟩, by decide +kernel, by decide⟩
set_option maxRecDepth 100000 in
theorem iv_X12_isAhead : Cond.instanceMethod yX12_isAhead ∈ px_G ∧ Cond.selects (px_RC 12) yX12_isAhead yX12_isAhead ∈ px_G := ⟨px_mem 2287 (by decide +kernel) rfl, px_mems 168 (by decide +kernel) rfl⟩
set_option maxRecDepth 100000 in
theorem my_X12_late : px_my yX12_late cX12_late 3 (some .int) 2 := ⟨⟨px_mem 2292 (by decide +kernel) rfl, px_mem 10 (by decide +kernel) rfl⟩, ⟨by decide, by decide⟩, by decide +kernel, by decide⟩
set_option maxRecDepth 100000 in
theorem iv_X12_late : Cond.instanceMethod yX12_late ∈ px_G ∧ Cond.selects (px_RC 12) yX12_late yX12_late ∈ px_G := ⟨px_mem 2290 (by decide +kernel) rfl, px_mem 2291 (by decide +kernel) rfl⟩
set_option maxRecDepth 100000 in
theorem my_X12_lateBy : px_my yX12_lateBy cX12_lateBy 6 (some .int) 2 := ⟨⟨px_mem 2296 (by decide +kernel) rfl, px_mem 10 (by decide +kernel) rfl⟩, ⟨by decide, by decide⟩, by decide +kernel, by decide⟩
set_option maxRecDepth 100000 in
theorem iv_X12_lateBy : Cond.instanceMethod yX12_lateBy ∈ px_G ∧ Cond.selects (px_RC 12) yX12_lateBy yX12_lateBy ∈ px_G := ⟨px_mem 2295 (by decide +kernel) rfl, px_mems 169 (by decide +kernel) rfl⟩
set_option maxRecDepth 100000 in
theorem my_X12_window : px_my yX12_window cX12_window 6 (some .int) 1 := ⟨⟨px_mem 2300 (by decide +kernel) rfl, px_mem 10 (by decide +kernel) rfl⟩, ⟨by decide, by decide⟩, by decide +kernel, by decide⟩
set_option maxRecDepth 100000 in
theorem iv_X12_window : Cond.instanceMethod yX12_window ∈ px_G ∧ Cond.selects (px_RC 12) yX12_window yX12_window ∈ px_G := ⟨px_mem 2298 (by decide +kernel) rfl, px_mem 2299 (by decide +kernel) rfl⟩
set_option maxRecDepth 100000 in
theorem my_X12_count : px_my yX12_count cX12_count 4 (some .int) 1 := ⟨⟨px_mem 2304 (by decide +kernel) rfl, px_mem 10 (by decide +kernel) rfl⟩, ⟨by decide, by decide⟩, by decide +kernel, by decide⟩
set_option maxRecDepth 100000 in
theorem iv_X12_count : Cond.instanceMethod yX12_count ∈ px_G ∧ Cond.selects (px_RC 12) yX12_count yX12_count ∈ px_G := ⟨px_mem 2302 (by decide +kernel) rfl, px_mem 2303 (by decide +kernel) rfl⟩
set_option maxRecDepth 100000 in
theorem ml_L_146 : px_ml RL 146 yX11_init := Or.inl (px_mem 30 (by decide +kernel) rfl)
set_option maxRecDepth 100000 in
theorem oi_X11_3 : Cond.methodLink RX11 3 objectInit ∈ px_G ∧ Cond.instanceMethod objectInit ∈ px_G ∧ Cond.code objectInit ⟨#[0xb1]⟩ 1 none ∈ px_G := ⟨px_mem 33 (by decide +kernel) rfl, px_mem 34 (by decide +kernel) rfl, px_mem 35 (by decide +kernel) rfl⟩
set_option maxRecDepth 100000 in
theorem ml_X11_11 : px_ml RX11 11 yX2_init := Or.inr ⟨"LightSails", px_memN 38 (by decide +kernel) rfl⟩
set_option maxRecDepth 100000 in
theorem oi_X2_3 : Cond.methodLink RX2 3 objectInit ∈ px_G ∧ Cond.instanceMethod objectInit ∈ px_G ∧ Cond.code objectInit ⟨#[0xb1]⟩ 1 none ∈ px_G := ⟨px_mem 41 (by decide +kernel) rfl, px_mem 34 (by decide +kernel) rfl, px_mem 35 (by decide +kernel) rfl⟩
set_option maxRecDepth 100000 in
theorem ml_X11_18 : px_ml RX11 18 yX8_init := Or.inr ⟨"LightSails", px_memN 73 (by decide +kernel) rfl⟩
set_option maxRecDepth 100000 in
theorem oi_X8_5 : Cond.methodLink RX8 5 objectInit ∈ px_G ∧ Cond.instanceMethod objectInit ∈ px_G ∧ Cond.code objectInit ⟨#[0xb1]⟩ 1 none ∈ px_G := ⟨px_mem 76 (by decide +kernel) rfl, px_mem 34 (by decide +kernel) rfl, px_mem 35 (by decide +kernel) rfl⟩
set_option maxRecDepth 100000 in
theorem ml_X11_25 : px_ml RX11 25 yX9_init := Or.inr ⟨"LightSails", px_memN 131 (by decide +kernel) rfl⟩
set_option maxRecDepth 100000 in
theorem oi_X9_3 : Cond.methodLink RX9 3 objectInit ∈ px_G ∧ Cond.instanceMethod objectInit ∈ px_G ∧ Cond.code objectInit ⟨#[0xb1]⟩ 1 none ∈ px_G := ⟨px_mem 134 (by decide +kernel) rfl, px_mem 34 (by decide +kernel) rfl, px_mem 35 (by decide +kernel) rfl⟩
set_option maxRecDepth 100000 in
theorem ml_X11_32 : px_ml RX11 32 yX6_init := Or.inr ⟨"LightSails", px_memN 180 (by decide +kernel) rfl⟩
set_option maxRecDepth 100000 in
theorem oi_X6_3 : Cond.methodLink RX6 3 objectInit ∈ px_G ∧ Cond.instanceMethod objectInit ∈ px_G ∧ Cond.code objectInit ⟨#[0xb1]⟩ 1 none ∈ px_G := ⟨px_mem 183 (by decide +kernel) rfl, px_mem 34 (by decide +kernel) rfl, px_mem 35 (by decide +kernel) rfl⟩
set_option maxRecDepth 100000 in
theorem ml_X6_21 : px_ml RX6 21 yX7_init := Or.inr ⟨"LightSails", px_memN 186 (by decide +kernel) rfl⟩
set_option maxRecDepth 100000 in
theorem oi_X7_3 : Cond.methodLink RX7 3 objectInit ∈ px_G ∧ Cond.instanceMethod objectInit ∈ px_G ∧ Cond.code objectInit ⟨#[0xb1]⟩ 1 none ∈ px_G := ⟨px_mem 189 (by decide +kernel) rfl, px_mem 34 (by decide +kernel) rfl, px_mem 35 (by decide +kernel) rfl⟩
set_option maxRecDepth 100000 in
theorem ml_X11_39 : px_ml RX11 39 yX3_init := Or.inr ⟨"LightSails", px_memN 251 (by decide +kernel) rfl⟩
set_option maxRecDepth 100000 in
theorem oi_X3_5 : Cond.methodLink RX3 5 objectInit ∈ px_G ∧ Cond.instanceMethod objectInit ∈ px_G ∧ Cond.code objectInit ⟨#[0xb1]⟩ 1 none ∈ px_G := ⟨px_mem 254 (by decide +kernel) rfl, px_mem 34 (by decide +kernel) rfl, px_mem 35 (by decide +kernel) rfl⟩
set_option maxRecDepth 100000 in
theorem ml_X11_46 : px_ml RX11 46 yX4_init := Or.inr ⟨"LightSails", px_memN 306 (by decide +kernel) rfl⟩
set_option maxRecDepth 100000 in
theorem oi_X4_3 : Cond.methodLink RX4 3 objectInit ∈ px_G ∧ Cond.instanceMethod objectInit ∈ px_G ∧ Cond.code objectInit ⟨#[0xb1]⟩ 1 none ∈ px_G := ⟨px_mem 309 (by decide +kernel) rfl, px_mem 34 (by decide +kernel) rfl, px_mem 35 (by decide +kernel) rfl⟩
set_option maxRecDepth 100000 in
theorem ml_X11_53 : px_ml RX11 53 yX0_init := Or.inr ⟨"LightSails", px_memN 380 (by decide +kernel) rfl⟩
set_option maxRecDepth 100000 in
theorem oi_X0_1 : Cond.methodLink RX0 1 objectInit ∈ px_G ∧ Cond.instanceMethod objectInit ∈ px_G ∧ Cond.code objectInit ⟨#[0xb1]⟩ 1 none ∈ px_G := ⟨px_mem 383 (by decide +kernel) rfl, px_mem 34 (by decide +kernel) rfl, px_mem 35 (by decide +kernel) rfl⟩
set_option maxRecDepth 100000 in
theorem ml_X11_60 : px_ml RX11 60 yX7_init := Or.inr ⟨"LightSails", px_memN 409 (by decide +kernel) rfl⟩
set_option maxRecDepth 100000 in
theorem ml_L_159 : px_ml RL 159 yX11_layer := Or.inl (px_mem 435 (by decide +kernel) rfl)
set_option maxRecDepth 100000 in
theorem ml_X11_65 : px_ml RX11 65 yX11_within := Or.inl (px_mem 439 (by decide +kernel) rfl)
set_option maxRecDepth 100000 in
theorem ml_L_226 : px_ml RL 226 yX11_feed := Or.inl (px_mem 442 (by decide +kernel) rfl)
set_option maxRecDepth 100000 in
theorem ml_X11_220 : px_ml RX11 220 yX6_hasRoom := Or.inr ⟨"LightSails", px_memN 446 (by decide +kernel) rfl⟩
set_option maxRecDepth 100000 in
theorem ml_X11_224 : px_ml RX11 224 yX6_addNumber := Or.inr ⟨"LightSails", px_memN 450 (by decide +kernel) rfl⟩
set_option maxRecDepth 100000 in
theorem ml_L_233 : px_ml RL 233 yX11_fault := Or.inl (px_mem 454 (by decide +kernel) rfl)
set_option maxRecDepth 100000 in
theorem ml_L_237 : px_ml RL 237 yX11_asks := Or.inl (px_mem 458 (by decide +kernel) rfl)
set_option maxRecDepth 100000 in
theorem ml_X11_208 : px_ml RX11 208 yX8_strength := Or.inr ⟨"LightSails", px_memN 462 (by decide +kernel) rfl⟩
set_option maxRecDepth 100000 in
theorem ml_X8_72 : px_ml RX8 72 yX8_pushY := Or.inl (px_mem 466 (by decide +kernel) rfl)
set_option maxRecDepth 100000 in
theorem ml_X8_68 : px_ml RX8 68 yX5_pushY := Or.inr ⟨"LightSails", px_memN 470 (by decide +kernel) rfl⟩
set_option maxRecDepth 100000 in
theorem ml_X5_51 : px_ml RX5 51 yX5_slantFor := Or.inl (px_mem 475 (by decide +kernel) rfl)
set_option maxRecDepth 100000 in
theorem ml_X5_35 : px_ml RX5 35 yJ9_min_7cf53 := Or.inl (px_mem 479 (by decide +kernel) rfl)
set_option maxRecDepth 100000 in
theorem ml_X5_41 : px_ml RX5 41 yJ9_max_7cf53 := Or.inl (px_mem 482 (by decide +kernel) rfl)
set_option maxRecDepth 100000 in
theorem ml_X5_54 : px_ml RX5 54 yJ9_abs_0f7a4 := Or.inl (px_mem 487 (by decide +kernel) rfl)
set_option maxRecDepth 100000 in
theorem ml_X8_73 : px_ml RX8 73 yJ9_min_7cf53 := Or.inl (px_mem 494 (by decide +kernel) rfl)
set_option maxRecDepth 100000 in
theorem ml_X8_78 : px_ml RX8 78 yJ9_max_7cf53 := Or.inl (px_mem 495 (by decide +kernel) rfl)
set_option maxRecDepth 100000 in
theorem ml_X11_246 : px_ml RX11 246 yX9_firstRule := Or.inr ⟨"LightSails", px_memN 496 (by decide +kernel) rfl⟩
set_option maxRecDepth 100000 in
theorem ml_X9_47 : px_ml RX9 47 yX9_hasWorld := Or.inl (px_mem 500 (by decide +kernel) rfl)
set_option maxRecDepth 100000 in
theorem ml_X9_43 : px_ml RX9 43 yX11_within := Or.inr ⟨"LightSails", px_memN 504 (by decide +kernel) rfl⟩
set_option maxRecDepth 100000 in
theorem ml_X9_95 : px_ml RX9 95 yX10_angleOn := Or.inr ⟨"LightSails", px_memN 505 (by decide +kernel) rfl⟩
set_option maxRecDepth 100000 in
theorem ml_X9_98 : px_ml RX9 98 yJ9_floorMod_7cf53 := Or.inl (px_mem 510 (by decide +kernel) rfl)
set_option maxRecDepth 100000 in
theorem ml_X9_103 : px_ml RX9 103 yX11_stepsAt := Or.inr ⟨"LightSails", px_memN 513 (by decide +kernel) rfl⟩
set_option maxRecDepth 100000 in
theorem ml_X9_106 : px_ml RX9 106 yX8_tornPanels := Or.inr ⟨"LightSails", px_memN 516 (by decide +kernel) rfl⟩
set_option maxRecDepth 100000 in
theorem ml_X9_112 : px_ml RX9 112 yX7_firstHolding := Or.inr ⟨"LightSails", px_memN 520 (by decide +kernel) rfl⟩
set_option maxRecDepth 100000 in
theorem ml_X7_37 : px_ml RX7 37 yX7_holds := Or.inl (px_mem 524 (by decide +kernel) rfl)
set_option maxRecDepth 100000 in
theorem ml_X7_33 : px_ml RX7 33 yX11_within := Or.inr ⟨"LightSails", px_memN 528 (by decide +kernel) rfl⟩
set_option maxRecDepth 100000 in
theorem ml_X7_41 : px_ml RX7 41 yX7_work := Or.inl (px_mem 529 (by decide +kernel) rfl)
set_option maxRecDepth 100000 in
theorem ml_X7_45 : px_ml RX7 45 yJ9_min_7cf53 := Or.inl (px_mem 532 (by decide +kernel) rfl)
set_option maxRecDepth 100000 in
theorem ml_X7_51 : px_ml RX7 51 yJ9_max_7cf53 := Or.inl (px_mem 533 (by decide +kernel) rfl)
set_option maxRecDepth 100000 in
theorem ml_X11_250 : px_ml RX11 250 yX7_steerOf := Or.inr ⟨"LightSails", px_memN 534 (by decide +kernel) rfl⟩
set_option maxRecDepth 100000 in
theorem ml_L_276 : px_ml RL 276 yX11_hangs := Or.inl (px_mem 538 (by decide +kernel) rfl)
set_option maxRecDepth 100000 in
theorem ml_X11_300 : px_ml RX11 300 yX4_settle := Or.inr ⟨"LightSails", px_memN 542 (by decide +kernel) rfl⟩
set_option maxRecDepth 100000 in
theorem ml_X4_67 : px_ml RX4 67 yX4_balances := Or.inl (px_mem 546 (by decide +kernel) rfl)
set_option maxRecDepth 100000 in
theorem ml_X4_81 : px_ml RX4 81 yX4_fillTable := Or.inl (px_mem 550 (by decide +kernel) rfl)
set_option maxRecDepth 100000 in
theorem ml_X4_95 : px_ml RX4 95 yJ6_bitCount_0f7a4 := Or.inl (px_mem 554 (by decide +kernel) rfl)
set_option maxRecDepth 100000 in
theorem ml_X4_104 : px_ml RX4 104 yX4_fillRow := Or.inl (px_mem 560 (by decide +kernel) rfl)
set_option maxRecDepth 100000 in
theorem ml_X4_108 : px_ml RX4 108 yX4_wayOf := Or.inl (px_mem 564 (by decide +kernel) rfl)
set_option maxRecDepth 100000 in
theorem ml_X4_85 : px_ml RX4 85 yX4_eliminate := Or.inl (px_mem 568 (by decide +kernel) rfl)
set_option maxRecDepth 100000 in
theorem ml_X4_116 : px_ml RX4 116 yX4_clearEntry := Or.inl (px_mem 572 (by decide +kernel) rfl)
set_option maxRecDepth 100000 in
theorem ml_X4_89 : px_ml RX4 89 yX4_pullsOnly := Or.inl (px_mem 576 (by decide +kernel) rfl)
set_option maxRecDepth 100000 in
theorem ml_X4_70 : px_ml RX4 70 yX4_takeStand := Or.inl (px_mem 580 (by decide +kernel) rfl)
set_option maxRecDepth 100000 in
theorem ml_X4_119 : px_ml RX4 119 yJ9_abs_067f4 := Or.inl (px_mem 584 (by decide +kernel) rfl)
set_option maxRecDepth 100000 in
theorem ml_X4_74 : px_ml RX4 74 yX4_canGrow := Or.inl (px_mem 587 (by decide +kernel) rfl)
set_option maxRecDepth 100000 in
theorem ml_X4_78 : px_ml RX4 78 yX4_reduceEase := Or.inl (px_mem 591 (by decide +kernel) rfl)
set_option maxRecDepth 100000 in
theorem ml_L_290 : px_ml RL 290 yX11_cut := Or.inl (px_mem 595 (by decide +kernel) rfl)
set_option maxRecDepth 100000 in
theorem ml_X11_324 : px_ml RX11 324 yX4_cutAll := Or.inr ⟨"LightSails", px_memN 599 (by decide +kernel) rfl⟩
set_option maxRecDepth 100000 in
theorem ml_L_307 : px_ml RL 307 yX11_count := Or.inl (px_mem 603 (by decide +kernel) rfl)
set_option maxRecDepth 100000 in
theorem ml_X11_356 : px_ml RX11 356 yX11_stepsAt := Or.inl (px_mem 607 (by decide +kernel) rfl)
set_option maxRecDepth 100000 in
theorem ml_X11_359 : px_ml RX11 359 yX9_isGoalMet := Or.inr ⟨"LightSails", px_memN 608 (by decide +kernel) rfl⟩
set_option maxRecDepth 100000 in
theorem ml_X9_58 : px_ml RX9 58 yX10_aheadOn := Or.inr ⟨"LightSails", px_memN 612 (by decide +kernel) rfl⟩
set_option maxRecDepth 100000 in
theorem ml_X10_21 : px_ml RX10 21 yX10_angleOn := Or.inl (px_mem 616 (by decide +kernel) rfl)
set_option maxRecDepth 100000 in
theorem ml_X10_25 : px_ml RX10 25 yJ9_floorMod_7cf53 := Or.inl (px_mem 617 (by decide +kernel) rfl)
set_option maxRecDepth 100000 in
theorem ml_X9_62 : px_ml RX9 62 yX1_isMet := Or.inr ⟨"LightSails", px_memN 618 (by decide +kernel) rfl⟩
set_option maxRecDepth 100000 in
theorem ml_X1_37 : px_ml RX1 37 yJ9_abs_0f7a4 := Or.inl (px_mem 621 (by decide +kernel) rfl)
set_option maxRecDepth 100000 in
theorem ml_X11_371 : px_ml RX11 371 yJ6_bitCount_0f7a4 := Or.inl (px_mem 622 (by decide +kernel) rfl)
set_option maxRecDepth 100000 in
theorem ml_L_150 : px_ml RL 150 yL_strip := Or.inl (px_mem 623 (by decide +kernel) rfl)
set_option maxRecDepth 100000 in
theorem ml_L_7 : px_ml RL 7 yX11_strip := Or.inl (px_mem 627 (by decide +kernel) rfl)
set_option maxRecDepth 100000 in
theorem ml_X11_69 : px_ml RX11 69 yX11_needArgument := Or.inl (px_mem 631 (by decide +kernel) rfl)
set_option maxRecDepth 100000 in
theorem ml_X11_73 : px_ml RX11 73 yX2_tell := Or.inr ⟨"LightSails", px_memN 703 (by decide +kernel) rfl⟩
set_option maxRecDepth 100000 in
theorem ml_X2_37 : px_ml RX2 37 yX2_pileFrom := Or.inl (px_mem 707 (by decide +kernel) rfl)
set_option maxRecDepth 100000 in
theorem ml_X2_41 : px_ml RX2 41 yX2_takeTrial := Or.inl (px_mem 711 (by decide +kernel) rfl)
set_option maxRecDepth 100000 in
theorem ml_X2_44 : px_ml RX2 44 yX2_mayCome := Or.inl (px_mem 715 (by decide +kernel) rfl)
set_option maxRecDepth 100000 in
theorem ml_X2_59 : px_ml RX2 59 yX2_rises := Or.inl (px_mem 719 (by decide +kernel) rfl)
set_option maxRecDepth 100000 in
theorem ml_X2_48 : px_ml RX2 48 yX2_evenCrease := Or.inl (px_mem 723 (by decide +kernel) rfl)
set_option maxRecDepth 100000 in
theorem ml_X2_52 : px_ml RX2 52 yX2_sideWith := Or.inl (px_mem 726 (by decide +kernel) rfl)
set_option maxRecDepth 100000 in
theorem ml_X2_56 : px_ml RX2 56 yX2_oddCrease := Or.inl (px_mem 730 (by decide +kernel) rfl)
set_option maxRecDepth 100000 in
theorem ml_L_163 : px_ml RL 163 yL_lies := Or.inl (px_mem 733 (by decide +kernel) rfl)
set_option maxRecDepth 100000 in
theorem ml_L_15 : px_ml RL 15 yX11_lies := Or.inl (px_mem 737 (by decide +kernel) rfl)
set_option maxRecDepth 100000 in
theorem ml_X11_85 : px_ml RX11 85 yX11_needState := Or.inl (px_mem 741 (by decide +kernel) rfl)
set_option maxRecDepth 100000 in
theorem ml_X11_88 : px_ml RX11 88 yX2_isRowOfParts := Or.inr ⟨"LightSails", px_memN 760 (by decide +kernel) rfl⟩
set_option maxRecDepth 100000 in
theorem ml_X11_92 : px_ml RX11 92 yX2_liesSo := Or.inr ⟨"LightSails", px_memN 764 (by decide +kernel) rfl⟩
set_option maxRecDepth 100000 in
theorem ml_L_167 : px_ml RL 167 yL_clear := Or.inl (px_mem 768 (by decide +kernel) rfl)
set_option maxRecDepth 100000 in
theorem ml_L_21 : px_ml RL 21 yX11_clear := Or.inl (px_mem 772 (by decide +kernel) rfl)
set_option maxRecDepth 100000 in
theorem ml_X11_95 : px_ml RX11 95 yX11_needIndex := Or.inl (px_mem 776 (by decide +kernel) rfl)
set_option maxRecDepth 100000 in
theorem ml_X11_101 : px_ml RX11 101 yX2_isOpen := Or.inr ⟨"LightSails", px_memN 795 (by decide +kernel) rfl⟩
set_option maxRecDepth 100000 in
theorem ml_X11_105 : px_ml RX11 105 yX2_isClear := Or.inr ⟨"LightSails", px_memN 799 (by decide +kernel) rfl⟩
set_option maxRecDepth 100000 in
theorem ml_X2_63 : px_ml RX2 63 yX2_isOpen := Or.inl (px_mem 803 (by decide +kernel) rfl)
set_option maxRecDepth 100000 in
theorem ml_X2_66 : px_ml RX2 66 yX2_isAbove := Or.inl (px_mem 804 (by decide +kernel) rfl)
set_option maxRecDepth 100000 in
theorem ml_X2_70 : px_ml RX2 70 yJ9_min_7cf53 := Or.inl (px_mem 808 (by decide +kernel) rfl)
set_option maxRecDepth 100000 in
theorem ml_X2_76 : px_ml RX2 76 yJ9_max_7cf53 := Or.inl (px_mem 809 (by decide +kernel) rfl)
set_option maxRecDepth 100000 in
theorem ml_L_170 : px_ml RL 170 yL_open := Or.inl (px_mem 810 (by decide +kernel) rfl)
set_option maxRecDepth 100000 in
theorem ml_L_26 : px_ml RL 26 yX11_open := Or.inl (px_mem 813 (by decide +kernel) rfl)
set_option maxRecDepth 100000 in
theorem ml_X11_108 : px_ml RX11 108 yX2_tryOpening := Or.inr ⟨"LightSails", px_memN 817 (by decide +kernel) rfl⟩
set_option maxRecDepth 100000 in
theorem ml_X2_79 : px_ml RX2 79 yX2_isClear := Or.inl (px_mem 821 (by decide +kernel) rfl)
set_option maxRecDepth 100000 in
theorem ml_L_173 : px_ml RL 173 yL_orders := Or.inl (px_mem 822 (by decide +kernel) rfl)
set_option maxRecDepth 100000 in
theorem ml_L_30 : px_ml RL 30 yX11_orders := Or.inl (px_mem 825 (by decide +kernel) rfl)
set_option maxRecDepth 100000 in
theorem ml_X11_112 : px_ml RX11 112 yX2_countOrders := Or.inr ⟨"LightSails", px_memN 829 (by decide +kernel) rfl⟩
set_option maxRecDepth 100000 in
theorem ml_X2_82 : px_ml RX2 82 yX2_mayOpen := Or.inl (px_mem 833 (by decide +kernel) rfl)
set_option maxRecDepth 100000 in
theorem ml_L_177 : px_ml RL 177 yL_safe := Or.inl (px_mem 837 (by decide +kernel) rfl)
set_option maxRecDepth 100000 in
theorem ml_L_34 : px_ml RL 34 yX11_safe := Or.inl (px_mem 840 (by decide +kernel) rfl)
set_option maxRecDepth 100000 in
theorem ml_X11_116 : px_ml RX11 116 yX2_creaseOfFirstOrder := Or.inr ⟨"LightSails", px_memN 844 (by decide +kernel) rfl⟩
set_option maxRecDepth 100000 in
theorem ml_X2_85 : px_ml RX2 85 yJ6_bitCount_0f7a4 := Or.inl (px_mem 848 (by decide +kernel) rfl)
set_option maxRecDepth 100000 in
theorem ml_X2_90 : px_ml RX2 90 yX2_countOrders := Or.inl (px_mem 849 (by decide +kernel) rfl)
set_option maxRecDepth 100000 in
theorem ml_X2_94 : px_ml RX2 94 yX2_firstSafe := Or.inl (px_mem 850 (by decide +kernel) rfl)
set_option maxRecDepth 100000 in
theorem ml_L_180 : px_ml RL 180 yL_panel := Or.inl (px_mem 854 (by decide +kernel) rfl)
set_option maxRecDepth 100000 in
theorem ml_L_37 : px_ml RL 37 yX11_panel := Or.inl (px_mem 857 (by decide +kernel) rfl)
set_option maxRecDepth 100000 in
theorem ml_X11_119 : px_ml RX11 119 yX11_isSpot := Or.inl (px_mem 861 (by decide +kernel) rfl)
set_option maxRecDepth 100000 in
theorem ml_X11_122 : px_ml RX11 122 yX11_isCoat := Or.inl (px_mem 864 (by decide +kernel) rfl)
set_option maxRecDepth 100000 in
theorem ml_X11_125 : px_ml RX11 125 yX8_addPanel := Or.inr ⟨"LightSails", px_memN 867 (by decide +kernel) rfl⟩
set_option maxRecDepth 100000 in
theorem ml_X8_40 : px_ml RX8 40 yX5_init := Or.inr ⟨"LightSails", px_memN 871 (by decide +kernel) rfl⟩
set_option maxRecDepth 100000 in
theorem oi_X5_1 : Cond.methodLink RX5 1 objectInit ∈ px_G ∧ Cond.instanceMethod objectInit ∈ px_G ∧ Cond.code objectInit ⟨#[0xb1]⟩ 1 none ∈ px_G := ⟨px_mem 874 (by decide +kernel) rfl, px_mem 34 (by decide +kernel) rfl, px_mem 35 (by decide +kernel) rfl⟩
set_option maxRecDepth 100000 in
theorem ml_L_184 : px_ml RL 184 yL_of := Or.inl (px_mem 919 (by decide +kernel) rfl)
set_option maxRecDepth 100000 in
theorem ml_L_41 : px_ml RL 41 yX11_of := Or.inl (px_mem 923 (by decide +kernel) rfl)
set_option maxRecDepth 100000 in
theorem ml_X11_129 : px_ml RX11 129 yX8_hasPanel := Or.inr ⟨"LightSails", px_memN 927 (by decide +kernel) rfl⟩
set_option maxRecDepth 100000 in
theorem ml_X8_43 : px_ml RX8 43 yX11_within := Or.inr ⟨"LightSails", px_memN 931 (by decide +kernel) rfl⟩
set_option maxRecDepth 100000 in
theorem ml_X11_132 : px_ml RX11 132 yX11_needElement := Or.inl (px_mem 932 (by decide +kernel) rfl)
set_option maxRecDepth 100000 in
theorem ml_X11_139 : px_ml RX11 139 yX5_fact := Or.inr ⟨"LightSails", px_memN 951 (by decide +kernel) rfl⟩
set_option maxRecDepth 100000 in
theorem ml_L_187 : px_ml RL 187 yL_tear := Or.inl (px_mem 955 (by decide +kernel) rfl)
set_option maxRecDepth 100000 in
theorem ml_L_46 : px_ml RL 46 yX11_tear := Or.inl (px_mem 958 (by decide +kernel) rfl)
set_option maxRecDepth 100000 in
theorem ml_L_190 : px_ml RL 190 yL_flap := Or.inl (px_mem 962 (by decide +kernel) rfl)
set_option maxRecDepth 100000 in
theorem ml_L_49 : px_ml RL 49 yX11_flap := Or.inl (px_mem 965 (by decide +kernel) rfl)
set_option maxRecDepth 100000 in
theorem ml_X11_148 : px_ml RX11 148 yX8_makeFlap := Or.inr ⟨"LightSails", px_memN 969 (by decide +kernel) rfl⟩
set_option maxRecDepth 100000 in
theorem ml_L_193 : px_ml RL 193 yL_bend := Or.inl (px_mem 973 (by decide +kernel) rfl)
set_option maxRecDepth 100000 in
theorem ml_L_52 : px_ml RL 52 yX11_bend := Or.inl (px_mem 976 (by decide +kernel) rfl)
set_option maxRecDepth 100000 in
theorem ml_X11_151 : px_ml RX11 151 yX8_hasFlap := Or.inr ⟨"LightSails", px_memN 980 (by decide +kernel) rfl⟩
set_option maxRecDepth 100000 in
theorem ml_L_196 : px_ml RL 196 yL_stuck := Or.inl (px_mem 984 (by decide +kernel) rfl)
set_option maxRecDepth 100000 in
theorem ml_L_55 : px_ml RL 55 yX11_stuck := Or.inl (px_mem 987 (by decide +kernel) rfl)
set_option maxRecDepth 100000 in
theorem ml_L_200 : px_ml RL 200 yL_weights := Or.inl (px_mem 991 (by decide +kernel) rfl)
set_option maxRecDepth 100000 in
theorem ml_L_59 : px_ml RL 59 yX11_weights := Or.inl (px_mem 994 (by decide +kernel) rfl)
set_option maxRecDepth 100000 in
theorem ml_L_204 : px_ml RL 204 yL_push := Or.inl (px_mem 998 (by decide +kernel) rfl)
set_option maxRecDepth 100000 in
theorem ml_L_63 : px_ml RL 63 yX11_push := Or.inl (px_mem 1001 (by decide +kernel) rfl)
set_option maxRecDepth 100000 in
theorem ml_X11_169 : px_ml RX11 169 yX11_isSlant := Or.inl (px_mem 1005 (by decide +kernel) rfl)
set_option maxRecDepth 100000 in
theorem ml_X11_172 : px_ml RX11 172 yX8_pushX := Or.inr ⟨"LightSails", px_memN 1008 (by decide +kernel) rfl⟩
set_option maxRecDepth 100000 in
theorem ml_X8_54 : px_ml RX8 54 yX8_pushXFrom := Or.inl (px_mem 1012 (by decide +kernel) rfl)
set_option maxRecDepth 100000 in
theorem ml_X8_64 : px_ml RX8 64 yX5_pushX := Or.inr ⟨"LightSails", px_memN 1016 (by decide +kernel) rfl⟩
set_option maxRecDepth 100000 in
theorem ml_X11_175 : px_ml RX11 175 yX8_pushY := Or.inr ⟨"LightSails", px_memN 1021 (by decide +kernel) rfl⟩
set_option maxRecDepth 100000 in
theorem ml_L_207 : px_ml RL 207 yL_turn := Or.inl (px_mem 1022 (by decide +kernel) rfl)
set_option maxRecDepth 100000 in
theorem ml_L_66 : px_ml RL 66 yX11_turn := Or.inl (px_mem 1025 (by decide +kernel) rfl)
set_option maxRecDepth 100000 in
theorem ml_X11_178 : px_ml RX11 178 yX8_turnBy := Or.inr ⟨"LightSails", px_memN 1029 (by decide +kernel) rfl⟩
set_option maxRecDepth 100000 in
theorem ml_X8_96 : px_ml RX8 96 yX5_press := Or.inr ⟨"LightSails", px_memN 1033 (by decide +kernel) rfl⟩
set_option maxRecDepth 100000 in
theorem ml_X8_99 : px_ml RX8 99 yX8_arm := Or.inl (px_mem 1037 (by decide +kernel) rfl)
set_option maxRecDepth 100000 in
theorem ml_L_210 : px_ml RL 210 yL_trim := Or.inl (px_mem 1041 (by decide +kernel) rfl)
set_option maxRecDepth 100000 in
theorem ml_L_69 : px_ml RL 69 yX11_trim := Or.inl (px_mem 1044 (by decide +kernel) rfl)
set_option maxRecDepth 100000 in
theorem ml_X11_184 : px_ml RX11 184 yX8_findTrim := Or.inr ⟨"LightSails", px_memN 1048 (by decide +kernel) rfl⟩
set_option maxRecDepth 100000 in
theorem ml_X8_106 : px_ml RX8 106 yX8_sumUpRest := Or.inl (px_mem 1052 (by decide +kernel) rfl)
set_option maxRecDepth 100000 in
theorem ml_X8_110 : px_ml RX8 110 yX8_tableFlaps := Or.inl (px_mem 1056 (by decide +kernel) rfl)
set_option maxRecDepth 100000 in
theorem ml_X8_116 : px_ml RX8 116 yX8_turnWithFlaps := Or.inl (px_mem 1060 (by decide +kernel) rfl)
set_option maxRecDepth 100000 in
theorem ml_X8_119 : px_ml RX8 119 yJ9_abs_0f7a4 := Or.inl (px_mem 1064 (by decide +kernel) rfl)
set_option maxRecDepth 100000 in
theorem ml_X8_131 : px_ml RX8 131 yX11_nextRow := Or.inr ⟨"LightSails", px_memN 1068 (by decide +kernel) rfl⟩
set_option maxRecDepth 100000 in
theorem ml_L_213 : px_ml RL 213 yL_world := Or.inl (px_mem 1071 (by decide +kernel) rfl)
set_option maxRecDepth 100000 in
theorem ml_L_72 : px_ml RL 72 yX11_world := Or.inl (px_mem 1074 (by decide +kernel) rfl)
set_option maxRecDepth 100000 in
theorem ml_X11_190 : px_ml RX11 190 yX9_addWorld := Or.inr ⟨"LightSails", px_memN 1078 (by decide +kernel) rfl⟩
set_option maxRecDepth 100000 in
theorem ml_X9_40 : px_ml RX9 40 yX10_init := Or.inr ⟨"LightSails", px_memN 1082 (by decide +kernel) rfl⟩
set_option maxRecDepth 100000 in
theorem oi_X10_1 : Cond.methodLink RX10 1 objectInit ∈ px_G ∧ Cond.instanceMethod objectInit ∈ px_G ∧ Cond.code objectInit ⟨#[0xb1]⟩ 1 none ∈ px_G := ⟨px_mem 1085 (by decide +kernel) rfl, px_mem 34 (by decide +kernel) rfl, px_mem 35 (by decide +kernel) rfl⟩
set_option maxRecDepth 100000 in
theorem ml_L_217 : px_ml RL 217 yL_angle := Or.inl (px_mem 1100 (by decide +kernel) rfl)
set_option maxRecDepth 100000 in
theorem ml_L_76 : px_ml RL 76 yX11_angle := Or.inl (px_mem 1103 (by decide +kernel) rfl)
set_option maxRecDepth 100000 in
theorem ml_X11_194 : px_ml RX11 194 yX9_hasWorld := Or.inr ⟨"LightSails", px_memN 1107 (by decide +kernel) rfl⟩
set_option maxRecDepth 100000 in
theorem ml_X11_201 : px_ml RX11 201 yX10_angleOn := Or.inr ⟨"LightSails", px_memN 1108 (by decide +kernel) rfl⟩
set_option maxRecDepth 100000 in
theorem ml_L_220 : px_ml RL 220 yL_least := Or.inl (px_mem 1109 (by decide +kernel) rfl)
set_option maxRecDepth 100000 in
theorem ml_L_79 : px_ml RL 79 yX11_least := Or.inl (px_mem 1112 (by decide +kernel) rfl)
set_option maxRecDepth 100000 in
theorem ml_X11_211 : px_ml RX11 211 yX9_fewestDays := Or.inr ⟨"LightSails", px_memN 1116 (by decide +kernel) rfl⟩
set_option maxRecDepth 100000 in
theorem ml_X9_68 : px_ml RX9 68 yX11_turnOfDay := Or.inr ⟨"LightSails", px_memN 1120 (by decide +kernel) rfl⟩
set_option maxRecDepth 100000 in
theorem ml_X9_72 : px_ml RX9 72 yX10_chartFor := Or.inr ⟨"LightSails", px_memN 1123 (by decide +kernel) rfl⟩
set_option maxRecDepth 100000 in
theorem ml_X10_37 : px_ml RX10 37 yX1_init := Or.inr ⟨"LightSails", px_memN 1129 (by decide +kernel) rfl⟩
set_option maxRecDepth 100000 in
theorem oi_X1_7 : Cond.methodLink RX1 7 objectInit ∈ px_G ∧ Cond.instanceMethod objectInit ∈ px_G ∧ Cond.code objectInit ⟨#[0xb1]⟩ 1 none ∈ px_G := ⟨px_mem 1132 (by decide +kernel) rfl, px_mem 34 (by decide +kernel) rfl, px_mem 35 (by decide +kernel) rfl⟩
set_option maxRecDepth 100000 in
theorem ml_X1_24 : px_ml RX1 24 yJ9_max_7cf53 := Or.inl (px_mem 1133 (by decide +kernel) rfl)
set_option maxRecDepth 100000 in
theorem ml_X1_30 : px_ml RX1 30 yJ9_min_7cf53 := Or.inl (px_mem 1134 (by decide +kernel) rfl)
set_option maxRecDepth 100000 in
theorem ml_X10_40 : px_ml RX10 40 yX1_fitTo := Or.inr ⟨"LightSails", px_memN 1150 (by decide +kernel) rfl⟩
set_option maxRecDepth 100000 in
theorem ml_X9_76 : px_ml RX9 76 yX1_fewestFrom := Or.inr ⟨"LightSails", px_memN 1154 (by decide +kernel) rfl⟩
set_option maxRecDepth 100000 in
theorem ml_X1_44 : px_ml RX1 44 yX1_isIn := Or.inl (px_mem 1158 (by decide +kernel) rfl)
set_option maxRecDepth 100000 in
theorem ml_X1_61 : px_ml RX1 61 yX11_within := Or.inr ⟨"LightSails", px_memN 1162 (by decide +kernel) rfl⟩
set_option maxRecDepth 100000 in
theorem ml_X1_64 : px_ml RX1 64 yX1_workLayer := Or.inl (px_mem 1163 (by decide +kernel) rfl)
set_option maxRecDepth 100000 in
theorem ml_X1_68 : px_ml RX1 68 yX11_stepsAt := Or.inr ⟨"LightSails", px_memN 1167 (by decide +kernel) rfl⟩
set_option maxRecDepth 100000 in
theorem ml_X1_55 : px_ml RX1 55 yX11_turnOfDay := Or.inr ⟨"LightSails", px_memN 1168 (by decide +kernel) rfl⟩
set_option maxRecDepth 100000 in
theorem ml_X1_58 : px_ml RX1 58 yJ9_floorMod_7cf53 := Or.inl (px_mem 1169 (by decide +kernel) rfl)
set_option maxRecDepth 100000 in
theorem ml_X1_71 : px_ml RX1 71 yX1_storeTurned := Or.inl (px_mem 1170 (by decide +kernel) rfl)
set_option maxRecDepth 100000 in
theorem ml_X11_214 : px_ml RX11 214 yX9_steerOfFirstWay := Or.inr ⟨"LightSails", px_memN 1175 (by decide +kernel) rfl⟩
set_option maxRecDepth 100000 in
theorem ml_X9_79 : px_ml RX9 79 yX9_fewestDays := Or.inl (px_mem 1179 (by decide +kernel) rfl)
set_option maxRecDepth 100000 in
theorem ml_X9_83 : px_ml RX9 83 yX1_firstSteer := Or.inr ⟨"LightSails", px_memN 1180 (by decide +kernel) rfl⟩
set_option maxRecDepth 100000 in
theorem ml_X1_48 : px_ml RX1 48 yX1_aheadBehind := Or.inl (px_mem 1184 (by decide +kernel) rfl)
set_option maxRecDepth 100000 in
theorem ml_X1_51 : px_ml RX1 51 yX11_rhoBehind := Or.inr ⟨"LightSails", px_memN 1188 (by decide +kernel) rfl⟩
set_option maxRecDepth 100000 in
theorem ml_X9_86 : px_ml RX9 86 yX1_aheadBehind := Or.inr ⟨"LightSails", px_memN 1191 (by decide +kernel) rfl⟩
set_option maxRecDepth 100000 in
theorem ml_X9_89 : px_ml RX9 89 yX11_rhoBehind := Or.inr ⟨"LightSails", px_memN 1192 (by decide +kernel) rfl⟩
set_option maxRecDepth 100000 in
theorem ml_L_223 : px_ml RL 223 yL_goal := Or.inl (px_mem 1193 (by decide +kernel) rfl)
set_option maxRecDepth 100000 in
theorem ml_L_82 : px_ml RL 82 yX11_goal := Or.inl (px_mem 1196 (by decide +kernel) rfl)
set_option maxRecDepth 100000 in
theorem ml_L_230 : px_ml RL 230 yL_rules := Or.inl (px_mem 1200 (by decide +kernel) rfl)
set_option maxRecDepth 100000 in
theorem ml_L_85 : px_ml RL 85 yX11_rules := Or.inl (px_mem 1203 (by decide +kernel) rfl)
set_option maxRecDepth 100000 in
theorem ml_X11_231 : px_ml RX11 231 yX6_readTape := Or.inr ⟨"LightSails", px_memN 1207 (by decide +kernel) rfl⟩
set_option maxRecDepth 100000 in
theorem ml_X6_29 : px_ml RX6 29 yJ9_min_7cf53 := Or.inl (px_mem 1211 (by decide +kernel) rfl)
set_option maxRecDepth 100000 in
theorem ml_X6_38 : px_ml RX6 38 yX7_forget := Or.inr ⟨"LightSails", px_memN 1212 (by decide +kernel) rfl⟩
set_option maxRecDepth 100000 in
theorem ml_X6_50 : px_ml RX6 50 yX6_scan := Or.inl (px_mem 1216 (by decide +kernel) rfl)
set_option maxRecDepth 100000 in
theorem ml_X6_115 : px_ml RX6 115 yX6_scanWord := Or.inl (px_mem 1220 (by decide +kernel) rfl)
set_option maxRecDepth 100000 in
theorem ml_X6_123 : px_ml RX6 123 yJ0_charAt_5068e := Or.inl (px_mem 1225 (by decide +kernel) rfl)
set_option maxRecDepth 100000 in
theorem ml_J0_492 : px_ml RJ0 492 yJ0_isLatin1_aae02 := Or.inl (px_mem 1229 (by decide +kernel) rfl)
set_option maxRecDepth 100000 in
theorem ml_J0_495 : px_ml RJ0 495 yJ1_charAt_3b067 := Or.inl (px_mem 1235 (by decide +kernel) rfl)
set_option maxRecDepth 100000 in
theorem ml_J1_9 : px_ml RJ1 9 yJ0_checkIndex_df160 := Or.inl (px_mem 1238 (by decide +kernel) rfl)
set_option maxRecDepth 100000 in
theorem ml_J0_1059 : px_ml RJ0 1059 yJ3_checkIndex_8e157 := Or.inl (px_mem 1243 (by decide +kernel) rfl)
set_option maxRecDepth 100000 in
theorem ml_J0_498 : px_ml RJ0 498 yJ2_charAt_3b067 := Or.inl (px_mem 1246 (by decide +kernel) rfl)
set_option maxRecDepth 100000 in
theorem ml_J2_67 : px_ml RJ2 67 yJ2_checkIndex_2214a := Or.inl (px_mem 1249 (by decide +kernel) rfl)
set_option maxRecDepth 100000 in
theorem ml_J2_48 : px_ml RJ2 48 yJ2_length_9d52b := Or.inl (px_mem 1252 (by decide +kernel) rfl)
set_option maxRecDepth 100000 in
theorem ml_J2_414 : px_ml RJ2 414 yJ0_checkIndex_df160 := Or.inl (px_mem 1255 (by decide +kernel) rfl)
set_option maxRecDepth 100000 in
theorem ml_J2_71 : px_ml RJ2 71 yJ2_getChar_3b067 := Or.inl (px_mem 1256 (by decide +kernel) rfl)
set_option maxRecDepth 100000 in
theorem ml_X6_118 : px_ml RX6 118 yX6_scanNumber := Or.inl (px_mem 1265 (by decide +kernel) rfl)
set_option maxRecDepth 100000 in
theorem ml_X6_53 : px_ml RX6 53 yX6_goesOn := Or.inl (px_mem 1269 (by decide +kernel) rfl)
set_option maxRecDepth 100000 in
theorem ml_X6_60 : px_ml RX6 60 yX6_readRule := Or.inl (px_mem 1273 (by decide +kernel) rfl)
set_option maxRecDepth 100000 in
theorem ml_X6_66 : px_ml RX6 66 yX6_refuse := Or.inl (px_mem 1277 (by decide +kernel) rfl)
set_option maxRecDepth 100000 in
theorem ml_X6_73 : px_ml RX6 73 yX6_demand := Or.inl (px_mem 1281 (by decide +kernel) rfl)
set_option maxRecDepth 100000 in
theorem ml_X6_76 : px_ml RX6 76 yX6_readChoice := Or.inl (px_mem 1285 (by decide +kernel) rfl)
set_option maxRecDepth 100000 in
theorem ml_X6_82 : px_ml RX6 82 yX6_readBoth := Or.inl (px_mem 1289 (by decide +kernel) rfl)
set_option maxRecDepth 100000 in
theorem ml_X6_88 : px_ml RX6 88 yX6_readTest := Or.inl (px_mem 1293 (by decide +kernel) rfl)
set_option maxRecDepth 100000 in
theorem ml_X6_91 : px_ml RX6 91 yX6_enter := Or.inl (px_mem 1297 (by decide +kernel) rfl)
set_option maxRecDepth 100000 in
theorem ml_X6_85 : px_ml RX6 85 yX7_add := Or.inr ⟨"LightSails", px_memN 1301 (by decide +kernel) rfl⟩
set_option maxRecDepth 100000 in
theorem ml_X6_94 : px_ml RX6 94 yX6_readSum := Or.inl (px_mem 1305 (by decide +kernel) rfl)
set_option maxRecDepth 100000 in
theorem ml_X6_100 : px_ml RX6 100 yX6_readProduct := Or.inl (px_mem 1309 (by decide +kernel) rfl)
set_option maxRecDepth 100000 in
theorem ml_X6_103 : px_ml RX6 103 yX6_readUnit := Or.inl (px_mem 1313 (by decide +kernel) rfl)
set_option maxRecDepth 100000 in
theorem ml_X6_106 : px_ml RX6 106 yX6_readNumber := Or.inl (px_mem 1317 (by decide +kernel) rfl)
set_option maxRecDepth 100000 in
theorem ml_X6_109 : px_ml RX6 109 yX6_readPair := Or.inl (px_mem 1321 (by decide +kernel) rfl)
set_option maxRecDepth 100000 in
theorem ml_X6_97 : px_ml RX6 97 yX6_demandComparing := Or.inl (px_mem 1325 (by decide +kernel) rfl)
set_option maxRecDepth 100000 in
theorem ml_X6_79 : px_ml RX6 79 yX7_endRule := Or.inr ⟨"LightSails", px_memN 1329 (by decide +kernel) rfl⟩
set_option maxRecDepth 100000 in
theorem ml_L_241 : px_ml RL 241 yL_dust := Or.inl (px_mem 1333 (by decide +kernel) rfl)
set_option maxRecDepth 100000 in
theorem ml_L_88 : px_ml RL 88 yX11_dust := Or.inl (px_mem 1336 (by decide +kernel) rfl)
set_option maxRecDepth 100000 in
theorem ml_X11_256 : px_ml RX11 256 yX9_addDust := Or.inr ⟨"LightSails", px_memN 1340 (by decide +kernel) rfl⟩
set_option maxRecDepth 100000 in
theorem ml_L_244 : px_ml RL 244 yL_fly := Or.inl (px_mem 1344 (by decide +kernel) rfl)
set_option maxRecDepth 100000 in
theorem ml_L_91 : px_ml RL 91 yX11_fly := Or.inl (px_mem 1347 (by decide +kernel) rfl)
set_option maxRecDepth 100000 in
theorem ml_X11_259 : px_ml RX11 259 yX9_flyFor := Or.inr ⟨"LightSails", px_memN 1351 (by decide +kernel) rfl⟩
set_option maxRecDepth 100000 in
theorem ml_X9_118 : px_ml RX9 118 yX9_flyDay := Or.inl (px_mem 1355 (by decide +kernel) rfl)
set_option maxRecDepth 100000 in
theorem ml_X9_126 : px_ml RX9 126 yX8_strength := Or.inr ⟨"LightSails", px_memN 1359 (by decide +kernel) rfl⟩
set_option maxRecDepth 100000 in
theorem ml_X9_129 : px_ml RX9 129 yX9_firstRule := Or.inl (px_mem 1360 (by decide +kernel) rfl)
set_option maxRecDepth 100000 in
theorem ml_X9_133 : px_ml RX9 133 yX7_steerOf := Or.inr ⟨"LightSails", px_memN 1361 (by decide +kernel) rfl⟩
set_option maxRecDepth 100000 in
theorem ml_X9_136 : px_ml RX9 136 yX9_tearByDust := Or.inl (px_mem 1362 (by decide +kernel) rfl)
set_option maxRecDepth 100000 in
theorem ml_X9_161 : px_ml RX9 161 yX8_hasPanel := Or.inr ⟨"LightSails", px_memN 1366 (by decide +kernel) rfl⟩
set_option maxRecDepth 100000 in
theorem ml_X9_153 : px_ml RX9 153 yX5_live := Or.inr ⟨"LightSails", px_memN 1367 (by decide +kernel) rfl⟩
set_option maxRecDepth 100000 in
theorem ml_X9_157 : px_ml RX9 157 yX9_takeNote := Or.inl (px_mem 1371 (by decide +kernel) rfl)
set_option maxRecDepth 100000 in
theorem ml_X9_122 : px_ml RX9 122 yX9_isGoalMet := Or.inl (px_mem 1375 (by decide +kernel) rfl)
set_option maxRecDepth 100000 in
theorem ml_L_247 : px_ml RL 247 yL_note := Or.inl (px_mem 1376 (by decide +kernel) rfl)
set_option maxRecDepth 100000 in
theorem ml_L_94 : px_ml RL 94 yX11_note := Or.inl (px_mem 1379 (by decide +kernel) rfl)
set_option maxRecDepth 100000 in
theorem ml_X11_263 : px_ml RX11 263 yX9_noteOf := Or.inr ⟨"LightSails", px_memN 1383 (by decide +kernel) rfl⟩
set_option maxRecDepth 100000 in
theorem ml_X9_164 : px_ml RX9 164 yJ9_max_7cf53 := Or.inl (px_mem 1387 (by decide +kernel) rfl)
set_option maxRecDepth 100000 in
theorem ml_L_250 : px_ml RL 250 yL_coat := Or.inl (px_mem 1388 (by decide +kernel) rfl)
set_option maxRecDepth 100000 in
theorem ml_L_97 : px_ml RL 97 yX11_coat := Or.inl (px_mem 1391 (by decide +kernel) rfl)
set_option maxRecDepth 100000 in
theorem ml_X11_266 : px_ml RX11 266 yX3_addCoat := Or.inr ⟨"LightSails", px_memN 1395 (by decide +kernel) rfl⟩
set_option maxRecDepth 100000 in
theorem ml_L_253 : px_ml RL 253 yL_sight := Or.inl (px_mem 1399 (by decide +kernel) rfl)
set_option maxRecDepth 100000 in
theorem ml_L_100 : px_ml RL 100 yX11_sight := Or.inl (px_mem 1402 (by decide +kernel) rfl)
set_option maxRecDepth 100000 in
theorem ml_X11_270 : px_ml RX11 270 yX3_addSight := Or.inr ⟨"LightSails", px_memN 1407 (by decide +kernel) rfl⟩
set_option maxRecDepth 100000 in
theorem ml_L_256 : px_ml RL 256 yL_fits := Or.inl (px_mem 1411 (by decide +kernel) rfl)
set_option maxRecDepth 100000 in
theorem ml_L_103 : px_ml RL 103 yX11_fits := Or.inl (px_mem 1414 (by decide +kernel) rfl)
set_option maxRecDepth 100000 in
theorem ml_X11_273 : px_ml RX11 273 yX11_isFitLength := Or.inl (px_mem 1418 (by decide +kernel) rfl)
set_option maxRecDepth 100000 in
theorem ml_X11_276 : px_ml RX11 276 yX3_findFits := Or.inr ⟨"LightSails", px_memN 1422 (by decide +kernel) rfl⟩
set_option maxRecDepth 100000 in
theorem ml_X3_61 : px_ml RX3 61 yX3_tableShares := Or.inl (px_mem 1426 (by decide +kernel) rfl)
set_option maxRecDepth 100000 in
theorem ml_X3_77 : px_ml RX3 77 yX8_pushXFrom := Or.inr ⟨"LightSails", px_memN 1430 (by decide +kernel) rfl⟩
set_option maxRecDepth 100000 in
theorem ml_X3_83 : px_ml RX3 83 yX3_shareAt := Or.inl (px_mem 1431 (by decide +kernel) rfl)
set_option maxRecDepth 100000 in
theorem ml_X3_91 : px_ml RX3 91 yX5_pushX := Or.inr ⟨"LightSails", px_memN 1434 (by decide +kernel) rfl⟩
set_option maxRecDepth 100000 in
theorem ml_X3_65 : px_ml RX3 65 yX3_packedRow := Or.inl (px_mem 1435 (by decide +kernel) rfl)
set_option maxRecDepth 100000 in
theorem ml_X3_69 : px_ml RX3 69 yX3_holdsAll := Or.inl (px_mem 1439 (by decide +kernel) rfl)
set_option maxRecDepth 100000 in
theorem ml_X3_101 : px_ml RX3 101 yX3_hiddenPush := Or.inl (px_mem 1443 (by decide +kernel) rfl)
set_option maxRecDepth 100000 in
theorem ml_X3_98 : px_ml RX3 98 yX3_coatIn := Or.inl (px_mem 1447 (by decide +kernel) rfl)
set_option maxRecDepth 100000 in
theorem ml_X3_104 : px_ml RX3 104 yJ9_abs_0f7a4 := Or.inl (px_mem 1450 (by decide +kernel) rfl)
set_option maxRecDepth 100000 in
theorem ml_X3_73 : px_ml RX3 73 yX11_nextRow := Or.inr ⟨"LightSails", px_memN 1451 (by decide +kernel) rfl⟩
set_option maxRecDepth 100000 in
theorem ml_L_259 : px_ml RL 259 yL_fit := Or.inl (px_mem 1452 (by decide +kernel) rfl)
set_option maxRecDepth 100000 in
theorem ml_L_106 : px_ml RL 106 yX11_fit := Or.inl (px_mem 1455 (by decide +kernel) rfl)
set_option maxRecDepth 100000 in
theorem ml_X11_280 : px_ml RX11 280 yX3_coatOf := Or.inr ⟨"LightSails", px_memN 1459 (by decide +kernel) rfl⟩
set_option maxRecDepth 100000 in
theorem ml_X3_94 : px_ml RX3 94 yX11_within := Or.inr ⟨"LightSails", px_memN 1463 (by decide +kernel) rfl⟩
set_option maxRecDepth 100000 in
theorem ml_L_262 : px_ml RL 262 yL_shows := Or.inl (px_mem 1464 (by decide +kernel) rfl)
set_option maxRecDepth 100000 in
theorem ml_L_109 : px_ml RL 109 yX11_shows := Or.inl (px_mem 1467 (by decide +kernel) rfl)
set_option maxRecDepth 100000 in
theorem ml_X11_283 : px_ml RX11 283 yX3_bestSlant := Or.inr ⟨"LightSails", px_memN 1471 (by decide +kernel) rfl⟩
set_option maxRecDepth 100000 in
theorem ml_X3_109 : px_ml RX3 109 yX3_unlikePushes := Or.inl (px_mem 1475 (by decide +kernel) rfl)
set_option maxRecDepth 100000 in
theorem ml_L_265 : px_ml RL 265 yL_knot := Or.inl (px_mem 1479 (by decide +kernel) rfl)
set_option maxRecDepth 100000 in
theorem ml_L_112 : px_ml RL 112 yX11_knot := Or.inl (px_mem 1482 (by decide +kernel) rfl)
set_option maxRecDepth 100000 in
theorem ml_X11_286 : px_ml RX11 286 yX4_addKnot := Or.inr ⟨"LightSails", px_memN 1486 (by decide +kernel) rfl⟩
set_option maxRecDepth 100000 in
theorem ml_L_269 : px_ml RL 269 yL_pull := Or.inl (px_mem 1490 (by decide +kernel) rfl)
set_option maxRecDepth 100000 in
theorem ml_L_116 : px_ml RL 116 yX11_pull := Or.inl (px_mem 1493 (by decide +kernel) rfl)
set_option maxRecDepth 100000 in
theorem ml_X11_290 : px_ml RX11 290 yX4_hasKnot := Or.inr ⟨"LightSails", px_memN 1497 (by decide +kernel) rfl⟩
set_option maxRecDepth 100000 in
theorem ml_X4_43 : px_ml RX4 43 yX11_within := Or.inr ⟨"LightSails", px_memN 1501 (by decide +kernel) rfl⟩
set_option maxRecDepth 100000 in
theorem ml_X11_293 : px_ml RX11 293 yX4_setPull := Or.inr ⟨"LightSails", px_memN 1502 (by decide +kernel) rfl⟩
set_option maxRecDepth 100000 in
theorem ml_L_273 : px_ml RL 273 yL_string := Or.inl (px_mem 1506 (by decide +kernel) rfl)
set_option maxRecDepth 100000 in
theorem ml_L_120 : px_ml RL 120 yX11_string := Or.inl (px_mem 1509 (by decide +kernel) rfl)
set_option maxRecDepth 100000 in
theorem ml_X11_297 : px_ml RX11 297 yX4_addString := Or.inr ⟨"LightSails", px_memN 1513 (by decide +kernel) rfl⟩
set_option maxRecDepth 100000 in
theorem ml_X4_54 : px_ml RX4 54 yX4_isTied := Or.inl (px_mem 1517 (by decide +kernel) rfl)
set_option maxRecDepth 100000 in
theorem ml_L_281 : px_ml RL 281 yL_slack := Or.inl (px_mem 1521 (by decide +kernel) rfl)
set_option maxRecDepth 100000 in
theorem ml_L_123 : px_ml RL 123 yX11_slack := Or.inl (px_mem 1524 (by decide +kernel) rfl)
set_option maxRecDepth 100000 in
theorem ml_X11_306 : px_ml RX11 306 yX4_hasString := Or.inr ⟨"LightSails", px_memN 1528 (by decide +kernel) rfl⟩
set_option maxRecDepth 100000 in
theorem ml_L_284 : px_ml RL 284 yL_taut := Or.inl (px_mem 1532 (by decide +kernel) rfl)
set_option maxRecDepth 100000 in
theorem ml_L_126 : px_ml RL 126 yX11_taut := Or.inl (px_mem 1535 (by decide +kernel) rfl)
set_option maxRecDepth 100000 in
theorem ml_L_287 : px_ml RL 287 yL_ease := Or.inl (px_mem 1539 (by decide +kernel) rfl)
set_option maxRecDepth 100000 in
theorem ml_L_129 : px_ml RL 129 yX11_ease := Or.inl (px_mem 1542 (by decide +kernel) rfl)
set_option maxRecDepth 100000 in
theorem ml_L_294 : px_ml RL 294 yL_offer := Or.inl (px_mem 1547 (by decide +kernel) rfl)
set_option maxRecDepth 100000 in
theorem ml_L_133 : px_ml RL 133 yX11_offer := Or.inl (px_mem 1550 (by decide +kernel) rfl)
set_option maxRecDepth 100000 in
theorem ml_X11_327 : px_ml RX11 327 yX0_addOffer := Or.inr ⟨"LightSails", px_memN 1554 (by decide +kernel) rfl⟩
set_option maxRecDepth 100000 in
theorem ml_L_298 : px_ml RL 298 yL_sheet := Or.inl (px_mem 1558 (by decide +kernel) rfl)
set_option maxRecDepth 100000 in
theorem ml_L_137 : px_ml RL 137 yX11_sheet := Or.inl (px_mem 1561 (by decide +kernel) rfl)
set_option maxRecDepth 100000 in
theorem ml_X11_331 : px_ml RX11 331 yX0_findBest := Or.inr ⟨"LightSails", px_memN 1565 (by decide +kernel) rfl⟩
set_option maxRecDepth 100000 in
theorem ml_X0_32 : px_ml RX0 32 yJ6_numberOfTrailingZeros_0f7a4 := Or.inl (px_mem 1569 (by decide +kernel) rfl)
set_option maxRecDepth 100000 in
theorem ml_X0_38 : px_ml RX0 38 yX0_change := Or.inl (px_mem 1573 (by decide +kernel) rfl)
set_option maxRecDepth 100000 in
theorem ml_X0_57 : px_ml RX0 57 yX11_within := Or.inr ⟨"LightSails", px_memN 1577 (by decide +kernel) rfl⟩
set_option maxRecDepth 100000 in
theorem ml_X0_42 : px_ml RX0 42 yJ9_abs_0f7a4 := Or.inl (px_mem 1578 (by decide +kernel) rfl)
set_option maxRecDepth 100000 in
theorem ml_X0_47 : px_ml RX0 47 yX0_isBetter := Or.inl (px_mem 1579 (by decide +kernel) rfl)
set_option maxRecDepth 100000 in
theorem ml_L_301 : px_ml RL 301 yL_late := Or.inl (px_mem 1584 (by decide +kernel) rfl)
set_option maxRecDepth 100000 in
theorem ml_L_140 : px_ml RL 140 yX11_late := Or.inl (px_mem 1587 (by decide +kernel) rfl)
set_option maxRecDepth 100000 in
theorem ml_X11_338 : px_ml RX11 338 yX9_daysInAll := Or.inr ⟨"LightSails", px_memN 1591 (by decide +kernel) rfl⟩
set_option maxRecDepth 100000 in
theorem ml_L_304 : px_ml RL 304 yL_window := Or.inl (px_mem 1595 (by decide +kernel) rfl)
