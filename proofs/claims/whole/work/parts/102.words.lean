/-! the words that the walks use, a row each -/
set_option maxRecDepth 100000 in
theorem iv_X2_tryOpening : Cond.instanceMethod yX2_tryOpening ∈ px_G ∧ Cond.selects (px_RC 2) yX2_tryOpening yX2_tryOpening ∈ px_G := ⟨px_mem 819 (by decide +kernel) rfl, px_mems 39 (by decide +kernel) rfl⟩
set_option maxRecDepth 100000 in
theorem my_X11_orders : px_my yX11_orders cX11_orders 1 (some .int) 0 := ⟨⟨px_mem 828 (by decide +kernel) rfl, px_mem 1 (by decide +kernel) rfl⟩, ⟨by decide, by decide⟩, by decide +kernel, by decide⟩
set_option maxRecDepth 100000 in
theorem iv_X11_orders : Cond.instanceMethod yX11_orders ∈ px_G ∧ Cond.selects (px_RC 11) yX11_orders yX11_orders ∈ px_G := ⟨px_mem 826 (by decide +kernel) rfl, px_mem 827 (by decide +kernel) rfl⟩
set_option maxRecDepth 100000 in
theorem my_X2_countOrders : px_my yX2_countOrders cX2_countOrders 4 (some .int) 0 := ⟨⟨px_mem 832 (by decide +kernel) rfl, px_mem 2 (by decide +kernel) rfl⟩, ⟨by decide, by decide⟩, by decide +kernel, by decide⟩
set_option maxRecDepth 100000 in
theorem iv_X2_countOrders : Cond.instanceMethod yX2_countOrders ∈ px_G ∧ Cond.selects (px_RC 2) yX2_countOrders yX2_countOrders ∈ px_G := ⟨px_mem 831 (by decide +kernel) rfl, px_mems 40 (by decide +kernel) rfl⟩
set_option maxRecDepth 100000 in
theorem my_X2_mayOpen : px_my yX2_mayOpen cX2_mayOpen 3 (some .boolean) 2 := ⟨⟨px_mem 836 (by decide +kernel) rfl, px_mem 2 (by decide +kernel) rfl⟩, ⟨by decide, by decide⟩, by decide +kernel, by decide⟩
set_option maxRecDepth 100000 in
theorem iv_X2_mayOpen : Cond.instanceMethod yX2_mayOpen ∈ px_G ∧ Cond.selects (px_RC 2) yX2_mayOpen yX2_mayOpen ∈ px_G := ⟨px_mem 835 (by decide +kernel) rfl, px_mems 41 (by decide +kernel) rfl⟩
set_option maxRecDepth 100000 in
theorem my_X11_safe : px_my yX11_safe cX11_safe 2 (some .int) 1 := ⟨⟨px_mem 843 (by decide +kernel) rfl, px_mem 1 (by decide +kernel) rfl⟩, ⟨by decide, by decide⟩, by decide +kernel, by decide⟩
set_option maxRecDepth 100000 in
theorem iv_X11_safe : Cond.instanceMethod yX11_safe ∈ px_G ∧ Cond.selects (px_RC 11) yX11_safe yX11_safe ∈ px_G := ⟨px_mem 841 (by decide +kernel) rfl, px_mem 842 (by decide +kernel) rfl⟩
set_option maxRecDepth 100000 in
theorem my_X2_creaseOfFirstOrder : px_my yX2_creaseOfFirstOrder cX2_creaseOfFirstOrder 6 (some .int) 1 := ⟨⟨px_mem 847 (by decide +kernel) rfl, px_mem 2 (by decide +kernel) rfl⟩, ⟨by decide, by decide⟩, by decide +kernel, by decide⟩
set_option maxRecDepth 100000 in
theorem iv_X2_creaseOfFirstOrder : Cond.instanceMethod yX2_creaseOfFirstOrder ∈ px_G ∧ Cond.selects (px_RC 2) yX2_creaseOfFirstOrder yX2_creaseOfFirstOrder ∈ px_G := ⟨px_mem 846 (by decide +kernel) rfl, px_mems 42 (by decide +kernel) rfl⟩
set_option maxRecDepth 100000 in
theorem my_X2_firstSafe : px_my yX2_firstSafe cX2_firstSafe 3 (some .int) 1 := ⟨⟨px_mem 853 (by decide +kernel) rfl, px_mem 2 (by decide +kernel) rfl⟩, ⟨by decide, by decide⟩, by decide +kernel, by decide⟩
set_option maxRecDepth 100000 in
theorem iv_X2_firstSafe : Cond.instanceMethod yX2_firstSafe ∈ px_G ∧ Cond.selects (px_RC 2) yX2_firstSafe yX2_firstSafe ∈ px_G := ⟨px_mem 852 (by decide +kernel) rfl, px_mems 43 (by decide +kernel) rfl⟩
set_option maxRecDepth 100000 in
theorem my_X11_panel : px_my yX11_panel cX11_panel 6 (some .int) 5 := ⟨⟨px_mem 860 (by decide +kernel) rfl, px_mem 1 (by decide +kernel) rfl⟩, ⟨by decide, by decide⟩, by decide +kernel, by decide⟩
set_option maxRecDepth 100000 in
theorem iv_X11_panel : Cond.instanceMethod yX11_panel ∈ px_G ∧ Cond.selects (px_RC 11) yX11_panel yX11_panel ∈ px_G := ⟨px_mem 858 (by decide +kernel) rfl, px_mem 859 (by decide +kernel) rfl⟩
set_option maxRecDepth 100000 in
theorem my_X11_isSpot : px_my yX11_isSpot cX11_isSpot 2 (some .boolean) 2 := ⟨⟨px_mem 863 (by decide +kernel) rfl, px_mem 1 (by decide +kernel) rfl⟩, ⟨by decide, by decide⟩, by decide +kernel, by decide⟩
set_option maxRecDepth 100000 in
theorem sv_X11_isSpot : Cond.static yX11_isSpot ∈ px_G := px_mem 862 (by decide +kernel) rfl
set_option maxRecDepth 100000 in
theorem my_X11_isCoat : px_my yX11_isCoat cX11_isCoat 2 (some .boolean) 2 := ⟨⟨px_mem 866 (by decide +kernel) rfl, px_mem 1 (by decide +kernel) rfl⟩, ⟨by decide, by decide⟩, by decide +kernel, by decide⟩
set_option maxRecDepth 100000 in
theorem sv_X11_isCoat : Cond.static yX11_isCoat ∈ px_G := px_mem 865 (by decide +kernel) rfl
set_option maxRecDepth 100000 in
theorem my_X8_addPanel : px_my yX8_addPanel cX8_addPanel 6 (some .int) 5 := ⟨⟨px_mem 870 (by decide +kernel) rfl, px_mem 3 (by decide +kernel) rfl⟩, ⟨by decide, by decide⟩, by decide +kernel, by decide⟩
set_option maxRecDepth 100000 in
theorem iv_X8_addPanel : Cond.instanceMethod yX8_addPanel ∈ px_G ∧ Cond.selects (px_RC 8) yX8_addPanel yX8_addPanel ∈ px_G := ⟨px_mem 869 (by decide +kernel) rfl, px_mems 44 (by decide +kernel) rfl⟩
set_option maxRecDepth 100000 in
theorem my_X5_init : px_my yX5_init cX5_init 6 none 5 := ⟨⟨px_mem 873 (by decide +kernel) rfl, px_mem 19 (by decide +kernel) rfl⟩, ⟨by decide, by decide⟩, by decide +kernel, by decide⟩
set_option maxRecDepth 100000 in
theorem iv_X5_init : Cond.instanceMethod yX5_init ∈ px_G ∧ yX5_init.name = "<init>" := ⟨px_mem 872 (by decide +kernel) rfl, rfl⟩
set_option maxRecDepth 100000 in
theorem my_X11_of : px_my yX11_of cX11_of 3 (some .int) 2 := ⟨⟨px_mem 926 (by decide +kernel) rfl, px_mem 1 (by decide +kernel) rfl⟩, ⟨by decide, by decide⟩, by decide +kernel, by decide⟩
set_option maxRecDepth 100000 in
theorem iv_X11_of : Cond.instanceMethod yX11_of ∈ px_G ∧ Cond.selects (px_RC 11) yX11_of yX11_of ∈ px_G := ⟨px_mem 924 (by decide +kernel) rfl, px_mem 925 (by decide +kernel) rfl⟩
set_option maxRecDepth 100000 in
theorem my_X8_hasPanel : px_my yX8_hasPanel cX8_hasPanel 2 (some .boolean) 1 := ⟨⟨px_mem 930 (by decide +kernel) rfl, px_mem 3 (by decide +kernel) rfl⟩, ⟨by decide, by decide⟩, by decide +kernel, by decide⟩
set_option maxRecDepth 100000 in
theorem iv_X8_hasPanel : Cond.instanceMethod yX8_hasPanel ∈ px_G ∧ Cond.selects (px_RC 8) yX8_hasPanel yX8_hasPanel ∈ px_G := ⟨px_mem 929 (by decide +kernel) rfl, px_mems 45 (by decide +kernel) rfl⟩
set_option maxRecDepth 100000 in
theorem my_X11_needElement : px_my yX11_needElement cX11_needElement 1 none 1 := ⟨⟨px_mem 934 (by decide +kernel) rfl, px_mem 1 (by decide +kernel) rfl⟩, ⟨by decide, by decide⟩, by decide +kernel, by decide⟩
set_option maxRecDepth 100000 in
theorem sv_X11_needElement : Cond.static yX11_needElement ∈ px_G := px_mem 933 (by decide +kernel) rfl
set_option maxRecDepth 100000 in
theorem my_X5_fact : px_my yX5_fact cX5_fact 2 (some .int) 1 := ⟨⟨px_mem 954 (by decide +kernel) rfl, px_mem 19 (by decide +kernel) rfl⟩, ⟨by decide, by decide⟩, by decide +kernel, by decide⟩
set_option maxRecDepth 100000 in
theorem iv_X5_fact : Cond.instanceMethod yX5_fact ∈ px_G ∧ Cond.selects (px_RC 5) yX5_fact yX5_fact ∈ px_G := ⟨px_mem 953 (by decide +kernel) rfl, px_mems 46 (by decide +kernel) rfl⟩
set_option maxRecDepth 100000 in
theorem my_X11_tear : px_my yX11_tear cX11_tear 3 (some .boolean) 1 := ⟨⟨px_mem 961 (by decide +kernel) rfl, px_mem 1 (by decide +kernel) rfl⟩, ⟨by decide, by decide⟩, by decide +kernel, by decide⟩
set_option maxRecDepth 100000 in
theorem iv_X11_tear : Cond.instanceMethod yX11_tear ∈ px_G ∧ Cond.selects (px_RC 11) yX11_tear yX11_tear ∈ px_G := ⟨px_mem 959 (by decide +kernel) rfl, px_mem 960 (by decide +kernel) rfl⟩
set_option maxRecDepth 100000 in
theorem my_X11_flap : px_my yX11_flap cX11_flap 2 (some .int) 1 := ⟨⟨px_mem 968 (by decide +kernel) rfl, px_mem 1 (by decide +kernel) rfl⟩, ⟨by decide, by decide⟩, by decide +kernel, by decide⟩
set_option maxRecDepth 100000 in
theorem iv_X11_flap : Cond.instanceMethod yX11_flap ∈ px_G ∧ Cond.selects (px_RC 11) yX11_flap yX11_flap ∈ px_G := ⟨px_mem 966 (by decide +kernel) rfl, px_mem 967 (by decide +kernel) rfl⟩
set_option maxRecDepth 100000 in
theorem my_X8_makeFlap : px_my yX8_makeFlap cX8_makeFlap 2 (some .int) 1 := ⟨⟨px_mem 972 (by decide +kernel) rfl, px_mem 3 (by decide +kernel) rfl⟩, ⟨by decide, by decide⟩, by decide +kernel, by decide⟩
set_option maxRecDepth 100000 in
theorem iv_X8_makeFlap : Cond.instanceMethod yX8_makeFlap ∈ px_G ∧ Cond.selects (px_RC 8) yX8_makeFlap yX8_makeFlap ∈ px_G := ⟨px_mem 971 (by decide +kernel) rfl, px_mems 47 (by decide +kernel) rfl⟩
set_option maxRecDepth 100000 in
theorem my_X11_bend : px_my yX11_bend cX11_bend 5 (some .int) 2 := ⟨⟨px_mem 979 (by decide +kernel) rfl, px_mem 1 (by decide +kernel) rfl⟩, ⟨by decide, by decide⟩, by decide +kernel, by decide⟩
set_option maxRecDepth 100000 in
theorem iv_X11_bend : Cond.instanceMethod yX11_bend ∈ px_G ∧ Cond.selects (px_RC 11) yX11_bend yX11_bend ∈ px_G := ⟨px_mem 977 (by decide +kernel) rfl, px_mem 978 (by decide +kernel) rfl⟩
set_option maxRecDepth 100000 in
theorem my_X8_hasFlap : px_my yX8_hasFlap cX8_hasFlap 2 (some .boolean) 1 := ⟨⟨px_mem 983 (by decide +kernel) rfl, px_mem 3 (by decide +kernel) rfl⟩, ⟨by decide, by decide⟩, by decide +kernel, by decide⟩
set_option maxRecDepth 100000 in
theorem iv_X8_hasFlap : Cond.instanceMethod yX8_hasFlap ∈ px_G ∧ Cond.selects (px_RC 8) yX8_hasFlap yX8_hasFlap ∈ px_G := ⟨px_mem 982 (by decide +kernel) rfl, px_mems 48 (by decide +kernel) rfl⟩
set_option maxRecDepth 100000 in
theorem my_X11_stuck : px_my yX11_stuck cX11_stuck 4 (some .boolean) 2 := ⟨⟨px_mem 990 (by decide +kernel) rfl, px_mem 1 (by decide +kernel) rfl⟩, ⟨by decide, by decide⟩, by decide +kernel, by decide⟩
set_option maxRecDepth 100000 in
theorem iv_X11_stuck : Cond.instanceMethod yX11_stuck ∈ px_G ∧ Cond.selects (px_RC 11) yX11_stuck yX11_stuck ∈ px_G := ⟨px_mem 988 (by decide +kernel) rfl, px_mem 989 (by decide +kernel) rfl⟩
set_option maxRecDepth 100000 in
theorem my_X11_weights : px_my yX11_weights cX11_weights 3 none 2 := ⟨⟨px_mem 997 (by decide +kernel) rfl, px_mem 1 (by decide +kernel) rfl⟩, ⟨by decide, by decide⟩, by decide +kernel, by decide⟩
set_option maxRecDepth 100000 in
theorem iv_X11_weights : Cond.instanceMethod yX11_weights ∈ px_G ∧ Cond.selects (px_RC 11) yX11_weights yX11_weights ∈ px_G := ⟨px_mem 995 (by decide +kernel) rfl, px_mem 996 (by decide +kernel) rfl⟩
set_option maxRecDepth 100000 in
theorem my_X11_push : px_my yX11_push cX11_push 3 (some .int) 2 := ⟨⟨px_mem 1004 (by decide +kernel) rfl, px_mem 1 (by decide +kernel) rfl⟩, ⟨by decide, by decide⟩, by decide +kernel, by decide⟩
set_option maxRecDepth 100000 in
theorem iv_X11_push : Cond.instanceMethod yX11_push ∈ px_G ∧ Cond.selects (px_RC 11) yX11_push yX11_push ∈ px_G := ⟨px_mem 1002 (by decide +kernel) rfl, px_mem 1003 (by decide +kernel) rfl⟩
set_option maxRecDepth 100000 in
theorem my_X11_isSlant : px_my yX11_isSlant cX11_isSlant 1 (some .boolean) 1 := ⟨⟨px_mem 1007 (by decide +kernel) rfl, px_mem 1 (by decide +kernel) rfl⟩, ⟨by decide, by decide⟩, by decide +kernel, by decide⟩
set_option maxRecDepth 100000 in
theorem sv_X11_isSlant : Cond.static yX11_isSlant ∈ px_G := px_mem 1006 (by decide +kernel) rfl
set_option maxRecDepth 100000 in
theorem my_X8_pushX : px_my yX8_pushX cX8_pushX 2 (some .int) 1 := ⟨⟨px_mem 1011 (by decide +kernel) rfl, px_mem 3 (by decide +kernel) rfl⟩, ⟨by decide, by decide⟩, by decide +kernel, by decide⟩
set_option maxRecDepth 100000 in
theorem iv_X8_pushX : Cond.instanceMethod yX8_pushX ∈ px_G ∧ Cond.selects (px_RC 8) yX8_pushX yX8_pushX ∈ px_G := ⟨px_mem 1010 (by decide +kernel) rfl, px_mems 49 (by decide +kernel) rfl⟩
set_option maxRecDepth 100000 in
theorem my_X8_pushXFrom : px_my yX8_pushXFrom cX8_pushXFrom 5 (some .int) 2 := ⟨⟨px_mem 1015 (by decide +kernel) rfl, px_mem 3 (by decide +kernel) rfl⟩, ⟨by decide, by decide⟩, by decide +kernel, by decide⟩
set_option maxRecDepth 100000 in
theorem iv_X8_pushXFrom : Cond.instanceMethod yX8_pushXFrom ∈ px_G ∧ Cond.selects (px_RC 8) yX8_pushXFrom yX8_pushXFrom ∈ px_G := ⟨px_mem 1014 (by decide +kernel) rfl, px_mems 50 (by decide +kernel) rfl⟩
set_option maxRecDepth 100000 in
theorem my_X5_pushX : px_my yX5_pushX cX5_pushX 6 (some .int) 3 := ⟨⟨px_mem 1019 (by decide +kernel) rfl, px_mem 19 (by decide +kernel) rfl⟩, ⟨by decide, by decide⟩, by decide +kernel, by decide⟩
set_option maxRecDepth 100000 in
theorem iv_X5_pushX : Cond.instanceMethod yX5_pushX ∈ px_G ∧ Cond.selects (px_RC 5) yX5_pushX yX5_pushX ∈ px_G := ⟨px_mem 1018 (by decide +kernel) rfl, px_mems 51 (by decide +kernel) rfl⟩
set_option maxRecDepth 100000 in
theorem my_X11_turn : px_my yX11_turn cX11_turn 3 (some .int) 2 := ⟨⟨px_mem 1028 (by decide +kernel) rfl, px_mem 1 (by decide +kernel) rfl⟩, ⟨by decide, by decide⟩, by decide +kernel, by decide⟩
set_option maxRecDepth 100000 in
theorem iv_X11_turn : Cond.instanceMethod yX11_turn ∈ px_G ∧ Cond.selects (px_RC 11) yX11_turn yX11_turn ∈ px_G := ⟨px_mem 1026 (by decide +kernel) rfl, px_mem 1027 (by decide +kernel) rfl⟩
set_option maxRecDepth 100000 in
theorem my_X8_turnBy : px_my yX8_turnBy cX8_turnBy 5 (some .int) 2 := ⟨⟨px_mem 1032 (by decide +kernel) rfl, px_mem 3 (by decide +kernel) rfl⟩, ⟨by decide, by decide⟩, by decide +kernel, by decide⟩
set_option maxRecDepth 100000 in
theorem iv_X8_turnBy : Cond.instanceMethod yX8_turnBy ∈ px_G ∧ Cond.selects (px_RC 8) yX8_turnBy yX8_turnBy ∈ px_G := ⟨px_mem 1031 (by decide +kernel) rfl, px_mems 52 (by decide +kernel) rfl⟩
set_option maxRecDepth 100000 in
theorem my_X5_press : px_my yX5_press cX5_press 5 (some .int) 2 := ⟨⟨px_mem 1036 (by decide +kernel) rfl, px_mem 19 (by decide +kernel) rfl⟩, ⟨by decide, by decide⟩, by decide +kernel, by decide⟩
set_option maxRecDepth 100000 in
theorem iv_X5_press : Cond.instanceMethod yX5_press ∈ px_G ∧ Cond.selects (px_RC 5) yX5_press yX5_press ∈ px_G := ⟨px_mem 1035 (by decide +kernel) rfl, px_mems 53 (by decide +kernel) rfl⟩
set_option maxRecDepth 100000 in
theorem my_X8_arm : px_my yX8_arm cX8_arm 3 (some .int) 2 := ⟨⟨px_mem 1040 (by decide +kernel) rfl, px_mem 3 (by decide +kernel) rfl⟩, ⟨by decide, by decide⟩, by decide +kernel, by decide⟩
set_option maxRecDepth 100000 in
theorem iv_X8_arm : Cond.instanceMethod yX8_arm ∈ px_G ∧ Cond.selects (px_RC 8) yX8_arm yX8_arm ∈ px_G := ⟨px_mem 1039 (by decide +kernel) rfl, px_mems 54 (by decide +kernel) rfl⟩
set_option maxRecDepth 100000 in
theorem my_X11_trim : px_my yX11_trim cX11_trim 4 (some .int) 2 := ⟨⟨px_mem 1047 (by decide +kernel) rfl, px_mem 1 (by decide +kernel) rfl⟩, ⟨by decide, by decide⟩, by decide +kernel, by decide⟩
set_option maxRecDepth 100000 in
theorem iv_X11_trim : Cond.instanceMethod yX11_trim ∈ px_G ∧ Cond.selects (px_RC 11) yX11_trim yX11_trim ∈ px_G := ⟨px_mem 1045 (by decide +kernel) rfl, px_mem 1046 (by decide +kernel) rfl⟩
set_option maxRecDepth 100000 in
theorem my_X8_findTrim : px_my yX8_findTrim cX8_findTrim 6 (some .int) 1 := ⟨⟨px_mem 1051 (by decide +kernel) rfl, px_mem 3 (by decide +kernel) rfl⟩, ⟨by decide, by decide⟩, by decide +kernel, by decide⟩
set_option maxRecDepth 100000 in
theorem iv_X8_findTrim : Cond.instanceMethod yX8_findTrim ∈ px_G ∧ Cond.selects (px_RC 8) yX8_findTrim yX8_findTrim ∈ px_G := ⟨px_mem 1050 (by decide +kernel) rfl, px_mems 55 (by decide +kernel) rfl⟩
set_option maxRecDepth 100000 in
theorem my_X8_sumUpRest : px_my yX8_sumUpRest cX8_sumUpRest 4 none 1 := ⟨⟨px_mem 1055 (by decide +kernel) rfl, px_mem 3 (by decide +kernel) rfl⟩, ⟨by decide, by decide⟩, by decide +kernel, by decide⟩
set_option maxRecDepth 100000 in
theorem iv_X8_sumUpRest : Cond.instanceMethod yX8_sumUpRest ∈ px_G ∧ Cond.selects (px_RC 8) yX8_sumUpRest yX8_sumUpRest ∈ px_G := ⟨px_mem 1054 (by decide +kernel) rfl, px_mems 56 (by decide +kernel) rfl⟩
set_option maxRecDepth 100000 in
theorem my_X8_tableFlaps : px_my yX8_tableFlaps cX8_tableFlaps 5 none 1 := ⟨⟨px_mem 1059 (by decide +kernel) rfl, px_mem 3 (by decide +kernel) rfl⟩, ⟨by decide, by decide⟩, by decide +kernel, by decide⟩
set_option maxRecDepth 100000 in
theorem iv_X8_tableFlaps : Cond.instanceMethod yX8_tableFlaps ∈ px_G ∧ Cond.selects (px_RC 8) yX8_tableFlaps yX8_tableFlaps ∈ px_G := ⟨px_mem 1058 (by decide +kernel) rfl, px_mems 57 (by decide +kernel) rfl⟩
set_option maxRecDepth 100000 in
theorem my_X8_turnWithFlaps : px_my yX8_turnWithFlaps cX8_turnWithFlaps 5 (some .int) 2 := ⟨⟨px_mem 1063 (by decide +kernel) rfl, px_mem 3 (by decide +kernel) rfl⟩, ⟨by decide, by decide⟩, by decide +kernel, by decide⟩
set_option maxRecDepth 100000 in
theorem iv_X8_turnWithFlaps : Cond.instanceMethod yX8_turnWithFlaps ∈ px_G ∧ Cond.selects (px_RC 8) yX8_turnWithFlaps yX8_turnWithFlaps ∈ px_G := ⟨px_mem 1062 (by decide +kernel) rfl, px_mems 58 (by decide +kernel) rfl⟩
set_option maxRecDepth 100000 in
theorem my_X11_nextRow : px_my yX11_nextRow cX11_nextRow 5 (some .boolean) 4 := ⟨⟨px_mem 1070 (by decide +kernel) rfl, px_mem 1 (by decide +kernel) rfl⟩, ⟨by decide, by decide⟩, by decide +kernel, by decide⟩
set_option maxRecDepth 100000 in
theorem sv_X11_nextRow : Cond.static yX11_nextRow ∈ px_G := px_mem 1069 (by decide +kernel) rfl
set_option maxRecDepth 100000 in
theorem my_X11_world : px_my yX11_world cX11_world 4 (some .int) 3 := ⟨⟨px_mem 1077 (by decide +kernel) rfl, px_mem 1 (by decide +kernel) rfl⟩, ⟨by decide, by decide⟩, by decide +kernel, by decide⟩
set_option maxRecDepth 100000 in
theorem iv_X11_world : Cond.instanceMethod yX11_world ∈ px_G ∧ Cond.selects (px_RC 11) yX11_world yX11_world ∈ px_G := ⟨px_mem 1075 (by decide +kernel) rfl, px_mem 1076 (by decide +kernel) rfl⟩
set_option maxRecDepth 100000 in
theorem my_X9_addWorld : px_my yX9_addWorld cX9_addWorld 4 (some .int) 3 := ⟨⟨px_mem 1081 (by decide +kernel) rfl, px_mem 4 (by decide +kernel) rfl⟩, ⟨by decide, by decide⟩, by decide +kernel, by decide⟩
set_option maxRecDepth 100000 in
theorem iv_X9_addWorld : Cond.instanceMethod yX9_addWorld ∈ px_G ∧ Cond.selects (px_RC 9) yX9_addWorld yX9_addWorld ∈ px_G := ⟨px_mem 1080 (by decide +kernel) rfl, px_mems 59 (by decide +kernel) rfl⟩
set_option maxRecDepth 100000 in
theorem my_X10_init : px_my yX10_init cX10_init 4 none 3 := ⟨⟨px_mem 1084 (by decide +kernel) rfl, px_mem 22 (by decide +kernel) rfl⟩, ⟨by decide, by decide⟩, by decide +kernel, by decide⟩
set_option maxRecDepth 100000 in
theorem iv_X10_init : Cond.instanceMethod yX10_init ∈ px_G ∧ yX10_init.name = "<init>" := ⟨px_mem 1083 (by decide +kernel) rfl, rfl⟩
set_option maxRecDepth 100000 in
theorem my_X11_angle : px_my yX11_angle cX11_angle 3 (some .int) 2 := ⟨⟨px_mem 1106 (by decide +kernel) rfl, px_mem 1 (by decide +kernel) rfl⟩, ⟨by decide, by decide⟩, by decide +kernel, by decide⟩
set_option maxRecDepth 100000 in
theorem iv_X11_angle : Cond.instanceMethod yX11_angle ∈ px_G ∧ Cond.selects (px_RC 11) yX11_angle yX11_angle ∈ px_G := ⟨px_mem 1104 (by decide +kernel) rfl, px_mem 1105 (by decide +kernel) rfl⟩
set_option maxRecDepth 100000 in
theorem my_X11_least : px_my yX11_least cX11_least 4 (some .int) 2 := ⟨⟨px_mem 1115 (by decide +kernel) rfl, px_mem 1 (by decide +kernel) rfl⟩, ⟨by decide, by decide⟩, by decide +kernel, by decide⟩
set_option maxRecDepth 100000 in
theorem iv_X11_least : Cond.instanceMethod yX11_least ∈ px_G ∧ Cond.selects (px_RC 11) yX11_least yX11_least ∈ px_G := ⟨px_mem 1113 (by decide +kernel) rfl, px_mem 1114 (by decide +kernel) rfl⟩
set_option maxRecDepth 100000 in
theorem my_X9_fewestDays : px_my yX9_fewestDays cX9_fewestDays 6 (some .int) 3 := ⟨⟨px_mem 1119 (by decide +kernel) rfl, px_mem 4 (by decide +kernel) rfl⟩, ⟨by decide, by decide⟩, by decide +kernel, by decide⟩
set_option maxRecDepth 100000 in
theorem iv_X9_fewestDays : Cond.instanceMethod yX9_fewestDays ∈ px_G ∧ Cond.selects (px_RC 9) yX9_fewestDays yX9_fewestDays ∈ px_G := ⟨px_mem 1118 (by decide +kernel) rfl, px_mems 60 (by decide +kernel) rfl⟩
set_option maxRecDepth 100000 in
theorem my_X11_turnOfDay : px_my yX11_turnOfDay cX11_turnOfDay 1 (some .int) 1 := ⟨⟨px_mem 1122 (by decide +kernel) rfl, px_mem 1 (by decide +kernel) rfl⟩, ⟨by decide, by decide⟩, by decide +kernel, by decide⟩
set_option maxRecDepth 100000 in
theorem sv_X11_turnOfDay : Cond.static yX11_turnOfDay ∈ px_G := px_mem 1121 (by decide +kernel) rfl
set_option maxRecDepth 100000 in
theorem my_X10_chartFor : px_my yX10_chartFor cX10_chartFor 2 (some (.object "LightSails$Chart")) 1 := ⟨⟨px_mem 1126 (by decide +kernel) rfl, px_mem 22 (by decide +kernel) rfl⟩, ⟨by decide, by decide⟩, by decide +kernel, by decide⟩
set_option maxRecDepth 100000 in
theorem iv_X10_chartFor : Cond.instanceMethod yX10_chartFor ∈ px_G ∧ Cond.selects (px_RC 10) yX10_chartFor yX10_chartFor ∈ px_G := ⟨px_mem 1125 (by decide +kernel) rfl, px_mems 61 (by decide +kernel) rfl⟩
set_option maxRecDepth 100000 in
theorem my_X1_init : px_my yX1_init cX1_init 6 none 2 := ⟨⟨px_mem 1131 (by decide +kernel) rfl, px_mem 23 (by decide +kernel) rfl⟩, ⟨by decide, by decide⟩, by decide +kernel, by decide⟩
set_option maxRecDepth 100000 in
theorem iv_X1_init : Cond.instanceMethod yX1_init ∈ px_G ∧ yX1_init.name = "<init>" := ⟨px_mem 1130 (by decide +kernel) rfl, rfl⟩
set_option maxRecDepth 100000 in
theorem my_X1_fitTo : px_my yX1_fitTo cX1_fitTo 2 none 1 := ⟨⟨px_mem 1153 (by decide +kernel) rfl, px_mem 23 (by decide +kernel) rfl⟩, ⟨by decide, by decide⟩, by decide +kernel, by decide⟩
set_option maxRecDepth 100000 in
theorem iv_X1_fitTo : Cond.instanceMethod yX1_fitTo ∈ px_G ∧ Cond.selects (px_RC 1) yX1_fitTo yX1_fitTo ∈ px_G := ⟨px_mem 1152 (by decide +kernel) rfl, px_mems 62 (by decide +kernel) rfl⟩
set_option maxRecDepth 100000 in
theorem my_X1_fewestFrom : px_my yX1_fewestFrom cX1_fewestFrom 4 (some .int) 2 := ⟨⟨px_mem 1157 (by decide +kernel) rfl, px_mem 23 (by decide +kernel) rfl⟩, ⟨by decide, by decide⟩, by decide +kernel, by decide⟩
set_option maxRecDepth 100000 in
theorem iv_X1_fewestFrom : Cond.instanceMethod yX1_fewestFrom ∈ px_G ∧ Cond.selects (px_RC 1) yX1_fewestFrom yX1_fewestFrom ∈ px_G := ⟨px_mem 1156 (by decide +kernel) rfl, px_mems 63 (by decide +kernel) rfl⟩
set_option maxRecDepth 100000 in
theorem my_X1_isIn : px_my yX1_isIn cX1_isIn 5 (some .boolean) 3 := ⟨⟨px_mem 1161 (by decide +kernel) rfl, px_mem 23 (by decide +kernel) rfl⟩, ⟨by decide, by decide⟩, by decide +kernel, by decide⟩
set_option maxRecDepth 100000 in
theorem iv_X1_isIn : Cond.instanceMethod yX1_isIn ∈ px_G ∧ Cond.selects (px_RC 1) yX1_isIn yX1_isIn ∈ px_G := ⟨px_mem 1160 (by decide +kernel) rfl, px_mems 64 (by decide +kernel) rfl⟩
set_option maxRecDepth 100000 in
theorem my_X1_workLayer : px_my yX1_workLayer cX1_workLayer 10 none 1 := ⟨⟨px_mem 1166 (by decide +kernel) rfl, px_mem 23 (by decide +kernel) rfl⟩, ⟨by decide, by decide⟩, by decide +kernel, by decide⟩
set_option maxRecDepth 100000 in
theorem iv_X1_workLayer : Cond.instanceMethod yX1_workLayer ∈ px_G ∧ Cond.selects (px_RC 1) yX1_workLayer yX1_workLayer ∈ px_G := ⟨px_mem 1165 (by decide +kernel) rfl, px_mems 65 (by decide +kernel) rfl⟩
set_option maxRecDepth 100000 in
theorem my_X1_storeTurned : px_my yX1_storeTurned cX1_storeTurned 13 none 4 := ⟨⟨px_mem 1173 (by decide +kernel) rfl, px_mem 23 (by decide +kernel) rfl⟩, ⟨by decide, by decide⟩, by decide +kernel, by decide⟩
set_option maxRecDepth 100000 in
theorem iv_X1_storeTurned : Cond.instanceMethod yX1_storeTurned ∈ px_G ∧ Cond.selects (px_RC 1) yX1_storeTurned yX1_storeTurned ∈ px_G := ⟨px_mem 1172 (by decide +kernel) rfl, px_mems 66 (by decide +kernel) rfl⟩
set_option maxRecDepth 100000 in
theorem my_X9_steerOfFirstWay : px_my yX9_steerOfFirstWay cX9_steerOfFirstWay 10 (some .int) 3 := ⟨⟨px_mem 1178 (by decide +kernel) rfl, px_mem 4 (by decide +kernel) rfl⟩, ⟨by decide, by decide⟩, by decide +kernel, by decide⟩
set_option maxRecDepth 100000 in
theorem iv_X9_steerOfFirstWay : Cond.instanceMethod yX9_steerOfFirstWay ∈ px_G ∧ Cond.selects (px_RC 9) yX9_steerOfFirstWay yX9_steerOfFirstWay ∈ px_G := ⟨px_mem 1177 (by decide +kernel) rfl, px_mems 67 (by decide +kernel) rfl⟩
set_option maxRecDepth 100000 in
theorem my_X1_firstSteer : px_my yX1_firstSteer cX1_firstSteer 6 (some .int) 3 := ⟨⟨px_mem 1183 (by decide +kernel) rfl, px_mem 23 (by decide +kernel) rfl⟩, ⟨by decide, by decide⟩, by decide +kernel, by decide⟩
set_option maxRecDepth 100000 in
theorem iv_X1_firstSteer : Cond.instanceMethod yX1_firstSteer ∈ px_G ∧ Cond.selects (px_RC 1) yX1_firstSteer yX1_firstSteer ∈ px_G := ⟨px_mem 1182 (by decide +kernel) rfl, px_mems 68 (by decide +kernel) rfl⟩
set_option maxRecDepth 100000 in
theorem my_X1_aheadBehind : px_my yX1_aheadBehind cX1_aheadBehind 3 (some .int) 2 := ⟨⟨px_mem 1187 (by decide +kernel) rfl, px_mem 23 (by decide +kernel) rfl⟩, ⟨by decide, by decide⟩, by decide +kernel, by decide⟩
set_option maxRecDepth 100000 in
theorem iv_X1_aheadBehind : Cond.instanceMethod yX1_aheadBehind ∈ px_G ∧ Cond.selects (px_RC 1) yX1_aheadBehind yX1_aheadBehind ∈ px_G := ⟨px_mem 1186 (by decide +kernel) rfl, px_mems 69 (by decide +kernel) rfl⟩
set_option maxRecDepth 100000 in
theorem my_X11_rhoBehind : px_my yX11_rhoBehind cX11_rhoBehind 3 (some .int) 3 := ⟨⟨px_mem 1190 (by decide +kernel) rfl, px_mem 1 (by decide +kernel) rfl⟩, ⟨by decide, by decide⟩, by decide +kernel, by decide⟩
set_option maxRecDepth 100000 in
theorem sv_X11_rhoBehind : Cond.static yX11_rhoBehind ∈ px_G := px_mem 1189 (by decide +kernel) rfl
set_option maxRecDepth 100000 in
theorem my_X11_goal : px_my yX11_goal cX11_goal 3 (some .int) 1 := ⟨⟨px_mem 1199 (by decide +kernel) rfl, px_mem 1 (by decide +kernel) rfl⟩, ⟨by decide, by decide⟩, by decide +kernel, by decide⟩
set_option maxRecDepth 100000 in
theorem iv_X11_goal : Cond.instanceMethod yX11_goal ∈ px_G ∧ Cond.selects (px_RC 11) yX11_goal yX11_goal ∈ px_G := ⟨px_mem 1197 (by decide +kernel) rfl, px_mem 1198 (by decide +kernel) rfl⟩
set_option maxRecDepth 100000 in
theorem my_X11_rules : px_my yX11_rules cX11_rules 3 (some .int) 1 := ⟨⟨px_mem 1206 (by decide +kernel) rfl, px_mem 1 (by decide +kernel) rfl⟩, ⟨by decide, by decide⟩, by decide +kernel, by decide⟩
set_option maxRecDepth 100000 in
theorem iv_X11_rules : Cond.instanceMethod yX11_rules ∈ px_G ∧ Cond.selects (px_RC 11) yX11_rules yX11_rules ∈ px_G := ⟨px_mem 1204 (by decide +kernel) rfl, px_mem 1205 (by decide +kernel) rfl⟩
set_option maxRecDepth 100000 in
theorem my_X6_readTape : px_my yX6_readTape cX6_readTape 3 none 1 := ⟨⟨px_mem 1210 (by decide +kernel) rfl, px_mem 5 (by decide +kernel) rfl⟩, ⟨by decide, by decide⟩, by decide +kernel, by decide⟩
set_option maxRecDepth 100000 in
theorem iv_X6_readTape : Cond.instanceMethod yX6_readTape ∈ px_G ∧ Cond.selects (px_RC 6) yX6_readTape yX6_readTape ∈ px_G := ⟨px_mem 1209 (by decide +kernel) rfl, px_mems 70 (by decide +kernel) rfl⟩
set_option maxRecDepth 100000 in
theorem my_X7_forget : px_my yX7_forget cX7_forget 1 none 0 := ⟨⟨px_mem 1215 (by decide +kernel) rfl, px_mem 6 (by decide +kernel) rfl⟩, ⟨by decide, by decide⟩, by decide +kernel, by decide⟩
set_option maxRecDepth 100000 in
theorem iv_X7_forget : Cond.instanceMethod yX7_forget ∈ px_G ∧ Cond.selects (px_RC 7) yX7_forget yX7_forget ∈ px_G := ⟨px_mem 1214 (by decide +kernel) rfl, px_mems 71 (by decide +kernel) rfl⟩
set_option maxRecDepth 100000 in
theorem my_X6_scan : px_my yX6_scan cX6_scan 1 none 0 := ⟨⟨px_mem 1219 (by decide +kernel) rfl, px_mem 5 (by decide +kernel) rfl⟩, ⟨by decide, by decide⟩, by decide +kernel, by decide⟩
set_option maxRecDepth 100000 in
theorem iv_X6_scan : Cond.instanceMethod yX6_scan ∈ px_G ∧ Cond.selects (px_RC 6) yX6_scan yX6_scan ∈ px_G := ⟨px_mem 1218 (by decide +kernel) rfl, px_mems 72 (by decide +kernel) rfl⟩
set_option maxRecDepth 100000 in
theorem my_X6_scanWord : px_my yX6_scanWord cX6_scanWord 5 none 0 := ⟨⟨px_mem 1223 (by decide +kernel) rfl, px_mem 5 (by decide +kernel) rfl⟩, ⟨by decide, by decide⟩, by decide +kernel, by decide⟩
set_option maxRecDepth 100000 in
theorem iv_X6_scanWord : Cond.instanceMethod yX6_scanWord ∈ px_G ∧ Cond.selects (px_RC 6) yX6_scanWord yX6_scanWord ∈ px_G := ⟨px_mem 1222 (by decide +kernel) rfl, px_mems 73 (by decide +kernel) rfl⟩
set_option maxRecDepth 100000 in
theorem my_J0_charAt_5068e : px_my yJ0_charAt_5068e cJ0_charAt_5068e 2 (some .char) 1 := ⟨⟨px_mem 1228 (by decide +kernel) rfl, px_mem 24 (by decide +kernel) rfl⟩, ⟨by decide, by decide⟩, by decide +kernel, by decide⟩
set_option maxRecDepth 100000 in
theorem my_J0_isLatin1_aae02 : px_my yJ0_isLatin1_aae02 cJ0_isLatin1_aae02 1 (some .boolean) 0 := ⟨⟨px_mem 1232 (by decide +kernel) rfl, px_mem 24 (by decide +kernel) rfl⟩, ⟨by decide, by decide⟩, by decide +kernel, by decide⟩
set_option maxRecDepth 100000 in
theorem my_J1_charAt_3b067 : px_my yJ1_charAt_3b067 cJ1_charAt_3b067 2 (some .char) 2 := ⟨⟨px_mem 1237 (by decide +kernel) rfl, px_mem 25 (by decide +kernel) rfl⟩, ⟨by decide, by decide⟩, by decide +kernel, by decide⟩
set_option maxRecDepth 100000 in
theorem sv_J1_charAt_3b067 : Cond.static yJ1_charAt_3b067 ∈ px_G := px_mem 1236 (by decide +kernel) rfl
set_option maxRecDepth 100000 in
theorem my_J0_checkIndex_df160 : px_my yJ0_checkIndex_df160 cJ0_checkIndex_df160 2 none 2 := ⟨⟨px_mem 1240 (by decide +kernel) rfl, px_mem 24 (by decide +kernel) rfl⟩, ⟨by decide, by decide⟩, by decide +kernel, by decide⟩
set_option maxRecDepth 100000 in
theorem sv_J0_checkIndex_df160 : Cond.static yJ0_checkIndex_df160 ∈ px_G := px_mem 1239 (by decide +kernel) rfl
set_option maxRecDepth 100000 in
theorem my_J3_checkIndex_8e157 : px_my yJ3_checkIndex_8e157 cJ3_checkIndex_8e157 3 (some .int) 3 := ⟨⟨px_mem 1245 (by decide +kernel) rfl, px_mem 26 (by decide +kernel) rfl⟩, ⟨by decide, by decide⟩, by decide +kernel, by decide⟩
set_option maxRecDepth 100000 in
theorem sv_J3_checkIndex_8e157 : Cond.static yJ3_checkIndex_8e157 ∈ px_G := px_mem 1244 (by decide +kernel) rfl
set_option maxRecDepth 100000 in
theorem my_J2_charAt_3b067 : px_my yJ2_charAt_3b067 cJ2_charAt_3b067 2 (some .char) 2 := ⟨⟨px_mem 1248 (by decide +kernel) rfl, px_mem 27 (by decide +kernel) rfl⟩, ⟨by decide, by decide⟩, by decide +kernel, by decide⟩
set_option maxRecDepth 100000 in
theorem sv_J2_charAt_3b067 : Cond.static yJ2_charAt_3b067 ∈ px_G := px_mem 1247 (by decide +kernel) rfl
set_option maxRecDepth 100000 in
theorem my_J2_checkIndex_2214a : px_my yJ2_checkIndex_2214a cJ2_checkIndex_2214a 2 none 2 := ⟨⟨px_mem 1251 (by decide +kernel) rfl, px_mem 27 (by decide +kernel) rfl⟩, ⟨by decide, by decide⟩, by decide +kernel, by decide⟩
set_option maxRecDepth 100000 in
theorem sv_J2_checkIndex_2214a : Cond.static yJ2_checkIndex_2214a ∈ px_G := px_mem 1250 (by decide +kernel) rfl
set_option maxRecDepth 100000 in
theorem my_J2_length_9d52b : px_my yJ2_length_9d52b cJ2_length_9d52b 1 (some .int) 1 := ⟨⟨px_mem 1254 (by decide +kernel) rfl, px_mem 27 (by decide +kernel) rfl⟩, ⟨by decide, by decide⟩, by decide +kernel, by decide⟩
set_option maxRecDepth 100000 in
theorem sv_J2_length_9d52b : Cond.static yJ2_length_9d52b ∈ px_G := px_mem 1253 (by decide +kernel) rfl
set_option maxRecDepth 100000 in
theorem my_J2_getChar_3b067 : px_my yJ2_getChar_3b067 cJ2_getChar_3b067 2 (some .char) 2 := ⟨⟨px_mem 1258 (by decide +kernel) rfl, px_mem 27 (by decide +kernel) rfl⟩, ⟨by decide, by decide⟩, by decide +kernel, by decide⟩
set_option maxRecDepth 100000 in
theorem sv_J2_getChar_3b067 : Cond.static yJ2_getChar_3b067 ∈ px_G := px_mem 1257 (by decide +kernel) rfl
set_option maxRecDepth 100000 in
theorem my_X6_scanNumber : px_my yX6_scanNumber cX6_scanNumber 1 none 0 := ⟨⟨px_mem 1268 (by decide +kernel) rfl, px_mem 5 (by decide +kernel) rfl⟩, ⟨by decide, by decide⟩, by decide +kernel, by decide⟩
set_option maxRecDepth 100000 in
theorem iv_X6_scanNumber : Cond.instanceMethod yX6_scanNumber ∈ px_G ∧ Cond.selects (px_RC 6) yX6_scanNumber yX6_scanNumber ∈ px_G := ⟨px_mem 1267 (by decide +kernel) rfl, px_mems 74 (by decide +kernel) rfl⟩
set_option maxRecDepth 100000 in
theorem my_X6_goesOn : px_my yX6_goesOn cX6_goesOn 1 (some .boolean) 0 := ⟨⟨px_mem 1272 (by decide +kernel) rfl, px_mem 5 (by decide +kernel) rfl⟩, ⟨by decide, by decide⟩, by decide +kernel, by decide⟩
set_option maxRecDepth 100000 in
theorem iv_X6_goesOn : Cond.instanceMethod yX6_goesOn ∈ px_G ∧ Cond.selects (px_RC 6) yX6_goesOn yX6_goesOn ∈ px_G := ⟨px_mem 1271 (by decide +kernel) rfl, px_mems 75 (by decide +kernel) rfl⟩
set_option maxRecDepth 100000 in
theorem my_X6_readRule : px_my yX6_readRule cX6_readRule 2 none 0 := ⟨⟨px_mem 1276 (by decide +kernel) rfl, px_mem 5 (by decide +kernel) rfl⟩, ⟨by decide, by decide⟩, by decide +kernel, by decide⟩
set_option maxRecDepth 100000 in
theorem iv_X6_readRule : Cond.instanceMethod yX6_readRule ∈ px_G ∧ Cond.selects (px_RC 6) yX6_readRule yX6_readRule ∈ px_G := ⟨px_mem 1275 (by decide +kernel) rfl, px_mems 76 (by decide +kernel) rfl⟩
set_option maxRecDepth 100000 in
theorem my_X6_refuse : px_my yX6_refuse cX6_refuse 2 none 1 := ⟨⟨px_mem 1280 (by decide +kernel) rfl, px_mem 5 (by decide +kernel) rfl⟩, ⟨by decide, by decide⟩, by decide +kernel, by decide⟩
set_option maxRecDepth 100000 in
theorem iv_X6_refuse : Cond.instanceMethod yX6_refuse ∈ px_G ∧ Cond.selects (px_RC 6) yX6_refuse yX6_refuse ∈ px_G := ⟨px_mem 1279 (by decide +kernel) rfl, px_mems 77 (by decide +kernel) rfl⟩
set_option maxRecDepth 100000 in
theorem my_X6_demand : px_my yX6_demand cX6_demand 2 none 1 := ⟨⟨px_mem 1284 (by decide +kernel) rfl, px_mem 5 (by decide +kernel) rfl⟩, ⟨by decide, by decide⟩, by decide +kernel, by decide⟩
set_option maxRecDepth 100000 in
theorem iv_X6_demand : Cond.instanceMethod yX6_demand ∈ px_G ∧ Cond.selects (px_RC 6) yX6_demand yX6_demand ∈ px_G := ⟨px_mem 1283 (by decide +kernel) rfl, px_mems 78 (by decide +kernel) rfl⟩
set_option maxRecDepth 100000 in
theorem my_X6_readChoice : px_my yX6_readChoice cX6_readChoice 2 none 0 := ⟨⟨px_mem 1288 (by decide +kernel) rfl, px_mem 5 (by decide +kernel) rfl⟩, ⟨by decide, by decide⟩, by decide +kernel, by decide⟩
set_option maxRecDepth 100000 in
theorem iv_X6_readChoice : Cond.instanceMethod yX6_readChoice ∈ px_G ∧ Cond.selects (px_RC 6) yX6_readChoice yX6_readChoice ∈ px_G := ⟨px_mem 1287 (by decide +kernel) rfl, px_mems 79 (by decide +kernel) rfl⟩
set_option maxRecDepth 100000 in
theorem my_X6_readBoth : px_my yX6_readBoth cX6_readBoth 2 none 0 := ⟨⟨px_mem 1292 (by decide +kernel) rfl, px_mem 5 (by decide +kernel) rfl⟩, ⟨by decide, by decide⟩, by decide +kernel, by decide⟩
set_option maxRecDepth 100000 in
theorem iv_X6_readBoth : Cond.instanceMethod yX6_readBoth ∈ px_G ∧ Cond.selects (px_RC 6) yX6_readBoth yX6_readBoth ∈ px_G := ⟨px_mem 1291 (by decide +kernel) rfl, px_mems 80 (by decide +kernel) rfl⟩
set_option maxRecDepth 100000 in
theorem my_X6_readTest : px_my yX6_readTest cX6_readTest 2 none 0 := ⟨⟨px_mem 1296 (by decide +kernel) rfl, px_mem 5 (by decide +kernel) rfl⟩, ⟨by decide, by decide⟩, by decide +kernel, by decide⟩
set_option maxRecDepth 100000 in
theorem iv_X6_readTest : Cond.instanceMethod yX6_readTest ∈ px_G ∧ Cond.selects (px_RC 6) yX6_readTest yX6_readTest ∈ px_G := ⟨px_mem 1295 (by decide +kernel) rfl, px_mems 81 (by decide +kernel) rfl⟩
set_option maxRecDepth 100000 in
theorem my_X6_enter : px_my yX6_enter cX6_enter 1 none 0 := ⟨⟨px_mem 1300 (by decide +kernel) rfl, px_mem 5 (by decide +kernel) rfl⟩, ⟨by decide, by decide⟩, by decide +kernel, by decide⟩
set_option maxRecDepth 100000 in
theorem iv_X6_enter : Cond.instanceMethod yX6_enter ∈ px_G ∧ Cond.selects (px_RC 6) yX6_enter yX6_enter ∈ px_G := ⟨px_mem 1299 (by decide +kernel) rfl, px_mems 82 (by decide +kernel) rfl⟩
set_option maxRecDepth 100000 in
theorem my_X7_add : px_my yX7_add cX7_add 2 none 1 := ⟨⟨px_mem 1304 (by decide +kernel) rfl, px_mem 6 (by decide +kernel) rfl⟩, ⟨by decide, by decide⟩, by decide +kernel, by decide⟩
set_option maxRecDepth 100000 in
theorem iv_X7_add : Cond.instanceMethod yX7_add ∈ px_G ∧ Cond.selects (px_RC 7) yX7_add yX7_add ∈ px_G := ⟨px_mem 1303 (by decide +kernel) rfl, px_mems 83 (by decide +kernel) rfl⟩
set_option maxRecDepth 100000 in
theorem my_X6_readSum : px_my yX6_readSum cX6_readSum 3 none 0 := ⟨⟨px_mem 1308 (by decide +kernel) rfl, px_mem 5 (by decide +kernel) rfl⟩, ⟨by decide, by decide⟩, by decide +kernel, by decide⟩
set_option maxRecDepth 100000 in
theorem iv_X6_readSum : Cond.instanceMethod yX6_readSum ∈ px_G ∧ Cond.selects (px_RC 6) yX6_readSum yX6_readSum ∈ px_G := ⟨px_mem 1307 (by decide +kernel) rfl, px_mems 84 (by decide +kernel) rfl⟩
set_option maxRecDepth 100000 in
theorem my_X6_readProduct : px_my yX6_readProduct cX6_readProduct 3 none 0 := ⟨⟨px_mem 1312 (by decide +kernel) rfl, px_mem 5 (by decide +kernel) rfl⟩, ⟨by decide, by decide⟩, by decide +kernel, by decide⟩
set_option maxRecDepth 100000 in
theorem iv_X6_readProduct : Cond.instanceMethod yX6_readProduct ∈ px_G ∧ Cond.selects (px_RC 6) yX6_readProduct yX6_readProduct ∈ px_G := ⟨px_mem 1311 (by decide +kernel) rfl, px_mems 85 (by decide +kernel) rfl⟩
set_option maxRecDepth 100000 in
theorem my_X6_readUnit : px_my yX6_readUnit cX6_readUnit 1 none 0 := ⟨⟨px_mem 1316 (by decide +kernel) rfl, px_mem 5 (by decide +kernel) rfl⟩, ⟨by decide, by decide⟩, by decide +kernel, by decide⟩
set_option maxRecDepth 100000 in
theorem iv_X6_readUnit : Cond.instanceMethod yX6_readUnit ∈ px_G ∧ Cond.selects (px_RC 6) yX6_readUnit yX6_readUnit ∈ px_G := ⟨px_mem 1315 (by decide +kernel) rfl, px_mems 86 (by decide +kernel) rfl⟩
set_option maxRecDepth 100000 in
theorem my_X6_readNumber : px_my yX6_readNumber cX6_readNumber 1 none 0 := ⟨⟨px_mem 1320 (by decide +kernel) rfl, px_mem 5 (by decide +kernel) rfl⟩, ⟨by decide, by decide⟩, by decide +kernel, by decide⟩
set_option maxRecDepth 100000 in
theorem iv_X6_readNumber : Cond.instanceMethod yX6_readNumber ∈ px_G ∧ Cond.selects (px_RC 6) yX6_readNumber yX6_readNumber ∈ px_G := ⟨px_mem 1319 (by decide +kernel) rfl, px_mems 87 (by decide +kernel) rfl⟩
set_option maxRecDepth 100000 in
theorem my_X6_readPair : px_my yX6_readPair cX6_readPair 2 none 1 := ⟨⟨px_mem 1324 (by decide +kernel) rfl, px_mem 5 (by decide +kernel) rfl⟩, ⟨by decide, by decide⟩, by decide +kernel, by decide⟩
set_option maxRecDepth 100000 in
theorem iv_X6_readPair : Cond.instanceMethod yX6_readPair ∈ px_G ∧ Cond.selects (px_RC 6) yX6_readPair yX6_readPair ∈ px_G := ⟨px_mem 1323 (by decide +kernel) rfl, px_mems 88 (by decide +kernel) rfl⟩
set_option maxRecDepth 100000 in
theorem my_X6_demandComparing : px_my yX6_demandComparing cX6_demandComparing 1 none 0 := ⟨⟨px_mem 1328 (by decide +kernel) rfl, px_mem 5 (by decide +kernel) rfl⟩, ⟨by decide, by decide⟩, by decide +kernel, by decide⟩
set_option maxRecDepth 100000 in
theorem iv_X6_demandComparing : Cond.instanceMethod yX6_demandComparing ∈ px_G ∧ Cond.selects (px_RC 6) yX6_demandComparing yX6_demandComparing ∈ px_G := ⟨px_mem 1327 (by decide +kernel) rfl, px_mems 89 (by decide +kernel) rfl⟩
set_option maxRecDepth 100000 in
theorem my_X7_endRule : px_my yX7_endRule cX7_endRule 2 none 1 := ⟨⟨px_mem 1332 (by decide +kernel) rfl, px_mem 6 (by decide +kernel) rfl⟩, ⟨by decide, by decide⟩, by decide +kernel, by decide⟩
set_option maxRecDepth 100000 in
theorem iv_X7_endRule : Cond.instanceMethod yX7_endRule ∈ px_G ∧ Cond.selects (px_RC 7) yX7_endRule yX7_endRule ∈ px_G := ⟨px_mem 1331 (by decide +kernel) rfl, px_mems 90 (by decide +kernel) rfl⟩
set_option maxRecDepth 100000 in
theorem my_X11_dust : px_my yX11_dust cX11_dust 3 (some .int) 2 := ⟨⟨px_mem 1339 (by decide +kernel) rfl, px_mem 1 (by decide +kernel) rfl⟩, ⟨by decide, by decide⟩, by decide +kernel, by decide⟩
set_option maxRecDepth 100000 in
theorem iv_X11_dust : Cond.instanceMethod yX11_dust ∈ px_G ∧ Cond.selects (px_RC 11) yX11_dust yX11_dust ∈ px_G := ⟨px_mem 1337 (by decide +kernel) rfl, px_mem 1338 (by decide +kernel) rfl⟩
set_option maxRecDepth 100000 in
theorem my_X9_addDust : px_my yX9_addDust cX9_addDust 3 (some .int) 2 := ⟨⟨px_mem 1343 (by decide +kernel) rfl, px_mem 4 (by decide +kernel) rfl⟩, ⟨by decide, by decide⟩, by decide +kernel, by decide⟩
set_option maxRecDepth 100000 in
theorem iv_X9_addDust : Cond.instanceMethod yX9_addDust ∈ px_G ∧ Cond.selects (px_RC 9) yX9_addDust yX9_addDust ∈ px_G := ⟨px_mem 1342 (by decide +kernel) rfl, px_mems 91 (by decide +kernel) rfl⟩
set_option maxRecDepth 100000 in
theorem my_X11_fly : px_my yX11_fly cX11_fly 2 (some .int) 1 := ⟨⟨px_mem 1350 (by decide +kernel) rfl, px_mem 1 (by decide +kernel) rfl⟩, ⟨by decide, by decide⟩, by decide +kernel, by decide⟩
set_option maxRecDepth 100000 in
theorem iv_X11_fly : Cond.instanceMethod yX11_fly ∈ px_G ∧ Cond.selects (px_RC 11) yX11_fly yX11_fly ∈ px_G := ⟨px_mem 1348 (by decide +kernel) rfl, px_mem 1349 (by decide +kernel) rfl⟩
set_option maxRecDepth 100000 in
theorem my_X9_flyFor : px_my yX9_flyFor cX9_flyFor 6 (some .int) 3 := ⟨⟨px_mem 1354 (by decide +kernel) rfl, px_mem 4 (by decide +kernel) rfl⟩, ⟨by decide, by decide⟩, by decide +kernel, by decide⟩
set_option maxRecDepth 100000 in
theorem iv_X9_flyFor : Cond.instanceMethod yX9_flyFor ∈ px_G ∧ Cond.selects (px_RC 9) yX9_flyFor yX9_flyFor ∈ px_G := ⟨px_mem 1353 (by decide +kernel) rfl, px_mems 92 (by decide +kernel) rfl⟩
set_option maxRecDepth 100000 in
theorem my_X9_flyDay : px_my yX9_flyDay cX9_flyDay 7 none 2 := ⟨⟨px_mem 1358 (by decide +kernel) rfl, px_mem 4 (by decide +kernel) rfl⟩, ⟨by decide, by decide⟩, by decide +kernel, by decide⟩
set_option maxRecDepth 100000 in
theorem iv_X9_flyDay : Cond.instanceMethod yX9_flyDay ∈ px_G ∧ Cond.selects (px_RC 9) yX9_flyDay yX9_flyDay ∈ px_G := ⟨px_mem 1357 (by decide +kernel) rfl, px_mems 93 (by decide +kernel) rfl⟩
set_option maxRecDepth 100000 in
theorem my_X9_tearByDust : px_my yX9_tearByDust cX9_tearByDust 3 none 1 := ⟨⟨px_mem 1365 (by decide +kernel) rfl, px_mem 4 (by decide +kernel) rfl⟩, ⟨by decide, by decide⟩, by decide +kernel, by decide⟩
set_option maxRecDepth 100000 in
theorem iv_X9_tearByDust : Cond.instanceMethod yX9_tearByDust ∈ px_G ∧ Cond.selects (px_RC 9) yX9_tearByDust yX9_tearByDust ∈ px_G := ⟨px_mem 1364 (by decide +kernel) rfl, px_mems 94 (by decide +kernel) rfl⟩
set_option maxRecDepth 100000 in
theorem my_X5_live : px_my yX5_live cX5_live 4 none 2 := ⟨⟨px_mem 1370 (by decide +kernel) rfl, px_mem 19 (by decide +kernel) rfl⟩, ⟨by decide, by decide⟩, by decide +kernel, by decide⟩
set_option maxRecDepth 100000 in
theorem iv_X5_live : Cond.instanceMethod yX5_live ∈ px_G ∧ Cond.selects (px_RC 5) yX5_live yX5_live ∈ px_G := ⟨px_mem 1369 (by decide +kernel) rfl, px_mems 95 (by decide +kernel) rfl⟩
set_option maxRecDepth 100000 in
theorem my_X9_takeNote : px_my yX9_takeNote cX9_takeNote 4 none 2 := ⟨⟨px_mem 1374 (by decide +kernel) rfl, px_mem 4 (by decide +kernel) rfl⟩, ⟨by decide, by decide⟩, by decide +kernel, by decide⟩
set_option maxRecDepth 100000 in
theorem iv_X9_takeNote : Cond.instanceMethod yX9_takeNote ∈ px_G ∧ Cond.selects (px_RC 9) yX9_takeNote yX9_takeNote ∈ px_G := ⟨px_mem 1373 (by decide +kernel) rfl, px_mems 96 (by decide +kernel) rfl⟩
set_option maxRecDepth 100000 in
theorem my_X11_note : px_my yX11_note cX11_note 3 (some .int) 2 := ⟨⟨px_mem 1382 (by decide +kernel) rfl, px_mem 1 (by decide +kernel) rfl⟩, ⟨by decide, by decide⟩, by decide +kernel, by decide⟩
set_option maxRecDepth 100000 in
theorem iv_X11_note : Cond.instanceMethod yX11_note ∈ px_G ∧ Cond.selects (px_RC 11) yX11_note yX11_note ∈ px_G := ⟨px_mem 1380 (by decide +kernel) rfl, px_mem 1381 (by decide +kernel) rfl⟩
set_option maxRecDepth 100000 in
theorem my_X9_noteOf : px_my yX9_noteOf cX9_noteOf 4 (some .int) 2 := ⟨⟨px_mem 1386 (by decide +kernel) rfl, px_mem 4 (by decide +kernel) rfl⟩, ⟨by decide, by decide⟩, by decide +kernel, by decide⟩
set_option maxRecDepth 100000 in
theorem iv_X9_noteOf : Cond.instanceMethod yX9_noteOf ∈ px_G ∧ Cond.selects (px_RC 9) yX9_noteOf yX9_noteOf ∈ px_G := ⟨px_mem 1385 (by decide +kernel) rfl, px_mems 97 (by decide +kernel) rfl⟩
set_option maxRecDepth 100000 in
theorem my_X11_coat : px_my yX11_coat cX11_coat 3 (some .int) 2 := ⟨⟨px_mem 1394 (by decide +kernel) rfl, px_mem 1 (by decide +kernel) rfl⟩, ⟨by decide, by decide⟩, by decide +kernel, by decide⟩
set_option maxRecDepth 100000 in
theorem iv_X11_coat : Cond.instanceMethod yX11_coat ∈ px_G ∧ Cond.selects (px_RC 11) yX11_coat yX11_coat ∈ px_G := ⟨px_mem 1392 (by decide +kernel) rfl, px_mem 1393 (by decide +kernel) rfl⟩
set_option maxRecDepth 100000 in
theorem my_X3_addCoat : px_my yX3_addCoat cX3_addCoat 3 (some .int) 2 := ⟨⟨px_mem 1398 (by decide +kernel) rfl, px_mem 7 (by decide +kernel) rfl⟩, ⟨by decide, by decide⟩, by decide +kernel, by decide⟩
set_option maxRecDepth 100000 in
theorem iv_X3_addCoat : Cond.instanceMethod yX3_addCoat ∈ px_G ∧ Cond.selects (px_RC 3) yX3_addCoat yX3_addCoat ∈ px_G := ⟨px_mem 1397 (by decide +kernel) rfl, px_mems 98 (by decide +kernel) rfl⟩
set_option maxRecDepth 100000 in
theorem my_X11_sight : px_my yX11_sight cX11_sight 4 (some .int) 3 := ⟨⟨px_mem 1405 (by decide +kernel) rfl, px_mem 1 (by decide +kernel) rfl⟩, ⟨by decide, by decide⟩, by decide +kernel, by decide⟩
set_option maxRecDepth 100000 in
theorem iv_X11_sight : Cond.instanceMethod yX11_sight ∈ px_G ∧ Cond.selects (px_RC 11) yX11_sight yX11_sight ∈ px_G := ⟨px_mem 1403 (by decide +kernel) rfl, px_mem 1404 (by decide +kernel) rfl⟩
set_option maxRecDepth 100000 in
theorem my_X3_addSight : px_my yX3_addSight cX3_addSight 4 (some .int) 3 := ⟨⟨px_mem 1410 (by decide +kernel) rfl, px_mem 7 (by decide +kernel) rfl⟩, ⟨by decide, by decide⟩, by decide +kernel, by decide⟩
set_option maxRecDepth 100000 in
theorem iv_X3_addSight : Cond.instanceMethod yX3_addSight ∈ px_G ∧ Cond.selects (px_RC 3) yX3_addSight yX3_addSight ∈ px_G := ⟨px_mem 1409 (by decide +kernel) rfl, px_mems 99 (by decide +kernel) rfl⟩
set_option maxRecDepth 100000 in
theorem my_X11_fits : px_my yX11_fits cX11_fits 2 (some .int) 1 := ⟨⟨px_mem 1417 (by decide +kernel) rfl, px_mem 1 (by decide +kernel) rfl⟩, ⟨by decide, by decide⟩, by decide +kernel, by decide⟩
set_option maxRecDepth 100000 in
theorem iv_X11_fits : Cond.instanceMethod yX11_fits ∈ px_G ∧ Cond.selects (px_RC 11) yX11_fits yX11_fits ∈ px_G := ⟨px_mem 1415 (by decide +kernel) rfl, px_mem 1416 (by decide +kernel) rfl⟩
set_option maxRecDepth 100000 in
theorem my_X11_isFitLength : px_my yX11_isFitLength cX11_isFitLength 2 (some .boolean) 1 := ⟨⟨px_mem 1421 (by decide +kernel) rfl, px_mem 1 (by decide +kernel) rfl⟩, ⟨by decide, by decide⟩, by decide +kernel, by decide⟩
set_option maxRecDepth 100000 in
theorem iv_X11_isFitLength : Cond.instanceMethod yX11_isFitLength ∈ px_G ∧ Cond.selects (px_RC 11) yX11_isFitLength yX11_isFitLength ∈ px_G := ⟨px_mem 1420 (by decide +kernel) rfl, px_mems 100 (by decide +kernel) rfl⟩
set_option maxRecDepth 100000 in
theorem my_X3_findFits : px_my yX3_findFits cX3_findFits 6 (some .int) 2 := ⟨⟨px_mem 1425 (by decide +kernel) rfl, px_mem 7 (by decide +kernel) rfl⟩, ⟨by decide, by decide⟩, by decide +kernel, by decide⟩
set_option maxRecDepth 100000 in
theorem iv_X3_findFits : Cond.instanceMethod yX3_findFits ∈ px_G ∧ Cond.selects (px_RC 3) yX3_findFits yX3_findFits ∈ px_G := ⟨px_mem 1424 (by decide +kernel) rfl, px_mems 101 (by decide +kernel) rfl⟩
set_option maxRecDepth 100000 in
theorem my_X3_tableShares : px_my yX3_tableShares cX3_tableShares 6 none 2 := ⟨⟨px_mem 1429 (by decide +kernel) rfl, px_mem 7 (by decide +kernel) rfl⟩, ⟨by decide, by decide⟩, by decide +kernel, by decide⟩
set_option maxRecDepth 100000 in
theorem iv_X3_tableShares : Cond.instanceMethod yX3_tableShares ∈ px_G ∧ Cond.selects (px_RC 3) yX3_tableShares yX3_tableShares ∈ px_G := ⟨px_mem 1428 (by decide +kernel) rfl, px_mems 102 (by decide +kernel) rfl⟩
set_option maxRecDepth 100000 in
theorem my_X3_shareAt : px_my yX3_shareAt cX3_shareAt 3 (some .int) 3 := ⟨⟨px_mem 1433 (by decide +kernel) rfl, px_mem 7 (by decide +kernel) rfl⟩, ⟨by decide, by decide⟩, by decide +kernel, by decide⟩
set_option maxRecDepth 100000 in
theorem sv_X3_shareAt : Cond.static yX3_shareAt ∈ px_G := px_mem 1432 (by decide +kernel) rfl
set_option maxRecDepth 100000 in
theorem my_X3_packedRow : px_my yX3_packedRow cX3_packedRow 4 (some .int) 1 := ⟨⟨px_mem 1438 (by decide +kernel) rfl, px_mem 7 (by decide +kernel) rfl⟩, ⟨by decide, by decide⟩, by decide +kernel, by decide⟩
set_option maxRecDepth 100000 in
theorem iv_X3_packedRow : Cond.instanceMethod yX3_packedRow ∈ px_G ∧ Cond.selects (px_RC 3) yX3_packedRow yX3_packedRow ∈ px_G := ⟨px_mem 1437 (by decide +kernel) rfl, px_mems 103 (by decide +kernel) rfl⟩
set_option maxRecDepth 100000 in
theorem my_X3_holdsAll : px_my yX3_holdsAll cX3_holdsAll 5 (some .boolean) 2 := ⟨⟨px_mem 1442 (by decide +kernel) rfl, px_mem 7 (by decide +kernel) rfl⟩, ⟨by decide, by decide⟩, by decide +kernel, by decide⟩
set_option maxRecDepth 100000 in
theorem iv_X3_holdsAll : Cond.instanceMethod yX3_holdsAll ∈ px_G ∧ Cond.selects (px_RC 3) yX3_holdsAll yX3_holdsAll ∈ px_G := ⟨px_mem 1441 (by decide +kernel) rfl, px_mems 104 (by decide +kernel) rfl⟩
set_option maxRecDepth 100000 in
theorem my_X3_hiddenPush : px_my yX3_hiddenPush cX3_hiddenPush 6 (some .int) 3 := ⟨⟨px_mem 1446 (by decide +kernel) rfl, px_mem 7 (by decide +kernel) rfl⟩, ⟨by decide, by decide⟩, by decide +kernel, by decide⟩
set_option maxRecDepth 100000 in
theorem iv_X3_hiddenPush : Cond.instanceMethod yX3_hiddenPush ∈ px_G ∧ Cond.selects (px_RC 3) yX3_hiddenPush yX3_hiddenPush ∈ px_G := ⟨px_mem 1445 (by decide +kernel) rfl, px_mems 105 (by decide +kernel) rfl⟩
set_option maxRecDepth 100000 in
theorem my_X3_coatIn : px_my yX3_coatIn cX3_coatIn 2 (some .int) 2 := ⟨⟨px_mem 1449 (by decide +kernel) rfl, px_mem 7 (by decide +kernel) rfl⟩, ⟨by decide, by decide⟩, by decide +kernel, by decide⟩
set_option maxRecDepth 100000 in
theorem sv_X3_coatIn : Cond.static yX3_coatIn ∈ px_G := px_mem 1448 (by decide +kernel) rfl
set_option maxRecDepth 100000 in
theorem my_X11_fit : px_my yX11_fit cX11_fit 3 (some .int) 2 := ⟨⟨px_mem 1458 (by decide +kernel) rfl, px_mem 1 (by decide +kernel) rfl⟩, ⟨by decide, by decide⟩, by decide +kernel, by decide⟩
set_option maxRecDepth 100000 in
theorem iv_X11_fit : Cond.instanceMethod yX11_fit ∈ px_G ∧ Cond.selects (px_RC 11) yX11_fit yX11_fit ∈ px_G := ⟨px_mem 1456 (by decide +kernel) rfl, px_mem 1457 (by decide +kernel) rfl⟩
set_option maxRecDepth 100000 in
theorem my_X3_coatOf : px_my yX3_coatOf cX3_coatOf 3 (some .int) 2 := ⟨⟨px_mem 1462 (by decide +kernel) rfl, px_mem 7 (by decide +kernel) rfl⟩, ⟨by decide, by decide⟩, by decide +kernel, by decide⟩
set_option maxRecDepth 100000 in
theorem iv_X3_coatOf : Cond.instanceMethod yX3_coatOf ∈ px_G ∧ Cond.selects (px_RC 3) yX3_coatOf yX3_coatOf ∈ px_G := ⟨px_mem 1461 (by decide +kernel) rfl, px_mems 106 (by decide +kernel) rfl⟩
set_option maxRecDepth 100000 in
theorem my_X11_shows : px_my yX11_shows cX11_shows 2 (some .int) 1 := ⟨⟨px_mem 1470 (by decide +kernel) rfl, px_mem 1 (by decide +kernel) rfl⟩, ⟨by decide, by decide⟩, by decide +kernel, by decide⟩
set_option maxRecDepth 100000 in
theorem iv_X11_shows : Cond.instanceMethod yX11_shows ∈ px_G ∧ Cond.selects (px_RC 11) yX11_shows yX11_shows ∈ px_G := ⟨px_mem 1468 (by decide +kernel) rfl, px_mem 1469 (by decide +kernel) rfl⟩
set_option maxRecDepth 100000 in
theorem my_X3_bestSlant : px_my yX3_bestSlant cX3_bestSlant 6 (some .int) 1 := ⟨⟨px_mem 1474 (by decide +kernel) rfl, px_mem 7 (by decide +kernel) rfl⟩, ⟨by decide, by decide⟩, by decide +kernel, by decide⟩
set_option maxRecDepth 100000 in
theorem iv_X3_bestSlant : Cond.instanceMethod yX3_bestSlant ∈ px_G ∧ Cond.selects (px_RC 3) yX3_bestSlant yX3_bestSlant ∈ px_G := ⟨px_mem 1473 (by decide +kernel) rfl, px_mems 107 (by decide +kernel) rfl⟩
set_option maxRecDepth 100000 in
theorem my_X3_unlikePushes : px_my yX3_unlikePushes cX3_unlikePushes 8 (some .int) 2 := ⟨⟨px_mem 1478 (by decide +kernel) rfl, px_mem 7 (by decide +kernel) rfl⟩, ⟨by decide, by decide⟩, by decide +kernel, by decide⟩
set_option maxRecDepth 100000 in
theorem iv_X3_unlikePushes : Cond.instanceMethod yX3_unlikePushes ∈ px_G ∧ Cond.selects (px_RC 3) yX3_unlikePushes yX3_unlikePushes ∈ px_G := ⟨px_mem 1477 (by decide +kernel) rfl, px_mems 108 (by decide +kernel) rfl⟩
set_option maxRecDepth 100000 in
theorem my_X11_knot : px_my yX11_knot cX11_knot 4 (some .int) 3 := ⟨⟨px_mem 1485 (by decide +kernel) rfl, px_mem 1 (by decide +kernel) rfl⟩, ⟨by decide, by decide⟩, by decide +kernel, by decide⟩
set_option maxRecDepth 100000 in
theorem iv_X11_knot : Cond.instanceMethod yX11_knot ∈ px_G ∧ Cond.selects (px_RC 11) yX11_knot yX11_knot ∈ px_G := ⟨px_mem 1483 (by decide +kernel) rfl, px_mem 1484 (by decide +kernel) rfl⟩
set_option maxRecDepth 100000 in
theorem my_X4_addKnot : px_my yX4_addKnot cX4_addKnot 4 (some .int) 3 := ⟨⟨px_mem 1489 (by decide +kernel) rfl, px_mem 8 (by decide +kernel) rfl⟩, ⟨by decide, by decide⟩, by decide +kernel, by decide⟩
set_option maxRecDepth 100000 in
theorem iv_X4_addKnot : Cond.instanceMethod yX4_addKnot ∈ px_G ∧ Cond.selects (px_RC 4) yX4_addKnot yX4_addKnot ∈ px_G := ⟨px_mem 1488 (by decide +kernel) rfl, px_mems 109 (by decide +kernel) rfl⟩
set_option maxRecDepth 100000 in
theorem my_X11_pull : px_my yX11_pull cX11_pull 4 none 3 := ⟨⟨px_mem 1496 (by decide +kernel) rfl, px_mem 1 (by decide +kernel) rfl⟩, ⟨by decide, by decide⟩, by decide +kernel, by decide⟩
set_option maxRecDepth 100000 in
theorem iv_X11_pull : Cond.instanceMethod yX11_pull ∈ px_G ∧ Cond.selects (px_RC 11) yX11_pull yX11_pull ∈ px_G := ⟨px_mem 1494 (by decide +kernel) rfl, px_mem 1495 (by decide +kernel) rfl⟩
set_option maxRecDepth 100000 in
theorem my_X4_hasKnot : px_my yX4_hasKnot cX4_hasKnot 2 (some .boolean) 1 := ⟨⟨px_mem 1500 (by decide +kernel) rfl, px_mem 8 (by decide +kernel) rfl⟩, ⟨by decide, by decide⟩, by decide +kernel, by decide⟩
set_option maxRecDepth 100000 in
theorem iv_X4_hasKnot : Cond.instanceMethod yX4_hasKnot ∈ px_G ∧ Cond.selects (px_RC 4) yX4_hasKnot yX4_hasKnot ∈ px_G := ⟨px_mem 1499 (by decide +kernel) rfl, px_mems 110 (by decide +kernel) rfl⟩
set_option maxRecDepth 100000 in
theorem my_X4_setPull : px_my yX4_setPull cX4_setPull 4 none 3 := ⟨⟨px_mem 1505 (by decide +kernel) rfl, px_mem 8 (by decide +kernel) rfl⟩, ⟨by decide, by decide⟩, by decide +kernel, by decide⟩
set_option maxRecDepth 100000 in
theorem iv_X4_setPull : Cond.instanceMethod yX4_setPull ∈ px_G ∧ Cond.selects (px_RC 4) yX4_setPull yX4_setPull ∈ px_G := ⟨px_mem 1504 (by decide +kernel) rfl, px_mems 111 (by decide +kernel) rfl⟩
set_option maxRecDepth 100000 in
theorem my_X11_string : px_my yX11_string cX11_string 3 (some .int) 2 := ⟨⟨px_mem 1512 (by decide +kernel) rfl, px_mem 1 (by decide +kernel) rfl⟩, ⟨by decide, by decide⟩, by decide +kernel, by decide⟩
set_option maxRecDepth 100000 in
theorem iv_X11_string : Cond.instanceMethod yX11_string ∈ px_G ∧ Cond.selects (px_RC 11) yX11_string yX11_string ∈ px_G := ⟨px_mem 1510 (by decide +kernel) rfl, px_mem 1511 (by decide +kernel) rfl⟩
set_option maxRecDepth 100000 in
theorem my_X4_addString : px_my yX4_addString cX4_addString 3 (some .int) 2 := ⟨⟨px_mem 1516 (by decide +kernel) rfl, px_mem 8 (by decide +kernel) rfl⟩, ⟨by decide, by decide⟩, by decide +kernel, by decide⟩
set_option maxRecDepth 100000 in
theorem iv_X4_addString : Cond.instanceMethod yX4_addString ∈ px_G ∧ Cond.selects (px_RC 4) yX4_addString yX4_addString ∈ px_G := ⟨px_mem 1515 (by decide +kernel) rfl, px_mems 112 (by decide +kernel) rfl⟩
set_option maxRecDepth 100000 in
theorem my_X4_isTied : px_my yX4_isTied cX4_isTied 5 (some .boolean) 2 := ⟨⟨px_mem 1520 (by decide +kernel) rfl, px_mem 8 (by decide +kernel) rfl⟩, ⟨by decide, by decide⟩, by decide +kernel, by decide⟩
set_option maxRecDepth 100000 in
theorem iv_X4_isTied : Cond.instanceMethod yX4_isTied ∈ px_G ∧ Cond.selects (px_RC 4) yX4_isTied yX4_isTied ∈ px_G := ⟨px_mem 1519 (by decide +kernel) rfl, px_mems 113 (by decide +kernel) rfl⟩
set_option maxRecDepth 100000 in
theorem my_X11_slack : px_my yX11_slack cX11_slack 2 (some .boolean) 1 := ⟨⟨px_mem 1527 (by decide +kernel) rfl, px_mem 1 (by decide +kernel) rfl⟩, ⟨by decide, by decide⟩, by decide +kernel, by decide⟩
set_option maxRecDepth 100000 in
theorem iv_X11_slack : Cond.instanceMethod yX11_slack ∈ px_G ∧ Cond.selects (px_RC 11) yX11_slack yX11_slack ∈ px_G := ⟨px_mem 1525 (by decide +kernel) rfl, px_mem 1526 (by decide +kernel) rfl⟩
set_option maxRecDepth 100000 in
theorem my_X4_hasString : px_my yX4_hasString cX4_hasString 2 (some .boolean) 1 := ⟨⟨px_mem 1531 (by decide +kernel) rfl, px_mem 8 (by decide +kernel) rfl⟩, ⟨by decide, by decide⟩, by decide +kernel, by decide⟩
set_option maxRecDepth 100000 in
theorem iv_X4_hasString : Cond.instanceMethod yX4_hasString ∈ px_G ∧ Cond.selects (px_RC 4) yX4_hasString yX4_hasString ∈ px_G := ⟨px_mem 1530 (by decide +kernel) rfl, px_mems 114 (by decide +kernel) rfl⟩
set_option maxRecDepth 100000 in
theorem my_X11_taut : px_my yX11_taut cX11_taut 2 (some .boolean) 1 := ⟨⟨px_mem 1538 (by decide +kernel) rfl, px_mem 1 (by decide +kernel) rfl⟩, ⟨by decide, by decide⟩, by decide +kernel, by decide⟩
set_option maxRecDepth 100000 in
theorem iv_X11_taut : Cond.instanceMethod yX11_taut ∈ px_G ∧ Cond.selects (px_RC 11) yX11_taut yX11_taut ∈ px_G := ⟨px_mem 1536 (by decide +kernel) rfl, px_mem 1537 (by decide +kernel) rfl⟩
set_option maxRecDepth 100000 in
theorem my_X11_ease : px_my yX11_ease cX11_ease 2 (some .long) 1 := ⟨⟨px_mem 1545 (by decide +kernel) rfl, px_mem 1 (by decide +kernel) rfl⟩, ⟨by decide, by decide⟩, by decide +kernel, by decide⟩
set_option maxRecDepth 100000 in
theorem iv_X11_ease : Cond.instanceMethod yX11_ease ∈ px_G ∧ Cond.selects (px_RC 11) yX11_ease yX11_ease ∈ px_G := ⟨px_mem 1543 (by decide +kernel) rfl, px_mem 1544 (by decide +kernel) rfl⟩
set_option maxRecDepth 100000 in
theorem my_X11_offer : px_my yX11_offer cX11_offer 5 (some .int) 4 := ⟨⟨px_mem 1553 (by decide +kernel) rfl, px_mem 1 (by decide +kernel) rfl⟩, ⟨by decide, by decide⟩, by decide +kernel, by decide⟩
set_option maxRecDepth 100000 in
theorem iv_X11_offer : Cond.instanceMethod yX11_offer ∈ px_G ∧ Cond.selects (px_RC 11) yX11_offer yX11_offer ∈ px_G := ⟨px_mem 1551 (by decide +kernel) rfl, px_mem 1552 (by decide +kernel) rfl⟩
set_option maxRecDepth 100000 in
theorem my_X0_addOffer : px_my yX0_addOffer cX0_addOffer 5 (some .int) 4 := ⟨⟨px_mem 1557 (by decide +kernel) rfl, px_mem 9 (by decide +kernel) rfl⟩, ⟨by decide, by decide⟩, by decide +kernel, by decide⟩
set_option maxRecDepth 100000 in
theorem iv_X0_addOffer : Cond.instanceMethod yX0_addOffer ∈ px_G ∧ Cond.selects (px_RC 0) yX0_addOffer yX0_addOffer ∈ px_G := ⟨px_mem 1556 (by decide +kernel) rfl, px_mems 115 (by decide +kernel) rfl⟩
set_option maxRecDepth 100000 in
theorem my_X11_sheet : px_my yX11_sheet cX11_sheet 4 (some .int) 3 := ⟨⟨px_mem 1564 (by decide +kernel) rfl, px_mem 1 (by decide +kernel) rfl⟩, ⟨by decide, by decide⟩, by decide +kernel, by decide⟩
set_option maxRecDepth 100000 in
theorem iv_X11_sheet : Cond.instanceMethod yX11_sheet ∈ px_G ∧ Cond.selects (px_RC 11) yX11_sheet yX11_sheet ∈ px_G := ⟨px_mem 1562 (by decide +kernel) rfl, px_mem 1563 (by decide +kernel) rfl⟩
set_option maxRecDepth 100000 in
theorem my_X0_findBest : px_my yX0_findBest cX0_findBest 5 none 2 := ⟨⟨px_mem 1568 (by decide +kernel) rfl, px_mem 9 (by decide +kernel) rfl⟩, ⟨by decide, by decide⟩, by decide +kernel, by decide⟩
set_option maxRecDepth 100000 in
theorem iv_X0_findBest : Cond.instanceMethod yX0_findBest ∈ px_G ∧ Cond.selects (px_RC 0) yX0_findBest yX0_findBest ∈ px_G := ⟨px_mem 1567 (by decide +kernel) rfl, px_mems 116 (by decide +kernel) rfl⟩
set_option maxRecDepth 100000 in
theorem my_J6_numberOfTrailingZeros_0f7a4 : px_my yJ6_numberOfTrailingZeros_0f7a4 cJ6_numberOfTrailingZeros_0f7a4 2 (some .int) 1 := ⟨⟨px_mem 1571 (by decide +kernel) rfl, px_mem 18 (by decide +kernel) rfl⟩, ⟨by decide, by decide⟩, by decide +kernel, by decide⟩
set_option maxRecDepth 100000 in
theorem sv_J6_numberOfTrailingZeros_0f7a4 : Cond.static yJ6_numberOfTrailingZeros_0f7a4 ∈ px_G := px_mem 1570 (by decide +kernel) rfl
set_option maxRecDepth 100000 in
theorem my_X0_change : px_my yX0_change cX0_change 3 none 1 := ⟨⟨px_mem 1576 (by decide +kernel) rfl, px_mem 9 (by decide +kernel) rfl⟩, ⟨by decide, by decide⟩, by decide +kernel, by decide⟩
set_option maxRecDepth 100000 in
theorem iv_X0_change : Cond.instanceMethod yX0_change ∈ px_G ∧ Cond.selects (px_RC 0) yX0_change yX0_change ∈ px_G := ⟨px_mem 1575 (by decide +kernel) rfl, px_mems 117 (by decide +kernel) rfl⟩
set_option maxRecDepth 100000 in
theorem my_X0_isBetter : px_my yX0_isBetter cX0_isBetter 2 (some .boolean) 0 := ⟨⟨px_mem 1582 (by decide +kernel) rfl, px_mem 9 (by decide +kernel) rfl⟩, ⟨by decide, by decide⟩, by decide +kernel, by decide⟩
set_option maxRecDepth 100000 in
theorem iv_X0_isBetter : Cond.instanceMethod yX0_isBetter ∈ px_G ∧ Cond.selects (px_RC 0) yX0_isBetter yX0_isBetter ∈ px_G := ⟨px_mem 1581 (by decide +kernel) rfl, px_mems 118 (by decide +kernel) rfl⟩
set_option maxRecDepth 100000 in
theorem my_X11_late : px_my yX11_late cX11_late 3 (some .int) 2 := ⟨⟨px_mem 1590 (by decide +kernel) rfl, px_mem 1 (by decide +kernel) rfl⟩, ⟨by decide, by decide⟩, by decide +kernel, by decide⟩
set_option maxRecDepth 100000 in
theorem iv_X11_late : Cond.instanceMethod yX11_late ∈ px_G ∧ Cond.selects (px_RC 11) yX11_late yX11_late ∈ px_G := ⟨px_mem 1588 (by decide +kernel) rfl, px_mem 1589 (by decide +kernel) rfl⟩
set_option maxRecDepth 100000 in
theorem my_X9_daysInAll : px_my yX9_daysInAll cX9_daysInAll 5 (some .int) 3 := ⟨⟨px_mem 1594 (by decide +kernel) rfl, px_mem 4 (by decide +kernel) rfl⟩, ⟨by decide, by decide⟩, by decide +kernel, by decide⟩
set_option maxRecDepth 100000 in
theorem iv_X9_daysInAll : Cond.instanceMethod yX9_daysInAll ∈ px_G ∧ Cond.selects (px_RC 9) yX9_daysInAll yX9_daysInAll ∈ px_G := ⟨px_mem 1593 (by decide +kernel) rfl, px_mems 119 (by decide +kernel) rfl⟩
set_option maxRecDepth 100000 in
theorem my_X11_window : px_my yX11_window cX11_window 2 (some .int) 1 := ⟨⟨px_mem 1601 (by decide +kernel) rfl, px_mem 1 (by decide +kernel) rfl⟩, ⟨by decide, by decide⟩, by decide +kernel, by decide⟩
set_option maxRecDepth 100000 in
theorem iv_X11_window : Cond.instanceMethod yX11_window ∈ px_G ∧ Cond.selects (px_RC 11) yX11_window yX11_window ∈ px_G := ⟨px_mem 1599 (by decide +kernel) rfl, px_mem 1600 (by decide +kernel) rfl⟩
set_option maxRecDepth 100000 in
theorem my_X9_bestWaiting : px_my yX9_bestWaiting cX9_bestWaiting 7 (some .int) 2 := ⟨⟨px_mem 1605 (by decide +kernel) rfl, px_mem 4 (by decide +kernel) rfl⟩, ⟨by decide, by decide⟩, by decide +kernel, by decide⟩
set_option maxRecDepth 100000 in
theorem iv_X9_bestWaiting : Cond.instanceMethod yX9_bestWaiting ∈ px_G ∧ Cond.selects (px_RC 9) yX9_bestWaiting yX9_bestWaiting ∈ px_G := ⟨px_mem 1604 (by decide +kernel) rfl, px_mems 120 (by decide +kernel) rfl⟩
set_option maxRecDepth 100000 in
theorem my_X12_init : px_my yX12_init cX12_init 1 none 0 := ⟨⟨px_mem 1610 (by decide +kernel) rfl, px_mem 10 (by decide +kernel) rfl⟩, ⟨by decide, by decide⟩, by decide +kernel, by decide⟩
set_option maxRecDepth 100000 in
theorem iv_X12_init : Cond.instanceMethod yX12_init ∈ px_G ∧ yX12_init.name = "<init>" := ⟨px_mem 1609 (by decide +kernel) rfl, rfl⟩
set_option maxRecDepth 100000 in
theorem my_X12_thrown : px_my yX12_thrown cX12_thrown 1 (some .int) 0 := ⟨⟨px_mem 1877 (by decide +kernel) rfl, px_mem 10 (by decide +kernel) rfl⟩, ⟨by decide, by decide⟩, by decide +kernel, by decide⟩
set_option maxRecDepth 100000 in
theorem iv_X12_thrown : Cond.instanceMethod yX12_thrown ∈ px_G ∧ Cond.selects (px_RC 12) yX12_thrown yX12_thrown ∈ px_G := ⟨px_mem 1875 (by decide +kernel) rfl, px_mem 1876 (by decide +kernel) rfl⟩
set_option maxRecDepth 100000 in
theorem my_X12_strip : px_my yX12_strip cX12_strip 4 (some .int) 2 := ⟨⟨px_mem 1881 (by decide +kernel) rfl, px_mem 10 (by decide +kernel) rfl⟩, ⟨by decide, by decide⟩, by decide +kernel, by decide⟩
set_option maxRecDepth 100000 in
theorem iv_X12_strip : Cond.instanceMethod yX12_strip ∈ px_G ∧ Cond.selects (px_RC 12) yX12_strip yX12_strip ∈ px_G := ⟨px_mem 1879 (by decide +kernel) rfl, px_mem 1880 (by decide +kernel) rfl⟩
set_option maxRecDepth 100000 in
theorem my_X12_in : px_my yX12_in cX12_in 3 (some .boolean) 3 := ⟨⟨px_mem 1884 (by decide +kernel) rfl, px_mem 10 (by decide +kernel) rfl⟩, ⟨by decide, by decide⟩, by decide +kernel, by decide⟩
set_option maxRecDepth 100000 in
theorem sv_X12_in : Cond.static yX12_in ∈ px_G := px_mem 1883 (by decide +kernel) rfl
set_option maxRecDepth 100000 in
theorem my_X12_bad : px_my yX12_bad cX12_bad 3 (some .boolean) 2 := ⟨⟨px_mem 1888 (by decide +kernel) rfl, px_mem 10 (by decide +kernel) rfl⟩, ⟨by decide, by decide⟩, by decide +kernel, by decide⟩
set_option maxRecDepth 100000 in
theorem iv_X12_bad : Cond.instanceMethod yX12_bad ∈ px_G ∧ Cond.selects (px_RC 12) yX12_bad yX12_bad ∈ px_G := ⟨px_mem 1887 (by decide +kernel) rfl, px_mems 121 (by decide +kernel) rfl⟩
set_option maxRecDepth 100000 in
theorem my_X12_goThrough : px_my yX12_goThrough cX12_goThrough 4 none 2 := ⟨⟨px_mem 1892 (by decide +kernel) rfl, px_mem 10 (by decide +kernel) rfl⟩, ⟨by decide, by decide⟩, by decide +kernel, by decide⟩
set_option maxRecDepth 100000 in
theorem iv_X12_goThrough : Cond.instanceMethod yX12_goThrough ∈ px_G ∧ Cond.selects (px_RC 12) yX12_goThrough yX12_goThrough ∈ px_G := ⟨px_mem 1891 (by decide +kernel) rfl, px_mems 122 (by decide +kernel) rfl⟩
set_option maxRecDepth 100000 in
theorem my_X12_stands : px_my yX12_stands cX12_stands 5 (some .boolean) 1 := ⟨⟨px_mem 1896 (by decide +kernel) rfl, px_mem 10 (by decide +kernel) rfl⟩, ⟨by decide, by decide⟩, by decide +kernel, by decide⟩
set_option maxRecDepth 100000 in
theorem iv_X12_stands : Cond.instanceMethod yX12_stands ∈ px_G ∧ Cond.selects (px_RC 12) yX12_stands yX12_stands ∈ px_G := ⟨px_mem 1895 (by decide +kernel) rfl, px_mems 123 (by decide +kernel) rfl⟩
set_option maxRecDepth 100000 in
theorem my_X12_between : px_my yX12_between cX12_between 5 (some .boolean) 2 := ⟨⟨px_mem 1900 (by decide +kernel) rfl, px_mem 10 (by decide +kernel) rfl⟩, ⟨by decide, by decide⟩, by decide +kernel, by decide⟩
set_option maxRecDepth 100000 in
theorem iv_X12_between : Cond.instanceMethod yX12_between ∈ px_G ∧ Cond.selects (px_RC 12) yX12_between yX12_between ∈ px_G := ⟨px_mem 1899 (by decide +kernel) rfl, px_mems 124 (by decide +kernel) rfl⟩
set_option maxRecDepth 100000 in
theorem my_X12_layer : px_my yX12_layer cX12_layer 2 (some .int) 1 := ⟨⟨px_mem 1904 (by decide +kernel) rfl, px_mem 10 (by decide +kernel) rfl⟩, ⟨by decide, by decide⟩, by decide +kernel, by decide⟩
set_option maxRecDepth 100000 in
theorem iv_X12_layer : Cond.instanceMethod yX12_layer ∈ px_G ∧ Cond.selects (px_RC 12) yX12_layer yX12_layer ∈ px_G := ⟨px_mem 1902 (by decide +kernel) rfl, px_mem 1903 (by decide +kernel) rfl⟩
set_option maxRecDepth 100000 in
theorem my_X12_lies : px_my yX12_lies cX12_lies 4 (some .boolean) 1 := ⟨⟨px_mem 1908 (by decide +kernel) rfl, px_mem 10 (by decide +kernel) rfl⟩, ⟨by decide, by decide⟩, by decide +kernel, by decide⟩
set_option maxRecDepth 100000 in
theorem iv_X12_lies : Cond.instanceMethod yX12_lies ∈ px_G ∧ Cond.selects (px_RC 12) yX12_lies yX12_lies ∈ px_G := ⟨px_mem 1906 (by decide +kernel) rfl, px_mem 1907 (by decide +kernel) rfl⟩
set_option maxRecDepth 100000 in
theorem my_X12_clear : px_my yX12_clear cX12_clear 2 (some .boolean) 1 := ⟨⟨px_mem 1912 (by decide +kernel) rfl, px_mem 10 (by decide +kernel) rfl⟩, ⟨by decide, by decide⟩, by decide +kernel, by decide⟩
set_option maxRecDepth 100000 in
theorem iv_X12_clear : Cond.instanceMethod yX12_clear ∈ px_G ∧ Cond.selects (px_RC 12) yX12_clear yX12_clear ∈ px_G := ⟨px_mem 1910 (by decide +kernel) rfl, px_mem 1911 (by decide +kernel) rfl⟩
set_option maxRecDepth 100000 in
theorem my_X12_isClear : px_my yX12_isClear cX12_isClear 10 (some .boolean) 1 := ⟨⟨px_mem 1916 (by decide +kernel) rfl, px_mem 10 (by decide +kernel) rfl⟩, ⟨by decide, by decide⟩, by decide +kernel, by decide⟩
set_option maxRecDepth 100000 in
theorem iv_X12_isClear : Cond.instanceMethod yX12_isClear ∈ px_G ∧ Cond.selects (px_RC 12) yX12_isClear yX12_isClear ∈ px_G := ⟨px_mem 1915 (by decide +kernel) rfl, px_mems 125 (by decide +kernel) rfl⟩
set_option maxRecDepth 100000 in
theorem my_X12_open : px_my yX12_open cX12_open 2 (some .int) 1 := ⟨⟨px_mem 1920 (by decide +kernel) rfl, px_mem 10 (by decide +kernel) rfl⟩, ⟨by decide, by decide⟩, by decide +kernel, by decide⟩
set_option maxRecDepth 100000 in
theorem iv_X12_open : Cond.instanceMethod yX12_open ∈ px_G ∧ Cond.selects (px_RC 12) yX12_open yX12_open ∈ px_G := ⟨px_mem 1918 (by decide +kernel) rfl, px_mem 1919 (by decide +kernel) rfl⟩
set_option maxRecDepth 100000 in
theorem my_X12_orders : px_my yX12_orders cX12_orders 1 (some .int) 0 := ⟨⟨px_mem 1924 (by decide +kernel) rfl, px_mem 10 (by decide +kernel) rfl⟩, ⟨by decide, by decide⟩, by decide +kernel, by decide⟩
set_option maxRecDepth 100000 in
theorem iv_X12_orders : Cond.instanceMethod yX12_orders ∈ px_G ∧ Cond.selects (px_RC 12) yX12_orders yX12_orders ∈ px_G := ⟨px_mem 1922 (by decide +kernel) rfl, px_mem 1923 (by decide +kernel) rfl⟩
set_option maxRecDepth 100000 in
theorem my_X12_countOrders : px_my yX12_countOrders cX12_countOrders 7 (some .int) 1 := ⟨⟨px_mem 1928 (by decide +kernel) rfl, px_mem 10 (by decide +kernel) rfl⟩, ⟨by decide, by decide⟩, by decide +kernel, by decide⟩
set_option maxRecDepth 100000 in
theorem iv_X12_countOrders : Cond.instanceMethod yX12_countOrders ∈ px_G ∧ Cond.selects (px_RC 12) yX12_countOrders yX12_countOrders ∈ px_G := ⟨px_mem 1927 (by decide +kernel) rfl, px_mems 126 (by decide +kernel) rfl⟩
set_option maxRecDepth 100000 in
theorem my_X12_safe : px_my yX12_safe cX12_safe 7 (some .int) 1 := ⟨⟨px_mem 1932 (by decide +kernel) rfl, px_mem 10 (by decide +kernel) rfl⟩, ⟨by decide, by decide⟩, by decide +kernel, by decide⟩
set_option maxRecDepth 100000 in
theorem iv_X12_safe : Cond.instanceMethod yX12_safe ∈ px_G ∧ Cond.selects (px_RC 12) yX12_safe yX12_safe ∈ px_G := ⟨px_mem 1930 (by decide +kernel) rfl, px_mem 1931 (by decide +kernel) rfl⟩
set_option maxRecDepth 100000 in
theorem my_X12_leads : px_my yX12_leads cX12_leads 3 (some .boolean) 1 := ⟨⟨px_mem 1936 (by decide +kernel) rfl, px_mem 10 (by decide +kernel) rfl⟩, ⟨by decide, by decide⟩, by decide +kernel, by decide⟩
set_option maxRecDepth 100000 in
theorem iv_X12_leads : Cond.instanceMethod yX12_leads ∈ px_G ∧ Cond.selects (px_RC 12) yX12_leads yX12_leads ∈ px_G := ⟨px_mem 1935 (by decide +kernel) rfl, px_mems 127 (by decide +kernel) rfl⟩
set_option maxRecDepth 100000 in
theorem my_X12_panel : px_my yX12_panel cX12_panel 6 (some .int) 5 := ⟨⟨px_mem 1940 (by decide +kernel) rfl, px_mem 10 (by decide +kernel) rfl⟩, ⟨by decide, by decide⟩, by decide +kernel, by decide⟩
set_option maxRecDepth 100000 in
theorem iv_X12_panel : Cond.instanceMethod yX12_panel ∈ px_G ∧ Cond.selects (px_RC 12) yX12_panel yX12_panel ∈ px_G := ⟨px_mem 1938 (by decide +kernel) rfl, px_mem 1939 (by decide +kernel) rfl⟩
set_option maxRecDepth 100000 in
theorem my_X12_of : px_my yX12_of cX12_of 3 (some .int) 2 := ⟨⟨px_mem 1944 (by decide +kernel) rfl, px_mem 10 (by decide +kernel) rfl⟩, ⟨by decide, by decide⟩, by decide +kernel, by decide⟩
set_option maxRecDepth 100000 in
theorem iv_X12_of : Cond.instanceMethod yX12_of ∈ px_G ∧ Cond.selects (px_RC 12) yX12_of yX12_of ∈ px_G := ⟨px_mem 1942 (by decide +kernel) rfl, px_mem 1943 (by decide +kernel) rfl⟩
set_option maxRecDepth 100000 in
theorem my_X12_tear : px_my yX12_tear cX12_tear 3 (some .boolean) 1 := ⟨⟨px_mem 1948 (by decide +kernel) rfl, px_mem 10 (by decide +kernel) rfl⟩, ⟨by decide, by decide⟩, by decide +kernel, by decide⟩
set_option maxRecDepth 100000 in
theorem iv_X12_tear : Cond.instanceMethod yX12_tear ∈ px_G ∧ Cond.selects (px_RC 12) yX12_tear yX12_tear ∈ px_G := ⟨px_mem 1946 (by decide +kernel) rfl, px_mem 1947 (by decide +kernel) rfl⟩
set_option maxRecDepth 100000 in
theorem my_X12_flap : px_my yX12_flap cX12_flap 2 (some .int) 1 := ⟨⟨px_mem 1952 (by decide +kernel) rfl, px_mem 10 (by decide +kernel) rfl⟩, ⟨by decide, by decide⟩, by decide +kernel, by decide⟩
set_option maxRecDepth 100000 in
theorem iv_X12_flap : Cond.instanceMethod yX12_flap ∈ px_G ∧ Cond.selects (px_RC 12) yX12_flap yX12_flap ∈ px_G := ⟨px_mem 1950 (by decide +kernel) rfl, px_mem 1951 (by decide +kernel) rfl⟩
set_option maxRecDepth 100000 in
theorem my_X12_flapOf : px_my yX12_flapOf cX12_flapOf 3 (some .int) 1 := ⟨⟨px_mem 1956 (by decide +kernel) rfl, px_mem 10 (by decide +kernel) rfl⟩, ⟨by decide, by decide⟩, by decide +kernel, by decide⟩
set_option maxRecDepth 100000 in
theorem iv_X12_flapOf : Cond.instanceMethod yX12_flapOf ∈ px_G ∧ Cond.selects (px_RC 12) yX12_flapOf yX12_flapOf ∈ px_G := ⟨px_mem 1955 (by decide +kernel) rfl, px_mems 128 (by decide +kernel) rfl⟩
set_option maxRecDepth 100000 in
theorem my_X12_bend : px_my yX12_bend cX12_bend 4 (some .int) 2 := ⟨⟨px_mem 1960 (by decide +kernel) rfl, px_mem 10 (by decide +kernel) rfl⟩, ⟨by decide, by decide⟩, by decide +kernel, by decide⟩
set_option maxRecDepth 100000 in
theorem iv_X12_bend : Cond.instanceMethod yX12_bend ∈ px_G ∧ Cond.selects (px_RC 12) yX12_bend yX12_bend ∈ px_G := ⟨px_mem 1958 (by decide +kernel) rfl, px_mem 1959 (by decide +kernel) rfl⟩
set_option maxRecDepth 100000 in
theorem my_X12_stuck : px_my yX12_stuck cX12_stuck 4 (some .boolean) 2 := ⟨⟨px_mem 1964 (by decide +kernel) rfl, px_mem 10 (by decide +kernel) rfl⟩, ⟨by decide, by decide⟩, by decide +kernel, by decide⟩
set_option maxRecDepth 100000 in
theorem iv_X12_stuck : Cond.instanceMethod yX12_stuck ∈ px_G ∧ Cond.selects (px_RC 12) yX12_stuck yX12_stuck ∈ px_G := ⟨px_mem 1962 (by decide +kernel) rfl, px_mem 1963 (by decide +kernel) rfl⟩
set_option maxRecDepth 100000 in
theorem my_X12_weights : px_my yX12_weights cX12_weights 3 none 2 := ⟨⟨px_mem 1968 (by decide +kernel) rfl, px_mem 10 (by decide +kernel) rfl⟩, ⟨by decide, by decide⟩, by decide +kernel, by decide⟩
set_option maxRecDepth 100000 in
theorem iv_X12_weights : Cond.instanceMethod yX12_weights ∈ px_G ∧ Cond.selects (px_RC 12) yX12_weights yX12_weights ∈ px_G := ⟨px_mem 1966 (by decide +kernel) rfl, px_mem 1967 (by decide +kernel) rfl⟩
set_option maxRecDepth 100000 in
theorem my_X12_push : px_my yX12_push cX12_push 5 (some .int) 2 := ⟨⟨px_mem 1972 (by decide +kernel) rfl, px_mem 10 (by decide +kernel) rfl⟩, ⟨by decide, by decide⟩, by decide +kernel, by decide⟩
set_option maxRecDepth 100000 in
theorem iv_X12_push : Cond.instanceMethod yX12_push ∈ px_G ∧ Cond.selects (px_RC 12) yX12_push yX12_push ∈ px_G := ⟨px_mem 1970 (by decide +kernel) rfl, px_mem 1971 (by decide +kernel) rfl⟩
set_option maxRecDepth 100000 in
theorem my_X12_sumY : px_my yX12_sumY cX12_sumY 4 (some .int) 1 := ⟨⟨px_mem 1976 (by decide +kernel) rfl, px_mem 10 (by decide +kernel) rfl⟩, ⟨by decide, by decide⟩, by decide +kernel, by decide⟩
set_option maxRecDepth 100000 in
theorem iv_X12_sumY : Cond.instanceMethod yX12_sumY ∈ px_G ∧ Cond.selects (px_RC 12) yX12_sumY yX12_sumY ∈ px_G := ⟨px_mem 1975 (by decide +kernel) rfl, px_mems 129 (by decide +kernel) rfl⟩
set_option maxRecDepth 100000 in
theorem my_X12_pushY : px_my yX12_pushY cX12_pushY 4 (some .int) 2 := ⟨⟨px_mem 1980 (by decide +kernel) rfl, px_mem 10 (by decide +kernel) rfl⟩, ⟨by decide, by decide⟩, by decide +kernel, by decide⟩
set_option maxRecDepth 100000 in
theorem iv_X12_pushY : Cond.instanceMethod yX12_pushY ∈ px_G ∧ Cond.selects (px_RC 12) yX12_pushY yX12_pushY ∈ px_G := ⟨px_mem 1979 (by decide +kernel) rfl, px_mems 130 (by decide +kernel) rfl⟩
set_option maxRecDepth 100000 in
theorem my_X12_slantOf : px_my yX12_slantOf cX12_slantOf 5 (some .int) 2 := ⟨⟨px_mem 1984 (by decide +kernel) rfl, px_mem 10 (by decide +kernel) rfl⟩, ⟨by decide, by decide⟩, by decide +kernel, by decide⟩
set_option maxRecDepth 100000 in
theorem iv_X12_slantOf : Cond.instanceMethod yX12_slantOf ∈ px_G ∧ Cond.selects (px_RC 12) yX12_slantOf yX12_slantOf ∈ px_G := ⟨px_mem 1983 (by decide +kernel) rfl, px_mems 131 (by decide +kernel) rfl⟩
set_option maxRecDepth 100000 in
theorem my_X12_cos : px_my yX12_cos cX12_cos 1 (some .long) 1 := ⟨⟨px_mem 1987 (by decide +kernel) rfl, px_mem 10 (by decide +kernel) rfl⟩, ⟨by decide, by decide⟩, by decide +kernel, by decide⟩
set_option maxRecDepth 100000 in
theorem sv_X12_cos : Cond.static yX12_cos ∈ px_G := px_mem 1986 (by decide +kernel) rfl
set_option maxRecDepth 100000 in
theorem my_X12_amount : px_my yX12_amount cX12_amount 1 (some .int) 1 := ⟨⟨px_mem 1990 (by decide +kernel) rfl, px_mem 10 (by decide +kernel) rfl⟩, ⟨by decide, by decide⟩, by decide +kernel, by decide⟩
set_option maxRecDepth 100000 in
theorem sv_X12_amount : Cond.static yX12_amount ∈ px_G := px_mem 1989 (by decide +kernel) rfl
set_option maxRecDepth 100000 in
theorem my_X12_sin : px_my yX12_sin cX12_sin 3 (some .long) 1 := ⟨⟨px_mem 2003 (by decide +kernel) rfl, px_mem 10 (by decide +kernel) rfl⟩, ⟨by decide, by decide⟩, by decide +kernel, by decide⟩
set_option maxRecDepth 100000 in
theorem sv_X12_sin : Cond.static yX12_sin ∈ px_G := px_mem 2002 (by decide +kernel) rfl
set_option maxRecDepth 100000 in
theorem my_X12_pushX : px_my yX12_pushX cX12_pushX 7 (some .int) 4 := ⟨⟨px_mem 2008 (by decide +kernel) rfl, px_mem 10 (by decide +kernel) rfl⟩, ⟨by decide, by decide⟩, by decide +kernel, by decide⟩
set_option maxRecDepth 100000 in
theorem iv_X12_pushX : Cond.instanceMethod yX12_pushX ∈ px_G ∧ Cond.selects (px_RC 12) yX12_pushX yX12_pushX ∈ px_G := ⟨px_mem 2007 (by decide +kernel) rfl, px_mems 132 (by decide +kernel) rfl⟩
set_option maxRecDepth 100000 in
theorem my_X12_turn : px_my yX12_turn cX12_turn 3 (some .int) 2 := ⟨⟨px_mem 2012 (by decide +kernel) rfl, px_mem 10 (by decide +kernel) rfl⟩, ⟨by decide, by decide⟩, by decide +kernel, by decide⟩
set_option maxRecDepth 100000 in
theorem iv_X12_turn : Cond.instanceMethod yX12_turn ∈ px_G ∧ Cond.selects (px_RC 12) yX12_turn yX12_turn ∈ px_G := ⟨px_mem 2010 (by decide +kernel) rfl, px_mem 2011 (by decide +kernel) rfl⟩
set_option maxRecDepth 100000 in
theorem my_X12_turned : px_my yX12_turned cX12_turned 5 (some .int) 2 := ⟨⟨px_mem 2016 (by decide +kernel) rfl, px_mem 10 (by decide +kernel) rfl⟩, ⟨by decide, by decide⟩, by decide +kernel, by decide⟩
set_option maxRecDepth 100000 in
theorem iv_X12_turned : Cond.instanceMethod yX12_turned ∈ px_G ∧ Cond.selects (px_RC 12) yX12_turned yX12_turned ∈ px_G := ⟨px_mem 2015 (by decide +kernel) rfl, px_mems 133 (by decide +kernel) rfl⟩
set_option maxRecDepth 100000 in
theorem my_X12_press : px_my yX12_press cX12_press 5 (some .int) 2 := ⟨⟨px_mem 2020 (by decide +kernel) rfl, px_mem 10 (by decide +kernel) rfl⟩, ⟨by decide, by decide⟩, by decide +kernel, by decide⟩
set_option maxRecDepth 100000 in
theorem iv_X12_press : Cond.instanceMethod yX12_press ∈ px_G ∧ Cond.selects (px_RC 12) yX12_press yX12_press ∈ px_G := ⟨px_mem 2019 (by decide +kernel) rfl, px_mems 134 (by decide +kernel) rfl⟩
set_option maxRecDepth 100000 in
theorem my_X12_trim : px_my yX12_trim cX12_trim 12 (some .int) 2 := ⟨⟨px_mem 2024 (by decide +kernel) rfl, px_mem 10 (by decide +kernel) rfl⟩, ⟨by decide, by decide⟩, by decide +kernel, by decide⟩
set_option maxRecDepth 100000 in
theorem iv_X12_trim : Cond.instanceMethod yX12_trim ∈ px_G ∧ Cond.selects (px_RC 12) yX12_trim yX12_trim ∈ px_G := ⟨px_mem 2022 (by decide +kernel) rfl, px_mem 2023 (by decide +kernel) rfl⟩
set_option maxRecDepth 100000 in
theorem my_X12_world : px_my yX12_world cX12_world 4 (some .int) 3 := ⟨⟨px_mem 2028 (by decide +kernel) rfl, px_mem 10 (by decide +kernel) rfl⟩, ⟨by decide, by decide⟩, by decide +kernel, by decide⟩
set_option maxRecDepth 100000 in
theorem iv_X12_world : Cond.instanceMethod yX12_world ∈ px_G ∧ Cond.selects (px_RC 12) yX12_world yX12_world ∈ px_G := ⟨px_mem 2026 (by decide +kernel) rfl, px_mem 2027 (by decide +kernel) rfl⟩
set_option maxRecDepth 100000 in
theorem my_X12_angle : px_my yX12_angle cX12_angle 3 (some .int) 2 := ⟨⟨px_mem 2032 (by decide +kernel) rfl, px_mem 10 (by decide +kernel) rfl⟩, ⟨by decide, by decide⟩, by decide +kernel, by decide⟩
set_option maxRecDepth 100000 in
theorem iv_X12_angle : Cond.instanceMethod yX12_angle ∈ px_G ∧ Cond.selects (px_RC 12) yX12_angle yX12_angle ∈ px_G := ⟨px_mem 2030 (by decide +kernel) rfl, px_mem 2031 (by decide +kernel) rfl⟩
set_option maxRecDepth 100000 in
theorem my_X12_angleOf : px_my yX12_angleOf cX12_angleOf 3 (some .int) 2 := ⟨⟨px_mem 2036 (by decide +kernel) rfl, px_mem 10 (by decide +kernel) rfl⟩, ⟨by decide, by decide⟩, by decide +kernel, by decide⟩
set_option maxRecDepth 100000 in
theorem iv_X12_angleOf : Cond.instanceMethod yX12_angleOf ∈ px_G ∧ Cond.selects (px_RC 12) yX12_angleOf yX12_angleOf ∈ px_G := ⟨px_mem 2035 (by decide +kernel) rfl, px_mems 135 (by decide +kernel) rfl⟩
set_option maxRecDepth 100000 in
theorem my_X12_least : px_my yX12_least cX12_least 7 (some .int) 2 := ⟨⟨px_mem 2040 (by decide +kernel) rfl, px_mem 10 (by decide +kernel) rfl⟩, ⟨by decide, by decide⟩, by decide +kernel, by decide⟩
set_option maxRecDepth 100000 in
theorem iv_X12_least : Cond.instanceMethod yX12_least ∈ px_G ∧ Cond.selects (px_RC 12) yX12_least yX12_least ∈ px_G := ⟨px_mem 2038 (by decide +kernel) rfl, px_mem 2039 (by decide +kernel) rfl⟩
set_option maxRecDepth 100000 in
theorem my_X12_strength : px_my yX12_strength cX12_strength 2 (some .int) 0 := ⟨⟨px_mem 2044 (by decide +kernel) rfl, px_mem 10 (by decide +kernel) rfl⟩, ⟨by decide, by decide⟩, by decide +kernel, by decide⟩
set_option maxRecDepth 100000 in
theorem iv_X12_strength : Cond.instanceMethod yX12_strength ∈ px_G ∧ Cond.selects (px_RC 12) yX12_strength yX12_strength ∈ px_G := ⟨px_mem 2043 (by decide +kernel) rfl, px_mems 136 (by decide +kernel) rfl⟩
set_option maxRecDepth 100000 in
theorem my_X12_findLeast : px_my yX12_findLeast cX12_findLeast 7 none 2 := ⟨⟨px_mem 2048 (by decide +kernel) rfl, px_mem 10 (by decide +kernel) rfl⟩, ⟨by decide, by decide⟩, by decide +kernel, by decide⟩
set_option maxRecDepth 100000 in
theorem iv_X12_findLeast : Cond.instanceMethod yX12_findLeast ∈ px_G ∧ Cond.selects (px_RC 12) yX12_findLeast yX12_findLeast ∈ px_G := ⟨px_mem 2047 (by decide +kernel) rfl, px_mems 137 (by decide +kernel) rfl⟩
set_option maxRecDepth 100000 in
theorem my_X12_isMet : px_my yX12_isMet cX12_isMet 6 (some .boolean) 4 := ⟨⟨px_mem 2052 (by decide +kernel) rfl, px_mem 10 (by decide +kernel) rfl⟩, ⟨by decide, by decide⟩, by decide +kernel, by decide⟩
set_option maxRecDepth 100000 in
theorem iv_X12_isMet : Cond.instanceMethod yX12_isMet ∈ px_G ∧ Cond.selects (px_RC 12) yX12_isMet yX12_isMet ∈ px_G := ⟨px_mem 2051 (by decide +kernel) rfl, px_mems 138 (by decide +kernel) rfl⟩
set_option maxRecDepth 100000 in
theorem my_X12_goesTo : px_my yX12_goesTo cX12_goesTo 5 (some .int) 4 := ⟨⟨px_mem 2055 (by decide +kernel) rfl, px_mem 10 (by decide +kernel) rfl⟩, ⟨by decide, by decide⟩, by decide +kernel, by decide⟩
set_option maxRecDepth 100000 in
theorem sv_X12_goesTo : Cond.static yX12_goesTo ∈ px_G := px_mem 2054 (by decide +kernel) rfl
set_option maxRecDepth 100000 in
theorem my_X12_stepsAt : px_my yX12_stepsAt cX12_stepsAt 2 (some .int) 2 := ⟨⟨px_mem 2058 (by decide +kernel) rfl, px_mem 10 (by decide +kernel) rfl⟩, ⟨by decide, by decide⟩, by decide +kernel, by decide⟩
set_option maxRecDepth 100000 in
theorem sv_X12_stepsAt : Cond.static yX12_stepsAt ∈ px_G := px_mem 2057 (by decide +kernel) rfl
set_option maxRecDepth 100000 in
theorem my_X12_turnAt : px_my yX12_turnAt cX12_turnAt 2 (some .int) 2 := ⟨⟨px_mem 2061 (by decide +kernel) rfl, px_mem 10 (by decide +kernel) rfl⟩, ⟨by decide, by decide⟩, by decide +kernel, by decide⟩
set_option maxRecDepth 100000 in
theorem sv_X12_turnAt : Cond.static yX12_turnAt ∈ px_G := px_mem 2060 (by decide +kernel) rfl
set_option maxRecDepth 100000 in
theorem my_X12_goal : px_my yX12_goal cX12_goal 3 (some .int) 1 := ⟨⟨px_mem 2065 (by decide +kernel) rfl, px_mem 10 (by decide +kernel) rfl⟩, ⟨by decide, by decide⟩, by decide +kernel, by decide⟩
set_option maxRecDepth 100000 in
theorem iv_X12_goal : Cond.instanceMethod yX12_goal ∈ px_G ∧ Cond.selects (px_RC 12) yX12_goal yX12_goal ∈ px_G := ⟨px_mem 2063 (by decide +kernel) rfl, px_mem 2064 (by decide +kernel) rfl⟩
set_option maxRecDepth 100000 in
theorem my_X12_feed : px_my yX12_feed cX12_feed 8 (some .int) 5 := ⟨⟨px_mem 2069 (by decide +kernel) rfl, px_mem 10 (by decide +kernel) rfl⟩, ⟨by decide, by decide⟩, by decide +kernel, by decide⟩
set_option maxRecDepth 100000 in
theorem iv_X12_feed : Cond.instanceMethod yX12_feed ∈ px_G ∧ Cond.selects (px_RC 12) yX12_feed yX12_feed ∈ px_G := ⟨px_mem 2067 (by decide +kernel) rfl, px_mem 2068 (by decide +kernel) rfl⟩
set_option maxRecDepth 100000 in
theorem my_X12_rules : px_my yX12_rules cX12_rules 3 (some .int) 1 := ⟨⟨px_mem 2073 (by decide +kernel) rfl, px_mem 10 (by decide +kernel) rfl⟩, ⟨by decide, by decide⟩, by decide +kernel, by decide⟩
set_option maxRecDepth 100000 in
theorem iv_X12_rules : Cond.instanceMethod yX12_rules ∈ px_G ∧ Cond.selects (px_RC 12) yX12_rules yX12_rules ∈ px_G := ⟨px_mem 2071 (by decide +kernel) rfl, px_mem 2072 (by decide +kernel) rfl⟩
set_option maxRecDepth 100000 in
theorem my_X12_readAll : px_my yX12_readAll cX12_readAll 4 none 0 := ⟨⟨px_mem 2077 (by decide +kernel) rfl, px_mem 10 (by decide +kernel) rfl⟩, ⟨by decide, by decide⟩, by decide +kernel, by decide⟩
set_option maxRecDepth 100000 in
theorem iv_X12_readAll : Cond.instanceMethod yX12_readAll ∈ px_G ∧ Cond.selects (px_RC 12) yX12_readAll yX12_readAll ∈ px_G := ⟨px_mem 2076 (by decide +kernel) rfl, px_mems 139 (by decide +kernel) rfl⟩
set_option maxRecDepth 100000 in
theorem my_X12_blanks : px_my yX12_blanks cX12_blanks 1 none 0 := ⟨⟨px_mem 2081 (by decide +kernel) rfl, px_mem 10 (by decide +kernel) rfl⟩, ⟨by decide, by decide⟩, by decide +kernel, by decide⟩
set_option maxRecDepth 100000 in
theorem iv_X12_blanks : Cond.instanceMethod yX12_blanks ∈ px_G ∧ Cond.selects (px_RC 12) yX12_blanks yX12_blanks ∈ px_G := ⟨px_mem 2080 (by decide +kernel) rfl, px_mems 140 (by decide +kernel) rfl⟩
set_option maxRecDepth 100000 in
theorem my_X12_byteAt : px_my yX12_byteAt cX12_byteAt 2 (some .int) 1 := ⟨⟨px_mem 2085 (by decide +kernel) rfl, px_mem 10 (by decide +kernel) rfl⟩, ⟨by decide, by decide⟩, by decide +kernel, by decide⟩
set_option maxRecDepth 100000 in
theorem iv_X12_byteAt : Cond.instanceMethod yX12_byteAt ∈ px_G ∧ Cond.selects (px_RC 12) yX12_byteAt yX12_byteAt ∈ px_G := ⟨px_mem 2084 (by decide +kernel) rfl, px_mems 141 (by decide +kernel) rfl⟩
set_option maxRecDepth 100000 in
theorem my_X12_wordHere : px_my yX12_wordHere cX12_wordHere 3 (some .int) 0 := ⟨⟨px_mem 2089 (by decide +kernel) rfl, px_mem 10 (by decide +kernel) rfl⟩, ⟨by decide, by decide⟩, by decide +kernel, by decide⟩
set_option maxRecDepth 100000 in
theorem iv_X12_wordHere : Cond.instanceMethod yX12_wordHere ∈ px_G ∧ Cond.selects (px_RC 12) yX12_wordHere yX12_wordHere ∈ px_G := ⟨px_mem 2088 (by decide +kernel) rfl, px_mems 142 (by decide +kernel) rfl⟩
set_option maxRecDepth 100000 in
theorem my_X12_isSmall : px_my yX12_isSmall cX12_isSmall 1 (some .boolean) 1 := ⟨⟨px_mem 2092 (by decide +kernel) rfl, px_mem 10 (by decide +kernel) rfl⟩, ⟨by decide, by decide⟩, by decide +kernel, by decide⟩
set_option maxRecDepth 100000 in
theorem sv_X12_isSmall : Cond.static yX12_isSmall ∈ px_G := px_mem 2091 (by decide +kernel) rfl
set_option maxRecDepth 100000 in
theorem my_X12_word : px_my yX12_word cX12_word 6 (some .int) 5 := ⟨⟨px_mem 2095 (by decide +kernel) rfl, px_mem 10 (by decide +kernel) rfl⟩, ⟨by decide, by decide⟩, by decide +kernel, by decide⟩
set_option maxRecDepth 100000 in
theorem sv_X12_word : Cond.static yX12_word ∈ px_G := px_mem 2094 (by decide +kernel) rfl
set_option maxRecDepth 100000 in
theorem my_X12_wrong : px_my yX12_wrong cX12_wrong 3 none 2 := ⟨⟨px_mem 2099 (by decide +kernel) rfl, px_mem 10 (by decide +kernel) rfl⟩, ⟨by decide, by decide⟩, by decide +kernel, by decide⟩
set_option maxRecDepth 100000 in
theorem iv_X12_wrong : Cond.instanceMethod yX12_wrong ∈ px_G ∧ Cond.selects (px_RC 12) yX12_wrong yX12_wrong ∈ px_G := ⟨px_mem 2098 (by decide +kernel) rfl, px_mems 143 (by decide +kernel) rfl⟩
set_option maxRecDepth 100000 in
theorem my_X12_skipWord : px_my yX12_skipWord cX12_skipWord 1 none 0 := ⟨⟨px_mem 2103 (by decide +kernel) rfl, px_mem 10 (by decide +kernel) rfl⟩, ⟨by decide, by decide⟩, by decide +kernel, by decide⟩
set_option maxRecDepth 100000 in
theorem iv_X12_skipWord : Cond.instanceMethod yX12_skipWord ∈ px_G ∧ Cond.selects (px_RC 12) yX12_skipWord yX12_skipWord ∈ px_G := ⟨px_mem 2102 (by decide +kernel) rfl, px_mems 144 (by decide +kernel) rfl⟩
set_option maxRecDepth 100000 in
theorem my_X12_ors : px_my yX12_ors cX12_ors 3 (some .boolean) 0 := ⟨⟨px_mem 2107 (by decide +kernel) rfl, px_mem 10 (by decide +kernel) rfl⟩, ⟨by decide, by decide⟩, by decide +kernel, by decide⟩
set_option maxRecDepth 100000 in
theorem iv_X12_ors : Cond.instanceMethod yX12_ors ∈ px_G ∧ Cond.selects (px_RC 12) yX12_ors yX12_ors ∈ px_G := ⟨px_mem 2106 (by decide +kernel) rfl, px_mems 145 (by decide +kernel) rfl⟩
set_option maxRecDepth 100000 in
theorem my_X12_ands : px_my yX12_ands cX12_ands 3 (some .boolean) 0 := ⟨⟨px_mem 2111 (by decide +kernel) rfl, px_mem 10 (by decide +kernel) rfl⟩, ⟨by decide, by decide⟩, by decide +kernel, by decide⟩
set_option maxRecDepth 100000 in
theorem iv_X12_ands : Cond.instanceMethod yX12_ands ∈ px_G ∧ Cond.selects (px_RC 12) yX12_ands yX12_ands ∈ px_G := ⟨px_mem 2110 (by decide +kernel) rfl, px_mems 146 (by decide +kernel) rfl⟩
set_option maxRecDepth 100000 in
theorem my_X12_test : px_my yX12_test cX12_test 4 (some .boolean) 0 := ⟨⟨px_mem 2115 (by decide +kernel) rfl, px_mem 10 (by decide +kernel) rfl⟩, ⟨by decide, by decide⟩, by decide +kernel, by decide⟩
set_option maxRecDepth 100000 in
theorem iv_X12_test : Cond.instanceMethod yX12_test ∈ px_G ∧ Cond.selects (px_RC 12) yX12_test yX12_test ∈ px_G := ⟨px_mem 2114 (by decide +kernel) rfl, px_mems 147 (by decide +kernel) rfl⟩
set_option maxRecDepth 100000 in
theorem my_X12_opens : px_my yX12_opens cX12_opens 2 none 1 := ⟨⟨px_mem 2119 (by decide +kernel) rfl, px_mem 10 (by decide +kernel) rfl⟩, ⟨by decide, by decide⟩, by decide +kernel, by decide⟩
set_option maxRecDepth 100000 in
theorem iv_X12_opens : Cond.instanceMethod yX12_opens ∈ px_G ∧ Cond.selects (px_RC 12) yX12_opens yX12_opens ∈ px_G := ⟨px_mem 2118 (by decide +kernel) rfl, px_mems 148 (by decide +kernel) rfl⟩
set_option maxRecDepth 100000 in
theorem my_X12_sign : px_my yX12_sign cX12_sign 2 none 1 := ⟨⟨px_mem 2123 (by decide +kernel) rfl, px_mem 10 (by decide +kernel) rfl⟩, ⟨by decide, by decide⟩, by decide +kernel, by decide⟩
