theorem kb_10 : (Int8.ofInt 10).toInt32 = 10 := by decide
theorem kb_100 : (Int8.ofInt 100).toInt32 = 100 := by decide
theorem kb_106 : (Int8.ofInt 106).toInt32 = 106 := by decide
theorem kb_109 : (Int8.ofInt 109).toInt32 = 109 := by decide
theorem kb_11 : (Int8.ofInt 11).toInt32 = 11 := by decide
theorem kb_114 : (Int8.ofInt 114).toInt32 = 114 := by decide
theorem kb_12 : (Int8.ofInt 12).toInt32 = 12 := by decide
theorem kb_121 : (Int8.ofInt 121).toInt32 = 121 := by decide
theorem kb_122 : (Int8.ofInt 122).toInt32 = 122 := by decide
theorem kb_127 : (Int8.ofInt 127).toInt32 = 127 := by decide
theorem kb_15 : (Int8.ofInt 15).toInt32 = 15 := by decide
theorem kb_16 : (Int8.ofInt 16).toInt32 = 16 := by decide
theorem kb_19 : (Int8.ofInt 19).toInt32 = 19 := by decide
theorem kb_20 : (Int8.ofInt 20).toInt32 = 20 := by decide
theorem kb_24 : (Int8.ofInt 24).toInt32 = 24 := by decide
theorem kb_25 : (Int8.ofInt 25).toInt32 = 25 := by decide
theorem kb_30 : (Int8.ofInt 30).toInt32 = 30 := by decide
theorem kb_32 : (Int8.ofInt 32).toInt32 = 32 := by decide
theorem kb_34 : (Int8.ofInt 34).toInt32 = 34 := by decide
theorem kb_36 : (Int8.ofInt 36).toInt32 = 36 := by decide
theorem kb_42 : (Int8.ofInt 42).toInt32 = 42 := by decide
theorem kb_45 : (Int8.ofInt 45).toInt32 = 45 := by decide
theorem kb_48 : (Int8.ofInt 48).toInt32 = 48 := by decide
theorem kb_50 : (Int8.ofInt 50).toInt32 = 50 := by decide
theorem kb_57 : (Int8.ofInt 57).toInt32 = 57 := by decide
theorem kb_59 : (Int8.ofInt 59).toInt32 = 59 := by decide
theorem kb_6 : (Int8.ofInt 6).toInt32 = 6 := by decide
theorem kb_60 : (Int8.ofInt 60).toInt32 = 60 := by decide
theorem kb_63 : (Int8.ofInt 63).toInt32 = 63 := by decide
theorem kb_64 : (Int8.ofInt 64).toInt32 = 64 := by decide
theorem kb_65 : (Int8.ofInt 65).toInt32 = 65 := by decide
theorem kb_70 : (Int8.ofInt 70).toInt32 = 70 := by decide
theorem kb_8 : (Int8.ofInt 8).toInt32 = 8 := by decide
theorem kb_9 : (Int8.ofInt 9).toInt32 = 9 := by decide
theorem kb_97 : (Int8.ofInt 97).toInt32 = 97 := by decide
theorem kb_99 : (Int8.ofInt 99).toInt32 = 99 := by decide
theorem kb_m2 : (Int8.ofInt (-2)).toInt32 = (-2) := by decide
theorem ki_0 : Int32.ofInt 0 = 0 := by decide
theorem ki_1 : Int32.ofInt 1 = 1 := by decide
theorem ki_16 : Int32.ofInt 16 = 16 := by decide
theorem ki_2 : Int32.ofInt 2 = 2 := by decide
theorem ki_3 : Int32.ofInt 3 = 3 := by decide
theorem ki_4 : Int32.ofInt 4 = 4 := by decide
theorem ki_5 : Int32.ofInt 5 = 5 := by decide
theorem ki_6 : Int32.ofInt 6 = 6 := by decide
theorem ki_8 : Int32.ofInt 8 = 8 := by decide
theorem ki_m1 : Int32.ofInt (-1) = (-1) := by decide
theorem ki_m8 : Int32.ofInt (-8) = (-8) := by decide
theorem kl_0 : Int64.ofNat ((0 : Fin 2) : Nat) = 0 := by decide
theorem kl_1 : Int64.ofNat ((1 : Fin 2) : Nat) = 1 := by decide
theorem ks_1000 : (Int16.ofInt 1000).toInt32 = 1000 := by decide
theorem ks_1023 : (Int16.ofInt 1023).toInt32 = 1023 := by decide
theorem ks_1024 : (Int16.ofInt 1024).toInt32 = 1024 := by decide
theorem ks_12345 : (Int16.ofInt 12345).toInt32 = 12345 := by decide
theorem ks_16384 : (Int16.ofInt 16384).toInt32 = 16384 := by decide
theorem ks_200 : (Int16.ofInt 200).toInt32 = 200 := by decide
theorem ks_212 : (Int16.ofInt 212).toInt32 = 212 := by decide
theorem ks_2400 : (Int16.ofInt 2400).toInt32 = 2400 := by decide
theorem ks_242 : (Int16.ofInt 242).toInt32 = 242 := by decide
theorem ks_255 : (Int16.ofInt 255).toInt32 = 255 := by decide
theorem ks_256 : (Int16.ofInt 256).toInt32 = 256 := by decide
theorem ks_3904 : (Int16.ofInt 3904).toInt32 = 3904 := by decide
theorem ks_4096 : (Int16.ofInt 4096).toInt32 = 4096 := by decide
theorem ks_600 : (Int16.ofInt 600).toInt32 = 600 := by decide
theorem ks_848 : (Int16.ofInt 848).toInt32 = 848 := by decide
theorem ks_968 : (Int16.ofInt 968).toInt32 = 968 := by decide
theorem pn_J0 : plainName RJ0 = true := by decide
theorem pn_J1 : plainName RJ1 = true := by decide
theorem pn_J13 : plainName RJ13 = true := by decide
theorem pn_J2 : plainName RJ2 = true := by decide
theorem pn_J3 : plainName RJ3 = true := by decide
theorem pn_J6 : plainName RJ6 = true := by decide
theorem pn_J7 : plainName RJ7 = true := by decide
theorem pn_L : plainName RL = true := by decide
theorem pn_X0 : plainName RX0 = true := by decide
theorem pn_X1 : plainName RX1 = true := by decide
theorem pn_X2 : plainName RX2 = true := by decide
theorem pn_X3 : plainName RX3 = true := by decide
theorem pn_X4 : plainName RX4 = true := by decide
theorem pn_X5 : plainName RX5 = true := by decide
theorem pn_X6 : plainName RX6 = true := by decide
theorem pn_X7 : plainName RX7 = true := by decide
theorem pn_X8 : plainName RX8 = true := by decide
def M_X0_init : MX := (yX0_init, cX0_init, 1, none, 1, 20, 5, 176)
theorem mM_X0_init : mM M_X0_init = 5 := rfl
theorem mS_X0_init : mS M_X0_init = 176 := rfl
set_option maxRecDepth 40000 in
theorem tv_X0_init : TV M_X0_init 0 := ⟨mt1 41 (by rfl) rfl, mt1 3 (by rfl) rfl, ⟨by decide, by decide, by decide +kernel⟩⟩
set_option maxRecDepth 40000 in
theorem ti_X0_init : TI M_X0_init := mt1 40 (by rfl) rfl
def M_X0_reset : MX := (yX0_reset, cX0_reset, 1, none, 1, 23, 0, 0)
theorem mM_X0_reset : mM M_X0_reset = 0 := rfl
theorem mS_X0_reset : mS M_X0_reset = 0 := rfl
set_option maxRecDepth 40000 in
theorem tv_X0_reset : TV M_X0_reset 0 := ⟨mt2 84 (by rfl) rfl, mt1 3 (by rfl) rfl, ⟨by decide, by decide, by decide +kernel⟩⟩
set_option maxRecDepth 40000 in
theorem ti_X0_reset : TI M_X0_reset := mt2 82 (by rfl) rfl
set_option maxRecDepth 40000 in
theorem ts_X0_reset : TS M_X0_reset := mt2 83 (by rfl) rfl
theorem kc_X0_reset : KC M_X0_reset 1 := ⟨by decide, by decide, rfl⟩
def M_X0_copyFrom : MX := (yX0_copyFrom, cX0_copyFrom, 2, none, 2, 79, 0, 0)
theorem mM_X0_copyFrom : mM M_X0_copyFrom = 0 := rfl
theorem mS_X0_copyFrom : mS M_X0_copyFrom = 0 := rfl
set_option maxRecDepth 40000 in
theorem tv_X0_copyFrom : TV M_X0_copyFrom 1 := ⟨mt5 25 (by rfl) rfl, mt1 3 (by rfl) rfl, ⟨by decide, by decide, by decide +kernel⟩⟩
set_option maxRecDepth 40000 in
theorem ti_X0_copyFrom : TI M_X0_copyFrom := mt5 23 (by rfl) rfl
set_option maxRecDepth 40000 in
theorem ts_X0_copyFrom : TS M_X0_copyFrom := mt5 24 (by rfl) rfl
theorem kc_X0_copyFrom : KC M_X0_copyFrom 1 := ⟨by decide, by decide, rfl⟩
def M_X0_all : MX := (yX0_all, cX0_all, 2, some (.long), 0, 0, 0, 0)
theorem mM_X0_all : mM M_X0_all = 0 := rfl
theorem mS_X0_all : mS M_X0_all = 0 := rfl
set_option maxRecDepth 40000 in
theorem tv_X0_all : TV M_X0_all 0 := ⟨mt2 233 (by rfl) rfl, mt1 3 (by rfl) rfl, ⟨by decide, by decide, by decide +kernel⟩⟩
set_option maxRecDepth 40000 in
theorem ti_X0_all : TI M_X0_all := mt2 231 (by rfl) rfl
set_option maxRecDepth 40000 in
theorem ts_X0_all : TS M_X0_all := mt2 232 (by rfl) rfl
theorem kc_X0_all : KC M_X0_all 1 := ⟨by decide, by decide, rfl⟩
def M_X0_measure : MX := (yX0_measure, cX0_measure, 4, none, 1, 21, 0, 0)
theorem mM_X0_measure : mM M_X0_measure = 0 := rfl
theorem mS_X0_measure : mS M_X0_measure = 0 := rfl
set_option maxRecDepth 40000 in
theorem tv_X0_measure : TV M_X0_measure 0 := ⟨mt3 7 (by rfl) rfl, mt1 3 (by rfl) rfl, ⟨by decide, by decide, by decide +kernel⟩⟩
set_option maxRecDepth 40000 in
theorem ti_X0_measure : TI M_X0_measure := mt3 5 (by rfl) rfl
set_option maxRecDepth 40000 in
theorem ts_X0_measure : TS M_X0_measure := mt3 6 (by rfl) rfl
theorem kc_X0_measure : KC M_X0_measure 1 := ⟨by decide, by decide, rfl⟩
def M_X0_isOpen : MX := (yX0_isOpen, cX0_isOpen, 2, some (.boolean), 1, 22, 0, 0)
theorem mM_X0_isOpen : mM M_X0_isOpen = 0 := rfl
theorem mS_X0_isOpen : mS M_X0_isOpen = 0 := rfl
set_option maxRecDepth 40000 in
theorem tv_X0_isOpen : TV M_X0_isOpen 1 := ⟨mt3 112 (by rfl) rfl, mt1 3 (by rfl) rfl, ⟨by decide, by decide, by decide +kernel⟩⟩
set_option maxRecDepth 40000 in
theorem ti_X0_isOpen : TI M_X0_isOpen := mt3 110 (by rfl) rfl
set_option maxRecDepth 40000 in
theorem ts_X0_isOpen : TS M_X0_isOpen := mt3 111 (by rfl) rfl
theorem kc_X0_isOpen : KC M_X0_isOpen 1 := ⟨by decide, by decide, rfl⟩
def M_X0_hasJudge : MX := (yX0_hasJudge, cX0_hasJudge, 2, some (.boolean), 0, 0, 0, 0)
theorem mM_X0_hasJudge : mM M_X0_hasJudge = 0 := rfl
theorem mS_X0_hasJudge : mS M_X0_hasJudge = 0 := rfl
set_option maxRecDepth 40000 in
theorem tv_X0_hasJudge : TV M_X0_hasJudge 1 := ⟨mt3 94 (by rfl) rfl, mt1 3 (by rfl) rfl, ⟨by decide, by decide, by decide +kernel⟩⟩
set_option maxRecDepth 40000 in
theorem ti_X0_hasJudge : TI M_X0_hasJudge := mt3 92 (by rfl) rfl
set_option maxRecDepth 40000 in
theorem ts_X0_hasJudge : TS M_X0_hasJudge := mt3 93 (by rfl) rfl
theorem kc_X0_hasJudge : KC M_X0_hasJudge 1 := ⟨by decide, by decide, rfl⟩
def M_X0_hasPleader : MX := (yX0_hasPleader, cX0_hasPleader, 2, some (.boolean), 0, 0, 0, 0)
theorem mM_X0_hasPleader : mM M_X0_hasPleader = 0 := rfl
theorem mS_X0_hasPleader : mS M_X0_hasPleader = 0 := rfl
set_option maxRecDepth 40000 in
theorem tv_X0_hasPleader : TV M_X0_hasPleader 1 := ⟨mt3 104 (by rfl) rfl, mt1 3 (by rfl) rfl, ⟨by decide, by decide, by decide +kernel⟩⟩
set_option maxRecDepth 40000 in
theorem ti_X0_hasPleader : TI M_X0_hasPleader := mt3 102 (by rfl) rfl
set_option maxRecDepth 40000 in
theorem ts_X0_hasPleader : TS M_X0_hasPleader := mt3 103 (by rfl) rfl
theorem kc_X0_hasPleader : KC M_X0_hasPleader 1 := ⟨by decide, by decide, rfl⟩
def M_X0_of : MX := (yX0_of, cX0_of, 3, some (.int), 0, 0, 0, 0)
theorem mM_X0_of : mM M_X0_of = 0 := rfl
theorem mS_X0_of : mS M_X0_of = 0 := rfl
set_option maxRecDepth 40000 in
theorem tv_X0_of : TV M_X0_of 2 := ⟨mt3 3 (by rfl) rfl, mt1 3 (by rfl) rfl, ⟨by decide, by decide, by decide +kernel⟩⟩
set_option maxRecDepth 40000 in
theorem ti_X0_of : TI M_X0_of := mt3 1 (by rfl) rfl
set_option maxRecDepth 40000 in
theorem ts_X0_of : TS M_X0_of := mt3 2 (by rfl) rfl
theorem kc_X0_of : KC M_X0_of 1 := ⟨by decide, by decide, rfl⟩
def M_X0_faces : MX := (yX0_faces, cX0_faces, 3, some (.int), 1, 22, 0, 0)
theorem mM_X0_faces : mM M_X0_faces = 0 := rfl
theorem mS_X0_faces : mS M_X0_faces = 0 := rfl
set_option maxRecDepth 40000 in
theorem tv_X0_faces : TV M_X0_faces 2 := ⟨mt3 71 (by rfl) rfl, mt1 3 (by rfl) rfl, ⟨by decide, by decide, by decide +kernel⟩⟩
set_option maxRecDepth 40000 in
theorem ti_X0_faces : TI M_X0_faces := mt3 69 (by rfl) rfl
set_option maxRecDepth 40000 in
theorem ts_X0_faces : TS M_X0_faces := mt3 70 (by rfl) rfl
theorem kc_X0_faces : KC M_X0_faces 1 := ⟨by decide, by decide, rfl⟩
def M_X0_grow : MX := (yX0_grow, cX0_grow, 5, some (.long), 0, 0, 0, 0)
theorem mM_X0_grow : mM M_X0_grow = 0 := rfl
theorem mS_X0_grow : mS M_X0_grow = 0 := rfl
set_option maxRecDepth 40000 in
theorem tv_X0_grow : TV M_X0_grow 1 := ⟨mt3 42 (by rfl) rfl, mt1 3 (by rfl) rfl, ⟨by decide, by decide, by decide +kernel⟩⟩
set_option maxRecDepth 40000 in
theorem ti_X0_grow : TI M_X0_grow := mt3 40 (by rfl) rfl
set_option maxRecDepth 40000 in
theorem ts_X0_grow : TS M_X0_grow := mt3 41 (by rfl) rfl
theorem kc_X0_grow : KC M_X0_grow 1 := ⟨by decide, by decide, rfl⟩
def M_X0_beside : MX := (yX0_beside, cX0_beside, 5, some (.long), 0, 0, 0, 0)
theorem mM_X0_beside : mM M_X0_beside = 0 := rfl
theorem mS_X0_beside : mS M_X0_beside = 0 := rfl
set_option maxRecDepth 40000 in
theorem tv_X0_beside : TV M_X0_beside 2 := ⟨mt3 38 (by rfl) rfl, mt1 3 (by rfl) rfl, ⟨by decide, by decide, by decide +kernel⟩⟩
set_option maxRecDepth 40000 in
theorem ti_X0_beside : TI M_X0_beside := mt3 36 (by rfl) rfl
set_option maxRecDepth 40000 in
theorem ts_X0_beside : TS M_X0_beside := mt3 37 (by rfl) rfl
theorem kc_X0_beside : KC M_X0_beside 1 := ⟨by decide, by decide, rfl⟩
def M_X0_stepTo : MX := (yX0_stepTo, cX0_stepTo, 5, some (.int), 2, 43, 0, 0)
theorem mM_X0_stepTo : mM M_X0_stepTo = 0 := rfl
theorem mS_X0_stepTo : mS M_X0_stepTo = 0 := rfl
set_option maxRecDepth 40000 in
theorem tv_X0_stepTo : TV M_X0_stepTo 2 := ⟨mt3 235 (by rfl) rfl, mt1 3 (by rfl) rfl, ⟨by decide, by decide, by decide +kernel⟩⟩
set_option maxRecDepth 40000 in
theorem ti_X0_stepTo : TI M_X0_stepTo := mt3 233 (by rfl) rfl
set_option maxRecDepth 40000 in
theorem ts_X0_stepTo : TS M_X0_stepTo := mt3 234 (by rfl) rfl
theorem kc_X0_stepTo : KC M_X0_stepTo 1 := ⟨by decide, by decide, rfl⟩
def M_X0_ray : MX := (yX0_ray, cX0_ray, 7, some (.long), 3, 67, 0, 0)
theorem mM_X0_ray : mM M_X0_ray = 0 := rfl
theorem mS_X0_ray : mS M_X0_ray = 0 := rfl
set_option maxRecDepth 40000 in
theorem tv_X0_ray : TV M_X0_ray 2 := ⟨mt4 198 (by rfl) rfl, mt1 3 (by rfl) rfl, ⟨by decide, by decide, by decide +kernel⟩⟩
set_option maxRecDepth 40000 in
theorem ti_X0_ray : TI M_X0_ray := mt4 196 (by rfl) rfl
set_option maxRecDepth 40000 in
theorem ts_X0_ray : TS M_X0_ray := mt4 197 (by rfl) rfl
theorem kc_X0_ray : KC M_X0_ray 1 := ⟨by decide, by decide, rfl⟩
def M_X0_steps : MX := (yX0_steps, cX0_steps, 7, some (.int), 1, 24, 0, 0)
theorem mM_X0_steps : mM M_X0_steps = 0 := rfl
theorem mS_X0_steps : mS M_X0_steps = 0 := rfl
set_option maxRecDepth 40000 in
theorem tv_X0_steps : TV M_X0_steps 2 := ⟨mt3 117 (by rfl) rfl, mt1 3 (by rfl) rfl, ⟨by decide, by decide, by decide +kernel⟩⟩
set_option maxRecDepth 40000 in
theorem ti_X0_steps : TI M_X0_steps := mt3 115 (by rfl) rfl
set_option maxRecDepth 40000 in
theorem ts_X0_steps : TS M_X0_steps := mt3 116 (by rfl) rfl
theorem kc_X0_steps : KC M_X0_steps 1 := ⟨by decide, by decide, rfl⟩
def M_X0_parts : MX := (yX0_parts, cX0_parts, 5, some (.int), 2, 49, 0, 0)
theorem mM_X0_parts : mM M_X0_parts = 0 := rfl
theorem mS_X0_parts : mS M_X0_parts = 0 := rfl
set_option maxRecDepth 40000 in
theorem tv_X0_parts : TV M_X0_parts 0 := ⟨mt5 10 (by rfl) rfl, mt1 3 (by rfl) rfl, ⟨by decide, by decide, by decide +kernel⟩⟩
set_option maxRecDepth 40000 in
theorem ti_X0_parts : TI M_X0_parts := mt5 8 (by rfl) rfl
set_option maxRecDepth 40000 in
theorem ts_X0_parts : TS M_X0_parts := mt5 9 (by rfl) rfl
theorem kc_X0_parts : KC M_X0_parts 1 := ⟨by decide, by decide, rfl⟩
def M_X0_connected : MX := (yX0_connected, cX0_connected, 6, some (.long), 1, 24, 0, 0)
theorem mM_X0_connected : mM M_X0_connected = 0 := rfl
theorem mS_X0_connected : mS M_X0_connected = 0 := rfl
set_option maxRecDepth 40000 in
theorem tv_X0_connected : TV M_X0_connected 1 := ⟨mt5 17 (by rfl) rfl, mt1 3 (by rfl) rfl, ⟨by decide, by decide, by decide +kernel⟩⟩
set_option maxRecDepth 40000 in
theorem ti_X0_connected : TI M_X0_connected := mt5 16 (by rfl) rfl
set_option maxRecDepth 40000 in
theorem ts_X0_connected : TS M_X0_connected := mtP3 6 (by rfl) rfl
theorem kc_X0_connected : KC M_X0_connected 1 := ⟨by decide, by decide, rfl⟩
def M_X0_lay : MX := (yX0_lay, cX0_lay, 2, none, 3, 77, 0, 0)
theorem mM_X0_lay : mM M_X0_lay = 0 := rfl
theorem mS_X0_lay : mS M_X0_lay = 0 := rfl
set_option maxRecDepth 40000 in
theorem tv_X0_lay : TV M_X0_lay 0 := ⟨mt3 29 (by rfl) rfl, mt1 3 (by rfl) rfl, ⟨by decide, by decide, by decide +kernel⟩⟩
set_option maxRecDepth 40000 in
theorem ti_X0_lay : TI M_X0_lay := mt3 27 (by rfl) rfl
set_option maxRecDepth 40000 in
theorem ts_X0_lay : TS M_X0_lay := mt3 28 (by rfl) rfl
theorem kc_X0_lay : KC M_X0_lay 1 := ⟨by decide, by decide, rfl⟩
def M_X0_layOf : MX := (yX0_layOf, cX0_layOf, 8, none, 2, 50, 0, 0)
theorem mM_X0_layOf : mM M_X0_layOf = 0 := rfl
theorem mS_X0_layOf : mS M_X0_layOf = 0 := rfl
set_option maxRecDepth 40000 in
theorem tv_X0_layOf : TV M_X0_layOf 1 := ⟨mt3 33 (by rfl) rfl, mt1 3 (by rfl) rfl, ⟨by decide, by decide, by decide +kernel⟩⟩
set_option maxRecDepth 40000 in
theorem ti_X0_layOf : TI M_X0_layOf := mt3 32 (by rfl) rfl
set_option maxRecDepth 40000 in
theorem ts_X0_layOf : TS M_X0_layOf := mtP2 2 (by rfl) rfl
theorem kc_X0_layOf : KC M_X0_layOf 1 := ⟨by decide, by decide, rfl⟩
def M_X0_layVia : MX := (yX0_layVia, cX0_layVia, 7, none, 1, 24, 0, 0)
theorem mM_X0_layVia : mM M_X0_layVia = 0 := rfl
theorem mS_X0_layVia : mS M_X0_layVia = 0 := rfl
set_option maxRecDepth 40000 in
theorem tv_X0_layVia : TV M_X0_layVia 2 := ⟨mt3 46 (by rfl) rfl, mt1 3 (by rfl) rfl, ⟨by decide, by decide, by decide +kernel⟩⟩
set_option maxRecDepth 40000 in
theorem ti_X0_layVia : TI M_X0_layVia := mt3 45 (by rfl) rfl
set_option maxRecDepth 40000 in
theorem ts_X0_layVia : TS M_X0_layVia := mtP2 3 (by rfl) rfl
theorem kc_X0_layVia : KC M_X0_layVia 1 := ⟨by decide, by decide, rfl⟩
def M_X0_turned : MX := (yX0_turned, cX0_turned, 3, some (.int), 0, 0, 0, 0)
theorem mM_X0_turned : mM M_X0_turned = 0 := rfl
theorem mS_X0_turned : mS M_X0_turned = 0 := rfl
set_option maxRecDepth 40000 in
theorem tv_X0_turned : TV M_X0_turned 2 := ⟨mt3 74 (by rfl) rfl, mt1 3 (by rfl) rfl, ⟨by decide, by decide, by decide +kernel⟩⟩
set_option maxRecDepth 40000 in
theorem ts_X0_turned : Cond.static (mY M_X0_turned) ∈ gTbl := mt3 73 (by rfl) rfl
def M_X0_sidesFrom : MX := (yX0_sidesFrom, cX0_sidesFrom, 5, some (.int), 1, 22, 0, 0)
theorem mM_X0_sidesFrom : mM M_X0_sidesFrom = 0 := rfl
theorem mS_X0_sidesFrom : mS M_X0_sidesFrom = 0 := rfl
set_option maxRecDepth 40000 in
theorem tv_X0_sidesFrom : TV M_X0_sidesFrom 2 := ⟨mt3 128 (by rfl) rfl, mt1 3 (by rfl) rfl, ⟨by decide, by decide, by decide +kernel⟩⟩
set_option maxRecDepth 40000 in
theorem ti_X0_sidesFrom : TI M_X0_sidesFrom := mt3 126 (by rfl) rfl
set_option maxRecDepth 40000 in
theorem ts_X0_sidesFrom : TS M_X0_sidesFrom := mt3 127 (by rfl) rfl
theorem kc_X0_sidesFrom : KC M_X0_sidesFrom 1 := ⟨by decide, by decide, rfl⟩
def M_X0_audibleFrom : MX := (yX0_audibleFrom, cX0_audibleFrom, 7, some (.long), 0, 0, 0, 0)
theorem mM_X0_audibleFrom : mM M_X0_audibleFrom = 0 := rfl
theorem mS_X0_audibleFrom : mS M_X0_audibleFrom = 0 := rfl
set_option maxRecDepth 40000 in
theorem tv_X0_audibleFrom : TV M_X0_audibleFrom 3 := ⟨mt3 78 (by rfl) rfl, mt1 3 (by rfl) rfl, ⟨by decide, by decide, by decide +kernel⟩⟩
set_option maxRecDepth 40000 in
theorem ti_X0_audibleFrom : TI M_X0_audibleFrom := mt3 76 (by rfl) rfl
set_option maxRecDepth 40000 in
theorem ts_X0_audibleFrom : TS M_X0_audibleFrom := mt3 77 (by rfl) rfl
theorem kc_X0_audibleFrom : KC M_X0_audibleFrom 1 := ⟨by decide, by decide, rfl⟩
def M_X0_sidesOf : MX := (yX0_sidesOf, cX0_sidesOf, 1, some (.int), 0, 0, 0, 0)
theorem mM_X0_sidesOf : mM M_X0_sidesOf = 0 := rfl
theorem mS_X0_sidesOf : mS M_X0_sidesOf = 0 := rfl
set_option maxRecDepth 40000 in
theorem tv_X0_sidesOf : TV M_X0_sidesOf 1 := ⟨mt3 67 (by rfl) rfl, mt1 3 (by rfl) rfl, ⟨by decide, by decide, by decide +kernel⟩⟩
set_option maxRecDepth 40000 in
theorem ts_X0_sidesOf : Cond.static (mY M_X0_sidesOf) ∈ gTbl := mt3 66 (by rfl) rfl
def M_X0_audible : MX := (yX0_audible, cX0_audible, 5, some (.long), 2, 44, 0, 0)
theorem mM_X0_audible : mM M_X0_audible = 0 := rfl
theorem mS_X0_audible : mS M_X0_audible = 0 := rfl
set_option maxRecDepth 40000 in
theorem tv_X0_audible : TV M_X0_audible 3 := ⟨mt3 64 (by rfl) rfl, mt1 3 (by rfl) rfl, ⟨by decide, by decide, by decide +kernel⟩⟩
set_option maxRecDepth 40000 in
theorem ti_X0_audible : TI M_X0_audible := mt3 62 (by rfl) rfl
set_option maxRecDepth 40000 in
theorem ts_X0_audible : TS M_X0_audible := mt3 63 (by rfl) rfl
theorem kc_X0_audible : KC M_X0_audible 1 := ⟨by decide, by decide, rfl⟩
def M_X0_earsAt : MX := (yX0_earsAt, cX0_earsAt, 6, some (.int), 3, 68, 0, 0)
theorem mM_X0_earsAt : mM M_X0_earsAt = 0 := rfl
theorem mS_X0_earsAt : mS M_X0_earsAt = 0 := rfl
set_option maxRecDepth 40000 in
theorem tv_X0_earsAt : TV M_X0_earsAt 3 := ⟨mt3 140 (by rfl) rfl, mt1 3 (by rfl) rfl, ⟨by decide, by decide, by decide +kernel⟩⟩
set_option maxRecDepth 40000 in
theorem ti_X0_earsAt : TI M_X0_earsAt := mt3 138 (by rfl) rfl
set_option maxRecDepth 40000 in
theorem ts_X0_earsAt : TS M_X0_earsAt := mt3 139 (by rfl) rfl
theorem kc_X0_earsAt : KC M_X0_earsAt 1 := ⟨by decide, by decide, rfl⟩
def M_X0_blind : MX := (yX0_blind, cX0_blind, 6, some (.int), 3, 68, 0, 0)
theorem mM_X0_blind : mM M_X0_blind = 0 := rfl
theorem mS_X0_blind : mS M_X0_blind = 0 := rfl
set_option maxRecDepth 40000 in
theorem tv_X0_blind : TV M_X0_blind 2 := ⟨mt3 60 (by rfl) rfl, mt1 3 (by rfl) rfl, ⟨by decide, by decide, by decide +kernel⟩⟩
set_option maxRecDepth 40000 in
theorem ti_X0_blind : TI M_X0_blind := mt3 58 (by rfl) rfl
set_option maxRecDepth 40000 in
theorem ts_X0_blind : TS M_X0_blind := mt3 59 (by rfl) rfl
theorem kc_X0_blind : KC M_X0_blind 1 := ⟨by decide, by decide, rfl⟩
def M_X0_quarter : MX := (yX0_quarter, cX0_quarter, 3, some (.int), 4, 93, 0, 0)
theorem mM_X0_quarter : mM M_X0_quarter = 0 := rfl
theorem mS_X0_quarter : mS M_X0_quarter = 0 := rfl
set_option maxRecDepth 40000 in
theorem tv_X0_quarter : TV M_X0_quarter 0 := ⟨mt3 56 (by rfl) rfl, mt1 3 (by rfl) rfl, ⟨by decide, by decide, by decide +kernel⟩⟩
set_option maxRecDepth 40000 in
theorem ti_X0_quarter : TI M_X0_quarter := mt3 54 (by rfl) rfl
set_option maxRecDepth 40000 in
theorem ts_X0_quarter : TS M_X0_quarter := mt3 55 (by rfl) rfl
theorem kc_X0_quarter : KC M_X0_quarter 1 := ⟨by decide, by decide, rfl⟩
def M_X1_init : MX := (yX1_init, cX1_init, 1, none, 1, 20, 5, 74)
theorem mM_X1_init : mM M_X1_init = 5 := rfl
theorem mS_X1_init : mS M_X1_init = 74 := rfl
set_option maxRecDepth 40000 in
theorem tv_X1_init : TV M_X1_init 0 := ⟨mt1 225 (by rfl) rfl, mt1 6 (by rfl) rfl, ⟨by decide, by decide, by decide +kernel⟩⟩
set_option maxRecDepth 40000 in
theorem ti_X1_init : TI M_X1_init := mt1 224 (by rfl) rfl
def M_X1_play : MX := (yX1_play, cX1_play, 5, none, 5, 114, 0, 0)
theorem mM_X1_play : mM M_X1_play = 0 := rfl
theorem mS_X1_play : mS M_X1_play = 0 := rfl
set_option maxRecDepth 40000 in
theorem tv_X1_play : TV M_X1_play 3 := ⟨mt4 34 (by rfl) rfl, mt1 6 (by rfl) rfl, ⟨by decide, by decide, by decide +kernel⟩⟩
set_option maxRecDepth 40000 in
theorem ti_X1_play : TI M_X1_play := mt4 32 (by rfl) rfl
set_option maxRecDepth 40000 in
theorem ts_X1_play : TS M_X1_play := mt4 33 (by rfl) rfl
theorem kc_X1_play : KC M_X1_play 2 := ⟨by decide, by decide, rfl⟩
def M_X1_canBe : MX := (yX1_canBe, cX1_canBe, 4, some (.boolean), 4, 91, 0, 0)
theorem mM_X1_canBe : mM M_X1_canBe = 0 := rfl
theorem mS_X1_canBe : mS M_X1_canBe = 0 := rfl
set_option maxRecDepth 40000 in
theorem tv_X1_canBe : TV M_X1_canBe 1 := ⟨mt4 38 (by rfl) rfl, mt1 6 (by rfl) rfl, ⟨by decide, by decide, by decide +kernel⟩⟩
set_option maxRecDepth 40000 in
theorem ti_X1_canBe : TI M_X1_canBe := mt4 37 (by rfl) rfl
set_option maxRecDepth 40000 in
theorem ts_X1_canBe : TS M_X1_canBe := mtP2 13 (by rfl) rfl
theorem kc_X1_canBe : KC M_X1_canBe 2 := ⟨by decide, by decide, rfl⟩
def M_X1_step : MX := (yX1_step, cX1_step, 5, some (.boolean), 3, 67, 0, 0)
theorem mM_X1_step : mM M_X1_step = 0 := rfl
theorem mS_X1_step : mS M_X1_step = 0 := rfl
set_option maxRecDepth 40000 in
theorem tv_X1_step : TV M_X1_step 2 := ⟨mt4 44 (by rfl) rfl, mt1 6 (by rfl) rfl, ⟨by decide, by decide, by decide +kernel⟩⟩
set_option maxRecDepth 40000 in
theorem ti_X1_step : TI M_X1_step := mt4 43 (by rfl) rfl
set_option maxRecDepth 40000 in
theorem ts_X1_step : TS M_X1_step := mtP2 14 (by rfl) rfl
theorem kc_X1_step : KC M_X1_step 2 := ⟨by decide, by decide, rfl⟩
def M_X1_isSaid : MX := (yX1_isSaid, cX1_isSaid, 2, some (.boolean), 1, 22, 0, 0)
theorem mM_X1_isSaid : mM M_X1_isSaid = 0 := rfl
theorem mS_X1_isSaid : mS M_X1_isSaid = 0 := rfl
set_option maxRecDepth 40000 in
theorem tv_X1_isSaid : TV M_X1_isSaid 1 := ⟨mt4 75 (by rfl) rfl, mt1 6 (by rfl) rfl, ⟨by decide, by decide, by decide +kernel⟩⟩
set_option maxRecDepth 40000 in
theorem ti_X1_isSaid : TI M_X1_isSaid := mt4 73 (by rfl) rfl
set_option maxRecDepth 40000 in
theorem ts_X1_isSaid : TS M_X1_isSaid := mt4 74 (by rfl) rfl
theorem kc_X1_isSaid : KC M_X1_isSaid 2 := ⟨by decide, by decide, rfl⟩
def M_X1_isHeard : MX := (yX1_isHeard, cX1_isHeard, 6, some (.boolean), 1, 26, 0, 0)
theorem mM_X1_isHeard : mM M_X1_isHeard = 0 := rfl
theorem mS_X1_isHeard : mS M_X1_isHeard = 0 := rfl
set_option maxRecDepth 40000 in
theorem tv_X1_isHeard : TV M_X1_isHeard 4 := ⟨mt4 81 (by rfl) rfl, mt1 6 (by rfl) rfl, ⟨by decide, by decide, by decide +kernel⟩⟩
set_option maxRecDepth 40000 in
theorem ti_X1_isHeard : TI M_X1_isHeard := mt4 80 (by rfl) rfl
set_option maxRecDepth 40000 in
theorem ts_X1_isHeard : TS M_X1_isHeard := mtP3 1 (by rfl) rfl
theorem kc_X1_isHeard : KC M_X1_isHeard 2 := ⟨by decide, by decide, rfl⟩
def M_X1_wordsOn : MX := (yX1_wordsOn, cX1_wordsOn, 10, some (.int), 2, 51, 0, 0)
theorem mM_X1_wordsOn : mM M_X1_wordsOn = 0 := rfl
theorem mS_X1_wordsOn : mS M_X1_wordsOn = 0 := rfl
set_option maxRecDepth 40000 in
theorem tv_X1_wordsOn : TV M_X1_wordsOn 6 := ⟨mt4 71 (by rfl) rfl, mt1 6 (by rfl) rfl, ⟨by decide, by decide, by decide +kernel⟩⟩
set_option maxRecDepth 40000 in
theorem ti_X1_wordsOn : TI M_X1_wordsOn := mt4 70 (by rfl) rfl
set_option maxRecDepth 40000 in
theorem ts_X1_wordsOn : TS M_X1_wordsOn := mtP3 0 (by rfl) rfl
theorem kc_X1_wordsOn : KC M_X1_wordsOn 2 := ⟨by decide, by decide, rfl⟩
def M_X1_learnedFrom : MX := (yX1_learnedFrom, cX1_learnedFrom, 3, some (.int), 3, 80, 0, 0)
theorem mM_X1_learnedFrom : mM M_X1_learnedFrom = 0 := rfl
theorem mS_X1_learnedFrom : mS M_X1_learnedFrom = 0 := rfl
set_option maxRecDepth 40000 in
theorem tv_X1_learnedFrom : TV M_X1_learnedFrom 2 := ⟨mt4 135 (by rfl) rfl, mt1 6 (by rfl) rfl, ⟨by decide, by decide, by decide +kernel⟩⟩
set_option maxRecDepth 40000 in
theorem ti_X1_learnedFrom : TI M_X1_learnedFrom := mt4 134 (by rfl) rfl
set_option maxRecDepth 40000 in
theorem ts_X1_learnedFrom : TS M_X1_learnedFrom := mtP3 2 (by rfl) rfl
theorem kc_X1_learnedFrom : KC M_X1_learnedFrom 2 := ⟨by decide, by decide, rfl⟩
def M_X1_ownSides : MX := (yX1_ownSides, cX1_ownSides, 2, some (.int), 1, 22, 0, 0)
theorem mM_X1_ownSides : mM M_X1_ownSides = 0 := rfl
theorem mS_X1_ownSides : mS M_X1_ownSides = 0 := rfl
set_option maxRecDepth 40000 in
theorem tv_X1_ownSides : TV M_X1_ownSides 1 := ⟨mt4 66 (by rfl) rfl, mt1 6 (by rfl) rfl, ⟨by decide, by decide, by decide +kernel⟩⟩
set_option maxRecDepth 40000 in
theorem ti_X1_ownSides : TI M_X1_ownSides := mt4 65 (by rfl) rfl
set_option maxRecDepth 40000 in
theorem ts_X1_ownSides : TS M_X1_ownSides := mtP2 15 (by rfl) rfl
theorem kc_X1_ownSides : KC M_X1_ownSides 2 := ⟨by decide, by decide, rfl⟩
def M_X1_learned : MX := (yX1_learned, cX1_learned, 3, some (.int), 3, 80, 0, 0)
theorem mM_X1_learned : mM M_X1_learned = 0 := rfl
theorem mS_X1_learned : mS M_X1_learned = 0 := rfl
set_option maxRecDepth 40000 in
theorem tv_X1_learned : TV M_X1_learned 2 := ⟨mt4 61 (by rfl) rfl, mt1 6 (by rfl) rfl, ⟨by decide, by decide, by decide +kernel⟩⟩
set_option maxRecDepth 40000 in
theorem ti_X1_learned : TI M_X1_learned := mt4 59 (by rfl) rfl
set_option maxRecDepth 40000 in
theorem ts_X1_learned : TS M_X1_learned := mt4 60 (by rfl) rfl
theorem kc_X1_learned : KC M_X1_learned 2 := ⟨by decide, by decide, rfl⟩
def M_X1_learnedByOtherEar : MX := (yX1_learnedByOtherEar, cX1_learnedByOtherEar, 3, some (.int), 4, 102, 0, 0)
theorem mM_X1_learnedByOtherEar : mM M_X1_learnedByOtherEar = 0 := rfl
theorem mS_X1_learnedByOtherEar : mS M_X1_learnedByOtherEar = 0 := rfl
set_option maxRecDepth 40000 in
theorem tv_X1_learnedByOtherEar : TV M_X1_learnedByOtherEar 1 := ⟨mt4 131 (by rfl) rfl, mt1 6 (by rfl) rfl, ⟨by decide, by decide, by decide +kernel⟩⟩
set_option maxRecDepth 40000 in
theorem ti_X1_learnedByOtherEar : TI M_X1_learnedByOtherEar := mt4 129 (by rfl) rfl
set_option maxRecDepth 40000 in
theorem ts_X1_learnedByOtherEar : TS M_X1_learnedByOtherEar := mt4 130 (by rfl) rfl
theorem kc_X1_learnedByOtherEar : KC M_X1_learnedByOtherEar 2 := ⟨by decide, by decide, rfl⟩
def M_X1_learnAll : MX := (yX1_learnAll, cX1_learnAll, 2, none, 4, 102, 0, 0)
theorem mM_X1_learnAll : mM M_X1_learnAll = 0 := rfl
theorem mS_X1_learnAll : mS M_X1_learnAll = 0 := rfl
set_option maxRecDepth 40000 in
theorem tv_X1_learnAll : TV M_X1_learnAll 0 := ⟨mt4 108 (by rfl) rfl, mt1 6 (by rfl) rfl, ⟨by decide, by decide, by decide +kernel⟩⟩
set_option maxRecDepth 40000 in
theorem ti_X1_learnAll : TI M_X1_learnAll := mt4 106 (by rfl) rfl
set_option maxRecDepth 40000 in
theorem ts_X1_learnAll : TS M_X1_learnAll := mt4 107 (by rfl) rfl
theorem kc_X1_learnAll : KC M_X1_learnAll 2 := ⟨by decide, by decide, rfl⟩
def M_X1_allLearned : MX := (yX1_allLearned, cX1_allLearned, 5, some (.int), 3, 80, 0, 0)
theorem mM_X1_allLearned : mM M_X1_allLearned = 0 := rfl
theorem mS_X1_allLearned : mS M_X1_allLearned = 0 := rfl
set_option maxRecDepth 40000 in
theorem tv_X1_allLearned : TV M_X1_allLearned 1 := ⟨mt4 219 (by rfl) rfl, mt1 6 (by rfl) rfl, ⟨by decide, by decide, by decide +kernel⟩⟩
set_option maxRecDepth 40000 in
theorem ti_X1_allLearned : TI M_X1_allLearned := mt4 217 (by rfl) rfl
set_option maxRecDepth 40000 in
theorem ts_X1_allLearned : TS M_X1_allLearned := mt4 218 (by rfl) rfl
theorem kc_X1_allLearned : KC M_X1_allLearned 2 := ⟨by decide, by decide, rfl⟩
def M_X1_knownFacing : MX := (yX1_knownFacing, cX1_knownFacing, 5, some (.int), 3, 80, 0, 0)
theorem mM_X1_knownFacing : mM M_X1_knownFacing = 0 := rfl
theorem mS_X1_knownFacing : mS M_X1_knownFacing = 0 := rfl
set_option maxRecDepth 40000 in
theorem tv_X1_knownFacing : TV M_X1_knownFacing 2 := ⟨mt4 231 (by rfl) rfl, mt1 6 (by rfl) rfl, ⟨by decide, by decide, by decide +kernel⟩⟩
set_option maxRecDepth 40000 in
theorem ti_X1_knownFacing : TI M_X1_knownFacing := mt4 229 (by rfl) rfl
set_option maxRecDepth 40000 in
theorem ts_X1_knownFacing : TS M_X1_knownFacing := mt4 230 (by rfl) rfl
theorem kc_X1_knownFacing : KC M_X1_knownFacing 2 := ⟨by decide, by decide, rfl⟩
def M_X1_knownOnSeat : MX := (yX1_knownOnSeat, cX1_knownOnSeat, 4, some (.int), 3, 80, 0, 0)
theorem mM_X1_knownOnSeat : mM M_X1_knownOnSeat = 0 := rfl
theorem mS_X1_knownOnSeat : mS M_X1_knownOnSeat = 0 := rfl
set_option maxRecDepth 40000 in
theorem tv_X1_knownOnSeat : TV M_X1_knownOnSeat 2 := ⟨mt4 165 (by rfl) rfl, mt1 6 (by rfl) rfl, ⟨by decide, by decide, by decide +kernel⟩⟩
set_option maxRecDepth 40000 in
theorem ti_X1_knownOnSeat : TI M_X1_knownOnSeat := mt4 163 (by rfl) rfl
set_option maxRecDepth 40000 in
theorem ts_X1_knownOnSeat : TS M_X1_knownOnSeat := mt4 164 (by rfl) rfl
theorem kc_X1_knownOnSeat : KC M_X1_knownOnSeat 2 := ⟨by decide, by decide, rfl⟩
def M_X1_common : MX := (yX1_common, cX1_common, 4, some (.int), 4, 102, 0, 0)
theorem mM_X1_common : mM M_X1_common = 0 := rfl
theorem mS_X1_common : mS M_X1_common = 0 := rfl
set_option maxRecDepth 40000 in
theorem tv_X1_common : TV M_X1_common 1 := ⟨mt4 57 (by rfl) rfl, mt1 6 (by rfl) rfl, ⟨by decide, by decide, by decide +kernel⟩⟩
set_option maxRecDepth 40000 in
theorem ti_X1_common : TI M_X1_common := mt4 55 (by rfl) rfl
set_option maxRecDepth 40000 in
theorem ts_X1_common : TS M_X1_common := mt4 56 (by rfl) rfl
theorem kc_X1_common : KC M_X1_common 2 := ⟨by decide, by decide, rfl⟩
def M_X1_lost : MX := (yX1_lost, cX1_lost, 4, some (.int), 4, 102, 0, 0)
theorem mM_X1_lost : mM M_X1_lost = 0 := rfl
theorem mS_X1_lost : mS M_X1_lost = 0 := rfl
set_option maxRecDepth 40000 in
theorem tv_X1_lost : TV M_X1_lost 1 := ⟨mt4 86 (by rfl) rfl, mt1 6 (by rfl) rfl, ⟨by decide, by decide, by decide +kernel⟩⟩
set_option maxRecDepth 40000 in
theorem ti_X1_lost : TI M_X1_lost := mt4 84 (by rfl) rfl
set_option maxRecDepth 40000 in
theorem ts_X1_lost : TS M_X1_lost := mt4 85 (by rfl) rfl
theorem kc_X1_lost : KC M_X1_lost 2 := ⟨by decide, by decide, rfl⟩
def M_X1_hearers : MX := (yX1_hearers, cX1_hearers, 5, some (.int), 2, 51, 0, 0)
theorem mM_X1_hearers : mM M_X1_hearers = 0 := rfl
theorem mS_X1_hearers : mS M_X1_hearers = 0 := rfl
set_option maxRecDepth 40000 in
theorem tv_X1_hearers : TV M_X1_hearers 1 := ⟨mt4 96 (by rfl) rfl, mt1 6 (by rfl) rfl, ⟨by decide, by decide, by decide +kernel⟩⟩
set_option maxRecDepth 40000 in
theorem ti_X1_hearers : TI M_X1_hearers := mt4 94 (by rfl) rfl
set_option maxRecDepth 40000 in
theorem ts_X1_hearers : TS M_X1_hearers := mt4 95 (by rfl) rfl
theorem kc_X1_hearers : KC M_X1_hearers 2 := ⟨by decide, by decide, rfl⟩
def M_X1_hearersOf : MX := (yX1_hearersOf, cX1_hearersOf, 4, some (.int), 3, 75, 0, 0)
theorem mM_X1_hearersOf : mM M_X1_hearersOf = 0 := rfl
theorem mS_X1_hearersOf : mS M_X1_hearersOf = 0 := rfl
set_option maxRecDepth 40000 in
theorem tv_X1_hearersOf : TV M_X1_hearersOf 1 := ⟨mt5 39 (by rfl) rfl, mt1 6 (by rfl) rfl, ⟨by decide, by decide, by decide +kernel⟩⟩
set_option maxRecDepth 40000 in
theorem ti_X1_hearersOf : TI M_X1_hearersOf := mt5 37 (by rfl) rfl
set_option maxRecDepth 40000 in
theorem ts_X1_hearersOf : TS M_X1_hearersOf := mt5 38 (by rfl) rfl
theorem kc_X1_hearersOf : KC M_X1_hearersOf 2 := ⟨by decide, by decide, rfl⟩
def M_X1_lossOfSold : MX := (yX1_lossOfSold, cX1_lossOfSold, 2, some (.int), 4, 102, 0, 0)
theorem mM_X1_lossOfSold : mM M_X1_lossOfSold = 0 := rfl
theorem mS_X1_lossOfSold : mS M_X1_lossOfSold = 0 := rfl
set_option maxRecDepth 40000 in
theorem tv_X1_lossOfSold : TV M_X1_lossOfSold 1 := ⟨mt4 147 (by rfl) rfl, mt1 6 (by rfl) rfl, ⟨by decide, by decide, by decide +kernel⟩⟩
set_option maxRecDepth 40000 in
theorem ti_X1_lossOfSold : TI M_X1_lossOfSold := mt4 145 (by rfl) rfl
set_option maxRecDepth 40000 in
theorem ts_X1_lossOfSold : TS M_X1_lossOfSold := mt4 146 (by rfl) rfl
theorem kc_X1_lossOfSold : KC M_X1_lossOfSold 2 := ⟨by decide, by decide, rfl⟩
def M_X1_gainOfThird : MX := (yX1_gainOfThird, cX1_gainOfThird, 3, some (.int), 4, 102, 0, 0)
theorem mM_X1_gainOfThird : mM M_X1_gainOfThird = 0 := rfl
theorem mS_X1_gainOfThird : mS M_X1_gainOfThird = 0 := rfl
set_option maxRecDepth 40000 in
theorem tv_X1_gainOfThird : TV M_X1_gainOfThird 1 := ⟨mt4 152 (by rfl) rfl, mt1 6 (by rfl) rfl, ⟨by decide, by decide, by decide +kernel⟩⟩
set_option maxRecDepth 40000 in
theorem ti_X1_gainOfThird : TI M_X1_gainOfThird := mt4 150 (by rfl) rfl
set_option maxRecDepth 40000 in
theorem ts_X1_gainOfThird : TS M_X1_gainOfThird := mt4 151 (by rfl) rfl
theorem kc_X1_gainOfThird : KC M_X1_gainOfThird 2 := ⟨by decide, by decide, rfl⟩
def M_X1_dearest : MX := (yX1_dearest, cX1_dearest, 5, some (.int), 5, 123, 0, 0)
theorem mM_X1_dearest : mM M_X1_dearest = 0 := rfl
theorem mS_X1_dearest : mS M_X1_dearest = 0 := rfl
set_option maxRecDepth 40000 in
theorem tv_X1_dearest : TV M_X1_dearest 0 := ⟨mt4 143 (by rfl) rfl, mt1 6 (by rfl) rfl, ⟨by decide, by decide, by decide +kernel⟩⟩
set_option maxRecDepth 40000 in
theorem ti_X1_dearest : TI M_X1_dearest := mt4 141 (by rfl) rfl
set_option maxRecDepth 40000 in
theorem ts_X1_dearest : TS M_X1_dearest := mt4 142 (by rfl) rfl
theorem kc_X1_dearest : KC M_X1_dearest 2 := ⟨by decide, by decide, rfl⟩
def M_X1_wordsSeen : MX := (yX1_wordsSeen, cX1_wordsSeen, 6, some (.int), 4, 93, 0, 0)
theorem mM_X1_wordsSeen : mM M_X1_wordsSeen = 0 := rfl
theorem mS_X1_wordsSeen : mS M_X1_wordsSeen = 0 := rfl
set_option maxRecDepth 40000 in
theorem tv_X1_wordsSeen : TV M_X1_wordsSeen 1 := ⟨mt4 194 (by rfl) rfl, mt1 6 (by rfl) rfl, ⟨by decide, by decide, by decide +kernel⟩⟩
set_option maxRecDepth 40000 in
theorem ti_X1_wordsSeen : TI M_X1_wordsSeen := mt4 192 (by rfl) rfl
set_option maxRecDepth 40000 in
theorem ts_X1_wordsSeen : TS M_X1_wordsSeen := mt4 193 (by rfl) rfl
theorem kc_X1_wordsSeen : KC M_X1_wordsSeen 2 := ⟨by decide, by decide, rfl⟩
def M_X1_thunder : MX := (yX1_thunder, cX1_thunder, 5, some (.int), 1, 21, 0, 0)
theorem mM_X1_thunder : mM M_X1_thunder = 0 := rfl
theorem mS_X1_thunder : mS M_X1_thunder = 0 := rfl
set_option maxRecDepth 40000 in
theorem tv_X1_thunder : TV M_X1_thunder 2 := ⟨mt4 210 (by rfl) rfl, mt1 6 (by rfl) rfl, ⟨by decide, by decide, by decide +kernel⟩⟩
set_option maxRecDepth 40000 in
theorem ti_X1_thunder : TI M_X1_thunder := mt4 208 (by rfl) rfl
set_option maxRecDepth 40000 in
theorem ts_X1_thunder : TS M_X1_thunder := mt4 209 (by rfl) rfl
theorem kc_X1_thunder : KC M_X1_thunder 2 := ⟨by decide, by decide, rfl⟩
def M_X1_drawBelow : MX := (yX1_drawBelow, cX1_drawBelow, 2, some (.int), 0, 0, 0, 0)
theorem mM_X1_drawBelow : mM M_X1_drawBelow = 0 := rfl
theorem mS_X1_drawBelow : mS M_X1_drawBelow = 0 := rfl
set_option maxRecDepth 40000 in
theorem tv_X1_drawBelow : TV M_X1_drawBelow 1 := ⟨mt4 214 (by rfl) rfl, mt1 6 (by rfl) rfl, ⟨by decide, by decide, by decide +kernel⟩⟩
set_option maxRecDepth 40000 in
theorem ti_X1_drawBelow : TI M_X1_drawBelow := mt4 213 (by rfl) rfl
set_option maxRecDepth 40000 in
theorem ts_X1_drawBelow : TS M_X1_drawBelow := mtP3 5 (by rfl) rfl
theorem kc_X1_drawBelow : KC M_X1_drawBelow 2 := ⟨by decide, by decide, rfl⟩
def M_X2_init : MX := (yX2_init, cX2_init, 3, none, 1, 20, 1, 120)
theorem mM_X2_init : mM M_X2_init = 1 := rfl
theorem mS_X2_init : mS M_X2_init = 120 := rfl
set_option maxRecDepth 40000 in
theorem tv_X2_init : TV M_X2_init 2 := ⟨mt1 120 (by rfl) rfl, mt1 4 (by rfl) rfl, ⟨by decide, by decide, by decide +kernel⟩⟩
set_option maxRecDepth 40000 in
theorem ti_X2_init : TI M_X2_init := mt1 119 (by rfl) rfl
def M_X2_ofSort : MX := (yX2_ofSort, cX2_ofSort, 1, some (.object "OneEared$Listing"), 2, 42, 2, 123)
theorem mM_X2_ofSort : mM M_X2_ofSort = 2 := rfl
theorem mS_X2_ofSort : mS M_X2_ofSort = 123 := rfl
set_option maxRecDepth 40000 in
theorem tv_X2_ofSort : TV M_X2_ofSort 1 := ⟨mt1 115 (by rfl) rfl, mt1 4 (by rfl) rfl, ⟨by decide, by decide, by decide +kernel⟩⟩
set_option maxRecDepth 40000 in
theorem ts_X2_ofSort : Cond.static (mY M_X2_ofSort) ∈ gTbl := mt1 114 (by rfl) rfl
def M_X2_isFull : MX := (yX2_isFull, cX2_isFull, 1, some (.boolean), 0, 0, 0, 0)
theorem mM_X2_isFull : mM M_X2_isFull = 0 := rfl
theorem mS_X2_isFull : mS M_X2_isFull = 0 := rfl
set_option maxRecDepth 40000 in
theorem tv_X2_isFull : TV M_X2_isFull 0 := ⟨mt2 190 (by rfl) rfl, mt1 4 (by rfl) rfl, ⟨by decide, by decide, by decide +kernel⟩⟩
set_option maxRecDepth 40000 in
theorem ti_X2_isFull : TI M_X2_isFull := mt2 188 (by rfl) rfl
set_option maxRecDepth 40000 in
theorem ts_X2_isFull : TS M_X2_isFull := mt2 189 (by rfl) rfl
theorem kc_X2_isFull : KC M_X2_isFull 3 := ⟨by decide, by decide, rfl⟩
def M_X2_at : MX := (yX2_at, cX2_at, 3, some (.int), 0, 0, 0, 0)
theorem mM_X2_at : mM M_X2_at = 0 := rfl
theorem mS_X2_at : mS M_X2_at = 0 := rfl
set_option maxRecDepth 40000 in
theorem tv_X2_at : TV M_X2_at 2 := ⟨mt4 22 (by rfl) rfl, mt1 4 (by rfl) rfl, ⟨by decide, by decide, by decide +kernel⟩⟩
set_option maxRecDepth 40000 in
theorem ti_X2_at : TI M_X2_at := mt4 20 (by rfl) rfl
set_option maxRecDepth 40000 in
theorem ts_X2_at : TS M_X2_at := mt4 21 (by rfl) rfl
theorem kc_X2_at : KC M_X2_at 3 := ⟨by decide, by decide, rfl⟩
def M_X2_put : MX := (yX2_put, cX2_put, 3, none, 0, 0, 0, 0)
theorem mM_X2_put : mM M_X2_put = 0 := rfl
theorem mS_X2_put : mS M_X2_put = 0 := rfl
set_option maxRecDepth 40000 in
theorem tv_X2_put : TV M_X2_put 2 := ⟨mt2 225 (by rfl) rfl, mt1 4 (by rfl) rfl, ⟨by decide, by decide, by decide +kernel⟩⟩
set_option maxRecDepth 40000 in
theorem ti_X2_put : TI M_X2_put := mt2 223 (by rfl) rfl
set_option maxRecDepth 40000 in
theorem ts_X2_put : TS M_X2_put := mt2 224 (by rfl) rfl
theorem kc_X2_put : KC M_X2_put 3 := ⟨by decide, by decide, rfl⟩
def M_X2_copyFrom : MX := (yX2_copyFrom, cX2_copyFrom, 2, none, 1, 79, 0, 0)
theorem mM_X2_copyFrom : mM M_X2_copyFrom = 0 := rfl
theorem mS_X2_copyFrom : mS M_X2_copyFrom = 0 := rfl
set_option maxRecDepth 40000 in
theorem tv_X2_copyFrom : TV M_X2_copyFrom 1 := ⟨mt5 62 (by rfl) rfl, mt1 4 (by rfl) rfl, ⟨by decide, by decide, by decide +kernel⟩⟩
set_option maxRecDepth 40000 in
theorem ti_X2_copyFrom : TI M_X2_copyFrom := mt5 60 (by rfl) rfl
set_option maxRecDepth 40000 in
theorem ts_X2_copyFrom : TS M_X2_copyFrom := mt5 61 (by rfl) rfl
theorem kc_X2_copyFrom : KC M_X2_copyFrom 3 := ⟨by decide, by decide, rfl⟩
def M_X3_init : MX := (yX3_init, cX3_init, 2, none, 3, 62, 16, 690)
theorem mM_X3_init : mM M_X3_init = 16 := rfl
theorem mS_X3_init : mS M_X3_init = 690 := rfl
set_option maxRecDepth 40000 in
theorem tv_X3_init : TV M_X3_init 0 := ⟨mt1 171 (by rfl) rfl, mt1 5 (by rfl) rfl, ⟨by decide, by decide, by decide +kernel⟩⟩
set_option maxRecDepth 40000 in
theorem ti_X3_init : TI M_X3_init := mt1 170 (by rfl) rfl
def M_X3_read : MX := (yX3_read, cX3_read, 5, none, 8, 173, 0, 0)
theorem mM_X3_read : mM M_X3_read = 0 := rfl
theorem mS_X3_read : mS M_X3_read = 0 := rfl
set_option maxRecDepth 40000 in
theorem tv_X3_read : TV M_X3_read 3 := ⟨mt2 76 (by rfl) rfl, mt1 5 (by rfl) rfl, ⟨by decide, by decide, by decide +kernel⟩⟩
set_option maxRecDepth 40000 in
theorem ti_X3_read : TI M_X3_read := mt2 74 (by rfl) rfl
set_option maxRecDepth 40000 in
theorem ts_X3_read : TS M_X3_read := mt2 75 (by rfl) rfl
theorem kc_X3_read : KC M_X3_read 4 := ⟨by decide, by decide, rfl⟩
def M_X3_clearDraft : MX := (yX3_clearDraft, cX3_clearDraft, 2, none, 2, 43, 0, 0)
theorem mM_X3_clearDraft : mM M_X3_clearDraft = 0 := rfl
theorem mS_X3_clearDraft : mS M_X3_clearDraft = 0 := rfl
set_option maxRecDepth 40000 in
theorem tv_X3_clearDraft : TV M_X3_clearDraft 1 := ⟨mt2 80 (by rfl) rfl, mt1 5 (by rfl) rfl, ⟨by decide, by decide, by decide +kernel⟩⟩
set_option maxRecDepth 40000 in
theorem ti_X3_clearDraft : TI M_X3_clearDraft := mt2 79 (by rfl) rfl
set_option maxRecDepth 40000 in
theorem ts_X3_clearDraft : TS M_X3_clearDraft := mtP1 0 (by rfl) rfl
theorem kc_X3_clearDraft : KC M_X3_clearDraft 4 := ⟨by decide, by decide, rfl⟩
def M_X3_advance : MX := (yX3_advance, cX3_advance, 2, none, 2, 40, 0, 0)
theorem mM_X3_advance : mM M_X3_advance = 0 := rfl
theorem mS_X3_advance : mS M_X3_advance = 0 := rfl
set_option maxRecDepth 40000 in
theorem tv_X3_advance : TV M_X3_advance 0 := ⟨mt2 91 (by rfl) rfl, mt1 5 (by rfl) rfl, ⟨by decide, by decide, by decide +kernel⟩⟩
set_option maxRecDepth 40000 in
theorem ti_X3_advance : TI M_X3_advance := mt2 90 (by rfl) rfl
set_option maxRecDepth 40000 in
theorem ts_X3_advance : TS M_X3_advance := mtP1 1 (by rfl) rfl
theorem kc_X3_advance : KC M_X3_advance 4 := ⟨by decide, by decide, rfl⟩
def M_X3_passWord : MX := (yX3_passWord, cX3_passWord, 1, none, 1, 20, 0, 0)
theorem mM_X3_passWord : mM M_X3_passWord = 0 := rfl
theorem mS_X3_passWord : mS M_X3_passWord = 0 := rfl
set_option maxRecDepth 40000 in
theorem tv_X3_passWord : TV M_X3_passWord 0 := ⟨mt2 98 (by rfl) rfl, mt1 5 (by rfl) rfl, ⟨by decide, by decide, by decide +kernel⟩⟩
set_option maxRecDepth 40000 in
theorem ti_X3_passWord : TI M_X3_passWord := mt2 97 (by rfl) rfl
set_option maxRecDepth 40000 in
theorem ts_X3_passWord : TS M_X3_passWord := mtP1 2 (by rfl) rfl
theorem kc_X3_passWord : KC M_X3_passWord 4 := ⟨by decide, by decide, rfl⟩
def M_X3_passDigits : MX := (yX3_passDigits, cX3_passDigits, 1, none, 1, 20, 0, 0)
theorem mM_X3_passDigits : mM M_X3_passDigits = 0 := rfl
theorem mS_X3_passDigits : mS M_X3_passDigits = 0 := rfl
set_option maxRecDepth 40000 in
theorem tv_X3_passDigits : TV M_X3_passDigits 0 := ⟨mt2 105 (by rfl) rfl, mt1 5 (by rfl) rfl, ⟨by decide, by decide, by decide +kernel⟩⟩
set_option maxRecDepth 40000 in
theorem ti_X3_passDigits : TI M_X3_passDigits := mt2 104 (by rfl) rfl
set_option maxRecDepth 40000 in
theorem ts_X3_passDigits : TS M_X3_passDigits := mtP1 3 (by rfl) rfl
theorem kc_X3_passDigits : KC M_X3_passDigits 4 := ⟨by decide, by decide, rfl⟩
def M_X3_isLetter : MX := (yX3_isLetter, cX3_isLetter, 1, some (.boolean), 0, 0, 0, 0)
theorem mM_X3_isLetter : mM M_X3_isLetter = 0 := rfl
theorem mS_X3_isLetter : mS M_X3_isLetter = 0 := rfl
set_option maxRecDepth 40000 in
theorem tv_X3_isLetter : TV M_X3_isLetter 1 := ⟨mt2 94 (by rfl) rfl, mt1 5 (by rfl) rfl, ⟨by decide, by decide, by decide +kernel⟩⟩
set_option maxRecDepth 40000 in
theorem ts_X3_isLetter : Cond.static (mY M_X3_isLetter) ∈ gTbl := mt2 93 (by rfl) rfl
def M_X3_isDigit : MX := (yX3_isDigit, cX3_isDigit, 1, some (.boolean), 0, 0, 0, 0)
theorem mM_X3_isDigit : mM M_X3_isDigit = 0 := rfl
theorem mS_X3_isDigit : mS M_X3_isDigit = 0 := rfl
set_option maxRecDepth 40000 in
theorem tv_X3_isDigit : TV M_X3_isDigit 1 := ⟨mt2 101 (by rfl) rfl, mt1 5 (by rfl) rfl, ⟨by decide, by decide, by decide +kernel⟩⟩
set_option maxRecDepth 40000 in
theorem ts_X3_isDigit : Cond.static (mY M_X3_isDigit) ∈ gTbl := mt2 100 (by rfl) rfl
def M_X3_readLine : MX := (yX3_readLine, cX3_readLine, 4, some (.boolean), 7, 150, 0, 0)
theorem mM_X3_readLine : mM M_X3_readLine = 0 := rfl
theorem mS_X3_readLine : mS M_X3_readLine = 0 := rfl
set_option maxRecDepth 40000 in
theorem tv_X3_readLine : TV M_X3_readLine 1 := ⟨mt2 109 (by rfl) rfl, mt1 5 (by rfl) rfl, ⟨by decide, by decide, by decide +kernel⟩⟩
set_option maxRecDepth 40000 in
theorem ti_X3_readLine : TI M_X3_readLine := mt2 108 (by rfl) rfl
set_option maxRecDepth 40000 in
theorem ts_X3_readLine : TS M_X3_readLine := mtP1 4 (by rfl) rfl
theorem kc_X3_readLine : KC M_X3_readLine 4 := ⟨by decide, by decide, rfl⟩
def M_X3_formHere : MX := (yX3_formHere, cX3_formHere, 3, some (.int), 6, 128, 0, 0)
theorem mM_X3_formHere : mM M_X3_formHere = 0 := rfl
theorem mS_X3_formHere : mS M_X3_formHere = 0 := rfl
set_option maxRecDepth 40000 in
theorem tv_X3_formHere : TV M_X3_formHere 1 := ⟨mt2 113 (by rfl) rfl, mt1 5 (by rfl) rfl, ⟨by decide, by decide, by decide +kernel⟩⟩
set_option maxRecDepth 40000 in
theorem ti_X3_formHere : TI M_X3_formHere := mt2 112 (by rfl) rfl
set_option maxRecDepth 40000 in
theorem ts_X3_formHere : TS M_X3_formHere := mtP1 5 (by rfl) rfl
theorem kc_X3_formHere : KC M_X3_formHere 4 := ⟨by decide, by decide, rfl⟩
def M_X3_wordOf : MX := (yX3_wordOf, cX3_wordOf, 1, some (.object "java/lang/String"), 0, 0, 0, 0)
theorem mM_X3_wordOf : mM M_X3_wordOf = 0 := rfl
theorem mS_X3_wordOf : mS M_X3_wordOf = 0 := rfl
set_option maxRecDepth 40000 in
theorem tv_X3_wordOf : TV M_X3_wordOf 1 := ⟨mt2 118 (by rfl) rfl, mt1 5 (by rfl) rfl, ⟨by decide, by decide, by decide +kernel⟩⟩
set_option maxRecDepth 40000 in
theorem ts_X3_wordOf : Cond.static (mY M_X3_wordOf) ∈ gTbl := mt2 117 (by rfl) rfl
def M_X3_isHere : MX := (yX3_isHere, cX3_isHere, 3, some (.boolean), 5, 106, 0, 0)
theorem mM_X3_isHere : mM M_X3_isHere = 0 := rfl
theorem mS_X3_isHere : mS M_X3_isHere = 0 := rfl
set_option maxRecDepth 40000 in
theorem tv_X3_isHere : TV M_X3_isHere 1 := ⟨mt2 134 (by rfl) rfl, mt1 5 (by rfl) rfl, ⟨by decide, by decide, by decide +kernel⟩⟩
set_option maxRecDepth 40000 in
theorem ti_X3_isHere : TI M_X3_isHere := mt2 133 (by rfl) rfl
set_option maxRecDepth 40000 in
theorem ts_X3_isHere : TS M_X3_isHere := mtP1 6 (by rfl) rfl
theorem kc_X3_isHere : KC M_X3_isHere 4 := ⟨by decide, by decide, rfl⟩
def M_X3_isOneTooMany : MX := (yX3_isOneTooMany, cX3_isOneTooMany, 2, some (.boolean), 1, 20, 0, 0)
theorem mM_X3_isOneTooMany : mM M_X3_isOneTooMany = 0 := rfl
theorem mS_X3_isOneTooMany : mS M_X3_isOneTooMany = 0 := rfl
set_option maxRecDepth 40000 in
theorem tv_X3_isOneTooMany : TV M_X3_isOneTooMany 1 := ⟨mt2 186 (by rfl) rfl, mt1 5 (by rfl) rfl, ⟨by decide, by decide, by decide +kernel⟩⟩
set_option maxRecDepth 40000 in
theorem ti_X3_isOneTooMany : TI M_X3_isOneTooMany := mt2 185 (by rfl) rfl
set_option maxRecDepth 40000 in
theorem ts_X3_isOneTooMany : TS M_X3_isOneTooMany := mtP1 7 (by rfl) rfl
theorem kc_X3_isOneTooMany : KC M_X3_isOneTooMany 4 := ⟨by decide, by decide, rfl⟩
def M_X3_note : MX := (yX3_note, cX3_note, 3, none, 0, 0, 0, 0)
theorem mM_X3_note : mM M_X3_note = 0 := rfl
theorem mS_X3_note : mS M_X3_note = 0 := rfl
set_option maxRecDepth 40000 in
theorem tv_X3_note : TV M_X3_note 2 := ⟨mt2 194 (by rfl) rfl, mt1 5 (by rfl) rfl, ⟨by decide, by decide, by decide +kernel⟩⟩
set_option maxRecDepth 40000 in
theorem ti_X3_note : TI M_X3_note := mt2 193 (by rfl) rfl
set_option maxRecDepth 40000 in
theorem ts_X3_note : TS M_X3_note := mtP1 8 (by rfl) rfl
theorem kc_X3_note : KC M_X3_note 4 := ⟨by decide, by decide, rfl⟩
def M_X3_readNumber : MX := (yX3_readNumber, cX3_readNumber, 4, some (.boolean), 3, 61, 0, 0)
theorem mM_X3_readNumber : mM M_X3_readNumber = 0 := rfl
theorem mS_X3_readNumber : mS M_X3_readNumber = 0 := rfl
set_option maxRecDepth 40000 in
theorem tv_X3_readNumber : TV M_X3_readNumber 2 := ⟨mt2 201 (by rfl) rfl, mt1 5 (by rfl) rfl, ⟨by decide, by decide, by decide +kernel⟩⟩
set_option maxRecDepth 40000 in
theorem ti_X3_readNumber : TI M_X3_readNumber := mt2 200 (by rfl) rfl
set_option maxRecDepth 40000 in
theorem ts_X3_readNumber : TS M_X3_readNumber := mtP1 9 (by rfl) rfl
theorem kc_X3_readNumber : KC M_X3_readNumber 4 := ⟨by decide, by decide, rfl⟩
def M_X3_keepLine : MX := (yX3_keepLine, cX3_keepLine, 2, none, 2, 46, 0, 0)
theorem mM_X3_keepLine : mM M_X3_keepLine = 0 := rfl
theorem mS_X3_keepLine : mS M_X3_keepLine = 0 := rfl
set_option maxRecDepth 40000 in
theorem tv_X3_keepLine : TV M_X3_keepLine 1 := ⟨mt2 207 (by rfl) rfl, mt1 5 (by rfl) rfl, ⟨by decide, by decide, by decide +kernel⟩⟩
set_option maxRecDepth 40000 in
theorem ti_X3_keepLine : TI M_X3_keepLine := mt2 206 (by rfl) rfl
set_option maxRecDepth 40000 in
theorem ts_X3_keepLine : TS M_X3_keepLine := mtP1 10 (by rfl) rfl
theorem kc_X3_keepLine : KC M_X3_keepLine 4 := ⟨by decide, by decide, rfl⟩
def M_X3_keepJudge : MX := (yX3_keepJudge, cX3_keepJudge, 3, none, 0, 0, 0, 0)
theorem mM_X3_keepJudge : mM M_X3_keepJudge = 0 := rfl
theorem mS_X3_keepJudge : mS M_X3_keepJudge = 0 := rfl
set_option maxRecDepth 40000 in
theorem tv_X3_keepJudge : TV M_X3_keepJudge 1 := ⟨mt2 211 (by rfl) rfl, mt1 5 (by rfl) rfl, ⟨by decide, by decide, by decide +kernel⟩⟩
set_option maxRecDepth 40000 in
theorem ti_X3_keepJudge : TI M_X3_keepJudge := mt2 210 (by rfl) rfl
set_option maxRecDepth 40000 in
theorem ts_X3_keepJudge : TS M_X3_keepJudge := mtP1 11 (by rfl) rfl
theorem kc_X3_keepJudge : KC M_X3_keepJudge 4 := ⟨by decide, by decide, rfl⟩
def M_X3_keepTwin : MX := (yX3_keepTwin, cX3_keepTwin, 2, none, 0, 0, 0, 0)
theorem mM_X3_keepTwin : mM M_X3_keepTwin = 0 := rfl
theorem mS_X3_keepTwin : mS M_X3_keepTwin = 0 := rfl
set_option maxRecDepth 40000 in
theorem tv_X3_keepTwin : TV M_X3_keepTwin 0 := ⟨mt2 215 (by rfl) rfl, mt1 5 (by rfl) rfl, ⟨by decide, by decide, by decide +kernel⟩⟩
set_option maxRecDepth 40000 in
theorem ti_X3_keepTwin : TI M_X3_keepTwin := mt2 214 (by rfl) rfl
set_option maxRecDepth 40000 in
theorem ts_X3_keepTwin : TS M_X3_keepTwin := mtP1 12 (by rfl) rfl
theorem kc_X3_keepTwin : KC M_X3_keepTwin 4 := ⟨by decide, by decide, rfl⟩
def M_X3_keepRow : MX := (yX3_keepRow, cX3_keepRow, 5, none, 1, 22, 0, 0)
theorem mM_X3_keepRow : mM M_X3_keepRow = 0 := rfl
theorem mS_X3_keepRow : mS M_X3_keepRow = 0 := rfl
set_option maxRecDepth 40000 in
theorem tv_X3_keepRow : TV M_X3_keepRow 1 := ⟨mt2 219 (by rfl) rfl, mt1 5 (by rfl) rfl, ⟨by decide, by decide, by decide +kernel⟩⟩
set_option maxRecDepth 40000 in
theorem ti_X3_keepRow : TI M_X3_keepRow := mt2 218 (by rfl) rfl
set_option maxRecDepth 40000 in
theorem ts_X3_keepRow : TS M_X3_keepRow := mtP1 13 (by rfl) rfl
theorem kc_X3_keepRow : KC M_X3_keepRow 4 := ⟨by decide, by decide, rfl⟩
def M_X3_finishCourt : MX := (yX3_finishCourt, cX3_finishCourt, 2, none, 2, 45, 0, 0)
theorem mM_X3_finishCourt : mM M_X3_finishCourt = 0 := rfl
theorem mS_X3_finishCourt : mS M_X3_finishCourt = 0 := rfl
set_option maxRecDepth 40000 in
theorem tv_X3_finishCourt : TV M_X3_finishCourt 0 := ⟨mt2 229 (by rfl) rfl, mt1 5 (by rfl) rfl, ⟨by decide, by decide, by decide +kernel⟩⟩
set_option maxRecDepth 40000 in
theorem ti_X3_finishCourt : TI M_X3_finishCourt := mt2 228 (by rfl) rfl
set_option maxRecDepth 40000 in
theorem ts_X3_finishCourt : TS M_X3_finishCourt := mtP1 14 (by rfl) rfl
theorem kc_X3_finishCourt : KC M_X3_finishCourt 4 := ⟨by decide, by decide, rfl⟩
def M_X3_isSomebodyInWall : MX := (yX3_isSomebodyInWall, cX3_isSomebodyInWall, 4, some (.boolean), 1, 22, 0, 0)
theorem mM_X3_isSomebodyInWall : mM M_X3_isSomebodyInWall = 0 := rfl
theorem mS_X3_isSomebodyInWall : mS M_X3_isSomebodyInWall = 0 := rfl
set_option maxRecDepth 40000 in
theorem tv_X3_isSomebodyInWall : TV M_X3_isSomebodyInWall 0 := ⟨mt2 239 (by rfl) rfl, mt1 5 (by rfl) rfl, ⟨by decide, by decide, by decide +kernel⟩⟩
set_option maxRecDepth 40000 in
theorem ti_X3_isSomebodyInWall : TI M_X3_isSomebodyInWall := mt2 238 (by rfl) rfl
set_option maxRecDepth 40000 in
theorem ts_X3_isSomebodyInWall : TS M_X3_isSomebodyInWall := mtP1 15 (by rfl) rfl
theorem kc_X3_isSomebodyInWall : KC M_X3_isSomebodyInWall 4 := ⟨by decide, by decide, rfl⟩
def M_X4_init : MX := (yX4_init, cX4_init, 1, none, 1, 20, 2, 100)
theorem mM_X4_init : mM M_X4_init = 2 := rfl
theorem mS_X4_init : mS M_X4_init = 100 := rfl
set_option maxRecDepth 40000 in
theorem tv_X4_init : TV M_X4_init 0 := ⟨mt2 25 (by rfl) rfl, mt1 7 (by rfl) rfl, ⟨by decide, by decide, by decide +kernel⟩⟩
set_option maxRecDepth 40000 in
theorem ti_X4_init : TI M_X4_init := mt2 24 (by rfl) rfl
def M_X4_settle : MX := (yX4_settle, cX4_settle, 5, none, 4, 103, 0, 0)
theorem mM_X4_settle : mM M_X4_settle = 0 := rfl
theorem mS_X4_settle : mS M_X4_settle = 0 := rfl
set_option maxRecDepth 40000 in
theorem tv_X4_settle : TV M_X4_settle 1 := ⟨mt4 161 (by rfl) rfl, mt1 7 (by rfl) rfl, ⟨by decide, by decide, by decide +kernel⟩⟩
set_option maxRecDepth 40000 in
theorem ti_X4_settle : TI M_X4_settle := mt4 159 (by rfl) rfl
set_option maxRecDepth 40000 in
theorem ts_X4_settle : TS M_X4_settle := mt4 160 (by rfl) rfl
theorem kc_X4_settle : KC M_X4_settle 5 := ⟨by decide, by decide, rfl⟩
def M_X4_worthWith : MX := (yX4_worthWith, cX4_worthWith, 4, some (.int), 1, 20, 0, 0)
theorem mM_X4_worthWith : mM M_X4_worthWith = 0 := rfl
theorem mS_X4_worthWith : mS M_X4_worthWith = 0 := rfl
set_option maxRecDepth 40000 in
theorem tv_X4_worthWith : TV M_X4_worthWith 2 := ⟨mt4 170 (by rfl) rfl, mt1 7 (by rfl) rfl, ⟨by decide, by decide, by decide +kernel⟩⟩
set_option maxRecDepth 40000 in
theorem ti_X4_worthWith : TI M_X4_worthWith := mt4 169 (by rfl) rfl
set_option maxRecDepth 40000 in
theorem ts_X4_worthWith : TS M_X4_worthWith := mtP3 3 (by rfl) rfl
theorem kc_X4_worthWith : KC M_X4_worthWith 5 := ⟨by decide, by decide, rfl⟩
def M_X4_seatOf : MX := (yX4_seatOf, cX4_seatOf, 5, some (.int), 3, 65, 0, 0)
theorem mM_X4_seatOf : mM M_X4_seatOf = 0 := rfl
theorem mS_X4_seatOf : mS M_X4_seatOf = 0 := rfl
set_option maxRecDepth 40000 in
theorem tv_X4_seatOf : TV M_X4_seatOf 1 := ⟨mt4 178 (by rfl) rfl, mt1 7 (by rfl) rfl, ⟨by decide, by decide, by decide +kernel⟩⟩
set_option maxRecDepth 40000 in
theorem ti_X4_seatOf : TI M_X4_seatOf := mt4 176 (by rfl) rfl
set_option maxRecDepth 40000 in
theorem ts_X4_seatOf : TS M_X4_seatOf := mt4 177 (by rfl) rfl
theorem kc_X4_seatOf : KC M_X4_seatOf 5 := ⟨by decide, by decide, rfl⟩
def M_X4_leastSeat : MX := (yX4_leastSeat, cX4_leastSeat, 3, some (.int), 2, 43, 0, 0)
theorem mM_X4_leastSeat : mM M_X4_leastSeat = 0 := rfl
theorem mS_X4_leastSeat : mS M_X4_leastSeat = 0 := rfl
set_option maxRecDepth 40000 in
theorem tv_X4_leastSeat : TV M_X4_leastSeat 1 := ⟨mt4 182 (by rfl) rfl, mt1 7 (by rfl) rfl, ⟨by decide, by decide, by decide +kernel⟩⟩
set_option maxRecDepth 40000 in
theorem ti_X4_leastSeat : TI M_X4_leastSeat := mt4 181 (by rfl) rfl
set_option maxRecDepth 40000 in
theorem ts_X4_leastSeat : TS M_X4_leastSeat := mtP3 4 (by rfl) rfl
theorem kc_X4_leastSeat : KC M_X4_leastSeat 5 := ⟨by decide, by decide, rfl⟩
def M_X5_init : MX := (yX5_init, cX5_init, 3, none, 3, 62, 46, 2660)
theorem mM_X5_init : mM M_X5_init = 46 := rfl
theorem mS_X5_init : mS M_X5_init = 2660 := rfl
set_option maxRecDepth 40000 in
theorem tv_X5_init : TV M_X5_init 0 := ⟨mt1 32 (by rfl) rfl, mt1 2 (by rfl) rfl, ⟨by decide, by decide, by decide +kernel⟩⟩
set_option maxRecDepth 40000 in
theorem ti_X5_init : TI M_X5_init := mt1 31 (by rfl) rfl
def M_X5_slotOf : MX := (yX5_slotOf, cX5_slotOf, 2, some (.int), 0, 0, 0, 0)
theorem mM_X5_slotOf : mM M_X5_slotOf = 0 := rfl
theorem mS_X5_slotOf : mS M_X5_slotOf = 0 := rfl
set_option maxRecDepth 40000 in
theorem tv_X5_slotOf : TV M_X5_slotOf 2 := ⟨mt1 112 (by rfl) rfl, mt1 2 (by rfl) rfl, ⟨by decide, by decide, by decide +kernel⟩⟩
set_option maxRecDepth 40000 in
theorem ts_X5_slotOf : Cond.static (mY M_X5_slotOf) ∈ gTbl := mt1 111 (by rfl) rfl
def M_X5_append : MX := (yX5_append, cX5_append, 3, none, 0, 0, 0, 0)
theorem mM_X5_append : mM M_X5_append = 0 := rfl
theorem mS_X5_append : mS M_X5_append = 0 := rfl
set_option maxRecDepth 40000 in
theorem tv_X5_append : TV M_X5_append 1 := ⟨mt2 64 (by rfl) rfl, mt1 2 (by rfl) rfl, ⟨by decide, by decide, by decide +kernel⟩⟩
set_option maxRecDepth 40000 in
theorem ti_X5_append : TI M_X5_append := mt2 62 (by rfl) rfl
set_option maxRecDepth 40000 in
theorem ts_X5_append : TS M_X5_append := mt2 63 (by rfl) rfl
theorem kc_X5_append : KC M_X5_append 6 := ⟨by decide, by decide, rfl⟩
def M_X5_copyFrom : MX := (yX5_copyFrom, cX5_copyFrom, 4, none, 3, 100, 0, 0)
theorem mM_X5_copyFrom : mM M_X5_copyFrom = 0 := rfl
theorem mS_X5_copyFrom : mS M_X5_copyFrom = 0 := rfl
set_option maxRecDepth 40000 in
theorem tv_X5_copyFrom : TV M_X5_copyFrom 1 := ⟨mt5 56 (by rfl) rfl, mt1 2 (by rfl) rfl, ⟨by decide, by decide, by decide +kernel⟩⟩
set_option maxRecDepth 40000 in
theorem ti_X5_copyFrom : TI M_X5_copyFrom := mt5 54 (by rfl) rfl
set_option maxRecDepth 40000 in
theorem ts_X5_copyFrom : TS M_X5_copyFrom := mt5 55 (by rfl) rfl
theorem kc_X5_copyFrom : KC M_X5_copyFrom 6 := ⟨by decide, by decide, rfl⟩
def M_X6_init : MX := (yX6_init, cX6_init, 1, none, 1, 20, 2, 4160)
theorem mM_X6_init : mM M_X6_init = 2 := rfl
theorem mS_X6_init : mS M_X6_init = 4160 := rfl
set_option maxRecDepth 40000 in
theorem tv_X6_init : TV M_X6_init 0 := ⟨mt3 164 (by rfl) rfl, mt1 17 (by rfl) rfl, ⟨by decide, by decide, by decide +kernel⟩⟩
set_option maxRecDepth 40000 in
theorem ti_X6_init : TI M_X6_init := mt3 163 (by rfl) rfl
def M_X6_search : MX := (yX6_search, cX6_search, 5, some (.int), 5, 117, 0, 0)
theorem mM_X6_search : mM M_X6_search = 0 := rfl
theorem mS_X6_search : mS M_X6_search = 0 := rfl
set_option maxRecDepth 40000 in
theorem tv_X6_search : TV M_X6_search 3 := ⟨mt3 185 (by rfl) rfl, mt1 17 (by rfl) rfl, ⟨by decide, by decide, by decide +kernel⟩⟩
set_option maxRecDepth 40000 in
theorem ti_X6_search : TI M_X6_search := mt3 183 (by rfl) rfl
set_option maxRecDepth 40000 in
theorem ts_X6_search : TS M_X6_search := mt3 184 (by rfl) rfl
theorem kc_X6_search : KC M_X6_search 7 := ⟨by decide, by decide, rfl⟩
def M_X6_layBands : MX := (yX6_layBands, cX6_layBands, 5, none, 4, 93, 0, 0)
theorem mM_X6_layBands : mM M_X6_layBands = 0 := rfl
theorem mS_X6_layBands : mS M_X6_layBands = 0 := rfl
set_option maxRecDepth 40000 in
theorem tv_X6_layBands : TV M_X6_layBands 1 := ⟨mt3 189 (by rfl) rfl, mt1 17 (by rfl) rfl, ⟨by decide, by decide, by decide +kernel⟩⟩
set_option maxRecDepth 40000 in
theorem ti_X6_layBands : TI M_X6_layBands := mt3 188 (by rfl) rfl
set_option maxRecDepth 40000 in
theorem ts_X6_layBands : TS M_X6_layBands := mtP2 4 (by rfl) rfl
theorem kc_X6_layBands : KC M_X6_layBands 7 := ⟨by decide, by decide, rfl⟩
def M_X6_band : MX := (yX6_band, cX6_band, 3, some (.long), 0, 0, 0, 0)
theorem mM_X6_band : mM M_X6_band = 0 := rfl
theorem mS_X6_band : mS M_X6_band = 0 := rfl
set_option maxRecDepth 40000 in
theorem tv_X6_band : TV M_X6_band 2 := ⟨mt3 209 (by rfl) rfl, mt1 17 (by rfl) rfl, ⟨by decide, by decide, by decide +kernel⟩⟩
set_option maxRecDepth 40000 in
theorem ti_X6_band : TI M_X6_band := mt3 208 (by rfl) rfl
set_option maxRecDepth 40000 in
theorem ts_X6_band : TS M_X6_band := mtP2 6 (by rfl) rfl
theorem kc_X6_band : KC M_X6_band 7 := ⟨by decide, by decide, rfl⟩
def M_X6_spread : MX := (yX6_spread, cX6_spread, 8, none, 2, 47, 0, 0)
theorem mM_X6_spread : mM M_X6_spread = 0 := rfl
theorem mS_X6_spread : mS M_X6_spread = 0 := rfl
set_option maxRecDepth 40000 in
theorem tv_X6_spread : TV M_X6_spread 1 := ⟨mt3 204 (by rfl) rfl, mt1 17 (by rfl) rfl, ⟨by decide, by decide, by decide +kernel⟩⟩
set_option maxRecDepth 40000 in
theorem ti_X6_spread : TI M_X6_spread := mt3 203 (by rfl) rfl
set_option maxRecDepth 40000 in
theorem ts_X6_spread : TS M_X6_spread := mtP2 5 (by rfl) rfl
theorem kc_X6_spread : KC M_X6_spread 7 := ⟨by decide, by decide, rfl⟩
def M_X6_prune : MX := (yX6_prune, cX6_prune, 4, none, 2, 52, 0, 0)
theorem mM_X6_prune : mM M_X6_prune = 0 := rfl
theorem mS_X6_prune : mS M_X6_prune = 0 := rfl
set_option maxRecDepth 40000 in
theorem tv_X6_prune : TV M_X6_prune 1 := ⟨mt3 213 (by rfl) rfl, mt1 17 (by rfl) rfl, ⟨by decide, by decide, by decide +kernel⟩⟩
set_option maxRecDepth 40000 in
theorem ti_X6_prune : TI M_X6_prune := mt3 212 (by rfl) rfl
set_option maxRecDepth 40000 in
theorem ts_X6_prune : TS M_X6_prune := mtP2 7 (by rfl) rfl
theorem kc_X6_prune : KC M_X6_prune 7 := ⟨by decide, by decide, rfl⟩
def M_X6_leading : MX := (yX6_leading, cX6_leading, 9, some (.long), 1, 24, 0, 0)
theorem mM_X6_leading : mM M_X6_leading = 0 := rfl
theorem mS_X6_leading : mS M_X6_leading = 0 := rfl
set_option maxRecDepth 40000 in
theorem tv_X6_leading : TV M_X6_leading 2 := ⟨mt3 217 (by rfl) rfl, mt1 17 (by rfl) rfl, ⟨by decide, by decide, by decide +kernel⟩⟩
set_option maxRecDepth 40000 in
theorem ti_X6_leading : TI M_X6_leading := mt3 216 (by rfl) rfl
set_option maxRecDepth 40000 in
theorem ts_X6_leading : TS M_X6_leading := mtP2 8 (by rfl) rfl
theorem kc_X6_leading : KC M_X6_leading 7 := ⟨by decide, by decide, rfl⟩
def M_X6_actAt : MX := (yX6_actAt, cX6_actAt, 7, some (.int), 3, 67, 0, 0)
theorem mM_X6_actAt : mM M_X6_actAt = 0 := rfl
theorem mS_X6_actAt : mS M_X6_actAt = 0 := rfl
set_option maxRecDepth 40000 in
theorem tv_X6_actAt : TV M_X6_actAt 1 := ⟨mt3 221 (by rfl) rfl, mt1 17 (by rfl) rfl, ⟨by decide, by decide, by decide +kernel⟩⟩
set_option maxRecDepth 40000 in
theorem ti_X6_actAt : TI M_X6_actAt := mt3 219 (by rfl) rfl
set_option maxRecDepth 40000 in
theorem ts_X6_actAt : TS M_X6_actAt := mt3 220 (by rfl) rfl
theorem kc_X6_actAt : KC M_X6_actAt 7 := ⟨by decide, by decide, rfl⟩
def M_X6_earsOn : MX := (yX6_earsOn, cX6_earsOn, 4, some (.int), 1, 22, 0, 0)
theorem mM_X6_earsOn : mM M_X6_earsOn = 0 := rfl
theorem mS_X6_earsOn : mS M_X6_earsOn = 0 := rfl
set_option maxRecDepth 40000 in
theorem tv_X6_earsOn : TV M_X6_earsOn 2 := ⟨mt3 225 (by rfl) rfl, mt1 17 (by rfl) rfl, ⟨by decide, by decide, by decide +kernel⟩⟩
set_option maxRecDepth 40000 in
theorem ti_X6_earsOn : TI M_X6_earsOn := mt3 224 (by rfl) rfl
set_option maxRecDepth 40000 in
theorem ts_X6_earsOn : TS M_X6_earsOn := mtP2 9 (by rfl) rfl
theorem kc_X6_earsOn : KC M_X6_earsOn 7 := ⟨by decide, by decide, rfl⟩
def M_X6_firstAct : MX := (yX6_firstAct, cX6_firstAct, 7, some (.int), 1, 24, 0, 0)
theorem mM_X6_firstAct : mM M_X6_firstAct = 0 := rfl
theorem mS_X6_firstAct : mS M_X6_firstAct = 0 := rfl
set_option maxRecDepth 40000 in
theorem tv_X6_firstAct : TV M_X6_firstAct 4 := ⟨mt3 230 (by rfl) rfl, mt1 17 (by rfl) rfl, ⟨by decide, by decide, by decide +kernel⟩⟩
set_option maxRecDepth 40000 in
theorem ti_X6_firstAct : TI M_X6_firstAct := mt3 229 (by rfl) rfl
set_option maxRecDepth 40000 in
theorem ts_X6_firstAct : TS M_X6_firstAct := mtP2 10 (by rfl) rfl
theorem kc_X6_firstAct : KC M_X6_firstAct 7 := ⟨by decide, by decide, rfl⟩
def M_X7_init : MX := (yX7_init, cX7_init, 1, none, 4, 84, 74, 3559)
theorem mM_X7_init : mM M_X7_init = 74 := rfl
theorem mS_X7_init : mS M_X7_init = 3559 := rfl
set_option maxRecDepth 40000 in
theorem tv_X7_init : TV M_X7_init 0 := ⟨mt1 24 (by rfl) rfl, mt1 1 (by rfl) rfl, ⟨by decide, by decide, by decide +kernel⟩⟩
set_option maxRecDepth 40000 in
theorem ti_X7_init : TI M_X7_init := mt1 23 (by rfl) rfl
def M_X7_feed : MX := (yX7_feed, cX7_feed, 6, some (.int), 1, 22, 0, 0)
theorem mM_X7_feed : mM M_X7_feed = 0 := rfl
theorem mS_X7_feed : mS M_X7_feed = 0 := rfl
set_option maxRecDepth 40000 in
theorem tv_X7_feed : TV M_X7_feed 5 := ⟨mt2 60 (by rfl) rfl, mt1 1 (by rfl) rfl, ⟨by decide, by decide, by decide +kernel⟩⟩
set_option maxRecDepth 40000 in
theorem ti_X7_feed : TI M_X7_feed := mt2 58 (by rfl) rfl
set_option maxRecDepth 40000 in
theorem ts_X7_feed : TS M_X7_feed := mt2 59 (by rfl) rfl
theorem kc_X7_feed : KC M_X7_feed 8 := ⟨by decide, by decide, rfl⟩
def M_X7_end : MX := (yX7_end, cX7_end, 2, some (.int), 0, 0, 0, 0)
theorem mM_X7_end : mM M_X7_end = 0 := rfl
theorem mS_X7_end : mS M_X7_end = 0 := rfl
set_option maxRecDepth 40000 in
theorem tv_X7_end : TV M_X7_end 1 := ⟨mt2 68 (by rfl) rfl, mt1 1 (by rfl) rfl, ⟨by decide, by decide, by decide +kernel⟩⟩
set_option maxRecDepth 40000 in
theorem ti_X7_end : TI M_X7_end := mt2 66 (by rfl) rfl
set_option maxRecDepth 40000 in
theorem ts_X7_end : TS M_X7_end := mt2 67 (by rfl) rfl
theorem kc_X7_end : KC M_X7_end 8 := ⟨by decide, by decide, rfl⟩
def M_X7_text : MX := (yX7_text, cX7_text, 6, some (.int), 9, 197, 0, 0)
theorem mM_X7_text : mM M_X7_text = 0 := rfl
theorem mS_X7_text : mS M_X7_text = 0 := rfl
set_option maxRecDepth 40000 in
theorem tv_X7_text : TV M_X7_text 2 := ⟨mt2 72 (by rfl) rfl, mt1 1 (by rfl) rfl, ⟨by decide, by decide, by decide +kernel⟩⟩
set_option maxRecDepth 40000 in
theorem ti_X7_text : TI M_X7_text := mt2 70 (by rfl) rfl
set_option maxRecDepth 40000 in
theorem ts_X7_text : TS M_X7_text := mt2 71 (by rfl) rfl
theorem kc_X7_text : KC M_X7_text 8 := ⟨by decide, by decide, rfl⟩
def M_X7_keepDraft : MX := (yX7_keepDraft, cX7_keepDraft, 5, none, 1, 21, 0, 0)
theorem mM_X7_keepDraft : mM M_X7_keepDraft = 0 := rfl
theorem mS_X7_keepDraft : mS M_X7_keepDraft = 0 := rfl
set_option maxRecDepth 40000 in
theorem tv_X7_keepDraft : TV M_X7_keepDraft 2 := ⟨mt3 12 (by rfl) rfl, mt1 1 (by rfl) rfl, ⟨by decide, by decide, by decide +kernel⟩⟩
set_option maxRecDepth 40000 in
theorem ti_X7_keepDraft : TI M_X7_keepDraft := mt3 11 (by rfl) rfl
set_option maxRecDepth 40000 in
theorem ts_X7_keepDraft : TS M_X7_keepDraft := mtP2 0 (by rfl) rfl
theorem kc_X7_keepDraft : KC M_X7_keepDraft 8 := ⟨by decide, by decide, rfl⟩
def M_X7_fault : MX := (yX7_fault, cX7_fault, 2, some (.int), 0, 0, 0, 0)
theorem mM_X7_fault : mM M_X7_fault = 0 := rfl
theorem mS_X7_fault : mS M_X7_fault = 0 := rfl
set_option maxRecDepth 40000 in
theorem tv_X7_fault : TV M_X7_fault 1 := ⟨mt3 17 (by rfl) rfl, mt1 1 (by rfl) rfl, ⟨by decide, by decide, by decide +kernel⟩⟩
set_option maxRecDepth 40000 in
theorem ti_X7_fault : TI M_X7_fault := mt3 15 (by rfl) rfl
set_option maxRecDepth 40000 in
theorem ts_X7_fault : TS M_X7_fault := mt3 16 (by rfl) rfl
theorem kc_X7_fault : KC M_X7_fault 8 := ⟨by decide, by decide, rfl⟩
def M_X7_courtAt : MX := (yX7_courtAt, cX7_courtAt, 2, some (.object "OneEared$Court"), 4, 98, 0, 0)
theorem mM_X7_courtAt : mM M_X7_courtAt = 0 := rfl
theorem mS_X7_courtAt : mS M_X7_courtAt = 0 := rfl
set_option maxRecDepth 40000 in
theorem tv_X7_courtAt : TV M_X7_courtAt 1 := ⟨mt3 25 (by rfl) rfl, mt1 1 (by rfl) rfl, ⟨by decide, by decide, by decide +kernel⟩⟩
set_option maxRecDepth 40000 in
theorem ti_X7_courtAt : TI M_X7_courtAt := mt3 24 (by rfl) rfl
set_option maxRecDepth 40000 in
theorem ts_X7_courtAt : TS M_X7_courtAt := mtP2 1 (by rfl) rfl
theorem kc_X7_courtAt : KC M_X7_courtAt 8 := ⟨by decide, by decide, rfl⟩
def M_X7_listAt : MX := (yX7_listAt, cX7_listAt, 4, some (.object "OneEared$Listing"), 1, 21, 0, 0)
theorem mM_X7_listAt : mM M_X7_listAt = 0 := rfl
theorem mS_X7_listAt : mS M_X7_listAt = 0 := rfl
set_option maxRecDepth 40000 in
theorem tv_X7_listAt : TV M_X7_listAt 2 := ⟨mt4 15 (by rfl) rfl, mt1 1 (by rfl) rfl, ⟨by decide, by decide, by decide +kernel⟩⟩
set_option maxRecDepth 40000 in
theorem ti_X7_listAt : TI M_X7_listAt := mt4 14 (by rfl) rfl
set_option maxRecDepth 40000 in
theorem ts_X7_listAt : TS M_X7_listAt := mtP2 11 (by rfl) rfl
theorem kc_X7_listAt : KC M_X7_listAt 8 := ⟨by decide, by decide, rfl⟩
def M_X7_hallOf : MX := (yX7_hallOf, cX7_hallOf, 5, some (.object "OneEared$Hall"), 6, 138, 0, 0)
theorem mM_X7_hallOf : mM M_X7_hallOf = 0 := rfl
theorem mS_X7_hallOf : mS M_X7_hallOf = 0 := rfl
set_option maxRecDepth 40000 in
theorem tv_X7_hallOf : TV M_X7_hallOf 2 := ⟨mt4 30 (by rfl) rfl, mt1 1 (by rfl) rfl, ⟨by decide, by decide, by decide +kernel⟩⟩
set_option maxRecDepth 40000 in
theorem ti_X7_hallOf : TI M_X7_hallOf := mt4 29 (by rfl) rfl
set_option maxRecDepth 40000 in
theorem ts_X7_hallOf : TS M_X7_hallOf := mtP2 12 (by rfl) rfl
theorem kc_X7_hallOf : KC M_X7_hallOf 8 := ⟨by decide, by decide, rfl⟩
def M_X7_isHour : MX := (yX7_isHour, cX7_isHour, 1, some (.boolean), 0, 0, 0, 0)
theorem mM_X7_isHour : mM M_X7_isHour = 0 := rfl
theorem mS_X7_isHour : mS M_X7_isHour = 0 := rfl
set_option maxRecDepth 40000 in
theorem tv_X7_isHour : TV M_X7_isHour 1 := ⟨mt3 124 (by rfl) rfl, mt1 1 (by rfl) rfl, ⟨by decide, by decide, by decide +kernel⟩⟩
set_option maxRecDepth 40000 in
theorem ts_X7_isHour : Cond.static (mY M_X7_isHour) ∈ gTbl := mt3 123 (by rfl) rfl
def M_X7_isLoud : MX := (yX7_isLoud, cX7_isLoud, 1, some (.boolean), 0, 0, 0, 0)
theorem mM_X7_isLoud : mM M_X7_isLoud = 0 := rfl
theorem mS_X7_isLoud : mS M_X7_isLoud = 0 := rfl
set_option maxRecDepth 40000 in
theorem tv_X7_isLoud : TV M_X7_isLoud 1 := ⟨mt3 136 (by rfl) rfl, mt1 1 (by rfl) rfl, ⟨by decide, by decide, by decide +kernel⟩⟩
set_option maxRecDepth 40000 in
theorem ts_X7_isLoud : Cond.static (mY M_X7_isLoud) ∈ gTbl := mt3 135 (by rfl) rfl
def M_X7_has : MX := (yX7_has, cX7_has, 3, some (.boolean), 0, 0, 0, 0)
theorem mM_X7_has : mM M_X7_has = 0 := rfl
theorem mS_X7_has : mS M_X7_has = 0 := rfl
set_option maxRecDepth 40000 in
theorem tv_X7_has : TV M_X7_has 2 := ⟨mt3 86 (by rfl) rfl, mt1 1 (by rfl) rfl, ⟨by decide, by decide, by decide +kernel⟩⟩
set_option maxRecDepth 40000 in
theorem ts_X7_has : Cond.static (mY M_X7_has) ∈ gTbl := mt3 85 (by rfl) rfl
def M_X7_court : MX := (yX7_court, cX7_court, 4, some (.int), 5, 119, 0, 0)
theorem mM_X7_court : mM M_X7_court = 0 := rfl
theorem mS_X7_court : mS M_X7_court = 0 := rfl
set_option maxRecDepth 40000 in
theorem tv_X7_court : TV M_X7_court 2 := ⟨mt3 21 (by rfl) rfl, mt1 1 (by rfl) rfl, ⟨by decide, by decide, by decide +kernel⟩⟩
set_option maxRecDepth 40000 in
theorem ti_X7_court : TI M_X7_court := mt3 19 (by rfl) rfl
set_option maxRecDepth 40000 in
theorem ts_X7_court : TS M_X7_court := mt3 20 (by rfl) rfl
theorem kc_X7_court : KC M_X7_court 8 := ⟨by decide, by decide, rfl⟩
def M_X7_wall : MX := (yX7_wall, cX7_wall, 4, some (.boolean), 5, 119, 0, 0)
theorem mM_X7_wall : mM M_X7_wall = 0 := rfl
theorem mS_X7_wall : mS M_X7_wall = 0 := rfl
set_option maxRecDepth 40000 in
theorem tv_X7_wall : TV M_X7_wall 2 := ⟨mt3 83 (by rfl) rfl, mt1 1 (by rfl) rfl, ⟨by decide, by decide, by decide +kernel⟩⟩
set_option maxRecDepth 40000 in
theorem ti_X7_wall : TI M_X7_wall := mt3 81 (by rfl) rfl
set_option maxRecDepth 40000 in
theorem ts_X7_wall : TS M_X7_wall := mt3 82 (by rfl) rfl
theorem kc_X7_wall : KC M_X7_wall 8 := ⟨by decide, by decide, rfl⟩
def M_X7_judge : MX := (yX7_judge, cX7_judge, 5, some (.int), 5, 119, 0, 0)
theorem mM_X7_judge : mM M_X7_judge = 0 := rfl
theorem mS_X7_judge : mS M_X7_judge = 0 := rfl
set_option maxRecDepth 40000 in
theorem tv_X7_judge : TV M_X7_judge 3 := ⟨mt3 90 (by rfl) rfl, mt1 1 (by rfl) rfl, ⟨by decide, by decide, by decide +kernel⟩⟩
set_option maxRecDepth 40000 in
theorem ti_X7_judge : TI M_X7_judge := mt3 88 (by rfl) rfl
set_option maxRecDepth 40000 in
theorem ts_X7_judge : TS M_X7_judge := mt3 89 (by rfl) rfl
theorem kc_X7_judge : KC M_X7_judge 8 := ⟨by decide, by decide, rfl⟩
def M_X7_pleader : MX := (yX7_pleader, cX7_pleader, 5, some (.int), 5, 119, 0, 0)
theorem mM_X7_pleader : mM M_X7_pleader = 0 := rfl
theorem mS_X7_pleader : mS M_X7_pleader = 0 := rfl
set_option maxRecDepth 40000 in
theorem tv_X7_pleader : TV M_X7_pleader 3 := ⟨mt3 100 (by rfl) rfl, mt1 1 (by rfl) rfl, ⟨by decide, by decide, by decide +kernel⟩⟩
set_option maxRecDepth 40000 in
theorem ti_X7_pleader : TI M_X7_pleader := mt3 98 (by rfl) rfl
set_option maxRecDepth 40000 in
theorem ts_X7_pleader : TS M_X7_pleader := mt3 99 (by rfl) rfl
theorem kc_X7_pleader : KC M_X7_pleader 8 := ⟨by decide, by decide, rfl⟩
def M_X7_far : MX := (yX7_far, cX7_far, 5, some (.int), 5, 119, 0, 0)
theorem mM_X7_far : mM M_X7_far = 0 := rfl
theorem mS_X7_far : mS M_X7_far = 0 := rfl
set_option maxRecDepth 40000 in
theorem tv_X7_far : TV M_X7_far 3 := ⟨mt3 108 (by rfl) rfl, mt1 1 (by rfl) rfl, ⟨by decide, by decide, by decide +kernel⟩⟩
set_option maxRecDepth 40000 in
theorem ti_X7_far : TI M_X7_far := mt3 106 (by rfl) rfl
set_option maxRecDepth 40000 in
theorem ts_X7_far : TS M_X7_far := mt3 107 (by rfl) rfl
theorem kc_X7_far : KC M_X7_far 8 := ⟨by decide, by decide, rfl⟩
def M_X7_comes : MX := (yX7_comes, cX7_comes, 7, some (.int), 5, 119, 0, 0)
theorem mM_X7_comes : mM M_X7_comes = 0 := rfl
theorem mS_X7_comes : mS M_X7_comes = 0 := rfl
set_option maxRecDepth 40000 in
theorem tv_X7_comes : TV M_X7_comes 4 := ⟨mt3 121 (by rfl) rfl, mt1 1 (by rfl) rfl, ⟨by decide, by decide, by decide +kernel⟩⟩
set_option maxRecDepth 40000 in
theorem ti_X7_comes : TI M_X7_comes := mt3 119 (by rfl) rfl
set_option maxRecDepth 40000 in
theorem ts_X7_comes : TS M_X7_comes := mt3 120 (by rfl) rfl
theorem kc_X7_comes : KC M_X7_comes 8 := ⟨by decide, by decide, rfl⟩
def M_X7_ears : MX := (yX7_ears, cX7_ears, 6, some (.int), 5, 119, 0, 0)
theorem mM_X7_ears : mM M_X7_ears = 0 := rfl
theorem mS_X7_ears : mS M_X7_ears = 0 := rfl
set_option maxRecDepth 40000 in
theorem tv_X7_ears : TV M_X7_ears 4 := ⟨mt3 133 (by rfl) rfl, mt1 1 (by rfl) rfl, ⟨by decide, by decide, by decide +kernel⟩⟩
set_option maxRecDepth 40000 in
theorem ti_X7_ears : TI M_X7_ears := mt3 131 (by rfl) rfl
set_option maxRecDepth 40000 in
theorem ts_X7_ears : TS M_X7_ears := mt3 132 (by rfl) rfl
theorem kc_X7_ears : KC M_X7_ears 8 := ⟨by decide, by decide, rfl⟩
def M_X7_pulpit : MX := (yX7_pulpit, cX7_pulpit, 10, some (.int), 5, 119, 0, 0)
theorem mM_X7_pulpit : mM M_X7_pulpit = 0 := rfl
theorem mS_X7_pulpit : mS M_X7_pulpit = 0 := rfl
set_option maxRecDepth 40000 in
theorem tv_X7_pulpit : TV M_X7_pulpit 4 := ⟨mt3 144 (by rfl) rfl, mt1 1 (by rfl) rfl, ⟨by decide, by decide, by decide +kernel⟩⟩
set_option maxRecDepth 40000 in
theorem ti_X7_pulpit : TI M_X7_pulpit := mt3 142 (by rfl) rfl
set_option maxRecDepth 40000 in
theorem ts_X7_pulpit : TS M_X7_pulpit := mt3 143 (by rfl) rfl
theorem kc_X7_pulpit : KC M_X7_pulpit 8 := ⟨by decide, by decide, rfl⟩
def M_X7_near : MX := (yX7_near, cX7_near, 6, some (.int), 5, 119, 0, 0)
theorem mM_X7_near : mM M_X7_near = 0 := rfl
theorem mS_X7_near : mS M_X7_near = 0 := rfl
set_option maxRecDepth 40000 in
theorem tv_X7_near : TV M_X7_near 4 := ⟨mt3 154 (by rfl) rfl, mt1 1 (by rfl) rfl, ⟨by decide, by decide, by decide +kernel⟩⟩
set_option maxRecDepth 40000 in
theorem ti_X7_near : TI M_X7_near := mt3 152 (by rfl) rfl
set_option maxRecDepth 40000 in
theorem ts_X7_near : TS M_X7_near := mt3 153 (by rfl) rfl
theorem kc_X7_near : KC M_X7_near 8 := ⟨by decide, by decide, rfl⟩
def M_X7_round : MX := (yX7_round, cX7_round, 8, some (.int), 6, 141, 3, 4165)
theorem mM_X7_round : mM M_X7_round = 3 := rfl
theorem mS_X7_round : mS M_X7_round = 4165 := rfl
set_option maxRecDepth 40000 in
theorem tv_X7_round : TV M_X7_round 4 := ⟨mt3 159 (by rfl) rfl, mt1 1 (by rfl) rfl, ⟨by decide, by decide, by decide +kernel⟩⟩
set_option maxRecDepth 40000 in
theorem ti_X7_round : TI M_X7_round := mt3 157 (by rfl) rfl
set_option maxRecDepth 40000 in
theorem ts_X7_round : TS M_X7_round := mt3 158 (by rfl) rfl
theorem kc_X7_round : KC M_X7_round 8 := ⟨by decide, by decide, rfl⟩
def M_X7_echo : MX := (yX7_echo, cX7_echo, 8, some (.int), 5, 119, 0, 0)
theorem mM_X7_echo : mM M_X7_echo = 0 := rfl
theorem mS_X7_echo : mS M_X7_echo = 0 := rfl
set_option maxRecDepth 40000 in
theorem tv_X7_echo : TV M_X7_echo 4 := ⟨mt4 6 (by rfl) rfl, mt1 1 (by rfl) rfl, ⟨by decide, by decide, by decide +kernel⟩⟩
set_option maxRecDepth 40000 in
theorem ti_X7_echo : TI M_X7_echo := mt4 4 (by rfl) rfl
set_option maxRecDepth 40000 in
theorem ts_X7_echo : TS M_X7_echo := mt4 5 (by rfl) rfl
theorem kc_X7_echo : KC M_X7_echo 8 := ⟨by decide, by decide, rfl⟩
def M_X7_deed : MX := (yX7_deed, cX7_deed, 4, some (.int), 2, 44, 0, 0)
theorem mM_X7_deed : mM M_X7_deed = 0 := rfl
theorem mS_X7_deed : mS M_X7_deed = 0 := rfl
set_option maxRecDepth 40000 in
theorem tv_X7_deed : TV M_X7_deed 3 := ⟨mt4 11 (by rfl) rfl, mt1 1 (by rfl) rfl, ⟨by decide, by decide, by decide +kernel⟩⟩
set_option maxRecDepth 40000 in
theorem ti_X7_deed : TI M_X7_deed := mt4 9 (by rfl) rfl
set_option maxRecDepth 40000 in
theorem ts_X7_deed : TS M_X7_deed := mt4 10 (by rfl) rfl
theorem kc_X7_deed : KC M_X7_deed 8 := ⟨by decide, by decide, rfl⟩
def M_X7_cellOf : MX := (yX7_cellOf, cX7_cellOf, 3, some (.int), 1, 22, 0, 0)
theorem mM_X7_cellOf : mM M_X7_cellOf = 0 := rfl
theorem mS_X7_cellOf : mS M_X7_cellOf = 0 := rfl
set_option maxRecDepth 40000 in
theorem tv_X7_cellOf : TV M_X7_cellOf 3 := ⟨mt4 18 (by rfl) rfl, mt1 1 (by rfl) rfl, ⟨by decide, by decide, by decide +kernel⟩⟩
set_option maxRecDepth 40000 in
theorem ts_X7_cellOf : Cond.static (mY M_X7_cellOf) ∈ gTbl := mt4 17 (by rfl) rfl
def M_X7_stop : MX := (yX7_stop, cX7_stop, 4, some (.int), 7, 162, 0, 0)
theorem mM_X7_stop : mM M_X7_stop = 0 := rfl
theorem mS_X7_stop : mS M_X7_stop = 0 := rfl
set_option maxRecDepth 40000 in
theorem tv_X7_stop : TV M_X7_stop 2 := ⟨mt4 26 (by rfl) rfl, mt1 1 (by rfl) rfl, ⟨by decide, by decide, by decide +kernel⟩⟩
set_option maxRecDepth 40000 in
theorem ti_X7_stop : TI M_X7_stop := mt4 24 (by rfl) rfl
set_option maxRecDepth 40000 in
theorem ts_X7_stop : TS M_X7_stop := mt4 25 (by rfl) rfl
theorem kc_X7_stop : KC M_X7_stop 8 := ⟨by decide, by decide, rfl⟩
def M_X7_stands : MX := (yX7_stands, cX7_stands, 8, some (.int), 6, 138, 0, 0)
theorem mM_X7_stands : mM M_X7_stands = 0 := rfl
theorem mS_X7_stands : mS M_X7_stands = 0 := rfl
set_option maxRecDepth 40000 in
theorem tv_X7_stands : TV M_X7_stands 5 := ⟨mt4 49 (by rfl) rfl, mt1 1 (by rfl) rfl, ⟨by decide, by decide, by decide +kernel⟩⟩
set_option maxRecDepth 40000 in
theorem ti_X7_stands : TI M_X7_stands := mt4 47 (by rfl) rfl
set_option maxRecDepth 40000 in
theorem ts_X7_stands : TS M_X7_stands := mt4 48 (by rfl) rfl
theorem kc_X7_stands : KC M_X7_stands 8 := ⟨by decide, by decide, rfl⟩
def M_X7_knows : MX := (yX7_knows, cX7_knows, 6, some (.int), 7, 162, 0, 0)
theorem mM_X7_knows : mM M_X7_knows = 0 := rfl
theorem mS_X7_knows : mS M_X7_knows = 0 := rfl
set_option maxRecDepth 40000 in
theorem tv_X7_knows : TV M_X7_knows 4 := ⟨mt4 53 (by rfl) rfl, mt1 1 (by rfl) rfl, ⟨by decide, by decide, by decide +kernel⟩⟩
set_option maxRecDepth 40000 in
theorem ti_X7_knows : TI M_X7_knows := mt4 51 (by rfl) rfl
set_option maxRecDepth 40000 in
theorem ts_X7_knows : TS M_X7_knows := mt4 52 (by rfl) rfl
theorem kc_X7_knows : KC M_X7_knows 8 := ⟨by decide, by decide, rfl⟩
def M_X7_heard : MX := (yX7_heard, cX7_heard, 5, some (.int), 7, 162, 0, 0)
theorem mM_X7_heard : mM M_X7_heard = 0 := rfl
theorem mS_X7_heard : mS M_X7_heard = 0 := rfl
set_option maxRecDepth 40000 in
theorem tv_X7_heard : TV M_X7_heard 3 := ⟨mt4 91 (by rfl) rfl, mt1 1 (by rfl) rfl, ⟨by decide, by decide, by decide +kernel⟩⟩
set_option maxRecDepth 40000 in
theorem ti_X7_heard : TI M_X7_heard := mt4 89 (by rfl) rfl
set_option maxRecDepth 40000 in
theorem ts_X7_heard : TS M_X7_heard := mt4 90 (by rfl) rfl
theorem kc_X7_heard : KC M_X7_heard 8 := ⟨by decide, by decide, rfl⟩
def M_X7_rule : MX := (yX7_rule, cX7_rule, 4, some (.int), 2, 44, 0, 0)
theorem mM_X7_rule : mM M_X7_rule = 0 := rfl
theorem mS_X7_rule : mS M_X7_rule = 0 := rfl
set_option maxRecDepth 40000 in
theorem tv_X7_rule : TV M_X7_rule 3 := ⟨mt4 100 (by rfl) rfl, mt1 1 (by rfl) rfl, ⟨by decide, by decide, by decide +kernel⟩⟩
set_option maxRecDepth 40000 in
theorem ti_X7_rule : TI M_X7_rule := mt4 98 (by rfl) rfl
set_option maxRecDepth 40000 in
theorem ts_X7_rule : TS M_X7_rule := mt4 99 (by rfl) rfl
theorem kc_X7_rule : KC M_X7_rule 8 := ⟨by decide, by decide, rfl⟩
def M_X7_votes : MX := (yX7_votes, cX7_votes, 7, some (.int), 7, 162, 0, 0)
theorem mM_X7_votes : mM M_X7_votes = 0 := rfl
theorem mS_X7_votes : mS M_X7_votes = 0 := rfl
set_option maxRecDepth 40000 in
theorem tv_X7_votes : TV M_X7_votes 4 := ⟨mt4 104 (by rfl) rfl, mt1 1 (by rfl) rfl, ⟨by decide, by decide, by decide +kernel⟩⟩
set_option maxRecDepth 40000 in
theorem ti_X7_votes : TI M_X7_votes := mt4 102 (by rfl) rfl
set_option maxRecDepth 40000 in
theorem ts_X7_votes : TS M_X7_votes := mt4 103 (by rfl) rfl
theorem kc_X7_votes : KC M_X7_votes 8 := ⟨by decide, by decide, rfl⟩
def M_X7_ruleFor : MX := (yX7_ruleFor, cX7_ruleFor, 5, some (.int), 1, 22, 0, 0)
theorem mM_X7_ruleFor : mM M_X7_ruleFor = 0 := rfl
theorem mS_X7_ruleFor : mS M_X7_ruleFor = 0 := rfl
set_option maxRecDepth 40000 in
theorem tv_X7_ruleFor : TV M_X7_ruleFor 2 := ⟨mt4 117 (by rfl) rfl, mt1 1 (by rfl) rfl, ⟨by decide, by decide, by decide +kernel⟩⟩
set_option maxRecDepth 40000 in
theorem ts_X7_ruleFor : Cond.static (mY M_X7_ruleFor) ∈ gTbl := mt4 116 (by rfl) rfl
def M_X7_voteBy : MX := (yX7_voteBy, cX7_voteBy, 3, some (.int), 2, 46, 0, 0)
theorem mM_X7_voteBy : mM M_X7_voteBy = 0 := rfl
theorem mS_X7_voteBy : mS M_X7_voteBy = 0 := rfl
set_option maxRecDepth 40000 in
theorem tv_X7_voteBy : TV M_X7_voteBy 2 := ⟨mt4 114 (by rfl) rfl, mt1 1 (by rfl) rfl, ⟨by decide, by decide, by decide +kernel⟩⟩
set_option maxRecDepth 40000 in
theorem ts_X7_voteBy : Cond.static (mY M_X7_voteBy) ∈ gTbl := mt4 113 (by rfl) rfl
def M_X7_weight : MX := (yX7_weight, cX7_weight, 1, some (.int), 0, 0, 0, 0)
theorem mM_X7_weight : mM M_X7_weight = 0 := rfl
theorem mS_X7_weight : mS M_X7_weight = 0 := rfl
set_option maxRecDepth 40000 in
theorem tv_X7_weight : TV M_X7_weight 1 := ⟨mt4 120 (by rfl) rfl, mt1 1 (by rfl) rfl, ⟨by decide, by decide, by decide +kernel⟩⟩
set_option maxRecDepth 40000 in
theorem ts_X7_weight : Cond.static (mY M_X7_weight) ∈ gTbl := mt4 119 (by rfl) rfl
def M_X7_tally : MX := (yX7_tally, cX7_tally, 5, some (.int), 3, 68, 0, 0)
theorem mM_X7_tally : mM M_X7_tally = 0 := rfl
theorem mS_X7_tally : mS M_X7_tally = 0 := rfl
set_option maxRecDepth 40000 in
theorem tv_X7_tally : TV M_X7_tally 3 := ⟨mt4 111 (by rfl) rfl, mt1 1 (by rfl) rfl, ⟨by decide, by decide, by decide +kernel⟩⟩
set_option maxRecDepth 40000 in
theorem ts_X7_tally : Cond.static (mY M_X7_tally) ∈ gTbl := mt4 110 (by rfl) rfl
def M_X7_verdictOf : MX := (yX7_verdictOf, cX7_verdictOf, 1, some (.int), 0, 0, 0, 0)
theorem mM_X7_verdictOf : mM M_X7_verdictOf = 0 := rfl
theorem mS_X7_verdictOf : mS M_X7_verdictOf = 0 := rfl
set_option maxRecDepth 40000 in
theorem tv_X7_verdictOf : TV M_X7_verdictOf 1 := ⟨mt4 123 (by rfl) rfl, mt1 1 (by rfl) rfl, ⟨by decide, by decide, by decide +kernel⟩⟩
set_option maxRecDepth 40000 in
theorem ts_X7_verdictOf : Cond.static (mY M_X7_verdictOf) ∈ gTbl := mt4 122 (by rfl) rfl
def M_X7_sway : MX := (yX7_sway, cX7_sway, 12, some (.int), 7, 162, 0, 0)
theorem mM_X7_sway : mM M_X7_sway = 0 := rfl
theorem mS_X7_sway : mS M_X7_sway = 0 := rfl
set_option maxRecDepth 40000 in
theorem tv_X7_sway : TV M_X7_sway 4 := ⟨mt4 127 (by rfl) rfl, mt1 1 (by rfl) rfl, ⟨by decide, by decide, by decide +kernel⟩⟩
set_option maxRecDepth 40000 in
theorem ti_X7_sway : TI M_X7_sway := mt4 125 (by rfl) rfl
set_option maxRecDepth 40000 in
theorem ts_X7_sway : TS M_X7_sway := mt4 126 (by rfl) rfl
theorem kc_X7_sway : KC M_X7_sway 8 := ⟨by decide, by decide, rfl⟩
def M_X7_sold : MX := (yX7_sold, cX7_sold, 6, some (.int), 7, 162, 0, 0)
theorem mM_X7_sold : mM M_X7_sold = 0 := rfl
theorem mS_X7_sold : mS M_X7_sold = 0 := rfl
set_option maxRecDepth 40000 in
theorem tv_X7_sold : TV M_X7_sold 4 := ⟨mt4 139 (by rfl) rfl, mt1 1 (by rfl) rfl, ⟨by decide, by decide, by decide +kernel⟩⟩
set_option maxRecDepth 40000 in
theorem ti_X7_sold : TI M_X7_sold := mt4 137 (by rfl) rfl
set_option maxRecDepth 40000 in
theorem ts_X7_sold : TS M_X7_sold := mt4 138 (by rfl) rfl
theorem kc_X7_sold : KC M_X7_sold 8 := ⟨by decide, by decide, rfl⟩
def M_X7_seats : MX := (yX7_seats, cX7_seats, 5, some (.int), 7, 162, 0, 0)
theorem mM_X7_seats : mM M_X7_seats = 0 := rfl
theorem mS_X7_seats : mS M_X7_seats = 0 := rfl
set_option maxRecDepth 40000 in
theorem tv_X7_seats : TV M_X7_seats 3 := ⟨mt4 157 (by rfl) rfl, mt1 1 (by rfl) rfl, ⟨by decide, by decide, by decide +kernel⟩⟩
set_option maxRecDepth 40000 in
theorem ti_X7_seats : TI M_X7_seats := mt4 155 (by rfl) rfl
set_option maxRecDepth 40000 in
theorem ts_X7_seats : TS M_X7_seats := mt4 156 (by rfl) rfl
theorem kc_X7_seats : KC M_X7_seats 8 := ⟨by decide, by decide, rfl⟩
def M_X7_claim : MX := (yX7_claim, cX7_claim, 4, some (.int), 2, 44, 0, 0)
theorem mM_X7_claim : mM M_X7_claim = 0 := rfl
theorem mS_X7_claim : mS M_X7_claim = 0 := rfl
set_option maxRecDepth 40000 in
theorem tv_X7_claim : TV M_X7_claim 3 := ⟨mt4 186 (by rfl) rfl, mt1 1 (by rfl) rfl, ⟨by decide, by decide, by decide +kernel⟩⟩
set_option maxRecDepth 40000 in
theorem ti_X7_claim : TI M_X7_claim := mt4 184 (by rfl) rfl
set_option maxRecDepth 40000 in
theorem ts_X7_claim : TS M_X7_claim := mt4 185 (by rfl) rfl
theorem kc_X7_claim : KC M_X7_claim 8 := ⟨by decide, by decide, rfl⟩
def M_X7_lips : MX := (yX7_lips, cX7_lips, 13, some (.int), 7, 162, 0, 0)
theorem mM_X7_lips : mM M_X7_lips = 0 := rfl
theorem mS_X7_lips : mS M_X7_lips = 0 := rfl
set_option maxRecDepth 40000 in
theorem tv_X7_lips : TV M_X7_lips 4 := ⟨mt4 190 (by rfl) rfl, mt1 1 (by rfl) rfl, ⟨by decide, by decide, by decide +kernel⟩⟩
set_option maxRecDepth 40000 in
theorem ti_X7_lips : TI M_X7_lips := mt4 188 (by rfl) rfl
set_option maxRecDepth 40000 in
theorem ts_X7_lips : TS M_X7_lips := mt4 189 (by rfl) rfl
theorem kc_X7_lips : KC M_X7_lips 8 := ⟨by decide, by decide, rfl⟩
def M_X7_readerOf : MX := (yX7_readerOf, cX7_readerOf, 7, some (.int), 1, 22, 0, 0)
theorem mM_X7_readerOf : mM M_X7_readerOf = 0 := rfl
theorem mS_X7_readerOf : mS M_X7_readerOf = 0 := rfl
set_option maxRecDepth 40000 in
theorem tv_X7_readerOf : TV M_X7_readerOf 2 := ⟨mt4 202 (by rfl) rfl, mt1 1 (by rfl) rfl, ⟨by decide, by decide, by decide +kernel⟩⟩
set_option maxRecDepth 40000 in
theorem ts_X7_readerOf : Cond.static (mY M_X7_readerOf) ∈ gTbl := mt4 201 (by rfl) rfl
def M_X7_drawn : MX := (yX7_drawn, cX7_drawn, 9, some (.int), 7, 162, 0, 0)
theorem mM_X7_drawn : mM M_X7_drawn = 0 := rfl
theorem mS_X7_drawn : mS M_X7_drawn = 0 := rfl
set_option maxRecDepth 40000 in
theorem tv_X7_drawn : TV M_X7_drawn 5 := ⟨mt4 206 (by rfl) rfl, mt1 1 (by rfl) rfl, ⟨by decide, by decide, by decide +kernel⟩⟩
set_option maxRecDepth 40000 in
theorem ti_X7_drawn : TI M_X7_drawn := mt4 204 (by rfl) rfl
set_option maxRecDepth 40000 in
theorem ts_X7_drawn : TS M_X7_drawn := mt4 205 (by rfl) rfl
theorem kc_X7_drawn : KC M_X7_drawn 8 := ⟨by decide, by decide, rfl⟩
def M_X7_hush : MX := (yX7_hush, cX7_hush, 7, some (.int), 5, 119, 0, 0)
theorem mM_X7_hush : mM M_X7_hush = 0 := rfl
theorem mS_X7_hush : mS M_X7_hush = 0 := rfl
set_option maxRecDepth 40000 in
theorem tv_X7_hush : TV M_X7_hush 4 := ⟨mt4 223 (by rfl) rfl, mt1 1 (by rfl) rfl, ⟨by decide, by decide, by decide +kernel⟩⟩
set_option maxRecDepth 40000 in
theorem ti_X7_hush : TI M_X7_hush := mt4 221 (by rfl) rfl
set_option maxRecDepth 40000 in
theorem ts_X7_hush : TS M_X7_hush := mt4 222 (by rfl) rfl
theorem kc_X7_hush : KC M_X7_hush 8 := ⟨by decide, by decide, rfl⟩
def M_X7_bench : MX := (yX7_bench, cX7_bench, 9, some (.int), 7, 162, 0, 0)
theorem mM_X7_bench : mM M_X7_bench = 0 := rfl
theorem mS_X7_bench : mS M_X7_bench = 0 := rfl
set_option maxRecDepth 40000 in
theorem tv_X7_bench : TV M_X7_bench 3 := ⟨mt4 227 (by rfl) rfl, mt1 1 (by rfl) rfl, ⟨by decide, by decide, by decide +kernel⟩⟩
set_option maxRecDepth 40000 in
theorem ti_X7_bench : TI M_X7_bench := mt4 225 (by rfl) rfl
set_option maxRecDepth 40000 in
theorem ts_X7_bench : TS M_X7_bench := mt4 226 (by rfl) rfl
theorem kc_X7_bench : KC M_X7_bench 8 := ⟨by decide, by decide, rfl⟩
def M_X7_idle : MX := (yX7_idle, cX7_idle, 9, some (.int), 7, 162, 0, 0)
theorem mM_X7_idle : mM M_X7_idle = 0 := rfl
theorem mS_X7_idle : mS M_X7_idle = 0 := rfl
set_option maxRecDepth 40000 in
theorem tv_X7_idle : TV M_X7_idle 3 := ⟨mt4 235 (by rfl) rfl, mt1 1 (by rfl) rfl, ⟨by decide, by decide, by decide +kernel⟩⟩
set_option maxRecDepth 40000 in
theorem ti_X7_idle : TI M_X7_idle := mt4 233 (by rfl) rfl
set_option maxRecDepth 40000 in
theorem ts_X7_idle : TS M_X7_idle := mt4 234 (by rfl) rfl
theorem kc_X7_idle : KC M_X7_idle 8 := ⟨by decide, by decide, rfl⟩
def M_X7_persuade : MX := (yX7_persuade, cX7_persuade, 11, some (.int), 7, 162, 0, 0)
theorem mM_X7_persuade : mM M_X7_persuade = 0 := rfl
theorem mS_X7_persuade : mS M_X7_persuade = 0 := rfl
set_option maxRecDepth 40000 in
theorem tv_X7_persuade : TV M_X7_persuade 4 := ⟨mt4 239 (by rfl) rfl, mt1 1 (by rfl) rfl, ⟨by decide, by decide, by decide +kernel⟩⟩
set_option maxRecDepth 40000 in
theorem ti_X7_persuade : TI M_X7_persuade := mt4 237 (by rfl) rfl
set_option maxRecDepth 40000 in
theorem ts_X7_persuade : TS M_X7_persuade := mt4 238 (by rfl) rfl
theorem kc_X7_persuade : KC M_X7_persuade 8 := ⟨by decide, by decide, rfl⟩
def M_X7_namedIn : MX := (yX7_namedIn, cX7_namedIn, 5, some (.int), 1, 22, 0, 0)
theorem mM_X7_namedIn : mM M_X7_namedIn = 0 := rfl
theorem mS_X7_namedIn : mS M_X7_namedIn = 0 := rfl
set_option maxRecDepth 40000 in
theorem tv_X7_namedIn : TV M_X7_namedIn 1 := ⟨mt5 2 (by rfl) rfl, mt1 1 (by rfl) rfl, ⟨by decide, by decide, by decide +kernel⟩⟩
set_option maxRecDepth 40000 in
theorem ts_X7_namedIn : Cond.static (mY M_X7_namedIn) ∈ gTbl := mt5 1 (by rfl) rfl
def M_X7_areas : MX := (yX7_areas, cX7_areas, 4, some (.int), 5, 127, 0, 0)
theorem mM_X7_areas : mM M_X7_areas = 0 := rfl
theorem mS_X7_areas : mS M_X7_areas = 0 := rfl
set_option maxRecDepth 40000 in
theorem tv_X7_areas : TV M_X7_areas 2 := ⟨mt5 6 (by rfl) rfl, mt1 1 (by rfl) rfl, ⟨by decide, by decide, by decide +kernel⟩⟩
set_option maxRecDepth 40000 in
theorem ti_X7_areas : TI M_X7_areas := mt5 4 (by rfl) rfl
set_option maxRecDepth 40000 in
theorem ts_X7_areas : TS M_X7_areas := mt5 5 (by rfl) rfl
theorem kc_X7_areas : KC M_X7_areas 8 := ⟨by decide, by decide, rfl⟩
def M_X7_carve : MX := (yX7_carve, cX7_carve, 8, some (.int), 4, 100, 0, 0)
theorem mM_X7_carve : mM M_X7_carve = 0 := rfl
theorem mS_X7_carve : mS M_X7_carve = 0 := rfl
set_option maxRecDepth 40000 in
theorem tv_X7_carve : TV M_X7_carve 2 := ⟨mt5 21 (by rfl) rfl, mt1 1 (by rfl) rfl, ⟨by decide, by decide, by decide +kernel⟩⟩
set_option maxRecDepth 40000 in
theorem ti_X7_carve : TI M_X7_carve := mt5 20 (by rfl) rfl
set_option maxRecDepth 40000 in
theorem ts_X7_carve : TS M_X7_carve := mtP3 7 (by rfl) rfl
theorem kc_X7_carve : KC M_X7_carve 8 := ⟨by decide, by decide, rfl⟩
def M_X7_mouth : MX := (yX7_mouth, cX7_mouth, 9, some (.int), 7, 162, 0, 0)
theorem mM_X7_mouth : mM M_X7_mouth = 0 := rfl
theorem mS_X7_mouth : mS M_X7_mouth = 0 := rfl
set_option maxRecDepth 40000 in
theorem tv_X7_mouth : TV M_X7_mouth 3 := ⟨mt5 35 (by rfl) rfl, mt1 1 (by rfl) rfl, ⟨by decide, by decide, by decide +kernel⟩⟩
set_option maxRecDepth 40000 in
theorem ti_X7_mouth : TI M_X7_mouth := mt5 33 (by rfl) rfl
set_option maxRecDepth 40000 in
theorem ts_X7_mouth : TS M_X7_mouth := mt5 34 (by rfl) rfl
theorem kc_X7_mouth : KC M_X7_mouth 8 := ⟨by decide, by decide, rfl⟩
def M_X7_rift : MX := (yX7_rift, cX7_rift, 11, some (.int), 7, 162, 0, 0)
theorem mM_X7_rift : mM M_X7_rift = 0 := rfl
theorem mS_X7_rift : mS M_X7_rift = 0 := rfl
set_option maxRecDepth 40000 in
theorem tv_X7_rift : TV M_X7_rift 3 := ⟨mt5 44 (by rfl) rfl, mt1 1 (by rfl) rfl, ⟨by decide, by decide, by decide +kernel⟩⟩
set_option maxRecDepth 40000 in
theorem ti_X7_rift : TI M_X7_rift := mt5 42 (by rfl) rfl
set_option maxRecDepth 40000 in
theorem ts_X7_rift : TS M_X7_rift := mt5 43 (by rfl) rfl
theorem kc_X7_rift : KC M_X7_rift 8 := ⟨by decide, by decide, rfl⟩
def M_X7_count : MX := (yX7_count, cX7_count, 2, some (.int), 0, 0, 0, 0)
theorem mM_X7_count : mM M_X7_count = 0 := rfl
theorem mS_X7_count : mS M_X7_count = 0 := rfl
set_option maxRecDepth 40000 in
theorem tv_X7_count : TV M_X7_count 1 := ⟨mt5 48 (by rfl) rfl, mt1 1 (by rfl) rfl, ⟨by decide, by decide, by decide +kernel⟩⟩
set_option maxRecDepth 40000 in
theorem ti_X7_count : TI M_X7_count := mt5 46 (by rfl) rfl
set_option maxRecDepth 40000 in
theorem ts_X7_count : TS M_X7_count := mt5 47 (by rfl) rfl
theorem kc_X7_count : KC M_X7_count 8 := ⟨by decide, by decide, rfl⟩
def M_X7_image : MX := (yX7_image, cX7_image, 2, some (.boolean), 4, 123, 47, 2667)
theorem mM_X7_image : mM M_X7_image = 47 := rfl
theorem mS_X7_image : mS M_X7_image = 2667 := rfl
set_option maxRecDepth 40000 in
theorem tv_X7_image : TV M_X7_image 1 := ⟨mt5 52 (by rfl) rfl, mt1 1 (by rfl) rfl, ⟨by decide, by decide, by decide +kernel⟩⟩
set_option maxRecDepth 40000 in
theorem ti_X7_image : TI M_X7_image := mt5 50 (by rfl) rfl
set_option maxRecDepth 40000 in
theorem ts_X7_image : TS M_X7_image := mt5 51 (by rfl) rfl
theorem kc_X7_image : KC M_X7_image 8 := ⟨by decide, by decide, rfl⟩
def M_X7_again : MX := (yX7_again, cX7_again, 2, some (.boolean), 4, 123, 0, 0)
theorem mM_X7_again : mM M_X7_again = 0 := rfl
theorem mS_X7_again : mS M_X7_again = 0 := rfl
set_option maxRecDepth 40000 in
theorem tv_X7_again : TV M_X7_again 1 := ⟨mt5 67 (by rfl) rfl, mt1 1 (by rfl) rfl, ⟨by decide, by decide, by decide +kernel⟩⟩
set_option maxRecDepth 40000 in
theorem ti_X7_again : TI M_X7_again := mt5 65 (by rfl) rfl
set_option maxRecDepth 40000 in
theorem ts_X7_again : TS M_X7_again := mt5 66 (by rfl) rfl
theorem kc_X7_again : KC M_X7_again 8 := ⟨by decide, by decide, rfl⟩
def M_X8_init : MX := (yX8_init, cX8_init, 1, none, 1, 20, 30, 74745)
theorem mM_X8_init : mM M_X8_init = 30 := rfl
theorem mS_X8_init : mS M_X8_init = 74745 := rfl
set_option maxRecDepth 40000 in
theorem tv_X8_init : TV M_X8_init 0 := ⟨mt5 72 (by rfl) rfl, mt1 8 (by rfl) rfl, ⟨by decide, by decide, by decide +kernel⟩⟩
set_option maxRecDepth 40000 in
theorem ti_X8_init : TI M_X8_init := mt5 71 (by rfl) rfl
def M_X8_in : MX := (yX8_in, cX8_in, 3, some (.boolean), 0, 0, 0, 0)
theorem mM_X8_in : mM M_X8_in = 0 := rfl
theorem mS_X8_in : mS M_X8_in = 0 := rfl
set_option maxRecDepth 40000 in
theorem tv_X8_in : TV M_X8_in 3 := ⟨mt6 14 (by rfl) rfl, mt1 8 (by rfl) rfl, ⟨by decide, by decide, by decide +kernel⟩⟩
set_option maxRecDepth 40000 in
theorem ts_X8_in : Cond.static (mY M_X8_in) ∈ gTbl := mt6 13 (by rfl) rfl
def M_X8_has : MX := (yX8_has, cX8_has, 2, some (.boolean), 0, 0, 0, 0)
theorem mM_X8_has : mM M_X8_has = 0 := rfl
theorem mS_X8_has : mS M_X8_has = 0 := rfl
set_option maxRecDepth 40000 in
theorem tv_X8_has : TV M_X8_has 2 := ⟨mt6 207 (by rfl) rfl, mt1 8 (by rfl) rfl, ⟨by decide, by decide, by decide +kernel⟩⟩
set_option maxRecDepth 40000 in
theorem ts_X8_has : Cond.static (mY M_X8_has) ∈ gTbl := mt6 206 (by rfl) rfl
def M_X8_ones : MX := (yX8_ones, cX8_ones, 3, some (.int), 1, 21, 0, 0)
theorem mM_X8_ones : mM M_X8_ones = 0 := rfl
theorem mS_X8_ones : mS M_X8_ones = 0 := rfl
set_option maxRecDepth 40000 in
theorem tv_X8_ones : TV M_X8_ones 1 := ⟨mt7 13 (by rfl) rfl, mt1 8 (by rfl) rfl, ⟨by decide, by decide, by decide +kernel⟩⟩
set_option maxRecDepth 40000 in
theorem ts_X8_ones : Cond.static (mY M_X8_ones) ∈ gTbl := mt7 12 (by rfl) rfl
def M_X8_greater : MX := (yX8_greater, cX8_greater, 2, some (.int), 0, 0, 0, 0)
theorem mM_X8_greater : mM M_X8_greater = 0 := rfl
theorem mS_X8_greater : mS M_X8_greater = 0 := rfl
set_option maxRecDepth 40000 in
theorem tv_X8_greater : TV M_X8_greater 2 := ⟨mt6 75 (by rfl) rfl, mt1 8 (by rfl) rfl, ⟨by decide, by decide, by decide +kernel⟩⟩
set_option maxRecDepth 40000 in
theorem ts_X8_greater : Cond.static (mY M_X8_greater) ∈ gTbl := mt6 74 (by rfl) rfl
def M_X8_copyRow : MX := (yX8_copyRow, cX8_copyRow, 5, none, 0, 0, 0, 0)
theorem mM_X8_copyRow : mM M_X8_copyRow = 0 := rfl
theorem mS_X8_copyRow : mS M_X8_copyRow = 0 := rfl
set_option maxRecDepth 40000 in
theorem tv_X8_copyRow : TV M_X8_copyRow 4 := ⟨mt8 52 (by rfl) rfl, mt1 8 (by rfl) rfl, ⟨by decide, by decide, by decide +kernel⟩⟩
set_option maxRecDepth 40000 in
theorem ts_X8_copyRow : Cond.static (mY M_X8_copyRow) ∈ gTbl := mt8 51 (by rfl) rfl
def M_X8_copyAll : MX := (yX8_copyAll, cX8_copyAll, 4, none, 1, 24, 0, 0)
theorem mM_X8_copyAll : mM M_X8_copyAll = 0 := rfl
theorem mS_X8_copyAll : mS M_X8_copyAll = 0 := rfl
set_option maxRecDepth 40000 in
theorem tv_X8_copyAll : TV M_X8_copyAll 2 := ⟨mt8 49 (by rfl) rfl, mt1 8 (by rfl) rfl, ⟨by decide, by decide, by decide +kernel⟩⟩
set_option maxRecDepth 40000 in
theorem ti_X8_copyAll : TI M_X8_copyAll := mt8 48 (by rfl) rfl
set_option maxRecDepth 40000 in
theorem ts_X8_copyAll : TS M_X8_copyAll := mtP8 14 (by rfl) rfl
theorem kc_X8_copyAll : KC M_X8_copyAll 9 := ⟨by decide, by decide, rfl⟩
def M_X8_is : MX := (yX8_is, cX8_is, 3, some (.boolean), 1, 22, 0, 0)
theorem mM_X8_is : mM M_X8_is = 0 := rfl
theorem mS_X8_is : mS M_X8_is = 0 := rfl
set_option maxRecDepth 40000 in
theorem tv_X8_is : TV M_X8_is 2 := ⟨mt6 22 (by rfl) rfl, mt1 8 (by rfl) rfl, ⟨by decide, by decide, by decide +kernel⟩⟩
set_option maxRecDepth 40000 in
theorem ti_X8_is : TI M_X8_is := mt6 21 (by rfl) rfl
set_option maxRecDepth 40000 in
theorem ts_X8_is : TS M_X8_is := mtP3 9 (by rfl) rfl
theorem kc_X8_is : KC M_X8_is 9 := ⟨by decide, by decide, rfl⟩
def M_X8_feed : MX := (yX8_feed, cX8_feed, 6, some (.int), 1, 22, 0, 0)
theorem mM_X8_feed : mM M_X8_feed = 0 := rfl
theorem mS_X8_feed : mS M_X8_feed = 0 := rfl
set_option maxRecDepth 40000 in
theorem tv_X8_feed : TV M_X8_feed 5 := ⟨mt6 3 (by rfl) rfl, mt1 8 (by rfl) rfl, ⟨by decide, by decide, by decide +kernel⟩⟩
set_option maxRecDepth 40000 in
theorem ti_X8_feed : TI M_X8_feed := mt6 1 (by rfl) rfl
set_option maxRecDepth 40000 in
theorem ts_X8_feed : TS M_X8_feed := mt6 2 (by rfl) rfl
theorem kc_X8_feed : KC M_X8_feed 9 := ⟨by decide, by decide, rfl⟩
def M_X8_four : MX := (yX8_four, cX8_four, 3, none, 0, 0, 0, 0)
theorem mM_X8_four : mM M_X8_four = 0 := rfl
theorem mS_X8_four : mS M_X8_four = 0 := rfl
set_option maxRecDepth 40000 in
theorem tv_X8_four : TV M_X8_four 1 := ⟨mt6 7 (by rfl) rfl, mt1 8 (by rfl) rfl, ⟨by decide, by decide, by decide +kernel⟩⟩
set_option maxRecDepth 40000 in
theorem ti_X8_four : TI M_X8_four := mt6 6 (by rfl) rfl
set_option maxRecDepth 40000 in
theorem ts_X8_four : TS M_X8_four := mtP3 8 (by rfl) rfl
theorem kc_X8_four : KC M_X8_four 9 := ⟨by decide, by decide, rfl⟩
def M_X8_end : MX := (yX8_end, cX8_end, 2, some (.int), 1, 22, 0, 0)
theorem mM_X8_end : mM M_X8_end = 0 := rfl
theorem mS_X8_end : mS M_X8_end = 0 := rfl
set_option maxRecDepth 40000 in
theorem tv_X8_end : TV M_X8_end 1 := ⟨mt6 11 (by rfl) rfl, mt1 8 (by rfl) rfl, ⟨by decide, by decide, by decide +kernel⟩⟩
set_option maxRecDepth 40000 in
theorem ti_X8_end : TI M_X8_end := mt6 9 (by rfl) rfl
set_option maxRecDepth 40000 in
theorem ts_X8_end : TS M_X8_end := mt6 10 (by rfl) rfl
theorem kc_X8_end : KC M_X8_end 9 := ⟨by decide, by decide, rfl⟩
def M_X8_see : MX := (yX8_see, cX8_see, 1, some (.int), 0, 0, 0, 0)
theorem mM_X8_see : mM M_X8_see = 0 := rfl
theorem mS_X8_see : mS M_X8_see = 0 := rfl
set_option maxRecDepth 40000 in
theorem tv_X8_see : TV M_X8_see 0 := ⟨mt6 34 (by rfl) rfl, mt1 8 (by rfl) rfl, ⟨by decide, by decide, by decide +kernel⟩⟩
set_option maxRecDepth 40000 in
theorem ti_X8_see : TI M_X8_see := mt6 33 (by rfl) rfl
set_option maxRecDepth 40000 in
theorem ts_X8_see : TS M_X8_see := mtP3 12 (by rfl) rfl
theorem kc_X8_see : KC M_X8_see 9 := ⟨by decide, by decide, rfl⟩
def M_X8_token : MX := (yX8_token, cX8_token, 3, none, 1, 22, 0, 0)
theorem mM_X8_token : mM M_X8_token = 0 := rfl
theorem mS_X8_token : mS M_X8_token = 0 := rfl
set_option maxRecDepth 40000 in
theorem tv_X8_token : TV M_X8_token 0 := ⟨mt6 30 (by rfl) rfl, mt1 8 (by rfl) rfl, ⟨by decide, by decide, by decide +kernel⟩⟩
set_option maxRecDepth 40000 in
theorem ti_X8_token : TI M_X8_token := mt6 29 (by rfl) rfl
set_option maxRecDepth 40000 in
theorem ts_X8_token : TS M_X8_token := mtP3 11 (by rfl) rfl
theorem kc_X8_token : KC M_X8_token 9 := ⟨by decide, by decide, rfl⟩
def M_X8_stops : MX := (yX8_stops, cX8_stops, 1, some (.boolean), 0, 0, 0, 0)
theorem mM_X8_stops : mM M_X8_stops = 0 := rfl
theorem mS_X8_stops : mS M_X8_stops = 0 := rfl
set_option maxRecDepth 40000 in
theorem tv_X8_stops : TV M_X8_stops 0 := ⟨mt6 52 (by rfl) rfl, mt1 8 (by rfl) rfl, ⟨by decide, by decide, by decide +kernel⟩⟩
set_option maxRecDepth 40000 in
theorem ti_X8_stops : TI M_X8_stops := mt6 51 (by rfl) rfl
set_option maxRecDepth 40000 in
theorem ts_X8_stops : TS M_X8_stops := mtP3 15 (by rfl) rfl
theorem kc_X8_stops : KC M_X8_stops 9 := ⟨by decide, by decide, rfl⟩
def M_X8_later : MX := (yX8_later, cX8_later, 3, none, 0, 0, 0, 0)
theorem mM_X8_later : mM M_X8_later = 0 := rfl
theorem mS_X8_later : mS M_X8_later = 0 := rfl
set_option maxRecDepth 40000 in
theorem tv_X8_later : TV M_X8_later 2 := ⟨mt6 60 (by rfl) rfl, mt1 8 (by rfl) rfl, ⟨by decide, by decide, by decide +kernel⟩⟩
set_option maxRecDepth 40000 in
theorem ti_X8_later : TI M_X8_later := mt6 59 (by rfl) rfl
set_option maxRecDepth 40000 in
theorem ts_X8_later : TS M_X8_later := mtP4 1 (by rfl) rfl
theorem kc_X8_later : KC M_X8_later 9 := ⟨by decide, by decide, rfl⟩
def M_X8_take : MX := (yX8_take, cX8_take, 4, some (.boolean), 2, 44, 0, 0)
theorem mM_X8_take : mM M_X8_take = 0 := rfl
theorem mS_X8_take : mS M_X8_take = 0 := rfl
set_option maxRecDepth 40000 in
theorem tv_X8_take : TV M_X8_take 3 := ⟨mt6 72 (by rfl) rfl, mt1 8 (by rfl) rfl, ⟨by decide, by decide, by decide +kernel⟩⟩
set_option maxRecDepth 40000 in
theorem ti_X8_take : TI M_X8_take := mt6 71 (by rfl) rfl
set_option maxRecDepth 40000 in
theorem ts_X8_take : TS M_X8_take := mtP4 4 (by rfl) rfl
theorem kc_X8_take : KC M_X8_take 9 := ⟨by decide, by decide, rfl⟩
def M_X8_takeField : MX := (yX8_takeField, cX8_takeField, 3, some (.boolean), 3, 67, 0, 0)
theorem mM_X8_takeField : mM M_X8_takeField = 0 := rfl
theorem mS_X8_takeField : mS M_X8_takeField = 0 := rfl
set_option maxRecDepth 40000 in
theorem tv_X8_takeField : TV M_X8_takeField 1 := ⟨mt6 68 (by rfl) rfl, mt1 8 (by rfl) rfl, ⟨by decide, by decide, by decide +kernel⟩⟩
set_option maxRecDepth 40000 in
theorem ti_X8_takeField : TI M_X8_takeField := mt6 67 (by rfl) rfl
set_option maxRecDepth 40000 in
theorem ts_X8_takeField : TS M_X8_takeField := mtP4 3 (by rfl) rfl
theorem kc_X8_takeField : KC M_X8_takeField 9 := ⟨by decide, by decide, rfl⟩
def M_X8_full : MX := (yX8_full, cX8_full, 4, none, 1, 22, 0, 0)
theorem mM_X8_full : mM M_X8_full = 0 := rfl
theorem mS_X8_full : mS M_X8_full = 0 := rfl
set_option maxRecDepth 40000 in
theorem tv_X8_full : TV M_X8_full 3 := ⟨mt6 56 (by rfl) rfl, mt1 8 (by rfl) rfl, ⟨by decide, by decide, by decide +kernel⟩⟩
set_option maxRecDepth 40000 in
theorem ti_X8_full : TI M_X8_full := mt6 55 (by rfl) rfl
set_option maxRecDepth 40000 in
theorem ts_X8_full : TS M_X8_full := mtP4 0 (by rfl) rfl
theorem kc_X8_full : KC M_X8_full 9 := ⟨by decide, by decide, rfl⟩
def M_X8_keep : MX := (yX8_keep, cX8_keep, 7, none, 0, 0, 0, 0)
theorem mM_X8_keep : mM M_X8_keep = 0 := rfl
theorem mS_X8_keep : mS M_X8_keep = 0 := rfl
set_option maxRecDepth 40000 in
theorem tv_X8_keep : TV M_X8_keep 4 := ⟨mt6 79 (by rfl) rfl, mt1 8 (by rfl) rfl, ⟨by decide, by decide, by decide +kernel⟩⟩
set_option maxRecDepth 40000 in
theorem ti_X8_keep : TI M_X8_keep := mt6 78 (by rfl) rfl
set_option maxRecDepth 40000 in
theorem ts_X8_keep : TS M_X8_keep := mtP4 5 (by rfl) rfl
theorem kc_X8_keep : KC M_X8_keep 9 := ⟨by decide, by decide, rfl⟩
def M_X8_courtLine : MX := (yX8_courtLine, cX8_courtLine, 6, some (.boolean), 5, 110, 0, 0)
theorem mM_X8_courtLine : mM M_X8_courtLine = 0 := rfl
theorem mS_X8_courtLine : mS M_X8_courtLine = 0 := rfl
set_option maxRecDepth 40000 in
theorem tv_X8_courtLine : TV M_X8_courtLine 2 := ⟨mt6 42 (by rfl) rfl, mt1 8 (by rfl) rfl, ⟨by decide, by decide, by decide +kernel⟩⟩
set_option maxRecDepth 40000 in
theorem ti_X8_courtLine : TI M_X8_courtLine := mt6 41 (by rfl) rfl
set_option maxRecDepth 40000 in
theorem ts_X8_courtLine : TS M_X8_courtLine := mtP3 14 (by rfl) rfl
theorem kc_X8_courtLine : KC M_X8_courtLine 9 := ⟨by decide, by decide, rfl⟩
def M_X8_pleads : MX := (yX8_pleads, cX8_pleads, 1, none, 0, 0, 0, 0)
theorem mM_X8_pleads : mM M_X8_pleads = 0 := rfl
theorem mS_X8_pleads : mS M_X8_pleads = 0 := rfl
set_option maxRecDepth 40000 in
theorem tv_X8_pleads : TV M_X8_pleads 0 := ⟨mt6 91 (by rfl) rfl, mt1 8 (by rfl) rfl, ⟨by decide, by decide, by decide +kernel⟩⟩
set_option maxRecDepth 40000 in
theorem ti_X8_pleads : TI M_X8_pleads := mt6 90 (by rfl) rfl
set_option maxRecDepth 40000 in
theorem ts_X8_pleads : TS M_X8_pleads := mtP4 8 (by rfl) rfl
theorem kc_X8_pleads : KC M_X8_pleads 9 := ⟨by decide, by decide, rfl⟩
def M_X8_twinLine : MX := (yX8_twinLine, cX8_twinLine, 1, some (.boolean), 4, 89, 0, 0)
theorem mM_X8_twinLine : mM M_X8_twinLine = 0 := rfl
theorem mS_X8_twinLine : mS M_X8_twinLine = 0 := rfl
set_option maxRecDepth 40000 in
theorem tv_X8_twinLine : TV M_X8_twinLine 0 := ⟨mt6 95 (by rfl) rfl, mt1 8 (by rfl) rfl, ⟨by decide, by decide, by decide +kernel⟩⟩
set_option maxRecDepth 40000 in
theorem ti_X8_twinLine : TI M_X8_twinLine := mt6 94 (by rfl) rfl
set_option maxRecDepth 40000 in
theorem ts_X8_twinLine : TS M_X8_twinLine := mtP4 9 (by rfl) rfl
theorem kc_X8_twinLine : KC M_X8_twinLine 9 := ⟨by decide, by decide, rfl⟩
def M_X8_judgeLine : MX := (yX8_judgeLine, cX8_judgeLine, 2, some (.boolean), 4, 89, 0, 0)
theorem mM_X8_judgeLine : mM M_X8_judgeLine = 0 := rfl
theorem mS_X8_judgeLine : mS M_X8_judgeLine = 0 := rfl
set_option maxRecDepth 40000 in
theorem tv_X8_judgeLine : TV M_X8_judgeLine 1 := ⟨mt6 64 (by rfl) rfl, mt1 8 (by rfl) rfl, ⟨by decide, by decide, by decide +kernel⟩⟩
set_option maxRecDepth 40000 in
theorem ti_X8_judgeLine : TI M_X8_judgeLine := mt6 63 (by rfl) rfl
set_option maxRecDepth 40000 in
theorem ts_X8_judgeLine : TS M_X8_judgeLine := mtP4 2 (by rfl) rfl
theorem kc_X8_judgeLine : KC M_X8_judgeLine 9 := ⟨by decide, by decide, rfl⟩
def M_X8_sizeLine : MX := (yX8_sizeLine, cX8_sizeLine, 2, some (.boolean), 3, 67, 0, 0)
theorem mM_X8_sizeLine : mM M_X8_sizeLine = 0 := rfl
theorem mS_X8_sizeLine : mS M_X8_sizeLine = 0 := rfl
set_option maxRecDepth 40000 in
theorem tv_X8_sizeLine : TV M_X8_sizeLine 0 := ⟨mt6 83 (by rfl) rfl, mt1 8 (by rfl) rfl, ⟨by decide, by decide, by decide +kernel⟩⟩
set_option maxRecDepth 40000 in
theorem ti_X8_sizeLine : TI M_X8_sizeLine := mt6 82 (by rfl) rfl
set_option maxRecDepth 40000 in
theorem ts_X8_sizeLine : TS M_X8_sizeLine := mtP4 6 (by rfl) rfl
theorem kc_X8_sizeLine : KC M_X8_sizeLine 9 := ⟨by decide, by decide, rfl⟩
def M_X8_wallLine : MX := (yX8_wallLine, cX8_wallLine, 1, some (.boolean), 4, 89, 0, 0)
theorem mM_X8_wallLine : mM M_X8_wallLine = 0 := rfl
theorem mS_X8_wallLine : mS M_X8_wallLine = 0 := rfl
set_option maxRecDepth 40000 in
theorem tv_X8_wallLine : TV M_X8_wallLine 0 := ⟨mt6 87 (by rfl) rfl, mt1 8 (by rfl) rfl, ⟨by decide, by decide, by decide +kernel⟩⟩
set_option maxRecDepth 40000 in
theorem ti_X8_wallLine : TI M_X8_wallLine := mt6 86 (by rfl) rfl
set_option maxRecDepth 40000 in
theorem ts_X8_wallLine : TS M_X8_wallLine := mtP4 7 (by rfl) rfl
theorem kc_X8_wallLine : KC M_X8_wallLine 9 := ⟨by decide, by decide, rfl⟩
def M_X8_trialLine : MX := (yX8_trialLine, cX8_trialLine, 4, some (.boolean), 3, 67, 0, 0)
theorem mM_X8_trialLine : mM M_X8_trialLine = 0 := rfl
theorem mS_X8_trialLine : mS M_X8_trialLine = 0 := rfl
set_option maxRecDepth 40000 in
theorem tv_X8_trialLine : TV M_X8_trialLine 2 := ⟨mt6 99 (by rfl) rfl, mt1 8 (by rfl) rfl, ⟨by decide, by decide, by decide +kernel⟩⟩
set_option maxRecDepth 40000 in
theorem ti_X8_trialLine : TI M_X8_trialLine := mt6 98 (by rfl) rfl
set_option maxRecDepth 40000 in
theorem ts_X8_trialLine : TS M_X8_trialLine := mtP4 10 (by rfl) rfl
theorem kc_X8_trialLine : KC M_X8_trialLine 9 := ⟨by decide, by decide, rfl⟩
def M_X8_takeMaybe : MX := (yX8_takeMaybe, cX8_takeMaybe, 2, some (.boolean), 3, 67, 0, 0)
theorem mM_X8_takeMaybe : mM M_X8_takeMaybe = 0 := rfl
theorem mS_X8_takeMaybe : mS M_X8_takeMaybe = 0 := rfl
set_option maxRecDepth 40000 in
theorem tv_X8_takeMaybe : TV M_X8_takeMaybe 1 := ⟨mt6 112 (by rfl) rfl, mt1 8 (by rfl) rfl, ⟨by decide, by decide, by decide +kernel⟩⟩
set_option maxRecDepth 40000 in
theorem ti_X8_takeMaybe : TI M_X8_takeMaybe := mt6 111 (by rfl) rfl
set_option maxRecDepth 40000 in
theorem ts_X8_takeMaybe : TS M_X8_takeMaybe := mtP4 12 (by rfl) rfl
theorem kc_X8_takeMaybe : KC M_X8_takeMaybe 9 := ⟨by decide, by decide, rfl⟩
def M_X8_lawLine : MX := (yX8_lawLine, cX8_lawLine, 4, some (.boolean), 4, 88, 0, 0)
theorem mM_X8_lawLine : mM M_X8_lawLine = 0 := rfl
theorem mS_X8_lawLine : mS M_X8_lawLine = 0 := rfl
set_option maxRecDepth 40000 in
theorem tv_X8_lawLine : TV M_X8_lawLine 2 := ⟨mt6 106 (by rfl) rfl, mt1 8 (by rfl) rfl, ⟨by decide, by decide, by decide +kernel⟩⟩
set_option maxRecDepth 40000 in
theorem ti_X8_lawLine : TI M_X8_lawLine := mt6 105 (by rfl) rfl
set_option maxRecDepth 40000 in
theorem ts_X8_lawLine : TS M_X8_lawLine := mtP4 11 (by rfl) rfl
theorem kc_X8_lawLine : KC M_X8_lawLine 9 := ⟨by decide, by decide, rfl⟩
def M_X8_rollLine : MX := (yX8_rollLine, cX8_rollLine, 4, some (.boolean), 3, 67, 0, 0)
theorem mM_X8_rollLine : mM M_X8_rollLine = 0 := rfl
theorem mS_X8_rollLine : mS M_X8_rollLine = 0 := rfl
set_option maxRecDepth 40000 in
theorem tv_X8_rollLine : TV M_X8_rollLine 2 := ⟨mt6 116 (by rfl) rfl, mt1 8 (by rfl) rfl, ⟨by decide, by decide, by decide +kernel⟩⟩
set_option maxRecDepth 40000 in
theorem ti_X8_rollLine : TI M_X8_rollLine := mt6 115 (by rfl) rfl
set_option maxRecDepth 40000 in
theorem ts_X8_rollLine : TS M_X8_rollLine := mtP4 13 (by rfl) rfl
theorem kc_X8_rollLine : KC M_X8_rollLine 9 := ⟨by decide, by decide, rfl⟩
def M_X8_lines : MX := (yX8_lines, cX8_lines, 6, some (.boolean), 6, 135, 0, 0)
theorem mM_X8_lines : mM M_X8_lines = 0 := rfl
theorem mS_X8_lines : mS M_X8_lines = 0 := rfl
set_option maxRecDepth 40000 in
theorem tv_X8_lines : TV M_X8_lines 1 := ⟨mt6 38 (by rfl) rfl, mt1 8 (by rfl) rfl, ⟨by decide, by decide, by decide +kernel⟩⟩
set_option maxRecDepth 40000 in
theorem ti_X8_lines : TI M_X8_lines := mt6 37 (by rfl) rfl
set_option maxRecDepth 40000 in
theorem ts_X8_lines : TS M_X8_lines := mtP3 13 (by rfl) rfl
theorem kc_X8_lines : KC M_X8_lines 9 := ⟨by decide, by decide, rfl⟩
def M_X8_isWalled : MX := (yX8_isWalled, cX8_isWalled, 2, some (.boolean), 0, 0, 0, 0)
theorem mM_X8_isWalled : mM M_X8_isWalled = 0 := rfl
theorem mS_X8_isWalled : mS M_X8_isWalled = 0 := rfl
set_option maxRecDepth 40000 in
theorem tv_X8_isWalled : TV M_X8_isWalled 1 := ⟨mt6 125 (by rfl) rfl, mt1 8 (by rfl) rfl, ⟨by decide, by decide, by decide +kernel⟩⟩
set_option maxRecDepth 40000 in
theorem ti_X8_isWalled : TI M_X8_isWalled := mt6 124 (by rfl) rfl
set_option maxRecDepth 40000 in
theorem ts_X8_isWalled : TS M_X8_isWalled := mtP4 15 (by rfl) rfl
theorem kc_X8_isWalled : KC M_X8_isWalled 9 := ⟨by decide, by decide, rfl⟩
def M_X8_isWrongCourt : MX := (yX8_isWrongCourt, cX8_isWrongCourt, 2, some (.boolean), 1, 21, 0, 0)
theorem mM_X8_isWrongCourt : mM M_X8_isWrongCourt = 0 := rfl
theorem mS_X8_isWrongCourt : mS M_X8_isWrongCourt = 0 := rfl
set_option maxRecDepth 40000 in
theorem tv_X8_isWrongCourt : TV M_X8_isWrongCourt 0 := ⟨mt6 121 (by rfl) rfl, mt1 8 (by rfl) rfl, ⟨by decide, by decide, by decide +kernel⟩⟩
set_option maxRecDepth 40000 in
theorem ti_X8_isWrongCourt : TI M_X8_isWrongCourt := mt6 120 (by rfl) rfl
set_option maxRecDepth 40000 in
theorem ts_X8_isWrongCourt : TS M_X8_isWrongCourt := mtP4 14 (by rfl) rfl
theorem kc_X8_isWrongCourt : KC M_X8_isWrongCourt 9 := ⟨by decide, by decide, rfl⟩
def M_X8_readText : MX := (yX8_readText, cX8_readText, 3, some (.boolean), 7, 160, 0, 0)
theorem mM_X8_readText : mM M_X8_readText = 0 := rfl
theorem mS_X8_readText : mS M_X8_readText = 0 := rfl
set_option maxRecDepth 40000 in
theorem tv_X8_readText : TV M_X8_readText 1 := ⟨mt6 26 (by rfl) rfl, mt1 8 (by rfl) rfl, ⟨by decide, by decide, by decide +kernel⟩⟩
set_option maxRecDepth 40000 in
theorem ti_X8_readText : TI M_X8_readText := mt6 25 (by rfl) rfl
set_option maxRecDepth 40000 in
theorem ts_X8_readText : TS M_X8_readText := mtP3 10 (by rfl) rfl
theorem kc_X8_readText : KC M_X8_readText 9 := ⟨by decide, by decide, rfl⟩
def M_X8_store : MX := (yX8_store, cX8_store, 5, none, 0, 0, 0, 0)
theorem mM_X8_store : mM M_X8_store = 0 := rfl
theorem mS_X8_store : mS M_X8_store = 0 := rfl
set_option maxRecDepth 40000 in
theorem tv_X8_store : TV M_X8_store 3 := ⟨mt6 129 (by rfl) rfl, mt1 8 (by rfl) rfl, ⟨by decide, by decide, by decide +kernel⟩⟩
set_option maxRecDepth 40000 in
theorem ti_X8_store : TI M_X8_store := mt6 128 (by rfl) rfl
set_option maxRecDepth 40000 in
theorem ts_X8_store : TS M_X8_store := mtP5 0 (by rfl) rfl
theorem kc_X8_store : KC M_X8_store 9 := ⟨by decide, by decide, rfl⟩
def M_X8_text : MX := (yX8_text, cX8_text, 4, some (.int), 8, 182, 0, 0)
theorem mM_X8_text : mM M_X8_text = 0 := rfl
theorem mS_X8_text : mS M_X8_text = 0 := rfl
set_option maxRecDepth 40000 in
theorem tv_X8_text : TV M_X8_text 2 := ⟨mt6 18 (by rfl) rfl, mt1 8 (by rfl) rfl, ⟨by decide, by decide, by decide +kernel⟩⟩
set_option maxRecDepth 40000 in
theorem ti_X8_text : TI M_X8_text := mt6 16 (by rfl) rfl
set_option maxRecDepth 40000 in
theorem ts_X8_text : TS M_X8_text := mt6 17 (by rfl) rfl
theorem kc_X8_text : KC M_X8_text 9 := ⟨by decide, by decide, rfl⟩
def M_X8_fault : MX := (yX8_fault, cX8_fault, 2, some (.int), 0, 0, 0, 0)
theorem mM_X8_fault : mM M_X8_fault = 0 := rfl
theorem mS_X8_fault : mS M_X8_fault = 0 := rfl
set_option maxRecDepth 40000 in
theorem tv_X8_fault : TV M_X8_fault 1 := ⟨mt6 133 (by rfl) rfl, mt1 8 (by rfl) rfl, ⟨by decide, by decide, by decide +kernel⟩⟩
set_option maxRecDepth 40000 in
theorem ti_X8_fault : TI M_X8_fault := mt6 131 (by rfl) rfl
set_option maxRecDepth 40000 in
theorem ts_X8_fault : TS M_X8_fault := mt6 132 (by rfl) rfl
theorem kc_X8_fault : KC M_X8_fault 9 := ⟨by decide, by decide, rfl⟩
def M_X8_of : MX := (yX8_of, cX8_of, 2, some (.int), 0, 0, 0, 0)
theorem mM_X8_of : mM M_X8_of = 0 := rfl
theorem mS_X8_of : mS M_X8_of = 0 := rfl
set_option maxRecDepth 40000 in
theorem tv_X8_of : TV M_X8_of 1 := ⟨mt6 145 (by rfl) rfl, mt1 8 (by rfl) rfl, ⟨by decide, by decide, by decide +kernel⟩⟩
set_option maxRecDepth 40000 in
theorem ti_X8_of : TI M_X8_of := mt6 144 (by rfl) rfl
set_option maxRecDepth 40000 in
theorem ts_X8_of : TS M_X8_of := mtP5 2 (by rfl) rfl
theorem kc_X8_of : KC M_X8_of 9 := ⟨by decide, by decide, rfl⟩
def M_X8_hand : MX := (yX8_hand, cX8_hand, 3, some (.boolean), 4, 95, 0, 0)
theorem mM_X8_hand : mM M_X8_hand = 0 := rfl
theorem mS_X8_hand : mS M_X8_hand = 0 := rfl
set_option maxRecDepth 40000 in
theorem tv_X8_hand : TV M_X8_hand 1 := ⟨mt6 141 (by rfl) rfl, mt1 8 (by rfl) rfl, ⟨by decide, by decide, by decide +kernel⟩⟩
set_option maxRecDepth 40000 in
theorem ti_X8_hand : TI M_X8_hand := mt6 140 (by rfl) rfl
set_option maxRecDepth 40000 in
theorem ts_X8_hand : TS M_X8_hand := mtP5 1 (by rfl) rfl
theorem kc_X8_hand : KC M_X8_hand 9 := ⟨by decide, by decide, rfl⟩
def M_X8_isWall : MX := (yX8_isWall, cX8_isWall, 2, some (.boolean), 1, 21, 0, 0)
theorem mM_X8_isWall : mM M_X8_isWall = 0 := rfl
theorem mS_X8_isWall : mS M_X8_isWall = 0 := rfl
set_option maxRecDepth 40000 in
theorem tv_X8_isWall : TV M_X8_isWall 1 := ⟨mt6 153 (by rfl) rfl, mt1 8 (by rfl) rfl, ⟨by decide, by decide, by decide +kernel⟩⟩
set_option maxRecDepth 40000 in
theorem ti_X8_isWall : TI M_X8_isWall := mt6 152 (by rfl) rfl
set_option maxRecDepth 40000 in
theorem ts_X8_isWall : TS M_X8_isWall := mtP5 4 (by rfl) rfl
theorem kc_X8_isWall : KC M_X8_isWall 9 := ⟨by decide, by decide, rfl⟩
def M_X8_isField : MX := (yX8_isField, cX8_isField, 2, some (.boolean), 1, 22, 0, 0)
theorem mM_X8_isField : mM M_X8_isField = 0 := rfl
theorem mS_X8_isField : mS M_X8_isField = 0 := rfl
set_option maxRecDepth 40000 in
theorem tv_X8_isField : TV M_X8_isField 1 := ⟨mt6 215 (by rfl) rfl, mt1 8 (by rfl) rfl, ⟨by decide, by decide, by decide +kernel⟩⟩
set_option maxRecDepth 40000 in
theorem ti_X8_isField : TI M_X8_isField := mt6 214 (by rfl) rfl
set_option maxRecDepth 40000 in
theorem ts_X8_isField : TS M_X8_isField := mtP6 1 (by rfl) rfl
theorem kc_X8_isField : KC M_X8_isField 9 := ⟨by decide, by decide, rfl⟩
def M_X8_beside : MX := (yX8_beside, cX8_beside, 5, some (.int), 1, 22, 0, 0)
theorem mM_X8_beside : mM M_X8_beside = 0 := rfl
theorem mS_X8_beside : mS M_X8_beside = 0 := rfl
set_option maxRecDepth 40000 in
theorem tv_X8_beside : TV M_X8_beside 2 := ⟨mt6 161 (by rfl) rfl, mt1 8 (by rfl) rfl, ⟨by decide, by decide, by decide +kernel⟩⟩
set_option maxRecDepth 40000 in
theorem ti_X8_beside : TI M_X8_beside := mt6 160 (by rfl) rfl
set_option maxRecDepth 40000 in
theorem ts_X8_beside : TS M_X8_beside := mtP5 6 (by rfl) rfl
theorem kc_X8_beside : KC M_X8_beside 9 := ⟨by decide, by decide, rfl⟩
def M_X8_stepTo : MX := (yX8_stepTo, cX8_stepTo, 4, some (.int), 2, 46, 0, 0)
theorem mM_X8_stepTo : mM M_X8_stepTo = 0 := rfl
theorem mS_X8_stepTo : mS M_X8_stepTo = 0 := rfl
set_option maxRecDepth 40000 in
theorem tv_X8_stepTo : TV M_X8_stepTo 2 := ⟨mt6 157 (by rfl) rfl, mt1 8 (by rfl) rfl, ⟨by decide, by decide, by decide +kernel⟩⟩
set_option maxRecDepth 40000 in
theorem ti_X8_stepTo : TI M_X8_stepTo := mt6 156 (by rfl) rfl
set_option maxRecDepth 40000 in
theorem ts_X8_stepTo : TS M_X8_stepTo := mtP5 5 (by rfl) rfl
theorem kc_X8_stepTo : KC M_X8_stepTo 9 := ⟨by decide, by decide, rfl⟩
def M_X8_flood : MX := (yX8_flood, cX8_flood, 7, none, 3, 69, 0, 0)
theorem mM_X8_flood : mM M_X8_flood = 0 := rfl
theorem mS_X8_flood : mS M_X8_flood = 0 := rfl
set_option maxRecDepth 40000 in
theorem tv_X8_flood : TV M_X8_flood 1 := ⟨mt6 149 (by rfl) rfl, mt1 8 (by rfl) rfl, ⟨by decide, by decide, by decide +kernel⟩⟩
set_option maxRecDepth 40000 in
theorem ti_X8_flood : TI M_X8_flood := mt6 148 (by rfl) rfl
set_option maxRecDepth 40000 in
theorem ts_X8_flood : TS M_X8_flood := mtP5 3 (by rfl) rfl
theorem kc_X8_flood : KC M_X8_flood 9 := ⟨by decide, by decide, rfl⟩
def M_X8_farOf : MX := (yX8_farOf, cX8_farOf, 3, some (.int), 0, 0, 0, 0)
theorem mM_X8_farOf : mM M_X8_farOf = 0 := rfl
theorem mS_X8_farOf : mS M_X8_farOf = 0 := rfl
set_option maxRecDepth 40000 in
theorem tv_X8_farOf : TV M_X8_farOf 2 := ⟨mt6 197 (by rfl) rfl, mt1 8 (by rfl) rfl, ⟨by decide, by decide, by decide +kernel⟩⟩
set_option maxRecDepth 40000 in
theorem ti_X8_farOf : TI M_X8_farOf := mt6 196 (by rfl) rfl
set_option maxRecDepth 40000 in
theorem ts_X8_farOf : TS M_X8_farOf := mtP5 15 (by rfl) rfl
theorem kc_X8_farOf : KC M_X8_farOf 9 := ⟨by decide, by decide, rfl⟩
def M_X8_faces : MX := (yX8_faces, cX8_faces, 4, some (.int), 0, 0, 0, 0)
theorem mM_X8_faces : mM M_X8_faces = 0 := rfl
theorem mS_X8_faces : mS M_X8_faces = 0 := rfl
set_option maxRecDepth 40000 in
theorem tv_X8_faces : TV M_X8_faces 3 := ⟨mt6 185 (by rfl) rfl, mt1 8 (by rfl) rfl, ⟨by decide, by decide, by decide +kernel⟩⟩
set_option maxRecDepth 40000 in
theorem ti_X8_faces : TI M_X8_faces := mt6 184 (by rfl) rfl
set_option maxRecDepth 40000 in
theorem ts_X8_faces : TS M_X8_faces := mtP5 12 (by rfl) rfl
theorem kc_X8_faces : KC M_X8_faces 9 := ⟨by decide, by decide, rfl⟩
def M_X8_cameFrom : MX := (yX8_cameFrom, cX8_cameFrom, 6, some (.int), 3, 69, 0, 0)
theorem mM_X8_cameFrom : mM M_X8_cameFrom = 0 := rfl
theorem mS_X8_cameFrom : mS M_X8_cameFrom = 0 := rfl
set_option maxRecDepth 40000 in
theorem tv_X8_cameFrom : TV M_X8_cameFrom 2 := ⟨mt6 201 (by rfl) rfl, mt1 8 (by rfl) rfl, ⟨by decide, by decide, by decide +kernel⟩⟩
set_option maxRecDepth 40000 in
theorem ti_X8_cameFrom : TI M_X8_cameFrom := mt6 200 (by rfl) rfl
set_option maxRecDepth 40000 in
theorem ts_X8_cameFrom : TS M_X8_cameFrom := mtP6 0 (by rfl) rfl
theorem kc_X8_cameFrom : KC M_X8_cameFrom 9 := ⟨by decide, by decide, rfl⟩
def M_X8_turned : MX := (yX8_turned, cX8_turned, 4, some (.int), 1, 21, 0, 0)
theorem mM_X8_turned : mM M_X8_turned = 0 := rfl
theorem mS_X8_turned : mS M_X8_turned = 0 := rfl
set_option maxRecDepth 40000 in
theorem tv_X8_turned : TV M_X8_turned 2 := ⟨mt6 204 (by rfl) rfl, mt1 8 (by rfl) rfl, ⟨by decide, by decide, by decide +kernel⟩⟩
set_option maxRecDepth 40000 in
theorem ts_X8_turned : Cond.static (mY M_X8_turned) ∈ gTbl := mt6 203 (by rfl) rfl
def M_X8_hearsAt : MX := (yX8_hearsAt, cX8_hearsAt, 10, some (.boolean), 4, 94, 0, 0)
theorem mM_X8_hearsAt : mM M_X8_hearsAt = 0 := rfl
theorem mS_X8_hearsAt : mS M_X8_hearsAt = 0 := rfl
set_option maxRecDepth 40000 in
theorem tv_X8_hearsAt : TV M_X8_hearsAt 7 := ⟨mt6 193 (by rfl) rfl, mt1 8 (by rfl) rfl, ⟨by decide, by decide, by decide +kernel⟩⟩
set_option maxRecDepth 40000 in
theorem ti_X8_hearsAt : TI M_X8_hearsAt := mt6 192 (by rfl) rfl
set_option maxRecDepth 40000 in
theorem ts_X8_hearsAt : TS M_X8_hearsAt := mtP5 14 (by rfl) rfl
theorem kc_X8_hearsAt : KC M_X8_hearsAt 9 := ⟨by decide, by decide, rfl⟩
def M_X8_judgeOf : MX := (yX8_judgeOf, cX8_judgeOf, 3, some (.int), 1, 21, 0, 0)
theorem mM_X8_judgeOf : mM M_X8_judgeOf = 0 := rfl
theorem mS_X8_judgeOf : mS M_X8_judgeOf = 0 := rfl
set_option maxRecDepth 40000 in
theorem tv_X8_judgeOf : TV M_X8_judgeOf 2 := ⟨mt6 181 (by rfl) rfl, mt1 8 (by rfl) rfl, ⟨by decide, by decide, by decide +kernel⟩⟩
set_option maxRecDepth 40000 in
theorem ti_X8_judgeOf : TI M_X8_judgeOf := mt6 180 (by rfl) rfl
set_option maxRecDepth 40000 in
theorem ts_X8_judgeOf : TS M_X8_judgeOf := mtP5 11 (by rfl) rfl
theorem kc_X8_judgeOf : KC M_X8_judgeOf 9 := ⟨by decide, by decide, rfl⟩
def M_X8_earsOf : MX := (yX8_earsOf, cX8_earsOf, 2, some (.int), 2, 43, 0, 0)
theorem mM_X8_earsOf : mM M_X8_earsOf = 0 := rfl
theorem mS_X8_earsOf : mS M_X8_earsOf = 0 := rfl
set_option maxRecDepth 40000 in
theorem tv_X8_earsOf : TV M_X8_earsOf 1 := ⟨mt6 189 (by rfl) rfl, mt1 8 (by rfl) rfl, ⟨by decide, by decide, by decide +kernel⟩⟩
set_option maxRecDepth 40000 in
theorem ti_X8_earsOf : TI M_X8_earsOf := mt6 188 (by rfl) rfl
set_option maxRecDepth 40000 in
theorem ts_X8_earsOf : TS M_X8_earsOf := mtP5 13 (by rfl) rfl
theorem kc_X8_earsOf : KC M_X8_earsOf 9 := ⟨by decide, by decide, rfl⟩
def M_X8_hears : MX := (yX8_hears, cX8_hears, 5, some (.boolean), 5, 123, 0, 0)
theorem mM_X8_hears : mM M_X8_hears = 0 := rfl
theorem mS_X8_hears : mS M_X8_hears = 0 := rfl
set_option maxRecDepth 40000 in
theorem tv_X8_hears : TV M_X8_hears 4 := ⟨mt6 177 (by rfl) rfl, mt1 8 (by rfl) rfl, ⟨by decide, by decide, by decide +kernel⟩⟩
set_option maxRecDepth 40000 in
theorem ti_X8_hears : TI M_X8_hears := mt6 176 (by rfl) rfl
set_option maxRecDepth 40000 in
theorem ts_X8_hears : TS M_X8_hears := mtP5 10 (by rfl) rfl
theorem kc_X8_hears : KC M_X8_hears 9 := ⟨by decide, by decide, rfl⟩
def M_X8_earsAt : MX := (yX8_earsAt, cX8_earsAt, 6, some (.int), 6, 147, 0, 0)
theorem mM_X8_earsAt : mM M_X8_earsAt = 0 := rfl
theorem mS_X8_earsAt : mS M_X8_earsAt = 0 := rfl
set_option maxRecDepth 40000 in
theorem tv_X8_earsAt : TV M_X8_earsAt 3 := ⟨mt6 173 (by rfl) rfl, mt1 8 (by rfl) rfl, ⟨by decide, by decide, by decide +kernel⟩⟩
set_option maxRecDepth 40000 in
theorem ti_X8_earsAt : TI M_X8_earsAt := mt6 172 (by rfl) rfl
set_option maxRecDepth 40000 in
theorem ts_X8_earsAt : TS M_X8_earsAt := mtP5 9 (by rfl) rfl
theorem kc_X8_earsAt : KC M_X8_earsAt 9 := ⟨by decide, by decide, rfl⟩
def M_X8_blind : MX := (yX8_blind, cX8_blind, 5, some (.int), 7, 172, 0, 0)
theorem mM_X8_blind : mM M_X8_blind = 0 := rfl
theorem mS_X8_blind : mS M_X8_blind = 0 := rfl
set_option maxRecDepth 40000 in
theorem tv_X8_blind : TV M_X8_blind 2 := ⟨mt6 169 (by rfl) rfl, mt1 8 (by rfl) rfl, ⟨by decide, by decide, by decide +kernel⟩⟩
set_option maxRecDepth 40000 in
theorem ti_X8_blind : TI M_X8_blind := mt6 168 (by rfl) rfl
set_option maxRecDepth 40000 in
theorem ts_X8_blind : TS M_X8_blind := mtP5 8 (by rfl) rfl
theorem kc_X8_blind : KC M_X8_blind 9 := ⟨by decide, by decide, rfl⟩
def M_X8_quarter : MX := (yX8_quarter, cX8_quarter, 5, some (.int), 8, 196, 0, 0)
theorem mM_X8_quarter : mM M_X8_quarter = 0 := rfl
theorem mS_X8_quarter : mS M_X8_quarter = 0 := rfl
set_option maxRecDepth 40000 in
theorem tv_X8_quarter : TV M_X8_quarter 0 := ⟨mt6 165 (by rfl) rfl, mt1 8 (by rfl) rfl, ⟨by decide, by decide, by decide +kernel⟩⟩
set_option maxRecDepth 40000 in
theorem ti_X8_quarter : TI M_X8_quarter := mt6 164 (by rfl) rfl
set_option maxRecDepth 40000 in
theorem ts_X8_quarter : TS M_X8_quarter := mtP5 7 (by rfl) rfl
theorem kc_X8_quarter : KC M_X8_quarter 9 := ⟨by decide, by decide, rfl⟩
def M_X8_court : MX := (yX8_court, cX8_court, 5, some (.int), 9, 220, 0, 0)
theorem mM_X8_court : mM M_X8_court = 0 := rfl
theorem mS_X8_court : mS M_X8_court = 0 := rfl
set_option maxRecDepth 40000 in
theorem tv_X8_court : TV M_X8_court 2 := ⟨mt6 137 (by rfl) rfl, mt1 8 (by rfl) rfl, ⟨by decide, by decide, by decide +kernel⟩⟩
set_option maxRecDepth 40000 in
theorem ti_X8_court : TI M_X8_court := mt6 135 (by rfl) rfl
set_option maxRecDepth 40000 in
theorem ts_X8_court : TS M_X8_court := mt6 136 (by rfl) rfl
theorem kc_X8_court : KC M_X8_court 9 := ⟨by decide, by decide, rfl⟩
def M_X8_wall : MX := (yX8_wall, cX8_wall, 3, some (.boolean), 5, 117, 0, 0)
theorem mM_X8_wall : mM M_X8_wall = 0 := rfl
theorem mS_X8_wall : mS M_X8_wall = 0 := rfl
set_option maxRecDepth 40000 in
theorem tv_X8_wall : TV M_X8_wall 2 := ⟨mt6 211 (by rfl) rfl, mt1 8 (by rfl) rfl, ⟨by decide, by decide, by decide +kernel⟩⟩
set_option maxRecDepth 40000 in
theorem ti_X8_wall : TI M_X8_wall := mt6 209 (by rfl) rfl
set_option maxRecDepth 40000 in
theorem ts_X8_wall : TS M_X8_wall := mt6 210 (by rfl) rfl
theorem kc_X8_wall : KC M_X8_wall 9 := ⟨by decide, by decide, rfl⟩
def M_X8_isJudge : MX := (yX8_isJudge, cX8_isJudge, 2, some (.boolean), 1, 22, 0, 0)
theorem mM_X8_isJudge : mM M_X8_isJudge = 0 := rfl
theorem mS_X8_isJudge : mS M_X8_isJudge = 0 := rfl
set_option maxRecDepth 40000 in
theorem tv_X8_isJudge : TV M_X8_isJudge 1 := ⟨mt6 223 (by rfl) rfl, mt1 8 (by rfl) rfl, ⟨by decide, by decide, by decide +kernel⟩⟩
set_option maxRecDepth 40000 in
theorem ti_X8_isJudge : TI M_X8_isJudge := mt6 222 (by rfl) rfl
set_option maxRecDepth 40000 in
theorem ts_X8_isJudge : TS M_X8_isJudge := mtP6 2 (by rfl) rfl
theorem kc_X8_isJudge : KC M_X8_isJudge 9 := ⟨by decide, by decide, rfl⟩
def M_X8_judge : MX := (yX8_judge, cX8_judge, 4, some (.int), 5, 117, 0, 0)
theorem mM_X8_judge : mM M_X8_judge = 0 := rfl
theorem mS_X8_judge : mS M_X8_judge = 0 := rfl
set_option maxRecDepth 40000 in
theorem tv_X8_judge : TV M_X8_judge 3 := ⟨mt6 219 (by rfl) rfl, mt1 8 (by rfl) rfl, ⟨by decide, by decide, by decide +kernel⟩⟩
set_option maxRecDepth 40000 in
theorem ti_X8_judge : TI M_X8_judge := mt6 217 (by rfl) rfl
set_option maxRecDepth 40000 in
theorem ts_X8_judge : TS M_X8_judge := mt6 218 (by rfl) rfl
theorem kc_X8_judge : KC M_X8_judge 9 := ⟨by decide, by decide, rfl⟩
def M_X8_isPleader : MX := (yX8_isPleader, cX8_isPleader, 2, some (.boolean), 1, 22, 0, 0)
theorem mM_X8_isPleader : mM M_X8_isPleader = 0 := rfl
theorem mS_X8_isPleader : mS M_X8_isPleader = 0 := rfl
set_option maxRecDepth 40000 in
theorem tv_X8_isPleader : TV M_X8_isPleader 1 := ⟨mt6 231 (by rfl) rfl, mt1 8 (by rfl) rfl, ⟨by decide, by decide, by decide +kernel⟩⟩
set_option maxRecDepth 40000 in
theorem ti_X8_isPleader : TI M_X8_isPleader := mt6 230 (by rfl) rfl
set_option maxRecDepth 40000 in
theorem ts_X8_isPleader : TS M_X8_isPleader := mtP6 3 (by rfl) rfl
theorem kc_X8_isPleader : KC M_X8_isPleader 9 := ⟨by decide, by decide, rfl⟩
def M_X8_pleader : MX := (yX8_pleader, cX8_pleader, 4, some (.int), 5, 117, 0, 0)
theorem mM_X8_pleader : mM M_X8_pleader = 0 := rfl
theorem mS_X8_pleader : mS M_X8_pleader = 0 := rfl
set_option maxRecDepth 40000 in
theorem tv_X8_pleader : TV M_X8_pleader 3 := ⟨mt6 227 (by rfl) rfl, mt1 8 (by rfl) rfl, ⟨by decide, by decide, by decide +kernel⟩⟩
set_option maxRecDepth 40000 in
theorem ti_X8_pleader : TI M_X8_pleader := mt6 225 (by rfl) rfl
set_option maxRecDepth 40000 in
theorem ts_X8_pleader : TS M_X8_pleader := mt6 226 (by rfl) rfl
theorem kc_X8_pleader : KC M_X8_pleader 9 := ⟨by decide, by decide, rfl⟩
def M_X8_far : MX := (yX8_far, cX8_far, 4, some (.int), 5, 117, 0, 0)
theorem mM_X8_far : mM M_X8_far = 0 := rfl
theorem mS_X8_far : mS M_X8_far = 0 := rfl
set_option maxRecDepth 40000 in
theorem tv_X8_far : TV M_X8_far 3 := ⟨mt6 235 (by rfl) rfl, mt1 8 (by rfl) rfl, ⟨by decide, by decide, by decide +kernel⟩⟩
set_option maxRecDepth 40000 in
theorem ti_X8_far : TI M_X8_far := mt6 233 (by rfl) rfl
set_option maxRecDepth 40000 in
theorem ts_X8_far : TS M_X8_far := mt6 234 (by rfl) rfl
theorem kc_X8_far : KC M_X8_far 9 := ⟨by decide, by decide, rfl⟩
def M_X8_comes : MX := (yX8_comes, cX8_comes, 6, some (.int), 5, 117, 0, 0)
theorem mM_X8_comes : mM M_X8_comes = 0 := rfl
theorem mS_X8_comes : mS M_X8_comes = 0 := rfl
set_option maxRecDepth 40000 in
theorem tv_X8_comes : TV M_X8_comes 4 := ⟨mt6 239 (by rfl) rfl, mt1 8 (by rfl) rfl, ⟨by decide, by decide, by decide +kernel⟩⟩
set_option maxRecDepth 40000 in
theorem ti_X8_comes : TI M_X8_comes := mt6 237 (by rfl) rfl
set_option maxRecDepth 40000 in
theorem ts_X8_comes : TS M_X8_comes := mt6 238 (by rfl) rfl
theorem kc_X8_comes : KC M_X8_comes 9 := ⟨by decide, by decide, rfl⟩
def M_X8_isLoud : MX := (yX8_isLoud, cX8_isLoud, 2, some (.boolean), 1, 22, 0, 0)
theorem mM_X8_isLoud : mM M_X8_isLoud = 0 := rfl
theorem mS_X8_isLoud : mS M_X8_isLoud = 0 := rfl
set_option maxRecDepth 40000 in
theorem tv_X8_isLoud : TV M_X8_isLoud 2 := ⟨mt7 6 (by rfl) rfl, mt1 8 (by rfl) rfl, ⟨by decide, by decide, by decide +kernel⟩⟩
set_option maxRecDepth 40000 in
theorem ts_X8_isLoud : Cond.static (mY M_X8_isLoud) ∈ gTbl := mt7 5 (by rfl) rfl
def M_X8_ears : MX := (yX8_ears, cX8_ears, 5, some (.int), 7, 172, 0, 0)
theorem mM_X8_ears : mM M_X8_ears = 0 := rfl
theorem mS_X8_ears : mS M_X8_ears = 0 := rfl
set_option maxRecDepth 40000 in
theorem tv_X8_ears : TV M_X8_ears 4 := ⟨mt7 3 (by rfl) rfl, mt1 8 (by rfl) rfl, ⟨by decide, by decide, by decide +kernel⟩⟩
set_option maxRecDepth 40000 in
theorem ti_X8_ears : TI M_X8_ears := mt7 1 (by rfl) rfl
set_option maxRecDepth 40000 in
theorem ts_X8_ears : TS M_X8_ears := mt7 2 (by rfl) rfl
theorem kc_X8_ears : KC M_X8_ears 9 := ⟨by decide, by decide, rfl⟩
def M_X8_pulpit : MX := (yX8_pulpit, cX8_pulpit, 9, some (.int), 7, 172, 0, 0)
theorem mM_X8_pulpit : mM M_X8_pulpit = 0 := rfl
theorem mS_X8_pulpit : mS M_X8_pulpit = 0 := rfl
set_option maxRecDepth 40000 in
theorem tv_X8_pulpit : TV M_X8_pulpit 4 := ⟨mt7 10 (by rfl) rfl, mt1 8 (by rfl) rfl, ⟨by decide, by decide, by decide +kernel⟩⟩
set_option maxRecDepth 40000 in
theorem ti_X8_pulpit : TI M_X8_pulpit := mt7 8 (by rfl) rfl
set_option maxRecDepth 40000 in
theorem ts_X8_pulpit : TS M_X8_pulpit := mt7 9 (by rfl) rfl
theorem kc_X8_pulpit : KC M_X8_pulpit 9 := ⟨by decide, by decide, rfl⟩
def M_X8_near : MX := (yX8_near, cX8_near, 8, some (.int), 6, 147, 0, 0)
theorem mM_X8_near : mM M_X8_near = 0 := rfl
theorem mS_X8_near : mS M_X8_near = 0 := rfl
set_option maxRecDepth 40000 in
theorem tv_X8_near : TV M_X8_near 4 := ⟨mt7 17 (by rfl) rfl, mt1 8 (by rfl) rfl, ⟨by decide, by decide, by decide +kernel⟩⟩
set_option maxRecDepth 40000 in
theorem ti_X8_near : TI M_X8_near := mt7 15 (by rfl) rfl
set_option maxRecDepth 40000 in
theorem ts_X8_near : TS M_X8_near := mt7 16 (by rfl) rfl
theorem kc_X8_near : KC M_X8_near 9 := ⟨by decide, by decide, rfl⟩
def M_X8_stateOf : MX := (yX8_stateOf, cX8_stateOf, 3, some (.int), 0, 0, 0, 0)
theorem mM_X8_stateOf : mM M_X8_stateOf = 0 := rfl
theorem mS_X8_stateOf : mS M_X8_stateOf = 0 := rfl
set_option maxRecDepth 40000 in
theorem tv_X8_stateOf : TV M_X8_stateOf 3 := ⟨mt7 28 (by rfl) rfl, mt1 8 (by rfl) rfl, ⟨by decide, by decide, by decide +kernel⟩⟩
set_option maxRecDepth 40000 in
theorem ts_X8_stateOf : Cond.static (mY M_X8_stateOf) ∈ gTbl := mt7 27 (by rfl) rfl
def M_X8_comeTo : MX := (yX8_comeTo, cX8_comeTo, 5, none, 0, 0, 0, 0)
theorem mM_X8_comeTo : mM M_X8_comeTo = 0 := rfl
theorem mS_X8_comeTo : mS M_X8_comeTo = 0 := rfl
set_option maxRecDepth 40000 in
theorem tv_X8_comeTo : TV M_X8_comeTo 4 := ⟨mt7 32 (by rfl) rfl, mt1 8 (by rfl) rfl, ⟨by decide, by decide, by decide +kernel⟩⟩
set_option maxRecDepth 40000 in
theorem ti_X8_comeTo : TI M_X8_comeTo := mt7 31 (by rfl) rfl
set_option maxRecDepth 40000 in
theorem ts_X8_comeTo : TS M_X8_comeTo := mtP6 5 (by rfl) rfl
theorem kc_X8_comeTo : KC M_X8_comeTo 9 := ⟨by decide, by decide, rfl⟩
def M_X8_findRound : MX := (yX8_findRound, cX8_findRound, 11, some (.int), 7, 172, 0, 0)
theorem mM_X8_findRound : mM M_X8_findRound = 0 := rfl
theorem mS_X8_findRound : mS M_X8_findRound = 0 := rfl
set_option maxRecDepth 40000 in
theorem tv_X8_findRound : TV M_X8_findRound 2 := ⟨mt7 25 (by rfl) rfl, mt1 8 (by rfl) rfl, ⟨by decide, by decide, by decide +kernel⟩⟩
set_option maxRecDepth 40000 in
theorem ti_X8_findRound : TI M_X8_findRound := mt7 24 (by rfl) rfl
set_option maxRecDepth 40000 in
theorem ts_X8_findRound : TS M_X8_findRound := mtP6 4 (by rfl) rfl
theorem kc_X8_findRound : KC M_X8_findRound 9 := ⟨by decide, by decide, rfl⟩
def M_X8_layRow : MX := (yX8_layRow, cX8_layRow, 5, none, 0, 0, 0, 0)
theorem mM_X8_layRow : mM M_X8_layRow = 0 := rfl
theorem mS_X8_layRow : mS M_X8_layRow = 0 := rfl
set_option maxRecDepth 40000 in
theorem tv_X8_layRow : TV M_X8_layRow 2 := ⟨mt7 36 (by rfl) rfl, mt1 8 (by rfl) rfl, ⟨by decide, by decide, by decide +kernel⟩⟩
set_option maxRecDepth 40000 in
theorem ti_X8_layRow : TI M_X8_layRow := mt7 35 (by rfl) rfl
set_option maxRecDepth 40000 in
theorem ts_X8_layRow : TS M_X8_layRow := mtP6 6 (by rfl) rfl
theorem kc_X8_layRow : KC M_X8_layRow 9 := ⟨by decide, by decide, rfl⟩
def M_X8_round : MX := (yX8_round, cX8_round, 6, some (.int), 8, 202, 0, 0)
theorem mM_X8_round : mM M_X8_round = 0 := rfl
theorem mS_X8_round : mS M_X8_round = 0 := rfl
set_option maxRecDepth 40000 in
theorem tv_X8_round : TV M_X8_round 4 := ⟨mt7 21 (by rfl) rfl, mt1 8 (by rfl) rfl, ⟨by decide, by decide, by decide +kernel⟩⟩
set_option maxRecDepth 40000 in
theorem ti_X8_round : TI M_X8_round := mt7 19 (by rfl) rfl
set_option maxRecDepth 40000 in
theorem ts_X8_round : TS M_X8_round := mt7 20 (by rfl) rfl
theorem kc_X8_round : KC M_X8_round 9 := ⟨by decide, by decide, rfl⟩
def M_X8_echo : MX := (yX8_echo, cX8_echo, 7, some (.int), 8, 196, 0, 0)
theorem mM_X8_echo : mM M_X8_echo = 0 := rfl
theorem mS_X8_echo : mS M_X8_echo = 0 := rfl
set_option maxRecDepth 40000 in
theorem tv_X8_echo : TV M_X8_echo 4 := ⟨mt7 40 (by rfl) rfl, mt1 8 (by rfl) rfl, ⟨by decide, by decide, by decide +kernel⟩⟩
set_option maxRecDepth 40000 in
theorem ti_X8_echo : TI M_X8_echo := mt7 38 (by rfl) rfl
set_option maxRecDepth 40000 in
theorem ts_X8_echo : TS M_X8_echo := mt7 39 (by rfl) rfl
theorem kc_X8_echo : KC M_X8_echo 9 := ⟨by decide, by decide, rfl⟩
def M_X8_deeds : MX := (yX8_deeds, cX8_deeds, 1, some (.int), 0, 0, 0, 0)
theorem mM_X8_deeds : mM M_X8_deeds = 0 := rfl
theorem mS_X8_deeds : mS M_X8_deeds = 0 := rfl
set_option maxRecDepth 40000 in
theorem tv_X8_deeds : TV M_X8_deeds 0 := ⟨mt7 48 (by rfl) rfl, mt1 8 (by rfl) rfl, ⟨by decide, by decide, by decide +kernel⟩⟩
set_option maxRecDepth 40000 in
theorem ti_X8_deeds : TI M_X8_deeds := mt7 47 (by rfl) rfl
set_option maxRecDepth 40000 in
theorem ts_X8_deeds : TS M_X8_deeds := mtP6 7 (by rfl) rfl
theorem kc_X8_deeds : KC M_X8_deeds 9 := ⟨by decide, by decide, rfl⟩
def M_X8_deedOf : MX := (yX8_deedOf, cX8_deedOf, 3, some (.int), 0, 0, 0, 0)
theorem mM_X8_deedOf : mM M_X8_deedOf = 0 := rfl
theorem mS_X8_deedOf : mS M_X8_deedOf = 0 := rfl
set_option maxRecDepth 40000 in
theorem tv_X8_deedOf : TV M_X8_deedOf 2 := ⟨mt7 52 (by rfl) rfl, mt1 8 (by rfl) rfl, ⟨by decide, by decide, by decide +kernel⟩⟩
set_option maxRecDepth 40000 in
theorem ti_X8_deedOf : TI M_X8_deedOf := mt7 51 (by rfl) rfl
set_option maxRecDepth 40000 in
theorem ts_X8_deedOf : TS M_X8_deedOf := mtP6 8 (by rfl) rfl
theorem kc_X8_deedOf : KC M_X8_deedOf 9 := ⟨by decide, by decide, rfl⟩
def M_X8_does : MX := (yX8_does, cX8_does, 7, some (.boolean), 3, 69, 0, 0)
theorem mM_X8_does : mM M_X8_does = 0 := rfl
theorem mS_X8_does : mS M_X8_does = 0 := rfl
set_option maxRecDepth 40000 in
theorem tv_X8_does : TV M_X8_does 1 := ⟨mt7 68 (by rfl) rfl, mt1 8 (by rfl) rfl, ⟨by decide, by decide, by decide +kernel⟩⟩
set_option maxRecDepth 40000 in
theorem ti_X8_does : TI M_X8_does := mt7 67 (by rfl) rfl
set_option maxRecDepth 40000 in
theorem ts_X8_does : TS M_X8_does := mtP6 11 (by rfl) rfl
theorem kc_X8_does : KC M_X8_does 9 := ⟨by decide, by decide, rfl⟩
def M_X8_play : MX := (yX8_play, cX8_play, 3, some (.int), 4, 95, 0, 0)
theorem mM_X8_play : mM M_X8_play = 0 := rfl
theorem mS_X8_play : mS M_X8_play = 0 := rfl
set_option maxRecDepth 40000 in
theorem tv_X8_play : TV M_X8_play 1 := ⟨mt7 64 (by rfl) rfl, mt1 8 (by rfl) rfl, ⟨by decide, by decide, by decide +kernel⟩⟩
set_option maxRecDepth 40000 in
theorem ti_X8_play : TI M_X8_play := mt7 63 (by rfl) rfl
set_option maxRecDepth 40000 in
theorem ts_X8_play : TS M_X8_play := mtP6 10 (by rfl) rfl
theorem kc_X8_play : KC M_X8_play 9 := ⟨by decide, by decide, rfl⟩
def M_X8_layTrial : MX := (yX8_layTrial, cX8_layTrial, 3, some (.boolean), 5, 117, 0, 0)
theorem mM_X8_layTrial : mM M_X8_layTrial = 0 := rfl
theorem mS_X8_layTrial : mS M_X8_layTrial = 0 := rfl
set_option maxRecDepth 40000 in
theorem tv_X8_layTrial : TV M_X8_layTrial 2 := ⟨mt7 60 (by rfl) rfl, mt1 8 (by rfl) rfl, ⟨by decide, by decide, by decide +kernel⟩⟩
set_option maxRecDepth 40000 in
theorem ti_X8_layTrial : TI M_X8_layTrial := mt7 59 (by rfl) rfl
set_option maxRecDepth 40000 in
theorem ts_X8_layTrial : TS M_X8_layTrial := mtP6 9 (by rfl) rfl
theorem kc_X8_layTrial : KC M_X8_layTrial 9 := ⟨by decide, by decide, rfl⟩
def M_X8_layState : MX := (yX8_layState, cX8_layState, 4, some (.boolean), 6, 139, 0, 0)
theorem mM_X8_layState : mM M_X8_layState = 0 := rfl
theorem mS_X8_layState : mS M_X8_layState = 0 := rfl
set_option maxRecDepth 40000 in
theorem tv_X8_layState : TV M_X8_layState 3 := ⟨mt7 76 (by rfl) rfl, mt1 8 (by rfl) rfl, ⟨by decide, by decide, by decide +kernel⟩⟩
set_option maxRecDepth 40000 in
theorem ti_X8_layState : TI M_X8_layState := mt7 75 (by rfl) rfl
set_option maxRecDepth 40000 in
theorem ts_X8_layState : TS M_X8_layState := mtP6 12 (by rfl) rfl
theorem kc_X8_layState : KC M_X8_layState 9 := ⟨by decide, by decide, rfl⟩
def M_X8_deed : MX := (yX8_deed, cX8_deed, 4, some (.int), 2, 44, 0, 0)
theorem mM_X8_deed : mM M_X8_deed = 0 := rfl
theorem mS_X8_deed : mS M_X8_deed = 0 := rfl
set_option maxRecDepth 40000 in
theorem tv_X8_deed : TV M_X8_deed 3 := ⟨mt7 44 (by rfl) rfl, mt1 8 (by rfl) rfl, ⟨by decide, by decide, by decide +kernel⟩⟩
set_option maxRecDepth 40000 in
theorem ti_X8_deed : TI M_X8_deed := mt7 42 (by rfl) rfl
set_option maxRecDepth 40000 in
theorem ts_X8_deed : TS M_X8_deed := mt7 43 (by rfl) rfl
theorem kc_X8_deed : KC M_X8_deed 9 := ⟨by decide, by decide, rfl⟩
def M_X8_stop : MX := (yX8_stop, cX8_stop, 3, some (.int), 6, 139, 0, 0)
theorem mM_X8_stop : mM M_X8_stop = 0 := rfl
theorem mS_X8_stop : mS M_X8_stop = 0 := rfl
set_option maxRecDepth 40000 in
theorem tv_X8_stop : TV M_X8_stop 2 := ⟨mt7 56 (by rfl) rfl, mt1 8 (by rfl) rfl, ⟨by decide, by decide, by decide +kernel⟩⟩
set_option maxRecDepth 40000 in
theorem ti_X8_stop : TI M_X8_stop := mt7 54 (by rfl) rfl
set_option maxRecDepth 40000 in
theorem ts_X8_stop : TS M_X8_stop := mt7 55 (by rfl) rfl
theorem kc_X8_stop : KC M_X8_stop 9 := ⟨by decide, by decide, rfl⟩
def M_X8_stands : MX := (yX8_stands, cX8_stands, 6, some (.int), 7, 162, 0, 0)
theorem mM_X8_stands : mM M_X8_stands = 0 := rfl
theorem mS_X8_stands : mS M_X8_stands = 0 := rfl
set_option maxRecDepth 40000 in
theorem tv_X8_stands : TV M_X8_stands 5 := ⟨mt7 72 (by rfl) rfl, mt1 8 (by rfl) rfl, ⟨by decide, by decide, by decide +kernel⟩⟩
set_option maxRecDepth 40000 in
theorem ti_X8_stands : TI M_X8_stands := mt7 70 (by rfl) rfl
set_option maxRecDepth 40000 in
theorem ts_X8_stands : TS M_X8_stands := mt7 71 (by rfl) rfl
theorem kc_X8_stands : KC M_X8_stands 9 := ⟨by decide, by decide, rfl⟩
def M_X8_hearsDeed : MX := (yX8_hearsDeed, cX8_hearsDeed, 6, some (.boolean), 5, 123, 0, 0)
theorem mM_X8_hearsDeed : mM M_X8_hearsDeed = 0 := rfl
theorem mS_X8_hearsDeed : mS M_X8_hearsDeed = 0 := rfl
set_option maxRecDepth 40000 in
theorem tv_X8_hearsDeed : TV M_X8_hearsDeed 5 := ⟨mt7 100 (by rfl) rfl, mt1 8 (by rfl) rfl, ⟨by decide, by decide, by decide +kernel⟩⟩
set_option maxRecDepth 40000 in
theorem ti_X8_hearsDeed : TI M_X8_hearsDeed := mt7 99 (by rfl) rfl
set_option maxRecDepth 40000 in
theorem ts_X8_hearsDeed : TS M_X8_hearsDeed := mtP7 1 (by rfl) rfl
theorem kc_X8_hearsDeed : KC M_X8_hearsDeed 9 := ⟨by decide, by decide, rfl⟩
def M_X8_knownFrom : MX := (yX8_knownFrom, cX8_knownFrom, 8, some (.int), 6, 148, 0, 0)
theorem mM_X8_knownFrom : mM M_X8_knownFrom = 0 := rfl
theorem mS_X8_knownFrom : mS M_X8_knownFrom = 0 := rfl
set_option maxRecDepth 40000 in
theorem tv_X8_knownFrom : TV M_X8_knownFrom 5 := ⟨mt7 96 (by rfl) rfl, mt1 8 (by rfl) rfl, ⟨by decide, by decide, by decide +kernel⟩⟩
set_option maxRecDepth 40000 in
theorem ti_X8_knownFrom : TI M_X8_knownFrom := mt7 95 (by rfl) rfl
set_option maxRecDepth 40000 in
theorem ts_X8_knownFrom : TS M_X8_knownFrom := mtP7 0 (by rfl) rfl
theorem kc_X8_knownFrom : KC M_X8_knownFrom 9 := ⟨by decide, by decide, rfl⟩
def M_X8_knownIn : MX := (yX8_knownIn, cX8_knownIn, 4, some (.int), 7, 175, 0, 0)
theorem mM_X8_knownIn : mM M_X8_knownIn = 0 := rfl
theorem mS_X8_knownIn : mS M_X8_knownIn = 0 := rfl
set_option maxRecDepth 40000 in
theorem tv_X8_knownIn : TV M_X8_knownIn 3 := ⟨mt7 92 (by rfl) rfl, mt1 8 (by rfl) rfl, ⟨by decide, by decide, by decide +kernel⟩⟩
set_option maxRecDepth 40000 in
theorem ti_X8_knownIn : TI M_X8_knownIn := mt7 91 (by rfl) rfl
set_option maxRecDepth 40000 in
theorem ts_X8_knownIn : TS M_X8_knownIn := mtP6 15 (by rfl) rfl
theorem kc_X8_knownIn : KC M_X8_knownIn 9 := ⟨by decide, by decide, rfl⟩
def M_X8_known : MX := (yX8_known, cX8_known, 2, some (.int), 8, 198, 0, 0)
theorem mM_X8_known : mM M_X8_known = 0 := rfl
theorem mS_X8_known : mS M_X8_known = 0 := rfl
set_option maxRecDepth 40000 in
theorem tv_X8_known : TV M_X8_known 1 := ⟨mt7 88 (by rfl) rfl, mt1 8 (by rfl) rfl, ⟨by decide, by decide, by decide +kernel⟩⟩
set_option maxRecDepth 40000 in
theorem ti_X8_known : TI M_X8_known := mt7 87 (by rfl) rfl
set_option maxRecDepth 40000 in
theorem ts_X8_known : TS M_X8_known := mtP6 14 (by rfl) rfl
theorem kc_X8_known : KC M_X8_known 9 := ⟨by decide, by decide, rfl⟩
def M_X8_common : MX := (yX8_common, cX8_common, 3, some (.int), 9, 219, 0, 0)
theorem mM_X8_common : mM M_X8_common = 0 := rfl
theorem mS_X8_common : mS M_X8_common = 0 := rfl
set_option maxRecDepth 40000 in
theorem tv_X8_common : TV M_X8_common 0 := ⟨mt7 84 (by rfl) rfl, mt1 8 (by rfl) rfl, ⟨by decide, by decide, by decide +kernel⟩⟩
set_option maxRecDepth 40000 in
theorem ti_X8_common : TI M_X8_common := mt7 83 (by rfl) rfl
set_option maxRecDepth 40000 in
theorem ts_X8_common : TS M_X8_common := mtP6 13 (by rfl) rfl
theorem kc_X8_common : KC M_X8_common 9 := ⟨by decide, by decide, rfl⟩
def M_X8_lost : MX := (yX8_lost, cX8_lost, 3, some (.int), 9, 219, 0, 0)
theorem mM_X8_lost : mM M_X8_lost = 0 := rfl
theorem mS_X8_lost : mS M_X8_lost = 0 := rfl
set_option maxRecDepth 40000 in
theorem tv_X8_lost : TV M_X8_lost 0 := ⟨mt7 104 (by rfl) rfl, mt1 8 (by rfl) rfl, ⟨by decide, by decide, by decide +kernel⟩⟩
set_option maxRecDepth 40000 in
theorem ti_X8_lost : TI M_X8_lost := mt7 103 (by rfl) rfl
set_option maxRecDepth 40000 in
theorem ts_X8_lost : TS M_X8_lost := mtP7 2 (by rfl) rfl
theorem kc_X8_lost : KC M_X8_lost 9 := ⟨by decide, by decide, rfl⟩
def M_X8_knows : MX := (yX8_knows, cX8_knows, 5, some (.int), 10, 241, 0, 0)
theorem mM_X8_knows : mM M_X8_knows = 0 := rfl
theorem mS_X8_knows : mS M_X8_knows = 0 := rfl
set_option maxRecDepth 40000 in
theorem tv_X8_knows : TV M_X8_knows 4 := ⟨mt7 80 (by rfl) rfl, mt1 8 (by rfl) rfl, ⟨by decide, by decide, by decide +kernel⟩⟩
set_option maxRecDepth 40000 in
theorem ti_X8_knows : TI M_X8_knows := mt7 78 (by rfl) rfl
set_option maxRecDepth 40000 in
theorem ts_X8_knows : TS M_X8_knows := mt7 79 (by rfl) rfl
theorem kc_X8_knows : KC M_X8_knows 9 := ⟨by decide, by decide, rfl⟩
def M_X8_heard : MX := (yX8_heard, cX8_heard, 6, some (.int), 6, 148, 0, 0)
theorem mM_X8_heard : mM M_X8_heard = 0 := rfl
theorem mS_X8_heard : mS M_X8_heard = 0 := rfl
set_option maxRecDepth 40000 in
theorem tv_X8_heard : TV M_X8_heard 3 := ⟨mt7 108 (by rfl) rfl, mt1 8 (by rfl) rfl, ⟨by decide, by decide, by decide +kernel⟩⟩
set_option maxRecDepth 40000 in
theorem ti_X8_heard : TI M_X8_heard := mt7 106 (by rfl) rfl
set_option maxRecDepth 40000 in
theorem ts_X8_heard : TS M_X8_heard := mt7 107 (by rfl) rfl
theorem kc_X8_heard : KC M_X8_heard 9 := ⟨by decide, by decide, rfl⟩
def M_X8_rules : MX := (yX8_rules, cX8_rules, 1, some (.int), 0, 0, 0, 0)
theorem mM_X8_rules : mM M_X8_rules = 0 := rfl
theorem mS_X8_rules : mS M_X8_rules = 0 := rfl
set_option maxRecDepth 40000 in
theorem tv_X8_rules : TV M_X8_rules 0 := ⟨mt7 120 (by rfl) rfl, mt1 8 (by rfl) rfl, ⟨by decide, by decide, by decide +kernel⟩⟩
set_option maxRecDepth 40000 in
theorem ti_X8_rules : TI M_X8_rules := mt7 119 (by rfl) rfl
set_option maxRecDepth 40000 in
theorem ts_X8_rules : TS M_X8_rules := mtP7 4 (by rfl) rfl
theorem kc_X8_rules : KC M_X8_rules 9 := ⟨by decide, by decide, rfl⟩
def M_X8_ruleOf : MX := (yX8_ruleOf, cX8_ruleOf, 3, some (.int), 0, 0, 0, 0)
theorem mM_X8_ruleOf : mM M_X8_ruleOf = 0 := rfl
theorem mS_X8_ruleOf : mS M_X8_ruleOf = 0 := rfl
set_option maxRecDepth 40000 in
theorem tv_X8_ruleOf : TV M_X8_ruleOf 2 := ⟨mt7 124 (by rfl) rfl, mt1 8 (by rfl) rfl, ⟨by decide, by decide, by decide +kernel⟩⟩
set_option maxRecDepth 40000 in
theorem ti_X8_ruleOf : TI M_X8_ruleOf := mt7 123 (by rfl) rfl
set_option maxRecDepth 40000 in
theorem ts_X8_ruleOf : TS M_X8_ruleOf := mtP7 5 (by rfl) rfl
theorem kc_X8_ruleOf : KC M_X8_ruleOf 9 := ⟨by decide, by decide, rfl⟩
def M_X8_hasLaw : MX := (yX8_hasLaw, cX8_hasLaw, 2, some (.boolean), 2, 44, 0, 0)
theorem mM_X8_hasLaw : mM M_X8_hasLaw = 0 := rfl
theorem mS_X8_hasLaw : mS M_X8_hasLaw = 0 := rfl
set_option maxRecDepth 40000 in
theorem tv_X8_hasLaw : TV M_X8_hasLaw 1 := ⟨mt7 116 (by rfl) rfl, mt1 8 (by rfl) rfl, ⟨by decide, by decide, by decide +kernel⟩⟩
set_option maxRecDepth 40000 in
theorem ti_X8_hasLaw : TI M_X8_hasLaw := mt7 115 (by rfl) rfl
set_option maxRecDepth 40000 in
theorem ts_X8_hasLaw : TS M_X8_hasLaw := mtP7 3 (by rfl) rfl
theorem kc_X8_hasLaw : KC M_X8_hasLaw 9 := ⟨by decide, by decide, rfl⟩
def M_X8_rule : MX := (yX8_rule, cX8_rule, 4, some (.int), 3, 65, 0, 0)
theorem mM_X8_rule : mM M_X8_rule = 0 := rfl
theorem mS_X8_rule : mS M_X8_rule = 0 := rfl
set_option maxRecDepth 40000 in
theorem tv_X8_rule : TV M_X8_rule 3 := ⟨mt7 112 (by rfl) rfl, mt1 8 (by rfl) rfl, ⟨by decide, by decide, by decide +kernel⟩⟩
set_option maxRecDepth 40000 in
theorem ti_X8_rule : TI M_X8_rule := mt7 110 (by rfl) rfl
set_option maxRecDepth 40000 in
theorem ts_X8_rule : TS M_X8_rule := mt7 111 (by rfl) rfl
theorem kc_X8_rule : KC M_X8_rule 9 := ⟨by decide, by decide, rfl⟩
def M_X8_voteBy : MX := (yX8_voteBy, cX8_voteBy, 3, some (.int), 2, 45, 0, 0)
theorem mM_X8_voteBy : mM M_X8_voteBy = 0 := rfl
theorem mS_X8_voteBy : mS M_X8_voteBy = 0 := rfl
set_option maxRecDepth 40000 in
theorem tv_X8_voteBy : TV M_X8_voteBy 1 := ⟨mt7 140 (by rfl) rfl, mt1 8 (by rfl) rfl, ⟨by decide, by decide, by decide +kernel⟩⟩
set_option maxRecDepth 40000 in
theorem ti_X8_voteBy : TI M_X8_voteBy := mt7 139 (by rfl) rfl
set_option maxRecDepth 40000 in
theorem ts_X8_voteBy : TS M_X8_voteBy := mtP7 8 (by rfl) rfl
theorem kc_X8_voteBy : KC M_X8_voteBy 9 := ⟨by decide, by decide, rfl⟩
def M_X8_findVotes : MX := (yX8_findVotes, cX8_findVotes, 2, none, 9, 219, 0, 0)
theorem mM_X8_findVotes : mM M_X8_findVotes = 0 := rfl
theorem mS_X8_findVotes : mS M_X8_findVotes = 0 := rfl
set_option maxRecDepth 40000 in
theorem tv_X8_findVotes : TV M_X8_findVotes 0 := ⟨mt7 136 (by rfl) rfl, mt1 8 (by rfl) rfl, ⟨by decide, by decide, by decide +kernel⟩⟩
set_option maxRecDepth 40000 in
theorem ti_X8_findVotes : TI M_X8_findVotes := mt7 135 (by rfl) rfl
set_option maxRecDepth 40000 in
theorem ts_X8_findVotes : TS M_X8_findVotes := mtP7 7 (by rfl) rfl
theorem kc_X8_findVotes : KC M_X8_findVotes 9 := ⟨by decide, by decide, rfl⟩
def M_X8_verdict : MX := (yX8_verdict, cX8_verdict, 3, some (.int), 0, 0, 0, 0)
theorem mM_X8_verdict : mM M_X8_verdict = 0 := rfl
theorem mS_X8_verdict : mS M_X8_verdict = 0 := rfl
set_option maxRecDepth 40000 in
theorem tv_X8_verdict : TV M_X8_verdict 0 := ⟨mt7 148 (by rfl) rfl, mt1 8 (by rfl) rfl, ⟨by decide, by decide, by decide +kernel⟩⟩
set_option maxRecDepth 40000 in
theorem ti_X8_verdict : TI M_X8_verdict := mt7 147 (by rfl) rfl
set_option maxRecDepth 40000 in
theorem ts_X8_verdict : TS M_X8_verdict := mtP7 10 (by rfl) rfl
theorem kc_X8_verdict : KC M_X8_verdict 9 := ⟨by decide, by decide, rfl⟩
def M_X8_layVotes : MX := (yX8_layVotes, cX8_layVotes, 4, some (.boolean), 10, 240, 0, 0)
theorem mM_X8_layVotes : mM M_X8_layVotes = 0 := rfl
theorem mS_X8_layVotes : mS M_X8_layVotes = 0 := rfl
set_option maxRecDepth 40000 in
theorem tv_X8_layVotes : TV M_X8_layVotes 3 := ⟨mt7 132 (by rfl) rfl, mt1 8 (by rfl) rfl, ⟨by decide, by decide, by decide +kernel⟩⟩
set_option maxRecDepth 40000 in
theorem ti_X8_layVotes : TI M_X8_layVotes := mt7 131 (by rfl) rfl
set_option maxRecDepth 40000 in
theorem ts_X8_layVotes : TS M_X8_layVotes := mtP7 6 (by rfl) rfl
theorem kc_X8_layVotes : KC M_X8_layVotes 9 := ⟨by decide, by decide, rfl⟩
def M_X8_votes : MX := (yX8_votes, cX8_votes, 5, some (.int), 11, 263, 0, 0)
theorem mM_X8_votes : mM M_X8_votes = 0 := rfl
theorem mS_X8_votes : mS M_X8_votes = 0 := rfl
set_option maxRecDepth 40000 in
theorem tv_X8_votes : TV M_X8_votes 4 := ⟨mt7 128 (by rfl) rfl, mt1 8 (by rfl) rfl, ⟨by decide, by decide, by decide +kernel⟩⟩
set_option maxRecDepth 40000 in
theorem ti_X8_votes : TI M_X8_votes := mt7 126 (by rfl) rfl
set_option maxRecDepth 40000 in
theorem ts_X8_votes : TS M_X8_votes := mt7 127 (by rfl) rfl
theorem kc_X8_votes : KC M_X8_votes 9 := ⟨by decide, by decide, rfl⟩
def M_X8_otherEars : MX := (yX8_otherEars, cX8_otherEars, 2, some (.int), 2, 43, 0, 0)
theorem mM_X8_otherEars : mM M_X8_otherEars = 0 := rfl
theorem mS_X8_otherEars : mS M_X8_otherEars = 0 := rfl
set_option maxRecDepth 40000 in
theorem tv_X8_otherEars : TV M_X8_otherEars 1 := ⟨mt7 156 (by rfl) rfl, mt1 8 (by rfl) rfl, ⟨by decide, by decide, by decide +kernel⟩⟩
set_option maxRecDepth 40000 in
theorem ti_X8_otherEars : TI M_X8_otherEars := mt7 155 (by rfl) rfl
set_option maxRecDepth 40000 in
theorem ts_X8_otherEars : TS M_X8_otherEars := mtP7 11 (by rfl) rfl
theorem kc_X8_otherEars : KC M_X8_otherEars 9 := ⟨by decide, by decide, rfl⟩
def M_X8_sway : MX := (yX8_sway, cX8_sway, 9, some (.int), 11, 263, 0, 0)
theorem mM_X8_sway : mM M_X8_sway = 0 := rfl
theorem mS_X8_sway : mS M_X8_sway = 0 := rfl
set_option maxRecDepth 40000 in
theorem tv_X8_sway : TV M_X8_sway 4 := ⟨mt7 152 (by rfl) rfl, mt1 8 (by rfl) rfl, ⟨by decide, by decide, by decide +kernel⟩⟩
set_option maxRecDepth 40000 in
theorem ti_X8_sway : TI M_X8_sway := mt7 150 (by rfl) rfl
set_option maxRecDepth 40000 in
theorem ts_X8_sway : TS M_X8_sway := mt7 151 (by rfl) rfl
theorem kc_X8_sway : KC M_X8_sway 9 := ⟨by decide, by decide, rfl⟩
def M_X8_soldBy : MX := (yX8_soldBy, cX8_soldBy, 3, some (.int), 9, 219, 0, 0)
theorem mM_X8_soldBy : mM M_X8_soldBy = 0 := rfl
theorem mS_X8_soldBy : mS M_X8_soldBy = 0 := rfl
set_option maxRecDepth 40000 in
theorem tv_X8_soldBy : TV M_X8_soldBy 2 := ⟨mt7 168 (by rfl) rfl, mt1 8 (by rfl) rfl, ⟨by decide, by decide, by decide +kernel⟩⟩
set_option maxRecDepth 40000 in
theorem ti_X8_soldBy : TI M_X8_soldBy := mt7 167 (by rfl) rfl
set_option maxRecDepth 40000 in
theorem ts_X8_soldBy : TS M_X8_soldBy := mtP7 13 (by rfl) rfl
theorem kc_X8_soldBy : KC M_X8_soldBy 9 := ⟨by decide, by decide, rfl⟩
def M_X8_dearest : MX := (yX8_dearest, cX8_dearest, 5, some (.int), 10, 241, 0, 0)
theorem mM_X8_dearest : mM M_X8_dearest = 0 := rfl
theorem mS_X8_dearest : mS M_X8_dearest = 0 := rfl
set_option maxRecDepth 40000 in
theorem tv_X8_dearest : TV M_X8_dearest 0 := ⟨mt7 164 (by rfl) rfl, mt1 8 (by rfl) rfl, ⟨by decide, by decide, by decide +kernel⟩⟩
set_option maxRecDepth 40000 in
theorem ti_X8_dearest : TI M_X8_dearest := mt7 163 (by rfl) rfl
set_option maxRecDepth 40000 in
theorem ts_X8_dearest : TS M_X8_dearest := mtP7 12 (by rfl) rfl
theorem kc_X8_dearest : KC M_X8_dearest 9 := ⟨by decide, by decide, rfl⟩
def M_X8_sold : MX := (yX8_sold, cX8_sold, 5, some (.int), 11, 265, 0, 0)
theorem mM_X8_sold : mM M_X8_sold = 0 := rfl
theorem mS_X8_sold : mS M_X8_sold = 0 := rfl
set_option maxRecDepth 40000 in
theorem tv_X8_sold : TV M_X8_sold 4 := ⟨mt7 160 (by rfl) rfl, mt1 8 (by rfl) rfl, ⟨by decide, by decide, by decide +kernel⟩⟩
set_option maxRecDepth 40000 in
theorem ti_X8_sold : TI M_X8_sold := mt7 158 (by rfl) rfl
set_option maxRecDepth 40000 in
theorem ts_X8_sold : TS M_X8_sold := mt7 159 (by rfl) rfl
theorem kc_X8_sold : KC M_X8_sold 9 := ⟨by decide, by decide, rfl⟩
def M_X8_nextSeats : MX := (yX8_nextSeats, cX8_nextSeats, 5, some (.boolean), 1, 23, 0, 0)
theorem mM_X8_nextSeats : mM M_X8_nextSeats = 0 := rfl
theorem mS_X8_nextSeats : mS M_X8_nextSeats = 0 := rfl
set_option maxRecDepth 40000 in
theorem tv_X8_nextSeats : TV M_X8_nextSeats 0 := ⟨mt7 180 (by rfl) rfl, mt1 8 (by rfl) rfl, ⟨by decide, by decide, by decide +kernel⟩⟩
set_option maxRecDepth 40000 in
theorem ti_X8_nextSeats : TI M_X8_nextSeats := mt7 179 (by rfl) rfl
set_option maxRecDepth 40000 in
theorem ts_X8_nextSeats : TS M_X8_nextSeats := mtP7 15 (by rfl) rfl
theorem kc_X8_nextSeats : KC M_X8_nextSeats 9 := ⟨by decide, by decide, rfl⟩
def M_X8_swap : MX := (yX8_swap, cX8_swap, 4, none, 0, 0, 0, 0)
theorem mM_X8_swap : mM M_X8_swap = 0 := rfl
theorem mS_X8_swap : mS M_X8_swap = 0 := rfl
set_option maxRecDepth 40000 in
theorem tv_X8_swap : TV M_X8_swap 2 := ⟨mt7 184 (by rfl) rfl, mt1 8 (by rfl) rfl, ⟨by decide, by decide, by decide +kernel⟩⟩
set_option maxRecDepth 40000 in
theorem ti_X8_swap : TI M_X8_swap := mt7 183 (by rfl) rfl
set_option maxRecDepth 40000 in
theorem ts_X8_swap : TS M_X8_swap := mtP8 0 (by rfl) rfl
theorem kc_X8_swap : KC M_X8_swap 9 := ⟨by decide, by decide, rfl⟩
def M_X8_findSeats : MX := (yX8_findSeats, cX8_findSeats, 5, some (.int), 8, 198, 0, 0)
theorem mM_X8_findSeats : mM M_X8_findSeats = 0 := rfl
theorem mS_X8_findSeats : mS M_X8_findSeats = 0 := rfl
set_option maxRecDepth 40000 in
theorem tv_X8_findSeats : TV M_X8_findSeats 0 := ⟨mt7 176 (by rfl) rfl, mt1 8 (by rfl) rfl, ⟨by decide, by decide, by decide +kernel⟩⟩
set_option maxRecDepth 40000 in
theorem ti_X8_findSeats : TI M_X8_findSeats := mt7 175 (by rfl) rfl
set_option maxRecDepth 40000 in
theorem ts_X8_findSeats : TS M_X8_findSeats := mtP7 14 (by rfl) rfl
theorem kc_X8_findSeats : KC M_X8_findSeats 9 := ⟨by decide, by decide, rfl⟩
def M_X8_seats : MX := (yX8_seats, cX8_seats, 5, some (.int), 9, 222, 0, 0)
theorem mM_X8_seats : mM M_X8_seats = 0 := rfl
theorem mS_X8_seats : mS M_X8_seats = 0 := rfl
set_option maxRecDepth 40000 in
theorem tv_X8_seats : TV M_X8_seats 3 := ⟨mt7 172 (by rfl) rfl, mt1 8 (by rfl) rfl, ⟨by decide, by decide, by decide +kernel⟩⟩
set_option maxRecDepth 40000 in
theorem ti_X8_seats : TI M_X8_seats := mt7 170 (by rfl) rfl
set_option maxRecDepth 40000 in
theorem ts_X8_seats : TS M_X8_seats := mt7 171 (by rfl) rfl
theorem kc_X8_seats : KC M_X8_seats 9 := ⟨by decide, by decide, rfl⟩
def M_X8_claims : MX := (yX8_claims, cX8_claims, 1, some (.int), 0, 0, 0, 0)
theorem mM_X8_claims : mM M_X8_claims = 0 := rfl
theorem mS_X8_claims : mS M_X8_claims = 0 := rfl
set_option maxRecDepth 40000 in
theorem tv_X8_claims : TV M_X8_claims 0 := ⟨mt7 196 (by rfl) rfl, mt1 8 (by rfl) rfl, ⟨by decide, by decide, by decide +kernel⟩⟩
set_option maxRecDepth 40000 in
theorem ti_X8_claims : TI M_X8_claims := mt7 195 (by rfl) rfl
set_option maxRecDepth 40000 in
theorem ts_X8_claims : TS M_X8_claims := mtP8 2 (by rfl) rfl
theorem kc_X8_claims : KC M_X8_claims 9 := ⟨by decide, by decide, rfl⟩
def M_X8_claimOf : MX := (yX8_claimOf, cX8_claimOf, 3, some (.int), 0, 0, 0, 0)
theorem mM_X8_claimOf : mM M_X8_claimOf = 0 := rfl
theorem mS_X8_claimOf : mS M_X8_claimOf = 0 := rfl
set_option maxRecDepth 40000 in
theorem tv_X8_claimOf : TV M_X8_claimOf 2 := ⟨mt7 200 (by rfl) rfl, mt1 8 (by rfl) rfl, ⟨by decide, by decide, by decide +kernel⟩⟩
set_option maxRecDepth 40000 in
theorem ti_X8_claimOf : TI M_X8_claimOf := mt7 199 (by rfl) rfl
set_option maxRecDepth 40000 in
theorem ts_X8_claimOf : TS M_X8_claimOf := mtP8 3 (by rfl) rfl
theorem kc_X8_claimOf : KC M_X8_claimOf 9 := ⟨by decide, by decide, rfl⟩
def M_X8_hasRoll : MX := (yX8_hasRoll, cX8_hasRoll, 2, some (.boolean), 2, 44, 0, 0)
theorem mM_X8_hasRoll : mM M_X8_hasRoll = 0 := rfl
theorem mS_X8_hasRoll : mS M_X8_hasRoll = 0 := rfl
set_option maxRecDepth 40000 in
theorem tv_X8_hasRoll : TV M_X8_hasRoll 1 := ⟨mt7 192 (by rfl) rfl, mt1 8 (by rfl) rfl, ⟨by decide, by decide, by decide +kernel⟩⟩
set_option maxRecDepth 40000 in
theorem ti_X8_hasRoll : TI M_X8_hasRoll := mt7 191 (by rfl) rfl
set_option maxRecDepth 40000 in
theorem ts_X8_hasRoll : TS M_X8_hasRoll := mtP8 1 (by rfl) rfl
theorem kc_X8_hasRoll : KC M_X8_hasRoll 9 := ⟨by decide, by decide, rfl⟩
def M_X8_claim : MX := (yX8_claim, cX8_claim, 4, some (.int), 3, 65, 0, 0)
theorem mM_X8_claim : mM M_X8_claim = 0 := rfl
theorem mS_X8_claim : mS M_X8_claim = 0 := rfl
set_option maxRecDepth 40000 in
theorem tv_X8_claim : TV M_X8_claim 3 := ⟨mt7 188 (by rfl) rfl, mt1 8 (by rfl) rfl, ⟨by decide, by decide, by decide +kernel⟩⟩
set_option maxRecDepth 40000 in
theorem ti_X8_claim : TI M_X8_claim := mt7 186 (by rfl) rfl
set_option maxRecDepth 40000 in
theorem ts_X8_claim : TS M_X8_claim := mt7 187 (by rfl) rfl
theorem kc_X8_claim : KC M_X8_claim 9 := ⟨by decide, by decide, rfl⟩
def M_X8_sees : MX := (yX8_sees, cX8_sees, 5, some (.boolean), 3, 69, 0, 0)
theorem mM_X8_sees : mM M_X8_sees = 0 := rfl
theorem mS_X8_sees : mS M_X8_sees = 0 := rfl
set_option maxRecDepth 40000 in
theorem tv_X8_sees : TV M_X8_sees 3 := ⟨mt7 220 (by rfl) rfl, mt1 8 (by rfl) rfl, ⟨by decide, by decide, by decide +kernel⟩⟩
set_option maxRecDepth 40000 in
theorem ti_X8_sees : TI M_X8_sees := mt7 219 (by rfl) rfl
set_option maxRecDepth 40000 in
theorem ts_X8_sees : TS M_X8_sees := mtP8 7 (by rfl) rfl
theorem kc_X8_sees : KC M_X8_sees 9 := ⟨by decide, by decide, rfl⟩
def M_X8_couldSee : MX := (yX8_couldSee, cX8_couldSee, 5, some (.boolean), 4, 93, 0, 0)
theorem mM_X8_couldSee : mM M_X8_couldSee = 0 := rfl
theorem mS_X8_couldSee : mS M_X8_couldSee = 0 := rfl
set_option maxRecDepth 40000 in
theorem tv_X8_couldSee : TV M_X8_couldSee 2 := ⟨mt7 216 (by rfl) rfl, mt1 8 (by rfl) rfl, ⟨by decide, by decide, by decide +kernel⟩⟩
set_option maxRecDepth 40000 in
theorem ti_X8_couldSee : TI M_X8_couldSee := mt7 215 (by rfl) rfl
set_option maxRecDepth 40000 in
theorem ts_X8_couldSee : TS M_X8_couldSee := mtP8 6 (by rfl) rfl
theorem kc_X8_couldSee : KC M_X8_couldSee 9 := ⟨by decide, by decide, rfl⟩
def M_X8_liars : MX := (yX8_liars, cX8_liars, 4, some (.int), 9, 219, 0, 0)
theorem mM_X8_liars : mM M_X8_liars = 0 := rfl
theorem mS_X8_liars : mS M_X8_liars = 0 := rfl
set_option maxRecDepth 40000 in
theorem tv_X8_liars : TV M_X8_liars 0 := ⟨mt7 208 (by rfl) rfl, mt1 8 (by rfl) rfl, ⟨by decide, by decide, by decide +kernel⟩⟩
set_option maxRecDepth 40000 in
theorem ti_X8_liars : TI M_X8_liars := mt7 207 (by rfl) rfl
set_option maxRecDepth 40000 in
theorem ts_X8_liars : TS M_X8_liars := mtP8 4 (by rfl) rfl
theorem kc_X8_liars : KC M_X8_liars 9 := ⟨by decide, by decide, rfl⟩
def M_X8_lipsOf : MX := (yX8_lipsOf, cX8_lipsOf, 5, some (.int), 5, 117, 0, 0)
theorem mM_X8_lipsOf : mM M_X8_lipsOf = 0 := rfl
theorem mS_X8_lipsOf : mS M_X8_lipsOf = 0 := rfl
set_option maxRecDepth 40000 in
theorem tv_X8_lipsOf : TV M_X8_lipsOf 1 := ⟨mt7 212 (by rfl) rfl, mt1 8 (by rfl) rfl, ⟨by decide, by decide, by decide +kernel⟩⟩
set_option maxRecDepth 40000 in
theorem ti_X8_lipsOf : TI M_X8_lipsOf := mt7 211 (by rfl) rfl
set_option maxRecDepth 40000 in
theorem ts_X8_lipsOf : TS M_X8_lipsOf := mtP8 5 (by rfl) rfl
theorem kc_X8_lipsOf : KC M_X8_lipsOf 9 := ⟨by decide, by decide, rfl⟩
def M_X8_reader : MX := (yX8_reader, cX8_reader, 7, some (.int), 1, 22, 0, 0)
theorem mM_X8_reader : mM M_X8_reader = 0 := rfl
theorem mS_X8_reader : mS M_X8_reader = 0 := rfl
set_option maxRecDepth 40000 in
theorem tv_X8_reader : TV M_X8_reader 1 := ⟨mt7 224 (by rfl) rfl, mt1 8 (by rfl) rfl, ⟨by decide, by decide, by decide +kernel⟩⟩
set_option maxRecDepth 40000 in
theorem ti_X8_reader : TI M_X8_reader := mt7 223 (by rfl) rfl
set_option maxRecDepth 40000 in
theorem ts_X8_reader : TS M_X8_reader := mtP8 8 (by rfl) rfl
theorem kc_X8_reader : KC M_X8_reader 9 := ⟨by decide, by decide, rfl⟩
def M_X8_lips : MX := (yX8_lips, cX8_lips, 7, some (.int), 10, 242, 0, 0)
theorem mM_X8_lips : mM M_X8_lips = 0 := rfl
theorem mS_X8_lips : mS M_X8_lips = 0 := rfl
set_option maxRecDepth 40000 in
theorem tv_X8_lips : TV M_X8_lips 4 := ⟨mt7 204 (by rfl) rfl, mt1 8 (by rfl) rfl, ⟨by decide, by decide, by decide +kernel⟩⟩
set_option maxRecDepth 40000 in
theorem ti_X8_lips : TI M_X8_lips := mt7 202 (by rfl) rfl
set_option maxRecDepth 40000 in
theorem ts_X8_lips : TS M_X8_lips := mt7 203 (by rfl) rfl
theorem kc_X8_lips : KC M_X8_lips 9 := ⟨by decide, by decide, rfl⟩
def M_X8_draw : MX := (yX8_draw, cX8_draw, 2, some (.int), 0, 0, 0, 0)
theorem mM_X8_draw : mM M_X8_draw = 0 := rfl
theorem mS_X8_draw : mS M_X8_draw = 0 := rfl
set_option maxRecDepth 40000 in
theorem tv_X8_draw : TV M_X8_draw 1 := ⟨mt7 232 (by rfl) rfl, mt1 8 (by rfl) rfl, ⟨by decide, by decide, by decide +kernel⟩⟩
set_option maxRecDepth 40000 in
theorem ti_X8_draw : TI M_X8_draw := mt7 231 (by rfl) rfl
set_option maxRecDepth 40000 in
theorem ts_X8_draw : TS M_X8_draw := mtP8 9 (by rfl) rfl
theorem kc_X8_draw : KC M_X8_draw 9 := ⟨by decide, by decide, rfl⟩
def M_X8_drawn : MX := (yX8_drawn, cX8_drawn, 9, some (.int), 9, 219, 0, 0)
theorem mM_X8_drawn : mM M_X8_drawn = 0 := rfl
theorem mS_X8_drawn : mS M_X8_drawn = 0 := rfl
set_option maxRecDepth 40000 in
theorem tv_X8_drawn : TV M_X8_drawn 5 := ⟨mt7 228 (by rfl) rfl, mt1 8 (by rfl) rfl, ⟨by decide, by decide, by decide +kernel⟩⟩
set_option maxRecDepth 40000 in
theorem ti_X8_drawn : TI M_X8_drawn := mt7 226 (by rfl) rfl
set_option maxRecDepth 40000 in
theorem ts_X8_drawn : TS M_X8_drawn := mt7 227 (by rfl) rfl
theorem kc_X8_drawn : KC M_X8_drawn 9 := ⟨by decide, by decide, rfl⟩
def M_X8_hush : MX := (yX8_hush, cX8_hush, 6, some (.int), 7, 172, 0, 0)
theorem mM_X8_hush : mM M_X8_hush = 0 := rfl
theorem mS_X8_hush : mS M_X8_hush = 0 := rfl
set_option maxRecDepth 40000 in
theorem tv_X8_hush : TV M_X8_hush 4 := ⟨mt7 237 (by rfl) rfl, mt1 8 (by rfl) rfl, ⟨by decide, by decide, by decide +kernel⟩⟩
set_option maxRecDepth 40000 in
theorem ti_X8_hush : TI M_X8_hush := mt7 235 (by rfl) rfl
set_option maxRecDepth 40000 in
theorem ts_X8_hush : TS M_X8_hush := mt7 236 (by rfl) rfl
theorem kc_X8_hush : KC M_X8_hush 9 := ⟨by decide, by decide, rfl⟩
def M_X8_benchOf : MX := (yX8_benchOf, cX8_benchOf, 6, some (.int), 7, 175, 0, 0)
theorem mM_X8_benchOf : mM M_X8_benchOf = 0 := rfl
theorem mS_X8_benchOf : mS M_X8_benchOf = 0 := rfl
set_option maxRecDepth 40000 in
theorem tv_X8_benchOf : TV M_X8_benchOf 1 := ⟨mt8 9 (by rfl) rfl, mt1 8 (by rfl) rfl, ⟨by decide, by decide, by decide +kernel⟩⟩
set_option maxRecDepth 40000 in
theorem ti_X8_benchOf : TI M_X8_benchOf := mt8 8 (by rfl) rfl
set_option maxRecDepth 40000 in
theorem ts_X8_benchOf : TS M_X8_benchOf := mtP8 11 (by rfl) rfl
theorem kc_X8_benchOf : KC M_X8_benchOf 9 := ⟨by decide, by decide, rfl⟩
def M_X8_startHour : MX := (yX8_startHour, cX8_startHour, 6, some (.int), 7, 175, 0, 0)
theorem mM_X8_startHour : mM M_X8_startHour = 0 := rfl
theorem mS_X8_startHour : mS M_X8_startHour = 0 := rfl
set_option maxRecDepth 40000 in
theorem tv_X8_startHour : TV M_X8_startHour 0 := ⟨mt8 5 (by rfl) rfl, mt1 8 (by rfl) rfl, ⟨by decide, by decide, by decide +kernel⟩⟩
set_option maxRecDepth 40000 in
theorem ti_X8_startHour : TI M_X8_startHour := mt8 4 (by rfl) rfl
set_option maxRecDepth 40000 in
theorem ts_X8_startHour : TS M_X8_startHour := mtP8 10 (by rfl) rfl
theorem kc_X8_startHour : KC M_X8_startHour 9 := ⟨by decide, by decide, rfl⟩
def M_X8_bench : MX := (yX8_bench, cX8_bench, 4, some (.int), 8, 200, 0, 0)
theorem mM_X8_bench : mM M_X8_bench = 0 := rfl
theorem mS_X8_bench : mS M_X8_bench = 0 := rfl
set_option maxRecDepth 40000 in
theorem tv_X8_bench : TV M_X8_bench 3 := ⟨mt8 1 (by rfl) rfl, mt1 8 (by rfl) rfl, ⟨by decide, by decide, by decide +kernel⟩⟩
set_option maxRecDepth 40000 in
theorem ti_X8_bench : TI M_X8_bench := mt7 239 (by rfl) rfl
set_option maxRecDepth 40000 in
theorem ts_X8_bench : TS M_X8_bench := mt8 0 (by rfl) rfl
theorem kc_X8_bench : KC M_X8_bench 9 := ⟨by decide, by decide, rfl⟩
def M_X8_ruleBy : MX := (yX8_ruleBy, cX8_ruleBy, 4, some (.int), 1, 22, 0, 0)
theorem mM_X8_ruleBy : mM M_X8_ruleBy = 0 := rfl
theorem mS_X8_ruleBy : mS M_X8_ruleBy = 0 := rfl
set_option maxRecDepth 40000 in
theorem tv_X8_ruleBy : TV M_X8_ruleBy 1 := ⟨mt7 144 (by rfl) rfl, mt1 8 (by rfl) rfl, ⟨by decide, by decide, by decide +kernel⟩⟩
set_option maxRecDepth 40000 in
theorem ti_X8_ruleBy : TI M_X8_ruleBy := mt7 143 (by rfl) rfl
set_option maxRecDepth 40000 in
theorem ts_X8_ruleBy : TS M_X8_ruleBy := mtP7 9 (by rfl) rfl
theorem kc_X8_ruleBy : KC M_X8_ruleBy 9 := ⟨by decide, by decide, rfl⟩
def M_X8_idle : MX := (yX8_idle, cX8_idle, 7, some (.int), 9, 219, 0, 0)
theorem mM_X8_idle : mM M_X8_idle = 0 := rfl
theorem mS_X8_idle : mS M_X8_idle = 0 := rfl
set_option maxRecDepth 40000 in
theorem tv_X8_idle : TV M_X8_idle 3 := ⟨mt8 13 (by rfl) rfl, mt1 8 (by rfl) rfl, ⟨by decide, by decide, by decide +kernel⟩⟩
set_option maxRecDepth 40000 in
theorem ti_X8_idle : TI M_X8_idle := mt8 11 (by rfl) rfl
set_option maxRecDepth 40000 in
theorem ts_X8_idle : TS M_X8_idle := mt8 12 (by rfl) rfl
theorem kc_X8_idle : KC M_X8_idle 9 := ⟨by decide, by decide, rfl⟩
def M_X8_persuade : MX := (yX8_persuade, cX8_persuade, 8, some (.int), 11, 263, 0, 0)
theorem mM_X8_persuade : mM M_X8_persuade = 0 := rfl
theorem mS_X8_persuade : mS M_X8_persuade = 0 := rfl
set_option maxRecDepth 40000 in
theorem tv_X8_persuade : TV M_X8_persuade 4 := ⟨mt8 17 (by rfl) rfl, mt1 8 (by rfl) rfl, ⟨by decide, by decide, by decide +kernel⟩⟩
set_option maxRecDepth 40000 in
theorem ti_X8_persuade : TI M_X8_persuade := mt8 15 (by rfl) rfl
set_option maxRecDepth 40000 in
theorem ts_X8_persuade : TS M_X8_persuade := mt8 16 (by rfl) rfl
theorem kc_X8_persuade : KC M_X8_persuade 9 := ⟨by decide, by decide, rfl⟩
def M_X8_parts : MX := (yX8_parts, cX8_parts, 5, some (.int), 2, 42, 0, 0)
theorem mM_X8_parts : mM M_X8_parts = 0 := rfl
theorem mS_X8_parts : mS M_X8_parts = 0 := rfl
set_option maxRecDepth 40000 in
theorem tv_X8_parts : TV M_X8_parts 0 := ⟨mt8 25 (by rfl) rfl, mt1 8 (by rfl) rfl, ⟨by decide, by decide, by decide +kernel⟩⟩
set_option maxRecDepth 40000 in
theorem ti_X8_parts : TI M_X8_parts := mt8 24 (by rfl) rfl
set_option maxRecDepth 40000 in
theorem ts_X8_parts : TS M_X8_parts := mtP8 12 (by rfl) rfl
theorem kc_X8_parts : KC M_X8_parts 9 := ⟨by decide, by decide, rfl⟩
def M_X8_carved : MX := (yX8_carved, cX8_carved, 8, some (.int), 8, 196, 0, 0)
theorem mM_X8_carved : mM M_X8_carved = 0 := rfl
theorem mS_X8_carved : mS M_X8_carved = 0 := rfl
set_option maxRecDepth 40000 in
theorem tv_X8_carved : TV M_X8_carved 2 := ⟨mt8 29 (by rfl) rfl, mt1 8 (by rfl) rfl, ⟨by decide, by decide, by decide +kernel⟩⟩
set_option maxRecDepth 40000 in
theorem ti_X8_carved : TI M_X8_carved := mt8 28 (by rfl) rfl
set_option maxRecDepth 40000 in
theorem ts_X8_carved : TS M_X8_carved := mtP8 13 (by rfl) rfl
theorem kc_X8_carved : KC M_X8_carved 9 := ⟨by decide, by decide, rfl⟩
def M_X8_areas : MX := (yX8_areas, cX8_areas, 3, some (.int), 9, 223, 0, 0)
theorem mM_X8_areas : mM M_X8_areas = 0 := rfl
theorem mS_X8_areas : mS M_X8_areas = 0 := rfl
set_option maxRecDepth 40000 in
theorem tv_X8_areas : TV M_X8_areas 2 := ⟨mt8 21 (by rfl) rfl, mt1 8 (by rfl) rfl, ⟨by decide, by decide, by decide +kernel⟩⟩
set_option maxRecDepth 40000 in
theorem ti_X8_areas : TI M_X8_areas := mt8 19 (by rfl) rfl
set_option maxRecDepth 40000 in
theorem ts_X8_areas : TS M_X8_areas := mt8 20 (by rfl) rfl
theorem kc_X8_areas : KC M_X8_areas 9 := ⟨by decide, by decide, rfl⟩
def M_X8_mouth : MX := (yX8_mouth, cX8_mouth, 11, some (.int), 6, 148, 0, 0)
theorem mM_X8_mouth : mM M_X8_mouth = 0 := rfl
theorem mS_X8_mouth : mS M_X8_mouth = 0 := rfl
set_option maxRecDepth 40000 in
theorem tv_X8_mouth : TV M_X8_mouth 3 := ⟨mt8 33 (by rfl) rfl, mt1 8 (by rfl) rfl, ⟨by decide, by decide, by decide +kernel⟩⟩
set_option maxRecDepth 40000 in
theorem ti_X8_mouth : TI M_X8_mouth := mt8 31 (by rfl) rfl
set_option maxRecDepth 40000 in
theorem ts_X8_mouth : TS M_X8_mouth := mt8 32 (by rfl) rfl
theorem kc_X8_mouth : KC M_X8_mouth 9 := ⟨by decide, by decide, rfl⟩
def M_X8_rift : MX := (yX8_rift, cX8_rift, 9, some (.int), 9, 219, 0, 0)
theorem mM_X8_rift : mM M_X8_rift = 0 := rfl
theorem mS_X8_rift : mS M_X8_rift = 0 := rfl
set_option maxRecDepth 40000 in
theorem tv_X8_rift : TV M_X8_rift 3 := ⟨mt8 37 (by rfl) rfl, mt1 8 (by rfl) rfl, ⟨by decide, by decide, by decide +kernel⟩⟩
set_option maxRecDepth 40000 in
theorem ti_X8_rift : TI M_X8_rift := mt8 35 (by rfl) rfl
set_option maxRecDepth 40000 in
theorem ts_X8_rift : TS M_X8_rift := mt8 36 (by rfl) rfl
theorem kc_X8_rift : KC M_X8_rift 9 := ⟨by decide, by decide, rfl⟩
def M_X8_count : MX := (yX8_count, cX8_count, 2, some (.int), 1, 22, 0, 0)
theorem mM_X8_count : mM M_X8_count = 0 := rfl
theorem mS_X8_count : mS M_X8_count = 0 := rfl
set_option maxRecDepth 40000 in
theorem tv_X8_count : TV M_X8_count 1 := ⟨mt8 41 (by rfl) rfl, mt1 8 (by rfl) rfl, ⟨by decide, by decide, by decide +kernel⟩⟩
set_option maxRecDepth 40000 in
theorem ti_X8_count : TI M_X8_count := mt8 39 (by rfl) rfl
set_option maxRecDepth 40000 in
theorem ts_X8_count : TS M_X8_count := mt8 40 (by rfl) rfl
theorem kc_X8_count : KC M_X8_count 9 := ⟨by decide, by decide, rfl⟩
def M_X8_image : MX := (yX8_image, cX8_image, 2, some (.boolean), 2, 47, 0, 0)
theorem mM_X8_image : mM M_X8_image = 0 := rfl
theorem mS_X8_image : mS M_X8_image = 0 := rfl
set_option maxRecDepth 40000 in
theorem tv_X8_image : TV M_X8_image 1 := ⟨mt8 45 (by rfl) rfl, mt1 8 (by rfl) rfl, ⟨by decide, by decide, by decide +kernel⟩⟩
set_option maxRecDepth 40000 in
theorem ti_X8_image : TI M_X8_image := mt8 43 (by rfl) rfl
set_option maxRecDepth 40000 in
theorem ts_X8_image : TS M_X8_image := mt8 44 (by rfl) rfl
theorem kc_X8_image : KC M_X8_image 9 := ⟨by decide, by decide, rfl⟩
def M_X8_again : MX := (yX8_again, cX8_again, 2, some (.boolean), 2, 47, 0, 0)
theorem mM_X8_again : mM M_X8_again = 0 := rfl
theorem mS_X8_again : mS M_X8_again = 0 := rfl
set_option maxRecDepth 40000 in
theorem tv_X8_again : TV M_X8_again 1 := ⟨mt8 56 (by rfl) rfl, mt1 8 (by rfl) rfl, ⟨by decide, by decide, by decide +kernel⟩⟩
set_option maxRecDepth 40000 in
theorem ti_X8_again : TI M_X8_again := mt8 54 (by rfl) rfl
set_option maxRecDepth 40000 in
theorem ts_X8_again : TS M_X8_again := mt8 55 (by rfl) rfl
theorem kc_X8_again : KC M_X8_again 9 := ⟨by decide, by decide, rfl⟩
def M_J6_numberOfTrailingZeros_0f7a4 : MX := (yJ6_numberOfTrailingZeros_0f7a4, cJ6_numberOfTrailingZeros_0f7a4, 2, some (.int), 0, 0, 0, 0)
theorem mM_J6_numberOfTrailingZeros_0f7a4 : mM M_J6_numberOfTrailingZeros_0f7a4 = 0 := rfl
theorem mS_J6_numberOfTrailingZeros_0f7a4 : mS M_J6_numberOfTrailingZeros_0f7a4 = 0 := rfl
set_option maxRecDepth 40000 in
theorem tv_J6_numberOfTrailingZeros_0f7a4 : TV M_J6_numberOfTrailingZeros_0f7a4 1 := ⟨mt4 1 (by rfl) rfl, mt1 16 (by rfl) rfl, ⟨by decide, by decide, by decide +kernel⟩⟩
set_option maxRecDepth 40000 in
theorem ts_J6_numberOfTrailingZeros_0f7a4 : Cond.static (mY M_J6_numberOfTrailingZeros_0f7a4) ∈ gTbl := mt4 0 (by rfl) rfl
def M_J6_bitCount_0f7a4 : MX := (yJ6_bitCount_0f7a4, cJ6_bitCount_0f7a4, 1, some (.int), 0, 0, 0, 0)
theorem mM_J6_bitCount_0f7a4 : mM M_J6_bitCount_0f7a4 = 0 := rfl
theorem mS_J6_bitCount_0f7a4 : mS M_J6_bitCount_0f7a4 = 0 := rfl
set_option maxRecDepth 40000 in
theorem tv_J6_bitCount_0f7a4 : TV M_J6_bitCount_0f7a4 1 := ⟨mt3 147 (by rfl) rfl, mt1 16 (by rfl) rfl, ⟨by decide, by decide, by decide +kernel⟩⟩
set_option maxRecDepth 40000 in
theorem ts_J6_bitCount_0f7a4 : Cond.static (mY M_J6_bitCount_0f7a4) ∈ gTbl := mt3 146 (by rfl) rfl
def M_J13_lowestOneBit_067f4 : MX := (yJ13_lowestOneBit_067f4, cJ13_lowestOneBit_067f4, 2, some (.long), 0, 0, 0, 0)
theorem mM_J13_lowestOneBit_067f4 : mM M_J13_lowestOneBit_067f4 = 0 := rfl
theorem mS_J13_lowestOneBit_067f4 : mS M_J13_lowestOneBit_067f4 = 0 := rfl
set_option maxRecDepth 40000 in
theorem tv_J13_lowestOneBit_067f4 : TV M_J13_lowestOneBit_067f4 1 := ⟨mt5 13 (by rfl) rfl, mt1 15 (by rfl) rfl, ⟨by decide, by decide, by decide +kernel⟩⟩
set_option maxRecDepth 40000 in
theorem ts_J13_lowestOneBit_067f4 : Cond.static (mY M_J13_lowestOneBit_067f4) ∈ gTbl := mt5 12 (by rfl) rfl
def M_J13_numberOfTrailingZeros_95d88 : MX := (yJ13_numberOfTrailingZeros_95d88, cJ13_numberOfTrailingZeros_95d88, 3, some (.int), 1, 21, 0, 0)
theorem mM_J13_numberOfTrailingZeros_95d88 : mM M_J13_numberOfTrailingZeros_95d88 = 0 := rfl
theorem mS_J13_numberOfTrailingZeros_95d88 : mS M_J13_numberOfTrailingZeros_95d88 = 0 := rfl
set_option maxRecDepth 40000 in
theorem tv_J13_numberOfTrailingZeros_95d88 : TV M_J13_numberOfTrailingZeros_95d88 1 := ⟨mt3 238 (by rfl) rfl, mt1 15 (by rfl) rfl, ⟨by decide, by decide, by decide +kernel⟩⟩
set_option maxRecDepth 40000 in
theorem ts_J13_numberOfTrailingZeros_95d88 : Cond.static (mY M_J13_numberOfTrailingZeros_95d88) ∈ gTbl := mt3 237 (by rfl) rfl
def M_J13_bitCount_95d88 : MX := (yJ13_bitCount_95d88, cJ13_bitCount_95d88, 2, some (.int), 0, 0, 0, 0)
theorem mM_J13_bitCount_95d88 : mM M_J13_bitCount_95d88 = 0 := rfl
theorem mS_J13_bitCount_95d88 : mS M_J13_bitCount_95d88 = 0 := rfl
set_option maxRecDepth 40000 in
theorem tv_J13_bitCount_95d88 : TV M_J13_bitCount_95d88 1 := ⟨mt3 49 (by rfl) rfl, mt1 15 (by rfl) rfl, ⟨by decide, by decide, by decide +kernel⟩⟩
set_option maxRecDepth 40000 in
theorem ts_J13_bitCount_95d88 : Cond.static (mY M_J13_bitCount_95d88) ∈ gTbl := mt3 48 (by rfl) rfl
def M_J0_length_8abf5 : MX := (yJ0_length_8abf5, cJ0_length_8abf5, 1, some (.int), 1, 20, 0, 0)
theorem mM_J0_length_8abf5 : mM M_J0_length_8abf5 = 0 := rfl
theorem mS_J0_length_8abf5 : mS M_J0_length_8abf5 = 0 := rfl
set_option maxRecDepth 40000 in
theorem tv_J0_length_8abf5 : TV M_J0_length_8abf5 0 := ⟨mt2 138 (by rfl) rfl, mt1 10 (by rfl) rfl, ⟨by decide, by decide, by decide +kernel⟩⟩
set_option maxRecDepth 40000 in
theorem ti_J0_length_8abf5 : TI M_J0_length_8abf5 := mt2 136 (by rfl) rfl
set_option maxRecDepth 40000 in
theorem ts_J0_length_8abf5 : TS M_J0_length_8abf5 := mt2 137 (by rfl) rfl
def M_J0_charAt_5068e : MX := (yJ0_charAt_5068e, cJ0_charAt_5068e, 2, some (.char), 4, 85, 0, 0)
theorem mM_J0_charAt_5068e : mM M_J0_charAt_5068e = 0 := rfl
theorem mS_J0_charAt_5068e : mS M_J0_charAt_5068e = 0 := rfl
set_option maxRecDepth 40000 in
theorem tv_J0_charAt_5068e : TV M_J0_charAt_5068e 1 := ⟨mt2 148 (by rfl) rfl, mt1 10 (by rfl) rfl, ⟨by decide, by decide, by decide +kernel⟩⟩
set_option maxRecDepth 40000 in
theorem ti_J0_charAt_5068e : TI M_J0_charAt_5068e := mt2 146 (by rfl) rfl
set_option maxRecDepth 40000 in
theorem ts_J0_charAt_5068e : TS M_J0_charAt_5068e := mt2 147 (by rfl) rfl
def M_J0_coder_7d493 : MX := (yJ0_coder_7d493, cJ0_coder_7d493, 1, some (.byte), 0, 0, 0, 0)
theorem mM_J0_coder_7d493 : mM M_J0_coder_7d493 = 0 := rfl
theorem mS_J0_coder_7d493 : mS M_J0_coder_7d493 = 0 := rfl
set_option maxRecDepth 40000 in
theorem tv_J0_coder_7d493 : TV M_J0_coder_7d493 0 := ⟨mt2 142 (by rfl) rfl, mt1 10 (by rfl) rfl, ⟨by decide, by decide, by decide +kernel⟩⟩
set_option maxRecDepth 40000 in
theorem ti_J0_coder_7d493 : TI M_J0_coder_7d493 := mt2 140 (by rfl) rfl
set_option maxRecDepth 40000 in
theorem ts_J0_coder_7d493 : TS M_J0_coder_7d493 := mt2 141 (by rfl) rfl
def M_J0_isLatin1_aae02 : MX := (yJ0_isLatin1_aae02, cJ0_isLatin1_aae02, 1, some (.boolean), 0, 0, 0, 0)
theorem mM_J0_isLatin1_aae02 : mM M_J0_isLatin1_aae02 = 0 := rfl
theorem mS_J0_isLatin1_aae02 : mS M_J0_isLatin1_aae02 = 0 := rfl
set_option maxRecDepth 40000 in
theorem tv_J0_isLatin1_aae02 : TV M_J0_isLatin1_aae02 0 := ⟨mt2 152 (by rfl) rfl, mt1 10 (by rfl) rfl, ⟨by decide, by decide, by decide +kernel⟩⟩
set_option maxRecDepth 40000 in
theorem ti_J0_isLatin1_aae02 : TI M_J0_isLatin1_aae02 := mt2 150 (by rfl) rfl
set_option maxRecDepth 40000 in
theorem ts_J0_isLatin1_aae02 : TS M_J0_isLatin1_aae02 := mt2 151 (by rfl) rfl
def M_J0_checkIndex_df160 : MX := (yJ0_checkIndex_df160, cJ0_checkIndex_df160, 2, none, 1, 22, 0, 0)
theorem mM_J0_checkIndex_df160 : mM M_J0_checkIndex_df160 = 0 := rfl
theorem mS_J0_checkIndex_df160 : mS M_J0_checkIndex_df160 = 0 := rfl
set_option maxRecDepth 40000 in
theorem tv_J0_checkIndex_df160 : TV M_J0_checkIndex_df160 2 := ⟨mt2 158 (by rfl) rfl, mt1 10 (by rfl) rfl, ⟨by decide, by decide, by decide +kernel⟩⟩
set_option maxRecDepth 40000 in
theorem ts_J0_checkIndex_df160 : Cond.static (mY M_J0_checkIndex_df160) ∈ gTbl := mt2 157 (by rfl) rfl
def M_J1_charAt_3b067 : MX := (yJ1_charAt_3b067, cJ1_charAt_3b067, 2, some (.char), 2, 43, 0, 0)
theorem mM_J1_charAt_3b067 : mM M_J1_charAt_3b067 = 0 := rfl
theorem mS_J1_charAt_3b067 : mS M_J1_charAt_3b067 = 0 := rfl
set_option maxRecDepth 40000 in
theorem tv_J1_charAt_3b067 : TV M_J1_charAt_3b067 2 := ⟨mt2 155 (by rfl) rfl, mt1 11 (by rfl) rfl, ⟨by decide, by decide, by decide +kernel⟩⟩
set_option maxRecDepth 40000 in
theorem ts_J1_charAt_3b067 : Cond.static (mY M_J1_charAt_3b067) ∈ gTbl := mt2 154 (by rfl) rfl
def M_J2_getChar_3b067 : MX := (yJ2_getChar_3b067, cJ2_getChar_3b067, 2, some (.char), 1, 20, 0, 0)
theorem mM_J2_getChar_3b067 : mM M_J2_getChar_3b067 = 0 := rfl
theorem mS_J2_getChar_3b067 : mS M_J2_getChar_3b067 = 0 := rfl
set_option maxRecDepth 40000 in
theorem tv_J2_getChar_3b067 : TV M_J2_getChar_3b067 2 := ⟨mt2 176 (by rfl) rfl, mt1 13 (by rfl) rfl, ⟨by decide, by decide, by decide +kernel⟩⟩
set_option maxRecDepth 40000 in
theorem ts_J2_getChar_3b067 : Cond.static (mY M_J2_getChar_3b067) ∈ gTbl := mt2 175 (by rfl) rfl
def M_J2_length_9d52b : MX := (yJ2_length_9d52b, cJ2_length_9d52b, 1, some (.int), 0, 0, 0, 0)
theorem mM_J2_length_9d52b : mM M_J2_length_9d52b = 0 := rfl
theorem mS_J2_length_9d52b : mS M_J2_length_9d52b = 0 := rfl
set_option maxRecDepth 40000 in
theorem tv_J2_length_9d52b : TV M_J2_length_9d52b 1 := ⟨mt2 172 (by rfl) rfl, mt1 13 (by rfl) rfl, ⟨by decide, by decide, by decide +kernel⟩⟩
set_option maxRecDepth 40000 in
theorem ts_J2_length_9d52b : Cond.static (mY M_J2_length_9d52b) ∈ gTbl := mt2 171 (by rfl) rfl
def M_J2_charAt_3b067 : MX := (yJ2_charAt_3b067, cJ2_charAt_3b067, 2, some (.char), 3, 64, 0, 0)
theorem mM_J2_charAt_3b067 : mM M_J2_charAt_3b067 = 0 := rfl
theorem mS_J2_charAt_3b067 : mS M_J2_charAt_3b067 = 0 := rfl
set_option maxRecDepth 40000 in
theorem tv_J2_charAt_3b067 : TV M_J2_charAt_3b067 2 := ⟨mt2 166 (by rfl) rfl, mt1 13 (by rfl) rfl, ⟨by decide, by decide, by decide +kernel⟩⟩
set_option maxRecDepth 40000 in
theorem ts_J2_charAt_3b067 : Cond.static (mY M_J2_charAt_3b067) ∈ gTbl := mt2 165 (by rfl) rfl
def M_J2_checkIndex_2214a : MX := (yJ2_checkIndex_2214a, cJ2_checkIndex_2214a, 2, none, 2, 43, 0, 0)
theorem mM_J2_checkIndex_2214a : mM M_J2_checkIndex_2214a = 0 := rfl
theorem mS_J2_checkIndex_2214a : mS M_J2_checkIndex_2214a = 0 := rfl
set_option maxRecDepth 40000 in
theorem tv_J2_checkIndex_2214a : TV M_J2_checkIndex_2214a 2 := ⟨mt2 169 (by rfl) rfl, mt1 13 (by rfl) rfl, ⟨by decide, by decide, by decide +kernel⟩⟩
set_option maxRecDepth 40000 in
theorem ts_J2_checkIndex_2214a : Cond.static (mY M_J2_checkIndex_2214a) ∈ gTbl := mt2 168 (by rfl) rfl
def M_J7_rangeCheck_23922 : MX := (yJ7_rangeCheck_23922, cJ7_rangeCheck_23922, 3, none, 0, 0, 0, 0)
theorem mM_J7_rangeCheck_23922 : mM M_J7_rangeCheck_23922 = 0 := rfl
theorem mS_J7_rangeCheck_23922 : mS M_J7_rangeCheck_23922 = 0 := rfl
set_option maxRecDepth 40000 in
theorem tv_J7_rangeCheck_23922 : TV M_J7_rangeCheck_23922 3 := ⟨mt3 200 (by rfl) rfl, mt1 9 (by rfl) rfl, ⟨by decide, by decide, by decide +kernel⟩⟩
set_option maxRecDepth 40000 in
theorem ts_J7_rangeCheck_23922 : Cond.static (mY M_J7_rangeCheck_23922) ∈ gTbl := mt3 199 (by rfl) rfl
def M_J7_fill_d0a16 : MX := (yJ7_fill_d0a16, cJ7_fill_d0a16, 5, none, 0, 0, 0, 0)
theorem mM_J7_fill_d0a16 : mM M_J7_fill_d0a16 = 0 := rfl
theorem mS_J7_fill_d0a16 : mS M_J7_fill_d0a16 = 0 := rfl
set_option maxRecDepth 40000 in
theorem tv_J7_fill_d0a16 : TV M_J7_fill_d0a16 2 := ⟨mt3 192 (by rfl) rfl, mt1 9 (by rfl) rfl, ⟨by decide, by decide, by decide +kernel⟩⟩
set_option maxRecDepth 40000 in
theorem ts_J7_fill_d0a16 : Cond.static (mY M_J7_fill_d0a16) ∈ gTbl := mt3 191 (by rfl) rfl
def M_J7_fill_bad5a : MX := (yJ7_fill_bad5a, cJ7_fill_bad5a, 6, none, 1, 22, 0, 0)
theorem mM_J7_fill_bad5a : mM M_J7_fill_bad5a = 0 := rfl
theorem mS_J7_fill_bad5a : mS M_J7_fill_bad5a = 0 := rfl
set_option maxRecDepth 40000 in
theorem tv_J7_fill_bad5a : TV M_J7_fill_bad5a 4 := ⟨mt3 197 (by rfl) rfl, mt1 9 (by rfl) rfl, ⟨by decide, by decide, by decide +kernel⟩⟩
set_option maxRecDepth 40000 in
theorem ts_J7_fill_bad5a : Cond.static (mY M_J7_fill_bad5a) ∈ gTbl := mt3 196 (by rfl) rfl
def M_J7_fill_53178 : MX := (yJ7_fill_53178, cJ7_fill_53178, 4, none, 0, 0, 0, 0)
theorem mM_J7_fill_53178 : mM M_J7_fill_53178 = 0 := rfl
theorem mS_J7_fill_53178 : mS M_J7_fill_53178 = 0 := rfl
set_option maxRecDepth 40000 in
theorem tv_J7_fill_53178 : TV M_J7_fill_53178 2 := ⟨mt2 87 (by rfl) rfl, mt1 9 (by rfl) rfl, ⟨by decide, by decide, by decide +kernel⟩⟩
set_option maxRecDepth 40000 in
theorem ts_J7_fill_53178 : Cond.static (mY M_J7_fill_53178) ∈ gTbl := mt2 86 (by rfl) rfl
def M_J3_checkIndex_8e157 : MX := (yJ3_checkIndex_8e157, cJ3_checkIndex_8e157, 3, some (.int), 0, 0, 0, 0)
theorem mM_J3_checkIndex_8e157 : mM M_J3_checkIndex_8e157 = 0 := rfl
theorem mS_J3_checkIndex_8e157 : mS M_J3_checkIndex_8e157 = 0 := rfl
set_option maxRecDepth 40000 in
theorem tv_J3_checkIndex_8e157 : TV M_J3_checkIndex_8e157 3 := ⟨mt2 163 (by rfl) rfl, mt1 12 (by rfl) rfl, ⟨by decide, by decide, by decide +kernel⟩⟩
set_option maxRecDepth 40000 in
theorem ts_J3_checkIndex_8e157 : Cond.static (mY M_J3_checkIndex_8e157) ∈ gTbl := mt2 162 (by rfl) rfl
def M_L_law : MX := (yL_law, cL_law, 4, some .boolean, 14, 590, 600000, 7302250)
set_option maxRecDepth 40000 in
theorem fl_X3_114 : Cond.fieldLink RX3 114 "OneEared$Reader" "NUMBERS" "[I" ∈ gTbl := mt2 196 (by rfl) rfl
set_option maxRecDepth 40000 in
theorem fl_X3_124 : Cond.fieldLink RX3 124 "OneEared$Reader" "SORT_OF" "[I" ∈ gTbl := mt2 114 (by rfl) rfl
set_option maxRecDepth 40000 in
theorem fl_X3_178 : Cond.fieldLink RX3 178 "OneEared$Reader" "GREATEST" "[I" ∈ gTbl := mt2 202 (by rfl) rfl
set_option maxRecDepth 40000 in
theorem fl_X3_207 : Cond.fieldLink RX3 207 "OneEared$Reader" "HEAD" "[I" ∈ gTbl := mt2 220 (by rfl) rfl
set_option maxRecDepth 40000 in
theorem gf_X0_15 : GF RX0 15 1 9 := ⟨by decide, by decide, by decide, mt1 67 (by rfl) rfl⟩
set_option maxRecDepth 40000 in
theorem gf_X0_18 : GF RX0 18 1 10 := ⟨by decide, by decide, by decide, mt1 71 (by rfl) rfl⟩
set_option maxRecDepth 40000 in
theorem gf_X0_21 : GF RX0 21 1 12 := ⟨by decide, by decide, by decide, mt1 76 (by rfl) rfl⟩
set_option maxRecDepth 40000 in
theorem gf_X0_25 : GF RX0 25 1 13 := ⟨by decide, by decide, by decide, mt1 77 (by rfl) rfl⟩
set_option maxRecDepth 40000 in
theorem gf_X0_28 : GF RX0 28 1 0 := ⟨by decide, by decide, by decide, mt1 43 (by rfl) rfl⟩
set_option maxRecDepth 40000 in
theorem gf_X0_32 : GF RX0 32 1 1 := ⟨by decide, by decide, by decide, mt1 46 (by rfl) rfl⟩
set_option maxRecDepth 40000 in
theorem gf_X0_35 : GF RX0 35 1 2 := ⟨by decide, by decide, by decide, mt1 49 (by rfl) rfl⟩
set_option maxRecDepth 40000 in
theorem gf_X0_39 : GF RX0 39 1 6 := ⟨by decide, by decide, by decide, mt1 57 (by rfl) rfl⟩
set_option maxRecDepth 40000 in
theorem gf_X0_42 : GF RX0 42 1 8 := ⟨by decide, by decide, by decide, mt1 64 (by rfl) rfl⟩
set_option maxRecDepth 40000 in
theorem gf_X0_66 : GF RX0 66 1 3 := ⟨by decide, by decide, by decide, mt1 52 (by rfl) rfl⟩
set_option maxRecDepth 40000 in
theorem gf_X0_69 : GF RX0 69 1 4 := ⟨by decide, by decide, by decide, mt1 53 (by rfl) rfl⟩
set_option maxRecDepth 40000 in
theorem gf_X0_72 : GF RX0 72 1 5 := ⟨by decide, by decide, by decide, mt1 54 (by rfl) rfl⟩
set_option maxRecDepth 40000 in
theorem gf_X0_75 : GF RX0 75 1 11 := ⟨by decide, by decide, by decide, mt1 75 (by rfl) rfl⟩
set_option maxRecDepth 40000 in
theorem gf_X0_9 : GF RX0 9 1 7 := ⟨by decide, by decide, by decide, mt1 61 (by rfl) rfl⟩
set_option maxRecDepth 40000 in
theorem gf_X1_108 : GF RX1 108 1 6 := ⟨by decide, by decide, by decide, mt1 58 (by rfl) rfl⟩
set_option maxRecDepth 40000 in
theorem gf_X1_129 : GF RX1 129 2 8 := ⟨by decide, by decide, by decide, mt2 1 (by rfl) rfl⟩
set_option maxRecDepth 40000 in
theorem gf_X1_15 : GF RX1 15 2 4 := ⟨by decide, by decide, by decide, mt1 235 (by rfl) rfl⟩
set_option maxRecDepth 40000 in
theorem gf_X1_18 : GF RX1 18 2 5 := ⟨by decide, by decide, by decide, mt1 237 (by rfl) rfl⟩
set_option maxRecDepth 40000 in
theorem gf_X1_21 : GF RX1 21 2 6 := ⟨by decide, by decide, by decide, mt1 239 (by rfl) rfl⟩
set_option maxRecDepth 40000 in
theorem gf_X1_25 : GF RX1 25 2 7 := ⟨by decide, by decide, by decide, mt2 0 (by rfl) rfl⟩
set_option maxRecDepth 40000 in
theorem gf_X1_28 : GF RX1 28 2 0 := ⟨by decide, by decide, by decide, mt1 227 (by rfl) rfl⟩
set_option maxRecDepth 40000 in
theorem gf_X1_32 : GF RX1 32 2 1 := ⟨by decide, by decide, by decide, mt1 230 (by rfl) rfl⟩
set_option maxRecDepth 40000 in
theorem gf_X1_36 : GF RX1 36 1 8 := ⟨by decide, by decide, by decide, mt1 63 (by rfl) rfl⟩
set_option maxRecDepth 40000 in
theorem gf_X1_42 : GF RX1 42 1 9 := ⟨by decide, by decide, by decide, mt1 68 (by rfl) rfl⟩
set_option maxRecDepth 40000 in
theorem gf_X1_45 : GF RX1 45 1 10 := ⟨by decide, by decide, by decide, mt1 72 (by rfl) rfl⟩
set_option maxRecDepth 40000 in
theorem gf_X1_48 : GF RX1 48 2 2 := ⟨by decide, by decide, by decide, mt1 231 (by rfl) rfl⟩
set_option maxRecDepth 40000 in
theorem gf_X1_51 : GF RX1 51 3 2 := ⟨by decide, by decide, by decide, mt1 126 (by rfl) rfl⟩
set_option maxRecDepth 40000 in
theorem gf_X1_9 : GF RX1 9 2 3 := ⟨by decide, by decide, by decide, mt1 233 (by rfl) rfl⟩
set_option maxRecDepth 40000 in
theorem gf_X2_15 : GF RX2 15 3 1 := ⟨by decide, by decide, by decide, mt1 125 (by rfl) rfl⟩
set_option maxRecDepth 40000 in
theorem gf_X2_22 : GF RX2 22 3 2 := ⟨by decide, by decide, by decide, mt1 127 (by rfl) rfl⟩
set_option maxRecDepth 40000 in
theorem gf_X2_9 : GF RX2 9 3 0 := ⟨by decide, by decide, by decide, mt1 122 (by rfl) rfl⟩
set_option maxRecDepth 40000 in
theorem gf_X3_12 : GF RX3 12 4 0 := ⟨by decide, by decide, by decide, mt1 177 (by rfl) rfl⟩
set_option maxRecDepth 40000 in
theorem gf_X3_168 : GF RX3 168 1 6 := ⟨by decide, by decide, by decide, mt1 59 (by rfl) rfl⟩
set_option maxRecDepth 40000 in
theorem gf_X3_171 : GF RX3 171 1 8 := ⟨by decide, by decide, by decide, mt1 65 (by rfl) rfl⟩
set_option maxRecDepth 40000 in
theorem gf_X3_181 : GF RX3 181 1 2 := ⟨by decide, by decide, by decide, mt1 51 (by rfl) rfl⟩
set_option maxRecDepth 40000 in
theorem gf_X3_184 : GF RX3 184 1 0 := ⟨by decide, by decide, by decide, mt1 45 (by rfl) rfl⟩
set_option maxRecDepth 40000 in
theorem gf_X3_187 : GF RX3 187 1 1 := ⟨by decide, by decide, by decide, mt1 48 (by rfl) rfl⟩
set_option maxRecDepth 40000 in
theorem gf_X3_193 : GF RX3 193 1 9 := ⟨by decide, by decide, by decide, mt1 70 (by rfl) rfl⟩
set_option maxRecDepth 40000 in
theorem gf_X3_20 : GF RX3 20 4 1 := ⟨by decide, by decide, by decide, mt1 179 (by rfl) rfl⟩
set_option maxRecDepth 40000 in
theorem gf_X3_202 : GF RX3 202 1 7 := ⟨by decide, by decide, by decide, mt1 62 (by rfl) rfl⟩
set_option maxRecDepth 40000 in
theorem gf_X3_205 : GF RX3 205 1 10 := ⟨by decide, by decide, by decide, mt1 74 (by rfl) rfl⟩
set_option maxRecDepth 40000 in
theorem gf_X3_213 : GF RX3 213 3 0 := ⟨by decide, by decide, by decide, mt1 123 (by rfl) rfl⟩
set_option maxRecDepth 40000 in
theorem gf_X3_24 : GF RX3 24 4 10 := ⟨by decide, by decide, by decide, mt1 191 (by rfl) rfl⟩
set_option maxRecDepth 40000 in
theorem gf_X3_32 : GF RX3 32 4 4 := ⟨by decide, by decide, by decide, mt1 185 (by rfl) rfl⟩
set_option maxRecDepth 40000 in
theorem gf_X3_36 : GF RX3 36 4 5 := ⟨by decide, by decide, by decide, mt1 186 (by rfl) rfl⟩
set_option maxRecDepth 40000 in
theorem gf_X3_40 : GF RX3 40 4 6 := ⟨by decide, by decide, by decide, mt1 187 (by rfl) rfl⟩
set_option maxRecDepth 40000 in
theorem gf_X3_43 : GF RX3 43 4 2 := ⟨by decide, by decide, by decide, mt1 181 (by rfl) rfl⟩
set_option maxRecDepth 40000 in
theorem gf_X3_46 : GF RX3 46 4 3 := ⟨by decide, by decide, by decide, mt1 183 (by rfl) rfl⟩
set_option maxRecDepth 40000 in
theorem gf_X3_49 : GF RX3 49 4 11 := ⟨by decide, by decide, by decide, mt1 192 (by rfl) rfl⟩
set_option maxRecDepth 40000 in
theorem gf_X3_53 : GF RX3 53 4 12 := ⟨by decide, by decide, by decide, mt1 193 (by rfl) rfl⟩
set_option maxRecDepth 40000 in
theorem gf_X3_63 : GF RX3 63 4 7 := ⟨by decide, by decide, by decide, mt1 188 (by rfl) rfl⟩
set_option maxRecDepth 40000 in
theorem gf_X3_70 : GF RX3 70 4 8 := ⟨by decide, by decide, by decide, mt1 189 (by rfl) rfl⟩
set_option maxRecDepth 40000 in
theorem gf_X3_79 : GF RX3 79 3 2 := ⟨by decide, by decide, by decide, mt1 128 (by rfl) rfl⟩
set_option maxRecDepth 40000 in
theorem gf_X3_94 : GF RX3 94 4 9 := ⟨by decide, by decide, by decide, mt1 190 (by rfl) rfl⟩
set_option maxRecDepth 40000 in
theorem gf_X4_15 : GF RX4 15 5 1 := ⟨by decide, by decide, by decide, mt2 28 (by rfl) rfl⟩
set_option maxRecDepth 40000 in
theorem gf_X4_18 : GF RX4 18 2 0 := ⟨by decide, by decide, by decide, mt1 228 (by rfl) rfl⟩
set_option maxRecDepth 40000 in
theorem gf_X4_24 : GF RX4 24 1 6 := ⟨by decide, by decide, by decide, mt1 55 (by rfl) rfl⟩
set_option maxRecDepth 40000 in
theorem gf_X4_30 : GF RX4 30 5 2 := ⟨by decide, by decide, by decide, mt2 30 (by rfl) rfl⟩
set_option maxRecDepth 40000 in
theorem gf_X4_9 : GF RX4 9 5 0 := ⟨by decide, by decide, by decide, mt2 27 (by rfl) rfl⟩
set_option maxRecDepth 40000 in
theorem gf_X5_15 : GF RX5 15 6 3 := ⟨by decide, by decide, by decide, mt1 143 (by rfl) rfl⟩
set_option maxRecDepth 40000 in
theorem gf_X5_19 : GF RX5 19 6 4 := ⟨by decide, by decide, by decide, mt1 145 (by rfl) rfl⟩
set_option maxRecDepth 40000 in
theorem gf_X5_25 : GF RX5 25 6 5 := ⟨by decide, by decide, by decide, mt1 147 (by rfl) rfl⟩
set_option maxRecDepth 40000 in
theorem gf_X5_31 : GF RX5 31 6 6 := ⟨by decide, by decide, by decide, mt1 149 (by rfl) rfl⟩
set_option maxRecDepth 40000 in
theorem gf_X5_44 : GF RX5 44 6 1 := ⟨by decide, by decide, by decide, mt1 140 (by rfl) rfl⟩
set_option maxRecDepth 40000 in
theorem gf_X5_53 : GF RX5 53 6 2 := ⟨by decide, by decide, by decide, mt1 142 (by rfl) rfl⟩
set_option maxRecDepth 40000 in
theorem gf_X5_9 : GF RX5 9 6 0 := ⟨by decide, by decide, by decide, mt1 137 (by rfl) rfl⟩
set_option maxRecDepth 40000 in
theorem gf_X6_11 : GF RX6 11 7 0 := ⟨by decide, by decide, by decide, mt3 166 (by rfl) rfl⟩
set_option maxRecDepth 40000 in
theorem gf_X6_15 : GF RX6 15 7 1 := ⟨by decide, by decide, by decide, mt3 167 (by rfl) rfl⟩
set_option maxRecDepth 40000 in
theorem gf_X6_18 : GF RX6 18 7 2 := ⟨by decide, by decide, by decide, mt3 168 (by rfl) rfl⟩
set_option maxRecDepth 40000 in
theorem gf_X6_22 : GF RX6 22 7 3 := ⟨by decide, by decide, by decide, mt3 169 (by rfl) rfl⟩
set_option maxRecDepth 40000 in
theorem gf_X6_26 : GF RX6 26 1 6 := ⟨by decide, by decide, by decide, mt1 56 (by rfl) rfl⟩
set_option maxRecDepth 40000 in
theorem gf_X6_31 : GF RX6 31 7 4 := ⟨by decide, by decide, by decide, mt3 170 (by rfl) rfl⟩
set_option maxRecDepth 40000 in
theorem gf_X7_10 : GF RX7 10 8 0 := ⟨by decide, by decide, by decide, mt2 38 (by rfl) rfl⟩
set_option maxRecDepth 40000 in
theorem gf_X7_107 : GF RX7 107 1 0 := ⟨by decide, by decide, by decide, mt1 44 (by rfl) rfl⟩
set_option maxRecDepth 40000 in
theorem gf_X7_110 : GF RX7 110 1 1 := ⟨by decide, by decide, by decide, mt1 47 (by rfl) rfl⟩
set_option maxRecDepth 40000 in
theorem gf_X7_113 : GF RX7 113 1 2 := ⟨by decide, by decide, by decide, mt1 50 (by rfl) rfl⟩
set_option maxRecDepth 40000 in
theorem gf_X7_123 : GF RX7 123 1 6 := ⟨by decide, by decide, by decide, mt1 60 (by rfl) rfl⟩
set_option maxRecDepth 40000 in
theorem gf_X7_126 : GF RX7 126 1 8 := ⟨by decide, by decide, by decide, mt1 66 (by rfl) rfl⟩
set_option maxRecDepth 40000 in
theorem gf_X7_150 : GF RX7 150 1 10 := ⟨by decide, by decide, by decide, mt1 73 (by rfl) rfl⟩
set_option maxRecDepth 40000 in
theorem gf_X7_153 : GF RX7 153 1 9 := ⟨by decide, by decide, by decide, mt1 69 (by rfl) rfl⟩
set_option maxRecDepth 40000 in
theorem gf_X7_16 : GF RX7 16 8 1 := ⟨by decide, by decide, by decide, mt2 39 (by rfl) rfl⟩
set_option maxRecDepth 40000 in
theorem gf_X7_188 : GF RX7 188 8 5 := ⟨by decide, by decide, by decide, mt2 43 (by rfl) rfl⟩
set_option maxRecDepth 40000 in
theorem gf_X7_209 : GF RX7 209 3 2 := ⟨by decide, by decide, by decide, mt1 129 (by rfl) rfl⟩
set_option maxRecDepth 40000 in
theorem gf_X7_214 : GF RX7 214 3 0 := ⟨by decide, by decide, by decide, mt1 124 (by rfl) rfl⟩
set_option maxRecDepth 40000 in
theorem gf_X7_224 : GF RX7 224 2 2 := ⟨by decide, by decide, by decide, mt1 232 (by rfl) rfl⟩
set_option maxRecDepth 40000 in
theorem gf_X7_227 : GF RX7 227 2 4 := ⟨by decide, by decide, by decide, mt1 236 (by rfl) rfl⟩
set_option maxRecDepth 40000 in
theorem gf_X7_23 : GF RX7 23 8 2 := ⟨by decide, by decide, by decide, mt2 40 (by rfl) rfl⟩
set_option maxRecDepth 40000 in
theorem gf_X7_230 : GF RX7 230 2 3 := ⟨by decide, by decide, by decide, mt1 234 (by rfl) rfl⟩
set_option maxRecDepth 40000 in
theorem gf_X7_239 : GF RX7 239 2 0 := ⟨by decide, by decide, by decide, mt1 229 (by rfl) rfl⟩
set_option maxRecDepth 40000 in
theorem gf_X7_259 : GF RX7 259 2 5 := ⟨by decide, by decide, by decide, mt1 238 (by rfl) rfl⟩
set_option maxRecDepth 40000 in
theorem gf_X7_288 : GF RX7 288 5 1 := ⟨by decide, by decide, by decide, mt2 29 (by rfl) rfl⟩
set_option maxRecDepth 40000 in
theorem gf_X7_30 : GF RX7 30 8 3 := ⟨by decide, by decide, by decide, mt2 41 (by rfl) rfl⟩
set_option maxRecDepth 40000 in
theorem gf_X7_37 : GF RX7 37 8 4 := ⟨by decide, by decide, by decide, mt2 42 (by rfl) rfl⟩
set_option maxRecDepth 40000 in
theorem gf_X7_41 : GF RX7 41 6 1 := ⟨by decide, by decide, by decide, mt1 139 (by rfl) rfl⟩
set_option maxRecDepth 40000 in
theorem gf_X7_49 : GF RX7 49 6 2 := ⟨by decide, by decide, by decide, mt1 141 (by rfl) rfl⟩
set_option maxRecDepth 40000 in
theorem gf_X7_52 : GF RX7 52 6 3 := ⟨by decide, by decide, by decide, mt1 144 (by rfl) rfl⟩
set_option maxRecDepth 40000 in
theorem gf_X7_55 : GF RX7 55 6 4 := ⟨by decide, by decide, by decide, mt1 146 (by rfl) rfl⟩
set_option maxRecDepth 40000 in
theorem gf_X7_59 : GF RX7 59 6 0 := ⟨by decide, by decide, by decide, mt1 138 (by rfl) rfl⟩
set_option maxRecDepth 40000 in
theorem gf_X7_67 : GF RX7 67 4 2 := ⟨by decide, by decide, by decide, mt1 182 (by rfl) rfl⟩
set_option maxRecDepth 40000 in
theorem gf_X7_68 : GF RX7 68 4 3 := ⟨by decide, by decide, by decide, mt1 184 (by rfl) rfl⟩
set_option maxRecDepth 40000 in
theorem gf_X7_73 : GF RX7 73 6 5 := ⟨by decide, by decide, by decide, mt1 148 (by rfl) rfl⟩
set_option maxRecDepth 40000 in
theorem gf_X7_77 : GF RX7 77 4 0 := ⟨by decide, by decide, by decide, mt1 178 (by rfl) rfl⟩
set_option maxRecDepth 40000 in
theorem gf_X7_85 : GF RX7 85 6 6 := ⟨by decide, by decide, by decide, mt1 150 (by rfl) rfl⟩
set_option maxRecDepth 40000 in
theorem gf_X7_89 : GF RX7 89 4 1 := ⟨by decide, by decide, by decide, mt1 180 (by rfl) rfl⟩
set_option maxRecDepth 40000 in
theorem gf_X8_102 : GF RX8 102 9 0 := ⟨by decide, by decide, by decide, mt5 74 (by rfl) rfl⟩
set_option maxRecDepth 40000 in
theorem gf_X8_122 : GF RX8 122 9 10 := ⟨by decide, by decide, by decide, mt5 84 (by rfl) rfl⟩
set_option maxRecDepth 40000 in
theorem gf_X8_125 : GF RX8 125 9 11 := ⟨by decide, by decide, by decide, mt5 85 (by rfl) rfl⟩
set_option maxRecDepth 40000 in
theorem gf_X8_13 : GF RX8 13 9 2 := ⟨by decide, by decide, by decide, mt5 76 (by rfl) rfl⟩
set_option maxRecDepth 40000 in
theorem gf_X8_132 : GF RX8 132 9 12 := ⟨by decide, by decide, by decide, mt5 86 (by rfl) rfl⟩
set_option maxRecDepth 40000 in
theorem gf_X8_135 : GF RX8 135 9 15 := ⟨by decide, by decide, by decide, mt5 89 (by rfl) rfl⟩
set_option maxRecDepth 40000 in
theorem gf_X8_139 : GF RX8 139 9 13 := ⟨by decide, by decide, by decide, mt5 87 (by rfl) rfl⟩
set_option maxRecDepth 40000 in
theorem gf_X8_142 : GF RX8 142 9 14 := ⟨by decide, by decide, by decide, mt5 88 (by rfl) rfl⟩
set_option maxRecDepth 40000 in
theorem gf_X8_145 : GF RX8 145 9 16 := ⟨by decide, by decide, by decide, mt5 90 (by rfl) rfl⟩
set_option maxRecDepth 40000 in
theorem gf_X8_148 : GF RX8 148 9 17 := ⟨by decide, by decide, by decide, mt5 91 (by rfl) rfl⟩
set_option maxRecDepth 40000 in
theorem gf_X8_151 : GF RX8 151 9 18 := ⟨by decide, by decide, by decide, mt5 92 (by rfl) rfl⟩
set_option maxRecDepth 40000 in
theorem gf_X8_168 : GF RX8 168 9 21 := ⟨by decide, by decide, by decide, mt5 95 (by rfl) rfl⟩
set_option maxRecDepth 40000 in
theorem gf_X8_17 : GF RX8 17 9 3 := ⟨by decide, by decide, by decide, mt5 77 (by rfl) rfl⟩
set_option maxRecDepth 40000 in
theorem gf_X8_20 : GF RX8 20 9 4 := ⟨by decide, by decide, by decide, mt5 78 (by rfl) rfl⟩
set_option maxRecDepth 40000 in
theorem gf_X8_210 : GF RX8 210 9 22 := ⟨by decide, by decide, by decide, mt5 96 (by rfl) rfl⟩
set_option maxRecDepth 40000 in
theorem gf_X8_23 : GF RX8 23 9 5 := ⟨by decide, by decide, by decide, mt5 79 (by rfl) rfl⟩
set_option maxRecDepth 40000 in
theorem gf_X8_26 : GF RX8 26 9 6 := ⟨by decide, by decide, by decide, mt5 80 (by rfl) rfl⟩
set_option maxRecDepth 40000 in
theorem gf_X8_264 : GF RX8 264 9 24 := ⟨by decide, by decide, by decide, mt5 98 (by rfl) rfl⟩
set_option maxRecDepth 40000 in
theorem gf_X8_271 : GF RX8 271 9 25 := ⟨by decide, by decide, by decide, mt5 99 (by rfl) rfl⟩
set_option maxRecDepth 40000 in
theorem gf_X8_274 : GF RX8 274 9 26 := ⟨by decide, by decide, by decide, mt5 100 (by rfl) rfl⟩
set_option maxRecDepth 40000 in
theorem gf_X8_277 : GF RX8 277 9 27 := ⟨by decide, by decide, by decide, mt5 101 (by rfl) rfl⟩
set_option maxRecDepth 40000 in
theorem gf_X8_280 : GF RX8 280 9 28 := ⟨by decide, by decide, by decide, mt5 102 (by rfl) rfl⟩
set_option maxRecDepth 40000 in
theorem gf_X8_283 : GF RX8 283 9 29 := ⟨by decide, by decide, by decide, mt5 103 (by rfl) rfl⟩
set_option maxRecDepth 40000 in
theorem gf_X8_29 : GF RX8 29 9 7 := ⟨by decide, by decide, by decide, mt5 81 (by rfl) rfl⟩
set_option maxRecDepth 40000 in
theorem gf_X8_32 : GF RX8 32 9 8 := ⟨by decide, by decide, by decide, mt5 82 (by rfl) rfl⟩
set_option maxRecDepth 40000 in
theorem gf_X8_35 : GF RX8 35 9 9 := ⟨by decide, by decide, by decide, mt5 83 (by rfl) rfl⟩
set_option maxRecDepth 40000 in
theorem gf_X8_352 : GF RX8 352 9 37 := ⟨by decide, by decide, by decide, mt5 111 (by rfl) rfl⟩
set_option maxRecDepth 40000 in
theorem gf_X8_367 : GF RX8 367 9 38 := ⟨by decide, by decide, by decide, mt5 112 (by rfl) rfl⟩
set_option maxRecDepth 40000 in
theorem gf_X8_373 : GF RX8 373 9 40 := ⟨by decide, by decide, by decide, mt5 113 (by rfl) rfl⟩
set_option maxRecDepth 40000 in
theorem gf_X8_38 : GF RX8 38 9 19 := ⟨by decide, by decide, by decide, mt5 93 (by rfl) rfl⟩
set_option maxRecDepth 40000 in
theorem gf_X8_41 : GF RX8 41 9 20 := ⟨by decide, by decide, by decide, mt5 94 (by rfl) rfl⟩
set_option maxRecDepth 40000 in
theorem gf_X8_411 : GF RX8 411 9 47 := ⟨by decide, by decide, by decide, mt5 120 (by rfl) rfl⟩
set_option maxRecDepth 40000 in
theorem gf_X8_44 : GF RX8 44 9 23 := ⟨by decide, by decide, by decide, mt5 97 (by rfl) rfl⟩
set_option maxRecDepth 40000 in
theorem gf_X8_456 : GF RX8 456 9 52 := ⟨by decide, by decide, by decide, mt5 125 (by rfl) rfl⟩
set_option maxRecDepth 40000 in
theorem gf_X8_47 : GF RX8 47 9 30 := ⟨by decide, by decide, by decide, mt5 104 (by rfl) rfl⟩
set_option maxRecDepth 40000 in
theorem gf_X8_483 : GF RX8 483 9 53 := ⟨by decide, by decide, by decide, mt5 126 (by rfl) rfl⟩
set_option maxRecDepth 40000 in
theorem gf_X8_50 : GF RX8 50 9 31 := ⟨by decide, by decide, by decide, mt5 105 (by rfl) rfl⟩
set_option maxRecDepth 40000 in
theorem gf_X8_53 : GF RX8 53 9 32 := ⟨by decide, by decide, by decide, mt5 106 (by rfl) rfl⟩
set_option maxRecDepth 40000 in
theorem gf_X8_56 : GF RX8 56 9 33 := ⟨by decide, by decide, by decide, mt5 107 (by rfl) rfl⟩
set_option maxRecDepth 40000 in
theorem gf_X8_59 : GF RX8 59 9 34 := ⟨by decide, by decide, by decide, mt5 108 (by rfl) rfl⟩
set_option maxRecDepth 40000 in
theorem gf_X8_62 : GF RX8 62 9 35 := ⟨by decide, by decide, by decide, mt5 109 (by rfl) rfl⟩
set_option maxRecDepth 40000 in
theorem gf_X8_65 : GF RX8 65 9 36 := ⟨by decide, by decide, by decide, mt5 110 (by rfl) rfl⟩
set_option maxRecDepth 40000 in
theorem gf_X8_68 : GF RX8 68 9 41 := ⟨by decide, by decide, by decide, mt5 114 (by rfl) rfl⟩
set_option maxRecDepth 40000 in
theorem gf_X8_7 : GF RX8 7 9 1 := ⟨by decide, by decide, by decide, mt5 75 (by rfl) rfl⟩
set_option maxRecDepth 40000 in
theorem gf_X8_71 : GF RX8 71 9 42 := ⟨by decide, by decide, by decide, mt5 115 (by rfl) rfl⟩
set_option maxRecDepth 40000 in
theorem gf_X8_74 : GF RX8 74 9 43 := ⟨by decide, by decide, by decide, mt5 116 (by rfl) rfl⟩
set_option maxRecDepth 40000 in
theorem gf_X8_77 : GF RX8 77 9 44 := ⟨by decide, by decide, by decide, mt5 117 (by rfl) rfl⟩
set_option maxRecDepth 40000 in
theorem gf_X8_80 : GF RX8 80 9 45 := ⟨by decide, by decide, by decide, mt5 118 (by rfl) rfl⟩
set_option maxRecDepth 40000 in
theorem gf_X8_83 : GF RX8 83 9 46 := ⟨by decide, by decide, by decide, mt5 119 (by rfl) rfl⟩
set_option maxRecDepth 40000 in
theorem gf_X8_86 : GF RX8 86 9 48 := ⟨by decide, by decide, by decide, mt5 121 (by rfl) rfl⟩
set_option maxRecDepth 40000 in
theorem gf_X8_89 : GF RX8 89 9 49 := ⟨by decide, by decide, by decide, mt5 122 (by rfl) rfl⟩
set_option maxRecDepth 40000 in
theorem gf_X8_92 : GF RX8 92 9 50 := ⟨by decide, by decide, by decide, mt5 123 (by rfl) rfl⟩
set_option maxRecDepth 40000 in
theorem gf_X8_95 : GF RX8 95 9 51 := ⟨by decide, by decide, by decide, mt5 124 (by rfl) rfl⟩
set_option maxRecDepth 40000 in
theorem gf_X8_98 : GF RX8 98 9 54 := ⟨by decide, by decide, by decide, mt5 127 (by rfl) rfl⟩
set_option maxRecDepth 40000 in
theorem lk_J13_311 : Cond.methodLink RJ13 311 yJ6_numberOfTrailingZeros_0f7a4 ∈ gTbl := mt3 239 (by rfl) rfl
set_option maxRecDepth 40000 in
theorem lk_J7_13 : Cond.methodLink RJ7 13 yJ7_rangeCheck_23922 ∈ gTbl := mt3 198 (by rfl) rfl
set_option maxRecDepth 40000 in
theorem lk_L_101 : Cond.methodLink RL 101 yX8_heard ∈ gTbl := mt7 105 (by rfl) rfl
set_option maxRecDepth 40000 in
theorem lk_L_102 : Cond.methodLink RL 102 yX7_rule ∈ gTbl := mt4 97 (by rfl) rfl
set_option maxRecDepth 40000 in
theorem lk_L_105 : Cond.methodLink RL 105 yX8_rule ∈ gTbl := mt7 109 (by rfl) rfl
set_option maxRecDepth 40000 in
theorem lk_L_106 : Cond.methodLink RL 106 yX7_votes ∈ gTbl := mt4 101 (by rfl) rfl
set_option maxRecDepth 40000 in
theorem lk_L_109 : Cond.methodLink RL 109 yX8_votes ∈ gTbl := mt7 125 (by rfl) rfl
set_option maxRecDepth 40000 in
theorem lk_L_110 : Cond.methodLink RL 110 yX7_sway ∈ gTbl := mt4 124 (by rfl) rfl
set_option maxRecDepth 40000 in
theorem lk_L_113 : Cond.methodLink RL 113 yX8_sway ∈ gTbl := mt7 149 (by rfl) rfl
set_option maxRecDepth 40000 in
theorem lk_L_114 : Cond.methodLink RL 114 yX7_sold ∈ gTbl := mt4 136 (by rfl) rfl
set_option maxRecDepth 40000 in
theorem lk_L_117 : Cond.methodLink RL 117 yX8_sold ∈ gTbl := mt7 157 (by rfl) rfl
set_option maxRecDepth 40000 in
theorem lk_L_118 : Cond.methodLink RL 118 yX7_seats ∈ gTbl := mt4 154 (by rfl) rfl
set_option maxRecDepth 40000 in
theorem lk_L_12 : Cond.methodLink RL 12 yX8_init ∈ gTbl := mt5 70 (by rfl) rfl
set_option maxRecDepth 40000 in
theorem lk_L_121 : Cond.methodLink RL 121 yX8_seats ∈ gTbl := mt7 169 (by rfl) rfl
set_option maxRecDepth 40000 in
theorem lk_L_122 : Cond.methodLink RL 122 yX7_claim ∈ gTbl := mt4 183 (by rfl) rfl
set_option maxRecDepth 40000 in
theorem lk_L_125 : Cond.methodLink RL 125 yX8_claim ∈ gTbl := mt7 185 (by rfl) rfl
set_option maxRecDepth 40000 in
theorem lk_L_126 : Cond.methodLink RL 126 yX7_lips ∈ gTbl := mt4 187 (by rfl) rfl
set_option maxRecDepth 40000 in
theorem lk_L_129 : Cond.methodLink RL 129 yX8_lips ∈ gTbl := mt7 201 (by rfl) rfl
set_option maxRecDepth 40000 in
theorem lk_L_13 : Cond.methodLink RL 13 yX7_feed ∈ gTbl := mt2 57 (by rfl) rfl
set_option maxRecDepth 40000 in
theorem lk_L_130 : Cond.methodLink RL 130 yX7_drawn ∈ gTbl := mt4 203 (by rfl) rfl
set_option maxRecDepth 40000 in
theorem lk_L_133 : Cond.methodLink RL 133 yX8_drawn ∈ gTbl := mt7 225 (by rfl) rfl
set_option maxRecDepth 40000 in
theorem lk_L_134 : Cond.methodLink RL 134 yX7_hush ∈ gTbl := mt4 220 (by rfl) rfl
set_option maxRecDepth 40000 in
theorem lk_L_137 : Cond.methodLink RL 137 yX8_hush ∈ gTbl := mt7 234 (by rfl) rfl
set_option maxRecDepth 40000 in
theorem lk_L_138 : Cond.methodLink RL 138 yX7_bench ∈ gTbl := mt4 224 (by rfl) rfl
set_option maxRecDepth 40000 in
theorem lk_L_141 : Cond.methodLink RL 141 yX8_bench ∈ gTbl := mt7 238 (by rfl) rfl
set_option maxRecDepth 40000 in
theorem lk_L_142 : Cond.methodLink RL 142 yX7_idle ∈ gTbl := mt4 232 (by rfl) rfl
set_option maxRecDepth 40000 in
theorem lk_L_145 : Cond.methodLink RL 145 yX8_idle ∈ gTbl := mt8 10 (by rfl) rfl
set_option maxRecDepth 40000 in
theorem lk_L_146 : Cond.methodLink RL 146 yX7_persuade ∈ gTbl := mt4 236 (by rfl) rfl
set_option maxRecDepth 40000 in
theorem lk_L_149 : Cond.methodLink RL 149 yX8_persuade ∈ gTbl := mt8 14 (by rfl) rfl
set_option maxRecDepth 40000 in
theorem lk_L_150 : Cond.methodLink RL 150 yX7_areas ∈ gTbl := mt5 3 (by rfl) rfl
set_option maxRecDepth 40000 in
theorem lk_L_153 : Cond.methodLink RL 153 yX8_areas ∈ gTbl := mt8 18 (by rfl) rfl
set_option maxRecDepth 40000 in
theorem lk_L_154 : Cond.methodLink RL 154 yX7_mouth ∈ gTbl := mt5 32 (by rfl) rfl
set_option maxRecDepth 40000 in
theorem lk_L_157 : Cond.methodLink RL 157 yX8_mouth ∈ gTbl := mt8 30 (by rfl) rfl
set_option maxRecDepth 40000 in
theorem lk_L_158 : Cond.methodLink RL 158 yX7_rift ∈ gTbl := mt5 41 (by rfl) rfl
set_option maxRecDepth 40000 in
theorem lk_L_161 : Cond.methodLink RL 161 yX8_rift ∈ gTbl := mt8 34 (by rfl) rfl
set_option maxRecDepth 40000 in
theorem lk_L_162 : Cond.methodLink RL 162 yX7_count ∈ gTbl := mt5 45 (by rfl) rfl
set_option maxRecDepth 40000 in
theorem lk_L_165 : Cond.methodLink RL 165 yX8_count ∈ gTbl := mt8 38 (by rfl) rfl
set_option maxRecDepth 40000 in
theorem lk_L_166 : Cond.methodLink RL 166 yX7_image ∈ gTbl := mt5 49 (by rfl) rfl
set_option maxRecDepth 40000 in
theorem lk_L_17 : Cond.methodLink RL 17 yX8_feed ∈ gTbl := mt6 0 (by rfl) rfl
set_option maxRecDepth 40000 in
theorem lk_L_170 : Cond.methodLink RL 170 yX8_image ∈ gTbl := mt8 42 (by rfl) rfl
set_option maxRecDepth 40000 in
theorem lk_L_171 : Cond.methodLink RL 171 yX7_again ∈ gTbl := mt5 64 (by rfl) rfl
set_option maxRecDepth 40000 in
theorem lk_L_174 : Cond.methodLink RL 174 yX8_again ∈ gTbl := mt8 53 (by rfl) rfl
set_option maxRecDepth 40000 in
theorem lk_L_18 : Cond.methodLink RL 18 yX7_end ∈ gTbl := mt2 65 (by rfl) rfl
set_option maxRecDepth 40000 in
theorem lk_L_22 : Cond.methodLink RL 22 yX8_end ∈ gTbl := mt6 8 (by rfl) rfl
set_option maxRecDepth 40000 in
theorem lk_L_23 : Cond.methodLink RL 23 yX7_text ∈ gTbl := mt2 69 (by rfl) rfl
set_option maxRecDepth 40000 in
theorem lk_L_27 : Cond.methodLink RL 27 yX8_text ∈ gTbl := mt6 15 (by rfl) rfl
set_option maxRecDepth 40000 in
theorem lk_L_28 : Cond.methodLink RL 28 yX7_fault ∈ gTbl := mt3 14 (by rfl) rfl
set_option maxRecDepth 40000 in
theorem lk_L_31 : Cond.methodLink RL 31 yX8_fault ∈ gTbl := mt6 130 (by rfl) rfl
set_option maxRecDepth 40000 in
theorem lk_L_32 : Cond.methodLink RL 32 yX7_court ∈ gTbl := mt3 18 (by rfl) rfl
set_option maxRecDepth 40000 in
theorem lk_L_35 : Cond.methodLink RL 35 yX8_court ∈ gTbl := mt6 134 (by rfl) rfl
set_option maxRecDepth 40000 in
theorem lk_L_36 : Cond.methodLink RL 36 yX7_wall ∈ gTbl := mt3 80 (by rfl) rfl
set_option maxRecDepth 40000 in
theorem lk_L_40 : Cond.methodLink RL 40 yX8_wall ∈ gTbl := mt6 208 (by rfl) rfl
set_option maxRecDepth 40000 in
theorem lk_L_41 : Cond.methodLink RL 41 yX7_judge ∈ gTbl := mt3 87 (by rfl) rfl
set_option maxRecDepth 40000 in
theorem lk_L_45 : Cond.methodLink RL 45 yX8_judge ∈ gTbl := mt6 216 (by rfl) rfl
set_option maxRecDepth 40000 in
theorem lk_L_46 : Cond.methodLink RL 46 yX7_pleader ∈ gTbl := mt3 97 (by rfl) rfl
set_option maxRecDepth 40000 in
theorem lk_L_50 : Cond.methodLink RL 50 yX8_pleader ∈ gTbl := mt6 224 (by rfl) rfl
set_option maxRecDepth 40000 in
theorem lk_L_51 : Cond.methodLink RL 51 yX7_far ∈ gTbl := mt3 105 (by rfl) rfl
set_option maxRecDepth 40000 in
theorem lk_L_54 : Cond.methodLink RL 54 yX8_far ∈ gTbl := mt6 232 (by rfl) rfl
set_option maxRecDepth 40000 in
theorem lk_L_55 : Cond.methodLink RL 55 yX7_comes ∈ gTbl := mt3 118 (by rfl) rfl
set_option maxRecDepth 40000 in
theorem lk_L_59 : Cond.methodLink RL 59 yX8_comes ∈ gTbl := mt6 236 (by rfl) rfl
set_option maxRecDepth 40000 in
theorem lk_L_60 : Cond.methodLink RL 60 yX7_ears ∈ gTbl := mt3 130 (by rfl) rfl
set_option maxRecDepth 40000 in
theorem lk_L_63 : Cond.methodLink RL 63 yX8_ears ∈ gTbl := mt7 0 (by rfl) rfl
set_option maxRecDepth 40000 in
theorem lk_L_64 : Cond.methodLink RL 64 yX7_pulpit ∈ gTbl := mt3 141 (by rfl) rfl
set_option maxRecDepth 40000 in
theorem lk_L_68 : Cond.methodLink RL 68 yX8_pulpit ∈ gTbl := mt7 7 (by rfl) rfl
set_option maxRecDepth 40000 in
theorem lk_L_69 : Cond.methodLink RL 69 yX7_near ∈ gTbl := mt3 151 (by rfl) rfl
set_option maxRecDepth 40000 in
theorem lk_L_72 : Cond.methodLink RL 72 yX8_near ∈ gTbl := mt7 14 (by rfl) rfl
set_option maxRecDepth 40000 in
theorem lk_L_73 : Cond.methodLink RL 73 yX7_round ∈ gTbl := mt3 156 (by rfl) rfl
set_option maxRecDepth 40000 in
theorem lk_L_76 : Cond.methodLink RL 76 yX8_round ∈ gTbl := mt7 18 (by rfl) rfl
set_option maxRecDepth 40000 in
theorem lk_L_77 : Cond.methodLink RL 77 yX7_echo ∈ gTbl := mt4 3 (by rfl) rfl
set_option maxRecDepth 40000 in
theorem lk_L_80 : Cond.methodLink RL 80 yX8_echo ∈ gTbl := mt7 37 (by rfl) rfl
set_option maxRecDepth 40000 in
theorem lk_L_81 : Cond.methodLink RL 81 yX7_deed ∈ gTbl := mt4 8 (by rfl) rfl
set_option maxRecDepth 40000 in
theorem lk_L_84 : Cond.methodLink RL 84 yX8_deed ∈ gTbl := mt7 41 (by rfl) rfl
set_option maxRecDepth 40000 in
theorem lk_L_85 : Cond.methodLink RL 85 yX7_stop ∈ gTbl := mt4 23 (by rfl) rfl
set_option maxRecDepth 40000 in
theorem lk_L_88 : Cond.methodLink RL 88 yX8_stop ∈ gTbl := mt7 53 (by rfl) rfl
set_option maxRecDepth 40000 in
theorem lk_L_89 : Cond.methodLink RL 89 yX7_stands ∈ gTbl := mt4 46 (by rfl) rfl
set_option maxRecDepth 40000 in
theorem lk_L_9 : Cond.methodLink RL 9 yX7_init ∈ gTbl := mt1 22 (by rfl) rfl
set_option maxRecDepth 40000 in
theorem lk_L_93 : Cond.methodLink RL 93 yX8_stands ∈ gTbl := mt7 69 (by rfl) rfl
set_option maxRecDepth 40000 in
theorem lk_L_94 : Cond.methodLink RL 94 yX7_knows ∈ gTbl := mt4 50 (by rfl) rfl
set_option maxRecDepth 40000 in
theorem lk_L_97 : Cond.methodLink RL 97 yX8_knows ∈ gTbl := mt7 77 (by rfl) rfl
set_option maxRecDepth 40000 in
theorem lk_L_98 : Cond.methodLink RL 98 yX7_heard ∈ gTbl := mt4 88 (by rfl) rfl
set_option maxRecDepth 40000 in
theorem lk_X0_100 : Cond.methodLink RX0 100 yX0_grow ∈ gTbl := mt3 39 (by rfl) rfl
set_option maxRecDepth 40000 in
theorem lk_X0_104 : Cond.methodLink RX0 104 yJ13_lowestOneBit_067f4 ∈ gTbl := mt5 11 (by rfl) rfl
set_option maxRecDepth 40000 in
theorem lk_X0_107 : Cond.methodLink RX0 107 yX0_connected ∈ gTbl := mt5 14 (by rfl) rfl
set_option maxRecDepth 40000 in
theorem lk_X0_110 : Cond.methodLink RX0 110 yX0_layOf ∈ gTbl := mt3 30 (by rfl) rfl
set_option maxRecDepth 40000 in
theorem lk_X0_114 : Cond.methodLink RX0 114 yX0_layVia ∈ gTbl := mt3 43 (by rfl) rfl
set_option maxRecDepth 40000 in
theorem lk_X0_118 : Cond.methodLink RX0 118 yX0_sidesOf ∈ gTbl := mt3 65 (by rfl) rfl
set_option maxRecDepth 40000 in
theorem lk_X0_122 : Cond.methodLink RX0 122 yX0_faces ∈ gTbl := mt3 68 (by rfl) rfl
set_option maxRecDepth 40000 in
theorem lk_X0_125 : Cond.methodLink RX0 125 yX0_turned ∈ gTbl := mt3 72 (by rfl) rfl
set_option maxRecDepth 40000 in
theorem lk_X0_128 : Cond.methodLink RX0 128 yX0_audibleFrom ∈ gTbl := mt3 75 (by rfl) rfl
set_option maxRecDepth 40000 in
theorem lk_X0_132 : Cond.methodLink RX0 132 yX0_audible ∈ gTbl := mt3 61 (by rfl) rfl
set_option maxRecDepth 40000 in
theorem lk_X0_135 : Cond.methodLink RX0 135 yJ13_bitCount_95d88 ∈ gTbl := mt3 79 (by rfl) rfl
set_option maxRecDepth 40000 in
theorem lk_X0_138 : Cond.methodLink RX0 138 yX0_blind ∈ gTbl := mt3 57 (by rfl) rfl
set_option maxRecDepth 40000 in
theorem lk_X0_3 : Cond.methodLink RX0 3 objectInit ∈ gTbl := mt1 42 (by rfl) rfl
set_option maxRecDepth 40000 in
theorem lk_X0_45 : Cond.methodLink RX0 45 yJ7_fill_53178 ∈ gTbl := mt2 85 (by rfl) rfl
set_option maxRecDepth 40000 in
theorem lk_X0_51 : Cond.methodLink RX0 51 arraycopyName ∈ gTbl := mt5 26 (by rfl) rfl
set_option maxRecDepth 40000 in
theorem lk_X0_57 : Cond.methodLink RX0 57 yX0_measure ∈ gTbl := mt5 29 (by rfl) rfl
set_option maxRecDepth 40000 in
theorem lk_X0_62 : Cond.methodLink RX0 62 yX0_all ∈ gTbl := mt3 8 (by rfl) rfl
set_option maxRecDepth 40000 in
theorem lk_X0_83 : Cond.methodLink RX0 83 yX0_of ∈ gTbl := mt3 34 (by rfl) rfl
set_option maxRecDepth 40000 in
theorem lk_X0_87 : Cond.methodLink RX0 87 yX0_beside ∈ gTbl := mt3 35 (by rfl) rfl
set_option maxRecDepth 40000 in
theorem lk_X0_91 : Cond.methodLink RX0 91 yJ13_numberOfTrailingZeros_95d88 ∈ gTbl := mt3 236 (by rfl) rfl
set_option maxRecDepth 40000 in
theorem lk_X0_97 : Cond.methodLink RX0 97 yX0_stepTo ∈ gTbl := mt4 199 (by rfl) rfl
set_option maxRecDepth 40000 in
theorem lk_X1_102 : Cond.methodLink RX1 102 yX1_ownSides ∈ gTbl := mt4 63 (by rfl) rfl
set_option maxRecDepth 40000 in
theorem lk_X1_105 : Cond.methodLink RX1 105 yX1_learnedFrom ∈ gTbl := mt4 132 (by rfl) rfl
set_option maxRecDepth 40000 in
theorem lk_X1_111 : Cond.methodLink RX1 111 yX1_learned ∈ gTbl := mt4 58 (by rfl) rfl
set_option maxRecDepth 40000 in
theorem lk_X1_114 : Cond.methodLink RX1 114 yJ6_bitCount_0f7a4 ∈ gTbl := mt4 148 (by rfl) rfl
set_option maxRecDepth 40000 in
theorem lk_X1_119 : Cond.methodLink RX1 119 yX1_hearers ∈ gTbl := mt5 40 (by rfl) rfl
set_option maxRecDepth 40000 in
theorem lk_X1_122 : Cond.methodLink RX1 122 yX1_lossOfSold ∈ gTbl := mt4 144 (by rfl) rfl
set_option maxRecDepth 40000 in
theorem lk_X1_125 : Cond.methodLink RX1 125 yX0_ray ∈ gTbl := mt4 195 (by rfl) rfl
set_option maxRecDepth 40000 in
theorem lk_X1_132 : Cond.methodLink RX1 132 yX1_drawBelow ∈ gTbl := mt4 211 (by rfl) rfl
set_option maxRecDepth 40000 in
theorem lk_X1_3 : Cond.methodLink RX1 3 objectInit ∈ gTbl := mt1 226 (by rfl) rfl
set_option maxRecDepth 40000 in
theorem lk_X1_56 : Cond.methodLink RX1 56 yX1_canBe ∈ gTbl := mt4 35 (by rfl) rfl
set_option maxRecDepth 40000 in
theorem lk_X1_60 : Cond.methodLink RX1 60 yX2_at ∈ gTbl := mt4 39 (by rfl) rfl
set_option maxRecDepth 40000 in
theorem lk_X1_64 : Cond.methodLink RX1 64 yX0_hasPleader ∈ gTbl := mt4 40 (by rfl) rfl
set_option maxRecDepth 40000 in
theorem lk_X1_67 : Cond.methodLink RX1 67 yX1_step ∈ gTbl := mt4 41 (by rfl) rfl
set_option maxRecDepth 40000 in
theorem lk_X1_71 : Cond.methodLink RX1 71 yX0_stepTo ∈ gTbl := mt4 45 (by rfl) rfl
set_option maxRecDepth 40000 in
theorem lk_X1_74 : Cond.methodLink RX1 74 yX0_audibleFrom ∈ gTbl := mt4 82 (by rfl) rfl
set_option maxRecDepth 40000 in
theorem lk_X1_78 : Cond.methodLink RX1 78 yX1_isSaid ∈ gTbl := mt4 72 (by rfl) rfl
set_option maxRecDepth 40000 in
theorem lk_X1_81 : Cond.methodLink RX1 81 yX0_faces ∈ gTbl := mt4 76 (by rfl) rfl
set_option maxRecDepth 40000 in
theorem lk_X1_84 : Cond.methodLink RX1 84 yX0_turned ∈ gTbl := mt4 77 (by rfl) rfl
set_option maxRecDepth 40000 in
theorem lk_X1_87 : Cond.methodLink RX1 87 yX1_isHeard ∈ gTbl := mt4 78 (by rfl) rfl
set_option maxRecDepth 40000 in
theorem lk_X1_91 : Cond.methodLink RX1 91 yX0_of ∈ gTbl := mt4 62 (by rfl) rfl
set_option maxRecDepth 40000 in
theorem lk_X1_94 : Cond.methodLink RX1 94 yX1_wordsOn ∈ gTbl := mt4 68 (by rfl) rfl
set_option maxRecDepth 40000 in
theorem lk_X1_98 : Cond.methodLink RX1 98 yX0_sidesOf ∈ gTbl := mt4 67 (by rfl) rfl
set_option maxRecDepth 40000 in
theorem lk_X2_19 : Cond.methodLink RX2 19 yX2_init ∈ gTbl := mt1 118 (by rfl) rfl
set_option maxRecDepth 40000 in
theorem lk_X2_25 : Cond.methodLink RX2 25 arraycopyName ∈ gTbl := mt5 63 (by rfl) rfl
set_option maxRecDepth 40000 in
theorem lk_X2_3 : Cond.methodLink RX2 3 objectInit ∈ gTbl := mt1 121 (by rfl) rfl
set_option maxRecDepth 40000 in
theorem lk_X3_101 : Cond.methodLink RX3 101 yX3_isOneTooMany ∈ gTbl := mt2 183 (by rfl) rfl
set_option maxRecDepth 40000 in
theorem lk_X3_104 : Cond.methodLink RX3 104 yX3_note ∈ gTbl := mt2 191 (by rfl) rfl
set_option maxRecDepth 40000 in
theorem lk_X3_108 : Cond.methodLink RX3 108 yJ7_fill_53178 ∈ gTbl := mt2 195 (by rfl) rfl
set_option maxRecDepth 40000 in
theorem lk_X3_117 : Cond.methodLink RX3 117 yX3_readNumber ∈ gTbl := mt2 198 (by rfl) rfl
set_option maxRecDepth 40000 in
theorem lk_X3_121 : Cond.methodLink RX3 121 yX3_keepLine ∈ gTbl := mt2 204 (by rfl) rfl
set_option maxRecDepth 40000 in
theorem lk_X3_127 : Cond.methodLink RX3 127 yX3_wordOf ∈ gTbl := mt2 116 (by rfl) rfl
set_option maxRecDepth 40000 in
theorem lk_X3_131 : Cond.methodLink RX3 131 yX3_isHere ∈ gTbl := mt2 131 (by rfl) rfl
set_option maxRecDepth 40000 in
theorem lk_X3_159 : Cond.methodLink RX3 159 yJ0_length_8abf5 ∈ gTbl := mt2 135 (by rfl) rfl
set_option maxRecDepth 40000 in
theorem lk_X3_164 : Cond.methodLink RX3 164 yJ0_charAt_5068e ∈ gTbl := mt2 145 (by rfl) rfl
set_option maxRecDepth 40000 in
theorem lk_X3_174 : Cond.methodLink RX3 174 yX2_isFull ∈ gTbl := mt2 187 (by rfl) rfl
set_option maxRecDepth 40000 in
theorem lk_X3_190 : Cond.methodLink RX3 190 yX3_keepJudge ∈ gTbl := mt2 208 (by rfl) rfl
set_option maxRecDepth 40000 in
theorem lk_X3_196 : Cond.methodLink RX3 196 yX3_keepTwin ∈ gTbl := mt2 212 (by rfl) rfl
set_option maxRecDepth 40000 in
theorem lk_X3_199 : Cond.methodLink RX3 199 yX3_keepRow ∈ gTbl := mt2 216 (by rfl) rfl
set_option maxRecDepth 40000 in
theorem lk_X3_210 : Cond.methodLink RX3 210 yX2_put ∈ gTbl := mt2 222 (by rfl) rfl
set_option maxRecDepth 40000 in
theorem lk_X3_216 : Cond.methodLink RX3 216 yX0_all ∈ gTbl := mt2 230 (by rfl) rfl
set_option maxRecDepth 40000 in
theorem lk_X3_222 : Cond.methodLink RX3 222 yX3_isSomebodyInWall ∈ gTbl := mt2 236 (by rfl) rfl
set_option maxRecDepth 40000 in
theorem lk_X3_225 : Cond.methodLink RX3 225 yX0_measure ∈ gTbl := mt3 4 (by rfl) rfl
set_option maxRecDepth 40000 in
theorem lk_X3_228 : Cond.methodLink RX3 228 yX0_of ∈ gTbl := mt3 0 (by rfl) rfl
set_option maxRecDepth 40000 in
theorem lk_X3_28 : Cond.methodLink RX3 28 yX2_ofSort ∈ gTbl := mt1 176 (by rfl) rfl
set_option maxRecDepth 40000 in
theorem lk_X3_3 : Cond.methodLink RX3 3 objectInit ∈ gTbl := mt1 172 (by rfl) rfl
set_option maxRecDepth 40000 in
theorem lk_X3_56 : Cond.methodLink RX3 56 yX3_clearDraft ∈ gTbl := mt2 77 (by rfl) rfl
set_option maxRecDepth 40000 in
theorem lk_X3_60 : Cond.methodLink RX3 60 yX3_advance ∈ gTbl := mt2 88 (by rfl) rfl
set_option maxRecDepth 40000 in
theorem lk_X3_66 : Cond.methodLink RX3 66 yX3_readLine ∈ gTbl := mt2 106 (by rfl) rfl
set_option maxRecDepth 40000 in
theorem lk_X3_73 : Cond.methodLink RX3 73 yX3_finishCourt ∈ gTbl := mt2 226 (by rfl) rfl
set_option maxRecDepth 40000 in
theorem lk_X3_76 : Cond.methodLink RX3 76 yX0_reset ∈ gTbl := mt2 81 (by rfl) rfl
set_option maxRecDepth 40000 in
theorem lk_X3_82 : Cond.methodLink RX3 82 yX3_isLetter ∈ gTbl := mt2 92 (by rfl) rfl
set_option maxRecDepth 40000 in
theorem lk_X3_85 : Cond.methodLink RX3 85 yX3_passWord ∈ gTbl := mt2 95 (by rfl) rfl
set_option maxRecDepth 40000 in
theorem lk_X3_88 : Cond.methodLink RX3 88 yX3_isDigit ∈ gTbl := mt2 99 (by rfl) rfl
set_option maxRecDepth 40000 in
theorem lk_X3_91 : Cond.methodLink RX3 91 yX3_passDigits ∈ gTbl := mt2 102 (by rfl) rfl
set_option maxRecDepth 40000 in
theorem lk_X3_97 : Cond.methodLink RX3 97 yX3_formHere ∈ gTbl := mt2 110 (by rfl) rfl
set_option maxRecDepth 40000 in
theorem lk_X4_3 : Cond.methodLink RX4 3 objectInit ∈ gTbl := mt2 26 (by rfl) rfl
set_option maxRecDepth 40000 in
theorem lk_X4_31 : Cond.methodLink RX4 31 yX1_knownOnSeat ∈ gTbl := mt4 162 (by rfl) rfl
set_option maxRecDepth 40000 in
theorem lk_X4_39 : Cond.methodLink RX4 39 yX4_worthWith ∈ gTbl := mt4 167 (by rfl) rfl
set_option maxRecDepth 40000 in
theorem lk_X4_42 : Cond.methodLink RX4 42 Lib.Math.max.name ∈ gTbl := mt4 172 (by rfl) rfl
set_option maxRecDepth 40000 in
theorem lk_X4_47 : Cond.methodLink RX4 47 yJ6_bitCount_0f7a4 ∈ gTbl := mt4 171 (by rfl) rfl
set_option maxRecDepth 40000 in
theorem lk_X4_53 : Cond.methodLink RX4 53 yX4_leastSeat ∈ gTbl := mt4 179 (by rfl) rfl
set_option maxRecDepth 40000 in
theorem lk_X5_3 : Cond.methodLink RX5 3 objectInit ∈ gTbl := mt1 33 (by rfl) rfl
set_option maxRecDepth 40000 in
theorem lk_X5_36 : Cond.methodLink RX5 36 yX5_slotOf ∈ gTbl := mt1 110 (by rfl) rfl
set_option maxRecDepth 40000 in
theorem lk_X5_40 : Cond.methodLink RX5 40 yX2_ofSort ∈ gTbl := mt1 113 (by rfl) rfl
set_option maxRecDepth 40000 in
theorem lk_X5_47 : Cond.methodLink RX5 47 arraycopyName ∈ gTbl := mt5 57 (by rfl) rfl
set_option maxRecDepth 40000 in
theorem lk_X5_56 : Cond.methodLink RX5 56 yX0_copyFrom ∈ gTbl := mt5 58 (by rfl) rfl
set_option maxRecDepth 40000 in
theorem lk_X5_60 : Cond.methodLink RX5 60 yX2_copyFrom ∈ gTbl := mt5 59 (by rfl) rfl
set_option maxRecDepth 40000 in
theorem lk_X6_3 : Cond.methodLink RX6 3 objectInit ∈ gTbl := mt3 165 (by rfl) rfl
set_option maxRecDepth 40000 in
theorem lk_X6_34 : Cond.methodLink RX6 34 yX6_layBands ∈ gTbl := mt3 186 (by rfl) rfl
set_option maxRecDepth 40000 in
theorem lk_X6_38 : Cond.methodLink RX6 38 yJ7_fill_bad5a ∈ gTbl := mt3 195 (by rfl) rfl
set_option maxRecDepth 40000 in
theorem lk_X6_44 : Cond.methodLink RX6 44 yX6_spread ∈ gTbl := mt3 201 (by rfl) rfl
set_option maxRecDepth 40000 in
theorem lk_X6_47 : Cond.methodLink RX6 47 yX6_prune ∈ gTbl := mt3 210 (by rfl) rfl
set_option maxRecDepth 40000 in
theorem lk_X6_50 : Cond.methodLink RX6 50 yJ7_fill_d0a16 ∈ gTbl := mt3 190 (by rfl) rfl
set_option maxRecDepth 40000 in
theorem lk_X6_53 : Cond.methodLink RX6 53 yX0_isOpen ∈ gTbl := mt3 193 (by rfl) rfl
set_option maxRecDepth 40000 in
theorem lk_X6_57 : Cond.methodLink RX6 57 yX0_earsAt ∈ gTbl := mt3 194 (by rfl) rfl
set_option maxRecDepth 40000 in
theorem lk_X6_61 : Cond.methodLink RX6 61 yX0_grow ∈ gTbl := mt3 205 (by rfl) rfl
set_option maxRecDepth 40000 in
theorem lk_X6_65 : Cond.methodLink RX6 65 yX6_band ∈ gTbl := mt3 206 (by rfl) rfl
set_option maxRecDepth 40000 in
theorem lk_X6_69 : Cond.methodLink RX6 69 yX6_leading ∈ gTbl := mt3 214 (by rfl) rfl
set_option maxRecDepth 40000 in
theorem lk_X6_72 : Cond.methodLink RX6 72 yX6_earsOn ∈ gTbl := mt3 222 (by rfl) rfl
set_option maxRecDepth 40000 in
theorem lk_X6_76 : Cond.methodLink RX6 76 yX6_firstAct ∈ gTbl := mt3 227 (by rfl) rfl
set_option maxRecDepth 40000 in
theorem lk_X6_80 : Cond.methodLink RX6 80 yX0_stepTo ∈ gTbl := mt3 232 (by rfl) rfl
set_option maxRecDepth 40000 in
theorem lk_X6_87 : Cond.methodLink RX6 87 yX0_beside ∈ gTbl := mt3 231 (by rfl) rfl
set_option maxRecDepth 40000 in
theorem lk_X7_1 : Cond.methodLink RX7 1 objectInit ∈ gTbl := mt1 25 (by rfl) rfl
set_option maxRecDepth 40000 in
theorem lk_X7_103 : Cond.methodLink RX7 103 yX1_play ∈ gTbl := mt4 31 (by rfl) rfl
set_option maxRecDepth 40000 in
theorem lk_X7_117 : Cond.methodLink RX7 117 yJ13_bitCount_95d88 ∈ gTbl := mt3 47 (by rfl) rfl
set_option maxRecDepth 40000 in
theorem lk_X7_129 : Cond.methodLink RX7 129 yX0_quarter ∈ gTbl := mt3 53 (by rfl) rfl
set_option maxRecDepth 40000 in
theorem lk_X7_133 : Cond.methodLink RX7 133 yX7_has ∈ gTbl := mt3 84 (by rfl) rfl
set_option maxRecDepth 40000 in
theorem lk_X7_137 : Cond.methodLink RX7 137 yX0_hasJudge ∈ gTbl := mt3 91 (by rfl) rfl
set_option maxRecDepth 40000 in
theorem lk_X7_141 : Cond.methodLink RX7 141 yX0_of ∈ gTbl := mt3 95 (by rfl) rfl
set_option maxRecDepth 40000 in
theorem lk_X7_144 : Cond.methodLink RX7 144 yX0_faces ∈ gTbl := mt3 96 (by rfl) rfl
set_option maxRecDepth 40000 in
theorem lk_X7_147 : Cond.methodLink RX7 147 yX0_hasPleader ∈ gTbl := mt3 101 (by rfl) rfl
set_option maxRecDepth 40000 in
theorem lk_X7_156 : Cond.methodLink RX7 156 yX0_isOpen ∈ gTbl := mt3 109 (by rfl) rfl
set_option maxRecDepth 40000 in
theorem lk_X7_159 : Cond.methodLink RX7 159 yX0_steps ∈ gTbl := mt3 114 (by rfl) rfl
set_option maxRecDepth 40000 in
theorem lk_X7_163 : Cond.methodLink RX7 163 yX7_isHour ∈ gTbl := mt3 122 (by rfl) rfl
set_option maxRecDepth 40000 in
theorem lk_X7_166 : Cond.methodLink RX7 166 yX0_sidesFrom ∈ gTbl := mt3 125 (by rfl) rfl
set_option maxRecDepth 40000 in
theorem lk_X7_169 : Cond.methodLink RX7 169 yX0_turned ∈ gTbl := mt3 129 (by rfl) rfl
set_option maxRecDepth 40000 in
theorem lk_X7_172 : Cond.methodLink RX7 172 yX7_isLoud ∈ gTbl := mt3 134 (by rfl) rfl
set_option maxRecDepth 40000 in
theorem lk_X7_175 : Cond.methodLink RX7 175 yX0_earsAt ∈ gTbl := mt3 137 (by rfl) rfl
set_option maxRecDepth 40000 in
theorem lk_X7_179 : Cond.methodLink RX7 179 yJ6_bitCount_0f7a4 ∈ gTbl := mt3 145 (by rfl) rfl
set_option maxRecDepth 40000 in
theorem lk_X7_184 : Cond.methodLink RX7 184 yX0_audible ∈ gTbl := mt3 155 (by rfl) rfl
set_option maxRecDepth 40000 in
theorem lk_X7_195 : Cond.methodLink RX7 195 yX6_search ∈ gTbl := mt3 182 (by rfl) rfl
set_option maxRecDepth 40000 in
theorem lk_X7_199 : Cond.methodLink RX7 199 yX6_actAt ∈ gTbl := mt3 218 (by rfl) rfl
set_option maxRecDepth 40000 in
theorem lk_X7_202 : Cond.methodLink RX7 202 yX0_blind ∈ gTbl := mt4 7 (by rfl) rfl
set_option maxRecDepth 40000 in
theorem lk_X7_205 : Cond.methodLink RX7 205 yX7_cellOf ∈ gTbl := mt4 16 (by rfl) rfl
set_option maxRecDepth 40000 in
theorem lk_X7_217 : Cond.methodLink RX7 217 yX2_at ∈ gTbl := mt4 19 (by rfl) rfl
set_option maxRecDepth 40000 in
theorem lk_X7_22 : Cond.methodLink RX7 22 yX3_init ∈ gTbl := mt1 169 (by rfl) rfl
set_option maxRecDepth 40000 in
theorem lk_X7_220 : Cond.methodLink RX7 220 yX7_hallOf ∈ gTbl := mt4 27 (by rfl) rfl
set_option maxRecDepth 40000 in
theorem lk_X7_233 : Cond.methodLink RX7 233 yX1_common ∈ gTbl := mt4 54 (by rfl) rfl
set_option maxRecDepth 40000 in
theorem lk_X7_236 : Cond.methodLink RX7 236 yX1_lost ∈ gTbl := mt4 83 (by rfl) rfl
set_option maxRecDepth 40000 in
theorem lk_X7_240 : Cond.methodLink RX7 240 yX1_learned ∈ gTbl := mt4 87 (by rfl) rfl
set_option maxRecDepth 40000 in
theorem lk_X7_243 : Cond.methodLink RX7 243 yX1_isSaid ∈ gTbl := mt4 92 (by rfl) rfl
set_option maxRecDepth 40000 in
theorem lk_X7_246 : Cond.methodLink RX7 246 yX1_hearers ∈ gTbl := mt4 93 (by rfl) rfl
set_option maxRecDepth 40000 in
theorem lk_X7_249 : Cond.methodLink RX7 249 yX1_learnAll ∈ gTbl := mt4 105 (by rfl) rfl
set_option maxRecDepth 40000 in
theorem lk_X7_252 : Cond.methodLink RX7 252 yX7_tally ∈ gTbl := mt4 109 (by rfl) rfl
set_option maxRecDepth 40000 in
theorem lk_X7_256 : Cond.methodLink RX7 256 yX7_verdictOf ∈ gTbl := mt4 121 (by rfl) rfl
set_option maxRecDepth 40000 in
theorem lk_X7_262 : Cond.methodLink RX7 262 yX7_voteBy ∈ gTbl := mt4 112 (by rfl) rfl
set_option maxRecDepth 40000 in
theorem lk_X7_266 : Cond.methodLink RX7 266 yX7_ruleFor ∈ gTbl := mt4 115 (by rfl) rfl
set_option maxRecDepth 40000 in
theorem lk_X7_269 : Cond.methodLink RX7 269 yX7_weight ∈ gTbl := mt4 118 (by rfl) rfl
set_option maxRecDepth 40000 in
theorem lk_X7_272 : Cond.methodLink RX7 272 yX1_learnedByOtherEar ∈ gTbl := mt4 128 (by rfl) rfl
set_option maxRecDepth 40000 in
theorem lk_X7_275 : Cond.methodLink RX7 275 yX1_dearest ∈ gTbl := mt4 140 (by rfl) rfl
set_option maxRecDepth 40000 in
theorem lk_X7_278 : Cond.methodLink RX7 278 yX1_gainOfThird ∈ gTbl := mt4 149 (by rfl) rfl
set_option maxRecDepth 40000 in
theorem lk_X7_281 : Cond.methodLink RX7 281 yX1_lossOfSold ∈ gTbl := mt4 153 (by rfl) rfl
set_option maxRecDepth 40000 in
theorem lk_X7_284 : Cond.methodLink RX7 284 yX4_settle ∈ gTbl := mt4 158 (by rfl) rfl
set_option maxRecDepth 40000 in
theorem lk_X7_291 : Cond.methodLink RX7 291 yX4_seatOf ∈ gTbl := mt4 175 (by rfl) rfl
set_option maxRecDepth 40000 in
theorem lk_X7_294 : Cond.methodLink RX7 294 yX1_wordsSeen ∈ gTbl := mt4 191 (by rfl) rfl
set_option maxRecDepth 40000 in
theorem lk_X7_297 : Cond.methodLink RX7 297 yX7_readerOf ∈ gTbl := mt4 200 (by rfl) rfl
set_option maxRecDepth 40000 in
theorem lk_X7_300 : Cond.methodLink RX7 300 yX1_thunder ∈ gTbl := mt4 207 (by rfl) rfl
set_option maxRecDepth 40000 in
theorem lk_X7_303 : Cond.methodLink RX7 303 yX1_allLearned ∈ gTbl := mt4 216 (by rfl) rfl
set_option maxRecDepth 40000 in
theorem lk_X7_306 : Cond.methodLink RX7 306 yX1_knownFacing ∈ gTbl := mt4 228 (by rfl) rfl
set_option maxRecDepth 40000 in
theorem lk_X7_309 : Cond.methodLink RX7 309 yX7_namedIn ∈ gTbl := mt5 0 (by rfl) rfl
set_option maxRecDepth 40000 in
theorem lk_X7_313 : Cond.methodLink RX7 313 yX0_parts ∈ gTbl := mt5 7 (by rfl) rfl
set_option maxRecDepth 40000 in
theorem lk_X7_316 : Cond.methodLink RX7 316 yX7_carve ∈ gTbl := mt5 18 (by rfl) rfl
set_option maxRecDepth 40000 in
theorem lk_X7_320 : Cond.methodLink RX7 320 yX0_copyFrom ∈ gTbl := mt5 22 (by rfl) rfl
set_option maxRecDepth 40000 in
theorem lk_X7_326 : Cond.methodLink RX7 326 yX0_measure ∈ gTbl := mt5 31 (by rfl) rfl
set_option maxRecDepth 40000 in
theorem lk_X7_329 : Cond.methodLink RX7 329 yX1_hearersOf ∈ gTbl := mt5 36 (by rfl) rfl
set_option maxRecDepth 40000 in
theorem lk_X7_332 : Cond.methodLink RX7 332 yX5_copyFrom ∈ gTbl := mt5 53 (by rfl) rfl
set_option maxRecDepth 40000 in
theorem lk_X7_45 : Cond.methodLink RX7 45 yX5_append ∈ gTbl := mt2 61 (by rfl) rfl
set_option maxRecDepth 40000 in
theorem lk_X7_63 : Cond.methodLink RX7 63 yX3_read ∈ gTbl := mt2 73 (by rfl) rfl
set_option maxRecDepth 40000 in
theorem lk_X7_69 : Cond.methodLink RX7 69 yX7_keepDraft ∈ gTbl := mt3 9 (by rfl) rfl
set_option maxRecDepth 40000 in
theorem lk_X7_81 : Cond.methodLink RX7 81 yX5_slotOf ∈ gTbl := mt3 13 (by rfl) rfl
set_option maxRecDepth 40000 in
theorem lk_X7_9 : Cond.methodLink RX7 9 yX5_init ∈ gTbl := mt1 30 (by rfl) rfl
set_option maxRecDepth 40000 in
theorem lk_X7_90 : Cond.methodLink RX7 90 yX0_lay ∈ gTbl := mt3 26 (by rfl) rfl
set_option maxRecDepth 40000 in
theorem lk_X7_95 : Cond.methodLink RX7 95 yX7_courtAt ∈ gTbl := mt3 22 (by rfl) rfl
set_option maxRecDepth 40000 in
theorem lk_X7_99 : Cond.methodLink RX7 99 yX7_listAt ∈ gTbl := mt4 12 (by rfl) rfl
set_option maxRecDepth 40000 in
theorem lk_X8_1 : Cond.methodLink RX8 1 objectInit ∈ gTbl := mt5 73 (by rfl) rfl
set_option maxRecDepth 40000 in
theorem lk_X8_106 : Cond.methodLink RX8 106 yX8_has ∈ gTbl := mt6 205 (by rfl) rfl
set_option maxRecDepth 40000 in
theorem lk_X8_110 : Cond.methodLink RX8 110 yX8_copyRow ∈ gTbl := mt8 50 (by rfl) rfl
set_option maxRecDepth 40000 in
theorem lk_X8_114 : Cond.methodLink RX8 114 yX8_in ∈ gTbl := mt6 12 (by rfl) rfl
set_option maxRecDepth 40000 in
theorem lk_X8_118 : Cond.methodLink RX8 118 yX8_four ∈ gTbl := mt6 4 (by rfl) rfl
set_option maxRecDepth 40000 in
theorem lk_X8_128 : Cond.methodLink RX8 128 yX8_see ∈ gTbl := mt6 31 (by rfl) rfl
set_option maxRecDepth 40000 in
theorem lk_X8_154 : Cond.methodLink RX8 154 yX8_stops ∈ gTbl := mt6 49 (by rfl) rfl
set_option maxRecDepth 40000 in
theorem lk_X8_158 : Cond.methodLink RX8 158 yX8_later ∈ gTbl := mt6 57 (by rfl) rfl
set_option maxRecDepth 40000 in
theorem lk_X8_162 : Cond.methodLink RX8 162 yX8_token ∈ gTbl := mt6 27 (by rfl) rfl
set_option maxRecDepth 40000 in
theorem lk_X8_165 : Cond.methodLink RX8 165 yX8_take ∈ gTbl := mt6 69 (by rfl) rfl
set_option maxRecDepth 40000 in
theorem lk_X8_171 : Cond.methodLink RX8 171 yX8_greater ∈ gTbl := mt6 73 (by rfl) rfl
set_option maxRecDepth 40000 in
theorem lk_X8_187 : Cond.methodLink RX8 187 yX8_full ∈ gTbl := mt6 53 (by rfl) rfl
set_option maxRecDepth 40000 in
theorem lk_X8_191 : Cond.methodLink RX8 191 yX8_judgeLine ∈ gTbl := mt6 61 (by rfl) rfl
set_option maxRecDepth 40000 in
theorem lk_X8_195 : Cond.methodLink RX8 195 yX8_sizeLine ∈ gTbl := mt6 80 (by rfl) rfl
set_option maxRecDepth 40000 in
theorem lk_X8_198 : Cond.methodLink RX8 198 yX8_wallLine ∈ gTbl := mt6 84 (by rfl) rfl
set_option maxRecDepth 40000 in
theorem lk_X8_201 : Cond.methodLink RX8 201 yX8_takeField ∈ gTbl := mt6 65 (by rfl) rfl
set_option maxRecDepth 40000 in
theorem lk_X8_204 : Cond.methodLink RX8 204 yX8_pleads ∈ gTbl := mt6 88 (by rfl) rfl
set_option maxRecDepth 40000 in
theorem lk_X8_207 : Cond.methodLink RX8 207 yX8_twinLine ∈ gTbl := mt6 92 (by rfl) rfl
set_option maxRecDepth 40000 in
theorem lk_X8_213 : Cond.methodLink RX8 213 yX8_keep ∈ gTbl := mt6 76 (by rfl) rfl
set_option maxRecDepth 40000 in
theorem lk_X8_227 : Cond.methodLink RX8 227 yX8_takeMaybe ∈ gTbl := mt6 109 (by rfl) rfl
set_option maxRecDepth 40000 in
theorem lk_X8_232 : Cond.methodLink RX8 232 yX8_courtLine ∈ gTbl := mt6 39 (by rfl) rfl
set_option maxRecDepth 40000 in
theorem lk_X8_236 : Cond.methodLink RX8 236 yX8_trialLine ∈ gTbl := mt6 96 (by rfl) rfl
set_option maxRecDepth 40000 in
theorem lk_X8_239 : Cond.methodLink RX8 239 yX8_lawLine ∈ gTbl := mt6 103 (by rfl) rfl
set_option maxRecDepth 40000 in
theorem lk_X8_242 : Cond.methodLink RX8 242 yX8_rollLine ∈ gTbl := mt6 113 (by rfl) rfl
set_option maxRecDepth 40000 in
theorem lk_X8_245 : Cond.methodLink RX8 245 yX8_isWalled ∈ gTbl := mt6 122 (by rfl) rfl
set_option maxRecDepth 40000 in
theorem lk_X8_248 : Cond.methodLink RX8 248 yX8_lines ∈ gTbl := mt6 35 (by rfl) rfl
set_option maxRecDepth 40000 in
theorem lk_X8_251 : Cond.methodLink RX8 251 yX8_isWrongCourt ∈ gTbl := mt6 118 (by rfl) rfl
set_option maxRecDepth 40000 in
theorem lk_X8_254 : Cond.methodLink RX8 254 yX8_is ∈ gTbl := mt6 19 (by rfl) rfl
set_option maxRecDepth 40000 in
theorem lk_X8_257 : Cond.methodLink RX8 257 yX8_readText ∈ gTbl := mt6 23 (by rfl) rfl
set_option maxRecDepth 40000 in
theorem lk_X8_260 : Cond.methodLink RX8 260 yX8_store ∈ gTbl := mt6 126 (by rfl) rfl
set_option maxRecDepth 40000 in
theorem lk_X8_267 : Cond.methodLink RX8 267 yX8_of ∈ gTbl := mt6 142 (by rfl) rfl
set_option maxRecDepth 40000 in
theorem lk_X8_286 : Cond.methodLink RX8 286 yX8_flood ∈ gTbl := mt6 146 (by rfl) rfl
set_option maxRecDepth 40000 in
theorem lk_X8_289 : Cond.methodLink RX8 289 yX8_beside ∈ gTbl := mt6 158 (by rfl) rfl
set_option maxRecDepth 40000 in
theorem lk_X8_292 : Cond.methodLink RX8 292 yX8_isWall ∈ gTbl := mt6 150 (by rfl) rfl
set_option maxRecDepth 40000 in
theorem lk_X8_295 : Cond.methodLink RX8 295 yX8_stepTo ∈ gTbl := mt6 154 (by rfl) rfl
set_option maxRecDepth 40000 in
theorem lk_X8_298 : Cond.methodLink RX8 298 yX8_farOf ∈ gTbl := mt6 194 (by rfl) rfl
set_option maxRecDepth 40000 in
theorem lk_X8_301 : Cond.methodLink RX8 301 yX8_cameFrom ∈ gTbl := mt6 198 (by rfl) rfl
set_option maxRecDepth 40000 in
theorem lk_X8_304 : Cond.methodLink RX8 304 yX8_turned ∈ gTbl := mt6 202 (by rfl) rfl
set_option maxRecDepth 40000 in
theorem lk_X8_307 : Cond.methodLink RX8 307 yX8_judgeOf ∈ gTbl := mt6 178 (by rfl) rfl
set_option maxRecDepth 40000 in
theorem lk_X8_310 : Cond.methodLink RX8 310 yX8_faces ∈ gTbl := mt6 182 (by rfl) rfl
set_option maxRecDepth 40000 in
theorem lk_X8_314 : Cond.methodLink RX8 314 yX8_earsOf ∈ gTbl := mt6 186 (by rfl) rfl
set_option maxRecDepth 40000 in
theorem lk_X8_317 : Cond.methodLink RX8 317 yX8_hearsAt ∈ gTbl := mt6 190 (by rfl) rfl
set_option maxRecDepth 40000 in
theorem lk_X8_321 : Cond.methodLink RX8 321 yX8_hears ∈ gTbl := mt6 174 (by rfl) rfl
set_option maxRecDepth 40000 in
theorem lk_X8_325 : Cond.methodLink RX8 325 yX8_earsAt ∈ gTbl := mt6 170 (by rfl) rfl
set_option maxRecDepth 40000 in
theorem lk_X8_328 : Cond.methodLink RX8 328 yX8_blind ∈ gTbl := mt6 166 (by rfl) rfl
set_option maxRecDepth 40000 in
theorem lk_X8_331 : Cond.methodLink RX8 331 yX8_hand ∈ gTbl := mt6 138 (by rfl) rfl
set_option maxRecDepth 40000 in
theorem lk_X8_334 : Cond.methodLink RX8 334 yX8_quarter ∈ gTbl := mt6 162 (by rfl) rfl
set_option maxRecDepth 40000 in
theorem lk_X8_337 : Cond.methodLink RX8 337 yX8_isField ∈ gTbl := mt6 212 (by rfl) rfl
set_option maxRecDepth 40000 in
theorem lk_X8_340 : Cond.methodLink RX8 340 yX8_isJudge ∈ gTbl := mt6 220 (by rfl) rfl
set_option maxRecDepth 40000 in
theorem lk_X8_343 : Cond.methodLink RX8 343 yX8_isPleader ∈ gTbl := mt6 228 (by rfl) rfl
set_option maxRecDepth 40000 in
theorem lk_X8_346 : Cond.methodLink RX8 346 yX8_isLoud ∈ gTbl := mt7 4 (by rfl) rfl
set_option maxRecDepth 40000 in
theorem lk_X8_349 : Cond.methodLink RX8 349 yX8_ones ∈ gTbl := mt7 11 (by rfl) rfl
set_option maxRecDepth 40000 in
theorem lk_X8_355 : Cond.methodLink RX8 355 yX8_stateOf ∈ gTbl := mt7 26 (by rfl) rfl
set_option maxRecDepth 40000 in
theorem lk_X8_358 : Cond.methodLink RX8 358 yX8_comeTo ∈ gTbl := mt7 29 (by rfl) rfl
set_option maxRecDepth 40000 in
theorem lk_X8_361 : Cond.methodLink RX8 361 yX8_layRow ∈ gTbl := mt7 33 (by rfl) rfl
set_option maxRecDepth 40000 in
theorem lk_X8_364 : Cond.methodLink RX8 364 yX8_findRound ∈ gTbl := mt7 22 (by rfl) rfl
set_option maxRecDepth 40000 in
theorem lk_X8_370 : Cond.methodLink RX8 370 yX8_deedOf ∈ gTbl := mt7 49 (by rfl) rfl
set_option maxRecDepth 40000 in
theorem lk_X8_376 : Cond.methodLink RX8 376 yX8_does ∈ gTbl := mt7 65 (by rfl) rfl
set_option maxRecDepth 40000 in
theorem lk_X8_379 : Cond.methodLink RX8 379 yX8_deeds ∈ gTbl := mt7 45 (by rfl) rfl
set_option maxRecDepth 40000 in
theorem lk_X8_382 : Cond.methodLink RX8 382 yX8_play ∈ gTbl := mt7 61 (by rfl) rfl
set_option maxRecDepth 40000 in
theorem lk_X8_385 : Cond.methodLink RX8 385 yX8_layTrial ∈ gTbl := mt7 57 (by rfl) rfl
set_option maxRecDepth 40000 in
theorem lk_X8_388 : Cond.methodLink RX8 388 yX8_layState ∈ gTbl := mt7 73 (by rfl) rfl
set_option maxRecDepth 40000 in
theorem lk_X8_391 : Cond.methodLink RX8 391 yX8_hearsDeed ∈ gTbl := mt7 97 (by rfl) rfl
set_option maxRecDepth 40000 in
theorem lk_X8_395 : Cond.methodLink RX8 395 yX8_knownFrom ∈ gTbl := mt7 93 (by rfl) rfl
set_option maxRecDepth 40000 in
theorem lk_X8_399 : Cond.methodLink RX8 399 yX8_knownIn ∈ gTbl := mt7 89 (by rfl) rfl
set_option maxRecDepth 40000 in
theorem lk_X8_402 : Cond.methodLink RX8 402 yX8_known ∈ gTbl := mt7 85 (by rfl) rfl
set_option maxRecDepth 40000 in
theorem lk_X8_405 : Cond.methodLink RX8 405 yX8_common ∈ gTbl := mt7 81 (by rfl) rfl
set_option maxRecDepth 40000 in
theorem lk_X8_408 : Cond.methodLink RX8 408 yX8_lost ∈ gTbl := mt7 101 (by rfl) rfl
set_option maxRecDepth 40000 in
theorem lk_X8_414 : Cond.methodLink RX8 414 yX8_hasLaw ∈ gTbl := mt7 113 (by rfl) rfl
set_option maxRecDepth 40000 in
theorem lk_X8_417 : Cond.methodLink RX8 417 yX8_rules ∈ gTbl := mt7 117 (by rfl) rfl
set_option maxRecDepth 40000 in
theorem lk_X8_420 : Cond.methodLink RX8 420 yX8_ruleOf ∈ gTbl := mt7 121 (by rfl) rfl
set_option maxRecDepth 40000 in
theorem lk_X8_423 : Cond.methodLink RX8 423 yX8_ruleBy ∈ gTbl := mt7 141 (by rfl) rfl
set_option maxRecDepth 40000 in
theorem lk_X8_426 : Cond.methodLink RX8 426 yX8_voteBy ∈ gTbl := mt7 137 (by rfl) rfl
set_option maxRecDepth 40000 in
theorem lk_X8_429 : Cond.methodLink RX8 429 yX8_findVotes ∈ gTbl := mt7 133 (by rfl) rfl
set_option maxRecDepth 40000 in
theorem lk_X8_432 : Cond.methodLink RX8 432 yX8_layVotes ∈ gTbl := mt7 129 (by rfl) rfl
set_option maxRecDepth 40000 in
theorem lk_X8_435 : Cond.methodLink RX8 435 yX8_verdict ∈ gTbl := mt7 145 (by rfl) rfl
set_option maxRecDepth 40000 in
theorem lk_X8_438 : Cond.methodLink RX8 438 yX8_otherEars ∈ gTbl := mt7 153 (by rfl) rfl
set_option maxRecDepth 40000 in
theorem lk_X8_441 : Cond.methodLink RX8 441 yX8_soldBy ∈ gTbl := mt7 165 (by rfl) rfl
set_option maxRecDepth 40000 in
theorem lk_X8_444 : Cond.methodLink RX8 444 yX8_dearest ∈ gTbl := mt7 161 (by rfl) rfl
set_option maxRecDepth 40000 in
theorem lk_X8_447 : Cond.methodLink RX8 447 yX8_swap ∈ gTbl := mt7 181 (by rfl) rfl
set_option maxRecDepth 40000 in
theorem lk_X8_450 : Cond.methodLink RX8 450 yX8_nextSeats ∈ gTbl := mt7 177 (by rfl) rfl
set_option maxRecDepth 40000 in
theorem lk_X8_453 : Cond.methodLink RX8 453 yX8_findSeats ∈ gTbl := mt7 173 (by rfl) rfl
set_option maxRecDepth 40000 in
theorem lk_X8_459 : Cond.methodLink RX8 459 yX8_hasRoll ∈ gTbl := mt7 189 (by rfl) rfl
set_option maxRecDepth 40000 in
theorem lk_X8_462 : Cond.methodLink RX8 462 yX8_claims ∈ gTbl := mt7 193 (by rfl) rfl
set_option maxRecDepth 40000 in
theorem lk_X8_465 : Cond.methodLink RX8 465 yX8_claimOf ∈ gTbl := mt7 197 (by rfl) rfl
set_option maxRecDepth 40000 in
theorem lk_X8_468 : Cond.methodLink RX8 468 yX8_sees ∈ gTbl := mt7 217 (by rfl) rfl
set_option maxRecDepth 40000 in
theorem lk_X8_471 : Cond.methodLink RX8 471 yX8_couldSee ∈ gTbl := mt7 213 (by rfl) rfl
set_option maxRecDepth 40000 in
theorem lk_X8_474 : Cond.methodLink RX8 474 yX8_liars ∈ gTbl := mt7 205 (by rfl) rfl
set_option maxRecDepth 40000 in
theorem lk_X8_477 : Cond.methodLink RX8 477 yX8_lipsOf ∈ gTbl := mt7 209 (by rfl) rfl
set_option maxRecDepth 40000 in
theorem lk_X8_480 : Cond.methodLink RX8 480 yX8_reader ∈ gTbl := mt7 221 (by rfl) rfl
set_option maxRecDepth 40000 in
theorem lk_X8_487 : Cond.methodLink RX8 487 yX8_draw ∈ gTbl := mt7 229 (by rfl) rfl
set_option maxRecDepth 40000 in
theorem lk_X8_490 : Cond.methodLink RX8 490 yX8_startHour ∈ gTbl := mt8 2 (by rfl) rfl
set_option maxRecDepth 40000 in
theorem lk_X8_493 : Cond.methodLink RX8 493 yX8_benchOf ∈ gTbl := mt8 6 (by rfl) rfl
set_option maxRecDepth 40000 in
theorem lk_X8_496 : Cond.methodLink RX8 496 yX8_parts ∈ gTbl := mt8 22 (by rfl) rfl
set_option maxRecDepth 40000 in
theorem lk_X8_499 : Cond.methodLink RX8 499 yX8_carved ∈ gTbl := mt8 26 (by rfl) rfl
set_option maxRecDepth 40000 in
theorem lk_X8_502 : Cond.methodLink RX8 502 yX8_copyAll ∈ gTbl := mt8 46 (by rfl) rfl
set_option maxRecDepth 40000 in
theorem ln_X0_79 : Cond.methodLinkNest RX0 79 yX7_has "OneEared" ∈ lw_tbl := (ml3 113 (by rfl))
set_option maxRecDepth 40000 in
theorem ln_X3_11 : Cond.methodLinkNest RX3 11 yX0_init "OneEared" ∈ lw_tbl := (ml1 174 (by rfl))
set_option maxRecDepth 40000 in
theorem ln_X4_35 : Cond.methodLinkNest RX4 35 yX7_has "OneEared" ∈ lw_tbl := (ml4 166 (by rfl))
set_option maxRecDepth 40000 in
theorem ln_X5_35 : Cond.methodLinkNest RX5 35 yX0_init "OneEared" ∈ lw_tbl := (ml1 39 (by rfl))
set_option maxRecDepth 40000 in
theorem ln_X6_83 : Cond.methodLinkNest RX6 83 yX7_has "OneEared" ∈ lw_tbl := (ml3 226 (by rfl))
set_option maxRecDepth 40000 in
theorem ln_X7_194 : Cond.methodLinkNest RX7 194 yX6_init "OneEared" ∈ lw_tbl := (ml3 162 (by rfl))
set_option maxRecDepth 40000 in
theorem ln_X7_29 : Cond.methodLinkNest RX7 29 yX1_init "OneEared" ∈ lw_tbl := (ml1 223 (by rfl))
set_option maxRecDepth 40000 in
theorem ln_X7_36 : Cond.methodLinkNest RX7 36 yX4_init "OneEared" ∈ lw_tbl := (ml2 23 (by rfl))
set_option maxRecDepth 40000 in
theorem wa_boolean : Cond.arrayClass .boolean ∈ gTbl := mt5 239 (by rfl) rfl
set_option maxRecDepth 40000 in
theorem wa_byte : Cond.arrayClass .byte ∈ gTbl := mt1 107 (by rfl) rfl
set_option maxRecDepth 40000 in
theorem wa_int : Cond.arrayClass .int ∈ gTbl := mt1 108 (by rfl) rfl
set_option maxRecDepth 40000 in
theorem wa_long : Cond.arrayClass .long ∈ gTbl := mt1 109 (by rfl) rfl
set_option maxRecDepth 40000 in
theorem wc_L_10 : Cond.classLink RL 10 "OneEaredModel" ∈ gTbl := mt5 68 (by rfl) rfl
set_option maxRecDepth 40000 in
theorem wc_L_7 : Cond.classLink RL 7 "OneEared" ∈ gTbl := mt1 20 (by rfl) rfl
set_option maxRecDepth 40000 in
theorem wc_X2_10 : Cond.classLink RX2 10 "OneEared$Listing" ∈ gTbl := mt1 116 (by rfl) rfl
set_option maxRecDepth 40000 in
theorem wc_X3_18 : Cond.classLink RX3 18 "OneEared$Listing" ∈ gTbl := mt1 175 (by rfl) rfl
set_option maxRecDepth 40000 in
theorem wc_X3_9 : Cond.classLink RX3 9 "OneEared$Court" ∈ gTbl := mt1 173 (by rfl) rfl
set_option maxRecDepth 40000 in
theorem wc_X5_23 : Cond.classLink RX5 23 "OneEared$Court" ∈ gTbl := mt1 34 (by rfl) rfl
set_option maxRecDepth 40000 in
theorem wc_X5_29 : Cond.classLink RX5 29 "OneEared$Listing" ∈ gTbl := mt1 36 (by rfl) rfl
set_option maxRecDepth 40000 in
theorem wc_X7_192 : Cond.classLink RX7 192 "OneEared$Walk" ∈ gTbl := mt3 160 (by rfl) rfl
set_option maxRecDepth 40000 in
theorem wc_X7_20 : Cond.classLink RX7 20 "OneEared$Reader" ∈ gTbl := mt1 167 (by rfl) rfl
set_option maxRecDepth 40000 in
theorem wc_X7_27 : Cond.classLink RX7 27 "OneEared$Hall" ∈ gTbl := mt1 221 (by rfl) rfl
set_option maxRecDepth 40000 in
theorem wc_X7_34 : Cond.classLink RX7 34 "OneEared$Seating" ∈ gTbl := mt2 21 (by rfl) rfl
set_option maxRecDepth 40000 in
theorem wc_X7_7 : Cond.classLink RX7 7 "OneEared$Told" ∈ gTbl := mt1 28 (by rfl) rfl
set_option maxRecDepth 40000 in
theorem wi_J6_264 : Cond.constant RJ6 264 65536 ∈ gTbl := mt4 2 (by rfl) rfl
set_option maxRecDepth 40000 in
theorem wi_J6_265 : Cond.constant RJ6 265 1431655765 ∈ gTbl := mt3 148 (by rfl) rfl
set_option maxRecDepth 40000 in
theorem wi_J6_266 : Cond.constant RJ6 266 858993459 ∈ gTbl := mt3 149 (by rfl) rfl
set_option maxRecDepth 40000 in
theorem wi_J6_267 : Cond.constant RJ6 267 252645135 ∈ gTbl := mt3 150 (by rfl) rfl
set_option maxRecDepth 40000 in
theorem wi_X1_135 : Cond.constant RX1 135 1103515245 ∈ gTbl := mt4 215 (by rfl) rfl
set_option maxRecDepth 40000 in
theorem wi_X8_486 : Cond.constant RX8 486 1103515245 ∈ gTbl := mt7 233 (by rfl) rfl
set_option maxRecDepth 40000 in
theorem wl_J13_314 : Cond.constantLong RJ13 314 6148914691236517205 ∈ gTbl := mt3 50 (by rfl) rfl
set_option maxRecDepth 40000 in
theorem wl_J13_316 : Cond.constantLong RJ13 316 3689348814741910323 ∈ gTbl := mt3 51 (by rfl) rfl
set_option maxRecDepth 40000 in
theorem wl_J13_318 : Cond.constantLong RJ13 318 1085102592571150095 ∈ gTbl := mt3 52 (by rfl) rfl
set_option maxRecDepth 40000 in
theorem wl_X0_60 : Cond.constantLong RX0 60 (-1) ∈ gTbl := mt2 234 (by rfl) rfl
set_option maxRecDepth 40000 in
theorem wl_X3_220 : Cond.constantLong RX3 220 (-1) ∈ gTbl := mt2 235 (by rfl) rfl
set_option maxRecDepth 40000 in
theorem wl_X7_324 : Cond.constantLong RX7 324 (-1) ∈ gTbl := mt5 30 (by rfl) rfl
set_option maxRecDepth 40000 in
theorem wl_X8_175 : Cond.constantLong RX8 175 1818584692 ∈ gTbl := mt6 43 (by rfl) rfl
set_option maxRecDepth 40000 in
theorem wl_X8_177 : Cond.constantLong RX8 177 491394656372 ∈ gTbl := mt6 44 (by rfl) rfl
set_option maxRecDepth 40000 in
theorem wl_X8_179 : Cond.constantLong RX8 179 1936292453 ∈ gTbl := mt6 45 (by rfl) rfl
set_option maxRecDepth 40000 in
theorem wl_X8_181 : Cond.constantLong RX8 181 2002873452 ∈ gTbl := mt6 46 (by rfl) rfl
set_option maxRecDepth 40000 in
theorem wl_X8_183 : Cond.constantLong RX8 183 482854920548 ∈ gTbl := mt6 47 (by rfl) rfl
set_option maxRecDepth 40000 in
theorem wl_X8_185 : Cond.constantLong RX8 185 1953982830 ∈ gTbl := mt6 48 (by rfl) rfl
set_option maxRecDepth 40000 in
theorem wl_X8_217 : Cond.constantLong RX8 217 26479 ∈ gTbl := mt6 100 (by rfl) rfl
set_option maxRecDepth 40000 in
theorem wl_X8_219 : Cond.constantLong RX8 219 7561593 ∈ gTbl := mt6 101 (by rfl) rfl
set_option maxRecDepth 40000 in
theorem wl_X8_221 : Cond.constantLong RX8 221 2002872692 ∈ gTbl := mt6 102 (by rfl) rfl
set_option maxRecDepth 40000 in
theorem wl_X8_223 : Cond.constantLong RX8 223 7955827 ∈ gTbl := mt6 107 (by rfl) rfl
set_option maxRecDepth 40000 in
theorem wl_X8_225 : Cond.constantLong RX8 225 28271 ∈ gTbl := mt6 108 (by rfl) rfl
set_option maxRecDepth 40000 in
theorem wl_X8_230 : Cond.constantLong RX8 230 1802399607 ∈ gTbl := mt6 117 (by rfl) rfl
set_option maxRecDepth 40000 in
theorem wn_1 : Cond.instantiable "OneEared$Court" 14 ∈ gTbl := mt1 38 (by rfl) rfl
set_option maxRecDepth 40000 in
theorem wn_2 : Cond.instantiable "OneEared$Hall" 9 ∈ gTbl := mt1 222 (by rfl) rfl
set_option maxRecDepth 40000 in
theorem wn_3 : Cond.instantiable "OneEared$Listing" 3 ∈ gTbl := mt1 117 (by rfl) rfl
set_option maxRecDepth 40000 in
theorem wn_4 : Cond.instantiable "OneEared$Reader" 13 ∈ gTbl := mt1 168 (by rfl) rfl
set_option maxRecDepth 40000 in
theorem wn_5 : Cond.instantiable "OneEared$Seating" 3 ∈ gTbl := mt2 22 (by rfl) rfl
set_option maxRecDepth 40000 in
theorem wn_6 : Cond.instantiable "OneEared$Told" 7 ∈ gTbl := mt1 29 (by rfl) rfl
set_option maxRecDepth 40000 in
theorem wn_7 : Cond.instantiable "OneEared$Walk" 5 ∈ gTbl := mt3 161 (by rfl) rfl
set_option maxRecDepth 40000 in
theorem wn_8 : Cond.instantiable "OneEared" 6 ∈ gTbl := mt1 21 (by rfl) rfl
set_option maxRecDepth 40000 in
theorem wn_9 : Cond.instantiable "OneEaredModel" 55 ∈ gTbl := mt5 69 (by rfl) rfl
set_option maxRecDepth 40000 in
theorem wz_X0 : Cond.initialized "OneEared$Court" ∈ gTbl := mt1 3 (by rfl) rfl
set_option maxRecDepth 40000 in
theorem wz_X1 : Cond.initialized "OneEared$Hall" ∈ gTbl := mt1 6 (by rfl) rfl
set_option maxRecDepth 40000 in
theorem wz_X2 : Cond.initialized "OneEared$Listing" ∈ gTbl := mt1 4 (by rfl) rfl
set_option maxRecDepth 40000 in
theorem wz_X3 : Cond.initialized "OneEared$Reader" ∈ gTbl := mt1 5 (by rfl) rfl
set_option maxRecDepth 40000 in
theorem wz_X4 : Cond.initialized "OneEared$Seating" ∈ gTbl := mt1 7 (by rfl) rfl
set_option maxRecDepth 40000 in
theorem wz_X5 : Cond.initialized "OneEared$Told" ∈ gTbl := mt1 2 (by rfl) rfl
set_option maxRecDepth 40000 in
theorem wz_X6 : Cond.initialized "OneEared$Walk" ∈ gTbl := mt1 17 (by rfl) rfl
set_option maxRecDepth 40000 in
theorem wz_X7 : Cond.initialized "OneEared" ∈ gTbl := mt1 1 (by rfl) rfl
set_option maxRecDepth 40000 in
theorem wz_X8 : Cond.initialized "OneEaredModel" ∈ gTbl := mt1 8 (by rfl) rfl
set_option maxRecDepth 40000 in
theorem w_oi_inst : Cond.instanceMethod objectInit ∈ gTbl := mt1 26 (by rfl) rfl
set_option maxRecDepth 40000 in
theorem w_oi_code : Cond.code objectInit ⟨#[0xb1]⟩ 1 none ∈ gTbl := mt1 27 (by rfl) rfl
set_option maxRecDepth 40000 in
theorem w_ac_nat : Cond.native arraycopyName ∈ gTbl := mt5 28 (by rfl) rfl
set_option maxRecDepth 40000 in
theorem w_ac_stat : Cond.static arraycopyName ∈ gTbl := mt5 27 (by rfl) rfl
set_option maxRecDepth 40000 in
theorem w_ac_init : Cond.initialized "java/lang/System" ∈ gTbl := mt1 19 (by rfl) rfl
set_option maxRecDepth 40000 in
theorem w_mx_stat : Cond.static Lib.Math.max.name ∈ gTbl := mt4 173 (by rfl) rfl
set_option maxRecDepth 40000 in
theorem w_mx_init : Cond.initialized "java/lang/Math" ∈ gTbl := mt1 18 (by rfl) rfl
set_option maxRecDepth 40000 in
theorem w_mx_code : Cond.code Lib.Math.max.name Lib.Math.max.code 2 (some .int) ∈ gTbl := mt4 174 (by rfl) rfl
theorem r_J13_numberOfTrailingZeros_95d88_J6_numberOfTrailingZeros_0f7a4 : RM M_J13_numberOfTrailingZeros_95d88 M_J6_numberOfTrailingZeros_0f7a4 0 0 := ⟨Nat.le_of_ble_eq_true rfl, Nat.le_of_ble_eq_true rfl, Nat.le_of_ble_eq_true rfl, Nat.le_of_ble_eq_true rfl⟩
theorem r_J7_fill_bad5a_J7_rangeCheck_23922 : RM M_J7_fill_bad5a M_J7_rangeCheck_23922 0 0 := ⟨Nat.le_of_ble_eq_true rfl, Nat.le_of_ble_eq_true rfl, Nat.le_of_ble_eq_true rfl, Nat.le_of_ble_eq_true rfl⟩
theorem r_X0_audible_X0_audibleFrom : RM M_X0_audible M_X0_audibleFrom 0 0 := ⟨Nat.le_of_ble_eq_true rfl, Nat.le_of_ble_eq_true rfl, Nat.le_of_ble_eq_true rfl, Nat.le_of_ble_eq_true rfl⟩
theorem r_X0_audible_X0_faces : RM M_X0_audible M_X0_faces 0 0 := ⟨Nat.le_of_ble_eq_true rfl, Nat.le_of_ble_eq_true rfl, Nat.le_of_ble_eq_true rfl, Nat.le_of_ble_eq_true rfl⟩
theorem r_X0_audible_X0_of : RM M_X0_audible M_X0_of 0 0 := ⟨Nat.le_of_ble_eq_true rfl, Nat.le_of_ble_eq_true rfl, Nat.le_of_ble_eq_true rfl, Nat.le_of_ble_eq_true rfl⟩
theorem r_X0_audible_X0_sidesOf : RM M_X0_audible M_X0_sidesOf 0 0 := ⟨Nat.le_of_ble_eq_true rfl, Nat.le_of_ble_eq_true rfl, Nat.le_of_ble_eq_true rfl, Nat.le_of_ble_eq_true rfl⟩
theorem r_X0_audible_X0_turned : RM M_X0_audible M_X0_turned 0 0 := ⟨Nat.le_of_ble_eq_true rfl, Nat.le_of_ble_eq_true rfl, Nat.le_of_ble_eq_true rfl, Nat.le_of_ble_eq_true rfl⟩
theorem r_X0_blind_J13_bitCount_95d88 : RM M_X0_blind M_J13_bitCount_95d88 0 0 := ⟨Nat.le_of_ble_eq_true rfl, Nat.le_of_ble_eq_true rfl, Nat.le_of_ble_eq_true rfl, Nat.le_of_ble_eq_true rfl⟩
theorem r_X0_blind_X0_audible : RM M_X0_blind M_X0_audible 0 0 := ⟨Nat.le_of_ble_eq_true rfl, Nat.le_of_ble_eq_true rfl, Nat.le_of_ble_eq_true rfl, Nat.le_of_ble_eq_true rfl⟩
theorem r_X0_connected_X0_grow : RM M_X0_connected M_X0_grow 0 0 := ⟨Nat.le_of_ble_eq_true rfl, Nat.le_of_ble_eq_true rfl, Nat.le_of_ble_eq_true rfl, Nat.le_of_ble_eq_true rfl⟩
theorem r_X0_copyFrom_X0_measure : RM M_X0_copyFrom M_X0_measure 0 0 := ⟨Nat.le_of_ble_eq_true rfl, Nat.le_of_ble_eq_true rfl, Nat.le_of_ble_eq_true rfl, Nat.le_of_ble_eq_true rfl⟩
theorem r_X0_earsAt_X0_audible : RM M_X0_earsAt M_X0_audible 0 0 := ⟨Nat.le_of_ble_eq_true rfl, Nat.le_of_ble_eq_true rfl, Nat.le_of_ble_eq_true rfl, Nat.le_of_ble_eq_true rfl⟩
theorem r_X0_earsAt_X7_has : RM M_X0_earsAt M_X7_has 0 0 := ⟨Nat.le_of_ble_eq_true rfl, Nat.le_of_ble_eq_true rfl, Nat.le_of_ble_eq_true rfl, Nat.le_of_ble_eq_true rfl⟩
theorem r_X0_faces_X0_of : RM M_X0_faces M_X0_of 0 0 := ⟨Nat.le_of_ble_eq_true rfl, Nat.le_of_ble_eq_true rfl, Nat.le_of_ble_eq_true rfl, Nat.le_of_ble_eq_true rfl⟩
theorem r_X0_isOpen_X7_has : RM M_X0_isOpen M_X7_has 0 0 := ⟨Nat.le_of_ble_eq_true rfl, Nat.le_of_ble_eq_true rfl, Nat.le_of_ble_eq_true rfl, Nat.le_of_ble_eq_true rfl⟩
theorem r_X0_lay_X0_layOf : RM M_X0_lay M_X0_layOf 0 0 := ⟨Nat.le_of_ble_eq_true rfl, Nat.le_of_ble_eq_true rfl, Nat.le_of_ble_eq_true rfl, Nat.le_of_ble_eq_true rfl⟩
theorem r_X0_layOf_X0_beside : RM M_X0_layOf M_X0_beside 0 0 := ⟨Nat.le_of_ble_eq_true rfl, Nat.le_of_ble_eq_true rfl, Nat.le_of_ble_eq_true rfl, Nat.le_of_ble_eq_true rfl⟩
theorem r_X0_layOf_X0_grow : RM M_X0_layOf M_X0_grow 0 0 := ⟨Nat.le_of_ble_eq_true rfl, Nat.le_of_ble_eq_true rfl, Nat.le_of_ble_eq_true rfl, Nat.le_of_ble_eq_true rfl⟩
theorem r_X0_layOf_X0_layVia : RM M_X0_layOf M_X0_layVia 0 0 := ⟨Nat.le_of_ble_eq_true rfl, Nat.le_of_ble_eq_true rfl, Nat.le_of_ble_eq_true rfl, Nat.le_of_ble_eq_true rfl⟩
theorem r_X0_layOf_X0_of : RM M_X0_layOf M_X0_of 0 0 := ⟨Nat.le_of_ble_eq_true rfl, Nat.le_of_ble_eq_true rfl, Nat.le_of_ble_eq_true rfl, Nat.le_of_ble_eq_true rfl⟩
theorem r_X0_layVia_X0_grow : RM M_X0_layVia M_X0_grow 0 0 := ⟨Nat.le_of_ble_eq_true rfl, Nat.le_of_ble_eq_true rfl, Nat.le_of_ble_eq_true rfl, Nat.le_of_ble_eq_true rfl⟩
theorem r_X0_measure_X0_all : RM M_X0_measure M_X0_all 0 0 := ⟨Nat.le_of_ble_eq_true rfl, Nat.le_of_ble_eq_true rfl, Nat.le_of_ble_eq_true rfl, Nat.le_of_ble_eq_true rfl⟩
theorem r_X0_parts_J13_lowestOneBit_067f4 : RM M_X0_parts M_J13_lowestOneBit_067f4 0 0 := ⟨Nat.le_of_ble_eq_true rfl, Nat.le_of_ble_eq_true rfl, Nat.le_of_ble_eq_true rfl, Nat.le_of_ble_eq_true rfl⟩
theorem r_X0_parts_X0_connected : RM M_X0_parts M_X0_connected 0 0 := ⟨Nat.le_of_ble_eq_true rfl, Nat.le_of_ble_eq_true rfl, Nat.le_of_ble_eq_true rfl, Nat.le_of_ble_eq_true rfl⟩
theorem r_X0_quarter_X0_blind : RM M_X0_quarter M_X0_blind 0 0 := ⟨Nat.le_of_ble_eq_true rfl, Nat.le_of_ble_eq_true rfl, Nat.le_of_ble_eq_true rfl, Nat.le_of_ble_eq_true rfl⟩
theorem r_X0_ray_X0_stepTo : RM M_X0_ray M_X0_stepTo 0 0 := ⟨Nat.le_of_ble_eq_true rfl, Nat.le_of_ble_eq_true rfl, Nat.le_of_ble_eq_true rfl, Nat.le_of_ble_eq_true rfl⟩
theorem r_X0_reset_J7_fill_53178 : RM M_X0_reset M_J7_fill_53178 0 0 := ⟨Nat.le_of_ble_eq_true rfl, Nat.le_of_ble_eq_true rfl, Nat.le_of_ble_eq_true rfl, Nat.le_of_ble_eq_true rfl⟩
theorem r_X0_sidesFrom_X7_has : RM M_X0_sidesFrom M_X7_has 0 0 := ⟨Nat.le_of_ble_eq_true rfl, Nat.le_of_ble_eq_true rfl, Nat.le_of_ble_eq_true rfl, Nat.le_of_ble_eq_true rfl⟩
theorem r_X0_stepTo_J13_numberOfTrailingZeros_95d88 : RM M_X0_stepTo M_J13_numberOfTrailingZeros_95d88 0 0 := ⟨Nat.le_of_ble_eq_true rfl, Nat.le_of_ble_eq_true rfl, Nat.le_of_ble_eq_true rfl, Nat.le_of_ble_eq_true rfl⟩
theorem r_X0_stepTo_X0_beside : RM M_X0_stepTo M_X0_beside 0 0 := ⟨Nat.le_of_ble_eq_true rfl, Nat.le_of_ble_eq_true rfl, Nat.le_of_ble_eq_true rfl, Nat.le_of_ble_eq_true rfl⟩
theorem r_X0_steps_X0_grow : RM M_X0_steps M_X0_grow 0 0 := ⟨Nat.le_of_ble_eq_true rfl, Nat.le_of_ble_eq_true rfl, Nat.le_of_ble_eq_true rfl, Nat.le_of_ble_eq_true rfl⟩
theorem r_X1_allLearned_J6_bitCount_0f7a4 : RM M_X1_allLearned M_J6_bitCount_0f7a4 0 0 := ⟨Nat.le_of_ble_eq_true rfl, Nat.le_of_ble_eq_true rfl, Nat.le_of_ble_eq_true rfl, Nat.le_of_ble_eq_true rfl⟩
theorem r_X1_allLearned_X0_of : RM M_X1_allLearned M_X0_of 0 0 := ⟨Nat.le_of_ble_eq_true rfl, Nat.le_of_ble_eq_true rfl, Nat.le_of_ble_eq_true rfl, Nat.le_of_ble_eq_true rfl⟩
theorem r_X1_allLearned_X1_ownSides : RM M_X1_allLearned M_X1_ownSides 0 0 := ⟨Nat.le_of_ble_eq_true rfl, Nat.le_of_ble_eq_true rfl, Nat.le_of_ble_eq_true rfl, Nat.le_of_ble_eq_true rfl⟩
theorem r_X1_allLearned_X1_wordsOn : RM M_X1_allLearned M_X1_wordsOn 0 0 := ⟨Nat.le_of_ble_eq_true rfl, Nat.le_of_ble_eq_true rfl, Nat.le_of_ble_eq_true rfl, Nat.le_of_ble_eq_true rfl⟩
theorem r_X1_canBe_X0_hasPleader : RM M_X1_canBe M_X0_hasPleader 0 0 := ⟨Nat.le_of_ble_eq_true rfl, Nat.le_of_ble_eq_true rfl, Nat.le_of_ble_eq_true rfl, Nat.le_of_ble_eq_true rfl⟩
theorem r_X1_canBe_X1_step : RM M_X1_canBe M_X1_step 0 0 := ⟨Nat.le_of_ble_eq_true rfl, Nat.le_of_ble_eq_true rfl, Nat.le_of_ble_eq_true rfl, Nat.le_of_ble_eq_true rfl⟩
theorem r_X1_canBe_X2_at : RM M_X1_canBe M_X2_at 0 0 := ⟨Nat.le_of_ble_eq_true rfl, Nat.le_of_ble_eq_true rfl, Nat.le_of_ble_eq_true rfl, Nat.le_of_ble_eq_true rfl⟩
theorem r_X1_common_X1_learned : RM M_X1_common M_X1_learned 0 0 := ⟨Nat.le_of_ble_eq_true rfl, Nat.le_of_ble_eq_true rfl, Nat.le_of_ble_eq_true rfl, Nat.le_of_ble_eq_true rfl⟩
theorem r_X1_dearest_X1_lossOfSold : RM M_X1_dearest M_X1_lossOfSold 0 0 := ⟨Nat.le_of_ble_eq_true rfl, Nat.le_of_ble_eq_true rfl, Nat.le_of_ble_eq_true rfl, Nat.le_of_ble_eq_true rfl⟩
theorem r_X1_gainOfThird_J6_bitCount_0f7a4 : RM M_X1_gainOfThird M_J6_bitCount_0f7a4 0 0 := ⟨Nat.le_of_ble_eq_true rfl, Nat.le_of_ble_eq_true rfl, Nat.le_of_ble_eq_true rfl, Nat.le_of_ble_eq_true rfl⟩
theorem r_X1_gainOfThird_X1_learnedFrom : RM M_X1_gainOfThird M_X1_learnedFrom 0 0 := ⟨Nat.le_of_ble_eq_true rfl, Nat.le_of_ble_eq_true rfl, Nat.le_of_ble_eq_true rfl, Nat.le_of_ble_eq_true rfl⟩
theorem r_X1_hearers_X0_faces : RM M_X1_hearers M_X0_faces 0 0 := ⟨Nat.le_of_ble_eq_true rfl, Nat.le_of_ble_eq_true rfl, Nat.le_of_ble_eq_true rfl, Nat.le_of_ble_eq_true rfl⟩
theorem r_X1_hearers_X0_of : RM M_X1_hearers M_X0_of 0 0 := ⟨Nat.le_of_ble_eq_true rfl, Nat.le_of_ble_eq_true rfl, Nat.le_of_ble_eq_true rfl, Nat.le_of_ble_eq_true rfl⟩
theorem r_X1_hearers_X0_turned : RM M_X1_hearers M_X0_turned 0 0 := ⟨Nat.le_of_ble_eq_true rfl, Nat.le_of_ble_eq_true rfl, Nat.le_of_ble_eq_true rfl, Nat.le_of_ble_eq_true rfl⟩
theorem r_X1_hearers_X1_isHeard : RM M_X1_hearers M_X1_isHeard 0 0 := ⟨Nat.le_of_ble_eq_true rfl, Nat.le_of_ble_eq_true rfl, Nat.le_of_ble_eq_true rfl, Nat.le_of_ble_eq_true rfl⟩
theorem r_X1_hearers_X1_ownSides : RM M_X1_hearers M_X1_ownSides 0 0 := ⟨Nat.le_of_ble_eq_true rfl, Nat.le_of_ble_eq_true rfl, Nat.le_of_ble_eq_true rfl, Nat.le_of_ble_eq_true rfl⟩
theorem r_X1_hearersOf_J6_bitCount_0f7a4 : RM M_X1_hearersOf M_J6_bitCount_0f7a4 0 0 := ⟨Nat.le_of_ble_eq_true rfl, Nat.le_of_ble_eq_true rfl, Nat.le_of_ble_eq_true rfl, Nat.le_of_ble_eq_true rfl⟩
theorem r_X1_hearersOf_X1_hearers : RM M_X1_hearersOf M_X1_hearers 0 0 := ⟨Nat.le_of_ble_eq_true rfl, Nat.le_of_ble_eq_true rfl, Nat.le_of_ble_eq_true rfl, Nat.le_of_ble_eq_true rfl⟩
theorem r_X1_hearersOf_X1_isSaid : RM M_X1_hearersOf M_X1_isSaid 0 0 := ⟨Nat.le_of_ble_eq_true rfl, Nat.le_of_ble_eq_true rfl, Nat.le_of_ble_eq_true rfl, Nat.le_of_ble_eq_true rfl⟩
theorem r_X1_hearersOf_X2_at : RM M_X1_hearersOf M_X2_at 0 0 := ⟨Nat.le_of_ble_eq_true rfl, Nat.le_of_ble_eq_true rfl, Nat.le_of_ble_eq_true rfl, Nat.le_of_ble_eq_true rfl⟩
theorem r_X1_isHeard_X0_audibleFrom : RM M_X1_isHeard M_X0_audibleFrom 0 0 := ⟨Nat.le_of_ble_eq_true rfl, Nat.le_of_ble_eq_true rfl, Nat.le_of_ble_eq_true rfl, Nat.le_of_ble_eq_true rfl⟩
theorem r_X1_isHeard_X2_at : RM M_X1_isHeard M_X2_at 0 0 := ⟨Nat.le_of_ble_eq_true rfl, Nat.le_of_ble_eq_true rfl, Nat.le_of_ble_eq_true rfl, Nat.le_of_ble_eq_true rfl⟩
theorem r_X1_isSaid_X2_at : RM M_X1_isSaid M_X2_at 0 0 := ⟨Nat.le_of_ble_eq_true rfl, Nat.le_of_ble_eq_true rfl, Nat.le_of_ble_eq_true rfl, Nat.le_of_ble_eq_true rfl⟩
theorem r_X1_knownFacing_J6_bitCount_0f7a4 : RM M_X1_knownFacing M_J6_bitCount_0f7a4 0 0 := ⟨Nat.le_of_ble_eq_true rfl, Nat.le_of_ble_eq_true rfl, Nat.le_of_ble_eq_true rfl, Nat.le_of_ble_eq_true rfl⟩
theorem r_X1_knownFacing_X0_of : RM M_X1_knownFacing M_X0_of 0 0 := ⟨Nat.le_of_ble_eq_true rfl, Nat.le_of_ble_eq_true rfl, Nat.le_of_ble_eq_true rfl, Nat.le_of_ble_eq_true rfl⟩
theorem r_X1_knownFacing_X1_ownSides : RM M_X1_knownFacing M_X1_ownSides 0 0 := ⟨Nat.le_of_ble_eq_true rfl, Nat.le_of_ble_eq_true rfl, Nat.le_of_ble_eq_true rfl, Nat.le_of_ble_eq_true rfl⟩
theorem r_X1_knownFacing_X1_wordsOn : RM M_X1_knownFacing M_X1_wordsOn 0 0 := ⟨Nat.le_of_ble_eq_true rfl, Nat.le_of_ble_eq_true rfl, Nat.le_of_ble_eq_true rfl, Nat.le_of_ble_eq_true rfl⟩
theorem r_X1_knownOnSeat_J6_bitCount_0f7a4 : RM M_X1_knownOnSeat M_J6_bitCount_0f7a4 0 0 := ⟨Nat.le_of_ble_eq_true rfl, Nat.le_of_ble_eq_true rfl, Nat.le_of_ble_eq_true rfl, Nat.le_of_ble_eq_true rfl⟩
theorem r_X1_knownOnSeat_X0_of : RM M_X1_knownOnSeat M_X0_of 0 0 := ⟨Nat.le_of_ble_eq_true rfl, Nat.le_of_ble_eq_true rfl, Nat.le_of_ble_eq_true rfl, Nat.le_of_ble_eq_true rfl⟩
theorem r_X1_knownOnSeat_X1_ownSides : RM M_X1_knownOnSeat M_X1_ownSides 0 0 := ⟨Nat.le_of_ble_eq_true rfl, Nat.le_of_ble_eq_true rfl, Nat.le_of_ble_eq_true rfl, Nat.le_of_ble_eq_true rfl⟩
theorem r_X1_knownOnSeat_X1_wordsOn : RM M_X1_knownOnSeat M_X1_wordsOn 0 0 := ⟨Nat.le_of_ble_eq_true rfl, Nat.le_of_ble_eq_true rfl, Nat.le_of_ble_eq_true rfl, Nat.le_of_ble_eq_true rfl⟩
theorem r_X1_learnAll_X1_learned : RM M_X1_learnAll M_X1_learned 0 0 := ⟨Nat.le_of_ble_eq_true rfl, Nat.le_of_ble_eq_true rfl, Nat.le_of_ble_eq_true rfl, Nat.le_of_ble_eq_true rfl⟩
theorem r_X1_learned_X0_of : RM M_X1_learned M_X0_of 0 0 := ⟨Nat.le_of_ble_eq_true rfl, Nat.le_of_ble_eq_true rfl, Nat.le_of_ble_eq_true rfl, Nat.le_of_ble_eq_true rfl⟩
theorem r_X1_learned_X1_ownSides : RM M_X1_learned M_X1_ownSides 0 0 := ⟨Nat.le_of_ble_eq_true rfl, Nat.le_of_ble_eq_true rfl, Nat.le_of_ble_eq_true rfl, Nat.le_of_ble_eq_true rfl⟩
theorem r_X1_learned_X1_wordsOn : RM M_X1_learned M_X1_wordsOn 0 0 := ⟨Nat.le_of_ble_eq_true rfl, Nat.le_of_ble_eq_true rfl, Nat.le_of_ble_eq_true rfl, Nat.le_of_ble_eq_true rfl⟩
theorem r_X1_learnedByOtherEar_X0_of : RM M_X1_learnedByOtherEar M_X0_of 0 0 := ⟨Nat.le_of_ble_eq_true rfl, Nat.le_of_ble_eq_true rfl, Nat.le_of_ble_eq_true rfl, Nat.le_of_ble_eq_true rfl⟩
theorem r_X1_learnedByOtherEar_X0_sidesOf : RM M_X1_learnedByOtherEar M_X0_sidesOf 0 0 := ⟨Nat.le_of_ble_eq_true rfl, Nat.le_of_ble_eq_true rfl, Nat.le_of_ble_eq_true rfl, Nat.le_of_ble_eq_true rfl⟩
theorem r_X1_learnedByOtherEar_X1_learnedFrom : RM M_X1_learnedByOtherEar M_X1_learnedFrom 0 0 := ⟨Nat.le_of_ble_eq_true rfl, Nat.le_of_ble_eq_true rfl, Nat.le_of_ble_eq_true rfl, Nat.le_of_ble_eq_true rfl⟩
theorem r_X1_learnedFrom_X0_of : RM M_X1_learnedFrom M_X0_of 0 0 := ⟨Nat.le_of_ble_eq_true rfl, Nat.le_of_ble_eq_true rfl, Nat.le_of_ble_eq_true rfl, Nat.le_of_ble_eq_true rfl⟩
theorem r_X1_learnedFrom_X1_wordsOn : RM M_X1_learnedFrom M_X1_wordsOn 0 0 := ⟨Nat.le_of_ble_eq_true rfl, Nat.le_of_ble_eq_true rfl, Nat.le_of_ble_eq_true rfl, Nat.le_of_ble_eq_true rfl⟩
theorem r_X1_lossOfSold_J6_bitCount_0f7a4 : RM M_X1_lossOfSold M_J6_bitCount_0f7a4 0 0 := ⟨Nat.le_of_ble_eq_true rfl, Nat.le_of_ble_eq_true rfl, Nat.le_of_ble_eq_true rfl, Nat.le_of_ble_eq_true rfl⟩
theorem r_X1_lossOfSold_X1_learnedFrom : RM M_X1_lossOfSold M_X1_learnedFrom 0 0 := ⟨Nat.le_of_ble_eq_true rfl, Nat.le_of_ble_eq_true rfl, Nat.le_of_ble_eq_true rfl, Nat.le_of_ble_eq_true rfl⟩
theorem r_X1_lost_X1_isSaid : RM M_X1_lost M_X1_isSaid 0 0 := ⟨Nat.le_of_ble_eq_true rfl, Nat.le_of_ble_eq_true rfl, Nat.le_of_ble_eq_true rfl, Nat.le_of_ble_eq_true rfl⟩
theorem r_X1_lost_X1_learned : RM M_X1_lost M_X1_learned 0 0 := ⟨Nat.le_of_ble_eq_true rfl, Nat.le_of_ble_eq_true rfl, Nat.le_of_ble_eq_true rfl, Nat.le_of_ble_eq_true rfl⟩
theorem r_X1_lost_X2_at : RM M_X1_lost M_X2_at 0 0 := ⟨Nat.le_of_ble_eq_true rfl, Nat.le_of_ble_eq_true rfl, Nat.le_of_ble_eq_true rfl, Nat.le_of_ble_eq_true rfl⟩
theorem r_X1_ownSides_X0_of : RM M_X1_ownSides M_X0_of 0 0 := ⟨Nat.le_of_ble_eq_true rfl, Nat.le_of_ble_eq_true rfl, Nat.le_of_ble_eq_true rfl, Nat.le_of_ble_eq_true rfl⟩
theorem r_X1_ownSides_X0_sidesOf : RM M_X1_ownSides M_X0_sidesOf 0 0 := ⟨Nat.le_of_ble_eq_true rfl, Nat.le_of_ble_eq_true rfl, Nat.le_of_ble_eq_true rfl, Nat.le_of_ble_eq_true rfl⟩
theorem r_X1_play_X1_canBe : RM M_X1_play M_X1_canBe 0 0 := ⟨Nat.le_of_ble_eq_true rfl, Nat.le_of_ble_eq_true rfl, Nat.le_of_ble_eq_true rfl, Nat.le_of_ble_eq_true rfl⟩
theorem r_X1_step_X0_stepTo : RM M_X1_step M_X0_stepTo 0 0 := ⟨Nat.le_of_ble_eq_true rfl, Nat.le_of_ble_eq_true rfl, Nat.le_of_ble_eq_true rfl, Nat.le_of_ble_eq_true rfl⟩
theorem r_X1_thunder_X1_drawBelow : RM M_X1_thunder M_X1_drawBelow 0 0 := ⟨Nat.le_of_ble_eq_true rfl, Nat.le_of_ble_eq_true rfl, Nat.le_of_ble_eq_true rfl, Nat.le_of_ble_eq_true rfl⟩
theorem r_X1_wordsOn_X0_faces : RM M_X1_wordsOn M_X0_faces 0 0 := ⟨Nat.le_of_ble_eq_true rfl, Nat.le_of_ble_eq_true rfl, Nat.le_of_ble_eq_true rfl, Nat.le_of_ble_eq_true rfl⟩
theorem r_X1_wordsOn_X0_turned : RM M_X1_wordsOn M_X0_turned 0 0 := ⟨Nat.le_of_ble_eq_true rfl, Nat.le_of_ble_eq_true rfl, Nat.le_of_ble_eq_true rfl, Nat.le_of_ble_eq_true rfl⟩
theorem r_X1_wordsOn_X1_isHeard : RM M_X1_wordsOn M_X1_isHeard 0 0 := ⟨Nat.le_of_ble_eq_true rfl, Nat.le_of_ble_eq_true rfl, Nat.le_of_ble_eq_true rfl, Nat.le_of_ble_eq_true rfl⟩
theorem r_X1_wordsOn_X1_isSaid : RM M_X1_wordsOn M_X1_isSaid 0 0 := ⟨Nat.le_of_ble_eq_true rfl, Nat.le_of_ble_eq_true rfl, Nat.le_of_ble_eq_true rfl, Nat.le_of_ble_eq_true rfl⟩
theorem r_X1_wordsOn_X2_at : RM M_X1_wordsOn M_X2_at 0 0 := ⟨Nat.le_of_ble_eq_true rfl, Nat.le_of_ble_eq_true rfl, Nat.le_of_ble_eq_true rfl, Nat.le_of_ble_eq_true rfl⟩
theorem r_X1_wordsSeen_X0_faces : RM M_X1_wordsSeen M_X0_faces 0 0 := ⟨Nat.le_of_ble_eq_true rfl, Nat.le_of_ble_eq_true rfl, Nat.le_of_ble_eq_true rfl, Nat.le_of_ble_eq_true rfl⟩
theorem r_X1_wordsSeen_X0_of : RM M_X1_wordsSeen M_X0_of 0 0 := ⟨Nat.le_of_ble_eq_true rfl, Nat.le_of_ble_eq_true rfl, Nat.le_of_ble_eq_true rfl, Nat.le_of_ble_eq_true rfl⟩
theorem r_X1_wordsSeen_X0_ray : RM M_X1_wordsSeen M_X0_ray 0 0 := ⟨Nat.le_of_ble_eq_true rfl, Nat.le_of_ble_eq_true rfl, Nat.le_of_ble_eq_true rfl, Nat.le_of_ble_eq_true rfl⟩
theorem r_X1_wordsSeen_X1_isSaid : RM M_X1_wordsSeen M_X1_isSaid 0 0 := ⟨Nat.le_of_ble_eq_true rfl, Nat.le_of_ble_eq_true rfl, Nat.le_of_ble_eq_true rfl, Nat.le_of_ble_eq_true rfl⟩
theorem r_X1_wordsSeen_X2_at : RM M_X1_wordsSeen M_X2_at 0 0 := ⟨Nat.le_of_ble_eq_true rfl, Nat.le_of_ble_eq_true rfl, Nat.le_of_ble_eq_true rfl, Nat.le_of_ble_eq_true rfl⟩
theorem r_X3_advance_X3_isDigit : RM M_X3_advance M_X3_isDigit 0 0 := ⟨Nat.le_of_ble_eq_true rfl, Nat.le_of_ble_eq_true rfl, Nat.le_of_ble_eq_true rfl, Nat.le_of_ble_eq_true rfl⟩
theorem r_X3_advance_X3_isLetter : RM M_X3_advance M_X3_isLetter 0 0 := ⟨Nat.le_of_ble_eq_true rfl, Nat.le_of_ble_eq_true rfl, Nat.le_of_ble_eq_true rfl, Nat.le_of_ble_eq_true rfl⟩
theorem r_X3_advance_X3_passDigits : RM M_X3_advance M_X3_passDigits 0 0 := ⟨Nat.le_of_ble_eq_true rfl, Nat.le_of_ble_eq_true rfl, Nat.le_of_ble_eq_true rfl, Nat.le_of_ble_eq_true rfl⟩
theorem r_X3_advance_X3_passWord : RM M_X3_advance M_X3_passWord 0 0 := ⟨Nat.le_of_ble_eq_true rfl, Nat.le_of_ble_eq_true rfl, Nat.le_of_ble_eq_true rfl, Nat.le_of_ble_eq_true rfl⟩
theorem r_X3_clearDraft_X0_reset : RM M_X3_clearDraft M_X0_reset 0 0 := ⟨Nat.le_of_ble_eq_true rfl, Nat.le_of_ble_eq_true rfl, Nat.le_of_ble_eq_true rfl, Nat.le_of_ble_eq_true rfl⟩
theorem r_X3_finishCourt_X0_all : RM M_X3_finishCourt M_X0_all 0 0 := ⟨Nat.le_of_ble_eq_true rfl, Nat.le_of_ble_eq_true rfl, Nat.le_of_ble_eq_true rfl, Nat.le_of_ble_eq_true rfl⟩
theorem r_X3_finishCourt_X0_measure : RM M_X3_finishCourt M_X0_measure 0 0 := ⟨Nat.le_of_ble_eq_true rfl, Nat.le_of_ble_eq_true rfl, Nat.le_of_ble_eq_true rfl, Nat.le_of_ble_eq_true rfl⟩
theorem r_X3_finishCourt_X3_isSomebodyInWall : RM M_X3_finishCourt M_X3_isSomebodyInWall 0 0 := ⟨Nat.le_of_ble_eq_true rfl, Nat.le_of_ble_eq_true rfl, Nat.le_of_ble_eq_true rfl, Nat.le_of_ble_eq_true rfl⟩
theorem r_X3_finishCourt_X3_note : RM M_X3_finishCourt M_X3_note 0 0 := ⟨Nat.le_of_ble_eq_true rfl, Nat.le_of_ble_eq_true rfl, Nat.le_of_ble_eq_true rfl, Nat.le_of_ble_eq_true rfl⟩
theorem r_X3_formHere_X3_isHere : RM M_X3_formHere M_X3_isHere 0 0 := ⟨Nat.le_of_ble_eq_true rfl, Nat.le_of_ble_eq_true rfl, Nat.le_of_ble_eq_true rfl, Nat.le_of_ble_eq_true rfl⟩
theorem r_X3_formHere_X3_wordOf : RM M_X3_formHere M_X3_wordOf 0 0 := ⟨Nat.le_of_ble_eq_true rfl, Nat.le_of_ble_eq_true rfl, Nat.le_of_ble_eq_true rfl, Nat.le_of_ble_eq_true rfl⟩
theorem r_X3_isOneTooMany_X2_isFull : RM M_X3_isOneTooMany M_X2_isFull 0 0 := ⟨Nat.le_of_ble_eq_true rfl, Nat.le_of_ble_eq_true rfl, Nat.le_of_ble_eq_true rfl, Nat.le_of_ble_eq_true rfl⟩
theorem r_X3_isSomebodyInWall_X0_of : RM M_X3_isSomebodyInWall M_X0_of 0 0 := ⟨Nat.le_of_ble_eq_true rfl, Nat.le_of_ble_eq_true rfl, Nat.le_of_ble_eq_true rfl, Nat.le_of_ble_eq_true rfl⟩
theorem r_X3_keepLine_X3_isOneTooMany : RM M_X3_keepLine M_X3_isOneTooMany 0 0 := ⟨Nat.le_of_ble_eq_true rfl, Nat.le_of_ble_eq_true rfl, Nat.le_of_ble_eq_true rfl, Nat.le_of_ble_eq_true rfl⟩
theorem r_X3_keepLine_X3_keepJudge : RM M_X3_keepLine M_X3_keepJudge 0 0 := ⟨Nat.le_of_ble_eq_true rfl, Nat.le_of_ble_eq_true rfl, Nat.le_of_ble_eq_true rfl, Nat.le_of_ble_eq_true rfl⟩
theorem r_X3_keepLine_X3_keepRow : RM M_X3_keepLine M_X3_keepRow 0 0 := ⟨Nat.le_of_ble_eq_true rfl, Nat.le_of_ble_eq_true rfl, Nat.le_of_ble_eq_true rfl, Nat.le_of_ble_eq_true rfl⟩
theorem r_X3_keepLine_X3_keepTwin : RM M_X3_keepLine M_X3_keepTwin 0 0 := ⟨Nat.le_of_ble_eq_true rfl, Nat.le_of_ble_eq_true rfl, Nat.le_of_ble_eq_true rfl, Nat.le_of_ble_eq_true rfl⟩
theorem r_X3_keepRow_X2_put : RM M_X3_keepRow M_X2_put 0 0 := ⟨Nat.le_of_ble_eq_true rfl, Nat.le_of_ble_eq_true rfl, Nat.le_of_ble_eq_true rfl, Nat.le_of_ble_eq_true rfl⟩
theorem r_X3_passDigits_X3_isDigit : RM M_X3_passDigits M_X3_isDigit 0 0 := ⟨Nat.le_of_ble_eq_true rfl, Nat.le_of_ble_eq_true rfl, Nat.le_of_ble_eq_true rfl, Nat.le_of_ble_eq_true rfl⟩
theorem r_X3_passWord_X3_isLetter : RM M_X3_passWord M_X3_isLetter 0 0 := ⟨Nat.le_of_ble_eq_true rfl, Nat.le_of_ble_eq_true rfl, Nat.le_of_ble_eq_true rfl, Nat.le_of_ble_eq_true rfl⟩
theorem r_X3_read_X3_advance : RM M_X3_read M_X3_advance 0 0 := ⟨Nat.le_of_ble_eq_true rfl, Nat.le_of_ble_eq_true rfl, Nat.le_of_ble_eq_true rfl, Nat.le_of_ble_eq_true rfl⟩
theorem r_X3_read_X3_clearDraft : RM M_X3_read M_X3_clearDraft 0 0 := ⟨Nat.le_of_ble_eq_true rfl, Nat.le_of_ble_eq_true rfl, Nat.le_of_ble_eq_true rfl, Nat.le_of_ble_eq_true rfl⟩
theorem r_X3_read_X3_finishCourt : RM M_X3_read M_X3_finishCourt 0 0 := ⟨Nat.le_of_ble_eq_true rfl, Nat.le_of_ble_eq_true rfl, Nat.le_of_ble_eq_true rfl, Nat.le_of_ble_eq_true rfl⟩
theorem r_X3_read_X3_readLine : RM M_X3_read M_X3_readLine 0 0 := ⟨Nat.le_of_ble_eq_true rfl, Nat.le_of_ble_eq_true rfl, Nat.le_of_ble_eq_true rfl, Nat.le_of_ble_eq_true rfl⟩
theorem r_X3_readLine_J7_fill_53178 : RM M_X3_readLine M_J7_fill_53178 0 0 := ⟨Nat.le_of_ble_eq_true rfl, Nat.le_of_ble_eq_true rfl, Nat.le_of_ble_eq_true rfl, Nat.le_of_ble_eq_true rfl⟩
theorem r_X3_readLine_X3_advance : RM M_X3_readLine M_X3_advance 0 0 := ⟨Nat.le_of_ble_eq_true rfl, Nat.le_of_ble_eq_true rfl, Nat.le_of_ble_eq_true rfl, Nat.le_of_ble_eq_true rfl⟩
theorem r_X3_readLine_X3_formHere : RM M_X3_readLine M_X3_formHere 0 0 := ⟨Nat.le_of_ble_eq_true rfl, Nat.le_of_ble_eq_true rfl, Nat.le_of_ble_eq_true rfl, Nat.le_of_ble_eq_true rfl⟩
theorem r_X3_readLine_X3_isOneTooMany : RM M_X3_readLine M_X3_isOneTooMany 0 0 := ⟨Nat.le_of_ble_eq_true rfl, Nat.le_of_ble_eq_true rfl, Nat.le_of_ble_eq_true rfl, Nat.le_of_ble_eq_true rfl⟩
theorem r_X3_readLine_X3_keepLine : RM M_X3_readLine M_X3_keepLine 0 0 := ⟨Nat.le_of_ble_eq_true rfl, Nat.le_of_ble_eq_true rfl, Nat.le_of_ble_eq_true rfl, Nat.le_of_ble_eq_true rfl⟩
theorem r_X3_readLine_X3_note : RM M_X3_readLine M_X3_note 0 0 := ⟨Nat.le_of_ble_eq_true rfl, Nat.le_of_ble_eq_true rfl, Nat.le_of_ble_eq_true rfl, Nat.le_of_ble_eq_true rfl⟩
theorem r_X3_readLine_X3_readNumber : RM M_X3_readLine M_X3_readNumber 0 0 := ⟨Nat.le_of_ble_eq_true rfl, Nat.le_of_ble_eq_true rfl, Nat.le_of_ble_eq_true rfl, Nat.le_of_ble_eq_true rfl⟩
theorem r_X3_readNumber_X3_advance : RM M_X3_readNumber M_X3_advance 0 0 := ⟨Nat.le_of_ble_eq_true rfl, Nat.le_of_ble_eq_true rfl, Nat.le_of_ble_eq_true rfl, Nat.le_of_ble_eq_true rfl⟩
theorem r_X3_readNumber_X3_note : RM M_X3_readNumber M_X3_note 0 0 := ⟨Nat.le_of_ble_eq_true rfl, Nat.le_of_ble_eq_true rfl, Nat.le_of_ble_eq_true rfl, Nat.le_of_ble_eq_true rfl⟩
theorem r_X4_leastSeat_X4_worthWith : RM M_X4_leastSeat M_X4_worthWith 0 0 := ⟨Nat.le_of_ble_eq_true rfl, Nat.le_of_ble_eq_true rfl, Nat.le_of_ble_eq_true rfl, Nat.le_of_ble_eq_true rfl⟩
theorem r_X4_leastSeat_X7_has : RM M_X4_leastSeat M_X7_has 0 0 := ⟨Nat.le_of_ble_eq_true rfl, Nat.le_of_ble_eq_true rfl, Nat.le_of_ble_eq_true rfl, Nat.le_of_ble_eq_true rfl⟩
theorem r_X4_seatOf_X4_leastSeat : RM M_X4_seatOf M_X4_leastSeat 0 0 := ⟨Nat.le_of_ble_eq_true rfl, Nat.le_of_ble_eq_true rfl, Nat.le_of_ble_eq_true rfl, Nat.le_of_ble_eq_true rfl⟩
theorem r_X4_settle_X1_knownOnSeat : RM M_X4_settle M_X1_knownOnSeat 0 0 := ⟨Nat.le_of_ble_eq_true rfl, Nat.le_of_ble_eq_true rfl, Nat.le_of_ble_eq_true rfl, Nat.le_of_ble_eq_true rfl⟩
theorem r_X4_settle_X4_worthWith : RM M_X4_settle M_X4_worthWith 0 0 := ⟨Nat.le_of_ble_eq_true rfl, Nat.le_of_ble_eq_true rfl, Nat.le_of_ble_eq_true rfl, Nat.le_of_ble_eq_true rfl⟩
theorem r_X4_settle_X7_has : RM M_X4_settle M_X7_has 0 0 := ⟨Nat.le_of_ble_eq_true rfl, Nat.le_of_ble_eq_true rfl, Nat.le_of_ble_eq_true rfl, Nat.le_of_ble_eq_true rfl⟩
theorem r_X4_worthWith_J6_bitCount_0f7a4 : RM M_X4_worthWith M_J6_bitCount_0f7a4 0 0 := ⟨Nat.le_of_ble_eq_true rfl, Nat.le_of_ble_eq_true rfl, Nat.le_of_ble_eq_true rfl, Nat.le_of_ble_eq_true rfl⟩
theorem r_X5_copyFrom_X0_copyFrom : RM M_X5_copyFrom M_X0_copyFrom 0 0 := ⟨Nat.le_of_ble_eq_true rfl, Nat.le_of_ble_eq_true rfl, Nat.le_of_ble_eq_true rfl, Nat.le_of_ble_eq_true rfl⟩
theorem r_X5_copyFrom_X2_copyFrom : RM M_X5_copyFrom M_X2_copyFrom 0 0 := ⟨Nat.le_of_ble_eq_true rfl, Nat.le_of_ble_eq_true rfl, Nat.le_of_ble_eq_true rfl, Nat.le_of_ble_eq_true rfl⟩
theorem r_X5_copyFrom_X5_slotOf : RM M_X5_copyFrom M_X5_slotOf 0 0 := ⟨Nat.le_of_ble_eq_true rfl, Nat.le_of_ble_eq_true rfl, Nat.le_of_ble_eq_true rfl, Nat.le_of_ble_eq_true rfl⟩
theorem r_X6_actAt_X0_stepTo : RM M_X6_actAt M_X0_stepTo 0 0 := ⟨Nat.le_of_ble_eq_true rfl, Nat.le_of_ble_eq_true rfl, Nat.le_of_ble_eq_true rfl, Nat.le_of_ble_eq_true rfl⟩
theorem r_X6_actAt_X6_earsOn : RM M_X6_actAt M_X6_earsOn 0 0 := ⟨Nat.le_of_ble_eq_true rfl, Nat.le_of_ble_eq_true rfl, Nat.le_of_ble_eq_true rfl, Nat.le_of_ble_eq_true rfl⟩
theorem r_X6_actAt_X6_firstAct : RM M_X6_actAt M_X6_firstAct 0 0 := ⟨Nat.le_of_ble_eq_true rfl, Nat.le_of_ble_eq_true rfl, Nat.le_of_ble_eq_true rfl, Nat.le_of_ble_eq_true rfl⟩
theorem r_X6_earsOn_X6_band : RM M_X6_earsOn M_X6_band 0 0 := ⟨Nat.le_of_ble_eq_true rfl, Nat.le_of_ble_eq_true rfl, Nat.le_of_ble_eq_true rfl, Nat.le_of_ble_eq_true rfl⟩
theorem r_X6_earsOn_X7_has : RM M_X6_earsOn M_X7_has 0 0 := ⟨Nat.le_of_ble_eq_true rfl, Nat.le_of_ble_eq_true rfl, Nat.le_of_ble_eq_true rfl, Nat.le_of_ble_eq_true rfl⟩
theorem r_X6_firstAct_X0_beside : RM M_X6_firstAct M_X0_beside 0 0 := ⟨Nat.le_of_ble_eq_true rfl, Nat.le_of_ble_eq_true rfl, Nat.le_of_ble_eq_true rfl, Nat.le_of_ble_eq_true rfl⟩
theorem r_X6_firstAct_X7_has : RM M_X6_firstAct M_X7_has 0 0 := ⟨Nat.le_of_ble_eq_true rfl, Nat.le_of_ble_eq_true rfl, Nat.le_of_ble_eq_true rfl, Nat.le_of_ble_eq_true rfl⟩
theorem r_X6_layBands_J7_fill_d0a16 : RM M_X6_layBands M_J7_fill_d0a16 0 0 := ⟨Nat.le_of_ble_eq_true rfl, Nat.le_of_ble_eq_true rfl, Nat.le_of_ble_eq_true rfl, Nat.le_of_ble_eq_true rfl⟩
theorem r_X6_layBands_X0_earsAt : RM M_X6_layBands M_X0_earsAt 0 0 := ⟨Nat.le_of_ble_eq_true rfl, Nat.le_of_ble_eq_true rfl, Nat.le_of_ble_eq_true rfl, Nat.le_of_ble_eq_true rfl⟩
theorem r_X6_layBands_X0_isOpen : RM M_X6_layBands M_X0_isOpen 0 0 := ⟨Nat.le_of_ble_eq_true rfl, Nat.le_of_ble_eq_true rfl, Nat.le_of_ble_eq_true rfl, Nat.le_of_ble_eq_true rfl⟩
theorem r_X6_leading_X0_grow : RM M_X6_leading M_X0_grow 0 0 := ⟨Nat.le_of_ble_eq_true rfl, Nat.le_of_ble_eq_true rfl, Nat.le_of_ble_eq_true rfl, Nat.le_of_ble_eq_true rfl⟩
theorem r_X6_leading_X6_band : RM M_X6_leading M_X6_band 0 0 := ⟨Nat.le_of_ble_eq_true rfl, Nat.le_of_ble_eq_true rfl, Nat.le_of_ble_eq_true rfl, Nat.le_of_ble_eq_true rfl⟩
theorem r_X6_prune_X6_leading : RM M_X6_prune M_X6_leading 0 0 := ⟨Nat.le_of_ble_eq_true rfl, Nat.le_of_ble_eq_true rfl, Nat.le_of_ble_eq_true rfl, Nat.le_of_ble_eq_true rfl⟩
theorem r_X6_search_J7_fill_bad5a : RM M_X6_search M_J7_fill_bad5a 0 0 := ⟨Nat.le_of_ble_eq_true rfl, Nat.le_of_ble_eq_true rfl, Nat.le_of_ble_eq_true rfl, Nat.le_of_ble_eq_true rfl⟩
theorem r_X6_search_X6_layBands : RM M_X6_search M_X6_layBands 0 0 := ⟨Nat.le_of_ble_eq_true rfl, Nat.le_of_ble_eq_true rfl, Nat.le_of_ble_eq_true rfl, Nat.le_of_ble_eq_true rfl⟩
theorem r_X6_search_X6_prune : RM M_X6_search M_X6_prune 0 0 := ⟨Nat.le_of_ble_eq_true rfl, Nat.le_of_ble_eq_true rfl, Nat.le_of_ble_eq_true rfl, Nat.le_of_ble_eq_true rfl⟩
theorem r_X6_search_X6_spread : RM M_X6_search M_X6_spread 0 0 := ⟨Nat.le_of_ble_eq_true rfl, Nat.le_of_ble_eq_true rfl, Nat.le_of_ble_eq_true rfl, Nat.le_of_ble_eq_true rfl⟩
theorem r_X6_spread_J7_fill_bad5a : RM M_X6_spread M_J7_fill_bad5a 0 0 := ⟨Nat.le_of_ble_eq_true rfl, Nat.le_of_ble_eq_true rfl, Nat.le_of_ble_eq_true rfl, Nat.le_of_ble_eq_true rfl⟩
theorem r_X6_spread_X0_grow : RM M_X6_spread M_X0_grow 0 0 := ⟨Nat.le_of_ble_eq_true rfl, Nat.le_of_ble_eq_true rfl, Nat.le_of_ble_eq_true rfl, Nat.le_of_ble_eq_true rfl⟩
theorem r_X6_spread_X6_band : RM M_X6_spread M_X6_band 0 0 := ⟨Nat.le_of_ble_eq_true rfl, Nat.le_of_ble_eq_true rfl, Nat.le_of_ble_eq_true rfl, Nat.le_of_ble_eq_true rfl⟩
theorem r_X7_again_X5_copyFrom : RM M_X7_again M_X5_copyFrom 0 0 := ⟨Nat.le_of_ble_eq_true rfl, Nat.le_of_ble_eq_true rfl, Nat.le_of_ble_eq_true rfl, Nat.le_of_ble_eq_true rfl⟩
theorem r_X7_areas_X0_parts : RM M_X7_areas M_X0_parts 0 0 := ⟨Nat.le_of_ble_eq_true rfl, Nat.le_of_ble_eq_true rfl, Nat.le_of_ble_eq_true rfl, Nat.le_of_ble_eq_true rfl⟩
theorem r_X7_areas_X7_carve : RM M_X7_areas M_X7_carve 0 0 := ⟨Nat.le_of_ble_eq_true rfl, Nat.le_of_ble_eq_true rfl, Nat.le_of_ble_eq_true rfl, Nat.le_of_ble_eq_true rfl⟩
theorem r_X7_areas_X7_courtAt : RM M_X7_areas M_X7_courtAt 0 0 := ⟨Nat.le_of_ble_eq_true rfl, Nat.le_of_ble_eq_true rfl, Nat.le_of_ble_eq_true rfl, Nat.le_of_ble_eq_true rfl⟩
theorem r_X7_areas_X7_isLoud : RM M_X7_areas M_X7_isLoud 0 0 := ⟨Nat.le_of_ble_eq_true rfl, Nat.le_of_ble_eq_true rfl, Nat.le_of_ble_eq_true rfl, Nat.le_of_ble_eq_true rfl⟩
theorem r_X7_bench_X0_hasJudge : RM M_X7_bench M_X0_hasJudge 0 0 := ⟨Nat.le_of_ble_eq_true rfl, Nat.le_of_ble_eq_true rfl, Nat.le_of_ble_eq_true rfl, Nat.le_of_ble_eq_true rfl⟩
theorem r_X7_bench_X1_allLearned : RM M_X7_bench M_X1_allLearned 0 0 := ⟨Nat.le_of_ble_eq_true rfl, Nat.le_of_ble_eq_true rfl, Nat.le_of_ble_eq_true rfl, Nat.le_of_ble_eq_true rfl⟩
theorem r_X7_bench_X1_knownFacing : RM M_X7_bench M_X1_knownFacing 0 0 := ⟨Nat.le_of_ble_eq_true rfl, Nat.le_of_ble_eq_true rfl, Nat.le_of_ble_eq_true rfl, Nat.le_of_ble_eq_true rfl⟩
theorem r_X7_bench_X7_hallOf : RM M_X7_bench M_X7_hallOf 0 0 := ⟨Nat.le_of_ble_eq_true rfl, Nat.le_of_ble_eq_true rfl, Nat.le_of_ble_eq_true rfl, Nat.le_of_ble_eq_true rfl⟩
theorem r_X7_carve_X0_blind : RM M_X7_carve M_X0_blind 0 0 := ⟨Nat.le_of_ble_eq_true rfl, Nat.le_of_ble_eq_true rfl, Nat.le_of_ble_eq_true rfl, Nat.le_of_ble_eq_true rfl⟩
theorem r_X7_carve_X0_copyFrom : RM M_X7_carve M_X0_copyFrom 0 0 := ⟨Nat.le_of_ble_eq_true rfl, Nat.le_of_ble_eq_true rfl, Nat.le_of_ble_eq_true rfl, Nat.le_of_ble_eq_true rfl⟩
theorem r_X7_carve_X0_lay : RM M_X7_carve M_X0_lay 0 0 := ⟨Nat.le_of_ble_eq_true rfl, Nat.le_of_ble_eq_true rfl, Nat.le_of_ble_eq_true rfl, Nat.le_of_ble_eq_true rfl⟩
theorem r_X7_carve_X0_measure : RM M_X7_carve M_X0_measure 0 0 := ⟨Nat.le_of_ble_eq_true rfl, Nat.le_of_ble_eq_true rfl, Nat.le_of_ble_eq_true rfl, Nat.le_of_ble_eq_true rfl⟩
theorem r_X7_carve_X7_has : RM M_X7_carve M_X7_has 0 0 := ⟨Nat.le_of_ble_eq_true rfl, Nat.le_of_ble_eq_true rfl, Nat.le_of_ble_eq_true rfl, Nat.le_of_ble_eq_true rfl⟩
theorem r_X7_cellOf_X2_at : RM M_X7_cellOf M_X2_at 0 0 := ⟨Nat.le_of_ble_eq_true rfl, Nat.le_of_ble_eq_true rfl, Nat.le_of_ble_eq_true rfl, Nat.le_of_ble_eq_true rfl⟩
theorem r_X7_claim_X7_cellOf : RM M_X7_claim M_X7_cellOf 0 0 := ⟨Nat.le_of_ble_eq_true rfl, Nat.le_of_ble_eq_true rfl, Nat.le_of_ble_eq_true rfl, Nat.le_of_ble_eq_true rfl⟩
theorem r_X7_claim_X7_listAt : RM M_X7_claim M_X7_listAt 0 0 := ⟨Nat.le_of_ble_eq_true rfl, Nat.le_of_ble_eq_true rfl, Nat.le_of_ble_eq_true rfl, Nat.le_of_ble_eq_true rfl⟩
theorem r_X7_comes_X0_faces : RM M_X7_comes M_X0_faces 0 0 := ⟨Nat.le_of_ble_eq_true rfl, Nat.le_of_ble_eq_true rfl, Nat.le_of_ble_eq_true rfl, Nat.le_of_ble_eq_true rfl⟩
theorem r_X7_comes_X0_hasJudge : RM M_X7_comes M_X0_hasJudge 0 0 := ⟨Nat.le_of_ble_eq_true rfl, Nat.le_of_ble_eq_true rfl, Nat.le_of_ble_eq_true rfl, Nat.le_of_ble_eq_true rfl⟩
theorem r_X7_comes_X0_isOpen : RM M_X7_comes M_X0_isOpen 0 0 := ⟨Nat.le_of_ble_eq_true rfl, Nat.le_of_ble_eq_true rfl, Nat.le_of_ble_eq_true rfl, Nat.le_of_ble_eq_true rfl⟩
theorem r_X7_comes_X0_of : RM M_X7_comes M_X0_of 0 0 := ⟨Nat.le_of_ble_eq_true rfl, Nat.le_of_ble_eq_true rfl, Nat.le_of_ble_eq_true rfl, Nat.le_of_ble_eq_true rfl⟩
theorem r_X7_comes_X0_sidesFrom : RM M_X7_comes M_X0_sidesFrom 0 0 := ⟨Nat.le_of_ble_eq_true rfl, Nat.le_of_ble_eq_true rfl, Nat.le_of_ble_eq_true rfl, Nat.le_of_ble_eq_true rfl⟩
theorem r_X7_comes_X0_turned : RM M_X7_comes M_X0_turned 0 0 := ⟨Nat.le_of_ble_eq_true rfl, Nat.le_of_ble_eq_true rfl, Nat.le_of_ble_eq_true rfl, Nat.le_of_ble_eq_true rfl⟩
theorem r_X7_comes_X7_courtAt : RM M_X7_comes M_X7_courtAt 0 0 := ⟨Nat.le_of_ble_eq_true rfl, Nat.le_of_ble_eq_true rfl, Nat.le_of_ble_eq_true rfl, Nat.le_of_ble_eq_true rfl⟩
theorem r_X7_comes_X7_isHour : RM M_X7_comes M_X7_isHour 0 0 := ⟨Nat.le_of_ble_eq_true rfl, Nat.le_of_ble_eq_true rfl, Nat.le_of_ble_eq_true rfl, Nat.le_of_ble_eq_true rfl⟩
theorem r_X7_court_J13_bitCount_95d88 : RM M_X7_court M_J13_bitCount_95d88 0 0 := ⟨Nat.le_of_ble_eq_true rfl, Nat.le_of_ble_eq_true rfl, Nat.le_of_ble_eq_true rfl, Nat.le_of_ble_eq_true rfl⟩
theorem r_X7_court_X0_quarter : RM M_X7_court M_X0_quarter 0 0 := ⟨Nat.le_of_ble_eq_true rfl, Nat.le_of_ble_eq_true rfl, Nat.le_of_ble_eq_true rfl, Nat.le_of_ble_eq_true rfl⟩
theorem r_X7_court_X7_courtAt : RM M_X7_court M_X7_courtAt 0 0 := ⟨Nat.le_of_ble_eq_true rfl, Nat.le_of_ble_eq_true rfl, Nat.le_of_ble_eq_true rfl, Nat.le_of_ble_eq_true rfl⟩
theorem r_X7_courtAt_X0_lay : RM M_X7_courtAt M_X0_lay 0 0 := ⟨Nat.le_of_ble_eq_true rfl, Nat.le_of_ble_eq_true rfl, Nat.le_of_ble_eq_true rfl, Nat.le_of_ble_eq_true rfl⟩
theorem r_X7_deed_X7_cellOf : RM M_X7_deed M_X7_cellOf 0 0 := ⟨Nat.le_of_ble_eq_true rfl, Nat.le_of_ble_eq_true rfl, Nat.le_of_ble_eq_true rfl, Nat.le_of_ble_eq_true rfl⟩
theorem r_X7_deed_X7_listAt : RM M_X7_deed M_X7_listAt 0 0 := ⟨Nat.le_of_ble_eq_true rfl, Nat.le_of_ble_eq_true rfl, Nat.le_of_ble_eq_true rfl, Nat.le_of_ble_eq_true rfl⟩
theorem r_X7_drawn_X0_hasJudge : RM M_X7_drawn M_X0_hasJudge 0 0 := ⟨Nat.le_of_ble_eq_true rfl, Nat.le_of_ble_eq_true rfl, Nat.le_of_ble_eq_true rfl, Nat.le_of_ble_eq_true rfl⟩
theorem r_X7_drawn_X1_allLearned : RM M_X7_drawn M_X1_allLearned 0 0 := ⟨Nat.le_of_ble_eq_true rfl, Nat.le_of_ble_eq_true rfl, Nat.le_of_ble_eq_true rfl, Nat.le_of_ble_eq_true rfl⟩
theorem r_X7_drawn_X1_learned : RM M_X7_drawn M_X1_learned 0 0 := ⟨Nat.le_of_ble_eq_true rfl, Nat.le_of_ble_eq_true rfl, Nat.le_of_ble_eq_true rfl, Nat.le_of_ble_eq_true rfl⟩
theorem r_X7_drawn_X1_thunder : RM M_X7_drawn M_X1_thunder 0 0 := ⟨Nat.le_of_ble_eq_true rfl, Nat.le_of_ble_eq_true rfl, Nat.le_of_ble_eq_true rfl, Nat.le_of_ble_eq_true rfl⟩
theorem r_X7_drawn_X7_hallOf : RM M_X7_drawn M_X7_hallOf 0 0 := ⟨Nat.le_of_ble_eq_true rfl, Nat.le_of_ble_eq_true rfl, Nat.le_of_ble_eq_true rfl, Nat.le_of_ble_eq_true rfl⟩
theorem r_X7_ears_X0_earsAt : RM M_X7_ears M_X0_earsAt 0 0 := ⟨Nat.le_of_ble_eq_true rfl, Nat.le_of_ble_eq_true rfl, Nat.le_of_ble_eq_true rfl, Nat.le_of_ble_eq_true rfl⟩
theorem r_X7_ears_X0_isOpen : RM M_X7_ears M_X0_isOpen 0 0 := ⟨Nat.le_of_ble_eq_true rfl, Nat.le_of_ble_eq_true rfl, Nat.le_of_ble_eq_true rfl, Nat.le_of_ble_eq_true rfl⟩
theorem r_X7_ears_X7_courtAt : RM M_X7_ears M_X7_courtAt 0 0 := ⟨Nat.le_of_ble_eq_true rfl, Nat.le_of_ble_eq_true rfl, Nat.le_of_ble_eq_true rfl, Nat.le_of_ble_eq_true rfl⟩
theorem r_X7_ears_X7_isHour : RM M_X7_ears M_X7_isHour 0 0 := ⟨Nat.le_of_ble_eq_true rfl, Nat.le_of_ble_eq_true rfl, Nat.le_of_ble_eq_true rfl, Nat.le_of_ble_eq_true rfl⟩
theorem r_X7_ears_X7_isLoud : RM M_X7_ears M_X7_isLoud 0 0 := ⟨Nat.le_of_ble_eq_true rfl, Nat.le_of_ble_eq_true rfl, Nat.le_of_ble_eq_true rfl, Nat.le_of_ble_eq_true rfl⟩
theorem r_X7_echo_J13_bitCount_95d88 : RM M_X7_echo M_J13_bitCount_95d88 0 0 := ⟨Nat.le_of_ble_eq_true rfl, Nat.le_of_ble_eq_true rfl, Nat.le_of_ble_eq_true rfl, Nat.le_of_ble_eq_true rfl⟩
theorem r_X7_echo_X0_audible : RM M_X7_echo M_X0_audible 0 0 := ⟨Nat.le_of_ble_eq_true rfl, Nat.le_of_ble_eq_true rfl, Nat.le_of_ble_eq_true rfl, Nat.le_of_ble_eq_true rfl⟩
theorem r_X7_echo_X0_blind : RM M_X7_echo M_X0_blind 0 0 := ⟨Nat.le_of_ble_eq_true rfl, Nat.le_of_ble_eq_true rfl, Nat.le_of_ble_eq_true rfl, Nat.le_of_ble_eq_true rfl⟩
theorem r_X7_echo_X0_hasJudge : RM M_X7_echo M_X0_hasJudge 0 0 := ⟨Nat.le_of_ble_eq_true rfl, Nat.le_of_ble_eq_true rfl, Nat.le_of_ble_eq_true rfl, Nat.le_of_ble_eq_true rfl⟩
theorem r_X7_echo_X7_courtAt : RM M_X7_echo M_X7_courtAt 0 0 := ⟨Nat.le_of_ble_eq_true rfl, Nat.le_of_ble_eq_true rfl, Nat.le_of_ble_eq_true rfl, Nat.le_of_ble_eq_true rfl⟩
theorem r_X7_echo_X7_isLoud : RM M_X7_echo M_X7_isLoud 0 0 := ⟨Nat.le_of_ble_eq_true rfl, Nat.le_of_ble_eq_true rfl, Nat.le_of_ble_eq_true rfl, Nat.le_of_ble_eq_true rfl⟩
theorem r_X7_far_X0_isOpen : RM M_X7_far M_X0_isOpen 0 0 := ⟨Nat.le_of_ble_eq_true rfl, Nat.le_of_ble_eq_true rfl, Nat.le_of_ble_eq_true rfl, Nat.le_of_ble_eq_true rfl⟩
theorem r_X7_far_X0_steps : RM M_X7_far M_X0_steps 0 0 := ⟨Nat.le_of_ble_eq_true rfl, Nat.le_of_ble_eq_true rfl, Nat.le_of_ble_eq_true rfl, Nat.le_of_ble_eq_true rfl⟩
theorem r_X7_far_X7_courtAt : RM M_X7_far M_X7_courtAt 0 0 := ⟨Nat.le_of_ble_eq_true rfl, Nat.le_of_ble_eq_true rfl, Nat.le_of_ble_eq_true rfl, Nat.le_of_ble_eq_true rfl⟩
theorem r_X7_feed_X5_append : RM M_X7_feed M_X5_append 0 0 := ⟨Nat.le_of_ble_eq_true rfl, Nat.le_of_ble_eq_true rfl, Nat.le_of_ble_eq_true rfl, Nat.le_of_ble_eq_true rfl⟩
theorem r_X7_hallOf_X1_play : RM M_X7_hallOf M_X1_play 0 0 := ⟨Nat.le_of_ble_eq_true rfl, Nat.le_of_ble_eq_true rfl, Nat.le_of_ble_eq_true rfl, Nat.le_of_ble_eq_true rfl⟩
theorem r_X7_hallOf_X7_courtAt : RM M_X7_hallOf M_X7_courtAt 0 0 := ⟨Nat.le_of_ble_eq_true rfl, Nat.le_of_ble_eq_true rfl, Nat.le_of_ble_eq_true rfl, Nat.le_of_ble_eq_true rfl⟩
theorem r_X7_hallOf_X7_listAt : RM M_X7_hallOf M_X7_listAt 0 0 := ⟨Nat.le_of_ble_eq_true rfl, Nat.le_of_ble_eq_true rfl, Nat.le_of_ble_eq_true rfl, Nat.le_of_ble_eq_true rfl⟩
theorem r_X7_heard_X1_hearers : RM M_X7_heard M_X1_hearers 0 0 := ⟨Nat.le_of_ble_eq_true rfl, Nat.le_of_ble_eq_true rfl, Nat.le_of_ble_eq_true rfl, Nat.le_of_ble_eq_true rfl⟩
theorem r_X7_heard_X1_isSaid : RM M_X7_heard M_X1_isSaid 0 0 := ⟨Nat.le_of_ble_eq_true rfl, Nat.le_of_ble_eq_true rfl, Nat.le_of_ble_eq_true rfl, Nat.le_of_ble_eq_true rfl⟩
theorem r_X7_heard_X7_hallOf : RM M_X7_heard M_X7_hallOf 0 0 := ⟨Nat.le_of_ble_eq_true rfl, Nat.le_of_ble_eq_true rfl, Nat.le_of_ble_eq_true rfl, Nat.le_of_ble_eq_true rfl⟩
theorem r_X7_hush_J6_bitCount_0f7a4 : RM M_X7_hush M_J6_bitCount_0f7a4 0 0 := ⟨Nat.le_of_ble_eq_true rfl, Nat.le_of_ble_eq_true rfl, Nat.le_of_ble_eq_true rfl, Nat.le_of_ble_eq_true rfl⟩
theorem r_X7_hush_X0_earsAt : RM M_X7_hush M_X0_earsAt 0 0 := ⟨Nat.le_of_ble_eq_true rfl, Nat.le_of_ble_eq_true rfl, Nat.le_of_ble_eq_true rfl, Nat.le_of_ble_eq_true rfl⟩
theorem r_X7_hush_X0_isOpen : RM M_X7_hush M_X0_isOpen 0 0 := ⟨Nat.le_of_ble_eq_true rfl, Nat.le_of_ble_eq_true rfl, Nat.le_of_ble_eq_true rfl, Nat.le_of_ble_eq_true rfl⟩
theorem r_X7_hush_X7_courtAt : RM M_X7_hush M_X7_courtAt 0 0 := ⟨Nat.le_of_ble_eq_true rfl, Nat.le_of_ble_eq_true rfl, Nat.le_of_ble_eq_true rfl, Nat.le_of_ble_eq_true rfl⟩
theorem r_X7_hush_X7_isHour : RM M_X7_hush M_X7_isHour 0 0 := ⟨Nat.le_of_ble_eq_true rfl, Nat.le_of_ble_eq_true rfl, Nat.le_of_ble_eq_true rfl, Nat.le_of_ble_eq_true rfl⟩
theorem r_X7_idle_X1_learnAll : RM M_X7_idle M_X1_learnAll 0 0 := ⟨Nat.le_of_ble_eq_true rfl, Nat.le_of_ble_eq_true rfl, Nat.le_of_ble_eq_true rfl, Nat.le_of_ble_eq_true rfl⟩
theorem r_X7_idle_X7_hallOf : RM M_X7_idle M_X7_hallOf 0 0 := ⟨Nat.le_of_ble_eq_true rfl, Nat.le_of_ble_eq_true rfl, Nat.le_of_ble_eq_true rfl, Nat.le_of_ble_eq_true rfl⟩
theorem r_X7_idle_X7_listAt : RM M_X7_idle M_X7_listAt 0 0 := ⟨Nat.le_of_ble_eq_true rfl, Nat.le_of_ble_eq_true rfl, Nat.le_of_ble_eq_true rfl, Nat.le_of_ble_eq_true rfl⟩
theorem r_X7_idle_X7_ruleFor : RM M_X7_idle M_X7_ruleFor 0 0 := ⟨Nat.le_of_ble_eq_true rfl, Nat.le_of_ble_eq_true rfl, Nat.le_of_ble_eq_true rfl, Nat.le_of_ble_eq_true rfl⟩
theorem r_X7_judge_X0_faces : RM M_X7_judge M_X0_faces 0 0 := ⟨Nat.le_of_ble_eq_true rfl, Nat.le_of_ble_eq_true rfl, Nat.le_of_ble_eq_true rfl, Nat.le_of_ble_eq_true rfl⟩
theorem r_X7_judge_X0_hasJudge : RM M_X7_judge M_X0_hasJudge 0 0 := ⟨Nat.le_of_ble_eq_true rfl, Nat.le_of_ble_eq_true rfl, Nat.le_of_ble_eq_true rfl, Nat.le_of_ble_eq_true rfl⟩
theorem r_X7_judge_X0_of : RM M_X7_judge M_X0_of 0 0 := ⟨Nat.le_of_ble_eq_true rfl, Nat.le_of_ble_eq_true rfl, Nat.le_of_ble_eq_true rfl, Nat.le_of_ble_eq_true rfl⟩
theorem r_X7_judge_X7_courtAt : RM M_X7_judge M_X7_courtAt 0 0 := ⟨Nat.le_of_ble_eq_true rfl, Nat.le_of_ble_eq_true rfl, Nat.le_of_ble_eq_true rfl, Nat.le_of_ble_eq_true rfl⟩
theorem r_X7_keepDraft_X5_slotOf : RM M_X7_keepDraft M_X5_slotOf 0 0 := ⟨Nat.le_of_ble_eq_true rfl, Nat.le_of_ble_eq_true rfl, Nat.le_of_ble_eq_true rfl, Nat.le_of_ble_eq_true rfl⟩
theorem r_X7_knows_X0_hasJudge : RM M_X7_knows M_X0_hasJudge 0 0 := ⟨Nat.le_of_ble_eq_true rfl, Nat.le_of_ble_eq_true rfl, Nat.le_of_ble_eq_true rfl, Nat.le_of_ble_eq_true rfl⟩
theorem r_X7_knows_X1_common : RM M_X7_knows M_X1_common 0 0 := ⟨Nat.le_of_ble_eq_true rfl, Nat.le_of_ble_eq_true rfl, Nat.le_of_ble_eq_true rfl, Nat.le_of_ble_eq_true rfl⟩
theorem r_X7_knows_X1_learned : RM M_X7_knows M_X1_learned 0 0 := ⟨Nat.le_of_ble_eq_true rfl, Nat.le_of_ble_eq_true rfl, Nat.le_of_ble_eq_true rfl, Nat.le_of_ble_eq_true rfl⟩
theorem r_X7_knows_X1_lost : RM M_X7_knows M_X1_lost 0 0 := ⟨Nat.le_of_ble_eq_true rfl, Nat.le_of_ble_eq_true rfl, Nat.le_of_ble_eq_true rfl, Nat.le_of_ble_eq_true rfl⟩
theorem r_X7_knows_X7_hallOf : RM M_X7_knows M_X7_hallOf 0 0 := ⟨Nat.le_of_ble_eq_true rfl, Nat.le_of_ble_eq_true rfl, Nat.le_of_ble_eq_true rfl, Nat.le_of_ble_eq_true rfl⟩
theorem r_X7_lips_X0_hasJudge : RM M_X7_lips M_X0_hasJudge 0 0 := ⟨Nat.le_of_ble_eq_true rfl, Nat.le_of_ble_eq_true rfl, Nat.le_of_ble_eq_true rfl, Nat.le_of_ble_eq_true rfl⟩
theorem r_X7_lips_X1_learnAll : RM M_X7_lips M_X1_learnAll 0 0 := ⟨Nat.le_of_ble_eq_true rfl, Nat.le_of_ble_eq_true rfl, Nat.le_of_ble_eq_true rfl, Nat.le_of_ble_eq_true rfl⟩
theorem r_X7_lips_X1_wordsSeen : RM M_X7_lips M_X1_wordsSeen 0 0 := ⟨Nat.le_of_ble_eq_true rfl, Nat.le_of_ble_eq_true rfl, Nat.le_of_ble_eq_true rfl, Nat.le_of_ble_eq_true rfl⟩
theorem r_X7_lips_X2_at : RM M_X7_lips M_X2_at 0 0 := ⟨Nat.le_of_ble_eq_true rfl, Nat.le_of_ble_eq_true rfl, Nat.le_of_ble_eq_true rfl, Nat.le_of_ble_eq_true rfl⟩
theorem r_X7_lips_X7_hallOf : RM M_X7_lips M_X7_hallOf 0 0 := ⟨Nat.le_of_ble_eq_true rfl, Nat.le_of_ble_eq_true rfl, Nat.le_of_ble_eq_true rfl, Nat.le_of_ble_eq_true rfl⟩
theorem r_X7_lips_X7_has : RM M_X7_lips M_X7_has 0 0 := ⟨Nat.le_of_ble_eq_true rfl, Nat.le_of_ble_eq_true rfl, Nat.le_of_ble_eq_true rfl, Nat.le_of_ble_eq_true rfl⟩
theorem r_X7_lips_X7_listAt : RM M_X7_lips M_X7_listAt 0 0 := ⟨Nat.le_of_ble_eq_true rfl, Nat.le_of_ble_eq_true rfl, Nat.le_of_ble_eq_true rfl, Nat.le_of_ble_eq_true rfl⟩
theorem r_X7_lips_X7_readerOf : RM M_X7_lips M_X7_readerOf 0 0 := ⟨Nat.le_of_ble_eq_true rfl, Nat.le_of_ble_eq_true rfl, Nat.le_of_ble_eq_true rfl, Nat.le_of_ble_eq_true rfl⟩
theorem r_X7_listAt_X5_slotOf : RM M_X7_listAt M_X5_slotOf 0 0 := ⟨Nat.le_of_ble_eq_true rfl, Nat.le_of_ble_eq_true rfl, Nat.le_of_ble_eq_true rfl, Nat.le_of_ble_eq_true rfl⟩
theorem r_X7_mouth_X1_hearersOf : RM M_X7_mouth M_X1_hearersOf 0 0 := ⟨Nat.le_of_ble_eq_true rfl, Nat.le_of_ble_eq_true rfl, Nat.le_of_ble_eq_true rfl, Nat.le_of_ble_eq_true rfl⟩
theorem r_X7_mouth_X7_hallOf : RM M_X7_mouth M_X7_hallOf 0 0 := ⟨Nat.le_of_ble_eq_true rfl, Nat.le_of_ble_eq_true rfl, Nat.le_of_ble_eq_true rfl, Nat.le_of_ble_eq_true rfl⟩
theorem r_X7_namedIn_X2_at : RM M_X7_namedIn M_X2_at 0 0 := ⟨Nat.le_of_ble_eq_true rfl, Nat.le_of_ble_eq_true rfl, Nat.le_of_ble_eq_true rfl, Nat.le_of_ble_eq_true rfl⟩
theorem r_X7_near_X0_audible : RM M_X7_near M_X0_audible 0 0 := ⟨Nat.le_of_ble_eq_true rfl, Nat.le_of_ble_eq_true rfl, Nat.le_of_ble_eq_true rfl, Nat.le_of_ble_eq_true rfl⟩
theorem r_X7_near_X0_hasJudge : RM M_X7_near M_X0_hasJudge 0 0 := ⟨Nat.le_of_ble_eq_true rfl, Nat.le_of_ble_eq_true rfl, Nat.le_of_ble_eq_true rfl, Nat.le_of_ble_eq_true rfl⟩
theorem r_X7_near_X0_hasPleader : RM M_X7_near M_X0_hasPleader 0 0 := ⟨Nat.le_of_ble_eq_true rfl, Nat.le_of_ble_eq_true rfl, Nat.le_of_ble_eq_true rfl, Nat.le_of_ble_eq_true rfl⟩
theorem r_X7_near_X0_steps : RM M_X7_near M_X0_steps 0 0 := ⟨Nat.le_of_ble_eq_true rfl, Nat.le_of_ble_eq_true rfl, Nat.le_of_ble_eq_true rfl, Nat.le_of_ble_eq_true rfl⟩
theorem r_X7_near_X7_courtAt : RM M_X7_near M_X7_courtAt 0 0 := ⟨Nat.le_of_ble_eq_true rfl, Nat.le_of_ble_eq_true rfl, Nat.le_of_ble_eq_true rfl, Nat.le_of_ble_eq_true rfl⟩
theorem r_X7_near_X7_isLoud : RM M_X7_near M_X7_isLoud 0 0 := ⟨Nat.le_of_ble_eq_true rfl, Nat.le_of_ble_eq_true rfl, Nat.le_of_ble_eq_true rfl, Nat.le_of_ble_eq_true rfl⟩
theorem r_X7_persuade_J6_bitCount_0f7a4 : RM M_X7_persuade M_J6_bitCount_0f7a4 0 0 := ⟨Nat.le_of_ble_eq_true rfl, Nat.le_of_ble_eq_true rfl, Nat.le_of_ble_eq_true rfl, Nat.le_of_ble_eq_true rfl⟩
theorem r_X7_persuade_X1_learnAll : RM M_X7_persuade M_X1_learnAll 0 0 := ⟨Nat.le_of_ble_eq_true rfl, Nat.le_of_ble_eq_true rfl, Nat.le_of_ble_eq_true rfl, Nat.le_of_ble_eq_true rfl⟩
theorem r_X7_persuade_X7_hallOf : RM M_X7_persuade M_X7_hallOf 0 0 := ⟨Nat.le_of_ble_eq_true rfl, Nat.le_of_ble_eq_true rfl, Nat.le_of_ble_eq_true rfl, Nat.le_of_ble_eq_true rfl⟩
theorem r_X7_persuade_X7_listAt : RM M_X7_persuade M_X7_listAt 0 0 := ⟨Nat.le_of_ble_eq_true rfl, Nat.le_of_ble_eq_true rfl, Nat.le_of_ble_eq_true rfl, Nat.le_of_ble_eq_true rfl⟩
theorem r_X7_persuade_X7_namedIn : RM M_X7_persuade M_X7_namedIn 0 0 := ⟨Nat.le_of_ble_eq_true rfl, Nat.le_of_ble_eq_true rfl, Nat.le_of_ble_eq_true rfl, Nat.le_of_ble_eq_true rfl⟩
theorem r_X7_persuade_X7_tally : RM M_X7_persuade M_X7_tally 0 0 := ⟨Nat.le_of_ble_eq_true rfl, Nat.le_of_ble_eq_true rfl, Nat.le_of_ble_eq_true rfl, Nat.le_of_ble_eq_true rfl⟩
theorem r_X7_persuade_X7_verdictOf : RM M_X7_persuade M_X7_verdictOf 0 0 := ⟨Nat.le_of_ble_eq_true rfl, Nat.le_of_ble_eq_true rfl, Nat.le_of_ble_eq_true rfl, Nat.le_of_ble_eq_true rfl⟩
theorem r_X7_pleader_X0_hasPleader : RM M_X7_pleader M_X0_hasPleader 0 0 := ⟨Nat.le_of_ble_eq_true rfl, Nat.le_of_ble_eq_true rfl, Nat.le_of_ble_eq_true rfl, Nat.le_of_ble_eq_true rfl⟩
theorem r_X7_pleader_X7_courtAt : RM M_X7_pleader M_X7_courtAt 0 0 := ⟨Nat.le_of_ble_eq_true rfl, Nat.le_of_ble_eq_true rfl, Nat.le_of_ble_eq_true rfl, Nat.le_of_ble_eq_true rfl⟩
theorem r_X7_pulpit_J6_bitCount_0f7a4 : RM M_X7_pulpit M_J6_bitCount_0f7a4 0 0 := ⟨Nat.le_of_ble_eq_true rfl, Nat.le_of_ble_eq_true rfl, Nat.le_of_ble_eq_true rfl, Nat.le_of_ble_eq_true rfl⟩
theorem r_X7_pulpit_X0_earsAt : RM M_X7_pulpit M_X0_earsAt 0 0 := ⟨Nat.le_of_ble_eq_true rfl, Nat.le_of_ble_eq_true rfl, Nat.le_of_ble_eq_true rfl, Nat.le_of_ble_eq_true rfl⟩
theorem r_X7_pulpit_X0_isOpen : RM M_X7_pulpit M_X0_isOpen 0 0 := ⟨Nat.le_of_ble_eq_true rfl, Nat.le_of_ble_eq_true rfl, Nat.le_of_ble_eq_true rfl, Nat.le_of_ble_eq_true rfl⟩
theorem r_X7_pulpit_X7_courtAt : RM M_X7_pulpit M_X7_courtAt 0 0 := ⟨Nat.le_of_ble_eq_true rfl, Nat.le_of_ble_eq_true rfl, Nat.le_of_ble_eq_true rfl, Nat.le_of_ble_eq_true rfl⟩
theorem r_X7_pulpit_X7_isHour : RM M_X7_pulpit M_X7_isHour 0 0 := ⟨Nat.le_of_ble_eq_true rfl, Nat.le_of_ble_eq_true rfl, Nat.le_of_ble_eq_true rfl, Nat.le_of_ble_eq_true rfl⟩
theorem r_X7_pulpit_X7_isLoud : RM M_X7_pulpit M_X7_isLoud 0 0 := ⟨Nat.le_of_ble_eq_true rfl, Nat.le_of_ble_eq_true rfl, Nat.le_of_ble_eq_true rfl, Nat.le_of_ble_eq_true rfl⟩
theorem r_X7_readerOf_X2_at : RM M_X7_readerOf M_X2_at 0 0 := ⟨Nat.le_of_ble_eq_true rfl, Nat.le_of_ble_eq_true rfl, Nat.le_of_ble_eq_true rfl, Nat.le_of_ble_eq_true rfl⟩
theorem r_X7_readerOf_X7_has : RM M_X7_readerOf M_X7_has 0 0 := ⟨Nat.le_of_ble_eq_true rfl, Nat.le_of_ble_eq_true rfl, Nat.le_of_ble_eq_true rfl, Nat.le_of_ble_eq_true rfl⟩
theorem r_X7_rift_J6_bitCount_0f7a4 : RM M_X7_rift M_J6_bitCount_0f7a4 0 0 := ⟨Nat.le_of_ble_eq_true rfl, Nat.le_of_ble_eq_true rfl, Nat.le_of_ble_eq_true rfl, Nat.le_of_ble_eq_true rfl⟩
theorem r_X7_rift_X1_learnAll : RM M_X7_rift M_X1_learnAll 0 0 := ⟨Nat.le_of_ble_eq_true rfl, Nat.le_of_ble_eq_true rfl, Nat.le_of_ble_eq_true rfl, Nat.le_of_ble_eq_true rfl⟩
theorem r_X7_rift_X7_hallOf : RM M_X7_rift M_X7_hallOf 0 0 := ⟨Nat.le_of_ble_eq_true rfl, Nat.le_of_ble_eq_true rfl, Nat.le_of_ble_eq_true rfl, Nat.le_of_ble_eq_true rfl⟩
theorem r_X7_rule_X7_cellOf : RM M_X7_rule M_X7_cellOf 0 0 := ⟨Nat.le_of_ble_eq_true rfl, Nat.le_of_ble_eq_true rfl, Nat.le_of_ble_eq_true rfl, Nat.le_of_ble_eq_true rfl⟩
theorem r_X7_rule_X7_listAt : RM M_X7_rule M_X7_listAt 0 0 := ⟨Nat.le_of_ble_eq_true rfl, Nat.le_of_ble_eq_true rfl, Nat.le_of_ble_eq_true rfl, Nat.le_of_ble_eq_true rfl⟩
theorem r_X7_ruleFor_X2_at : RM M_X7_ruleFor M_X2_at 0 0 := ⟨Nat.le_of_ble_eq_true rfl, Nat.le_of_ble_eq_true rfl, Nat.le_of_ble_eq_true rfl, Nat.le_of_ble_eq_true rfl⟩
theorem r_X7_ruleFor_X7_has : RM M_X7_ruleFor M_X7_has 0 0 := ⟨Nat.le_of_ble_eq_true rfl, Nat.le_of_ble_eq_true rfl, Nat.le_of_ble_eq_true rfl, Nat.le_of_ble_eq_true rfl⟩
theorem r_X7_seats_X0_hasJudge : RM M_X7_seats M_X0_hasJudge 0 0 := ⟨Nat.le_of_ble_eq_true rfl, Nat.le_of_ble_eq_true rfl, Nat.le_of_ble_eq_true rfl, Nat.le_of_ble_eq_true rfl⟩
theorem r_X7_seats_X4_seatOf : RM M_X7_seats M_X4_seatOf 0 0 := ⟨Nat.le_of_ble_eq_true rfl, Nat.le_of_ble_eq_true rfl, Nat.le_of_ble_eq_true rfl, Nat.le_of_ble_eq_true rfl⟩
theorem r_X7_seats_X4_settle : RM M_X7_seats M_X4_settle 0 0 := ⟨Nat.le_of_ble_eq_true rfl, Nat.le_of_ble_eq_true rfl, Nat.le_of_ble_eq_true rfl, Nat.le_of_ble_eq_true rfl⟩
theorem r_X7_seats_X7_hallOf : RM M_X7_seats M_X7_hallOf 0 0 := ⟨Nat.le_of_ble_eq_true rfl, Nat.le_of_ble_eq_true rfl, Nat.le_of_ble_eq_true rfl, Nat.le_of_ble_eq_true rfl⟩
theorem r_X7_sold_X0_hasJudge : RM M_X7_sold M_X0_hasJudge 0 0 := ⟨Nat.le_of_ble_eq_true rfl, Nat.le_of_ble_eq_true rfl, Nat.le_of_ble_eq_true rfl, Nat.le_of_ble_eq_true rfl⟩
theorem r_X7_sold_X1_dearest : RM M_X7_sold M_X1_dearest 0 0 := ⟨Nat.le_of_ble_eq_true rfl, Nat.le_of_ble_eq_true rfl, Nat.le_of_ble_eq_true rfl, Nat.le_of_ble_eq_true rfl⟩
theorem r_X7_sold_X1_gainOfThird : RM M_X7_sold M_X1_gainOfThird 0 0 := ⟨Nat.le_of_ble_eq_true rfl, Nat.le_of_ble_eq_true rfl, Nat.le_of_ble_eq_true rfl, Nat.le_of_ble_eq_true rfl⟩
theorem r_X7_sold_X1_learnAll : RM M_X7_sold M_X1_learnAll 0 0 := ⟨Nat.le_of_ble_eq_true rfl, Nat.le_of_ble_eq_true rfl, Nat.le_of_ble_eq_true rfl, Nat.le_of_ble_eq_true rfl⟩
theorem r_X7_sold_X1_lossOfSold : RM M_X7_sold M_X1_lossOfSold 0 0 := ⟨Nat.le_of_ble_eq_true rfl, Nat.le_of_ble_eq_true rfl, Nat.le_of_ble_eq_true rfl, Nat.le_of_ble_eq_true rfl⟩
theorem r_X7_sold_X7_hallOf : RM M_X7_sold M_X7_hallOf 0 0 := ⟨Nat.le_of_ble_eq_true rfl, Nat.le_of_ble_eq_true rfl, Nat.le_of_ble_eq_true rfl, Nat.le_of_ble_eq_true rfl⟩
theorem r_X7_stands_X0_hasPleader : RM M_X7_stands M_X0_hasPleader 0 0 := ⟨Nat.le_of_ble_eq_true rfl, Nat.le_of_ble_eq_true rfl, Nat.le_of_ble_eq_true rfl, Nat.le_of_ble_eq_true rfl⟩
theorem r_X7_stands_X1_play : RM M_X7_stands M_X1_play 0 0 := ⟨Nat.le_of_ble_eq_true rfl, Nat.le_of_ble_eq_true rfl, Nat.le_of_ble_eq_true rfl, Nat.le_of_ble_eq_true rfl⟩
theorem r_X7_stands_X7_courtAt : RM M_X7_stands M_X7_courtAt 0 0 := ⟨Nat.le_of_ble_eq_true rfl, Nat.le_of_ble_eq_true rfl, Nat.le_of_ble_eq_true rfl, Nat.le_of_ble_eq_true rfl⟩
theorem r_X7_stands_X7_listAt : RM M_X7_stands M_X7_listAt 0 0 := ⟨Nat.le_of_ble_eq_true rfl, Nat.le_of_ble_eq_true rfl, Nat.le_of_ble_eq_true rfl, Nat.le_of_ble_eq_true rfl⟩
theorem r_X7_stop_X7_hallOf : RM M_X7_stop M_X7_hallOf 0 0 := ⟨Nat.le_of_ble_eq_true rfl, Nat.le_of_ble_eq_true rfl, Nat.le_of_ble_eq_true rfl, Nat.le_of_ble_eq_true rfl⟩
theorem r_X7_sway_X1_learnAll : RM M_X7_sway M_X1_learnAll 0 0 := ⟨Nat.le_of_ble_eq_true rfl, Nat.le_of_ble_eq_true rfl, Nat.le_of_ble_eq_true rfl, Nat.le_of_ble_eq_true rfl⟩
theorem r_X7_sway_X1_learnedByOtherEar : RM M_X7_sway M_X1_learnedByOtherEar 0 0 := ⟨Nat.le_of_ble_eq_true rfl, Nat.le_of_ble_eq_true rfl, Nat.le_of_ble_eq_true rfl, Nat.le_of_ble_eq_true rfl⟩
theorem r_X7_sway_X7_hallOf : RM M_X7_sway M_X7_hallOf 0 0 := ⟨Nat.le_of_ble_eq_true rfl, Nat.le_of_ble_eq_true rfl, Nat.le_of_ble_eq_true rfl, Nat.le_of_ble_eq_true rfl⟩
theorem r_X7_sway_X7_listAt : RM M_X7_sway M_X7_listAt 0 0 := ⟨Nat.le_of_ble_eq_true rfl, Nat.le_of_ble_eq_true rfl, Nat.le_of_ble_eq_true rfl, Nat.le_of_ble_eq_true rfl⟩
theorem r_X7_sway_X7_tally : RM M_X7_sway M_X7_tally 0 0 := ⟨Nat.le_of_ble_eq_true rfl, Nat.le_of_ble_eq_true rfl, Nat.le_of_ble_eq_true rfl, Nat.le_of_ble_eq_true rfl⟩
theorem r_X7_sway_X7_verdictOf : RM M_X7_sway M_X7_verdictOf 0 0 := ⟨Nat.le_of_ble_eq_true rfl, Nat.le_of_ble_eq_true rfl, Nat.le_of_ble_eq_true rfl, Nat.le_of_ble_eq_true rfl⟩
theorem r_X7_sway_X7_voteBy : RM M_X7_sway M_X7_voteBy 0 0 := ⟨Nat.le_of_ble_eq_true rfl, Nat.le_of_ble_eq_true rfl, Nat.le_of_ble_eq_true rfl, Nat.le_of_ble_eq_true rfl⟩
theorem r_X7_sway_X7_weight : RM M_X7_sway M_X7_weight 0 0 := ⟨Nat.le_of_ble_eq_true rfl, Nat.le_of_ble_eq_true rfl, Nat.le_of_ble_eq_true rfl, Nat.le_of_ble_eq_true rfl⟩
theorem r_X7_tally_X7_voteBy : RM M_X7_tally M_X7_voteBy 0 0 := ⟨Nat.le_of_ble_eq_true rfl, Nat.le_of_ble_eq_true rfl, Nat.le_of_ble_eq_true rfl, Nat.le_of_ble_eq_true rfl⟩
theorem r_X7_tally_X7_weight : RM M_X7_tally M_X7_weight 0 0 := ⟨Nat.le_of_ble_eq_true rfl, Nat.le_of_ble_eq_true rfl, Nat.le_of_ble_eq_true rfl, Nat.le_of_ble_eq_true rfl⟩
theorem r_X7_text_X3_read : RM M_X7_text M_X3_read 0 0 := ⟨Nat.le_of_ble_eq_true rfl, Nat.le_of_ble_eq_true rfl, Nat.le_of_ble_eq_true rfl, Nat.le_of_ble_eq_true rfl⟩
theorem r_X7_text_X7_keepDraft : RM M_X7_text M_X7_keepDraft 0 0 := ⟨Nat.le_of_ble_eq_true rfl, Nat.le_of_ble_eq_true rfl, Nat.le_of_ble_eq_true rfl, Nat.le_of_ble_eq_true rfl⟩
theorem r_X7_voteBy_X2_at : RM M_X7_voteBy M_X2_at 0 0 := ⟨Nat.le_of_ble_eq_true rfl, Nat.le_of_ble_eq_true rfl, Nat.le_of_ble_eq_true rfl, Nat.le_of_ble_eq_true rfl⟩
theorem r_X7_voteBy_X7_ruleFor : RM M_X7_voteBy M_X7_ruleFor 0 0 := ⟨Nat.le_of_ble_eq_true rfl, Nat.le_of_ble_eq_true rfl, Nat.le_of_ble_eq_true rfl, Nat.le_of_ble_eq_true rfl⟩
theorem r_X7_votes_X0_hasJudge : RM M_X7_votes M_X0_hasJudge 0 0 := ⟨Nat.le_of_ble_eq_true rfl, Nat.le_of_ble_eq_true rfl, Nat.le_of_ble_eq_true rfl, Nat.le_of_ble_eq_true rfl⟩
theorem r_X7_votes_X1_learnAll : RM M_X7_votes M_X1_learnAll 0 0 := ⟨Nat.le_of_ble_eq_true rfl, Nat.le_of_ble_eq_true rfl, Nat.le_of_ble_eq_true rfl, Nat.le_of_ble_eq_true rfl⟩
theorem r_X7_votes_X7_hallOf : RM M_X7_votes M_X7_hallOf 0 0 := ⟨Nat.le_of_ble_eq_true rfl, Nat.le_of_ble_eq_true rfl, Nat.le_of_ble_eq_true rfl, Nat.le_of_ble_eq_true rfl⟩
theorem r_X7_votes_X7_listAt : RM M_X7_votes M_X7_listAt 0 0 := ⟨Nat.le_of_ble_eq_true rfl, Nat.le_of_ble_eq_true rfl, Nat.le_of_ble_eq_true rfl, Nat.le_of_ble_eq_true rfl⟩
theorem r_X7_votes_X7_tally : RM M_X7_votes M_X7_tally 0 0 := ⟨Nat.le_of_ble_eq_true rfl, Nat.le_of_ble_eq_true rfl, Nat.le_of_ble_eq_true rfl, Nat.le_of_ble_eq_true rfl⟩
theorem r_X7_votes_X7_verdictOf : RM M_X7_votes M_X7_verdictOf 0 0 := ⟨Nat.le_of_ble_eq_true rfl, Nat.le_of_ble_eq_true rfl, Nat.le_of_ble_eq_true rfl, Nat.le_of_ble_eq_true rfl⟩
theorem r_X7_votes_X7_voteBy : RM M_X7_votes M_X7_voteBy 0 0 := ⟨Nat.le_of_ble_eq_true rfl, Nat.le_of_ble_eq_true rfl, Nat.le_of_ble_eq_true rfl, Nat.le_of_ble_eq_true rfl⟩
theorem r_X7_wall_X7_courtAt : RM M_X7_wall M_X7_courtAt 0 0 := ⟨Nat.le_of_ble_eq_true rfl, Nat.le_of_ble_eq_true rfl, Nat.le_of_ble_eq_true rfl, Nat.le_of_ble_eq_true rfl⟩
theorem r_X7_wall_X7_has : RM M_X7_wall M_X7_has 0 0 := ⟨Nat.le_of_ble_eq_true rfl, Nat.le_of_ble_eq_true rfl, Nat.le_of_ble_eq_true rfl, Nat.le_of_ble_eq_true rfl⟩
theorem r_X8_again_X8_copyAll : RM M_X8_again M_X8_copyAll 0 0 := ⟨Nat.le_of_ble_eq_true rfl, Nat.le_of_ble_eq_true rfl, Nat.le_of_ble_eq_true rfl, Nat.le_of_ble_eq_true rfl⟩
theorem r_X8_again_X8_in : RM M_X8_again M_X8_in 0 0 := ⟨Nat.le_of_ble_eq_true rfl, Nat.le_of_ble_eq_true rfl, Nat.le_of_ble_eq_true rfl, Nat.le_of_ble_eq_true rfl⟩
theorem r_X8_areas_X8_carved : RM M_X8_areas M_X8_carved 0 0 := ⟨Nat.le_of_ble_eq_true rfl, Nat.le_of_ble_eq_true rfl, Nat.le_of_ble_eq_true rfl, Nat.le_of_ble_eq_true rfl⟩
theorem r_X8_areas_X8_hand : RM M_X8_areas M_X8_hand 0 0 := ⟨Nat.le_of_ble_eq_true rfl, Nat.le_of_ble_eq_true rfl, Nat.le_of_ble_eq_true rfl, Nat.le_of_ble_eq_true rfl⟩
theorem r_X8_areas_X8_in : RM M_X8_areas M_X8_in 0 0 := ⟨Nat.le_of_ble_eq_true rfl, Nat.le_of_ble_eq_true rfl, Nat.le_of_ble_eq_true rfl, Nat.le_of_ble_eq_true rfl⟩
theorem r_X8_areas_X8_parts : RM M_X8_areas M_X8_parts 0 0 := ⟨Nat.le_of_ble_eq_true rfl, Nat.le_of_ble_eq_true rfl, Nat.le_of_ble_eq_true rfl, Nat.le_of_ble_eq_true rfl⟩
theorem r_X8_bench_X8_benchOf : RM M_X8_bench M_X8_benchOf 0 0 := ⟨Nat.le_of_ble_eq_true rfl, Nat.le_of_ble_eq_true rfl, Nat.le_of_ble_eq_true rfl, Nat.le_of_ble_eq_true rfl⟩
theorem r_X8_bench_X8_in : RM M_X8_bench M_X8_in 0 0 := ⟨Nat.le_of_ble_eq_true rfl, Nat.le_of_ble_eq_true rfl, Nat.le_of_ble_eq_true rfl, Nat.le_of_ble_eq_true rfl⟩
theorem r_X8_bench_X8_layTrial : RM M_X8_bench M_X8_layTrial 0 0 := ⟨Nat.le_of_ble_eq_true rfl, Nat.le_of_ble_eq_true rfl, Nat.le_of_ble_eq_true rfl, Nat.le_of_ble_eq_true rfl⟩
theorem r_X8_bench_X8_startHour : RM M_X8_bench M_X8_startHour 0 0 := ⟨Nat.le_of_ble_eq_true rfl, Nat.le_of_ble_eq_true rfl, Nat.le_of_ble_eq_true rfl, Nat.le_of_ble_eq_true rfl⟩
theorem r_X8_benchOf_X8_earsOf : RM M_X8_benchOf M_X8_earsOf 0 0 := ⟨Nat.le_of_ble_eq_true rfl, Nat.le_of_ble_eq_true rfl, Nat.le_of_ble_eq_true rfl, Nat.le_of_ble_eq_true rfl⟩
theorem r_X8_benchOf_X8_greater : RM M_X8_benchOf M_X8_greater 0 0 := ⟨Nat.le_of_ble_eq_true rfl, Nat.le_of_ble_eq_true rfl, Nat.le_of_ble_eq_true rfl, Nat.le_of_ble_eq_true rfl⟩
theorem r_X8_benchOf_X8_judgeOf : RM M_X8_benchOf M_X8_judgeOf 0 0 := ⟨Nat.le_of_ble_eq_true rfl, Nat.le_of_ble_eq_true rfl, Nat.le_of_ble_eq_true rfl, Nat.le_of_ble_eq_true rfl⟩
theorem r_X8_benchOf_X8_knownFrom : RM M_X8_benchOf M_X8_knownFrom 0 0 := ⟨Nat.le_of_ble_eq_true rfl, Nat.le_of_ble_eq_true rfl, Nat.le_of_ble_eq_true rfl, Nat.le_of_ble_eq_true rfl⟩
theorem r_X8_benchOf_X8_ones : RM M_X8_benchOf M_X8_ones 0 0 := ⟨Nat.le_of_ble_eq_true rfl, Nat.le_of_ble_eq_true rfl, Nat.le_of_ble_eq_true rfl, Nat.le_of_ble_eq_true rfl⟩
theorem r_X8_beside_X8_in : RM M_X8_beside M_X8_in 0 0 := ⟨Nat.le_of_ble_eq_true rfl, Nat.le_of_ble_eq_true rfl, Nat.le_of_ble_eq_true rfl, Nat.le_of_ble_eq_true rfl⟩
theorem r_X8_blind_X8_earsAt : RM M_X8_blind M_X8_earsAt 0 0 := ⟨Nat.le_of_ble_eq_true rfl, Nat.le_of_ble_eq_true rfl, Nat.le_of_ble_eq_true rfl, Nat.le_of_ble_eq_true rfl⟩
theorem r_X8_blind_X8_isWall : RM M_X8_blind M_X8_isWall 0 0 := ⟨Nat.le_of_ble_eq_true rfl, Nat.le_of_ble_eq_true rfl, Nat.le_of_ble_eq_true rfl, Nat.le_of_ble_eq_true rfl⟩
theorem r_X8_cameFrom_X8_farOf : RM M_X8_cameFrom M_X8_farOf 0 0 := ⟨Nat.le_of_ble_eq_true rfl, Nat.le_of_ble_eq_true rfl, Nat.le_of_ble_eq_true rfl, Nat.le_of_ble_eq_true rfl⟩
theorem r_X8_cameFrom_X8_stepTo : RM M_X8_cameFrom M_X8_stepTo 0 0 := ⟨Nat.le_of_ble_eq_true rfl, Nat.le_of_ble_eq_true rfl, Nat.le_of_ble_eq_true rfl, Nat.le_of_ble_eq_true rfl⟩
theorem r_X8_carved_X8_blind : RM M_X8_carved M_X8_blind 0 0 := ⟨Nat.le_of_ble_eq_true rfl, Nat.le_of_ble_eq_true rfl, Nat.le_of_ble_eq_true rfl, Nat.le_of_ble_eq_true rfl⟩
theorem r_X8_carved_X8_hand : RM M_X8_carved M_X8_hand 0 0 := ⟨Nat.le_of_ble_eq_true rfl, Nat.le_of_ble_eq_true rfl, Nat.le_of_ble_eq_true rfl, Nat.le_of_ble_eq_true rfl⟩
theorem r_X8_carved_X8_isWall : RM M_X8_carved M_X8_isWall 0 0 := ⟨Nat.le_of_ble_eq_true rfl, Nat.le_of_ble_eq_true rfl, Nat.le_of_ble_eq_true rfl, Nat.le_of_ble_eq_true rfl⟩
theorem r_X8_claim_X8_claimOf : RM M_X8_claim M_X8_claimOf 0 0 := ⟨Nat.le_of_ble_eq_true rfl, Nat.le_of_ble_eq_true rfl, Nat.le_of_ble_eq_true rfl, Nat.le_of_ble_eq_true rfl⟩
theorem r_X8_claim_X8_claims : RM M_X8_claim M_X8_claims 0 0 := ⟨Nat.le_of_ble_eq_true rfl, Nat.le_of_ble_eq_true rfl, Nat.le_of_ble_eq_true rfl, Nat.le_of_ble_eq_true rfl⟩
theorem r_X8_claim_X8_hasRoll : RM M_X8_claim M_X8_hasRoll 0 0 := ⟨Nat.le_of_ble_eq_true rfl, Nat.le_of_ble_eq_true rfl, Nat.le_of_ble_eq_true rfl, Nat.le_of_ble_eq_true rfl⟩
theorem r_X8_claim_X8_in : RM M_X8_claim M_X8_in 0 0 := ⟨Nat.le_of_ble_eq_true rfl, Nat.le_of_ble_eq_true rfl, Nat.le_of_ble_eq_true rfl, Nat.le_of_ble_eq_true rfl⟩
theorem r_X8_comes_X8_cameFrom : RM M_X8_comes M_X8_cameFrom 0 0 := ⟨Nat.le_of_ble_eq_true rfl, Nat.le_of_ble_eq_true rfl, Nat.le_of_ble_eq_true rfl, Nat.le_of_ble_eq_true rfl⟩
theorem r_X8_comes_X8_faces : RM M_X8_comes M_X8_faces 0 0 := ⟨Nat.le_of_ble_eq_true rfl, Nat.le_of_ble_eq_true rfl, Nat.le_of_ble_eq_true rfl, Nat.le_of_ble_eq_true rfl⟩
theorem r_X8_comes_X8_farOf : RM M_X8_comes M_X8_farOf 0 0 := ⟨Nat.le_of_ble_eq_true rfl, Nat.le_of_ble_eq_true rfl, Nat.le_of_ble_eq_true rfl, Nat.le_of_ble_eq_true rfl⟩
theorem r_X8_comes_X8_hand : RM M_X8_comes M_X8_hand 0 0 := ⟨Nat.le_of_ble_eq_true rfl, Nat.le_of_ble_eq_true rfl, Nat.le_of_ble_eq_true rfl, Nat.le_of_ble_eq_true rfl⟩
theorem r_X8_comes_X8_in : RM M_X8_comes M_X8_in 0 0 := ⟨Nat.le_of_ble_eq_true rfl, Nat.le_of_ble_eq_true rfl, Nat.le_of_ble_eq_true rfl, Nat.le_of_ble_eq_true rfl⟩
theorem r_X8_comes_X8_isField : RM M_X8_comes M_X8_isField 0 0 := ⟨Nat.le_of_ble_eq_true rfl, Nat.le_of_ble_eq_true rfl, Nat.le_of_ble_eq_true rfl, Nat.le_of_ble_eq_true rfl⟩
theorem r_X8_comes_X8_isJudge : RM M_X8_comes M_X8_isJudge 0 0 := ⟨Nat.le_of_ble_eq_true rfl, Nat.le_of_ble_eq_true rfl, Nat.le_of_ble_eq_true rfl, Nat.le_of_ble_eq_true rfl⟩
theorem r_X8_comes_X8_judgeOf : RM M_X8_comes M_X8_judgeOf 0 0 := ⟨Nat.le_of_ble_eq_true rfl, Nat.le_of_ble_eq_true rfl, Nat.le_of_ble_eq_true rfl, Nat.le_of_ble_eq_true rfl⟩
theorem r_X8_comes_X8_turned : RM M_X8_comes M_X8_turned 0 0 := ⟨Nat.le_of_ble_eq_true rfl, Nat.le_of_ble_eq_true rfl, Nat.le_of_ble_eq_true rfl, Nat.le_of_ble_eq_true rfl⟩
theorem r_X8_common_X8_known : RM M_X8_common M_X8_known 0 0 := ⟨Nat.le_of_ble_eq_true rfl, Nat.le_of_ble_eq_true rfl, Nat.le_of_ble_eq_true rfl, Nat.le_of_ble_eq_true rfl⟩
theorem r_X8_copyAll_X8_copyRow : RM M_X8_copyAll M_X8_copyRow 0 0 := ⟨Nat.le_of_ble_eq_true rfl, Nat.le_of_ble_eq_true rfl, Nat.le_of_ble_eq_true rfl, Nat.le_of_ble_eq_true rfl⟩
theorem r_X8_couldSee_X8_faces : RM M_X8_couldSee M_X8_faces 0 0 := ⟨Nat.le_of_ble_eq_true rfl, Nat.le_of_ble_eq_true rfl, Nat.le_of_ble_eq_true rfl, Nat.le_of_ble_eq_true rfl⟩
theorem r_X8_couldSee_X8_judgeOf : RM M_X8_couldSee M_X8_judgeOf 0 0 := ⟨Nat.le_of_ble_eq_true rfl, Nat.le_of_ble_eq_true rfl, Nat.le_of_ble_eq_true rfl, Nat.le_of_ble_eq_true rfl⟩
theorem r_X8_couldSee_X8_sees : RM M_X8_couldSee M_X8_sees 0 0 := ⟨Nat.le_of_ble_eq_true rfl, Nat.le_of_ble_eq_true rfl, Nat.le_of_ble_eq_true rfl, Nat.le_of_ble_eq_true rfl⟩
theorem r_X8_count_X8_in : RM M_X8_count M_X8_in 0 0 := ⟨Nat.le_of_ble_eq_true rfl, Nat.le_of_ble_eq_true rfl, Nat.le_of_ble_eq_true rfl, Nat.le_of_ble_eq_true rfl⟩
theorem r_X8_court_X8_hand : RM M_X8_court M_X8_hand 0 0 := ⟨Nat.le_of_ble_eq_true rfl, Nat.le_of_ble_eq_true rfl, Nat.le_of_ble_eq_true rfl, Nat.le_of_ble_eq_true rfl⟩
theorem r_X8_court_X8_isWall : RM M_X8_court M_X8_isWall 0 0 := ⟨Nat.le_of_ble_eq_true rfl, Nat.le_of_ble_eq_true rfl, Nat.le_of_ble_eq_true rfl, Nat.le_of_ble_eq_true rfl⟩
theorem r_X8_court_X8_quarter : RM M_X8_court M_X8_quarter 0 0 := ⟨Nat.le_of_ble_eq_true rfl, Nat.le_of_ble_eq_true rfl, Nat.le_of_ble_eq_true rfl, Nat.le_of_ble_eq_true rfl⟩
theorem r_X8_courtLine_X8_full : RM M_X8_courtLine M_X8_full 0 0 := ⟨Nat.le_of_ble_eq_true rfl, Nat.le_of_ble_eq_true rfl, Nat.le_of_ble_eq_true rfl, Nat.le_of_ble_eq_true rfl⟩
theorem r_X8_courtLine_X8_judgeLine : RM M_X8_courtLine M_X8_judgeLine 0 0 := ⟨Nat.le_of_ble_eq_true rfl, Nat.le_of_ble_eq_true rfl, Nat.le_of_ble_eq_true rfl, Nat.le_of_ble_eq_true rfl⟩
theorem r_X8_courtLine_X8_pleads : RM M_X8_courtLine M_X8_pleads 0 0 := ⟨Nat.le_of_ble_eq_true rfl, Nat.le_of_ble_eq_true rfl, Nat.le_of_ble_eq_true rfl, Nat.le_of_ble_eq_true rfl⟩
theorem r_X8_courtLine_X8_sizeLine : RM M_X8_courtLine M_X8_sizeLine 0 0 := ⟨Nat.le_of_ble_eq_true rfl, Nat.le_of_ble_eq_true rfl, Nat.le_of_ble_eq_true rfl, Nat.le_of_ble_eq_true rfl⟩
theorem r_X8_courtLine_X8_stops : RM M_X8_courtLine M_X8_stops 0 0 := ⟨Nat.le_of_ble_eq_true rfl, Nat.le_of_ble_eq_true rfl, Nat.le_of_ble_eq_true rfl, Nat.le_of_ble_eq_true rfl⟩
theorem r_X8_courtLine_X8_takeField : RM M_X8_courtLine M_X8_takeField 0 0 := ⟨Nat.le_of_ble_eq_true rfl, Nat.le_of_ble_eq_true rfl, Nat.le_of_ble_eq_true rfl, Nat.le_of_ble_eq_true rfl⟩
theorem r_X8_courtLine_X8_token : RM M_X8_courtLine M_X8_token 0 0 := ⟨Nat.le_of_ble_eq_true rfl, Nat.le_of_ble_eq_true rfl, Nat.le_of_ble_eq_true rfl, Nat.le_of_ble_eq_true rfl⟩
theorem r_X8_courtLine_X8_twinLine : RM M_X8_courtLine M_X8_twinLine 0 0 := ⟨Nat.le_of_ble_eq_true rfl, Nat.le_of_ble_eq_true rfl, Nat.le_of_ble_eq_true rfl, Nat.le_of_ble_eq_true rfl⟩
theorem r_X8_courtLine_X8_wallLine : RM M_X8_courtLine M_X8_wallLine 0 0 := ⟨Nat.le_of_ble_eq_true rfl, Nat.le_of_ble_eq_true rfl, Nat.le_of_ble_eq_true rfl, Nat.le_of_ble_eq_true rfl⟩
theorem r_X8_dearest_X8_greater : RM M_X8_dearest M_X8_greater 0 0 := ⟨Nat.le_of_ble_eq_true rfl, Nat.le_of_ble_eq_true rfl, Nat.le_of_ble_eq_true rfl, Nat.le_of_ble_eq_true rfl⟩
theorem r_X8_dearest_X8_soldBy : RM M_X8_dearest M_X8_soldBy 0 0 := ⟨Nat.le_of_ble_eq_true rfl, Nat.le_of_ble_eq_true rfl, Nat.le_of_ble_eq_true rfl, Nat.le_of_ble_eq_true rfl⟩
theorem r_X8_deed_X8_deedOf : RM M_X8_deed M_X8_deedOf 0 0 := ⟨Nat.le_of_ble_eq_true rfl, Nat.le_of_ble_eq_true rfl, Nat.le_of_ble_eq_true rfl, Nat.le_of_ble_eq_true rfl⟩
theorem r_X8_deed_X8_deeds : RM M_X8_deed M_X8_deeds 0 0 := ⟨Nat.le_of_ble_eq_true rfl, Nat.le_of_ble_eq_true rfl, Nat.le_of_ble_eq_true rfl, Nat.le_of_ble_eq_true rfl⟩
theorem r_X8_deed_X8_in : RM M_X8_deed M_X8_in 0 0 := ⟨Nat.le_of_ble_eq_true rfl, Nat.le_of_ble_eq_true rfl, Nat.le_of_ble_eq_true rfl, Nat.le_of_ble_eq_true rfl⟩
theorem r_X8_deed_X8_is : RM M_X8_deed M_X8_is 0 0 := ⟨Nat.le_of_ble_eq_true rfl, Nat.le_of_ble_eq_true rfl, Nat.le_of_ble_eq_true rfl, Nat.le_of_ble_eq_true rfl⟩
theorem r_X8_does_X8_deedOf : RM M_X8_does M_X8_deedOf 0 0 := ⟨Nat.le_of_ble_eq_true rfl, Nat.le_of_ble_eq_true rfl, Nat.le_of_ble_eq_true rfl, Nat.le_of_ble_eq_true rfl⟩
theorem r_X8_does_X8_isPleader : RM M_X8_does M_X8_isPleader 0 0 := ⟨Nat.le_of_ble_eq_true rfl, Nat.le_of_ble_eq_true rfl, Nat.le_of_ble_eq_true rfl, Nat.le_of_ble_eq_true rfl⟩
theorem r_X8_does_X8_stepTo : RM M_X8_does M_X8_stepTo 0 0 := ⟨Nat.le_of_ble_eq_true rfl, Nat.le_of_ble_eq_true rfl, Nat.le_of_ble_eq_true rfl, Nat.le_of_ble_eq_true rfl⟩
theorem r_X8_drawn_X8_draw : RM M_X8_drawn M_X8_draw 0 0 := ⟨Nat.le_of_ble_eq_true rfl, Nat.le_of_ble_eq_true rfl, Nat.le_of_ble_eq_true rfl, Nat.le_of_ble_eq_true rfl⟩
theorem r_X8_drawn_X8_in : RM M_X8_drawn M_X8_in 0 0 := ⟨Nat.le_of_ble_eq_true rfl, Nat.le_of_ble_eq_true rfl, Nat.le_of_ble_eq_true rfl, Nat.le_of_ble_eq_true rfl⟩
theorem r_X8_drawn_X8_known : RM M_X8_drawn M_X8_known 0 0 := ⟨Nat.le_of_ble_eq_true rfl, Nat.le_of_ble_eq_true rfl, Nat.le_of_ble_eq_true rfl, Nat.le_of_ble_eq_true rfl⟩
theorem r_X8_drawn_X8_layTrial : RM M_X8_drawn M_X8_layTrial 0 0 := ⟨Nat.le_of_ble_eq_true rfl, Nat.le_of_ble_eq_true rfl, Nat.le_of_ble_eq_true rfl, Nat.le_of_ble_eq_true rfl⟩
theorem r_X8_drawn_X8_ones : RM M_X8_drawn M_X8_ones 0 0 := ⟨Nat.le_of_ble_eq_true rfl, Nat.le_of_ble_eq_true rfl, Nat.le_of_ble_eq_true rfl, Nat.le_of_ble_eq_true rfl⟩
theorem r_X8_ears_X8_earsAt : RM M_X8_ears M_X8_earsAt 0 0 := ⟨Nat.le_of_ble_eq_true rfl, Nat.le_of_ble_eq_true rfl, Nat.le_of_ble_eq_true rfl, Nat.le_of_ble_eq_true rfl⟩
theorem r_X8_ears_X8_hand : RM M_X8_ears M_X8_hand 0 0 := ⟨Nat.le_of_ble_eq_true rfl, Nat.le_of_ble_eq_true rfl, Nat.le_of_ble_eq_true rfl, Nat.le_of_ble_eq_true rfl⟩
theorem r_X8_ears_X8_isField : RM M_X8_ears M_X8_isField 0 0 := ⟨Nat.le_of_ble_eq_true rfl, Nat.le_of_ble_eq_true rfl, Nat.le_of_ble_eq_true rfl, Nat.le_of_ble_eq_true rfl⟩
theorem r_X8_ears_X8_isLoud : RM M_X8_ears M_X8_isLoud 0 0 := ⟨Nat.le_of_ble_eq_true rfl, Nat.le_of_ble_eq_true rfl, Nat.le_of_ble_eq_true rfl, Nat.le_of_ble_eq_true rfl⟩
theorem r_X8_ears_X8_isWall : RM M_X8_ears M_X8_isWall 0 0 := ⟨Nat.le_of_ble_eq_true rfl, Nat.le_of_ble_eq_true rfl, Nat.le_of_ble_eq_true rfl, Nat.le_of_ble_eq_true rfl⟩
theorem r_X8_earsAt_X8_hears : RM M_X8_earsAt M_X8_hears 0 0 := ⟨Nat.le_of_ble_eq_true rfl, Nat.le_of_ble_eq_true rfl, Nat.le_of_ble_eq_true rfl, Nat.le_of_ble_eq_true rfl⟩
theorem r_X8_earsOf_X8_judgeOf : RM M_X8_earsOf M_X8_judgeOf 0 0 := ⟨Nat.le_of_ble_eq_true rfl, Nat.le_of_ble_eq_true rfl, Nat.le_of_ble_eq_true rfl, Nat.le_of_ble_eq_true rfl⟩
theorem r_X8_echo_X8_blind : RM M_X8_echo M_X8_blind 0 0 := ⟨Nat.le_of_ble_eq_true rfl, Nat.le_of_ble_eq_true rfl, Nat.le_of_ble_eq_true rfl, Nat.le_of_ble_eq_true rfl⟩
theorem r_X8_echo_X8_hand : RM M_X8_echo M_X8_hand 0 0 := ⟨Nat.le_of_ble_eq_true rfl, Nat.le_of_ble_eq_true rfl, Nat.le_of_ble_eq_true rfl, Nat.le_of_ble_eq_true rfl⟩
theorem r_X8_echo_X8_hears : RM M_X8_echo M_X8_hears 0 0 := ⟨Nat.le_of_ble_eq_true rfl, Nat.le_of_ble_eq_true rfl, Nat.le_of_ble_eq_true rfl, Nat.le_of_ble_eq_true rfl⟩
theorem r_X8_echo_X8_in : RM M_X8_echo M_X8_in 0 0 := ⟨Nat.le_of_ble_eq_true rfl, Nat.le_of_ble_eq_true rfl, Nat.le_of_ble_eq_true rfl, Nat.le_of_ble_eq_true rfl⟩
theorem r_X8_echo_X8_isJudge : RM M_X8_echo M_X8_isJudge 0 0 := ⟨Nat.le_of_ble_eq_true rfl, Nat.le_of_ble_eq_true rfl, Nat.le_of_ble_eq_true rfl, Nat.le_of_ble_eq_true rfl⟩
theorem r_X8_echo_X8_isWall : RM M_X8_echo M_X8_isWall 0 0 := ⟨Nat.le_of_ble_eq_true rfl, Nat.le_of_ble_eq_true rfl, Nat.le_of_ble_eq_true rfl, Nat.le_of_ble_eq_true rfl⟩
theorem r_X8_end_X8_in : RM M_X8_end M_X8_in 0 0 := ⟨Nat.le_of_ble_eq_true rfl, Nat.le_of_ble_eq_true rfl, Nat.le_of_ble_eq_true rfl, Nat.le_of_ble_eq_true rfl⟩
theorem r_X8_far_X8_farOf : RM M_X8_far M_X8_farOf 0 0 := ⟨Nat.le_of_ble_eq_true rfl, Nat.le_of_ble_eq_true rfl, Nat.le_of_ble_eq_true rfl, Nat.le_of_ble_eq_true rfl⟩
theorem r_X8_far_X8_hand : RM M_X8_far M_X8_hand 0 0 := ⟨Nat.le_of_ble_eq_true rfl, Nat.le_of_ble_eq_true rfl, Nat.le_of_ble_eq_true rfl, Nat.le_of_ble_eq_true rfl⟩
theorem r_X8_far_X8_isField : RM M_X8_far M_X8_isField 0 0 := ⟨Nat.le_of_ble_eq_true rfl, Nat.le_of_ble_eq_true rfl, Nat.le_of_ble_eq_true rfl, Nat.le_of_ble_eq_true rfl⟩
theorem r_X8_feed_X8_four : RM M_X8_feed M_X8_four 0 0 := ⟨Nat.le_of_ble_eq_true rfl, Nat.le_of_ble_eq_true rfl, Nat.le_of_ble_eq_true rfl, Nat.le_of_ble_eq_true rfl⟩
theorem r_X8_findRound_X8_comeTo : RM M_X8_findRound M_X8_comeTo 0 0 := ⟨Nat.le_of_ble_eq_true rfl, Nat.le_of_ble_eq_true rfl, Nat.le_of_ble_eq_true rfl, Nat.le_of_ble_eq_true rfl⟩
theorem r_X8_findRound_X8_earsAt : RM M_X8_findRound M_X8_earsAt 0 0 := ⟨Nat.le_of_ble_eq_true rfl, Nat.le_of_ble_eq_true rfl, Nat.le_of_ble_eq_true rfl, Nat.le_of_ble_eq_true rfl⟩
theorem r_X8_findRound_X8_layRow : RM M_X8_findRound M_X8_layRow 0 0 := ⟨Nat.le_of_ble_eq_true rfl, Nat.le_of_ble_eq_true rfl, Nat.le_of_ble_eq_true rfl, Nat.le_of_ble_eq_true rfl⟩
theorem r_X8_findRound_X8_stateOf : RM M_X8_findRound M_X8_stateOf 0 0 := ⟨Nat.le_of_ble_eq_true rfl, Nat.le_of_ble_eq_true rfl, Nat.le_of_ble_eq_true rfl, Nat.le_of_ble_eq_true rfl⟩
theorem r_X8_findRound_X8_stepTo : RM M_X8_findRound M_X8_stepTo 0 0 := ⟨Nat.le_of_ble_eq_true rfl, Nat.le_of_ble_eq_true rfl, Nat.le_of_ble_eq_true rfl, Nat.le_of_ble_eq_true rfl⟩
theorem r_X8_findSeats_X8_earsOf : RM M_X8_findSeats M_X8_earsOf 0 0 := ⟨Nat.le_of_ble_eq_true rfl, Nat.le_of_ble_eq_true rfl, Nat.le_of_ble_eq_true rfl, Nat.le_of_ble_eq_true rfl⟩
theorem r_X8_findSeats_X8_greater : RM M_X8_findSeats M_X8_greater 0 0 := ⟨Nat.le_of_ble_eq_true rfl, Nat.le_of_ble_eq_true rfl, Nat.le_of_ble_eq_true rfl, Nat.le_of_ble_eq_true rfl⟩
theorem r_X8_findSeats_X8_judgeOf : RM M_X8_findSeats M_X8_judgeOf 0 0 := ⟨Nat.le_of_ble_eq_true rfl, Nat.le_of_ble_eq_true rfl, Nat.le_of_ble_eq_true rfl, Nat.le_of_ble_eq_true rfl⟩
theorem r_X8_findSeats_X8_knownIn : RM M_X8_findSeats M_X8_knownIn 0 0 := ⟨Nat.le_of_ble_eq_true rfl, Nat.le_of_ble_eq_true rfl, Nat.le_of_ble_eq_true rfl, Nat.le_of_ble_eq_true rfl⟩
theorem r_X8_findSeats_X8_nextSeats : RM M_X8_findSeats M_X8_nextSeats 0 0 := ⟨Nat.le_of_ble_eq_true rfl, Nat.le_of_ble_eq_true rfl, Nat.le_of_ble_eq_true rfl, Nat.le_of_ble_eq_true rfl⟩
theorem r_X8_findSeats_X8_ones : RM M_X8_findSeats M_X8_ones 0 0 := ⟨Nat.le_of_ble_eq_true rfl, Nat.le_of_ble_eq_true rfl, Nat.le_of_ble_eq_true rfl, Nat.le_of_ble_eq_true rfl⟩
theorem r_X8_findVotes_X8_known : RM M_X8_findVotes M_X8_known 0 0 := ⟨Nat.le_of_ble_eq_true rfl, Nat.le_of_ble_eq_true rfl, Nat.le_of_ble_eq_true rfl, Nat.le_of_ble_eq_true rfl⟩
theorem r_X8_findVotes_X8_voteBy : RM M_X8_findVotes M_X8_voteBy 0 0 := ⟨Nat.le_of_ble_eq_true rfl, Nat.le_of_ble_eq_true rfl, Nat.le_of_ble_eq_true rfl, Nat.le_of_ble_eq_true rfl⟩
theorem r_X8_flood_X8_isWall : RM M_X8_flood M_X8_isWall 0 0 := ⟨Nat.le_of_ble_eq_true rfl, Nat.le_of_ble_eq_true rfl, Nat.le_of_ble_eq_true rfl, Nat.le_of_ble_eq_true rfl⟩
theorem r_X8_flood_X8_stepTo : RM M_X8_flood M_X8_stepTo 0 0 := ⟨Nat.le_of_ble_eq_true rfl, Nat.le_of_ble_eq_true rfl, Nat.le_of_ble_eq_true rfl, Nat.le_of_ble_eq_true rfl⟩
theorem r_X8_full_X8_later : RM M_X8_full M_X8_later 0 0 := ⟨Nat.le_of_ble_eq_true rfl, Nat.le_of_ble_eq_true rfl, Nat.le_of_ble_eq_true rfl, Nat.le_of_ble_eq_true rfl⟩
theorem r_X8_hand_X8_flood : RM M_X8_hand M_X8_flood 0 0 := ⟨Nat.le_of_ble_eq_true rfl, Nat.le_of_ble_eq_true rfl, Nat.le_of_ble_eq_true rfl, Nat.le_of_ble_eq_true rfl⟩
theorem r_X8_hand_X8_is : RM M_X8_hand M_X8_is 0 0 := ⟨Nat.le_of_ble_eq_true rfl, Nat.le_of_ble_eq_true rfl, Nat.le_of_ble_eq_true rfl, Nat.le_of_ble_eq_true rfl⟩
theorem r_X8_hand_X8_of : RM M_X8_hand M_X8_of 0 0 := ⟨Nat.le_of_ble_eq_true rfl, Nat.le_of_ble_eq_true rfl, Nat.le_of_ble_eq_true rfl, Nat.le_of_ble_eq_true rfl⟩
theorem r_X8_hasLaw_X8_is : RM M_X8_hasLaw M_X8_is 0 0 := ⟨Nat.le_of_ble_eq_true rfl, Nat.le_of_ble_eq_true rfl, Nat.le_of_ble_eq_true rfl, Nat.le_of_ble_eq_true rfl⟩
theorem r_X8_hasRoll_X8_is : RM M_X8_hasRoll M_X8_is 0 0 := ⟨Nat.le_of_ble_eq_true rfl, Nat.le_of_ble_eq_true rfl, Nat.le_of_ble_eq_true rfl, Nat.le_of_ble_eq_true rfl⟩
theorem r_X8_heard_X8_earsOf : RM M_X8_heard M_X8_earsOf 0 0 := ⟨Nat.le_of_ble_eq_true rfl, Nat.le_of_ble_eq_true rfl, Nat.le_of_ble_eq_true rfl, Nat.le_of_ble_eq_true rfl⟩
theorem r_X8_heard_X8_faces : RM M_X8_heard M_X8_faces 0 0 := ⟨Nat.le_of_ble_eq_true rfl, Nat.le_of_ble_eq_true rfl, Nat.le_of_ble_eq_true rfl, Nat.le_of_ble_eq_true rfl⟩
theorem r_X8_heard_X8_hearsDeed : RM M_X8_heard M_X8_hearsDeed 0 0 := ⟨Nat.le_of_ble_eq_true rfl, Nat.le_of_ble_eq_true rfl, Nat.le_of_ble_eq_true rfl, Nat.le_of_ble_eq_true rfl⟩
theorem r_X8_heard_X8_in : RM M_X8_heard M_X8_in 0 0 := ⟨Nat.le_of_ble_eq_true rfl, Nat.le_of_ble_eq_true rfl, Nat.le_of_ble_eq_true rfl, Nat.le_of_ble_eq_true rfl⟩
theorem r_X8_heard_X8_judgeOf : RM M_X8_heard M_X8_judgeOf 0 0 := ⟨Nat.le_of_ble_eq_true rfl, Nat.le_of_ble_eq_true rfl, Nat.le_of_ble_eq_true rfl, Nat.le_of_ble_eq_true rfl⟩
theorem r_X8_heard_X8_layTrial : RM M_X8_heard M_X8_layTrial 0 0 := ⟨Nat.le_of_ble_eq_true rfl, Nat.le_of_ble_eq_true rfl, Nat.le_of_ble_eq_true rfl, Nat.le_of_ble_eq_true rfl⟩
theorem r_X8_hears_X8_earsOf : RM M_X8_hears M_X8_earsOf 0 0 := ⟨Nat.le_of_ble_eq_true rfl, Nat.le_of_ble_eq_true rfl, Nat.le_of_ble_eq_true rfl, Nat.le_of_ble_eq_true rfl⟩
theorem r_X8_hears_X8_faces : RM M_X8_hears M_X8_faces 0 0 := ⟨Nat.le_of_ble_eq_true rfl, Nat.le_of_ble_eq_true rfl, Nat.le_of_ble_eq_true rfl, Nat.le_of_ble_eq_true rfl⟩
theorem r_X8_hears_X8_hearsAt : RM M_X8_hears M_X8_hearsAt 0 0 := ⟨Nat.le_of_ble_eq_true rfl, Nat.le_of_ble_eq_true rfl, Nat.le_of_ble_eq_true rfl, Nat.le_of_ble_eq_true rfl⟩
theorem r_X8_hears_X8_judgeOf : RM M_X8_hears M_X8_judgeOf 0 0 := ⟨Nat.le_of_ble_eq_true rfl, Nat.le_of_ble_eq_true rfl, Nat.le_of_ble_eq_true rfl, Nat.le_of_ble_eq_true rfl⟩
theorem r_X8_hearsAt_X8_cameFrom : RM M_X8_hearsAt M_X8_cameFrom 0 0 := ⟨Nat.le_of_ble_eq_true rfl, Nat.le_of_ble_eq_true rfl, Nat.le_of_ble_eq_true rfl, Nat.le_of_ble_eq_true rfl⟩
theorem r_X8_hearsAt_X8_farOf : RM M_X8_hearsAt M_X8_farOf 0 0 := ⟨Nat.le_of_ble_eq_true rfl, Nat.le_of_ble_eq_true rfl, Nat.le_of_ble_eq_true rfl, Nat.le_of_ble_eq_true rfl⟩
theorem r_X8_hearsAt_X8_turned : RM M_X8_hearsAt M_X8_turned 0 0 := ⟨Nat.le_of_ble_eq_true rfl, Nat.le_of_ble_eq_true rfl, Nat.le_of_ble_eq_true rfl, Nat.le_of_ble_eq_true rfl⟩
theorem r_X8_hearsDeed_X8_hearsAt : RM M_X8_hearsDeed M_X8_hearsAt 0 0 := ⟨Nat.le_of_ble_eq_true rfl, Nat.le_of_ble_eq_true rfl, Nat.le_of_ble_eq_true rfl, Nat.le_of_ble_eq_true rfl⟩
theorem r_X8_hush_X8_earsAt : RM M_X8_hush M_X8_earsAt 0 0 := ⟨Nat.le_of_ble_eq_true rfl, Nat.le_of_ble_eq_true rfl, Nat.le_of_ble_eq_true rfl, Nat.le_of_ble_eq_true rfl⟩
theorem r_X8_hush_X8_hand : RM M_X8_hush M_X8_hand 0 0 := ⟨Nat.le_of_ble_eq_true rfl, Nat.le_of_ble_eq_true rfl, Nat.le_of_ble_eq_true rfl, Nat.le_of_ble_eq_true rfl⟩
theorem r_X8_hush_X8_in : RM M_X8_hush M_X8_in 0 0 := ⟨Nat.le_of_ble_eq_true rfl, Nat.le_of_ble_eq_true rfl, Nat.le_of_ble_eq_true rfl, Nat.le_of_ble_eq_true rfl⟩
theorem r_X8_hush_X8_isField : RM M_X8_hush M_X8_isField 0 0 := ⟨Nat.le_of_ble_eq_true rfl, Nat.le_of_ble_eq_true rfl, Nat.le_of_ble_eq_true rfl, Nat.le_of_ble_eq_true rfl⟩
theorem r_X8_hush_X8_isWall : RM M_X8_hush M_X8_isWall 0 0 := ⟨Nat.le_of_ble_eq_true rfl, Nat.le_of_ble_eq_true rfl, Nat.le_of_ble_eq_true rfl, Nat.le_of_ble_eq_true rfl⟩
theorem r_X8_hush_X8_ones : RM M_X8_hush M_X8_ones 0 0 := ⟨Nat.le_of_ble_eq_true rfl, Nat.le_of_ble_eq_true rfl, Nat.le_of_ble_eq_true rfl, Nat.le_of_ble_eq_true rfl⟩
theorem r_X8_idle_X8_hasLaw : RM M_X8_idle M_X8_hasLaw 0 0 := ⟨Nat.le_of_ble_eq_true rfl, Nat.le_of_ble_eq_true rfl, Nat.le_of_ble_eq_true rfl, Nat.le_of_ble_eq_true rfl⟩
theorem r_X8_idle_X8_known : RM M_X8_idle M_X8_known 0 0 := ⟨Nat.le_of_ble_eq_true rfl, Nat.le_of_ble_eq_true rfl, Nat.le_of_ble_eq_true rfl, Nat.le_of_ble_eq_true rfl⟩
theorem r_X8_idle_X8_layTrial : RM M_X8_idle M_X8_layTrial 0 0 := ⟨Nat.le_of_ble_eq_true rfl, Nat.le_of_ble_eq_true rfl, Nat.le_of_ble_eq_true rfl, Nat.le_of_ble_eq_true rfl⟩
theorem r_X8_idle_X8_ruleBy : RM M_X8_idle M_X8_ruleBy 0 0 := ⟨Nat.le_of_ble_eq_true rfl, Nat.le_of_ble_eq_true rfl, Nat.le_of_ble_eq_true rfl, Nat.le_of_ble_eq_true rfl⟩
theorem r_X8_idle_X8_rules : RM M_X8_idle M_X8_rules 0 0 := ⟨Nat.le_of_ble_eq_true rfl, Nat.le_of_ble_eq_true rfl, Nat.le_of_ble_eq_true rfl, Nat.le_of_ble_eq_true rfl⟩
theorem r_X8_image_X8_copyAll : RM M_X8_image M_X8_copyAll 0 0 := ⟨Nat.le_of_ble_eq_true rfl, Nat.le_of_ble_eq_true rfl, Nat.le_of_ble_eq_true rfl, Nat.le_of_ble_eq_true rfl⟩
theorem r_X8_image_X8_in : RM M_X8_image M_X8_in 0 0 := ⟨Nat.le_of_ble_eq_true rfl, Nat.le_of_ble_eq_true rfl, Nat.le_of_ble_eq_true rfl, Nat.le_of_ble_eq_true rfl⟩
theorem r_X8_is_X8_in : RM M_X8_is M_X8_in 0 0 := ⟨Nat.le_of_ble_eq_true rfl, Nat.le_of_ble_eq_true rfl, Nat.le_of_ble_eq_true rfl, Nat.le_of_ble_eq_true rfl⟩
theorem r_X8_isField_X8_in : RM M_X8_isField M_X8_in 0 0 := ⟨Nat.le_of_ble_eq_true rfl, Nat.le_of_ble_eq_true rfl, Nat.le_of_ble_eq_true rfl, Nat.le_of_ble_eq_true rfl⟩
theorem r_X8_isJudge_X8_in : RM M_X8_isJudge M_X8_in 0 0 := ⟨Nat.le_of_ble_eq_true rfl, Nat.le_of_ble_eq_true rfl, Nat.le_of_ble_eq_true rfl, Nat.le_of_ble_eq_true rfl⟩
theorem r_X8_isLoud_X8_in : RM M_X8_isLoud M_X8_in 0 0 := ⟨Nat.le_of_ble_eq_true rfl, Nat.le_of_ble_eq_true rfl, Nat.le_of_ble_eq_true rfl, Nat.le_of_ble_eq_true rfl⟩
theorem r_X8_isPleader_X8_in : RM M_X8_isPleader M_X8_in 0 0 := ⟨Nat.le_of_ble_eq_true rfl, Nat.le_of_ble_eq_true rfl, Nat.le_of_ble_eq_true rfl, Nat.le_of_ble_eq_true rfl⟩
theorem r_X8_isWall_X8_of : RM M_X8_isWall M_X8_of 0 0 := ⟨Nat.le_of_ble_eq_true rfl, Nat.le_of_ble_eq_true rfl, Nat.le_of_ble_eq_true rfl, Nat.le_of_ble_eq_true rfl⟩
theorem r_X8_isWrongCourt_X8_isWalled : RM M_X8_isWrongCourt M_X8_isWalled 0 0 := ⟨Nat.le_of_ble_eq_true rfl, Nat.le_of_ble_eq_true rfl, Nat.le_of_ble_eq_true rfl, Nat.le_of_ble_eq_true rfl⟩
theorem r_X8_judge_X8_faces : RM M_X8_judge M_X8_faces 0 0 := ⟨Nat.le_of_ble_eq_true rfl, Nat.le_of_ble_eq_true rfl, Nat.le_of_ble_eq_true rfl, Nat.le_of_ble_eq_true rfl⟩
theorem r_X8_judge_X8_hand : RM M_X8_judge M_X8_hand 0 0 := ⟨Nat.le_of_ble_eq_true rfl, Nat.le_of_ble_eq_true rfl, Nat.le_of_ble_eq_true rfl, Nat.le_of_ble_eq_true rfl⟩
theorem r_X8_judge_X8_in : RM M_X8_judge M_X8_in 0 0 := ⟨Nat.le_of_ble_eq_true rfl, Nat.le_of_ble_eq_true rfl, Nat.le_of_ble_eq_true rfl, Nat.le_of_ble_eq_true rfl⟩
theorem r_X8_judge_X8_isJudge : RM M_X8_judge M_X8_isJudge 0 0 := ⟨Nat.le_of_ble_eq_true rfl, Nat.le_of_ble_eq_true rfl, Nat.le_of_ble_eq_true rfl, Nat.le_of_ble_eq_true rfl⟩
theorem r_X8_judge_X8_judgeOf : RM M_X8_judge M_X8_judgeOf 0 0 := ⟨Nat.le_of_ble_eq_true rfl, Nat.le_of_ble_eq_true rfl, Nat.le_of_ble_eq_true rfl, Nat.le_of_ble_eq_true rfl⟩
theorem r_X8_judgeLine_X8_keep : RM M_X8_judgeLine M_X8_keep 0 0 := ⟨Nat.le_of_ble_eq_true rfl, Nat.le_of_ble_eq_true rfl, Nat.le_of_ble_eq_true rfl, Nat.le_of_ble_eq_true rfl⟩
theorem r_X8_judgeLine_X8_take : RM M_X8_judgeLine M_X8_take 0 0 := ⟨Nat.le_of_ble_eq_true rfl, Nat.le_of_ble_eq_true rfl, Nat.le_of_ble_eq_true rfl, Nat.le_of_ble_eq_true rfl⟩
theorem r_X8_judgeLine_X8_takeField : RM M_X8_judgeLine M_X8_takeField 0 0 := ⟨Nat.le_of_ble_eq_true rfl, Nat.le_of_ble_eq_true rfl, Nat.le_of_ble_eq_true rfl, Nat.le_of_ble_eq_true rfl⟩
theorem r_X8_judgeOf_X8_of : RM M_X8_judgeOf M_X8_of 0 0 := ⟨Nat.le_of_ble_eq_true rfl, Nat.le_of_ble_eq_true rfl, Nat.le_of_ble_eq_true rfl, Nat.le_of_ble_eq_true rfl⟩
theorem r_X8_known_X8_earsOf : RM M_X8_known M_X8_earsOf 0 0 := ⟨Nat.le_of_ble_eq_true rfl, Nat.le_of_ble_eq_true rfl, Nat.le_of_ble_eq_true rfl, Nat.le_of_ble_eq_true rfl⟩
theorem r_X8_known_X8_judgeOf : RM M_X8_known M_X8_judgeOf 0 0 := ⟨Nat.le_of_ble_eq_true rfl, Nat.le_of_ble_eq_true rfl, Nat.le_of_ble_eq_true rfl, Nat.le_of_ble_eq_true rfl⟩
theorem r_X8_known_X8_knownIn : RM M_X8_known M_X8_knownIn 0 0 := ⟨Nat.le_of_ble_eq_true rfl, Nat.le_of_ble_eq_true rfl, Nat.le_of_ble_eq_true rfl, Nat.le_of_ble_eq_true rfl⟩
theorem r_X8_knownFrom_X8_faces : RM M_X8_knownFrom M_X8_faces 0 0 := ⟨Nat.le_of_ble_eq_true rfl, Nat.le_of_ble_eq_true rfl, Nat.le_of_ble_eq_true rfl, Nat.le_of_ble_eq_true rfl⟩
theorem r_X8_knownFrom_X8_hearsDeed : RM M_X8_knownFrom M_X8_hearsDeed 0 0 := ⟨Nat.le_of_ble_eq_true rfl, Nat.le_of_ble_eq_true rfl, Nat.le_of_ble_eq_true rfl, Nat.le_of_ble_eq_true rfl⟩
theorem r_X8_knownFrom_X8_judgeOf : RM M_X8_knownFrom M_X8_judgeOf 0 0 := ⟨Nat.le_of_ble_eq_true rfl, Nat.le_of_ble_eq_true rfl, Nat.le_of_ble_eq_true rfl, Nat.le_of_ble_eq_true rfl⟩
theorem r_X8_knownIn_X8_judgeOf : RM M_X8_knownIn M_X8_judgeOf 0 0 := ⟨Nat.le_of_ble_eq_true rfl, Nat.le_of_ble_eq_true rfl, Nat.le_of_ble_eq_true rfl, Nat.le_of_ble_eq_true rfl⟩
theorem r_X8_knownIn_X8_knownFrom : RM M_X8_knownIn M_X8_knownFrom 0 0 := ⟨Nat.le_of_ble_eq_true rfl, Nat.le_of_ble_eq_true rfl, Nat.le_of_ble_eq_true rfl, Nat.le_of_ble_eq_true rfl⟩
theorem r_X8_knows_X8_common : RM M_X8_knows M_X8_common 0 0 := ⟨Nat.le_of_ble_eq_true rfl, Nat.le_of_ble_eq_true rfl, Nat.le_of_ble_eq_true rfl, Nat.le_of_ble_eq_true rfl⟩
theorem r_X8_knows_X8_known : RM M_X8_knows M_X8_known 0 0 := ⟨Nat.le_of_ble_eq_true rfl, Nat.le_of_ble_eq_true rfl, Nat.le_of_ble_eq_true rfl, Nat.le_of_ble_eq_true rfl⟩
theorem r_X8_knows_X8_layState : RM M_X8_knows M_X8_layState 0 0 := ⟨Nat.le_of_ble_eq_true rfl, Nat.le_of_ble_eq_true rfl, Nat.le_of_ble_eq_true rfl, Nat.le_of_ble_eq_true rfl⟩
theorem r_X8_knows_X8_lost : RM M_X8_knows M_X8_lost 0 0 := ⟨Nat.le_of_ble_eq_true rfl, Nat.le_of_ble_eq_true rfl, Nat.le_of_ble_eq_true rfl, Nat.le_of_ble_eq_true rfl⟩
theorem r_X8_lawLine_X8_full : RM M_X8_lawLine M_X8_full 0 0 := ⟨Nat.le_of_ble_eq_true rfl, Nat.le_of_ble_eq_true rfl, Nat.le_of_ble_eq_true rfl, Nat.le_of_ble_eq_true rfl⟩
theorem r_X8_lawLine_X8_keep : RM M_X8_lawLine M_X8_keep 0 0 := ⟨Nat.le_of_ble_eq_true rfl, Nat.le_of_ble_eq_true rfl, Nat.le_of_ble_eq_true rfl, Nat.le_of_ble_eq_true rfl⟩
theorem r_X8_lawLine_X8_stops : RM M_X8_lawLine M_X8_stops 0 0 := ⟨Nat.le_of_ble_eq_true rfl, Nat.le_of_ble_eq_true rfl, Nat.le_of_ble_eq_true rfl, Nat.le_of_ble_eq_true rfl⟩
theorem r_X8_lawLine_X8_takeMaybe : RM M_X8_lawLine M_X8_takeMaybe 0 0 := ⟨Nat.le_of_ble_eq_true rfl, Nat.le_of_ble_eq_true rfl, Nat.le_of_ble_eq_true rfl, Nat.le_of_ble_eq_true rfl⟩
theorem r_X8_lawLine_X8_token : RM M_X8_lawLine M_X8_token 0 0 := ⟨Nat.le_of_ble_eq_true rfl, Nat.le_of_ble_eq_true rfl, Nat.le_of_ble_eq_true rfl, Nat.le_of_ble_eq_true rfl⟩
theorem r_X8_layState_X8_layTrial : RM M_X8_layState M_X8_layTrial 0 0 := ⟨Nat.le_of_ble_eq_true rfl, Nat.le_of_ble_eq_true rfl, Nat.le_of_ble_eq_true rfl, Nat.le_of_ble_eq_true rfl⟩
theorem r_X8_layState_X8_play : RM M_X8_layState M_X8_play 0 0 := ⟨Nat.le_of_ble_eq_true rfl, Nat.le_of_ble_eq_true rfl, Nat.le_of_ble_eq_true rfl, Nat.le_of_ble_eq_true rfl⟩
theorem r_X8_layTrial_X8_deeds : RM M_X8_layTrial M_X8_deeds 0 0 := ⟨Nat.le_of_ble_eq_true rfl, Nat.le_of_ble_eq_true rfl, Nat.le_of_ble_eq_true rfl, Nat.le_of_ble_eq_true rfl⟩
theorem r_X8_layTrial_X8_hand : RM M_X8_layTrial M_X8_hand 0 0 := ⟨Nat.le_of_ble_eq_true rfl, Nat.le_of_ble_eq_true rfl, Nat.le_of_ble_eq_true rfl, Nat.le_of_ble_eq_true rfl⟩
theorem r_X8_layTrial_X8_is : RM M_X8_layTrial M_X8_is 0 0 := ⟨Nat.le_of_ble_eq_true rfl, Nat.le_of_ble_eq_true rfl, Nat.le_of_ble_eq_true rfl, Nat.le_of_ble_eq_true rfl⟩
theorem r_X8_layTrial_X8_play : RM M_X8_layTrial M_X8_play 0 0 := ⟨Nat.le_of_ble_eq_true rfl, Nat.le_of_ble_eq_true rfl, Nat.le_of_ble_eq_true rfl, Nat.le_of_ble_eq_true rfl⟩
theorem r_X8_layVotes_X8_findVotes : RM M_X8_layVotes M_X8_findVotes 0 0 := ⟨Nat.le_of_ble_eq_true rfl, Nat.le_of_ble_eq_true rfl, Nat.le_of_ble_eq_true rfl, Nat.le_of_ble_eq_true rfl⟩
theorem r_X8_layVotes_X8_hasLaw : RM M_X8_layVotes M_X8_hasLaw 0 0 := ⟨Nat.le_of_ble_eq_true rfl, Nat.le_of_ble_eq_true rfl, Nat.le_of_ble_eq_true rfl, Nat.le_of_ble_eq_true rfl⟩
theorem r_X8_layVotes_X8_layTrial : RM M_X8_layVotes M_X8_layTrial 0 0 := ⟨Nat.le_of_ble_eq_true rfl, Nat.le_of_ble_eq_true rfl, Nat.le_of_ble_eq_true rfl, Nat.le_of_ble_eq_true rfl⟩
theorem r_X8_liars_X8_claimOf : RM M_X8_liars M_X8_claimOf 0 0 := ⟨Nat.le_of_ble_eq_true rfl, Nat.le_of_ble_eq_true rfl, Nat.le_of_ble_eq_true rfl, Nat.le_of_ble_eq_true rfl⟩
theorem r_X8_liars_X8_claims : RM M_X8_liars M_X8_claims 0 0 := ⟨Nat.le_of_ble_eq_true rfl, Nat.le_of_ble_eq_true rfl, Nat.le_of_ble_eq_true rfl, Nat.le_of_ble_eq_true rfl⟩
theorem r_X8_liars_X8_has : RM M_X8_liars M_X8_has 0 0 := ⟨Nat.le_of_ble_eq_true rfl, Nat.le_of_ble_eq_true rfl, Nat.le_of_ble_eq_true rfl, Nat.le_of_ble_eq_true rfl⟩
theorem r_X8_liars_X8_isJudge : RM M_X8_liars M_X8_isJudge 0 0 := ⟨Nat.le_of_ble_eq_true rfl, Nat.le_of_ble_eq_true rfl, Nat.le_of_ble_eq_true rfl, Nat.le_of_ble_eq_true rfl⟩
theorem r_X8_liars_X8_known : RM M_X8_liars M_X8_known 0 0 := ⟨Nat.le_of_ble_eq_true rfl, Nat.le_of_ble_eq_true rfl, Nat.le_of_ble_eq_true rfl, Nat.le_of_ble_eq_true rfl⟩
theorem r_X8_lines_X8_courtLine : RM M_X8_lines M_X8_courtLine 0 0 := ⟨Nat.le_of_ble_eq_true rfl, Nat.le_of_ble_eq_true rfl, Nat.le_of_ble_eq_true rfl, Nat.le_of_ble_eq_true rfl⟩
theorem r_X8_lines_X8_lawLine : RM M_X8_lines M_X8_lawLine 0 0 := ⟨Nat.le_of_ble_eq_true rfl, Nat.le_of_ble_eq_true rfl, Nat.le_of_ble_eq_true rfl, Nat.le_of_ble_eq_true rfl⟩
theorem r_X8_lines_X8_rollLine : RM M_X8_lines M_X8_rollLine 0 0 := ⟨Nat.le_of_ble_eq_true rfl, Nat.le_of_ble_eq_true rfl, Nat.le_of_ble_eq_true rfl, Nat.le_of_ble_eq_true rfl⟩
theorem r_X8_lines_X8_stops : RM M_X8_lines M_X8_stops 0 0 := ⟨Nat.le_of_ble_eq_true rfl, Nat.le_of_ble_eq_true rfl, Nat.le_of_ble_eq_true rfl, Nat.le_of_ble_eq_true rfl⟩
theorem r_X8_lines_X8_token : RM M_X8_lines M_X8_token 0 0 := ⟨Nat.le_of_ble_eq_true rfl, Nat.le_of_ble_eq_true rfl, Nat.le_of_ble_eq_true rfl, Nat.le_of_ble_eq_true rfl⟩
theorem r_X8_lines_X8_trialLine : RM M_X8_lines M_X8_trialLine 0 0 := ⟨Nat.le_of_ble_eq_true rfl, Nat.le_of_ble_eq_true rfl, Nat.le_of_ble_eq_true rfl, Nat.le_of_ble_eq_true rfl⟩
theorem r_X8_lips_X8_hasRoll : RM M_X8_lips M_X8_hasRoll 0 0 := ⟨Nat.le_of_ble_eq_true rfl, Nat.le_of_ble_eq_true rfl, Nat.le_of_ble_eq_true rfl, Nat.le_of_ble_eq_true rfl⟩
theorem r_X8_lips_X8_in : RM M_X8_lips M_X8_in 0 0 := ⟨Nat.le_of_ble_eq_true rfl, Nat.le_of_ble_eq_true rfl, Nat.le_of_ble_eq_true rfl, Nat.le_of_ble_eq_true rfl⟩
theorem r_X8_lips_X8_layTrial : RM M_X8_lips M_X8_layTrial 0 0 := ⟨Nat.le_of_ble_eq_true rfl, Nat.le_of_ble_eq_true rfl, Nat.le_of_ble_eq_true rfl, Nat.le_of_ble_eq_true rfl⟩
theorem r_X8_lips_X8_liars : RM M_X8_lips M_X8_liars 0 0 := ⟨Nat.le_of_ble_eq_true rfl, Nat.le_of_ble_eq_true rfl, Nat.le_of_ble_eq_true rfl, Nat.le_of_ble_eq_true rfl⟩
theorem r_X8_lips_X8_lipsOf : RM M_X8_lips M_X8_lipsOf 0 0 := ⟨Nat.le_of_ble_eq_true rfl, Nat.le_of_ble_eq_true rfl, Nat.le_of_ble_eq_true rfl, Nat.le_of_ble_eq_true rfl⟩
theorem r_X8_lips_X8_reader : RM M_X8_lips M_X8_reader 0 0 := ⟨Nat.le_of_ble_eq_true rfl, Nat.le_of_ble_eq_true rfl, Nat.le_of_ble_eq_true rfl, Nat.le_of_ble_eq_true rfl⟩
theorem r_X8_lipsOf_X8_claimOf : RM M_X8_lipsOf M_X8_claimOf 0 0 := ⟨Nat.le_of_ble_eq_true rfl, Nat.le_of_ble_eq_true rfl, Nat.le_of_ble_eq_true rfl, Nat.le_of_ble_eq_true rfl⟩
theorem r_X8_lipsOf_X8_claims : RM M_X8_lipsOf M_X8_claims 0 0 := ⟨Nat.le_of_ble_eq_true rfl, Nat.le_of_ble_eq_true rfl, Nat.le_of_ble_eq_true rfl, Nat.le_of_ble_eq_true rfl⟩
theorem r_X8_lipsOf_X8_couldSee : RM M_X8_lipsOf M_X8_couldSee 0 0 := ⟨Nat.le_of_ble_eq_true rfl, Nat.le_of_ble_eq_true rfl, Nat.le_of_ble_eq_true rfl, Nat.le_of_ble_eq_true rfl⟩
theorem r_X8_lipsOf_X8_has : RM M_X8_lipsOf M_X8_has 0 0 := ⟨Nat.le_of_ble_eq_true rfl, Nat.le_of_ble_eq_true rfl, Nat.le_of_ble_eq_true rfl, Nat.le_of_ble_eq_true rfl⟩
theorem r_X8_lipsOf_X8_isJudge : RM M_X8_lipsOf M_X8_isJudge 0 0 := ⟨Nat.le_of_ble_eq_true rfl, Nat.le_of_ble_eq_true rfl, Nat.le_of_ble_eq_true rfl, Nat.le_of_ble_eq_true rfl⟩
theorem r_X8_lost_X8_known : RM M_X8_lost M_X8_known 0 0 := ⟨Nat.le_of_ble_eq_true rfl, Nat.le_of_ble_eq_true rfl, Nat.le_of_ble_eq_true rfl, Nat.le_of_ble_eq_true rfl⟩
theorem r_X8_mouth_X8_deedOf : RM M_X8_mouth M_X8_deedOf 0 0 := ⟨Nat.le_of_ble_eq_true rfl, Nat.le_of_ble_eq_true rfl, Nat.le_of_ble_eq_true rfl, Nat.le_of_ble_eq_true rfl⟩
theorem r_X8_mouth_X8_earsOf : RM M_X8_mouth M_X8_earsOf 0 0 := ⟨Nat.le_of_ble_eq_true rfl, Nat.le_of_ble_eq_true rfl, Nat.le_of_ble_eq_true rfl, Nat.le_of_ble_eq_true rfl⟩
theorem r_X8_mouth_X8_faces : RM M_X8_mouth M_X8_faces 0 0 := ⟨Nat.le_of_ble_eq_true rfl, Nat.le_of_ble_eq_true rfl, Nat.le_of_ble_eq_true rfl, Nat.le_of_ble_eq_true rfl⟩
theorem r_X8_mouth_X8_greater : RM M_X8_mouth M_X8_greater 0 0 := ⟨Nat.le_of_ble_eq_true rfl, Nat.le_of_ble_eq_true rfl, Nat.le_of_ble_eq_true rfl, Nat.le_of_ble_eq_true rfl⟩
theorem r_X8_mouth_X8_hearsDeed : RM M_X8_mouth M_X8_hearsDeed 0 0 := ⟨Nat.le_of_ble_eq_true rfl, Nat.le_of_ble_eq_true rfl, Nat.le_of_ble_eq_true rfl, Nat.le_of_ble_eq_true rfl⟩
theorem r_X8_mouth_X8_judgeOf : RM M_X8_mouth M_X8_judgeOf 0 0 := ⟨Nat.le_of_ble_eq_true rfl, Nat.le_of_ble_eq_true rfl, Nat.le_of_ble_eq_true rfl, Nat.le_of_ble_eq_true rfl⟩
theorem r_X8_mouth_X8_layTrial : RM M_X8_mouth M_X8_layTrial 0 0 := ⟨Nat.le_of_ble_eq_true rfl, Nat.le_of_ble_eq_true rfl, Nat.le_of_ble_eq_true rfl, Nat.le_of_ble_eq_true rfl⟩
theorem r_X8_near_X8_farOf : RM M_X8_near M_X8_farOf 0 0 := ⟨Nat.le_of_ble_eq_true rfl, Nat.le_of_ble_eq_true rfl, Nat.le_of_ble_eq_true rfl, Nat.le_of_ble_eq_true rfl⟩
theorem r_X8_near_X8_hand : RM M_X8_near M_X8_hand 0 0 := ⟨Nat.le_of_ble_eq_true rfl, Nat.le_of_ble_eq_true rfl, Nat.le_of_ble_eq_true rfl, Nat.le_of_ble_eq_true rfl⟩
theorem r_X8_near_X8_hears : RM M_X8_near M_X8_hears 0 0 := ⟨Nat.le_of_ble_eq_true rfl, Nat.le_of_ble_eq_true rfl, Nat.le_of_ble_eq_true rfl, Nat.le_of_ble_eq_true rfl⟩
theorem r_X8_near_X8_in : RM M_X8_near M_X8_in 0 0 := ⟨Nat.le_of_ble_eq_true rfl, Nat.le_of_ble_eq_true rfl, Nat.le_of_ble_eq_true rfl, Nat.le_of_ble_eq_true rfl⟩
theorem r_X8_near_X8_isJudge : RM M_X8_near M_X8_isJudge 0 0 := ⟨Nat.le_of_ble_eq_true rfl, Nat.le_of_ble_eq_true rfl, Nat.le_of_ble_eq_true rfl, Nat.le_of_ble_eq_true rfl⟩
theorem r_X8_near_X8_isPleader : RM M_X8_near M_X8_isPleader 0 0 := ⟨Nat.le_of_ble_eq_true rfl, Nat.le_of_ble_eq_true rfl, Nat.le_of_ble_eq_true rfl, Nat.le_of_ble_eq_true rfl⟩
theorem r_X8_near_X8_of : RM M_X8_near M_X8_of 0 0 := ⟨Nat.le_of_ble_eq_true rfl, Nat.le_of_ble_eq_true rfl, Nat.le_of_ble_eq_true rfl, Nat.le_of_ble_eq_true rfl⟩
theorem r_X8_nextSeats_X8_swap : RM M_X8_nextSeats M_X8_swap 0 0 := ⟨Nat.le_of_ble_eq_true rfl, Nat.le_of_ble_eq_true rfl, Nat.le_of_ble_eq_true rfl, Nat.le_of_ble_eq_true rfl⟩
theorem r_X8_ones_X8_has : RM M_X8_ones M_X8_has 0 0 := ⟨Nat.le_of_ble_eq_true rfl, Nat.le_of_ble_eq_true rfl, Nat.le_of_ble_eq_true rfl, Nat.le_of_ble_eq_true rfl⟩
theorem r_X8_otherEars_X8_judgeOf : RM M_X8_otherEars M_X8_judgeOf 0 0 := ⟨Nat.le_of_ble_eq_true rfl, Nat.le_of_ble_eq_true rfl, Nat.le_of_ble_eq_true rfl, Nat.le_of_ble_eq_true rfl⟩
theorem r_X8_parts_X8_farOf : RM M_X8_parts M_X8_farOf 0 0 := ⟨Nat.le_of_ble_eq_true rfl, Nat.le_of_ble_eq_true rfl, Nat.le_of_ble_eq_true rfl, Nat.le_of_ble_eq_true rfl⟩
theorem r_X8_parts_X8_isWall : RM M_X8_parts M_X8_isWall 0 0 := ⟨Nat.le_of_ble_eq_true rfl, Nat.le_of_ble_eq_true rfl, Nat.le_of_ble_eq_true rfl, Nat.le_of_ble_eq_true rfl⟩
theorem r_X8_persuade_X8_in : RM M_X8_persuade M_X8_in 0 0 := ⟨Nat.le_of_ble_eq_true rfl, Nat.le_of_ble_eq_true rfl, Nat.le_of_ble_eq_true rfl, Nat.le_of_ble_eq_true rfl⟩
theorem r_X8_persuade_X8_known : RM M_X8_persuade M_X8_known 0 0 := ⟨Nat.le_of_ble_eq_true rfl, Nat.le_of_ble_eq_true rfl, Nat.le_of_ble_eq_true rfl, Nat.le_of_ble_eq_true rfl⟩
theorem r_X8_persuade_X8_layVotes : RM M_X8_persuade M_X8_layVotes 0 0 := ⟨Nat.le_of_ble_eq_true rfl, Nat.le_of_ble_eq_true rfl, Nat.le_of_ble_eq_true rfl, Nat.le_of_ble_eq_true rfl⟩
theorem r_X8_persuade_X8_ones : RM M_X8_persuade M_X8_ones 0 0 := ⟨Nat.le_of_ble_eq_true rfl, Nat.le_of_ble_eq_true rfl, Nat.le_of_ble_eq_true rfl, Nat.le_of_ble_eq_true rfl⟩
theorem r_X8_persuade_X8_verdict : RM M_X8_persuade M_X8_verdict 0 0 := ⟨Nat.le_of_ble_eq_true rfl, Nat.le_of_ble_eq_true rfl, Nat.le_of_ble_eq_true rfl, Nat.le_of_ble_eq_true rfl⟩
theorem r_X8_persuade_X8_voteBy : RM M_X8_persuade M_X8_voteBy 0 0 := ⟨Nat.le_of_ble_eq_true rfl, Nat.le_of_ble_eq_true rfl, Nat.le_of_ble_eq_true rfl, Nat.le_of_ble_eq_true rfl⟩
theorem r_X8_play_X8_does : RM M_X8_play M_X8_does 0 0 := ⟨Nat.le_of_ble_eq_true rfl, Nat.le_of_ble_eq_true rfl, Nat.le_of_ble_eq_true rfl, Nat.le_of_ble_eq_true rfl⟩
theorem r_X8_play_X8_of : RM M_X8_play M_X8_of 0 0 := ⟨Nat.le_of_ble_eq_true rfl, Nat.le_of_ble_eq_true rfl, Nat.le_of_ble_eq_true rfl, Nat.le_of_ble_eq_true rfl⟩
theorem r_X8_pleader_X8_hand : RM M_X8_pleader M_X8_hand 0 0 := ⟨Nat.le_of_ble_eq_true rfl, Nat.le_of_ble_eq_true rfl, Nat.le_of_ble_eq_true rfl, Nat.le_of_ble_eq_true rfl⟩
theorem r_X8_pleader_X8_isPleader : RM M_X8_pleader M_X8_isPleader 0 0 := ⟨Nat.le_of_ble_eq_true rfl, Nat.le_of_ble_eq_true rfl, Nat.le_of_ble_eq_true rfl, Nat.le_of_ble_eq_true rfl⟩
theorem r_X8_pleader_X8_of : RM M_X8_pleader M_X8_of 0 0 := ⟨Nat.le_of_ble_eq_true rfl, Nat.le_of_ble_eq_true rfl, Nat.le_of_ble_eq_true rfl, Nat.le_of_ble_eq_true rfl⟩
theorem r_X8_pulpit_X8_earsAt : RM M_X8_pulpit M_X8_earsAt 0 0 := ⟨Nat.le_of_ble_eq_true rfl, Nat.le_of_ble_eq_true rfl, Nat.le_of_ble_eq_true rfl, Nat.le_of_ble_eq_true rfl⟩
theorem r_X8_pulpit_X8_greater : RM M_X8_pulpit M_X8_greater 0 0 := ⟨Nat.le_of_ble_eq_true rfl, Nat.le_of_ble_eq_true rfl, Nat.le_of_ble_eq_true rfl, Nat.le_of_ble_eq_true rfl⟩
theorem r_X8_pulpit_X8_hand : RM M_X8_pulpit M_X8_hand 0 0 := ⟨Nat.le_of_ble_eq_true rfl, Nat.le_of_ble_eq_true rfl, Nat.le_of_ble_eq_true rfl, Nat.le_of_ble_eq_true rfl⟩
theorem r_X8_pulpit_X8_isLoud : RM M_X8_pulpit M_X8_isLoud 0 0 := ⟨Nat.le_of_ble_eq_true rfl, Nat.le_of_ble_eq_true rfl, Nat.le_of_ble_eq_true rfl, Nat.le_of_ble_eq_true rfl⟩
theorem r_X8_pulpit_X8_isWall : RM M_X8_pulpit M_X8_isWall 0 0 := ⟨Nat.le_of_ble_eq_true rfl, Nat.le_of_ble_eq_true rfl, Nat.le_of_ble_eq_true rfl, Nat.le_of_ble_eq_true rfl⟩
theorem r_X8_pulpit_X8_ones : RM M_X8_pulpit M_X8_ones 0 0 := ⟨Nat.le_of_ble_eq_true rfl, Nat.le_of_ble_eq_true rfl, Nat.le_of_ble_eq_true rfl, Nat.le_of_ble_eq_true rfl⟩
theorem r_X8_quarter_X8_blind : RM M_X8_quarter M_X8_blind 0 0 := ⟨Nat.le_of_ble_eq_true rfl, Nat.le_of_ble_eq_true rfl, Nat.le_of_ble_eq_true rfl, Nat.le_of_ble_eq_true rfl⟩
theorem r_X8_readText_X8_isWrongCourt : RM M_X8_readText M_X8_isWrongCourt 0 0 := ⟨Nat.le_of_ble_eq_true rfl, Nat.le_of_ble_eq_true rfl, Nat.le_of_ble_eq_true rfl, Nat.le_of_ble_eq_true rfl⟩
theorem r_X8_readText_X8_later : RM M_X8_readText M_X8_later 0 0 := ⟨Nat.le_of_ble_eq_true rfl, Nat.le_of_ble_eq_true rfl, Nat.le_of_ble_eq_true rfl, Nat.le_of_ble_eq_true rfl⟩
theorem r_X8_readText_X8_lines : RM M_X8_readText M_X8_lines 0 0 := ⟨Nat.le_of_ble_eq_true rfl, Nat.le_of_ble_eq_true rfl, Nat.le_of_ble_eq_true rfl, Nat.le_of_ble_eq_true rfl⟩
theorem r_X8_readText_X8_token : RM M_X8_readText M_X8_token 0 0 := ⟨Nat.le_of_ble_eq_true rfl, Nat.le_of_ble_eq_true rfl, Nat.le_of_ble_eq_true rfl, Nat.le_of_ble_eq_true rfl⟩
theorem r_X8_reader_X8_claimOf : RM M_X8_reader M_X8_claimOf 0 0 := ⟨Nat.le_of_ble_eq_true rfl, Nat.le_of_ble_eq_true rfl, Nat.le_of_ble_eq_true rfl, Nat.le_of_ble_eq_true rfl⟩
theorem r_X8_reader_X8_claims : RM M_X8_reader M_X8_claims 0 0 := ⟨Nat.le_of_ble_eq_true rfl, Nat.le_of_ble_eq_true rfl, Nat.le_of_ble_eq_true rfl, Nat.le_of_ble_eq_true rfl⟩
theorem r_X8_reader_X8_greater : RM M_X8_reader M_X8_greater 0 0 := ⟨Nat.le_of_ble_eq_true rfl, Nat.le_of_ble_eq_true rfl, Nat.le_of_ble_eq_true rfl, Nat.le_of_ble_eq_true rfl⟩
theorem r_X8_reader_X8_has : RM M_X8_reader M_X8_has 0 0 := ⟨Nat.le_of_ble_eq_true rfl, Nat.le_of_ble_eq_true rfl, Nat.le_of_ble_eq_true rfl, Nat.le_of_ble_eq_true rfl⟩
theorem r_X8_rift_X8_greater : RM M_X8_rift M_X8_greater 0 0 := ⟨Nat.le_of_ble_eq_true rfl, Nat.le_of_ble_eq_true rfl, Nat.le_of_ble_eq_true rfl, Nat.le_of_ble_eq_true rfl⟩
theorem r_X8_rift_X8_in : RM M_X8_rift M_X8_in 0 0 := ⟨Nat.le_of_ble_eq_true rfl, Nat.le_of_ble_eq_true rfl, Nat.le_of_ble_eq_true rfl, Nat.le_of_ble_eq_true rfl⟩
theorem r_X8_rift_X8_known : RM M_X8_rift M_X8_known 0 0 := ⟨Nat.le_of_ble_eq_true rfl, Nat.le_of_ble_eq_true rfl, Nat.le_of_ble_eq_true rfl, Nat.le_of_ble_eq_true rfl⟩
theorem r_X8_rift_X8_layTrial : RM M_X8_rift M_X8_layTrial 0 0 := ⟨Nat.le_of_ble_eq_true rfl, Nat.le_of_ble_eq_true rfl, Nat.le_of_ble_eq_true rfl, Nat.le_of_ble_eq_true rfl⟩
theorem r_X8_rift_X8_ones : RM M_X8_rift M_X8_ones 0 0 := ⟨Nat.le_of_ble_eq_true rfl, Nat.le_of_ble_eq_true rfl, Nat.le_of_ble_eq_true rfl, Nat.le_of_ble_eq_true rfl⟩
theorem r_X8_rollLine_X8_full : RM M_X8_rollLine M_X8_full 0 0 := ⟨Nat.le_of_ble_eq_true rfl, Nat.le_of_ble_eq_true rfl, Nat.le_of_ble_eq_true rfl, Nat.le_of_ble_eq_true rfl⟩
theorem r_X8_rollLine_X8_keep : RM M_X8_rollLine M_X8_keep 0 0 := ⟨Nat.le_of_ble_eq_true rfl, Nat.le_of_ble_eq_true rfl, Nat.le_of_ble_eq_true rfl, Nat.le_of_ble_eq_true rfl⟩
theorem r_X8_rollLine_X8_stops : RM M_X8_rollLine M_X8_stops 0 0 := ⟨Nat.le_of_ble_eq_true rfl, Nat.le_of_ble_eq_true rfl, Nat.le_of_ble_eq_true rfl, Nat.le_of_ble_eq_true rfl⟩
theorem r_X8_rollLine_X8_take : RM M_X8_rollLine M_X8_take 0 0 := ⟨Nat.le_of_ble_eq_true rfl, Nat.le_of_ble_eq_true rfl, Nat.le_of_ble_eq_true rfl, Nat.le_of_ble_eq_true rfl⟩
theorem r_X8_rollLine_X8_token : RM M_X8_rollLine M_X8_token 0 0 := ⟨Nat.le_of_ble_eq_true rfl, Nat.le_of_ble_eq_true rfl, Nat.le_of_ble_eq_true rfl, Nat.le_of_ble_eq_true rfl⟩
theorem r_X8_round_X8_findRound : RM M_X8_round M_X8_findRound 0 0 := ⟨Nat.le_of_ble_eq_true rfl, Nat.le_of_ble_eq_true rfl, Nat.le_of_ble_eq_true rfl, Nat.le_of_ble_eq_true rfl⟩
theorem r_X8_round_X8_hand : RM M_X8_round M_X8_hand 0 0 := ⟨Nat.le_of_ble_eq_true rfl, Nat.le_of_ble_eq_true rfl, Nat.le_of_ble_eq_true rfl, Nat.le_of_ble_eq_true rfl⟩
theorem r_X8_round_X8_in : RM M_X8_round M_X8_in 0 0 := ⟨Nat.le_of_ble_eq_true rfl, Nat.le_of_ble_eq_true rfl, Nat.le_of_ble_eq_true rfl, Nat.le_of_ble_eq_true rfl⟩
theorem r_X8_round_X8_isPleader : RM M_X8_round M_X8_isPleader 0 0 := ⟨Nat.le_of_ble_eq_true rfl, Nat.le_of_ble_eq_true rfl, Nat.le_of_ble_eq_true rfl, Nat.le_of_ble_eq_true rfl⟩
theorem r_X8_round_X8_of : RM M_X8_round M_X8_of 0 0 := ⟨Nat.le_of_ble_eq_true rfl, Nat.le_of_ble_eq_true rfl, Nat.le_of_ble_eq_true rfl, Nat.le_of_ble_eq_true rfl⟩
theorem r_X8_rule_X8_hasLaw : RM M_X8_rule M_X8_hasLaw 0 0 := ⟨Nat.le_of_ble_eq_true rfl, Nat.le_of_ble_eq_true rfl, Nat.le_of_ble_eq_true rfl, Nat.le_of_ble_eq_true rfl⟩
theorem r_X8_rule_X8_in : RM M_X8_rule M_X8_in 0 0 := ⟨Nat.le_of_ble_eq_true rfl, Nat.le_of_ble_eq_true rfl, Nat.le_of_ble_eq_true rfl, Nat.le_of_ble_eq_true rfl⟩
theorem r_X8_rule_X8_ruleOf : RM M_X8_rule M_X8_ruleOf 0 0 := ⟨Nat.le_of_ble_eq_true rfl, Nat.le_of_ble_eq_true rfl, Nat.le_of_ble_eq_true rfl, Nat.le_of_ble_eq_true rfl⟩
theorem r_X8_rule_X8_rules : RM M_X8_rule M_X8_rules 0 0 := ⟨Nat.le_of_ble_eq_true rfl, Nat.le_of_ble_eq_true rfl, Nat.le_of_ble_eq_true rfl, Nat.le_of_ble_eq_true rfl⟩
theorem r_X8_ruleBy_X8_has : RM M_X8_ruleBy M_X8_has 0 0 := ⟨Nat.le_of_ble_eq_true rfl, Nat.le_of_ble_eq_true rfl, Nat.le_of_ble_eq_true rfl, Nat.le_of_ble_eq_true rfl⟩
theorem r_X8_ruleBy_X8_ruleOf : RM M_X8_ruleBy M_X8_ruleOf 0 0 := ⟨Nat.le_of_ble_eq_true rfl, Nat.le_of_ble_eq_true rfl, Nat.le_of_ble_eq_true rfl, Nat.le_of_ble_eq_true rfl⟩
theorem r_X8_ruleBy_X8_rules : RM M_X8_ruleBy M_X8_rules 0 0 := ⟨Nat.le_of_ble_eq_true rfl, Nat.le_of_ble_eq_true rfl, Nat.le_of_ble_eq_true rfl, Nat.le_of_ble_eq_true rfl⟩
theorem r_X8_seats_X8_findSeats : RM M_X8_seats M_X8_findSeats 0 0 := ⟨Nat.le_of_ble_eq_true rfl, Nat.le_of_ble_eq_true rfl, Nat.le_of_ble_eq_true rfl, Nat.le_of_ble_eq_true rfl⟩
theorem r_X8_seats_X8_in : RM M_X8_seats M_X8_in 0 0 := ⟨Nat.le_of_ble_eq_true rfl, Nat.le_of_ble_eq_true rfl, Nat.le_of_ble_eq_true rfl, Nat.le_of_ble_eq_true rfl⟩
theorem r_X8_seats_X8_layTrial : RM M_X8_seats M_X8_layTrial 0 0 := ⟨Nat.le_of_ble_eq_true rfl, Nat.le_of_ble_eq_true rfl, Nat.le_of_ble_eq_true rfl, Nat.le_of_ble_eq_true rfl⟩
theorem r_X8_sees_X8_stepTo : RM M_X8_sees M_X8_stepTo 0 0 := ⟨Nat.le_of_ble_eq_true rfl, Nat.le_of_ble_eq_true rfl, Nat.le_of_ble_eq_true rfl, Nat.le_of_ble_eq_true rfl⟩
theorem r_X8_sizeLine_X8_take : RM M_X8_sizeLine M_X8_take 0 0 := ⟨Nat.le_of_ble_eq_true rfl, Nat.le_of_ble_eq_true rfl, Nat.le_of_ble_eq_true rfl, Nat.le_of_ble_eq_true rfl⟩
theorem r_X8_sold_X8_dearest : RM M_X8_sold M_X8_dearest 0 0 := ⟨Nat.le_of_ble_eq_true rfl, Nat.le_of_ble_eq_true rfl, Nat.le_of_ble_eq_true rfl, Nat.le_of_ble_eq_true rfl⟩
theorem r_X8_sold_X8_in : RM M_X8_sold M_X8_in 0 0 := ⟨Nat.le_of_ble_eq_true rfl, Nat.le_of_ble_eq_true rfl, Nat.le_of_ble_eq_true rfl, Nat.le_of_ble_eq_true rfl⟩
theorem r_X8_sold_X8_layTrial : RM M_X8_sold M_X8_layTrial 0 0 := ⟨Nat.le_of_ble_eq_true rfl, Nat.le_of_ble_eq_true rfl, Nat.le_of_ble_eq_true rfl, Nat.le_of_ble_eq_true rfl⟩
theorem r_X8_sold_X8_soldBy : RM M_X8_sold M_X8_soldBy 0 0 := ⟨Nat.le_of_ble_eq_true rfl, Nat.le_of_ble_eq_true rfl, Nat.le_of_ble_eq_true rfl, Nat.le_of_ble_eq_true rfl⟩
theorem r_X8_soldBy_X8_judgeOf : RM M_X8_soldBy M_X8_judgeOf 0 0 := ⟨Nat.le_of_ble_eq_true rfl, Nat.le_of_ble_eq_true rfl, Nat.le_of_ble_eq_true rfl, Nat.le_of_ble_eq_true rfl⟩
theorem r_X8_soldBy_X8_known : RM M_X8_soldBy M_X8_known 0 0 := ⟨Nat.le_of_ble_eq_true rfl, Nat.le_of_ble_eq_true rfl, Nat.le_of_ble_eq_true rfl, Nat.le_of_ble_eq_true rfl⟩
theorem r_X8_soldBy_X8_knownIn : RM M_X8_soldBy M_X8_knownIn 0 0 := ⟨Nat.le_of_ble_eq_true rfl, Nat.le_of_ble_eq_true rfl, Nat.le_of_ble_eq_true rfl, Nat.le_of_ble_eq_true rfl⟩
theorem r_X8_soldBy_X8_ones : RM M_X8_soldBy M_X8_ones 0 0 := ⟨Nat.le_of_ble_eq_true rfl, Nat.le_of_ble_eq_true rfl, Nat.le_of_ble_eq_true rfl, Nat.le_of_ble_eq_true rfl⟩
theorem r_X8_stands_X8_isPleader : RM M_X8_stands M_X8_isPleader 0 0 := ⟨Nat.le_of_ble_eq_true rfl, Nat.le_of_ble_eq_true rfl, Nat.le_of_ble_eq_true rfl, Nat.le_of_ble_eq_true rfl⟩
theorem r_X8_stands_X8_layState : RM M_X8_stands M_X8_layState 0 0 := ⟨Nat.le_of_ble_eq_true rfl, Nat.le_of_ble_eq_true rfl, Nat.le_of_ble_eq_true rfl, Nat.le_of_ble_eq_true rfl⟩
theorem r_X8_startHour_X8_earsOf : RM M_X8_startHour M_X8_earsOf 0 0 := ⟨Nat.le_of_ble_eq_true rfl, Nat.le_of_ble_eq_true rfl, Nat.le_of_ble_eq_true rfl, Nat.le_of_ble_eq_true rfl⟩
theorem r_X8_startHour_X8_greater : RM M_X8_startHour M_X8_greater 0 0 := ⟨Nat.le_of_ble_eq_true rfl, Nat.le_of_ble_eq_true rfl, Nat.le_of_ble_eq_true rfl, Nat.le_of_ble_eq_true rfl⟩
theorem r_X8_startHour_X8_judgeOf : RM M_X8_startHour M_X8_judgeOf 0 0 := ⟨Nat.le_of_ble_eq_true rfl, Nat.le_of_ble_eq_true rfl, Nat.le_of_ble_eq_true rfl, Nat.le_of_ble_eq_true rfl⟩
theorem r_X8_startHour_X8_knownFrom : RM M_X8_startHour M_X8_knownFrom 0 0 := ⟨Nat.le_of_ble_eq_true rfl, Nat.le_of_ble_eq_true rfl, Nat.le_of_ble_eq_true rfl, Nat.le_of_ble_eq_true rfl⟩
theorem r_X8_startHour_X8_ones : RM M_X8_startHour M_X8_ones 0 0 := ⟨Nat.le_of_ble_eq_true rfl, Nat.le_of_ble_eq_true rfl, Nat.le_of_ble_eq_true rfl, Nat.le_of_ble_eq_true rfl⟩
theorem r_X8_stepTo_X8_beside : RM M_X8_stepTo M_X8_beside 0 0 := ⟨Nat.le_of_ble_eq_true rfl, Nat.le_of_ble_eq_true rfl, Nat.le_of_ble_eq_true rfl, Nat.le_of_ble_eq_true rfl⟩
theorem r_X8_stepTo_X8_isWall : RM M_X8_stepTo M_X8_isWall 0 0 := ⟨Nat.le_of_ble_eq_true rfl, Nat.le_of_ble_eq_true rfl, Nat.le_of_ble_eq_true rfl, Nat.le_of_ble_eq_true rfl⟩
theorem r_X8_stop_X8_layTrial : RM M_X8_stop M_X8_layTrial 0 0 := ⟨Nat.le_of_ble_eq_true rfl, Nat.le_of_ble_eq_true rfl, Nat.le_of_ble_eq_true rfl, Nat.le_of_ble_eq_true rfl⟩
theorem r_X8_sway_X8_in : RM M_X8_sway M_X8_in 0 0 := ⟨Nat.le_of_ble_eq_true rfl, Nat.le_of_ble_eq_true rfl, Nat.le_of_ble_eq_true rfl, Nat.le_of_ble_eq_true rfl⟩
theorem r_X8_sway_X8_judgeOf : RM M_X8_sway M_X8_judgeOf 0 0 := ⟨Nat.le_of_ble_eq_true rfl, Nat.le_of_ble_eq_true rfl, Nat.le_of_ble_eq_true rfl, Nat.le_of_ble_eq_true rfl⟩
theorem r_X8_sway_X8_knownIn : RM M_X8_sway M_X8_knownIn 0 0 := ⟨Nat.le_of_ble_eq_true rfl, Nat.le_of_ble_eq_true rfl, Nat.le_of_ble_eq_true rfl, Nat.le_of_ble_eq_true rfl⟩
theorem r_X8_sway_X8_layVotes : RM M_X8_sway M_X8_layVotes 0 0 := ⟨Nat.le_of_ble_eq_true rfl, Nat.le_of_ble_eq_true rfl, Nat.le_of_ble_eq_true rfl, Nat.le_of_ble_eq_true rfl⟩
theorem r_X8_sway_X8_otherEars : RM M_X8_sway M_X8_otherEars 0 0 := ⟨Nat.le_of_ble_eq_true rfl, Nat.le_of_ble_eq_true rfl, Nat.le_of_ble_eq_true rfl, Nat.le_of_ble_eq_true rfl⟩
theorem r_X8_sway_X8_verdict : RM M_X8_sway M_X8_verdict 0 0 := ⟨Nat.le_of_ble_eq_true rfl, Nat.le_of_ble_eq_true rfl, Nat.le_of_ble_eq_true rfl, Nat.le_of_ble_eq_true rfl⟩
theorem r_X8_sway_X8_voteBy : RM M_X8_sway M_X8_voteBy 0 0 := ⟨Nat.le_of_ble_eq_true rfl, Nat.le_of_ble_eq_true rfl, Nat.le_of_ble_eq_true rfl, Nat.le_of_ble_eq_true rfl⟩
theorem r_X8_take_X8_in : RM M_X8_take M_X8_in 0 0 := ⟨Nat.le_of_ble_eq_true rfl, Nat.le_of_ble_eq_true rfl, Nat.le_of_ble_eq_true rfl, Nat.le_of_ble_eq_true rfl⟩
theorem r_X8_take_X8_later : RM M_X8_take M_X8_later 0 0 := ⟨Nat.le_of_ble_eq_true rfl, Nat.le_of_ble_eq_true rfl, Nat.le_of_ble_eq_true rfl, Nat.le_of_ble_eq_true rfl⟩
theorem r_X8_take_X8_stops : RM M_X8_take M_X8_stops 0 0 := ⟨Nat.le_of_ble_eq_true rfl, Nat.le_of_ble_eq_true rfl, Nat.le_of_ble_eq_true rfl, Nat.le_of_ble_eq_true rfl⟩
theorem r_X8_take_X8_token : RM M_X8_take M_X8_token 0 0 := ⟨Nat.le_of_ble_eq_true rfl, Nat.le_of_ble_eq_true rfl, Nat.le_of_ble_eq_true rfl, Nat.le_of_ble_eq_true rfl⟩
theorem r_X8_takeField_X8_greater : RM M_X8_takeField M_X8_greater 0 0 := ⟨Nat.le_of_ble_eq_true rfl, Nat.le_of_ble_eq_true rfl, Nat.le_of_ble_eq_true rfl, Nat.le_of_ble_eq_true rfl⟩
theorem r_X8_takeField_X8_take : RM M_X8_takeField M_X8_take 0 0 := ⟨Nat.le_of_ble_eq_true rfl, Nat.le_of_ble_eq_true rfl, Nat.le_of_ble_eq_true rfl, Nat.le_of_ble_eq_true rfl⟩
theorem r_X8_takeMaybe_X8_take : RM M_X8_takeMaybe M_X8_take 0 0 := ⟨Nat.le_of_ble_eq_true rfl, Nat.le_of_ble_eq_true rfl, Nat.le_of_ble_eq_true rfl, Nat.le_of_ble_eq_true rfl⟩
theorem r_X8_takeMaybe_X8_token : RM M_X8_takeMaybe M_X8_token 0 0 := ⟨Nat.le_of_ble_eq_true rfl, Nat.le_of_ble_eq_true rfl, Nat.le_of_ble_eq_true rfl, Nat.le_of_ble_eq_true rfl⟩
theorem r_X8_text_X8_in : RM M_X8_text M_X8_in 0 0 := ⟨Nat.le_of_ble_eq_true rfl, Nat.le_of_ble_eq_true rfl, Nat.le_of_ble_eq_true rfl, Nat.le_of_ble_eq_true rfl⟩
theorem r_X8_text_X8_is : RM M_X8_text M_X8_is 0 0 := ⟨Nat.le_of_ble_eq_true rfl, Nat.le_of_ble_eq_true rfl, Nat.le_of_ble_eq_true rfl, Nat.le_of_ble_eq_true rfl⟩
theorem r_X8_text_X8_readText : RM M_X8_text M_X8_readText 0 0 := ⟨Nat.le_of_ble_eq_true rfl, Nat.le_of_ble_eq_true rfl, Nat.le_of_ble_eq_true rfl, Nat.le_of_ble_eq_true rfl⟩
theorem r_X8_text_X8_store : RM M_X8_text M_X8_store 0 0 := ⟨Nat.le_of_ble_eq_true rfl, Nat.le_of_ble_eq_true rfl, Nat.le_of_ble_eq_true rfl, Nat.le_of_ble_eq_true rfl⟩
theorem r_X8_token_X8_in : RM M_X8_token M_X8_in 0 0 := ⟨Nat.le_of_ble_eq_true rfl, Nat.le_of_ble_eq_true rfl, Nat.le_of_ble_eq_true rfl, Nat.le_of_ble_eq_true rfl⟩
theorem r_X8_token_X8_see : RM M_X8_token M_X8_see 0 0 := ⟨Nat.le_of_ble_eq_true rfl, Nat.le_of_ble_eq_true rfl, Nat.le_of_ble_eq_true rfl, Nat.le_of_ble_eq_true rfl⟩
theorem r_X8_trialLine_X8_full : RM M_X8_trialLine M_X8_full 0 0 := ⟨Nat.le_of_ble_eq_true rfl, Nat.le_of_ble_eq_true rfl, Nat.le_of_ble_eq_true rfl, Nat.le_of_ble_eq_true rfl⟩
theorem r_X8_trialLine_X8_keep : RM M_X8_trialLine M_X8_keep 0 0 := ⟨Nat.le_of_ble_eq_true rfl, Nat.le_of_ble_eq_true rfl, Nat.le_of_ble_eq_true rfl, Nat.le_of_ble_eq_true rfl⟩
theorem r_X8_trialLine_X8_stops : RM M_X8_trialLine M_X8_stops 0 0 := ⟨Nat.le_of_ble_eq_true rfl, Nat.le_of_ble_eq_true rfl, Nat.le_of_ble_eq_true rfl, Nat.le_of_ble_eq_true rfl⟩
theorem r_X8_trialLine_X8_take : RM M_X8_trialLine M_X8_take 0 0 := ⟨Nat.le_of_ble_eq_true rfl, Nat.le_of_ble_eq_true rfl, Nat.le_of_ble_eq_true rfl, Nat.le_of_ble_eq_true rfl⟩
theorem r_X8_trialLine_X8_token : RM M_X8_trialLine M_X8_token 0 0 := ⟨Nat.le_of_ble_eq_true rfl, Nat.le_of_ble_eq_true rfl, Nat.le_of_ble_eq_true rfl, Nat.le_of_ble_eq_true rfl⟩
theorem r_X8_turned_X8_has : RM M_X8_turned M_X8_has 0 0 := ⟨Nat.le_of_ble_eq_true rfl, Nat.le_of_ble_eq_true rfl, Nat.le_of_ble_eq_true rfl, Nat.le_of_ble_eq_true rfl⟩
theorem r_X8_twinLine_X8_greater : RM M_X8_twinLine M_X8_greater 0 0 := ⟨Nat.le_of_ble_eq_true rfl, Nat.le_of_ble_eq_true rfl, Nat.le_of_ble_eq_true rfl, Nat.le_of_ble_eq_true rfl⟩
theorem r_X8_twinLine_X8_take : RM M_X8_twinLine M_X8_take 0 0 := ⟨Nat.le_of_ble_eq_true rfl, Nat.le_of_ble_eq_true rfl, Nat.le_of_ble_eq_true rfl, Nat.le_of_ble_eq_true rfl⟩
theorem r_X8_twinLine_X8_takeField : RM M_X8_twinLine M_X8_takeField 0 0 := ⟨Nat.le_of_ble_eq_true rfl, Nat.le_of_ble_eq_true rfl, Nat.le_of_ble_eq_true rfl, Nat.le_of_ble_eq_true rfl⟩
theorem r_X8_voteBy_X8_ruleBy : RM M_X8_voteBy M_X8_ruleBy 0 0 := ⟨Nat.le_of_ble_eq_true rfl, Nat.le_of_ble_eq_true rfl, Nat.le_of_ble_eq_true rfl, Nat.le_of_ble_eq_true rfl⟩
theorem r_X8_voteBy_X8_ruleOf : RM M_X8_voteBy M_X8_ruleOf 0 0 := ⟨Nat.le_of_ble_eq_true rfl, Nat.le_of_ble_eq_true rfl, Nat.le_of_ble_eq_true rfl, Nat.le_of_ble_eq_true rfl⟩
theorem r_X8_votes_X8_in : RM M_X8_votes M_X8_in 0 0 := ⟨Nat.le_of_ble_eq_true rfl, Nat.le_of_ble_eq_true rfl, Nat.le_of_ble_eq_true rfl, Nat.le_of_ble_eq_true rfl⟩
theorem r_X8_votes_X8_layVotes : RM M_X8_votes M_X8_layVotes 0 0 := ⟨Nat.le_of_ble_eq_true rfl, Nat.le_of_ble_eq_true rfl, Nat.le_of_ble_eq_true rfl, Nat.le_of_ble_eq_true rfl⟩
theorem r_X8_votes_X8_verdict : RM M_X8_votes M_X8_verdict 0 0 := ⟨Nat.le_of_ble_eq_true rfl, Nat.le_of_ble_eq_true rfl, Nat.le_of_ble_eq_true rfl, Nat.le_of_ble_eq_true rfl⟩
theorem r_X8_wall_X8_hand : RM M_X8_wall M_X8_hand 0 0 := ⟨Nat.le_of_ble_eq_true rfl, Nat.le_of_ble_eq_true rfl, Nat.le_of_ble_eq_true rfl, Nat.le_of_ble_eq_true rfl⟩
theorem r_X8_wall_X8_isField : RM M_X8_wall M_X8_isField 0 0 := ⟨Nat.le_of_ble_eq_true rfl, Nat.le_of_ble_eq_true rfl, Nat.le_of_ble_eq_true rfl, Nat.le_of_ble_eq_true rfl⟩
theorem r_X8_wall_X8_isWall : RM M_X8_wall M_X8_isWall 0 0 := ⟨Nat.le_of_ble_eq_true rfl, Nat.le_of_ble_eq_true rfl, Nat.le_of_ble_eq_true rfl, Nat.le_of_ble_eq_true rfl⟩
theorem r_X8_wallLine_X8_takeField : RM M_X8_wallLine M_X8_takeField 0 0 := ⟨Nat.le_of_ble_eq_true rfl, Nat.le_of_ble_eq_true rfl, Nat.le_of_ble_eq_true rfl, Nat.le_of_ble_eq_true rfl⟩
theorem kd_X0_init {h : HA} {t : Nat} {r : HA} (e : X0_init h t = some r) : (kd h t).1 = 1 := (oc e).1
theorem kd_X0_reset {h : HA} {t : Nat} {r : HA} (e : X0_reset h t = some r) : (kd h t).1 = 1 := (oc e).1
theorem kd_X0_all {h : HA} {t : Nat} {r : Int64} (e : X0_all h t = some r) : (kd h t).1 = 1 := (oc e).1
theorem kd_X0_measure {h : HA} {t : Nat} {r : HA} (e : X0_measure h t = some r) : (kd h t).1 = 1 := (oc e).1
theorem kd_X0_copyFrom {h : HA} {t : Nat} {l1 : Nat} {r : HA} (e : X0_copyFrom h t l1 = some r) : (kd h t).1 = 1 := (oc e).1
theorem kd_X0_isOpen {h : HA} {t : Nat} {l1 : Int32} {r : Int32} (e : X0_isOpen h t l1 = some r) : (kd h t).1 = 1 := (oc e).1
theorem kd_X0_hasJudge {h : HA} {t : Nat} {l1 : Int32} {r : Int32} (e : X0_hasJudge h t l1 = some r) : (kd h t).1 = 1 := (oc e).1
theorem kd_X0_hasPleader {h : HA} {t : Nat} {l1 : Int32} {r : Int32} (e : X0_hasPleader h t l1 = some r) : (kd h t).1 = 1 := (oc e).1
theorem kd_X0_of {h : HA} {t : Nat} {l1 : Int32} {l2 : Int32} {r : Int32} (e : X0_of h t l1 l2 = some r) : (kd h t).1 = 1 := (oc e).1
theorem kd_X0_faces {h : HA} {t : Nat} {l1 : Int32} {l2 : Int32} {r : Int32} (e : X0_faces h t l1 l2 = some r) : (kd h t).1 = 1 := (oc e).1
theorem kd_X0_grow {h : HA} {t : Nat} {l1 : Int64} {r : Int64} (e : X0_grow h t l1 = some r) : (kd h t).1 = 1 := (oc e).1
theorem kd_X0_beside {h : HA} {t : Nat} {l1 : Int32} {l2 : Int32} {r : Int64} (e : X0_beside h t l1 l2 = some r) : (kd h t).1 = 1 := (oc e).1
theorem kd_X0_stepTo {h : HA} {t : Nat} {l1 : Int32} {l2 : Int32} {r : Int32} (e : X0_stepTo h t l1 l2 = some r) : (kd h t).1 = 1 := (oc e).1
theorem kd_X0_ray {h : HA} {t : Nat} {l1 : Int32} {l2 : Int32} {r : Int64} (e : X0_ray h t l1 l2 = some r) : (kd h t).1 = 1 := (oc e).1
theorem kd_X0_steps {h : HA} {t : Nat} {l1 : Int32} {l2 : Int64} {r : Int32} (e : X0_steps h t l1 l2 = some r) : (kd h t).1 = 1 := (oc e).1
theorem kd_X0_connected {h : HA} {t : Nat} {l1 : Int64} {r : Int64} (e : X0_connected h t l1 = some r) : (kd h t).1 = 1 := (oc e).1
theorem kd_X0_parts {h : HA} {t : Nat} {r : Int32} (e : X0_parts h t = some r) : (kd h t).1 = 1 := (oc e).1
theorem kd_X0_layVia {h : HA} {t : Nat} {l1 : Int32} {l2 : Int64} {r : HA} (e : X0_layVia h t l1 l2 = some r) : (kd h t).1 = 1 := (oc e).1
theorem kd_X0_layOf {h : HA} {t : Nat} {l1 : Int32} {r : HA} (e : X0_layOf h t l1 = some r) : (kd h t).1 = 1 := (oc e).1
theorem kd_X0_lay {h : HA} {t : Nat} {r : HA} (e : X0_lay h t = some r) : (kd h t).1 = 1 := (oc e).1
theorem kd_X0_sidesFrom {h : HA} {t : Nat} {l1 : Int32} {l2 : Int32} {r : Int32} (e : X0_sidesFrom h t l1 l2 = some r) : (kd h t).1 = 1 := (oc e).1
theorem kd_X0_audibleFrom {h : HA} {t : Nat} {l1 : Int32} {l2 : Int32} {l3 : Int32} {r : Int64} (e : X0_audibleFrom h t l1 l2 l3 = some r) : (kd h t).1 = 1 := (oc e).1
theorem kd_X0_audible {h : HA} {t : Nat} {l1 : Int32} {l2 : Int32} {l3 : Int32} {r : Int64} (e : X0_audible h t l1 l2 l3 = some r) : (kd h t).1 = 1 := (oc e).1
theorem kd_X0_earsAt {h : HA} {t : Nat} {l1 : Int32} {l2 : Int32} {l3 : Int32} {r : Int32} (e : X0_earsAt h t l1 l2 l3 = some r) : (kd h t).1 = 1 := (oc e).1
theorem kd_X0_blind {h : HA} {t : Nat} {l1 : Int32} {l2 : Int32} {r : Int32} (e : X0_blind h t l1 l2 = some r) : (kd h t).1 = 1 := (oc e).1
theorem kd_X0_quarter {h : HA} {t : Nat} {r : Int32} (e : X0_quarter h t = some r) : (kd h t).1 = 1 := (oc e).1
theorem kd_X1_init {h : HA} {t : Nat} {r : HA} (e : X1_init h t = some r) : (kd h t).1 = 2 := (oc e).1
theorem kd_X2_at {h : HA} {t : Nat} {l1 : Int32} {l2 : Int32} {r : Int32} (e : X2_at h t l1 l2 = some r) : (kd h t).1 = 3 := (oc e).1
theorem kd_X1_step {h : HA} {t : Nat} {l1 : Int32} {l2 : Int32} {r : (Int32 × HA)} (e : X1_step h t l1 l2 = some r) : (kd h t).1 = 2 := (oc e).1
theorem kd_X1_canBe {h : HA} {t : Nat} {l1 : Int32} {r : (Int32 × HA)} (e : X1_canBe h t l1 = some r) : (kd h t).1 = 2 := (oc e).1
theorem kd_X1_play {h : HA} {t : Nat} {l1 : Nat} {l2 : Nat} {l3 : Int32} {r : HA} (e : X1_play h t l1 l2 l3 = some r) : (kd h t).1 = 2 := (oc e).1
theorem kd_X1_isSaid {h : HA} {t : Nat} {l1 : Int32} {r : Int32} (e : X1_isSaid h t l1 = some r) : (kd h t).1 = 2 := (oc e).1
theorem kd_X1_isHeard {h : HA} {t : Nat} {l1 : Int32} {l2 : Int32} {l3 : Int32} {l4 : Int32} {r : Int32} (e : X1_isHeard h t l1 l2 l3 l4 = some r) : (kd h t).1 = 2 := (oc e).1
theorem kd_X1_wordsOn {h : HA} {t : Nat} {l1 : Int32} {l2 : Int32} {l3 : Int32} {l4 : Int32} {l5 : Int32} {l6 : Int32} {r : Int32} (e : X1_wordsOn h t l1 l2 l3 l4 l5 l6 = some r) : (kd h t).1 = 2 := (oc e).1
theorem kd_X1_learnedFrom {h : HA} {t : Nat} {l1 : Int32} {l2 : Int32} {r : Int32} (e : X1_learnedFrom h t l1 l2 = some r) : (kd h t).1 = 2 := (oc e).1
theorem kd_X1_ownSides {h : HA} {t : Nat} {l1 : Int32} {r : Int32} (e : X1_ownSides h t l1 = some r) : (kd h t).1 = 2 := (oc e).1
theorem kd_X1_learned {h : HA} {t : Nat} {l1 : Int32} {l2 : Int32} {r : Int32} (e : X1_learned h t l1 l2 = some r) : (kd h t).1 = 2 := (oc e).1
theorem kd_X1_learnedByOtherEar {h : HA} {t : Nat} {l1 : Int32} {r : Int32} (e : X1_learnedByOtherEar h t l1 = some r) : (kd h t).1 = 2 := (oc e).1
theorem kd_X1_learnAll {h : HA} {t : Nat} {r : HA} (e : X1_learnAll h t = some r) : (kd h t).1 = 2 := (oc e).1
theorem kd_X1_allLearned {h : HA} {t : Nat} {l1 : Int32} {r : Int32} (e : X1_allLearned h t l1 = some r) : (kd h t).1 = 2 := (oc e).1
theorem kd_X1_knownFacing {h : HA} {t : Nat} {l1 : Int32} {l2 : Int32} {r : Int32} (e : X1_knownFacing h t l1 l2 = some r) : (kd h t).1 = 2 := (oc e).1
theorem kd_X1_knownOnSeat {h : HA} {t : Nat} {l1 : Int32} {l2 : Int32} {r : Int32} (e : X1_knownOnSeat h t l1 l2 = some r) : (kd h t).1 = 2 := (oc e).1
theorem kd_X1_common {h : HA} {t : Nat} {l1 : Int32} {r : Int32} (e : X1_common h t l1 = some r) : (kd h t).1 = 2 := (oc e).1
theorem kd_X1_lost {h : HA} {t : Nat} {l1 : Int32} {r : Int32} (e : X1_lost h t l1 = some r) : (kd h t).1 = 2 := (oc e).1
theorem kd_X1_hearers {h : HA} {t : Nat} {l1 : Int32} {r : Int32} (e : X1_hearers h t l1 = some r) : (kd h t).1 = 2 := (oc e).1
theorem kd_X1_hearersOf {h : HA} {t : Nat} {l1 : Int32} {r : Int32} (e : X1_hearersOf h t l1 = some r) : (kd h t).1 = 2 := (oc e).1
theorem kd_X1_lossOfSold {h : HA} {t : Nat} {l1 : Int32} {r : Int32} (e : X1_lossOfSold h t l1 = some r) : (kd h t).1 = 2 := (oc e).1
theorem kd_X1_gainOfThird {h : HA} {t : Nat} {l1 : Int32} {r : Int32} (e : X1_gainOfThird h t l1 = some r) : (kd h t).1 = 2 := (oc e).1
theorem kd_X1_dearest {h : HA} {t : Nat} {r : Int32} (e : X1_dearest h t = some r) : (kd h t).1 = 2 := (oc e).1
theorem kd_X1_wordsSeen {h : HA} {t : Nat} {l1 : Int32} {r : Int32} (e : X1_wordsSeen h t l1 = some r) : (kd h t).1 = 2 := (oc e).1
theorem kd_X1_drawBelow {h : HA} {t : Nat} {l1 : Int32} {r : (Int32 × HA)} (e : X1_drawBelow h t l1 = some r) : (kd h t).1 = 2 := (oc e).1
theorem kd_X1_thunder {h : HA} {t : Nat} {l1 : Int32} {l2 : Int32} {r : (Int32 × HA)} (e : X1_thunder h t l1 l2 = some r) : (kd h t).1 = 2 := (oc e).1
theorem kd_X2_init {h : HA} {t : Nat} {l1 : Int32} {l2 : Int32} {r : HA} (e : X2_init h t l1 l2 = some r) : (kd h t).1 = 3 := (oc e).1
theorem kd_X2_isFull {h : HA} {t : Nat} {r : Int32} (e : X2_isFull h t = some r) : (kd h t).1 = 3 := (oc e).1
theorem kd_X2_put {h : HA} {t : Nat} {l1 : Int32} {l2 : Int32} {r : HA} (e : X2_put h t l1 l2 = some r) : (kd h t).1 = 3 := (oc e).1
theorem kd_X2_copyFrom {h : HA} {t : Nat} {l1 : Nat} {r : HA} (e : X2_copyFrom h t l1 = some r) : (kd h t).1 = 3 := (oc e).1
theorem kd_X3_init {h : HA} {t : Nat} {r : HA} (e : X3_init h t = some r) : (kd h t).1 = 4 := (oc e).1
theorem kd_X3_clearDraft {h : HA} {t : Nat} {l1 : Int32} {r : HA} (e : X3_clearDraft h t l1 = some r) : (kd h t).1 = 4 := (oc e).1
theorem kd_X3_passWord {h : HA} {t : Nat} {r : HA} (e : X3_passWord h t = some r) : (kd h t).1 = 4 := (oc e).1
theorem kd_X3_passDigits {h : HA} {t : Nat} {r : HA} (e : X3_passDigits h t = some r) : (kd h t).1 = 4 := (oc e).1
theorem kd_X3_advance {h : HA} {t : Nat} {r : HA} (e : X3_advance h t = some r) : (kd h t).1 = 4 := (oc e).1
theorem kd_X3_isHere {h : HA} {t : Nat} {l1 : Nat} {r : Int32} (e : X3_isHere h t l1 = some r) : (kd h t).1 = 4 := (oc e).1
theorem kd_X3_formHere {h : HA} {t : Nat} {l1 : Int32} {r : Int32} (e : X3_formHere h t l1 = some r) : (kd h t).1 = 4 := (oc e).1
theorem kd_X3_isOneTooMany {h : HA} {t : Nat} {l1 : Int32} {r : Int32} (e : X3_isOneTooMany h t l1 = some r) : (kd h t).1 = 4 := (oc e).1
theorem kd_X3_note {h : HA} {t : Nat} {l1 : Int32} {l2 : Int32} {r : HA} (e : X3_note h t l1 l2 = some r) : (kd h t).1 = 4 := (oc e).1
theorem kd_X3_readNumber {h : HA} {t : Nat} {l1 : Int32} {l2 : Int32} {r : (Int32 × HA)} (e : X3_readNumber h t l1 l2 = some r) : (kd h t).1 = 4 := (oc e).1
theorem kd_X3_keepJudge {h : HA} {t : Nat} {l1 : Int32} {r : HA} (e : X3_keepJudge h t l1 = some r) : (kd h t).1 = 4 := (oc e).1
theorem kd_X3_keepTwin {h : HA} {t : Nat} {r : HA} (e : X3_keepTwin h t = some r) : (kd h t).1 = 4 := (oc e).1
theorem kd_X3_keepRow {h : HA} {t : Nat} {l1 : Int32} {r : HA} (e : X3_keepRow h t l1 = some r) : (kd h t).1 = 4 := (oc e).1
theorem kd_X3_keepLine {h : HA} {t : Nat} {l1 : Int32} {r : HA} (e : X3_keepLine h t l1 = some r) : (kd h t).1 = 4 := (oc e).1
theorem kd_X3_readLine {h : HA} {t : Nat} {l1 : Int32} {r : (Int32 × HA)} (e : X3_readLine h t l1 = some r) : (kd h t).1 = 4 := (oc e).1
theorem kd_X3_isSomebodyInWall {h : HA} {t : Nat} {r : Int32} (e : X3_isSomebodyInWall h t = some r) : (kd h t).1 = 4 := (oc e).1
theorem kd_X3_finishCourt {h : HA} {t : Nat} {r : HA} (e : X3_finishCourt h t = some r) : (kd h t).1 = 4 := (oc e).1
theorem kd_X3_read {h : HA} {t : Nat} {l1 : Nat} {l2 : Int32} {l3 : Int32} {r : HA} (e : X3_read h t l1 l2 l3 = some r) : (kd h t).1 = 4 := (oc e).1
theorem kd_X4_init {h : HA} {t : Nat} {r : HA} (e : X4_init h t = some r) : (kd h t).1 = 5 := (oc e).1
theorem kd_X4_worthWith {h : HA} {t : Nat} {l1 : Int32} {l2 : Int32} {r : Int32} (e : X4_worthWith h t l1 l2 = some r) : (kd h t).1 = 5 := (oc e).1
theorem kd_X4_settle {h : HA} {t : Nat} {l1 : Nat} {r : HA} (e : X4_settle h t l1 = some r) : (kd h t).1 = 5 := (oc e).1
theorem kd_X4_leastSeat {h : HA} {t : Nat} {l1 : Int32} {r : Int32} (e : X4_leastSeat h t l1 = some r) : (kd h t).1 = 5 := (oc e).1
theorem kd_X4_seatOf {h : HA} {t : Nat} {l1 : Int32} {r : Int32} (e : X4_seatOf h t l1 = some r) : (kd h t).1 = 5 := (oc e).1
theorem kd_X5_init {h : HA} {t : Nat} {r : HA} (e : X5_init h t = some r) : (kd h t).1 = 6 := (oc e).1
theorem kd_X5_append {h : HA} {t : Nat} {l1 : Int32} {r : HA} (e : X5_append h t l1 = some r) : (kd h t).1 = 6 := (oc e).1
theorem kd_X5_copyFrom {h : HA} {t : Nat} {l1 : Nat} {r : HA} (e : X5_copyFrom h t l1 = some r) : (kd h t).1 = 6 := (oc e).1
theorem kd_X6_init {h : HA} {t : Nat} {r : HA} (e : X6_init h t = some r) : (kd h t).1 = 7 := (oc e).1
theorem kd_X6_layBands {h : HA} {t : Nat} {l1 : Int32} {r : HA} (e : X6_layBands h t l1 = some r) : (kd h t).1 = 7 := (oc e).1
theorem kd_X6_band {h : HA} {t : Nat} {l1 : Int32} {l2 : Int32} {r : Int64} (e : X6_band h t l1 l2 = some r) : (kd h t).1 = 7 := (oc e).1
theorem kd_X6_spread {h : HA} {t : Nat} {l1 : Int32} {r : HA} (e : X6_spread h t l1 = some r) : (kd h t).1 = 7 := (oc e).1
theorem kd_X6_leading {h : HA} {t : Nat} {l1 : Int32} {l2 : Int32} {r : Int64} (e : X6_leading h t l1 l2 = some r) : (kd h t).1 = 7 := (oc e).1
theorem kd_X6_prune {h : HA} {t : Nat} {l1 : Int32} {r : HA} (e : X6_prune h t l1 = some r) : (kd h t).1 = 7 := (oc e).1
theorem kd_X6_search {h : HA} {t : Nat} {l1 : Nat} {l2 : Int32} {l3 : Int32} {r : (Int32 × HA)} (e : X6_search h t l1 l2 l3 = some r) : (kd h t).1 = 7 := (oc e).1
theorem kd_X6_earsOn {h : HA} {t : Nat} {l1 : Int32} {l2 : Int32} {r : Int32} (e : X6_earsOn h t l1 l2 = some r) : (kd h t).1 = 7 := (oc e).1
theorem kd_X6_firstAct {h : HA} {t : Nat} {l1 : Int32} {l2 : Int32} {l3 : Int32} {l4 : Int32} {r : Int32} (e : X6_firstAct h t l1 l2 l3 l4 = some r) : (kd h t).1 = 7 := (oc e).1
theorem kd_X6_actAt {h : HA} {t : Nat} {l1 : Int32} {r : Int32} (e : X6_actAt h t l1 = some r) : (kd h t).1 = 7 := (oc e).1
theorem kd_X7_init {h : HA} {t : Nat} {r : HA} (e : X7_init h t = some r) : (kd h t).1 = 8 := (oc e).1
theorem kd_X7_feed {h : HA} {t : Nat} {l1 : Int32} {l2 : Int32} {l3 : Int32} {l4 : Int32} {l5 : Int32} {r : (Int32 × HA)} (e : X7_feed h t l1 l2 l3 l4 l5 = some r) : (kd h t).1 = 8 := (oc e).1
theorem kd_X7_end {h : HA} {t : Nat} {l1 : Int32} {r : (Int32 × HA)} (e : X7_end h t l1 = some r) : (kd h t).1 = 8 := (oc e).1
theorem kd_X7_keepDraft {h : HA} {t : Nat} {l1 : Int32} {l2 : Int32} {r : HA} (e : X7_keepDraft h t l1 l2 = some r) : (kd h t).1 = 8 := (oc e).1
theorem kd_X7_text {h : HA} {t : Nat} {l1 : Int32} {l2 : Int32} {r : (Int32 × HA)} (e : X7_text h t l1 l2 = some r) : (kd h t).1 = 8 := (oc e).1
theorem kd_X7_fault {h : HA} {t : Nat} {l1 : Int32} {r : Int32} (e : X7_fault h t l1 = some r) : (kd h t).1 = 8 := (oc e).1
theorem kd_X7_courtAt {h : HA} {t : Nat} {l1 : Int32} {r : ((Option Nat) × HA)} (e : X7_courtAt h t l1 = some r) : (kd h t).1 = 8 := (oc e).1
theorem kd_X7_listAt {h : HA} {t : Nat} {l1 : Int32} {l2 : Int32} {r : (Option Nat)} (e : X7_listAt h t l1 l2 = some r) : (kd h t).1 = 8 := (oc e).1
theorem kd_X7_hallOf {h : HA} {t : Nat} {l1 : Int32} {l2 : Int32} {r : ((Option Nat) × HA)} (e : X7_hallOf h t l1 l2 = some r) : (kd h t).1 = 8 := (oc e).1
theorem kd_X7_court {h : HA} {t : Nat} {l1 : Int32} {l2 : Int32} {r : (Int32 × HA)} (e : X7_court h t l1 l2 = some r) : (kd h t).1 = 8 := (oc e).1
theorem kd_X7_wall {h : HA} {t : Nat} {l1 : Int32} {l2 : Int32} {r : (Int32 × HA)} (e : X7_wall h t l1 l2 = some r) : (kd h t).1 = 8 := (oc e).1
theorem kd_X7_judge {h : HA} {t : Nat} {l1 : Int32} {l2 : Int32} {l3 : Int32} {r : (Int32 × HA)} (e : X7_judge h t l1 l2 l3 = some r) : (kd h t).1 = 8 := (oc e).1
theorem kd_X7_pleader {h : HA} {t : Nat} {l1 : Int32} {l2 : Int32} {l3 : Int32} {r : (Int32 × HA)} (e : X7_pleader h t l1 l2 l3 = some r) : (kd h t).1 = 8 := (oc e).1
theorem kd_X7_far {h : HA} {t : Nat} {l1 : Int32} {l2 : Int32} {l3 : Int32} {r : (Int32 × HA)} (e : X7_far h t l1 l2 l3 = some r) : (kd h t).1 = 8 := (oc e).1
theorem kd_X7_comes {h : HA} {t : Nat} {l1 : Int32} {l2 : Int32} {l3 : Int32} {l4 : Int32} {r : (Int32 × HA)} (e : X7_comes h t l1 l2 l3 l4 = some r) : (kd h t).1 = 8 := (oc e).1
theorem kd_X7_ears {h : HA} {t : Nat} {l1 : Int32} {l2 : Int32} {l3 : Int32} {l4 : Int32} {r : (Int32 × HA)} (e : X7_ears h t l1 l2 l3 l4 = some r) : (kd h t).1 = 8 := (oc e).1
theorem kd_X7_pulpit {h : HA} {t : Nat} {l1 : Int32} {l2 : Int32} {l3 : Int32} {l4 : Int32} {r : (Int32 × HA)} (e : X7_pulpit h t l1 l2 l3 l4 = some r) : (kd h t).1 = 8 := (oc e).1
theorem kd_X7_near {h : HA} {t : Nat} {l1 : Int32} {l2 : Int32} {l3 : Int32} {l4 : Int32} {r : (Int32 × HA)} (e : X7_near h t l1 l2 l3 l4 = some r) : (kd h t).1 = 8 := (oc e).1
theorem kd_X7_round {h : HA} {t : Nat} {l1 : Int32} {l2 : Int32} {l3 : Int32} {l4 : Int32} {r : (Int32 × HA)} (e : X7_round h t l1 l2 l3 l4 = some r) : (kd h t).1 = 8 := (oc e).1
theorem kd_X7_echo {h : HA} {t : Nat} {l1 : Int32} {l2 : Int32} {l3 : Int32} {l4 : Int32} {r : (Int32 × HA)} (e : X7_echo h t l1 l2 l3 l4 = some r) : (kd h t).1 = 8 := (oc e).1
theorem kd_X7_deed {h : HA} {t : Nat} {l1 : Int32} {l2 : Int32} {l3 : Int32} {r : Int32} (e : X7_deed h t l1 l2 l3 = some r) : (kd h t).1 = 8 := (oc e).1
theorem kd_X7_stop {h : HA} {t : Nat} {l1 : Int32} {l2 : Int32} {r : (Int32 × HA)} (e : X7_stop h t l1 l2 = some r) : (kd h t).1 = 8 := (oc e).1
theorem kd_X7_stands {h : HA} {t : Nat} {l1 : Int32} {l2 : Int32} {l3 : Int32} {l4 : Int32} {l5 : Int32} {r : (Int32 × HA)} (e : X7_stands h t l1 l2 l3 l4 l5 = some r) : (kd h t).1 = 8 := (oc e).1
theorem kd_X7_knows {h : HA} {t : Nat} {l1 : Int32} {l2 : Int32} {l3 : Int32} {l4 : Int32} {r : (Int32 × HA)} (e : X7_knows h t l1 l2 l3 l4 = some r) : (kd h t).1 = 8 := (oc e).1
theorem kd_X7_heard {h : HA} {t : Nat} {l1 : Int32} {l2 : Int32} {l3 : Int32} {r : (Int32 × HA)} (e : X7_heard h t l1 l2 l3 = some r) : (kd h t).1 = 8 := (oc e).1
theorem kd_X7_rule {h : HA} {t : Nat} {l1 : Int32} {l2 : Int32} {l3 : Int32} {r : Int32} (e : X7_rule h t l1 l2 l3 = some r) : (kd h t).1 = 8 := (oc e).1
theorem kd_X7_votes {h : HA} {t : Nat} {l1 : Int32} {l2 : Int32} {l3 : Int32} {l4 : Int32} {r : (Int32 × HA)} (e : X7_votes h t l1 l2 l3 l4 = some r) : (kd h t).1 = 8 := (oc e).1
theorem kd_X7_sway {h : HA} {t : Nat} {l1 : Int32} {l2 : Int32} {l3 : Int32} {l4 : Int32} {r : (Int32 × HA)} (e : X7_sway h t l1 l2 l3 l4 = some r) : (kd h t).1 = 8 := (oc e).1
theorem kd_X7_sold {h : HA} {t : Nat} {l1 : Int32} {l2 : Int32} {l3 : Int32} {l4 : Int32} {r : (Int32 × HA)} (e : X7_sold h t l1 l2 l3 l4 = some r) : (kd h t).1 = 8 := (oc e).1
theorem kd_X7_seats {h : HA} {t : Nat} {l1 : Int32} {l2 : Int32} {l3 : Int32} {r : (Int32 × HA)} (e : X7_seats h t l1 l2 l3 = some r) : (kd h t).1 = 8 := (oc e).1
theorem kd_X7_claim {h : HA} {t : Nat} {l1 : Int32} {l2 : Int32} {l3 : Int32} {r : Int32} (e : X7_claim h t l1 l2 l3 = some r) : (kd h t).1 = 8 := (oc e).1
theorem kd_X7_lips {h : HA} {t : Nat} {l1 : Int32} {l2 : Int32} {l3 : Int32} {l4 : Int32} {r : (Int32 × HA)} (e : X7_lips h t l1 l2 l3 l4 = some r) : (kd h t).1 = 8 := (oc e).1
theorem kd_X7_drawn {h : HA} {t : Nat} {l1 : Int32} {l2 : Int32} {l3 : Int32} {l4 : Int32} {l5 : Int32} {r : (Int32 × HA)} (e : X7_drawn h t l1 l2 l3 l4 l5 = some r) : (kd h t).1 = 8 := (oc e).1
theorem kd_X7_hush {h : HA} {t : Nat} {l1 : Int32} {l2 : Int32} {l3 : Int32} {l4 : Int32} {r : (Int32 × HA)} (e : X7_hush h t l1 l2 l3 l4 = some r) : (kd h t).1 = 8 := (oc e).1
theorem kd_X7_bench {h : HA} {t : Nat} {l1 : Int32} {l2 : Int32} {l3 : Int32} {r : (Int32 × HA)} (e : X7_bench h t l1 l2 l3 = some r) : (kd h t).1 = 8 := (oc e).1
theorem kd_X7_idle {h : HA} {t : Nat} {l1 : Int32} {l2 : Int32} {l3 : Int32} {r : (Int32 × HA)} (e : X7_idle h t l1 l2 l3 = some r) : (kd h t).1 = 8 := (oc e).1
theorem kd_X7_persuade {h : HA} {t : Nat} {l1 : Int32} {l2 : Int32} {l3 : Int32} {l4 : Int32} {r : (Int32 × HA)} (e : X7_persuade h t l1 l2 l3 l4 = some r) : (kd h t).1 = 8 := (oc e).1
theorem kd_X7_carve {h : HA} {t : Nat} {l1 : Nat} {l2 : Int32} {r : (Int32 × HA)} (e : X7_carve h t l1 l2 = some r) : (kd h t).1 = 8 := (oc e).1
theorem kd_X7_areas {h : HA} {t : Nat} {l1 : Int32} {l2 : Int32} {r : (Int32 × HA)} (e : X7_areas h t l1 l2 = some r) : (kd h t).1 = 8 := (oc e).1
theorem kd_X7_mouth {h : HA} {t : Nat} {l1 : Int32} {l2 : Int32} {l3 : Int32} {r : (Int32 × HA)} (e : X7_mouth h t l1 l2 l3 = some r) : (kd h t).1 = 8 := (oc e).1
theorem kd_X7_rift {h : HA} {t : Nat} {l1 : Int32} {l2 : Int32} {l3 : Int32} {r : (Int32 × HA)} (e : X7_rift h t l1 l2 l3 = some r) : (kd h t).1 = 8 := (oc e).1
theorem kd_X7_count {h : HA} {t : Nat} {l1 : Int32} {r : Int32} (e : X7_count h t l1 = some r) : (kd h t).1 = 8 := (oc e).1
theorem kd_X7_image {h : HA} {t : Nat} {l1 : Int32} {r : (Int32 × HA)} (e : X7_image h t l1 = some r) : (kd h t).1 = 8 := (oc e).1
theorem kd_X7_again {h : HA} {t : Nat} {l1 : Int32} {r : (Int32 × HA)} (e : X7_again h t l1 = some r) : (kd h t).1 = 8 := (oc e).1
theorem kd_X8_init {h : HA} {t : Nat} {r : HA} (e : X8_init h t = some r) : (kd h t).1 = 9 := (oc e).1
theorem kd_X8_copyAll {h : HA} {t : Nat} {l1 : Int32} {l2 : Int32} {r : HA} (e : X8_copyAll h t l1 l2 = some r) : (kd h t).1 = 9 := (oc e).1
theorem kd_X8_is {h : HA} {t : Nat} {l1 : Int32} {l2 : Int32} {r : Int32} (e : X8_is h t l1 l2 = some r) : (kd h t).1 = 9 := (oc e).1
theorem kd_X8_four {h : HA} {t : Nat} {l1 : Int32} {r : HA} (e : X8_four h t l1 = some r) : (kd h t).1 = 9 := (oc e).1
theorem kd_X8_feed {h : HA} {t : Nat} {l1 : Int32} {l2 : Int32} {l3 : Int32} {l4 : Int32} {l5 : Int32} {r : (Int32 × HA)} (e : X8_feed h t l1 l2 l3 l4 l5 = some r) : (kd h t).1 = 9 := (oc e).1
theorem kd_X8_end {h : HA} {t : Nat} {l1 : Int32} {r : (Int32 × HA)} (e : X8_end h t l1 = some r) : (kd h t).1 = 9 := (oc e).1
theorem kd_X8_see {h : HA} {t : Nat} {r : Int32} (e : X8_see h t = some r) : (kd h t).1 = 9 := (oc e).1
theorem kd_X8_token {h : HA} {t : Nat} {r : HA} (e : X8_token h t = some r) : (kd h t).1 = 9 := (oc e).1
theorem kd_X8_stops {h : HA} {t : Nat} {r : (Int32 × HA)} (e : X8_stops h t = some r) : (kd h t).1 = 9 := (oc e).1
theorem kd_X8_later {h : HA} {t : Nat} {l1 : Int32} {l2 : Int32} {r : HA} (e : X8_later h t l1 l2 = some r) : (kd h t).1 = 9 := (oc e).1
theorem kd_X8_take {h : HA} {t : Nat} {l1 : Int32} {l2 : Int32} {l3 : Int32} {r : (Int32 × HA)} (e : X8_take h t l1 l2 l3 = some r) : (kd h t).1 = 9 := (oc e).1
theorem kd_X8_takeField {h : HA} {t : Nat} {l1 : Int32} {r : (Int32 × HA)} (e : X8_takeField h t l1 = some r) : (kd h t).1 = 9 := (oc e).1
theorem kd_X8_full {h : HA} {t : Nat} {l1 : Int32} {l2 : Int32} {l3 : Int32} {r : HA} (e : X8_full h t l1 l2 l3 = some r) : (kd h t).1 = 9 := (oc e).1
theorem kd_X8_keep {h : HA} {t : Nat} {l1 : Int32} {l2 : Int32} {l3 : Int32} {l4 : Int32} {r : HA} (e : X8_keep h t l1 l2 l3 l4 = some r) : (kd h t).1 = 9 := (oc e).1
theorem kd_X8_judgeLine {h : HA} {t : Nat} {l1 : Int32} {r : (Int32 × HA)} (e : X8_judgeLine h t l1 = some r) : (kd h t).1 = 9 := (oc e).1
theorem kd_X8_sizeLine {h : HA} {t : Nat} {r : (Int32 × HA)} (e : X8_sizeLine h t = some r) : (kd h t).1 = 9 := (oc e).1
theorem kd_X8_wallLine {h : HA} {t : Nat} {r : (Int32 × HA)} (e : X8_wallLine h t = some r) : (kd h t).1 = 9 := (oc e).1
theorem kd_X8_pleads {h : HA} {t : Nat} {r : HA} (e : X8_pleads h t = some r) : (kd h t).1 = 9 := (oc e).1
theorem kd_X8_twinLine {h : HA} {t : Nat} {r : (Int32 × HA)} (e : X8_twinLine h t = some r) : (kd h t).1 = 9 := (oc e).1
theorem kd_X8_courtLine {h : HA} {t : Nat} {l1 : Int64} {l3 : Int32} {r : (Int32 × HA)} (e : X8_courtLine h t l1 l3 = some r) : (kd h t).1 = 9 := (oc e).1
theorem kd_X8_trialLine {h : HA} {t : Nat} {l1 : Int64} {l3 : Int32} {r : (Int32 × HA)} (e : X8_trialLine h t l1 l3 = some r) : (kd h t).1 = 9 := (oc e).1
theorem kd_X8_takeMaybe {h : HA} {t : Nat} {l1 : Int32} {r : (Int32 × HA)} (e : X8_takeMaybe h t l1 = some r) : (kd h t).1 = 9 := (oc e).1
theorem kd_X8_lawLine {h : HA} {t : Nat} {l1 : Int64} {l3 : Int32} {r : (Int32 × HA)} (e : X8_lawLine h t l1 l3 = some r) : (kd h t).1 = 9 := (oc e).1
theorem kd_X8_rollLine {h : HA} {t : Nat} {l1 : Int64} {l3 : Int32} {r : (Int32 × HA)} (e : X8_rollLine h t l1 l3 = some r) : (kd h t).1 = 9 := (oc e).1
theorem kd_X8_lines {h : HA} {t : Nat} {l1 : Int32} {r : (Int32 × HA)} (e : X8_lines h t l1 = some r) : (kd h t).1 = 9 := (oc e).1
theorem kd_X8_isWalled {h : HA} {t : Nat} {l1 : Int32} {r : Int32} (e : X8_isWalled h t l1 = some r) : (kd h t).1 = 9 := (oc e).1
theorem kd_X8_isWrongCourt {h : HA} {t : Nat} {r : (Int32 × HA)} (e : X8_isWrongCourt h t = some r) : (kd h t).1 = 9 := (oc e).1
theorem kd_X8_readText {h : HA} {t : Nat} {l1 : Int32} {r : (Int32 × HA)} (e : X8_readText h t l1 = some r) : (kd h t).1 = 9 := (oc e).1
theorem kd_X8_store {h : HA} {t : Nat} {l1 : Nat} {l2 : Int32} {l3 : Int32} {r : HA} (e : X8_store h t l1 l2 l3 = some r) : (kd h t).1 = 9 := (oc e).1
theorem kd_X8_text {h : HA} {t : Nat} {l1 : Int32} {l2 : Int32} {r : (Int32 × HA)} (e : X8_text h t l1 l2 = some r) : (kd h t).1 = 9 := (oc e).1
theorem kd_X8_fault {h : HA} {t : Nat} {l1 : Int32} {r : (Int32 × HA)} (e : X8_fault h t l1 = some r) : (kd h t).1 = 9 := (oc e).1
theorem kd_X8_of {h : HA} {t : Nat} {l1 : Int32} {r : Int32} (e : X8_of h t l1 = some r) : (kd h t).1 = 9 := (oc e).1
theorem kd_X8_isWall {h : HA} {t : Nat} {l1 : Int32} {r : Int32} (e : X8_isWall h t l1 = some r) : (kd h t).1 = 9 := (oc e).1
theorem kd_X8_beside {h : HA} {t : Nat} {l1 : Int32} {l2 : Int32} {r : Int32} (e : X8_beside h t l1 l2 = some r) : (kd h t).1 = 9 := (oc e).1
theorem kd_X8_stepTo {h : HA} {t : Nat} {l1 : Int32} {l2 : Int32} {r : Int32} (e : X8_stepTo h t l1 l2 = some r) : (kd h t).1 = 9 := (oc e).1
theorem kd_X8_flood {h : HA} {t : Nat} {l1 : Int32} {r : HA} (e : X8_flood h t l1 = some r) : (kd h t).1 = 9 := (oc e).1
theorem kd_X8_hand {h : HA} {t : Nat} {l1 : Int32} {r : (Int32 × HA)} (e : X8_hand h t l1 = some r) : (kd h t).1 = 9 := (oc e).1
theorem kd_X8_isField {h : HA} {t : Nat} {l1 : Int32} {r : Int32} (e : X8_isField h t l1 = some r) : (kd h t).1 = 9 := (oc e).1
theorem kd_X8_farOf {h : HA} {t : Nat} {l1 : Int32} {l2 : Int32} {r : Int32} (e : X8_farOf h t l1 l2 = some r) : (kd h t).1 = 9 := (oc e).1
theorem kd_X8_faces {h : HA} {t : Nat} {l1 : Int32} {l2 : Int32} {l3 : Int32} {r : Int32} (e : X8_faces h t l1 l2 l3 = some r) : (kd h t).1 = 9 := (oc e).1
theorem kd_X8_cameFrom {h : HA} {t : Nat} {l1 : Int32} {l2 : Int32} {r : Int32} (e : X8_cameFrom h t l1 l2 = some r) : (kd h t).1 = 9 := (oc e).1
theorem kd_X8_hearsAt {h : HA} {t : Nat} {l1 : Int32} {l2 : Int32} {l3 : Int32} {l4 : Int32} {l5 : Int32} {l6 : Int32} {l7 : Int32} {r : Int32} (e : X8_hearsAt h t l1 l2 l3 l4 l5 l6 l7 = some r) : (kd h t).1 = 9 := (oc e).1
theorem kd_X8_judgeOf {h : HA} {t : Nat} {l1 : Int32} {l2 : Int32} {r : Int32} (e : X8_judgeOf h t l1 l2 = some r) : (kd h t).1 = 9 := (oc e).1
theorem kd_X8_earsOf {h : HA} {t : Nat} {l1 : Int32} {r : Int32} (e : X8_earsOf h t l1 = some r) : (kd h t).1 = 9 := (oc e).1
theorem kd_X8_hears {h : HA} {t : Nat} {l1 : Int32} {l2 : Int32} {l3 : Int32} {l4 : Int32} {r : Int32} (e : X8_hears h t l1 l2 l3 l4 = some r) : (kd h t).1 = 9 := (oc e).1
theorem kd_X8_earsAt {h : HA} {t : Nat} {l1 : Int32} {l2 : Int32} {l3 : Int32} {r : Int32} (e : X8_earsAt h t l1 l2 l3 = some r) : (kd h t).1 = 9 := (oc e).1
theorem kd_X8_blind {h : HA} {t : Nat} {l1 : Int32} {l2 : Int32} {r : Int32} (e : X8_blind h t l1 l2 = some r) : (kd h t).1 = 9 := (oc e).1
theorem kd_X8_quarter {h : HA} {t : Nat} {r : Int32} (e : X8_quarter h t = some r) : (kd h t).1 = 9 := (oc e).1
theorem kd_X8_court {h : HA} {t : Nat} {l1 : Int32} {l2 : Int32} {r : (Int32 × HA)} (e : X8_court h t l1 l2 = some r) : (kd h t).1 = 9 := (oc e).1
theorem kd_X8_wall {h : HA} {t : Nat} {l1 : Int32} {l2 : Int32} {r : (Int32 × HA)} (e : X8_wall h t l1 l2 = some r) : (kd h t).1 = 9 := (oc e).1
theorem kd_X8_isJudge {h : HA} {t : Nat} {l1 : Int32} {r : Int32} (e : X8_isJudge h t l1 = some r) : (kd h t).1 = 9 := (oc e).1
theorem kd_X8_judge {h : HA} {t : Nat} {l1 : Int32} {l2 : Int32} {l3 : Int32} {r : (Int32 × HA)} (e : X8_judge h t l1 l2 l3 = some r) : (kd h t).1 = 9 := (oc e).1
theorem kd_X8_isPleader {h : HA} {t : Nat} {l1 : Int32} {r : Int32} (e : X8_isPleader h t l1 = some r) : (kd h t).1 = 9 := (oc e).1
theorem kd_X8_pleader {h : HA} {t : Nat} {l1 : Int32} {l2 : Int32} {l3 : Int32} {r : (Int32 × HA)} (e : X8_pleader h t l1 l2 l3 = some r) : (kd h t).1 = 9 := (oc e).1
theorem kd_X8_far {h : HA} {t : Nat} {l1 : Int32} {l2 : Int32} {l3 : Int32} {r : (Int32 × HA)} (e : X8_far h t l1 l2 l3 = some r) : (kd h t).1 = 9 := (oc e).1
theorem kd_X8_comes {h : HA} {t : Nat} {l1 : Int32} {l2 : Int32} {l3 : Int32} {l4 : Int32} {r : (Int32 × HA)} (e : X8_comes h t l1 l2 l3 l4 = some r) : (kd h t).1 = 9 := (oc e).1
theorem kd_X8_ears {h : HA} {t : Nat} {l1 : Int32} {l2 : Int32} {l3 : Int32} {l4 : Int32} {r : (Int32 × HA)} (e : X8_ears h t l1 l2 l3 l4 = some r) : (kd h t).1 = 9 := (oc e).1
theorem kd_X8_pulpit {h : HA} {t : Nat} {l1 : Int32} {l2 : Int32} {l3 : Int32} {l4 : Int32} {r : (Int32 × HA)} (e : X8_pulpit h t l1 l2 l3 l4 = some r) : (kd h t).1 = 9 := (oc e).1
theorem kd_X8_near {h : HA} {t : Nat} {l1 : Int32} {l2 : Int32} {l3 : Int32} {l4 : Int32} {r : (Int32 × HA)} (e : X8_near h t l1 l2 l3 l4 = some r) : (kd h t).1 = 9 := (oc e).1
theorem kd_X8_comeTo {h : HA} {t : Nat} {l1 : Int32} {l2 : Int32} {l3 : Int32} {l4 : Int32} {r : HA} (e : X8_comeTo h t l1 l2 l3 l4 = some r) : (kd h t).1 = 9 := (oc e).1
theorem kd_X8_layRow {h : HA} {t : Nat} {l1 : Int32} {l2 : Int32} {r : HA} (e : X8_layRow h t l1 l2 = some r) : (kd h t).1 = 9 := (oc e).1
theorem kd_X8_findRound {h : HA} {t : Nat} {l1 : Int32} {l2 : Int32} {r : (Int32 × HA)} (e : X8_findRound h t l1 l2 = some r) : (kd h t).1 = 9 := (oc e).1
theorem kd_X8_round {h : HA} {t : Nat} {l1 : Int32} {l2 : Int32} {l3 : Int32} {l4 : Int32} {r : (Int32 × HA)} (e : X8_round h t l1 l2 l3 l4 = some r) : (kd h t).1 = 9 := (oc e).1
theorem kd_X8_echo {h : HA} {t : Nat} {l1 : Int32} {l2 : Int32} {l3 : Int32} {l4 : Int32} {r : (Int32 × HA)} (e : X8_echo h t l1 l2 l3 l4 = some r) : (kd h t).1 = 9 := (oc e).1
theorem kd_X8_deeds {h : HA} {t : Nat} {r : Int32} (e : X8_deeds h t = some r) : (kd h t).1 = 9 := (oc e).1
theorem kd_X8_deedOf {h : HA} {t : Nat} {l1 : Int32} {l2 : Int32} {r : Int32} (e : X8_deedOf h t l1 l2 = some r) : (kd h t).1 = 9 := (oc e).1
theorem kd_X8_does {h : HA} {t : Nat} {l1 : Int32} {r : (Int32 × HA)} (e : X8_does h t l1 = some r) : (kd h t).1 = 9 := (oc e).1
theorem kd_X8_play {h : HA} {t : Nat} {l1 : Int32} {r : (Int32 × HA)} (e : X8_play h t l1 = some r) : (kd h t).1 = 9 := (oc e).1
theorem kd_X8_layTrial {h : HA} {t : Nat} {l1 : Int32} {l2 : Int32} {r : (Int32 × HA)} (e : X8_layTrial h t l1 l2 = some r) : (kd h t).1 = 9 := (oc e).1
theorem kd_X8_layState {h : HA} {t : Nat} {l1 : Int32} {l2 : Int32} {l3 : Int32} {r : (Int32 × HA)} (e : X8_layState h t l1 l2 l3 = some r) : (kd h t).1 = 9 := (oc e).1
theorem kd_X8_deed {h : HA} {t : Nat} {l1 : Int32} {l2 : Int32} {l3 : Int32} {r : (Int32 × HA)} (e : X8_deed h t l1 l2 l3 = some r) : (kd h t).1 = 9 := (oc e).1
theorem kd_X8_stop {h : HA} {t : Nat} {l1 : Int32} {l2 : Int32} {r : (Int32 × HA)} (e : X8_stop h t l1 l2 = some r) : (kd h t).1 = 9 := (oc e).1
theorem kd_X8_stands {h : HA} {t : Nat} {l1 : Int32} {l2 : Int32} {l3 : Int32} {l4 : Int32} {l5 : Int32} {r : (Int32 × HA)} (e : X8_stands h t l1 l2 l3 l4 l5 = some r) : (kd h t).1 = 9 := (oc e).1
theorem kd_X8_hearsDeed {h : HA} {t : Nat} {l1 : Int32} {l2 : Int32} {l3 : Int32} {l4 : Int32} {l5 : Int32} {r : Int32} (e : X8_hearsDeed h t l1 l2 l3 l4 l5 = some r) : (kd h t).1 = 9 := (oc e).1
theorem kd_X8_knownFrom {h : HA} {t : Nat} {l1 : Int32} {l2 : Int32} {l3 : Int32} {l4 : Int32} {l5 : Int32} {r : Int32} (e : X8_knownFrom h t l1 l2 l3 l4 l5 = some r) : (kd h t).1 = 9 := (oc e).1
theorem kd_X8_knownIn {h : HA} {t : Nat} {l1 : Int32} {l2 : Int32} {l3 : Int32} {r : Int32} (e : X8_knownIn h t l1 l2 l3 = some r) : (kd h t).1 = 9 := (oc e).1
theorem kd_X8_known {h : HA} {t : Nat} {l1 : Int32} {r : Int32} (e : X8_known h t l1 = some r) : (kd h t).1 = 9 := (oc e).1
theorem kd_X8_common {h : HA} {t : Nat} {r : Int32} (e : X8_common h t = some r) : (kd h t).1 = 9 := (oc e).1
theorem kd_X8_lost {h : HA} {t : Nat} {r : Int32} (e : X8_lost h t = some r) : (kd h t).1 = 9 := (oc e).1
theorem kd_X8_knows {h : HA} {t : Nat} {l1 : Int32} {l2 : Int32} {l3 : Int32} {l4 : Int32} {r : (Int32 × HA)} (e : X8_knows h t l1 l2 l3 l4 = some r) : (kd h t).1 = 9 := (oc e).1
theorem kd_X8_heard {h : HA} {t : Nat} {l1 : Int32} {l2 : Int32} {l3 : Int32} {r : (Int32 × HA)} (e : X8_heard h t l1 l2 l3 = some r) : (kd h t).1 = 9 := (oc e).1
theorem kd_X8_rules {h : HA} {t : Nat} {r : Int32} (e : X8_rules h t = some r) : (kd h t).1 = 9 := (oc e).1
theorem kd_X8_ruleOf {h : HA} {t : Nat} {l1 : Int32} {l2 : Int32} {r : Int32} (e : X8_ruleOf h t l1 l2 = some r) : (kd h t).1 = 9 := (oc e).1
theorem kd_X8_hasLaw {h : HA} {t : Nat} {l1 : Int32} {r : (Int32 × HA)} (e : X8_hasLaw h t l1 = some r) : (kd h t).1 = 9 := (oc e).1
theorem kd_X8_rule {h : HA} {t : Nat} {l1 : Int32} {l2 : Int32} {l3 : Int32} {r : (Int32 × HA)} (e : X8_rule h t l1 l2 l3 = some r) : (kd h t).1 = 9 := (oc e).1
theorem kd_X8_ruleBy {h : HA} {t : Nat} {l1 : Int32} {r : Int32} (e : X8_ruleBy h t l1 = some r) : (kd h t).1 = 9 := (oc e).1
theorem kd_X8_voteBy {h : HA} {t : Nat} {l1 : Int32} {r : Int32} (e : X8_voteBy h t l1 = some r) : (kd h t).1 = 9 := (oc e).1
theorem kd_X8_findVotes {h : HA} {t : Nat} {r : HA} (e : X8_findVotes h t = some r) : (kd h t).1 = 9 := (oc e).1
theorem kd_X8_verdict {h : HA} {t : Nat} {r : Int32} (e : X8_verdict h t = some r) : (kd h t).1 = 9 := (oc e).1
theorem kd_X8_layVotes {h : HA} {t : Nat} {l1 : Int32} {l2 : Int32} {l3 : Int32} {r : (Int32 × HA)} (e : X8_layVotes h t l1 l2 l3 = some r) : (kd h t).1 = 9 := (oc e).1
theorem kd_X8_votes {h : HA} {t : Nat} {l1 : Int32} {l2 : Int32} {l3 : Int32} {l4 : Int32} {r : (Int32 × HA)} (e : X8_votes h t l1 l2 l3 l4 = some r) : (kd h t).1 = 9 := (oc e).1
theorem kd_X8_otherEars {h : HA} {t : Nat} {l1 : Int32} {r : Int32} (e : X8_otherEars h t l1 = some r) : (kd h t).1 = 9 := (oc e).1
theorem kd_X8_sway {h : HA} {t : Nat} {l1 : Int32} {l2 : Int32} {l3 : Int32} {l4 : Int32} {r : (Int32 × HA)} (e : X8_sway h t l1 l2 l3 l4 = some r) : (kd h t).1 = 9 := (oc e).1
theorem kd_X8_soldBy {h : HA} {t : Nat} {l1 : Int32} {l2 : Int32} {r : Int32} (e : X8_soldBy h t l1 l2 = some r) : (kd h t).1 = 9 := (oc e).1
theorem kd_X8_dearest {h : HA} {t : Nat} {r : Int32} (e : X8_dearest h t = some r) : (kd h t).1 = 9 := (oc e).1
theorem kd_X8_sold {h : HA} {t : Nat} {l1 : Int32} {l2 : Int32} {l3 : Int32} {l4 : Int32} {r : (Int32 × HA)} (e : X8_sold h t l1 l2 l3 l4 = some r) : (kd h t).1 = 9 := (oc e).1
theorem kd_X8_swap {h : HA} {t : Nat} {l1 : Int32} {l2 : Int32} {r : HA} (e : X8_swap h t l1 l2 = some r) : (kd h t).1 = 9 := (oc e).1
theorem kd_X8_nextSeats {h : HA} {t : Nat} {r : (Int32 × HA)} (e : X8_nextSeats h t = some r) : (kd h t).1 = 9 := (oc e).1
theorem kd_X8_findSeats {h : HA} {t : Nat} {r : (Int32 × HA)} (e : X8_findSeats h t = some r) : (kd h t).1 = 9 := (oc e).1
theorem kd_X8_seats {h : HA} {t : Nat} {l1 : Int32} {l2 : Int32} {l3 : Int32} {r : (Int32 × HA)} (e : X8_seats h t l1 l2 l3 = some r) : (kd h t).1 = 9 := (oc e).1
theorem kd_X8_claims {h : HA} {t : Nat} {r : Int32} (e : X8_claims h t = some r) : (kd h t).1 = 9 := (oc e).1
theorem kd_X8_claimOf {h : HA} {t : Nat} {l1 : Int32} {l2 : Int32} {r : Int32} (e : X8_claimOf h t l1 l2 = some r) : (kd h t).1 = 9 := (oc e).1
theorem kd_X8_hasRoll {h : HA} {t : Nat} {l1 : Int32} {r : (Int32 × HA)} (e : X8_hasRoll h t l1 = some r) : (kd h t).1 = 9 := (oc e).1
theorem kd_X8_claim {h : HA} {t : Nat} {l1 : Int32} {l2 : Int32} {l3 : Int32} {r : (Int32 × HA)} (e : X8_claim h t l1 l2 l3 = some r) : (kd h t).1 = 9 := (oc e).1
theorem kd_X8_sees {h : HA} {t : Nat} {l1 : Int32} {l2 : Int32} {l3 : Int32} {r : Int32} (e : X8_sees h t l1 l2 l3 = some r) : (kd h t).1 = 9 := (oc e).1
theorem kd_X8_couldSee {h : HA} {t : Nat} {l1 : Int32} {l2 : Int32} {r : Int32} (e : X8_couldSee h t l1 l2 = some r) : (kd h t).1 = 9 := (oc e).1
theorem kd_X8_liars {h : HA} {t : Nat} {r : Int32} (e : X8_liars h t = some r) : (kd h t).1 = 9 := (oc e).1
theorem kd_X8_lipsOf {h : HA} {t : Nat} {l1 : Int32} {r : Int32} (e : X8_lipsOf h t l1 = some r) : (kd h t).1 = 9 := (oc e).1
theorem kd_X8_reader {h : HA} {t : Nat} {l1 : Int32} {r : Int32} (e : X8_reader h t l1 = some r) : (kd h t).1 = 9 := (oc e).1
theorem kd_X8_lips {h : HA} {t : Nat} {l1 : Int32} {l2 : Int32} {l3 : Int32} {l4 : Int32} {r : (Int32 × HA)} (e : X8_lips h t l1 l2 l3 l4 = some r) : (kd h t).1 = 9 := (oc e).1
theorem kd_X8_draw {h : HA} {t : Nat} {l1 : Int32} {r : (Int32 × HA)} (e : X8_draw h t l1 = some r) : (kd h t).1 = 9 := (oc e).1
theorem kd_X8_drawn {h : HA} {t : Nat} {l1 : Int32} {l2 : Int32} {l3 : Int32} {l4 : Int32} {l5 : Int32} {r : (Int32 × HA)} (e : X8_drawn h t l1 l2 l3 l4 l5 = some r) : (kd h t).1 = 9 := (oc e).1
theorem kd_X8_hush {h : HA} {t : Nat} {l1 : Int32} {l2 : Int32} {l3 : Int32} {l4 : Int32} {r : (Int32 × HA)} (e : X8_hush h t l1 l2 l3 l4 = some r) : (kd h t).1 = 9 := (oc e).1
theorem kd_X8_benchOf {h : HA} {t : Nat} {l1 : Int32} {r : Int32} (e : X8_benchOf h t l1 = some r) : (kd h t).1 = 9 := (oc e).1
theorem kd_X8_startHour {h : HA} {t : Nat} {r : Int32} (e : X8_startHour h t = some r) : (kd h t).1 = 9 := (oc e).1
theorem kd_X8_bench {h : HA} {t : Nat} {l1 : Int32} {l2 : Int32} {l3 : Int32} {r : (Int32 × HA)} (e : X8_bench h t l1 l2 l3 = some r) : (kd h t).1 = 9 := (oc e).1
theorem kd_X8_idle {h : HA} {t : Nat} {l1 : Int32} {l2 : Int32} {l3 : Int32} {r : (Int32 × HA)} (e : X8_idle h t l1 l2 l3 = some r) : (kd h t).1 = 9 := (oc e).1
theorem kd_X8_persuade {h : HA} {t : Nat} {l1 : Int32} {l2 : Int32} {l3 : Int32} {l4 : Int32} {r : (Int32 × HA)} (e : X8_persuade h t l1 l2 l3 l4 = some r) : (kd h t).1 = 9 := (oc e).1
theorem kd_X8_parts {h : HA} {t : Nat} {r : Int32} (e : X8_parts h t = some r) : (kd h t).1 = 9 := (oc e).1
theorem kd_X8_carved {h : HA} {t : Nat} {l1 : Int32} {l2 : Int32} {r : (Int32 × HA)} (e : X8_carved h t l1 l2 = some r) : (kd h t).1 = 9 := (oc e).1
theorem kd_X8_areas {h : HA} {t : Nat} {l1 : Int32} {l2 : Int32} {r : (Int32 × HA)} (e : X8_areas h t l1 l2 = some r) : (kd h t).1 = 9 := (oc e).1
theorem kd_X8_mouth {h : HA} {t : Nat} {l1 : Int32} {l2 : Int32} {l3 : Int32} {r : (Int32 × HA)} (e : X8_mouth h t l1 l2 l3 = some r) : (kd h t).1 = 9 := (oc e).1
theorem kd_X8_rift {h : HA} {t : Nat} {l1 : Int32} {l2 : Int32} {l3 : Int32} {r : (Int32 × HA)} (e : X8_rift h t l1 l2 l3 = some r) : (kd h t).1 = 9 := (oc e).1
theorem kd_X8_count {h : HA} {t : Nat} {l1 : Int32} {r : (Int32 × HA)} (e : X8_count h t l1 = some r) : (kd h t).1 = 9 := (oc e).1
theorem kd_X8_image {h : HA} {t : Nat} {l1 : Int32} {r : (Int32 × HA)} (e : X8_image h t l1 = some r) : (kd h t).1 = 9 := (oc e).1
theorem kd_X8_again {h : HA} {t : Nat} {l1 : Int32} {r : (Int32 × HA)} (e : X8_again h t l1 = some r) : (kd h t).1 = 9 := (oc e).1
