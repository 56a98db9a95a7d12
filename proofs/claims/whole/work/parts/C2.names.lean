/-! constructors: names and tables -/
def mX0_init : MD := ((1, 20), RX0, cX0_init, 1, none, yX0_init)
def mX1_init : MD := ((1, 20), RX1, cX1_init, 1, none, yX1_init)
def mX2_init : MD := ((1, 20), RX2, cX2_init, 1, none, yX2_init)
def mX3_init : MD := ((1, 20), RX3, cX3_init, 1, none, yX3_init)
def mX4_init : MD := ((1, 20), RX4, cX4_init, 1, none, yX4_init)
def mX5_init : MD := ((1, 20), RX5, cX5_init, 1, none, yX5_init)
def mX6_init : MD := ((2, 40), RX6, cX6_init, 2, none, yX6_init)
def mX7_init : MD := ((3, 61), RX7, cX7_init, 2, none, yX7_init)
def mX8_init : MD := ((1, 20), RX8, cX8_init, 1, none, yX8_init)
theorem mo_X0_init : MO mX0_init := ⟨by decide +kernel, rfl, lwg_1 60 rfl rfl, lwg_1 4 (by decide +kernel) rfl, by decide +kernel, by decide +kernel⟩
theorem np_X0_init : npar mX0_init 0 := (by decide +kernel : (parseMethodDescriptor yX0_init.desc).map (fun q => q.parameters.length) = some 0)
theorem im_X0_init : Cond.instanceMethod yX0_init ∈ lwg := lwg_1 59 (by decide +kernel) rfl
theorem ib_X0 : Cond.instantiable RX0 10 ∈ lwg := lwg_1 57 (by decide +kernel) rfl
theorem iz_X0 : Cond.initialized RX0 ∈ lwg := lwg_1 4 (by decide +kernel) rfl
theorem mo_X1_init : MO mX1_init := ⟨by decide +kernel, rfl, lwg_1 160 rfl rfl, lwg_1 5 (by decide +kernel) rfl, by decide +kernel, by decide +kernel⟩
theorem np_X1_init : npar mX1_init 0 := (by decide +kernel : (parseMethodDescriptor yX1_init.desc).map (fun q => q.parameters.length) = some 0)
theorem im_X1_init : Cond.instanceMethod yX1_init ∈ lwg := lwg_1 159 (by decide +kernel) rfl
theorem ib_X1 : Cond.instantiable RX1 17 ∈ lwg := lwg_1 157 (by decide +kernel) rfl
theorem iz_X1 : Cond.initialized RX1 ∈ lwg := lwg_1 5 (by decide +kernel) rfl
theorem mo_X2_init : MO mX2_init := ⟨by decide +kernel, rfl, lwg_2 39 rfl rfl, lwg_1 8 (by decide +kernel) rfl, by decide +kernel, by decide +kernel⟩
theorem np_X2_init : npar mX2_init 0 := (by decide +kernel : (parseMethodDescriptor yX2_init.desc).map (fun q => q.parameters.length) = some 0)
theorem im_X2_init : Cond.instanceMethod yX2_init ∈ lwg := lwg_2 38 (by decide +kernel) rfl
theorem ib_X2 : Cond.instantiable RX2 3 ∈ lwg := lwg_2 36 (by decide +kernel) rfl
theorem iz_X2 : Cond.initialized RX2 ∈ lwg := lwg_1 8 (by decide +kernel) rfl
theorem mo_X3_init : MO mX3_init := ⟨by decide +kernel, rfl, lwg_1 38 rfl rfl, lwg_1 3 (by decide +kernel) rfl, by decide +kernel, by decide +kernel⟩
theorem np_X3_init : npar mX3_init 0 := (by decide +kernel : (parseMethodDescriptor yX3_init.desc).map (fun q => q.parameters.length) = some 0)
theorem im_X3_init : Cond.instanceMethod yX3_init ∈ lwg := lwg_1 37 (by decide +kernel) rfl
theorem ib_X3 : Cond.instantiable RX3 3 ∈ lwg := lwg_1 35 (by decide +kernel) rfl
theorem iz_X3 : Cond.initialized RX3 ∈ lwg := lwg_1 3 (by decide +kernel) rfl
theorem mo_X4_init : MO mX4_init := ⟨by decide +kernel, rfl, lwg_1 218 rfl rfl, lwg_1 6 (by decide +kernel) rfl, by decide +kernel, by decide +kernel⟩
theorem np_X4_init : npar mX4_init 0 := (by decide +kernel : (parseMethodDescriptor yX4_init.desc).map (fun q => q.parameters.length) = some 0)
theorem im_X4_init : Cond.instanceMethod yX4_init ∈ lwg := lwg_1 217 (by decide +kernel) rfl
theorem ib_X4 : Cond.instantiable RX4 7 ∈ lwg := lwg_1 215 (by decide +kernel) rfl
theorem iz_X4 : Cond.initialized RX4 ∈ lwg := lwg_1 6 (by decide +kernel) rfl
theorem mo_X5_init : MO mX5_init := ⟨by decide +kernel, rfl, lwg_2 8 rfl rfl, lwg_1 7 (by decide +kernel) rfl, by decide +kernel, by decide +kernel⟩
theorem np_X5_init : npar mX5_init 0 := (by decide +kernel : (parseMethodDescriptor yX5_init.desc).map (fun q => q.parameters.length) = some 0)
theorem im_X5_init : Cond.instanceMethod yX5_init ∈ lwg := lwg_2 7 (by decide +kernel) rfl
theorem ib_X5 : Cond.instantiable RX5 7 ∈ lwg := lwg_2 5 (by decide +kernel) rfl
theorem iz_X5 : Cond.initialized RX5 ∈ lwg := lwg_1 7 (by decide +kernel) rfl
theorem mo_X6_init : MO mX6_init := ⟨by decide +kernel, rfl, lwg_1 29 rfl rfl, lwg_1 2 (by decide +kernel) rfl, by decide +kernel, by decide +kernel⟩
theorem np_X6_init : npar mX6_init 0 := (by decide +kernel : (parseMethodDescriptor yX6_init.desc).map (fun q => q.parameters.length) = some 0)
theorem im_X6_init : Cond.instanceMethod yX6_init ∈ lwg := lwg_1 28 (by decide +kernel) rfl
theorem ib_X6 : Cond.instantiable RX6 6 ∈ lwg := lwg_1 26 (by decide +kernel) rfl
theorem iz_X6 : Cond.initialized RX6 ∈ lwg := lwg_1 2 (by decide +kernel) rfl
theorem mo_X7_init : MO mX7_init := ⟨by decide +kernel, rfl, lwg_1 21 rfl rfl, lwg_1 1 (by decide +kernel) rfl, by decide +kernel, by decide +kernel⟩
theorem np_X7_init : npar mX7_init 0 := (by decide +kernel : (parseMethodDescriptor yX7_init.desc).map (fun q => q.parameters.length) = some 0)
theorem im_X7_init : Cond.instanceMethod yX7_init ∈ lwg := lwg_1 20 (by decide +kernel) rfl
theorem ib_X7 : Cond.instantiable RX7 9 ∈ lwg := lwg_1 18 (by decide +kernel) rfl
theorem iz_X7 : Cond.initialized RX7 ∈ lwg := lwg_1 1 (by decide +kernel) rfl
theorem mo_X8_init : MO mX8_init := ⟨by decide +kernel, rfl, lwg_5 37 rfl rfl, lwg_1 9 (by decide +kernel) rfl, by decide +kernel, by decide +kernel⟩
theorem np_X8_init : npar mX8_init 0 := (by decide +kernel : (parseMethodDescriptor yX8_init.desc).map (fun q => q.parameters.length) = some 0)
theorem im_X8_init : Cond.instanceMethod yX8_init ∈ lwg := lwg_5 36 (by decide +kernel) rfl
theorem ib_X8 : Cond.instantiable RX8 40 ∈ lwg := lwg_5 34 (by decide +kernel) rfl
theorem iz_X8 : Cond.initialized RX8 ∈ lwg := lwg_1 9 (by decide +kernel) rfl
theorem ck_RL_7 : Cond.classLink RL 7 RX7 ∈ lwg := lwg_1 17 (by decide +kernel) rfl
theorem mi_RL_9 : Cond.methodLink RL 9 yX7_init ∈ lwg := lwg_1 19 (by decide +kernel) rfl
theorem mi_RX7_1 : Cond.methodLink RX7 1 Lib.objectInit ∈ lwg := lwg_1 22 (by decide +kernel) rfl
theorem ck_RX7_7 : Cond.classLink RX7 7 RX6 ∈ lwg := lwg_1 25 (by decide +kernel) rfl
theorem mi_RX7_9 : Cond.methodLink RX7 9 yX6_init ∈ lwg := lwg_1 27 (by decide +kernel) rfl
theorem mi_RX6_3 : Cond.methodLink RX6 3 Lib.objectInit ∈ lwg := lwg_1 30 (by decide +kernel) rfl
theorem ck_RX6_9 : Cond.classLink RX6 9 RX3 ∈ lwg := lwg_1 31 (by decide +kernel) rfl
theorem ck_RX6_17 : Cond.classLink RX6 17 RX0 ∈ lwg := lwg_1 33 (by decide +kernel) rfl
theorem mi_RX6_23 : Cond.methodLink RX6 23 yX3_init ∈ lwg := lwg_1 36 (by decide +kernel) rfl
theorem mi_RX3_3 : Cond.methodLink RX3 3 Lib.objectInit ∈ lwg := lwg_1 39 (by decide +kernel) rfl
theorem mi_RX6_24 : Cond.methodLink RX6 24 yX0_init ∈ lwg := lwg_1 58 (by decide +kernel) rfl
theorem mi_RX0_3 : Cond.methodLink RX0 3 Lib.objectInit ∈ lwg := lwg_1 61 (by decide +kernel) rfl
theorem ck_RX7_22 : Cond.classLink RX7 22 RX1 ∈ lwg := lwg_1 156 (by decide +kernel) rfl
theorem mi_RX7_24 : Cond.methodLink RX7 24 yX1_init ∈ lwg := lwg_1 158 (by decide +kernel) rfl
theorem mi_RX1_5 : Cond.methodLink RX1 5 Lib.objectInit ∈ lwg := lwg_1 161 (by decide +kernel) rfl
theorem ck_RX7_29 : Cond.classLink RX7 29 RX4 ∈ lwg := lwg_1 214 (by decide +kernel) rfl
theorem mi_RX7_31 : Cond.methodLink RX7 31 yX4_init ∈ lwg := lwg_1 216 (by decide +kernel) rfl
theorem mi_RX4_3 : Cond.methodLink RX4 3 Lib.objectInit ∈ lwg := lwg_1 219 (by decide +kernel) rfl
theorem ck_RX7_36 : Cond.classLink RX7 36 RX5 ∈ lwg := lwg_2 4 (by decide +kernel) rfl
theorem mi_RX7_38 : Cond.methodLink RX7 38 yX5_init ∈ lwg := lwg_2 6 (by decide +kernel) rfl
theorem mi_RX5_3 : Cond.methodLink RX5 3 Lib.objectInit ∈ lwg := lwg_2 9 (by decide +kernel) rfl
theorem ck_RX7_43 : Cond.classLink RX7 43 RX2 ∈ lwg := lwg_2 34 (by decide +kernel) rfl
theorem mi_RX7_53 : Cond.methodLink RX7 53 yX2_init ∈ lwg := lwg_2 37 (by decide +kernel) rfl
theorem mi_RX2_3 : Cond.methodLink RX2 3 Lib.objectInit ∈ lwg := lwg_2 40 (by decide +kernel) rfl
theorem ck_RL_10 : Cond.classLink RL 10 RX8 ∈ lwg := lwg_5 33 (by decide +kernel) rfl
theorem mi_RL_12 : Cond.methodLink RL 12 yX8_init ∈ lwg := lwg_5 35 (by decide +kernel) rfl
theorem mi_RX8_1 : Cond.methodLink RX8 1 Lib.objectInit ∈ lwg := lwg_5 38 (by decide +kernel) rfl
