/-! PRINTED by wip/whole/gen.py: every row of every table is as it must be -/
set_option maxRecDepth 100000 in
set_option maxHeartbeats 4000000 in
theorem za_X0_init : zall eX0_init = true := by decide +kernel
set_option maxRecDepth 100000 in
set_option maxHeartbeats 4000000 in
theorem za_X0_holds : zall eX0_holds = true := by decide +kernel
set_option maxRecDepth 100000 in
set_option maxHeartbeats 4000000 in
theorem za_X0_append : zall eX0_append = true := by decide +kernel
set_option maxRecDepth 100000 in
set_option maxHeartbeats 4000000 in
theorem za_X0_latencyOf : zall eX0_latencyOf = true := by decide +kernel
set_option maxRecDepth 100000 in
set_option maxHeartbeats 4000000 in
theorem za_X0_written : zall eX0_written = true := by decide +kernel
set_option maxRecDepth 100000 in
set_option maxHeartbeats 4000000 in
theorem za_X0_read : zall eX0_read = true := by decide +kernel
set_option maxRecDepth 100000 in
set_option maxHeartbeats 4000000 in
theorem za_X0_usesMemory : zall eX0_usesMemory = true := by decide +kernel
set_option maxRecDepth 100000 in
set_option maxHeartbeats 4000000 in
theorem za_X0_lengthOf : zall eX0_lengthOf = true := by decide +kernel
set_option maxRecDepth 100000 in
set_option maxHeartbeats 4000000 in
theorem za_X1_init : zall eX1_init = true := by decide +kernel
set_option maxRecDepth 100000 in
set_option maxHeartbeats 4000000 in
theorem za_X1_find : zall eX1_find = true := by decide +kernel
set_option maxRecDepth 100000 in
set_option maxHeartbeats 4000000 in
theorem za_X1_between : zall eX1_between = true := by decide +kernel
set_option maxRecDepth 100000 in
set_option maxHeartbeats 4000000 in
theorem za_X1_leastCycle : zall eX1_leastCycle = true := by decide +kernel
set_option maxRecDepth 100000 in
set_option maxHeartbeats 4000000 in
theorem za_X1_rowOf : zall eX1_rowOf = true := by decide +kernel
set_option maxRecDepth 100000 in
set_option maxHeartbeats 4000000 in
theorem za_X1_findDelaysOf : zall eX1_findDelaysOf = true := by decide +kernel
set_option maxRecDepth 100000 in
set_option maxHeartbeats 4000000 in
theorem za_X1_registerDelay : zall eX1_registerDelay = true := by decide +kernel
set_option maxRecDepth 100000 in
set_option maxHeartbeats 4000000 in
theorem za_X1_memoryDelay : zall eX1_memoryDelay = true := by decide +kernel
set_option maxRecDepth 100000 in
set_option maxHeartbeats 4000000 in
theorem za_X1_areApart : zall eX1_areApart = true := by decide +kernel
set_option maxRecDepth 100000 in
set_option maxHeartbeats 4000000 in
theorem za_X1_findWays : zall eX1_findWays = true := by decide +kernel
set_option maxRecDepth 100000 in
set_option maxHeartbeats 4000000 in
theorem za_X2_init : zall eX2_init = true := by decide +kernel
set_option maxRecDepth 100000 in
set_option maxHeartbeats 4000000 in
theorem za_X2_make : zall eX2_make = true := by decide +kernel
set_option maxRecDepth 100000 in
set_option maxHeartbeats 4000000 in
theorem za_X2_forgetCycles : zall eX2_forgetCycles = true := by decide +kernel
set_option maxRecDepth 100000 in
set_option maxHeartbeats 4000000 in
theorem za_X2_isFree : zall eX2_isFree = true := by decide +kernel
set_option maxRecDepth 100000 in
set_option maxHeartbeats 4000000 in
theorem za_X2_bestFor : zall eX2_bestFor = true := by decide +kernel
set_option maxRecDepth 100000 in
set_option maxHeartbeats 4000000 in
theorem za_X2_firstPossibleBehind : zall eX2_firstPossibleBehind = true := by decide +kernel
set_option maxRecDepth 100000 in
set_option maxHeartbeats 4000000 in
theorem za_X2_giveCycle : zall eX2_giveCycle = true := by decide +kernel
set_option maxRecDepth 100000 in
set_option maxHeartbeats 4000000 in
theorem za_X3_init : zall eX3_init = true := by decide +kernel
set_option maxRecDepth 100000 in
set_option maxHeartbeats 4000000 in
theorem za_X3_tell : zall eX3_tell = true := by decide +kernel
set_option maxRecDepth 100000 in
set_option maxHeartbeats 4000000 in
theorem za_X3_look : zall eX3_look = true := by decide +kernel
set_option maxRecDepth 100000 in
set_option maxHeartbeats 4000000 in
theorem za_X3_runAsItStands : zall eX3_runAsItStands = true := by decide +kernel
set_option maxRecDepth 100000 in
set_option maxHeartbeats 4000000 in
theorem za_X3_runByCycles : zall eX3_runByCycles = true := by decide +kernel
set_option maxRecDepth 100000 in
set_option maxHeartbeats 4000000 in
theorem za_X3_isPlace : zall eX3_isPlace = true := by decide +kernel
set_option maxRecDepth 100000 in
set_option maxHeartbeats 4000000 in
theorem za_X3_startAnew : zall eX3_startAnew = true := by decide +kernel
set_option maxRecDepth 100000 in
set_option maxHeartbeats 4000000 in
theorem za_X3_nextMoment : zall eX3_nextMoment = true := by decide +kernel
set_option maxRecDepth 100000 in
set_option maxHeartbeats 4000000 in
theorem za_X3_comeIn : zall eX3_comeIn = true := by decide +kernel
set_option maxRecDepth 100000 in
set_option maxHeartbeats 4000000 in
theorem za_X3_beginIn : zall eX3_beginIn = true := by decide +kernel
set_option maxRecDepth 100000 in
set_option maxHeartbeats 4000000 in
theorem za_X3_begin : zall eX3_begin = true := by decide +kernel
set_option maxRecDepth 100000 in
set_option maxHeartbeats 4000000 in
theorem za_X3_come : zall eX3_come = true := by decide +kernel
set_option maxRecDepth 100000 in
set_option maxHeartbeats 4000000 in
theorem za_X4_init : zall eX4_init = true := by decide +kernel
set_option maxRecDepth 100000 in
set_option maxHeartbeats 4000000 in
theorem za_X4_make : zall eX4_make = true := by decide +kernel
set_option maxRecDepth 100000 in
set_option maxHeartbeats 4000000 in
theorem za_X5_init : zall eX5_init = true := by decide +kernel
set_option maxRecDepth 100000 in
set_option maxHeartbeats 4000000 in
theorem za_X5_forgetFrom : zall eX5_forgetFrom = true := by decide +kernel
set_option maxRecDepth 100000 in
set_option maxHeartbeats 4000000 in
theorem za_X5_inspect : zall eX5_inspect = true := by decide +kernel
set_option maxRecDepth 100000 in
set_option maxHeartbeats 4000000 in
theorem za_X5_findWithoutCycle : zall eX5_findWithoutCycle = true := by decide +kernel
set_option maxRecDepth 100000 in
set_option maxHeartbeats 4000000 in
theorem za_X5_findDelayNotKept : zall eX5_findDelayNotKept = true := by decide +kernel
set_option maxRecDepth 100000 in
set_option maxHeartbeats 4000000 in
theorem za_X5_findTooMany : zall eX5_findTooMany = true := by decide +kernel
set_option maxRecDepth 100000 in
set_option maxHeartbeats 4000000 in
theorem za_X5_howManyIn : zall eX5_howManyIn = true := by decide +kernel
set_option maxRecDepth 100000 in
set_option maxHeartbeats 4000000 in
theorem za_X6_init : zall eX6_init = true := by decide +kernel
set_option maxRecDepth 100000 in
set_option maxHeartbeats 4000000 in
theorem za_X6_leastLength : zall eX6_leastLength = true := by decide +kernel
set_option maxRecDepth 100000 in
set_option maxHeartbeats 4000000 in
theorem za_X6_tryAll : zall eX6_tryAll = true := by decide +kernel
set_option maxRecDepth 100000 in
set_option maxHeartbeats 4000000 in
theorem za_X6_isFree : zall eX6_isFree = true := by decide +kernel
set_option maxRecDepth 100000 in
set_option maxHeartbeats 4000000 in
theorem za_X6_isHopeless : zall eX6_isHopeless = true := by decide +kernel
set_option maxRecDepth 100000 in
set_option maxHeartbeats 4000000 in
theorem za_X6_howManyWithWay : zall eX6_howManyWithWay = true := by decide +kernel
set_option maxRecDepth 100000 in
set_option maxHeartbeats 4000000 in
theorem za_X7_init : zall eX7_init = true := by decide +kernel
set_option maxRecDepth 100000 in
set_option maxHeartbeats 4000000 in
theorem za_X7_add : zall eX7_add = true := by decide +kernel
set_option maxRecDepth 100000 in
set_option maxHeartbeats 4000000 in
theorem za_X7_cut : zall eX7_cut = true := by decide +kernel
set_option maxRecDepth 100000 in
set_option maxHeartbeats 4000000 in
theorem za_X7_latency : zall eX7_latency = true := by decide +kernel
set_option maxRecDepth 100000 in
set_option maxHeartbeats 4000000 in
theorem za_X7_units : zall eX7_units = true := by decide +kernel
set_option maxRecDepth 100000 in
set_option maxHeartbeats 4000000 in
theorem za_X7_delay : zall eX7_delay = true := by decide +kernel
set_option maxRecDepth 100000 in
set_option maxHeartbeats 4000000 in
theorem za_X7_about : zall eX7_about = true := by decide +kernel
set_option maxRecDepth 100000 in
set_option maxHeartbeats 4000000 in
theorem za_X7_listed : zall eX7_listed = true := by decide +kernel
set_option maxRecDepth 100000 in
set_option maxHeartbeats 4000000 in
theorem za_X7_length : zall eX7_length = true := by decide +kernel
set_option maxRecDepth 100000 in
set_option maxHeartbeats 4000000 in
theorem za_X7_place : zall eX7_place = true := by decide +kernel
set_option maxRecDepth 100000 in
set_option maxHeartbeats 4000000 in
theorem za_X7_check : zall eX7_check = true := by decide +kernel
set_option maxRecDepth 100000 in
set_option maxHeartbeats 4000000 in
theorem za_X7_wrong : zall eX7_wrong = true := by decide +kernel
set_option maxRecDepth 100000 in
set_option maxHeartbeats 4000000 in
theorem za_X7_given : zall eX7_given = true := by decide +kernel
set_option maxRecDepth 100000 in
set_option maxHeartbeats 4000000 in
theorem za_X7_run : zall eX7_run = true := by decide +kernel
set_option maxRecDepth 100000 in
set_option maxHeartbeats 4000000 in
theorem za_X7_value : zall eX7_value = true := by decide +kernel
set_option maxRecDepth 100000 in
set_option maxHeartbeats 4000000 in
theorem za_X7_runByPlan : zall eX7_runByPlan = true := by decide +kernel
set_option maxRecDepth 100000 in
set_option maxHeartbeats 4000000 in
theorem za_X7_shortest : zall eX7_shortest = true := by decide +kernel
set_option maxRecDepth 100000 in
set_option maxHeartbeats 4000000 in
theorem za_X7_refresh : zall eX7_refresh = true := by decide +kernel
set_option maxRecDepth 100000 in
set_option maxHeartbeats 4000000 in
theorem za_X7_isKind : zall eX7_isKind = true := by decide +kernel
set_option maxRecDepth 100000 in
set_option maxHeartbeats 4000000 in
theorem za_X7_isRegister : zall eX7_isRegister = true := by decide +kernel
set_option maxRecDepth 100000 in
set_option maxHeartbeats 4000000 in
theorem za_X7_namesTarget : zall eX7_namesTarget = true := by decide +kernel
set_option maxRecDepth 100000 in
set_option maxHeartbeats 4000000 in
theorem za_X7_namesFirst : zall eX7_namesFirst = true := by decide +kernel
set_option maxRecDepth 100000 in
set_option maxHeartbeats 4000000 in
theorem za_X7_namesSecond : zall eX7_namesSecond = true := by decide +kernel
set_option maxRecDepth 100000 in
set_option maxHeartbeats 4000000 in
theorem za_X7_namesRegistersOnly : zall eX7_namesRegistersOnly = true := by decide +kernel
set_option maxRecDepth 100000 in
set_option maxHeartbeats 4000000 in
theorem za_X8_init : zall eX8_init = true := by decide +kernel
set_option maxRecDepth 100000 in
set_option maxHeartbeats 4000000 in
theorem za_X8_reads : zall eX8_reads = true := by decide +kernel
set_option maxRecDepth 100000 in
set_option maxHeartbeats 4000000 in
theorem za_X8_writes : zall eX8_writes = true := by decide +kernel
set_option maxRecDepth 100000 in
set_option maxHeartbeats 4000000 in
theorem za_X8_isWritten : zall eX8_isWritten = true := by decide +kernel
set_option maxRecDepth 100000 in
set_option maxHeartbeats 4000000 in
theorem za_X8_latencyOf : zall eX8_latencyOf = true := by decide +kernel
set_option maxRecDepth 100000 in
set_option maxHeartbeats 4000000 in
theorem za_X8_mayMeet : zall eX8_mayMeet = true := by decide +kernel
set_option maxRecDepth 100000 in
set_option maxHeartbeats 4000000 in
theorem za_X8_memoryDelay : zall eX8_memoryDelay = true := by decide +kernel
set_option maxRecDepth 100000 in
set_option maxHeartbeats 4000000 in
theorem za_X8_delayOf : zall eX8_delayOf = true := by decide +kernel
set_option maxRecDepth 100000 in
set_option maxHeartbeats 4000000 in
theorem za_X8_delayAt : zall eX8_delayAt = true := by decide +kernel
set_option maxRecDepth 100000 in
set_option maxHeartbeats 4000000 in
theorem za_X8_work : zall eX8_work = true := by decide +kernel
set_option maxRecDepth 100000 in
set_option maxHeartbeats 4000000 in
theorem za_X8_mayBegin : zall eX8_mayBegin = true := by decide +kernel
set_option maxRecDepth 100000 in
set_option maxHeartbeats 4000000 in
theorem za_X8_makeList : zall eX8_makeList = true := by decide +kernel
set_option maxRecDepth 100000 in
set_option maxHeartbeats 4000000 in
theorem za_X8_inCycle : zall eX8_inCycle = true := by decide +kernel
set_option maxRecDepth 100000 in
set_option maxHeartbeats 4000000 in
theorem za_X8_leastCycle : zall eX8_leastCycle = true := by decide +kernel
set_option maxRecDepth 100000 in
set_option maxHeartbeats 4000000 in
theorem za_X8_inOrder : zall eX8_inOrder = true := by decide +kernel
set_option maxRecDepth 100000 in
set_option maxHeartbeats 4000000 in
theorem za_X8_lengthOf : zall eX8_lengthOf = true := by decide +kernel
set_option maxRecDepth 100000 in
set_option maxHeartbeats 4000000 in
theorem za_X8_nextRow : zall eX8_nextRow = true := by decide +kernel
set_option maxRecDepth 100000 in
set_option maxHeartbeats 4000000 in
theorem za_X8_exchange : zall eX8_exchange = true := by decide +kernel
set_option maxRecDepth 100000 in
set_option maxHeartbeats 4000000 in
theorem za_X8_isKept : zall eX8_isKept = true := by decide +kernel
set_option maxRecDepth 100000 in
set_option maxHeartbeats 4000000 in
theorem za_X8_findShortest : zall eX8_findShortest = true := by decide +kernel
set_option maxRecDepth 100000 in
set_option maxHeartbeats 4000000 in
theorem za_X8_isRegister : zall eX8_isRegister = true := by decide +kernel
set_option maxRecDepth 100000 in
set_option maxHeartbeats 4000000 in
theorem za_X8_add : zall eX8_add = true := by decide +kernel
set_option maxRecDepth 100000 in
set_option maxHeartbeats 4000000 in
theorem za_X8_cut : zall eX8_cut = true := by decide +kernel
set_option maxRecDepth 100000 in
set_option maxHeartbeats 4000000 in
theorem za_X8_latency : zall eX8_latency = true := by decide +kernel
set_option maxRecDepth 100000 in
set_option maxHeartbeats 4000000 in
theorem za_X8_units : zall eX8_units = true := by decide +kernel
set_option maxRecDepth 100000 in
set_option maxHeartbeats 4000000 in
theorem za_X8_isThere : zall eX8_isThere = true := by decide +kernel
set_option maxRecDepth 100000 in
set_option maxHeartbeats 4000000 in
theorem za_X8_delay : zall eX8_delay = true := by decide +kernel
set_option maxRecDepth 100000 in
set_option maxHeartbeats 4000000 in
theorem za_X8_greatestWay : zall eX8_greatestWay = true := by decide +kernel
set_option maxRecDepth 100000 in
set_option maxHeartbeats 4000000 in
theorem za_X8_about : zall eX8_about = true := by decide +kernel
set_option maxRecDepth 100000 in
set_option maxHeartbeats 4000000 in
theorem za_X8_listed : zall eX8_listed = true := by decide +kernel
set_option maxRecDepth 100000 in
set_option maxHeartbeats 4000000 in
theorem za_X8_dependences : zall eX8_dependences = true := by decide +kernel
set_option maxRecDepth 100000 in
set_option maxHeartbeats 4000000 in
theorem za_X8_length : zall eX8_length = true := by decide +kernel
set_option maxRecDepth 100000 in
set_option maxHeartbeats 4000000 in
theorem za_X8_place : zall eX8_place = true := by decide +kernel
set_option maxRecDepth 100000 in
set_option maxHeartbeats 4000000 in
theorem za_X8_tell : zall eX8_tell = true := by decide +kernel
set_option maxRecDepth 100000 in
set_option maxHeartbeats 4000000 in
theorem za_X8_look : zall eX8_look = true := by decide +kernel
set_option maxRecDepth 100000 in
set_option maxHeartbeats 4000000 in
theorem za_X8_check : zall eX8_check = true := by decide +kernel
set_option maxRecDepth 100000 in
set_option maxHeartbeats 4000000 in
theorem za_X8_wrong : zall eX8_wrong = true := by decide +kernel
set_option maxRecDepth 100000 in
set_option maxHeartbeats 4000000 in
theorem za_X8_given : zall eX8_given = true := by decide +kernel
set_option maxRecDepth 100000 in
set_option maxHeartbeats 4000000 in
theorem za_X8_begin : zall eX8_begin = true := by decide +kernel
set_option maxRecDepth 100000 in
set_option maxHeartbeats 4000000 in
theorem za_X8_come : zall eX8_come = true := by decide +kernel
set_option maxRecDepth 100000 in
set_option maxHeartbeats 4000000 in
theorem za_X8_runBy : zall eX8_runBy = true := by decide +kernel
set_option maxRecDepth 100000 in
set_option maxHeartbeats 4000000 in
theorem za_X8_run : zall eX8_run = true := by decide +kernel
set_option maxRecDepth 100000 in
set_option maxHeartbeats 4000000 in
theorem za_X8_value : zall eX8_value = true := by decide +kernel
set_option maxRecDepth 100000 in
set_option maxHeartbeats 4000000 in
theorem za_J9_floorMod_7cf53 : zall eJ9_floorMod_7cf53 = true := by decide +kernel
set_option maxRecDepth 100000 in
set_option maxHeartbeats 4000000 in
theorem za_J9_max_7cf53 : zall eJ9_max_7cf53 = true := by decide +kernel
set_option maxRecDepth 100000 in
set_option maxHeartbeats 4000000 in
theorem za_J9_min_7cf53 : zall eJ9_min_7cf53 = true := by decide +kernel
set_option maxRecDepth 100000 in
set_option maxHeartbeats 4000000 in
theorem za_J7_fill_53178 : zall eJ7_fill_53178 = true := by decide +kernel
theorem za_all_0 : ∀ E ∈ zmt_0, zall E = true := List.forall_mem_cons.mpr ⟨za_X0_init, List.forall_mem_cons.mpr ⟨za_X0_holds, List.forall_mem_cons.mpr ⟨za_X0_append, List.forall_mem_cons.mpr ⟨za_X0_latencyOf, List.forall_mem_cons.mpr ⟨za_X0_written, List.forall_mem_cons.mpr ⟨za_X0_read, List.forall_mem_cons.mpr ⟨za_X0_usesMemory, List.forall_mem_cons.mpr ⟨za_X0_lengthOf, List.forall_mem_cons.mpr ⟨za_X1_init, List.forall_mem_cons.mpr ⟨za_X1_find, List.forall_mem_cons.mpr ⟨za_X1_between, List.forall_mem_cons.mpr ⟨za_X1_leastCycle, List.forall_mem_cons.mpr ⟨za_X1_rowOf, List.forall_mem_cons.mpr ⟨za_X1_findDelaysOf, List.forall_mem_cons.mpr ⟨za_X1_registerDelay, List.forall_mem_cons.mpr ⟨za_X1_memoryDelay, List.forall_mem_cons.mpr ⟨za_X1_areApart, List.forall_mem_cons.mpr ⟨za_X1_findWays, List.forall_mem_cons.mpr ⟨za_X2_init, List.forall_mem_cons.mpr ⟨za_X2_make, List.forall_mem_cons.mpr ⟨za_X2_forgetCycles, List.forall_mem_cons.mpr ⟨za_X2_isFree, List.forall_mem_cons.mpr ⟨za_X2_bestFor, List.forall_mem_cons.mpr ⟨za_X2_firstPossibleBehind, List.forall_mem_cons.mpr ⟨za_X2_giveCycle, List.forall_mem_cons.mpr ⟨za_X3_init, List.forall_mem_cons.mpr ⟨za_X3_tell, List.forall_mem_cons.mpr ⟨za_X3_look, List.forall_mem_cons.mpr ⟨za_X3_runAsItStands, List.forall_mem_cons.mpr ⟨za_X3_runByCycles, fun _ h => absurd h List.not_mem_nil⟩⟩⟩⟩⟩⟩⟩⟩⟩⟩⟩⟩⟩⟩⟩⟩⟩⟩⟩⟩⟩⟩⟩⟩⟩⟩⟩⟩⟩⟩
theorem za_all_1 : ∀ E ∈ zmt_1, zall E = true := List.forall_mem_cons.mpr ⟨za_X3_isPlace, List.forall_mem_cons.mpr ⟨za_X3_startAnew, List.forall_mem_cons.mpr ⟨za_X3_nextMoment, List.forall_mem_cons.mpr ⟨za_X3_comeIn, List.forall_mem_cons.mpr ⟨za_X3_beginIn, List.forall_mem_cons.mpr ⟨za_X3_begin, List.forall_mem_cons.mpr ⟨za_X3_come, List.forall_mem_cons.mpr ⟨za_X4_init, List.forall_mem_cons.mpr ⟨za_X4_make, List.forall_mem_cons.mpr ⟨za_X5_init, List.forall_mem_cons.mpr ⟨za_X5_forgetFrom, List.forall_mem_cons.mpr ⟨za_X5_inspect, List.forall_mem_cons.mpr ⟨za_X5_findWithoutCycle, List.forall_mem_cons.mpr ⟨za_X5_findDelayNotKept, List.forall_mem_cons.mpr ⟨za_X5_findTooMany, List.forall_mem_cons.mpr ⟨za_X5_howManyIn, List.forall_mem_cons.mpr ⟨za_X6_init, List.forall_mem_cons.mpr ⟨za_X6_leastLength, List.forall_mem_cons.mpr ⟨za_X6_tryAll, List.forall_mem_cons.mpr ⟨za_X6_isFree, List.forall_mem_cons.mpr ⟨za_X6_isHopeless, List.forall_mem_cons.mpr ⟨za_X6_howManyWithWay, List.forall_mem_cons.mpr ⟨za_X7_init, List.forall_mem_cons.mpr ⟨za_X7_add, List.forall_mem_cons.mpr ⟨za_X7_cut, List.forall_mem_cons.mpr ⟨za_X7_latency, List.forall_mem_cons.mpr ⟨za_X7_units, List.forall_mem_cons.mpr ⟨za_X7_delay, List.forall_mem_cons.mpr ⟨za_X7_about, List.forall_mem_cons.mpr ⟨za_X7_listed, fun _ h => absurd h List.not_mem_nil⟩⟩⟩⟩⟩⟩⟩⟩⟩⟩⟩⟩⟩⟩⟩⟩⟩⟩⟩⟩⟩⟩⟩⟩⟩⟩⟩⟩⟩⟩
theorem za_all_2 : ∀ E ∈ zmt_2, zall E = true := List.forall_mem_cons.mpr ⟨za_X7_length, List.forall_mem_cons.mpr ⟨za_X7_place, List.forall_mem_cons.mpr ⟨za_X7_check, List.forall_mem_cons.mpr ⟨za_X7_wrong, List.forall_mem_cons.mpr ⟨za_X7_given, List.forall_mem_cons.mpr ⟨za_X7_run, List.forall_mem_cons.mpr ⟨za_X7_value, List.forall_mem_cons.mpr ⟨za_X7_runByPlan, List.forall_mem_cons.mpr ⟨za_X7_shortest, List.forall_mem_cons.mpr ⟨za_X7_refresh, List.forall_mem_cons.mpr ⟨za_X7_isKind, List.forall_mem_cons.mpr ⟨za_X7_isRegister, List.forall_mem_cons.mpr ⟨za_X7_namesTarget, List.forall_mem_cons.mpr ⟨za_X7_namesFirst, List.forall_mem_cons.mpr ⟨za_X7_namesSecond, List.forall_mem_cons.mpr ⟨za_X7_namesRegistersOnly, List.forall_mem_cons.mpr ⟨za_X8_init, List.forall_mem_cons.mpr ⟨za_X8_reads, List.forall_mem_cons.mpr ⟨za_X8_writes, List.forall_mem_cons.mpr ⟨za_X8_isWritten, List.forall_mem_cons.mpr ⟨za_X8_latencyOf, List.forall_mem_cons.mpr ⟨za_X8_mayMeet, List.forall_mem_cons.mpr ⟨za_X8_memoryDelay, List.forall_mem_cons.mpr ⟨za_X8_delayOf, List.forall_mem_cons.mpr ⟨za_X8_delayAt, List.forall_mem_cons.mpr ⟨za_X8_work, List.forall_mem_cons.mpr ⟨za_X8_mayBegin, List.forall_mem_cons.mpr ⟨za_X8_makeList, List.forall_mem_cons.mpr ⟨za_X8_inCycle, List.forall_mem_cons.mpr ⟨za_X8_leastCycle, fun _ h => absurd h List.not_mem_nil⟩⟩⟩⟩⟩⟩⟩⟩⟩⟩⟩⟩⟩⟩⟩⟩⟩⟩⟩⟩⟩⟩⟩⟩⟩⟩⟩⟩⟩⟩
theorem za_all_3 : ∀ E ∈ zmt_3, zall E = true := List.forall_mem_cons.mpr ⟨za_X8_inOrder, List.forall_mem_cons.mpr ⟨za_X8_lengthOf, List.forall_mem_cons.mpr ⟨za_X8_nextRow, List.forall_mem_cons.mpr ⟨za_X8_exchange, List.forall_mem_cons.mpr ⟨za_X8_isKept, List.forall_mem_cons.mpr ⟨za_X8_findShortest, List.forall_mem_cons.mpr ⟨za_X8_isRegister, List.forall_mem_cons.mpr ⟨za_X8_add, List.forall_mem_cons.mpr ⟨za_X8_cut, List.forall_mem_cons.mpr ⟨za_X8_latency, List.forall_mem_cons.mpr ⟨za_X8_units, List.forall_mem_cons.mpr ⟨za_X8_isThere, List.forall_mem_cons.mpr ⟨za_X8_delay, List.forall_mem_cons.mpr ⟨za_X8_greatestWay, List.forall_mem_cons.mpr ⟨za_X8_about, List.forall_mem_cons.mpr ⟨za_X8_listed, List.forall_mem_cons.mpr ⟨za_X8_dependences, List.forall_mem_cons.mpr ⟨za_X8_length, List.forall_mem_cons.mpr ⟨za_X8_place, List.forall_mem_cons.mpr ⟨za_X8_tell, List.forall_mem_cons.mpr ⟨za_X8_look, List.forall_mem_cons.mpr ⟨za_X8_check, List.forall_mem_cons.mpr ⟨za_X8_wrong, List.forall_mem_cons.mpr ⟨za_X8_given, List.forall_mem_cons.mpr ⟨za_X8_begin, List.forall_mem_cons.mpr ⟨za_X8_come, List.forall_mem_cons.mpr ⟨za_X8_runBy, List.forall_mem_cons.mpr ⟨za_X8_run, List.forall_mem_cons.mpr ⟨za_X8_value, List.forall_mem_cons.mpr ⟨za_J9_floorMod_7cf53, fun _ h => absurd h List.not_mem_nil⟩⟩⟩⟩⟩⟩⟩⟩⟩⟩⟩⟩⟩⟩⟩⟩⟩⟩⟩⟩⟩⟩⟩⟩⟩⟩⟩⟩⟩⟩
theorem za_all_4 : ∀ E ∈ zmt_4, zall E = true := List.forall_mem_cons.mpr ⟨za_J9_max_7cf53, List.forall_mem_cons.mpr ⟨za_J9_min_7cf53, List.forall_mem_cons.mpr ⟨za_J7_fill_53178, fun _ h => absurd h List.not_mem_nil⟩⟩⟩
theorem za_all : ∀ E ∈ zmt, zall E = true := List.forall_mem_append.mpr ⟨List.forall_mem_append.mpr ⟨List.forall_mem_append.mpr ⟨List.forall_mem_append.mpr ⟨za_all_0, za_all_1⟩, za_all_2⟩, za_all_3⟩, za_all_4⟩
set_option maxRecDepth 100000 in
set_option maxHeartbeats 4000000 in
theorem za_law : zall eL_law = true := by decide +kernel
set_option maxRecDepth 100000 in
set_option maxHeartbeats 4000000 in
theorem zm_all : (zmt.zip zmp).all (fun q => zmok q.1 q.2) = true := by decide +kernel
set_option maxRecDepth 100000 in
set_option maxHeartbeats 4000000 in
theorem zm_len : zmt.length = zmp.length := by decide +kernel
set_option maxRecDepth 100000 in
set_option maxHeartbeats 4000000 in
theorem zcodes : zmt.map (fun E => some (Cond.code E.1 E.2.1 E.2.2.1 E.2.2.2.1)) = zmp.map (fun p => lw_tbl[p.1]?) := rfl
set_option maxRecDepth 100000 in
set_option maxHeartbeats 4000000 in
theorem zu_X0 : (u_ws RX0 TX0 8).all (fun w => decide (w ∈ lw_tbl) && goodWord w) = true := by decide +kernel
set_option maxRecDepth 100000 in
set_option maxHeartbeats 4000000 in
theorem zu_X1 : (u_ws RX1 TX1 6).all (fun w => decide (w ∈ lw_tbl) && goodWord w) = true := by decide +kernel
set_option maxRecDepth 100000 in
set_option maxHeartbeats 4000000 in
theorem zu_X2 : (u_ws RX2 TX2 6).all (fun w => decide (w ∈ lw_tbl) && goodWord w) = true := by decide +kernel
set_option maxRecDepth 100000 in
set_option maxHeartbeats 4000000 in
theorem zu_X3 : (u_ws RX3 TX3 7).all (fun w => decide (w ∈ lw_tbl) && goodWord w) = true := by decide +kernel
set_option maxRecDepth 100000 in
set_option maxHeartbeats 4000000 in
theorem zu_X4 : (u_ws RX4 TX4 3).all (fun w => decide (w ∈ lw_tbl) && goodWord w) = true := by decide +kernel
set_option maxRecDepth 100000 in
set_option maxHeartbeats 4000000 in
theorem zu_X5 : (u_ws RX5 TX5 5).all (fun w => decide (w ∈ lw_tbl) && goodWord w) = true := by decide +kernel
set_option maxRecDepth 100000 in
set_option maxHeartbeats 4000000 in
theorem zu_X6 : (u_ws RX6 TX6 4).all (fun w => decide (w ∈ lw_tbl) && goodWord w) = true := by decide +kernel
set_option maxRecDepth 100000 in
set_option maxHeartbeats 4000000 in
theorem zu_X7 : (u_ws RX7 TX7 14).all (fun w => decide (w ∈ lw_tbl) && goodWord w) = true := by decide +kernel
set_option maxRecDepth 100000 in
set_option maxHeartbeats 4000000 in
theorem zu_X8 : (u_ws RX8 TX8 28).all (fun w => decide (w ∈ lw_tbl) && goodWord w) = true := by decide +kernel
set_option maxRecDepth 100000 in
set_option maxHeartbeats 4000000 in
theorem zci_ok : (vwCl.zip zci).all (fun q => zin q.2.1 (.instantiable q.1.1 q.1.2.2) && zin q.2.2 (.initialized q.1.1)) = true := by decide +kernel
set_option maxRecDepth 100000 in
set_option maxHeartbeats 4000000 in
theorem zn_ok : (znest.zip znestp).all (fun q => decide (lw_tbl[q.2]? = some (.methodLinkNest q.1.1 q.1.2.1 q.1.2.2.1 q.1.2.2.2))) = true := by decide +kernel
set_option maxRecDepth 100000 in
set_option maxHeartbeats 4000000 in
theorem zx_ok : (zin zarr (.arrayClass .int) && zin zobj.1 (.instanceMethod objectInit) && zin zacp.1 (.native arraycopyName) && zin zacp.2.1 (.static arraycopyName) && zin zacp.2.2 (.initialized "java/lang/System")) = true := by decide +kernel
set_option maxRecDepth 100000 in
set_option maxHeartbeats 4000000 in
theorem zobj_ok : lw_tbl[zobj.2]? = some (.code objectInit ⟨#[0xb1]⟩ 1 none) := rfl
theorem zu_all : ∀ (c : Nat) (q : vw_C), vwCl[c]? = some q → ∀ w ∈ u_ws q.1 q.2.1 q.2.2, w ∈ zT := by
  intro c q h w hw
  have key : ∀ {C : String} {T : u_T} {N : Nat}, (u_ws C T N).all (fun w => decide (w ∈ lw_tbl) && goodWord w) = true → ∀ w ∈ u_ws C T N, w ∈ zT := by
    intro C T N h w hw
    have h1 := List.all_eq_true.mp h w hw
    simp only [Bool.and_eq_true, decide_eq_true_eq] at h1
    exact List.mem_filter.mpr h1
  match c, h with
  | 0, h => cases h; exact key zu_X0 w hw
  | 1, h => cases h; exact key zu_X1 w hw
  | 2, h => cases h; exact key zu_X2 w hw
  | 3, h => cases h; exact key zu_X3 w hw
  | 4, h => cases h; exact key zu_X4 w hw
  | 5, h => cases h; exact key zu_X5 w hw
  | 6, h => cases h; exact key zu_X6 w hw
  | 7, h => cases h; exact key zu_X7 w hw
  | 8, h => cases h; exact key zu_X8 w hw
  | _ + 9, h => simp at h
theorem zty_all : ∀ (c : Nat) (q : vw_C), vwCl[c]? = some q → ∀ k, k < q.2.2 → parseFieldDescriptor (q.2.1 k).2.2.1 = some (ztyp c k) := by
  intro c q h
  match c, h with
  | 0, h => cases h; exact tyX0_ok
  | 1, h => cases h; exact tyX1_ok
  | 2, h => cases h; exact tyX2_ok
  | 3, h => cases h; exact tyX3_ok
  | 4, h => cases h; exact tyX4_ok
  | 5, h => cases h; exact tyX5_ok
  | 6, h => cases h; exact tyX6_ok
  | 7, h => cases h; exact tyX7_ok
  | 8, h => cases h; exact tyX8_ok
  | _ + 9, h => simp at h
theorem znm_all : ∀ (c : Nat) (q : vw_C), vwCl[c]? = some q → ∀ a, a < q.2.2 → ∀ b, b < q.2.2 → a ≠ b → (q.2.1 a).2.1 ≠ (q.2.1 b).2.1 := by
  intro c q h
  match c, h with
  | 0, h => cases h; exact nmX0
  | 1, h => cases h; exact nmX1
  | 2, h => cases h; exact nmX2
  | 3, h => cases h; exact nmX3
  | 4, h => cases h; exact nmX4
  | 5, h => cases h; exact nmX5
  | 6, h => cases h; exact nmX6
  | 7, h => cases h; exact nmX7
  | 8, h => cases h; exact nmX8
  | _ + 9, h => simp at h
set_option maxRecDepth 100000 in
set_option maxHeartbeats 4000000 in
theorem zdf_ok : (List.range vwCl.length).all (fun c => decide ((zdef c).length = (vwCl.getD c ("", fun _ => ("", "", "", false), 0)).2.2) && (List.range (zdef c).length).all (fun j => decide (defaultValue (ztyp c j) = if (zdef c).getD j false then Value.null else Value.int 0))) = true := by decide +kernel
