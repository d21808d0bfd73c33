/-! new cells: what the tables say (printed by wip/gen/ctor.py) -/
set_option maxRecDepth 100000 in
theorem nw_L_7 : ∃ q, am_cS 6 q ∧ q.2.2 = 9 ∧ Cond.classLink RL 7 q.1 ∈ am_T ∧ Cond.instantiable q.1 9 ∈ am_T ∧ Cond.initialized q.1 ∈ am_T := ⟨(RX6, TX6, 9), cs_X6, rfl, am_in (List.mem_of_getElem? (i := 61) rfl) rfl, am_in (List.mem_of_getElem? (i := 62) rfl) rfl, am_in (List.mem_of_getElem? (i := 52) rfl) rfl⟩
set_option maxRecDepth 100000 in
theorem nw_L_10 : ∃ q, am_cS 7 q ∧ q.2.2 = 36 ∧ Cond.classLink RL 10 q.1 ∈ am_T ∧ Cond.instantiable q.1 36 ∈ am_T ∧ Cond.initialized q.1 ∈ am_T := ⟨(RX7, TX7, 36), cs_X7, rfl, am_in (List.mem_of_getElem? (i := 690) rfl) rfl, am_in (List.mem_of_getElem? (i := 691) rfl) rfl, am_in (List.mem_of_getElem? (i := 59) rfl) rfl⟩
set_option maxRecDepth 100000 in
theorem nw_X6_7 : ∃ q, am_cS 0 q ∧ q.2.2 = 3 ∧ Cond.classLink RX6 7 q.1 ∈ am_T ∧ Cond.instantiable q.1 3 ∈ am_T ∧ Cond.initialized q.1 ∈ am_T := ⟨(RX0, TX0, 3), cs_X0, rfl, am_in (List.mem_of_getElem? (i := 69) rfl) rfl, am_in (List.mem_of_getElem? (i := 70) rfl) rfl, am_in (List.mem_of_getElem? (i := 53) rfl) rfl⟩
set_option maxRecDepth 100000 in
theorem nw_X6_16 : ∃ q, am_cS 5 q ∧ q.2.2 = 8 ∧ Cond.classLink RX6 16 q.1 ∈ am_T ∧ Cond.instantiable q.1 8 ∈ am_T ∧ Cond.initialized q.1 ∈ am_T := ⟨(RX5, TX5, 8), cs_X5, rfl, am_in (List.mem_of_getElem? (i := 88) rfl) rfl, am_in (List.mem_of_getElem? (i := 89) rfl) rfl, am_in (List.mem_of_getElem? (i := 54) rfl) rfl⟩
set_option maxRecDepth 100000 in
theorem nw_X6_29 : ∃ q, am_cS 4 q ∧ q.2.2 = 9 ∧ Cond.classLink RX6 29 q.1 ∈ am_T ∧ Cond.instantiable q.1 9 ∈ am_T ∧ Cond.initialized q.1 ∈ am_T := ⟨(RX4, TX4, 9), cs_X4, rfl, am_in (List.mem_of_getElem? (i := 212) rfl) rfl, am_in (List.mem_of_getElem? (i := 213) rfl) rfl, am_in (List.mem_of_getElem? (i := 57) rfl) rfl⟩
set_option maxRecDepth 100000 in
theorem nw_X6_36 : ∃ q, am_cS 3 q ∧ q.2.2 = 10 ∧ Cond.classLink RX6 36 q.1 ∈ am_T ∧ Cond.instantiable q.1 10 ∈ am_T ∧ Cond.initialized q.1 ∈ am_T := ⟨(RX3, TX3, 10), cs_X3, rfl, am_in (List.mem_of_getElem? (i := 246) rfl) rfl, am_in (List.mem_of_getElem? (i := 247) rfl) rfl, am_in (List.mem_of_getElem? (i := 58) rfl) rfl⟩
set_option maxRecDepth 100000 in
theorem nw_X5_31 : ∃ q, am_cS 2 q ∧ q.2.2 = 6 ∧ Cond.classLink RX5 31 q.1 ∈ am_T ∧ Cond.instantiable q.1 6 ∈ am_T ∧ Cond.initialized q.1 ∈ am_T := ⟨(RX2, TX2, 6), cs_X2, rfl, am_in (List.mem_of_getElem? (i := 94) rfl) rfl, am_in (List.mem_of_getElem? (i := 98) rfl) rfl, am_in (List.mem_of_getElem? (i := 55) rfl) rfl⟩
set_option maxRecDepth 100000 in
theorem nw_X5_37 : ∃ q, am_cS 1 q ∧ q.2.2 = 6 ∧ Cond.classLink RX5 37 q.1 ∈ am_T ∧ Cond.instantiable q.1 6 ∈ am_T ∧ Cond.initialized q.1 ∈ am_T := ⟨(RX1, TX1, 6), cs_X1, rfl, am_in (List.mem_of_getElem? (i := 96) rfl) rfl, am_in (List.mem_of_getElem? (i := 133) rfl) rfl, am_in (List.mem_of_getElem? (i := 56) rfl) rfl⟩
set_option maxRecDepth 100000 in
theorem kl_X5_31 : Cond.classLink RX5 31 RX2 ∈ am_T := am_in (List.mem_of_getElem? (i := 94) rfl) rfl
set_option maxRecDepth 100000 in
theorem ov_X2 : Cond.arrayOver (.object RX2) ∈ lw_tbl := List.mem_of_getElem? (i := 95) rfl
set_option maxRecDepth 100000 in
theorem kl_X5_37 : Cond.classLink RX5 37 RX1 ∈ am_T := am_in (List.mem_of_getElem? (i := 96) rfl) rfl
set_option maxRecDepth 100000 in
theorem ov_X1 : Cond.arrayOver (.object RX1) ∈ lw_tbl := List.mem_of_getElem? (i := 97) rfl
set_option maxRecDepth 100000 in
theorem ac_int : Cond.arrayClass .int ∈ am_T := am_in (List.mem_of_getElem? (i := 87) rfl) rfl
