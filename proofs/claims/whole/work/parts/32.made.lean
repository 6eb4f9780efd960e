theorem fl_RX5_21 : zFL "WhisperPress$Law" 21 5 3 := ⟨_, rfl, by decide, uw_5, zT_mem 190 (by decide +kernel) rfl⟩
theorem fl_RX5_24 : zFL "WhisperPress$Law" 24 5 4 := ⟨_, rfl, by decide, uw_5, zT_mem 193 (by decide +kernel) rfl⟩
theorem fl_RX5_27 : zFL "WhisperPress$Law" 27 5 5 := ⟨_, rfl, by decide, uw_5, zT_mem 196 (by decide +kernel) rfl⟩
theorem cw_X5_init : zCw yX5_init cX5_init 1 none 0 := ⟨zT_mem 80 (by decide +kernel) rfl, zT_mem 181 (by decide +kernel) rfl, by decide +kernel, by decide +kernel, by decide +kernel, by decide⟩
theorem cw_X9_init : zCw yX9_init cX9_init 1 none 0 := ⟨zT_mem 77 (by decide +kernel) rfl, zT_mem 104 (by decide +kernel) rfl, by decide +kernel, by decide +kernel, by decide +kernel, by decide⟩
theorem cw_X8_init : zCw yX8_init cX8_init 1 none 0 := ⟨zT_mem 78 (by decide +kernel) rfl, zT_mem 129 (by decide +kernel) rfl, by decide +kernel, by decide +kernel, by decide +kernel, by decide⟩
theorem cw_X6_init : zCw yX6_init cX6_init 1 none 0 := ⟨zT_mem 79 (by decide +kernel) rfl, zT_mem 175 (by decide +kernel) rfl, by decide +kernel, by decide +kernel, by decide +kernel, by decide⟩
theorem cw_X10_init : zCw yX10_init cX10_init 1 none 0 := ⟨zT_mem 81 (by decide +kernel) rfl, zT_mem 234 (by decide +kernel) rfl, by decide +kernel, by decide +kernel, by decide +kernel, by decide⟩
theorem cw_X4_init : zCw yX4_init cX4_init 1 none 0 := ⟨zT_mem 82 (by decide +kernel) rfl, zT_mem 251 (by decide +kernel) rfl, by decide +kernel, by decide +kernel, by decide +kernel, by decide⟩
theorem cw_X1_init : zCw yX1_init cX1_init 1 none 0 := ⟨zT_mem 83 (by decide +kernel) rfl, zT_mem 271 (by decide +kernel) rfl, by decide +kernel, by decide +kernel, by decide +kernel, by decide⟩
theorem cw_X7_init : zCw yX7_init cX7_init 1 none 0 := ⟨zT_mem 84 (by decide +kernel) rfl, zT_mem 291 (by decide +kernel) rfl, by decide +kernel, by decide +kernel, by decide +kernel, by decide⟩
theorem cw_X2_init : zCw yX2_init cX2_init 1 none 0 := ⟨zT_mem 85 (by decide +kernel) rfl, zT_mem 310 (by decide +kernel) rfl, by decide +kernel, by decide +kernel, by decide +kernel, by decide⟩
theorem cw_X0_init : zCw yX0_init cX0_init 1 none 0 := ⟨zT_mem 86 (by decide +kernel) rfl, zT_mem 331 (by decide +kernel) rfl, by decide +kernel, by decide +kernel, by decide +kernel, by decide⟩
theorem cw_X3_init : zCw yX3_init cX3_init 1 none 0 := ⟨zT_mem 87 (by decide +kernel) rfl, zT_mem 342 (by decide +kernel) rfl, by decide +kernel, by decide +kernel, by decide +kernel, by decide⟩
theorem wd_arrI : Cond.arrayClass .int ∈ zT := zT_mem 124 (by decide +kernel) rfl
theorem wd_arrB : Cond.arrayClass .byte ∈ zT := zT_mem 1127 (by decide +kernel) rfl
theorem oi_9 : Cond.methodLink "WhisperPress$Tape" 3 objectInit ∈ zT ∧ Cond.instanceMethod objectInit ∈ zT ∧ Cond.code objectInit ⟨#[0xb1]⟩ 1 none ∈ zT := ⟨zT_mem 105 (by decide +kernel) rfl, zT_mem 98 (by decide +kernel) rfl, zT_mem 99 (by decide +kernel) rfl⟩
theorem ff_9_0 : zFF 9 0 (.array .int) true := ⟨_, rfl, rfl, rfl, by decide +kernel, ⟨tyX9, tyX9_ok⟩, nmX9⟩
theorem oi_8 : Cond.methodLink "WhisperPress$State" 3 objectInit ∈ zT ∧ Cond.instanceMethod objectInit ∈ zT ∧ Cond.code objectInit ⟨#[0xb1]⟩ 1 none ∈ zT := ⟨zT_mem 130 (by decide +kernel) rfl, zT_mem 98 (by decide +kernel) rfl, zT_mem 99 (by decide +kernel) rfl⟩
theorem ff_8_0 : zFF 8 0 (.array .int) true := ⟨_, rfl, rfl, rfl, by decide +kernel, ⟨tyX8, tyX8_ok⟩, nmX8⟩
theorem ff_8_1 : zFF 8 1 (.array .int) true := ⟨_, rfl, rfl, rfl, by decide +kernel, ⟨tyX8, tyX8_ok⟩, nmX8⟩
theorem ff_8_2 : zFF 8 2 (.array .int) true := ⟨_, rfl, rfl, rfl, by decide +kernel, ⟨tyX8, tyX8_ok⟩, nmX8⟩
theorem ff_8_3 : zFF 8 3 (.array .int) true := ⟨_, rfl, rfl, rfl, by decide +kernel, ⟨tyX8, tyX8_ok⟩, nmX8⟩
theorem ff_8_7 : zFF 8 7 .int false := ⟨_, rfl, rfl, rfl, by decide +kernel, ⟨tyX8, tyX8_ok⟩, nmX8⟩
theorem oi_5 : Cond.methodLink "WhisperPress$Law" 3 objectInit ∈ zT ∧ Cond.instanceMethod objectInit ∈ zT ∧ Cond.code objectInit ⟨#[0xb1]⟩ 1 none ∈ zT := ⟨zT_mem 182 (by decide +kernel) rfl, zT_mem 98 (by decide +kernel) rfl, zT_mem 99 (by decide +kernel) rfl⟩
theorem ff_5_0 : zFF 5 0 (.array .int) true := ⟨_, rfl, rfl, rfl, by decide +kernel, ⟨tyX5, tyX5_ok⟩, nmX5⟩
theorem ff_5_1 : zFF 5 1 (.array .int) true := ⟨_, rfl, rfl, rfl, by decide +kernel, ⟨tyX5, tyX5_ok⟩, nmX5⟩
theorem ff_5_2 : zFF 5 2 (.array .int) true := ⟨_, rfl, rfl, rfl, by decide +kernel, ⟨tyX5, tyX5_ok⟩, nmX5⟩
theorem ff_5_3 : zFF 5 3 (.array .int) true := ⟨_, rfl, rfl, rfl, by decide +kernel, ⟨tyX5, tyX5_ok⟩, nmX5⟩
theorem ff_5_4 : zFF 5 4 (.array .int) true := ⟨_, rfl, rfl, rfl, by decide +kernel, ⟨tyX5, tyX5_ok⟩, nmX5⟩
theorem ff_5_5 : zFF 5 5 (.array .int) true := ⟨_, rfl, rfl, rfl, by decide +kernel, ⟨tyX5, tyX5_ok⟩, nmX5⟩
theorem oi_6 : Cond.methodLink "WhisperPress$LawBook" 3 objectInit ∈ zT ∧ Cond.instanceMethod objectInit ∈ zT ∧ Cond.code objectInit ⟨#[0xb1]⟩ 1 none ∈ zT := ⟨zT_mem 176 (by decide +kernel) rfl, zT_mem 98 (by decide +kernel) rfl, zT_mem 99 (by decide +kernel) rfl⟩
theorem hq_6_5 {nl sl : Nat} (h : nl + 8 + 544 ≤ sl) : ∃ q : vw_C, zClasses[5]? = some q ∧ q.1 = yX5_init.cls ∧ (∀ w ∈ u_ws q.1 q.2.1 q.2.2, w ∈ zT) ∧ (∃ ty0 : Nat → FieldType, (∀ k, k < q.2.2 → parseFieldDescriptor (q.2.1 k).2.2.1 = some (ty0 k)) ∧ ∀ j, j < q.2.2 → defaultValue (ty0 j) = vp_V [.null, .null, .null, .null, .null, .null, .int 0, .int 0] j) ∧ Cond.classLink "WhisperPress$LawBook" 9 yX5_init.cls ∈ zT ∧ Cond.instantiable yX5_init.cls q.2.2 ∈ zT ∧ nl + q.2.2 + 544 ≤ sl ∧ q.2.2 = ([.null, .null, .null, .null, .null, .null, .int 0, .int 0] : List Value).length := ⟨_, rfl, rfl, uw_5, ⟨tyX5, tyX5_ok, by decide +kernel⟩, zT_mem 177 (by decide +kernel) rfl, zT_mem 178 (by decide +kernel) rfl, h, rfl⟩
theorem ci_6_11 : ("WhisperPress$LawBook", 11, yX5_init, "WhisperPress") ∈ zNL ∧ Cond.instanceMethod yX5_init ∈ zT := ⟨by decide +kernel, zT_mem 180 (by decide +kernel) rfl⟩
theorem ff_6_0 : zFF 6 0 (.object "WhisperPress$Law") false := ⟨_, rfl, rfl, rfl, by decide +kernel, ⟨tyX6, tyX6_ok⟩, nmX6⟩
theorem hq_6_16 {nl sl : Nat} (h : nl + 8 + 544 ≤ sl) : ∃ q : vw_C, zClasses[5]? = some q ∧ q.1 = yX5_init.cls ∧ (∀ w ∈ u_ws q.1 q.2.1 q.2.2, w ∈ zT) ∧ (∃ ty0 : Nat → FieldType, (∀ k, k < q.2.2 → parseFieldDescriptor (q.2.1 k).2.2.1 = some (ty0 k)) ∧ ∀ j, j < q.2.2 → defaultValue (ty0 j) = vp_V [.null, .null, .null, .null, .null, .null, .int 0, .int 0] j) ∧ Cond.classLink "WhisperPress$LawBook" 9 yX5_init.cls ∈ zT ∧ Cond.instantiable yX5_init.cls q.2.2 ∈ zT ∧ nl + q.2.2 + 544 ≤ sl ∧ q.2.2 = ([.null, .null, .null, .null, .null, .null, .int 0, .int 0] : List Value).length := ⟨_, rfl, rfl, uw_5, ⟨tyX5, tyX5_ok, by decide +kernel⟩, zT_mem 177 (by decide +kernel) rfl, zT_mem 178 (by decide +kernel) rfl, h, rfl⟩
theorem ff_6_1 : zFF 6 1 (.object "WhisperPress$Law") false := ⟨_, rfl, rfl, rfl, by decide +kernel, ⟨tyX6, tyX6_ok⟩, nmX6⟩
theorem oi_10 : Cond.methodLink "WhisperPress$Week" 3 objectInit ∈ zT ∧ Cond.instanceMethod objectInit ∈ zT ∧ Cond.code objectInit ⟨#[0xb1]⟩ 1 none ∈ zT := ⟨zT_mem 235 (by decide +kernel) rfl, zT_mem 98 (by decide +kernel) rfl, zT_mem 99 (by decide +kernel) rfl⟩
theorem ff_10_0 : zFF 10 0 (.array .int) true := ⟨_, rfl, rfl, rfl, by decide +kernel, ⟨tyX10, tyX10_ok⟩, nmX10⟩
theorem ff_10_1 : zFF 10 1 (.array .int) true := ⟨_, rfl, rfl, rfl, by decide +kernel, ⟨tyX10, tyX10_ok⟩, nmX10⟩
theorem oi_4 : Cond.methodLink "WhisperPress$GossipSheet" 3 objectInit ∈ zT ∧ Cond.instanceMethod objectInit ∈ zT ∧ Cond.code objectInit ⟨#[0xb1]⟩ 1 none ∈ zT := ⟨zT_mem 252 (by decide +kernel) rfl, zT_mem 98 (by decide +kernel) rfl, zT_mem 99 (by decide +kernel) rfl⟩
theorem ff_4_0 : zFF 4 0 (.array .int) true := ⟨_, rfl, rfl, rfl, by decide +kernel, ⟨tyX4, tyX4_ok⟩, nmX4⟩
theorem ff_4_1 : zFF 4 1 (.array .int) true := ⟨_, rfl, rfl, rfl, by decide +kernel, ⟨tyX4, tyX4_ok⟩, nmX4⟩
theorem ff_4_2 : zFF 4 2 (.array .int) true := ⟨_, rfl, rfl, rfl, by decide +kernel, ⟨tyX4, tyX4_ok⟩, nmX4⟩
theorem oi_1 : Cond.methodLink "WhisperPress$CopySheet" 3 objectInit ∈ zT ∧ Cond.instanceMethod objectInit ∈ zT ∧ Cond.code objectInit ⟨#[0xb1]⟩ 1 none ∈ zT := ⟨zT_mem 272 (by decide +kernel) rfl, zT_mem 98 (by decide +kernel) rfl, zT_mem 99 (by decide +kernel) rfl⟩
theorem ff_1_0 : zFF 1 0 (.array .int) true := ⟨_, rfl, rfl, rfl, by decide +kernel, ⟨tyX1, tyX1_ok⟩, nmX1⟩
theorem ff_1_1 : zFF 1 1 (.array .int) true := ⟨_, rfl, rfl, rfl, by decide +kernel, ⟨tyX1, tyX1_ok⟩, nmX1⟩
theorem oi_7 : Cond.methodLink "WhisperPress$Setting" 3 objectInit ∈ zT ∧ Cond.instanceMethod objectInit ∈ zT ∧ Cond.code objectInit ⟨#[0xb1]⟩ 1 none ∈ zT := ⟨zT_mem 292 (by decide +kernel) rfl, zT_mem 98 (by decide +kernel) rfl, zT_mem 99 (by decide +kernel) rfl⟩
theorem ff_7_0 : zFF 7 0 (.array .int) true := ⟨_, rfl, rfl, rfl, by decide +kernel, ⟨tyX7, tyX7_ok⟩, nmX7⟩
theorem ff_7_1 : zFF 7 1 (.array .int) true := ⟨_, rfl, rfl, rfl, by decide +kernel, ⟨tyX7, tyX7_ok⟩, nmX7⟩
theorem ff_7_2 : zFF 7 2 (.array .int) true := ⟨_, rfl, rfl, rfl, by decide +kernel, ⟨tyX7, tyX7_ok⟩, nmX7⟩
theorem oi_2 : Cond.methodLink "WhisperPress$Cover" 3 objectInit ∈ zT ∧ Cond.instanceMethod objectInit ∈ zT ∧ Cond.code objectInit ⟨#[0xb1]⟩ 1 none ∈ zT := ⟨zT_mem 311 (by decide +kernel) rfl, zT_mem 98 (by decide +kernel) rfl, zT_mem 99 (by decide +kernel) rfl⟩
theorem ff_2_0 : zFF 2 0 (.array .int) true := ⟨_, rfl, rfl, rfl, by decide +kernel, ⟨tyX2, tyX2_ok⟩, nmX2⟩
theorem ff_2_1 : zFF 2 1 (.array .int) true := ⟨_, rfl, rfl, rfl, by decide +kernel, ⟨tyX2, tyX2_ok⟩, nmX2⟩
theorem ff_2_2 : zFF 2 2 (.array .int) true := ⟨_, rfl, rfl, rfl, by decide +kernel, ⟨tyX2, tyX2_ok⟩, nmX2⟩
theorem oi_0 : Cond.methodLink "WhisperPress$Archive" 3 objectInit ∈ zT ∧ Cond.instanceMethod objectInit ∈ zT ∧ Cond.code objectInit ⟨#[0xb1]⟩ 1 none ∈ zT := ⟨zT_mem 332 (by decide +kernel) rfl, zT_mem 98 (by decide +kernel) rfl, zT_mem 99 (by decide +kernel) rfl⟩
theorem ff_0_0 : zFF 0 0 (.array .int) true := ⟨_, rfl, rfl, rfl, by decide +kernel, ⟨tyX0, tyX0_ok⟩, nmX0⟩
theorem oi_3 : Cond.methodLink "WhisperPress$Desk" 3 objectInit ∈ zT ∧ Cond.instanceMethod objectInit ∈ zT ∧ Cond.code objectInit ⟨#[0xb1]⟩ 1 none ∈ zT := ⟨zT_mem 343 (by decide +kernel) rfl, zT_mem 98 (by decide +kernel) rfl, zT_mem 99 (by decide +kernel) rfl⟩
theorem ff_3_0 : zFF 3 0 (.array .int) true := ⟨_, rfl, rfl, rfl, by decide +kernel, ⟨tyX3, tyX3_ok⟩, nmX3⟩
theorem ff_3_2 : zFF 3 2 (.array .int) true := ⟨_, rfl, rfl, rfl, by decide +kernel, ⟨tyX3, tyX3_ok⟩, nmX3⟩
theorem ff_3_3 : zFF 3 3 (.array .int) true := ⟨_, rfl, rfl, rfl, by decide +kernel, ⟨tyX3, tyX3_ok⟩, nmX3⟩
theorem oi_11 : Cond.methodLink "WhisperPress" 1 objectInit ∈ zT ∧ Cond.instanceMethod objectInit ∈ zT ∧ Cond.code objectInit ⟨#[0xb1]⟩ 1 none ∈ zT := ⟨zT_mem 97 (by decide +kernel) rfl, zT_mem 98 (by decide +kernel) rfl, zT_mem 99 (by decide +kernel) rfl⟩
theorem hq_11_5 {nl sl : Nat} (h : nl + 4 + 260 ≤ sl) : ∃ q : vw_C, zClasses[9]? = some q ∧ q.1 = yX9_init.cls ∧ (∀ w ∈ u_ws q.1 q.2.1 q.2.2, w ∈ zT) ∧ (∃ ty0 : Nat → FieldType, (∀ k, k < q.2.2 → parseFieldDescriptor (q.2.1 k).2.2.1 = some (ty0 k)) ∧ ∀ j, j < q.2.2 → defaultValue (ty0 j) = vp_V [.null, .int 0, .int 0, .int 0] j) ∧ Cond.classLink "WhisperPress" 7 yX9_init.cls ∈ zT ∧ Cond.instantiable yX9_init.cls q.2.2 ∈ zT ∧ nl + q.2.2 + 260 ≤ sl ∧ q.2.2 = ([.null, .int 0, .int 0, .int 0] : List Value).length := ⟨_, rfl, rfl, uw_9, ⟨tyX9, tyX9_ok, by decide +kernel⟩, zT_mem 100 (by decide +kernel) rfl, zT_mem 101 (by decide +kernel) rfl, h, rfl⟩
theorem ci_11_9 : ("WhisperPress", 9, yX9_init, "WhisperPress") ∈ zNL ∧ Cond.instanceMethod yX9_init ∈ zT := ⟨by decide +kernel, zT_mem 103 (by decide +kernel) rfl⟩
theorem ff_11_0 : zFF 11 0 (.object "WhisperPress$Tape") true := ⟨_, rfl, rfl, rfl, by decide +kernel, ⟨tyX11, tyX11_ok⟩, nmX11⟩
theorem hq_11_16 {nl sl : Nat} (h : nl + 8 + 372 ≤ sl) : ∃ q : vw_C, zClasses[8]? = some q ∧ q.1 = yX8_init.cls ∧ (∀ w ∈ u_ws q.1 q.2.1 q.2.2, w ∈ zT) ∧ (∃ ty0 : Nat → FieldType, (∀ k, k < q.2.2 → parseFieldDescriptor (q.2.1 k).2.2.1 = some (ty0 k)) ∧ ∀ j, j < q.2.2 → defaultValue (ty0 j) = vp_V [.null, .null, .null, .null, .int 0, .int 0, .int 0, .int 0] j) ∧ Cond.classLink "WhisperPress" 16 yX8_init.cls ∈ zT ∧ Cond.instantiable yX8_init.cls q.2.2 ∈ zT ∧ nl + q.2.2 + 372 ≤ sl ∧ q.2.2 = ([.null, .null, .null, .null, .int 0, .int 0, .int 0, .int 0] : List Value).length := ⟨_, rfl, rfl, uw_8, ⟨tyX8, tyX8_ok, by decide +kernel⟩, zT_mem 125 (by decide +kernel) rfl, zT_mem 126 (by decide +kernel) rfl, h, rfl⟩
theorem ci_11_18 : ("WhisperPress", 18, yX8_init, "WhisperPress") ∈ zNL ∧ Cond.instanceMethod yX8_init ∈ zT := ⟨by decide +kernel, zT_mem 128 (by decide +kernel) rfl⟩
theorem ff_11_1 : zFF 11 1 (.object "WhisperPress$State") true := ⟨_, rfl, rfl, rfl, by decide +kernel, ⟨tyX11, tyX11_ok⟩, nmX11⟩
theorem hq_11_27 {nl sl : Nat} (h : nl + 8 + 372 ≤ sl) : ∃ q : vw_C, zClasses[8]? = some q ∧ q.1 = yX8_init.cls ∧ (∀ w ∈ u_ws q.1 q.2.1 q.2.2, w ∈ zT) ∧ (∃ ty0 : Nat → FieldType, (∀ k, k < q.2.2 → parseFieldDescriptor (q.2.1 k).2.2.1 = some (ty0 k)) ∧ ∀ j, j < q.2.2 → defaultValue (ty0 j) = vp_V [.null, .null, .null, .null, .int 0, .int 0, .int 0, .int 0] j) ∧ Cond.classLink "WhisperPress" 16 yX8_init.cls ∈ zT ∧ Cond.instantiable yX8_init.cls q.2.2 ∈ zT ∧ nl + q.2.2 + 372 ≤ sl ∧ q.2.2 = ([.null, .null, .null, .null, .int 0, .int 0, .int 0, .int 0] : List Value).length := ⟨_, rfl, rfl, uw_8, ⟨tyX8, tyX8_ok, by decide +kernel⟩, zT_mem 125 (by decide +kernel) rfl, zT_mem 126 (by decide +kernel) rfl, h, rfl⟩
theorem ff_11_2 : zFF 11 2 (.object "WhisperPress$State") true := ⟨_, rfl, rfl, rfl, by decide +kernel, ⟨tyX11, tyX11_ok⟩, nmX11⟩
theorem hq_11_38 {nl sl : Nat} (h : nl + 8 + 372 ≤ sl) : ∃ q : vw_C, zClasses[8]? = some q ∧ q.1 = yX8_init.cls ∧ (∀ w ∈ u_ws q.1 q.2.1 q.2.2, w ∈ zT) ∧ (∃ ty0 : Nat → FieldType, (∀ k, k < q.2.2 → parseFieldDescriptor (q.2.1 k).2.2.1 = some (ty0 k)) ∧ ∀ j, j < q.2.2 → defaultValue (ty0 j) = vp_V [.null, .null, .null, .null, .int 0, .int 0, .int 0, .int 0] j) ∧ Cond.classLink "WhisperPress" 16 yX8_init.cls ∈ zT ∧ Cond.instantiable yX8_init.cls q.2.2 ∈ zT ∧ nl + q.2.2 + 372 ≤ sl ∧ q.2.2 = ([.null, .null, .null, .null, .int 0, .int 0, .int 0, .int 0] : List Value).length := ⟨_, rfl, rfl, uw_8, ⟨tyX8, tyX8_ok, by decide +kernel⟩, zT_mem 125 (by decide +kernel) rfl, zT_mem 126 (by decide +kernel) rfl, h, rfl⟩
theorem ff_11_3 : zFF 11 3 (.object "WhisperPress$State") true := ⟨_, rfl, rfl, rfl, by decide +kernel, ⟨tyX11, tyX11_ok⟩, nmX11⟩
theorem ff_11_4 : zFF 11 4 .boolean false := ⟨_, rfl, rfl, rfl, by decide +kernel, ⟨tyX11, tyX11_ok⟩, nmX11⟩
theorem hq_11_54 {nl sl : Nat} (h : nl + 2 + 1104 ≤ sl) : ∃ q : vw_C, zClasses[6]? = some q ∧ q.1 = yX6_init.cls ∧ (∀ w ∈ u_ws q.1 q.2.1 q.2.2, w ∈ zT) ∧ (∃ ty0 : Nat → FieldType, (∀ k, k < q.2.2 → parseFieldDescriptor (q.2.1 k).2.2.1 = some (ty0 k)) ∧ ∀ j, j < q.2.2 → defaultValue (ty0 j) = vp_V [.null, .null] j) ∧ Cond.classLink "WhisperPress" 33 yX6_init.cls ∈ zT ∧ Cond.instantiable yX6_init.cls q.2.2 ∈ zT ∧ nl + q.2.2 + 1104 ≤ sl ∧ q.2.2 = ([.null, .null] : List Value).length := ⟨_, rfl, rfl, uw_6, ⟨tyX6, tyX6_ok, by decide +kernel⟩, zT_mem 171 (by decide +kernel) rfl, zT_mem 172 (by decide +kernel) rfl, h, rfl⟩
theorem ci_11_35 : ("WhisperPress", 35, yX6_init, "WhisperPress") ∈ zNL ∧ Cond.instanceMethod yX6_init ∈ zT := ⟨by decide +kernel, zT_mem 174 (by decide +kernel) rfl⟩
theorem ff_11_5 : zFF 11 5 (.object "WhisperPress$LawBook") true := ⟨_, rfl, rfl, rfl, by decide +kernel, ⟨tyX11, tyX11_ok⟩, nmX11⟩
theorem hq_11_65 {nl sl : Nat} (h : nl + 3 + 33 ≤ sl) : ∃ q : vw_C, zClasses[10]? = some q ∧ q.1 = yX10_init.cls ∧ (∀ w ∈ u_ws q.1 q.2.1 q.2.2, w ∈ zT) ∧ (∃ ty0 : Nat → FieldType, (∀ k, k < q.2.2 → parseFieldDescriptor (q.2.1 k).2.2.1 = some (ty0 k)) ∧ ∀ j, j < q.2.2 → defaultValue (ty0 j) = vp_V [.null, .null, .int 0] j) ∧ Cond.classLink "WhisperPress" 40 yX10_init.cls ∈ zT ∧ Cond.instantiable yX10_init.cls q.2.2 ∈ zT ∧ nl + q.2.2 + 33 ≤ sl ∧ q.2.2 = ([.null, .null, .int 0] : List Value).length := ⟨_, rfl, rfl, uw_10, ⟨tyX10, tyX10_ok, by decide +kernel⟩, zT_mem 230 (by decide +kernel) rfl, zT_mem 231 (by decide +kernel) rfl, h, rfl⟩
theorem ci_11_42 : ("WhisperPress", 42, yX10_init, "WhisperPress") ∈ zNL ∧ Cond.instanceMethod yX10_init ∈ zT := ⟨by decide +kernel, zT_mem 233 (by decide +kernel) rfl⟩
theorem ff_11_6 : zFF 11 6 (.object "WhisperPress$Week") true := ⟨_, rfl, rfl, rfl, by decide +kernel, ⟨tyX11, tyX11_ok⟩, nmX11⟩
theorem hq_11_76 {nl sl : Nat} (h : nl + 4 + 60 ≤ sl) : ∃ q : vw_C, zClasses[4]? = some q ∧ q.1 = yX4_init.cls ∧ (∀ w ∈ u_ws q.1 q.2.1 q.2.2, w ∈ zT) ∧ (∃ ty0 : Nat → FieldType, (∀ k, k < q.2.2 → parseFieldDescriptor (q.2.1 k).2.2.1 = some (ty0 k)) ∧ ∀ j, j < q.2.2 → defaultValue (ty0 j) = vp_V [.null, .null, .null, .int 0] j) ∧ Cond.classLink "WhisperPress" 47 yX4_init.cls ∈ zT ∧ Cond.instantiable yX4_init.cls q.2.2 ∈ zT ∧ nl + q.2.2 + 60 ≤ sl ∧ q.2.2 = ([.null, .null, .null, .int 0] : List Value).length := ⟨_, rfl, rfl, uw_4, ⟨tyX4, tyX4_ok, by decide +kernel⟩, zT_mem 247 (by decide +kernel) rfl, zT_mem 248 (by decide +kernel) rfl, h, rfl⟩
theorem ci_11_49 : ("WhisperPress", 49, yX4_init, "WhisperPress") ∈ zNL ∧ Cond.instanceMethod yX4_init ∈ zT := ⟨by decide +kernel, zT_mem 250 (by decide +kernel) rfl⟩
theorem ff_11_7 : zFF 11 7 (.object "WhisperPress$GossipSheet") true := ⟨_, rfl, rfl, rfl, by decide +kernel, ⟨tyX11, tyX11_ok⟩, nmX11⟩
theorem hq_11_87 {nl sl : Nat} (h : nl + 3 + 86 ≤ sl) : ∃ q : vw_C, zClasses[1]? = some q ∧ q.1 = yX1_init.cls ∧ (∀ w ∈ u_ws q.1 q.2.1 q.2.2, w ∈ zT) ∧ (∃ ty0 : Nat → FieldType, (∀ k, k < q.2.2 → parseFieldDescriptor (q.2.1 k).2.2.1 = some (ty0 k)) ∧ ∀ j, j < q.2.2 → defaultValue (ty0 j) = vp_V [.null, .null, .int 0] j) ∧ Cond.classLink "WhisperPress" 54 yX1_init.cls ∈ zT ∧ Cond.instantiable yX1_init.cls q.2.2 ∈ zT ∧ nl + q.2.2 + 86 ≤ sl ∧ q.2.2 = ([.null, .null, .int 0] : List Value).length := ⟨_, rfl, rfl, uw_1, ⟨tyX1, tyX1_ok, by decide +kernel⟩, zT_mem 267 (by decide +kernel) rfl, zT_mem 268 (by decide +kernel) rfl, h, rfl⟩
theorem ci_11_56 : ("WhisperPress", 56, yX1_init, "WhisperPress") ∈ zNL ∧ Cond.instanceMethod yX1_init ∈ zT := ⟨by decide +kernel, zT_mem 270 (by decide +kernel) rfl⟩
theorem ff_11_8 : zFF 11 8 (.object "WhisperPress$CopySheet") false := ⟨_, rfl, rfl, rfl, by decide +kernel, ⟨tyX11, tyX11_ok⟩, nmX11⟩
theorem hq_11_98 {nl sl : Nat} (h : nl + 3 + 86 ≤ sl) : ∃ q : vw_C, zClasses[1]? = some q ∧ q.1 = yX1_init.cls ∧ (∀ w ∈ u_ws q.1 q.2.1 q.2.2, w ∈ zT) ∧ (∃ ty0 : Nat → FieldType, (∀ k, k < q.2.2 → parseFieldDescriptor (q.2.1 k).2.2.1 = some (ty0 k)) ∧ ∀ j, j < q.2.2 → defaultValue (ty0 j) = vp_V [.null, .null, .int 0] j) ∧ Cond.classLink "WhisperPress" 54 yX1_init.cls ∈ zT ∧ Cond.instantiable yX1_init.cls q.2.2 ∈ zT ∧ nl + q.2.2 + 86 ≤ sl ∧ q.2.2 = ([.null, .null, .int 0] : List Value).length := ⟨_, rfl, rfl, uw_1, ⟨tyX1, tyX1_ok, by decide +kernel⟩, zT_mem 267 (by decide +kernel) rfl, zT_mem 268 (by decide +kernel) rfl, h, rfl⟩
theorem ff_11_9 : zFF 11 9 (.object "WhisperPress$CopySheet") false := ⟨_, rfl, rfl, rfl, by decide +kernel, ⟨tyX11, tyX11_ok⟩, nmX11⟩
theorem hq_11_109 {nl sl : Nat} (h : nl + 3 + 183 ≤ sl) : ∃ q : vw_C, zClasses[7]? = some q ∧ q.1 = yX7_init.cls ∧ (∀ w ∈ u_ws q.1 q.2.1 q.2.2, w ∈ zT) ∧ (∃ ty0 : Nat → FieldType, (∀ k, k < q.2.2 → parseFieldDescriptor (q.2.1 k).2.2.1 = some (ty0 k)) ∧ ∀ j, j < q.2.2 → defaultValue (ty0 j) = vp_V [.null, .null, .null] j) ∧ Cond.classLink "WhisperPress" 64 yX7_init.cls ∈ zT ∧ Cond.instantiable yX7_init.cls q.2.2 ∈ zT ∧ nl + q.2.2 + 183 ≤ sl ∧ q.2.2 = ([.null, .null, .null] : List Value).length := ⟨_, rfl, rfl, uw_7, ⟨tyX7, tyX7_ok, by decide +kernel⟩, zT_mem 287 (by decide +kernel) rfl, zT_mem 288 (by decide +kernel) rfl, h, rfl⟩
theorem ci_11_66 : ("WhisperPress", 66, yX7_init, "WhisperPress") ∈ zNL ∧ Cond.instanceMethod yX7_init ∈ zT := ⟨by decide +kernel, zT_mem 290 (by decide +kernel) rfl⟩
theorem ff_11_10 : zFF 11 10 (.object "WhisperPress$Setting") true := ⟨_, rfl, rfl, rfl, by decide +kernel, ⟨tyX11, tyX11_ok⟩, nmX11⟩
theorem hq_11_120 {nl sl : Nat} (h : nl + 4 + 60 ≤ sl) : ∃ q : vw_C, zClasses[2]? = some q ∧ q.1 = yX2_init.cls ∧ (∀ w ∈ u_ws q.1 q.2.1 q.2.2, w ∈ zT) ∧ (∃ ty0 : Nat → FieldType, (∀ k, k < q.2.2 → parseFieldDescriptor (q.2.1 k).2.2.1 = some (ty0 k)) ∧ ∀ j, j < q.2.2 → defaultValue (ty0 j) = vp_V [.null, .null, .null, .int 0] j) ∧ Cond.classLink "WhisperPress" 71 yX2_init.cls ∈ zT ∧ Cond.instantiable yX2_init.cls q.2.2 ∈ zT ∧ nl + q.2.2 + 60 ≤ sl ∧ q.2.2 = ([.null, .null, .null, .int 0] : List Value).length := ⟨_, rfl, rfl, uw_2, ⟨tyX2, tyX2_ok, by decide +kernel⟩, zT_mem 306 (by decide +kernel) rfl, zT_mem 307 (by decide +kernel) rfl, h, rfl⟩
theorem ci_11_73 : ("WhisperPress", 73, yX2_init, "WhisperPress") ∈ zNL ∧ Cond.instanceMethod yX2_init ∈ zT := ⟨by decide +kernel, zT_mem 309 (by decide +kernel) rfl⟩
theorem ff_11_11 : zFF 11 11 (.object "WhisperPress$Cover") true := ⟨_, rfl, rfl, rfl, by decide +kernel, ⟨tyX11, tyX11_ok⟩, nmX11⟩
theorem hq_11_131 {nl sl : Nat} (h : nl + 1 + 256 ≤ sl) : ∃ q : vw_C, zClasses[0]? = some q ∧ q.1 = yX0_init.cls ∧ (∀ w ∈ u_ws q.1 q.2.1 q.2.2, w ∈ zT) ∧ (∃ ty0 : Nat → FieldType, (∀ k, k < q.2.2 → parseFieldDescriptor (q.2.1 k).2.2.1 = some (ty0 k)) ∧ ∀ j, j < q.2.2 → defaultValue (ty0 j) = vp_V [.null] j) ∧ Cond.classLink "WhisperPress" 78 yX0_init.cls ∈ zT ∧ Cond.instantiable yX0_init.cls q.2.2 ∈ zT ∧ nl + q.2.2 + 256 ≤ sl ∧ q.2.2 = ([.null] : List Value).length := ⟨_, rfl, rfl, uw_0, ⟨tyX0, tyX0_ok, by decide +kernel⟩, zT_mem 327 (by decide +kernel) rfl, zT_mem 328 (by decide +kernel) rfl, h, rfl⟩
theorem ci_11_80 : ("WhisperPress", 80, yX0_init, "WhisperPress") ∈ zNL ∧ Cond.instanceMethod yX0_init ∈ zT := ⟨by decide +kernel, zT_mem 330 (by decide +kernel) rfl⟩
theorem ff_11_12 : zFF 11 12 (.object "WhisperPress$Archive") true := ⟨_, rfl, rfl, rfl, by decide +kernel, ⟨tyX11, tyX11_ok⟩, nmX11⟩
theorem hq_11_142 {nl sl : Nat} (h : nl + 4 + 188 ≤ sl) : ∃ q : vw_C, zClasses[3]? = some q ∧ q.1 = yX3_init.cls ∧ (∀ w ∈ u_ws q.1 q.2.1 q.2.2, w ∈ zT) ∧ (∃ ty0 : Nat → FieldType, (∀ k, k < q.2.2 → parseFieldDescriptor (q.2.1 k).2.2.1 = some (ty0 k)) ∧ ∀ j, j < q.2.2 → defaultValue (ty0 j) = vp_V [.null, .int 0, .null, .null] j) ∧ Cond.classLink "WhisperPress" 85 yX3_init.cls ∈ zT ∧ Cond.instantiable yX3_init.cls q.2.2 ∈ zT ∧ nl + q.2.2 + 188 ≤ sl ∧ q.2.2 = ([.null, .int 0, .null, .null] : List Value).length := ⟨_, rfl, rfl, uw_3, ⟨tyX3, tyX3_ok, by decide +kernel⟩, zT_mem 338 (by decide +kernel) rfl, zT_mem 339 (by decide +kernel) rfl, h, rfl⟩
theorem ci_11_87 : ("WhisperPress", 87, yX3_init, "WhisperPress") ∈ zNL ∧ Cond.instanceMethod yX3_init ∈ zT := ⟨by decide +kernel, zT_mem 341 (by decide +kernel) rfl⟩
theorem ff_11_13 : zFF 11 13 (.object "WhisperPress$Desk") true := ⟨_, rfl, rfl, rfl, by decide +kernel, ⟨tyX11, tyX11_ok⟩, nmX11⟩
theorem oi_12 : Cond.methodLink "WhisperPressModel" 1 objectInit ∈ zT ∧ Cond.instanceMethod objectInit ∈ zT ∧ Cond.code objectInit ⟨#[0xb1]⟩ 1 none ∈ zT := ⟨zT_mem 986 (by decide +kernel) rfl, zT_mem 98 (by decide +kernel) rfl, zT_mem 99 (by decide +kernel) rfl⟩
theorem ff_12_0 : zFF 12 0 (.array .int) true := ⟨_, rfl, rfl, rfl, by decide +kernel, ⟨tyX12, tyX12_ok⟩, nmX12⟩
theorem ff_12_1 : zFF 12 1 (.array .int) true := ⟨_, rfl, rfl, rfl, by decide +kernel, ⟨tyX12, tyX12_ok⟩, nmX12⟩
theorem ff_12_2 : zFF 12 2 (.array .int) true := ⟨_, rfl, rfl, rfl, by decide +kernel, ⟨tyX12, tyX12_ok⟩, nmX12⟩
theorem ff_12_3 : zFF 12 3 (.array .int) true := ⟨_, rfl, rfl, rfl, by decide +kernel, ⟨tyX12, tyX12_ok⟩, nmX12⟩
theorem ff_12_4 : zFF 12 4 (.array .int) true := ⟨_, rfl, rfl, rfl, by decide +kernel, ⟨tyX12, tyX12_ok⟩, nmX12⟩
theorem ff_12_5 : zFF 12 5 (.array .int) true := ⟨_, rfl, rfl, rfl, by decide +kernel, ⟨tyX12, tyX12_ok⟩, nmX12⟩
theorem ff_12_6 : zFF 12 6 (.array .int) true := ⟨_, rfl, rfl, rfl, by decide +kernel, ⟨tyX12, tyX12_ok⟩, nmX12⟩
theorem ff_12_8 : zFF 12 8 (.array .byte) true := ⟨_, rfl, rfl, rfl, by decide +kernel, ⟨tyX12, tyX12_ok⟩, nmX12⟩
theorem ff_12_19 : zFF 12 19 (.array .int) true := ⟨_, rfl, rfl, rfl, by decide +kernel, ⟨tyX12, tyX12_ok⟩, nmX12⟩
theorem ff_12_20 : zFF 12 20 (.array .int) true := ⟨_, rfl, rfl, rfl, by decide +kernel, ⟨tyX12, tyX12_ok⟩, nmX12⟩
theorem ff_12_21 : zFF 12 21 (.array .int) true := ⟨_, rfl, rfl, rfl, by decide +kernel, ⟨tyX12, tyX12_ok⟩, nmX12⟩
theorem ff_12_22 : zFF 12 22 (.array .int) true := ⟨_, rfl, rfl, rfl, by decide +kernel, ⟨tyX12, tyX12_ok⟩, nmX12⟩
theorem ff_12_23 : zFF 12 23 (.array .int) true := ⟨_, rfl, rfl, rfl, by decide +kernel, ⟨tyX12, tyX12_ok⟩, nmX12⟩
theorem ff_12_24 : zFF 12 24 (.array .int) true := ⟨_, rfl, rfl, rfl, by decide +kernel, ⟨tyX12, tyX12_ok⟩, nmX12⟩
theorem ff_12_25 : zFF 12 25 (.array .int) true := ⟨_, rfl, rfl, rfl, by decide +kernel, ⟨tyX12, tyX12_ok⟩, nmX12⟩
theorem ff_12_26 : zFF 12 26 (.array .int) true := ⟨_, rfl, rfl, rfl, by decide +kernel, ⟨tyX12, tyX12_ok⟩, nmX12⟩
theorem ff_12_27 : zFF 12 27 (.array .int) true := ⟨_, rfl, rfl, rfl, by decide +kernel, ⟨tyX12, tyX12_ok⟩, nmX12⟩
theorem ff_12_28 : zFF 12 28 (.array .int) true := ⟨_, rfl, rfl, rfl, by decide +kernel, ⟨tyX12, tyX12_ok⟩, nmX12⟩
theorem ff_12_29 : zFF 12 29 (.array .int) true := ⟨_, rfl, rfl, rfl, by decide +kernel, ⟨tyX12, tyX12_ok⟩, nmX12⟩
theorem ff_12_30 : zFF 12 30 (.array .int) true := ⟨_, rfl, rfl, rfl, by decide +kernel, ⟨tyX12, tyX12_ok⟩, nmX12⟩
theorem ff_12_31 : zFF 12 31 (.array .int) true := ⟨_, rfl, rfl, rfl, by decide +kernel, ⟨tyX12, tyX12_ok⟩, nmX12⟩
theorem ff_12_36 : zFF 12 36 (.array .int) true := ⟨_, rfl, rfl, rfl, by decide +kernel, ⟨tyX12, tyX12_ok⟩, nmX12⟩
theorem ff_12_37 : zFF 12 37 (.array .byte) true := ⟨_, rfl, rfl, rfl, by decide +kernel, ⟨tyX12, tyX12_ok⟩, nmX12⟩
theorem ff_12_40 : zFF 12 40 (.array .int) true := ⟨_, rfl, rfl, rfl, by decide +kernel, ⟨tyX12, tyX12_ok⟩, nmX12⟩
theorem ff_12_41 : zFF 12 41 (.array .int) true := ⟨_, rfl, rfl, rfl, by decide +kernel, ⟨tyX12, tyX12_ok⟩, nmX12⟩
theorem ff_12_42 : zFF 12 42 (.array .int) true := ⟨_, rfl, rfl, rfl, by decide +kernel, ⟨tyX12, tyX12_ok⟩, nmX12⟩
theorem ff_12_43 : zFF 12 43 (.array .int) true := ⟨_, rfl, rfl, rfl, by decide +kernel, ⟨tyX12, tyX12_ok⟩, nmX12⟩
theorem ff_12_44 : zFF 12 44 (.array .int) true := ⟨_, rfl, rfl, rfl, by decide +kernel, ⟨tyX12, tyX12_ok⟩, nmX12⟩
theorem dX9_init_0 : zDLa cX9_init 0 0 1 := Or.inl ⟨0, by decide +kernel, rfl, rfl⟩
theorem dX9_init_1 : zDC cX9_init 1 (.invokespecial 3) 3 4 := ⟨by decide +kernel, rfl⟩
theorem dX9_init_4 : zDLa cX9_init 4 0 5 := Or.inl ⟨0, by decide +kernel, rfl, rfl⟩
theorem dX9_init_5 : zDK cX9_init 5 (nI 260) 8 := Or.inr (Or.inr ⟨260, by decide +kernel, by decide, rfl⟩)
theorem dX9_init_8 : zDC cX9_init 8 (.newarray .int) 2 10 := ⟨by decide +kernel, rfl⟩
theorem dX9_init_10 : zDC cX9_init 10 (.putfield 9) 3 13 := ⟨by decide +kernel, rfl⟩
theorem dX9_init_13 : zDC cX9_init 13 .return_ 1 14 := ⟨by decide +kernel, rfl⟩
theorem dX8_init_0 : zDLa cX8_init 0 0 1 := Or.inl ⟨0, by decide +kernel, rfl, rfl⟩
theorem dX8_init_1 : zDC cX8_init 1 (.invokespecial 3) 3 4 := ⟨by decide +kernel, rfl⟩
theorem dX8_init_4 : zDLa cX8_init 4 0 5 := Or.inl ⟨0, by decide +kernel, rfl, rfl⟩
theorem dX8_init_5 : zDK cX8_init 5 (nI 16) 7 := Or.inr (Or.inl ⟨16, by decide +kernel, by decide, rfl⟩)
theorem dX8_init_7 : zDC cX8_init 7 (.newarray .int) 2 9 := ⟨by decide +kernel, rfl⟩
theorem dX8_init_9 : zDC cX8_init 9 (.putfield 9) 3 12 := ⟨by decide +kernel, rfl⟩
theorem dX8_init_12 : zDLa cX8_init 12 0 13 := Or.inl ⟨0, by decide +kernel, rfl, rfl⟩
theorem dX8_init_13 : zDK cX8_init 13 (nI 16) 15 := Or.inr (Or.inl ⟨16, by decide +kernel, by decide, rfl⟩)
theorem dX8_init_15 : zDC cX8_init 15 (.newarray .int) 2 17 := ⟨by decide +kernel, rfl⟩
theorem dX8_init_17 : zDC cX8_init 17 (.putfield 15) 3 20 := ⟨by decide +kernel, rfl⟩
theorem dX8_init_20 : zDLa cX8_init 20 0 21 := Or.inl ⟨0, by decide +kernel, rfl, rfl⟩
theorem dX8_init_21 : zDK cX8_init 21 (nI 20) 23 := Or.inr (Or.inl ⟨20, by decide +kernel, by decide, rfl⟩)
theorem dX8_init_23 : zDC cX8_init 23 (.newarray .int) 2 25 := ⟨by decide +kernel, rfl⟩
theorem dX8_init_25 : zDC cX8_init 25 (.putfield 18) 3 28 := ⟨by decide +kernel, rfl⟩
theorem dX8_init_28 : zDLa cX8_init 28 0 29 := Or.inl ⟨0, by decide +kernel, rfl, rfl⟩
theorem dX8_init_29 : zDK cX8_init 29 (nI 320) 32 := Or.inr (Or.inr ⟨320, by decide +kernel, by decide, rfl⟩)
theorem dX8_init_32 : zDC cX8_init 32 (.newarray .int) 2 34 := ⟨by decide +kernel, rfl⟩
theorem dX8_init_34 : zDC cX8_init 34 (.putfield 21) 3 37 := ⟨by decide +kernel, rfl⟩
theorem dX8_init_37 : zDLa cX8_init 37 0 38 := Or.inl ⟨0, by decide +kernel, rfl, rfl⟩
theorem dX8_init_38 : zDK cX8_init 38 (nI 1) 39 := Or.inl ⟨1, by decide +kernel, by decide, rfl⟩
theorem dX8_init_39 : zDC cX8_init 39 (.putfield 24) 3 42 := ⟨by decide +kernel, rfl⟩
theorem dX8_init_42 : zDC cX8_init 42 .return_ 1 43 := ⟨by decide +kernel, rfl⟩
theorem dX5_init_0 : zDLa cX5_init 0 0 1 := Or.inl ⟨0, by decide +kernel, rfl, rfl⟩
theorem dX5_init_1 : zDC cX5_init 1 (.invokespecial 3) 3 4 := ⟨by decide +kernel, rfl⟩
theorem dX5_init_4 : zDLa cX5_init 4 0 5 := Or.inl ⟨0, by decide +kernel, rfl, rfl⟩
theorem dX5_init_5 : zDK cX5_init 5 (nI 240) 8 := Or.inr (Or.inr ⟨240, by decide +kernel, by decide, rfl⟩)
theorem dX5_init_8 : zDC cX5_init 8 (.newarray .int) 2 10 := ⟨by decide +kernel, rfl⟩
theorem dX5_init_10 : zDC cX5_init 10 (.putfield 9) 3 13 := ⟨by decide +kernel, rfl⟩
theorem dX5_init_13 : zDLa cX5_init 13 0 14 := Or.inl ⟨0, by decide +kernel, rfl, rfl⟩
theorem dX5_init_14 : zDK cX5_init 14 (nI 240) 17 := Or.inr (Or.inr ⟨240, by decide +kernel, by decide, rfl⟩)
theorem dX5_init_17 : zDC cX5_init 17 (.newarray .int) 2 19 := ⟨by decide +kernel, rfl⟩
theorem dX5_init_19 : zDC cX5_init 19 (.putfield 15) 3 22 := ⟨by decide +kernel, rfl⟩
theorem dX5_init_22 : zDLa cX5_init 22 0 23 := Or.inl ⟨0, by decide +kernel, rfl, rfl⟩
theorem dX5_init_23 : zDK cX5_init 23 (nI 16) 25 := Or.inr (Or.inl ⟨16, by decide +kernel, by decide, rfl⟩)
theorem dX5_init_25 : zDC cX5_init 25 (.newarray .int) 2 27 := ⟨by decide +kernel, rfl⟩
theorem dX5_init_27 : zDC cX5_init 27 (.putfield 18) 3 30 := ⟨by decide +kernel, rfl⟩
theorem dX5_init_30 : zDLa cX5_init 30 0 31 := Or.inl ⟨0, by decide +kernel, rfl, rfl⟩
theorem dX5_init_31 : zDK cX5_init 31 (nI 16) 33 := Or.inr (Or.inl ⟨16, by decide +kernel, by decide, rfl⟩)
theorem dX5_init_33 : zDC cX5_init 33 (.newarray .int) 2 35 := ⟨by decide +kernel, rfl⟩
theorem dX5_init_35 : zDC cX5_init 35 (.putfield 21) 3 38 := ⟨by decide +kernel, rfl⟩
theorem dX5_init_38 : zDLa cX5_init 38 0 39 := Or.inl ⟨0, by decide +kernel, rfl, rfl⟩
theorem dX5_init_39 : zDK cX5_init 39 (nI 16) 41 := Or.inr (Or.inl ⟨16, by decide +kernel, by decide, rfl⟩)
theorem dX5_init_41 : zDC cX5_init 41 (.newarray .int) 2 43 := ⟨by decide +kernel, rfl⟩
theorem dX5_init_43 : zDC cX5_init 43 (.putfield 24) 3 46 := ⟨by decide +kernel, rfl⟩
theorem dX5_init_46 : zDLa cX5_init 46 0 47 := Or.inl ⟨0, by decide +kernel, rfl, rfl⟩
theorem dX5_init_47 : zDK cX5_init 47 (nI 16) 49 := Or.inr (Or.inl ⟨16, by decide +kernel, by decide, rfl⟩)
theorem dX5_init_49 : zDC cX5_init 49 (.newarray .int) 2 51 := ⟨by decide +kernel, rfl⟩
theorem dX5_init_51 : zDC cX5_init 51 (.putfield 27) 3 54 := ⟨by decide +kernel, rfl⟩
theorem dX5_init_54 : zDC cX5_init 54 .return_ 1 55 := ⟨by decide +kernel, rfl⟩
theorem dX6_init_0 : zDLa cX6_init 0 0 1 := Or.inl ⟨0, by decide +kernel, rfl, rfl⟩
theorem dX6_init_1 : zDC cX6_init 1 (.invokespecial 3) 3 4 := ⟨by decide +kernel, rfl⟩
theorem dX6_init_4 : zDLa cX6_init 4 0 5 := Or.inl ⟨0, by decide +kernel, rfl, rfl⟩
theorem dX6_init_5 : zDC cX6_init 5 (.new 9) 3 8 := ⟨by decide +kernel, rfl⟩
theorem dX6_init_8 : zDC cX6_init 8 .dup 1 9 := ⟨by decide +kernel, rfl⟩
theorem dX6_init_9 : zDC cX6_init 9 (.invokespecial 11) 3 12 := ⟨by decide +kernel, rfl⟩
theorem dX6_init_12 : zDC cX6_init 12 (.putfield 12) 3 15 := ⟨by decide +kernel, rfl⟩
theorem dX6_init_15 : zDLa cX6_init 15 0 16 := Or.inl ⟨0, by decide +kernel, rfl, rfl⟩
theorem dX6_init_16 : zDC cX6_init 16 (.new 9) 3 19 := ⟨by decide +kernel, rfl⟩
theorem dX6_init_19 : zDC cX6_init 19 .dup 1 20 := ⟨by decide +kernel, rfl⟩
theorem dX6_init_20 : zDC cX6_init 20 (.invokespecial 11) 3 23 := ⟨by decide +kernel, rfl⟩
theorem dX6_init_23 : zDC cX6_init 23 (.putfield 18) 3 26 := ⟨by decide +kernel, rfl⟩
theorem dX6_init_26 : zDC cX6_init 26 .return_ 1 27 := ⟨by decide +kernel, rfl⟩
theorem dX10_init_0 : zDLa cX10_init 0 0 1 := Or.inl ⟨0, by decide +kernel, rfl, rfl⟩
theorem dX10_init_1 : zDC cX10_init 1 (.invokespecial 3) 3 4 := ⟨by decide +kernel, rfl⟩
theorem dX10_init_4 : zDLa cX10_init 4 0 5 := Or.inl ⟨0, by decide +kernel, rfl, rfl⟩
theorem dX10_init_5 : zDK cX10_init 5 (nI 9) 7 := Or.inr (Or.inl ⟨9, by decide +kernel, by decide, rfl⟩)
theorem dX10_init_7 : zDC cX10_init 7 (.newarray .int) 2 9 := ⟨by decide +kernel, rfl⟩
theorem dX10_init_9 : zDC cX10_init 9 (.putfield 11) 3 12 := ⟨by decide +kernel, rfl⟩
theorem dX10_init_12 : zDLa cX10_init 12 0 13 := Or.inl ⟨0, by decide +kernel, rfl, rfl⟩
theorem dX10_init_13 : zDK cX10_init 13 (nI 24) 15 := Or.inr (Or.inl ⟨24, by decide +kernel, by decide, rfl⟩)
theorem dX10_init_15 : zDC cX10_init 15 (.newarray .int) 2 17 := ⟨by decide +kernel, rfl⟩
theorem dX10_init_17 : zDC cX10_init 17 (.putfield 15) 3 20 := ⟨by decide +kernel, rfl⟩
theorem dX10_init_20 : zDC cX10_init 20 .return_ 1 21 := ⟨by decide +kernel, rfl⟩
theorem dX4_init_0 : zDLa cX4_init 0 0 1 := Or.inl ⟨0, by decide +kernel, rfl, rfl⟩
theorem dX4_init_1 : zDC cX4_init 1 (.invokespecial 3) 3 4 := ⟨by decide +kernel, rfl⟩
theorem dX4_init_4 : zDLa cX4_init 4 0 5 := Or.inl ⟨0, by decide +kernel, rfl, rfl⟩
theorem dX4_init_5 : zDK cX4_init 5 (nI 20) 7 := Or.inr (Or.inl ⟨20, by decide +kernel, by decide, rfl⟩)
theorem dX4_init_7 : zDC cX4_init 7 (.newarray .int) 2 9 := ⟨by decide +kernel, rfl⟩
theorem dX4_init_9 : zDC cX4_init 9 (.putfield 11) 3 12 := ⟨by decide +kernel, rfl⟩
theorem dX4_init_12 : zDLa cX4_init 12 0 13 := Or.inl ⟨0, by decide +kernel, rfl, rfl⟩
theorem dX4_init_13 : zDK cX4_init 13 (nI 20) 15 := Or.inr (Or.inl ⟨20, by decide +kernel, by decide, rfl⟩)
theorem dX4_init_15 : zDC cX4_init 15 (.newarray .int) 2 17 := ⟨by decide +kernel, rfl⟩
theorem dX4_init_17 : zDC cX4_init 17 (.putfield 15) 3 20 := ⟨by decide +kernel, rfl⟩
theorem dX4_init_20 : zDLa cX4_init 20 0 21 := Or.inl ⟨0, by decide +kernel, rfl, rfl⟩
theorem dX4_init_21 : zDK cX4_init 21 (nI 20) 23 := Or.inr (Or.inl ⟨20, by decide +kernel, by decide, rfl⟩)
theorem dX4_init_23 : zDC cX4_init 23 (.newarray .int) 2 25 := ⟨by decide +kernel, rfl⟩
theorem dX4_init_25 : zDC cX4_init 25 (.putfield 18) 3 28 := ⟨by decide +kernel, rfl⟩
theorem dX4_init_28 : zDC cX4_init 28 .return_ 1 29 := ⟨by decide +kernel, rfl⟩
theorem dX1_init_0 : zDLa cX1_init 0 0 1 := Or.inl ⟨0, by decide +kernel, rfl, rfl⟩
theorem dX1_init_1 : zDC cX1_init 1 (.invokespecial 3) 3 4 := ⟨by decide +kernel, rfl⟩
theorem dX1_init_4 : zDLa cX1_init 4 0 5 := Or.inl ⟨0, by decide +kernel, rfl, rfl⟩
theorem dX1_init_5 : zDK cX1_init 5 (nI 60) 7 := Or.inr (Or.inl ⟨60, by decide +kernel, by decide, rfl⟩)
theorem dX1_init_7 : zDC cX1_init 7 (.newarray .int) 2 9 := ⟨by decide +kernel, rfl⟩
theorem dX1_init_9 : zDC cX1_init 9 (.putfield 11) 3 12 := ⟨by decide +kernel, rfl⟩
theorem dX1_init_12 : zDLa cX1_init 12 0 13 := Or.inl ⟨0, by decide +kernel, rfl, rfl⟩
theorem dX1_init_13 : zDK cX1_init 13 (nI 26) 15 := Or.inr (Or.inl ⟨26, by decide +kernel, by decide, rfl⟩)
theorem dX1_init_15 : zDC cX1_init 15 (.newarray .int) 2 17 := ⟨by decide +kernel, rfl⟩
theorem dX1_init_17 : zDC cX1_init 17 (.putfield 15) 3 20 := ⟨by decide +kernel, rfl⟩
theorem dX1_init_20 : zDC cX1_init 20 .return_ 1 21 := ⟨by decide +kernel, rfl⟩
theorem dX7_init_0 : zDLa cX7_init 0 0 1 := Or.inl ⟨0, by decide +kernel, rfl, rfl⟩
theorem dX7_init_1 : zDC cX7_init 1 (.invokespecial 3) 3 4 := ⟨by decide +kernel, rfl⟩
theorem dX7_init_4 : zDLa cX7_init 4 0 5 := Or.inl ⟨0, by decide +kernel, rfl, rfl⟩
theorem dX7_init_5 : zDK cX7_init 5 (nI 61) 7 := Or.inr (Or.inl ⟨61, by decide +kernel, by decide, rfl⟩)
theorem dX7_init_7 : zDC cX7_init 7 (.newarray .int) 2 9 := ⟨by decide +kernel, rfl⟩
theorem dX7_init_9 : zDC cX7_init 9 (.putfield 11) 3 12 := ⟨by decide +kernel, rfl⟩
theorem dX7_init_12 : zDLa cX7_init 12 0 13 := Or.inl ⟨0, by decide +kernel, rfl, rfl⟩
theorem dX7_init_13 : zDK cX7_init 13 (nI 61) 15 := Or.inr (Or.inl ⟨61, by decide +kernel, by decide, rfl⟩)
theorem dX7_init_15 : zDC cX7_init 15 (.newarray .int) 2 17 := ⟨by decide +kernel, rfl⟩
theorem dX7_init_17 : zDC cX7_init 17 (.putfield 17) 3 20 := ⟨by decide +kernel, rfl⟩
theorem dX7_init_20 : zDLa cX7_init 20 0 21 := Or.inl ⟨0, by decide +kernel, rfl, rfl⟩
theorem dX7_init_21 : zDK cX7_init 21 (nI 61) 23 := Or.inr (Or.inl ⟨61, by decide +kernel, by decide, rfl⟩)
theorem dX7_init_23 : zDC cX7_init 23 (.newarray .int) 2 25 := ⟨by decide +kernel, rfl⟩
theorem dX7_init_25 : zDC cX7_init 25 (.putfield 20) 3 28 := ⟨by decide +kernel, rfl⟩
theorem dX7_init_28 : zDC cX7_init 28 .return_ 1 29 := ⟨by decide +kernel, rfl⟩
theorem dX2_init_0 : zDLa cX2_init 0 0 1 := Or.inl ⟨0, by decide +kernel, rfl, rfl⟩
theorem dX2_init_1 : zDC cX2_init 1 (.invokespecial 3) 3 4 := ⟨by decide +kernel, rfl⟩
theorem dX2_init_4 : zDLa cX2_init 4 0 5 := Or.inl ⟨0, by decide +kernel, rfl, rfl⟩
theorem dX2_init_5 : zDK cX2_init 5 (nI 20) 7 := Or.inr (Or.inl ⟨20, by decide +kernel, by decide, rfl⟩)
theorem dX2_init_7 : zDC cX2_init 7 (.newarray .int) 2 9 := ⟨by decide +kernel, rfl⟩
theorem dX2_init_9 : zDC cX2_init 9 (.putfield 11) 3 12 := ⟨by decide +kernel, rfl⟩
theorem dX2_init_12 : zDLa cX2_init 12 0 13 := Or.inl ⟨0, by decide +kernel, rfl, rfl⟩
theorem dX2_init_13 : zDK cX2_init 13 (nI 20) 15 := Or.inr (Or.inl ⟨20, by decide +kernel, by decide, rfl⟩)
theorem dX2_init_15 : zDC cX2_init 15 (.newarray .int) 2 17 := ⟨by decide +kernel, rfl⟩
theorem dX2_init_17 : zDC cX2_init 17 (.putfield 15) 3 20 := ⟨by decide +kernel, rfl⟩
theorem dX2_init_20 : zDLa cX2_init 20 0 21 := Or.inl ⟨0, by decide +kernel, rfl, rfl⟩
theorem dX2_init_21 : zDK cX2_init 21 (nI 20) 23 := Or.inr (Or.inl ⟨20, by decide +kernel, by decide, rfl⟩)
theorem dX2_init_23 : zDC cX2_init 23 (.newarray .int) 2 25 := ⟨by decide +kernel, rfl⟩
theorem dX2_init_25 : zDC cX2_init 25 (.putfield 18) 3 28 := ⟨by decide +kernel, rfl⟩
theorem dX2_init_28 : zDC cX2_init 28 .return_ 1 29 := ⟨by decide +kernel, rfl⟩
theorem dX0_init_0 : zDLa cX0_init 0 0 1 := Or.inl ⟨0, by decide +kernel, rfl, rfl⟩
theorem dX0_init_1 : zDC cX0_init 1 (.invokespecial 3) 3 4 := ⟨by decide +kernel, rfl⟩
theorem dX0_init_4 : zDLa cX0_init 4 0 5 := Or.inl ⟨0, by decide +kernel, rfl, rfl⟩
theorem dX0_init_5 : zDK cX0_init 5 (nI 256) 8 := Or.inr (Or.inr ⟨256, by decide +kernel, by decide, rfl⟩)
theorem dX0_init_8 : zDC cX0_init 8 (.newarray .int) 2 10 := ⟨by decide +kernel, rfl⟩
theorem dX0_init_10 : zDC cX0_init 10 (.putfield 9) 3 13 := ⟨by decide +kernel, rfl⟩
theorem dX0_init_13 : zDC cX0_init 13 .return_ 1 14 := ⟨by decide +kernel, rfl⟩
theorem dX3_init_0 : zDLa cX3_init 0 0 1 := Or.inl ⟨0, by decide +kernel, rfl, rfl⟩
theorem dX3_init_1 : zDC cX3_init 1 (.invokespecial 3) 3 4 := ⟨by decide +kernel, rfl⟩
theorem dX3_init_4 : zDLa cX3_init 4 0 5 := Or.inl ⟨0, by decide +kernel, rfl, rfl⟩
theorem dX3_init_5 : zDK cX3_init 5 (nI 3) 6 := Or.inl ⟨3, by decide +kernel, by decide, rfl⟩
theorem dX3_init_6 : zDC cX3_init 6 (.newarray .int) 2 8 := ⟨by decide +kernel, rfl⟩
theorem dX3_init_8 : zDC cX3_init 8 (.putfield 9) 3 11 := ⟨by decide +kernel, rfl⟩
theorem dX3_init_11 : zDLa cX3_init 11 0 12 := Or.inl ⟨0, by decide +kernel, rfl, rfl⟩
theorem dX3_init_12 : zDK cX3_init 12 (nI 16) 14 := Or.inr (Or.inl ⟨16, by decide +kernel, by decide, rfl⟩)
theorem dX3_init_14 : zDC cX3_init 14 (.newarray .int) 2 16 := ⟨by decide +kernel, rfl⟩
theorem dX3_init_16 : zDC cX3_init 16 (.putfield 15) 3 19 := ⟨by decide +kernel, rfl⟩
theorem dX3_init_19 : zDLa cX3_init 19 0 20 := Or.inl ⟨0, by decide +kernel, rfl, rfl⟩
theorem dX3_init_20 : zDK cX3_init 20 (nI 169) 23 := Or.inr (Or.inr ⟨169, by decide +kernel, by decide, rfl⟩)
theorem dX3_init_23 : zDC cX3_init 23 (.newarray .int) 2 25 := ⟨by decide +kernel, rfl⟩
theorem dX3_init_25 : zDC cX3_init 25 (.putfield 18) 3 28 := ⟨by decide +kernel, rfl⟩
theorem dX3_init_28 : zDC cX3_init 28 .return_ 1 29 := ⟨by decide +kernel, rfl⟩
theorem dX11_init_0 : zDLa cX11_init 0 0 1 := Or.inl ⟨0, by decide +kernel, rfl, rfl⟩
theorem dX11_init_1 : zDC cX11_init 1 (.invokespecial 1) 3 4 := ⟨by decide +kernel, rfl⟩
theorem dX11_init_4 : zDLa cX11_init 4 0 5 := Or.inl ⟨0, by decide +kernel, rfl, rfl⟩
theorem dX11_init_5 : zDC cX11_init 5 (.new 7) 3 8 := ⟨by decide +kernel, rfl⟩
theorem dX11_init_8 : zDC cX11_init 8 .dup 1 9 := ⟨by decide +kernel, rfl⟩
theorem dX11_init_9 : zDC cX11_init 9 (.invokespecial 9) 3 12 := ⟨by decide +kernel, rfl⟩
theorem dX11_init_12 : zDC cX11_init 12 (.putfield 10) 3 15 := ⟨by decide +kernel, rfl⟩
theorem dX11_init_15 : zDLa cX11_init 15 0 16 := Or.inl ⟨0, by decide +kernel, rfl, rfl⟩
theorem dX11_init_16 : zDC cX11_init 16 (.new 16) 3 19 := ⟨by decide +kernel, rfl⟩
theorem dX11_init_19 : zDC cX11_init 19 .dup 1 20 := ⟨by decide +kernel, rfl⟩
theorem dX11_init_20 : zDC cX11_init 20 (.invokespecial 18) 3 23 := ⟨by decide +kernel, rfl⟩
theorem dX11_init_23 : zDC cX11_init 23 (.putfield 19) 3 26 := ⟨by decide +kernel, rfl⟩
theorem dX11_init_26 : zDLa cX11_init 26 0 27 := Or.inl ⟨0, by decide +kernel, rfl, rfl⟩
theorem dX11_init_27 : zDC cX11_init 27 (.new 16) 3 30 := ⟨by decide +kernel, rfl⟩
theorem dX11_init_30 : zDC cX11_init 30 .dup 1 31 := ⟨by decide +kernel, rfl⟩
theorem dX11_init_31 : zDC cX11_init 31 (.invokespecial 18) 3 34 := ⟨by decide +kernel, rfl⟩
theorem dX11_init_34 : zDC cX11_init 34 (.putfield 23) 3 37 := ⟨by decide +kernel, rfl⟩
theorem dX11_init_37 : zDLa cX11_init 37 0 38 := Or.inl ⟨0, by decide +kernel, rfl, rfl⟩
theorem dX11_init_38 : zDC cX11_init 38 (.new 16) 3 41 := ⟨by decide +kernel, rfl⟩
theorem dX11_init_41 : zDC cX11_init 41 .dup 1 42 := ⟨by decide +kernel, rfl⟩
theorem dX11_init_42 : zDC cX11_init 42 (.invokespecial 18) 3 45 := ⟨by decide +kernel, rfl⟩
theorem dX11_init_45 : zDC cX11_init 45 (.putfield 26) 3 48 := ⟨by decide +kernel, rfl⟩
theorem dX11_init_48 : zDLa cX11_init 48 0 49 := Or.inl ⟨0, by decide +kernel, rfl, rfl⟩
theorem dX11_init_49 : zDK cX11_init 49 (nI 0) 50 := Or.inl ⟨0, by decide +kernel, by decide, rfl⟩
theorem dX11_init_50 : zDC cX11_init 50 (.putfield 29) 3 53 := ⟨by decide +kernel, rfl⟩
theorem dX11_init_53 : zDLa cX11_init 53 0 54 := Or.inl ⟨0, by decide +kernel, rfl, rfl⟩
theorem dX11_init_54 : zDC cX11_init 54 (.new 33) 3 57 := ⟨by decide +kernel, rfl⟩
theorem dX11_init_57 : zDC cX11_init 57 .dup 1 58 := ⟨by decide +kernel, rfl⟩
theorem dX11_init_58 : zDC cX11_init 58 (.invokespecial 35) 3 61 := ⟨by decide +kernel, rfl⟩
theorem dX11_init_61 : zDC cX11_init 61 (.putfield 36) 3 64 := ⟨by decide +kernel, rfl⟩
theorem dX11_init_64 : zDLa cX11_init 64 0 65 := Or.inl ⟨0, by decide +kernel, rfl, rfl⟩
theorem dX11_init_65 : zDC cX11_init 65 (.new 40) 3 68 := ⟨by decide +kernel, rfl⟩
theorem dX11_init_68 : zDC cX11_init 68 .dup 1 69 := ⟨by decide +kernel, rfl⟩
theorem dX11_init_69 : zDC cX11_init 69 (.invokespecial 42) 3 72 := ⟨by decide +kernel, rfl⟩
theorem dX11_init_72 : zDC cX11_init 72 (.putfield 43) 3 75 := ⟨by decide +kernel, rfl⟩
theorem dX11_init_75 : zDLa cX11_init 75 0 76 := Or.inl ⟨0, by decide +kernel, rfl, rfl⟩
theorem dX11_init_76 : zDC cX11_init 76 (.new 47) 3 79 := ⟨by decide +kernel, rfl⟩
theorem dX11_init_79 : zDC cX11_init 79 .dup 1 80 := ⟨by decide +kernel, rfl⟩
theorem dX11_init_80 : zDC cX11_init 80 (.invokespecial 49) 3 83 := ⟨by decide +kernel, rfl⟩
theorem dX11_init_83 : zDC cX11_init 83 (.putfield 50) 3 86 := ⟨by decide +kernel, rfl⟩
theorem dX11_init_86 : zDLa cX11_init 86 0 87 := Or.inl ⟨0, by decide +kernel, rfl, rfl⟩
theorem dX11_init_87 : zDC cX11_init 87 (.new 54) 3 90 := ⟨by decide +kernel, rfl⟩
theorem dX11_init_90 : zDC cX11_init 90 .dup 1 91 := ⟨by decide +kernel, rfl⟩
theorem dX11_init_91 : zDC cX11_init 91 (.invokespecial 56) 3 94 := ⟨by decide +kernel, rfl⟩
theorem dX11_init_94 : zDC cX11_init 94 (.putfield 57) 3 97 := ⟨by decide +kernel, rfl⟩
theorem dX11_init_97 : zDLa cX11_init 97 0 98 := Or.inl ⟨0, by decide +kernel, rfl, rfl⟩
theorem dX11_init_98 : zDC cX11_init 98 (.new 54) 3 101 := ⟨by decide +kernel, rfl⟩
theorem dX11_init_101 : zDC cX11_init 101 .dup 1 102 := ⟨by decide +kernel, rfl⟩
theorem dX11_init_102 : zDC cX11_init 102 (.invokespecial 56) 3 105 := ⟨by decide +kernel, rfl⟩
theorem dX11_init_105 : zDC cX11_init 105 (.putfield 61) 3 108 := ⟨by decide +kernel, rfl⟩
theorem dX11_init_108 : zDLa cX11_init 108 0 109 := Or.inl ⟨0, by decide +kernel, rfl, rfl⟩
theorem dX11_init_109 : zDC cX11_init 109 (.new 64) 3 112 := ⟨by decide +kernel, rfl⟩
theorem dX11_init_112 : zDC cX11_init 112 .dup 1 113 := ⟨by decide +kernel, rfl⟩
theorem dX11_init_113 : zDC cX11_init 113 (.invokespecial 66) 3 116 := ⟨by decide +kernel, rfl⟩
theorem dX11_init_116 : zDC cX11_init 116 (.putfield 67) 3 119 := ⟨by decide +kernel, rfl⟩
theorem dX11_init_119 : zDLa cX11_init 119 0 120 := Or.inl ⟨0, by decide +kernel, rfl, rfl⟩
theorem dX11_init_120 : zDC cX11_init 120 (.new 71) 3 123 := ⟨by decide +kernel, rfl⟩
theorem dX11_init_123 : zDC cX11_init 123 .dup 1 124 := ⟨by decide +kernel, rfl⟩
theorem dX11_init_124 : zDC cX11_init 124 (.invokespecial 73) 3 127 := ⟨by decide +kernel, rfl⟩
theorem dX11_init_127 : zDC cX11_init 127 (.putfield 74) 3 130 := ⟨by decide +kernel, rfl⟩
theorem dX11_init_130 : zDLa cX11_init 130 0 131 := Or.inl ⟨0, by decide +kernel, rfl, rfl⟩
theorem dX11_init_131 : zDC cX11_init 131 (.new 78) 3 134 := ⟨by decide +kernel, rfl⟩
theorem dX11_init_134 : zDC cX11_init 134 .dup 1 135 := ⟨by decide +kernel, rfl⟩
theorem dX11_init_135 : zDC cX11_init 135 (.invokespecial 80) 3 138 := ⟨by decide +kernel, rfl⟩
theorem dX11_init_138 : zDC cX11_init 138 (.putfield 81) 3 141 := ⟨by decide +kernel, rfl⟩
theorem dX11_init_141 : zDLa cX11_init 141 0 142 := Or.inl ⟨0, by decide +kernel, rfl, rfl⟩
theorem dX11_init_142 : zDC cX11_init 142 (.new 85) 3 145 := ⟨by decide +kernel, rfl⟩
theorem dX11_init_145 : zDC cX11_init 145 .dup 1 146 := ⟨by decide +kernel, rfl⟩
theorem dX11_init_146 : zDC cX11_init 146 (.invokespecial 87) 3 149 := ⟨by decide +kernel, rfl⟩
theorem dX11_init_149 : zDC cX11_init 149 (.putfield 88) 3 152 := ⟨by decide +kernel, rfl⟩
theorem dX11_init_152 : zDC cX11_init 152 .return_ 1 153 := ⟨by decide +kernel, rfl⟩
theorem dX12_init_0 : zDLa cX12_init 0 0 1 := Or.inl ⟨0, by decide +kernel, rfl, rfl⟩
theorem dX12_init_1 : zDC cX12_init 1 (.invokespecial 1) 3 4 := ⟨by decide +kernel, rfl⟩
theorem dX12_init_4 : zDLa cX12_init 4 0 5 := Or.inl ⟨0, by decide +kernel, rfl, rfl⟩
theorem dX12_init_5 : zDK cX12_init 5 (nI 1047) 8 := Or.inr (Or.inr ⟨1047, by decide +kernel, by decide, rfl⟩)
theorem dX12_init_8 : zDC cX12_init 8 (.newarray .int) 2 10 := ⟨by decide +kernel, rfl⟩
theorem dX12_init_10 : zDC cX12_init 10 (.putfield 7) 3 13 := ⟨by decide +kernel, rfl⟩
theorem dX12_init_13 : zDLa cX12_init 13 0 14 := Or.inl ⟨0, by decide +kernel, rfl, rfl⟩
theorem dX12_init_14 : zDK cX12_init 14 (nI 1047) 17 := Or.inr (Or.inr ⟨1047, by decide +kernel, by decide, rfl⟩)
theorem dX12_init_17 : zDC cX12_init 17 (.newarray .int) 2 19 := ⟨by decide +kernel, rfl⟩
theorem dX12_init_19 : zDC cX12_init 19 (.putfield 13) 3 22 := ⟨by decide +kernel, rfl⟩
theorem dX12_init_22 : zDLa cX12_init 22 0 23 := Or.inl ⟨0, by decide +kernel, rfl, rfl⟩
theorem dX12_init_23 : zDK cX12_init 23 (nI 1047) 26 := Or.inr (Or.inr ⟨1047, by decide +kernel, by decide, rfl⟩)
theorem dX12_init_26 : zDC cX12_init 26 (.newarray .int) 2 28 := ⟨by decide +kernel, rfl⟩
theorem dX12_init_28 : zDC cX12_init 28 (.putfield 16) 3 31 := ⟨by decide +kernel, rfl⟩
theorem dX12_init_31 : zDLa cX12_init 31 0 32 := Or.inl ⟨0, by decide +kernel, rfl, rfl⟩
theorem dX12_init_32 : zDK cX12_init 32 (nI 60) 34 := Or.inr (Or.inl ⟨60, by decide +kernel, by decide, rfl⟩)
theorem dX12_init_34 : zDC cX12_init 34 (.newarray .int) 2 36 := ⟨by decide +kernel, rfl⟩
theorem dX12_init_36 : zDC cX12_init 36 (.putfield 19) 3 39 := ⟨by decide +kernel, rfl⟩
theorem dX12_init_39 : zDLa cX12_init 39 0 40 := Or.inl ⟨0, by decide +kernel, rfl, rfl⟩
theorem dX12_init_40 : zDK cX12_init 40 (nI 26) 42 := Or.inr (Or.inl ⟨26, by decide +kernel, by decide, rfl⟩)
theorem dX12_init_42 : zDC cX12_init 42 (.newarray .int) 2 44 := ⟨by decide +kernel, rfl⟩
theorem dX12_init_44 : zDC cX12_init 44 (.putfield 22) 3 47 := ⟨by decide +kernel, rfl⟩
theorem dX12_init_47 : zDLa cX12_init 47 0 48 := Or.inl ⟨0, by decide +kernel, rfl, rfl⟩
theorem dX12_init_48 : zDK cX12_init 48 (nI 60) 50 := Or.inr (Or.inl ⟨60, by decide +kernel, by decide, rfl⟩)
theorem dX12_init_50 : zDC cX12_init 50 (.newarray .int) 2 52 := ⟨by decide +kernel, rfl⟩
theorem dX12_init_52 : zDC cX12_init 52 (.putfield 25) 3 55 := ⟨by decide +kernel, rfl⟩
theorem dX12_init_55 : zDLa cX12_init 55 0 56 := Or.inl ⟨0, by decide +kernel, rfl, rfl⟩
theorem dX12_init_56 : zDK cX12_init 56 (nI 26) 58 := Or.inr (Or.inl ⟨26, by decide +kernel, by decide, rfl⟩)
theorem dX12_init_58 : zDC cX12_init 58 (.newarray .int) 2 60 := ⟨by decide +kernel, rfl⟩
theorem dX12_init_60 : zDC cX12_init 60 (.putfield 28) 3 63 := ⟨by decide +kernel, rfl⟩
theorem dX12_init_63 : zDLa cX12_init 63 0 64 := Or.inl ⟨0, by decide +kernel, rfl, rfl⟩
theorem dX12_init_64 : zDK cX12_init 64 (nI 260) 67 := Or.inr (Or.inr ⟨260, by decide +kernel, by decide, rfl⟩)
theorem dX12_init_67 : zDC cX12_init 67 (.newarray .byte) 2 69 := ⟨by decide +kernel, rfl⟩
theorem dX12_init_69 : zDC cX12_init 69 (.putfield 31) 3 72 := ⟨by decide +kernel, rfl⟩
theorem dX12_init_72 : zDLa cX12_init 72 0 73 := Or.inl ⟨0, by decide +kernel, rfl, rfl⟩
theorem dX12_init_73 : zDK cX12_init 73 (nI 260) 76 := Or.inr (Or.inr ⟨260, by decide +kernel, by decide, rfl⟩)
theorem dX12_init_76 : zDC cX12_init 76 (.newarray .int) 2 78 := ⟨by decide +kernel, rfl⟩
theorem dX12_init_78 : zDC cX12_init 78 (.putfield 35) 3 81 := ⟨by decide +kernel, rfl⟩
theorem dX12_init_81 : zDLa cX12_init 81 0 82 := Or.inl ⟨0, by decide +kernel, rfl, rfl⟩
theorem dX12_init_82 : zDK cX12_init 82 (nI 260) 85 := Or.inr (Or.inr ⟨260, by decide +kernel, by decide, rfl⟩)
theorem dX12_init_85 : zDC cX12_init 85 (.newarray .int) 2 87 := ⟨by decide +kernel, rfl⟩
theorem dX12_init_87 : zDC cX12_init 87 (.putfield 38) 3 90 := ⟨by decide +kernel, rfl⟩
theorem dX12_init_90 : zDLa cX12_init 90 0 91 := Or.inl ⟨0, by decide +kernel, rfl, rfl⟩
theorem dX12_init_91 : zDK cX12_init 91 (nI 16) 93 := Or.inr (Or.inl ⟨16, by decide +kernel, by decide, rfl⟩)
theorem dX12_init_93 : zDC cX12_init 93 (.newarray .int) 2 95 := ⟨by decide +kernel, rfl⟩
theorem dX12_init_95 : zDC cX12_init 95 (.putfield 41) 3 98 := ⟨by decide +kernel, rfl⟩
theorem dX12_init_98 : zDLa cX12_init 98 0 99 := Or.inl ⟨0, by decide +kernel, rfl, rfl⟩
theorem dX12_init_99 : zDK cX12_init 99 (nI 16) 101 := Or.inr (Or.inl ⟨16, by decide +kernel, by decide, rfl⟩)
theorem dX12_init_101 : zDC cX12_init 101 (.newarray .int) 2 103 := ⟨by decide +kernel, rfl⟩
theorem dX12_init_103 : zDC cX12_init 103 (.putfield 44) 3 106 := ⟨by decide +kernel, rfl⟩
theorem dX12_init_106 : zDLa cX12_init 106 0 107 := Or.inl ⟨0, by decide +kernel, rfl, rfl⟩
theorem dX12_init_107 : zDK cX12_init 107 (nI 16) 109 := Or.inr (Or.inl ⟨16, by decide +kernel, by decide, rfl⟩)
theorem dX12_init_109 : zDC cX12_init 109 (.newarray .int) 2 111 := ⟨by decide +kernel, rfl⟩
theorem dX12_init_111 : zDC cX12_init 111 (.putfield 47) 3 114 := ⟨by decide +kernel, rfl⟩
theorem dX12_init_114 : zDLa cX12_init 114 0 115 := Or.inl ⟨0, by decide +kernel, rfl, rfl⟩
theorem dX12_init_115 : zDK cX12_init 115 (nI 16) 117 := Or.inr (Or.inl ⟨16, by decide +kernel, by decide, rfl⟩)
theorem dX12_init_117 : zDC cX12_init 117 (.newarray .int) 2 119 := ⟨by decide +kernel, rfl⟩
theorem dX12_init_119 : zDC cX12_init 119 (.putfield 50) 3 122 := ⟨by decide +kernel, rfl⟩
theorem dX12_init_122 : zDLa cX12_init 122 0 123 := Or.inl ⟨0, by decide +kernel, rfl, rfl⟩
theorem dX12_init_123 : zDK cX12_init 123 (nI 260) 126 := Or.inr (Or.inr ⟨260, by decide +kernel, by decide, rfl⟩)
theorem dX12_init_126 : zDC cX12_init 126 (.newarray .int) 2 128 := ⟨by decide +kernel, rfl⟩
theorem dX12_init_128 : zDC cX12_init 128 (.putfield 53) 3 131 := ⟨by decide +kernel, rfl⟩
theorem dX12_init_131 : zDLa cX12_init 131 0 132 := Or.inl ⟨0, by decide +kernel, rfl, rfl⟩
theorem dX12_init_132 : zDK cX12_init 132 (nI 16) 134 := Or.inr (Or.inl ⟨16, by decide +kernel, by decide, rfl⟩)
theorem dX12_init_134 : zDC cX12_init 134 (.newarray .int) 2 136 := ⟨by decide +kernel, rfl⟩
theorem dX12_init_136 : zDC cX12_init 136 (.putfield 56) 3 139 := ⟨by decide +kernel, rfl⟩
theorem dX12_init_139 : zDLa cX12_init 139 0 140 := Or.inl ⟨0, by decide +kernel, rfl, rfl⟩
theorem dX12_init_140 : zDK cX12_init 140 (nI 16) 142 := Or.inr (Or.inl ⟨16, by decide +kernel, by decide, rfl⟩)
theorem dX12_init_142 : zDC cX12_init 142 (.newarray .int) 2 144 := ⟨by decide +kernel, rfl⟩
theorem dX12_init_144 : zDC cX12_init 144 (.putfield 59) 3 147 := ⟨by decide +kernel, rfl⟩
theorem dX12_init_147 : zDLa cX12_init 147 0 148 := Or.inl ⟨0, by decide +kernel, rfl, rfl⟩
theorem dX12_init_148 : zDK cX12_init 148 (nI 16) 150 := Or.inr (Or.inl ⟨16, by decide +kernel, by decide, rfl⟩)
theorem dX12_init_150 : zDC cX12_init 150 (.newarray .int) 2 152 := ⟨by decide +kernel, rfl⟩
theorem dX12_init_152 : zDC cX12_init 152 (.putfield 62) 3 155 := ⟨by decide +kernel, rfl⟩
theorem dX12_init_155 : zDLa cX12_init 155 0 156 := Or.inl ⟨0, by decide +kernel, rfl, rfl⟩
theorem dX12_init_156 : zDK cX12_init 156 (nI 16) 158 := Or.inr (Or.inl ⟨16, by decide +kernel, by decide, rfl⟩)
theorem dX12_init_158 : zDC cX12_init 158 (.newarray .int) 2 160 := ⟨by decide +kernel, rfl⟩
theorem dX12_init_160 : zDC cX12_init 160 (.putfield 65) 3 163 := ⟨by decide +kernel, rfl⟩
theorem dX12_init_163 : zDLa cX12_init 163 0 164 := Or.inl ⟨0, by decide +kernel, rfl, rfl⟩
theorem dX12_init_164 : zDK cX12_init 164 (nI 260) 167 := Or.inr (Or.inr ⟨260, by decide +kernel, by decide, rfl⟩)
theorem dX12_init_167 : zDC cX12_init 167 (.newarray .int) 2 169 := ⟨by decide +kernel, rfl⟩
theorem dX12_init_169 : zDC cX12_init 169 (.putfield 68) 3 172 := ⟨by decide +kernel, rfl⟩
theorem dX12_init_172 : zDLa cX12_init 172 0 173 := Or.inl ⟨0, by decide +kernel, rfl, rfl⟩
theorem dX12_init_173 : zDK cX12_init 173 (nI 9) 175 := Or.inr (Or.inl ⟨9, by decide +kernel, by decide, rfl⟩)
theorem dX12_init_175 : zDC cX12_init 175 (.newarray .int) 2 177 := ⟨by decide +kernel, rfl⟩
theorem dX12_init_177 : zDC cX12_init 177 (.putfield 71) 3 180 := ⟨by decide +kernel, rfl⟩
theorem dX12_init_180 : zDLa cX12_init 180 0 181 := Or.inl ⟨0, by decide +kernel, rfl, rfl⟩
theorem dX12_init_181 : zDC cX12_init 181 (.ldc 74) 2 183 := ⟨by decide +kernel, rfl⟩
theorem dX12_init_183 : zDC cX12_init 183 (.newarray .int) 2 185 := ⟨by decide +kernel, rfl⟩
theorem dX12_init_185 : zDC cX12_init 185 (.putfield 75) 3 188 := ⟨by decide +kernel, rfl⟩
theorem dX12_init_188 : zDLa cX12_init 188 0 189 := Or.inl ⟨0, by decide +kernel, rfl, rfl⟩
theorem dX12_init_189 : zDC cX12_init 189 (.ldc 74) 2 191 := ⟨by decide +kernel, rfl⟩
theorem dX12_init_191 : zDC cX12_init 191 (.newarray .byte) 2 193 := ⟨by decide +kernel, rfl⟩
theorem dX12_init_193 : zDC cX12_init 193 (.putfield 78) 3 196 := ⟨by decide +kernel, rfl⟩
theorem dX12_init_196 : zDLa cX12_init 196 0 197 := Or.inl ⟨0, by decide +kernel, rfl, rfl⟩
theorem dX12_init_197 : zDK cX12_init 197 (nI 61) 199 := Or.inr (Or.inl ⟨61, by decide +kernel, by decide, rfl⟩)
theorem dX12_init_199 : zDC cX12_init 199 (.newarray .int) 2 201 := ⟨by decide +kernel, rfl⟩
theorem dX12_init_201 : zDC cX12_init 201 (.putfield 81) 3 204 := ⟨by decide +kernel, rfl⟩
theorem dX12_init_204 : zDLa cX12_init 204 0 205 := Or.inl ⟨0, by decide +kernel, rfl, rfl⟩
theorem dX12_init_205 : zDK cX12_init 205 (nI 61) 207 := Or.inr (Or.inl ⟨61, by decide +kernel, by decide, rfl⟩)
theorem dX12_init_207 : zDC cX12_init 207 (.newarray .int) 2 209 := ⟨by decide +kernel, rfl⟩
theorem dX12_init_209 : zDC cX12_init 209 (.putfield 84) 3 212 := ⟨by decide +kernel, rfl⟩
theorem dX12_init_212 : zDLa cX12_init 212 0 213 := Or.inl ⟨0, by decide +kernel, rfl, rfl⟩
theorem dX12_init_213 : zDK cX12_init 213 (nI 61) 215 := Or.inr (Or.inl ⟨61, by decide +kernel, by decide, rfl⟩)
theorem dX12_init_215 : zDC cX12_init 215 (.newarray .int) 2 217 := ⟨by decide +kernel, rfl⟩
theorem dX12_init_217 : zDC cX12_init 217 (.putfield 87) 3 220 := ⟨by decide +kernel, rfl⟩
theorem dX12_init_220 : zDLa cX12_init 220 0 221 := Or.inl ⟨0, by decide +kernel, rfl, rfl⟩
theorem dX12_init_221 : zDK cX12_init 221 (nI 169) 224 := Or.inr (Or.inr ⟨169, by decide +kernel, by decide, rfl⟩)
theorem dX12_init_224 : zDC cX12_init 224 (.newarray .int) 2 226 := ⟨by decide +kernel, rfl⟩
theorem dX12_init_226 : zDC cX12_init 226 (.putfield 90) 3 229 := ⟨by decide +kernel, rfl⟩
theorem dX12_init_229 : zDLa cX12_init 229 0 230 := Or.inl ⟨0, by decide +kernel, rfl, rfl⟩
theorem dX12_init_230 : zDK cX12_init 230 (nI 16) 232 := Or.inr (Or.inl ⟨16, by decide +kernel, by decide, rfl⟩)
theorem dX12_init_232 : zDC cX12_init 232 (.newarray .int) 2 234 := ⟨by decide +kernel, rfl⟩
theorem dX12_init_234 : zDC cX12_init 234 (.putfield 93) 3 237 := ⟨by decide +kernel, rfl⟩
theorem dX12_init_237 : zDLa cX12_init 237 0 238 := Or.inl ⟨0, by decide +kernel, rfl, rfl⟩
theorem dX12_init_238 : zDC cX12_init 238 (.getfield 7) 3 241 := ⟨by decide +kernel, rfl⟩
theorem dX12_init_241 : zDK cX12_init 241 (nI 1046) 244 := Or.inr (Or.inr ⟨1046, by decide +kernel, by decide, rfl⟩)
theorem dX12_init_244 : zDK cX12_init 244 (nI 1) 245 := Or.inl ⟨1, by decide +kernel, by decide, rfl⟩
theorem dX12_init_245 : zDC cX12_init 245 .iastore 1 246 := ⟨by decide +kernel, rfl⟩
theorem dX12_init_246 : zDC cX12_init 246 .return_ 1 247 := ⟨by decide +kernel, rfl⟩
/-- the reference's drawn number begins with 1 -/
def zLot (E : zEV) (q : Nat) : Nat × va_E := (q, .inl (E.2.2.1, 1047, .inl (upd (fun _ => 0) 1046 (nI 1))))
theorem zb_lot {X : zX} {cc : ByteArray} {h0 lv : Nat} {A : Nat → Prop} {la : Array Slot} {nc nl pc p1 p2 p3 p4 q idx : Nat} {own : String} {fs : List Value} {rest : va_W} (hB : zCB X own cc h0 12 lv A la) (hfl : zFL own idx 12 0) (d1 : zDC cc pc (.getfield idx) 3 p1) (d2 : zDK cc p1 (nI 1046) p2) (d3 : zDK cc p2 (nI 1) p3) (d4 : zDC cc p3 .iastore 1 p4)
    (k : zBW X h0 12 A la nc nl p4 [] (.ref q :: fs) (zLot X.1 q :: rest)) : zBW X h0 12 A la nc nl pc [.ref h0] (.ref q :: fs) (zArr X.1 q false 1047 :: rest) := by
  obtain ⟨e1, rfl⟩ := d1
  obtain ⟨⟨C, T, N⟩, g1, g2, g3, g4⟩ := hfl
  have hB' := hB
  obtain ⟨hx, hb, hml, hown, hts, hK, hr, hlk, hN, hin, hl, hA, hci, hlv⟩ := hB
  intro H locs hP hD hS
  refine va_get (D := X.1.2.1) (ci := 12) (C := C) (T := T) (N := N) (v := .ref q) hx hb hts g3 hown hK hP 0 rfl g1 0 g2 (hts _ g4) (fun _ h9 => h9) rfl e1 ?_
  refine zb_k hB' d2 ?_ H locs hP hD hS
  refine zb_k hB' d3 ?_
  obtain ⟨e4, rfl⟩ := d4
  intro H locs hP hD hS
  refine va_iast (i := nI 1046) (x := nI 1) hx hb hK hP hD hS 1 0 rfl rfl ?_ e4 (fun H1 locs1 hP1 hD1 hS1 => k H1 locs1 hP1 hD1 hS1)
  unfold vp_in
  decide
def zS9 (E : zEV) (h : Nat) (w : va_W) : Prop := ∃ (q1 : Nat), w = (h, .inr (9, [.ref q1, .int 0, .int 0, .int 0])) :: [zArr E q1 false 260]
set_option maxRecDepth 20000 in
set_option maxHeartbeats 4000000 in
theorem ctX9_init {E : zEV} : zMk E yX9_init cX9_init 9 [.null, .int 0, .int 0, .int 0] (zS9 E) 1 1 260 :=
  zMk.of (by decide +kernel) rfl (by decide) rfl (fun X h0 A la hE hc hs hB hret => by
    subst hE
    refine zb_al hB dX9_init_0 ?_
    refine zb_super hB oi_9 dX9_init_1 ?_
    refine zb_al hB dX9_init_4 ?_
    refine zb_k hB dX9_init_5 ?_
    refine zb_arrI (n := 260) hB wd_arrI dX9_init_8 (by decide +kernel) (by decide +kernel) (Nat.le_of_ble_eq_true rfl) (by rw [hc]; exact Nat.le_of_ble_eq_true rfl) (by rw [hs]; exact Nat.le_of_ble_eq_true rfl) (fun q1 => ?_)
    refine zb_put hB fl_RX9_9 ff_9_0 rfl rfl (Nat.le_of_ble_eq_true rfl) dX9_init_10 ?_
    show zBW X h0 9 A la 1 260 13 [] [.ref q1, .int 0, .int 0, .int 0] [zArr X.1 q1 false 260]
    exact hret _ _ _ _ dX9_init_13 ⟨q1, rfl⟩)
def zS8 (E : zEV) (h : Nat) (w : va_W) : Prop := ∃ (q1 : Nat), ∃ (q2 : Nat), ∃ (q3 : Nat), ∃ (q4 : Nat), w = (h, .inr (8, [.ref q1, .ref q2, .ref q3, .ref q4, .int 0, .int 0, .int 0, .int (nI 1)])) :: [zArr E q1 false 16, zArr E q2 false 16, zArr E q3 false 20, zArr E q4 false 320]
set_option maxRecDepth 20000 in
set_option maxHeartbeats 4000000 in
theorem ctX8_init {E : zEV} : zMk E yX8_init cX8_init 8 [.null, .null, .null, .null, .int 0, .int 0, .int 0, .int 0] (zS8 E) 1 4 372 :=
  zMk.of (by decide +kernel) rfl (by decide) rfl (fun X h0 A la hE hc hs hB hret => by
    subst hE
    refine zb_al hB dX8_init_0 ?_
    refine zb_super hB oi_8 dX8_init_1 ?_
    refine zb_al hB dX8_init_4 ?_
    refine zb_k hB dX8_init_5 ?_
    refine zb_arrI (n := 16) hB wd_arrI dX8_init_7 (by decide +kernel) (by decide +kernel) (Nat.le_of_ble_eq_true rfl) (by rw [hc]; exact Nat.le_of_ble_eq_true rfl) (by rw [hs]; exact Nat.le_of_ble_eq_true rfl) (fun q1 => ?_)
    refine zb_put hB fl_RX8_9 ff_8_0 rfl rfl (Nat.le_of_ble_eq_true rfl) dX8_init_9 ?_
    show zBW X h0 8 A la 1 16 12 [] [.ref q1, .null, .null, .null, .int 0, .int 0, .int 0, .int 0] [zArr X.1 q1 false 16]
    refine zb_al hB dX8_init_12 ?_
    refine zb_k hB dX8_init_13 ?_
    refine zb_arrI (n := 16) hB wd_arrI dX8_init_15 (by decide +kernel) (by decide +kernel) (Nat.le_of_ble_eq_true rfl) (by rw [hc]; exact Nat.le_of_ble_eq_true rfl) (by rw [hs]; exact Nat.le_of_ble_eq_true rfl) (fun q2 => ?_)
    refine zb_put hB fl_RX8_15 ff_8_1 rfl rfl (Nat.le_of_ble_eq_true rfl) dX8_init_17 ?_
    show zBW X h0 8 A la 2 32 20 [] [.ref q1, .ref q2, .null, .null, .int 0, .int 0, .int 0, .int 0] [zArr X.1 q1 false 16, zArr X.1 q2 false 16]
    refine zb_al hB dX8_init_20 ?_
    refine zb_k hB dX8_init_21 ?_
    refine zb_arrI (n := 20) hB wd_arrI dX8_init_23 (by decide +kernel) (by decide +kernel) (Nat.le_of_ble_eq_true rfl) (by rw [hc]; exact Nat.le_of_ble_eq_true rfl) (by rw [hs]; exact Nat.le_of_ble_eq_true rfl) (fun q3 => ?_)
    refine zb_put hB fl_RX8_18 ff_8_2 rfl rfl (Nat.le_of_ble_eq_true rfl) dX8_init_25 ?_
    show zBW X h0 8 A la 3 52 28 [] [.ref q1, .ref q2, .ref q3, .null, .int 0, .int 0, .int 0, .int 0] [zArr X.1 q1 false 16, zArr X.1 q2 false 16, zArr X.1 q3 false 20]
    refine zb_al hB dX8_init_28 ?_
    refine zb_k hB dX8_init_29 ?_
    refine zb_arrI (n := 320) hB wd_arrI dX8_init_32 (by decide +kernel) (by decide +kernel) (Nat.le_of_ble_eq_true rfl) (by rw [hc]; exact Nat.le_of_ble_eq_true rfl) (by rw [hs]; exact Nat.le_of_ble_eq_true rfl) (fun q4 => ?_)
    refine zb_put hB fl_RX8_21 ff_8_3 rfl rfl (Nat.le_of_ble_eq_true rfl) dX8_init_34 ?_
    show zBW X h0 8 A la 4 372 37 [] [.ref q1, .ref q2, .ref q3, .ref q4, .int 0, .int 0, .int 0, .int 0] [zArr X.1 q1 false 16, zArr X.1 q2 false 16, zArr X.1 q3 false 20, zArr X.1 q4 false 320]
    refine zb_al hB dX8_init_37 ?_
    refine zb_k hB dX8_init_38 ?_
    refine zb_put hB fl_RX8_24 ff_8_7 rfl rfl (Nat.le_of_ble_eq_true rfl) dX8_init_39 ?_
    exact hret _ _ _ _ dX8_init_42 ⟨q1, q2, q3, q4, rfl⟩)
def zS5 (E : zEV) (h : Nat) (w : va_W) : Prop := ∃ (q1 : Nat), ∃ (q2 : Nat), ∃ (q3 : Nat), ∃ (q4 : Nat), ∃ (q5 : Nat), ∃ (q6 : Nat), w = (h, .inr (5, [.ref q1, .ref q2, .ref q3, .ref q4, .ref q5, .ref q6, .int 0, .int 0])) :: [zArr E q1 false 240, zArr E q2 false 240, zArr E q3 false 16, zArr E q4 false 16, zArr E q5 false 16, zArr E q6 false 16]
set_option maxRecDepth 20000 in
set_option maxHeartbeats 4000000 in
theorem ctX5_init {E : zEV} : zMk E yX5_init cX5_init 5 [.null, .null, .null, .null, .null, .null, .int 0, .int 0] (zS5 E) 1 6 544 :=
  zMk.of (by decide +kernel) rfl (by decide) rfl (fun X h0 A la hE hc hs hB hret => by
    subst hE
    refine zb_al hB dX5_init_0 ?_
    refine zb_super hB oi_5 dX5_init_1 ?_
    refine zb_al hB dX5_init_4 ?_
    refine zb_k hB dX5_init_5 ?_
    refine zb_arrI (n := 240) hB wd_arrI dX5_init_8 (by decide +kernel) (by decide +kernel) (Nat.le_of_ble_eq_true rfl) (by rw [hc]; exact Nat.le_of_ble_eq_true rfl) (by rw [hs]; exact Nat.le_of_ble_eq_true rfl) (fun q1 => ?_)
    refine zb_put hB fl_RX5_9 ff_5_0 rfl rfl (Nat.le_of_ble_eq_true rfl) dX5_init_10 ?_
    show zBW X h0 5 A la 1 240 13 [] [.ref q1, .null, .null, .null, .null, .null, .int 0, .int 0] [zArr X.1 q1 false 240]
    refine zb_al hB dX5_init_13 ?_
    refine zb_k hB dX5_init_14 ?_
    refine zb_arrI (n := 240) hB wd_arrI dX5_init_17 (by decide +kernel) (by decide +kernel) (Nat.le_of_ble_eq_true rfl) (by rw [hc]; exact Nat.le_of_ble_eq_true rfl) (by rw [hs]; exact Nat.le_of_ble_eq_true rfl) (fun q2 => ?_)
    refine zb_put hB fl_RX5_15 ff_5_1 rfl rfl (Nat.le_of_ble_eq_true rfl) dX5_init_19 ?_
    show zBW X h0 5 A la 2 480 22 [] [.ref q1, .ref q2, .null, .null, .null, .null, .int 0, .int 0] [zArr X.1 q1 false 240, zArr X.1 q2 false 240]
    refine zb_al hB dX5_init_22 ?_
    refine zb_k hB dX5_init_23 ?_
    refine zb_arrI (n := 16) hB wd_arrI dX5_init_25 (by decide +kernel) (by decide +kernel) (Nat.le_of_ble_eq_true rfl) (by rw [hc]; exact Nat.le_of_ble_eq_true rfl) (by rw [hs]; exact Nat.le_of_ble_eq_true rfl) (fun q3 => ?_)
    refine zb_put hB fl_RX5_18 ff_5_2 rfl rfl (Nat.le_of_ble_eq_true rfl) dX5_init_27 ?_
    show zBW X h0 5 A la 3 496 30 [] [.ref q1, .ref q2, .ref q3, .null, .null, .null, .int 0, .int 0] [zArr X.1 q1 false 240, zArr X.1 q2 false 240, zArr X.1 q3 false 16]
    refine zb_al hB dX5_init_30 ?_
    refine zb_k hB dX5_init_31 ?_
    refine zb_arrI (n := 16) hB wd_arrI dX5_init_33 (by decide +kernel) (by decide +kernel) (Nat.le_of_ble_eq_true rfl) (by rw [hc]; exact Nat.le_of_ble_eq_true rfl) (by rw [hs]; exact Nat.le_of_ble_eq_true rfl) (fun q4 => ?_)
    refine zb_put hB fl_RX5_21 ff_5_3 rfl rfl (Nat.le_of_ble_eq_true rfl) dX5_init_35 ?_
    show zBW X h0 5 A la 4 512 38 [] [.ref q1, .ref q2, .ref q3, .ref q4, .null, .null, .int 0, .int 0] [zArr X.1 q1 false 240, zArr X.1 q2 false 240, zArr X.1 q3 false 16, zArr X.1 q4 false 16]
    refine zb_al hB dX5_init_38 ?_
    refine zb_k hB dX5_init_39 ?_
    refine zb_arrI (n := 16) hB wd_arrI dX5_init_41 (by decide +kernel) (by decide +kernel) (Nat.le_of_ble_eq_true rfl) (by rw [hc]; exact Nat.le_of_ble_eq_true rfl) (by rw [hs]; exact Nat.le_of_ble_eq_true rfl) (fun q5 => ?_)
    refine zb_put hB fl_RX5_24 ff_5_4 rfl rfl (Nat.le_of_ble_eq_true rfl) dX5_init_43 ?_
    show zBW X h0 5 A la 5 528 46 [] [.ref q1, .ref q2, .ref q3, .ref q4, .ref q5, .null, .int 0, .int 0] [zArr X.1 q1 false 240, zArr X.1 q2 false 240, zArr X.1 q3 false 16, zArr X.1 q4 false 16, zArr X.1 q5 false 16]
    refine zb_al hB dX5_init_46 ?_
    refine zb_k hB dX5_init_47 ?_
    refine zb_arrI (n := 16) hB wd_arrI dX5_init_49 (by decide +kernel) (by decide +kernel) (Nat.le_of_ble_eq_true rfl) (by rw [hc]; exact Nat.le_of_ble_eq_true rfl) (by rw [hs]; exact Nat.le_of_ble_eq_true rfl) (fun q6 => ?_)
    refine zb_put hB fl_RX5_27 ff_5_5 rfl rfl (Nat.le_of_ble_eq_true rfl) dX5_init_51 ?_
    show zBW X h0 5 A la 6 544 54 [] [.ref q1, .ref q2, .ref q3, .ref q4, .ref q5, .ref q6, .int 0, .int 0] [zArr X.1 q1 false 240, zArr X.1 q2 false 240, zArr X.1 q3 false 16, zArr X.1 q4 false 16, zArr X.1 q5 false 16, zArr X.1 q6 false 16]
    exact hret _ _ _ _ dX5_init_54 ⟨q1, q2, q3, q4, q5, q6, rfl⟩)
def zS6 (E : zEV) (h : Nat) (w : va_W) : Prop := ∃ (q1 : Nat) (w1 : va_W), ∃ (q2 : Nat) (w2 : va_W), zS5 E q1 w1 ∧ zS5 E q2 w2 ∧ w = (h, .inr (6, [.ref q1, .ref q2])) :: (([] ++ w1) ++ w2)
set_option maxRecDepth 20000 in
set_option maxHeartbeats 4000000 in
theorem ctX6_init {E : zEV} : zMk E yX6_init cX6_init 6 [.null, .null] (zS6 E) 2 14 1104 :=
  zMk.of (by decide +kernel) rfl (by decide) rfl (fun X h0 A la hE hc hs hB hret => by
    subst hE
    refine zb_al hB dX6_init_0 ?_
    refine zb_super hB oi_6 dX6_init_1 ?_
    refine zb_new hB (hq_6_5 (by rw [hs]; exact Nat.le_of_ble_eq_true rfl)) cw_X5_init ci_6_11 rfl (by decide) ctX5_init fl_RX6_12 ff_6_0 ⟨_, rfl⟩ (Nat.le_of_ble_eq_true rfl) (by rw [hc]; exact Nat.le_of_ble_eq_true rfl) dX6_init_4 dX6_init_5 dX6_init_8 dX6_init_9 dX6_init_12 (fun q1 w1 hw1 => ?_)
    show zBW X h0 6 A la 7 552 15 [] [.ref q1, .null] ([] ++ w1)
    refine zb_new hB (hq_6_16 (by rw [hs]; exact Nat.le_of_ble_eq_true rfl)) cw_X5_init ci_6_11 rfl (by decide) ctX5_init fl_RX6_18 ff_6_1 ⟨_, rfl⟩ (Nat.le_of_ble_eq_true rfl) (by rw [hc]; exact Nat.le_of_ble_eq_true rfl) dX6_init_15 dX6_init_16 dX6_init_19 dX6_init_20 dX6_init_23 (fun q2 w2 hw2 => ?_)
    show zBW X h0 6 A la 14 1104 26 [] [.ref q1, .ref q2] (([] ++ w1) ++ w2)
    exact hret _ _ _ _ dX6_init_26 ⟨q1, w1, q2, w2, hw1, hw2, rfl⟩)
def zS10 (E : zEV) (h : Nat) (w : va_W) : Prop := ∃ (q1 : Nat), ∃ (q2 : Nat), w = (h, .inr (10, [.ref q1, .ref q2, .int 0])) :: [zArr E q1 false 9, zArr E q2 false 24]
set_option maxRecDepth 20000 in
set_option maxHeartbeats 4000000 in
theorem ctX10_init {E : zEV} : zMk E yX10_init cX10_init 10 [.null, .null, .int 0] (zS10 E) 1 2 33 :=
  zMk.of (by decide +kernel) rfl (by decide) rfl (fun X h0 A la hE hc hs hB hret => by
    subst hE
    refine zb_al hB dX10_init_0 ?_
    refine zb_super hB oi_10 dX10_init_1 ?_
    refine zb_al hB dX10_init_4 ?_
    refine zb_k hB dX10_init_5 ?_
    refine zb_arrI (n := 9) hB wd_arrI dX10_init_7 (by decide +kernel) (by decide +kernel) (Nat.le_of_ble_eq_true rfl) (by rw [hc]; exact Nat.le_of_ble_eq_true rfl) (by rw [hs]; exact Nat.le_of_ble_eq_true rfl) (fun q1 => ?_)
    refine zb_put hB fl_RX10_11 ff_10_0 rfl rfl (Nat.le_of_ble_eq_true rfl) dX10_init_9 ?_
    show zBW X h0 10 A la 1 9 12 [] [.ref q1, .null, .int 0] [zArr X.1 q1 false 9]
    refine zb_al hB dX10_init_12 ?_
    refine zb_k hB dX10_init_13 ?_
    refine zb_arrI (n := 24) hB wd_arrI dX10_init_15 (by decide +kernel) (by decide +kernel) (Nat.le_of_ble_eq_true rfl) (by rw [hc]; exact Nat.le_of_ble_eq_true rfl) (by rw [hs]; exact Nat.le_of_ble_eq_true rfl) (fun q2 => ?_)
    refine zb_put hB fl_RX10_15 ff_10_1 rfl rfl (Nat.le_of_ble_eq_true rfl) dX10_init_17 ?_
    show zBW X h0 10 A la 2 33 20 [] [.ref q1, .ref q2, .int 0] [zArr X.1 q1 false 9, zArr X.1 q2 false 24]
    exact hret _ _ _ _ dX10_init_20 ⟨q1, q2, rfl⟩)
def zS4 (E : zEV) (h : Nat) (w : va_W) : Prop := ∃ (q1 : Nat), ∃ (q2 : Nat), ∃ (q3 : Nat), w = (h, .inr (4, [.ref q1, .ref q2, .ref q3, .int 0])) :: [zArr E q1 false 20, zArr E q2 false 20, zArr E q3 false 20]
set_option maxRecDepth 20000 in
set_option maxHeartbeats 4000000 in
theorem ctX4_init {E : zEV} : zMk E yX4_init cX4_init 4 [.null, .null, .null, .int 0] (zS4 E) 1 3 60 :=
  zMk.of (by decide +kernel) rfl (by decide) rfl (fun X h0 A la hE hc hs hB hret => by
    subst hE
    refine zb_al hB dX4_init_0 ?_
    refine zb_super hB oi_4 dX4_init_1 ?_
    refine zb_al hB dX4_init_4 ?_
    refine zb_k hB dX4_init_5 ?_
    refine zb_arrI (n := 20) hB wd_arrI dX4_init_7 (by decide +kernel) (by decide +kernel) (Nat.le_of_ble_eq_true rfl) (by rw [hc]; exact Nat.le_of_ble_eq_true rfl) (by rw [hs]; exact Nat.le_of_ble_eq_true rfl) (fun q1 => ?_)
    refine zb_put hB fl_RX4_11 ff_4_0 rfl rfl (Nat.le_of_ble_eq_true rfl) dX4_init_9 ?_
    show zBW X h0 4 A la 1 20 12 [] [.ref q1, .null, .null, .int 0] [zArr X.1 q1 false 20]
    refine zb_al hB dX4_init_12 ?_
    refine zb_k hB dX4_init_13 ?_
    refine zb_arrI (n := 20) hB wd_arrI dX4_init_15 (by decide +kernel) (by decide +kernel) (Nat.le_of_ble_eq_true rfl) (by rw [hc]; exact Nat.le_of_ble_eq_true rfl) (by rw [hs]; exact Nat.le_of_ble_eq_true rfl) (fun q2 => ?_)
    refine zb_put hB fl_RX4_15 ff_4_1 rfl rfl (Nat.le_of_ble_eq_true rfl) dX4_init_17 ?_
    show zBW X h0 4 A la 2 40 20 [] [.ref q1, .ref q2, .null, .int 0] [zArr X.1 q1 false 20, zArr X.1 q2 false 20]
    refine zb_al hB dX4_init_20 ?_
    refine zb_k hB dX4_init_21 ?_
    refine zb_arrI (n := 20) hB wd_arrI dX4_init_23 (by decide +kernel) (by decide +kernel) (Nat.le_of_ble_eq_true rfl) (by rw [hc]; exact Nat.le_of_ble_eq_true rfl) (by rw [hs]; exact Nat.le_of_ble_eq_true rfl) (fun q3 => ?_)
    refine zb_put hB fl_RX4_18 ff_4_2 rfl rfl (Nat.le_of_ble_eq_true rfl) dX4_init_25 ?_
    show zBW X h0 4 A la 3 60 28 [] [.ref q1, .ref q2, .ref q3, .int 0] [zArr X.1 q1 false 20, zArr X.1 q2 false 20, zArr X.1 q3 false 20]
    exact hret _ _ _ _ dX4_init_28 ⟨q1, q2, q3, rfl⟩)
def zS1 (E : zEV) (h : Nat) (w : va_W) : Prop := ∃ (q1 : Nat), ∃ (q2 : Nat), w = (h, .inr (1, [.ref q1, .ref q2, .int 0])) :: [zArr E q1 false 60, zArr E q2 false 26]
set_option maxRecDepth 20000 in
set_option maxHeartbeats 4000000 in
theorem ctX1_init {E : zEV} : zMk E yX1_init cX1_init 1 [.null, .null, .int 0] (zS1 E) 1 2 86 :=
  zMk.of (by decide +kernel) rfl (by decide) rfl (fun X h0 A la hE hc hs hB hret => by
    subst hE
    refine zb_al hB dX1_init_0 ?_
    refine zb_super hB oi_1 dX1_init_1 ?_
    refine zb_al hB dX1_init_4 ?_
    refine zb_k hB dX1_init_5 ?_
    refine zb_arrI (n := 60) hB wd_arrI dX1_init_7 (by decide +kernel) (by decide +kernel) (Nat.le_of_ble_eq_true rfl) (by rw [hc]; exact Nat.le_of_ble_eq_true rfl) (by rw [hs]; exact Nat.le_of_ble_eq_true rfl) (fun q1 => ?_)
    refine zb_put hB fl_RX1_11 ff_1_0 rfl rfl (Nat.le_of_ble_eq_true rfl) dX1_init_9 ?_
    show zBW X h0 1 A la 1 60 12 [] [.ref q1, .null, .int 0] [zArr X.1 q1 false 60]
    refine zb_al hB dX1_init_12 ?_
    refine zb_k hB dX1_init_13 ?_
    refine zb_arrI (n := 26) hB wd_arrI dX1_init_15 (by decide +kernel) (by decide +kernel) (Nat.le_of_ble_eq_true rfl) (by rw [hc]; exact Nat.le_of_ble_eq_true rfl) (by rw [hs]; exact Nat.le_of_ble_eq_true rfl) (fun q2 => ?_)
    refine zb_put hB fl_RX1_15 ff_1_1 rfl rfl (Nat.le_of_ble_eq_true rfl) dX1_init_17 ?_
    show zBW X h0 1 A la 2 86 20 [] [.ref q1, .ref q2, .int 0] [zArr X.1 q1 false 60, zArr X.1 q2 false 26]
    exact hret _ _ _ _ dX1_init_20 ⟨q1, q2, rfl⟩)
def zS7 (E : zEV) (h : Nat) (w : va_W) : Prop := ∃ (q1 : Nat), ∃ (q2 : Nat), ∃ (q3 : Nat), w = (h, .inr (7, [.ref q1, .ref q2, .ref q3])) :: [zArr E q1 false 61, zArr E q2 false 61, zArr E q3 false 61]
set_option maxRecDepth 20000 in
set_option maxHeartbeats 4000000 in
theorem ctX7_init {E : zEV} : zMk E yX7_init cX7_init 7 [.null, .null, .null] (zS7 E) 1 3 183 :=
  zMk.of (by decide +kernel) rfl (by decide) rfl (fun X h0 A la hE hc hs hB hret => by
    subst hE
    refine zb_al hB dX7_init_0 ?_
    refine zb_super hB oi_7 dX7_init_1 ?_
    refine zb_al hB dX7_init_4 ?_
    refine zb_k hB dX7_init_5 ?_
    refine zb_arrI (n := 61) hB wd_arrI dX7_init_7 (by decide +kernel) (by decide +kernel) (Nat.le_of_ble_eq_true rfl) (by rw [hc]; exact Nat.le_of_ble_eq_true rfl) (by rw [hs]; exact Nat.le_of_ble_eq_true rfl) (fun q1 => ?_)
    refine zb_put hB fl_RX7_11 ff_7_0 rfl rfl (Nat.le_of_ble_eq_true rfl) dX7_init_9 ?_
    show zBW X h0 7 A la 1 61 12 [] [.ref q1, .null, .null] [zArr X.1 q1 false 61]
    refine zb_al hB dX7_init_12 ?_
    refine zb_k hB dX7_init_13 ?_
    refine zb_arrI (n := 61) hB wd_arrI dX7_init_15 (by decide +kernel) (by decide +kernel) (Nat.le_of_ble_eq_true rfl) (by rw [hc]; exact Nat.le_of_ble_eq_true rfl) (by rw [hs]; exact Nat.le_of_ble_eq_true rfl) (fun q2 => ?_)
    refine zb_put hB fl_RX7_17 ff_7_1 rfl rfl (Nat.le_of_ble_eq_true rfl) dX7_init_17 ?_
    show zBW X h0 7 A la 2 122 20 [] [.ref q1, .ref q2, .null] [zArr X.1 q1 false 61, zArr X.1 q2 false 61]
    refine zb_al hB dX7_init_20 ?_
    refine zb_k hB dX7_init_21 ?_
    refine zb_arrI (n := 61) hB wd_arrI dX7_init_23 (by decide +kernel) (by decide +kernel) (Nat.le_of_ble_eq_true rfl) (by rw [hc]; exact Nat.le_of_ble_eq_true rfl) (by rw [hs]; exact Nat.le_of_ble_eq_true rfl) (fun q3 => ?_)
    refine zb_put hB fl_RX7_20 ff_7_2 rfl rfl (Nat.le_of_ble_eq_true rfl) dX7_init_25 ?_
    show zBW X h0 7 A la 3 183 28 [] [.ref q1, .ref q2, .ref q3] [zArr X.1 q1 false 61, zArr X.1 q2 false 61, zArr X.1 q3 false 61]
    exact hret _ _ _ _ dX7_init_28 ⟨q1, q2, q3, rfl⟩)
def zS2 (E : zEV) (h : Nat) (w : va_W) : Prop := ∃ (q1 : Nat), ∃ (q2 : Nat), ∃ (q3 : Nat), w = (h, .inr (2, [.ref q1, .ref q2, .ref q3, .int 0])) :: [zArr E q1 false 20, zArr E q2 false 20, zArr E q3 false 20]
set_option maxRecDepth 20000 in
set_option maxHeartbeats 4000000 in
theorem ctX2_init {E : zEV} : zMk E yX2_init cX2_init 2 [.null, .null, .null, .int 0] (zS2 E) 1 3 60 :=
  zMk.of (by decide +kernel) rfl (by decide) rfl (fun X h0 A la hE hc hs hB hret => by
    subst hE
    refine zb_al hB dX2_init_0 ?_
    refine zb_super hB oi_2 dX2_init_1 ?_
    refine zb_al hB dX2_init_4 ?_
    refine zb_k hB dX2_init_5 ?_
    refine zb_arrI (n := 20) hB wd_arrI dX2_init_7 (by decide +kernel) (by decide +kernel) (Nat.le_of_ble_eq_true rfl) (by rw [hc]; exact Nat.le_of_ble_eq_true rfl) (by rw [hs]; exact Nat.le_of_ble_eq_true rfl) (fun q1 => ?_)
    refine zb_put hB fl_RX2_11 ff_2_0 rfl rfl (Nat.le_of_ble_eq_true rfl) dX2_init_9 ?_
    show zBW X h0 2 A la 1 20 12 [] [.ref q1, .null, .null, .int 0] [zArr X.1 q1 false 20]
    refine zb_al hB dX2_init_12 ?_
    refine zb_k hB dX2_init_13 ?_
    refine zb_arrI (n := 20) hB wd_arrI dX2_init_15 (by decide +kernel) (by decide +kernel) (Nat.le_of_ble_eq_true rfl) (by rw [hc]; exact Nat.le_of_ble_eq_true rfl) (by rw [hs]; exact Nat.le_of_ble_eq_true rfl) (fun q2 => ?_)
    refine zb_put hB fl_RX2_15 ff_2_1 rfl rfl (Nat.le_of_ble_eq_true rfl) dX2_init_17 ?_
    show zBW X h0 2 A la 2 40 20 [] [.ref q1, .ref q2, .null, .int 0] [zArr X.1 q1 false 20, zArr X.1 q2 false 20]
    refine zb_al hB dX2_init_20 ?_
    refine zb_k hB dX2_init_21 ?_
    refine zb_arrI (n := 20) hB wd_arrI dX2_init_23 (by decide +kernel) (by decide +kernel) (Nat.le_of_ble_eq_true rfl) (by rw [hc]; exact Nat.le_of_ble_eq_true rfl) (by rw [hs]; exact Nat.le_of_ble_eq_true rfl) (fun q3 => ?_)
    refine zb_put hB fl_RX2_18 ff_2_2 rfl rfl (Nat.le_of_ble_eq_true rfl) dX2_init_25 ?_
    show zBW X h0 2 A la 3 60 28 [] [.ref q1, .ref q2, .ref q3, .int 0] [zArr X.1 q1 false 20, zArr X.1 q2 false 20, zArr X.1 q3 false 20]
    exact hret _ _ _ _ dX2_init_28 ⟨q1, q2, q3, rfl⟩)
def zS0 (E : zEV) (h : Nat) (w : va_W) : Prop := ∃ (q1 : Nat), w = (h, .inr (0, [.ref q1])) :: [zArr E q1 false 256]
set_option maxRecDepth 20000 in
set_option maxHeartbeats 4000000 in
theorem ctX0_init {E : zEV} : zMk E yX0_init cX0_init 0 [.null] (zS0 E) 1 1 256 :=
  zMk.of (by decide +kernel) rfl (by decide) rfl (fun X h0 A la hE hc hs hB hret => by
    subst hE
    refine zb_al hB dX0_init_0 ?_
    refine zb_super hB oi_0 dX0_init_1 ?_
    refine zb_al hB dX0_init_4 ?_
    refine zb_k hB dX0_init_5 ?_
    refine zb_arrI (n := 256) hB wd_arrI dX0_init_8 (by decide +kernel) (by decide +kernel) (Nat.le_of_ble_eq_true rfl) (by rw [hc]; exact Nat.le_of_ble_eq_true rfl) (by rw [hs]; exact Nat.le_of_ble_eq_true rfl) (fun q1 => ?_)
    refine zb_put hB fl_RX0_9 ff_0_0 rfl rfl (Nat.le_of_ble_eq_true rfl) dX0_init_10 ?_
    show zBW X h0 0 A la 1 256 13 [] [.ref q1] [zArr X.1 q1 false 256]
    exact hret _ _ _ _ dX0_init_13 ⟨q1, rfl⟩)
def zS3 (E : zEV) (h : Nat) (w : va_W) : Prop := ∃ (q1 : Nat), ∃ (q2 : Nat), ∃ (q3 : Nat), w = (h, .inr (3, [.ref q1, .int 0, .ref q2, .ref q3])) :: [zArr E q1 false 3, zArr E q2 false 16, zArr E q3 false 169]
set_option maxRecDepth 20000 in
set_option maxHeartbeats 4000000 in
theorem ctX3_init {E : zEV} : zMk E yX3_init cX3_init 3 [.null, .int 0, .null, .null] (zS3 E) 1 3 188 :=
  zMk.of (by decide +kernel) rfl (by decide) rfl (fun X h0 A la hE hc hs hB hret => by
    subst hE
    refine zb_al hB dX3_init_0 ?_
    refine zb_super hB oi_3 dX3_init_1 ?_
    refine zb_al hB dX3_init_4 ?_
    refine zb_k hB dX3_init_5 ?_
    refine zb_arrI (n := 3) hB wd_arrI dX3_init_6 (by decide +kernel) (by decide +kernel) (Nat.le_of_ble_eq_true rfl) (by rw [hc]; exact Nat.le_of_ble_eq_true rfl) (by rw [hs]; exact Nat.le_of_ble_eq_true rfl) (fun q1 => ?_)
    refine zb_put hB fl_RX3_9 ff_3_0 rfl rfl (Nat.le_of_ble_eq_true rfl) dX3_init_8 ?_
    show zBW X h0 3 A la 1 3 11 [] [.ref q1, .int 0, .null, .null] [zArr X.1 q1 false 3]
    refine zb_al hB dX3_init_11 ?_
    refine zb_k hB dX3_init_12 ?_
    refine zb_arrI (n := 16) hB wd_arrI dX3_init_14 (by decide +kernel) (by decide +kernel) (Nat.le_of_ble_eq_true rfl) (by rw [hc]; exact Nat.le_of_ble_eq_true rfl) (by rw [hs]; exact Nat.le_of_ble_eq_true rfl) (fun q2 => ?_)
    refine zb_put hB fl_RX3_15 ff_3_2 rfl rfl (Nat.le_of_ble_eq_true rfl) dX3_init_16 ?_
    show zBW X h0 3 A la 2 19 19 [] [.ref q1, .int 0, .ref q2, .null] [zArr X.1 q1 false 3, zArr X.1 q2 false 16]
    refine zb_al hB dX3_init_19 ?_
    refine zb_k hB dX3_init_20 ?_
    refine zb_arrI (n := 169) hB wd_arrI dX3_init_23 (by decide +kernel) (by decide +kernel) (Nat.le_of_ble_eq_true rfl) (by rw [hc]; exact Nat.le_of_ble_eq_true rfl) (by rw [hs]; exact Nat.le_of_ble_eq_true rfl) (fun q3 => ?_)
    refine zb_put hB fl_RX3_18 ff_3_3 rfl rfl (Nat.le_of_ble_eq_true rfl) dX3_init_25 ?_
    show zBW X h0 3 A la 3 188 28 [] [.ref q1, .int 0, .ref q2, .ref q3] [zArr X.1 q1 false 3, zArr X.1 q2 false 16, zArr X.1 q3 false 169]
    exact hret _ _ _ _ dX3_init_28 ⟨q1, q2, q3, rfl⟩)
def zS11 (E : zEV) (h : Nat) (w : va_W) : Prop := ∃ (q1 : Nat) (w1 : va_W), ∃ (q2 : Nat) (w2 : va_W), ∃ (q3 : Nat) (w3 : va_W), ∃ (q4 : Nat) (w4 : va_W), ∃ (q5 : Nat) (w5 : va_W), ∃ (q6 : Nat) (w6 : va_W), ∃ (q7 : Nat) (w7 : va_W), ∃ (q8 : Nat) (w8 : va_W), ∃ (q9 : Nat) (w9 : va_W), ∃ (q10 : Nat) (w10 : va_W), ∃ (q11 : Nat) (w11 : va_W), ∃ (q12 : Nat) (w12 : va_W), ∃ (q13 : Nat) (w13 : va_W), zS9 E q1 w1 ∧ zS8 E q2 w2 ∧ zS8 E q3 w3 ∧ zS8 E q4 w4 ∧ zS6 E q5 w5 ∧ zS10 E q6 w6 ∧ zS4 E q7 w7 ∧ zS1 E q8 w8 ∧ zS1 E q9 w9 ∧ zS7 E q10 w10 ∧ zS2 E q11 w11 ∧ zS0 E q12 w12 ∧ zS3 E q13 w13 ∧ w = (h, .inr (11, [.ref q1, .ref q2, .ref q3, .ref q4, .int (nI 0), .ref q5, .ref q6, .ref q7, .ref q8, .ref q9, .ref q10, .ref q11, .ref q12, .ref q13])) :: ((((((((((((([] ++ w1) ++ w2) ++ w3) ++ w4) ++ w5) ++ w6) ++ w7) ++ w8) ++ w9) ++ w10) ++ w11) ++ w12) ++ w13)
set_option maxRecDepth 20000 in
set_option maxHeartbeats 4000000 in
theorem ctX11_init {E : zEV} : zMk E yX11_init cX11_init 11 [.null, .null, .null, .null, .int 0, .null, .null, .null, .null, .null, .null, .null, .null, .null] (zS11 E) 3 59 3487 :=
  zMk.of (by decide +kernel) rfl (by decide) rfl (fun X h0 A la hE hc hs hB hret => by
    subst hE
    refine zb_al hB dX11_init_0 ?_
    refine zb_super hB oi_11 dX11_init_1 ?_
    refine zb_new hB (hq_11_5 (by rw [hs]; exact Nat.le_of_ble_eq_true rfl)) cw_X9_init ci_11_9 rfl (by decide) ctX9_init fl_RX11_10 ff_11_0 ⟨_, rfl⟩ (Nat.le_of_ble_eq_true rfl) (by rw [hc]; exact Nat.le_of_ble_eq_true rfl) dX11_init_4 dX11_init_5 dX11_init_8 dX11_init_9 dX11_init_12 (fun q1 w1 hw1 => ?_)
    show zBW X h0 11 A la 2 264 15 [] [.ref q1, .null, .null, .null, .int 0, .null, .null, .null, .null, .null, .null, .null, .null, .null] ([] ++ w1)
    refine zb_new hB (hq_11_16 (by rw [hs]; exact Nat.le_of_ble_eq_true rfl)) cw_X8_init ci_11_18 rfl (by decide) ctX8_init fl_RX11_19 ff_11_1 ⟨_, rfl⟩ (Nat.le_of_ble_eq_true rfl) (by rw [hc]; exact Nat.le_of_ble_eq_true rfl) dX11_init_15 dX11_init_16 dX11_init_19 dX11_init_20 dX11_init_23 (fun q2 w2 hw2 => ?_)
    show zBW X h0 11 A la 7 644 26 [] [.ref q1, .ref q2, .null, .null, .int 0, .null, .null, .null, .null, .null, .null, .null, .null, .null] (([] ++ w1) ++ w2)
    refine zb_new hB (hq_11_27 (by rw [hs]; exact Nat.le_of_ble_eq_true rfl)) cw_X8_init ci_11_18 rfl (by decide) ctX8_init fl_RX11_23 ff_11_2 ⟨_, rfl⟩ (Nat.le_of_ble_eq_true rfl) (by rw [hc]; exact Nat.le_of_ble_eq_true rfl) dX11_init_26 dX11_init_27 dX11_init_30 dX11_init_31 dX11_init_34 (fun q3 w3 hw3 => ?_)
    show zBW X h0 11 A la 12 1024 37 [] [.ref q1, .ref q2, .ref q3, .null, .int 0, .null, .null, .null, .null, .null, .null, .null, .null, .null] ((([] ++ w1) ++ w2) ++ w3)
    refine zb_new hB (hq_11_38 (by rw [hs]; exact Nat.le_of_ble_eq_true rfl)) cw_X8_init ci_11_18 rfl (by decide) ctX8_init fl_RX11_26 ff_11_3 ⟨_, rfl⟩ (Nat.le_of_ble_eq_true rfl) (by rw [hc]; exact Nat.le_of_ble_eq_true rfl) dX11_init_37 dX11_init_38 dX11_init_41 dX11_init_42 dX11_init_45 (fun q4 w4 hw4 => ?_)
    show zBW X h0 11 A la 17 1404 48 [] [.ref q1, .ref q2, .ref q3, .ref q4, .int 0, .null, .null, .null, .null, .null, .null, .null, .null, .null] (((([] ++ w1) ++ w2) ++ w3) ++ w4)
    refine zb_al hB dX11_init_48 ?_
    refine zb_k hB dX11_init_49 ?_
    refine zb_put hB fl_RX11_29 ff_11_4 rfl rfl (Nat.le_of_ble_eq_true rfl) dX11_init_50 ?_
    refine zb_new hB (hq_11_54 (by rw [hs]; exact Nat.le_of_ble_eq_true rfl)) cw_X6_init ci_11_35 rfl (by decide) ctX6_init fl_RX11_36 ff_11_5 ⟨_, rfl⟩ (Nat.le_of_ble_eq_true rfl) (by rw [hc]; exact Nat.le_of_ble_eq_true rfl) dX11_init_53 dX11_init_54 dX11_init_57 dX11_init_58 dX11_init_61 (fun q5 w5 hw5 => ?_)
    show zBW X h0 11 A la 32 2510 64 [] [.ref q1, .ref q2, .ref q3, .ref q4, .int (nI 0), .ref q5, .null, .null, .null, .null, .null, .null, .null, .null] ((((([] ++ w1) ++ w2) ++ w3) ++ w4) ++ w5)
    refine zb_new hB (hq_11_65 (by rw [hs]; exact Nat.le_of_ble_eq_true rfl)) cw_X10_init ci_11_42 rfl (by decide) ctX10_init fl_RX11_43 ff_11_6 ⟨_, rfl⟩ (Nat.le_of_ble_eq_true rfl) (by rw [hc]; exact Nat.le_of_ble_eq_true rfl) dX11_init_64 dX11_init_65 dX11_init_68 dX11_init_69 dX11_init_72 (fun q6 w6 hw6 => ?_)
    show zBW X h0 11 A la 35 2546 75 [] [.ref q1, .ref q2, .ref q3, .ref q4, .int (nI 0), .ref q5, .ref q6, .null, .null, .null, .null, .null, .null, .null] (((((([] ++ w1) ++ w2) ++ w3) ++ w4) ++ w5) ++ w6)
    refine zb_new hB (hq_11_76 (by rw [hs]; exact Nat.le_of_ble_eq_true rfl)) cw_X4_init ci_11_49 rfl (by decide) ctX4_init fl_RX11_50 ff_11_7 ⟨_, rfl⟩ (Nat.le_of_ble_eq_true rfl) (by rw [hc]; exact Nat.le_of_ble_eq_true rfl) dX11_init_75 dX11_init_76 dX11_init_79 dX11_init_80 dX11_init_83 (fun q7 w7 hw7 => ?_)
    show zBW X h0 11 A la 39 2610 86 [] [.ref q1, .ref q2, .ref q3, .ref q4, .int (nI 0), .ref q5, .ref q6, .ref q7, .null, .null, .null, .null, .null, .null] ((((((([] ++ w1) ++ w2) ++ w3) ++ w4) ++ w5) ++ w6) ++ w7)
    refine zb_new hB (hq_11_87 (by rw [hs]; exact Nat.le_of_ble_eq_true rfl)) cw_X1_init ci_11_56 rfl (by decide) ctX1_init fl_RX11_57 ff_11_8 ⟨_, rfl⟩ (Nat.le_of_ble_eq_true rfl) (by rw [hc]; exact Nat.le_of_ble_eq_true rfl) dX11_init_86 dX11_init_87 dX11_init_90 dX11_init_91 dX11_init_94 (fun q8 w8 hw8 => ?_)
    show zBW X h0 11 A la 42 2699 97 [] [.ref q1, .ref q2, .ref q3, .ref q4, .int (nI 0), .ref q5, .ref q6, .ref q7, .ref q8, .null, .null, .null, .null, .null] (((((((([] ++ w1) ++ w2) ++ w3) ++ w4) ++ w5) ++ w6) ++ w7) ++ w8)
    refine zb_new hB (hq_11_98 (by rw [hs]; exact Nat.le_of_ble_eq_true rfl)) cw_X1_init ci_11_56 rfl (by decide) ctX1_init fl_RX11_61 ff_11_9 ⟨_, rfl⟩ (Nat.le_of_ble_eq_true rfl) (by rw [hc]; exact Nat.le_of_ble_eq_true rfl) dX11_init_97 dX11_init_98 dX11_init_101 dX11_init_102 dX11_init_105 (fun q9 w9 hw9 => ?_)
    show zBW X h0 11 A la 45 2788 108 [] [.ref q1, .ref q2, .ref q3, .ref q4, .int (nI 0), .ref q5, .ref q6, .ref q7, .ref q8, .ref q9, .null, .null, .null, .null] ((((((((([] ++ w1) ++ w2) ++ w3) ++ w4) ++ w5) ++ w6) ++ w7) ++ w8) ++ w9)
    refine zb_new hB (hq_11_109 (by rw [hs]; exact Nat.le_of_ble_eq_true rfl)) cw_X7_init ci_11_66 rfl (by decide) ctX7_init fl_RX11_67 ff_11_10 ⟨_, rfl⟩ (Nat.le_of_ble_eq_true rfl) (by rw [hc]; exact Nat.le_of_ble_eq_true rfl) dX11_init_108 dX11_init_109 dX11_init_112 dX11_init_113 dX11_init_116 (fun q10 w10 hw10 => ?_)
    show zBW X h0 11 A la 49 2974 119 [] [.ref q1, .ref q2, .ref q3, .ref q4, .int (nI 0), .ref q5, .ref q6, .ref q7, .ref q8, .ref q9, .ref q10, .null, .null, .null] (((((((((([] ++ w1) ++ w2) ++ w3) ++ w4) ++ w5) ++ w6) ++ w7) ++ w8) ++ w9) ++ w10)
    refine zb_new hB (hq_11_120 (by rw [hs]; exact Nat.le_of_ble_eq_true rfl)) cw_X2_init ci_11_73 rfl (by decide) ctX2_init fl_RX11_74 ff_11_11 ⟨_, rfl⟩ (Nat.le_of_ble_eq_true rfl) (by rw [hc]; exact Nat.le_of_ble_eq_true rfl) dX11_init_119 dX11_init_120 dX11_init_123 dX11_init_124 dX11_init_127 (fun q11 w11 hw11 => ?_)
    show zBW X h0 11 A la 53 3038 130 [] [.ref q1, .ref q2, .ref q3, .ref q4, .int (nI 0), .ref q5, .ref q6, .ref q7, .ref q8, .ref q9, .ref q10, .ref q11, .null, .null] ((((((((((([] ++ w1) ++ w2) ++ w3) ++ w4) ++ w5) ++ w6) ++ w7) ++ w8) ++ w9) ++ w10) ++ w11)
    refine zb_new hB (hq_11_131 (by rw [hs]; exact Nat.le_of_ble_eq_true rfl)) cw_X0_init ci_11_80 rfl (by decide) ctX0_init fl_RX11_81 ff_11_12 ⟨_, rfl⟩ (Nat.le_of_ble_eq_true rfl) (by rw [hc]; exact Nat.le_of_ble_eq_true rfl) dX11_init_130 dX11_init_131 dX11_init_134 dX11_init_135 dX11_init_138 (fun q12 w12 hw12 => ?_)
    show zBW X h0 11 A la 55 3295 141 [] [.ref q1, .ref q2, .ref q3, .ref q4, .int (nI 0), .ref q5, .ref q6, .ref q7, .ref q8, .ref q9, .ref q10, .ref q11, .ref q12, .null] (((((((((((([] ++ w1) ++ w2) ++ w3) ++ w4) ++ w5) ++ w6) ++ w7) ++ w8) ++ w9) ++ w10) ++ w11) ++ w12)
    refine zb_new hB (hq_11_142 (by rw [hs]; exact Nat.le_of_ble_eq_true rfl)) cw_X3_init ci_11_87 rfl (by decide) ctX3_init fl_RX11_88 ff_11_13 ⟨_, rfl⟩ (Nat.le_of_ble_eq_true rfl) (by rw [hc]; exact Nat.le_of_ble_eq_true rfl) dX11_init_141 dX11_init_142 dX11_init_145 dX11_init_146 dX11_init_149 (fun q13 w13 hw13 => ?_)
    show zBW X h0 11 A la 59 3487 152 [] [.ref q1, .ref q2, .ref q3, .ref q4, .int (nI 0), .ref q5, .ref q6, .ref q7, .ref q8, .ref q9, .ref q10, .ref q11, .ref q12, .ref q13] ((((((((((((([] ++ w1) ++ w2) ++ w3) ++ w4) ++ w5) ++ w6) ++ w7) ++ w8) ++ w9) ++ w10) ++ w11) ++ w12) ++ w13)
    exact hret _ _ _ _ dX11_init_152 ⟨q1, w1, q2, w2, q3, w3, q4, w4, q5, w5, q6, w6, q7, w7, q8, w8, q9, w9, q10, w10, q11, w11, q12, w12, q13, w13, hw1, hw2, hw3, hw4, hw5, hw6, hw7, hw8, hw9, hw10, hw11, hw12, hw13, rfl⟩)
def zS12 (E : zEV) (h : Nat) (w : va_W) : Prop := ∃ (q1 : Nat), ∃ (q2 : Nat), ∃ (q3 : Nat), ∃ (q4 : Nat), ∃ (q5 : Nat), ∃ (q6 : Nat), ∃ (q7 : Nat), ∃ (q8 : Nat), ∃ (q9 : Nat), ∃ (q10 : Nat), ∃ (q11 : Nat), ∃ (q12 : Nat), ∃ (q13 : Nat), ∃ (q14 : Nat), ∃ (q15 : Nat), ∃ (q16 : Nat), ∃ (q17 : Nat), ∃ (q18 : Nat), ∃ (q19 : Nat), ∃ (q20 : Nat), ∃ (q21 : Nat), ∃ (q22 : Nat), ∃ (q23 : Nat), ∃ (q24 : Nat), ∃ (q25 : Nat), ∃ (q26 : Nat), ∃ (q27 : Nat), ∃ (q28 : Nat), w = (h, .inr (12, [.ref q1, .ref q2, .ref q3, .ref q4, .ref q5, .ref q6, .ref q7, .int 0, .ref q8, .int 0, .int 0, .int 0, .int 0, .int 0, .int 0, .int 0, .int 0, .int 0, .int 0, .ref q9, .ref q10, .ref q11, .ref q12, .ref q13, .ref q14, .ref q15, .ref q16, .ref q17, .ref q18, .ref q19, .ref q20, .ref q21, .int 0, .int 0, .int 0, .int 0, .ref q22, .ref q23, .int 0, .int 0, .ref q24, .ref q25, .ref q26, .ref q27, .ref q28, .int 0])) :: [zLot E q1, zArr E q2 false 1047, zArr E q3 false 1047, zArr E q4 false 60, zArr E q5 false 26, zArr E q6 false 60, zArr E q7 false 26, zArr E q8 true 260, zArr E q9 false 260, zArr E q10 false 260, zArr E q11 false 16, zArr E q12 false 16, zArr E q13 false 16, zArr E q14 false 16, zArr E q15 false 260, zArr E q16 false 16, zArr E q17 false 16, zArr E q18 false 16, zArr E q19 false 16, zArr E q20 false 260, zArr E q21 false 9, zArr E q22 false 65536, zArr E q23 true 65536, zArr E q24 false 61, zArr E q25 false 61, zArr E q26 false 61, zArr E q27 false 169, zArr E q28 false 16]
set_option maxRecDepth 20000 in
set_option maxHeartbeats 4000000 in
theorem ctX12_init {E : zEV} : zMk E yX12_init cX12_init 12 [.null, .null, .null, .null, .null, .null, .null, .int 0, .null, .int 0, .int 0, .int 0, .int 0, .int 0, .int 0, .int 0, .int 0, .int 0, .int 0, .null, .null, .null, .null, .null, .null, .null, .null, .null, .null, .null, .null, .null, .int 0, .int 0, .int 0, .int 0, .null, .null, .int 0, .int 0, .null, .null, .null, .null, .null, .int 0] (zS12 E) 1 28 136190 :=
  zMk.of (by decide +kernel) rfl (by decide) rfl (fun X h0 A la hE hc hs hB hret => by
    subst hE
    refine zb_al hB dX12_init_0 ?_
    refine zb_super hB oi_12 dX12_init_1 ?_
    refine zb_al hB dX12_init_4 ?_
    refine zb_k hB dX12_init_5 ?_
    refine zb_arrI (n := 1047) hB wd_arrI dX12_init_8 (by decide +kernel) (by decide +kernel) (Nat.le_of_ble_eq_true rfl) (by rw [hc]; exact Nat.le_of_ble_eq_true rfl) (by rw [hs]; exact Nat.le_of_ble_eq_true rfl) (fun q1 => ?_)
    refine zb_put hB fl_RX12_7 ff_12_0 rfl rfl (Nat.le_of_ble_eq_true rfl) dX12_init_10 ?_
    show zBW X h0 12 A la 1 1047 13 [] [.ref q1, .null, .null, .null, .null, .null, .null, .int 0, .null, .int 0, .int 0, .int 0, .int 0, .int 0, .int 0, .int 0, .int 0, .int 0, .int 0, .null, .null, .null, .null, .null, .null, .null, .null, .null, .null, .null, .null, .null, .int 0, .int 0, .int 0, .int 0, .null, .null, .int 0, .int 0, .null, .null, .null, .null, .null, .int 0] [zArr X.1 q1 false 1047]
    refine zb_al hB dX12_init_13 ?_
    refine zb_k hB dX12_init_14 ?_
    refine zb_arrI (n := 1047) hB wd_arrI dX12_init_17 (by decide +kernel) (by decide +kernel) (Nat.le_of_ble_eq_true rfl) (by rw [hc]; exact Nat.le_of_ble_eq_true rfl) (by rw [hs]; exact Nat.le_of_ble_eq_true rfl) (fun q2 => ?_)
    refine zb_put hB fl_RX12_13 ff_12_1 rfl rfl (Nat.le_of_ble_eq_true rfl) dX12_init_19 ?_
    show zBW X h0 12 A la 2 2094 22 [] [.ref q1, .ref q2, .null, .null, .null, .null, .null, .int 0, .null, .int 0, .int 0, .int 0, .int 0, .int 0, .int 0, .int 0, .int 0, .int 0, .int 0, .null, .null, .null, .null, .null, .null, .null, .null, .null, .null, .null, .null, .null, .int 0, .int 0, .int 0, .int 0, .null, .null, .int 0, .int 0, .null, .null, .null, .null, .null, .int 0] [zArr X.1 q1 false 1047, zArr X.1 q2 false 1047]
    refine zb_al hB dX12_init_22 ?_
    refine zb_k hB dX12_init_23 ?_
    refine zb_arrI (n := 1047) hB wd_arrI dX12_init_26 (by decide +kernel) (by decide +kernel) (Nat.le_of_ble_eq_true rfl) (by rw [hc]; exact Nat.le_of_ble_eq_true rfl) (by rw [hs]; exact Nat.le_of_ble_eq_true rfl) (fun q3 => ?_)
    refine zb_put hB fl_RX12_16 ff_12_2 rfl rfl (Nat.le_of_ble_eq_true rfl) dX12_init_28 ?_
    show zBW X h0 12 A la 3 3141 31 [] [.ref q1, .ref q2, .ref q3, .null, .null, .null, .null, .int 0, .null, .int 0, .int 0, .int 0, .int 0, .int 0, .int 0, .int 0, .int 0, .int 0, .int 0, .null, .null, .null, .null, .null, .null, .null, .null, .null, .null, .null, .null, .null, .int 0, .int 0, .int 0, .int 0, .null, .null, .int 0, .int 0, .null, .null, .null, .null, .null, .int 0] [zArr X.1 q1 false 1047, zArr X.1 q2 false 1047, zArr X.1 q3 false 1047]
    refine zb_al hB dX12_init_31 ?_
    refine zb_k hB dX12_init_32 ?_
    refine zb_arrI (n := 60) hB wd_arrI dX12_init_34 (by decide +kernel) (by decide +kernel) (Nat.le_of_ble_eq_true rfl) (by rw [hc]; exact Nat.le_of_ble_eq_true rfl) (by rw [hs]; exact Nat.le_of_ble_eq_true rfl) (fun q4 => ?_)
    refine zb_put hB fl_RX12_19 ff_12_3 rfl rfl (Nat.le_of_ble_eq_true rfl) dX12_init_36 ?_
    show zBW X h0 12 A la 4 3201 39 [] [.ref q1, .ref q2, .ref q3, .ref q4, .null, .null, .null, .int 0, .null, .int 0, .int 0, .int 0, .int 0, .int 0, .int 0, .int 0, .int 0, .int 0, .int 0, .null, .null, .null, .null, .null, .null, .null, .null, .null, .null, .null, .null, .null, .int 0, .int 0, .int 0, .int 0, .null, .null, .int 0, .int 0, .null, .null, .null, .null, .null, .int 0] [zArr X.1 q1 false 1047, zArr X.1 q2 false 1047, zArr X.1 q3 false 1047, zArr X.1 q4 false 60]
    refine zb_al hB dX12_init_39 ?_
    refine zb_k hB dX12_init_40 ?_
    refine zb_arrI (n := 26) hB wd_arrI dX12_init_42 (by decide +kernel) (by decide +kernel) (Nat.le_of_ble_eq_true rfl) (by rw [hc]; exact Nat.le_of_ble_eq_true rfl) (by rw [hs]; exact Nat.le_of_ble_eq_true rfl) (fun q5 => ?_)
    refine zb_put hB fl_RX12_22 ff_12_4 rfl rfl (Nat.le_of_ble_eq_true rfl) dX12_init_44 ?_
    show zBW X h0 12 A la 5 3227 47 [] [.ref q1, .ref q2, .ref q3, .ref q4, .ref q5, .null, .null, .int 0, .null, .int 0, .int 0, .int 0, .int 0, .int 0, .int 0, .int 0, .int 0, .int 0, .int 0, .null, .null, .null, .null, .null, .null, .null, .null, .null, .null, .null, .null, .null, .int 0, .int 0, .int 0, .int 0, .null, .null, .int 0, .int 0, .null, .null, .null, .null, .null, .int 0] [zArr X.1 q1 false 1047, zArr X.1 q2 false 1047, zArr X.1 q3 false 1047, zArr X.1 q4 false 60, zArr X.1 q5 false 26]
    refine zb_al hB dX12_init_47 ?_
    refine zb_k hB dX12_init_48 ?_
    refine zb_arrI (n := 60) hB wd_arrI dX12_init_50 (by decide +kernel) (by decide +kernel) (Nat.le_of_ble_eq_true rfl) (by rw [hc]; exact Nat.le_of_ble_eq_true rfl) (by rw [hs]; exact Nat.le_of_ble_eq_true rfl) (fun q6 => ?_)
    refine zb_put hB fl_RX12_25 ff_12_5 rfl rfl (Nat.le_of_ble_eq_true rfl) dX12_init_52 ?_
    show zBW X h0 12 A la 6 3287 55 [] [.ref q1, .ref q2, .ref q3, .ref q4, .ref q5, .ref q6, .null, .int 0, .null, .int 0, .int 0, .int 0, .int 0, .int 0, .int 0, .int 0, .int 0, .int 0, .int 0, .null, .null, .null, .null, .null, .null, .null, .null, .null, .null, .null, .null, .null, .int 0, .int 0, .int 0, .int 0, .null, .null, .int 0, .int 0, .null, .null, .null, .null, .null, .int 0] [zArr X.1 q1 false 1047, zArr X.1 q2 false 1047, zArr X.1 q3 false 1047, zArr X.1 q4 false 60, zArr X.1 q5 false 26, zArr X.1 q6 false 60]
    refine zb_al hB dX12_init_55 ?_
    refine zb_k hB dX12_init_56 ?_
    refine zb_arrI (n := 26) hB wd_arrI dX12_init_58 (by decide +kernel) (by decide +kernel) (Nat.le_of_ble_eq_true rfl) (by rw [hc]; exact Nat.le_of_ble_eq_true rfl) (by rw [hs]; exact Nat.le_of_ble_eq_true rfl) (fun q7 => ?_)
    refine zb_put hB fl_RX12_28 ff_12_6 rfl rfl (Nat.le_of_ble_eq_true rfl) dX12_init_60 ?_
    show zBW X h0 12 A la 7 3313 63 [] [.ref q1, .ref q2, .ref q3, .ref q4, .ref q5, .ref q6, .ref q7, .int 0, .null, .int 0, .int 0, .int 0, .int 0, .int 0, .int 0, .int 0, .int 0, .int 0, .int 0, .null, .null, .null, .null, .null, .null, .null, .null, .null, .null, .null, .null, .null, .int 0, .int 0, .int 0, .int 0, .null, .null, .int 0, .int 0, .null, .null, .null, .null, .null, .int 0] [zArr X.1 q1 false 1047, zArr X.1 q2 false 1047, zArr X.1 q3 false 1047, zArr X.1 q4 false 60, zArr X.1 q5 false 26, zArr X.1 q6 false 60, zArr X.1 q7 false 26]
    refine zb_al hB dX12_init_63 ?_
    refine zb_k hB dX12_init_64 ?_
    refine zb_arrB (n := 260) hB wd_arrB dX12_init_67 (by decide +kernel) (by decide +kernel) (Nat.le_of_ble_eq_true rfl) (by rw [hc]; exact Nat.le_of_ble_eq_true rfl) (by rw [hs]; exact Nat.le_of_ble_eq_true rfl) (fun q8 => ?_)
    refine zb_put hB fl_RX12_31 ff_12_8 rfl rfl (Nat.le_of_ble_eq_true rfl) dX12_init_69 ?_
    show zBW X h0 12 A la 8 3573 72 [] [.ref q1, .ref q2, .ref q3, .ref q4, .ref q5, .ref q6, .ref q7, .int 0, .ref q8, .int 0, .int 0, .int 0, .int 0, .int 0, .int 0, .int 0, .int 0, .int 0, .int 0, .null, .null, .null, .null, .null, .null, .null, .null, .null, .null, .null, .null, .null, .int 0, .int 0, .int 0, .int 0, .null, .null, .int 0, .int 0, .null, .null, .null, .null, .null, .int 0] [zArr X.1 q1 false 1047, zArr X.1 q2 false 1047, zArr X.1 q3 false 1047, zArr X.1 q4 false 60, zArr X.1 q5 false 26, zArr X.1 q6 false 60, zArr X.1 q7 false 26, zArr X.1 q8 true 260]
    refine zb_al hB dX12_init_72 ?_
    refine zb_k hB dX12_init_73 ?_
    refine zb_arrI (n := 260) hB wd_arrI dX12_init_76 (by decide +kernel) (by decide +kernel) (Nat.le_of_ble_eq_true rfl) (by rw [hc]; exact Nat.le_of_ble_eq_true rfl) (by rw [hs]; exact Nat.le_of_ble_eq_true rfl) (fun q9 => ?_)
    refine zb_put hB fl_RX12_35 ff_12_19 rfl rfl (Nat.le_of_ble_eq_true rfl) dX12_init_78 ?_
    show zBW X h0 12 A la 9 3833 81 [] [.ref q1, .ref q2, .ref q3, .ref q4, .ref q5, .ref q6, .ref q7, .int 0, .ref q8, .int 0, .int 0, .int 0, .int 0, .int 0, .int 0, .int 0, .int 0, .int 0, .int 0, .ref q9, .null, .null, .null, .null, .null, .null, .null, .null, .null, .null, .null, .null, .int 0, .int 0, .int 0, .int 0, .null, .null, .int 0, .int 0, .null, .null, .null, .null, .null, .int 0] [zArr X.1 q1 false 1047, zArr X.1 q2 false 1047, zArr X.1 q3 false 1047, zArr X.1 q4 false 60, zArr X.1 q5 false 26, zArr X.1 q6 false 60, zArr X.1 q7 false 26, zArr X.1 q8 true 260, zArr X.1 q9 false 260]
    refine zb_al hB dX12_init_81 ?_
    refine zb_k hB dX12_init_82 ?_
    refine zb_arrI (n := 260) hB wd_arrI dX12_init_85 (by decide +kernel) (by decide +kernel) (Nat.le_of_ble_eq_true rfl) (by rw [hc]; exact Nat.le_of_ble_eq_true rfl) (by rw [hs]; exact Nat.le_of_ble_eq_true rfl) (fun q10 => ?_)
    refine zb_put hB fl_RX12_38 ff_12_20 rfl rfl (Nat.le_of_ble_eq_true rfl) dX12_init_87 ?_
    show zBW X h0 12 A la 10 4093 90 [] [.ref q1, .ref q2, .ref q3, .ref q4, .ref q5, .ref q6, .ref q7, .int 0, .ref q8, .int 0, .int 0, .int 0, .int 0, .int 0, .int 0, .int 0, .int 0, .int 0, .int 0, .ref q9, .ref q10, .null, .null, .null, .null, .null, .null, .null, .null, .null, .null, .null, .int 0, .int 0, .int 0, .int 0, .null, .null, .int 0, .int 0, .null, .null, .null, .null, .null, .int 0] [zArr X.1 q1 false 1047, zArr X.1 q2 false 1047, zArr X.1 q3 false 1047, zArr X.1 q4 false 60, zArr X.1 q5 false 26, zArr X.1 q6 false 60, zArr X.1 q7 false 26, zArr X.1 q8 true 260, zArr X.1 q9 false 260, zArr X.1 q10 false 260]
    refine zb_al hB dX12_init_90 ?_
    refine zb_k hB dX12_init_91 ?_
    refine zb_arrI (n := 16) hB wd_arrI dX12_init_93 (by decide +kernel) (by decide +kernel) (Nat.le_of_ble_eq_true rfl) (by rw [hc]; exact Nat.le_of_ble_eq_true rfl) (by rw [hs]; exact Nat.le_of_ble_eq_true rfl) (fun q11 => ?_)
    refine zb_put hB fl_RX12_41 ff_12_21 rfl rfl (Nat.le_of_ble_eq_true rfl) dX12_init_95 ?_
    show zBW X h0 12 A la 11 4109 98 [] [.ref q1, .ref q2, .ref q3, .ref q4, .ref q5, .ref q6, .ref q7, .int 0, .ref q8, .int 0, .int 0, .int 0, .int 0, .int 0, .int 0, .int 0, .int 0, .int 0, .int 0, .ref q9, .ref q10, .ref q11, .null, .null, .null, .null, .null, .null, .null, .null, .null, .null, .int 0, .int 0, .int 0, .int 0, .null, .null, .int 0, .int 0, .null, .null, .null, .null, .null, .int 0] [zArr X.1 q1 false 1047, zArr X.1 q2 false 1047, zArr X.1 q3 false 1047, zArr X.1 q4 false 60, zArr X.1 q5 false 26, zArr X.1 q6 false 60, zArr X.1 q7 false 26, zArr X.1 q8 true 260, zArr X.1 q9 false 260, zArr X.1 q10 false 260, zArr X.1 q11 false 16]
    refine zb_al hB dX12_init_98 ?_
    refine zb_k hB dX12_init_99 ?_
    refine zb_arrI (n := 16) hB wd_arrI dX12_init_101 (by decide +kernel) (by decide +kernel) (Nat.le_of_ble_eq_true rfl) (by rw [hc]; exact Nat.le_of_ble_eq_true rfl) (by rw [hs]; exact Nat.le_of_ble_eq_true rfl) (fun q12 => ?_)
    refine zb_put hB fl_RX12_44 ff_12_22 rfl rfl (Nat.le_of_ble_eq_true rfl) dX12_init_103 ?_
    show zBW X h0 12 A la 12 4125 106 [] [.ref q1, .ref q2, .ref q3, .ref q4, .ref q5, .ref q6, .ref q7, .int 0, .ref q8, .int 0, .int 0, .int 0, .int 0, .int 0, .int 0, .int 0, .int 0, .int 0, .int 0, .ref q9, .ref q10, .ref q11, .ref q12, .null, .null, .null, .null, .null, .null, .null, .null, .null, .int 0, .int 0, .int 0, .int 0, .null, .null, .int 0, .int 0, .null, .null, .null, .null, .null, .int 0] [zArr X.1 q1 false 1047, zArr X.1 q2 false 1047, zArr X.1 q3 false 1047, zArr X.1 q4 false 60, zArr X.1 q5 false 26, zArr X.1 q6 false 60, zArr X.1 q7 false 26, zArr X.1 q8 true 260, zArr X.1 q9 false 260, zArr X.1 q10 false 260, zArr X.1 q11 false 16, zArr X.1 q12 false 16]
    refine zb_al hB dX12_init_106 ?_
    refine zb_k hB dX12_init_107 ?_
    refine zb_arrI (n := 16) hB wd_arrI dX12_init_109 (by decide +kernel) (by decide +kernel) (Nat.le_of_ble_eq_true rfl) (by rw [hc]; exact Nat.le_of_ble_eq_true rfl) (by rw [hs]; exact Nat.le_of_ble_eq_true rfl) (fun q13 => ?_)
    refine zb_put hB fl_RX12_47 ff_12_23 rfl rfl (Nat.le_of_ble_eq_true rfl) dX12_init_111 ?_
    show zBW X h0 12 A la 13 4141 114 [] [.ref q1, .ref q2, .ref q3, .ref q4, .ref q5, .ref q6, .ref q7, .int 0, .ref q8, .int 0, .int 0, .int 0, .int 0, .int 0, .int 0, .int 0, .int 0, .int 0, .int 0, .ref q9, .ref q10, .ref q11, .ref q12, .ref q13, .null, .null, .null, .null, .null, .null, .null, .null, .int 0, .int 0, .int 0, .int 0, .null, .null, .int 0, .int 0, .null, .null, .null, .null, .null, .int 0] [zArr X.1 q1 false 1047, zArr X.1 q2 false 1047, zArr X.1 q3 false 1047, zArr X.1 q4 false 60, zArr X.1 q5 false 26, zArr X.1 q6 false 60, zArr X.1 q7 false 26, zArr X.1 q8 true 260, zArr X.1 q9 false 260, zArr X.1 q10 false 260, zArr X.1 q11 false 16, zArr X.1 q12 false 16, zArr X.1 q13 false 16]
    refine zb_al hB dX12_init_114 ?_
    refine zb_k hB dX12_init_115 ?_
    refine zb_arrI (n := 16) hB wd_arrI dX12_init_117 (by decide +kernel) (by decide +kernel) (Nat.le_of_ble_eq_true rfl) (by rw [hc]; exact Nat.le_of_ble_eq_true rfl) (by rw [hs]; exact Nat.le_of_ble_eq_true rfl) (fun q14 => ?_)
    refine zb_put hB fl_RX12_50 ff_12_24 rfl rfl (Nat.le_of_ble_eq_true rfl) dX12_init_119 ?_
    show zBW X h0 12 A la 14 4157 122 [] [.ref q1, .ref q2, .ref q3, .ref q4, .ref q5, .ref q6, .ref q7, .int 0, .ref q8, .int 0, .int 0, .int 0, .int 0, .int 0, .int 0, .int 0, .int 0, .int 0, .int 0, .ref q9, .ref q10, .ref q11, .ref q12, .ref q13, .ref q14, .null, .null, .null, .null, .null, .null, .null, .int 0, .int 0, .int 0, .int 0, .null, .null, .int 0, .int 0, .null, .null, .null, .null, .null, .int 0] [zArr X.1 q1 false 1047, zArr X.1 q2 false 1047, zArr X.1 q3 false 1047, zArr X.1 q4 false 60, zArr X.1 q5 false 26, zArr X.1 q6 false 60, zArr X.1 q7 false 26, zArr X.1 q8 true 260, zArr X.1 q9 false 260, zArr X.1 q10 false 260, zArr X.1 q11 false 16, zArr X.1 q12 false 16, zArr X.1 q13 false 16, zArr X.1 q14 false 16]
    refine zb_al hB dX12_init_122 ?_
    refine zb_k hB dX12_init_123 ?_
    refine zb_arrI (n := 260) hB wd_arrI dX12_init_126 (by decide +kernel) (by decide +kernel) (Nat.le_of_ble_eq_true rfl) (by rw [hc]; exact Nat.le_of_ble_eq_true rfl) (by rw [hs]; exact Nat.le_of_ble_eq_true rfl) (fun q15 => ?_)
    refine zb_put hB fl_RX12_53 ff_12_25 rfl rfl (Nat.le_of_ble_eq_true rfl) dX12_init_128 ?_
    show zBW X h0 12 A la 15 4417 131 [] [.ref q1, .ref q2, .ref q3, .ref q4, .ref q5, .ref q6, .ref q7, .int 0, .ref q8, .int 0, .int 0, .int 0, .int 0, .int 0, .int 0, .int 0, .int 0, .int 0, .int 0, .ref q9, .ref q10, .ref q11, .ref q12, .ref q13, .ref q14, .ref q15, .null, .null, .null, .null, .null, .null, .int 0, .int 0, .int 0, .int 0, .null, .null, .int 0, .int 0, .null, .null, .null, .null, .null, .int 0] [zArr X.1 q1 false 1047, zArr X.1 q2 false 1047, zArr X.1 q3 false 1047, zArr X.1 q4 false 60, zArr X.1 q5 false 26, zArr X.1 q6 false 60, zArr X.1 q7 false 26, zArr X.1 q8 true 260, zArr X.1 q9 false 260, zArr X.1 q10 false 260, zArr X.1 q11 false 16, zArr X.1 q12 false 16, zArr X.1 q13 false 16, zArr X.1 q14 false 16, zArr X.1 q15 false 260]
    refine zb_al hB dX12_init_131 ?_
    refine zb_k hB dX12_init_132 ?_
    refine zb_arrI (n := 16) hB wd_arrI dX12_init_134 (by decide +kernel) (by decide +kernel) (Nat.le_of_ble_eq_true rfl) (by rw [hc]; exact Nat.le_of_ble_eq_true rfl) (by rw [hs]; exact Nat.le_of_ble_eq_true rfl) (fun q16 => ?_)
    refine zb_put hB fl_RX12_56 ff_12_26 rfl rfl (Nat.le_of_ble_eq_true rfl) dX12_init_136 ?_
    show zBW X h0 12 A la 16 4433 139 [] [.ref q1, .ref q2, .ref q3, .ref q4, .ref q5, .ref q6, .ref q7, .int 0, .ref q8, .int 0, .int 0, .int 0, .int 0, .int 0, .int 0, .int 0, .int 0, .int 0, .int 0, .ref q9, .ref q10, .ref q11, .ref q12, .ref q13, .ref q14, .ref q15, .ref q16, .null, .null, .null, .null, .null, .int 0, .int 0, .int 0, .int 0, .null, .null, .int 0, .int 0, .null, .null, .null, .null, .null, .int 0] [zArr X.1 q1 false 1047, zArr X.1 q2 false 1047, zArr X.1 q3 false 1047, zArr X.1 q4 false 60, zArr X.1 q5 false 26, zArr X.1 q6 false 60, zArr X.1 q7 false 26, zArr X.1 q8 true 260, zArr X.1 q9 false 260, zArr X.1 q10 false 260, zArr X.1 q11 false 16, zArr X.1 q12 false 16, zArr X.1 q13 false 16, zArr X.1 q14 false 16, zArr X.1 q15 false 260, zArr X.1 q16 false 16]
    refine zb_al hB dX12_init_139 ?_
    refine zb_k hB dX12_init_140 ?_
    refine zb_arrI (n := 16) hB wd_arrI dX12_init_142 (by decide +kernel) (by decide +kernel) (Nat.le_of_ble_eq_true rfl) (by rw [hc]; exact Nat.le_of_ble_eq_true rfl) (by rw [hs]; exact Nat.le_of_ble_eq_true rfl) (fun q17 => ?_)
    refine zb_put hB fl_RX12_59 ff_12_27 rfl rfl (Nat.le_of_ble_eq_true rfl) dX12_init_144 ?_
    show zBW X h0 12 A la 17 4449 147 [] [.ref q1, .ref q2, .ref q3, .ref q4, .ref q5, .ref q6, .ref q7, .int 0, .ref q8, .int 0, .int 0, .int 0, .int 0, .int 0, .int 0, .int 0, .int 0, .int 0, .int 0, .ref q9, .ref q10, .ref q11, .ref q12, .ref q13, .ref q14, .ref q15, .ref q16, .ref q17, .null, .null, .null, .null, .int 0, .int 0, .int 0, .int 0, .null, .null, .int 0, .int 0, .null, .null, .null, .null, .null, .int 0] [zArr X.1 q1 false 1047, zArr X.1 q2 false 1047, zArr X.1 q3 false 1047, zArr X.1 q4 false 60, zArr X.1 q5 false 26, zArr X.1 q6 false 60, zArr X.1 q7 false 26, zArr X.1 q8 true 260, zArr X.1 q9 false 260, zArr X.1 q10 false 260, zArr X.1 q11 false 16, zArr X.1 q12 false 16, zArr X.1 q13 false 16, zArr X.1 q14 false 16, zArr X.1 q15 false 260, zArr X.1 q16 false 16, zArr X.1 q17 false 16]
    refine zb_al hB dX12_init_147 ?_
    refine zb_k hB dX12_init_148 ?_
    refine zb_arrI (n := 16) hB wd_arrI dX12_init_150 (by decide +kernel) (by decide +kernel) (Nat.le_of_ble_eq_true rfl) (by rw [hc]; exact Nat.le_of_ble_eq_true rfl) (by rw [hs]; exact Nat.le_of_ble_eq_true rfl) (fun q18 => ?_)
    refine zb_put hB fl_RX12_62 ff_12_28 rfl rfl (Nat.le_of_ble_eq_true rfl) dX12_init_152 ?_
    show zBW X h0 12 A la 18 4465 155 [] [.ref q1, .ref q2, .ref q3, .ref q4, .ref q5, .ref q6, .ref q7, .int 0, .ref q8, .int 0, .int 0, .int 0, .int 0, .int 0, .int 0, .int 0, .int 0, .int 0, .int 0, .ref q9, .ref q10, .ref q11, .ref q12, .ref q13, .ref q14, .ref q15, .ref q16, .ref q17, .ref q18, .null, .null, .null, .int 0, .int 0, .int 0, .int 0, .null, .null, .int 0, .int 0, .null, .null, .null, .null, .null, .int 0] [zArr X.1 q1 false 1047, zArr X.1 q2 false 1047, zArr X.1 q3 false 1047, zArr X.1 q4 false 60, zArr X.1 q5 false 26, zArr X.1 q6 false 60, zArr X.1 q7 false 26, zArr X.1 q8 true 260, zArr X.1 q9 false 260, zArr X.1 q10 false 260, zArr X.1 q11 false 16, zArr X.1 q12 false 16, zArr X.1 q13 false 16, zArr X.1 q14 false 16, zArr X.1 q15 false 260, zArr X.1 q16 false 16, zArr X.1 q17 false 16, zArr X.1 q18 false 16]
    refine zb_al hB dX12_init_155 ?_
    refine zb_k hB dX12_init_156 ?_
    refine zb_arrI (n := 16) hB wd_arrI dX12_init_158 (by decide +kernel) (by decide +kernel) (Nat.le_of_ble_eq_true rfl) (by rw [hc]; exact Nat.le_of_ble_eq_true rfl) (by rw [hs]; exact Nat.le_of_ble_eq_true rfl) (fun q19 => ?_)
    refine zb_put hB fl_RX12_65 ff_12_29 rfl rfl (Nat.le_of_ble_eq_true rfl) dX12_init_160 ?_
    show zBW X h0 12 A la 19 4481 163 [] [.ref q1, .ref q2, .ref q3, .ref q4, .ref q5, .ref q6, .ref q7, .int 0, .ref q8, .int 0, .int 0, .int 0, .int 0, .int 0, .int 0, .int 0, .int 0, .int 0, .int 0, .ref q9, .ref q10, .ref q11, .ref q12, .ref q13, .ref q14, .ref q15, .ref q16, .ref q17, .ref q18, .ref q19, .null, .null, .int 0, .int 0, .int 0, .int 0, .null, .null, .int 0, .int 0, .null, .null, .null, .null, .null, .int 0] [zArr X.1 q1 false 1047, zArr X.1 q2 false 1047, zArr X.1 q3 false 1047, zArr X.1 q4 false 60, zArr X.1 q5 false 26, zArr X.1 q6 false 60, zArr X.1 q7 false 26, zArr X.1 q8 true 260, zArr X.1 q9 false 260, zArr X.1 q10 false 260, zArr X.1 q11 false 16, zArr X.1 q12 false 16, zArr X.1 q13 false 16, zArr X.1 q14 false 16, zArr X.1 q15 false 260, zArr X.1 q16 false 16, zArr X.1 q17 false 16, zArr X.1 q18 false 16, zArr X.1 q19 false 16]
    refine zb_al hB dX12_init_163 ?_
    refine zb_k hB dX12_init_164 ?_
    refine zb_arrI (n := 260) hB wd_arrI dX12_init_167 (by decide +kernel) (by decide +kernel) (Nat.le_of_ble_eq_true rfl) (by rw [hc]; exact Nat.le_of_ble_eq_true rfl) (by rw [hs]; exact Nat.le_of_ble_eq_true rfl) (fun q20 => ?_)
    refine zb_put hB fl_RX12_68 ff_12_30 rfl rfl (Nat.le_of_ble_eq_true rfl) dX12_init_169 ?_
    show zBW X h0 12 A la 20 4741 172 [] [.ref q1, .ref q2, .ref q3, .ref q4, .ref q5, .ref q6, .ref q7, .int 0, .ref q8, .int 0, .int 0, .int 0, .int 0, .int 0, .int 0, .int 0, .int 0, .int 0, .int 0, .ref q9, .ref q10, .ref q11, .ref q12, .ref q13, .ref q14, .ref q15, .ref q16, .ref q17, .ref q18, .ref q19, .ref q20, .null, .int 0, .int 0, .int 0, .int 0, .null, .null, .int 0, .int 0, .null, .null, .null, .null, .null, .int 0] [zArr X.1 q1 false 1047, zArr X.1 q2 false 1047, zArr X.1 q3 false 1047, zArr X.1 q4 false 60, zArr X.1 q5 false 26, zArr X.1 q6 false 60, zArr X.1 q7 false 26, zArr X.1 q8 true 260, zArr X.1 q9 false 260, zArr X.1 q10 false 260, zArr X.1 q11 false 16, zArr X.1 q12 false 16, zArr X.1 q13 false 16, zArr X.1 q14 false 16, zArr X.1 q15 false 260, zArr X.1 q16 false 16, zArr X.1 q17 false 16, zArr X.1 q18 false 16, zArr X.1 q19 false 16, zArr X.1 q20 false 260]
    refine zb_al hB dX12_init_172 ?_
    refine zb_k hB dX12_init_173 ?_
    refine zb_arrI (n := 9) hB wd_arrI dX12_init_175 (by decide +kernel) (by decide +kernel) (Nat.le_of_ble_eq_true rfl) (by rw [hc]; exact Nat.le_of_ble_eq_true rfl) (by rw [hs]; exact Nat.le_of_ble_eq_true rfl) (fun q21 => ?_)
    refine zb_put hB fl_RX12_71 ff_12_31 rfl rfl (Nat.le_of_ble_eq_true rfl) dX12_init_177 ?_
    show zBW X h0 12 A la 21 4750 180 [] [.ref q1, .ref q2, .ref q3, .ref q4, .ref q5, .ref q6, .ref q7, .int 0, .ref q8, .int 0, .int 0, .int 0, .int 0, .int 0, .int 0, .int 0, .int 0, .int 0, .int 0, .ref q9, .ref q10, .ref q11, .ref q12, .ref q13, .ref q14, .ref q15, .ref q16, .ref q17, .ref q18, .ref q19, .ref q20, .ref q21, .int 0, .int 0, .int 0, .int 0, .null, .null, .int 0, .int 0, .null, .null, .null, .null, .null, .int 0] [zArr X.1 q1 false 1047, zArr X.1 q2 false 1047, zArr X.1 q3 false 1047, zArr X.1 q4 false 60, zArr X.1 q5 false 26, zArr X.1 q6 false 60, zArr X.1 q7 false 26, zArr X.1 q8 true 260, zArr X.1 q9 false 260, zArr X.1 q10 false 260, zArr X.1 q11 false 16, zArr X.1 q12 false 16, zArr X.1 q13 false 16, zArr X.1 q14 false 16, zArr X.1 q15 false 260, zArr X.1 q16 false 16, zArr X.1 q17 false 16, zArr X.1 q18 false 16, zArr X.1 q19 false 16, zArr X.1 q20 false 260, zArr X.1 q21 false 9]
    refine zb_al hB dX12_init_180 ?_
    refine zb_ldc hB kc_RX12_74 dX12_init_181 ?_
    refine zb_arrI (n := 65536) hB wd_arrI dX12_init_183 (by decide +kernel) (by decide +kernel) (Nat.le_of_ble_eq_true rfl) (by rw [hc]; exact Nat.le_of_ble_eq_true rfl) (by rw [hs]; exact Nat.le_of_ble_eq_true rfl) (fun q22 => ?_)
    refine zb_put hB fl_RX12_75 ff_12_36 rfl rfl (Nat.le_of_ble_eq_true rfl) dX12_init_185 ?_
    show zBW X h0 12 A la 22 70286 188 [] [.ref q1, .ref q2, .ref q3, .ref q4, .ref q5, .ref q6, .ref q7, .int 0, .ref q8, .int 0, .int 0, .int 0, .int 0, .int 0, .int 0, .int 0, .int 0, .int 0, .int 0, .ref q9, .ref q10, .ref q11, .ref q12, .ref q13, .ref q14, .ref q15, .ref q16, .ref q17, .ref q18, .ref q19, .ref q20, .ref q21, .int 0, .int 0, .int 0, .int 0, .ref q22, .null, .int 0, .int 0, .null, .null, .null, .null, .null, .int 0] [zArr X.1 q1 false 1047, zArr X.1 q2 false 1047, zArr X.1 q3 false 1047, zArr X.1 q4 false 60, zArr X.1 q5 false 26, zArr X.1 q6 false 60, zArr X.1 q7 false 26, zArr X.1 q8 true 260, zArr X.1 q9 false 260, zArr X.1 q10 false 260, zArr X.1 q11 false 16, zArr X.1 q12 false 16, zArr X.1 q13 false 16, zArr X.1 q14 false 16, zArr X.1 q15 false 260, zArr X.1 q16 false 16, zArr X.1 q17 false 16, zArr X.1 q18 false 16, zArr X.1 q19 false 16, zArr X.1 q20 false 260, zArr X.1 q21 false 9, zArr X.1 q22 false 65536]
    refine zb_al hB dX12_init_188 ?_
    refine zb_ldc hB kc_RX12_74 dX12_init_189 ?_
    refine zb_arrB (n := 65536) hB wd_arrB dX12_init_191 (by decide +kernel) (by decide +kernel) (Nat.le_of_ble_eq_true rfl) (by rw [hc]; exact Nat.le_of_ble_eq_true rfl) (by rw [hs]; exact Nat.le_of_ble_eq_true rfl) (fun q23 => ?_)
    refine zb_put hB fl_RX12_78 ff_12_37 rfl rfl (Nat.le_of_ble_eq_true rfl) dX12_init_193 ?_
    show zBW X h0 12 A la 23 135822 196 [] [.ref q1, .ref q2, .ref q3, .ref q4, .ref q5, .ref q6, .ref q7, .int 0, .ref q8, .int 0, .int 0, .int 0, .int 0, .int 0, .int 0, .int 0, .int 0, .int 0, .int 0, .ref q9, .ref q10, .ref q11, .ref q12, .ref q13, .ref q14, .ref q15, .ref q16, .ref q17, .ref q18, .ref q19, .ref q20, .ref q21, .int 0, .int 0, .int 0, .int 0, .ref q22, .ref q23, .int 0, .int 0, .null, .null, .null, .null, .null, .int 0] [zArr X.1 q1 false 1047, zArr X.1 q2 false 1047, zArr X.1 q3 false 1047, zArr X.1 q4 false 60, zArr X.1 q5 false 26, zArr X.1 q6 false 60, zArr X.1 q7 false 26, zArr X.1 q8 true 260, zArr X.1 q9 false 260, zArr X.1 q10 false 260, zArr X.1 q11 false 16, zArr X.1 q12 false 16, zArr X.1 q13 false 16, zArr X.1 q14 false 16, zArr X.1 q15 false 260, zArr X.1 q16 false 16, zArr X.1 q17 false 16, zArr X.1 q18 false 16, zArr X.1 q19 false 16, zArr X.1 q20 false 260, zArr X.1 q21 false 9, zArr X.1 q22 false 65536, zArr X.1 q23 true 65536]
    refine zb_al hB dX12_init_196 ?_
    refine zb_k hB dX12_init_197 ?_
    refine zb_arrI (n := 61) hB wd_arrI dX12_init_199 (by decide +kernel) (by decide +kernel) (Nat.le_of_ble_eq_true rfl) (by rw [hc]; exact Nat.le_of_ble_eq_true rfl) (by rw [hs]; exact Nat.le_of_ble_eq_true rfl) (fun q24 => ?_)
    refine zb_put hB fl_RX12_81 ff_12_40 rfl rfl (Nat.le_of_ble_eq_true rfl) dX12_init_201 ?_
    show zBW X h0 12 A la 24 135883 204 [] [.ref q1, .ref q2, .ref q3, .ref q4, .ref q5, .ref q6, .ref q7, .int 0, .ref q8, .int 0, .int 0, .int 0, .int 0, .int 0, .int 0, .int 0, .int 0, .int 0, .int 0, .ref q9, .ref q10, .ref q11, .ref q12, .ref q13, .ref q14, .ref q15, .ref q16, .ref q17, .ref q18, .ref q19, .ref q20, .ref q21, .int 0, .int 0, .int 0, .int 0, .ref q22, .ref q23, .int 0, .int 0, .ref q24, .null, .null, .null, .null, .int 0] [zArr X.1 q1 false 1047, zArr X.1 q2 false 1047, zArr X.1 q3 false 1047, zArr X.1 q4 false 60, zArr X.1 q5 false 26, zArr X.1 q6 false 60, zArr X.1 q7 false 26, zArr X.1 q8 true 260, zArr X.1 q9 false 260, zArr X.1 q10 false 260, zArr X.1 q11 false 16, zArr X.1 q12 false 16, zArr X.1 q13 false 16, zArr X.1 q14 false 16, zArr X.1 q15 false 260, zArr X.1 q16 false 16, zArr X.1 q17 false 16, zArr X.1 q18 false 16, zArr X.1 q19 false 16, zArr X.1 q20 false 260, zArr X.1 q21 false 9, zArr X.1 q22 false 65536, zArr X.1 q23 true 65536, zArr X.1 q24 false 61]
    refine zb_al hB dX12_init_204 ?_
    refine zb_k hB dX12_init_205 ?_
    refine zb_arrI (n := 61) hB wd_arrI dX12_init_207 (by decide +kernel) (by decide +kernel) (Nat.le_of_ble_eq_true rfl) (by rw [hc]; exact Nat.le_of_ble_eq_true rfl) (by rw [hs]; exact Nat.le_of_ble_eq_true rfl) (fun q25 => ?_)
    refine zb_put hB fl_RX12_84 ff_12_41 rfl rfl (Nat.le_of_ble_eq_true rfl) dX12_init_209 ?_
    show zBW X h0 12 A la 25 135944 212 [] [.ref q1, .ref q2, .ref q3, .ref q4, .ref q5, .ref q6, .ref q7, .int 0, .ref q8, .int 0, .int 0, .int 0, .int 0, .int 0, .int 0, .int 0, .int 0, .int 0, .int 0, .ref q9, .ref q10, .ref q11, .ref q12, .ref q13, .ref q14, .ref q15, .ref q16, .ref q17, .ref q18, .ref q19, .ref q20, .ref q21, .int 0, .int 0, .int 0, .int 0, .ref q22, .ref q23, .int 0, .int 0, .ref q24, .ref q25, .null, .null, .null, .int 0] [zArr X.1 q1 false 1047, zArr X.1 q2 false 1047, zArr X.1 q3 false 1047, zArr X.1 q4 false 60, zArr X.1 q5 false 26, zArr X.1 q6 false 60, zArr X.1 q7 false 26, zArr X.1 q8 true 260, zArr X.1 q9 false 260, zArr X.1 q10 false 260, zArr X.1 q11 false 16, zArr X.1 q12 false 16, zArr X.1 q13 false 16, zArr X.1 q14 false 16, zArr X.1 q15 false 260, zArr X.1 q16 false 16, zArr X.1 q17 false 16, zArr X.1 q18 false 16, zArr X.1 q19 false 16, zArr X.1 q20 false 260, zArr X.1 q21 false 9, zArr X.1 q22 false 65536, zArr X.1 q23 true 65536, zArr X.1 q24 false 61, zArr X.1 q25 false 61]
    refine zb_al hB dX12_init_212 ?_
    refine zb_k hB dX12_init_213 ?_
    refine zb_arrI (n := 61) hB wd_arrI dX12_init_215 (by decide +kernel) (by decide +kernel) (Nat.le_of_ble_eq_true rfl) (by rw [hc]; exact Nat.le_of_ble_eq_true rfl) (by rw [hs]; exact Nat.le_of_ble_eq_true rfl) (fun q26 => ?_)
    refine zb_put hB fl_RX12_87 ff_12_42 rfl rfl (Nat.le_of_ble_eq_true rfl) dX12_init_217 ?_
    show zBW X h0 12 A la 26 136005 220 [] [.ref q1, .ref q2, .ref q3, .ref q4, .ref q5, .ref q6, .ref q7, .int 0, .ref q8, .int 0, .int 0, .int 0, .int 0, .int 0, .int 0, .int 0, .int 0, .int 0, .int 0, .ref q9, .ref q10, .ref q11, .ref q12, .ref q13, .ref q14, .ref q15, .ref q16, .ref q17, .ref q18, .ref q19, .ref q20, .ref q21, .int 0, .int 0, .int 0, .int 0, .ref q22, .ref q23, .int 0, .int 0, .ref q24, .ref q25, .ref q26, .null, .null, .int 0] [zArr X.1 q1 false 1047, zArr X.1 q2 false 1047, zArr X.1 q3 false 1047, zArr X.1 q4 false 60, zArr X.1 q5 false 26, zArr X.1 q6 false 60, zArr X.1 q7 false 26, zArr X.1 q8 true 260, zArr X.1 q9 false 260, zArr X.1 q10 false 260, zArr X.1 q11 false 16, zArr X.1 q12 false 16, zArr X.1 q13 false 16, zArr X.1 q14 false 16, zArr X.1 q15 false 260, zArr X.1 q16 false 16, zArr X.1 q17 false 16, zArr X.1 q18 false 16, zArr X.1 q19 false 16, zArr X.1 q20 false 260, zArr X.1 q21 false 9, zArr X.1 q22 false 65536, zArr X.1 q23 true 65536, zArr X.1 q24 false 61, zArr X.1 q25 false 61, zArr X.1 q26 false 61]
    refine zb_al hB dX12_init_220 ?_
    refine zb_k hB dX12_init_221 ?_
    refine zb_arrI (n := 169) hB wd_arrI dX12_init_224 (by decide +kernel) (by decide +kernel) (Nat.le_of_ble_eq_true rfl) (by rw [hc]; exact Nat.le_of_ble_eq_true rfl) (by rw [hs]; exact Nat.le_of_ble_eq_true rfl) (fun q27 => ?_)
    refine zb_put hB fl_RX12_90 ff_12_43 rfl rfl (Nat.le_of_ble_eq_true rfl) dX12_init_226 ?_
    show zBW X h0 12 A la 27 136174 229 [] [.ref q1, .ref q2, .ref q3, .ref q4, .ref q5, .ref q6, .ref q7, .int 0, .ref q8, .int 0, .int 0, .int 0, .int 0, .int 0, .int 0, .int 0, .int 0, .int 0, .int 0, .ref q9, .ref q10, .ref q11, .ref q12, .ref q13, .ref q14, .ref q15, .ref q16, .ref q17, .ref q18, .ref q19, .ref q20, .ref q21, .int 0, .int 0, .int 0, .int 0, .ref q22, .ref q23, .int 0, .int 0, .ref q24, .ref q25, .ref q26, .ref q27, .null, .int 0] [zArr X.1 q1 false 1047, zArr X.1 q2 false 1047, zArr X.1 q3 false 1047, zArr X.1 q4 false 60, zArr X.1 q5 false 26, zArr X.1 q6 false 60, zArr X.1 q7 false 26, zArr X.1 q8 true 260, zArr X.1 q9 false 260, zArr X.1 q10 false 260, zArr X.1 q11 false 16, zArr X.1 q12 false 16, zArr X.1 q13 false 16, zArr X.1 q14 false 16, zArr X.1 q15 false 260, zArr X.1 q16 false 16, zArr X.1 q17 false 16, zArr X.1 q18 false 16, zArr X.1 q19 false 16, zArr X.1 q20 false 260, zArr X.1 q21 false 9, zArr X.1 q22 false 65536, zArr X.1 q23 true 65536, zArr X.1 q24 false 61, zArr X.1 q25 false 61, zArr X.1 q26 false 61, zArr X.1 q27 false 169]
    refine zb_al hB dX12_init_229 ?_
    refine zb_k hB dX12_init_230 ?_
    refine zb_arrI (n := 16) hB wd_arrI dX12_init_232 (by decide +kernel) (by decide +kernel) (Nat.le_of_ble_eq_true rfl) (by rw [hc]; exact Nat.le_of_ble_eq_true rfl) (by rw [hs]; exact Nat.le_of_ble_eq_true rfl) (fun q28 => ?_)
    refine zb_put hB fl_RX12_93 ff_12_44 rfl rfl (Nat.le_of_ble_eq_true rfl) dX12_init_234 ?_
    show zBW X h0 12 A la 28 136190 237 [] [.ref q1, .ref q2, .ref q3, .ref q4, .ref q5, .ref q6, .ref q7, .int 0, .ref q8, .int 0, .int 0, .int 0, .int 0, .int 0, .int 0, .int 0, .int 0, .int 0, .int 0, .ref q9, .ref q10, .ref q11, .ref q12, .ref q13, .ref q14, .ref q15, .ref q16, .ref q17, .ref q18, .ref q19, .ref q20, .ref q21, .int 0, .int 0, .int 0, .int 0, .ref q22, .ref q23, .int 0, .int 0, .ref q24, .ref q25, .ref q26, .ref q27, .ref q28, .int 0] [zArr X.1 q1 false 1047, zArr X.1 q2 false 1047, zArr X.1 q3 false 1047, zArr X.1 q4 false 60, zArr X.1 q5 false 26, zArr X.1 q6 false 60, zArr X.1 q7 false 26, zArr X.1 q8 true 260, zArr X.1 q9 false 260, zArr X.1 q10 false 260, zArr X.1 q11 false 16, zArr X.1 q12 false 16, zArr X.1 q13 false 16, zArr X.1 q14 false 16, zArr X.1 q15 false 260, zArr X.1 q16 false 16, zArr X.1 q17 false 16, zArr X.1 q18 false 16, zArr X.1 q19 false 16, zArr X.1 q20 false 260, zArr X.1 q21 false 9, zArr X.1 q22 false 65536, zArr X.1 q23 true 65536, zArr X.1 q24 false 61, zArr X.1 q25 false 61, zArr X.1 q26 false 61, zArr X.1 q27 false 169, zArr X.1 q28 false 16]
    refine zb_al hB dX12_init_237 ?_
    refine zb_lot hB fl_RX12_7 dX12_init_238 dX12_init_241 dX12_init_244 dX12_init_245 ?_
    exact hret _ _ _ _ dX12_init_246 ⟨q1, q2, q3, q4, q5, q6, q7, q8, q9, q10, q11, q12, q13, q14, q15, q16, q17, q18, q19, q20, q21, q22, q23, q24, q25, q26, q27, q28, rfl⟩)
