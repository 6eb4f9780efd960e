/-! X11_space -/
def fX11_space_68 (F : Nat) (v4 : Int32) (μ : zMem) : Option zR :=
  zBd (fX9_empties F μ) (fun r2 m2 => some (v4, m2))
def fX11_space (F : Nat) (v1 : Int32) (v2 : Int32) (v3 : Int32) (μ : zMem) : Option zR :=
  zBd (fX11_isWithin F v1 (nI 1) (nI 10) μ) (fun r1 m1 => if r1 = 0 then some ((-1 : Int32), m1) else zBd (fX11_isWithin F v2 (nI 0) (nI 255) m1) (fun r2 m2 => if r2 = 0 then some ((-1 : Int32), m2) else zBd (fX11_isWithin F v3 (nI 0) (nI 1) m2) (fun r3 m3 => if r3 = 0 then some ((-1 : Int32), m3) else zBd (fX9_opens F ((nI 2) * v1) m3) (fun r5 m5 => if r5 = 0 then some ((-1 : Int32), m5) else zBd (fX3_noticesThatPayMost F v1 v2 m5) (fun r7 m7 => if v3 = (nI 1) then fX11_space_68 F r7 m7 else if r7 = (-3 : Int32) then fX11_space_68 F r7 m7 else zBd (fX3_paidFor F v1 r7 m7) (fun r9 m9 => zBd (fX9_empties F m9) (fun r11 m11 => some (r9, m11))))))))
set_option maxRecDepth 20000 in
set_option maxHeartbeats 4000000 in
theorem wX11_space_68 {X : zX} {F : Nat} (hC : zCx X RX11 cX11_space 6 4) (hret : zRt X (some .int)) {v4 : Int32} {μ : zMem} (hf : fX11_space_68 F v4 μ = some (zOut X)) : zAW X 68 [some (.ref 0), none, none, none, some (.int v4), none] [] μ := by
  unfold fX11_space_68 at hf
  refine zs_il hC dX11_space_68 rfl ?_
  refine zs_goto hC dX11_space_70 ?_
  refine zs_is hC dX11_space_83 (by decide) rfl ?_
  refine zs_al hC dX11_space_85 rfl ?_
  refine zs_getR 1 hC fl_RX11_10 zL0 rfl dX11_space_86 ?_
  refine zs_callV [] hC cw_X9_empties cl_RX11_120 zL1 rfl (by decide) rfl rfl (Nat.le_of_ble_eq_true rfl) dX11_space_89 (fun _ h => ctX9_empties h) (fun r2 m2 _ hf => ?_) hf
  show zAW X 92 _ _ m2
  refine zs_il hC dX11_space_92 rfl ?_
  exact zs_iret hC hret dX11_space_94 hf
set_option maxRecDepth 20000 in
set_option maxHeartbeats 4000000 in
theorem wX11_space {X : zX} {F : Nat} (hC : zCx X RX11 cX11_space 6 4) (hret : zRt X (some .int)) {v1 : Int32} {v2 : Int32} {v3 : Int32} {μ : zMem} (hf : fX11_space F v1 v2 v3 μ = some (zOut X)) : zAW X 0 [some (.ref 0), some (.int v1), some (.int v2), some (.int v3), none, none] [] μ := by
  unfold fX11_space at hf
  refine zs_il hC dX11_space_0 rfl ?_
  refine zs_k hC dX11_space_1 ?_
  refine zs_k hC dX11_space_2 ?_
  refine zs_callS [.int v1, .int (nI 1), .int (nI 10)] hC cw_X11_isWithin cl_RX11_97 (by decide) rfl rfl (Nat.le_of_ble_eq_true rfl) dX11_space_4 (fun _ h => ctX11_isWithin h) (fun r1 m1 _ hf => ?_) hf
  show zAW X 7 _ (.int r1 :: _) m1
  refine zs_if_eq hC dX11_space_7 (fun _ hf => ?_) (fun _ hf => ?_) hf
  · refine zs_k hC dX11_space_43 ?_
    exact zs_iret hC hret dX11_space_44 hf
  · refine zs_il hC dX11_space_10 rfl ?_
    refine zs_k hC dX11_space_11 ?_
    refine zs_k hC dX11_space_12 ?_
    refine zs_callS [.int v2, .int (nI 0), .int (nI 255)] hC cw_X11_isWithin cl_RX11_97 (by decide) rfl rfl (Nat.le_of_ble_eq_true rfl) dX11_space_15 (fun _ h => ctX11_isWithin h) (fun r2 m2 _ hf => ?_) hf
    show zAW X 18 _ (.int r2 :: _) m2
    refine zs_if_eq hC dX11_space_18 (fun _ hf => ?_) (fun _ hf => ?_) hf
    · refine zs_k hC dX11_space_43 ?_
      exact zs_iret hC hret dX11_space_44 hf
    · refine zs_il hC dX11_space_21 rfl ?_
      refine zs_k hC dX11_space_22 ?_
      refine zs_k hC dX11_space_23 ?_
      refine zs_callS [.int v3, .int (nI 0), .int (nI 1)] hC cw_X11_isWithin cl_RX11_97 (by decide) rfl rfl (Nat.le_of_ble_eq_true rfl) dX11_space_24 (fun _ h => ctX11_isWithin h) (fun r3 m3 _ hf => ?_) hf
      show zAW X 27 _ (.int r3 :: _) m3
      refine zs_if_eq hC dX11_space_27 (fun _ hf => ?_) (fun _ hf => ?_) hf
      · refine zs_k hC dX11_space_43 ?_
        exact zs_iret hC hret dX11_space_44 hf
      · refine zs_al hC dX11_space_30 rfl ?_
        refine zs_getR 1 hC fl_RX11_10 zL0 rfl dX11_space_31 ?_
        refine zs_k hC dX11_space_34 ?_
        refine zs_il hC dX11_space_35 rfl ?_
        refine zs_imul hC dX11_space_36 ?_
        refine zs_callV [.int ((nI 2) * v1)] hC cw_X9_opens cl_RX11_113 zL1 rfl (by decide) rfl rfl (Nat.le_of_ble_eq_true rfl) dX11_space_37 (fun _ h => ctX9_opens h) (fun r5 m5 _ hf => ?_) hf
        show zAW X 40 _ (.int r5 :: _) m5
        refine zs_if_ne hC dX11_space_40 (fun _ hf => ?_) (fun _ hf => ?_) hf
        · refine zs_k hC dX11_space_43 ?_
          exact zs_iret hC hret dX11_space_44 hf
        · refine zs_al hC dX11_space_45 rfl ?_
          refine zs_getR 1 hC fl_RX11_10 zL0 rfl dX11_space_46 ?_
          refine zs_il hC dX11_space_49 rfl ?_
          refine zs_il hC dX11_space_50 rfl ?_
          refine zs_callS [.ref 1, .int v1, .int v2] hC cw_X3_noticesThatPayMost cl_RX11_301 (by decide) rfl rfl (Nat.le_of_ble_eq_true rfl) dX11_space_51 (fun _ h => ctX3_noticesThatPayMost h) (fun r7 m7 _ hf => ?_) hf
          show zAW X 54 _ (.int r7 :: _) m7
          refine zs_is hC dX11_space_54 (by decide) rfl ?_
          refine zs_il hC dX11_space_56 rfl ?_
          refine zs_k hC dX11_space_57 ?_
          refine zs_ic_eq hC dX11_space_58 (fun _ hf => ?_) (fun _ hf => ?_) hf
          · exact zAW.weak (wX11_space_68 hC hret hf) (zLw_s (zLw_n (zLw_n (zLw_n (zLw_s (zLw_n zLw_0))))))
          · refine zs_il hC dX11_space_61 rfl ?_
            refine zs_k hC dX11_space_63 ?_
            refine zs_ic_ne hC dX11_space_65 (fun _ hf => ?_) (fun _ hf => ?_) hf
            · exact zAW.weak (wX11_space_68 hC hret hf) (zLw_s (zLw_n (zLw_n (zLw_n (zLw_s (zLw_n zLw_0))))))
            · refine zs_al hC dX11_space_73 rfl ?_
              refine zs_getR 1 hC fl_RX11_10 zL0 rfl dX11_space_74 ?_
              refine zs_il hC dX11_space_77 rfl ?_
              refine zs_il hC dX11_space_78 rfl ?_
              refine zs_callS [.ref 1, .int v1, .int r7] hC cw_X3_paidFor cl_RX11_304 (by decide) rfl rfl (Nat.le_of_ble_eq_true rfl) dX11_space_80 (fun _ h => ctX3_paidFor h) (fun r9 m9 _ hf => ?_) hf
              show zAW X 83 _ (.int r9 :: _) m9
              refine zs_is hC dX11_space_83 (by decide) rfl ?_
              refine zs_al hC dX11_space_85 rfl ?_
              refine zs_getR 1 hC fl_RX11_10 zL0 rfl dX11_space_86 ?_
              refine zs_callV [] hC cw_X9_empties cl_RX11_120 zL1 rfl (by decide) rfl rfl (Nat.le_of_ble_eq_true rfl) dX11_space_89 (fun _ h => ctX9_empties h) (fun r11 m11 _ hf => ?_) hf
              show zAW X 92 _ _ m11
              refine zs_il hC dX11_space_92 rfl ?_
              exact zs_iret hC hret dX11_space_94 hf
set_option maxRecDepth 20000 in
set_option maxHeartbeats 4000000 in
theorem ctX11_space {E : zEV} {F : Nat} {v1 : Int32} {v2 : Int32} {v3 : Int32} {μ : zMem} {out : zR} (hf : fX11_space F v1 v2 v3 μ = some out) : zCt E yX11_space cX11_space 6 (some .int) 4 [.ref 0, .int v1, .int v2, .int v3] μ out :=
  zCt.of [some (.ref 0), some (.int v1), some (.int v2), some (.int v3), none, none] (by decide +kernel) (Nat.le_of_ble_eq_true rfl) (zLw_s (zLw_s (zLw_s (zLw_s (zLw_e (zLw_e zLw_0)))))) rfl (fun X hE ho hr hC => by
    subst hE; subst ho
    exact wX11_space hC hr hf)
/-! X11_style -/
def fX11_style (F : Nat) (v1 : Int32) (v2 : Int32) (μ : zMem) : Option zR :=
  zBd (fX11_isWithin F v1 (nI 2) (nI 6) μ) (fun r1 m1 => if r1 = 0 then some ((-1 : Int32), m1) else zBd (fX11_isWithin F v2 (nI 0) (nI 1) m1) (fun r2 m2 => if r2 = 0 then some ((-1 : Int32), m2) else zBd (fX9_opens F (((nI 4) * v1) + (nI 4)) m2) (fun r4 m4 => if r4 = 0 then some ((-1 : Int32), m4) else zBd (fX3_nearestWriter F v1 m4) (fun r6 m6 => if v2 = 0 then zBd (fX9_empties F m6) (fun r8 m8 => some (r6, m8)) else zBd (fX3_differenceOf F v1 r6 m6) (fun r10 m10 => zBd (fX9_empties F m10) (fun r12 m12 => some (r10, m12)))))))
set_option maxRecDepth 20000 in
set_option maxHeartbeats 4000000 in
theorem wX11_style {X : zX} {F : Nat} (hC : zCx X RX11 cX11_style 5 3) (hret : zRt X (some .int)) {v1 : Int32} {v2 : Int32} {μ : zMem} (hf : fX11_style F v1 v2 μ = some (zOut X)) : zAW X 0 [some (.ref 0), some (.int v1), some (.int v2), none, none] [] μ := by
  unfold fX11_style at hf
  refine zs_il hC dX11_style_0 rfl ?_
  refine zs_k hC dX11_style_1 ?_
  refine zs_k hC dX11_style_2 ?_
  refine zs_callS [.int v1, .int (nI 2), .int (nI 6)] hC cw_X11_isWithin cl_RX11_97 (by decide) rfl rfl (Nat.le_of_ble_eq_true rfl) dX11_style_4 (fun _ h => ctX11_isWithin h) (fun r1 m1 _ hf => ?_) hf
  show zAW X 7 _ (.int r1 :: _) m1
  refine zs_if_eq hC dX11_style_7 (fun _ hf => ?_) (fun _ hf => ?_) hf
  · refine zs_k hC dX11_style_34 ?_
    exact zs_iret hC hret dX11_style_35 hf
  · refine zs_il hC dX11_style_10 rfl ?_
    refine zs_k hC dX11_style_11 ?_
    refine zs_k hC dX11_style_12 ?_
    refine zs_callS [.int v2, .int (nI 0), .int (nI 1)] hC cw_X11_isWithin cl_RX11_97 (by decide) rfl rfl (Nat.le_of_ble_eq_true rfl) dX11_style_13 (fun _ h => ctX11_isWithin h) (fun r2 m2 _ hf => ?_) hf
    show zAW X 16 _ (.int r2 :: _) m2
    refine zs_if_eq hC dX11_style_16 (fun _ hf => ?_) (fun _ hf => ?_) hf
    · refine zs_k hC dX11_style_34 ?_
      exact zs_iret hC hret dX11_style_35 hf
    · refine zs_al hC dX11_style_19 rfl ?_
      refine zs_getR 1 hC fl_RX11_10 zL0 rfl dX11_style_20 ?_
      refine zs_k hC dX11_style_23 ?_
      refine zs_il hC dX11_style_24 rfl ?_
      refine zs_imul hC dX11_style_25 ?_
      refine zs_k hC dX11_style_26 ?_
      refine zs_iadd hC dX11_style_27 ?_
      refine zs_callV [.int (((nI 4) * v1) + (nI 4))] hC cw_X9_opens cl_RX11_113 zL1 rfl (by decide) rfl rfl (Nat.le_of_ble_eq_true rfl) dX11_style_28 (fun _ h => ctX9_opens h) (fun r4 m4 _ hf => ?_) hf
      show zAW X 31 _ (.int r4 :: _) m4
      refine zs_if_ne hC dX11_style_31 (fun _ hf => ?_) (fun _ hf => ?_) hf
      · refine zs_k hC dX11_style_34 ?_
        exact zs_iret hC hret dX11_style_35 hf
      · refine zs_al hC dX11_style_36 rfl ?_
        refine zs_getR 1 hC fl_RX11_10 zL0 rfl dX11_style_37 ?_
        refine zs_il hC dX11_style_40 rfl ?_
        refine zs_callS [.ref 1, .int v1] hC cw_X3_nearestWriter cl_RX11_307 (by decide) rfl rfl (Nat.le_of_ble_eq_true rfl) dX11_style_41 (fun _ h => ctX3_nearestWriter h) (fun r6 m6 _ hf => ?_) hf
        show zAW X 44 _ (.int r6 :: _) m6
        refine zs_is hC dX11_style_44 (by decide) rfl ?_
        refine zs_il hC dX11_style_45 rfl ?_
        refine zs_if_ne hC dX11_style_46 (fun _ hf => ?_) (fun _ hf => ?_) hf
        · refine zs_il hC dX11_style_49 rfl ?_
          refine zs_goto hC dX11_style_50 ?_
          refine zs_is hC dX11_style_62 (by decide) rfl ?_
          refine zs_al hC dX11_style_64 rfl ?_
          refine zs_getR 1 hC fl_RX11_10 zL0 rfl dX11_style_65 ?_
          refine zs_callV [] hC cw_X9_empties cl_RX11_120 zL1 rfl (by decide) rfl rfl (Nat.le_of_ble_eq_true rfl) dX11_style_68 (fun _ h => ctX9_empties h) (fun r8 m8 _ hf => ?_) hf
          show zAW X 71 _ _ m8
          refine zs_il hC dX11_style_71 rfl ?_
          exact zs_iret hC hret dX11_style_73 hf
        · refine zs_al hC dX11_style_53 rfl ?_
          refine zs_getR 1 hC fl_RX11_10 zL0 rfl dX11_style_54 ?_
          refine zs_il hC dX11_style_57 rfl ?_
          refine zs_il hC dX11_style_58 rfl ?_
          refine zs_callS [.ref 1, .int v1, .int r6] hC cw_X3_differenceOf cl_RX11_311 (by decide) rfl rfl (Nat.le_of_ble_eq_true rfl) dX11_style_59 (fun _ h => ctX3_differenceOf h) (fun r10 m10 _ hf => ?_) hf
          show zAW X 62 _ (.int r10 :: _) m10
          refine zs_is hC dX11_style_62 (by decide) rfl ?_
          refine zs_al hC dX11_style_64 rfl ?_
          refine zs_getR 1 hC fl_RX11_10 zL0 rfl dX11_style_65 ?_
          refine zs_callV [] hC cw_X9_empties cl_RX11_120 zL1 rfl (by decide) rfl rfl (Nat.le_of_ble_eq_true rfl) dX11_style_68 (fun _ h => ctX9_empties h) (fun r12 m12 _ hf => ?_) hf
          show zAW X 71 _ _ m12
          refine zs_il hC dX11_style_71 rfl ?_
          exact zs_iret hC hret dX11_style_73 hf
set_option maxRecDepth 20000 in
set_option maxHeartbeats 4000000 in
theorem ctX11_style {E : zEV} {F : Nat} {v1 : Int32} {v2 : Int32} {μ : zMem} {out : zR} (hf : fX11_style F v1 v2 μ = some out) : zCt E yX11_style cX11_style 5 (some .int) 3 [.ref 0, .int v1, .int v2] μ out :=
  zCt.of [some (.ref 0), some (.int v1), some (.int v2), none, none] (by decide +kernel) (Nat.le_of_ble_eq_true rfl) (zLw_s (zLw_s (zLw_s (zLw_e (zLw_e zLw_0))))) rfl (fun X hE ho hr hC => by
    subst hE; subst ho
    exact wX11_style hC hr hf)
/-! X11_names -/
def fX11_names (F : Nat) (v1 : Int32) (v2 : Int32) (μ : zMem) : Option zR :=
  zBd (fX11_isWithin F v1 (nI 1) (nI 12) μ) (fun r1 m1 => if r1 = 0 then some ((-1 : Int32), m1) else zBd (fX11_isWithin F v2 (nI 1) (nI 12) m1) (fun r2 m2 => if r2 = 0 then some ((-1 : Int32), m2) else zBd (fX9_opens F (v1 + v2) m2) (fun r4 m4 => if r4 = 0 then some ((-1 : Int32), m4) else zBd (fX3_lettersApart F v1 v2 m4) (fun r7 m7 => zBd (fX9_empties F m7) (fun r9 m9 => some (r7, m9))))))
set_option maxRecDepth 20000 in
set_option maxHeartbeats 4000000 in
theorem wX11_names {X : zX} {F : Nat} (hC : zCx X RX11 cX11_names 4 3) (hret : zRt X (some .int)) {v1 : Int32} {v2 : Int32} {μ : zMem} (hf : fX11_names F v1 v2 μ = some (zOut X)) : zAW X 0 [some (.ref 0), some (.int v1), some (.int v2), none] [] μ := by
  unfold fX11_names at hf
  refine zs_il hC dX11_names_0 rfl ?_
  refine zs_k hC dX11_names_1 ?_
  refine zs_k hC dX11_names_2 ?_
  refine zs_callS [.int v1, .int (nI 1), .int (nI 12)] hC cw_X11_isWithin cl_RX11_97 (by decide) rfl rfl (Nat.le_of_ble_eq_true rfl) dX11_names_4 (fun _ h => ctX11_isWithin h) (fun r1 m1 _ hf => ?_) hf
  show zAW X 7 _ (.int r1 :: _) m1
  refine zs_if_eq hC dX11_names_7 (fun _ hf => ?_) (fun _ hf => ?_) hf
  · refine zs_k hC dX11_names_33 ?_
    exact zs_iret hC hret dX11_names_34 hf
  · refine zs_il hC dX11_names_10 rfl ?_
    refine zs_k hC dX11_names_11 ?_
    refine zs_k hC dX11_names_12 ?_
    refine zs_callS [.int v2, .int (nI 1), .int (nI 12)] hC cw_X11_isWithin cl_RX11_97 (by decide) rfl rfl (Nat.le_of_ble_eq_true rfl) dX11_names_14 (fun _ h => ctX11_isWithin h) (fun r2 m2 _ hf => ?_) hf
    show zAW X 17 _ (.int r2 :: _) m2
    refine zs_if_eq hC dX11_names_17 (fun _ hf => ?_) (fun _ hf => ?_) hf
    · refine zs_k hC dX11_names_33 ?_
      exact zs_iret hC hret dX11_names_34 hf
    · refine zs_al hC dX11_names_20 rfl ?_
      refine zs_getR 1 hC fl_RX11_10 zL0 rfl dX11_names_21 ?_
      refine zs_il hC dX11_names_24 rfl ?_
      refine zs_il hC dX11_names_25 rfl ?_
      refine zs_iadd hC dX11_names_26 ?_
      refine zs_callV [.int (v1 + v2)] hC cw_X9_opens cl_RX11_113 zL1 rfl (by decide) rfl rfl (Nat.le_of_ble_eq_true rfl) dX11_names_27 (fun _ h => ctX9_opens h) (fun r4 m4 _ hf => ?_) hf
      show zAW X 30 _ (.int r4 :: _) m4
      refine zs_if_ne hC dX11_names_30 (fun _ hf => ?_) (fun _ hf => ?_) hf
      · refine zs_k hC dX11_names_33 ?_
        exact zs_iret hC hret dX11_names_34 hf
      · refine zs_al hC dX11_names_35 rfl ?_
        refine zs_getR 56 hC fl_RX11_88 zL0 rfl dX11_names_36 ?_
        refine zs_al hC dX11_names_39 rfl ?_
        refine zs_getR 1 hC fl_RX11_10 zL0 rfl dX11_names_40 ?_
        refine zs_il hC dX11_names_43 rfl ?_
        refine zs_il hC dX11_names_44 rfl ?_
        refine zs_callV [.ref 1, .int v1, .int v2] hC cw_X3_lettersApart cl_RX11_314 zL56 rfl (by decide) rfl rfl (Nat.le_of_ble_eq_true rfl) dX11_names_45 (fun _ h => ctX3_lettersApart h) (fun r7 m7 _ hf => ?_) hf
        show zAW X 48 _ (.int r7 :: _) m7
        refine zs_is hC dX11_names_48 (by decide) rfl ?_
        refine zs_al hC dX11_names_49 rfl ?_
        refine zs_getR 1 hC fl_RX11_10 zL0 rfl dX11_names_50 ?_
        refine zs_callV [] hC cw_X9_empties cl_RX11_120 zL1 rfl (by decide) rfl rfl (Nat.le_of_ble_eq_true rfl) dX11_names_53 (fun _ h => ctX9_empties h) (fun r9 m9 _ hf => ?_) hf
        show zAW X 56 _ _ m9
        refine zs_il hC dX11_names_56 rfl ?_
        exact zs_iret hC hret dX11_names_57 hf
set_option maxRecDepth 20000 in
set_option maxHeartbeats 4000000 in
theorem ctX11_names {E : zEV} {F : Nat} {v1 : Int32} {v2 : Int32} {μ : zMem} {out : zR} (hf : fX11_names F v1 v2 μ = some out) : zCt E yX11_names cX11_names 4 (some .int) 3 [.ref 0, .int v1, .int v2] μ out :=
  zCt.of [some (.ref 0), some (.int v1), some (.int v2), none] (by decide +kernel) (Nat.le_of_ble_eq_true rfl) (zLw_s (zLw_s (zLw_s (zLw_e zLw_0)))) rfl (fun X hE ho hr hC => by
    subst hE; subst ho
    exact wX11_names hC hr hf)
/-! X11_duty -/
def fX11_duty (F : Nat) (v1 : Int32) (v2 : Int32) (μ : zMem) : Option zR :=
  zBd (fX8_isTold F 3 v1 μ) (fun r2 m2 => if r2 = 0 then some ((-1 : Int32), m2) else zBd (fX11_isWithin F v2 (nI 1) (nI 6) m2) (fun r3 m3 => if r3 = 0 then some ((-1 : Int32), m3) else zBd (fX9_opens F ((nI 2) * v2) m3) (fun r5 m5 => if r5 = 0 then some ((-1 : Int32), m5) else zG v1 16 (zBd (fX3_dutyOn F v2 (m5 5 v1.toNatClampNeg) m5) (fun r9 m9 => zBd (fX9_empties F m9) (fun r11 m11 => some (r9, m11)))))))
set_option maxRecDepth 20000 in
set_option maxHeartbeats 4000000 in
theorem wX11_duty {X : zX} {F : Nat} (hC : zCx X RX11 cX11_duty 4 3) (hret : zRt X (some .int)) {v1 : Int32} {v2 : Int32} {μ : zMem} (hf : fX11_duty F v1 v2 μ = some (zOut X)) : zAW X 0 [some (.ref 0), some (.int v1), some (.int v2), none] [] μ := by
  unfold fX11_duty at hf
  refine zs_al hC dX11_duty_0 rfl ?_
  refine zs_getR 3 hC fl_RX11_19 zL0 rfl dX11_duty_1 ?_
  refine zs_il hC dX11_duty_4 rfl ?_
  refine zs_callV [.int v1] hC cw_X8_isTold cl_RX11_156 zL3 rfl (by decide) rfl rfl (Nat.le_of_ble_eq_true rfl) dX11_duty_5 (fun _ h => ctX8_isTold (by decide) h) (fun r2 m2 _ hf => ?_) hf
  show zAW X 8 _ (.int r2 :: _) m2
  refine zs_if_eq hC dX11_duty_8 (fun _ hf => ?_) (fun _ hf => ?_) hf
  · refine zs_k hC dX11_duty_34 ?_
    exact zs_iret hC hret dX11_duty_35 hf
  · refine zs_il hC dX11_duty_11 rfl ?_
    refine zs_k hC dX11_duty_12 ?_
    refine zs_k hC dX11_duty_13 ?_
    refine zs_callS [.int v2, .int (nI 1), .int (nI 6)] hC cw_X11_isWithin cl_RX11_97 (by decide) rfl rfl (Nat.le_of_ble_eq_true rfl) dX11_duty_15 (fun _ h => ctX11_isWithin h) (fun r3 m3 _ hf => ?_) hf
    show zAW X 18 _ (.int r3 :: _) m3
    refine zs_if_eq hC dX11_duty_18 (fun _ hf => ?_) (fun _ hf => ?_) hf
    · refine zs_k hC dX11_duty_34 ?_
      exact zs_iret hC hret dX11_duty_35 hf
    · refine zs_al hC dX11_duty_21 rfl ?_
      refine zs_getR 1 hC fl_RX11_10 zL0 rfl dX11_duty_22 ?_
      refine zs_k hC dX11_duty_25 ?_
      refine zs_il hC dX11_duty_26 rfl ?_
      refine zs_imul hC dX11_duty_27 ?_
      refine zs_callV [.int ((nI 2) * v2)] hC cw_X9_opens cl_RX11_113 zL1 rfl (by decide) rfl rfl (Nat.le_of_ble_eq_true rfl) dX11_duty_28 (fun _ h => ctX9_opens h) (fun r5 m5 _ hf => ?_) hf
      show zAW X 31 _ (.int r5 :: _) m5
      refine zs_if_ne hC dX11_duty_31 (fun _ hf => ?_) (fun _ hf => ?_) hf
      · refine zs_k hC dX11_duty_34 ?_
        exact zs_iret hC hret dX11_duty_35 hf
      · refine zs_al hC dX11_duty_36 rfl ?_
        refine zs_getR 1 hC fl_RX11_10 zL0 rfl dX11_duty_37 ?_
        refine zs_il hC dX11_duty_40 rfl ?_
        refine zs_al hC dX11_duty_41 rfl ?_
        refine zs_getR 3 hC fl_RX11_19 zL0 rfl dX11_duty_42 ?_
        refine zs_getR 5 hC fl_RX11_188 zL3 rfl dX11_duty_45 ?_
        refine zs_il hC dX11_duty_48 rfl ?_
        refine zs_iald hC zL5 dX11_duty_49 (fun _ hf => ?_) hf
        refine zs_callS [.ref 1, .int v2, .int (m5 5 v1.toNatClampNeg)] hC cw_X3_dutyOn cl_RX11_317 (by decide) rfl rfl (Nat.le_of_ble_eq_true rfl) dX11_duty_50 (fun _ h => ctX3_dutyOn h) (fun r9 m9 _ hf => ?_) hf
        show zAW X 53 _ (.int r9 :: _) m9
        refine zs_is hC dX11_duty_53 (by decide) rfl ?_
        refine zs_al hC dX11_duty_54 rfl ?_
        refine zs_getR 1 hC fl_RX11_10 zL0 rfl dX11_duty_55 ?_
        refine zs_callV [] hC cw_X9_empties cl_RX11_120 zL1 rfl (by decide) rfl rfl (Nat.le_of_ble_eq_true rfl) dX11_duty_58 (fun _ h => ctX9_empties h) (fun r11 m11 _ hf => ?_) hf
        show zAW X 61 _ _ m11
        refine zs_il hC dX11_duty_61 rfl ?_
        exact zs_iret hC hret dX11_duty_62 hf
set_option maxRecDepth 20000 in
set_option maxHeartbeats 4000000 in
theorem ctX11_duty {E : zEV} {F : Nat} {v1 : Int32} {v2 : Int32} {μ : zMem} {out : zR} (hf : fX11_duty F v1 v2 μ = some out) : zCt E yX11_duty cX11_duty 4 (some .int) 3 [.ref 0, .int v1, .int v2] μ out :=
  zCt.of [some (.ref 0), some (.int v1), some (.int v2), none] (by decide +kernel) (Nat.le_of_ble_eq_true rfl) (zLw_s (zLw_s (zLw_s (zLw_e zLw_0)))) rfl (fun X hE ho hr hC => by
    subst hE; subst ho
    exact wX11_duty hC hr hf)
/-! X11_hands -/
def fX11_hands (F : Nat) (v1 : Int32) (v2 : Int32) (μ : zMem) : Option zR :=
  zBd (fX11_isWithin F v1 (nI 2) (nI 16) μ) (fun r1 m1 => if r1 = 0 then some ((-1 : Int32), m1) else zBd (fX11_isWithin F v2 (nI 0) (nI 1) m1) (fun r2 m2 => if r2 = 0 then some ((-1 : Int32), m2) else zBd (fX9_opens F ((nI 2) * v1) m2) (fun r4 m4 => if r4 = 0 then some ((-1 : Int32), m4) else zBd (fX3_lastToGetIt F v1 m4) (fun r7 m7 => zBd (fX9_empties F m7) (fun r9 m9 => if v2 = (nI 1) then some (r7, m9) else if r7 = (-2 : Int32) then some (r7, m9) else zG r7 16 (some ((m9 58 r7.toNatClampNeg), m9)))))))
set_option maxRecDepth 20000 in
set_option maxHeartbeats 4000000 in
theorem wX11_hands {X : zX} {F : Nat} (hC : zCx X RX11 cX11_hands 4 2) (hret : zRt X (some .int)) {v1 : Int32} {v2 : Int32} {μ : zMem} (hf : fX11_hands F v1 v2 μ = some (zOut X)) : zAW X 0 [some (.ref 0), some (.int v1), some (.int v2), none] [] μ := by
  unfold fX11_hands at hf
  refine zs_il hC dX11_hands_0 rfl ?_
  refine zs_k hC dX11_hands_1 ?_
  refine zs_k hC dX11_hands_2 ?_
  refine zs_callS [.int v1, .int (nI 2), .int (nI 16)] hC cw_X11_isWithin cl_RX11_97 (by decide) rfl rfl (Nat.le_of_ble_eq_true rfl) dX11_hands_4 (fun _ h => ctX11_isWithin h) (fun r1 m1 _ hf => ?_) hf
  show zAW X 7 _ (.int r1 :: _) m1
  refine zs_if_eq hC dX11_hands_7 (fun _ hf => ?_) (fun _ hf => ?_) hf
  · refine zs_k hC dX11_hands_32 ?_
    exact zs_iret hC hret dX11_hands_33 hf
  · refine zs_il hC dX11_hands_10 rfl ?_
    refine zs_k hC dX11_hands_11 ?_
    refine zs_k hC dX11_hands_12 ?_
    refine zs_callS [.int v2, .int (nI 0), .int (nI 1)] hC cw_X11_isWithin cl_RX11_97 (by decide) rfl rfl (Nat.le_of_ble_eq_true rfl) dX11_hands_13 (fun _ h => ctX11_isWithin h) (fun r2 m2 _ hf => ?_) hf
    show zAW X 16 _ (.int r2 :: _) m2
    refine zs_if_eq hC dX11_hands_16 (fun _ hf => ?_) (fun _ hf => ?_) hf
    · refine zs_k hC dX11_hands_32 ?_
      exact zs_iret hC hret dX11_hands_33 hf
    · refine zs_al hC dX11_hands_19 rfl ?_
      refine zs_getR 1 hC fl_RX11_10 zL0 rfl dX11_hands_20 ?_
      refine zs_k hC dX11_hands_23 ?_
      refine zs_il hC dX11_hands_24 rfl ?_
      refine zs_imul hC dX11_hands_25 ?_
      refine zs_callV [.int ((nI 2) * v1)] hC cw_X9_opens cl_RX11_113 zL1 rfl (by decide) rfl rfl (Nat.le_of_ble_eq_true rfl) dX11_hands_26 (fun _ h => ctX9_opens h) (fun r4 m4 _ hf => ?_) hf
      show zAW X 29 _ (.int r4 :: _) m4
      refine zs_if_ne hC dX11_hands_29 (fun _ hf => ?_) (fun _ hf => ?_) hf
      · refine zs_k hC dX11_hands_32 ?_
        exact zs_iret hC hret dX11_hands_33 hf
      · refine zs_al hC dX11_hands_34 rfl ?_
        refine zs_getR 56 hC fl_RX11_88 zL0 rfl dX11_hands_35 ?_
        refine zs_al hC dX11_hands_38 rfl ?_
        refine zs_getR 1 hC fl_RX11_10 zL0 rfl dX11_hands_39 ?_
        refine zs_il hC dX11_hands_42 rfl ?_
        refine zs_callV [.ref 1, .int v1] hC cw_X3_lastToGetIt cl_RX11_320 zL56 rfl (by decide) rfl rfl (Nat.le_of_ble_eq_true rfl) dX11_hands_43 (fun _ h => ctX3_lastToGetIt h) (fun r7 m7 _ hf => ?_) hf
        show zAW X 46 _ (.int r7 :: _) m7
        refine zs_is hC dX11_hands_46 (by decide) rfl ?_
        refine zs_al hC dX11_hands_47 rfl ?_
        refine zs_getR 1 hC fl_RX11_10 zL0 rfl dX11_hands_48 ?_
        refine zs_callV [] hC cw_X9_empties cl_RX11_120 zL1 rfl (by decide) rfl rfl (Nat.le_of_ble_eq_true rfl) dX11_hands_51 (fun _ h => ctX9_empties h) (fun r9 m9 _ hf => ?_) hf
        show zAW X 54 _ _ m9
        refine zs_il hC dX11_hands_54 rfl ?_
        refine zs_k hC dX11_hands_55 ?_
        refine zs_ic_eq hC dX11_hands_56 (fun _ hf => ?_) (fun _ hf => ?_) hf
        · refine zs_il hC dX11_hands_65 rfl ?_
          refine zs_goto hC dX11_hands_66 ?_
          exact zs_iret hC hret dX11_hands_78 hf
        · refine zs_il hC dX11_hands_59 rfl ?_
          refine zs_k hC dX11_hands_60 ?_
          refine zs_ic_ne hC dX11_hands_62 (fun _ hf => ?_) (fun _ hf => ?_) hf
          · refine zs_il hC dX11_hands_65 rfl ?_
            refine zs_goto hC dX11_hands_66 ?_
            exact zs_iret hC hret dX11_hands_78 hf
          · refine zs_al hC dX11_hands_69 rfl ?_
            refine zs_getR 56 hC fl_RX11_88 zL0 rfl dX11_hands_70 ?_
            refine zs_getR 58 hC fl_RX11_323 zL56 rfl dX11_hands_73 ?_
            refine zs_il hC dX11_hands_76 rfl ?_
            refine zs_iald hC zL58 dX11_hands_77 (fun _ hf => ?_) hf
            exact zs_iret hC hret dX11_hands_78 hf
set_option maxRecDepth 20000 in
set_option maxHeartbeats 4000000 in
theorem ctX11_hands {E : zEV} {F : Nat} {v1 : Int32} {v2 : Int32} {μ : zMem} {out : zR} (hf : fX11_hands F v1 v2 μ = some out) : zCt E yX11_hands cX11_hands 4 (some .int) 2 [.ref 0, .int v1, .int v2] μ out :=
  zCt.of [some (.ref 0), some (.int v1), some (.int v2), none] (by decide +kernel) (Nat.le_of_ble_eq_true rfl) (zLw_s (zLw_s (zLw_s (zLw_e zLw_0)))) rfl (fun X hE ho hr hC => by
    subst hE; subst ho
    exact wX11_hands hC hr hf)
/-! X11_seed -/
def fX11_seed (F : Nat) (v1 : Int32) (μ : zMem) : Option zR :=
  zBd (fX11_isWithin F v1 (nI 0) (nI 65535) μ) (fun r1 m1 => if r1 = 0 then some ((nI 0), m1) else some ((nI 1), (zUp m1 3 7 v1)))
set_option maxRecDepth 20000 in
set_option maxHeartbeats 4000000 in
theorem wX11_seed {X : zX} {F : Nat} (hC : zCx X RX11 cX11_seed 2 1) (hret : zRt X (some .boolean)) {v1 : Int32} {μ : zMem} (hf : fX11_seed F v1 μ = some (zOut X)) : zAW X 0 [some (.ref 0), some (.int v1)] [] μ := by
  unfold fX11_seed at hf
  refine zs_il hC dX11_seed_0 rfl ?_
  refine zs_k hC dX11_seed_1 ?_
  refine zs_ldc hC kc_RX11_96 dX11_seed_2 ?_
  refine zs_callS [.int v1, .int (nI 0), .int (nI 65535)] hC cw_X11_isWithin cl_RX11_97 (by decide) rfl rfl (Nat.le_of_ble_eq_true rfl) dX11_seed_4 (fun _ h => ctX11_isWithin h) (fun r1 m1 _ hf => ?_) hf
  show zAW X 7 _ (.int r1 :: _) m1
  refine zs_if_ne hC dX11_seed_7 (fun _ hf => ?_) (fun _ hf => ?_) hf
  · refine zs_k hC dX11_seed_10 ?_
    exact zs_zretK hC hret dX11_seed_11 (by decide) hf
  · refine zs_al hC dX11_seed_12 rfl ?_
    refine zs_getR 3 hC fl_RX11_19 zL0 rfl dX11_seed_13 ?_
    refine zs_il hC dX11_seed_16 rfl ?_
    refine zs_putI hC fl_RX11_326 fp_8_7 zL3 rfl dX11_seed_17 ?_
    refine zs_k hC dX11_seed_20 ?_
    exact zs_zretK hC hret dX11_seed_21 (by decide) hf
set_option maxRecDepth 20000 in
set_option maxHeartbeats 4000000 in
theorem ctX11_seed {E : zEV} {F : Nat} {v1 : Int32} {μ : zMem} {out : zR} (hf : fX11_seed F v1 μ = some out) : zCt E yX11_seed cX11_seed 2 (some .boolean) 1 [.ref 0, .int v1] μ out :=
  zCt.of [some (.ref 0), some (.int v1)] (by decide +kernel) (Nat.le_of_ble_eq_true rfl) (zLw_s (zLw_s zLw_0)) rfl (fun X hE ho hr hC => by
    subst hE; subst ho
    exact wX11_seed hC hr hf)
/-! X11_keep -/
def fX11_keep (F : Nat) (μ : zMem) : Option zR :=
  zBd (fX8_becomes F 8 3 μ) (fun r3 m3 => some (((zUp m3 0 4 (nI 1)) 3 6), (zUp m3 0 4 (nI 1))))
set_option maxRecDepth 20000 in
set_option maxHeartbeats 4000000 in
theorem wX11_keep {X : zX} {F : Nat} (hC : zCx X RX11 cX11_keep 1 2) (hret : zRt X (some .int)) {μ : zMem} (hf : fX11_keep F μ = some (zOut X)) : zAW X 0 [some (.ref 0)] [] μ := by
  unfold fX11_keep at hf
  refine zs_al hC dX11_keep_0 rfl ?_
  refine zs_getR 8 hC fl_RX11_23 zL0 rfl dX11_keep_1 ?_
  refine zs_al hC dX11_keep_4 rfl ?_
  refine zs_getR 3 hC fl_RX11_19 zL0 rfl dX11_keep_5 ?_
  refine zs_callV [.ref 3] hC cw_X8_becomes cl_RX11_159 zL8 rfl (by decide) rfl rfl (Nat.le_of_ble_eq_true rfl) dX11_keep_8 (fun _ h => ctX8_becomes (by decide) (by decide) h) (fun r3 m3 _ hf => ?_) hf
  show zAW X 11 _ _ m3
  refine zs_al hC dX11_keep_11 rfl ?_
  refine zs_k hC dX11_keep_12 ?_
  refine zs_putZ hC fl_RX11_29 fp_11_4 zL0 rfl (by decide) dX11_keep_13 ?_
  refine zs_al hC dX11_keep_16 rfl ?_
  refine zs_getR 3 hC fl_RX11_19 zL0 rfl dX11_keep_17 ?_
  refine zs_getI hC fl_RX11_329 zL3 rfl dX11_keep_20 ?_
  exact zs_iret hC hret dX11_keep_23 hf
set_option maxRecDepth 20000 in
set_option maxHeartbeats 4000000 in
theorem ctX11_keep {E : zEV} {F : Nat} {μ : zMem} {out : zR} (hf : fX11_keep F μ = some out) : zCt E yX11_keep cX11_keep 1 (some .int) 2 [.ref 0] μ out :=
  zCt.of [some (.ref 0)] (by decide +kernel) (Nat.le_of_ble_eq_true rfl) (zLw_s zLw_0) rfl (fun X hE ho hr hC => by
    subst hE; subst ho
    exact wX11_keep hC hr hf)
/-! X11_undo -/
def fX11_undo (F : Nat) (μ : zMem) : Option zR :=
  if (μ 0 4) = 0 then some ((nI 0), μ) else zBd (fX8_becomes F 3 8 μ) (fun r4 m4 => some ((nI 1), m4))
set_option maxRecDepth 20000 in
set_option maxHeartbeats 4000000 in
theorem wX11_undo {X : zX} {F : Nat} (hC : zCx X RX11 cX11_undo 1 2) (hret : zRt X (some .boolean)) {μ : zMem} (hf : fX11_undo F μ = some (zOut X)) : zAW X 0 [some (.ref 0)] [] μ := by
  unfold fX11_undo at hf
  refine zs_al hC dX11_undo_0 rfl ?_
  refine zs_getI hC fl_RX11_29 zL0 rfl dX11_undo_1 ?_
  refine zs_if_ne hC dX11_undo_4 (fun _ hf => ?_) (fun _ hf => ?_) hf
  · refine zs_k hC dX11_undo_7 ?_
    exact zs_zretK hC hret dX11_undo_8 (by decide) hf
  · refine zs_al hC dX11_undo_9 rfl ?_
    refine zs_getR 3 hC fl_RX11_19 zL0 rfl dX11_undo_10 ?_
    refine zs_al hC dX11_undo_13 rfl ?_
    refine zs_getR 8 hC fl_RX11_23 zL0 rfl dX11_undo_14 ?_
    refine zs_callV [.ref 8] hC cw_X8_becomes cl_RX11_159 zL3 rfl (by decide) rfl rfl (Nat.le_of_ble_eq_true rfl) dX11_undo_17 (fun _ h => ctX8_becomes (by decide) (by decide) h) (fun r4 m4 _ hf => ?_) hf
    show zAW X 20 _ _ m4
    refine zs_k hC dX11_undo_20 ?_
    exact zs_zretK hC hret dX11_undo_21 (by decide) hf
set_option maxRecDepth 20000 in
set_option maxHeartbeats 4000000 in
theorem ctX11_undo {E : zEV} {F : Nat} {μ : zMem} {out : zR} (hf : fX11_undo F μ = some out) : zCt E yX11_undo cX11_undo 1 (some .boolean) 2 [.ref 0] μ out :=
  zCt.of [some (.ref 0)] (by decide +kernel) (Nat.le_of_ble_eq_true rfl) (zLw_s zLw_0) rfl (fun X hE ho hr hC => by
    subst hE; subst ho
    exact wX11_undo hC hr hf)
/-! X11_check -/
def fX11_check_67 (F : Nat) (k28 : Int32 → Int32 → Int32 → zMem → Option zR) (v1 : Int32) (v2 : Int32) (v3 : Int32) (s0 : Int32) (μ : zMem) : Option zR :=
  zBd (fX9_byteAt F v3 μ) (fun r2 m2 => if r2 = s0 then k28 v1 v2 (v3 + (nI 1)) m2 else k28 v1 v3 (v3 + (nI 1)) m2)
def fX11_check_28 (F : Nat) : Nat → Int32 → Int32 → Int32 → zMem → Option zR
  | 0, _, _, _, _ => none
  | n + 1, v1, v2, v3, μ => if v1 ≤ v3 then zBd (fX9_empties F μ) (fun r2 m2 => some (v2, m2)) else if v2 = (-1 : Int32) then zBd (fX8_isTold F 3 v3 μ) (fun r4 m4 => if r4 = 0 then fX11_check_67 F (fX11_check_28 F n) v1 v2 v3 (nI 255) m4 else zG v3 16 (zBd (fJ6_bitCount_0f7a4 F (m4 4 v3.toNatClampNeg) m4) (fun r7 m7 => fX11_check_67 F (fX11_check_28 F n) v1 v2 v3 r7 m7))) else zBd (fX9_empties F μ) (fun r9 m9 => some (v2, m9))
def fX11_check (F : Nat) (v1 : Int32) (μ : zMem) : Option zR :=
  zBd (fX11_isWithin F v1 (nI 0) (nI 16) μ) (fun r1 m1 => if r1 = 0 then some ((-2 : Int32), m1) else zBd (fX9_opens F v1 m1) (fun r3 m3 => if r3 = 0 then some ((-2 : Int32), m3) else fX11_check_28 F F v1 (-1 : Int32) (nI 0) m3))
set_option maxRecDepth 20000 in
set_option maxHeartbeats 4000000 in
theorem wX11_check_67 {X : zX} {F : Nat} (hC : zCx X RX11 cX11_check 5 3) (hret : zRt X (some .int)) {k28 : Int32 → Int32 → Int32 → zMem → Option zR} (hk28 : ∀ v1 v2 v3 μ, k28 v1 v2 v3 μ = some (zOut X) → zAW X 28 [some (.ref 0), some (.int v1), some (.int v2), some (.int v3), none] [] μ) {v1 : Int32} {v2 : Int32} {v3 : Int32} {s0 : Int32} {μ : zMem} (hf : fX11_check_67 F k28 v1 v2 v3 s0 μ = some (zOut X)) : zAW X 67 [some (.ref 0), some (.int v1), some (.int v2), some (.int v3), none] [.int s0] μ := by
  unfold fX11_check_67 at hf
  refine zs_is hC dX11_check_67 (by decide) rfl ?_
  refine zs_al hC dX11_check_69 rfl ?_
  refine zs_getR 1 hC fl_RX11_10 zL0 rfl dX11_check_70 ?_
  refine zs_il hC dX11_check_73 rfl ?_
  refine zs_callV [.int v3] hC cw_X9_byteAt cl_RX11_331 zL1 rfl (by decide) rfl rfl (Nat.le_of_ble_eq_true rfl) dX11_check_74 (fun _ h => ctX9_byteAt h) (fun r2 m2 _ hf => ?_) hf
  show zAW X 77 _ (.int r2 :: _) m2
  refine zs_il hC dX11_check_77 rfl ?_
  refine zs_ic_eq hC dX11_check_79 (fun _ hf => ?_) (fun _ hf => ?_) hf
  · refine zs_iinc (nI 1) hC dX11_check_84 (by decide) rfl (by decide) rfl ?_
    refine zs_goto hC dX11_check_87 ?_
    exact zAW.weak (hk28 _ _ _ _ hf) (zLw_s (zLw_s (zLw_s (zLw_s (zLw_n zLw_0)))))
  · refine zs_il hC dX11_check_82 rfl ?_
    refine zs_is hC dX11_check_83 (by decide) rfl ?_
    refine zs_iinc (nI 1) hC dX11_check_84 (by decide) rfl (by decide) rfl ?_
    refine zs_goto hC dX11_check_87 ?_
    exact zAW.weak (hk28 _ _ _ _ hf) (zLw_s (zLw_s (zLw_s (zLw_s (zLw_n zLw_0)))))
set_option maxRecDepth 20000 in
set_option maxHeartbeats 4000000 in
theorem wX11_check_28 {X : zX} {F : Nat} (hC : zCx X RX11 cX11_check 5 3) (hret : zRt X (some .int)) : ∀ (n : Nat) (v1 : Int32) (v2 : Int32) (v3 : Int32) (μ : zMem), fX11_check_28 F n v1 v2 v3 μ = some (zOut X) → zAW X 28 [some (.ref 0), some (.int v1), some (.int v2), some (.int v3), none] [] μ := by
  intro n
  induction n with
  | zero =>
    intro v1 v2 v3 μ hf
    rw [fX11_check_28] at hf
    cases hf
  | succ n ih =>
    intro v1 v2 v3 μ hf
    rw [fX11_check_28] at hf
    refine zs_il hC dX11_check_28 rfl ?_
    refine zs_il hC dX11_check_29 rfl ?_
    refine zs_ic_ge hC dX11_check_30 (fun _ hf => ?_) (fun _ hf => ?_) hf
    · refine zs_al hC dX11_check_90 rfl ?_
      refine zs_getR 1 hC fl_RX11_10 zL0 rfl dX11_check_91 ?_
      refine zs_callV [] hC cw_X9_empties cl_RX11_120 zL1 rfl (by decide) rfl rfl (Nat.le_of_ble_eq_true rfl) dX11_check_94 (fun _ h => ctX9_empties h) (fun r2 m2 _ hf => ?_) hf
      show zAW X 97 _ _ m2
      refine zs_il hC dX11_check_97 rfl ?_
      exact zs_iret hC hret dX11_check_98 hf
    · refine zs_il hC dX11_check_33 rfl ?_
      refine zs_k hC dX11_check_34 ?_
      refine zs_ic_ne hC dX11_check_35 (fun _ hf => ?_) (fun _ hf => ?_) hf
      · refine zs_al hC dX11_check_38 rfl ?_
        refine zs_getR 3 hC fl_RX11_19 zL0 rfl dX11_check_39 ?_
        refine zs_il hC dX11_check_42 rfl ?_
        refine zs_callV [.int v3] hC cw_X8_isTold cl_RX11_156 zL3 rfl (by decide) rfl rfl (Nat.le_of_ble_eq_true rfl) dX11_check_43 (fun _ h => ctX8_isTold (by decide) h) (fun r4 m4 _ hf => ?_) hf
        show zAW X 46 _ (.int r4 :: _) m4
        refine zs_if_eq hC dX11_check_46 (fun _ hf => ?_) (fun _ hf => ?_) hf
        · refine zs_k hC dX11_check_64 ?_
          exact zAW.weak (wX11_check_67 hC hret (ih) hf) (zLw_s (zLw_s (zLw_s (zLw_s (zLw_n zLw_0)))))
        · refine zs_al hC dX11_check_49 rfl ?_
          refine zs_getR 3 hC fl_RX11_19 zL0 rfl dX11_check_50 ?_
          refine zs_getR 4 hC fl_RX11_176 zL3 rfl dX11_check_53 ?_
          refine zs_il hC dX11_check_56 rfl ?_
          refine zs_iald hC zL4 dX11_check_57 (fun _ hf => ?_) hf
          refine zs_callS [.int (m4 4 v3.toNatClampNeg)] hC cw_J6_bitCount_0f7a4 cl_RX11_180 (by decide) rfl rfl (Nat.le_of_ble_eq_true rfl) dX11_check_58 (fun _ h => ctJ6_bitCount_0f7a4 h) (fun r7 m7 _ hf => ?_) hf
          show zAW X 61 _ (.int r7 :: _) m7
          refine zs_goto hC dX11_check_61 ?_
          exact zAW.weak (wX11_check_67 hC hret (ih) hf) (zLw_s (zLw_s (zLw_s (zLw_s (zLw_n zLw_0)))))
      · refine zs_al hC dX11_check_90 rfl ?_
        refine zs_getR 1 hC fl_RX11_10 zL0 rfl dX11_check_91 ?_
        refine zs_callV [] hC cw_X9_empties cl_RX11_120 zL1 rfl (by decide) rfl rfl (Nat.le_of_ble_eq_true rfl) dX11_check_94 (fun _ h => ctX9_empties h) (fun r9 m9 _ hf => ?_) hf
        show zAW X 97 _ _ m9
        refine zs_il hC dX11_check_97 rfl ?_
        exact zs_iret hC hret dX11_check_98 hf
set_option maxRecDepth 20000 in
set_option maxHeartbeats 4000000 in
theorem wX11_check {X : zX} {F : Nat} (hC : zCx X RX11 cX11_check 5 3) (hret : zRt X (some .int)) {v1 : Int32} {μ : zMem} (hf : fX11_check F v1 μ = some (zOut X)) : zAW X 0 [some (.ref 0), some (.int v1), none, none, none] [] μ := by
  unfold fX11_check at hf
  refine zs_il hC dX11_check_0 rfl ?_
  refine zs_k hC dX11_check_1 ?_
  refine zs_k hC dX11_check_2 ?_
  refine zs_callS [.int v1, .int (nI 0), .int (nI 16)] hC cw_X11_isWithin cl_RX11_97 (by decide) rfl rfl (Nat.le_of_ble_eq_true rfl) dX11_check_4 (fun _ h => ctX11_isWithin h) (fun r1 m1 _ hf => ?_) hf
  show zAW X 7 _ (.int r1 :: _) m1
  refine zs_if_eq hC dX11_check_7 (fun _ hf => ?_) (fun _ hf => ?_) hf
  · refine zs_k hC dX11_check_21 ?_
    exact zs_iret hC hret dX11_check_23 hf
  · refine zs_al hC dX11_check_10 rfl ?_
    refine zs_getR 1 hC fl_RX11_10 zL0 rfl dX11_check_11 ?_
    refine zs_il hC dX11_check_14 rfl ?_
    refine zs_callV [.int v1] hC cw_X9_opens cl_RX11_113 zL1 rfl (by decide) rfl rfl (Nat.le_of_ble_eq_true rfl) dX11_check_15 (fun _ h => ctX9_opens h) (fun r3 m3 _ hf => ?_) hf
    show zAW X 18 _ (.int r3 :: _) m3
    refine zs_if_ne hC dX11_check_18 (fun _ hf => ?_) (fun _ hf => ?_) hf
    · refine zs_k hC dX11_check_21 ?_
      exact zs_iret hC hret dX11_check_23 hf
    · refine zs_k hC dX11_check_24 ?_
      refine zs_is hC dX11_check_25 (by decide) rfl ?_
      refine zs_k hC dX11_check_26 ?_
      refine zs_is hC dX11_check_27 (by decide) rfl ?_
      exact zAW.weak (wX11_check_28 hC hret F _ _ _ _ hf) (zLw_s (zLw_s (zLw_s (zLw_s (zLw_n zLw_0)))))
set_option maxRecDepth 20000 in
set_option maxHeartbeats 4000000 in
theorem ctX11_check {E : zEV} {F : Nat} {v1 : Int32} {μ : zMem} {out : zR} (hf : fX11_check F v1 μ = some out) : zCt E yX11_check cX11_check 5 (some .int) 3 [.ref 0, .int v1] μ out :=
  zCt.of [some (.ref 0), some (.int v1), none, none, none] (by decide +kernel) (Nat.le_of_ble_eq_true rfl) (zLw_s (zLw_s (zLw_e (zLw_e (zLw_e zLw_0))))) rfl (fun X hE ho hr hC => by
    subst hE; subst ho
    exact wX11_check hC hr hf)
/-! X11_count -/
def fX11_count (F : Nat) (v1 : Int32) (μ : zMem) : Option zR :=
  (if v1 = (nI 0) then some ((μ 3 6), μ) else if v1 = (nI 1) then some ((μ 3 4), μ) else if v1 = (nI 2) then some ((μ 3 5), μ) else if v1 = (nI 3) then zBd (fX8_issues F 3 μ) (fun r8 m8 => some (r8, m8)) else if v1 = (nI 4) then zGb (zIsCp ((μ 0 8).toNatClampNeg)) (some ((μ ((μ 0 8).toNatClampNeg) 2), μ)) else if v1 = (nI 5) then zGb (zIsLw ((μ 18 0).toNatClampNeg)) (some ((μ ((μ 18 0).toNatClampNeg) 7), μ)) else if v1 = (nI 6) then some ((μ 1 1), μ) else if v1 = (nI 7) then some ((μ 3 7), μ) else if v1 = (nI 8) then zBd (fX8_allBreath F 3 μ) (fun r19 m19 => some (r19, m19)) else some ((-1 : Int32), μ))
set_option maxRecDepth 20000 in
set_option maxHeartbeats 4000000 in
theorem wX11_count {X : zX} {F : Nat} (hC : zCx X RX11 cX11_count 2 2) (hret : zRt X (some .int)) {v1 : Int32} {μ : zMem} (hf : fX11_count F v1 μ = some (zOut X)) : zAW X 0 [some (.ref 0), some (.int v1)] [] μ := by
  unfold fX11_count at hf
  refine zs_il hC dX11_count_0 rfl ?_
  refine zs_case (nI 0) (fun hx hf => ?_) (fun e1_0 hf => ?_) hf
  · refine zs_tabI (off := 51) (tgt := 52) hC hx dX11_count_1 (by decide) (by decide) rfl (by decide) ?_
    refine zs_al hC dX11_count_52 rfl ?_
    refine zs_getR 3 hC fl_RX11_19 zL0 rfl dX11_count_53 ?_
    refine zs_getI hC fl_RX11_329 zL3 rfl dX11_count_56 ?_
    exact zs_iret hC hret dX11_count_59 hf
  refine zs_case (nI 1) (fun hx hf => ?_) (fun e1_1 hf => ?_) hf
  · refine zs_tabI (off := 59) (tgt := 60) hC hx dX11_count_1 (by decide) (by decide) rfl (by decide) ?_
    refine zs_al hC dX11_count_60 rfl ?_
    refine zs_getR 3 hC fl_RX11_19 zL0 rfl dX11_count_61 ?_
    refine zs_getI hC fl_RX11_135 zL3 rfl dX11_count_64 ?_
    exact zs_iret hC hret dX11_count_67 hf
  refine zs_case (nI 2) (fun hx hf => ?_) (fun e1_2 hf => ?_) hf
  · refine zs_tabI (off := 67) (tgt := 68) hC hx dX11_count_1 (by decide) (by decide) rfl (by decide) ?_
    refine zs_al hC dX11_count_68 rfl ?_
    refine zs_getR 3 hC fl_RX11_19 zL0 rfl dX11_count_69 ?_
    refine zs_getI hC fl_RX11_334 zL3 rfl dX11_count_72 ?_
    exact zs_iret hC hret dX11_count_75 hf
  refine zs_case (nI 3) (fun hx hf => ?_) (fun e1_3 hf => ?_) hf
  · refine zs_tabI (off := 75) (tgt := 76) hC hx dX11_count_1 (by decide) (by decide) rfl (by decide) ?_
    refine zs_al hC dX11_count_76 rfl ?_
    refine zs_getR 3 hC fl_RX11_19 zL0 rfl dX11_count_77 ?_
    refine zs_callV [] hC cw_X8_issues cl_RX11_214 zL3 rfl (by decide) rfl rfl (Nat.le_of_ble_eq_true rfl) dX11_count_80 (fun _ h => ctX8_issues (by decide) h) (fun r8 m8 _ hf => ?_) hf
    show zAW X 83 _ (.int r8 :: _) m8
    exact zs_iret hC hret dX11_count_83 hf
  refine zs_case (nI 4) (fun hx hf => ?_) (fun e1_4 hf => ?_) hf
  · refine zs_tabI (off := 83) (tgt := 84) hC hx dX11_count_1 (by decide) (by decide) rfl (by decide) ?_
    refine zs_al hC dX11_count_84 rfl ?_
    refine zs_getD hC fl_RX11_57 zL0 rfl dX11_count_85 ?_
    refine zs_gb (fun hd9 hf => ?_) hf
    refine zs_getI hC fl_RX11_149 (zCp0 hd9) rfl dX11_count_88 ?_
    exact zs_iret hC hret dX11_count_91 hf
  refine zs_case (nI 5) (fun hx hf => ?_) (fun e1_5 hf => ?_) hf
  · refine zs_tabI (off := 91) (tgt := 92) hC hx dX11_count_1 (by decide) (by decide) rfl (by decide) ?_
    refine zs_al hC dX11_count_92 rfl ?_
    refine zs_getR 18 hC fl_RX11_36 zL0 rfl dX11_count_93 ?_
    refine zs_getD hC fl_RX11_123 zL18 rfl dX11_count_96 ?_
    refine zs_gb (fun hd12 hf => ?_) hf
    refine zs_getI hC fl_RX11_127 (zLw0 hd12) rfl dX11_count_99 ?_
    exact zs_iret hC hret dX11_count_102 hf
  refine zs_case (nI 6) (fun hx hf => ?_) (fun e1_6 hf => ?_) hf
  · refine zs_tabI (off := 102) (tgt := 103) hC hx dX11_count_1 (by decide) (by decide) rfl (by decide) ?_
    refine zs_al hC dX11_count_103 rfl ?_
    refine zs_getR 1 hC fl_RX11_10 zL0 rfl dX11_count_104 ?_
    refine zs_getI hC fl_RX11_105 zL1 rfl dX11_count_107 ?_
    exact zs_iret hC hret dX11_count_110 hf
  refine zs_case (nI 7) (fun hx hf => ?_) (fun e1_7 hf => ?_) hf
  · refine zs_tabI (off := 110) (tgt := 111) hC hx dX11_count_1 (by decide) (by decide) rfl (by decide) ?_
    refine zs_al hC dX11_count_111 rfl ?_
    refine zs_getR 3 hC fl_RX11_19 zL0 rfl dX11_count_112 ?_
    refine zs_getI hC fl_RX11_326 zL3 rfl dX11_count_115 ?_
    exact zs_iret hC hret dX11_count_118 hf
  refine zs_case (nI 8) (fun hx hf => ?_) (fun e1_8 hf => ?_) hf
  · refine zs_tabI (off := 118) (tgt := 119) hC hx dX11_count_1 (by decide) (by decide) rfl (by decide) ?_
    refine zs_al hC dX11_count_119 rfl ?_
    refine zs_getR 3 hC fl_RX11_19 zL0 rfl dX11_count_120 ?_
    refine zs_callV [] hC cw_X8_allBreath cl_RX11_337 zL3 rfl (by decide) rfl rfl (Nat.le_of_ble_eq_true rfl) dX11_count_123 (fun _ h => ctX8_allBreath (by decide) h) (fun r19 m19 _ hf => ?_) hf
    show zAW X 126 _ (.int r19 :: _) m19
    exact zs_iret hC hret dX11_count_126 hf
  have e1_0 := lv_neT (a := 0) e1_0 (by decide)
  have e1_1 := lv_neT (a := 1) e1_1 (by decide)
  have e1_2 := lv_neT (a := 2) e1_2 (by decide)
  have e1_3 := lv_neT (a := 3) e1_3 (by decide)
  have e1_4 := lv_neT (a := 4) e1_4 (by decide)
  have e1_5 := lv_neT (a := 5) e1_5 (by decide)
  have e1_6 := lv_neT (a := 6) e1_6 (by decide)
  have e1_7 := lv_neT (a := 7) e1_7 (by decide)
  have e1_8 := lv_neT (a := 8) e1_8 (by decide)
  refine zs_tabO (tgt := 127) hC dX11_count_1 (by omega) (by decide) ?_
  refine zs_k hC dX11_count_127 ?_
  exact zs_iret hC hret dX11_count_128 hf
set_option maxRecDepth 20000 in
set_option maxHeartbeats 4000000 in
theorem ctX11_count {E : zEV} {F : Nat} {v1 : Int32} {μ : zMem} {out : zR} (hf : fX11_count F v1 μ = some out) : zCt E yX11_count cX11_count 2 (some .int) 2 [.ref 0, .int v1] μ out :=
  zCt.of [some (.ref 0), some (.int v1)] (by decide +kernel) (Nat.le_of_ble_eq_true rfl) (zLw_s (zLw_s zLw_0)) rfl (fun X hE ho hr hC => by
    subst hE; subst ho
    exact wX11_count hC hr hf)
/-! X12_in -/
def fX12_in (F : Nat) (v0 : Int32) (v1 : Int32) (v2 : Int32) (μ : zMem) : Option zR :=
  if v0 < v1 then some ((nI 0), μ) else if v2 < v0 then some ((nI 0), μ) else some ((nI 1), μ)
set_option maxRecDepth 20000 in
set_option maxHeartbeats 4000000 in
theorem wX12_in {X : zX} {F : Nat} (hC : zCx X RX12 cX12_in 3 0) (hret : zRt X (some .boolean)) {v0 : Int32} {v1 : Int32} {v2 : Int32} {μ : zMem} (hf : fX12_in F v0 v1 v2 μ = some (zOut X)) : zAW X 0 [some (.int v0), some (.int v1), some (.int v2)] [] μ := by
  unfold fX12_in at hf
  refine zs_il hC dX12_in_0 rfl ?_
  refine zs_il hC dX12_in_1 rfl ?_
  refine zs_ic_lt hC dX12_in_2 (fun _ hf => ?_) (fun _ hf => ?_) hf
  · refine zs_k hC dX12_in_14 ?_
    exact zs_zretK hC hret dX12_in_15 (by decide) hf
  · refine zs_il hC dX12_in_5 rfl ?_
    refine zs_il hC dX12_in_6 rfl ?_
    refine zs_ic_gt hC dX12_in_7 (fun _ hf => ?_) (fun _ hf => ?_) hf
    · refine zs_k hC dX12_in_14 ?_
      exact zs_zretK hC hret dX12_in_15 (by decide) hf
    · refine zs_k hC dX12_in_10 ?_
      refine zs_goto hC dX12_in_11 ?_
      exact zs_zretK hC hret dX12_in_15 (by decide) hf
set_option maxRecDepth 20000 in
set_option maxHeartbeats 4000000 in
theorem ctX12_in {E : zEV} {F : Nat} {v0 : Int32} {v1 : Int32} {v2 : Int32} {μ : zMem} {out : zR} (hf : fX12_in F v0 v1 v2 μ = some out) : zCt E yX12_in cX12_in 3 (some .boolean) 0 [.int v0, .int v1, .int v2] μ out :=
  zCt.of [some (.int v0), some (.int v1), some (.int v2)] (by decide +kernel) (Nat.le_of_ble_eq_true rfl) (zLw_s (zLw_s (zLw_s zLw_0))) rfl (fun X hE ho hr hC => by
    subst hE; subst ho
    exact wX12_in hC hr hf)
/-! X12_min -/
def fX12_min (F : Nat) (v0 : Int32) (v1 : Int32) (μ : zMem) : Option zR :=
  if v1 ≤ v0 then some (v1, μ) else some (v0, μ)
set_option maxRecDepth 20000 in
set_option maxHeartbeats 4000000 in
theorem wX12_min {X : zX} {F : Nat} (hC : zCx X RX12 cX12_min 2 0) (hret : zRt X (some .int)) {v0 : Int32} {v1 : Int32} {μ : zMem} (hf : fX12_min F v0 v1 μ = some (zOut X)) : zAW X 0 [some (.int v0), some (.int v1)] [] μ := by
  unfold fX12_min at hf
  refine zs_il hC dX12_min_0 rfl ?_
  refine zs_il hC dX12_min_1 rfl ?_
  refine zs_ic_ge hC dX12_min_2 (fun _ hf => ?_) (fun _ hf => ?_) hf
  · refine zs_il hC dX12_min_9 rfl ?_
    exact zs_iret hC hret dX12_min_10 hf
  · refine zs_il hC dX12_min_5 rfl ?_
    refine zs_goto hC dX12_min_6 ?_
    exact zs_iret hC hret dX12_min_10 hf
set_option maxRecDepth 20000 in
set_option maxHeartbeats 4000000 in
theorem ctX12_min {E : zEV} {F : Nat} {v0 : Int32} {v1 : Int32} {μ : zMem} {out : zR} (hf : fX12_min F v0 v1 μ = some out) : zCt E yX12_min cX12_min 2 (some .int) 0 [.int v0, .int v1] μ out :=
  zCt.of [some (.int v0), some (.int v1)] (by decide +kernel) (Nat.le_of_ble_eq_true rfl) (zLw_s (zLw_s zLw_0)) rfl (fun X hE ho hr hC => by
    subst hE; subst ho
    exact wX12_min hC hr hf)
/-! X12_max -/
def fX12_max (F : Nat) (v0 : Int32) (v1 : Int32) (μ : zMem) : Option zR :=
  if v0 ≤ v1 then some (v1, μ) else some (v0, μ)
set_option maxRecDepth 20000 in
set_option maxHeartbeats 4000000 in
theorem wX12_max {X : zX} {F : Nat} (hC : zCx X RX12 cX12_max 2 0) (hret : zRt X (some .int)) {v0 : Int32} {v1 : Int32} {μ : zMem} (hf : fX12_max F v0 v1 μ = some (zOut X)) : zAW X 0 [some (.int v0), some (.int v1)] [] μ := by
  unfold fX12_max at hf
  refine zs_il hC dX12_max_0 rfl ?_
  refine zs_il hC dX12_max_1 rfl ?_
  refine zs_ic_le hC dX12_max_2 (fun _ hf => ?_) (fun _ hf => ?_) hf
  · refine zs_il hC dX12_max_9 rfl ?_
    exact zs_iret hC hret dX12_max_10 hf
  · refine zs_il hC dX12_max_5 rfl ?_
    refine zs_goto hC dX12_max_6 ?_
    exact zs_iret hC hret dX12_max_10 hf
set_option maxRecDepth 20000 in
set_option maxHeartbeats 4000000 in
theorem ctX12_max {E : zEV} {F : Nat} {v0 : Int32} {v1 : Int32} {μ : zMem} {out : zR} (hf : fX12_max F v0 v1 μ = some out) : zCt E yX12_max cX12_max 2 (some .int) 0 [.int v0, .int v1] μ out :=
  zCt.of [some (.int v0), some (.int v1)] (by decide +kernel) (Nat.le_of_ble_eq_true rfl) (zLw_s (zLw_s zLw_0)) rfl (fun X hE ho hr hC => by
    subst hE; subst ho
    exact wX12_max hC hr hf)
/-! X12_size -/
def fX12_size (F : Nat) (v0 : Int32) (μ : zMem) : Option zR :=
  if 0 ≤ v0 then some (v0, μ) else some ((-v0), μ)
set_option maxRecDepth 20000 in
set_option maxHeartbeats 4000000 in
theorem wX12_size {X : zX} {F : Nat} (hC : zCx X RX12 cX12_size 1 0) (hret : zRt X (some .int)) {v0 : Int32} {μ : zMem} (hf : fX12_size F v0 μ = some (zOut X)) : zAW X 0 [some (.int v0)] [] μ := by
  unfold fX12_size at hf
  refine zs_il hC dX12_size_0 rfl ?_
  refine zs_if_ge hC dX12_size_1 (fun _ hf => ?_) (fun _ hf => ?_) hf
  · refine zs_il hC dX12_size_9 rfl ?_
    exact zs_iret hC hret dX12_size_10 hf
  · refine zs_il hC dX12_size_4 rfl ?_
    refine zs_ineg hC dX12_size_5 ?_
    refine zs_goto hC dX12_size_6 ?_
    exact zs_iret hC hret dX12_size_10 hf
set_option maxRecDepth 20000 in
set_option maxHeartbeats 4000000 in
theorem ctX12_size {E : zEV} {F : Nat} {v0 : Int32} {μ : zMem} {out : zR} (hf : fX12_size F v0 μ = some out) : zCt E yX12_size cX12_size 1 (some .int) 0 [.int v0] μ out :=
  zCt.of [some (.int v0)] (by decide +kernel) (Nat.le_of_ble_eq_true rfl) (zLw_s zLw_0) rfl (fun X hE ho hr hC => by
    subst hE; subst ho
    exact wX12_size hC hr hf)
/-! X12_has -/
def fX12_has (F : Nat) (v0 : Int32) (v1 : Int32) (μ : zMem) : Option zR :=
  if ((v0 >>> (v1 &&& 31)) &&& (nI 1)) = (nI 1) then some ((nI 1), μ) else some ((nI 0), μ)
set_option maxRecDepth 20000 in
set_option maxHeartbeats 4000000 in
theorem wX12_has {X : zX} {F : Nat} (hC : zCx X RX12 cX12_has 2 0) (hret : zRt X (some .boolean)) {v0 : Int32} {v1 : Int32} {μ : zMem} (hf : fX12_has F v0 v1 μ = some (zOut X)) : zAW X 0 [some (.int v0), some (.int v1)] [] μ := by
  unfold fX12_has at hf
  refine zs_il hC dX12_has_0 rfl ?_
  refine zs_il hC dX12_has_1 rfl ?_
  refine zs_ishr hC dX12_has_2 ?_
  refine zs_k hC dX12_has_3 ?_
  refine zs_iand hC dX12_has_4 ?_
  refine zs_k hC dX12_has_5 ?_
  refine zs_ic_ne hC dX12_has_6 (fun _ hf => ?_) (fun _ hf => ?_) hf
  · refine zs_k hC dX12_has_9 ?_
    refine zs_goto hC dX12_has_10 ?_
    exact zs_zretK hC hret dX12_has_14 (by decide) hf
  · refine zs_k hC dX12_has_13 ?_
    exact zs_zretK hC hret dX12_has_14 (by decide) hf
set_option maxRecDepth 20000 in
set_option maxHeartbeats 4000000 in
theorem ctX12_has {E : zEV} {F : Nat} {v0 : Int32} {v1 : Int32} {μ : zMem} {out : zR} (hf : fX12_has F v0 v1 μ = some out) : zCt E yX12_has cX12_has 2 (some .boolean) 0 [.int v0, .int v1] μ out :=
  zCt.of [some (.int v0), some (.int v1)] (by decide +kernel) (Nat.le_of_ble_eq_true rfl) (zLw_s (zLw_s zLw_0)) rfl (fun X hE ho hr hC => by
    subst hE; subst ho
    exact wX12_has hC hr hf)
/-! X12_bits -/
def fX12_bits_4 (F : Nat) : Nat → Int32 → Int32 → Int32 → zMem → Option zR
  | 0, _, _, _, _ => none
  | n + 1, v0, v1, v2, μ => if (nI 16) ≤ v2 then some (v1, μ) else fX12_bits_4 F n v0 (v1 + ((v0 >>> (v2 &&& 31)) &&& (nI 1))) (v2 + (nI 1)) μ
def fX12_bits (F : Nat) (v0 : Int32) (μ : zMem) : Option zR :=
  fX12_bits_4 F F v0 (nI 0) (nI 0) μ
set_option maxRecDepth 20000 in
set_option maxHeartbeats 4000000 in
theorem wX12_bits_4 {X : zX} {F : Nat} (hC : zCx X RX12 cX12_bits 3 0) (hret : zRt X (some .int)) : ∀ (n : Nat) (v0 : Int32) (v1 : Int32) (v2 : Int32) (μ : zMem), fX12_bits_4 F n v0 v1 v2 μ = some (zOut X) → zAW X 4 [some (.int v0), some (.int v1), some (.int v2)] [] μ := by
  intro n
  induction n with
  | zero =>
    intro v0 v1 v2 μ hf
    rw [fX12_bits_4] at hf
    cases hf
  | succ n ih =>
    intro v0 v1 v2 μ hf
    rw [fX12_bits_4] at hf
    refine zs_il hC dX12_bits_4 rfl ?_
    refine zs_k hC dX12_bits_5 ?_
    refine zs_ic_ge hC dX12_bits_7 (fun _ hf => ?_) (fun _ hf => ?_) hf
    · refine zs_il hC dX12_bits_24 rfl ?_
      exact zs_iret hC hret dX12_bits_25 hf
    · refine zs_il hC dX12_bits_10 rfl ?_
      refine zs_il hC dX12_bits_11 rfl ?_
      refine zs_il hC dX12_bits_12 rfl ?_
      refine zs_ishr hC dX12_bits_13 ?_
      refine zs_k hC dX12_bits_14 ?_
      refine zs_iand hC dX12_bits_15 ?_
      refine zs_iadd hC dX12_bits_16 ?_
      refine zs_is hC dX12_bits_17 (by decide) rfl ?_
      refine zs_iinc (nI 1) hC dX12_bits_18 (by decide) rfl (by decide) rfl ?_
      refine zs_goto hC dX12_bits_21 ?_
      exact zAW.weak (ih _ _ _ _ hf) (zLw_s (zLw_s (zLw_s zLw_0)))
set_option maxRecDepth 20000 in
set_option maxHeartbeats 4000000 in
theorem wX12_bits {X : zX} {F : Nat} (hC : zCx X RX12 cX12_bits 3 0) (hret : zRt X (some .int)) {v0 : Int32} {μ : zMem} (hf : fX12_bits F v0 μ = some (zOut X)) : zAW X 0 [some (.int v0), none, none] [] μ := by
  unfold fX12_bits at hf
  refine zs_k hC dX12_bits_0 ?_
  refine zs_is hC dX12_bits_1 (by decide) rfl ?_
  refine zs_k hC dX12_bits_2 ?_
  refine zs_is hC dX12_bits_3 (by decide) rfl ?_
  exact zAW.weak (wX12_bits_4 hC hret F _ _ _ _ hf) (zLw_s (zLw_s (zLw_s zLw_0)))
set_option maxRecDepth 20000 in
set_option maxHeartbeats 4000000 in
theorem ctX12_bits {E : zEV} {F : Nat} {v0 : Int32} {μ : zMem} {out : zR} (hf : fX12_bits F v0 μ = some out) : zCt E yX12_bits cX12_bits 3 (some .int) 0 [.int v0] μ out :=
  zCt.of [some (.int v0), none, none] (by decide +kernel) (Nat.le_of_ble_eq_true rfl) (zLw_s (zLw_e (zLw_e zLw_0))) rfl (fun X hE ho hr hC => by
    subst hE; subst ho
    exact wX12_bits hC hr hf)
/-! X12_copies -/
def fX12_copies_2 (F : Nat) (h0 : Nat) (h1 : Nat) : Nat → Int32 → zMem → Option zR
  | 0, _, _ => none
  | n + 1, v2, μ => if (nI 1047) ≤ v2 then some ((nI 0), μ) else zG v2 1047 (zG v2 1047 (fX12_copies_2 F h0 h1 n (v2 + (nI 1)) (zUp μ h1 v2.toNatClampNeg (μ h0 v2.toNatClampNeg))))
def fX12_copies (F : Nat) (h0 : Nat) (h1 : Nat) (μ : zMem) : Option zR :=
  fX12_copies_2 F h0 h1 F (nI 0) μ
set_option maxRecDepth 20000 in
set_option maxHeartbeats 4000000 in
theorem wX12_copies_2 {X : zX} {F h0 h1 : Nat} (hC : zCx X RX12 cX12_copies 3 0) (hh0 : zIsBg h0 = true) (hh1 : zIsBg h1 = true) (hret : zRt X none) : ∀ (n : Nat) (v2 : Int32) (μ : zMem), fX12_copies_2 F h0 h1 n v2 μ = some (zOut X) → zAW X 2 [some (.ref h0), some (.ref h1), some (.int v2)] [] μ := by
  intro n
  induction n with
  | zero =>
    intro v2 μ hf
    rw [fX12_copies_2] at hf
    cases hf
  | succ n ih =>
    intro v2 μ hf
    rw [fX12_copies_2] at hf
    refine zs_il hC dX12_copies_2 rfl ?_
    refine zs_k hC dX12_copies_3 ?_
    refine zs_ic_ge hC dX12_copies_6 (fun _ hf => ?_) (fun _ hf => ?_) hf
    · exact zs_vret hC hret dX12_copies_21 hf
    · refine zs_al hC dX12_copies_9 rfl ?_
      refine zs_il hC dX12_copies_10 rfl ?_
      refine zs_al hC dX12_copies_11 rfl ?_
      refine zs_il hC dX12_copies_12 rfl ?_
      refine zs_iald hC (zBg hh0) dX12_copies_13 (fun _ hf => ?_) hf
      refine zs_iast hC (zBg hh1) dX12_copies_14 (fun _ hf => ?_) hf
      refine zs_iinc (nI 1) hC dX12_copies_15 (by decide) rfl (by decide) rfl ?_
      refine zs_goto hC dX12_copies_18 ?_
      exact zAW.weak (ih _ _ hf) (zLw_s (zLw_s (zLw_s zLw_0)))
set_option maxRecDepth 20000 in
set_option maxHeartbeats 4000000 in
theorem wX12_copies {X : zX} {F h0 h1 : Nat} (hC : zCx X RX12 cX12_copies 3 0) (hh0 : zIsBg h0 = true) (hh1 : zIsBg h1 = true) (hret : zRt X none) {μ : zMem} (hf : fX12_copies F h0 h1 μ = some (zOut X)) : zAW X 0 [some (.ref h0), some (.ref h1), none] [] μ := by
  unfold fX12_copies at hf
  refine zs_k hC dX12_copies_0 ?_
  refine zs_is hC dX12_copies_1 (by decide) rfl ?_
  exact zAW.weak (wX12_copies_2 hC hh0 hh1 hret F _ _ hf) (zLw_s (zLw_s (zLw_s zLw_0)))
set_option maxRecDepth 20000 in
set_option maxHeartbeats 4000000 in
theorem ctX12_copies {E : zEV} {F : Nat} {h0 : Nat} {h1 : Nat} {μ : zMem} {out : zR} (hh0 : zIsBg h0 = true) (hh1 : zIsBg h1 = true) (hf : fX12_copies F h0 h1 μ = some out) : zCt E yX12_copies cX12_copies 3 none 0 [.ref h0, .ref h1] μ out :=
  zCt.of [some (.ref h0), some (.ref h1), none] (by decide +kernel) (Nat.le_of_ble_eq_true rfl) (zLw_s (zLw_s (zLw_e zLw_0))) rfl (fun X hE ho hr hC => by
    subst hE; subst ho
    exact wX12_copies hC hh0 hh1 hr hf)
/-! X12_isTold -/
def fX12_isTold (F : Nat) (v1 : Int32) (μ : zMem) : Option zR :=
  zBd (fX12_in F v1 (nI 0) (nI 15) μ) (fun r1 m1 => if r1 = 0 then some ((nI 0), m1) else zG ((nI 0) + v1) 1047 (if (m1 61 ((nI 0) + v1).toNatClampNeg) = (nI 1) then some ((nI 1), m1) else some ((nI 0), m1)))
set_option maxRecDepth 20000 in
set_option maxHeartbeats 4000000 in
theorem wX12_isTold {X : zX} {F : Nat} (hC : zCx X RX12 cX12_isTold 2 1) (hret : zRt X (some .boolean)) {v1 : Int32} {μ : zMem} (hf : fX12_isTold F v1 μ = some (zOut X)) : zAW X 0 [some (.ref 60), some (.int v1)] [] μ := by
  unfold fX12_isTold at hf
  refine zs_il hC dX12_isTold_0 rfl ?_
  refine zs_k hC dX12_isTold_1 ?_
  refine zs_k hC dX12_isTold_2 ?_
  refine zs_callS [.int v1, .int (nI 0), .int (nI 15)] hC cw_X12_in cl_RX12_96 (by decide) rfl rfl (Nat.le_of_ble_eq_true rfl) dX12_isTold_4 (fun _ h => ctX12_in h) (fun r1 m1 _ hf => ?_) hf
  show zAW X 7 _ (.int r1 :: _) m1
  refine zs_if_eq hC dX12_isTold_7 (fun _ hf => ?_) (fun _ hf => ?_) hf
  · refine zs_k hC dX12_isTold_26 ?_
    exact zs_zretK hC hret dX12_isTold_27 (by decide) hf
  · refine zs_al hC dX12_isTold_10 rfl ?_
    refine zs_getR 61 hC fl_RX12_7 zL60 rfl dX12_isTold_11 ?_
    refine zs_k hC dX12_isTold_14 ?_
    refine zs_il hC dX12_isTold_15 rfl ?_
    refine zs_iadd hC dX12_isTold_16 ?_
    refine zs_iald hC zL61 dX12_isTold_17 (fun _ hf => ?_) hf
    refine zs_k hC dX12_isTold_18 ?_
    refine zs_ic_ne hC dX12_isTold_19 (fun _ hf => ?_) (fun _ hf => ?_) hf
    · refine zs_k hC dX12_isTold_22 ?_
      refine zs_goto hC dX12_isTold_23 ?_
      exact zs_zretK hC hret dX12_isTold_27 (by decide) hf
    · refine zs_k hC dX12_isTold_26 ?_
      exact zs_zretK hC hret dX12_isTold_27 (by decide) hf
set_option maxRecDepth 20000 in
set_option maxHeartbeats 4000000 in
theorem ctX12_isTold {E : zEV} {F : Nat} {v1 : Int32} {μ : zMem} {out : zR} (hf : fX12_isTold F v1 μ = some out) : zCt E yX12_isTold cX12_isTold 2 (some .boolean) 1 [.ref 60, .int v1] μ out :=
  zCt.of [some (.ref 60), some (.int v1)] (by decide +kernel) (Nat.le_of_ble_eq_true rfl) (zLw_s (zLw_s zLw_0)) rfl (fun X hE ho hr hC => by
    subst hE; subst ho
    exact wX12_isTold hC hr hf)
/-! X12_toldSet -/
def fX12_toldSet_4 (F : Nat) : Nat → Int32 → Int32 → zMem → Option zR
  | 0, _, _, _ => none
  | n + 1, v1, v2, μ => if (nI 16) ≤ v2 then some (v1, μ) else zBd (fX12_isTold F v2 μ) (fun r1 m1 => if r1 = 0 then fX12_toldSet_4 F n v1 (v2 + (nI 1)) m1 else fX12_toldSet_4 F n (v1 ||| ((nI 1) <<< (v2 &&& 31))) (v2 + (nI 1)) m1)
def fX12_toldSet (F : Nat) (μ : zMem) : Option zR :=
  fX12_toldSet_4 F F (nI 0) (nI 0) μ
set_option maxRecDepth 20000 in
set_option maxHeartbeats 4000000 in
theorem wX12_toldSet_4 {X : zX} {F : Nat} (hC : zCx X RX12 cX12_toldSet 3 2) (hret : zRt X (some .int)) : ∀ (n : Nat) (v1 : Int32) (v2 : Int32) (μ : zMem), fX12_toldSet_4 F n v1 v2 μ = some (zOut X) → zAW X 4 [some (.ref 60), some (.int v1), some (.int v2)] [] μ := by
  intro n
  induction n with
  | zero =>
    intro v1 v2 μ hf
    rw [fX12_toldSet_4] at hf
    cases hf
  | succ n ih =>
    intro v1 v2 μ hf
    rw [fX12_toldSet_4] at hf
    refine zs_il hC dX12_toldSet_4 rfl ?_
    refine zs_k hC dX12_toldSet_5 ?_
    refine zs_ic_ge hC dX12_toldSet_7 (fun _ hf => ?_) (fun _ hf => ?_) hf
    · refine zs_il hC dX12_toldSet_30 rfl ?_
      exact zs_iret hC hret dX12_toldSet_31 hf
    · refine zs_al hC dX12_toldSet_10 rfl ?_
      refine zs_il hC dX12_toldSet_11 rfl ?_
      refine zs_callV [.int v2] hC cw_X12_isTold cl_RX12_100 zL60 rfl (by decide) rfl rfl (Nat.le_of_ble_eq_true rfl) dX12_toldSet_12 (fun _ h => ctX12_isTold h) (fun r1 m1 _ hf => ?_) hf
      show zAW X 15 _ (.int r1 :: _) m1
      refine zs_if_eq hC dX12_toldSet_15 (fun _ hf => ?_) (fun _ hf => ?_) hf
      · refine zs_iinc (nI 1) hC dX12_toldSet_24 (by decide) rfl (by decide) rfl ?_
        refine zs_goto hC dX12_toldSet_27 ?_
        exact zAW.weak (ih _ _ _ hf) (zLw_s (zLw_s (zLw_s zLw_0)))
      · refine zs_il hC dX12_toldSet_18 rfl ?_
        refine zs_k hC dX12_toldSet_19 ?_
        refine zs_il hC dX12_toldSet_20 rfl ?_
        refine zs_ishl hC dX12_toldSet_21 ?_
        refine zs_ior hC dX12_toldSet_22 ?_
        refine zs_is hC dX12_toldSet_23 (by decide) rfl ?_
        refine zs_iinc (nI 1) hC dX12_toldSet_24 (by decide) rfl (by decide) rfl ?_
        refine zs_goto hC dX12_toldSet_27 ?_
        exact zAW.weak (ih _ _ _ hf) (zLw_s (zLw_s (zLw_s zLw_0)))
set_option maxRecDepth 20000 in
set_option maxHeartbeats 4000000 in
theorem wX12_toldSet {X : zX} {F : Nat} (hC : zCx X RX12 cX12_toldSet 3 2) (hret : zRt X (some .int)) {μ : zMem} (hf : fX12_toldSet F μ = some (zOut X)) : zAW X 0 [some (.ref 60), none, none] [] μ := by
  unfold fX12_toldSet at hf
  refine zs_k hC dX12_toldSet_0 ?_
  refine zs_is hC dX12_toldSet_1 (by decide) rfl ?_
  refine zs_k hC dX12_toldSet_2 ?_
  refine zs_is hC dX12_toldSet_3 (by decide) rfl ?_
  exact zAW.weak (wX12_toldSet_4 hC hret F _ _ _ hf) (zLw_s (zLw_s (zLw_s zLw_0)))
set_option maxRecDepth 20000 in
set_option maxHeartbeats 4000000 in
theorem ctX12_toldSet {E : zEV} {F : Nat} {μ : zMem} {out : zR} (hf : fX12_toldSet F μ = some out) : zCt E yX12_toldSet cX12_toldSet 3 (some .int) 2 [.ref 60] μ out :=
  zCt.of [some (.ref 60), none, none] (by decide +kernel) (Nat.le_of_ble_eq_true rfl) (zLw_s (zLw_e (zLw_e zLw_0))) rfl (fun X hE ho hr hC => by
    subst hE; subst ho
    exact wX12_toldSet hC hr hf)
/-! X12_person -/
def fX12_person_58 (F : Nat) (v1 : Int32) (s0 : Int32) (s1 : Int32) (μ : zMem) : Option zR :=
  zG s1 1047 (zG ((nI 48) + v1) 1047 (some ((nI 1), (zUp (zUp μ 61 s1.toNatClampNeg s0) 61 ((nI 48) + v1).toNatClampNeg (nI 0)))))
def fX12_person (F : Nat) (v1 : Int32) (v2 : Int32) (v3 : Int32) (μ : zMem) : Option zR :=
  zBd (fX12_in F v1 (nI 0) (nI 15) μ) (fun r1 m1 => if r1 = 0 then some ((nI 0), m1) else zBd (fX12_in F v2 (nI 0) (nI 65535) m1) (fun r2 m2 => if r2 = 0 then some ((nI 0), m2) else zG ((nI 0) + v1) 1047 (zG ((nI 16) + v1) 1047 (if v3 = 0 then fX12_person_58 F v1 (nI 0) ((nI 32) + v1) (zUp (zUp m2 61 ((nI 0) + v1).toNatClampNeg (nI 1)) 61 ((nI 16) + v1).toNatClampNeg v2) else fX12_person_58 F v1 (nI 1) ((nI 32) + v1) (zUp (zUp m2 61 ((nI 0) + v1).toNatClampNeg (nI 1)) 61 ((nI 16) + v1).toNatClampNeg v2)))))
set_option maxRecDepth 20000 in
set_option maxHeartbeats 4000000 in
theorem wX12_person_58 {X : zX} {F : Nat} (hC : zCx X RX12 cX12_person 4 1) (hret : zRt X (some .boolean)) {v1 : Int32} {s0 : Int32} {s1 : Int32} {μ : zMem} (hf : fX12_person_58 F v1 s0 s1 μ = some (zOut X)) : zAW X 58 [some (.ref 60), some (.int v1), none, none] [.int s0, .int s1, .ref 61] μ := by
  unfold fX12_person_58 at hf
  refine zs_iast hC zL61 dX12_person_58 (fun _ hf => ?_) hf
  refine zs_al hC dX12_person_59 rfl ?_
  refine zs_getR 61 hC fl_RX12_7 zL60 rfl dX12_person_60 ?_
  refine zs_k hC dX12_person_63 ?_
  refine zs_il hC dX12_person_65 rfl ?_
  refine zs_iadd hC dX12_person_66 ?_
  refine zs_k hC dX12_person_67 ?_
  refine zs_iast hC zL61 dX12_person_68 (fun _ hf => ?_) hf
  refine zs_k hC dX12_person_69 ?_
  exact zs_zretK hC hret dX12_person_70 (by decide) hf
set_option maxRecDepth 20000 in
set_option maxHeartbeats 4000000 in
theorem wX12_person {X : zX} {F : Nat} (hC : zCx X RX12 cX12_person 4 1) (hret : zRt X (some .boolean)) {v1 : Int32} {v2 : Int32} {v3 : Int32} {μ : zMem} (hf : fX12_person F v1 v2 v3 μ = some (zOut X)) : zAW X 0 [some (.ref 60), some (.int v1), some (.int v2), some (.int v3)] [] μ := by
  unfold fX12_person at hf
  refine zs_il hC dX12_person_0 rfl ?_
  refine zs_k hC dX12_person_1 ?_
  refine zs_k hC dX12_person_2 ?_
  refine zs_callS [.int v1, .int (nI 0), .int (nI 15)] hC cw_X12_in cl_RX12_96 (by decide) rfl rfl (Nat.le_of_ble_eq_true rfl) dX12_person_4 (fun _ h => ctX12_in h) (fun r1 m1 _ hf => ?_) hf
  show zAW X 7 _ (.int r1 :: _) m1
  refine zs_if_eq hC dX12_person_7 (fun _ hf => ?_) (fun _ hf => ?_) hf
  · refine zs_k hC dX12_person_20 ?_
    exact zs_zretK hC hret dX12_person_21 (by decide) hf
  · refine zs_il hC dX12_person_10 rfl ?_
    refine zs_k hC dX12_person_11 ?_
    refine zs_ldc hC kc_RX12_104 dX12_person_12 ?_
    refine zs_callS [.int v2, .int (nI 0), .int (nI 65535)] hC cw_X12_in cl_RX12_96 (by decide) rfl rfl (Nat.le_of_ble_eq_true rfl) dX12_person_14 (fun _ h => ctX12_in h) (fun r2 m2 _ hf => ?_) hf
    show zAW X 17 _ (.int r2 :: _) m2
    refine zs_if_ne hC dX12_person_17 (fun _ hf => ?_) (fun _ hf => ?_) hf
    · refine zs_k hC dX12_person_20 ?_
      exact zs_zretK hC hret dX12_person_21 (by decide) hf
    · refine zs_al hC dX12_person_22 rfl ?_
      refine zs_getR 61 hC fl_RX12_7 zL60 rfl dX12_person_23 ?_
      refine zs_k hC dX12_person_26 ?_
      refine zs_il hC dX12_person_27 rfl ?_
      refine zs_iadd hC dX12_person_28 ?_
      refine zs_k hC dX12_person_29 ?_
      refine zs_iast hC zL61 dX12_person_30 (fun _ hf => ?_) hf
      refine zs_al hC dX12_person_31 rfl ?_
      refine zs_getR 61 hC fl_RX12_7 zL60 rfl dX12_person_32 ?_
      refine zs_k hC dX12_person_35 ?_
      refine zs_il hC dX12_person_37 rfl ?_
      refine zs_iadd hC dX12_person_38 ?_
      refine zs_il hC dX12_person_39 rfl ?_
      refine zs_iast hC zL61 dX12_person_40 (fun _ hf => ?_) hf
      refine zs_al hC dX12_person_41 rfl ?_
      refine zs_getR 61 hC fl_RX12_7 zL60 rfl dX12_person_42 ?_
      refine zs_k hC dX12_person_45 ?_
      refine zs_il hC dX12_person_47 rfl ?_
      refine zs_iadd hC dX12_person_48 ?_
      refine zs_il hC dX12_person_49 rfl ?_
      refine zs_if_eq hC dX12_person_50 (fun _ hf => ?_) (fun _ hf => ?_) hf
      · refine zs_k hC dX12_person_57 ?_
        exact zAW.weak (wX12_person_58 hC hret hf) (zLw_s (zLw_s (zLw_n (zLw_n zLw_0))))
      · refine zs_k hC dX12_person_53 ?_
        refine zs_goto hC dX12_person_54 ?_
        exact zAW.weak (wX12_person_58 hC hret hf) (zLw_s (zLw_s (zLw_n (zLw_n zLw_0))))
set_option maxRecDepth 20000 in
set_option maxHeartbeats 4000000 in
theorem ctX12_person {E : zEV} {F : Nat} {v1 : Int32} {v2 : Int32} {v3 : Int32} {μ : zMem} {out : zR} (hf : fX12_person F v1 v2 v3 μ = some out) : zCt E yX12_person cX12_person 4 (some .boolean) 1 [.ref 60, .int v1, .int v2, .int v3] μ out :=
  zCt.of [some (.ref 60), some (.int v1), some (.int v2), some (.int v3)] (by decide +kernel) (Nat.le_of_ble_eq_true rfl) (zLw_s (zLw_s (zLw_s (zLw_s zLw_0)))) rfl (fun X hE ho hr hC => by
    subst hE; subst ho
    exact wX12_person hC hr hf)
/-! X12_types -/
def fX12_types_2 (F : Nat) : Nat → Int32 → Int32 → zMem → Option zR
  | 0, _, _, _ => none
  | n + 1, v1, v2, μ => if v2 < 0 then some ((nI 0), μ) else zG (μ 60 9) 260 (fX12_types_2 F n v1 (v2 + (-1 : Int32)) (zUp (zUp μ 68 (μ 60 9).toNatClampNeg (((v1 >>> (((nI 8) * v2) &&& 31)).toInt8.toInt32).toInt8.toInt32)) 60 9 (((zUp μ 68 (μ 60 9).toNatClampNeg (((v1 >>> (((nI 8) * v2) &&& 31)).toInt8.toInt32).toInt8.toInt32)) 60 9) + (nI 1))))
def fX12_types (F : Nat) (v1 : Int32) (μ : zMem) : Option zR :=
  fX12_types_2 F F v1 (nI 3) μ
set_option maxRecDepth 20000 in
set_option maxHeartbeats 4000000 in
theorem wX12_types_2 {X : zX} {F : Nat} (hC : zCx X RX12 cX12_types 3 0) (hret : zRt X none) : ∀ (n : Nat) (v1 : Int32) (v2 : Int32) (μ : zMem), fX12_types_2 F n v1 v2 μ = some (zOut X) → zAW X 2 [some (.ref 60), some (.int v1), some (.int v2)] [] μ := by
  intro n
  induction n with
  | zero =>
    intro v1 v2 μ hf
    rw [fX12_types_2] at hf
    cases hf
  | succ n ih =>
    intro v1 v2 μ hf
    rw [fX12_types_2] at hf
    refine zs_il hC dX12_types_2 rfl ?_
    refine zs_if_lt hC dX12_types_3 (fun _ hf => ?_) (fun _ hf => ?_) hf
    · exact zs_vret hC hret dX12_types_38 hf
    · refine zs_al hC dX12_types_6 rfl ?_
      refine zs_getR 68 hC fl_RX12_31 zL60 rfl dX12_types_7 ?_
      refine zs_al hC dX12_types_10 rfl ?_
      refine zs_getI hC fl_RX12_105 zL60 rfl dX12_types_11 ?_
      refine zs_il hC dX12_types_14 rfl ?_
      refine zs_k hC dX12_types_15 ?_
      refine zs_il hC dX12_types_17 rfl ?_
      refine zs_imul hC dX12_types_18 ?_
      refine zs_ishr hC dX12_types_19 ?_
      refine zs_i2b hC dX12_types_20 ?_
      refine zs_bast hC zL68 dX12_types_21 (fun _ hf => ?_) hf
      refine zs_al hC dX12_types_22 rfl ?_
      refine zs_al hC dX12_types_23 rfl ?_
      refine zs_getI hC fl_RX12_105 zL60 rfl dX12_types_24 ?_
      refine zs_k hC dX12_types_27 ?_
      refine zs_iadd hC dX12_types_28 ?_
      refine zs_putI hC fl_RX12_105 fp_12_9 zL60 rfl dX12_types_29 ?_
      refine zs_iinc (-1 : Int32) hC dX12_types_32 (by decide) rfl (by decide) rfl ?_
      refine zs_goto hC dX12_types_35 ?_
      exact zAW.weak (ih _ _ _ hf) (zLw_s (zLw_s (zLw_s zLw_0)))
set_option maxRecDepth 20000 in
set_option maxHeartbeats 4000000 in
theorem wX12_types {X : zX} {F : Nat} (hC : zCx X RX12 cX12_types 3 0) (hret : zRt X none) {v1 : Int32} {μ : zMem} (hf : fX12_types F v1 μ = some (zOut X)) : zAW X 0 [some (.ref 60), some (.int v1), none] [] μ := by
  unfold fX12_types at hf
  refine zs_k hC dX12_types_0 ?_
  refine zs_is hC dX12_types_1 (by decide) rfl ?_
  exact zAW.weak (wX12_types_2 hC hret F _ _ _ hf) (zLw_s (zLw_s (zLw_s zLw_0)))
set_option maxRecDepth 20000 in
set_option maxHeartbeats 4000000 in
theorem ctX12_types {E : zEV} {F : Nat} {v1 : Int32} {μ : zMem} {out : zR} (hf : fX12_types F v1 μ = some out) : zCt E yX12_types cX12_types 3 none 0 [.ref 60, .int v1] μ out :=
  zCt.of [some (.ref 60), some (.int v1), none] (by decide +kernel) (Nat.le_of_ble_eq_true rfl) (zLw_s (zLw_s (zLw_e zLw_0))) rfl (fun X hE ho hr hC => by
    subst hE; subst ho
    exact wX12_types hC hr hf)
/-! X12_feed -/
def fX12_feed (F : Nat) (v1 : Int32) (v2 : Int32) (v3 : Int32) (v4 : Int32) (v5 : Int32) (μ : zMem) : Option zR :=
  if ((μ 60 9) + (nI 20)) ≤ (nI 260) then zBd (fX12_types F v1 μ) (fun r2 m2 => zBd (fX12_types F v2 m2) (fun r3 m3 => zBd (fX12_types F v3 m3) (fun r4 m4 => zBd (fX12_types F v4 m4) (fun r5 m5 => zBd (fX12_types F v5 m5) (fun r6 m6 => some ((m6 60 9), m6)))))) else some ((-1 : Int32), μ)
set_option maxRecDepth 20000 in
set_option maxHeartbeats 4000000 in
theorem wX12_feed {X : zX} {F : Nat} (hC : zCx X RX12 cX12_feed 6 1) (hret : zRt X (some .int)) {v1 : Int32} {v2 : Int32} {v3 : Int32} {v4 : Int32} {v5 : Int32} {μ : zMem} (hf : fX12_feed F v1 v2 v3 v4 v5 μ = some (zOut X)) : zAW X 0 [some (.ref 60), some (.int v1), some (.int v2), some (.int v3), some (.int v4), some (.int v5)] [] μ := by
  unfold fX12_feed at hf
  refine zs_al hC dX12_feed_0 rfl ?_
  refine zs_getI hC fl_RX12_105 zL60 rfl dX12_feed_1 ?_
  refine zs_k hC dX12_feed_4 ?_
  refine zs_iadd hC dX12_feed_6 ?_
  refine zs_k hC dX12_feed_7 ?_
  refine zs_ic_le hC dX12_feed_10 (fun _ hf => ?_) (fun _ hf => ?_) hf
  · refine zs_al hC dX12_feed_15 rfl ?_
    refine zs_il hC dX12_feed_16 rfl ?_
    refine zs_callV [.int v1] hC cw_X12_types cl_RX12_109 zL60 rfl (by decide) rfl rfl (Nat.le_of_ble_eq_true rfl) dX12_feed_17 (fun _ h => ctX12_types h) (fun r2 m2 _ hf => ?_) hf
    show zAW X 20 _ _ m2
    refine zs_al hC dX12_feed_20 rfl ?_
    refine zs_il hC dX12_feed_21 rfl ?_
    refine zs_callV [.int v2] hC cw_X12_types cl_RX12_109 zL60 rfl (by decide) rfl rfl (Nat.le_of_ble_eq_true rfl) dX12_feed_22 (fun _ h => ctX12_types h) (fun r3 m3 _ hf => ?_) hf
    show zAW X 25 _ _ m3
    refine zs_al hC dX12_feed_25 rfl ?_
    refine zs_il hC dX12_feed_26 rfl ?_
    refine zs_callV [.int v3] hC cw_X12_types cl_RX12_109 zL60 rfl (by decide) rfl rfl (Nat.le_of_ble_eq_true rfl) dX12_feed_27 (fun _ h => ctX12_types h) (fun r4 m4 _ hf => ?_) hf
    show zAW X 30 _ _ m4
    refine zs_al hC dX12_feed_30 rfl ?_
    refine zs_il hC dX12_feed_31 rfl ?_
    refine zs_callV [.int v4] hC cw_X12_types cl_RX12_109 zL60 rfl (by decide) rfl rfl (Nat.le_of_ble_eq_true rfl) dX12_feed_33 (fun _ h => ctX12_types h) (fun r5 m5 _ hf => ?_) hf
    show zAW X 36 _ _ m5
    refine zs_al hC dX12_feed_36 rfl ?_
    refine zs_il hC dX12_feed_37 rfl ?_
    refine zs_callV [.int v5] hC cw_X12_types cl_RX12_109 zL60 rfl (by decide) rfl rfl (Nat.le_of_ble_eq_true rfl) dX12_feed_39 (fun _ h => ctX12_types h) (fun r6 m6 _ hf => ?_) hf
    show zAW X 42 _ _ m6
    refine zs_al hC dX12_feed_42 rfl ?_
    refine zs_getI hC fl_RX12_105 zL60 rfl dX12_feed_43 ?_
    exact zs_iret hC hret dX12_feed_46 hf
  · refine zs_k hC dX12_feed_13 ?_
    exact zs_iret hC hret dX12_feed_14 hf
set_option maxRecDepth 20000 in
set_option maxHeartbeats 4000000 in
theorem ctX12_feed {E : zEV} {F : Nat} {v1 : Int32} {v2 : Int32} {v3 : Int32} {v4 : Int32} {v5 : Int32} {μ : zMem} {out : zR} (hf : fX12_feed F v1 v2 v3 v4 v5 μ = some out) : zCt E yX12_feed cX12_feed 6 (some .int) 1 [.ref 60, .int v1, .int v2, .int v3, .int v4, .int v5] μ out :=
  zCt.of [some (.ref 60), some (.int v1), some (.int v2), some (.int v3), some (.int v4), some (.int v5)] (by decide +kernel) (Nat.le_of_ble_eq_true rfl) (zLw_s (zLw_s (zLw_s (zLw_s (zLw_s (zLw_s zLw_0)))))) rfl (fun X hE ho hr hC => by
    subst hE; subst ho
    exact wX12_feed hC hr hf)
/-! X12_octet -/
def fX12_octet (F : Nat) (v1 : Int32) (μ : zMem) : Option zR :=
  zG v1 260 (some (((μ 68 v1.toNatClampNeg) &&& (nI 255)), μ))
set_option maxRecDepth 20000 in
set_option maxHeartbeats 4000000 in
theorem wX12_octet {X : zX} {F : Nat} (hC : zCx X RX12 cX12_octet 2 0) (hret : zRt X (some .int)) {v1 : Int32} {μ : zMem} (hf : fX12_octet F v1 μ = some (zOut X)) : zAW X 0 [some (.ref 60), some (.int v1)] [] μ := by
  unfold fX12_octet at hf
  refine zs_al hC dX12_octet_0 rfl ?_
  refine zs_getR 68 hC fl_RX12_31 zL60 rfl dX12_octet_1 ?_
  refine zs_il hC dX12_octet_4 rfl ?_
  refine zs_bald hC zL68 dX12_octet_5 (fun _ hf => ?_) hf
  refine zs_k hC dX12_octet_6 ?_
  refine zs_iand hC dX12_octet_9 ?_
  exact zs_iret hC hret dX12_octet_10 hf
set_option maxRecDepth 20000 in
set_option maxHeartbeats 4000000 in
theorem ctX12_octet {E : zEV} {F : Nat} {v1 : Int32} {μ : zMem} {out : zR} (hf : fX12_octet F v1 μ = some out) : zCt E yX12_octet cX12_octet 2 (some .int) 0 [.ref 60, .int v1] μ out :=
  zCt.of [some (.ref 60), some (.int v1)] (by decide +kernel) (Nat.le_of_ble_eq_true rfl) (zLw_s (zLw_s zLw_0)) rfl (fun X hE ho hr hC => by
    subst hE; subst ho
    exact wX12_octet hC hr hf)
/-! X12_here -/
def fX12_here (F : Nat) (μ : zMem) : Option zR :=
  if (μ 60 11) ≤ (μ 60 10) then some ((-1 : Int32), μ) else zG (μ 60 10) 260 (some (((μ 68 (μ 60 10).toNatClampNeg) &&& (nI 255)), μ))
set_option maxRecDepth 20000 in
set_option maxHeartbeats 4000000 in
theorem wX12_here {X : zX} {F : Nat} (hC : zCx X RX12 cX12_here 1 0) (hret : zRt X (some .int)) {μ : zMem} (hf : fX12_here F μ = some (zOut X)) : zAW X 0 [some (.ref 60)] [] μ := by
  unfold fX12_here at hf
  refine zs_al hC dX12_here_0 rfl ?_
  refine zs_getI hC fl_RX12_113 zL60 rfl dX12_here_1 ?_
  refine zs_al hC dX12_here_4 rfl ?_
  refine zs_getI hC fl_RX12_116 zL60 rfl dX12_here_5 ?_
  refine zs_ic_ge hC dX12_here_8 (fun _ hf => ?_) (fun _ hf => ?_) hf
  · refine zs_k hC dX12_here_27 ?_
    exact zs_iret hC hret dX12_here_28 hf
  · refine zs_al hC dX12_here_11 rfl ?_
    refine zs_getR 68 hC fl_RX12_31 zL60 rfl dX12_here_12 ?_
    refine zs_al hC dX12_here_15 rfl ?_
    refine zs_getI hC fl_RX12_113 zL60 rfl dX12_here_16 ?_
    refine zs_bald hC zL68 dX12_here_19 (fun _ hf => ?_) hf
    refine zs_k hC dX12_here_20 ?_
    refine zs_iand hC dX12_here_23 ?_
    refine zs_goto hC dX12_here_24 ?_
    exact zs_iret hC hret dX12_here_28 hf
set_option maxRecDepth 20000 in
set_option maxHeartbeats 4000000 in
theorem ctX12_here {E : zEV} {F : Nat} {μ : zMem} {out : zR} (hf : fX12_here F μ = some out) : zCt E yX12_here cX12_here 1 (some .int) 0 [.ref 60] μ out :=
  zCt.of [some (.ref 60)] (by decide +kernel) (Nat.le_of_ble_eq_true rfl) (zLw_s zLw_0) rfl (fun X hE ho hr hC => by
    subst hE; subst ho
    exact wX12_here hC hr hf)
/-! X12_isDigit -/
def fX12_isDigit (F : Nat) (μ : zMem) : Option zR :=
  zBd (fX12_here F μ) (fun r1 m1 => if r1 < (nI 48) then some ((nI 0), m1) else zBd (fX12_here F m1) (fun r2 m2 => if (nI 57) < r2 then some ((nI 0), m2) else some ((nI 1), m2)))
set_option maxRecDepth 20000 in
set_option maxHeartbeats 4000000 in
theorem wX12_isDigit {X : zX} {F : Nat} (hC : zCx X RX12 cX12_isDigit 1 1) (hret : zRt X (some .boolean)) {μ : zMem} (hf : fX12_isDigit F μ = some (zOut X)) : zAW X 0 [some (.ref 60)] [] μ := by
  unfold fX12_isDigit at hf
  refine zs_al hC dX12_isDigit_0 rfl ?_
  refine zs_callV [] hC cw_X12_here cl_RX12_119 zL60 rfl (by decide) rfl rfl (Nat.le_of_ble_eq_true rfl) dX12_isDigit_1 (fun _ h => ctX12_here h) (fun r1 m1 _ hf => ?_) hf
  show zAW X 4 _ (.int r1 :: _) m1
  refine zs_k hC dX12_isDigit_4 ?_
  refine zs_ic_lt hC dX12_isDigit_6 (fun _ hf => ?_) (fun _ hf => ?_) hf
  · refine zs_k hC dX12_isDigit_22 ?_
    exact zs_zretK hC hret dX12_isDigit_23 (by decide) hf
  · refine zs_al hC dX12_isDigit_9 rfl ?_
    refine zs_callV [] hC cw_X12_here cl_RX12_119 zL60 rfl (by decide) rfl rfl (Nat.le_of_ble_eq_true rfl) dX12_isDigit_10 (fun _ h => ctX12_here h) (fun r2 m2 _ hf => ?_) hf
    show zAW X 13 _ (.int r2 :: _) m2
    refine zs_k hC dX12_isDigit_13 ?_
    refine zs_ic_gt hC dX12_isDigit_15 (fun _ hf => ?_) (fun _ hf => ?_) hf
    · refine zs_k hC dX12_isDigit_22 ?_
      exact zs_zretK hC hret dX12_isDigit_23 (by decide) hf
    · refine zs_k hC dX12_isDigit_18 ?_
      refine zs_goto hC dX12_isDigit_19 ?_
      exact zs_zretK hC hret dX12_isDigit_23 (by decide) hf
set_option maxRecDepth 20000 in
set_option maxHeartbeats 4000000 in
theorem ctX12_isDigit {E : zEV} {F : Nat} {μ : zMem} {out : zR} (hf : fX12_isDigit F μ = some out) : zCt E yX12_isDigit cX12_isDigit 1 (some .boolean) 1 [.ref 60] μ out :=
  zCt.of [some (.ref 60)] (by decide +kernel) (Nat.le_of_ble_eq_true rfl) (zLw_s zLw_0) rfl (fun X hE ho hr hC => by
    subst hE; subst ho
    exact wX12_isDigit hC hr hf)
/-! X12_wrongAt -/
def fX12_wrongAt (F : Nat) (v1 : Int32) (v2 : Int32) (μ : zMem) : Option zR :=
  some ((nI 0), (zUp μ 60 12 (((-1000 : Int32) * v1) - v2)))
set_option maxRecDepth 20000 in
set_option maxHeartbeats 4000000 in
theorem wX12_wrongAt {X : zX} {F : Nat} (hC : zCx X RX12 cX12_wrongAt 3 0) (hret : zRt X (some .boolean)) {v1 : Int32} {v2 : Int32} {μ : zMem} (hf : fX12_wrongAt F v1 v2 μ = some (zOut X)) : zAW X 0 [some (.ref 60), some (.int v1), some (.int v2)] [] μ := by
  unfold fX12_wrongAt at hf
  refine zs_al hC dX12_wrongAt_0 rfl ?_
  refine zs_k hC dX12_wrongAt_1 ?_
  refine zs_il hC dX12_wrongAt_4 rfl ?_
  refine zs_imul hC dX12_wrongAt_5 ?_
  refine zs_il hC dX12_wrongAt_6 rfl ?_
  refine zs_isub hC dX12_wrongAt_7 ?_
  refine zs_putI hC fl_RX12_123 fp_12_12 zL60 rfl dX12_wrongAt_8 ?_
  refine zs_k hC dX12_wrongAt_11 ?_
  exact zs_zretK hC hret dX12_wrongAt_12 (by decide) hf
set_option maxRecDepth 20000 in
set_option maxHeartbeats 4000000 in
theorem ctX12_wrongAt {E : zEV} {F : Nat} {v1 : Int32} {v2 : Int32} {μ : zMem} {out : zR} (hf : fX12_wrongAt F v1 v2 μ = some out) : zCt E yX12_wrongAt cX12_wrongAt 3 (some .boolean) 0 [.ref 60, .int v1, .int v2] μ out :=
  zCt.of [some (.ref 60), some (.int v1), some (.int v2)] (by decide +kernel) (Nat.le_of_ble_eq_true rfl) (zLw_s (zLw_s (zLw_s zLw_0))) rfl (fun X hE ho hr hC => by
    subst hE; subst ho
    exact wX12_wrongAt hC hr hf)
/-! X12_takes -/
def fX12_takes (F : Nat) (v1 : Int32) (μ : zMem) : Option zR :=
  zBd (fX12_here F μ) (fun r1 m1 => if r1 = v1 then some ((nI 1), (zUp m1 60 10 ((m1 60 10) + (nI 1)))) else zBd (fX12_wrongAt F (nI 1) (m1 60 10) m1) (fun r4 m4 => zGb (decide (r4 = 0 ∨ r4 = 1)) (some (r4, m4))))
set_option maxRecDepth 20000 in
set_option maxHeartbeats 4000000 in
theorem wX12_takes {X : zX} {F : Nat} (hC : zCx X RX12 cX12_takes 2 1) (hret : zRt X (some .boolean)) {v1 : Int32} {μ : zMem} (hf : fX12_takes F v1 μ = some (zOut X)) : zAW X 0 [some (.ref 60), some (.int v1)] [] μ := by
  unfold fX12_takes at hf
  refine zs_al hC dX12_takes_0 rfl ?_
  refine zs_callV [] hC cw_X12_here cl_RX12_119 zL60 rfl (by decide) rfl rfl (Nat.le_of_ble_eq_true rfl) dX12_takes_1 (fun _ h => ctX12_here h) (fun r1 m1 _ hf => ?_) hf
  show zAW X 4 _ (.int r1 :: _) m1
  refine zs_il hC dX12_takes_4 rfl ?_
  refine zs_ic_eq hC dX12_takes_5 (fun _ hf => ?_) (fun _ hf => ?_) hf
  · refine zs_al hC dX12_takes_18 rfl ?_
    refine zs_al hC dX12_takes_19 rfl ?_
    refine zs_getI hC fl_RX12_113 zL60 rfl dX12_takes_20 ?_
    refine zs_k hC dX12_takes_23 ?_
    refine zs_iadd hC dX12_takes_24 ?_
    refine zs_putI hC fl_RX12_113 fp_12_10 zL60 rfl dX12_takes_25 ?_
    refine zs_k hC dX12_takes_28 ?_
    exact zs_zretK hC hret dX12_takes_29 (by decide) hf
  · refine zs_al hC dX12_takes_8 rfl ?_
    refine zs_k hC dX12_takes_9 ?_
    refine zs_al hC dX12_takes_10 rfl ?_
    refine zs_getI hC fl_RX12_113 zL60 rfl dX12_takes_11 ?_
    refine zs_callV [.int (nI 1), .int (m1 60 10)] hC cw_X12_wrongAt cl_RX12_126 zL60 rfl (by decide) rfl rfl (Nat.le_of_ble_eq_true rfl) dX12_takes_14 (fun _ h => ctX12_wrongAt h) (fun r4 m4 _ hf => ?_) hf
    show zAW X 17 _ (.int r4 :: _) m4
    exact zs_zret hC hret dX12_takes_17 hf
set_option maxRecDepth 20000 in
set_option maxHeartbeats 4000000 in
theorem ctX12_takes {E : zEV} {F : Nat} {v1 : Int32} {μ : zMem} {out : zR} (hf : fX12_takes F v1 μ = some out) : zCt E yX12_takes cX12_takes 2 (some .boolean) 1 [.ref 60, .int v1] μ out :=
  zCt.of [some (.ref 60), some (.int v1)] (by decide +kernel) (Nat.le_of_ble_eq_true rfl) (zLw_s (zLw_s zLw_0)) rfl (fun X hE ho hr hC => by
    subst hE; subst ho
    exact wX12_takes hC hr hf)
/-! X12_readsNumber -/
def fX12_readsNumber_10 (F : Nat) : Nat → Int32 → zMem → Option zR
  | 0, _, _ => none
  | n + 1, v1, μ => zBd (fX12_isDigit F μ) (fun r1 m1 => if r1 = 0 then some ((nI 1), m1) else if (m1 60 10) = (v1 + (nI 5)) then zBd (fX12_wrongAt F (nI 2) (m1 60 10) m1) (fun r4 m4 => zGb (decide (r4 = 0 ∨ r4 = 1)) (some (r4, m4))) else zBd (fX12_here F m1) (fun r6 m6 => fX12_readsNumber_10 F n v1 (zUp (zUp m6 60 13 ((((nI 10) * (m1 60 13)) + r6) - (nI 48))) 60 10 (((zUp m6 60 13 ((((nI 10) * (m1 60 13)) + r6) - (nI 48))) 60 10) + (nI 1)))))
def fX12_readsNumber (F : Nat) (μ : zMem) : Option zR :=
  fX12_readsNumber_10 F F (μ 60 10) (zUp μ 60 13 (nI 0))
set_option maxRecDepth 20000 in
set_option maxHeartbeats 4000000 in
theorem wX12_readsNumber_10 {X : zX} {F : Nat} (hC : zCx X RX12 cX12_readsNumber 2 2) (hret : zRt X (some .boolean)) : ∀ (n : Nat) (v1 : Int32) (μ : zMem), fX12_readsNumber_10 F n v1 μ = some (zOut X) → zAW X 10 [some (.ref 60), some (.int v1)] [] μ := by
  intro n
  induction n with
  | zero =>
    intro v1 μ hf
    rw [fX12_readsNumber_10] at hf
    cases hf
  | succ n ih =>
    intro v1 μ hf
    rw [fX12_readsNumber_10] at hf
    refine zs_al hC dX12_readsNumber_10 rfl ?_
    refine zs_callV [] hC cw_X12_isDigit cl_RX12_133 zL60 rfl (by decide) rfl rfl (Nat.le_of_ble_eq_true rfl) dX12_readsNumber_11 (fun _ h => ctX12_isDigit h) (fun r1 m1 _ hf => ?_) hf
    show zAW X 14 _ (.int r1 :: _) m1
    refine zs_if_eq hC dX12_readsNumber_14 (fun _ hf => ?_) (fun _ hf => ?_) hf
    · refine zs_k hC dX12_readsNumber_69 ?_
      exact zs_zretK hC hret dX12_readsNumber_70 (by decide) hf
    · refine zs_al hC dX12_readsNumber_17 rfl ?_
      refine zs_getI hC fl_RX12_113 zL60 rfl dX12_readsNumber_18 ?_
      refine zs_il hC dX12_readsNumber_21 rfl ?_
      refine zs_k hC dX12_readsNumber_22 ?_
      refine zs_iadd hC dX12_readsNumber_23 ?_
      refine zs_ic_ne hC dX12_readsNumber_24 (fun _ hf => ?_) (fun _ hf => ?_) hf
      · refine zs_al hC dX12_readsNumber_27 rfl ?_
        refine zs_k hC dX12_readsNumber_28 ?_
        refine zs_al hC dX12_readsNumber_29 rfl ?_
        refine zs_getI hC fl_RX12_113 zL60 rfl dX12_readsNumber_30 ?_
        refine zs_callV [.int (nI 2), .int (m1 60 10)] hC cw_X12_wrongAt cl_RX12_126 zL60 rfl (by decide) rfl rfl (Nat.le_of_ble_eq_true rfl) dX12_readsNumber_33 (fun _ h => ctX12_wrongAt h) (fun r4 m4 _ hf => ?_) hf
        show zAW X 36 _ (.int r4 :: _) m4
        exact zs_zret hC hret dX12_readsNumber_36 hf
      · refine zs_al hC dX12_readsNumber_37 rfl ?_
        refine zs_k hC dX12_readsNumber_38 ?_
        refine zs_al hC dX12_readsNumber_40 rfl ?_
        refine zs_getI hC fl_RX12_130 zL60 rfl dX12_readsNumber_41 ?_
        refine zs_imul hC dX12_readsNumber_44 ?_
        refine zs_al hC dX12_readsNumber_45 rfl ?_
        refine zs_callV [] hC cw_X12_here cl_RX12_119 zL60 rfl (by decide) rfl rfl (Nat.le_of_ble_eq_true rfl) dX12_readsNumber_46 (fun _ h => ctX12_here h) (fun r6 m6 _ hf => ?_) hf
        show zAW X 49 _ (.int r6 :: _) m6
        refine zs_iadd hC dX12_readsNumber_49 ?_
        refine zs_k hC dX12_readsNumber_50 ?_
        refine zs_isub hC dX12_readsNumber_52 ?_
        refine zs_putI hC fl_RX12_130 fp_12_13 zL60 rfl dX12_readsNumber_53 ?_
        refine zs_al hC dX12_readsNumber_56 rfl ?_
        refine zs_al hC dX12_readsNumber_57 rfl ?_
        refine zs_getI hC fl_RX12_113 zL60 rfl dX12_readsNumber_58 ?_
        refine zs_k hC dX12_readsNumber_61 ?_
        refine zs_iadd hC dX12_readsNumber_62 ?_
        refine zs_putI hC fl_RX12_113 fp_12_10 zL60 rfl dX12_readsNumber_63 ?_
        refine zs_goto hC dX12_readsNumber_66 ?_
        exact zAW.weak (ih _ _ hf) (zLw_s (zLw_s zLw_0))
set_option maxRecDepth 20000 in
set_option maxHeartbeats 4000000 in
theorem wX12_readsNumber {X : zX} {F : Nat} (hC : zCx X RX12 cX12_readsNumber 2 2) (hret : zRt X (some .boolean)) {μ : zMem} (hf : fX12_readsNumber F μ = some (zOut X)) : zAW X 0 [some (.ref 60), none] [] μ := by
  unfold fX12_readsNumber at hf
  refine zs_al hC dX12_readsNumber_0 rfl ?_
  refine zs_getI hC fl_RX12_113 zL60 rfl dX12_readsNumber_1 ?_
  refine zs_is hC dX12_readsNumber_4 (by decide) rfl ?_
  refine zs_al hC dX12_readsNumber_5 rfl ?_
  refine zs_k hC dX12_readsNumber_6 ?_
  refine zs_putI hC fl_RX12_130 fp_12_13 zL60 rfl dX12_readsNumber_7 ?_
  exact zAW.weak (wX12_readsNumber_10 hC hret F _ _ hf) (zLw_s (zLw_s zLw_0))
set_option maxRecDepth 20000 in
set_option maxHeartbeats 4000000 in
theorem ctX12_readsNumber {E : zEV} {F : Nat} {μ : zMem} {out : zR} (hf : fX12_readsNumber F μ = some out) : zCt E yX12_readsNumber cX12_readsNumber 2 (some .boolean) 2 [.ref 60] μ out :=
  zCt.of [some (.ref 60), none] (by decide +kernel) (Nat.le_of_ble_eq_true rfl) (zLw_s (zLw_e zLw_0)) rfl (fun X hE ho hr hC => by
    subst hE; subst ho
    exact wX12_readsNumber hC hr hf)
/-! X12_notes -/
def fX12_notes (F : Nat) (v1 : Int32) (v2 : Int32) (μ : zMem) : Option zR :=
  zG (μ 60 15) 260 (some ((nI 0), (zUp (zUp μ 69 (μ 60 15).toNatClampNeg (((nI 1048576) * v1) + v2)) 60 15 (((zUp μ 69 (μ 60 15).toNatClampNeg (((nI 1048576) * v1) + v2)) 60 15) + (nI 1)))))
set_option maxRecDepth 20000 in
set_option maxHeartbeats 4000000 in
theorem wX12_notes {X : zX} {F : Nat} (hC : zCx X RX12 cX12_notes 3 0) (hret : zRt X none) {v1 : Int32} {v2 : Int32} {μ : zMem} (hf : fX12_notes F v1 v2 μ = some (zOut X)) : zAW X 0 [some (.ref 60), some (.int v1), some (.int v2)] [] μ := by
  unfold fX12_notes at hf
  refine zs_al hC dX12_notes_0 rfl ?_
  refine zs_getR 69 hC fl_RX12_35 zL60 rfl dX12_notes_1 ?_
  refine zs_al hC dX12_notes_4 rfl ?_
  refine zs_getI hC fl_RX12_137 zL60 rfl dX12_notes_5 ?_
  refine zs_ldc hC kc_RX12_140 dX12_notes_8 ?_
  refine zs_il hC dX12_notes_10 rfl ?_
  refine zs_imul hC dX12_notes_11 ?_
  refine zs_il hC dX12_notes_12 rfl ?_
  refine zs_iadd hC dX12_notes_13 ?_
  refine zs_iast hC zL69 dX12_notes_14 (fun _ hf => ?_) hf
  refine zs_al hC dX12_notes_15 rfl ?_
  refine zs_al hC dX12_notes_16 rfl ?_
  refine zs_getI hC fl_RX12_137 zL60 rfl dX12_notes_17 ?_
  refine zs_k hC dX12_notes_20 ?_
  refine zs_iadd hC dX12_notes_21 ?_
  refine zs_putI hC fl_RX12_137 fp_12_15 zL60 rfl dX12_notes_22 ?_
  exact zs_vret hC hret dX12_notes_25 hf
set_option maxRecDepth 20000 in
set_option maxHeartbeats 4000000 in
theorem ctX12_notes {E : zEV} {F : Nat} {v1 : Int32} {v2 : Int32} {μ : zMem} {out : zR} (hf : fX12_notes F v1 v2 μ = some out) : zCt E yX12_notes cX12_notes 3 none 0 [.ref 60, .int v1, .int v2] μ out :=
  zCt.of [some (.ref 60), some (.int v1), some (.int v2)] (by decide +kernel) (Nat.le_of_ble_eq_true rfl) (zLw_s (zLw_s (zLw_s zLw_0))) rfl (fun X hE ho hr hC => by
    subst hE; subst ho
    exact wX12_notes hC hr hf)
/-! X12_opens -/
def fX12_opens (F : Nat) (v1 : Int32) (μ : zMem) : Option zR :=
  if (μ 60 14) = (nI 6) then zBd (fX12_wrongAt F (nI 5) (μ 60 10) μ) (fun r3 m3 => zGb (decide (r3 = 0 ∨ r3 = 1)) (some (r3, m3))) else zG ((zUp μ 60 14 ((μ 60 14) + (nI 1))) 60 16) 260 (some ((nI 1), (zUp (zUp (zUp (zUp μ 60 14 ((μ 60 14) + (nI 1))) 70 ((zUp μ 60 14 ((μ 60 14) + (nI 1))) 60 16).toNatClampNeg ((nI 1048576) * v1)) 60 16 (((zUp (zUp μ 60 14 ((μ 60 14) + (nI 1))) 70 ((zUp μ 60 14 ((μ 60 14) + (nI 1))) 60 16).toNatClampNeg ((nI 1048576) * v1)) 60 16) + (nI 1))) 60 10 (((zUp (zUp (zUp μ 60 14 ((μ 60 14) + (nI 1))) 70 ((zUp μ 60 14 ((μ 60 14) + (nI 1))) 60 16).toNatClampNeg ((nI 1048576) * v1)) 60 16 (((zUp (zUp μ 60 14 ((μ 60 14) + (nI 1))) 70 ((zUp μ 60 14 ((μ 60 14) + (nI 1))) 60 16).toNatClampNeg ((nI 1048576) * v1)) 60 16) + (nI 1))) 60 10) + (nI 1)))))
set_option maxRecDepth 20000 in
set_option maxHeartbeats 4000000 in
theorem wX12_opens {X : zX} {F : Nat} (hC : zCx X RX12 cX12_opens 2 1) (hret : zRt X (some .boolean)) {v1 : Int32} {μ : zMem} (hf : fX12_opens F v1 μ = some (zOut X)) : zAW X 0 [some (.ref 60), some (.int v1)] [] μ := by
  unfold fX12_opens at hf
  refine zs_al hC dX12_opens_0 rfl ?_
  refine zs_getI hC fl_RX12_141 zL60 rfl dX12_opens_1 ?_
  refine zs_k hC dX12_opens_4 ?_
  refine zs_ic_ne hC dX12_opens_6 (fun _ hf => ?_) (fun _ hf => ?_) hf
  · refine zs_al hC dX12_opens_9 rfl ?_
    refine zs_k hC dX12_opens_10 ?_
    refine zs_al hC dX12_opens_11 rfl ?_
    refine zs_getI hC fl_RX12_113 zL60 rfl dX12_opens_12 ?_
    refine zs_callV [.int (nI 5), .int (μ 60 10)] hC cw_X12_wrongAt cl_RX12_126 zL60 rfl (by decide) rfl rfl (Nat.le_of_ble_eq_true rfl) dX12_opens_15 (fun _ h => ctX12_wrongAt h) (fun r3 m3 _ hf => ?_) hf
    show zAW X 18 _ (.int r3 :: _) m3
    exact zs_zret hC hret dX12_opens_18 hf
  · refine zs_al hC dX12_opens_19 rfl ?_
    refine zs_al hC dX12_opens_20 rfl ?_
    refine zs_getI hC fl_RX12_141 zL60 rfl dX12_opens_21 ?_
    refine zs_k hC dX12_opens_24 ?_
    refine zs_iadd hC dX12_opens_25 ?_
    refine zs_putI hC fl_RX12_141 fp_12_14 zL60 rfl dX12_opens_26 ?_
    refine zs_al hC dX12_opens_29 rfl ?_
    refine zs_getR 70 hC fl_RX12_38 zL60 rfl dX12_opens_30 ?_
    refine zs_al hC dX12_opens_33 rfl ?_
    refine zs_getI hC fl_RX12_144 zL60 rfl dX12_opens_34 ?_
    refine zs_ldc hC kc_RX12_140 dX12_opens_37 ?_
    refine zs_il hC dX12_opens_39 rfl ?_
    refine zs_imul hC dX12_opens_40 ?_
    refine zs_iast hC zL70 dX12_opens_41 (fun _ hf => ?_) hf
    refine zs_al hC dX12_opens_42 rfl ?_
    refine zs_al hC dX12_opens_43 rfl ?_
    refine zs_getI hC fl_RX12_144 zL60 rfl dX12_opens_44 ?_
    refine zs_k hC dX12_opens_47 ?_
    refine zs_iadd hC dX12_opens_48 ?_
    refine zs_putI hC fl_RX12_144 fp_12_16 zL60 rfl dX12_opens_49 ?_
    refine zs_al hC dX12_opens_52 rfl ?_
    refine zs_al hC dX12_opens_53 rfl ?_
    refine zs_getI hC fl_RX12_113 zL60 rfl dX12_opens_54 ?_
    refine zs_k hC dX12_opens_57 ?_
    refine zs_iadd hC dX12_opens_58 ?_
    refine zs_putI hC fl_RX12_113 fp_12_10 zL60 rfl dX12_opens_59 ?_
    refine zs_k hC dX12_opens_62 ?_
    exact zs_zretK hC hret dX12_opens_63 (by decide) hf
set_option maxRecDepth 20000 in
set_option maxHeartbeats 4000000 in
theorem ctX12_opens {E : zEV} {F : Nat} {v1 : Int32} {μ : zMem} {out : zR} (hf : fX12_opens F v1 μ = some out) : zCt E yX12_opens cX12_opens 2 (some .boolean) 1 [.ref 60, .int v1] μ out :=
  zCt.of [some (.ref 60), some (.int v1)] (by decide +kernel) (Nat.le_of_ble_eq_true rfl) (zLw_s (zLw_s zLw_0)) rfl (fun X hE ho hr hC => by
    subst hE; subst ho
    exact wX12_opens hC hr hf)
/-! X12_waitTop -/
def fX12_waitTop (F : Nat) (μ : zMem) : Option zR :=
  if (μ 60 16) = 0 then some ((-1 : Int32), μ) else zG ((μ 60 16) - (nI 1)) 260 (zGz (nI 1048576) (some (((μ 70 ((μ 60 16) - (nI 1)).toNatClampNeg) / (nI 1048576)), μ)))
set_option maxRecDepth 20000 in
set_option maxHeartbeats 4000000 in
theorem wX12_waitTop {X : zX} {F : Nat} (hC : zCx X RX12 cX12_waitTop 1 0) (hret : zRt X (some .int)) {μ : zMem} (hf : fX12_waitTop F μ = some (zOut X)) : zAW X 0 [some (.ref 60)] [] μ := by
  unfold fX12_waitTop at hf
  refine zs_al hC dX12_waitTop_0 rfl ?_
  refine zs_getI hC fl_RX12_144 zL60 rfl dX12_waitTop_1 ?_
  refine zs_if_ne hC dX12_waitTop_4 (fun _ hf => ?_) (fun _ hf => ?_) hf
  · refine zs_k hC dX12_waitTop_7 ?_
    refine zs_goto hC dX12_waitTop_8 ?_
    exact zs_iret hC hret dX12_waitTop_25 hf
  · refine zs_al hC dX12_waitTop_11 rfl ?_
    refine zs_getR 70 hC fl_RX12_38 zL60 rfl dX12_waitTop_12 ?_
    refine zs_al hC dX12_waitTop_15 rfl ?_
    refine zs_getI hC fl_RX12_144 zL60 rfl dX12_waitTop_16 ?_
    refine zs_k hC dX12_waitTop_19 ?_
    refine zs_isub hC dX12_waitTop_20 ?_
    refine zs_iald hC zL70 dX12_waitTop_21 (fun _ hf => ?_) hf
    refine zs_ldc hC kc_RX12_140 dX12_waitTop_22 ?_
    refine zs_idiv hC dX12_waitTop_24 (fun _ hf => ?_) hf
    exact zs_iret hC hret dX12_waitTop_25 hf
set_option maxRecDepth 20000 in
set_option maxHeartbeats 4000000 in
theorem ctX12_waitTop {E : zEV} {F : Nat} {μ : zMem} {out : zR} (hf : fX12_waitTop F μ = some out) : zCt E yX12_waitTop cX12_waitTop 1 (some .int) 0 [.ref 60] μ out :=
  zCt.of [some (.ref 60)] (by decide +kernel) (Nat.le_of_ble_eq_true rfl) (zLw_s zLw_0) rfl (fun X hE ho hr hC => by
    subst hE; subst ho
    exact wX12_waitTop hC hr hf)
/-! X12_factOf -/
def fX12_factOf (F : Nat) (v0 : Int32) (μ : zMem) : Option zR :=
  (if v0 = (nI 98) then some ((nI 5), μ) else if v0 = (nI 99) then some ((nI 8), μ) else if v0 = (nI 100) then some ((nI 6), μ) else if v0 = (nI 101) then some ((-1 : Int32), μ) else if v0 = (nI 102) then some ((-1 : Int32), μ) else if v0 = (nI 103) then some ((-1 : Int32), μ) else if v0 = (nI 104) then some ((-1 : Int32), μ) else if v0 = (nI 105) then some ((-1 : Int32), μ) else if v0 = (nI 106) then some ((-1 : Int32), μ) else if v0 = (nI 107) then some ((nI 1), μ) else if v0 = (nI 108) then some ((-1 : Int32), μ) else if v0 = (nI 109) then some ((-1 : Int32), μ) else if v0 = (nI 110) then some ((nI 2), μ) else if v0 = (nI 111) then some ((nI 3), μ) else if v0 = (nI 112) then some ((nI 0), μ) else if v0 = (nI 113) then some ((-1 : Int32), μ) else if v0 = (nI 114) then some ((-1 : Int32), μ) else if v0 = (nI 115) then some ((-1 : Int32), μ) else if v0 = (nI 116) then some ((-1 : Int32), μ) else if v0 = (nI 117) then some ((nI 4), μ) else if v0 = (nI 118) then some ((-1 : Int32), μ) else if v0 = (nI 119) then some ((nI 7), μ) else some ((-1 : Int32), μ))
set_option maxRecDepth 20000 in
set_option maxHeartbeats 4000000 in
theorem wX12_factOf {X : zX} {F : Nat} (hC : zCx X RX12 cX12_factOf 1 0) (hret : zRt X (some .int)) {v0 : Int32} {μ : zMem} (hf : fX12_factOf F v0 μ = some (zOut X)) : zAW X 0 [some (.int v0)] [] μ := by
  unfold fX12_factOf at hf
  refine zs_il hC dX12_factOf_0 rfl ?_
  refine zs_case (nI 98) (fun hx hf => ?_) (fun e1_98 hf => ?_) hf
  · refine zs_tabI (off := 113) (tgt := 114) hC hx dX12_factOf_1 (by decide) (by decide) rfl (by decide) ?_
    refine zs_k hC dX12_factOf_114 ?_
    exact zs_iret hC hret dX12_factOf_115 hf
  refine zs_case (nI 99) (fun hx hf => ?_) (fun e1_99 hf => ?_) hf
  · refine zs_tabI (off := 121) (tgt := 122) hC hx dX12_factOf_1 (by decide) (by decide) rfl (by decide) ?_
    refine zs_k hC dX12_factOf_122 ?_
    exact zs_iret hC hret dX12_factOf_124 hf
  refine zs_case (nI 100) (fun hx hf => ?_) (fun e1_100 hf => ?_) hf
  · refine zs_tabI (off := 115) (tgt := 116) hC hx dX12_factOf_1 (by decide) (by decide) rfl (by decide) ?_
    refine zs_k hC dX12_factOf_116 ?_
    exact zs_iret hC hret dX12_factOf_118 hf
  refine zs_case (nI 101) (fun hx hf => ?_) (fun e1_101 hf => ?_) hf
  · refine zs_tabI (off := 124) (tgt := 125) hC hx dX12_factOf_1 (by decide) (by decide) rfl (by decide) ?_
    refine zs_k hC dX12_factOf_125 ?_
    exact zs_iret hC hret dX12_factOf_126 hf
  refine zs_case (nI 102) (fun hx hf => ?_) (fun e1_102 hf => ?_) hf
  · refine zs_tabI (off := 124) (tgt := 125) hC hx dX12_factOf_1 (by decide) (by decide) rfl (by decide) ?_
    refine zs_k hC dX12_factOf_125 ?_
    exact zs_iret hC hret dX12_factOf_126 hf
  refine zs_case (nI 103) (fun hx hf => ?_) (fun e1_103 hf => ?_) hf
  · refine zs_tabI (off := 124) (tgt := 125) hC hx dX12_factOf_1 (by decide) (by decide) rfl (by decide) ?_
    refine zs_k hC dX12_factOf_125 ?_
    exact zs_iret hC hret dX12_factOf_126 hf
  refine zs_case (nI 104) (fun hx hf => ?_) (fun e1_104 hf => ?_) hf
  · refine zs_tabI (off := 124) (tgt := 125) hC hx dX12_factOf_1 (by decide) (by decide) rfl (by decide) ?_
    refine zs_k hC dX12_factOf_125 ?_
    exact zs_iret hC hret dX12_factOf_126 hf
  refine zs_case (nI 105) (fun hx hf => ?_) (fun e1_105 hf => ?_) hf
  · refine zs_tabI (off := 124) (tgt := 125) hC hx dX12_factOf_1 (by decide) (by decide) rfl (by decide) ?_
    refine zs_k hC dX12_factOf_125 ?_
    exact zs_iret hC hret dX12_factOf_126 hf
  refine zs_case (nI 106) (fun hx hf => ?_) (fun e1_106 hf => ?_) hf
  · refine zs_tabI (off := 124) (tgt := 125) hC hx dX12_factOf_1 (by decide) (by decide) rfl (by decide) ?_
    refine zs_k hC dX12_factOf_125 ?_
    exact zs_iret hC hret dX12_factOf_126 hf
  refine zs_case (nI 107) (fun hx hf => ?_) (fun e1_107 hf => ?_) hf
  · refine zs_tabI (off := 105) (tgt := 106) hC hx dX12_factOf_1 (by decide) (by decide) rfl (by decide) ?_
    refine zs_k hC dX12_factOf_106 ?_
    exact zs_iret hC hret dX12_factOf_107 hf
  refine zs_case (nI 108) (fun hx hf => ?_) (fun e1_108 hf => ?_) hf
  · refine zs_tabI (off := 124) (tgt := 125) hC hx dX12_factOf_1 (by decide) (by decide) rfl (by decide) ?_
    refine zs_k hC dX12_factOf_125 ?_
    exact zs_iret hC hret dX12_factOf_126 hf
  refine zs_case (nI 109) (fun hx hf => ?_) (fun e1_109 hf => ?_) hf
  · refine zs_tabI (off := 124) (tgt := 125) hC hx dX12_factOf_1 (by decide) (by decide) rfl (by decide) ?_
    refine zs_k hC dX12_factOf_125 ?_
    exact zs_iret hC hret dX12_factOf_126 hf
  refine zs_case (nI 110) (fun hx hf => ?_) (fun e1_110 hf => ?_) hf
  · refine zs_tabI (off := 107) (tgt := 108) hC hx dX12_factOf_1 (by decide) (by decide) rfl (by decide) ?_
    refine zs_k hC dX12_factOf_108 ?_
    exact zs_iret hC hret dX12_factOf_109 hf
  refine zs_case (nI 111) (fun hx hf => ?_) (fun e1_111 hf => ?_) hf
  · refine zs_tabI (off := 109) (tgt := 110) hC hx dX12_factOf_1 (by decide) (by decide) rfl (by decide) ?_
    refine zs_k hC dX12_factOf_110 ?_
    exact zs_iret hC hret dX12_factOf_111 hf
  refine zs_case (nI 112) (fun hx hf => ?_) (fun e1_112 hf => ?_) hf
  · refine zs_tabI (off := 103) (tgt := 104) hC hx dX12_factOf_1 (by decide) (by decide) rfl (by decide) ?_
    refine zs_k hC dX12_factOf_104 ?_
    exact zs_iret hC hret dX12_factOf_105 hf
  refine zs_case (nI 113) (fun hx hf => ?_) (fun e1_113 hf => ?_) hf
  · refine zs_tabI (off := 124) (tgt := 125) hC hx dX12_factOf_1 (by decide) (by decide) rfl (by decide) ?_
    refine zs_k hC dX12_factOf_125 ?_
    exact zs_iret hC hret dX12_factOf_126 hf
  refine zs_case (nI 114) (fun hx hf => ?_) (fun e1_114 hf => ?_) hf
  · refine zs_tabI (off := 124) (tgt := 125) hC hx dX12_factOf_1 (by decide) (by decide) rfl (by decide) ?_
    refine zs_k hC dX12_factOf_125 ?_
    exact zs_iret hC hret dX12_factOf_126 hf
  refine zs_case (nI 115) (fun hx hf => ?_) (fun e1_115 hf => ?_) hf
  · refine zs_tabI (off := 124) (tgt := 125) hC hx dX12_factOf_1 (by decide) (by decide) rfl (by decide) ?_
    refine zs_k hC dX12_factOf_125 ?_
    exact zs_iret hC hret dX12_factOf_126 hf
  refine zs_case (nI 116) (fun hx hf => ?_) (fun e1_116 hf => ?_) hf
  · refine zs_tabI (off := 124) (tgt := 125) hC hx dX12_factOf_1 (by decide) (by decide) rfl (by decide) ?_
    refine zs_k hC dX12_factOf_125 ?_
    exact zs_iret hC hret dX12_factOf_126 hf
  refine zs_case (nI 117) (fun hx hf => ?_) (fun e1_117 hf => ?_) hf
  · refine zs_tabI (off := 111) (tgt := 112) hC hx dX12_factOf_1 (by decide) (by decide) rfl (by decide) ?_
    refine zs_k hC dX12_factOf_112 ?_
    exact zs_iret hC hret dX12_factOf_113 hf
  refine zs_case (nI 118) (fun hx hf => ?_) (fun e1_118 hf => ?_) hf
  · refine zs_tabI (off := 124) (tgt := 125) hC hx dX12_factOf_1 (by decide) (by decide) rfl (by decide) ?_
    refine zs_k hC dX12_factOf_125 ?_
    exact zs_iret hC hret dX12_factOf_126 hf
  refine zs_case (nI 119) (fun hx hf => ?_) (fun e1_119 hf => ?_) hf
  · refine zs_tabI (off := 118) (tgt := 119) hC hx dX12_factOf_1 (by decide) (by decide) rfl (by decide) ?_
    refine zs_k hC dX12_factOf_119 ?_
    exact zs_iret hC hret dX12_factOf_121 hf
  have e1_98 := lv_neT (a := 98) e1_98 (by decide)
  have e1_99 := lv_neT (a := 99) e1_99 (by decide)
  have e1_100 := lv_neT (a := 100) e1_100 (by decide)
  have e1_101 := lv_neT (a := 101) e1_101 (by decide)
  have e1_102 := lv_neT (a := 102) e1_102 (by decide)
  have e1_103 := lv_neT (a := 103) e1_103 (by decide)
  have e1_104 := lv_neT (a := 104) e1_104 (by decide)
  have e1_105 := lv_neT (a := 105) e1_105 (by decide)
  have e1_106 := lv_neT (a := 106) e1_106 (by decide)
  have e1_107 := lv_neT (a := 107) e1_107 (by decide)
  have e1_108 := lv_neT (a := 108) e1_108 (by decide)
  have e1_109 := lv_neT (a := 109) e1_109 (by decide)
  have e1_110 := lv_neT (a := 110) e1_110 (by decide)
  have e1_111 := lv_neT (a := 111) e1_111 (by decide)
  have e1_112 := lv_neT (a := 112) e1_112 (by decide)
  have e1_113 := lv_neT (a := 113) e1_113 (by decide)
  have e1_114 := lv_neT (a := 114) e1_114 (by decide)
  have e1_115 := lv_neT (a := 115) e1_115 (by decide)
  have e1_116 := lv_neT (a := 116) e1_116 (by decide)
  have e1_117 := lv_neT (a := 117) e1_117 (by decide)
  have e1_118 := lv_neT (a := 118) e1_118 (by decide)
  have e1_119 := lv_neT (a := 119) e1_119 (by decide)
  refine zs_tabO (tgt := 125) hC dX12_factOf_1 (by omega) (by decide) ?_
  refine zs_k hC dX12_factOf_125 ?_
  exact zs_iret hC hret dX12_factOf_126 hf
set_option maxRecDepth 20000 in
set_option maxHeartbeats 4000000 in
theorem ctX12_factOf {E : zEV} {F : Nat} {v0 : Int32} {μ : zMem} {out : zR} (hf : fX12_factOf F v0 μ = some out) : zCt E yX12_factOf cX12_factOf 1 (some .int) 0 [.int v0] μ out :=
  zCt.of [some (.int v0)] (by decide +kernel) (Nat.le_of_ble_eq_true rfl) (zLw_s zLw_0) rfl (fun X hE ho hr hC => by
    subst hE; subst ho
    exact wX12_factOf hC hr hf)
/-! X12_sumSign -/
def fX12_sumSign (F : Nat) (v0 : Int32) (μ : zMem) : Option zR :=
  if v0 = (nI 43) then some ((nI 2), μ) else if v0 = (nI 45) then some ((nI 3), μ) else if v0 = (nI 42) then some ((nI 4), μ) else if v0 = (nI 47) then some ((nI 5), μ) else if v0 = (nI 37) then some ((nI 6), μ) else some ((-1 : Int32), μ)
set_option maxRecDepth 20000 in
set_option maxHeartbeats 4000000 in
theorem wX12_sumSign {X : zX} {F : Nat} (hC : zCx X RX12 cX12_sumSign 1 0) (hret : zRt X (some .int)) {v0 : Int32} {μ : zMem} (hf : fX12_sumSign F v0 μ = some (zOut X)) : zAW X 0 [some (.int v0)] [] μ := by
  unfold fX12_sumSign at hf
  refine zs_il hC dX12_sumSign_0 rfl ?_
  refine zs_k hC dX12_sumSign_1 ?_
  refine zs_ic_ne hC dX12_sumSign_3 (fun _ hf => ?_) (fun _ hf => ?_) hf
  · refine zs_k hC dX12_sumSign_6 ?_
    refine zs_goto hC dX12_sumSign_7 ?_
    exact zs_iret hC hret dX12_sumSign_52 hf
  · refine zs_il hC dX12_sumSign_10 rfl ?_
    refine zs_k hC dX12_sumSign_11 ?_
    refine zs_ic_ne hC dX12_sumSign_13 (fun _ hf => ?_) (fun _ hf => ?_) hf
    · refine zs_k hC dX12_sumSign_16 ?_
      refine zs_goto hC dX12_sumSign_17 ?_
      exact zs_iret hC hret dX12_sumSign_52 hf
    · refine zs_il hC dX12_sumSign_20 rfl ?_
      refine zs_k hC dX12_sumSign_21 ?_
      refine zs_ic_ne hC dX12_sumSign_23 (fun _ hf => ?_) (fun _ hf => ?_) hf
      · refine zs_k hC dX12_sumSign_26 ?_
        refine zs_goto hC dX12_sumSign_27 ?_
        exact zs_iret hC hret dX12_sumSign_52 hf
      · refine zs_il hC dX12_sumSign_30 rfl ?_
        refine zs_k hC dX12_sumSign_31 ?_
        refine zs_ic_ne hC dX12_sumSign_33 (fun _ hf => ?_) (fun _ hf => ?_) hf
        · refine zs_k hC dX12_sumSign_36 ?_
          refine zs_goto hC dX12_sumSign_37 ?_
          exact zs_iret hC hret dX12_sumSign_52 hf
        · refine zs_il hC dX12_sumSign_40 rfl ?_
          refine zs_k hC dX12_sumSign_41 ?_
          refine zs_ic_ne hC dX12_sumSign_43 (fun _ hf => ?_) (fun _ hf => ?_) hf
          · refine zs_k hC dX12_sumSign_46 ?_
            refine zs_goto hC dX12_sumSign_48 ?_
            exact zs_iret hC hret dX12_sumSign_52 hf
          · refine zs_k hC dX12_sumSign_51 ?_
            exact zs_iret hC hret dX12_sumSign_52 hf
set_option maxRecDepth 20000 in
set_option maxHeartbeats 4000000 in
theorem ctX12_sumSign {E : zEV} {F : Nat} {v0 : Int32} {μ : zMem} {out : zR} (hf : fX12_sumSign F v0 μ = some out) : zCt E yX12_sumSign cX12_sumSign 1 (some .int) 0 [.int v0] μ out :=
  zCt.of [some (.int v0)] (by decide +kernel) (Nat.le_of_ble_eq_true rfl) (zLw_s zLw_0) rfl (fun X hE ho hr hC => by
    subst hE; subst ho
    exact wX12_sumSign hC hr hf)
/-! X12_closesSums -/
def fX12_closesSums_37 (F : Nat) (k0 : Int32 → zMem → Option zR) (v1 : Int32) (μ : zMem) : Option zR :=
  zBd (fX12_waitTop F μ) (fun r1 m1 => zBd (fX12_notes F r1 (nI 0) m1) (fun r2 m2 => k0 v1 (zUp m2 60 16 ((m2 60 16) - (nI 1)))))
def fX12_closesSums_17 (F : Nat) (k0 : Int32 → zMem → Option zR) (v1 : Int32) (μ : zMem) : Option zR :=
  if v1 = 0 then some ((nI 0), μ) else zBd (fX12_waitTop F μ) (fun r1 m1 => if r1 = (nI 2) then fX12_closesSums_37 F k0 v1 m1 else zBd (fX12_waitTop F m1) (fun r2 m2 => if r2 = (nI 3) then fX12_closesSums_37 F k0 v1 m2 else some ((nI 0), m2)))
def fX12_closesSums_0 (F : Nat) : Nat → Int32 → zMem → Option zR
  | 0, _, _ => none
  | n + 1, v1, μ => zBd (fX12_waitTop F μ) (fun r1 m1 => if r1 < (nI 4) then fX12_closesSums_17 F (fX12_closesSums_0 F n) v1 m1 else zBd (fX12_waitTop F m1) (fun r2 m2 => if r2 ≤ (nI 6) then fX12_closesSums_37 F (fX12_closesSums_0 F n) v1 m2 else fX12_closesSums_17 F (fX12_closesSums_0 F n) v1 m2))
def fX12_closesSums (F : Nat) (v1 : Int32) (μ : zMem) : Option zR :=
  fX12_closesSums_0 F F v1 μ
set_option maxRecDepth 20000 in
set_option maxHeartbeats 4000000 in
theorem wX12_closesSums_37 {X : zX} {F : Nat} (hC : zCx X RX12 cX12_closesSums 2 1) (hret : zRt X none) {k0 : Int32 → zMem → Option zR} (hk0 : ∀ v1 μ, k0 v1 μ = some (zOut X) → zAW X 0 [some (.ref 60), some (.int v1)] [] μ) {v1 : Int32} {μ : zMem} (hf : fX12_closesSums_37 F k0 v1 μ = some (zOut X)) : zAW X 37 [some (.ref 60), some (.int v1)] [] μ := by
  unfold fX12_closesSums_37 at hf
  refine zs_al hC dX12_closesSums_37 rfl ?_
  refine zs_al hC dX12_closesSums_38 rfl ?_
  refine zs_callV [] hC cw_X12_waitTop cl_RX12_147 zL60 rfl (by decide) rfl rfl (Nat.le_of_ble_eq_true rfl) dX12_closesSums_39 (fun _ h => ctX12_waitTop h) (fun r1 m1 _ hf => ?_) hf
  show zAW X 42 _ (.int r1 :: _) m1
  refine zs_k hC dX12_closesSums_42 ?_
  refine zs_callV [.int r1, .int (nI 0)] hC cw_X12_notes cl_RX12_150 zL60 rfl (by decide) rfl rfl (Nat.le_of_ble_eq_true rfl) dX12_closesSums_43 (fun _ h => ctX12_notes h) (fun r2 m2 _ hf => ?_) hf
  show zAW X 46 _ _ m2
  refine zs_al hC dX12_closesSums_46 rfl ?_
  refine zs_al hC dX12_closesSums_47 rfl ?_
  refine zs_getI hC fl_RX12_144 zL60 rfl dX12_closesSums_48 ?_
  refine zs_k hC dX12_closesSums_51 ?_
  refine zs_isub hC dX12_closesSums_52 ?_
  refine zs_putI hC fl_RX12_144 fp_12_16 zL60 rfl dX12_closesSums_53 ?_
  refine zs_goto hC dX12_closesSums_56 ?_
  exact zAW.weak (hk0 _ _ hf) (zLw_s (zLw_s zLw_0))
set_option maxRecDepth 20000 in
set_option maxHeartbeats 4000000 in
theorem wX12_closesSums_17 {X : zX} {F : Nat} (hC : zCx X RX12 cX12_closesSums 2 1) (hret : zRt X none) {k0 : Int32 → zMem → Option zR} (hk0 : ∀ v1 μ, k0 v1 μ = some (zOut X) → zAW X 0 [some (.ref 60), some (.int v1)] [] μ) {v1 : Int32} {μ : zMem} (hf : fX12_closesSums_17 F k0 v1 μ = some (zOut X)) : zAW X 17 [some (.ref 60), some (.int v1)] [] μ := by
  unfold fX12_closesSums_17 at hf
  refine zs_il hC dX12_closesSums_17 rfl ?_
  refine zs_if_eq hC dX12_closesSums_18 (fun _ hf => ?_) (fun _ hf => ?_) hf
  · exact zs_vret hC hret dX12_closesSums_59 hf
  · refine zs_al hC dX12_closesSums_21 rfl ?_
    refine zs_callV [] hC cw_X12_waitTop cl_RX12_147 zL60 rfl (by decide) rfl rfl (Nat.le_of_ble_eq_true rfl) dX12_closesSums_22 (fun _ h => ctX12_waitTop h) (fun r1 m1 _ hf => ?_) hf
    show zAW X 25 _ (.int r1 :: _) m1
    refine zs_k hC dX12_closesSums_25 ?_
    refine zs_ic_eq hC dX12_closesSums_26 (fun _ hf => ?_) (fun _ hf => ?_) hf
    · exact zAW.weak (wX12_closesSums_37 hC hret hk0 hf) (zLw_s (zLw_s zLw_0))
    · refine zs_al hC dX12_closesSums_29 rfl ?_
      refine zs_callV [] hC cw_X12_waitTop cl_RX12_147 zL60 rfl (by decide) rfl rfl (Nat.le_of_ble_eq_true rfl) dX12_closesSums_30 (fun _ h => ctX12_waitTop h) (fun r2 m2 _ hf => ?_) hf
      show zAW X 33 _ (.int r2 :: _) m2
      refine zs_k hC dX12_closesSums_33 ?_
      refine zs_ic_ne hC dX12_closesSums_34 (fun _ hf => ?_) (fun _ hf => ?_) hf
      · exact zAW.weak (wX12_closesSums_37 hC hret hk0 hf) (zLw_s (zLw_s zLw_0))
      · exact zs_vret hC hret dX12_closesSums_59 hf
set_option maxRecDepth 20000 in
set_option maxHeartbeats 4000000 in
theorem wX12_closesSums_0 {X : zX} {F : Nat} (hC : zCx X RX12 cX12_closesSums 2 1) (hret : zRt X none) : ∀ (n : Nat) (v1 : Int32) (μ : zMem), fX12_closesSums_0 F n v1 μ = some (zOut X) → zAW X 0 [some (.ref 60), some (.int v1)] [] μ := by
  intro n
  induction n with
  | zero =>
    intro v1 μ hf
    rw [fX12_closesSums_0] at hf
    cases hf
  | succ n ih =>
    intro v1 μ hf
    rw [fX12_closesSums_0] at hf
    refine zs_al hC dX12_closesSums_0 rfl ?_
    refine zs_callV [] hC cw_X12_waitTop cl_RX12_147 zL60 rfl (by decide) rfl rfl (Nat.le_of_ble_eq_true rfl) dX12_closesSums_1 (fun _ h => ctX12_waitTop h) (fun r1 m1 _ hf => ?_) hf
    show zAW X 4 _ (.int r1 :: _) m1
    refine zs_k hC dX12_closesSums_4 ?_
    refine zs_ic_lt hC dX12_closesSums_5 (fun _ hf => ?_) (fun _ hf => ?_) hf
    · exact zAW.weak (wX12_closesSums_17 hC hret (ih) hf) (zLw_s (zLw_s zLw_0))
    · refine zs_al hC dX12_closesSums_8 rfl ?_
      refine zs_callV [] hC cw_X12_waitTop cl_RX12_147 zL60 rfl (by decide) rfl rfl (Nat.le_of_ble_eq_true rfl) dX12_closesSums_9 (fun _ h => ctX12_waitTop h) (fun r2 m2 _ hf => ?_) hf
      show zAW X 12 _ (.int r2 :: _) m2
      refine zs_k hC dX12_closesSums_12 ?_
      refine zs_ic_le hC dX12_closesSums_14 (fun _ hf => ?_) (fun _ hf => ?_) hf
      · exact zAW.weak (wX12_closesSums_37 hC hret (ih) hf) (zLw_s (zLw_s zLw_0))
      · exact zAW.weak (wX12_closesSums_17 hC hret (ih) hf) (zLw_s (zLw_s zLw_0))
set_option maxRecDepth 20000 in
set_option maxHeartbeats 4000000 in
theorem wX12_closesSums {X : zX} {F : Nat} (hC : zCx X RX12 cX12_closesSums 2 1) (hret : zRt X none) {v1 : Int32} {μ : zMem} (hf : fX12_closesSums F v1 μ = some (zOut X)) : zAW X 0 [some (.ref 60), some (.int v1)] [] μ := by
  unfold fX12_closesSums at hf
  exact zAW.weak (wX12_closesSums_0 hC hret F _ _ hf) (zLw_s (zLw_s zLw_0))
set_option maxRecDepth 20000 in
set_option maxHeartbeats 4000000 in
theorem ctX12_closesSums {E : zEV} {F : Nat} {v1 : Int32} {μ : zMem} {out : zR} (hf : fX12_closesSums F v1 μ = some out) : zCt E yX12_closesSums cX12_closesSums 2 none 1 [.ref 60, .int v1] μ out :=
  zCt.of [some (.ref 60), some (.int v1)] (by decide +kernel) (Nat.le_of_ble_eq_true rfl) (zLw_s (zLw_s zLw_0)) rfl (fun X hE ho hr hC => by
    subst hE; subst ho
    exact wX12_closesSums hC hr hf)
/-! X12_readsFactor -/
def fX12_readsFactor_0 (F : Nat) : Nat → zMem → Option zR
  | 0, _ => none
  | n + 1, μ => zBd (fX12_here F μ) (fun r1 m1 => if r1 = (nI 91) then zBd (fX12_opens F (nI 14) m1) (fun r2 m2 => if r2 = 0 then some ((nI 0), m2) else fX12_readsFactor_0 F n m2) else zBd (fX12_isDigit F m1) (fun r3 m3 => if r3 = 0 then zBd (fX12_here F m3) (fun r4 m4 => zBd (fX12_factOf F r4 m4) (fun r5 m5 => if r5 = (-1 : Int32) then zBd (fX12_wrongAt F (nI 1) (m5 60 10) m5) (fun r7 m7 => zGb (decide (r7 = 0 ∨ r7 = 1)) (some (r7, m7))) else zBd (fX12_notes F (nI 1) r5 m5) (fun r8 m8 => some ((nI 1), (zUp m8 60 10 ((m8 60 10) + (nI 1))))))) else zBd (fX12_readsNumber F m3) (fun r10 m10 => if r10 = 0 then some ((nI 0), m10) else zBd (fX12_notes F (nI 0) (m10 60 13) m10) (fun r12 m12 => some ((nI 1), m12)))))
def fX12_readsFactor (F : Nat) (μ : zMem) : Option zR :=
  fX12_readsFactor_0 F F μ
set_option maxRecDepth 20000 in
set_option maxHeartbeats 4000000 in
theorem wX12_readsFactor_0 {X : zX} {F : Nat} (hC : zCx X RX12 cX12_readsFactor 2 3) (hret : zRt X (some .boolean)) : ∀ (n : Nat) (μ : zMem), fX12_readsFactor_0 F n μ = some (zOut X) → zAW X 0 [some (.ref 60), none] [] μ := by
  intro n
  induction n with
  | zero =>
    intro μ hf
    rw [fX12_readsFactor_0] at hf
    cases hf
  | succ n ih =>
    intro μ hf
    rw [fX12_readsFactor_0] at hf
    refine zs_al hC dX12_readsFactor_0 rfl ?_
    refine zs_callV [] hC cw_X12_here cl_RX12_119 zL60 rfl (by decide) rfl rfl (Nat.le_of_ble_eq_true rfl) dX12_readsFactor_1 (fun _ h => ctX12_here h) (fun r1 m1 _ hf => ?_) hf
    show zAW X 4 _ (.int r1 :: _) m1
    refine zs_k hC dX12_readsFactor_4 ?_
    refine zs_ic_ne hC dX12_readsFactor_6 (fun _ hf => ?_) (fun _ hf => ?_) hf
    · refine zs_al hC dX12_readsFactor_9 rfl ?_
      refine zs_k hC dX12_readsFactor_10 ?_
      refine zs_callV [.int (nI 14)] hC cw_X12_opens cl_RX12_154 zL60 rfl (by decide) rfl rfl (Nat.le_of_ble_eq_true rfl) dX12_readsFactor_12 (fun _ h => ctX12_opens h) (fun r2 m2 _ hf => ?_) hf
      show zAW X 15 _ (.int r2 :: _) m2
      refine zs_if_ne hC dX12_readsFactor_15 (fun _ hf => ?_) (fun _ hf => ?_) hf
      · refine zs_k hC dX12_readsFactor_18 ?_
        exact zs_zretK hC hret dX12_readsFactor_19 (by decide) hf
      · exact zAW.weak (ih _ hf) (zLw_s (zLw_n zLw_0))
    · refine zs_al hC dX12_readsFactor_20 rfl ?_
      refine zs_callV [] hC cw_X12_isDigit cl_RX12_133 zL60 rfl (by decide) rfl rfl (Nat.le_of_ble_eq_true rfl) dX12_readsFactor_21 (fun _ h => ctX12_isDigit h) (fun r3 m3 _ hf => ?_) hf
      show zAW X 24 _ (.int r3 :: _) m3
      refine zs_if_eq hC dX12_readsFactor_24 (fun _ hf => ?_) (fun _ hf => ?_) hf
      · refine zs_al hC dX12_readsFactor_47 rfl ?_
        refine zs_callV [] hC cw_X12_here cl_RX12_119 zL60 rfl (by decide) rfl rfl (Nat.le_of_ble_eq_true rfl) dX12_readsFactor_48 (fun _ h => ctX12_here h) (fun r4 m4 _ hf => ?_) hf
        show zAW X 51 _ (.int r4 :: _) m4
        refine zs_callS [.int r4] hC cw_X12_factOf cl_RX12_160 (by decide) rfl rfl (Nat.le_of_ble_eq_true rfl) dX12_readsFactor_51 (fun _ h => ctX12_factOf h) (fun r5 m5 _ hf => ?_) hf
        show zAW X 54 _ (.int r5 :: _) m5
        refine zs_is hC dX12_readsFactor_54 (by decide) rfl ?_
        refine zs_il hC dX12_readsFactor_55 rfl ?_
        refine zs_k hC dX12_readsFactor_56 ?_
        refine zs_ic_ne hC dX12_readsFactor_57 (fun _ hf => ?_) (fun _ hf => ?_) hf
        · refine zs_al hC dX12_readsFactor_60 rfl ?_
          refine zs_k hC dX12_readsFactor_61 ?_
          refine zs_al hC dX12_readsFactor_62 rfl ?_
          refine zs_getI hC fl_RX12_113 zL60 rfl dX12_readsFactor_63 ?_
          refine zs_callV [.int (nI 1), .int (m5 60 10)] hC cw_X12_wrongAt cl_RX12_126 zL60 rfl (by decide) rfl rfl (Nat.le_of_ble_eq_true rfl) dX12_readsFactor_66 (fun _ h => ctX12_wrongAt h) (fun r7 m7 _ hf => ?_) hf
          show zAW X 69 _ (.int r7 :: _) m7
          exact zs_zret hC hret dX12_readsFactor_69 hf
        · refine zs_al hC dX12_readsFactor_70 rfl ?_
          refine zs_k hC dX12_readsFactor_71 ?_
          refine zs_il hC dX12_readsFactor_72 rfl ?_
          refine zs_callV [.int (nI 1), .int r5] hC cw_X12_notes cl_RX12_150 zL60 rfl (by decide) rfl rfl (Nat.le_of_ble_eq_true rfl) dX12_readsFactor_73 (fun _ h => ctX12_notes h) (fun r8 m8 _ hf => ?_) hf
          show zAW X 76 _ _ m8
          refine zs_al hC dX12_readsFactor_76 rfl ?_
          refine zs_al hC dX12_readsFactor_77 rfl ?_
          refine zs_getI hC fl_RX12_113 zL60 rfl dX12_readsFactor_78 ?_
          refine zs_k hC dX12_readsFactor_81 ?_
          refine zs_iadd hC dX12_readsFactor_82 ?_
          refine zs_putI hC fl_RX12_113 fp_12_10 zL60 rfl dX12_readsFactor_83 ?_
          refine zs_k hC dX12_readsFactor_86 ?_
          exact zs_zretK hC hret dX12_readsFactor_87 (by decide) hf
      · refine zs_al hC dX12_readsFactor_27 rfl ?_
        refine zs_callV [] hC cw_X12_readsNumber cl_RX12_157 zL60 rfl (by decide) rfl rfl (Nat.le_of_ble_eq_true rfl) dX12_readsFactor_28 (fun _ h => ctX12_readsNumber h) (fun r10 m10 _ hf => ?_) hf
        show zAW X 31 _ (.int r10 :: _) m10
        refine zs_if_ne hC dX12_readsFactor_31 (fun _ hf => ?_) (fun _ hf => ?_) hf
        · refine zs_k hC dX12_readsFactor_34 ?_
          exact zs_zretK hC hret dX12_readsFactor_35 (by decide) hf
        · refine zs_al hC dX12_readsFactor_36 rfl ?_
          refine zs_k hC dX12_readsFactor_37 ?_
          refine zs_al hC dX12_readsFactor_38 rfl ?_
          refine zs_getI hC fl_RX12_130 zL60 rfl dX12_readsFactor_39 ?_
          refine zs_callV [.int (nI 0), .int (m10 60 13)] hC cw_X12_notes cl_RX12_150 zL60 rfl (by decide) rfl rfl (Nat.le_of_ble_eq_true rfl) dX12_readsFactor_42 (fun _ h => ctX12_notes h) (fun r12 m12 _ hf => ?_) hf
          show zAW X 45 _ _ m12
          refine zs_k hC dX12_readsFactor_45 ?_
          exact zs_zretK hC hret dX12_readsFactor_46 (by decide) hf
set_option maxRecDepth 20000 in
set_option maxHeartbeats 4000000 in
theorem wX12_readsFactor {X : zX} {F : Nat} (hC : zCx X RX12 cX12_readsFactor 2 3) (hret : zRt X (some .boolean)) {μ : zMem} (hf : fX12_readsFactor F μ = some (zOut X)) : zAW X 0 [some (.ref 60), none] [] μ := by
  unfold fX12_readsFactor at hf
  exact zAW.weak (wX12_readsFactor_0 hC hret F _ hf) (zLw_s (zLw_n zLw_0))
set_option maxRecDepth 20000 in
set_option maxHeartbeats 4000000 in
theorem ctX12_readsFactor {E : zEV} {F : Nat} {μ : zMem} {out : zR} (hf : fX12_readsFactor F μ = some out) : zCt E yX12_readsFactor cX12_readsFactor 2 (some .boolean) 3 [.ref 60] μ out :=
  zCt.of [some (.ref 60), none] (by decide +kernel) (Nat.le_of_ble_eq_true rfl) (zLw_s (zLw_e zLw_0)) rfl (fun X hE ho hr hC => by
    subst hE; subst ho
    exact wX12_readsFactor hC hr hf)
/-! X12_hasOpenSum -/
def fX12_hasOpenSum_2 (F : Nat) : Nat → Int32 → zMem → Option zR
  | 0, _, _ => none
  | n + 1, v2, μ => if (μ 60 16) ≤ v2 then some ((nI 0), μ) else zG v2 260 (zGz (nI 1048576) (if ((μ 70 v2.toNatClampNeg) / (nI 1048576)) = (nI 14) then some ((nI 1), μ) else fX12_hasOpenSum_2 F n (v2 + (nI 1)) μ))
def fX12_hasOpenSum (F : Nat) (v1 : Int32) (μ : zMem) : Option zR :=
  fX12_hasOpenSum_2 F F v1 μ
set_option maxRecDepth 20000 in
set_option maxHeartbeats 4000000 in
theorem wX12_hasOpenSum_2 {X : zX} {F : Nat} (hC : zCx X RX12 cX12_hasOpenSum 3 0) (hret : zRt X (some .boolean)) : ∀ (n : Nat) (v2 : Int32) (μ : zMem), fX12_hasOpenSum_2 F n v2 μ = some (zOut X) → zAW X 2 [some (.ref 60), none, some (.int v2)] [] μ := by
  intro n
  induction n with
  | zero =>
    intro v2 μ hf
    rw [fX12_hasOpenSum_2] at hf
    cases hf
  | succ n ih =>
    intro v2 μ hf
    rw [fX12_hasOpenSum_2] at hf
    refine zs_il hC dX12_hasOpenSum_2 rfl ?_
    refine zs_al hC dX12_hasOpenSum_3 rfl ?_
    refine zs_getI hC fl_RX12_144 zL60 rfl dX12_hasOpenSum_4 ?_
    refine zs_ic_ge hC dX12_hasOpenSum_7 (fun _ hf => ?_) (fun _ hf => ?_) hf
    · refine zs_k hC dX12_hasOpenSum_32 ?_
      exact zs_zretK hC hret dX12_hasOpenSum_33 (by decide) hf
    · refine zs_al hC dX12_hasOpenSum_10 rfl ?_
      refine zs_getR 70 hC fl_RX12_38 zL60 rfl dX12_hasOpenSum_11 ?_
      refine zs_il hC dX12_hasOpenSum_14 rfl ?_
      refine zs_iald hC zL70 dX12_hasOpenSum_15 (fun _ hf => ?_) hf
      refine zs_ldc hC kc_RX12_140 dX12_hasOpenSum_16 ?_
      refine zs_idiv hC dX12_hasOpenSum_18 (fun _ hf => ?_) hf
      refine zs_k hC dX12_hasOpenSum_19 ?_
      refine zs_ic_ne hC dX12_hasOpenSum_21 (fun _ hf => ?_) (fun _ hf => ?_) hf
      · refine zs_k hC dX12_hasOpenSum_24 ?_
        exact zs_zretK hC hret dX12_hasOpenSum_25 (by decide) hf
      · refine zs_iinc (nI 1) hC dX12_hasOpenSum_26 (by decide) rfl (by decide) rfl ?_
        refine zs_goto hC dX12_hasOpenSum_29 ?_
        exact zAW.weak (ih _ _ hf) (zLw_s (zLw_n (zLw_s zLw_0)))
set_option maxRecDepth 20000 in
set_option maxHeartbeats 4000000 in
theorem wX12_hasOpenSum {X : zX} {F : Nat} (hC : zCx X RX12 cX12_hasOpenSum 3 0) (hret : zRt X (some .boolean)) {v1 : Int32} {μ : zMem} (hf : fX12_hasOpenSum F v1 μ = some (zOut X)) : zAW X 0 [some (.ref 60), some (.int v1), none] [] μ := by
  unfold fX12_hasOpenSum at hf
  refine zs_il hC dX12_hasOpenSum_0 rfl ?_
  refine zs_is hC dX12_hasOpenSum_1 (by decide) rfl ?_
  exact zAW.weak (wX12_hasOpenSum_2 hC hret F _ _ hf) (zLw_s (zLw_n (zLw_s zLw_0)))
set_option maxRecDepth 20000 in
set_option maxHeartbeats 4000000 in
theorem ctX12_hasOpenSum {E : zEV} {F : Nat} {v1 : Int32} {μ : zMem} {out : zR} (hf : fX12_hasOpenSum F v1 μ = some out) : zCt E yX12_hasOpenSum cX12_hasOpenSum 3 (some .boolean) 0 [.ref 60, .int v1] μ out :=
  zCt.of [some (.ref 60), some (.int v1), none] (by decide +kernel) (Nat.le_of_ble_eq_true rfl) (zLw_s (zLw_s (zLw_e zLw_0))) rfl (fun X hE ho hr hC => by
    subst hE; subst ho
    exact wX12_hasOpenSum hC hr hf)
/-! X12_readsSum -/
def fX12_readsSum_138 (F : Nat) (v1 : Int32) (μ : zMem) : Option zR :=
  zBd (fX12_hasOpenSum F v1 μ) (fun r1 m1 => if r1 = 0 then zBd (fX12_closesSums F (nI 1) m1) (fun r2 m2 => some ((nI 1), m2)) else zBd (fX12_wrongAt F (nI 1) (m1 60 10) m1) (fun r4 m4 => zGb (decide (r4 = 0 ∨ r4 = 1)) (some (r4, m4))))
def fX12_readsSum_38 (F : Nat) (k14 : Int32 → zMem → Option zR) (v1 : Int32) (v2 : Int32) (s0 : Int32) (μ : zMem) : Option zR :=
  zBd (fX12_closesSums F s0 μ) (fun r1 m1 => zG (m1 60 16) 260 (zBd (fX12_readsFactor F (zUp (zUp (zUp m1 70 (m1 60 16).toNatClampNeg ((nI 1048576) * v2)) 60 16 (((zUp m1 70 (m1 60 16).toNatClampNeg ((nI 1048576) * v2)) 60 16) + (nI 1))) 60 10 (((zUp (zUp m1 70 (m1 60 16).toNatClampNeg ((nI 1048576) * v2)) 60 16 (((zUp m1 70 (m1 60 16).toNatClampNeg ((nI 1048576) * v2)) 60 16) + (nI 1))) 60 10) + (nI 1)))) (fun r6 m6 => if r6 = 0 then some ((nI 0), m6) else k14 v1 m6)))
def fX12_readsSum_14 (F : Nat) : Nat → Int32 → zMem → Option zR
  | 0, _, _ => none
  | n + 1, v1, μ => zBd (fX12_here F μ) (fun r1 m1 => zBd (fX12_sumSign F r1 m1) (fun r2 m2 => if r2 = (-1 : Int32) then zBd (fX12_here F m2) (fun r3 m3 => if r3 = (nI 93) then zBd (fX12_hasOpenSum F v1 m3) (fun r4 m4 => if r4 = 0 then fX12_readsSum_138 F v1 m4 else zBd (fX12_closesSums F (nI 1) m4) (fun r5 m5 => fX12_readsSum_14 F n v1 (zUp (zUp (zUp m5 60 16 ((m5 60 16) - (nI 1))) 60 14 (((zUp m5 60 16 ((m5 60 16) - (nI 1))) 60 14) - (nI 1))) 60 10 (((zUp (zUp m5 60 16 ((m5 60 16) - (nI 1))) 60 14 (((zUp m5 60 16 ((m5 60 16) - (nI 1))) 60 14) - (nI 1))) 60 10) + (nI 1))))) else fX12_readsSum_138 F v1 m3) else if (nI 4) ≤ r2 then fX12_readsSum_38 F (fX12_readsSum_14 F n) v1 r2 (nI 0) m2 else fX12_readsSum_38 F (fX12_readsSum_14 F n) v1 r2 (nI 1) m2))
def fX12_readsSum (F : Nat) (μ : zMem) : Option zR :=
  zBd (fX12_readsFactor F μ) (fun r2 m2 => if r2 = 0 then some ((nI 0), m2) else fX12_readsSum_14 F F (μ 60 16) m2)
set_option maxRecDepth 20000 in
set_option maxHeartbeats 4000000 in
theorem wX12_readsSum_138 {X : zX} {F : Nat} (hC : zCx X RX12 cX12_readsSum 3 4) (hret : zRt X (some .boolean)) {v1 : Int32} {μ : zMem} (hf : fX12_readsSum_138 F v1 μ = some (zOut X)) : zAW X 138 [some (.ref 60), some (.int v1), none] [] μ := by
  unfold fX12_readsSum_138 at hf
  refine zs_al hC dX12_readsSum_138 rfl ?_
  refine zs_il hC dX12_readsSum_139 rfl ?_
  refine zs_callV [.int v1] hC cw_X12_hasOpenSum cl_RX12_174 zL60 rfl (by decide) rfl rfl (Nat.le_of_ble_eq_true rfl) dX12_readsSum_140 (fun _ h => ctX12_hasOpenSum h) (fun r1 m1 _ hf => ?_) hf
  show zAW X 143 _ (.int r1 :: _) m1
  refine zs_if_eq hC dX12_readsSum_143 (fun _ hf => ?_) (fun _ hf => ?_) hf
  · refine zs_al hC dX12_readsSum_156 rfl ?_
    refine zs_k hC dX12_readsSum_157 ?_
    refine zs_callV [.int (nI 1)] hC cw_X12_closesSums cl_RX12_170 zL60 rfl (by decide) rfl rfl (Nat.le_of_ble_eq_true rfl) dX12_readsSum_158 (fun _ h => ctX12_closesSums h) (fun r2 m2 _ hf => ?_) hf
    show zAW X 161 _ _ m2
    refine zs_k hC dX12_readsSum_161 ?_
    exact zs_zretK hC hret dX12_readsSum_162 (by decide) hf
  · refine zs_al hC dX12_readsSum_146 rfl ?_
    refine zs_k hC dX12_readsSum_147 ?_
    refine zs_al hC dX12_readsSum_148 rfl ?_
    refine zs_getI hC fl_RX12_113 zL60 rfl dX12_readsSum_149 ?_
    refine zs_callV [.int (nI 1), .int (m1 60 10)] hC cw_X12_wrongAt cl_RX12_126 zL60 rfl (by decide) rfl rfl (Nat.le_of_ble_eq_true rfl) dX12_readsSum_152 (fun _ h => ctX12_wrongAt h) (fun r4 m4 _ hf => ?_) hf
    show zAW X 155 _ (.int r4 :: _) m4
    exact zs_zret hC hret dX12_readsSum_155 hf
set_option maxRecDepth 20000 in
set_option maxHeartbeats 4000000 in
theorem wX12_readsSum_38 {X : zX} {F : Nat} (hC : zCx X RX12 cX12_readsSum 3 4) (hret : zRt X (some .boolean)) {k14 : Int32 → zMem → Option zR} (hk14 : ∀ v1 μ, k14 v1 μ = some (zOut X) → zAW X 14 [some (.ref 60), some (.int v1), none] [] μ) {v1 : Int32} {v2 : Int32} {s0 : Int32} {μ : zMem} (hf : fX12_readsSum_38 F k14 v1 v2 s0 μ = some (zOut X)) : zAW X 38 [some (.ref 60), some (.int v1), some (.int v2)] [.int s0, .ref 60] μ := by
  unfold fX12_readsSum_38 at hf
  refine zs_callV [.int s0] hC cw_X12_closesSums cl_RX12_170 zL60 rfl (by decide) rfl rfl (Nat.le_of_ble_eq_true rfl) dX12_readsSum_38 (fun _ h => ctX12_closesSums h) (fun r1 m1 _ hf => ?_) hf
  show zAW X 41 _ _ m1
  refine zs_al hC dX12_readsSum_41 rfl ?_
  refine zs_getR 70 hC fl_RX12_38 zL60 rfl dX12_readsSum_42 ?_
  refine zs_al hC dX12_readsSum_45 rfl ?_
  refine zs_getI hC fl_RX12_144 zL60 rfl dX12_readsSum_46 ?_
  refine zs_ldc hC kc_RX12_140 dX12_readsSum_49 ?_
  refine zs_il hC dX12_readsSum_51 rfl ?_
  refine zs_imul hC dX12_readsSum_52 ?_
  refine zs_iast hC zL70 dX12_readsSum_53 (fun _ hf => ?_) hf
  refine zs_al hC dX12_readsSum_54 rfl ?_
  refine zs_al hC dX12_readsSum_55 rfl ?_
  refine zs_getI hC fl_RX12_144 zL60 rfl dX12_readsSum_56 ?_
  refine zs_k hC dX12_readsSum_59 ?_
  refine zs_iadd hC dX12_readsSum_60 ?_
  refine zs_putI hC fl_RX12_144 fp_12_16 zL60 rfl dX12_readsSum_61 ?_
  refine zs_al hC dX12_readsSum_64 rfl ?_
  refine zs_al hC dX12_readsSum_65 rfl ?_
  refine zs_getI hC fl_RX12_113 zL60 rfl dX12_readsSum_66 ?_
  refine zs_k hC dX12_readsSum_69 ?_
  refine zs_iadd hC dX12_readsSum_70 ?_
  refine zs_putI hC fl_RX12_113 fp_12_10 zL60 rfl dX12_readsSum_71 ?_
  refine zs_al hC dX12_readsSum_74 rfl ?_
  refine zs_callV [] hC cw_X12_readsFactor cl_RX12_164 zL60 rfl (by decide) rfl rfl (Nat.le_of_ble_eq_true rfl) dX12_readsSum_75 (fun _ h => ctX12_readsFactor h) (fun r6 m6 _ hf => ?_) hf
  show zAW X 78 _ (.int r6 :: _) m6
  refine zs_if_ne hC dX12_readsSum_78 (fun _ hf => ?_) (fun _ hf => ?_) hf
  · refine zs_k hC dX12_readsSum_81 ?_
    exact zs_zretK hC hret dX12_readsSum_82 (by decide) hf
  · refine zs_goto hC dX12_readsSum_163 ?_
    exact zAW.weak (hk14 _ _ hf) (zLw_s (zLw_s (zLw_n zLw_0)))
set_option maxRecDepth 20000 in
set_option maxHeartbeats 4000000 in
theorem wX12_readsSum_14 {X : zX} {F : Nat} (hC : zCx X RX12 cX12_readsSum 3 4) (hret : zRt X (some .boolean)) : ∀ (n : Nat) (v1 : Int32) (μ : zMem), fX12_readsSum_14 F n v1 μ = some (zOut X) → zAW X 14 [some (.ref 60), some (.int v1), none] [] μ := by
  intro n
  induction n with
  | zero =>
    intro v1 μ hf
    rw [fX12_readsSum_14] at hf
    cases hf
  | succ n ih =>
    intro v1 μ hf
    rw [fX12_readsSum_14] at hf
    refine zs_al hC dX12_readsSum_14 rfl ?_
    refine zs_callV [] hC cw_X12_here cl_RX12_119 zL60 rfl (by decide) rfl rfl (Nat.le_of_ble_eq_true rfl) dX12_readsSum_15 (fun _ h => ctX12_here h) (fun r1 m1 _ hf => ?_) hf
    show zAW X 18 _ (.int r1 :: _) m1
    refine zs_callS [.int r1] hC cw_X12_sumSign cl_RX12_167 (by decide) rfl rfl (Nat.le_of_ble_eq_true rfl) dX12_readsSum_18 (fun _ h => ctX12_sumSign h) (fun r2 m2 _ hf => ?_) hf
    show zAW X 21 _ (.int r2 :: _) m2
    refine zs_is hC dX12_readsSum_21 (by decide) rfl ?_
    refine zs_il hC dX12_readsSum_22 rfl ?_
    refine zs_k hC dX12_readsSum_23 ?_
    refine zs_ic_eq hC dX12_readsSum_24 (fun _ hf => ?_) (fun _ hf => ?_) hf
    · refine zs_al hC dX12_readsSum_83 rfl ?_
      refine zs_callV [] hC cw_X12_here cl_RX12_119 zL60 rfl (by decide) rfl rfl (Nat.le_of_ble_eq_true rfl) dX12_readsSum_84 (fun _ h => ctX12_here h) (fun r3 m3 _ hf => ?_) hf
      show zAW X 87 _ (.int r3 :: _) m3
      refine zs_k hC dX12_readsSum_87 ?_
      refine zs_ic_ne hC dX12_readsSum_89 (fun _ hf => ?_) (fun _ hf => ?_) hf
      · refine zs_al hC dX12_readsSum_92 rfl ?_
        refine zs_il hC dX12_readsSum_93 rfl ?_
        refine zs_callV [.int v1] hC cw_X12_hasOpenSum cl_RX12_174 zL60 rfl (by decide) rfl rfl (Nat.le_of_ble_eq_true rfl) dX12_readsSum_94 (fun _ h => ctX12_hasOpenSum h) (fun r4 m4 _ hf => ?_) hf
        show zAW X 97 _ (.int r4 :: _) m4
        refine zs_if_eq hC dX12_readsSum_97 (fun _ hf => ?_) (fun _ hf => ?_) hf
        · exact zAW.weak (wX12_readsSum_138 hC hret hf) (zLw_s (zLw_s (zLw_n zLw_0)))
        · refine zs_al hC dX12_readsSum_100 rfl ?_
          refine zs_k hC dX12_readsSum_101 ?_
          refine zs_callV [.int (nI 1)] hC cw_X12_closesSums cl_RX12_170 zL60 rfl (by decide) rfl rfl (Nat.le_of_ble_eq_true rfl) dX12_readsSum_102 (fun _ h => ctX12_closesSums h) (fun r5 m5 _ hf => ?_) hf
          show zAW X 105 _ _ m5
          refine zs_al hC dX12_readsSum_105 rfl ?_
          refine zs_al hC dX12_readsSum_106 rfl ?_
          refine zs_getI hC fl_RX12_144 zL60 rfl dX12_readsSum_107 ?_
          refine zs_k hC dX12_readsSum_110 ?_
          refine zs_isub hC dX12_readsSum_111 ?_
          refine zs_putI hC fl_RX12_144 fp_12_16 zL60 rfl dX12_readsSum_112 ?_
          refine zs_al hC dX12_readsSum_115 rfl ?_
          refine zs_al hC dX12_readsSum_116 rfl ?_
          refine zs_getI hC fl_RX12_141 zL60 rfl dX12_readsSum_117 ?_
          refine zs_k hC dX12_readsSum_120 ?_
          refine zs_isub hC dX12_readsSum_121 ?_
          refine zs_putI hC fl_RX12_141 fp_12_14 zL60 rfl dX12_readsSum_122 ?_
          refine zs_al hC dX12_readsSum_125 rfl ?_
          refine zs_al hC dX12_readsSum_126 rfl ?_
          refine zs_getI hC fl_RX12_113 zL60 rfl dX12_readsSum_127 ?_
          refine zs_k hC dX12_readsSum_130 ?_
          refine zs_iadd hC dX12_readsSum_131 ?_
          refine zs_putI hC fl_RX12_113 fp_12_10 zL60 rfl dX12_readsSum_132 ?_
          refine zs_goto hC dX12_readsSum_135 ?_
          refine zs_goto hC dX12_readsSum_163 ?_
          exact zAW.weak (ih _ _ hf) (zLw_s (zLw_s (zLw_n zLw_0)))
      · exact zAW.weak (wX12_readsSum_138 hC hret hf) (zLw_s (zLw_s (zLw_n zLw_0)))
    · refine zs_al hC dX12_readsSum_27 rfl ?_
      refine zs_il hC dX12_readsSum_28 rfl ?_
      refine zs_k hC dX12_readsSum_29 ?_
      refine zs_ic_ge hC dX12_readsSum_30 (fun _ hf => ?_) (fun _ hf => ?_) hf
      · refine zs_k hC dX12_readsSum_37 ?_
        exact zAW.weak (wX12_readsSum_38 hC hret (ih) hf) (zLw_s (zLw_s (zLw_s zLw_0)))
      · refine zs_k hC dX12_readsSum_33 ?_
        refine zs_goto hC dX12_readsSum_34 ?_
        exact zAW.weak (wX12_readsSum_38 hC hret (ih) hf) (zLw_s (zLw_s (zLw_s zLw_0)))
set_option maxRecDepth 20000 in
set_option maxHeartbeats 4000000 in
theorem wX12_readsSum {X : zX} {F : Nat} (hC : zCx X RX12 cX12_readsSum 3 4) (hret : zRt X (some .boolean)) {μ : zMem} (hf : fX12_readsSum F μ = some (zOut X)) : zAW X 0 [some (.ref 60), none, none] [] μ := by
  unfold fX12_readsSum at hf
  refine zs_al hC dX12_readsSum_0 rfl ?_
  refine zs_getI hC fl_RX12_144 zL60 rfl dX12_readsSum_1 ?_
  refine zs_is hC dX12_readsSum_4 (by decide) rfl ?_
  refine zs_al hC dX12_readsSum_5 rfl ?_
  refine zs_callV [] hC cw_X12_readsFactor cl_RX12_164 zL60 rfl (by decide) rfl rfl (Nat.le_of_ble_eq_true rfl) dX12_readsSum_6 (fun _ h => ctX12_readsFactor h) (fun r2 m2 _ hf => ?_) hf
  show zAW X 9 _ (.int r2 :: _) m2
  refine zs_if_ne hC dX12_readsSum_9 (fun _ hf => ?_) (fun _ hf => ?_) hf
  · refine zs_k hC dX12_readsSum_12 ?_
    exact zs_zretK hC hret dX12_readsSum_13 (by decide) hf
  · exact zAW.weak (wX12_readsSum_14 hC hret F _ _ hf) (zLw_s (zLw_s (zLw_n zLw_0)))
set_option maxRecDepth 20000 in
set_option maxHeartbeats 4000000 in
theorem ctX12_readsSum {E : zEV} {F : Nat} {μ : zMem} {out : zR} (hf : fX12_readsSum F μ = some out) : zCt E yX12_readsSum cX12_readsSum 3 (some .boolean) 4 [.ref 60] μ out :=
  zCt.of [some (.ref 60), none, none] (by decide +kernel) (Nat.le_of_ble_eq_true rfl) (zLw_s (zLw_e (zLw_e zLw_0))) rfl (fun X hE ho hr hC => by
    subst hE; subst ho
    exact wX12_readsSum hC hr hf)
/-! X12_endsPiece -/
def fX12_endsPiece_0 (F : Nat) : Nat → zMem → Option zR
  | 0, _ => none
  | n + 1, μ => zBd (fX12_waitTop F μ) (fun r1 m1 => if r1 = (nI 10) then zBd (fX12_notes F (nI 10) (nI 0) m1) (fun r2 m2 => fX12_endsPiece_0 F n (zUp (zUp m2 60 16 ((m2 60 16) - (nI 1))) 60 14 (((zUp m2 60 16 ((m2 60 16) - (nI 1))) 60 14) - (nI 1)))) else some ((nI 0), m1))
def fX12_endsPiece (F : Nat) (μ : zMem) : Option zR :=
  fX12_endsPiece_0 F F μ
set_option maxRecDepth 20000 in
set_option maxHeartbeats 4000000 in
theorem wX12_endsPiece_0 {X : zX} {F : Nat} (hC : zCx X RX12 cX12_endsPiece 1 1) (hret : zRt X none) : ∀ (n : Nat) (μ : zMem), fX12_endsPiece_0 F n μ = some (zOut X) → zAW X 0 [some (.ref 60)] [] μ := by
  intro n
  induction n with
  | zero =>
    intro μ hf
    rw [fX12_endsPiece_0] at hf
    cases hf
  | succ n ih =>
    intro μ hf
    rw [fX12_endsPiece_0] at hf
    refine zs_al hC dX12_endsPiece_0 rfl ?_
    refine zs_callV [] hC cw_X12_waitTop cl_RX12_147 zL60 rfl (by decide) rfl rfl (Nat.le_of_ble_eq_true rfl) dX12_endsPiece_1 (fun _ h => ctX12_waitTop h) (fun r1 m1 _ hf => ?_) hf
    show zAW X 4 _ (.int r1 :: _) m1
    refine zs_k hC dX12_endsPiece_4 ?_
    refine zs_ic_ne hC dX12_endsPiece_6 (fun _ hf => ?_) (fun _ hf => ?_) hf
    · refine zs_al hC dX12_endsPiece_9 rfl ?_
      refine zs_k hC dX12_endsPiece_10 ?_
      refine zs_k hC dX12_endsPiece_12 ?_
      refine zs_callV [.int (nI 10), .int (nI 0)] hC cw_X12_notes cl_RX12_150 zL60 rfl (by decide) rfl rfl (Nat.le_of_ble_eq_true rfl) dX12_endsPiece_13 (fun _ h => ctX12_notes h) (fun r2 m2 _ hf => ?_) hf
      show zAW X 16 _ _ m2
      refine zs_al hC dX12_endsPiece_16 rfl ?_
      refine zs_al hC dX12_endsPiece_17 rfl ?_
      refine zs_getI hC fl_RX12_144 zL60 rfl dX12_endsPiece_18 ?_
      refine zs_k hC dX12_endsPiece_21 ?_
      refine zs_isub hC dX12_endsPiece_22 ?_
      refine zs_putI hC fl_RX12_144 fp_12_16 zL60 rfl dX12_endsPiece_23 ?_
      refine zs_al hC dX12_endsPiece_26 rfl ?_
      refine zs_al hC dX12_endsPiece_27 rfl ?_
      refine zs_getI hC fl_RX12_141 zL60 rfl dX12_endsPiece_28 ?_
      refine zs_k hC dX12_endsPiece_31 ?_
      refine zs_isub hC dX12_endsPiece_32 ?_
      refine zs_putI hC fl_RX12_141 fp_12_14 zL60 rfl dX12_endsPiece_33 ?_
      refine zs_goto hC dX12_endsPiece_36 ?_
      exact zAW.weak (ih _ hf) (zLw_s zLw_0)
    · exact zs_vret hC hret dX12_endsPiece_39 hf
set_option maxRecDepth 20000 in
set_option maxHeartbeats 4000000 in
theorem wX12_endsPiece {X : zX} {F : Nat} (hC : zCx X RX12 cX12_endsPiece 1 1) (hret : zRt X none) {μ : zMem} (hf : fX12_endsPiece F μ = some (zOut X)) : zAW X 0 [some (.ref 60)] [] μ := by
  unfold fX12_endsPiece at hf
  exact zAW.weak (wX12_endsPiece_0 hC hret F _ hf) (zLw_s zLw_0)
set_option maxRecDepth 20000 in
set_option maxHeartbeats 4000000 in
theorem ctX12_endsPiece {E : zEV} {F : Nat} {μ : zMem} {out : zR} (hf : fX12_endsPiece F μ = some out) : zCt E yX12_endsPiece cX12_endsPiece 1 none 1 [.ref 60] μ out :=
  zCt.of [some (.ref 60)] (by decide +kernel) (Nat.le_of_ble_eq_true rfl) (zLw_s zLw_0) rfl (fun X hE ho hr hC => by
    subst hE; subst ho
    exact wX12_endsPiece hC hr hf)
/-! X12_lands -/
def fX12_lands_22 (F : Nat) (k0 : Int32 → zMem → Option zR) (v1 : Int32) (μ : zMem) : Option zR :=
  zG ((μ 60 16) - (nI 1)) 260 (zGz (nI 1048576) (zG ((μ 70 ((μ 60 16) - (nI 1)).toNatClampNeg) % (nI 1048576)) 260 (zGz (nI 1048576) (zG ((μ 70 ((μ 60 16) - (nI 1)).toNatClampNeg) % (nI 1048576)) 260 (k0 v1 (zUp (zUp μ 69 ((μ 70 ((μ 60 16) - (nI 1)).toNatClampNeg) % (nI 1048576)).toNatClampNeg (((nI 1048576) * ((μ 69 ((μ 70 ((μ 60 16) - (nI 1)).toNatClampNeg) % (nI 1048576)).toNatClampNeg) / (nI 1048576))) + (μ 60 15))) 60 16 (((zUp μ 69 ((μ 70 ((μ 60 16) - (nI 1)).toNatClampNeg) % (nI 1048576)).toNatClampNeg (((nI 1048576) * ((μ 69 ((μ 70 ((μ 60 16) - (nI 1)).toNatClampNeg) % (nI 1048576)).toNatClampNeg) / (nI 1048576))) + (μ 60 15))) 60 16) - (nI 1))))))))
def fX12_lands_0 (F : Nat) : Nat → Int32 → zMem → Option zR
  | 0, _, _ => none
  | n + 1, v1, μ => zBd (fX12_waitTop F μ) (fun r1 m1 => if r1 = (nI 11) then fX12_lands_22 F (fX12_lands_0 F n) v1 m1 else if v1 = 0 then some ((nI 0), m1) else zBd (fX12_waitTop F m1) (fun r2 m2 => if r2 = (nI 12) then fX12_lands_22 F (fX12_lands_0 F n) v1 m2 else some ((nI 0), m2)))
def fX12_lands (F : Nat) (v1 : Int32) (μ : zMem) : Option zR :=
  fX12_lands_0 F F v1 μ
set_option maxRecDepth 20000 in
set_option maxHeartbeats 4000000 in
theorem wX12_lands_22 {X : zX} {F : Nat} (hC : zCx X RX12 cX12_lands 3 1) (hret : zRt X none) {k0 : Int32 → zMem → Option zR} (hk0 : ∀ v1 μ, k0 v1 μ = some (zOut X) → zAW X 0 [some (.ref 60), some (.int v1), none] [] μ) {v1 : Int32} {μ : zMem} (hf : fX12_lands_22 F k0 v1 μ = some (zOut X)) : zAW X 22 [some (.ref 60), some (.int v1), none] [] μ := by
  unfold fX12_lands_22 at hf
  refine zs_al hC dX12_lands_22 rfl ?_
  refine zs_getR 70 hC fl_RX12_38 zL60 rfl dX12_lands_23 ?_
  refine zs_al hC dX12_lands_26 rfl ?_
  refine zs_getI hC fl_RX12_144 zL60 rfl dX12_lands_27 ?_
  refine zs_k hC dX12_lands_30 ?_
  refine zs_isub hC dX12_lands_31 ?_
  refine zs_iald hC zL70 dX12_lands_32 (fun _ hf => ?_) hf
  refine zs_ldc hC kc_RX12_140 dX12_lands_33 ?_
  refine zs_irem hC dX12_lands_35 (fun _ hf => ?_) hf
  refine zs_is hC dX12_lands_36 (by decide) rfl ?_
  refine zs_al hC dX12_lands_37 rfl ?_
  refine zs_getR 69 hC fl_RX12_35 zL60 rfl dX12_lands_38 ?_
  refine zs_il hC dX12_lands_41 rfl ?_
  refine zs_ldc hC kc_RX12_140 dX12_lands_42 ?_
  refine zs_al hC dX12_lands_44 rfl ?_
  refine zs_getR 69 hC fl_RX12_35 zL60 rfl dX12_lands_45 ?_
  refine zs_il hC dX12_lands_48 rfl ?_
  refine zs_iald hC zL69 dX12_lands_49 (fun _ hf => ?_) hf
  refine zs_ldc hC kc_RX12_140 dX12_lands_50 ?_
  refine zs_idiv hC dX12_lands_52 (fun _ hf => ?_) hf
  refine zs_imul hC dX12_lands_53 ?_
  refine zs_al hC dX12_lands_54 rfl ?_
  refine zs_getI hC fl_RX12_137 zL60 rfl dX12_lands_55 ?_
  refine zs_iadd hC dX12_lands_58 ?_
  refine zs_iast hC zL69 dX12_lands_59 (fun _ hf => ?_) hf
  refine zs_al hC dX12_lands_60 rfl ?_
  refine zs_al hC dX12_lands_61 rfl ?_
  refine zs_getI hC fl_RX12_144 zL60 rfl dX12_lands_62 ?_
  refine zs_k hC dX12_lands_65 ?_
  refine zs_isub hC dX12_lands_66 ?_
  refine zs_putI hC fl_RX12_144 fp_12_16 zL60 rfl dX12_lands_67 ?_
  refine zs_goto hC dX12_lands_70 ?_
  exact zAW.weak (hk0 _ _ hf) (zLw_s (zLw_s (zLw_n zLw_0)))
set_option maxRecDepth 20000 in
set_option maxHeartbeats 4000000 in
theorem wX12_lands_0 {X : zX} {F : Nat} (hC : zCx X RX12 cX12_lands 3 1) (hret : zRt X none) : ∀ (n : Nat) (v1 : Int32) (μ : zMem), fX12_lands_0 F n v1 μ = some (zOut X) → zAW X 0 [some (.ref 60), some (.int v1), none] [] μ := by
  intro n
  induction n with
  | zero =>
    intro v1 μ hf
    rw [fX12_lands_0] at hf
    cases hf
  | succ n ih =>
    intro v1 μ hf
    rw [fX12_lands_0] at hf
    refine zs_al hC dX12_lands_0 rfl ?_
    refine zs_callV [] hC cw_X12_waitTop cl_RX12_147 zL60 rfl (by decide) rfl rfl (Nat.le_of_ble_eq_true rfl) dX12_lands_1 (fun _ h => ctX12_waitTop h) (fun r1 m1 _ hf => ?_) hf
    show zAW X 4 _ (.int r1 :: _) m1
    refine zs_k hC dX12_lands_4 ?_
    refine zs_ic_eq hC dX12_lands_6 (fun _ hf => ?_) (fun _ hf => ?_) hf
    · exact zAW.weak (wX12_lands_22 hC hret (ih) hf) (zLw_s (zLw_s (zLw_n zLw_0)))
    · refine zs_il hC dX12_lands_9 rfl ?_
      refine zs_if_eq hC dX12_lands_10 (fun _ hf => ?_) (fun _ hf => ?_) hf
      · exact zs_vret hC hret dX12_lands_73 hf
      · refine zs_al hC dX12_lands_13 rfl ?_
        refine zs_callV [] hC cw_X12_waitTop cl_RX12_147 zL60 rfl (by decide) rfl rfl (Nat.le_of_ble_eq_true rfl) dX12_lands_14 (fun _ h => ctX12_waitTop h) (fun r2 m2 _ hf => ?_) hf
        show zAW X 17 _ (.int r2 :: _) m2
        refine zs_k hC dX12_lands_17 ?_
        refine zs_ic_ne hC dX12_lands_19 (fun _ hf => ?_) (fun _ hf => ?_) hf
        · exact zAW.weak (wX12_lands_22 hC hret (ih) hf) (zLw_s (zLw_s (zLw_n zLw_0)))
        · exact zs_vret hC hret dX12_lands_73 hf
set_option maxRecDepth 20000 in
set_option maxHeartbeats 4000000 in
theorem wX12_lands {X : zX} {F : Nat} (hC : zCx X RX12 cX12_lands 3 1) (hret : zRt X none) {v1 : Int32} {μ : zMem} (hf : fX12_lands F v1 μ = some (zOut X)) : zAW X 0 [some (.ref 60), some (.int v1), none] [] μ := by
  unfold fX12_lands at hf
  exact zAW.weak (wX12_lands_0 hC hret F _ _ hf) (zLw_s (zLw_s (zLw_n zLw_0)))
set_option maxRecDepth 20000 in
set_option maxHeartbeats 4000000 in
theorem ctX12_lands {E : zEV} {F : Nat} {v1 : Int32} {μ : zMem} {out : zR} (hf : fX12_lands F v1 μ = some out) : zCt E yX12_lands cX12_lands 3 none 1 [.ref 60, .int v1] μ out :=
  zCt.of [some (.ref 60), some (.int v1), none] (by decide +kernel) (Nat.le_of_ble_eq_true rfl) (zLw_s (zLw_s (zLw_e zLw_0))) rfl (fun X hE ho hr hC => by
    subst hE; subst ho
    exact wX12_lands hC hr hf)
/-! X12_jumps -/
def fX12_jumps (F : Nat) (v1 : Int32) (μ : zMem) : Option zR :=
  zG (μ 60 16) 260 (zBd (fX12_notes F v1 (nI 0) (zUp (zUp μ 70 (μ 60 16).toNatClampNeg (((nI 1048576) * v1) + (μ 60 15))) 60 16 (((zUp μ 70 (μ 60 16).toNatClampNeg (((nI 1048576) * v1) + (μ 60 15))) 60 16) + (nI 1)))) (fun r5 m5 => some ((nI 0), (zUp m5 60 10 ((m5 60 10) + (nI 1))))))
set_option maxRecDepth 20000 in
set_option maxHeartbeats 4000000 in
theorem wX12_jumps {X : zX} {F : Nat} (hC : zCx X RX12 cX12_jumps 2 1) (hret : zRt X none) {v1 : Int32} {μ : zMem} (hf : fX12_jumps F v1 μ = some (zOut X)) : zAW X 0 [some (.ref 60), some (.int v1)] [] μ := by
  unfold fX12_jumps at hf
  refine zs_al hC dX12_jumps_0 rfl ?_
  refine zs_getR 70 hC fl_RX12_38 zL60 rfl dX12_jumps_1 ?_
  refine zs_al hC dX12_jumps_4 rfl ?_
  refine zs_getI hC fl_RX12_144 zL60 rfl dX12_jumps_5 ?_
  refine zs_ldc hC kc_RX12_140 dX12_jumps_8 ?_
  refine zs_il hC dX12_jumps_10 rfl ?_
  refine zs_imul hC dX12_jumps_11 ?_
  refine zs_al hC dX12_jumps_12 rfl ?_
  refine zs_getI hC fl_RX12_137 zL60 rfl dX12_jumps_13 ?_
  refine zs_iadd hC dX12_jumps_16 ?_
  refine zs_iast hC zL70 dX12_jumps_17 (fun _ hf => ?_) hf
  refine zs_al hC dX12_jumps_18 rfl ?_
  refine zs_al hC dX12_jumps_19 rfl ?_
  refine zs_getI hC fl_RX12_144 zL60 rfl dX12_jumps_20 ?_
  refine zs_k hC dX12_jumps_23 ?_
  refine zs_iadd hC dX12_jumps_24 ?_
  refine zs_putI hC fl_RX12_144 fp_12_16 zL60 rfl dX12_jumps_25 ?_
  refine zs_al hC dX12_jumps_28 rfl ?_
  refine zs_il hC dX12_jumps_29 rfl ?_
  refine zs_k hC dX12_jumps_30 ?_
  refine zs_callV [.int v1, .int (nI 0)] hC cw_X12_notes cl_RX12_150 zL60 rfl (by decide) rfl rfl (Nat.le_of_ble_eq_true rfl) dX12_jumps_31 (fun _ h => ctX12_notes h) (fun r5 m5 _ hf => ?_) hf
  show zAW X 34 _ _ m5
  refine zs_al hC dX12_jumps_34 rfl ?_
  refine zs_al hC dX12_jumps_35 rfl ?_
  refine zs_getI hC fl_RX12_113 zL60 rfl dX12_jumps_36 ?_
  refine zs_k hC dX12_jumps_39 ?_
  refine zs_iadd hC dX12_jumps_40 ?_
  refine zs_putI hC fl_RX12_113 fp_12_10 zL60 rfl dX12_jumps_41 ?_
  exact zs_vret hC hret dX12_jumps_44 hf
set_option maxRecDepth 20000 in
set_option maxHeartbeats 4000000 in
theorem ctX12_jumps {E : zEV} {F : Nat} {v1 : Int32} {μ : zMem} {out : zR} (hf : fX12_jumps F v1 μ = some out) : zCt E yX12_jumps cX12_jumps 2 none 1 [.ref 60, .int v1] μ out :=
  zCt.of [some (.ref 60), some (.int v1)] (by decide +kernel) (Nat.le_of_ble_eq_true rfl) (zLw_s (zLw_s zLw_0)) rfl (fun X hE ho hr hC => by
    subst hE; subst ho
    exact wX12_jumps hC hr hf)
/-! X12_readsCompared -/
def fX12_readsCompared_52 (F : Nat) (s0 : Int32) (μ : zMem) : Option zR :=
  if s0 = (-1 : Int32) then zBd (fX12_wrongAt F (nI 1) (μ 60 10) μ) (fun r2 m2 => zGb (decide (r2 = 0 ∨ r2 = 1)) (some (r2, m2))) else zBd (fX12_readsSum F (zUp μ 60 10 ((μ 60 10) + (nI 1)))) (fun r4 m4 => if r4 = 0 then some ((nI 0), m4) else zBd (fX12_notes F s0 (nI 0) m4) (fun r5 m5 => zBd (fX12_endsPiece F m5) (fun r6 m6 => some ((nI 1), m6))))
def fX12_readsCompared (F : Nat) (μ : zMem) : Option zR :=
  zBd (fX12_readsSum F μ) (fun r1 m1 => if r1 = 0 then some ((nI 0), m1) else zBd (fX12_here F m1) (fun r2 m2 => if r2 = (nI 60) then fX12_readsCompared_52 F (nI 7) m2 else zBd (fX12_here F m2) (fun r3 m3 => if r3 = (nI 62) then fX12_readsCompared_52 F (nI 8) m3 else zBd (fX12_here F m3) (fun r4 m4 => if r4 = (nI 61) then fX12_readsCompared_52 F (nI 9) m4 else fX12_readsCompared_52 F (-1 : Int32) m4))))
set_option maxRecDepth 20000 in
set_option maxHeartbeats 4000000 in
theorem wX12_readsCompared_52 {X : zX} {F : Nat} (hC : zCx X RX12 cX12_readsCompared 2 5) (hret : zRt X (some .boolean)) {s0 : Int32} {μ : zMem} (hf : fX12_readsCompared_52 F s0 μ = some (zOut X)) : zAW X 52 [some (.ref 60), none] [.int s0] μ := by
  unfold fX12_readsCompared_52 at hf
  refine zs_is hC dX12_readsCompared_52 (by decide) rfl ?_
  refine zs_il hC dX12_readsCompared_53 rfl ?_
  refine zs_k hC dX12_readsCompared_54 ?_
  refine zs_ic_ne hC dX12_readsCompared_55 (fun _ hf => ?_) (fun _ hf => ?_) hf
  · refine zs_al hC dX12_readsCompared_58 rfl ?_
    refine zs_k hC dX12_readsCompared_59 ?_
    refine zs_al hC dX12_readsCompared_60 rfl ?_
    refine zs_getI hC fl_RX12_113 zL60 rfl dX12_readsCompared_61 ?_
    refine zs_callV [.int (nI 1), .int (μ 60 10)] hC cw_X12_wrongAt cl_RX12_126 zL60 rfl (by decide) rfl rfl (Nat.le_of_ble_eq_true rfl) dX12_readsCompared_64 (fun _ h => ctX12_wrongAt h) (fun r2 m2 _ hf => ?_) hf
    show zAW X 67 _ (.int r2 :: _) m2
    exact zs_zret hC hret dX12_readsCompared_67 hf
  · refine zs_al hC dX12_readsCompared_68 rfl ?_
    refine zs_al hC dX12_readsCompared_69 rfl ?_
    refine zs_getI hC fl_RX12_113 zL60 rfl dX12_readsCompared_70 ?_
    refine zs_k hC dX12_readsCompared_73 ?_
    refine zs_iadd hC dX12_readsCompared_74 ?_
    refine zs_putI hC fl_RX12_113 fp_12_10 zL60 rfl dX12_readsCompared_75 ?_
    refine zs_al hC dX12_readsCompared_78 rfl ?_
    refine zs_callV [] hC cw_X12_readsSum cl_RX12_177 zL60 rfl (by decide) rfl rfl (Nat.le_of_ble_eq_true rfl) dX12_readsCompared_79 (fun _ h => ctX12_readsSum h) (fun r4 m4 _ hf => ?_) hf
    show zAW X 82 _ (.int r4 :: _) m4
    refine zs_if_ne hC dX12_readsCompared_82 (fun _ hf => ?_) (fun _ hf => ?_) hf
    · refine zs_k hC dX12_readsCompared_85 ?_
      exact zs_zretK hC hret dX12_readsCompared_86 (by decide) hf
    · refine zs_al hC dX12_readsCompared_87 rfl ?_
      refine zs_il hC dX12_readsCompared_88 rfl ?_
      refine zs_k hC dX12_readsCompared_89 ?_
      refine zs_callV [.int s0, .int (nI 0)] hC cw_X12_notes cl_RX12_150 zL60 rfl (by decide) rfl rfl (Nat.le_of_ble_eq_true rfl) dX12_readsCompared_90 (fun _ h => ctX12_notes h) (fun r5 m5 _ hf => ?_) hf
      show zAW X 93 _ _ m5
      refine zs_al hC dX12_readsCompared_93 rfl ?_
      refine zs_callV [] hC cw_X12_endsPiece cl_RX12_180 zL60 rfl (by decide) rfl rfl (Nat.le_of_ble_eq_true rfl) dX12_readsCompared_94 (fun _ h => ctX12_endsPiece h) (fun r6 m6 _ hf => ?_) hf
      show zAW X 97 _ _ m6
      refine zs_k hC dX12_readsCompared_97 ?_
      exact zs_zretK hC hret dX12_readsCompared_98 (by decide) hf
set_option maxRecDepth 20000 in
set_option maxHeartbeats 4000000 in
theorem wX12_readsCompared {X : zX} {F : Nat} (hC : zCx X RX12 cX12_readsCompared 2 5) (hret : zRt X (some .boolean)) {μ : zMem} (hf : fX12_readsCompared F μ = some (zOut X)) : zAW X 0 [some (.ref 60), none] [] μ := by
  unfold fX12_readsCompared at hf
  refine zs_al hC dX12_readsCompared_0 rfl ?_
  refine zs_callV [] hC cw_X12_readsSum cl_RX12_177 zL60 rfl (by decide) rfl rfl (Nat.le_of_ble_eq_true rfl) dX12_readsCompared_1 (fun _ h => ctX12_readsSum h) (fun r1 m1 _ hf => ?_) hf
  show zAW X 4 _ (.int r1 :: _) m1
  refine zs_if_ne hC dX12_readsCompared_4 (fun _ hf => ?_) (fun _ hf => ?_) hf
  · refine zs_k hC dX12_readsCompared_7 ?_
    exact zs_zretK hC hret dX12_readsCompared_8 (by decide) hf
  · refine zs_al hC dX12_readsCompared_9 rfl ?_
    refine zs_callV [] hC cw_X12_here cl_RX12_119 zL60 rfl (by decide) rfl rfl (Nat.le_of_ble_eq_true rfl) dX12_readsCompared_10 (fun _ h => ctX12_here h) (fun r2 m2 _ hf => ?_) hf
    show zAW X 13 _ (.int r2 :: _) m2
    refine zs_k hC dX12_readsCompared_13 ?_
    refine zs_ic_ne hC dX12_readsCompared_15 (fun _ hf => ?_) (fun _ hf => ?_) hf
    · refine zs_k hC dX12_readsCompared_18 ?_
      refine zs_goto hC dX12_readsCompared_20 ?_
      exact zAW.weak (wX12_readsCompared_52 hC hret hf) (zLw_s (zLw_n zLw_0))
    · refine zs_al hC dX12_readsCompared_23 rfl ?_
      refine zs_callV [] hC cw_X12_here cl_RX12_119 zL60 rfl (by decide) rfl rfl (Nat.le_of_ble_eq_true rfl) dX12_readsCompared_24 (fun _ h => ctX12_here h) (fun r3 m3 _ hf => ?_) hf
      show zAW X 27 _ (.int r3 :: _) m3
      refine zs_k hC dX12_readsCompared_27 ?_
      refine zs_ic_ne hC dX12_readsCompared_29 (fun _ hf => ?_) (fun _ hf => ?_) hf
      · refine zs_k hC dX12_readsCompared_32 ?_
        refine zs_goto hC dX12_readsCompared_34 ?_
        exact zAW.weak (wX12_readsCompared_52 hC hret hf) (zLw_s (zLw_n zLw_0))
      · refine zs_al hC dX12_readsCompared_37 rfl ?_
        refine zs_callV [] hC cw_X12_here cl_RX12_119 zL60 rfl (by decide) rfl rfl (Nat.le_of_ble_eq_true rfl) dX12_readsCompared_38 (fun _ h => ctX12_here h) (fun r4 m4 _ hf => ?_) hf
        show zAW X 41 _ (.int r4 :: _) m4
        refine zs_k hC dX12_readsCompared_41 ?_
        refine zs_ic_ne hC dX12_readsCompared_43 (fun _ hf => ?_) (fun _ hf => ?_) hf
        · refine zs_k hC dX12_readsCompared_46 ?_
          refine zs_goto hC dX12_readsCompared_48 ?_
          exact zAW.weak (wX12_readsCompared_52 hC hret hf) (zLw_s (zLw_n zLw_0))
        · refine zs_k hC dX12_readsCompared_51 ?_
          exact zAW.weak (wX12_readsCompared_52 hC hret hf) (zLw_s (zLw_n zLw_0))
set_option maxRecDepth 20000 in
set_option maxHeartbeats 4000000 in
theorem ctX12_readsCompared {E : zEV} {F : Nat} {μ : zMem} {out : zR} (hf : fX12_readsCompared F μ = some out) : zCt E yX12_readsCompared cX12_readsCompared 2 (some .boolean) 5 [.ref 60] μ out :=
  zCt.of [some (.ref 60), none] (by decide +kernel) (Nat.le_of_ble_eq_true rfl) (zLw_s (zLw_e zLw_0)) rfl (fun X hE ho hr hC => by
    subst hE; subst ho
    exact wX12_readsCompared hC hr hf)
/-! X12_readsCondition -/
def fX12_readsCondition_58 (F : Nat) (k40 : zMem → Option zR) (μ : zMem) : Option zR :=
  zBd (fX12_here F μ) (fun r1 m1 => if r1 = (nI 33) then zBd (fX12_opens F (nI 10) m1) (fun r2 m2 => if r2 = 0 then some ((nI 0), m2) else k40 m2) else zBd (fX12_opens F (nI 13) m1) (fun r3 m3 => if r3 = 0 then some ((nI 0), m3) else k40 m3))
def fX12_readsCondition_195 (F : Nat) (k40 : zMem → Option zR) (s0 : Int32) (μ : zMem) : Option zR :=
  zBd (fX12_lands F s0 μ) (fun r1 m1 => zBd (fX12_here F m1) (fun r2 m2 => if r2 = (nI 38) then zBd (fX12_jumps F (nI 11) m2) (fun r3 m3 => k40 m3) else zBd (fX12_jumps F (nI 12) m2) (fun r4 m4 => k40 m4)))
def fX12_readsCondition_180 (F : Nat) (k40 : zMem → Option zR) (μ : zMem) : Option zR :=
  zBd (fX12_here F μ) (fun r1 m1 => if r1 = (nI 124) then fX12_readsCondition_195 F k40 (nI 1) m1 else fX12_readsCondition_195 F k40 (nI 0) m1)
def fX12_readsCondition_92 (F : Nat) (k40 : zMem → Option zR) : Nat → zMem → Option zR
  | 0, _ => none
  | n + 1, μ => zBd (fX12_here F μ) (fun r1 m1 => if r1 = (nI 41) then zBd (fX12_lands F (nI 1) m1) (fun r2 m2 => if ((zUp (zUp (zUp m2 60 16 ((m2 60 16) - (nI 1))) 60 14 (((zUp m2 60 16 ((m2 60 16) - (nI 1))) 60 14) - (nI 1))) 60 10 (((zUp (zUp m2 60 16 ((m2 60 16) - (nI 1))) 60 14 (((zUp m2 60 16 ((m2 60 16) - (nI 1))) 60 14) - (nI 1))) 60 10) + (nI 1))) 60 16) = 0 then some ((nI 1), (zUp (zUp (zUp m2 60 16 ((m2 60 16) - (nI 1))) 60 14 (((zUp m2 60 16 ((m2 60 16) - (nI 1))) 60 14) - (nI 1))) 60 10 (((zUp (zUp m2 60 16 ((m2 60 16) - (nI 1))) 60 14 (((zUp m2 60 16 ((m2 60 16) - (nI 1))) 60 14) - (nI 1))) 60 10) + (nI 1)))) else zBd (fX12_endsPiece F (zUp (zUp (zUp m2 60 16 ((m2 60 16) - (nI 1))) 60 14 (((zUp m2 60 16 ((m2 60 16) - (nI 1))) 60 14) - (nI 1))) 60 10 (((zUp (zUp m2 60 16 ((m2 60 16) - (nI 1))) 60 14 (((zUp m2 60 16 ((m2 60 16) - (nI 1))) 60 14) - (nI 1))) 60 10) + (nI 1)))) (fun r7 m7 => fX12_readsCondition_92 F k40 n m7)) else zBd (fX12_here F m1) (fun r8 m8 => if r8 = (nI 38) then fX12_readsCondition_180 F k40 m8 else zBd (fX12_here F m8) (fun r9 m9 => if r9 = (nI 124) then fX12_readsCondition_180 F k40 m9 else zBd (fX12_wrongAt F (nI 1) (m9 60 10) m9) (fun r11 m11 => zGb (decide (r11 = 0 ∨ r11 = 1)) (some (r11, m11))))))
def fX12_readsCondition_40 (F : Nat) : Nat → zMem → Option zR
  | 0, _ => none
  | n + 1, μ => zBd (fX12_here F μ) (fun r1 m1 => if r1 = (nI 33) then fX12_readsCondition_58 F (fX12_readsCondition_40 F n) m1 else zBd (fX12_here F m1) (fun r2 m2 => if r2 = (nI 40) then fX12_readsCondition_58 F (fX12_readsCondition_40 F n) m2 else zBd (fX12_readsCompared F m2) (fun r3 m3 => if r3 = 0 then some ((nI 0), m3) else fX12_readsCondition_92 F (fX12_readsCondition_40 F n) F m3)))
def fX12_readsCondition (F : Nat) (μ : zMem) : Option zR :=
  zBd (fX12_here F μ) (fun r1 m1 => if r1 = (nI 40) then zBd (fX12_opens F (nI 13) (zUp (zUp m1 60 14 (nI 0)) 60 16 (nI 0))) (fun r2 m2 => if r2 = 0 then some ((nI 0), m2) else fX12_readsCondition_40 F F m2) else zBd (fX12_wrongAt F (nI 1) (m1 60 10) m1) (fun r4 m4 => zGb (decide (r4 = 0 ∨ r4 = 1)) (some (r4, m4))))
set_option maxRecDepth 20000 in
set_option maxHeartbeats 4000000 in
theorem wX12_readsCondition_58 {X : zX} {F : Nat} (hC : zCx X RX12 cX12_readsCondition 1 6) (hret : zRt X (some .boolean)) {k40 : zMem → Option zR} (hk40 : ∀ μ, k40 μ = some (zOut X) → zAW X 40 [some (.ref 60)] [] μ) {μ : zMem} (hf : fX12_readsCondition_58 F k40 μ = some (zOut X)) : zAW X 58 [some (.ref 60)] [] μ := by
  unfold fX12_readsCondition_58 at hf
  refine zs_al hC dX12_readsCondition_58 rfl ?_
  refine zs_al hC dX12_readsCondition_59 rfl ?_
  refine zs_callV [] hC cw_X12_here cl_RX12_119 zL60 rfl (by decide) rfl rfl (Nat.le_of_ble_eq_true rfl) dX12_readsCondition_60 (fun _ h => ctX12_here h) (fun r1 m1 _ hf => ?_) hf
  show zAW X 63 _ (.int r1 :: _) m1
  refine zs_k hC dX12_readsCondition_63 ?_
  refine zs_ic_ne hC dX12_readsCondition_65 (fun _ hf => ?_) (fun _ hf => ?_) hf
  · refine zs_k hC dX12_readsCondition_68 ?_
    refine zs_goto hC dX12_readsCondition_70 ?_
    refine zs_callV [.int (nI 10)] hC cw_X12_opens cl_RX12_154 zL60 rfl (by decide) rfl rfl (Nat.le_of_ble_eq_true rfl) dX12_readsCondition_75 (fun _ h => ctX12_opens h) (fun r2 m2 _ hf => ?_) hf
    show zAW X 78 _ (.int r2 :: _) m2
    refine zs_if_ne hC dX12_readsCondition_78 (fun _ hf => ?_) (fun _ hf => ?_) hf
    · refine zs_k hC dX12_readsCondition_81 ?_
      exact zs_zretK hC hret dX12_readsCondition_82 (by decide) hf
    · exact zAW.weak (hk40 _ hf) (zLw_s zLw_0)
  · refine zs_k hC dX12_readsCondition_73 ?_
    refine zs_callV [.int (nI 13)] hC cw_X12_opens cl_RX12_154 zL60 rfl (by decide) rfl rfl (Nat.le_of_ble_eq_true rfl) dX12_readsCondition_75 (fun _ h => ctX12_opens h) (fun r3 m3 _ hf => ?_) hf
    show zAW X 78 _ (.int r3 :: _) m3
    refine zs_if_ne hC dX12_readsCondition_78 (fun _ hf => ?_) (fun _ hf => ?_) hf
    · refine zs_k hC dX12_readsCondition_81 ?_
      exact zs_zretK hC hret dX12_readsCondition_82 (by decide) hf
    · exact zAW.weak (hk40 _ hf) (zLw_s zLw_0)
set_option maxRecDepth 20000 in
set_option maxHeartbeats 4000000 in
theorem wX12_readsCondition_195 {X : zX} {F : Nat} (hC : zCx X RX12 cX12_readsCondition 1 6) (hret : zRt X (some .boolean)) {k40 : zMem → Option zR} (hk40 : ∀ μ, k40 μ = some (zOut X) → zAW X 40 [some (.ref 60)] [] μ) {s0 : Int32} {μ : zMem} (hf : fX12_readsCondition_195 F k40 s0 μ = some (zOut X)) : zAW X 195 [some (.ref 60)] [.int s0, .ref 60] μ := by
  unfold fX12_readsCondition_195 at hf
  refine zs_callV [.int s0] hC cw_X12_lands cl_RX12_186 zL60 rfl (by decide) rfl rfl (Nat.le_of_ble_eq_true rfl) dX12_readsCondition_195 (fun _ h => ctX12_lands h) (fun r1 m1 _ hf => ?_) hf
  show zAW X 198 _ _ m1
  refine zs_al hC dX12_readsCondition_198 rfl ?_
  refine zs_al hC dX12_readsCondition_199 rfl ?_
  refine zs_callV [] hC cw_X12_here cl_RX12_119 zL60 rfl (by decide) rfl rfl (Nat.le_of_ble_eq_true rfl) dX12_readsCondition_200 (fun _ h => ctX12_here h) (fun r2 m2 _ hf => ?_) hf
  show zAW X 203 _ (.int r2 :: _) m2
  refine zs_k hC dX12_readsCondition_203 ?_
  refine zs_ic_ne hC dX12_readsCondition_205 (fun _ hf => ?_) (fun _ hf => ?_) hf
  · refine zs_k hC dX12_readsCondition_208 ?_
    refine zs_goto hC dX12_readsCondition_210 ?_
    refine zs_callV [.int (nI 11)] hC cw_X12_jumps cl_RX12_189 zL60 rfl (by decide) rfl rfl (Nat.le_of_ble_eq_true rfl) dX12_readsCondition_215 (fun _ h => ctX12_jumps h) (fun r3 m3 _ hf => ?_) hf
    show zAW X 218 _ _ m3
    refine zs_goto hC dX12_readsCondition_218 ?_
    exact zAW.weak (hk40 _ hf) (zLw_s zLw_0)
  · refine zs_k hC dX12_readsCondition_213 ?_
    refine zs_callV [.int (nI 12)] hC cw_X12_jumps cl_RX12_189 zL60 rfl (by decide) rfl rfl (Nat.le_of_ble_eq_true rfl) dX12_readsCondition_215 (fun _ h => ctX12_jumps h) (fun r4 m4 _ hf => ?_) hf
    show zAW X 218 _ _ m4
    refine zs_goto hC dX12_readsCondition_218 ?_
    exact zAW.weak (hk40 _ hf) (zLw_s zLw_0)
set_option maxRecDepth 20000 in
set_option maxHeartbeats 4000000 in
theorem wX12_readsCondition_180 {X : zX} {F : Nat} (hC : zCx X RX12 cX12_readsCondition 1 6) (hret : zRt X (some .boolean)) {k40 : zMem → Option zR} (hk40 : ∀ μ, k40 μ = some (zOut X) → zAW X 40 [some (.ref 60)] [] μ) {μ : zMem} (hf : fX12_readsCondition_180 F k40 μ = some (zOut X)) : zAW X 180 [some (.ref 60)] [] μ := by
  unfold fX12_readsCondition_180 at hf
  refine zs_al hC dX12_readsCondition_180 rfl ?_
  refine zs_al hC dX12_readsCondition_181 rfl ?_
  refine zs_callV [] hC cw_X12_here cl_RX12_119 zL60 rfl (by decide) rfl rfl (Nat.le_of_ble_eq_true rfl) dX12_readsCondition_182 (fun _ h => ctX12_here h) (fun r1 m1 _ hf => ?_) hf
  show zAW X 185 _ (.int r1 :: _) m1
  refine zs_k hC dX12_readsCondition_185 ?_
  refine zs_ic_ne hC dX12_readsCondition_187 (fun _ hf => ?_) (fun _ hf => ?_) hf
  · refine zs_k hC dX12_readsCondition_190 ?_
    refine zs_goto hC dX12_readsCondition_191 ?_
    exact zAW.weak (wX12_readsCondition_195 hC hret hk40 hf) (zLw_s zLw_0)
  · refine zs_k hC dX12_readsCondition_194 ?_
    exact zAW.weak (wX12_readsCondition_195 hC hret hk40 hf) (zLw_s zLw_0)
set_option maxRecDepth 20000 in
set_option maxHeartbeats 4000000 in
theorem wX12_readsCondition_92 {X : zX} {F : Nat} (hC : zCx X RX12 cX12_readsCondition 1 6) (hret : zRt X (some .boolean)) {k40 : zMem → Option zR} (hk40 : ∀ μ, k40 μ = some (zOut X) → zAW X 40 [some (.ref 60)] [] μ) : ∀ (n : Nat) (μ : zMem), fX12_readsCondition_92 F k40 n μ = some (zOut X) → zAW X 92 [some (.ref 60)] [] μ := by
  intro n
  induction n with
  | zero =>
    intro μ hf
    rw [fX12_readsCondition_92] at hf
    cases hf
  | succ n ih =>
    intro μ hf
    rw [fX12_readsCondition_92] at hf
    refine zs_al hC dX12_readsCondition_92 rfl ?_
    refine zs_callV [] hC cw_X12_here cl_RX12_119 zL60 rfl (by decide) rfl rfl (Nat.le_of_ble_eq_true rfl) dX12_readsCondition_93 (fun _ h => ctX12_here h) (fun r1 m1 _ hf => ?_) hf
    show zAW X 96 _ (.int r1 :: _) m1
    refine zs_k hC dX12_readsCondition_96 ?_
    refine zs_ic_ne hC dX12_readsCondition_98 (fun _ hf => ?_) (fun _ hf => ?_) hf
    · refine zs_al hC dX12_readsCondition_101 rfl ?_
      refine zs_k hC dX12_readsCondition_102 ?_
      refine zs_callV [.int (nI 1)] hC cw_X12_lands cl_RX12_186 zL60 rfl (by decide) rfl rfl (Nat.le_of_ble_eq_true rfl) dX12_readsCondition_103 (fun _ h => ctX12_lands h) (fun r2 m2 _ hf => ?_) hf
      show zAW X 106 _ _ m2
      refine zs_al hC dX12_readsCondition_106 rfl ?_
      refine zs_al hC dX12_readsCondition_107 rfl ?_
      refine zs_getI hC fl_RX12_144 zL60 rfl dX12_readsCondition_108 ?_
      refine zs_k hC dX12_readsCondition_111 ?_
      refine zs_isub hC dX12_readsCondition_112 ?_
      refine zs_putI hC fl_RX12_144 fp_12_16 zL60 rfl dX12_readsCondition_113 ?_
      refine zs_al hC dX12_readsCondition_116 rfl ?_
      refine zs_al hC dX12_readsCondition_117 rfl ?_
      refine zs_getI hC fl_RX12_141 zL60 rfl dX12_readsCondition_118 ?_
      refine zs_k hC dX12_readsCondition_121 ?_
      refine zs_isub hC dX12_readsCondition_122 ?_
      refine zs_putI hC fl_RX12_141 fp_12_14 zL60 rfl dX12_readsCondition_123 ?_
      refine zs_al hC dX12_readsCondition_126 rfl ?_
      refine zs_al hC dX12_readsCondition_127 rfl ?_
      refine zs_getI hC fl_RX12_113 zL60 rfl dX12_readsCondition_128 ?_
      refine zs_k hC dX12_readsCondition_131 ?_
      refine zs_iadd hC dX12_readsCondition_132 ?_
      refine zs_putI hC fl_RX12_113 fp_12_10 zL60 rfl dX12_readsCondition_133 ?_
      refine zs_al hC dX12_readsCondition_136 rfl ?_
      refine zs_getI hC fl_RX12_144 zL60 rfl dX12_readsCondition_137 ?_
      refine zs_if_ne hC dX12_readsCondition_140 (fun _ hf => ?_) (fun _ hf => ?_) hf
      · refine zs_k hC dX12_readsCondition_143 ?_
        exact zs_zretK hC hret dX12_readsCondition_144 (by decide) hf
      · refine zs_al hC dX12_readsCondition_145 rfl ?_
        refine zs_callV [] hC cw_X12_endsPiece cl_RX12_180 zL60 rfl (by decide) rfl rfl (Nat.le_of_ble_eq_true rfl) dX12_readsCondition_146 (fun _ h => ctX12_endsPiece h) (fun r7 m7 _ hf => ?_) hf
        show zAW X 149 _ _ m7
        refine zs_goto hC dX12_readsCondition_149 ?_
        exact zAW.weak (ih _ hf) (zLw_s zLw_0)
    · refine zs_al hC dX12_readsCondition_152 rfl ?_
      refine zs_callV [] hC cw_X12_here cl_RX12_119 zL60 rfl (by decide) rfl rfl (Nat.le_of_ble_eq_true rfl) dX12_readsCondition_153 (fun _ h => ctX12_here h) (fun r8 m8 _ hf => ?_) hf
      show zAW X 156 _ (.int r8 :: _) m8
      refine zs_k hC dX12_readsCondition_156 ?_
      refine zs_ic_eq hC dX12_readsCondition_158 (fun _ hf => ?_) (fun _ hf => ?_) hf
      · exact zAW.weak (wX12_readsCondition_180 hC hret hk40 hf) (zLw_s zLw_0)
      · refine zs_al hC dX12_readsCondition_161 rfl ?_
        refine zs_callV [] hC cw_X12_here cl_RX12_119 zL60 rfl (by decide) rfl rfl (Nat.le_of_ble_eq_true rfl) dX12_readsCondition_162 (fun _ h => ctX12_here h) (fun r9 m9 _ hf => ?_) hf
        show zAW X 165 _ (.int r9 :: _) m9
        refine zs_k hC dX12_readsCondition_165 ?_
        refine zs_ic_eq hC dX12_readsCondition_167 (fun _ hf => ?_) (fun _ hf => ?_) hf
        · exact zAW.weak (wX12_readsCondition_180 hC hret hk40 hf) (zLw_s zLw_0)
        · refine zs_al hC dX12_readsCondition_170 rfl ?_
          refine zs_k hC dX12_readsCondition_171 ?_
          refine zs_al hC dX12_readsCondition_172 rfl ?_
          refine zs_getI hC fl_RX12_113 zL60 rfl dX12_readsCondition_173 ?_
          refine zs_callV [.int (nI 1), .int (m9 60 10)] hC cw_X12_wrongAt cl_RX12_126 zL60 rfl (by decide) rfl rfl (Nat.le_of_ble_eq_true rfl) dX12_readsCondition_176 (fun _ h => ctX12_wrongAt h) (fun r11 m11 _ hf => ?_) hf
          show zAW X 179 _ (.int r11 :: _) m11
          exact zs_zret hC hret dX12_readsCondition_179 hf
set_option maxRecDepth 20000 in
set_option maxHeartbeats 4000000 in
theorem wX12_readsCondition_40 {X : zX} {F : Nat} (hC : zCx X RX12 cX12_readsCondition 1 6) (hret : zRt X (some .boolean)) : ∀ (n : Nat) (μ : zMem), fX12_readsCondition_40 F n μ = some (zOut X) → zAW X 40 [some (.ref 60)] [] μ := by
  intro n
  induction n with
  | zero =>
    intro μ hf
    rw [fX12_readsCondition_40] at hf
    cases hf
  | succ n ih =>
    intro μ hf
    rw [fX12_readsCondition_40] at hf
    refine zs_al hC dX12_readsCondition_40 rfl ?_
    refine zs_callV [] hC cw_X12_here cl_RX12_119 zL60 rfl (by decide) rfl rfl (Nat.le_of_ble_eq_true rfl) dX12_readsCondition_41 (fun _ h => ctX12_here h) (fun r1 m1 _ hf => ?_) hf
    show zAW X 44 _ (.int r1 :: _) m1
    refine zs_k hC dX12_readsCondition_44 ?_
    refine zs_ic_eq hC dX12_readsCondition_46 (fun _ hf => ?_) (fun _ hf => ?_) hf
    · exact zAW.weak (wX12_readsCondition_58 hC hret (ih) hf) (zLw_s zLw_0)
    · refine zs_al hC dX12_readsCondition_49 rfl ?_
      refine zs_callV [] hC cw_X12_here cl_RX12_119 zL60 rfl (by decide) rfl rfl (Nat.le_of_ble_eq_true rfl) dX12_readsCondition_50 (fun _ h => ctX12_here h) (fun r2 m2 _ hf => ?_) hf
      show zAW X 53 _ (.int r2 :: _) m2
      refine zs_k hC dX12_readsCondition_53 ?_
      refine zs_ic_ne hC dX12_readsCondition_55 (fun _ hf => ?_) (fun _ hf => ?_) hf
      · exact zAW.weak (wX12_readsCondition_58 hC hret (ih) hf) (zLw_s zLw_0)
      · refine zs_al hC dX12_readsCondition_83 rfl ?_
        refine zs_callV [] hC cw_X12_readsCompared cl_RX12_183 zL60 rfl (by decide) rfl rfl (Nat.le_of_ble_eq_true rfl) dX12_readsCondition_84 (fun _ h => ctX12_readsCompared h) (fun r3 m3 _ hf => ?_) hf
        show zAW X 87 _ (.int r3 :: _) m3
        refine zs_if_ne hC dX12_readsCondition_87 (fun _ hf => ?_) (fun _ hf => ?_) hf
        · refine zs_k hC dX12_readsCondition_90 ?_
          exact zs_zretK hC hret dX12_readsCondition_91 (by decide) hf
        · exact zAW.weak (wX12_readsCondition_92 hC hret (ih) F _ hf) (zLw_s zLw_0)
set_option maxRecDepth 20000 in
set_option maxHeartbeats 4000000 in
theorem wX12_readsCondition {X : zX} {F : Nat} (hC : zCx X RX12 cX12_readsCondition 1 6) (hret : zRt X (some .boolean)) {μ : zMem} (hf : fX12_readsCondition F μ = some (zOut X)) : zAW X 0 [some (.ref 60)] [] μ := by
  unfold fX12_readsCondition at hf
  refine zs_al hC dX12_readsCondition_0 rfl ?_
  refine zs_callV [] hC cw_X12_here cl_RX12_119 zL60 rfl (by decide) rfl rfl (Nat.le_of_ble_eq_true rfl) dX12_readsCondition_1 (fun _ h => ctX12_here h) (fun r1 m1 _ hf => ?_) hf
  show zAW X 4 _ (.int r1 :: _) m1
  refine zs_k hC dX12_readsCondition_4 ?_
  refine zs_ic_eq hC dX12_readsCondition_6 (fun _ hf => ?_) (fun _ hf => ?_) hf
  · refine zs_al hC dX12_readsCondition_19 rfl ?_
    refine zs_k hC dX12_readsCondition_20 ?_
    refine zs_putI hC fl_RX12_141 fp_12_14 zL60 rfl dX12_readsCondition_21 ?_
    refine zs_al hC dX12_readsCondition_24 rfl ?_
    refine zs_k hC dX12_readsCondition_25 ?_
    refine zs_putI hC fl_RX12_144 fp_12_16 zL60 rfl dX12_readsCondition_26 ?_
    refine zs_al hC dX12_readsCondition_29 rfl ?_
    refine zs_k hC dX12_readsCondition_30 ?_
    refine zs_callV [.int (nI 13)] hC cw_X12_opens cl_RX12_154 zL60 rfl (by decide) rfl rfl (Nat.le_of_ble_eq_true rfl) dX12_readsCondition_32 (fun _ h => ctX12_opens h) (fun r2 m2 _ hf => ?_) hf
    show zAW X 35 _ (.int r2 :: _) m2
    refine zs_if_ne hC dX12_readsCondition_35 (fun _ hf => ?_) (fun _ hf => ?_) hf
    · refine zs_k hC dX12_readsCondition_38 ?_
      exact zs_zretK hC hret dX12_readsCondition_39 (by decide) hf
    · exact zAW.weak (wX12_readsCondition_40 hC hret F _ hf) (zLw_s zLw_0)
  · refine zs_al hC dX12_readsCondition_9 rfl ?_
    refine zs_k hC dX12_readsCondition_10 ?_
    refine zs_al hC dX12_readsCondition_11 rfl ?_
    refine zs_getI hC fl_RX12_113 zL60 rfl dX12_readsCondition_12 ?_
    refine zs_callV [.int (nI 1), .int (m1 60 10)] hC cw_X12_wrongAt cl_RX12_126 zL60 rfl (by decide) rfl rfl (Nat.le_of_ble_eq_true rfl) dX12_readsCondition_15 (fun _ h => ctX12_wrongAt h) (fun r4 m4 _ hf => ?_) hf
    show zAW X 18 _ (.int r4 :: _) m4
    exact zs_zret hC hret dX12_readsCondition_18 hf
set_option maxRecDepth 20000 in
set_option maxHeartbeats 4000000 in
theorem ctX12_readsCondition {E : zEV} {F : Nat} {μ : zMem} {out : zR} (hf : fX12_readsCondition F μ = some out) : zCt E yX12_readsCondition cX12_readsCondition 1 (some .boolean) 6 [.ref 60] μ out :=
  zCt.of [some (.ref 60)] (by decide +kernel) (Nat.le_of_ble_eq_true rfl) (zLw_s zLw_0) rfl (fun X hE ho hr hC => by
    subst hE; subst ho
    exact wX12_readsCondition hC hr hf)
/-! X12_readsRule -/
def fX12_readsRule_116 (F : Nat) (μ : zMem) : Option zR :=
  zG (μ 60 17) 16 (zBd (fX12_readsCondition F (zUp μ 73 (μ 60 17).toNatClampNeg (μ 60 15))) (fun r4 m4 => if r4 = 0 then some ((nI 0), m4) else zG (m4 60 17) 16 (some ((nI 1), (zUp (zUp m4 74 (m4 60 17).toNatClampNeg (m4 60 15)) 60 17 (((zUp m4 74 (m4 60 17).toNatClampNeg (m4 60 15)) 60 17) + (nI 1)))))))
def fX12_readsRule_39 (F : Nat) (v1 : Int32) (μ : zMem) : Option zR :=
  if (μ 60 17) = (nI 16) then zBd (fX12_wrongAt F (nI 4) (μ 60 10) μ) (fun r3 m3 => zGb (decide (r3 = 0 ∨ r3 = 1)) (some (r3, m3))) else zG (μ 60 17) 16 (zG ((zUp (zUp μ 71 (μ 60 17).toNatClampNeg v1) 60 10 (((zUp μ 71 (μ 60 17).toNatClampNeg v1) 60 10) + (nI 1))) 60 17) 16 (if v1 = (nI 114) then fX12_readsRule_116 F (zUp (zUp (zUp (zUp (zUp μ 71 (μ 60 17).toNatClampNeg v1) 60 10 (((zUp μ 71 (μ 60 17).toNatClampNeg v1) 60 10) + (nI 1))) 72 ((zUp (zUp μ 71 (μ 60 17).toNatClampNeg v1) 60 10 (((zUp μ 71 (μ 60 17).toNatClampNeg v1) 60 10) + (nI 1))) 60 17).toNatClampNeg ((zUp (zUp μ 71 (μ 60 17).toNatClampNeg v1) 60 10 (((zUp μ 71 (μ 60 17).toNatClampNeg v1) 60 10) + (nI 1))) 60 15)) 60 14 (nI 0)) 60 16 (nI 0)) else zBd (fX12_readsSum F (zUp (zUp (zUp (zUp (zUp μ 71 (μ 60 17).toNatClampNeg v1) 60 10 (((zUp μ 71 (μ 60 17).toNatClampNeg v1) 60 10) + (nI 1))) 72 ((zUp (zUp μ 71 (μ 60 17).toNatClampNeg v1) 60 10 (((zUp μ 71 (μ 60 17).toNatClampNeg v1) 60 10) + (nI 1))) 60 17).toNatClampNeg ((zUp (zUp μ 71 (μ 60 17).toNatClampNeg v1) 60 10 (((zUp μ 71 (μ 60 17).toNatClampNeg v1) 60 10) + (nI 1))) 60 15)) 60 14 (nI 0)) 60 16 (nI 0))) (fun r10 m10 => if r10 = 0 then some ((nI 0), m10) else fX12_readsRule_116 F m10)))
def fX12_readsRule (F : Nat) (μ : zMem) : Option zR :=
  zBd (fX12_here F μ) (fun r1 m1 => if r1 = (nI 101) then fX12_readsRule_39 F r1 m1 else if r1 = (nI 104) then fX12_readsRule_39 F r1 m1 else if r1 = (nI 109) then fX12_readsRule_39 F r1 m1 else if r1 = (nI 114) then fX12_readsRule_39 F r1 m1 else zBd (fX12_wrongAt F (nI 1) (m1 60 10) m1) (fun r3 m3 => zGb (decide (r3 = 0 ∨ r3 = 1)) (some (r3, m3))))
set_option maxRecDepth 20000 in
set_option maxHeartbeats 4000000 in
theorem wX12_readsRule_116 {X : zX} {F : Nat} (hC : zCx X RX12 cX12_readsRule 2 7) (hret : zRt X (some .boolean)) {μ : zMem} (hf : fX12_readsRule_116 F μ = some (zOut X)) : zAW X 116 [some (.ref 60), none] [] μ := by
  unfold fX12_readsRule_116 at hf
  refine zs_al hC dX12_readsRule_116 rfl ?_
  refine zs_getR 73 hC fl_RX12_47 zL60 rfl dX12_readsRule_117 ?_
  refine zs_al hC dX12_readsRule_120 rfl ?_
  refine zs_getI hC fl_RX12_192 zL60 rfl dX12_readsRule_121 ?_
  refine zs_al hC dX12_readsRule_124 rfl ?_
  refine zs_getI hC fl_RX12_137 zL60 rfl dX12_readsRule_125 ?_
  refine zs_iast hC zL73 dX12_readsRule_128 (fun _ hf => ?_) hf
  refine zs_al hC dX12_readsRule_129 rfl ?_
  refine zs_callV [] hC cw_X12_readsCondition cl_RX12_195 zL60 rfl (by decide) rfl rfl (Nat.le_of_ble_eq_true rfl) dX12_readsRule_130 (fun _ h => ctX12_readsCondition h) (fun r4 m4 _ hf => ?_) hf
  show zAW X 133 _ (.int r4 :: _) m4
  refine zs_if_ne hC dX12_readsRule_133 (fun _ hf => ?_) (fun _ hf => ?_) hf
  · refine zs_k hC dX12_readsRule_136 ?_
    exact zs_zretK hC hret dX12_readsRule_137 (by decide) hf
  · refine zs_al hC dX12_readsRule_138 rfl ?_
    refine zs_getR 74 hC fl_RX12_50 zL60 rfl dX12_readsRule_139 ?_
    refine zs_al hC dX12_readsRule_142 rfl ?_
    refine zs_getI hC fl_RX12_192 zL60 rfl dX12_readsRule_143 ?_
    refine zs_al hC dX12_readsRule_146 rfl ?_
    refine zs_getI hC fl_RX12_137 zL60 rfl dX12_readsRule_147 ?_
    refine zs_iast hC zL74 dX12_readsRule_150 (fun _ hf => ?_) hf
    refine zs_al hC dX12_readsRule_151 rfl ?_
    refine zs_al hC dX12_readsRule_152 rfl ?_
    refine zs_getI hC fl_RX12_192 zL60 rfl dX12_readsRule_153 ?_
    refine zs_k hC dX12_readsRule_156 ?_
    refine zs_iadd hC dX12_readsRule_157 ?_
    refine zs_putI hC fl_RX12_192 fp_12_17 zL60 rfl dX12_readsRule_158 ?_
    refine zs_k hC dX12_readsRule_161 ?_
    exact zs_zretK hC hret dX12_readsRule_162 (by decide) hf
set_option maxRecDepth 20000 in
set_option maxHeartbeats 4000000 in
theorem wX12_readsRule_39 {X : zX} {F : Nat} (hC : zCx X RX12 cX12_readsRule 2 7) (hret : zRt X (some .boolean)) {v1 : Int32} {μ : zMem} (hf : fX12_readsRule_39 F v1 μ = some (zOut X)) : zAW X 39 [some (.ref 60), some (.int v1)] [] μ := by
  unfold fX12_readsRule_39 at hf
  refine zs_al hC dX12_readsRule_39 rfl ?_
  refine zs_getI hC fl_RX12_192 zL60 rfl dX12_readsRule_40 ?_
  refine zs_k hC dX12_readsRule_43 ?_
  refine zs_ic_ne hC dX12_readsRule_45 (fun _ hf => ?_) (fun _ hf => ?_) hf
  · refine zs_al hC dX12_readsRule_48 rfl ?_
    refine zs_k hC dX12_readsRule_49 ?_
    refine zs_al hC dX12_readsRule_50 rfl ?_
    refine zs_getI hC fl_RX12_113 zL60 rfl dX12_readsRule_51 ?_
    refine zs_callV [.int (nI 4), .int (μ 60 10)] hC cw_X12_wrongAt cl_RX12_126 zL60 rfl (by decide) rfl rfl (Nat.le_of_ble_eq_true rfl) dX12_readsRule_54 (fun _ h => ctX12_wrongAt h) (fun r3 m3 _ hf => ?_) hf
    show zAW X 57 _ (.int r3 :: _) m3
    exact zs_zret hC hret dX12_readsRule_57 hf
  · refine zs_al hC dX12_readsRule_58 rfl ?_
    refine zs_getR 71 hC fl_RX12_41 zL60 rfl dX12_readsRule_59 ?_
    refine zs_al hC dX12_readsRule_62 rfl ?_
    refine zs_getI hC fl_RX12_192 zL60 rfl dX12_readsRule_63 ?_
    refine zs_il hC dX12_readsRule_66 rfl ?_
    refine zs_iast hC zL71 dX12_readsRule_67 (fun _ hf => ?_) hf
    refine zs_al hC dX12_readsRule_68 rfl ?_
    refine zs_al hC dX12_readsRule_69 rfl ?_
    refine zs_getI hC fl_RX12_113 zL60 rfl dX12_readsRule_70 ?_
    refine zs_k hC dX12_readsRule_73 ?_
    refine zs_iadd hC dX12_readsRule_74 ?_
    refine zs_putI hC fl_RX12_113 fp_12_10 zL60 rfl dX12_readsRule_75 ?_
    refine zs_al hC dX12_readsRule_78 rfl ?_
    refine zs_getR 72 hC fl_RX12_44 zL60 rfl dX12_readsRule_79 ?_
    refine zs_al hC dX12_readsRule_82 rfl ?_
    refine zs_getI hC fl_RX12_192 zL60 rfl dX12_readsRule_83 ?_
    refine zs_al hC dX12_readsRule_86 rfl ?_
    refine zs_getI hC fl_RX12_137 zL60 rfl dX12_readsRule_87 ?_
    refine zs_iast hC zL72 dX12_readsRule_90 (fun _ hf => ?_) hf
    refine zs_al hC dX12_readsRule_91 rfl ?_
    refine zs_k hC dX12_readsRule_92 ?_
    refine zs_putI hC fl_RX12_141 fp_12_14 zL60 rfl dX12_readsRule_93 ?_
    refine zs_al hC dX12_readsRule_96 rfl ?_
    refine zs_k hC dX12_readsRule_97 ?_
    refine zs_putI hC fl_RX12_144 fp_12_16 zL60 rfl dX12_readsRule_98 ?_
    refine zs_il hC dX12_readsRule_101 rfl ?_
    refine zs_k hC dX12_readsRule_102 ?_
    refine zs_ic_eq hC dX12_readsRule_104 (fun _ hf => ?_) (fun _ hf => ?_) hf
    · exact zAW.weak (wX12_readsRule_116 hC hret hf) (zLw_s (zLw_n zLw_0))
    · refine zs_al hC dX12_readsRule_107 rfl ?_
      refine zs_callV [] hC cw_X12_readsSum cl_RX12_177 zL60 rfl (by decide) rfl rfl (Nat.le_of_ble_eq_true rfl) dX12_readsRule_108 (fun _ h => ctX12_readsSum h) (fun r10 m10 _ hf => ?_) hf
      show zAW X 111 _ (.int r10 :: _) m10
      refine zs_if_ne hC dX12_readsRule_111 (fun _ hf => ?_) (fun _ hf => ?_) hf
      · refine zs_k hC dX12_readsRule_114 ?_
        exact zs_zretK hC hret dX12_readsRule_115 (by decide) hf
      · exact zAW.weak (wX12_readsRule_116 hC hret hf) (zLw_s (zLw_n zLw_0))
set_option maxRecDepth 20000 in
set_option maxHeartbeats 4000000 in
theorem wX12_readsRule {X : zX} {F : Nat} (hC : zCx X RX12 cX12_readsRule 2 7) (hret : zRt X (some .boolean)) {μ : zMem} (hf : fX12_readsRule F μ = some (zOut X)) : zAW X 0 [some (.ref 60), none] [] μ := by
  unfold fX12_readsRule at hf
  refine zs_al hC dX12_readsRule_0 rfl ?_
  refine zs_callV [] hC cw_X12_here cl_RX12_119 zL60 rfl (by decide) rfl rfl (Nat.le_of_ble_eq_true rfl) dX12_readsRule_1 (fun _ h => ctX12_here h) (fun r1 m1 _ hf => ?_) hf
  show zAW X 4 _ (.int r1 :: _) m1
  refine zs_is hC dX12_readsRule_4 (by decide) rfl ?_
  refine zs_il hC dX12_readsRule_5 rfl ?_
  refine zs_k hC dX12_readsRule_6 ?_
  refine zs_ic_eq hC dX12_readsRule_8 (fun _ hf => ?_) (fun _ hf => ?_) hf
  · exact zAW.weak (wX12_readsRule_39 hC hret hf) (zLw_s (zLw_s zLw_0))
  · refine zs_il hC dX12_readsRule_11 rfl ?_
    refine zs_k hC dX12_readsRule_12 ?_
    refine zs_ic_eq hC dX12_readsRule_14 (fun _ hf => ?_) (fun _ hf => ?_) hf
    · exact zAW.weak (wX12_readsRule_39 hC hret hf) (zLw_s (zLw_s zLw_0))
    · refine zs_il hC dX12_readsRule_17 rfl ?_
      refine zs_k hC dX12_readsRule_18 ?_
      refine zs_ic_eq hC dX12_readsRule_20 (fun _ hf => ?_) (fun _ hf => ?_) hf
      · exact zAW.weak (wX12_readsRule_39 hC hret hf) (zLw_s (zLw_s zLw_0))
      · refine zs_il hC dX12_readsRule_23 rfl ?_
        refine zs_k hC dX12_readsRule_24 ?_
        refine zs_ic_eq hC dX12_readsRule_26 (fun _ hf => ?_) (fun _ hf => ?_) hf
        · exact zAW.weak (wX12_readsRule_39 hC hret hf) (zLw_s (zLw_s zLw_0))
        · refine zs_al hC dX12_readsRule_29 rfl ?_
          refine zs_k hC dX12_readsRule_30 ?_
          refine zs_al hC dX12_readsRule_31 rfl ?_
          refine zs_getI hC fl_RX12_113 zL60 rfl dX12_readsRule_32 ?_
          refine zs_callV [.int (nI 1), .int (m1 60 10)] hC cw_X12_wrongAt cl_RX12_126 zL60 rfl (by decide) rfl rfl (Nat.le_of_ble_eq_true rfl) dX12_readsRule_35 (fun _ h => ctX12_wrongAt h) (fun r3 m3 _ hf => ?_) hf
          show zAW X 38 _ (.int r3 :: _) m3
          exact zs_zret hC hret dX12_readsRule_38 hf
set_option maxRecDepth 20000 in
set_option maxHeartbeats 4000000 in
theorem ctX12_readsRule {E : zEV} {F : Nat} {μ : zMem} {out : zR} (hf : fX12_readsRule F μ = some out) : zCt E yX12_readsRule cX12_readsRule 2 (some .boolean) 7 [.ref 60] μ out :=
  zCt.of [some (.ref 60), none] (by decide +kernel) (Nat.le_of_ble_eq_true rfl) (zLw_s (zLw_e zLw_0)) rfl (fun X hE ho hr hC => by
    subst hE; subst ho
    exact wX12_readsRule hC hr hf)
/-! X12_beginsText -/
def fX12_beginsText (F : Nat) (v1 : Int32) (μ : zMem) : Option zR :=
  some ((nI 0), (zUp (zUp (zUp (zUp μ 60 10 (nI 0)) 60 11 v1) 60 15 (nI 0)) 60 17 (nI 0)))
set_option maxRecDepth 20000 in
set_option maxHeartbeats 4000000 in
theorem wX12_beginsText {X : zX} {F : Nat} (hC : zCx X RX12 cX12_beginsText 2 0) (hret : zRt X none) {v1 : Int32} {μ : zMem} (hf : fX12_beginsText F v1 μ = some (zOut X)) : zAW X 0 [some (.ref 60), some (.int v1)] [] μ := by
  unfold fX12_beginsText at hf
  refine zs_al hC dX12_beginsText_0 rfl ?_
  refine zs_k hC dX12_beginsText_1 ?_
  refine zs_putI hC fl_RX12_113 fp_12_10 zL60 rfl dX12_beginsText_2 ?_
  refine zs_al hC dX12_beginsText_5 rfl ?_
  refine zs_il hC dX12_beginsText_6 rfl ?_
  refine zs_putI hC fl_RX12_116 fp_12_11 zL60 rfl dX12_beginsText_7 ?_
  refine zs_al hC dX12_beginsText_10 rfl ?_
  refine zs_k hC dX12_beginsText_11 ?_
  refine zs_putI hC fl_RX12_137 fp_12_15 zL60 rfl dX12_beginsText_12 ?_
  refine zs_al hC dX12_beginsText_15 rfl ?_
  refine zs_k hC dX12_beginsText_16 ?_
  refine zs_putI hC fl_RX12_192 fp_12_17 zL60 rfl dX12_beginsText_17 ?_
  exact zs_vret hC hret dX12_beginsText_20 hf
set_option maxRecDepth 20000 in
set_option maxHeartbeats 4000000 in
theorem ctX12_beginsText {E : zEV} {F : Nat} {v1 : Int32} {μ : zMem} {out : zR} (hf : fX12_beginsText F v1 μ = some out) : zCt E yX12_beginsText cX12_beginsText 2 none 0 [.ref 60, .int v1] μ out :=
  zCt.of [some (.ref 60), some (.int v1)] (by decide +kernel) (Nat.le_of_ble_eq_true rfl) (zLw_s (zLw_s zLw_0)) rfl (fun X hE ho hr hC => by
    subst hE; subst ho
    exact wX12_beginsText hC hr hf)
/-! X12_law -/
def fX12_law_123 (F : Nat) : Nat → Int32 → zMem → Option zR
  | 0, _, _ => none
  | n + 1, v3, μ => if (μ 60 17) ≤ v3 then some ((μ 60 17), μ) else zG v3 16 (zG v3 16 (zG v3 16 (zG v3 16 (zG v3 16 (zG v3 16 (zG v3 16 (zG v3 16 (fX12_law_123 F n (v3 + (nI 1)) (zUp (zUp (zUp (zUp μ 76 v3.toNatClampNeg (μ 71 v3.toNatClampNeg)) 77 v3.toNatClampNeg ((zUp μ 76 v3.toNatClampNeg (μ 71 v3.toNatClampNeg)) 72 v3.toNatClampNeg)) 78 v3.toNatClampNeg ((zUp (zUp μ 76 v3.toNatClampNeg (μ 71 v3.toNatClampNeg)) 77 v3.toNatClampNeg ((zUp μ 76 v3.toNatClampNeg (μ 71 v3.toNatClampNeg)) 72 v3.toNatClampNeg)) 73 v3.toNatClampNeg)) 79 v3.toNatClampNeg ((zUp (zUp (zUp μ 76 v3.toNatClampNeg (μ 71 v3.toNatClampNeg)) 77 v3.toNatClampNeg ((zUp μ 76 v3.toNatClampNeg (μ 71 v3.toNatClampNeg)) 72 v3.toNatClampNeg)) 78 v3.toNatClampNeg ((zUp (zUp μ 76 v3.toNatClampNeg (μ 71 v3.toNatClampNeg)) 77 v3.toNatClampNeg ((zUp μ 76 v3.toNatClampNeg (μ 71 v3.toNatClampNeg)) 72 v3.toNatClampNeg)) 73 v3.toNatClampNeg)) 74 v3.toNatClampNeg))))))))))
def fX12_law_95 (F : Nat) : Nat → Int32 → zMem → Option zR
  | 0, _, _ => none
  | n + 1, v3, μ => if (μ 60 15) ≤ v3 then fX12_law_123 F F (nI 0) μ else zG v3 260 (zG v3 260 (fX12_law_95 F n (v3 + (nI 1)) (zUp μ 75 v3.toNatClampNeg (μ 69 v3.toNatClampNeg))))
def fX12_law_71 (F : Nat) (v2 : Int32) (μ : zMem) : Option zR :=
  if v2 = 0 then some (((zUp μ 60 9 (nI 0)) 60 12), (zUp μ 60 9 (nI 0))) else fX12_law_95 F F (nI 0) (zUp (zUp μ 60 9 (nI 0)) 60 18 ((zUp μ 60 9 (nI 0)) 60 17))
def fX12_law_31 (F : Nat) : Nat → Int32 → zMem → Option zR
  | 0, _, _ => none
  | n + 1, v2, μ => if v2 = 0 then fX12_law_71 F v2 μ else if (μ 60 11) ≤ (μ 60 10) then fX12_law_71 F v2 μ else zBd (fX12_takes F (nI 59) μ) (fun r3 m3 => if r3 = 0 then fX12_law_31 F n (nI 0) m3 else zBd (fX12_readsRule F m3) (fun r4 m4 => if r4 = 0 then fX12_law_31 F n (nI 0) m4 else fX12_law_31 F n (nI 1) m4))
def fX12_law (F : Nat) (v1 : Int32) (μ : zMem) : Option zR :=
  zBd (fX12_in F v1 (nI 1) (nI 240) μ) (fun r1 m1 => if r1 = 0 then some ((-1 : Int32), m1) else if v1 ≤ (m1 60 9) then zBd (fX12_beginsText F v1 m1) (fun r3 m3 => zBd (fX12_readsRule F m3) (fun r4 m4 => fX12_law_31 F F r4 m4)) else some ((-1 : Int32), m1))
set_option maxRecDepth 20000 in
set_option maxHeartbeats 4000000 in
theorem wX12_law_123 {X : zX} {F : Nat} (hC : zCx X RX12 cX12_law 4 8) (hret : zRt X (some .int)) : ∀ (n : Nat) (v3 : Int32) (μ : zMem), fX12_law_123 F n v3 μ = some (zOut X) → zAW X 123 [some (.ref 60), none, none, some (.int v3)] [] μ := by
  intro n
  induction n with
  | zero =>
    intro v3 μ hf
    rw [fX12_law_123] at hf
    cases hf
  | succ n ih =>
    intro v3 μ hf
    rw [fX12_law_123] at hf
    refine zs_il hC dX12_law_123 rfl ?_
    refine zs_al hC dX12_law_124 rfl ?_
    refine zs_getI hC fl_RX12_192 zL60 rfl dX12_law_125 ?_
    refine zs_ic_ge hC dX12_law_128 (fun _ hf => ?_) (fun _ hf => ?_) hf
    · refine zs_al hC dX12_law_185 rfl ?_
      refine zs_getI hC fl_RX12_192 zL60 rfl dX12_law_186 ?_
      exact zs_iret hC hret dX12_law_189 hf
    · refine zs_al hC dX12_law_131 rfl ?_
      refine zs_getR 76 hC fl_RX12_56 zL60 rfl dX12_law_132 ?_
      refine zs_il hC dX12_law_135 rfl ?_
      refine zs_al hC dX12_law_136 rfl ?_
      refine zs_getR 71 hC fl_RX12_41 zL60 rfl dX12_law_137 ?_
      refine zs_il hC dX12_law_140 rfl ?_
      refine zs_iald hC zL71 dX12_law_141 (fun _ hf => ?_) hf
      refine zs_iast hC zL76 dX12_law_142 (fun _ hf => ?_) hf
      refine zs_al hC dX12_law_143 rfl ?_
      refine zs_getR 77 hC fl_RX12_59 zL60 rfl dX12_law_144 ?_
      refine zs_il hC dX12_law_147 rfl ?_
      refine zs_al hC dX12_law_148 rfl ?_
      refine zs_getR 72 hC fl_RX12_44 zL60 rfl dX12_law_149 ?_
      refine zs_il hC dX12_law_152 rfl ?_
      refine zs_iald hC zL72 dX12_law_153 (fun _ hf => ?_) hf
      refine zs_iast hC zL77 dX12_law_154 (fun _ hf => ?_) hf
      refine zs_al hC dX12_law_155 rfl ?_
      refine zs_getR 78 hC fl_RX12_62 zL60 rfl dX12_law_156 ?_
      refine zs_il hC dX12_law_159 rfl ?_
      refine zs_al hC dX12_law_160 rfl ?_
      refine zs_getR 73 hC fl_RX12_47 zL60 rfl dX12_law_161 ?_
      refine zs_il hC dX12_law_164 rfl ?_
      refine zs_iald hC zL73 dX12_law_165 (fun _ hf => ?_) hf
      refine zs_iast hC zL78 dX12_law_166 (fun _ hf => ?_) hf
      refine zs_al hC dX12_law_167 rfl ?_
      refine zs_getR 79 hC fl_RX12_65 zL60 rfl dX12_law_168 ?_
      refine zs_il hC dX12_law_171 rfl ?_
      refine zs_al hC dX12_law_172 rfl ?_
      refine zs_getR 74 hC fl_RX12_50 zL60 rfl dX12_law_173 ?_
      refine zs_il hC dX12_law_176 rfl ?_
      refine zs_iald hC zL74 dX12_law_177 (fun _ hf => ?_) hf
      refine zs_iast hC zL79 dX12_law_178 (fun _ hf => ?_) hf
      refine zs_iinc (nI 1) hC dX12_law_179 (by decide) rfl (by decide) rfl ?_
      refine zs_goto hC dX12_law_182 ?_
      exact zAW.weak (ih _ _ hf) (zLw_s (zLw_n (zLw_n (zLw_s zLw_0))))
set_option maxRecDepth 20000 in
set_option maxHeartbeats 4000000 in
theorem wX12_law_95 {X : zX} {F : Nat} (hC : zCx X RX12 cX12_law 4 8) (hret : zRt X (some .int)) : ∀ (n : Nat) (v3 : Int32) (μ : zMem), fX12_law_95 F n v3 μ = some (zOut X) → zAW X 95 [some (.ref 60), none, none, some (.int v3)] [] μ := by
  intro n
  induction n with
  | zero =>
    intro v3 μ hf
    rw [fX12_law_95] at hf
    cases hf
  | succ n ih =>
    intro v3 μ hf
    rw [fX12_law_95] at hf
    refine zs_il hC dX12_law_95 rfl ?_
    refine zs_al hC dX12_law_96 rfl ?_
    refine zs_getI hC fl_RX12_137 zL60 rfl dX12_law_97 ?_
    refine zs_ic_ge hC dX12_law_100 (fun _ hf => ?_) (fun _ hf => ?_) hf
    · refine zs_k hC dX12_law_121 ?_
      refine zs_is hC dX12_law_122 (by decide) rfl ?_
      exact zAW.weak (wX12_law_123 hC hret F _ _ hf) (zLw_s (zLw_n (zLw_n (zLw_s zLw_0))))
    · refine zs_al hC dX12_law_103 rfl ?_
      refine zs_getR 75 hC fl_RX12_53 zL60 rfl dX12_law_104 ?_
      refine zs_il hC dX12_law_107 rfl ?_
      refine zs_al hC dX12_law_108 rfl ?_
      refine zs_getR 69 hC fl_RX12_35 zL60 rfl dX12_law_109 ?_
      refine zs_il hC dX12_law_112 rfl ?_
      refine zs_iald hC zL69 dX12_law_113 (fun _ hf => ?_) hf
      refine zs_iast hC zL75 dX12_law_114 (fun _ hf => ?_) hf
      refine zs_iinc (nI 1) hC dX12_law_115 (by decide) rfl (by decide) rfl ?_
      refine zs_goto hC dX12_law_118 ?_
      exact zAW.weak (ih _ _ hf) (zLw_s (zLw_n (zLw_n (zLw_s zLw_0))))
set_option maxRecDepth 20000 in
set_option maxHeartbeats 4000000 in
theorem wX12_law_71 {X : zX} {F : Nat} (hC : zCx X RX12 cX12_law 4 8) (hret : zRt X (some .int)) {v2 : Int32} {μ : zMem} (hf : fX12_law_71 F v2 μ = some (zOut X)) : zAW X 71 [some (.ref 60), none, some (.int v2), none] [] μ := by
  unfold fX12_law_71 at hf
  refine zs_al hC dX12_law_71 rfl ?_
  refine zs_k hC dX12_law_72 ?_
  refine zs_putI hC fl_RX12_105 fp_12_9 zL60 rfl dX12_law_73 ?_
  refine zs_il hC dX12_law_76 rfl ?_
  refine zs_if_ne hC dX12_law_77 (fun _ hf => ?_) (fun _ hf => ?_) hf
  · refine zs_al hC dX12_law_80 rfl ?_
    refine zs_getI hC fl_RX12_123 zL60 rfl dX12_law_81 ?_
    exact zs_iret hC hret dX12_law_84 hf
  · refine zs_al hC dX12_law_85 rfl ?_
    refine zs_al hC dX12_law_86 rfl ?_
    refine zs_getI hC fl_RX12_192 zL60 rfl dX12_law_87 ?_
    refine zs_putI hC fl_RX12_207 fp_12_18 zL60 rfl dX12_law_90 ?_
    refine zs_k hC dX12_law_93 ?_
    refine zs_is hC dX12_law_94 (by decide) rfl ?_
    exact zAW.weak (wX12_law_95 hC hret F _ _ hf) (zLw_s (zLw_n (zLw_n (zLw_s zLw_0))))
set_option maxRecDepth 20000 in
set_option maxHeartbeats 4000000 in
theorem wX12_law_31 {X : zX} {F : Nat} (hC : zCx X RX12 cX12_law 4 8) (hret : zRt X (some .int)) : ∀ (n : Nat) (v2 : Int32) (μ : zMem), fX12_law_31 F n v2 μ = some (zOut X) → zAW X 31 [some (.ref 60), none, some (.int v2), none] [] μ := by
  intro n
  induction n with
  | zero =>
    intro v2 μ hf
    rw [fX12_law_31] at hf
    cases hf
  | succ n ih =>
    intro v2 μ hf
    rw [fX12_law_31] at hf
    refine zs_il hC dX12_law_31 rfl ?_
    refine zs_if_eq hC dX12_law_32 (fun _ hf => ?_) (fun _ hf => ?_) hf
    · exact zAW.weak (wX12_law_71 hC hret hf) (zLw_s (zLw_n (zLw_s (zLw_n zLw_0))))
    · refine zs_al hC dX12_law_35 rfl ?_
      refine zs_getI hC fl_RX12_113 zL60 rfl dX12_law_36 ?_
      refine zs_al hC dX12_law_39 rfl ?_
      refine zs_getI hC fl_RX12_116 zL60 rfl dX12_law_40 ?_
      refine zs_ic_ge hC dX12_law_43 (fun _ hf => ?_) (fun _ hf => ?_) hf
      · exact zAW.weak (wX12_law_71 hC hret hf) (zLw_s (zLw_n (zLw_s (zLw_n zLw_0))))
      · refine zs_al hC dX12_law_46 rfl ?_
        refine zs_k hC dX12_law_47 ?_
        refine zs_callV [.int (nI 59)] hC cw_X12_takes cl_RX12_204 zL60 rfl (by decide) rfl rfl (Nat.le_of_ble_eq_true rfl) dX12_law_49 (fun _ h => ctX12_takes h) (fun r3 m3 _ hf => ?_) hf
        show zAW X 52 _ (.int r3 :: _) m3
        refine zs_if_eq hC dX12_law_52 (fun _ hf => ?_) (fun _ hf => ?_) hf
        · refine zs_k hC dX12_law_66 ?_
          refine zs_is hC dX12_law_67 (by decide) rfl ?_
          refine zs_goto hC dX12_law_68 ?_
          exact zAW.weak (ih _ _ hf) (zLw_s (zLw_n (zLw_s (zLw_n zLw_0))))
        · refine zs_al hC dX12_law_55 rfl ?_
          refine zs_callV [] hC cw_X12_readsRule cl_RX12_201 zL60 rfl (by decide) rfl rfl (Nat.le_of_ble_eq_true rfl) dX12_law_56 (fun _ h => ctX12_readsRule h) (fun r4 m4 _ hf => ?_) hf
          show zAW X 59 _ (.int r4 :: _) m4
          refine zs_if_eq hC dX12_law_59 (fun _ hf => ?_) (fun _ hf => ?_) hf
          · refine zs_k hC dX12_law_66 ?_
            refine zs_is hC dX12_law_67 (by decide) rfl ?_
            refine zs_goto hC dX12_law_68 ?_
            exact zAW.weak (ih _ _ hf) (zLw_s (zLw_n (zLw_s (zLw_n zLw_0))))
          · refine zs_k hC dX12_law_62 ?_
            refine zs_goto hC dX12_law_63 ?_
            refine zs_is hC dX12_law_67 (by decide) rfl ?_
            refine zs_goto hC dX12_law_68 ?_
            exact zAW.weak (ih _ _ hf) (zLw_s (zLw_n (zLw_s (zLw_n zLw_0))))
set_option maxRecDepth 20000 in
set_option maxHeartbeats 4000000 in
theorem wX12_law {X : zX} {F : Nat} (hC : zCx X RX12 cX12_law 4 8) (hret : zRt X (some .int)) {v1 : Int32} {μ : zMem} (hf : fX12_law F v1 μ = some (zOut X)) : zAW X 0 [some (.ref 60), some (.int v1), none, none] [] μ := by
  unfold fX12_law at hf
  refine zs_il hC dX12_law_0 rfl ?_
  refine zs_k hC dX12_law_1 ?_
  refine zs_k hC dX12_law_2 ?_
  refine zs_callS [.int v1, .int (nI 1), .int (nI 240)] hC cw_X12_in cl_RX12_96 (by decide) rfl rfl (Nat.le_of_ble_eq_true rfl) dX12_law_5 (fun _ h => ctX12_in h) (fun r1 m1 _ hf => ?_) hf
  show zAW X 8 _ (.int r1 :: _) m1
  refine zs_if_eq hC dX12_law_8 (fun _ hf => ?_) (fun _ hf => ?_) hf
  · refine zs_k hC dX12_law_19 ?_
    exact zs_iret hC hret dX12_law_20 hf
  · refine zs_il hC dX12_law_11 rfl ?_
    refine zs_al hC dX12_law_12 rfl ?_
    refine zs_getI hC fl_RX12_105 zL60 rfl dX12_law_13 ?_
    refine zs_ic_le hC dX12_law_16 (fun _ hf => ?_) (fun _ hf => ?_) hf
    · refine zs_al hC dX12_law_21 rfl ?_
      refine zs_il hC dX12_law_22 rfl ?_
      refine zs_callV [.int v1] hC cw_X12_beginsText cl_RX12_198 zL60 rfl (by decide) rfl rfl (Nat.le_of_ble_eq_true rfl) dX12_law_23 (fun _ h => ctX12_beginsText h) (fun r3 m3 _ hf => ?_) hf
      show zAW X 26 _ _ m3
      refine zs_al hC dX12_law_26 rfl ?_
      refine zs_callV [] hC cw_X12_readsRule cl_RX12_201 zL60 rfl (by decide) rfl rfl (Nat.le_of_ble_eq_true rfl) dX12_law_27 (fun _ h => ctX12_readsRule h) (fun r4 m4 _ hf => ?_) hf
      show zAW X 30 _ (.int r4 :: _) m4
      refine zs_is hC dX12_law_30 (by decide) rfl ?_
      exact zAW.weak (wX12_law_31 hC hret F _ _ hf) (zLw_s (zLw_n (zLw_s (zLw_n zLw_0))))
    · refine zs_k hC dX12_law_19 ?_
      exact zs_iret hC hret dX12_law_20 hf
set_option maxRecDepth 20000 in
set_option maxHeartbeats 4000000 in
theorem ctX12_law {E : zEV} {F : Nat} {v1 : Int32} {μ : zMem} {out : zR} (hf : fX12_law F v1 μ = some out) : zCt E yX12_law cX12_law 4 (some .int) 8 [.ref 60, .int v1] μ out :=
  zCt.of [some (.ref 60), some (.int v1), none, none] (by decide +kernel) (Nat.le_of_ble_eq_true rfl) (zLw_s (zLw_s (zLw_e (zLw_e zLw_0)))) rfl (fun X hE ho hr hC => by
    subst hE; subst ho
    exact wX12_law hC hr hf)
/-! X12_reckon -/
def fX12_reckon (F : Nat) (v0 : Int32) (v1 : Int32) (v2 : Int32) (μ : zMem) : Option zR :=
  (if v0 = (nI 2) then some ((v1 + v2), μ) else if v0 = (nI 3) then some ((v1 - v2), μ) else if v0 = (nI 4) then some ((v1 * v2), μ) else if v0 = (nI 5) then zGz v2 (some ((v1 / v2), μ)) else if v0 = (nI 6) then zGz v2 (some ((v1 % v2), μ)) else if v0 = (nI 7) then if v2 ≤ v1 then some ((nI 0), μ) else some ((nI 1), μ) else if v0 = (nI 8) then if v1 ≤ v2 then some ((nI 0), μ) else some ((nI 1), μ) else if v1 = v2 then some ((nI 1), μ) else some ((nI 0), μ))
set_option maxRecDepth 20000 in
set_option maxHeartbeats 4000000 in
theorem wX12_reckon {X : zX} {F : Nat} (hC : zCx X RX12 cX12_reckon 3 0) (hret : zRt X (some .int)) {v0 : Int32} {v1 : Int32} {v2 : Int32} {μ : zMem} (hf : fX12_reckon F v0 v1 v2 μ = some (zOut X)) : zAW X 0 [some (.int v0), some (.int v1), some (.int v2)] [] μ := by
  unfold fX12_reckon at hf
  refine zs_il hC dX12_reckon_0 rfl ?_
  refine zs_case (nI 2) (fun hx hf => ?_) (fun e1_2 hf => ?_) hf
  · refine zs_tabI (off := 43) (tgt := 44) hC hx dX12_reckon_1 (by decide) (by decide) rfl (by decide) ?_
    refine zs_il hC dX12_reckon_44 rfl ?_
    refine zs_il hC dX12_reckon_45 rfl ?_
    refine zs_iadd hC dX12_reckon_46 ?_
    exact zs_iret hC hret dX12_reckon_47 hf
  refine zs_case (nI 3) (fun hx hf => ?_) (fun e1_3 hf => ?_) hf
  · refine zs_tabI (off := 47) (tgt := 48) hC hx dX12_reckon_1 (by decide) (by decide) rfl (by decide) ?_
    refine zs_il hC dX12_reckon_48 rfl ?_
    refine zs_il hC dX12_reckon_49 rfl ?_
    refine zs_isub hC dX12_reckon_50 ?_
    exact zs_iret hC hret dX12_reckon_51 hf
  refine zs_case (nI 4) (fun hx hf => ?_) (fun e1_4 hf => ?_) hf
  · refine zs_tabI (off := 51) (tgt := 52) hC hx dX12_reckon_1 (by decide) (by decide) rfl (by decide) ?_
    refine zs_il hC dX12_reckon_52 rfl ?_
    refine zs_il hC dX12_reckon_53 rfl ?_
    refine zs_imul hC dX12_reckon_54 ?_
    exact zs_iret hC hret dX12_reckon_55 hf
  refine zs_case (nI 5) (fun hx hf => ?_) (fun e1_5 hf => ?_) hf
  · refine zs_tabI (off := 55) (tgt := 56) hC hx dX12_reckon_1 (by decide) (by decide) rfl (by decide) ?_
    refine zs_il hC dX12_reckon_56 rfl ?_
    refine zs_il hC dX12_reckon_57 rfl ?_
    refine zs_idiv hC dX12_reckon_58 (fun _ hf => ?_) hf
    exact zs_iret hC hret dX12_reckon_59 hf
  refine zs_case (nI 6) (fun hx hf => ?_) (fun e1_6 hf => ?_) hf
  · refine zs_tabI (off := 59) (tgt := 60) hC hx dX12_reckon_1 (by decide) (by decide) rfl (by decide) ?_
    refine zs_il hC dX12_reckon_60 rfl ?_
    refine zs_il hC dX12_reckon_61 rfl ?_
    refine zs_irem hC dX12_reckon_62 (fun _ hf => ?_) hf
    exact zs_iret hC hret dX12_reckon_63 hf
  refine zs_case (nI 7) (fun hx hf => ?_) (fun e1_7 hf => ?_) hf
  · refine zs_tabI (off := 63) (tgt := 64) hC hx dX12_reckon_1 (by decide) (by decide) rfl (by decide) ?_
    refine zs_il hC dX12_reckon_64 rfl ?_
    refine zs_il hC dX12_reckon_65 rfl ?_
    refine zs_ic_ge hC dX12_reckon_66 (fun _ hf => ?_) (fun _ hf => ?_) hf
    · refine zs_k hC dX12_reckon_73 ?_
      exact zs_iret hC hret dX12_reckon_74 hf
    · refine zs_k hC dX12_reckon_69 ?_
      refine zs_goto hC dX12_reckon_70 ?_
      exact zs_iret hC hret dX12_reckon_74 hf
  refine zs_case (nI 8) (fun hx hf => ?_) (fun e1_8 hf => ?_) hf
  · refine zs_tabI (off := 74) (tgt := 75) hC hx dX12_reckon_1 (by decide) (by decide) rfl (by decide) ?_
    refine zs_il hC dX12_reckon_75 rfl ?_
    refine zs_il hC dX12_reckon_76 rfl ?_
    refine zs_ic_le hC dX12_reckon_77 (fun _ hf => ?_) (fun _ hf => ?_) hf
    · refine zs_k hC dX12_reckon_84 ?_
      exact zs_iret hC hret dX12_reckon_85 hf
    · refine zs_k hC dX12_reckon_80 ?_
      refine zs_goto hC dX12_reckon_81 ?_
      exact zs_iret hC hret dX12_reckon_85 hf
  have e1_2 := lv_neT (a := 2) e1_2 (by decide)
  have e1_3 := lv_neT (a := 3) e1_3 (by decide)
  have e1_4 := lv_neT (a := 4) e1_4 (by decide)
  have e1_5 := lv_neT (a := 5) e1_5 (by decide)
  have e1_6 := lv_neT (a := 6) e1_6 (by decide)
  have e1_7 := lv_neT (a := 7) e1_7 (by decide)
  have e1_8 := lv_neT (a := 8) e1_8 (by decide)
  refine zs_tabO (tgt := 86) hC dX12_reckon_1 (by omega) (by decide) ?_
  refine zs_il hC dX12_reckon_86 rfl ?_
  refine zs_il hC dX12_reckon_87 rfl ?_
  refine zs_ic_ne hC dX12_reckon_88 (fun _ hf => ?_) (fun _ hf => ?_) hf
  · refine zs_k hC dX12_reckon_91 ?_
    refine zs_goto hC dX12_reckon_92 ?_
    exact zs_iret hC hret dX12_reckon_96 hf
  · refine zs_k hC dX12_reckon_95 ?_
    exact zs_iret hC hret dX12_reckon_96 hf
set_option maxRecDepth 20000 in
set_option maxHeartbeats 4000000 in
theorem ctX12_reckon {E : zEV} {F : Nat} {v0 : Int32} {v1 : Int32} {v2 : Int32} {μ : zMem} {out : zR} (hf : fX12_reckon F v0 v1 v2 μ = some out) : zCt E yX12_reckon cX12_reckon 3 (some .int) 0 [.int v0, .int v1, .int v2] μ out :=
  zCt.of [some (.int v0), some (.int v1), some (.int v2)] (by decide +kernel) (Nat.le_of_ble_eq_true rfl) (zLw_s (zLw_s (zLw_s zLw_0))) rfl (fun X hE ho hr hC => by
    subst hE; subst ho
    exact wX12_reckon hC hr hf)
/-! X12_reckonsTo -/
def fX12_reckonsTo_63 (F : Nat) (k16 : Int32 → Int32 → Int32 → Int32 → zMem → Option zR) (v2 : Int32) (v3 : Int32) (v4 : Int32) (v5 : Int32) (v6 : Int32) (v7 : Int32) (μ : zMem) : Option zR :=
  if v6 = 0 then zG v3 260 (k16 v2 (v3 + (nI 1)) v4 v5 (zUp μ 80 v3.toNatClampNeg v7)) else zG v7 9 (zG v3 260 (k16 v2 (v3 + (nI 1)) v4 v5 (zUp μ 80 v3.toNatClampNeg (μ 81 v7.toNatClampNeg))))
def fX12_reckonsTo_155 (F : Nat) (k16 : Int32 → Int32 → Int32 → Int32 → zMem → Option zR) (v2 : Int32) (v3 : Int32) (v4 : Int32) (v5 : Int32) (v7 : Int32) (s0 : Int32) (s1 : Int32) (μ : zMem) : Option zR :=
  if s1 = s0 then k16 v2 v3 v4 (v4 + v7) μ else k16 v2 (v3 - (nI 1)) v4 v5 μ
def fX12_reckonsTo_135 (F : Nat) (k16 : Int32 → Int32 → Int32 → Int32 → zMem → Option zR) (v2 : Int32) (v3 : Int32) (v4 : Int32) (v5 : Int32) (v6 : Int32) (v7 : Int32) (μ : zMem) : Option zR :=
  zG (v3 - (nI 1)) 260 (if v6 = (nI 12) then fX12_reckonsTo_155 F k16 v2 v3 v4 v5 v7 (nI 1) (μ 80 (v3 - (nI 1)).toNatClampNeg) μ else fX12_reckonsTo_155 F k16 v2 v3 v4 v5 v7 (nI 0) (μ 80 (v3 - (nI 1)).toNatClampNeg) μ)
def fX12_reckonsTo_203 (F : Nat) (k16 : Int32 → Int32 → Int32 → Int32 → zMem → Option zR) (v2 : Int32) (v3 : Int32) (v4 : Int32) (v5 : Int32) (v6 : Int32) (μ : zMem) : Option zR :=
  zG (v3 - (nI 1)) 260 (zG v3 260 (zBd (fX12_reckon F v6 (μ 80 (v3 - (nI 1)).toNatClampNeg) (μ 80 v3.toNatClampNeg) μ) (fun r4 m4 => zG (v3 - (nI 1)) 260 (k16 v2 v3 v4 v5 (zUp m4 80 (v3 - (nI 1)).toNatClampNeg r4)))))
def fX12_reckonsTo_192 (F : Nat) (k16 : Int32 → Int32 → Int32 → Int32 → zMem → Option zR) (v2 : Int32) (v3 : Int32) (v4 : Int32) (v5 : Int32) (v6 : Int32) (μ : zMem) : Option zR :=
  zG v3 260 (if (μ 80 v3.toNatClampNeg) = 0 then some ((nI 0), μ) else fX12_reckonsTo_203 F k16 v2 v3 v4 v5 v6 μ)
def fX12_reckonsTo_16 (F : Nat) : Nat → Int32 → Int32 → Int32 → Int32 → zMem → Option zR
  | 0, _, _, _, _, _ => none
  | n + 1, v2, v3, v4, v5, μ => if v2 ≤ v5 then zG (nI 0) 260 (some ((μ 80 (nI 0).toNatClampNeg), μ)) else zG v5 260 (zGz (nI 1048576) (zG v5 260 (zGz (nI 1048576) (if ((μ 75 v5.toNatClampNeg) / (nI 1048576)) = 0 then fX12_reckonsTo_63 F (fX12_reckonsTo_16 F n) v2 v3 v4 (v5 + (nI 1)) ((μ 75 v5.toNatClampNeg) / (nI 1048576)) ((μ 75 v5.toNatClampNeg) % (nI 1048576)) μ else if ((μ 75 v5.toNatClampNeg) / (nI 1048576)) = (nI 1) then fX12_reckonsTo_63 F (fX12_reckonsTo_16 F n) v2 v3 v4 (v5 + (nI 1)) ((μ 75 v5.toNatClampNeg) / (nI 1048576)) ((μ 75 v5.toNatClampNeg) % (nI 1048576)) μ else if ((μ 75 v5.toNatClampNeg) / (nI 1048576)) = (nI 10) then zG (v3 - (nI 1)) 260 (zG (v3 - (nI 1)) 260 (fX12_reckonsTo_16 F n v2 v3 v4 (v5 + (nI 1)) (zUp μ 80 (v3 - (nI 1)).toNatClampNeg ((nI 1) - (μ 80 (v3 - (nI 1)).toNatClampNeg))))) else if ((μ 75 v5.toNatClampNeg) / (nI 1048576)) = (nI 11) then fX12_reckonsTo_135 F (fX12_reckonsTo_16 F n) v2 v3 v4 (v5 + (nI 1)) ((μ 75 v5.toNatClampNeg) / (nI 1048576)) ((μ 75 v5.toNatClampNeg) % (nI 1048576)) μ else if ((μ 75 v5.toNatClampNeg) / (nI 1048576)) = (nI 12) then fX12_reckonsTo_135 F (fX12_reckonsTo_16 F n) v2 v3 v4 (v5 + (nI 1)) ((μ 75 v5.toNatClampNeg) / (nI 1048576)) ((μ 75 v5.toNatClampNeg) % (nI 1048576)) μ else if ((μ 75 v5.toNatClampNeg) / (nI 1048576)) = (nI 5) then fX12_reckonsTo_192 F (fX12_reckonsTo_16 F n) v2 (v3 - (nI 1)) v4 (v5 + (nI 1)) ((μ 75 v5.toNatClampNeg) / (nI 1048576)) μ else if ((μ 75 v5.toNatClampNeg) / (nI 1048576)) = (nI 6) then fX12_reckonsTo_192 F (fX12_reckonsTo_16 F n) v2 (v3 - (nI 1)) v4 (v5 + (nI 1)) ((μ 75 v5.toNatClampNeg) / (nI 1048576)) μ else fX12_reckonsTo_203 F (fX12_reckonsTo_16 F n) v2 (v3 - (nI 1)) v4 (v5 + (nI 1)) ((μ 75 v5.toNatClampNeg) / (nI 1048576)) μ))))
def fX12_reckonsTo (F : Nat) (v1 : Int32) (v2 : Int32) (μ : zMem) : Option zR :=
  zGz (nI 260) (fX12_reckonsTo_16 F F v2 (nI 0) ((nI 260) * (v1 / (nI 260))) v1 μ)
set_option maxRecDepth 20000 in
set_option maxHeartbeats 4000000 in
theorem wX12_reckonsTo_63 {X : zX} {F : Nat} (hC : zCx X RX12 cX12_reckonsTo 8 1) (hret : zRt X (some .int)) {k16 : Int32 → Int32 → Int32 → Int32 → zMem → Option zR} (hk16 : ∀ v2 v3 v4 v5 μ, k16 v2 v3 v4 v5 μ = some (zOut X) → zAW X 16 [some (.ref 60), none, some (.int v2), some (.int v3), some (.int v4), some (.int v5), none, none] [] μ) {v2 : Int32} {v3 : Int32} {v4 : Int32} {v5 : Int32} {v6 : Int32} {v7 : Int32} {μ : zMem} (hf : fX12_reckonsTo_63 F k16 v2 v3 v4 v5 v6 v7 μ = some (zOut X)) : zAW X 63 [some (.ref 60), none, some (.int v2), some (.int v3), some (.int v4), some (.int v5), some (.int v6), some (.int v7)] [] μ := by
  unfold fX12_reckonsTo_63 at hf
  refine zs_al hC dX12_reckonsTo_63 rfl ?_
  refine zs_getR 80 hC fl_RX12_68 zL60 rfl dX12_reckonsTo_64 ?_
  refine zs_il hC dX12_reckonsTo_67 rfl ?_
  refine zs_il hC dX12_reckonsTo_68 rfl ?_
  refine zs_if_ne hC dX12_reckonsTo_70 (fun _ hf => ?_) (fun _ hf => ?_) hf
  · refine zs_il hC dX12_reckonsTo_73 rfl ?_
    refine zs_goto hC dX12_reckonsTo_75 ?_
    refine zs_iast hC zL80 dX12_reckonsTo_85 (fun _ hf => ?_) hf
    refine zs_il hC dX12_reckonsTo_86 rfl ?_
    refine zs_k hC dX12_reckonsTo_87 ?_
    refine zs_iadd hC dX12_reckonsTo_88 ?_
    refine zs_is hC dX12_reckonsTo_89 (by decide) rfl ?_
    refine zs_goto hC dX12_reckonsTo_90 ?_
    refine zs_goto hC dX12_reckonsTo_230 ?_
    exact zAW.weak (hk16 _ _ _ _ _ hf) (zLw_s (zLw_n (zLw_s (zLw_s (zLw_s (zLw_s (zLw_n (zLw_n zLw_0))))))))
  · refine zs_al hC dX12_reckonsTo_78 rfl ?_
    refine zs_getR 81 hC fl_RX12_71 zL60 rfl dX12_reckonsTo_79 ?_
    refine zs_il hC dX12_reckonsTo_82 rfl ?_
    refine zs_iald hC zL81 dX12_reckonsTo_84 (fun _ hf => ?_) hf
    refine zs_iast hC zL80 dX12_reckonsTo_85 (fun _ hf => ?_) hf
    refine zs_il hC dX12_reckonsTo_86 rfl ?_
    refine zs_k hC dX12_reckonsTo_87 ?_
    refine zs_iadd hC dX12_reckonsTo_88 ?_
    refine zs_is hC dX12_reckonsTo_89 (by decide) rfl ?_
    refine zs_goto hC dX12_reckonsTo_90 ?_
    refine zs_goto hC dX12_reckonsTo_230 ?_
    exact zAW.weak (hk16 _ _ _ _ _ hf) (zLw_s (zLw_n (zLw_s (zLw_s (zLw_s (zLw_s (zLw_n (zLw_n zLw_0))))))))
set_option maxRecDepth 20000 in
set_option maxHeartbeats 4000000 in
theorem wX12_reckonsTo_155 {X : zX} {F : Nat} (hC : zCx X RX12 cX12_reckonsTo 8 1) (hret : zRt X (some .int)) {k16 : Int32 → Int32 → Int32 → Int32 → zMem → Option zR} (hk16 : ∀ v2 v3 v4 v5 μ, k16 v2 v3 v4 v5 μ = some (zOut X) → zAW X 16 [some (.ref 60), none, some (.int v2), some (.int v3), some (.int v4), some (.int v5), none, none] [] μ) {v2 : Int32} {v3 : Int32} {v4 : Int32} {v5 : Int32} {v7 : Int32} {s0 : Int32} {s1 : Int32} {μ : zMem} (hf : fX12_reckonsTo_155 F k16 v2 v3 v4 v5 v7 s0 s1 μ = some (zOut X)) : zAW X 155 [some (.ref 60), none, some (.int v2), some (.int v3), some (.int v4), some (.int v5), none, some (.int v7)] [.int s0, .int s1] μ := by
  unfold fX12_reckonsTo_155 at hf
  refine zs_ic_ne hC dX12_reckonsTo_155 (fun _ hf => ?_) (fun _ hf => ?_) hf
  · refine zs_il hC dX12_reckonsTo_158 rfl ?_
    refine zs_il hC dX12_reckonsTo_160 rfl ?_
    refine zs_iadd hC dX12_reckonsTo_162 ?_
    refine zs_is hC dX12_reckonsTo_163 (by decide) rfl ?_
    refine zs_goto hC dX12_reckonsTo_165 ?_
    refine zs_goto hC dX12_reckonsTo_230 ?_
    exact zAW.weak (hk16 _ _ _ _ _ hf) (zLw_s (zLw_n (zLw_s (zLw_s (zLw_s (zLw_s (zLw_n (zLw_n zLw_0))))))))
  · refine zs_il hC dX12_reckonsTo_168 rfl ?_
    refine zs_k hC dX12_reckonsTo_169 ?_
    refine zs_isub hC dX12_reckonsTo_170 ?_
    refine zs_is hC dX12_reckonsTo_171 (by decide) rfl ?_
    refine zs_goto hC dX12_reckonsTo_172 ?_
    refine zs_goto hC dX12_reckonsTo_230 ?_
    exact zAW.weak (hk16 _ _ _ _ _ hf) (zLw_s (zLw_n (zLw_s (zLw_s (zLw_s (zLw_s (zLw_n (zLw_n zLw_0))))))))
set_option maxRecDepth 20000 in
set_option maxHeartbeats 4000000 in
theorem wX12_reckonsTo_135 {X : zX} {F : Nat} (hC : zCx X RX12 cX12_reckonsTo 8 1) (hret : zRt X (some .int)) {k16 : Int32 → Int32 → Int32 → Int32 → zMem → Option zR} (hk16 : ∀ v2 v3 v4 v5 μ, k16 v2 v3 v4 v5 μ = some (zOut X) → zAW X 16 [some (.ref 60), none, some (.int v2), some (.int v3), some (.int v4), some (.int v5), none, none] [] μ) {v2 : Int32} {v3 : Int32} {v4 : Int32} {v5 : Int32} {v6 : Int32} {v7 : Int32} {μ : zMem} (hf : fX12_reckonsTo_135 F k16 v2 v3 v4 v5 v6 v7 μ = some (zOut X)) : zAW X 135 [some (.ref 60), none, some (.int v2), some (.int v3), some (.int v4), some (.int v5), some (.int v6), some (.int v7)] [] μ := by
  unfold fX12_reckonsTo_135 at hf
  refine zs_al hC dX12_reckonsTo_135 rfl ?_
  refine zs_getR 80 hC fl_RX12_68 zL60 rfl dX12_reckonsTo_136 ?_
  refine zs_il hC dX12_reckonsTo_139 rfl ?_
  refine zs_k hC dX12_reckonsTo_140 ?_
  refine zs_isub hC dX12_reckonsTo_141 ?_
  refine zs_iald hC zL80 dX12_reckonsTo_142 (fun _ hf => ?_) hf
  refine zs_il hC dX12_reckonsTo_143 rfl ?_
  refine zs_k hC dX12_reckonsTo_145 ?_
  refine zs_ic_ne hC dX12_reckonsTo_147 (fun _ hf => ?_) (fun _ hf => ?_) hf
  · refine zs_k hC dX12_reckonsTo_150 ?_
    refine zs_goto hC dX12_reckonsTo_151 ?_
    exact zAW.weak (wX12_reckonsTo_155 hC hret hk16 hf) (zLw_s (zLw_n (zLw_s (zLw_s (zLw_s (zLw_s (zLw_n (zLw_s zLw_0))))))))
  · refine zs_k hC dX12_reckonsTo_154 ?_
    exact zAW.weak (wX12_reckonsTo_155 hC hret hk16 hf) (zLw_s (zLw_n (zLw_s (zLw_s (zLw_s (zLw_s (zLw_n (zLw_s zLw_0))))))))
set_option maxRecDepth 20000 in
set_option maxHeartbeats 4000000 in
theorem wX12_reckonsTo_203 {X : zX} {F : Nat} (hC : zCx X RX12 cX12_reckonsTo 8 1) (hret : zRt X (some .int)) {k16 : Int32 → Int32 → Int32 → Int32 → zMem → Option zR} (hk16 : ∀ v2 v3 v4 v5 μ, k16 v2 v3 v4 v5 μ = some (zOut X) → zAW X 16 [some (.ref 60), none, some (.int v2), some (.int v3), some (.int v4), some (.int v5), none, none] [] μ) {v2 : Int32} {v3 : Int32} {v4 : Int32} {v5 : Int32} {v6 : Int32} {μ : zMem} (hf : fX12_reckonsTo_203 F k16 v2 v3 v4 v5 v6 μ = some (zOut X)) : zAW X 203 [some (.ref 60), none, some (.int v2), some (.int v3), some (.int v4), some (.int v5), some (.int v6), none] [] μ := by
  unfold fX12_reckonsTo_203 at hf
  refine zs_al hC dX12_reckonsTo_203 rfl ?_
  refine zs_getR 80 hC fl_RX12_68 zL60 rfl dX12_reckonsTo_204 ?_
  refine zs_il hC dX12_reckonsTo_207 rfl ?_
  refine zs_k hC dX12_reckonsTo_208 ?_
  refine zs_isub hC dX12_reckonsTo_209 ?_
  refine zs_il hC dX12_reckonsTo_210 rfl ?_
  refine zs_al hC dX12_reckonsTo_212 rfl ?_
  refine zs_getR 80 hC fl_RX12_68 zL60 rfl dX12_reckonsTo_213 ?_
  refine zs_il hC dX12_reckonsTo_216 rfl ?_
  refine zs_k hC dX12_reckonsTo_217 ?_
  refine zs_isub hC dX12_reckonsTo_218 ?_
  refine zs_iald hC zL80 dX12_reckonsTo_219 (fun _ hf => ?_) hf
  refine zs_al hC dX12_reckonsTo_220 rfl ?_
  refine zs_getR 80 hC fl_RX12_68 zL60 rfl dX12_reckonsTo_221 ?_
  refine zs_il hC dX12_reckonsTo_224 rfl ?_
  refine zs_iald hC zL80 dX12_reckonsTo_225 (fun _ hf => ?_) hf
  refine zs_callS [.int v6, .int (μ 80 (v3 - (nI 1)).toNatClampNeg), .int (μ 80 v3.toNatClampNeg)] hC cw_X12_reckon cl_RX12_210 (by decide) rfl rfl (Nat.le_of_ble_eq_true rfl) dX12_reckonsTo_226 (fun _ h => ctX12_reckon h) (fun r4 m4 _ hf => ?_) hf
  show zAW X 229 _ (.int r4 :: _) m4
  refine zs_iast hC zL80 dX12_reckonsTo_229 (fun _ hf => ?_) hf
  refine zs_goto hC dX12_reckonsTo_230 ?_
  exact zAW.weak (hk16 _ _ _ _ _ hf) (zLw_s (zLw_n (zLw_s (zLw_s (zLw_s (zLw_s (zLw_n (zLw_n zLw_0))))))))
set_option maxRecDepth 20000 in
set_option maxHeartbeats 4000000 in
theorem wX12_reckonsTo_192 {X : zX} {F : Nat} (hC : zCx X RX12 cX12_reckonsTo 8 1) (hret : zRt X (some .int)) {k16 : Int32 → Int32 → Int32 → Int32 → zMem → Option zR} (hk16 : ∀ v2 v3 v4 v5 μ, k16 v2 v3 v4 v5 μ = some (zOut X) → zAW X 16 [some (.ref 60), none, some (.int v2), some (.int v3), some (.int v4), some (.int v5), none, none] [] μ) {v2 : Int32} {v3 : Int32} {v4 : Int32} {v5 : Int32} {v6 : Int32} {μ : zMem} (hf : fX12_reckonsTo_192 F k16 v2 v3 v4 v5 v6 μ = some (zOut X)) : zAW X 192 [some (.ref 60), none, some (.int v2), some (.int v3), some (.int v4), some (.int v5), some (.int v6), none] [] μ := by
  unfold fX12_reckonsTo_192 at hf
  refine zs_al hC dX12_reckonsTo_192 rfl ?_
  refine zs_getR 80 hC fl_RX12_68 zL60 rfl dX12_reckonsTo_193 ?_
  refine zs_il hC dX12_reckonsTo_196 rfl ?_
  refine zs_iald hC zL80 dX12_reckonsTo_197 (fun _ hf => ?_) hf
  refine zs_if_ne hC dX12_reckonsTo_198 (fun _ hf => ?_) (fun _ hf => ?_) hf
  · refine zs_k hC dX12_reckonsTo_201 ?_
    exact zs_iret hC hret dX12_reckonsTo_202 hf
  · exact zAW.weak (wX12_reckonsTo_203 hC hret hk16 hf) (zLw_s (zLw_n (zLw_s (zLw_s (zLw_s (zLw_s (zLw_s (zLw_n zLw_0))))))))
set_option maxRecDepth 20000 in
set_option maxHeartbeats 4000000 in
theorem wX12_reckonsTo_16 {X : zX} {F : Nat} (hC : zCx X RX12 cX12_reckonsTo 8 1) (hret : zRt X (some .int)) : ∀ (n : Nat) (v2 : Int32) (v3 : Int32) (v4 : Int32) (v5 : Int32) (μ : zMem), fX12_reckonsTo_16 F n v2 v3 v4 v5 μ = some (zOut X) → zAW X 16 [some (.ref 60), none, some (.int v2), some (.int v3), some (.int v4), some (.int v5), none, none] [] μ := by
  intro n
  induction n with
  | zero =>
    intro v2 v3 v4 v5 μ hf
    rw [fX12_reckonsTo_16] at hf
    cases hf
  | succ n ih =>
    intro v2 v3 v4 v5 μ hf
    rw [fX12_reckonsTo_16] at hf
    refine zs_il hC dX12_reckonsTo_16 rfl ?_
    refine zs_il hC dX12_reckonsTo_18 rfl ?_
    refine zs_ic_ge hC dX12_reckonsTo_19 (fun _ hf => ?_) (fun _ hf => ?_) hf
    · refine zs_al hC dX12_reckonsTo_233 rfl ?_
      refine zs_getR 80 hC fl_RX12_68 zL60 rfl dX12_reckonsTo_234 ?_
      refine zs_k hC dX12_reckonsTo_237 ?_
      refine zs_iald hC zL80 dX12_reckonsTo_238 (fun _ hf => ?_) hf
      exact zs_iret hC hret dX12_reckonsTo_239 hf
    · refine zs_al hC dX12_reckonsTo_22 rfl ?_
      refine zs_getR 75 hC fl_RX12_53 zL60 rfl dX12_reckonsTo_23 ?_
      refine zs_il hC dX12_reckonsTo_26 rfl ?_
      refine zs_iald hC zL75 dX12_reckonsTo_28 (fun _ hf => ?_) hf
      refine zs_ldc hC kc_RX12_140 dX12_reckonsTo_29 ?_
      refine zs_idiv hC dX12_reckonsTo_31 (fun _ hf => ?_) hf
      refine zs_is hC dX12_reckonsTo_32 (by decide) rfl ?_
      refine zs_al hC dX12_reckonsTo_34 rfl ?_
      refine zs_getR 75 hC fl_RX12_53 zL60 rfl dX12_reckonsTo_35 ?_
      refine zs_il hC dX12_reckonsTo_38 rfl ?_
      refine zs_iald hC zL75 dX12_reckonsTo_40 (fun _ hf => ?_) hf
      refine zs_ldc hC kc_RX12_140 dX12_reckonsTo_41 ?_
      refine zs_irem hC dX12_reckonsTo_43 (fun _ hf => ?_) hf
      refine zs_is hC dX12_reckonsTo_44 (by decide) rfl ?_
      refine zs_il hC dX12_reckonsTo_46 rfl ?_
      refine zs_k hC dX12_reckonsTo_48 ?_
      refine zs_iadd hC dX12_reckonsTo_49 ?_
      refine zs_is hC dX12_reckonsTo_50 (by decide) rfl ?_
      refine zs_il hC dX12_reckonsTo_52 rfl ?_
      refine zs_if_eq hC dX12_reckonsTo_54 (fun _ hf => ?_) (fun _ hf => ?_) hf
      · exact zAW.weak (wX12_reckonsTo_63 hC hret (ih) hf) (zLw_s (zLw_n (zLw_s (zLw_s (zLw_s (zLw_s (zLw_s (zLw_s zLw_0))))))))
      · refine zs_il hC dX12_reckonsTo_57 rfl ?_
        refine zs_k hC dX12_reckonsTo_59 ?_
        refine zs_ic_ne hC dX12_reckonsTo_60 (fun _ hf => ?_) (fun _ hf => ?_) hf
        · exact zAW.weak (wX12_reckonsTo_63 hC hret (ih) hf) (zLw_s (zLw_n (zLw_s (zLw_s (zLw_s (zLw_s (zLw_s (zLw_s zLw_0))))))))
        · refine zs_il hC dX12_reckonsTo_93 rfl ?_
          refine zs_k hC dX12_reckonsTo_95 ?_
          refine zs_ic_ne hC dX12_reckonsTo_97 (fun _ hf => ?_) (fun _ hf => ?_) hf
          · refine zs_al hC dX12_reckonsTo_100 rfl ?_
            refine zs_getR 80 hC fl_RX12_68 zL60 rfl dX12_reckonsTo_101 ?_
            refine zs_il hC dX12_reckonsTo_104 rfl ?_
            refine zs_k hC dX12_reckonsTo_105 ?_
            refine zs_isub hC dX12_reckonsTo_106 ?_
            refine zs_k hC dX12_reckonsTo_107 ?_
            refine zs_al hC dX12_reckonsTo_108 rfl ?_
            refine zs_getR 80 hC fl_RX12_68 zL60 rfl dX12_reckonsTo_109 ?_
            refine zs_il hC dX12_reckonsTo_112 rfl ?_
            refine zs_k hC dX12_reckonsTo_113 ?_
            refine zs_isub hC dX12_reckonsTo_114 ?_
            refine zs_iald hC zL80 dX12_reckonsTo_115 (fun _ hf => ?_) hf
            refine zs_isub hC dX12_reckonsTo_116 ?_
            refine zs_iast hC zL80 dX12_reckonsTo_117 (fun _ hf => ?_) hf
            refine zs_goto hC dX12_reckonsTo_118 ?_
            refine zs_goto hC dX12_reckonsTo_230 ?_
            exact zAW.weak (ih _ _ _ _ _ hf) (zLw_s (zLw_n (zLw_s (zLw_s (zLw_s (zLw_s (zLw_n (zLw_n zLw_0))))))))
          · refine zs_il hC dX12_reckonsTo_121 rfl ?_
            refine zs_k hC dX12_reckonsTo_123 ?_
            refine zs_ic_eq hC dX12_reckonsTo_125 (fun _ hf => ?_) (fun _ hf => ?_) hf
            · exact zAW.weak (wX12_reckonsTo_135 hC hret (ih) hf) (zLw_s (zLw_n (zLw_s (zLw_s (zLw_s (zLw_s (zLw_s (zLw_s zLw_0))))))))
            · refine zs_il hC dX12_reckonsTo_128 rfl ?_
              refine zs_k hC dX12_reckonsTo_130 ?_
              refine zs_ic_ne hC dX12_reckonsTo_132 (fun _ hf => ?_) (fun _ hf => ?_) hf
              · exact zAW.weak (wX12_reckonsTo_135 hC hret (ih) hf) (zLw_s (zLw_n (zLw_s (zLw_s (zLw_s (zLw_s (zLw_s (zLw_s zLw_0))))))))
              · refine zs_il hC dX12_reckonsTo_175 rfl ?_
                refine zs_k hC dX12_reckonsTo_176 ?_
                refine zs_isub hC dX12_reckonsTo_177 ?_
                refine zs_is hC dX12_reckonsTo_178 (by decide) rfl ?_
                refine zs_il hC dX12_reckonsTo_179 rfl ?_
                refine zs_k hC dX12_reckonsTo_181 ?_
                refine zs_ic_eq hC dX12_reckonsTo_182 (fun _ hf => ?_) (fun _ hf => ?_) hf
                · exact zAW.weak (wX12_reckonsTo_192 hC hret (ih) hf) (zLw_s (zLw_n (zLw_s (zLw_s (zLw_s (zLw_s (zLw_s (zLw_n zLw_0))))))))
                · refine zs_il hC dX12_reckonsTo_185 rfl ?_
                  refine zs_k hC dX12_reckonsTo_187 ?_
                  refine zs_ic_ne hC dX12_reckonsTo_189 (fun _ hf => ?_) (fun _ hf => ?_) hf
                  · exact zAW.weak (wX12_reckonsTo_192 hC hret (ih) hf) (zLw_s (zLw_n (zLw_s (zLw_s (zLw_s (zLw_s (zLw_s (zLw_n zLw_0))))))))
                  · exact zAW.weak (wX12_reckonsTo_203 hC hret (ih) hf) (zLw_s (zLw_n (zLw_s (zLw_s (zLw_s (zLw_s (zLw_s (zLw_n zLw_0))))))))
set_option maxRecDepth 20000 in
set_option maxHeartbeats 4000000 in
theorem wX12_reckonsTo {X : zX} {F : Nat} (hC : zCx X RX12 cX12_reckonsTo 8 1) (hret : zRt X (some .int)) {v1 : Int32} {v2 : Int32} {μ : zMem} (hf : fX12_reckonsTo F v1 v2 μ = some (zOut X)) : zAW X 0 [some (.ref 60), some (.int v1), some (.int v2), none, none, none, none, none] [] μ := by
  unfold fX12_reckonsTo at hf
  refine zs_k hC dX12_reckonsTo_0 ?_
  refine zs_is hC dX12_reckonsTo_1 (by decide) rfl ?_
  refine zs_k hC dX12_reckonsTo_2 ?_
  refine zs_il hC dX12_reckonsTo_5 rfl ?_
  refine zs_k hC dX12_reckonsTo_6 ?_
  refine zs_idiv hC dX12_reckonsTo_9 (fun _ hf => ?_) hf
  refine zs_imul hC dX12_reckonsTo_10 ?_
  refine zs_is hC dX12_reckonsTo_11 (by decide) rfl ?_
  refine zs_il hC dX12_reckonsTo_13 rfl ?_
  refine zs_is hC dX12_reckonsTo_14 (by decide) rfl ?_
  exact zAW.weak (wX12_reckonsTo_16 hC hret F _ _ _ _ _ hf) (zLw_s (zLw_n (zLw_s (zLw_s (zLw_s (zLw_s (zLw_n (zLw_n zLw_0))))))))
set_option maxRecDepth 20000 in
set_option maxHeartbeats 4000000 in
theorem ctX12_reckonsTo {E : zEV} {F : Nat} {v1 : Int32} {v2 : Int32} {μ : zMem} {out : zR} (hf : fX12_reckonsTo F v1 v2 μ = some out) : zCt E yX12_reckonsTo cX12_reckonsTo 8 (some .int) 1 [.ref 60, .int v1, .int v2] μ out :=
  zCt.of [some (.ref 60), some (.int v1), some (.int v2), none, none, none, none, none] (by decide +kernel) (Nat.le_of_ble_eq_true rfl) (zLw_s (zLw_s (zLw_s (zLw_e (zLw_e (zLw_e (zLw_e (zLw_e zLw_0)))))))) rfl (fun X hE ho hr hC => by
    subst hE; subst ho
    exact wX12_reckonsTo hC hr hf)
/-! X12_byLaw -/
def fX12_byLaw_2 (F : Nat) : Nat → Int32 → Int32 → Int32 → zMem → Option zR
  | 0, _, _, _, _ => none
  | n + 1, v1, v2, v3, μ => if (μ 60 18) ≤ v3 then some ((nI 0), μ) else zG v3 16 (if (μ 76 v3.toNatClampNeg) = v1 then zG v3 16 (zG v3 16 (zBd (fX12_reckonsTo F (μ 78 v3.toNatClampNeg) (μ 79 v3.toNatClampNeg) μ) (fun r5 m5 => if r5 = (nI 1) then zG v3 16 (zG v3 16 (zBd (fX12_reckonsTo F (m5 77 v3.toNatClampNeg) (m5 78 v3.toNatClampNeg) m5) (fun r8 m8 => if 0 ≤ r8 then if r8 ≤ v2 then some (r8, m8) else some (v2, m8) else some ((nI 0), m8)))) else fX12_byLaw_2 F n v1 v2 (v3 + (nI 1)) m5))) else fX12_byLaw_2 F n v1 v2 (v3 + (nI 1)) μ)
def fX12_byLaw (F : Nat) (v1 : Int32) (v2 : Int32) (μ : zMem) : Option zR :=
  fX12_byLaw_2 F F v1 v2 (nI 0) μ
set_option maxRecDepth 20000 in
set_option maxHeartbeats 4000000 in
theorem wX12_byLaw_2 {X : zX} {F : Nat} (hC : zCx X RX12 cX12_byLaw 5 2) (hret : zRt X (some .int)) : ∀ (n : Nat) (v1 : Int32) (v2 : Int32) (v3 : Int32) (μ : zMem), fX12_byLaw_2 F n v1 v2 v3 μ = some (zOut X) → zAW X 2 [some (.ref 60), some (.int v1), some (.int v2), some (.int v3), none] [] μ := by
  intro n
  induction n with
  | zero =>
    intro v1 v2 v3 μ hf
    rw [fX12_byLaw_2] at hf
    cases hf
  | succ n ih =>
    intro v1 v2 v3 μ hf
    rw [fX12_byLaw_2] at hf
    refine zs_il hC dX12_byLaw_2 rfl ?_
    refine zs_al hC dX12_byLaw_3 rfl ?_
    refine zs_getI hC fl_RX12_207 zL60 rfl dX12_byLaw_4 ?_
    refine zs_ic_ge hC dX12_byLaw_7 (fun _ hf => ?_) (fun _ hf => ?_) hf
    · refine zs_k hC dX12_byLaw_89 ?_
      exact zs_iret hC hret dX12_byLaw_90 hf
    · refine zs_al hC dX12_byLaw_10 rfl ?_
      refine zs_getR 76 hC fl_RX12_56 zL60 rfl dX12_byLaw_11 ?_
      refine zs_il hC dX12_byLaw_14 rfl ?_
      refine zs_iald hC zL76 dX12_byLaw_15 (fun _ hf => ?_) hf
      refine zs_il hC dX12_byLaw_16 rfl ?_
      refine zs_ic_ne hC dX12_byLaw_17 (fun _ hf => ?_) (fun _ hf => ?_) hf
      · refine zs_al hC dX12_byLaw_20 rfl ?_
        refine zs_al hC dX12_byLaw_21 rfl ?_
        refine zs_getR 78 hC fl_RX12_62 zL60 rfl dX12_byLaw_22 ?_
        refine zs_il hC dX12_byLaw_25 rfl ?_
        refine zs_iald hC zL78 dX12_byLaw_26 (fun _ hf => ?_) hf
        refine zs_al hC dX12_byLaw_27 rfl ?_
        refine zs_getR 79 hC fl_RX12_65 zL60 rfl dX12_byLaw_28 ?_
        refine zs_il hC dX12_byLaw_31 rfl ?_
        refine zs_iald hC zL79 dX12_byLaw_32 (fun _ hf => ?_) hf
        refine zs_callV [.int (μ 78 v3.toNatClampNeg), .int (μ 79 v3.toNatClampNeg)] hC cw_X12_reckonsTo cl_RX12_214 zL60 rfl (by decide) rfl rfl (Nat.le_of_ble_eq_true rfl) dX12_byLaw_33 (fun _ h => ctX12_reckonsTo h) (fun r5 m5 _ hf => ?_) hf
        show zAW X 36 _ (.int r5 :: _) m5
        refine zs_k hC dX12_byLaw_36 ?_
        refine zs_ic_eq hC dX12_byLaw_37 (fun _ hf => ?_) (fun _ hf => ?_) hf
        · refine zs_al hC dX12_byLaw_43 rfl ?_
          refine zs_al hC dX12_byLaw_44 rfl ?_
          refine zs_getR 77 hC fl_RX12_59 zL60 rfl dX12_byLaw_45 ?_
          refine zs_il hC dX12_byLaw_48 rfl ?_
          refine zs_iald hC zL77 dX12_byLaw_49 (fun _ hf => ?_) hf
          refine zs_al hC dX12_byLaw_50 rfl ?_
          refine zs_getR 78 hC fl_RX12_62 zL60 rfl dX12_byLaw_51 ?_
          refine zs_il hC dX12_byLaw_54 rfl ?_
          refine zs_iald hC zL78 dX12_byLaw_55 (fun _ hf => ?_) hf
          refine zs_callV [.int (m5 77 v3.toNatClampNeg), .int (m5 78 v3.toNatClampNeg)] hC cw_X12_reckonsTo cl_RX12_214 zL60 rfl (by decide) rfl rfl (Nat.le_of_ble_eq_true rfl) dX12_byLaw_56 (fun _ h => ctX12_reckonsTo h) (fun r8 m8 _ hf => ?_) hf
          show zAW X 59 _ (.int r8 :: _) m8
          refine zs_is hC dX12_byLaw_59 (by decide) rfl ?_
          refine zs_il hC dX12_byLaw_61 rfl ?_
          refine zs_if_ge hC dX12_byLaw_63 (fun _ hf => ?_) (fun _ hf => ?_) hf
          · refine zs_il hC dX12_byLaw_70 rfl ?_
            refine zs_il hC dX12_byLaw_72 rfl ?_
            refine zs_ic_le hC dX12_byLaw_73 (fun _ hf => ?_) (fun _ hf => ?_) hf
            · refine zs_il hC dX12_byLaw_80 rfl ?_
              exact zs_iret hC hret dX12_byLaw_82 hf
            · refine zs_il hC dX12_byLaw_76 rfl ?_
              refine zs_goto hC dX12_byLaw_77 ?_
              exact zs_iret hC hret dX12_byLaw_82 hf
          · refine zs_k hC dX12_byLaw_66 ?_
            refine zs_goto hC dX12_byLaw_67 ?_
            exact zs_iret hC hret dX12_byLaw_82 hf
        · refine zs_goto hC dX12_byLaw_40 ?_
          refine zs_iinc (nI 1) hC dX12_byLaw_83 (by decide) rfl (by decide) rfl ?_
          refine zs_goto hC dX12_byLaw_86 ?_
          exact zAW.weak (ih _ _ _ _ hf) (zLw_s (zLw_s (zLw_s (zLw_s (zLw_n zLw_0)))))
      · refine zs_iinc (nI 1) hC dX12_byLaw_83 (by decide) rfl (by decide) rfl ?_
        refine zs_goto hC dX12_byLaw_86 ?_
        exact zAW.weak (ih _ _ _ _ hf) (zLw_s (zLw_s (zLw_s (zLw_s (zLw_n zLw_0)))))
set_option maxRecDepth 20000 in
set_option maxHeartbeats 4000000 in
theorem wX12_byLaw {X : zX} {F : Nat} (hC : zCx X RX12 cX12_byLaw 5 2) (hret : zRt X (some .int)) {v1 : Int32} {v2 : Int32} {μ : zMem} (hf : fX12_byLaw F v1 v2 μ = some (zOut X)) : zAW X 0 [some (.ref 60), some (.int v1), some (.int v2), none, none] [] μ := by
  unfold fX12_byLaw at hf
  refine zs_k hC dX12_byLaw_0 ?_
  refine zs_is hC dX12_byLaw_1 (by decide) rfl ?_
  exact zAW.weak (wX12_byLaw_2 hC hret F _ _ _ _ hf) (zLw_s (zLw_s (zLw_s (zLw_s (zLw_n zLw_0)))))
set_option maxRecDepth 20000 in
set_option maxHeartbeats 4000000 in
theorem ctX12_byLaw {E : zEV} {F : Nat} {v1 : Int32} {v2 : Int32} {μ : zMem} {out : zR} (hf : fX12_byLaw F v1 v2 μ = some out) : zCt E yX12_byLaw cX12_byLaw 5 (some .int) 2 [.ref 60, .int v1, .int v2] μ out :=
  zCt.of [some (.ref 60), some (.int v1), some (.int v2), none, none] (by decide +kernel) (Nat.le_of_ble_eq_true rfl) (zLw_s (zLw_s (zLw_s (zLw_e (zLw_e zLw_0))))) rfl (fun X hE ho hr hC => by
    subst hE; subst ho
    exact wX12_byLaw hC hr hf)
