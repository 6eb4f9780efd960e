/-! X5_joins -/
def fX5_joins (F : Nat) (h0 : Nat) (v1 : Int32) (μ : zMem) : Option zR :=
  if v1 = (-1 : Int32) then some ((nI 0), μ) else zBd (fX5_puts F h0 v1 (nI 0) μ) (fun r1 m1 => some ((nI 0), m1))
set_option maxRecDepth 20000 in
set_option maxHeartbeats 4000000 in
theorem wX5_joins {X : zX} {F h0 : Nat} (hC : zCx X RX5 cX5_joins 2 1) (hh0 : zIsLw h0 = true) (hret : zRt X none) {v1 : Int32} {μ : zMem} (hf : fX5_joins F h0 v1 μ = some (zOut X)) : zAW X 0 [some (.ref h0), some (.int v1)] [] μ := by
  unfold fX5_joins at hf
  refine zs_il hC dX5_joins_0 rfl ?_
  refine zs_k hC dX5_joins_1 ?_
  refine zs_ic_eq hC dX5_joins_2 (fun _ hf => ?_) (fun _ hf => ?_) hf
  · exact zs_vret hC hret dX5_joins_12 hf
  · refine zs_al hC dX5_joins_5 rfl ?_
    refine zs_il hC dX5_joins_6 rfl ?_
    refine zs_k hC dX5_joins_7 ?_
    refine zs_callV [.int v1, .int (nI 0)] hC cw_X5_puts cl_RX5_37 (zLw0 hh0) rfl (by decide) rfl rfl (Nat.le_of_ble_eq_true rfl) dX5_joins_8 (fun _ h => ctX5_puts (hh0) h) (fun r1 m1 _ hf => ?_) hf
    show zAW X 11 _ (.int r1 :: _) m1
    refine zs_pop hC dX5_joins_11 rfl ?_
    exact zs_vret hC hret dX5_joins_12 hf
set_option maxRecDepth 20000 in
set_option maxHeartbeats 4000000 in
theorem ctX5_joins {E : zEV} {F : Nat} {h0 : Nat} {v1 : Int32} {μ : zMem} {out : zR} (hh0 : zIsLw h0 = true) (hf : fX5_joins F h0 v1 μ = some out) : zCt E yX5_joins cX5_joins 2 none 1 [.ref h0, .int v1] μ out :=
  zCt.of [some (.ref h0), some (.int v1)] (by decide +kernel) (Nat.le_of_ble_eq_true rfl) (zLw_s (zLw_s zLw_0)) rfl (fun X hE ho hr hC => by
    subst hE; subst ho
    exact wX5_joins hC hh0 hr hf)
/-! X5_landsHere -/
def fX5_landsHere (F : Nat) (h0 : Nat) (v1 : Int32) (μ : zMem) : Option zR :=
  zBd (fX11_isWithin F v1 (nI 0) ((μ h0 6) - (nI 1)) μ) (fun r2 m2 => if r2 = 0 then some ((nI 0), m2) else zG v1 240 (zLt (zUp m2 (h0 + 2) v1.toNatClampNeg (m2 h0 6)) (fun m5 => some ((nI 0), m5))))
set_option maxRecDepth 20000 in
set_option maxHeartbeats 4000000 in
theorem wX5_landsHere {X : zX} {F h0 : Nat} (hC : zCx X RX5 cX5_landsHere 2 1) (hh0 : zIsLw h0 = true) (hret : zRt X none) {v1 : Int32} {μ : zMem} (hf : fX5_landsHere F h0 v1 μ = some (zOut X)) : zAW X 0 [some (.ref h0), some (.int v1)] [] μ := by
  unfold fX5_landsHere at hf
  refine zs_il hC dX5_landsHere_0 rfl ?_
  refine zs_k hC dX5_landsHere_1 ?_
  refine zs_al hC dX5_landsHere_2 rfl ?_
  refine zs_getI hC fl_RX5_30 (zLw0 hh0) rfl dX5_landsHere_3 ?_
  refine zs_k hC dX5_landsHere_6 ?_
  refine zs_isub hC dX5_landsHere_7 ?_
  refine zs_callN [.int v1, .int (nI 0), .int ((μ h0 6) - (nI 1))] hC cw_X11_isWithin cl_RX5_41 (by decide) rfl rfl (Nat.le_of_ble_eq_true rfl) dX5_landsHere_8 (fun _ h => ctX11_isWithin h) (fun r2 m2 _ hf => ?_) hf
  show zAW X 11 _ (.int r2 :: _) m2
  refine zs_if_eq hC dX5_landsHere_11 (fun _ hf => ?_) (fun _ hf => ?_) hf
  · exact zs_vret hC hret dX5_landsHere_24 hf
  · refine zs_al hC dX5_landsHere_14 rfl ?_
    refine zs_getR (h0 + 2) hC fl_RX5_15 (zLw0 hh0) rfl dX5_landsHere_15 ?_
    refine zs_il hC dX5_landsHere_18 rfl ?_
    refine zs_al hC dX5_landsHere_19 rfl ?_
    refine zs_getI hC fl_RX5_30 (zLw0 hh0) rfl dX5_landsHere_20 ?_
    refine zs_iast hC (zLw2 hh0) dX5_landsHere_23 (fun _ hf => ?_) hf
    refine zs_let (fun m5 _ hf => ?_) hf
    exact zs_vret hC hret dX5_landsHere_24 hf
set_option maxRecDepth 20000 in
set_option maxHeartbeats 4000000 in
theorem ctX5_landsHere {E : zEV} {F : Nat} {h0 : Nat} {v1 : Int32} {μ : zMem} {out : zR} (hh0 : zIsLw h0 = true) (hf : fX5_landsHere F h0 v1 μ = some out) : zCt E yX5_landsHere cX5_landsHere 2 none 1 [.ref h0, .int v1] μ out :=
  zCt.of [some (.ref h0), some (.int v1)] (by decide +kernel) (Nat.le_of_ble_eq_true rfl) (zLw_s (zLw_s zLw_0)) rfl (fun X hE ho hr hC => by
    subst hE; subst ho
    exact wX5_landsHere hC hh0 hr hf)
/-! X5_hasKind -/
def fX5_hasKind_2 (F : Nat) (h0 : Nat) : Nat → Int32 → Int32 → zMem → Option zR
  | 0, _, _, _ => none
  | n + 1, v1, v2, μ => if (μ h0 7) ≤ v2 then some ((nI 0), μ) else zG v2 16 (if (μ (h0 + 3) v2.toNatClampNeg) = v1 then some ((nI 1), μ) else fX5_hasKind_2 F h0 n v1 (v2 + (nI 1)) μ)
def fX5_hasKind (F : Nat) (h0 : Nat) (v1 : Int32) (μ : zMem) : Option zR :=
  fX5_hasKind_2 F h0 F v1 (nI 0) μ
set_option maxRecDepth 20000 in
set_option maxHeartbeats 4000000 in
theorem wX5_hasKind_2 {X : zX} {F h0 : Nat} (hC : zCx X RX5 cX5_hasKind 3 0) (hh0 : zIsLw h0 = true) (hret : zRt X (some .boolean)) : ∀ (n : Nat) (v1 : Int32) (v2 : Int32) (μ : zMem), fX5_hasKind_2 F h0 n v1 v2 μ = some (zOut X) → zAW X 2 [some (.ref h0), some (.int v1), some (.int v2)] [] μ := by
  intro n
  induction n with
  | zero =>
    intro v1 v2 μ hf
    rw [fX5_hasKind_2] at hf
    cases hf
  | succ n ih =>
    intro v1 v2 μ hf
    rw [fX5_hasKind_2] at hf
    refine zs_il hC dX5_hasKind_2 rfl ?_
    refine zs_al hC dX5_hasKind_3 rfl ?_
    refine zs_getI hC fl_RX5_34 (zLw0 hh0) rfl dX5_hasKind_4 ?_
    refine zs_ic_ge hC dX5_hasKind_7 (fun _ hf => ?_) (fun _ hf => ?_) hf
    · refine zs_k hC dX5_hasKind_28 ?_
      exact zs_zretK hC hret dX5_hasKind_29 (by decide) hf
    · refine zs_al hC dX5_hasKind_10 rfl ?_
      refine zs_getR (h0 + 3) hC fl_RX5_18 (zLw0 hh0) rfl dX5_hasKind_11 ?_
      refine zs_il hC dX5_hasKind_14 rfl ?_
      refine zs_iald hC (zLw3 hh0) dX5_hasKind_15 (fun _ hf => ?_) hf
      refine zs_il hC dX5_hasKind_16 rfl ?_
      refine zs_ic_ne hC dX5_hasKind_17 (fun _ hf => ?_) (fun _ hf => ?_) hf
      · refine zs_k hC dX5_hasKind_20 ?_
        exact zs_zretK hC hret dX5_hasKind_21 (by decide) hf
      · refine zs_iinc (nI 1) hC dX5_hasKind_22 (by decide) rfl (by decide) rfl ?_
        refine zs_goto hC dX5_hasKind_25 ?_
        exact zAW.weak (ih _ _ _ hf) (zLw_s (zLw_s (zLw_s zLw_0)))
set_option maxRecDepth 20000 in
set_option maxHeartbeats 4000000 in
theorem wX5_hasKind {X : zX} {F h0 : Nat} (hC : zCx X RX5 cX5_hasKind 3 0) (hh0 : zIsLw h0 = true) (hret : zRt X (some .boolean)) {v1 : Int32} {μ : zMem} (hf : fX5_hasKind F h0 v1 μ = some (zOut X)) : zAW X 0 [some (.ref h0), some (.int v1), none] [] μ := by
  unfold fX5_hasKind at hf
  refine zs_k hC dX5_hasKind_0 ?_
  refine zs_is hC dX5_hasKind_1 (by decide) rfl ?_
  exact zAW.weak (wX5_hasKind_2 hC hh0 hret F _ _ _ hf) (zLw_s (zLw_s (zLw_s zLw_0)))
set_option maxRecDepth 20000 in
set_option maxHeartbeats 4000000 in
theorem ctX5_hasKind {E : zEV} {F : Nat} {h0 : Nat} {v1 : Int32} {μ : zMem} {out : zR} (hh0 : zIsLw h0 = true) (hf : fX5_hasKind F h0 v1 μ = some out) : zCt E yX5_hasKind cX5_hasKind 3 (some .boolean) 0 [.ref h0, .int v1] μ out :=
  zCt.of [some (.ref h0), some (.int v1), none] (by decide +kernel) (Nat.le_of_ble_eq_true rfl) (zLw_s (zLw_s (zLw_e zLw_0))) rfl (fun X hE ho hr hC => by
    subst hE; subst ho
    exact wX5_hasKind hC hh0 hr hf)
/-! X9_takes -/
def fX9_takes (F : Nat) (v1 : Int32) (μ : zMem) : Option zR :=
  zBd (fX9_sign F μ) (fun r1 m1 => if r1 = v1 then zLt (zUp m1 1 2 ((m1 1 2) + (nI 1))) (fun m3 => some ((nI 1), m3)) else some ((nI 0), m1))
set_option maxRecDepth 20000 in
set_option maxHeartbeats 4000000 in
theorem wX9_takes {X : zX} {F : Nat} (hC : zCx X RX9 cX9_takes 2 1) (hret : zRt X (some .boolean)) {v1 : Int32} {μ : zMem} (hf : fX9_takes F v1 μ = some (zOut X)) : zAW X 0 [some (.ref 1), some (.int v1)] [] μ := by
  unfold fX9_takes at hf
  refine zs_al hC dX9_takes_0 rfl ?_
  refine zs_callV [] hC cw_X9_sign cl_RX9_29 zL1 rfl (by decide) rfl rfl (Nat.le_of_ble_eq_true rfl) dX9_takes_1 (fun _ h => ctX9_sign h) (fun r1 m1 _ hf => ?_) hf
  show zAW X 4 _ (.int r1 :: _) m1
  refine zs_il hC dX9_takes_4 rfl ?_
  refine zs_ic_eq hC dX9_takes_5 (fun _ hf => ?_) (fun _ hf => ?_) hf
  · refine zs_al hC dX9_takes_10 rfl ?_
    refine zs_dup hC dX9_takes_11 rfl ?_
    refine zs_getI hC fl_RX9_23 zL1 rfl dX9_takes_12 ?_
    refine zs_k hC dX9_takes_15 ?_
    refine zs_iadd hC dX9_takes_16 ?_
    refine zs_putI hC fl_RX9_23 fp_9_2 zL1 rfl dX9_takes_17 ?_
    refine zs_let (fun m3 _ hf => ?_) hf
    refine zs_k hC dX9_takes_20 ?_
    exact zs_zretK hC hret dX9_takes_21 (by decide) hf
  · refine zs_k hC dX9_takes_8 ?_
    exact zs_zretK hC hret dX9_takes_9 (by decide) hf
set_option maxRecDepth 20000 in
set_option maxHeartbeats 4000000 in
theorem ctX9_takes {E : zEV} {F : Nat} {v1 : Int32} {μ : zMem} {out : zR} (hf : fX9_takes F v1 μ = some out) : zCt E yX9_takes cX9_takes 2 (some .boolean) 1 [.ref 1, .int v1] μ out :=
  zCt.of [some (.ref 1), some (.int v1)] (by decide +kernel) (Nat.le_of_ble_eq_true rfl) (zLw_s (zLw_s zLw_0)) rfl (fun X hE ho hr hC => by
    subst hE; subst ho
    exact wX9_takes hC hr hf)
/-! X10_factOf -/
def fX10_factOf (F : Nat) (v0 : Int32) (μ : zMem) : Option zR :=
  (if v0 = (nI 98) then some ((nI 5), μ) else if v0 = (nI 99) then some ((nI 8), μ) else if v0 = (nI 100) then some ((nI 6), μ) else if v0 = (nI 101) then some ((-1 : Int32), μ) else if v0 = (nI 102) then some ((-1 : Int32), μ) else if v0 = (nI 103) then some ((-1 : Int32), μ) else if v0 = (nI 104) then some ((-1 : Int32), μ) else if v0 = (nI 105) then some ((-1 : Int32), μ) else if v0 = (nI 106) then some ((-1 : Int32), μ) else if v0 = (nI 107) then some ((nI 1), μ) else if v0 = (nI 108) then some ((-1 : Int32), μ) else if v0 = (nI 109) then some ((-1 : Int32), μ) else if v0 = (nI 110) then some ((nI 2), μ) else if v0 = (nI 111) then some ((nI 3), μ) else if v0 = (nI 112) then some ((nI 0), μ) else if v0 = (nI 113) then some ((-1 : Int32), μ) else if v0 = (nI 114) then some ((-1 : Int32), μ) else if v0 = (nI 115) then some ((-1 : Int32), μ) else if v0 = (nI 116) then some ((-1 : Int32), μ) else if v0 = (nI 117) then some ((nI 4), μ) else if v0 = (nI 118) then some ((-1 : Int32), μ) else if v0 = (nI 119) then some ((nI 7), μ) else some ((-1 : Int32), μ))
set_option maxRecDepth 20000 in
set_option maxHeartbeats 4000000 in
theorem wX10_factOf {X : zX} {F : Nat} (hC : zCx X RX10 cX10_factOf 1 0) (hret : zRt X (some .int)) {v0 : Int32} {μ : zMem} (hf : fX10_factOf F v0 μ = some (zOut X)) : zAW X 0 [some (.int v0)] [] μ := by
  unfold fX10_factOf at hf
  refine zs_il hC dX10_factOf_0 rfl ?_
  refine zs_case (nI 98) (fun hx hf => ?_) (fun e1_98 hf => ?_) hf
  · refine zs_tabI (off := 113) (tgt := 114) hC hx dX10_factOf_1 (by decide) (by decide) rfl (by decide) ?_
    refine zs_k hC dX10_factOf_114 ?_
    exact zs_iret hC hret dX10_factOf_115 hf
  refine zs_case (nI 99) (fun hx hf => ?_) (fun e1_99 hf => ?_) hf
  · refine zs_tabI (off := 121) (tgt := 122) hC hx dX10_factOf_1 (by decide) (by decide) rfl (by decide) ?_
    refine zs_k hC dX10_factOf_122 ?_
    exact zs_iret hC hret dX10_factOf_124 hf
  refine zs_case (nI 100) (fun hx hf => ?_) (fun e1_100 hf => ?_) hf
  · refine zs_tabI (off := 115) (tgt := 116) hC hx dX10_factOf_1 (by decide) (by decide) rfl (by decide) ?_
    refine zs_k hC dX10_factOf_116 ?_
    exact zs_iret hC hret dX10_factOf_118 hf
  refine zs_case (nI 101) (fun hx hf => ?_) (fun e1_101 hf => ?_) hf
  · refine zs_tabI (off := 124) (tgt := 125) hC hx dX10_factOf_1 (by decide) (by decide) rfl (by decide) ?_
    refine zs_k hC dX10_factOf_125 ?_
    exact zs_iret hC hret dX10_factOf_126 hf
  refine zs_case (nI 102) (fun hx hf => ?_) (fun e1_102 hf => ?_) hf
  · refine zs_tabI (off := 124) (tgt := 125) hC hx dX10_factOf_1 (by decide) (by decide) rfl (by decide) ?_
    refine zs_k hC dX10_factOf_125 ?_
    exact zs_iret hC hret dX10_factOf_126 hf
  refine zs_case (nI 103) (fun hx hf => ?_) (fun e1_103 hf => ?_) hf
  · refine zs_tabI (off := 124) (tgt := 125) hC hx dX10_factOf_1 (by decide) (by decide) rfl (by decide) ?_
    refine zs_k hC dX10_factOf_125 ?_
    exact zs_iret hC hret dX10_factOf_126 hf
  refine zs_case (nI 104) (fun hx hf => ?_) (fun e1_104 hf => ?_) hf
  · refine zs_tabI (off := 124) (tgt := 125) hC hx dX10_factOf_1 (by decide) (by decide) rfl (by decide) ?_
    refine zs_k hC dX10_factOf_125 ?_
    exact zs_iret hC hret dX10_factOf_126 hf
  refine zs_case (nI 105) (fun hx hf => ?_) (fun e1_105 hf => ?_) hf
  · refine zs_tabI (off := 124) (tgt := 125) hC hx dX10_factOf_1 (by decide) (by decide) rfl (by decide) ?_
    refine zs_k hC dX10_factOf_125 ?_
    exact zs_iret hC hret dX10_factOf_126 hf
  refine zs_case (nI 106) (fun hx hf => ?_) (fun e1_106 hf => ?_) hf
  · refine zs_tabI (off := 124) (tgt := 125) hC hx dX10_factOf_1 (by decide) (by decide) rfl (by decide) ?_
    refine zs_k hC dX10_factOf_125 ?_
    exact zs_iret hC hret dX10_factOf_126 hf
  refine zs_case (nI 107) (fun hx hf => ?_) (fun e1_107 hf => ?_) hf
  · refine zs_tabI (off := 105) (tgt := 106) hC hx dX10_factOf_1 (by decide) (by decide) rfl (by decide) ?_
    refine zs_k hC dX10_factOf_106 ?_
    exact zs_iret hC hret dX10_factOf_107 hf
  refine zs_case (nI 108) (fun hx hf => ?_) (fun e1_108 hf => ?_) hf
  · refine zs_tabI (off := 124) (tgt := 125) hC hx dX10_factOf_1 (by decide) (by decide) rfl (by decide) ?_
    refine zs_k hC dX10_factOf_125 ?_
    exact zs_iret hC hret dX10_factOf_126 hf
  refine zs_case (nI 109) (fun hx hf => ?_) (fun e1_109 hf => ?_) hf
  · refine zs_tabI (off := 124) (tgt := 125) hC hx dX10_factOf_1 (by decide) (by decide) rfl (by decide) ?_
    refine zs_k hC dX10_factOf_125 ?_
    exact zs_iret hC hret dX10_factOf_126 hf
  refine zs_case (nI 110) (fun hx hf => ?_) (fun e1_110 hf => ?_) hf
  · refine zs_tabI (off := 107) (tgt := 108) hC hx dX10_factOf_1 (by decide) (by decide) rfl (by decide) ?_
    refine zs_k hC dX10_factOf_108 ?_
    exact zs_iret hC hret dX10_factOf_109 hf
  refine zs_case (nI 111) (fun hx hf => ?_) (fun e1_111 hf => ?_) hf
  · refine zs_tabI (off := 109) (tgt := 110) hC hx dX10_factOf_1 (by decide) (by decide) rfl (by decide) ?_
    refine zs_k hC dX10_factOf_110 ?_
    exact zs_iret hC hret dX10_factOf_111 hf
  refine zs_case (nI 112) (fun hx hf => ?_) (fun e1_112 hf => ?_) hf
  · refine zs_tabI (off := 103) (tgt := 104) hC hx dX10_factOf_1 (by decide) (by decide) rfl (by decide) ?_
    refine zs_k hC dX10_factOf_104 ?_
    exact zs_iret hC hret dX10_factOf_105 hf
  refine zs_case (nI 113) (fun hx hf => ?_) (fun e1_113 hf => ?_) hf
  · refine zs_tabI (off := 124) (tgt := 125) hC hx dX10_factOf_1 (by decide) (by decide) rfl (by decide) ?_
    refine zs_k hC dX10_factOf_125 ?_
    exact zs_iret hC hret dX10_factOf_126 hf
  refine zs_case (nI 114) (fun hx hf => ?_) (fun e1_114 hf => ?_) hf
  · refine zs_tabI (off := 124) (tgt := 125) hC hx dX10_factOf_1 (by decide) (by decide) rfl (by decide) ?_
    refine zs_k hC dX10_factOf_125 ?_
    exact zs_iret hC hret dX10_factOf_126 hf
  refine zs_case (nI 115) (fun hx hf => ?_) (fun e1_115 hf => ?_) hf
  · refine zs_tabI (off := 124) (tgt := 125) hC hx dX10_factOf_1 (by decide) (by decide) rfl (by decide) ?_
    refine zs_k hC dX10_factOf_125 ?_
    exact zs_iret hC hret dX10_factOf_126 hf
  refine zs_case (nI 116) (fun hx hf => ?_) (fun e1_116 hf => ?_) hf
  · refine zs_tabI (off := 124) (tgt := 125) hC hx dX10_factOf_1 (by decide) (by decide) rfl (by decide) ?_
    refine zs_k hC dX10_factOf_125 ?_
    exact zs_iret hC hret dX10_factOf_126 hf
  refine zs_case (nI 117) (fun hx hf => ?_) (fun e1_117 hf => ?_) hf
  · refine zs_tabI (off := 111) (tgt := 112) hC hx dX10_factOf_1 (by decide) (by decide) rfl (by decide) ?_
    refine zs_k hC dX10_factOf_112 ?_
    exact zs_iret hC hret dX10_factOf_113 hf
  refine zs_case (nI 118) (fun hx hf => ?_) (fun e1_118 hf => ?_) hf
  · refine zs_tabI (off := 124) (tgt := 125) hC hx dX10_factOf_1 (by decide) (by decide) rfl (by decide) ?_
    refine zs_k hC dX10_factOf_125 ?_
    exact zs_iret hC hret dX10_factOf_126 hf
  refine zs_case (nI 119) (fun hx hf => ?_) (fun e1_119 hf => ?_) hf
  · refine zs_tabI (off := 118) (tgt := 119) hC hx dX10_factOf_1 (by decide) (by decide) rfl (by decide) ?_
    refine zs_k hC dX10_factOf_119 ?_
    exact zs_iret hC hret dX10_factOf_121 hf
  have e1_98 := lv_neT (a := 98) e1_98 (by decide)
  have e1_99 := lv_neT (a := 99) e1_99 (by decide)
  have e1_100 := lv_neT (a := 100) e1_100 (by decide)
  have e1_101 := lv_neT (a := 101) e1_101 (by decide)
  have e1_102 := lv_neT (a := 102) e1_102 (by decide)
  have e1_103 := lv_neT (a := 103) e1_103 (by decide)
  have e1_104 := lv_neT (a := 104) e1_104 (by decide)
  have e1_105 := lv_neT (a := 105) e1_105 (by decide)
  have e1_106 := lv_neT (a := 106) e1_106 (by decide)
  have e1_107 := lv_neT (a := 107) e1_107 (by decide)
  have e1_108 := lv_neT (a := 108) e1_108 (by decide)
  have e1_109 := lv_neT (a := 109) e1_109 (by decide)
  have e1_110 := lv_neT (a := 110) e1_110 (by decide)
  have e1_111 := lv_neT (a := 111) e1_111 (by decide)
  have e1_112 := lv_neT (a := 112) e1_112 (by decide)
  have e1_113 := lv_neT (a := 113) e1_113 (by decide)
  have e1_114 := lv_neT (a := 114) e1_114 (by decide)
  have e1_115 := lv_neT (a := 115) e1_115 (by decide)
  have e1_116 := lv_neT (a := 116) e1_116 (by decide)
  have e1_117 := lv_neT (a := 117) e1_117 (by decide)
  have e1_118 := lv_neT (a := 118) e1_118 (by decide)
  have e1_119 := lv_neT (a := 119) e1_119 (by decide)
  refine zs_tabO (tgt := 125) hC dX10_factOf_1 (by omega) (by decide) ?_
  refine zs_k hC dX10_factOf_125 ?_
  exact zs_iret hC hret dX10_factOf_126 hf
set_option maxRecDepth 20000 in
set_option maxHeartbeats 4000000 in
theorem ctX10_factOf {E : zEV} {F : Nat} {v0 : Int32} {μ : zMem} {out : zR} (hf : fX10_factOf F v0 μ = some out) : zCt E yX10_factOf cX10_factOf 1 (some .int) 0 [.int v0] μ out :=
  zCt.of [some (.int v0)] (by decide +kernel) (Nat.le_of_ble_eq_true rfl) (zLw_s zLw_0) rfl (fun X hE ho hr hC => by
    subst hE; subst ho
    exact wX10_factOf hC hr hf)
/-! C -/
def fX6_readsCondition_8 (F : Nat) (rcreadsCondition : Int32 → zMem → Option zR) (rcreadsTest : Int32 → zMem → Option zR) (rcreadsValue : Int32 → zMem → Option zR) (rcreadsFactor : Int32 → zMem → Option zR) : Nat → Int32 → Int32 → Int32 → Int32 → zMem → Option zR
  | 0, _, _, _, _, _ => none
  | n + 1, v2, v3, v4, v5, μ => if (nI 240) ≤ v5 then some ((nI 0), μ) else zBd (rcreadsTest v2 μ) (fun r1 m1 => if r1 = 0 then some ((nI 0), m1) else zGb (zIsLw ((m1 18 1).toNatClampNeg)) (zBd (fX5_landsHere F ((m1 18 1).toNatClampNeg) v3 m1) (fun r3 m3 => zBd (fX9_takes F (nI 38) m3) (fun r4 m4 => if r4 = 0 then zGb (zIsLw ((m4 18 1).toNatClampNeg)) (zBd (fX5_landsHere F ((m4 18 1).toNatClampNeg) v4 m4) (fun r6 m6 => zBd (fX9_takes F (nI 124) m6) (fun r7 m7 => if r7 = 0 then some ((nI 1), m7) else zGb (zIsLw ((m7 18 1).toNatClampNeg)) (zBd (fX5_puts F ((m7 18 1).toNatClampNeg) (nI 124) (nI 0) m7) (fun r9 m9 => fX6_readsCondition_8 F rcreadsCondition rcreadsTest rcreadsValue rcreadsFactor n v2 (-1 : Int32) r9 (v5 + (nI 1)) m9))))) else zGb (zIsLw ((m4 18 1).toNatClampNeg)) (zBd (fX5_puts F ((m4 18 1).toNatClampNeg) (nI 38) (nI 0) m4) (fun r11 m11 => fX6_readsCondition_8 F rcreadsCondition rcreadsTest rcreadsValue rcreadsFactor n v2 r11 v4 (v5 + (nI 1)) m11))))))
def bX6_readsCondition (F : Nat) (rcreadsCondition : Int32 → zMem → Option zR) (rcreadsTest : Int32 → zMem → Option zR) (rcreadsValue : Int32 → zMem → Option zR) (rcreadsFactor : Int32 → zMem → Option zR) (v2 : Int32) (μ : zMem) : Option zR :=
  fX6_readsCondition_8 F rcreadsCondition rcreadsTest rcreadsValue rcreadsFactor F v2 (-1 : Int32) (-1 : Int32) (nI 0) μ
def fX6_readsTest_17 (F : Nat) (rcreadsCondition : Int32 → zMem → Option zR) (rcreadsTest : Int32 → zMem → Option zR) (rcreadsValue : Int32 → zMem → Option zR) (rcreadsFactor : Int32 → zMem → Option zR) (v2 : Int32) (v3 : Int32) (μ : zMem) : Option zR :=
  if v2 < (nI 6) then zLt (zUp μ 1 2 ((μ 1 2) + (nI 1))) (fun m2 => if v3 = (nI 40) then zBd (rcreadsCondition (v2 + (nI 1)) m2) (fun r3 m3 => if r3 = 0 then some ((nI 0), m3) else zBd (fX9_needs F (nI 41) m3) (fun r4 m4 => if r4 = 0 then some ((nI 0), m4) else some ((nI 1), m4))) else zBd (rcreadsTest (v2 + (nI 1)) m2) (fun r5 m5 => if r5 = 0 then some ((nI 0), m5) else zGb (zIsLw ((m5 18 1).toNatClampNeg)) (zBd (fX5_puts F ((m5 18 1).toNatClampNeg) (nI 33) (nI 0) m5) (fun r7 m7 => some ((nI 1), m7))))) else zBd (fX9_fails F (nI 5) μ) (fun r8 m8 => zGb (decide (r8 = 0 ∨ r8 = 1)) (some (r8, m8)))
def fX6_readsTest_141 (F : Nat) (rcreadsCondition : Int32 → zMem → Option zR) (rcreadsTest : Int32 → zMem → Option zR) (rcreadsValue : Int32 → zMem → Option zR) (rcreadsFactor : Int32 → zMem → Option zR) (v2 : Int32) (v4 : Int32) (μ : zMem) : Option zR :=
  zLt (zUp μ 1 2 ((μ 1 2) + (nI 1))) (fun m2 => zBd (rcreadsValue v2 m2) (fun r3 m3 => if r3 = 0 then some ((nI 0), m3) else zGb (zIsLw ((m3 18 1).toNatClampNeg)) (zBd (fX5_puts F ((m3 18 1).toNatClampNeg) v4 (nI 0) m3) (fun r5 m5 => some ((nI 1), m5)))))
def bX6_readsTest (F : Nat) (rcreadsCondition : Int32 → zMem → Option zR) (rcreadsTest : Int32 → zMem → Option zR) (rcreadsValue : Int32 → zMem → Option zR) (rcreadsFactor : Int32 → zMem → Option zR) (v2 : Int32) (μ : zMem) : Option zR :=
  zBd (fX9_sign F μ) (fun r1 m1 => if r1 = (nI 33) then fX6_readsTest_17 F rcreadsCondition rcreadsTest rcreadsValue rcreadsFactor v2 r1 m1 else if r1 = (nI 40) then fX6_readsTest_17 F rcreadsCondition rcreadsTest rcreadsValue rcreadsFactor v2 r1 m1 else zBd (rcreadsValue v2 m1) (fun r2 m2 => if r2 = 0 then some ((nI 0), m2) else zBd (fX9_sign F m2) (fun r3 m3 => if r3 = (nI 60) then fX6_readsTest_141 F rcreadsCondition rcreadsTest rcreadsValue rcreadsFactor v2 r3 m3 else if r3 = (nI 62) then fX6_readsTest_141 F rcreadsCondition rcreadsTest rcreadsValue rcreadsFactor v2 r3 m3 else if r3 = (nI 61) then fX6_readsTest_141 F rcreadsCondition rcreadsTest rcreadsValue rcreadsFactor v2 r3 m3 else zBd (fX9_fails F (nI 1) m3) (fun r4 m4 => zGb (decide (r4 = 0 ∨ r4 = 1)) (some (r4, m4))))))
def fX6_readsValue_100 (F : Nat) (rcreadsCondition : Int32 → zMem → Option zR) (rcreadsTest : Int32 → zMem → Option zR) (rcreadsValue : Int32 → zMem → Option zR) (rcreadsFactor : Int32 → zMem → Option zR) (k8 : Int32 → Int32 → Int32 → Int32 → zMem → Option zR) (v2 : Int32) (v3 : Int32) (v4 : Int32) (v5 : Int32) (μ : zMem) : Option zR :=
  zLt (zUp μ 1 2 ((μ 1 2) + (nI 1))) (fun m2 => k8 v2 v3 v4 (v5 + (nI 1)) m2)
def fX6_readsValue_66 (F : Nat) (rcreadsCondition : Int32 → zMem → Option zR) (rcreadsTest : Int32 → zMem → Option zR) (rcreadsValue : Int32 → zMem → Option zR) (rcreadsFactor : Int32 → zMem → Option zR) (k8 : Int32 → Int32 → Int32 → Int32 → zMem → Option zR) (v2 : Int32) (v3 : Int32) (v5 : Int32) (v6 : Int32) (μ : zMem) : Option zR :=
  fX6_readsValue_100 F rcreadsCondition rcreadsTest rcreadsValue rcreadsFactor k8 v2 v3 v6 v5 μ
def fX6_readsValue_97 (F : Nat) (rcreadsCondition : Int32 → zMem → Option zR) (rcreadsTest : Int32 → zMem → Option zR) (rcreadsValue : Int32 → zMem → Option zR) (rcreadsFactor : Int32 → zMem → Option zR) (k8 : Int32 → Int32 → Int32 → Int32 → zMem → Option zR) (v2 : Int32) (v4 : Int32) (v5 : Int32) (v6 : Int32) (μ : zMem) : Option zR :=
  fX6_readsValue_100 F rcreadsCondition rcreadsTest rcreadsValue rcreadsFactor k8 v2 v6 v4 v5 μ
def fX6_readsValue_8 (F : Nat) (rcreadsCondition : Int32 → zMem → Option zR) (rcreadsTest : Int32 → zMem → Option zR) (rcreadsValue : Int32 → zMem → Option zR) (rcreadsFactor : Int32 → zMem → Option zR) : Nat → Int32 → Int32 → Int32 → Int32 → zMem → Option zR
  | 0, _, _, _, _, _ => none
  | n + 1, v2, v3, v4, v5, μ => if (nI 240) ≤ v5 then some ((nI 0), μ) else zBd (rcreadsFactor v2 μ) (fun r1 m1 => if r1 = 0 then some ((nI 0), m1) else zGb (zIsLw ((m1 18 1).toNatClampNeg)) (zBd (fX5_joins F ((m1 18 1).toNatClampNeg) v4 m1) (fun r3 m3 => zBd (fX9_sign F m3) (fun r4 m4 => if r4 = (nI 42) then fX6_readsValue_66 F rcreadsCondition rcreadsTest rcreadsValue rcreadsFactor (fX6_readsValue_8 F rcreadsCondition rcreadsTest rcreadsValue rcreadsFactor n) v2 v3 v5 r4 m4 else if r4 = (nI 47) then fX6_readsValue_66 F rcreadsCondition rcreadsTest rcreadsValue rcreadsFactor (fX6_readsValue_8 F rcreadsCondition rcreadsTest rcreadsValue rcreadsFactor n) v2 v3 v5 r4 m4 else if r4 = (nI 37) then fX6_readsValue_66 F rcreadsCondition rcreadsTest rcreadsValue rcreadsFactor (fX6_readsValue_8 F rcreadsCondition rcreadsTest rcreadsValue rcreadsFactor n) v2 v3 v5 r4 m4 else zGb (zIsLw ((m4 18 1).toNatClampNeg)) (zBd (fX5_joins F ((m4 18 1).toNatClampNeg) v3 m4) (fun r6 m6 => if r4 = (nI 43) then fX6_readsValue_97 F rcreadsCondition rcreadsTest rcreadsValue rcreadsFactor (fX6_readsValue_8 F rcreadsCondition rcreadsTest rcreadsValue rcreadsFactor n) v2 (-1 : Int32) v5 r4 m6 else if r4 = (nI 45) then fX6_readsValue_97 F rcreadsCondition rcreadsTest rcreadsValue rcreadsFactor (fX6_readsValue_8 F rcreadsCondition rcreadsTest rcreadsValue rcreadsFactor n) v2 (-1 : Int32) v5 r4 m6 else some ((nI 1), m6)))))))
def bX6_readsValue (F : Nat) (rcreadsCondition : Int32 → zMem → Option zR) (rcreadsTest : Int32 → zMem → Option zR) (rcreadsValue : Int32 → zMem → Option zR) (rcreadsFactor : Int32 → zMem → Option zR) (v2 : Int32) (μ : zMem) : Option zR :=
  fX6_readsValue_8 F rcreadsCondition rcreadsTest rcreadsValue rcreadsFactor F v2 (-1 : Int32) (-1 : Int32) (nI 0) μ
def bX6_readsFactor (F : Nat) (rcreadsCondition : Int32 → zMem → Option zR) (rcreadsTest : Int32 → zMem → Option zR) (rcreadsValue : Int32 → zMem → Option zR) (rcreadsFactor : Int32 → zMem → Option zR) (v2 : Int32) (μ : zMem) : Option zR :=
  zBd (fX9_sign F μ) (fun r1 m1 => if r1 = (nI 91) then if v2 < (nI 6) then zLt (zUp m1 1 2 ((m1 1 2) + (nI 1))) (fun m3 => zBd (rcreadsValue (v2 + (nI 1)) m3) (fun r4 m4 => if r4 = 0 then some ((nI 0), m4) else zBd (fX9_needs F (nI 93) m4) (fun r5 m5 => if r5 = 0 then some ((nI 0), m5) else some ((nI 1), m5)))) else zBd (fX9_fails F (nI 5) m1) (fun r6 m6 => zGb (decide (r6 = 0 ∨ r6 = 1)) (some (r6, m6))) else zBd (fX10_factOf F r1 m1) (fun r7 m7 => if r7 = (-1 : Int32) then zBd (fX9_number F (nI 5) m7) (fun r8 m8 => if r8 = (-1 : Int32) then some ((nI 0), m8) else zGb (zIsLw ((m8 18 1).toNatClampNeg)) (zBd (fX5_puts F ((m8 18 1).toNatClampNeg) (nI 0) r8 m8) (fun r10 m10 => some ((nI 1), m10)))) else zLt (zUp m7 1 2 ((m7 1 2) + (nI 1))) (fun m12 => zGb (zIsLw ((m12 18 1).toNatClampNeg)) (zBd (fX5_puts F ((m12 18 1).toNatClampNeg) (nI 1) r7 m12) (fun r14 m14 => some ((nI 1), m14))))))
def fGC (F : Nat) : Nat → Nat → Int32 → zMem → Option zR
  | 0, _, _, _ => none
  | D + 1, t, v2, μ => if t = 0 then bX6_readsCondition F (fGC F D 0) (fGC F D 1) (fGC F D 2) (fGC F D 3) v2 μ else if t = 1 then bX6_readsTest F (fGC F D 0) (fGC F D 1) (fGC F D 2) (fGC F D 3) v2 μ else if t = 2 then bX6_readsValue F (fGC F D 0) (fGC F D 1) (fGC F D 2) (fGC F D 3) v2 μ else bX6_readsFactor F (fGC F D 0) (fGC F D 1) (fGC F D 2) (fGC F D 3) v2 μ
def fX6_readsCondition (F D : Nat) (v2 : Int32) (μ : zMem) : Option zR := fGC F D 0 v2 μ
def fX6_readsTest (F D : Nat) (v2 : Int32) (μ : zMem) : Option zR := fGC F D 1 v2 μ
def fX6_readsValue (F D : Nat) (v2 : Int32) (μ : zMem) : Option zR := fGC F D 2 v2 μ
def fX6_readsFactor (F D : Nat) (v2 : Int32) (μ : zMem) : Option zR := fGC F D 3 v2 μ
set_option maxRecDepth 20000 in
set_option maxHeartbeats 4000000 in
theorem wX6_readsCondition_8 {X : zX} {F : Nat} {lr lv : Nat} (hC : zCx X RX6 cX6_readsCondition 6 lv) {rcreadsCondition : Int32 → zMem → Option zR} {rcreadsTest : Int32 → zMem → Option zR} {rcreadsValue : Int32 → zMem → Option zR} {rcreadsFactor : Int32 → zMem → Option zR} (hret : zRt X (some .boolean)) (hrcreadsCondition : ∀ (v2 : Int32) (μ : zMem) (o : zR), rcreadsCondition v2 μ = some o → zCt X.1 yX6_readsCondition cX6_readsCondition 6 (some .boolean) lr [.ref 18, .ref 1, .int v2] μ o) (hrcreadsTest : ∀ (v2 : Int32) (μ : zMem) (o : zR), rcreadsTest v2 μ = some o → zCt X.1 yX6_readsTest cX6_readsTest 5 (some .boolean) lr [.ref 18, .ref 1, .int v2] μ o) (hrcreadsValue : ∀ (v2 : Int32) (μ : zMem) (o : zR), rcreadsValue v2 μ = some o → zCt X.1 yX6_readsValue cX6_readsValue 7 (some .boolean) lr [.ref 18, .ref 1, .int v2] μ o) (hrcreadsFactor : ∀ (v2 : Int32) (μ : zMem) (o : zR), rcreadsFactor v2 μ = some o → zCt X.1 yX6_readsFactor cX6_readsFactor 6 (some .boolean) lr [.ref 18, .ref 1, .int v2] μ o) (hlr : lr + 1 ≤ lv) (hlb : 2 ≤ lv) : ∀ (n : Nat) (v2 : Int32) (v3 : Int32) (v4 : Int32) (v5 : Int32) (μ : zMem), fX6_readsCondition_8 F rcreadsCondition rcreadsTest rcreadsValue rcreadsFactor n v2 v3 v4 v5 μ = some (zOut X) → zAW X 8 [some (.ref 18), some (.ref 1), some (.int v2), some (.int v3), some (.int v4), some (.int v5)] [] μ := by
  intro n
  induction n with
  | zero =>
    intro v2 v3 v4 v5 μ hf
    rw [fX6_readsCondition_8] at hf
    cases hf
  | succ n ih =>
    intro v2 v3 v4 v5 μ hf
    rw [fX6_readsCondition_8] at hf
    refine zs_il hC dX6_readsCondition_8 rfl ?_
    refine zs_k hC dX6_readsCondition_10 ?_
    refine zs_ic_ge hC dX6_readsCondition_13 (fun _ hf => ?_) (fun _ hf => ?_) hf
    · refine zs_k hC dX6_readsCondition_98 ?_
      exact zs_zretK hC hret dX6_readsCondition_99 (by decide) hf
    · refine zs_al hC dX6_readsCondition_16 rfl ?_
      refine zs_al hC dX6_readsCondition_17 rfl ?_
      refine zs_il hC dX6_readsCondition_18 rfl ?_
      refine zs_callV [.ref 1, .int v2] hC cw_X6_readsTest cl_RX6_74 zL18 rfl hlr rfl rfl (Nat.le_of_ble_eq_true rfl) dX6_readsCondition_19 (fun _ h => hrcreadsTest _ _ _ h) (fun r1 m1 _ hf => ?_) hf
      show zAW X 22 _ (.int r1 :: _) m1
      refine zs_if_ne hC dX6_readsCondition_22 (fun _ hf => ?_) (fun _ hf => ?_) hf
      · refine zs_k hC dX6_readsCondition_25 ?_
        exact zs_zretK hC hret dX6_readsCondition_26 (by decide) hf
      · refine zs_al hC dX6_readsCondition_27 rfl ?_
        refine zs_getD hC fl_RX6_18 zL18 rfl dX6_readsCondition_28 ?_
        refine zs_gb (fun hd2 hf => ?_) hf
        refine zs_il hC dX6_readsCondition_31 rfl ?_
        refine zs_callV [.int v3] hC cw_X5_landsHere cl_RX6_77 (zLw0 hd2) rfl (by omega) rfl rfl (Nat.le_of_ble_eq_true rfl) dX6_readsCondition_32 (fun _ h => ctX5_landsHere (hd2) h) (fun r3 m3 _ hf => ?_) hf
        show zAW X 35 _ _ m3
        refine zs_k hC dX6_readsCondition_35 ?_
        refine zs_is hC dX6_readsCondition_36 (by decide) rfl ?_
        refine zs_al hC dX6_readsCondition_37 rfl ?_
        refine zs_k hC dX6_readsCondition_38 ?_
        refine zs_callV [.int (nI 38)] hC cw_X9_takes cl_RX6_81 zL1 rfl (by omega) rfl rfl (Nat.le_of_ble_eq_true rfl) dX6_readsCondition_40 (fun _ h => ctX9_takes h) (fun r4 m4 _ hf => ?_) hf
        show zAW X 43 _ (.int r4 :: _) m4
        refine zs_if_eq hC dX6_readsCondition_43 (fun _ hf => ?_) (fun _ hf => ?_) hf
        · refine zs_al hC dX6_readsCondition_60 rfl ?_
          refine zs_getD hC fl_RX6_18 zL18 rfl dX6_readsCondition_61 ?_
          refine zs_gb (fun hd5 hf => ?_) hf
          refine zs_il hC dX6_readsCondition_64 rfl ?_
          refine zs_callV [.int v4] hC cw_X5_landsHere cl_RX6_77 (zLw0 hd5) rfl (by omega) rfl rfl (Nat.le_of_ble_eq_true rfl) dX6_readsCondition_66 (fun _ h => ctX5_landsHere (hd5) h) (fun r6 m6 _ hf => ?_) hf
          show zAW X 69 _ _ m6
          refine zs_al hC dX6_readsCondition_69 rfl ?_
          refine zs_k hC dX6_readsCondition_70 ?_
          refine zs_callV [.int (nI 124)] hC cw_X9_takes cl_RX6_81 zL1 rfl (by omega) rfl rfl (Nat.le_of_ble_eq_true rfl) dX6_readsCondition_72 (fun _ h => ctX9_takes h) (fun r7 m7 _ hf => ?_) hf
          show zAW X 75 _ (.int r7 :: _) m7
          refine zs_if_ne hC dX6_readsCondition_75 (fun _ hf => ?_) (fun _ hf => ?_) hf
          · refine zs_k hC dX6_readsCondition_78 ?_
            exact zs_zretK hC hret dX6_readsCondition_79 (by decide) hf
          · refine zs_al hC dX6_readsCondition_80 rfl ?_
            refine zs_getD hC fl_RX6_18 zL18 rfl dX6_readsCondition_81 ?_
            refine zs_gb (fun hd8 hf => ?_) hf
            refine zs_k hC dX6_readsCondition_84 ?_
            refine zs_k hC dX6_readsCondition_86 ?_
            refine zs_callV [.int (nI 124), .int (nI 0)] hC cw_X5_puts cl_RX6_84 (zLw0 hd8) rfl (by omega) rfl rfl (Nat.le_of_ble_eq_true rfl) dX6_readsCondition_87 (fun _ h => ctX5_puts (hd8) h) (fun r9 m9 _ hf => ?_) hf
            show zAW X 90 _ (.int r9 :: _) m9
            refine zs_is hC dX6_readsCondition_90 (by decide) rfl ?_
            refine zs_iinc (nI 1) hC dX6_readsCondition_92 (by decide) rfl (by decide) rfl ?_
            refine zs_goto hC dX6_readsCondition_95 ?_
            exact zAW.weak (ih _ _ _ _ _ hf) (zLw_s (zLw_s (zLw_s (zLw_s (zLw_s (zLw_s zLw_0))))))
        · refine zs_al hC dX6_readsCondition_46 rfl ?_
          refine zs_getD hC fl_RX6_18 zL18 rfl dX6_readsCondition_47 ?_
          refine zs_gb (fun hd10 hf => ?_) hf
          refine zs_k hC dX6_readsCondition_50 ?_
          refine zs_k hC dX6_readsCondition_52 ?_
          refine zs_callV [.int (nI 38), .int (nI 0)] hC cw_X5_puts cl_RX6_84 (zLw0 hd10) rfl (by omega) rfl rfl (Nat.le_of_ble_eq_true rfl) dX6_readsCondition_53 (fun _ h => ctX5_puts (hd10) h) (fun r11 m11 _ hf => ?_) hf
          show zAW X 56 _ (.int r11 :: _) m11
          refine zs_is hC dX6_readsCondition_56 (by decide) rfl ?_
          refine zs_goto hC dX6_readsCondition_57 ?_
          refine zs_iinc (nI 1) hC dX6_readsCondition_92 (by decide) rfl (by decide) rfl ?_
          refine zs_goto hC dX6_readsCondition_95 ?_
          exact zAW.weak (ih _ _ _ _ _ hf) (zLw_s (zLw_s (zLw_s (zLw_s (zLw_s (zLw_s zLw_0))))))
set_option maxRecDepth 20000 in
set_option maxHeartbeats 4000000 in
theorem wX6_readsCondition {X : zX} {F : Nat} {lr lv : Nat} (hC : zCx X RX6 cX6_readsCondition 6 lv) {rcreadsCondition : Int32 → zMem → Option zR} {rcreadsTest : Int32 → zMem → Option zR} {rcreadsValue : Int32 → zMem → Option zR} {rcreadsFactor : Int32 → zMem → Option zR} (hret : zRt X (some .boolean)) (hrcreadsCondition : ∀ (v2 : Int32) (μ : zMem) (o : zR), rcreadsCondition v2 μ = some o → zCt X.1 yX6_readsCondition cX6_readsCondition 6 (some .boolean) lr [.ref 18, .ref 1, .int v2] μ o) (hrcreadsTest : ∀ (v2 : Int32) (μ : zMem) (o : zR), rcreadsTest v2 μ = some o → zCt X.1 yX6_readsTest cX6_readsTest 5 (some .boolean) lr [.ref 18, .ref 1, .int v2] μ o) (hrcreadsValue : ∀ (v2 : Int32) (μ : zMem) (o : zR), rcreadsValue v2 μ = some o → zCt X.1 yX6_readsValue cX6_readsValue 7 (some .boolean) lr [.ref 18, .ref 1, .int v2] μ o) (hrcreadsFactor : ∀ (v2 : Int32) (μ : zMem) (o : zR), rcreadsFactor v2 μ = some o → zCt X.1 yX6_readsFactor cX6_readsFactor 6 (some .boolean) lr [.ref 18, .ref 1, .int v2] μ o) (hlr : lr + 1 ≤ lv) (hlb : 2 ≤ lv) {v2 : Int32} {μ : zMem} (hf : bX6_readsCondition F rcreadsCondition rcreadsTest rcreadsValue rcreadsFactor v2 μ = some (zOut X)) : zAW X 0 [some (.ref 18), some (.ref 1), some (.int v2), none, none, none] [] μ := by
  unfold bX6_readsCondition at hf
  refine zs_k hC dX6_readsCondition_0 ?_
  refine zs_is hC dX6_readsCondition_1 (by decide) rfl ?_
  refine zs_k hC dX6_readsCondition_2 ?_
  refine zs_is hC dX6_readsCondition_3 (by decide) rfl ?_
  refine zs_k hC dX6_readsCondition_5 ?_
  refine zs_is hC dX6_readsCondition_6 (by decide) rfl ?_
  exact zAW.weak (wX6_readsCondition_8 hC hret hrcreadsCondition hrcreadsTest hrcreadsValue hrcreadsFactor hlr hlb F _ _ _ _ _ hf) (zLw_s (zLw_s (zLw_s (zLw_s (zLw_s (zLw_s zLw_0))))))
set_option maxRecDepth 20000 in
set_option maxHeartbeats 4000000 in
theorem wX6_readsTest_17 {X : zX} {F : Nat} {lr lv : Nat} (hC : zCx X RX6 cX6_readsTest 5 lv) {rcreadsCondition : Int32 → zMem → Option zR} {rcreadsTest : Int32 → zMem → Option zR} {rcreadsValue : Int32 → zMem → Option zR} {rcreadsFactor : Int32 → zMem → Option zR} (hret : zRt X (some .boolean)) (hrcreadsCondition : ∀ (v2 : Int32) (μ : zMem) (o : zR), rcreadsCondition v2 μ = some o → zCt X.1 yX6_readsCondition cX6_readsCondition 6 (some .boolean) lr [.ref 18, .ref 1, .int v2] μ o) (hrcreadsTest : ∀ (v2 : Int32) (μ : zMem) (o : zR), rcreadsTest v2 μ = some o → zCt X.1 yX6_readsTest cX6_readsTest 5 (some .boolean) lr [.ref 18, .ref 1, .int v2] μ o) (hrcreadsValue : ∀ (v2 : Int32) (μ : zMem) (o : zR), rcreadsValue v2 μ = some o → zCt X.1 yX6_readsValue cX6_readsValue 7 (some .boolean) lr [.ref 18, .ref 1, .int v2] μ o) (hrcreadsFactor : ∀ (v2 : Int32) (μ : zMem) (o : zR), rcreadsFactor v2 μ = some o → zCt X.1 yX6_readsFactor cX6_readsFactor 6 (some .boolean) lr [.ref 18, .ref 1, .int v2] μ o) (hlr : lr + 1 ≤ lv) (hlb : 2 ≤ lv) {v2 : Int32} {v3 : Int32} {μ : zMem} (hf : fX6_readsTest_17 F rcreadsCondition rcreadsTest rcreadsValue rcreadsFactor v2 v3 μ = some (zOut X)) : zAW X 17 [some (.ref 18), some (.ref 1), some (.int v2), some (.int v3), none] [] μ := by
  unfold fX6_readsTest_17 at hf
  refine zs_il hC dX6_readsTest_17 rfl ?_
  refine zs_k hC dX6_readsTest_18 ?_
  refine zs_ic_lt hC dX6_readsTest_20 (fun _ hf => ?_) (fun _ hf => ?_) hf
  · refine zs_al hC dX6_readsTest_29 rfl ?_
    refine zs_dup hC dX6_readsTest_30 rfl ?_
    refine zs_getI hC fl_RX6_34 zL1 rfl dX6_readsTest_31 ?_
    refine zs_k hC dX6_readsTest_34 ?_
    refine zs_iadd hC dX6_readsTest_35 ?_
    refine zs_putI hC fl_RX6_34 fp_9_2 zL1 rfl dX6_readsTest_36 ?_
    refine zs_let (fun m2 _ hf => ?_) hf
    refine zs_il hC dX6_readsTest_39 rfl ?_
    refine zs_k hC dX6_readsTest_40 ?_
    refine zs_ic_ne hC dX6_readsTest_42 (fun _ hf => ?_) (fun _ hf => ?_) hf
    · refine zs_al hC dX6_readsTest_45 rfl ?_
      refine zs_al hC dX6_readsTest_46 rfl ?_
      refine zs_il hC dX6_readsTest_47 rfl ?_
      refine zs_k hC dX6_readsTest_48 ?_
      refine zs_iadd hC dX6_readsTest_49 ?_
      refine zs_callV [.ref 1, .int (v2 + (nI 1))] hC cw_X6_readsCondition cl_RX6_58 zL18 rfl hlr rfl rfl (Nat.le_of_ble_eq_true rfl) dX6_readsTest_50 (fun _ h => hrcreadsCondition _ _ _ h) (fun r3 m3 _ hf => ?_) hf
      show zAW X 53 _ (.int r3 :: _) m3
      refine zs_if_eq hC dX6_readsTest_53 (fun _ hf => ?_) (fun _ hf => ?_) hf
      · refine zs_k hC dX6_readsTest_69 ?_
        exact zs_zretK hC hret dX6_readsTest_70 (by decide) hf
      · refine zs_al hC dX6_readsTest_56 rfl ?_
        refine zs_k hC dX6_readsTest_57 ?_
        refine zs_callV [.int (nI 41)] hC cw_X9_needs cl_RX6_55 zL1 rfl (by omega) rfl rfl (Nat.le_of_ble_eq_true rfl) dX6_readsTest_59 (fun _ h => ctX9_needs h) (fun r4 m4 _ hf => ?_) hf
        show zAW X 62 _ (.int r4 :: _) m4
        refine zs_if_eq hC dX6_readsTest_62 (fun _ hf => ?_) (fun _ hf => ?_) hf
        · refine zs_k hC dX6_readsTest_69 ?_
          exact zs_zretK hC hret dX6_readsTest_70 (by decide) hf
        · refine zs_k hC dX6_readsTest_65 ?_
          refine zs_goto hC dX6_readsTest_66 ?_
          exact zs_zretK hC hret dX6_readsTest_70 (by decide) hf
    · refine zs_al hC dX6_readsTest_71 rfl ?_
      refine zs_al hC dX6_readsTest_72 rfl ?_
      refine zs_il hC dX6_readsTest_73 rfl ?_
      refine zs_k hC dX6_readsTest_74 ?_
      refine zs_iadd hC dX6_readsTest_75 ?_
      refine zs_callV [.ref 1, .int (v2 + (nI 1))] hC cw_X6_readsTest cl_RX6_74 zL18 rfl hlr rfl rfl (Nat.le_of_ble_eq_true rfl) dX6_readsTest_76 (fun _ h => hrcreadsTest _ _ _ h) (fun r5 m5 _ hf => ?_) hf
      show zAW X 79 _ (.int r5 :: _) m5
      refine zs_if_ne hC dX6_readsTest_79 (fun _ hf => ?_) (fun _ hf => ?_) hf
      · refine zs_k hC dX6_readsTest_82 ?_
        exact zs_zretK hC hret dX6_readsTest_83 (by decide) hf
      · refine zs_al hC dX6_readsTest_84 rfl ?_
        refine zs_getD hC fl_RX6_18 zL18 rfl dX6_readsTest_85 ?_
        refine zs_gb (fun hd6 hf => ?_) hf
        refine zs_k hC dX6_readsTest_88 ?_
        refine zs_k hC dX6_readsTest_90 ?_
        refine zs_callV [.int (nI 33), .int (nI 0)] hC cw_X5_puts cl_RX6_84 (zLw0 hd6) rfl (by omega) rfl rfl (Nat.le_of_ble_eq_true rfl) dX6_readsTest_91 (fun _ h => ctX5_puts (hd6) h) (fun r7 m7 _ hf => ?_) hf
        show zAW X 94 _ (.int r7 :: _) m7
        refine zs_pop hC dX6_readsTest_94 rfl ?_
        refine zs_k hC dX6_readsTest_95 ?_
        exact zs_zretK hC hret dX6_readsTest_96 (by decide) hf
  · refine zs_al hC dX6_readsTest_23 rfl ?_
    refine zs_k hC dX6_readsTest_24 ?_
    refine zs_callV [.int (nI 5)] hC cw_X9_fails cl_RX6_30 zL1 rfl (by omega) rfl rfl (Nat.le_of_ble_eq_true rfl) dX6_readsTest_25 (fun _ h => ctX9_fails h) (fun r8 m8 _ hf => ?_) hf
    show zAW X 28 _ (.int r8 :: _) m8
    exact zs_zret hC hret dX6_readsTest_28 hf
set_option maxRecDepth 20000 in
set_option maxHeartbeats 4000000 in
theorem wX6_readsTest_141 {X : zX} {F : Nat} {lr lv : Nat} (hC : zCx X RX6 cX6_readsTest 5 lv) {rcreadsCondition : Int32 → zMem → Option zR} {rcreadsTest : Int32 → zMem → Option zR} {rcreadsValue : Int32 → zMem → Option zR} {rcreadsFactor : Int32 → zMem → Option zR} (hret : zRt X (some .boolean)) (hrcreadsCondition : ∀ (v2 : Int32) (μ : zMem) (o : zR), rcreadsCondition v2 μ = some o → zCt X.1 yX6_readsCondition cX6_readsCondition 6 (some .boolean) lr [.ref 18, .ref 1, .int v2] μ o) (hrcreadsTest : ∀ (v2 : Int32) (μ : zMem) (o : zR), rcreadsTest v2 μ = some o → zCt X.1 yX6_readsTest cX6_readsTest 5 (some .boolean) lr [.ref 18, .ref 1, .int v2] μ o) (hrcreadsValue : ∀ (v2 : Int32) (μ : zMem) (o : zR), rcreadsValue v2 μ = some o → zCt X.1 yX6_readsValue cX6_readsValue 7 (some .boolean) lr [.ref 18, .ref 1, .int v2] μ o) (hrcreadsFactor : ∀ (v2 : Int32) (μ : zMem) (o : zR), rcreadsFactor v2 μ = some o → zCt X.1 yX6_readsFactor cX6_readsFactor 6 (some .boolean) lr [.ref 18, .ref 1, .int v2] μ o) (hlr : lr + 1 ≤ lv) (hlb : 2 ≤ lv) {v2 : Int32} {v4 : Int32} {μ : zMem} (hf : fX6_readsTest_141 F rcreadsCondition rcreadsTest rcreadsValue rcreadsFactor v2 v4 μ = some (zOut X)) : zAW X 141 [some (.ref 18), some (.ref 1), some (.int v2), none, some (.int v4)] [] μ := by
  unfold fX6_readsTest_141 at hf
  refine zs_al hC dX6_readsTest_141 rfl ?_
  refine zs_dup hC dX6_readsTest_142 rfl ?_
  refine zs_getI hC fl_RX6_34 zL1 rfl dX6_readsTest_143 ?_
  refine zs_k hC dX6_readsTest_146 ?_
  refine zs_iadd hC dX6_readsTest_147 ?_
  refine zs_putI hC fl_RX6_34 fp_9_2 zL1 rfl dX6_readsTest_148 ?_
  refine zs_let (fun m2 _ hf => ?_) hf
  refine zs_al hC dX6_readsTest_151 rfl ?_
  refine zs_al hC dX6_readsTest_152 rfl ?_
  refine zs_il hC dX6_readsTest_153 rfl ?_
  refine zs_callV [.ref 1, .int v2] hC cw_X6_readsValue cl_RX6_48 zL18 rfl hlr rfl rfl (Nat.le_of_ble_eq_true rfl) dX6_readsTest_154 (fun _ h => hrcreadsValue _ _ _ h) (fun r3 m3 _ hf => ?_) hf
  show zAW X 157 _ (.int r3 :: _) m3
  refine zs_if_ne hC dX6_readsTest_157 (fun _ hf => ?_) (fun _ hf => ?_) hf
  · refine zs_k hC dX6_readsTest_160 ?_
    exact zs_zretK hC hret dX6_readsTest_161 (by decide) hf
  · refine zs_al hC dX6_readsTest_162 rfl ?_
    refine zs_getD hC fl_RX6_18 zL18 rfl dX6_readsTest_163 ?_
    refine zs_gb (fun hd4 hf => ?_) hf
    refine zs_il hC dX6_readsTest_166 rfl ?_
    refine zs_k hC dX6_readsTest_168 ?_
    refine zs_callV [.int v4, .int (nI 0)] hC cw_X5_puts cl_RX6_84 (zLw0 hd4) rfl (by omega) rfl rfl (Nat.le_of_ble_eq_true rfl) dX6_readsTest_169 (fun _ h => ctX5_puts (hd4) h) (fun r5 m5 _ hf => ?_) hf
    show zAW X 172 _ (.int r5 :: _) m5
    refine zs_pop hC dX6_readsTest_172 rfl ?_
    refine zs_k hC dX6_readsTest_173 ?_
    exact zs_zretK hC hret dX6_readsTest_174 (by decide) hf
set_option maxRecDepth 20000 in
set_option maxHeartbeats 4000000 in
theorem wX6_readsTest {X : zX} {F : Nat} {lr lv : Nat} (hC : zCx X RX6 cX6_readsTest 5 lv) {rcreadsCondition : Int32 → zMem → Option zR} {rcreadsTest : Int32 → zMem → Option zR} {rcreadsValue : Int32 → zMem → Option zR} {rcreadsFactor : Int32 → zMem → Option zR} (hret : zRt X (some .boolean)) (hrcreadsCondition : ∀ (v2 : Int32) (μ : zMem) (o : zR), rcreadsCondition v2 μ = some o → zCt X.1 yX6_readsCondition cX6_readsCondition 6 (some .boolean) lr [.ref 18, .ref 1, .int v2] μ o) (hrcreadsTest : ∀ (v2 : Int32) (μ : zMem) (o : zR), rcreadsTest v2 μ = some o → zCt X.1 yX6_readsTest cX6_readsTest 5 (some .boolean) lr [.ref 18, .ref 1, .int v2] μ o) (hrcreadsValue : ∀ (v2 : Int32) (μ : zMem) (o : zR), rcreadsValue v2 μ = some o → zCt X.1 yX6_readsValue cX6_readsValue 7 (some .boolean) lr [.ref 18, .ref 1, .int v2] μ o) (hrcreadsFactor : ∀ (v2 : Int32) (μ : zMem) (o : zR), rcreadsFactor v2 μ = some o → zCt X.1 yX6_readsFactor cX6_readsFactor 6 (some .boolean) lr [.ref 18, .ref 1, .int v2] μ o) (hlr : lr + 1 ≤ lv) (hlb : 2 ≤ lv) {v2 : Int32} {μ : zMem} (hf : bX6_readsTest F rcreadsCondition rcreadsTest rcreadsValue rcreadsFactor v2 μ = some (zOut X)) : zAW X 0 [some (.ref 18), some (.ref 1), some (.int v2), none, none] [] μ := by
  unfold bX6_readsTest at hf
  refine zs_al hC dX6_readsTest_0 rfl ?_
  refine zs_callV [] hC cw_X9_sign cl_RX6_24 zL1 rfl (by omega) rfl rfl (Nat.le_of_ble_eq_true rfl) dX6_readsTest_1 (fun _ h => ctX9_sign h) (fun r1 m1 _ hf => ?_) hf
  show zAW X 4 _ (.int r1 :: _) m1
  refine zs_is hC dX6_readsTest_4 (by decide) rfl ?_
  refine zs_il hC dX6_readsTest_5 rfl ?_
  refine zs_k hC dX6_readsTest_6 ?_
  refine zs_ic_eq hC dX6_readsTest_8 (fun _ hf => ?_) (fun _ hf => ?_) hf
  · exact zAW.weak (wX6_readsTest_17 hC hret hrcreadsCondition hrcreadsTest hrcreadsValue hrcreadsFactor hlr hlb hf) (zLw_s (zLw_s (zLw_s (zLw_s (zLw_n zLw_0)))))
  · refine zs_il hC dX6_readsTest_11 rfl ?_
    refine zs_k hC dX6_readsTest_12 ?_
    refine zs_ic_ne hC dX6_readsTest_14 (fun _ hf => ?_) (fun _ hf => ?_) hf
    · exact zAW.weak (wX6_readsTest_17 hC hret hrcreadsCondition hrcreadsTest hrcreadsValue hrcreadsFactor hlr hlb hf) (zLw_s (zLw_s (zLw_s (zLw_s (zLw_n zLw_0)))))
    · refine zs_al hC dX6_readsTest_97 rfl ?_
      refine zs_al hC dX6_readsTest_98 rfl ?_
      refine zs_il hC dX6_readsTest_99 rfl ?_
      refine zs_callV [.ref 1, .int v2] hC cw_X6_readsValue cl_RX6_48 zL18 rfl hlr rfl rfl (Nat.le_of_ble_eq_true rfl) dX6_readsTest_100 (fun _ h => hrcreadsValue _ _ _ h) (fun r2 m2 _ hf => ?_) hf
      show zAW X 103 _ (.int r2 :: _) m2
      refine zs_if_ne hC dX6_readsTest_103 (fun _ hf => ?_) (fun _ hf => ?_) hf
      · refine zs_k hC dX6_readsTest_106 ?_
        exact zs_zretK hC hret dX6_readsTest_107 (by decide) hf
      · refine zs_al hC dX6_readsTest_108 rfl ?_
        refine zs_callV [] hC cw_X9_sign cl_RX6_24 zL1 rfl (by omega) rfl rfl (Nat.le_of_ble_eq_true rfl) dX6_readsTest_109 (fun _ h => ctX9_sign h) (fun r3 m3 _ hf => ?_) hf
        show zAW X 112 _ (.int r3 :: _) m3
        refine zs_is hC dX6_readsTest_112 (by decide) rfl ?_
        refine zs_il hC dX6_readsTest_114 rfl ?_
        refine zs_k hC dX6_readsTest_116 ?_
        refine zs_ic_eq hC dX6_readsTest_118 (fun _ hf => ?_) (fun _ hf => ?_) hf
        · exact zAW.weak (wX6_readsTest_141 hC hret hrcreadsCondition hrcreadsTest hrcreadsValue hrcreadsFactor hlr hlb hf) (zLw_s (zLw_s (zLw_s (zLw_n (zLw_s zLw_0)))))
        · refine zs_il hC dX6_readsTest_121 rfl ?_
          refine zs_k hC dX6_readsTest_123 ?_
          refine zs_ic_eq hC dX6_readsTest_125 (fun _ hf => ?_) (fun _ hf => ?_) hf
          · exact zAW.weak (wX6_readsTest_141 hC hret hrcreadsCondition hrcreadsTest hrcreadsValue hrcreadsFactor hlr hlb hf) (zLw_s (zLw_s (zLw_s (zLw_n (zLw_s zLw_0)))))
          · refine zs_il hC dX6_readsTest_128 rfl ?_
            refine zs_k hC dX6_readsTest_130 ?_
            refine zs_ic_eq hC dX6_readsTest_132 (fun _ hf => ?_) (fun _ hf => ?_) hf
            · exact zAW.weak (wX6_readsTest_141 hC hret hrcreadsCondition hrcreadsTest hrcreadsValue hrcreadsFactor hlr hlb hf) (zLw_s (zLw_s (zLw_s (zLw_n (zLw_s zLw_0)))))
            · refine zs_al hC dX6_readsTest_135 rfl ?_
              refine zs_k hC dX6_readsTest_136 ?_
              refine zs_callV [.int (nI 1)] hC cw_X9_fails cl_RX6_30 zL1 rfl (by omega) rfl rfl (Nat.le_of_ble_eq_true rfl) dX6_readsTest_137 (fun _ h => ctX9_fails h) (fun r4 m4 _ hf => ?_) hf
              show zAW X 140 _ (.int r4 :: _) m4
              exact zs_zret hC hret dX6_readsTest_140 hf
set_option maxRecDepth 20000 in
set_option maxHeartbeats 4000000 in
theorem wX6_readsValue_100 {X : zX} {F : Nat} {lr lv : Nat} (hC : zCx X RX6 cX6_readsValue 7 lv) {rcreadsCondition : Int32 → zMem → Option zR} {rcreadsTest : Int32 → zMem → Option zR} {rcreadsValue : Int32 → zMem → Option zR} {rcreadsFactor : Int32 → zMem → Option zR} (hret : zRt X (some .boolean)) (hrcreadsCondition : ∀ (v2 : Int32) (μ : zMem) (o : zR), rcreadsCondition v2 μ = some o → zCt X.1 yX6_readsCondition cX6_readsCondition 6 (some .boolean) lr [.ref 18, .ref 1, .int v2] μ o) (hrcreadsTest : ∀ (v2 : Int32) (μ : zMem) (o : zR), rcreadsTest v2 μ = some o → zCt X.1 yX6_readsTest cX6_readsTest 5 (some .boolean) lr [.ref 18, .ref 1, .int v2] μ o) (hrcreadsValue : ∀ (v2 : Int32) (μ : zMem) (o : zR), rcreadsValue v2 μ = some o → zCt X.1 yX6_readsValue cX6_readsValue 7 (some .boolean) lr [.ref 18, .ref 1, .int v2] μ o) (hrcreadsFactor : ∀ (v2 : Int32) (μ : zMem) (o : zR), rcreadsFactor v2 μ = some o → zCt X.1 yX6_readsFactor cX6_readsFactor 6 (some .boolean) lr [.ref 18, .ref 1, .int v2] μ o) (hlr : lr + 1 ≤ lv) (hlb : 2 ≤ lv) {k8 : Int32 → Int32 → Int32 → Int32 → zMem → Option zR} (hk8 : ∀ v2 v3 v4 v5 μ, k8 v2 v3 v4 v5 μ = some (zOut X) → zAW X 8 [some (.ref 18), some (.ref 1), some (.int v2), some (.int v3), some (.int v4), some (.int v5), none] [] μ) {v2 : Int32} {v3 : Int32} {v4 : Int32} {v5 : Int32} {μ : zMem} (hf : fX6_readsValue_100 F rcreadsCondition rcreadsTest rcreadsValue rcreadsFactor k8 v2 v3 v4 v5 μ = some (zOut X)) : zAW X 100 [some (.ref 18), some (.ref 1), some (.int v2), some (.int v3), some (.int v4), some (.int v5), none] [] μ := by
  unfold fX6_readsValue_100 at hf
  refine zs_al hC dX6_readsValue_100 rfl ?_
  refine zs_dup hC dX6_readsValue_101 rfl ?_
  refine zs_getI hC fl_RX6_34 zL1 rfl dX6_readsValue_102 ?_
  refine zs_k hC dX6_readsValue_105 ?_
  refine zs_iadd hC dX6_readsValue_106 ?_
  refine zs_putI hC fl_RX6_34 fp_9_2 zL1 rfl dX6_readsValue_107 ?_
  refine zs_let (fun m2 _ hf => ?_) hf
  refine zs_iinc (nI 1) hC dX6_readsValue_110 (by decide) rfl (by decide) rfl ?_
  refine zs_goto hC dX6_readsValue_113 ?_
  exact zAW.weak (hk8 _ _ _ _ _ hf) (zLw_s (zLw_s (zLw_s (zLw_s (zLw_s (zLw_s (zLw_n zLw_0)))))))
set_option maxRecDepth 20000 in
set_option maxHeartbeats 4000000 in
theorem wX6_readsValue_66 {X : zX} {F : Nat} {lr lv : Nat} (hC : zCx X RX6 cX6_readsValue 7 lv) {rcreadsCondition : Int32 → zMem → Option zR} {rcreadsTest : Int32 → zMem → Option zR} {rcreadsValue : Int32 → zMem → Option zR} {rcreadsFactor : Int32 → zMem → Option zR} (hret : zRt X (some .boolean)) (hrcreadsCondition : ∀ (v2 : Int32) (μ : zMem) (o : zR), rcreadsCondition v2 μ = some o → zCt X.1 yX6_readsCondition cX6_readsCondition 6 (some .boolean) lr [.ref 18, .ref 1, .int v2] μ o) (hrcreadsTest : ∀ (v2 : Int32) (μ : zMem) (o : zR), rcreadsTest v2 μ = some o → zCt X.1 yX6_readsTest cX6_readsTest 5 (some .boolean) lr [.ref 18, .ref 1, .int v2] μ o) (hrcreadsValue : ∀ (v2 : Int32) (μ : zMem) (o : zR), rcreadsValue v2 μ = some o → zCt X.1 yX6_readsValue cX6_readsValue 7 (some .boolean) lr [.ref 18, .ref 1, .int v2] μ o) (hrcreadsFactor : ∀ (v2 : Int32) (μ : zMem) (o : zR), rcreadsFactor v2 μ = some o → zCt X.1 yX6_readsFactor cX6_readsFactor 6 (some .boolean) lr [.ref 18, .ref 1, .int v2] μ o) (hlr : lr + 1 ≤ lv) (hlb : 2 ≤ lv) {k8 : Int32 → Int32 → Int32 → Int32 → zMem → Option zR} (hk8 : ∀ v2 v3 v4 v5 μ, k8 v2 v3 v4 v5 μ = some (zOut X) → zAW X 8 [some (.ref 18), some (.ref 1), some (.int v2), some (.int v3), some (.int v4), some (.int v5), none] [] μ) {v2 : Int32} {v3 : Int32} {v5 : Int32} {v6 : Int32} {μ : zMem} (hf : fX6_readsValue_66 F rcreadsCondition rcreadsTest rcreadsValue rcreadsFactor k8 v2 v3 v5 v6 μ = some (zOut X)) : zAW X 66 [some (.ref 18), some (.ref 1), some (.int v2), some (.int v3), none, some (.int v5), some (.int v6)] [] μ := by
  unfold fX6_readsValue_66 at hf
  refine zs_il hC dX6_readsValue_66 rfl ?_
  refine zs_is hC dX6_readsValue_68 (by decide) rfl ?_
  refine zs_goto hC dX6_readsValue_70 ?_
  exact zAW.weak (wX6_readsValue_100 hC hret hrcreadsCondition hrcreadsTest hrcreadsValue hrcreadsFactor hlr hlb hk8 hf) (zLw_s (zLw_s (zLw_s (zLw_s (zLw_s (zLw_s (zLw_n zLw_0)))))))
set_option maxRecDepth 20000 in
set_option maxHeartbeats 4000000 in
theorem wX6_readsValue_97 {X : zX} {F : Nat} {lr lv : Nat} (hC : zCx X RX6 cX6_readsValue 7 lv) {rcreadsCondition : Int32 → zMem → Option zR} {rcreadsTest : Int32 → zMem → Option zR} {rcreadsValue : Int32 → zMem → Option zR} {rcreadsFactor : Int32 → zMem → Option zR} (hret : zRt X (some .boolean)) (hrcreadsCondition : ∀ (v2 : Int32) (μ : zMem) (o : zR), rcreadsCondition v2 μ = some o → zCt X.1 yX6_readsCondition cX6_readsCondition 6 (some .boolean) lr [.ref 18, .ref 1, .int v2] μ o) (hrcreadsTest : ∀ (v2 : Int32) (μ : zMem) (o : zR), rcreadsTest v2 μ = some o → zCt X.1 yX6_readsTest cX6_readsTest 5 (some .boolean) lr [.ref 18, .ref 1, .int v2] μ o) (hrcreadsValue : ∀ (v2 : Int32) (μ : zMem) (o : zR), rcreadsValue v2 μ = some o → zCt X.1 yX6_readsValue cX6_readsValue 7 (some .boolean) lr [.ref 18, .ref 1, .int v2] μ o) (hrcreadsFactor : ∀ (v2 : Int32) (μ : zMem) (o : zR), rcreadsFactor v2 μ = some o → zCt X.1 yX6_readsFactor cX6_readsFactor 6 (some .boolean) lr [.ref 18, .ref 1, .int v2] μ o) (hlr : lr + 1 ≤ lv) (hlb : 2 ≤ lv) {k8 : Int32 → Int32 → Int32 → Int32 → zMem → Option zR} (hk8 : ∀ v2 v3 v4 v5 μ, k8 v2 v3 v4 v5 μ = some (zOut X) → zAW X 8 [some (.ref 18), some (.ref 1), some (.int v2), some (.int v3), some (.int v4), some (.int v5), none] [] μ) {v2 : Int32} {v4 : Int32} {v5 : Int32} {v6 : Int32} {μ : zMem} (hf : fX6_readsValue_97 F rcreadsCondition rcreadsTest rcreadsValue rcreadsFactor k8 v2 v4 v5 v6 μ = some (zOut X)) : zAW X 97 [some (.ref 18), some (.ref 1), some (.int v2), none, some (.int v4), some (.int v5), some (.int v6)] [] μ := by
  unfold fX6_readsValue_97 at hf
  refine zs_il hC dX6_readsValue_97 rfl ?_
  refine zs_is hC dX6_readsValue_99 (by decide) rfl ?_
  exact zAW.weak (wX6_readsValue_100 hC hret hrcreadsCondition hrcreadsTest hrcreadsValue hrcreadsFactor hlr hlb hk8 hf) (zLw_s (zLw_s (zLw_s (zLw_s (zLw_s (zLw_s (zLw_n zLw_0)))))))
set_option maxRecDepth 20000 in
set_option maxHeartbeats 4000000 in
theorem wX6_readsValue_8 {X : zX} {F : Nat} {lr lv : Nat} (hC : zCx X RX6 cX6_readsValue 7 lv) {rcreadsCondition : Int32 → zMem → Option zR} {rcreadsTest : Int32 → zMem → Option zR} {rcreadsValue : Int32 → zMem → Option zR} {rcreadsFactor : Int32 → zMem → Option zR} (hret : zRt X (some .boolean)) (hrcreadsCondition : ∀ (v2 : Int32) (μ : zMem) (o : zR), rcreadsCondition v2 μ = some o → zCt X.1 yX6_readsCondition cX6_readsCondition 6 (some .boolean) lr [.ref 18, .ref 1, .int v2] μ o) (hrcreadsTest : ∀ (v2 : Int32) (μ : zMem) (o : zR), rcreadsTest v2 μ = some o → zCt X.1 yX6_readsTest cX6_readsTest 5 (some .boolean) lr [.ref 18, .ref 1, .int v2] μ o) (hrcreadsValue : ∀ (v2 : Int32) (μ : zMem) (o : zR), rcreadsValue v2 μ = some o → zCt X.1 yX6_readsValue cX6_readsValue 7 (some .boolean) lr [.ref 18, .ref 1, .int v2] μ o) (hrcreadsFactor : ∀ (v2 : Int32) (μ : zMem) (o : zR), rcreadsFactor v2 μ = some o → zCt X.1 yX6_readsFactor cX6_readsFactor 6 (some .boolean) lr [.ref 18, .ref 1, .int v2] μ o) (hlr : lr + 1 ≤ lv) (hlb : 2 ≤ lv) : ∀ (n : Nat) (v2 : Int32) (v3 : Int32) (v4 : Int32) (v5 : Int32) (μ : zMem), fX6_readsValue_8 F rcreadsCondition rcreadsTest rcreadsValue rcreadsFactor n v2 v3 v4 v5 μ = some (zOut X) → zAW X 8 [some (.ref 18), some (.ref 1), some (.int v2), some (.int v3), some (.int v4), some (.int v5), none] [] μ := by
  intro n
  induction n with
  | zero =>
    intro v2 v3 v4 v5 μ hf
    rw [fX6_readsValue_8] at hf
    cases hf
  | succ n ih =>
    intro v2 v3 v4 v5 μ hf
    rw [fX6_readsValue_8] at hf
    refine zs_il hC dX6_readsValue_8 rfl ?_
    refine zs_k hC dX6_readsValue_10 ?_
    refine zs_ic_ge hC dX6_readsValue_13 (fun _ hf => ?_) (fun _ hf => ?_) hf
    · refine zs_k hC dX6_readsValue_116 ?_
      exact zs_zretK hC hret dX6_readsValue_117 (by decide) hf
    · refine zs_al hC dX6_readsValue_16 rfl ?_
      refine zs_al hC dX6_readsValue_17 rfl ?_
      refine zs_il hC dX6_readsValue_18 rfl ?_
      refine zs_callV [.ref 1, .int v2] hC cw_X6_readsFactor cl_RX6_88 zL18 rfl hlr rfl rfl (Nat.le_of_ble_eq_true rfl) dX6_readsValue_19 (fun _ h => hrcreadsFactor _ _ _ h) (fun r1 m1 _ hf => ?_) hf
      show zAW X 22 _ (.int r1 :: _) m1
      refine zs_if_ne hC dX6_readsValue_22 (fun _ hf => ?_) (fun _ hf => ?_) hf
      · refine zs_k hC dX6_readsValue_25 ?_
        exact zs_zretK hC hret dX6_readsValue_26 (by decide) hf
      · refine zs_al hC dX6_readsValue_27 rfl ?_
        refine zs_getD hC fl_RX6_18 zL18 rfl dX6_readsValue_28 ?_
        refine zs_gb (fun hd2 hf => ?_) hf
        refine zs_il hC dX6_readsValue_31 rfl ?_
        refine zs_callV [.int v4] hC cw_X5_joins cl_RX6_91 (zLw0 hd2) rfl (by omega) rfl rfl (Nat.le_of_ble_eq_true rfl) dX6_readsValue_33 (fun _ h => ctX5_joins (hd2) h) (fun r3 m3 _ hf => ?_) hf
        show zAW X 36 _ _ m3
        refine zs_k hC dX6_readsValue_36 ?_
        refine zs_is hC dX6_readsValue_37 (by decide) rfl ?_
        refine zs_al hC dX6_readsValue_39 rfl ?_
        refine zs_callV [] hC cw_X9_sign cl_RX6_24 zL1 rfl (by omega) rfl rfl (Nat.le_of_ble_eq_true rfl) dX6_readsValue_40 (fun _ h => ctX9_sign h) (fun r4 m4 _ hf => ?_) hf
        show zAW X 43 _ (.int r4 :: _) m4
        refine zs_is hC dX6_readsValue_43 (by decide) rfl ?_
        refine zs_il hC dX6_readsValue_45 rfl ?_
        refine zs_k hC dX6_readsValue_47 ?_
        refine zs_ic_eq hC dX6_readsValue_49 (fun _ hf => ?_) (fun _ hf => ?_) hf
        · exact zAW.weak (wX6_readsValue_66 hC hret hrcreadsCondition hrcreadsTest hrcreadsValue hrcreadsFactor hlr hlb (ih) hf) (zLw_s (zLw_s (zLw_s (zLw_s (zLw_n (zLw_s (zLw_s zLw_0)))))))
        · refine zs_il hC dX6_readsValue_52 rfl ?_
          refine zs_k hC dX6_readsValue_54 ?_
          refine zs_ic_eq hC dX6_readsValue_56 (fun _ hf => ?_) (fun _ hf => ?_) hf
          · exact zAW.weak (wX6_readsValue_66 hC hret hrcreadsCondition hrcreadsTest hrcreadsValue hrcreadsFactor hlr hlb (ih) hf) (zLw_s (zLw_s (zLw_s (zLw_s (zLw_n (zLw_s (zLw_s zLw_0)))))))
          · refine zs_il hC dX6_readsValue_59 rfl ?_
            refine zs_k hC dX6_readsValue_61 ?_
            refine zs_ic_ne hC dX6_readsValue_63 (fun _ hf => ?_) (fun _ hf => ?_) hf
            · exact zAW.weak (wX6_readsValue_66 hC hret hrcreadsCondition hrcreadsTest hrcreadsValue hrcreadsFactor hlr hlb (ih) hf) (zLw_s (zLw_s (zLw_s (zLw_s (zLw_n (zLw_s (zLw_s zLw_0)))))))
            · refine zs_al hC dX6_readsValue_73 rfl ?_
              refine zs_getD hC fl_RX6_18 zL18 rfl dX6_readsValue_74 ?_
              refine zs_gb (fun hd5 hf => ?_) hf
              refine zs_il hC dX6_readsValue_77 rfl ?_
              refine zs_callV [.int v3] hC cw_X5_joins cl_RX6_91 (zLw0 hd5) rfl (by omega) rfl rfl (Nat.le_of_ble_eq_true rfl) dX6_readsValue_78 (fun _ h => ctX5_joins (hd5) h) (fun r6 m6 _ hf => ?_) hf
              show zAW X 81 _ _ m6
              refine zs_il hC dX6_readsValue_81 rfl ?_
              refine zs_k hC dX6_readsValue_83 ?_
              refine zs_ic_eq hC dX6_readsValue_85 (fun _ hf => ?_) (fun _ hf => ?_) hf
              · exact zAW.weak (wX6_readsValue_97 hC hret hrcreadsCondition hrcreadsTest hrcreadsValue hrcreadsFactor hlr hlb (ih) hf) (zLw_s (zLw_s (zLw_s (zLw_n (zLw_s (zLw_s (zLw_s zLw_0)))))))
              · refine zs_il hC dX6_readsValue_88 rfl ?_
                refine zs_k hC dX6_readsValue_90 ?_
                refine zs_ic_eq hC dX6_readsValue_92 (fun _ hf => ?_) (fun _ hf => ?_) hf
                · exact zAW.weak (wX6_readsValue_97 hC hret hrcreadsCondition hrcreadsTest hrcreadsValue hrcreadsFactor hlr hlb (ih) hf) (zLw_s (zLw_s (zLw_s (zLw_n (zLw_s (zLw_s (zLw_s zLw_0)))))))
                · refine zs_k hC dX6_readsValue_95 ?_
                  exact zs_zretK hC hret dX6_readsValue_96 (by decide) hf
set_option maxRecDepth 20000 in
set_option maxHeartbeats 4000000 in
theorem wX6_readsValue {X : zX} {F : Nat} {lr lv : Nat} (hC : zCx X RX6 cX6_readsValue 7 lv) {rcreadsCondition : Int32 → zMem → Option zR} {rcreadsTest : Int32 → zMem → Option zR} {rcreadsValue : Int32 → zMem → Option zR} {rcreadsFactor : Int32 → zMem → Option zR} (hret : zRt X (some .boolean)) (hrcreadsCondition : ∀ (v2 : Int32) (μ : zMem) (o : zR), rcreadsCondition v2 μ = some o → zCt X.1 yX6_readsCondition cX6_readsCondition 6 (some .boolean) lr [.ref 18, .ref 1, .int v2] μ o) (hrcreadsTest : ∀ (v2 : Int32) (μ : zMem) (o : zR), rcreadsTest v2 μ = some o → zCt X.1 yX6_readsTest cX6_readsTest 5 (some .boolean) lr [.ref 18, .ref 1, .int v2] μ o) (hrcreadsValue : ∀ (v2 : Int32) (μ : zMem) (o : zR), rcreadsValue v2 μ = some o → zCt X.1 yX6_readsValue cX6_readsValue 7 (some .boolean) lr [.ref 18, .ref 1, .int v2] μ o) (hrcreadsFactor : ∀ (v2 : Int32) (μ : zMem) (o : zR), rcreadsFactor v2 μ = some o → zCt X.1 yX6_readsFactor cX6_readsFactor 6 (some .boolean) lr [.ref 18, .ref 1, .int v2] μ o) (hlr : lr + 1 ≤ lv) (hlb : 2 ≤ lv) {v2 : Int32} {μ : zMem} (hf : bX6_readsValue F rcreadsCondition rcreadsTest rcreadsValue rcreadsFactor v2 μ = some (zOut X)) : zAW X 0 [some (.ref 18), some (.ref 1), some (.int v2), none, none, none, none] [] μ := by
  unfold bX6_readsValue at hf
  refine zs_k hC dX6_readsValue_0 ?_
  refine zs_is hC dX6_readsValue_1 (by decide) rfl ?_
  refine zs_k hC dX6_readsValue_2 ?_
  refine zs_is hC dX6_readsValue_3 (by decide) rfl ?_
  refine zs_k hC dX6_readsValue_5 ?_
  refine zs_is hC dX6_readsValue_6 (by decide) rfl ?_
  exact zAW.weak (wX6_readsValue_8 hC hret hrcreadsCondition hrcreadsTest hrcreadsValue hrcreadsFactor hlr hlb F _ _ _ _ _ hf) (zLw_s (zLw_s (zLw_s (zLw_s (zLw_s (zLw_s (zLw_n zLw_0)))))))
set_option maxRecDepth 20000 in
set_option maxHeartbeats 4000000 in
theorem wX6_readsFactor {X : zX} {F : Nat} {lr lv : Nat} (hC : zCx X RX6 cX6_readsFactor 6 lv) {rcreadsCondition : Int32 → zMem → Option zR} {rcreadsTest : Int32 → zMem → Option zR} {rcreadsValue : Int32 → zMem → Option zR} {rcreadsFactor : Int32 → zMem → Option zR} (hret : zRt X (some .boolean)) (hrcreadsCondition : ∀ (v2 : Int32) (μ : zMem) (o : zR), rcreadsCondition v2 μ = some o → zCt X.1 yX6_readsCondition cX6_readsCondition 6 (some .boolean) lr [.ref 18, .ref 1, .int v2] μ o) (hrcreadsTest : ∀ (v2 : Int32) (μ : zMem) (o : zR), rcreadsTest v2 μ = some o → zCt X.1 yX6_readsTest cX6_readsTest 5 (some .boolean) lr [.ref 18, .ref 1, .int v2] μ o) (hrcreadsValue : ∀ (v2 : Int32) (μ : zMem) (o : zR), rcreadsValue v2 μ = some o → zCt X.1 yX6_readsValue cX6_readsValue 7 (some .boolean) lr [.ref 18, .ref 1, .int v2] μ o) (hrcreadsFactor : ∀ (v2 : Int32) (μ : zMem) (o : zR), rcreadsFactor v2 μ = some o → zCt X.1 yX6_readsFactor cX6_readsFactor 6 (some .boolean) lr [.ref 18, .ref 1, .int v2] μ o) (hlr : lr + 1 ≤ lv) (hlb : 2 ≤ lv) {v2 : Int32} {μ : zMem} (hf : bX6_readsFactor F rcreadsCondition rcreadsTest rcreadsValue rcreadsFactor v2 μ = some (zOut X)) : zAW X 0 [some (.ref 18), some (.ref 1), some (.int v2), none, none, none] [] μ := by
  unfold bX6_readsFactor at hf
  refine zs_al hC dX6_readsFactor_0 rfl ?_
  refine zs_callV [] hC cw_X9_sign cl_RX6_24 zL1 rfl (by omega) rfl rfl (Nat.le_of_ble_eq_true rfl) dX6_readsFactor_1 (fun _ h => ctX9_sign h) (fun r1 m1 _ hf => ?_) hf
  show zAW X 4 _ (.int r1 :: _) m1
  refine zs_is hC dX6_readsFactor_4 (by decide) rfl ?_
  refine zs_il hC dX6_readsFactor_5 rfl ?_
  refine zs_k hC dX6_readsFactor_6 ?_
  refine zs_ic_ne hC dX6_readsFactor_8 (fun _ hf => ?_) (fun _ hf => ?_) hf
  · refine zs_il hC dX6_readsFactor_11 rfl ?_
    refine zs_k hC dX6_readsFactor_12 ?_
    refine zs_ic_lt hC dX6_readsFactor_14 (fun _ hf => ?_) (fun _ hf => ?_) hf
    · refine zs_al hC dX6_readsFactor_23 rfl ?_
      refine zs_dup hC dX6_readsFactor_24 rfl ?_
      refine zs_getI hC fl_RX6_34 zL1 rfl dX6_readsFactor_25 ?_
      refine zs_k hC dX6_readsFactor_28 ?_
      refine zs_iadd hC dX6_readsFactor_29 ?_
      refine zs_putI hC fl_RX6_34 fp_9_2 zL1 rfl dX6_readsFactor_30 ?_
      refine zs_let (fun m3 _ hf => ?_) hf
      refine zs_al hC dX6_readsFactor_33 rfl ?_
      refine zs_al hC dX6_readsFactor_34 rfl ?_
      refine zs_il hC dX6_readsFactor_35 rfl ?_
      refine zs_k hC dX6_readsFactor_36 ?_
      refine zs_iadd hC dX6_readsFactor_37 ?_
      refine zs_callV [.ref 1, .int (v2 + (nI 1))] hC cw_X6_readsValue cl_RX6_48 zL18 rfl hlr rfl rfl (Nat.le_of_ble_eq_true rfl) dX6_readsFactor_38 (fun _ h => hrcreadsValue _ _ _ h) (fun r4 m4 _ hf => ?_) hf
      show zAW X 41 _ (.int r4 :: _) m4
      refine zs_if_eq hC dX6_readsFactor_41 (fun _ hf => ?_) (fun _ hf => ?_) hf
      · refine zs_k hC dX6_readsFactor_57 ?_
        exact zs_zretK hC hret dX6_readsFactor_58 (by decide) hf
      · refine zs_al hC dX6_readsFactor_44 rfl ?_
        refine zs_k hC dX6_readsFactor_45 ?_
        refine zs_callV [.int (nI 93)] hC cw_X9_needs cl_RX6_55 zL1 rfl (by omega) rfl rfl (Nat.le_of_ble_eq_true rfl) dX6_readsFactor_47 (fun _ h => ctX9_needs h) (fun r5 m5 _ hf => ?_) hf
        show zAW X 50 _ (.int r5 :: _) m5
        refine zs_if_eq hC dX6_readsFactor_50 (fun _ hf => ?_) (fun _ hf => ?_) hf
        · refine zs_k hC dX6_readsFactor_57 ?_
          exact zs_zretK hC hret dX6_readsFactor_58 (by decide) hf
        · refine zs_k hC dX6_readsFactor_53 ?_
          refine zs_goto hC dX6_readsFactor_54 ?_
          exact zs_zretK hC hret dX6_readsFactor_58 (by decide) hf
    · refine zs_al hC dX6_readsFactor_17 rfl ?_
      refine zs_k hC dX6_readsFactor_18 ?_
      refine zs_callV [.int (nI 5)] hC cw_X9_fails cl_RX6_30 zL1 rfl (by omega) rfl rfl (Nat.le_of_ble_eq_true rfl) dX6_readsFactor_19 (fun _ h => ctX9_fails h) (fun r6 m6 _ hf => ?_) hf
      show zAW X 22 _ (.int r6 :: _) m6
      exact zs_zret hC hret dX6_readsFactor_22 hf
  · refine zs_il hC dX6_readsFactor_59 rfl ?_
    refine zs_callS [.int r1] hC cw_X10_factOf cl_RX6_94 (by omega) rfl rfl (Nat.le_of_ble_eq_true rfl) dX6_readsFactor_60 (fun _ h => ctX10_factOf h) (fun r7 m7 _ hf => ?_) hf
    show zAW X 63 _ (.int r7 :: _) m7
    refine zs_is hC dX6_readsFactor_63 (by decide) rfl ?_
    refine zs_il hC dX6_readsFactor_65 rfl ?_
    refine zs_k hC dX6_readsFactor_67 ?_
    refine zs_ic_eq hC dX6_readsFactor_68 (fun _ hf => ?_) (fun _ hf => ?_) hf
    · refine zs_al hC dX6_readsFactor_94 rfl ?_
      refine zs_k hC dX6_readsFactor_95 ?_
      refine zs_callV [.int (nI 5)] hC cw_X9_number cl_RX6_100 zL1 rfl (by omega) rfl rfl (Nat.le_of_ble_eq_true rfl) dX6_readsFactor_96 (fun _ h => ctX9_number h) (fun r8 m8 _ hf => ?_) hf
      show zAW X 99 _ (.int r8 :: _) m8
      refine zs_is hC dX6_readsFactor_99 (by decide) rfl ?_
      refine zs_il hC dX6_readsFactor_101 rfl ?_
      refine zs_k hC dX6_readsFactor_103 ?_
      refine zs_ic_ne hC dX6_readsFactor_104 (fun _ hf => ?_) (fun _ hf => ?_) hf
      · refine zs_k hC dX6_readsFactor_107 ?_
        exact zs_zretK hC hret dX6_readsFactor_108 (by decide) hf
      · refine zs_al hC dX6_readsFactor_109 rfl ?_
        refine zs_getD hC fl_RX6_18 zL18 rfl dX6_readsFactor_110 ?_
        refine zs_gb (fun hd9 hf => ?_) hf
        refine zs_k hC dX6_readsFactor_113 ?_
        refine zs_il hC dX6_readsFactor_114 rfl ?_
        refine zs_callV [.int (nI 0), .int r8] hC cw_X5_puts cl_RX6_84 (zLw0 hd9) rfl (by omega) rfl rfl (Nat.le_of_ble_eq_true rfl) dX6_readsFactor_116 (fun _ h => ctX5_puts (hd9) h) (fun r10 m10 _ hf => ?_) hf
        show zAW X 119 _ (.int r10 :: _) m10
        refine zs_pop hC dX6_readsFactor_119 rfl ?_
        refine zs_k hC dX6_readsFactor_120 ?_
        exact zs_zretK hC hret dX6_readsFactor_121 (by decide) hf
    · refine zs_al hC dX6_readsFactor_71 rfl ?_
      refine zs_dup hC dX6_readsFactor_72 rfl ?_
      refine zs_getI hC fl_RX6_34 zL1 rfl dX6_readsFactor_73 ?_
      refine zs_k hC dX6_readsFactor_76 ?_
      refine zs_iadd hC dX6_readsFactor_77 ?_
      refine zs_putI hC fl_RX6_34 fp_9_2 zL1 rfl dX6_readsFactor_78 ?_
      refine zs_let (fun m12 _ hf => ?_) hf
      refine zs_al hC dX6_readsFactor_81 rfl ?_
      refine zs_getD hC fl_RX6_18 zL18 rfl dX6_readsFactor_82 ?_
      refine zs_gb (fun hd13 hf => ?_) hf
      refine zs_k hC dX6_readsFactor_85 ?_
      refine zs_il hC dX6_readsFactor_86 rfl ?_
      refine zs_callV [.int (nI 1), .int r7] hC cw_X5_puts cl_RX6_84 (zLw0 hd13) rfl (by omega) rfl rfl (Nat.le_of_ble_eq_true rfl) dX6_readsFactor_88 (fun _ h => ctX5_puts (hd13) h) (fun r14 m14 _ hf => ?_) hf
      show zAW X 91 _ (.int r14 :: _) m14
      refine zs_pop hC dX6_readsFactor_91 rfl ?_
      refine zs_k hC dX6_readsFactor_92 ?_
      exact zs_zretK hC hret dX6_readsFactor_93 (by decide) hf
set_option maxRecDepth 20000 in
set_option maxHeartbeats 4000000 in
theorem ctGC {E : zEV} {F : Nat} : ∀ D : Nat, (∀ (v2 : Int32) (μ : zMem) (out : zR), fGC F D 0 v2 μ = some out → zCt E yX6_readsCondition cX6_readsCondition 6 (some .boolean) (D + 2) [.ref 18, .ref 1, .int v2] μ out) ∧ (∀ (v2 : Int32) (μ : zMem) (out : zR), fGC F D 1 v2 μ = some out → zCt E yX6_readsTest cX6_readsTest 5 (some .boolean) (D + 2) [.ref 18, .ref 1, .int v2] μ out) ∧ (∀ (v2 : Int32) (μ : zMem) (out : zR), fGC F D 2 v2 μ = some out → zCt E yX6_readsValue cX6_readsValue 7 (some .boolean) (D + 2) [.ref 18, .ref 1, .int v2] μ out) ∧ (∀ (v2 : Int32) (μ : zMem) (out : zR), fGC F D 3 v2 μ = some out → zCt E yX6_readsFactor cX6_readsFactor 6 (some .boolean) (D + 2) [.ref 18, .ref 1, .int v2] μ out) := by
  intro D
  induction D with
  | zero =>
    refine ⟨?_, ?_, ?_, ?_⟩ <;> (intro v2 μ out hf; rw [fGC] at hf; cases hf)
  | succ D ih =>
    obtain ⟨i0, i1, i2, i3⟩ := ih
    refine ⟨?_, ?_, ?_, ?_⟩
    · intro v2 μ out hf
      rw [fGC] at hf
      rw [if_pos rfl] at hf
      exact zCt.of [some (.ref 18), some (.ref 1), some (.int v2), none, none, none] (by decide +kernel) (Nat.le_of_ble_eq_true rfl) (zLw_s (zLw_s (zLw_s (zLw_e (zLw_e (zLw_e zLw_0)))))) rfl (fun X hE ho hr hC => by
        subst hE; subst ho
        exact wX6_readsCondition (lr := D + 2) hC hr (fun v2 μ o => i0 v2 μ o) (fun v2 μ o => i1 v2 μ o) (fun v2 μ o => i2 v2 μ o) (fun v2 μ o => i3 v2 μ o) (by omega) (by omega) hf)
    · intro v2 μ out hf
      rw [fGC] at hf
      rw [if_neg (by decide), if_pos rfl] at hf
      exact zCt.of [some (.ref 18), some (.ref 1), some (.int v2), none, none] (by decide +kernel) (Nat.le_of_ble_eq_true rfl) (zLw_s (zLw_s (zLw_s (zLw_e (zLw_e zLw_0))))) rfl (fun X hE ho hr hC => by
        subst hE; subst ho
        exact wX6_readsTest (lr := D + 2) hC hr (fun v2 μ o => i0 v2 μ o) (fun v2 μ o => i1 v2 μ o) (fun v2 μ o => i2 v2 μ o) (fun v2 μ o => i3 v2 μ o) (by omega) (by omega) hf)
    · intro v2 μ out hf
      rw [fGC] at hf
      rw [if_neg (by decide), if_neg (by decide), if_pos rfl] at hf
      exact zCt.of [some (.ref 18), some (.ref 1), some (.int v2), none, none, none, none] (by decide +kernel) (Nat.le_of_ble_eq_true rfl) (zLw_s (zLw_s (zLw_s (zLw_e (zLw_e (zLw_e (zLw_e zLw_0))))))) rfl (fun X hE ho hr hC => by
        subst hE; subst ho
        exact wX6_readsValue (lr := D + 2) hC hr (fun v2 μ o => i0 v2 μ o) (fun v2 μ o => i1 v2 μ o) (fun v2 μ o => i2 v2 μ o) (fun v2 μ o => i3 v2 μ o) (by omega) (by omega) hf)
    · intro v2 μ out hf
      rw [fGC] at hf
      rw [if_neg (by decide), if_neg (by decide), if_neg (by decide)] at hf
      exact zCt.of [some (.ref 18), some (.ref 1), some (.int v2), none, none, none] (by decide +kernel) (Nat.le_of_ble_eq_true rfl) (zLw_s (zLw_s (zLw_s (zLw_e (zLw_e (zLw_e zLw_0)))))) rfl (fun X hE ho hr hC => by
        subst hE; subst ho
        exact wX6_readsFactor (lr := D + 2) hC hr (fun v2 μ o => i0 v2 μ o) (fun v2 μ o => i1 v2 μ o) (fun v2 μ o => i2 v2 μ o) (fun v2 μ o => i3 v2 μ o) (by omega) (by omega) hf)
set_option maxRecDepth 20000 in
set_option maxHeartbeats 4000000 in
theorem ctX6_readsCondition {E : zEV} {F : Nat} {v2 : Int32} {μ : zMem} {out : zR} (hf : fX6_readsCondition F 60 v2 μ = some out) : zCt E yX6_readsCondition cX6_readsCondition 6 (some .boolean) 62 [.ref 18, .ref 1, .int v2] μ out := (ctGC 60).1 _ _ _ hf
set_option maxRecDepth 20000 in
set_option maxHeartbeats 4000000 in
theorem ctX6_readsTest {E : zEV} {F : Nat} {v2 : Int32} {μ : zMem} {out : zR} (hf : fX6_readsTest F 60 v2 μ = some out) : zCt E yX6_readsTest cX6_readsTest 5 (some .boolean) 62 [.ref 18, .ref 1, .int v2] μ out := (ctGC 60).2.1 _ _ _ hf
set_option maxRecDepth 20000 in
set_option maxHeartbeats 4000000 in
theorem ctX6_readsValue {E : zEV} {F : Nat} {v2 : Int32} {μ : zMem} {out : zR} (hf : fX6_readsValue F 60 v2 μ = some out) : zCt E yX6_readsValue cX6_readsValue 7 (some .boolean) 62 [.ref 18, .ref 1, .int v2] μ out := (ctGC 60).2.2.1 _ _ _ hf
set_option maxRecDepth 20000 in
set_option maxHeartbeats 4000000 in
theorem ctX6_readsFactor {E : zEV} {F : Nat} {v2 : Int32} {μ : zMem} {out : zR} (hf : fX6_readsFactor F 60 v2 μ = some out) : zCt E yX6_readsFactor cX6_readsFactor 6 (some .boolean) 62 [.ref 18, .ref 1, .int v2] μ out := (ctGC 60).2.2.2 _ _ _ hf
/-! X6_takesEffect -/
def fX6_takesEffect (F : Nat) (μ : zMem) : Option zR :=
  zGb (zIsLw ((μ 18 0).toNatClampNeg)) (zGb (zIsLw ((μ 18 1).toNatClampNeg)) (zLt (zUp μ 18 0 (nI ((μ 18 1).toNatClampNeg))) (fun m3 => zLt (zUp m3 18 1 (nI ((μ 18 0).toNatClampNeg))) (fun m4 => some ((nI 0), m4)))))
set_option maxRecDepth 20000 in
set_option maxHeartbeats 4000000 in
theorem wX6_takesEffect {X : zX} {F : Nat} (hC : zCx X RX6 cX6_takesEffect 2 0) (hret : zRt X none) {μ : zMem} (hf : fX6_takesEffect F μ = some (zOut X)) : zAW X 0 [some (.ref 18), none] [] μ := by
  unfold fX6_takesEffect at hf
  refine zs_al hC dX6_takesEffect_0 rfl ?_
  refine zs_getD hC fl_RX6_12 zL18 rfl dX6_takesEffect_1 ?_
  refine zs_gb (fun hd1 hf => ?_) hf
  refine zs_as hC dX6_takesEffect_4 (by decide) rfl ?_
  refine zs_al hC dX6_takesEffect_5 rfl ?_
  refine zs_al hC dX6_takesEffect_6 rfl ?_
  refine zs_getD hC fl_RX6_18 zL18 rfl dX6_takesEffect_7 ?_
  refine zs_gb (fun hd2 hf => ?_) hf
  refine zs_putD hC fl_RX6_12 fp_6_0 zL18 rfl ((zLw0 hd2)).1 dX6_takesEffect_10 ?_
  refine zs_let (fun m3 _ hf => ?_) hf
  refine zs_al hC dX6_takesEffect_13 rfl ?_
  refine zs_al hC dX6_takesEffect_14 rfl ?_
  refine zs_putD hC fl_RX6_18 fp_6_1 zL18 rfl ((zLw0 hd1)).1 dX6_takesEffect_15 ?_
  refine zs_let (fun m4 _ hf => ?_) hf
  exact zs_vret hC hret dX6_takesEffect_18 hf
set_option maxRecDepth 20000 in
set_option maxHeartbeats 4000000 in
theorem ctX6_takesEffect {E : zEV} {F : Nat} {μ : zMem} {out : zR} (hf : fX6_takesEffect F μ = some out) : zCt E yX6_takesEffect cX6_takesEffect 2 none 0 [.ref 18] μ out :=
  zCt.of [some (.ref 18), none] (by decide +kernel) (Nat.le_of_ble_eq_true rfl) (zLw_s (zLw_e zLw_0)) rfl (fun X hE ho hr hC => by
    subst hE; subst ho
    exact wX6_takesEffect hC hr hf)
/-! X6_reads -/
def fX6_reads_115 (F : Nat) (k9 : Int32 → zMem → Option zR) (v2 : Int32) (μ : zMem) : Option zR :=
  zGb (zIsLw ((μ 18 1).toNatClampNeg)) (zGb (zIsLw ((μ 18 1).toNatClampNeg)) (zG v2 16 (zLt (zUp μ (((μ 18 1).toNatClampNeg) + 5) v2.toNatClampNeg (μ ((μ 18 1).toNatClampNeg) 6)) (fun m5 => zBd (fX9_needs F (nI 40) m5) (fun r6 m6 => if r6 = 0 then some ((nI 0), m6) else zBd (fX6_readsCondition F 60 (nI 1) m6) (fun r7 m7 => if r7 = 0 then some ((nI 0), m7) else zBd (fX9_needs F (nI 41) m7) (fun r8 m8 => if r8 = 0 then some ((nI 0), m8) else zGb (zIsLw ((m8 18 1).toNatClampNeg)) (zGb (zIsLw ((m8 18 1).toNatClampNeg)) (zG v2 16 (zLt (zUp m8 (((m8 18 1).toNatClampNeg) + 6) v2.toNatClampNeg (m8 ((m8 18 1).toNatClampNeg) 6)) (fun m13 => zGb (zIsLw ((m13 18 1).toNatClampNeg)) (zLt (zUp m13 ((m13 18 1).toNatClampNeg) 7 ((m13 ((m13 18 1).toNatClampNeg) 7) + (nI 1))) (fun m16 => zBd (fX9_isOver F m16) (fun r17 m17 => if r17 = 0 then zBd (fX9_needs F (nI 59) m17) (fun r18 m18 => if r18 = 0 then some ((nI 0), m18) else k9 (v2 + (nI 1)) m18) else zBd (fX6_takesEffect F m17) (fun r19 m19 => some ((nI 1), m19))))))))))))))))
def fX6_reads_50 (F : Nat) (k9 : Int32 → zMem → Option zR) (v2 : Int32) (v3 : Int32) (μ : zMem) : Option zR :=
  if v2 = (nI 16) then zBd (fX9_fails F (nI 4) μ) (fun r1 m1 => zGb (decide (r1 = 0 ∨ r1 = 1)) (some (r1, m1))) else zLt (zUp μ 1 2 ((μ 1 2) + (nI 1))) (fun m3 => zGb (zIsLw ((m3 18 1).toNatClampNeg)) (zG v2 16 (zLt (zUp m3 (((m3 18 1).toNatClampNeg) + 3) v2.toNatClampNeg v3) (fun m6 => zGb (zIsLw ((m6 18 1).toNatClampNeg)) (zGb (zIsLw ((m6 18 1).toNatClampNeg)) (zG v2 16 (zLt (zUp m6 (((m6 18 1).toNatClampNeg) + 4) v2.toNatClampNeg (m6 ((m6 18 1).toNatClampNeg) 6)) (fun m11 => if v3 = (nI 114) then fX6_reads_115 F k9 v2 m11 else zBd (fX6_readsValue F 60 (nI 0) m11) (fun r12 m12 => if r12 = 0 then some ((nI 0), m12) else fX6_reads_115 F k9 v2 m12)))))))))
def fX6_reads_9 (F : Nat) : Nat → Int32 → zMem → Option zR
  | 0, _, _ => none
  | n + 1, v2, μ => if (nI 16) < v2 then some ((nI 0), μ) else zBd (fX9_sign F μ) (fun r1 m1 => if r1 = (nI 101) then fX6_reads_50 F (fX6_reads_9 F n) v2 r1 m1 else if r1 = (nI 104) then fX6_reads_50 F (fX6_reads_9 F n) v2 r1 m1 else if r1 = (nI 109) then fX6_reads_50 F (fX6_reads_9 F n) v2 r1 m1 else if r1 = (nI 114) then fX6_reads_50 F (fX6_reads_9 F n) v2 r1 m1 else zBd (fX9_fails F (nI 1) m1) (fun r2 m2 => zGb (decide (r2 = 0 ∨ r2 = 1)) (some (r2, m2))))
def fX6_reads (F : Nat) (μ : zMem) : Option zR :=
  zGb (zIsLw ((μ 18 1).toNatClampNeg)) (zBd (fX5_clears F ((μ 18 1).toNatClampNeg) μ) (fun r2 m2 => fX6_reads_9 F F (nI 0) m2))
set_option maxRecDepth 20000 in
set_option maxHeartbeats 4000000 in
theorem wX6_reads_115 {X : zX} {F : Nat} (hC : zCx X RX6 cX6_reads 4 63) (hret : zRt X (some .boolean)) {k9 : Int32 → zMem → Option zR} (hk9 : ∀ v2 μ, k9 v2 μ = some (zOut X) → zAW X 9 [some (.ref 18), some (.ref 1), some (.int v2), none] [] μ) {v2 : Int32} {μ : zMem} (hf : fX6_reads_115 F k9 v2 μ = some (zOut X)) : zAW X 115 [some (.ref 18), some (.ref 1), some (.int v2), none] [] μ := by
  unfold fX6_reads_115 at hf
  refine zs_al hC dX6_reads_115 rfl ?_
  refine zs_getD hC fl_RX6_18 zL18 rfl dX6_reads_116 ?_
  refine zs_gb (fun hd1 hf => ?_) hf
  refine zs_getR (((μ 18 1).toNatClampNeg) + 5) hC fl_RX6_52 (zLw0 hd1) rfl dX6_reads_119 ?_
  refine zs_il hC dX6_reads_122 rfl ?_
  refine zs_al hC dX6_reads_123 rfl ?_
  refine zs_getD hC fl_RX6_18 zL18 rfl dX6_reads_124 ?_
  refine zs_gb (fun hd3 hf => ?_) hf
  refine zs_getI hC fl_RX6_45 (zLw0 hd3) rfl dX6_reads_127 ?_
  refine zs_iast hC (zLw5 hd1) dX6_reads_130 (fun _ hf => ?_) hf
  refine zs_let (fun m5 _ hf => ?_) hf
  refine zs_al hC dX6_reads_131 rfl ?_
  refine zs_k hC dX6_reads_132 ?_
  refine zs_callV [.int (nI 40)] hC cw_X9_needs cl_RX6_55 zL1 rfl (by decide) rfl rfl (Nat.le_of_ble_eq_true rfl) dX6_reads_134 (fun _ h => ctX9_needs h) (fun r6 m6 _ hf => ?_) hf
  show zAW X 137 _ (.int r6 :: _) m6
  refine zs_if_eq hC dX6_reads_137 (fun _ hf => ?_) (fun _ hf => ?_) hf
  · refine zs_k hC dX6_reads_158 ?_
    exact zs_zretK hC hret dX6_reads_159 (by decide) hf
  · refine zs_al hC dX6_reads_140 rfl ?_
    refine zs_al hC dX6_reads_141 rfl ?_
    refine zs_k hC dX6_reads_142 ?_
    refine zs_callV [.ref 1, .int (nI 1)] hC cw_X6_readsCondition cl_RX6_58 zL18 rfl (by decide) rfl rfl (Nat.le_of_ble_eq_true rfl) dX6_reads_143 (fun _ h => ctX6_readsCondition h) (fun r7 m7 _ hf => ?_) hf
    show zAW X 146 _ (.int r7 :: _) m7
    refine zs_if_eq hC dX6_reads_146 (fun _ hf => ?_) (fun _ hf => ?_) hf
    · refine zs_k hC dX6_reads_158 ?_
      exact zs_zretK hC hret dX6_reads_159 (by decide) hf
    · refine zs_al hC dX6_reads_149 rfl ?_
      refine zs_k hC dX6_reads_150 ?_
      refine zs_callV [.int (nI 41)] hC cw_X9_needs cl_RX6_55 zL1 rfl (by decide) rfl rfl (Nat.le_of_ble_eq_true rfl) dX6_reads_152 (fun _ h => ctX9_needs h) (fun r8 m8 _ hf => ?_) hf
      show zAW X 155 _ (.int r8 :: _) m8
      refine zs_if_ne hC dX6_reads_155 (fun _ hf => ?_) (fun _ hf => ?_) hf
      · refine zs_k hC dX6_reads_158 ?_
        exact zs_zretK hC hret dX6_reads_159 (by decide) hf
      · refine zs_al hC dX6_reads_160 rfl ?_
        refine zs_getD hC fl_RX6_18 zL18 rfl dX6_reads_161 ?_
        refine zs_gb (fun hd9 hf => ?_) hf
        refine zs_getR (((m8 18 1).toNatClampNeg) + 6) hC fl_RX6_61 (zLw0 hd9) rfl dX6_reads_164 ?_
        refine zs_il hC dX6_reads_167 rfl ?_
        refine zs_al hC dX6_reads_168 rfl ?_
        refine zs_getD hC fl_RX6_18 zL18 rfl dX6_reads_169 ?_
        refine zs_gb (fun hd11 hf => ?_) hf
        refine zs_getI hC fl_RX6_45 (zLw0 hd11) rfl dX6_reads_172 ?_
        refine zs_iast hC (zLw6 hd9) dX6_reads_175 (fun _ hf => ?_) hf
        refine zs_let (fun m13 _ hf => ?_) hf
        refine zs_al hC dX6_reads_176 rfl ?_
        refine zs_getD hC fl_RX6_18 zL18 rfl dX6_reads_177 ?_
        refine zs_gb (fun hd14 hf => ?_) hf
        refine zs_dup hC dX6_reads_180 rfl ?_
        refine zs_getI hC fl_RX6_64 (zLw0 hd14) rfl dX6_reads_181 ?_
        refine zs_k hC dX6_reads_184 ?_
        refine zs_iadd hC dX6_reads_185 ?_
        refine zs_putI hC fl_RX6_64 fp_5_7 (zLw0 hd14) rfl dX6_reads_186 ?_
        refine zs_let (fun m16 _ hf => ?_) hf
        refine zs_al hC dX6_reads_189 rfl ?_
        refine zs_callV [] hC cw_X9_isOver cl_RX6_67 zL1 rfl (by decide) rfl rfl (Nat.le_of_ble_eq_true rfl) dX6_reads_190 (fun _ h => ctX9_isOver h) (fun r17 m17 _ hf => ?_) hf
        show zAW X 193 _ (.int r17 :: _) m17
        refine zs_if_eq hC dX6_reads_193 (fun _ hf => ?_) (fun _ hf => ?_) hf
        · refine zs_al hC dX6_reads_202 rfl ?_
          refine zs_k hC dX6_reads_203 ?_
          refine zs_callV [.int (nI 59)] hC cw_X9_needs cl_RX6_55 zL1 rfl (by decide) rfl rfl (Nat.le_of_ble_eq_true rfl) dX6_reads_205 (fun _ h => ctX9_needs h) (fun r18 m18 _ hf => ?_) hf
          show zAW X 208 _ (.int r18 :: _) m18
          refine zs_if_ne hC dX6_reads_208 (fun _ hf => ?_) (fun _ hf => ?_) hf
          · refine zs_k hC dX6_reads_211 ?_
            exact zs_zretK hC hret dX6_reads_212 (by decide) hf
          · refine zs_iinc (nI 1) hC dX6_reads_213 (by decide) rfl (by decide) rfl ?_
            refine zs_goto hC dX6_reads_216 ?_
            exact zAW.weak (hk9 _ _ hf) (zLw_s (zLw_s (zLw_s (zLw_n zLw_0))))
        · refine zs_al hC dX6_reads_196 rfl ?_
          refine zs_callV [] hC cw_X6_takesEffect cl_RX6_71 zL18 rfl (by decide) rfl rfl (Nat.le_of_ble_eq_true rfl) dX6_reads_197 (fun _ h => ctX6_takesEffect h) (fun r19 m19 _ hf => ?_) hf
          show zAW X 200 _ _ m19
          refine zs_k hC dX6_reads_200 ?_
          exact zs_zretK hC hret dX6_reads_201 (by decide) hf
set_option maxRecDepth 20000 in
set_option maxHeartbeats 4000000 in
theorem wX6_reads_50 {X : zX} {F : Nat} (hC : zCx X RX6 cX6_reads 4 63) (hret : zRt X (some .boolean)) {k9 : Int32 → zMem → Option zR} (hk9 : ∀ v2 μ, k9 v2 μ = some (zOut X) → zAW X 9 [some (.ref 18), some (.ref 1), some (.int v2), none] [] μ) {v2 : Int32} {v3 : Int32} {μ : zMem} (hf : fX6_reads_50 F k9 v2 v3 μ = some (zOut X)) : zAW X 50 [some (.ref 18), some (.ref 1), some (.int v2), some (.int v3)] [] μ := by
  unfold fX6_reads_50 at hf
  refine zs_il hC dX6_reads_50 rfl ?_
  refine zs_k hC dX6_reads_51 ?_
  refine zs_ic_ne hC dX6_reads_53 (fun _ hf => ?_) (fun _ hf => ?_) hf
  · refine zs_al hC dX6_reads_56 rfl ?_
    refine zs_k hC dX6_reads_57 ?_
    refine zs_callV [.int (nI 4)] hC cw_X9_fails cl_RX6_30 zL1 rfl (by decide) rfl rfl (Nat.le_of_ble_eq_true rfl) dX6_reads_58 (fun _ h => ctX9_fails h) (fun r1 m1 _ hf => ?_) hf
    show zAW X 61 _ (.int r1 :: _) m1
    exact zs_zret hC hret dX6_reads_61 hf
  · refine zs_al hC dX6_reads_62 rfl ?_
    refine zs_dup hC dX6_reads_63 rfl ?_
    refine zs_getI hC fl_RX6_34 zL1 rfl dX6_reads_64 ?_
    refine zs_k hC dX6_reads_67 ?_
    refine zs_iadd hC dX6_reads_68 ?_
    refine zs_putI hC fl_RX6_34 fp_9_2 zL1 rfl dX6_reads_69 ?_
    refine zs_let (fun m3 _ hf => ?_) hf
    refine zs_al hC dX6_reads_72 rfl ?_
    refine zs_getD hC fl_RX6_18 zL18 rfl dX6_reads_73 ?_
    refine zs_gb (fun hd4 hf => ?_) hf
    refine zs_getR (((m3 18 1).toNatClampNeg) + 3) hC fl_RX6_38 (zLw0 hd4) rfl dX6_reads_76 ?_
    refine zs_il hC dX6_reads_79 rfl ?_
    refine zs_il hC dX6_reads_80 rfl ?_
    refine zs_iast hC (zLw3 hd4) dX6_reads_81 (fun _ hf => ?_) hf
    refine zs_let (fun m6 _ hf => ?_) hf
    refine zs_al hC dX6_reads_82 rfl ?_
    refine zs_getD hC fl_RX6_18 zL18 rfl dX6_reads_83 ?_
    refine zs_gb (fun hd7 hf => ?_) hf
    refine zs_getR (((m6 18 1).toNatClampNeg) + 4) hC fl_RX6_42 (zLw0 hd7) rfl dX6_reads_86 ?_
    refine zs_il hC dX6_reads_89 rfl ?_
    refine zs_al hC dX6_reads_90 rfl ?_
    refine zs_getD hC fl_RX6_18 zL18 rfl dX6_reads_91 ?_
    refine zs_gb (fun hd9 hf => ?_) hf
    refine zs_getI hC fl_RX6_45 (zLw0 hd9) rfl dX6_reads_94 ?_
    refine zs_iast hC (zLw4 hd7) dX6_reads_97 (fun _ hf => ?_) hf
    refine zs_let (fun m11 _ hf => ?_) hf
    refine zs_il hC dX6_reads_98 rfl ?_
    refine zs_k hC dX6_reads_99 ?_
    refine zs_ic_eq hC dX6_reads_101 (fun _ hf => ?_) (fun _ hf => ?_) hf
    · exact zAW.weak (wX6_reads_115 hC hret hk9 hf) (zLw_s (zLw_s (zLw_s (zLw_n zLw_0))))
    · refine zs_al hC dX6_reads_104 rfl ?_
      refine zs_al hC dX6_reads_105 rfl ?_
      refine zs_k hC dX6_reads_106 ?_
      refine zs_callV [.ref 1, .int (nI 0)] hC cw_X6_readsValue cl_RX6_48 zL18 rfl (by decide) rfl rfl (Nat.le_of_ble_eq_true rfl) dX6_reads_107 (fun _ h => ctX6_readsValue h) (fun r12 m12 _ hf => ?_) hf
      show zAW X 110 _ (.int r12 :: _) m12
      refine zs_if_ne hC dX6_reads_110 (fun _ hf => ?_) (fun _ hf => ?_) hf
      · refine zs_k hC dX6_reads_113 ?_
        exact zs_zretK hC hret dX6_reads_114 (by decide) hf
      · exact zAW.weak (wX6_reads_115 hC hret hk9 hf) (zLw_s (zLw_s (zLw_s (zLw_n zLw_0))))
set_option maxRecDepth 20000 in
set_option maxHeartbeats 4000000 in
theorem wX6_reads_9 {X : zX} {F : Nat} (hC : zCx X RX6 cX6_reads 4 63) (hret : zRt X (some .boolean)) : ∀ (n : Nat) (v2 : Int32) (μ : zMem), fX6_reads_9 F n v2 μ = some (zOut X) → zAW X 9 [some (.ref 18), some (.ref 1), some (.int v2), none] [] μ := by
  intro n
  induction n with
  | zero =>
    intro v2 μ hf
    rw [fX6_reads_9] at hf
    cases hf
  | succ n ih =>
    intro v2 μ hf
    rw [fX6_reads_9] at hf
    refine zs_il hC dX6_reads_9 rfl ?_
    refine zs_k hC dX6_reads_10 ?_
    refine zs_ic_gt hC dX6_reads_12 (fun _ hf => ?_) (fun _ hf => ?_) hf
    · refine zs_k hC dX6_reads_219 ?_
      exact zs_zretK hC hret dX6_reads_220 (by decide) hf
    · refine zs_al hC dX6_reads_15 rfl ?_
      refine zs_callV [] hC cw_X9_sign cl_RX6_24 zL1 rfl (by decide) rfl rfl (Nat.le_of_ble_eq_true rfl) dX6_reads_16 (fun _ h => ctX9_sign h) (fun r1 m1 _ hf => ?_) hf
      show zAW X 19 _ (.int r1 :: _) m1
      refine zs_is hC dX6_reads_19 (by decide) rfl ?_
      refine zs_il hC dX6_reads_20 rfl ?_
      refine zs_k hC dX6_reads_21 ?_
      refine zs_ic_eq hC dX6_reads_23 (fun _ hf => ?_) (fun _ hf => ?_) hf
      · exact zAW.weak (wX6_reads_50 hC hret (ih) hf) (zLw_s (zLw_s (zLw_s (zLw_s zLw_0))))
      · refine zs_il hC dX6_reads_26 rfl ?_
        refine zs_k hC dX6_reads_27 ?_
        refine zs_ic_eq hC dX6_reads_29 (fun _ hf => ?_) (fun _ hf => ?_) hf
        · exact zAW.weak (wX6_reads_50 hC hret (ih) hf) (zLw_s (zLw_s (zLw_s (zLw_s zLw_0))))
        · refine zs_il hC dX6_reads_32 rfl ?_
          refine zs_k hC dX6_reads_33 ?_
          refine zs_ic_eq hC dX6_reads_35 (fun _ hf => ?_) (fun _ hf => ?_) hf
          · exact zAW.weak (wX6_reads_50 hC hret (ih) hf) (zLw_s (zLw_s (zLw_s (zLw_s zLw_0))))
          · refine zs_il hC dX6_reads_38 rfl ?_
            refine zs_k hC dX6_reads_39 ?_
            refine zs_ic_eq hC dX6_reads_41 (fun _ hf => ?_) (fun _ hf => ?_) hf
            · exact zAW.weak (wX6_reads_50 hC hret (ih) hf) (zLw_s (zLw_s (zLw_s (zLw_s zLw_0))))
            · refine zs_al hC dX6_reads_44 rfl ?_
              refine zs_k hC dX6_reads_45 ?_
              refine zs_callV [.int (nI 1)] hC cw_X9_fails cl_RX6_30 zL1 rfl (by decide) rfl rfl (Nat.le_of_ble_eq_true rfl) dX6_reads_46 (fun _ h => ctX9_fails h) (fun r2 m2 _ hf => ?_) hf
              show zAW X 49 _ (.int r2 :: _) m2
              exact zs_zret hC hret dX6_reads_49 hf
set_option maxRecDepth 20000 in
set_option maxHeartbeats 4000000 in
theorem wX6_reads {X : zX} {F : Nat} (hC : zCx X RX6 cX6_reads 4 63) (hret : zRt X (some .boolean)) {μ : zMem} (hf : fX6_reads F μ = some (zOut X)) : zAW X 0 [some (.ref 18), some (.ref 1), none, none] [] μ := by
  unfold fX6_reads at hf
  refine zs_al hC dX6_reads_0 rfl ?_
  refine zs_getD hC fl_RX6_18 zL18 rfl dX6_reads_1 ?_
  refine zs_gb (fun hd1 hf => ?_) hf
  refine zs_callV [] hC cw_X5_clears cl_RX6_21 (zLw0 hd1) rfl (by decide) rfl rfl (Nat.le_of_ble_eq_true rfl) dX6_reads_4 (fun _ h => ctX5_clears (hd1) h) (fun r2 m2 _ hf => ?_) hf
  show zAW X 7 _ _ m2
  refine zs_k hC dX6_reads_7 ?_
  refine zs_is hC dX6_reads_8 (by decide) rfl ?_
  exact zAW.weak (wX6_reads_9 hC hret F _ _ hf) (zLw_s (zLw_s (zLw_s (zLw_n zLw_0))))
set_option maxRecDepth 20000 in
set_option maxHeartbeats 4000000 in
theorem ctX6_reads {E : zEV} {F : Nat} {μ : zMem} {out : zR} (hf : fX6_reads F μ = some out) : zCt E yX6_reads cX6_reads 4 (some .boolean) 63 [.ref 18, .ref 1] μ out :=
  zCt.of [some (.ref 18), some (.ref 1), none, none] (by decide +kernel) (Nat.le_of_ble_eq_true rfl) (zLw_s (zLw_s (zLw_e (zLw_e zLw_0)))) rfl (fun X hE ho hr hC => by
    subst hE; subst ho
    exact wX6_reads hC hr hf)
/-! X7_setsFrom -/
def fX7_setsFrom_138 (F : Nat) (h1 : Nat) (k8 : Int32 → Int32 → Int32 → Int32 → zMem → Option zR) (v2 : Int32) (v3 : Int32) (v4 : Int32) (v5 : Int32) (v7 : Int32) (v8 : Int32) (μ : zMem) : Option zR :=
  zG v3 61 (zLt (zUp μ 47 v3.toNatClampNeg v7) (fun m2 => zG v3 61 (zLt (zUp m2 48 v3.toNatClampNeg v8) (fun m4 => zG v3 61 (zLt (zUp m4 49 v3.toNatClampNeg v5) (fun m6 => k8 v2 v3 v4 (v5 + (nI 1)) m6))))))
def fX7_setsFrom_98 (F : Nat) (h1 : Nat) (k8 : Int32 → Int32 → Int32 → Int32 → zMem → Option zR) (v2 : Int32) (v3 : Int32) (v4 : Int32) (v5 : Int32) (v7 : Int32) (v8 : Int32) (s0 : Int32) (μ : zMem) : Option zR :=
  if s0 = 0 then zG v3 61 (if v7 < (μ 47 v3.toNatClampNeg) then fX7_setsFrom_138 F h1 k8 v2 v3 v4 v5 v7 v8 μ else zG v3 61 (if v7 = (μ 47 v3.toNatClampNeg) then zG v3 61 (if (μ 48 v3.toNatClampNeg) < v8 then k8 v2 v3 v4 (v5 + (nI 1)) μ else fX7_setsFrom_138 F h1 k8 v2 v3 v4 v5 v7 v8 μ) else k8 v2 v3 v4 (v5 + (nI 1)) μ)) else fX7_setsFrom_138 F h1 k8 v2 v3 v4 v5 v7 v8 μ
def fX7_setsFrom_57 (F : Nat) (h1 : Nat) (k8 : Int32 → Int32 → Int32 → Int32 → zMem → Option zR) (v2 : Int32) (v3 : Int32) (v4 : Int32) (v5 : Int32) (s0 : Int32) (μ : zMem) : Option zR :=
  zG v5 61 (zG v5 61 (if v5 = (v3 + (nI 1)) then fX7_setsFrom_98 F h1 k8 v2 v3 v4 v5 ((s0 * s0) + (μ 47 v5.toNatClampNeg)) ((nI 1) + (μ 48 v5.toNatClampNeg)) (nI 1) μ else fX7_setsFrom_98 F h1 k8 v2 v3 v4 v5 ((s0 * s0) + (μ 47 v5.toNatClampNeg)) ((nI 1) + (μ 48 v5.toNatClampNeg)) (nI 0) μ))
def fX7_setsFrom_8 (F : Nat) (h1 : Nat) : Nat → Int32 → Int32 → Int32 → Int32 → zMem → Option zR
  | 0, _, _, _, _, _ => none
  | n + 1, v2, v3, v4, v5, μ => if (μ h1 2) < v5 then some ((nI 0), μ) else zG (v5 - (nI 1)) 60 (if (v4 + ((nI 1) + (μ (h1 + 1) (v5 - (nI 1)).toNatClampNeg))) ≤ v2 then if v5 = (μ h1 2) then fX7_setsFrom_57 F h1 (fX7_setsFrom_8 F h1 n) v2 v3 (v4 + ((nI 1) + (μ (h1 + 1) (v5 - (nI 1)).toNatClampNeg))) v5 (nI 0) μ else fX7_setsFrom_57 F h1 (fX7_setsFrom_8 F h1 n) v2 v3 (v4 + ((nI 1) + (μ (h1 + 1) (v5 - (nI 1)).toNatClampNeg))) v5 (v2 - (v4 + ((nI 1) + (μ (h1 + 1) (v5 - (nI 1)).toNatClampNeg)))) μ else some ((nI 0), μ))
def fX7_setsFrom (F : Nat) (h1 : Nat) (v2 : Int32) (v3 : Int32) (μ : zMem) : Option zR :=
  fX7_setsFrom_8 F h1 F v2 v3 (-1 : Int32) (v3 + (nI 1)) μ
set_option maxRecDepth 20000 in
set_option maxHeartbeats 4000000 in
theorem wX7_setsFrom_138 {X : zX} {F h1 : Nat} (hC : zCx X RX7 cX7_setsFrom 10 0) (hh1 : zIsCp h1 = true) (hret : zRt X none) {k8 : Int32 → Int32 → Int32 → Int32 → zMem → Option zR} (hk8 : ∀ v2 v3 v4 v5 μ, k8 v2 v3 v4 v5 μ = some (zOut X) → zAW X 8 [some (.ref 46), some (.ref h1), some (.int v2), some (.int v3), some (.int v4), some (.int v5), none, none, none, none] [] μ) {v2 : Int32} {v3 : Int32} {v4 : Int32} {v5 : Int32} {v7 : Int32} {v8 : Int32} {μ : zMem} (hf : fX7_setsFrom_138 F h1 k8 v2 v3 v4 v5 v7 v8 μ = some (zOut X)) : zAW X 138 [some (.ref 46), some (.ref h1), some (.int v2), some (.int v3), some (.int v4), some (.int v5), none, some (.int v7), some (.int v8), none] [] μ := by
  unfold fX7_setsFrom_138 at hf
  refine zs_al hC dX7_setsFrom_138 rfl ?_
  refine zs_getR 47 hC fl_RX7_11 zL46 rfl dX7_setsFrom_139 ?_
  refine zs_il hC dX7_setsFrom_142 rfl ?_
  refine zs_il hC dX7_setsFrom_143 rfl ?_
  refine zs_iast hC zL47 dX7_setsFrom_145 (fun _ hf => ?_) hf
  refine zs_let (fun m2 _ hf => ?_) hf
  refine zs_al hC dX7_setsFrom_146 rfl ?_
  refine zs_getR 48 hC fl_RX7_17 zL46 rfl dX7_setsFrom_147 ?_
  refine zs_il hC dX7_setsFrom_150 rfl ?_
  refine zs_il hC dX7_setsFrom_151 rfl ?_
  refine zs_iast hC zL48 dX7_setsFrom_153 (fun _ hf => ?_) hf
  refine zs_let (fun m4 _ hf => ?_) hf
  refine zs_al hC dX7_setsFrom_154 rfl ?_
  refine zs_getR 49 hC fl_RX7_20 zL46 rfl dX7_setsFrom_155 ?_
  refine zs_il hC dX7_setsFrom_158 rfl ?_
  refine zs_il hC dX7_setsFrom_159 rfl ?_
  refine zs_iast hC zL49 dX7_setsFrom_161 (fun _ hf => ?_) hf
  refine zs_let (fun m6 _ hf => ?_) hf
  refine zs_iinc (nI 1) hC dX7_setsFrom_162 (by decide) rfl (by decide) rfl ?_
  refine zs_goto hC dX7_setsFrom_165 ?_
  exact zAW.weak (hk8 _ _ _ _ _ hf) (zLw_s (zLw_s (zLw_s (zLw_s (zLw_s (zLw_s (zLw_n (zLw_n (zLw_n (zLw_n zLw_0))))))))))
set_option maxRecDepth 20000 in
set_option maxHeartbeats 4000000 in
theorem wX7_setsFrom_98 {X : zX} {F h1 : Nat} (hC : zCx X RX7 cX7_setsFrom 10 0) (hh1 : zIsCp h1 = true) (hret : zRt X none) {k8 : Int32 → Int32 → Int32 → Int32 → zMem → Option zR} (hk8 : ∀ v2 v3 v4 v5 μ, k8 v2 v3 v4 v5 μ = some (zOut X) → zAW X 8 [some (.ref 46), some (.ref h1), some (.int v2), some (.int v3), some (.int v4), some (.int v5), none, none, none, none] [] μ) {v2 : Int32} {v3 : Int32} {v4 : Int32} {v5 : Int32} {v7 : Int32} {v8 : Int32} {s0 : Int32} {μ : zMem} (hf : fX7_setsFrom_98 F h1 k8 v2 v3 v4 v5 v7 v8 s0 μ = some (zOut X)) : zAW X 98 [some (.ref 46), some (.ref h1), some (.int v2), some (.int v3), some (.int v4), some (.int v5), none, some (.int v7), some (.int v8), none] [.int s0] μ := by
  unfold fX7_setsFrom_98 at hf
  refine zs_is hC dX7_setsFrom_98 (by decide) rfl ?_
  refine zs_il hC dX7_setsFrom_100 rfl ?_
  refine zs_if_ne hC dX7_setsFrom_102 (fun _ hf => ?_) (fun _ hf => ?_) hf
  · refine zs_il hC dX7_setsFrom_105 rfl ?_
    refine zs_al hC dX7_setsFrom_107 rfl ?_
    refine zs_getR 47 hC fl_RX7_11 zL46 rfl dX7_setsFrom_108 ?_
    refine zs_il hC dX7_setsFrom_111 rfl ?_
    refine zs_iald hC zL47 dX7_setsFrom_112 (fun _ hf => ?_) hf
    refine zs_ic_lt hC dX7_setsFrom_113 (fun _ hf => ?_) (fun _ hf => ?_) hf
    · exact zAW.weak (wX7_setsFrom_138 hC hh1 hret hk8 hf) (zLw_s (zLw_s (zLw_s (zLw_s (zLw_s (zLw_s (zLw_n (zLw_s (zLw_s (zLw_n zLw_0))))))))))
    · refine zs_il hC dX7_setsFrom_116 rfl ?_
      refine zs_al hC dX7_setsFrom_118 rfl ?_
      refine zs_getR 47 hC fl_RX7_11 zL46 rfl dX7_setsFrom_119 ?_
      refine zs_il hC dX7_setsFrom_122 rfl ?_
      refine zs_iald hC zL47 dX7_setsFrom_123 (fun _ hf => ?_) hf
      refine zs_ic_ne hC dX7_setsFrom_124 (fun _ hf => ?_) (fun _ hf => ?_) hf
      · refine zs_il hC dX7_setsFrom_127 rfl ?_
        refine zs_al hC dX7_setsFrom_129 rfl ?_
        refine zs_getR 48 hC fl_RX7_17 zL46 rfl dX7_setsFrom_130 ?_
        refine zs_il hC dX7_setsFrom_133 rfl ?_
        refine zs_iald hC zL48 dX7_setsFrom_134 (fun _ hf => ?_) hf
        refine zs_ic_gt hC dX7_setsFrom_135 (fun _ hf => ?_) (fun _ hf => ?_) hf
        · refine zs_iinc (nI 1) hC dX7_setsFrom_162 (by decide) rfl (by decide) rfl ?_
          refine zs_goto hC dX7_setsFrom_165 ?_
          exact zAW.weak (hk8 _ _ _ _ _ hf) (zLw_s (zLw_s (zLw_s (zLw_s (zLw_s (zLw_s (zLw_n (zLw_n (zLw_n (zLw_n zLw_0))))))))))
        · exact zAW.weak (wX7_setsFrom_138 hC hh1 hret hk8 hf) (zLw_s (zLw_s (zLw_s (zLw_s (zLw_s (zLw_s (zLw_n (zLw_s (zLw_s (zLw_n zLw_0))))))))))
      · refine zs_iinc (nI 1) hC dX7_setsFrom_162 (by decide) rfl (by decide) rfl ?_
        refine zs_goto hC dX7_setsFrom_165 ?_
        exact zAW.weak (hk8 _ _ _ _ _ hf) (zLw_s (zLw_s (zLw_s (zLw_s (zLw_s (zLw_s (zLw_n (zLw_n (zLw_n (zLw_n zLw_0))))))))))
  · exact zAW.weak (wX7_setsFrom_138 hC hh1 hret hk8 hf) (zLw_s (zLw_s (zLw_s (zLw_s (zLw_s (zLw_s (zLw_n (zLw_s (zLw_s (zLw_n zLw_0))))))))))
set_option maxRecDepth 20000 in
set_option maxHeartbeats 4000000 in
theorem wX7_setsFrom_57 {X : zX} {F h1 : Nat} (hC : zCx X RX7 cX7_setsFrom 10 0) (hh1 : zIsCp h1 = true) (hret : zRt X none) {k8 : Int32 → Int32 → Int32 → Int32 → zMem → Option zR} (hk8 : ∀ v2 v3 v4 v5 μ, k8 v2 v3 v4 v5 μ = some (zOut X) → zAW X 8 [some (.ref 46), some (.ref h1), some (.int v2), some (.int v3), some (.int v4), some (.int v5), none, none, none, none] [] μ) {v2 : Int32} {v3 : Int32} {v4 : Int32} {v5 : Int32} {s0 : Int32} {μ : zMem} (hf : fX7_setsFrom_57 F h1 k8 v2 v3 v4 v5 s0 μ = some (zOut X)) : zAW X 57 [some (.ref 46), some (.ref h1), some (.int v2), some (.int v3), some (.int v4), some (.int v5), none, none, none, none] [.int s0] μ := by
  unfold fX7_setsFrom_57 at hf
  refine zs_is hC dX7_setsFrom_57 (by decide) rfl ?_
  refine zs_il hC dX7_setsFrom_59 rfl ?_
  refine zs_il hC dX7_setsFrom_61 rfl ?_
  refine zs_imul hC dX7_setsFrom_63 ?_
  refine zs_al hC dX7_setsFrom_64 rfl ?_
  refine zs_getR 47 hC fl_RX7_11 zL46 rfl dX7_setsFrom_65 ?_
  refine zs_il hC dX7_setsFrom_68 rfl ?_
  refine zs_iald hC zL47 dX7_setsFrom_70 (fun _ hf => ?_) hf
  refine zs_iadd hC dX7_setsFrom_71 ?_
  refine zs_is hC dX7_setsFrom_72 (by decide) rfl ?_
  refine zs_k hC dX7_setsFrom_74 ?_
  refine zs_al hC dX7_setsFrom_75 rfl ?_
  refine zs_getR 48 hC fl_RX7_17 zL46 rfl dX7_setsFrom_76 ?_
  refine zs_il hC dX7_setsFrom_79 rfl ?_
  refine zs_iald hC zL48 dX7_setsFrom_81 (fun _ hf => ?_) hf
  refine zs_iadd hC dX7_setsFrom_82 ?_
  refine zs_is hC dX7_setsFrom_83 (by decide) rfl ?_
  refine zs_il hC dX7_setsFrom_85 rfl ?_
  refine zs_il hC dX7_setsFrom_87 rfl ?_
  refine zs_k hC dX7_setsFrom_88 ?_
  refine zs_iadd hC dX7_setsFrom_89 ?_
  refine zs_ic_ne hC dX7_setsFrom_90 (fun _ hf => ?_) (fun _ hf => ?_) hf
  · refine zs_k hC dX7_setsFrom_93 ?_
    refine zs_goto hC dX7_setsFrom_94 ?_
    exact zAW.weak (wX7_setsFrom_98 hC hh1 hret hk8 hf) (zLw_s (zLw_s (zLw_s (zLw_s (zLw_s (zLw_s (zLw_n (zLw_s (zLw_s (zLw_n zLw_0))))))))))
  · refine zs_k hC dX7_setsFrom_97 ?_
    exact zAW.weak (wX7_setsFrom_98 hC hh1 hret hk8 hf) (zLw_s (zLw_s (zLw_s (zLw_s (zLw_s (zLw_s (zLw_n (zLw_s (zLw_s (zLw_n zLw_0))))))))))
set_option maxRecDepth 20000 in
set_option maxHeartbeats 4000000 in
theorem wX7_setsFrom_8 {X : zX} {F h1 : Nat} (hC : zCx X RX7 cX7_setsFrom 10 0) (hh1 : zIsCp h1 = true) (hret : zRt X none) : ∀ (n : Nat) (v2 : Int32) (v3 : Int32) (v4 : Int32) (v5 : Int32) (μ : zMem), fX7_setsFrom_8 F h1 n v2 v3 v4 v5 μ = some (zOut X) → zAW X 8 [some (.ref 46), some (.ref h1), some (.int v2), some (.int v3), some (.int v4), some (.int v5), none, none, none, none] [] μ := by
  intro n
  induction n with
  | zero =>
    intro v2 v3 v4 v5 μ hf
    rw [fX7_setsFrom_8] at hf
    cases hf
  | succ n ih =>
    intro v2 v3 v4 v5 μ hf
    rw [fX7_setsFrom_8] at hf
    refine zs_il hC dX7_setsFrom_8 rfl ?_
    refine zs_al hC dX7_setsFrom_10 rfl ?_
    refine zs_getI hC fl_RX7_23 (zCp0 hh1) rfl dX7_setsFrom_11 ?_
    refine zs_ic_gt hC dX7_setsFrom_14 (fun _ hf => ?_) (fun _ hf => ?_) hf
    · exact zs_vret hC hret dX7_setsFrom_168 hf
    · refine zs_il hC dX7_setsFrom_17 rfl ?_
      refine zs_k hC dX7_setsFrom_19 ?_
      refine zs_al hC dX7_setsFrom_20 rfl ?_
      refine zs_getR (h1 + 1) hC fl_RX7_31 (zCp0 hh1) rfl dX7_setsFrom_21 ?_
      refine zs_il hC dX7_setsFrom_24 rfl ?_
      refine zs_k hC dX7_setsFrom_26 ?_
      refine zs_isub hC dX7_setsFrom_27 ?_
      refine zs_iald hC (zCp1 hh1) dX7_setsFrom_28 (fun _ hf => ?_) hf
      refine zs_iadd hC dX7_setsFrom_29 ?_
      refine zs_iadd hC dX7_setsFrom_30 ?_
      refine zs_is hC dX7_setsFrom_31 (by decide) rfl ?_
      refine zs_il hC dX7_setsFrom_33 rfl ?_
      refine zs_il hC dX7_setsFrom_35 rfl ?_
      refine zs_ic_le hC dX7_setsFrom_36 (fun _ hf => ?_) (fun _ hf => ?_) hf
      · refine zs_il hC dX7_setsFrom_40 rfl ?_
        refine zs_al hC dX7_setsFrom_42 rfl ?_
        refine zs_getI hC fl_RX7_23 (zCp0 hh1) rfl dX7_setsFrom_43 ?_
        refine zs_ic_ne hC dX7_setsFrom_46 (fun _ hf => ?_) (fun _ hf => ?_) hf
        · refine zs_k hC dX7_setsFrom_49 ?_
          refine zs_goto hC dX7_setsFrom_50 ?_
          exact zAW.weak (wX7_setsFrom_57 hC hh1 hret (ih) hf) (zLw_s (zLw_s (zLw_s (zLw_s (zLw_s (zLw_s (zLw_n (zLw_n (zLw_n (zLw_n zLw_0))))))))))
        · refine zs_il hC dX7_setsFrom_53 rfl ?_
          refine zs_il hC dX7_setsFrom_54 rfl ?_
          refine zs_isub hC dX7_setsFrom_56 ?_
          exact zAW.weak (wX7_setsFrom_57 hC hh1 hret (ih) hf) (zLw_s (zLw_s (zLw_s (zLw_s (zLw_s (zLw_s (zLw_n (zLw_n (zLw_n (zLw_n zLw_0))))))))))
      · exact zs_vret hC hret dX7_setsFrom_39 hf
set_option maxRecDepth 20000 in
set_option maxHeartbeats 4000000 in
theorem wX7_setsFrom {X : zX} {F h1 : Nat} (hC : zCx X RX7 cX7_setsFrom 10 0) (hh1 : zIsCp h1 = true) (hret : zRt X none) {v2 : Int32} {v3 : Int32} {μ : zMem} (hf : fX7_setsFrom F h1 v2 v3 μ = some (zOut X)) : zAW X 0 [some (.ref 46), some (.ref h1), some (.int v2), some (.int v3), none, none, none, none, none, none] [] μ := by
  unfold fX7_setsFrom at hf
  refine zs_k hC dX7_setsFrom_0 ?_
  refine zs_is hC dX7_setsFrom_1 (by decide) rfl ?_
  refine zs_il hC dX7_setsFrom_3 rfl ?_
  refine zs_k hC dX7_setsFrom_4 ?_
  refine zs_iadd hC dX7_setsFrom_5 ?_
  refine zs_is hC dX7_setsFrom_6 (by decide) rfl ?_
  exact zAW.weak (wX7_setsFrom_8 hC hh1 hret F _ _ _ _ _ hf) (zLw_s (zLw_s (zLw_s (zLw_s (zLw_s (zLw_s (zLw_n (zLw_n (zLw_n (zLw_n zLw_0))))))))))
set_option maxRecDepth 20000 in
set_option maxHeartbeats 4000000 in
theorem ctX7_setsFrom {E : zEV} {F : Nat} {h1 : Nat} {v2 : Int32} {v3 : Int32} {μ : zMem} {out : zR} (hh1 : zIsCp h1 = true) (hf : fX7_setsFrom F h1 v2 v3 μ = some out) : zCt E yX7_setsFrom cX7_setsFrom 10 none 0 [.ref 46, .ref h1, .int v2, .int v3] μ out :=
  zCt.of [some (.ref 46), some (.ref h1), some (.int v2), some (.int v3), none, none, none, none, none, none] (by decide +kernel) (Nat.le_of_ble_eq_true rfl) (zLw_s (zLw_s (zLw_s (zLw_s (zLw_e (zLw_e (zLw_e (zLw_e (zLw_e (zLw_e zLw_0)))))))))) rfl (fun X hE ho hr hC => by
    subst hE; subst ho
    exact wX7_setsFrom hC hh1 hr hf)
/-! X7_sets -/
def fX7_sets_40 (F : Nat) (h1 : Nat) : Nat → Int32 → Int32 → zMem → Option zR
  | 0, _, _, _ => none
  | n + 1, v2, v3, μ => if v3 < 0 then some ((nI 0), μ) else zBd (fX7_setsFrom F h1 v2 v3 μ) (fun r1 m1 => fX7_sets_40 F h1 n v2 (v3 + (-1 : Int32)) m1)
def fX7_sets (F : Nat) (h1 : Nat) (v2 : Int32) (μ : zMem) : Option zR :=
  zG (μ h1 2) 61 (zLt (zUp μ 47 (μ h1 2).toNatClampNeg (nI 0)) (fun m3 => zG (m3 h1 2) 61 (zLt (zUp m3 48 (m3 h1 2).toNatClampNeg (nI 0)) (fun m6 => zG (m6 h1 2) 61 (zLt (zUp m6 49 (m6 h1 2).toNatClampNeg (m6 h1 2)) (fun m10 => fX7_sets_40 F h1 F v2 ((m10 h1 2) - (nI 1)) m10))))))
set_option maxRecDepth 20000 in
set_option maxHeartbeats 4000000 in
theorem wX7_sets_40 {X : zX} {F h1 : Nat} (hC : zCx X RX7 cX7_sets 4 1) (hh1 : zIsCp h1 = true) (hret : zRt X none) : ∀ (n : Nat) (v2 : Int32) (v3 : Int32) (μ : zMem), fX7_sets_40 F h1 n v2 v3 μ = some (zOut X) → zAW X 40 [some (.ref 46), some (.ref h1), some (.int v2), some (.int v3)] [] μ := by
  intro n
  induction n with
  | zero =>
    intro v2 v3 μ hf
    rw [fX7_sets_40] at hf
    cases hf
  | succ n ih =>
    intro v2 v3 μ hf
    rw [fX7_sets_40] at hf
    refine zs_il hC dX7_sets_40 rfl ?_
    refine zs_if_lt hC dX7_sets_41 (fun _ hf => ?_) (fun _ hf => ?_) hf
    · exact zs_vret hC hret dX7_sets_57 hf
    · refine zs_al hC dX7_sets_44 rfl ?_
      refine zs_al hC dX7_sets_45 rfl ?_
      refine zs_il hC dX7_sets_46 rfl ?_
      refine zs_il hC dX7_sets_47 rfl ?_
      refine zs_callV [.ref h1, .int v2, .int v3] hC cw_X7_setsFrom cl_RX7_27 zL46 rfl (by decide) rfl rfl (Nat.le_of_ble_eq_true rfl) dX7_sets_48 (fun _ h => ctX7_setsFrom (hh1) h) (fun r1 m1 _ hf => ?_) hf
      show zAW X 51 _ _ m1
      refine zs_iinc (-1 : Int32) hC dX7_sets_51 (by decide) rfl (by decide) rfl ?_
      refine zs_goto hC dX7_sets_54 ?_
      exact zAW.weak (ih _ _ _ hf) (zLw_s (zLw_s (zLw_s (zLw_s zLw_0))))
set_option maxRecDepth 20000 in
set_option maxHeartbeats 4000000 in
theorem wX7_sets {X : zX} {F h1 : Nat} (hC : zCx X RX7 cX7_sets 4 1) (hh1 : zIsCp h1 = true) (hret : zRt X none) {v2 : Int32} {μ : zMem} (hf : fX7_sets F h1 v2 μ = some (zOut X)) : zAW X 0 [some (.ref 46), some (.ref h1), some (.int v2), none] [] μ := by
  unfold fX7_sets at hf
  refine zs_al hC dX7_sets_0 rfl ?_
  refine zs_getR 47 hC fl_RX7_11 zL46 rfl dX7_sets_1 ?_
  refine zs_al hC dX7_sets_4 rfl ?_
  refine zs_getI hC fl_RX7_23 (zCp0 hh1) rfl dX7_sets_5 ?_
  refine zs_k hC dX7_sets_8 ?_
  refine zs_iast hC zL47 dX7_sets_9 (fun _ hf => ?_) hf
  refine zs_let (fun m3 _ hf => ?_) hf
  refine zs_al hC dX7_sets_10 rfl ?_
  refine zs_getR 48 hC fl_RX7_17 zL46 rfl dX7_sets_11 ?_
  refine zs_al hC dX7_sets_14 rfl ?_
  refine zs_getI hC fl_RX7_23 (zCp0 hh1) rfl dX7_sets_15 ?_
  refine zs_k hC dX7_sets_18 ?_
  refine zs_iast hC zL48 dX7_sets_19 (fun _ hf => ?_) hf
  refine zs_let (fun m6 _ hf => ?_) hf
  refine zs_al hC dX7_sets_20 rfl ?_
  refine zs_getR 49 hC fl_RX7_20 zL46 rfl dX7_sets_21 ?_
  refine zs_al hC dX7_sets_24 rfl ?_
  refine zs_getI hC fl_RX7_23 (zCp0 hh1) rfl dX7_sets_25 ?_
  refine zs_al hC dX7_sets_28 rfl ?_
  refine zs_getI hC fl_RX7_23 (zCp0 hh1) rfl dX7_sets_29 ?_
  refine zs_iast hC zL49 dX7_sets_32 (fun _ hf => ?_) hf
  refine zs_let (fun m10 _ hf => ?_) hf
  refine zs_al hC dX7_sets_33 rfl ?_
  refine zs_getI hC fl_RX7_23 (zCp0 hh1) rfl dX7_sets_34 ?_
  refine zs_k hC dX7_sets_37 ?_
  refine zs_isub hC dX7_sets_38 ?_
  refine zs_is hC dX7_sets_39 (by decide) rfl ?_
  exact zAW.weak (wX7_sets_40 hC hh1 hret F _ _ _ hf) (zLw_s (zLw_s (zLw_s (zLw_s zLw_0))))
set_option maxRecDepth 20000 in
set_option maxHeartbeats 4000000 in
theorem ctX7_sets {E : zEV} {F : Nat} {h1 : Nat} {v2 : Int32} {μ : zMem} {out : zR} (hh1 : zIsCp h1 = true) (hf : fX7_sets F h1 v2 μ = some out) : zCt E yX7_sets cX7_sets 4 none 1 [.ref 46, .ref h1, .int v2] μ out :=
  zCt.of [some (.ref 46), some (.ref h1), some (.int v2), none] (by decide +kernel) (Nat.le_of_ble_eq_true rfl) (zLw_s (zLw_s (zLw_s (zLw_e zLw_0)))) rfl (fun X hE ho hr hC => by
    subst hE; subst ho
    exact wX7_sets hC hh1 hr hf)
/-! X7_lineWith -/
def fX7_lineWith_4 (F : Nat) : Nat → Int32 → Int32 → Int32 → zMem → Option zR
  | 0, _, _, _, _ => none
  | n + 1, v1, v2, v3, μ => zG (nI 0) 61 (if (μ 48 (nI 0).toNatClampNeg) ≤ v3 then some ((-1 : Int32), μ) else zG v2 61 (if (μ 49 v2.toNatClampNeg) ≤ v1 then fX7_lineWith_4 F n v1 (μ 49 v2.toNatClampNeg) (v3 + (nI 1)) μ else some (v3, μ)))
def fX7_lineWith (F : Nat) (v1 : Int32) (μ : zMem) : Option zR :=
  fX7_lineWith_4 F F v1 (nI 0) (nI 0) μ
set_option maxRecDepth 20000 in
set_option maxHeartbeats 4000000 in
theorem wX7_lineWith_4 {X : zX} {F : Nat} (hC : zCx X RX7 cX7_lineWith 4 0) (hret : zRt X (some .int)) : ∀ (n : Nat) (v1 : Int32) (v2 : Int32) (v3 : Int32) (μ : zMem), fX7_lineWith_4 F n v1 v2 v3 μ = some (zOut X) → zAW X 4 [some (.ref 46), some (.int v1), some (.int v2), some (.int v3)] [] μ := by
  intro n
  induction n with
  | zero =>
    intro v1 v2 v3 μ hf
    rw [fX7_lineWith_4] at hf
    cases hf
  | succ n ih =>
    intro v1 v2 v3 μ hf
    rw [fX7_lineWith_4] at hf
    refine zs_il hC dX7_lineWith_4 rfl ?_
    refine zs_al hC dX7_lineWith_5 rfl ?_
    refine zs_getR 48 hC fl_RX7_17 zL46 rfl dX7_lineWith_6 ?_
    refine zs_k hC dX7_lineWith_9 ?_
    refine zs_iald hC zL48 dX7_lineWith_10 (fun _ hf => ?_) hf
    refine zs_ic_ge hC dX7_lineWith_11 (fun _ hf => ?_) (fun _ hf => ?_) hf
    · refine zs_k hC dX7_lineWith_34 ?_
      exact zs_iret hC hret dX7_lineWith_35 hf
    · refine zs_al hC dX7_lineWith_14 rfl ?_
      refine zs_getR 49 hC fl_RX7_20 zL46 rfl dX7_lineWith_15 ?_
      refine zs_il hC dX7_lineWith_18 rfl ?_
      refine zs_iald hC zL49 dX7_lineWith_19 (fun _ hf => ?_) hf
      refine zs_is hC dX7_lineWith_20 (by decide) rfl ?_
      refine zs_il hC dX7_lineWith_21 rfl ?_
      refine zs_il hC dX7_lineWith_22 rfl ?_
      refine zs_ic_ge hC dX7_lineWith_23 (fun _ hf => ?_) (fun _ hf => ?_) hf
      · refine zs_iinc (nI 1) hC dX7_lineWith_28 (by decide) rfl (by decide) rfl ?_
        refine zs_goto hC dX7_lineWith_31 ?_
        exact zAW.weak (ih _ _ _ _ hf) (zLw_s (zLw_s (zLw_s (zLw_s zLw_0))))
      · refine zs_il hC dX7_lineWith_26 rfl ?_
        exact zs_iret hC hret dX7_lineWith_27 hf
set_option maxRecDepth 20000 in
set_option maxHeartbeats 4000000 in
theorem wX7_lineWith {X : zX} {F : Nat} (hC : zCx X RX7 cX7_lineWith 4 0) (hret : zRt X (some .int)) {v1 : Int32} {μ : zMem} (hf : fX7_lineWith F v1 μ = some (zOut X)) : zAW X 0 [some (.ref 46), some (.int v1), none, none] [] μ := by
  unfold fX7_lineWith at hf
  refine zs_k hC dX7_lineWith_0 ?_
  refine zs_is hC dX7_lineWith_1 (by decide) rfl ?_
  refine zs_k hC dX7_lineWith_2 ?_
  refine zs_is hC dX7_lineWith_3 (by decide) rfl ?_
  exact zAW.weak (wX7_lineWith_4 hC hret F _ _ _ _ hf) (zLw_s (zLw_s (zLw_s (zLw_s zLw_0))))
set_option maxRecDepth 20000 in
set_option maxHeartbeats 4000000 in
theorem ctX7_lineWith {E : zEV} {F : Nat} {v1 : Int32} {μ : zMem} {out : zR} (hf : fX7_lineWith F v1 μ = some out) : zCt E yX7_lineWith cX7_lineWith 4 (some .int) 0 [.ref 46, .int v1] μ out :=
  zCt.of [some (.ref 46), some (.int v1), none, none] (by decide +kernel) (Nat.le_of_ble_eq_true rfl) (zLw_s (zLw_s (zLw_e (zLw_e zLw_0)))) rfl (fun X hE ho hr hC => by
    subst hE; subst ho
    exact wX7_lineWith hC hr hf)
/-! X8_becomes -/
def fX8_becomes (F : Nat) (h0 : Nat) (h1 : Nat) (μ : zMem) : Option zR :=
  zGb (decide (¬ (nI 0) < 0 ∧ ¬ (nI 0) < 0 ∧ ¬ (nI 16) < 0 ∧ (nI 0).toNatClampNeg + (nI 16).toNatClampNeg ≤ 16 ∧ (nI 0).toNatClampNeg + (nI 16).toNatClampNeg ≤ 16)) (zLt (zRow μ (h0 + 1) (va_cpy (μ (h1 + 1)) (μ (h0 + 1)) (nI 0).toNatClampNeg (nI 0).toNatClampNeg (nI 16).toNatClampNeg)) (fun m3 => zGb (decide (¬ (nI 0) < 0 ∧ ¬ (nI 0) < 0 ∧ ¬ (nI 16) < 0 ∧ (nI 0).toNatClampNeg + (nI 16).toNatClampNeg ≤ 16 ∧ (nI 0).toNatClampNeg + (nI 16).toNatClampNeg ≤ 16)) (zLt (zRow m3 (h0 + 2) (va_cpy (m3 (h1 + 2)) (m3 (h0 + 2)) (nI 0).toNatClampNeg (nI 0).toNatClampNeg (nI 16).toNatClampNeg)) (fun m6 => zGb (decide (¬ (nI 0) < 0 ∧ ¬ (nI 0) < 0 ∧ ¬ (nI 20) < 0 ∧ (nI 0).toNatClampNeg + (nI 20).toNatClampNeg ≤ 20 ∧ (nI 0).toNatClampNeg + (nI 20).toNatClampNeg ≤ 20)) (zLt (zRow m6 (h0 + 3) (va_cpy (m6 (h1 + 3)) (m6 (h0 + 3)) (nI 0).toNatClampNeg (nI 0).toNatClampNeg (nI 20).toNatClampNeg)) (fun m9 => zGb (decide (¬ (nI 0) < 0 ∧ ¬ (nI 0) < 0 ∧ ¬ (nI 320) < 0 ∧ (nI 0).toNatClampNeg + (nI 320).toNatClampNeg ≤ 320 ∧ (nI 0).toNatClampNeg + (nI 320).toNatClampNeg ≤ 320)) (zLt (zRow m9 (h0 + 4) (va_cpy (m9 (h1 + 4)) (m9 (h0 + 4)) (nI 0).toNatClampNeg (nI 0).toNatClampNeg (nI 320).toNatClampNeg)) (fun m12 => zLt (zUp m12 h0 4 (m12 h1 4)) (fun m14 => zLt (zUp m14 h0 5 (m14 h1 5)) (fun m16 => zLt (zUp m16 h0 6 (m16 h1 6)) (fun m18 => zLt (zUp m18 h0 7 (m18 h1 7)) (fun m20 => some ((nI 0), m20)))))))))))))
set_option maxRecDepth 20000 in
set_option maxHeartbeats 4000000 in
theorem wX8_becomes {X : zX} {F h0 h1 : Nat} (hC : zCx X RX8 cX8_becomes 2 1) (hh0 : zIsSt h0 = true) (hh1 : zIsSt h1 = true) (hret : zRt X none) {μ : zMem} (hf : fX8_becomes F h0 h1 μ = some (zOut X)) : zAW X 0 [some (.ref h0), some (.ref h1)] [] μ := by
  unfold fX8_becomes at hf
  refine zs_al hC dX8_becomes_0 rfl ?_
  refine zs_getR (h1 + 1) hC fl_RX8_9 (zSt0 hh1) rfl dX8_becomes_1 ?_
  refine zs_k hC dX8_becomes_4 ?_
  refine zs_al hC dX8_becomes_5 rfl ?_
  refine zs_getR (h0 + 1) hC fl_RX8_9 (zSt0 hh0) rfl dX8_becomes_6 ?_
  refine zs_k hC dX8_becomes_9 ?_
  refine zs_k hC dX8_becomes_10 ?_
  refine zs_copy hC cp_RX8_28 (by decide) (Nat.le_of_ble_eq_true rfl) (zSt1 hh1) (zSt1 hh0) dX8_becomes_12 (fun hf => ?_) hf
  refine zs_let (fun m3 _ hf => ?_) hf
  refine zs_al hC dX8_becomes_15 rfl ?_
  refine zs_getR (h1 + 2) hC fl_RX8_15 (zSt0 hh1) rfl dX8_becomes_16 ?_
  refine zs_k hC dX8_becomes_19 ?_
  refine zs_al hC dX8_becomes_20 rfl ?_
  refine zs_getR (h0 + 2) hC fl_RX8_15 (zSt0 hh0) rfl dX8_becomes_21 ?_
  refine zs_k hC dX8_becomes_24 ?_
  refine zs_k hC dX8_becomes_25 ?_
  refine zs_copy hC cp_RX8_28 (by decide) (Nat.le_of_ble_eq_true rfl) (zSt2 hh1) (zSt2 hh0) dX8_becomes_27 (fun hf => ?_) hf
  refine zs_let (fun m6 _ hf => ?_) hf
  refine zs_al hC dX8_becomes_30 rfl ?_
  refine zs_getR (h1 + 3) hC fl_RX8_18 (zSt0 hh1) rfl dX8_becomes_31 ?_
  refine zs_k hC dX8_becomes_34 ?_
  refine zs_al hC dX8_becomes_35 rfl ?_
  refine zs_getR (h0 + 3) hC fl_RX8_18 (zSt0 hh0) rfl dX8_becomes_36 ?_
  refine zs_k hC dX8_becomes_39 ?_
  refine zs_k hC dX8_becomes_40 ?_
  refine zs_copy hC cp_RX8_28 (by decide) (Nat.le_of_ble_eq_true rfl) (zSt3 hh1) (zSt3 hh0) dX8_becomes_42 (fun hf => ?_) hf
  refine zs_let (fun m9 _ hf => ?_) hf
  refine zs_al hC dX8_becomes_45 rfl ?_
  refine zs_getR (h1 + 4) hC fl_RX8_21 (zSt0 hh1) rfl dX8_becomes_46 ?_
  refine zs_k hC dX8_becomes_49 ?_
  refine zs_al hC dX8_becomes_50 rfl ?_
  refine zs_getR (h0 + 4) hC fl_RX8_21 (zSt0 hh0) rfl dX8_becomes_51 ?_
  refine zs_k hC dX8_becomes_54 ?_
  refine zs_k hC dX8_becomes_55 ?_
  refine zs_copy hC cp_RX8_28 (by decide) (Nat.le_of_ble_eq_true rfl) (zSt4 hh1) (zSt4 hh0) dX8_becomes_58 (fun hf => ?_) hf
  refine zs_let (fun m12 _ hf => ?_) hf
  refine zs_al hC dX8_becomes_61 rfl ?_
  refine zs_al hC dX8_becomes_62 rfl ?_
  refine zs_getI hC fl_RX8_34 (zSt0 hh1) rfl dX8_becomes_63 ?_
  refine zs_putI hC fl_RX8_34 fp_8_4 (zSt0 hh0) rfl dX8_becomes_66 ?_
  refine zs_let (fun m14 _ hf => ?_) hf
  refine zs_al hC dX8_becomes_69 rfl ?_
  refine zs_al hC dX8_becomes_70 rfl ?_
  refine zs_getI hC fl_RX8_37 (zSt0 hh1) rfl dX8_becomes_71 ?_
  refine zs_putI hC fl_RX8_37 fp_8_5 (zSt0 hh0) rfl dX8_becomes_74 ?_
  refine zs_let (fun m16 _ hf => ?_) hf
  refine zs_al hC dX8_becomes_77 rfl ?_
  refine zs_al hC dX8_becomes_78 rfl ?_
  refine zs_getI hC fl_RX8_40 (zSt0 hh1) rfl dX8_becomes_79 ?_
  refine zs_putI hC fl_RX8_40 fp_8_6 (zSt0 hh0) rfl dX8_becomes_82 ?_
  refine zs_let (fun m18 _ hf => ?_) hf
  refine zs_al hC dX8_becomes_85 rfl ?_
  refine zs_al hC dX8_becomes_86 rfl ?_
  refine zs_getI hC fl_RX8_24 (zSt0 hh1) rfl dX8_becomes_87 ?_
  refine zs_putI hC fl_RX8_24 fp_8_7 (zSt0 hh0) rfl dX8_becomes_90 ?_
  refine zs_let (fun m20 _ hf => ?_) hf
  exact zs_vret hC hret dX8_becomes_93 hf
set_option maxRecDepth 20000 in
set_option maxHeartbeats 4000000 in
theorem ctX8_becomes {E : zEV} {F : Nat} {h0 : Nat} {h1 : Nat} {μ : zMem} {out : zR} (hh0 : zIsSt h0 = true) (hh1 : zIsSt h1 = true) (hf : fX8_becomes F h0 h1 μ = some out) : zCt E yX8_becomes cX8_becomes 2 none 1 [.ref h0, .ref h1] μ out :=
  zCt.of [some (.ref h0), some (.ref h1)] (by decide +kernel) (Nat.le_of_ble_eq_true rfl) (zLw_s (zLw_s zLw_0)) rfl (fun X hE ho hr hC => by
    subst hE; subst ho
    exact wX8_becomes hC hh0 hh1 hr hf)
/-! X8_tells -/
def fX8_tells (F : Nat) (h0 : Nat) (v1 : Int32) (v2 : Int32) (v3 : Int32) (μ : zMem) : Option zR :=
  zLt (zUp μ h0 4 ((μ h0 4) ||| ((nI 1) <<< (v1 &&& 31)))) (fun m2 => zG v1 16 (zLt (zUp m2 (h0 + 1) v1.toNatClampNeg v2) (fun m4 => zG v1 16 (zLt (zUp m4 (h0 + 2) v1.toNatClampNeg (nI 0)) (fun m6 => zBd (fX8_reads F h0 v1 v3 m6) (fun r7 m7 => some ((nI 0), m7)))))))
set_option maxRecDepth 20000 in
set_option maxHeartbeats 4000000 in
theorem wX8_tells {X : zX} {F h0 : Nat} (hC : zCx X RX8 cX8_tells 4 1) (hh0 : zIsSt h0 = true) (hret : zRt X none) {v1 : Int32} {v2 : Int32} {v3 : Int32} {μ : zMem} (hf : fX8_tells F h0 v1 v2 v3 μ = some (zOut X)) : zAW X 0 [some (.ref h0), some (.int v1), some (.int v2), some (.int v3)] [] μ := by
  unfold fX8_tells at hf
  refine zs_al hC dX8_tells_0 rfl ?_
  refine zs_dup hC dX8_tells_1 rfl ?_
  refine zs_getI hC fl_RX8_34 (zSt0 hh0) rfl dX8_tells_2 ?_
  refine zs_k hC dX8_tells_5 ?_
  refine zs_il hC dX8_tells_6 rfl ?_
  refine zs_ishl hC dX8_tells_7 ?_
  refine zs_ior hC dX8_tells_8 ?_
  refine zs_putI hC fl_RX8_34 fp_8_4 (zSt0 hh0) rfl dX8_tells_9 ?_
  refine zs_let (fun m2 _ hf => ?_) hf
  refine zs_al hC dX8_tells_12 rfl ?_
  refine zs_getR (h0 + 1) hC fl_RX8_9 (zSt0 hh0) rfl dX8_tells_13 ?_
  refine zs_il hC dX8_tells_16 rfl ?_
  refine zs_il hC dX8_tells_17 rfl ?_
  refine zs_iast hC (zSt1 hh0) dX8_tells_18 (fun _ hf => ?_) hf
  refine zs_let (fun m4 _ hf => ?_) hf
  refine zs_al hC dX8_tells_19 rfl ?_
  refine zs_getR (h0 + 2) hC fl_RX8_15 (zSt0 hh0) rfl dX8_tells_20 ?_
  refine zs_il hC dX8_tells_23 rfl ?_
  refine zs_k hC dX8_tells_24 ?_
  refine zs_iast hC (zSt2 hh0) dX8_tells_25 (fun _ hf => ?_) hf
  refine zs_let (fun m6 _ hf => ?_) hf
  refine zs_al hC dX8_tells_26 rfl ?_
  refine zs_il hC dX8_tells_27 rfl ?_
  refine zs_il hC dX8_tells_28 rfl ?_
  refine zs_callV [.int v1, .int v3] hC cw_X8_reads cl_RX8_43 (zSt0 hh0) rfl (by decide) rfl rfl (Nat.le_of_ble_eq_true rfl) dX8_tells_29 (fun _ h => ctX8_reads (hh0) h) (fun r7 m7 _ hf => ?_) hf
  show zAW X 32 _ _ m7
  exact zs_vret hC hret dX8_tells_32 hf
set_option maxRecDepth 20000 in
set_option maxHeartbeats 4000000 in
theorem ctX8_tells {E : zEV} {F : Nat} {h0 : Nat} {v1 : Int32} {v2 : Int32} {v3 : Int32} {μ : zMem} {out : zR} (hh0 : zIsSt h0 = true) (hf : fX8_tells F h0 v1 v2 v3 μ = some out) : zCt E yX8_tells cX8_tells 4 none 1 [.ref h0, .int v1, .int v2, .int v3] μ out :=
  zCt.of [some (.ref h0), some (.int v1), some (.int v2), some (.int v3)] (by decide +kernel) (Nat.le_of_ble_eq_true rfl) (zLw_s (zLw_s (zLw_s (zLw_s zLw_0)))) rfl (fun X hE ho hr hC => by
    subst hE; subst ho
    exact wX8_tells hC hh0 hr hf)
/-! X8_isTold -/
def fX8_isTold (F : Nat) (h0 : Nat) (v1 : Int32) (μ : zMem) : Option zR :=
  zBd (fX11_isPerson F v1 μ) (fun r1 m1 => if r1 = 0 then some ((nI 0), m1) else zBd (fX11_hasBit F (m1 h0 4) v1 m1) (fun r3 m3 => if r3 = 0 then some ((nI 0), m3) else some ((nI 1), m3)))
set_option maxRecDepth 20000 in
set_option maxHeartbeats 4000000 in
theorem wX8_isTold {X : zX} {F h0 : Nat} (hC : zCx X RX8 cX8_isTold 2 2) (hh0 : zIsSt h0 = true) (hret : zRt X (some .boolean)) {v1 : Int32} {μ : zMem} (hf : fX8_isTold F h0 v1 μ = some (zOut X)) : zAW X 0 [some (.ref h0), some (.int v1)] [] μ := by
  unfold fX8_isTold at hf
  refine zs_il hC dX8_isTold_0 rfl ?_
  refine zs_callN [.int v1] hC cw_X11_isPerson cl_RX8_47 (by decide) rfl rfl (Nat.le_of_ble_eq_true rfl) dX8_isTold_1 (fun _ h => ctX11_isPerson h) (fun r1 m1 _ hf => ?_) hf
  show zAW X 4 _ (.int r1 :: _) m1
  refine zs_if_eq hC dX8_isTold_4 (fun _ hf => ?_) (fun _ hf => ?_) hf
  · refine zs_k hC dX8_isTold_22 ?_
    exact zs_zretK hC hret dX8_isTold_23 (by decide) hf
  · refine zs_al hC dX8_isTold_7 rfl ?_
    refine zs_getI hC fl_RX8_34 (zSt0 hh0) rfl dX8_isTold_8 ?_
    refine zs_il hC dX8_isTold_11 rfl ?_
    refine zs_callN [.int (m1 h0 4), .int v1] hC cw_X11_hasBit cl_RX8_51 (by decide) rfl rfl (Nat.le_of_ble_eq_true rfl) dX8_isTold_12 (fun _ h => ctX11_hasBit h) (fun r3 m3 _ hf => ?_) hf
    show zAW X 15 _ (.int r3 :: _) m3
    refine zs_if_eq hC dX8_isTold_15 (fun _ hf => ?_) (fun _ hf => ?_) hf
    · refine zs_k hC dX8_isTold_22 ?_
      exact zs_zretK hC hret dX8_isTold_23 (by decide) hf
    · refine zs_k hC dX8_isTold_18 ?_
      refine zs_goto hC dX8_isTold_19 ?_
      exact zs_zretK hC hret dX8_isTold_23 (by decide) hf
set_option maxRecDepth 20000 in
set_option maxHeartbeats 4000000 in
theorem ctX8_isTold {E : zEV} {F : Nat} {h0 : Nat} {v1 : Int32} {μ : zMem} {out : zR} (hh0 : zIsSt h0 = true) (hf : fX8_isTold F h0 v1 μ = some out) : zCt E yX8_isTold cX8_isTold 2 (some .boolean) 2 [.ref h0, .int v1] μ out :=
  zCt.of [some (.ref h0), some (.int v1)] (by decide +kernel) (Nat.le_of_ble_eq_true rfl) (zLw_s (zLw_s zLw_0)) rfl (fun X hE ho hr hC => by
    subst hE; subst ho
    exact wX8_isTold hC hh0 hr hf)
/-! X8_isReader -/
def fX8_isReader (F : Nat) (h0 : Nat) (v1 : Int32) (μ : zMem) : Option zR :=
  zBd (fX11_isPerson F v1 μ) (fun r1 m1 => if r1 = 0 then some ((nI 0), m1) else zBd (fX11_hasBit F (m1 h0 5) v1 m1) (fun r3 m3 => if r3 = 0 then some ((nI 0), m3) else some ((nI 1), m3)))
set_option maxRecDepth 20000 in
set_option maxHeartbeats 4000000 in
theorem wX8_isReader {X : zX} {F h0 : Nat} (hC : zCx X RX8 cX8_isReader 2 2) (hh0 : zIsSt h0 = true) (hret : zRt X (some .boolean)) {v1 : Int32} {μ : zMem} (hf : fX8_isReader F h0 v1 μ = some (zOut X)) : zAW X 0 [some (.ref h0), some (.int v1)] [] μ := by
  unfold fX8_isReader at hf
  refine zs_il hC dX8_isReader_0 rfl ?_
  refine zs_callN [.int v1] hC cw_X11_isPerson cl_RX8_47 (by decide) rfl rfl (Nat.le_of_ble_eq_true rfl) dX8_isReader_1 (fun _ h => ctX11_isPerson h) (fun r1 m1 _ hf => ?_) hf
  show zAW X 4 _ (.int r1 :: _) m1
  refine zs_if_eq hC dX8_isReader_4 (fun _ hf => ?_) (fun _ hf => ?_) hf
  · refine zs_k hC dX8_isReader_22 ?_
    exact zs_zretK hC hret dX8_isReader_23 (by decide) hf
  · refine zs_al hC dX8_isReader_7 rfl ?_
    refine zs_getI hC fl_RX8_37 (zSt0 hh0) rfl dX8_isReader_8 ?_
    refine zs_il hC dX8_isReader_11 rfl ?_
    refine zs_callN [.int (m1 h0 5), .int v1] hC cw_X11_hasBit cl_RX8_51 (by decide) rfl rfl (Nat.le_of_ble_eq_true rfl) dX8_isReader_12 (fun _ h => ctX11_hasBit h) (fun r3 m3 _ hf => ?_) hf
    show zAW X 15 _ (.int r3 :: _) m3
    refine zs_if_eq hC dX8_isReader_15 (fun _ hf => ?_) (fun _ hf => ?_) hf
    · refine zs_k hC dX8_isReader_22 ?_
      exact zs_zretK hC hret dX8_isReader_23 (by decide) hf
    · refine zs_k hC dX8_isReader_18 ?_
      refine zs_goto hC dX8_isReader_19 ?_
      exact zs_zretK hC hret dX8_isReader_23 (by decide) hf
set_option maxRecDepth 20000 in
set_option maxHeartbeats 4000000 in
theorem ctX8_isReader {E : zEV} {F : Nat} {h0 : Nat} {v1 : Int32} {μ : zMem} {out : zR} (hh0 : zIsSt h0 = true) (hf : fX8_isReader F h0 v1 μ = some out) : zCt E yX8_isReader cX8_isReader 2 (some .boolean) 2 [.ref h0, .int v1] μ out :=
  zCt.of [some (.ref h0), some (.int v1)] (by decide +kernel) (Nat.le_of_ble_eq_true rfl) (zLw_s (zLw_s zLw_0)) rfl (fun X hE ho hr hC => by
    subst hE; subst ho
    exact wX8_isReader hC hh0 hr hf)
/-! X8_secretsOf -/
def fX8_secretsOf (F : Nat) (h0 : Nat) (v1 : Int32) (μ : zMem) : Option zR :=
  zBd (fX8_isTold F h0 v1 μ) (fun r1 m1 => if r1 = 0 then some ((nI 0), m1) else zG v1 16 (some ((m1 (h0 + 1) v1.toNatClampNeg), m1)))
set_option maxRecDepth 20000 in
set_option maxHeartbeats 4000000 in
theorem wX8_secretsOf {X : zX} {F h0 : Nat} (hC : zCx X RX8 cX8_secretsOf 2 3) (hh0 : zIsSt h0 = true) (hret : zRt X (some .int)) {v1 : Int32} {μ : zMem} (hf : fX8_secretsOf F h0 v1 μ = some (zOut X)) : zAW X 0 [some (.ref h0), some (.int v1)] [] μ := by
  unfold fX8_secretsOf at hf
  refine zs_al hC dX8_secretsOf_0 rfl ?_
  refine zs_il hC dX8_secretsOf_1 rfl ?_
  refine zs_callV [.int v1] hC cw_X8_isTold cl_RX8_55 (zSt0 hh0) rfl (by decide) rfl rfl (Nat.le_of_ble_eq_true rfl) dX8_secretsOf_2 (fun _ h => ctX8_isTold (hh0) h) (fun r1 m1 _ hf => ?_) hf
  show zAW X 5 _ (.int r1 :: _) m1
  refine zs_if_eq hC dX8_secretsOf_5 (fun _ hf => ?_) (fun _ hf => ?_) hf
  · refine zs_k hC dX8_secretsOf_17 ?_
    exact zs_iret hC hret dX8_secretsOf_18 hf
  · refine zs_al hC dX8_secretsOf_8 rfl ?_
    refine zs_getR (h0 + 1) hC fl_RX8_9 (zSt0 hh0) rfl dX8_secretsOf_9 ?_
    refine zs_il hC dX8_secretsOf_12 rfl ?_
    refine zs_iald hC (zSt1 hh0) dX8_secretsOf_13 (fun _ hf => ?_) hf
    refine zs_goto hC dX8_secretsOf_14 ?_
    exact zs_iret hC hret dX8_secretsOf_18 hf
set_option maxRecDepth 20000 in
set_option maxHeartbeats 4000000 in
theorem ctX8_secretsOf {E : zEV} {F : Nat} {h0 : Nat} {v1 : Int32} {μ : zMem} {out : zR} (hh0 : zIsSt h0 = true) (hf : fX8_secretsOf F h0 v1 μ = some out) : zCt E yX8_secretsOf cX8_secretsOf 2 (some .int) 3 [.ref h0, .int v1] μ out :=
  zCt.of [some (.ref h0), some (.int v1)] (by decide +kernel) (Nat.le_of_ble_eq_true rfl) (zLw_s (zLw_s zLw_0)) rfl (fun X hE ho hr hC => by
    subst hE; subst ho
    exact wX8_secretsOf hC hh0 hr hf)
/-! X8_knownToAny -/
def fX8_knownToAny_4 (F : Nat) (h0 : Nat) : Nat → Int32 → Int32 → zMem → Option zR
  | 0, _, _, _ => none
  | n + 1, v1, v2, μ => if (nI 16) ≤ v2 then some (v1, μ) else zBd (fX8_secretsOf F h0 v2 μ) (fun r1 m1 => fX8_knownToAny_4 F h0 n (v1 ||| r1) (v2 + (nI 1)) m1)
def fX8_knownToAny (F : Nat) (h0 : Nat) (μ : zMem) : Option zR :=
  fX8_knownToAny_4 F h0 F (nI 0) (nI 0) μ
set_option maxRecDepth 20000 in
set_option maxHeartbeats 4000000 in
theorem wX8_knownToAny_4 {X : zX} {F h0 : Nat} (hC : zCx X RX8 cX8_knownToAny 3 4) (hh0 : zIsSt h0 = true) (hret : zRt X (some .int)) : ∀ (n : Nat) (v1 : Int32) (v2 : Int32) (μ : zMem), fX8_knownToAny_4 F h0 n v1 v2 μ = some (zOut X) → zAW X 4 [some (.ref h0), some (.int v1), some (.int v2)] [] μ := by
  intro n
  induction n with
  | zero =>
    intro v1 v2 μ hf
    rw [fX8_knownToAny_4] at hf
    cases hf
  | succ n ih =>
    intro v1 v2 μ hf
    rw [fX8_knownToAny_4] at hf
    refine zs_il hC dX8_knownToAny_4 rfl ?_
    refine zs_k hC dX8_knownToAny_5 ?_
    refine zs_ic_ge hC dX8_knownToAny_7 (fun _ hf => ?_) (fun _ hf => ?_) hf
    · refine zs_il hC dX8_knownToAny_24 rfl ?_
      exact zs_iret hC hret dX8_knownToAny_25 hf
    · refine zs_il hC dX8_knownToAny_10 rfl ?_
      refine zs_al hC dX8_knownToAny_11 rfl ?_
      refine zs_il hC dX8_knownToAny_12 rfl ?_
      refine zs_callV [.int v2] hC cw_X8_secretsOf cl_RX8_58 (zSt0 hh0) rfl (by decide) rfl rfl (Nat.le_of_ble_eq_true rfl) dX8_knownToAny_13 (fun _ h => ctX8_secretsOf (hh0) h) (fun r1 m1 _ hf => ?_) hf
      show zAW X 16 _ (.int r1 :: _) m1
      refine zs_ior hC dX8_knownToAny_16 ?_
      refine zs_is hC dX8_knownToAny_17 (by decide) rfl ?_
      refine zs_iinc (nI 1) hC dX8_knownToAny_18 (by decide) rfl (by decide) rfl ?_
      refine zs_goto hC dX8_knownToAny_21 ?_
      exact zAW.weak (ih _ _ _ hf) (zLw_s (zLw_s (zLw_s zLw_0)))
set_option maxRecDepth 20000 in
set_option maxHeartbeats 4000000 in
theorem wX8_knownToAny {X : zX} {F h0 : Nat} (hC : zCx X RX8 cX8_knownToAny 3 4) (hh0 : zIsSt h0 = true) (hret : zRt X (some .int)) {μ : zMem} (hf : fX8_knownToAny F h0 μ = some (zOut X)) : zAW X 0 [some (.ref h0), none, none] [] μ := by
  unfold fX8_knownToAny at hf
  refine zs_k hC dX8_knownToAny_0 ?_
  refine zs_is hC dX8_knownToAny_1 (by decide) rfl ?_
  refine zs_k hC dX8_knownToAny_2 ?_
  refine zs_is hC dX8_knownToAny_3 (by decide) rfl ?_
  exact zAW.weak (wX8_knownToAny_4 hC hh0 hret F _ _ _ hf) (zLw_s (zLw_s (zLw_s zLw_0)))
set_option maxRecDepth 20000 in
set_option maxHeartbeats 4000000 in
theorem ctX8_knownToAny {E : zEV} {F : Nat} {h0 : Nat} {μ : zMem} {out : zR} (hh0 : zIsSt h0 = true) (hf : fX8_knownToAny F h0 μ = some out) : zCt E yX8_knownToAny cX8_knownToAny 3 (some .int) 4 [.ref h0] μ out :=
  zCt.of [some (.ref h0), none, none] (by decide +kernel) (Nat.le_of_ble_eq_true rfl) (zLw_s (zLw_e (zLw_e zLw_0))) rfl (fun X hE ho hr hC => by
    subst hE; subst ho
    exact wX8_knownToAny hC hh0 hr hf)
/-! X8_knownToAll -/
def fX8_knownToAll_16 (F : Nat) (h0 : Nat) : Nat → Int32 → Int32 → zMem → Option zR
  | 0, _, _, _ => none
  | n + 1, v1, v2, μ => if (nI 16) ≤ v2 then some (v1, μ) else zBd (fX8_isTold F h0 v2 μ) (fun r1 m1 => if r1 = 0 then fX8_knownToAll_16 F h0 n v1 (v2 + (nI 1)) m1 else zG v2 16 (fX8_knownToAll_16 F h0 n (v1 &&& (m1 (h0 + 1) v2.toNatClampNeg)) (v2 + (nI 1)) m1))
def fX8_knownToAll (F : Nat) (h0 : Nat) (μ : zMem) : Option zR :=
  if (μ h0 4) = 0 then fX8_knownToAll_16 F h0 F (nI 0) (nI 0) μ else fX8_knownToAll_16 F h0 F (nI 65535) (nI 0) μ
set_option maxRecDepth 20000 in
set_option maxHeartbeats 4000000 in
theorem wX8_knownToAll_16 {X : zX} {F h0 : Nat} (hC : zCx X RX8 cX8_knownToAll 3 3) (hh0 : zIsSt h0 = true) (hret : zRt X (some .int)) : ∀ (n : Nat) (v1 : Int32) (v2 : Int32) (μ : zMem), fX8_knownToAll_16 F h0 n v1 v2 μ = some (zOut X) → zAW X 16 [some (.ref h0), some (.int v1), some (.int v2)] [] μ := by
  intro n
  induction n with
  | zero =>
    intro v1 v2 μ hf
    rw [fX8_knownToAll_16] at hf
    cases hf
  | succ n ih =>
    intro v1 v2 μ hf
    rw [fX8_knownToAll_16] at hf
    refine zs_il hC dX8_knownToAll_16 rfl ?_
    refine zs_k hC dX8_knownToAll_17 ?_
    refine zs_ic_ge hC dX8_knownToAll_19 (fun _ hf => ?_) (fun _ hf => ?_) hf
    · refine zs_il hC dX8_knownToAll_45 rfl ?_
      exact zs_iret hC hret dX8_knownToAll_46 hf
    · refine zs_al hC dX8_knownToAll_22 rfl ?_
      refine zs_il hC dX8_knownToAll_23 rfl ?_
      refine zs_callV [.int v2] hC cw_X8_isTold cl_RX8_55 (zSt0 hh0) rfl (by decide) rfl rfl (Nat.le_of_ble_eq_true rfl) dX8_knownToAll_24 (fun _ h => ctX8_isTold (hh0) h) (fun r1 m1 _ hf => ?_) hf
      show zAW X 27 _ (.int r1 :: _) m1
      refine zs_if_eq hC dX8_knownToAll_27 (fun _ hf => ?_) (fun _ hf => ?_) hf
      · refine zs_iinc (nI 1) hC dX8_knownToAll_39 (by decide) rfl (by decide) rfl ?_
        refine zs_goto hC dX8_knownToAll_42 ?_
        exact zAW.weak (ih _ _ _ hf) (zLw_s (zLw_s (zLw_s zLw_0)))
      · refine zs_il hC dX8_knownToAll_30 rfl ?_
        refine zs_al hC dX8_knownToAll_31 rfl ?_
        refine zs_getR (h0 + 1) hC fl_RX8_9 (zSt0 hh0) rfl dX8_knownToAll_32 ?_
        refine zs_il hC dX8_knownToAll_35 rfl ?_
        refine zs_iald hC (zSt1 hh0) dX8_knownToAll_36 (fun _ hf => ?_) hf
        refine zs_iand hC dX8_knownToAll_37 ?_
        refine zs_is hC dX8_knownToAll_38 (by decide) rfl ?_
        refine zs_iinc (nI 1) hC dX8_knownToAll_39 (by decide) rfl (by decide) rfl ?_
        refine zs_goto hC dX8_knownToAll_42 ?_
        exact zAW.weak (ih _ _ _ hf) (zLw_s (zLw_s (zLw_s zLw_0)))
set_option maxRecDepth 20000 in
set_option maxHeartbeats 4000000 in
theorem wX8_knownToAll {X : zX} {F h0 : Nat} (hC : zCx X RX8 cX8_knownToAll 3 3) (hh0 : zIsSt h0 = true) (hret : zRt X (some .int)) {μ : zMem} (hf : fX8_knownToAll F h0 μ = some (zOut X)) : zAW X 0 [some (.ref h0), none, none] [] μ := by
  unfold fX8_knownToAll at hf
  refine zs_al hC dX8_knownToAll_0 rfl ?_
  refine zs_getI hC fl_RX8_34 (zSt0 hh0) rfl dX8_knownToAll_1 ?_
  refine zs_if_ne hC dX8_knownToAll_4 (fun _ hf => ?_) (fun _ hf => ?_) hf
  · refine zs_k hC dX8_knownToAll_7 ?_
    refine zs_goto hC dX8_knownToAll_8 ?_
    refine zs_is hC dX8_knownToAll_13 (by decide) rfl ?_
    refine zs_k hC dX8_knownToAll_14 ?_
    refine zs_is hC dX8_knownToAll_15 (by decide) rfl ?_
    exact zAW.weak (wX8_knownToAll_16 hC hh0 hret F _ _ _ hf) (zLw_s (zLw_s (zLw_s zLw_0)))
  · refine zs_ldc hC kc_RX8_62 dX8_knownToAll_11 ?_
    refine zs_is hC dX8_knownToAll_13 (by decide) rfl ?_
    refine zs_k hC dX8_knownToAll_14 ?_
    refine zs_is hC dX8_knownToAll_15 (by decide) rfl ?_
    exact zAW.weak (wX8_knownToAll_16 hC hh0 hret F _ _ _ hf) (zLw_s (zLw_s (zLw_s zLw_0)))
set_option maxRecDepth 20000 in
set_option maxHeartbeats 4000000 in
theorem ctX8_knownToAll {E : zEV} {F : Nat} {h0 : Nat} {μ : zMem} {out : zR} (hh0 : zIsSt h0 = true) (hf : fX8_knownToAll F h0 μ = some out) : zCt E yX8_knownToAll cX8_knownToAll 3 (some .int) 3 [.ref h0] μ out :=
  zCt.of [some (.ref h0), none, none] (by decide +kernel) (Nat.le_of_ble_eq_true rfl) (zLw_s (zLw_e (zLw_e zLw_0))) rfl (fun X hE ho hr hC => by
    subst hE; subst ho
    exact wX8_knownToAll hC hh0 hr hf)
/-! X8_whoKnow -/
def fX8_whoKnow_4 (F : Nat) (h0 : Nat) : Nat → Int32 → Int32 → Int32 → zMem → Option zR
  | 0, _, _, _, _ => none
  | n + 1, v1, v2, v3, μ => if (nI 16) ≤ v3 then some (v2, μ) else zBd (fX8_secretsOf F h0 v3 μ) (fun r1 m1 => zBd (fX11_hasBit F r1 v1 m1) (fun r2 m2 => if r2 = 0 then fX8_whoKnow_4 F h0 n v1 v2 (v3 + (nI 1)) m2 else fX8_whoKnow_4 F h0 n v1 (v2 ||| ((nI 1) <<< (v3 &&& 31))) (v3 + (nI 1)) m2))
def fX8_whoKnow (F : Nat) (h0 : Nat) (v1 : Int32) (μ : zMem) : Option zR :=
  fX8_whoKnow_4 F h0 F v1 (nI 0) (nI 0) μ
set_option maxRecDepth 20000 in
set_option maxHeartbeats 4000000 in
theorem wX8_whoKnow_4 {X : zX} {F h0 : Nat} (hC : zCx X RX8 cX8_whoKnow 4 4) (hh0 : zIsSt h0 = true) (hret : zRt X (some .int)) : ∀ (n : Nat) (v1 : Int32) (v2 : Int32) (v3 : Int32) (μ : zMem), fX8_whoKnow_4 F h0 n v1 v2 v3 μ = some (zOut X) → zAW X 4 [some (.ref h0), some (.int v1), some (.int v2), some (.int v3)] [] μ := by
  intro n
  induction n with
  | zero =>
    intro v1 v2 v3 μ hf
    rw [fX8_whoKnow_4] at hf
    cases hf
  | succ n ih =>
    intro v1 v2 v3 μ hf
    rw [fX8_whoKnow_4] at hf
    refine zs_il hC dX8_whoKnow_4 rfl ?_
    refine zs_k hC dX8_whoKnow_5 ?_
    refine zs_ic_ge hC dX8_whoKnow_7 (fun _ hf => ?_) (fun _ hf => ?_) hf
    · refine zs_il hC dX8_whoKnow_34 rfl ?_
      exact zs_iret hC hret dX8_whoKnow_35 hf
    · refine zs_al hC dX8_whoKnow_10 rfl ?_
      refine zs_il hC dX8_whoKnow_11 rfl ?_
      refine zs_callV [.int v3] hC cw_X8_secretsOf cl_RX8_58 (zSt0 hh0) rfl (by decide) rfl rfl (Nat.le_of_ble_eq_true rfl) dX8_whoKnow_12 (fun _ h => ctX8_secretsOf (hh0) h) (fun r1 m1 _ hf => ?_) hf
      show zAW X 15 _ (.int r1 :: _) m1
      refine zs_il hC dX8_whoKnow_15 rfl ?_
      refine zs_callN [.int r1, .int v1] hC cw_X11_hasBit cl_RX8_51 (by decide) rfl rfl (Nat.le_of_ble_eq_true rfl) dX8_whoKnow_16 (fun _ h => ctX11_hasBit h) (fun r2 m2 _ hf => ?_) hf
      show zAW X 19 _ (.int r2 :: _) m2
      refine zs_if_eq hC dX8_whoKnow_19 (fun _ hf => ?_) (fun _ hf => ?_) hf
      · refine zs_iinc (nI 1) hC dX8_whoKnow_28 (by decide) rfl (by decide) rfl ?_
        refine zs_goto hC dX8_whoKnow_31 ?_
        exact zAW.weak (ih _ _ _ _ hf) (zLw_s (zLw_s (zLw_s (zLw_s zLw_0))))
      · refine zs_il hC dX8_whoKnow_22 rfl ?_
        refine zs_k hC dX8_whoKnow_23 ?_
        refine zs_il hC dX8_whoKnow_24 rfl ?_
        refine zs_ishl hC dX8_whoKnow_25 ?_
        refine zs_ior hC dX8_whoKnow_26 ?_
        refine zs_is hC dX8_whoKnow_27 (by decide) rfl ?_
        refine zs_iinc (nI 1) hC dX8_whoKnow_28 (by decide) rfl (by decide) rfl ?_
        refine zs_goto hC dX8_whoKnow_31 ?_
        exact zAW.weak (ih _ _ _ _ hf) (zLw_s (zLw_s (zLw_s (zLw_s zLw_0))))
set_option maxRecDepth 20000 in
set_option maxHeartbeats 4000000 in
theorem wX8_whoKnow {X : zX} {F h0 : Nat} (hC : zCx X RX8 cX8_whoKnow 4 4) (hh0 : zIsSt h0 = true) (hret : zRt X (some .int)) {v1 : Int32} {μ : zMem} (hf : fX8_whoKnow F h0 v1 μ = some (zOut X)) : zAW X 0 [some (.ref h0), some (.int v1), none, none] [] μ := by
  unfold fX8_whoKnow at hf
  refine zs_k hC dX8_whoKnow_0 ?_
  refine zs_is hC dX8_whoKnow_1 (by decide) rfl ?_
  refine zs_k hC dX8_whoKnow_2 ?_
  refine zs_is hC dX8_whoKnow_3 (by decide) rfl ?_
  exact zAW.weak (wX8_whoKnow_4 hC hh0 hret F _ _ _ _ hf) (zLw_s (zLw_s (zLw_s (zLw_s zLw_0))))
set_option maxRecDepth 20000 in
set_option maxHeartbeats 4000000 in
theorem ctX8_whoKnow {E : zEV} {F : Nat} {h0 : Nat} {v1 : Int32} {μ : zMem} {out : zR} (hh0 : zIsSt h0 = true) (hf : fX8_whoKnow F h0 v1 μ = some out) : zCt E yX8_whoKnow cX8_whoKnow 4 (some .int) 4 [.ref h0, .int v1] μ out :=
  zCt.of [some (.ref h0), some (.int v1), none, none] (by decide +kernel) (Nat.le_of_ble_eq_true rfl) (zLw_s (zLw_s (zLw_e (zLw_e zLw_0)))) rfl (fun X hE ho hr hC => by
    subst hE; subst ho
    exact wX8_whoKnow hC hh0 hr hf)
/-! X8_allBreath -/
def fX8_allBreath_4 (F : Nat) (h0 : Nat) : Nat → Int32 → Int32 → zMem → Option zR
  | 0, _, _, _ => none
  | n + 1, v1, v2, μ => if (nI 16) ≤ v2 then some (v1, μ) else zG v2 16 (fX8_allBreath_4 F h0 n (v1 + (μ (h0 + 2) v2.toNatClampNeg)) (v2 + (nI 1)) μ)
def fX8_allBreath (F : Nat) (h0 : Nat) (μ : zMem) : Option zR :=
  fX8_allBreath_4 F h0 F (nI 0) (nI 0) μ
set_option maxRecDepth 20000 in
set_option maxHeartbeats 4000000 in
theorem wX8_allBreath_4 {X : zX} {F h0 : Nat} (hC : zCx X RX8 cX8_allBreath 3 0) (hh0 : zIsSt h0 = true) (hret : zRt X (some .int)) : ∀ (n : Nat) (v1 : Int32) (v2 : Int32) (μ : zMem), fX8_allBreath_4 F h0 n v1 v2 μ = some (zOut X) → zAW X 4 [some (.ref h0), some (.int v1), some (.int v2)] [] μ := by
  intro n
  induction n with
  | zero =>
    intro v1 v2 μ hf
    rw [fX8_allBreath_4] at hf
    cases hf
  | succ n ih =>
    intro v1 v2 μ hf
    rw [fX8_allBreath_4] at hf
    refine zs_il hC dX8_allBreath_4 rfl ?_
    refine zs_k hC dX8_allBreath_5 ?_
    refine zs_ic_ge hC dX8_allBreath_7 (fun _ hf => ?_) (fun _ hf => ?_) hf
    · refine zs_il hC dX8_allBreath_25 rfl ?_
      exact zs_iret hC hret dX8_allBreath_26 hf
    · refine zs_il hC dX8_allBreath_10 rfl ?_
      refine zs_al hC dX8_allBreath_11 rfl ?_
      refine zs_getR (h0 + 2) hC fl_RX8_15 (zSt0 hh0) rfl dX8_allBreath_12 ?_
      refine zs_il hC dX8_allBreath_15 rfl ?_
      refine zs_iald hC (zSt2 hh0) dX8_allBreath_16 (fun _ hf => ?_) hf
      refine zs_iadd hC dX8_allBreath_17 ?_
      refine zs_is hC dX8_allBreath_18 (by decide) rfl ?_
      refine zs_iinc (nI 1) hC dX8_allBreath_19 (by decide) rfl (by decide) rfl ?_
      refine zs_goto hC dX8_allBreath_22 ?_
      exact zAW.weak (ih _ _ _ hf) (zLw_s (zLw_s (zLw_s zLw_0)))
set_option maxRecDepth 20000 in
set_option maxHeartbeats 4000000 in
theorem wX8_allBreath {X : zX} {F h0 : Nat} (hC : zCx X RX8 cX8_allBreath 3 0) (hh0 : zIsSt h0 = true) (hret : zRt X (some .int)) {μ : zMem} (hf : fX8_allBreath F h0 μ = some (zOut X)) : zAW X 0 [some (.ref h0), none, none] [] μ := by
  unfold fX8_allBreath at hf
  refine zs_k hC dX8_allBreath_0 ?_
  refine zs_is hC dX8_allBreath_1 (by decide) rfl ?_
  refine zs_k hC dX8_allBreath_2 ?_
  refine zs_is hC dX8_allBreath_3 (by decide) rfl ?_
  exact zAW.weak (wX8_allBreath_4 hC hh0 hret F _ _ _ hf) (zLw_s (zLw_s (zLw_s zLw_0)))
set_option maxRecDepth 20000 in
set_option maxHeartbeats 4000000 in
theorem ctX8_allBreath {E : zEV} {F : Nat} {h0 : Nat} {μ : zMem} {out : zR} (hh0 : zIsSt h0 = true) (hf : fX8_allBreath F h0 μ = some out) : zCt E yX8_allBreath cX8_allBreath 3 (some .int) 0 [.ref h0] μ out :=
  zCt.of [some (.ref h0), none, none] (by decide +kernel) (Nat.le_of_ble_eq_true rfl) (zLw_s (zLw_e (zLw_e zLw_0))) rfl (fun X hE ho hr hC => by
    subst hE; subst ho
    exact wX8_allBreath hC hh0 hr hf)
/-! X8_draw -/
def fX8_draw (F : Nat) (h0 : Nat) (μ : zMem) : Option zR :=
  zLt (zUp μ h0 7 ((((nI 25173) * (μ h0 7)) + (nI 13849)) &&& (nI 65535))) (fun m2 => zGz (nI 10) (some (((m2 h0 7) % (nI 10)), m2)))
set_option maxRecDepth 20000 in
set_option maxHeartbeats 4000000 in
theorem wX8_draw {X : zX} {F h0 : Nat} (hC : zCx X RX8 cX8_draw 1 0) (hh0 : zIsSt h0 = true) (hret : zRt X (some .int)) {μ : zMem} (hf : fX8_draw F h0 μ = some (zOut X)) : zAW X 0 [some (.ref h0)] [] μ := by
  unfold fX8_draw at hf
  refine zs_al hC dX8_draw_0 rfl ?_
  refine zs_k hC dX8_draw_1 ?_
  refine zs_al hC dX8_draw_4 rfl ?_
  refine zs_getI hC fl_RX8_24 (zSt0 hh0) rfl dX8_draw_5 ?_
  refine zs_imul hC dX8_draw_8 ?_
  refine zs_k hC dX8_draw_9 ?_
  refine zs_iadd hC dX8_draw_12 ?_
  refine zs_ldc hC kc_RX8_62 dX8_draw_13 ?_
  refine zs_iand hC dX8_draw_15 ?_
  refine zs_putI hC fl_RX8_24 fp_8_7 (zSt0 hh0) rfl dX8_draw_16 ?_
  refine zs_let (fun m2 _ hf => ?_) hf
  refine zs_al hC dX8_draw_19 rfl ?_
  refine zs_getI hC fl_RX8_24 (zSt0 hh0) rfl dX8_draw_20 ?_
  refine zs_k hC dX8_draw_23 ?_
  refine zs_irem hC dX8_draw_25 (fun _ hf => ?_) hf
  exact zs_iret hC hret dX8_draw_26 hf
set_option maxRecDepth 20000 in
set_option maxHeartbeats 4000000 in
theorem ctX8_draw {E : zEV} {F : Nat} {h0 : Nat} {μ : zMem} {out : zR} (hh0 : zIsSt h0 = true) (hf : fX8_draw F h0 μ = some out) : zCt E yX8_draw cX8_draw 1 (some .int) 0 [.ref h0] μ out :=
  zCt.of [some (.ref h0)] (by decide +kernel) (Nat.le_of_ble_eq_true rfl) (zLw_s zLw_0) rfl (fun X hE ho hr hC => by
    subst hE; subst ho
    exact wX8_draw hC hh0 hr hf)
/-! J9_floorMod_7cf53 -/
def fJ9_floorMod_7cf53 (F : Nat) (v0 : Int32) (v1 : Int32) (μ : zMem) : Option zR :=
  zGz v1 (if 0 ≤ (v0 ^^^ v1) then some ((v0 % v1), μ) else if (v0 % v1) = 0 then some ((v0 % v1), μ) else some (((v0 % v1) + v1), μ))
set_option maxRecDepth 20000 in
set_option maxHeartbeats 4000000 in
theorem wJ9_floorMod_7cf53 {X : zX} {F : Nat} (hC : zCx X RJ9 cJ9_floorMod_7cf53 3 0) (hret : zRt X (some .int)) {v0 : Int32} {v1 : Int32} {μ : zMem} (hf : fJ9_floorMod_7cf53 F v0 v1 μ = some (zOut X)) : zAW X 0 [some (.int v0), some (.int v1), none] [] μ := by
  unfold fJ9_floorMod_7cf53 at hf
  refine zs_il hC dJ9_floorMod_7cf53_0 rfl ?_
  refine zs_il hC dJ9_floorMod_7cf53_1 rfl ?_
  refine zs_irem hC dJ9_floorMod_7cf53_2 (fun _ hf => ?_) hf
  refine zs_is hC dJ9_floorMod_7cf53_3 (by decide) rfl ?_
  refine zs_il hC dJ9_floorMod_7cf53_4 rfl ?_
  refine zs_il hC dJ9_floorMod_7cf53_5 rfl ?_
  refine zs_ixor hC dJ9_floorMod_7cf53_6 ?_
  refine zs_if_ge hC dJ9_floorMod_7cf53_7 (fun _ hf => ?_) (fun _ hf => ?_) hf
  · refine zs_il hC dJ9_floorMod_7cf53_18 rfl ?_
    exact zs_iret hC hret dJ9_floorMod_7cf53_19 hf
  · refine zs_il hC dJ9_floorMod_7cf53_10 rfl ?_
    refine zs_if_eq hC dJ9_floorMod_7cf53_11 (fun _ hf => ?_) (fun _ hf => ?_) hf
    · refine zs_il hC dJ9_floorMod_7cf53_18 rfl ?_
      exact zs_iret hC hret dJ9_floorMod_7cf53_19 hf
    · refine zs_il hC dJ9_floorMod_7cf53_14 rfl ?_
      refine zs_il hC dJ9_floorMod_7cf53_15 rfl ?_
      refine zs_iadd hC dJ9_floorMod_7cf53_16 ?_
      exact zs_iret hC hret dJ9_floorMod_7cf53_17 hf
set_option maxRecDepth 20000 in
set_option maxHeartbeats 4000000 in
theorem ctJ9_floorMod_7cf53 {E : zEV} {F : Nat} {v0 : Int32} {v1 : Int32} {μ : zMem} {out : zR} (hf : fJ9_floorMod_7cf53 F v0 v1 μ = some out) : zCt E yJ9_floorMod_7cf53 cJ9_floorMod_7cf53 3 (some .int) 0 [.int v0, .int v1] μ out :=
  zCt.of [some (.int v0), some (.int v1), none] (by decide +kernel) (Nat.le_of_ble_eq_true rfl) (zLw_s (zLw_s (zLw_e zLw_0))) rfl (fun X hE ho hr hC => by
    subst hE; subst ho
    exact wJ9_floorMod_7cf53 hC hr hf)
/-! X8_slotOf -/
def fX8_slotOf (F : Nat) (h0 : Nat) (v1 : Int32) (μ : zMem) : Option zR :=
  zBd (fJ9_floorMod_7cf53 F ((μ h0 6) - v1) (nI 20) μ) (fun r2 m2 => some (r2, m2))
set_option maxRecDepth 20000 in
set_option maxHeartbeats 4000000 in
theorem wX8_slotOf {X : zX} {F h0 : Nat} (hC : zCx X RX8 cX8_slotOf 2 1) (hh0 : zIsSt h0 = true) (hret : zRt X (some .int)) {v1 : Int32} {μ : zMem} (hf : fX8_slotOf F h0 v1 μ = some (zOut X)) : zAW X 0 [some (.ref h0), some (.int v1)] [] μ := by
  unfold fX8_slotOf at hf
  refine zs_al hC dX8_slotOf_0 rfl ?_
  refine zs_getI hC fl_RX8_40 (zSt0 hh0) rfl dX8_slotOf_1 ?_
  refine zs_il hC dX8_slotOf_4 rfl ?_
  refine zs_isub hC dX8_slotOf_5 ?_
  refine zs_k hC dX8_slotOf_6 ?_
  refine zs_callS [.int ((μ h0 6) - v1), .int (nI 20)] hC cw_J9_floorMod_7cf53 cl_RX8_69 (by decide) rfl rfl (Nat.le_of_ble_eq_true rfl) dX8_slotOf_8 (fun _ h => ctJ9_floorMod_7cf53 h) (fun r2 m2 _ hf => ?_) hf
  show zAW X 11 _ (.int r2 :: _) m2
  exact zs_iret hC hret dX8_slotOf_11 hf
set_option maxRecDepth 20000 in
set_option maxHeartbeats 4000000 in
theorem ctX8_slotOf {E : zEV} {F : Nat} {h0 : Nat} {v1 : Int32} {μ : zMem} {out : zR} (hh0 : zIsSt h0 = true) (hf : fX8_slotOf F h0 v1 μ = some out) : zCt E yX8_slotOf cX8_slotOf 2 (some .int) 1 [.ref h0, .int v1] μ out :=
  zCt.of [some (.ref h0), some (.int v1)] (by decide +kernel) (Nat.le_of_ble_eq_true rfl) (zLw_s (zLw_s zLw_0)) rfl (fun X hE ho hr hC => by
    subst hE; subst ho
    exact wX8_slotOf hC hh0 hr hf)
/-! X8_prints -/
def fX8_prints (F : Nat) (h0 : Nat) (v1 : Int32) (v2 : Int32) (μ : zMem) : Option zR :=
  zG v1 20 (if (nI 16) ≤ (μ (h0 + 3) v1.toNatClampNeg) then some ((nI 0), μ) else zG ((v1 * (nI 16)) + (μ (h0 + 3) v1.toNatClampNeg)) 320 (zLt (zUp μ (h0 + 4) ((v1 * (nI 16)) + (μ (h0 + 3) v1.toNatClampNeg)).toNatClampNeg v2) (fun m3 => zG v1 20 (zLt (zUp m3 (h0 + 3) v1.toNatClampNeg ((μ (h0 + 3) v1.toNatClampNeg) + (nI 1))) (fun m5 => some ((nI 0), m5))))))
set_option maxRecDepth 20000 in
set_option maxHeartbeats 4000000 in
theorem wX8_prints {X : zX} {F h0 : Nat} (hC : zCx X RX8 cX8_prints 4 0) (hh0 : zIsSt h0 = true) (hret : zRt X none) {v1 : Int32} {v2 : Int32} {μ : zMem} (hf : fX8_prints F h0 v1 v2 μ = some (zOut X)) : zAW X 0 [some (.ref h0), some (.int v1), some (.int v2), none] [] μ := by
  unfold fX8_prints at hf
  refine zs_al hC dX8_prints_0 rfl ?_
  refine zs_getR (h0 + 3) hC fl_RX8_18 (zSt0 hh0) rfl dX8_prints_1 ?_
  refine zs_il hC dX8_prints_4 rfl ?_
  refine zs_iald hC (zSt3 hh0) dX8_prints_5 (fun _ hf => ?_) hf
  refine zs_is hC dX8_prints_6 (by decide) rfl ?_
  refine zs_il hC dX8_prints_7 rfl ?_
  refine zs_k hC dX8_prints_8 ?_
  refine zs_ic_ge hC dX8_prints_10 (fun _ hf => ?_) (fun _ hf => ?_) hf
  · exact zs_vret hC hret dX8_prints_34 hf
  · refine zs_al hC dX8_prints_13 rfl ?_
    refine zs_getR (h0 + 4) hC fl_RX8_21 (zSt0 hh0) rfl dX8_prints_14 ?_
    refine zs_il hC dX8_prints_17 rfl ?_
    refine zs_k hC dX8_prints_18 ?_
    refine zs_imul hC dX8_prints_20 ?_
    refine zs_il hC dX8_prints_21 rfl ?_
    refine zs_iadd hC dX8_prints_22 ?_
    refine zs_il hC dX8_prints_23 rfl ?_
    refine zs_iast hC (zSt4 hh0) dX8_prints_24 (fun _ hf => ?_) hf
    refine zs_let (fun m3 _ hf => ?_) hf
    refine zs_al hC dX8_prints_25 rfl ?_
    refine zs_getR (h0 + 3) hC fl_RX8_18 (zSt0 hh0) rfl dX8_prints_26 ?_
    refine zs_il hC dX8_prints_29 rfl ?_
    refine zs_il hC dX8_prints_30 rfl ?_
    refine zs_k hC dX8_prints_31 ?_
    refine zs_iadd hC dX8_prints_32 ?_
    refine zs_iast hC (zSt3 hh0) dX8_prints_33 (fun _ hf => ?_) hf
    refine zs_let (fun m5 _ hf => ?_) hf
    exact zs_vret hC hret dX8_prints_34 hf
set_option maxRecDepth 20000 in
set_option maxHeartbeats 4000000 in
theorem ctX8_prints {E : zEV} {F : Nat} {h0 : Nat} {v1 : Int32} {v2 : Int32} {μ : zMem} {out : zR} (hh0 : zIsSt h0 = true) (hf : fX8_prints F h0 v1 v2 μ = some out) : zCt E yX8_prints cX8_prints 4 none 0 [.ref h0, .int v1, .int v2] μ out :=
  zCt.of [some (.ref h0), some (.int v1), some (.int v2), none] (by decide +kernel) (Nat.le_of_ble_eq_true rfl) (zLw_s (zLw_s (zLw_s (zLw_e zLw_0)))) rfl (fun X hE ho hr hC => by
    subst hE; subst ho
    exact wX8_prints hC hh0 hr hf)
/-! X11_secretOf -/
def fX11_secretOf (F : Nat) (v0 : Int32) (μ : zMem) : Option zR :=
  some (((v0 >>> ((nI 8) &&& 31)) &&& (nI 15)), μ)
set_option maxRecDepth 20000 in
set_option maxHeartbeats 4000000 in
theorem wX11_secretOf {X : zX} {F : Nat} (hC : zCx X RX11 cX11_secretOf 1 0) (hret : zRt X (some .int)) {v0 : Int32} {μ : zMem} (hf : fX11_secretOf F v0 μ = some (zOut X)) : zAW X 0 [some (.int v0)] [] μ := by
  unfold fX11_secretOf at hf
  refine zs_il hC dX11_secretOf_0 rfl ?_
  refine zs_k hC dX11_secretOf_1 ?_
  refine zs_ishr hC dX11_secretOf_3 ?_
  refine zs_k hC dX11_secretOf_4 ?_
  refine zs_iand hC dX11_secretOf_6 ?_
  exact zs_iret hC hret dX11_secretOf_7 hf
set_option maxRecDepth 20000 in
set_option maxHeartbeats 4000000 in
theorem ctX11_secretOf {E : zEV} {F : Nat} {v0 : Int32} {μ : zMem} {out : zR} (hf : fX11_secretOf F v0 μ = some out) : zCt E yX11_secretOf cX11_secretOf 1 (some .int) 0 [.int v0] μ out :=
  zCt.of [some (.int v0)] (by decide +kernel) (Nat.le_of_ble_eq_true rfl) (zLw_s zLw_0) rfl (fun X hE ho hr hC => by
    subst hE; subst ho
    exact wX11_secretOf hC hr hf)
/-! X8_secretsIn -/
def fX8_secretsIn_4 (F : Nat) (h0 : Nat) : Nat → Int32 → Int32 → Int32 → zMem → Option zR
  | 0, _, _, _, _ => none
  | n + 1, v1, v2, v3, μ => zG v1 20 (if (μ (h0 + 3) v1.toNatClampNeg) ≤ v3 then some (v2, μ) else zBd (fX8_whisperOf F h0 v1 v3 μ) (fun r2 m2 => zBd (fX11_secretOf F r2 m2) (fun r3 m3 => fX8_secretsIn_4 F h0 n v1 (v2 ||| ((nI 1) <<< (r3 &&& 31))) (v3 + (nI 1)) m3)))
def fX8_secretsIn (F : Nat) (h0 : Nat) (v1 : Int32) (μ : zMem) : Option zR :=
  fX8_secretsIn_4 F h0 F v1 (nI 0) (nI 0) μ
set_option maxRecDepth 20000 in
set_option maxHeartbeats 4000000 in
theorem wX8_secretsIn_4 {X : zX} {F h0 : Nat} (hC : zCx X RX8 cX8_secretsIn 4 1) (hh0 : zIsSt h0 = true) (hret : zRt X (some .int)) : ∀ (n : Nat) (v1 : Int32) (v2 : Int32) (v3 : Int32) (μ : zMem), fX8_secretsIn_4 F h0 n v1 v2 v3 μ = some (zOut X) → zAW X 4 [some (.ref h0), some (.int v1), some (.int v2), some (.int v3)] [] μ := by
  intro n
  induction n with
  | zero =>
    intro v1 v2 v3 μ hf
    rw [fX8_secretsIn_4] at hf
    cases hf
  | succ n ih =>
    intro v1 v2 v3 μ hf
    rw [fX8_secretsIn_4] at hf
    refine zs_il hC dX8_secretsIn_4 rfl ?_
    refine zs_al hC dX8_secretsIn_5 rfl ?_
    refine zs_getR (h0 + 3) hC fl_RX8_18 (zSt0 hh0) rfl dX8_secretsIn_6 ?_
    refine zs_il hC dX8_secretsIn_9 rfl ?_
    refine zs_iald hC (zSt3 hh0) dX8_secretsIn_10 (fun _ hf => ?_) hf
    refine zs_ic_ge hC dX8_secretsIn_11 (fun _ hf => ?_) (fun _ hf => ?_) hf
    · refine zs_il hC dX8_secretsIn_34 rfl ?_
      exact zs_iret hC hret dX8_secretsIn_35 hf
    · refine zs_il hC dX8_secretsIn_14 rfl ?_
      refine zs_k hC dX8_secretsIn_15 ?_
      refine zs_al hC dX8_secretsIn_16 rfl ?_
      refine zs_il hC dX8_secretsIn_17 rfl ?_
      refine zs_il hC dX8_secretsIn_18 rfl ?_
      refine zs_callV [.int v1, .int v3] hC cw_X8_whisperOf cl_RX8_72 (zSt0 hh0) rfl (by decide) rfl rfl (Nat.le_of_ble_eq_true rfl) dX8_secretsIn_19 (fun _ h => ctX8_whisperOf (hh0) h) (fun r2 m2 _ hf => ?_) hf
      show zAW X 22 _ (.int r2 :: _) m2
      refine zs_callN [.int r2] hC cw_X11_secretOf cl_RX8_75 (by decide) rfl rfl (Nat.le_of_ble_eq_true rfl) dX8_secretsIn_22 (fun _ h => ctX11_secretOf h) (fun r3 m3 _ hf => ?_) hf
      show zAW X 25 _ (.int r3 :: _) m3
      refine zs_ishl hC dX8_secretsIn_25 ?_
      refine zs_ior hC dX8_secretsIn_26 ?_
      refine zs_is hC dX8_secretsIn_27 (by decide) rfl ?_
      refine zs_iinc (nI 1) hC dX8_secretsIn_28 (by decide) rfl (by decide) rfl ?_
      refine zs_goto hC dX8_secretsIn_31 ?_
      exact zAW.weak (ih _ _ _ _ hf) (zLw_s (zLw_s (zLw_s (zLw_s zLw_0))))
set_option maxRecDepth 20000 in
set_option maxHeartbeats 4000000 in
theorem wX8_secretsIn {X : zX} {F h0 : Nat} (hC : zCx X RX8 cX8_secretsIn 4 1) (hh0 : zIsSt h0 = true) (hret : zRt X (some .int)) {v1 : Int32} {μ : zMem} (hf : fX8_secretsIn F h0 v1 μ = some (zOut X)) : zAW X 0 [some (.ref h0), some (.int v1), none, none] [] μ := by
  unfold fX8_secretsIn at hf
  refine zs_k hC dX8_secretsIn_0 ?_
  refine zs_is hC dX8_secretsIn_1 (by decide) rfl ?_
  refine zs_k hC dX8_secretsIn_2 ?_
  refine zs_is hC dX8_secretsIn_3 (by decide) rfl ?_
  exact zAW.weak (wX8_secretsIn_4 hC hh0 hret F _ _ _ _ hf) (zLw_s (zLw_s (zLw_s (zLw_s zLw_0))))
set_option maxRecDepth 20000 in
set_option maxHeartbeats 4000000 in
theorem ctX8_secretsIn {E : zEV} {F : Nat} {h0 : Nat} {v1 : Int32} {μ : zMem} {out : zR} (hh0 : zIsSt h0 = true) (hf : fX8_secretsIn F h0 v1 μ = some out) : zCt E yX8_secretsIn cX8_secretsIn 4 (some .int) 1 [.ref h0, .int v1] μ out :=
  zCt.of [some (.ref h0), some (.int v1), none, none] (by decide +kernel) (Nat.le_of_ble_eq_true rfl) (zLw_s (zLw_s (zLw_e (zLw_e zLw_0)))) rfl (fun X hE ho hr hC => by
    subst hE; subst ho
    exact wX8_secretsIn hC hh0 hr hf)
/-! X9_puts -/
def fX9_puts_3 (F : Nat) : Nat → Int32 → Int32 → zMem → Option zR
  | 0, _, _, _ => none
  | n + 1, v1, v2, μ => if v2 < 0 then some ((nI 0), μ) else if (nI 260) ≤ (μ 1 1) then fX9_puts_3 F n v1 (v2 + (-8 : Int32)) μ else zG (μ 1 1) 260 (zLt (zUp μ 2 (μ 1 1).toNatClampNeg ((zUsh v1 v2) &&& (nI 255))) (fun m4 => zLt (zUp m4 1 1 ((m4 1 1) + (nI 1))) (fun m6 => fX9_puts_3 F n v1 (v2 + (-8 : Int32)) m6)))
def fX9_puts (F : Nat) (v1 : Int32) (μ : zMem) : Option zR :=
  fX9_puts_3 F F v1 (nI 24) μ
set_option maxRecDepth 20000 in
set_option maxHeartbeats 4000000 in
theorem wX9_puts_3 {X : zX} {F : Nat} (hC : zCx X RX9 cX9_puts 3 0) (hret : zRt X none) : ∀ (n : Nat) (v1 : Int32) (v2 : Int32) (μ : zMem), fX9_puts_3 F n v1 v2 μ = some (zOut X) → zAW X 3 [some (.ref 1), some (.int v1), some (.int v2)] [] μ := by
  intro n
  induction n with
  | zero =>
    intro v1 v2 μ hf
    rw [fX9_puts_3] at hf
    cases hf
  | succ n ih =>
    intro v1 v2 μ hf
    rw [fX9_puts_3] at hf
    refine zs_il hC dX9_puts_3 rfl ?_
    refine zs_if_lt hC dX9_puts_4 (fun _ hf => ?_) (fun _ hf => ?_) hf
    · exact zs_vret hC hret dX9_puts_49 hf
    · refine zs_al hC dX9_puts_7 rfl ?_
      refine zs_getI hC fl_RX9_15 zL1 rfl dX9_puts_8 ?_
      refine zs_k hC dX9_puts_11 ?_
      refine zs_ic_ge hC dX9_puts_14 (fun _ hf => ?_) (fun _ hf => ?_) hf
      · refine zs_iinc (-8 : Int32) hC dX9_puts_43 (by decide) rfl (by decide) rfl ?_
        refine zs_goto hC dX9_puts_46 ?_
        exact zAW.weak (ih _ _ _ hf) (zLw_s (zLw_s (zLw_s zLw_0)))
      · refine zs_al hC dX9_puts_17 rfl ?_
        refine zs_getR 2 hC fl_RX9_9 zL1 rfl dX9_puts_18 ?_
        refine zs_al hC dX9_puts_21 rfl ?_
        refine zs_getI hC fl_RX9_15 zL1 rfl dX9_puts_22 ?_
        refine zs_il hC dX9_puts_25 rfl ?_
        refine zs_il hC dX9_puts_26 rfl ?_
        refine zs_iushr hC dX9_puts_27 ?_
        refine zs_k hC dX9_puts_28 ?_
        refine zs_iand hC dX9_puts_31 ?_
        refine zs_iast hC zL2 dX9_puts_32 (fun _ hf => ?_) hf
        refine zs_let (fun m4 _ hf => ?_) hf
        refine zs_al hC dX9_puts_33 rfl ?_
        refine zs_dup hC dX9_puts_34 rfl ?_
        refine zs_getI hC fl_RX9_15 zL1 rfl dX9_puts_35 ?_
        refine zs_k hC dX9_puts_38 ?_
        refine zs_iadd hC dX9_puts_39 ?_
        refine zs_putI hC fl_RX9_15 fp_9_1 zL1 rfl dX9_puts_40 ?_
        refine zs_let (fun m6 _ hf => ?_) hf
        refine zs_iinc (-8 : Int32) hC dX9_puts_43 (by decide) rfl (by decide) rfl ?_
        refine zs_goto hC dX9_puts_46 ?_
        exact zAW.weak (ih _ _ _ hf) (zLw_s (zLw_s (zLw_s zLw_0)))
set_option maxRecDepth 20000 in
set_option maxHeartbeats 4000000 in
theorem wX9_puts {X : zX} {F : Nat} (hC : zCx X RX9 cX9_puts 3 0) (hret : zRt X none) {v1 : Int32} {μ : zMem} (hf : fX9_puts F v1 μ = some (zOut X)) : zAW X 0 [some (.ref 1), some (.int v1), none] [] μ := by
  unfold fX9_puts at hf
  refine zs_k hC dX9_puts_0 ?_
  refine zs_is hC dX9_puts_2 (by decide) rfl ?_
  exact zAW.weak (wX9_puts_3 hC hret F _ _ _ hf) (zLw_s (zLw_s (zLw_s zLw_0)))
set_option maxRecDepth 20000 in
set_option maxHeartbeats 4000000 in
theorem ctX9_puts {E : zEV} {F : Nat} {v1 : Int32} {μ : zMem} {out : zR} (hf : fX9_puts F v1 μ = some out) : zCt E yX9_puts cX9_puts 3 none 0 [.ref 1, .int v1] μ out :=
  zCt.of [some (.ref 1), some (.int v1), none] (by decide +kernel) (Nat.le_of_ble_eq_true rfl) (zLw_s (zLw_s (zLw_e zLw_0))) rfl (fun X hE ho hr hC => by
    subst hE; subst ho
    exact wX9_puts hC hr hf)
/-! X9_opens -/
def fX9_opens (F : Nat) (v1 : Int32) (μ : zMem) : Option zR :=
  zBd (fX11_isWithin F v1 (nI 0) (μ 1 1) μ) (fun r2 m2 => if r2 = 0 then some ((nI 0), m2) else zLt (zUp m2 1 1 v1) (fun m3 => zLt (zUp m3 1 2 (nI 0)) (fun m4 => zLt (zUp m4 1 3 (nI 0)) (fun m5 => some ((nI 1), m5)))))
set_option maxRecDepth 20000 in
set_option maxHeartbeats 4000000 in
theorem wX9_opens {X : zX} {F : Nat} (hC : zCx X RX9 cX9_opens 2 1) (hret : zRt X (some .boolean)) {v1 : Int32} {μ : zMem} (hf : fX9_opens F v1 μ = some (zOut X)) : zAW X 0 [some (.ref 1), some (.int v1)] [] μ := by
  unfold fX9_opens at hf
  refine zs_il hC dX9_opens_0 rfl ?_
  refine zs_k hC dX9_opens_1 ?_
  refine zs_al hC dX9_opens_2 rfl ?_
  refine zs_getI hC fl_RX9_15 zL1 rfl dX9_opens_3 ?_
  refine zs_callN [.int v1, .int (nI 0), .int (μ 1 1)] hC cw_X11_isWithin cl_RX9_19 (by decide) rfl rfl (Nat.le_of_ble_eq_true rfl) dX9_opens_6 (fun _ h => ctX11_isWithin h) (fun r2 m2 _ hf => ?_) hf
  show zAW X 9 _ (.int r2 :: _) m2
  refine zs_if_ne hC dX9_opens_9 (fun _ hf => ?_) (fun _ hf => ?_) hf
  · refine zs_k hC dX9_opens_12 ?_
    exact zs_zretK hC hret dX9_opens_13 (by decide) hf
  · refine zs_al hC dX9_opens_14 rfl ?_
    refine zs_il hC dX9_opens_15 rfl ?_
    refine zs_putI hC fl_RX9_15 fp_9_1 zL1 rfl dX9_opens_16 ?_
    refine zs_let (fun m3 _ hf => ?_) hf
    refine zs_al hC dX9_opens_19 rfl ?_
    refine zs_k hC dX9_opens_20 ?_
    refine zs_putI hC fl_RX9_23 fp_9_2 zL1 rfl dX9_opens_21 ?_
    refine zs_let (fun m4 _ hf => ?_) hf
    refine zs_al hC dX9_opens_24 rfl ?_
    refine zs_k hC dX9_opens_25 ?_
    refine zs_putI hC fl_RX9_26 fp_9_3 zL1 rfl dX9_opens_26 ?_
    refine zs_let (fun m5 _ hf => ?_) hf
    refine zs_k hC dX9_opens_29 ?_
    exact zs_zretK hC hret dX9_opens_30 (by decide) hf
set_option maxRecDepth 20000 in
set_option maxHeartbeats 4000000 in
theorem ctX9_opens {E : zEV} {F : Nat} {v1 : Int32} {μ : zMem} {out : zR} (hf : fX9_opens F v1 μ = some out) : zCt E yX9_opens cX9_opens 2 (some .boolean) 1 [.ref 1, .int v1] μ out :=
  zCt.of [some (.ref 1), some (.int v1)] (by decide +kernel) (Nat.le_of_ble_eq_true rfl) (zLw_s (zLw_s zLw_0)) rfl (fun X hE ho hr hC => by
    subst hE; subst ho
    exact wX9_opens hC hr hf)
/-! X9_empties -/
def fX9_empties (F : Nat) (μ : zMem) : Option zR :=
  zLt (zUp μ 1 1 (nI 0)) (fun m1 => some ((nI 0), m1))
set_option maxRecDepth 20000 in
set_option maxHeartbeats 4000000 in
theorem wX9_empties {X : zX} {F : Nat} (hC : zCx X RX9 cX9_empties 1 0) (hret : zRt X none) {μ : zMem} (hf : fX9_empties F μ = some (zOut X)) : zAW X 0 [some (.ref 1)] [] μ := by
  unfold fX9_empties at hf
  refine zs_al hC dX9_empties_0 rfl ?_
  refine zs_k hC dX9_empties_1 ?_
  refine zs_putI hC fl_RX9_15 fp_9_1 zL1 rfl dX9_empties_2 ?_
  refine zs_let (fun m1 _ hf => ?_) hf
  exact zs_vret hC hret dX9_empties_5 hf
set_option maxRecDepth 20000 in
set_option maxHeartbeats 4000000 in
theorem ctX9_empties {E : zEV} {F : Nat} {μ : zMem} {out : zR} (hf : fX9_empties F μ = some out) : zCt E yX9_empties cX9_empties 1 none 0 [.ref 1] μ out :=
  zCt.of [some (.ref 1)] (by decide +kernel) (Nat.le_of_ble_eq_true rfl) (zLw_s zLw_0) rfl (fun X hE ho hr hC => by
    subst hE; subst ho
    exact wX9_empties hC hr hf)
/-! X10_looksAt -/
def fX10_looksAt (F : Nat) (h1 : Nat) (v2 : Int32) (v3 : Int32) (μ : zMem) : Option zR :=
  zG (nI 0) 9 (zLt (zUp μ 34 (nI 0).toNatClampNeg v2) (fun m2 => zG v2 16 (zBd (fJ6_bitCount_0f7a4 F (m2 (h1 + 1) v2.toNatClampNeg) m2) (fun r5 m5 => zG (nI 2) 9 (zLt (zUp m5 34 (nI 2).toNatClampNeg r5) (fun m6 => zG v2 16 (zG (nI 5) 9 (zLt (zUp m6 34 (nI 5).toNatClampNeg (m6 (h1 + 2) v2.toNatClampNeg)) (fun m9 => zGz (nI 100) (zG (nI 7) 9 (zLt (zUp m9 34 (nI 7).toNatClampNeg ((m9 h1 6) % (nI 100))) (fun m12 => zG (nI 8) 9 (zLt (zUp m12 34 (nI 8).toNatClampNeg v3) (fun m14 => zG (nI 1) 9 (zLt (zUp m14 34 (nI 1).toNatClampNeg (nI 0)) (fun m16 => zG (nI 3) 9 (zLt (zUp m16 34 (nI 3).toNatClampNeg (nI 0)) (fun m18 => zG (nI 4) 9 (zLt (zUp m18 34 (nI 4).toNatClampNeg (nI 0)) (fun m20 => zG (nI 6) 9 (zLt (zUp m20 34 (nI 6).toNatClampNeg (nI 0)) (fun m22 => some ((nI 0), m22)))))))))))))))))))))))
set_option maxRecDepth 20000 in
set_option maxHeartbeats 4000000 in
theorem wX10_looksAt {X : zX} {F h1 : Nat} (hC : zCx X RX10 cX10_looksAt 4 1) (hh1 : zIsSt h1 = true) (hret : zRt X none) {v2 : Int32} {v3 : Int32} {μ : zMem} (hf : fX10_looksAt F h1 v2 v3 μ = some (zOut X)) : zAW X 0 [some (.ref 33), some (.ref h1), some (.int v2), some (.int v3)] [] μ := by
  unfold fX10_looksAt at hf
  refine zs_al hC dX10_looksAt_0 rfl ?_
  refine zs_getR 34 hC fl_RX10_11 zL33 rfl dX10_looksAt_1 ?_
  refine zs_k hC dX10_looksAt_4 ?_
  refine zs_il hC dX10_looksAt_5 rfl ?_
  refine zs_iast hC zL34 dX10_looksAt_6 (fun _ hf => ?_) hf
  refine zs_let (fun m2 _ hf => ?_) hf
  refine zs_al hC dX10_looksAt_7 rfl ?_
  refine zs_getR 34 hC fl_RX10_11 zL33 rfl dX10_looksAt_8 ?_
  refine zs_k hC dX10_looksAt_11 ?_
  refine zs_al hC dX10_looksAt_12 rfl ?_
  refine zs_getR (h1 + 1) hC fl_RX10_69 (zSt0 hh1) rfl dX10_looksAt_13 ?_
  refine zs_il hC dX10_looksAt_16 rfl ?_
  refine zs_iald hC (zSt1 hh1) dX10_looksAt_17 (fun _ hf => ?_) hf
  refine zs_callS [.int (m2 (h1 + 1) v2.toNatClampNeg)] hC cw_J6_bitCount_0f7a4 cl_RX10_113 (by decide) rfl rfl (Nat.le_of_ble_eq_true rfl) dX10_looksAt_18 (fun _ h => ctJ6_bitCount_0f7a4 h) (fun r5 m5 _ hf => ?_) hf
  show zAW X 21 _ (.int r5 :: _) m5
  refine zs_iast hC zL34 dX10_looksAt_21 (fun _ hf => ?_) hf
  refine zs_let (fun m6 _ hf => ?_) hf
  refine zs_al hC dX10_looksAt_22 rfl ?_
  refine zs_getR 34 hC fl_RX10_11 zL33 rfl dX10_looksAt_23 ?_
  refine zs_k hC dX10_looksAt_26 ?_
  refine zs_al hC dX10_looksAt_27 rfl ?_
  refine zs_getR (h1 + 2) hC fl_RX10_77 (zSt0 hh1) rfl dX10_looksAt_28 ?_
  refine zs_il hC dX10_looksAt_31 rfl ?_
  refine zs_iald hC (zSt2 hh1) dX10_looksAt_32 (fun _ hf => ?_) hf
  refine zs_iast hC zL34 dX10_looksAt_33 (fun _ hf => ?_) hf
  refine zs_let (fun m9 _ hf => ?_) hf
  refine zs_al hC dX10_looksAt_34 rfl ?_
  refine zs_getR 34 hC fl_RX10_11 zL33 rfl dX10_looksAt_35 ?_
  refine zs_k hC dX10_looksAt_38 ?_
  refine zs_al hC dX10_looksAt_40 rfl ?_
  refine zs_getI hC fl_RX10_26 (zSt0 hh1) rfl dX10_looksAt_41 ?_
  refine zs_k hC dX10_looksAt_44 ?_
  refine zs_irem hC dX10_looksAt_46 (fun _ hf => ?_) hf
  refine zs_iast hC zL34 dX10_looksAt_47 (fun _ hf => ?_) hf
  refine zs_let (fun m12 _ hf => ?_) hf
  refine zs_al hC dX10_looksAt_48 rfl ?_
  refine zs_getR 34 hC fl_RX10_11 zL33 rfl dX10_looksAt_49 ?_
  refine zs_k hC dX10_looksAt_52 ?_
  refine zs_il hC dX10_looksAt_54 rfl ?_
  refine zs_iast hC zL34 dX10_looksAt_55 (fun _ hf => ?_) hf
  refine zs_let (fun m14 _ hf => ?_) hf
  refine zs_al hC dX10_looksAt_56 rfl ?_
  refine zs_getR 34 hC fl_RX10_11 zL33 rfl dX10_looksAt_57 ?_
  refine zs_k hC dX10_looksAt_60 ?_
  refine zs_k hC dX10_looksAt_61 ?_
  refine zs_iast hC zL34 dX10_looksAt_62 (fun _ hf => ?_) hf
  refine zs_let (fun m16 _ hf => ?_) hf
  refine zs_al hC dX10_looksAt_63 rfl ?_
  refine zs_getR 34 hC fl_RX10_11 zL33 rfl dX10_looksAt_64 ?_
  refine zs_k hC dX10_looksAt_67 ?_
  refine zs_k hC dX10_looksAt_68 ?_
  refine zs_iast hC zL34 dX10_looksAt_69 (fun _ hf => ?_) hf
  refine zs_let (fun m18 _ hf => ?_) hf
  refine zs_al hC dX10_looksAt_70 rfl ?_
  refine zs_getR 34 hC fl_RX10_11 zL33 rfl dX10_looksAt_71 ?_
  refine zs_k hC dX10_looksAt_74 ?_
  refine zs_k hC dX10_looksAt_75 ?_
  refine zs_iast hC zL34 dX10_looksAt_76 (fun _ hf => ?_) hf
  refine zs_let (fun m20 _ hf => ?_) hf
  refine zs_al hC dX10_looksAt_77 rfl ?_
  refine zs_getR 34 hC fl_RX10_11 zL33 rfl dX10_looksAt_78 ?_
  refine zs_k hC dX10_looksAt_81 ?_
  refine zs_k hC dX10_looksAt_83 ?_
  refine zs_iast hC zL34 dX10_looksAt_84 (fun _ hf => ?_) hf
  refine zs_let (fun m22 _ hf => ?_) hf
  exact zs_vret hC hret dX10_looksAt_85 hf
set_option maxRecDepth 20000 in
set_option maxHeartbeats 4000000 in
theorem ctX10_looksAt {E : zEV} {F : Nat} {h1 : Nat} {v2 : Int32} {v3 : Int32} {μ : zMem} {out : zR} (hh1 : zIsSt h1 = true) (hf : fX10_looksAt F h1 v2 v3 μ = some out) : zCt E yX10_looksAt cX10_looksAt 4 none 1 [.ref 33, .ref h1, .int v2, .int v3] μ out :=
  zCt.of [some (.ref 33), some (.ref h1), some (.int v2), some (.int v3)] (by decide +kernel) (Nat.le_of_ble_eq_true rfl) (zLw_s (zLw_s (zLw_s (zLw_s zLw_0)))) rfl (fun X hE ho hr hC => by
    subst hE; subst ho
    exact wX10_looksAt hC hh1 hr hf)
/-! X10_looksAtOther -/
def fX10_looksAtOther (F : Nat) (h1 : Nat) (v2 : Int32) (v3 : Int32) (μ : zMem) : Option zR :=
  zG (nI 1) 9 (zLt (zUp μ 34 (nI 1).toNatClampNeg v3) (fun m2 => zG v3 16 (zBd (fJ6_bitCount_0f7a4 F (m2 (h1 + 1) v3.toNatClampNeg) m2) (fun r5 m5 => zG (nI 3) 9 (zLt (zUp m5 34 (nI 3).toNatClampNeg r5) (fun m6 => zG v2 16 (zG v3 16 (zBd (fJ6_bitCount_0f7a4 F ((m6 (h1 + 1) v2.toNatClampNeg) &&& ((m6 (h1 + 1) v3.toNatClampNeg) ^^^ (-1 : Int32))) m6) (fun r10 m10 => zG (nI 4) 9 (zLt (zUp m10 34 (nI 4).toNatClampNeg r10) (fun m11 => zBd (fX11_hasBit F (m11 h1 5) v3 m11) (fun r14 m14 => if r14 = 0 then zG (nI 6) 9 (zLt (zUp m14 34 (nI 6).toNatClampNeg (nI 0)) (fun m15 => some ((nI 0), m15))) else zG (nI 6) 9 (zLt (zUp m14 34 (nI 6).toNatClampNeg (nI 1)) (fun m16 => some ((nI 0), m16)))))))))))))))
set_option maxRecDepth 20000 in
set_option maxHeartbeats 4000000 in
theorem wX10_looksAtOther {X : zX} {F h1 : Nat} (hC : zCx X RX10 cX10_looksAtOther 4 1) (hh1 : zIsSt h1 = true) (hret : zRt X none) {v2 : Int32} {v3 : Int32} {μ : zMem} (hf : fX10_looksAtOther F h1 v2 v3 μ = some (zOut X)) : zAW X 0 [some (.ref 33), some (.ref h1), some (.int v2), some (.int v3)] [] μ := by
  unfold fX10_looksAtOther at hf
  refine zs_al hC dX10_looksAtOther_0 rfl ?_
  refine zs_getR 34 hC fl_RX10_11 zL33 rfl dX10_looksAtOther_1 ?_
  refine zs_k hC dX10_looksAtOther_4 ?_
  refine zs_il hC dX10_looksAtOther_5 rfl ?_
  refine zs_iast hC zL34 dX10_looksAtOther_6 (fun _ hf => ?_) hf
  refine zs_let (fun m2 _ hf => ?_) hf
  refine zs_al hC dX10_looksAtOther_7 rfl ?_
  refine zs_getR 34 hC fl_RX10_11 zL33 rfl dX10_looksAtOther_8 ?_
  refine zs_k hC dX10_looksAtOther_11 ?_
  refine zs_al hC dX10_looksAtOther_12 rfl ?_
  refine zs_getR (h1 + 1) hC fl_RX10_69 (zSt0 hh1) rfl dX10_looksAtOther_13 ?_
  refine zs_il hC dX10_looksAtOther_16 rfl ?_
  refine zs_iald hC (zSt1 hh1) dX10_looksAtOther_17 (fun _ hf => ?_) hf
  refine zs_callS [.int (m2 (h1 + 1) v3.toNatClampNeg)] hC cw_J6_bitCount_0f7a4 cl_RX10_113 (by decide) rfl rfl (Nat.le_of_ble_eq_true rfl) dX10_looksAtOther_18 (fun _ h => ctJ6_bitCount_0f7a4 h) (fun r5 m5 _ hf => ?_) hf
  show zAW X 21 _ (.int r5 :: _) m5
  refine zs_iast hC zL34 dX10_looksAtOther_21 (fun _ hf => ?_) hf
  refine zs_let (fun m6 _ hf => ?_) hf
  refine zs_al hC dX10_looksAtOther_22 rfl ?_
  refine zs_getR 34 hC fl_RX10_11 zL33 rfl dX10_looksAtOther_23 ?_
  refine zs_k hC dX10_looksAtOther_26 ?_
  refine zs_al hC dX10_looksAtOther_27 rfl ?_
  refine zs_getR (h1 + 1) hC fl_RX10_69 (zSt0 hh1) rfl dX10_looksAtOther_28 ?_
  refine zs_il hC dX10_looksAtOther_31 rfl ?_
  refine zs_iald hC (zSt1 hh1) dX10_looksAtOther_32 (fun _ hf => ?_) hf
  refine zs_al hC dX10_looksAtOther_33 rfl ?_
  refine zs_getR (h1 + 1) hC fl_RX10_69 (zSt0 hh1) rfl dX10_looksAtOther_34 ?_
  refine zs_il hC dX10_looksAtOther_37 rfl ?_
  refine zs_iald hC (zSt1 hh1) dX10_looksAtOther_38 (fun _ hf => ?_) hf
  refine zs_k hC dX10_looksAtOther_39 ?_
  refine zs_ixor hC dX10_looksAtOther_40 ?_
  refine zs_iand hC dX10_looksAtOther_41 ?_
  refine zs_callS [.int ((m6 (h1 + 1) v2.toNatClampNeg) &&& ((m6 (h1 + 1) v3.toNatClampNeg) ^^^ (-1 : Int32)))] hC cw_J6_bitCount_0f7a4 cl_RX10_113 (by decide) rfl rfl (Nat.le_of_ble_eq_true rfl) dX10_looksAtOther_42 (fun _ h => ctJ6_bitCount_0f7a4 h) (fun r10 m10 _ hf => ?_) hf
  show zAW X 45 _ (.int r10 :: _) m10
  refine zs_iast hC zL34 dX10_looksAtOther_45 (fun _ hf => ?_) hf
  refine zs_let (fun m11 _ hf => ?_) hf
  refine zs_al hC dX10_looksAtOther_46 rfl ?_
  refine zs_getR 34 hC fl_RX10_11 zL33 rfl dX10_looksAtOther_47 ?_
  refine zs_k hC dX10_looksAtOther_50 ?_
  refine zs_al hC dX10_looksAtOther_52 rfl ?_
  refine zs_getI hC fl_RX10_116 (zSt0 hh1) rfl dX10_looksAtOther_53 ?_
  refine zs_il hC dX10_looksAtOther_56 rfl ?_
  refine zs_callN [.int (m11 h1 5), .int v3] hC cw_X11_hasBit cl_RX10_119 (by decide) rfl rfl (Nat.le_of_ble_eq_true rfl) dX10_looksAtOther_57 (fun _ h => ctX11_hasBit h) (fun r14 m14 _ hf => ?_) hf
  show zAW X 60 _ (.int r14 :: _) m14
  refine zs_if_eq hC dX10_looksAtOther_60 (fun _ hf => ?_) (fun _ hf => ?_) hf
  · refine zs_k hC dX10_looksAtOther_67 ?_
    refine zs_iast hC zL34 dX10_looksAtOther_68 (fun _ hf => ?_) hf
    refine zs_let (fun m15 _ hf => ?_) hf
    exact zs_vret hC hret dX10_looksAtOther_69 hf
  · refine zs_k hC dX10_looksAtOther_63 ?_
    refine zs_goto hC dX10_looksAtOther_64 ?_
    refine zs_iast hC zL34 dX10_looksAtOther_68 (fun _ hf => ?_) hf
    refine zs_let (fun m16 _ hf => ?_) hf
    exact zs_vret hC hret dX10_looksAtOther_69 hf
set_option maxRecDepth 20000 in
set_option maxHeartbeats 4000000 in
theorem ctX10_looksAtOther {E : zEV} {F : Nat} {h1 : Nat} {v2 : Int32} {v3 : Int32} {μ : zMem} {out : zR} (hh1 : zIsSt h1 = true) (hf : fX10_looksAtOther F h1 v2 v3 μ = some out) : zCt E yX10_looksAtOther cX10_looksAtOther 4 none 1 [.ref 33, .ref h1, .int v2, .int v3] μ out :=
  zCt.of [some (.ref 33), some (.ref h1), some (.int v2), some (.int v3)] (by decide +kernel) (Nat.le_of_ble_eq_true rfl) (zLw_s (zLw_s (zLw_s (zLw_s zLw_0)))) rfl (fun X hE ho hr hC => by
    subst hE; subst ho
    exact wX10_looksAtOther hC hh1 hr hf)
/-! X10_joined -/
def fX10_joined (F : Nat) (v0 : Int32) (v1 : Int32) (v2 : Int32) (μ : zMem) : Option zR :=
  (if v0 = (nI 37) then if v2 = 0 then some ((nI 0), μ) else zGz v2 (some ((v1 % v2), μ)) else if v0 = (nI 42) then some ((v1 * v2), μ) else if v0 = (nI 43) then some ((v1 + v2), μ) else if v0 = (nI 45) then some ((v1 - v2), μ) else if v0 = (nI 47) then if v2 = 0 then some ((nI 0), μ) else zGz v2 (some ((v1 / v2), μ)) else if v0 = (nI 60) then if v2 ≤ v1 then some ((nI 0), μ) else some ((nI 1), μ) else if v0 = (nI 62) then if v1 ≤ v2 then some ((nI 0), μ) else some ((nI 1), μ) else if v1 = v2 then some ((nI 1), μ) else some ((nI 0), μ))
set_option maxRecDepth 20000 in
set_option maxHeartbeats 4000000 in
theorem wX10_joined {X : zX} {F : Nat} (hC : zCx X RX10 cX10_joined 3 0) (hret : zRt X (some .int)) {v0 : Int32} {v1 : Int32} {v2 : Int32} {μ : zMem} (hf : fX10_joined F v0 v1 v2 μ = some (zOut X)) : zAW X 0 [some (.int v0), some (.int v1), some (.int v2)] [] μ := by
  unfold fX10_joined at hf
  refine zs_il hC dX10_joined_0 rfl ?_
  refine zs_case (nI 37) (fun hx hf => ?_) (fun e1_37 hf => ?_) hf
  · refine zs_look (tgt := 92) (off := 91) hC dX10_joined_1 (by decide) (by rw [hx]; first | done | decide) (by decide) ?_
    refine zs_il hC dX10_joined_92 rfl ?_
    refine zs_if_ne hC dX10_joined_93 (fun _ hf => ?_) (fun _ hf => ?_) hf
    · refine zs_k hC dX10_joined_96 ?_
      refine zs_goto hC dX10_joined_97 ?_
      exact zs_iret hC hret dX10_joined_103 hf
    · refine zs_il hC dX10_joined_100 rfl ?_
      refine zs_il hC dX10_joined_101 rfl ?_
      refine zs_irem hC dX10_joined_102 (fun _ hf => ?_) hf
      exact zs_iret hC hret dX10_joined_103 hf
  refine zs_case (nI 42) (fun hx hf => ?_) (fun e1_42 hf => ?_) hf
  · refine zs_look (tgt := 76) (off := 75) hC dX10_joined_1 (by decide) (by rw [hx]; first | done | decide) (by decide) ?_
    refine zs_il hC dX10_joined_76 rfl ?_
    refine zs_il hC dX10_joined_77 rfl ?_
    refine zs_imul hC dX10_joined_78 ?_
    exact zs_iret hC hret dX10_joined_79 hf
  refine zs_case (nI 43) (fun hx hf => ?_) (fun e1_43 hf => ?_) hf
  · refine zs_look (tgt := 68) (off := 67) hC dX10_joined_1 (by decide) (by rw [hx]; first | done | decide) (by decide) ?_
    refine zs_il hC dX10_joined_68 rfl ?_
    refine zs_il hC dX10_joined_69 rfl ?_
    refine zs_iadd hC dX10_joined_70 ?_
    exact zs_iret hC hret dX10_joined_71 hf
  refine zs_case (nI 45) (fun hx hf => ?_) (fun e1_45 hf => ?_) hf
  · refine zs_look (tgt := 72) (off := 71) hC dX10_joined_1 (by decide) (by rw [hx]; first | done | decide) (by decide) ?_
    refine zs_il hC dX10_joined_72 rfl ?_
    refine zs_il hC dX10_joined_73 rfl ?_
    refine zs_isub hC dX10_joined_74 ?_
    exact zs_iret hC hret dX10_joined_75 hf
  refine zs_case (nI 47) (fun hx hf => ?_) (fun e1_47 hf => ?_) hf
  · refine zs_look (tgt := 80) (off := 79) hC dX10_joined_1 (by decide) (by rw [hx]; first | done | decide) (by decide) ?_
    refine zs_il hC dX10_joined_80 rfl ?_
    refine zs_if_ne hC dX10_joined_81 (fun _ hf => ?_) (fun _ hf => ?_) hf
    · refine zs_k hC dX10_joined_84 ?_
      refine zs_goto hC dX10_joined_85 ?_
      exact zs_iret hC hret dX10_joined_91 hf
    · refine zs_il hC dX10_joined_88 rfl ?_
      refine zs_il hC dX10_joined_89 rfl ?_
      refine zs_idiv hC dX10_joined_90 (fun _ hf => ?_) hf
      exact zs_iret hC hret dX10_joined_91 hf
  refine zs_case (nI 60) (fun hx hf => ?_) (fun e1_60 hf => ?_) hf
  · refine zs_look (tgt := 104) (off := 103) hC dX10_joined_1 (by decide) (by rw [hx]; first | done | decide) (by decide) ?_
    refine zs_il hC dX10_joined_104 rfl ?_
    refine zs_il hC dX10_joined_105 rfl ?_
    refine zs_ic_ge hC dX10_joined_106 (fun _ hf => ?_) (fun _ hf => ?_) hf
    · refine zs_k hC dX10_joined_113 ?_
      exact zs_iret hC hret dX10_joined_114 hf
    · refine zs_k hC dX10_joined_109 ?_
      refine zs_goto hC dX10_joined_110 ?_
      exact zs_iret hC hret dX10_joined_114 hf
  refine zs_case (nI 62) (fun hx hf => ?_) (fun e1_62 hf => ?_) hf
  · refine zs_look (tgt := 115) (off := 114) hC dX10_joined_1 (by decide) (by rw [hx]; first | done | decide) (by decide) ?_
    refine zs_il hC dX10_joined_115 rfl ?_
    refine zs_il hC dX10_joined_116 rfl ?_
    refine zs_ic_le hC dX10_joined_117 (fun _ hf => ?_) (fun _ hf => ?_) hf
    · refine zs_k hC dX10_joined_124 ?_
      exact zs_iret hC hret dX10_joined_125 hf
    · refine zs_k hC dX10_joined_120 ?_
      refine zs_goto hC dX10_joined_121 ?_
      exact zs_iret hC hret dX10_joined_125 hf
  refine zs_look (tgt := 126) (off := 125) hC dX10_joined_1 (by decide) (by show Op.lookupswitch.offset [(37, 91), (42, 75), (43, 67), (45, 71), (47, 79), (60, 103), (62, 114)] 125 _ = _; rw [lv_osw (a := 37) e1_37 (by decide), lv_osw (a := 42) e1_42 (by decide), lv_osw (a := 43) e1_43 (by decide), lv_osw (a := 45) e1_45 (by decide), lv_osw (a := 47) e1_47 (by decide), lv_osw (a := 60) e1_60 (by decide), lv_osw (a := 62) e1_62 (by decide)]; rfl) (by decide) ?_
  refine zs_il hC dX10_joined_126 rfl ?_
  refine zs_il hC dX10_joined_127 rfl ?_
  refine zs_ic_ne hC dX10_joined_128 (fun _ hf => ?_) (fun _ hf => ?_) hf
  · refine zs_k hC dX10_joined_131 ?_
    refine zs_goto hC dX10_joined_132 ?_
    exact zs_iret hC hret dX10_joined_136 hf
  · refine zs_k hC dX10_joined_135 ?_
    exact zs_iret hC hret dX10_joined_136 hf
set_option maxRecDepth 20000 in
set_option maxHeartbeats 4000000 in
theorem ctX10_joined {E : zEV} {F : Nat} {v0 : Int32} {v1 : Int32} {v2 : Int32} {μ : zMem} {out : zR} (hf : fX10_joined F v0 v1 v2 μ = some out) : zCt E yX10_joined cX10_joined 3 (some .int) 0 [.int v0, .int v1, .int v2] μ out :=
  zCt.of [some (.int v0), some (.int v1), some (.int v2)] (by decide +kernel) (Nat.le_of_ble_eq_true rfl) (zLw_s (zLw_s (zLw_s zLw_0))) rfl (fun X hE ho hr hC => by
    subst hE; subst ho
    exact wX10_joined hC hr hf)
/-! X10_reckoned -/
def fX10_reckoned_54 (F : Nat) (h1 : Nat) (k9 : Int32 → Int32 → Int32 → Int32 → zMem → Option zR) (v3 : Int32) (v4 : Int32) (v5 : Int32) (v6 : Int32) (v7 : Int32) (v8 : Int32) (μ : zMem) : Option zR :=
  if (v4 + (nI 1)) < (nI 24) then if v7 = 0 then zG (v4 + (nI 1)) 24 (zLt (zUp μ 35 (v4 + (nI 1)).toNatClampNeg v8) (fun m2 => k9 v3 (v4 + (nI 1)) v5 (v6 + (nI 1)) m2)) else zG v8 9 (zG (v4 + (nI 1)) 24 (zLt (zUp μ 35 (v4 + (nI 1)).toNatClampNeg (μ 34 v8.toNatClampNeg)) (fun m4 => k9 v3 (v4 + (nI 1)) v5 (v6 + (nI 1)) m4))) else some ((nI 0), μ)
def fX10_reckoned_175 (F : Nat) (h1 : Nat) (k9 : Int32 → Int32 → Int32 → Int32 → zMem → Option zR) (v3 : Int32) (v4 : Int32) (v5 : Int32) (v6 : Int32) (v8 : Int32) (s0 : Int32) (s1 : Int32) (μ : zMem) : Option zR :=
  if s1 = s0 then k9 v3 v4 v8 (v6 + (nI 1)) μ else k9 v3 (v4 + (-1 : Int32)) v5 (v6 + (nI 1)) μ
def fX10_reckoned_163 (F : Nat) (h1 : Nat) (k9 : Int32 → Int32 → Int32 → Int32 → zMem → Option zR) (v3 : Int32) (v4 : Int32) (v5 : Int32) (v6 : Int32) (v7 : Int32) (v8 : Int32) (s0 : Int32) (μ : zMem) : Option zR :=
  if v7 = (nI 124) then fX10_reckoned_175 F h1 k9 v3 v4 v5 v6 v8 (nI 1) s0 μ else fX10_reckoned_175 F h1 k9 v3 v4 v5 v6 v8 (nI 0) s0 μ
def fX10_reckoned_148 (F : Nat) (h1 : Nat) (k9 : Int32 → Int32 → Int32 → Int32 → zMem → Option zR) (v3 : Int32) (v4 : Int32) (v5 : Int32) (v6 : Int32) (v7 : Int32) (v8 : Int32) (μ : zMem) : Option zR :=
  zG v4 24 (if (μ 35 v4.toNatClampNeg) = 0 then fX10_reckoned_163 F h1 k9 v3 v4 v5 v6 v7 v8 (nI 0) μ else fX10_reckoned_163 F h1 k9 v3 v4 v5 v6 v7 v8 (nI 1) μ)
def fX10_reckoned_223 (F : Nat) (h1 : Nat) (k9 : Int32 → Int32 → Int32 → Int32 → zMem → Option zR) (v3 : Int32) (v4 : Int32) (v5 : Int32) (v6 : Int32) (v7 : Int32) (μ : zMem) : Option zR :=
  zG (v4 + (-1 : Int32)) 24 (zG ((v4 + (-1 : Int32)) + (nI 1)) 24 (zBd (fX10_joined F v7 (μ 35 (v4 + (-1 : Int32)).toNatClampNeg) (μ 35 ((v4 + (-1 : Int32)) + (nI 1)).toNatClampNeg) μ) (fun r4 m4 => zG (v4 + (-1 : Int32)) 24 (zLt (zUp m4 35 (v4 + (-1 : Int32)).toNatClampNeg r4) (fun m5 => k9 v3 (v4 + (-1 : Int32)) v5 (v6 + (nI 1)) m5)))))
def fX10_reckoned_211 (F : Nat) (h1 : Nat) (k9 : Int32 → Int32 → Int32 → Int32 → zMem → Option zR) (v3 : Int32) (v4 : Int32) (v5 : Int32) (v6 : Int32) (v7 : Int32) (μ : zMem) : Option zR :=
  zG v4 24 (if (μ 35 v4.toNatClampNeg) = 0 then some ((nI 0), μ) else fX10_reckoned_223 F h1 k9 v3 v4 v5 v6 v7 μ)
def fX10_reckoned_9 (F : Nat) (h1 : Nat) : Nat → Int32 → Int32 → Int32 → Int32 → zMem → Option zR
  | 0, _, _, _, _, _ => none
  | n + 1, v3, v4, v5, v6, μ => if v3 ≤ v6 then if 0 ≤ v4 then zG v4 24 (some ((μ 35 v4.toNatClampNeg), μ)) else some ((nI 0), μ) else if v5 ≤ v6 then zG v6 240 (zG v6 240 (if (μ (h1 + 1) v6.toNatClampNeg) = 0 then fX10_reckoned_54 F h1 (fX10_reckoned_9 F h1 n) v3 v4 v5 v6 (μ (h1 + 1) v6.toNatClampNeg) (μ (h1 + 2) v6.toNatClampNeg) μ else if (μ (h1 + 1) v6.toNatClampNeg) = (nI 1) then fX10_reckoned_54 F h1 (fX10_reckoned_9 F h1 n) v3 v4 v5 v6 (μ (h1 + 1) v6.toNatClampNeg) (μ (h1 + 2) v6.toNatClampNeg) μ else if 0 ≤ v4 then if (μ (h1 + 1) v6.toNatClampNeg) = (nI 33) then zG v4 24 (if (μ 35 v4.toNatClampNeg) = 0 then zG v4 24 (zLt (zUp μ 35 v4.toNatClampNeg (nI 1)) (fun m6 => fX10_reckoned_9 F h1 n v3 v4 v5 (v6 + (nI 1)) m6)) else zG v4 24 (zLt (zUp μ 35 v4.toNatClampNeg (nI 0)) (fun m7 => fX10_reckoned_9 F h1 n v3 v4 v5 (v6 + (nI 1)) m7))) else if (μ (h1 + 1) v6.toNatClampNeg) = (nI 38) then fX10_reckoned_148 F h1 (fX10_reckoned_9 F h1 n) v3 v4 v5 v6 (μ (h1 + 1) v6.toNatClampNeg) (μ (h1 + 2) v6.toNatClampNeg) μ else if (μ (h1 + 1) v6.toNatClampNeg) = (nI 124) then fX10_reckoned_148 F h1 (fX10_reckoned_9 F h1 n) v3 v4 v5 v6 (μ (h1 + 1) v6.toNatClampNeg) (μ (h1 + 2) v6.toNatClampNeg) μ else if v4 < (nI 1) then some ((nI 0), μ) else if (μ (h1 + 1) v6.toNatClampNeg) = (nI 47) then fX10_reckoned_211 F h1 (fX10_reckoned_9 F h1 n) v3 v4 v5 v6 (μ (h1 + 1) v6.toNatClampNeg) μ else if (μ (h1 + 1) v6.toNatClampNeg) = (nI 37) then fX10_reckoned_211 F h1 (fX10_reckoned_9 F h1 n) v3 v4 v5 v6 (μ (h1 + 1) v6.toNatClampNeg) μ else fX10_reckoned_223 F h1 (fX10_reckoned_9 F h1 n) v3 v4 v5 v6 (μ (h1 + 1) v6.toNatClampNeg) μ else some ((nI 0), μ))) else fX10_reckoned_9 F h1 n v3 v4 v5 (v6 + (nI 1)) μ
def fX10_reckoned (F : Nat) (h1 : Nat) (v2 : Int32) (v3 : Int32) (μ : zMem) : Option zR :=
  fX10_reckoned_9 F h1 F v3 (-1 : Int32) v2 v2 μ
set_option maxRecDepth 20000 in
set_option maxHeartbeats 4000000 in
theorem wX10_reckoned_54 {X : zX} {F h1 : Nat} (hC : zCx X RX10 cX10_reckoned 9 1) (hh1 : zIsLw h1 = true) (hret : zRt X (some .int)) {k9 : Int32 → Int32 → Int32 → Int32 → zMem → Option zR} (hk9 : ∀ v3 v4 v5 v6 μ, k9 v3 v4 v5 v6 μ = some (zOut X) → zAW X 9 [some (.ref 33), some (.ref h1), none, some (.int v3), some (.int v4), some (.int v5), some (.int v6), none, none] [] μ) {v3 : Int32} {v4 : Int32} {v5 : Int32} {v6 : Int32} {v7 : Int32} {v8 : Int32} {μ : zMem} (hf : fX10_reckoned_54 F h1 k9 v3 v4 v5 v6 v7 v8 μ = some (zOut X)) : zAW X 54 [some (.ref 33), some (.ref h1), none, some (.int v3), some (.int v4), some (.int v5), some (.int v6), some (.int v7), some (.int v8)] [] μ := by
  unfold fX10_reckoned_54 at hf
  refine zs_il hC dX10_reckoned_54 rfl ?_
  refine zs_k hC dX10_reckoned_56 ?_
  refine zs_iadd hC dX10_reckoned_57 ?_
  refine zs_k hC dX10_reckoned_58 ?_
  refine zs_ic_lt hC dX10_reckoned_60 (fun _ hf => ?_) (fun _ hf => ?_) hf
  · refine zs_iinc (nI 1) hC dX10_reckoned_65 (by decide) rfl (by decide) rfl ?_
    refine zs_al hC dX10_reckoned_68 rfl ?_
    refine zs_getR 35 hC fl_RX10_15 zL33 rfl dX10_reckoned_69 ?_
    refine zs_il hC dX10_reckoned_72 rfl ?_
    refine zs_il hC dX10_reckoned_74 rfl ?_
    refine zs_if_ne hC dX10_reckoned_76 (fun _ hf => ?_) (fun _ hf => ?_) hf
    · refine zs_il hC dX10_reckoned_79 rfl ?_
      refine zs_goto hC dX10_reckoned_81 ?_
      refine zs_iast hC zL35 dX10_reckoned_91 (fun _ hf => ?_) hf
      refine zs_let (fun m2 _ hf => ?_) hf
      refine zs_goto hC dX10_reckoned_92 ?_
      refine zs_iinc (nI 1) hC dX10_reckoned_254 (by decide) rfl (by decide) rfl ?_
      refine zs_goto hC dX10_reckoned_257 ?_
      exact zAW.weak (hk9 _ _ _ _ _ hf) (zLw_s (zLw_s (zLw_n (zLw_s (zLw_s (zLw_s (zLw_s (zLw_n (zLw_n zLw_0)))))))))
    · refine zs_al hC dX10_reckoned_84 rfl ?_
      refine zs_getR 34 hC fl_RX10_11 zL33 rfl dX10_reckoned_85 ?_
      refine zs_il hC dX10_reckoned_88 rfl ?_
      refine zs_iald hC zL34 dX10_reckoned_90 (fun _ hf => ?_) hf
      refine zs_iast hC zL35 dX10_reckoned_91 (fun _ hf => ?_) hf
      refine zs_let (fun m4 _ hf => ?_) hf
      refine zs_goto hC dX10_reckoned_92 ?_
      refine zs_iinc (nI 1) hC dX10_reckoned_254 (by decide) rfl (by decide) rfl ?_
      refine zs_goto hC dX10_reckoned_257 ?_
      exact zAW.weak (hk9 _ _ _ _ _ hf) (zLw_s (zLw_s (zLw_n (zLw_s (zLw_s (zLw_s (zLw_s (zLw_n (zLw_n zLw_0)))))))))
  · refine zs_k hC dX10_reckoned_63 ?_
    exact zs_iret hC hret dX10_reckoned_64 hf
set_option maxRecDepth 20000 in
set_option maxHeartbeats 4000000 in
theorem wX10_reckoned_175 {X : zX} {F h1 : Nat} (hC : zCx X RX10 cX10_reckoned 9 1) (hh1 : zIsLw h1 = true) (hret : zRt X (some .int)) {k9 : Int32 → Int32 → Int32 → Int32 → zMem → Option zR} (hk9 : ∀ v3 v4 v5 v6 μ, k9 v3 v4 v5 v6 μ = some (zOut X) → zAW X 9 [some (.ref 33), some (.ref h1), none, some (.int v3), some (.int v4), some (.int v5), some (.int v6), none, none] [] μ) {v3 : Int32} {v4 : Int32} {v5 : Int32} {v6 : Int32} {v8 : Int32} {s0 : Int32} {s1 : Int32} {μ : zMem} (hf : fX10_reckoned_175 F h1 k9 v3 v4 v5 v6 v8 s0 s1 μ = some (zOut X)) : zAW X 175 [some (.ref 33), some (.ref h1), none, some (.int v3), some (.int v4), some (.int v5), some (.int v6), none, some (.int v8)] [.int s0, .int s1] μ := by
  unfold fX10_reckoned_175 at hf
  refine zs_ic_ne hC dX10_reckoned_175 (fun _ hf => ?_) (fun _ hf => ?_) hf
  · refine zs_il hC dX10_reckoned_178 rfl ?_
    refine zs_is hC dX10_reckoned_180 (by decide) rfl ?_
    refine zs_goto hC dX10_reckoned_182 ?_
    refine zs_iinc (nI 1) hC dX10_reckoned_254 (by decide) rfl (by decide) rfl ?_
    refine zs_goto hC dX10_reckoned_257 ?_
    exact zAW.weak (hk9 _ _ _ _ _ hf) (zLw_s (zLw_s (zLw_n (zLw_s (zLw_s (zLw_s (zLw_s (zLw_n (zLw_n zLw_0)))))))))
  · refine zs_iinc (-1 : Int32) hC dX10_reckoned_185 (by decide) rfl (by decide) rfl ?_
    refine zs_goto hC dX10_reckoned_188 ?_
    refine zs_iinc (nI 1) hC dX10_reckoned_254 (by decide) rfl (by decide) rfl ?_
    refine zs_goto hC dX10_reckoned_257 ?_
    exact zAW.weak (hk9 _ _ _ _ _ hf) (zLw_s (zLw_s (zLw_n (zLw_s (zLw_s (zLw_s (zLw_s (zLw_n (zLw_n zLw_0)))))))))
set_option maxRecDepth 20000 in
set_option maxHeartbeats 4000000 in
theorem wX10_reckoned_163 {X : zX} {F h1 : Nat} (hC : zCx X RX10 cX10_reckoned 9 1) (hh1 : zIsLw h1 = true) (hret : zRt X (some .int)) {k9 : Int32 → Int32 → Int32 → Int32 → zMem → Option zR} (hk9 : ∀ v3 v4 v5 v6 μ, k9 v3 v4 v5 v6 μ = some (zOut X) → zAW X 9 [some (.ref 33), some (.ref h1), none, some (.int v3), some (.int v4), some (.int v5), some (.int v6), none, none] [] μ) {v3 : Int32} {v4 : Int32} {v5 : Int32} {v6 : Int32} {v7 : Int32} {v8 : Int32} {s0 : Int32} {μ : zMem} (hf : fX10_reckoned_163 F h1 k9 v3 v4 v5 v6 v7 v8 s0 μ = some (zOut X)) : zAW X 163 [some (.ref 33), some (.ref h1), none, some (.int v3), some (.int v4), some (.int v5), some (.int v6), some (.int v7), some (.int v8)] [.int s0] μ := by
  unfold fX10_reckoned_163 at hf
  refine zs_il hC dX10_reckoned_163 rfl ?_
  refine zs_k hC dX10_reckoned_165 ?_
  refine zs_ic_ne hC dX10_reckoned_167 (fun _ hf => ?_) (fun _ hf => ?_) hf
  · refine zs_k hC dX10_reckoned_170 ?_
    refine zs_goto hC dX10_reckoned_171 ?_
    exact zAW.weak (wX10_reckoned_175 hC hh1 hret hk9 hf) (zLw_s (zLw_s (zLw_n (zLw_s (zLw_s (zLw_s (zLw_s (zLw_n (zLw_s zLw_0)))))))))
  · refine zs_k hC dX10_reckoned_174 ?_
    exact zAW.weak (wX10_reckoned_175 hC hh1 hret hk9 hf) (zLw_s (zLw_s (zLw_n (zLw_s (zLw_s (zLw_s (zLw_s (zLw_n (zLw_s zLw_0)))))))))
set_option maxRecDepth 20000 in
set_option maxHeartbeats 4000000 in
theorem wX10_reckoned_148 {X : zX} {F h1 : Nat} (hC : zCx X RX10 cX10_reckoned 9 1) (hh1 : zIsLw h1 = true) (hret : zRt X (some .int)) {k9 : Int32 → Int32 → Int32 → Int32 → zMem → Option zR} (hk9 : ∀ v3 v4 v5 v6 μ, k9 v3 v4 v5 v6 μ = some (zOut X) → zAW X 9 [some (.ref 33), some (.ref h1), none, some (.int v3), some (.int v4), some (.int v5), some (.int v6), none, none] [] μ) {v3 : Int32} {v4 : Int32} {v5 : Int32} {v6 : Int32} {v7 : Int32} {v8 : Int32} {μ : zMem} (hf : fX10_reckoned_148 F h1 k9 v3 v4 v5 v6 v7 v8 μ = some (zOut X)) : zAW X 148 [some (.ref 33), some (.ref h1), none, some (.int v3), some (.int v4), some (.int v5), some (.int v6), some (.int v7), some (.int v8)] [] μ := by
  unfold fX10_reckoned_148 at hf
  refine zs_al hC dX10_reckoned_148 rfl ?_
  refine zs_getR 35 hC fl_RX10_15 zL33 rfl dX10_reckoned_149 ?_
  refine zs_il hC dX10_reckoned_152 rfl ?_
  refine zs_iald hC zL35 dX10_reckoned_154 (fun _ hf => ?_) hf
  refine zs_if_eq hC dX10_reckoned_155 (fun _ hf => ?_) (fun _ hf => ?_) hf
  · refine zs_k hC dX10_reckoned_162 ?_
    exact zAW.weak (wX10_reckoned_163 hC hh1 hret hk9 hf) (zLw_s (zLw_s (zLw_n (zLw_s (zLw_s (zLw_s (zLw_s (zLw_s (zLw_s zLw_0)))))))))
  · refine zs_k hC dX10_reckoned_158 ?_
    refine zs_goto hC dX10_reckoned_159 ?_
    exact zAW.weak (wX10_reckoned_163 hC hh1 hret hk9 hf) (zLw_s (zLw_s (zLw_n (zLw_s (zLw_s (zLw_s (zLw_s (zLw_s (zLw_s zLw_0)))))))))
set_option maxRecDepth 20000 in
set_option maxHeartbeats 4000000 in
theorem wX10_reckoned_223 {X : zX} {F h1 : Nat} (hC : zCx X RX10 cX10_reckoned 9 1) (hh1 : zIsLw h1 = true) (hret : zRt X (some .int)) {k9 : Int32 → Int32 → Int32 → Int32 → zMem → Option zR} (hk9 : ∀ v3 v4 v5 v6 μ, k9 v3 v4 v5 v6 μ = some (zOut X) → zAW X 9 [some (.ref 33), some (.ref h1), none, some (.int v3), some (.int v4), some (.int v5), some (.int v6), none, none] [] μ) {v3 : Int32} {v4 : Int32} {v5 : Int32} {v6 : Int32} {v7 : Int32} {μ : zMem} (hf : fX10_reckoned_223 F h1 k9 v3 v4 v5 v6 v7 μ = some (zOut X)) : zAW X 223 [some (.ref 33), some (.ref h1), none, some (.int v3), some (.int v4), some (.int v5), some (.int v6), some (.int v7), none] [] μ := by
  unfold fX10_reckoned_223 at hf
  refine zs_iinc (-1 : Int32) hC dX10_reckoned_223 (by decide) rfl (by decide) rfl ?_
  refine zs_al hC dX10_reckoned_226 rfl ?_
  refine zs_getR 35 hC fl_RX10_15 zL33 rfl dX10_reckoned_227 ?_
  refine zs_il hC dX10_reckoned_230 rfl ?_
  refine zs_il hC dX10_reckoned_232 rfl ?_
  refine zs_al hC dX10_reckoned_234 rfl ?_
  refine zs_getR 35 hC fl_RX10_15 zL33 rfl dX10_reckoned_235 ?_
  refine zs_il hC dX10_reckoned_238 rfl ?_
  refine zs_iald hC zL35 dX10_reckoned_240 (fun _ hf => ?_) hf
  refine zs_al hC dX10_reckoned_241 rfl ?_
  refine zs_getR 35 hC fl_RX10_15 zL33 rfl dX10_reckoned_242 ?_
  refine zs_il hC dX10_reckoned_245 rfl ?_
  refine zs_k hC dX10_reckoned_247 ?_
  refine zs_iadd hC dX10_reckoned_248 ?_
  refine zs_iald hC zL35 dX10_reckoned_249 (fun _ hf => ?_) hf
  refine zs_callS [.int v7, .int (μ 35 (v4 + (-1 : Int32)).toNatClampNeg), .int (μ 35 ((v4 + (-1 : Int32)) + (nI 1)).toNatClampNeg)] hC cw_X10_joined cl_RX10_150 (by decide) rfl rfl (Nat.le_of_ble_eq_true rfl) dX10_reckoned_250 (fun _ h => ctX10_joined h) (fun r4 m4 _ hf => ?_) hf
  show zAW X 253 _ (.int r4 :: _) m4
  refine zs_iast hC zL35 dX10_reckoned_253 (fun _ hf => ?_) hf
  refine zs_let (fun m5 _ hf => ?_) hf
  refine zs_iinc (nI 1) hC dX10_reckoned_254 (by decide) rfl (by decide) rfl ?_
  refine zs_goto hC dX10_reckoned_257 ?_
  exact zAW.weak (hk9 _ _ _ _ _ hf) (zLw_s (zLw_s (zLw_n (zLw_s (zLw_s (zLw_s (zLw_s (zLw_n (zLw_n zLw_0)))))))))
set_option maxRecDepth 20000 in
set_option maxHeartbeats 4000000 in
theorem wX10_reckoned_211 {X : zX} {F h1 : Nat} (hC : zCx X RX10 cX10_reckoned 9 1) (hh1 : zIsLw h1 = true) (hret : zRt X (some .int)) {k9 : Int32 → Int32 → Int32 → Int32 → zMem → Option zR} (hk9 : ∀ v3 v4 v5 v6 μ, k9 v3 v4 v5 v6 μ = some (zOut X) → zAW X 9 [some (.ref 33), some (.ref h1), none, some (.int v3), some (.int v4), some (.int v5), some (.int v6), none, none] [] μ) {v3 : Int32} {v4 : Int32} {v5 : Int32} {v6 : Int32} {v7 : Int32} {μ : zMem} (hf : fX10_reckoned_211 F h1 k9 v3 v4 v5 v6 v7 μ = some (zOut X)) : zAW X 211 [some (.ref 33), some (.ref h1), none, some (.int v3), some (.int v4), some (.int v5), some (.int v6), some (.int v7), none] [] μ := by
  unfold fX10_reckoned_211 at hf
  refine zs_al hC dX10_reckoned_211 rfl ?_
  refine zs_getR 35 hC fl_RX10_15 zL33 rfl dX10_reckoned_212 ?_
  refine zs_il hC dX10_reckoned_215 rfl ?_
  refine zs_iald hC zL35 dX10_reckoned_217 (fun _ hf => ?_) hf
  refine zs_if_ne hC dX10_reckoned_218 (fun _ hf => ?_) (fun _ hf => ?_) hf
  · refine zs_k hC dX10_reckoned_221 ?_
    exact zs_iret hC hret dX10_reckoned_222 hf
  · exact zAW.weak (wX10_reckoned_223 hC hh1 hret hk9 hf) (zLw_s (zLw_s (zLw_n (zLw_s (zLw_s (zLw_s (zLw_s (zLw_s (zLw_n zLw_0)))))))))
set_option maxRecDepth 20000 in
set_option maxHeartbeats 4000000 in
theorem wX10_reckoned_9 {X : zX} {F h1 : Nat} (hC : zCx X RX10 cX10_reckoned 9 1) (hh1 : zIsLw h1 = true) (hret : zRt X (some .int)) : ∀ (n : Nat) (v3 : Int32) (v4 : Int32) (v5 : Int32) (v6 : Int32) (μ : zMem), fX10_reckoned_9 F h1 n v3 v4 v5 v6 μ = some (zOut X) → zAW X 9 [some (.ref 33), some (.ref h1), none, some (.int v3), some (.int v4), some (.int v5), some (.int v6), none, none] [] μ := by
  intro n
  induction n with
  | zero =>
    intro v3 v4 v5 v6 μ hf
    rw [fX10_reckoned_9] at hf
    cases hf
  | succ n ih =>
    intro v3 v4 v5 v6 μ hf
    rw [fX10_reckoned_9] at hf
    refine zs_il hC dX10_reckoned_9 rfl ?_
    refine zs_il hC dX10_reckoned_11 rfl ?_
    refine zs_ic_ge hC dX10_reckoned_12 (fun _ hf => ?_) (fun _ hf => ?_) hf
    · refine zs_il hC dX10_reckoned_260 rfl ?_
      refine zs_if_ge hC dX10_reckoned_262 (fun _ hf => ?_) (fun _ hf => ?_) hf
      · refine zs_al hC dX10_reckoned_269 rfl ?_
        refine zs_getR 35 hC fl_RX10_15 zL33 rfl dX10_reckoned_270 ?_
        refine zs_il hC dX10_reckoned_273 rfl ?_
        refine zs_iald hC zL35 dX10_reckoned_275 (fun _ hf => ?_) hf
        exact zs_iret hC hret dX10_reckoned_276 hf
      · refine zs_k hC dX10_reckoned_265 ?_
        refine zs_goto hC dX10_reckoned_266 ?_
        exact zs_iret hC hret dX10_reckoned_276 hf
    · refine zs_il hC dX10_reckoned_15 rfl ?_
      refine zs_il hC dX10_reckoned_17 rfl ?_
      refine zs_ic_ge hC dX10_reckoned_19 (fun _ hf => ?_) (fun _ hf => ?_) hf
      · refine zs_al hC dX10_reckoned_25 rfl ?_
        refine zs_getR (h1 + 1) hC fl_RX10_144 (zLw0 hh1) rfl dX10_reckoned_26 ?_
        refine zs_il hC dX10_reckoned_29 rfl ?_
        refine zs_iald hC (zLw1 hh1) dX10_reckoned_31 (fun _ hf => ?_) hf
        refine zs_is hC dX10_reckoned_32 (by decide) rfl ?_
        refine zs_al hC dX10_reckoned_34 rfl ?_
        refine zs_getR (h1 + 2) hC fl_RX10_147 (zLw0 hh1) rfl dX10_reckoned_35 ?_
        refine zs_il hC dX10_reckoned_38 rfl ?_
        refine zs_iald hC (zLw2 hh1) dX10_reckoned_40 (fun _ hf => ?_) hf
        refine zs_is hC dX10_reckoned_41 (by decide) rfl ?_
        refine zs_il hC dX10_reckoned_43 rfl ?_
        refine zs_if_eq hC dX10_reckoned_45 (fun _ hf => ?_) (fun _ hf => ?_) hf
        · exact zAW.weak (wX10_reckoned_54 hC hh1 hret (ih) hf) (zLw_s (zLw_s (zLw_n (zLw_s (zLw_s (zLw_s (zLw_s (zLw_s (zLw_s zLw_0)))))))))
        · refine zs_il hC dX10_reckoned_48 rfl ?_
          refine zs_k hC dX10_reckoned_50 ?_
          refine zs_ic_ne hC dX10_reckoned_51 (fun _ hf => ?_) (fun _ hf => ?_) hf
          · exact zAW.weak (wX10_reckoned_54 hC hh1 hret (ih) hf) (zLw_s (zLw_s (zLw_n (zLw_s (zLw_s (zLw_s (zLw_s (zLw_s (zLw_s zLw_0)))))))))
          · refine zs_il hC dX10_reckoned_95 rfl ?_
            refine zs_if_ge hC dX10_reckoned_97 (fun _ hf => ?_) (fun _ hf => ?_) hf
            · refine zs_il hC dX10_reckoned_102 rfl ?_
              refine zs_k hC dX10_reckoned_104 ?_
              refine zs_ic_ne hC dX10_reckoned_106 (fun _ hf => ?_) (fun _ hf => ?_) hf
              · refine zs_al hC dX10_reckoned_109 rfl ?_
                refine zs_getR 35 hC fl_RX10_15 zL33 rfl dX10_reckoned_110 ?_
                refine zs_il hC dX10_reckoned_113 rfl ?_
                refine zs_al hC dX10_reckoned_115 rfl ?_
                refine zs_getR 35 hC fl_RX10_15 zL33 rfl dX10_reckoned_116 ?_
                refine zs_il hC dX10_reckoned_119 rfl ?_
                refine zs_iald hC zL35 dX10_reckoned_121 (fun _ hf => ?_) hf
                refine zs_if_ne hC dX10_reckoned_122 (fun _ hf => ?_) (fun _ hf => ?_) hf
                · refine zs_k hC dX10_reckoned_125 ?_
                  refine zs_goto hC dX10_reckoned_126 ?_
                  refine zs_iast hC zL35 dX10_reckoned_130 (fun _ hf => ?_) hf
                  refine zs_let (fun m6 _ hf => ?_) hf
                  refine zs_goto hC dX10_reckoned_131 ?_
                  refine zs_iinc (nI 1) hC dX10_reckoned_254 (by decide) rfl (by decide) rfl ?_
                  refine zs_goto hC dX10_reckoned_257 ?_
                  exact zAW.weak (ih _ _ _ _ _ hf) (zLw_s (zLw_s (zLw_n (zLw_s (zLw_s (zLw_s (zLw_s (zLw_n (zLw_n zLw_0)))))))))
                · refine zs_k hC dX10_reckoned_129 ?_
                  refine zs_iast hC zL35 dX10_reckoned_130 (fun _ hf => ?_) hf
                  refine zs_let (fun m7 _ hf => ?_) hf
                  refine zs_goto hC dX10_reckoned_131 ?_
                  refine zs_iinc (nI 1) hC dX10_reckoned_254 (by decide) rfl (by decide) rfl ?_
                  refine zs_goto hC dX10_reckoned_257 ?_
                  exact zAW.weak (ih _ _ _ _ _ hf) (zLw_s (zLw_s (zLw_n (zLw_s (zLw_s (zLw_s (zLw_s (zLw_n (zLw_n zLw_0)))))))))
              · refine zs_il hC dX10_reckoned_134 rfl ?_
                refine zs_k hC dX10_reckoned_136 ?_
                refine zs_ic_eq hC dX10_reckoned_138 (fun _ hf => ?_) (fun _ hf => ?_) hf
                · exact zAW.weak (wX10_reckoned_148 hC hh1 hret (ih) hf) (zLw_s (zLw_s (zLw_n (zLw_s (zLw_s (zLw_s (zLw_s (zLw_s (zLw_s zLw_0)))))))))
                · refine zs_il hC dX10_reckoned_141 rfl ?_
                  refine zs_k hC dX10_reckoned_143 ?_
                  refine zs_ic_ne hC dX10_reckoned_145 (fun _ hf => ?_) (fun _ hf => ?_) hf
                  · exact zAW.weak (wX10_reckoned_148 hC hh1 hret (ih) hf) (zLw_s (zLw_s (zLw_n (zLw_s (zLw_s (zLw_s (zLw_s (zLw_s (zLw_s zLw_0)))))))))
                  · refine zs_il hC dX10_reckoned_191 rfl ?_
                    refine zs_k hC dX10_reckoned_193 ?_
                    refine zs_ic_lt hC dX10_reckoned_194 (fun _ hf => ?_) (fun _ hf => ?_) hf
                    · refine zs_k hC dX10_reckoned_221 ?_
                      exact zs_iret hC hret dX10_reckoned_222 hf
                    · refine zs_il hC dX10_reckoned_197 rfl ?_
                      refine zs_k hC dX10_reckoned_199 ?_
                      refine zs_ic_eq hC dX10_reckoned_201 (fun _ hf => ?_) (fun _ hf => ?_) hf
                      · exact zAW.weak (wX10_reckoned_211 hC hh1 hret (ih) hf) (zLw_s (zLw_s (zLw_n (zLw_s (zLw_s (zLw_s (zLw_s (zLw_s (zLw_n zLw_0)))))))))
                      · refine zs_il hC dX10_reckoned_204 rfl ?_
                        refine zs_k hC dX10_reckoned_206 ?_
                        refine zs_ic_ne hC dX10_reckoned_208 (fun _ hf => ?_) (fun _ hf => ?_) hf
                        · exact zAW.weak (wX10_reckoned_211 hC hh1 hret (ih) hf) (zLw_s (zLw_s (zLw_n (zLw_s (zLw_s (zLw_s (zLw_s (zLw_s (zLw_n zLw_0)))))))))
                        · exact zAW.weak (wX10_reckoned_223 hC hh1 hret (ih) hf) (zLw_s (zLw_s (zLw_n (zLw_s (zLw_s (zLw_s (zLw_s (zLw_s (zLw_n zLw_0)))))))))
            · refine zs_k hC dX10_reckoned_100 ?_
              exact zs_iret hC hret dX10_reckoned_101 hf
      · refine zs_goto hC dX10_reckoned_22 ?_
        refine zs_iinc (nI 1) hC dX10_reckoned_254 (by decide) rfl (by decide) rfl ?_
        refine zs_goto hC dX10_reckoned_257 ?_
        exact zAW.weak (ih _ _ _ _ _ hf) (zLw_s (zLw_s (zLw_n (zLw_s (zLw_s (zLw_s (zLw_s (zLw_n (zLw_n zLw_0)))))))))
set_option maxRecDepth 20000 in
set_option maxHeartbeats 4000000 in
theorem wX10_reckoned {X : zX} {F h1 : Nat} (hC : zCx X RX10 cX10_reckoned 9 1) (hh1 : zIsLw h1 = true) (hret : zRt X (some .int)) {v2 : Int32} {v3 : Int32} {μ : zMem} (hf : fX10_reckoned F h1 v2 v3 μ = some (zOut X)) : zAW X 0 [some (.ref 33), some (.ref h1), some (.int v2), some (.int v3), none, none, none, none, none] [] μ := by
  unfold fX10_reckoned at hf
  refine zs_k hC dX10_reckoned_0 ?_
  refine zs_is hC dX10_reckoned_1 (by decide) rfl ?_
  refine zs_il hC dX10_reckoned_3 rfl ?_
  refine zs_is hC dX10_reckoned_4 (by decide) rfl ?_
  refine zs_il hC dX10_reckoned_6 rfl ?_
  refine zs_is hC dX10_reckoned_7 (by decide) rfl ?_
  exact zAW.weak (wX10_reckoned_9 hC hh1 hret F _ _ _ _ _ hf) (zLw_s (zLw_s (zLw_n (zLw_s (zLw_s (zLw_s (zLw_s (zLw_n (zLw_n zLw_0)))))))))
set_option maxRecDepth 20000 in
set_option maxHeartbeats 4000000 in
theorem ctX10_reckoned {E : zEV} {F : Nat} {h1 : Nat} {v2 : Int32} {v3 : Int32} {μ : zMem} {out : zR} (hh1 : zIsLw h1 = true) (hf : fX10_reckoned F h1 v2 v3 μ = some out) : zCt E yX10_reckoned cX10_reckoned 9 (some .int) 1 [.ref 33, .ref h1, .int v2, .int v3] μ out :=
  zCt.of [some (.ref 33), some (.ref h1), some (.int v2), some (.int v3), none, none, none, none, none] (by decide +kernel) (Nat.le_of_ble_eq_true rfl) (zLw_s (zLw_s (zLw_s (zLw_s (zLw_e (zLw_e (zLw_e (zLw_e (zLw_e zLw_0))))))))) rfl (fun X hE ho hr hC => by
    subst hE; subst ho
    exact wX10_reckoned hC hh1 hr hf)
/-! X10_asked -/
def fX10_asked_3 (F : Nat) (h1 : Nat) : Nat → Int32 → Int32 → Int32 → zMem → Option zR
  | 0, _, _, _, _ => none
  | n + 1, v2, v3, v4, μ => if (μ h1 7) ≤ v4 then some ((nI 0), μ) else zG v4 16 (if (μ (h1 + 3) v4.toNatClampNeg) = v2 then zG v4 16 (zG v4 16 (zBd (fX10_reckoned F h1 (μ (h1 + 5) v4.toNatClampNeg) (μ (h1 + 6) v4.toNatClampNeg) μ) (fun r5 m5 => if r5 = 0 then fX10_asked_3 F h1 n v2 v3 (v4 + (nI 1)) m5 else zG v4 16 (zG v4 16 (zBd (fX10_reckoned F h1 (m5 (h1 + 4) v4.toNatClampNeg) (m5 (h1 + 5) v4.toNatClampNeg) m5) (fun r8 m8 => zBd (fJ9_min_7cf53 F r8 v3 m8) (fun r9 m9 => zBd (fJ9_max_7cf53 F (nI 0) r9 m9) (fun r10 m10 => some (r10, m10))))))))) else fX10_asked_3 F h1 n v2 v3 (v4 + (nI 1)) μ)
def fX10_asked (F : Nat) (h1 : Nat) (v2 : Int32) (v3 : Int32) (μ : zMem) : Option zR :=
  fX10_asked_3 F h1 F v2 v3 (nI 0) μ
set_option maxRecDepth 20000 in
set_option maxHeartbeats 4000000 in
theorem wX10_asked_3 {X : zX} {F h1 : Nat} (hC : zCx X RX10 cX10_asked 6 2) (hh1 : zIsLw h1 = true) (hret : zRt X (some .int)) : ∀ (n : Nat) (v2 : Int32) (v3 : Int32) (v4 : Int32) (μ : zMem), fX10_asked_3 F h1 n v2 v3 v4 μ = some (zOut X) → zAW X 3 [some (.ref 33), some (.ref h1), some (.int v2), some (.int v3), some (.int v4), none] [] μ := by
  intro n
  induction n with
  | zero =>
    intro v2 v3 v4 μ hf
    rw [fX10_asked_3] at hf
    cases hf
  | succ n ih =>
    intro v2 v3 v4 μ hf
    rw [fX10_asked_3] at hf
    refine zs_il hC dX10_asked_3 rfl ?_
    refine zs_al hC dX10_asked_5 rfl ?_
    refine zs_getI hC fl_RX10_123 (zLw0 hh1) rfl dX10_asked_6 ?_
    refine zs_ic_ge hC dX10_asked_9 (fun _ hf => ?_) (fun _ hf => ?_) hf
    · refine zs_k hC dX10_asked_83 ?_
      exact zs_iret hC hret dX10_asked_84 hf
    · refine zs_al hC dX10_asked_12 rfl ?_
      refine zs_getR (h1 + 3) hC fl_RX10_126 (zLw0 hh1) rfl dX10_asked_13 ?_
      refine zs_il hC dX10_asked_16 rfl ?_
      refine zs_iald hC (zLw3 hh1) dX10_asked_18 (fun _ hf => ?_) hf
      refine zs_il hC dX10_asked_19 rfl ?_
      refine zs_ic_ne hC dX10_asked_20 (fun _ hf => ?_) (fun _ hf => ?_) hf
      · refine zs_al hC dX10_asked_23 rfl ?_
        refine zs_al hC dX10_asked_24 rfl ?_
        refine zs_al hC dX10_asked_25 rfl ?_
        refine zs_getR (h1 + 5) hC fl_RX10_129 (zLw0 hh1) rfl dX10_asked_26 ?_
        refine zs_il hC dX10_asked_29 rfl ?_
        refine zs_iald hC (zLw5 hh1) dX10_asked_31 (fun _ hf => ?_) hf
        refine zs_al hC dX10_asked_32 rfl ?_
        refine zs_getR (h1 + 6) hC fl_RX10_132 (zLw0 hh1) rfl dX10_asked_33 ?_
        refine zs_il hC dX10_asked_36 rfl ?_
        refine zs_iald hC (zLw6 hh1) dX10_asked_38 (fun _ hf => ?_) hf
        refine zs_callV [.ref h1, .int (μ (h1 + 5) v4.toNatClampNeg), .int (μ (h1 + 6) v4.toNatClampNeg)] hC cw_X10_reckoned cl_RX10_135 zL33 rfl (by decide) rfl rfl (Nat.le_of_ble_eq_true rfl) dX10_asked_39 (fun _ h => ctX10_reckoned (hh1) h) (fun r5 m5 _ hf => ?_) hf
        show zAW X 42 _ (.int r5 :: _) m5
        refine zs_if_eq hC dX10_asked_42 (fun _ hf => ?_) (fun _ hf => ?_) hf
        · refine zs_iinc (nI 1) hC dX10_asked_77 (by decide) rfl (by decide) rfl ?_
          refine zs_goto hC dX10_asked_80 ?_
          exact zAW.weak (ih _ _ _ _ hf) (zLw_s (zLw_s (zLw_s (zLw_s (zLw_s (zLw_n zLw_0))))))
        · refine zs_al hC dX10_asked_45 rfl ?_
          refine zs_al hC dX10_asked_46 rfl ?_
          refine zs_al hC dX10_asked_47 rfl ?_
          refine zs_getR (h1 + 4) hC fl_RX10_138 (zLw0 hh1) rfl dX10_asked_48 ?_
          refine zs_il hC dX10_asked_51 rfl ?_
          refine zs_iald hC (zLw4 hh1) dX10_asked_53 (fun _ hf => ?_) hf
          refine zs_al hC dX10_asked_54 rfl ?_
          refine zs_getR (h1 + 5) hC fl_RX10_129 (zLw0 hh1) rfl dX10_asked_55 ?_
          refine zs_il hC dX10_asked_58 rfl ?_
          refine zs_iald hC (zLw5 hh1) dX10_asked_60 (fun _ hf => ?_) hf
          refine zs_callV [.ref h1, .int (m5 (h1 + 4) v4.toNatClampNeg), .int (m5 (h1 + 5) v4.toNatClampNeg)] hC cw_X10_reckoned cl_RX10_135 zL33 rfl (by decide) rfl rfl (Nat.le_of_ble_eq_true rfl) dX10_asked_61 (fun _ h => ctX10_reckoned (hh1) h) (fun r8 m8 _ hf => ?_) hf
          show zAW X 64 _ (.int r8 :: _) m8
          refine zs_is hC dX10_asked_64 (by decide) rfl ?_
          refine zs_k hC dX10_asked_66 ?_
          refine zs_il hC dX10_asked_67 rfl ?_
          refine zs_il hC dX10_asked_69 rfl ?_
          refine zs_callS [.int r8, .int v3] hC cw_J9_min_7cf53 cl_RX10_80 (by decide) rfl rfl (Nat.le_of_ble_eq_true rfl) dX10_asked_70 (fun _ h => ctJ9_min_7cf53 h) (fun r9 m9 _ hf => ?_) hf
          show zAW X 73 _ (.int r9 :: _) m9
          refine zs_callS [.int (nI 0), .int r9] hC cw_J9_max_7cf53 cl_RX10_141 (by decide) rfl rfl (Nat.le_of_ble_eq_true rfl) dX10_asked_73 (fun _ h => ctJ9_max_7cf53 h) (fun r10 m10 _ hf => ?_) hf
          show zAW X 76 _ (.int r10 :: _) m10
          exact zs_iret hC hret dX10_asked_76 hf
      · refine zs_iinc (nI 1) hC dX10_asked_77 (by decide) rfl (by decide) rfl ?_
        refine zs_goto hC dX10_asked_80 ?_
        exact zAW.weak (ih _ _ _ _ hf) (zLw_s (zLw_s (zLw_s (zLw_s (zLw_s (zLw_n zLw_0))))))
set_option maxRecDepth 20000 in
set_option maxHeartbeats 4000000 in
theorem wX10_asked {X : zX} {F h1 : Nat} (hC : zCx X RX10 cX10_asked 6 2) (hh1 : zIsLw h1 = true) (hret : zRt X (some .int)) {v2 : Int32} {v3 : Int32} {μ : zMem} (hf : fX10_asked F h1 v2 v3 μ = some (zOut X)) : zAW X 0 [some (.ref 33), some (.ref h1), some (.int v2), some (.int v3), none, none] [] μ := by
  unfold fX10_asked at hf
  refine zs_k hC dX10_asked_0 ?_
  refine zs_is hC dX10_asked_1 (by decide) rfl ?_
  exact zAW.weak (wX10_asked_3 hC hh1 hret F _ _ _ _ hf) (zLw_s (zLw_s (zLw_s (zLw_s (zLw_s (zLw_n zLw_0))))))
set_option maxRecDepth 20000 in
set_option maxHeartbeats 4000000 in
theorem ctX10_asked {E : zEV} {F : Nat} {h1 : Nat} {v2 : Int32} {v3 : Int32} {μ : zMem} {out : zR} (hh1 : zIsLw h1 = true) (hf : fX10_asked F h1 v2 v3 μ = some out) : zCt E yX10_asked cX10_asked 6 (some .int) 2 [.ref 33, .ref h1, .int v2, .int v3] μ out :=
  zCt.of [some (.ref 33), some (.ref h1), some (.int v2), some (.int v3), none, none] (by decide +kernel) (Nat.le_of_ble_eq_true rfl) (zLw_s (zLw_s (zLw_s (zLw_s (zLw_e (zLw_e zLw_0)))))) rfl (fun X hE ho hr hC => by
    subst hE; subst ho
    exact wX10_asked hC hh1 hr hf)
/-! X10_choice -/
def fX10_choice_9 (F : Nat) (h1 : Nat) (h2 : Nat) : Nat → Int32 → Int32 → Int32 → Int32 → zMem → Option zR
  | 0, _, _, _, _, _ => none
  | n + 1, v3, v4, v5, v6, μ => if (nI 16) ≤ v6 then some (v4, μ) else if v6 = v3 then fX10_choice_9 F h1 h2 n v3 v4 v5 (v6 + (nI 1)) μ else zBd (fX8_isTold F h1 v6 μ) (fun r1 m1 => if r1 = 0 then fX10_choice_9 F h1 h2 n v3 v4 v5 (v6 + (nI 1)) m1 else zG v3 16 (zG v6 16 (if ((m1 (h1 + 1) v3.toNatClampNeg) &&& ((m1 (h1 + 1) v6.toNatClampNeg) ^^^ (-1 : Int32))) = 0 then fX10_choice_9 F h1 h2 n v3 v4 v5 (v6 + (nI 1)) m1 else zBd (fX10_looksAtOther F h1 v3 v6 m1) (fun r4 m4 => zBd (fX10_asked F h2 (nI 101) (nI 9999) m4) (fun r5 m5 => if r5 ≤ v5 then fX10_choice_9 F h1 h2 n v3 v4 v5 (v6 + (nI 1)) m5 else fX10_choice_9 F h1 h2 n v3 v6 r5 (v6 + (nI 1)) m5)))))
def fX10_choice (F : Nat) (h1 : Nat) (h2 : Nat) (v3 : Int32) (μ : zMem) : Option zR :=
  fX10_choice_9 F h1 h2 F v3 (-1 : Int32) (nI 0) (nI 0) μ
set_option maxRecDepth 20000 in
set_option maxHeartbeats 4000000 in
theorem wX10_choice_9 {X : zX} {F h1 h2 : Nat} (hC : zCx X RX10 cX10_choice 8 3) (hh1 : zIsSt h1 = true) (hh2 : zIsLw h2 = true) (hret : zRt X (some .int)) : ∀ (n : Nat) (v3 : Int32) (v4 : Int32) (v5 : Int32) (v6 : Int32) (μ : zMem), fX10_choice_9 F h1 h2 n v3 v4 v5 v6 μ = some (zOut X) → zAW X 9 [some (.ref 33), some (.ref h1), some (.ref h2), some (.int v3), some (.int v4), some (.int v5), some (.int v6), none] [] μ := by
  intro n
  induction n with
  | zero =>
    intro v3 v4 v5 v6 μ hf
    rw [fX10_choice_9] at hf
    cases hf
  | succ n ih =>
    intro v3 v4 v5 v6 μ hf
    rw [fX10_choice_9] at hf
    refine zs_il hC dX10_choice_9 rfl ?_
    refine zs_k hC dX10_choice_11 ?_
    refine zs_ic_ge hC dX10_choice_13 (fun _ hf => ?_) (fun _ hf => ?_) hf
    · refine zs_il hC dX10_choice_91 rfl ?_
      exact zs_iret hC hret dX10_choice_93 hf
    · refine zs_il hC dX10_choice_16 rfl ?_
      refine zs_il hC dX10_choice_18 rfl ?_
      refine zs_ic_eq hC dX10_choice_19 (fun _ hf => ?_) (fun _ hf => ?_) hf
      · refine zs_iinc (nI 1) hC dX10_choice_85 (by decide) rfl (by decide) rfl ?_
        refine zs_goto hC dX10_choice_88 ?_
        exact zAW.weak (ih _ _ _ _ _ hf) (zLw_s (zLw_s (zLw_s (zLw_s (zLw_s (zLw_s (zLw_s (zLw_n zLw_0))))))))
      · refine zs_al hC dX10_choice_22 rfl ?_
        refine zs_il hC dX10_choice_23 rfl ?_
        refine zs_callV [.int v6] hC cw_X8_isTold cl_RX10_38 (zSt0 hh1) rfl (by decide) rfl rfl (Nat.le_of_ble_eq_true rfl) dX10_choice_25 (fun _ h => ctX8_isTold (hh1) h) (fun r1 m1 _ hf => ?_) hf
        show zAW X 28 _ (.int r1 :: _) m1
        refine zs_if_eq hC dX10_choice_28 (fun _ hf => ?_) (fun _ hf => ?_) hf
        · refine zs_iinc (nI 1) hC dX10_choice_85 (by decide) rfl (by decide) rfl ?_
          refine zs_goto hC dX10_choice_88 ?_
          exact zAW.weak (ih _ _ _ _ _ hf) (zLw_s (zLw_s (zLw_s (zLw_s (zLw_s (zLw_s (zLw_s (zLw_n zLw_0))))))))
        · refine zs_al hC dX10_choice_31 rfl ?_
          refine zs_getR (h1 + 1) hC fl_RX10_69 (zSt0 hh1) rfl dX10_choice_32 ?_
          refine zs_il hC dX10_choice_35 rfl ?_
          refine zs_iald hC (zSt1 hh1) dX10_choice_36 (fun _ hf => ?_) hf
          refine zs_al hC dX10_choice_37 rfl ?_
          refine zs_getR (h1 + 1) hC fl_RX10_69 (zSt0 hh1) rfl dX10_choice_38 ?_
          refine zs_il hC dX10_choice_41 rfl ?_
          refine zs_iald hC (zSt1 hh1) dX10_choice_43 (fun _ hf => ?_) hf
          refine zs_k hC dX10_choice_44 ?_
          refine zs_ixor hC dX10_choice_45 ?_
          refine zs_iand hC dX10_choice_46 ?_
          refine zs_if_eq hC dX10_choice_47 (fun _ hf => ?_) (fun _ hf => ?_) hf
          · refine zs_iinc (nI 1) hC dX10_choice_85 (by decide) rfl (by decide) rfl ?_
            refine zs_goto hC dX10_choice_88 ?_
            exact zAW.weak (ih _ _ _ _ _ hf) (zLw_s (zLw_s (zLw_s (zLw_s (zLw_s (zLw_s (zLw_s (zLw_n zLw_0))))))))
          · refine zs_al hC dX10_choice_50 rfl ?_
            refine zs_al hC dX10_choice_51 rfl ?_
            refine zs_il hC dX10_choice_52 rfl ?_
            refine zs_il hC dX10_choice_53 rfl ?_
            refine zs_callV [.ref h1, .int v3, .int v6] hC cw_X10_looksAtOther cl_RX10_58 zL33 rfl (by decide) rfl rfl (Nat.le_of_ble_eq_true rfl) dX10_choice_55 (fun _ h => ctX10_looksAtOther (hh1) h) (fun r4 m4 _ hf => ?_) hf
            show zAW X 58 _ _ m4
            refine zs_al hC dX10_choice_58 rfl ?_
            refine zs_al hC dX10_choice_59 rfl ?_
            refine zs_k hC dX10_choice_60 ?_
            refine zs_k hC dX10_choice_62 ?_
            refine zs_callV [.ref h2, .int (nI 101), .int (nI 9999)] hC cw_X10_asked cl_RX10_61 zL33 rfl (by decide) rfl rfl (Nat.le_of_ble_eq_true rfl) dX10_choice_65 (fun _ h => ctX10_asked (hh2) h) (fun r5 m5 _ hf => ?_) hf
            show zAW X 68 _ (.int r5 :: _) m5
            refine zs_is hC dX10_choice_68 (by decide) rfl ?_
            refine zs_il hC dX10_choice_70 rfl ?_
            refine zs_il hC dX10_choice_72 rfl ?_
            refine zs_ic_le hC dX10_choice_74 (fun _ hf => ?_) (fun _ hf => ?_) hf
            · refine zs_iinc (nI 1) hC dX10_choice_85 (by decide) rfl (by decide) rfl ?_
              refine zs_goto hC dX10_choice_88 ?_
              exact zAW.weak (ih _ _ _ _ _ hf) (zLw_s (zLw_s (zLw_s (zLw_s (zLw_s (zLw_s (zLw_s (zLw_n zLw_0))))))))
            · refine zs_il hC dX10_choice_77 rfl ?_
              refine zs_is hC dX10_choice_79 (by decide) rfl ?_
              refine zs_il hC dX10_choice_81 rfl ?_
              refine zs_is hC dX10_choice_83 (by decide) rfl ?_
              refine zs_iinc (nI 1) hC dX10_choice_85 (by decide) rfl (by decide) rfl ?_
              refine zs_goto hC dX10_choice_88 ?_
              exact zAW.weak (ih _ _ _ _ _ hf) (zLw_s (zLw_s (zLw_s (zLw_s (zLw_s (zLw_s (zLw_s (zLw_n zLw_0))))))))
set_option maxRecDepth 20000 in
set_option maxHeartbeats 4000000 in
theorem wX10_choice {X : zX} {F h1 h2 : Nat} (hC : zCx X RX10 cX10_choice 8 3) (hh1 : zIsSt h1 = true) (hh2 : zIsLw h2 = true) (hret : zRt X (some .int)) {v3 : Int32} {μ : zMem} (hf : fX10_choice F h1 h2 v3 μ = some (zOut X)) : zAW X 0 [some (.ref 33), some (.ref h1), some (.ref h2), some (.int v3), none, none, none, none] [] μ := by
  unfold fX10_choice at hf
  refine zs_k hC dX10_choice_0 ?_
  refine zs_is hC dX10_choice_1 (by decide) rfl ?_
  refine zs_k hC dX10_choice_3 ?_
  refine zs_is hC dX10_choice_4 (by decide) rfl ?_
  refine zs_k hC dX10_choice_6 ?_
  refine zs_is hC dX10_choice_7 (by decide) rfl ?_
  exact zAW.weak (wX10_choice_9 hC hh1 hh2 hret F _ _ _ _ _ hf) (zLw_s (zLw_s (zLw_s (zLw_s (zLw_s (zLw_s (zLw_s (zLw_n zLw_0))))))))
set_option maxRecDepth 20000 in
set_option maxHeartbeats 4000000 in
theorem ctX10_choice {E : zEV} {F : Nat} {h1 : Nat} {h2 : Nat} {v3 : Int32} {μ : zMem} {out : zR} (hh1 : zIsSt h1 = true) (hh2 : zIsLw h2 = true) (hf : fX10_choice F h1 h2 v3 μ = some out) : zCt E yX10_choice cX10_choice 8 (some .int) 3 [.ref 33, .ref h1, .ref h2, .int v3] μ out :=
  zCt.of [some (.ref 33), some (.ref h1), some (.ref h2), some (.int v3), none, none, none, none] (by decide +kernel) (Nat.le_of_ble_eq_true rfl) (zLw_s (zLw_s (zLw_s (zLw_s (zLw_e (zLw_e (zLw_e (zLw_e zLw_0)))))))) rfl (fun X hE ho hr hC => by
    subst hE; subst ho
    exact wX10_choice hC hh1 hh2 hr hf)
/-! J6_numberOfTrailingZeros_0f7a4 -/
def fJ6_numberOfTrailingZeros_0f7a4_62 (F : Nat) (v0 : Int32) (v1 : Int32) (μ : zMem) : Option zR :=
  if v0 ≤ (nI 4) then some ((v1 + (zUsh v0 (nI 1))), μ) else some (((v1 + (nI 2)) + (zUsh (zUsh v0 (nI 2)) (nI 1))), μ)
def fJ6_numberOfTrailingZeros_0f7a4_49 (F : Nat) (v0 : Int32) (v1 : Int32) (μ : zMem) : Option zR :=
  if v0 ≤ (nI 16) then fJ6_numberOfTrailingZeros_0f7a4_62 F v0 v1 μ else fJ6_numberOfTrailingZeros_0f7a4_62 F (zUsh v0 (nI 4)) (v1 + (nI 4)) μ
def fJ6_numberOfTrailingZeros_0f7a4_34 (F : Nat) (v0 : Int32) (v1 : Int32) (μ : zMem) : Option zR :=
  if v0 ≤ (nI 256) then fJ6_numberOfTrailingZeros_0f7a4_49 F v0 v1 μ else fJ6_numberOfTrailingZeros_0f7a4_49 F (zUsh v0 (nI 8)) (v1 + (nI 8)) μ
def fJ6_numberOfTrailingZeros_0f7a4 (F : Nat) (v0 : Int32) (μ : zMem) : Option zR :=
  if 0 < ((v0 ^^^ (-1 : Int32)) &&& (v0 - (nI 1))) then if ((v0 ^^^ (-1 : Int32)) &&& (v0 - (nI 1))) ≤ (nI 65536) then fJ6_numberOfTrailingZeros_0f7a4_34 F ((v0 ^^^ (-1 : Int32)) &&& (v0 - (nI 1))) (nI 1) μ else fJ6_numberOfTrailingZeros_0f7a4_34 F (zUsh ((v0 ^^^ (-1 : Int32)) &&& (v0 - (nI 1))) (nI 16)) ((nI 1) + (nI 16)) μ else some ((((v0 ^^^ (-1 : Int32)) &&& (v0 - (nI 1))) &&& (nI 32)), μ)
set_option maxRecDepth 20000 in
set_option maxHeartbeats 4000000 in
theorem wJ6_numberOfTrailingZeros_0f7a4_62 {X : zX} {F : Nat} (hC : zCx X RJ6 cJ6_numberOfTrailingZeros_0f7a4 2 0) (hret : zRt X (some .int)) {v0 : Int32} {v1 : Int32} {μ : zMem} (hf : fJ6_numberOfTrailingZeros_0f7a4_62 F v0 v1 μ = some (zOut X)) : zAW X 62 [some (.int v0), some (.int v1)] [] μ := by
  unfold fJ6_numberOfTrailingZeros_0f7a4_62 at hf
  refine zs_il hC dJ6_numberOfTrailingZeros_0f7a4_62 rfl ?_
  refine zs_k hC dJ6_numberOfTrailingZeros_0f7a4_63 ?_
  refine zs_ic_le hC dJ6_numberOfTrailingZeros_0f7a4_64 (fun _ hf => ?_) (fun _ hf => ?_) hf
  · refine zs_il hC dJ6_numberOfTrailingZeros_0f7a4_74 rfl ?_
    refine zs_il hC dJ6_numberOfTrailingZeros_0f7a4_75 rfl ?_
    refine zs_k hC dJ6_numberOfTrailingZeros_0f7a4_76 ?_
    refine zs_iushr hC dJ6_numberOfTrailingZeros_0f7a4_77 ?_
    refine zs_iadd hC dJ6_numberOfTrailingZeros_0f7a4_78 ?_
    exact zs_iret hC hret dJ6_numberOfTrailingZeros_0f7a4_79 hf
  · refine zs_iinc (nI 2) hC dJ6_numberOfTrailingZeros_0f7a4_67 (by decide) rfl (by decide) rfl ?_
    refine zs_il hC dJ6_numberOfTrailingZeros_0f7a4_70 rfl ?_
    refine zs_k hC dJ6_numberOfTrailingZeros_0f7a4_71 ?_
    refine zs_iushr hC dJ6_numberOfTrailingZeros_0f7a4_72 ?_
    refine zs_is hC dJ6_numberOfTrailingZeros_0f7a4_73 (by decide) rfl ?_
    refine zs_il hC dJ6_numberOfTrailingZeros_0f7a4_74 rfl ?_
    refine zs_il hC dJ6_numberOfTrailingZeros_0f7a4_75 rfl ?_
    refine zs_k hC dJ6_numberOfTrailingZeros_0f7a4_76 ?_
    refine zs_iushr hC dJ6_numberOfTrailingZeros_0f7a4_77 ?_
    refine zs_iadd hC dJ6_numberOfTrailingZeros_0f7a4_78 ?_
    exact zs_iret hC hret dJ6_numberOfTrailingZeros_0f7a4_79 hf
set_option maxRecDepth 20000 in
set_option maxHeartbeats 4000000 in
theorem wJ6_numberOfTrailingZeros_0f7a4_49 {X : zX} {F : Nat} (hC : zCx X RJ6 cJ6_numberOfTrailingZeros_0f7a4 2 0) (hret : zRt X (some .int)) {v0 : Int32} {v1 : Int32} {μ : zMem} (hf : fJ6_numberOfTrailingZeros_0f7a4_49 F v0 v1 μ = some (zOut X)) : zAW X 49 [some (.int v0), some (.int v1)] [] μ := by
  unfold fJ6_numberOfTrailingZeros_0f7a4_49 at hf
  refine zs_il hC dJ6_numberOfTrailingZeros_0f7a4_49 rfl ?_
  refine zs_k hC dJ6_numberOfTrailingZeros_0f7a4_50 ?_
  refine zs_ic_le hC dJ6_numberOfTrailingZeros_0f7a4_52 (fun _ hf => ?_) (fun _ hf => ?_) hf
  · exact zAW.weak (wJ6_numberOfTrailingZeros_0f7a4_62 hC hret hf) (zLw_s (zLw_s zLw_0))
  · refine zs_iinc (nI 4) hC dJ6_numberOfTrailingZeros_0f7a4_55 (by decide) rfl (by decide) rfl ?_
    refine zs_il hC dJ6_numberOfTrailingZeros_0f7a4_58 rfl ?_
    refine zs_k hC dJ6_numberOfTrailingZeros_0f7a4_59 ?_
    refine zs_iushr hC dJ6_numberOfTrailingZeros_0f7a4_60 ?_
    refine zs_is hC dJ6_numberOfTrailingZeros_0f7a4_61 (by decide) rfl ?_
    exact zAW.weak (wJ6_numberOfTrailingZeros_0f7a4_62 hC hret hf) (zLw_s (zLw_s zLw_0))
set_option maxRecDepth 20000 in
set_option maxHeartbeats 4000000 in
theorem wJ6_numberOfTrailingZeros_0f7a4_34 {X : zX} {F : Nat} (hC : zCx X RJ6 cJ6_numberOfTrailingZeros_0f7a4 2 0) (hret : zRt X (some .int)) {v0 : Int32} {v1 : Int32} {μ : zMem} (hf : fJ6_numberOfTrailingZeros_0f7a4_34 F v0 v1 μ = some (zOut X)) : zAW X 34 [some (.int v0), some (.int v1)] [] μ := by
  unfold fJ6_numberOfTrailingZeros_0f7a4_34 at hf
  refine zs_il hC dJ6_numberOfTrailingZeros_0f7a4_34 rfl ?_
  refine zs_k hC dJ6_numberOfTrailingZeros_0f7a4_35 ?_
  refine zs_ic_le hC dJ6_numberOfTrailingZeros_0f7a4_38 (fun _ hf => ?_) (fun _ hf => ?_) hf
  · exact zAW.weak (wJ6_numberOfTrailingZeros_0f7a4_49 hC hret hf) (zLw_s (zLw_s zLw_0))
  · refine zs_iinc (nI 8) hC dJ6_numberOfTrailingZeros_0f7a4_41 (by decide) rfl (by decide) rfl ?_
    refine zs_il hC dJ6_numberOfTrailingZeros_0f7a4_44 rfl ?_
    refine zs_k hC dJ6_numberOfTrailingZeros_0f7a4_45 ?_
    refine zs_iushr hC dJ6_numberOfTrailingZeros_0f7a4_47 ?_
    refine zs_is hC dJ6_numberOfTrailingZeros_0f7a4_48 (by decide) rfl ?_
    exact zAW.weak (wJ6_numberOfTrailingZeros_0f7a4_49 hC hret hf) (zLw_s (zLw_s zLw_0))
set_option maxRecDepth 20000 in
set_option maxHeartbeats 4000000 in
theorem wJ6_numberOfTrailingZeros_0f7a4 {X : zX} {F : Nat} (hC : zCx X RJ6 cJ6_numberOfTrailingZeros_0f7a4 2 0) (hret : zRt X (some .int)) {v0 : Int32} {μ : zMem} (hf : fJ6_numberOfTrailingZeros_0f7a4 F v0 μ = some (zOut X)) : zAW X 0 [some (.int v0), none] [] μ := by
  unfold fJ6_numberOfTrailingZeros_0f7a4 at hf
  refine zs_il hC dJ6_numberOfTrailingZeros_0f7a4_0 rfl ?_
  refine zs_k hC dJ6_numberOfTrailingZeros_0f7a4_1 ?_
  refine zs_ixor hC dJ6_numberOfTrailingZeros_0f7a4_2 ?_
  refine zs_il hC dJ6_numberOfTrailingZeros_0f7a4_3 rfl ?_
  refine zs_k hC dJ6_numberOfTrailingZeros_0f7a4_4 ?_
  refine zs_isub hC dJ6_numberOfTrailingZeros_0f7a4_5 ?_
  refine zs_iand hC dJ6_numberOfTrailingZeros_0f7a4_6 ?_
  refine zs_is hC dJ6_numberOfTrailingZeros_0f7a4_7 (by decide) rfl ?_
  refine zs_il hC dJ6_numberOfTrailingZeros_0f7a4_8 rfl ?_
  refine zs_if_gt hC dJ6_numberOfTrailingZeros_0f7a4_9 (fun _ hf => ?_) (fun _ hf => ?_) hf
  · refine zs_k hC dJ6_numberOfTrailingZeros_0f7a4_17 ?_
    refine zs_is hC dJ6_numberOfTrailingZeros_0f7a4_18 (by decide) rfl ?_
    refine zs_il hC dJ6_numberOfTrailingZeros_0f7a4_19 rfl ?_
    refine zs_ldcw hC kc_RJ6_264 dJ6_numberOfTrailingZeros_0f7a4_20 ?_
    refine zs_ic_le hC dJ6_numberOfTrailingZeros_0f7a4_23 (fun _ hf => ?_) (fun _ hf => ?_) hf
    · exact zAW.weak (wJ6_numberOfTrailingZeros_0f7a4_34 hC hret hf) (zLw_s (zLw_s zLw_0))
    · refine zs_iinc (nI 16) hC dJ6_numberOfTrailingZeros_0f7a4_26 (by decide) rfl (by decide) rfl ?_
      refine zs_il hC dJ6_numberOfTrailingZeros_0f7a4_29 rfl ?_
      refine zs_k hC dJ6_numberOfTrailingZeros_0f7a4_30 ?_
      refine zs_iushr hC dJ6_numberOfTrailingZeros_0f7a4_32 ?_
      refine zs_is hC dJ6_numberOfTrailingZeros_0f7a4_33 (by decide) rfl ?_
      exact zAW.weak (wJ6_numberOfTrailingZeros_0f7a4_34 hC hret hf) (zLw_s (zLw_s zLw_0))
  · refine zs_il hC dJ6_numberOfTrailingZeros_0f7a4_12 rfl ?_
    refine zs_k hC dJ6_numberOfTrailingZeros_0f7a4_13 ?_
    refine zs_iand hC dJ6_numberOfTrailingZeros_0f7a4_15 ?_
    exact zs_iret hC hret dJ6_numberOfTrailingZeros_0f7a4_16 hf
set_option maxRecDepth 20000 in
set_option maxHeartbeats 4000000 in
theorem ctJ6_numberOfTrailingZeros_0f7a4 {E : zEV} {F : Nat} {v0 : Int32} {μ : zMem} {out : zR} (hf : fJ6_numberOfTrailingZeros_0f7a4 F v0 μ = some out) : zCt E yJ6_numberOfTrailingZeros_0f7a4 cJ6_numberOfTrailingZeros_0f7a4 2 (some .int) 0 [.int v0] μ out :=
  zCt.of [some (.int v0), none] (by decide +kernel) (Nat.le_of_ble_eq_true rfl) (zLw_s (zLw_e zLw_0)) rfl (fun X hE ho hr hC => by
    subst hE; subst ho
    exact wJ6_numberOfTrailingZeros_0f7a4 hC hr hf)
/-! X10_nextTold -/
def fX10_nextTold_2 (F : Nat) (h0 : Nat) : Nat → Int32 → Int32 → Int32 → zMem → Option zR
  | 0, _, _, _, _ => none
  | n + 1, v1, v2, v3, μ => if (nI 16) ≤ v3 then some (v2, μ) else zGz (nI 16) (if ((v2 + v3) % (nI 16)) = v1 then fX10_nextTold_2 F h0 n v1 v2 (v3 + (nI 1)) μ else zBd (fX8_isTold F h0 ((v2 + v3) % (nI 16)) μ) (fun r1 m1 => if r1 = 0 then fX10_nextTold_2 F h0 n v1 v2 (v3 + (nI 1)) m1 else some (((v2 + v3) % (nI 16)), m1)))
def fX10_nextTold (F : Nat) (h0 : Nat) (v1 : Int32) (v2 : Int32) (μ : zMem) : Option zR :=
  fX10_nextTold_2 F h0 F v1 v2 (nI 1) μ
set_option maxRecDepth 20000 in
set_option maxHeartbeats 4000000 in
theorem wX10_nextTold_2 {X : zX} {F h0 : Nat} (hC : zCx X RX10 cX10_nextTold 5 3) (hh0 : zIsSt h0 = true) (hret : zRt X (some .int)) : ∀ (n : Nat) (v1 : Int32) (v2 : Int32) (v3 : Int32) (μ : zMem), fX10_nextTold_2 F h0 n v1 v2 v3 μ = some (zOut X) → zAW X 2 [some (.ref h0), some (.int v1), some (.int v2), some (.int v3), none] [] μ := by
  intro n
  induction n with
  | zero =>
    intro v1 v2 v3 μ hf
    rw [fX10_nextTold_2] at hf
    cases hf
  | succ n ih =>
    intro v1 v2 v3 μ hf
    rw [fX10_nextTold_2] at hf
    refine zs_il hC dX10_nextTold_2 rfl ?_
    refine zs_k hC dX10_nextTold_3 ?_
    refine zs_ic_ge hC dX10_nextTold_5 (fun _ hf => ?_) (fun _ hf => ?_) hf
    · refine zs_il hC dX10_nextTold_40 rfl ?_
      exact zs_iret hC hret dX10_nextTold_41 hf
    · refine zs_il hC dX10_nextTold_8 rfl ?_
      refine zs_il hC dX10_nextTold_9 rfl ?_
      refine zs_iadd hC dX10_nextTold_10 ?_
      refine zs_k hC dX10_nextTold_11 ?_
      refine zs_irem hC dX10_nextTold_13 (fun _ hf => ?_) hf
      refine zs_is hC dX10_nextTold_14 (by decide) rfl ?_
      refine zs_il hC dX10_nextTold_16 rfl ?_
      refine zs_il hC dX10_nextTold_18 rfl ?_
      refine zs_ic_eq hC dX10_nextTold_19 (fun _ hf => ?_) (fun _ hf => ?_) hf
      · refine zs_iinc (nI 1) hC dX10_nextTold_34 (by decide) rfl (by decide) rfl ?_
        refine zs_goto hC dX10_nextTold_37 ?_
        exact zAW.weak (ih _ _ _ _ hf) (zLw_s (zLw_s (zLw_s (zLw_s (zLw_n zLw_0)))))
      · refine zs_al hC dX10_nextTold_22 rfl ?_
        refine zs_il hC dX10_nextTold_23 rfl ?_
        refine zs_callV [.int ((v2 + v3) % (nI 16))] hC cw_X8_isTold cl_RX10_38 (zSt0 hh0) rfl (by decide) rfl rfl (Nat.le_of_ble_eq_true rfl) dX10_nextTold_25 (fun _ h => ctX8_isTold (hh0) h) (fun r1 m1 _ hf => ?_) hf
        show zAW X 28 _ (.int r1 :: _) m1
        refine zs_if_eq hC dX10_nextTold_28 (fun _ hf => ?_) (fun _ hf => ?_) hf
        · refine zs_iinc (nI 1) hC dX10_nextTold_34 (by decide) rfl (by decide) rfl ?_
          refine zs_goto hC dX10_nextTold_37 ?_
          exact zAW.weak (ih _ _ _ _ hf) (zLw_s (zLw_s (zLw_s (zLw_s (zLw_n zLw_0)))))
        · refine zs_il hC dX10_nextTold_31 rfl ?_
          exact zs_iret hC hret dX10_nextTold_33 hf
set_option maxRecDepth 20000 in
set_option maxHeartbeats 4000000 in
theorem wX10_nextTold {X : zX} {F h0 : Nat} (hC : zCx X RX10 cX10_nextTold 5 3) (hh0 : zIsSt h0 = true) (hret : zRt X (some .int)) {v1 : Int32} {v2 : Int32} {μ : zMem} (hf : fX10_nextTold F h0 v1 v2 μ = some (zOut X)) : zAW X 0 [some (.ref h0), some (.int v1), some (.int v2), none, none] [] μ := by
  unfold fX10_nextTold at hf
  refine zs_k hC dX10_nextTold_0 ?_
  refine zs_is hC dX10_nextTold_1 (by decide) rfl ?_
  exact zAW.weak (wX10_nextTold_2 hC hh0 hret F _ _ _ _ hf) (zLw_s (zLw_s (zLw_s (zLw_s (zLw_n zLw_0)))))
set_option maxRecDepth 20000 in
set_option maxHeartbeats 4000000 in
theorem ctX10_nextTold {E : zEV} {F : Nat} {h0 : Nat} {v1 : Int32} {v2 : Int32} {μ : zMem} {out : zR} (hh0 : zIsSt h0 = true) (hf : fX10_nextTold F h0 v1 v2 μ = some out) : zCt E yX10_nextTold cX10_nextTold 5 (some .int) 3 [.ref h0, .int v1, .int v2] μ out :=
  zCt.of [some (.ref h0), some (.int v1), some (.int v2), none, none] (by decide +kernel) (Nat.le_of_ble_eq_true rfl) (zLw_s (zLw_s (zLw_s (zLw_e (zLw_e zLw_0))))) rfl (fun X hE ho hr hC => by
    subst hE; subst ho
    exact wX10_nextTold hC hh0 hr hf)
