/-! X12_octet -/
def fX12_octet (F : Nat) (v1 : Int32) (μ : zMem) : Option zR :=
  zG v1 260 (some (((μ 68 v1.toNatClampNeg) &&& (nI 255)), μ))
set_option maxRecDepth 20000 in
set_option maxHeartbeats 4000000 in
theorem wX12_octet {X : zX} {F : Nat} (hC : zCx X RX12 cX12_octet 2 0) (hret : zRt X (some .int)) {v1 : Int32} {μ : zMem} (hf : fX12_octet F v1 μ = some (zOut X)) : zAW X 0 [some (.ref 60), some (.int v1)] [] μ := by
  unfold fX12_octet at hf
  refine zs_al hC dX12_octet_0 rfl ?_
  refine zs_getR 68 hC fl_RX12_31 zL60 rfl dX12_octet_1 ?_
  refine zs_il hC dX12_octet_4 rfl ?_
  refine zs_bald hC zL68 dX12_octet_5 (fun _ hf => ?_) hf
  refine zs_k hC dX12_octet_6 ?_
  refine zs_iand hC dX12_octet_9 ?_
  exact zs_iret hC hret dX12_octet_10 hf
set_option maxRecDepth 20000 in
set_option maxHeartbeats 4000000 in
theorem ctX12_octet {E : zEV} {F : Nat} {v1 : Int32} {μ : zMem} {out : zR} (hf : fX12_octet F v1 μ = some out) : zCt E yX12_octet cX12_octet 2 (some .int) 0 [.ref 60, .int v1] μ out :=
  zCt.of [some (.ref 60), some (.int v1)] (by decide +kernel) (Nat.le_of_ble_eq_true rfl) (zLw_s (zLw_s zLw_0)) rfl (fun X hE ho hr hC => by
    subst hE; subst ho
    exact wX12_octet hC hr hf)
/-! X12_here -/
def fX12_here (F : Nat) (μ : zMem) : Option zR :=
  if (μ 60 11) ≤ (μ 60 10) then some ((-1 : Int32), μ) else zG (μ 60 10) 260 (some (((μ 68 (μ 60 10).toNatClampNeg) &&& (nI 255)), μ))
set_option maxRecDepth 20000 in
set_option maxHeartbeats 4000000 in
theorem wX12_here {X : zX} {F : Nat} (hC : zCx X RX12 cX12_here 1 0) (hret : zRt X (some .int)) {μ : zMem} (hf : fX12_here F μ = some (zOut X)) : zAW X 0 [some (.ref 60)] [] μ := by
  unfold fX12_here at hf
  refine zs_al hC dX12_here_0 rfl ?_
  refine zs_getI hC fl_RX12_113 zL60 rfl dX12_here_1 ?_
  refine zs_al hC dX12_here_4 rfl ?_
  refine zs_getI hC fl_RX12_116 zL60 rfl dX12_here_5 ?_
  refine zs_ic_ge hC dX12_here_8 (fun _ hf => ?_) (fun _ hf => ?_) hf
  · refine zs_k hC dX12_here_27 ?_
    exact zs_iret hC hret dX12_here_28 hf
  · refine zs_al hC dX12_here_11 rfl ?_
    refine zs_getR 68 hC fl_RX12_31 zL60 rfl dX12_here_12 ?_
    refine zs_al hC dX12_here_15 rfl ?_
    refine zs_getI hC fl_RX12_113 zL60 rfl dX12_here_16 ?_
    refine zs_bald hC zL68 dX12_here_19 (fun _ hf => ?_) hf
    refine zs_k hC dX12_here_20 ?_
    refine zs_iand hC dX12_here_23 ?_
    refine zs_goto hC dX12_here_24 ?_
    exact zs_iret hC hret dX12_here_28 hf
set_option maxRecDepth 20000 in
set_option maxHeartbeats 4000000 in
theorem ctX12_here {E : zEV} {F : Nat} {μ : zMem} {out : zR} (hf : fX12_here F μ = some out) : zCt E yX12_here cX12_here 1 (some .int) 0 [.ref 60] μ out :=
  zCt.of [some (.ref 60)] (by decide +kernel) (Nat.le_of_ble_eq_true rfl) (zLw_s zLw_0) rfl (fun X hE ho hr hC => by
    subst hE; subst ho
    exact wX12_here hC hr hf)
/-! X12_isDigit -/
def fX12_isDigit (F : Nat) (μ : zMem) : Option zR :=
  zBd (fX12_here F μ) (fun r1 m1 => if r1 < (nI 48) then some ((nI 0), m1) else zBd (fX12_here F m1) (fun r2 m2 => if (nI 57) < r2 then some ((nI 0), m2) else some ((nI 1), m2)))
set_option maxRecDepth 20000 in
set_option maxHeartbeats 4000000 in
theorem wX12_isDigit {X : zX} {F : Nat} (hC : zCx X RX12 cX12_isDigit 1 1) (hret : zRt X (some .boolean)) {μ : zMem} (hf : fX12_isDigit F μ = some (zOut X)) : zAW X 0 [some (.ref 60)] [] μ := by
  unfold fX12_isDigit at hf
  refine zs_al hC dX12_isDigit_0 rfl ?_
  refine zs_callV [] hC cw_X12_here cl_RX12_119 zL60 rfl (by decide) rfl rfl (Nat.le_of_ble_eq_true rfl) dX12_isDigit_1 (fun _ h => ctX12_here h) (fun r1 m1 _ hf => ?_) hf
  show zAW X 4 _ (.int r1 :: _) m1
  refine zs_k hC dX12_isDigit_4 ?_
  refine zs_ic_lt hC dX12_isDigit_6 (fun _ hf => ?_) (fun _ hf => ?_) hf
  · refine zs_k hC dX12_isDigit_22 ?_
    exact zs_zretK hC hret dX12_isDigit_23 (by decide) hf
  · refine zs_al hC dX12_isDigit_9 rfl ?_
    refine zs_callV [] hC cw_X12_here cl_RX12_119 zL60 rfl (by decide) rfl rfl (Nat.le_of_ble_eq_true rfl) dX12_isDigit_10 (fun _ h => ctX12_here h) (fun r2 m2 _ hf => ?_) hf
    show zAW X 13 _ (.int r2 :: _) m2
    refine zs_k hC dX12_isDigit_13 ?_
    refine zs_ic_gt hC dX12_isDigit_15 (fun _ hf => ?_) (fun _ hf => ?_) hf
    · refine zs_k hC dX12_isDigit_22 ?_
      exact zs_zretK hC hret dX12_isDigit_23 (by decide) hf
    · refine zs_k hC dX12_isDigit_18 ?_
      refine zs_goto hC dX12_isDigit_19 ?_
      exact zs_zretK hC hret dX12_isDigit_23 (by decide) hf
set_option maxRecDepth 20000 in
set_option maxHeartbeats 4000000 in
theorem ctX12_isDigit {E : zEV} {F : Nat} {μ : zMem} {out : zR} (hf : fX12_isDigit F μ = some out) : zCt E yX12_isDigit cX12_isDigit 1 (some .boolean) 1 [.ref 60] μ out :=
  zCt.of [some (.ref 60)] (by decide +kernel) (Nat.le_of_ble_eq_true rfl) (zLw_s zLw_0) rfl (fun X hE ho hr hC => by
    subst hE; subst ho
    exact wX12_isDigit hC hr hf)
/-! X12_wrongAt -/
def fX12_wrongAt (F : Nat) (v1 : Int32) (v2 : Int32) (μ : zMem) : Option zR :=
  zLt (zUp μ 60 12 (((-1000 : Int32) * v1) - v2)) (fun m1 => some ((nI 0), m1))
set_option maxRecDepth 20000 in
set_option maxHeartbeats 4000000 in
theorem wX12_wrongAt {X : zX} {F : Nat} (hC : zCx X RX12 cX12_wrongAt 3 0) (hret : zRt X (some .boolean)) {v1 : Int32} {v2 : Int32} {μ : zMem} (hf : fX12_wrongAt F v1 v2 μ = some (zOut X)) : zAW X 0 [some (.ref 60), some (.int v1), some (.int v2)] [] μ := by
  unfold fX12_wrongAt at hf
  refine zs_al hC dX12_wrongAt_0 rfl ?_
  refine zs_k hC dX12_wrongAt_1 ?_
  refine zs_il hC dX12_wrongAt_4 rfl ?_
  refine zs_imul hC dX12_wrongAt_5 ?_
  refine zs_il hC dX12_wrongAt_6 rfl ?_
  refine zs_isub hC dX12_wrongAt_7 ?_
  refine zs_putI hC fl_RX12_123 fp_12_12 zL60 rfl dX12_wrongAt_8 ?_
  refine zs_let (fun m1 _ hf => ?_) hf
  refine zs_k hC dX12_wrongAt_11 ?_
  exact zs_zretK hC hret dX12_wrongAt_12 (by decide) hf
set_option maxRecDepth 20000 in
set_option maxHeartbeats 4000000 in
theorem ctX12_wrongAt {E : zEV} {F : Nat} {v1 : Int32} {v2 : Int32} {μ : zMem} {out : zR} (hf : fX12_wrongAt F v1 v2 μ = some out) : zCt E yX12_wrongAt cX12_wrongAt 3 (some .boolean) 0 [.ref 60, .int v1, .int v2] μ out :=
  zCt.of [some (.ref 60), some (.int v1), some (.int v2)] (by decide +kernel) (Nat.le_of_ble_eq_true rfl) (zLw_s (zLw_s (zLw_s zLw_0))) rfl (fun X hE ho hr hC => by
    subst hE; subst ho
    exact wX12_wrongAt hC hr hf)
/-! X12_takes -/
def fX12_takes (F : Nat) (v1 : Int32) (μ : zMem) : Option zR :=
  zBd (fX12_here F μ) (fun r1 m1 => if r1 = v1 then zLt (zUp m1 60 10 ((m1 60 10) + (nI 1))) (fun m3 => some ((nI 1), m3)) else zBd (fX12_wrongAt F (nI 1) (m1 60 10) m1) (fun r5 m5 => zGb (decide (r5 = 0 ∨ r5 = 1)) (some (r5, m5))))
set_option maxRecDepth 20000 in
set_option maxHeartbeats 4000000 in
theorem wX12_takes {X : zX} {F : Nat} (hC : zCx X RX12 cX12_takes 2 1) (hret : zRt X (some .boolean)) {v1 : Int32} {μ : zMem} (hf : fX12_takes F v1 μ = some (zOut X)) : zAW X 0 [some (.ref 60), some (.int v1)] [] μ := by
  unfold fX12_takes at hf
  refine zs_al hC dX12_takes_0 rfl ?_
  refine zs_callV [] hC cw_X12_here cl_RX12_119 zL60 rfl (by decide) rfl rfl (Nat.le_of_ble_eq_true rfl) dX12_takes_1 (fun _ h => ctX12_here h) (fun r1 m1 _ hf => ?_) hf
  show zAW X 4 _ (.int r1 :: _) m1
  refine zs_il hC dX12_takes_4 rfl ?_
  refine zs_ic_eq hC dX12_takes_5 (fun _ hf => ?_) (fun _ hf => ?_) hf
  · refine zs_al hC dX12_takes_18 rfl ?_
    refine zs_al hC dX12_takes_19 rfl ?_
    refine zs_getI hC fl_RX12_113 zL60 rfl dX12_takes_20 ?_
    refine zs_k hC dX12_takes_23 ?_
    refine zs_iadd hC dX12_takes_24 ?_
    refine zs_putI hC fl_RX12_113 fp_12_10 zL60 rfl dX12_takes_25 ?_
    refine zs_let (fun m3 _ hf => ?_) hf
    refine zs_k hC dX12_takes_28 ?_
    exact zs_zretK hC hret dX12_takes_29 (by decide) hf
  · refine zs_al hC dX12_takes_8 rfl ?_
    refine zs_k hC dX12_takes_9 ?_
    refine zs_al hC dX12_takes_10 rfl ?_
    refine zs_getI hC fl_RX12_113 zL60 rfl dX12_takes_11 ?_
    refine zs_callV [.int (nI 1), .int (m1 60 10)] hC cw_X12_wrongAt cl_RX12_126 zL60 rfl (by decide) rfl rfl (Nat.le_of_ble_eq_true rfl) dX12_takes_14 (fun _ h => ctX12_wrongAt h) (fun r5 m5 _ hf => ?_) hf
    show zAW X 17 _ (.int r5 :: _) m5
    exact zs_zret hC hret dX12_takes_17 hf
set_option maxRecDepth 20000 in
set_option maxHeartbeats 4000000 in
theorem ctX12_takes {E : zEV} {F : Nat} {v1 : Int32} {μ : zMem} {out : zR} (hf : fX12_takes F v1 μ = some out) : zCt E yX12_takes cX12_takes 2 (some .boolean) 1 [.ref 60, .int v1] μ out :=
  zCt.of [some (.ref 60), some (.int v1)] (by decide +kernel) (Nat.le_of_ble_eq_true rfl) (zLw_s (zLw_s zLw_0)) rfl (fun X hE ho hr hC => by
    subst hE; subst ho
    exact wX12_takes hC hr hf)
/-! X12_readsNumber -/
def fX12_readsNumber_10 (F : Nat) : Nat → Int32 → zMem → Option zR
  | 0, _, _ => none
  | n + 1, v1, μ => zBd (fX12_isDigit F μ) (fun r1 m1 => if r1 = 0 then some ((nI 1), m1) else if (m1 60 10) = (v1 + (nI 5)) then zBd (fX12_wrongAt F (nI 2) (m1 60 10) m1) (fun r4 m4 => zGb (decide (r4 = 0 ∨ r4 = 1)) (some (r4, m4))) else zBd (fX12_here F m1) (fun r6 m6 => zLt (zUp m6 60 13 ((((nI 10) * (m1 60 13)) + r6) - (nI 48))) (fun m7 => zLt (zUp m7 60 10 ((m7 60 10) + (nI 1))) (fun m9 => fX12_readsNumber_10 F n v1 m9))))
def fX12_readsNumber (F : Nat) (μ : zMem) : Option zR :=
  zLt (zUp μ 60 13 (nI 0)) (fun m2 => fX12_readsNumber_10 F F (μ 60 10) m2)
set_option maxRecDepth 20000 in
set_option maxHeartbeats 4000000 in
theorem wX12_readsNumber_10 {X : zX} {F : Nat} (hC : zCx X RX12 cX12_readsNumber 2 2) (hret : zRt X (some .boolean)) : ∀ (n : Nat) (v1 : Int32) (μ : zMem), fX12_readsNumber_10 F n v1 μ = some (zOut X) → zAW X 10 [some (.ref 60), some (.int v1)] [] μ := by
  intro n
  induction n with
  | zero =>
    intro v1 μ hf
    rw [fX12_readsNumber_10] at hf
    cases hf
  | succ n ih =>
    intro v1 μ hf
    rw [fX12_readsNumber_10] at hf
    refine zs_al hC dX12_readsNumber_10 rfl ?_
    refine zs_callV [] hC cw_X12_isDigit cl_RX12_133 zL60 rfl (by decide) rfl rfl (Nat.le_of_ble_eq_true rfl) dX12_readsNumber_11 (fun _ h => ctX12_isDigit h) (fun r1 m1 _ hf => ?_) hf
    show zAW X 14 _ (.int r1 :: _) m1
    refine zs_if_eq hC dX12_readsNumber_14 (fun _ hf => ?_) (fun _ hf => ?_) hf
    · refine zs_k hC dX12_readsNumber_69 ?_
      exact zs_zretK hC hret dX12_readsNumber_70 (by decide) hf
    · refine zs_al hC dX12_readsNumber_17 rfl ?_
      refine zs_getI hC fl_RX12_113 zL60 rfl dX12_readsNumber_18 ?_
      refine zs_il hC dX12_readsNumber_21 rfl ?_
      refine zs_k hC dX12_readsNumber_22 ?_
      refine zs_iadd hC dX12_readsNumber_23 ?_
      refine zs_ic_ne hC dX12_readsNumber_24 (fun _ hf => ?_) (fun _ hf => ?_) hf
      · refine zs_al hC dX12_readsNumber_27 rfl ?_
        refine zs_k hC dX12_readsNumber_28 ?_
        refine zs_al hC dX12_readsNumber_29 rfl ?_
        refine zs_getI hC fl_RX12_113 zL60 rfl dX12_readsNumber_30 ?_
        refine zs_callV [.int (nI 2), .int (m1 60 10)] hC cw_X12_wrongAt cl_RX12_126 zL60 rfl (by decide) rfl rfl (Nat.le_of_ble_eq_true rfl) dX12_readsNumber_33 (fun _ h => ctX12_wrongAt h) (fun r4 m4 _ hf => ?_) hf
        show zAW X 36 _ (.int r4 :: _) m4
        exact zs_zret hC hret dX12_readsNumber_36 hf
      · refine zs_al hC dX12_readsNumber_37 rfl ?_
        refine zs_k hC dX12_readsNumber_38 ?_
        refine zs_al hC dX12_readsNumber_40 rfl ?_
        refine zs_getI hC fl_RX12_130 zL60 rfl dX12_readsNumber_41 ?_
        refine zs_imul hC dX12_readsNumber_44 ?_
        refine zs_al hC dX12_readsNumber_45 rfl ?_
        refine zs_callV [] hC cw_X12_here cl_RX12_119 zL60 rfl (by decide) rfl rfl (Nat.le_of_ble_eq_true rfl) dX12_readsNumber_46 (fun _ h => ctX12_here h) (fun r6 m6 _ hf => ?_) hf
        show zAW X 49 _ (.int r6 :: _) m6
        refine zs_iadd hC dX12_readsNumber_49 ?_
        refine zs_k hC dX12_readsNumber_50 ?_
        refine zs_isub hC dX12_readsNumber_52 ?_
        refine zs_putI hC fl_RX12_130 fp_12_13 zL60 rfl dX12_readsNumber_53 ?_
        refine zs_let (fun m7 _ hf => ?_) hf
        refine zs_al hC dX12_readsNumber_56 rfl ?_
        refine zs_al hC dX12_readsNumber_57 rfl ?_
        refine zs_getI hC fl_RX12_113 zL60 rfl dX12_readsNumber_58 ?_
        refine zs_k hC dX12_readsNumber_61 ?_
        refine zs_iadd hC dX12_readsNumber_62 ?_
        refine zs_putI hC fl_RX12_113 fp_12_10 zL60 rfl dX12_readsNumber_63 ?_
        refine zs_let (fun m9 _ hf => ?_) hf
        refine zs_goto hC dX12_readsNumber_66 ?_
        exact zAW.weak (ih _ _ hf) (zLw_s (zLw_s zLw_0))
set_option maxRecDepth 20000 in
set_option maxHeartbeats 4000000 in
theorem wX12_readsNumber {X : zX} {F : Nat} (hC : zCx X RX12 cX12_readsNumber 2 2) (hret : zRt X (some .boolean)) {μ : zMem} (hf : fX12_readsNumber F μ = some (zOut X)) : zAW X 0 [some (.ref 60), none] [] μ := by
  unfold fX12_readsNumber at hf
  refine zs_al hC dX12_readsNumber_0 rfl ?_
  refine zs_getI hC fl_RX12_113 zL60 rfl dX12_readsNumber_1 ?_
  refine zs_is hC dX12_readsNumber_4 (by decide) rfl ?_
  refine zs_al hC dX12_readsNumber_5 rfl ?_
  refine zs_k hC dX12_readsNumber_6 ?_
  refine zs_putI hC fl_RX12_130 fp_12_13 zL60 rfl dX12_readsNumber_7 ?_
  refine zs_let (fun m2 _ hf => ?_) hf
  exact zAW.weak (wX12_readsNumber_10 hC hret F _ _ hf) (zLw_s (zLw_s zLw_0))
set_option maxRecDepth 20000 in
set_option maxHeartbeats 4000000 in
theorem ctX12_readsNumber {E : zEV} {F : Nat} {μ : zMem} {out : zR} (hf : fX12_readsNumber F μ = some out) : zCt E yX12_readsNumber cX12_readsNumber 2 (some .boolean) 2 [.ref 60] μ out :=
  zCt.of [some (.ref 60), none] (by decide +kernel) (Nat.le_of_ble_eq_true rfl) (zLw_s (zLw_e zLw_0)) rfl (fun X hE ho hr hC => by
    subst hE; subst ho
    exact wX12_readsNumber hC hr hf)
/-! X12_notes -/
def fX12_notes (F : Nat) (v1 : Int32) (v2 : Int32) (μ : zMem) : Option zR :=
  zG (μ 60 15) 260 (zLt (zUp μ 69 (μ 60 15).toNatClampNeg (((nI 1048576) * v1) + v2)) (fun m3 => zLt (zUp m3 60 15 ((m3 60 15) + (nI 1))) (fun m5 => some ((nI 0), m5))))
set_option maxRecDepth 20000 in
set_option maxHeartbeats 4000000 in
theorem wX12_notes {X : zX} {F : Nat} (hC : zCx X RX12 cX12_notes 3 0) (hret : zRt X none) {v1 : Int32} {v2 : Int32} {μ : zMem} (hf : fX12_notes F v1 v2 μ = some (zOut X)) : zAW X 0 [some (.ref 60), some (.int v1), some (.int v2)] [] μ := by
  unfold fX12_notes at hf
  refine zs_al hC dX12_notes_0 rfl ?_
  refine zs_getR 69 hC fl_RX12_35 zL60 rfl dX12_notes_1 ?_
  refine zs_al hC dX12_notes_4 rfl ?_
  refine zs_getI hC fl_RX12_137 zL60 rfl dX12_notes_5 ?_
  refine zs_ldc hC kc_RX12_140 dX12_notes_8 ?_
  refine zs_il hC dX12_notes_10 rfl ?_
  refine zs_imul hC dX12_notes_11 ?_
  refine zs_il hC dX12_notes_12 rfl ?_
  refine zs_iadd hC dX12_notes_13 ?_
  refine zs_iast hC zL69 dX12_notes_14 (fun _ hf => ?_) hf
  refine zs_let (fun m3 _ hf => ?_) hf
  refine zs_al hC dX12_notes_15 rfl ?_
  refine zs_al hC dX12_notes_16 rfl ?_
  refine zs_getI hC fl_RX12_137 zL60 rfl dX12_notes_17 ?_
  refine zs_k hC dX12_notes_20 ?_
  refine zs_iadd hC dX12_notes_21 ?_
  refine zs_putI hC fl_RX12_137 fp_12_15 zL60 rfl dX12_notes_22 ?_
  refine zs_let (fun m5 _ hf => ?_) hf
  exact zs_vret hC hret dX12_notes_25 hf
set_option maxRecDepth 20000 in
set_option maxHeartbeats 4000000 in
theorem ctX12_notes {E : zEV} {F : Nat} {v1 : Int32} {v2 : Int32} {μ : zMem} {out : zR} (hf : fX12_notes F v1 v2 μ = some out) : zCt E yX12_notes cX12_notes 3 none 0 [.ref 60, .int v1, .int v2] μ out :=
  zCt.of [some (.ref 60), some (.int v1), some (.int v2)] (by decide +kernel) (Nat.le_of_ble_eq_true rfl) (zLw_s (zLw_s (zLw_s zLw_0))) rfl (fun X hE ho hr hC => by
    subst hE; subst ho
    exact wX12_notes hC hr hf)
/-! X12_opens -/
def fX12_opens (F : Nat) (v1 : Int32) (μ : zMem) : Option zR :=
  if (μ 60 14) = (nI 6) then zBd (fX12_wrongAt F (nI 5) (μ 60 10) μ) (fun r3 m3 => zGb (decide (r3 = 0 ∨ r3 = 1)) (some (r3, m3))) else zLt (zUp μ 60 14 ((μ 60 14) + (nI 1))) (fun m5 => zG (m5 60 16) 260 (zLt (zUp m5 70 (m5 60 16).toNatClampNeg ((nI 1048576) * v1)) (fun m8 => zLt (zUp m8 60 16 ((m8 60 16) + (nI 1))) (fun m10 => zLt (zUp m10 60 10 ((m10 60 10) + (nI 1))) (fun m12 => some ((nI 1), m12))))))
set_option maxRecDepth 20000 in
set_option maxHeartbeats 4000000 in
theorem wX12_opens {X : zX} {F : Nat} (hC : zCx X RX12 cX12_opens 2 1) (hret : zRt X (some .boolean)) {v1 : Int32} {μ : zMem} (hf : fX12_opens F v1 μ = some (zOut X)) : zAW X 0 [some (.ref 60), some (.int v1)] [] μ := by
  unfold fX12_opens at hf
  refine zs_al hC dX12_opens_0 rfl ?_
  refine zs_getI hC fl_RX12_141 zL60 rfl dX12_opens_1 ?_
  refine zs_k hC dX12_opens_4 ?_
  refine zs_ic_ne hC dX12_opens_6 (fun _ hf => ?_) (fun _ hf => ?_) hf
  · refine zs_al hC dX12_opens_9 rfl ?_
    refine zs_k hC dX12_opens_10 ?_
    refine zs_al hC dX12_opens_11 rfl ?_
    refine zs_getI hC fl_RX12_113 zL60 rfl dX12_opens_12 ?_
    refine zs_callV [.int (nI 5), .int (μ 60 10)] hC cw_X12_wrongAt cl_RX12_126 zL60 rfl (by decide) rfl rfl (Nat.le_of_ble_eq_true rfl) dX12_opens_15 (fun _ h => ctX12_wrongAt h) (fun r3 m3 _ hf => ?_) hf
    show zAW X 18 _ (.int r3 :: _) m3
    exact zs_zret hC hret dX12_opens_18 hf
  · refine zs_al hC dX12_opens_19 rfl ?_
    refine zs_al hC dX12_opens_20 rfl ?_
    refine zs_getI hC fl_RX12_141 zL60 rfl dX12_opens_21 ?_
    refine zs_k hC dX12_opens_24 ?_
    refine zs_iadd hC dX12_opens_25 ?_
    refine zs_putI hC fl_RX12_141 fp_12_14 zL60 rfl dX12_opens_26 ?_
    refine zs_let (fun m5 _ hf => ?_) hf
    refine zs_al hC dX12_opens_29 rfl ?_
    refine zs_getR 70 hC fl_RX12_38 zL60 rfl dX12_opens_30 ?_
    refine zs_al hC dX12_opens_33 rfl ?_
    refine zs_getI hC fl_RX12_144 zL60 rfl dX12_opens_34 ?_
    refine zs_ldc hC kc_RX12_140 dX12_opens_37 ?_
    refine zs_il hC dX12_opens_39 rfl ?_
    refine zs_imul hC dX12_opens_40 ?_
    refine zs_iast hC zL70 dX12_opens_41 (fun _ hf => ?_) hf
    refine zs_let (fun m8 _ hf => ?_) hf
    refine zs_al hC dX12_opens_42 rfl ?_
    refine zs_al hC dX12_opens_43 rfl ?_
    refine zs_getI hC fl_RX12_144 zL60 rfl dX12_opens_44 ?_
    refine zs_k hC dX12_opens_47 ?_
    refine zs_iadd hC dX12_opens_48 ?_
    refine zs_putI hC fl_RX12_144 fp_12_16 zL60 rfl dX12_opens_49 ?_
    refine zs_let (fun m10 _ hf => ?_) hf
    refine zs_al hC dX12_opens_52 rfl ?_
    refine zs_al hC dX12_opens_53 rfl ?_
    refine zs_getI hC fl_RX12_113 zL60 rfl dX12_opens_54 ?_
    refine zs_k hC dX12_opens_57 ?_
    refine zs_iadd hC dX12_opens_58 ?_
    refine zs_putI hC fl_RX12_113 fp_12_10 zL60 rfl dX12_opens_59 ?_
    refine zs_let (fun m12 _ hf => ?_) hf
    refine zs_k hC dX12_opens_62 ?_
    exact zs_zretK hC hret dX12_opens_63 (by decide) hf
set_option maxRecDepth 20000 in
set_option maxHeartbeats 4000000 in
theorem ctX12_opens {E : zEV} {F : Nat} {v1 : Int32} {μ : zMem} {out : zR} (hf : fX12_opens F v1 μ = some out) : zCt E yX12_opens cX12_opens 2 (some .boolean) 1 [.ref 60, .int v1] μ out :=
  zCt.of [some (.ref 60), some (.int v1)] (by decide +kernel) (Nat.le_of_ble_eq_true rfl) (zLw_s (zLw_s zLw_0)) rfl (fun X hE ho hr hC => by
    subst hE; subst ho
    exact wX12_opens hC hr hf)
/-! X12_waitTop -/
def fX12_waitTop (F : Nat) (μ : zMem) : Option zR :=
  if (μ 60 16) = 0 then some ((-1 : Int32), μ) else zG ((μ 60 16) - (nI 1)) 260 (zGz (nI 1048576) (some (((μ 70 ((μ 60 16) - (nI 1)).toNatClampNeg) / (nI 1048576)), μ)))
set_option maxRecDepth 20000 in
set_option maxHeartbeats 4000000 in
theorem wX12_waitTop {X : zX} {F : Nat} (hC : zCx X RX12 cX12_waitTop 1 0) (hret : zRt X (some .int)) {μ : zMem} (hf : fX12_waitTop F μ = some (zOut X)) : zAW X 0 [some (.ref 60)] [] μ := by
  unfold fX12_waitTop at hf
  refine zs_al hC dX12_waitTop_0 rfl ?_
  refine zs_getI hC fl_RX12_144 zL60 rfl dX12_waitTop_1 ?_
  refine zs_if_ne hC dX12_waitTop_4 (fun _ hf => ?_) (fun _ hf => ?_) hf
  · refine zs_k hC dX12_waitTop_7 ?_
    refine zs_goto hC dX12_waitTop_8 ?_
    exact zs_iret hC hret dX12_waitTop_25 hf
  · refine zs_al hC dX12_waitTop_11 rfl ?_
    refine zs_getR 70 hC fl_RX12_38 zL60 rfl dX12_waitTop_12 ?_
    refine zs_al hC dX12_waitTop_15 rfl ?_
    refine zs_getI hC fl_RX12_144 zL60 rfl dX12_waitTop_16 ?_
    refine zs_k hC dX12_waitTop_19 ?_
    refine zs_isub hC dX12_waitTop_20 ?_
    refine zs_iald hC zL70 dX12_waitTop_21 (fun _ hf => ?_) hf
    refine zs_ldc hC kc_RX12_140 dX12_waitTop_22 ?_
    refine zs_idiv hC dX12_waitTop_24 (fun _ hf => ?_) hf
    exact zs_iret hC hret dX12_waitTop_25 hf
set_option maxRecDepth 20000 in
set_option maxHeartbeats 4000000 in
theorem ctX12_waitTop {E : zEV} {F : Nat} {μ : zMem} {out : zR} (hf : fX12_waitTop F μ = some out) : zCt E yX12_waitTop cX12_waitTop 1 (some .int) 0 [.ref 60] μ out :=
  zCt.of [some (.ref 60)] (by decide +kernel) (Nat.le_of_ble_eq_true rfl) (zLw_s zLw_0) rfl (fun X hE ho hr hC => by
    subst hE; subst ho
    exact wX12_waitTop hC hr hf)
/-! X12_factOf -/
def fX12_factOf (F : Nat) (v0 : Int32) (μ : zMem) : Option zR :=
  (if v0 = (nI 98) then some ((nI 5), μ) else if v0 = (nI 99) then some ((nI 8), μ) else if v0 = (nI 100) then some ((nI 6), μ) else if v0 = (nI 101) then some ((-1 : Int32), μ) else if v0 = (nI 102) then some ((-1 : Int32), μ) else if v0 = (nI 103) then some ((-1 : Int32), μ) else if v0 = (nI 104) then some ((-1 : Int32), μ) else if v0 = (nI 105) then some ((-1 : Int32), μ) else if v0 = (nI 106) then some ((-1 : Int32), μ) else if v0 = (nI 107) then some ((nI 1), μ) else if v0 = (nI 108) then some ((-1 : Int32), μ) else if v0 = (nI 109) then some ((-1 : Int32), μ) else if v0 = (nI 110) then some ((nI 2), μ) else if v0 = (nI 111) then some ((nI 3), μ) else if v0 = (nI 112) then some ((nI 0), μ) else if v0 = (nI 113) then some ((-1 : Int32), μ) else if v0 = (nI 114) then some ((-1 : Int32), μ) else if v0 = (nI 115) then some ((-1 : Int32), μ) else if v0 = (nI 116) then some ((-1 : Int32), μ) else if v0 = (nI 117) then some ((nI 4), μ) else if v0 = (nI 118) then some ((-1 : Int32), μ) else if v0 = (nI 119) then some ((nI 7), μ) else some ((-1 : Int32), μ))
set_option maxRecDepth 20000 in
set_option maxHeartbeats 4000000 in
theorem wX12_factOf {X : zX} {F : Nat} (hC : zCx X RX12 cX12_factOf 1 0) (hret : zRt X (some .int)) {v0 : Int32} {μ : zMem} (hf : fX12_factOf F v0 μ = some (zOut X)) : zAW X 0 [some (.int v0)] [] μ := by
  unfold fX12_factOf at hf
  refine zs_il hC dX12_factOf_0 rfl ?_
  refine zs_case (nI 98) (fun hx hf => ?_) (fun e1_98 hf => ?_) hf
  · refine zs_tabI (off := 113) (tgt := 114) hC hx dX12_factOf_1 (by decide) (by decide) rfl (by decide) ?_
    refine zs_k hC dX12_factOf_114 ?_
    exact zs_iret hC hret dX12_factOf_115 hf
  refine zs_case (nI 99) (fun hx hf => ?_) (fun e1_99 hf => ?_) hf
  · refine zs_tabI (off := 121) (tgt := 122) hC hx dX12_factOf_1 (by decide) (by decide) rfl (by decide) ?_
    refine zs_k hC dX12_factOf_122 ?_
    exact zs_iret hC hret dX12_factOf_124 hf
  refine zs_case (nI 100) (fun hx hf => ?_) (fun e1_100 hf => ?_) hf
  · refine zs_tabI (off := 115) (tgt := 116) hC hx dX12_factOf_1 (by decide) (by decide) rfl (by decide) ?_
    refine zs_k hC dX12_factOf_116 ?_
    exact zs_iret hC hret dX12_factOf_118 hf
  refine zs_case (nI 101) (fun hx hf => ?_) (fun e1_101 hf => ?_) hf
  · refine zs_tabI (off := 124) (tgt := 125) hC hx dX12_factOf_1 (by decide) (by decide) rfl (by decide) ?_
    refine zs_k hC dX12_factOf_125 ?_
    exact zs_iret hC hret dX12_factOf_126 hf
  refine zs_case (nI 102) (fun hx hf => ?_) (fun e1_102 hf => ?_) hf
  · refine zs_tabI (off := 124) (tgt := 125) hC hx dX12_factOf_1 (by decide) (by decide) rfl (by decide) ?_
    refine zs_k hC dX12_factOf_125 ?_
    exact zs_iret hC hret dX12_factOf_126 hf
  refine zs_case (nI 103) (fun hx hf => ?_) (fun e1_103 hf => ?_) hf
  · refine zs_tabI (off := 124) (tgt := 125) hC hx dX12_factOf_1 (by decide) (by decide) rfl (by decide) ?_
    refine zs_k hC dX12_factOf_125 ?_
    exact zs_iret hC hret dX12_factOf_126 hf
  refine zs_case (nI 104) (fun hx hf => ?_) (fun e1_104 hf => ?_) hf
  · refine zs_tabI (off := 124) (tgt := 125) hC hx dX12_factOf_1 (by decide) (by decide) rfl (by decide) ?_
    refine zs_k hC dX12_factOf_125 ?_
    exact zs_iret hC hret dX12_factOf_126 hf
  refine zs_case (nI 105) (fun hx hf => ?_) (fun e1_105 hf => ?_) hf
  · refine zs_tabI (off := 124) (tgt := 125) hC hx dX12_factOf_1 (by decide) (by decide) rfl (by decide) ?_
    refine zs_k hC dX12_factOf_125 ?_
    exact zs_iret hC hret dX12_factOf_126 hf
  refine zs_case (nI 106) (fun hx hf => ?_) (fun e1_106 hf => ?_) hf
  · refine zs_tabI (off := 124) (tgt := 125) hC hx dX12_factOf_1 (by decide) (by decide) rfl (by decide) ?_
    refine zs_k hC dX12_factOf_125 ?_
    exact zs_iret hC hret dX12_factOf_126 hf
  refine zs_case (nI 107) (fun hx hf => ?_) (fun e1_107 hf => ?_) hf
  · refine zs_tabI (off := 105) (tgt := 106) hC hx dX12_factOf_1 (by decide) (by decide) rfl (by decide) ?_
    refine zs_k hC dX12_factOf_106 ?_
    exact zs_iret hC hret dX12_factOf_107 hf
  refine zs_case (nI 108) (fun hx hf => ?_) (fun e1_108 hf => ?_) hf
  · refine zs_tabI (off := 124) (tgt := 125) hC hx dX12_factOf_1 (by decide) (by decide) rfl (by decide) ?_
    refine zs_k hC dX12_factOf_125 ?_
    exact zs_iret hC hret dX12_factOf_126 hf
  refine zs_case (nI 109) (fun hx hf => ?_) (fun e1_109 hf => ?_) hf
  · refine zs_tabI (off := 124) (tgt := 125) hC hx dX12_factOf_1 (by decide) (by decide) rfl (by decide) ?_
    refine zs_k hC dX12_factOf_125 ?_
    exact zs_iret hC hret dX12_factOf_126 hf
  refine zs_case (nI 110) (fun hx hf => ?_) (fun e1_110 hf => ?_) hf
  · refine zs_tabI (off := 107) (tgt := 108) hC hx dX12_factOf_1 (by decide) (by decide) rfl (by decide) ?_
    refine zs_k hC dX12_factOf_108 ?_
    exact zs_iret hC hret dX12_factOf_109 hf
  refine zs_case (nI 111) (fun hx hf => ?_) (fun e1_111 hf => ?_) hf
  · refine zs_tabI (off := 109) (tgt := 110) hC hx dX12_factOf_1 (by decide) (by decide) rfl (by decide) ?_
    refine zs_k hC dX12_factOf_110 ?_
    exact zs_iret hC hret dX12_factOf_111 hf
  refine zs_case (nI 112) (fun hx hf => ?_) (fun e1_112 hf => ?_) hf
  · refine zs_tabI (off := 103) (tgt := 104) hC hx dX12_factOf_1 (by decide) (by decide) rfl (by decide) ?_
    refine zs_k hC dX12_factOf_104 ?_
    exact zs_iret hC hret dX12_factOf_105 hf
  refine zs_case (nI 113) (fun hx hf => ?_) (fun e1_113 hf => ?_) hf
  · refine zs_tabI (off := 124) (tgt := 125) hC hx dX12_factOf_1 (by decide) (by decide) rfl (by decide) ?_
    refine zs_k hC dX12_factOf_125 ?_
    exact zs_iret hC hret dX12_factOf_126 hf
  refine zs_case (nI 114) (fun hx hf => ?_) (fun e1_114 hf => ?_) hf
  · refine zs_tabI (off := 124) (tgt := 125) hC hx dX12_factOf_1 (by decide) (by decide) rfl (by decide) ?_
    refine zs_k hC dX12_factOf_125 ?_
    exact zs_iret hC hret dX12_factOf_126 hf
  refine zs_case (nI 115) (fun hx hf => ?_) (fun e1_115 hf => ?_) hf
  · refine zs_tabI (off := 124) (tgt := 125) hC hx dX12_factOf_1 (by decide) (by decide) rfl (by decide) ?_
    refine zs_k hC dX12_factOf_125 ?_
    exact zs_iret hC hret dX12_factOf_126 hf
  refine zs_case (nI 116) (fun hx hf => ?_) (fun e1_116 hf => ?_) hf
  · refine zs_tabI (off := 124) (tgt := 125) hC hx dX12_factOf_1 (by decide) (by decide) rfl (by decide) ?_
    refine zs_k hC dX12_factOf_125 ?_
    exact zs_iret hC hret dX12_factOf_126 hf
  refine zs_case (nI 117) (fun hx hf => ?_) (fun e1_117 hf => ?_) hf
  · refine zs_tabI (off := 111) (tgt := 112) hC hx dX12_factOf_1 (by decide) (by decide) rfl (by decide) ?_
    refine zs_k hC dX12_factOf_112 ?_
    exact zs_iret hC hret dX12_factOf_113 hf
  refine zs_case (nI 118) (fun hx hf => ?_) (fun e1_118 hf => ?_) hf
  · refine zs_tabI (off := 124) (tgt := 125) hC hx dX12_factOf_1 (by decide) (by decide) rfl (by decide) ?_
    refine zs_k hC dX12_factOf_125 ?_
    exact zs_iret hC hret dX12_factOf_126 hf
  refine zs_case (nI 119) (fun hx hf => ?_) (fun e1_119 hf => ?_) hf
  · refine zs_tabI (off := 118) (tgt := 119) hC hx dX12_factOf_1 (by decide) (by decide) rfl (by decide) ?_
    refine zs_k hC dX12_factOf_119 ?_
    exact zs_iret hC hret dX12_factOf_121 hf
  have e1_98 := lv_neT (a := 98) e1_98 (by decide)
  have e1_99 := lv_neT (a := 99) e1_99 (by decide)
  have e1_100 := lv_neT (a := 100) e1_100 (by decide)
  have e1_101 := lv_neT (a := 101) e1_101 (by decide)
  have e1_102 := lv_neT (a := 102) e1_102 (by decide)
  have e1_103 := lv_neT (a := 103) e1_103 (by decide)
  have e1_104 := lv_neT (a := 104) e1_104 (by decide)
  have e1_105 := lv_neT (a := 105) e1_105 (by decide)
  have e1_106 := lv_neT (a := 106) e1_106 (by decide)
  have e1_107 := lv_neT (a := 107) e1_107 (by decide)
  have e1_108 := lv_neT (a := 108) e1_108 (by decide)
  have e1_109 := lv_neT (a := 109) e1_109 (by decide)
  have e1_110 := lv_neT (a := 110) e1_110 (by decide)
  have e1_111 := lv_neT (a := 111) e1_111 (by decide)
  have e1_112 := lv_neT (a := 112) e1_112 (by decide)
  have e1_113 := lv_neT (a := 113) e1_113 (by decide)
  have e1_114 := lv_neT (a := 114) e1_114 (by decide)
  have e1_115 := lv_neT (a := 115) e1_115 (by decide)
  have e1_116 := lv_neT (a := 116) e1_116 (by decide)
  have e1_117 := lv_neT (a := 117) e1_117 (by decide)
  have e1_118 := lv_neT (a := 118) e1_118 (by decide)
  have e1_119 := lv_neT (a := 119) e1_119 (by decide)
  refine zs_tabO (tgt := 125) hC dX12_factOf_1 (by omega) (by decide) ?_
  refine zs_k hC dX12_factOf_125 ?_
  exact zs_iret hC hret dX12_factOf_126 hf
set_option maxRecDepth 20000 in
set_option maxHeartbeats 4000000 in
theorem ctX12_factOf {E : zEV} {F : Nat} {v0 : Int32} {μ : zMem} {out : zR} (hf : fX12_factOf F v0 μ = some out) : zCt E yX12_factOf cX12_factOf 1 (some .int) 0 [.int v0] μ out :=
  zCt.of [some (.int v0)] (by decide +kernel) (Nat.le_of_ble_eq_true rfl) (zLw_s zLw_0) rfl (fun X hE ho hr hC => by
    subst hE; subst ho
    exact wX12_factOf hC hr hf)
/-! X12_sumSign -/
def fX12_sumSign (F : Nat) (v0 : Int32) (μ : zMem) : Option zR :=
  if v0 = (nI 43) then some ((nI 2), μ) else if v0 = (nI 45) then some ((nI 3), μ) else if v0 = (nI 42) then some ((nI 4), μ) else if v0 = (nI 47) then some ((nI 5), μ) else if v0 = (nI 37) then some ((nI 6), μ) else some ((-1 : Int32), μ)
set_option maxRecDepth 20000 in
set_option maxHeartbeats 4000000 in
theorem wX12_sumSign {X : zX} {F : Nat} (hC : zCx X RX12 cX12_sumSign 1 0) (hret : zRt X (some .int)) {v0 : Int32} {μ : zMem} (hf : fX12_sumSign F v0 μ = some (zOut X)) : zAW X 0 [some (.int v0)] [] μ := by
  unfold fX12_sumSign at hf
  refine zs_il hC dX12_sumSign_0 rfl ?_
  refine zs_k hC dX12_sumSign_1 ?_
  refine zs_ic_ne hC dX12_sumSign_3 (fun _ hf => ?_) (fun _ hf => ?_) hf
  · refine zs_k hC dX12_sumSign_6 ?_
    refine zs_goto hC dX12_sumSign_7 ?_
    exact zs_iret hC hret dX12_sumSign_52 hf
  · refine zs_il hC dX12_sumSign_10 rfl ?_
    refine zs_k hC dX12_sumSign_11 ?_
    refine zs_ic_ne hC dX12_sumSign_13 (fun _ hf => ?_) (fun _ hf => ?_) hf
    · refine zs_k hC dX12_sumSign_16 ?_
      refine zs_goto hC dX12_sumSign_17 ?_
      exact zs_iret hC hret dX12_sumSign_52 hf
    · refine zs_il hC dX12_sumSign_20 rfl ?_
      refine zs_k hC dX12_sumSign_21 ?_
      refine zs_ic_ne hC dX12_sumSign_23 (fun _ hf => ?_) (fun _ hf => ?_) hf
      · refine zs_k hC dX12_sumSign_26 ?_
        refine zs_goto hC dX12_sumSign_27 ?_
        exact zs_iret hC hret dX12_sumSign_52 hf
      · refine zs_il hC dX12_sumSign_30 rfl ?_
        refine zs_k hC dX12_sumSign_31 ?_
        refine zs_ic_ne hC dX12_sumSign_33 (fun _ hf => ?_) (fun _ hf => ?_) hf
        · refine zs_k hC dX12_sumSign_36 ?_
          refine zs_goto hC dX12_sumSign_37 ?_
          exact zs_iret hC hret dX12_sumSign_52 hf
        · refine zs_il hC dX12_sumSign_40 rfl ?_
          refine zs_k hC dX12_sumSign_41 ?_
          refine zs_ic_ne hC dX12_sumSign_43 (fun _ hf => ?_) (fun _ hf => ?_) hf
          · refine zs_k hC dX12_sumSign_46 ?_
            refine zs_goto hC dX12_sumSign_48 ?_
            exact zs_iret hC hret dX12_sumSign_52 hf
          · refine zs_k hC dX12_sumSign_51 ?_
            exact zs_iret hC hret dX12_sumSign_52 hf
set_option maxRecDepth 20000 in
set_option maxHeartbeats 4000000 in
theorem ctX12_sumSign {E : zEV} {F : Nat} {v0 : Int32} {μ : zMem} {out : zR} (hf : fX12_sumSign F v0 μ = some out) : zCt E yX12_sumSign cX12_sumSign 1 (some .int) 0 [.int v0] μ out :=
  zCt.of [some (.int v0)] (by decide +kernel) (Nat.le_of_ble_eq_true rfl) (zLw_s zLw_0) rfl (fun X hE ho hr hC => by
    subst hE; subst ho
    exact wX12_sumSign hC hr hf)
/-! X12_closesSums -/
def fX12_closesSums_37 (F : Nat) (k0 : Int32 → zMem → Option zR) (v1 : Int32) (μ : zMem) : Option zR :=
  zBd (fX12_waitTop F μ) (fun r1 m1 => zBd (fX12_notes F r1 (nI 0) m1) (fun r2 m2 => zLt (zUp m2 60 16 ((m2 60 16) - (nI 1))) (fun m4 => k0 v1 m4)))
def fX12_closesSums_17 (F : Nat) (k0 : Int32 → zMem → Option zR) (v1 : Int32) (μ : zMem) : Option zR :=
  if v1 = 0 then some ((nI 0), μ) else zBd (fX12_waitTop F μ) (fun r1 m1 => if r1 = (nI 2) then fX12_closesSums_37 F k0 v1 m1 else zBd (fX12_waitTop F m1) (fun r2 m2 => if r2 = (nI 3) then fX12_closesSums_37 F k0 v1 m2 else some ((nI 0), m2)))
def fX12_closesSums_0 (F : Nat) : Nat → Int32 → zMem → Option zR
  | 0, _, _ => none
  | n + 1, v1, μ => zBd (fX12_waitTop F μ) (fun r1 m1 => if r1 < (nI 4) then fX12_closesSums_17 F (fX12_closesSums_0 F n) v1 m1 else zBd (fX12_waitTop F m1) (fun r2 m2 => if r2 ≤ (nI 6) then fX12_closesSums_37 F (fX12_closesSums_0 F n) v1 m2 else fX12_closesSums_17 F (fX12_closesSums_0 F n) v1 m2))
def fX12_closesSums (F : Nat) (v1 : Int32) (μ : zMem) : Option zR :=
  fX12_closesSums_0 F F v1 μ
set_option maxRecDepth 20000 in
set_option maxHeartbeats 4000000 in
theorem wX12_closesSums_37 {X : zX} {F : Nat} (hC : zCx X RX12 cX12_closesSums 2 1) (hret : zRt X none) {k0 : Int32 → zMem → Option zR} (hk0 : ∀ v1 μ, k0 v1 μ = some (zOut X) → zAW X 0 [some (.ref 60), some (.int v1)] [] μ) {v1 : Int32} {μ : zMem} (hf : fX12_closesSums_37 F k0 v1 μ = some (zOut X)) : zAW X 37 [some (.ref 60), some (.int v1)] [] μ := by
  unfold fX12_closesSums_37 at hf
  refine zs_al hC dX12_closesSums_37 rfl ?_
  refine zs_al hC dX12_closesSums_38 rfl ?_
  refine zs_callV [] hC cw_X12_waitTop cl_RX12_147 zL60 rfl (by decide) rfl rfl (Nat.le_of_ble_eq_true rfl) dX12_closesSums_39 (fun _ h => ctX12_waitTop h) (fun r1 m1 _ hf => ?_) hf
  show zAW X 42 _ (.int r1 :: _) m1
  refine zs_k hC dX12_closesSums_42 ?_
  refine zs_callV [.int r1, .int (nI 0)] hC cw_X12_notes cl_RX12_150 zL60 rfl (by decide) rfl rfl (Nat.le_of_ble_eq_true rfl) dX12_closesSums_43 (fun _ h => ctX12_notes h) (fun r2 m2 _ hf => ?_) hf
  show zAW X 46 _ _ m2
  refine zs_al hC dX12_closesSums_46 rfl ?_
  refine zs_al hC dX12_closesSums_47 rfl ?_
  refine zs_getI hC fl_RX12_144 zL60 rfl dX12_closesSums_48 ?_
  refine zs_k hC dX12_closesSums_51 ?_
  refine zs_isub hC dX12_closesSums_52 ?_
  refine zs_putI hC fl_RX12_144 fp_12_16 zL60 rfl dX12_closesSums_53 ?_
  refine zs_let (fun m4 _ hf => ?_) hf
  refine zs_goto hC dX12_closesSums_56 ?_
  exact zAW.weak (hk0 _ _ hf) (zLw_s (zLw_s zLw_0))
set_option maxRecDepth 20000 in
set_option maxHeartbeats 4000000 in
theorem wX12_closesSums_17 {X : zX} {F : Nat} (hC : zCx X RX12 cX12_closesSums 2 1) (hret : zRt X none) {k0 : Int32 → zMem → Option zR} (hk0 : ∀ v1 μ, k0 v1 μ = some (zOut X) → zAW X 0 [some (.ref 60), some (.int v1)] [] μ) {v1 : Int32} {μ : zMem} (hf : fX12_closesSums_17 F k0 v1 μ = some (zOut X)) : zAW X 17 [some (.ref 60), some (.int v1)] [] μ := by
  unfold fX12_closesSums_17 at hf
  refine zs_il hC dX12_closesSums_17 rfl ?_
  refine zs_if_eq hC dX12_closesSums_18 (fun _ hf => ?_) (fun _ hf => ?_) hf
  · exact zs_vret hC hret dX12_closesSums_59 hf
  · refine zs_al hC dX12_closesSums_21 rfl ?_
    refine zs_callV [] hC cw_X12_waitTop cl_RX12_147 zL60 rfl (by decide) rfl rfl (Nat.le_of_ble_eq_true rfl) dX12_closesSums_22 (fun _ h => ctX12_waitTop h) (fun r1 m1 _ hf => ?_) hf
    show zAW X 25 _ (.int r1 :: _) m1
    refine zs_k hC dX12_closesSums_25 ?_
    refine zs_ic_eq hC dX12_closesSums_26 (fun _ hf => ?_) (fun _ hf => ?_) hf
    · exact zAW.weak (wX12_closesSums_37 hC hret hk0 hf) (zLw_s (zLw_s zLw_0))
    · refine zs_al hC dX12_closesSums_29 rfl ?_
      refine zs_callV [] hC cw_X12_waitTop cl_RX12_147 zL60 rfl (by decide) rfl rfl (Nat.le_of_ble_eq_true rfl) dX12_closesSums_30 (fun _ h => ctX12_waitTop h) (fun r2 m2 _ hf => ?_) hf
      show zAW X 33 _ (.int r2 :: _) m2
      refine zs_k hC dX12_closesSums_33 ?_
      refine zs_ic_ne hC dX12_closesSums_34 (fun _ hf => ?_) (fun _ hf => ?_) hf
      · exact zAW.weak (wX12_closesSums_37 hC hret hk0 hf) (zLw_s (zLw_s zLw_0))
      · exact zs_vret hC hret dX12_closesSums_59 hf
set_option maxRecDepth 20000 in
set_option maxHeartbeats 4000000 in
theorem wX12_closesSums_0 {X : zX} {F : Nat} (hC : zCx X RX12 cX12_closesSums 2 1) (hret : zRt X none) : ∀ (n : Nat) (v1 : Int32) (μ : zMem), fX12_closesSums_0 F n v1 μ = some (zOut X) → zAW X 0 [some (.ref 60), some (.int v1)] [] μ := by
  intro n
  induction n with
  | zero =>
    intro v1 μ hf
    rw [fX12_closesSums_0] at hf
    cases hf
  | succ n ih =>
    intro v1 μ hf
    rw [fX12_closesSums_0] at hf
    refine zs_al hC dX12_closesSums_0 rfl ?_
    refine zs_callV [] hC cw_X12_waitTop cl_RX12_147 zL60 rfl (by decide) rfl rfl (Nat.le_of_ble_eq_true rfl) dX12_closesSums_1 (fun _ h => ctX12_waitTop h) (fun r1 m1 _ hf => ?_) hf
    show zAW X 4 _ (.int r1 :: _) m1
    refine zs_k hC dX12_closesSums_4 ?_
    refine zs_ic_lt hC dX12_closesSums_5 (fun _ hf => ?_) (fun _ hf => ?_) hf
    · exact zAW.weak (wX12_closesSums_17 hC hret (ih) hf) (zLw_s (zLw_s zLw_0))
    · refine zs_al hC dX12_closesSums_8 rfl ?_
      refine zs_callV [] hC cw_X12_waitTop cl_RX12_147 zL60 rfl (by decide) rfl rfl (Nat.le_of_ble_eq_true rfl) dX12_closesSums_9 (fun _ h => ctX12_waitTop h) (fun r2 m2 _ hf => ?_) hf
      show zAW X 12 _ (.int r2 :: _) m2
      refine zs_k hC dX12_closesSums_12 ?_
      refine zs_ic_le hC dX12_closesSums_14 (fun _ hf => ?_) (fun _ hf => ?_) hf
      · exact zAW.weak (wX12_closesSums_37 hC hret (ih) hf) (zLw_s (zLw_s zLw_0))
      · exact zAW.weak (wX12_closesSums_17 hC hret (ih) hf) (zLw_s (zLw_s zLw_0))
set_option maxRecDepth 20000 in
set_option maxHeartbeats 4000000 in
theorem wX12_closesSums {X : zX} {F : Nat} (hC : zCx X RX12 cX12_closesSums 2 1) (hret : zRt X none) {v1 : Int32} {μ : zMem} (hf : fX12_closesSums F v1 μ = some (zOut X)) : zAW X 0 [some (.ref 60), some (.int v1)] [] μ := by
  unfold fX12_closesSums at hf
  exact zAW.weak (wX12_closesSums_0 hC hret F _ _ hf) (zLw_s (zLw_s zLw_0))
set_option maxRecDepth 20000 in
set_option maxHeartbeats 4000000 in
theorem ctX12_closesSums {E : zEV} {F : Nat} {v1 : Int32} {μ : zMem} {out : zR} (hf : fX12_closesSums F v1 μ = some out) : zCt E yX12_closesSums cX12_closesSums 2 none 1 [.ref 60, .int v1] μ out :=
  zCt.of [some (.ref 60), some (.int v1)] (by decide +kernel) (Nat.le_of_ble_eq_true rfl) (zLw_s (zLw_s zLw_0)) rfl (fun X hE ho hr hC => by
    subst hE; subst ho
    exact wX12_closesSums hC hr hf)
/-! X12_readsFactor -/
def fX12_readsFactor_0 (F : Nat) : Nat → zMem → Option zR
  | 0, _ => none
  | n + 1, μ => zBd (fX12_here F μ) (fun r1 m1 => if r1 = (nI 91) then zBd (fX12_opens F (nI 14) m1) (fun r2 m2 => if r2 = 0 then some ((nI 0), m2) else fX12_readsFactor_0 F n m2) else zBd (fX12_isDigit F m1) (fun r3 m3 => if r3 = 0 then zBd (fX12_here F m3) (fun r4 m4 => zBd (fX12_factOf F r4 m4) (fun r5 m5 => if r5 = (-1 : Int32) then zBd (fX12_wrongAt F (nI 1) (m5 60 10) m5) (fun r7 m7 => zGb (decide (r7 = 0 ∨ r7 = 1)) (some (r7, m7))) else zBd (fX12_notes F (nI 1) r5 m5) (fun r8 m8 => zLt (zUp m8 60 10 ((m8 60 10) + (nI 1))) (fun m10 => some ((nI 1), m10))))) else zBd (fX12_readsNumber F m3) (fun r11 m11 => if r11 = 0 then some ((nI 0), m11) else zBd (fX12_notes F (nI 0) (m11 60 13) m11) (fun r13 m13 => some ((nI 1), m13)))))
def fX12_readsFactor (F : Nat) (μ : zMem) : Option zR :=
  fX12_readsFactor_0 F F μ
set_option maxRecDepth 20000 in
set_option maxHeartbeats 4000000 in
theorem wX12_readsFactor_0 {X : zX} {F : Nat} (hC : zCx X RX12 cX12_readsFactor 2 3) (hret : zRt X (some .boolean)) : ∀ (n : Nat) (μ : zMem), fX12_readsFactor_0 F n μ = some (zOut X) → zAW X 0 [some (.ref 60), none] [] μ := by
  intro n
  induction n with
  | zero =>
    intro μ hf
    rw [fX12_readsFactor_0] at hf
    cases hf
  | succ n ih =>
    intro μ hf
    rw [fX12_readsFactor_0] at hf
    refine zs_al hC dX12_readsFactor_0 rfl ?_
    refine zs_callV [] hC cw_X12_here cl_RX12_119 zL60 rfl (by decide) rfl rfl (Nat.le_of_ble_eq_true rfl) dX12_readsFactor_1 (fun _ h => ctX12_here h) (fun r1 m1 _ hf => ?_) hf
    show zAW X 4 _ (.int r1 :: _) m1
    refine zs_k hC dX12_readsFactor_4 ?_
    refine zs_ic_ne hC dX12_readsFactor_6 (fun _ hf => ?_) (fun _ hf => ?_) hf
    · refine zs_al hC dX12_readsFactor_9 rfl ?_
      refine zs_k hC dX12_readsFactor_10 ?_
      refine zs_callV [.int (nI 14)] hC cw_X12_opens cl_RX12_154 zL60 rfl (by decide) rfl rfl (Nat.le_of_ble_eq_true rfl) dX12_readsFactor_12 (fun _ h => ctX12_opens h) (fun r2 m2 _ hf => ?_) hf
      show zAW X 15 _ (.int r2 :: _) m2
      refine zs_if_ne hC dX12_readsFactor_15 (fun _ hf => ?_) (fun _ hf => ?_) hf
      · refine zs_k hC dX12_readsFactor_18 ?_
        exact zs_zretK hC hret dX12_readsFactor_19 (by decide) hf
      · exact zAW.weak (ih _ hf) (zLw_s (zLw_n zLw_0))
    · refine zs_al hC dX12_readsFactor_20 rfl ?_
      refine zs_callV [] hC cw_X12_isDigit cl_RX12_133 zL60 rfl (by decide) rfl rfl (Nat.le_of_ble_eq_true rfl) dX12_readsFactor_21 (fun _ h => ctX12_isDigit h) (fun r3 m3 _ hf => ?_) hf
      show zAW X 24 _ (.int r3 :: _) m3
      refine zs_if_eq hC dX12_readsFactor_24 (fun _ hf => ?_) (fun _ hf => ?_) hf
      · refine zs_al hC dX12_readsFactor_47 rfl ?_
        refine zs_callV [] hC cw_X12_here cl_RX12_119 zL60 rfl (by decide) rfl rfl (Nat.le_of_ble_eq_true rfl) dX12_readsFactor_48 (fun _ h => ctX12_here h) (fun r4 m4 _ hf => ?_) hf
        show zAW X 51 _ (.int r4 :: _) m4
        refine zs_callS [.int r4] hC cw_X12_factOf cl_RX12_160 (by decide) rfl rfl (Nat.le_of_ble_eq_true rfl) dX12_readsFactor_51 (fun _ h => ctX12_factOf h) (fun r5 m5 _ hf => ?_) hf
        show zAW X 54 _ (.int r5 :: _) m5
        refine zs_is hC dX12_readsFactor_54 (by decide) rfl ?_
        refine zs_il hC dX12_readsFactor_55 rfl ?_
        refine zs_k hC dX12_readsFactor_56 ?_
        refine zs_ic_ne hC dX12_readsFactor_57 (fun _ hf => ?_) (fun _ hf => ?_) hf
        · refine zs_al hC dX12_readsFactor_60 rfl ?_
          refine zs_k hC dX12_readsFactor_61 ?_
          refine zs_al hC dX12_readsFactor_62 rfl ?_
          refine zs_getI hC fl_RX12_113 zL60 rfl dX12_readsFactor_63 ?_
          refine zs_callV [.int (nI 1), .int (m5 60 10)] hC cw_X12_wrongAt cl_RX12_126 zL60 rfl (by decide) rfl rfl (Nat.le_of_ble_eq_true rfl) dX12_readsFactor_66 (fun _ h => ctX12_wrongAt h) (fun r7 m7 _ hf => ?_) hf
          show zAW X 69 _ (.int r7 :: _) m7
          exact zs_zret hC hret dX12_readsFactor_69 hf
        · refine zs_al hC dX12_readsFactor_70 rfl ?_
          refine zs_k hC dX12_readsFactor_71 ?_
          refine zs_il hC dX12_readsFactor_72 rfl ?_
          refine zs_callV [.int (nI 1), .int r5] hC cw_X12_notes cl_RX12_150 zL60 rfl (by decide) rfl rfl (Nat.le_of_ble_eq_true rfl) dX12_readsFactor_73 (fun _ h => ctX12_notes h) (fun r8 m8 _ hf => ?_) hf
          show zAW X 76 _ _ m8
          refine zs_al hC dX12_readsFactor_76 rfl ?_
          refine zs_al hC dX12_readsFactor_77 rfl ?_
          refine zs_getI hC fl_RX12_113 zL60 rfl dX12_readsFactor_78 ?_
          refine zs_k hC dX12_readsFactor_81 ?_
          refine zs_iadd hC dX12_readsFactor_82 ?_
          refine zs_putI hC fl_RX12_113 fp_12_10 zL60 rfl dX12_readsFactor_83 ?_
          refine zs_let (fun m10 _ hf => ?_) hf
          refine zs_k hC dX12_readsFactor_86 ?_
          exact zs_zretK hC hret dX12_readsFactor_87 (by decide) hf
      · refine zs_al hC dX12_readsFactor_27 rfl ?_
        refine zs_callV [] hC cw_X12_readsNumber cl_RX12_157 zL60 rfl (by decide) rfl rfl (Nat.le_of_ble_eq_true rfl) dX12_readsFactor_28 (fun _ h => ctX12_readsNumber h) (fun r11 m11 _ hf => ?_) hf
        show zAW X 31 _ (.int r11 :: _) m11
        refine zs_if_ne hC dX12_readsFactor_31 (fun _ hf => ?_) (fun _ hf => ?_) hf
        · refine zs_k hC dX12_readsFactor_34 ?_
          exact zs_zretK hC hret dX12_readsFactor_35 (by decide) hf
        · refine zs_al hC dX12_readsFactor_36 rfl ?_
          refine zs_k hC dX12_readsFactor_37 ?_
          refine zs_al hC dX12_readsFactor_38 rfl ?_
          refine zs_getI hC fl_RX12_130 zL60 rfl dX12_readsFactor_39 ?_
          refine zs_callV [.int (nI 0), .int (m11 60 13)] hC cw_X12_notes cl_RX12_150 zL60 rfl (by decide) rfl rfl (Nat.le_of_ble_eq_true rfl) dX12_readsFactor_42 (fun _ h => ctX12_notes h) (fun r13 m13 _ hf => ?_) hf
          show zAW X 45 _ _ m13
          refine zs_k hC dX12_readsFactor_45 ?_
          exact zs_zretK hC hret dX12_readsFactor_46 (by decide) hf
set_option maxRecDepth 20000 in
set_option maxHeartbeats 4000000 in
theorem wX12_readsFactor {X : zX} {F : Nat} (hC : zCx X RX12 cX12_readsFactor 2 3) (hret : zRt X (some .boolean)) {μ : zMem} (hf : fX12_readsFactor F μ = some (zOut X)) : zAW X 0 [some (.ref 60), none] [] μ := by
  unfold fX12_readsFactor at hf
  exact zAW.weak (wX12_readsFactor_0 hC hret F _ hf) (zLw_s (zLw_n zLw_0))
set_option maxRecDepth 20000 in
set_option maxHeartbeats 4000000 in
theorem ctX12_readsFactor {E : zEV} {F : Nat} {μ : zMem} {out : zR} (hf : fX12_readsFactor F μ = some out) : zCt E yX12_readsFactor cX12_readsFactor 2 (some .boolean) 3 [.ref 60] μ out :=
  zCt.of [some (.ref 60), none] (by decide +kernel) (Nat.le_of_ble_eq_true rfl) (zLw_s (zLw_e zLw_0)) rfl (fun X hE ho hr hC => by
    subst hE; subst ho
    exact wX12_readsFactor hC hr hf)
/-! X12_hasOpenSum -/
def fX12_hasOpenSum_2 (F : Nat) : Nat → Int32 → zMem → Option zR
  | 0, _, _ => none
  | n + 1, v2, μ => if (μ 60 16) ≤ v2 then some ((nI 0), μ) else zG v2 260 (zGz (nI 1048576) (if ((μ 70 v2.toNatClampNeg) / (nI 1048576)) = (nI 14) then some ((nI 1), μ) else fX12_hasOpenSum_2 F n (v2 + (nI 1)) μ))
def fX12_hasOpenSum (F : Nat) (v1 : Int32) (μ : zMem) : Option zR :=
  fX12_hasOpenSum_2 F F v1 μ
set_option maxRecDepth 20000 in
set_option maxHeartbeats 4000000 in
theorem wX12_hasOpenSum_2 {X : zX} {F : Nat} (hC : zCx X RX12 cX12_hasOpenSum 3 0) (hret : zRt X (some .boolean)) : ∀ (n : Nat) (v2 : Int32) (μ : zMem), fX12_hasOpenSum_2 F n v2 μ = some (zOut X) → zAW X 2 [some (.ref 60), none, some (.int v2)] [] μ := by
  intro n
  induction n with
  | zero =>
    intro v2 μ hf
    rw [fX12_hasOpenSum_2] at hf
    cases hf
  | succ n ih =>
    intro v2 μ hf
    rw [fX12_hasOpenSum_2] at hf
    refine zs_il hC dX12_hasOpenSum_2 rfl ?_
    refine zs_al hC dX12_hasOpenSum_3 rfl ?_
    refine zs_getI hC fl_RX12_144 zL60 rfl dX12_hasOpenSum_4 ?_
    refine zs_ic_ge hC dX12_hasOpenSum_7 (fun _ hf => ?_) (fun _ hf => ?_) hf
    · refine zs_k hC dX12_hasOpenSum_32 ?_
      exact zs_zretK hC hret dX12_hasOpenSum_33 (by decide) hf
    · refine zs_al hC dX12_hasOpenSum_10 rfl ?_
      refine zs_getR 70 hC fl_RX12_38 zL60 rfl dX12_hasOpenSum_11 ?_
      refine zs_il hC dX12_hasOpenSum_14 rfl ?_
      refine zs_iald hC zL70 dX12_hasOpenSum_15 (fun _ hf => ?_) hf
      refine zs_ldc hC kc_RX12_140 dX12_hasOpenSum_16 ?_
      refine zs_idiv hC dX12_hasOpenSum_18 (fun _ hf => ?_) hf
      refine zs_k hC dX12_hasOpenSum_19 ?_
      refine zs_ic_ne hC dX12_hasOpenSum_21 (fun _ hf => ?_) (fun _ hf => ?_) hf
      · refine zs_k hC dX12_hasOpenSum_24 ?_
        exact zs_zretK hC hret dX12_hasOpenSum_25 (by decide) hf
      · refine zs_iinc (nI 1) hC dX12_hasOpenSum_26 (by decide) rfl (by decide) rfl ?_
        refine zs_goto hC dX12_hasOpenSum_29 ?_
        exact zAW.weak (ih _ _ hf) (zLw_s (zLw_n (zLw_s zLw_0)))
set_option maxRecDepth 20000 in
set_option maxHeartbeats 4000000 in
theorem wX12_hasOpenSum {X : zX} {F : Nat} (hC : zCx X RX12 cX12_hasOpenSum 3 0) (hret : zRt X (some .boolean)) {v1 : Int32} {μ : zMem} (hf : fX12_hasOpenSum F v1 μ = some (zOut X)) : zAW X 0 [some (.ref 60), some (.int v1), none] [] μ := by
  unfold fX12_hasOpenSum at hf
  refine zs_il hC dX12_hasOpenSum_0 rfl ?_
  refine zs_is hC dX12_hasOpenSum_1 (by decide) rfl ?_
  exact zAW.weak (wX12_hasOpenSum_2 hC hret F _ _ hf) (zLw_s (zLw_n (zLw_s zLw_0)))
set_option maxRecDepth 20000 in
set_option maxHeartbeats 4000000 in
theorem ctX12_hasOpenSum {E : zEV} {F : Nat} {v1 : Int32} {μ : zMem} {out : zR} (hf : fX12_hasOpenSum F v1 μ = some out) : zCt E yX12_hasOpenSum cX12_hasOpenSum 3 (some .boolean) 0 [.ref 60, .int v1] μ out :=
  zCt.of [some (.ref 60), some (.int v1), none] (by decide +kernel) (Nat.le_of_ble_eq_true rfl) (zLw_s (zLw_s (zLw_e zLw_0))) rfl (fun X hE ho hr hC => by
    subst hE; subst ho
    exact wX12_hasOpenSum hC hr hf)
/-! X12_readsSum -/
def fX12_readsSum_138 (F : Nat) (v1 : Int32) (μ : zMem) : Option zR :=
  zBd (fX12_hasOpenSum F v1 μ) (fun r1 m1 => if r1 = 0 then zBd (fX12_closesSums F (nI 1) m1) (fun r2 m2 => some ((nI 1), m2)) else zBd (fX12_wrongAt F (nI 1) (m1 60 10) m1) (fun r4 m4 => zGb (decide (r4 = 0 ∨ r4 = 1)) (some (r4, m4))))
def fX12_readsSum_38 (F : Nat) (k14 : Int32 → zMem → Option zR) (v1 : Int32) (v2 : Int32) (s0 : Int32) (μ : zMem) : Option zR :=
  zBd (fX12_closesSums F s0 μ) (fun r1 m1 => zG (m1 60 16) 260 (zLt (zUp m1 70 (m1 60 16).toNatClampNeg ((nI 1048576) * v2)) (fun m4 => zLt (zUp m4 60 16 ((m4 60 16) + (nI 1))) (fun m6 => zLt (zUp m6 60 10 ((m6 60 10) + (nI 1))) (fun m8 => zBd (fX12_readsFactor F m8) (fun r9 m9 => if r9 = 0 then some ((nI 0), m9) else k14 v1 m9))))))
def fX12_readsSum_14 (F : Nat) : Nat → Int32 → zMem → Option zR
  | 0, _, _ => none
  | n + 1, v1, μ => zBd (fX12_here F μ) (fun r1 m1 => zBd (fX12_sumSign F r1 m1) (fun r2 m2 => if r2 = (-1 : Int32) then zBd (fX12_here F m2) (fun r3 m3 => if r3 = (nI 93) then zBd (fX12_hasOpenSum F v1 m3) (fun r4 m4 => if r4 = 0 then fX12_readsSum_138 F v1 m4 else zBd (fX12_closesSums F (nI 1) m4) (fun r5 m5 => zLt (zUp m5 60 16 ((m5 60 16) - (nI 1))) (fun m7 => zLt (zUp m7 60 14 ((m7 60 14) - (nI 1))) (fun m9 => zLt (zUp m9 60 10 ((m9 60 10) + (nI 1))) (fun m11 => fX12_readsSum_14 F n v1 m11))))) else fX12_readsSum_138 F v1 m3) else if (nI 4) ≤ r2 then fX12_readsSum_38 F (fX12_readsSum_14 F n) v1 r2 (nI 0) m2 else fX12_readsSum_38 F (fX12_readsSum_14 F n) v1 r2 (nI 1) m2))
def fX12_readsSum (F : Nat) (μ : zMem) : Option zR :=
  zBd (fX12_readsFactor F μ) (fun r2 m2 => if r2 = 0 then some ((nI 0), m2) else fX12_readsSum_14 F F (μ 60 16) m2)
set_option maxRecDepth 20000 in
set_option maxHeartbeats 4000000 in
theorem wX12_readsSum_138 {X : zX} {F : Nat} (hC : zCx X RX12 cX12_readsSum 3 4) (hret : zRt X (some .boolean)) {v1 : Int32} {μ : zMem} (hf : fX12_readsSum_138 F v1 μ = some (zOut X)) : zAW X 138 [some (.ref 60), some (.int v1), none] [] μ := by
  unfold fX12_readsSum_138 at hf
  refine zs_al hC dX12_readsSum_138 rfl ?_
  refine zs_il hC dX12_readsSum_139 rfl ?_
  refine zs_callV [.int v1] hC cw_X12_hasOpenSum cl_RX12_174 zL60 rfl (by decide) rfl rfl (Nat.le_of_ble_eq_true rfl) dX12_readsSum_140 (fun _ h => ctX12_hasOpenSum h) (fun r1 m1 _ hf => ?_) hf
  show zAW X 143 _ (.int r1 :: _) m1
  refine zs_if_eq hC dX12_readsSum_143 (fun _ hf => ?_) (fun _ hf => ?_) hf
  · refine zs_al hC dX12_readsSum_156 rfl ?_
    refine zs_k hC dX12_readsSum_157 ?_
    refine zs_callV [.int (nI 1)] hC cw_X12_closesSums cl_RX12_170 zL60 rfl (by decide) rfl rfl (Nat.le_of_ble_eq_true rfl) dX12_readsSum_158 (fun _ h => ctX12_closesSums h) (fun r2 m2 _ hf => ?_) hf
    show zAW X 161 _ _ m2
    refine zs_k hC dX12_readsSum_161 ?_
    exact zs_zretK hC hret dX12_readsSum_162 (by decide) hf
  · refine zs_al hC dX12_readsSum_146 rfl ?_
    refine zs_k hC dX12_readsSum_147 ?_
    refine zs_al hC dX12_readsSum_148 rfl ?_
    refine zs_getI hC fl_RX12_113 zL60 rfl dX12_readsSum_149 ?_
    refine zs_callV [.int (nI 1), .int (m1 60 10)] hC cw_X12_wrongAt cl_RX12_126 zL60 rfl (by decide) rfl rfl (Nat.le_of_ble_eq_true rfl) dX12_readsSum_152 (fun _ h => ctX12_wrongAt h) (fun r4 m4 _ hf => ?_) hf
    show zAW X 155 _ (.int r4 :: _) m4
    exact zs_zret hC hret dX12_readsSum_155 hf
set_option maxRecDepth 20000 in
set_option maxHeartbeats 4000000 in
theorem wX12_readsSum_38 {X : zX} {F : Nat} (hC : zCx X RX12 cX12_readsSum 3 4) (hret : zRt X (some .boolean)) {k14 : Int32 → zMem → Option zR} (hk14 : ∀ v1 μ, k14 v1 μ = some (zOut X) → zAW X 14 [some (.ref 60), some (.int v1), none] [] μ) {v1 : Int32} {v2 : Int32} {s0 : Int32} {μ : zMem} (hf : fX12_readsSum_38 F k14 v1 v2 s0 μ = some (zOut X)) : zAW X 38 [some (.ref 60), some (.int v1), some (.int v2)] [.int s0, .ref 60] μ := by
  unfold fX12_readsSum_38 at hf
  refine zs_callV [.int s0] hC cw_X12_closesSums cl_RX12_170 zL60 rfl (by decide) rfl rfl (Nat.le_of_ble_eq_true rfl) dX12_readsSum_38 (fun _ h => ctX12_closesSums h) (fun r1 m1 _ hf => ?_) hf
  show zAW X 41 _ _ m1
  refine zs_al hC dX12_readsSum_41 rfl ?_
  refine zs_getR 70 hC fl_RX12_38 zL60 rfl dX12_readsSum_42 ?_
  refine zs_al hC dX12_readsSum_45 rfl ?_
  refine zs_getI hC fl_RX12_144 zL60 rfl dX12_readsSum_46 ?_
  refine zs_ldc hC kc_RX12_140 dX12_readsSum_49 ?_
  refine zs_il hC dX12_readsSum_51 rfl ?_
  refine zs_imul hC dX12_readsSum_52 ?_
  refine zs_iast hC zL70 dX12_readsSum_53 (fun _ hf => ?_) hf
  refine zs_let (fun m4 _ hf => ?_) hf
  refine zs_al hC dX12_readsSum_54 rfl ?_
  refine zs_al hC dX12_readsSum_55 rfl ?_
  refine zs_getI hC fl_RX12_144 zL60 rfl dX12_readsSum_56 ?_
  refine zs_k hC dX12_readsSum_59 ?_
  refine zs_iadd hC dX12_readsSum_60 ?_
  refine zs_putI hC fl_RX12_144 fp_12_16 zL60 rfl dX12_readsSum_61 ?_
  refine zs_let (fun m6 _ hf => ?_) hf
  refine zs_al hC dX12_readsSum_64 rfl ?_
  refine zs_al hC dX12_readsSum_65 rfl ?_
  refine zs_getI hC fl_RX12_113 zL60 rfl dX12_readsSum_66 ?_
  refine zs_k hC dX12_readsSum_69 ?_
  refine zs_iadd hC dX12_readsSum_70 ?_
  refine zs_putI hC fl_RX12_113 fp_12_10 zL60 rfl dX12_readsSum_71 ?_
  refine zs_let (fun m8 _ hf => ?_) hf
  refine zs_al hC dX12_readsSum_74 rfl ?_
  refine zs_callV [] hC cw_X12_readsFactor cl_RX12_164 zL60 rfl (by decide) rfl rfl (Nat.le_of_ble_eq_true rfl) dX12_readsSum_75 (fun _ h => ctX12_readsFactor h) (fun r9 m9 _ hf => ?_) hf
  show zAW X 78 _ (.int r9 :: _) m9
  refine zs_if_ne hC dX12_readsSum_78 (fun _ hf => ?_) (fun _ hf => ?_) hf
  · refine zs_k hC dX12_readsSum_81 ?_
    exact zs_zretK hC hret dX12_readsSum_82 (by decide) hf
  · refine zs_goto hC dX12_readsSum_163 ?_
    exact zAW.weak (hk14 _ _ hf) (zLw_s (zLw_s (zLw_n zLw_0)))
set_option maxRecDepth 20000 in
set_option maxHeartbeats 4000000 in
theorem wX12_readsSum_14 {X : zX} {F : Nat} (hC : zCx X RX12 cX12_readsSum 3 4) (hret : zRt X (some .boolean)) : ∀ (n : Nat) (v1 : Int32) (μ : zMem), fX12_readsSum_14 F n v1 μ = some (zOut X) → zAW X 14 [some (.ref 60), some (.int v1), none] [] μ := by
  intro n
  induction n with
  | zero =>
    intro v1 μ hf
    rw [fX12_readsSum_14] at hf
    cases hf
  | succ n ih =>
    intro v1 μ hf
    rw [fX12_readsSum_14] at hf
    refine zs_al hC dX12_readsSum_14 rfl ?_
    refine zs_callV [] hC cw_X12_here cl_RX12_119 zL60 rfl (by decide) rfl rfl (Nat.le_of_ble_eq_true rfl) dX12_readsSum_15 (fun _ h => ctX12_here h) (fun r1 m1 _ hf => ?_) hf
    show zAW X 18 _ (.int r1 :: _) m1
    refine zs_callS [.int r1] hC cw_X12_sumSign cl_RX12_167 (by decide) rfl rfl (Nat.le_of_ble_eq_true rfl) dX12_readsSum_18 (fun _ h => ctX12_sumSign h) (fun r2 m2 _ hf => ?_) hf
    show zAW X 21 _ (.int r2 :: _) m2
    refine zs_is hC dX12_readsSum_21 (by decide) rfl ?_
    refine zs_il hC dX12_readsSum_22 rfl ?_
    refine zs_k hC dX12_readsSum_23 ?_
    refine zs_ic_eq hC dX12_readsSum_24 (fun _ hf => ?_) (fun _ hf => ?_) hf
    · refine zs_al hC dX12_readsSum_83 rfl ?_
      refine zs_callV [] hC cw_X12_here cl_RX12_119 zL60 rfl (by decide) rfl rfl (Nat.le_of_ble_eq_true rfl) dX12_readsSum_84 (fun _ h => ctX12_here h) (fun r3 m3 _ hf => ?_) hf
      show zAW X 87 _ (.int r3 :: _) m3
      refine zs_k hC dX12_readsSum_87 ?_
      refine zs_ic_ne hC dX12_readsSum_89 (fun _ hf => ?_) (fun _ hf => ?_) hf
      · refine zs_al hC dX12_readsSum_92 rfl ?_
        refine zs_il hC dX12_readsSum_93 rfl ?_
        refine zs_callV [.int v1] hC cw_X12_hasOpenSum cl_RX12_174 zL60 rfl (by decide) rfl rfl (Nat.le_of_ble_eq_true rfl) dX12_readsSum_94 (fun _ h => ctX12_hasOpenSum h) (fun r4 m4 _ hf => ?_) hf
        show zAW X 97 _ (.int r4 :: _) m4
        refine zs_if_eq hC dX12_readsSum_97 (fun _ hf => ?_) (fun _ hf => ?_) hf
        · exact zAW.weak (wX12_readsSum_138 hC hret hf) (zLw_s (zLw_s (zLw_n zLw_0)))
        · refine zs_al hC dX12_readsSum_100 rfl ?_
          refine zs_k hC dX12_readsSum_101 ?_
          refine zs_callV [.int (nI 1)] hC cw_X12_closesSums cl_RX12_170 zL60 rfl (by decide) rfl rfl (Nat.le_of_ble_eq_true rfl) dX12_readsSum_102 (fun _ h => ctX12_closesSums h) (fun r5 m5 _ hf => ?_) hf
          show zAW X 105 _ _ m5
          refine zs_al hC dX12_readsSum_105 rfl ?_
          refine zs_al hC dX12_readsSum_106 rfl ?_
          refine zs_getI hC fl_RX12_144 zL60 rfl dX12_readsSum_107 ?_
          refine zs_k hC dX12_readsSum_110 ?_
          refine zs_isub hC dX12_readsSum_111 ?_
          refine zs_putI hC fl_RX12_144 fp_12_16 zL60 rfl dX12_readsSum_112 ?_
          refine zs_let (fun m7 _ hf => ?_) hf
          refine zs_al hC dX12_readsSum_115 rfl ?_
          refine zs_al hC dX12_readsSum_116 rfl ?_
          refine zs_getI hC fl_RX12_141 zL60 rfl dX12_readsSum_117 ?_
          refine zs_k hC dX12_readsSum_120 ?_
          refine zs_isub hC dX12_readsSum_121 ?_
          refine zs_putI hC fl_RX12_141 fp_12_14 zL60 rfl dX12_readsSum_122 ?_
          refine zs_let (fun m9 _ hf => ?_) hf
          refine zs_al hC dX12_readsSum_125 rfl ?_
          refine zs_al hC dX12_readsSum_126 rfl ?_
          refine zs_getI hC fl_RX12_113 zL60 rfl dX12_readsSum_127 ?_
          refine zs_k hC dX12_readsSum_130 ?_
          refine zs_iadd hC dX12_readsSum_131 ?_
          refine zs_putI hC fl_RX12_113 fp_12_10 zL60 rfl dX12_readsSum_132 ?_
          refine zs_let (fun m11 _ hf => ?_) hf
          refine zs_goto hC dX12_readsSum_135 ?_
          refine zs_goto hC dX12_readsSum_163 ?_
          exact zAW.weak (ih _ _ hf) (zLw_s (zLw_s (zLw_n zLw_0)))
      · exact zAW.weak (wX12_readsSum_138 hC hret hf) (zLw_s (zLw_s (zLw_n zLw_0)))
    · refine zs_al hC dX12_readsSum_27 rfl ?_
      refine zs_il hC dX12_readsSum_28 rfl ?_
      refine zs_k hC dX12_readsSum_29 ?_
      refine zs_ic_ge hC dX12_readsSum_30 (fun _ hf => ?_) (fun _ hf => ?_) hf
      · refine zs_k hC dX12_readsSum_37 ?_
        exact zAW.weak (wX12_readsSum_38 hC hret (ih) hf) (zLw_s (zLw_s (zLw_s zLw_0)))
      · refine zs_k hC dX12_readsSum_33 ?_
        refine zs_goto hC dX12_readsSum_34 ?_
        exact zAW.weak (wX12_readsSum_38 hC hret (ih) hf) (zLw_s (zLw_s (zLw_s zLw_0)))
set_option maxRecDepth 20000 in
set_option maxHeartbeats 4000000 in
theorem wX12_readsSum {X : zX} {F : Nat} (hC : zCx X RX12 cX12_readsSum 3 4) (hret : zRt X (some .boolean)) {μ : zMem} (hf : fX12_readsSum F μ = some (zOut X)) : zAW X 0 [some (.ref 60), none, none] [] μ := by
  unfold fX12_readsSum at hf
  refine zs_al hC dX12_readsSum_0 rfl ?_
  refine zs_getI hC fl_RX12_144 zL60 rfl dX12_readsSum_1 ?_
  refine zs_is hC dX12_readsSum_4 (by decide) rfl ?_
  refine zs_al hC dX12_readsSum_5 rfl ?_
  refine zs_callV [] hC cw_X12_readsFactor cl_RX12_164 zL60 rfl (by decide) rfl rfl (Nat.le_of_ble_eq_true rfl) dX12_readsSum_6 (fun _ h => ctX12_readsFactor h) (fun r2 m2 _ hf => ?_) hf
  show zAW X 9 _ (.int r2 :: _) m2
  refine zs_if_ne hC dX12_readsSum_9 (fun _ hf => ?_) (fun _ hf => ?_) hf
  · refine zs_k hC dX12_readsSum_12 ?_
    exact zs_zretK hC hret dX12_readsSum_13 (by decide) hf
  · exact zAW.weak (wX12_readsSum_14 hC hret F _ _ hf) (zLw_s (zLw_s (zLw_n zLw_0)))
set_option maxRecDepth 20000 in
set_option maxHeartbeats 4000000 in
theorem ctX12_readsSum {E : zEV} {F : Nat} {μ : zMem} {out : zR} (hf : fX12_readsSum F μ = some out) : zCt E yX12_readsSum cX12_readsSum 3 (some .boolean) 4 [.ref 60] μ out :=
  zCt.of [some (.ref 60), none, none] (by decide +kernel) (Nat.le_of_ble_eq_true rfl) (zLw_s (zLw_e (zLw_e zLw_0))) rfl (fun X hE ho hr hC => by
    subst hE; subst ho
    exact wX12_readsSum hC hr hf)
/-! X12_endsPiece -/
def fX12_endsPiece_0 (F : Nat) : Nat → zMem → Option zR
  | 0, _ => none
  | n + 1, μ => zBd (fX12_waitTop F μ) (fun r1 m1 => if r1 = (nI 10) then zBd (fX12_notes F (nI 10) (nI 0) m1) (fun r2 m2 => zLt (zUp m2 60 16 ((m2 60 16) - (nI 1))) (fun m4 => zLt (zUp m4 60 14 ((m4 60 14) - (nI 1))) (fun m6 => fX12_endsPiece_0 F n m6))) else some ((nI 0), m1))
def fX12_endsPiece (F : Nat) (μ : zMem) : Option zR :=
  fX12_endsPiece_0 F F μ
set_option maxRecDepth 20000 in
set_option maxHeartbeats 4000000 in
theorem wX12_endsPiece_0 {X : zX} {F : Nat} (hC : zCx X RX12 cX12_endsPiece 1 1) (hret : zRt X none) : ∀ (n : Nat) (μ : zMem), fX12_endsPiece_0 F n μ = some (zOut X) → zAW X 0 [some (.ref 60)] [] μ := by
  intro n
  induction n with
  | zero =>
    intro μ hf
    rw [fX12_endsPiece_0] at hf
    cases hf
  | succ n ih =>
    intro μ hf
    rw [fX12_endsPiece_0] at hf
    refine zs_al hC dX12_endsPiece_0 rfl ?_
    refine zs_callV [] hC cw_X12_waitTop cl_RX12_147 zL60 rfl (by decide) rfl rfl (Nat.le_of_ble_eq_true rfl) dX12_endsPiece_1 (fun _ h => ctX12_waitTop h) (fun r1 m1 _ hf => ?_) hf
    show zAW X 4 _ (.int r1 :: _) m1
    refine zs_k hC dX12_endsPiece_4 ?_
    refine zs_ic_ne hC dX12_endsPiece_6 (fun _ hf => ?_) (fun _ hf => ?_) hf
    · refine zs_al hC dX12_endsPiece_9 rfl ?_
      refine zs_k hC dX12_endsPiece_10 ?_
      refine zs_k hC dX12_endsPiece_12 ?_
      refine zs_callV [.int (nI 10), .int (nI 0)] hC cw_X12_notes cl_RX12_150 zL60 rfl (by decide) rfl rfl (Nat.le_of_ble_eq_true rfl) dX12_endsPiece_13 (fun _ h => ctX12_notes h) (fun r2 m2 _ hf => ?_) hf
      show zAW X 16 _ _ m2
      refine zs_al hC dX12_endsPiece_16 rfl ?_
      refine zs_al hC dX12_endsPiece_17 rfl ?_
      refine zs_getI hC fl_RX12_144 zL60 rfl dX12_endsPiece_18 ?_
      refine zs_k hC dX12_endsPiece_21 ?_
      refine zs_isub hC dX12_endsPiece_22 ?_
      refine zs_putI hC fl_RX12_144 fp_12_16 zL60 rfl dX12_endsPiece_23 ?_
      refine zs_let (fun m4 _ hf => ?_) hf
      refine zs_al hC dX12_endsPiece_26 rfl ?_
      refine zs_al hC dX12_endsPiece_27 rfl ?_
      refine zs_getI hC fl_RX12_141 zL60 rfl dX12_endsPiece_28 ?_
      refine zs_k hC dX12_endsPiece_31 ?_
      refine zs_isub hC dX12_endsPiece_32 ?_
      refine zs_putI hC fl_RX12_141 fp_12_14 zL60 rfl dX12_endsPiece_33 ?_
      refine zs_let (fun m6 _ hf => ?_) hf
      refine zs_goto hC dX12_endsPiece_36 ?_
      exact zAW.weak (ih _ hf) (zLw_s zLw_0)
    · exact zs_vret hC hret dX12_endsPiece_39 hf
set_option maxRecDepth 20000 in
set_option maxHeartbeats 4000000 in
theorem wX12_endsPiece {X : zX} {F : Nat} (hC : zCx X RX12 cX12_endsPiece 1 1) (hret : zRt X none) {μ : zMem} (hf : fX12_endsPiece F μ = some (zOut X)) : zAW X 0 [some (.ref 60)] [] μ := by
  unfold fX12_endsPiece at hf
  exact zAW.weak (wX12_endsPiece_0 hC hret F _ hf) (zLw_s zLw_0)
set_option maxRecDepth 20000 in
set_option maxHeartbeats 4000000 in
theorem ctX12_endsPiece {E : zEV} {F : Nat} {μ : zMem} {out : zR} (hf : fX12_endsPiece F μ = some out) : zCt E yX12_endsPiece cX12_endsPiece 1 none 1 [.ref 60] μ out :=
  zCt.of [some (.ref 60)] (by decide +kernel) (Nat.le_of_ble_eq_true rfl) (zLw_s zLw_0) rfl (fun X hE ho hr hC => by
    subst hE; subst ho
    exact wX12_endsPiece hC hr hf)
/-! X12_lands -/
def fX12_lands_22 (F : Nat) (k0 : Int32 → zMem → Option zR) (v1 : Int32) (μ : zMem) : Option zR :=
  zG ((μ 60 16) - (nI 1)) 260 (zGz (nI 1048576) (zG ((μ 70 ((μ 60 16) - (nI 1)).toNatClampNeg) % (nI 1048576)) 260 (zGz (nI 1048576) (zG ((μ 70 ((μ 60 16) - (nI 1)).toNatClampNeg) % (nI 1048576)) 260 (zLt (zUp μ 69 ((μ 70 ((μ 60 16) - (nI 1)).toNatClampNeg) % (nI 1048576)).toNatClampNeg (((nI 1048576) * ((μ 69 ((μ 70 ((μ 60 16) - (nI 1)).toNatClampNeg) % (nI 1048576)).toNatClampNeg) / (nI 1048576))) + (μ 60 15))) (fun m6 => zLt (zUp m6 60 16 ((m6 60 16) - (nI 1))) (fun m8 => k0 v1 m8)))))))
def fX12_lands_0 (F : Nat) : Nat → Int32 → zMem → Option zR
  | 0, _, _ => none
  | n + 1, v1, μ => zBd (fX12_waitTop F μ) (fun r1 m1 => if r1 = (nI 11) then fX12_lands_22 F (fX12_lands_0 F n) v1 m1 else if v1 = 0 then some ((nI 0), m1) else zBd (fX12_waitTop F m1) (fun r2 m2 => if r2 = (nI 12) then fX12_lands_22 F (fX12_lands_0 F n) v1 m2 else some ((nI 0), m2)))
def fX12_lands (F : Nat) (v1 : Int32) (μ : zMem) : Option zR :=
  fX12_lands_0 F F v1 μ
set_option maxRecDepth 20000 in
set_option maxHeartbeats 4000000 in
theorem wX12_lands_22 {X : zX} {F : Nat} (hC : zCx X RX12 cX12_lands 3 1) (hret : zRt X none) {k0 : Int32 → zMem → Option zR} (hk0 : ∀ v1 μ, k0 v1 μ = some (zOut X) → zAW X 0 [some (.ref 60), some (.int v1), none] [] μ) {v1 : Int32} {μ : zMem} (hf : fX12_lands_22 F k0 v1 μ = some (zOut X)) : zAW X 22 [some (.ref 60), some (.int v1), none] [] μ := by
  unfold fX12_lands_22 at hf
  refine zs_al hC dX12_lands_22 rfl ?_
  refine zs_getR 70 hC fl_RX12_38 zL60 rfl dX12_lands_23 ?_
  refine zs_al hC dX12_lands_26 rfl ?_
  refine zs_getI hC fl_RX12_144 zL60 rfl dX12_lands_27 ?_
  refine zs_k hC dX12_lands_30 ?_
  refine zs_isub hC dX12_lands_31 ?_
  refine zs_iald hC zL70 dX12_lands_32 (fun _ hf => ?_) hf
  refine zs_ldc hC kc_RX12_140 dX12_lands_33 ?_
  refine zs_irem hC dX12_lands_35 (fun _ hf => ?_) hf
  refine zs_is hC dX12_lands_36 (by decide) rfl ?_
  refine zs_al hC dX12_lands_37 rfl ?_
  refine zs_getR 69 hC fl_RX12_35 zL60 rfl dX12_lands_38 ?_
  refine zs_il hC dX12_lands_41 rfl ?_
  refine zs_ldc hC kc_RX12_140 dX12_lands_42 ?_
  refine zs_al hC dX12_lands_44 rfl ?_
  refine zs_getR 69 hC fl_RX12_35 zL60 rfl dX12_lands_45 ?_
  refine zs_il hC dX12_lands_48 rfl ?_
  refine zs_iald hC zL69 dX12_lands_49 (fun _ hf => ?_) hf
  refine zs_ldc hC kc_RX12_140 dX12_lands_50 ?_
  refine zs_idiv hC dX12_lands_52 (fun _ hf => ?_) hf
  refine zs_imul hC dX12_lands_53 ?_
  refine zs_al hC dX12_lands_54 rfl ?_
  refine zs_getI hC fl_RX12_137 zL60 rfl dX12_lands_55 ?_
  refine zs_iadd hC dX12_lands_58 ?_
  refine zs_iast hC zL69 dX12_lands_59 (fun _ hf => ?_) hf
  refine zs_let (fun m6 _ hf => ?_) hf
  refine zs_al hC dX12_lands_60 rfl ?_
  refine zs_al hC dX12_lands_61 rfl ?_
  refine zs_getI hC fl_RX12_144 zL60 rfl dX12_lands_62 ?_
  refine zs_k hC dX12_lands_65 ?_
  refine zs_isub hC dX12_lands_66 ?_
  refine zs_putI hC fl_RX12_144 fp_12_16 zL60 rfl dX12_lands_67 ?_
  refine zs_let (fun m8 _ hf => ?_) hf
  refine zs_goto hC dX12_lands_70 ?_
  exact zAW.weak (hk0 _ _ hf) (zLw_s (zLw_s (zLw_n zLw_0)))
set_option maxRecDepth 20000 in
set_option maxHeartbeats 4000000 in
theorem wX12_lands_0 {X : zX} {F : Nat} (hC : zCx X RX12 cX12_lands 3 1) (hret : zRt X none) : ∀ (n : Nat) (v1 : Int32) (μ : zMem), fX12_lands_0 F n v1 μ = some (zOut X) → zAW X 0 [some (.ref 60), some (.int v1), none] [] μ := by
  intro n
  induction n with
  | zero =>
    intro v1 μ hf
    rw [fX12_lands_0] at hf
    cases hf
  | succ n ih =>
    intro v1 μ hf
    rw [fX12_lands_0] at hf
    refine zs_al hC dX12_lands_0 rfl ?_
    refine zs_callV [] hC cw_X12_waitTop cl_RX12_147 zL60 rfl (by decide) rfl rfl (Nat.le_of_ble_eq_true rfl) dX12_lands_1 (fun _ h => ctX12_waitTop h) (fun r1 m1 _ hf => ?_) hf
    show zAW X 4 _ (.int r1 :: _) m1
    refine zs_k hC dX12_lands_4 ?_
    refine zs_ic_eq hC dX12_lands_6 (fun _ hf => ?_) (fun _ hf => ?_) hf
    · exact zAW.weak (wX12_lands_22 hC hret (ih) hf) (zLw_s (zLw_s (zLw_n zLw_0)))
    · refine zs_il hC dX12_lands_9 rfl ?_
      refine zs_if_eq hC dX12_lands_10 (fun _ hf => ?_) (fun _ hf => ?_) hf
      · exact zs_vret hC hret dX12_lands_73 hf
      · refine zs_al hC dX12_lands_13 rfl ?_
        refine zs_callV [] hC cw_X12_waitTop cl_RX12_147 zL60 rfl (by decide) rfl rfl (Nat.le_of_ble_eq_true rfl) dX12_lands_14 (fun _ h => ctX12_waitTop h) (fun r2 m2 _ hf => ?_) hf
        show zAW X 17 _ (.int r2 :: _) m2
        refine zs_k hC dX12_lands_17 ?_
        refine zs_ic_ne hC dX12_lands_19 (fun _ hf => ?_) (fun _ hf => ?_) hf
        · exact zAW.weak (wX12_lands_22 hC hret (ih) hf) (zLw_s (zLw_s (zLw_n zLw_0)))
        · exact zs_vret hC hret dX12_lands_73 hf
set_option maxRecDepth 20000 in
set_option maxHeartbeats 4000000 in
theorem wX12_lands {X : zX} {F : Nat} (hC : zCx X RX12 cX12_lands 3 1) (hret : zRt X none) {v1 : Int32} {μ : zMem} (hf : fX12_lands F v1 μ = some (zOut X)) : zAW X 0 [some (.ref 60), some (.int v1), none] [] μ := by
  unfold fX12_lands at hf
  exact zAW.weak (wX12_lands_0 hC hret F _ _ hf) (zLw_s (zLw_s (zLw_n zLw_0)))
set_option maxRecDepth 20000 in
set_option maxHeartbeats 4000000 in
theorem ctX12_lands {E : zEV} {F : Nat} {v1 : Int32} {μ : zMem} {out : zR} (hf : fX12_lands F v1 μ = some out) : zCt E yX12_lands cX12_lands 3 none 1 [.ref 60, .int v1] μ out :=
  zCt.of [some (.ref 60), some (.int v1), none] (by decide +kernel) (Nat.le_of_ble_eq_true rfl) (zLw_s (zLw_s (zLw_e zLw_0))) rfl (fun X hE ho hr hC => by
    subst hE; subst ho
    exact wX12_lands hC hr hf)
/-! X12_jumps -/
def fX12_jumps (F : Nat) (v1 : Int32) (μ : zMem) : Option zR :=
  zG (μ 60 16) 260 (zLt (zUp μ 70 (μ 60 16).toNatClampNeg (((nI 1048576) * v1) + (μ 60 15))) (fun m4 => zLt (zUp m4 60 16 ((m4 60 16) + (nI 1))) (fun m6 => zBd (fX12_notes F v1 (nI 0) m6) (fun r7 m7 => zLt (zUp m7 60 10 ((m7 60 10) + (nI 1))) (fun m9 => some ((nI 0), m9))))))
set_option maxRecDepth 20000 in
set_option maxHeartbeats 4000000 in
theorem wX12_jumps {X : zX} {F : Nat} (hC : zCx X RX12 cX12_jumps 2 1) (hret : zRt X none) {v1 : Int32} {μ : zMem} (hf : fX12_jumps F v1 μ = some (zOut X)) : zAW X 0 [some (.ref 60), some (.int v1)] [] μ := by
  unfold fX12_jumps at hf
  refine zs_al hC dX12_jumps_0 rfl ?_
  refine zs_getR 70 hC fl_RX12_38 zL60 rfl dX12_jumps_1 ?_
  refine zs_al hC dX12_jumps_4 rfl ?_
  refine zs_getI hC fl_RX12_144 zL60 rfl dX12_jumps_5 ?_
  refine zs_ldc hC kc_RX12_140 dX12_jumps_8 ?_
  refine zs_il hC dX12_jumps_10 rfl ?_
  refine zs_imul hC dX12_jumps_11 ?_
  refine zs_al hC dX12_jumps_12 rfl ?_
  refine zs_getI hC fl_RX12_137 zL60 rfl dX12_jumps_13 ?_
  refine zs_iadd hC dX12_jumps_16 ?_
  refine zs_iast hC zL70 dX12_jumps_17 (fun _ hf => ?_) hf
  refine zs_let (fun m4 _ hf => ?_) hf
  refine zs_al hC dX12_jumps_18 rfl ?_
  refine zs_al hC dX12_jumps_19 rfl ?_
  refine zs_getI hC fl_RX12_144 zL60 rfl dX12_jumps_20 ?_
  refine zs_k hC dX12_jumps_23 ?_
  refine zs_iadd hC dX12_jumps_24 ?_
  refine zs_putI hC fl_RX12_144 fp_12_16 zL60 rfl dX12_jumps_25 ?_
  refine zs_let (fun m6 _ hf => ?_) hf
  refine zs_al hC dX12_jumps_28 rfl ?_
  refine zs_il hC dX12_jumps_29 rfl ?_
  refine zs_k hC dX12_jumps_30 ?_
  refine zs_callV [.int v1, .int (nI 0)] hC cw_X12_notes cl_RX12_150 zL60 rfl (by decide) rfl rfl (Nat.le_of_ble_eq_true rfl) dX12_jumps_31 (fun _ h => ctX12_notes h) (fun r7 m7 _ hf => ?_) hf
  show zAW X 34 _ _ m7
  refine zs_al hC dX12_jumps_34 rfl ?_
  refine zs_al hC dX12_jumps_35 rfl ?_
  refine zs_getI hC fl_RX12_113 zL60 rfl dX12_jumps_36 ?_
  refine zs_k hC dX12_jumps_39 ?_
  refine zs_iadd hC dX12_jumps_40 ?_
  refine zs_putI hC fl_RX12_113 fp_12_10 zL60 rfl dX12_jumps_41 ?_
  refine zs_let (fun m9 _ hf => ?_) hf
  exact zs_vret hC hret dX12_jumps_44 hf
set_option maxRecDepth 20000 in
set_option maxHeartbeats 4000000 in
theorem ctX12_jumps {E : zEV} {F : Nat} {v1 : Int32} {μ : zMem} {out : zR} (hf : fX12_jumps F v1 μ = some out) : zCt E yX12_jumps cX12_jumps 2 none 1 [.ref 60, .int v1] μ out :=
  zCt.of [some (.ref 60), some (.int v1)] (by decide +kernel) (Nat.le_of_ble_eq_true rfl) (zLw_s (zLw_s zLw_0)) rfl (fun X hE ho hr hC => by
    subst hE; subst ho
    exact wX12_jumps hC hr hf)
/-! X12_readsCompared -/
def fX12_readsCompared_52 (F : Nat) (s0 : Int32) (μ : zMem) : Option zR :=
  if s0 = (-1 : Int32) then zBd (fX12_wrongAt F (nI 1) (μ 60 10) μ) (fun r2 m2 => zGb (decide (r2 = 0 ∨ r2 = 1)) (some (r2, m2))) else zLt (zUp μ 60 10 ((μ 60 10) + (nI 1))) (fun m4 => zBd (fX12_readsSum F m4) (fun r5 m5 => if r5 = 0 then some ((nI 0), m5) else zBd (fX12_notes F s0 (nI 0) m5) (fun r6 m6 => zBd (fX12_endsPiece F m6) (fun r7 m7 => some ((nI 1), m7)))))
def fX12_readsCompared (F : Nat) (μ : zMem) : Option zR :=
  zBd (fX12_readsSum F μ) (fun r1 m1 => if r1 = 0 then some ((nI 0), m1) else zBd (fX12_here F m1) (fun r2 m2 => if r2 = (nI 60) then fX12_readsCompared_52 F (nI 7) m2 else zBd (fX12_here F m2) (fun r3 m3 => if r3 = (nI 62) then fX12_readsCompared_52 F (nI 8) m3 else zBd (fX12_here F m3) (fun r4 m4 => if r4 = (nI 61) then fX12_readsCompared_52 F (nI 9) m4 else fX12_readsCompared_52 F (-1 : Int32) m4))))
set_option maxRecDepth 20000 in
set_option maxHeartbeats 4000000 in
theorem wX12_readsCompared_52 {X : zX} {F : Nat} (hC : zCx X RX12 cX12_readsCompared 2 5) (hret : zRt X (some .boolean)) {s0 : Int32} {μ : zMem} (hf : fX12_readsCompared_52 F s0 μ = some (zOut X)) : zAW X 52 [some (.ref 60), none] [.int s0] μ := by
  unfold fX12_readsCompared_52 at hf
  refine zs_is hC dX12_readsCompared_52 (by decide) rfl ?_
  refine zs_il hC dX12_readsCompared_53 rfl ?_
  refine zs_k hC dX12_readsCompared_54 ?_
  refine zs_ic_ne hC dX12_readsCompared_55 (fun _ hf => ?_) (fun _ hf => ?_) hf
  · refine zs_al hC dX12_readsCompared_58 rfl ?_
    refine zs_k hC dX12_readsCompared_59 ?_
    refine zs_al hC dX12_readsCompared_60 rfl ?_
    refine zs_getI hC fl_RX12_113 zL60 rfl dX12_readsCompared_61 ?_
    refine zs_callV [.int (nI 1), .int (μ 60 10)] hC cw_X12_wrongAt cl_RX12_126 zL60 rfl (by decide) rfl rfl (Nat.le_of_ble_eq_true rfl) dX12_readsCompared_64 (fun _ h => ctX12_wrongAt h) (fun r2 m2 _ hf => ?_) hf
    show zAW X 67 _ (.int r2 :: _) m2
    exact zs_zret hC hret dX12_readsCompared_67 hf
  · refine zs_al hC dX12_readsCompared_68 rfl ?_
    refine zs_al hC dX12_readsCompared_69 rfl ?_
    refine zs_getI hC fl_RX12_113 zL60 rfl dX12_readsCompared_70 ?_
    refine zs_k hC dX12_readsCompared_73 ?_
    refine zs_iadd hC dX12_readsCompared_74 ?_
    refine zs_putI hC fl_RX12_113 fp_12_10 zL60 rfl dX12_readsCompared_75 ?_
    refine zs_let (fun m4 _ hf => ?_) hf
    refine zs_al hC dX12_readsCompared_78 rfl ?_
    refine zs_callV [] hC cw_X12_readsSum cl_RX12_177 zL60 rfl (by decide) rfl rfl (Nat.le_of_ble_eq_true rfl) dX12_readsCompared_79 (fun _ h => ctX12_readsSum h) (fun r5 m5 _ hf => ?_) hf
    show zAW X 82 _ (.int r5 :: _) m5
    refine zs_if_ne hC dX12_readsCompared_82 (fun _ hf => ?_) (fun _ hf => ?_) hf
    · refine zs_k hC dX12_readsCompared_85 ?_
      exact zs_zretK hC hret dX12_readsCompared_86 (by decide) hf
    · refine zs_al hC dX12_readsCompared_87 rfl ?_
      refine zs_il hC dX12_readsCompared_88 rfl ?_
      refine zs_k hC dX12_readsCompared_89 ?_
      refine zs_callV [.int s0, .int (nI 0)] hC cw_X12_notes cl_RX12_150 zL60 rfl (by decide) rfl rfl (Nat.le_of_ble_eq_true rfl) dX12_readsCompared_90 (fun _ h => ctX12_notes h) (fun r6 m6 _ hf => ?_) hf
      show zAW X 93 _ _ m6
      refine zs_al hC dX12_readsCompared_93 rfl ?_
      refine zs_callV [] hC cw_X12_endsPiece cl_RX12_180 zL60 rfl (by decide) rfl rfl (Nat.le_of_ble_eq_true rfl) dX12_readsCompared_94 (fun _ h => ctX12_endsPiece h) (fun r7 m7 _ hf => ?_) hf
      show zAW X 97 _ _ m7
      refine zs_k hC dX12_readsCompared_97 ?_
      exact zs_zretK hC hret dX12_readsCompared_98 (by decide) hf
set_option maxRecDepth 20000 in
set_option maxHeartbeats 4000000 in
theorem wX12_readsCompared {X : zX} {F : Nat} (hC : zCx X RX12 cX12_readsCompared 2 5) (hret : zRt X (some .boolean)) {μ : zMem} (hf : fX12_readsCompared F μ = some (zOut X)) : zAW X 0 [some (.ref 60), none] [] μ := by
  unfold fX12_readsCompared at hf
  refine zs_al hC dX12_readsCompared_0 rfl ?_
  refine zs_callV [] hC cw_X12_readsSum cl_RX12_177 zL60 rfl (by decide) rfl rfl (Nat.le_of_ble_eq_true rfl) dX12_readsCompared_1 (fun _ h => ctX12_readsSum h) (fun r1 m1 _ hf => ?_) hf
  show zAW X 4 _ (.int r1 :: _) m1
  refine zs_if_ne hC dX12_readsCompared_4 (fun _ hf => ?_) (fun _ hf => ?_) hf
  · refine zs_k hC dX12_readsCompared_7 ?_
    exact zs_zretK hC hret dX12_readsCompared_8 (by decide) hf
  · refine zs_al hC dX12_readsCompared_9 rfl ?_
    refine zs_callV [] hC cw_X12_here cl_RX12_119 zL60 rfl (by decide) rfl rfl (Nat.le_of_ble_eq_true rfl) dX12_readsCompared_10 (fun _ h => ctX12_here h) (fun r2 m2 _ hf => ?_) hf
    show zAW X 13 _ (.int r2 :: _) m2
    refine zs_k hC dX12_readsCompared_13 ?_
    refine zs_ic_ne hC dX12_readsCompared_15 (fun _ hf => ?_) (fun _ hf => ?_) hf
    · refine zs_k hC dX12_readsCompared_18 ?_
      refine zs_goto hC dX12_readsCompared_20 ?_
      exact zAW.weak (wX12_readsCompared_52 hC hret hf) (zLw_s (zLw_n zLw_0))
    · refine zs_al hC dX12_readsCompared_23 rfl ?_
      refine zs_callV [] hC cw_X12_here cl_RX12_119 zL60 rfl (by decide) rfl rfl (Nat.le_of_ble_eq_true rfl) dX12_readsCompared_24 (fun _ h => ctX12_here h) (fun r3 m3 _ hf => ?_) hf
      show zAW X 27 _ (.int r3 :: _) m3
      refine zs_k hC dX12_readsCompared_27 ?_
      refine zs_ic_ne hC dX12_readsCompared_29 (fun _ hf => ?_) (fun _ hf => ?_) hf
      · refine zs_k hC dX12_readsCompared_32 ?_
        refine zs_goto hC dX12_readsCompared_34 ?_
        exact zAW.weak (wX12_readsCompared_52 hC hret hf) (zLw_s (zLw_n zLw_0))
      · refine zs_al hC dX12_readsCompared_37 rfl ?_
        refine zs_callV [] hC cw_X12_here cl_RX12_119 zL60 rfl (by decide) rfl rfl (Nat.le_of_ble_eq_true rfl) dX12_readsCompared_38 (fun _ h => ctX12_here h) (fun r4 m4 _ hf => ?_) hf
        show zAW X 41 _ (.int r4 :: _) m4
        refine zs_k hC dX12_readsCompared_41 ?_
        refine zs_ic_ne hC dX12_readsCompared_43 (fun _ hf => ?_) (fun _ hf => ?_) hf
        · refine zs_k hC dX12_readsCompared_46 ?_
          refine zs_goto hC dX12_readsCompared_48 ?_
          exact zAW.weak (wX12_readsCompared_52 hC hret hf) (zLw_s (zLw_n zLw_0))
        · refine zs_k hC dX12_readsCompared_51 ?_
          exact zAW.weak (wX12_readsCompared_52 hC hret hf) (zLw_s (zLw_n zLw_0))
set_option maxRecDepth 20000 in
set_option maxHeartbeats 4000000 in
theorem ctX12_readsCompared {E : zEV} {F : Nat} {μ : zMem} {out : zR} (hf : fX12_readsCompared F μ = some out) : zCt E yX12_readsCompared cX12_readsCompared 2 (some .boolean) 5 [.ref 60] μ out :=
  zCt.of [some (.ref 60), none] (by decide +kernel) (Nat.le_of_ble_eq_true rfl) (zLw_s (zLw_e zLw_0)) rfl (fun X hE ho hr hC => by
    subst hE; subst ho
    exact wX12_readsCompared hC hr hf)
/-! X12_readsCondition -/
def fX12_readsCondition_58 (F : Nat) (k40 : zMem → Option zR) (μ : zMem) : Option zR :=
  zBd (fX12_here F μ) (fun r1 m1 => if r1 = (nI 33) then zBd (fX12_opens F (nI 10) m1) (fun r2 m2 => if r2 = 0 then some ((nI 0), m2) else k40 m2) else zBd (fX12_opens F (nI 13) m1) (fun r3 m3 => if r3 = 0 then some ((nI 0), m3) else k40 m3))
def fX12_readsCondition_195 (F : Nat) (k40 : zMem → Option zR) (s0 : Int32) (μ : zMem) : Option zR :=
  zBd (fX12_lands F s0 μ) (fun r1 m1 => zBd (fX12_here F m1) (fun r2 m2 => if r2 = (nI 38) then zBd (fX12_jumps F (nI 11) m2) (fun r3 m3 => k40 m3) else zBd (fX12_jumps F (nI 12) m2) (fun r4 m4 => k40 m4)))
def fX12_readsCondition_180 (F : Nat) (k40 : zMem → Option zR) (μ : zMem) : Option zR :=
  zBd (fX12_here F μ) (fun r1 m1 => if r1 = (nI 124) then fX12_readsCondition_195 F k40 (nI 1) m1 else fX12_readsCondition_195 F k40 (nI 0) m1)
def fX12_readsCondition_92 (F : Nat) (k40 : zMem → Option zR) : Nat → zMem → Option zR
  | 0, _ => none
  | n + 1, μ => zBd (fX12_here F μ) (fun r1 m1 => if r1 = (nI 41) then zBd (fX12_lands F (nI 1) m1) (fun r2 m2 => zLt (zUp m2 60 16 ((m2 60 16) - (nI 1))) (fun m4 => zLt (zUp m4 60 14 ((m4 60 14) - (nI 1))) (fun m6 => zLt (zUp m6 60 10 ((m6 60 10) + (nI 1))) (fun m8 => if (m8 60 16) = 0 then some ((nI 1), m8) else zBd (fX12_endsPiece F m8) (fun r10 m10 => fX12_readsCondition_92 F k40 n m10))))) else zBd (fX12_here F m1) (fun r11 m11 => if r11 = (nI 38) then fX12_readsCondition_180 F k40 m11 else zBd (fX12_here F m11) (fun r12 m12 => if r12 = (nI 124) then fX12_readsCondition_180 F k40 m12 else zBd (fX12_wrongAt F (nI 1) (m12 60 10) m12) (fun r14 m14 => zGb (decide (r14 = 0 ∨ r14 = 1)) (some (r14, m14))))))
def fX12_readsCondition_40 (F : Nat) : Nat → zMem → Option zR
  | 0, _ => none
  | n + 1, μ => zBd (fX12_here F μ) (fun r1 m1 => if r1 = (nI 33) then fX12_readsCondition_58 F (fX12_readsCondition_40 F n) m1 else zBd (fX12_here F m1) (fun r2 m2 => if r2 = (nI 40) then fX12_readsCondition_58 F (fX12_readsCondition_40 F n) m2 else zBd (fX12_readsCompared F m2) (fun r3 m3 => if r3 = 0 then some ((nI 0), m3) else fX12_readsCondition_92 F (fX12_readsCondition_40 F n) F m3)))
def fX12_readsCondition (F : Nat) (μ : zMem) : Option zR :=
  zBd (fX12_here F μ) (fun r1 m1 => if r1 = (nI 40) then zLt (zUp m1 60 14 (nI 0)) (fun m2 => zLt (zUp m2 60 16 (nI 0)) (fun m3 => zBd (fX12_opens F (nI 13) m3) (fun r4 m4 => if r4 = 0 then some ((nI 0), m4) else fX12_readsCondition_40 F F m4))) else zBd (fX12_wrongAt F (nI 1) (m1 60 10) m1) (fun r6 m6 => zGb (decide (r6 = 0 ∨ r6 = 1)) (some (r6, m6))))
set_option maxRecDepth 20000 in
set_option maxHeartbeats 4000000 in
theorem wX12_readsCondition_58 {X : zX} {F : Nat} (hC : zCx X RX12 cX12_readsCondition 1 6) (hret : zRt X (some .boolean)) {k40 : zMem → Option zR} (hk40 : ∀ μ, k40 μ = some (zOut X) → zAW X 40 [some (.ref 60)] [] μ) {μ : zMem} (hf : fX12_readsCondition_58 F k40 μ = some (zOut X)) : zAW X 58 [some (.ref 60)] [] μ := by
  unfold fX12_readsCondition_58 at hf
  refine zs_al hC dX12_readsCondition_58 rfl ?_
  refine zs_al hC dX12_readsCondition_59 rfl ?_
  refine zs_callV [] hC cw_X12_here cl_RX12_119 zL60 rfl (by decide) rfl rfl (Nat.le_of_ble_eq_true rfl) dX12_readsCondition_60 (fun _ h => ctX12_here h) (fun r1 m1 _ hf => ?_) hf
  show zAW X 63 _ (.int r1 :: _) m1
  refine zs_k hC dX12_readsCondition_63 ?_
  refine zs_ic_ne hC dX12_readsCondition_65 (fun _ hf => ?_) (fun _ hf => ?_) hf
  · refine zs_k hC dX12_readsCondition_68 ?_
    refine zs_goto hC dX12_readsCondition_70 ?_
    refine zs_callV [.int (nI 10)] hC cw_X12_opens cl_RX12_154 zL60 rfl (by decide) rfl rfl (Nat.le_of_ble_eq_true rfl) dX12_readsCondition_75 (fun _ h => ctX12_opens h) (fun r2 m2 _ hf => ?_) hf
    show zAW X 78 _ (.int r2 :: _) m2
    refine zs_if_ne hC dX12_readsCondition_78 (fun _ hf => ?_) (fun _ hf => ?_) hf
    · refine zs_k hC dX12_readsCondition_81 ?_
      exact zs_zretK hC hret dX12_readsCondition_82 (by decide) hf
    · exact zAW.weak (hk40 _ hf) (zLw_s zLw_0)
  · refine zs_k hC dX12_readsCondition_73 ?_
    refine zs_callV [.int (nI 13)] hC cw_X12_opens cl_RX12_154 zL60 rfl (by decide) rfl rfl (Nat.le_of_ble_eq_true rfl) dX12_readsCondition_75 (fun _ h => ctX12_opens h) (fun r3 m3 _ hf => ?_) hf
    show zAW X 78 _ (.int r3 :: _) m3
    refine zs_if_ne hC dX12_readsCondition_78 (fun _ hf => ?_) (fun _ hf => ?_) hf
    · refine zs_k hC dX12_readsCondition_81 ?_
      exact zs_zretK hC hret dX12_readsCondition_82 (by decide) hf
    · exact zAW.weak (hk40 _ hf) (zLw_s zLw_0)
set_option maxRecDepth 20000 in
set_option maxHeartbeats 4000000 in
theorem wX12_readsCondition_195 {X : zX} {F : Nat} (hC : zCx X RX12 cX12_readsCondition 1 6) (hret : zRt X (some .boolean)) {k40 : zMem → Option zR} (hk40 : ∀ μ, k40 μ = some (zOut X) → zAW X 40 [some (.ref 60)] [] μ) {s0 : Int32} {μ : zMem} (hf : fX12_readsCondition_195 F k40 s0 μ = some (zOut X)) : zAW X 195 [some (.ref 60)] [.int s0, .ref 60] μ := by
  unfold fX12_readsCondition_195 at hf
  refine zs_callV [.int s0] hC cw_X12_lands cl_RX12_186 zL60 rfl (by decide) rfl rfl (Nat.le_of_ble_eq_true rfl) dX12_readsCondition_195 (fun _ h => ctX12_lands h) (fun r1 m1 _ hf => ?_) hf
  show zAW X 198 _ _ m1
  refine zs_al hC dX12_readsCondition_198 rfl ?_
  refine zs_al hC dX12_readsCondition_199 rfl ?_
  refine zs_callV [] hC cw_X12_here cl_RX12_119 zL60 rfl (by decide) rfl rfl (Nat.le_of_ble_eq_true rfl) dX12_readsCondition_200 (fun _ h => ctX12_here h) (fun r2 m2 _ hf => ?_) hf
  show zAW X 203 _ (.int r2 :: _) m2
  refine zs_k hC dX12_readsCondition_203 ?_
  refine zs_ic_ne hC dX12_readsCondition_205 (fun _ hf => ?_) (fun _ hf => ?_) hf
  · refine zs_k hC dX12_readsCondition_208 ?_
    refine zs_goto hC dX12_readsCondition_210 ?_
    refine zs_callV [.int (nI 11)] hC cw_X12_jumps cl_RX12_189 zL60 rfl (by decide) rfl rfl (Nat.le_of_ble_eq_true rfl) dX12_readsCondition_215 (fun _ h => ctX12_jumps h) (fun r3 m3 _ hf => ?_) hf
    show zAW X 218 _ _ m3
    refine zs_goto hC dX12_readsCondition_218 ?_
    exact zAW.weak (hk40 _ hf) (zLw_s zLw_0)
  · refine zs_k hC dX12_readsCondition_213 ?_
    refine zs_callV [.int (nI 12)] hC cw_X12_jumps cl_RX12_189 zL60 rfl (by decide) rfl rfl (Nat.le_of_ble_eq_true rfl) dX12_readsCondition_215 (fun _ h => ctX12_jumps h) (fun r4 m4 _ hf => ?_) hf
    show zAW X 218 _ _ m4
    refine zs_goto hC dX12_readsCondition_218 ?_
    exact zAW.weak (hk40 _ hf) (zLw_s zLw_0)
set_option maxRecDepth 20000 in
set_option maxHeartbeats 4000000 in
theorem wX12_readsCondition_180 {X : zX} {F : Nat} (hC : zCx X RX12 cX12_readsCondition 1 6) (hret : zRt X (some .boolean)) {k40 : zMem → Option zR} (hk40 : ∀ μ, k40 μ = some (zOut X) → zAW X 40 [some (.ref 60)] [] μ) {μ : zMem} (hf : fX12_readsCondition_180 F k40 μ = some (zOut X)) : zAW X 180 [some (.ref 60)] [] μ := by
  unfold fX12_readsCondition_180 at hf
  refine zs_al hC dX12_readsCondition_180 rfl ?_
  refine zs_al hC dX12_readsCondition_181 rfl ?_
  refine zs_callV [] hC cw_X12_here cl_RX12_119 zL60 rfl (by decide) rfl rfl (Nat.le_of_ble_eq_true rfl) dX12_readsCondition_182 (fun _ h => ctX12_here h) (fun r1 m1 _ hf => ?_) hf
  show zAW X 185 _ (.int r1 :: _) m1
  refine zs_k hC dX12_readsCondition_185 ?_
  refine zs_ic_ne hC dX12_readsCondition_187 (fun _ hf => ?_) (fun _ hf => ?_) hf
  · refine zs_k hC dX12_readsCondition_190 ?_
    refine zs_goto hC dX12_readsCondition_191 ?_
    exact zAW.weak (wX12_readsCondition_195 hC hret hk40 hf) (zLw_s zLw_0)
  · refine zs_k hC dX12_readsCondition_194 ?_
    exact zAW.weak (wX12_readsCondition_195 hC hret hk40 hf) (zLw_s zLw_0)
set_option maxRecDepth 20000 in
set_option maxHeartbeats 4000000 in
theorem wX12_readsCondition_92 {X : zX} {F : Nat} (hC : zCx X RX12 cX12_readsCondition 1 6) (hret : zRt X (some .boolean)) {k40 : zMem → Option zR} (hk40 : ∀ μ, k40 μ = some (zOut X) → zAW X 40 [some (.ref 60)] [] μ) : ∀ (n : Nat) (μ : zMem), fX12_readsCondition_92 F k40 n μ = some (zOut X) → zAW X 92 [some (.ref 60)] [] μ := by
  intro n
  induction n with
  | zero =>
    intro μ hf
    rw [fX12_readsCondition_92] at hf
    cases hf
  | succ n ih =>
    intro μ hf
    rw [fX12_readsCondition_92] at hf
    refine zs_al hC dX12_readsCondition_92 rfl ?_
    refine zs_callV [] hC cw_X12_here cl_RX12_119 zL60 rfl (by decide) rfl rfl (Nat.le_of_ble_eq_true rfl) dX12_readsCondition_93 (fun _ h => ctX12_here h) (fun r1 m1 _ hf => ?_) hf
    show zAW X 96 _ (.int r1 :: _) m1
    refine zs_k hC dX12_readsCondition_96 ?_
    refine zs_ic_ne hC dX12_readsCondition_98 (fun _ hf => ?_) (fun _ hf => ?_) hf
    · refine zs_al hC dX12_readsCondition_101 rfl ?_
      refine zs_k hC dX12_readsCondition_102 ?_
      refine zs_callV [.int (nI 1)] hC cw_X12_lands cl_RX12_186 zL60 rfl (by decide) rfl rfl (Nat.le_of_ble_eq_true rfl) dX12_readsCondition_103 (fun _ h => ctX12_lands h) (fun r2 m2 _ hf => ?_) hf
      show zAW X 106 _ _ m2
      refine zs_al hC dX12_readsCondition_106 rfl ?_
      refine zs_al hC dX12_readsCondition_107 rfl ?_
      refine zs_getI hC fl_RX12_144 zL60 rfl dX12_readsCondition_108 ?_
      refine zs_k hC dX12_readsCondition_111 ?_
      refine zs_isub hC dX12_readsCondition_112 ?_
      refine zs_putI hC fl_RX12_144 fp_12_16 zL60 rfl dX12_readsCondition_113 ?_
      refine zs_let (fun m4 _ hf => ?_) hf
      refine zs_al hC dX12_readsCondition_116 rfl ?_
      refine zs_al hC dX12_readsCondition_117 rfl ?_
      refine zs_getI hC fl_RX12_141 zL60 rfl dX12_readsCondition_118 ?_
      refine zs_k hC dX12_readsCondition_121 ?_
      refine zs_isub hC dX12_readsCondition_122 ?_
      refine zs_putI hC fl_RX12_141 fp_12_14 zL60 rfl dX12_readsCondition_123 ?_
      refine zs_let (fun m6 _ hf => ?_) hf
      refine zs_al hC dX12_readsCondition_126 rfl ?_
      refine zs_al hC dX12_readsCondition_127 rfl ?_
      refine zs_getI hC fl_RX12_113 zL60 rfl dX12_readsCondition_128 ?_
      refine zs_k hC dX12_readsCondition_131 ?_
      refine zs_iadd hC dX12_readsCondition_132 ?_
      refine zs_putI hC fl_RX12_113 fp_12_10 zL60 rfl dX12_readsCondition_133 ?_
      refine zs_let (fun m8 _ hf => ?_) hf
      refine zs_al hC dX12_readsCondition_136 rfl ?_
      refine zs_getI hC fl_RX12_144 zL60 rfl dX12_readsCondition_137 ?_
      refine zs_if_ne hC dX12_readsCondition_140 (fun _ hf => ?_) (fun _ hf => ?_) hf
      · refine zs_k hC dX12_readsCondition_143 ?_
        exact zs_zretK hC hret dX12_readsCondition_144 (by decide) hf
      · refine zs_al hC dX12_readsCondition_145 rfl ?_
        refine zs_callV [] hC cw_X12_endsPiece cl_RX12_180 zL60 rfl (by decide) rfl rfl (Nat.le_of_ble_eq_true rfl) dX12_readsCondition_146 (fun _ h => ctX12_endsPiece h) (fun r10 m10 _ hf => ?_) hf
        show zAW X 149 _ _ m10
        refine zs_goto hC dX12_readsCondition_149 ?_
        exact zAW.weak (ih _ hf) (zLw_s zLw_0)
    · refine zs_al hC dX12_readsCondition_152 rfl ?_
      refine zs_callV [] hC cw_X12_here cl_RX12_119 zL60 rfl (by decide) rfl rfl (Nat.le_of_ble_eq_true rfl) dX12_readsCondition_153 (fun _ h => ctX12_here h) (fun r11 m11 _ hf => ?_) hf
      show zAW X 156 _ (.int r11 :: _) m11
      refine zs_k hC dX12_readsCondition_156 ?_
      refine zs_ic_eq hC dX12_readsCondition_158 (fun _ hf => ?_) (fun _ hf => ?_) hf
      · exact zAW.weak (wX12_readsCondition_180 hC hret hk40 hf) (zLw_s zLw_0)
      · refine zs_al hC dX12_readsCondition_161 rfl ?_
        refine zs_callV [] hC cw_X12_here cl_RX12_119 zL60 rfl (by decide) rfl rfl (Nat.le_of_ble_eq_true rfl) dX12_readsCondition_162 (fun _ h => ctX12_here h) (fun r12 m12 _ hf => ?_) hf
        show zAW X 165 _ (.int r12 :: _) m12
        refine zs_k hC dX12_readsCondition_165 ?_
        refine zs_ic_eq hC dX12_readsCondition_167 (fun _ hf => ?_) (fun _ hf => ?_) hf
        · exact zAW.weak (wX12_readsCondition_180 hC hret hk40 hf) (zLw_s zLw_0)
        · refine zs_al hC dX12_readsCondition_170 rfl ?_
          refine zs_k hC dX12_readsCondition_171 ?_
          refine zs_al hC dX12_readsCondition_172 rfl ?_
          refine zs_getI hC fl_RX12_113 zL60 rfl dX12_readsCondition_173 ?_
          refine zs_callV [.int (nI 1), .int (m12 60 10)] hC cw_X12_wrongAt cl_RX12_126 zL60 rfl (by decide) rfl rfl (Nat.le_of_ble_eq_true rfl) dX12_readsCondition_176 (fun _ h => ctX12_wrongAt h) (fun r14 m14 _ hf => ?_) hf
          show zAW X 179 _ (.int r14 :: _) m14
          exact zs_zret hC hret dX12_readsCondition_179 hf
set_option maxRecDepth 20000 in
set_option maxHeartbeats 4000000 in
theorem wX12_readsCondition_40 {X : zX} {F : Nat} (hC : zCx X RX12 cX12_readsCondition 1 6) (hret : zRt X (some .boolean)) : ∀ (n : Nat) (μ : zMem), fX12_readsCondition_40 F n μ = some (zOut X) → zAW X 40 [some (.ref 60)] [] μ := by
  intro n
  induction n with
  | zero =>
    intro μ hf
    rw [fX12_readsCondition_40] at hf
    cases hf
  | succ n ih =>
    intro μ hf
    rw [fX12_readsCondition_40] at hf
    refine zs_al hC dX12_readsCondition_40 rfl ?_
    refine zs_callV [] hC cw_X12_here cl_RX12_119 zL60 rfl (by decide) rfl rfl (Nat.le_of_ble_eq_true rfl) dX12_readsCondition_41 (fun _ h => ctX12_here h) (fun r1 m1 _ hf => ?_) hf
    show zAW X 44 _ (.int r1 :: _) m1
    refine zs_k hC dX12_readsCondition_44 ?_
    refine zs_ic_eq hC dX12_readsCondition_46 (fun _ hf => ?_) (fun _ hf => ?_) hf
    · exact zAW.weak (wX12_readsCondition_58 hC hret (ih) hf) (zLw_s zLw_0)
    · refine zs_al hC dX12_readsCondition_49 rfl ?_
      refine zs_callV [] hC cw_X12_here cl_RX12_119 zL60 rfl (by decide) rfl rfl (Nat.le_of_ble_eq_true rfl) dX12_readsCondition_50 (fun _ h => ctX12_here h) (fun r2 m2 _ hf => ?_) hf
      show zAW X 53 _ (.int r2 :: _) m2
      refine zs_k hC dX12_readsCondition_53 ?_
      refine zs_ic_ne hC dX12_readsCondition_55 (fun _ hf => ?_) (fun _ hf => ?_) hf
      · exact zAW.weak (wX12_readsCondition_58 hC hret (ih) hf) (zLw_s zLw_0)
      · refine zs_al hC dX12_readsCondition_83 rfl ?_
        refine zs_callV [] hC cw_X12_readsCompared cl_RX12_183 zL60 rfl (by decide) rfl rfl (Nat.le_of_ble_eq_true rfl) dX12_readsCondition_84 (fun _ h => ctX12_readsCompared h) (fun r3 m3 _ hf => ?_) hf
        show zAW X 87 _ (.int r3 :: _) m3
        refine zs_if_ne hC dX12_readsCondition_87 (fun _ hf => ?_) (fun _ hf => ?_) hf
        · refine zs_k hC dX12_readsCondition_90 ?_
          exact zs_zretK hC hret dX12_readsCondition_91 (by decide) hf
        · exact zAW.weak (wX12_readsCondition_92 hC hret (ih) F _ hf) (zLw_s zLw_0)
set_option maxRecDepth 20000 in
set_option maxHeartbeats 4000000 in
theorem wX12_readsCondition {X : zX} {F : Nat} (hC : zCx X RX12 cX12_readsCondition 1 6) (hret : zRt X (some .boolean)) {μ : zMem} (hf : fX12_readsCondition F μ = some (zOut X)) : zAW X 0 [some (.ref 60)] [] μ := by
  unfold fX12_readsCondition at hf
  refine zs_al hC dX12_readsCondition_0 rfl ?_
  refine zs_callV [] hC cw_X12_here cl_RX12_119 zL60 rfl (by decide) rfl rfl (Nat.le_of_ble_eq_true rfl) dX12_readsCondition_1 (fun _ h => ctX12_here h) (fun r1 m1 _ hf => ?_) hf
  show zAW X 4 _ (.int r1 :: _) m1
  refine zs_k hC dX12_readsCondition_4 ?_
  refine zs_ic_eq hC dX12_readsCondition_6 (fun _ hf => ?_) (fun _ hf => ?_) hf
  · refine zs_al hC dX12_readsCondition_19 rfl ?_
    refine zs_k hC dX12_readsCondition_20 ?_
    refine zs_putI hC fl_RX12_141 fp_12_14 zL60 rfl dX12_readsCondition_21 ?_
    refine zs_let (fun m2 _ hf => ?_) hf
    refine zs_al hC dX12_readsCondition_24 rfl ?_
    refine zs_k hC dX12_readsCondition_25 ?_
    refine zs_putI hC fl_RX12_144 fp_12_16 zL60 rfl dX12_readsCondition_26 ?_
    refine zs_let (fun m3 _ hf => ?_) hf
    refine zs_al hC dX12_readsCondition_29 rfl ?_
    refine zs_k hC dX12_readsCondition_30 ?_
    refine zs_callV [.int (nI 13)] hC cw_X12_opens cl_RX12_154 zL60 rfl (by decide) rfl rfl (Nat.le_of_ble_eq_true rfl) dX12_readsCondition_32 (fun _ h => ctX12_opens h) (fun r4 m4 _ hf => ?_) hf
    show zAW X 35 _ (.int r4 :: _) m4
    refine zs_if_ne hC dX12_readsCondition_35 (fun _ hf => ?_) (fun _ hf => ?_) hf
    · refine zs_k hC dX12_readsCondition_38 ?_
      exact zs_zretK hC hret dX12_readsCondition_39 (by decide) hf
    · exact zAW.weak (wX12_readsCondition_40 hC hret F _ hf) (zLw_s zLw_0)
  · refine zs_al hC dX12_readsCondition_9 rfl ?_
    refine zs_k hC dX12_readsCondition_10 ?_
    refine zs_al hC dX12_readsCondition_11 rfl ?_
    refine zs_getI hC fl_RX12_113 zL60 rfl dX12_readsCondition_12 ?_
    refine zs_callV [.int (nI 1), .int (m1 60 10)] hC cw_X12_wrongAt cl_RX12_126 zL60 rfl (by decide) rfl rfl (Nat.le_of_ble_eq_true rfl) dX12_readsCondition_15 (fun _ h => ctX12_wrongAt h) (fun r6 m6 _ hf => ?_) hf
    show zAW X 18 _ (.int r6 :: _) m6
    exact zs_zret hC hret dX12_readsCondition_18 hf
set_option maxRecDepth 20000 in
set_option maxHeartbeats 4000000 in
theorem ctX12_readsCondition {E : zEV} {F : Nat} {μ : zMem} {out : zR} (hf : fX12_readsCondition F μ = some out) : zCt E yX12_readsCondition cX12_readsCondition 1 (some .boolean) 6 [.ref 60] μ out :=
  zCt.of [some (.ref 60)] (by decide +kernel) (Nat.le_of_ble_eq_true rfl) (zLw_s zLw_0) rfl (fun X hE ho hr hC => by
    subst hE; subst ho
    exact wX12_readsCondition hC hr hf)
/-! X12_readsRule -/
def fX12_readsRule_116 (F : Nat) (μ : zMem) : Option zR :=
  zG (μ 60 17) 16 (zLt (zUp μ 73 (μ 60 17).toNatClampNeg (μ 60 15)) (fun m4 => zBd (fX12_readsCondition F m4) (fun r5 m5 => if r5 = 0 then some ((nI 0), m5) else zG (m5 60 17) 16 (zLt (zUp m5 74 (m5 60 17).toNatClampNeg (m5 60 15)) (fun m9 => zLt (zUp m9 60 17 ((m9 60 17) + (nI 1))) (fun m11 => some ((nI 1), m11)))))))
def fX12_readsRule_39 (F : Nat) (v1 : Int32) (μ : zMem) : Option zR :=
  if (μ 60 17) = (nI 16) then zBd (fX12_wrongAt F (nI 4) (μ 60 10) μ) (fun r3 m3 => zGb (decide (r3 = 0 ∨ r3 = 1)) (some (r3, m3))) else zG (μ 60 17) 16 (zLt (zUp μ 71 (μ 60 17).toNatClampNeg v1) (fun m6 => zLt (zUp m6 60 10 ((m6 60 10) + (nI 1))) (fun m8 => zG (m8 60 17) 16 (zLt (zUp m8 72 (m8 60 17).toNatClampNeg (m8 60 15)) (fun m12 => zLt (zUp m12 60 14 (nI 0)) (fun m13 => zLt (zUp m13 60 16 (nI 0)) (fun m14 => if v1 = (nI 114) then fX12_readsRule_116 F m14 else zBd (fX12_readsSum F m14) (fun r15 m15 => if r15 = 0 then some ((nI 0), m15) else fX12_readsRule_116 F m15))))))))
def fX12_readsRule (F : Nat) (μ : zMem) : Option zR :=
  zBd (fX12_here F μ) (fun r1 m1 => if r1 = (nI 101) then fX12_readsRule_39 F r1 m1 else if r1 = (nI 104) then fX12_readsRule_39 F r1 m1 else if r1 = (nI 109) then fX12_readsRule_39 F r1 m1 else if r1 = (nI 114) then fX12_readsRule_39 F r1 m1 else zBd (fX12_wrongAt F (nI 1) (m1 60 10) m1) (fun r3 m3 => zGb (decide (r3 = 0 ∨ r3 = 1)) (some (r3, m3))))
set_option maxRecDepth 20000 in
set_option maxHeartbeats 4000000 in
theorem wX12_readsRule_116 {X : zX} {F : Nat} (hC : zCx X RX12 cX12_readsRule 2 7) (hret : zRt X (some .boolean)) {μ : zMem} (hf : fX12_readsRule_116 F μ = some (zOut X)) : zAW X 116 [some (.ref 60), none] [] μ := by
  unfold fX12_readsRule_116 at hf
  refine zs_al hC dX12_readsRule_116 rfl ?_
  refine zs_getR 73 hC fl_RX12_47 zL60 rfl dX12_readsRule_117 ?_
  refine zs_al hC dX12_readsRule_120 rfl ?_
  refine zs_getI hC fl_RX12_192 zL60 rfl dX12_readsRule_121 ?_
  refine zs_al hC dX12_readsRule_124 rfl ?_
  refine zs_getI hC fl_RX12_137 zL60 rfl dX12_readsRule_125 ?_
  refine zs_iast hC zL73 dX12_readsRule_128 (fun _ hf => ?_) hf
  refine zs_let (fun m4 _ hf => ?_) hf
  refine zs_al hC dX12_readsRule_129 rfl ?_
  refine zs_callV [] hC cw_X12_readsCondition cl_RX12_195 zL60 rfl (by decide) rfl rfl (Nat.le_of_ble_eq_true rfl) dX12_readsRule_130 (fun _ h => ctX12_readsCondition h) (fun r5 m5 _ hf => ?_) hf
  show zAW X 133 _ (.int r5 :: _) m5
  refine zs_if_ne hC dX12_readsRule_133 (fun _ hf => ?_) (fun _ hf => ?_) hf
  · refine zs_k hC dX12_readsRule_136 ?_
    exact zs_zretK hC hret dX12_readsRule_137 (by decide) hf
  · refine zs_al hC dX12_readsRule_138 rfl ?_
    refine zs_getR 74 hC fl_RX12_50 zL60 rfl dX12_readsRule_139 ?_
    refine zs_al hC dX12_readsRule_142 rfl ?_
    refine zs_getI hC fl_RX12_192 zL60 rfl dX12_readsRule_143 ?_
    refine zs_al hC dX12_readsRule_146 rfl ?_
    refine zs_getI hC fl_RX12_137 zL60 rfl dX12_readsRule_147 ?_
    refine zs_iast hC zL74 dX12_readsRule_150 (fun _ hf => ?_) hf
    refine zs_let (fun m9 _ hf => ?_) hf
    refine zs_al hC dX12_readsRule_151 rfl ?_
    refine zs_al hC dX12_readsRule_152 rfl ?_
    refine zs_getI hC fl_RX12_192 zL60 rfl dX12_readsRule_153 ?_
    refine zs_k hC dX12_readsRule_156 ?_
    refine zs_iadd hC dX12_readsRule_157 ?_
    refine zs_putI hC fl_RX12_192 fp_12_17 zL60 rfl dX12_readsRule_158 ?_
    refine zs_let (fun m11 _ hf => ?_) hf
    refine zs_k hC dX12_readsRule_161 ?_
    exact zs_zretK hC hret dX12_readsRule_162 (by decide) hf
set_option maxRecDepth 20000 in
set_option maxHeartbeats 4000000 in
theorem wX12_readsRule_39 {X : zX} {F : Nat} (hC : zCx X RX12 cX12_readsRule 2 7) (hret : zRt X (some .boolean)) {v1 : Int32} {μ : zMem} (hf : fX12_readsRule_39 F v1 μ = some (zOut X)) : zAW X 39 [some (.ref 60), some (.int v1)] [] μ := by
  unfold fX12_readsRule_39 at hf
  refine zs_al hC dX12_readsRule_39 rfl ?_
  refine zs_getI hC fl_RX12_192 zL60 rfl dX12_readsRule_40 ?_
  refine zs_k hC dX12_readsRule_43 ?_
  refine zs_ic_ne hC dX12_readsRule_45 (fun _ hf => ?_) (fun _ hf => ?_) hf
  · refine zs_al hC dX12_readsRule_48 rfl ?_
    refine zs_k hC dX12_readsRule_49 ?_
    refine zs_al hC dX12_readsRule_50 rfl ?_
    refine zs_getI hC fl_RX12_113 zL60 rfl dX12_readsRule_51 ?_
    refine zs_callV [.int (nI 4), .int (μ 60 10)] hC cw_X12_wrongAt cl_RX12_126 zL60 rfl (by decide) rfl rfl (Nat.le_of_ble_eq_true rfl) dX12_readsRule_54 (fun _ h => ctX12_wrongAt h) (fun r3 m3 _ hf => ?_) hf
    show zAW X 57 _ (.int r3 :: _) m3
    exact zs_zret hC hret dX12_readsRule_57 hf
  · refine zs_al hC dX12_readsRule_58 rfl ?_
    refine zs_getR 71 hC fl_RX12_41 zL60 rfl dX12_readsRule_59 ?_
    refine zs_al hC dX12_readsRule_62 rfl ?_
    refine zs_getI hC fl_RX12_192 zL60 rfl dX12_readsRule_63 ?_
    refine zs_il hC dX12_readsRule_66 rfl ?_
    refine zs_iast hC zL71 dX12_readsRule_67 (fun _ hf => ?_) hf
    refine zs_let (fun m6 _ hf => ?_) hf
    refine zs_al hC dX12_readsRule_68 rfl ?_
    refine zs_al hC dX12_readsRule_69 rfl ?_
    refine zs_getI hC fl_RX12_113 zL60 rfl dX12_readsRule_70 ?_
    refine zs_k hC dX12_readsRule_73 ?_
    refine zs_iadd hC dX12_readsRule_74 ?_
    refine zs_putI hC fl_RX12_113 fp_12_10 zL60 rfl dX12_readsRule_75 ?_
    refine zs_let (fun m8 _ hf => ?_) hf
    refine zs_al hC dX12_readsRule_78 rfl ?_
    refine zs_getR 72 hC fl_RX12_44 zL60 rfl dX12_readsRule_79 ?_
    refine zs_al hC dX12_readsRule_82 rfl ?_
    refine zs_getI hC fl_RX12_192 zL60 rfl dX12_readsRule_83 ?_
    refine zs_al hC dX12_readsRule_86 rfl ?_
    refine zs_getI hC fl_RX12_137 zL60 rfl dX12_readsRule_87 ?_
    refine zs_iast hC zL72 dX12_readsRule_90 (fun _ hf => ?_) hf
    refine zs_let (fun m12 _ hf => ?_) hf
    refine zs_al hC dX12_readsRule_91 rfl ?_
    refine zs_k hC dX12_readsRule_92 ?_
    refine zs_putI hC fl_RX12_141 fp_12_14 zL60 rfl dX12_readsRule_93 ?_
    refine zs_let (fun m13 _ hf => ?_) hf
    refine zs_al hC dX12_readsRule_96 rfl ?_
    refine zs_k hC dX12_readsRule_97 ?_
    refine zs_putI hC fl_RX12_144 fp_12_16 zL60 rfl dX12_readsRule_98 ?_
    refine zs_let (fun m14 _ hf => ?_) hf
    refine zs_il hC dX12_readsRule_101 rfl ?_
    refine zs_k hC dX12_readsRule_102 ?_
    refine zs_ic_eq hC dX12_readsRule_104 (fun _ hf => ?_) (fun _ hf => ?_) hf
    · exact zAW.weak (wX12_readsRule_116 hC hret hf) (zLw_s (zLw_n zLw_0))
    · refine zs_al hC dX12_readsRule_107 rfl ?_
      refine zs_callV [] hC cw_X12_readsSum cl_RX12_177 zL60 rfl (by decide) rfl rfl (Nat.le_of_ble_eq_true rfl) dX12_readsRule_108 (fun _ h => ctX12_readsSum h) (fun r15 m15 _ hf => ?_) hf
      show zAW X 111 _ (.int r15 :: _) m15
      refine zs_if_ne hC dX12_readsRule_111 (fun _ hf => ?_) (fun _ hf => ?_) hf
      · refine zs_k hC dX12_readsRule_114 ?_
        exact zs_zretK hC hret dX12_readsRule_115 (by decide) hf
      · exact zAW.weak (wX12_readsRule_116 hC hret hf) (zLw_s (zLw_n zLw_0))
set_option maxRecDepth 20000 in
set_option maxHeartbeats 4000000 in
theorem wX12_readsRule {X : zX} {F : Nat} (hC : zCx X RX12 cX12_readsRule 2 7) (hret : zRt X (some .boolean)) {μ : zMem} (hf : fX12_readsRule F μ = some (zOut X)) : zAW X 0 [some (.ref 60), none] [] μ := by
  unfold fX12_readsRule at hf
  refine zs_al hC dX12_readsRule_0 rfl ?_
  refine zs_callV [] hC cw_X12_here cl_RX12_119 zL60 rfl (by decide) rfl rfl (Nat.le_of_ble_eq_true rfl) dX12_readsRule_1 (fun _ h => ctX12_here h) (fun r1 m1 _ hf => ?_) hf
  show zAW X 4 _ (.int r1 :: _) m1
  refine zs_is hC dX12_readsRule_4 (by decide) rfl ?_
  refine zs_il hC dX12_readsRule_5 rfl ?_
  refine zs_k hC dX12_readsRule_6 ?_
  refine zs_ic_eq hC dX12_readsRule_8 (fun _ hf => ?_) (fun _ hf => ?_) hf
  · exact zAW.weak (wX12_readsRule_39 hC hret hf) (zLw_s (zLw_s zLw_0))
  · refine zs_il hC dX12_readsRule_11 rfl ?_
    refine zs_k hC dX12_readsRule_12 ?_
    refine zs_ic_eq hC dX12_readsRule_14 (fun _ hf => ?_) (fun _ hf => ?_) hf
    · exact zAW.weak (wX12_readsRule_39 hC hret hf) (zLw_s (zLw_s zLw_0))
    · refine zs_il hC dX12_readsRule_17 rfl ?_
      refine zs_k hC dX12_readsRule_18 ?_
      refine zs_ic_eq hC dX12_readsRule_20 (fun _ hf => ?_) (fun _ hf => ?_) hf
      · exact zAW.weak (wX12_readsRule_39 hC hret hf) (zLw_s (zLw_s zLw_0))
      · refine zs_il hC dX12_readsRule_23 rfl ?_
        refine zs_k hC dX12_readsRule_24 ?_
        refine zs_ic_eq hC dX12_readsRule_26 (fun _ hf => ?_) (fun _ hf => ?_) hf
        · exact zAW.weak (wX12_readsRule_39 hC hret hf) (zLw_s (zLw_s zLw_0))
        · refine zs_al hC dX12_readsRule_29 rfl ?_
          refine zs_k hC dX12_readsRule_30 ?_
          refine zs_al hC dX12_readsRule_31 rfl ?_
          refine zs_getI hC fl_RX12_113 zL60 rfl dX12_readsRule_32 ?_
          refine zs_callV [.int (nI 1), .int (m1 60 10)] hC cw_X12_wrongAt cl_RX12_126 zL60 rfl (by decide) rfl rfl (Nat.le_of_ble_eq_true rfl) dX12_readsRule_35 (fun _ h => ctX12_wrongAt h) (fun r3 m3 _ hf => ?_) hf
          show zAW X 38 _ (.int r3 :: _) m3
          exact zs_zret hC hret dX12_readsRule_38 hf
set_option maxRecDepth 20000 in
set_option maxHeartbeats 4000000 in
theorem ctX12_readsRule {E : zEV} {F : Nat} {μ : zMem} {out : zR} (hf : fX12_readsRule F μ = some out) : zCt E yX12_readsRule cX12_readsRule 2 (some .boolean) 7 [.ref 60] μ out :=
  zCt.of [some (.ref 60), none] (by decide +kernel) (Nat.le_of_ble_eq_true rfl) (zLw_s (zLw_e zLw_0)) rfl (fun X hE ho hr hC => by
    subst hE; subst ho
    exact wX12_readsRule hC hr hf)
/-! X12_beginsText -/
def fX12_beginsText (F : Nat) (v1 : Int32) (μ : zMem) : Option zR :=
  zLt (zUp μ 60 10 (nI 0)) (fun m1 => zLt (zUp m1 60 11 v1) (fun m2 => zLt (zUp m2 60 15 (nI 0)) (fun m3 => zLt (zUp m3 60 17 (nI 0)) (fun m4 => some ((nI 0), m4)))))
set_option maxRecDepth 20000 in
set_option maxHeartbeats 4000000 in
theorem wX12_beginsText {X : zX} {F : Nat} (hC : zCx X RX12 cX12_beginsText 2 0) (hret : zRt X none) {v1 : Int32} {μ : zMem} (hf : fX12_beginsText F v1 μ = some (zOut X)) : zAW X 0 [some (.ref 60), some (.int v1)] [] μ := by
  unfold fX12_beginsText at hf
  refine zs_al hC dX12_beginsText_0 rfl ?_
  refine zs_k hC dX12_beginsText_1 ?_
  refine zs_putI hC fl_RX12_113 fp_12_10 zL60 rfl dX12_beginsText_2 ?_
  refine zs_let (fun m1 _ hf => ?_) hf
  refine zs_al hC dX12_beginsText_5 rfl ?_
  refine zs_il hC dX12_beginsText_6 rfl ?_
  refine zs_putI hC fl_RX12_116 fp_12_11 zL60 rfl dX12_beginsText_7 ?_
  refine zs_let (fun m2 _ hf => ?_) hf
  refine zs_al hC dX12_beginsText_10 rfl ?_
  refine zs_k hC dX12_beginsText_11 ?_
  refine zs_putI hC fl_RX12_137 fp_12_15 zL60 rfl dX12_beginsText_12 ?_
  refine zs_let (fun m3 _ hf => ?_) hf
  refine zs_al hC dX12_beginsText_15 rfl ?_
  refine zs_k hC dX12_beginsText_16 ?_
  refine zs_putI hC fl_RX12_192 fp_12_17 zL60 rfl dX12_beginsText_17 ?_
  refine zs_let (fun m4 _ hf => ?_) hf
  exact zs_vret hC hret dX12_beginsText_20 hf
set_option maxRecDepth 20000 in
set_option maxHeartbeats 4000000 in
theorem ctX12_beginsText {E : zEV} {F : Nat} {v1 : Int32} {μ : zMem} {out : zR} (hf : fX12_beginsText F v1 μ = some out) : zCt E yX12_beginsText cX12_beginsText 2 none 0 [.ref 60, .int v1] μ out :=
  zCt.of [some (.ref 60), some (.int v1)] (by decide +kernel) (Nat.le_of_ble_eq_true rfl) (zLw_s (zLw_s zLw_0)) rfl (fun X hE ho hr hC => by
    subst hE; subst ho
    exact wX12_beginsText hC hr hf)
/-! X12_law -/
def fX12_law_123 (F : Nat) : Nat → Int32 → zMem → Option zR
  | 0, _, _ => none
  | n + 1, v3, μ => if (μ 60 17) ≤ v3 then some ((μ 60 17), μ) else zG v3 16 (zG v3 16 (zLt (zUp μ 76 v3.toNatClampNeg (μ 71 v3.toNatClampNeg)) (fun m5 => zG v3 16 (zG v3 16 (zLt (zUp m5 77 v3.toNatClampNeg (m5 72 v3.toNatClampNeg)) (fun m8 => zG v3 16 (zG v3 16 (zLt (zUp m8 78 v3.toNatClampNeg (m8 73 v3.toNatClampNeg)) (fun m11 => zG v3 16 (zG v3 16 (zLt (zUp m11 79 v3.toNatClampNeg (m11 74 v3.toNatClampNeg)) (fun m14 => fX12_law_123 F n (v3 + (nI 1)) m14))))))))))))
def fX12_law_95 (F : Nat) : Nat → Int32 → zMem → Option zR
  | 0, _, _ => none
  | n + 1, v3, μ => if (μ 60 15) ≤ v3 then fX12_law_123 F F (nI 0) μ else zG v3 260 (zG v3 260 (zLt (zUp μ 75 v3.toNatClampNeg (μ 69 v3.toNatClampNeg)) (fun m4 => fX12_law_95 F n (v3 + (nI 1)) m4)))
def fX12_law_71 (F : Nat) (v2 : Int32) (μ : zMem) : Option zR :=
  zLt (zUp μ 60 9 (nI 0)) (fun m1 => if v2 = 0 then some ((m1 60 12), m1) else zLt (zUp m1 60 18 (m1 60 17)) (fun m4 => fX12_law_95 F F (nI 0) m4))
def fX12_law_31 (F : Nat) : Nat → Int32 → zMem → Option zR
  | 0, _, _ => none
  | n + 1, v2, μ => if v2 = 0 then fX12_law_71 F v2 μ else if (μ 60 11) ≤ (μ 60 10) then fX12_law_71 F v2 μ else zBd (fX12_takes F (nI 59) μ) (fun r3 m3 => if r3 = 0 then fX12_law_31 F n (nI 0) m3 else zBd (fX12_readsRule F m3) (fun r4 m4 => if r4 = 0 then fX12_law_31 F n (nI 0) m4 else fX12_law_31 F n (nI 1) m4))
def fX12_law (F : Nat) (v1 : Int32) (μ : zMem) : Option zR :=
  zBd (fX12_in F v1 (nI 1) (nI 240) μ) (fun r1 m1 => if r1 = 0 then some ((-1 : Int32), m1) else if v1 ≤ (m1 60 9) then zBd (fX12_beginsText F v1 m1) (fun r3 m3 => zBd (fX12_readsRule F m3) (fun r4 m4 => fX12_law_31 F F r4 m4)) else some ((-1 : Int32), m1))
set_option maxRecDepth 20000 in
set_option maxHeartbeats 4000000 in
theorem wX12_law_123 {X : zX} {F : Nat} (hC : zCx X RX12 cX12_law 4 8) (hret : zRt X (some .int)) : ∀ (n : Nat) (v3 : Int32) (μ : zMem), fX12_law_123 F n v3 μ = some (zOut X) → zAW X 123 [some (.ref 60), none, none, some (.int v3)] [] μ := by
  intro n
  induction n with
  | zero =>
    intro v3 μ hf
    rw [fX12_law_123] at hf
    cases hf
  | succ n ih =>
    intro v3 μ hf
    rw [fX12_law_123] at hf
    refine zs_il hC dX12_law_123 rfl ?_
    refine zs_al hC dX12_law_124 rfl ?_
    refine zs_getI hC fl_RX12_192 zL60 rfl dX12_law_125 ?_
    refine zs_ic_ge hC dX12_law_128 (fun _ hf => ?_) (fun _ hf => ?_) hf
    · refine zs_al hC dX12_law_185 rfl ?_
      refine zs_getI hC fl_RX12_192 zL60 rfl dX12_law_186 ?_
      exact zs_iret hC hret dX12_law_189 hf
    · refine zs_al hC dX12_law_131 rfl ?_
      refine zs_getR 76 hC fl_RX12_56 zL60 rfl dX12_law_132 ?_
      refine zs_il hC dX12_law_135 rfl ?_
      refine zs_al hC dX12_law_136 rfl ?_
      refine zs_getR 71 hC fl_RX12_41 zL60 rfl dX12_law_137 ?_
      refine zs_il hC dX12_law_140 rfl ?_
      refine zs_iald hC zL71 dX12_law_141 (fun _ hf => ?_) hf
      refine zs_iast hC zL76 dX12_law_142 (fun _ hf => ?_) hf
      refine zs_let (fun m5 _ hf => ?_) hf
      refine zs_al hC dX12_law_143 rfl ?_
      refine zs_getR 77 hC fl_RX12_59 zL60 rfl dX12_law_144 ?_
      refine zs_il hC dX12_law_147 rfl ?_
      refine zs_al hC dX12_law_148 rfl ?_
      refine zs_getR 72 hC fl_RX12_44 zL60 rfl dX12_law_149 ?_
      refine zs_il hC dX12_law_152 rfl ?_
      refine zs_iald hC zL72 dX12_law_153 (fun _ hf => ?_) hf
      refine zs_iast hC zL77 dX12_law_154 (fun _ hf => ?_) hf
      refine zs_let (fun m8 _ hf => ?_) hf
      refine zs_al hC dX12_law_155 rfl ?_
      refine zs_getR 78 hC fl_RX12_62 zL60 rfl dX12_law_156 ?_
      refine zs_il hC dX12_law_159 rfl ?_
      refine zs_al hC dX12_law_160 rfl ?_
      refine zs_getR 73 hC fl_RX12_47 zL60 rfl dX12_law_161 ?_
      refine zs_il hC dX12_law_164 rfl ?_
      refine zs_iald hC zL73 dX12_law_165 (fun _ hf => ?_) hf
      refine zs_iast hC zL78 dX12_law_166 (fun _ hf => ?_) hf
      refine zs_let (fun m11 _ hf => ?_) hf
      refine zs_al hC dX12_law_167 rfl ?_
      refine zs_getR 79 hC fl_RX12_65 zL60 rfl dX12_law_168 ?_
      refine zs_il hC dX12_law_171 rfl ?_
      refine zs_al hC dX12_law_172 rfl ?_
      refine zs_getR 74 hC fl_RX12_50 zL60 rfl dX12_law_173 ?_
      refine zs_il hC dX12_law_176 rfl ?_
      refine zs_iald hC zL74 dX12_law_177 (fun _ hf => ?_) hf
      refine zs_iast hC zL79 dX12_law_178 (fun _ hf => ?_) hf
      refine zs_let (fun m14 _ hf => ?_) hf
      refine zs_iinc (nI 1) hC dX12_law_179 (by decide) rfl (by decide) rfl ?_
      refine zs_goto hC dX12_law_182 ?_
      exact zAW.weak (ih _ _ hf) (zLw_s (zLw_n (zLw_n (zLw_s zLw_0))))
set_option maxRecDepth 20000 in
set_option maxHeartbeats 4000000 in
theorem wX12_law_95 {X : zX} {F : Nat} (hC : zCx X RX12 cX12_law 4 8) (hret : zRt X (some .int)) : ∀ (n : Nat) (v3 : Int32) (μ : zMem), fX12_law_95 F n v3 μ = some (zOut X) → zAW X 95 [some (.ref 60), none, none, some (.int v3)] [] μ := by
  intro n
  induction n with
  | zero =>
    intro v3 μ hf
    rw [fX12_law_95] at hf
    cases hf
  | succ n ih =>
    intro v3 μ hf
    rw [fX12_law_95] at hf
    refine zs_il hC dX12_law_95 rfl ?_
    refine zs_al hC dX12_law_96 rfl ?_
    refine zs_getI hC fl_RX12_137 zL60 rfl dX12_law_97 ?_
    refine zs_ic_ge hC dX12_law_100 (fun _ hf => ?_) (fun _ hf => ?_) hf
    · refine zs_k hC dX12_law_121 ?_
      refine zs_is hC dX12_law_122 (by decide) rfl ?_
      exact zAW.weak (wX12_law_123 hC hret F _ _ hf) (zLw_s (zLw_n (zLw_n (zLw_s zLw_0))))
    · refine zs_al hC dX12_law_103 rfl ?_
      refine zs_getR 75 hC fl_RX12_53 zL60 rfl dX12_law_104 ?_
      refine zs_il hC dX12_law_107 rfl ?_
      refine zs_al hC dX12_law_108 rfl ?_
      refine zs_getR 69 hC fl_RX12_35 zL60 rfl dX12_law_109 ?_
      refine zs_il hC dX12_law_112 rfl ?_
      refine zs_iald hC zL69 dX12_law_113 (fun _ hf => ?_) hf
      refine zs_iast hC zL75 dX12_law_114 (fun _ hf => ?_) hf
      refine zs_let (fun m4 _ hf => ?_) hf
      refine zs_iinc (nI 1) hC dX12_law_115 (by decide) rfl (by decide) rfl ?_
      refine zs_goto hC dX12_law_118 ?_
      exact zAW.weak (ih _ _ hf) (zLw_s (zLw_n (zLw_n (zLw_s zLw_0))))
set_option maxRecDepth 20000 in
set_option maxHeartbeats 4000000 in
theorem wX12_law_71 {X : zX} {F : Nat} (hC : zCx X RX12 cX12_law 4 8) (hret : zRt X (some .int)) {v2 : Int32} {μ : zMem} (hf : fX12_law_71 F v2 μ = some (zOut X)) : zAW X 71 [some (.ref 60), none, some (.int v2), none] [] μ := by
  unfold fX12_law_71 at hf
  refine zs_al hC dX12_law_71 rfl ?_
  refine zs_k hC dX12_law_72 ?_
  refine zs_putI hC fl_RX12_105 fp_12_9 zL60 rfl dX12_law_73 ?_
  refine zs_let (fun m1 _ hf => ?_) hf
  refine zs_il hC dX12_law_76 rfl ?_
  refine zs_if_ne hC dX12_law_77 (fun _ hf => ?_) (fun _ hf => ?_) hf
  · refine zs_al hC dX12_law_80 rfl ?_
    refine zs_getI hC fl_RX12_123 zL60 rfl dX12_law_81 ?_
    exact zs_iret hC hret dX12_law_84 hf
  · refine zs_al hC dX12_law_85 rfl ?_
    refine zs_al hC dX12_law_86 rfl ?_
    refine zs_getI hC fl_RX12_192 zL60 rfl dX12_law_87 ?_
    refine zs_putI hC fl_RX12_207 fp_12_18 zL60 rfl dX12_law_90 ?_
    refine zs_let (fun m4 _ hf => ?_) hf
    refine zs_k hC dX12_law_93 ?_
    refine zs_is hC dX12_law_94 (by decide) rfl ?_
    exact zAW.weak (wX12_law_95 hC hret F _ _ hf) (zLw_s (zLw_n (zLw_n (zLw_s zLw_0))))
set_option maxRecDepth 20000 in
set_option maxHeartbeats 4000000 in
theorem wX12_law_31 {X : zX} {F : Nat} (hC : zCx X RX12 cX12_law 4 8) (hret : zRt X (some .int)) : ∀ (n : Nat) (v2 : Int32) (μ : zMem), fX12_law_31 F n v2 μ = some (zOut X) → zAW X 31 [some (.ref 60), none, some (.int v2), none] [] μ := by
  intro n
  induction n with
  | zero =>
    intro v2 μ hf
    rw [fX12_law_31] at hf
    cases hf
  | succ n ih =>
    intro v2 μ hf
    rw [fX12_law_31] at hf
    refine zs_il hC dX12_law_31 rfl ?_
    refine zs_if_eq hC dX12_law_32 (fun _ hf => ?_) (fun _ hf => ?_) hf
    · exact zAW.weak (wX12_law_71 hC hret hf) (zLw_s (zLw_n (zLw_s (zLw_n zLw_0))))
    · refine zs_al hC dX12_law_35 rfl ?_
      refine zs_getI hC fl_RX12_113 zL60 rfl dX12_law_36 ?_
      refine zs_al hC dX12_law_39 rfl ?_
      refine zs_getI hC fl_RX12_116 zL60 rfl dX12_law_40 ?_
      refine zs_ic_ge hC dX12_law_43 (fun _ hf => ?_) (fun _ hf => ?_) hf
      · exact zAW.weak (wX12_law_71 hC hret hf) (zLw_s (zLw_n (zLw_s (zLw_n zLw_0))))
      · refine zs_al hC dX12_law_46 rfl ?_
        refine zs_k hC dX12_law_47 ?_
        refine zs_callV [.int (nI 59)] hC cw_X12_takes cl_RX12_204 zL60 rfl (by decide) rfl rfl (Nat.le_of_ble_eq_true rfl) dX12_law_49 (fun _ h => ctX12_takes h) (fun r3 m3 _ hf => ?_) hf
        show zAW X 52 _ (.int r3 :: _) m3
        refine zs_if_eq hC dX12_law_52 (fun _ hf => ?_) (fun _ hf => ?_) hf
        · refine zs_k hC dX12_law_66 ?_
          refine zs_is hC dX12_law_67 (by decide) rfl ?_
          refine zs_goto hC dX12_law_68 ?_
          exact zAW.weak (ih _ _ hf) (zLw_s (zLw_n (zLw_s (zLw_n zLw_0))))
        · refine zs_al hC dX12_law_55 rfl ?_
          refine zs_callV [] hC cw_X12_readsRule cl_RX12_201 zL60 rfl (by decide) rfl rfl (Nat.le_of_ble_eq_true rfl) dX12_law_56 (fun _ h => ctX12_readsRule h) (fun r4 m4 _ hf => ?_) hf
          show zAW X 59 _ (.int r4 :: _) m4
          refine zs_if_eq hC dX12_law_59 (fun _ hf => ?_) (fun _ hf => ?_) hf
          · refine zs_k hC dX12_law_66 ?_
            refine zs_is hC dX12_law_67 (by decide) rfl ?_
            refine zs_goto hC dX12_law_68 ?_
            exact zAW.weak (ih _ _ hf) (zLw_s (zLw_n (zLw_s (zLw_n zLw_0))))
          · refine zs_k hC dX12_law_62 ?_
            refine zs_goto hC dX12_law_63 ?_
            refine zs_is hC dX12_law_67 (by decide) rfl ?_
            refine zs_goto hC dX12_law_68 ?_
            exact zAW.weak (ih _ _ hf) (zLw_s (zLw_n (zLw_s (zLw_n zLw_0))))
set_option maxRecDepth 20000 in
set_option maxHeartbeats 4000000 in
theorem wX12_law {X : zX} {F : Nat} (hC : zCx X RX12 cX12_law 4 8) (hret : zRt X (some .int)) {v1 : Int32} {μ : zMem} (hf : fX12_law F v1 μ = some (zOut X)) : zAW X 0 [some (.ref 60), some (.int v1), none, none] [] μ := by
  unfold fX12_law at hf
  refine zs_il hC dX12_law_0 rfl ?_
  refine zs_k hC dX12_law_1 ?_
  refine zs_k hC dX12_law_2 ?_
  refine zs_callS [.int v1, .int (nI 1), .int (nI 240)] hC cw_X12_in cl_RX12_96 (by decide) rfl rfl (Nat.le_of_ble_eq_true rfl) dX12_law_5 (fun _ h => ctX12_in h) (fun r1 m1 _ hf => ?_) hf
  show zAW X 8 _ (.int r1 :: _) m1
  refine zs_if_eq hC dX12_law_8 (fun _ hf => ?_) (fun _ hf => ?_) hf
  · refine zs_k hC dX12_law_19 ?_
    exact zs_iret hC hret dX12_law_20 hf
  · refine zs_il hC dX12_law_11 rfl ?_
    refine zs_al hC dX12_law_12 rfl ?_
    refine zs_getI hC fl_RX12_105 zL60 rfl dX12_law_13 ?_
    refine zs_ic_le hC dX12_law_16 (fun _ hf => ?_) (fun _ hf => ?_) hf
    · refine zs_al hC dX12_law_21 rfl ?_
      refine zs_il hC dX12_law_22 rfl ?_
      refine zs_callV [.int v1] hC cw_X12_beginsText cl_RX12_198 zL60 rfl (by decide) rfl rfl (Nat.le_of_ble_eq_true rfl) dX12_law_23 (fun _ h => ctX12_beginsText h) (fun r3 m3 _ hf => ?_) hf
      show zAW X 26 _ _ m3
      refine zs_al hC dX12_law_26 rfl ?_
      refine zs_callV [] hC cw_X12_readsRule cl_RX12_201 zL60 rfl (by decide) rfl rfl (Nat.le_of_ble_eq_true rfl) dX12_law_27 (fun _ h => ctX12_readsRule h) (fun r4 m4 _ hf => ?_) hf
      show zAW X 30 _ (.int r4 :: _) m4
      refine zs_is hC dX12_law_30 (by decide) rfl ?_
      exact zAW.weak (wX12_law_31 hC hret F _ _ hf) (zLw_s (zLw_n (zLw_s (zLw_n zLw_0))))
    · refine zs_k hC dX12_law_19 ?_
      exact zs_iret hC hret dX12_law_20 hf
set_option maxRecDepth 20000 in
set_option maxHeartbeats 4000000 in
theorem ctX12_law {E : zEV} {F : Nat} {v1 : Int32} {μ : zMem} {out : zR} (hf : fX12_law F v1 μ = some out) : zCt E yX12_law cX12_law 4 (some .int) 8 [.ref 60, .int v1] μ out :=
  zCt.of [some (.ref 60), some (.int v1), none, none] (by decide +kernel) (Nat.le_of_ble_eq_true rfl) (zLw_s (zLw_s (zLw_e (zLw_e zLw_0)))) rfl (fun X hE ho hr hC => by
    subst hE; subst ho
    exact wX12_law hC hr hf)
/-! X12_reckon -/
def fX12_reckon (F : Nat) (v0 : Int32) (v1 : Int32) (v2 : Int32) (μ : zMem) : Option zR :=
  (if v0 = (nI 2) then some ((v1 + v2), μ) else if v0 = (nI 3) then some ((v1 - v2), μ) else if v0 = (nI 4) then some ((v1 * v2), μ) else if v0 = (nI 5) then zGz v2 (some ((v1 / v2), μ)) else if v0 = (nI 6) then zGz v2 (some ((v1 % v2), μ)) else if v0 = (nI 7) then if v2 ≤ v1 then some ((nI 0), μ) else some ((nI 1), μ) else if v0 = (nI 8) then if v1 ≤ v2 then some ((nI 0), μ) else some ((nI 1), μ) else if v1 = v2 then some ((nI 1), μ) else some ((nI 0), μ))
set_option maxRecDepth 20000 in
set_option maxHeartbeats 4000000 in
theorem wX12_reckon {X : zX} {F : Nat} (hC : zCx X RX12 cX12_reckon 3 0) (hret : zRt X (some .int)) {v0 : Int32} {v1 : Int32} {v2 : Int32} {μ : zMem} (hf : fX12_reckon F v0 v1 v2 μ = some (zOut X)) : zAW X 0 [some (.int v0), some (.int v1), some (.int v2)] [] μ := by
  unfold fX12_reckon at hf
  refine zs_il hC dX12_reckon_0 rfl ?_
  refine zs_case (nI 2) (fun hx hf => ?_) (fun e1_2 hf => ?_) hf
  · refine zs_tabI (off := 43) (tgt := 44) hC hx dX12_reckon_1 (by decide) (by decide) rfl (by decide) ?_
    refine zs_il hC dX12_reckon_44 rfl ?_
    refine zs_il hC dX12_reckon_45 rfl ?_
    refine zs_iadd hC dX12_reckon_46 ?_
    exact zs_iret hC hret dX12_reckon_47 hf
  refine zs_case (nI 3) (fun hx hf => ?_) (fun e1_3 hf => ?_) hf
  · refine zs_tabI (off := 47) (tgt := 48) hC hx dX12_reckon_1 (by decide) (by decide) rfl (by decide) ?_
    refine zs_il hC dX12_reckon_48 rfl ?_
    refine zs_il hC dX12_reckon_49 rfl ?_
    refine zs_isub hC dX12_reckon_50 ?_
    exact zs_iret hC hret dX12_reckon_51 hf
  refine zs_case (nI 4) (fun hx hf => ?_) (fun e1_4 hf => ?_) hf
  · refine zs_tabI (off := 51) (tgt := 52) hC hx dX12_reckon_1 (by decide) (by decide) rfl (by decide) ?_
    refine zs_il hC dX12_reckon_52 rfl ?_
    refine zs_il hC dX12_reckon_53 rfl ?_
    refine zs_imul hC dX12_reckon_54 ?_
    exact zs_iret hC hret dX12_reckon_55 hf
  refine zs_case (nI 5) (fun hx hf => ?_) (fun e1_5 hf => ?_) hf
  · refine zs_tabI (off := 55) (tgt := 56) hC hx dX12_reckon_1 (by decide) (by decide) rfl (by decide) ?_
    refine zs_il hC dX12_reckon_56 rfl ?_
    refine zs_il hC dX12_reckon_57 rfl ?_
    refine zs_idiv hC dX12_reckon_58 (fun _ hf => ?_) hf
    exact zs_iret hC hret dX12_reckon_59 hf
  refine zs_case (nI 6) (fun hx hf => ?_) (fun e1_6 hf => ?_) hf
  · refine zs_tabI (off := 59) (tgt := 60) hC hx dX12_reckon_1 (by decide) (by decide) rfl (by decide) ?_
    refine zs_il hC dX12_reckon_60 rfl ?_
    refine zs_il hC dX12_reckon_61 rfl ?_
    refine zs_irem hC dX12_reckon_62 (fun _ hf => ?_) hf
    exact zs_iret hC hret dX12_reckon_63 hf
  refine zs_case (nI 7) (fun hx hf => ?_) (fun e1_7 hf => ?_) hf
  · refine zs_tabI (off := 63) (tgt := 64) hC hx dX12_reckon_1 (by decide) (by decide) rfl (by decide) ?_
    refine zs_il hC dX12_reckon_64 rfl ?_
    refine zs_il hC dX12_reckon_65 rfl ?_
    refine zs_ic_ge hC dX12_reckon_66 (fun _ hf => ?_) (fun _ hf => ?_) hf
    · refine zs_k hC dX12_reckon_73 ?_
      exact zs_iret hC hret dX12_reckon_74 hf
    · refine zs_k hC dX12_reckon_69 ?_
      refine zs_goto hC dX12_reckon_70 ?_
      exact zs_iret hC hret dX12_reckon_74 hf
  refine zs_case (nI 8) (fun hx hf => ?_) (fun e1_8 hf => ?_) hf
  · refine zs_tabI (off := 74) (tgt := 75) hC hx dX12_reckon_1 (by decide) (by decide) rfl (by decide) ?_
    refine zs_il hC dX12_reckon_75 rfl ?_
    refine zs_il hC dX12_reckon_76 rfl ?_
    refine zs_ic_le hC dX12_reckon_77 (fun _ hf => ?_) (fun _ hf => ?_) hf
    · refine zs_k hC dX12_reckon_84 ?_
      exact zs_iret hC hret dX12_reckon_85 hf
    · refine zs_k hC dX12_reckon_80 ?_
      refine zs_goto hC dX12_reckon_81 ?_
      exact zs_iret hC hret dX12_reckon_85 hf
  have e1_2 := lv_neT (a := 2) e1_2 (by decide)
  have e1_3 := lv_neT (a := 3) e1_3 (by decide)
  have e1_4 := lv_neT (a := 4) e1_4 (by decide)
  have e1_5 := lv_neT (a := 5) e1_5 (by decide)
  have e1_6 := lv_neT (a := 6) e1_6 (by decide)
  have e1_7 := lv_neT (a := 7) e1_7 (by decide)
  have e1_8 := lv_neT (a := 8) e1_8 (by decide)
  refine zs_tabO (tgt := 86) hC dX12_reckon_1 (by omega) (by decide) ?_
  refine zs_il hC dX12_reckon_86 rfl ?_
  refine zs_il hC dX12_reckon_87 rfl ?_
  refine zs_ic_ne hC dX12_reckon_88 (fun _ hf => ?_) (fun _ hf => ?_) hf
  · refine zs_k hC dX12_reckon_91 ?_
    refine zs_goto hC dX12_reckon_92 ?_
    exact zs_iret hC hret dX12_reckon_96 hf
  · refine zs_k hC dX12_reckon_95 ?_
    exact zs_iret hC hret dX12_reckon_96 hf
set_option maxRecDepth 20000 in
set_option maxHeartbeats 4000000 in
theorem ctX12_reckon {E : zEV} {F : Nat} {v0 : Int32} {v1 : Int32} {v2 : Int32} {μ : zMem} {out : zR} (hf : fX12_reckon F v0 v1 v2 μ = some out) : zCt E yX12_reckon cX12_reckon 3 (some .int) 0 [.int v0, .int v1, .int v2] μ out :=
  zCt.of [some (.int v0), some (.int v1), some (.int v2)] (by decide +kernel) (Nat.le_of_ble_eq_true rfl) (zLw_s (zLw_s (zLw_s zLw_0))) rfl (fun X hE ho hr hC => by
    subst hE; subst ho
    exact wX12_reckon hC hr hf)
/-! X12_reckonsTo -/
def fX12_reckonsTo_63 (F : Nat) (k16 : Int32 → Int32 → Int32 → Int32 → zMem → Option zR) (v2 : Int32) (v3 : Int32) (v4 : Int32) (v5 : Int32) (v6 : Int32) (v7 : Int32) (μ : zMem) : Option zR :=
  if v6 = 0 then zG v3 260 (zLt (zUp μ 80 v3.toNatClampNeg v7) (fun m2 => k16 v2 (v3 + (nI 1)) v4 v5 m2)) else zG v7 9 (zG v3 260 (zLt (zUp μ 80 v3.toNatClampNeg (μ 81 v7.toNatClampNeg)) (fun m4 => k16 v2 (v3 + (nI 1)) v4 v5 m4)))
def fX12_reckonsTo_155 (F : Nat) (k16 : Int32 → Int32 → Int32 → Int32 → zMem → Option zR) (v2 : Int32) (v3 : Int32) (v4 : Int32) (v5 : Int32) (v7 : Int32) (s0 : Int32) (s1 : Int32) (μ : zMem) : Option zR :=
  if s1 = s0 then k16 v2 v3 v4 (v4 + v7) μ else k16 v2 (v3 - (nI 1)) v4 v5 μ
def fX12_reckonsTo_135 (F : Nat) (k16 : Int32 → Int32 → Int32 → Int32 → zMem → Option zR) (v2 : Int32) (v3 : Int32) (v4 : Int32) (v5 : Int32) (v6 : Int32) (v7 : Int32) (μ : zMem) : Option zR :=
  zG (v3 - (nI 1)) 260 (if v6 = (nI 12) then fX12_reckonsTo_155 F k16 v2 v3 v4 v5 v7 (nI 1) (μ 80 (v3 - (nI 1)).toNatClampNeg) μ else fX12_reckonsTo_155 F k16 v2 v3 v4 v5 v7 (nI 0) (μ 80 (v3 - (nI 1)).toNatClampNeg) μ)
def fX12_reckonsTo_203 (F : Nat) (k16 : Int32 → Int32 → Int32 → Int32 → zMem → Option zR) (v2 : Int32) (v3 : Int32) (v4 : Int32) (v5 : Int32) (v6 : Int32) (μ : zMem) : Option zR :=
  zG (v3 - (nI 1)) 260 (zG v3 260 (zBd (fX12_reckon F v6 (μ 80 (v3 - (nI 1)).toNatClampNeg) (μ 80 v3.toNatClampNeg) μ) (fun r4 m4 => zG (v3 - (nI 1)) 260 (zLt (zUp m4 80 (v3 - (nI 1)).toNatClampNeg r4) (fun m5 => k16 v2 v3 v4 v5 m5)))))
def fX12_reckonsTo_192 (F : Nat) (k16 : Int32 → Int32 → Int32 → Int32 → zMem → Option zR) (v2 : Int32) (v3 : Int32) (v4 : Int32) (v5 : Int32) (v6 : Int32) (μ : zMem) : Option zR :=
  zG v3 260 (if (μ 80 v3.toNatClampNeg) = 0 then some ((nI 0), μ) else fX12_reckonsTo_203 F k16 v2 v3 v4 v5 v6 μ)
def fX12_reckonsTo_16 (F : Nat) : Nat → Int32 → Int32 → Int32 → Int32 → zMem → Option zR
  | 0, _, _, _, _, _ => none
  | n + 1, v2, v3, v4, v5, μ => if v2 ≤ v5 then zG (nI 0) 260 (some ((μ 80 (nI 0).toNatClampNeg), μ)) else zG v5 260 (zGz (nI 1048576) (zG v5 260 (zGz (nI 1048576) (if ((μ 75 v5.toNatClampNeg) / (nI 1048576)) = 0 then fX12_reckonsTo_63 F (fX12_reckonsTo_16 F n) v2 v3 v4 (v5 + (nI 1)) ((μ 75 v5.toNatClampNeg) / (nI 1048576)) ((μ 75 v5.toNatClampNeg) % (nI 1048576)) μ else if ((μ 75 v5.toNatClampNeg) / (nI 1048576)) = (nI 1) then fX12_reckonsTo_63 F (fX12_reckonsTo_16 F n) v2 v3 v4 (v5 + (nI 1)) ((μ 75 v5.toNatClampNeg) / (nI 1048576)) ((μ 75 v5.toNatClampNeg) % (nI 1048576)) μ else if ((μ 75 v5.toNatClampNeg) / (nI 1048576)) = (nI 10) then zG (v3 - (nI 1)) 260 (zG (v3 - (nI 1)) 260 (zLt (zUp μ 80 (v3 - (nI 1)).toNatClampNeg ((nI 1) - (μ 80 (v3 - (nI 1)).toNatClampNeg))) (fun m6 => fX12_reckonsTo_16 F n v2 v3 v4 (v5 + (nI 1)) m6))) else if ((μ 75 v5.toNatClampNeg) / (nI 1048576)) = (nI 11) then fX12_reckonsTo_135 F (fX12_reckonsTo_16 F n) v2 v3 v4 (v5 + (nI 1)) ((μ 75 v5.toNatClampNeg) / (nI 1048576)) ((μ 75 v5.toNatClampNeg) % (nI 1048576)) μ else if ((μ 75 v5.toNatClampNeg) / (nI 1048576)) = (nI 12) then fX12_reckonsTo_135 F (fX12_reckonsTo_16 F n) v2 v3 v4 (v5 + (nI 1)) ((μ 75 v5.toNatClampNeg) / (nI 1048576)) ((μ 75 v5.toNatClampNeg) % (nI 1048576)) μ else if ((μ 75 v5.toNatClampNeg) / (nI 1048576)) = (nI 5) then fX12_reckonsTo_192 F (fX12_reckonsTo_16 F n) v2 (v3 - (nI 1)) v4 (v5 + (nI 1)) ((μ 75 v5.toNatClampNeg) / (nI 1048576)) μ else if ((μ 75 v5.toNatClampNeg) / (nI 1048576)) = (nI 6) then fX12_reckonsTo_192 F (fX12_reckonsTo_16 F n) v2 (v3 - (nI 1)) v4 (v5 + (nI 1)) ((μ 75 v5.toNatClampNeg) / (nI 1048576)) μ else fX12_reckonsTo_203 F (fX12_reckonsTo_16 F n) v2 (v3 - (nI 1)) v4 (v5 + (nI 1)) ((μ 75 v5.toNatClampNeg) / (nI 1048576)) μ))))
def fX12_reckonsTo (F : Nat) (v1 : Int32) (v2 : Int32) (μ : zMem) : Option zR :=
  zGz (nI 260) (fX12_reckonsTo_16 F F v2 (nI 0) ((nI 260) * (v1 / (nI 260))) v1 μ)
set_option maxRecDepth 20000 in
set_option maxHeartbeats 4000000 in
theorem wX12_reckonsTo_63 {X : zX} {F : Nat} (hC : zCx X RX12 cX12_reckonsTo 8 1) (hret : zRt X (some .int)) {k16 : Int32 → Int32 → Int32 → Int32 → zMem → Option zR} (hk16 : ∀ v2 v3 v4 v5 μ, k16 v2 v3 v4 v5 μ = some (zOut X) → zAW X 16 [some (.ref 60), none, some (.int v2), some (.int v3), some (.int v4), some (.int v5), none, none] [] μ) {v2 : Int32} {v3 : Int32} {v4 : Int32} {v5 : Int32} {v6 : Int32} {v7 : Int32} {μ : zMem} (hf : fX12_reckonsTo_63 F k16 v2 v3 v4 v5 v6 v7 μ = some (zOut X)) : zAW X 63 [some (.ref 60), none, some (.int v2), some (.int v3), some (.int v4), some (.int v5), some (.int v6), some (.int v7)] [] μ := by
  unfold fX12_reckonsTo_63 at hf
  refine zs_al hC dX12_reckonsTo_63 rfl ?_
  refine zs_getR 80 hC fl_RX12_68 zL60 rfl dX12_reckonsTo_64 ?_
  refine zs_il hC dX12_reckonsTo_67 rfl ?_
  refine zs_il hC dX12_reckonsTo_68 rfl ?_
  refine zs_if_ne hC dX12_reckonsTo_70 (fun _ hf => ?_) (fun _ hf => ?_) hf
  · refine zs_il hC dX12_reckonsTo_73 rfl ?_
    refine zs_goto hC dX12_reckonsTo_75 ?_
    refine zs_iast hC zL80 dX12_reckonsTo_85 (fun _ hf => ?_) hf
    refine zs_let (fun m2 _ hf => ?_) hf
    refine zs_il hC dX12_reckonsTo_86 rfl ?_
    refine zs_k hC dX12_reckonsTo_87 ?_
    refine zs_iadd hC dX12_reckonsTo_88 ?_
    refine zs_is hC dX12_reckonsTo_89 (by decide) rfl ?_
    refine zs_goto hC dX12_reckonsTo_90 ?_
    refine zs_goto hC dX12_reckonsTo_230 ?_
    exact zAW.weak (hk16 _ _ _ _ _ hf) (zLw_s (zLw_n (zLw_s (zLw_s (zLw_s (zLw_s (zLw_n (zLw_n zLw_0))))))))
  · refine zs_al hC dX12_reckonsTo_78 rfl ?_
    refine zs_getR 81 hC fl_RX12_71 zL60 rfl dX12_reckonsTo_79 ?_
    refine zs_il hC dX12_reckonsTo_82 rfl ?_
    refine zs_iald hC zL81 dX12_reckonsTo_84 (fun _ hf => ?_) hf
    refine zs_iast hC zL80 dX12_reckonsTo_85 (fun _ hf => ?_) hf
    refine zs_let (fun m4 _ hf => ?_) hf
    refine zs_il hC dX12_reckonsTo_86 rfl ?_
    refine zs_k hC dX12_reckonsTo_87 ?_
    refine zs_iadd hC dX12_reckonsTo_88 ?_
    refine zs_is hC dX12_reckonsTo_89 (by decide) rfl ?_
    refine zs_goto hC dX12_reckonsTo_90 ?_
    refine zs_goto hC dX12_reckonsTo_230 ?_
    exact zAW.weak (hk16 _ _ _ _ _ hf) (zLw_s (zLw_n (zLw_s (zLw_s (zLw_s (zLw_s (zLw_n (zLw_n zLw_0))))))))
set_option maxRecDepth 20000 in
set_option maxHeartbeats 4000000 in
theorem wX12_reckonsTo_155 {X : zX} {F : Nat} (hC : zCx X RX12 cX12_reckonsTo 8 1) (hret : zRt X (some .int)) {k16 : Int32 → Int32 → Int32 → Int32 → zMem → Option zR} (hk16 : ∀ v2 v3 v4 v5 μ, k16 v2 v3 v4 v5 μ = some (zOut X) → zAW X 16 [some (.ref 60), none, some (.int v2), some (.int v3), some (.int v4), some (.int v5), none, none] [] μ) {v2 : Int32} {v3 : Int32} {v4 : Int32} {v5 : Int32} {v7 : Int32} {s0 : Int32} {s1 : Int32} {μ : zMem} (hf : fX12_reckonsTo_155 F k16 v2 v3 v4 v5 v7 s0 s1 μ = some (zOut X)) : zAW X 155 [some (.ref 60), none, some (.int v2), some (.int v3), some (.int v4), some (.int v5), none, some (.int v7)] [.int s0, .int s1] μ := by
  unfold fX12_reckonsTo_155 at hf
  refine zs_ic_ne hC dX12_reckonsTo_155 (fun _ hf => ?_) (fun _ hf => ?_) hf
  · refine zs_il hC dX12_reckonsTo_158 rfl ?_
    refine zs_il hC dX12_reckonsTo_160 rfl ?_
    refine zs_iadd hC dX12_reckonsTo_162 ?_
    refine zs_is hC dX12_reckonsTo_163 (by decide) rfl ?_
    refine zs_goto hC dX12_reckonsTo_165 ?_
    refine zs_goto hC dX12_reckonsTo_230 ?_
    exact zAW.weak (hk16 _ _ _ _ _ hf) (zLw_s (zLw_n (zLw_s (zLw_s (zLw_s (zLw_s (zLw_n (zLw_n zLw_0))))))))
  · refine zs_il hC dX12_reckonsTo_168 rfl ?_
    refine zs_k hC dX12_reckonsTo_169 ?_
    refine zs_isub hC dX12_reckonsTo_170 ?_
    refine zs_is hC dX12_reckonsTo_171 (by decide) rfl ?_
    refine zs_goto hC dX12_reckonsTo_172 ?_
    refine zs_goto hC dX12_reckonsTo_230 ?_
    exact zAW.weak (hk16 _ _ _ _ _ hf) (zLw_s (zLw_n (zLw_s (zLw_s (zLw_s (zLw_s (zLw_n (zLw_n zLw_0))))))))
set_option maxRecDepth 20000 in
set_option maxHeartbeats 4000000 in
theorem wX12_reckonsTo_135 {X : zX} {F : Nat} (hC : zCx X RX12 cX12_reckonsTo 8 1) (hret : zRt X (some .int)) {k16 : Int32 → Int32 → Int32 → Int32 → zMem → Option zR} (hk16 : ∀ v2 v3 v4 v5 μ, k16 v2 v3 v4 v5 μ = some (zOut X) → zAW X 16 [some (.ref 60), none, some (.int v2), some (.int v3), some (.int v4), some (.int v5), none, none] [] μ) {v2 : Int32} {v3 : Int32} {v4 : Int32} {v5 : Int32} {v6 : Int32} {v7 : Int32} {μ : zMem} (hf : fX12_reckonsTo_135 F k16 v2 v3 v4 v5 v6 v7 μ = some (zOut X)) : zAW X 135 [some (.ref 60), none, some (.int v2), some (.int v3), some (.int v4), some (.int v5), some (.int v6), some (.int v7)] [] μ := by
  unfold fX12_reckonsTo_135 at hf
  refine zs_al hC dX12_reckonsTo_135 rfl ?_
  refine zs_getR 80 hC fl_RX12_68 zL60 rfl dX12_reckonsTo_136 ?_
  refine zs_il hC dX12_reckonsTo_139 rfl ?_
  refine zs_k hC dX12_reckonsTo_140 ?_
  refine zs_isub hC dX12_reckonsTo_141 ?_
  refine zs_iald hC zL80 dX12_reckonsTo_142 (fun _ hf => ?_) hf
  refine zs_il hC dX12_reckonsTo_143 rfl ?_
  refine zs_k hC dX12_reckonsTo_145 ?_
  refine zs_ic_ne hC dX12_reckonsTo_147 (fun _ hf => ?_) (fun _ hf => ?_) hf
  · refine zs_k hC dX12_reckonsTo_150 ?_
    refine zs_goto hC dX12_reckonsTo_151 ?_
    exact zAW.weak (wX12_reckonsTo_155 hC hret hk16 hf) (zLw_s (zLw_n (zLw_s (zLw_s (zLw_s (zLw_s (zLw_n (zLw_s zLw_0))))))))
  · refine zs_k hC dX12_reckonsTo_154 ?_
    exact zAW.weak (wX12_reckonsTo_155 hC hret hk16 hf) (zLw_s (zLw_n (zLw_s (zLw_s (zLw_s (zLw_s (zLw_n (zLw_s zLw_0))))))))
set_option maxRecDepth 20000 in
set_option maxHeartbeats 4000000 in
theorem wX12_reckonsTo_203 {X : zX} {F : Nat} (hC : zCx X RX12 cX12_reckonsTo 8 1) (hret : zRt X (some .int)) {k16 : Int32 → Int32 → Int32 → Int32 → zMem → Option zR} (hk16 : ∀ v2 v3 v4 v5 μ, k16 v2 v3 v4 v5 μ = some (zOut X) → zAW X 16 [some (.ref 60), none, some (.int v2), some (.int v3), some (.int v4), some (.int v5), none, none] [] μ) {v2 : Int32} {v3 : Int32} {v4 : Int32} {v5 : Int32} {v6 : Int32} {μ : zMem} (hf : fX12_reckonsTo_203 F k16 v2 v3 v4 v5 v6 μ = some (zOut X)) : zAW X 203 [some (.ref 60), none, some (.int v2), some (.int v3), some (.int v4), some (.int v5), some (.int v6), none] [] μ := by
  unfold fX12_reckonsTo_203 at hf
  refine zs_al hC dX12_reckonsTo_203 rfl ?_
  refine zs_getR 80 hC fl_RX12_68 zL60 rfl dX12_reckonsTo_204 ?_
  refine zs_il hC dX12_reckonsTo_207 rfl ?_
  refine zs_k hC dX12_reckonsTo_208 ?_
  refine zs_isub hC dX12_reckonsTo_209 ?_
  refine zs_il hC dX12_reckonsTo_210 rfl ?_
  refine zs_al hC dX12_reckonsTo_212 rfl ?_
  refine zs_getR 80 hC fl_RX12_68 zL60 rfl dX12_reckonsTo_213 ?_
  refine zs_il hC dX12_reckonsTo_216 rfl ?_
  refine zs_k hC dX12_reckonsTo_217 ?_
  refine zs_isub hC dX12_reckonsTo_218 ?_
  refine zs_iald hC zL80 dX12_reckonsTo_219 (fun _ hf => ?_) hf
  refine zs_al hC dX12_reckonsTo_220 rfl ?_
  refine zs_getR 80 hC fl_RX12_68 zL60 rfl dX12_reckonsTo_221 ?_
  refine zs_il hC dX12_reckonsTo_224 rfl ?_
  refine zs_iald hC zL80 dX12_reckonsTo_225 (fun _ hf => ?_) hf
  refine zs_callS [.int v6, .int (μ 80 (v3 - (nI 1)).toNatClampNeg), .int (μ 80 v3.toNatClampNeg)] hC cw_X12_reckon cl_RX12_210 (by decide) rfl rfl (Nat.le_of_ble_eq_true rfl) dX12_reckonsTo_226 (fun _ h => ctX12_reckon h) (fun r4 m4 _ hf => ?_) hf
  show zAW X 229 _ (.int r4 :: _) m4
  refine zs_iast hC zL80 dX12_reckonsTo_229 (fun _ hf => ?_) hf
  refine zs_let (fun m5 _ hf => ?_) hf
  refine zs_goto hC dX12_reckonsTo_230 ?_
  exact zAW.weak (hk16 _ _ _ _ _ hf) (zLw_s (zLw_n (zLw_s (zLw_s (zLw_s (zLw_s (zLw_n (zLw_n zLw_0))))))))
set_option maxRecDepth 20000 in
set_option maxHeartbeats 4000000 in
theorem wX12_reckonsTo_192 {X : zX} {F : Nat} (hC : zCx X RX12 cX12_reckonsTo 8 1) (hret : zRt X (some .int)) {k16 : Int32 → Int32 → Int32 → Int32 → zMem → Option zR} (hk16 : ∀ v2 v3 v4 v5 μ, k16 v2 v3 v4 v5 μ = some (zOut X) → zAW X 16 [some (.ref 60), none, some (.int v2), some (.int v3), some (.int v4), some (.int v5), none, none] [] μ) {v2 : Int32} {v3 : Int32} {v4 : Int32} {v5 : Int32} {v6 : Int32} {μ : zMem} (hf : fX12_reckonsTo_192 F k16 v2 v3 v4 v5 v6 μ = some (zOut X)) : zAW X 192 [some (.ref 60), none, some (.int v2), some (.int v3), some (.int v4), some (.int v5), some (.int v6), none] [] μ := by
  unfold fX12_reckonsTo_192 at hf
  refine zs_al hC dX12_reckonsTo_192 rfl ?_
  refine zs_getR 80 hC fl_RX12_68 zL60 rfl dX12_reckonsTo_193 ?_
  refine zs_il hC dX12_reckonsTo_196 rfl ?_
  refine zs_iald hC zL80 dX12_reckonsTo_197 (fun _ hf => ?_) hf
  refine zs_if_ne hC dX12_reckonsTo_198 (fun _ hf => ?_) (fun _ hf => ?_) hf
  · refine zs_k hC dX12_reckonsTo_201 ?_
    exact zs_iret hC hret dX12_reckonsTo_202 hf
  · exact zAW.weak (wX12_reckonsTo_203 hC hret hk16 hf) (zLw_s (zLw_n (zLw_s (zLw_s (zLw_s (zLw_s (zLw_s (zLw_n zLw_0))))))))
set_option maxRecDepth 20000 in
set_option maxHeartbeats 4000000 in
theorem wX12_reckonsTo_16 {X : zX} {F : Nat} (hC : zCx X RX12 cX12_reckonsTo 8 1) (hret : zRt X (some .int)) : ∀ (n : Nat) (v2 : Int32) (v3 : Int32) (v4 : Int32) (v5 : Int32) (μ : zMem), fX12_reckonsTo_16 F n v2 v3 v4 v5 μ = some (zOut X) → zAW X 16 [some (.ref 60), none, some (.int v2), some (.int v3), some (.int v4), some (.int v5), none, none] [] μ := by
  intro n
  induction n with
  | zero =>
    intro v2 v3 v4 v5 μ hf
    rw [fX12_reckonsTo_16] at hf
    cases hf
  | succ n ih =>
    intro v2 v3 v4 v5 μ hf
    rw [fX12_reckonsTo_16] at hf
    refine zs_il hC dX12_reckonsTo_16 rfl ?_
    refine zs_il hC dX12_reckonsTo_18 rfl ?_
    refine zs_ic_ge hC dX12_reckonsTo_19 (fun _ hf => ?_) (fun _ hf => ?_) hf
    · refine zs_al hC dX12_reckonsTo_233 rfl ?_
      refine zs_getR 80 hC fl_RX12_68 zL60 rfl dX12_reckonsTo_234 ?_
      refine zs_k hC dX12_reckonsTo_237 ?_
      refine zs_iald hC zL80 dX12_reckonsTo_238 (fun _ hf => ?_) hf
      exact zs_iret hC hret dX12_reckonsTo_239 hf
    · refine zs_al hC dX12_reckonsTo_22 rfl ?_
      refine zs_getR 75 hC fl_RX12_53 zL60 rfl dX12_reckonsTo_23 ?_
      refine zs_il hC dX12_reckonsTo_26 rfl ?_
      refine zs_iald hC zL75 dX12_reckonsTo_28 (fun _ hf => ?_) hf
      refine zs_ldc hC kc_RX12_140 dX12_reckonsTo_29 ?_
      refine zs_idiv hC dX12_reckonsTo_31 (fun _ hf => ?_) hf
      refine zs_is hC dX12_reckonsTo_32 (by decide) rfl ?_
      refine zs_al hC dX12_reckonsTo_34 rfl ?_
      refine zs_getR 75 hC fl_RX12_53 zL60 rfl dX12_reckonsTo_35 ?_
      refine zs_il hC dX12_reckonsTo_38 rfl ?_
      refine zs_iald hC zL75 dX12_reckonsTo_40 (fun _ hf => ?_) hf
      refine zs_ldc hC kc_RX12_140 dX12_reckonsTo_41 ?_
      refine zs_irem hC dX12_reckonsTo_43 (fun _ hf => ?_) hf
      refine zs_is hC dX12_reckonsTo_44 (by decide) rfl ?_
      refine zs_il hC dX12_reckonsTo_46 rfl ?_
      refine zs_k hC dX12_reckonsTo_48 ?_
      refine zs_iadd hC dX12_reckonsTo_49 ?_
      refine zs_is hC dX12_reckonsTo_50 (by decide) rfl ?_
      refine zs_il hC dX12_reckonsTo_52 rfl ?_
      refine zs_if_eq hC dX12_reckonsTo_54 (fun _ hf => ?_) (fun _ hf => ?_) hf
      · exact zAW.weak (wX12_reckonsTo_63 hC hret (ih) hf) (zLw_s (zLw_n (zLw_s (zLw_s (zLw_s (zLw_s (zLw_s (zLw_s zLw_0))))))))
      · refine zs_il hC dX12_reckonsTo_57 rfl ?_
        refine zs_k hC dX12_reckonsTo_59 ?_
        refine zs_ic_ne hC dX12_reckonsTo_60 (fun _ hf => ?_) (fun _ hf => ?_) hf
        · exact zAW.weak (wX12_reckonsTo_63 hC hret (ih) hf) (zLw_s (zLw_n (zLw_s (zLw_s (zLw_s (zLw_s (zLw_s (zLw_s zLw_0))))))))
        · refine zs_il hC dX12_reckonsTo_93 rfl ?_
          refine zs_k hC dX12_reckonsTo_95 ?_
          refine zs_ic_ne hC dX12_reckonsTo_97 (fun _ hf => ?_) (fun _ hf => ?_) hf
          · refine zs_al hC dX12_reckonsTo_100 rfl ?_
            refine zs_getR 80 hC fl_RX12_68 zL60 rfl dX12_reckonsTo_101 ?_
            refine zs_il hC dX12_reckonsTo_104 rfl ?_
            refine zs_k hC dX12_reckonsTo_105 ?_
            refine zs_isub hC dX12_reckonsTo_106 ?_
            refine zs_k hC dX12_reckonsTo_107 ?_
            refine zs_al hC dX12_reckonsTo_108 rfl ?_
            refine zs_getR 80 hC fl_RX12_68 zL60 rfl dX12_reckonsTo_109 ?_
            refine zs_il hC dX12_reckonsTo_112 rfl ?_
            refine zs_k hC dX12_reckonsTo_113 ?_
            refine zs_isub hC dX12_reckonsTo_114 ?_
            refine zs_iald hC zL80 dX12_reckonsTo_115 (fun _ hf => ?_) hf
            refine zs_isub hC dX12_reckonsTo_116 ?_
            refine zs_iast hC zL80 dX12_reckonsTo_117 (fun _ hf => ?_) hf
            refine zs_let (fun m6 _ hf => ?_) hf
            refine zs_goto hC dX12_reckonsTo_118 ?_
            refine zs_goto hC dX12_reckonsTo_230 ?_
            exact zAW.weak (ih _ _ _ _ _ hf) (zLw_s (zLw_n (zLw_s (zLw_s (zLw_s (zLw_s (zLw_n (zLw_n zLw_0))))))))
          · refine zs_il hC dX12_reckonsTo_121 rfl ?_
            refine zs_k hC dX12_reckonsTo_123 ?_
            refine zs_ic_eq hC dX12_reckonsTo_125 (fun _ hf => ?_) (fun _ hf => ?_) hf
            · exact zAW.weak (wX12_reckonsTo_135 hC hret (ih) hf) (zLw_s (zLw_n (zLw_s (zLw_s (zLw_s (zLw_s (zLw_s (zLw_s zLw_0))))))))
            · refine zs_il hC dX12_reckonsTo_128 rfl ?_
              refine zs_k hC dX12_reckonsTo_130 ?_
              refine zs_ic_ne hC dX12_reckonsTo_132 (fun _ hf => ?_) (fun _ hf => ?_) hf
              · exact zAW.weak (wX12_reckonsTo_135 hC hret (ih) hf) (zLw_s (zLw_n (zLw_s (zLw_s (zLw_s (zLw_s (zLw_s (zLw_s zLw_0))))))))
              · refine zs_il hC dX12_reckonsTo_175 rfl ?_
                refine zs_k hC dX12_reckonsTo_176 ?_
                refine zs_isub hC dX12_reckonsTo_177 ?_
                refine zs_is hC dX12_reckonsTo_178 (by decide) rfl ?_
                refine zs_il hC dX12_reckonsTo_179 rfl ?_
                refine zs_k hC dX12_reckonsTo_181 ?_
                refine zs_ic_eq hC dX12_reckonsTo_182 (fun _ hf => ?_) (fun _ hf => ?_) hf
                · exact zAW.weak (wX12_reckonsTo_192 hC hret (ih) hf) (zLw_s (zLw_n (zLw_s (zLw_s (zLw_s (zLw_s (zLw_s (zLw_n zLw_0))))))))
                · refine zs_il hC dX12_reckonsTo_185 rfl ?_
                  refine zs_k hC dX12_reckonsTo_187 ?_
                  refine zs_ic_ne hC dX12_reckonsTo_189 (fun _ hf => ?_) (fun _ hf => ?_) hf
                  · exact zAW.weak (wX12_reckonsTo_192 hC hret (ih) hf) (zLw_s (zLw_n (zLw_s (zLw_s (zLw_s (zLw_s (zLw_s (zLw_n zLw_0))))))))
                  · exact zAW.weak (wX12_reckonsTo_203 hC hret (ih) hf) (zLw_s (zLw_n (zLw_s (zLw_s (zLw_s (zLw_s (zLw_s (zLw_n zLw_0))))))))
set_option maxRecDepth 20000 in
set_option maxHeartbeats 4000000 in
theorem wX12_reckonsTo {X : zX} {F : Nat} (hC : zCx X RX12 cX12_reckonsTo 8 1) (hret : zRt X (some .int)) {v1 : Int32} {v2 : Int32} {μ : zMem} (hf : fX12_reckonsTo F v1 v2 μ = some (zOut X)) : zAW X 0 [some (.ref 60), some (.int v1), some (.int v2), none, none, none, none, none] [] μ := by
  unfold fX12_reckonsTo at hf
  refine zs_k hC dX12_reckonsTo_0 ?_
  refine zs_is hC dX12_reckonsTo_1 (by decide) rfl ?_
  refine zs_k hC dX12_reckonsTo_2 ?_
  refine zs_il hC dX12_reckonsTo_5 rfl ?_
  refine zs_k hC dX12_reckonsTo_6 ?_
  refine zs_idiv hC dX12_reckonsTo_9 (fun _ hf => ?_) hf
  refine zs_imul hC dX12_reckonsTo_10 ?_
  refine zs_is hC dX12_reckonsTo_11 (by decide) rfl ?_
  refine zs_il hC dX12_reckonsTo_13 rfl ?_
  refine zs_is hC dX12_reckonsTo_14 (by decide) rfl ?_
  exact zAW.weak (wX12_reckonsTo_16 hC hret F _ _ _ _ _ hf) (zLw_s (zLw_n (zLw_s (zLw_s (zLw_s (zLw_s (zLw_n (zLw_n zLw_0))))))))
set_option maxRecDepth 20000 in
set_option maxHeartbeats 4000000 in
theorem ctX12_reckonsTo {E : zEV} {F : Nat} {v1 : Int32} {v2 : Int32} {μ : zMem} {out : zR} (hf : fX12_reckonsTo F v1 v2 μ = some out) : zCt E yX12_reckonsTo cX12_reckonsTo 8 (some .int) 1 [.ref 60, .int v1, .int v2] μ out :=
  zCt.of [some (.ref 60), some (.int v1), some (.int v2), none, none, none, none, none] (by decide +kernel) (Nat.le_of_ble_eq_true rfl) (zLw_s (zLw_s (zLw_s (zLw_e (zLw_e (zLw_e (zLw_e (zLw_e zLw_0)))))))) rfl (fun X hE ho hr hC => by
    subst hE; subst ho
    exact wX12_reckonsTo hC hr hf)
/-! X12_byLaw -/
def fX12_byLaw_2 (F : Nat) : Nat → Int32 → Int32 → Int32 → zMem → Option zR
  | 0, _, _, _, _ => none
  | n + 1, v1, v2, v3, μ => if (μ 60 18) ≤ v3 then some ((nI 0), μ) else zG v3 16 (if (μ 76 v3.toNatClampNeg) = v1 then zG v3 16 (zG v3 16 (zBd (fX12_reckonsTo F (μ 78 v3.toNatClampNeg) (μ 79 v3.toNatClampNeg) μ) (fun r5 m5 => if r5 = (nI 1) then zG v3 16 (zG v3 16 (zBd (fX12_reckonsTo F (m5 77 v3.toNatClampNeg) (m5 78 v3.toNatClampNeg) m5) (fun r8 m8 => if 0 ≤ r8 then if r8 ≤ v2 then some (r8, m8) else some (v2, m8) else some ((nI 0), m8)))) else fX12_byLaw_2 F n v1 v2 (v3 + (nI 1)) m5))) else fX12_byLaw_2 F n v1 v2 (v3 + (nI 1)) μ)
def fX12_byLaw (F : Nat) (v1 : Int32) (v2 : Int32) (μ : zMem) : Option zR :=
  fX12_byLaw_2 F F v1 v2 (nI 0) μ
set_option maxRecDepth 20000 in
set_option maxHeartbeats 4000000 in
theorem wX12_byLaw_2 {X : zX} {F : Nat} (hC : zCx X RX12 cX12_byLaw 5 2) (hret : zRt X (some .int)) : ∀ (n : Nat) (v1 : Int32) (v2 : Int32) (v3 : Int32) (μ : zMem), fX12_byLaw_2 F n v1 v2 v3 μ = some (zOut X) → zAW X 2 [some (.ref 60), some (.int v1), some (.int v2), some (.int v3), none] [] μ := by
  intro n
  induction n with
  | zero =>
    intro v1 v2 v3 μ hf
    rw [fX12_byLaw_2] at hf
    cases hf
  | succ n ih =>
    intro v1 v2 v3 μ hf
    rw [fX12_byLaw_2] at hf
    refine zs_il hC dX12_byLaw_2 rfl ?_
    refine zs_al hC dX12_byLaw_3 rfl ?_
    refine zs_getI hC fl_RX12_207 zL60 rfl dX12_byLaw_4 ?_
    refine zs_ic_ge hC dX12_byLaw_7 (fun _ hf => ?_) (fun _ hf => ?_) hf
    · refine zs_k hC dX12_byLaw_89 ?_
      exact zs_iret hC hret dX12_byLaw_90 hf
    · refine zs_al hC dX12_byLaw_10 rfl ?_
      refine zs_getR 76 hC fl_RX12_56 zL60 rfl dX12_byLaw_11 ?_
      refine zs_il hC dX12_byLaw_14 rfl ?_
      refine zs_iald hC zL76 dX12_byLaw_15 (fun _ hf => ?_) hf
      refine zs_il hC dX12_byLaw_16 rfl ?_
      refine zs_ic_ne hC dX12_byLaw_17 (fun _ hf => ?_) (fun _ hf => ?_) hf
      · refine zs_al hC dX12_byLaw_20 rfl ?_
        refine zs_al hC dX12_byLaw_21 rfl ?_
        refine zs_getR 78 hC fl_RX12_62 zL60 rfl dX12_byLaw_22 ?_
        refine zs_il hC dX12_byLaw_25 rfl ?_
        refine zs_iald hC zL78 dX12_byLaw_26 (fun _ hf => ?_) hf
        refine zs_al hC dX12_byLaw_27 rfl ?_
        refine zs_getR 79 hC fl_RX12_65 zL60 rfl dX12_byLaw_28 ?_
        refine zs_il hC dX12_byLaw_31 rfl ?_
        refine zs_iald hC zL79 dX12_byLaw_32 (fun _ hf => ?_) hf
        refine zs_callV [.int (μ 78 v3.toNatClampNeg), .int (μ 79 v3.toNatClampNeg)] hC cw_X12_reckonsTo cl_RX12_214 zL60 rfl (by decide) rfl rfl (Nat.le_of_ble_eq_true rfl) dX12_byLaw_33 (fun _ h => ctX12_reckonsTo h) (fun r5 m5 _ hf => ?_) hf
        show zAW X 36 _ (.int r5 :: _) m5
        refine zs_k hC dX12_byLaw_36 ?_
        refine zs_ic_eq hC dX12_byLaw_37 (fun _ hf => ?_) (fun _ hf => ?_) hf
        · refine zs_al hC dX12_byLaw_43 rfl ?_
          refine zs_al hC dX12_byLaw_44 rfl ?_
          refine zs_getR 77 hC fl_RX12_59 zL60 rfl dX12_byLaw_45 ?_
          refine zs_il hC dX12_byLaw_48 rfl ?_
          refine zs_iald hC zL77 dX12_byLaw_49 (fun _ hf => ?_) hf
          refine zs_al hC dX12_byLaw_50 rfl ?_
          refine zs_getR 78 hC fl_RX12_62 zL60 rfl dX12_byLaw_51 ?_
          refine zs_il hC dX12_byLaw_54 rfl ?_
          refine zs_iald hC zL78 dX12_byLaw_55 (fun _ hf => ?_) hf
          refine zs_callV [.int (m5 77 v3.toNatClampNeg), .int (m5 78 v3.toNatClampNeg)] hC cw_X12_reckonsTo cl_RX12_214 zL60 rfl (by decide) rfl rfl (Nat.le_of_ble_eq_true rfl) dX12_byLaw_56 (fun _ h => ctX12_reckonsTo h) (fun r8 m8 _ hf => ?_) hf
          show zAW X 59 _ (.int r8 :: _) m8
          refine zs_is hC dX12_byLaw_59 (by decide) rfl ?_
          refine zs_il hC dX12_byLaw_61 rfl ?_
          refine zs_if_ge hC dX12_byLaw_63 (fun _ hf => ?_) (fun _ hf => ?_) hf
          · refine zs_il hC dX12_byLaw_70 rfl ?_
            refine zs_il hC dX12_byLaw_72 rfl ?_
            refine zs_ic_le hC dX12_byLaw_73 (fun _ hf => ?_) (fun _ hf => ?_) hf
            · refine zs_il hC dX12_byLaw_80 rfl ?_
              exact zs_iret hC hret dX12_byLaw_82 hf
            · refine zs_il hC dX12_byLaw_76 rfl ?_
              refine zs_goto hC dX12_byLaw_77 ?_
              exact zs_iret hC hret dX12_byLaw_82 hf
          · refine zs_k hC dX12_byLaw_66 ?_
            refine zs_goto hC dX12_byLaw_67 ?_
            exact zs_iret hC hret dX12_byLaw_82 hf
        · refine zs_goto hC dX12_byLaw_40 ?_
          refine zs_iinc (nI 1) hC dX12_byLaw_83 (by decide) rfl (by decide) rfl ?_
          refine zs_goto hC dX12_byLaw_86 ?_
          exact zAW.weak (ih _ _ _ _ hf) (zLw_s (zLw_s (zLw_s (zLw_s (zLw_n zLw_0)))))
      · refine zs_iinc (nI 1) hC dX12_byLaw_83 (by decide) rfl (by decide) rfl ?_
        refine zs_goto hC dX12_byLaw_86 ?_
        exact zAW.weak (ih _ _ _ _ hf) (zLw_s (zLw_s (zLw_s (zLw_s (zLw_n zLw_0)))))
set_option maxRecDepth 20000 in
set_option maxHeartbeats 4000000 in
theorem wX12_byLaw {X : zX} {F : Nat} (hC : zCx X RX12 cX12_byLaw 5 2) (hret : zRt X (some .int)) {v1 : Int32} {v2 : Int32} {μ : zMem} (hf : fX12_byLaw F v1 v2 μ = some (zOut X)) : zAW X 0 [some (.ref 60), some (.int v1), some (.int v2), none, none] [] μ := by
  unfold fX12_byLaw at hf
  refine zs_k hC dX12_byLaw_0 ?_
  refine zs_is hC dX12_byLaw_1 (by decide) rfl ?_
  exact zAW.weak (wX12_byLaw_2 hC hret F _ _ _ _ hf) (zLw_s (zLw_s (zLw_s (zLw_s (zLw_n zLw_0)))))
set_option maxRecDepth 20000 in
set_option maxHeartbeats 4000000 in
theorem ctX12_byLaw {E : zEV} {F : Nat} {v1 : Int32} {v2 : Int32} {μ : zMem} {out : zR} (hf : fX12_byLaw F v1 v2 μ = some out) : zCt E yX12_byLaw cX12_byLaw 5 (some .int) 2 [.ref 60, .int v1, .int v2] μ out :=
  zCt.of [some (.ref 60), some (.int v1), some (.int v2), none, none] (by decide +kernel) (Nat.le_of_ble_eq_true rfl) (zLw_s (zLw_s (zLw_s (zLw_e (zLw_e zLw_0))))) rfl (fun X hE ho hr hC => by
    subst hE; subst ho
    exact wX12_byLaw hC hr hf)
/-! X12_holdsAnyOrNone -/
def fX12_holdsAnyOrNone_4 (F : Nat) : Nat → Int32 → Int32 → Int32 → zMem → Option zR
  | 0, _, _, _, _ => none
  | n + 1, v1, v2, v3, μ => if (μ 60 18) ≤ v3 then zGb (decide (v2 = 0 ∨ v2 = 1)) (some (v2, μ)) else zG v3 16 (if (μ 76 v3.toNatClampNeg) = v1 then zG v3 16 (zG v3 16 (zBd (fX12_reckonsTo F (μ 78 v3.toNatClampNeg) (μ 79 v3.toNatClampNeg) μ) (fun r5 m5 => if r5 = (nI 1) then some ((nI 1), m5) else fX12_holdsAnyOrNone_4 F n v1 (nI 0) (v3 + (nI 1)) m5))) else fX12_holdsAnyOrNone_4 F n v1 v2 (v3 + (nI 1)) μ)
def fX12_holdsAnyOrNone (F : Nat) (v1 : Int32) (μ : zMem) : Option zR :=
  fX12_holdsAnyOrNone_4 F F v1 (nI 1) (nI 0) μ
set_option maxRecDepth 20000 in
set_option maxHeartbeats 4000000 in
theorem wX12_holdsAnyOrNone_4 {X : zX} {F : Nat} (hC : zCx X RX12 cX12_holdsAnyOrNone 4 2) (hret : zRt X (some .boolean)) : ∀ (n : Nat) (v1 : Int32) (v2 : Int32) (v3 : Int32) (μ : zMem), fX12_holdsAnyOrNone_4 F n v1 v2 v3 μ = some (zOut X) → zAW X 4 [some (.ref 60), some (.int v1), some (.int v2), some (.int v3)] [] μ := by
  intro n
  induction n with
  | zero =>
    intro v1 v2 v3 μ hf
    rw [fX12_holdsAnyOrNone_4] at hf
    cases hf
  | succ n ih =>
    intro v1 v2 v3 μ hf
    rw [fX12_holdsAnyOrNone_4] at hf
    refine zs_il hC dX12_holdsAnyOrNone_4 rfl ?_
    refine zs_al hC dX12_holdsAnyOrNone_5 rfl ?_
    refine zs_getI hC fl_RX12_207 zL60 rfl dX12_holdsAnyOrNone_6 ?_
    refine zs_ic_ge hC dX12_holdsAnyOrNone_9 (fun _ hf => ?_) (fun _ hf => ?_) hf
    · refine zs_il hC dX12_holdsAnyOrNone_55 rfl ?_
      exact zs_zret hC hret dX12_holdsAnyOrNone_56 hf
    · refine zs_al hC dX12_holdsAnyOrNone_12 rfl ?_
      refine zs_getR 76 hC fl_RX12_56 zL60 rfl dX12_holdsAnyOrNone_13 ?_
      refine zs_il hC dX12_holdsAnyOrNone_16 rfl ?_
      refine zs_iald hC zL76 dX12_holdsAnyOrNone_17 (fun _ hf => ?_) hf
      refine zs_il hC dX12_holdsAnyOrNone_18 rfl ?_
      refine zs_ic_eq hC dX12_holdsAnyOrNone_19 (fun _ hf => ?_) (fun _ hf => ?_) hf
      · refine zs_k hC dX12_holdsAnyOrNone_25 ?_
        refine zs_is hC dX12_holdsAnyOrNone_26 (by decide) rfl ?_
        refine zs_al hC dX12_holdsAnyOrNone_27 rfl ?_
        refine zs_al hC dX12_holdsAnyOrNone_28 rfl ?_
        refine zs_getR 78 hC fl_RX12_62 zL60 rfl dX12_holdsAnyOrNone_29 ?_
        refine zs_il hC dX12_holdsAnyOrNone_32 rfl ?_
        refine zs_iald hC zL78 dX12_holdsAnyOrNone_33 (fun _ hf => ?_) hf
        refine zs_al hC dX12_holdsAnyOrNone_34 rfl ?_
        refine zs_getR 79 hC fl_RX12_65 zL60 rfl dX12_holdsAnyOrNone_35 ?_
        refine zs_il hC dX12_holdsAnyOrNone_38 rfl ?_
        refine zs_iald hC zL79 dX12_holdsAnyOrNone_39 (fun _ hf => ?_) hf
        refine zs_callV [.int (μ 78 v3.toNatClampNeg), .int (μ 79 v3.toNatClampNeg)] hC cw_X12_reckonsTo cl_RX12_214 zL60 rfl (by decide) rfl rfl (Nat.le_of_ble_eq_true rfl) dX12_holdsAnyOrNone_40 (fun _ h => ctX12_reckonsTo h) (fun r5 m5 _ hf => ?_) hf
        show zAW X 43 _ (.int r5 :: _) m5
        refine zs_k hC dX12_holdsAnyOrNone_43 ?_
        refine zs_ic_ne hC dX12_holdsAnyOrNone_44 (fun _ hf => ?_) (fun _ hf => ?_) hf
        · refine zs_k hC dX12_holdsAnyOrNone_47 ?_
          exact zs_zretK hC hret dX12_holdsAnyOrNone_48 (by decide) hf
        · refine zs_iinc (nI 1) hC dX12_holdsAnyOrNone_49 (by decide) rfl (by decide) rfl ?_
          refine zs_goto hC dX12_holdsAnyOrNone_52 ?_
          exact zAW.weak (ih _ _ _ _ hf) (zLw_s (zLw_s (zLw_s (zLw_s zLw_0))))
      · refine zs_goto hC dX12_holdsAnyOrNone_22 ?_
        refine zs_iinc (nI 1) hC dX12_holdsAnyOrNone_49 (by decide) rfl (by decide) rfl ?_
        refine zs_goto hC dX12_holdsAnyOrNone_52 ?_
        exact zAW.weak (ih _ _ _ _ hf) (zLw_s (zLw_s (zLw_s (zLw_s zLw_0))))
set_option maxRecDepth 20000 in
set_option maxHeartbeats 4000000 in
theorem wX12_holdsAnyOrNone {X : zX} {F : Nat} (hC : zCx X RX12 cX12_holdsAnyOrNone 4 2) (hret : zRt X (some .boolean)) {v1 : Int32} {μ : zMem} (hf : fX12_holdsAnyOrNone F v1 μ = some (zOut X)) : zAW X 0 [some (.ref 60), some (.int v1), none, none] [] μ := by
  unfold fX12_holdsAnyOrNone at hf
  refine zs_k hC dX12_holdsAnyOrNone_0 ?_
  refine zs_is hC dX12_holdsAnyOrNone_1 (by decide) rfl ?_
  refine zs_k hC dX12_holdsAnyOrNone_2 ?_
  refine zs_is hC dX12_holdsAnyOrNone_3 (by decide) rfl ?_
  exact zAW.weak (wX12_holdsAnyOrNone_4 hC hret F _ _ _ _ hf) (zLw_s (zLw_s (zLw_s (zLw_s zLw_0))))
set_option maxRecDepth 20000 in
set_option maxHeartbeats 4000000 in
theorem ctX12_holdsAnyOrNone {E : zEV} {F : Nat} {v1 : Int32} {μ : zMem} {out : zR} (hf : fX12_holdsAnyOrNone F v1 μ = some out) : zCt E yX12_holdsAnyOrNone cX12_holdsAnyOrNone 4 (some .boolean) 2 [.ref 60, .int v1] μ out :=
  zCt.of [some (.ref 60), some (.int v1), none, none] (by decide +kernel) (Nat.le_of_ble_eq_true rfl) (zLw_s (zLw_s (zLw_e (zLw_e zLw_0)))) rfl (fun X hE ho hr hC => by
    subst hE; subst ho
    exact wX12_holdsAnyOrNone hC hr hf)
/-! X12_feels -/
def fX12_feels_153 (F : Nat) (s0 : Int32) (s1 : Int32) (μ : zMem) : Option zR :=
  zG s1 9 (zLt (zUp μ 81 s1.toNatClampNeg s0) (fun m1 => zG (nI 1045) 1047 (zGz (nI 100) (zG (nI 7) 9 (zLt (zUp m1 81 (nI 7).toNatClampNeg ((m1 61 (nI 1045).toNatClampNeg) % (nI 100))) (fun m4 => zG (nI 1044) 1047 (zGz (nI 20) (zG ((nI 64) + ((m4 61 (nI 1044).toNatClampNeg) % (nI 20))) 1047 (zG (nI 8) 9 (zLt (zUp m4 81 (nI 8).toNatClampNeg (m4 61 ((nI 64) + ((m4 61 (nI 1044).toNatClampNeg) % (nI 20))).toNatClampNeg)) (fun m8 => some ((nI 0), m8))))))))))))
def fX12_feels_114 (F : Nat) (v1 : Int32) (v2 : Int32) (v3 : Int32) (s0 : Int32) (s1 : Int32) (μ : zMem) : Option zR :=
  zG s1 9 (zLt (zUp μ 81 s1.toNatClampNeg s0) (fun m1 => zG ((nI 48) + v1) 1047 (zG (nI 5) 9 (zLt (zUp m1 81 (nI 5).toNatClampNeg (m1 61 ((nI 48) + v1).toNatClampNeg)) (fun m4 => if v3 = 0 then fX12_feels_153 F (nI 0) (nI 6) m4 else zG ((nI 32) + v2) 1047 (fX12_feels_153 F (m4 61 ((nI 32) + v2).toNatClampNeg) (nI 6) m4))))))
def fX12_feels_76 (F : Nat) (v1 : Int32) (v2 : Int32) (v3 : Int32) (s0 : Int32) (s1 : Int32) (μ : zMem) : Option zR :=
  zG s1 9 (zLt (zUp μ 81 s1.toNatClampNeg s0) (fun m1 => if v3 = 0 then fX12_feels_114 F v1 v2 v3 (nI 0) (nI 4) m1 else zG ((nI 16) + v1) 1047 (zG ((nI 16) + v2) 1047 (zBd (fX12_bits F ((m1 61 ((nI 16) + v1).toNatClampNeg) &&& ((m1 61 ((nI 16) + v2).toNatClampNeg) ^^^ (-1 : Int32))) m1) (fun r5 m5 => fX12_feels_114 F v1 v2 v3 r5 (nI 4) m5)))))
def fX12_feels_32 (F : Nat) (v1 : Int32) (v2 : Int32) (v3 : Int32) (s0 : Int32) (s1 : Int32) (μ : zMem) : Option zR :=
  zG s1 9 (zLt (zUp μ 81 s1.toNatClampNeg s0) (fun m1 => zG ((nI 16) + v1) 1047 (zBd (fX12_bits F (m1 61 ((nI 16) + v1).toNatClampNeg) m1) (fun r4 m4 => zG (nI 2) 9 (zLt (zUp m4 81 (nI 2).toNatClampNeg r4) (fun m5 => if v3 = 0 then fX12_feels_76 F v1 v2 v3 (nI 0) (nI 3) m5 else zG ((nI 16) + v2) 1047 (zBd (fX12_bits F (m5 61 ((nI 16) + v2).toNatClampNeg) m5) (fun r8 m8 => fX12_feels_76 F v1 v2 v3 r8 (nI 3) m8))))))))
def fX12_feels_10 (F : Nat) (v1 : Int32) (v2 : Int32) (s0 : Int32) (μ : zMem) : Option zR :=
  zG (nI 0) 9 (zLt (zUp μ 81 (nI 0).toNatClampNeg v1) (fun m2 => if s0 = 0 then fX12_feels_32 F v1 v2 s0 (nI 0) (nI 1) m2 else fX12_feels_32 F v1 v2 s0 v2 (nI 1) m2))
def fX12_feels (F : Nat) (v1 : Int32) (v2 : Int32) (μ : zMem) : Option zR :=
  if v2 = (-1 : Int32) then fX12_feels_10 F v1 v2 (nI 0) μ else fX12_feels_10 F v1 v2 (nI 1) μ
set_option maxRecDepth 20000 in
set_option maxHeartbeats 4000000 in
theorem wX12_feels_153 {X : zX} {F : Nat} (hC : zCx X RX12 cX12_feels 4 1) (hret : zRt X none) {s0 : Int32} {s1 : Int32} {μ : zMem} (hf : fX12_feels_153 F s0 s1 μ = some (zOut X)) : zAW X 153 [some (.ref 60), none, none, none] [.int s0, .int s1, .ref 81] μ := by
  unfold fX12_feels_153 at hf
  refine zs_iast hC zL81 dX12_feels_153 (fun _ hf => ?_) hf
  refine zs_let (fun m1 _ hf => ?_) hf
  refine zs_al hC dX12_feels_154 rfl ?_
  refine zs_getR 81 hC fl_RX12_71 zL60 rfl dX12_feels_155 ?_
  refine zs_k hC dX12_feels_158 ?_
  refine zs_al hC dX12_feels_160 rfl ?_
  refine zs_getR 61 hC fl_RX12_7 zL60 rfl dX12_feels_161 ?_
  refine zs_k hC dX12_feels_164 ?_
  refine zs_iald hC zL61 dX12_feels_167 (fun _ hf => ?_) hf
  refine zs_k hC dX12_feels_168 ?_
  refine zs_irem hC dX12_feels_170 (fun _ hf => ?_) hf
  refine zs_iast hC zL81 dX12_feels_171 (fun _ hf => ?_) hf
  refine zs_let (fun m4 _ hf => ?_) hf
  refine zs_al hC dX12_feels_172 rfl ?_
  refine zs_getR 81 hC fl_RX12_71 zL60 rfl dX12_feels_173 ?_
  refine zs_k hC dX12_feels_176 ?_
  refine zs_al hC dX12_feels_178 rfl ?_
  refine zs_getR 61 hC fl_RX12_7 zL60 rfl dX12_feels_179 ?_
  refine zs_k hC dX12_feels_182 ?_
  refine zs_al hC dX12_feels_184 rfl ?_
  refine zs_getR 61 hC fl_RX12_7 zL60 rfl dX12_feels_185 ?_
  refine zs_k hC dX12_feels_188 ?_
  refine zs_iald hC zL61 dX12_feels_191 (fun _ hf => ?_) hf
  refine zs_k hC dX12_feels_192 ?_
  refine zs_irem hC dX12_feels_194 (fun _ hf => ?_) hf
  refine zs_iadd hC dX12_feels_195 ?_
  refine zs_iald hC zL61 dX12_feels_196 (fun _ hf => ?_) hf
  refine zs_iast hC zL81 dX12_feels_197 (fun _ hf => ?_) hf
  refine zs_let (fun m8 _ hf => ?_) hf
  exact zs_vret hC hret dX12_feels_198 hf
set_option maxRecDepth 20000 in
set_option maxHeartbeats 4000000 in
theorem wX12_feels_114 {X : zX} {F : Nat} (hC : zCx X RX12 cX12_feels 4 1) (hret : zRt X none) {v1 : Int32} {v2 : Int32} {v3 : Int32} {s0 : Int32} {s1 : Int32} {μ : zMem} (hf : fX12_feels_114 F v1 v2 v3 s0 s1 μ = some (zOut X)) : zAW X 114 [some (.ref 60), some (.int v1), some (.int v2), some (.int v3)] [.int s0, .int s1, .ref 81] μ := by
  unfold fX12_feels_114 at hf
  refine zs_iast hC zL81 dX12_feels_114 (fun _ hf => ?_) hf
  refine zs_let (fun m1 _ hf => ?_) hf
  refine zs_al hC dX12_feels_115 rfl ?_
  refine zs_getR 81 hC fl_RX12_71 zL60 rfl dX12_feels_116 ?_
  refine zs_k hC dX12_feels_119 ?_
  refine zs_al hC dX12_feels_120 rfl ?_
  refine zs_getR 61 hC fl_RX12_7 zL60 rfl dX12_feels_121 ?_
  refine zs_k hC dX12_feels_124 ?_
  refine zs_il hC dX12_feels_126 rfl ?_
  refine zs_iadd hC dX12_feels_127 ?_
  refine zs_iald hC zL61 dX12_feels_128 (fun _ hf => ?_) hf
  refine zs_iast hC zL81 dX12_feels_129 (fun _ hf => ?_) hf
  refine zs_let (fun m4 _ hf => ?_) hf
  refine zs_al hC dX12_feels_130 rfl ?_
  refine zs_getR 81 hC fl_RX12_71 zL60 rfl dX12_feels_131 ?_
  refine zs_k hC dX12_feels_134 ?_
  refine zs_il hC dX12_feels_136 rfl ?_
  refine zs_if_eq hC dX12_feels_137 (fun _ hf => ?_) (fun _ hf => ?_) hf
  · refine zs_k hC dX12_feels_152 ?_
    exact zAW.weak (wX12_feels_153 hC hret hf) (zLw_s (zLw_n (zLw_n (zLw_n zLw_0))))
  · refine zs_al hC dX12_feels_140 rfl ?_
    refine zs_getR 61 hC fl_RX12_7 zL60 rfl dX12_feels_141 ?_
    refine zs_k hC dX12_feels_144 ?_
    refine zs_il hC dX12_feels_146 rfl ?_
    refine zs_iadd hC dX12_feels_147 ?_
    refine zs_iald hC zL61 dX12_feels_148 (fun _ hf => ?_) hf
    refine zs_goto hC dX12_feels_149 ?_
    exact zAW.weak (wX12_feels_153 hC hret hf) (zLw_s (zLw_n (zLw_n (zLw_n zLw_0))))
set_option maxRecDepth 20000 in
set_option maxHeartbeats 4000000 in
theorem wX12_feels_76 {X : zX} {F : Nat} (hC : zCx X RX12 cX12_feels 4 1) (hret : zRt X none) {v1 : Int32} {v2 : Int32} {v3 : Int32} {s0 : Int32} {s1 : Int32} {μ : zMem} (hf : fX12_feels_76 F v1 v2 v3 s0 s1 μ = some (zOut X)) : zAW X 76 [some (.ref 60), some (.int v1), some (.int v2), some (.int v3)] [.int s0, .int s1, .ref 81] μ := by
  unfold fX12_feels_76 at hf
  refine zs_iast hC zL81 dX12_feels_76 (fun _ hf => ?_) hf
  refine zs_let (fun m1 _ hf => ?_) hf
  refine zs_al hC dX12_feels_77 rfl ?_
  refine zs_getR 81 hC fl_RX12_71 zL60 rfl dX12_feels_78 ?_
  refine zs_k hC dX12_feels_81 ?_
  refine zs_il hC dX12_feels_82 rfl ?_
  refine zs_if_eq hC dX12_feels_83 (fun _ hf => ?_) (fun _ hf => ?_) hf
  · refine zs_k hC dX12_feels_113 ?_
    exact zAW.weak (wX12_feels_114 hC hret hf) (zLw_s (zLw_s (zLw_s (zLw_s zLw_0))))
  · refine zs_al hC dX12_feels_86 rfl ?_
    refine zs_getR 61 hC fl_RX12_7 zL60 rfl dX12_feels_87 ?_
    refine zs_k hC dX12_feels_90 ?_
    refine zs_il hC dX12_feels_92 rfl ?_
    refine zs_iadd hC dX12_feels_93 ?_
    refine zs_iald hC zL61 dX12_feels_94 (fun _ hf => ?_) hf
    refine zs_al hC dX12_feels_95 rfl ?_
    refine zs_getR 61 hC fl_RX12_7 zL60 rfl dX12_feels_96 ?_
    refine zs_k hC dX12_feels_99 ?_
    refine zs_il hC dX12_feels_101 rfl ?_
    refine zs_iadd hC dX12_feels_102 ?_
    refine zs_iald hC zL61 dX12_feels_103 (fun _ hf => ?_) hf
    refine zs_k hC dX12_feels_104 ?_
    refine zs_ixor hC dX12_feels_105 ?_
    refine zs_iand hC dX12_feels_106 ?_
    refine zs_callS [.int ((m1 61 ((nI 16) + v1).toNatClampNeg) &&& ((m1 61 ((nI 16) + v2).toNatClampNeg) ^^^ (-1 : Int32)))] hC cw_X12_bits cl_RX12_218 (by decide) rfl rfl (Nat.le_of_ble_eq_true rfl) dX12_feels_107 (fun _ h => ctX12_bits h) (fun r5 m5 _ hf => ?_) hf
    show zAW X 110 _ (.int r5 :: _) m5
    refine zs_goto hC dX12_feels_110 ?_
    exact zAW.weak (wX12_feels_114 hC hret hf) (zLw_s (zLw_s (zLw_s (zLw_s zLw_0))))
set_option maxRecDepth 20000 in
set_option maxHeartbeats 4000000 in
theorem wX12_feels_32 {X : zX} {F : Nat} (hC : zCx X RX12 cX12_feels 4 1) (hret : zRt X none) {v1 : Int32} {v2 : Int32} {v3 : Int32} {s0 : Int32} {s1 : Int32} {μ : zMem} (hf : fX12_feels_32 F v1 v2 v3 s0 s1 μ = some (zOut X)) : zAW X 32 [some (.ref 60), some (.int v1), some (.int v2), some (.int v3)] [.int s0, .int s1, .ref 81] μ := by
  unfold fX12_feels_32 at hf
  refine zs_iast hC zL81 dX12_feels_32 (fun _ hf => ?_) hf
  refine zs_let (fun m1 _ hf => ?_) hf
  refine zs_al hC dX12_feels_33 rfl ?_
  refine zs_getR 81 hC fl_RX12_71 zL60 rfl dX12_feels_34 ?_
  refine zs_k hC dX12_feels_37 ?_
  refine zs_al hC dX12_feels_38 rfl ?_
  refine zs_getR 61 hC fl_RX12_7 zL60 rfl dX12_feels_39 ?_
  refine zs_k hC dX12_feels_42 ?_
  refine zs_il hC dX12_feels_44 rfl ?_
  refine zs_iadd hC dX12_feels_45 ?_
  refine zs_iald hC zL61 dX12_feels_46 (fun _ hf => ?_) hf
  refine zs_callS [.int (m1 61 ((nI 16) + v1).toNatClampNeg)] hC cw_X12_bits cl_RX12_218 (by decide) rfl rfl (Nat.le_of_ble_eq_true rfl) dX12_feels_47 (fun _ h => ctX12_bits h) (fun r4 m4 _ hf => ?_) hf
  show zAW X 50 _ (.int r4 :: _) m4
  refine zs_iast hC zL81 dX12_feels_50 (fun _ hf => ?_) hf
  refine zs_let (fun m5 _ hf => ?_) hf
  refine zs_al hC dX12_feels_51 rfl ?_
  refine zs_getR 81 hC fl_RX12_71 zL60 rfl dX12_feels_52 ?_
  refine zs_k hC dX12_feels_55 ?_
  refine zs_il hC dX12_feels_56 rfl ?_
  refine zs_if_eq hC dX12_feels_57 (fun _ hf => ?_) (fun _ hf => ?_) hf
  · refine zs_k hC dX12_feels_75 ?_
    exact zAW.weak (wX12_feels_76 hC hret hf) (zLw_s (zLw_s (zLw_s (zLw_s zLw_0))))
  · refine zs_al hC dX12_feels_60 rfl ?_
    refine zs_getR 61 hC fl_RX12_7 zL60 rfl dX12_feels_61 ?_
    refine zs_k hC dX12_feels_64 ?_
    refine zs_il hC dX12_feels_66 rfl ?_
    refine zs_iadd hC dX12_feels_67 ?_
    refine zs_iald hC zL61 dX12_feels_68 (fun _ hf => ?_) hf
    refine zs_callS [.int (m5 61 ((nI 16) + v2).toNatClampNeg)] hC cw_X12_bits cl_RX12_218 (by decide) rfl rfl (Nat.le_of_ble_eq_true rfl) dX12_feels_69 (fun _ h => ctX12_bits h) (fun r8 m8 _ hf => ?_) hf
    show zAW X 72 _ (.int r8 :: _) m8
    refine zs_goto hC dX12_feels_72 ?_
    exact zAW.weak (wX12_feels_76 hC hret hf) (zLw_s (zLw_s (zLw_s (zLw_s zLw_0))))
set_option maxRecDepth 20000 in
set_option maxHeartbeats 4000000 in
theorem wX12_feels_10 {X : zX} {F : Nat} (hC : zCx X RX12 cX12_feels 4 1) (hret : zRt X none) {v1 : Int32} {v2 : Int32} {s0 : Int32} {μ : zMem} (hf : fX12_feels_10 F v1 v2 s0 μ = some (zOut X)) : zAW X 10 [some (.ref 60), some (.int v1), some (.int v2), none] [.int s0] μ := by
  unfold fX12_feels_10 at hf
  refine zs_is hC dX12_feels_10 (by decide) rfl ?_
  refine zs_al hC dX12_feels_11 rfl ?_
  refine zs_getR 81 hC fl_RX12_71 zL60 rfl dX12_feels_12 ?_
  refine zs_k hC dX12_feels_15 ?_
  refine zs_il hC dX12_feels_16 rfl ?_
  refine zs_iast hC zL81 dX12_feels_17 (fun _ hf => ?_) hf
  refine zs_let (fun m2 _ hf => ?_) hf
  refine zs_al hC dX12_feels_18 rfl ?_
  refine zs_getR 81 hC fl_RX12_71 zL60 rfl dX12_feels_19 ?_
  refine zs_k hC dX12_feels_22 ?_
  refine zs_il hC dX12_feels_23 rfl ?_
  refine zs_if_eq hC dX12_feels_24 (fun _ hf => ?_) (fun _ hf => ?_) hf
  · refine zs_k hC dX12_feels_31 ?_
    exact zAW.weak (wX12_feels_32 hC hret hf) (zLw_s (zLw_s (zLw_s (zLw_s zLw_0))))
  · refine zs_il hC dX12_feels_27 rfl ?_
    refine zs_goto hC dX12_feels_28 ?_
    exact zAW.weak (wX12_feels_32 hC hret hf) (zLw_s (zLw_s (zLw_s (zLw_s zLw_0))))
set_option maxRecDepth 20000 in
set_option maxHeartbeats 4000000 in
theorem wX12_feels {X : zX} {F : Nat} (hC : zCx X RX12 cX12_feels 4 1) (hret : zRt X none) {v1 : Int32} {v2 : Int32} {μ : zMem} (hf : fX12_feels F v1 v2 μ = some (zOut X)) : zAW X 0 [some (.ref 60), some (.int v1), some (.int v2), none] [] μ := by
  unfold fX12_feels at hf
  refine zs_il hC dX12_feels_0 rfl ?_
  refine zs_k hC dX12_feels_1 ?_
  refine zs_ic_eq hC dX12_feels_2 (fun _ hf => ?_) (fun _ hf => ?_) hf
  · refine zs_k hC dX12_feels_9 ?_
    exact zAW.weak (wX12_feels_10 hC hret hf) (zLw_s (zLw_s (zLw_s (zLw_n zLw_0))))
  · refine zs_k hC dX12_feels_5 ?_
    refine zs_goto hC dX12_feels_6 ?_
    exact zAW.weak (wX12_feels_10 hC hret hf) (zLw_s (zLw_s (zLw_s (zLw_n zLw_0))))
set_option maxRecDepth 20000 in
set_option maxHeartbeats 4000000 in
theorem ctX12_feels {E : zEV} {F : Nat} {v1 : Int32} {v2 : Int32} {μ : zMem} {out : zR} (hf : fX12_feels F v1 v2 μ = some out) : zCt E yX12_feels cX12_feels 4 none 1 [.ref 60, .int v1, .int v2] μ out :=
  zCt.of [some (.ref 60), some (.int v1), some (.int v2), none] (by decide +kernel) (Nat.le_of_ble_eq_true rfl) (zLw_s (zLw_s (zLw_s (zLw_e zLw_0)))) rfl (fun X hE ho hr hC => by
    subst hE; subst ho
    exact wX12_feels hC hr hf)
/-! X12_isLetter -/
def fX12_isLetter (F : Nat) (μ : zMem) : Option zR :=
  zBd (fX12_here F μ) (fun r1 m1 => zBd (fX12_in F (r1 - (nI 97)) (nI 0) (nI 15) m1) (fun r2 m2 => zGb (decide (r2 = 0 ∨ r2 = 1)) (some (r2, m2))))
set_option maxRecDepth 20000 in
set_option maxHeartbeats 4000000 in
theorem wX12_isLetter {X : zX} {F : Nat} (hC : zCx X RX12 cX12_isLetter 1 1) (hret : zRt X (some .boolean)) {μ : zMem} (hf : fX12_isLetter F μ = some (zOut X)) : zAW X 0 [some (.ref 60)] [] μ := by
  unfold fX12_isLetter at hf
  refine zs_al hC dX12_isLetter_0 rfl ?_
  refine zs_callV [] hC cw_X12_here cl_RX12_119 zL60 rfl (by decide) rfl rfl (Nat.le_of_ble_eq_true rfl) dX12_isLetter_1 (fun _ h => ctX12_here h) (fun r1 m1 _ hf => ?_) hf
  show zAW X 4 _ (.int r1 :: _) m1
  refine zs_k hC dX12_isLetter_4 ?_
  refine zs_isub hC dX12_isLetter_6 ?_
  refine zs_k hC dX12_isLetter_7 ?_
  refine zs_k hC dX12_isLetter_8 ?_
  refine zs_callS [.int (r1 - (nI 97)), .int (nI 0), .int (nI 15)] hC cw_X12_in cl_RX12_96 (by decide) rfl rfl (Nat.le_of_ble_eq_true rfl) dX12_isLetter_10 (fun _ h => ctX12_in h) (fun r2 m2 _ hf => ?_) hf
  show zAW X 13 _ (.int r2 :: _) m2
  exact zs_zret hC hret dX12_isLetter_13 hf
set_option maxRecDepth 20000 in
set_option maxHeartbeats 4000000 in
theorem ctX12_isLetter {E : zEV} {F : Nat} {μ : zMem} {out : zR} (hf : fX12_isLetter F μ = some out) : zCt E yX12_isLetter cX12_isLetter 1 (some .boolean) 1 [.ref 60] μ out :=
  zCt.of [some (.ref 60)] (by decide +kernel) (Nat.le_of_ble_eq_true rfl) (zLw_s zLw_0) rfl (fun X hE ho hr hC => by
    subst hE; subst ho
    exact wX12_isLetter hC hr hf)
/-! X12_readsBreath -/
def fX12_readsBreath_27 (F : Nat) : Nat → Int32 → Int32 → zMem → Option zR
  | 0, _, _, _ => none
  | n + 1, v1, v2, μ => zBd (fX12_isDigit F μ) (fun r1 m1 => if r1 = 0 then zG ((nI 48) + v1) 1047 (zLt (zUp m1 61 ((nI 48) + v1).toNatClampNeg (m1 60 13)) (fun m4 => some ((nI 1), m4))) else if (m1 60 10) = (v2 + (nI 4)) then zBd (fX12_wrongAt F (nI 2) (m1 60 10) m1) (fun r7 m7 => zGb (decide (r7 = 0 ∨ r7 = 1)) (some (r7, m7))) else zBd (fX12_here F m1) (fun r9 m9 => zLt (zUp m9 60 13 ((((nI 10) * (m1 60 13)) + r9) - (nI 48))) (fun m10 => zLt (zUp m10 60 10 ((m10 60 10) + (nI 1))) (fun m12 => fX12_readsBreath_27 F n v1 v2 m12))))
def fX12_readsBreath (F : Nat) (v1 : Int32) (μ : zMem) : Option zR :=
  zBd (fX12_isDigit F μ) (fun r2 m2 => if r2 = 0 then zBd (fX12_wrongAt F (nI 1) (m2 60 10) m2) (fun r4 m4 => zGb (decide (r4 = 0 ∨ r4 = 1)) (some (r4, m4))) else zLt (zUp m2 60 13 (nI 0)) (fun m5 => fX12_readsBreath_27 F F v1 (μ 60 10) m5))
set_option maxRecDepth 20000 in
set_option maxHeartbeats 4000000 in
theorem wX12_readsBreath_27 {X : zX} {F : Nat} (hC : zCx X RX12 cX12_readsBreath 3 2) (hret : zRt X (some .boolean)) : ∀ (n : Nat) (v1 : Int32) (v2 : Int32) (μ : zMem), fX12_readsBreath_27 F n v1 v2 μ = some (zOut X) → zAW X 27 [some (.ref 60), some (.int v1), some (.int v2)] [] μ := by
  intro n
  induction n with
  | zero =>
    intro v1 v2 μ hf
    rw [fX12_readsBreath_27] at hf
    cases hf
  | succ n ih =>
    intro v1 v2 μ hf
    rw [fX12_readsBreath_27] at hf
    refine zs_al hC dX12_readsBreath_27 rfl ?_
    refine zs_callV [] hC cw_X12_isDigit cl_RX12_133 zL60 rfl (by decide) rfl rfl (Nat.le_of_ble_eq_true rfl) dX12_readsBreath_28 (fun _ h => ctX12_isDigit h) (fun r1 m1 _ hf => ?_) hf
    show zAW X 31 _ (.int r1 :: _) m1
    refine zs_if_eq hC dX12_readsBreath_31 (fun _ hf => ?_) (fun _ hf => ?_) hf
    · refine zs_al hC dX12_readsBreath_86 rfl ?_
      refine zs_getR 61 hC fl_RX12_7 zL60 rfl dX12_readsBreath_87 ?_
      refine zs_k hC dX12_readsBreath_90 ?_
      refine zs_il hC dX12_readsBreath_92 rfl ?_
      refine zs_iadd hC dX12_readsBreath_93 ?_
      refine zs_al hC dX12_readsBreath_94 rfl ?_
      refine zs_getI hC fl_RX12_130 zL60 rfl dX12_readsBreath_95 ?_
      refine zs_iast hC zL61 dX12_readsBreath_98 (fun _ hf => ?_) hf
      refine zs_let (fun m4 _ hf => ?_) hf
      refine zs_k hC dX12_readsBreath_99 ?_
      exact zs_zretK hC hret dX12_readsBreath_100 (by decide) hf
    · refine zs_al hC dX12_readsBreath_34 rfl ?_
      refine zs_getI hC fl_RX12_113 zL60 rfl dX12_readsBreath_35 ?_
      refine zs_il hC dX12_readsBreath_38 rfl ?_
      refine zs_k hC dX12_readsBreath_39 ?_
      refine zs_iadd hC dX12_readsBreath_40 ?_
      refine zs_ic_ne hC dX12_readsBreath_41 (fun _ hf => ?_) (fun _ hf => ?_) hf
      · refine zs_al hC dX12_readsBreath_44 rfl ?_
        refine zs_k hC dX12_readsBreath_45 ?_
        refine zs_al hC dX12_readsBreath_46 rfl ?_
        refine zs_getI hC fl_RX12_113 zL60 rfl dX12_readsBreath_47 ?_
        refine zs_callV [.int (nI 2), .int (m1 60 10)] hC cw_X12_wrongAt cl_RX12_126 zL60 rfl (by decide) rfl rfl (Nat.le_of_ble_eq_true rfl) dX12_readsBreath_50 (fun _ h => ctX12_wrongAt h) (fun r7 m7 _ hf => ?_) hf
        show zAW X 53 _ (.int r7 :: _) m7
        exact zs_zret hC hret dX12_readsBreath_53 hf
      · refine zs_al hC dX12_readsBreath_54 rfl ?_
        refine zs_k hC dX12_readsBreath_55 ?_
        refine zs_al hC dX12_readsBreath_57 rfl ?_
        refine zs_getI hC fl_RX12_130 zL60 rfl dX12_readsBreath_58 ?_
        refine zs_imul hC dX12_readsBreath_61 ?_
        refine zs_al hC dX12_readsBreath_62 rfl ?_
        refine zs_callV [] hC cw_X12_here cl_RX12_119 zL60 rfl (by decide) rfl rfl (Nat.le_of_ble_eq_true rfl) dX12_readsBreath_63 (fun _ h => ctX12_here h) (fun r9 m9 _ hf => ?_) hf
        show zAW X 66 _ (.int r9 :: _) m9
        refine zs_iadd hC dX12_readsBreath_66 ?_
        refine zs_k hC dX12_readsBreath_67 ?_
        refine zs_isub hC dX12_readsBreath_69 ?_
        refine zs_putI hC fl_RX12_130 fp_12_13 zL60 rfl dX12_readsBreath_70 ?_
        refine zs_let (fun m10 _ hf => ?_) hf
        refine zs_al hC dX12_readsBreath_73 rfl ?_
        refine zs_al hC dX12_readsBreath_74 rfl ?_
        refine zs_getI hC fl_RX12_113 zL60 rfl dX12_readsBreath_75 ?_
        refine zs_k hC dX12_readsBreath_78 ?_
        refine zs_iadd hC dX12_readsBreath_79 ?_
        refine zs_putI hC fl_RX12_113 fp_12_10 zL60 rfl dX12_readsBreath_80 ?_
        refine zs_let (fun m12 _ hf => ?_) hf
        refine zs_goto hC dX12_readsBreath_83 ?_
        exact zAW.weak (ih _ _ _ hf) (zLw_s (zLw_s (zLw_s zLw_0)))
set_option maxRecDepth 20000 in
set_option maxHeartbeats 4000000 in
theorem wX12_readsBreath {X : zX} {F : Nat} (hC : zCx X RX12 cX12_readsBreath 3 2) (hret : zRt X (some .boolean)) {v1 : Int32} {μ : zMem} (hf : fX12_readsBreath F v1 μ = some (zOut X)) : zAW X 0 [some (.ref 60), some (.int v1), none] [] μ := by
  unfold fX12_readsBreath at hf
  refine zs_al hC dX12_readsBreath_0 rfl ?_
  refine zs_getI hC fl_RX12_113 zL60 rfl dX12_readsBreath_1 ?_
  refine zs_is hC dX12_readsBreath_4 (by decide) rfl ?_
  refine zs_al hC dX12_readsBreath_5 rfl ?_
  refine zs_callV [] hC cw_X12_isDigit cl_RX12_133 zL60 rfl (by decide) rfl rfl (Nat.le_of_ble_eq_true rfl) dX12_readsBreath_6 (fun _ h => ctX12_isDigit h) (fun r2 m2 _ hf => ?_) hf
  show zAW X 9 _ (.int r2 :: _) m2
  refine zs_if_ne hC dX12_readsBreath_9 (fun _ hf => ?_) (fun _ hf => ?_) hf
  · refine zs_al hC dX12_readsBreath_12 rfl ?_
    refine zs_k hC dX12_readsBreath_13 ?_
    refine zs_al hC dX12_readsBreath_14 rfl ?_
    refine zs_getI hC fl_RX12_113 zL60 rfl dX12_readsBreath_15 ?_
    refine zs_callV [.int (nI 1), .int (m2 60 10)] hC cw_X12_wrongAt cl_RX12_126 zL60 rfl (by decide) rfl rfl (Nat.le_of_ble_eq_true rfl) dX12_readsBreath_18 (fun _ h => ctX12_wrongAt h) (fun r4 m4 _ hf => ?_) hf
    show zAW X 21 _ (.int r4 :: _) m4
    exact zs_zret hC hret dX12_readsBreath_21 hf
  · refine zs_al hC dX12_readsBreath_22 rfl ?_
    refine zs_k hC dX12_readsBreath_23 ?_
    refine zs_putI hC fl_RX12_130 fp_12_13 zL60 rfl dX12_readsBreath_24 ?_
    refine zs_let (fun m5 _ hf => ?_) hf
    exact zAW.weak (wX12_readsBreath_27 hC hret F _ _ _ hf) (zLw_s (zLw_s (zLw_s zLw_0)))
set_option maxRecDepth 20000 in
set_option maxHeartbeats 4000000 in
theorem ctX12_readsBreath {E : zEV} {F : Nat} {v1 : Int32} {μ : zMem} {out : zR} (hf : fX12_readsBreath F v1 μ = some out) : zCt E yX12_readsBreath cX12_readsBreath 3 (some .boolean) 2 [.ref 60, .int v1] μ out :=
  zCt.of [some (.ref 60), some (.int v1), none] (by decide +kernel) (Nat.le_of_ble_eq_true rfl) (zLw_s (zLw_s (zLw_e zLw_0))) rfl (fun X hE ho hr hC => by
    subst hE; subst ho
    exact wX12_readsBreath hC hr hf)
/-! X12_readsSecret -/
def fX12_readsSecret (F : Nat) (v1 : Int32) (v2 : Int32) (μ : zMem) : Option zR :=
  zBd (fX12_here F μ) (fun r1 m1 => zBd (fX12_in F (r1 - (nI 65)) (nI 0) (nI 15) m1) (fun r2 m2 => if r2 = 0 then zBd (fX12_wrongAt F (nI 1) (m2 60 10) m2) (fun r4 m4 => zGb (decide (r4 = 0 ∨ r4 = 1)) (some (r4, m4))) else zLt (zUp m2 60 10 ((m2 60 10) + (nI 1))) (fun m6 => if v2 = 0 then zG ((nI 16) + v1) 1047 (zG ((nI 16) + v1) 1047 (zLt (zUp m6 61 ((nI 16) + v1).toNatClampNeg ((m6 61 ((nI 16) + v1).toNatClampNeg) &&& (((nI 1) <<< ((r1 - (nI 65)) &&& 31)) ^^^ (-1 : Int32)))) (fun m9 => some ((nI 1), m9)))) else zG ((nI 16) + v1) 1047 (zG ((nI 16) + v1) 1047 (zLt (zUp m6 61 ((nI 16) + v1).toNatClampNeg ((m6 61 ((nI 16) + v1).toNatClampNeg) ||| ((nI 1) <<< ((r1 - (nI 65)) &&& 31)))) (fun m11 => some ((nI 1), m11)))))))
set_option maxRecDepth 20000 in
set_option maxHeartbeats 4000000 in
theorem wX12_readsSecret {X : zX} {F : Nat} (hC : zCx X RX12 cX12_readsSecret 4 1) (hret : zRt X (some .boolean)) {v1 : Int32} {v2 : Int32} {μ : zMem} (hf : fX12_readsSecret F v1 v2 μ = some (zOut X)) : zAW X 0 [some (.ref 60), some (.int v1), some (.int v2), none] [] μ := by
  unfold fX12_readsSecret at hf
  refine zs_al hC dX12_readsSecret_0 rfl ?_
  refine zs_callV [] hC cw_X12_here cl_RX12_119 zL60 rfl (by decide) rfl rfl (Nat.le_of_ble_eq_true rfl) dX12_readsSecret_1 (fun _ h => ctX12_here h) (fun r1 m1 _ hf => ?_) hf
  show zAW X 4 _ (.int r1 :: _) m1
  refine zs_k hC dX12_readsSecret_4 ?_
  refine zs_isub hC dX12_readsSecret_6 ?_
  refine zs_is hC dX12_readsSecret_7 (by decide) rfl ?_
  refine zs_il hC dX12_readsSecret_8 rfl ?_
  refine zs_k hC dX12_readsSecret_9 ?_
  refine zs_k hC dX12_readsSecret_10 ?_
  refine zs_callS [.int (r1 - (nI 65)), .int (nI 0), .int (nI 15)] hC cw_X12_in cl_RX12_96 (by decide) rfl rfl (Nat.le_of_ble_eq_true rfl) dX12_readsSecret_12 (fun _ h => ctX12_in h) (fun r2 m2 _ hf => ?_) hf
  show zAW X 15 _ (.int r2 :: _) m2
  refine zs_if_ne hC dX12_readsSecret_15 (fun _ hf => ?_) (fun _ hf => ?_) hf
  · refine zs_al hC dX12_readsSecret_18 rfl ?_
    refine zs_k hC dX12_readsSecret_19 ?_
    refine zs_al hC dX12_readsSecret_20 rfl ?_
    refine zs_getI hC fl_RX12_113 zL60 rfl dX12_readsSecret_21 ?_
    refine zs_callV [.int (nI 1), .int (m2 60 10)] hC cw_X12_wrongAt cl_RX12_126 zL60 rfl (by decide) rfl rfl (Nat.le_of_ble_eq_true rfl) dX12_readsSecret_24 (fun _ h => ctX12_wrongAt h) (fun r4 m4 _ hf => ?_) hf
    show zAW X 27 _ (.int r4 :: _) m4
    exact zs_zret hC hret dX12_readsSecret_27 hf
  · refine zs_al hC dX12_readsSecret_28 rfl ?_
    refine zs_al hC dX12_readsSecret_29 rfl ?_
    refine zs_getI hC fl_RX12_113 zL60 rfl dX12_readsSecret_30 ?_
    refine zs_k hC dX12_readsSecret_33 ?_
    refine zs_iadd hC dX12_readsSecret_34 ?_
    refine zs_putI hC fl_RX12_113 fp_12_10 zL60 rfl dX12_readsSecret_35 ?_
    refine zs_let (fun m6 _ hf => ?_) hf
    refine zs_al hC dX12_readsSecret_38 rfl ?_
    refine zs_getR 61 hC fl_RX12_7 zL60 rfl dX12_readsSecret_39 ?_
    refine zs_k hC dX12_readsSecret_42 ?_
    refine zs_il hC dX12_readsSecret_44 rfl ?_
    refine zs_iadd hC dX12_readsSecret_45 ?_
    refine zs_il hC dX12_readsSecret_46 rfl ?_
    refine zs_if_eq hC dX12_readsSecret_47 (fun _ hf => ?_) (fun _ hf => ?_) hf
    · refine zs_al hC dX12_readsSecret_66 rfl ?_
      refine zs_getR 61 hC fl_RX12_7 zL60 rfl dX12_readsSecret_67 ?_
      refine zs_k hC dX12_readsSecret_70 ?_
      refine zs_il hC dX12_readsSecret_72 rfl ?_
      refine zs_iadd hC dX12_readsSecret_73 ?_
      refine zs_iald hC zL61 dX12_readsSecret_74 (fun _ hf => ?_) hf
      refine zs_k hC dX12_readsSecret_75 ?_
      refine zs_il hC dX12_readsSecret_76 rfl ?_
      refine zs_ishl hC dX12_readsSecret_77 ?_
      refine zs_k hC dX12_readsSecret_78 ?_
      refine zs_ixor hC dX12_readsSecret_79 ?_
      refine zs_iand hC dX12_readsSecret_80 ?_
      refine zs_iast hC zL61 dX12_readsSecret_81 (fun _ hf => ?_) hf
      refine zs_let (fun m9 _ hf => ?_) hf
      refine zs_k hC dX12_readsSecret_82 ?_
      exact zs_zretK hC hret dX12_readsSecret_83 (by decide) hf
    · refine zs_al hC dX12_readsSecret_50 rfl ?_
      refine zs_getR 61 hC fl_RX12_7 zL60 rfl dX12_readsSecret_51 ?_
      refine zs_k hC dX12_readsSecret_54 ?_
      refine zs_il hC dX12_readsSecret_56 rfl ?_
      refine zs_iadd hC dX12_readsSecret_57 ?_
      refine zs_iald hC zL61 dX12_readsSecret_58 (fun _ hf => ?_) hf
      refine zs_k hC dX12_readsSecret_59 ?_
      refine zs_il hC dX12_readsSecret_60 rfl ?_
      refine zs_ishl hC dX12_readsSecret_61 ?_
      refine zs_ior hC dX12_readsSecret_62 ?_
      refine zs_goto hC dX12_readsSecret_63 ?_
      refine zs_iast hC zL61 dX12_readsSecret_81 (fun _ hf => ?_) hf
      refine zs_let (fun m11 _ hf => ?_) hf
      refine zs_k hC dX12_readsSecret_82 ?_
      exact zs_zretK hC hret dX12_readsSecret_83 (by decide) hf
set_option maxRecDepth 20000 in
set_option maxHeartbeats 4000000 in
theorem ctX12_readsSecret {E : zEV} {F : Nat} {v1 : Int32} {v2 : Int32} {μ : zMem} {out : zR} (hf : fX12_readsSecret F v1 v2 μ = some out) : zCt E yX12_readsSecret cX12_readsSecret 4 (some .boolean) 1 [.ref 60, .int v1, .int v2] μ out :=
  zCt.of [some (.ref 60), some (.int v1), some (.int v2), none] (by decide +kernel) (Nat.le_of_ble_eq_true rfl) (zLw_s (zLw_s (zLw_s (zLw_e zLw_0)))) rfl (fun X hE ho hr hC => by
    subst hE; subst ho
    exact wX12_readsSecret hC hr hf)
/-! X12_readsOther -/
def fX12_readsOther (F : Nat) (v1 : Int32) (μ : zMem) : Option zR :=
  zBd (fX12_isLetter F μ) (fun r1 m1 => if r1 = 0 then zBd (fX12_wrongAt F (nI 1) (m1 60 10) m1) (fun r3 m3 => zGb (decide (r3 = 0 ∨ r3 = 1)) (some (r3, m3))) else zBd (fX12_here F m1) (fun r4 m4 => if (r4 - (nI 97)) = v1 then zBd (fX12_wrongAt F (nI 6) (m4 60 10) m4) (fun r6 m6 => zGb (decide (r6 = 0 ∨ r6 = 1)) (some (r6, m6))) else zBd (fX12_isTold F (r4 - (nI 97)) m4) (fun r7 m7 => if r7 = 0 then zBd (fX12_wrongAt F (nI 7) (m7 60 10) m7) (fun r9 m9 => zGb (decide (r9 = 0 ∨ r9 = 1)) (some (r9, m9))) else zLt (zUp m7 60 10 ((m7 60 10) + (nI 1))) (fun m11 => zG ((nI 16) + (r4 - (nI 97))) 1047 (zG ((nI 16) + v1) 1047 (zG ((nI 16) + (r4 - (nI 97))) 1047 (zLt (zUp m11 61 ((nI 16) + (r4 - (nI 97))).toNatClampNeg ((m11 61 ((nI 16) + (r4 - (nI 97))).toNatClampNeg) ||| (m11 61 ((nI 16) + v1).toNatClampNeg))) (fun m15 => some ((nI 1), m15)))))))))
set_option maxRecDepth 20000 in
set_option maxHeartbeats 4000000 in
theorem wX12_readsOther {X : zX} {F : Nat} (hC : zCx X RX12 cX12_readsOther 3 2) (hret : zRt X (some .boolean)) {v1 : Int32} {μ : zMem} (hf : fX12_readsOther F v1 μ = some (zOut X)) : zAW X 0 [some (.ref 60), some (.int v1), none] [] μ := by
  unfold fX12_readsOther at hf
  refine zs_al hC dX12_readsOther_0 rfl ?_
  refine zs_callV [] hC cw_X12_isLetter cl_RX12_221 zL60 rfl (by decide) rfl rfl (Nat.le_of_ble_eq_true rfl) dX12_readsOther_1 (fun _ h => ctX12_isLetter h) (fun r1 m1 _ hf => ?_) hf
  show zAW X 4 _ (.int r1 :: _) m1
  refine zs_if_ne hC dX12_readsOther_4 (fun _ hf => ?_) (fun _ hf => ?_) hf
  · refine zs_al hC dX12_readsOther_7 rfl ?_
    refine zs_k hC dX12_readsOther_8 ?_
    refine zs_al hC dX12_readsOther_9 rfl ?_
    refine zs_getI hC fl_RX12_113 zL60 rfl dX12_readsOther_10 ?_
    refine zs_callV [.int (nI 1), .int (m1 60 10)] hC cw_X12_wrongAt cl_RX12_126 zL60 rfl (by decide) rfl rfl (Nat.le_of_ble_eq_true rfl) dX12_readsOther_13 (fun _ h => ctX12_wrongAt h) (fun r3 m3 _ hf => ?_) hf
    show zAW X 16 _ (.int r3 :: _) m3
    exact zs_zret hC hret dX12_readsOther_16 hf
  · refine zs_al hC dX12_readsOther_17 rfl ?_
    refine zs_callV [] hC cw_X12_here cl_RX12_119 zL60 rfl (by decide) rfl rfl (Nat.le_of_ble_eq_true rfl) dX12_readsOther_18 (fun _ h => ctX12_here h) (fun r4 m4 _ hf => ?_) hf
    show zAW X 21 _ (.int r4 :: _) m4
    refine zs_k hC dX12_readsOther_21 ?_
    refine zs_isub hC dX12_readsOther_23 ?_
    refine zs_is hC dX12_readsOther_24 (by decide) rfl ?_
    refine zs_il hC dX12_readsOther_25 rfl ?_
    refine zs_il hC dX12_readsOther_26 rfl ?_
    refine zs_ic_ne hC dX12_readsOther_27 (fun _ hf => ?_) (fun _ hf => ?_) hf
    · refine zs_al hC dX12_readsOther_30 rfl ?_
      refine zs_k hC dX12_readsOther_31 ?_
      refine zs_al hC dX12_readsOther_33 rfl ?_
      refine zs_getI hC fl_RX12_113 zL60 rfl dX12_readsOther_34 ?_
      refine zs_callV [.int (nI 6), .int (m4 60 10)] hC cw_X12_wrongAt cl_RX12_126 zL60 rfl (by decide) rfl rfl (Nat.le_of_ble_eq_true rfl) dX12_readsOther_37 (fun _ h => ctX12_wrongAt h) (fun r6 m6 _ hf => ?_) hf
      show zAW X 40 _ (.int r6 :: _) m6
      exact zs_zret hC hret dX12_readsOther_40 hf
    · refine zs_al hC dX12_readsOther_41 rfl ?_
      refine zs_il hC dX12_readsOther_42 rfl ?_
      refine zs_callV [.int (r4 - (nI 97))] hC cw_X12_isTold cl_RX12_100 zL60 rfl (by decide) rfl rfl (Nat.le_of_ble_eq_true rfl) dX12_readsOther_43 (fun _ h => ctX12_isTold h) (fun r7 m7 _ hf => ?_) hf
      show zAW X 46 _ (.int r7 :: _) m7
      refine zs_if_ne hC dX12_readsOther_46 (fun _ hf => ?_) (fun _ hf => ?_) hf
      · refine zs_al hC dX12_readsOther_49 rfl ?_
        refine zs_k hC dX12_readsOther_50 ?_
        refine zs_al hC dX12_readsOther_52 rfl ?_
        refine zs_getI hC fl_RX12_113 zL60 rfl dX12_readsOther_53 ?_
        refine zs_callV [.int (nI 7), .int (m7 60 10)] hC cw_X12_wrongAt cl_RX12_126 zL60 rfl (by decide) rfl rfl (Nat.le_of_ble_eq_true rfl) dX12_readsOther_56 (fun _ h => ctX12_wrongAt h) (fun r9 m9 _ hf => ?_) hf
        show zAW X 59 _ (.int r9 :: _) m9
        exact zs_zret hC hret dX12_readsOther_59 hf
      · refine zs_al hC dX12_readsOther_60 rfl ?_
        refine zs_al hC dX12_readsOther_61 rfl ?_
        refine zs_getI hC fl_RX12_113 zL60 rfl dX12_readsOther_62 ?_
        refine zs_k hC dX12_readsOther_65 ?_
        refine zs_iadd hC dX12_readsOther_66 ?_
        refine zs_putI hC fl_RX12_113 fp_12_10 zL60 rfl dX12_readsOther_67 ?_
        refine zs_let (fun m11 _ hf => ?_) hf
        refine zs_al hC dX12_readsOther_70 rfl ?_
        refine zs_getR 61 hC fl_RX12_7 zL60 rfl dX12_readsOther_71 ?_
        refine zs_k hC dX12_readsOther_74 ?_
        refine zs_il hC dX12_readsOther_76 rfl ?_
        refine zs_iadd hC dX12_readsOther_77 ?_
        refine zs_al hC dX12_readsOther_78 rfl ?_
        refine zs_getR 61 hC fl_RX12_7 zL60 rfl dX12_readsOther_79 ?_
        refine zs_k hC dX12_readsOther_82 ?_
        refine zs_il hC dX12_readsOther_84 rfl ?_
        refine zs_iadd hC dX12_readsOther_85 ?_
        refine zs_iald hC zL61 dX12_readsOther_86 (fun _ hf => ?_) hf
        refine zs_al hC dX12_readsOther_87 rfl ?_
        refine zs_getR 61 hC fl_RX12_7 zL60 rfl dX12_readsOther_88 ?_
        refine zs_k hC dX12_readsOther_91 ?_
        refine zs_il hC dX12_readsOther_93 rfl ?_
        refine zs_iadd hC dX12_readsOther_94 ?_
        refine zs_iald hC zL61 dX12_readsOther_95 (fun _ hf => ?_) hf
        refine zs_ior hC dX12_readsOther_96 ?_
        refine zs_iast hC zL61 dX12_readsOther_97 (fun _ hf => ?_) hf
        refine zs_let (fun m15 _ hf => ?_) hf
        refine zs_k hC dX12_readsOther_98 ?_
        exact zs_zretK hC hret dX12_readsOther_99 (by decide) hf
set_option maxRecDepth 20000 in
set_option maxHeartbeats 4000000 in
theorem ctX12_readsOther {E : zEV} {F : Nat} {v1 : Int32} {μ : zMem} {out : zR} (hf : fX12_readsOther F v1 μ = some out) : zCt E yX12_readsOther cX12_readsOther 3 (some .boolean) 2 [.ref 60, .int v1] μ out :=
  zCt.of [some (.ref 60), some (.int v1), none] (by decide +kernel) (Nat.le_of_ble_eq_true rfl) (zLw_s (zLw_s (zLw_e zLw_0))) rfl (fun X hE ho hr hC => by
    subst hE; subst ho
    exact wX12_readsOther hC hr hf)
/-! X12_readsLine -/
def fX12_readsLine (F : Nat) (μ : zMem) : Option zR :=
  zBd (fX12_isLetter F μ) (fun r1 m1 => if r1 = 0 then zBd (fX12_wrongAt F (nI 1) (m1 60 10) m1) (fun r3 m3 => zGb (decide (r3 = 0 ∨ r3 = 1)) (some (r3, m3))) else if (m1 60 32) = (nI 20) then zBd (fX12_wrongAt F (nI 4) (m1 60 10) m1) (fun r6 m6 => zGb (decide (r6 = 0 ∨ r6 = 1)) (some (r6, m6))) else zLt (zUp m1 60 32 ((m1 60 32) + (nI 1))) (fun m8 => zBd (fX12_here F m8) (fun r9 m9 => zBd (fX12_isTold F (r9 - (nI 97)) m9) (fun r10 m10 => if r10 = 0 then zBd (fX12_wrongAt F (nI 7) (m10 60 10) m10) (fun r12 m12 => zGb (decide (r12 = 0 ∨ r12 = 1)) (some (r12, m12))) else zLt (zUp m10 60 10 ((m10 60 10) + (nI 1))) (fun m14 => zBd (fX12_here F m14) (fun r15 m15 => zLt (zUp m15 60 10 ((m15 60 10) + (nI 1))) (fun m17 => (if r15 = (nI 33) then zG ((nI 32) + (r9 - (nI 97))) 1047 (zLt (zUp m17 61 ((nI 32) + (r9 - (nI 97))).toNatClampNeg (nI 1)) (fun m19 => some ((nI 1), m19))) else if r15 = (nI 43) then zBd (fX12_readsSecret F (r9 - (nI 97)) (nI 1) m17) (fun r20 m20 => zGb (decide (r20 = 0 ∨ r20 = 1)) (some (r20, m20))) else if r15 = (nI 45) then zBd (fX12_readsSecret F (r9 - (nI 97)) (nI 0) m17) (fun r21 m21 => zGb (decide (r21 = 0 ∨ r21 = 1)) (some (r21, m21))) else if r15 = (nI 61) then zBd (fX12_readsBreath F (r9 - (nI 97)) m17) (fun r22 m22 => zGb (decide (r22 = 0 ∨ r22 = 1)) (some (r22, m22))) else if r15 = (nI 62) then zBd (fX12_readsOther F (r9 - (nI 97)) m17) (fun r23 m23 => zGb (decide (r23 = 0 ∨ r23 = 1)) (some (r23, m23))) else if r15 = (nI 63) then zG ((nI 32) + (r9 - (nI 97))) 1047 (zLt (zUp m17 61 ((nI 32) + (r9 - (nI 97))).toNatClampNeg (nI 0)) (fun m25 => some ((nI 1), m25))) else zBd (fX12_wrongAt F (nI 1) ((m17 60 10) - (nI 1)) m17) (fun r27 m27 => zGb (decide (r27 = 0 ∨ r27 = 1)) (some (r27, m27)))))))))))
set_option maxRecDepth 20000 in
set_option maxHeartbeats 4000000 in
theorem wX12_readsLine {X : zX} {F : Nat} (hC : zCx X RX12 cX12_readsLine 3 3) (hret : zRt X (some .boolean)) {μ : zMem} (hf : fX12_readsLine F μ = some (zOut X)) : zAW X 0 [some (.ref 60), none, none] [] μ := by
  unfold fX12_readsLine at hf
  refine zs_al hC dX12_readsLine_0 rfl ?_
  refine zs_callV [] hC cw_X12_isLetter cl_RX12_221 zL60 rfl (by decide) rfl rfl (Nat.le_of_ble_eq_true rfl) dX12_readsLine_1 (fun _ h => ctX12_isLetter h) (fun r1 m1 _ hf => ?_) hf
  show zAW X 4 _ (.int r1 :: _) m1
  refine zs_if_ne hC dX12_readsLine_4 (fun _ hf => ?_) (fun _ hf => ?_) hf
  · refine zs_al hC dX12_readsLine_7 rfl ?_
    refine zs_k hC dX12_readsLine_8 ?_
    refine zs_al hC dX12_readsLine_9 rfl ?_
    refine zs_getI hC fl_RX12_113 zL60 rfl dX12_readsLine_10 ?_
    refine zs_callV [.int (nI 1), .int (m1 60 10)] hC cw_X12_wrongAt cl_RX12_126 zL60 rfl (by decide) rfl rfl (Nat.le_of_ble_eq_true rfl) dX12_readsLine_13 (fun _ h => ctX12_wrongAt h) (fun r3 m3 _ hf => ?_) hf
    show zAW X 16 _ (.int r3 :: _) m3
    exact zs_zret hC hret dX12_readsLine_16 hf
  · refine zs_al hC dX12_readsLine_17 rfl ?_
    refine zs_getI hC fl_RX12_224 zL60 rfl dX12_readsLine_18 ?_
    refine zs_k hC dX12_readsLine_21 ?_
    refine zs_ic_ne hC dX12_readsLine_23 (fun _ hf => ?_) (fun _ hf => ?_) hf
    · refine zs_al hC dX12_readsLine_26 rfl ?_
      refine zs_k hC dX12_readsLine_27 ?_
      refine zs_al hC dX12_readsLine_28 rfl ?_
      refine zs_getI hC fl_RX12_113 zL60 rfl dX12_readsLine_29 ?_
      refine zs_callV [.int (nI 4), .int (m1 60 10)] hC cw_X12_wrongAt cl_RX12_126 zL60 rfl (by decide) rfl rfl (Nat.le_of_ble_eq_true rfl) dX12_readsLine_32 (fun _ h => ctX12_wrongAt h) (fun r6 m6 _ hf => ?_) hf
      show zAW X 35 _ (.int r6 :: _) m6
      exact zs_zret hC hret dX12_readsLine_35 hf
    · refine zs_al hC dX12_readsLine_36 rfl ?_
      refine zs_al hC dX12_readsLine_37 rfl ?_
      refine zs_getI hC fl_RX12_224 zL60 rfl dX12_readsLine_38 ?_
      refine zs_k hC dX12_readsLine_41 ?_
      refine zs_iadd hC dX12_readsLine_42 ?_
      refine zs_putI hC fl_RX12_224 fp_12_32 zL60 rfl dX12_readsLine_43 ?_
      refine zs_let (fun m8 _ hf => ?_) hf
      refine zs_al hC dX12_readsLine_46 rfl ?_
      refine zs_callV [] hC cw_X12_here cl_RX12_119 zL60 rfl (by decide) rfl rfl (Nat.le_of_ble_eq_true rfl) dX12_readsLine_47 (fun _ h => ctX12_here h) (fun r9 m9 _ hf => ?_) hf
      show zAW X 50 _ (.int r9 :: _) m9
      refine zs_k hC dX12_readsLine_50 ?_
      refine zs_isub hC dX12_readsLine_52 ?_
      refine zs_is hC dX12_readsLine_53 (by decide) rfl ?_
      refine zs_al hC dX12_readsLine_54 rfl ?_
      refine zs_il hC dX12_readsLine_55 rfl ?_
      refine zs_callV [.int (r9 - (nI 97))] hC cw_X12_isTold cl_RX12_100 zL60 rfl (by decide) rfl rfl (Nat.le_of_ble_eq_true rfl) dX12_readsLine_56 (fun _ h => ctX12_isTold h) (fun r10 m10 _ hf => ?_) hf
      show zAW X 59 _ (.int r10 :: _) m10
      refine zs_if_ne hC dX12_readsLine_59 (fun _ hf => ?_) (fun _ hf => ?_) hf
      · refine zs_al hC dX12_readsLine_62 rfl ?_
        refine zs_k hC dX12_readsLine_63 ?_
        refine zs_al hC dX12_readsLine_65 rfl ?_
        refine zs_getI hC fl_RX12_113 zL60 rfl dX12_readsLine_66 ?_
        refine zs_callV [.int (nI 7), .int (m10 60 10)] hC cw_X12_wrongAt cl_RX12_126 zL60 rfl (by decide) rfl rfl (Nat.le_of_ble_eq_true rfl) dX12_readsLine_69 (fun _ h => ctX12_wrongAt h) (fun r12 m12 _ hf => ?_) hf
        show zAW X 72 _ (.int r12 :: _) m12
        exact zs_zret hC hret dX12_readsLine_72 hf
      · refine zs_al hC dX12_readsLine_73 rfl ?_
        refine zs_al hC dX12_readsLine_74 rfl ?_
        refine zs_getI hC fl_RX12_113 zL60 rfl dX12_readsLine_75 ?_
        refine zs_k hC dX12_readsLine_78 ?_
        refine zs_iadd hC dX12_readsLine_79 ?_
        refine zs_putI hC fl_RX12_113 fp_12_10 zL60 rfl dX12_readsLine_80 ?_
        refine zs_let (fun m14 _ hf => ?_) hf
        refine zs_al hC dX12_readsLine_83 rfl ?_
        refine zs_callV [] hC cw_X12_here cl_RX12_119 zL60 rfl (by decide) rfl rfl (Nat.le_of_ble_eq_true rfl) dX12_readsLine_84 (fun _ h => ctX12_here h) (fun r15 m15 _ hf => ?_) hf
        show zAW X 87 _ (.int r15 :: _) m15
        refine zs_is hC dX12_readsLine_87 (by decide) rfl ?_
        refine zs_al hC dX12_readsLine_88 rfl ?_
        refine zs_al hC dX12_readsLine_89 rfl ?_
        refine zs_getI hC fl_RX12_113 zL60 rfl dX12_readsLine_90 ?_
        refine zs_k hC dX12_readsLine_93 ?_
        refine zs_iadd hC dX12_readsLine_94 ?_
        refine zs_putI hC fl_RX12_113 fp_12_10 zL60 rfl dX12_readsLine_95 ?_
        refine zs_let (fun m17 _ hf => ?_) hf
        refine zs_il hC dX12_readsLine_98 rfl ?_
        refine zs_case (nI 33) (fun hx hf => ?_) (fun e99_33 hf => ?_) hf
        · refine zs_look (tgt := 182) (off := 83) hC dX12_readsLine_99 (by decide) (by rw [hx]; first | done | decide) (by decide) ?_
          refine zs_al hC dX12_readsLine_182 rfl ?_
          refine zs_getR 61 hC fl_RX12_7 zL60 rfl dX12_readsLine_183 ?_
          refine zs_k hC dX12_readsLine_186 ?_
          refine zs_il hC dX12_readsLine_188 rfl ?_
          refine zs_iadd hC dX12_readsLine_189 ?_
          refine zs_k hC dX12_readsLine_190 ?_
          refine zs_iast hC zL61 dX12_readsLine_191 (fun _ hf => ?_) hf
          refine zs_let (fun m19 _ hf => ?_) hf
          refine zs_k hC dX12_readsLine_192 ?_
          exact zs_zretK hC hret dX12_readsLine_193 (by decide) hf
        refine zs_case (nI 43) (fun hx hf => ?_) (fun e99_43 hf => ?_) hf
        · refine zs_look (tgt := 156) (off := 57) hC dX12_readsLine_99 (by decide) (by rw [hx]; first | done | decide) (by decide) ?_
          refine zs_al hC dX12_readsLine_156 rfl ?_
          refine zs_il hC dX12_readsLine_157 rfl ?_
          refine zs_k hC dX12_readsLine_158 ?_
          refine zs_callV [.int (r9 - (nI 97)), .int (nI 1)] hC cw_X12_readsSecret cl_RX12_227 zL60 rfl (by decide) rfl rfl (Nat.le_of_ble_eq_true rfl) dX12_readsLine_159 (fun _ h => ctX12_readsSecret h) (fun r20 m20 _ hf => ?_) hf
          show zAW X 162 _ (.int r20 :: _) m20
          exact zs_zret hC hret dX12_readsLine_162 hf
        refine zs_case (nI 45) (fun hx hf => ?_) (fun e99_45 hf => ?_) hf
        · refine zs_look (tgt := 163) (off := 64) hC dX12_readsLine_99 (by decide) (by rw [hx]; first | done | decide) (by decide) ?_
          refine zs_al hC dX12_readsLine_163 rfl ?_
          refine zs_il hC dX12_readsLine_164 rfl ?_
          refine zs_k hC dX12_readsLine_165 ?_
          refine zs_callV [.int (r9 - (nI 97)), .int (nI 0)] hC cw_X12_readsSecret cl_RX12_227 zL60 rfl (by decide) rfl rfl (Nat.le_of_ble_eq_true rfl) dX12_readsLine_166 (fun _ h => ctX12_readsSecret h) (fun r21 m21 _ hf => ?_) hf
          show zAW X 169 _ (.int r21 :: _) m21
          exact zs_zret hC hret dX12_readsLine_169 hf
        refine zs_case (nI 61) (fun hx hf => ?_) (fun e99_61 hf => ?_) hf
        · refine zs_look (tgt := 176) (off := 77) hC dX12_readsLine_99 (by decide) (by rw [hx]; first | done | decide) (by decide) ?_
          refine zs_al hC dX12_readsLine_176 rfl ?_
          refine zs_il hC dX12_readsLine_177 rfl ?_
          refine zs_callV [.int (r9 - (nI 97))] hC cw_X12_readsBreath cl_RX12_234 zL60 rfl (by decide) rfl rfl (Nat.le_of_ble_eq_true rfl) dX12_readsLine_178 (fun _ h => ctX12_readsBreath h) (fun r22 m22 _ hf => ?_) hf
          show zAW X 181 _ (.int r22 :: _) m22
          exact zs_zret hC hret dX12_readsLine_181 hf
        refine zs_case (nI 62) (fun hx hf => ?_) (fun e99_62 hf => ?_) hf
        · refine zs_look (tgt := 170) (off := 71) hC dX12_readsLine_99 (by decide) (by rw [hx]; first | done | decide) (by decide) ?_
          refine zs_al hC dX12_readsLine_170 rfl ?_
          refine zs_il hC dX12_readsLine_171 rfl ?_
          refine zs_callV [.int (r9 - (nI 97))] hC cw_X12_readsOther cl_RX12_231 zL60 rfl (by decide) rfl rfl (Nat.le_of_ble_eq_true rfl) dX12_readsLine_172 (fun _ h => ctX12_readsOther h) (fun r23 m23 _ hf => ?_) hf
          show zAW X 175 _ (.int r23 :: _) m23
          exact zs_zret hC hret dX12_readsLine_175 hf
        refine zs_case (nI 63) (fun hx hf => ?_) (fun e99_63 hf => ?_) hf
        · refine zs_look (tgt := 194) (off := 95) hC dX12_readsLine_99 (by decide) (by rw [hx]; first | done | decide) (by decide) ?_
          refine zs_al hC dX12_readsLine_194 rfl ?_
          refine zs_getR 61 hC fl_RX12_7 zL60 rfl dX12_readsLine_195 ?_
          refine zs_k hC dX12_readsLine_198 ?_
          refine zs_il hC dX12_readsLine_200 rfl ?_
          refine zs_iadd hC dX12_readsLine_201 ?_
          refine zs_k hC dX12_readsLine_202 ?_
          refine zs_iast hC zL61 dX12_readsLine_203 (fun _ hf => ?_) hf
          refine zs_let (fun m25 _ hf => ?_) hf
          refine zs_k hC dX12_readsLine_204 ?_
          exact zs_zretK hC hret dX12_readsLine_205 (by decide) hf
        refine zs_look (tgt := 206) (off := 107) hC dX12_readsLine_99 (by decide) (by show Op.lookupswitch.offset [(33, 83), (43, 57), (45, 64), (61, 77), (62, 71), (63, 95)] 107 _ = _; rw [lv_osw (a := 33) e99_33 (by decide), lv_osw (a := 43) e99_43 (by decide), lv_osw (a := 45) e99_45 (by decide), lv_osw (a := 61) e99_61 (by decide), lv_osw (a := 62) e99_62 (by decide), lv_osw (a := 63) e99_63 (by decide)]; rfl) (by decide) ?_
        refine zs_al hC dX12_readsLine_206 rfl ?_
        refine zs_k hC dX12_readsLine_207 ?_
        refine zs_al hC dX12_readsLine_208 rfl ?_
        refine zs_getI hC fl_RX12_113 zL60 rfl dX12_readsLine_209 ?_
        refine zs_k hC dX12_readsLine_212 ?_
        refine zs_isub hC dX12_readsLine_213 ?_
        refine zs_callV [.int (nI 1), .int ((m17 60 10) - (nI 1))] hC cw_X12_wrongAt cl_RX12_126 zL60 rfl (by decide) rfl rfl (Nat.le_of_ble_eq_true rfl) dX12_readsLine_214 (fun _ h => ctX12_wrongAt h) (fun r27 m27 _ hf => ?_) hf
        show zAW X 217 _ (.int r27 :: _) m27
        exact zs_zret hC hret dX12_readsLine_217 hf
set_option maxRecDepth 20000 in
set_option maxHeartbeats 4000000 in
theorem ctX12_readsLine {E : zEV} {F : Nat} {μ : zMem} {out : zR} (hf : fX12_readsLine F μ = some out) : zCt E yX12_readsLine cX12_readsLine 3 (some .boolean) 3 [.ref 60] μ out :=
  zCt.of [some (.ref 60), none, none] (by decide +kernel) (Nat.le_of_ble_eq_true rfl) (zLw_s (zLw_e (zLw_e zLw_0))) rfl (fun X hE ho hr hC => by
    subst hE; subst ho
    exact wX12_readsLine hC hr hf)
/-! X12_gossip -/
def fX12_gossip_86 (F : Nat) (v2 : Int32) (μ : zMem) : Option zR :=
  zLt (zUp μ 60 9 (nI 0)) (fun m1 => if v2 = 0 then zBd (fX12_copies F 62 61 m1) (fun r4 m4 => some ((m4 60 12), m4)) else some ((m1 60 32), m1))
def fX12_gossip_46 (F : Nat) : Nat → Int32 → zMem → Option zR
  | 0, _, _ => none
  | n + 1, v2, μ => if v2 = 0 then fX12_gossip_86 F v2 μ else if (μ 60 11) ≤ (μ 60 10) then fX12_gossip_86 F v2 μ else zBd (fX12_takes F (nI 59) μ) (fun r3 m3 => if r3 = 0 then fX12_gossip_46 F n (nI 0) m3 else zBd (fX12_readsLine F m3) (fun r4 m4 => if r4 = 0 then fX12_gossip_46 F n (nI 0) m4 else fX12_gossip_46 F n (nI 1) m4))
def fX12_gossip (F : Nat) (v1 : Int32) (μ : zMem) : Option zR :=
  zBd (fX12_in F v1 (nI 1) (nI 120) μ) (fun r1 m1 => if r1 = 0 then some ((-1 : Int32), m1) else if v1 ≤ (m1 60 9) then zBd (fX12_beginsText F v1 m1) (fun r3 m3 => zLt (zUp m3 60 32 (nI 0)) (fun m4 => zBd (fX12_copies F 61 62 m4) (fun r7 m7 => zBd (fX12_readsLine F m7) (fun r8 m8 => fX12_gossip_46 F F r8 m8)))) else some ((-1 : Int32), m1))
set_option maxRecDepth 20000 in
set_option maxHeartbeats 4000000 in
theorem wX12_gossip_86 {X : zX} {F : Nat} (hC : zCx X RX12 cX12_gossip 3 4) (hret : zRt X (some .int)) {v2 : Int32} {μ : zMem} (hf : fX12_gossip_86 F v2 μ = some (zOut X)) : zAW X 86 [some (.ref 60), none, some (.int v2)] [] μ := by
  unfold fX12_gossip_86 at hf
  refine zs_al hC dX12_gossip_86 rfl ?_
  refine zs_k hC dX12_gossip_87 ?_
  refine zs_putI hC fl_RX12_105 fp_12_9 zL60 rfl dX12_gossip_88 ?_
  refine zs_let (fun m1 _ hf => ?_) hf
  refine zs_il hC dX12_gossip_91 rfl ?_
  refine zs_if_eq hC dX12_gossip_92 (fun _ hf => ?_) (fun _ hf => ?_) hf
  · refine zs_al hC dX12_gossip_100 rfl ?_
    refine zs_getR 62 hC fl_RX12_13 zL60 rfl dX12_gossip_101 ?_
    refine zs_al hC dX12_gossip_104 rfl ?_
    refine zs_getR 61 hC fl_RX12_7 zL60 rfl dX12_gossip_105 ?_
    refine zs_callS [.ref 62, .ref 61] hC cw_X12_copies cl_RX12_237 (by decide) rfl rfl (Nat.le_of_ble_eq_true rfl) dX12_gossip_108 (fun _ h => ctX12_copies (by decide) (by decide) h) (fun r4 m4 _ hf => ?_) hf
    show zAW X 111 _ _ m4
    refine zs_al hC dX12_gossip_111 rfl ?_
    refine zs_getI hC fl_RX12_123 zL60 rfl dX12_gossip_112 ?_
    exact zs_iret hC hret dX12_gossip_115 hf
  · refine zs_al hC dX12_gossip_95 rfl ?_
    refine zs_getI hC fl_RX12_224 zL60 rfl dX12_gossip_96 ?_
    exact zs_iret hC hret dX12_gossip_99 hf
set_option maxRecDepth 20000 in
set_option maxHeartbeats 4000000 in
theorem wX12_gossip_46 {X : zX} {F : Nat} (hC : zCx X RX12 cX12_gossip 3 4) (hret : zRt X (some .int)) : ∀ (n : Nat) (v2 : Int32) (μ : zMem), fX12_gossip_46 F n v2 μ = some (zOut X) → zAW X 46 [some (.ref 60), none, some (.int v2)] [] μ := by
  intro n
  induction n with
  | zero =>
    intro v2 μ hf
    rw [fX12_gossip_46] at hf
    cases hf
  | succ n ih =>
    intro v2 μ hf
    rw [fX12_gossip_46] at hf
    refine zs_il hC dX12_gossip_46 rfl ?_
    refine zs_if_eq hC dX12_gossip_47 (fun _ hf => ?_) (fun _ hf => ?_) hf
    · exact zAW.weak (wX12_gossip_86 hC hret hf) (zLw_s (zLw_n (zLw_s zLw_0)))
    · refine zs_al hC dX12_gossip_50 rfl ?_
      refine zs_getI hC fl_RX12_113 zL60 rfl dX12_gossip_51 ?_
      refine zs_al hC dX12_gossip_54 rfl ?_
      refine zs_getI hC fl_RX12_116 zL60 rfl dX12_gossip_55 ?_
      refine zs_ic_ge hC dX12_gossip_58 (fun _ hf => ?_) (fun _ hf => ?_) hf
      · exact zAW.weak (wX12_gossip_86 hC hret hf) (zLw_s (zLw_n (zLw_s zLw_0)))
      · refine zs_al hC dX12_gossip_61 rfl ?_
        refine zs_k hC dX12_gossip_62 ?_
        refine zs_callV [.int (nI 59)] hC cw_X12_takes cl_RX12_204 zL60 rfl (by decide) rfl rfl (Nat.le_of_ble_eq_true rfl) dX12_gossip_64 (fun _ h => ctX12_takes h) (fun r3 m3 _ hf => ?_) hf
        show zAW X 67 _ (.int r3 :: _) m3
        refine zs_if_eq hC dX12_gossip_67 (fun _ hf => ?_) (fun _ hf => ?_) hf
        · refine zs_k hC dX12_gossip_81 ?_
          refine zs_is hC dX12_gossip_82 (by decide) rfl ?_
          refine zs_goto hC dX12_gossip_83 ?_
          exact zAW.weak (ih _ _ hf) (zLw_s (zLw_n (zLw_s zLw_0)))
        · refine zs_al hC dX12_gossip_70 rfl ?_
          refine zs_callV [] hC cw_X12_readsLine cl_RX12_241 zL60 rfl (by decide) rfl rfl (Nat.le_of_ble_eq_true rfl) dX12_gossip_71 (fun _ h => ctX12_readsLine h) (fun r4 m4 _ hf => ?_) hf
          show zAW X 74 _ (.int r4 :: _) m4
          refine zs_if_eq hC dX12_gossip_74 (fun _ hf => ?_) (fun _ hf => ?_) hf
          · refine zs_k hC dX12_gossip_81 ?_
            refine zs_is hC dX12_gossip_82 (by decide) rfl ?_
            refine zs_goto hC dX12_gossip_83 ?_
            exact zAW.weak (ih _ _ hf) (zLw_s (zLw_n (zLw_s zLw_0)))
          · refine zs_k hC dX12_gossip_77 ?_
            refine zs_goto hC dX12_gossip_78 ?_
            refine zs_is hC dX12_gossip_82 (by decide) rfl ?_
            refine zs_goto hC dX12_gossip_83 ?_
            exact zAW.weak (ih _ _ hf) (zLw_s (zLw_n (zLw_s zLw_0)))
set_option maxRecDepth 20000 in
set_option maxHeartbeats 4000000 in
theorem wX12_gossip {X : zX} {F : Nat} (hC : zCx X RX12 cX12_gossip 3 4) (hret : zRt X (some .int)) {v1 : Int32} {μ : zMem} (hf : fX12_gossip F v1 μ = some (zOut X)) : zAW X 0 [some (.ref 60), some (.int v1), none] [] μ := by
  unfold fX12_gossip at hf
  refine zs_il hC dX12_gossip_0 rfl ?_
  refine zs_k hC dX12_gossip_1 ?_
  refine zs_k hC dX12_gossip_2 ?_
  refine zs_callS [.int v1, .int (nI 1), .int (nI 120)] hC cw_X12_in cl_RX12_96 (by decide) rfl rfl (Nat.le_of_ble_eq_true rfl) dX12_gossip_4 (fun _ h => ctX12_in h) (fun r1 m1 _ hf => ?_) hf
  show zAW X 7 _ (.int r1 :: _) m1
  refine zs_if_eq hC dX12_gossip_7 (fun _ hf => ?_) (fun _ hf => ?_) hf
  · refine zs_k hC dX12_gossip_18 ?_
    exact zs_iret hC hret dX12_gossip_19 hf
  · refine zs_il hC dX12_gossip_10 rfl ?_
    refine zs_al hC dX12_gossip_11 rfl ?_
    refine zs_getI hC fl_RX12_105 zL60 rfl dX12_gossip_12 ?_
    refine zs_ic_le hC dX12_gossip_15 (fun _ hf => ?_) (fun _ hf => ?_) hf
    · refine zs_al hC dX12_gossip_20 rfl ?_
      refine zs_il hC dX12_gossip_21 rfl ?_
      refine zs_callV [.int v1] hC cw_X12_beginsText cl_RX12_198 zL60 rfl (by decide) rfl rfl (Nat.le_of_ble_eq_true rfl) dX12_gossip_22 (fun _ h => ctX12_beginsText h) (fun r3 m3 _ hf => ?_) hf
      show zAW X 25 _ _ m3
      refine zs_al hC dX12_gossip_25 rfl ?_
      refine zs_k hC dX12_gossip_26 ?_
      refine zs_putI hC fl_RX12_224 fp_12_32 zL60 rfl dX12_gossip_27 ?_
      refine zs_let (fun m4 _ hf => ?_) hf
      refine zs_al hC dX12_gossip_30 rfl ?_
      refine zs_getR 61 hC fl_RX12_7 zL60 rfl dX12_gossip_31 ?_
      refine zs_al hC dX12_gossip_34 rfl ?_
      refine zs_getR 62 hC fl_RX12_13 zL60 rfl dX12_gossip_35 ?_
      refine zs_callS [.ref 61, .ref 62] hC cw_X12_copies cl_RX12_237 (by decide) rfl rfl (Nat.le_of_ble_eq_true rfl) dX12_gossip_38 (fun _ h => ctX12_copies (by decide) (by decide) h) (fun r7 m7 _ hf => ?_) hf
      show zAW X 41 _ _ m7
      refine zs_al hC dX12_gossip_41 rfl ?_
      refine zs_callV [] hC cw_X12_readsLine cl_RX12_241 zL60 rfl (by decide) rfl rfl (Nat.le_of_ble_eq_true rfl) dX12_gossip_42 (fun _ h => ctX12_readsLine h) (fun r8 m8 _ hf => ?_) hf
      show zAW X 45 _ (.int r8 :: _) m8
      refine zs_is hC dX12_gossip_45 (by decide) rfl ?_
      exact zAW.weak (wX12_gossip_46 hC hret F _ _ hf) (zLw_s (zLw_n (zLw_s zLw_0)))
    · refine zs_k hC dX12_gossip_18 ?_
      exact zs_iret hC hret dX12_gossip_19 hf
set_option maxRecDepth 20000 in
set_option maxHeartbeats 4000000 in
theorem ctX12_gossip {E : zEV} {F : Nat} {v1 : Int32} {μ : zMem} {out : zR} (hf : fX12_gossip F v1 μ = some out) : zCt E yX12_gossip cX12_gossip 3 (some .int) 4 [.ref 60, .int v1] μ out :=
  zCt.of [some (.ref 60), some (.int v1), none] (by decide +kernel) (Nat.le_of_ble_eq_true rfl) (zLw_s (zLw_s (zLw_e zLw_0))) rfl (fun X hE ho hr hC => by
    subst hE; subst ho
    exact wX12_gossip hC hr hf)
/-! X12_readsWord -/
def fX12_readsWord_157 (F : Nat) : Nat → Int32 → Int32 → Int32 → zMem → Option zR
  | 0, _, _, _, _ => none
  | n + 1, v2, v3, v4, μ => if v2 ≤ v4 then zLt (zUp μ 60 33 ((μ 60 33) + v2)) (fun m2 => some ((nI 1), m2)) else zG ((μ 60 33) + v4) 60 (zLt (zUp μ 66 ((μ 60 33) + v4).toNatClampNeg ((μ 60 10) - v3)) (fun m6 => fX12_readsWord_157 F n v2 v3 (v4 + (nI 1)) m6))
def fX12_readsWord_44 (F : Nat) : Nat → Int32 → Int32 → Int32 → zMem → Option zR
  | 0, _, _, _, _ => none
  | n + 1, v1, v2, v3, μ => zBd (fX12_here F μ) (fun r1 m1 => zBd (fX12_in F r1 (nI 97) (nI 122) m1) (fun r2 m2 => if r2 = 0 then if (m2 60 10) = v3 then zBd (fX12_wrongAt F (nI 1) (m2 60 10) m2) (fun r5 m5 => zGb (decide (r5 = 0 ∨ r5 = 1)) (some (r5, m5))) else if ((m2 60 33) + v2) ≤ (nI 60) then fX12_readsWord_157 F F v2 v3 (nI 0) m2 else zBd (fX12_wrongAt F (nI 4) v1 m2) (fun r7 m7 => zGb (decide (r7 = 0 ∨ r7 = 1)) (some (r7, m7))) else if (m2 60 10) = (v3 + (nI 12)) then zBd (fX12_wrongAt F (nI 2) (m2 60 10) m2) (fun r10 m10 => zGb (decide (r10 = 0 ∨ r10 = 1)) (some (r10, m10))) else zBd (fX12_here F m2) (fun r12 m12 => zBd (fX12_here F m12) (fun r14 m14 => zG (r14 - (nI 97)) 26 (zG (r12 - (nI 97)) 26 (zLt (zUp m14 67 (r12 - (nI 97)).toNatClampNeg ((m14 67 (r14 - (nI 97)).toNatClampNeg) + v2)) (fun m15 => zLt (zUp m15 60 10 ((m15 60 10) + (nI 1))) (fun m17 => fX12_readsWord_44 F n v1 v2 v3 m17))))))))
def fX12_readsWord (F : Nat) (μ : zMem) : Option zR :=
  zBd (fX12_here F μ) (fun r2 m2 => zBd (fX12_in F r2 (nI 50) (nI 57) m2) (fun r3 m3 => if r3 = 0 then fX12_readsWord_44 F F (μ 60 10) (nI 1) (m3 60 10) m3 else zBd (fX12_here F m3) (fun r5 m5 => zLt (zUp m5 60 10 ((m5 60 10) + (nI 1))) (fun m7 => fX12_readsWord_44 F F (μ 60 10) (r5 - (nI 48)) (m7 60 10) m7))))
set_option maxRecDepth 20000 in
set_option maxHeartbeats 4000000 in
theorem wX12_readsWord_157 {X : zX} {F : Nat} (hC : zCx X RX12 cX12_readsWord 5 1) (hret : zRt X (some .boolean)) : ∀ (n : Nat) (v2 : Int32) (v3 : Int32) (v4 : Int32) (μ : zMem), fX12_readsWord_157 F n v2 v3 v4 μ = some (zOut X) → zAW X 157 [some (.ref 60), none, some (.int v2), some (.int v3), some (.int v4)] [] μ := by
  intro n
  induction n with
  | zero =>
    intro v2 v3 v4 μ hf
    rw [fX12_readsWord_157] at hf
    cases hf
  | succ n ih =>
    intro v2 v3 v4 μ hf
    rw [fX12_readsWord_157] at hf
    refine zs_il hC dX12_readsWord_157 rfl ?_
    refine zs_il hC dX12_readsWord_159 rfl ?_
    refine zs_ic_ge hC dX12_readsWord_160 (fun _ hf => ?_) (fun _ hf => ?_) hf
    · refine zs_al hC dX12_readsWord_187 rfl ?_
      refine zs_al hC dX12_readsWord_188 rfl ?_
      refine zs_getI hC fl_RX12_244 zL60 rfl dX12_readsWord_189 ?_
      refine zs_il hC dX12_readsWord_192 rfl ?_
      refine zs_iadd hC dX12_readsWord_193 ?_
      refine zs_putI hC fl_RX12_244 fp_12_33 zL60 rfl dX12_readsWord_194 ?_
      refine zs_let (fun m2 _ hf => ?_) hf
      refine zs_k hC dX12_readsWord_197 ?_
      exact zs_zretK hC hret dX12_readsWord_198 (by decide) hf
    · refine zs_al hC dX12_readsWord_163 rfl ?_
      refine zs_getR 66 hC fl_RX12_25 zL60 rfl dX12_readsWord_164 ?_
      refine zs_al hC dX12_readsWord_167 rfl ?_
      refine zs_getI hC fl_RX12_244 zL60 rfl dX12_readsWord_168 ?_
      refine zs_il hC dX12_readsWord_171 rfl ?_
      refine zs_iadd hC dX12_readsWord_173 ?_
      refine zs_al hC dX12_readsWord_174 rfl ?_
      refine zs_getI hC fl_RX12_113 zL60 rfl dX12_readsWord_175 ?_
      refine zs_il hC dX12_readsWord_178 rfl ?_
      refine zs_isub hC dX12_readsWord_179 ?_
      refine zs_iast hC zL66 dX12_readsWord_180 (fun _ hf => ?_) hf
      refine zs_let (fun m6 _ hf => ?_) hf
      refine zs_iinc (nI 1) hC dX12_readsWord_181 (by decide) rfl (by decide) rfl ?_
      refine zs_goto hC dX12_readsWord_184 ?_
      exact zAW.weak (ih _ _ _ _ hf) (zLw_s (zLw_n (zLw_s (zLw_s (zLw_s zLw_0)))))
set_option maxRecDepth 20000 in
set_option maxHeartbeats 4000000 in
theorem wX12_readsWord_44 {X : zX} {F : Nat} (hC : zCx X RX12 cX12_readsWord 5 1) (hret : zRt X (some .boolean)) : ∀ (n : Nat) (v1 : Int32) (v2 : Int32) (v3 : Int32) (μ : zMem), fX12_readsWord_44 F n v1 v2 v3 μ = some (zOut X) → zAW X 44 [some (.ref 60), some (.int v1), some (.int v2), some (.int v3), none] [] μ := by
  intro n
  induction n with
  | zero =>
    intro v1 v2 v3 μ hf
    rw [fX12_readsWord_44] at hf
    cases hf
  | succ n ih =>
    intro v1 v2 v3 μ hf
    rw [fX12_readsWord_44] at hf
    refine zs_al hC dX12_readsWord_44 rfl ?_
    refine zs_callV [] hC cw_X12_here cl_RX12_119 zL60 rfl (by decide) rfl rfl (Nat.le_of_ble_eq_true rfl) dX12_readsWord_45 (fun _ h => ctX12_here h) (fun r1 m1 _ hf => ?_) hf
    show zAW X 48 _ (.int r1 :: _) m1
    refine zs_k hC dX12_readsWord_48 ?_
    refine zs_k hC dX12_readsWord_50 ?_
    refine zs_callS [.int r1, .int (nI 97), .int (nI 122)] hC cw_X12_in cl_RX12_96 (by decide) rfl rfl (Nat.le_of_ble_eq_true rfl) dX12_readsWord_52 (fun _ h => ctX12_in h) (fun r2 m2 _ hf => ?_) hf
    show zAW X 55 _ (.int r2 :: _) m2
    refine zs_if_eq hC dX12_readsWord_55 (fun _ hf => ?_) (fun _ hf => ?_) hf
    · refine zs_al hC dX12_readsWord_118 rfl ?_
      refine zs_getI hC fl_RX12_113 zL60 rfl dX12_readsWord_119 ?_
      refine zs_il hC dX12_readsWord_122 rfl ?_
      refine zs_ic_ne hC dX12_readsWord_123 (fun _ hf => ?_) (fun _ hf => ?_) hf
      · refine zs_al hC dX12_readsWord_126 rfl ?_
        refine zs_k hC dX12_readsWord_127 ?_
        refine zs_al hC dX12_readsWord_128 rfl ?_
        refine zs_getI hC fl_RX12_113 zL60 rfl dX12_readsWord_129 ?_
        refine zs_callV [.int (nI 1), .int (m2 60 10)] hC cw_X12_wrongAt cl_RX12_126 zL60 rfl (by decide) rfl rfl (Nat.le_of_ble_eq_true rfl) dX12_readsWord_132 (fun _ h => ctX12_wrongAt h) (fun r5 m5 _ hf => ?_) hf
        show zAW X 135 _ (.int r5 :: _) m5
        exact zs_zret hC hret dX12_readsWord_135 hf
      · refine zs_al hC dX12_readsWord_136 rfl ?_
        refine zs_getI hC fl_RX12_244 zL60 rfl dX12_readsWord_137 ?_
        refine zs_il hC dX12_readsWord_140 rfl ?_
        refine zs_iadd hC dX12_readsWord_141 ?_
        refine zs_k hC dX12_readsWord_142 ?_
        refine zs_ic_le hC dX12_readsWord_144 (fun _ hf => ?_) (fun _ hf => ?_) hf
        · refine zs_k hC dX12_readsWord_154 ?_
          refine zs_is hC dX12_readsWord_155 (by decide) rfl ?_
          exact zAW.weak (wX12_readsWord_157 hC hret F _ _ _ _ hf) (zLw_s (zLw_n (zLw_s (zLw_s (zLw_s zLw_0)))))
        · refine zs_al hC dX12_readsWord_147 rfl ?_
          refine zs_k hC dX12_readsWord_148 ?_
          refine zs_il hC dX12_readsWord_149 rfl ?_
          refine zs_callV [.int (nI 4), .int v1] hC cw_X12_wrongAt cl_RX12_126 zL60 rfl (by decide) rfl rfl (Nat.le_of_ble_eq_true rfl) dX12_readsWord_150 (fun _ h => ctX12_wrongAt h) (fun r7 m7 _ hf => ?_) hf
          show zAW X 153 _ (.int r7 :: _) m7
          exact zs_zret hC hret dX12_readsWord_153 hf
    · refine zs_al hC dX12_readsWord_58 rfl ?_
      refine zs_getI hC fl_RX12_113 zL60 rfl dX12_readsWord_59 ?_
      refine zs_il hC dX12_readsWord_62 rfl ?_
      refine zs_k hC dX12_readsWord_63 ?_
      refine zs_iadd hC dX12_readsWord_65 ?_
      refine zs_ic_ne hC dX12_readsWord_66 (fun _ hf => ?_) (fun _ hf => ?_) hf
      · refine zs_al hC dX12_readsWord_69 rfl ?_
        refine zs_k hC dX12_readsWord_70 ?_
        refine zs_al hC dX12_readsWord_71 rfl ?_
        refine zs_getI hC fl_RX12_113 zL60 rfl dX12_readsWord_72 ?_
        refine zs_callV [.int (nI 2), .int (m2 60 10)] hC cw_X12_wrongAt cl_RX12_126 zL60 rfl (by decide) rfl rfl (Nat.le_of_ble_eq_true rfl) dX12_readsWord_75 (fun _ h => ctX12_wrongAt h) (fun r10 m10 _ hf => ?_) hf
        show zAW X 78 _ (.int r10 :: _) m10
        exact zs_zret hC hret dX12_readsWord_78 hf
      · refine zs_al hC dX12_readsWord_79 rfl ?_
        refine zs_getR 67 hC fl_RX12_28 zL60 rfl dX12_readsWord_80 ?_
        refine zs_al hC dX12_readsWord_83 rfl ?_
        refine zs_callV [] hC cw_X12_here cl_RX12_119 zL60 rfl (by decide) rfl rfl (Nat.le_of_ble_eq_true rfl) dX12_readsWord_84 (fun _ h => ctX12_here h) (fun r12 m12 _ hf => ?_) hf
        show zAW X 87 _ (.int r12 :: _) m12
        refine zs_k hC dX12_readsWord_87 ?_
        refine zs_isub hC dX12_readsWord_89 ?_
        refine zs_al hC dX12_readsWord_90 rfl ?_
        refine zs_getR 67 hC fl_RX12_28 zL60 rfl dX12_readsWord_91 ?_
        refine zs_al hC dX12_readsWord_94 rfl ?_
        refine zs_callV [] hC cw_X12_here cl_RX12_119 zL60 rfl (by decide) rfl rfl (Nat.le_of_ble_eq_true rfl) dX12_readsWord_95 (fun _ h => ctX12_here h) (fun r14 m14 _ hf => ?_) hf
        show zAW X 98 _ (.int r14 :: _) m14
        refine zs_k hC dX12_readsWord_98 ?_
        refine zs_isub hC dX12_readsWord_100 ?_
        refine zs_iald hC zL67 dX12_readsWord_101 (fun _ hf => ?_) hf
        refine zs_il hC dX12_readsWord_102 rfl ?_
        refine zs_iadd hC dX12_readsWord_103 ?_
        refine zs_iast hC zL67 dX12_readsWord_104 (fun _ hf => ?_) hf
        refine zs_let (fun m15 _ hf => ?_) hf
        refine zs_al hC dX12_readsWord_105 rfl ?_
        refine zs_al hC dX12_readsWord_106 rfl ?_
        refine zs_getI hC fl_RX12_113 zL60 rfl dX12_readsWord_107 ?_
        refine zs_k hC dX12_readsWord_110 ?_
        refine zs_iadd hC dX12_readsWord_111 ?_
        refine zs_putI hC fl_RX12_113 fp_12_10 zL60 rfl dX12_readsWord_112 ?_
        refine zs_let (fun m17 _ hf => ?_) hf
        refine zs_goto hC dX12_readsWord_115 ?_
        exact zAW.weak (ih _ _ _ _ hf) (zLw_s (zLw_s (zLw_s (zLw_s (zLw_n zLw_0)))))
set_option maxRecDepth 20000 in
set_option maxHeartbeats 4000000 in
theorem wX12_readsWord {X : zX} {F : Nat} (hC : zCx X RX12 cX12_readsWord 5 1) (hret : zRt X (some .boolean)) {μ : zMem} (hf : fX12_readsWord F μ = some (zOut X)) : zAW X 0 [some (.ref 60), none, none, none, none] [] μ := by
  unfold fX12_readsWord at hf
  refine zs_al hC dX12_readsWord_0 rfl ?_
  refine zs_getI hC fl_RX12_113 zL60 rfl dX12_readsWord_1 ?_
  refine zs_is hC dX12_readsWord_4 (by decide) rfl ?_
  refine zs_k hC dX12_readsWord_5 ?_
  refine zs_is hC dX12_readsWord_6 (by decide) rfl ?_
  refine zs_al hC dX12_readsWord_7 rfl ?_
  refine zs_callV [] hC cw_X12_here cl_RX12_119 zL60 rfl (by decide) rfl rfl (Nat.le_of_ble_eq_true rfl) dX12_readsWord_8 (fun _ h => ctX12_here h) (fun r2 m2 _ hf => ?_) hf
  show zAW X 11 _ (.int r2 :: _) m2
  refine zs_k hC dX12_readsWord_11 ?_
  refine zs_k hC dX12_readsWord_13 ?_
  refine zs_callS [.int r2, .int (nI 50), .int (nI 57)] hC cw_X12_in cl_RX12_96 (by decide) rfl rfl (Nat.le_of_ble_eq_true rfl) dX12_readsWord_15 (fun _ h => ctX12_in h) (fun r3 m3 _ hf => ?_) hf
  show zAW X 18 _ (.int r3 :: _) m3
  refine zs_if_eq hC dX12_readsWord_18 (fun _ hf => ?_) (fun _ hf => ?_) hf
  · refine zs_al hC dX12_readsWord_39 rfl ?_
    refine zs_getI hC fl_RX12_113 zL60 rfl dX12_readsWord_40 ?_
    refine zs_is hC dX12_readsWord_43 (by decide) rfl ?_
    exact zAW.weak (wX12_readsWord_44 hC hret F _ _ _ _ hf) (zLw_s (zLw_s (zLw_s (zLw_s (zLw_n zLw_0)))))
  · refine zs_al hC dX12_readsWord_21 rfl ?_
    refine zs_callV [] hC cw_X12_here cl_RX12_119 zL60 rfl (by decide) rfl rfl (Nat.le_of_ble_eq_true rfl) dX12_readsWord_22 (fun _ h => ctX12_here h) (fun r5 m5 _ hf => ?_) hf
    show zAW X 25 _ (.int r5 :: _) m5
    refine zs_k hC dX12_readsWord_25 ?_
    refine zs_isub hC dX12_readsWord_27 ?_
    refine zs_is hC dX12_readsWord_28 (by decide) rfl ?_
    refine zs_al hC dX12_readsWord_29 rfl ?_
    refine zs_al hC dX12_readsWord_30 rfl ?_
    refine zs_getI hC fl_RX12_113 zL60 rfl dX12_readsWord_31 ?_
    refine zs_k hC dX12_readsWord_34 ?_
    refine zs_iadd hC dX12_readsWord_35 ?_
    refine zs_putI hC fl_RX12_113 fp_12_10 zL60 rfl dX12_readsWord_36 ?_
    refine zs_let (fun m7 _ hf => ?_) hf
    refine zs_al hC dX12_readsWord_39 rfl ?_
    refine zs_getI hC fl_RX12_113 zL60 rfl dX12_readsWord_40 ?_
    refine zs_is hC dX12_readsWord_43 (by decide) rfl ?_
    exact zAW.weak (wX12_readsWord_44 hC hret F _ _ _ _ hf) (zLw_s (zLw_s (zLw_s (zLw_s (zLw_n zLw_0)))))
set_option maxRecDepth 20000 in
set_option maxHeartbeats 4000000 in
theorem ctX12_readsWord {E : zEV} {F : Nat} {μ : zMem} {out : zR} (hf : fX12_readsWord F μ = some out) : zCt E yX12_readsWord cX12_readsWord 5 (some .boolean) 1 [.ref 60] μ out :=
  zCt.of [some (.ref 60), none, none, none, none] (by decide +kernel) (Nat.le_of_ble_eq_true rfl) (zLw_s (zLw_e (zLw_e (zLw_e (zLw_e zLw_0))))) rfl (fun X hE ho hr hC => by
    subst hE; subst ho
    exact wX12_readsWord hC hr hf)
