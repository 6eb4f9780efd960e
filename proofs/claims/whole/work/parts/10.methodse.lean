/-! X12_copy -/
def fX12_copy_149 (F : Nat) : Nat → Int32 → zMem → Option zR
  | 0, _, _ => none
  | n + 1, v3, μ => if (nI 26) ≤ v3 then some ((μ 60 33), μ) else zG v3 26 (zG v3 26 (zLt (zUp μ 65 v3.toNatClampNeg (μ 67 v3.toNatClampNeg)) (fun m4 => fX12_copy_149 F n (v3 + (nI 1)) m4)))
def fX12_copy_121 (F : Nat) : Nat → Int32 → zMem → Option zR
  | 0, _, _ => none
  | n + 1, v3, μ => if (μ 60 33) ≤ v3 then fX12_copy_149 F F (nI 0) μ else zG v3 60 (zG v3 60 (zLt (zUp μ 64 v3.toNatClampNeg (μ 66 v3.toNatClampNeg)) (fun m4 => fX12_copy_121 F n (v3 + (nI 1)) m4)))
def fX12_copy_97 (F : Nat) (v2 : Int32) (μ : zMem) : Option zR :=
  zLt (zUp μ 60 9 (nI 0)) (fun m1 => if v2 = 0 then some ((m1 60 12), m1) else zLt (zUp m1 60 7 (m1 60 33)) (fun m4 => fX12_copy_121 F F (nI 0) m4))
def fX12_copy_57 (F : Nat) : Nat → Int32 → zMem → Option zR
  | 0, _, _ => none
  | n + 1, v2, μ => if v2 = 0 then fX12_copy_97 F v2 μ else if (μ 60 11) ≤ (μ 60 10) then fX12_copy_97 F v2 μ else zBd (fX12_takes F (nI 95) μ) (fun r3 m3 => if r3 = 0 then fX12_copy_57 F n (nI 0) m3 else zBd (fX12_readsWord F m3) (fun r4 m4 => if r4 = 0 then fX12_copy_57 F n (nI 0) m4 else fX12_copy_57 F n (nI 1) m4))
def fX12_copy_33 (F : Nat) : Nat → Int32 → zMem → Option zR
  | 0, _, _ => none
  | n + 1, v2, μ => if (nI 26) ≤ v2 then zBd (fX12_readsWord F μ) (fun r1 m1 => fX12_copy_57 F F r1 m1) else zG v2 26 (zLt (zUp μ 67 v2.toNatClampNeg (nI 0)) (fun m3 => fX12_copy_33 F n (v2 + (nI 1)) m3))
def fX12_copy (F : Nat) (v1 : Int32) (μ : zMem) : Option zR :=
  zBd (fX12_in F v1 (nI 1) (nI 200) μ) (fun r1 m1 => if r1 = 0 then some ((-1 : Int32), m1) else if v1 ≤ (m1 60 9) then zBd (fX12_beginsText F v1 m1) (fun r3 m3 => zLt (zUp m3 60 33 (nI 0)) (fun m4 => fX12_copy_33 F F (nI 0) m4)) else some ((-1 : Int32), m1))
set_option maxRecDepth 20000 in
set_option maxHeartbeats 4000000 in
theorem wX12_copy_149 {X : zX} {F : Nat} (hC : zCx X RX12 cX12_copy 4 2) (hret : zRt X (some .int)) : ∀ (n : Nat) (v3 : Int32) (μ : zMem), fX12_copy_149 F n v3 μ = some (zOut X) → zAW X 149 [some (.ref 60), none, none, some (.int v3)] [] μ := by
  intro n
  induction n with
  | zero =>
    intro v3 μ hf
    rw [fX12_copy_149] at hf
    cases hf
  | succ n ih =>
    intro v3 μ hf
    rw [fX12_copy_149] at hf
    refine zs_il hC dX12_copy_149 rfl ?_
    refine zs_k hC dX12_copy_150 ?_
    refine zs_ic_ge hC dX12_copy_152 (fun _ hf => ?_) (fun _ hf => ?_) hf
    · refine zs_al hC dX12_copy_173 rfl ?_
      refine zs_getI hC fl_RX12_244 zL60 rfl dX12_copy_174 ?_
      exact zs_iret hC hret dX12_copy_177 hf
    · refine zs_al hC dX12_copy_155 rfl ?_
      refine zs_getR 65 hC fl_RX12_22 zL60 rfl dX12_copy_156 ?_
      refine zs_il hC dX12_copy_159 rfl ?_
      refine zs_al hC dX12_copy_160 rfl ?_
      refine zs_getR 67 hC fl_RX12_28 zL60 rfl dX12_copy_161 ?_
      refine zs_il hC dX12_copy_164 rfl ?_
      refine zs_iald hC zL67 dX12_copy_165 (fun _ hf => ?_) hf
      refine zs_iast hC zL65 dX12_copy_166 (fun _ hf => ?_) hf
      refine zs_let (fun m4 _ hf => ?_) hf
      refine zs_iinc (nI 1) hC dX12_copy_167 (by decide) rfl (by decide) rfl ?_
      refine zs_goto hC dX12_copy_170 ?_
      exact zAW.weak (ih _ _ hf) (zLw_s (zLw_n (zLw_n (zLw_s zLw_0))))
set_option maxRecDepth 20000 in
set_option maxHeartbeats 4000000 in
theorem wX12_copy_121 {X : zX} {F : Nat} (hC : zCx X RX12 cX12_copy 4 2) (hret : zRt X (some .int)) : ∀ (n : Nat) (v3 : Int32) (μ : zMem), fX12_copy_121 F n v3 μ = some (zOut X) → zAW X 121 [some (.ref 60), none, none, some (.int v3)] [] μ := by
  intro n
  induction n with
  | zero =>
    intro v3 μ hf
    rw [fX12_copy_121] at hf
    cases hf
  | succ n ih =>
    intro v3 μ hf
    rw [fX12_copy_121] at hf
    refine zs_il hC dX12_copy_121 rfl ?_
    refine zs_al hC dX12_copy_122 rfl ?_
    refine zs_getI hC fl_RX12_244 zL60 rfl dX12_copy_123 ?_
    refine zs_ic_ge hC dX12_copy_126 (fun _ hf => ?_) (fun _ hf => ?_) hf
    · refine zs_k hC dX12_copy_147 ?_
      refine zs_is hC dX12_copy_148 (by decide) rfl ?_
      exact zAW.weak (wX12_copy_149 hC hret F _ _ hf) (zLw_s (zLw_n (zLw_n (zLw_s zLw_0))))
    · refine zs_al hC dX12_copy_129 rfl ?_
      refine zs_getR 64 hC fl_RX12_19 zL60 rfl dX12_copy_130 ?_
      refine zs_il hC dX12_copy_133 rfl ?_
      refine zs_al hC dX12_copy_134 rfl ?_
      refine zs_getR 66 hC fl_RX12_25 zL60 rfl dX12_copy_135 ?_
      refine zs_il hC dX12_copy_138 rfl ?_
      refine zs_iald hC zL66 dX12_copy_139 (fun _ hf => ?_) hf
      refine zs_iast hC zL64 dX12_copy_140 (fun _ hf => ?_) hf
      refine zs_let (fun m4 _ hf => ?_) hf
      refine zs_iinc (nI 1) hC dX12_copy_141 (by decide) rfl (by decide) rfl ?_
      refine zs_goto hC dX12_copy_144 ?_
      exact zAW.weak (ih _ _ hf) (zLw_s (zLw_n (zLw_n (zLw_s zLw_0))))
set_option maxRecDepth 20000 in
set_option maxHeartbeats 4000000 in
theorem wX12_copy_97 {X : zX} {F : Nat} (hC : zCx X RX12 cX12_copy 4 2) (hret : zRt X (some .int)) {v2 : Int32} {μ : zMem} (hf : fX12_copy_97 F v2 μ = some (zOut X)) : zAW X 97 [some (.ref 60), none, some (.int v2), none] [] μ := by
  unfold fX12_copy_97 at hf
  refine zs_al hC dX12_copy_97 rfl ?_
  refine zs_k hC dX12_copy_98 ?_
  refine zs_putI hC fl_RX12_105 fp_12_9 zL60 rfl dX12_copy_99 ?_
  refine zs_let (fun m1 _ hf => ?_) hf
  refine zs_il hC dX12_copy_102 rfl ?_
  refine zs_if_ne hC dX12_copy_103 (fun _ hf => ?_) (fun _ hf => ?_) hf
  · refine zs_al hC dX12_copy_106 rfl ?_
    refine zs_getI hC fl_RX12_123 zL60 rfl dX12_copy_107 ?_
    exact zs_iret hC hret dX12_copy_110 hf
  · refine zs_al hC dX12_copy_111 rfl ?_
    refine zs_al hC dX12_copy_112 rfl ?_
    refine zs_getI hC fl_RX12_244 zL60 rfl dX12_copy_113 ?_
    refine zs_putI hC fl_RX12_250 fp_12_7 zL60 rfl dX12_copy_116 ?_
    refine zs_let (fun m4 _ hf => ?_) hf
    refine zs_k hC dX12_copy_119 ?_
    refine zs_is hC dX12_copy_120 (by decide) rfl ?_
    exact zAW.weak (wX12_copy_121 hC hret F _ _ hf) (zLw_s (zLw_n (zLw_n (zLw_s zLw_0))))
set_option maxRecDepth 20000 in
set_option maxHeartbeats 4000000 in
theorem wX12_copy_57 {X : zX} {F : Nat} (hC : zCx X RX12 cX12_copy 4 2) (hret : zRt X (some .int)) : ∀ (n : Nat) (v2 : Int32) (μ : zMem), fX12_copy_57 F n v2 μ = some (zOut X) → zAW X 57 [some (.ref 60), none, some (.int v2), none] [] μ := by
  intro n
  induction n with
  | zero =>
    intro v2 μ hf
    rw [fX12_copy_57] at hf
    cases hf
  | succ n ih =>
    intro v2 μ hf
    rw [fX12_copy_57] at hf
    refine zs_il hC dX12_copy_57 rfl ?_
    refine zs_if_eq hC dX12_copy_58 (fun _ hf => ?_) (fun _ hf => ?_) hf
    · exact zAW.weak (wX12_copy_97 hC hret hf) (zLw_s (zLw_n (zLw_s (zLw_n zLw_0))))
    · refine zs_al hC dX12_copy_61 rfl ?_
      refine zs_getI hC fl_RX12_113 zL60 rfl dX12_copy_62 ?_
      refine zs_al hC dX12_copy_65 rfl ?_
      refine zs_getI hC fl_RX12_116 zL60 rfl dX12_copy_66 ?_
      refine zs_ic_ge hC dX12_copy_69 (fun _ hf => ?_) (fun _ hf => ?_) hf
      · exact zAW.weak (wX12_copy_97 hC hret hf) (zLw_s (zLw_n (zLw_s (zLw_n zLw_0))))
      · refine zs_al hC dX12_copy_72 rfl ?_
        refine zs_k hC dX12_copy_73 ?_
        refine zs_callV [.int (nI 95)] hC cw_X12_takes cl_RX12_204 zL60 rfl (by decide) rfl rfl (Nat.le_of_ble_eq_true rfl) dX12_copy_75 (fun _ h => ctX12_takes h) (fun r3 m3 _ hf => ?_) hf
        show zAW X 78 _ (.int r3 :: _) m3
        refine zs_if_eq hC dX12_copy_78 (fun _ hf => ?_) (fun _ hf => ?_) hf
        · refine zs_k hC dX12_copy_92 ?_
          refine zs_is hC dX12_copy_93 (by decide) rfl ?_
          refine zs_goto hC dX12_copy_94 ?_
          exact zAW.weak (ih _ _ hf) (zLw_s (zLw_n (zLw_s (zLw_n zLw_0))))
        · refine zs_al hC dX12_copy_81 rfl ?_
          refine zs_callV [] hC cw_X12_readsWord cl_RX12_247 zL60 rfl (by decide) rfl rfl (Nat.le_of_ble_eq_true rfl) dX12_copy_82 (fun _ h => ctX12_readsWord h) (fun r4 m4 _ hf => ?_) hf
          show zAW X 85 _ (.int r4 :: _) m4
          refine zs_if_eq hC dX12_copy_85 (fun _ hf => ?_) (fun _ hf => ?_) hf
          · refine zs_k hC dX12_copy_92 ?_
            refine zs_is hC dX12_copy_93 (by decide) rfl ?_
            refine zs_goto hC dX12_copy_94 ?_
            exact zAW.weak (ih _ _ hf) (zLw_s (zLw_n (zLw_s (zLw_n zLw_0))))
          · refine zs_k hC dX12_copy_88 ?_
            refine zs_goto hC dX12_copy_89 ?_
            refine zs_is hC dX12_copy_93 (by decide) rfl ?_
            refine zs_goto hC dX12_copy_94 ?_
            exact zAW.weak (ih _ _ hf) (zLw_s (zLw_n (zLw_s (zLw_n zLw_0))))
set_option maxRecDepth 20000 in
set_option maxHeartbeats 4000000 in
theorem wX12_copy_33 {X : zX} {F : Nat} (hC : zCx X RX12 cX12_copy 4 2) (hret : zRt X (some .int)) : ∀ (n : Nat) (v2 : Int32) (μ : zMem), fX12_copy_33 F n v2 μ = some (zOut X) → zAW X 33 [some (.ref 60), none, some (.int v2), none] [] μ := by
  intro n
  induction n with
  | zero =>
    intro v2 μ hf
    rw [fX12_copy_33] at hf
    cases hf
  | succ n ih =>
    intro v2 μ hf
    rw [fX12_copy_33] at hf
    refine zs_il hC dX12_copy_33 rfl ?_
    refine zs_k hC dX12_copy_34 ?_
    refine zs_ic_ge hC dX12_copy_36 (fun _ hf => ?_) (fun _ hf => ?_) hf
    · refine zs_al hC dX12_copy_52 rfl ?_
      refine zs_callV [] hC cw_X12_readsWord cl_RX12_247 zL60 rfl (by decide) rfl rfl (Nat.le_of_ble_eq_true rfl) dX12_copy_53 (fun _ h => ctX12_readsWord h) (fun r1 m1 _ hf => ?_) hf
      show zAW X 56 _ (.int r1 :: _) m1
      refine zs_is hC dX12_copy_56 (by decide) rfl ?_
      exact zAW.weak (wX12_copy_57 hC hret F _ _ hf) (zLw_s (zLw_n (zLw_s (zLw_n zLw_0))))
    · refine zs_al hC dX12_copy_39 rfl ?_
      refine zs_getR 67 hC fl_RX12_28 zL60 rfl dX12_copy_40 ?_
      refine zs_il hC dX12_copy_43 rfl ?_
      refine zs_k hC dX12_copy_44 ?_
      refine zs_iast hC zL67 dX12_copy_45 (fun _ hf => ?_) hf
      refine zs_let (fun m3 _ hf => ?_) hf
      refine zs_iinc (nI 1) hC dX12_copy_46 (by decide) rfl (by decide) rfl ?_
      refine zs_goto hC dX12_copy_49 ?_
      exact zAW.weak (ih _ _ hf) (zLw_s (zLw_n (zLw_s (zLw_n zLw_0))))
set_option maxRecDepth 20000 in
set_option maxHeartbeats 4000000 in
theorem wX12_copy {X : zX} {F : Nat} (hC : zCx X RX12 cX12_copy 4 2) (hret : zRt X (some .int)) {v1 : Int32} {μ : zMem} (hf : fX12_copy F v1 μ = some (zOut X)) : zAW X 0 [some (.ref 60), some (.int v1), none, none] [] μ := by
  unfold fX12_copy at hf
  refine zs_il hC dX12_copy_0 rfl ?_
  refine zs_k hC dX12_copy_1 ?_
  refine zs_k hC dX12_copy_2 ?_
  refine zs_callS [.int v1, .int (nI 1), .int (nI 200)] hC cw_X12_in cl_RX12_96 (by decide) rfl rfl (Nat.le_of_ble_eq_true rfl) dX12_copy_5 (fun _ h => ctX12_in h) (fun r1 m1 _ hf => ?_) hf
  show zAW X 8 _ (.int r1 :: _) m1
  refine zs_if_eq hC dX12_copy_8 (fun _ hf => ?_) (fun _ hf => ?_) hf
  · refine zs_k hC dX12_copy_19 ?_
    exact zs_iret hC hret dX12_copy_20 hf
  · refine zs_il hC dX12_copy_11 rfl ?_
    refine zs_al hC dX12_copy_12 rfl ?_
    refine zs_getI hC fl_RX12_105 zL60 rfl dX12_copy_13 ?_
    refine zs_ic_le hC dX12_copy_16 (fun _ hf => ?_) (fun _ hf => ?_) hf
    · refine zs_al hC dX12_copy_21 rfl ?_
      refine zs_il hC dX12_copy_22 rfl ?_
      refine zs_callV [.int v1] hC cw_X12_beginsText cl_RX12_198 zL60 rfl (by decide) rfl rfl (Nat.le_of_ble_eq_true rfl) dX12_copy_23 (fun _ h => ctX12_beginsText h) (fun r3 m3 _ hf => ?_) hf
      show zAW X 26 _ _ m3
      refine zs_al hC dX12_copy_26 rfl ?_
      refine zs_k hC dX12_copy_27 ?_
      refine zs_putI hC fl_RX12_244 fp_12_33 zL60 rfl dX12_copy_28 ?_
      refine zs_let (fun m4 _ hf => ?_) hf
      refine zs_k hC dX12_copy_31 ?_
      refine zs_is hC dX12_copy_32 (by decide) rfl ?_
      exact zAW.weak (wX12_copy_33 hC hret F _ _ hf) (zLw_s (zLw_n (zLw_s (zLw_n zLw_0))))
    · refine zs_k hC dX12_copy_19 ?_
      exact zs_iret hC hret dX12_copy_20 hf
set_option maxRecDepth 20000 in
set_option maxHeartbeats 4000000 in
theorem ctX12_copy {E : zEV} {F : Nat} {v1 : Int32} {μ : zMem} {out : zR} (hf : fX12_copy F v1 μ = some out) : zCt E yX12_copy cX12_copy 4 (some .int) 2 [.ref 60, .int v1] μ out :=
  zCt.of [some (.ref 60), some (.int v1), none, none] (by decide +kernel) (Nat.le_of_ble_eq_true rfl) (zLw_s (zLw_s (zLw_e (zLw_e zLw_0)))) rfl (fun X hE ho hr hC => by
    subst hE; subst ho
    exact wX12_copy hC hr hf)
/-! X12_chosenBy -/
def fX12_chosenBy_7 (F : Nat) : Nat → Int32 → Int32 → Int32 → Int32 → zMem → Option zR
  | 0, _, _, _, _, _ => none
  | n + 1, v1, v2, v3, v4, μ => if (nI 16) ≤ v4 then some (v2, μ) else if v4 = v1 then fX12_chosenBy_7 F n v1 v2 v3 (v4 + (nI 1)) μ else zBd (fX12_isTold F v4 μ) (fun r1 m1 => if r1 = 0 then fX12_chosenBy_7 F n v1 v2 v3 (v4 + (nI 1)) m1 else zG ((nI 16) + v1) 1047 (zG ((nI 16) + v4) 1047 (if ((m1 61 ((nI 16) + v1).toNatClampNeg) &&& ((m1 61 ((nI 16) + v4).toNatClampNeg) ^^^ (-1 : Int32))) = 0 then fX12_chosenBy_7 F n v1 v2 v3 (v4 + (nI 1)) m1 else zBd (fX12_feels F v1 v4 m1) (fun r4 m4 => zBd (fX12_byLaw F (nI 101) (nI 9999) m4) (fun r5 m5 => if v3 < r5 then fX12_chosenBy_7 F n v1 v4 r5 (v4 + (nI 1)) m5 else fX12_chosenBy_7 F n v1 v2 v3 (v4 + (nI 1)) m5)))))
def fX12_chosenBy (F : Nat) (v1 : Int32) (μ : zMem) : Option zR :=
  fX12_chosenBy_7 F F v1 (-1 : Int32) (nI 0) (nI 0) μ
set_option maxRecDepth 20000 in
set_option maxHeartbeats 4000000 in
theorem wX12_chosenBy_7 {X : zX} {F : Nat} (hC : zCx X RX12 cX12_chosenBy 6 3) (hret : zRt X (some .int)) : ∀ (n : Nat) (v1 : Int32) (v2 : Int32) (v3 : Int32) (v4 : Int32) (μ : zMem), fX12_chosenBy_7 F n v1 v2 v3 v4 μ = some (zOut X) → zAW X 7 [some (.ref 60), some (.int v1), some (.int v2), some (.int v3), some (.int v4), none] [] μ := by
  intro n
  induction n with
  | zero =>
    intro v1 v2 v3 v4 μ hf
    rw [fX12_chosenBy_7] at hf
    cases hf
  | succ n ih =>
    intro v1 v2 v3 v4 μ hf
    rw [fX12_chosenBy_7] at hf
    refine zs_il hC dX12_chosenBy_7 rfl ?_
    refine zs_k hC dX12_chosenBy_9 ?_
    refine zs_ic_ge hC dX12_chosenBy_11 (fun _ hf => ?_) (fun _ hf => ?_) hf
    · refine zs_il hC dX12_chosenBy_96 rfl ?_
      exact zs_iret hC hret dX12_chosenBy_97 hf
    · refine zs_il hC dX12_chosenBy_14 rfl ?_
      refine zs_il hC dX12_chosenBy_16 rfl ?_
      refine zs_ic_eq hC dX12_chosenBy_17 (fun _ hf => ?_) (fun _ hf => ?_) hf
      · refine zs_iinc (nI 1) hC dX12_chosenBy_90 (by decide) rfl (by decide) rfl ?_
        refine zs_goto hC dX12_chosenBy_93 ?_
        exact zAW.weak (ih _ _ _ _ _ hf) (zLw_s (zLw_s (zLw_s (zLw_s (zLw_s (zLw_n zLw_0))))))
      · refine zs_al hC dX12_chosenBy_20 rfl ?_
        refine zs_il hC dX12_chosenBy_21 rfl ?_
        refine zs_callV [.int v4] hC cw_X12_isTold cl_RX12_100 zL60 rfl (by decide) rfl rfl (Nat.le_of_ble_eq_true rfl) dX12_chosenBy_23 (fun _ h => ctX12_isTold h) (fun r1 m1 _ hf => ?_) hf
        show zAW X 26 _ (.int r1 :: _) m1
        refine zs_if_eq hC dX12_chosenBy_26 (fun _ hf => ?_) (fun _ hf => ?_) hf
        · refine zs_iinc (nI 1) hC dX12_chosenBy_90 (by decide) rfl (by decide) rfl ?_
          refine zs_goto hC dX12_chosenBy_93 ?_
          exact zAW.weak (ih _ _ _ _ _ hf) (zLw_s (zLw_s (zLw_s (zLw_s (zLw_s (zLw_n zLw_0))))))
        · refine zs_al hC dX12_chosenBy_29 rfl ?_
          refine zs_getR 61 hC fl_RX12_7 zL60 rfl dX12_chosenBy_30 ?_
          refine zs_k hC dX12_chosenBy_33 ?_
          refine zs_il hC dX12_chosenBy_35 rfl ?_
          refine zs_iadd hC dX12_chosenBy_36 ?_
          refine zs_iald hC zL61 dX12_chosenBy_37 (fun _ hf => ?_) hf
          refine zs_al hC dX12_chosenBy_38 rfl ?_
          refine zs_getR 61 hC fl_RX12_7 zL60 rfl dX12_chosenBy_39 ?_
          refine zs_k hC dX12_chosenBy_42 ?_
          refine zs_il hC dX12_chosenBy_44 rfl ?_
          refine zs_iadd hC dX12_chosenBy_46 ?_
          refine zs_iald hC zL61 dX12_chosenBy_47 (fun _ hf => ?_) hf
          refine zs_k hC dX12_chosenBy_48 ?_
          refine zs_ixor hC dX12_chosenBy_49 ?_
          refine zs_iand hC dX12_chosenBy_50 ?_
          refine zs_if_ne hC dX12_chosenBy_51 (fun _ hf => ?_) (fun _ hf => ?_) hf
          · refine zs_goto hC dX12_chosenBy_54 ?_
            refine zs_iinc (nI 1) hC dX12_chosenBy_90 (by decide) rfl (by decide) rfl ?_
            refine zs_goto hC dX12_chosenBy_93 ?_
            exact zAW.weak (ih _ _ _ _ _ hf) (zLw_s (zLw_s (zLw_s (zLw_s (zLw_s (zLw_n zLw_0))))))
          · refine zs_al hC dX12_chosenBy_57 rfl ?_
            refine zs_il hC dX12_chosenBy_58 rfl ?_
            refine zs_il hC dX12_chosenBy_59 rfl ?_
            refine zs_callV [.int v1, .int v4] hC cw_X12_feels cl_RX12_253 zL60 rfl (by decide) rfl rfl (Nat.le_of_ble_eq_true rfl) dX12_chosenBy_61 (fun _ h => ctX12_feels h) (fun r4 m4 _ hf => ?_) hf
            show zAW X 64 _ _ m4
            refine zs_al hC dX12_chosenBy_64 rfl ?_
            refine zs_k hC dX12_chosenBy_65 ?_
            refine zs_k hC dX12_chosenBy_67 ?_
            refine zs_callV [.int (nI 101), .int (nI 9999)] hC cw_X12_byLaw cl_RX12_256 zL60 rfl (by decide) rfl rfl (Nat.le_of_ble_eq_true rfl) dX12_chosenBy_70 (fun _ h => ctX12_byLaw h) (fun r5 m5 _ hf => ?_) hf
            show zAW X 73 _ (.int r5 :: _) m5
            refine zs_is hC dX12_chosenBy_73 (by decide) rfl ?_
            refine zs_il hC dX12_chosenBy_75 rfl ?_
            refine zs_il hC dX12_chosenBy_77 rfl ?_
            refine zs_ic_gt hC dX12_chosenBy_78 (fun _ hf => ?_) (fun _ hf => ?_) hf
            · refine zs_il hC dX12_chosenBy_84 rfl ?_
              refine zs_is hC dX12_chosenBy_86 (by decide) rfl ?_
              refine zs_il hC dX12_chosenBy_87 rfl ?_
              refine zs_is hC dX12_chosenBy_89 (by decide) rfl ?_
              refine zs_iinc (nI 1) hC dX12_chosenBy_90 (by decide) rfl (by decide) rfl ?_
              refine zs_goto hC dX12_chosenBy_93 ?_
              exact zAW.weak (ih _ _ _ _ _ hf) (zLw_s (zLw_s (zLw_s (zLw_s (zLw_s (zLw_n zLw_0))))))
            · refine zs_goto hC dX12_chosenBy_81 ?_
              refine zs_iinc (nI 1) hC dX12_chosenBy_90 (by decide) rfl (by decide) rfl ?_
              refine zs_goto hC dX12_chosenBy_93 ?_
              exact zAW.weak (ih _ _ _ _ _ hf) (zLw_s (zLw_s (zLw_s (zLw_s (zLw_s (zLw_n zLw_0))))))
set_option maxRecDepth 20000 in
set_option maxHeartbeats 4000000 in
theorem wX12_chosenBy {X : zX} {F : Nat} (hC : zCx X RX12 cX12_chosenBy 6 3) (hret : zRt X (some .int)) {v1 : Int32} {μ : zMem} (hf : fX12_chosenBy F v1 μ = some (zOut X)) : zAW X 0 [some (.ref 60), some (.int v1), none, none, none, none] [] μ := by
  unfold fX12_chosenBy at hf
  refine zs_k hC dX12_chosenBy_0 ?_
  refine zs_is hC dX12_chosenBy_1 (by decide) rfl ?_
  refine zs_k hC dX12_chosenBy_2 ?_
  refine zs_is hC dX12_chosenBy_3 (by decide) rfl ?_
  refine zs_k hC dX12_chosenBy_4 ?_
  refine zs_is hC dX12_chosenBy_5 (by decide) rfl ?_
  exact zAW.weak (wX12_chosenBy_7 hC hret F _ _ _ _ _ hf) (zLw_s (zLw_s (zLw_s (zLw_s (zLw_s (zLw_n zLw_0))))))
set_option maxRecDepth 20000 in
set_option maxHeartbeats 4000000 in
theorem ctX12_chosenBy {E : zEV} {F : Nat} {v1 : Int32} {μ : zMem} {out : zR} (hf : fX12_chosenBy F v1 μ = some out) : zCt E yX12_chosenBy cX12_chosenBy 6 (some .int) 3 [.ref 60, .int v1] μ out :=
  zCt.of [some (.ref 60), some (.int v1), none, none, none, none] (by decide +kernel) (Nat.le_of_ble_eq_true rfl) (zLw_s (zLw_s (zLw_e (zLw_e (zLw_e (zLw_e zLw_0)))))) rfl (fun X hE ho hr hC => by
    subst hE; subst ho
    exact wX12_chosenBy hC hr hf)
/-! X12_draws -/
def fX12_draws (F : Nat) (μ : zMem) : Option zR :=
  zG (nI 1046) 1047 (zGz (nI 65536) (zG (nI 1046) 1047 (zLt (zUp μ 61 (nI 1046).toNatClampNeg ((((nI 25173) * (μ 61 (nI 1046).toNatClampNeg)) + (nI 13849)) % (nI 65536))) (fun m3 => zG (nI 1046) 1047 (zGz (nI 10) (some (((m3 61 (nI 1046).toNatClampNeg) % (nI 10)), m3)))))))
set_option maxRecDepth 20000 in
set_option maxHeartbeats 4000000 in
theorem wX12_draws {X : zX} {F : Nat} (hC : zCx X RX12 cX12_draws 1 0) (hret : zRt X (some .int)) {μ : zMem} (hf : fX12_draws F μ = some (zOut X)) : zAW X 0 [some (.ref 60)] [] μ := by
  unfold fX12_draws at hf
  refine zs_al hC dX12_draws_0 rfl ?_
  refine zs_getR 61 hC fl_RX12_7 zL60 rfl dX12_draws_1 ?_
  refine zs_k hC dX12_draws_4 ?_
  refine zs_k hC dX12_draws_7 ?_
  refine zs_al hC dX12_draws_10 rfl ?_
  refine zs_getR 61 hC fl_RX12_7 zL60 rfl dX12_draws_11 ?_
  refine zs_k hC dX12_draws_14 ?_
  refine zs_iald hC zL61 dX12_draws_17 (fun _ hf => ?_) hf
  refine zs_imul hC dX12_draws_18 ?_
  refine zs_k hC dX12_draws_19 ?_
  refine zs_iadd hC dX12_draws_22 ?_
  refine zs_ldc hC kc_RX12_74 dX12_draws_23 ?_
  refine zs_irem hC dX12_draws_25 (fun _ hf => ?_) hf
  refine zs_iast hC zL61 dX12_draws_26 (fun _ hf => ?_) hf
  refine zs_let (fun m3 _ hf => ?_) hf
  refine zs_al hC dX12_draws_27 rfl ?_
  refine zs_getR 61 hC fl_RX12_7 zL60 rfl dX12_draws_28 ?_
  refine zs_k hC dX12_draws_31 ?_
  refine zs_iald hC zL61 dX12_draws_34 (fun _ hf => ?_) hf
  refine zs_k hC dX12_draws_35 ?_
  refine zs_irem hC dX12_draws_37 (fun _ hf => ?_) hf
  exact zs_iret hC hret dX12_draws_38 hf
set_option maxRecDepth 20000 in
set_option maxHeartbeats 4000000 in
theorem ctX12_draws {E : zEV} {F : Nat} {μ : zMem} {out : zR} (hf : fX12_draws F μ = some out) : zCt E yX12_draws cX12_draws 1 (some .int) 0 [.ref 60] μ out :=
  zCt.of [some (.ref 60)] (by decide +kernel) (Nat.le_of_ble_eq_true rfl) (zLw_s zLw_0) rfl (fun X hE ho hr hC => by
    subst hE; subst ho
    exact wX12_draws hC hr hf)
/-! X12_nextTold -/
def fX12_nextTold_7 (F : Nat) : Nat → Int32 → Int32 → zMem → Option zR
  | 0, _, _, _ => none
  | n + 1, v2, v3, μ => zBd (fX12_isTold F v3 μ) (fun r1 m1 => if r1 = 0 then zGz (nI 16) (fX12_nextTold_7 F n v2 ((v3 + (nI 1)) % (nI 16)) m1) else if v3 = v2 then zGz (nI 16) (fX12_nextTold_7 F n v2 ((v3 + (nI 1)) % (nI 16)) m1) else some (v3, m1))
def fX12_nextTold (F : Nat) (v1 : Int32) (v2 : Int32) (μ : zMem) : Option zR :=
  zGz (nI 16) (fX12_nextTold_7 F F v2 ((v1 + (nI 1)) % (nI 16)) μ)
set_option maxRecDepth 20000 in
set_option maxHeartbeats 4000000 in
theorem wX12_nextTold_7 {X : zX} {F : Nat} (hC : zCx X RX12 cX12_nextTold 4 2) (hret : zRt X (some .int)) : ∀ (n : Nat) (v2 : Int32) (v3 : Int32) (μ : zMem), fX12_nextTold_7 F n v2 v3 μ = some (zOut X) → zAW X 7 [some (.ref 60), none, some (.int v2), some (.int v3)] [] μ := by
  intro n
  induction n with
  | zero =>
    intro v2 v3 μ hf
    rw [fX12_nextTold_7] at hf
    cases hf
  | succ n ih =>
    intro v2 v3 μ hf
    rw [fX12_nextTold_7] at hf
    refine zs_al hC dX12_nextTold_7 rfl ?_
    refine zs_il hC dX12_nextTold_8 rfl ?_
    refine zs_callV [.int v3] hC cw_X12_isTold cl_RX12_100 zL60 rfl (by decide) rfl rfl (Nat.le_of_ble_eq_true rfl) dX12_nextTold_9 (fun _ h => ctX12_isTold h) (fun r1 m1 _ hf => ?_) hf
    show zAW X 12 _ (.int r1 :: _) m1
    refine zs_if_eq hC dX12_nextTold_12 (fun _ hf => ?_) (fun _ hf => ?_) hf
    · refine zs_il hC dX12_nextTold_20 rfl ?_
      refine zs_k hC dX12_nextTold_21 ?_
      refine zs_iadd hC dX12_nextTold_22 ?_
      refine zs_k hC dX12_nextTold_23 ?_
      refine zs_irem hC dX12_nextTold_25 (fun _ hf => ?_) hf
      refine zs_is hC dX12_nextTold_26 (by decide) rfl ?_
      refine zs_goto hC dX12_nextTold_27 ?_
      exact zAW.weak (ih _ _ _ hf) (zLw_s (zLw_n (zLw_s (zLw_s zLw_0))))
    · refine zs_il hC dX12_nextTold_15 rfl ?_
      refine zs_il hC dX12_nextTold_16 rfl ?_
      refine zs_ic_ne hC dX12_nextTold_17 (fun _ hf => ?_) (fun _ hf => ?_) hf
      · refine zs_il hC dX12_nextTold_20 rfl ?_
        refine zs_k hC dX12_nextTold_21 ?_
        refine zs_iadd hC dX12_nextTold_22 ?_
        refine zs_k hC dX12_nextTold_23 ?_
        refine zs_irem hC dX12_nextTold_25 (fun _ hf => ?_) hf
        refine zs_is hC dX12_nextTold_26 (by decide) rfl ?_
        refine zs_goto hC dX12_nextTold_27 ?_
        exact zAW.weak (ih _ _ _ hf) (zLw_s (zLw_n (zLw_s (zLw_s zLw_0))))
      · refine zs_il hC dX12_nextTold_30 rfl ?_
        exact zs_iret hC hret dX12_nextTold_31 hf
set_option maxRecDepth 20000 in
set_option maxHeartbeats 4000000 in
theorem wX12_nextTold {X : zX} {F : Nat} (hC : zCx X RX12 cX12_nextTold 4 2) (hret : zRt X (some .int)) {v1 : Int32} {v2 : Int32} {μ : zMem} (hf : fX12_nextTold F v1 v2 μ = some (zOut X)) : zAW X 0 [some (.ref 60), some (.int v1), some (.int v2), none] [] μ := by
  unfold fX12_nextTold at hf
  refine zs_il hC dX12_nextTold_0 rfl ?_
  refine zs_k hC dX12_nextTold_1 ?_
  refine zs_iadd hC dX12_nextTold_2 ?_
  refine zs_k hC dX12_nextTold_3 ?_
  refine zs_irem hC dX12_nextTold_5 (fun _ hf => ?_) hf
  refine zs_is hC dX12_nextTold_6 (by decide) rfl ?_
  exact zAW.weak (wX12_nextTold_7 hC hret F _ _ _ hf) (zLw_s (zLw_n (zLw_s (zLw_s zLw_0))))
set_option maxRecDepth 20000 in
set_option maxHeartbeats 4000000 in
theorem ctX12_nextTold {E : zEV} {F : Nat} {v1 : Int32} {v2 : Int32} {μ : zMem} {out : zR} (hf : fX12_nextTold F v1 v2 μ = some out) : zCt E yX12_nextTold cX12_nextTold 4 (some .int) 2 [.ref 60, .int v1, .int v2] μ out :=
  zCt.of [some (.ref 60), some (.int v1), some (.int v2), none] (by decide +kernel) (Nat.le_of_ble_eq_true rfl) (zLw_s (zLw_s (zLw_s (zLw_e zLw_0)))) rfl (fun X hE ho hr hC => by
    subst hE; subst ho
    exact wX12_nextTold hC hr hf)
/-! X12_prints -/
def fX12_prints (F : Nat) (v1 : Int32) (v2 : Int32) (v3 : Int32) (μ : zMem) : Option zR :=
  zG (nI 1044) 1047 (zGz (nI 20) (zG ((nI 64) + ((μ 61 (nI 1044).toNatClampNeg) % (nI 20))) 1047 (zG (((nI 84) + ((nI 48) * ((μ 61 (nI 1044).toNatClampNeg) % (nI 20)))) + ((nI 3) * (μ 61 ((nI 64) + ((μ 61 (nI 1044).toNatClampNeg) % (nI 20))).toNatClampNeg))) 1047 (zLt (zUp μ 61 (((nI 84) + ((nI 48) * ((μ 61 (nI 1044).toNatClampNeg) % (nI 20)))) + ((nI 3) * (μ 61 ((nI 64) + ((μ 61 (nI 1044).toNatClampNeg) % (nI 20))).toNatClampNeg))).toNatClampNeg v1) (fun m4 => zG ((((nI 84) + ((nI 48) * ((μ 61 (nI 1044).toNatClampNeg) % (nI 20)))) + ((nI 3) * (μ 61 ((nI 64) + ((μ 61 (nI 1044).toNatClampNeg) % (nI 20))).toNatClampNeg))) + (nI 1)) 1047 (zLt (zUp m4 61 ((((nI 84) + ((nI 48) * ((μ 61 (nI 1044).toNatClampNeg) % (nI 20)))) + ((nI 3) * (μ 61 ((nI 64) + ((μ 61 (nI 1044).toNatClampNeg) % (nI 20))).toNatClampNeg))) + (nI 1)).toNatClampNeg v2) (fun m6 => zG ((((nI 84) + ((nI 48) * ((μ 61 (nI 1044).toNatClampNeg) % (nI 20)))) + ((nI 3) * (μ 61 ((nI 64) + ((μ 61 (nI 1044).toNatClampNeg) % (nI 20))).toNatClampNeg))) + (nI 2)) 1047 (zLt (zUp m6 61 ((((nI 84) + ((nI 48) * ((μ 61 (nI 1044).toNatClampNeg) % (nI 20)))) + ((nI 3) * (μ 61 ((nI 64) + ((μ 61 (nI 1044).toNatClampNeg) % (nI 20))).toNatClampNeg))) + (nI 2)).toNatClampNeg v3) (fun m8 => zG ((nI 64) + ((μ 61 (nI 1044).toNatClampNeg) % (nI 20))) 1047 (zG ((nI 64) + ((μ 61 (nI 1044).toNatClampNeg) % (nI 20))) 1047 (zLt (zUp m8 61 ((nI 64) + ((μ 61 (nI 1044).toNatClampNeg) % (nI 20))).toNatClampNeg ((m8 61 ((nI 64) + ((μ 61 (nI 1044).toNatClampNeg) % (nI 20))).toNatClampNeg) + (nI 1))) (fun m11 => zLt (zUp m11 60 34 ((m11 60 34) + (nI 1))) (fun m13 => some ((nI 0), m13))))))))))))))
set_option maxRecDepth 20000 in
set_option maxHeartbeats 4000000 in
theorem wX12_prints {X : zX} {F : Nat} (hC : zCx X RX12 cX12_prints 6 0) (hret : zRt X none) {v1 : Int32} {v2 : Int32} {v3 : Int32} {μ : zMem} (hf : fX12_prints F v1 v2 v3 μ = some (zOut X)) : zAW X 0 [some (.ref 60), some (.int v1), some (.int v2), some (.int v3), none, none] [] μ := by
  unfold fX12_prints at hf
  refine zs_al hC dX12_prints_0 rfl ?_
  refine zs_getR 61 hC fl_RX12_7 zL60 rfl dX12_prints_1 ?_
  refine zs_k hC dX12_prints_4 ?_
  refine zs_iald hC zL61 dX12_prints_7 (fun _ hf => ?_) hf
  refine zs_k hC dX12_prints_8 ?_
  refine zs_irem hC dX12_prints_10 (fun _ hf => ?_) hf
  refine zs_is hC dX12_prints_11 (by decide) rfl ?_
  refine zs_k hC dX12_prints_13 ?_
  refine zs_k hC dX12_prints_15 ?_
  refine zs_il hC dX12_prints_17 rfl ?_
  refine zs_imul hC dX12_prints_19 ?_
  refine zs_iadd hC dX12_prints_20 ?_
  refine zs_k hC dX12_prints_21 ?_
  refine zs_al hC dX12_prints_22 rfl ?_
  refine zs_getR 61 hC fl_RX12_7 zL60 rfl dX12_prints_23 ?_
  refine zs_k hC dX12_prints_26 ?_
  refine zs_il hC dX12_prints_28 rfl ?_
  refine zs_iadd hC dX12_prints_30 ?_
  refine zs_iald hC zL61 dX12_prints_31 (fun _ hf => ?_) hf
  refine zs_imul hC dX12_prints_32 ?_
  refine zs_iadd hC dX12_prints_33 ?_
  refine zs_is hC dX12_prints_34 (by decide) rfl ?_
  refine zs_al hC dX12_prints_36 rfl ?_
  refine zs_getR 61 hC fl_RX12_7 zL60 rfl dX12_prints_37 ?_
  refine zs_il hC dX12_prints_40 rfl ?_
  refine zs_il hC dX12_prints_42 rfl ?_
  refine zs_iast hC zL61 dX12_prints_43 (fun _ hf => ?_) hf
  refine zs_let (fun m4 _ hf => ?_) hf
  refine zs_al hC dX12_prints_44 rfl ?_
  refine zs_getR 61 hC fl_RX12_7 zL60 rfl dX12_prints_45 ?_
  refine zs_il hC dX12_prints_48 rfl ?_
  refine zs_k hC dX12_prints_50 ?_
  refine zs_iadd hC dX12_prints_51 ?_
  refine zs_il hC dX12_prints_52 rfl ?_
  refine zs_iast hC zL61 dX12_prints_53 (fun _ hf => ?_) hf
  refine zs_let (fun m6 _ hf => ?_) hf
  refine zs_al hC dX12_prints_54 rfl ?_
  refine zs_getR 61 hC fl_RX12_7 zL60 rfl dX12_prints_55 ?_
  refine zs_il hC dX12_prints_58 rfl ?_
  refine zs_k hC dX12_prints_60 ?_
  refine zs_iadd hC dX12_prints_61 ?_
  refine zs_il hC dX12_prints_62 rfl ?_
  refine zs_iast hC zL61 dX12_prints_63 (fun _ hf => ?_) hf
  refine zs_let (fun m8 _ hf => ?_) hf
  refine zs_al hC dX12_prints_64 rfl ?_
  refine zs_getR 61 hC fl_RX12_7 zL60 rfl dX12_prints_65 ?_
  refine zs_k hC dX12_prints_68 ?_
  refine zs_il hC dX12_prints_70 rfl ?_
  refine zs_iadd hC dX12_prints_72 ?_
  refine zs_al hC dX12_prints_73 rfl ?_
  refine zs_getR 61 hC fl_RX12_7 zL60 rfl dX12_prints_74 ?_
  refine zs_k hC dX12_prints_77 ?_
  refine zs_il hC dX12_prints_79 rfl ?_
  refine zs_iadd hC dX12_prints_81 ?_
  refine zs_iald hC zL61 dX12_prints_82 (fun _ hf => ?_) hf
  refine zs_k hC dX12_prints_83 ?_
  refine zs_iadd hC dX12_prints_84 ?_
  refine zs_iast hC zL61 dX12_prints_85 (fun _ hf => ?_) hf
  refine zs_let (fun m11 _ hf => ?_) hf
  refine zs_al hC dX12_prints_86 rfl ?_
  refine zs_al hC dX12_prints_87 rfl ?_
  refine zs_getI hC fl_RX12_259 zL60 rfl dX12_prints_88 ?_
  refine zs_k hC dX12_prints_91 ?_
  refine zs_iadd hC dX12_prints_92 ?_
  refine zs_putI hC fl_RX12_259 fp_12_34 zL60 rfl dX12_prints_93 ?_
  refine zs_let (fun m13 _ hf => ?_) hf
  exact zs_vret hC hret dX12_prints_96 hf
set_option maxRecDepth 20000 in
set_option maxHeartbeats 4000000 in
theorem ctX12_prints {E : zEV} {F : Nat} {v1 : Int32} {v2 : Int32} {v3 : Int32} {μ : zMem} {out : zR} (hf : fX12_prints F v1 v2 v3 μ = some out) : zCt E yX12_prints cX12_prints 6 none 0 [.ref 60, .int v1, .int v2, .int v3] μ out :=
  zCt.of [some (.ref 60), some (.int v1), some (.int v2), some (.int v3), none, none] (by decide +kernel) (Nat.le_of_ble_eq_true rfl) (zLw_s (zLw_s (zLw_s (zLw_s (zLw_e (zLw_e zLw_0)))))) rfl (fun X hE ho hr hC => by
    subst hE; subst ho
    exact wX12_prints hC hr hf)
/-! X12_whispers -/
def fX12_whispers_167 (F : Nat) (v1 : Int32) (v2 : Int32) (v5 : Int32) (v6 : Int32) (μ : zMem) : Option zR :=
  if v6 = 0 then zBd (fX12_prints F v1 v2 v5 μ) (fun r1 m1 => some ((nI 0), m1)) else zBd (fX12_nextTold F v2 v1 μ) (fun r2 m2 => zBd (fX12_prints F v1 r2 v5 m2) (fun r3 m3 => some ((nI 0), m3)))
def fX12_whispers_150 (F : Nat) (v1 : Int32) (v2 : Int32) (v5 : Int32) (s0 : Int32) (μ : zMem) : Option zR :=
  if s0 = 0 then fX12_whispers_167 F v1 v2 v5 s0 μ else zLt (zUp μ 60 35 ((μ 60 35) + (nI 1))) (fun m2 => fX12_whispers_167 F v1 v2 v5 s0 m2)
def fX12_whispers_49 (F : Nat) : Nat → Int32 → Int32 → Int32 → Int32 → zMem → Option zR
  | 0, _, _, _, _, _ => none
  | n + 1, v1, v2, v4, v5, μ => zG ((nI 16) + v1) 1047 (zG ((nI 16) + v2) 1047 (zBd (fX12_has F ((μ 61 ((nI 16) + v1).toNatClampNeg) &&& ((μ 61 ((nI 16) + v2).toNatClampNeg) ^^^ (-1 : Int32))) v5 μ) (fun r3 m3 => if r3 = 0 then fX12_whispers_49 F n v1 v2 v4 (v5 + (nI 1)) m3 else zG ((nI 16) + v2) 1047 (zG ((nI 16) + v2) 1047 (zLt (zUp m3 61 ((nI 16) + v2).toNatClampNeg ((m3 61 ((nI 16) + v2).toNatClampNeg) ||| ((nI 1) <<< (v5 &&& 31)))) (fun m6 => zG ((nI 48) + v1) 1047 (zBd (fX12_min F (nI 9999) ((m6 61 ((nI 48) + v1).toNatClampNeg) + (nI 1)) m6) (fun r9 m9 => zG ((nI 48) + v1) 1047 (zLt (zUp m9 61 ((nI 48) + v1).toNatClampNeg r9) (fun m10 => zBd (fX12_draws F m10) (fun r11 m11 => if v4 ≤ r11 then fX12_whispers_150 F v1 v2 v5 (nI 0) m11 else fX12_whispers_150 F v1 v2 v5 (nI 1) m11)))))))))))
def fX12_whispers (F : Nat) (v1 : Int32) (μ : zMem) : Option zR :=
  zBd (fX12_chosenBy F v1 μ) (fun r1 m1 => if r1 = (-1 : Int32) then some ((nI 0), m1) else zBd (fX12_feels F v1 r1 m1) (fun r2 m2 => zBd (fX12_byLaw F (nI 104) (nI 10) m2) (fun r3 m3 => zBd (fX12_byLaw F (nI 109) (nI 10) m3) (fun r4 m4 => zBd (fX12_draws F m4) (fun r5 m5 => if r5 < r3 then fX12_whispers_49 F F v1 r1 r4 (nI 0) m5 else some ((nI 0), m5))))))
set_option maxRecDepth 20000 in
set_option maxHeartbeats 4000000 in
theorem wX12_whispers_167 {X : zX} {F : Nat} (hC : zCx X RX12 cX12_whispers 7 4) (hret : zRt X none) {v1 : Int32} {v2 : Int32} {v5 : Int32} {v6 : Int32} {μ : zMem} (hf : fX12_whispers_167 F v1 v2 v5 v6 μ = some (zOut X)) : zAW X 167 [some (.ref 60), some (.int v1), some (.int v2), none, none, some (.int v5), some (.int v6)] [] μ := by
  unfold fX12_whispers_167 at hf
  refine zs_al hC dX12_whispers_167 rfl ?_
  refine zs_il hC dX12_whispers_168 rfl ?_
  refine zs_il hC dX12_whispers_169 rfl ?_
  refine zs_if_eq hC dX12_whispers_171 (fun _ hf => ?_) (fun _ hf => ?_) hf
  · refine zs_il hC dX12_whispers_183 rfl ?_
    refine zs_il hC dX12_whispers_184 rfl ?_
    refine zs_callV [.int v1, .int v2, .int v5] hC cw_X12_prints cl_RX12_280 zL60 rfl (by decide) rfl rfl (Nat.le_of_ble_eq_true rfl) dX12_whispers_186 (fun _ h => ctX12_prints h) (fun r1 m1 _ hf => ?_) hf
    show zAW X 189 _ _ m1
    exact zs_vret hC hret dX12_whispers_189 hf
  · refine zs_al hC dX12_whispers_174 rfl ?_
    refine zs_il hC dX12_whispers_175 rfl ?_
    refine zs_il hC dX12_whispers_176 rfl ?_
    refine zs_callV [.int v2, .int v1] hC cw_X12_nextTold cl_RX12_277 zL60 rfl (by decide) rfl rfl (Nat.le_of_ble_eq_true rfl) dX12_whispers_177 (fun _ h => ctX12_nextTold h) (fun r2 m2 _ hf => ?_) hf
    show zAW X 180 _ (.int r2 :: _) m2
    refine zs_goto hC dX12_whispers_180 ?_
    refine zs_il hC dX12_whispers_184 rfl ?_
    refine zs_callV [.int v1, .int r2, .int v5] hC cw_X12_prints cl_RX12_280 zL60 rfl (by decide) rfl rfl (Nat.le_of_ble_eq_true rfl) dX12_whispers_186 (fun _ h => ctX12_prints h) (fun r3 m3 _ hf => ?_) hf
    show zAW X 189 _ _ m3
    exact zs_vret hC hret dX12_whispers_189 hf
set_option maxRecDepth 20000 in
set_option maxHeartbeats 4000000 in
theorem wX12_whispers_150 {X : zX} {F : Nat} (hC : zCx X RX12 cX12_whispers 7 4) (hret : zRt X none) {v1 : Int32} {v2 : Int32} {v5 : Int32} {s0 : Int32} {μ : zMem} (hf : fX12_whispers_150 F v1 v2 v5 s0 μ = some (zOut X)) : zAW X 150 [some (.ref 60), some (.int v1), some (.int v2), none, none, some (.int v5), none] [.int s0] μ := by
  unfold fX12_whispers_150 at hf
  refine zs_is hC dX12_whispers_150 (by decide) rfl ?_
  refine zs_il hC dX12_whispers_152 rfl ?_
  refine zs_if_eq hC dX12_whispers_154 (fun _ hf => ?_) (fun _ hf => ?_) hf
  · exact zAW.weak (wX12_whispers_167 hC hret hf) (zLw_s (zLw_s (zLw_s (zLw_n (zLw_n (zLw_s (zLw_s zLw_0)))))))
  · refine zs_al hC dX12_whispers_157 rfl ?_
    refine zs_al hC dX12_whispers_158 rfl ?_
    refine zs_getI hC fl_RX12_274 zL60 rfl dX12_whispers_159 ?_
    refine zs_k hC dX12_whispers_162 ?_
    refine zs_iadd hC dX12_whispers_163 ?_
    refine zs_putI hC fl_RX12_274 fp_12_35 zL60 rfl dX12_whispers_164 ?_
    refine zs_let (fun m2 _ hf => ?_) hf
    exact zAW.weak (wX12_whispers_167 hC hret hf) (zLw_s (zLw_s (zLw_s (zLw_n (zLw_n (zLw_s (zLw_s zLw_0)))))))
set_option maxRecDepth 20000 in
set_option maxHeartbeats 4000000 in
theorem wX12_whispers_49 {X : zX} {F : Nat} (hC : zCx X RX12 cX12_whispers 7 4) (hret : zRt X none) : ∀ (n : Nat) (v1 : Int32) (v2 : Int32) (v4 : Int32) (v5 : Int32) (μ : zMem), fX12_whispers_49 F n v1 v2 v4 v5 μ = some (zOut X) → zAW X 49 [some (.ref 60), some (.int v1), some (.int v2), none, some (.int v4), some (.int v5), none] [] μ := by
  intro n
  induction n with
  | zero =>
    intro v1 v2 v4 v5 μ hf
    rw [fX12_whispers_49] at hf
    cases hf
  | succ n ih =>
    intro v1 v2 v4 v5 μ hf
    rw [fX12_whispers_49] at hf
    refine zs_al hC dX12_whispers_49 rfl ?_
    refine zs_getR 61 hC fl_RX12_7 zL60 rfl dX12_whispers_50 ?_
    refine zs_k hC dX12_whispers_53 ?_
    refine zs_il hC dX12_whispers_55 rfl ?_
    refine zs_iadd hC dX12_whispers_56 ?_
    refine zs_iald hC zL61 dX12_whispers_57 (fun _ hf => ?_) hf
    refine zs_al hC dX12_whispers_58 rfl ?_
    refine zs_getR 61 hC fl_RX12_7 zL60 rfl dX12_whispers_59 ?_
    refine zs_k hC dX12_whispers_62 ?_
    refine zs_il hC dX12_whispers_64 rfl ?_
    refine zs_iadd hC dX12_whispers_65 ?_
    refine zs_iald hC zL61 dX12_whispers_66 (fun _ hf => ?_) hf
    refine zs_k hC dX12_whispers_67 ?_
    refine zs_ixor hC dX12_whispers_68 ?_
    refine zs_iand hC dX12_whispers_69 ?_
    refine zs_il hC dX12_whispers_70 rfl ?_
    refine zs_callS [.int ((μ 61 ((nI 16) + v1).toNatClampNeg) &&& ((μ 61 ((nI 16) + v2).toNatClampNeg) ^^^ (-1 : Int32))), .int v5] hC cw_X12_has cl_RX12_268 (by decide) rfl rfl (Nat.le_of_ble_eq_true rfl) dX12_whispers_72 (fun _ h => ctX12_has h) (fun r3 m3 _ hf => ?_) hf
    show zAW X 75 _ (.int r3 :: _) m3
    refine zs_if_ne hC dX12_whispers_75 (fun _ hf => ?_) (fun _ hf => ?_) hf
    · refine zs_il hC dX12_whispers_78 rfl ?_
      refine zs_k hC dX12_whispers_80 ?_
      refine zs_iadd hC dX12_whispers_81 ?_
      refine zs_is hC dX12_whispers_82 (by decide) rfl ?_
      refine zs_goto hC dX12_whispers_84 ?_
      exact zAW.weak (ih _ _ _ _ _ hf) (zLw_s (zLw_s (zLw_s (zLw_n (zLw_s (zLw_s (zLw_n zLw_0)))))))
    · refine zs_al hC dX12_whispers_87 rfl ?_
      refine zs_getR 61 hC fl_RX12_7 zL60 rfl dX12_whispers_88 ?_
      refine zs_k hC dX12_whispers_91 ?_
      refine zs_il hC dX12_whispers_93 rfl ?_
      refine zs_iadd hC dX12_whispers_94 ?_
      refine zs_al hC dX12_whispers_95 rfl ?_
      refine zs_getR 61 hC fl_RX12_7 zL60 rfl dX12_whispers_96 ?_
      refine zs_k hC dX12_whispers_99 ?_
      refine zs_il hC dX12_whispers_101 rfl ?_
      refine zs_iadd hC dX12_whispers_102 ?_
      refine zs_iald hC zL61 dX12_whispers_103 (fun _ hf => ?_) hf
      refine zs_k hC dX12_whispers_104 ?_
      refine zs_il hC dX12_whispers_105 rfl ?_
      refine zs_ishl hC dX12_whispers_107 ?_
      refine zs_ior hC dX12_whispers_108 ?_
      refine zs_iast hC zL61 dX12_whispers_109 (fun _ hf => ?_) hf
      refine zs_let (fun m6 _ hf => ?_) hf
      refine zs_al hC dX12_whispers_110 rfl ?_
      refine zs_getR 61 hC fl_RX12_7 zL60 rfl dX12_whispers_111 ?_
      refine zs_k hC dX12_whispers_114 ?_
      refine zs_il hC dX12_whispers_116 rfl ?_
      refine zs_iadd hC dX12_whispers_117 ?_
      refine zs_k hC dX12_whispers_118 ?_
      refine zs_al hC dX12_whispers_121 rfl ?_
      refine zs_getR 61 hC fl_RX12_7 zL60 rfl dX12_whispers_122 ?_
      refine zs_k hC dX12_whispers_125 ?_
      refine zs_il hC dX12_whispers_127 rfl ?_
      refine zs_iadd hC dX12_whispers_128 ?_
      refine zs_iald hC zL61 dX12_whispers_129 (fun _ hf => ?_) hf
      refine zs_k hC dX12_whispers_130 ?_
      refine zs_iadd hC dX12_whispers_131 ?_
      refine zs_callS [.int (nI 9999), .int ((m6 61 ((nI 48) + v1).toNatClampNeg) + (nI 1))] hC cw_X12_min cl_RX12_271 (by decide) rfl rfl (Nat.le_of_ble_eq_true rfl) dX12_whispers_132 (fun _ h => ctX12_min h) (fun r9 m9 _ hf => ?_) hf
      show zAW X 135 _ (.int r9 :: _) m9
      refine zs_iast hC zL61 dX12_whispers_135 (fun _ hf => ?_) hf
      refine zs_let (fun m10 _ hf => ?_) hf
      refine zs_al hC dX12_whispers_136 rfl ?_
      refine zs_callV [] hC cw_X12_draws cl_RX12_265 zL60 rfl (by decide) rfl rfl (Nat.le_of_ble_eq_true rfl) dX12_whispers_137 (fun _ h => ctX12_draws h) (fun r11 m11 _ hf => ?_) hf
      show zAW X 140 _ (.int r11 :: _) m11
      refine zs_il hC dX12_whispers_140 rfl ?_
      refine zs_ic_ge hC dX12_whispers_142 (fun _ hf => ?_) (fun _ hf => ?_) hf
      · refine zs_k hC dX12_whispers_149 ?_
        exact zAW.weak (wX12_whispers_150 hC hret hf) (zLw_s (zLw_s (zLw_s (zLw_n (zLw_n (zLw_s (zLw_n zLw_0)))))))
      · refine zs_k hC dX12_whispers_145 ?_
        refine zs_goto hC dX12_whispers_146 ?_
        exact zAW.weak (wX12_whispers_150 hC hret hf) (zLw_s (zLw_s (zLw_s (zLw_n (zLw_n (zLw_s (zLw_n zLw_0)))))))
set_option maxRecDepth 20000 in
set_option maxHeartbeats 4000000 in
theorem wX12_whispers {X : zX} {F : Nat} (hC : zCx X RX12 cX12_whispers 7 4) (hret : zRt X none) {v1 : Int32} {μ : zMem} (hf : fX12_whispers F v1 μ = some (zOut X)) : zAW X 0 [some (.ref 60), some (.int v1), none, none, none, none, none] [] μ := by
  unfold fX12_whispers at hf
  refine zs_al hC dX12_whispers_0 rfl ?_
  refine zs_il hC dX12_whispers_1 rfl ?_
  refine zs_callV [.int v1] hC cw_X12_chosenBy cl_RX12_262 zL60 rfl (by decide) rfl rfl (Nat.le_of_ble_eq_true rfl) dX12_whispers_2 (fun _ h => ctX12_chosenBy h) (fun r1 m1 _ hf => ?_) hf
  show zAW X 5 _ (.int r1 :: _) m1
  refine zs_is hC dX12_whispers_5 (by decide) rfl ?_
  refine zs_il hC dX12_whispers_6 rfl ?_
  refine zs_k hC dX12_whispers_7 ?_
  refine zs_ic_ne hC dX12_whispers_8 (fun _ hf => ?_) (fun _ hf => ?_) hf
  · exact zs_vret hC hret dX12_whispers_11 hf
  · refine zs_al hC dX12_whispers_12 rfl ?_
    refine zs_il hC dX12_whispers_13 rfl ?_
    refine zs_il hC dX12_whispers_14 rfl ?_
    refine zs_callV [.int v1, .int r1] hC cw_X12_feels cl_RX12_253 zL60 rfl (by decide) rfl rfl (Nat.le_of_ble_eq_true rfl) dX12_whispers_15 (fun _ h => ctX12_feels h) (fun r2 m2 _ hf => ?_) hf
    show zAW X 18 _ _ m2
    refine zs_al hC dX12_whispers_18 rfl ?_
    refine zs_k hC dX12_whispers_19 ?_
    refine zs_k hC dX12_whispers_21 ?_
    refine zs_callV [.int (nI 104), .int (nI 10)] hC cw_X12_byLaw cl_RX12_256 zL60 rfl (by decide) rfl rfl (Nat.le_of_ble_eq_true rfl) dX12_whispers_23 (fun _ h => ctX12_byLaw h) (fun r3 m3 _ hf => ?_) hf
    show zAW X 26 _ (.int r3 :: _) m3
    refine zs_is hC dX12_whispers_26 (by decide) rfl ?_
    refine zs_al hC dX12_whispers_27 rfl ?_
    refine zs_k hC dX12_whispers_28 ?_
    refine zs_k hC dX12_whispers_30 ?_
    refine zs_callV [.int (nI 109), .int (nI 10)] hC cw_X12_byLaw cl_RX12_256 zL60 rfl (by decide) rfl rfl (Nat.le_of_ble_eq_true rfl) dX12_whispers_32 (fun _ h => ctX12_byLaw h) (fun r4 m4 _ hf => ?_) hf
    show zAW X 35 _ (.int r4 :: _) m4
    refine zs_is hC dX12_whispers_35 (by decide) rfl ?_
    refine zs_al hC dX12_whispers_37 rfl ?_
    refine zs_callV [] hC cw_X12_draws cl_RX12_265 zL60 rfl (by decide) rfl rfl (Nat.le_of_ble_eq_true rfl) dX12_whispers_38 (fun _ h => ctX12_draws h) (fun r5 m5 _ hf => ?_) hf
    show zAW X 41 _ (.int r5 :: _) m5
    refine zs_il hC dX12_whispers_41 rfl ?_
    refine zs_ic_lt hC dX12_whispers_42 (fun _ hf => ?_) (fun _ hf => ?_) hf
    · refine zs_k hC dX12_whispers_46 ?_
      refine zs_is hC dX12_whispers_47 (by decide) rfl ?_
      exact zAW.weak (wX12_whispers_49 hC hret F _ _ _ _ _ hf) (zLw_s (zLw_s (zLw_s (zLw_n (zLw_s (zLw_s (zLw_n zLw_0)))))))
    · exact zs_vret hC hret dX12_whispers_45 hf
set_option maxRecDepth 20000 in
set_option maxHeartbeats 4000000 in
theorem ctX12_whispers {E : zEV} {F : Nat} {v1 : Int32} {μ : zMem} {out : zR} (hf : fX12_whispers F v1 μ = some out) : zCt E yX12_whispers cX12_whispers 7 none 4 [.ref 60, .int v1] μ out :=
  zCt.of [some (.ref 60), some (.int v1), none, none, none, none, none] (by decide +kernel) (Nat.le_of_ble_eq_true rfl) (zLw_s (zLw_s (zLw_e (zLw_e (zLw_e (zLw_e (zLw_e zLw_0))))))) rfl (fun X hE ho hr hC => by
    subst hE; subst ho
    exact wX12_whispers hC hr hf)
/-! X12_weekGoes -/
def fX12_weekGoes_97 (F : Nat) : Nat → Int32 → Int32 → zMem → Option zR
  | 0, _, _, _ => none
  | n + 1, v2, v3, μ => if (nI 16) ≤ v3 then zG (nI 1044) 1047 (zG (nI 1044) 1047 (zLt (zUp μ 61 (nI 1044).toNatClampNeg ((μ 61 (nI 1044).toNatClampNeg) + (nI 1))) (fun m3 => zG (nI 1045) 1047 (zG (nI 1045) 1047 (zLt (zUp m3 61 (nI 1045).toNatClampNeg ((m3 61 (nI 1045).toNatClampNeg) + (nI 1))) (fun m6 => some ((nI 0), m6))))))) else zBd (fX12_isTold F v3 μ) (fun r7 m7 => if r7 = 0 then fX12_weekGoes_97 F n v2 (v3 + (nI 1)) m7 else zG ((nI 32) + v3) 1047 (if (m7 61 ((nI 32) + v3).toNatClampNeg) = 0 then fX12_weekGoes_97 F n v2 (v3 + (nI 1)) m7 else zBd (fX12_feels F v3 (-1 : Int32) m7) (fun r9 m9 => zBd (fX12_holdsAnyOrNone F (nI 114) m9) (fun r10 m10 => if r10 = 0 then fX12_weekGoes_97 F n v2 (v3 + (nI 1)) m10 else zG ((nI 16) + v3) 1047 (zG ((nI 16) + v3) 1047 (zLt (zUp m10 61 ((nI 16) + v3).toNatClampNeg ((m10 61 ((nI 16) + v3).toNatClampNeg) ||| v2)) (fun m13 => fX12_weekGoes_97 F n v2 (v3 + (nI 1)) m13)))))))
def fX12_weekGoes_53 (F : Nat) : Nat → Int32 → Int32 → Int32 → zMem → Option zR
  | 0, _, _, _, _ => none
  | n + 1, v1, v2, v3, μ => zG ((nI 64) + v1) 1047 (if (μ 61 ((nI 64) + v1).toNatClampNeg) ≤ v3 then fX12_weekGoes_97 F F v2 (nI 0) μ else zG ((((nI 84) + ((nI 48) * v1)) + ((nI 3) * v3)) + (nI 2)) 1047 (fX12_weekGoes_53 F n v1 (v2 ||| ((nI 1) <<< ((μ 61 ((((nI 84) + ((nI 48) * v1)) + ((nI 3) * v3)) + (nI 2)).toNatClampNeg) &&& 31))) (v3 + (nI 1)) μ))
def fX12_weekGoes_24 (F : Nat) : Nat → Int32 → Int32 → zMem → Option zR
  | 0, _, _, _ => none
  | n + 1, v1, v2, μ => if (nI 16) ≤ v2 then fX12_weekGoes_53 F F v1 (nI 0) (nI 0) μ else zBd (fX12_isTold F v2 μ) (fun r1 m1 => if r1 = 0 then fX12_weekGoes_24 F n v1 (v2 + (nI 1)) m1 else zBd (fX12_whispers F v2 m1) (fun r2 m2 => fX12_weekGoes_24 F n v1 (v2 + (nI 1)) m2))
def fX12_weekGoes (F : Nat) (μ : zMem) : Option zR :=
  zG (nI 1044) 1047 (zGz (nI 20) (zG ((nI 64) + ((μ 61 (nI 1044).toNatClampNeg) % (nI 20))) 1047 (zLt (zUp μ 61 ((nI 64) + ((μ 61 (nI 1044).toNatClampNeg) % (nI 20))).toNatClampNeg (nI 0)) (fun m3 => fX12_weekGoes_24 F F ((μ 61 (nI 1044).toNatClampNeg) % (nI 20)) (nI 0) m3))))
set_option maxRecDepth 20000 in
set_option maxHeartbeats 4000000 in
theorem wX12_weekGoes_97 {X : zX} {F : Nat} (hC : zCx X RX12 cX12_weekGoes 4 5) (hret : zRt X none) : ∀ (n : Nat) (v2 : Int32) (v3 : Int32) (μ : zMem), fX12_weekGoes_97 F n v2 v3 μ = some (zOut X) → zAW X 97 [some (.ref 60), none, some (.int v2), some (.int v3)] [] μ := by
  intro n
  induction n with
  | zero =>
    intro v2 v3 μ hf
    rw [fX12_weekGoes_97] at hf
    cases hf
  | succ n ih =>
    intro v2 v3 μ hf
    rw [fX12_weekGoes_97] at hf
    refine zs_il hC dX12_weekGoes_97 rfl ?_
    refine zs_k hC dX12_weekGoes_98 ?_
    refine zs_ic_ge hC dX12_weekGoes_100 (fun _ hf => ?_) (fun _ hf => ?_) hf
    · refine zs_al hC dX12_weekGoes_167 rfl ?_
      refine zs_getR 61 hC fl_RX12_7 zL60 rfl dX12_weekGoes_168 ?_
      refine zs_k hC dX12_weekGoes_171 ?_
      refine zs_al hC dX12_weekGoes_174 rfl ?_
      refine zs_getR 61 hC fl_RX12_7 zL60 rfl dX12_weekGoes_175 ?_
      refine zs_k hC dX12_weekGoes_178 ?_
      refine zs_iald hC zL61 dX12_weekGoes_181 (fun _ hf => ?_) hf
      refine zs_k hC dX12_weekGoes_182 ?_
      refine zs_iadd hC dX12_weekGoes_183 ?_
      refine zs_iast hC zL61 dX12_weekGoes_184 (fun _ hf => ?_) hf
      refine zs_let (fun m3 _ hf => ?_) hf
      refine zs_al hC dX12_weekGoes_185 rfl ?_
      refine zs_getR 61 hC fl_RX12_7 zL60 rfl dX12_weekGoes_186 ?_
      refine zs_k hC dX12_weekGoes_189 ?_
      refine zs_al hC dX12_weekGoes_192 rfl ?_
      refine zs_getR 61 hC fl_RX12_7 zL60 rfl dX12_weekGoes_193 ?_
      refine zs_k hC dX12_weekGoes_196 ?_
      refine zs_iald hC zL61 dX12_weekGoes_199 (fun _ hf => ?_) hf
      refine zs_k hC dX12_weekGoes_200 ?_
      refine zs_iadd hC dX12_weekGoes_201 ?_
      refine zs_iast hC zL61 dX12_weekGoes_202 (fun _ hf => ?_) hf
      refine zs_let (fun m6 _ hf => ?_) hf
      exact zs_vret hC hret dX12_weekGoes_203 hf
    · refine zs_al hC dX12_weekGoes_103 rfl ?_
      refine zs_il hC dX12_weekGoes_104 rfl ?_
      refine zs_callV [.int v3] hC cw_X12_isTold cl_RX12_100 zL60 rfl (by decide) rfl rfl (Nat.le_of_ble_eq_true rfl) dX12_weekGoes_105 (fun _ h => ctX12_isTold h) (fun r7 m7 _ hf => ?_) hf
      show zAW X 108 _ (.int r7 :: _) m7
      refine zs_if_eq hC dX12_weekGoes_108 (fun _ hf => ?_) (fun _ hf => ?_) hf
      · refine zs_iinc (nI 1) hC dX12_weekGoes_161 (by decide) rfl (by decide) rfl ?_
        refine zs_goto hC dX12_weekGoes_164 ?_
        exact zAW.weak (ih _ _ _ hf) (zLw_s (zLw_n (zLw_s (zLw_s zLw_0))))
      · refine zs_al hC dX12_weekGoes_111 rfl ?_
        refine zs_getR 61 hC fl_RX12_7 zL60 rfl dX12_weekGoes_112 ?_
        refine zs_k hC dX12_weekGoes_115 ?_
        refine zs_il hC dX12_weekGoes_117 rfl ?_
        refine zs_iadd hC dX12_weekGoes_118 ?_
        refine zs_iald hC zL61 dX12_weekGoes_119 (fun _ hf => ?_) hf
        refine zs_if_ne hC dX12_weekGoes_120 (fun _ hf => ?_) (fun _ hf => ?_) hf
        · refine zs_goto hC dX12_weekGoes_123 ?_
          refine zs_iinc (nI 1) hC dX12_weekGoes_161 (by decide) rfl (by decide) rfl ?_
          refine zs_goto hC dX12_weekGoes_164 ?_
          exact zAW.weak (ih _ _ _ hf) (zLw_s (zLw_n (zLw_s (zLw_s zLw_0))))
        · refine zs_al hC dX12_weekGoes_126 rfl ?_
          refine zs_il hC dX12_weekGoes_127 rfl ?_
          refine zs_k hC dX12_weekGoes_128 ?_
          refine zs_callV [.int v3, .int (-1 : Int32)] hC cw_X12_feels cl_RX12_253 zL60 rfl (by decide) rfl rfl (Nat.le_of_ble_eq_true rfl) dX12_weekGoes_129 (fun _ h => ctX12_feels h) (fun r9 m9 _ hf => ?_) hf
          show zAW X 132 _ _ m9
          refine zs_al hC dX12_weekGoes_132 rfl ?_
          refine zs_k hC dX12_weekGoes_133 ?_
          refine zs_callV [.int (nI 114)] hC cw_X12_holdsAnyOrNone cl_RX12_287 zL60 rfl (by decide) rfl rfl (Nat.le_of_ble_eq_true rfl) dX12_weekGoes_135 (fun _ h => ctX12_holdsAnyOrNone h) (fun r10 m10 _ hf => ?_) hf
          show zAW X 138 _ (.int r10 :: _) m10
          refine zs_if_eq hC dX12_weekGoes_138 (fun _ hf => ?_) (fun _ hf => ?_) hf
          · refine zs_iinc (nI 1) hC dX12_weekGoes_161 (by decide) rfl (by decide) rfl ?_
            refine zs_goto hC dX12_weekGoes_164 ?_
            exact zAW.weak (ih _ _ _ hf) (zLw_s (zLw_n (zLw_s (zLw_s zLw_0))))
          · refine zs_al hC dX12_weekGoes_141 rfl ?_
            refine zs_getR 61 hC fl_RX12_7 zL60 rfl dX12_weekGoes_142 ?_
            refine zs_k hC dX12_weekGoes_145 ?_
            refine zs_il hC dX12_weekGoes_147 rfl ?_
            refine zs_iadd hC dX12_weekGoes_148 ?_
            refine zs_al hC dX12_weekGoes_149 rfl ?_
            refine zs_getR 61 hC fl_RX12_7 zL60 rfl dX12_weekGoes_150 ?_
            refine zs_k hC dX12_weekGoes_153 ?_
            refine zs_il hC dX12_weekGoes_155 rfl ?_
            refine zs_iadd hC dX12_weekGoes_156 ?_
            refine zs_iald hC zL61 dX12_weekGoes_157 (fun _ hf => ?_) hf
            refine zs_il hC dX12_weekGoes_158 rfl ?_
            refine zs_ior hC dX12_weekGoes_159 ?_
            refine zs_iast hC zL61 dX12_weekGoes_160 (fun _ hf => ?_) hf
            refine zs_let (fun m13 _ hf => ?_) hf
            refine zs_iinc (nI 1) hC dX12_weekGoes_161 (by decide) rfl (by decide) rfl ?_
            refine zs_goto hC dX12_weekGoes_164 ?_
            exact zAW.weak (ih _ _ _ hf) (zLw_s (zLw_n (zLw_s (zLw_s zLw_0))))
set_option maxRecDepth 20000 in
set_option maxHeartbeats 4000000 in
theorem wX12_weekGoes_53 {X : zX} {F : Nat} (hC : zCx X RX12 cX12_weekGoes 4 5) (hret : zRt X none) : ∀ (n : Nat) (v1 : Int32) (v2 : Int32) (v3 : Int32) (μ : zMem), fX12_weekGoes_53 F n v1 v2 v3 μ = some (zOut X) → zAW X 53 [some (.ref 60), some (.int v1), some (.int v2), some (.int v3)] [] μ := by
  intro n
  induction n with
  | zero =>
    intro v1 v2 v3 μ hf
    rw [fX12_weekGoes_53] at hf
    cases hf
  | succ n ih =>
    intro v1 v2 v3 μ hf
    rw [fX12_weekGoes_53] at hf
    refine zs_il hC dX12_weekGoes_53 rfl ?_
    refine zs_al hC dX12_weekGoes_54 rfl ?_
    refine zs_getR 61 hC fl_RX12_7 zL60 rfl dX12_weekGoes_55 ?_
    refine zs_k hC dX12_weekGoes_58 ?_
    refine zs_il hC dX12_weekGoes_60 rfl ?_
    refine zs_iadd hC dX12_weekGoes_61 ?_
    refine zs_iald hC zL61 dX12_weekGoes_62 (fun _ hf => ?_) hf
    refine zs_ic_ge hC dX12_weekGoes_63 (fun _ hf => ?_) (fun _ hf => ?_) hf
    · refine zs_k hC dX12_weekGoes_95 ?_
      refine zs_is hC dX12_weekGoes_96 (by decide) rfl ?_
      exact zAW.weak (wX12_weekGoes_97 hC hret F _ _ _ hf) (zLw_s (zLw_n (zLw_s (zLw_s zLw_0))))
    · refine zs_il hC dX12_weekGoes_66 rfl ?_
      refine zs_k hC dX12_weekGoes_67 ?_
      refine zs_al hC dX12_weekGoes_68 rfl ?_
      refine zs_getR 61 hC fl_RX12_7 zL60 rfl dX12_weekGoes_69 ?_
      refine zs_k hC dX12_weekGoes_72 ?_
      refine zs_k hC dX12_weekGoes_74 ?_
      refine zs_il hC dX12_weekGoes_76 rfl ?_
      refine zs_imul hC dX12_weekGoes_77 ?_
      refine zs_iadd hC dX12_weekGoes_78 ?_
      refine zs_k hC dX12_weekGoes_79 ?_
      refine zs_il hC dX12_weekGoes_80 rfl ?_
      refine zs_imul hC dX12_weekGoes_81 ?_
      refine zs_iadd hC dX12_weekGoes_82 ?_
      refine zs_k hC dX12_weekGoes_83 ?_
      refine zs_iadd hC dX12_weekGoes_84 ?_
      refine zs_iald hC zL61 dX12_weekGoes_85 (fun _ hf => ?_) hf
      refine zs_ishl hC dX12_weekGoes_86 ?_
      refine zs_ior hC dX12_weekGoes_87 ?_
      refine zs_is hC dX12_weekGoes_88 (by decide) rfl ?_
      refine zs_iinc (nI 1) hC dX12_weekGoes_89 (by decide) rfl (by decide) rfl ?_
      refine zs_goto hC dX12_weekGoes_92 ?_
      exact zAW.weak (ih _ _ _ _ hf) (zLw_s (zLw_s (zLw_s (zLw_s zLw_0))))
set_option maxRecDepth 20000 in
set_option maxHeartbeats 4000000 in
theorem wX12_weekGoes_24 {X : zX} {F : Nat} (hC : zCx X RX12 cX12_weekGoes 4 5) (hret : zRt X none) : ∀ (n : Nat) (v1 : Int32) (v2 : Int32) (μ : zMem), fX12_weekGoes_24 F n v1 v2 μ = some (zOut X) → zAW X 24 [some (.ref 60), some (.int v1), some (.int v2), none] [] μ := by
  intro n
  induction n with
  | zero =>
    intro v1 v2 μ hf
    rw [fX12_weekGoes_24] at hf
    cases hf
  | succ n ih =>
    intro v1 v2 μ hf
    rw [fX12_weekGoes_24] at hf
    refine zs_il hC dX12_weekGoes_24 rfl ?_
    refine zs_k hC dX12_weekGoes_25 ?_
    refine zs_ic_ge hC dX12_weekGoes_27 (fun _ hf => ?_) (fun _ hf => ?_) hf
    · refine zs_k hC dX12_weekGoes_49 ?_
      refine zs_is hC dX12_weekGoes_50 (by decide) rfl ?_
      refine zs_k hC dX12_weekGoes_51 ?_
      refine zs_is hC dX12_weekGoes_52 (by decide) rfl ?_
      exact zAW.weak (wX12_weekGoes_53 hC hret F _ _ _ _ hf) (zLw_s (zLw_s (zLw_s (zLw_s zLw_0))))
    · refine zs_al hC dX12_weekGoes_30 rfl ?_
      refine zs_il hC dX12_weekGoes_31 rfl ?_
      refine zs_callV [.int v2] hC cw_X12_isTold cl_RX12_100 zL60 rfl (by decide) rfl rfl (Nat.le_of_ble_eq_true rfl) dX12_weekGoes_32 (fun _ h => ctX12_isTold h) (fun r1 m1 _ hf => ?_) hf
      show zAW X 35 _ (.int r1 :: _) m1
      refine zs_if_eq hC dX12_weekGoes_35 (fun _ hf => ?_) (fun _ hf => ?_) hf
      · refine zs_iinc (nI 1) hC dX12_weekGoes_43 (by decide) rfl (by decide) rfl ?_
        refine zs_goto hC dX12_weekGoes_46 ?_
        exact zAW.weak (ih _ _ _ hf) (zLw_s (zLw_s (zLw_s (zLw_n zLw_0))))
      · refine zs_al hC dX12_weekGoes_38 rfl ?_
        refine zs_il hC dX12_weekGoes_39 rfl ?_
        refine zs_callV [.int v2] hC cw_X12_whispers cl_RX12_284 zL60 rfl (by decide) rfl rfl (Nat.le_of_ble_eq_true rfl) dX12_weekGoes_40 (fun _ h => ctX12_whispers h) (fun r2 m2 _ hf => ?_) hf
        show zAW X 43 _ _ m2
        refine zs_iinc (nI 1) hC dX12_weekGoes_43 (by decide) rfl (by decide) rfl ?_
        refine zs_goto hC dX12_weekGoes_46 ?_
        exact zAW.weak (ih _ _ _ hf) (zLw_s (zLw_s (zLw_s (zLw_n zLw_0))))
set_option maxRecDepth 20000 in
set_option maxHeartbeats 4000000 in
theorem wX12_weekGoes {X : zX} {F : Nat} (hC : zCx X RX12 cX12_weekGoes 4 5) (hret : zRt X none) {μ : zMem} (hf : fX12_weekGoes F μ = some (zOut X)) : zAW X 0 [some (.ref 60), none, none, none] [] μ := by
  unfold fX12_weekGoes at hf
  refine zs_al hC dX12_weekGoes_0 rfl ?_
  refine zs_getR 61 hC fl_RX12_7 zL60 rfl dX12_weekGoes_1 ?_
  refine zs_k hC dX12_weekGoes_4 ?_
  refine zs_iald hC zL61 dX12_weekGoes_7 (fun _ hf => ?_) hf
  refine zs_k hC dX12_weekGoes_8 ?_
  refine zs_irem hC dX12_weekGoes_10 (fun _ hf => ?_) hf
  refine zs_is hC dX12_weekGoes_11 (by decide) rfl ?_
  refine zs_al hC dX12_weekGoes_12 rfl ?_
  refine zs_getR 61 hC fl_RX12_7 zL60 rfl dX12_weekGoes_13 ?_
  refine zs_k hC dX12_weekGoes_16 ?_
  refine zs_il hC dX12_weekGoes_18 rfl ?_
  refine zs_iadd hC dX12_weekGoes_19 ?_
  refine zs_k hC dX12_weekGoes_20 ?_
  refine zs_iast hC zL61 dX12_weekGoes_21 (fun _ hf => ?_) hf
  refine zs_let (fun m3 _ hf => ?_) hf
  refine zs_k hC dX12_weekGoes_22 ?_
  refine zs_is hC dX12_weekGoes_23 (by decide) rfl ?_
  exact zAW.weak (wX12_weekGoes_24 hC hret F _ _ _ hf) (zLw_s (zLw_s (zLw_s (zLw_n zLw_0))))
set_option maxRecDepth 20000 in
set_option maxHeartbeats 4000000 in
theorem ctX12_weekGoes {E : zEV} {F : Nat} {μ : zMem} {out : zR} (hf : fX12_weekGoes F μ = some out) : zCt E yX12_weekGoes cX12_weekGoes 4 none 5 [.ref 60] μ out :=
  zCt.of [some (.ref 60), none, none, none] (by decide +kernel) (Nat.le_of_ble_eq_true rfl) (zLw_s (zLw_e (zLw_e (zLw_e zLw_0)))) rfl (fun X hE ho hr hC => by
    subst hE; subst ho
    exact wX12_weekGoes hC hr hf)
/-! X12_weeksGo -/
def fX12_weeksGo_12 (F : Nat) : Nat → Int32 → Int32 → zMem → Option zR
  | 0, _, _, _ => none
  | n + 1, v1, v2, μ => if v1 ≤ v2 then some ((nI 0), μ) else zG (nI 1045) 1047 (if (nI 9999) ≤ (μ 61 (nI 1045).toNatClampNeg) then some ((nI 0), μ) else zBd (fX12_weekGoes F μ) (fun r2 m2 => fX12_weeksGo_12 F n v1 (v2 + (nI 1)) m2))
def fX12_weeksGo (F : Nat) (v1 : Int32) (μ : zMem) : Option zR :=
  zLt (zUp μ 60 34 (nI 0)) (fun m1 => zLt (zUp m1 60 35 (nI 0)) (fun m2 => fX12_weeksGo_12 F F v1 (nI 0) m2))
set_option maxRecDepth 20000 in
set_option maxHeartbeats 4000000 in
theorem wX12_weeksGo_12 {X : zX} {F : Nat} (hC : zCx X RX12 cX12_weeksGo 3 6) (hret : zRt X none) : ∀ (n : Nat) (v1 : Int32) (v2 : Int32) (μ : zMem), fX12_weeksGo_12 F n v1 v2 μ = some (zOut X) → zAW X 12 [some (.ref 60), some (.int v1), some (.int v2)] [] μ := by
  intro n
  induction n with
  | zero =>
    intro v1 v2 μ hf
    rw [fX12_weeksGo_12] at hf
    cases hf
  | succ n ih =>
    intro v1 v2 μ hf
    rw [fX12_weeksGo_12] at hf
    refine zs_il hC dX12_weeksGo_12 rfl ?_
    refine zs_il hC dX12_weeksGo_13 rfl ?_
    refine zs_ic_ge hC dX12_weeksGo_14 (fun _ hf => ?_) (fun _ hf => ?_) hf
    · exact zs_vret hC hret dX12_weeksGo_41 hf
    · refine zs_al hC dX12_weeksGo_17 rfl ?_
      refine zs_getR 61 hC fl_RX12_7 zL60 rfl dX12_weeksGo_18 ?_
      refine zs_k hC dX12_weeksGo_21 ?_
      refine zs_iald hC zL61 dX12_weeksGo_24 (fun _ hf => ?_) hf
      refine zs_k hC dX12_weeksGo_25 ?_
      refine zs_ic_ge hC dX12_weeksGo_28 (fun _ hf => ?_) (fun _ hf => ?_) hf
      · exact zs_vret hC hret dX12_weeksGo_41 hf
      · refine zs_al hC dX12_weeksGo_31 rfl ?_
        refine zs_callV [] hC cw_X12_weekGoes cl_RX12_290 zL60 rfl (by decide) rfl rfl (Nat.le_of_ble_eq_true rfl) dX12_weeksGo_32 (fun _ h => ctX12_weekGoes h) (fun r2 m2 _ hf => ?_) hf
        show zAW X 35 _ _ m2
        refine zs_iinc (nI 1) hC dX12_weeksGo_35 (by decide) rfl (by decide) rfl ?_
        refine zs_goto hC dX12_weeksGo_38 ?_
        exact zAW.weak (ih _ _ _ hf) (zLw_s (zLw_s (zLw_s zLw_0)))
set_option maxRecDepth 20000 in
set_option maxHeartbeats 4000000 in
theorem wX12_weeksGo {X : zX} {F : Nat} (hC : zCx X RX12 cX12_weeksGo 3 6) (hret : zRt X none) {v1 : Int32} {μ : zMem} (hf : fX12_weeksGo F v1 μ = some (zOut X)) : zAW X 0 [some (.ref 60), some (.int v1), none] [] μ := by
  unfold fX12_weeksGo at hf
  refine zs_al hC dX12_weeksGo_0 rfl ?_
  refine zs_k hC dX12_weeksGo_1 ?_
  refine zs_putI hC fl_RX12_259 fp_12_34 zL60 rfl dX12_weeksGo_2 ?_
  refine zs_let (fun m1 _ hf => ?_) hf
  refine zs_al hC dX12_weeksGo_5 rfl ?_
  refine zs_k hC dX12_weeksGo_6 ?_
  refine zs_putI hC fl_RX12_274 fp_12_35 zL60 rfl dX12_weeksGo_7 ?_
  refine zs_let (fun m2 _ hf => ?_) hf
  refine zs_k hC dX12_weeksGo_10 ?_
  refine zs_is hC dX12_weeksGo_11 (by decide) rfl ?_
  exact zAW.weak (wX12_weeksGo_12 hC hret F _ _ _ hf) (zLw_s (zLw_s (zLw_s zLw_0)))
set_option maxRecDepth 20000 in
set_option maxHeartbeats 4000000 in
theorem ctX12_weeksGo {E : zEV} {F : Nat} {v1 : Int32} {μ : zMem} {out : zR} (hf : fX12_weeksGo F v1 μ = some out) : zCt E yX12_weeksGo cX12_weeksGo 3 none 6 [.ref 60, .int v1] μ out :=
  zCt.of [some (.ref 60), some (.int v1), none] (by decide +kernel) (Nat.le_of_ble_eq_true rfl) (zLw_s (zLw_s (zLw_e zLw_0))) rfl (fun X hE ho hr hC => by
    subst hE; subst ho
    exact wX12_weeksGo hC hr hf)
/-! X12_weeks -/
def fX12_weeks (F : Nat) (v1 : Int32) (μ : zMem) : Option zR :=
  zBd (fX12_in F v1 (nI 1) (nI 100) μ) (fun r1 m1 => if r1 = 0 then some ((-1 : Int32), m1) else zBd (fX12_weeksGo F v1 m1) (fun r2 m2 => some ((m2 60 34), m2)))
set_option maxRecDepth 20000 in
set_option maxHeartbeats 4000000 in
theorem wX12_weeks {X : zX} {F : Nat} (hC : zCx X RX12 cX12_weeks 2 7) (hret : zRt X (some .int)) {v1 : Int32} {μ : zMem} (hf : fX12_weeks F v1 μ = some (zOut X)) : zAW X 0 [some (.ref 60), some (.int v1)] [] μ := by
  unfold fX12_weeks at hf
  refine zs_il hC dX12_weeks_0 rfl ?_
  refine zs_k hC dX12_weeks_1 ?_
  refine zs_k hC dX12_weeks_2 ?_
  refine zs_callS [.int v1, .int (nI 1), .int (nI 100)] hC cw_X12_in cl_RX12_96 (by decide) rfl rfl (Nat.le_of_ble_eq_true rfl) dX12_weeks_4 (fun _ h => ctX12_in h) (fun r1 m1 _ hf => ?_) hf
  show zAW X 7 _ (.int r1 :: _) m1
  refine zs_if_ne hC dX12_weeks_7 (fun _ hf => ?_) (fun _ hf => ?_) hf
  · refine zs_k hC dX12_weeks_10 ?_
    exact zs_iret hC hret dX12_weeks_11 hf
  · refine zs_al hC dX12_weeks_12 rfl ?_
    refine zs_il hC dX12_weeks_13 rfl ?_
    refine zs_callV [.int v1] hC cw_X12_weeksGo cl_RX12_293 zL60 rfl (by decide) rfl rfl (Nat.le_of_ble_eq_true rfl) dX12_weeks_14 (fun _ h => ctX12_weeksGo h) (fun r2 m2 _ hf => ?_) hf
    show zAW X 17 _ _ m2
    refine zs_al hC dX12_weeks_17 rfl ?_
    refine zs_getI hC fl_RX12_259 zL60 rfl dX12_weeks_18 ?_
    exact zs_iret hC hret dX12_weeks_21 hf
set_option maxRecDepth 20000 in
set_option maxHeartbeats 4000000 in
theorem ctX12_weeks {E : zEV} {F : Nat} {v1 : Int32} {μ : zMem} {out : zR} (hf : fX12_weeks F v1 μ = some out) : zCt E yX12_weeks cX12_weeks 2 (some .int) 7 [.ref 60, .int v1] μ out :=
  zCt.of [some (.ref 60), some (.int v1)] (by decide +kernel) (Nat.le_of_ble_eq_true rfl) (zLw_s (zLw_s zLw_0)) rfl (fun X hE ho hr hC => by
    subst hE; subst ho
    exact wX12_weeks hC hr hf)
/-! X12_knownByAny -/
def fX12_knownByAny_4 (F : Nat) : Nat → Int32 → Int32 → zMem → Option zR
  | 0, _, _, _ => none
  | n + 1, v1, v2, μ => if (nI 16) ≤ v2 then some (v1, μ) else zBd (fX12_isTold F v2 μ) (fun r1 m1 => if r1 = 0 then fX12_knownByAny_4 F n v1 (v2 + (nI 1)) m1 else zG ((nI 16) + v2) 1047 (fX12_knownByAny_4 F n (v1 ||| (m1 61 ((nI 16) + v2).toNatClampNeg)) (v2 + (nI 1)) m1))
def fX12_knownByAny (F : Nat) (μ : zMem) : Option zR :=
  fX12_knownByAny_4 F F (nI 0) (nI 0) μ
set_option maxRecDepth 20000 in
set_option maxHeartbeats 4000000 in
theorem wX12_knownByAny_4 {X : zX} {F : Nat} (hC : zCx X RX12 cX12_knownByAny 3 2) (hret : zRt X (some .int)) : ∀ (n : Nat) (v1 : Int32) (v2 : Int32) (μ : zMem), fX12_knownByAny_4 F n v1 v2 μ = some (zOut X) → zAW X 4 [some (.ref 60), some (.int v1), some (.int v2)] [] μ := by
  intro n
  induction n with
  | zero =>
    intro v1 v2 μ hf
    rw [fX12_knownByAny_4] at hf
    cases hf
  | succ n ih =>
    intro v1 v2 μ hf
    rw [fX12_knownByAny_4] at hf
    refine zs_il hC dX12_knownByAny_4 rfl ?_
    refine zs_k hC dX12_knownByAny_5 ?_
    refine zs_ic_ge hC dX12_knownByAny_7 (fun _ hf => ?_) (fun _ hf => ?_) hf
    · refine zs_il hC dX12_knownByAny_36 rfl ?_
      exact zs_iret hC hret dX12_knownByAny_37 hf
    · refine zs_al hC dX12_knownByAny_10 rfl ?_
      refine zs_il hC dX12_knownByAny_11 rfl ?_
      refine zs_callV [.int v2] hC cw_X12_isTold cl_RX12_100 zL60 rfl (by decide) rfl rfl (Nat.le_of_ble_eq_true rfl) dX12_knownByAny_12 (fun _ h => ctX12_isTold h) (fun r1 m1 _ hf => ?_) hf
      show zAW X 15 _ (.int r1 :: _) m1
      refine zs_if_eq hC dX12_knownByAny_15 (fun _ hf => ?_) (fun _ hf => ?_) hf
      · refine zs_iinc (nI 1) hC dX12_knownByAny_30 (by decide) rfl (by decide) rfl ?_
        refine zs_goto hC dX12_knownByAny_33 ?_
        exact zAW.weak (ih _ _ _ hf) (zLw_s (zLw_s (zLw_s zLw_0)))
      · refine zs_il hC dX12_knownByAny_18 rfl ?_
        refine zs_al hC dX12_knownByAny_19 rfl ?_
        refine zs_getR 61 hC fl_RX12_7 zL60 rfl dX12_knownByAny_20 ?_
        refine zs_k hC dX12_knownByAny_23 ?_
        refine zs_il hC dX12_knownByAny_25 rfl ?_
        refine zs_iadd hC dX12_knownByAny_26 ?_
        refine zs_iald hC zL61 dX12_knownByAny_27 (fun _ hf => ?_) hf
        refine zs_ior hC dX12_knownByAny_28 ?_
        refine zs_is hC dX12_knownByAny_29 (by decide) rfl ?_
        refine zs_iinc (nI 1) hC dX12_knownByAny_30 (by decide) rfl (by decide) rfl ?_
        refine zs_goto hC dX12_knownByAny_33 ?_
        exact zAW.weak (ih _ _ _ hf) (zLw_s (zLw_s (zLw_s zLw_0)))
set_option maxRecDepth 20000 in
set_option maxHeartbeats 4000000 in
theorem wX12_knownByAny {X : zX} {F : Nat} (hC : zCx X RX12 cX12_knownByAny 3 2) (hret : zRt X (some .int)) {μ : zMem} (hf : fX12_knownByAny F μ = some (zOut X)) : zAW X 0 [some (.ref 60), none, none] [] μ := by
  unfold fX12_knownByAny at hf
  refine zs_k hC dX12_knownByAny_0 ?_
  refine zs_is hC dX12_knownByAny_1 (by decide) rfl ?_
  refine zs_k hC dX12_knownByAny_2 ?_
  refine zs_is hC dX12_knownByAny_3 (by decide) rfl ?_
  exact zAW.weak (wX12_knownByAny_4 hC hret F _ _ _ hf) (zLw_s (zLw_s (zLw_s zLw_0)))
set_option maxRecDepth 20000 in
set_option maxHeartbeats 4000000 in
theorem ctX12_knownByAny {E : zEV} {F : Nat} {μ : zMem} {out : zR} (hf : fX12_knownByAny F μ = some out) : zCt E yX12_knownByAny cX12_knownByAny 3 (some .int) 2 [.ref 60] μ out :=
  zCt.of [some (.ref 60), none, none] (by decide +kernel) (Nat.le_of_ble_eq_true rfl) (zLw_s (zLw_e (zLw_e zLw_0))) rfl (fun X hE ho hr hC => by
    subst hE; subst ho
    exact wX12_knownByAny hC hr hf)
/-! X12_knownByAll -/
def fX12_knownByAll_16 (F : Nat) : Nat → Int32 → Int32 → zMem → Option zR
  | 0, _, _, _ => none
  | n + 1, v1, v2, μ => if (nI 16) ≤ v2 then some (v1, μ) else zBd (fX12_isTold F v2 μ) (fun r1 m1 => if r1 = 0 then fX12_knownByAll_16 F n v1 (v2 + (nI 1)) m1 else zG ((nI 16) + v2) 1047 (fX12_knownByAll_16 F n (v1 &&& (m1 61 ((nI 16) + v2).toNatClampNeg)) (v2 + (nI 1)) m1))
def fX12_knownByAll (F : Nat) (μ : zMem) : Option zR :=
  zBd (fX12_toldSet F μ) (fun r1 m1 => if r1 = 0 then fX12_knownByAll_16 F F (nI 0) (nI 0) m1 else fX12_knownByAll_16 F F (nI 65535) (nI 0) m1)
set_option maxRecDepth 20000 in
set_option maxHeartbeats 4000000 in
theorem wX12_knownByAll_16 {X : zX} {F : Nat} (hC : zCx X RX12 cX12_knownByAll 3 3) (hret : zRt X (some .int)) : ∀ (n : Nat) (v1 : Int32) (v2 : Int32) (μ : zMem), fX12_knownByAll_16 F n v1 v2 μ = some (zOut X) → zAW X 16 [some (.ref 60), some (.int v1), some (.int v2)] [] μ := by
  intro n
  induction n with
  | zero =>
    intro v1 v2 μ hf
    rw [fX12_knownByAll_16] at hf
    cases hf
  | succ n ih =>
    intro v1 v2 μ hf
    rw [fX12_knownByAll_16] at hf
    refine zs_il hC dX12_knownByAll_16 rfl ?_
    refine zs_k hC dX12_knownByAll_17 ?_
    refine zs_ic_ge hC dX12_knownByAll_19 (fun _ hf => ?_) (fun _ hf => ?_) hf
    · refine zs_il hC dX12_knownByAll_48 rfl ?_
      exact zs_iret hC hret dX12_knownByAll_49 hf
    · refine zs_al hC dX12_knownByAll_22 rfl ?_
      refine zs_il hC dX12_knownByAll_23 rfl ?_
      refine zs_callV [.int v2] hC cw_X12_isTold cl_RX12_100 zL60 rfl (by decide) rfl rfl (Nat.le_of_ble_eq_true rfl) dX12_knownByAll_24 (fun _ h => ctX12_isTold h) (fun r1 m1 _ hf => ?_) hf
      show zAW X 27 _ (.int r1 :: _) m1
      refine zs_if_eq hC dX12_knownByAll_27 (fun _ hf => ?_) (fun _ hf => ?_) hf
      · refine zs_iinc (nI 1) hC dX12_knownByAll_42 (by decide) rfl (by decide) rfl ?_
        refine zs_goto hC dX12_knownByAll_45 ?_
        exact zAW.weak (ih _ _ _ hf) (zLw_s (zLw_s (zLw_s zLw_0)))
      · refine zs_il hC dX12_knownByAll_30 rfl ?_
        refine zs_al hC dX12_knownByAll_31 rfl ?_
        refine zs_getR 61 hC fl_RX12_7 zL60 rfl dX12_knownByAll_32 ?_
        refine zs_k hC dX12_knownByAll_35 ?_
        refine zs_il hC dX12_knownByAll_37 rfl ?_
        refine zs_iadd hC dX12_knownByAll_38 ?_
        refine zs_iald hC zL61 dX12_knownByAll_39 (fun _ hf => ?_) hf
        refine zs_iand hC dX12_knownByAll_40 ?_
        refine zs_is hC dX12_knownByAll_41 (by decide) rfl ?_
        refine zs_iinc (nI 1) hC dX12_knownByAll_42 (by decide) rfl (by decide) rfl ?_
        refine zs_goto hC dX12_knownByAll_45 ?_
        exact zAW.weak (ih _ _ _ hf) (zLw_s (zLw_s (zLw_s zLw_0)))
set_option maxRecDepth 20000 in
set_option maxHeartbeats 4000000 in
theorem wX12_knownByAll {X : zX} {F : Nat} (hC : zCx X RX12 cX12_knownByAll 3 3) (hret : zRt X (some .int)) {μ : zMem} (hf : fX12_knownByAll F μ = some (zOut X)) : zAW X 0 [some (.ref 60), none, none] [] μ := by
  unfold fX12_knownByAll at hf
  refine zs_al hC dX12_knownByAll_0 rfl ?_
  refine zs_callV [] hC cw_X12_toldSet cl_RX12_296 zL60 rfl (by decide) rfl rfl (Nat.le_of_ble_eq_true rfl) dX12_knownByAll_1 (fun _ h => ctX12_toldSet h) (fun r1 m1 _ hf => ?_) hf
  show zAW X 4 _ (.int r1 :: _) m1
  refine zs_if_ne hC dX12_knownByAll_4 (fun _ hf => ?_) (fun _ hf => ?_) hf
  · refine zs_k hC dX12_knownByAll_7 ?_
    refine zs_goto hC dX12_knownByAll_8 ?_
    refine zs_is hC dX12_knownByAll_13 (by decide) rfl ?_
    refine zs_k hC dX12_knownByAll_14 ?_
    refine zs_is hC dX12_knownByAll_15 (by decide) rfl ?_
    exact zAW.weak (wX12_knownByAll_16 hC hret F _ _ _ hf) (zLw_s (zLw_s (zLw_s zLw_0)))
  · refine zs_ldc hC kc_RX12_104 dX12_knownByAll_11 ?_
    refine zs_is hC dX12_knownByAll_13 (by decide) rfl ?_
    refine zs_k hC dX12_knownByAll_14 ?_
    refine zs_is hC dX12_knownByAll_15 (by decide) rfl ?_
    exact zAW.weak (wX12_knownByAll_16 hC hret F _ _ _ hf) (zLw_s (zLw_s (zLw_s zLw_0)))
set_option maxRecDepth 20000 in
set_option maxHeartbeats 4000000 in
theorem ctX12_knownByAll {E : zEV} {F : Nat} {μ : zMem} {out : zR} (hf : fX12_knownByAll F μ = some out) : zCt E yX12_knownByAll cX12_knownByAll 3 (some .int) 3 [.ref 60] μ out :=
  zCt.of [some (.ref 60), none, none] (by decide +kernel) (Nat.le_of_ble_eq_true rfl) (zLw_s (zLw_e (zLw_e zLw_0))) rfl (fun X hE ho hr hC => by
    subst hE; subst ho
    exact wX12_knownByAll hC hr hf)
/-! X12_tried -/
def fX12_tried_32 (F : Nat) (v1 : Int32) (v2 : Int32) (μ : zMem) : Option zR :=
  zBd (fX12_copies F 61 62 μ) (fun r3 m3 => zBd (fX12_weeksGo F v1 m3) (fun r4 m4 => (if v2 = (nI 0) then zBd (fX12_copies F 62 61 m4) (fun r8 m8 => some ((m4 60 34), m8)) else if v2 = (nI 1) then zBd (fX12_copies F 62 61 m4) (fun r12 m12 => some ((m4 60 35), m12)) else if v2 = (nI 2) then zBd (fX12_knownByAny F m4) (fun r13 m13 => zBd (fX12_copies F 62 61 m13) (fun r16 m16 => some (r13, m16))) else if v2 = (nI 3) then zBd (fX12_knownByAll F m4) (fun r17 m17 => zBd (fX12_copies F 62 61 m17) (fun r20 m20 => some (r17, m20))) else zG (((nI 16) + v2) - (nI 100)) 1047 (zBd (fX12_copies F 62 61 m4) (fun r24 m24 => some ((m4 61 (((nI 16) + v2) - (nI 100)).toNatClampNeg), m24))))))
def fX12_tried (F : Nat) (v1 : Int32) (v2 : Int32) (μ : zMem) : Option zR :=
  zBd (fX12_in F v1 (nI 1) (nI 100) μ) (fun r1 m1 => if r1 = 0 then some ((-1 : Int32), m1) else zBd (fX12_in F v2 (nI 0) (nI 3) m1) (fun r2 m2 => if r2 = 0 then zBd (fX12_isTold F (v2 - (nI 100)) m2) (fun r3 m3 => if r3 = 0 then some ((-1 : Int32), m3) else fX12_tried_32 F v1 v2 m3) else fX12_tried_32 F v1 v2 m2))
set_option maxRecDepth 20000 in
set_option maxHeartbeats 4000000 in
theorem wX12_tried_32 {X : zX} {F : Nat} (hC : zCx X RX12 cX12_tried 4 7) (hret : zRt X (some .int)) {v1 : Int32} {v2 : Int32} {μ : zMem} (hf : fX12_tried_32 F v1 v2 μ = some (zOut X)) : zAW X 32 [some (.ref 60), some (.int v1), some (.int v2), none] [] μ := by
  unfold fX12_tried_32 at hf
  refine zs_al hC dX12_tried_32 rfl ?_
  refine zs_getR 61 hC fl_RX12_7 zL60 rfl dX12_tried_33 ?_
  refine zs_al hC dX12_tried_36 rfl ?_
  refine zs_getR 62 hC fl_RX12_13 zL60 rfl dX12_tried_37 ?_
  refine zs_callS [.ref 61, .ref 62] hC cw_X12_copies cl_RX12_237 (by decide) rfl rfl (Nat.le_of_ble_eq_true rfl) dX12_tried_40 (fun _ h => ctX12_copies (by decide) (by decide) h) (fun r3 m3 _ hf => ?_) hf
  show zAW X 43 _ _ m3
  refine zs_al hC dX12_tried_43 rfl ?_
  refine zs_il hC dX12_tried_44 rfl ?_
  refine zs_callV [.int v1] hC cw_X12_weeksGo cl_RX12_293 zL60 rfl (by decide) rfl rfl (Nat.le_of_ble_eq_true rfl) dX12_tried_45 (fun _ h => ctX12_weeksGo h) (fun r4 m4 _ hf => ?_) hf
  show zAW X 48 _ _ m4
  refine zs_il hC dX12_tried_48 rfl ?_
  refine zs_case (nI 0) (fun hx hf => ?_) (fun e49_0 hf => ?_) hf
  · refine zs_tabI (off := 31) (tgt := 80) hC hx dX12_tried_49 (by decide) (by decide) rfl (by decide) ?_
    refine zs_al hC dX12_tried_80 rfl ?_
    refine zs_getI hC fl_RX12_259 zL60 rfl dX12_tried_81 ?_
    refine zs_is hC dX12_tried_84 (by decide) rfl ?_
    refine zs_goto hC dX12_tried_85 ?_
    refine zs_al hC dX12_tried_125 rfl ?_
    refine zs_getR 62 hC fl_RX12_13 zL60 rfl dX12_tried_126 ?_
    refine zs_al hC dX12_tried_129 rfl ?_
    refine zs_getR 61 hC fl_RX12_7 zL60 rfl dX12_tried_130 ?_
    refine zs_callS [.ref 62, .ref 61] hC cw_X12_copies cl_RX12_237 (by decide) rfl rfl (Nat.le_of_ble_eq_true rfl) dX12_tried_133 (fun _ h => ctX12_copies (by decide) (by decide) h) (fun r8 m8 _ hf => ?_) hf
    show zAW X 136 _ _ m8
    refine zs_il hC dX12_tried_136 rfl ?_
    exact zs_iret hC hret dX12_tried_137 hf
  refine zs_case (nI 1) (fun hx hf => ?_) (fun e49_1 hf => ?_) hf
  · refine zs_tabI (off := 39) (tgt := 88) hC hx dX12_tried_49 (by decide) (by decide) rfl (by decide) ?_
    refine zs_al hC dX12_tried_88 rfl ?_
    refine zs_getI hC fl_RX12_274 zL60 rfl dX12_tried_89 ?_
    refine zs_is hC dX12_tried_92 (by decide) rfl ?_
    refine zs_goto hC dX12_tried_93 ?_
    refine zs_al hC dX12_tried_125 rfl ?_
    refine zs_getR 62 hC fl_RX12_13 zL60 rfl dX12_tried_126 ?_
    refine zs_al hC dX12_tried_129 rfl ?_
    refine zs_getR 61 hC fl_RX12_7 zL60 rfl dX12_tried_130 ?_
    refine zs_callS [.ref 62, .ref 61] hC cw_X12_copies cl_RX12_237 (by decide) rfl rfl (Nat.le_of_ble_eq_true rfl) dX12_tried_133 (fun _ h => ctX12_copies (by decide) (by decide) h) (fun r12 m12 _ hf => ?_) hf
    show zAW X 136 _ _ m12
    refine zs_il hC dX12_tried_136 rfl ?_
    exact zs_iret hC hret dX12_tried_137 hf
  refine zs_case (nI 2) (fun hx hf => ?_) (fun e49_2 hf => ?_) hf
  · refine zs_tabI (off := 47) (tgt := 96) hC hx dX12_tried_49 (by decide) (by decide) rfl (by decide) ?_
    refine zs_al hC dX12_tried_96 rfl ?_
    refine zs_callV [] hC cw_X12_knownByAny cl_RX12_299 zL60 rfl (by decide) rfl rfl (Nat.le_of_ble_eq_true rfl) dX12_tried_97 (fun _ h => ctX12_knownByAny h) (fun r13 m13 _ hf => ?_) hf
    show zAW X 100 _ (.int r13 :: _) m13
    refine zs_is hC dX12_tried_100 (by decide) rfl ?_
    refine zs_goto hC dX12_tried_101 ?_
    refine zs_al hC dX12_tried_125 rfl ?_
    refine zs_getR 62 hC fl_RX12_13 zL60 rfl dX12_tried_126 ?_
    refine zs_al hC dX12_tried_129 rfl ?_
    refine zs_getR 61 hC fl_RX12_7 zL60 rfl dX12_tried_130 ?_
    refine zs_callS [.ref 62, .ref 61] hC cw_X12_copies cl_RX12_237 (by decide) rfl rfl (Nat.le_of_ble_eq_true rfl) dX12_tried_133 (fun _ h => ctX12_copies (by decide) (by decide) h) (fun r16 m16 _ hf => ?_) hf
    show zAW X 136 _ _ m16
    refine zs_il hC dX12_tried_136 rfl ?_
    exact zs_iret hC hret dX12_tried_137 hf
  refine zs_case (nI 3) (fun hx hf => ?_) (fun e49_3 hf => ?_) hf
  · refine zs_tabI (off := 55) (tgt := 104) hC hx dX12_tried_49 (by decide) (by decide) rfl (by decide) ?_
    refine zs_al hC dX12_tried_104 rfl ?_
    refine zs_callV [] hC cw_X12_knownByAll cl_RX12_302 zL60 rfl (by decide) rfl rfl (Nat.le_of_ble_eq_true rfl) dX12_tried_105 (fun _ h => ctX12_knownByAll h) (fun r17 m17 _ hf => ?_) hf
    show zAW X 108 _ (.int r17 :: _) m17
    refine zs_is hC dX12_tried_108 (by decide) rfl ?_
    refine zs_goto hC dX12_tried_109 ?_
    refine zs_al hC dX12_tried_125 rfl ?_
    refine zs_getR 62 hC fl_RX12_13 zL60 rfl dX12_tried_126 ?_
    refine zs_al hC dX12_tried_129 rfl ?_
    refine zs_getR 61 hC fl_RX12_7 zL60 rfl dX12_tried_130 ?_
    refine zs_callS [.ref 62, .ref 61] hC cw_X12_copies cl_RX12_237 (by decide) rfl rfl (Nat.le_of_ble_eq_true rfl) dX12_tried_133 (fun _ h => ctX12_copies (by decide) (by decide) h) (fun r20 m20 _ hf => ?_) hf
    show zAW X 136 _ _ m20
    refine zs_il hC dX12_tried_136 rfl ?_
    exact zs_iret hC hret dX12_tried_137 hf
  have e49_0 := lv_neT (a := 0) e49_0 (by decide)
  have e49_1 := lv_neT (a := 1) e49_1 (by decide)
  have e49_2 := lv_neT (a := 2) e49_2 (by decide)
  have e49_3 := lv_neT (a := 3) e49_3 (by decide)
  refine zs_tabO (tgt := 112) hC dX12_tried_49 (by omega) (by decide) ?_
  refine zs_al hC dX12_tried_112 rfl ?_
  refine zs_getR 61 hC fl_RX12_7 zL60 rfl dX12_tried_113 ?_
  refine zs_k hC dX12_tried_116 ?_
  refine zs_il hC dX12_tried_118 rfl ?_
  refine zs_iadd hC dX12_tried_119 ?_
  refine zs_k hC dX12_tried_120 ?_
  refine zs_isub hC dX12_tried_122 ?_
  refine zs_iald hC zL61 dX12_tried_123 (fun _ hf => ?_) hf
  refine zs_is hC dX12_tried_124 (by decide) rfl ?_
  refine zs_al hC dX12_tried_125 rfl ?_
  refine zs_getR 62 hC fl_RX12_13 zL60 rfl dX12_tried_126 ?_
  refine zs_al hC dX12_tried_129 rfl ?_
  refine zs_getR 61 hC fl_RX12_7 zL60 rfl dX12_tried_130 ?_
  refine zs_callS [.ref 62, .ref 61] hC cw_X12_copies cl_RX12_237 (by decide) rfl rfl (Nat.le_of_ble_eq_true rfl) dX12_tried_133 (fun _ h => ctX12_copies (by decide) (by decide) h) (fun r24 m24 _ hf => ?_) hf
  show zAW X 136 _ _ m24
  refine zs_il hC dX12_tried_136 rfl ?_
  exact zs_iret hC hret dX12_tried_137 hf
set_option maxRecDepth 20000 in
set_option maxHeartbeats 4000000 in
theorem wX12_tried {X : zX} {F : Nat} (hC : zCx X RX12 cX12_tried 4 7) (hret : zRt X (some .int)) {v1 : Int32} {v2 : Int32} {μ : zMem} (hf : fX12_tried F v1 v2 μ = some (zOut X)) : zAW X 0 [some (.ref 60), some (.int v1), some (.int v2), none] [] μ := by
  unfold fX12_tried at hf
  refine zs_il hC dX12_tried_0 rfl ?_
  refine zs_k hC dX12_tried_1 ?_
  refine zs_k hC dX12_tried_2 ?_
  refine zs_callS [.int v1, .int (nI 1), .int (nI 100)] hC cw_X12_in cl_RX12_96 (by decide) rfl rfl (Nat.le_of_ble_eq_true rfl) dX12_tried_4 (fun _ h => ctX12_in h) (fun r1 m1 _ hf => ?_) hf
  show zAW X 7 _ (.int r1 :: _) m1
  refine zs_if_eq hC dX12_tried_7 (fun _ hf => ?_) (fun _ hf => ?_) hf
  · refine zs_k hC dX12_tried_30 ?_
    exact zs_iret hC hret dX12_tried_31 hf
  · refine zs_il hC dX12_tried_10 rfl ?_
    refine zs_k hC dX12_tried_11 ?_
    refine zs_k hC dX12_tried_12 ?_
    refine zs_callS [.int v2, .int (nI 0), .int (nI 3)] hC cw_X12_in cl_RX12_96 (by decide) rfl rfl (Nat.le_of_ble_eq_true rfl) dX12_tried_13 (fun _ h => ctX12_in h) (fun r2 m2 _ hf => ?_) hf
    show zAW X 16 _ (.int r2 :: _) m2
    refine zs_if_ne hC dX12_tried_16 (fun _ hf => ?_) (fun _ hf => ?_) hf
    · refine zs_al hC dX12_tried_19 rfl ?_
      refine zs_il hC dX12_tried_20 rfl ?_
      refine zs_k hC dX12_tried_21 ?_
      refine zs_isub hC dX12_tried_23 ?_
      refine zs_callV [.int (v2 - (nI 100))] hC cw_X12_isTold cl_RX12_100 zL60 rfl (by decide) rfl rfl (Nat.le_of_ble_eq_true rfl) dX12_tried_24 (fun _ h => ctX12_isTold h) (fun r3 m3 _ hf => ?_) hf
      show zAW X 27 _ (.int r3 :: _) m3
      refine zs_if_ne hC dX12_tried_27 (fun _ hf => ?_) (fun _ hf => ?_) hf
      · refine zs_k hC dX12_tried_30 ?_
        exact zs_iret hC hret dX12_tried_31 hf
      · exact zAW.weak (wX12_tried_32 hC hret hf) (zLw_s (zLw_s (zLw_s (zLw_n zLw_0))))
    · exact zAW.weak (wX12_tried_32 hC hret hf) (zLw_s (zLw_s (zLw_s (zLw_n zLw_0))))
set_option maxRecDepth 20000 in
set_option maxHeartbeats 4000000 in
theorem ctX12_tried {E : zEV} {F : Nat} {v1 : Int32} {v2 : Int32} {μ : zMem} {out : zR} (hf : fX12_tried F v1 v2 μ = some out) : zCt E yX12_tried cX12_tried 4 (some .int) 7 [.ref 60, .int v1, .int v2] μ out :=
  zCt.of [some (.ref 60), some (.int v1), some (.int v2), none] (by decide +kernel) (Nat.le_of_ble_eq_true rfl) (zLw_s (zLw_s (zLw_s (zLw_e zLw_0)))) rfl (fun X hE ho hr hC => by
    subst hE; subst ho
    exact wX12_tried hC hr hf)
/-! X12_personIs -/
def fX12_personIs (F : Nat) (v1 : Int32) (v2 : Int32) (μ : zMem) : Option zR :=
  zBd (fX12_isTold F v1 μ) (fun r1 m1 => if r1 = 0 then some ((-1 : Int32), m1) else (if v2 = (nI 0) then zG ((nI 16) + v1) 1047 (some ((m1 61 ((nI 16) + v1).toNatClampNeg), m1)) else if v2 = (nI 1) then zG ((nI 16) + v1) 1047 (zBd (fX12_bits F (m1 61 ((nI 16) + v1).toNatClampNeg) m1) (fun r4 m4 => some (r4, m4))) else if v2 = (nI 2) then zG ((nI 32) + v1) 1047 (some ((m1 61 ((nI 32) + v1).toNatClampNeg), m1)) else if v2 = (nI 3) then zG ((nI 48) + v1) 1047 (some ((m1 61 ((nI 48) + v1).toNatClampNeg), m1)) else some ((-1 : Int32), m1)))
set_option maxRecDepth 20000 in
set_option maxHeartbeats 4000000 in
theorem wX12_personIs {X : zX} {F : Nat} (hC : zCx X RX12 cX12_personIs 3 2) (hret : zRt X (some .int)) {v1 : Int32} {v2 : Int32} {μ : zMem} (hf : fX12_personIs F v1 v2 μ = some (zOut X)) : zAW X 0 [some (.ref 60), some (.int v1), some (.int v2)] [] μ := by
  unfold fX12_personIs at hf
  refine zs_al hC dX12_personIs_0 rfl ?_
  refine zs_il hC dX12_personIs_1 rfl ?_
  refine zs_callV [.int v1] hC cw_X12_isTold cl_RX12_100 zL60 rfl (by decide) rfl rfl (Nat.le_of_ble_eq_true rfl) dX12_personIs_2 (fun _ h => ctX12_isTold h) (fun r1 m1 _ hf => ?_) hf
  show zAW X 5 _ (.int r1 :: _) m1
  refine zs_if_ne hC dX12_personIs_5 (fun _ hf => ?_) (fun _ hf => ?_) hf
  · refine zs_k hC dX12_personIs_8 ?_
    exact zs_iret hC hret dX12_personIs_9 hf
  · refine zs_il hC dX12_personIs_10 rfl ?_
    refine zs_case (nI 0) (fun hx hf => ?_) (fun e11_0 hf => ?_) hf
    · refine zs_tabI (off := 29) (tgt := 40) hC hx dX12_personIs_11 (by decide) (by decide) rfl (by decide) ?_
      refine zs_al hC dX12_personIs_40 rfl ?_
      refine zs_getR 61 hC fl_RX12_7 zL60 rfl dX12_personIs_41 ?_
      refine zs_k hC dX12_personIs_44 ?_
      refine zs_il hC dX12_personIs_46 rfl ?_
      refine zs_iadd hC dX12_personIs_47 ?_
      refine zs_iald hC zL61 dX12_personIs_48 (fun _ hf => ?_) hf
      exact zs_iret hC hret dX12_personIs_49 hf
    refine zs_case (nI 1) (fun hx hf => ?_) (fun e11_1 hf => ?_) hf
    · refine zs_tabI (off := 39) (tgt := 50) hC hx dX12_personIs_11 (by decide) (by decide) rfl (by decide) ?_
      refine zs_al hC dX12_personIs_50 rfl ?_
      refine zs_getR 61 hC fl_RX12_7 zL60 rfl dX12_personIs_51 ?_
      refine zs_k hC dX12_personIs_54 ?_
      refine zs_il hC dX12_personIs_56 rfl ?_
      refine zs_iadd hC dX12_personIs_57 ?_
      refine zs_iald hC zL61 dX12_personIs_58 (fun _ hf => ?_) hf
      refine zs_callS [.int (m1 61 ((nI 16) + v1).toNatClampNeg)] hC cw_X12_bits cl_RX12_218 (by decide) rfl rfl (Nat.le_of_ble_eq_true rfl) dX12_personIs_59 (fun _ h => ctX12_bits h) (fun r4 m4 _ hf => ?_) hf
      show zAW X 62 _ (.int r4 :: _) m4
      exact zs_iret hC hret dX12_personIs_62 hf
    refine zs_case (nI 2) (fun hx hf => ?_) (fun e11_2 hf => ?_) hf
    · refine zs_tabI (off := 52) (tgt := 63) hC hx dX12_personIs_11 (by decide) (by decide) rfl (by decide) ?_
      refine zs_al hC dX12_personIs_63 rfl ?_
      refine zs_getR 61 hC fl_RX12_7 zL60 rfl dX12_personIs_64 ?_
      refine zs_k hC dX12_personIs_67 ?_
      refine zs_il hC dX12_personIs_69 rfl ?_
      refine zs_iadd hC dX12_personIs_70 ?_
      refine zs_iald hC zL61 dX12_personIs_71 (fun _ hf => ?_) hf
      exact zs_iret hC hret dX12_personIs_72 hf
    refine zs_case (nI 3) (fun hx hf => ?_) (fun e11_3 hf => ?_) hf
    · refine zs_tabI (off := 62) (tgt := 73) hC hx dX12_personIs_11 (by decide) (by decide) rfl (by decide) ?_
      refine zs_al hC dX12_personIs_73 rfl ?_
      refine zs_getR 61 hC fl_RX12_7 zL60 rfl dX12_personIs_74 ?_
      refine zs_k hC dX12_personIs_77 ?_
      refine zs_il hC dX12_personIs_79 rfl ?_
      refine zs_iadd hC dX12_personIs_80 ?_
      refine zs_iald hC zL61 dX12_personIs_81 (fun _ hf => ?_) hf
      exact zs_iret hC hret dX12_personIs_82 hf
    have e11_0 := lv_neT (a := 0) e11_0 (by decide)
    have e11_1 := lv_neT (a := 1) e11_1 (by decide)
    have e11_2 := lv_neT (a := 2) e11_2 (by decide)
    have e11_3 := lv_neT (a := 3) e11_3 (by decide)
    refine zs_tabO (tgt := 83) hC dX12_personIs_11 (by omega) (by decide) ?_
    refine zs_k hC dX12_personIs_83 ?_
    exact zs_iret hC hret dX12_personIs_84 hf
set_option maxRecDepth 20000 in
set_option maxHeartbeats 4000000 in
theorem ctX12_personIs {E : zEV} {F : Nat} {v1 : Int32} {v2 : Int32} {μ : zMem} {out : zR} (hf : fX12_personIs F v1 v2 μ = some out) : zCt E yX12_personIs cX12_personIs 3 (some .int) 2 [.ref 60, .int v1, .int v2] μ out :=
  zCt.of [some (.ref 60), some (.int v1), some (.int v2)] (by decide +kernel) (Nat.le_of_ble_eq_true rfl) (zLw_s (zLw_s (zLw_s zLw_0))) rfl (fun X hE ho hr hC => by
    subst hE; subst ho
    exact wX12_personIs hC hr hf)
/-! X12_allKnow -/
def fX12_allKnow_76 (F : Nat) (v1 : Int32) (v3 : Int32) (μ : zMem) : Option zR :=
  zBd (fX12_knownByAll F μ) (fun r1 m1 => zBd (fX12_has F r1 v1 m1) (fun r2 m2 => zBd (fX12_copies F 62 61 m2) (fun r5 m5 => if r2 = 0 then some ((-2 : Int32), m5) else some (v3, m5))))
def fX12_allKnow_35 (F : Nat) : Nat → Int32 → Int32 → Int32 → zMem → Option zR
  | 0, _, _, _, _ => none
  | n + 1, v1, v2, v3, μ => zBd (fX12_knownByAll F μ) (fun r1 m1 => zBd (fX12_has F r1 v1 m1) (fun r2 m2 => if r2 = 0 then if v2 ≤ v3 then fX12_allKnow_76 F v1 v3 m2 else zG (nI 1045) 1047 (if (nI 9999) ≤ (m2 61 (nI 1045).toNatClampNeg) then fX12_allKnow_76 F v1 v3 m2 else zBd (fX12_weekGoes F m2) (fun r4 m4 => fX12_allKnow_35 F n v1 v2 (v3 + (nI 1)) m4)) else fX12_allKnow_76 F v1 v3 m2))
def fX12_allKnow (F : Nat) (v1 : Int32) (v2 : Int32) (μ : zMem) : Option zR :=
  zBd (fX12_in F v1 (nI 0) (nI 15) μ) (fun r1 m1 => if r1 = 0 then some ((-1 : Int32), m1) else zBd (fX12_in F v2 (nI 1) (nI 100) m1) (fun r2 m2 => if r2 = 0 then some ((-1 : Int32), m2) else zBd (fX12_copies F 61 62 m2) (fun r5 m5 => fX12_allKnow_35 F F v1 v2 (nI 0) m5)))
set_option maxRecDepth 20000 in
set_option maxHeartbeats 4000000 in
theorem wX12_allKnow_76 {X : zX} {F : Nat} (hC : zCx X RX12 cX12_allKnow 5 6) (hret : zRt X (some .int)) {v1 : Int32} {v3 : Int32} {μ : zMem} (hf : fX12_allKnow_76 F v1 v3 μ = some (zOut X)) : zAW X 76 [some (.ref 60), some (.int v1), none, some (.int v3), none] [] μ := by
  unfold fX12_allKnow_76 at hf
  refine zs_al hC dX12_allKnow_76 rfl ?_
  refine zs_callV [] hC cw_X12_knownByAll cl_RX12_302 zL60 rfl (by decide) rfl rfl (Nat.le_of_ble_eq_true rfl) dX12_allKnow_77 (fun _ h => ctX12_knownByAll h) (fun r1 m1 _ hf => ?_) hf
  show zAW X 80 _ (.int r1 :: _) m1
  refine zs_il hC dX12_allKnow_80 rfl ?_
  refine zs_callS [.int r1, .int v1] hC cw_X12_has cl_RX12_268 (by decide) rfl rfl (Nat.le_of_ble_eq_true rfl) dX12_allKnow_81 (fun _ h => ctX12_has h) (fun r2 m2 _ hf => ?_) hf
  show zAW X 84 _ (.int r2 :: _) m2
  refine zs_is hC dX12_allKnow_84 (by decide) rfl ?_
  refine zs_al hC dX12_allKnow_86 rfl ?_
  refine zs_getR 62 hC fl_RX12_13 zL60 rfl dX12_allKnow_87 ?_
  refine zs_al hC dX12_allKnow_90 rfl ?_
  refine zs_getR 61 hC fl_RX12_7 zL60 rfl dX12_allKnow_91 ?_
  refine zs_callS [.ref 62, .ref 61] hC cw_X12_copies cl_RX12_237 (by decide) rfl rfl (Nat.le_of_ble_eq_true rfl) dX12_allKnow_94 (fun _ h => ctX12_copies (by decide) (by decide) h) (fun r5 m5 _ hf => ?_) hf
  show zAW X 97 _ _ m5
  refine zs_il hC dX12_allKnow_97 rfl ?_
  refine zs_if_eq hC dX12_allKnow_99 (fun _ hf => ?_) (fun _ hf => ?_) hf
  · refine zs_k hC dX12_allKnow_106 ?_
    exact zs_iret hC hret dX12_allKnow_108 hf
  · refine zs_il hC dX12_allKnow_102 rfl ?_
    refine zs_goto hC dX12_allKnow_103 ?_
    exact zs_iret hC hret dX12_allKnow_108 hf
set_option maxRecDepth 20000 in
set_option maxHeartbeats 4000000 in
theorem wX12_allKnow_35 {X : zX} {F : Nat} (hC : zCx X RX12 cX12_allKnow 5 6) (hret : zRt X (some .int)) : ∀ (n : Nat) (v1 : Int32) (v2 : Int32) (v3 : Int32) (μ : zMem), fX12_allKnow_35 F n v1 v2 v3 μ = some (zOut X) → zAW X 35 [some (.ref 60), some (.int v1), some (.int v2), some (.int v3), none] [] μ := by
  intro n
  induction n with
  | zero =>
    intro v1 v2 v3 μ hf
    rw [fX12_allKnow_35] at hf
    cases hf
  | succ n ih =>
    intro v1 v2 v3 μ hf
    rw [fX12_allKnow_35] at hf
    refine zs_al hC dX12_allKnow_35 rfl ?_
    refine zs_callV [] hC cw_X12_knownByAll cl_RX12_302 zL60 rfl (by decide) rfl rfl (Nat.le_of_ble_eq_true rfl) dX12_allKnow_36 (fun _ h => ctX12_knownByAll h) (fun r1 m1 _ hf => ?_) hf
    show zAW X 39 _ (.int r1 :: _) m1
    refine zs_il hC dX12_allKnow_39 rfl ?_
    refine zs_callS [.int r1, .int v1] hC cw_X12_has cl_RX12_268 (by decide) rfl rfl (Nat.le_of_ble_eq_true rfl) dX12_allKnow_40 (fun _ h => ctX12_has h) (fun r2 m2 _ hf => ?_) hf
    show zAW X 43 _ (.int r2 :: _) m2
    refine zs_if_ne hC dX12_allKnow_43 (fun _ hf => ?_) (fun _ hf => ?_) hf
    · refine zs_il hC dX12_allKnow_46 rfl ?_
      refine zs_il hC dX12_allKnow_47 rfl ?_
      refine zs_ic_ge hC dX12_allKnow_48 (fun _ hf => ?_) (fun _ hf => ?_) hf
      · exact zAW.weak (wX12_allKnow_76 hC hret hf) (zLw_s (zLw_s (zLw_n (zLw_s (zLw_n zLw_0)))))
      · refine zs_al hC dX12_allKnow_51 rfl ?_
        refine zs_getR 61 hC fl_RX12_7 zL60 rfl dX12_allKnow_52 ?_
        refine zs_k hC dX12_allKnow_55 ?_
        refine zs_iald hC zL61 dX12_allKnow_58 (fun _ hf => ?_) hf
        refine zs_k hC dX12_allKnow_59 ?_
        refine zs_ic_ge hC dX12_allKnow_62 (fun _ hf => ?_) (fun _ hf => ?_) hf
        · exact zAW.weak (wX12_allKnow_76 hC hret hf) (zLw_s (zLw_s (zLw_n (zLw_s (zLw_n zLw_0)))))
        · refine zs_al hC dX12_allKnow_65 rfl ?_
          refine zs_callV [] hC cw_X12_weekGoes cl_RX12_290 zL60 rfl (by decide) rfl rfl (Nat.le_of_ble_eq_true rfl) dX12_allKnow_66 (fun _ h => ctX12_weekGoes h) (fun r4 m4 _ hf => ?_) hf
          show zAW X 69 _ _ m4
          refine zs_il hC dX12_allKnow_69 rfl ?_
          refine zs_k hC dX12_allKnow_70 ?_
          refine zs_iadd hC dX12_allKnow_71 ?_
          refine zs_is hC dX12_allKnow_72 (by decide) rfl ?_
          refine zs_goto hC dX12_allKnow_73 ?_
          exact zAW.weak (ih _ _ _ _ hf) (zLw_s (zLw_s (zLw_s (zLw_s (zLw_n zLw_0)))))
    · exact zAW.weak (wX12_allKnow_76 hC hret hf) (zLw_s (zLw_s (zLw_n (zLw_s (zLw_n zLw_0)))))
set_option maxRecDepth 20000 in
set_option maxHeartbeats 4000000 in
theorem wX12_allKnow {X : zX} {F : Nat} (hC : zCx X RX12 cX12_allKnow 5 6) (hret : zRt X (some .int)) {v1 : Int32} {v2 : Int32} {μ : zMem} (hf : fX12_allKnow F v1 v2 μ = some (zOut X)) : zAW X 0 [some (.ref 60), some (.int v1), some (.int v2), none, none] [] μ := by
  unfold fX12_allKnow at hf
  refine zs_il hC dX12_allKnow_0 rfl ?_
  refine zs_k hC dX12_allKnow_1 ?_
  refine zs_k hC dX12_allKnow_2 ?_
  refine zs_callS [.int v1, .int (nI 0), .int (nI 15)] hC cw_X12_in cl_RX12_96 (by decide) rfl rfl (Nat.le_of_ble_eq_true rfl) dX12_allKnow_4 (fun _ h => ctX12_in h) (fun r1 m1 _ hf => ?_) hf
  show zAW X 7 _ (.int r1 :: _) m1
  refine zs_if_eq hC dX12_allKnow_7 (fun _ hf => ?_) (fun _ hf => ?_) hf
  · refine zs_k hC dX12_allKnow_20 ?_
    exact zs_iret hC hret dX12_allKnow_21 hf
  · refine zs_il hC dX12_allKnow_10 rfl ?_
    refine zs_k hC dX12_allKnow_11 ?_
    refine zs_k hC dX12_allKnow_12 ?_
    refine zs_callS [.int v2, .int (nI 1), .int (nI 100)] hC cw_X12_in cl_RX12_96 (by decide) rfl rfl (Nat.le_of_ble_eq_true rfl) dX12_allKnow_14 (fun _ h => ctX12_in h) (fun r2 m2 _ hf => ?_) hf
    show zAW X 17 _ (.int r2 :: _) m2
    refine zs_if_ne hC dX12_allKnow_17 (fun _ hf => ?_) (fun _ hf => ?_) hf
    · refine zs_k hC dX12_allKnow_20 ?_
      exact zs_iret hC hret dX12_allKnow_21 hf
    · refine zs_al hC dX12_allKnow_22 rfl ?_
      refine zs_getR 61 hC fl_RX12_7 zL60 rfl dX12_allKnow_23 ?_
      refine zs_al hC dX12_allKnow_26 rfl ?_
      refine zs_getR 62 hC fl_RX12_13 zL60 rfl dX12_allKnow_27 ?_
      refine zs_callS [.ref 61, .ref 62] hC cw_X12_copies cl_RX12_237 (by decide) rfl rfl (Nat.le_of_ble_eq_true rfl) dX12_allKnow_30 (fun _ h => ctX12_copies (by decide) (by decide) h) (fun r5 m5 _ hf => ?_) hf
      show zAW X 33 _ _ m5
      refine zs_k hC dX12_allKnow_33 ?_
      refine zs_is hC dX12_allKnow_34 (by decide) rfl ?_
      exact zAW.weak (wX12_allKnow_35 hC hret F _ _ _ _ hf) (zLw_s (zLw_s (zLw_s (zLw_s (zLw_n zLw_0)))))
set_option maxRecDepth 20000 in
set_option maxHeartbeats 4000000 in
theorem ctX12_allKnow {E : zEV} {F : Nat} {v1 : Int32} {v2 : Int32} {μ : zMem} {out : zR} (hf : fX12_allKnow F v1 v2 μ = some out) : zCt E yX12_allKnow cX12_allKnow 5 (some .int) 6 [.ref 60, .int v1, .int v2] μ out :=
  zCt.of [some (.ref 60), some (.int v1), some (.int v2), none, none] (by decide +kernel) (Nat.le_of_ble_eq_true rfl) (zLw_s (zLw_s (zLw_s (zLw_e (zLw_e zLw_0))))) rfl (fun X hE ho hr hC => by
    subst hE; subst ho
    exact wX12_allKnow hC hr hf)
/-! X12_silent -/
def fX12_silent_30 (F : Nat) : Nat → Int32 → Int32 → Int32 → Int32 → zMem → Option zR
  | 0, _, _, _, _, _ => none
  | n + 1, v1, v2, v3, v4, μ => if v1 ≤ v4 then zBd (fX12_copies F 62 61 μ) (fun r3 m3 => some (v3, m3)) else zG (nI 1045) 1047 (if (nI 9999) ≤ (μ 61 (nI 1045).toNatClampNeg) then zBd (fX12_copies F 62 61 μ) (fun r7 m7 => some (v3, m7)) else zLt (zUp μ 60 34 (nI 0)) (fun m8 => zBd (fX12_weekGoes F m8) (fun r9 m9 => if (m9 60 34) ≤ 0 then zBd (fX12_max F v3 (v2 + (nI 1)) m9) (fun r11 m11 => fX12_silent_30 F n v1 (v2 + (nI 1)) r11 (v4 + (nI 1)) m11) else zBd (fX12_max F v3 (nI 0) m9) (fun r12 m12 => fX12_silent_30 F n v1 (nI 0) r12 (v4 + (nI 1)) m12))))
def fX12_silent (F : Nat) (v1 : Int32) (μ : zMem) : Option zR :=
  zBd (fX12_in F v1 (nI 1) (nI 100) μ) (fun r1 m1 => if r1 = 0 then some ((-1 : Int32), m1) else zBd (fX12_copies F 61 62 m1) (fun r4 m4 => fX12_silent_30 F F v1 (nI 0) (nI 0) (nI 0) m4))
set_option maxRecDepth 20000 in
set_option maxHeartbeats 4000000 in
theorem wX12_silent_30 {X : zX} {F : Nat} (hC : zCx X RX12 cX12_silent 5 6) (hret : zRt X (some .int)) : ∀ (n : Nat) (v1 : Int32) (v2 : Int32) (v3 : Int32) (v4 : Int32) (μ : zMem), fX12_silent_30 F n v1 v2 v3 v4 μ = some (zOut X) → zAW X 30 [some (.ref 60), some (.int v1), some (.int v2), some (.int v3), some (.int v4)] [] μ := by
  intro n
  induction n with
  | zero =>
    intro v1 v2 v3 v4 μ hf
    rw [fX12_silent_30] at hf
    cases hf
  | succ n ih =>
    intro v1 v2 v3 v4 μ hf
    rw [fX12_silent_30] at hf
    refine zs_il hC dX12_silent_30 rfl ?_
    refine zs_il hC dX12_silent_32 rfl ?_
    refine zs_ic_ge hC dX12_silent_33 (fun _ hf => ?_) (fun _ hf => ?_) hf
    · refine zs_al hC dX12_silent_86 rfl ?_
      refine zs_getR 62 hC fl_RX12_13 zL60 rfl dX12_silent_87 ?_
      refine zs_al hC dX12_silent_90 rfl ?_
      refine zs_getR 61 hC fl_RX12_7 zL60 rfl dX12_silent_91 ?_
      refine zs_callS [.ref 62, .ref 61] hC cw_X12_copies cl_RX12_237 (by decide) rfl rfl (Nat.le_of_ble_eq_true rfl) dX12_silent_94 (fun _ h => ctX12_copies (by decide) (by decide) h) (fun r3 m3 _ hf => ?_) hf
      show zAW X 97 _ _ m3
      refine zs_il hC dX12_silent_97 rfl ?_
      exact zs_iret hC hret dX12_silent_98 hf
    · refine zs_al hC dX12_silent_36 rfl ?_
      refine zs_getR 61 hC fl_RX12_7 zL60 rfl dX12_silent_37 ?_
      refine zs_k hC dX12_silent_40 ?_
      refine zs_iald hC zL61 dX12_silent_43 (fun _ hf => ?_) hf
      refine zs_k hC dX12_silent_44 ?_
      refine zs_ic_ge hC dX12_silent_47 (fun _ hf => ?_) (fun _ hf => ?_) hf
      · refine zs_al hC dX12_silent_86 rfl ?_
        refine zs_getR 62 hC fl_RX12_13 zL60 rfl dX12_silent_87 ?_
        refine zs_al hC dX12_silent_90 rfl ?_
        refine zs_getR 61 hC fl_RX12_7 zL60 rfl dX12_silent_91 ?_
        refine zs_callS [.ref 62, .ref 61] hC cw_X12_copies cl_RX12_237 (by decide) rfl rfl (Nat.le_of_ble_eq_true rfl) dX12_silent_94 (fun _ h => ctX12_copies (by decide) (by decide) h) (fun r7 m7 _ hf => ?_) hf
        show zAW X 97 _ _ m7
        refine zs_il hC dX12_silent_97 rfl ?_
        exact zs_iret hC hret dX12_silent_98 hf
      · refine zs_al hC dX12_silent_50 rfl ?_
        refine zs_k hC dX12_silent_51 ?_
        refine zs_putI hC fl_RX12_259 fp_12_34 zL60 rfl dX12_silent_52 ?_
        refine zs_let (fun m8 _ hf => ?_) hf
        refine zs_al hC dX12_silent_55 rfl ?_
        refine zs_callV [] hC cw_X12_weekGoes cl_RX12_290 zL60 rfl (by decide) rfl rfl (Nat.le_of_ble_eq_true rfl) dX12_silent_56 (fun _ h => ctX12_weekGoes h) (fun r9 m9 _ hf => ?_) hf
        show zAW X 59 _ _ m9
        refine zs_al hC dX12_silent_59 rfl ?_
        refine zs_getI hC fl_RX12_259 zL60 rfl dX12_silent_60 ?_
        refine zs_if_le hC dX12_silent_63 (fun _ hf => ?_) (fun _ hf => ?_) hf
        · refine zs_il hC dX12_silent_70 rfl ?_
          refine zs_k hC dX12_silent_71 ?_
          refine zs_iadd hC dX12_silent_72 ?_
          refine zs_is hC dX12_silent_73 (by decide) rfl ?_
          refine zs_il hC dX12_silent_74 rfl ?_
          refine zs_il hC dX12_silent_75 rfl ?_
          refine zs_callS [.int v3, .int (v2 + (nI 1))] hC cw_X12_max cl_RX12_305 (by decide) rfl rfl (Nat.le_of_ble_eq_true rfl) dX12_silent_76 (fun _ h => ctX12_max h) (fun r11 m11 _ hf => ?_) hf
          show zAW X 79 _ (.int r11 :: _) m11
          refine zs_is hC dX12_silent_79 (by decide) rfl ?_
          refine zs_iinc (nI 1) hC dX12_silent_80 (by decide) rfl (by decide) rfl ?_
          refine zs_goto hC dX12_silent_83 ?_
          exact zAW.weak (ih _ _ _ _ _ hf) (zLw_s (zLw_s (zLw_s (zLw_s (zLw_s zLw_0)))))
        · refine zs_k hC dX12_silent_66 ?_
          refine zs_goto hC dX12_silent_67 ?_
          refine zs_is hC dX12_silent_73 (by decide) rfl ?_
          refine zs_il hC dX12_silent_74 rfl ?_
          refine zs_il hC dX12_silent_75 rfl ?_
          refine zs_callS [.int v3, .int (nI 0)] hC cw_X12_max cl_RX12_305 (by decide) rfl rfl (Nat.le_of_ble_eq_true rfl) dX12_silent_76 (fun _ h => ctX12_max h) (fun r12 m12 _ hf => ?_) hf
          show zAW X 79 _ (.int r12 :: _) m12
          refine zs_is hC dX12_silent_79 (by decide) rfl ?_
          refine zs_iinc (nI 1) hC dX12_silent_80 (by decide) rfl (by decide) rfl ?_
          refine zs_goto hC dX12_silent_83 ?_
          exact zAW.weak (ih _ _ _ _ _ hf) (zLw_s (zLw_s (zLw_s (zLw_s (zLw_s zLw_0)))))
set_option maxRecDepth 20000 in
set_option maxHeartbeats 4000000 in
theorem wX12_silent {X : zX} {F : Nat} (hC : zCx X RX12 cX12_silent 5 6) (hret : zRt X (some .int)) {v1 : Int32} {μ : zMem} (hf : fX12_silent F v1 μ = some (zOut X)) : zAW X 0 [some (.ref 60), some (.int v1), none, none, none] [] μ := by
  unfold fX12_silent at hf
  refine zs_il hC dX12_silent_0 rfl ?_
  refine zs_k hC dX12_silent_1 ?_
  refine zs_k hC dX12_silent_2 ?_
  refine zs_callS [.int v1, .int (nI 1), .int (nI 100)] hC cw_X12_in cl_RX12_96 (by decide) rfl rfl (Nat.le_of_ble_eq_true rfl) dX12_silent_4 (fun _ h => ctX12_in h) (fun r1 m1 _ hf => ?_) hf
  show zAW X 7 _ (.int r1 :: _) m1
  refine zs_if_ne hC dX12_silent_7 (fun _ hf => ?_) (fun _ hf => ?_) hf
  · refine zs_k hC dX12_silent_10 ?_
    exact zs_iret hC hret dX12_silent_11 hf
  · refine zs_al hC dX12_silent_12 rfl ?_
    refine zs_getR 61 hC fl_RX12_7 zL60 rfl dX12_silent_13 ?_
    refine zs_al hC dX12_silent_16 rfl ?_
    refine zs_getR 62 hC fl_RX12_13 zL60 rfl dX12_silent_17 ?_
    refine zs_callS [.ref 61, .ref 62] hC cw_X12_copies cl_RX12_237 (by decide) rfl rfl (Nat.le_of_ble_eq_true rfl) dX12_silent_20 (fun _ h => ctX12_copies (by decide) (by decide) h) (fun r4 m4 _ hf => ?_) hf
    show zAW X 23 _ _ m4
    refine zs_k hC dX12_silent_23 ?_
    refine zs_is hC dX12_silent_24 (by decide) rfl ?_
    refine zs_k hC dX12_silent_25 ?_
    refine zs_is hC dX12_silent_26 (by decide) rfl ?_
    refine zs_k hC dX12_silent_27 ?_
    refine zs_is hC dX12_silent_28 (by decide) rfl ?_
    exact zAW.weak (wX12_silent_30 hC hret F _ _ _ _ _ hf) (zLw_s (zLw_s (zLw_s (zLw_s (zLw_s zLw_0)))))
set_option maxRecDepth 20000 in
set_option maxHeartbeats 4000000 in
theorem ctX12_silent {E : zEV} {F : Nat} {v1 : Int32} {μ : zMem} {out : zR} (hf : fX12_silent F v1 μ = some out) : zCt E yX12_silent cX12_silent 5 (some .int) 6 [.ref 60, .int v1] μ out :=
  zCt.of [some (.ref 60), some (.int v1), none, none, none] (by decide +kernel) (Nat.le_of_ble_eq_true rfl) (zLw_s (zLw_s (zLw_e (zLw_e (zLw_e zLw_0))))) rfl (fun X hE ho hr hC => by
    subst hE; subst ho
    exact wX12_silent hC hr hf)
/-! X12_whose -/
def fX12_whose_16 (F : Nat) : Nat → Int32 → Int32 → Int32 → zMem → Option zR
  | 0, _, _, _, _ => none
  | n + 1, v1, v2, v3, μ => if (nI 16) ≤ v3 then some (v2, μ) else zBd (fX12_isTold F v3 μ) (fun r1 m1 => if r1 = 0 then fX12_whose_16 F n v1 v2 (v3 + (nI 1)) m1 else zG ((nI 16) + v3) 1047 (zBd (fX12_has F (m1 61 ((nI 16) + v3).toNatClampNeg) v1 m1) (fun r3 m3 => if r3 = 0 then fX12_whose_16 F n v1 v2 (v3 + (nI 1)) m3 else fX12_whose_16 F n v1 (v2 ||| ((nI 1) <<< (v3 &&& 31))) (v3 + (nI 1)) m3)))
def fX12_whose (F : Nat) (v1 : Int32) (μ : zMem) : Option zR :=
  zBd (fX12_in F v1 (nI 0) (nI 15) μ) (fun r1 m1 => if r1 = 0 then some ((-1 : Int32), m1) else fX12_whose_16 F F v1 (nI 0) (nI 0) m1)
set_option maxRecDepth 20000 in
set_option maxHeartbeats 4000000 in
theorem wX12_whose_16 {X : zX} {F : Nat} (hC : zCx X RX12 cX12_whose 4 2) (hret : zRt X (some .int)) : ∀ (n : Nat) (v1 : Int32) (v2 : Int32) (v3 : Int32) (μ : zMem), fX12_whose_16 F n v1 v2 v3 μ = some (zOut X) → zAW X 16 [some (.ref 60), some (.int v1), some (.int v2), some (.int v3)] [] μ := by
  intro n
  induction n with
  | zero =>
    intro v1 v2 v3 μ hf
    rw [fX12_whose_16] at hf
    cases hf
  | succ n ih =>
    intro v1 v2 v3 μ hf
    rw [fX12_whose_16] at hf
    refine zs_il hC dX12_whose_16 rfl ?_
    refine zs_k hC dX12_whose_17 ?_
    refine zs_ic_ge hC dX12_whose_19 (fun _ hf => ?_) (fun _ hf => ?_) hf
    · refine zs_il hC dX12_whose_58 rfl ?_
      exact zs_iret hC hret dX12_whose_59 hf
    · refine zs_al hC dX12_whose_22 rfl ?_
      refine zs_il hC dX12_whose_23 rfl ?_
      refine zs_callV [.int v3] hC cw_X12_isTold cl_RX12_100 zL60 rfl (by decide) rfl rfl (Nat.le_of_ble_eq_true rfl) dX12_whose_24 (fun _ h => ctX12_isTold h) (fun r1 m1 _ hf => ?_) hf
      show zAW X 27 _ (.int r1 :: _) m1
      refine zs_if_eq hC dX12_whose_27 (fun _ hf => ?_) (fun _ hf => ?_) hf
      · refine zs_iinc (nI 1) hC dX12_whose_52 (by decide) rfl (by decide) rfl ?_
        refine zs_goto hC dX12_whose_55 ?_
        exact zAW.weak (ih _ _ _ _ hf) (zLw_s (zLw_s (zLw_s (zLw_s zLw_0))))
      · refine zs_al hC dX12_whose_30 rfl ?_
        refine zs_getR 61 hC fl_RX12_7 zL60 rfl dX12_whose_31 ?_
        refine zs_k hC dX12_whose_34 ?_
        refine zs_il hC dX12_whose_36 rfl ?_
        refine zs_iadd hC dX12_whose_37 ?_
        refine zs_iald hC zL61 dX12_whose_38 (fun _ hf => ?_) hf
        refine zs_il hC dX12_whose_39 rfl ?_
        refine zs_callS [.int (m1 61 ((nI 16) + v3).toNatClampNeg), .int v1] hC cw_X12_has cl_RX12_268 (by decide) rfl rfl (Nat.le_of_ble_eq_true rfl) dX12_whose_40 (fun _ h => ctX12_has h) (fun r3 m3 _ hf => ?_) hf
        show zAW X 43 _ (.int r3 :: _) m3
        refine zs_if_eq hC dX12_whose_43 (fun _ hf => ?_) (fun _ hf => ?_) hf
        · refine zs_iinc (nI 1) hC dX12_whose_52 (by decide) rfl (by decide) rfl ?_
          refine zs_goto hC dX12_whose_55 ?_
          exact zAW.weak (ih _ _ _ _ hf) (zLw_s (zLw_s (zLw_s (zLw_s zLw_0))))
        · refine zs_il hC dX12_whose_46 rfl ?_
          refine zs_k hC dX12_whose_47 ?_
          refine zs_il hC dX12_whose_48 rfl ?_
          refine zs_ishl hC dX12_whose_49 ?_
          refine zs_ior hC dX12_whose_50 ?_
          refine zs_is hC dX12_whose_51 (by decide) rfl ?_
          refine zs_iinc (nI 1) hC dX12_whose_52 (by decide) rfl (by decide) rfl ?_
          refine zs_goto hC dX12_whose_55 ?_
          exact zAW.weak (ih _ _ _ _ hf) (zLw_s (zLw_s (zLw_s (zLw_s zLw_0))))
set_option maxRecDepth 20000 in
set_option maxHeartbeats 4000000 in
theorem wX12_whose {X : zX} {F : Nat} (hC : zCx X RX12 cX12_whose 4 2) (hret : zRt X (some .int)) {v1 : Int32} {μ : zMem} (hf : fX12_whose F v1 μ = some (zOut X)) : zAW X 0 [some (.ref 60), some (.int v1), none, none] [] μ := by
  unfold fX12_whose at hf
  refine zs_il hC dX12_whose_0 rfl ?_
  refine zs_k hC dX12_whose_1 ?_
  refine zs_k hC dX12_whose_2 ?_
  refine zs_callS [.int v1, .int (nI 0), .int (nI 15)] hC cw_X12_in cl_RX12_96 (by decide) rfl rfl (Nat.le_of_ble_eq_true rfl) dX12_whose_4 (fun _ h => ctX12_in h) (fun r1 m1 _ hf => ?_) hf
  show zAW X 7 _ (.int r1 :: _) m1
  refine zs_if_ne hC dX12_whose_7 (fun _ hf => ?_) (fun _ hf => ?_) hf
  · refine zs_k hC dX12_whose_10 ?_
    exact zs_iret hC hret dX12_whose_11 hf
  · refine zs_k hC dX12_whose_12 ?_
    refine zs_is hC dX12_whose_13 (by decide) rfl ?_
    refine zs_k hC dX12_whose_14 ?_
    refine zs_is hC dX12_whose_15 (by decide) rfl ?_
    exact zAW.weak (wX12_whose_16 hC hret F _ _ _ _ hf) (zLw_s (zLw_s (zLw_s (zLw_s zLw_0))))
set_option maxRecDepth 20000 in
set_option maxHeartbeats 4000000 in
theorem ctX12_whose {E : zEV} {F : Nat} {v1 : Int32} {μ : zMem} {out : zR} (hf : fX12_whose F v1 μ = some out) : zCt E yX12_whose cX12_whose 4 (some .int) 2 [.ref 60, .int v1] μ out :=
  zCt.of [some (.ref 60), some (.int v1), none, none] (by decide +kernel) (Nat.le_of_ble_eq_true rfl) (zLw_s (zLw_s (zLw_e (zLw_e zLw_0)))) rfl (fun X hE ho hr hC => by
    subst hE; subst ho
    exact wX12_whose hC hr hf)
/-! X12_alone -/
def fX12_alone_4 (F : Nat) : Nat → Int32 → Int32 → zMem → Option zR
  | 0, _, _, _ => none
  | n + 1, v1, v2, μ => if (nI 16) ≤ v2 then some (v1, μ) else zBd (fX12_whose F v2 μ) (fun r1 m1 => zBd (fX12_bits F r1 m1) (fun r2 m2 => if r2 = (nI 1) then zBd (fX12_whose F v2 m2) (fun r3 m3 => fX12_alone_4 F n (v1 ||| r3) (v2 + (nI 1)) m3) else fX12_alone_4 F n v1 (v2 + (nI 1)) m2))
def fX12_alone (F : Nat) (μ : zMem) : Option zR :=
  fX12_alone_4 F F (nI 0) (nI 0) μ
set_option maxRecDepth 20000 in
set_option maxHeartbeats 4000000 in
theorem wX12_alone_4 {X : zX} {F : Nat} (hC : zCx X RX12 cX12_alone 3 3) (hret : zRt X (some .int)) : ∀ (n : Nat) (v1 : Int32) (v2 : Int32) (μ : zMem), fX12_alone_4 F n v1 v2 μ = some (zOut X) → zAW X 4 [some (.ref 60), some (.int v1), some (.int v2)] [] μ := by
  intro n
  induction n with
  | zero =>
    intro v1 v2 μ hf
    rw [fX12_alone_4] at hf
    cases hf
  | succ n ih =>
    intro v1 v2 μ hf
    rw [fX12_alone_4] at hf
    refine zs_il hC dX12_alone_4 rfl ?_
    refine zs_k hC dX12_alone_5 ?_
    refine zs_ic_ge hC dX12_alone_7 (fun _ hf => ?_) (fun _ hf => ?_) hf
    · refine zs_il hC dX12_alone_36 rfl ?_
      exact zs_iret hC hret dX12_alone_37 hf
    · refine zs_al hC dX12_alone_10 rfl ?_
      refine zs_il hC dX12_alone_11 rfl ?_
      refine zs_callV [.int v2] hC cw_X12_whose cl_RX12_308 zL60 rfl (by decide) rfl rfl (Nat.le_of_ble_eq_true rfl) dX12_alone_12 (fun _ h => ctX12_whose h) (fun r1 m1 _ hf => ?_) hf
      show zAW X 15 _ (.int r1 :: _) m1
      refine zs_callS [.int r1] hC cw_X12_bits cl_RX12_218 (by decide) rfl rfl (Nat.le_of_ble_eq_true rfl) dX12_alone_15 (fun _ h => ctX12_bits h) (fun r2 m2 _ hf => ?_) hf
      show zAW X 18 _ (.int r2 :: _) m2
      refine zs_k hC dX12_alone_18 ?_
      refine zs_ic_ne hC dX12_alone_19 (fun _ hf => ?_) (fun _ hf => ?_) hf
      · refine zs_il hC dX12_alone_22 rfl ?_
        refine zs_al hC dX12_alone_23 rfl ?_
        refine zs_il hC dX12_alone_24 rfl ?_
        refine zs_callV [.int v2] hC cw_X12_whose cl_RX12_308 zL60 rfl (by decide) rfl rfl (Nat.le_of_ble_eq_true rfl) dX12_alone_25 (fun _ h => ctX12_whose h) (fun r3 m3 _ hf => ?_) hf
        show zAW X 28 _ (.int r3 :: _) m3
        refine zs_ior hC dX12_alone_28 ?_
        refine zs_is hC dX12_alone_29 (by decide) rfl ?_
        refine zs_iinc (nI 1) hC dX12_alone_30 (by decide) rfl (by decide) rfl ?_
        refine zs_goto hC dX12_alone_33 ?_
        exact zAW.weak (ih _ _ _ hf) (zLw_s (zLw_s (zLw_s zLw_0)))
      · refine zs_iinc (nI 1) hC dX12_alone_30 (by decide) rfl (by decide) rfl ?_
        refine zs_goto hC dX12_alone_33 ?_
        exact zAW.weak (ih _ _ _ hf) (zLw_s (zLw_s (zLw_s zLw_0)))
set_option maxRecDepth 20000 in
set_option maxHeartbeats 4000000 in
theorem wX12_alone {X : zX} {F : Nat} (hC : zCx X RX12 cX12_alone 3 3) (hret : zRt X (some .int)) {μ : zMem} (hf : fX12_alone F μ = some (zOut X)) : zAW X 0 [some (.ref 60), none, none] [] μ := by
  unfold fX12_alone at hf
  refine zs_k hC dX12_alone_0 ?_
  refine zs_is hC dX12_alone_1 (by decide) rfl ?_
  refine zs_k hC dX12_alone_2 ?_
  refine zs_is hC dX12_alone_3 (by decide) rfl ?_
  exact zAW.weak (wX12_alone_4 hC hret F _ _ _ hf) (zLw_s (zLw_s (zLw_s zLw_0)))
set_option maxRecDepth 20000 in
set_option maxHeartbeats 4000000 in
theorem ctX12_alone {E : zEV} {F : Nat} {μ : zMem} {out : zR} (hf : fX12_alone F μ = some out) : zCt E yX12_alone cX12_alone 3 (some .int) 3 [.ref 60] μ out :=
  zCt.of [some (.ref 60), none, none] (by decide +kernel) (Nat.le_of_ble_eq_true rfl) (zLw_s (zLw_e (zLw_e zLw_0))) rfl (fun X hE ho hr hC => by
    subst hE; subst ho
    exact wX12_alone hC hr hf)
/-! X12_enough -/
def fX12_enough_100 (F : Nat) (k27 : Int32 → Int32 → Int32 → Int32 → Int32 → zMem → Option zR) (v1 : Int32) (v2 : Int32) (v3 : Int32) (v4 : Int32) (v5 : Int32) (s0 : Int32) (s1 : Int32) (μ : zMem) : Option zR :=
  zG s1 65536 (zLt (zUp μ 82 s1.toNatClampNeg s0) (fun m1 => if (v5 &&& (v2 ^^^ (-1 : Int32))) = 0 then zG v5 65536 (if (m1 82 v5.toNatClampNeg) = v3 then zBd (fX12_bits F v5 m1) (fun r3 m3 => zBd (fX12_bits F v4 m3) (fun r4 m4 => if r3 < r4 then k27 v1 v2 v3 v5 (v5 + (nI 1)) m4 else zBd (fX12_bits F v5 m4) (fun r5 m5 => zBd (fX12_bits F v4 m5) (fun r6 m6 => if r5 = r6 then if v4 ≤ v5 then k27 v1 v2 v3 v4 (v5 + (nI 1)) m6 else k27 v1 v2 v3 v5 (v5 + (nI 1)) m6 else k27 v1 v2 v3 v4 (v5 + (nI 1)) m6)))) else k27 v1 v2 v3 v4 (v5 + (nI 1)) m1) else k27 v1 v2 v3 v4 (v5 + (nI 1)) m1))
def fX12_enough_62 (F : Nat) (k27 : Int32 → Int32 → Int32 → Int32 → Int32 → zMem → Option zR) (v1 : Int32) (v2 : Int32) (v3 : Int32) (v4 : Int32) (v5 : Int32) (v6 : Int32) (μ : zMem) : Option zR :=
  if v5 = 0 then fX12_enough_100 F k27 v1 v2 v3 v4 v5 (nI 0) v5 μ else zG (v5 &&& (v5 - (nI 1))) 65536 (zG ((nI 16) + v6) 1047 (fX12_enough_100 F k27 v1 v2 v3 v4 v5 ((μ 82 (v5 &&& (v5 - (nI 1))).toNatClampNeg) ||| (μ 61 ((nI 16) + v6).toNatClampNeg)) v5 μ))
def fX12_enough_36 (F : Nat) (k27 : Int32 → Int32 → Int32 → Int32 → Int32 → zMem → Option zR) : Nat → Int32 → Int32 → Int32 → Int32 → Int32 → Int32 → zMem → Option zR
  | 0, _, _, _, _, _, _, _ => none
  | n + 1, v1, v2, v3, v4, v5, v6, μ => if (nI 15) ≤ v6 then fX12_enough_62 F k27 v1 v2 v3 v4 v5 v6 μ else zBd (fX12_has F v5 v6 μ) (fun r1 m1 => if r1 = 0 then fX12_enough_36 F k27 n v1 v2 v3 v4 v5 (v6 + (nI 1)) m1 else fX12_enough_62 F k27 v1 v2 v3 v4 v5 v6 m1)
def fX12_enough_27 (F : Nat) : Nat → Int32 → Int32 → Int32 → Int32 → Int32 → zMem → Option zR
  | 0, _, _, _, _, _, _ => none
  | n + 1, v1, v2, v3, v4, v5, μ => if v2 < v5 then if v1 = 0 then zBd (fX12_bits F v4 μ) (fun r1 m1 => some (r1, m1)) else some (v4, μ) else fX12_enough_36 F (fX12_enough_27 F n) F v1 v2 v3 v4 v5 (nI 0) μ
def fX12_enough (F : Nat) (v1 : Int32) (μ : zMem) : Option zR :=
  zBd (fX12_in F v1 (nI 0) (nI 1) μ) (fun r1 m1 => if r1 = 0 then some ((-1 : Int32), m1) else zBd (fX12_toldSet F m1) (fun r2 m2 => zBd (fX12_knownByAny F m2) (fun r3 m3 => fX12_enough_27 F F v1 r2 r3 r2 (nI 0) m3)))
set_option maxRecDepth 20000 in
set_option maxHeartbeats 4000000 in
theorem wX12_enough_100 {X : zX} {F : Nat} (hC : zCx X RX12 cX12_enough 7 3) (hret : zRt X (some .int)) {k27 : Int32 → Int32 → Int32 → Int32 → Int32 → zMem → Option zR} (hk27 : ∀ v1 v2 v3 v4 v5 μ, k27 v1 v2 v3 v4 v5 μ = some (zOut X) → zAW X 27 [some (.ref 60), some (.int v1), some (.int v2), some (.int v3), some (.int v4), some (.int v5), none] [] μ) {v1 : Int32} {v2 : Int32} {v3 : Int32} {v4 : Int32} {v5 : Int32} {s0 : Int32} {s1 : Int32} {μ : zMem} (hf : fX12_enough_100 F k27 v1 v2 v3 v4 v5 s0 s1 μ = some (zOut X)) : zAW X 100 [some (.ref 60), some (.int v1), some (.int v2), some (.int v3), some (.int v4), some (.int v5), none] [.int s0, .int s1, .ref 82] μ := by
  unfold fX12_enough_100 at hf
  refine zs_iast hC zL82 dX12_enough_100 (fun _ hf => ?_) hf
  refine zs_let (fun m1 _ hf => ?_) hf
  refine zs_il hC dX12_enough_101 rfl ?_
  refine zs_il hC dX12_enough_103 rfl ?_
  refine zs_k hC dX12_enough_104 ?_
  refine zs_ixor hC dX12_enough_105 ?_
  refine zs_iand hC dX12_enough_106 ?_
  refine zs_if_ne hC dX12_enough_107 (fun _ hf => ?_) (fun _ hf => ?_) hf
  · refine zs_al hC dX12_enough_110 rfl ?_
    refine zs_getR 82 hC fl_RX12_75 zL60 rfl dX12_enough_111 ?_
    refine zs_il hC dX12_enough_114 rfl ?_
    refine zs_iald hC zL82 dX12_enough_116 (fun _ hf => ?_) hf
    refine zs_il hC dX12_enough_117 rfl ?_
    refine zs_ic_eq hC dX12_enough_118 (fun _ hf => ?_) (fun _ hf => ?_) hf
    · refine zs_il hC dX12_enough_124 rfl ?_
      refine zs_callS [.int v5] hC cw_X12_bits cl_RX12_218 (by decide) rfl rfl (Nat.le_of_ble_eq_true rfl) dX12_enough_126 (fun _ h => ctX12_bits h) (fun r3 m3 _ hf => ?_) hf
      show zAW X 129 _ (.int r3 :: _) m3
      refine zs_il hC dX12_enough_129 rfl ?_
      refine zs_callS [.int v4] hC cw_X12_bits cl_RX12_218 (by decide) rfl rfl (Nat.le_of_ble_eq_true rfl) dX12_enough_131 (fun _ h => ctX12_bits h) (fun r4 m4 _ hf => ?_) hf
      show zAW X 134 _ (.int r4 :: _) m4
      refine zs_ic_lt hC dX12_enough_134 (fun _ hf => ?_) (fun _ hf => ?_) hf
      · refine zs_il hC dX12_enough_157 rfl ?_
        refine zs_is hC dX12_enough_159 (by decide) rfl ?_
        refine zs_iinc (nI 1) hC dX12_enough_161 (by decide) rfl (by decide) rfl ?_
        refine zs_goto hC dX12_enough_164 ?_
        exact zAW.weak (hk27 _ _ _ _ _ _ hf) (zLw_s (zLw_s (zLw_s (zLw_s (zLw_s (zLw_s (zLw_n zLw_0)))))))
      · refine zs_il hC dX12_enough_137 rfl ?_
        refine zs_callS [.int v5] hC cw_X12_bits cl_RX12_218 (by decide) rfl rfl (Nat.le_of_ble_eq_true rfl) dX12_enough_139 (fun _ h => ctX12_bits h) (fun r5 m5 _ hf => ?_) hf
        show zAW X 142 _ (.int r5 :: _) m5
        refine zs_il hC dX12_enough_142 rfl ?_
        refine zs_callS [.int v4] hC cw_X12_bits cl_RX12_218 (by decide) rfl rfl (Nat.le_of_ble_eq_true rfl) dX12_enough_144 (fun _ h => ctX12_bits h) (fun r6 m6 _ hf => ?_) hf
        show zAW X 147 _ (.int r6 :: _) m6
        refine zs_ic_ne hC dX12_enough_147 (fun _ hf => ?_) (fun _ hf => ?_) hf
        · refine zs_il hC dX12_enough_150 rfl ?_
          refine zs_il hC dX12_enough_152 rfl ?_
          refine zs_ic_ge hC dX12_enough_154 (fun _ hf => ?_) (fun _ hf => ?_) hf
          · refine zs_iinc (nI 1) hC dX12_enough_161 (by decide) rfl (by decide) rfl ?_
            refine zs_goto hC dX12_enough_164 ?_
            exact zAW.weak (hk27 _ _ _ _ _ _ hf) (zLw_s (zLw_s (zLw_s (zLw_s (zLw_s (zLw_s (zLw_n zLw_0)))))))
          · refine zs_il hC dX12_enough_157 rfl ?_
            refine zs_is hC dX12_enough_159 (by decide) rfl ?_
            refine zs_iinc (nI 1) hC dX12_enough_161 (by decide) rfl (by decide) rfl ?_
            refine zs_goto hC dX12_enough_164 ?_
            exact zAW.weak (hk27 _ _ _ _ _ _ hf) (zLw_s (zLw_s (zLw_s (zLw_s (zLw_s (zLw_s (zLw_n zLw_0)))))))
        · refine zs_iinc (nI 1) hC dX12_enough_161 (by decide) rfl (by decide) rfl ?_
          refine zs_goto hC dX12_enough_164 ?_
          exact zAW.weak (hk27 _ _ _ _ _ _ hf) (zLw_s (zLw_s (zLw_s (zLw_s (zLw_s (zLw_s (zLw_n zLw_0)))))))
    · refine zs_goto hC dX12_enough_121 ?_
      refine zs_iinc (nI 1) hC dX12_enough_161 (by decide) rfl (by decide) rfl ?_
      refine zs_goto hC dX12_enough_164 ?_
      exact zAW.weak (hk27 _ _ _ _ _ _ hf) (zLw_s (zLw_s (zLw_s (zLw_s (zLw_s (zLw_s (zLw_n zLw_0)))))))
  · refine zs_iinc (nI 1) hC dX12_enough_161 (by decide) rfl (by decide) rfl ?_
    refine zs_goto hC dX12_enough_164 ?_
    exact zAW.weak (hk27 _ _ _ _ _ _ hf) (zLw_s (zLw_s (zLw_s (zLw_s (zLw_s (zLw_s (zLw_n zLw_0)))))))
set_option maxRecDepth 20000 in
set_option maxHeartbeats 4000000 in
theorem wX12_enough_62 {X : zX} {F : Nat} (hC : zCx X RX12 cX12_enough 7 3) (hret : zRt X (some .int)) {k27 : Int32 → Int32 → Int32 → Int32 → Int32 → zMem → Option zR} (hk27 : ∀ v1 v2 v3 v4 v5 μ, k27 v1 v2 v3 v4 v5 μ = some (zOut X) → zAW X 27 [some (.ref 60), some (.int v1), some (.int v2), some (.int v3), some (.int v4), some (.int v5), none] [] μ) {v1 : Int32} {v2 : Int32} {v3 : Int32} {v4 : Int32} {v5 : Int32} {v6 : Int32} {μ : zMem} (hf : fX12_enough_62 F k27 v1 v2 v3 v4 v5 v6 μ = some (zOut X)) : zAW X 62 [some (.ref 60), some (.int v1), some (.int v2), some (.int v3), some (.int v4), some (.int v5), some (.int v6)] [] μ := by
  unfold fX12_enough_62 at hf
  refine zs_al hC dX12_enough_62 rfl ?_
  refine zs_getR 82 hC fl_RX12_75 zL60 rfl dX12_enough_63 ?_
  refine zs_il hC dX12_enough_66 rfl ?_
  refine zs_il hC dX12_enough_68 rfl ?_
  refine zs_if_ne hC dX12_enough_70 (fun _ hf => ?_) (fun _ hf => ?_) hf
  · refine zs_k hC dX12_enough_73 ?_
    refine zs_goto hC dX12_enough_74 ?_
    exact zAW.weak (wX12_enough_100 hC hret hk27 hf) (zLw_s (zLw_s (zLw_s (zLw_s (zLw_s (zLw_s (zLw_n zLw_0)))))))
  · refine zs_al hC dX12_enough_77 rfl ?_
    refine zs_getR 82 hC fl_RX12_75 zL60 rfl dX12_enough_78 ?_
    refine zs_il hC dX12_enough_81 rfl ?_
    refine zs_il hC dX12_enough_83 rfl ?_
    refine zs_k hC dX12_enough_85 ?_
    refine zs_isub hC dX12_enough_86 ?_
    refine zs_iand hC dX12_enough_87 ?_
    refine zs_iald hC zL82 dX12_enough_88 (fun _ hf => ?_) hf
    refine zs_al hC dX12_enough_89 rfl ?_
    refine zs_getR 61 hC fl_RX12_7 zL60 rfl dX12_enough_90 ?_
    refine zs_k hC dX12_enough_93 ?_
    refine zs_il hC dX12_enough_95 rfl ?_
    refine zs_iadd hC dX12_enough_97 ?_
    refine zs_iald hC zL61 dX12_enough_98 (fun _ hf => ?_) hf
    refine zs_ior hC dX12_enough_99 ?_
    exact zAW.weak (wX12_enough_100 hC hret hk27 hf) (zLw_s (zLw_s (zLw_s (zLw_s (zLw_s (zLw_s (zLw_n zLw_0)))))))
set_option maxRecDepth 20000 in
set_option maxHeartbeats 4000000 in
theorem wX12_enough_36 {X : zX} {F : Nat} (hC : zCx X RX12 cX12_enough 7 3) (hret : zRt X (some .int)) {k27 : Int32 → Int32 → Int32 → Int32 → Int32 → zMem → Option zR} (hk27 : ∀ v1 v2 v3 v4 v5 μ, k27 v1 v2 v3 v4 v5 μ = some (zOut X) → zAW X 27 [some (.ref 60), some (.int v1), some (.int v2), some (.int v3), some (.int v4), some (.int v5), none] [] μ) : ∀ (n : Nat) (v1 : Int32) (v2 : Int32) (v3 : Int32) (v4 : Int32) (v5 : Int32) (v6 : Int32) (μ : zMem), fX12_enough_36 F k27 n v1 v2 v3 v4 v5 v6 μ = some (zOut X) → zAW X 36 [some (.ref 60), some (.int v1), some (.int v2), some (.int v3), some (.int v4), some (.int v5), some (.int v6)] [] μ := by
  intro n
  induction n with
  | zero =>
    intro v1 v2 v3 v4 v5 v6 μ hf
    rw [fX12_enough_36] at hf
    cases hf
  | succ n ih =>
    intro v1 v2 v3 v4 v5 v6 μ hf
    rw [fX12_enough_36] at hf
    refine zs_il hC dX12_enough_36 rfl ?_
    refine zs_k hC dX12_enough_38 ?_
    refine zs_ic_ge hC dX12_enough_40 (fun _ hf => ?_) (fun _ hf => ?_) hf
    · exact zAW.weak (wX12_enough_62 hC hret hk27 hf) (zLw_s (zLw_s (zLw_s (zLw_s (zLw_s (zLw_s (zLw_s zLw_0)))))))
    · refine zs_il hC dX12_enough_43 rfl ?_
      refine zs_il hC dX12_enough_45 rfl ?_
      refine zs_callS [.int v5, .int v6] hC cw_X12_has cl_RX12_268 (by decide) rfl rfl (Nat.le_of_ble_eq_true rfl) dX12_enough_47 (fun _ h => ctX12_has h) (fun r1 m1 _ hf => ?_) hf
      show zAW X 50 _ (.int r1 :: _) m1
      refine zs_if_ne hC dX12_enough_50 (fun _ hf => ?_) (fun _ hf => ?_) hf
      · refine zs_il hC dX12_enough_53 rfl ?_
        refine zs_k hC dX12_enough_55 ?_
        refine zs_iadd hC dX12_enough_56 ?_
        refine zs_is hC dX12_enough_57 (by decide) rfl ?_
        refine zs_goto hC dX12_enough_59 ?_
        exact zAW.weak (ih _ _ _ _ _ _ _ hf) (zLw_s (zLw_s (zLw_s (zLw_s (zLw_s (zLw_s (zLw_s zLw_0)))))))
      · exact zAW.weak (wX12_enough_62 hC hret hk27 hf) (zLw_s (zLw_s (zLw_s (zLw_s (zLw_s (zLw_s (zLw_s zLw_0)))))))
set_option maxRecDepth 20000 in
set_option maxHeartbeats 4000000 in
theorem wX12_enough_27 {X : zX} {F : Nat} (hC : zCx X RX12 cX12_enough 7 3) (hret : zRt X (some .int)) : ∀ (n : Nat) (v1 : Int32) (v2 : Int32) (v3 : Int32) (v4 : Int32) (v5 : Int32) (μ : zMem), fX12_enough_27 F n v1 v2 v3 v4 v5 μ = some (zOut X) → zAW X 27 [some (.ref 60), some (.int v1), some (.int v2), some (.int v3), some (.int v4), some (.int v5), none] [] μ := by
  intro n
  induction n with
  | zero =>
    intro v1 v2 v3 v4 v5 μ hf
    rw [fX12_enough_27] at hf
    cases hf
  | succ n ih =>
    intro v1 v2 v3 v4 v5 μ hf
    rw [fX12_enough_27] at hf
    refine zs_il hC dX12_enough_27 rfl ?_
    refine zs_il hC dX12_enough_29 rfl ?_
    refine zs_ic_gt hC dX12_enough_30 (fun _ hf => ?_) (fun _ hf => ?_) hf
    · refine zs_il hC dX12_enough_167 rfl ?_
      refine zs_if_ne hC dX12_enough_168 (fun _ hf => ?_) (fun _ hf => ?_) hf
      · refine zs_il hC dX12_enough_171 rfl ?_
        refine zs_callS [.int v4] hC cw_X12_bits cl_RX12_218 (by decide) rfl rfl (Nat.le_of_ble_eq_true rfl) dX12_enough_173 (fun _ h => ctX12_bits h) (fun r1 m1 _ hf => ?_) hf
        show zAW X 176 _ (.int r1 :: _) m1
        refine zs_goto hC dX12_enough_176 ?_
        exact zs_iret hC hret dX12_enough_181 hf
      · refine zs_il hC dX12_enough_179 rfl ?_
        exact zs_iret hC hret dX12_enough_181 hf
    · refine zs_k hC dX12_enough_33 ?_
      refine zs_is hC dX12_enough_34 (by decide) rfl ?_
      exact zAW.weak (wX12_enough_36 hC hret (ih) F _ _ _ _ _ _ _ hf) (zLw_s (zLw_s (zLw_s (zLw_s (zLw_s (zLw_s (zLw_s zLw_0)))))))
set_option maxRecDepth 20000 in
set_option maxHeartbeats 4000000 in
theorem wX12_enough {X : zX} {F : Nat} (hC : zCx X RX12 cX12_enough 7 3) (hret : zRt X (some .int)) {v1 : Int32} {μ : zMem} (hf : fX12_enough F v1 μ = some (zOut X)) : zAW X 0 [some (.ref 60), some (.int v1), none, none, none, none, none] [] μ := by
  unfold fX12_enough at hf
  refine zs_il hC dX12_enough_0 rfl ?_
  refine zs_k hC dX12_enough_1 ?_
  refine zs_k hC dX12_enough_2 ?_
  refine zs_callS [.int v1, .int (nI 0), .int (nI 1)] hC cw_X12_in cl_RX12_96 (by decide) rfl rfl (Nat.le_of_ble_eq_true rfl) dX12_enough_3 (fun _ h => ctX12_in h) (fun r1 m1 _ hf => ?_) hf
  show zAW X 6 _ (.int r1 :: _) m1
  refine zs_if_ne hC dX12_enough_6 (fun _ hf => ?_) (fun _ hf => ?_) hf
  · refine zs_k hC dX12_enough_9 ?_
    exact zs_iret hC hret dX12_enough_10 hf
  · refine zs_al hC dX12_enough_11 rfl ?_
    refine zs_callV [] hC cw_X12_toldSet cl_RX12_296 zL60 rfl (by decide) rfl rfl (Nat.le_of_ble_eq_true rfl) dX12_enough_12 (fun _ h => ctX12_toldSet h) (fun r2 m2 _ hf => ?_) hf
    show zAW X 15 _ (.int r2 :: _) m2
    refine zs_is hC dX12_enough_15 (by decide) rfl ?_
    refine zs_al hC dX12_enough_16 rfl ?_
    refine zs_callV [] hC cw_X12_knownByAny cl_RX12_299 zL60 rfl (by decide) rfl rfl (Nat.le_of_ble_eq_true rfl) dX12_enough_17 (fun _ h => ctX12_knownByAny h) (fun r3 m3 _ hf => ?_) hf
    show zAW X 20 _ (.int r3 :: _) m3
    refine zs_is hC dX12_enough_20 (by decide) rfl ?_
    refine zs_il hC dX12_enough_21 rfl ?_
    refine zs_is hC dX12_enough_22 (by decide) rfl ?_
    refine zs_k hC dX12_enough_24 ?_
    refine zs_is hC dX12_enough_25 (by decide) rfl ?_
    exact zAW.weak (wX12_enough_27 hC hret F _ _ _ _ _ _ hf) (zLw_s (zLw_s (zLw_s (zLw_s (zLw_s (zLw_s (zLw_n zLw_0)))))))
set_option maxRecDepth 20000 in
set_option maxHeartbeats 4000000 in
theorem ctX12_enough {E : zEV} {F : Nat} {v1 : Int32} {μ : zMem} {out : zR} (hf : fX12_enough F v1 μ = some out) : zCt E yX12_enough cX12_enough 7 (some .int) 3 [.ref 60, .int v1] μ out :=
  zCt.of [some (.ref 60), some (.int v1), none, none, none, none, none] (by decide +kernel) (Nat.le_of_ble_eq_true rfl) (zLw_s (zLw_s (zLw_e (zLw_e (zLw_e (zLw_e (zLw_e zLw_0))))))) rfl (fun X hE ho hr hC => by
    subst hE; subst ho
    exact wX12_enough hC hr hf)
/-! X12_backMany -/
def fX12_backMany (F : Nat) (μ : zMem) : Option zR :=
  zG (nI 1044) 1047 (zBd (fX12_min F (nI 20) (μ 61 (nI 1044).toNatClampNeg) μ) (fun r2 m2 => some (r2, m2)))
set_option maxRecDepth 20000 in
set_option maxHeartbeats 4000000 in
theorem wX12_backMany {X : zX} {F : Nat} (hC : zCx X RX12 cX12_backMany 1 1) (hret : zRt X (some .int)) {μ : zMem} (hf : fX12_backMany F μ = some (zOut X)) : zAW X 0 [some (.ref 60)] [] μ := by
  unfold fX12_backMany at hf
  refine zs_k hC dX12_backMany_0 ?_
  refine zs_al hC dX12_backMany_2 rfl ?_
  refine zs_getR 61 hC fl_RX12_7 zL60 rfl dX12_backMany_3 ?_
  refine zs_k hC dX12_backMany_6 ?_
  refine zs_iald hC zL61 dX12_backMany_9 (fun _ hf => ?_) hf
  refine zs_callS [.int (nI 20), .int (μ 61 (nI 1044).toNatClampNeg)] hC cw_X12_min cl_RX12_271 (by decide) rfl rfl (Nat.le_of_ble_eq_true rfl) dX12_backMany_10 (fun _ h => ctX12_min h) (fun r2 m2 _ hf => ?_) hf
  show zAW X 13 _ (.int r2 :: _) m2
  exact zs_iret hC hret dX12_backMany_13 hf
set_option maxRecDepth 20000 in
set_option maxHeartbeats 4000000 in
theorem ctX12_backMany {E : zEV} {F : Nat} {μ : zMem} {out : zR} (hf : fX12_backMany F μ = some out) : zCt E yX12_backMany cX12_backMany 1 (some .int) 1 [.ref 60] μ out :=
  zCt.of [some (.ref 60)] (by decide +kernel) (Nat.le_of_ble_eq_true rfl) (zLw_s zLw_0) rfl (fun X hE ho hr hC => by
    subst hE; subst ho
    exact wX12_backMany hC hr hf)
/-! X12_issueOf -/
def fX12_issueOf (F : Nat) (v1 : Int32) (μ : zMem) : Option zR :=
  zG (nI 1044) 1047 (zGz (nI 20) (some ((((μ 61 (nI 1044).toNatClampNeg) - v1) % (nI 20)), μ)))
set_option maxRecDepth 20000 in
set_option maxHeartbeats 4000000 in
theorem wX12_issueOf {X : zX} {F : Nat} (hC : zCx X RX12 cX12_issueOf 2 0) (hret : zRt X (some .int)) {v1 : Int32} {μ : zMem} (hf : fX12_issueOf F v1 μ = some (zOut X)) : zAW X 0 [some (.ref 60), some (.int v1)] [] μ := by
  unfold fX12_issueOf at hf
  refine zs_al hC dX12_issueOf_0 rfl ?_
  refine zs_getR 61 hC fl_RX12_7 zL60 rfl dX12_issueOf_1 ?_
  refine zs_k hC dX12_issueOf_4 ?_
  refine zs_iald hC zL61 dX12_issueOf_7 (fun _ hf => ?_) hf
  refine zs_il hC dX12_issueOf_8 rfl ?_
  refine zs_isub hC dX12_issueOf_9 ?_
  refine zs_k hC dX12_issueOf_10 ?_
  refine zs_irem hC dX12_issueOf_12 (fun _ hf => ?_) hf
  exact zs_iret hC hret dX12_issueOf_13 hf
set_option maxRecDepth 20000 in
set_option maxHeartbeats 4000000 in
theorem ctX12_issueOf {E : zEV} {F : Nat} {v1 : Int32} {μ : zMem} {out : zR} (hf : fX12_issueOf F v1 μ = some out) : zCt E yX12_issueOf cX12_issueOf 2 (some .int) 0 [.ref 60, .int v1] μ out :=
  zCt.of [some (.ref 60), some (.int v1)] (by decide +kernel) (Nat.le_of_ble_eq_true rfl) (zLw_s (zLw_s zLw_0)) rfl (fun X hE ho hr hC => by
    subst hE; subst ho
    exact wX12_issueOf hC hr hf)
/-! X12_printedOf -/
def fX12_printedOf (F : Nat) (v1 : Int32) (v2 : Int32) (v3 : Int32) (μ : zMem) : Option zR :=
  zBd (fX12_issueOf F v1 μ) (fun r2 m2 => zG ((((nI 84) + ((nI 48) * r2)) + ((nI 3) * v2)) + v3) 1047 (some ((m2 61 ((((nI 84) + ((nI 48) * r2)) + ((nI 3) * v2)) + v3).toNatClampNeg), m2)))
set_option maxRecDepth 20000 in
set_option maxHeartbeats 4000000 in
theorem wX12_printedOf {X : zX} {F : Nat} (hC : zCx X RX12 cX12_printedOf 4 1) (hret : zRt X (some .int)) {v1 : Int32} {v2 : Int32} {v3 : Int32} {μ : zMem} (hf : fX12_printedOf F v1 v2 v3 μ = some (zOut X)) : zAW X 0 [some (.ref 60), some (.int v1), some (.int v2), some (.int v3)] [] μ := by
  unfold fX12_printedOf at hf
  refine zs_al hC dX12_printedOf_0 rfl ?_
  refine zs_getR 61 hC fl_RX12_7 zL60 rfl dX12_printedOf_1 ?_
  refine zs_k hC dX12_printedOf_4 ?_
  refine zs_k hC dX12_printedOf_6 ?_
  refine zs_al hC dX12_printedOf_8 rfl ?_
  refine zs_il hC dX12_printedOf_9 rfl ?_
  refine zs_callV [.int v1] hC cw_X12_issueOf cl_RX12_311 zL60 rfl (by decide) rfl rfl (Nat.le_of_ble_eq_true rfl) dX12_printedOf_10 (fun _ h => ctX12_issueOf h) (fun r2 m2 _ hf => ?_) hf
  show zAW X 13 _ (.int r2 :: _) m2
  refine zs_imul hC dX12_printedOf_13 ?_
  refine zs_iadd hC dX12_printedOf_14 ?_
  refine zs_k hC dX12_printedOf_15 ?_
  refine zs_il hC dX12_printedOf_16 rfl ?_
  refine zs_imul hC dX12_printedOf_17 ?_
  refine zs_iadd hC dX12_printedOf_18 ?_
  refine zs_il hC dX12_printedOf_19 rfl ?_
  refine zs_iadd hC dX12_printedOf_20 ?_
  refine zs_iald hC zL61 dX12_printedOf_21 (fun _ hf => ?_) hf
  exact zs_iret hC hret dX12_printedOf_22 hf
set_option maxRecDepth 20000 in
set_option maxHeartbeats 4000000 in
theorem ctX12_printedOf {E : zEV} {F : Nat} {v1 : Int32} {v2 : Int32} {v3 : Int32} {μ : zMem} {out : zR} (hf : fX12_printedOf F v1 v2 v3 μ = some out) : zCt E yX12_printedOf cX12_printedOf 4 (some .int) 1 [.ref 60, .int v1, .int v2, .int v3] μ out :=
  zCt.of [some (.ref 60), some (.int v1), some (.int v2), some (.int v3)] (by decide +kernel) (Nat.le_of_ble_eq_true rfl) (zLw_s (zLw_s (zLw_s (zLw_s zLw_0)))) rfl (fun X hE ho hr hC => by
    subst hE; subst ho
    exact wX12_printedOf hC hr hf)
/-! X12_backNumber -/
def fX12_backNumber_28 (F : Nat) (v1 : Int32) (v2 : Int32) (μ : zMem) : Option zR :=
  zG (nI 1044) 1047 (if v1 ≤ (μ 61 (nI 1044).toNatClampNeg) then zBd (fX12_issueOf F v1 μ) (fun r3 m3 => zG ((nI 64) + r3) 1047 (if v2 = (nI 100) then some ((m3 61 ((nI 64) + r3).toNatClampNeg), m3) else zGz (nI 3) (if (m3 61 ((nI 64) + r3).toNatClampNeg) ≤ (v2 / (nI 3)) then some ((-4 : Int32), m3) else zGz (nI 3) (zGz (nI 3) (zBd (fX12_printedOf F v1 (v2 / (nI 3)) (v2 % (nI 3)) m3) (fun r4 m4 => some (r4, m4))))))) else some ((-2 : Int32), μ))
def fX12_backNumber (F : Nat) (v1 : Int32) (v2 : Int32) (μ : zMem) : Option zR :=
  zBd (fX12_in F v1 (nI 1) (nI 20) μ) (fun r1 m1 => if r1 = 0 then some ((-1 : Int32), m1) else zBd (fX12_in F v2 (nI 0) (nI 47) m1) (fun r2 m2 => if r2 = 0 then if v2 = (nI 100) then fX12_backNumber_28 F v1 v2 m2 else some ((-1 : Int32), m2) else fX12_backNumber_28 F v1 v2 m2))
set_option maxRecDepth 20000 in
set_option maxHeartbeats 4000000 in
theorem wX12_backNumber_28 {X : zX} {F : Nat} (hC : zCx X RX12 cX12_backNumber 4 2) (hret : zRt X (some .int)) {v1 : Int32} {v2 : Int32} {μ : zMem} (hf : fX12_backNumber_28 F v1 v2 μ = some (zOut X)) : zAW X 28 [some (.ref 60), some (.int v1), some (.int v2), none] [] μ := by
  unfold fX12_backNumber_28 at hf
  refine zs_il hC dX12_backNumber_28 rfl ?_
  refine zs_al hC dX12_backNumber_29 rfl ?_
  refine zs_getR 61 hC fl_RX12_7 zL60 rfl dX12_backNumber_30 ?_
  refine zs_k hC dX12_backNumber_33 ?_
  refine zs_iald hC zL61 dX12_backNumber_36 (fun _ hf => ?_) hf
  refine zs_ic_le hC dX12_backNumber_37 (fun _ hf => ?_) (fun _ hf => ?_) hf
  · refine zs_al hC dX12_backNumber_43 rfl ?_
    refine zs_getR 61 hC fl_RX12_7 zL60 rfl dX12_backNumber_44 ?_
    refine zs_k hC dX12_backNumber_47 ?_
    refine zs_al hC dX12_backNumber_49 rfl ?_
    refine zs_il hC dX12_backNumber_50 rfl ?_
    refine zs_callV [.int v1] hC cw_X12_issueOf cl_RX12_311 zL60 rfl (by decide) rfl rfl (Nat.le_of_ble_eq_true rfl) dX12_backNumber_51 (fun _ h => ctX12_issueOf h) (fun r3 m3 _ hf => ?_) hf
    show zAW X 54 _ (.int r3 :: _) m3
    refine zs_iadd hC dX12_backNumber_54 ?_
    refine zs_iald hC zL61 dX12_backNumber_55 (fun _ hf => ?_) hf
    refine zs_is hC dX12_backNumber_56 (by decide) rfl ?_
    refine zs_il hC dX12_backNumber_57 rfl ?_
    refine zs_k hC dX12_backNumber_58 ?_
    refine zs_ic_ne hC dX12_backNumber_60 (fun _ hf => ?_) (fun _ hf => ?_) hf
    · refine zs_il hC dX12_backNumber_63 rfl ?_
      exact zs_iret hC hret dX12_backNumber_64 hf
    · refine zs_il hC dX12_backNumber_65 rfl ?_
      refine zs_k hC dX12_backNumber_66 ?_
      refine zs_idiv hC dX12_backNumber_67 (fun _ hf => ?_) hf
      refine zs_il hC dX12_backNumber_68 rfl ?_
      refine zs_ic_ge hC dX12_backNumber_69 (fun _ hf => ?_) (fun _ hf => ?_) hf
      · refine zs_k hC dX12_backNumber_86 ?_
        exact zs_iret hC hret dX12_backNumber_88 hf
      · refine zs_al hC dX12_backNumber_72 rfl ?_
        refine zs_il hC dX12_backNumber_73 rfl ?_
        refine zs_il hC dX12_backNumber_74 rfl ?_
        refine zs_k hC dX12_backNumber_75 ?_
        refine zs_idiv hC dX12_backNumber_76 (fun _ hf => ?_) hf
        refine zs_il hC dX12_backNumber_77 rfl ?_
        refine zs_k hC dX12_backNumber_78 ?_
        refine zs_irem hC dX12_backNumber_79 (fun _ hf => ?_) hf
        refine zs_callV [.int v1, .int (v2 / (nI 3)), .int (v2 % (nI 3))] hC cw_X12_printedOf cl_RX12_314 zL60 rfl (by decide) rfl rfl (Nat.le_of_ble_eq_true rfl) dX12_backNumber_80 (fun _ h => ctX12_printedOf h) (fun r4 m4 _ hf => ?_) hf
        show zAW X 83 _ (.int r4 :: _) m4
        refine zs_goto hC dX12_backNumber_83 ?_
        exact zs_iret hC hret dX12_backNumber_88 hf
  · refine zs_k hC dX12_backNumber_40 ?_
    exact zs_iret hC hret dX12_backNumber_42 hf
set_option maxRecDepth 20000 in
set_option maxHeartbeats 4000000 in
theorem wX12_backNumber {X : zX} {F : Nat} (hC : zCx X RX12 cX12_backNumber 4 2) (hret : zRt X (some .int)) {v1 : Int32} {v2 : Int32} {μ : zMem} (hf : fX12_backNumber F v1 v2 μ = some (zOut X)) : zAW X 0 [some (.ref 60), some (.int v1), some (.int v2), none] [] μ := by
  unfold fX12_backNumber at hf
  refine zs_il hC dX12_backNumber_0 rfl ?_
  refine zs_k hC dX12_backNumber_1 ?_
  refine zs_k hC dX12_backNumber_2 ?_
  refine zs_callS [.int v1, .int (nI 1), .int (nI 20)] hC cw_X12_in cl_RX12_96 (by decide) rfl rfl (Nat.le_of_ble_eq_true rfl) dX12_backNumber_4 (fun _ h => ctX12_in h) (fun r1 m1 _ hf => ?_) hf
  show zAW X 7 _ (.int r1 :: _) m1
  refine zs_if_eq hC dX12_backNumber_7 (fun _ hf => ?_) (fun _ hf => ?_) hf
  · refine zs_k hC dX12_backNumber_26 ?_
    exact zs_iret hC hret dX12_backNumber_27 hf
  · refine zs_il hC dX12_backNumber_10 rfl ?_
    refine zs_k hC dX12_backNumber_11 ?_
    refine zs_k hC dX12_backNumber_12 ?_
    refine zs_callS [.int v2, .int (nI 0), .int (nI 47)] hC cw_X12_in cl_RX12_96 (by decide) rfl rfl (Nat.le_of_ble_eq_true rfl) dX12_backNumber_14 (fun _ h => ctX12_in h) (fun r2 m2 _ hf => ?_) hf
    show zAW X 17 _ (.int r2 :: _) m2
    refine zs_if_ne hC dX12_backNumber_17 (fun _ hf => ?_) (fun _ hf => ?_) hf
    · refine zs_il hC dX12_backNumber_20 rfl ?_
      refine zs_k hC dX12_backNumber_21 ?_
      refine zs_ic_eq hC dX12_backNumber_23 (fun _ hf => ?_) (fun _ hf => ?_) hf
      · exact zAW.weak (wX12_backNumber_28 hC hret hf) (zLw_s (zLw_s (zLw_s (zLw_n zLw_0))))
      · refine zs_k hC dX12_backNumber_26 ?_
        exact zs_iret hC hret dX12_backNumber_27 hf
    · exact zAW.weak (wX12_backNumber_28 hC hret hf) (zLw_s (zLw_s (zLw_s (zLw_n zLw_0))))
set_option maxRecDepth 20000 in
set_option maxHeartbeats 4000000 in
theorem ctX12_backNumber {E : zEV} {F : Nat} {v1 : Int32} {v2 : Int32} {μ : zMem} {out : zR} (hf : fX12_backNumber F v1 v2 μ = some out) : zCt E yX12_backNumber cX12_backNumber 4 (some .int) 2 [.ref 60, .int v1, .int v2] μ out :=
  zCt.of [some (.ref 60), some (.int v1), some (.int v2), none] (by decide +kernel) (Nat.le_of_ble_eq_true rfl) (zLw_s (zLw_s (zLw_s (zLw_e zLw_0)))) rfl (fun X hE ho hr hC => by
    subst hE; subst ho
    exact wX12_backNumber hC hr hf)
/-! X12_secretsOf -/
def fX12_secretsOf_4 (F : Nat) : Nat → Int32 → Int32 → Int32 → zMem → Option zR
  | 0, _, _, _, _ => none
  | n + 1, v1, v2, v3, μ => zBd (fX12_issueOf F v1 μ) (fun r2 m2 => zG ((nI 64) + r2) 1047 (if (m2 61 ((nI 64) + r2).toNatClampNeg) ≤ v3 then some (v2, m2) else zBd (fX12_printedOf F v1 v3 (nI 2) m2) (fun r3 m3 => fX12_secretsOf_4 F n v1 (v2 ||| ((nI 1) <<< (r3 &&& 31))) (v3 + (nI 1)) m3)))
def fX12_secretsOf (F : Nat) (v1 : Int32) (μ : zMem) : Option zR :=
  fX12_secretsOf_4 F F v1 (nI 0) (nI 0) μ
set_option maxRecDepth 20000 in
set_option maxHeartbeats 4000000 in
theorem wX12_secretsOf_4 {X : zX} {F : Nat} (hC : zCx X RX12 cX12_secretsOf 4 2) (hret : zRt X (some .int)) : ∀ (n : Nat) (v1 : Int32) (v2 : Int32) (v3 : Int32) (μ : zMem), fX12_secretsOf_4 F n v1 v2 v3 μ = some (zOut X) → zAW X 4 [some (.ref 60), some (.int v1), some (.int v2), some (.int v3)] [] μ := by
  intro n
  induction n with
  | zero =>
    intro v1 v2 v3 μ hf
    rw [fX12_secretsOf_4] at hf
    cases hf
  | succ n ih =>
    intro v1 v2 v3 μ hf
    rw [fX12_secretsOf_4] at hf
    refine zs_il hC dX12_secretsOf_4 rfl ?_
    refine zs_al hC dX12_secretsOf_5 rfl ?_
    refine zs_getR 61 hC fl_RX12_7 zL60 rfl dX12_secretsOf_6 ?_
    refine zs_k hC dX12_secretsOf_9 ?_
    refine zs_al hC dX12_secretsOf_11 rfl ?_
    refine zs_il hC dX12_secretsOf_12 rfl ?_
    refine zs_callV [.int v1] hC cw_X12_issueOf cl_RX12_311 zL60 rfl (by decide) rfl rfl (Nat.le_of_ble_eq_true rfl) dX12_secretsOf_13 (fun _ h => ctX12_issueOf h) (fun r2 m2 _ hf => ?_) hf
    show zAW X 16 _ (.int r2 :: _) m2
    refine zs_iadd hC dX12_secretsOf_16 ?_
    refine zs_iald hC zL61 dX12_secretsOf_17 (fun _ hf => ?_) hf
    refine zs_ic_ge hC dX12_secretsOf_18 (fun _ hf => ?_) (fun _ hf => ?_) hf
    · refine zs_il hC dX12_secretsOf_39 rfl ?_
      exact zs_iret hC hret dX12_secretsOf_40 hf
    · refine zs_il hC dX12_secretsOf_21 rfl ?_
      refine zs_k hC dX12_secretsOf_22 ?_
      refine zs_al hC dX12_secretsOf_23 rfl ?_
      refine zs_il hC dX12_secretsOf_24 rfl ?_
      refine zs_il hC dX12_secretsOf_25 rfl ?_
      refine zs_k hC dX12_secretsOf_26 ?_
      refine zs_callV [.int v1, .int v3, .int (nI 2)] hC cw_X12_printedOf cl_RX12_314 zL60 rfl (by decide) rfl rfl (Nat.le_of_ble_eq_true rfl) dX12_secretsOf_27 (fun _ h => ctX12_printedOf h) (fun r3 m3 _ hf => ?_) hf
      show zAW X 30 _ (.int r3 :: _) m3
      refine zs_ishl hC dX12_secretsOf_30 ?_
      refine zs_ior hC dX12_secretsOf_31 ?_
      refine zs_is hC dX12_secretsOf_32 (by decide) rfl ?_
      refine zs_iinc (nI 1) hC dX12_secretsOf_33 (by decide) rfl (by decide) rfl ?_
      refine zs_goto hC dX12_secretsOf_36 ?_
      exact zAW.weak (ih _ _ _ _ hf) (zLw_s (zLw_s (zLw_s (zLw_s zLw_0))))
set_option maxRecDepth 20000 in
set_option maxHeartbeats 4000000 in
theorem wX12_secretsOf {X : zX} {F : Nat} (hC : zCx X RX12 cX12_secretsOf 4 2) (hret : zRt X (some .int)) {v1 : Int32} {μ : zMem} (hf : fX12_secretsOf F v1 μ = some (zOut X)) : zAW X 0 [some (.ref 60), some (.int v1), none, none] [] μ := by
  unfold fX12_secretsOf at hf
  refine zs_k hC dX12_secretsOf_0 ?_
  refine zs_is hC dX12_secretsOf_1 (by decide) rfl ?_
  refine zs_k hC dX12_secretsOf_2 ?_
  refine zs_is hC dX12_secretsOf_3 (by decide) rfl ?_
  exact zAW.weak (wX12_secretsOf_4 hC hret F _ _ _ _ hf) (zLw_s (zLw_s (zLw_s (zLw_s zLw_0))))
set_option maxRecDepth 20000 in
set_option maxHeartbeats 4000000 in
theorem ctX12_secretsOf {E : zEV} {F : Nat} {v1 : Int32} {μ : zMem} {out : zR} (hf : fX12_secretsOf F v1 μ = some out) : zCt E yX12_secretsOf cX12_secretsOf 4 (some .int) 2 [.ref 60, .int v1] μ out :=
  zCt.of [some (.ref 60), some (.int v1), none, none] (by decide +kernel) (Nat.le_of_ble_eq_true rfl) (zLw_s (zLw_s (zLw_e (zLw_e zLw_0)))) rfl (fun X hE ho hr hC => by
    subst hE; subst ho
    exact wX12_secretsOf hC hr hf)
/-! X12_laysBlackmail -/
def fX12_laysBlackmail_77 (F : Nat) (k58 : Int32 → Int32 → zMem → Option zR) : Nat → Int32 → Int32 → Int32 → Int32 → zMem → Option zR
  | 0, _, _, _, _, _ => none
  | n + 1, v1, v2, v3, v4, μ => if v4 ≤ 0 then zG v1 65536 (if (μ 83 v1.toNatClampNeg) < (μ 60 38) then zG v1 65536 (zLt (zUp μ 60 38 (μ 83 v1.toNatClampNeg)) (fun m4 => zLt (zUp m4 60 39 v2) (fun m5 => k58 v1 (v2 + (nI 1)) m5))) else k58 v1 (v2 + (nI 1)) μ) else if (v4 &&& (v1 ^^^ (-1 : Int32))) = 0 then zG (v4 &&& (v3 ^^^ (-1 : Int32))) 65536 (zG v4 65536 (if ((μ 83 (v4 &&& (v3 ^^^ (-1 : Int32))).toNatClampNeg) + (nI 1)) < (μ 83 v4.toNatClampNeg) then zG (v4 &&& (v3 ^^^ (-1 : Int32))) 65536 (zG v4 65536 (zLt (zUp μ 83 v4.toNatClampNeg ((((μ 83 (v4 &&& (v3 ^^^ (-1 : Int32))).toNatClampNeg) + (nI 1)).toInt8.toInt32).toInt8.toInt32)) (fun m10 => fX12_laysBlackmail_77 F k58 n v1 v2 v3 (v4 + (-1 : Int32)) m10))) else fX12_laysBlackmail_77 F k58 n v1 v2 v3 (v4 + (-1 : Int32)) μ)) else fX12_laysBlackmail_77 F k58 n v1 v2 v3 (v4 + (-1 : Int32)) μ
def fX12_laysBlackmail_58 (F : Nat) : Nat → Int32 → Int32 → zMem → Option zR
  | 0, _, _, _ => none
  | n + 1, v1, v2, μ => zBd (fX12_backMany F μ) (fun r1 m1 => if r1 < v2 then some ((nI 0), m1) else zBd (fX12_secretsOf F v2 m1) (fun r2 m2 => fX12_laysBlackmail_77 F (fX12_laysBlackmail_58 F n) F v1 v2 (r2 &&& v1) v1 m2))
def fX12_laysBlackmail_14 (F : Nat) : Nat → Int32 → Int32 → zMem → Option zR
  | 0, _, _, _ => none
  | n + 1, v1, v2, μ => if v1 < v2 then if v1 = 0 then zLt (zUp μ 60 38 (nI 0)) (fun m1 => zLt (zUp m1 60 39 (nI 0)) (fun m2 => fX12_laysBlackmail_58 F F v1 (nI 1) m2)) else fX12_laysBlackmail_58 F F v1 (nI 1) μ else if v2 = 0 then zG v2 65536 (zLt (zUp μ 83 v2.toNatClampNeg (((nI 0).toInt8.toInt32).toInt8.toInt32)) (fun m4 => fX12_laysBlackmail_14 F n v1 (v2 + (nI 1)) m4)) else zG v2 65536 (zLt (zUp μ 83 v2.toNatClampNeg (((nI 99).toInt8.toInt32).toInt8.toInt32)) (fun m5 => fX12_laysBlackmail_14 F n v1 (v2 + (nI 1)) m5))
def fX12_laysBlackmail (F : Nat) (v1 : Int32) (μ : zMem) : Option zR :=
  zLt (zUp μ 60 38 (nI 99)) (fun m1 => zLt (zUp m1 60 39 (-2 : Int32)) (fun m2 => fX12_laysBlackmail_14 F F v1 (nI 0) m2))
set_option maxRecDepth 20000 in
set_option maxHeartbeats 4000000 in
theorem wX12_laysBlackmail_77 {X : zX} {F : Nat} (hC : zCx X RX12 cX12_laysBlackmail 5 3) (hret : zRt X none) {k58 : Int32 → Int32 → zMem → Option zR} (hk58 : ∀ v1 v2 μ, k58 v1 v2 μ = some (zOut X) → zAW X 58 [some (.ref 60), some (.int v1), some (.int v2), none, none] [] μ) : ∀ (n : Nat) (v1 : Int32) (v2 : Int32) (v3 : Int32) (v4 : Int32) (μ : zMem), fX12_laysBlackmail_77 F k58 n v1 v2 v3 v4 μ = some (zOut X) → zAW X 77 [some (.ref 60), some (.int v1), some (.int v2), some (.int v3), some (.int v4)] [] μ := by
  intro n
  induction n with
  | zero =>
    intro v1 v2 v3 v4 μ hf
    rw [fX12_laysBlackmail_77] at hf
    cases hf
  | succ n ih =>
    intro v1 v2 v3 v4 μ hf
    rw [fX12_laysBlackmail_77] at hf
    refine zs_il hC dX12_laysBlackmail_77 rfl ?_
    refine zs_if_le hC dX12_laysBlackmail_79 (fun _ hf => ?_) (fun _ hf => ?_) hf
    · refine zs_al hC dX12_laysBlackmail_144 rfl ?_
      refine zs_getR 83 hC fl_RX12_78 zL60 rfl dX12_laysBlackmail_145 ?_
      refine zs_il hC dX12_laysBlackmail_148 rfl ?_
      refine zs_bald hC zL83 dX12_laysBlackmail_149 (fun _ hf => ?_) hf
      refine zs_al hC dX12_laysBlackmail_150 rfl ?_
      refine zs_getI hC fl_RX12_317 zL60 rfl dX12_laysBlackmail_151 ?_
      refine zs_ic_lt hC dX12_laysBlackmail_154 (fun _ hf => ?_) (fun _ hf => ?_) hf
      · refine zs_al hC dX12_laysBlackmail_160 rfl ?_
        refine zs_al hC dX12_laysBlackmail_161 rfl ?_
        refine zs_getR 83 hC fl_RX12_78 zL60 rfl dX12_laysBlackmail_162 ?_
        refine zs_il hC dX12_laysBlackmail_165 rfl ?_
        refine zs_bald hC zL83 dX12_laysBlackmail_166 (fun _ hf => ?_) hf
        refine zs_putI hC fl_RX12_317 fp_12_38 zL60 rfl dX12_laysBlackmail_167 ?_
        refine zs_let (fun m4 _ hf => ?_) hf
        refine zs_al hC dX12_laysBlackmail_170 rfl ?_
        refine zs_il hC dX12_laysBlackmail_171 rfl ?_
        refine zs_putI hC fl_RX12_320 fp_12_39 zL60 rfl dX12_laysBlackmail_172 ?_
        refine zs_let (fun m5 _ hf => ?_) hf
        refine zs_iinc (nI 1) hC dX12_laysBlackmail_175 (by decide) rfl (by decide) rfl ?_
        refine zs_goto hC dX12_laysBlackmail_178 ?_
        exact zAW.weak (hk58 _ _ _ hf) (zLw_s (zLw_s (zLw_s (zLw_n (zLw_n zLw_0)))))
      · refine zs_goto hC dX12_laysBlackmail_157 ?_
        refine zs_iinc (nI 1) hC dX12_laysBlackmail_175 (by decide) rfl (by decide) rfl ?_
        refine zs_goto hC dX12_laysBlackmail_178 ?_
        exact zAW.weak (hk58 _ _ _ hf) (zLw_s (zLw_s (zLw_s (zLw_n (zLw_n zLw_0)))))
    · refine zs_il hC dX12_laysBlackmail_82 rfl ?_
      refine zs_il hC dX12_laysBlackmail_84 rfl ?_
      refine zs_k hC dX12_laysBlackmail_85 ?_
      refine zs_ixor hC dX12_laysBlackmail_86 ?_
      refine zs_iand hC dX12_laysBlackmail_87 ?_
      refine zs_if_ne hC dX12_laysBlackmail_88 (fun _ hf => ?_) (fun _ hf => ?_) hf
      · refine zs_al hC dX12_laysBlackmail_91 rfl ?_
        refine zs_getR 83 hC fl_RX12_78 zL60 rfl dX12_laysBlackmail_92 ?_
        refine zs_il hC dX12_laysBlackmail_95 rfl ?_
        refine zs_il hC dX12_laysBlackmail_97 rfl ?_
        refine zs_k hC dX12_laysBlackmail_98 ?_
        refine zs_ixor hC dX12_laysBlackmail_99 ?_
        refine zs_iand hC dX12_laysBlackmail_100 ?_
        refine zs_bald hC zL83 dX12_laysBlackmail_101 (fun _ hf => ?_) hf
        refine zs_k hC dX12_laysBlackmail_102 ?_
        refine zs_iadd hC dX12_laysBlackmail_103 ?_
        refine zs_al hC dX12_laysBlackmail_104 rfl ?_
        refine zs_getR 83 hC fl_RX12_78 zL60 rfl dX12_laysBlackmail_105 ?_
        refine zs_il hC dX12_laysBlackmail_108 rfl ?_
        refine zs_bald hC zL83 dX12_laysBlackmail_110 (fun _ hf => ?_) hf
        refine zs_ic_lt hC dX12_laysBlackmail_111 (fun _ hf => ?_) (fun _ hf => ?_) hf
        · refine zs_al hC dX12_laysBlackmail_117 rfl ?_
          refine zs_getR 83 hC fl_RX12_78 zL60 rfl dX12_laysBlackmail_118 ?_
          refine zs_il hC dX12_laysBlackmail_121 rfl ?_
          refine zs_al hC dX12_laysBlackmail_123 rfl ?_
          refine zs_getR 83 hC fl_RX12_78 zL60 rfl dX12_laysBlackmail_124 ?_
          refine zs_il hC dX12_laysBlackmail_127 rfl ?_
          refine zs_il hC dX12_laysBlackmail_129 rfl ?_
          refine zs_k hC dX12_laysBlackmail_130 ?_
          refine zs_ixor hC dX12_laysBlackmail_131 ?_
          refine zs_iand hC dX12_laysBlackmail_132 ?_
          refine zs_bald hC zL83 dX12_laysBlackmail_133 (fun _ hf => ?_) hf
          refine zs_k hC dX12_laysBlackmail_134 ?_
          refine zs_iadd hC dX12_laysBlackmail_135 ?_
          refine zs_i2b hC dX12_laysBlackmail_136 ?_
          refine zs_bast hC zL83 dX12_laysBlackmail_137 (fun _ hf => ?_) hf
          refine zs_let (fun m10 _ hf => ?_) hf
          refine zs_iinc (-1 : Int32) hC dX12_laysBlackmail_138 (by decide) rfl (by decide) rfl ?_
          refine zs_goto hC dX12_laysBlackmail_141 ?_
          exact zAW.weak (ih _ _ _ _ _ hf) (zLw_s (zLw_s (zLw_s (zLw_s (zLw_s zLw_0)))))
        · refine zs_goto hC dX12_laysBlackmail_114 ?_
          refine zs_iinc (-1 : Int32) hC dX12_laysBlackmail_138 (by decide) rfl (by decide) rfl ?_
          refine zs_goto hC dX12_laysBlackmail_141 ?_
          exact zAW.weak (ih _ _ _ _ _ hf) (zLw_s (zLw_s (zLw_s (zLw_s (zLw_s zLw_0)))))
      · refine zs_iinc (-1 : Int32) hC dX12_laysBlackmail_138 (by decide) rfl (by decide) rfl ?_
        refine zs_goto hC dX12_laysBlackmail_141 ?_
        exact zAW.weak (ih _ _ _ _ _ hf) (zLw_s (zLw_s (zLw_s (zLw_s (zLw_s zLw_0)))))
set_option maxRecDepth 20000 in
set_option maxHeartbeats 4000000 in
theorem wX12_laysBlackmail_58 {X : zX} {F : Nat} (hC : zCx X RX12 cX12_laysBlackmail 5 3) (hret : zRt X none) : ∀ (n : Nat) (v1 : Int32) (v2 : Int32) (μ : zMem), fX12_laysBlackmail_58 F n v1 v2 μ = some (zOut X) → zAW X 58 [some (.ref 60), some (.int v1), some (.int v2), none, none] [] μ := by
  intro n
  induction n with
  | zero =>
    intro v1 v2 μ hf
    rw [fX12_laysBlackmail_58] at hf
    cases hf
  | succ n ih =>
    intro v1 v2 μ hf
    rw [fX12_laysBlackmail_58] at hf
    refine zs_il hC dX12_laysBlackmail_58 rfl ?_
    refine zs_al hC dX12_laysBlackmail_59 rfl ?_
    refine zs_callV [] hC cw_X12_backMany cl_RX12_323 zL60 rfl (by decide) rfl rfl (Nat.le_of_ble_eq_true rfl) dX12_laysBlackmail_60 (fun _ h => ctX12_backMany h) (fun r1 m1 _ hf => ?_) hf
    show zAW X 63 _ (.int r1 :: _) m1
    refine zs_ic_gt hC dX12_laysBlackmail_63 (fun _ hf => ?_) (fun _ hf => ?_) hf
    · exact zs_vret hC hret dX12_laysBlackmail_181 hf
    · refine zs_al hC dX12_laysBlackmail_66 rfl ?_
      refine zs_il hC dX12_laysBlackmail_67 rfl ?_
      refine zs_callV [.int v2] hC cw_X12_secretsOf cl_RX12_326 zL60 rfl (by decide) rfl rfl (Nat.le_of_ble_eq_true rfl) dX12_laysBlackmail_68 (fun _ h => ctX12_secretsOf h) (fun r2 m2 _ hf => ?_) hf
      show zAW X 71 _ (.int r2 :: _) m2
      refine zs_il hC dX12_laysBlackmail_71 rfl ?_
      refine zs_iand hC dX12_laysBlackmail_72 ?_
      refine zs_is hC dX12_laysBlackmail_73 (by decide) rfl ?_
      refine zs_il hC dX12_laysBlackmail_74 rfl ?_
      refine zs_is hC dX12_laysBlackmail_75 (by decide) rfl ?_
      exact zAW.weak (wX12_laysBlackmail_77 hC hret (ih) F _ _ _ _ _ hf) (zLw_s (zLw_s (zLw_s (zLw_s (zLw_s zLw_0)))))
set_option maxRecDepth 20000 in
set_option maxHeartbeats 4000000 in
theorem wX12_laysBlackmail_14 {X : zX} {F : Nat} (hC : zCx X RX12 cX12_laysBlackmail 5 3) (hret : zRt X none) : ∀ (n : Nat) (v1 : Int32) (v2 : Int32) (μ : zMem), fX12_laysBlackmail_14 F n v1 v2 μ = some (zOut X) → zAW X 14 [some (.ref 60), some (.int v1), some (.int v2), none, none] [] μ := by
  intro n
  induction n with
  | zero =>
    intro v1 v2 μ hf
    rw [fX12_laysBlackmail_14] at hf
    cases hf
  | succ n ih =>
    intro v1 v2 μ hf
    rw [fX12_laysBlackmail_14] at hf
    refine zs_il hC dX12_laysBlackmail_14 rfl ?_
    refine zs_il hC dX12_laysBlackmail_15 rfl ?_
    refine zs_ic_gt hC dX12_laysBlackmail_16 (fun _ hf => ?_) (fun _ hf => ?_) hf
    · refine zs_il hC dX12_laysBlackmail_42 rfl ?_
      refine zs_if_ne hC dX12_laysBlackmail_43 (fun _ hf => ?_) (fun _ hf => ?_) hf
      · refine zs_al hC dX12_laysBlackmail_46 rfl ?_
        refine zs_k hC dX12_laysBlackmail_47 ?_
        refine zs_putI hC fl_RX12_317 fp_12_38 zL60 rfl dX12_laysBlackmail_48 ?_
        refine zs_let (fun m1 _ hf => ?_) hf
        refine zs_al hC dX12_laysBlackmail_51 rfl ?_
        refine zs_k hC dX12_laysBlackmail_52 ?_
        refine zs_putI hC fl_RX12_320 fp_12_39 zL60 rfl dX12_laysBlackmail_53 ?_
        refine zs_let (fun m2 _ hf => ?_) hf
        refine zs_k hC dX12_laysBlackmail_56 ?_
        refine zs_is hC dX12_laysBlackmail_57 (by decide) rfl ?_
        exact zAW.weak (wX12_laysBlackmail_58 hC hret F _ _ _ hf) (zLw_s (zLw_s (zLw_s (zLw_n (zLw_n zLw_0)))))
      · refine zs_k hC dX12_laysBlackmail_56 ?_
        refine zs_is hC dX12_laysBlackmail_57 (by decide) rfl ?_
        exact zAW.weak (wX12_laysBlackmail_58 hC hret F _ _ _ hf) (zLw_s (zLw_s (zLw_s (zLw_n (zLw_n zLw_0)))))
    · refine zs_al hC dX12_laysBlackmail_19 rfl ?_
      refine zs_getR 83 hC fl_RX12_78 zL60 rfl dX12_laysBlackmail_20 ?_
      refine zs_il hC dX12_laysBlackmail_23 rfl ?_
      refine zs_il hC dX12_laysBlackmail_24 rfl ?_
      refine zs_if_ne hC dX12_laysBlackmail_25 (fun _ hf => ?_) (fun _ hf => ?_) hf
      · refine zs_k hC dX12_laysBlackmail_28 ?_
        refine zs_goto hC dX12_laysBlackmail_29 ?_
        refine zs_i2b hC dX12_laysBlackmail_34 ?_
        refine zs_bast hC zL83 dX12_laysBlackmail_35 (fun _ hf => ?_) hf
        refine zs_let (fun m4 _ hf => ?_) hf
        refine zs_iinc (nI 1) hC dX12_laysBlackmail_36 (by decide) rfl (by decide) rfl ?_
        refine zs_goto hC dX12_laysBlackmail_39 ?_
        exact zAW.weak (ih _ _ _ hf) (zLw_s (zLw_s (zLw_s (zLw_n (zLw_n zLw_0)))))
      · refine zs_k hC dX12_laysBlackmail_32 ?_
        refine zs_i2b hC dX12_laysBlackmail_34 ?_
        refine zs_bast hC zL83 dX12_laysBlackmail_35 (fun _ hf => ?_) hf
        refine zs_let (fun m5 _ hf => ?_) hf
        refine zs_iinc (nI 1) hC dX12_laysBlackmail_36 (by decide) rfl (by decide) rfl ?_
        refine zs_goto hC dX12_laysBlackmail_39 ?_
        exact zAW.weak (ih _ _ _ hf) (zLw_s (zLw_s (zLw_s (zLw_n (zLw_n zLw_0)))))
set_option maxRecDepth 20000 in
set_option maxHeartbeats 4000000 in
theorem wX12_laysBlackmail {X : zX} {F : Nat} (hC : zCx X RX12 cX12_laysBlackmail 5 3) (hret : zRt X none) {v1 : Int32} {μ : zMem} (hf : fX12_laysBlackmail F v1 μ = some (zOut X)) : zAW X 0 [some (.ref 60), some (.int v1), none, none, none] [] μ := by
  unfold fX12_laysBlackmail at hf
  refine zs_al hC dX12_laysBlackmail_0 rfl ?_
  refine zs_k hC dX12_laysBlackmail_1 ?_
  refine zs_putI hC fl_RX12_317 fp_12_38 zL60 rfl dX12_laysBlackmail_3 ?_
  refine zs_let (fun m1 _ hf => ?_) hf
  refine zs_al hC dX12_laysBlackmail_6 rfl ?_
  refine zs_k hC dX12_laysBlackmail_7 ?_
  refine zs_putI hC fl_RX12_320 fp_12_39 zL60 rfl dX12_laysBlackmail_9 ?_
  refine zs_let (fun m2 _ hf => ?_) hf
  refine zs_k hC dX12_laysBlackmail_12 ?_
  refine zs_is hC dX12_laysBlackmail_13 (by decide) rfl ?_
  exact zAW.weak (wX12_laysBlackmail_14 hC hret F _ _ _ hf) (zLw_s (zLw_s (zLw_s (zLw_n (zLw_n zLw_0)))))
set_option maxRecDepth 20000 in
set_option maxHeartbeats 4000000 in
theorem ctX12_laysBlackmail {E : zEV} {F : Nat} {v1 : Int32} {μ : zMem} {out : zR} (hf : fX12_laysBlackmail F v1 μ = some out) : zCt E yX12_laysBlackmail cX12_laysBlackmail 5 none 3 [.ref 60, .int v1] μ out :=
  zCt.of [some (.ref 60), some (.int v1), none, none, none] (by decide +kernel) (Nat.le_of_ble_eq_true rfl) (zLw_s (zLw_s (zLw_e (zLw_e (zLw_e zLw_0))))) rfl (fun X hE ho hr hC => by
    subst hE; subst ho
    exact wX12_laysBlackmail hC hr hf)
/-! X12_blackmail -/
def fX12_blackmail (F : Nat) (v1 : Int32) (v2 : Int32) (μ : zMem) : Option zR :=
  zBd (fX12_in F v1 (nI 0) (nI 65535) μ) (fun r1 m1 => if r1 = 0 then some ((-1 : Int32), m1) else zBd (fX12_in F v2 (nI 0) (nI 1) m1) (fun r2 m2 => if r2 = 0 then some ((-1 : Int32), m2) else zBd (fX12_laysBlackmail F v1 m2) (fun r3 m3 => if (m3 60 38) = (nI 99) then some ((-2 : Int32), m3) else if v2 = 0 then some ((m3 60 38), m3) else some ((m3 60 39), m3))))
set_option maxRecDepth 20000 in
set_option maxHeartbeats 4000000 in
theorem wX12_blackmail {X : zX} {F : Nat} (hC : zCx X RX12 cX12_blackmail 3 4) (hret : zRt X (some .int)) {v1 : Int32} {v2 : Int32} {μ : zMem} (hf : fX12_blackmail F v1 v2 μ = some (zOut X)) : zAW X 0 [some (.ref 60), some (.int v1), some (.int v2)] [] μ := by
  unfold fX12_blackmail at hf
  refine zs_il hC dX12_blackmail_0 rfl ?_
  refine zs_k hC dX12_blackmail_1 ?_
  refine zs_ldc hC kc_RX12_104 dX12_blackmail_2 ?_
  refine zs_callS [.int v1, .int (nI 0), .int (nI 65535)] hC cw_X12_in cl_RX12_96 (by decide) rfl rfl (Nat.le_of_ble_eq_true rfl) dX12_blackmail_4 (fun _ h => ctX12_in h) (fun r1 m1 _ hf => ?_) hf
  show zAW X 7 _ (.int r1 :: _) m1
  refine zs_if_eq hC dX12_blackmail_7 (fun _ hf => ?_) (fun _ hf => ?_) hf
  · refine zs_k hC dX12_blackmail_19 ?_
    exact zs_iret hC hret dX12_blackmail_20 hf
  · refine zs_il hC dX12_blackmail_10 rfl ?_
    refine zs_k hC dX12_blackmail_11 ?_
    refine zs_k hC dX12_blackmail_12 ?_
    refine zs_callS [.int v2, .int (nI 0), .int (nI 1)] hC cw_X12_in cl_RX12_96 (by decide) rfl rfl (Nat.le_of_ble_eq_true rfl) dX12_blackmail_13 (fun _ h => ctX12_in h) (fun r2 m2 _ hf => ?_) hf
    show zAW X 16 _ (.int r2 :: _) m2
    refine zs_if_ne hC dX12_blackmail_16 (fun _ hf => ?_) (fun _ hf => ?_) hf
    · refine zs_k hC dX12_blackmail_19 ?_
      exact zs_iret hC hret dX12_blackmail_20 hf
    · refine zs_al hC dX12_blackmail_21 rfl ?_
      refine zs_il hC dX12_blackmail_22 rfl ?_
      refine zs_callV [.int v1] hC cw_X12_laysBlackmail cl_RX12_329 zL60 rfl (by decide) rfl rfl (Nat.le_of_ble_eq_true rfl) dX12_blackmail_23 (fun _ h => ctX12_laysBlackmail h) (fun r3 m3 _ hf => ?_) hf
      show zAW X 26 _ _ m3
      refine zs_al hC dX12_blackmail_26 rfl ?_
      refine zs_getI hC fl_RX12_317 zL60 rfl dX12_blackmail_27 ?_
      refine zs_k hC dX12_blackmail_30 ?_
      refine zs_ic_ne hC dX12_blackmail_32 (fun _ hf => ?_) (fun _ hf => ?_) hf
      · refine zs_k hC dX12_blackmail_35 ?_
        exact zs_iret hC hret dX12_blackmail_37 hf
      · refine zs_il hC dX12_blackmail_38 rfl ?_
        refine zs_if_ne hC dX12_blackmail_39 (fun _ hf => ?_) (fun _ hf => ?_) hf
        · refine zs_al hC dX12_blackmail_42 rfl ?_
          refine zs_getI hC fl_RX12_317 zL60 rfl dX12_blackmail_43 ?_
          refine zs_goto hC dX12_blackmail_46 ?_
          exact zs_iret hC hret dX12_blackmail_53 hf
        · refine zs_al hC dX12_blackmail_49 rfl ?_
          refine zs_getI hC fl_RX12_320 zL60 rfl dX12_blackmail_50 ?_
          exact zs_iret hC hret dX12_blackmail_53 hf
set_option maxRecDepth 20000 in
set_option maxHeartbeats 4000000 in
theorem ctX12_blackmail {E : zEV} {F : Nat} {v1 : Int32} {v2 : Int32} {μ : zMem} {out : zR} (hf : fX12_blackmail F v1 v2 μ = some out) : zCt E yX12_blackmail cX12_blackmail 3 (some .int) 4 [.ref 60, .int v1, .int v2] μ out :=
  zCt.of [some (.ref 60), some (.int v1), some (.int v2)] (by decide +kernel) (Nat.le_of_ble_eq_true rfl) (zLw_s (zLw_s (zLw_s zLw_0))) rfl (fun X hE ho hr hC => by
    subst hE; subst ho
    exact wX12_blackmail hC hr hf)
/-! X12_oftenPrinted -/
def fX12_oftenPrinted_17 (F : Nat) (k5 : Int32 → Int32 → Int32 → Int32 → zMem → Option zR) : Nat → Int32 → Int32 → Int32 → Int32 → Int32 → zMem → Option zR
  | 0, _, _, _, _, _, _ => none
  | n + 1, v1, v2, v3, v4, v5, μ => zBd (fX12_issueOf F v4 μ) (fun r2 m2 => zG ((nI 64) + r2) 1047 (if (m2 61 ((nI 64) + r2).toNatClampNeg) ≤ v5 then k5 v1 v2 v3 (v4 + (nI 1)) m2 else zBd (fX12_printedOf F v4 v5 (nI 1) m2) (fun r3 m3 => if r3 = v2 then if v1 = (-1 : Int32) then fX12_oftenPrinted_17 F k5 n v1 v2 (v3 + (nI 1)) v4 (v5 + (nI 1)) m3 else zBd (fX12_printedOf F v4 v5 (nI 0) m3) (fun r4 m4 => if r4 = v1 then fX12_oftenPrinted_17 F k5 n v1 v2 (v3 + (nI 1)) v4 (v5 + (nI 1)) m4 else fX12_oftenPrinted_17 F k5 n v1 v2 v3 v4 (v5 + (nI 1)) m4) else fX12_oftenPrinted_17 F k5 n v1 v2 v3 v4 (v5 + (nI 1)) m3)))
def fX12_oftenPrinted_5 (F : Nat) : Nat → Int32 → Int32 → Int32 → Int32 → zMem → Option zR
  | 0, _, _, _, _, _ => none
  | n + 1, v1, v2, v3, v4, μ => zBd (fX12_backMany F μ) (fun r1 m1 => if r1 < v4 then some (v3, m1) else fX12_oftenPrinted_17 F (fX12_oftenPrinted_5 F n) F v1 v2 v3 v4 (nI 0) m1)
def fX12_oftenPrinted (F : Nat) (v1 : Int32) (v2 : Int32) (μ : zMem) : Option zR :=
  fX12_oftenPrinted_5 F F v1 v2 (nI 0) (nI 1) μ
set_option maxRecDepth 20000 in
set_option maxHeartbeats 4000000 in
theorem wX12_oftenPrinted_17 {X : zX} {F : Nat} (hC : zCx X RX12 cX12_oftenPrinted 6 2) (hret : zRt X (some .int)) {k5 : Int32 → Int32 → Int32 → Int32 → zMem → Option zR} (hk5 : ∀ v1 v2 v3 v4 μ, k5 v1 v2 v3 v4 μ = some (zOut X) → zAW X 5 [some (.ref 60), some (.int v1), some (.int v2), some (.int v3), some (.int v4), none] [] μ) : ∀ (n : Nat) (v1 : Int32) (v2 : Int32) (v3 : Int32) (v4 : Int32) (v5 : Int32) (μ : zMem), fX12_oftenPrinted_17 F k5 n v1 v2 v3 v4 v5 μ = some (zOut X) → zAW X 17 [some (.ref 60), some (.int v1), some (.int v2), some (.int v3), some (.int v4), some (.int v5)] [] μ := by
  intro n
  induction n with
  | zero =>
    intro v1 v2 v3 v4 v5 μ hf
    rw [fX12_oftenPrinted_17] at hf
    cases hf
  | succ n ih =>
    intro v1 v2 v3 v4 v5 μ hf
    rw [fX12_oftenPrinted_17] at hf
    refine zs_il hC dX12_oftenPrinted_17 rfl ?_
    refine zs_al hC dX12_oftenPrinted_19 rfl ?_
    refine zs_getR 61 hC fl_RX12_7 zL60 rfl dX12_oftenPrinted_20 ?_
    refine zs_k hC dX12_oftenPrinted_23 ?_
    refine zs_al hC dX12_oftenPrinted_25 rfl ?_
    refine zs_il hC dX12_oftenPrinted_26 rfl ?_
    refine zs_callV [.int v4] hC cw_X12_issueOf cl_RX12_311 zL60 rfl (by decide) rfl rfl (Nat.le_of_ble_eq_true rfl) dX12_oftenPrinted_28 (fun _ h => ctX12_issueOf h) (fun r2 m2 _ hf => ?_) hf
    show zAW X 31 _ (.int r2 :: _) m2
    refine zs_iadd hC dX12_oftenPrinted_31 ?_
    refine zs_iald hC zL61 dX12_oftenPrinted_32 (fun _ hf => ?_) hf
    refine zs_ic_ge hC dX12_oftenPrinted_33 (fun _ hf => ?_) (fun _ hf => ?_) hf
    · refine zs_iinc (nI 1) hC dX12_oftenPrinted_77 (by decide) rfl (by decide) rfl ?_
      refine zs_goto hC dX12_oftenPrinted_80 ?_
      exact zAW.weak (hk5 _ _ _ _ _ hf) (zLw_s (zLw_s (zLw_s (zLw_s (zLw_s (zLw_n zLw_0))))))
    · refine zs_al hC dX12_oftenPrinted_36 rfl ?_
      refine zs_il hC dX12_oftenPrinted_37 rfl ?_
      refine zs_il hC dX12_oftenPrinted_39 rfl ?_
      refine zs_k hC dX12_oftenPrinted_41 ?_
      refine zs_callV [.int v4, .int v5, .int (nI 1)] hC cw_X12_printedOf cl_RX12_314 zL60 rfl (by decide) rfl rfl (Nat.le_of_ble_eq_true rfl) dX12_oftenPrinted_42 (fun _ h => ctX12_printedOf h) (fun r3 m3 _ hf => ?_) hf
      show zAW X 45 _ (.int r3 :: _) m3
      refine zs_il hC dX12_oftenPrinted_45 rfl ?_
      refine zs_ic_ne hC dX12_oftenPrinted_46 (fun _ hf => ?_) (fun _ hf => ?_) hf
      · refine zs_il hC dX12_oftenPrinted_49 rfl ?_
        refine zs_k hC dX12_oftenPrinted_50 ?_
        refine zs_ic_eq hC dX12_oftenPrinted_51 (fun _ hf => ?_) (fun _ hf => ?_) hf
        · refine zs_il hC dX12_oftenPrinted_67 rfl ?_
          refine zs_k hC dX12_oftenPrinted_68 ?_
          refine zs_iadd hC dX12_oftenPrinted_69 ?_
          refine zs_is hC dX12_oftenPrinted_70 (by decide) rfl ?_
          refine zs_iinc (nI 1) hC dX12_oftenPrinted_71 (by decide) rfl (by decide) rfl ?_
          refine zs_goto hC dX12_oftenPrinted_74 ?_
          exact zAW.weak (ih _ _ _ _ _ _ hf) (zLw_s (zLw_s (zLw_s (zLw_s (zLw_s (zLw_s zLw_0))))))
        · refine zs_al hC dX12_oftenPrinted_54 rfl ?_
          refine zs_il hC dX12_oftenPrinted_55 rfl ?_
          refine zs_il hC dX12_oftenPrinted_57 rfl ?_
          refine zs_k hC dX12_oftenPrinted_59 ?_
          refine zs_callV [.int v4, .int v5, .int (nI 0)] hC cw_X12_printedOf cl_RX12_314 zL60 rfl (by decide) rfl rfl (Nat.le_of_ble_eq_true rfl) dX12_oftenPrinted_60 (fun _ h => ctX12_printedOf h) (fun r4 m4 _ hf => ?_) hf
          show zAW X 63 _ (.int r4 :: _) m4
          refine zs_il hC dX12_oftenPrinted_63 rfl ?_
          refine zs_ic_ne hC dX12_oftenPrinted_64 (fun _ hf => ?_) (fun _ hf => ?_) hf
          · refine zs_il hC dX12_oftenPrinted_67 rfl ?_
            refine zs_k hC dX12_oftenPrinted_68 ?_
            refine zs_iadd hC dX12_oftenPrinted_69 ?_
            refine zs_is hC dX12_oftenPrinted_70 (by decide) rfl ?_
            refine zs_iinc (nI 1) hC dX12_oftenPrinted_71 (by decide) rfl (by decide) rfl ?_
            refine zs_goto hC dX12_oftenPrinted_74 ?_
            exact zAW.weak (ih _ _ _ _ _ _ hf) (zLw_s (zLw_s (zLw_s (zLw_s (zLw_s (zLw_s zLw_0))))))
          · refine zs_iinc (nI 1) hC dX12_oftenPrinted_71 (by decide) rfl (by decide) rfl ?_
            refine zs_goto hC dX12_oftenPrinted_74 ?_
            exact zAW.weak (ih _ _ _ _ _ _ hf) (zLw_s (zLw_s (zLw_s (zLw_s (zLw_s (zLw_s zLw_0))))))
      · refine zs_iinc (nI 1) hC dX12_oftenPrinted_71 (by decide) rfl (by decide) rfl ?_
        refine zs_goto hC dX12_oftenPrinted_74 ?_
        exact zAW.weak (ih _ _ _ _ _ _ hf) (zLw_s (zLw_s (zLw_s (zLw_s (zLw_s (zLw_s zLw_0))))))
set_option maxRecDepth 20000 in
set_option maxHeartbeats 4000000 in
theorem wX12_oftenPrinted_5 {X : zX} {F : Nat} (hC : zCx X RX12 cX12_oftenPrinted 6 2) (hret : zRt X (some .int)) : ∀ (n : Nat) (v1 : Int32) (v2 : Int32) (v3 : Int32) (v4 : Int32) (μ : zMem), fX12_oftenPrinted_5 F n v1 v2 v3 v4 μ = some (zOut X) → zAW X 5 [some (.ref 60), some (.int v1), some (.int v2), some (.int v3), some (.int v4), none] [] μ := by
  intro n
  induction n with
  | zero =>
    intro v1 v2 v3 v4 μ hf
    rw [fX12_oftenPrinted_5] at hf
    cases hf
  | succ n ih =>
    intro v1 v2 v3 v4 μ hf
    rw [fX12_oftenPrinted_5] at hf
    refine zs_il hC dX12_oftenPrinted_5 rfl ?_
    refine zs_al hC dX12_oftenPrinted_7 rfl ?_
    refine zs_callV [] hC cw_X12_backMany cl_RX12_323 zL60 rfl (by decide) rfl rfl (Nat.le_of_ble_eq_true rfl) dX12_oftenPrinted_8 (fun _ h => ctX12_backMany h) (fun r1 m1 _ hf => ?_) hf
    show zAW X 11 _ (.int r1 :: _) m1
    refine zs_ic_gt hC dX12_oftenPrinted_11 (fun _ hf => ?_) (fun _ hf => ?_) hf
    · refine zs_il hC dX12_oftenPrinted_83 rfl ?_
      exact zs_iret hC hret dX12_oftenPrinted_84 hf
    · refine zs_k hC dX12_oftenPrinted_14 ?_
      refine zs_is hC dX12_oftenPrinted_15 (by decide) rfl ?_
      exact zAW.weak (wX12_oftenPrinted_17 hC hret (ih) F _ _ _ _ _ _ hf) (zLw_s (zLw_s (zLw_s (zLw_s (zLw_s (zLw_s zLw_0))))))
set_option maxRecDepth 20000 in
set_option maxHeartbeats 4000000 in
theorem wX12_oftenPrinted {X : zX} {F : Nat} (hC : zCx X RX12 cX12_oftenPrinted 6 2) (hret : zRt X (some .int)) {v1 : Int32} {v2 : Int32} {μ : zMem} (hf : fX12_oftenPrinted F v1 v2 μ = some (zOut X)) : zAW X 0 [some (.ref 60), some (.int v1), some (.int v2), none, none, none] [] μ := by
  unfold fX12_oftenPrinted at hf
  refine zs_k hC dX12_oftenPrinted_0 ?_
  refine zs_is hC dX12_oftenPrinted_1 (by decide) rfl ?_
  refine zs_k hC dX12_oftenPrinted_2 ?_
  refine zs_is hC dX12_oftenPrinted_3 (by decide) rfl ?_
  exact zAW.weak (wX12_oftenPrinted_5 hC hret F _ _ _ _ _ hf) (zLw_s (zLw_s (zLw_s (zLw_s (zLw_s (zLw_n zLw_0))))))
set_option maxRecDepth 20000 in
set_option maxHeartbeats 4000000 in
theorem ctX12_oftenPrinted {E : zEV} {F : Nat} {v1 : Int32} {v2 : Int32} {μ : zMem} {out : zR} (hf : fX12_oftenPrinted F v1 v2 μ = some out) : zCt E yX12_oftenPrinted cX12_oftenPrinted 6 (some .int) 2 [.ref 60, .int v1, .int v2] μ out :=
  zCt.of [some (.ref 60), some (.int v1), some (.int v2), none, none, none] (by decide +kernel) (Nat.le_of_ble_eq_true rfl) (zLw_s (zLw_s (zLw_s (zLw_e (zLw_e (zLw_e zLw_0)))))) rfl (fun X hE ho hr hC => by
    subst hE; subst ho
    exact wX12_oftenPrinted hC hr hf)
/-! X12_mostPrinted -/
def fX12_mostPrinted_19 (F : Nat) : Nat → Int32 → Int32 → Int32 → Int32 → zMem → Option zR
  | 0, _, _, _, _, _ => none
  | n + 1, v1, v2, v3, v4, μ => if (nI 16) ≤ v4 then if v1 = 0 then some (v2, μ) else some (v3, μ) else zBd (fX12_oftenPrinted F (-1 : Int32) v4 μ) (fun r1 m1 => if v3 < r1 then zBd (fX12_oftenPrinted F (-1 : Int32) v4 m1) (fun r2 m2 => fX12_mostPrinted_19 F n v1 v4 r2 (v4 + (nI 1)) m2) else fX12_mostPrinted_19 F n v1 v2 v3 (v4 + (nI 1)) m1)
def fX12_mostPrinted (F : Nat) (v1 : Int32) (μ : zMem) : Option zR :=
  zBd (fX12_in F v1 (nI 0) (nI 1) μ) (fun r1 m1 => if r1 = 0 then some ((-1 : Int32), m1) else fX12_mostPrinted_19 F F v1 (-2 : Int32) (nI 0) (nI 0) m1)
set_option maxRecDepth 20000 in
set_option maxHeartbeats 4000000 in
theorem wX12_mostPrinted_19 {X : zX} {F : Nat} (hC : zCx X RX12 cX12_mostPrinted 5 3) (hret : zRt X (some .int)) : ∀ (n : Nat) (v1 : Int32) (v2 : Int32) (v3 : Int32) (v4 : Int32) (μ : zMem), fX12_mostPrinted_19 F n v1 v2 v3 v4 μ = some (zOut X) → zAW X 19 [some (.ref 60), some (.int v1), some (.int v2), some (.int v3), some (.int v4)] [] μ := by
  intro n
  induction n with
  | zero =>
    intro v1 v2 v3 v4 μ hf
    rw [fX12_mostPrinted_19] at hf
    cases hf
  | succ n ih =>
    intro v1 v2 v3 v4 μ hf
    rw [fX12_mostPrinted_19] at hf
    refine zs_il hC dX12_mostPrinted_19 rfl ?_
    refine zs_k hC dX12_mostPrinted_21 ?_
    refine zs_ic_ge hC dX12_mostPrinted_23 (fun _ hf => ?_) (fun _ hf => ?_) hf
    · refine zs_il hC dX12_mostPrinted_57 rfl ?_
      refine zs_if_ne hC dX12_mostPrinted_58 (fun _ hf => ?_) (fun _ hf => ?_) hf
      · refine zs_il hC dX12_mostPrinted_61 rfl ?_
        refine zs_goto hC dX12_mostPrinted_62 ?_
        exact zs_iret hC hret dX12_mostPrinted_66 hf
      · refine zs_il hC dX12_mostPrinted_65 rfl ?_
        exact zs_iret hC hret dX12_mostPrinted_66 hf
    · refine zs_al hC dX12_mostPrinted_26 rfl ?_
      refine zs_k hC dX12_mostPrinted_27 ?_
      refine zs_il hC dX12_mostPrinted_28 rfl ?_
      refine zs_callV [.int (-1 : Int32), .int v4] hC cw_X12_oftenPrinted cl_RX12_332 zL60 rfl (by decide) rfl rfl (Nat.le_of_ble_eq_true rfl) dX12_mostPrinted_30 (fun _ h => ctX12_oftenPrinted h) (fun r1 m1 _ hf => ?_) hf
      show zAW X 33 _ (.int r1 :: _) m1
      refine zs_il hC dX12_mostPrinted_33 rfl ?_
      refine zs_ic_gt hC dX12_mostPrinted_34 (fun _ hf => ?_) (fun _ hf => ?_) hf
      · refine zs_al hC dX12_mostPrinted_40 rfl ?_
        refine zs_k hC dX12_mostPrinted_41 ?_
        refine zs_il hC dX12_mostPrinted_42 rfl ?_
        refine zs_callV [.int (-1 : Int32), .int v4] hC cw_X12_oftenPrinted cl_RX12_332 zL60 rfl (by decide) rfl rfl (Nat.le_of_ble_eq_true rfl) dX12_mostPrinted_44 (fun _ h => ctX12_oftenPrinted h) (fun r2 m2 _ hf => ?_) hf
        show zAW X 47 _ (.int r2 :: _) m2
        refine zs_is hC dX12_mostPrinted_47 (by decide) rfl ?_
        refine zs_il hC dX12_mostPrinted_48 rfl ?_
        refine zs_is hC dX12_mostPrinted_50 (by decide) rfl ?_
        refine zs_iinc (nI 1) hC dX12_mostPrinted_51 (by decide) rfl (by decide) rfl ?_
        refine zs_goto hC dX12_mostPrinted_54 ?_
        exact zAW.weak (ih _ _ _ _ _ hf) (zLw_s (zLw_s (zLw_s (zLw_s (zLw_s zLw_0)))))
      · refine zs_goto hC dX12_mostPrinted_37 ?_
        refine zs_iinc (nI 1) hC dX12_mostPrinted_51 (by decide) rfl (by decide) rfl ?_
        refine zs_goto hC dX12_mostPrinted_54 ?_
        exact zAW.weak (ih _ _ _ _ _ hf) (zLw_s (zLw_s (zLw_s (zLw_s (zLw_s zLw_0)))))
set_option maxRecDepth 20000 in
set_option maxHeartbeats 4000000 in
theorem wX12_mostPrinted {X : zX} {F : Nat} (hC : zCx X RX12 cX12_mostPrinted 5 3) (hret : zRt X (some .int)) {v1 : Int32} {μ : zMem} (hf : fX12_mostPrinted F v1 μ = some (zOut X)) : zAW X 0 [some (.ref 60), some (.int v1), none, none, none] [] μ := by
  unfold fX12_mostPrinted at hf
  refine zs_il hC dX12_mostPrinted_0 rfl ?_
  refine zs_k hC dX12_mostPrinted_1 ?_
  refine zs_k hC dX12_mostPrinted_2 ?_
  refine zs_callS [.int v1, .int (nI 0), .int (nI 1)] hC cw_X12_in cl_RX12_96 (by decide) rfl rfl (Nat.le_of_ble_eq_true rfl) dX12_mostPrinted_3 (fun _ h => ctX12_in h) (fun r1 m1 _ hf => ?_) hf
  show zAW X 6 _ (.int r1 :: _) m1
  refine zs_if_ne hC dX12_mostPrinted_6 (fun _ hf => ?_) (fun _ hf => ?_) hf
  · refine zs_k hC dX12_mostPrinted_9 ?_
    exact zs_iret hC hret dX12_mostPrinted_10 hf
  · refine zs_k hC dX12_mostPrinted_11 ?_
    refine zs_is hC dX12_mostPrinted_13 (by decide) rfl ?_
    refine zs_k hC dX12_mostPrinted_14 ?_
    refine zs_is hC dX12_mostPrinted_15 (by decide) rfl ?_
    refine zs_k hC dX12_mostPrinted_16 ?_
    refine zs_is hC dX12_mostPrinted_17 (by decide) rfl ?_
    exact zAW.weak (wX12_mostPrinted_19 hC hret F _ _ _ _ _ hf) (zLw_s (zLw_s (zLw_s (zLw_s (zLw_s zLw_0)))))
set_option maxRecDepth 20000 in
set_option maxHeartbeats 4000000 in
theorem ctX12_mostPrinted {E : zEV} {F : Nat} {v1 : Int32} {μ : zMem} {out : zR} (hf : fX12_mostPrinted F v1 μ = some out) : zCt E yX12_mostPrinted cX12_mostPrinted 5 (some .int) 3 [.ref 60, .int v1] μ out :=
  zCt.of [some (.ref 60), some (.int v1), none, none, none] (by decide +kernel) (Nat.le_of_ble_eq_true rfl) (zLw_s (zLw_s (zLw_e (zLw_e (zLw_e zLw_0))))) rfl (fun X hE ho hr hC => by
    subst hE; subst ho
    exact wX12_mostPrinted hC hr hf)
/-! X12_pair -/
def fX12_pair_33 (F : Nat) (k23 : Int32 → Int32 → Int32 → Int32 → Int32 → zMem → Option zR) : Nat → Int32 → Int32 → Int32 → Int32 → Int32 → Int32 → zMem → Option zR
  | 0, _, _, _, _, _, _, _ => none
  | n + 1, v1, v2, v3, v4, v5, v6, μ => if (nI 16) ≤ v6 then k23 v1 v2 v3 v4 (v5 + (nI 1)) μ else zBd (fX12_oftenPrinted F v5 v6 μ) (fun r1 m1 => if v4 < r1 then fX12_pair_33 F k23 n v1 v5 v6 r1 v5 (v6 + (nI 1)) m1 else fX12_pair_33 F k23 n v1 v2 v3 v4 v5 (v6 + (nI 1)) m1)
def fX12_pair_23 (F : Nat) : Nat → Int32 → Int32 → Int32 → Int32 → Int32 → zMem → Option zR
  | 0, _, _, _, _, _, _ => none
  | n + 1, v1, v2, v3, v4, v5, μ => if (nI 16) ≤ v5 then if v1 = 0 then some (v2, μ) else if v1 = (nI 1) then some (v3, μ) else some (v4, μ) else fX12_pair_33 F (fX12_pair_23 F n) F v1 v2 v3 v4 v5 (nI 0) μ
def fX12_pair (F : Nat) (v1 : Int32) (μ : zMem) : Option zR :=
  zBd (fX12_in F v1 (nI 0) (nI 2) μ) (fun r1 m1 => if r1 = 0 then some ((-1 : Int32), m1) else fX12_pair_23 F F v1 (-2 : Int32) (-2 : Int32) (nI 0) (nI 0) m1)
set_option maxRecDepth 20000 in
set_option maxHeartbeats 4000000 in
theorem wX12_pair_33 {X : zX} {F : Nat} (hC : zCx X RX12 cX12_pair 8 3) (hret : zRt X (some .int)) {k23 : Int32 → Int32 → Int32 → Int32 → Int32 → zMem → Option zR} (hk23 : ∀ v1 v2 v3 v4 v5 μ, k23 v1 v2 v3 v4 v5 μ = some (zOut X) → zAW X 23 [some (.ref 60), some (.int v1), some (.int v2), some (.int v3), some (.int v4), some (.int v5), none, none] [] μ) : ∀ (n : Nat) (v1 : Int32) (v2 : Int32) (v3 : Int32) (v4 : Int32) (v5 : Int32) (v6 : Int32) (μ : zMem), fX12_pair_33 F k23 n v1 v2 v3 v4 v5 v6 μ = some (zOut X) → zAW X 33 [some (.ref 60), some (.int v1), some (.int v2), some (.int v3), some (.int v4), some (.int v5), some (.int v6), none] [] μ := by
  intro n
  induction n with
  | zero =>
    intro v1 v2 v3 v4 v5 v6 μ hf
    rw [fX12_pair_33] at hf
    cases hf
  | succ n ih =>
    intro v1 v2 v3 v4 v5 v6 μ hf
    rw [fX12_pair_33] at hf
    refine zs_il hC dX12_pair_33 rfl ?_
    refine zs_k hC dX12_pair_35 ?_
    refine zs_ic_ge hC dX12_pair_37 (fun _ hf => ?_) (fun _ hf => ?_) hf
    · refine zs_iinc (nI 1) hC dX12_pair_76 (by decide) rfl (by decide) rfl ?_
      refine zs_goto hC dX12_pair_79 ?_
      exact zAW.weak (hk23 _ _ _ _ _ _ hf) (zLw_s (zLw_s (zLw_s (zLw_s (zLw_s (zLw_s (zLw_n (zLw_n zLw_0))))))))
    · refine zs_al hC dX12_pair_40 rfl ?_
      refine zs_il hC dX12_pair_41 rfl ?_
      refine zs_il hC dX12_pair_43 rfl ?_
      refine zs_callV [.int v5, .int v6] hC cw_X12_oftenPrinted cl_RX12_332 zL60 rfl (by decide) rfl rfl (Nat.le_of_ble_eq_true rfl) dX12_pair_45 (fun _ h => ctX12_oftenPrinted h) (fun r1 m1 _ hf => ?_) hf
      show zAW X 48 _ (.int r1 :: _) m1
      refine zs_is hC dX12_pair_48 (by decide) rfl ?_
      refine zs_il hC dX12_pair_50 rfl ?_
      refine zs_il hC dX12_pair_52 rfl ?_
      refine zs_ic_gt hC dX12_pair_54 (fun _ hf => ?_) (fun _ hf => ?_) hf
      · refine zs_il hC dX12_pair_60 rfl ?_
        refine zs_is hC dX12_pair_62 (by decide) rfl ?_
        refine zs_il hC dX12_pair_64 rfl ?_
        refine zs_is hC dX12_pair_66 (by decide) rfl ?_
        refine zs_il hC dX12_pair_67 rfl ?_
        refine zs_is hC dX12_pair_69 (by decide) rfl ?_
        refine zs_iinc (nI 1) hC dX12_pair_70 (by decide) rfl (by decide) rfl ?_
        refine zs_goto hC dX12_pair_73 ?_
        exact zAW.weak (ih _ _ _ _ _ _ _ hf) (zLw_s (zLw_s (zLw_s (zLw_s (zLw_s (zLw_s (zLw_s (zLw_n zLw_0))))))))
      · refine zs_goto hC dX12_pair_57 ?_
        refine zs_iinc (nI 1) hC dX12_pair_70 (by decide) rfl (by decide) rfl ?_
        refine zs_goto hC dX12_pair_73 ?_
        exact zAW.weak (ih _ _ _ _ _ _ _ hf) (zLw_s (zLw_s (zLw_s (zLw_s (zLw_s (zLw_s (zLw_s (zLw_n zLw_0))))))))
set_option maxRecDepth 20000 in
set_option maxHeartbeats 4000000 in
theorem wX12_pair_23 {X : zX} {F : Nat} (hC : zCx X RX12 cX12_pair 8 3) (hret : zRt X (some .int)) : ∀ (n : Nat) (v1 : Int32) (v2 : Int32) (v3 : Int32) (v4 : Int32) (v5 : Int32) (μ : zMem), fX12_pair_23 F n v1 v2 v3 v4 v5 μ = some (zOut X) → zAW X 23 [some (.ref 60), some (.int v1), some (.int v2), some (.int v3), some (.int v4), some (.int v5), none, none] [] μ := by
  intro n
  induction n with
  | zero =>
    intro v1 v2 v3 v4 v5 μ hf
    rw [fX12_pair_23] at hf
    cases hf
  | succ n ih =>
    intro v1 v2 v3 v4 v5 μ hf
    rw [fX12_pair_23] at hf
    refine zs_il hC dX12_pair_23 rfl ?_
    refine zs_k hC dX12_pair_25 ?_
    refine zs_ic_ge hC dX12_pair_27 (fun _ hf => ?_) (fun _ hf => ?_) hf
    · refine zs_il hC dX12_pair_82 rfl ?_
      refine zs_if_ne hC dX12_pair_83 (fun _ hf => ?_) (fun _ hf => ?_) hf
      · refine zs_il hC dX12_pair_86 rfl ?_
        refine zs_goto hC dX12_pair_87 ?_
        exact zs_iret hC hret dX12_pair_101 hf
      · refine zs_il hC dX12_pair_90 rfl ?_
        refine zs_k hC dX12_pair_91 ?_
        refine zs_ic_ne hC dX12_pair_92 (fun _ hf => ?_) (fun _ hf => ?_) hf
        · refine zs_il hC dX12_pair_95 rfl ?_
          refine zs_goto hC dX12_pair_96 ?_
          exact zs_iret hC hret dX12_pair_101 hf
        · refine zs_il hC dX12_pair_99 rfl ?_
          exact zs_iret hC hret dX12_pair_101 hf
    · refine zs_k hC dX12_pair_30 ?_
      refine zs_is hC dX12_pair_31 (by decide) rfl ?_
      exact zAW.weak (wX12_pair_33 hC hret (ih) F _ _ _ _ _ _ _ hf) (zLw_s (zLw_s (zLw_s (zLw_s (zLw_s (zLw_s (zLw_s (zLw_n zLw_0))))))))
set_option maxRecDepth 20000 in
set_option maxHeartbeats 4000000 in
theorem wX12_pair {X : zX} {F : Nat} (hC : zCx X RX12 cX12_pair 8 3) (hret : zRt X (some .int)) {v1 : Int32} {μ : zMem} (hf : fX12_pair F v1 μ = some (zOut X)) : zAW X 0 [some (.ref 60), some (.int v1), none, none, none, none, none, none] [] μ := by
  unfold fX12_pair at hf
  refine zs_il hC dX12_pair_0 rfl ?_
  refine zs_k hC dX12_pair_1 ?_
  refine zs_k hC dX12_pair_2 ?_
  refine zs_callS [.int v1, .int (nI 0), .int (nI 2)] hC cw_X12_in cl_RX12_96 (by decide) rfl rfl (Nat.le_of_ble_eq_true rfl) dX12_pair_3 (fun _ h => ctX12_in h) (fun r1 m1 _ hf => ?_) hf
  show zAW X 6 _ (.int r1 :: _) m1
  refine zs_if_ne hC dX12_pair_6 (fun _ hf => ?_) (fun _ hf => ?_) hf
  · refine zs_k hC dX12_pair_9 ?_
    exact zs_iret hC hret dX12_pair_10 hf
  · refine zs_k hC dX12_pair_11 ?_
    refine zs_is hC dX12_pair_13 (by decide) rfl ?_
    refine zs_k hC dX12_pair_14 ?_
    refine zs_is hC dX12_pair_16 (by decide) rfl ?_
    refine zs_k hC dX12_pair_17 ?_
    refine zs_is hC dX12_pair_18 (by decide) rfl ?_
    refine zs_k hC dX12_pair_20 ?_
    refine zs_is hC dX12_pair_21 (by decide) rfl ?_
    exact zAW.weak (wX12_pair_23 hC hret F _ _ _ _ _ _ hf) (zLw_s (zLw_s (zLw_s (zLw_s (zLw_s (zLw_s (zLw_n (zLw_n zLw_0))))))))
set_option maxRecDepth 20000 in
set_option maxHeartbeats 4000000 in
theorem ctX12_pair {E : zEV} {F : Nat} {v1 : Int32} {μ : zMem} {out : zR} (hf : fX12_pair F v1 μ = some out) : zCt E yX12_pair cX12_pair 8 (some .int) 3 [.ref 60, .int v1] μ out :=
  zCt.of [some (.ref 60), some (.int v1), none, none, none, none, none, none] (by decide +kernel) (Nat.le_of_ble_eq_true rfl) (zLw_s (zLw_s (zLw_e (zLw_e (zLw_e (zLw_e (zLw_e (zLw_e zLw_0)))))))) rfl (fun X hE ho hr hC => by
    subst hE; subst ho
    exact wX12_pair hC hr hf)
/-! X12_reached -/
def fX12_reached_38 (F : Nat) (k16 : Int32 → Int32 → Int32 → zMem → Option zR) (k26 : Int32 → Int32 → Int32 → Int32 → zMem → Option zR) : Nat → Int32 → Int32 → Int32 → Int32 → Int32 → zMem → Option zR
  | 0, _, _, _, _, _, _ => none
  | n + 1, v1, v2, v3, v4, v5, μ => zBd (fX12_issueOf F v4 μ) (fun r2 m2 => zG ((nI 64) + r2) 1047 (if (m2 61 ((nI 64) + r2).toNatClampNeg) ≤ v5 then k26 v1 v2 v3 (v4 + (nI 1)) m2 else zBd (fX12_printedOf F v4 v5 (nI 0) m2) (fun r3 m3 => zBd (fX12_has F (v3 ||| ((nI 1) <<< (v1 &&& 31))) r3 m3) (fun r4 m4 => if r4 = 0 then fX12_reached_38 F k16 k26 n v1 v2 v3 v4 (v5 + (nI 1)) m4 else zBd (fX12_printedOf F v4 v5 (nI 1) m4) (fun r5 m5 => fX12_reached_38 F k16 k26 n v1 (v2 ||| ((nI 1) <<< (r5 &&& 31))) v3 v4 (v5 + (nI 1)) m5)))))
def fX12_reached_26 (F : Nat) (k16 : Int32 → Int32 → Int32 → zMem → Option zR) : Nat → Int32 → Int32 → Int32 → Int32 → zMem → Option zR
  | 0, _, _, _, _, _ => none
  | n + 1, v1, v2, v3, v4, μ => zBd (fX12_backMany F μ) (fun r1 m1 => if r1 < v4 then k16 v1 v2 v3 m1 else fX12_reached_38 F k16 (fX12_reached_26 F k16 n) F v1 v2 v3 v4 (nI 0) m1)
def fX12_reached_16 (F : Nat) : Nat → Int32 → Int32 → Int32 → zMem → Option zR
  | 0, _, _, _, _ => none
  | n + 1, v1, v2, v3, μ => if v2 = v3 then some (v2, μ) else fX12_reached_26 F (fX12_reached_16 F n) F v1 v2 v2 (nI 1) μ
def fX12_reached (F : Nat) (v1 : Int32) (μ : zMem) : Option zR :=
  zBd (fX12_in F v1 (nI 0) (nI 15) μ) (fun r1 m1 => if r1 = 0 then some ((-1 : Int32), m1) else fX12_reached_16 F F v1 (nI 0) (-1 : Int32) m1)
set_option maxRecDepth 20000 in
set_option maxHeartbeats 4000000 in
theorem wX12_reached_38 {X : zX} {F : Nat} (hC : zCx X RX12 cX12_reached 6 2) (hret : zRt X (some .int)) {k16 : Int32 → Int32 → Int32 → zMem → Option zR} (hk16 : ∀ v1 v2 v3 μ, k16 v1 v2 v3 μ = some (zOut X) → zAW X 16 [some (.ref 60), some (.int v1), some (.int v2), some (.int v3), none, none] [] μ) {k26 : Int32 → Int32 → Int32 → Int32 → zMem → Option zR} (hk26 : ∀ v1 v2 v3 v4 μ, k26 v1 v2 v3 v4 μ = some (zOut X) → zAW X 26 [some (.ref 60), some (.int v1), some (.int v2), some (.int v3), some (.int v4), none] [] μ) : ∀ (n : Nat) (v1 : Int32) (v2 : Int32) (v3 : Int32) (v4 : Int32) (v5 : Int32) (μ : zMem), fX12_reached_38 F k16 k26 n v1 v2 v3 v4 v5 μ = some (zOut X) → zAW X 38 [some (.ref 60), some (.int v1), some (.int v2), some (.int v3), some (.int v4), some (.int v5)] [] μ := by
  intro n
  induction n with
  | zero =>
    intro v1 v2 v3 v4 v5 μ hf
    rw [fX12_reached_38] at hf
    cases hf
  | succ n ih =>
    intro v1 v2 v3 v4 v5 μ hf
    rw [fX12_reached_38] at hf
    refine zs_il hC dX12_reached_38 rfl ?_
    refine zs_al hC dX12_reached_40 rfl ?_
    refine zs_getR 61 hC fl_RX12_7 zL60 rfl dX12_reached_41 ?_
    refine zs_k hC dX12_reached_44 ?_
    refine zs_al hC dX12_reached_46 rfl ?_
    refine zs_il hC dX12_reached_47 rfl ?_
    refine zs_callV [.int v4] hC cw_X12_issueOf cl_RX12_311 zL60 rfl (by decide) rfl rfl (Nat.le_of_ble_eq_true rfl) dX12_reached_49 (fun _ h => ctX12_issueOf h) (fun r2 m2 _ hf => ?_) hf
    show zAW X 52 _ (.int r2 :: _) m2
    refine zs_iadd hC dX12_reached_52 ?_
    refine zs_iald hC zL61 dX12_reached_53 (fun _ hf => ?_) hf
    refine zs_ic_ge hC dX12_reached_54 (fun _ hf => ?_) (fun _ hf => ?_) hf
    · refine zs_iinc (nI 1) hC dX12_reached_97 (by decide) rfl (by decide) rfl ?_
      refine zs_goto hC dX12_reached_100 ?_
      exact zAW.weak (hk26 _ _ _ _ _ hf) (zLw_s (zLw_s (zLw_s (zLw_s (zLw_s (zLw_n zLw_0))))))
    · refine zs_il hC dX12_reached_57 rfl ?_
      refine zs_k hC dX12_reached_58 ?_
      refine zs_il hC dX12_reached_59 rfl ?_
      refine zs_ishl hC dX12_reached_60 ?_
      refine zs_ior hC dX12_reached_61 ?_
      refine zs_al hC dX12_reached_62 rfl ?_
      refine zs_il hC dX12_reached_63 rfl ?_
      refine zs_il hC dX12_reached_65 rfl ?_
      refine zs_k hC dX12_reached_67 ?_
      refine zs_callV [.int v4, .int v5, .int (nI 0)] hC cw_X12_printedOf cl_RX12_314 zL60 rfl (by decide) rfl rfl (Nat.le_of_ble_eq_true rfl) dX12_reached_68 (fun _ h => ctX12_printedOf h) (fun r3 m3 _ hf => ?_) hf
      show zAW X 71 _ (.int r3 :: _) m3
      refine zs_callS [.int (v3 ||| ((nI 1) <<< (v1 &&& 31))), .int r3] hC cw_X12_has cl_RX12_268 (by decide) rfl rfl (Nat.le_of_ble_eq_true rfl) dX12_reached_71 (fun _ h => ctX12_has h) (fun r4 m4 _ hf => ?_) hf
      show zAW X 74 _ (.int r4 :: _) m4
      refine zs_if_eq hC dX12_reached_74 (fun _ hf => ?_) (fun _ hf => ?_) hf
      · refine zs_iinc (nI 1) hC dX12_reached_91 (by decide) rfl (by decide) rfl ?_
        refine zs_goto hC dX12_reached_94 ?_
        exact zAW.weak (ih _ _ _ _ _ _ hf) (zLw_s (zLw_s (zLw_s (zLw_s (zLw_s (zLw_s zLw_0))))))
      · refine zs_il hC dX12_reached_77 rfl ?_
        refine zs_k hC dX12_reached_78 ?_
        refine zs_al hC dX12_reached_79 rfl ?_
        refine zs_il hC dX12_reached_80 rfl ?_
        refine zs_il hC dX12_reached_82 rfl ?_
        refine zs_k hC dX12_reached_84 ?_
        refine zs_callV [.int v4, .int v5, .int (nI 1)] hC cw_X12_printedOf cl_RX12_314 zL60 rfl (by decide) rfl rfl (Nat.le_of_ble_eq_true rfl) dX12_reached_85 (fun _ h => ctX12_printedOf h) (fun r5 m5 _ hf => ?_) hf
        show zAW X 88 _ (.int r5 :: _) m5
        refine zs_ishl hC dX12_reached_88 ?_
        refine zs_ior hC dX12_reached_89 ?_
        refine zs_is hC dX12_reached_90 (by decide) rfl ?_
        refine zs_iinc (nI 1) hC dX12_reached_91 (by decide) rfl (by decide) rfl ?_
        refine zs_goto hC dX12_reached_94 ?_
        exact zAW.weak (ih _ _ _ _ _ _ hf) (zLw_s (zLw_s (zLw_s (zLw_s (zLw_s (zLw_s zLw_0))))))
set_option maxRecDepth 20000 in
set_option maxHeartbeats 4000000 in
theorem wX12_reached_26 {X : zX} {F : Nat} (hC : zCx X RX12 cX12_reached 6 2) (hret : zRt X (some .int)) {k16 : Int32 → Int32 → Int32 → zMem → Option zR} (hk16 : ∀ v1 v2 v3 μ, k16 v1 v2 v3 μ = some (zOut X) → zAW X 16 [some (.ref 60), some (.int v1), some (.int v2), some (.int v3), none, none] [] μ) : ∀ (n : Nat) (v1 : Int32) (v2 : Int32) (v3 : Int32) (v4 : Int32) (μ : zMem), fX12_reached_26 F k16 n v1 v2 v3 v4 μ = some (zOut X) → zAW X 26 [some (.ref 60), some (.int v1), some (.int v2), some (.int v3), some (.int v4), none] [] μ := by
  intro n
  induction n with
  | zero =>
    intro v1 v2 v3 v4 μ hf
    rw [fX12_reached_26] at hf
    cases hf
  | succ n ih =>
    intro v1 v2 v3 v4 μ hf
    rw [fX12_reached_26] at hf
    refine zs_il hC dX12_reached_26 rfl ?_
    refine zs_al hC dX12_reached_28 rfl ?_
    refine zs_callV [] hC cw_X12_backMany cl_RX12_323 zL60 rfl (by decide) rfl rfl (Nat.le_of_ble_eq_true rfl) dX12_reached_29 (fun _ h => ctX12_backMany h) (fun r1 m1 _ hf => ?_) hf
    show zAW X 32 _ (.int r1 :: _) m1
    refine zs_ic_gt hC dX12_reached_32 (fun _ hf => ?_) (fun _ hf => ?_) hf
    · refine zs_goto hC dX12_reached_103 ?_
      exact zAW.weak (hk16 _ _ _ _ hf) (zLw_s (zLw_s (zLw_s (zLw_s (zLw_n (zLw_n zLw_0))))))
    · refine zs_k hC dX12_reached_35 ?_
      refine zs_is hC dX12_reached_36 (by decide) rfl ?_
      exact zAW.weak (wX12_reached_38 hC hret hk16 (ih) F _ _ _ _ _ _ hf) (zLw_s (zLw_s (zLw_s (zLw_s (zLw_s (zLw_s zLw_0))))))
set_option maxRecDepth 20000 in
set_option maxHeartbeats 4000000 in
theorem wX12_reached_16 {X : zX} {F : Nat} (hC : zCx X RX12 cX12_reached 6 2) (hret : zRt X (some .int)) : ∀ (n : Nat) (v1 : Int32) (v2 : Int32) (v3 : Int32) (μ : zMem), fX12_reached_16 F n v1 v2 v3 μ = some (zOut X) → zAW X 16 [some (.ref 60), some (.int v1), some (.int v2), some (.int v3), none, none] [] μ := by
  intro n
  induction n with
  | zero =>
    intro v1 v2 v3 μ hf
    rw [fX12_reached_16] at hf
    cases hf
  | succ n ih =>
    intro v1 v2 v3 μ hf
    rw [fX12_reached_16] at hf
    refine zs_il hC dX12_reached_16 rfl ?_
    refine zs_il hC dX12_reached_17 rfl ?_
    refine zs_ic_eq hC dX12_reached_18 (fun _ hf => ?_) (fun _ hf => ?_) hf
    · refine zs_il hC dX12_reached_106 rfl ?_
      exact zs_iret hC hret dX12_reached_107 hf
    · refine zs_il hC dX12_reached_21 rfl ?_
      refine zs_is hC dX12_reached_22 (by decide) rfl ?_
      refine zs_k hC dX12_reached_23 ?_
      refine zs_is hC dX12_reached_24 (by decide) rfl ?_
      exact zAW.weak (wX12_reached_26 hC hret (ih) F _ _ _ _ _ hf) (zLw_s (zLw_s (zLw_s (zLw_s (zLw_s (zLw_n zLw_0))))))
set_option maxRecDepth 20000 in
set_option maxHeartbeats 4000000 in
theorem wX12_reached {X : zX} {F : Nat} (hC : zCx X RX12 cX12_reached 6 2) (hret : zRt X (some .int)) {v1 : Int32} {μ : zMem} (hf : fX12_reached F v1 μ = some (zOut X)) : zAW X 0 [some (.ref 60), some (.int v1), none, none, none, none] [] μ := by
  unfold fX12_reached at hf
  refine zs_il hC dX12_reached_0 rfl ?_
  refine zs_k hC dX12_reached_1 ?_
  refine zs_k hC dX12_reached_2 ?_
  refine zs_callS [.int v1, .int (nI 0), .int (nI 15)] hC cw_X12_in cl_RX12_96 (by decide) rfl rfl (Nat.le_of_ble_eq_true rfl) dX12_reached_4 (fun _ h => ctX12_in h) (fun r1 m1 _ hf => ?_) hf
  show zAW X 7 _ (.int r1 :: _) m1
  refine zs_if_ne hC dX12_reached_7 (fun _ hf => ?_) (fun _ hf => ?_) hf
  · refine zs_k hC dX12_reached_10 ?_
    exact zs_iret hC hret dX12_reached_11 hf
  · refine zs_k hC dX12_reached_12 ?_
    refine zs_is hC dX12_reached_13 (by decide) rfl ?_
    refine zs_k hC dX12_reached_14 ?_
    refine zs_is hC dX12_reached_15 (by decide) rfl ?_
    exact zAW.weak (wX12_reached_16 hC hret F _ _ _ _ hf) (zLw_s (zLw_s (zLw_s (zLw_s (zLw_n (zLw_n zLw_0))))))
set_option maxRecDepth 20000 in
set_option maxHeartbeats 4000000 in
theorem ctX12_reached {E : zEV} {F : Nat} {v1 : Int32} {μ : zMem} {out : zR} (hf : fX12_reached F v1 μ = some out) : zCt E yX12_reached cX12_reached 6 (some .int) 2 [.ref 60, .int v1] μ out :=
  zCt.of [some (.ref 60), some (.int v1), none, none, none, none] (by decide +kernel) (Nat.le_of_ble_eq_true rfl) (zLw_s (zLw_s (zLw_e (zLw_e (zLw_e (zLw_e zLw_0)))))) rfl (fun X hE ho hr hC => by
    subst hE; subst ho
    exact wX12_reached hC hr hf)
/-! X12_setsCopy -/
def fX12_setsCopy_166 (F : Nat) (k27 : Int32 → Int32 → zMem → Option zR) (k45 : Int32 → Int32 → Int32 → Int32 → zMem → Option zR) (v1 : Int32) (v2 : Int32) (v3 : Int32) (v4 : Int32) (v6 : Int32) (v7 : Int32) (μ : zMem) : Option zR :=
  zG v2 61 (zLt (zUp μ 84 v2.toNatClampNeg v6) (fun m2 => zG v2 61 (zLt (zUp m2 85 v2.toNatClampNeg v7) (fun m4 => zG v2 61 (zLt (zUp m4 86 v2.toNatClampNeg v4) (fun m6 => k45 v1 v2 v3 (v4 + (nI 1)) m6))))))
def fX12_setsCopy_98 (F : Nat) (k27 : Int32 → Int32 → zMem → Option zR) (k45 : Int32 → Int32 → Int32 → Int32 → zMem → Option zR) (v1 : Int32) (v2 : Int32) (v3 : Int32) (v4 : Int32) (s0 : Int32) (μ : zMem) : Option zR :=
  zG (v2 + v4) 61 (zG (v2 + v4) 61 (zG v2 61 (if (μ 84 v2.toNatClampNeg) < ((s0 * s0) + (μ 84 (v2 + v4).toNatClampNeg)) then k45 v1 v2 v3 (v4 + (nI 1)) μ else zG v2 61 (if ((s0 * s0) + (μ 84 (v2 + v4).toNatClampNeg)) = (μ 84 v2.toNatClampNeg) then zG v2 61 (if ((nI 1) + (μ 85 (v2 + v4).toNatClampNeg)) ≤ (μ 85 v2.toNatClampNeg) then fX12_setsCopy_166 F k27 k45 v1 v2 v3 v4 ((s0 * s0) + (μ 84 (v2 + v4).toNatClampNeg)) ((nI 1) + (μ 85 (v2 + v4).toNatClampNeg)) μ else k45 v1 v2 v3 (v4 + (nI 1)) μ) else fX12_setsCopy_166 F k27 k45 v1 v2 v3 v4 ((s0 * s0) + (μ 84 (v2 + v4).toNatClampNeg)) ((nI 1) + (μ 85 (v2 + v4).toNatClampNeg)) μ))))
def fX12_setsCopy_45 (F : Nat) (k27 : Int32 → Int32 → zMem → Option zR) : Nat → Int32 → Int32 → Int32 → Int32 → zMem → Option zR
  | 0, _, _, _, _, _ => none
  | n + 1, v1, v2, v3, v4, μ => if (μ 60 7) < (v2 + v4) then k27 v1 (v2 + (-1 : Int32)) μ else zG ((v2 + v4) - (nI 1)) 60 (if ((v3 + (nI 1)) + (μ 64 ((v2 + v4) - (nI 1)).toNatClampNeg)) ≤ v1 then if (v2 + v4) = (μ 60 7) then fX12_setsCopy_98 F k27 (fX12_setsCopy_45 F k27 n) v1 v2 ((v3 + (nI 1)) + (μ 64 ((v2 + v4) - (nI 1)).toNatClampNeg)) v4 (nI 0) μ else fX12_setsCopy_98 F k27 (fX12_setsCopy_45 F k27 n) v1 v2 ((v3 + (nI 1)) + (μ 64 ((v2 + v4) - (nI 1)).toNatClampNeg)) v4 (v1 - ((v3 + (nI 1)) + (μ 64 ((v2 + v4) - (nI 1)).toNatClampNeg))) μ else k27 v1 (v2 + (-1 : Int32)) μ)
def fX12_setsCopy_27 (F : Nat) : Nat → Int32 → Int32 → zMem → Option zR
  | 0, _, _, _ => none
  | n + 1, v1, v2, μ => if v2 < 0 then some ((nI 0), μ) else zG v2 61 (zLt (zUp μ 84 v2.toNatClampNeg (nI 1000000)) (fun m2 => fX12_setsCopy_45 F (fX12_setsCopy_27 F n) F v1 v2 (-1 : Int32) (nI 1) m2))
def fX12_setsCopy (F : Nat) (v1 : Int32) (μ : zMem) : Option zR :=
  zG (μ 60 7) 61 (zLt (zUp μ 84 (μ 60 7).toNatClampNeg (nI 0)) (fun m3 => zG (m3 60 7) 61 (zLt (zUp m3 85 (m3 60 7).toNatClampNeg (nI 0)) (fun m6 => fX12_setsCopy_27 F F v1 ((m6 60 7) - (nI 1)) m6))))
set_option maxRecDepth 20000 in
set_option maxHeartbeats 4000000 in
theorem wX12_setsCopy_166 {X : zX} {F : Nat} (hC : zCx X RX12 cX12_setsCopy 8 0) (hret : zRt X none) {k27 : Int32 → Int32 → zMem → Option zR} (hk27 : ∀ v1 v2 μ, k27 v1 v2 μ = some (zOut X) → zAW X 27 [some (.ref 60), some (.int v1), some (.int v2), none, none, none, none, none] [] μ) {k45 : Int32 → Int32 → Int32 → Int32 → zMem → Option zR} (hk45 : ∀ v1 v2 v3 v4 μ, k45 v1 v2 v3 v4 μ = some (zOut X) → zAW X 45 [some (.ref 60), some (.int v1), some (.int v2), some (.int v3), some (.int v4), none, none, none] [] μ) {v1 : Int32} {v2 : Int32} {v3 : Int32} {v4 : Int32} {v6 : Int32} {v7 : Int32} {μ : zMem} (hf : fX12_setsCopy_166 F k27 k45 v1 v2 v3 v4 v6 v7 μ = some (zOut X)) : zAW X 166 [some (.ref 60), some (.int v1), some (.int v2), some (.int v3), some (.int v4), none, some (.int v6), some (.int v7)] [] μ := by
  unfold fX12_setsCopy_166 at hf
  refine zs_al hC dX12_setsCopy_166 rfl ?_
  refine zs_getR 84 hC fl_RX12_81 zL60 rfl dX12_setsCopy_167 ?_
  refine zs_il hC dX12_setsCopy_170 rfl ?_
  refine zs_il hC dX12_setsCopy_171 rfl ?_
  refine zs_iast hC zL84 dX12_setsCopy_173 (fun _ hf => ?_) hf
  refine zs_let (fun m2 _ hf => ?_) hf
  refine zs_al hC dX12_setsCopy_174 rfl ?_
  refine zs_getR 85 hC fl_RX12_84 zL60 rfl dX12_setsCopy_175 ?_
  refine zs_il hC dX12_setsCopy_178 rfl ?_
  refine zs_il hC dX12_setsCopy_179 rfl ?_
  refine zs_iast hC zL85 dX12_setsCopy_181 (fun _ hf => ?_) hf
  refine zs_let (fun m4 _ hf => ?_) hf
  refine zs_al hC dX12_setsCopy_182 rfl ?_
  refine zs_getR 86 hC fl_RX12_87 zL60 rfl dX12_setsCopy_183 ?_
  refine zs_il hC dX12_setsCopy_186 rfl ?_
  refine zs_il hC dX12_setsCopy_187 rfl ?_
  refine zs_iast hC zL86 dX12_setsCopy_189 (fun _ hf => ?_) hf
  refine zs_let (fun m6 _ hf => ?_) hf
  refine zs_iinc (nI 1) hC dX12_setsCopy_190 (by decide) rfl (by decide) rfl ?_
  refine zs_goto hC dX12_setsCopy_193 ?_
  exact zAW.weak (hk45 _ _ _ _ _ hf) (zLw_s (zLw_s (zLw_s (zLw_s (zLw_s (zLw_n (zLw_n (zLw_n zLw_0))))))))
set_option maxRecDepth 20000 in
set_option maxHeartbeats 4000000 in
theorem wX12_setsCopy_98 {X : zX} {F : Nat} (hC : zCx X RX12 cX12_setsCopy 8 0) (hret : zRt X none) {k27 : Int32 → Int32 → zMem → Option zR} (hk27 : ∀ v1 v2 μ, k27 v1 v2 μ = some (zOut X) → zAW X 27 [some (.ref 60), some (.int v1), some (.int v2), none, none, none, none, none] [] μ) {k45 : Int32 → Int32 → Int32 → Int32 → zMem → Option zR} (hk45 : ∀ v1 v2 v3 v4 μ, k45 v1 v2 v3 v4 μ = some (zOut X) → zAW X 45 [some (.ref 60), some (.int v1), some (.int v2), some (.int v3), some (.int v4), none, none, none] [] μ) {v1 : Int32} {v2 : Int32} {v3 : Int32} {v4 : Int32} {s0 : Int32} {μ : zMem} (hf : fX12_setsCopy_98 F k27 k45 v1 v2 v3 v4 s0 μ = some (zOut X)) : zAW X 98 [some (.ref 60), some (.int v1), some (.int v2), some (.int v3), some (.int v4), none, none, none] [.int s0] μ := by
  unfold fX12_setsCopy_98 at hf
  refine zs_is hC dX12_setsCopy_98 (by decide) rfl ?_
  refine zs_il hC dX12_setsCopy_100 rfl ?_
  refine zs_il hC dX12_setsCopy_102 rfl ?_
  refine zs_imul hC dX12_setsCopy_104 ?_
  refine zs_al hC dX12_setsCopy_105 rfl ?_
  refine zs_getR 84 hC fl_RX12_81 zL60 rfl dX12_setsCopy_106 ?_
  refine zs_il hC dX12_setsCopy_109 rfl ?_
  refine zs_il hC dX12_setsCopy_110 rfl ?_
  refine zs_iadd hC dX12_setsCopy_112 ?_
  refine zs_iald hC zL84 dX12_setsCopy_113 (fun _ hf => ?_) hf
  refine zs_iadd hC dX12_setsCopy_114 ?_
  refine zs_is hC dX12_setsCopy_115 (by decide) rfl ?_
  refine zs_k hC dX12_setsCopy_117 ?_
  refine zs_al hC dX12_setsCopy_118 rfl ?_
  refine zs_getR 85 hC fl_RX12_84 zL60 rfl dX12_setsCopy_119 ?_
  refine zs_il hC dX12_setsCopy_122 rfl ?_
  refine zs_il hC dX12_setsCopy_123 rfl ?_
  refine zs_iadd hC dX12_setsCopy_125 ?_
  refine zs_iald hC zL85 dX12_setsCopy_126 (fun _ hf => ?_) hf
  refine zs_iadd hC dX12_setsCopy_127 ?_
  refine zs_is hC dX12_setsCopy_128 (by decide) rfl ?_
  refine zs_il hC dX12_setsCopy_130 rfl ?_
  refine zs_al hC dX12_setsCopy_132 rfl ?_
  refine zs_getR 84 hC fl_RX12_81 zL60 rfl dX12_setsCopy_133 ?_
  refine zs_il hC dX12_setsCopy_136 rfl ?_
  refine zs_iald hC zL84 dX12_setsCopy_137 (fun _ hf => ?_) hf
  refine zs_ic_gt hC dX12_setsCopy_138 (fun _ hf => ?_) (fun _ hf => ?_) hf
  · refine zs_iinc (nI 1) hC dX12_setsCopy_190 (by decide) rfl (by decide) rfl ?_
    refine zs_goto hC dX12_setsCopy_193 ?_
    exact zAW.weak (hk45 _ _ _ _ _ hf) (zLw_s (zLw_s (zLw_s (zLw_s (zLw_s (zLw_n (zLw_n (zLw_n zLw_0))))))))
  · refine zs_il hC dX12_setsCopy_141 rfl ?_
    refine zs_al hC dX12_setsCopy_143 rfl ?_
    refine zs_getR 84 hC fl_RX12_81 zL60 rfl dX12_setsCopy_144 ?_
    refine zs_il hC dX12_setsCopy_147 rfl ?_
    refine zs_iald hC zL84 dX12_setsCopy_148 (fun _ hf => ?_) hf
    refine zs_ic_ne hC dX12_setsCopy_149 (fun _ hf => ?_) (fun _ hf => ?_) hf
    · refine zs_il hC dX12_setsCopy_152 rfl ?_
      refine zs_al hC dX12_setsCopy_154 rfl ?_
      refine zs_getR 85 hC fl_RX12_84 zL60 rfl dX12_setsCopy_155 ?_
      refine zs_il hC dX12_setsCopy_158 rfl ?_
      refine zs_iald hC zL85 dX12_setsCopy_159 (fun _ hf => ?_) hf
      refine zs_ic_le hC dX12_setsCopy_160 (fun _ hf => ?_) (fun _ hf => ?_) hf
      · exact zAW.weak (wX12_setsCopy_166 hC hret hk27 hk45 hf) (zLw_s (zLw_s (zLw_s (zLw_s (zLw_s (zLw_n (zLw_s (zLw_s zLw_0))))))))
      · refine zs_goto hC dX12_setsCopy_163 ?_
        refine zs_iinc (nI 1) hC dX12_setsCopy_190 (by decide) rfl (by decide) rfl ?_
        refine zs_goto hC dX12_setsCopy_193 ?_
        exact zAW.weak (hk45 _ _ _ _ _ hf) (zLw_s (zLw_s (zLw_s (zLw_s (zLw_s (zLw_n (zLw_n (zLw_n zLw_0))))))))
    · exact zAW.weak (wX12_setsCopy_166 hC hret hk27 hk45 hf) (zLw_s (zLw_s (zLw_s (zLw_s (zLw_s (zLw_n (zLw_s (zLw_s zLw_0))))))))
set_option maxRecDepth 20000 in
set_option maxHeartbeats 4000000 in
theorem wX12_setsCopy_45 {X : zX} {F : Nat} (hC : zCx X RX12 cX12_setsCopy 8 0) (hret : zRt X none) {k27 : Int32 → Int32 → zMem → Option zR} (hk27 : ∀ v1 v2 μ, k27 v1 v2 μ = some (zOut X) → zAW X 27 [some (.ref 60), some (.int v1), some (.int v2), none, none, none, none, none] [] μ) : ∀ (n : Nat) (v1 : Int32) (v2 : Int32) (v3 : Int32) (v4 : Int32) (μ : zMem), fX12_setsCopy_45 F k27 n v1 v2 v3 v4 μ = some (zOut X) → zAW X 45 [some (.ref 60), some (.int v1), some (.int v2), some (.int v3), some (.int v4), none, none, none] [] μ := by
  intro n
  induction n with
  | zero =>
    intro v1 v2 v3 v4 μ hf
    rw [fX12_setsCopy_45] at hf
    cases hf
  | succ n ih =>
    intro v1 v2 v3 v4 μ hf
    rw [fX12_setsCopy_45] at hf
    refine zs_il hC dX12_setsCopy_45 rfl ?_
    refine zs_il hC dX12_setsCopy_46 rfl ?_
    refine zs_iadd hC dX12_setsCopy_48 ?_
    refine zs_al hC dX12_setsCopy_49 rfl ?_
    refine zs_getI hC fl_RX12_250 zL60 rfl dX12_setsCopy_50 ?_
    refine zs_ic_gt hC dX12_setsCopy_53 (fun _ hf => ?_) (fun _ hf => ?_) hf
    · refine zs_iinc (-1 : Int32) hC dX12_setsCopy_196 (by decide) rfl (by decide) rfl ?_
      refine zs_goto hC dX12_setsCopy_199 ?_
      exact zAW.weak (hk27 _ _ _ hf) (zLw_s (zLw_s (zLw_s (zLw_n (zLw_n (zLw_n (zLw_n (zLw_n zLw_0))))))))
    · refine zs_il hC dX12_setsCopy_56 rfl ?_
      refine zs_k hC dX12_setsCopy_57 ?_
      refine zs_iadd hC dX12_setsCopy_58 ?_
      refine zs_al hC dX12_setsCopy_59 rfl ?_
      refine zs_getR 64 hC fl_RX12_19 zL60 rfl dX12_setsCopy_60 ?_
      refine zs_il hC dX12_setsCopy_63 rfl ?_
      refine zs_il hC dX12_setsCopy_64 rfl ?_
      refine zs_iadd hC dX12_setsCopy_66 ?_
      refine zs_k hC dX12_setsCopy_67 ?_
      refine zs_isub hC dX12_setsCopy_68 ?_
      refine zs_iald hC zL64 dX12_setsCopy_69 (fun _ hf => ?_) hf
      refine zs_iadd hC dX12_setsCopy_70 ?_
      refine zs_is hC dX12_setsCopy_71 (by decide) rfl ?_
      refine zs_il hC dX12_setsCopy_72 rfl ?_
      refine zs_il hC dX12_setsCopy_73 rfl ?_
      refine zs_ic_le hC dX12_setsCopy_74 (fun _ hf => ?_) (fun _ hf => ?_) hf
      · refine zs_il hC dX12_setsCopy_80 rfl ?_
        refine zs_il hC dX12_setsCopy_81 rfl ?_
        refine zs_iadd hC dX12_setsCopy_83 ?_
        refine zs_al hC dX12_setsCopy_84 rfl ?_
        refine zs_getI hC fl_RX12_250 zL60 rfl dX12_setsCopy_85 ?_
        refine zs_ic_ne hC dX12_setsCopy_88 (fun _ hf => ?_) (fun _ hf => ?_) hf
        · refine zs_k hC dX12_setsCopy_91 ?_
          refine zs_goto hC dX12_setsCopy_92 ?_
          exact zAW.weak (wX12_setsCopy_98 hC hret hk27 (ih) hf) (zLw_s (zLw_s (zLw_s (zLw_s (zLw_s (zLw_n (zLw_n (zLw_n zLw_0))))))))
        · refine zs_il hC dX12_setsCopy_95 rfl ?_
          refine zs_il hC dX12_setsCopy_96 rfl ?_
          refine zs_isub hC dX12_setsCopy_97 ?_
          exact zAW.weak (wX12_setsCopy_98 hC hret hk27 (ih) hf) (zLw_s (zLw_s (zLw_s (zLw_s (zLw_s (zLw_n (zLw_n (zLw_n zLw_0))))))))
      · refine zs_goto hC dX12_setsCopy_77 ?_
        refine zs_iinc (-1 : Int32) hC dX12_setsCopy_196 (by decide) rfl (by decide) rfl ?_
        refine zs_goto hC dX12_setsCopy_199 ?_
        exact zAW.weak (hk27 _ _ _ hf) (zLw_s (zLw_s (zLw_s (zLw_n (zLw_n (zLw_n (zLw_n (zLw_n zLw_0))))))))
set_option maxRecDepth 20000 in
set_option maxHeartbeats 4000000 in
theorem wX12_setsCopy_27 {X : zX} {F : Nat} (hC : zCx X RX12 cX12_setsCopy 8 0) (hret : zRt X none) : ∀ (n : Nat) (v1 : Int32) (v2 : Int32) (μ : zMem), fX12_setsCopy_27 F n v1 v2 μ = some (zOut X) → zAW X 27 [some (.ref 60), some (.int v1), some (.int v2), none, none, none, none, none] [] μ := by
  intro n
  induction n with
  | zero =>
    intro v1 v2 μ hf
    rw [fX12_setsCopy_27] at hf
    cases hf
  | succ n ih =>
    intro v1 v2 μ hf
    rw [fX12_setsCopy_27] at hf
    refine zs_il hC dX12_setsCopy_27 rfl ?_
    refine zs_if_lt hC dX12_setsCopy_28 (fun _ hf => ?_) (fun _ hf => ?_) hf
    · exact zs_vret hC hret dX12_setsCopy_202 hf
    · refine zs_al hC dX12_setsCopy_31 rfl ?_
      refine zs_getR 84 hC fl_RX12_81 zL60 rfl dX12_setsCopy_32 ?_
      refine zs_il hC dX12_setsCopy_35 rfl ?_
      refine zs_ldcw hC kc_RX12_335 dX12_setsCopy_36 ?_
      refine zs_iast hC zL84 dX12_setsCopy_39 (fun _ hf => ?_) hf
      refine zs_let (fun m2 _ hf => ?_) hf
      refine zs_k hC dX12_setsCopy_40 ?_
      refine zs_is hC dX12_setsCopy_41 (by decide) rfl ?_
      refine zs_k hC dX12_setsCopy_42 ?_
      refine zs_is hC dX12_setsCopy_43 (by decide) rfl ?_
      exact zAW.weak (wX12_setsCopy_45 hC hret (ih) F _ _ _ _ _ hf) (zLw_s (zLw_s (zLw_s (zLw_s (zLw_s (zLw_n (zLw_n (zLw_n zLw_0))))))))
set_option maxRecDepth 20000 in
set_option maxHeartbeats 4000000 in
theorem wX12_setsCopy {X : zX} {F : Nat} (hC : zCx X RX12 cX12_setsCopy 8 0) (hret : zRt X none) {v1 : Int32} {μ : zMem} (hf : fX12_setsCopy F v1 μ = some (zOut X)) : zAW X 0 [some (.ref 60), some (.int v1), none, none, none, none, none, none] [] μ := by
  unfold fX12_setsCopy at hf
  refine zs_al hC dX12_setsCopy_0 rfl ?_
  refine zs_getR 84 hC fl_RX12_81 zL60 rfl dX12_setsCopy_1 ?_
  refine zs_al hC dX12_setsCopy_4 rfl ?_
  refine zs_getI hC fl_RX12_250 zL60 rfl dX12_setsCopy_5 ?_
  refine zs_k hC dX12_setsCopy_8 ?_
  refine zs_iast hC zL84 dX12_setsCopy_9 (fun _ hf => ?_) hf
  refine zs_let (fun m3 _ hf => ?_) hf
  refine zs_al hC dX12_setsCopy_10 rfl ?_
  refine zs_getR 85 hC fl_RX12_84 zL60 rfl dX12_setsCopy_11 ?_
  refine zs_al hC dX12_setsCopy_14 rfl ?_
  refine zs_getI hC fl_RX12_250 zL60 rfl dX12_setsCopy_15 ?_
  refine zs_k hC dX12_setsCopy_18 ?_
  refine zs_iast hC zL85 dX12_setsCopy_19 (fun _ hf => ?_) hf
  refine zs_let (fun m6 _ hf => ?_) hf
  refine zs_al hC dX12_setsCopy_20 rfl ?_
  refine zs_getI hC fl_RX12_250 zL60 rfl dX12_setsCopy_21 ?_
  refine zs_k hC dX12_setsCopy_24 ?_
  refine zs_isub hC dX12_setsCopy_25 ?_
  refine zs_is hC dX12_setsCopy_26 (by decide) rfl ?_
  exact zAW.weak (wX12_setsCopy_27 hC hret F _ _ _ hf) (zLw_s (zLw_s (zLw_s (zLw_n (zLw_n (zLw_n (zLw_n (zLw_n zLw_0))))))))
set_option maxRecDepth 20000 in
set_option maxHeartbeats 4000000 in
theorem ctX12_setsCopy {E : zEV} {F : Nat} {v1 : Int32} {μ : zMem} {out : zR} (hf : fX12_setsCopy F v1 μ = some out) : zCt E yX12_setsCopy cX12_setsCopy 8 none 0 [.ref 60, .int v1] μ out :=
  zCt.of [some (.ref 60), some (.int v1), none, none, none, none, none, none] (by decide +kernel) (Nat.le_of_ble_eq_true rfl) (zLw_s (zLw_s (zLw_e (zLw_e (zLw_e (zLw_e (zLw_e (zLw_e zLw_0)))))))) rfl (fun X hE ho hr hC => by
    subst hE; subst ho
    exact wX12_setsCopy hC hr hf)
/-! X12_set -/
def fX12_set (F : Nat) (v1 : Int32) (v2 : Int32) (μ : zMem) : Option zR :=
  zBd (fX12_in F v1 (nI 12) (nI 60) μ) (fun r1 m1 => if r1 = 0 then some ((-1 : Int32), m1) else zBd (fX12_in F v2 (nI 0) (nI 2) m1) (fun r2 m2 => if r2 = 0 then some ((-1 : Int32), m2) else if (m2 60 7) = 0 then some ((nI 0), m2) else zBd (fX12_setsCopy F v1 m2) (fun r4 m4 => if v2 = 0 then zG (nI 0) 61 (some ((m4 84 (nI 0).toNatClampNeg), m4)) else if v2 = (nI 1) then zG (nI 0) 61 (some ((m4 85 (nI 0).toNatClampNeg), m4)) else zG (nI 0) 61 (some ((m4 86 (nI 0).toNatClampNeg), m4)))))
set_option maxRecDepth 20000 in
set_option maxHeartbeats 4000000 in
theorem wX12_set {X : zX} {F : Nat} (hC : zCx X RX12 cX12_set 3 1) (hret : zRt X (some .int)) {v1 : Int32} {v2 : Int32} {μ : zMem} (hf : fX12_set F v1 v2 μ = some (zOut X)) : zAW X 0 [some (.ref 60), some (.int v1), some (.int v2)] [] μ := by
  unfold fX12_set at hf
  refine zs_il hC dX12_set_0 rfl ?_
  refine zs_k hC dX12_set_1 ?_
  refine zs_k hC dX12_set_3 ?_
  refine zs_callS [.int v1, .int (nI 12), .int (nI 60)] hC cw_X12_in cl_RX12_96 (by decide) rfl rfl (Nat.le_of_ble_eq_true rfl) dX12_set_5 (fun _ h => ctX12_in h) (fun r1 m1 _ hf => ?_) hf
  show zAW X 8 _ (.int r1 :: _) m1
  refine zs_if_eq hC dX12_set_8 (fun _ hf => ?_) (fun _ hf => ?_) hf
  · refine zs_k hC dX12_set_20 ?_
    exact zs_iret hC hret dX12_set_21 hf
  · refine zs_il hC dX12_set_11 rfl ?_
    refine zs_k hC dX12_set_12 ?_
    refine zs_k hC dX12_set_13 ?_
    refine zs_callS [.int v2, .int (nI 0), .int (nI 2)] hC cw_X12_in cl_RX12_96 (by decide) rfl rfl (Nat.le_of_ble_eq_true rfl) dX12_set_14 (fun _ h => ctX12_in h) (fun r2 m2 _ hf => ?_) hf
    show zAW X 17 _ (.int r2 :: _) m2
    refine zs_if_ne hC dX12_set_17 (fun _ hf => ?_) (fun _ hf => ?_) hf
    · refine zs_k hC dX12_set_20 ?_
      exact zs_iret hC hret dX12_set_21 hf
    · refine zs_al hC dX12_set_22 rfl ?_
      refine zs_getI hC fl_RX12_250 zL60 rfl dX12_set_23 ?_
      refine zs_if_ne hC dX12_set_26 (fun _ hf => ?_) (fun _ hf => ?_) hf
      · refine zs_k hC dX12_set_29 ?_
        exact zs_iret hC hret dX12_set_30 hf
      · refine zs_al hC dX12_set_31 rfl ?_
        refine zs_il hC dX12_set_32 rfl ?_
        refine zs_callV [.int v1] hC cw_X12_setsCopy cl_RX12_336 zL60 rfl (by decide) rfl rfl (Nat.le_of_ble_eq_true rfl) dX12_set_33 (fun _ h => ctX12_setsCopy h) (fun r4 m4 _ hf => ?_) hf
        show zAW X 36 _ _ m4
        refine zs_il hC dX12_set_36 rfl ?_
        refine zs_if_ne hC dX12_set_37 (fun _ hf => ?_) (fun _ hf => ?_) hf
        · refine zs_al hC dX12_set_40 rfl ?_
          refine zs_getR 84 hC fl_RX12_81 zL60 rfl dX12_set_41 ?_
          refine zs_k hC dX12_set_44 ?_
          refine zs_iald hC zL84 dX12_set_45 (fun _ hf => ?_) hf
          refine zs_goto hC dX12_set_46 ?_
          exact zs_iret hC hret dX12_set_69 hf
        · refine zs_il hC dX12_set_49 rfl ?_
          refine zs_k hC dX12_set_50 ?_
          refine zs_ic_ne hC dX12_set_51 (fun _ hf => ?_) (fun _ hf => ?_) hf
          · refine zs_al hC dX12_set_54 rfl ?_
            refine zs_getR 85 hC fl_RX12_84 zL60 rfl dX12_set_55 ?_
            refine zs_k hC dX12_set_58 ?_
            refine zs_iald hC zL85 dX12_set_59 (fun _ hf => ?_) hf
            refine zs_goto hC dX12_set_60 ?_
            exact zs_iret hC hret dX12_set_69 hf
          · refine zs_al hC dX12_set_63 rfl ?_
            refine zs_getR 86 hC fl_RX12_87 zL60 rfl dX12_set_64 ?_
            refine zs_k hC dX12_set_67 ?_
            refine zs_iald hC zL86 dX12_set_68 (fun _ hf => ?_) hf
            exact zs_iret hC hret dX12_set_69 hf
set_option maxRecDepth 20000 in
set_option maxHeartbeats 4000000 in
theorem ctX12_set {E : zEV} {F : Nat} {v1 : Int32} {v2 : Int32} {μ : zMem} {out : zR} (hf : fX12_set F v1 v2 μ = some out) : zCt E yX12_set cX12_set 3 (some .int) 1 [.ref 60, .int v1, .int v2] μ out :=
  zCt.of [some (.ref 60), some (.int v1), some (.int v2)] (by decide +kernel) (Nat.le_of_ble_eq_true rfl) (zLw_s (zLw_s (zLw_s zLw_0))) rfl (fun X hE ho hr hC => by
    subst hE; subst ho
    exact wX12_set hC hr hf)
/-! X12_lineOf -/
def fX12_lineOf_37 (F : Nat) : Nat → Int32 → Int32 → Int32 → zMem → Option zR
  | 0, _, _, _, _ => none
  | n + 1, v2, v3, v4, μ => zG v4 61 (if v2 < (v4 + (μ 86 v4.toNatClampNeg)) then some (v3, μ) else zG v4 61 (fX12_lineOf_37 F n v2 (v3 + (nI 1)) (v4 + (μ 86 v4.toNatClampNeg)) μ))
def fX12_lineOf (F : Nat) (v1 : Int32) (v2 : Int32) (μ : zMem) : Option zR :=
  zBd (fX12_in F v1 (nI 12) (nI 60) μ) (fun r1 m1 => if r1 = 0 then some ((-1 : Int32), m1) else zBd (fX12_in F v2 (nI 0) ((m1 60 7) - (nI 1)) m1) (fun r3 m3 => if r3 = 0 then some ((-1 : Int32), m3) else zBd (fX12_setsCopy F v1 m3) (fun r4 m4 => fX12_lineOf_37 F F v2 (nI 0) (nI 0) m4)))
set_option maxRecDepth 20000 in
set_option maxHeartbeats 4000000 in
theorem wX12_lineOf_37 {X : zX} {F : Nat} (hC : zCx X RX12 cX12_lineOf 5 1) (hret : zRt X (some .int)) : ∀ (n : Nat) (v2 : Int32) (v3 : Int32) (v4 : Int32) (μ : zMem), fX12_lineOf_37 F n v2 v3 v4 μ = some (zOut X) → zAW X 37 [some (.ref 60), none, some (.int v2), some (.int v3), some (.int v4)] [] μ := by
  intro n
  induction n with
  | zero =>
    intro v2 v3 v4 μ hf
    rw [fX12_lineOf_37] at hf
    cases hf
  | succ n ih =>
    intro v2 v3 v4 μ hf
    rw [fX12_lineOf_37] at hf
    refine zs_il hC dX12_lineOf_37 rfl ?_
    refine zs_al hC dX12_lineOf_39 rfl ?_
    refine zs_getR 86 hC fl_RX12_87 zL60 rfl dX12_lineOf_40 ?_
    refine zs_il hC dX12_lineOf_43 rfl ?_
    refine zs_iald hC zL86 dX12_lineOf_45 (fun _ hf => ?_) hf
    refine zs_iadd hC dX12_lineOf_46 ?_
    refine zs_il hC dX12_lineOf_47 rfl ?_
    refine zs_ic_gt hC dX12_lineOf_48 (fun _ hf => ?_) (fun _ hf => ?_) hf
    · refine zs_il hC dX12_lineOf_70 rfl ?_
      exact zs_iret hC hret dX12_lineOf_71 hf
    · refine zs_il hC dX12_lineOf_51 rfl ?_
      refine zs_al hC dX12_lineOf_53 rfl ?_
      refine zs_getR 86 hC fl_RX12_87 zL60 rfl dX12_lineOf_54 ?_
      refine zs_il hC dX12_lineOf_57 rfl ?_
      refine zs_iald hC zL86 dX12_lineOf_59 (fun _ hf => ?_) hf
      refine zs_iadd hC dX12_lineOf_60 ?_
      refine zs_is hC dX12_lineOf_61 (by decide) rfl ?_
      refine zs_il hC dX12_lineOf_63 rfl ?_
      refine zs_k hC dX12_lineOf_64 ?_
      refine zs_iadd hC dX12_lineOf_65 ?_
      refine zs_is hC dX12_lineOf_66 (by decide) rfl ?_
      refine zs_goto hC dX12_lineOf_67 ?_
      exact zAW.weak (ih _ _ _ _ hf) (zLw_s (zLw_n (zLw_s (zLw_s (zLw_s zLw_0)))))
set_option maxRecDepth 20000 in
set_option maxHeartbeats 4000000 in
theorem wX12_lineOf {X : zX} {F : Nat} (hC : zCx X RX12 cX12_lineOf 5 1) (hret : zRt X (some .int)) {v1 : Int32} {v2 : Int32} {μ : zMem} (hf : fX12_lineOf F v1 v2 μ = some (zOut X)) : zAW X 0 [some (.ref 60), some (.int v1), some (.int v2), none, none] [] μ := by
  unfold fX12_lineOf at hf
  refine zs_il hC dX12_lineOf_0 rfl ?_
  refine zs_k hC dX12_lineOf_1 ?_
  refine zs_k hC dX12_lineOf_3 ?_
  refine zs_callS [.int v1, .int (nI 12), .int (nI 60)] hC cw_X12_in cl_RX12_96 (by decide) rfl rfl (Nat.le_of_ble_eq_true rfl) dX12_lineOf_5 (fun _ h => ctX12_in h) (fun r1 m1 _ hf => ?_) hf
  show zAW X 8 _ (.int r1 :: _) m1
  refine zs_if_eq hC dX12_lineOf_8 (fun _ hf => ?_) (fun _ hf => ?_) hf
  · refine zs_k hC dX12_lineOf_25 ?_
    exact zs_iret hC hret dX12_lineOf_26 hf
  · refine zs_il hC dX12_lineOf_11 rfl ?_
    refine zs_k hC dX12_lineOf_12 ?_
    refine zs_al hC dX12_lineOf_13 rfl ?_
    refine zs_getI hC fl_RX12_250 zL60 rfl dX12_lineOf_14 ?_
    refine zs_k hC dX12_lineOf_17 ?_
    refine zs_isub hC dX12_lineOf_18 ?_
    refine zs_callS [.int v2, .int (nI 0), .int ((m1 60 7) - (nI 1))] hC cw_X12_in cl_RX12_96 (by decide) rfl rfl (Nat.le_of_ble_eq_true rfl) dX12_lineOf_19 (fun _ h => ctX12_in h) (fun r3 m3 _ hf => ?_) hf
    show zAW X 22 _ (.int r3 :: _) m3
    refine zs_if_ne hC dX12_lineOf_22 (fun _ hf => ?_) (fun _ hf => ?_) hf
    · refine zs_k hC dX12_lineOf_25 ?_
      exact zs_iret hC hret dX12_lineOf_26 hf
    · refine zs_al hC dX12_lineOf_27 rfl ?_
      refine zs_il hC dX12_lineOf_28 rfl ?_
      refine zs_callV [.int v1] hC cw_X12_setsCopy cl_RX12_336 zL60 rfl (by decide) rfl rfl (Nat.le_of_ble_eq_true rfl) dX12_lineOf_29 (fun _ h => ctX12_setsCopy h) (fun r4 m4 _ hf => ?_) hf
      show zAW X 32 _ _ m4
      refine zs_k hC dX12_lineOf_32 ?_
      refine zs_is hC dX12_lineOf_33 (by decide) rfl ?_
      refine zs_k hC dX12_lineOf_34 ?_
      refine zs_is hC dX12_lineOf_35 (by decide) rfl ?_
      exact zAW.weak (wX12_lineOf_37 hC hret F _ _ _ _ hf) (zLw_s (zLw_n (zLw_s (zLw_s (zLw_s zLw_0)))))
set_option maxRecDepth 20000 in
set_option maxHeartbeats 4000000 in
theorem ctX12_lineOf {E : zEV} {F : Nat} {v1 : Int32} {v2 : Int32} {μ : zMem} {out : zR} (hf : fX12_lineOf F v1 v2 μ = some out) : zCt E yX12_lineOf cX12_lineOf 5 (some .int) 1 [.ref 60, .int v1, .int v2] μ out :=
  zCt.of [some (.ref 60), some (.int v1), some (.int v2), none, none] (by decide +kernel) (Nat.le_of_ble_eq_true rfl) (zLw_s (zLw_s (zLw_s (zLw_e (zLw_e zLw_0))))) rfl (fun X hE ho hr hC => by
    subst hE; subst ho
    exact wX12_lineOf hC hr hf)
/-! X12_copyIs -/
def fX12_copyIs_61 (F : Nat) : Nat → Int32 → Int32 → Int32 → Int32 → Int32 → zMem → Option zR
  | 0, _, _, _, _, _, _ => none
  | n + 1, v1, v2, v3, v4, v5, μ => if (nI 26) ≤ v5 then if v1 = 0 then some (v2, μ) else if v1 = (nI 1) then some (v3, μ) else some (v4, μ) else zG v5 26 (if (μ 65 v5.toNatClampNeg) ≤ 0 then fX12_copyIs_61 F n v1 v2 v3 v4 (v5 + (nI 1)) μ else fX12_copyIs_61 F n v1 v2 v3 (v4 + (nI 1)) (v5 + (nI 1)) μ)
def fX12_copyIs_21 (F : Nat) : Nat → Int32 → Int32 → Int32 → Int32 → Int32 → zMem → Option zR
  | 0, _, _, _, _, _, _ => none
  | n + 1, v1, v2, v3, v4, v5, μ => if (μ 60 7) ≤ v5 then fX12_copyIs_61 F F v1 v2 v3 v4 (nI 0) μ else zG v5 60 (zG v5 60 (zBd (fX12_max F v3 (μ 64 v5.toNatClampNeg) μ) (fun r4 m4 => fX12_copyIs_21 F n v1 (v2 + (μ 64 v5.toNatClampNeg)) r4 v4 (v5 + (nI 1)) m4)))
def fX12_copyIs (F : Nat) (v1 : Int32) (μ : zMem) : Option zR :=
  zBd (fX12_in F v1 (nI 0) (nI 2) μ) (fun r1 m1 => if r1 = 0 then some ((-1 : Int32), m1) else fX12_copyIs_21 F F v1 (nI 0) (nI 0) (nI 0) (nI 0) m1)
set_option maxRecDepth 20000 in
set_option maxHeartbeats 4000000 in
theorem wX12_copyIs_61 {X : zX} {F : Nat} (hC : zCx X RX12 cX12_copyIs 6 1) (hret : zRt X (some .int)) : ∀ (n : Nat) (v1 : Int32) (v2 : Int32) (v3 : Int32) (v4 : Int32) (v5 : Int32) (μ : zMem), fX12_copyIs_61 F n v1 v2 v3 v4 v5 μ = some (zOut X) → zAW X 61 [some (.ref 60), some (.int v1), some (.int v2), some (.int v3), some (.int v4), some (.int v5)] [] μ := by
  intro n
  induction n with
  | zero =>
    intro v1 v2 v3 v4 v5 μ hf
    rw [fX12_copyIs_61] at hf
    cases hf
  | succ n ih =>
    intro v1 v2 v3 v4 v5 μ hf
    rw [fX12_copyIs_61] at hf
    refine zs_il hC dX12_copyIs_61 rfl ?_
    refine zs_k hC dX12_copyIs_63 ?_
    refine zs_ic_ge hC dX12_copyIs_65 (fun _ hf => ?_) (fun _ hf => ?_) hf
    · refine zs_il hC dX12_copyIs_90 rfl ?_
      refine zs_if_ne hC dX12_copyIs_91 (fun _ hf => ?_) (fun _ hf => ?_) hf
      · refine zs_il hC dX12_copyIs_94 rfl ?_
        refine zs_goto hC dX12_copyIs_95 ?_
        exact zs_iret hC hret dX12_copyIs_109 hf
      · refine zs_il hC dX12_copyIs_98 rfl ?_
        refine zs_k hC dX12_copyIs_99 ?_
        refine zs_ic_ne hC dX12_copyIs_100 (fun _ hf => ?_) (fun _ hf => ?_) hf
        · refine zs_il hC dX12_copyIs_103 rfl ?_
          refine zs_goto hC dX12_copyIs_104 ?_
          exact zs_iret hC hret dX12_copyIs_109 hf
        · refine zs_il hC dX12_copyIs_107 rfl ?_
          exact zs_iret hC hret dX12_copyIs_109 hf
    · refine zs_al hC dX12_copyIs_68 rfl ?_
      refine zs_getR 65 hC fl_RX12_22 zL60 rfl dX12_copyIs_69 ?_
      refine zs_il hC dX12_copyIs_72 rfl ?_
      refine zs_iald hC zL65 dX12_copyIs_74 (fun _ hf => ?_) hf
      refine zs_if_le hC dX12_copyIs_75 (fun _ hf => ?_) (fun _ hf => ?_) hf
      · refine zs_iinc (nI 1) hC dX12_copyIs_84 (by decide) rfl (by decide) rfl ?_
        refine zs_goto hC dX12_copyIs_87 ?_
        exact zAW.weak (ih _ _ _ _ _ _ hf) (zLw_s (zLw_s (zLw_s (zLw_s (zLw_s (zLw_s zLw_0))))))
      · refine zs_il hC dX12_copyIs_78 rfl ?_
        refine zs_k hC dX12_copyIs_80 ?_
        refine zs_iadd hC dX12_copyIs_81 ?_
        refine zs_is hC dX12_copyIs_82 (by decide) rfl ?_
        refine zs_iinc (nI 1) hC dX12_copyIs_84 (by decide) rfl (by decide) rfl ?_
        refine zs_goto hC dX12_copyIs_87 ?_
        exact zAW.weak (ih _ _ _ _ _ _ hf) (zLw_s (zLw_s (zLw_s (zLw_s (zLw_s (zLw_s zLw_0))))))
set_option maxRecDepth 20000 in
set_option maxHeartbeats 4000000 in
theorem wX12_copyIs_21 {X : zX} {F : Nat} (hC : zCx X RX12 cX12_copyIs 6 1) (hret : zRt X (some .int)) : ∀ (n : Nat) (v1 : Int32) (v2 : Int32) (v3 : Int32) (v4 : Int32) (v5 : Int32) (μ : zMem), fX12_copyIs_21 F n v1 v2 v3 v4 v5 μ = some (zOut X) → zAW X 21 [some (.ref 60), some (.int v1), some (.int v2), some (.int v3), some (.int v4), some (.int v5)] [] μ := by
  intro n
  induction n with
  | zero =>
    intro v1 v2 v3 v4 v5 μ hf
    rw [fX12_copyIs_21] at hf
    cases hf
  | succ n ih =>
    intro v1 v2 v3 v4 v5 μ hf
    rw [fX12_copyIs_21] at hf
    refine zs_il hC dX12_copyIs_21 rfl ?_
    refine zs_al hC dX12_copyIs_23 rfl ?_
    refine zs_getI hC fl_RX12_250 zL60 rfl dX12_copyIs_24 ?_
    refine zs_ic_ge hC dX12_copyIs_27 (fun _ hf => ?_) (fun _ hf => ?_) hf
    · refine zs_k hC dX12_copyIs_58 ?_
      refine zs_is hC dX12_copyIs_59 (by decide) rfl ?_
      exact zAW.weak (wX12_copyIs_61 hC hret F _ _ _ _ _ _ hf) (zLw_s (zLw_s (zLw_s (zLw_s (zLw_s (zLw_s zLw_0))))))
    · refine zs_il hC dX12_copyIs_30 rfl ?_
      refine zs_al hC dX12_copyIs_31 rfl ?_
      refine zs_getR 64 hC fl_RX12_19 zL60 rfl dX12_copyIs_32 ?_
      refine zs_il hC dX12_copyIs_35 rfl ?_
      refine zs_iald hC zL64 dX12_copyIs_37 (fun _ hf => ?_) hf
      refine zs_iadd hC dX12_copyIs_38 ?_
      refine zs_is hC dX12_copyIs_39 (by decide) rfl ?_
      refine zs_il hC dX12_copyIs_40 rfl ?_
      refine zs_al hC dX12_copyIs_41 rfl ?_
      refine zs_getR 64 hC fl_RX12_19 zL60 rfl dX12_copyIs_42 ?_
      refine zs_il hC dX12_copyIs_45 rfl ?_
      refine zs_iald hC zL64 dX12_copyIs_47 (fun _ hf => ?_) hf
      refine zs_callS [.int v3, .int (μ 64 v5.toNatClampNeg)] hC cw_X12_max cl_RX12_305 (by decide) rfl rfl (Nat.le_of_ble_eq_true rfl) dX12_copyIs_48 (fun _ h => ctX12_max h) (fun r4 m4 _ hf => ?_) hf
      show zAW X 51 _ (.int r4 :: _) m4
      refine zs_is hC dX12_copyIs_51 (by decide) rfl ?_
      refine zs_iinc (nI 1) hC dX12_copyIs_52 (by decide) rfl (by decide) rfl ?_
      refine zs_goto hC dX12_copyIs_55 ?_
      exact zAW.weak (ih _ _ _ _ _ _ hf) (zLw_s (zLw_s (zLw_s (zLw_s (zLw_s (zLw_s zLw_0))))))
set_option maxRecDepth 20000 in
set_option maxHeartbeats 4000000 in
theorem wX12_copyIs {X : zX} {F : Nat} (hC : zCx X RX12 cX12_copyIs 6 1) (hret : zRt X (some .int)) {v1 : Int32} {μ : zMem} (hf : fX12_copyIs F v1 μ = some (zOut X)) : zAW X 0 [some (.ref 60), some (.int v1), none, none, none, none] [] μ := by
  unfold fX12_copyIs at hf
  refine zs_il hC dX12_copyIs_0 rfl ?_
  refine zs_k hC dX12_copyIs_1 ?_
  refine zs_k hC dX12_copyIs_2 ?_
  refine zs_callS [.int v1, .int (nI 0), .int (nI 2)] hC cw_X12_in cl_RX12_96 (by decide) rfl rfl (Nat.le_of_ble_eq_true rfl) dX12_copyIs_3 (fun _ h => ctX12_in h) (fun r1 m1 _ hf => ?_) hf
  show zAW X 6 _ (.int r1 :: _) m1
  refine zs_if_ne hC dX12_copyIs_6 (fun _ hf => ?_) (fun _ hf => ?_) hf
  · refine zs_k hC dX12_copyIs_9 ?_
    exact zs_iret hC hret dX12_copyIs_10 hf
  · refine zs_k hC dX12_copyIs_11 ?_
    refine zs_is hC dX12_copyIs_12 (by decide) rfl ?_
    refine zs_k hC dX12_copyIs_13 ?_
    refine zs_is hC dX12_copyIs_14 (by decide) rfl ?_
    refine zs_k hC dX12_copyIs_15 ?_
    refine zs_is hC dX12_copyIs_16 (by decide) rfl ?_
    refine zs_k hC dX12_copyIs_18 ?_
    refine zs_is hC dX12_copyIs_19 (by decide) rfl ?_
    exact zAW.weak (wX12_copyIs_21 hC hret F _ _ _ _ _ _ hf) (zLw_s (zLw_s (zLw_s (zLw_s (zLw_s (zLw_s zLw_0))))))
set_option maxRecDepth 20000 in
set_option maxHeartbeats 4000000 in
theorem ctX12_copyIs {E : zEV} {F : Nat} {v1 : Int32} {μ : zMem} {out : zR} (hf : fX12_copyIs F v1 μ = some out) : zCt E yX12_copyIs cX12_copyIs 6 (some .int) 1 [.ref 60, .int v1] μ out :=
  zCt.of [some (.ref 60), some (.int v1), none, none, none, none] (by decide +kernel) (Nat.le_of_ble_eq_true rfl) (zLw_s (zLw_s (zLw_e (zLw_e (zLw_e (zLw_e zLw_0)))))) rfl (fun X hE ho hr hC => by
    subst hE; subst ho
    exact wX12_copyIs hC hr hf)
/-! X12_type -/
def fX12_type (F : Nat) (v1 : Int32) (μ : zMem) : Option zR :=
  zBd (fX12_in F v1 (nI 0) (nI 25) μ) (fun r1 m1 => if r1 = 0 then some ((-1 : Int32), m1) else zG v1 26 (some ((m1 65 v1.toNatClampNeg), m1)))
set_option maxRecDepth 20000 in
set_option maxHeartbeats 4000000 in
theorem wX12_type {X : zX} {F : Nat} (hC : zCx X RX12 cX12_type 2 1) (hret : zRt X (some .int)) {v1 : Int32} {μ : zMem} (hf : fX12_type F v1 μ = some (zOut X)) : zAW X 0 [some (.ref 60), some (.int v1)] [] μ := by
  unfold fX12_type at hf
  refine zs_il hC dX12_type_0 rfl ?_
  refine zs_k hC dX12_type_1 ?_
  refine zs_k hC dX12_type_2 ?_
  refine zs_callS [.int v1, .int (nI 0), .int (nI 25)] hC cw_X12_in cl_RX12_96 (by decide) rfl rfl (Nat.le_of_ble_eq_true rfl) dX12_type_4 (fun _ h => ctX12_in h) (fun r1 m1 _ hf => ?_) hf
  show zAW X 7 _ (.int r1 :: _) m1
  refine zs_if_eq hC dX12_type_7 (fun _ hf => ?_) (fun _ hf => ?_) hf
  · refine zs_k hC dX12_type_19 ?_
    exact zs_iret hC hret dX12_type_20 hf
  · refine zs_al hC dX12_type_10 rfl ?_
    refine zs_getR 65 hC fl_RX12_22 zL60 rfl dX12_type_11 ?_
    refine zs_il hC dX12_type_14 rfl ?_
    refine zs_iald hC zL65 dX12_type_15 (fun _ hf => ?_) hf
    refine zs_goto hC dX12_type_16 ?_
    exact zs_iret hC hret dX12_type_20 hf
set_option maxRecDepth 20000 in
set_option maxHeartbeats 4000000 in
theorem ctX12_type {E : zEV} {F : Nat} {v1 : Int32} {μ : zMem} {out : zR} (hf : fX12_type F v1 μ = some out) : zCt E yX12_type cX12_type 2 (some .int) 1 [.ref 60, .int v1] μ out :=
  zCt.of [some (.ref 60), some (.int v1)] (by decide +kernel) (Nat.le_of_ble_eq_true rfl) (zLw_s (zLw_s zLw_0)) rfl (fun X hE ho hr hC => by
    subst hE; subst ho
    exact wX12_type hC hr hf)
