/-! X12_holdsAnyOrNone -/
def fX12_holdsAnyOrNone_4 (F : Nat) : Nat → Int32 → Int32 → Int32 → zMem → Option zR
  | 0, _, _, _, _ => none
  | n + 1, v1, v2, v3, μ => if (μ 60 18) ≤ v3 then zGb (decide (v2 = 0 ∨ v2 = 1)) (some (v2, μ)) else zG v3 16 (if (μ 76 v3.toNatClampNeg) = v1 then zG v3 16 (zG v3 16 (zBd (fX12_reckonsTo F (μ 78 v3.toNatClampNeg) (μ 79 v3.toNatClampNeg) μ) (fun r5 m5 => if r5 = (nI 1) then some ((nI 1), m5) else fX12_holdsAnyOrNone_4 F n v1 (nI 0) (v3 + (nI 1)) m5))) else fX12_holdsAnyOrNone_4 F n v1 v2 (v3 + (nI 1)) μ)
def fX12_holdsAnyOrNone (F : Nat) (v1 : Int32) (μ : zMem) : Option zR :=
  fX12_holdsAnyOrNone_4 F F v1 (nI 1) (nI 0) μ
set_option maxRecDepth 20000 in
set_option maxHeartbeats 4000000 in
theorem wX12_holdsAnyOrNone_4 {X : zX} {F : Nat} (hC : zCx X RX12 cX12_holdsAnyOrNone 4 2) (hret : zRt X (some .boolean)) : ∀ (n : Nat) (v1 : Int32) (v2 : Int32) (v3 : Int32) (μ : zMem), fX12_holdsAnyOrNone_4 F n v1 v2 v3 μ = some (zOut X) → zAW X 4 [some (.ref 60), some (.int v1), some (.int v2), some (.int v3)] [] μ := by
  intro n
  induction n with
  | zero =>
    intro v1 v2 v3 μ hf
    rw [fX12_holdsAnyOrNone_4] at hf
    cases hf
  | succ n ih =>
    intro v1 v2 v3 μ hf
    rw [fX12_holdsAnyOrNone_4] at hf
    refine zs_il hC dX12_holdsAnyOrNone_4 rfl ?_
    refine zs_al hC dX12_holdsAnyOrNone_5 rfl ?_
    refine zs_getI hC fl_RX12_207 zL60 rfl dX12_holdsAnyOrNone_6 ?_
    refine zs_ic_ge hC dX12_holdsAnyOrNone_9 (fun _ hf => ?_) (fun _ hf => ?_) hf
    · refine zs_il hC dX12_holdsAnyOrNone_55 rfl ?_
      exact zs_zret hC hret dX12_holdsAnyOrNone_56 hf
    · refine zs_al hC dX12_holdsAnyOrNone_12 rfl ?_
      refine zs_getR 76 hC fl_RX12_56 zL60 rfl dX12_holdsAnyOrNone_13 ?_
      refine zs_il hC dX12_holdsAnyOrNone_16 rfl ?_
      refine zs_iald hC zL76 dX12_holdsAnyOrNone_17 (fun _ hf => ?_) hf
      refine zs_il hC dX12_holdsAnyOrNone_18 rfl ?_
      refine zs_ic_eq hC dX12_holdsAnyOrNone_19 (fun _ hf => ?_) (fun _ hf => ?_) hf
      · refine zs_k hC dX12_holdsAnyOrNone_25 ?_
        refine zs_is hC dX12_holdsAnyOrNone_26 (by decide) rfl ?_
        refine zs_al hC dX12_holdsAnyOrNone_27 rfl ?_
        refine zs_al hC dX12_holdsAnyOrNone_28 rfl ?_
        refine zs_getR 78 hC fl_RX12_62 zL60 rfl dX12_holdsAnyOrNone_29 ?_
        refine zs_il hC dX12_holdsAnyOrNone_32 rfl ?_
        refine zs_iald hC zL78 dX12_holdsAnyOrNone_33 (fun _ hf => ?_) hf
        refine zs_al hC dX12_holdsAnyOrNone_34 rfl ?_
        refine zs_getR 79 hC fl_RX12_65 zL60 rfl dX12_holdsAnyOrNone_35 ?_
        refine zs_il hC dX12_holdsAnyOrNone_38 rfl ?_
        refine zs_iald hC zL79 dX12_holdsAnyOrNone_39 (fun _ hf => ?_) hf
        refine zs_callV [.int (μ 78 v3.toNatClampNeg), .int (μ 79 v3.toNatClampNeg)] hC cw_X12_reckonsTo cl_RX12_214 zL60 rfl (by decide) rfl rfl (Nat.le_of_ble_eq_true rfl) dX12_holdsAnyOrNone_40 (fun _ h => ctX12_reckonsTo h) (fun r5 m5 _ hf => ?_) hf
        show zAW X 43 _ (.int r5 :: _) m5
        refine zs_k hC dX12_holdsAnyOrNone_43 ?_
        refine zs_ic_ne hC dX12_holdsAnyOrNone_44 (fun _ hf => ?_) (fun _ hf => ?_) hf
        · refine zs_k hC dX12_holdsAnyOrNone_47 ?_
          exact zs_zretK hC hret dX12_holdsAnyOrNone_48 (by decide) hf
        · refine zs_iinc (nI 1) hC dX12_holdsAnyOrNone_49 (by decide) rfl (by decide) rfl ?_
          refine zs_goto hC dX12_holdsAnyOrNone_52 ?_
          exact zAW.weak (ih _ _ _ _ hf) (zLw_s (zLw_s (zLw_s (zLw_s zLw_0))))
      · refine zs_goto hC dX12_holdsAnyOrNone_22 ?_
        refine zs_iinc (nI 1) hC dX12_holdsAnyOrNone_49 (by decide) rfl (by decide) rfl ?_
        refine zs_goto hC dX12_holdsAnyOrNone_52 ?_
        exact zAW.weak (ih _ _ _ _ hf) (zLw_s (zLw_s (zLw_s (zLw_s zLw_0))))
set_option maxRecDepth 20000 in
set_option maxHeartbeats 4000000 in
theorem wX12_holdsAnyOrNone {X : zX} {F : Nat} (hC : zCx X RX12 cX12_holdsAnyOrNone 4 2) (hret : zRt X (some .boolean)) {v1 : Int32} {μ : zMem} (hf : fX12_holdsAnyOrNone F v1 μ = some (zOut X)) : zAW X 0 [some (.ref 60), some (.int v1), none, none] [] μ := by
  unfold fX12_holdsAnyOrNone at hf
  refine zs_k hC dX12_holdsAnyOrNone_0 ?_
  refine zs_is hC dX12_holdsAnyOrNone_1 (by decide) rfl ?_
  refine zs_k hC dX12_holdsAnyOrNone_2 ?_
  refine zs_is hC dX12_holdsAnyOrNone_3 (by decide) rfl ?_
  exact zAW.weak (wX12_holdsAnyOrNone_4 hC hret F _ _ _ _ hf) (zLw_s (zLw_s (zLw_s (zLw_s zLw_0))))
set_option maxRecDepth 20000 in
set_option maxHeartbeats 4000000 in
theorem ctX12_holdsAnyOrNone {E : zEV} {F : Nat} {v1 : Int32} {μ : zMem} {out : zR} (hf : fX12_holdsAnyOrNone F v1 μ = some out) : zCt E yX12_holdsAnyOrNone cX12_holdsAnyOrNone 4 (some .boolean) 2 [.ref 60, .int v1] μ out :=
  zCt.of [some (.ref 60), some (.int v1), none, none] (by decide +kernel) (Nat.le_of_ble_eq_true rfl) (zLw_s (zLw_s (zLw_e (zLw_e zLw_0)))) rfl (fun X hE ho hr hC => by
    subst hE; subst ho
    exact wX12_holdsAnyOrNone hC hr hf)
/-! X12_feels -/
def fX12_feels_153 (F : Nat) (s0 : Int32) (s1 : Int32) (μ : zMem) : Option zR :=
  zG s1 9 (zG (nI 1045) 1047 (zGz (nI 100) (zG (nI 7) 9 (zG (nI 1044) 1047 (zGz (nI 20) (zG ((nI 64) + (((zUp (zUp μ 81 s1.toNatClampNeg s0) 81 (nI 7).toNatClampNeg (((zUp μ 81 s1.toNatClampNeg s0) 61 (nI 1045).toNatClampNeg) % (nI 100))) 61 (nI 1044).toNatClampNeg) % (nI 20))) 1047 (zG (nI 8) 9 (some ((nI 0), (zUp (zUp (zUp μ 81 s1.toNatClampNeg s0) 81 (nI 7).toNatClampNeg (((zUp μ 81 s1.toNatClampNeg s0) 61 (nI 1045).toNatClampNeg) % (nI 100))) 81 (nI 8).toNatClampNeg ((zUp (zUp μ 81 s1.toNatClampNeg s0) 81 (nI 7).toNatClampNeg (((zUp μ 81 s1.toNatClampNeg s0) 61 (nI 1045).toNatClampNeg) % (nI 100))) 61 ((nI 64) + (((zUp (zUp μ 81 s1.toNatClampNeg s0) 81 (nI 7).toNatClampNeg (((zUp μ 81 s1.toNatClampNeg s0) 61 (nI 1045).toNatClampNeg) % (nI 100))) 61 (nI 1044).toNatClampNeg) % (nI 20))).toNatClampNeg)))))))))))
def fX12_feels_114 (F : Nat) (v1 : Int32) (v2 : Int32) (v3 : Int32) (s0 : Int32) (s1 : Int32) (μ : zMem) : Option zR :=
  zG s1 9 (zG ((nI 48) + v1) 1047 (zG (nI 5) 9 (if v3 = 0 then fX12_feels_153 F (nI 0) (nI 6) (zUp (zUp μ 81 s1.toNatClampNeg s0) 81 (nI 5).toNatClampNeg ((zUp μ 81 s1.toNatClampNeg s0) 61 ((nI 48) + v1).toNatClampNeg)) else zG ((nI 32) + v2) 1047 (fX12_feels_153 F ((zUp (zUp μ 81 s1.toNatClampNeg s0) 81 (nI 5).toNatClampNeg ((zUp μ 81 s1.toNatClampNeg s0) 61 ((nI 48) + v1).toNatClampNeg)) 61 ((nI 32) + v2).toNatClampNeg) (nI 6) (zUp (zUp μ 81 s1.toNatClampNeg s0) 81 (nI 5).toNatClampNeg ((zUp μ 81 s1.toNatClampNeg s0) 61 ((nI 48) + v1).toNatClampNeg))))))
def fX12_feels_76 (F : Nat) (v1 : Int32) (v2 : Int32) (v3 : Int32) (s0 : Int32) (s1 : Int32) (μ : zMem) : Option zR :=
  zG s1 9 (if v3 = 0 then fX12_feels_114 F v1 v2 v3 (nI 0) (nI 4) (zUp μ 81 s1.toNatClampNeg s0) else zG ((nI 16) + v1) 1047 (zG ((nI 16) + v2) 1047 (zBd (fX12_bits F (((zUp μ 81 s1.toNatClampNeg s0) 61 ((nI 16) + v1).toNatClampNeg) &&& (((zUp μ 81 s1.toNatClampNeg s0) 61 ((nI 16) + v2).toNatClampNeg) ^^^ (-1 : Int32))) (zUp μ 81 s1.toNatClampNeg s0)) (fun r4 m4 => fX12_feels_114 F v1 v2 v3 r4 (nI 4) m4))))
def fX12_feels_32 (F : Nat) (v1 : Int32) (v2 : Int32) (v3 : Int32) (s0 : Int32) (s1 : Int32) (μ : zMem) : Option zR :=
  zG s1 9 (zG ((nI 16) + v1) 1047 (zBd (fX12_bits F ((zUp μ 81 s1.toNatClampNeg s0) 61 ((nI 16) + v1).toNatClampNeg) (zUp μ 81 s1.toNatClampNeg s0)) (fun r3 m3 => zG (nI 2) 9 (if v3 = 0 then fX12_feels_76 F v1 v2 v3 (nI 0) (nI 3) (zUp m3 81 (nI 2).toNatClampNeg r3) else zG ((nI 16) + v2) 1047 (zBd (fX12_bits F ((zUp m3 81 (nI 2).toNatClampNeg r3) 61 ((nI 16) + v2).toNatClampNeg) (zUp m3 81 (nI 2).toNatClampNeg r3)) (fun r6 m6 => fX12_feels_76 F v1 v2 v3 r6 (nI 3) m6))))))
def fX12_feels_10 (F : Nat) (v1 : Int32) (v2 : Int32) (s0 : Int32) (μ : zMem) : Option zR :=
  zG (nI 0) 9 (if s0 = 0 then fX12_feels_32 F v1 v2 s0 (nI 0) (nI 1) (zUp μ 81 (nI 0).toNatClampNeg v1) else fX12_feels_32 F v1 v2 s0 v2 (nI 1) (zUp μ 81 (nI 0).toNatClampNeg v1))
def fX12_feels (F : Nat) (v1 : Int32) (v2 : Int32) (μ : zMem) : Option zR :=
  if v2 = (-1 : Int32) then fX12_feels_10 F v1 v2 (nI 0) μ else fX12_feels_10 F v1 v2 (nI 1) μ
set_option maxRecDepth 20000 in
set_option maxHeartbeats 4000000 in
theorem wX12_feels_153 {X : zX} {F : Nat} (hC : zCx X RX12 cX12_feels 4 1) (hret : zRt X none) {s0 : Int32} {s1 : Int32} {μ : zMem} (hf : fX12_feels_153 F s0 s1 μ = some (zOut X)) : zAW X 153 [some (.ref 60), none, none, none] [.int s0, .int s1, .ref 81] μ := by
  unfold fX12_feels_153 at hf
  refine zs_iast hC zL81 dX12_feels_153 (fun _ hf => ?_) hf
  refine zs_al hC dX12_feels_154 rfl ?_
  refine zs_getR 81 hC fl_RX12_71 zL60 rfl dX12_feels_155 ?_
  refine zs_k hC dX12_feels_158 ?_
  refine zs_al hC dX12_feels_160 rfl ?_
  refine zs_getR 61 hC fl_RX12_7 zL60 rfl dX12_feels_161 ?_
  refine zs_k hC dX12_feels_164 ?_
  refine zs_iald hC zL61 dX12_feels_167 (fun _ hf => ?_) hf
  refine zs_k hC dX12_feels_168 ?_
  refine zs_irem hC dX12_feels_170 (fun _ hf => ?_) hf
  refine zs_iast hC zL81 dX12_feels_171 (fun _ hf => ?_) hf
  refine zs_al hC dX12_feels_172 rfl ?_
  refine zs_getR 81 hC fl_RX12_71 zL60 rfl dX12_feels_173 ?_
  refine zs_k hC dX12_feels_176 ?_
  refine zs_al hC dX12_feels_178 rfl ?_
  refine zs_getR 61 hC fl_RX12_7 zL60 rfl dX12_feels_179 ?_
  refine zs_k hC dX12_feels_182 ?_
  refine zs_al hC dX12_feels_184 rfl ?_
  refine zs_getR 61 hC fl_RX12_7 zL60 rfl dX12_feels_185 ?_
  refine zs_k hC dX12_feels_188 ?_
  refine zs_iald hC zL61 dX12_feels_191 (fun _ hf => ?_) hf
  refine zs_k hC dX12_feels_192 ?_
  refine zs_irem hC dX12_feels_194 (fun _ hf => ?_) hf
  refine zs_iadd hC dX12_feels_195 ?_
  refine zs_iald hC zL61 dX12_feels_196 (fun _ hf => ?_) hf
  refine zs_iast hC zL81 dX12_feels_197 (fun _ hf => ?_) hf
  exact zs_vret hC hret dX12_feels_198 hf
set_option maxRecDepth 20000 in
set_option maxHeartbeats 4000000 in
theorem wX12_feels_114 {X : zX} {F : Nat} (hC : zCx X RX12 cX12_feels 4 1) (hret : zRt X none) {v1 : Int32} {v2 : Int32} {v3 : Int32} {s0 : Int32} {s1 : Int32} {μ : zMem} (hf : fX12_feels_114 F v1 v2 v3 s0 s1 μ = some (zOut X)) : zAW X 114 [some (.ref 60), some (.int v1), some (.int v2), some (.int v3)] [.int s0, .int s1, .ref 81] μ := by
  unfold fX12_feels_114 at hf
  refine zs_iast hC zL81 dX12_feels_114 (fun _ hf => ?_) hf
  refine zs_al hC dX12_feels_115 rfl ?_
  refine zs_getR 81 hC fl_RX12_71 zL60 rfl dX12_feels_116 ?_
  refine zs_k hC dX12_feels_119 ?_
  refine zs_al hC dX12_feels_120 rfl ?_
  refine zs_getR 61 hC fl_RX12_7 zL60 rfl dX12_feels_121 ?_
  refine zs_k hC dX12_feels_124 ?_
  refine zs_il hC dX12_feels_126 rfl ?_
  refine zs_iadd hC dX12_feels_127 ?_
  refine zs_iald hC zL61 dX12_feels_128 (fun _ hf => ?_) hf
  refine zs_iast hC zL81 dX12_feels_129 (fun _ hf => ?_) hf
  refine zs_al hC dX12_feels_130 rfl ?_
  refine zs_getR 81 hC fl_RX12_71 zL60 rfl dX12_feels_131 ?_
  refine zs_k hC dX12_feels_134 ?_
  refine zs_il hC dX12_feels_136 rfl ?_
  refine zs_if_eq hC dX12_feels_137 (fun _ hf => ?_) (fun _ hf => ?_) hf
  · refine zs_k hC dX12_feels_152 ?_
    exact zAW.weak (wX12_feels_153 hC hret hf) (zLw_s (zLw_n (zLw_n (zLw_n zLw_0))))
  · refine zs_al hC dX12_feels_140 rfl ?_
    refine zs_getR 61 hC fl_RX12_7 zL60 rfl dX12_feels_141 ?_
    refine zs_k hC dX12_feels_144 ?_
    refine zs_il hC dX12_feels_146 rfl ?_
    refine zs_iadd hC dX12_feels_147 ?_
    refine zs_iald hC zL61 dX12_feels_148 (fun _ hf => ?_) hf
    refine zs_goto hC dX12_feels_149 ?_
    exact zAW.weak (wX12_feels_153 hC hret hf) (zLw_s (zLw_n (zLw_n (zLw_n zLw_0))))
set_option maxRecDepth 20000 in
set_option maxHeartbeats 4000000 in
theorem wX12_feels_76 {X : zX} {F : Nat} (hC : zCx X RX12 cX12_feels 4 1) (hret : zRt X none) {v1 : Int32} {v2 : Int32} {v3 : Int32} {s0 : Int32} {s1 : Int32} {μ : zMem} (hf : fX12_feels_76 F v1 v2 v3 s0 s1 μ = some (zOut X)) : zAW X 76 [some (.ref 60), some (.int v1), some (.int v2), some (.int v3)] [.int s0, .int s1, .ref 81] μ := by
  unfold fX12_feels_76 at hf
  refine zs_iast hC zL81 dX12_feels_76 (fun _ hf => ?_) hf
  refine zs_al hC dX12_feels_77 rfl ?_
  refine zs_getR 81 hC fl_RX12_71 zL60 rfl dX12_feels_78 ?_
  refine zs_k hC dX12_feels_81 ?_
  refine zs_il hC dX12_feels_82 rfl ?_
  refine zs_if_eq hC dX12_feels_83 (fun _ hf => ?_) (fun _ hf => ?_) hf
  · refine zs_k hC dX12_feels_113 ?_
    exact zAW.weak (wX12_feels_114 hC hret hf) (zLw_s (zLw_s (zLw_s (zLw_s zLw_0))))
  · refine zs_al hC dX12_feels_86 rfl ?_
    refine zs_getR 61 hC fl_RX12_7 zL60 rfl dX12_feels_87 ?_
    refine zs_k hC dX12_feels_90 ?_
    refine zs_il hC dX12_feels_92 rfl ?_
    refine zs_iadd hC dX12_feels_93 ?_
    refine zs_iald hC zL61 dX12_feels_94 (fun _ hf => ?_) hf
    refine zs_al hC dX12_feels_95 rfl ?_
    refine zs_getR 61 hC fl_RX12_7 zL60 rfl dX12_feels_96 ?_
    refine zs_k hC dX12_feels_99 ?_
    refine zs_il hC dX12_feels_101 rfl ?_
    refine zs_iadd hC dX12_feels_102 ?_
    refine zs_iald hC zL61 dX12_feels_103 (fun _ hf => ?_) hf
    refine zs_k hC dX12_feels_104 ?_
    refine zs_ixor hC dX12_feels_105 ?_
    refine zs_iand hC dX12_feels_106 ?_
    refine zs_callS [.int (((zUp μ 81 s1.toNatClampNeg s0) 61 ((nI 16) + v1).toNatClampNeg) &&& (((zUp μ 81 s1.toNatClampNeg s0) 61 ((nI 16) + v2).toNatClampNeg) ^^^ (-1 : Int32)))] hC cw_X12_bits cl_RX12_218 (by decide) rfl rfl (Nat.le_of_ble_eq_true rfl) dX12_feels_107 (fun _ h => ctX12_bits h) (fun r4 m4 _ hf => ?_) hf
    show zAW X 110 _ (.int r4 :: _) m4
    refine zs_goto hC dX12_feels_110 ?_
    exact zAW.weak (wX12_feels_114 hC hret hf) (zLw_s (zLw_s (zLw_s (zLw_s zLw_0))))
set_option maxRecDepth 20000 in
set_option maxHeartbeats 4000000 in
theorem wX12_feels_32 {X : zX} {F : Nat} (hC : zCx X RX12 cX12_feels 4 1) (hret : zRt X none) {v1 : Int32} {v2 : Int32} {v3 : Int32} {s0 : Int32} {s1 : Int32} {μ : zMem} (hf : fX12_feels_32 F v1 v2 v3 s0 s1 μ = some (zOut X)) : zAW X 32 [some (.ref 60), some (.int v1), some (.int v2), some (.int v3)] [.int s0, .int s1, .ref 81] μ := by
  unfold fX12_feels_32 at hf
  refine zs_iast hC zL81 dX12_feels_32 (fun _ hf => ?_) hf
  refine zs_al hC dX12_feels_33 rfl ?_
  refine zs_getR 81 hC fl_RX12_71 zL60 rfl dX12_feels_34 ?_
  refine zs_k hC dX12_feels_37 ?_
  refine zs_al hC dX12_feels_38 rfl ?_
  refine zs_getR 61 hC fl_RX12_7 zL60 rfl dX12_feels_39 ?_
  refine zs_k hC dX12_feels_42 ?_
  refine zs_il hC dX12_feels_44 rfl ?_
  refine zs_iadd hC dX12_feels_45 ?_
  refine zs_iald hC zL61 dX12_feels_46 (fun _ hf => ?_) hf
  refine zs_callS [.int ((zUp μ 81 s1.toNatClampNeg s0) 61 ((nI 16) + v1).toNatClampNeg)] hC cw_X12_bits cl_RX12_218 (by decide) rfl rfl (Nat.le_of_ble_eq_true rfl) dX12_feels_47 (fun _ h => ctX12_bits h) (fun r3 m3 _ hf => ?_) hf
  show zAW X 50 _ (.int r3 :: _) m3
  refine zs_iast hC zL81 dX12_feels_50 (fun _ hf => ?_) hf
  refine zs_al hC dX12_feels_51 rfl ?_
  refine zs_getR 81 hC fl_RX12_71 zL60 rfl dX12_feels_52 ?_
  refine zs_k hC dX12_feels_55 ?_
  refine zs_il hC dX12_feels_56 rfl ?_
  refine zs_if_eq hC dX12_feels_57 (fun _ hf => ?_) (fun _ hf => ?_) hf
  · refine zs_k hC dX12_feels_75 ?_
    exact zAW.weak (wX12_feels_76 hC hret hf) (zLw_s (zLw_s (zLw_s (zLw_s zLw_0))))
  · refine zs_al hC dX12_feels_60 rfl ?_
    refine zs_getR 61 hC fl_RX12_7 zL60 rfl dX12_feels_61 ?_
    refine zs_k hC dX12_feels_64 ?_
    refine zs_il hC dX12_feels_66 rfl ?_
    refine zs_iadd hC dX12_feels_67 ?_
    refine zs_iald hC zL61 dX12_feels_68 (fun _ hf => ?_) hf
    refine zs_callS [.int ((zUp m3 81 (nI 2).toNatClampNeg r3) 61 ((nI 16) + v2).toNatClampNeg)] hC cw_X12_bits cl_RX12_218 (by decide) rfl rfl (Nat.le_of_ble_eq_true rfl) dX12_feels_69 (fun _ h => ctX12_bits h) (fun r6 m6 _ hf => ?_) hf
    show zAW X 72 _ (.int r6 :: _) m6
    refine zs_goto hC dX12_feels_72 ?_
    exact zAW.weak (wX12_feels_76 hC hret hf) (zLw_s (zLw_s (zLw_s (zLw_s zLw_0))))
set_option maxRecDepth 20000 in
set_option maxHeartbeats 4000000 in
theorem wX12_feels_10 {X : zX} {F : Nat} (hC : zCx X RX12 cX12_feels 4 1) (hret : zRt X none) {v1 : Int32} {v2 : Int32} {s0 : Int32} {μ : zMem} (hf : fX12_feels_10 F v1 v2 s0 μ = some (zOut X)) : zAW X 10 [some (.ref 60), some (.int v1), some (.int v2), none] [.int s0] μ := by
  unfold fX12_feels_10 at hf
  refine zs_is hC dX12_feels_10 (by decide) rfl ?_
  refine zs_al hC dX12_feels_11 rfl ?_
  refine zs_getR 81 hC fl_RX12_71 zL60 rfl dX12_feels_12 ?_
  refine zs_k hC dX12_feels_15 ?_
  refine zs_il hC dX12_feels_16 rfl ?_
  refine zs_iast hC zL81 dX12_feels_17 (fun _ hf => ?_) hf
  refine zs_al hC dX12_feels_18 rfl ?_
  refine zs_getR 81 hC fl_RX12_71 zL60 rfl dX12_feels_19 ?_
  refine zs_k hC dX12_feels_22 ?_
  refine zs_il hC dX12_feels_23 rfl ?_
  refine zs_if_eq hC dX12_feels_24 (fun _ hf => ?_) (fun _ hf => ?_) hf
  · refine zs_k hC dX12_feels_31 ?_
    exact zAW.weak (wX12_feels_32 hC hret hf) (zLw_s (zLw_s (zLw_s (zLw_s zLw_0))))
  · refine zs_il hC dX12_feels_27 rfl ?_
    refine zs_goto hC dX12_feels_28 ?_
    exact zAW.weak (wX12_feels_32 hC hret hf) (zLw_s (zLw_s (zLw_s (zLw_s zLw_0))))
set_option maxRecDepth 20000 in
set_option maxHeartbeats 4000000 in
theorem wX12_feels {X : zX} {F : Nat} (hC : zCx X RX12 cX12_feels 4 1) (hret : zRt X none) {v1 : Int32} {v2 : Int32} {μ : zMem} (hf : fX12_feels F v1 v2 μ = some (zOut X)) : zAW X 0 [some (.ref 60), some (.int v1), some (.int v2), none] [] μ := by
  unfold fX12_feels at hf
  refine zs_il hC dX12_feels_0 rfl ?_
  refine zs_k hC dX12_feels_1 ?_
  refine zs_ic_eq hC dX12_feels_2 (fun _ hf => ?_) (fun _ hf => ?_) hf
  · refine zs_k hC dX12_feels_9 ?_
    exact zAW.weak (wX12_feels_10 hC hret hf) (zLw_s (zLw_s (zLw_s (zLw_n zLw_0))))
  · refine zs_k hC dX12_feels_5 ?_
    refine zs_goto hC dX12_feels_6 ?_
    exact zAW.weak (wX12_feels_10 hC hret hf) (zLw_s (zLw_s (zLw_s (zLw_n zLw_0))))
set_option maxRecDepth 20000 in
set_option maxHeartbeats 4000000 in
theorem ctX12_feels {E : zEV} {F : Nat} {v1 : Int32} {v2 : Int32} {μ : zMem} {out : zR} (hf : fX12_feels F v1 v2 μ = some out) : zCt E yX12_feels cX12_feels 4 none 1 [.ref 60, .int v1, .int v2] μ out :=
  zCt.of [some (.ref 60), some (.int v1), some (.int v2), none] (by decide +kernel) (Nat.le_of_ble_eq_true rfl) (zLw_s (zLw_s (zLw_s (zLw_e zLw_0)))) rfl (fun X hE ho hr hC => by
    subst hE; subst ho
    exact wX12_feels hC hr hf)
/-! X12_isLetter -/
def fX12_isLetter (F : Nat) (μ : zMem) : Option zR :=
  zBd (fX12_here F μ) (fun r1 m1 => zBd (fX12_in F (r1 - (nI 97)) (nI 0) (nI 15) m1) (fun r2 m2 => zGb (decide (r2 = 0 ∨ r2 = 1)) (some (r2, m2))))
set_option maxRecDepth 20000 in
set_option maxHeartbeats 4000000 in
theorem wX12_isLetter {X : zX} {F : Nat} (hC : zCx X RX12 cX12_isLetter 1 1) (hret : zRt X (some .boolean)) {μ : zMem} (hf : fX12_isLetter F μ = some (zOut X)) : zAW X 0 [some (.ref 60)] [] μ := by
  unfold fX12_isLetter at hf
  refine zs_al hC dX12_isLetter_0 rfl ?_
  refine zs_callV [] hC cw_X12_here cl_RX12_119 zL60 rfl (by decide) rfl rfl (Nat.le_of_ble_eq_true rfl) dX12_isLetter_1 (fun _ h => ctX12_here h) (fun r1 m1 _ hf => ?_) hf
  show zAW X 4 _ (.int r1 :: _) m1
  refine zs_k hC dX12_isLetter_4 ?_
  refine zs_isub hC dX12_isLetter_6 ?_
  refine zs_k hC dX12_isLetter_7 ?_
  refine zs_k hC dX12_isLetter_8 ?_
  refine zs_callS [.int (r1 - (nI 97)), .int (nI 0), .int (nI 15)] hC cw_X12_in cl_RX12_96 (by decide) rfl rfl (Nat.le_of_ble_eq_true rfl) dX12_isLetter_10 (fun _ h => ctX12_in h) (fun r2 m2 _ hf => ?_) hf
  show zAW X 13 _ (.int r2 :: _) m2
  exact zs_zret hC hret dX12_isLetter_13 hf
set_option maxRecDepth 20000 in
set_option maxHeartbeats 4000000 in
theorem ctX12_isLetter {E : zEV} {F : Nat} {μ : zMem} {out : zR} (hf : fX12_isLetter F μ = some out) : zCt E yX12_isLetter cX12_isLetter 1 (some .boolean) 1 [.ref 60] μ out :=
  zCt.of [some (.ref 60)] (by decide +kernel) (Nat.le_of_ble_eq_true rfl) (zLw_s zLw_0) rfl (fun X hE ho hr hC => by
    subst hE; subst ho
    exact wX12_isLetter hC hr hf)
/-! X12_readsBreath -/
def fX12_readsBreath_27 (F : Nat) : Nat → Int32 → Int32 → zMem → Option zR
  | 0, _, _, _ => none
  | n + 1, v1, v2, μ => zBd (fX12_isDigit F μ) (fun r1 m1 => if r1 = 0 then zG ((nI 48) + v1) 1047 (some ((nI 1), (zUp m1 61 ((nI 48) + v1).toNatClampNeg (m1 60 13)))) else if (m1 60 10) = (v2 + (nI 4)) then zBd (fX12_wrongAt F (nI 2) (m1 60 10) m1) (fun r6 m6 => zGb (decide (r6 = 0 ∨ r6 = 1)) (some (r6, m6))) else zBd (fX12_here F m1) (fun r8 m8 => fX12_readsBreath_27 F n v1 v2 (zUp (zUp m8 60 13 ((((nI 10) * (m1 60 13)) + r8) - (nI 48))) 60 10 (((zUp m8 60 13 ((((nI 10) * (m1 60 13)) + r8) - (nI 48))) 60 10) + (nI 1)))))
def fX12_readsBreath (F : Nat) (v1 : Int32) (μ : zMem) : Option zR :=
  zBd (fX12_isDigit F μ) (fun r2 m2 => if r2 = 0 then zBd (fX12_wrongAt F (nI 1) (m2 60 10) m2) (fun r4 m4 => zGb (decide (r4 = 0 ∨ r4 = 1)) (some (r4, m4))) else fX12_readsBreath_27 F F v1 (μ 60 10) (zUp m2 60 13 (nI 0)))
set_option maxRecDepth 20000 in
set_option maxHeartbeats 4000000 in
theorem wX12_readsBreath_27 {X : zX} {F : Nat} (hC : zCx X RX12 cX12_readsBreath 3 2) (hret : zRt X (some .boolean)) : ∀ (n : Nat) (v1 : Int32) (v2 : Int32) (μ : zMem), fX12_readsBreath_27 F n v1 v2 μ = some (zOut X) → zAW X 27 [some (.ref 60), some (.int v1), some (.int v2)] [] μ := by
  intro n
  induction n with
  | zero =>
    intro v1 v2 μ hf
    rw [fX12_readsBreath_27] at hf
    cases hf
  | succ n ih =>
    intro v1 v2 μ hf
    rw [fX12_readsBreath_27] at hf
    refine zs_al hC dX12_readsBreath_27 rfl ?_
    refine zs_callV [] hC cw_X12_isDigit cl_RX12_133 zL60 rfl (by decide) rfl rfl (Nat.le_of_ble_eq_true rfl) dX12_readsBreath_28 (fun _ h => ctX12_isDigit h) (fun r1 m1 _ hf => ?_) hf
    show zAW X 31 _ (.int r1 :: _) m1
    refine zs_if_eq hC dX12_readsBreath_31 (fun _ hf => ?_) (fun _ hf => ?_) hf
    · refine zs_al hC dX12_readsBreath_86 rfl ?_
      refine zs_getR 61 hC fl_RX12_7 zL60 rfl dX12_readsBreath_87 ?_
      refine zs_k hC dX12_readsBreath_90 ?_
      refine zs_il hC dX12_readsBreath_92 rfl ?_
      refine zs_iadd hC dX12_readsBreath_93 ?_
      refine zs_al hC dX12_readsBreath_94 rfl ?_
      refine zs_getI hC fl_RX12_130 zL60 rfl dX12_readsBreath_95 ?_
      refine zs_iast hC zL61 dX12_readsBreath_98 (fun _ hf => ?_) hf
      refine zs_k hC dX12_readsBreath_99 ?_
      exact zs_zretK hC hret dX12_readsBreath_100 (by decide) hf
    · refine zs_al hC dX12_readsBreath_34 rfl ?_
      refine zs_getI hC fl_RX12_113 zL60 rfl dX12_readsBreath_35 ?_
      refine zs_il hC dX12_readsBreath_38 rfl ?_
      refine zs_k hC dX12_readsBreath_39 ?_
      refine zs_iadd hC dX12_readsBreath_40 ?_
      refine zs_ic_ne hC dX12_readsBreath_41 (fun _ hf => ?_) (fun _ hf => ?_) hf
      · refine zs_al hC dX12_readsBreath_44 rfl ?_
        refine zs_k hC dX12_readsBreath_45 ?_
        refine zs_al hC dX12_readsBreath_46 rfl ?_
        refine zs_getI hC fl_RX12_113 zL60 rfl dX12_readsBreath_47 ?_
        refine zs_callV [.int (nI 2), .int (m1 60 10)] hC cw_X12_wrongAt cl_RX12_126 zL60 rfl (by decide) rfl rfl (Nat.le_of_ble_eq_true rfl) dX12_readsBreath_50 (fun _ h => ctX12_wrongAt h) (fun r6 m6 _ hf => ?_) hf
        show zAW X 53 _ (.int r6 :: _) m6
        exact zs_zret hC hret dX12_readsBreath_53 hf
      · refine zs_al hC dX12_readsBreath_54 rfl ?_
        refine zs_k hC dX12_readsBreath_55 ?_
        refine zs_al hC dX12_readsBreath_57 rfl ?_
        refine zs_getI hC fl_RX12_130 zL60 rfl dX12_readsBreath_58 ?_
        refine zs_imul hC dX12_readsBreath_61 ?_
        refine zs_al hC dX12_readsBreath_62 rfl ?_
        refine zs_callV [] hC cw_X12_here cl_RX12_119 zL60 rfl (by decide) rfl rfl (Nat.le_of_ble_eq_true rfl) dX12_readsBreath_63 (fun _ h => ctX12_here h) (fun r8 m8 _ hf => ?_) hf
        show zAW X 66 _ (.int r8 :: _) m8
        refine zs_iadd hC dX12_readsBreath_66 ?_
        refine zs_k hC dX12_readsBreath_67 ?_
        refine zs_isub hC dX12_readsBreath_69 ?_
        refine zs_putI hC fl_RX12_130 fp_12_13 zL60 rfl dX12_readsBreath_70 ?_
        refine zs_al hC dX12_readsBreath_73 rfl ?_
        refine zs_al hC dX12_readsBreath_74 rfl ?_
        refine zs_getI hC fl_RX12_113 zL60 rfl dX12_readsBreath_75 ?_
        refine zs_k hC dX12_readsBreath_78 ?_
        refine zs_iadd hC dX12_readsBreath_79 ?_
        refine zs_putI hC fl_RX12_113 fp_12_10 zL60 rfl dX12_readsBreath_80 ?_
        refine zs_goto hC dX12_readsBreath_83 ?_
        exact zAW.weak (ih _ _ _ hf) (zLw_s (zLw_s (zLw_s zLw_0)))
set_option maxRecDepth 20000 in
set_option maxHeartbeats 4000000 in
theorem wX12_readsBreath {X : zX} {F : Nat} (hC : zCx X RX12 cX12_readsBreath 3 2) (hret : zRt X (some .boolean)) {v1 : Int32} {μ : zMem} (hf : fX12_readsBreath F v1 μ = some (zOut X)) : zAW X 0 [some (.ref 60), some (.int v1), none] [] μ := by
  unfold fX12_readsBreath at hf
  refine zs_al hC dX12_readsBreath_0 rfl ?_
  refine zs_getI hC fl_RX12_113 zL60 rfl dX12_readsBreath_1 ?_
  refine zs_is hC dX12_readsBreath_4 (by decide) rfl ?_
  refine zs_al hC dX12_readsBreath_5 rfl ?_
  refine zs_callV [] hC cw_X12_isDigit cl_RX12_133 zL60 rfl (by decide) rfl rfl (Nat.le_of_ble_eq_true rfl) dX12_readsBreath_6 (fun _ h => ctX12_isDigit h) (fun r2 m2 _ hf => ?_) hf
  show zAW X 9 _ (.int r2 :: _) m2
  refine zs_if_ne hC dX12_readsBreath_9 (fun _ hf => ?_) (fun _ hf => ?_) hf
  · refine zs_al hC dX12_readsBreath_12 rfl ?_
    refine zs_k hC dX12_readsBreath_13 ?_
    refine zs_al hC dX12_readsBreath_14 rfl ?_
    refine zs_getI hC fl_RX12_113 zL60 rfl dX12_readsBreath_15 ?_
    refine zs_callV [.int (nI 1), .int (m2 60 10)] hC cw_X12_wrongAt cl_RX12_126 zL60 rfl (by decide) rfl rfl (Nat.le_of_ble_eq_true rfl) dX12_readsBreath_18 (fun _ h => ctX12_wrongAt h) (fun r4 m4 _ hf => ?_) hf
    show zAW X 21 _ (.int r4 :: _) m4
    exact zs_zret hC hret dX12_readsBreath_21 hf
  · refine zs_al hC dX12_readsBreath_22 rfl ?_
    refine zs_k hC dX12_readsBreath_23 ?_
    refine zs_putI hC fl_RX12_130 fp_12_13 zL60 rfl dX12_readsBreath_24 ?_
    exact zAW.weak (wX12_readsBreath_27 hC hret F _ _ _ hf) (zLw_s (zLw_s (zLw_s zLw_0)))
set_option maxRecDepth 20000 in
set_option maxHeartbeats 4000000 in
theorem ctX12_readsBreath {E : zEV} {F : Nat} {v1 : Int32} {μ : zMem} {out : zR} (hf : fX12_readsBreath F v1 μ = some out) : zCt E yX12_readsBreath cX12_readsBreath 3 (some .boolean) 2 [.ref 60, .int v1] μ out :=
  zCt.of [some (.ref 60), some (.int v1), none] (by decide +kernel) (Nat.le_of_ble_eq_true rfl) (zLw_s (zLw_s (zLw_e zLw_0))) rfl (fun X hE ho hr hC => by
    subst hE; subst ho
    exact wX12_readsBreath hC hr hf)
/-! X12_readsSecret -/
def fX12_readsSecret (F : Nat) (v1 : Int32) (v2 : Int32) (μ : zMem) : Option zR :=
  zBd (fX12_here F μ) (fun r1 m1 => zBd (fX12_in F (r1 - (nI 65)) (nI 0) (nI 15) m1) (fun r2 m2 => if r2 = 0 then zBd (fX12_wrongAt F (nI 1) (m2 60 10) m2) (fun r4 m4 => zGb (decide (r4 = 0 ∨ r4 = 1)) (some (r4, m4))) else if v2 = 0 then zG ((nI 16) + v1) 1047 (zG ((nI 16) + v1) 1047 (some ((nI 1), (zUp (zUp m2 60 10 ((m2 60 10) + (nI 1))) 61 ((nI 16) + v1).toNatClampNeg (((zUp m2 60 10 ((m2 60 10) + (nI 1))) 61 ((nI 16) + v1).toNatClampNeg) &&& (((nI 1) <<< ((r1 - (nI 65)) &&& 31)) ^^^ (-1 : Int32))))))) else zG ((nI 16) + v1) 1047 (zG ((nI 16) + v1) 1047 (some ((nI 1), (zUp (zUp m2 60 10 ((m2 60 10) + (nI 1))) 61 ((nI 16) + v1).toNatClampNeg (((zUp m2 60 10 ((m2 60 10) + (nI 1))) 61 ((nI 16) + v1).toNatClampNeg) ||| ((nI 1) <<< ((r1 - (nI 65)) &&& 31)))))))))
set_option maxRecDepth 20000 in
set_option maxHeartbeats 4000000 in
theorem wX12_readsSecret {X : zX} {F : Nat} (hC : zCx X RX12 cX12_readsSecret 4 1) (hret : zRt X (some .boolean)) {v1 : Int32} {v2 : Int32} {μ : zMem} (hf : fX12_readsSecret F v1 v2 μ = some (zOut X)) : zAW X 0 [some (.ref 60), some (.int v1), some (.int v2), none] [] μ := by
  unfold fX12_readsSecret at hf
  refine zs_al hC dX12_readsSecret_0 rfl ?_
  refine zs_callV [] hC cw_X12_here cl_RX12_119 zL60 rfl (by decide) rfl rfl (Nat.le_of_ble_eq_true rfl) dX12_readsSecret_1 (fun _ h => ctX12_here h) (fun r1 m1 _ hf => ?_) hf
  show zAW X 4 _ (.int r1 :: _) m1
  refine zs_k hC dX12_readsSecret_4 ?_
  refine zs_isub hC dX12_readsSecret_6 ?_
  refine zs_is hC dX12_readsSecret_7 (by decide) rfl ?_
  refine zs_il hC dX12_readsSecret_8 rfl ?_
  refine zs_k hC dX12_readsSecret_9 ?_
  refine zs_k hC dX12_readsSecret_10 ?_
  refine zs_callS [.int (r1 - (nI 65)), .int (nI 0), .int (nI 15)] hC cw_X12_in cl_RX12_96 (by decide) rfl rfl (Nat.le_of_ble_eq_true rfl) dX12_readsSecret_12 (fun _ h => ctX12_in h) (fun r2 m2 _ hf => ?_) hf
  show zAW X 15 _ (.int r2 :: _) m2
  refine zs_if_ne hC dX12_readsSecret_15 (fun _ hf => ?_) (fun _ hf => ?_) hf
  · refine zs_al hC dX12_readsSecret_18 rfl ?_
    refine zs_k hC dX12_readsSecret_19 ?_
    refine zs_al hC dX12_readsSecret_20 rfl ?_
    refine zs_getI hC fl_RX12_113 zL60 rfl dX12_readsSecret_21 ?_
    refine zs_callV [.int (nI 1), .int (m2 60 10)] hC cw_X12_wrongAt cl_RX12_126 zL60 rfl (by decide) rfl rfl (Nat.le_of_ble_eq_true rfl) dX12_readsSecret_24 (fun _ h => ctX12_wrongAt h) (fun r4 m4 _ hf => ?_) hf
    show zAW X 27 _ (.int r4 :: _) m4
    exact zs_zret hC hret dX12_readsSecret_27 hf
  · refine zs_al hC dX12_readsSecret_28 rfl ?_
    refine zs_al hC dX12_readsSecret_29 rfl ?_
    refine zs_getI hC fl_RX12_113 zL60 rfl dX12_readsSecret_30 ?_
    refine zs_k hC dX12_readsSecret_33 ?_
    refine zs_iadd hC dX12_readsSecret_34 ?_
    refine zs_putI hC fl_RX12_113 fp_12_10 zL60 rfl dX12_readsSecret_35 ?_
    refine zs_al hC dX12_readsSecret_38 rfl ?_
    refine zs_getR 61 hC fl_RX12_7 zL60 rfl dX12_readsSecret_39 ?_
    refine zs_k hC dX12_readsSecret_42 ?_
    refine zs_il hC dX12_readsSecret_44 rfl ?_
    refine zs_iadd hC dX12_readsSecret_45 ?_
    refine zs_il hC dX12_readsSecret_46 rfl ?_
    refine zs_if_eq hC dX12_readsSecret_47 (fun _ hf => ?_) (fun _ hf => ?_) hf
    · refine zs_al hC dX12_readsSecret_66 rfl ?_
      refine zs_getR 61 hC fl_RX12_7 zL60 rfl dX12_readsSecret_67 ?_
      refine zs_k hC dX12_readsSecret_70 ?_
      refine zs_il hC dX12_readsSecret_72 rfl ?_
      refine zs_iadd hC dX12_readsSecret_73 ?_
      refine zs_iald hC zL61 dX12_readsSecret_74 (fun _ hf => ?_) hf
      refine zs_k hC dX12_readsSecret_75 ?_
      refine zs_il hC dX12_readsSecret_76 rfl ?_
      refine zs_ishl hC dX12_readsSecret_77 ?_
      refine zs_k hC dX12_readsSecret_78 ?_
      refine zs_ixor hC dX12_readsSecret_79 ?_
      refine zs_iand hC dX12_readsSecret_80 ?_
      refine zs_iast hC zL61 dX12_readsSecret_81 (fun _ hf => ?_) hf
      refine zs_k hC dX12_readsSecret_82 ?_
      exact zs_zretK hC hret dX12_readsSecret_83 (by decide) hf
    · refine zs_al hC dX12_readsSecret_50 rfl ?_
      refine zs_getR 61 hC fl_RX12_7 zL60 rfl dX12_readsSecret_51 ?_
      refine zs_k hC dX12_readsSecret_54 ?_
      refine zs_il hC dX12_readsSecret_56 rfl ?_
      refine zs_iadd hC dX12_readsSecret_57 ?_
      refine zs_iald hC zL61 dX12_readsSecret_58 (fun _ hf => ?_) hf
      refine zs_k hC dX12_readsSecret_59 ?_
      refine zs_il hC dX12_readsSecret_60 rfl ?_
      refine zs_ishl hC dX12_readsSecret_61 ?_
      refine zs_ior hC dX12_readsSecret_62 ?_
      refine zs_goto hC dX12_readsSecret_63 ?_
      refine zs_iast hC zL61 dX12_readsSecret_81 (fun _ hf => ?_) hf
      refine zs_k hC dX12_readsSecret_82 ?_
      exact zs_zretK hC hret dX12_readsSecret_83 (by decide) hf
set_option maxRecDepth 20000 in
set_option maxHeartbeats 4000000 in
theorem ctX12_readsSecret {E : zEV} {F : Nat} {v1 : Int32} {v2 : Int32} {μ : zMem} {out : zR} (hf : fX12_readsSecret F v1 v2 μ = some out) : zCt E yX12_readsSecret cX12_readsSecret 4 (some .boolean) 1 [.ref 60, .int v1, .int v2] μ out :=
  zCt.of [some (.ref 60), some (.int v1), some (.int v2), none] (by decide +kernel) (Nat.le_of_ble_eq_true rfl) (zLw_s (zLw_s (zLw_s (zLw_e zLw_0)))) rfl (fun X hE ho hr hC => by
    subst hE; subst ho
    exact wX12_readsSecret hC hr hf)
/-! X12_readsOther -/
def fX12_readsOther (F : Nat) (v1 : Int32) (μ : zMem) : Option zR :=
  zBd (fX12_isLetter F μ) (fun r1 m1 => if r1 = 0 then zBd (fX12_wrongAt F (nI 1) (m1 60 10) m1) (fun r3 m3 => zGb (decide (r3 = 0 ∨ r3 = 1)) (some (r3, m3))) else zBd (fX12_here F m1) (fun r4 m4 => if (r4 - (nI 97)) = v1 then zBd (fX12_wrongAt F (nI 6) (m4 60 10) m4) (fun r6 m6 => zGb (decide (r6 = 0 ∨ r6 = 1)) (some (r6, m6))) else zBd (fX12_isTold F (r4 - (nI 97)) m4) (fun r7 m7 => if r7 = 0 then zBd (fX12_wrongAt F (nI 7) (m7 60 10) m7) (fun r9 m9 => zGb (decide (r9 = 0 ∨ r9 = 1)) (some (r9, m9))) else zG ((nI 16) + (r4 - (nI 97))) 1047 (zG ((nI 16) + v1) 1047 (zG ((nI 16) + (r4 - (nI 97))) 1047 (some ((nI 1), (zUp (zUp m7 60 10 ((m7 60 10) + (nI 1))) 61 ((nI 16) + (r4 - (nI 97))).toNatClampNeg (((zUp m7 60 10 ((m7 60 10) + (nI 1))) 61 ((nI 16) + (r4 - (nI 97))).toNatClampNeg) ||| ((zUp m7 60 10 ((m7 60 10) + (nI 1))) 61 ((nI 16) + v1).toNatClampNeg))))))))))
set_option maxRecDepth 20000 in
set_option maxHeartbeats 4000000 in
theorem wX12_readsOther {X : zX} {F : Nat} (hC : zCx X RX12 cX12_readsOther 3 2) (hret : zRt X (some .boolean)) {v1 : Int32} {μ : zMem} (hf : fX12_readsOther F v1 μ = some (zOut X)) : zAW X 0 [some (.ref 60), some (.int v1), none] [] μ := by
  unfold fX12_readsOther at hf
  refine zs_al hC dX12_readsOther_0 rfl ?_
  refine zs_callV [] hC cw_X12_isLetter cl_RX12_221 zL60 rfl (by decide) rfl rfl (Nat.le_of_ble_eq_true rfl) dX12_readsOther_1 (fun _ h => ctX12_isLetter h) (fun r1 m1 _ hf => ?_) hf
  show zAW X 4 _ (.int r1 :: _) m1
  refine zs_if_ne hC dX12_readsOther_4 (fun _ hf => ?_) (fun _ hf => ?_) hf
  · refine zs_al hC dX12_readsOther_7 rfl ?_
    refine zs_k hC dX12_readsOther_8 ?_
    refine zs_al hC dX12_readsOther_9 rfl ?_
    refine zs_getI hC fl_RX12_113 zL60 rfl dX12_readsOther_10 ?_
    refine zs_callV [.int (nI 1), .int (m1 60 10)] hC cw_X12_wrongAt cl_RX12_126 zL60 rfl (by decide) rfl rfl (Nat.le_of_ble_eq_true rfl) dX12_readsOther_13 (fun _ h => ctX12_wrongAt h) (fun r3 m3 _ hf => ?_) hf
    show zAW X 16 _ (.int r3 :: _) m3
    exact zs_zret hC hret dX12_readsOther_16 hf
  · refine zs_al hC dX12_readsOther_17 rfl ?_
    refine zs_callV [] hC cw_X12_here cl_RX12_119 zL60 rfl (by decide) rfl rfl (Nat.le_of_ble_eq_true rfl) dX12_readsOther_18 (fun _ h => ctX12_here h) (fun r4 m4 _ hf => ?_) hf
    show zAW X 21 _ (.int r4 :: _) m4
    refine zs_k hC dX12_readsOther_21 ?_
    refine zs_isub hC dX12_readsOther_23 ?_
    refine zs_is hC dX12_readsOther_24 (by decide) rfl ?_
    refine zs_il hC dX12_readsOther_25 rfl ?_
    refine zs_il hC dX12_readsOther_26 rfl ?_
    refine zs_ic_ne hC dX12_readsOther_27 (fun _ hf => ?_) (fun _ hf => ?_) hf
    · refine zs_al hC dX12_readsOther_30 rfl ?_
      refine zs_k hC dX12_readsOther_31 ?_
      refine zs_al hC dX12_readsOther_33 rfl ?_
      refine zs_getI hC fl_RX12_113 zL60 rfl dX12_readsOther_34 ?_
      refine zs_callV [.int (nI 6), .int (m4 60 10)] hC cw_X12_wrongAt cl_RX12_126 zL60 rfl (by decide) rfl rfl (Nat.le_of_ble_eq_true rfl) dX12_readsOther_37 (fun _ h => ctX12_wrongAt h) (fun r6 m6 _ hf => ?_) hf
      show zAW X 40 _ (.int r6 :: _) m6
      exact zs_zret hC hret dX12_readsOther_40 hf
    · refine zs_al hC dX12_readsOther_41 rfl ?_
      refine zs_il hC dX12_readsOther_42 rfl ?_
      refine zs_callV [.int (r4 - (nI 97))] hC cw_X12_isTold cl_RX12_100 zL60 rfl (by decide) rfl rfl (Nat.le_of_ble_eq_true rfl) dX12_readsOther_43 (fun _ h => ctX12_isTold h) (fun r7 m7 _ hf => ?_) hf
      show zAW X 46 _ (.int r7 :: _) m7
      refine zs_if_ne hC dX12_readsOther_46 (fun _ hf => ?_) (fun _ hf => ?_) hf
      · refine zs_al hC dX12_readsOther_49 rfl ?_
        refine zs_k hC dX12_readsOther_50 ?_
        refine zs_al hC dX12_readsOther_52 rfl ?_
        refine zs_getI hC fl_RX12_113 zL60 rfl dX12_readsOther_53 ?_
        refine zs_callV [.int (nI 7), .int (m7 60 10)] hC cw_X12_wrongAt cl_RX12_126 zL60 rfl (by decide) rfl rfl (Nat.le_of_ble_eq_true rfl) dX12_readsOther_56 (fun _ h => ctX12_wrongAt h) (fun r9 m9 _ hf => ?_) hf
        show zAW X 59 _ (.int r9 :: _) m9
        exact zs_zret hC hret dX12_readsOther_59 hf
      · refine zs_al hC dX12_readsOther_60 rfl ?_
        refine zs_al hC dX12_readsOther_61 rfl ?_
        refine zs_getI hC fl_RX12_113 zL60 rfl dX12_readsOther_62 ?_
        refine zs_k hC dX12_readsOther_65 ?_
        refine zs_iadd hC dX12_readsOther_66 ?_
        refine zs_putI hC fl_RX12_113 fp_12_10 zL60 rfl dX12_readsOther_67 ?_
        refine zs_al hC dX12_readsOther_70 rfl ?_
        refine zs_getR 61 hC fl_RX12_7 zL60 rfl dX12_readsOther_71 ?_
        refine zs_k hC dX12_readsOther_74 ?_
        refine zs_il hC dX12_readsOther_76 rfl ?_
        refine zs_iadd hC dX12_readsOther_77 ?_
        refine zs_al hC dX12_readsOther_78 rfl ?_
        refine zs_getR 61 hC fl_RX12_7 zL60 rfl dX12_readsOther_79 ?_
        refine zs_k hC dX12_readsOther_82 ?_
        refine zs_il hC dX12_readsOther_84 rfl ?_
        refine zs_iadd hC dX12_readsOther_85 ?_
        refine zs_iald hC zL61 dX12_readsOther_86 (fun _ hf => ?_) hf
        refine zs_al hC dX12_readsOther_87 rfl ?_
        refine zs_getR 61 hC fl_RX12_7 zL60 rfl dX12_readsOther_88 ?_
        refine zs_k hC dX12_readsOther_91 ?_
        refine zs_il hC dX12_readsOther_93 rfl ?_
        refine zs_iadd hC dX12_readsOther_94 ?_
        refine zs_iald hC zL61 dX12_readsOther_95 (fun _ hf => ?_) hf
        refine zs_ior hC dX12_readsOther_96 ?_
        refine zs_iast hC zL61 dX12_readsOther_97 (fun _ hf => ?_) hf
        refine zs_k hC dX12_readsOther_98 ?_
        exact zs_zretK hC hret dX12_readsOther_99 (by decide) hf
set_option maxRecDepth 20000 in
set_option maxHeartbeats 4000000 in
theorem ctX12_readsOther {E : zEV} {F : Nat} {v1 : Int32} {μ : zMem} {out : zR} (hf : fX12_readsOther F v1 μ = some out) : zCt E yX12_readsOther cX12_readsOther 3 (some .boolean) 2 [.ref 60, .int v1] μ out :=
  zCt.of [some (.ref 60), some (.int v1), none] (by decide +kernel) (Nat.le_of_ble_eq_true rfl) (zLw_s (zLw_s (zLw_e zLw_0))) rfl (fun X hE ho hr hC => by
    subst hE; subst ho
    exact wX12_readsOther hC hr hf)
/-! X12_readsLine -/
def fX12_readsLine (F : Nat) (μ : zMem) : Option zR :=
  zBd (fX12_isLetter F μ) (fun r1 m1 => if r1 = 0 then zBd (fX12_wrongAt F (nI 1) (m1 60 10) m1) (fun r3 m3 => zGb (decide (r3 = 0 ∨ r3 = 1)) (some (r3, m3))) else if (m1 60 32) = (nI 20) then zBd (fX12_wrongAt F (nI 4) (m1 60 10) m1) (fun r6 m6 => zGb (decide (r6 = 0 ∨ r6 = 1)) (some (r6, m6))) else zBd (fX12_here F (zUp m1 60 32 ((m1 60 32) + (nI 1)))) (fun r8 m8 => zBd (fX12_isTold F (r8 - (nI 97)) m8) (fun r9 m9 => if r9 = 0 then zBd (fX12_wrongAt F (nI 7) (m9 60 10) m9) (fun r11 m11 => zGb (decide (r11 = 0 ∨ r11 = 1)) (some (r11, m11))) else zBd (fX12_here F (zUp m9 60 10 ((m9 60 10) + (nI 1)))) (fun r13 m13 => (if r13 = (nI 33) then zG ((nI 32) + (r8 - (nI 97))) 1047 (some ((nI 1), (zUp (zUp m13 60 10 ((m13 60 10) + (nI 1))) 61 ((nI 32) + (r8 - (nI 97))).toNatClampNeg (nI 1)))) else if r13 = (nI 43) then zBd (fX12_readsSecret F (r8 - (nI 97)) (nI 1) (zUp m13 60 10 ((m13 60 10) + (nI 1)))) (fun r16 m16 => zGb (decide (r16 = 0 ∨ r16 = 1)) (some (r16, m16))) else if r13 = (nI 45) then zBd (fX12_readsSecret F (r8 - (nI 97)) (nI 0) (zUp m13 60 10 ((m13 60 10) + (nI 1)))) (fun r17 m17 => zGb (decide (r17 = 0 ∨ r17 = 1)) (some (r17, m17))) else if r13 = (nI 61) then zBd (fX12_readsBreath F (r8 - (nI 97)) (zUp m13 60 10 ((m13 60 10) + (nI 1)))) (fun r18 m18 => zGb (decide (r18 = 0 ∨ r18 = 1)) (some (r18, m18))) else if r13 = (nI 62) then zBd (fX12_readsOther F (r8 - (nI 97)) (zUp m13 60 10 ((m13 60 10) + (nI 1)))) (fun r19 m19 => zGb (decide (r19 = 0 ∨ r19 = 1)) (some (r19, m19))) else if r13 = (nI 63) then zG ((nI 32) + (r8 - (nI 97))) 1047 (some ((nI 1), (zUp (zUp m13 60 10 ((m13 60 10) + (nI 1))) 61 ((nI 32) + (r8 - (nI 97))).toNatClampNeg (nI 0)))) else zBd (fX12_wrongAt F (nI 1) (((zUp m13 60 10 ((m13 60 10) + (nI 1))) 60 10) - (nI 1)) (zUp m13 60 10 ((m13 60 10) + (nI 1)))) (fun r22 m22 => zGb (decide (r22 = 0 ∨ r22 = 1)) (some (r22, m22))))))))
set_option maxRecDepth 20000 in
set_option maxHeartbeats 4000000 in
theorem wX12_readsLine {X : zX} {F : Nat} (hC : zCx X RX12 cX12_readsLine 3 3) (hret : zRt X (some .boolean)) {μ : zMem} (hf : fX12_readsLine F μ = some (zOut X)) : zAW X 0 [some (.ref 60), none, none] [] μ := by
  unfold fX12_readsLine at hf
  refine zs_al hC dX12_readsLine_0 rfl ?_
  refine zs_callV [] hC cw_X12_isLetter cl_RX12_221 zL60 rfl (by decide) rfl rfl (Nat.le_of_ble_eq_true rfl) dX12_readsLine_1 (fun _ h => ctX12_isLetter h) (fun r1 m1 _ hf => ?_) hf
  show zAW X 4 _ (.int r1 :: _) m1
  refine zs_if_ne hC dX12_readsLine_4 (fun _ hf => ?_) (fun _ hf => ?_) hf
  · refine zs_al hC dX12_readsLine_7 rfl ?_
    refine zs_k hC dX12_readsLine_8 ?_
    refine zs_al hC dX12_readsLine_9 rfl ?_
    refine zs_getI hC fl_RX12_113 zL60 rfl dX12_readsLine_10 ?_
    refine zs_callV [.int (nI 1), .int (m1 60 10)] hC cw_X12_wrongAt cl_RX12_126 zL60 rfl (by decide) rfl rfl (Nat.le_of_ble_eq_true rfl) dX12_readsLine_13 (fun _ h => ctX12_wrongAt h) (fun r3 m3 _ hf => ?_) hf
    show zAW X 16 _ (.int r3 :: _) m3
    exact zs_zret hC hret dX12_readsLine_16 hf
  · refine zs_al hC dX12_readsLine_17 rfl ?_
    refine zs_getI hC fl_RX12_224 zL60 rfl dX12_readsLine_18 ?_
    refine zs_k hC dX12_readsLine_21 ?_
    refine zs_ic_ne hC dX12_readsLine_23 (fun _ hf => ?_) (fun _ hf => ?_) hf
    · refine zs_al hC dX12_readsLine_26 rfl ?_
      refine zs_k hC dX12_readsLine_27 ?_
      refine zs_al hC dX12_readsLine_28 rfl ?_
      refine zs_getI hC fl_RX12_113 zL60 rfl dX12_readsLine_29 ?_
      refine zs_callV [.int (nI 4), .int (m1 60 10)] hC cw_X12_wrongAt cl_RX12_126 zL60 rfl (by decide) rfl rfl (Nat.le_of_ble_eq_true rfl) dX12_readsLine_32 (fun _ h => ctX12_wrongAt h) (fun r6 m6 _ hf => ?_) hf
      show zAW X 35 _ (.int r6 :: _) m6
      exact zs_zret hC hret dX12_readsLine_35 hf
    · refine zs_al hC dX12_readsLine_36 rfl ?_
      refine zs_al hC dX12_readsLine_37 rfl ?_
      refine zs_getI hC fl_RX12_224 zL60 rfl dX12_readsLine_38 ?_
      refine zs_k hC dX12_readsLine_41 ?_
      refine zs_iadd hC dX12_readsLine_42 ?_
      refine zs_putI hC fl_RX12_224 fp_12_32 zL60 rfl dX12_readsLine_43 ?_
      refine zs_al hC dX12_readsLine_46 rfl ?_
      refine zs_callV [] hC cw_X12_here cl_RX12_119 zL60 rfl (by decide) rfl rfl (Nat.le_of_ble_eq_true rfl) dX12_readsLine_47 (fun _ h => ctX12_here h) (fun r8 m8 _ hf => ?_) hf
      show zAW X 50 _ (.int r8 :: _) m8
      refine zs_k hC dX12_readsLine_50 ?_
      refine zs_isub hC dX12_readsLine_52 ?_
      refine zs_is hC dX12_readsLine_53 (by decide) rfl ?_
      refine zs_al hC dX12_readsLine_54 rfl ?_
      refine zs_il hC dX12_readsLine_55 rfl ?_
      refine zs_callV [.int (r8 - (nI 97))] hC cw_X12_isTold cl_RX12_100 zL60 rfl (by decide) rfl rfl (Nat.le_of_ble_eq_true rfl) dX12_readsLine_56 (fun _ h => ctX12_isTold h) (fun r9 m9 _ hf => ?_) hf
      show zAW X 59 _ (.int r9 :: _) m9
      refine zs_if_ne hC dX12_readsLine_59 (fun _ hf => ?_) (fun _ hf => ?_) hf
      · refine zs_al hC dX12_readsLine_62 rfl ?_
        refine zs_k hC dX12_readsLine_63 ?_
        refine zs_al hC dX12_readsLine_65 rfl ?_
        refine zs_getI hC fl_RX12_113 zL60 rfl dX12_readsLine_66 ?_
        refine zs_callV [.int (nI 7), .int (m9 60 10)] hC cw_X12_wrongAt cl_RX12_126 zL60 rfl (by decide) rfl rfl (Nat.le_of_ble_eq_true rfl) dX12_readsLine_69 (fun _ h => ctX12_wrongAt h) (fun r11 m11 _ hf => ?_) hf
        show zAW X 72 _ (.int r11 :: _) m11
        exact zs_zret hC hret dX12_readsLine_72 hf
      · refine zs_al hC dX12_readsLine_73 rfl ?_
        refine zs_al hC dX12_readsLine_74 rfl ?_
        refine zs_getI hC fl_RX12_113 zL60 rfl dX12_readsLine_75 ?_
        refine zs_k hC dX12_readsLine_78 ?_
        refine zs_iadd hC dX12_readsLine_79 ?_
        refine zs_putI hC fl_RX12_113 fp_12_10 zL60 rfl dX12_readsLine_80 ?_
        refine zs_al hC dX12_readsLine_83 rfl ?_
        refine zs_callV [] hC cw_X12_here cl_RX12_119 zL60 rfl (by decide) rfl rfl (Nat.le_of_ble_eq_true rfl) dX12_readsLine_84 (fun _ h => ctX12_here h) (fun r13 m13 _ hf => ?_) hf
        show zAW X 87 _ (.int r13 :: _) m13
        refine zs_is hC dX12_readsLine_87 (by decide) rfl ?_
        refine zs_al hC dX12_readsLine_88 rfl ?_
        refine zs_al hC dX12_readsLine_89 rfl ?_
        refine zs_getI hC fl_RX12_113 zL60 rfl dX12_readsLine_90 ?_
        refine zs_k hC dX12_readsLine_93 ?_
        refine zs_iadd hC dX12_readsLine_94 ?_
        refine zs_putI hC fl_RX12_113 fp_12_10 zL60 rfl dX12_readsLine_95 ?_
        refine zs_il hC dX12_readsLine_98 rfl ?_
        refine zs_case (nI 33) (fun hx hf => ?_) (fun e99_33 hf => ?_) hf
        · refine zs_look (tgt := 182) (off := 83) hC dX12_readsLine_99 (by decide) (by rw [hx]; first | done | decide) (by decide) ?_
          refine zs_al hC dX12_readsLine_182 rfl ?_
          refine zs_getR 61 hC fl_RX12_7 zL60 rfl dX12_readsLine_183 ?_
          refine zs_k hC dX12_readsLine_186 ?_
          refine zs_il hC dX12_readsLine_188 rfl ?_
          refine zs_iadd hC dX12_readsLine_189 ?_
          refine zs_k hC dX12_readsLine_190 ?_
          refine zs_iast hC zL61 dX12_readsLine_191 (fun _ hf => ?_) hf
          refine zs_k hC dX12_readsLine_192 ?_
          exact zs_zretK hC hret dX12_readsLine_193 (by decide) hf
        refine zs_case (nI 43) (fun hx hf => ?_) (fun e99_43 hf => ?_) hf
        · refine zs_look (tgt := 156) (off := 57) hC dX12_readsLine_99 (by decide) (by rw [hx]; first | done | decide) (by decide) ?_
          refine zs_al hC dX12_readsLine_156 rfl ?_
          refine zs_il hC dX12_readsLine_157 rfl ?_
          refine zs_k hC dX12_readsLine_158 ?_
          refine zs_callV [.int (r8 - (nI 97)), .int (nI 1)] hC cw_X12_readsSecret cl_RX12_227 zL60 rfl (by decide) rfl rfl (Nat.le_of_ble_eq_true rfl) dX12_readsLine_159 (fun _ h => ctX12_readsSecret h) (fun r16 m16 _ hf => ?_) hf
          show zAW X 162 _ (.int r16 :: _) m16
          exact zs_zret hC hret dX12_readsLine_162 hf
        refine zs_case (nI 45) (fun hx hf => ?_) (fun e99_45 hf => ?_) hf
        · refine zs_look (tgt := 163) (off := 64) hC dX12_readsLine_99 (by decide) (by rw [hx]; first | done | decide) (by decide) ?_
          refine zs_al hC dX12_readsLine_163 rfl ?_
          refine zs_il hC dX12_readsLine_164 rfl ?_
          refine zs_k hC dX12_readsLine_165 ?_
          refine zs_callV [.int (r8 - (nI 97)), .int (nI 0)] hC cw_X12_readsSecret cl_RX12_227 zL60 rfl (by decide) rfl rfl (Nat.le_of_ble_eq_true rfl) dX12_readsLine_166 (fun _ h => ctX12_readsSecret h) (fun r17 m17 _ hf => ?_) hf
          show zAW X 169 _ (.int r17 :: _) m17
          exact zs_zret hC hret dX12_readsLine_169 hf
        refine zs_case (nI 61) (fun hx hf => ?_) (fun e99_61 hf => ?_) hf
        · refine zs_look (tgt := 176) (off := 77) hC dX12_readsLine_99 (by decide) (by rw [hx]; first | done | decide) (by decide) ?_
          refine zs_al hC dX12_readsLine_176 rfl ?_
          refine zs_il hC dX12_readsLine_177 rfl ?_
          refine zs_callV [.int (r8 - (nI 97))] hC cw_X12_readsBreath cl_RX12_234 zL60 rfl (by decide) rfl rfl (Nat.le_of_ble_eq_true rfl) dX12_readsLine_178 (fun _ h => ctX12_readsBreath h) (fun r18 m18 _ hf => ?_) hf
          show zAW X 181 _ (.int r18 :: _) m18
          exact zs_zret hC hret dX12_readsLine_181 hf
        refine zs_case (nI 62) (fun hx hf => ?_) (fun e99_62 hf => ?_) hf
        · refine zs_look (tgt := 170) (off := 71) hC dX12_readsLine_99 (by decide) (by rw [hx]; first | done | decide) (by decide) ?_
          refine zs_al hC dX12_readsLine_170 rfl ?_
          refine zs_il hC dX12_readsLine_171 rfl ?_
          refine zs_callV [.int (r8 - (nI 97))] hC cw_X12_readsOther cl_RX12_231 zL60 rfl (by decide) rfl rfl (Nat.le_of_ble_eq_true rfl) dX12_readsLine_172 (fun _ h => ctX12_readsOther h) (fun r19 m19 _ hf => ?_) hf
          show zAW X 175 _ (.int r19 :: _) m19
          exact zs_zret hC hret dX12_readsLine_175 hf
        refine zs_case (nI 63) (fun hx hf => ?_) (fun e99_63 hf => ?_) hf
        · refine zs_look (tgt := 194) (off := 95) hC dX12_readsLine_99 (by decide) (by rw [hx]; first | done | decide) (by decide) ?_
          refine zs_al hC dX12_readsLine_194 rfl ?_
          refine zs_getR 61 hC fl_RX12_7 zL60 rfl dX12_readsLine_195 ?_
          refine zs_k hC dX12_readsLine_198 ?_
          refine zs_il hC dX12_readsLine_200 rfl ?_
          refine zs_iadd hC dX12_readsLine_201 ?_
          refine zs_k hC dX12_readsLine_202 ?_
          refine zs_iast hC zL61 dX12_readsLine_203 (fun _ hf => ?_) hf
          refine zs_k hC dX12_readsLine_204 ?_
          exact zs_zretK hC hret dX12_readsLine_205 (by decide) hf
        refine zs_look (tgt := 206) (off := 107) hC dX12_readsLine_99 (by decide) (by show Op.lookupswitch.offset [(33, 83), (43, 57), (45, 64), (61, 77), (62, 71), (63, 95)] 107 _ = _; rw [lv_osw (a := 33) e99_33 (by decide), lv_osw (a := 43) e99_43 (by decide), lv_osw (a := 45) e99_45 (by decide), lv_osw (a := 61) e99_61 (by decide), lv_osw (a := 62) e99_62 (by decide), lv_osw (a := 63) e99_63 (by decide)]; rfl) (by decide) ?_
        refine zs_al hC dX12_readsLine_206 rfl ?_
        refine zs_k hC dX12_readsLine_207 ?_
        refine zs_al hC dX12_readsLine_208 rfl ?_
        refine zs_getI hC fl_RX12_113 zL60 rfl dX12_readsLine_209 ?_
        refine zs_k hC dX12_readsLine_212 ?_
        refine zs_isub hC dX12_readsLine_213 ?_
        refine zs_callV [.int (nI 1), .int (((zUp m13 60 10 ((m13 60 10) + (nI 1))) 60 10) - (nI 1))] hC cw_X12_wrongAt cl_RX12_126 zL60 rfl (by decide) rfl rfl (Nat.le_of_ble_eq_true rfl) dX12_readsLine_214 (fun _ h => ctX12_wrongAt h) (fun r22 m22 _ hf => ?_) hf
        show zAW X 217 _ (.int r22 :: _) m22
        exact zs_zret hC hret dX12_readsLine_217 hf
set_option maxRecDepth 20000 in
set_option maxHeartbeats 4000000 in
theorem ctX12_readsLine {E : zEV} {F : Nat} {μ : zMem} {out : zR} (hf : fX12_readsLine F μ = some out) : zCt E yX12_readsLine cX12_readsLine 3 (some .boolean) 3 [.ref 60] μ out :=
  zCt.of [some (.ref 60), none, none] (by decide +kernel) (Nat.le_of_ble_eq_true rfl) (zLw_s (zLw_e (zLw_e zLw_0))) rfl (fun X hE ho hr hC => by
    subst hE; subst ho
    exact wX12_readsLine hC hr hf)
/-! X12_gossip -/
def fX12_gossip_86 (F : Nat) (v2 : Int32) (μ : zMem) : Option zR :=
  if v2 = 0 then zBd (fX12_copies F 62 61 (zUp μ 60 9 (nI 0))) (fun r3 m3 => some ((m3 60 12), m3)) else some (((zUp μ 60 9 (nI 0)) 60 32), (zUp μ 60 9 (nI 0)))
def fX12_gossip_46 (F : Nat) : Nat → Int32 → zMem → Option zR
  | 0, _, _ => none
  | n + 1, v2, μ => if v2 = 0 then fX12_gossip_86 F v2 μ else if (μ 60 11) ≤ (μ 60 10) then fX12_gossip_86 F v2 μ else zBd (fX12_takes F (nI 59) μ) (fun r3 m3 => if r3 = 0 then fX12_gossip_46 F n (nI 0) m3 else zBd (fX12_readsLine F m3) (fun r4 m4 => if r4 = 0 then fX12_gossip_46 F n (nI 0) m4 else fX12_gossip_46 F n (nI 1) m4))
def fX12_gossip (F : Nat) (v1 : Int32) (μ : zMem) : Option zR :=
  zBd (fX12_in F v1 (nI 1) (nI 120) μ) (fun r1 m1 => if r1 = 0 then some ((-1 : Int32), m1) else if v1 ≤ (m1 60 9) then zBd (fX12_beginsText F v1 m1) (fun r3 m3 => zBd (fX12_copies F 61 62 (zUp m3 60 32 (nI 0))) (fun r6 m6 => zBd (fX12_readsLine F m6) (fun r7 m7 => fX12_gossip_46 F F r7 m7))) else some ((-1 : Int32), m1))
set_option maxRecDepth 20000 in
set_option maxHeartbeats 4000000 in
theorem wX12_gossip_86 {X : zX} {F : Nat} (hC : zCx X RX12 cX12_gossip 3 4) (hret : zRt X (some .int)) {v2 : Int32} {μ : zMem} (hf : fX12_gossip_86 F v2 μ = some (zOut X)) : zAW X 86 [some (.ref 60), none, some (.int v2)] [] μ := by
  unfold fX12_gossip_86 at hf
  refine zs_al hC dX12_gossip_86 rfl ?_
  refine zs_k hC dX12_gossip_87 ?_
  refine zs_putI hC fl_RX12_105 fp_12_9 zL60 rfl dX12_gossip_88 ?_
  refine zs_il hC dX12_gossip_91 rfl ?_
  refine zs_if_eq hC dX12_gossip_92 (fun _ hf => ?_) (fun _ hf => ?_) hf
  · refine zs_al hC dX12_gossip_100 rfl ?_
    refine zs_getR 62 hC fl_RX12_13 zL60 rfl dX12_gossip_101 ?_
    refine zs_al hC dX12_gossip_104 rfl ?_
    refine zs_getR 61 hC fl_RX12_7 zL60 rfl dX12_gossip_105 ?_
    refine zs_callS [.ref 62, .ref 61] hC cw_X12_copies cl_RX12_237 (by decide) rfl rfl (Nat.le_of_ble_eq_true rfl) dX12_gossip_108 (fun _ h => ctX12_copies (by decide) (by decide) h) (fun r3 m3 _ hf => ?_) hf
    show zAW X 111 _ _ m3
    refine zs_al hC dX12_gossip_111 rfl ?_
    refine zs_getI hC fl_RX12_123 zL60 rfl dX12_gossip_112 ?_
    exact zs_iret hC hret dX12_gossip_115 hf
  · refine zs_al hC dX12_gossip_95 rfl ?_
    refine zs_getI hC fl_RX12_224 zL60 rfl dX12_gossip_96 ?_
    exact zs_iret hC hret dX12_gossip_99 hf
set_option maxRecDepth 20000 in
set_option maxHeartbeats 4000000 in
theorem wX12_gossip_46 {X : zX} {F : Nat} (hC : zCx X RX12 cX12_gossip 3 4) (hret : zRt X (some .int)) : ∀ (n : Nat) (v2 : Int32) (μ : zMem), fX12_gossip_46 F n v2 μ = some (zOut X) → zAW X 46 [some (.ref 60), none, some (.int v2)] [] μ := by
  intro n
  induction n with
  | zero =>
    intro v2 μ hf
    rw [fX12_gossip_46] at hf
    cases hf
  | succ n ih =>
    intro v2 μ hf
    rw [fX12_gossip_46] at hf
    refine zs_il hC dX12_gossip_46 rfl ?_
    refine zs_if_eq hC dX12_gossip_47 (fun _ hf => ?_) (fun _ hf => ?_) hf
    · exact zAW.weak (wX12_gossip_86 hC hret hf) (zLw_s (zLw_n (zLw_s zLw_0)))
    · refine zs_al hC dX12_gossip_50 rfl ?_
      refine zs_getI hC fl_RX12_113 zL60 rfl dX12_gossip_51 ?_
      refine zs_al hC dX12_gossip_54 rfl ?_
      refine zs_getI hC fl_RX12_116 zL60 rfl dX12_gossip_55 ?_
      refine zs_ic_ge hC dX12_gossip_58 (fun _ hf => ?_) (fun _ hf => ?_) hf
      · exact zAW.weak (wX12_gossip_86 hC hret hf) (zLw_s (zLw_n (zLw_s zLw_0)))
      · refine zs_al hC dX12_gossip_61 rfl ?_
        refine zs_k hC dX12_gossip_62 ?_
        refine zs_callV [.int (nI 59)] hC cw_X12_takes cl_RX12_204 zL60 rfl (by decide) rfl rfl (Nat.le_of_ble_eq_true rfl) dX12_gossip_64 (fun _ h => ctX12_takes h) (fun r3 m3 _ hf => ?_) hf
        show zAW X 67 _ (.int r3 :: _) m3
        refine zs_if_eq hC dX12_gossip_67 (fun _ hf => ?_) (fun _ hf => ?_) hf
        · refine zs_k hC dX12_gossip_81 ?_
          refine zs_is hC dX12_gossip_82 (by decide) rfl ?_
          refine zs_goto hC dX12_gossip_83 ?_
          exact zAW.weak (ih _ _ hf) (zLw_s (zLw_n (zLw_s zLw_0)))
        · refine zs_al hC dX12_gossip_70 rfl ?_
          refine zs_callV [] hC cw_X12_readsLine cl_RX12_241 zL60 rfl (by decide) rfl rfl (Nat.le_of_ble_eq_true rfl) dX12_gossip_71 (fun _ h => ctX12_readsLine h) (fun r4 m4 _ hf => ?_) hf
          show zAW X 74 _ (.int r4 :: _) m4
          refine zs_if_eq hC dX12_gossip_74 (fun _ hf => ?_) (fun _ hf => ?_) hf
          · refine zs_k hC dX12_gossip_81 ?_
            refine zs_is hC dX12_gossip_82 (by decide) rfl ?_
            refine zs_goto hC dX12_gossip_83 ?_
            exact zAW.weak (ih _ _ hf) (zLw_s (zLw_n (zLw_s zLw_0)))
          · refine zs_k hC dX12_gossip_77 ?_
            refine zs_goto hC dX12_gossip_78 ?_
            refine zs_is hC dX12_gossip_82 (by decide) rfl ?_
            refine zs_goto hC dX12_gossip_83 ?_
            exact zAW.weak (ih _ _ hf) (zLw_s (zLw_n (zLw_s zLw_0)))
set_option maxRecDepth 20000 in
set_option maxHeartbeats 4000000 in
theorem wX12_gossip {X : zX} {F : Nat} (hC : zCx X RX12 cX12_gossip 3 4) (hret : zRt X (some .int)) {v1 : Int32} {μ : zMem} (hf : fX12_gossip F v1 μ = some (zOut X)) : zAW X 0 [some (.ref 60), some (.int v1), none] [] μ := by
  unfold fX12_gossip at hf
  refine zs_il hC dX12_gossip_0 rfl ?_
  refine zs_k hC dX12_gossip_1 ?_
  refine zs_k hC dX12_gossip_2 ?_
  refine zs_callS [.int v1, .int (nI 1), .int (nI 120)] hC cw_X12_in cl_RX12_96 (by decide) rfl rfl (Nat.le_of_ble_eq_true rfl) dX12_gossip_4 (fun _ h => ctX12_in h) (fun r1 m1 _ hf => ?_) hf
  show zAW X 7 _ (.int r1 :: _) m1
  refine zs_if_eq hC dX12_gossip_7 (fun _ hf => ?_) (fun _ hf => ?_) hf
  · refine zs_k hC dX12_gossip_18 ?_
    exact zs_iret hC hret dX12_gossip_19 hf
  · refine zs_il hC dX12_gossip_10 rfl ?_
    refine zs_al hC dX12_gossip_11 rfl ?_
    refine zs_getI hC fl_RX12_105 zL60 rfl dX12_gossip_12 ?_
    refine zs_ic_le hC dX12_gossip_15 (fun _ hf => ?_) (fun _ hf => ?_) hf
    · refine zs_al hC dX12_gossip_20 rfl ?_
      refine zs_il hC dX12_gossip_21 rfl ?_
      refine zs_callV [.int v1] hC cw_X12_beginsText cl_RX12_198 zL60 rfl (by decide) rfl rfl (Nat.le_of_ble_eq_true rfl) dX12_gossip_22 (fun _ h => ctX12_beginsText h) (fun r3 m3 _ hf => ?_) hf
      show zAW X 25 _ _ m3
      refine zs_al hC dX12_gossip_25 rfl ?_
      refine zs_k hC dX12_gossip_26 ?_
      refine zs_putI hC fl_RX12_224 fp_12_32 zL60 rfl dX12_gossip_27 ?_
      refine zs_al hC dX12_gossip_30 rfl ?_
      refine zs_getR 61 hC fl_RX12_7 zL60 rfl dX12_gossip_31 ?_
      refine zs_al hC dX12_gossip_34 rfl ?_
      refine zs_getR 62 hC fl_RX12_13 zL60 rfl dX12_gossip_35 ?_
      refine zs_callS [.ref 61, .ref 62] hC cw_X12_copies cl_RX12_237 (by decide) rfl rfl (Nat.le_of_ble_eq_true rfl) dX12_gossip_38 (fun _ h => ctX12_copies (by decide) (by decide) h) (fun r6 m6 _ hf => ?_) hf
      show zAW X 41 _ _ m6
      refine zs_al hC dX12_gossip_41 rfl ?_
      refine zs_callV [] hC cw_X12_readsLine cl_RX12_241 zL60 rfl (by decide) rfl rfl (Nat.le_of_ble_eq_true rfl) dX12_gossip_42 (fun _ h => ctX12_readsLine h) (fun r7 m7 _ hf => ?_) hf
      show zAW X 45 _ (.int r7 :: _) m7
      refine zs_is hC dX12_gossip_45 (by decide) rfl ?_
      exact zAW.weak (wX12_gossip_46 hC hret F _ _ hf) (zLw_s (zLw_n (zLw_s zLw_0)))
    · refine zs_k hC dX12_gossip_18 ?_
      exact zs_iret hC hret dX12_gossip_19 hf
set_option maxRecDepth 20000 in
set_option maxHeartbeats 4000000 in
theorem ctX12_gossip {E : zEV} {F : Nat} {v1 : Int32} {μ : zMem} {out : zR} (hf : fX12_gossip F v1 μ = some out) : zCt E yX12_gossip cX12_gossip 3 (some .int) 4 [.ref 60, .int v1] μ out :=
  zCt.of [some (.ref 60), some (.int v1), none] (by decide +kernel) (Nat.le_of_ble_eq_true rfl) (zLw_s (zLw_s (zLw_e zLw_0))) rfl (fun X hE ho hr hC => by
    subst hE; subst ho
    exact wX12_gossip hC hr hf)
/-! X12_readsWord -/
def fX12_readsWord_157 (F : Nat) : Nat → Int32 → Int32 → Int32 → zMem → Option zR
  | 0, _, _, _, _ => none
  | n + 1, v2, v3, v4, μ => if v2 ≤ v4 then some ((nI 1), (zUp μ 60 33 ((μ 60 33) + v2))) else zG ((μ 60 33) + v4) 60 (fX12_readsWord_157 F n v2 v3 (v4 + (nI 1)) (zUp μ 66 ((μ 60 33) + v4).toNatClampNeg ((μ 60 10) - v3)))
def fX12_readsWord_44 (F : Nat) : Nat → Int32 → Int32 → Int32 → zMem → Option zR
  | 0, _, _, _, _ => none
  | n + 1, v1, v2, v3, μ => zBd (fX12_here F μ) (fun r1 m1 => zBd (fX12_in F r1 (nI 97) (nI 122) m1) (fun r2 m2 => if r2 = 0 then if (m2 60 10) = v3 then zBd (fX12_wrongAt F (nI 1) (m2 60 10) m2) (fun r5 m5 => zGb (decide (r5 = 0 ∨ r5 = 1)) (some (r5, m5))) else if ((m2 60 33) + v2) ≤ (nI 60) then fX12_readsWord_157 F F v2 v3 (nI 0) m2 else zBd (fX12_wrongAt F (nI 4) v1 m2) (fun r7 m7 => zGb (decide (r7 = 0 ∨ r7 = 1)) (some (r7, m7))) else if (m2 60 10) = (v3 + (nI 12)) then zBd (fX12_wrongAt F (nI 2) (m2 60 10) m2) (fun r10 m10 => zGb (decide (r10 = 0 ∨ r10 = 1)) (some (r10, m10))) else zBd (fX12_here F m2) (fun r12 m12 => zBd (fX12_here F m12) (fun r14 m14 => zG (r14 - (nI 97)) 26 (zG (r12 - (nI 97)) 26 (fX12_readsWord_44 F n v1 v2 v3 (zUp (zUp m14 67 (r12 - (nI 97)).toNatClampNeg ((m14 67 (r14 - (nI 97)).toNatClampNeg) + v2)) 60 10 (((zUp m14 67 (r12 - (nI 97)).toNatClampNeg ((m14 67 (r14 - (nI 97)).toNatClampNeg) + v2)) 60 10) + (nI 1)))))))))
def fX12_readsWord (F : Nat) (μ : zMem) : Option zR :=
  zBd (fX12_here F μ) (fun r2 m2 => zBd (fX12_in F r2 (nI 50) (nI 57) m2) (fun r3 m3 => if r3 = 0 then fX12_readsWord_44 F F (μ 60 10) (nI 1) (m3 60 10) m3 else zBd (fX12_here F m3) (fun r5 m5 => fX12_readsWord_44 F F (μ 60 10) (r5 - (nI 48)) ((zUp m5 60 10 ((m5 60 10) + (nI 1))) 60 10) (zUp m5 60 10 ((m5 60 10) + (nI 1))))))
set_option maxRecDepth 20000 in
set_option maxHeartbeats 4000000 in
theorem wX12_readsWord_157 {X : zX} {F : Nat} (hC : zCx X RX12 cX12_readsWord 5 1) (hret : zRt X (some .boolean)) : ∀ (n : Nat) (v2 : Int32) (v3 : Int32) (v4 : Int32) (μ : zMem), fX12_readsWord_157 F n v2 v3 v4 μ = some (zOut X) → zAW X 157 [some (.ref 60), none, some (.int v2), some (.int v3), some (.int v4)] [] μ := by
  intro n
  induction n with
  | zero =>
    intro v2 v3 v4 μ hf
    rw [fX12_readsWord_157] at hf
    cases hf
  | succ n ih =>
    intro v2 v3 v4 μ hf
    rw [fX12_readsWord_157] at hf
    refine zs_il hC dX12_readsWord_157 rfl ?_
    refine zs_il hC dX12_readsWord_159 rfl ?_
    refine zs_ic_ge hC dX12_readsWord_160 (fun _ hf => ?_) (fun _ hf => ?_) hf
    · refine zs_al hC dX12_readsWord_187 rfl ?_
      refine zs_al hC dX12_readsWord_188 rfl ?_
      refine zs_getI hC fl_RX12_244 zL60 rfl dX12_readsWord_189 ?_
      refine zs_il hC dX12_readsWord_192 rfl ?_
      refine zs_iadd hC dX12_readsWord_193 ?_
      refine zs_putI hC fl_RX12_244 fp_12_33 zL60 rfl dX12_readsWord_194 ?_
      refine zs_k hC dX12_readsWord_197 ?_
      exact zs_zretK hC hret dX12_readsWord_198 (by decide) hf
    · refine zs_al hC dX12_readsWord_163 rfl ?_
      refine zs_getR 66 hC fl_RX12_25 zL60 rfl dX12_readsWord_164 ?_
      refine zs_al hC dX12_readsWord_167 rfl ?_
      refine zs_getI hC fl_RX12_244 zL60 rfl dX12_readsWord_168 ?_
      refine zs_il hC dX12_readsWord_171 rfl ?_
      refine zs_iadd hC dX12_readsWord_173 ?_
      refine zs_al hC dX12_readsWord_174 rfl ?_
      refine zs_getI hC fl_RX12_113 zL60 rfl dX12_readsWord_175 ?_
      refine zs_il hC dX12_readsWord_178 rfl ?_
      refine zs_isub hC dX12_readsWord_179 ?_
      refine zs_iast hC zL66 dX12_readsWord_180 (fun _ hf => ?_) hf
      refine zs_iinc (nI 1) hC dX12_readsWord_181 (by decide) rfl (by decide) rfl ?_
      refine zs_goto hC dX12_readsWord_184 ?_
      exact zAW.weak (ih _ _ _ _ hf) (zLw_s (zLw_n (zLw_s (zLw_s (zLw_s zLw_0)))))
set_option maxRecDepth 20000 in
set_option maxHeartbeats 4000000 in
theorem wX12_readsWord_44 {X : zX} {F : Nat} (hC : zCx X RX12 cX12_readsWord 5 1) (hret : zRt X (some .boolean)) : ∀ (n : Nat) (v1 : Int32) (v2 : Int32) (v3 : Int32) (μ : zMem), fX12_readsWord_44 F n v1 v2 v3 μ = some (zOut X) → zAW X 44 [some (.ref 60), some (.int v1), some (.int v2), some (.int v3), none] [] μ := by
  intro n
  induction n with
  | zero =>
    intro v1 v2 v3 μ hf
    rw [fX12_readsWord_44] at hf
    cases hf
  | succ n ih =>
    intro v1 v2 v3 μ hf
    rw [fX12_readsWord_44] at hf
    refine zs_al hC dX12_readsWord_44 rfl ?_
    refine zs_callV [] hC cw_X12_here cl_RX12_119 zL60 rfl (by decide) rfl rfl (Nat.le_of_ble_eq_true rfl) dX12_readsWord_45 (fun _ h => ctX12_here h) (fun r1 m1 _ hf => ?_) hf
    show zAW X 48 _ (.int r1 :: _) m1
    refine zs_k hC dX12_readsWord_48 ?_
    refine zs_k hC dX12_readsWord_50 ?_
    refine zs_callS [.int r1, .int (nI 97), .int (nI 122)] hC cw_X12_in cl_RX12_96 (by decide) rfl rfl (Nat.le_of_ble_eq_true rfl) dX12_readsWord_52 (fun _ h => ctX12_in h) (fun r2 m2 _ hf => ?_) hf
    show zAW X 55 _ (.int r2 :: _) m2
    refine zs_if_eq hC dX12_readsWord_55 (fun _ hf => ?_) (fun _ hf => ?_) hf
    · refine zs_al hC dX12_readsWord_118 rfl ?_
      refine zs_getI hC fl_RX12_113 zL60 rfl dX12_readsWord_119 ?_
      refine zs_il hC dX12_readsWord_122 rfl ?_
      refine zs_ic_ne hC dX12_readsWord_123 (fun _ hf => ?_) (fun _ hf => ?_) hf
      · refine zs_al hC dX12_readsWord_126 rfl ?_
        refine zs_k hC dX12_readsWord_127 ?_
        refine zs_al hC dX12_readsWord_128 rfl ?_
        refine zs_getI hC fl_RX12_113 zL60 rfl dX12_readsWord_129 ?_
        refine zs_callV [.int (nI 1), .int (m2 60 10)] hC cw_X12_wrongAt cl_RX12_126 zL60 rfl (by decide) rfl rfl (Nat.le_of_ble_eq_true rfl) dX12_readsWord_132 (fun _ h => ctX12_wrongAt h) (fun r5 m5 _ hf => ?_) hf
        show zAW X 135 _ (.int r5 :: _) m5
        exact zs_zret hC hret dX12_readsWord_135 hf
      · refine zs_al hC dX12_readsWord_136 rfl ?_
        refine zs_getI hC fl_RX12_244 zL60 rfl dX12_readsWord_137 ?_
        refine zs_il hC dX12_readsWord_140 rfl ?_
        refine zs_iadd hC dX12_readsWord_141 ?_
        refine zs_k hC dX12_readsWord_142 ?_
        refine zs_ic_le hC dX12_readsWord_144 (fun _ hf => ?_) (fun _ hf => ?_) hf
        · refine zs_k hC dX12_readsWord_154 ?_
          refine zs_is hC dX12_readsWord_155 (by decide) rfl ?_
          exact zAW.weak (wX12_readsWord_157 hC hret F _ _ _ _ hf) (zLw_s (zLw_n (zLw_s (zLw_s (zLw_s zLw_0)))))
        · refine zs_al hC dX12_readsWord_147 rfl ?_
          refine zs_k hC dX12_readsWord_148 ?_
          refine zs_il hC dX12_readsWord_149 rfl ?_
          refine zs_callV [.int (nI 4), .int v1] hC cw_X12_wrongAt cl_RX12_126 zL60 rfl (by decide) rfl rfl (Nat.le_of_ble_eq_true rfl) dX12_readsWord_150 (fun _ h => ctX12_wrongAt h) (fun r7 m7 _ hf => ?_) hf
          show zAW X 153 _ (.int r7 :: _) m7
          exact zs_zret hC hret dX12_readsWord_153 hf
    · refine zs_al hC dX12_readsWord_58 rfl ?_
      refine zs_getI hC fl_RX12_113 zL60 rfl dX12_readsWord_59 ?_
      refine zs_il hC dX12_readsWord_62 rfl ?_
      refine zs_k hC dX12_readsWord_63 ?_
      refine zs_iadd hC dX12_readsWord_65 ?_
      refine zs_ic_ne hC dX12_readsWord_66 (fun _ hf => ?_) (fun _ hf => ?_) hf
      · refine zs_al hC dX12_readsWord_69 rfl ?_
        refine zs_k hC dX12_readsWord_70 ?_
        refine zs_al hC dX12_readsWord_71 rfl ?_
        refine zs_getI hC fl_RX12_113 zL60 rfl dX12_readsWord_72 ?_
        refine zs_callV [.int (nI 2), .int (m2 60 10)] hC cw_X12_wrongAt cl_RX12_126 zL60 rfl (by decide) rfl rfl (Nat.le_of_ble_eq_true rfl) dX12_readsWord_75 (fun _ h => ctX12_wrongAt h) (fun r10 m10 _ hf => ?_) hf
        show zAW X 78 _ (.int r10 :: _) m10
        exact zs_zret hC hret dX12_readsWord_78 hf
      · refine zs_al hC dX12_readsWord_79 rfl ?_
        refine zs_getR 67 hC fl_RX12_28 zL60 rfl dX12_readsWord_80 ?_
        refine zs_al hC dX12_readsWord_83 rfl ?_
        refine zs_callV [] hC cw_X12_here cl_RX12_119 zL60 rfl (by decide) rfl rfl (Nat.le_of_ble_eq_true rfl) dX12_readsWord_84 (fun _ h => ctX12_here h) (fun r12 m12 _ hf => ?_) hf
        show zAW X 87 _ (.int r12 :: _) m12
        refine zs_k hC dX12_readsWord_87 ?_
        refine zs_isub hC dX12_readsWord_89 ?_
        refine zs_al hC dX12_readsWord_90 rfl ?_
        refine zs_getR 67 hC fl_RX12_28 zL60 rfl dX12_readsWord_91 ?_
        refine zs_al hC dX12_readsWord_94 rfl ?_
        refine zs_callV [] hC cw_X12_here cl_RX12_119 zL60 rfl (by decide) rfl rfl (Nat.le_of_ble_eq_true rfl) dX12_readsWord_95 (fun _ h => ctX12_here h) (fun r14 m14 _ hf => ?_) hf
        show zAW X 98 _ (.int r14 :: _) m14
        refine zs_k hC dX12_readsWord_98 ?_
        refine zs_isub hC dX12_readsWord_100 ?_
        refine zs_iald hC zL67 dX12_readsWord_101 (fun _ hf => ?_) hf
        refine zs_il hC dX12_readsWord_102 rfl ?_
        refine zs_iadd hC dX12_readsWord_103 ?_
        refine zs_iast hC zL67 dX12_readsWord_104 (fun _ hf => ?_) hf
        refine zs_al hC dX12_readsWord_105 rfl ?_
        refine zs_al hC dX12_readsWord_106 rfl ?_
        refine zs_getI hC fl_RX12_113 zL60 rfl dX12_readsWord_107 ?_
        refine zs_k hC dX12_readsWord_110 ?_
        refine zs_iadd hC dX12_readsWord_111 ?_
        refine zs_putI hC fl_RX12_113 fp_12_10 zL60 rfl dX12_readsWord_112 ?_
        refine zs_goto hC dX12_readsWord_115 ?_
        exact zAW.weak (ih _ _ _ _ hf) (zLw_s (zLw_s (zLw_s (zLw_s (zLw_n zLw_0)))))
set_option maxRecDepth 20000 in
set_option maxHeartbeats 4000000 in
theorem wX12_readsWord {X : zX} {F : Nat} (hC : zCx X RX12 cX12_readsWord 5 1) (hret : zRt X (some .boolean)) {μ : zMem} (hf : fX12_readsWord F μ = some (zOut X)) : zAW X 0 [some (.ref 60), none, none, none, none] [] μ := by
  unfold fX12_readsWord at hf
  refine zs_al hC dX12_readsWord_0 rfl ?_
  refine zs_getI hC fl_RX12_113 zL60 rfl dX12_readsWord_1 ?_
  refine zs_is hC dX12_readsWord_4 (by decide) rfl ?_
  refine zs_k hC dX12_readsWord_5 ?_
  refine zs_is hC dX12_readsWord_6 (by decide) rfl ?_
  refine zs_al hC dX12_readsWord_7 rfl ?_
  refine zs_callV [] hC cw_X12_here cl_RX12_119 zL60 rfl (by decide) rfl rfl (Nat.le_of_ble_eq_true rfl) dX12_readsWord_8 (fun _ h => ctX12_here h) (fun r2 m2 _ hf => ?_) hf
  show zAW X 11 _ (.int r2 :: _) m2
  refine zs_k hC dX12_readsWord_11 ?_
  refine zs_k hC dX12_readsWord_13 ?_
  refine zs_callS [.int r2, .int (nI 50), .int (nI 57)] hC cw_X12_in cl_RX12_96 (by decide) rfl rfl (Nat.le_of_ble_eq_true rfl) dX12_readsWord_15 (fun _ h => ctX12_in h) (fun r3 m3 _ hf => ?_) hf
  show zAW X 18 _ (.int r3 :: _) m3
  refine zs_if_eq hC dX12_readsWord_18 (fun _ hf => ?_) (fun _ hf => ?_) hf
  · refine zs_al hC dX12_readsWord_39 rfl ?_
    refine zs_getI hC fl_RX12_113 zL60 rfl dX12_readsWord_40 ?_
    refine zs_is hC dX12_readsWord_43 (by decide) rfl ?_
    exact zAW.weak (wX12_readsWord_44 hC hret F _ _ _ _ hf) (zLw_s (zLw_s (zLw_s (zLw_s (zLw_n zLw_0)))))
  · refine zs_al hC dX12_readsWord_21 rfl ?_
    refine zs_callV [] hC cw_X12_here cl_RX12_119 zL60 rfl (by decide) rfl rfl (Nat.le_of_ble_eq_true rfl) dX12_readsWord_22 (fun _ h => ctX12_here h) (fun r5 m5 _ hf => ?_) hf
    show zAW X 25 _ (.int r5 :: _) m5
    refine zs_k hC dX12_readsWord_25 ?_
    refine zs_isub hC dX12_readsWord_27 ?_
    refine zs_is hC dX12_readsWord_28 (by decide) rfl ?_
    refine zs_al hC dX12_readsWord_29 rfl ?_
    refine zs_al hC dX12_readsWord_30 rfl ?_
    refine zs_getI hC fl_RX12_113 zL60 rfl dX12_readsWord_31 ?_
    refine zs_k hC dX12_readsWord_34 ?_
    refine zs_iadd hC dX12_readsWord_35 ?_
    refine zs_putI hC fl_RX12_113 fp_12_10 zL60 rfl dX12_readsWord_36 ?_
    refine zs_al hC dX12_readsWord_39 rfl ?_
    refine zs_getI hC fl_RX12_113 zL60 rfl dX12_readsWord_40 ?_
    refine zs_is hC dX12_readsWord_43 (by decide) rfl ?_
    exact zAW.weak (wX12_readsWord_44 hC hret F _ _ _ _ hf) (zLw_s (zLw_s (zLw_s (zLw_s (zLw_n zLw_0)))))
set_option maxRecDepth 20000 in
set_option maxHeartbeats 4000000 in
theorem ctX12_readsWord {E : zEV} {F : Nat} {μ : zMem} {out : zR} (hf : fX12_readsWord F μ = some out) : zCt E yX12_readsWord cX12_readsWord 5 (some .boolean) 1 [.ref 60] μ out :=
  zCt.of [some (.ref 60), none, none, none, none] (by decide +kernel) (Nat.le_of_ble_eq_true rfl) (zLw_s (zLw_e (zLw_e (zLw_e (zLw_e zLw_0))))) rfl (fun X hE ho hr hC => by
    subst hE; subst ho
    exact wX12_readsWord hC hr hf)
/-! X12_copy -/
def fX12_copy_149 (F : Nat) : Nat → Int32 → zMem → Option zR
  | 0, _, _ => none
  | n + 1, v3, μ => if (nI 26) ≤ v3 then some ((μ 60 33), μ) else zG v3 26 (zG v3 26 (fX12_copy_149 F n (v3 + (nI 1)) (zUp μ 65 v3.toNatClampNeg (μ 67 v3.toNatClampNeg))))
def fX12_copy_121 (F : Nat) : Nat → Int32 → zMem → Option zR
  | 0, _, _ => none
  | n + 1, v3, μ => if (μ 60 33) ≤ v3 then fX12_copy_149 F F (nI 0) μ else zG v3 60 (zG v3 60 (fX12_copy_121 F n (v3 + (nI 1)) (zUp μ 64 v3.toNatClampNeg (μ 66 v3.toNatClampNeg))))
def fX12_copy_97 (F : Nat) (v2 : Int32) (μ : zMem) : Option zR :=
  if v2 = 0 then some (((zUp μ 60 9 (nI 0)) 60 12), (zUp μ 60 9 (nI 0))) else fX12_copy_121 F F (nI 0) (zUp (zUp μ 60 9 (nI 0)) 60 7 ((zUp μ 60 9 (nI 0)) 60 33))
def fX12_copy_57 (F : Nat) : Nat → Int32 → zMem → Option zR
  | 0, _, _ => none
  | n + 1, v2, μ => if v2 = 0 then fX12_copy_97 F v2 μ else if (μ 60 11) ≤ (μ 60 10) then fX12_copy_97 F v2 μ else zBd (fX12_takes F (nI 95) μ) (fun r3 m3 => if r3 = 0 then fX12_copy_57 F n (nI 0) m3 else zBd (fX12_readsWord F m3) (fun r4 m4 => if r4 = 0 then fX12_copy_57 F n (nI 0) m4 else fX12_copy_57 F n (nI 1) m4))
def fX12_copy_33 (F : Nat) : Nat → Int32 → zMem → Option zR
  | 0, _, _ => none
  | n + 1, v2, μ => if (nI 26) ≤ v2 then zBd (fX12_readsWord F μ) (fun r1 m1 => fX12_copy_57 F F r1 m1) else zG v2 26 (fX12_copy_33 F n (v2 + (nI 1)) (zUp μ 67 v2.toNatClampNeg (nI 0)))
def fX12_copy (F : Nat) (v1 : Int32) (μ : zMem) : Option zR :=
  zBd (fX12_in F v1 (nI 1) (nI 200) μ) (fun r1 m1 => if r1 = 0 then some ((-1 : Int32), m1) else if v1 ≤ (m1 60 9) then zBd (fX12_beginsText F v1 m1) (fun r3 m3 => fX12_copy_33 F F (nI 0) (zUp m3 60 33 (nI 0))) else some ((-1 : Int32), m1))
set_option maxRecDepth 20000 in
set_option maxHeartbeats 4000000 in
theorem wX12_copy_149 {X : zX} {F : Nat} (hC : zCx X RX12 cX12_copy 4 2) (hret : zRt X (some .int)) : ∀ (n : Nat) (v3 : Int32) (μ : zMem), fX12_copy_149 F n v3 μ = some (zOut X) → zAW X 149 [some (.ref 60), none, none, some (.int v3)] [] μ := by
  intro n
  induction n with
  | zero =>
    intro v3 μ hf
    rw [fX12_copy_149] at hf
    cases hf
  | succ n ih =>
    intro v3 μ hf
    rw [fX12_copy_149] at hf
    refine zs_il hC dX12_copy_149 rfl ?_
    refine zs_k hC dX12_copy_150 ?_
    refine zs_ic_ge hC dX12_copy_152 (fun _ hf => ?_) (fun _ hf => ?_) hf
    · refine zs_al hC dX12_copy_173 rfl ?_
      refine zs_getI hC fl_RX12_244 zL60 rfl dX12_copy_174 ?_
      exact zs_iret hC hret dX12_copy_177 hf
    · refine zs_al hC dX12_copy_155 rfl ?_
      refine zs_getR 65 hC fl_RX12_22 zL60 rfl dX12_copy_156 ?_
      refine zs_il hC dX12_copy_159 rfl ?_
      refine zs_al hC dX12_copy_160 rfl ?_
      refine zs_getR 67 hC fl_RX12_28 zL60 rfl dX12_copy_161 ?_
      refine zs_il hC dX12_copy_164 rfl ?_
      refine zs_iald hC zL67 dX12_copy_165 (fun _ hf => ?_) hf
      refine zs_iast hC zL65 dX12_copy_166 (fun _ hf => ?_) hf
      refine zs_iinc (nI 1) hC dX12_copy_167 (by decide) rfl (by decide) rfl ?_
      refine zs_goto hC dX12_copy_170 ?_
      exact zAW.weak (ih _ _ hf) (zLw_s (zLw_n (zLw_n (zLw_s zLw_0))))
set_option maxRecDepth 20000 in
set_option maxHeartbeats 4000000 in
theorem wX12_copy_121 {X : zX} {F : Nat} (hC : zCx X RX12 cX12_copy 4 2) (hret : zRt X (some .int)) : ∀ (n : Nat) (v3 : Int32) (μ : zMem), fX12_copy_121 F n v3 μ = some (zOut X) → zAW X 121 [some (.ref 60), none, none, some (.int v3)] [] μ := by
  intro n
  induction n with
  | zero =>
    intro v3 μ hf
    rw [fX12_copy_121] at hf
    cases hf
  | succ n ih =>
    intro v3 μ hf
    rw [fX12_copy_121] at hf
    refine zs_il hC dX12_copy_121 rfl ?_
    refine zs_al hC dX12_copy_122 rfl ?_
    refine zs_getI hC fl_RX12_244 zL60 rfl dX12_copy_123 ?_
    refine zs_ic_ge hC dX12_copy_126 (fun _ hf => ?_) (fun _ hf => ?_) hf
    · refine zs_k hC dX12_copy_147 ?_
      refine zs_is hC dX12_copy_148 (by decide) rfl ?_
      exact zAW.weak (wX12_copy_149 hC hret F _ _ hf) (zLw_s (zLw_n (zLw_n (zLw_s zLw_0))))
    · refine zs_al hC dX12_copy_129 rfl ?_
      refine zs_getR 64 hC fl_RX12_19 zL60 rfl dX12_copy_130 ?_
      refine zs_il hC dX12_copy_133 rfl ?_
      refine zs_al hC dX12_copy_134 rfl ?_
      refine zs_getR 66 hC fl_RX12_25 zL60 rfl dX12_copy_135 ?_
      refine zs_il hC dX12_copy_138 rfl ?_
      refine zs_iald hC zL66 dX12_copy_139 (fun _ hf => ?_) hf
      refine zs_iast hC zL64 dX12_copy_140 (fun _ hf => ?_) hf
      refine zs_iinc (nI 1) hC dX12_copy_141 (by decide) rfl (by decide) rfl ?_
      refine zs_goto hC dX12_copy_144 ?_
      exact zAW.weak (ih _ _ hf) (zLw_s (zLw_n (zLw_n (zLw_s zLw_0))))
set_option maxRecDepth 20000 in
set_option maxHeartbeats 4000000 in
theorem wX12_copy_97 {X : zX} {F : Nat} (hC : zCx X RX12 cX12_copy 4 2) (hret : zRt X (some .int)) {v2 : Int32} {μ : zMem} (hf : fX12_copy_97 F v2 μ = some (zOut X)) : zAW X 97 [some (.ref 60), none, some (.int v2), none] [] μ := by
  unfold fX12_copy_97 at hf
  refine zs_al hC dX12_copy_97 rfl ?_
  refine zs_k hC dX12_copy_98 ?_
  refine zs_putI hC fl_RX12_105 fp_12_9 zL60 rfl dX12_copy_99 ?_
  refine zs_il hC dX12_copy_102 rfl ?_
  refine zs_if_ne hC dX12_copy_103 (fun _ hf => ?_) (fun _ hf => ?_) hf
  · refine zs_al hC dX12_copy_106 rfl ?_
    refine zs_getI hC fl_RX12_123 zL60 rfl dX12_copy_107 ?_
    exact zs_iret hC hret dX12_copy_110 hf
  · refine zs_al hC dX12_copy_111 rfl ?_
    refine zs_al hC dX12_copy_112 rfl ?_
    refine zs_getI hC fl_RX12_244 zL60 rfl dX12_copy_113 ?_
    refine zs_putI hC fl_RX12_250 fp_12_7 zL60 rfl dX12_copy_116 ?_
    refine zs_k hC dX12_copy_119 ?_
    refine zs_is hC dX12_copy_120 (by decide) rfl ?_
    exact zAW.weak (wX12_copy_121 hC hret F _ _ hf) (zLw_s (zLw_n (zLw_n (zLw_s zLw_0))))
set_option maxRecDepth 20000 in
set_option maxHeartbeats 4000000 in
theorem wX12_copy_57 {X : zX} {F : Nat} (hC : zCx X RX12 cX12_copy 4 2) (hret : zRt X (some .int)) : ∀ (n : Nat) (v2 : Int32) (μ : zMem), fX12_copy_57 F n v2 μ = some (zOut X) → zAW X 57 [some (.ref 60), none, some (.int v2), none] [] μ := by
  intro n
  induction n with
  | zero =>
    intro v2 μ hf
    rw [fX12_copy_57] at hf
    cases hf
  | succ n ih =>
    intro v2 μ hf
    rw [fX12_copy_57] at hf
    refine zs_il hC dX12_copy_57 rfl ?_
    refine zs_if_eq hC dX12_copy_58 (fun _ hf => ?_) (fun _ hf => ?_) hf
    · exact zAW.weak (wX12_copy_97 hC hret hf) (zLw_s (zLw_n (zLw_s (zLw_n zLw_0))))
    · refine zs_al hC dX12_copy_61 rfl ?_
      refine zs_getI hC fl_RX12_113 zL60 rfl dX12_copy_62 ?_
      refine zs_al hC dX12_copy_65 rfl ?_
      refine zs_getI hC fl_RX12_116 zL60 rfl dX12_copy_66 ?_
      refine zs_ic_ge hC dX12_copy_69 (fun _ hf => ?_) (fun _ hf => ?_) hf
      · exact zAW.weak (wX12_copy_97 hC hret hf) (zLw_s (zLw_n (zLw_s (zLw_n zLw_0))))
      · refine zs_al hC dX12_copy_72 rfl ?_
        refine zs_k hC dX12_copy_73 ?_
        refine zs_callV [.int (nI 95)] hC cw_X12_takes cl_RX12_204 zL60 rfl (by decide) rfl rfl (Nat.le_of_ble_eq_true rfl) dX12_copy_75 (fun _ h => ctX12_takes h) (fun r3 m3 _ hf => ?_) hf
        show zAW X 78 _ (.int r3 :: _) m3
        refine zs_if_eq hC dX12_copy_78 (fun _ hf => ?_) (fun _ hf => ?_) hf
        · refine zs_k hC dX12_copy_92 ?_
          refine zs_is hC dX12_copy_93 (by decide) rfl ?_
          refine zs_goto hC dX12_copy_94 ?_
          exact zAW.weak (ih _ _ hf) (zLw_s (zLw_n (zLw_s (zLw_n zLw_0))))
        · refine zs_al hC dX12_copy_81 rfl ?_
          refine zs_callV [] hC cw_X12_readsWord cl_RX12_247 zL60 rfl (by decide) rfl rfl (Nat.le_of_ble_eq_true rfl) dX12_copy_82 (fun _ h => ctX12_readsWord h) (fun r4 m4 _ hf => ?_) hf
          show zAW X 85 _ (.int r4 :: _) m4
          refine zs_if_eq hC dX12_copy_85 (fun _ hf => ?_) (fun _ hf => ?_) hf
          · refine zs_k hC dX12_copy_92 ?_
            refine zs_is hC dX12_copy_93 (by decide) rfl ?_
            refine zs_goto hC dX12_copy_94 ?_
            exact zAW.weak (ih _ _ hf) (zLw_s (zLw_n (zLw_s (zLw_n zLw_0))))
          · refine zs_k hC dX12_copy_88 ?_
            refine zs_goto hC dX12_copy_89 ?_
            refine zs_is hC dX12_copy_93 (by decide) rfl ?_
            refine zs_goto hC dX12_copy_94 ?_
            exact zAW.weak (ih _ _ hf) (zLw_s (zLw_n (zLw_s (zLw_n zLw_0))))
set_option maxRecDepth 20000 in
set_option maxHeartbeats 4000000 in
theorem wX12_copy_33 {X : zX} {F : Nat} (hC : zCx X RX12 cX12_copy 4 2) (hret : zRt X (some .int)) : ∀ (n : Nat) (v2 : Int32) (μ : zMem), fX12_copy_33 F n v2 μ = some (zOut X) → zAW X 33 [some (.ref 60), none, some (.int v2), none] [] μ := by
  intro n
  induction n with
  | zero =>
    intro v2 μ hf
    rw [fX12_copy_33] at hf
    cases hf
  | succ n ih =>
    intro v2 μ hf
    rw [fX12_copy_33] at hf
    refine zs_il hC dX12_copy_33 rfl ?_
    refine zs_k hC dX12_copy_34 ?_
    refine zs_ic_ge hC dX12_copy_36 (fun _ hf => ?_) (fun _ hf => ?_) hf
    · refine zs_al hC dX12_copy_52 rfl ?_
      refine zs_callV [] hC cw_X12_readsWord cl_RX12_247 zL60 rfl (by decide) rfl rfl (Nat.le_of_ble_eq_true rfl) dX12_copy_53 (fun _ h => ctX12_readsWord h) (fun r1 m1 _ hf => ?_) hf
      show zAW X 56 _ (.int r1 :: _) m1
      refine zs_is hC dX12_copy_56 (by decide) rfl ?_
      exact zAW.weak (wX12_copy_57 hC hret F _ _ hf) (zLw_s (zLw_n (zLw_s (zLw_n zLw_0))))
    · refine zs_al hC dX12_copy_39 rfl ?_
      refine zs_getR 67 hC fl_RX12_28 zL60 rfl dX12_copy_40 ?_
      refine zs_il hC dX12_copy_43 rfl ?_
      refine zs_k hC dX12_copy_44 ?_
      refine zs_iast hC zL67 dX12_copy_45 (fun _ hf => ?_) hf
      refine zs_iinc (nI 1) hC dX12_copy_46 (by decide) rfl (by decide) rfl ?_
      refine zs_goto hC dX12_copy_49 ?_
      exact zAW.weak (ih _ _ hf) (zLw_s (zLw_n (zLw_s (zLw_n zLw_0))))
set_option maxRecDepth 20000 in
set_option maxHeartbeats 4000000 in
theorem wX12_copy {X : zX} {F : Nat} (hC : zCx X RX12 cX12_copy 4 2) (hret : zRt X (some .int)) {v1 : Int32} {μ : zMem} (hf : fX12_copy F v1 μ = some (zOut X)) : zAW X 0 [some (.ref 60), some (.int v1), none, none] [] μ := by
  unfold fX12_copy at hf
  refine zs_il hC dX12_copy_0 rfl ?_
  refine zs_k hC dX12_copy_1 ?_
  refine zs_k hC dX12_copy_2 ?_
  refine zs_callS [.int v1, .int (nI 1), .int (nI 200)] hC cw_X12_in cl_RX12_96 (by decide) rfl rfl (Nat.le_of_ble_eq_true rfl) dX12_copy_5 (fun _ h => ctX12_in h) (fun r1 m1 _ hf => ?_) hf
  show zAW X 8 _ (.int r1 :: _) m1
  refine zs_if_eq hC dX12_copy_8 (fun _ hf => ?_) (fun _ hf => ?_) hf
  · refine zs_k hC dX12_copy_19 ?_
    exact zs_iret hC hret dX12_copy_20 hf
  · refine zs_il hC dX12_copy_11 rfl ?_
    refine zs_al hC dX12_copy_12 rfl ?_
    refine zs_getI hC fl_RX12_105 zL60 rfl dX12_copy_13 ?_
    refine zs_ic_le hC dX12_copy_16 (fun _ hf => ?_) (fun _ hf => ?_) hf
    · refine zs_al hC dX12_copy_21 rfl ?_
      refine zs_il hC dX12_copy_22 rfl ?_
      refine zs_callV [.int v1] hC cw_X12_beginsText cl_RX12_198 zL60 rfl (by decide) rfl rfl (Nat.le_of_ble_eq_true rfl) dX12_copy_23 (fun _ h => ctX12_beginsText h) (fun r3 m3 _ hf => ?_) hf
      show zAW X 26 _ _ m3
      refine zs_al hC dX12_copy_26 rfl ?_
      refine zs_k hC dX12_copy_27 ?_
      refine zs_putI hC fl_RX12_244 fp_12_33 zL60 rfl dX12_copy_28 ?_
      refine zs_k hC dX12_copy_31 ?_
      refine zs_is hC dX12_copy_32 (by decide) rfl ?_
      exact zAW.weak (wX12_copy_33 hC hret F _ _ hf) (zLw_s (zLw_n (zLw_s (zLw_n zLw_0))))
    · refine zs_k hC dX12_copy_19 ?_
      exact zs_iret hC hret dX12_copy_20 hf
set_option maxRecDepth 20000 in
set_option maxHeartbeats 4000000 in
theorem ctX12_copy {E : zEV} {F : Nat} {v1 : Int32} {μ : zMem} {out : zR} (hf : fX12_copy F v1 μ = some out) : zCt E yX12_copy cX12_copy 4 (some .int) 2 [.ref 60, .int v1] μ out :=
  zCt.of [some (.ref 60), some (.int v1), none, none] (by decide +kernel) (Nat.le_of_ble_eq_true rfl) (zLw_s (zLw_s (zLw_e (zLw_e zLw_0)))) rfl (fun X hE ho hr hC => by
    subst hE; subst ho
    exact wX12_copy hC hr hf)
/-! X12_chosenBy -/
def fX12_chosenBy_7 (F : Nat) : Nat → Int32 → Int32 → Int32 → Int32 → zMem → Option zR
  | 0, _, _, _, _, _ => none
  | n + 1, v1, v2, v3, v4, μ => if (nI 16) ≤ v4 then some (v2, μ) else if v4 = v1 then fX12_chosenBy_7 F n v1 v2 v3 (v4 + (nI 1)) μ else zBd (fX12_isTold F v4 μ) (fun r1 m1 => if r1 = 0 then fX12_chosenBy_7 F n v1 v2 v3 (v4 + (nI 1)) m1 else zG ((nI 16) + v1) 1047 (zG ((nI 16) + v4) 1047 (if ((m1 61 ((nI 16) + v1).toNatClampNeg) &&& ((m1 61 ((nI 16) + v4).toNatClampNeg) ^^^ (-1 : Int32))) = 0 then fX12_chosenBy_7 F n v1 v2 v3 (v4 + (nI 1)) m1 else zBd (fX12_feels F v1 v4 m1) (fun r4 m4 => zBd (fX12_byLaw F (nI 101) (nI 9999) m4) (fun r5 m5 => if v3 < r5 then fX12_chosenBy_7 F n v1 v4 r5 (v4 + (nI 1)) m5 else fX12_chosenBy_7 F n v1 v2 v3 (v4 + (nI 1)) m5)))))
def fX12_chosenBy (F : Nat) (v1 : Int32) (μ : zMem) : Option zR :=
  fX12_chosenBy_7 F F v1 (-1 : Int32) (nI 0) (nI 0) μ
set_option maxRecDepth 20000 in
set_option maxHeartbeats 4000000 in
theorem wX12_chosenBy_7 {X : zX} {F : Nat} (hC : zCx X RX12 cX12_chosenBy 6 3) (hret : zRt X (some .int)) : ∀ (n : Nat) (v1 : Int32) (v2 : Int32) (v3 : Int32) (v4 : Int32) (μ : zMem), fX12_chosenBy_7 F n v1 v2 v3 v4 μ = some (zOut X) → zAW X 7 [some (.ref 60), some (.int v1), some (.int v2), some (.int v3), some (.int v4), none] [] μ := by
  intro n
  induction n with
  | zero =>
    intro v1 v2 v3 v4 μ hf
    rw [fX12_chosenBy_7] at hf
    cases hf
  | succ n ih =>
    intro v1 v2 v3 v4 μ hf
    rw [fX12_chosenBy_7] at hf
    refine zs_il hC dX12_chosenBy_7 rfl ?_
    refine zs_k hC dX12_chosenBy_9 ?_
    refine zs_ic_ge hC dX12_chosenBy_11 (fun _ hf => ?_) (fun _ hf => ?_) hf
    · refine zs_il hC dX12_chosenBy_96 rfl ?_
      exact zs_iret hC hret dX12_chosenBy_97 hf
    · refine zs_il hC dX12_chosenBy_14 rfl ?_
      refine zs_il hC dX12_chosenBy_16 rfl ?_
      refine zs_ic_eq hC dX12_chosenBy_17 (fun _ hf => ?_) (fun _ hf => ?_) hf
      · refine zs_iinc (nI 1) hC dX12_chosenBy_90 (by decide) rfl (by decide) rfl ?_
        refine zs_goto hC dX12_chosenBy_93 ?_
        exact zAW.weak (ih _ _ _ _ _ hf) (zLw_s (zLw_s (zLw_s (zLw_s (zLw_s (zLw_n zLw_0))))))
      · refine zs_al hC dX12_chosenBy_20 rfl ?_
        refine zs_il hC dX12_chosenBy_21 rfl ?_
        refine zs_callV [.int v4] hC cw_X12_isTold cl_RX12_100 zL60 rfl (by decide) rfl rfl (Nat.le_of_ble_eq_true rfl) dX12_chosenBy_23 (fun _ h => ctX12_isTold h) (fun r1 m1 _ hf => ?_) hf
        show zAW X 26 _ (.int r1 :: _) m1
        refine zs_if_eq hC dX12_chosenBy_26 (fun _ hf => ?_) (fun _ hf => ?_) hf
        · refine zs_iinc (nI 1) hC dX12_chosenBy_90 (by decide) rfl (by decide) rfl ?_
          refine zs_goto hC dX12_chosenBy_93 ?_
          exact zAW.weak (ih _ _ _ _ _ hf) (zLw_s (zLw_s (zLw_s (zLw_s (zLw_s (zLw_n zLw_0))))))
        · refine zs_al hC dX12_chosenBy_29 rfl ?_
          refine zs_getR 61 hC fl_RX12_7 zL60 rfl dX12_chosenBy_30 ?_
          refine zs_k hC dX12_chosenBy_33 ?_
          refine zs_il hC dX12_chosenBy_35 rfl ?_
          refine zs_iadd hC dX12_chosenBy_36 ?_
          refine zs_iald hC zL61 dX12_chosenBy_37 (fun _ hf => ?_) hf
          refine zs_al hC dX12_chosenBy_38 rfl ?_
          refine zs_getR 61 hC fl_RX12_7 zL60 rfl dX12_chosenBy_39 ?_
          refine zs_k hC dX12_chosenBy_42 ?_
          refine zs_il hC dX12_chosenBy_44 rfl ?_
          refine zs_iadd hC dX12_chosenBy_46 ?_
          refine zs_iald hC zL61 dX12_chosenBy_47 (fun _ hf => ?_) hf
          refine zs_k hC dX12_chosenBy_48 ?_
          refine zs_ixor hC dX12_chosenBy_49 ?_
          refine zs_iand hC dX12_chosenBy_50 ?_
          refine zs_if_ne hC dX12_chosenBy_51 (fun _ hf => ?_) (fun _ hf => ?_) hf
          · refine zs_goto hC dX12_chosenBy_54 ?_
            refine zs_iinc (nI 1) hC dX12_chosenBy_90 (by decide) rfl (by decide) rfl ?_
            refine zs_goto hC dX12_chosenBy_93 ?_
            exact zAW.weak (ih _ _ _ _ _ hf) (zLw_s (zLw_s (zLw_s (zLw_s (zLw_s (zLw_n zLw_0))))))
          · refine zs_al hC dX12_chosenBy_57 rfl ?_
            refine zs_il hC dX12_chosenBy_58 rfl ?_
            refine zs_il hC dX12_chosenBy_59 rfl ?_
            refine zs_callV [.int v1, .int v4] hC cw_X12_feels cl_RX12_253 zL60 rfl (by decide) rfl rfl (Nat.le_of_ble_eq_true rfl) dX12_chosenBy_61 (fun _ h => ctX12_feels h) (fun r4 m4 _ hf => ?_) hf
            show zAW X 64 _ _ m4
            refine zs_al hC dX12_chosenBy_64 rfl ?_
            refine zs_k hC dX12_chosenBy_65 ?_
            refine zs_k hC dX12_chosenBy_67 ?_
            refine zs_callV [.int (nI 101), .int (nI 9999)] hC cw_X12_byLaw cl_RX12_256 zL60 rfl (by decide) rfl rfl (Nat.le_of_ble_eq_true rfl) dX12_chosenBy_70 (fun _ h => ctX12_byLaw h) (fun r5 m5 _ hf => ?_) hf
            show zAW X 73 _ (.int r5 :: _) m5
            refine zs_is hC dX12_chosenBy_73 (by decide) rfl ?_
            refine zs_il hC dX12_chosenBy_75 rfl ?_
            refine zs_il hC dX12_chosenBy_77 rfl ?_
            refine zs_ic_gt hC dX12_chosenBy_78 (fun _ hf => ?_) (fun _ hf => ?_) hf
            · refine zs_il hC dX12_chosenBy_84 rfl ?_
              refine zs_is hC dX12_chosenBy_86 (by decide) rfl ?_
              refine zs_il hC dX12_chosenBy_87 rfl ?_
              refine zs_is hC dX12_chosenBy_89 (by decide) rfl ?_
              refine zs_iinc (nI 1) hC dX12_chosenBy_90 (by decide) rfl (by decide) rfl ?_
              refine zs_goto hC dX12_chosenBy_93 ?_
              exact zAW.weak (ih _ _ _ _ _ hf) (zLw_s (zLw_s (zLw_s (zLw_s (zLw_s (zLw_n zLw_0))))))
            · refine zs_goto hC dX12_chosenBy_81 ?_
              refine zs_iinc (nI 1) hC dX12_chosenBy_90 (by decide) rfl (by decide) rfl ?_
              refine zs_goto hC dX12_chosenBy_93 ?_
              exact zAW.weak (ih _ _ _ _ _ hf) (zLw_s (zLw_s (zLw_s (zLw_s (zLw_s (zLw_n zLw_0))))))
set_option maxRecDepth 20000 in
set_option maxHeartbeats 4000000 in
theorem wX12_chosenBy {X : zX} {F : Nat} (hC : zCx X RX12 cX12_chosenBy 6 3) (hret : zRt X (some .int)) {v1 : Int32} {μ : zMem} (hf : fX12_chosenBy F v1 μ = some (zOut X)) : zAW X 0 [some (.ref 60), some (.int v1), none, none, none, none] [] μ := by
  unfold fX12_chosenBy at hf
  refine zs_k hC dX12_chosenBy_0 ?_
  refine zs_is hC dX12_chosenBy_1 (by decide) rfl ?_
  refine zs_k hC dX12_chosenBy_2 ?_
  refine zs_is hC dX12_chosenBy_3 (by decide) rfl ?_
  refine zs_k hC dX12_chosenBy_4 ?_
  refine zs_is hC dX12_chosenBy_5 (by decide) rfl ?_
  exact zAW.weak (wX12_chosenBy_7 hC hret F _ _ _ _ _ hf) (zLw_s (zLw_s (zLw_s (zLw_s (zLw_s (zLw_n zLw_0))))))
set_option maxRecDepth 20000 in
set_option maxHeartbeats 4000000 in
theorem ctX12_chosenBy {E : zEV} {F : Nat} {v1 : Int32} {μ : zMem} {out : zR} (hf : fX12_chosenBy F v1 μ = some out) : zCt E yX12_chosenBy cX12_chosenBy 6 (some .int) 3 [.ref 60, .int v1] μ out :=
  zCt.of [some (.ref 60), some (.int v1), none, none, none, none] (by decide +kernel) (Nat.le_of_ble_eq_true rfl) (zLw_s (zLw_s (zLw_e (zLw_e (zLw_e (zLw_e zLw_0)))))) rfl (fun X hE ho hr hC => by
    subst hE; subst ho
    exact wX12_chosenBy hC hr hf)
/-! X12_draws -/
def fX12_draws (F : Nat) (μ : zMem) : Option zR :=
  zG (nI 1046) 1047 (zGz (nI 65536) (zG (nI 1046) 1047 (zG (nI 1046) 1047 (zGz (nI 10) (some ((((zUp μ 61 (nI 1046).toNatClampNeg ((((nI 25173) * (μ 61 (nI 1046).toNatClampNeg)) + (nI 13849)) % (nI 65536))) 61 (nI 1046).toNatClampNeg) % (nI 10)), (zUp μ 61 (nI 1046).toNatClampNeg ((((nI 25173) * (μ 61 (nI 1046).toNatClampNeg)) + (nI 13849)) % (nI 65536)))))))))
set_option maxRecDepth 20000 in
set_option maxHeartbeats 4000000 in
theorem wX12_draws {X : zX} {F : Nat} (hC : zCx X RX12 cX12_draws 1 0) (hret : zRt X (some .int)) {μ : zMem} (hf : fX12_draws F μ = some (zOut X)) : zAW X 0 [some (.ref 60)] [] μ := by
  unfold fX12_draws at hf
  refine zs_al hC dX12_draws_0 rfl ?_
  refine zs_getR 61 hC fl_RX12_7 zL60 rfl dX12_draws_1 ?_
  refine zs_k hC dX12_draws_4 ?_
  refine zs_k hC dX12_draws_7 ?_
  refine zs_al hC dX12_draws_10 rfl ?_
  refine zs_getR 61 hC fl_RX12_7 zL60 rfl dX12_draws_11 ?_
  refine zs_k hC dX12_draws_14 ?_
  refine zs_iald hC zL61 dX12_draws_17 (fun _ hf => ?_) hf
  refine zs_imul hC dX12_draws_18 ?_
  refine zs_k hC dX12_draws_19 ?_
  refine zs_iadd hC dX12_draws_22 ?_
  refine zs_ldc hC kc_RX12_74 dX12_draws_23 ?_
  refine zs_irem hC dX12_draws_25 (fun _ hf => ?_) hf
  refine zs_iast hC zL61 dX12_draws_26 (fun _ hf => ?_) hf
  refine zs_al hC dX12_draws_27 rfl ?_
  refine zs_getR 61 hC fl_RX12_7 zL60 rfl dX12_draws_28 ?_
  refine zs_k hC dX12_draws_31 ?_
  refine zs_iald hC zL61 dX12_draws_34 (fun _ hf => ?_) hf
  refine zs_k hC dX12_draws_35 ?_
  refine zs_irem hC dX12_draws_37 (fun _ hf => ?_) hf
  exact zs_iret hC hret dX12_draws_38 hf
set_option maxRecDepth 20000 in
set_option maxHeartbeats 4000000 in
theorem ctX12_draws {E : zEV} {F : Nat} {μ : zMem} {out : zR} (hf : fX12_draws F μ = some out) : zCt E yX12_draws cX12_draws 1 (some .int) 0 [.ref 60] μ out :=
  zCt.of [some (.ref 60)] (by decide +kernel) (Nat.le_of_ble_eq_true rfl) (zLw_s zLw_0) rfl (fun X hE ho hr hC => by
    subst hE; subst ho
    exact wX12_draws hC hr hf)
/-! X12_nextTold -/
def fX12_nextTold_7 (F : Nat) : Nat → Int32 → Int32 → zMem → Option zR
  | 0, _, _, _ => none
  | n + 1, v2, v3, μ => zBd (fX12_isTold F v3 μ) (fun r1 m1 => if r1 = 0 then zGz (nI 16) (fX12_nextTold_7 F n v2 ((v3 + (nI 1)) % (nI 16)) m1) else if v3 = v2 then zGz (nI 16) (fX12_nextTold_7 F n v2 ((v3 + (nI 1)) % (nI 16)) m1) else some (v3, m1))
def fX12_nextTold (F : Nat) (v1 : Int32) (v2 : Int32) (μ : zMem) : Option zR :=
  zGz (nI 16) (fX12_nextTold_7 F F v2 ((v1 + (nI 1)) % (nI 16)) μ)
set_option maxRecDepth 20000 in
set_option maxHeartbeats 4000000 in
theorem wX12_nextTold_7 {X : zX} {F : Nat} (hC : zCx X RX12 cX12_nextTold 4 2) (hret : zRt X (some .int)) : ∀ (n : Nat) (v2 : Int32) (v3 : Int32) (μ : zMem), fX12_nextTold_7 F n v2 v3 μ = some (zOut X) → zAW X 7 [some (.ref 60), none, some (.int v2), some (.int v3)] [] μ := by
  intro n
  induction n with
  | zero =>
    intro v2 v3 μ hf
    rw [fX12_nextTold_7] at hf
    cases hf
  | succ n ih =>
    intro v2 v3 μ hf
    rw [fX12_nextTold_7] at hf
    refine zs_al hC dX12_nextTold_7 rfl ?_
    refine zs_il hC dX12_nextTold_8 rfl ?_
    refine zs_callV [.int v3] hC cw_X12_isTold cl_RX12_100 zL60 rfl (by decide) rfl rfl (Nat.le_of_ble_eq_true rfl) dX12_nextTold_9 (fun _ h => ctX12_isTold h) (fun r1 m1 _ hf => ?_) hf
    show zAW X 12 _ (.int r1 :: _) m1
    refine zs_if_eq hC dX12_nextTold_12 (fun _ hf => ?_) (fun _ hf => ?_) hf
    · refine zs_il hC dX12_nextTold_20 rfl ?_
      refine zs_k hC dX12_nextTold_21 ?_
      refine zs_iadd hC dX12_nextTold_22 ?_
      refine zs_k hC dX12_nextTold_23 ?_
      refine zs_irem hC dX12_nextTold_25 (fun _ hf => ?_) hf
      refine zs_is hC dX12_nextTold_26 (by decide) rfl ?_
      refine zs_goto hC dX12_nextTold_27 ?_
      exact zAW.weak (ih _ _ _ hf) (zLw_s (zLw_n (zLw_s (zLw_s zLw_0))))
    · refine zs_il hC dX12_nextTold_15 rfl ?_
      refine zs_il hC dX12_nextTold_16 rfl ?_
      refine zs_ic_ne hC dX12_nextTold_17 (fun _ hf => ?_) (fun _ hf => ?_) hf
      · refine zs_il hC dX12_nextTold_20 rfl ?_
        refine zs_k hC dX12_nextTold_21 ?_
        refine zs_iadd hC dX12_nextTold_22 ?_
        refine zs_k hC dX12_nextTold_23 ?_
        refine zs_irem hC dX12_nextTold_25 (fun _ hf => ?_) hf
        refine zs_is hC dX12_nextTold_26 (by decide) rfl ?_
        refine zs_goto hC dX12_nextTold_27 ?_
        exact zAW.weak (ih _ _ _ hf) (zLw_s (zLw_n (zLw_s (zLw_s zLw_0))))
      · refine zs_il hC dX12_nextTold_30 rfl ?_
        exact zs_iret hC hret dX12_nextTold_31 hf
set_option maxRecDepth 20000 in
set_option maxHeartbeats 4000000 in
theorem wX12_nextTold {X : zX} {F : Nat} (hC : zCx X RX12 cX12_nextTold 4 2) (hret : zRt X (some .int)) {v1 : Int32} {v2 : Int32} {μ : zMem} (hf : fX12_nextTold F v1 v2 μ = some (zOut X)) : zAW X 0 [some (.ref 60), some (.int v1), some (.int v2), none] [] μ := by
  unfold fX12_nextTold at hf
  refine zs_il hC dX12_nextTold_0 rfl ?_
  refine zs_k hC dX12_nextTold_1 ?_
  refine zs_iadd hC dX12_nextTold_2 ?_
  refine zs_k hC dX12_nextTold_3 ?_
  refine zs_irem hC dX12_nextTold_5 (fun _ hf => ?_) hf
  refine zs_is hC dX12_nextTold_6 (by decide) rfl ?_
  exact zAW.weak (wX12_nextTold_7 hC hret F _ _ _ hf) (zLw_s (zLw_n (zLw_s (zLw_s zLw_0))))
set_option maxRecDepth 20000 in
set_option maxHeartbeats 4000000 in
theorem ctX12_nextTold {E : zEV} {F : Nat} {v1 : Int32} {v2 : Int32} {μ : zMem} {out : zR} (hf : fX12_nextTold F v1 v2 μ = some out) : zCt E yX12_nextTold cX12_nextTold 4 (some .int) 2 [.ref 60, .int v1, .int v2] μ out :=
  zCt.of [some (.ref 60), some (.int v1), some (.int v2), none] (by decide +kernel) (Nat.le_of_ble_eq_true rfl) (zLw_s (zLw_s (zLw_s (zLw_e zLw_0)))) rfl (fun X hE ho hr hC => by
    subst hE; subst ho
    exact wX12_nextTold hC hr hf)
/-! X12_prints -/
def fX12_prints (F : Nat) (v1 : Int32) (v2 : Int32) (v3 : Int32) (μ : zMem) : Option zR :=
  zG (nI 1044) 1047 (zGz (nI 20) (zG ((nI 64) + ((μ 61 (nI 1044).toNatClampNeg) % (nI 20))) 1047 (zG (((nI 84) + ((nI 48) * ((μ 61 (nI 1044).toNatClampNeg) % (nI 20)))) + ((nI 3) * (μ 61 ((nI 64) + ((μ 61 (nI 1044).toNatClampNeg) % (nI 20))).toNatClampNeg))) 1047 (zG ((((nI 84) + ((nI 48) * ((μ 61 (nI 1044).toNatClampNeg) % (nI 20)))) + ((nI 3) * (μ 61 ((nI 64) + ((μ 61 (nI 1044).toNatClampNeg) % (nI 20))).toNatClampNeg))) + (nI 1)) 1047 (zG ((((nI 84) + ((nI 48) * ((μ 61 (nI 1044).toNatClampNeg) % (nI 20)))) + ((nI 3) * (μ 61 ((nI 64) + ((μ 61 (nI 1044).toNatClampNeg) % (nI 20))).toNatClampNeg))) + (nI 2)) 1047 (zG ((nI 64) + ((μ 61 (nI 1044).toNatClampNeg) % (nI 20))) 1047 (zG ((nI 64) + ((μ 61 (nI 1044).toNatClampNeg) % (nI 20))) 1047 (some ((nI 0), (zUp (zUp (zUp (zUp (zUp μ 61 (((nI 84) + ((nI 48) * ((μ 61 (nI 1044).toNatClampNeg) % (nI 20)))) + ((nI 3) * (μ 61 ((nI 64) + ((μ 61 (nI 1044).toNatClampNeg) % (nI 20))).toNatClampNeg))).toNatClampNeg v1) 61 ((((nI 84) + ((nI 48) * ((μ 61 (nI 1044).toNatClampNeg) % (nI 20)))) + ((nI 3) * (μ 61 ((nI 64) + ((μ 61 (nI 1044).toNatClampNeg) % (nI 20))).toNatClampNeg))) + (nI 1)).toNatClampNeg v2) 61 ((((nI 84) + ((nI 48) * ((μ 61 (nI 1044).toNatClampNeg) % (nI 20)))) + ((nI 3) * (μ 61 ((nI 64) + ((μ 61 (nI 1044).toNatClampNeg) % (nI 20))).toNatClampNeg))) + (nI 2)).toNatClampNeg v3) 61 ((nI 64) + ((μ 61 (nI 1044).toNatClampNeg) % (nI 20))).toNatClampNeg (((zUp (zUp (zUp μ 61 (((nI 84) + ((nI 48) * ((μ 61 (nI 1044).toNatClampNeg) % (nI 20)))) + ((nI 3) * (μ 61 ((nI 64) + ((μ 61 (nI 1044).toNatClampNeg) % (nI 20))).toNatClampNeg))).toNatClampNeg v1) 61 ((((nI 84) + ((nI 48) * ((μ 61 (nI 1044).toNatClampNeg) % (nI 20)))) + ((nI 3) * (μ 61 ((nI 64) + ((μ 61 (nI 1044).toNatClampNeg) % (nI 20))).toNatClampNeg))) + (nI 1)).toNatClampNeg v2) 61 ((((nI 84) + ((nI 48) * ((μ 61 (nI 1044).toNatClampNeg) % (nI 20)))) + ((nI 3) * (μ 61 ((nI 64) + ((μ 61 (nI 1044).toNatClampNeg) % (nI 20))).toNatClampNeg))) + (nI 2)).toNatClampNeg v3) 61 ((nI 64) + ((μ 61 (nI 1044).toNatClampNeg) % (nI 20))).toNatClampNeg) + (nI 1))) 60 34 (((zUp (zUp (zUp (zUp μ 61 (((nI 84) + ((nI 48) * ((μ 61 (nI 1044).toNatClampNeg) % (nI 20)))) + ((nI 3) * (μ 61 ((nI 64) + ((μ 61 (nI 1044).toNatClampNeg) % (nI 20))).toNatClampNeg))).toNatClampNeg v1) 61 ((((nI 84) + ((nI 48) * ((μ 61 (nI 1044).toNatClampNeg) % (nI 20)))) + ((nI 3) * (μ 61 ((nI 64) + ((μ 61 (nI 1044).toNatClampNeg) % (nI 20))).toNatClampNeg))) + (nI 1)).toNatClampNeg v2) 61 ((((nI 84) + ((nI 48) * ((μ 61 (nI 1044).toNatClampNeg) % (nI 20)))) + ((nI 3) * (μ 61 ((nI 64) + ((μ 61 (nI 1044).toNatClampNeg) % (nI 20))).toNatClampNeg))) + (nI 2)).toNatClampNeg v3) 61 ((nI 64) + ((μ 61 (nI 1044).toNatClampNeg) % (nI 20))).toNatClampNeg (((zUp (zUp (zUp μ 61 (((nI 84) + ((nI 48) * ((μ 61 (nI 1044).toNatClampNeg) % (nI 20)))) + ((nI 3) * (μ 61 ((nI 64) + ((μ 61 (nI 1044).toNatClampNeg) % (nI 20))).toNatClampNeg))).toNatClampNeg v1) 61 ((((nI 84) + ((nI 48) * ((μ 61 (nI 1044).toNatClampNeg) % (nI 20)))) + ((nI 3) * (μ 61 ((nI 64) + ((μ 61 (nI 1044).toNatClampNeg) % (nI 20))).toNatClampNeg))) + (nI 1)).toNatClampNeg v2) 61 ((((nI 84) + ((nI 48) * ((μ 61 (nI 1044).toNatClampNeg) % (nI 20)))) + ((nI 3) * (μ 61 ((nI 64) + ((μ 61 (nI 1044).toNatClampNeg) % (nI 20))).toNatClampNeg))) + (nI 2)).toNatClampNeg v3) 61 ((nI 64) + ((μ 61 (nI 1044).toNatClampNeg) % (nI 20))).toNatClampNeg) + (nI 1))) 60 34) + (nI 1))))))))))))
set_option maxRecDepth 20000 in
set_option maxHeartbeats 4000000 in
theorem wX12_prints {X : zX} {F : Nat} (hC : zCx X RX12 cX12_prints 6 0) (hret : zRt X none) {v1 : Int32} {v2 : Int32} {v3 : Int32} {μ : zMem} (hf : fX12_prints F v1 v2 v3 μ = some (zOut X)) : zAW X 0 [some (.ref 60), some (.int v1), some (.int v2), some (.int v3), none, none] [] μ := by
  unfold fX12_prints at hf
  refine zs_al hC dX12_prints_0 rfl ?_
  refine zs_getR 61 hC fl_RX12_7 zL60 rfl dX12_prints_1 ?_
  refine zs_k hC dX12_prints_4 ?_
  refine zs_iald hC zL61 dX12_prints_7 (fun _ hf => ?_) hf
  refine zs_k hC dX12_prints_8 ?_
  refine zs_irem hC dX12_prints_10 (fun _ hf => ?_) hf
  refine zs_is hC dX12_prints_11 (by decide) rfl ?_
  refine zs_k hC dX12_prints_13 ?_
  refine zs_k hC dX12_prints_15 ?_
  refine zs_il hC dX12_prints_17 rfl ?_
  refine zs_imul hC dX12_prints_19 ?_
  refine zs_iadd hC dX12_prints_20 ?_
  refine zs_k hC dX12_prints_21 ?_
  refine zs_al hC dX12_prints_22 rfl ?_
  refine zs_getR 61 hC fl_RX12_7 zL60 rfl dX12_prints_23 ?_
  refine zs_k hC dX12_prints_26 ?_
  refine zs_il hC dX12_prints_28 rfl ?_
  refine zs_iadd hC dX12_prints_30 ?_
  refine zs_iald hC zL61 dX12_prints_31 (fun _ hf => ?_) hf
  refine zs_imul hC dX12_prints_32 ?_
  refine zs_iadd hC dX12_prints_33 ?_
  refine zs_is hC dX12_prints_34 (by decide) rfl ?_
  refine zs_al hC dX12_prints_36 rfl ?_
  refine zs_getR 61 hC fl_RX12_7 zL60 rfl dX12_prints_37 ?_
  refine zs_il hC dX12_prints_40 rfl ?_
  refine zs_il hC dX12_prints_42 rfl ?_
  refine zs_iast hC zL61 dX12_prints_43 (fun _ hf => ?_) hf
  refine zs_al hC dX12_prints_44 rfl ?_
  refine zs_getR 61 hC fl_RX12_7 zL60 rfl dX12_prints_45 ?_
  refine zs_il hC dX12_prints_48 rfl ?_
  refine zs_k hC dX12_prints_50 ?_
  refine zs_iadd hC dX12_prints_51 ?_
  refine zs_il hC dX12_prints_52 rfl ?_
  refine zs_iast hC zL61 dX12_prints_53 (fun _ hf => ?_) hf
  refine zs_al hC dX12_prints_54 rfl ?_
  refine zs_getR 61 hC fl_RX12_7 zL60 rfl dX12_prints_55 ?_
  refine zs_il hC dX12_prints_58 rfl ?_
  refine zs_k hC dX12_prints_60 ?_
  refine zs_iadd hC dX12_prints_61 ?_
  refine zs_il hC dX12_prints_62 rfl ?_
  refine zs_iast hC zL61 dX12_prints_63 (fun _ hf => ?_) hf
  refine zs_al hC dX12_prints_64 rfl ?_
  refine zs_getR 61 hC fl_RX12_7 zL60 rfl dX12_prints_65 ?_
  refine zs_k hC dX12_prints_68 ?_
  refine zs_il hC dX12_prints_70 rfl ?_
  refine zs_iadd hC dX12_prints_72 ?_
  refine zs_al hC dX12_prints_73 rfl ?_
  refine zs_getR 61 hC fl_RX12_7 zL60 rfl dX12_prints_74 ?_
  refine zs_k hC dX12_prints_77 ?_
  refine zs_il hC dX12_prints_79 rfl ?_
  refine zs_iadd hC dX12_prints_81 ?_
  refine zs_iald hC zL61 dX12_prints_82 (fun _ hf => ?_) hf
  refine zs_k hC dX12_prints_83 ?_
  refine zs_iadd hC dX12_prints_84 ?_
  refine zs_iast hC zL61 dX12_prints_85 (fun _ hf => ?_) hf
  refine zs_al hC dX12_prints_86 rfl ?_
  refine zs_al hC dX12_prints_87 rfl ?_
  refine zs_getI hC fl_RX12_259 zL60 rfl dX12_prints_88 ?_
  refine zs_k hC dX12_prints_91 ?_
  refine zs_iadd hC dX12_prints_92 ?_
  refine zs_putI hC fl_RX12_259 fp_12_34 zL60 rfl dX12_prints_93 ?_
  exact zs_vret hC hret dX12_prints_96 hf
set_option maxRecDepth 20000 in
set_option maxHeartbeats 4000000 in
theorem ctX12_prints {E : zEV} {F : Nat} {v1 : Int32} {v2 : Int32} {v3 : Int32} {μ : zMem} {out : zR} (hf : fX12_prints F v1 v2 v3 μ = some out) : zCt E yX12_prints cX12_prints 6 none 0 [.ref 60, .int v1, .int v2, .int v3] μ out :=
  zCt.of [some (.ref 60), some (.int v1), some (.int v2), some (.int v3), none, none] (by decide +kernel) (Nat.le_of_ble_eq_true rfl) (zLw_s (zLw_s (zLw_s (zLw_s (zLw_e (zLw_e zLw_0)))))) rfl (fun X hE ho hr hC => by
    subst hE; subst ho
    exact wX12_prints hC hr hf)
/-! X12_whispers -/
def fX12_whispers_167 (F : Nat) (v1 : Int32) (v2 : Int32) (v5 : Int32) (v6 : Int32) (μ : zMem) : Option zR :=
  if v6 = 0 then zBd (fX12_prints F v1 v2 v5 μ) (fun r1 m1 => some ((nI 0), m1)) else zBd (fX12_nextTold F v2 v1 μ) (fun r2 m2 => zBd (fX12_prints F v1 r2 v5 m2) (fun r3 m3 => some ((nI 0), m3)))
def fX12_whispers_150 (F : Nat) (v1 : Int32) (v2 : Int32) (v5 : Int32) (s0 : Int32) (μ : zMem) : Option zR :=
  if s0 = 0 then fX12_whispers_167 F v1 v2 v5 s0 μ else fX12_whispers_167 F v1 v2 v5 s0 (zUp μ 60 35 ((μ 60 35) + (nI 1)))
def fX12_whispers_49 (F : Nat) : Nat → Int32 → Int32 → Int32 → Int32 → zMem → Option zR
  | 0, _, _, _, _, _ => none
  | n + 1, v1, v2, v4, v5, μ => zG ((nI 16) + v1) 1047 (zG ((nI 16) + v2) 1047 (zBd (fX12_has F ((μ 61 ((nI 16) + v1).toNatClampNeg) &&& ((μ 61 ((nI 16) + v2).toNatClampNeg) ^^^ (-1 : Int32))) v5 μ) (fun r3 m3 => if r3 = 0 then fX12_whispers_49 F n v1 v2 v4 (v5 + (nI 1)) m3 else zG ((nI 16) + v2) 1047 (zG ((nI 16) + v2) 1047 (zG ((nI 48) + v1) 1047 (zBd (fX12_min F (nI 9999) (((zUp m3 61 ((nI 16) + v2).toNatClampNeg ((m3 61 ((nI 16) + v2).toNatClampNeg) ||| ((nI 1) <<< (v5 &&& 31)))) 61 ((nI 48) + v1).toNatClampNeg) + (nI 1)) (zUp m3 61 ((nI 16) + v2).toNatClampNeg ((m3 61 ((nI 16) + v2).toNatClampNeg) ||| ((nI 1) <<< (v5 &&& 31))))) (fun r8 m8 => zG ((nI 48) + v1) 1047 (zBd (fX12_draws F (zUp m8 61 ((nI 48) + v1).toNatClampNeg r8)) (fun r9 m9 => if v4 ≤ r9 then fX12_whispers_150 F v1 v2 v5 (nI 0) m9 else fX12_whispers_150 F v1 v2 v5 (nI 1) m9)))))))))
def fX12_whispers (F : Nat) (v1 : Int32) (μ : zMem) : Option zR :=
  zBd (fX12_chosenBy F v1 μ) (fun r1 m1 => if r1 = (-1 : Int32) then some ((nI 0), m1) else zBd (fX12_feels F v1 r1 m1) (fun r2 m2 => zBd (fX12_byLaw F (nI 104) (nI 10) m2) (fun r3 m3 => zBd (fX12_byLaw F (nI 109) (nI 10) m3) (fun r4 m4 => zBd (fX12_draws F m4) (fun r5 m5 => if r5 < r3 then fX12_whispers_49 F F v1 r1 r4 (nI 0) m5 else some ((nI 0), m5))))))
set_option maxRecDepth 20000 in
set_option maxHeartbeats 4000000 in
theorem wX12_whispers_167 {X : zX} {F : Nat} (hC : zCx X RX12 cX12_whispers 7 4) (hret : zRt X none) {v1 : Int32} {v2 : Int32} {v5 : Int32} {v6 : Int32} {μ : zMem} (hf : fX12_whispers_167 F v1 v2 v5 v6 μ = some (zOut X)) : zAW X 167 [some (.ref 60), some (.int v1), some (.int v2), none, none, some (.int v5), some (.int v6)] [] μ := by
  unfold fX12_whispers_167 at hf
  refine zs_al hC dX12_whispers_167 rfl ?_
  refine zs_il hC dX12_whispers_168 rfl ?_
  refine zs_il hC dX12_whispers_169 rfl ?_
  refine zs_if_eq hC dX12_whispers_171 (fun _ hf => ?_) (fun _ hf => ?_) hf
  · refine zs_il hC dX12_whispers_183 rfl ?_
    refine zs_il hC dX12_whispers_184 rfl ?_
    refine zs_callV [.int v1, .int v2, .int v5] hC cw_X12_prints cl_RX12_280 zL60 rfl (by decide) rfl rfl (Nat.le_of_ble_eq_true rfl) dX12_whispers_186 (fun _ h => ctX12_prints h) (fun r1 m1 _ hf => ?_) hf
    show zAW X 189 _ _ m1
    exact zs_vret hC hret dX12_whispers_189 hf
  · refine zs_al hC dX12_whispers_174 rfl ?_
    refine zs_il hC dX12_whispers_175 rfl ?_
    refine zs_il hC dX12_whispers_176 rfl ?_
    refine zs_callV [.int v2, .int v1] hC cw_X12_nextTold cl_RX12_277 zL60 rfl (by decide) rfl rfl (Nat.le_of_ble_eq_true rfl) dX12_whispers_177 (fun _ h => ctX12_nextTold h) (fun r2 m2 _ hf => ?_) hf
    show zAW X 180 _ (.int r2 :: _) m2
    refine zs_goto hC dX12_whispers_180 ?_
    refine zs_il hC dX12_whispers_184 rfl ?_
    refine zs_callV [.int v1, .int r2, .int v5] hC cw_X12_prints cl_RX12_280 zL60 rfl (by decide) rfl rfl (Nat.le_of_ble_eq_true rfl) dX12_whispers_186 (fun _ h => ctX12_prints h) (fun r3 m3 _ hf => ?_) hf
    show zAW X 189 _ _ m3
    exact zs_vret hC hret dX12_whispers_189 hf
set_option maxRecDepth 20000 in
set_option maxHeartbeats 4000000 in
theorem wX12_whispers_150 {X : zX} {F : Nat} (hC : zCx X RX12 cX12_whispers 7 4) (hret : zRt X none) {v1 : Int32} {v2 : Int32} {v5 : Int32} {s0 : Int32} {μ : zMem} (hf : fX12_whispers_150 F v1 v2 v5 s0 μ = some (zOut X)) : zAW X 150 [some (.ref 60), some (.int v1), some (.int v2), none, none, some (.int v5), none] [.int s0] μ := by
  unfold fX12_whispers_150 at hf
  refine zs_is hC dX12_whispers_150 (by decide) rfl ?_
  refine zs_il hC dX12_whispers_152 rfl ?_
  refine zs_if_eq hC dX12_whispers_154 (fun _ hf => ?_) (fun _ hf => ?_) hf
  · exact zAW.weak (wX12_whispers_167 hC hret hf) (zLw_s (zLw_s (zLw_s (zLw_n (zLw_n (zLw_s (zLw_s zLw_0)))))))
  · refine zs_al hC dX12_whispers_157 rfl ?_
    refine zs_al hC dX12_whispers_158 rfl ?_
    refine zs_getI hC fl_RX12_274 zL60 rfl dX12_whispers_159 ?_
    refine zs_k hC dX12_whispers_162 ?_
    refine zs_iadd hC dX12_whispers_163 ?_
    refine zs_putI hC fl_RX12_274 fp_12_35 zL60 rfl dX12_whispers_164 ?_
    exact zAW.weak (wX12_whispers_167 hC hret hf) (zLw_s (zLw_s (zLw_s (zLw_n (zLw_n (zLw_s (zLw_s zLw_0)))))))
set_option maxRecDepth 20000 in
set_option maxHeartbeats 4000000 in
theorem wX12_whispers_49 {X : zX} {F : Nat} (hC : zCx X RX12 cX12_whispers 7 4) (hret : zRt X none) : ∀ (n : Nat) (v1 : Int32) (v2 : Int32) (v4 : Int32) (v5 : Int32) (μ : zMem), fX12_whispers_49 F n v1 v2 v4 v5 μ = some (zOut X) → zAW X 49 [some (.ref 60), some (.int v1), some (.int v2), none, some (.int v4), some (.int v5), none] [] μ := by
  intro n
  induction n with
  | zero =>
    intro v1 v2 v4 v5 μ hf
    rw [fX12_whispers_49] at hf
    cases hf
  | succ n ih =>
    intro v1 v2 v4 v5 μ hf
    rw [fX12_whispers_49] at hf
    refine zs_al hC dX12_whispers_49 rfl ?_
    refine zs_getR 61 hC fl_RX12_7 zL60 rfl dX12_whispers_50 ?_
    refine zs_k hC dX12_whispers_53 ?_
    refine zs_il hC dX12_whispers_55 rfl ?_
    refine zs_iadd hC dX12_whispers_56 ?_
    refine zs_iald hC zL61 dX12_whispers_57 (fun _ hf => ?_) hf
    refine zs_al hC dX12_whispers_58 rfl ?_
    refine zs_getR 61 hC fl_RX12_7 zL60 rfl dX12_whispers_59 ?_
    refine zs_k hC dX12_whispers_62 ?_
    refine zs_il hC dX12_whispers_64 rfl ?_
    refine zs_iadd hC dX12_whispers_65 ?_
    refine zs_iald hC zL61 dX12_whispers_66 (fun _ hf => ?_) hf
    refine zs_k hC dX12_whispers_67 ?_
    refine zs_ixor hC dX12_whispers_68 ?_
    refine zs_iand hC dX12_whispers_69 ?_
    refine zs_il hC dX12_whispers_70 rfl ?_
    refine zs_callS [.int ((μ 61 ((nI 16) + v1).toNatClampNeg) &&& ((μ 61 ((nI 16) + v2).toNatClampNeg) ^^^ (-1 : Int32))), .int v5] hC cw_X12_has cl_RX12_268 (by decide) rfl rfl (Nat.le_of_ble_eq_true rfl) dX12_whispers_72 (fun _ h => ctX12_has h) (fun r3 m3 _ hf => ?_) hf
    show zAW X 75 _ (.int r3 :: _) m3
    refine zs_if_ne hC dX12_whispers_75 (fun _ hf => ?_) (fun _ hf => ?_) hf
    · refine zs_il hC dX12_whispers_78 rfl ?_
      refine zs_k hC dX12_whispers_80 ?_
      refine zs_iadd hC dX12_whispers_81 ?_
      refine zs_is hC dX12_whispers_82 (by decide) rfl ?_
      refine zs_goto hC dX12_whispers_84 ?_
      exact zAW.weak (ih _ _ _ _ _ hf) (zLw_s (zLw_s (zLw_s (zLw_n (zLw_s (zLw_s (zLw_n zLw_0)))))))
    · refine zs_al hC dX12_whispers_87 rfl ?_
      refine zs_getR 61 hC fl_RX12_7 zL60 rfl dX12_whispers_88 ?_
      refine zs_k hC dX12_whispers_91 ?_
      refine zs_il hC dX12_whispers_93 rfl ?_
      refine zs_iadd hC dX12_whispers_94 ?_
      refine zs_al hC dX12_whispers_95 rfl ?_
      refine zs_getR 61 hC fl_RX12_7 zL60 rfl dX12_whispers_96 ?_
      refine zs_k hC dX12_whispers_99 ?_
      refine zs_il hC dX12_whispers_101 rfl ?_
      refine zs_iadd hC dX12_whispers_102 ?_
      refine zs_iald hC zL61 dX12_whispers_103 (fun _ hf => ?_) hf
      refine zs_k hC dX12_whispers_104 ?_
      refine zs_il hC dX12_whispers_105 rfl ?_
      refine zs_ishl hC dX12_whispers_107 ?_
      refine zs_ior hC dX12_whispers_108 ?_
      refine zs_iast hC zL61 dX12_whispers_109 (fun _ hf => ?_) hf
      refine zs_al hC dX12_whispers_110 rfl ?_
      refine zs_getR 61 hC fl_RX12_7 zL60 rfl dX12_whispers_111 ?_
      refine zs_k hC dX12_whispers_114 ?_
      refine zs_il hC dX12_whispers_116 rfl ?_
      refine zs_iadd hC dX12_whispers_117 ?_
      refine zs_k hC dX12_whispers_118 ?_
      refine zs_al hC dX12_whispers_121 rfl ?_
      refine zs_getR 61 hC fl_RX12_7 zL60 rfl dX12_whispers_122 ?_
      refine zs_k hC dX12_whispers_125 ?_
      refine zs_il hC dX12_whispers_127 rfl ?_
      refine zs_iadd hC dX12_whispers_128 ?_
      refine zs_iald hC zL61 dX12_whispers_129 (fun _ hf => ?_) hf
      refine zs_k hC dX12_whispers_130 ?_
      refine zs_iadd hC dX12_whispers_131 ?_
      refine zs_callS [.int (nI 9999), .int (((zUp m3 61 ((nI 16) + v2).toNatClampNeg ((m3 61 ((nI 16) + v2).toNatClampNeg) ||| ((nI 1) <<< (v5 &&& 31)))) 61 ((nI 48) + v1).toNatClampNeg) + (nI 1))] hC cw_X12_min cl_RX12_271 (by decide) rfl rfl (Nat.le_of_ble_eq_true rfl) dX12_whispers_132 (fun _ h => ctX12_min h) (fun r8 m8 _ hf => ?_) hf
      show zAW X 135 _ (.int r8 :: _) m8
      refine zs_iast hC zL61 dX12_whispers_135 (fun _ hf => ?_) hf
      refine zs_al hC dX12_whispers_136 rfl ?_
      refine zs_callV [] hC cw_X12_draws cl_RX12_265 zL60 rfl (by decide) rfl rfl (Nat.le_of_ble_eq_true rfl) dX12_whispers_137 (fun _ h => ctX12_draws h) (fun r9 m9 _ hf => ?_) hf
      show zAW X 140 _ (.int r9 :: _) m9
      refine zs_il hC dX12_whispers_140 rfl ?_
      refine zs_ic_ge hC dX12_whispers_142 (fun _ hf => ?_) (fun _ hf => ?_) hf
      · refine zs_k hC dX12_whispers_149 ?_
        exact zAW.weak (wX12_whispers_150 hC hret hf) (zLw_s (zLw_s (zLw_s (zLw_n (zLw_n (zLw_s (zLw_n zLw_0)))))))
      · refine zs_k hC dX12_whispers_145 ?_
        refine zs_goto hC dX12_whispers_146 ?_
        exact zAW.weak (wX12_whispers_150 hC hret hf) (zLw_s (zLw_s (zLw_s (zLw_n (zLw_n (zLw_s (zLw_n zLw_0)))))))
set_option maxRecDepth 20000 in
set_option maxHeartbeats 4000000 in
theorem wX12_whispers {X : zX} {F : Nat} (hC : zCx X RX12 cX12_whispers 7 4) (hret : zRt X none) {v1 : Int32} {μ : zMem} (hf : fX12_whispers F v1 μ = some (zOut X)) : zAW X 0 [some (.ref 60), some (.int v1), none, none, none, none, none] [] μ := by
  unfold fX12_whispers at hf
  refine zs_al hC dX12_whispers_0 rfl ?_
  refine zs_il hC dX12_whispers_1 rfl ?_
  refine zs_callV [.int v1] hC cw_X12_chosenBy cl_RX12_262 zL60 rfl (by decide) rfl rfl (Nat.le_of_ble_eq_true rfl) dX12_whispers_2 (fun _ h => ctX12_chosenBy h) (fun r1 m1 _ hf => ?_) hf
  show zAW X 5 _ (.int r1 :: _) m1
  refine zs_is hC dX12_whispers_5 (by decide) rfl ?_
  refine zs_il hC dX12_whispers_6 rfl ?_
  refine zs_k hC dX12_whispers_7 ?_
  refine zs_ic_ne hC dX12_whispers_8 (fun _ hf => ?_) (fun _ hf => ?_) hf
  · exact zs_vret hC hret dX12_whispers_11 hf
  · refine zs_al hC dX12_whispers_12 rfl ?_
    refine zs_il hC dX12_whispers_13 rfl ?_
    refine zs_il hC dX12_whispers_14 rfl ?_
    refine zs_callV [.int v1, .int r1] hC cw_X12_feels cl_RX12_253 zL60 rfl (by decide) rfl rfl (Nat.le_of_ble_eq_true rfl) dX12_whispers_15 (fun _ h => ctX12_feels h) (fun r2 m2 _ hf => ?_) hf
    show zAW X 18 _ _ m2
    refine zs_al hC dX12_whispers_18 rfl ?_
    refine zs_k hC dX12_whispers_19 ?_
    refine zs_k hC dX12_whispers_21 ?_
    refine zs_callV [.int (nI 104), .int (nI 10)] hC cw_X12_byLaw cl_RX12_256 zL60 rfl (by decide) rfl rfl (Nat.le_of_ble_eq_true rfl) dX12_whispers_23 (fun _ h => ctX12_byLaw h) (fun r3 m3 _ hf => ?_) hf
    show zAW X 26 _ (.int r3 :: _) m3
    refine zs_is hC dX12_whispers_26 (by decide) rfl ?_
    refine zs_al hC dX12_whispers_27 rfl ?_
    refine zs_k hC dX12_whispers_28 ?_
    refine zs_k hC dX12_whispers_30 ?_
    refine zs_callV [.int (nI 109), .int (nI 10)] hC cw_X12_byLaw cl_RX12_256 zL60 rfl (by decide) rfl rfl (Nat.le_of_ble_eq_true rfl) dX12_whispers_32 (fun _ h => ctX12_byLaw h) (fun r4 m4 _ hf => ?_) hf
    show zAW X 35 _ (.int r4 :: _) m4
    refine zs_is hC dX12_whispers_35 (by decide) rfl ?_
    refine zs_al hC dX12_whispers_37 rfl ?_
    refine zs_callV [] hC cw_X12_draws cl_RX12_265 zL60 rfl (by decide) rfl rfl (Nat.le_of_ble_eq_true rfl) dX12_whispers_38 (fun _ h => ctX12_draws h) (fun r5 m5 _ hf => ?_) hf
    show zAW X 41 _ (.int r5 :: _) m5
    refine zs_il hC dX12_whispers_41 rfl ?_
    refine zs_ic_lt hC dX12_whispers_42 (fun _ hf => ?_) (fun _ hf => ?_) hf
    · refine zs_k hC dX12_whispers_46 ?_
      refine zs_is hC dX12_whispers_47 (by decide) rfl ?_
      exact zAW.weak (wX12_whispers_49 hC hret F _ _ _ _ _ hf) (zLw_s (zLw_s (zLw_s (zLw_n (zLw_s (zLw_s (zLw_n zLw_0)))))))
    · exact zs_vret hC hret dX12_whispers_45 hf
set_option maxRecDepth 20000 in
set_option maxHeartbeats 4000000 in
theorem ctX12_whispers {E : zEV} {F : Nat} {v1 : Int32} {μ : zMem} {out : zR} (hf : fX12_whispers F v1 μ = some out) : zCt E yX12_whispers cX12_whispers 7 none 4 [.ref 60, .int v1] μ out :=
  zCt.of [some (.ref 60), some (.int v1), none, none, none, none, none] (by decide +kernel) (Nat.le_of_ble_eq_true rfl) (zLw_s (zLw_s (zLw_e (zLw_e (zLw_e (zLw_e (zLw_e zLw_0))))))) rfl (fun X hE ho hr hC => by
    subst hE; subst ho
    exact wX12_whispers hC hr hf)
/-! X12_weekGoes -/
def fX12_weekGoes_97 (F : Nat) : Nat → Int32 → Int32 → zMem → Option zR
  | 0, _, _, _ => none
  | n + 1, v2, v3, μ => if (nI 16) ≤ v3 then zG (nI 1044) 1047 (zG (nI 1044) 1047 (zG (nI 1045) 1047 (zG (nI 1045) 1047 (some ((nI 0), (zUp (zUp μ 61 (nI 1044).toNatClampNeg ((μ 61 (nI 1044).toNatClampNeg) + (nI 1))) 61 (nI 1045).toNatClampNeg (((zUp μ 61 (nI 1044).toNatClampNeg ((μ 61 (nI 1044).toNatClampNeg) + (nI 1))) 61 (nI 1045).toNatClampNeg) + (nI 1)))))))) else zBd (fX12_isTold F v3 μ) (fun r5 m5 => if r5 = 0 then fX12_weekGoes_97 F n v2 (v3 + (nI 1)) m5 else zG ((nI 32) + v3) 1047 (if (m5 61 ((nI 32) + v3).toNatClampNeg) = 0 then fX12_weekGoes_97 F n v2 (v3 + (nI 1)) m5 else zBd (fX12_feels F v3 (-1 : Int32) m5) (fun r7 m7 => zBd (fX12_holdsAnyOrNone F (nI 114) m7) (fun r8 m8 => if r8 = 0 then fX12_weekGoes_97 F n v2 (v3 + (nI 1)) m8 else zG ((nI 16) + v3) 1047 (zG ((nI 16) + v3) 1047 (fX12_weekGoes_97 F n v2 (v3 + (nI 1)) (zUp m8 61 ((nI 16) + v3).toNatClampNeg ((m8 61 ((nI 16) + v3).toNatClampNeg) ||| v2))))))))
def fX12_weekGoes_53 (F : Nat) : Nat → Int32 → Int32 → Int32 → zMem → Option zR
  | 0, _, _, _, _ => none
  | n + 1, v1, v2, v3, μ => zG ((nI 64) + v1) 1047 (if (μ 61 ((nI 64) + v1).toNatClampNeg) ≤ v3 then fX12_weekGoes_97 F F v2 (nI 0) μ else zG ((((nI 84) + ((nI 48) * v1)) + ((nI 3) * v3)) + (nI 2)) 1047 (fX12_weekGoes_53 F n v1 (v2 ||| ((nI 1) <<< ((μ 61 ((((nI 84) + ((nI 48) * v1)) + ((nI 3) * v3)) + (nI 2)).toNatClampNeg) &&& 31))) (v3 + (nI 1)) μ))
def fX12_weekGoes_24 (F : Nat) : Nat → Int32 → Int32 → zMem → Option zR
  | 0, _, _, _ => none
  | n + 1, v1, v2, μ => if (nI 16) ≤ v2 then fX12_weekGoes_53 F F v1 (nI 0) (nI 0) μ else zBd (fX12_isTold F v2 μ) (fun r1 m1 => if r1 = 0 then fX12_weekGoes_24 F n v1 (v2 + (nI 1)) m1 else zBd (fX12_whispers F v2 m1) (fun r2 m2 => fX12_weekGoes_24 F n v1 (v2 + (nI 1)) m2))
def fX12_weekGoes (F : Nat) (μ : zMem) : Option zR :=
  zG (nI 1044) 1047 (zGz (nI 20) (zG ((nI 64) + ((μ 61 (nI 1044).toNatClampNeg) % (nI 20))) 1047 (fX12_weekGoes_24 F F ((μ 61 (nI 1044).toNatClampNeg) % (nI 20)) (nI 0) (zUp μ 61 ((nI 64) + ((μ 61 (nI 1044).toNatClampNeg) % (nI 20))).toNatClampNeg (nI 0)))))
set_option maxRecDepth 20000 in
set_option maxHeartbeats 4000000 in
theorem wX12_weekGoes_97 {X : zX} {F : Nat} (hC : zCx X RX12 cX12_weekGoes 4 5) (hret : zRt X none) : ∀ (n : Nat) (v2 : Int32) (v3 : Int32) (μ : zMem), fX12_weekGoes_97 F n v2 v3 μ = some (zOut X) → zAW X 97 [some (.ref 60), none, some (.int v2), some (.int v3)] [] μ := by
  intro n
  induction n with
  | zero =>
    intro v2 v3 μ hf
    rw [fX12_weekGoes_97] at hf
    cases hf
  | succ n ih =>
    intro v2 v3 μ hf
    rw [fX12_weekGoes_97] at hf
    refine zs_il hC dX12_weekGoes_97 rfl ?_
    refine zs_k hC dX12_weekGoes_98 ?_
    refine zs_ic_ge hC dX12_weekGoes_100 (fun _ hf => ?_) (fun _ hf => ?_) hf
    · refine zs_al hC dX12_weekGoes_167 rfl ?_
      refine zs_getR 61 hC fl_RX12_7 zL60 rfl dX12_weekGoes_168 ?_
      refine zs_k hC dX12_weekGoes_171 ?_
      refine zs_al hC dX12_weekGoes_174 rfl ?_
      refine zs_getR 61 hC fl_RX12_7 zL60 rfl dX12_weekGoes_175 ?_
      refine zs_k hC dX12_weekGoes_178 ?_
      refine zs_iald hC zL61 dX12_weekGoes_181 (fun _ hf => ?_) hf
      refine zs_k hC dX12_weekGoes_182 ?_
      refine zs_iadd hC dX12_weekGoes_183 ?_
      refine zs_iast hC zL61 dX12_weekGoes_184 (fun _ hf => ?_) hf
      refine zs_al hC dX12_weekGoes_185 rfl ?_
      refine zs_getR 61 hC fl_RX12_7 zL60 rfl dX12_weekGoes_186 ?_
      refine zs_k hC dX12_weekGoes_189 ?_
      refine zs_al hC dX12_weekGoes_192 rfl ?_
      refine zs_getR 61 hC fl_RX12_7 zL60 rfl dX12_weekGoes_193 ?_
      refine zs_k hC dX12_weekGoes_196 ?_
      refine zs_iald hC zL61 dX12_weekGoes_199 (fun _ hf => ?_) hf
      refine zs_k hC dX12_weekGoes_200 ?_
      refine zs_iadd hC dX12_weekGoes_201 ?_
      refine zs_iast hC zL61 dX12_weekGoes_202 (fun _ hf => ?_) hf
      exact zs_vret hC hret dX12_weekGoes_203 hf
    · refine zs_al hC dX12_weekGoes_103 rfl ?_
      refine zs_il hC dX12_weekGoes_104 rfl ?_
      refine zs_callV [.int v3] hC cw_X12_isTold cl_RX12_100 zL60 rfl (by decide) rfl rfl (Nat.le_of_ble_eq_true rfl) dX12_weekGoes_105 (fun _ h => ctX12_isTold h) (fun r5 m5 _ hf => ?_) hf
      show zAW X 108 _ (.int r5 :: _) m5
      refine zs_if_eq hC dX12_weekGoes_108 (fun _ hf => ?_) (fun _ hf => ?_) hf
      · refine zs_iinc (nI 1) hC dX12_weekGoes_161 (by decide) rfl (by decide) rfl ?_
        refine zs_goto hC dX12_weekGoes_164 ?_
        exact zAW.weak (ih _ _ _ hf) (zLw_s (zLw_n (zLw_s (zLw_s zLw_0))))
      · refine zs_al hC dX12_weekGoes_111 rfl ?_
        refine zs_getR 61 hC fl_RX12_7 zL60 rfl dX12_weekGoes_112 ?_
        refine zs_k hC dX12_weekGoes_115 ?_
        refine zs_il hC dX12_weekGoes_117 rfl ?_
        refine zs_iadd hC dX12_weekGoes_118 ?_
        refine zs_iald hC zL61 dX12_weekGoes_119 (fun _ hf => ?_) hf
        refine zs_if_ne hC dX12_weekGoes_120 (fun _ hf => ?_) (fun _ hf => ?_) hf
        · refine zs_goto hC dX12_weekGoes_123 ?_
          refine zs_iinc (nI 1) hC dX12_weekGoes_161 (by decide) rfl (by decide) rfl ?_
          refine zs_goto hC dX12_weekGoes_164 ?_
          exact zAW.weak (ih _ _ _ hf) (zLw_s (zLw_n (zLw_s (zLw_s zLw_0))))
        · refine zs_al hC dX12_weekGoes_126 rfl ?_
          refine zs_il hC dX12_weekGoes_127 rfl ?_
          refine zs_k hC dX12_weekGoes_128 ?_
          refine zs_callV [.int v3, .int (-1 : Int32)] hC cw_X12_feels cl_RX12_253 zL60 rfl (by decide) rfl rfl (Nat.le_of_ble_eq_true rfl) dX12_weekGoes_129 (fun _ h => ctX12_feels h) (fun r7 m7 _ hf => ?_) hf
          show zAW X 132 _ _ m7
          refine zs_al hC dX12_weekGoes_132 rfl ?_
          refine zs_k hC dX12_weekGoes_133 ?_
          refine zs_callV [.int (nI 114)] hC cw_X12_holdsAnyOrNone cl_RX12_287 zL60 rfl (by decide) rfl rfl (Nat.le_of_ble_eq_true rfl) dX12_weekGoes_135 (fun _ h => ctX12_holdsAnyOrNone h) (fun r8 m8 _ hf => ?_) hf
          show zAW X 138 _ (.int r8 :: _) m8
          refine zs_if_eq hC dX12_weekGoes_138 (fun _ hf => ?_) (fun _ hf => ?_) hf
          · refine zs_iinc (nI 1) hC dX12_weekGoes_161 (by decide) rfl (by decide) rfl ?_
            refine zs_goto hC dX12_weekGoes_164 ?_
            exact zAW.weak (ih _ _ _ hf) (zLw_s (zLw_n (zLw_s (zLw_s zLw_0))))
          · refine zs_al hC dX12_weekGoes_141 rfl ?_
            refine zs_getR 61 hC fl_RX12_7 zL60 rfl dX12_weekGoes_142 ?_
            refine zs_k hC dX12_weekGoes_145 ?_
            refine zs_il hC dX12_weekGoes_147 rfl ?_
            refine zs_iadd hC dX12_weekGoes_148 ?_
            refine zs_al hC dX12_weekGoes_149 rfl ?_
            refine zs_getR 61 hC fl_RX12_7 zL60 rfl dX12_weekGoes_150 ?_
            refine zs_k hC dX12_weekGoes_153 ?_
            refine zs_il hC dX12_weekGoes_155 rfl ?_
            refine zs_iadd hC dX12_weekGoes_156 ?_
            refine zs_iald hC zL61 dX12_weekGoes_157 (fun _ hf => ?_) hf
            refine zs_il hC dX12_weekGoes_158 rfl ?_
            refine zs_ior hC dX12_weekGoes_159 ?_
            refine zs_iast hC zL61 dX12_weekGoes_160 (fun _ hf => ?_) hf
            refine zs_iinc (nI 1) hC dX12_weekGoes_161 (by decide) rfl (by decide) rfl ?_
            refine zs_goto hC dX12_weekGoes_164 ?_
            exact zAW.weak (ih _ _ _ hf) (zLw_s (zLw_n (zLw_s (zLw_s zLw_0))))
set_option maxRecDepth 20000 in
set_option maxHeartbeats 4000000 in
theorem wX12_weekGoes_53 {X : zX} {F : Nat} (hC : zCx X RX12 cX12_weekGoes 4 5) (hret : zRt X none) : ∀ (n : Nat) (v1 : Int32) (v2 : Int32) (v3 : Int32) (μ : zMem), fX12_weekGoes_53 F n v1 v2 v3 μ = some (zOut X) → zAW X 53 [some (.ref 60), some (.int v1), some (.int v2), some (.int v3)] [] μ := by
  intro n
  induction n with
  | zero =>
    intro v1 v2 v3 μ hf
    rw [fX12_weekGoes_53] at hf
    cases hf
  | succ n ih =>
    intro v1 v2 v3 μ hf
    rw [fX12_weekGoes_53] at hf
    refine zs_il hC dX12_weekGoes_53 rfl ?_
    refine zs_al hC dX12_weekGoes_54 rfl ?_
    refine zs_getR 61 hC fl_RX12_7 zL60 rfl dX12_weekGoes_55 ?_
    refine zs_k hC dX12_weekGoes_58 ?_
    refine zs_il hC dX12_weekGoes_60 rfl ?_
    refine zs_iadd hC dX12_weekGoes_61 ?_
    refine zs_iald hC zL61 dX12_weekGoes_62 (fun _ hf => ?_) hf
    refine zs_ic_ge hC dX12_weekGoes_63 (fun _ hf => ?_) (fun _ hf => ?_) hf
    · refine zs_k hC dX12_weekGoes_95 ?_
      refine zs_is hC dX12_weekGoes_96 (by decide) rfl ?_
      exact zAW.weak (wX12_weekGoes_97 hC hret F _ _ _ hf) (zLw_s (zLw_n (zLw_s (zLw_s zLw_0))))
    · refine zs_il hC dX12_weekGoes_66 rfl ?_
      refine zs_k hC dX12_weekGoes_67 ?_
      refine zs_al hC dX12_weekGoes_68 rfl ?_
      refine zs_getR 61 hC fl_RX12_7 zL60 rfl dX12_weekGoes_69 ?_
      refine zs_k hC dX12_weekGoes_72 ?_
      refine zs_k hC dX12_weekGoes_74 ?_
      refine zs_il hC dX12_weekGoes_76 rfl ?_
      refine zs_imul hC dX12_weekGoes_77 ?_
      refine zs_iadd hC dX12_weekGoes_78 ?_
      refine zs_k hC dX12_weekGoes_79 ?_
      refine zs_il hC dX12_weekGoes_80 rfl ?_
      refine zs_imul hC dX12_weekGoes_81 ?_
      refine zs_iadd hC dX12_weekGoes_82 ?_
      refine zs_k hC dX12_weekGoes_83 ?_
      refine zs_iadd hC dX12_weekGoes_84 ?_
      refine zs_iald hC zL61 dX12_weekGoes_85 (fun _ hf => ?_) hf
      refine zs_ishl hC dX12_weekGoes_86 ?_
      refine zs_ior hC dX12_weekGoes_87 ?_
      refine zs_is hC dX12_weekGoes_88 (by decide) rfl ?_
      refine zs_iinc (nI 1) hC dX12_weekGoes_89 (by decide) rfl (by decide) rfl ?_
      refine zs_goto hC dX12_weekGoes_92 ?_
      exact zAW.weak (ih _ _ _ _ hf) (zLw_s (zLw_s (zLw_s (zLw_s zLw_0))))
set_option maxRecDepth 20000 in
set_option maxHeartbeats 4000000 in
theorem wX12_weekGoes_24 {X : zX} {F : Nat} (hC : zCx X RX12 cX12_weekGoes 4 5) (hret : zRt X none) : ∀ (n : Nat) (v1 : Int32) (v2 : Int32) (μ : zMem), fX12_weekGoes_24 F n v1 v2 μ = some (zOut X) → zAW X 24 [some (.ref 60), some (.int v1), some (.int v2), none] [] μ := by
  intro n
  induction n with
  | zero =>
    intro v1 v2 μ hf
    rw [fX12_weekGoes_24] at hf
    cases hf
  | succ n ih =>
    intro v1 v2 μ hf
    rw [fX12_weekGoes_24] at hf
    refine zs_il hC dX12_weekGoes_24 rfl ?_
    refine zs_k hC dX12_weekGoes_25 ?_
    refine zs_ic_ge hC dX12_weekGoes_27 (fun _ hf => ?_) (fun _ hf => ?_) hf
    · refine zs_k hC dX12_weekGoes_49 ?_
      refine zs_is hC dX12_weekGoes_50 (by decide) rfl ?_
      refine zs_k hC dX12_weekGoes_51 ?_
      refine zs_is hC dX12_weekGoes_52 (by decide) rfl ?_
      exact zAW.weak (wX12_weekGoes_53 hC hret F _ _ _ _ hf) (zLw_s (zLw_s (zLw_s (zLw_s zLw_0))))
    · refine zs_al hC dX12_weekGoes_30 rfl ?_
      refine zs_il hC dX12_weekGoes_31 rfl ?_
      refine zs_callV [.int v2] hC cw_X12_isTold cl_RX12_100 zL60 rfl (by decide) rfl rfl (Nat.le_of_ble_eq_true rfl) dX12_weekGoes_32 (fun _ h => ctX12_isTold h) (fun r1 m1 _ hf => ?_) hf
      show zAW X 35 _ (.int r1 :: _) m1
      refine zs_if_eq hC dX12_weekGoes_35 (fun _ hf => ?_) (fun _ hf => ?_) hf
      · refine zs_iinc (nI 1) hC dX12_weekGoes_43 (by decide) rfl (by decide) rfl ?_
        refine zs_goto hC dX12_weekGoes_46 ?_
        exact zAW.weak (ih _ _ _ hf) (zLw_s (zLw_s (zLw_s (zLw_n zLw_0))))
      · refine zs_al hC dX12_weekGoes_38 rfl ?_
        refine zs_il hC dX12_weekGoes_39 rfl ?_
        refine zs_callV [.int v2] hC cw_X12_whispers cl_RX12_284 zL60 rfl (by decide) rfl rfl (Nat.le_of_ble_eq_true rfl) dX12_weekGoes_40 (fun _ h => ctX12_whispers h) (fun r2 m2 _ hf => ?_) hf
        show zAW X 43 _ _ m2
        refine zs_iinc (nI 1) hC dX12_weekGoes_43 (by decide) rfl (by decide) rfl ?_
        refine zs_goto hC dX12_weekGoes_46 ?_
        exact zAW.weak (ih _ _ _ hf) (zLw_s (zLw_s (zLw_s (zLw_n zLw_0))))
set_option maxRecDepth 20000 in
set_option maxHeartbeats 4000000 in
theorem wX12_weekGoes {X : zX} {F : Nat} (hC : zCx X RX12 cX12_weekGoes 4 5) (hret : zRt X none) {μ : zMem} (hf : fX12_weekGoes F μ = some (zOut X)) : zAW X 0 [some (.ref 60), none, none, none] [] μ := by
  unfold fX12_weekGoes at hf
  refine zs_al hC dX12_weekGoes_0 rfl ?_
  refine zs_getR 61 hC fl_RX12_7 zL60 rfl dX12_weekGoes_1 ?_
  refine zs_k hC dX12_weekGoes_4 ?_
  refine zs_iald hC zL61 dX12_weekGoes_7 (fun _ hf => ?_) hf
  refine zs_k hC dX12_weekGoes_8 ?_
  refine zs_irem hC dX12_weekGoes_10 (fun _ hf => ?_) hf
  refine zs_is hC dX12_weekGoes_11 (by decide) rfl ?_
  refine zs_al hC dX12_weekGoes_12 rfl ?_
  refine zs_getR 61 hC fl_RX12_7 zL60 rfl dX12_weekGoes_13 ?_
  refine zs_k hC dX12_weekGoes_16 ?_
  refine zs_il hC dX12_weekGoes_18 rfl ?_
  refine zs_iadd hC dX12_weekGoes_19 ?_
  refine zs_k hC dX12_weekGoes_20 ?_
  refine zs_iast hC zL61 dX12_weekGoes_21 (fun _ hf => ?_) hf
  refine zs_k hC dX12_weekGoes_22 ?_
  refine zs_is hC dX12_weekGoes_23 (by decide) rfl ?_
  exact zAW.weak (wX12_weekGoes_24 hC hret F _ _ _ hf) (zLw_s (zLw_s (zLw_s (zLw_n zLw_0))))
set_option maxRecDepth 20000 in
set_option maxHeartbeats 4000000 in
theorem ctX12_weekGoes {E : zEV} {F : Nat} {μ : zMem} {out : zR} (hf : fX12_weekGoes F μ = some out) : zCt E yX12_weekGoes cX12_weekGoes 4 none 5 [.ref 60] μ out :=
  zCt.of [some (.ref 60), none, none, none] (by decide +kernel) (Nat.le_of_ble_eq_true rfl) (zLw_s (zLw_e (zLw_e (zLw_e zLw_0)))) rfl (fun X hE ho hr hC => by
    subst hE; subst ho
    exact wX12_weekGoes hC hr hf)
/-! X12_weeksGo -/
def fX12_weeksGo_12 (F : Nat) : Nat → Int32 → Int32 → zMem → Option zR
  | 0, _, _, _ => none
  | n + 1, v1, v2, μ => if v1 ≤ v2 then some ((nI 0), μ) else zG (nI 1045) 1047 (if (nI 9999) ≤ (μ 61 (nI 1045).toNatClampNeg) then some ((nI 0), μ) else zBd (fX12_weekGoes F μ) (fun r2 m2 => fX12_weeksGo_12 F n v1 (v2 + (nI 1)) m2))
def fX12_weeksGo (F : Nat) (v1 : Int32) (μ : zMem) : Option zR :=
  fX12_weeksGo_12 F F v1 (nI 0) (zUp (zUp μ 60 34 (nI 0)) 60 35 (nI 0))
set_option maxRecDepth 20000 in
set_option maxHeartbeats 4000000 in
theorem wX12_weeksGo_12 {X : zX} {F : Nat} (hC : zCx X RX12 cX12_weeksGo 3 6) (hret : zRt X none) : ∀ (n : Nat) (v1 : Int32) (v2 : Int32) (μ : zMem), fX12_weeksGo_12 F n v1 v2 μ = some (zOut X) → zAW X 12 [some (.ref 60), some (.int v1), some (.int v2)] [] μ := by
  intro n
  induction n with
  | zero =>
    intro v1 v2 μ hf
    rw [fX12_weeksGo_12] at hf
    cases hf
  | succ n ih =>
    intro v1 v2 μ hf
    rw [fX12_weeksGo_12] at hf
    refine zs_il hC dX12_weeksGo_12 rfl ?_
    refine zs_il hC dX12_weeksGo_13 rfl ?_
    refine zs_ic_ge hC dX12_weeksGo_14 (fun _ hf => ?_) (fun _ hf => ?_) hf
    · exact zs_vret hC hret dX12_weeksGo_41 hf
    · refine zs_al hC dX12_weeksGo_17 rfl ?_
      refine zs_getR 61 hC fl_RX12_7 zL60 rfl dX12_weeksGo_18 ?_
      refine zs_k hC dX12_weeksGo_21 ?_
      refine zs_iald hC zL61 dX12_weeksGo_24 (fun _ hf => ?_) hf
      refine zs_k hC dX12_weeksGo_25 ?_
      refine zs_ic_ge hC dX12_weeksGo_28 (fun _ hf => ?_) (fun _ hf => ?_) hf
      · exact zs_vret hC hret dX12_weeksGo_41 hf
      · refine zs_al hC dX12_weeksGo_31 rfl ?_
        refine zs_callV [] hC cw_X12_weekGoes cl_RX12_290 zL60 rfl (by decide) rfl rfl (Nat.le_of_ble_eq_true rfl) dX12_weeksGo_32 (fun _ h => ctX12_weekGoes h) (fun r2 m2 _ hf => ?_) hf
        show zAW X 35 _ _ m2
        refine zs_iinc (nI 1) hC dX12_weeksGo_35 (by decide) rfl (by decide) rfl ?_
        refine zs_goto hC dX12_weeksGo_38 ?_
        exact zAW.weak (ih _ _ _ hf) (zLw_s (zLw_s (zLw_s zLw_0)))
set_option maxRecDepth 20000 in
set_option maxHeartbeats 4000000 in
theorem wX12_weeksGo {X : zX} {F : Nat} (hC : zCx X RX12 cX12_weeksGo 3 6) (hret : zRt X none) {v1 : Int32} {μ : zMem} (hf : fX12_weeksGo F v1 μ = some (zOut X)) : zAW X 0 [some (.ref 60), some (.int v1), none] [] μ := by
  unfold fX12_weeksGo at hf
  refine zs_al hC dX12_weeksGo_0 rfl ?_
  refine zs_k hC dX12_weeksGo_1 ?_
  refine zs_putI hC fl_RX12_259 fp_12_34 zL60 rfl dX12_weeksGo_2 ?_
  refine zs_al hC dX12_weeksGo_5 rfl ?_
  refine zs_k hC dX12_weeksGo_6 ?_
  refine zs_putI hC fl_RX12_274 fp_12_35 zL60 rfl dX12_weeksGo_7 ?_
  refine zs_k hC dX12_weeksGo_10 ?_
  refine zs_is hC dX12_weeksGo_11 (by decide) rfl ?_
  exact zAW.weak (wX12_weeksGo_12 hC hret F _ _ _ hf) (zLw_s (zLw_s (zLw_s zLw_0)))
set_option maxRecDepth 20000 in
set_option maxHeartbeats 4000000 in
theorem ctX12_weeksGo {E : zEV} {F : Nat} {v1 : Int32} {μ : zMem} {out : zR} (hf : fX12_weeksGo F v1 μ = some out) : zCt E yX12_weeksGo cX12_weeksGo 3 none 6 [.ref 60, .int v1] μ out :=
  zCt.of [some (.ref 60), some (.int v1), none] (by decide +kernel) (Nat.le_of_ble_eq_true rfl) (zLw_s (zLw_s (zLw_e zLw_0))) rfl (fun X hE ho hr hC => by
    subst hE; subst ho
    exact wX12_weeksGo hC hr hf)
/-! X12_weeks -/
def fX12_weeks (F : Nat) (v1 : Int32) (μ : zMem) : Option zR :=
  zBd (fX12_in F v1 (nI 1) (nI 100) μ) (fun r1 m1 => if r1 = 0 then some ((-1 : Int32), m1) else zBd (fX12_weeksGo F v1 m1) (fun r2 m2 => some ((m2 60 34), m2)))
set_option maxRecDepth 20000 in
set_option maxHeartbeats 4000000 in
theorem wX12_weeks {X : zX} {F : Nat} (hC : zCx X RX12 cX12_weeks 2 7) (hret : zRt X (some .int)) {v1 : Int32} {μ : zMem} (hf : fX12_weeks F v1 μ = some (zOut X)) : zAW X 0 [some (.ref 60), some (.int v1)] [] μ := by
  unfold fX12_weeks at hf
  refine zs_il hC dX12_weeks_0 rfl ?_
  refine zs_k hC dX12_weeks_1 ?_
  refine zs_k hC dX12_weeks_2 ?_
  refine zs_callS [.int v1, .int (nI 1), .int (nI 100)] hC cw_X12_in cl_RX12_96 (by decide) rfl rfl (Nat.le_of_ble_eq_true rfl) dX12_weeks_4 (fun _ h => ctX12_in h) (fun r1 m1 _ hf => ?_) hf
  show zAW X 7 _ (.int r1 :: _) m1
  refine zs_if_ne hC dX12_weeks_7 (fun _ hf => ?_) (fun _ hf => ?_) hf
  · refine zs_k hC dX12_weeks_10 ?_
    exact zs_iret hC hret dX12_weeks_11 hf
  · refine zs_al hC dX12_weeks_12 rfl ?_
    refine zs_il hC dX12_weeks_13 rfl ?_
    refine zs_callV [.int v1] hC cw_X12_weeksGo cl_RX12_293 zL60 rfl (by decide) rfl rfl (Nat.le_of_ble_eq_true rfl) dX12_weeks_14 (fun _ h => ctX12_weeksGo h) (fun r2 m2 _ hf => ?_) hf
    show zAW X 17 _ _ m2
    refine zs_al hC dX12_weeks_17 rfl ?_
    refine zs_getI hC fl_RX12_259 zL60 rfl dX12_weeks_18 ?_
    exact zs_iret hC hret dX12_weeks_21 hf
set_option maxRecDepth 20000 in
set_option maxHeartbeats 4000000 in
theorem ctX12_weeks {E : zEV} {F : Nat} {v1 : Int32} {μ : zMem} {out : zR} (hf : fX12_weeks F v1 μ = some out) : zCt E yX12_weeks cX12_weeks 2 (some .int) 7 [.ref 60, .int v1] μ out :=
  zCt.of [some (.ref 60), some (.int v1)] (by decide +kernel) (Nat.le_of_ble_eq_true rfl) (zLw_s (zLw_s zLw_0)) rfl (fun X hE ho hr hC => by
    subst hE; subst ho
    exact wX12_weeks hC hr hf)
/-! X12_knownByAny -/
def fX12_knownByAny_4 (F : Nat) : Nat → Int32 → Int32 → zMem → Option zR
  | 0, _, _, _ => none
  | n + 1, v1, v2, μ => if (nI 16) ≤ v2 then some (v1, μ) else zBd (fX12_isTold F v2 μ) (fun r1 m1 => if r1 = 0 then fX12_knownByAny_4 F n v1 (v2 + (nI 1)) m1 else zG ((nI 16) + v2) 1047 (fX12_knownByAny_4 F n (v1 ||| (m1 61 ((nI 16) + v2).toNatClampNeg)) (v2 + (nI 1)) m1))
def fX12_knownByAny (F : Nat) (μ : zMem) : Option zR :=
  fX12_knownByAny_4 F F (nI 0) (nI 0) μ
set_option maxRecDepth 20000 in
set_option maxHeartbeats 4000000 in
theorem wX12_knownByAny_4 {X : zX} {F : Nat} (hC : zCx X RX12 cX12_knownByAny 3 2) (hret : zRt X (some .int)) : ∀ (n : Nat) (v1 : Int32) (v2 : Int32) (μ : zMem), fX12_knownByAny_4 F n v1 v2 μ = some (zOut X) → zAW X 4 [some (.ref 60), some (.int v1), some (.int v2)] [] μ := by
  intro n
  induction n with
  | zero =>
    intro v1 v2 μ hf
    rw [fX12_knownByAny_4] at hf
    cases hf
  | succ n ih =>
    intro v1 v2 μ hf
    rw [fX12_knownByAny_4] at hf
    refine zs_il hC dX12_knownByAny_4 rfl ?_
    refine zs_k hC dX12_knownByAny_5 ?_
    refine zs_ic_ge hC dX12_knownByAny_7 (fun _ hf => ?_) (fun _ hf => ?_) hf
    · refine zs_il hC dX12_knownByAny_36 rfl ?_
      exact zs_iret hC hret dX12_knownByAny_37 hf
    · refine zs_al hC dX12_knownByAny_10 rfl ?_
      refine zs_il hC dX12_knownByAny_11 rfl ?_
      refine zs_callV [.int v2] hC cw_X12_isTold cl_RX12_100 zL60 rfl (by decide) rfl rfl (Nat.le_of_ble_eq_true rfl) dX12_knownByAny_12 (fun _ h => ctX12_isTold h) (fun r1 m1 _ hf => ?_) hf
      show zAW X 15 _ (.int r1 :: _) m1
      refine zs_if_eq hC dX12_knownByAny_15 (fun _ hf => ?_) (fun _ hf => ?_) hf
      · refine zs_iinc (nI 1) hC dX12_knownByAny_30 (by decide) rfl (by decide) rfl ?_
        refine zs_goto hC dX12_knownByAny_33 ?_
        exact zAW.weak (ih _ _ _ hf) (zLw_s (zLw_s (zLw_s zLw_0)))
      · refine zs_il hC dX12_knownByAny_18 rfl ?_
        refine zs_al hC dX12_knownByAny_19 rfl ?_
        refine zs_getR 61 hC fl_RX12_7 zL60 rfl dX12_knownByAny_20 ?_
        refine zs_k hC dX12_knownByAny_23 ?_
        refine zs_il hC dX12_knownByAny_25 rfl ?_
        refine zs_iadd hC dX12_knownByAny_26 ?_
        refine zs_iald hC zL61 dX12_knownByAny_27 (fun _ hf => ?_) hf
        refine zs_ior hC dX12_knownByAny_28 ?_
        refine zs_is hC dX12_knownByAny_29 (by decide) rfl ?_
        refine zs_iinc (nI 1) hC dX12_knownByAny_30 (by decide) rfl (by decide) rfl ?_
        refine zs_goto hC dX12_knownByAny_33 ?_
        exact zAW.weak (ih _ _ _ hf) (zLw_s (zLw_s (zLw_s zLw_0)))
set_option maxRecDepth 20000 in
set_option maxHeartbeats 4000000 in
theorem wX12_knownByAny {X : zX} {F : Nat} (hC : zCx X RX12 cX12_knownByAny 3 2) (hret : zRt X (some .int)) {μ : zMem} (hf : fX12_knownByAny F μ = some (zOut X)) : zAW X 0 [some (.ref 60), none, none] [] μ := by
  unfold fX12_knownByAny at hf
  refine zs_k hC dX12_knownByAny_0 ?_
  refine zs_is hC dX12_knownByAny_1 (by decide) rfl ?_
  refine zs_k hC dX12_knownByAny_2 ?_
  refine zs_is hC dX12_knownByAny_3 (by decide) rfl ?_
  exact zAW.weak (wX12_knownByAny_4 hC hret F _ _ _ hf) (zLw_s (zLw_s (zLw_s zLw_0)))
set_option maxRecDepth 20000 in
set_option maxHeartbeats 4000000 in
theorem ctX12_knownByAny {E : zEV} {F : Nat} {μ : zMem} {out : zR} (hf : fX12_knownByAny F μ = some out) : zCt E yX12_knownByAny cX12_knownByAny 3 (some .int) 2 [.ref 60] μ out :=
  zCt.of [some (.ref 60), none, none] (by decide +kernel) (Nat.le_of_ble_eq_true rfl) (zLw_s (zLw_e (zLw_e zLw_0))) rfl (fun X hE ho hr hC => by
    subst hE; subst ho
    exact wX12_knownByAny hC hr hf)
/-! X12_knownByAll -/
def fX12_knownByAll_16 (F : Nat) : Nat → Int32 → Int32 → zMem → Option zR
  | 0, _, _, _ => none
  | n + 1, v1, v2, μ => if (nI 16) ≤ v2 then some (v1, μ) else zBd (fX12_isTold F v2 μ) (fun r1 m1 => if r1 = 0 then fX12_knownByAll_16 F n v1 (v2 + (nI 1)) m1 else zG ((nI 16) + v2) 1047 (fX12_knownByAll_16 F n (v1 &&& (m1 61 ((nI 16) + v2).toNatClampNeg)) (v2 + (nI 1)) m1))
def fX12_knownByAll (F : Nat) (μ : zMem) : Option zR :=
  zBd (fX12_toldSet F μ) (fun r1 m1 => if r1 = 0 then fX12_knownByAll_16 F F (nI 0) (nI 0) m1 else fX12_knownByAll_16 F F (nI 65535) (nI 0) m1)
set_option maxRecDepth 20000 in
set_option maxHeartbeats 4000000 in
theorem wX12_knownByAll_16 {X : zX} {F : Nat} (hC : zCx X RX12 cX12_knownByAll 3 3) (hret : zRt X (some .int)) : ∀ (n : Nat) (v1 : Int32) (v2 : Int32) (μ : zMem), fX12_knownByAll_16 F n v1 v2 μ = some (zOut X) → zAW X 16 [some (.ref 60), some (.int v1), some (.int v2)] [] μ := by
  intro n
  induction n with
  | zero =>
    intro v1 v2 μ hf
    rw [fX12_knownByAll_16] at hf
    cases hf
  | succ n ih =>
    intro v1 v2 μ hf
    rw [fX12_knownByAll_16] at hf
    refine zs_il hC dX12_knownByAll_16 rfl ?_
    refine zs_k hC dX12_knownByAll_17 ?_
    refine zs_ic_ge hC dX12_knownByAll_19 (fun _ hf => ?_) (fun _ hf => ?_) hf
    · refine zs_il hC dX12_knownByAll_48 rfl ?_
      exact zs_iret hC hret dX12_knownByAll_49 hf
    · refine zs_al hC dX12_knownByAll_22 rfl ?_
      refine zs_il hC dX12_knownByAll_23 rfl ?_
      refine zs_callV [.int v2] hC cw_X12_isTold cl_RX12_100 zL60 rfl (by decide) rfl rfl (Nat.le_of_ble_eq_true rfl) dX12_knownByAll_24 (fun _ h => ctX12_isTold h) (fun r1 m1 _ hf => ?_) hf
      show zAW X 27 _ (.int r1 :: _) m1
      refine zs_if_eq hC dX12_knownByAll_27 (fun _ hf => ?_) (fun _ hf => ?_) hf
      · refine zs_iinc (nI 1) hC dX12_knownByAll_42 (by decide) rfl (by decide) rfl ?_
        refine zs_goto hC dX12_knownByAll_45 ?_
        exact zAW.weak (ih _ _ _ hf) (zLw_s (zLw_s (zLw_s zLw_0)))
      · refine zs_il hC dX12_knownByAll_30 rfl ?_
        refine zs_al hC dX12_knownByAll_31 rfl ?_
        refine zs_getR 61 hC fl_RX12_7 zL60 rfl dX12_knownByAll_32 ?_
        refine zs_k hC dX12_knownByAll_35 ?_
        refine zs_il hC dX12_knownByAll_37 rfl ?_
        refine zs_iadd hC dX12_knownByAll_38 ?_
        refine zs_iald hC zL61 dX12_knownByAll_39 (fun _ hf => ?_) hf
        refine zs_iand hC dX12_knownByAll_40 ?_
        refine zs_is hC dX12_knownByAll_41 (by decide) rfl ?_
        refine zs_iinc (nI 1) hC dX12_knownByAll_42 (by decide) rfl (by decide) rfl ?_
        refine zs_goto hC dX12_knownByAll_45 ?_
        exact zAW.weak (ih _ _ _ hf) (zLw_s (zLw_s (zLw_s zLw_0)))
set_option maxRecDepth 20000 in
set_option maxHeartbeats 4000000 in
theorem wX12_knownByAll {X : zX} {F : Nat} (hC : zCx X RX12 cX12_knownByAll 3 3) (hret : zRt X (some .int)) {μ : zMem} (hf : fX12_knownByAll F μ = some (zOut X)) : zAW X 0 [some (.ref 60), none, none] [] μ := by
  unfold fX12_knownByAll at hf
  refine zs_al hC dX12_knownByAll_0 rfl ?_
  refine zs_callV [] hC cw_X12_toldSet cl_RX12_296 zL60 rfl (by decide) rfl rfl (Nat.le_of_ble_eq_true rfl) dX12_knownByAll_1 (fun _ h => ctX12_toldSet h) (fun r1 m1 _ hf => ?_) hf
  show zAW X 4 _ (.int r1 :: _) m1
  refine zs_if_ne hC dX12_knownByAll_4 (fun _ hf => ?_) (fun _ hf => ?_) hf
  · refine zs_k hC dX12_knownByAll_7 ?_
    refine zs_goto hC dX12_knownByAll_8 ?_
    refine zs_is hC dX12_knownByAll_13 (by decide) rfl ?_
    refine zs_k hC dX12_knownByAll_14 ?_
    refine zs_is hC dX12_knownByAll_15 (by decide) rfl ?_
    exact zAW.weak (wX12_knownByAll_16 hC hret F _ _ _ hf) (zLw_s (zLw_s (zLw_s zLw_0)))
  · refine zs_ldc hC kc_RX12_104 dX12_knownByAll_11 ?_
    refine zs_is hC dX12_knownByAll_13 (by decide) rfl ?_
    refine zs_k hC dX12_knownByAll_14 ?_
    refine zs_is hC dX12_knownByAll_15 (by decide) rfl ?_
    exact zAW.weak (wX12_knownByAll_16 hC hret F _ _ _ hf) (zLw_s (zLw_s (zLw_s zLw_0)))
set_option maxRecDepth 20000 in
set_option maxHeartbeats 4000000 in
theorem ctX12_knownByAll {E : zEV} {F : Nat} {μ : zMem} {out : zR} (hf : fX12_knownByAll F μ = some out) : zCt E yX12_knownByAll cX12_knownByAll 3 (some .int) 3 [.ref 60] μ out :=
  zCt.of [some (.ref 60), none, none] (by decide +kernel) (Nat.le_of_ble_eq_true rfl) (zLw_s (zLw_e (zLw_e zLw_0))) rfl (fun X hE ho hr hC => by
    subst hE; subst ho
    exact wX12_knownByAll hC hr hf)
/-! X12_tried -/
def fX12_tried_32 (F : Nat) (v1 : Int32) (v2 : Int32) (μ : zMem) : Option zR :=
  zBd (fX12_copies F 61 62 μ) (fun r3 m3 => zBd (fX12_weeksGo F v1 m3) (fun r4 m4 => (if v2 = (nI 0) then zBd (fX12_copies F 62 61 m4) (fun r8 m8 => some ((m4 60 34), m8)) else if v2 = (nI 1) then zBd (fX12_copies F 62 61 m4) (fun r12 m12 => some ((m4 60 35), m12)) else if v2 = (nI 2) then zBd (fX12_knownByAny F m4) (fun r13 m13 => zBd (fX12_copies F 62 61 m13) (fun r16 m16 => some (r13, m16))) else if v2 = (nI 3) then zBd (fX12_knownByAll F m4) (fun r17 m17 => zBd (fX12_copies F 62 61 m17) (fun r20 m20 => some (r17, m20))) else zG (((nI 16) + v2) - (nI 100)) 1047 (zBd (fX12_copies F 62 61 m4) (fun r24 m24 => some ((m4 61 (((nI 16) + v2) - (nI 100)).toNatClampNeg), m24))))))
def fX12_tried (F : Nat) (v1 : Int32) (v2 : Int32) (μ : zMem) : Option zR :=
  zBd (fX12_in F v1 (nI 1) (nI 100) μ) (fun r1 m1 => if r1 = 0 then some ((-1 : Int32), m1) else zBd (fX12_in F v2 (nI 0) (nI 3) m1) (fun r2 m2 => if r2 = 0 then zBd (fX12_isTold F (v2 - (nI 100)) m2) (fun r3 m3 => if r3 = 0 then some ((-1 : Int32), m3) else fX12_tried_32 F v1 v2 m3) else fX12_tried_32 F v1 v2 m2))
set_option maxRecDepth 20000 in
set_option maxHeartbeats 4000000 in
theorem wX12_tried_32 {X : zX} {F : Nat} (hC : zCx X RX12 cX12_tried 4 7) (hret : zRt X (some .int)) {v1 : Int32} {v2 : Int32} {μ : zMem} (hf : fX12_tried_32 F v1 v2 μ = some (zOut X)) : zAW X 32 [some (.ref 60), some (.int v1), some (.int v2), none] [] μ := by
  unfold fX12_tried_32 at hf
  refine zs_al hC dX12_tried_32 rfl ?_
  refine zs_getR 61 hC fl_RX12_7 zL60 rfl dX12_tried_33 ?_
  refine zs_al hC dX12_tried_36 rfl ?_
  refine zs_getR 62 hC fl_RX12_13 zL60 rfl dX12_tried_37 ?_
  refine zs_callS [.ref 61, .ref 62] hC cw_X12_copies cl_RX12_237 (by decide) rfl rfl (Nat.le_of_ble_eq_true rfl) dX12_tried_40 (fun _ h => ctX12_copies (by decide) (by decide) h) (fun r3 m3 _ hf => ?_) hf
  show zAW X 43 _ _ m3
  refine zs_al hC dX12_tried_43 rfl ?_
  refine zs_il hC dX12_tried_44 rfl ?_
  refine zs_callV [.int v1] hC cw_X12_weeksGo cl_RX12_293 zL60 rfl (by decide) rfl rfl (Nat.le_of_ble_eq_true rfl) dX12_tried_45 (fun _ h => ctX12_weeksGo h) (fun r4 m4 _ hf => ?_) hf
  show zAW X 48 _ _ m4
  refine zs_il hC dX12_tried_48 rfl ?_
  refine zs_case (nI 0) (fun hx hf => ?_) (fun e49_0 hf => ?_) hf
  · refine zs_tabI (off := 31) (tgt := 80) hC hx dX12_tried_49 (by decide) (by decide) rfl (by decide) ?_
    refine zs_al hC dX12_tried_80 rfl ?_
    refine zs_getI hC fl_RX12_259 zL60 rfl dX12_tried_81 ?_
    refine zs_is hC dX12_tried_84 (by decide) rfl ?_
    refine zs_goto hC dX12_tried_85 ?_
    refine zs_al hC dX12_tried_125 rfl ?_
    refine zs_getR 62 hC fl_RX12_13 zL60 rfl dX12_tried_126 ?_
    refine zs_al hC dX12_tried_129 rfl ?_
    refine zs_getR 61 hC fl_RX12_7 zL60 rfl dX12_tried_130 ?_
    refine zs_callS [.ref 62, .ref 61] hC cw_X12_copies cl_RX12_237 (by decide) rfl rfl (Nat.le_of_ble_eq_true rfl) dX12_tried_133 (fun _ h => ctX12_copies (by decide) (by decide) h) (fun r8 m8 _ hf => ?_) hf
    show zAW X 136 _ _ m8
    refine zs_il hC dX12_tried_136 rfl ?_
    exact zs_iret hC hret dX12_tried_137 hf
  refine zs_case (nI 1) (fun hx hf => ?_) (fun e49_1 hf => ?_) hf
  · refine zs_tabI (off := 39) (tgt := 88) hC hx dX12_tried_49 (by decide) (by decide) rfl (by decide) ?_
    refine zs_al hC dX12_tried_88 rfl ?_
    refine zs_getI hC fl_RX12_274 zL60 rfl dX12_tried_89 ?_
    refine zs_is hC dX12_tried_92 (by decide) rfl ?_
    refine zs_goto hC dX12_tried_93 ?_
    refine zs_al hC dX12_tried_125 rfl ?_
    refine zs_getR 62 hC fl_RX12_13 zL60 rfl dX12_tried_126 ?_
    refine zs_al hC dX12_tried_129 rfl ?_
    refine zs_getR 61 hC fl_RX12_7 zL60 rfl dX12_tried_130 ?_
    refine zs_callS [.ref 62, .ref 61] hC cw_X12_copies cl_RX12_237 (by decide) rfl rfl (Nat.le_of_ble_eq_true rfl) dX12_tried_133 (fun _ h => ctX12_copies (by decide) (by decide) h) (fun r12 m12 _ hf => ?_) hf
    show zAW X 136 _ _ m12
    refine zs_il hC dX12_tried_136 rfl ?_
    exact zs_iret hC hret dX12_tried_137 hf
  refine zs_case (nI 2) (fun hx hf => ?_) (fun e49_2 hf => ?_) hf
  · refine zs_tabI (off := 47) (tgt := 96) hC hx dX12_tried_49 (by decide) (by decide) rfl (by decide) ?_
    refine zs_al hC dX12_tried_96 rfl ?_
    refine zs_callV [] hC cw_X12_knownByAny cl_RX12_299 zL60 rfl (by decide) rfl rfl (Nat.le_of_ble_eq_true rfl) dX12_tried_97 (fun _ h => ctX12_knownByAny h) (fun r13 m13 _ hf => ?_) hf
    show zAW X 100 _ (.int r13 :: _) m13
    refine zs_is hC dX12_tried_100 (by decide) rfl ?_
    refine zs_goto hC dX12_tried_101 ?_
    refine zs_al hC dX12_tried_125 rfl ?_
    refine zs_getR 62 hC fl_RX12_13 zL60 rfl dX12_tried_126 ?_
    refine zs_al hC dX12_tried_129 rfl ?_
    refine zs_getR 61 hC fl_RX12_7 zL60 rfl dX12_tried_130 ?_
    refine zs_callS [.ref 62, .ref 61] hC cw_X12_copies cl_RX12_237 (by decide) rfl rfl (Nat.le_of_ble_eq_true rfl) dX12_tried_133 (fun _ h => ctX12_copies (by decide) (by decide) h) (fun r16 m16 _ hf => ?_) hf
    show zAW X 136 _ _ m16
    refine zs_il hC dX12_tried_136 rfl ?_
    exact zs_iret hC hret dX12_tried_137 hf
  refine zs_case (nI 3) (fun hx hf => ?_) (fun e49_3 hf => ?_) hf
  · refine zs_tabI (off := 55) (tgt := 104) hC hx dX12_tried_49 (by decide) (by decide) rfl (by decide) ?_
    refine zs_al hC dX12_tried_104 rfl ?_
    refine zs_callV [] hC cw_X12_knownByAll cl_RX12_302 zL60 rfl (by decide) rfl rfl (Nat.le_of_ble_eq_true rfl) dX12_tried_105 (fun _ h => ctX12_knownByAll h) (fun r17 m17 _ hf => ?_) hf
    show zAW X 108 _ (.int r17 :: _) m17
    refine zs_is hC dX12_tried_108 (by decide) rfl ?_
    refine zs_goto hC dX12_tried_109 ?_
    refine zs_al hC dX12_tried_125 rfl ?_
    refine zs_getR 62 hC fl_RX12_13 zL60 rfl dX12_tried_126 ?_
    refine zs_al hC dX12_tried_129 rfl ?_
    refine zs_getR 61 hC fl_RX12_7 zL60 rfl dX12_tried_130 ?_
    refine zs_callS [.ref 62, .ref 61] hC cw_X12_copies cl_RX12_237 (by decide) rfl rfl (Nat.le_of_ble_eq_true rfl) dX12_tried_133 (fun _ h => ctX12_copies (by decide) (by decide) h) (fun r20 m20 _ hf => ?_) hf
    show zAW X 136 _ _ m20
    refine zs_il hC dX12_tried_136 rfl ?_
    exact zs_iret hC hret dX12_tried_137 hf
  have e49_0 := lv_neT (a := 0) e49_0 (by decide)
  have e49_1 := lv_neT (a := 1) e49_1 (by decide)
  have e49_2 := lv_neT (a := 2) e49_2 (by decide)
  have e49_3 := lv_neT (a := 3) e49_3 (by decide)
  refine zs_tabO (tgt := 112) hC dX12_tried_49 (by omega) (by decide) ?_
  refine zs_al hC dX12_tried_112 rfl ?_
  refine zs_getR 61 hC fl_RX12_7 zL60 rfl dX12_tried_113 ?_
  refine zs_k hC dX12_tried_116 ?_
  refine zs_il hC dX12_tried_118 rfl ?_
  refine zs_iadd hC dX12_tried_119 ?_
  refine zs_k hC dX12_tried_120 ?_
  refine zs_isub hC dX12_tried_122 ?_
  refine zs_iald hC zL61 dX12_tried_123 (fun _ hf => ?_) hf
  refine zs_is hC dX12_tried_124 (by decide) rfl ?_
  refine zs_al hC dX12_tried_125 rfl ?_
  refine zs_getR 62 hC fl_RX12_13 zL60 rfl dX12_tried_126 ?_
  refine zs_al hC dX12_tried_129 rfl ?_
  refine zs_getR 61 hC fl_RX12_7 zL60 rfl dX12_tried_130 ?_
  refine zs_callS [.ref 62, .ref 61] hC cw_X12_copies cl_RX12_237 (by decide) rfl rfl (Nat.le_of_ble_eq_true rfl) dX12_tried_133 (fun _ h => ctX12_copies (by decide) (by decide) h) (fun r24 m24 _ hf => ?_) hf
  show zAW X 136 _ _ m24
  refine zs_il hC dX12_tried_136 rfl ?_
  exact zs_iret hC hret dX12_tried_137 hf
set_option maxRecDepth 20000 in
set_option maxHeartbeats 4000000 in
theorem wX12_tried {X : zX} {F : Nat} (hC : zCx X RX12 cX12_tried 4 7) (hret : zRt X (some .int)) {v1 : Int32} {v2 : Int32} {μ : zMem} (hf : fX12_tried F v1 v2 μ = some (zOut X)) : zAW X 0 [some (.ref 60), some (.int v1), some (.int v2), none] [] μ := by
  unfold fX12_tried at hf
  refine zs_il hC dX12_tried_0 rfl ?_
  refine zs_k hC dX12_tried_1 ?_
  refine zs_k hC dX12_tried_2 ?_
  refine zs_callS [.int v1, .int (nI 1), .int (nI 100)] hC cw_X12_in cl_RX12_96 (by decide) rfl rfl (Nat.le_of_ble_eq_true rfl) dX12_tried_4 (fun _ h => ctX12_in h) (fun r1 m1 _ hf => ?_) hf
  show zAW X 7 _ (.int r1 :: _) m1
  refine zs_if_eq hC dX12_tried_7 (fun _ hf => ?_) (fun _ hf => ?_) hf
  · refine zs_k hC dX12_tried_30 ?_
    exact zs_iret hC hret dX12_tried_31 hf
  · refine zs_il hC dX12_tried_10 rfl ?_
    refine zs_k hC dX12_tried_11 ?_
    refine zs_k hC dX12_tried_12 ?_
    refine zs_callS [.int v2, .int (nI 0), .int (nI 3)] hC cw_X12_in cl_RX12_96 (by decide) rfl rfl (Nat.le_of_ble_eq_true rfl) dX12_tried_13 (fun _ h => ctX12_in h) (fun r2 m2 _ hf => ?_) hf
    show zAW X 16 _ (.int r2 :: _) m2
    refine zs_if_ne hC dX12_tried_16 (fun _ hf => ?_) (fun _ hf => ?_) hf
    · refine zs_al hC dX12_tried_19 rfl ?_
      refine zs_il hC dX12_tried_20 rfl ?_
      refine zs_k hC dX12_tried_21 ?_
      refine zs_isub hC dX12_tried_23 ?_
      refine zs_callV [.int (v2 - (nI 100))] hC cw_X12_isTold cl_RX12_100 zL60 rfl (by decide) rfl rfl (Nat.le_of_ble_eq_true rfl) dX12_tried_24 (fun _ h => ctX12_isTold h) (fun r3 m3 _ hf => ?_) hf
      show zAW X 27 _ (.int r3 :: _) m3
      refine zs_if_ne hC dX12_tried_27 (fun _ hf => ?_) (fun _ hf => ?_) hf
      · refine zs_k hC dX12_tried_30 ?_
        exact zs_iret hC hret dX12_tried_31 hf
      · exact zAW.weak (wX12_tried_32 hC hret hf) (zLw_s (zLw_s (zLw_s (zLw_n zLw_0))))
    · exact zAW.weak (wX12_tried_32 hC hret hf) (zLw_s (zLw_s (zLw_s (zLw_n zLw_0))))
set_option maxRecDepth 20000 in
set_option maxHeartbeats 4000000 in
theorem ctX12_tried {E : zEV} {F : Nat} {v1 : Int32} {v2 : Int32} {μ : zMem} {out : zR} (hf : fX12_tried F v1 v2 μ = some out) : zCt E yX12_tried cX12_tried 4 (some .int) 7 [.ref 60, .int v1, .int v2] μ out :=
  zCt.of [some (.ref 60), some (.int v1), some (.int v2), none] (by decide +kernel) (Nat.le_of_ble_eq_true rfl) (zLw_s (zLw_s (zLw_s (zLw_e zLw_0)))) rfl (fun X hE ho hr hC => by
    subst hE; subst ho
    exact wX12_tried hC hr hf)
/-! X12_personIs -/
def fX12_personIs (F : Nat) (v1 : Int32) (v2 : Int32) (μ : zMem) : Option zR :=
  zBd (fX12_isTold F v1 μ) (fun r1 m1 => if r1 = 0 then some ((-1 : Int32), m1) else (if v2 = (nI 0) then zG ((nI 16) + v1) 1047 (some ((m1 61 ((nI 16) + v1).toNatClampNeg), m1)) else if v2 = (nI 1) then zG ((nI 16) + v1) 1047 (zBd (fX12_bits F (m1 61 ((nI 16) + v1).toNatClampNeg) m1) (fun r4 m4 => some (r4, m4))) else if v2 = (nI 2) then zG ((nI 32) + v1) 1047 (some ((m1 61 ((nI 32) + v1).toNatClampNeg), m1)) else if v2 = (nI 3) then zG ((nI 48) + v1) 1047 (some ((m1 61 ((nI 48) + v1).toNatClampNeg), m1)) else some ((-1 : Int32), m1)))
set_option maxRecDepth 20000 in
set_option maxHeartbeats 4000000 in
theorem wX12_personIs {X : zX} {F : Nat} (hC : zCx X RX12 cX12_personIs 3 2) (hret : zRt X (some .int)) {v1 : Int32} {v2 : Int32} {μ : zMem} (hf : fX12_personIs F v1 v2 μ = some (zOut X)) : zAW X 0 [some (.ref 60), some (.int v1), some (.int v2)] [] μ := by
  unfold fX12_personIs at hf
  refine zs_al hC dX12_personIs_0 rfl ?_
  refine zs_il hC dX12_personIs_1 rfl ?_
  refine zs_callV [.int v1] hC cw_X12_isTold cl_RX12_100 zL60 rfl (by decide) rfl rfl (Nat.le_of_ble_eq_true rfl) dX12_personIs_2 (fun _ h => ctX12_isTold h) (fun r1 m1 _ hf => ?_) hf
  show zAW X 5 _ (.int r1 :: _) m1
  refine zs_if_ne hC dX12_personIs_5 (fun _ hf => ?_) (fun _ hf => ?_) hf
  · refine zs_k hC dX12_personIs_8 ?_
    exact zs_iret hC hret dX12_personIs_9 hf
  · refine zs_il hC dX12_personIs_10 rfl ?_
    refine zs_case (nI 0) (fun hx hf => ?_) (fun e11_0 hf => ?_) hf
    · refine zs_tabI (off := 29) (tgt := 40) hC hx dX12_personIs_11 (by decide) (by decide) rfl (by decide) ?_
      refine zs_al hC dX12_personIs_40 rfl ?_
      refine zs_getR 61 hC fl_RX12_7 zL60 rfl dX12_personIs_41 ?_
      refine zs_k hC dX12_personIs_44 ?_
      refine zs_il hC dX12_personIs_46 rfl ?_
      refine zs_iadd hC dX12_personIs_47 ?_
      refine zs_iald hC zL61 dX12_personIs_48 (fun _ hf => ?_) hf
      exact zs_iret hC hret dX12_personIs_49 hf
    refine zs_case (nI 1) (fun hx hf => ?_) (fun e11_1 hf => ?_) hf
    · refine zs_tabI (off := 39) (tgt := 50) hC hx dX12_personIs_11 (by decide) (by decide) rfl (by decide) ?_
      refine zs_al hC dX12_personIs_50 rfl ?_
      refine zs_getR 61 hC fl_RX12_7 zL60 rfl dX12_personIs_51 ?_
      refine zs_k hC dX12_personIs_54 ?_
      refine zs_il hC dX12_personIs_56 rfl ?_
      refine zs_iadd hC dX12_personIs_57 ?_
      refine zs_iald hC zL61 dX12_personIs_58 (fun _ hf => ?_) hf
      refine zs_callS [.int (m1 61 ((nI 16) + v1).toNatClampNeg)] hC cw_X12_bits cl_RX12_218 (by decide) rfl rfl (Nat.le_of_ble_eq_true rfl) dX12_personIs_59 (fun _ h => ctX12_bits h) (fun r4 m4 _ hf => ?_) hf
      show zAW X 62 _ (.int r4 :: _) m4
      exact zs_iret hC hret dX12_personIs_62 hf
    refine zs_case (nI 2) (fun hx hf => ?_) (fun e11_2 hf => ?_) hf
    · refine zs_tabI (off := 52) (tgt := 63) hC hx dX12_personIs_11 (by decide) (by decide) rfl (by decide) ?_
      refine zs_al hC dX12_personIs_63 rfl ?_
      refine zs_getR 61 hC fl_RX12_7 zL60 rfl dX12_personIs_64 ?_
      refine zs_k hC dX12_personIs_67 ?_
      refine zs_il hC dX12_personIs_69 rfl ?_
      refine zs_iadd hC dX12_personIs_70 ?_
      refine zs_iald hC zL61 dX12_personIs_71 (fun _ hf => ?_) hf
      exact zs_iret hC hret dX12_personIs_72 hf
    refine zs_case (nI 3) (fun hx hf => ?_) (fun e11_3 hf => ?_) hf
    · refine zs_tabI (off := 62) (tgt := 73) hC hx dX12_personIs_11 (by decide) (by decide) rfl (by decide) ?_
      refine zs_al hC dX12_personIs_73 rfl ?_
      refine zs_getR 61 hC fl_RX12_7 zL60 rfl dX12_personIs_74 ?_
      refine zs_k hC dX12_personIs_77 ?_
      refine zs_il hC dX12_personIs_79 rfl ?_
      refine zs_iadd hC dX12_personIs_80 ?_
      refine zs_iald hC zL61 dX12_personIs_81 (fun _ hf => ?_) hf
      exact zs_iret hC hret dX12_personIs_82 hf
    have e11_0 := lv_neT (a := 0) e11_0 (by decide)
    have e11_1 := lv_neT (a := 1) e11_1 (by decide)
    have e11_2 := lv_neT (a := 2) e11_2 (by decide)
    have e11_3 := lv_neT (a := 3) e11_3 (by decide)
    refine zs_tabO (tgt := 83) hC dX12_personIs_11 (by omega) (by decide) ?_
    refine zs_k hC dX12_personIs_83 ?_
    exact zs_iret hC hret dX12_personIs_84 hf
set_option maxRecDepth 20000 in
set_option maxHeartbeats 4000000 in
theorem ctX12_personIs {E : zEV} {F : Nat} {v1 : Int32} {v2 : Int32} {μ : zMem} {out : zR} (hf : fX12_personIs F v1 v2 μ = some out) : zCt E yX12_personIs cX12_personIs 3 (some .int) 2 [.ref 60, .int v1, .int v2] μ out :=
  zCt.of [some (.ref 60), some (.int v1), some (.int v2)] (by decide +kernel) (Nat.le_of_ble_eq_true rfl) (zLw_s (zLw_s (zLw_s zLw_0))) rfl (fun X hE ho hr hC => by
    subst hE; subst ho
    exact wX12_personIs hC hr hf)
/-! X12_allKnow -/
def fX12_allKnow_76 (F : Nat) (v1 : Int32) (v3 : Int32) (μ : zMem) : Option zR :=
  zBd (fX12_knownByAll F μ) (fun r1 m1 => zBd (fX12_has F r1 v1 m1) (fun r2 m2 => zBd (fX12_copies F 62 61 m2) (fun r5 m5 => if r2 = 0 then some ((-2 : Int32), m5) else some (v3, m5))))
def fX12_allKnow_35 (F : Nat) : Nat → Int32 → Int32 → Int32 → zMem → Option zR
  | 0, _, _, _, _ => none
  | n + 1, v1, v2, v3, μ => zBd (fX12_knownByAll F μ) (fun r1 m1 => zBd (fX12_has F r1 v1 m1) (fun r2 m2 => if r2 = 0 then if v2 ≤ v3 then fX12_allKnow_76 F v1 v3 m2 else zG (nI 1045) 1047 (if (nI 9999) ≤ (m2 61 (nI 1045).toNatClampNeg) then fX12_allKnow_76 F v1 v3 m2 else zBd (fX12_weekGoes F m2) (fun r4 m4 => fX12_allKnow_35 F n v1 v2 (v3 + (nI 1)) m4)) else fX12_allKnow_76 F v1 v3 m2))
def fX12_allKnow (F : Nat) (v1 : Int32) (v2 : Int32) (μ : zMem) : Option zR :=
  zBd (fX12_in F v1 (nI 0) (nI 15) μ) (fun r1 m1 => if r1 = 0 then some ((-1 : Int32), m1) else zBd (fX12_in F v2 (nI 1) (nI 100) m1) (fun r2 m2 => if r2 = 0 then some ((-1 : Int32), m2) else zBd (fX12_copies F 61 62 m2) (fun r5 m5 => fX12_allKnow_35 F F v1 v2 (nI 0) m5)))
set_option maxRecDepth 20000 in
set_option maxHeartbeats 4000000 in
theorem wX12_allKnow_76 {X : zX} {F : Nat} (hC : zCx X RX12 cX12_allKnow 5 6) (hret : zRt X (some .int)) {v1 : Int32} {v3 : Int32} {μ : zMem} (hf : fX12_allKnow_76 F v1 v3 μ = some (zOut X)) : zAW X 76 [some (.ref 60), some (.int v1), none, some (.int v3), none] [] μ := by
  unfold fX12_allKnow_76 at hf
  refine zs_al hC dX12_allKnow_76 rfl ?_
  refine zs_callV [] hC cw_X12_knownByAll cl_RX12_302 zL60 rfl (by decide) rfl rfl (Nat.le_of_ble_eq_true rfl) dX12_allKnow_77 (fun _ h => ctX12_knownByAll h) (fun r1 m1 _ hf => ?_) hf
  show zAW X 80 _ (.int r1 :: _) m1
  refine zs_il hC dX12_allKnow_80 rfl ?_
  refine zs_callS [.int r1, .int v1] hC cw_X12_has cl_RX12_268 (by decide) rfl rfl (Nat.le_of_ble_eq_true rfl) dX12_allKnow_81 (fun _ h => ctX12_has h) (fun r2 m2 _ hf => ?_) hf
  show zAW X 84 _ (.int r2 :: _) m2
  refine zs_is hC dX12_allKnow_84 (by decide) rfl ?_
  refine zs_al hC dX12_allKnow_86 rfl ?_
  refine zs_getR 62 hC fl_RX12_13 zL60 rfl dX12_allKnow_87 ?_
  refine zs_al hC dX12_allKnow_90 rfl ?_
  refine zs_getR 61 hC fl_RX12_7 zL60 rfl dX12_allKnow_91 ?_
  refine zs_callS [.ref 62, .ref 61] hC cw_X12_copies cl_RX12_237 (by decide) rfl rfl (Nat.le_of_ble_eq_true rfl) dX12_allKnow_94 (fun _ h => ctX12_copies (by decide) (by decide) h) (fun r5 m5 _ hf => ?_) hf
  show zAW X 97 _ _ m5
  refine zs_il hC dX12_allKnow_97 rfl ?_
  refine zs_if_eq hC dX12_allKnow_99 (fun _ hf => ?_) (fun _ hf => ?_) hf
  · refine zs_k hC dX12_allKnow_106 ?_
    exact zs_iret hC hret dX12_allKnow_108 hf
  · refine zs_il hC dX12_allKnow_102 rfl ?_
    refine zs_goto hC dX12_allKnow_103 ?_
    exact zs_iret hC hret dX12_allKnow_108 hf
set_option maxRecDepth 20000 in
set_option maxHeartbeats 4000000 in
theorem wX12_allKnow_35 {X : zX} {F : Nat} (hC : zCx X RX12 cX12_allKnow 5 6) (hret : zRt X (some .int)) : ∀ (n : Nat) (v1 : Int32) (v2 : Int32) (v3 : Int32) (μ : zMem), fX12_allKnow_35 F n v1 v2 v3 μ = some (zOut X) → zAW X 35 [some (.ref 60), some (.int v1), some (.int v2), some (.int v3), none] [] μ := by
  intro n
  induction n with
  | zero =>
    intro v1 v2 v3 μ hf
    rw [fX12_allKnow_35] at hf
    cases hf
  | succ n ih =>
    intro v1 v2 v3 μ hf
    rw [fX12_allKnow_35] at hf
    refine zs_al hC dX12_allKnow_35 rfl ?_
    refine zs_callV [] hC cw_X12_knownByAll cl_RX12_302 zL60 rfl (by decide) rfl rfl (Nat.le_of_ble_eq_true rfl) dX12_allKnow_36 (fun _ h => ctX12_knownByAll h) (fun r1 m1 _ hf => ?_) hf
    show zAW X 39 _ (.int r1 :: _) m1
    refine zs_il hC dX12_allKnow_39 rfl ?_
    refine zs_callS [.int r1, .int v1] hC cw_X12_has cl_RX12_268 (by decide) rfl rfl (Nat.le_of_ble_eq_true rfl) dX12_allKnow_40 (fun _ h => ctX12_has h) (fun r2 m2 _ hf => ?_) hf
    show zAW X 43 _ (.int r2 :: _) m2
    refine zs_if_ne hC dX12_allKnow_43 (fun _ hf => ?_) (fun _ hf => ?_) hf
    · refine zs_il hC dX12_allKnow_46 rfl ?_
      refine zs_il hC dX12_allKnow_47 rfl ?_
      refine zs_ic_ge hC dX12_allKnow_48 (fun _ hf => ?_) (fun _ hf => ?_) hf
      · exact zAW.weak (wX12_allKnow_76 hC hret hf) (zLw_s (zLw_s (zLw_n (zLw_s (zLw_n zLw_0)))))
      · refine zs_al hC dX12_allKnow_51 rfl ?_
        refine zs_getR 61 hC fl_RX12_7 zL60 rfl dX12_allKnow_52 ?_
        refine zs_k hC dX12_allKnow_55 ?_
        refine zs_iald hC zL61 dX12_allKnow_58 (fun _ hf => ?_) hf
        refine zs_k hC dX12_allKnow_59 ?_
        refine zs_ic_ge hC dX12_allKnow_62 (fun _ hf => ?_) (fun _ hf => ?_) hf
        · exact zAW.weak (wX12_allKnow_76 hC hret hf) (zLw_s (zLw_s (zLw_n (zLw_s (zLw_n zLw_0)))))
        · refine zs_al hC dX12_allKnow_65 rfl ?_
          refine zs_callV [] hC cw_X12_weekGoes cl_RX12_290 zL60 rfl (by decide) rfl rfl (Nat.le_of_ble_eq_true rfl) dX12_allKnow_66 (fun _ h => ctX12_weekGoes h) (fun r4 m4 _ hf => ?_) hf
          show zAW X 69 _ _ m4
          refine zs_il hC dX12_allKnow_69 rfl ?_
          refine zs_k hC dX12_allKnow_70 ?_
          refine zs_iadd hC dX12_allKnow_71 ?_
          refine zs_is hC dX12_allKnow_72 (by decide) rfl ?_
          refine zs_goto hC dX12_allKnow_73 ?_
          exact zAW.weak (ih _ _ _ _ hf) (zLw_s (zLw_s (zLw_s (zLw_s (zLw_n zLw_0)))))
    · exact zAW.weak (wX12_allKnow_76 hC hret hf) (zLw_s (zLw_s (zLw_n (zLw_s (zLw_n zLw_0)))))
set_option maxRecDepth 20000 in
set_option maxHeartbeats 4000000 in
theorem wX12_allKnow {X : zX} {F : Nat} (hC : zCx X RX12 cX12_allKnow 5 6) (hret : zRt X (some .int)) {v1 : Int32} {v2 : Int32} {μ : zMem} (hf : fX12_allKnow F v1 v2 μ = some (zOut X)) : zAW X 0 [some (.ref 60), some (.int v1), some (.int v2), none, none] [] μ := by
  unfold fX12_allKnow at hf
  refine zs_il hC dX12_allKnow_0 rfl ?_
  refine zs_k hC dX12_allKnow_1 ?_
  refine zs_k hC dX12_allKnow_2 ?_
  refine zs_callS [.int v1, .int (nI 0), .int (nI 15)] hC cw_X12_in cl_RX12_96 (by decide) rfl rfl (Nat.le_of_ble_eq_true rfl) dX12_allKnow_4 (fun _ h => ctX12_in h) (fun r1 m1 _ hf => ?_) hf
  show zAW X 7 _ (.int r1 :: _) m1
  refine zs_if_eq hC dX12_allKnow_7 (fun _ hf => ?_) (fun _ hf => ?_) hf
  · refine zs_k hC dX12_allKnow_20 ?_
    exact zs_iret hC hret dX12_allKnow_21 hf
  · refine zs_il hC dX12_allKnow_10 rfl ?_
    refine zs_k hC dX12_allKnow_11 ?_
    refine zs_k hC dX12_allKnow_12 ?_
    refine zs_callS [.int v2, .int (nI 1), .int (nI 100)] hC cw_X12_in cl_RX12_96 (by decide) rfl rfl (Nat.le_of_ble_eq_true rfl) dX12_allKnow_14 (fun _ h => ctX12_in h) (fun r2 m2 _ hf => ?_) hf
    show zAW X 17 _ (.int r2 :: _) m2
    refine zs_if_ne hC dX12_allKnow_17 (fun _ hf => ?_) (fun _ hf => ?_) hf
    · refine zs_k hC dX12_allKnow_20 ?_
      exact zs_iret hC hret dX12_allKnow_21 hf
    · refine zs_al hC dX12_allKnow_22 rfl ?_
      refine zs_getR 61 hC fl_RX12_7 zL60 rfl dX12_allKnow_23 ?_
      refine zs_al hC dX12_allKnow_26 rfl ?_
      refine zs_getR 62 hC fl_RX12_13 zL60 rfl dX12_allKnow_27 ?_
      refine zs_callS [.ref 61, .ref 62] hC cw_X12_copies cl_RX12_237 (by decide) rfl rfl (Nat.le_of_ble_eq_true rfl) dX12_allKnow_30 (fun _ h => ctX12_copies (by decide) (by decide) h) (fun r5 m5 _ hf => ?_) hf
      show zAW X 33 _ _ m5
      refine zs_k hC dX12_allKnow_33 ?_
      refine zs_is hC dX12_allKnow_34 (by decide) rfl ?_
      exact zAW.weak (wX12_allKnow_35 hC hret F _ _ _ _ hf) (zLw_s (zLw_s (zLw_s (zLw_s (zLw_n zLw_0)))))
set_option maxRecDepth 20000 in
set_option maxHeartbeats 4000000 in
theorem ctX12_allKnow {E : zEV} {F : Nat} {v1 : Int32} {v2 : Int32} {μ : zMem} {out : zR} (hf : fX12_allKnow F v1 v2 μ = some out) : zCt E yX12_allKnow cX12_allKnow 5 (some .int) 6 [.ref 60, .int v1, .int v2] μ out :=
  zCt.of [some (.ref 60), some (.int v1), some (.int v2), none, none] (by decide +kernel) (Nat.le_of_ble_eq_true rfl) (zLw_s (zLw_s (zLw_s (zLw_e (zLw_e zLw_0))))) rfl (fun X hE ho hr hC => by
    subst hE; subst ho
    exact wX12_allKnow hC hr hf)
/-! X12_silent -/
def fX12_silent_30 (F : Nat) : Nat → Int32 → Int32 → Int32 → Int32 → zMem → Option zR
  | 0, _, _, _, _, _ => none
  | n + 1, v1, v2, v3, v4, μ => if v1 ≤ v4 then zBd (fX12_copies F 62 61 μ) (fun r3 m3 => some (v3, m3)) else zG (nI 1045) 1047 (if (nI 9999) ≤ (μ 61 (nI 1045).toNatClampNeg) then zBd (fX12_copies F 62 61 μ) (fun r7 m7 => some (v3, m7)) else zBd (fX12_weekGoes F (zUp μ 60 34 (nI 0))) (fun r8 m8 => if (m8 60 34) ≤ 0 then zBd (fX12_max F v3 (v2 + (nI 1)) m8) (fun r10 m10 => fX12_silent_30 F n v1 (v2 + (nI 1)) r10 (v4 + (nI 1)) m10) else zBd (fX12_max F v3 (nI 0) m8) (fun r11 m11 => fX12_silent_30 F n v1 (nI 0) r11 (v4 + (nI 1)) m11)))
def fX12_silent (F : Nat) (v1 : Int32) (μ : zMem) : Option zR :=
  zBd (fX12_in F v1 (nI 1) (nI 100) μ) (fun r1 m1 => if r1 = 0 then some ((-1 : Int32), m1) else zBd (fX12_copies F 61 62 m1) (fun r4 m4 => fX12_silent_30 F F v1 (nI 0) (nI 0) (nI 0) m4))
set_option maxRecDepth 20000 in
set_option maxHeartbeats 4000000 in
theorem wX12_silent_30 {X : zX} {F : Nat} (hC : zCx X RX12 cX12_silent 5 6) (hret : zRt X (some .int)) : ∀ (n : Nat) (v1 : Int32) (v2 : Int32) (v3 : Int32) (v4 : Int32) (μ : zMem), fX12_silent_30 F n v1 v2 v3 v4 μ = some (zOut X) → zAW X 30 [some (.ref 60), some (.int v1), some (.int v2), some (.int v3), some (.int v4)] [] μ := by
  intro n
  induction n with
  | zero =>
    intro v1 v2 v3 v4 μ hf
    rw [fX12_silent_30] at hf
    cases hf
  | succ n ih =>
    intro v1 v2 v3 v4 μ hf
    rw [fX12_silent_30] at hf
    refine zs_il hC dX12_silent_30 rfl ?_
    refine zs_il hC dX12_silent_32 rfl ?_
    refine zs_ic_ge hC dX12_silent_33 (fun _ hf => ?_) (fun _ hf => ?_) hf
    · refine zs_al hC dX12_silent_86 rfl ?_
      refine zs_getR 62 hC fl_RX12_13 zL60 rfl dX12_silent_87 ?_
      refine zs_al hC dX12_silent_90 rfl ?_
      refine zs_getR 61 hC fl_RX12_7 zL60 rfl dX12_silent_91 ?_
      refine zs_callS [.ref 62, .ref 61] hC cw_X12_copies cl_RX12_237 (by decide) rfl rfl (Nat.le_of_ble_eq_true rfl) dX12_silent_94 (fun _ h => ctX12_copies (by decide) (by decide) h) (fun r3 m3 _ hf => ?_) hf
      show zAW X 97 _ _ m3
      refine zs_il hC dX12_silent_97 rfl ?_
      exact zs_iret hC hret dX12_silent_98 hf
    · refine zs_al hC dX12_silent_36 rfl ?_
      refine zs_getR 61 hC fl_RX12_7 zL60 rfl dX12_silent_37 ?_
      refine zs_k hC dX12_silent_40 ?_
      refine zs_iald hC zL61 dX12_silent_43 (fun _ hf => ?_) hf
      refine zs_k hC dX12_silent_44 ?_
      refine zs_ic_ge hC dX12_silent_47 (fun _ hf => ?_) (fun _ hf => ?_) hf
      · refine zs_al hC dX12_silent_86 rfl ?_
        refine zs_getR 62 hC fl_RX12_13 zL60 rfl dX12_silent_87 ?_
        refine zs_al hC dX12_silent_90 rfl ?_
        refine zs_getR 61 hC fl_RX12_7 zL60 rfl dX12_silent_91 ?_
        refine zs_callS [.ref 62, .ref 61] hC cw_X12_copies cl_RX12_237 (by decide) rfl rfl (Nat.le_of_ble_eq_true rfl) dX12_silent_94 (fun _ h => ctX12_copies (by decide) (by decide) h) (fun r7 m7 _ hf => ?_) hf
        show zAW X 97 _ _ m7
        refine zs_il hC dX12_silent_97 rfl ?_
        exact zs_iret hC hret dX12_silent_98 hf
      · refine zs_al hC dX12_silent_50 rfl ?_
        refine zs_k hC dX12_silent_51 ?_
        refine zs_putI hC fl_RX12_259 fp_12_34 zL60 rfl dX12_silent_52 ?_
        refine zs_al hC dX12_silent_55 rfl ?_
        refine zs_callV [] hC cw_X12_weekGoes cl_RX12_290 zL60 rfl (by decide) rfl rfl (Nat.le_of_ble_eq_true rfl) dX12_silent_56 (fun _ h => ctX12_weekGoes h) (fun r8 m8 _ hf => ?_) hf
        show zAW X 59 _ _ m8
        refine zs_al hC dX12_silent_59 rfl ?_
        refine zs_getI hC fl_RX12_259 zL60 rfl dX12_silent_60 ?_
        refine zs_if_le hC dX12_silent_63 (fun _ hf => ?_) (fun _ hf => ?_) hf
        · refine zs_il hC dX12_silent_70 rfl ?_
          refine zs_k hC dX12_silent_71 ?_
          refine zs_iadd hC dX12_silent_72 ?_
          refine zs_is hC dX12_silent_73 (by decide) rfl ?_
          refine zs_il hC dX12_silent_74 rfl ?_
          refine zs_il hC dX12_silent_75 rfl ?_
          refine zs_callS [.int v3, .int (v2 + (nI 1))] hC cw_X12_max cl_RX12_305 (by decide) rfl rfl (Nat.le_of_ble_eq_true rfl) dX12_silent_76 (fun _ h => ctX12_max h) (fun r10 m10 _ hf => ?_) hf
          show zAW X 79 _ (.int r10 :: _) m10
          refine zs_is hC dX12_silent_79 (by decide) rfl ?_
          refine zs_iinc (nI 1) hC dX12_silent_80 (by decide) rfl (by decide) rfl ?_
          refine zs_goto hC dX12_silent_83 ?_
          exact zAW.weak (ih _ _ _ _ _ hf) (zLw_s (zLw_s (zLw_s (zLw_s (zLw_s zLw_0)))))
        · refine zs_k hC dX12_silent_66 ?_
          refine zs_goto hC dX12_silent_67 ?_
          refine zs_is hC dX12_silent_73 (by decide) rfl ?_
          refine zs_il hC dX12_silent_74 rfl ?_
          refine zs_il hC dX12_silent_75 rfl ?_
          refine zs_callS [.int v3, .int (nI 0)] hC cw_X12_max cl_RX12_305 (by decide) rfl rfl (Nat.le_of_ble_eq_true rfl) dX12_silent_76 (fun _ h => ctX12_max h) (fun r11 m11 _ hf => ?_) hf
          show zAW X 79 _ (.int r11 :: _) m11
          refine zs_is hC dX12_silent_79 (by decide) rfl ?_
          refine zs_iinc (nI 1) hC dX12_silent_80 (by decide) rfl (by decide) rfl ?_
          refine zs_goto hC dX12_silent_83 ?_
          exact zAW.weak (ih _ _ _ _ _ hf) (zLw_s (zLw_s (zLw_s (zLw_s (zLw_s zLw_0)))))
set_option maxRecDepth 20000 in
set_option maxHeartbeats 4000000 in
theorem wX12_silent {X : zX} {F : Nat} (hC : zCx X RX12 cX12_silent 5 6) (hret : zRt X (some .int)) {v1 : Int32} {μ : zMem} (hf : fX12_silent F v1 μ = some (zOut X)) : zAW X 0 [some (.ref 60), some (.int v1), none, none, none] [] μ := by
  unfold fX12_silent at hf
  refine zs_il hC dX12_silent_0 rfl ?_
  refine zs_k hC dX12_silent_1 ?_
  refine zs_k hC dX12_silent_2 ?_
  refine zs_callS [.int v1, .int (nI 1), .int (nI 100)] hC cw_X12_in cl_RX12_96 (by decide) rfl rfl (Nat.le_of_ble_eq_true rfl) dX12_silent_4 (fun _ h => ctX12_in h) (fun r1 m1 _ hf => ?_) hf
  show zAW X 7 _ (.int r1 :: _) m1
  refine zs_if_ne hC dX12_silent_7 (fun _ hf => ?_) (fun _ hf => ?_) hf
  · refine zs_k hC dX12_silent_10 ?_
    exact zs_iret hC hret dX12_silent_11 hf
  · refine zs_al hC dX12_silent_12 rfl ?_
    refine zs_getR 61 hC fl_RX12_7 zL60 rfl dX12_silent_13 ?_
    refine zs_al hC dX12_silent_16 rfl ?_
    refine zs_getR 62 hC fl_RX12_13 zL60 rfl dX12_silent_17 ?_
    refine zs_callS [.ref 61, .ref 62] hC cw_X12_copies cl_RX12_237 (by decide) rfl rfl (Nat.le_of_ble_eq_true rfl) dX12_silent_20 (fun _ h => ctX12_copies (by decide) (by decide) h) (fun r4 m4 _ hf => ?_) hf
    show zAW X 23 _ _ m4
    refine zs_k hC dX12_silent_23 ?_
    refine zs_is hC dX12_silent_24 (by decide) rfl ?_
    refine zs_k hC dX12_silent_25 ?_
    refine zs_is hC dX12_silent_26 (by decide) rfl ?_
    refine zs_k hC dX12_silent_27 ?_
    refine zs_is hC dX12_silent_28 (by decide) rfl ?_
    exact zAW.weak (wX12_silent_30 hC hret F _ _ _ _ _ hf) (zLw_s (zLw_s (zLw_s (zLw_s (zLw_s zLw_0)))))
set_option maxRecDepth 20000 in
set_option maxHeartbeats 4000000 in
theorem ctX12_silent {E : zEV} {F : Nat} {v1 : Int32} {μ : zMem} {out : zR} (hf : fX12_silent F v1 μ = some out) : zCt E yX12_silent cX12_silent 5 (some .int) 6 [.ref 60, .int v1] μ out :=
  zCt.of [some (.ref 60), some (.int v1), none, none, none] (by decide +kernel) (Nat.le_of_ble_eq_true rfl) (zLw_s (zLw_s (zLw_e (zLw_e (zLw_e zLw_0))))) rfl (fun X hE ho hr hC => by
    subst hE; subst ho
    exact wX12_silent hC hr hf)
/-! X12_whose -/
def fX12_whose_16 (F : Nat) : Nat → Int32 → Int32 → Int32 → zMem → Option zR
  | 0, _, _, _, _ => none
  | n + 1, v1, v2, v3, μ => if (nI 16) ≤ v3 then some (v2, μ) else zBd (fX12_isTold F v3 μ) (fun r1 m1 => if r1 = 0 then fX12_whose_16 F n v1 v2 (v3 + (nI 1)) m1 else zG ((nI 16) + v3) 1047 (zBd (fX12_has F (m1 61 ((nI 16) + v3).toNatClampNeg) v1 m1) (fun r3 m3 => if r3 = 0 then fX12_whose_16 F n v1 v2 (v3 + (nI 1)) m3 else fX12_whose_16 F n v1 (v2 ||| ((nI 1) <<< (v3 &&& 31))) (v3 + (nI 1)) m3)))
def fX12_whose (F : Nat) (v1 : Int32) (μ : zMem) : Option zR :=
  zBd (fX12_in F v1 (nI 0) (nI 15) μ) (fun r1 m1 => if r1 = 0 then some ((-1 : Int32), m1) else fX12_whose_16 F F v1 (nI 0) (nI 0) m1)
set_option maxRecDepth 20000 in
set_option maxHeartbeats 4000000 in
theorem wX12_whose_16 {X : zX} {F : Nat} (hC : zCx X RX12 cX12_whose 4 2) (hret : zRt X (some .int)) : ∀ (n : Nat) (v1 : Int32) (v2 : Int32) (v3 : Int32) (μ : zMem), fX12_whose_16 F n v1 v2 v3 μ = some (zOut X) → zAW X 16 [some (.ref 60), some (.int v1), some (.int v2), some (.int v3)] [] μ := by
  intro n
  induction n with
  | zero =>
    intro v1 v2 v3 μ hf
    rw [fX12_whose_16] at hf
    cases hf
  | succ n ih =>
    intro v1 v2 v3 μ hf
    rw [fX12_whose_16] at hf
    refine zs_il hC dX12_whose_16 rfl ?_
    refine zs_k hC dX12_whose_17 ?_
    refine zs_ic_ge hC dX12_whose_19 (fun _ hf => ?_) (fun _ hf => ?_) hf
    · refine zs_il hC dX12_whose_58 rfl ?_
      exact zs_iret hC hret dX12_whose_59 hf
    · refine zs_al hC dX12_whose_22 rfl ?_
      refine zs_il hC dX12_whose_23 rfl ?_
      refine zs_callV [.int v3] hC cw_X12_isTold cl_RX12_100 zL60 rfl (by decide) rfl rfl (Nat.le_of_ble_eq_true rfl) dX12_whose_24 (fun _ h => ctX12_isTold h) (fun r1 m1 _ hf => ?_) hf
      show zAW X 27 _ (.int r1 :: _) m1
      refine zs_if_eq hC dX12_whose_27 (fun _ hf => ?_) (fun _ hf => ?_) hf
      · refine zs_iinc (nI 1) hC dX12_whose_52 (by decide) rfl (by decide) rfl ?_
        refine zs_goto hC dX12_whose_55 ?_
        exact zAW.weak (ih _ _ _ _ hf) (zLw_s (zLw_s (zLw_s (zLw_s zLw_0))))
      · refine zs_al hC dX12_whose_30 rfl ?_
        refine zs_getR 61 hC fl_RX12_7 zL60 rfl dX12_whose_31 ?_
        refine zs_k hC dX12_whose_34 ?_
        refine zs_il hC dX12_whose_36 rfl ?_
        refine zs_iadd hC dX12_whose_37 ?_
        refine zs_iald hC zL61 dX12_whose_38 (fun _ hf => ?_) hf
        refine zs_il hC dX12_whose_39 rfl ?_
        refine zs_callS [.int (m1 61 ((nI 16) + v3).toNatClampNeg), .int v1] hC cw_X12_has cl_RX12_268 (by decide) rfl rfl (Nat.le_of_ble_eq_true rfl) dX12_whose_40 (fun _ h => ctX12_has h) (fun r3 m3 _ hf => ?_) hf
        show zAW X 43 _ (.int r3 :: _) m3
        refine zs_if_eq hC dX12_whose_43 (fun _ hf => ?_) (fun _ hf => ?_) hf
        · refine zs_iinc (nI 1) hC dX12_whose_52 (by decide) rfl (by decide) rfl ?_
          refine zs_goto hC dX12_whose_55 ?_
          exact zAW.weak (ih _ _ _ _ hf) (zLw_s (zLw_s (zLw_s (zLw_s zLw_0))))
        · refine zs_il hC dX12_whose_46 rfl ?_
          refine zs_k hC dX12_whose_47 ?_
          refine zs_il hC dX12_whose_48 rfl ?_
          refine zs_ishl hC dX12_whose_49 ?_
          refine zs_ior hC dX12_whose_50 ?_
          refine zs_is hC dX12_whose_51 (by decide) rfl ?_
          refine zs_iinc (nI 1) hC dX12_whose_52 (by decide) rfl (by decide) rfl ?_
          refine zs_goto hC dX12_whose_55 ?_
          exact zAW.weak (ih _ _ _ _ hf) (zLw_s (zLw_s (zLw_s (zLw_s zLw_0))))
set_option maxRecDepth 20000 in
set_option maxHeartbeats 4000000 in
theorem wX12_whose {X : zX} {F : Nat} (hC : zCx X RX12 cX12_whose 4 2) (hret : zRt X (some .int)) {v1 : Int32} {μ : zMem} (hf : fX12_whose F v1 μ = some (zOut X)) : zAW X 0 [some (.ref 60), some (.int v1), none, none] [] μ := by
  unfold fX12_whose at hf
  refine zs_il hC dX12_whose_0 rfl ?_
  refine zs_k hC dX12_whose_1 ?_
  refine zs_k hC dX12_whose_2 ?_
  refine zs_callS [.int v1, .int (nI 0), .int (nI 15)] hC cw_X12_in cl_RX12_96 (by decide) rfl rfl (Nat.le_of_ble_eq_true rfl) dX12_whose_4 (fun _ h => ctX12_in h) (fun r1 m1 _ hf => ?_) hf
  show zAW X 7 _ (.int r1 :: _) m1
  refine zs_if_ne hC dX12_whose_7 (fun _ hf => ?_) (fun _ hf => ?_) hf
  · refine zs_k hC dX12_whose_10 ?_
    exact zs_iret hC hret dX12_whose_11 hf
  · refine zs_k hC dX12_whose_12 ?_
    refine zs_is hC dX12_whose_13 (by decide) rfl ?_
    refine zs_k hC dX12_whose_14 ?_
    refine zs_is hC dX12_whose_15 (by decide) rfl ?_
    exact zAW.weak (wX12_whose_16 hC hret F _ _ _ _ hf) (zLw_s (zLw_s (zLw_s (zLw_s zLw_0))))
set_option maxRecDepth 20000 in
set_option maxHeartbeats 4000000 in
theorem ctX12_whose {E : zEV} {F : Nat} {v1 : Int32} {μ : zMem} {out : zR} (hf : fX12_whose F v1 μ = some out) : zCt E yX12_whose cX12_whose 4 (some .int) 2 [.ref 60, .int v1] μ out :=
  zCt.of [some (.ref 60), some (.int v1), none, none] (by decide +kernel) (Nat.le_of_ble_eq_true rfl) (zLw_s (zLw_s (zLw_e (zLw_e zLw_0)))) rfl (fun X hE ho hr hC => by
    subst hE; subst ho
    exact wX12_whose hC hr hf)
/-! X12_alone -/
def fX12_alone_4 (F : Nat) : Nat → Int32 → Int32 → zMem → Option zR
  | 0, _, _, _ => none
  | n + 1, v1, v2, μ => if (nI 16) ≤ v2 then some (v1, μ) else zBd (fX12_whose F v2 μ) (fun r1 m1 => zBd (fX12_bits F r1 m1) (fun r2 m2 => if r2 = (nI 1) then zBd (fX12_whose F v2 m2) (fun r3 m3 => fX12_alone_4 F n (v1 ||| r3) (v2 + (nI 1)) m3) else fX12_alone_4 F n v1 (v2 + (nI 1)) m2))
def fX12_alone (F : Nat) (μ : zMem) : Option zR :=
  fX12_alone_4 F F (nI 0) (nI 0) μ
set_option maxRecDepth 20000 in
set_option maxHeartbeats 4000000 in
theorem wX12_alone_4 {X : zX} {F : Nat} (hC : zCx X RX12 cX12_alone 3 3) (hret : zRt X (some .int)) : ∀ (n : Nat) (v1 : Int32) (v2 : Int32) (μ : zMem), fX12_alone_4 F n v1 v2 μ = some (zOut X) → zAW X 4 [some (.ref 60), some (.int v1), some (.int v2)] [] μ := by
  intro n
  induction n with
  | zero =>
    intro v1 v2 μ hf
    rw [fX12_alone_4] at hf
    cases hf
  | succ n ih =>
    intro v1 v2 μ hf
    rw [fX12_alone_4] at hf
    refine zs_il hC dX12_alone_4 rfl ?_
    refine zs_k hC dX12_alone_5 ?_
    refine zs_ic_ge hC dX12_alone_7 (fun _ hf => ?_) (fun _ hf => ?_) hf
    · refine zs_il hC dX12_alone_36 rfl ?_
      exact zs_iret hC hret dX12_alone_37 hf
    · refine zs_al hC dX12_alone_10 rfl ?_
      refine zs_il hC dX12_alone_11 rfl ?_
      refine zs_callV [.int v2] hC cw_X12_whose cl_RX12_308 zL60 rfl (by decide) rfl rfl (Nat.le_of_ble_eq_true rfl) dX12_alone_12 (fun _ h => ctX12_whose h) (fun r1 m1 _ hf => ?_) hf
      show zAW X 15 _ (.int r1 :: _) m1
      refine zs_callS [.int r1] hC cw_X12_bits cl_RX12_218 (by decide) rfl rfl (Nat.le_of_ble_eq_true rfl) dX12_alone_15 (fun _ h => ctX12_bits h) (fun r2 m2 _ hf => ?_) hf
      show zAW X 18 _ (.int r2 :: _) m2
      refine zs_k hC dX12_alone_18 ?_
      refine zs_ic_ne hC dX12_alone_19 (fun _ hf => ?_) (fun _ hf => ?_) hf
      · refine zs_il hC dX12_alone_22 rfl ?_
        refine zs_al hC dX12_alone_23 rfl ?_
        refine zs_il hC dX12_alone_24 rfl ?_
        refine zs_callV [.int v2] hC cw_X12_whose cl_RX12_308 zL60 rfl (by decide) rfl rfl (Nat.le_of_ble_eq_true rfl) dX12_alone_25 (fun _ h => ctX12_whose h) (fun r3 m3 _ hf => ?_) hf
        show zAW X 28 _ (.int r3 :: _) m3
        refine zs_ior hC dX12_alone_28 ?_
        refine zs_is hC dX12_alone_29 (by decide) rfl ?_
        refine zs_iinc (nI 1) hC dX12_alone_30 (by decide) rfl (by decide) rfl ?_
        refine zs_goto hC dX12_alone_33 ?_
        exact zAW.weak (ih _ _ _ hf) (zLw_s (zLw_s (zLw_s zLw_0)))
      · refine zs_iinc (nI 1) hC dX12_alone_30 (by decide) rfl (by decide) rfl ?_
        refine zs_goto hC dX12_alone_33 ?_
        exact zAW.weak (ih _ _ _ hf) (zLw_s (zLw_s (zLw_s zLw_0)))
set_option maxRecDepth 20000 in
set_option maxHeartbeats 4000000 in
theorem wX12_alone {X : zX} {F : Nat} (hC : zCx X RX12 cX12_alone 3 3) (hret : zRt X (some .int)) {μ : zMem} (hf : fX12_alone F μ = some (zOut X)) : zAW X 0 [some (.ref 60), none, none] [] μ := by
  unfold fX12_alone at hf
  refine zs_k hC dX12_alone_0 ?_
  refine zs_is hC dX12_alone_1 (by decide) rfl ?_
  refine zs_k hC dX12_alone_2 ?_
  refine zs_is hC dX12_alone_3 (by decide) rfl ?_
  exact zAW.weak (wX12_alone_4 hC hret F _ _ _ hf) (zLw_s (zLw_s (zLw_s zLw_0)))
set_option maxRecDepth 20000 in
set_option maxHeartbeats 4000000 in
theorem ctX12_alone {E : zEV} {F : Nat} {μ : zMem} {out : zR} (hf : fX12_alone F μ = some out) : zCt E yX12_alone cX12_alone 3 (some .int) 3 [.ref 60] μ out :=
  zCt.of [some (.ref 60), none, none] (by decide +kernel) (Nat.le_of_ble_eq_true rfl) (zLw_s (zLw_e (zLw_e zLw_0))) rfl (fun X hE ho hr hC => by
    subst hE; subst ho
    exact wX12_alone hC hr hf)
/-! X12_enough -/
def fX12_enough_100 (F : Nat) (k27 : Int32 → Int32 → Int32 → Int32 → Int32 → zMem → Option zR) (v1 : Int32) (v2 : Int32) (v3 : Int32) (v4 : Int32) (v5 : Int32) (s0 : Int32) (s1 : Int32) (μ : zMem) : Option zR :=
  zG s1 65536 (if (v5 &&& (v2 ^^^ (-1 : Int32))) = 0 then zG v5 65536 (if ((zUp μ 82 s1.toNatClampNeg s0) 82 v5.toNatClampNeg) = v3 then zBd (fX12_bits F v5 (zUp μ 82 s1.toNatClampNeg s0)) (fun r2 m2 => zBd (fX12_bits F v4 m2) (fun r3 m3 => if r2 < r3 then k27 v1 v2 v3 v5 (v5 + (nI 1)) m3 else zBd (fX12_bits F v5 m3) (fun r4 m4 => zBd (fX12_bits F v4 m4) (fun r5 m5 => if r4 = r5 then if v4 ≤ v5 then k27 v1 v2 v3 v4 (v5 + (nI 1)) m5 else k27 v1 v2 v3 v5 (v5 + (nI 1)) m5 else k27 v1 v2 v3 v4 (v5 + (nI 1)) m5)))) else k27 v1 v2 v3 v4 (v5 + (nI 1)) (zUp μ 82 s1.toNatClampNeg s0)) else k27 v1 v2 v3 v4 (v5 + (nI 1)) (zUp μ 82 s1.toNatClampNeg s0))
def fX12_enough_62 (F : Nat) (k27 : Int32 → Int32 → Int32 → Int32 → Int32 → zMem → Option zR) (v1 : Int32) (v2 : Int32) (v3 : Int32) (v4 : Int32) (v5 : Int32) (v6 : Int32) (μ : zMem) : Option zR :=
  if v5 = 0 then fX12_enough_100 F k27 v1 v2 v3 v4 v5 (nI 0) v5 μ else zG (v5 &&& (v5 - (nI 1))) 65536 (zG ((nI 16) + v6) 1047 (fX12_enough_100 F k27 v1 v2 v3 v4 v5 ((μ 82 (v5 &&& (v5 - (nI 1))).toNatClampNeg) ||| (μ 61 ((nI 16) + v6).toNatClampNeg)) v5 μ))
def fX12_enough_36 (F : Nat) (k27 : Int32 → Int32 → Int32 → Int32 → Int32 → zMem → Option zR) : Nat → Int32 → Int32 → Int32 → Int32 → Int32 → Int32 → zMem → Option zR
  | 0, _, _, _, _, _, _, _ => none
  | n + 1, v1, v2, v3, v4, v5, v6, μ => if (nI 15) ≤ v6 then fX12_enough_62 F k27 v1 v2 v3 v4 v5 v6 μ else zBd (fX12_has F v5 v6 μ) (fun r1 m1 => if r1 = 0 then fX12_enough_36 F k27 n v1 v2 v3 v4 v5 (v6 + (nI 1)) m1 else fX12_enough_62 F k27 v1 v2 v3 v4 v5 v6 m1)
def fX12_enough_27 (F : Nat) : Nat → Int32 → Int32 → Int32 → Int32 → Int32 → zMem → Option zR
  | 0, _, _, _, _, _, _ => none
  | n + 1, v1, v2, v3, v4, v5, μ => if v2 < v5 then if v1 = 0 then zBd (fX12_bits F v4 μ) (fun r1 m1 => some (r1, m1)) else some (v4, μ) else fX12_enough_36 F (fX12_enough_27 F n) F v1 v2 v3 v4 v5 (nI 0) μ
def fX12_enough (F : Nat) (v1 : Int32) (μ : zMem) : Option zR :=
  zBd (fX12_in F v1 (nI 0) (nI 1) μ) (fun r1 m1 => if r1 = 0 then some ((-1 : Int32), m1) else zBd (fX12_toldSet F m1) (fun r2 m2 => zBd (fX12_knownByAny F m2) (fun r3 m3 => fX12_enough_27 F F v1 r2 r3 r2 (nI 0) m3)))
set_option maxRecDepth 20000 in
set_option maxHeartbeats 4000000 in
theorem wX12_enough_100 {X : zX} {F : Nat} (hC : zCx X RX12 cX12_enough 7 3) (hret : zRt X (some .int)) {k27 : Int32 → Int32 → Int32 → Int32 → Int32 → zMem → Option zR} (hk27 : ∀ v1 v2 v3 v4 v5 μ, k27 v1 v2 v3 v4 v5 μ = some (zOut X) → zAW X 27 [some (.ref 60), some (.int v1), some (.int v2), some (.int v3), some (.int v4), some (.int v5), none] [] μ) {v1 : Int32} {v2 : Int32} {v3 : Int32} {v4 : Int32} {v5 : Int32} {s0 : Int32} {s1 : Int32} {μ : zMem} (hf : fX12_enough_100 F k27 v1 v2 v3 v4 v5 s0 s1 μ = some (zOut X)) : zAW X 100 [some (.ref 60), some (.int v1), some (.int v2), some (.int v3), some (.int v4), some (.int v5), none] [.int s0, .int s1, .ref 82] μ := by
  unfold fX12_enough_100 at hf
  refine zs_iast hC zL82 dX12_enough_100 (fun _ hf => ?_) hf
  refine zs_il hC dX12_enough_101 rfl ?_
  refine zs_il hC dX12_enough_103 rfl ?_
  refine zs_k hC dX12_enough_104 ?_
  refine zs_ixor hC dX12_enough_105 ?_
  refine zs_iand hC dX12_enough_106 ?_
  refine zs_if_ne hC dX12_enough_107 (fun _ hf => ?_) (fun _ hf => ?_) hf
  · refine zs_al hC dX12_enough_110 rfl ?_
    refine zs_getR 82 hC fl_RX12_75 zL60 rfl dX12_enough_111 ?_
    refine zs_il hC dX12_enough_114 rfl ?_
    refine zs_iald hC zL82 dX12_enough_116 (fun _ hf => ?_) hf
    refine zs_il hC dX12_enough_117 rfl ?_
    refine zs_ic_eq hC dX12_enough_118 (fun _ hf => ?_) (fun _ hf => ?_) hf
    · refine zs_il hC dX12_enough_124 rfl ?_
      refine zs_callS [.int v5] hC cw_X12_bits cl_RX12_218 (by decide) rfl rfl (Nat.le_of_ble_eq_true rfl) dX12_enough_126 (fun _ h => ctX12_bits h) (fun r2 m2 _ hf => ?_) hf
      show zAW X 129 _ (.int r2 :: _) m2
      refine zs_il hC dX12_enough_129 rfl ?_
      refine zs_callS [.int v4] hC cw_X12_bits cl_RX12_218 (by decide) rfl rfl (Nat.le_of_ble_eq_true rfl) dX12_enough_131 (fun _ h => ctX12_bits h) (fun r3 m3 _ hf => ?_) hf
      show zAW X 134 _ (.int r3 :: _) m3
      refine zs_ic_lt hC dX12_enough_134 (fun _ hf => ?_) (fun _ hf => ?_) hf
      · refine zs_il hC dX12_enough_157 rfl ?_
        refine zs_is hC dX12_enough_159 (by decide) rfl ?_
        refine zs_iinc (nI 1) hC dX12_enough_161 (by decide) rfl (by decide) rfl ?_
        refine zs_goto hC dX12_enough_164 ?_
        exact zAW.weak (hk27 _ _ _ _ _ _ hf) (zLw_s (zLw_s (zLw_s (zLw_s (zLw_s (zLw_s (zLw_n zLw_0)))))))
      · refine zs_il hC dX12_enough_137 rfl ?_
        refine zs_callS [.int v5] hC cw_X12_bits cl_RX12_218 (by decide) rfl rfl (Nat.le_of_ble_eq_true rfl) dX12_enough_139 (fun _ h => ctX12_bits h) (fun r4 m4 _ hf => ?_) hf
        show zAW X 142 _ (.int r4 :: _) m4
        refine zs_il hC dX12_enough_142 rfl ?_
        refine zs_callS [.int v4] hC cw_X12_bits cl_RX12_218 (by decide) rfl rfl (Nat.le_of_ble_eq_true rfl) dX12_enough_144 (fun _ h => ctX12_bits h) (fun r5 m5 _ hf => ?_) hf
        show zAW X 147 _ (.int r5 :: _) m5
        refine zs_ic_ne hC dX12_enough_147 (fun _ hf => ?_) (fun _ hf => ?_) hf
        · refine zs_il hC dX12_enough_150 rfl ?_
          refine zs_il hC dX12_enough_152 rfl ?_
          refine zs_ic_ge hC dX12_enough_154 (fun _ hf => ?_) (fun _ hf => ?_) hf
          · refine zs_iinc (nI 1) hC dX12_enough_161 (by decide) rfl (by decide) rfl ?_
            refine zs_goto hC dX12_enough_164 ?_
            exact zAW.weak (hk27 _ _ _ _ _ _ hf) (zLw_s (zLw_s (zLw_s (zLw_s (zLw_s (zLw_s (zLw_n zLw_0)))))))
          · refine zs_il hC dX12_enough_157 rfl ?_
            refine zs_is hC dX12_enough_159 (by decide) rfl ?_
            refine zs_iinc (nI 1) hC dX12_enough_161 (by decide) rfl (by decide) rfl ?_
            refine zs_goto hC dX12_enough_164 ?_
            exact zAW.weak (hk27 _ _ _ _ _ _ hf) (zLw_s (zLw_s (zLw_s (zLw_s (zLw_s (zLw_s (zLw_n zLw_0)))))))
        · refine zs_iinc (nI 1) hC dX12_enough_161 (by decide) rfl (by decide) rfl ?_
          refine zs_goto hC dX12_enough_164 ?_
          exact zAW.weak (hk27 _ _ _ _ _ _ hf) (zLw_s (zLw_s (zLw_s (zLw_s (zLw_s (zLw_s (zLw_n zLw_0)))))))
    · refine zs_goto hC dX12_enough_121 ?_
      refine zs_iinc (nI 1) hC dX12_enough_161 (by decide) rfl (by decide) rfl ?_
      refine zs_goto hC dX12_enough_164 ?_
      exact zAW.weak (hk27 _ _ _ _ _ _ hf) (zLw_s (zLw_s (zLw_s (zLw_s (zLw_s (zLw_s (zLw_n zLw_0)))))))
  · refine zs_iinc (nI 1) hC dX12_enough_161 (by decide) rfl (by decide) rfl ?_
    refine zs_goto hC dX12_enough_164 ?_
    exact zAW.weak (hk27 _ _ _ _ _ _ hf) (zLw_s (zLw_s (zLw_s (zLw_s (zLw_s (zLw_s (zLw_n zLw_0)))))))
set_option maxRecDepth 20000 in
set_option maxHeartbeats 4000000 in
theorem wX12_enough_62 {X : zX} {F : Nat} (hC : zCx X RX12 cX12_enough 7 3) (hret : zRt X (some .int)) {k27 : Int32 → Int32 → Int32 → Int32 → Int32 → zMem → Option zR} (hk27 : ∀ v1 v2 v3 v4 v5 μ, k27 v1 v2 v3 v4 v5 μ = some (zOut X) → zAW X 27 [some (.ref 60), some (.int v1), some (.int v2), some (.int v3), some (.int v4), some (.int v5), none] [] μ) {v1 : Int32} {v2 : Int32} {v3 : Int32} {v4 : Int32} {v5 : Int32} {v6 : Int32} {μ : zMem} (hf : fX12_enough_62 F k27 v1 v2 v3 v4 v5 v6 μ = some (zOut X)) : zAW X 62 [some (.ref 60), some (.int v1), some (.int v2), some (.int v3), some (.int v4), some (.int v5), some (.int v6)] [] μ := by
  unfold fX12_enough_62 at hf
  refine zs_al hC dX12_enough_62 rfl ?_
  refine zs_getR 82 hC fl_RX12_75 zL60 rfl dX12_enough_63 ?_
  refine zs_il hC dX12_enough_66 rfl ?_
  refine zs_il hC dX12_enough_68 rfl ?_
  refine zs_if_ne hC dX12_enough_70 (fun _ hf => ?_) (fun _ hf => ?_) hf
  · refine zs_k hC dX12_enough_73 ?_
    refine zs_goto hC dX12_enough_74 ?_
    exact zAW.weak (wX12_enough_100 hC hret hk27 hf) (zLw_s (zLw_s (zLw_s (zLw_s (zLw_s (zLw_s (zLw_n zLw_0)))))))
  · refine zs_al hC dX12_enough_77 rfl ?_
    refine zs_getR 82 hC fl_RX12_75 zL60 rfl dX12_enough_78 ?_
    refine zs_il hC dX12_enough_81 rfl ?_
    refine zs_il hC dX12_enough_83 rfl ?_
    refine zs_k hC dX12_enough_85 ?_
    refine zs_isub hC dX12_enough_86 ?_
    refine zs_iand hC dX12_enough_87 ?_
    refine zs_iald hC zL82 dX12_enough_88 (fun _ hf => ?_) hf
    refine zs_al hC dX12_enough_89 rfl ?_
    refine zs_getR 61 hC fl_RX12_7 zL60 rfl dX12_enough_90 ?_
    refine zs_k hC dX12_enough_93 ?_
    refine zs_il hC dX12_enough_95 rfl ?_
    refine zs_iadd hC dX12_enough_97 ?_
    refine zs_iald hC zL61 dX12_enough_98 (fun _ hf => ?_) hf
    refine zs_ior hC dX12_enough_99 ?_
    exact zAW.weak (wX12_enough_100 hC hret hk27 hf) (zLw_s (zLw_s (zLw_s (zLw_s (zLw_s (zLw_s (zLw_n zLw_0)))))))
set_option maxRecDepth 20000 in
set_option maxHeartbeats 4000000 in
theorem wX12_enough_36 {X : zX} {F : Nat} (hC : zCx X RX12 cX12_enough 7 3) (hret : zRt X (some .int)) {k27 : Int32 → Int32 → Int32 → Int32 → Int32 → zMem → Option zR} (hk27 : ∀ v1 v2 v3 v4 v5 μ, k27 v1 v2 v3 v4 v5 μ = some (zOut X) → zAW X 27 [some (.ref 60), some (.int v1), some (.int v2), some (.int v3), some (.int v4), some (.int v5), none] [] μ) : ∀ (n : Nat) (v1 : Int32) (v2 : Int32) (v3 : Int32) (v4 : Int32) (v5 : Int32) (v6 : Int32) (μ : zMem), fX12_enough_36 F k27 n v1 v2 v3 v4 v5 v6 μ = some (zOut X) → zAW X 36 [some (.ref 60), some (.int v1), some (.int v2), some (.int v3), some (.int v4), some (.int v5), some (.int v6)] [] μ := by
  intro n
  induction n with
  | zero =>
    intro v1 v2 v3 v4 v5 v6 μ hf
    rw [fX12_enough_36] at hf
    cases hf
  | succ n ih =>
    intro v1 v2 v3 v4 v5 v6 μ hf
    rw [fX12_enough_36] at hf
    refine zs_il hC dX12_enough_36 rfl ?_
    refine zs_k hC dX12_enough_38 ?_
    refine zs_ic_ge hC dX12_enough_40 (fun _ hf => ?_) (fun _ hf => ?_) hf
    · exact zAW.weak (wX12_enough_62 hC hret hk27 hf) (zLw_s (zLw_s (zLw_s (zLw_s (zLw_s (zLw_s (zLw_s zLw_0)))))))
    · refine zs_il hC dX12_enough_43 rfl ?_
      refine zs_il hC dX12_enough_45 rfl ?_
      refine zs_callS [.int v5, .int v6] hC cw_X12_has cl_RX12_268 (by decide) rfl rfl (Nat.le_of_ble_eq_true rfl) dX12_enough_47 (fun _ h => ctX12_has h) (fun r1 m1 _ hf => ?_) hf
      show zAW X 50 _ (.int r1 :: _) m1
      refine zs_if_ne hC dX12_enough_50 (fun _ hf => ?_) (fun _ hf => ?_) hf
      · refine zs_il hC dX12_enough_53 rfl ?_
        refine zs_k hC dX12_enough_55 ?_
        refine zs_iadd hC dX12_enough_56 ?_
        refine zs_is hC dX12_enough_57 (by decide) rfl ?_
        refine zs_goto hC dX12_enough_59 ?_
        exact zAW.weak (ih _ _ _ _ _ _ _ hf) (zLw_s (zLw_s (zLw_s (zLw_s (zLw_s (zLw_s (zLw_s zLw_0)))))))
      · exact zAW.weak (wX12_enough_62 hC hret hk27 hf) (zLw_s (zLw_s (zLw_s (zLw_s (zLw_s (zLw_s (zLw_s zLw_0)))))))
set_option maxRecDepth 20000 in
set_option maxHeartbeats 4000000 in
theorem wX12_enough_27 {X : zX} {F : Nat} (hC : zCx X RX12 cX12_enough 7 3) (hret : zRt X (some .int)) : ∀ (n : Nat) (v1 : Int32) (v2 : Int32) (v3 : Int32) (v4 : Int32) (v5 : Int32) (μ : zMem), fX12_enough_27 F n v1 v2 v3 v4 v5 μ = some (zOut X) → zAW X 27 [some (.ref 60), some (.int v1), some (.int v2), some (.int v3), some (.int v4), some (.int v5), none] [] μ := by
  intro n
  induction n with
  | zero =>
    intro v1 v2 v3 v4 v5 μ hf
    rw [fX12_enough_27] at hf
    cases hf
  | succ n ih =>
    intro v1 v2 v3 v4 v5 μ hf
    rw [fX12_enough_27] at hf
    refine zs_il hC dX12_enough_27 rfl ?_
    refine zs_il hC dX12_enough_29 rfl ?_
    refine zs_ic_gt hC dX12_enough_30 (fun _ hf => ?_) (fun _ hf => ?_) hf
    · refine zs_il hC dX12_enough_167 rfl ?_
      refine zs_if_ne hC dX12_enough_168 (fun _ hf => ?_) (fun _ hf => ?_) hf
      · refine zs_il hC dX12_enough_171 rfl ?_
        refine zs_callS [.int v4] hC cw_X12_bits cl_RX12_218 (by decide) rfl rfl (Nat.le_of_ble_eq_true rfl) dX12_enough_173 (fun _ h => ctX12_bits h) (fun r1 m1 _ hf => ?_) hf
        show zAW X 176 _ (.int r1 :: _) m1
        refine zs_goto hC dX12_enough_176 ?_
        exact zs_iret hC hret dX12_enough_181 hf
      · refine zs_il hC dX12_enough_179 rfl ?_
        exact zs_iret hC hret dX12_enough_181 hf
    · refine zs_k hC dX12_enough_33 ?_
      refine zs_is hC dX12_enough_34 (by decide) rfl ?_
      exact zAW.weak (wX12_enough_36 hC hret (ih) F _ _ _ _ _ _ _ hf) (zLw_s (zLw_s (zLw_s (zLw_s (zLw_s (zLw_s (zLw_s zLw_0)))))))
set_option maxRecDepth 20000 in
set_option maxHeartbeats 4000000 in
theorem wX12_enough {X : zX} {F : Nat} (hC : zCx X RX12 cX12_enough 7 3) (hret : zRt X (some .int)) {v1 : Int32} {μ : zMem} (hf : fX12_enough F v1 μ = some (zOut X)) : zAW X 0 [some (.ref 60), some (.int v1), none, none, none, none, none] [] μ := by
  unfold fX12_enough at hf
  refine zs_il hC dX12_enough_0 rfl ?_
  refine zs_k hC dX12_enough_1 ?_
  refine zs_k hC dX12_enough_2 ?_
  refine zs_callS [.int v1, .int (nI 0), .int (nI 1)] hC cw_X12_in cl_RX12_96 (by decide) rfl rfl (Nat.le_of_ble_eq_true rfl) dX12_enough_3 (fun _ h => ctX12_in h) (fun r1 m1 _ hf => ?_) hf
  show zAW X 6 _ (.int r1 :: _) m1
  refine zs_if_ne hC dX12_enough_6 (fun _ hf => ?_) (fun _ hf => ?_) hf
  · refine zs_k hC dX12_enough_9 ?_
    exact zs_iret hC hret dX12_enough_10 hf
  · refine zs_al hC dX12_enough_11 rfl ?_
    refine zs_callV [] hC cw_X12_toldSet cl_RX12_296 zL60 rfl (by decide) rfl rfl (Nat.le_of_ble_eq_true rfl) dX12_enough_12 (fun _ h => ctX12_toldSet h) (fun r2 m2 _ hf => ?_) hf
    show zAW X 15 _ (.int r2 :: _) m2
    refine zs_is hC dX12_enough_15 (by decide) rfl ?_
    refine zs_al hC dX12_enough_16 rfl ?_
    refine zs_callV [] hC cw_X12_knownByAny cl_RX12_299 zL60 rfl (by decide) rfl rfl (Nat.le_of_ble_eq_true rfl) dX12_enough_17 (fun _ h => ctX12_knownByAny h) (fun r3 m3 _ hf => ?_) hf
    show zAW X 20 _ (.int r3 :: _) m3
    refine zs_is hC dX12_enough_20 (by decide) rfl ?_
    refine zs_il hC dX12_enough_21 rfl ?_
    refine zs_is hC dX12_enough_22 (by decide) rfl ?_
    refine zs_k hC dX12_enough_24 ?_
    refine zs_is hC dX12_enough_25 (by decide) rfl ?_
    exact zAW.weak (wX12_enough_27 hC hret F _ _ _ _ _ _ hf) (zLw_s (zLw_s (zLw_s (zLw_s (zLw_s (zLw_s (zLw_n zLw_0)))))))
set_option maxRecDepth 20000 in
set_option maxHeartbeats 4000000 in
theorem ctX12_enough {E : zEV} {F : Nat} {v1 : Int32} {μ : zMem} {out : zR} (hf : fX12_enough F v1 μ = some out) : zCt E yX12_enough cX12_enough 7 (some .int) 3 [.ref 60, .int v1] μ out :=
  zCt.of [some (.ref 60), some (.int v1), none, none, none, none, none] (by decide +kernel) (Nat.le_of_ble_eq_true rfl) (zLw_s (zLw_s (zLw_e (zLw_e (zLw_e (zLw_e (zLw_e zLw_0))))))) rfl (fun X hE ho hr hC => by
    subst hE; subst ho
    exact wX12_enough hC hr hf)
/-! X12_backMany -/
def fX12_backMany (F : Nat) (μ : zMem) : Option zR :=
  zG (nI 1044) 1047 (zBd (fX12_min F (nI 20) (μ 61 (nI 1044).toNatClampNeg) μ) (fun r2 m2 => some (r2, m2)))
set_option maxRecDepth 20000 in
set_option maxHeartbeats 4000000 in
theorem wX12_backMany {X : zX} {F : Nat} (hC : zCx X RX12 cX12_backMany 1 1) (hret : zRt X (some .int)) {μ : zMem} (hf : fX12_backMany F μ = some (zOut X)) : zAW X 0 [some (.ref 60)] [] μ := by
  unfold fX12_backMany at hf
  refine zs_k hC dX12_backMany_0 ?_
  refine zs_al hC dX12_backMany_2 rfl ?_
  refine zs_getR 61 hC fl_RX12_7 zL60 rfl dX12_backMany_3 ?_
  refine zs_k hC dX12_backMany_6 ?_
  refine zs_iald hC zL61 dX12_backMany_9 (fun _ hf => ?_) hf
  refine zs_callS [.int (nI 20), .int (μ 61 (nI 1044).toNatClampNeg)] hC cw_X12_min cl_RX12_271 (by decide) rfl rfl (Nat.le_of_ble_eq_true rfl) dX12_backMany_10 (fun _ h => ctX12_min h) (fun r2 m2 _ hf => ?_) hf
  show zAW X 13 _ (.int r2 :: _) m2
  exact zs_iret hC hret dX12_backMany_13 hf
set_option maxRecDepth 20000 in
set_option maxHeartbeats 4000000 in
theorem ctX12_backMany {E : zEV} {F : Nat} {μ : zMem} {out : zR} (hf : fX12_backMany F μ = some out) : zCt E yX12_backMany cX12_backMany 1 (some .int) 1 [.ref 60] μ out :=
  zCt.of [some (.ref 60)] (by decide +kernel) (Nat.le_of_ble_eq_true rfl) (zLw_s zLw_0) rfl (fun X hE ho hr hC => by
    subst hE; subst ho
    exact wX12_backMany hC hr hf)
/-! X12_issueOf -/
def fX12_issueOf (F : Nat) (v1 : Int32) (μ : zMem) : Option zR :=
  zG (nI 1044) 1047 (zGz (nI 20) (some ((((μ 61 (nI 1044).toNatClampNeg) - v1) % (nI 20)), μ)))
set_option maxRecDepth 20000 in
set_option maxHeartbeats 4000000 in
theorem wX12_issueOf {X : zX} {F : Nat} (hC : zCx X RX12 cX12_issueOf 2 0) (hret : zRt X (some .int)) {v1 : Int32} {μ : zMem} (hf : fX12_issueOf F v1 μ = some (zOut X)) : zAW X 0 [some (.ref 60), some (.int v1)] [] μ := by
  unfold fX12_issueOf at hf
  refine zs_al hC dX12_issueOf_0 rfl ?_
  refine zs_getR 61 hC fl_RX12_7 zL60 rfl dX12_issueOf_1 ?_
  refine zs_k hC dX12_issueOf_4 ?_
  refine zs_iald hC zL61 dX12_issueOf_7 (fun _ hf => ?_) hf
  refine zs_il hC dX12_issueOf_8 rfl ?_
  refine zs_isub hC dX12_issueOf_9 ?_
  refine zs_k hC dX12_issueOf_10 ?_
  refine zs_irem hC dX12_issueOf_12 (fun _ hf => ?_) hf
  exact zs_iret hC hret dX12_issueOf_13 hf
set_option maxRecDepth 20000 in
set_option maxHeartbeats 4000000 in
theorem ctX12_issueOf {E : zEV} {F : Nat} {v1 : Int32} {μ : zMem} {out : zR} (hf : fX12_issueOf F v1 μ = some out) : zCt E yX12_issueOf cX12_issueOf 2 (some .int) 0 [.ref 60, .int v1] μ out :=
  zCt.of [some (.ref 60), some (.int v1)] (by decide +kernel) (Nat.le_of_ble_eq_true rfl) (zLw_s (zLw_s zLw_0)) rfl (fun X hE ho hr hC => by
    subst hE; subst ho
    exact wX12_issueOf hC hr hf)
/-! X12_printedOf -/
def fX12_printedOf (F : Nat) (v1 : Int32) (v2 : Int32) (v3 : Int32) (μ : zMem) : Option zR :=
  zBd (fX12_issueOf F v1 μ) (fun r2 m2 => zG ((((nI 84) + ((nI 48) * r2)) + ((nI 3) * v2)) + v3) 1047 (some ((m2 61 ((((nI 84) + ((nI 48) * r2)) + ((nI 3) * v2)) + v3).toNatClampNeg), m2)))
set_option maxRecDepth 20000 in
set_option maxHeartbeats 4000000 in
theorem wX12_printedOf {X : zX} {F : Nat} (hC : zCx X RX12 cX12_printedOf 4 1) (hret : zRt X (some .int)) {v1 : Int32} {v2 : Int32} {v3 : Int32} {μ : zMem} (hf : fX12_printedOf F v1 v2 v3 μ = some (zOut X)) : zAW X 0 [some (.ref 60), some (.int v1), some (.int v2), some (.int v3)] [] μ := by
  unfold fX12_printedOf at hf
  refine zs_al hC dX12_printedOf_0 rfl ?_
  refine zs_getR 61 hC fl_RX12_7 zL60 rfl dX12_printedOf_1 ?_
  refine zs_k hC dX12_printedOf_4 ?_
  refine zs_k hC dX12_printedOf_6 ?_
  refine zs_al hC dX12_printedOf_8 rfl ?_
  refine zs_il hC dX12_printedOf_9 rfl ?_
  refine zs_callV [.int v1] hC cw_X12_issueOf cl_RX12_311 zL60 rfl (by decide) rfl rfl (Nat.le_of_ble_eq_true rfl) dX12_printedOf_10 (fun _ h => ctX12_issueOf h) (fun r2 m2 _ hf => ?_) hf
  show zAW X 13 _ (.int r2 :: _) m2
  refine zs_imul hC dX12_printedOf_13 ?_
  refine zs_iadd hC dX12_printedOf_14 ?_
  refine zs_k hC dX12_printedOf_15 ?_
  refine zs_il hC dX12_printedOf_16 rfl ?_
  refine zs_imul hC dX12_printedOf_17 ?_
  refine zs_iadd hC dX12_printedOf_18 ?_
  refine zs_il hC dX12_printedOf_19 rfl ?_
  refine zs_iadd hC dX12_printedOf_20 ?_
  refine zs_iald hC zL61 dX12_printedOf_21 (fun _ hf => ?_) hf
  exact zs_iret hC hret dX12_printedOf_22 hf
set_option maxRecDepth 20000 in
set_option maxHeartbeats 4000000 in
theorem ctX12_printedOf {E : zEV} {F : Nat} {v1 : Int32} {v2 : Int32} {v3 : Int32} {μ : zMem} {out : zR} (hf : fX12_printedOf F v1 v2 v3 μ = some out) : zCt E yX12_printedOf cX12_printedOf 4 (some .int) 1 [.ref 60, .int v1, .int v2, .int v3] μ out :=
  zCt.of [some (.ref 60), some (.int v1), some (.int v2), some (.int v3)] (by decide +kernel) (Nat.le_of_ble_eq_true rfl) (zLw_s (zLw_s (zLw_s (zLw_s zLw_0)))) rfl (fun X hE ho hr hC => by
    subst hE; subst ho
    exact wX12_printedOf hC hr hf)
/-! X12_backNumber -/
def fX12_backNumber_28 (F : Nat) (v1 : Int32) (v2 : Int32) (μ : zMem) : Option zR :=
  zG (nI 1044) 1047 (if v1 ≤ (μ 61 (nI 1044).toNatClampNeg) then zBd (fX12_issueOf F v1 μ) (fun r3 m3 => zG ((nI 64) + r3) 1047 (if v2 = (nI 100) then some ((m3 61 ((nI 64) + r3).toNatClampNeg), m3) else zGz (nI 3) (if (m3 61 ((nI 64) + r3).toNatClampNeg) ≤ (v2 / (nI 3)) then some ((-4 : Int32), m3) else zGz (nI 3) (zGz (nI 3) (zBd (fX12_printedOf F v1 (v2 / (nI 3)) (v2 % (nI 3)) m3) (fun r4 m4 => some (r4, m4))))))) else some ((-2 : Int32), μ))
def fX12_backNumber (F : Nat) (v1 : Int32) (v2 : Int32) (μ : zMem) : Option zR :=
  zBd (fX12_in F v1 (nI 1) (nI 20) μ) (fun r1 m1 => if r1 = 0 then some ((-1 : Int32), m1) else zBd (fX12_in F v2 (nI 0) (nI 47) m1) (fun r2 m2 => if r2 = 0 then if v2 = (nI 100) then fX12_backNumber_28 F v1 v2 m2 else some ((-1 : Int32), m2) else fX12_backNumber_28 F v1 v2 m2))
set_option maxRecDepth 20000 in
set_option maxHeartbeats 4000000 in
theorem wX12_backNumber_28 {X : zX} {F : Nat} (hC : zCx X RX12 cX12_backNumber 4 2) (hret : zRt X (some .int)) {v1 : Int32} {v2 : Int32} {μ : zMem} (hf : fX12_backNumber_28 F v1 v2 μ = some (zOut X)) : zAW X 28 [some (.ref 60), some (.int v1), some (.int v2), none] [] μ := by
  unfold fX12_backNumber_28 at hf
  refine zs_il hC dX12_backNumber_28 rfl ?_
  refine zs_al hC dX12_backNumber_29 rfl ?_
  refine zs_getR 61 hC fl_RX12_7 zL60 rfl dX12_backNumber_30 ?_
  refine zs_k hC dX12_backNumber_33 ?_
  refine zs_iald hC zL61 dX12_backNumber_36 (fun _ hf => ?_) hf
  refine zs_ic_le hC dX12_backNumber_37 (fun _ hf => ?_) (fun _ hf => ?_) hf
  · refine zs_al hC dX12_backNumber_43 rfl ?_
    refine zs_getR 61 hC fl_RX12_7 zL60 rfl dX12_backNumber_44 ?_
    refine zs_k hC dX12_backNumber_47 ?_
    refine zs_al hC dX12_backNumber_49 rfl ?_
    refine zs_il hC dX12_backNumber_50 rfl ?_
    refine zs_callV [.int v1] hC cw_X12_issueOf cl_RX12_311 zL60 rfl (by decide) rfl rfl (Nat.le_of_ble_eq_true rfl) dX12_backNumber_51 (fun _ h => ctX12_issueOf h) (fun r3 m3 _ hf => ?_) hf
    show zAW X 54 _ (.int r3 :: _) m3
    refine zs_iadd hC dX12_backNumber_54 ?_
    refine zs_iald hC zL61 dX12_backNumber_55 (fun _ hf => ?_) hf
    refine zs_is hC dX12_backNumber_56 (by decide) rfl ?_
    refine zs_il hC dX12_backNumber_57 rfl ?_
    refine zs_k hC dX12_backNumber_58 ?_
    refine zs_ic_ne hC dX12_backNumber_60 (fun _ hf => ?_) (fun _ hf => ?_) hf
    · refine zs_il hC dX12_backNumber_63 rfl ?_
      exact zs_iret hC hret dX12_backNumber_64 hf
    · refine zs_il hC dX12_backNumber_65 rfl ?_
      refine zs_k hC dX12_backNumber_66 ?_
      refine zs_idiv hC dX12_backNumber_67 (fun _ hf => ?_) hf
      refine zs_il hC dX12_backNumber_68 rfl ?_
      refine zs_ic_ge hC dX12_backNumber_69 (fun _ hf => ?_) (fun _ hf => ?_) hf
      · refine zs_k hC dX12_backNumber_86 ?_
        exact zs_iret hC hret dX12_backNumber_88 hf
      · refine zs_al hC dX12_backNumber_72 rfl ?_
        refine zs_il hC dX12_backNumber_73 rfl ?_
        refine zs_il hC dX12_backNumber_74 rfl ?_
        refine zs_k hC dX12_backNumber_75 ?_
        refine zs_idiv hC dX12_backNumber_76 (fun _ hf => ?_) hf
        refine zs_il hC dX12_backNumber_77 rfl ?_
        refine zs_k hC dX12_backNumber_78 ?_
        refine zs_irem hC dX12_backNumber_79 (fun _ hf => ?_) hf
        refine zs_callV [.int v1, .int (v2 / (nI 3)), .int (v2 % (nI 3))] hC cw_X12_printedOf cl_RX12_314 zL60 rfl (by decide) rfl rfl (Nat.le_of_ble_eq_true rfl) dX12_backNumber_80 (fun _ h => ctX12_printedOf h) (fun r4 m4 _ hf => ?_) hf
        show zAW X 83 _ (.int r4 :: _) m4
        refine zs_goto hC dX12_backNumber_83 ?_
        exact zs_iret hC hret dX12_backNumber_88 hf
  · refine zs_k hC dX12_backNumber_40 ?_
    exact zs_iret hC hret dX12_backNumber_42 hf
set_option maxRecDepth 20000 in
set_option maxHeartbeats 4000000 in
theorem wX12_backNumber {X : zX} {F : Nat} (hC : zCx X RX12 cX12_backNumber 4 2) (hret : zRt X (some .int)) {v1 : Int32} {v2 : Int32} {μ : zMem} (hf : fX12_backNumber F v1 v2 μ = some (zOut X)) : zAW X 0 [some (.ref 60), some (.int v1), some (.int v2), none] [] μ := by
  unfold fX12_backNumber at hf
  refine zs_il hC dX12_backNumber_0 rfl ?_
  refine zs_k hC dX12_backNumber_1 ?_
  refine zs_k hC dX12_backNumber_2 ?_
  refine zs_callS [.int v1, .int (nI 1), .int (nI 20)] hC cw_X12_in cl_RX12_96 (by decide) rfl rfl (Nat.le_of_ble_eq_true rfl) dX12_backNumber_4 (fun _ h => ctX12_in h) (fun r1 m1 _ hf => ?_) hf
  show zAW X 7 _ (.int r1 :: _) m1
  refine zs_if_eq hC dX12_backNumber_7 (fun _ hf => ?_) (fun _ hf => ?_) hf
  · refine zs_k hC dX12_backNumber_26 ?_
    exact zs_iret hC hret dX12_backNumber_27 hf
  · refine zs_il hC dX12_backNumber_10 rfl ?_
    refine zs_k hC dX12_backNumber_11 ?_
    refine zs_k hC dX12_backNumber_12 ?_
    refine zs_callS [.int v2, .int (nI 0), .int (nI 47)] hC cw_X12_in cl_RX12_96 (by decide) rfl rfl (Nat.le_of_ble_eq_true rfl) dX12_backNumber_14 (fun _ h => ctX12_in h) (fun r2 m2 _ hf => ?_) hf
    show zAW X 17 _ (.int r2 :: _) m2
    refine zs_if_ne hC dX12_backNumber_17 (fun _ hf => ?_) (fun _ hf => ?_) hf
    · refine zs_il hC dX12_backNumber_20 rfl ?_
      refine zs_k hC dX12_backNumber_21 ?_
      refine zs_ic_eq hC dX12_backNumber_23 (fun _ hf => ?_) (fun _ hf => ?_) hf
      · exact zAW.weak (wX12_backNumber_28 hC hret hf) (zLw_s (zLw_s (zLw_s (zLw_n zLw_0))))
      · refine zs_k hC dX12_backNumber_26 ?_
        exact zs_iret hC hret dX12_backNumber_27 hf
    · exact zAW.weak (wX12_backNumber_28 hC hret hf) (zLw_s (zLw_s (zLw_s (zLw_n zLw_0))))
set_option maxRecDepth 20000 in
set_option maxHeartbeats 4000000 in
theorem ctX12_backNumber {E : zEV} {F : Nat} {v1 : Int32} {v2 : Int32} {μ : zMem} {out : zR} (hf : fX12_backNumber F v1 v2 μ = some out) : zCt E yX12_backNumber cX12_backNumber 4 (some .int) 2 [.ref 60, .int v1, .int v2] μ out :=
  zCt.of [some (.ref 60), some (.int v1), some (.int v2), none] (by decide +kernel) (Nat.le_of_ble_eq_true rfl) (zLw_s (zLw_s (zLw_s (zLw_e zLw_0)))) rfl (fun X hE ho hr hC => by
    subst hE; subst ho
    exact wX12_backNumber hC hr hf)
/-! X12_secretsOf -/
def fX12_secretsOf_4 (F : Nat) : Nat → Int32 → Int32 → Int32 → zMem → Option zR
  | 0, _, _, _, _ => none
  | n + 1, v1, v2, v3, μ => zBd (fX12_issueOf F v1 μ) (fun r2 m2 => zG ((nI 64) + r2) 1047 (if (m2 61 ((nI 64) + r2).toNatClampNeg) ≤ v3 then some (v2, m2) else zBd (fX12_printedOf F v1 v3 (nI 2) m2) (fun r3 m3 => fX12_secretsOf_4 F n v1 (v2 ||| ((nI 1) <<< (r3 &&& 31))) (v3 + (nI 1)) m3)))
def fX12_secretsOf (F : Nat) (v1 : Int32) (μ : zMem) : Option zR :=
  fX12_secretsOf_4 F F v1 (nI 0) (nI 0) μ
set_option maxRecDepth 20000 in
set_option maxHeartbeats 4000000 in
theorem wX12_secretsOf_4 {X : zX} {F : Nat} (hC : zCx X RX12 cX12_secretsOf 4 2) (hret : zRt X (some .int)) : ∀ (n : Nat) (v1 : Int32) (v2 : Int32) (v3 : Int32) (μ : zMem), fX12_secretsOf_4 F n v1 v2 v3 μ = some (zOut X) → zAW X 4 [some (.ref 60), some (.int v1), some (.int v2), some (.int v3)] [] μ := by
  intro n
  induction n with
  | zero =>
    intro v1 v2 v3 μ hf
    rw [fX12_secretsOf_4] at hf
    cases hf
  | succ n ih =>
    intro v1 v2 v3 μ hf
    rw [fX12_secretsOf_4] at hf
    refine zs_il hC dX12_secretsOf_4 rfl ?_
    refine zs_al hC dX12_secretsOf_5 rfl ?_
    refine zs_getR 61 hC fl_RX12_7 zL60 rfl dX12_secretsOf_6 ?_
    refine zs_k hC dX12_secretsOf_9 ?_
    refine zs_al hC dX12_secretsOf_11 rfl ?_
    refine zs_il hC dX12_secretsOf_12 rfl ?_
    refine zs_callV [.int v1] hC cw_X12_issueOf cl_RX12_311 zL60 rfl (by decide) rfl rfl (Nat.le_of_ble_eq_true rfl) dX12_secretsOf_13 (fun _ h => ctX12_issueOf h) (fun r2 m2 _ hf => ?_) hf
    show zAW X 16 _ (.int r2 :: _) m2
    refine zs_iadd hC dX12_secretsOf_16 ?_
    refine zs_iald hC zL61 dX12_secretsOf_17 (fun _ hf => ?_) hf
    refine zs_ic_ge hC dX12_secretsOf_18 (fun _ hf => ?_) (fun _ hf => ?_) hf
    · refine zs_il hC dX12_secretsOf_39 rfl ?_
      exact zs_iret hC hret dX12_secretsOf_40 hf
    · refine zs_il hC dX12_secretsOf_21 rfl ?_
      refine zs_k hC dX12_secretsOf_22 ?_
      refine zs_al hC dX12_secretsOf_23 rfl ?_
      refine zs_il hC dX12_secretsOf_24 rfl ?_
      refine zs_il hC dX12_secretsOf_25 rfl ?_
      refine zs_k hC dX12_secretsOf_26 ?_
      refine zs_callV [.int v1, .int v3, .int (nI 2)] hC cw_X12_printedOf cl_RX12_314 zL60 rfl (by decide) rfl rfl (Nat.le_of_ble_eq_true rfl) dX12_secretsOf_27 (fun _ h => ctX12_printedOf h) (fun r3 m3 _ hf => ?_) hf
      show zAW X 30 _ (.int r3 :: _) m3
      refine zs_ishl hC dX12_secretsOf_30 ?_
      refine zs_ior hC dX12_secretsOf_31 ?_
      refine zs_is hC dX12_secretsOf_32 (by decide) rfl ?_
      refine zs_iinc (nI 1) hC dX12_secretsOf_33 (by decide) rfl (by decide) rfl ?_
      refine zs_goto hC dX12_secretsOf_36 ?_
      exact zAW.weak (ih _ _ _ _ hf) (zLw_s (zLw_s (zLw_s (zLw_s zLw_0))))
set_option maxRecDepth 20000 in
set_option maxHeartbeats 4000000 in
theorem wX12_secretsOf {X : zX} {F : Nat} (hC : zCx X RX12 cX12_secretsOf 4 2) (hret : zRt X (some .int)) {v1 : Int32} {μ : zMem} (hf : fX12_secretsOf F v1 μ = some (zOut X)) : zAW X 0 [some (.ref 60), some (.int v1), none, none] [] μ := by
  unfold fX12_secretsOf at hf
  refine zs_k hC dX12_secretsOf_0 ?_
  refine zs_is hC dX12_secretsOf_1 (by decide) rfl ?_
  refine zs_k hC dX12_secretsOf_2 ?_
  refine zs_is hC dX12_secretsOf_3 (by decide) rfl ?_
  exact zAW.weak (wX12_secretsOf_4 hC hret F _ _ _ _ hf) (zLw_s (zLw_s (zLw_s (zLw_s zLw_0))))
set_option maxRecDepth 20000 in
set_option maxHeartbeats 4000000 in
theorem ctX12_secretsOf {E : zEV} {F : Nat} {v1 : Int32} {μ : zMem} {out : zR} (hf : fX12_secretsOf F v1 μ = some out) : zCt E yX12_secretsOf cX12_secretsOf 4 (some .int) 2 [.ref 60, .int v1] μ out :=
  zCt.of [some (.ref 60), some (.int v1), none, none] (by decide +kernel) (Nat.le_of_ble_eq_true rfl) (zLw_s (zLw_s (zLw_e (zLw_e zLw_0)))) rfl (fun X hE ho hr hC => by
    subst hE; subst ho
    exact wX12_secretsOf hC hr hf)
/-! X12_laysBlackmail -/
def fX12_laysBlackmail_77 (F : Nat) (k58 : Int32 → Int32 → zMem → Option zR) : Nat → Int32 → Int32 → Int32 → Int32 → zMem → Option zR
  | 0, _, _, _, _, _ => none
  | n + 1, v1, v2, v3, v4, μ => if v4 ≤ 0 then zG v1 65536 (if (μ 83 v1.toNatClampNeg) < (μ 60 38) then zG v1 65536 (k58 v1 (v2 + (nI 1)) (zUp (zUp μ 60 38 (μ 83 v1.toNatClampNeg)) 60 39 v2)) else k58 v1 (v2 + (nI 1)) μ) else if (v4 &&& (v1 ^^^ (-1 : Int32))) = 0 then zG (v4 &&& (v3 ^^^ (-1 : Int32))) 65536 (zG v4 65536 (if ((μ 83 (v4 &&& (v3 ^^^ (-1 : Int32))).toNatClampNeg) + (nI 1)) < (μ 83 v4.toNatClampNeg) then zG (v4 &&& (v3 ^^^ (-1 : Int32))) 65536 (zG v4 65536 (fX12_laysBlackmail_77 F k58 n v1 v2 v3 (v4 + (-1 : Int32)) (zUp μ 83 v4.toNatClampNeg ((((μ 83 (v4 &&& (v3 ^^^ (-1 : Int32))).toNatClampNeg) + (nI 1)).toInt8.toInt32).toInt8.toInt32)))) else fX12_laysBlackmail_77 F k58 n v1 v2 v3 (v4 + (-1 : Int32)) μ)) else fX12_laysBlackmail_77 F k58 n v1 v2 v3 (v4 + (-1 : Int32)) μ
def fX12_laysBlackmail_58 (F : Nat) : Nat → Int32 → Int32 → zMem → Option zR
  | 0, _, _, _ => none
  | n + 1, v1, v2, μ => zBd (fX12_backMany F μ) (fun r1 m1 => if r1 < v2 then some ((nI 0), m1) else zBd (fX12_secretsOf F v2 m1) (fun r2 m2 => fX12_laysBlackmail_77 F (fX12_laysBlackmail_58 F n) F v1 v2 (r2 &&& v1) v1 m2))
def fX12_laysBlackmail_14 (F : Nat) : Nat → Int32 → Int32 → zMem → Option zR
  | 0, _, _, _ => none
  | n + 1, v1, v2, μ => if v1 < v2 then if v1 = 0 then fX12_laysBlackmail_58 F F v1 (nI 1) (zUp (zUp μ 60 38 (nI 0)) 60 39 (nI 0)) else fX12_laysBlackmail_58 F F v1 (nI 1) μ else if v2 = 0 then zG v2 65536 (fX12_laysBlackmail_14 F n v1 (v2 + (nI 1)) (zUp μ 83 v2.toNatClampNeg (((nI 0).toInt8.toInt32).toInt8.toInt32))) else zG v2 65536 (fX12_laysBlackmail_14 F n v1 (v2 + (nI 1)) (zUp μ 83 v2.toNatClampNeg (((nI 99).toInt8.toInt32).toInt8.toInt32)))
def fX12_laysBlackmail (F : Nat) (v1 : Int32) (μ : zMem) : Option zR :=
  fX12_laysBlackmail_14 F F v1 (nI 0) (zUp (zUp μ 60 38 (nI 99)) 60 39 (-2 : Int32))
set_option maxRecDepth 20000 in
set_option maxHeartbeats 4000000 in
theorem wX12_laysBlackmail_77 {X : zX} {F : Nat} (hC : zCx X RX12 cX12_laysBlackmail 5 3) (hret : zRt X none) {k58 : Int32 → Int32 → zMem → Option zR} (hk58 : ∀ v1 v2 μ, k58 v1 v2 μ = some (zOut X) → zAW X 58 [some (.ref 60), some (.int v1), some (.int v2), none, none] [] μ) : ∀ (n : Nat) (v1 : Int32) (v2 : Int32) (v3 : Int32) (v4 : Int32) (μ : zMem), fX12_laysBlackmail_77 F k58 n v1 v2 v3 v4 μ = some (zOut X) → zAW X 77 [some (.ref 60), some (.int v1), some (.int v2), some (.int v3), some (.int v4)] [] μ := by
  intro n
  induction n with
  | zero =>
    intro v1 v2 v3 v4 μ hf
    rw [fX12_laysBlackmail_77] at hf
    cases hf
  | succ n ih =>
    intro v1 v2 v3 v4 μ hf
    rw [fX12_laysBlackmail_77] at hf
    refine zs_il hC dX12_laysBlackmail_77 rfl ?_
    refine zs_if_le hC dX12_laysBlackmail_79 (fun _ hf => ?_) (fun _ hf => ?_) hf
    · refine zs_al hC dX12_laysBlackmail_144 rfl ?_
      refine zs_getR 83 hC fl_RX12_78 zL60 rfl dX12_laysBlackmail_145 ?_
      refine zs_il hC dX12_laysBlackmail_148 rfl ?_
      refine zs_bald hC zL83 dX12_laysBlackmail_149 (fun _ hf => ?_) hf
      refine zs_al hC dX12_laysBlackmail_150 rfl ?_
      refine zs_getI hC fl_RX12_317 zL60 rfl dX12_laysBlackmail_151 ?_
      refine zs_ic_lt hC dX12_laysBlackmail_154 (fun _ hf => ?_) (fun _ hf => ?_) hf
      · refine zs_al hC dX12_laysBlackmail_160 rfl ?_
        refine zs_al hC dX12_laysBlackmail_161 rfl ?_
        refine zs_getR 83 hC fl_RX12_78 zL60 rfl dX12_laysBlackmail_162 ?_
        refine zs_il hC dX12_laysBlackmail_165 rfl ?_
        refine zs_bald hC zL83 dX12_laysBlackmail_166 (fun _ hf => ?_) hf
        refine zs_putI hC fl_RX12_317 fp_12_38 zL60 rfl dX12_laysBlackmail_167 ?_
        refine zs_al hC dX12_laysBlackmail_170 rfl ?_
        refine zs_il hC dX12_laysBlackmail_171 rfl ?_
        refine zs_putI hC fl_RX12_320 fp_12_39 zL60 rfl dX12_laysBlackmail_172 ?_
        refine zs_iinc (nI 1) hC dX12_laysBlackmail_175 (by decide) rfl (by decide) rfl ?_
        refine zs_goto hC dX12_laysBlackmail_178 ?_
        exact zAW.weak (hk58 _ _ _ hf) (zLw_s (zLw_s (zLw_s (zLw_n (zLw_n zLw_0)))))
      · refine zs_goto hC dX12_laysBlackmail_157 ?_
        refine zs_iinc (nI 1) hC dX12_laysBlackmail_175 (by decide) rfl (by decide) rfl ?_
        refine zs_goto hC dX12_laysBlackmail_178 ?_
        exact zAW.weak (hk58 _ _ _ hf) (zLw_s (zLw_s (zLw_s (zLw_n (zLw_n zLw_0)))))
    · refine zs_il hC dX12_laysBlackmail_82 rfl ?_
      refine zs_il hC dX12_laysBlackmail_84 rfl ?_
      refine zs_k hC dX12_laysBlackmail_85 ?_
      refine zs_ixor hC dX12_laysBlackmail_86 ?_
      refine zs_iand hC dX12_laysBlackmail_87 ?_
      refine zs_if_ne hC dX12_laysBlackmail_88 (fun _ hf => ?_) (fun _ hf => ?_) hf
      · refine zs_al hC dX12_laysBlackmail_91 rfl ?_
        refine zs_getR 83 hC fl_RX12_78 zL60 rfl dX12_laysBlackmail_92 ?_
        refine zs_il hC dX12_laysBlackmail_95 rfl ?_
        refine zs_il hC dX12_laysBlackmail_97 rfl ?_
        refine zs_k hC dX12_laysBlackmail_98 ?_
        refine zs_ixor hC dX12_laysBlackmail_99 ?_
        refine zs_iand hC dX12_laysBlackmail_100 ?_
        refine zs_bald hC zL83 dX12_laysBlackmail_101 (fun _ hf => ?_) hf
        refine zs_k hC dX12_laysBlackmail_102 ?_
        refine zs_iadd hC dX12_laysBlackmail_103 ?_
        refine zs_al hC dX12_laysBlackmail_104 rfl ?_
        refine zs_getR 83 hC fl_RX12_78 zL60 rfl dX12_laysBlackmail_105 ?_
        refine zs_il hC dX12_laysBlackmail_108 rfl ?_
        refine zs_bald hC zL83 dX12_laysBlackmail_110 (fun _ hf => ?_) hf
        refine zs_ic_lt hC dX12_laysBlackmail_111 (fun _ hf => ?_) (fun _ hf => ?_) hf
        · refine zs_al hC dX12_laysBlackmail_117 rfl ?_
          refine zs_getR 83 hC fl_RX12_78 zL60 rfl dX12_laysBlackmail_118 ?_
          refine zs_il hC dX12_laysBlackmail_121 rfl ?_
          refine zs_al hC dX12_laysBlackmail_123 rfl ?_
          refine zs_getR 83 hC fl_RX12_78 zL60 rfl dX12_laysBlackmail_124 ?_
          refine zs_il hC dX12_laysBlackmail_127 rfl ?_
          refine zs_il hC dX12_laysBlackmail_129 rfl ?_
          refine zs_k hC dX12_laysBlackmail_130 ?_
          refine zs_ixor hC dX12_laysBlackmail_131 ?_
          refine zs_iand hC dX12_laysBlackmail_132 ?_
          refine zs_bald hC zL83 dX12_laysBlackmail_133 (fun _ hf => ?_) hf
          refine zs_k hC dX12_laysBlackmail_134 ?_
          refine zs_iadd hC dX12_laysBlackmail_135 ?_
          refine zs_i2b hC dX12_laysBlackmail_136 ?_
          refine zs_bast hC zL83 dX12_laysBlackmail_137 (fun _ hf => ?_) hf
          refine zs_iinc (-1 : Int32) hC dX12_laysBlackmail_138 (by decide) rfl (by decide) rfl ?_
          refine zs_goto hC dX12_laysBlackmail_141 ?_
          exact zAW.weak (ih _ _ _ _ _ hf) (zLw_s (zLw_s (zLw_s (zLw_s (zLw_s zLw_0)))))
        · refine zs_goto hC dX12_laysBlackmail_114 ?_
          refine zs_iinc (-1 : Int32) hC dX12_laysBlackmail_138 (by decide) rfl (by decide) rfl ?_
          refine zs_goto hC dX12_laysBlackmail_141 ?_
          exact zAW.weak (ih _ _ _ _ _ hf) (zLw_s (zLw_s (zLw_s (zLw_s (zLw_s zLw_0)))))
      · refine zs_iinc (-1 : Int32) hC dX12_laysBlackmail_138 (by decide) rfl (by decide) rfl ?_
        refine zs_goto hC dX12_laysBlackmail_141 ?_
        exact zAW.weak (ih _ _ _ _ _ hf) (zLw_s (zLw_s (zLw_s (zLw_s (zLw_s zLw_0)))))
set_option maxRecDepth 20000 in
set_option maxHeartbeats 4000000 in
theorem wX12_laysBlackmail_58 {X : zX} {F : Nat} (hC : zCx X RX12 cX12_laysBlackmail 5 3) (hret : zRt X none) : ∀ (n : Nat) (v1 : Int32) (v2 : Int32) (μ : zMem), fX12_laysBlackmail_58 F n v1 v2 μ = some (zOut X) → zAW X 58 [some (.ref 60), some (.int v1), some (.int v2), none, none] [] μ := by
  intro n
  induction n with
  | zero =>
    intro v1 v2 μ hf
    rw [fX12_laysBlackmail_58] at hf
    cases hf
  | succ n ih =>
    intro v1 v2 μ hf
    rw [fX12_laysBlackmail_58] at hf
    refine zs_il hC dX12_laysBlackmail_58 rfl ?_
    refine zs_al hC dX12_laysBlackmail_59 rfl ?_
    refine zs_callV [] hC cw_X12_backMany cl_RX12_323 zL60 rfl (by decide) rfl rfl (Nat.le_of_ble_eq_true rfl) dX12_laysBlackmail_60 (fun _ h => ctX12_backMany h) (fun r1 m1 _ hf => ?_) hf
    show zAW X 63 _ (.int r1 :: _) m1
    refine zs_ic_gt hC dX12_laysBlackmail_63 (fun _ hf => ?_) (fun _ hf => ?_) hf
    · exact zs_vret hC hret dX12_laysBlackmail_181 hf
    · refine zs_al hC dX12_laysBlackmail_66 rfl ?_
      refine zs_il hC dX12_laysBlackmail_67 rfl ?_
      refine zs_callV [.int v2] hC cw_X12_secretsOf cl_RX12_326 zL60 rfl (by decide) rfl rfl (Nat.le_of_ble_eq_true rfl) dX12_laysBlackmail_68 (fun _ h => ctX12_secretsOf h) (fun r2 m2 _ hf => ?_) hf
      show zAW X 71 _ (.int r2 :: _) m2
      refine zs_il hC dX12_laysBlackmail_71 rfl ?_
      refine zs_iand hC dX12_laysBlackmail_72 ?_
      refine zs_is hC dX12_laysBlackmail_73 (by decide) rfl ?_
      refine zs_il hC dX12_laysBlackmail_74 rfl ?_
      refine zs_is hC dX12_laysBlackmail_75 (by decide) rfl ?_
      exact zAW.weak (wX12_laysBlackmail_77 hC hret (ih) F _ _ _ _ _ hf) (zLw_s (zLw_s (zLw_s (zLw_s (zLw_s zLw_0)))))
set_option maxRecDepth 20000 in
set_option maxHeartbeats 4000000 in
theorem wX12_laysBlackmail_14 {X : zX} {F : Nat} (hC : zCx X RX12 cX12_laysBlackmail 5 3) (hret : zRt X none) : ∀ (n : Nat) (v1 : Int32) (v2 : Int32) (μ : zMem), fX12_laysBlackmail_14 F n v1 v2 μ = some (zOut X) → zAW X 14 [some (.ref 60), some (.int v1), some (.int v2), none, none] [] μ := by
  intro n
  induction n with
  | zero =>
    intro v1 v2 μ hf
    rw [fX12_laysBlackmail_14] at hf
    cases hf
  | succ n ih =>
    intro v1 v2 μ hf
    rw [fX12_laysBlackmail_14] at hf
    refine zs_il hC dX12_laysBlackmail_14 rfl ?_
    refine zs_il hC dX12_laysBlackmail_15 rfl ?_
    refine zs_ic_gt hC dX12_laysBlackmail_16 (fun _ hf => ?_) (fun _ hf => ?_) hf
    · refine zs_il hC dX12_laysBlackmail_42 rfl ?_
      refine zs_if_ne hC dX12_laysBlackmail_43 (fun _ hf => ?_) (fun _ hf => ?_) hf
      · refine zs_al hC dX12_laysBlackmail_46 rfl ?_
        refine zs_k hC dX12_laysBlackmail_47 ?_
        refine zs_putI hC fl_RX12_317 fp_12_38 zL60 rfl dX12_laysBlackmail_48 ?_
        refine zs_al hC dX12_laysBlackmail_51 rfl ?_
        refine zs_k hC dX12_laysBlackmail_52 ?_
        refine zs_putI hC fl_RX12_320 fp_12_39 zL60 rfl dX12_laysBlackmail_53 ?_
        refine zs_k hC dX12_laysBlackmail_56 ?_
        refine zs_is hC dX12_laysBlackmail_57 (by decide) rfl ?_
        exact zAW.weak (wX12_laysBlackmail_58 hC hret F _ _ _ hf) (zLw_s (zLw_s (zLw_s (zLw_n (zLw_n zLw_0)))))
      · refine zs_k hC dX12_laysBlackmail_56 ?_
        refine zs_is hC dX12_laysBlackmail_57 (by decide) rfl ?_
        exact zAW.weak (wX12_laysBlackmail_58 hC hret F _ _ _ hf) (zLw_s (zLw_s (zLw_s (zLw_n (zLw_n zLw_0)))))
    · refine zs_al hC dX12_laysBlackmail_19 rfl ?_
      refine zs_getR 83 hC fl_RX12_78 zL60 rfl dX12_laysBlackmail_20 ?_
      refine zs_il hC dX12_laysBlackmail_23 rfl ?_
      refine zs_il hC dX12_laysBlackmail_24 rfl ?_
      refine zs_if_ne hC dX12_laysBlackmail_25 (fun _ hf => ?_) (fun _ hf => ?_) hf
      · refine zs_k hC dX12_laysBlackmail_28 ?_
        refine zs_goto hC dX12_laysBlackmail_29 ?_
        refine zs_i2b hC dX12_laysBlackmail_34 ?_
        refine zs_bast hC zL83 dX12_laysBlackmail_35 (fun _ hf => ?_) hf
        refine zs_iinc (nI 1) hC dX12_laysBlackmail_36 (by decide) rfl (by decide) rfl ?_
        refine zs_goto hC dX12_laysBlackmail_39 ?_
        exact zAW.weak (ih _ _ _ hf) (zLw_s (zLw_s (zLw_s (zLw_n (zLw_n zLw_0)))))
      · refine zs_k hC dX12_laysBlackmail_32 ?_
        refine zs_i2b hC dX12_laysBlackmail_34 ?_
        refine zs_bast hC zL83 dX12_laysBlackmail_35 (fun _ hf => ?_) hf
        refine zs_iinc (nI 1) hC dX12_laysBlackmail_36 (by decide) rfl (by decide) rfl ?_
        refine zs_goto hC dX12_laysBlackmail_39 ?_
        exact zAW.weak (ih _ _ _ hf) (zLw_s (zLw_s (zLw_s (zLw_n (zLw_n zLw_0)))))
set_option maxRecDepth 20000 in
set_option maxHeartbeats 4000000 in
theorem wX12_laysBlackmail {X : zX} {F : Nat} (hC : zCx X RX12 cX12_laysBlackmail 5 3) (hret : zRt X none) {v1 : Int32} {μ : zMem} (hf : fX12_laysBlackmail F v1 μ = some (zOut X)) : zAW X 0 [some (.ref 60), some (.int v1), none, none, none] [] μ := by
  unfold fX12_laysBlackmail at hf
  refine zs_al hC dX12_laysBlackmail_0 rfl ?_
  refine zs_k hC dX12_laysBlackmail_1 ?_
  refine zs_putI hC fl_RX12_317 fp_12_38 zL60 rfl dX12_laysBlackmail_3 ?_
  refine zs_al hC dX12_laysBlackmail_6 rfl ?_
  refine zs_k hC dX12_laysBlackmail_7 ?_
  refine zs_putI hC fl_RX12_320 fp_12_39 zL60 rfl dX12_laysBlackmail_9 ?_
  refine zs_k hC dX12_laysBlackmail_12 ?_
  refine zs_is hC dX12_laysBlackmail_13 (by decide) rfl ?_
  exact zAW.weak (wX12_laysBlackmail_14 hC hret F _ _ _ hf) (zLw_s (zLw_s (zLw_s (zLw_n (zLw_n zLw_0)))))
set_option maxRecDepth 20000 in
set_option maxHeartbeats 4000000 in
theorem ctX12_laysBlackmail {E : zEV} {F : Nat} {v1 : Int32} {μ : zMem} {out : zR} (hf : fX12_laysBlackmail F v1 μ = some out) : zCt E yX12_laysBlackmail cX12_laysBlackmail 5 none 3 [.ref 60, .int v1] μ out :=
  zCt.of [some (.ref 60), some (.int v1), none, none, none] (by decide +kernel) (Nat.le_of_ble_eq_true rfl) (zLw_s (zLw_s (zLw_e (zLw_e (zLw_e zLw_0))))) rfl (fun X hE ho hr hC => by
    subst hE; subst ho
    exact wX12_laysBlackmail hC hr hf)
